def b4_X3_accountsAt (S : Mem) (p1 : Int32) (j1 : Nat) (σ2 : Int32) : Int32 := lt (if (S.1 kBankOf (f_X3_holder S (nI j1))) = p1 then (1) else (0)) (fun (v4 : Int32) => σ2 + v4)
def f_X3_accountsAt (S : Mem) (p1 : Int32) : Int32 := lt (iter (b4_X3_accountsAt S p1) 0 (16)) (fun (σ2 : Int32) => σ2)
abbrev fdX3_accountsAt : FD := (mdX3_accountsAt, [], 1, 22, 0, 0)
set_option maxRecDepth 100000 in
set_option maxHeartbeats 4000000 in
theorem w_X3_accountsAt {O : Om} {G : Cx} {S : Mem} {PP : Option AV → Mem → Prop} (p1 : Int32)   (hP : ∀ x9, f_X3_accountsAt S p1 = x9 → PP (some (vi x9)) S) : BW O G fdX3_accountsAt 0 0 (QV O G 0 0 PP) S 0 [some (vr 3 0), some (vi p1), none, none] [] := by
  refine a_iconst (pc := 0) 0 0 (v := 0) rfl (by decide) ?_
  refine a_istore_n (pc := 1) 0 1 (ls2 := [some (vr 3 0), some (vi p1), some (vi 0), none]) rfl rfl (by decide) rfl ?_
  refine a_iconst (pc := 2) 0 2 (v := 0) rfl (by decide) ?_
  refine a_istore_n (pc := 3) 0 3 (ls2 := [some (vr 3 0), some (vi p1), some (vi 0), some (vi 0)]) rfl rfl (by decide) rfl ?_
  have L4_4 : ∀ (m_j1 j1 : Nat), j1 + m_j1 = 16 → ∀ (σ2 : Int32), iter (b4_X3_accountsAt S p1) 0 j1 = σ2 → BW O G fdX3_accountsAt 0 0 (QV O G 0 0 PP) S 4 [some (vr 3 0), some (vi p1), some (vi σ2), some (vi (nI j1))] [] := by
    intro m_j1
    induction m_j1 with
    | zero =>
      intro j1 hj_j1 σ2 eσ2
      have hn_j1 : j1 = 16 := by omega
      rw [hn_j1] at eσ2
      refine a_iload_n (pc := 4) 0 4 rfl rfl ?_
      refine a_bipush (pc := 5) 0 5 (v := nI 16) rfl (by decide) ?_
      refine a_icmp_ge_t (pc := 7) (tgt := 36) 0 6 rfl (by decide) (nI_le (by omega) (by omega)) ?_
      refine a_iload_n (pc := 36) 0 21 rfl rfl ?_
      exact a_iret (pc := 37) 0 22 rfl rfl (hP _ (by unfold f_X3_accountsAt; exact lt_eq eσ2))
    | succ m_j1 ih_j1 =>
      intro j1 hj_j1 σ2 eσ2
      refine a_iload_n (pc := 4) 0 4 rfl rfl ?_
      refine a_bipush (pc := 5) 0 5 (v := nI 16) rfl (by decide) ?_
      refine a_icmp_ge_f (pc := 7) (tgt := 36) 0 6 rfl (nI_ge (by omega) (by omega)) (by decide) ?_
      refine a_iload_n (pc := 10) 0 7 rfl rfl ?_
      refine a_aload_n (pc := 11) 0 8 rfl rfl ?_
      refine a_iload_n (pc := 12) 0 9 rfl rfl ?_
      refine a_callVr (pc := 13) 0 10 (c_X3_holder (S := S) (nI j1)) rfl cv_X3_47 (by decide) rfl rfl rfl (rm rfl) ?_
      refine g_5_bank (pc := 16) 0 11 rfl (show f_X3_holder S (nI j1) < 17 from r_X3_holder) fl_X3_59 ?_
      refine a_iload_n (pc := 19) 0 12 rfl rfl ?_
      have J28_5 : ∀ (v4 : Int32) (ev4 : (if (S.1 kBankOf (f_X3_holder S (nI j1))) = p1 then (1) else (0)) = v4), BW O G fdX3_accountsAt 0 0 (QV O G 0 0 PP) S 28 [some (vr 3 0), some (vi p1), some (vi σ2), some (vi (nI j1))] [vi v4, vi σ2] := by
        intro v4 ev4
        refine a_iadd (pc := 28) 0 17 rfl ?_
        refine a_istore_n (pc := 29) 0 18 (ls2 := [some (vr 3 0), some (vi p1), some (vi (σ2 + v4)), some (vi (nI j1))]) rfl rfl (by decide) rfl ?_
        refine a_iinc (pc := 30) 0 19 (v := nI (j1 + 1)) (ls2 := [some (vr 3 0), some (vi p1), some (vi (σ2 + v4)), some (vi (nI (j1 + 1)))]) rfl rfl (iinc1 _) (by decide) rfl ?_
        refine a_goto (pc := 33) (tgt := 4) 0 20 rfl (by decide) ?_
        exact ih_j1 (j1 + 1) (by omega) (σ2 + v4) (by rw [iter_succ, eσ2]; unfold b4_X3_accountsAt; exact (lt_eq ev4))
      refine a_icmp_ne (pc := 20) (tgt := 27) 0 13 rfl (by decide) (fun c20_2 => ?_) (fun c20_2 => ?_)
      · refine a_iconst (pc := 27) 0 16 (v := 0) rfl (by decide) ?_
        exact J28_5 _ (by exact (if_neg c20_2))
      · refine a_iconst (pc := 23) 0 14 (v := 1) rfl (by decide) ?_
        refine a_goto (pc := 24) (tgt := 28) 0 15 rfl (by decide) ?_
        exact J28_5 _ (by exact (if_pos c20_2))
  exact L4_4 (16) 0 (by omega) 0 rfl
theorem c_X3_accountsAt {S : Mem} (p1 : Int32)   : Cts mdX3_accountsAt 1 22 [vr 3 0, vi p1] S (Is (some (vi (f_X3_accountsAt S p1))) (S)) := Cts.of dtX3_accountsAt (by decide +kernel) rfl rfl (Nat.le_of_ble_eq_true rfl) rfl (fun O G => w_X3_accountsAt p1 (fun _ h9 => ⟨by rw [h9], rfl⟩))
def b4_X3_inAccountsAt (S : Mem) (p1 : Int32) (j1 : Nat) (σ2 : Int32) : Int32 := lt (if (S.1 kBankOf (f_X3_holder S (nI j1))) = p1 then (S.1 kAccounts (f_X3_holder S (nI j1))) else (0)) (fun (v4 : Int32) => σ2 + v4)
def f_X3_inAccountsAt (S : Mem) (p1 : Int32) : Int32 := lt (iter (b4_X3_inAccountsAt S p1) 0 (16)) (fun (σ2 : Int32) => σ2)
abbrev fdX3_inAccountsAt : FD := (mdX3_inAccountsAt, [], 1, 22, 0, 0)
set_option maxRecDepth 100000 in
set_option maxHeartbeats 4000000 in
theorem w_X3_inAccountsAt {O : Om} {G : Cx} {S : Mem} {PP : Option AV → Mem → Prop} (p1 : Int32)   (hP : ∀ x9, f_X3_inAccountsAt S p1 = x9 → PP (some (vi x9)) S) : BW O G fdX3_inAccountsAt 0 0 (QV O G 0 0 PP) S 0 [some (vr 3 0), some (vi p1), none, none, none] [] := by
  refine a_iconst (pc := 0) 0 0 (v := 0) rfl (by decide) ?_
  refine a_istore_n (pc := 1) 0 1 (ls2 := [some (vr 3 0), some (vi p1), some (vi 0), none, none]) rfl rfl (by decide) rfl ?_
  refine a_iconst (pc := 2) 0 2 (v := 0) rfl (by decide) ?_
  refine a_istore_n (pc := 3) 0 3 (ls2 := [some (vr 3 0), some (vi p1), some (vi 0), some (vi 0), none]) rfl rfl (by decide) rfl ?_
  have L4_4 : ∀ (m_j1 j1 : Nat), j1 + m_j1 = 16 → ∀ (σ2 : Int32), iter (b4_X3_inAccountsAt S p1) 0 j1 = σ2 → BW O G fdX3_inAccountsAt 0 0 (QV O G 0 0 PP) S 4 [some (vr 3 0), some (vi p1), some (vi σ2), some (vi (nI j1)), none] [] := by
    intro m_j1
    induction m_j1 with
    | zero =>
      intro j1 hj_j1 σ2 eσ2
      have hn_j1 : j1 = 16 := by omega
      rw [hn_j1] at eσ2
      refine a_iload_n (pc := 4) 0 4 rfl rfl ?_
      refine a_bipush (pc := 5) 0 5 (v := nI 16) rfl (by decide) ?_
      refine a_icmp_ge_t (pc := 7) (tgt := 44) 0 6 rfl (by decide) (nI_le (by omega) (by omega)) ?_
      refine a_iload_n (pc := 44) 0 24 rfl rfl ?_
      exact a_iret (pc := 45) 0 25 rfl rfl (hP _ (by unfold f_X3_inAccountsAt; exact lt_eq eσ2))
    | succ m_j1 ih_j1 =>
      intro j1 hj_j1 σ2 eσ2
      refine a_iload_n (pc := 4) 0 4 rfl rfl ?_
      refine a_bipush (pc := 5) 0 5 (v := nI 16) rfl (by decide) ?_
      refine a_icmp_ge_f (pc := 7) (tgt := 44) 0 6 rfl (nI_ge (by omega) (by omega)) (by decide) ?_
      refine a_aload_n (pc := 10) 0 7 rfl rfl ?_
      refine a_iload_n (pc := 11) 0 8 rfl rfl ?_
      refine a_callVr (pc := 12) 0 9 (c_X3_holder (S := S) (nI j1)) rfl cv_X3_47 (by decide) rfl rfl rfl (rm rfl) ?_
      refine a_astore (pc := 15) 0 10 (ls2 := [some (vr 3 0), some (vi p1), some (vi σ2), some (vi (nI j1)), some (vr 5 (f_X3_holder S (nI j1)))]) rfl (by decide) rfl ?_
      refine a_iload_n (pc := 17) 0 11 rfl rfl ?_
      refine a_aload (pc := 18) 0 12 rfl rfl ?_
      refine g_5_bank (pc := 20) 0 13 rfl (show f_X3_holder S (nI j1) < 17 from r_X3_holder) fl_X3_59 ?_
      refine a_iload_n (pc := 23) 0 14 rfl rfl ?_
      have J36_5 : ∀ (v4 : Int32) (ev4 : (if (S.1 kBankOf (f_X3_holder S (nI j1))) = p1 then (S.1 kAccounts (f_X3_holder S (nI j1))) else (0)) = v4), BW O G fdX3_inAccountsAt 0 0 (QV O G 0 0 PP) S 36 [some (vr 3 0), some (vi p1), some (vi σ2), some (vi (nI j1)), some (vr 5 (f_X3_holder S (nI j1)))] [vi v4, vi σ2] := by
        intro v4 ev4
        refine a_iadd (pc := 36) 0 20 rfl ?_
        refine a_istore_n (pc := 37) 0 21 (ls2 := [some (vr 3 0), some (vi p1), some (vi (σ2 + v4)), some (vi (nI j1)), some (vr 5 (f_X3_holder S (nI j1)))]) rfl rfl (by decide) rfl ?_
        refine a_iinc (pc := 38) 0 22 (v := nI (j1 + 1)) (ls2 := [some (vr 3 0), some (vi p1), some (vi (σ2 + v4)), some (vi (nI (j1 + 1))), some (vr 5 (f_X3_holder S (nI j1)))]) rfl rfl (iinc1 _) (by decide) rfl ?_
        refine a_goto (pc := 41) (tgt := 4) 0 23 rfl (by decide) ?_
        refine a_drop (ls2 := [some (vr 3 0), some (vi p1), some (vi (σ2 + v4)), some (vi (nI (j1 + 1))), none]) (⟨rfl, rfl, rfl, rfl, trivial⟩) ?_
        exact ih_j1 (j1 + 1) (by omega) (σ2 + v4) (by rw [iter_succ, eσ2]; unfold b4_X3_inAccountsAt; exact (lt_eq ev4))
      refine a_icmp_ne (pc := 24) (tgt := 35) 0 15 rfl (by decide) (fun c24_2 => ?_) (fun c24_2 => ?_)
      · refine a_iconst (pc := 35) 0 19 (v := 0) rfl (by decide) ?_
        exact J36_5 _ (by exact (if_neg c24_2))
      · refine a_aload (pc := 27) 0 16 rfl rfl ?_
        refine g_5_balance (pc := 29) 0 17 rfl (show f_X3_holder S (nI j1) < 17 from r_X3_holder) fl_X3_51 ?_
        refine a_goto (pc := 32) (tgt := 36) 0 18 rfl (by decide) ?_
        exact J36_5 _ (by exact (if_pos c24_2))
  exact L4_4 (16) 0 (by omega) 0 rfl
theorem c_X3_inAccountsAt {S : Mem} (p1 : Int32)   : Cts mdX3_inAccountsAt 1 22 [vr 3 0, vi p1] S (Is (some (vi (f_X3_inAccountsAt S p1))) (S)) := Cts.of dtX3_inAccountsAt (by decide +kernel) rfl rfl (Nat.le_of_ble_eq_true rfl) rfl (fun O G => w_X3_inAccountsAt p1 (fun _ h9 => ⟨by rw [h9], rfl⟩))
def b4_X3_goodNotesOfHolders (S : Mem) (j1 : Nat) (σ2 : Int32) : Int32 := σ2 + ((S.1 kNotes (f_X3_holder S (nI j1))) - (S.1 kForged (f_X3_holder S (nI j1))))
def f_X3_goodNotesOfHolders (S : Mem)  : Int32 := lt (iter (b4_X3_goodNotesOfHolders S) 0 (16)) (fun (σ2 : Int32) => σ2)
abbrev fdX3_goodNotesOfHolders : FD := (mdX3_goodNotesOfHolders, [], 1, 22, 0, 0)
set_option maxRecDepth 100000 in
set_option maxHeartbeats 4000000 in
theorem w_X3_goodNotesOfHolders {O : Om} {G : Cx} {S : Mem} {PP : Option AV → Mem → Prop}    (hP : ∀ x9, f_X3_goodNotesOfHolders S  = x9 → PP (some (vi x9)) S) : BW O G fdX3_goodNotesOfHolders 0 0 (QV O G 0 0 PP) S 0 [some (vr 3 0), none, none, none] [] := by
  refine a_iconst (pc := 0) 0 0 (v := 0) rfl (by decide) ?_
  refine a_istore_n (pc := 1) 0 1 (ls2 := [some (vr 3 0), some (vi 0), none, none]) rfl rfl (by decide) rfl ?_
  refine a_iconst (pc := 2) 0 2 (v := 0) rfl (by decide) ?_
  refine a_istore_n (pc := 3) 0 3 (ls2 := [some (vr 3 0), some (vi 0), some (vi 0), none]) rfl rfl (by decide) rfl ?_
  have L4_2 : ∀ (m_j1 j1 : Nat), j1 + m_j1 = 16 → ∀ (σ2 : Int32), iter (b4_X3_goodNotesOfHolders S) 0 j1 = σ2 → BW O G fdX3_goodNotesOfHolders 0 0 (QV O G 0 0 PP) S 4 [some (vr 3 0), some (vi σ2), some (vi (nI j1)), none] [] := by
    intro m_j1
    induction m_j1 with
    | zero =>
      intro j1 hj_j1 σ2 eσ2
      have hn_j1 : j1 = 16 := by omega
      rw [hn_j1] at eσ2
      refine a_iload_n (pc := 4) 0 4 rfl rfl ?_
      refine a_bipush (pc := 5) 0 5 (v := nI 16) rfl (by decide) ?_
      refine a_icmp_ge_t (pc := 7) (tgt := 34) 0 6 rfl (by decide) (nI_le (by omega) (by omega)) ?_
      refine a_iload_n (pc := 34) 0 21 rfl rfl ?_
      exact a_iret (pc := 35) 0 22 rfl rfl (hP _ (by unfold f_X3_goodNotesOfHolders; exact lt_eq eσ2))
    | succ m_j1 ih_j1 =>
      intro j1 hj_j1 σ2 eσ2
      refine a_iload_n (pc := 4) 0 4 rfl rfl ?_
      refine a_bipush (pc := 5) 0 5 (v := nI 16) rfl (by decide) ?_
      refine a_icmp_ge_f (pc := 7) (tgt := 34) 0 6 rfl (nI_ge (by omega) (by omega)) (by decide) ?_
      refine a_aload_n (pc := 10) 0 7 rfl rfl ?_
      refine a_iload_n (pc := 11) 0 8 rfl rfl ?_
      refine a_callVr (pc := 12) 0 9 (c_X3_holder (S := S) (nI j1)) rfl cv_X3_47 (by decide) rfl rfl rfl (rm rfl) ?_
      refine a_astore_n (pc := 15) 0 10 (ls2 := [some (vr 3 0), some (vi σ2), some (vi (nI j1)), some (vr 5 (f_X3_holder S (nI j1)))]) rfl rfl (by decide) rfl ?_
      refine a_iload_n (pc := 16) 0 11 rfl rfl ?_
      refine a_aload_n (pc := 17) 0 12 rfl rfl ?_
      refine g_5_notes (pc := 18) 0 13 rfl (show f_X3_holder S (nI j1) < 17 from r_X3_holder) fl_X3_62 ?_
      refine a_aload_n (pc := 21) 0 14 rfl rfl ?_
      refine g_5_forged (pc := 22) 0 15 rfl (show f_X3_holder S (nI j1) < 17 from r_X3_holder) fl_X3_65 ?_
      refine a_isub (pc := 25) 0 16 rfl ?_
      refine a_iadd (pc := 26) 0 17 rfl ?_
      refine a_istore_n (pc := 27) 0 18 (ls2 := [some (vr 3 0), some (vi (σ2 + ((S.1 kNotes (f_X3_holder S (nI j1))) - (S.1 kForged (f_X3_holder S (nI j1)))))), some (vi (nI j1)), some (vr 5 (f_X3_holder S (nI j1)))]) rfl rfl (by decide) rfl ?_
      refine a_iinc (pc := 28) 0 19 (v := nI (j1 + 1)) (ls2 := [some (vr 3 0), some (vi (σ2 + ((S.1 kNotes (f_X3_holder S (nI j1))) - (S.1 kForged (f_X3_holder S (nI j1)))))), some (vi (nI (j1 + 1))), some (vr 5 (f_X3_holder S (nI j1)))]) rfl rfl (iinc1 _) (by decide) rfl ?_
      refine a_goto (pc := 31) (tgt := 4) 0 20 rfl (by decide) ?_
      refine a_drop (ls2 := [some (vr 3 0), some (vi (σ2 + ((S.1 kNotes (f_X3_holder S (nI j1))) - (S.1 kForged (f_X3_holder S (nI j1)))))), some (vi (nI (j1 + 1))), none]) (⟨rfl, rfl, rfl, trivial⟩) ?_
      exact ih_j1 (j1 + 1) (by omega) (σ2 + ((S.1 kNotes (f_X3_holder S (nI j1))) - (S.1 kForged (f_X3_holder S (nI j1))))) (by rw [iter_succ, eσ2]; unfold b4_X3_goodNotesOfHolders; exact rfl)
  exact L4_2 (16) 0 (by omega) 0 rfl
theorem c_X3_goodNotesOfHolders {S : Mem}    : Cts mdX3_goodNotesOfHolders 1 22 [vr 3 0] S (Is (some (vi (f_X3_goodNotesOfHolders S ))) (S)) := Cts.of dtX3_goodNotesOfHolders (by decide +kernel) rfl rfl (Nat.le_of_ble_eq_true rfl) rfl (fun O G => w_X3_goodNotesOfHolders  (fun _ h9 => ⟨by rw [h9], rfl⟩))
def b4_X3_banksThatStand (S : Mem) (j1 : Nat) (σ2 : Int32) : Int32 := lt (if (S.1 kHaveFailed (f_X3_bank S (nI j1))) = 0 then (1) else (0)) (fun (v4 : Int32) => σ2 + v4)
def f_X3_banksThatStand (S : Mem)  : Int32 := lt (iter (b4_X3_banksThatStand S) 0 (4)) (fun (σ2 : Int32) => σ2)
abbrev fdX3_banksThatStand : FD := (mdX3_banksThatStand, [], 1, 22, 0, 0)
set_option maxRecDepth 100000 in
set_option maxHeartbeats 4000000 in
theorem w_X3_banksThatStand {O : Om} {G : Cx} {S : Mem} {PP : Option AV → Mem → Prop}    (hP : ∀ x9, f_X3_banksThatStand S  = x9 → PP (some (vi x9)) S) : BW O G fdX3_banksThatStand 0 0 (QV O G 0 0 PP) S 0 [some (vr 3 0), none, none] [] := by
  refine a_iconst (pc := 0) 0 0 (v := 0) rfl (by decide) ?_
  refine a_istore_n (pc := 1) 0 1 (ls2 := [some (vr 3 0), some (vi 0), none]) rfl rfl (by decide) rfl ?_
  refine a_iconst (pc := 2) 0 2 (v := 0) rfl (by decide) ?_
  refine a_istore_n (pc := 3) 0 3 (ls2 := [some (vr 3 0), some (vi 0), some (vi 0)]) rfl rfl (by decide) rfl ?_
  have L4_4 : ∀ (m_j1 j1 : Nat), j1 + m_j1 = 4 → ∀ (σ2 : Int32), iter (b4_X3_banksThatStand S) 0 j1 = σ2 → BW O G fdX3_banksThatStand 0 0 (QV O G 0 0 PP) S 4 [some (vr 3 0), some (vi σ2), some (vi (nI j1))] [] := by
    intro m_j1
    induction m_j1 with
    | zero =>
      intro j1 hj_j1 σ2 eσ2
      have hn_j1 : j1 = 4 := by omega
      rw [hn_j1] at eσ2
      refine a_iload_n (pc := 4) 0 4 rfl rfl ?_
      refine a_iconst (pc := 5) 0 5 (v := nI 4) rfl (by decide) ?_
      refine a_icmp_ge_t (pc := 6) (tgt := 34) 0 6 rfl (by decide) (nI_le (by omega) (by omega)) ?_
      refine a_iload_n (pc := 34) 0 20 rfl rfl ?_
      exact a_iret (pc := 35) 0 21 rfl rfl (hP _ (by unfold f_X3_banksThatStand; exact lt_eq eσ2))
    | succ m_j1 ih_j1 =>
      intro j1 hj_j1 σ2 eσ2
      refine a_iload_n (pc := 4) 0 4 rfl rfl ?_
      refine a_iconst (pc := 5) 0 5 (v := nI 4) rfl (by decide) ?_
      refine a_icmp_ge_f (pc := 6) (tgt := 34) 0 6 rfl (nI_ge (by omega) (by omega)) (by decide) ?_
      refine a_iload_n (pc := 9) 0 7 rfl rfl ?_
      refine a_aload_n (pc := 10) 0 8 rfl rfl ?_
      refine a_iload_n (pc := 11) 0 9 rfl rfl ?_
      refine a_callVr (pc := 12) 0 10 (c_X3_bank (S := S) (nI j1)) rfl cv_X3_68 (by decide) rfl rfl rfl (rm rfl) ?_
      refine g_0_hasFailed (pc := 15) 0 11 rfl (show f_X3_bank S (nI j1) < 5 from r_X3_bank) fl_X3_71 ?_
      have J26_5 : ∀ (v4 : Int32) (ev4 : (if (S.1 kHaveFailed (f_X3_bank S (nI j1))) = 0 then (1) else (0)) = v4), BW O G fdX3_banksThatStand 0 0 (QV O G 0 0 PP) S 26 [some (vr 3 0), some (vi σ2), some (vi (nI j1))] [vi v4, vi σ2] := by
        intro v4 ev4
        refine a_iadd (pc := 26) 0 16 rfl ?_
        refine a_istore_n (pc := 27) 0 17 (ls2 := [some (vr 3 0), some (vi (σ2 + v4)), some (vi (nI j1))]) rfl rfl (by decide) rfl ?_
        refine a_iinc (pc := 28) 0 18 (v := nI (j1 + 1)) (ls2 := [some (vr 3 0), some (vi (σ2 + v4)), some (vi (nI (j1 + 1)))]) rfl rfl (iinc1 _) (by decide) rfl ?_
        refine a_goto (pc := 31) (tgt := 4) 0 19 rfl (by decide) ?_
        exact ih_j1 (j1 + 1) (by omega) (σ2 + v4) (by rw [iter_succ, eσ2]; unfold b4_X3_banksThatStand; exact (lt_eq ev4))
      refine a_if_eq (pc := 18) (tgt := 25) 0 12 rfl (by decide) (fun c18_2 => ?_) (fun c18_2 => ?_)
      · refine a_iconst (pc := 25) 0 15 (v := 1) rfl (by decide) ?_
        exact J26_5 _ (by exact (if_pos c18_2))
      · refine a_iconst (pc := 21) 0 13 (v := 0) rfl (by decide) ?_
        refine a_goto (pc := 22) (tgt := 26) 0 14 rfl (by decide) ?_
        exact J26_5 _ (by exact (if_neg c18_2))
  exact L4_4 (4) 0 (by omega) 0 rfl
theorem c_X3_banksThatStand {S : Mem}    : Cts mdX3_banksThatStand 1 22 [vr 3 0] S (Is (some (vi (f_X3_banksThatStand S ))) (S)) := Cts.of dtX3_banksThatStand (by decide +kernel) rfl rfl (Nat.le_of_ble_eq_true rfl) rfl (fun O G => w_X3_banksThatStand  (fun _ h9 => ⟨by rw [h9], rfl⟩))
def b6_X3_bankThatLacksMost (S : Mem) (j1 : Nat) (σ2 : Int32 × Int32) : Int32 × Int32 := lt (f_X0_lacks S (f_X3_bank S (nI j1))) (fun (v3 : Int32) => lt (if v3 ≤ σ2.2 then (σ2.1) else (nI j1)) (fun (v5 : Int32) => lt (if v3 ≤ σ2.2 then (σ2.2) else (v3)) (fun (v6 : Int32) => (v5, v6))))
def f_X3_bankThatLacksMost (S : Mem)  : Int32 := lt (iter (b6_X3_bankThatLacksMost S) ((-1), 0) (4)) (fun (σ2 : Int32 × Int32) => σ2.1)
abbrev fdX3_bankThatLacksMost : FD := (mdX3_bankThatLacksMost, [], 2, 41, 0, 0)
set_option maxRecDepth 100000 in
set_option maxHeartbeats 4000000 in
theorem w_X3_bankThatLacksMost {O : Om} {G : Cx} {S : Mem} {PP : Option AV → Mem → Prop}    (hP : ∀ x9, f_X3_bankThatLacksMost S  = x9 → PP (some (vi x9)) S) : BW O G fdX3_bankThatLacksMost 0 0 (QV O G 0 0 PP) S 0 [some (vr 3 0), none, none, none, none] [] := by
  refine a_iconst (pc := 0) 0 0 (v := (-1)) rfl (by decide) ?_
  refine a_istore_n (pc := 1) 0 1 (ls2 := [some (vr 3 0), some (vi (-1)), none, none, none]) rfl rfl (by decide) rfl ?_
  refine a_iconst (pc := 2) 0 2 (v := 0) rfl (by decide) ?_
  refine a_istore_n (pc := 3) 0 3 (ls2 := [some (vr 3 0), some (vi (-1)), some (vi 0), none, none]) rfl rfl (by decide) rfl ?_
  refine a_iconst (pc := 4) 0 4 (v := 0) rfl (by decide) ?_
  refine a_istore_n (pc := 5) 0 5 (ls2 := [some (vr 3 0), some (vi (-1)), some (vi 0), some (vi 0), none]) rfl rfl (by decide) rfl ?_
  have L6_6 : ∀ (m_j1 j1 : Nat), j1 + m_j1 = 4 → ∀ (σ2 : Int32 × Int32), iter (b6_X3_bankThatLacksMost S) ((-1), 0) j1 = σ2 → BW O G fdX3_bankThatLacksMost 0 0 (QV O G 0 0 PP) S 6 [some (vr 3 0), some (vi σ2.1), some (vi σ2.2), some (vi (nI j1)), none] [] := by
    intro m_j1
    induction m_j1 with
    | zero =>
      intro j1 hj_j1 σ2 eσ2
      have hn_j1 : j1 = 4 := by omega
      rw [hn_j1] at eσ2
      refine a_iload_n (pc := 6) 0 6 rfl rfl ?_
      refine a_iconst (pc := 7) 0 7 (v := nI 4) rfl (by decide) ?_
      refine a_icmp_ge_t (pc := 8) (tgt := 38) 0 8 rfl (by decide) (nI_le (by omega) (by omega)) ?_
      refine a_iload_n (pc := 38) 0 23 rfl rfl ?_
      exact a_iret (pc := 39) 0 24 rfl rfl (hP _ (by unfold f_X3_bankThatLacksMost; exact lt_eq eσ2))
    | succ m_j1 ih_j1 =>
      intro j1 hj_j1 σ2 eσ2
      refine a_iload_n (pc := 6) 0 6 rfl rfl ?_
      refine a_iconst (pc := 7) 0 7 (v := nI 4) rfl (by decide) ?_
      refine a_icmp_ge_f (pc := 8) (tgt := 38) 0 8 rfl (nI_ge (by omega) (by omega)) (by decide) ?_
      refine a_aload_n (pc := 11) 0 9 rfl rfl ?_
      refine a_iload_n (pc := 12) 0 10 rfl rfl ?_
      refine a_callVr (pc := 13) 0 11 (c_X3_bank (S := S) (nI j1)) rfl cv_X3_68 (by decide) rfl rfl rfl (rm rfl) ?_
      refine a_callVi (pc := 16) 0 12 (c_X0_lacks (S := S) (f_X3_bank S (nI j1)) (show f_X3_bank S (nI j1) < 5 from r_X3_bank)) rfl cv_X3_75 (show f_X3_bank S (nI j1) < 5 from r_X3_bank) rfl rfl rfl (rm rfl) ?_
      refine a_seti (fun v3 ev3 => ?_)
      refine a_istore (pc := 19) 0 13 (ls2 := [some (vr 3 0), some (vi σ2.1), some (vi σ2.2), some (vi (nI j1)), some (vi v3)]) rfl (by decide) rfl ?_
      refine a_iload (pc := 21) 0 14 rfl rfl ?_
      refine a_iload_n (pc := 23) 0 15 rfl rfl ?_
      have J32_7 : ∀ (v5 : Int32) (ev5 : (if v3 ≤ σ2.2 then (σ2.1) else (nI j1)) = v5) (v6 : Int32) (ev6 : (if v3 ≤ σ2.2 then (σ2.2) else (v3)) = v6), BW O G fdX3_bankThatLacksMost 0 0 (QV O G 0 0 PP) S 32 [some (vr 3 0), some (vi v5), some (vi v6), some (vi (nI j1)), some (vi v3)] [] := by
        intro v5 ev5 v6 ev6
        refine a_iinc (pc := 32) 0 21 (v := nI (j1 + 1)) (ls2 := [some (vr 3 0), some (vi v5), some (vi v6), some (vi (nI (j1 + 1))), some (vi v3)]) rfl rfl (iinc1 _) (by decide) rfl ?_
        refine a_goto (pc := 35) (tgt := 6) 0 22 rfl (by decide) ?_
        refine a_drop (ls2 := [some (vr 3 0), some (vi v5), some (vi v6), some (vi (nI (j1 + 1))), none]) (⟨rfl, rfl, rfl, rfl, trivial⟩) ?_
        exact ih_j1 (j1 + 1) (by omega) (v5, v6) (by rw [iter_succ, eσ2]; unfold b6_X3_bankThatLacksMost; exact ((lt_eq ev3).trans ((lt_eq ev5).trans (lt_eq ev6))))
      refine a_icmp_le (pc := 24) (tgt := 32) 0 16 rfl (by decide) (fun c24_3 => ?_) (fun c24_3 => ?_)
      · exact J32_7 _ (by exact (if_pos c24_3)) _ (by exact (if_pos c24_3))
      · refine a_iload_n (pc := 27) 0 17 rfl rfl ?_
        refine a_istore_n (pc := 28) 0 18 (ls2 := [some (vr 3 0), some (vi (nI j1)), some (vi σ2.2), some (vi (nI j1)), some (vi v3)]) rfl rfl (by decide) rfl ?_
        refine a_iload (pc := 29) 0 19 rfl rfl ?_
        refine a_istore_n (pc := 31) 0 20 (ls2 := [some (vr 3 0), some (vi (nI j1)), some (vi v3), some (vi (nI j1)), some (vi v3)]) rfl rfl (by decide) rfl ?_
        exact J32_7 _ (by exact (if_neg c24_3)) _ (by exact (if_neg c24_3))
  exact L6_6 (4) 0 (by omega) ((-1), 0) rfl
theorem c_X3_bankThatLacksMost {S : Mem}    : Cts mdX3_bankThatLacksMost 2 41 [vr 3 0] S (Is (some (vi (f_X3_bankThatLacksMost S ))) (S)) := Cts.of dtX3_bankThatLacksMost (by decide +kernel) rfl rfl (Nat.le_of_ble_eq_true rfl) rfl (fun O G => w_X3_bankThatLacksMost  (fun _ h9 => ⟨by rw [h9], rfl⟩))
def b4_X7_leftOf (S : Mem) (p1 : Int32) (j1 : Nat) (σ2 : Int32) : Int32 := lt (if (S.1 kLoanBanks (f_X7_at S (nI j1))) = p1 then (S.1 kLoanLefts (f_X7_at S (nI j1))) else (0)) (fun (v5 : Int32) => σ2 + v5)
def f_X7_leftOf (S : Mem) (p1 : Int32) : Int32 := lt (iter (b4_X7_leftOf S p1) 0 (ix (S.1 kLoans 0))) (fun (σ2 : Int32) => σ2)
def ok_X7_leftOf (S : Mem) (p1 : Int32) : Prop := ((∀ j1 : Nat, j1 ≤ ix (S.1 kLoans 0) → ∀ σ2 : Int32, iter (b4_X7_leftOf S p1) 0 j1 = σ2 → S.1 kLoans 0 = nI (ix (S.1 kLoans 0))))
abbrev fdX7_leftOf : FD := (mdX7_leftOf, [], 1, 22, 0, 0)
set_option maxRecDepth 100000 in
set_option maxHeartbeats 4000000 in
theorem w_X7_leftOf {O : Om} {G : Cx} {S : Mem} {PP : Option AV → Mem → Prop} (p1 : Int32)   (h : ok_X7_leftOf S p1) (hP : ∀ x9, f_X7_leftOf S p1 = x9 → PP (some (vi x9)) S) : BW O G fdX7_leftOf 0 0 (QV O G 0 0 PP) S 0 [some (vr 7 0), some (vi p1), none, none, none] [] := by
  refine a_iconst (pc := 0) 0 0 (v := 0) rfl (by decide) ?_
  refine a_istore_n (pc := 1) 0 1 (ls2 := [some (vr 7 0), some (vi p1), some (vi 0), none, none]) rfl rfl (by decide) rfl ?_
  refine a_iconst (pc := 2) 0 2 (v := 0) rfl (by decide) ?_
  refine a_istore_n (pc := 3) 0 3 (ls2 := [some (vr 7 0), some (vi p1), some (vi 0), some (vi 0), none]) rfl rfl (by decide) rfl ?_
  have o3 := h
  have nlt_j1 := ix_lt (S.1 kLoans 0)
  have L4_5 : ∀ (m_j1 j1 : Nat), j1 + m_j1 = ix (S.1 kLoans 0) → ∀ (σ2 : Int32), iter (b4_X7_leftOf S p1) 0 j1 = σ2 → BW O G fdX7_leftOf 0 0 (QV O G 0 0 PP) S 4 [some (vr 7 0), some (vi p1), some (vi σ2), some (vi (nI j1)), none] [] := by
    intro m_j1
    induction m_j1 with
    | zero =>
      intro j1 hj_j1 σ2 eσ2
      have o3 := o3 j1 (by omega) σ2 eσ2
      have hn_j1 : j1 = ix (S.1 kLoans 0) := by omega
      rw [hn_j1] at eσ2
      refine a_iload_n (pc := 4) 0 4 rfl rfl ?_
      refine a_aload_n (pc := 5) 0 5 rfl rfl ?_
      refine g_7_count (pc := 6) 0 6 rfl fl_X7_22 ?_
      refine a_icmp_ge_t (pc := 9) (tgt := 46) 0 7 rfl (by decide) (bd_t (o3) (by omega)) ?_
      refine a_iload_n (pc := 46) 0 25 rfl rfl ?_
      exact a_iret (pc := 47) 0 26 rfl rfl (hP _ (by unfold f_X7_leftOf; exact lt_eq eσ2))
    | succ m_j1 ih_j1 =>
      intro j1 hj_j1 σ2 eσ2
      have o3 := o3 j1 (by omega) σ2 eσ2
      refine a_iload_n (pc := 4) 0 4 rfl rfl ?_
      refine a_aload_n (pc := 5) 0 5 rfl rfl ?_
      refine g_7_count (pc := 6) 0 6 rfl fl_X7_22 ?_
      refine a_icmp_ge_f (pc := 9) (tgt := 46) 0 7 rfl (bd_f (o3) (by omega)) (by decide) ?_
      refine a_aload_n (pc := 12) 0 8 rfl rfl ?_
      refine a_iload_n (pc := 13) 0 9 rfl rfl ?_
      refine a_callVr (pc := 14) 0 10 (c_X7_at (S := S) (nI j1)) rfl cv_X7_26 (by decide) rfl rfl rfl (rm rfl) ?_
      refine a_astore (pc := 17) 0 11 (ls2 := [some (vr 7 0), some (vi p1), some (vi σ2), some (vi (nI j1)), some (vr 6 (f_X7_at S (nI j1)))]) rfl (by decide) rfl ?_
      refine a_iload_n (pc := 19) 0 12 rfl rfl ?_
      refine a_aload (pc := 20) 0 13 rfl rfl ?_
      refine g_6_owner (pc := 22) 0 14 rfl (show f_X7_at S (nI j1) < 21 from r_X7_at) fl_X7_33 ?_
      refine a_iload_n (pc := 25) 0 15 rfl rfl ?_
      have J38_6 : ∀ (v5 : Int32) (ev5 : (if (S.1 kLoanBanks (f_X7_at S (nI j1))) = p1 then (S.1 kLoanLefts (f_X7_at S (nI j1))) else (0)) = v5), BW O G fdX7_leftOf 0 0 (QV O G 0 0 PP) S 38 [some (vr 7 0), some (vi p1), some (vi σ2), some (vi (nI j1)), some (vr 6 (f_X7_at S (nI j1)))] [vi v5, vi σ2] := by
        intro v5 ev5
        refine a_iadd (pc := 38) 0 21 rfl ?_
        refine a_istore_n (pc := 39) 0 22 (ls2 := [some (vr 7 0), some (vi p1), some (vi (σ2 + v5)), some (vi (nI j1)), some (vr 6 (f_X7_at S (nI j1)))]) rfl rfl (by decide) rfl ?_
        refine a_iinc (pc := 40) 0 23 (v := nI (j1 + 1)) (ls2 := [some (vr 7 0), some (vi p1), some (vi (σ2 + v5)), some (vi (nI (j1 + 1))), some (vr 6 (f_X7_at S (nI j1)))]) rfl rfl (iinc1 _) (by decide) rfl ?_
        refine a_goto (pc := 43) (tgt := 4) 0 24 rfl (by decide) ?_
        refine a_drop (ls2 := [some (vr 7 0), some (vi p1), some (vi (σ2 + v5)), some (vi (nI (j1 + 1))), none]) (⟨rfl, rfl, rfl, rfl, trivial⟩) ?_
        exact ih_j1 (j1 + 1) (by omega) (σ2 + v5) (by rw [iter_succ, eσ2]; unfold b4_X7_leftOf; exact (lt_eq ev5))
      refine a_icmp_ne (pc := 26) (tgt := 37) 0 16 rfl (by decide) (fun c26_3 => ?_) (fun c26_3 => ?_)
      · refine a_iconst (pc := 37) 0 20 (v := 0) rfl (by decide) ?_
        exact J38_6 _ (by exact (if_neg c26_3))
      · refine a_aload (pc := 29) 0 17 rfl rfl ?_
        refine g_6_left (pc := 31) 0 18 rfl (show f_X7_at S (nI j1) < 21 from r_X7_at) fl_X7_36 ?_
        refine a_goto (pc := 34) (tgt := 38) 0 19 rfl (by decide) ?_
        exact J38_6 _ (by exact (if_pos c26_3))
  exact L4_5 (ix (S.1 kLoans 0)) 0 (by omega) 0 rfl
theorem c_X7_leftOf {S : Mem} (p1 : Int32)   (h : ok_X7_leftOf S p1) : Cts mdX7_leftOf 1 22 [vr 7 0, vi p1] S (Is (some (vi (f_X7_leftOf S p1))) (S)) := Cts.of dtX7_leftOf (by decide +kernel) rfl rfl (Nat.le_of_ble_eq_true rfl) rfl (fun O G => w_X7_leftOf p1 h (fun _ h9 => ⟨by rw [h9], rfl⟩))
def b2_X7_moveToCentral (p1 : Int32) (j1 : Nat) (σ2 : Mem) : Mem := lt (if (σ2.1 kLoanBanks (f_X7_at σ2 (nI j1))) = p1 then (lt ((upd2 σ2.1 kLoanBanks (f_X7_at σ2 (nI j1)) (nI 4), σ2.2)) (fun (S5 : Mem) => S5)) else (σ2)) (fun (S6 : Mem) => S6)
def f_X7_moveToCentral (S : Mem) (p1 : Int32) : Mem := lt (iter (b2_X7_moveToCentral p1) S (ix (S.1 kLoans 0))) (fun (σ2 : Mem) => σ2)
def ok_X7_moveToCentral (S : Mem) (p1 : Int32) : Prop := ((∀ j1 : Nat, j1 ≤ ix (S.1 kLoans 0) → ∀ σ2 : Mem, iter (b2_X7_moveToCentral p1) S j1 = σ2 → σ2.1 kLoans 0 = nI (ix (S.1 kLoans 0))))
abbrev fdX7_moveToCentral : FD := (mdX7_moveToCentral, [], 1, 22, 0, 0)
set_option maxRecDepth 100000 in
set_option maxHeartbeats 4000000 in
theorem w_X7_moveToCentral {O : Om} {G : Cx} {S : Mem} {PP : Option AV → Mem → Prop} (p1 : Int32)   (h : ok_X7_moveToCentral S p1) (hP : ∀ S9, f_X7_moveToCentral S p1 = S9 → PP none S9) : BW O G fdX7_moveToCentral 0 0 (QV O G 0 0 PP) S 0 [some (vr 7 0), some (vi p1), none, none] [] := by
  refine a_iconst (pc := 0) 0 0 (v := 0) rfl (by decide) ?_
  refine a_istore_n (pc := 1) 0 1 (ls2 := [some (vr 7 0), some (vi p1), some (vi 0), none]) rfl rfl (by decide) rfl ?_
  have o3 := h
  have nlt_j1 := ix_lt (S.1 kLoans 0)
  have L2_6 : ∀ (m_j1 j1 : Nat), j1 + m_j1 = ix (S.1 kLoans 0) → ∀ (σ2 : Mem), iter (b2_X7_moveToCentral p1) S j1 = σ2 → BW O G fdX7_moveToCentral 0 0 (QV O G 0 0 PP) σ2 2 [some (vr 7 0), some (vi p1), some (vi (nI j1)), none] [] := by
    intro m_j1
    induction m_j1 with
    | zero =>
      intro j1 hj_j1 σ2 eσ2
      have o3 := o3 j1 (by omega) σ2 eσ2
      have hn_j1 : j1 = ix (S.1 kLoans 0) := by omega
      rw [hn_j1] at eσ2
      refine a_iload_n (pc := 2) 0 2 rfl rfl ?_
      refine a_aload_n (pc := 3) 0 3 rfl rfl ?_
      refine g_7_count (pc := 4) 0 4 rfl fl_X7_22 ?_
      refine a_icmp_ge_t (pc := 7) (tgt := 35) 0 5 rfl (by decide) (bd_t (o3) (by omega)) ?_
      exact a_vret (pc := 35) 0 19 rfl rfl (hP _ (by unfold f_X7_moveToCentral; exact lt_eq eσ2))
    | succ m_j1 ih_j1 =>
      intro j1 hj_j1 σ2 eσ2
      have o3 := o3 j1 (by omega) σ2 eσ2
      refine a_iload_n (pc := 2) 0 2 rfl rfl ?_
      refine a_aload_n (pc := 3) 0 3 rfl rfl ?_
      refine g_7_count (pc := 4) 0 4 rfl fl_X7_22 ?_
      refine a_icmp_ge_f (pc := 7) (tgt := 35) 0 5 rfl (bd_f (o3) (by omega)) (by decide) ?_
      refine a_aload_n (pc := 10) 0 6 rfl rfl ?_
      refine a_iload_n (pc := 11) 0 7 rfl rfl ?_
      refine a_callVr (pc := 12) 0 8 (c_X7_at (S := σ2) (nI j1)) rfl cv_X7_26 (by decide) rfl rfl rfl (rm rfl) ?_
      refine a_astore_n (pc := 15) 0 9 (ls2 := [some (vr 7 0), some (vi p1), some (vi (nI j1)), some (vr 6 (f_X7_at σ2 (nI j1)))]) rfl rfl (by decide) rfl ?_
      refine a_aload_n (pc := 16) 0 10 rfl rfl ?_
      refine g_6_owner (pc := 17) 0 11 rfl (show f_X7_at σ2 (nI j1) < 21 from r_X7_at) fl_X7_33 ?_
      refine a_iload_n (pc := 20) 0 12 rfl rfl ?_
      have J29_7 : ∀ (S6 : Mem) (eS6 : (if (σ2.1 kLoanBanks (f_X7_at σ2 (nI j1))) = p1 then (lt ((upd2 σ2.1 kLoanBanks (f_X7_at σ2 (nI j1)) (nI 4), σ2.2)) (fun (S5 : Mem) => S5)) else (σ2)) = S6), BW O G fdX7_moveToCentral 0 0 (QV O G 0 0 PP) S6 29 [some (vr 7 0), some (vi p1), some (vi (nI j1)), some (vr 6 (f_X7_at σ2 (nI j1)))] [] := by
        intro S6 eS6
        refine a_iinc (pc := 29) 0 17 (v := nI (j1 + 1)) (ls2 := [some (vr 7 0), some (vi p1), some (vi (nI (j1 + 1))), some (vr 6 (f_X7_at σ2 (nI j1)))]) rfl rfl (iinc1 _) (by decide) rfl ?_
        refine a_goto (pc := 32) (tgt := 2) 0 18 rfl (by decide) ?_
        refine a_drop (ls2 := [some (vr 7 0), some (vi p1), some (vi (nI (j1 + 1))), none]) (⟨rfl, rfl, rfl, trivial⟩) ?_
        exact ih_j1 (j1 + 1) (by omega) S6 (by rw [iter_succ, eσ2]; unfold b2_X7_moveToCentral; exact (lt_eq eS6))
      refine a_icmp_ne (pc := 21) (tgt := 29) 0 13 rfl (by decide) (fun c21_3 => ?_) (fun c21_3 => ?_)
      · exact J29_7 _ (by exact (if_neg c21_3))
      · refine a_aload_n (pc := 24) 0 14 rfl rfl ?_
        refine a_iconst (pc := 25) 0 15 (v := nI 4) rfl (by decide) ?_
        refine p_6_owner (pc := 26) 0 16 rfl (show f_X7_at σ2 (nI j1) < 21 from r_X7_at) fl_X7_33 ?_
        refine a_set (fun S5 eS5 => ?_)
        exact J29_7 _ (by exact ((if_pos c21_3).trans (lt_eq eS5)))
  exact L2_6 (ix (S.1 kLoans 0)) 0 (by omega) S rfl
theorem c_X7_moveToCentral {S : Mem} (p1 : Int32)   (h : ok_X7_moveToCentral S p1) : Cts mdX7_moveToCentral 1 22 [vr 7 0, vi p1] S (Is none (f_X7_moveToCentral S p1)) := Cts.of dtX7_moveToCentral (by decide +kernel) rfl rfl (Nat.le_of_ble_eq_true rfl) rfl (fun O G => w_X7_moveToCentral p1 h (fun _ h9 => ⟨rfl, h9.symm⟩))
def f_X7_give (S : Mem) (p1 : Int32) (p2 : Int32) (p3 : Int32) (p4 : Int32) : Int32 × Mem := lt ((upd2 S.1 kLoans 0 ((S.1 kLoans 0) + 1), S.2)) (fun (S1 : Mem) => lt ((upd2 S1.1 kLoanHolders (f_X7_at S1 (S.1 kLoans 0)) p2, S1.2)) (fun (S2 : Mem) => lt ((upd2 S2.1 kLoanBanks (f_X7_at S1 (S.1 kLoans 0)) p1, S2.2)) (fun (S3 : Mem) => lt ((upd2 S3.1 kLoanLefts (f_X7_at S1 (S.1 kLoans 0)) p3, S3.2)) (fun (S4 : Mem) => lt ((upd2 S4.1 kLoanRates (f_X7_at S1 (S.1 kLoans 0)) p4, S4.2)) (fun (S5 : Mem) => (S.1 kLoans 0, S5))))))
abbrev fdX7_give : FD := (mdX7_give, [], 1, 22, 0, 0)
set_option maxRecDepth 100000 in
set_option maxHeartbeats 4000000 in
theorem w_X7_give {O : Om} {G : Cx} {S : Mem} {PP : Option AV → Mem → Prop} (p1 : Int32) (p2 : Int32) (p3 : Int32) (p4 : Int32)   (hP : ∀ x9 S9, f_X7_give S p1 p2 p3 p4 = (x9, S9) → PP (some (vi x9)) S9) : BW O G fdX7_give 0 0 (QV O G 0 0 PP) S 0 [some (vr 7 0), some (vi p1), some (vi p2), some (vi p3), some (vi p4), none, none] [] := by
  refine a_aload_n (pc := 0) 0 0 rfl rfl ?_
  refine g_7_count (pc := 1) 0 1 rfl fl_X7_22 ?_
  refine a_istore (pc := 4) 0 2 (ls2 := [some (vr 7 0), some (vi p1), some (vi p2), some (vi p3), some (vi p4), some (vi (S.1 kLoans 0)), none]) rfl (by decide) rfl ?_
  refine a_aload_n (pc := 6) 0 3 rfl rfl ?_
  refine a_dup (pc := 7) 0 4 rfl rfl ?_
  refine g_7_count (pc := 8) 0 5 rfl fl_X7_22 ?_
  refine a_iconst (pc := 11) 0 6 (v := 1) rfl (by decide) ?_
  refine a_iadd (pc := 12) 0 7 rfl ?_
  refine p_7_count (pc := 13) 0 8 rfl fl_X7_22 ?_
  refine a_set (fun S1 eS1 => ?_)
  refine a_aload_n (pc := 16) 0 9 rfl rfl ?_
  refine a_iload (pc := 17) 0 10 rfl rfl ?_
  refine a_callVr (pc := 19) 0 11 (c_X7_at (S := S1) (S.1 kLoans 0)) rfl cv_X7_26 (by decide) rfl rfl rfl (rm rfl) ?_
  refine a_astore (pc := 22) 0 12 (ls2 := [some (vr 7 0), some (vi p1), some (vi p2), some (vi p3), some (vi p4), some (vi (S.1 kLoans 0)), some (vr 6 (f_X7_at S1 (S.1 kLoans 0)))]) rfl (by decide) rfl ?_
  refine a_aload (pc := 24) 0 13 rfl rfl ?_
  refine a_iload_n (pc := 26) 0 14 rfl rfl ?_
  refine p_6_holder (pc := 27) 0 15 rfl (show f_X7_at S1 (S.1 kLoans 0) < 21 from r_X7_at) fl_X7_30 ?_
  refine a_set (fun S2 eS2 => ?_)
  refine a_aload (pc := 30) 0 16 rfl rfl ?_
  refine a_iload_n (pc := 32) 0 17 rfl rfl ?_
  refine p_6_owner (pc := 33) 0 18 rfl (show f_X7_at S1 (S.1 kLoans 0) < 21 from r_X7_at) fl_X7_33 ?_
  refine a_set (fun S3 eS3 => ?_)
  refine a_aload (pc := 36) 0 19 rfl rfl ?_
  refine a_iload_n (pc := 38) 0 20 rfl rfl ?_
  refine p_6_left (pc := 39) 0 21 rfl (show f_X7_at S1 (S.1 kLoans 0) < 21 from r_X7_at) fl_X7_36 ?_
  refine a_set (fun S4 eS4 => ?_)
  refine a_aload (pc := 42) 0 22 rfl rfl ?_
  refine a_iload (pc := 44) 0 23 rfl rfl ?_
  refine p_6_rate (pc := 46) 0 24 rfl (show f_X7_at S1 (S.1 kLoans 0) < 21 from r_X7_at) fl_X7_39 ?_
  refine a_set (fun S5 eS5 => ?_)
  refine a_iload (pc := 49) 0 25 rfl rfl ?_
  exact a_iret (pc := 51) 0 26 rfl rfl (hP _ _ (by unfold f_X7_give; exact (lt_eq eS1).trans ((lt_eq eS2).trans ((lt_eq eS3).trans ((lt_eq eS4).trans (lt_eq eS5))))))
theorem c_X7_give {S : Mem} (p1 : Int32) (p2 : Int32) (p3 : Int32) (p4 : Int32)   : Cts mdX7_give 1 22 [vr 7 0, vi p1, vi p2, vi p3, vi p4] S (Is (some (vi (f_X7_give S p1 p2 p3 p4).1)) ((f_X7_give S p1 p2 p3 p4).2)) := Cts.of dtX7_give (by decide +kernel) rfl rfl (Nat.le_of_ble_eq_true rfl) rfl (fun O G => w_X7_give p1 p2 p3 p4 (fun _ _ h9 => ⟨by rw [h9], by rw [h9]⟩))
def b4_X10_waitingNet (S : Mem) (p1 : Int32) (j1 : Nat) (σ2 : Int32) : Int32 := lt (if (S.1 kStates (f_X10_at S (nI j1))) = 0 then (lt (f_X9_netFor S (f_X10_at S (nI j1)) p1) (fun (v5 : Int32) => v5)) else (0)) (fun (v6 : Int32) => σ2 + v6)
def f_X10_waitingNet (S : Mem) (p1 : Int32) : Int32 := lt (iter (b4_X10_waitingNet S p1) 0 (ix (S.1 kPayments 0))) (fun (σ2 : Int32) => σ2)
def ok_X10_waitingNet (S : Mem) (p1 : Int32) : Prop := ((∀ j1 : Nat, j1 ≤ ix (S.1 kPayments 0) → ∀ σ2 : Int32, iter (b4_X10_waitingNet S p1) 0 j1 = σ2 → S.1 kPayments 0 = nI (ix (S.1 kPayments 0))))
abbrev fdX10_waitingNet : FD := (mdX10_waitingNet, [], 1, 22, 0, 0)
set_option maxRecDepth 100000 in
set_option maxHeartbeats 4000000 in
theorem w_X10_waitingNet {O : Om} {G : Cx} {S : Mem} {PP : Option AV → Mem → Prop} (p1 : Int32)   (h : ok_X10_waitingNet S p1) (hP : ∀ x9, f_X10_waitingNet S p1 = x9 → PP (some (vi x9)) S) : BW O G fdX10_waitingNet 0 0 (QV O G 0 0 PP) S 0 [some (vr 10 0), some (vi p1), none, none, none] [] := by
  refine a_iconst (pc := 0) 0 0 (v := 0) rfl (by decide) ?_
  refine a_istore_n (pc := 1) 0 1 (ls2 := [some (vr 10 0), some (vi p1), some (vi 0), none, none]) rfl rfl (by decide) rfl ?_
  refine a_iconst (pc := 2) 0 2 (v := 0) rfl (by decide) ?_
  refine a_istore_n (pc := 3) 0 3 (ls2 := [some (vr 10 0), some (vi p1), some (vi 0), some (vi 0), none]) rfl rfl (by decide) rfl ?_
  have o3 := h
  have nlt_j1 := ix_lt (S.1 kPayments 0)
  have L4_6 : ∀ (m_j1 j1 : Nat), j1 + m_j1 = ix (S.1 kPayments 0) → ∀ (σ2 : Int32), iter (b4_X10_waitingNet S p1) 0 j1 = σ2 → BW O G fdX10_waitingNet 0 0 (QV O G 0 0 PP) S 4 [some (vr 10 0), some (vi p1), some (vi σ2), some (vi (nI j1)), none] [] := by
    intro m_j1
    induction m_j1 with
    | zero =>
      intro j1 hj_j1 σ2 eσ2
      have o3 := o3 j1 (by omega) σ2 eσ2
      have hn_j1 : j1 = ix (S.1 kPayments 0) := by omega
      rw [hn_j1] at eσ2
      refine a_iload_n (pc := 4) 0 4 rfl rfl ?_
      refine a_aload_n (pc := 5) 0 5 rfl rfl ?_
      refine g_10_count (pc := 6) 0 6 rfl fl_X10_22 ?_
      refine a_icmp_ge_t (pc := 9) (tgt := 46) 0 7 rfl (by decide) (bd_t (o3) (by omega)) ?_
      refine a_iload_n (pc := 46) 0 25 rfl rfl ?_
      exact a_iret (pc := 47) 0 26 rfl rfl (hP _ (by unfold f_X10_waitingNet; exact lt_eq eσ2))
    | succ m_j1 ih_j1 =>
      intro j1 hj_j1 σ2 eσ2
      have o3 := o3 j1 (by omega) σ2 eσ2
      refine a_iload_n (pc := 4) 0 4 rfl rfl ?_
      refine a_aload_n (pc := 5) 0 5 rfl rfl ?_
      refine g_10_count (pc := 6) 0 6 rfl fl_X10_22 ?_
      refine a_icmp_ge_f (pc := 9) (tgt := 46) 0 7 rfl (bd_f (o3) (by omega)) (by decide) ?_
      refine a_aload_n (pc := 12) 0 8 rfl rfl ?_
      refine a_iload_n (pc := 13) 0 9 rfl rfl ?_
      refine a_callVr (pc := 14) 0 10 (c_X10_at (S := S) (nI j1)) rfl cv_X10_26 (by decide) rfl rfl rfl (rm rfl) ?_
      refine a_astore (pc := 17) 0 11 (ls2 := [some (vr 10 0), some (vi p1), some (vi σ2), some (vi (nI j1)), some (vr 9 (f_X10_at S (nI j1)))]) rfl (by decide) rfl ?_
      refine a_iload_n (pc := 19) 0 12 rfl rfl ?_
      refine a_aload (pc := 20) 0 13 rfl rfl ?_
      refine g_9_state (pc := 22) 0 14 rfl (show f_X10_at S (nI j1) < 201 from r_X10_at) fl_X10_59 ?_
      have J38_7 : ∀ (v6 : Int32) (ev6 : (if (S.1 kStates (f_X10_at S (nI j1))) = 0 then (lt (f_X9_netFor S (f_X10_at S (nI j1)) p1) (fun (v5 : Int32) => v5)) else (0)) = v6), BW O G fdX10_waitingNet 0 0 (QV O G 0 0 PP) S 38 [some (vr 10 0), some (vi p1), some (vi σ2), some (vi (nI j1)), some (vr 9 (f_X10_at S (nI j1)))] [vi v6, vi σ2] := by
        intro v6 ev6
        refine a_iadd (pc := 38) 0 21 rfl ?_
        refine a_istore_n (pc := 39) 0 22 (ls2 := [some (vr 10 0), some (vi p1), some (vi (σ2 + v6)), some (vi (nI j1)), some (vr 9 (f_X10_at S (nI j1)))]) rfl rfl (by decide) rfl ?_
        refine a_iinc (pc := 40) 0 23 (v := nI (j1 + 1)) (ls2 := [some (vr 10 0), some (vi p1), some (vi (σ2 + v6)), some (vi (nI (j1 + 1))), some (vr 9 (f_X10_at S (nI j1)))]) rfl rfl (iinc1 _) (by decide) rfl ?_
        refine a_goto (pc := 43) (tgt := 4) 0 24 rfl (by decide) ?_
        refine a_drop (ls2 := [some (vr 10 0), some (vi p1), some (vi (σ2 + v6)), some (vi (nI (j1 + 1))), none]) (⟨rfl, rfl, rfl, rfl, trivial⟩) ?_
        exact ih_j1 (j1 + 1) (by omega) (σ2 + v6) (by rw [iter_succ, eσ2]; unfold b4_X10_waitingNet; exact (lt_eq ev6))
      refine a_if_ne (pc := 25) (tgt := 37) 0 15 rfl (by decide) (fun c25_3 => ?_) (fun c25_3 => ?_)
      · refine a_iconst (pc := 37) 0 20 (v := 0) rfl (by decide) ?_
        exact J38_7 _ (by exact (if_neg c25_3))
      · refine a_aload (pc := 28) 0 16 rfl rfl ?_
        refine a_iload_n (pc := 30) 0 17 rfl rfl ?_
        refine a_callVi (pc := 31) 0 18 (c_X9_netFor (S := S) (f_X10_at S (nI j1)) p1 (show f_X10_at S (nI j1) < 201 from r_X10_at)) rfl cv_X10_107 (show f_X10_at S (nI j1) < 201 from r_X10_at) rfl rfl rfl (rm rfl) ?_
        refine a_seti (fun v5 ev5 => ?_)
        refine a_goto (pc := 34) (tgt := 38) 0 19 rfl (by decide) ?_
        exact J38_7 _ (by exact ((if_pos c25_3).trans (lt_eq ev5)))
  exact L4_6 (ix (S.1 kPayments 0)) 0 (by omega) 0 rfl
theorem c_X10_waitingNet {S : Mem} (p1 : Int32)   (h : ok_X10_waitingNet S p1) : Cts mdX10_waitingNet 1 22 [vr 10 0, vi p1] S (Is (some (vi (f_X10_waitingNet S p1))) (S)) := Cts.of dtX10_waitingNet (by decide +kernel) rfl rfl (Nat.le_of_ble_eq_true rfl) rfl (fun O G => w_X10_waitingNet p1 h (fun _ h9 => ⟨by rw [h9], rfl⟩))
def b5_X10_goodsBoughtOn (S : Mem) (p1 : Int32) (p2 : Int32) (j1 : Nat) (σ2 : Int32) : Int32 := lt (if (S.1 kStates (f_X10_at S (nI j1))) = 1 then (if p2 = 0 then (if (S.1 kDoneDays (f_X10_at S (nI j1))) = p1 then (1) else (0)) else (1)) else (0)) (fun (v7 : Int32) => lt (if v7 = 0 then (0) else (if (S.1 kBoughtOn (f_X10_at S (nI j1))) = p1 then (S.1 kAmounts (f_X10_at S (nI j1))) else (0))) (fun (v10 : Int32) => σ2 + v10))
def f_X10_goodsBoughtOn (S : Mem) (p1 : Int32) (p2 : Int32) : Int32 := lt (iter (b5_X10_goodsBoughtOn S p1 p2) 0 (ix (S.1 kPayments 0))) (fun (σ2 : Int32) => σ2)
def ok_X10_goodsBoughtOn (S : Mem) (p1 : Int32) (p2 : Int32) : Prop := ((∀ j1 : Nat, j1 ≤ ix (S.1 kPayments 0) → ∀ σ2 : Int32, iter (b5_X10_goodsBoughtOn S p1 p2) 0 j1 = σ2 → S.1 kPayments 0 = nI (ix (S.1 kPayments 0))))
abbrev fdX10_goodsBoughtOn : FD := (mdX10_goodsBoughtOn, [], 1, 22, 0, 0)
set_option maxRecDepth 100000 in
set_option maxHeartbeats 4000000 in
theorem w_X10_goodsBoughtOn {O : Om} {G : Cx} {S : Mem} {PP : Option AV → Mem → Prop} (p1 : Int32) (p2 : Int32)  (hb_p2 : p2 = 0 ∨ p2 = 1) (h : ok_X10_goodsBoughtOn S p1 p2) (hP : ∀ x9, f_X10_goodsBoughtOn S p1 p2 = x9 → PP (some (vi x9)) S) : BW O G fdX10_goodsBoughtOn 0 0 (QV O G 0 0 PP) S 0 [some (vr 10 0), some (vi p1), some (vi p2), none, none, none, none] [] := by
  refine a_iconst (pc := 0) 0 0 (v := 0) rfl (by decide) ?_
  refine a_istore_n (pc := 1) 0 1 (ls2 := [some (vr 10 0), some (vi p1), some (vi p2), some (vi 0), none, none, none]) rfl rfl (by decide) rfl ?_
  refine a_iconst (pc := 2) 0 2 (v := 0) rfl (by decide) ?_
  refine a_istore (pc := 3) 0 3 (ls2 := [some (vr 10 0), some (vi p1), some (vi p2), some (vi 0), some (vi 0), none, none]) rfl (by decide) rfl ?_
  have o3 := h
  have nlt_j1 := ix_lt (S.1 kPayments 0)
  have L5_10 : ∀ (m_j1 j1 : Nat), j1 + m_j1 = ix (S.1 kPayments 0) → ∀ (σ2 : Int32), iter (b5_X10_goodsBoughtOn S p1 p2) 0 j1 = σ2 → BW O G fdX10_goodsBoughtOn 0 0 (QV O G 0 0 PP) S 5 [some (vr 10 0), some (vi p1), some (vi p2), some (vi σ2), some (vi (nI j1)), none, none] [] := by
    intro m_j1
    induction m_j1 with
    | zero =>
      intro j1 hj_j1 σ2 eσ2
      have o3 := o3 j1 (by omega) σ2 eσ2
      have hn_j1 : j1 = ix (S.1 kPayments 0) := by omega
      rw [hn_j1] at eσ2
      refine a_iload (pc := 5) 0 4 rfl rfl ?_
      refine a_aload_n (pc := 7) 0 5 rfl rfl ?_
      refine g_10_count (pc := 8) 0 6 rfl fl_X10_22 ?_
      refine a_icmp_ge_t (pc := 11) (tgt := 83) 0 7 rfl (by decide) (bd_t (o3) (by omega)) ?_
      refine a_iload_n (pc := 83) 0 41 rfl rfl ?_
      exact a_iret (pc := 84) 0 42 rfl rfl (hP _ (by unfold f_X10_goodsBoughtOn; exact lt_eq eσ2))
    | succ m_j1 ih_j1 =>
      intro j1 hj_j1 σ2 eσ2
      have o3 := o3 j1 (by omega) σ2 eσ2
      refine a_iload (pc := 5) 0 4 rfl rfl ?_
      refine a_aload_n (pc := 7) 0 5 rfl rfl ?_
      refine g_10_count (pc := 8) 0 6 rfl fl_X10_22 ?_
      refine a_icmp_ge_f (pc := 11) (tgt := 83) 0 7 rfl (bd_f (o3) (by omega)) (by decide) ?_
      refine a_aload_n (pc := 14) 0 8 rfl rfl ?_
      refine a_iload (pc := 15) 0 9 rfl rfl ?_
      refine a_callVr (pc := 17) 0 10 (c_X10_at (S := S) (nI j1)) rfl cv_X10_26 (by decide) rfl rfl rfl (rm rfl) ?_
      refine a_astore (pc := 20) 0 11 (ls2 := [some (vr 10 0), some (vi p1), some (vi p2), some (vi σ2), some (vi (nI j1)), some (vr 9 (f_X10_at S (nI j1))), none]) rfl (by decide) rfl ?_
      refine a_aload (pc := 22) 0 12 rfl rfl ?_
      refine g_9_state (pc := 24) 0 13 rfl (show f_X10_at S (nI j1) < 201 from r_X10_at) fl_X10_59 ?_
      refine a_iconst (pc := 27) 0 14 (v := 1) rfl (by decide) ?_
      have J49_11 : ∀ (v7 : Int32) (ev7 : (if (S.1 kStates (f_X10_at S (nI j1))) = 1 then (if p2 = 0 then (if (S.1 kDoneDays (f_X10_at S (nI j1))) = p1 then (1) else (0)) else (1)) else (0)) = v7), BW O G fdX10_goodsBoughtOn 0 0 (QV O G 0 0 PP) S 49 [some (vr 10 0), some (vi p1), some (vi p2), some (vi σ2), some (vi (nI j1)), some (vr 9 (f_X10_at S (nI j1))), none] [vi v7] := by
        intro v7 ev7
        refine a_istore (pc := 49) 0 25 (ls2 := [some (vr 10 0), some (vi p1), some (vi p2), some (vi σ2), some (vi (nI j1)), some (vr 9 (f_X10_at S (nI j1))), some (vi v7)]) rfl (by decide) rfl ?_
        refine a_iload_n (pc := 51) 0 26 rfl rfl ?_
        refine a_iload (pc := 52) 0 27 rfl rfl ?_
        have J75_12 : ∀ (v10 : Int32) (ev10 : (if v7 = 0 then (0) else (if (S.1 kBoughtOn (f_X10_at S (nI j1))) = p1 then (S.1 kAmounts (f_X10_at S (nI j1))) else (0))) = v10), BW O G fdX10_goodsBoughtOn 0 0 (QV O G 0 0 PP) S 75 [some (vr 10 0), some (vi p1), some (vi p2), some (vi σ2), some (vi (nI j1)), some (vr 9 (f_X10_at S (nI j1))), some (vi v7)] [vi v10, vi σ2] := by
          intro v10 ev10
          refine a_iadd (pc := 75) 0 37 rfl ?_
          refine a_istore_n (pc := 76) 0 38 (ls2 := [some (vr 10 0), some (vi p1), some (vi p2), some (vi (σ2 + v10)), some (vi (nI j1)), some (vr 9 (f_X10_at S (nI j1))), some (vi v7)]) rfl rfl (by decide) rfl ?_
          refine a_iinc (pc := 77) 0 39 (v := nI (j1 + 1)) (ls2 := [some (vr 10 0), some (vi p1), some (vi p2), some (vi (σ2 + v10)), some (vi (nI (j1 + 1))), some (vr 9 (f_X10_at S (nI j1))), some (vi v7)]) rfl rfl (iinc1 _) (by decide) rfl ?_
          refine a_goto (pc := 80) (tgt := 5) 0 40 rfl (by decide) ?_
          refine a_drop (ls2 := [some (vr 10 0), some (vi p1), some (vi p2), some (vi (σ2 + v10)), some (vi (nI (j1 + 1))), none, none]) (⟨rfl, rfl, rfl, rfl, rfl, trivial⟩) ?_
          exact ih_j1 (j1 + 1) (by omega) (σ2 + v10) (by rw [iter_succ, eσ2]; unfold b5_X10_goodsBoughtOn; exact ((lt_eq ev7).trans (lt_eq ev10)))
        refine a_if_eq (pc := 54) (tgt := 74) 0 28 rfl (by decide) (fun c54_7 => ?_) (fun c54_7 => ?_)
        · refine a_iconst (pc := 74) 0 36 (v := 0) rfl (by decide) ?_
          exact J75_12 _ (by exact (if_pos c54_7))
        · refine a_aload (pc := 57) 0 29 rfl rfl ?_
          refine g_9_boughtOn (pc := 59) 0 30 rfl (show f_X10_at S (nI j1) < 201 from r_X10_at) fl_X10_56 ?_
          refine a_iload_n (pc := 62) 0 31 rfl rfl ?_
          refine a_icmp_ne (pc := 63) (tgt := 74) 0 32 rfl (by decide) (fun c63_8 => ?_) (fun c63_8 => ?_)
          · refine a_iconst (pc := 74) 0 36 (v := 0) rfl (by decide) ?_
            exact J75_12 _ (by exact ((if_neg c54_7).trans (if_neg c63_8)))
          · refine a_aload (pc := 66) 0 33 rfl rfl ?_
            refine g_9_amount (pc := 68) 0 34 rfl (show f_X10_at S (nI j1) < 201 from r_X10_at) fl_X10_53 ?_
            refine a_goto (pc := 71) (tgt := 75) 0 35 rfl (by decide) ?_
            exact J75_12 _ (by exact ((if_neg c54_7).trans (if_pos c63_8)))
      refine a_icmp_ne (pc := 28) (tgt := 48) 0 15 rfl (by decide) (fun c28_3 => ?_) (fun c28_3 => ?_)
      · refine a_iconst (pc := 48) 0 24 (v := 0) rfl (by decide) ?_
        exact J49_11 _ (by exact (if_neg c28_3))
      · refine a_iload_n (pc := 31) 0 16 rfl rfl ?_
        refine a_if_ne (pc := 32) (tgt := 44) 0 17 rfl (by decide) (fun c32_4 => ?_) (fun c32_4 => ?_)
        · refine a_iconst (pc := 44) 0 22 (v := 1) rfl (by decide) ?_
          refine a_goto (pc := 45) (tgt := 49) 0 23 rfl (by decide) ?_
          exact J49_11 _ (by exact ((if_pos c28_3).trans (if_neg c32_4)))
        · refine a_aload (pc := 35) 0 18 rfl rfl ?_
          refine g_9_doneOn (pc := 37) 0 19 rfl (show f_X10_at S (nI j1) < 201 from r_X10_at) fl_X10_73 ?_
          refine a_iload_n (pc := 40) 0 20 rfl rfl ?_
          refine a_icmp_ne (pc := 41) (tgt := 48) 0 21 rfl (by decide) (fun c41_5 => ?_) (fun c41_5 => ?_)
          · refine a_iconst (pc := 48) 0 24 (v := 0) rfl (by decide) ?_
            exact J49_11 _ (by exact ((if_pos c28_3).trans ((if_pos c32_4).trans (if_neg c41_5))))
          · refine a_iconst (pc := 44) 0 22 (v := 1) rfl (by decide) ?_
            refine a_goto (pc := 45) (tgt := 49) 0 23 rfl (by decide) ?_
            exact J49_11 _ (by exact ((if_pos c28_3).trans ((if_pos c32_4).trans (if_pos c41_5))))
  exact L5_10 (ix (S.1 kPayments 0)) 0 (by omega) 0 rfl
theorem c_X10_goodsBoughtOn {S : Mem} (p1 : Int32) (p2 : Int32)  (hb_p2 : p2 = 0 ∨ p2 = 1) (h : ok_X10_goodsBoughtOn S p1 p2) : Cts mdX10_goodsBoughtOn 1 22 [vr 10 0, vi p1, vi p2] S (Is (some (vi (f_X10_goodsBoughtOn S p1 p2))) (S)) := Cts.of dtX10_goodsBoughtOn (by decide +kernel) rfl rfl (Nat.le_of_ble_eq_true rfl) rfl (fun O G => w_X10_goodsBoughtOn p1 p2 hb_p2 h (fun _ h9 => ⟨by rw [h9], rfl⟩))
def b2_X10_oneWaitsTo (S : Mem) (p1 : Int32) (j1 : Nat) (σ2 : Unit) : Unit ⊕ Int32 := if (S.1 kStates (f_X10_at S (nI j1))) = 0 then (if (S.1 kTos (f_X10_at S (nI j1))) = p1 then (.inr 1) else (.inl ())) else (.inl ())
def f_X10_oneWaitsTo (S : Mem) (p1 : Int32) : Int32 := matchE (iterE (b2_X10_oneWaitsTo S p1) () (ix (S.1 kPayments 0))) (fun (σ2 : Unit) => 0)
def ok_X10_oneWaitsTo (S : Mem) (p1 : Int32) : Prop := ((∀ j1 : Nat, j1 ≤ ix (S.1 kPayments 0) → ∀ σ2 : Unit, iterE (b2_X10_oneWaitsTo S p1) () j1 = .inl σ2 → S.1 kPayments 0 = nI (ix (S.1 kPayments 0))))
abbrev fdX10_oneWaitsTo : FD := (mdX10_oneWaitsTo, [], 1, 22, 0, 0)
set_option maxRecDepth 100000 in
set_option maxHeartbeats 4000000 in
theorem w_X10_oneWaitsTo {O : Om} {G : Cx} {S : Mem} {PP : Option AV → Mem → Prop} (p1 : Int32)   (h : ok_X10_oneWaitsTo S p1) (hP : ∀ x9, f_X10_oneWaitsTo S p1 = x9 → PP (some (vi x9)) S) : BW O G fdX10_oneWaitsTo 0 0 (QV O G 0 0 PP) S 0 [some (vr 10 0), some (vi p1), none, none] [] := by
  refine a_iconst (pc := 0) 0 0 (v := 0) rfl (by decide) ?_
  refine a_istore_n (pc := 1) 0 1 (ls2 := [some (vr 10 0), some (vi p1), some (vi 0), none]) rfl rfl (by decide) rfl ?_
  have o3 := h
  have nlt_j1 := ix_lt (S.1 kPayments 0)
  have L2_5 : ∀ (m_j1 j1 : Nat), j1 + m_j1 = ix (S.1 kPayments 0) → ∀ (σ2 : Unit), iterE (b2_X10_oneWaitsTo S p1) () j1 = .inl σ2 → BW O G fdX10_oneWaitsTo 0 0 (QV O G 0 0 PP) S 2 [some (vr 10 0), some (vi p1), some (vi (nI j1)), none] [] := by
    intro m_j1
    induction m_j1 with
    | zero =>
      intro j1 hj_j1 σ2 eσ2
      have o3 := o3 j1 (by omega) σ2 eσ2
      have hn_j1 : j1 = ix (S.1 kPayments 0) := by omega
      rw [hn_j1] at eσ2
      refine a_iload_n (pc := 2) 0 2 rfl rfl ?_
      refine a_aload_n (pc := 3) 0 3 rfl rfl ?_
      refine g_10_count (pc := 4) 0 4 rfl fl_X10_22 ?_
      refine a_icmp_ge_t (pc := 7) (tgt := 39) 0 5 rfl (by decide) (bd_t (o3) (by omega)) ?_
      refine a_iconst (pc := 39) 0 21 (v := 0) rfl (by decide) ?_
      exact a_zret (pc := 40) 0 22 rfl (nar_b (Or.inl rfl)) rfl (hP _ (by unfold f_X10_oneWaitsTo; exact matchE_l eσ2))
    | succ m_j1 ih_j1 =>
      intro j1 hj_j1 σ2 eσ2
      have o3 := o3 j1 (by omega) σ2 eσ2
      refine a_iload_n (pc := 2) 0 2 rfl rfl ?_
      refine a_aload_n (pc := 3) 0 3 rfl rfl ?_
      refine g_10_count (pc := 4) 0 4 rfl fl_X10_22 ?_
      refine a_icmp_ge_f (pc := 7) (tgt := 39) 0 5 rfl (bd_f (o3) (by omega)) (by decide) ?_
      refine a_aload_n (pc := 10) 0 6 rfl rfl ?_
      refine a_iload_n (pc := 11) 0 7 rfl rfl ?_
      refine a_callVr (pc := 12) 0 8 (c_X10_at (S := S) (nI j1)) rfl cv_X10_26 (by decide) rfl rfl rfl (rm rfl) ?_
      refine a_astore_n (pc := 15) 0 9 (ls2 := [some (vr 10 0), some (vi p1), some (vi (nI j1)), some (vr 9 (f_X10_at S (nI j1)))]) rfl rfl (by decide) rfl ?_
      refine a_aload_n (pc := 16) 0 10 rfl rfl ?_
      refine g_9_state (pc := 17) 0 11 rfl (show f_X10_at S (nI j1) < 201 from r_X10_at) fl_X10_59 ?_
      refine a_if_ne (pc := 20) (tgt := 33) 0 12 rfl (by decide) (fun c20_3 => ?_) (fun c20_3 => ?_)
      · refine a_iinc (pc := 33) 0 19 (v := nI (j1 + 1)) (ls2 := [some (vr 10 0), some (vi p1), some (vi (nI (j1 + 1))), some (vr 9 (f_X10_at S (nI j1)))]) rfl rfl (iinc1 _) (by decide) rfl ?_
        refine a_goto (pc := 36) (tgt := 2) 0 20 rfl (by decide) ?_
        refine a_drop (ls2 := [some (vr 10 0), some (vi p1), some (vi (nI (j1 + 1))), none]) (⟨rfl, rfl, rfl, trivial⟩) ?_
        exact ih_j1 (j1 + 1) (by omega) () (iterE_go eσ2 (by unfold b2_X10_oneWaitsTo; exact (if_neg c20_3)))
      · refine a_aload_n (pc := 23) 0 13 rfl rfl ?_
        refine g_9_to (pc := 24) 0 14 rfl (show f_X10_at S (nI j1) < 201 from r_X10_at) fl_X10_33 ?_
        refine a_iload_n (pc := 27) 0 15 rfl rfl ?_
        refine a_icmp_ne (pc := 28) (tgt := 33) 0 16 rfl (by decide) (fun c28_4 => ?_) (fun c28_4 => ?_)
        · refine a_iinc (pc := 33) 0 19 (v := nI (j1 + 1)) (ls2 := [some (vr 10 0), some (vi p1), some (vi (nI (j1 + 1))), some (vr 9 (f_X10_at S (nI j1)))]) rfl rfl (iinc1 _) (by decide) rfl ?_
          refine a_goto (pc := 36) (tgt := 2) 0 20 rfl (by decide) ?_
          refine a_drop (ls2 := [some (vr 10 0), some (vi p1), some (vi (nI (j1 + 1))), none]) (⟨rfl, rfl, rfl, trivial⟩) ?_
          exact ih_j1 (j1 + 1) (by omega) () (iterE_go eσ2 (by unfold b2_X10_oneWaitsTo; exact ((if_pos c20_3).trans (if_neg c28_4))))
        · refine a_iconst (pc := 31) 0 17 (v := 1) rfl (by decide) ?_
          exact a_zret (pc := 32) 0 18 rfl (nar_b (Or.inr rfl)) rfl (hP _ (by unfold f_X10_oneWaitsTo; exact matchE_r (iterE_stop eσ2 (by unfold b2_X10_oneWaitsTo; exact ((if_pos c20_3).trans (if_pos c28_4))) (ix (S.1 kPayments 0)) (by omega))))
  exact L2_5 (ix (S.1 kPayments 0)) 0 (by omega) () rfl
theorem c_X10_oneWaitsTo {S : Mem} (p1 : Int32)   (h : ok_X10_oneWaitsTo S p1) : Cts mdX10_oneWaitsTo 1 22 [vr 10 0, vi p1] S (Is (some (vi (f_X10_oneWaitsTo S p1))) (S)) := Cts.of dtX10_oneWaitsTo (by decide +kernel) rfl rfl (Nat.le_of_ble_eq_true rfl) rfl (fun O G => w_X10_oneWaitsTo p1 h (fun _ h9 => ⟨by rw [h9], rfl⟩))
def b2_X10_takeBack (p2 : Int32) (j1 : Nat) (σ2 : Mem) : Mem := lt (if (σ2.1 kStates (f_X10_at σ2 (nI j1))) = 0 then (if (σ2.1 kFromBank (f_X10_at σ2 (nI j1))) = p2 then (lt ((upd2 σ2.1 kBlocked (f_X3_holder σ2 (σ2.1 kFroms (f_X10_at σ2 (nI j1)))) ((σ2.1 kBlocked (f_X3_holder σ2 (σ2.1 kFroms (f_X10_at σ2 (nI j1))))) - (σ2.1 kAmounts (f_X10_at σ2 (nI j1)))), σ2.2)) (fun (S6 : Mem) => lt ((upd2 S6.1 kStates (f_X10_at σ2 (nI j1)) (nI 2), S6.2)) (fun (S7 : Mem) => S7))) else (if (σ2.1 kToBank (f_X10_at σ2 (nI j1))) = p2 then (lt ((upd2 σ2.1 kBlocked (f_X3_holder σ2 (σ2.1 kFroms (f_X10_at σ2 (nI j1)))) ((σ2.1 kBlocked (f_X3_holder σ2 (σ2.1 kFroms (f_X10_at σ2 (nI j1))))) - (σ2.1 kAmounts (f_X10_at σ2 (nI j1)))), σ2.2)) (fun (S9 : Mem) => lt ((upd2 S9.1 kStates (f_X10_at σ2 (nI j1)) (nI 2), S9.2)) (fun (S10 : Mem) => S10))) else (σ2))) else (σ2)) (fun (S11 : Mem) => S11)
def f_X10_takeBack (S : Mem) (p2 : Int32) : Mem := lt (iter (b2_X10_takeBack p2) S (ix (S.1 kPayments 0))) (fun (σ2 : Mem) => σ2)
def ok_X10_takeBack (S : Mem) (p2 : Int32) : Prop := ((∀ j1 : Nat, j1 ≤ ix (S.1 kPayments 0) → ∀ σ2 : Mem, iter (b2_X10_takeBack p2) S j1 = σ2 → σ2.1 kPayments 0 = nI (ix (S.1 kPayments 0))))
abbrev fdX10_takeBack : FD := (mdX10_takeBack, [], 1, 22, 0, 0)
set_option maxRecDepth 100000 in
set_option maxHeartbeats 4000000 in
theorem w_X10_takeBack {O : Om} {G : Cx} {S : Mem} {PP : Option AV → Mem → Prop} (p2 : Int32)   (h : ok_X10_takeBack S p2) (hP : ∀ S9, f_X10_takeBack S p2 = S9 → PP none S9) : BW O G fdX10_takeBack 0 0 (QV O G 0 0 PP) S 0 [some (vr 10 0), some (vr 3 0), some (vi p2), none, none] [] := by
  refine a_iconst (pc := 0) 0 0 (v := 0) rfl (by decide) ?_
  refine a_istore_n (pc := 1) 0 1 (ls2 := [some (vr 10 0), some (vr 3 0), some (vi p2), some (vi 0), none]) rfl rfl (by decide) rfl ?_
  have o3 := h
  have nlt_j1 := ix_lt (S.1 kPayments 0)
  have L2_11 : ∀ (m_j1 j1 : Nat), j1 + m_j1 = ix (S.1 kPayments 0) → ∀ (σ2 : Mem), iter (b2_X10_takeBack p2) S j1 = σ2 → BW O G fdX10_takeBack 0 0 (QV O G 0 0 PP) σ2 2 [some (vr 10 0), some (vr 3 0), some (vi p2), some (vi (nI j1)), none] [] := by
    intro m_j1
    induction m_j1 with
    | zero =>
      intro j1 hj_j1 σ2 eσ2
      have o3 := o3 j1 (by omega) σ2 eσ2
      have hn_j1 : j1 = ix (S.1 kPayments 0) := by omega
      rw [hn_j1] at eσ2
      refine a_iload_n (pc := 2) 0 2 rfl rfl ?_
      refine a_aload_n (pc := 3) 0 3 rfl rfl ?_
      refine g_10_count (pc := 4) 0 4 rfl fl_X10_22 ?_
      refine a_icmp_ge_t (pc := 7) (tgt := 77) 0 5 rfl (by decide) (bd_t (o3) (by omega)) ?_
      exact a_vret (pc := 77) 0 36 rfl rfl (hP _ (by unfold f_X10_takeBack; exact lt_eq eσ2))
    | succ m_j1 ih_j1 =>
      intro j1 hj_j1 σ2 eσ2
      have o3 := o3 j1 (by omega) σ2 eσ2
      refine a_iload_n (pc := 2) 0 2 rfl rfl ?_
      refine a_aload_n (pc := 3) 0 3 rfl rfl ?_
      refine g_10_count (pc := 4) 0 4 rfl fl_X10_22 ?_
      refine a_icmp_ge_f (pc := 7) (tgt := 77) 0 5 rfl (bd_f (o3) (by omega)) (by decide) ?_
      refine a_aload_n (pc := 10) 0 6 rfl rfl ?_
      refine a_iload_n (pc := 11) 0 7 rfl rfl ?_
      refine a_callVr (pc := 12) 0 8 (c_X10_at (S := σ2) (nI j1)) rfl cv_X10_26 (by decide) rfl rfl rfl (rm rfl) ?_
      refine a_astore (pc := 15) 0 9 (ls2 := [some (vr 10 0), some (vr 3 0), some (vi p2), some (vi (nI j1)), some (vr 9 (f_X10_at σ2 (nI j1)))]) rfl (by decide) rfl ?_
      refine a_aload (pc := 17) 0 10 rfl rfl ?_
      refine g_9_state (pc := 19) 0 11 rfl (show f_X10_at σ2 (nI j1) < 201 from r_X10_at) fl_X10_59 ?_
      have J71_12 : ∀ (S11 : Mem) (eS11 : (if (σ2.1 kStates (f_X10_at σ2 (nI j1))) = 0 then (if (σ2.1 kFromBank (f_X10_at σ2 (nI j1))) = p2 then (lt ((upd2 σ2.1 kBlocked (f_X3_holder σ2 (σ2.1 kFroms (f_X10_at σ2 (nI j1)))) ((σ2.1 kBlocked (f_X3_holder σ2 (σ2.1 kFroms (f_X10_at σ2 (nI j1))))) - (σ2.1 kAmounts (f_X10_at σ2 (nI j1)))), σ2.2)) (fun (S6 : Mem) => lt ((upd2 S6.1 kStates (f_X10_at σ2 (nI j1)) (nI 2), S6.2)) (fun (S7 : Mem) => S7))) else (if (σ2.1 kToBank (f_X10_at σ2 (nI j1))) = p2 then (lt ((upd2 σ2.1 kBlocked (f_X3_holder σ2 (σ2.1 kFroms (f_X10_at σ2 (nI j1)))) ((σ2.1 kBlocked (f_X3_holder σ2 (σ2.1 kFroms (f_X10_at σ2 (nI j1))))) - (σ2.1 kAmounts (f_X10_at σ2 (nI j1)))), σ2.2)) (fun (S9 : Mem) => lt ((upd2 S9.1 kStates (f_X10_at σ2 (nI j1)) (nI 2), S9.2)) (fun (S10 : Mem) => S10))) else (σ2))) else (σ2)) = S11), BW O G fdX10_takeBack 0 0 (QV O G 0 0 PP) S11 71 [some (vr 10 0), some (vr 3 0), some (vi p2), some (vi (nI j1)), some (vr 9 (f_X10_at σ2 (nI j1)))] [] := by
        intro S11 eS11
        refine a_iinc (pc := 71) 0 34 (v := nI (j1 + 1)) (ls2 := [some (vr 10 0), some (vr 3 0), some (vi p2), some (vi (nI (j1 + 1))), some (vr 9 (f_X10_at σ2 (nI j1)))]) rfl rfl (iinc1 _) (by decide) rfl ?_
        refine a_goto (pc := 74) (tgt := 2) 0 35 rfl (by decide) ?_
        refine a_drop (ls2 := [some (vr 10 0), some (vr 3 0), some (vi p2), some (vi (nI (j1 + 1))), none]) (⟨rfl, rfl, rfl, rfl, trivial⟩) ?_
        exact ih_j1 (j1 + 1) (by omega) S11 (by rw [iter_succ, eσ2]; unfold b2_X10_takeBack; exact (lt_eq eS11))
      refine a_if_ne (pc := 22) (tgt := 71) 0 12 rfl (by decide) (fun c22_3 => ?_) (fun c22_3 => ?_)
      · exact J71_12 _ (by exact (if_neg c22_3))
      · refine a_aload (pc := 25) 0 13 rfl rfl ?_
        refine g_9_fromBank (pc := 27) 0 14 rfl (show f_X10_at σ2 (nI j1) < 201 from r_X10_at) fl_X10_47 ?_
        refine a_iload_n (pc := 30) 0 15 rfl rfl ?_
        refine a_icmp_eq (pc := 31) (tgt := 43) 0 16 rfl (by decide) (fun c31_4 => ?_) (fun c31_4 => ?_)
        · refine a_aload_n (pc := 43) 0 21 rfl rfl ?_
          refine a_aload (pc := 44) 0 22 rfl rfl ?_
          refine g_9_from (pc := 46) 0 23 rfl (show f_X10_at σ2 (nI j1) < 201 from r_X10_at) fl_X10_30 ?_
          refine a_callVr (pc := 49) 0 24 (c_X3_holder (S := σ2) (σ2.1 kFroms (f_X10_at σ2 (nI j1)))) rfl cv_X10_36 (by decide) rfl rfl rfl (rm rfl) ?_
          refine a_dup (pc := 52) 0 25 rfl rfl ?_
          refine g_5_blocked (pc := 53) 0 26 rfl (show f_X3_holder σ2 (σ2.1 kFroms (f_X10_at σ2 (nI j1))) < 17 from r_X3_holder) fl_X10_62 ?_
          refine a_aload (pc := 56) 0 27 rfl rfl ?_
          refine g_9_amount (pc := 58) 0 28 rfl (show f_X10_at σ2 (nI j1) < 201 from r_X10_at) fl_X10_53 ?_
          refine a_isub (pc := 61) 0 29 rfl ?_
          refine p_5_blocked (pc := 62) 0 30 rfl (show f_X3_holder σ2 (σ2.1 kFroms (f_X10_at σ2 (nI j1))) < 17 from r_X3_holder) fl_X10_62 ?_
          refine a_set (fun S6 eS6 => ?_)
          refine a_aload (pc := 65) 0 31 rfl rfl ?_
          refine a_iconst (pc := 67) 0 32 (v := nI 2) rfl (by decide) ?_
          refine p_9_state (pc := 68) 0 33 rfl (show f_X10_at σ2 (nI j1) < 201 from r_X10_at) fl_X10_59 ?_
          refine a_set (fun S7 eS7 => ?_)
          exact J71_12 _ (by exact ((if_pos c22_3).trans ((if_pos c31_4).trans ((lt_eq eS6).trans (lt_eq eS7)))))
        · refine a_aload (pc := 34) 0 17 rfl rfl ?_
          refine g_9_toBank (pc := 36) 0 18 rfl (show f_X10_at σ2 (nI j1) < 201 from r_X10_at) fl_X10_50 ?_
          refine a_iload_n (pc := 39) 0 19 rfl rfl ?_
          refine a_icmp_ne (pc := 40) (tgt := 71) 0 20 rfl (by decide) (fun c40_7 => ?_) (fun c40_7 => ?_)
          · exact J71_12 _ (by exact ((if_pos c22_3).trans ((if_neg c31_4).trans (if_neg c40_7))))
          · refine a_aload_n (pc := 43) 0 21 rfl rfl ?_
            refine a_aload (pc := 44) 0 22 rfl rfl ?_
            refine g_9_from (pc := 46) 0 23 rfl (show f_X10_at σ2 (nI j1) < 201 from r_X10_at) fl_X10_30 ?_
            refine a_callVr (pc := 49) 0 24 (c_X3_holder (S := σ2) (σ2.1 kFroms (f_X10_at σ2 (nI j1)))) rfl cv_X10_36 (by decide) rfl rfl rfl (rm rfl) ?_
            refine a_dup (pc := 52) 0 25 rfl rfl ?_
            refine g_5_blocked (pc := 53) 0 26 rfl (show f_X3_holder σ2 (σ2.1 kFroms (f_X10_at σ2 (nI j1))) < 17 from r_X3_holder) fl_X10_62 ?_
            refine a_aload (pc := 56) 0 27 rfl rfl ?_
            refine g_9_amount (pc := 58) 0 28 rfl (show f_X10_at σ2 (nI j1) < 201 from r_X10_at) fl_X10_53 ?_
            refine a_isub (pc := 61) 0 29 rfl ?_
            refine p_5_blocked (pc := 62) 0 30 rfl (show f_X3_holder σ2 (σ2.1 kFroms (f_X10_at σ2 (nI j1))) < 17 from r_X3_holder) fl_X10_62 ?_
            refine a_set (fun S9 eS9 => ?_)
            refine a_aload (pc := 65) 0 31 rfl rfl ?_
            refine a_iconst (pc := 67) 0 32 (v := nI 2) rfl (by decide) ?_
            refine p_9_state (pc := 68) 0 33 rfl (show f_X10_at σ2 (nI j1) < 201 from r_X10_at) fl_X10_59 ?_
            refine a_set (fun S10 eS10 => ?_)
            exact J71_12 _ (by exact ((if_pos c22_3).trans ((if_neg c31_4).trans ((if_pos c40_7).trans ((lt_eq eS9).trans (lt_eq eS10))))))
  exact L2_11 (ix (S.1 kPayments 0)) 0 (by omega) S rfl
theorem c_X10_takeBack {S : Mem} (p2 : Int32)   (h : ok_X10_takeBack S p2) : Cts mdX10_takeBack 1 22 [vr 10 0, vr 3 0, vi p2] S (Is none (f_X10_takeBack S p2)) := Cts.of dtX10_takeBack (by decide +kernel) rfl rfl (Nat.le_of_ble_eq_true rfl) rfl (fun O G => w_X10_takeBack p2 h (fun _ h9 => ⟨rfl, h9.symm⟩))
def b4_X2_of (S : Mem) (p1 : Int32) (j1 : Nat) (σ2 : Int32) : Int32 := lt (f_X2_held S p1 (nI j1)) (fun (v4 : Int32) => σ2 + v4)
def f_X2_of (S : Mem) (p1 : Int32) : Int32 := lt (iter (b4_X2_of S p1) 0 (ix (S.1 kAuctions 0))) (fun (σ2 : Int32) => σ2)
def ok_X2_of (S : Mem) (p1 : Int32) : Prop := ((∀ j1 : Nat, j1 ≤ ix (S.1 kAuctions 0) → ∀ σ2 : Int32, iter (b4_X2_of S p1) 0 j1 = σ2 → S.1 kAuctions 0 = nI (ix (S.1 kAuctions 0))))
abbrev fdX2_of : FD := (mdX2_of, [], 1, 23, 0, 0)
set_option maxRecDepth 100000 in
set_option maxHeartbeats 4000000 in
theorem w_X2_of {O : Om} {G : Cx} {S : Mem} {PP : Option AV → Mem → Prop} (p1 : Int32)   (h : ok_X2_of S p1) (hP : ∀ x9, f_X2_of S p1 = x9 → PP (some (vi x9)) S) : BW O G fdX2_of 0 0 (QV O G 0 0 PP) S 0 [some (vr 2 0), some (vi p1), none, none] [] := by
  refine a_iconst (pc := 0) 0 0 (v := 0) rfl (by decide) ?_
  refine a_istore_n (pc := 1) 0 1 (ls2 := [some (vr 2 0), some (vi p1), some (vi 0), none]) rfl rfl (by decide) rfl ?_
  refine a_iconst (pc := 2) 0 2 (v := 0) rfl (by decide) ?_
  refine a_istore_n (pc := 3) 0 3 (ls2 := [some (vr 2 0), some (vi p1), some (vi 0), some (vi 0)]) rfl rfl (by decide) rfl ?_
  have o3 := h
  have nlt_j1 := ix_lt (S.1 kAuctions 0)
  have L4_4 : ∀ (m_j1 j1 : Nat), j1 + m_j1 = ix (S.1 kAuctions 0) → ∀ (σ2 : Int32), iter (b4_X2_of S p1) 0 j1 = σ2 → BW O G fdX2_of 0 0 (QV O G 0 0 PP) S 4 [some (vr 2 0), some (vi p1), some (vi σ2), some (vi (nI j1))] [] := by
    intro m_j1
    induction m_j1 with
    | zero =>
      intro j1 hj_j1 σ2 eσ2
      have o3 := o3 j1 (by omega) σ2 eσ2
      have hn_j1 : j1 = ix (S.1 kAuctions 0) := by omega
      rw [hn_j1] at eσ2
      refine a_iload_n (pc := 4) 0 4 rfl rfl ?_
      refine a_aload_n (pc := 5) 0 5 rfl rfl ?_
      refine g_2_auctionCount (pc := 6) 0 6 rfl fl_X2_33 ?_
      refine a_icmp_ge_t (pc := 9) (tgt := 27) 0 7 rfl (by decide) (bd_t (o3) (by omega)) ?_
      refine a_iload_n (pc := 27) 0 17 rfl rfl ?_
      exact a_iret (pc := 28) 0 18 rfl rfl (hP _ (by unfold f_X2_of; exact lt_eq eσ2))
    | succ m_j1 ih_j1 =>
      intro j1 hj_j1 σ2 eσ2
      have o3 := o3 j1 (by omega) σ2 eσ2
      refine a_iload_n (pc := 4) 0 4 rfl rfl ?_
      refine a_aload_n (pc := 5) 0 5 rfl rfl ?_
      refine g_2_auctionCount (pc := 6) 0 6 rfl fl_X2_33 ?_
      refine a_icmp_ge_f (pc := 9) (tgt := 27) 0 7 rfl (bd_f (o3) (by omega)) (by decide) ?_
      refine a_iload_n (pc := 12) 0 8 rfl rfl ?_
      refine a_aload_n (pc := 13) 0 9 rfl rfl ?_
      refine a_iload_n (pc := 14) 0 10 rfl rfl ?_
      refine a_iload_n (pc := 15) 0 11 rfl rfl ?_
      refine a_callVi (pc := 16) 0 12 (c_X2_held (S := S) p1 (nI j1)) rfl cv_X2_99 (by decide) rfl rfl rfl (rm rfl) ?_
      refine a_seti (fun v4 ev4 => ?_)
      refine a_iadd (pc := 19) 0 13 rfl ?_
      refine a_istore_n (pc := 20) 0 14 (ls2 := [some (vr 2 0), some (vi p1), some (vi (σ2 + v4)), some (vi (nI j1))]) rfl rfl (by decide) rfl ?_
      refine a_iinc (pc := 21) 0 15 (v := nI (j1 + 1)) (ls2 := [some (vr 2 0), some (vi p1), some (vi (σ2 + v4)), some (vi (nI (j1 + 1)))]) rfl rfl (iinc1 _) (by decide) rfl ?_
      refine a_goto (pc := 24) (tgt := 4) 0 16 rfl (by decide) ?_
      exact ih_j1 (j1 + 1) (by omega) (σ2 + v4) (by rw [iter_succ, eσ2]; unfold b4_X2_of; exact (lt_eq ev4))
  exact L4_4 (ix (S.1 kAuctions 0)) 0 (by omega) 0 rfl
theorem c_X2_of {S : Mem} (p1 : Int32)   (h : ok_X2_of S p1) : Cts mdX2_of 1 23 [vr 2 0, vi p1] S (Is (some (vi (f_X2_of S p1))) (S)) := Cts.of dtX2_of (by decide +kernel) rfl rfl (Nat.le_of_ble_eq_true rfl) rfl (fun O G => w_X2_of p1 h (fun _ h9 => ⟨by rw [h9], rfl⟩))
def f_X2_addBid (S : Mem) (p1 : Int32) (p2 : Int32) (p3 : Int32) : Int32 × Mem := lt ((upd2 S.1 kBidBanks (f_X2_bidAt S (S.1 kBids 0)) p1, S.2)) (fun (S1 : Mem) => lt ((upd2 S1.1 kBidPrices (f_X2_bidAt S (S.1 kBids 0)) p2, S1.2)) (fun (S2 : Mem) => lt ((upd2 S2.1 kBidNumbers (f_X2_bidAt S (S.1 kBids 0)) p3, S2.2)) (fun (S3 : Mem) => lt ((upd2 S3.1 kBids 0 ((S3.1 kBids 0) + 1), S3.2)) (fun (S4 : Mem) => (S4.1 kBids 0, S4)))))
abbrev fdX2_addBid : FD := (mdX2_addBid, [], 1, 22, 0, 0)
set_option maxRecDepth 100000 in
set_option maxHeartbeats 4000000 in
theorem w_X2_addBid {O : Om} {G : Cx} {S : Mem} {PP : Option AV → Mem → Prop} (p1 : Int32) (p2 : Int32) (p3 : Int32)   (hP : ∀ x9 S9, f_X2_addBid S p1 p2 p3 = (x9, S9) → PP (some (vi x9)) S9) : BW O G fdX2_addBid 0 0 (QV O G 0 0 PP) S 0 [some (vr 2 0), some (vi p1), some (vi p2), some (vi p3), none] [] := by
  refine a_aload_n (pc := 0) 0 0 rfl rfl ?_
  refine a_aload_n (pc := 1) 0 1 rfl rfl ?_
  refine g_2_bidCount (pc := 2) 0 2 rfl fl_X2_29 ?_
  refine a_callVr (pc := 5) 0 3 (c_X2_bidAt (S := S) (S.1 kBids 0)) rfl cv_X2_36 (by decide) rfl rfl rfl (rm rfl) ?_
  refine a_astore (pc := 8) 0 4 (ls2 := [some (vr 2 0), some (vi p1), some (vi p2), some (vi p3), some (vr 1 (f_X2_bidAt S (S.1 kBids 0)))]) rfl (by decide) rfl ?_
  refine a_aload (pc := 10) 0 5 rfl rfl ?_
  refine a_iload_n (pc := 12) 0 6 rfl rfl ?_
  refine p_1_bank (pc := 13) 0 7 rfl (show f_X2_bidAt S (S.1 kBids 0) < 13 from r_X2_bidAt) fl_X2_40 ?_
  refine a_set (fun S1 eS1 => ?_)
  refine a_aload (pc := 16) 0 8 rfl rfl ?_
  refine a_iload_n (pc := 18) 0 9 rfl rfl ?_
  refine p_1_price (pc := 19) 0 10 rfl (show f_X2_bidAt S (S.1 kBids 0) < 13 from r_X2_bidAt) fl_X2_43 ?_
  refine a_set (fun S2 eS2 => ?_)
  refine a_aload (pc := 22) 0 11 rfl rfl ?_
  refine a_iload_n (pc := 24) 0 12 rfl rfl ?_
  refine p_1_number (pc := 25) 0 13 rfl (show f_X2_bidAt S (S.1 kBids 0) < 13 from r_X2_bidAt) fl_X2_46 ?_
  refine a_set (fun S3 eS3 => ?_)
  refine a_aload_n (pc := 28) 0 14 rfl rfl ?_
  refine a_dup (pc := 29) 0 15 rfl rfl ?_
  refine g_2_bidCount (pc := 30) 0 16 rfl fl_X2_29 ?_
  refine a_iconst (pc := 33) 0 17 (v := 1) rfl (by decide) ?_
  refine a_iadd (pc := 34) 0 18 rfl ?_
  refine p_2_bidCount (pc := 35) 0 19 rfl fl_X2_29 ?_
  refine a_set (fun S4 eS4 => ?_)
  refine a_aload_n (pc := 38) 0 20 rfl rfl ?_
  refine g_2_bidCount (pc := 39) 0 21 rfl fl_X2_29 ?_
  exact a_iret (pc := 42) 0 22 rfl rfl (hP _ _ (by unfold f_X2_addBid; exact (lt_eq eS1).trans ((lt_eq eS2).trans ((lt_eq eS3).trans (lt_eq eS4)))))
theorem c_X2_addBid {S : Mem} (p1 : Int32) (p2 : Int32) (p3 : Int32)   : Cts mdX2_addBid 1 22 [vr 2 0, vi p1, vi p2, vi p3] S (Is (some (vi (f_X2_addBid S p1 p2 p3).1)) ((f_X2_addBid S p1 p2 p3).2)) := Cts.of dtX2_addBid (by decide +kernel) rfl rfl (Nat.le_of_ble_eq_true rfl) rfl (fun O G => w_X2_addBid p1 p2 p3 (fun _ _ h9 => ⟨by rw [h9], by rw [h9]⟩))
def b4_X2_dropBids (p1 : Int32) (j1 : Nat) (σ2 : Int32 × Mem) : Int32 × Mem := lt (if (σ2.2.1 kBidBanks (f_X2_bidAt σ2.2 (nI j1))) = p1 then (σ2.1) else (lt (f_X1_become σ2.2 (f_X2_bidAt σ2.2 σ2.1) (f_X2_bidAt σ2.2 (nI j1))) (fun (S5 : Mem) => σ2.1 + 1))) (fun (v6 : Int32) => lt (if (σ2.2.1 kBidBanks (f_X2_bidAt σ2.2 (nI j1))) = p1 then (σ2.2) else (lt (f_X1_become σ2.2 (f_X2_bidAt σ2.2 σ2.1) (f_X2_bidAt σ2.2 (nI j1))) (fun (S5 : Mem) => S5))) (fun (S7 : Mem) => (v6, S7)))
def f_X2_dropBids (S : Mem) (p1 : Int32) : Mem := lt (iter (b4_X2_dropBids p1) (0, S) (ix (S.1 kBids 0))) (fun (σ2 : Int32 × Mem) => lt ((upd2 σ2.2.1 kBids 0 σ2.1, σ2.2.2)) (fun (S8 : Mem) => S8))
def ok_X2_dropBids (S : Mem) (p1 : Int32) : Prop := ((∀ j1 : Nat, j1 ≤ ix (S.1 kBids 0) → ∀ σ2 : Int32 × Mem, iter (b4_X2_dropBids p1) (0, S) j1 = σ2 → σ2.2.1 kBids 0 = nI (ix (S.1 kBids 0))))
abbrev fdX2_dropBids : FD := (mdX2_dropBids, [], 1, 22, 0, 0)
set_option maxRecDepth 100000 in
set_option maxHeartbeats 4000000 in
theorem w_X2_dropBids {O : Om} {G : Cx} {S : Mem} {PP : Option AV → Mem → Prop} (p1 : Int32)   (h : ok_X2_dropBids S p1) (hP : ∀ S9, f_X2_dropBids S p1 = S9 → PP none S9) : BW O G fdX2_dropBids 0 0 (QV O G 0 0 PP) S 0 [some (vr 2 0), some (vi p1), none, none, none] [] := by
  refine a_iconst (pc := 0) 0 0 (v := 0) rfl (by decide) ?_
  refine a_istore_n (pc := 1) 0 1 (ls2 := [some (vr 2 0), some (vi p1), some (vi 0), none, none]) rfl rfl (by decide) rfl ?_
  refine a_iconst (pc := 2) 0 2 (v := 0) rfl (by decide) ?_
  refine a_istore_n (pc := 3) 0 3 (ls2 := [some (vr 2 0), some (vi p1), some (vi 0), some (vi 0), none]) rfl rfl (by decide) rfl ?_
  have o3 := h
  have nlt_j1 := ix_lt (S.1 kBids 0)
  have L4_8 : ∀ (m_j1 j1 : Nat), j1 + m_j1 = ix (S.1 kBids 0) → ∀ (σ2 : Int32 × Mem), iter (b4_X2_dropBids p1) (0, S) j1 = σ2 → BW O G fdX2_dropBids 0 0 (QV O G 0 0 PP) σ2.2 4 [some (vr 2 0), some (vi p1), some (vi σ2.1), some (vi (nI j1)), none] [] := by
    intro m_j1
    induction m_j1 with
    | zero =>
      intro j1 hj_j1 σ2 eσ2
      have o3 := o3 j1 (by omega) σ2 eσ2
      have hn_j1 : j1 = ix (S.1 kBids 0) := by omega
      rw [hn_j1] at eσ2
      refine a_iload_n (pc := 4) 0 4 rfl rfl ?_
      refine a_aload_n (pc := 5) 0 5 rfl rfl ?_
      refine g_2_bidCount (pc := 6) 0 6 rfl fl_X2_29 ?_
      refine a_icmp_ge_t (pc := 9) (tgt := 47) 0 7 rfl (by decide) (bd_t (o3) (by omega)) ?_
      refine a_aload_n (pc := 47) 0 24 rfl rfl ?_
      refine a_iload_n (pc := 48) 0 25 rfl rfl ?_
      refine p_2_bidCount (pc := 49) 0 26 rfl fl_X2_29 ?_
      refine a_set (fun S8 eS8 => ?_)
      exact a_vret (pc := 52) 0 27 rfl rfl (hP _ (by unfold f_X2_dropBids; exact (lt_eq eσ2).trans (lt_eq eS8)))
    | succ m_j1 ih_j1 =>
      intro j1 hj_j1 σ2 eσ2
      have o3 := o3 j1 (by omega) σ2 eσ2
      refine a_iload_n (pc := 4) 0 4 rfl rfl ?_
      refine a_aload_n (pc := 5) 0 5 rfl rfl ?_
      refine g_2_bidCount (pc := 6) 0 6 rfl fl_X2_29 ?_
      refine a_icmp_ge_f (pc := 9) (tgt := 47) 0 7 rfl (bd_f (o3) (by omega)) (by decide) ?_
      refine a_aload_n (pc := 12) 0 8 rfl rfl ?_
      refine a_iload_n (pc := 13) 0 9 rfl rfl ?_
      refine a_callVr (pc := 14) 0 10 (c_X2_bidAt (S := σ2.2) (nI j1)) rfl cv_X2_36 (by decide) rfl rfl rfl (rm rfl) ?_
      refine a_astore (pc := 17) 0 11 (ls2 := [some (vr 2 0), some (vi p1), some (vi σ2.1), some (vi (nI j1)), some (vr 1 (f_X2_bidAt σ2.2 (nI j1)))]) rfl (by decide) rfl ?_
      refine a_aload (pc := 19) 0 12 rfl rfl ?_
      refine g_1_bank (pc := 21) 0 13 rfl (show f_X2_bidAt σ2.2 (nI j1) < 13 from r_X2_bidAt) fl_X2_40 ?_
      refine a_iload_n (pc := 24) 0 14 rfl rfl ?_
      have J41_9 : ∀ (v6 : Int32) (ev6 : (if (σ2.2.1 kBidBanks (f_X2_bidAt σ2.2 (nI j1))) = p1 then (σ2.1) else (lt (f_X1_become σ2.2 (f_X2_bidAt σ2.2 σ2.1) (f_X2_bidAt σ2.2 (nI j1))) (fun (S5 : Mem) => σ2.1 + 1))) = v6) (S7 : Mem) (eS7 : (if (σ2.2.1 kBidBanks (f_X2_bidAt σ2.2 (nI j1))) = p1 then (σ2.2) else (lt (f_X1_become σ2.2 (f_X2_bidAt σ2.2 σ2.1) (f_X2_bidAt σ2.2 (nI j1))) (fun (S5 : Mem) => S5))) = S7), BW O G fdX2_dropBids 0 0 (QV O G 0 0 PP) S7 41 [some (vr 2 0), some (vi p1), some (vi v6), some (vi (nI j1)), some (vr 1 (f_X2_bidAt σ2.2 (nI j1)))] [] := by
        intro v6 ev6 S7 eS7
        refine a_iinc (pc := 41) 0 22 (v := nI (j1 + 1)) (ls2 := [some (vr 2 0), some (vi p1), some (vi v6), some (vi (nI (j1 + 1))), some (vr 1 (f_X2_bidAt σ2.2 (nI j1)))]) rfl rfl (iinc1 _) (by decide) rfl ?_
        refine a_goto (pc := 44) (tgt := 4) 0 23 rfl (by decide) ?_
        refine a_drop (ls2 := [some (vr 2 0), some (vi p1), some (vi v6), some (vi (nI (j1 + 1))), none]) (⟨rfl, rfl, rfl, rfl, trivial⟩) ?_
        exact ih_j1 (j1 + 1) (by omega) (v6, S7) (by rw [iter_succ, eσ2]; unfold b4_X2_dropBids; exact ((lt_eq ev6).trans (lt_eq eS7)))
      refine a_icmp_eq (pc := 25) (tgt := 41) 0 15 rfl (by decide) (fun c25_3 => ?_) (fun c25_3 => ?_)
      · exact J41_9 _ (by exact (if_pos c25_3)) _ (by exact (if_pos c25_3))
      · refine a_aload_n (pc := 28) 0 16 rfl rfl ?_
        refine a_iload_n (pc := 29) 0 17 rfl rfl ?_
        refine a_callVr (pc := 30) 0 18 (c_X2_bidAt (S := σ2.2) σ2.1) rfl cv_X2_36 (by decide) rfl rfl rfl (rm rfl) ?_
        refine a_aload (pc := 33) 0 19 rfl rfl ?_
        refine a_callVv (pc := 35) 0 20 (c_X1_become (S := σ2.2) (f_X2_bidAt σ2.2 σ2.1) (f_X2_bidAt σ2.2 (nI j1)) (show f_X2_bidAt σ2.2 σ2.1 < 13 from r_X2_bidAt) (show f_X2_bidAt σ2.2 (nI j1) < 13 from r_X2_bidAt)) rfl cv_X2_49 (show f_X2_bidAt σ2.2 σ2.1 < 13 from r_X2_bidAt) rfl rfl rfl (rm rfl) ?_
        refine a_set (fun S5 eS5 => ?_)
        refine a_iinc (pc := 38) 0 21 (v := σ2.1 + 1) (ls2 := [some (vr 2 0), some (vi p1), some (vi (σ2.1 + 1)), some (vi (nI j1)), some (vr 1 (f_X2_bidAt σ2.2 (nI j1)))]) rfl rfl rfl (by decide) rfl ?_
        exact J41_9 _ (by exact ((if_neg c25_3).trans (lt_eq eS5))) _ (by exact ((if_neg c25_3).trans (lt_eq eS5)))
  exact L4_8 (ix (S.1 kBids 0)) 0 (by omega) (0, S) rfl
theorem c_X2_dropBids {S : Mem} (p1 : Int32)   (h : ok_X2_dropBids S p1) : Cts mdX2_dropBids 1 22 [vr 2 0, vi p1] S (Is none (f_X2_dropBids S p1)) := Cts.of dtX2_dropBids (by decide +kernel) rfl rfl (Nat.le_of_ble_eq_true rfl) rfl (fun O G => w_X2_dropBids p1 h (fun _ h9 => ⟨rfl, h9.symm⟩))
def b2_X3_lowestBankThatStands (S : Mem) (j1 : Nat) (σ2 : Unit) : Unit ⊕ Int32 := if (S.1 kHaveFailed (f_X3_bank S (nI j1))) = 0 then (.inr (nI j1)) else (.inl ())
def f_X3_lowestBankThatStands (S : Mem)  : Int32 := matchE (iterE (b2_X3_lowestBankThatStands S) () (4)) (fun (σ2 : Unit) => (-1))
abbrev fdX3_lowestBankThatStands : FD := (mdX3_lowestBankThatStands, [], 1, 22, 0, 0)
set_option maxRecDepth 100000 in
set_option maxHeartbeats 4000000 in
theorem w_X3_lowestBankThatStands {O : Om} {G : Cx} {S : Mem} {PP : Option AV → Mem → Prop}    (hP : ∀ x9, f_X3_lowestBankThatStands S  = x9 → PP (some (vi x9)) S) : BW O G fdX3_lowestBankThatStands 0 0 (QV O G 0 0 PP) S 0 [some (vr 3 0), none] [] := by
  refine a_iconst (pc := 0) 0 0 (v := 0) rfl (by decide) ?_
  refine a_istore_n (pc := 1) 0 1 (ls2 := [some (vr 3 0), some (vi 0)]) rfl rfl (by decide) rfl ?_
  have L2_3 : ∀ (m_j1 j1 : Nat), j1 + m_j1 = 4 → ∀ (σ2 : Unit), iterE (b2_X3_lowestBankThatStands S) () j1 = .inl σ2 → BW O G fdX3_lowestBankThatStands 0 0 (QV O G 0 0 PP) S 2 [some (vr 3 0), some (vi (nI j1))] [] := by
    intro m_j1
    induction m_j1 with
    | zero =>
      intro j1 hj_j1 σ2 eσ2
      have hn_j1 : j1 = 4 := by omega
      rw [hn_j1] at eσ2
      refine a_iload_n (pc := 2) 0 2 rfl rfl ?_
      refine a_iconst (pc := 3) 0 3 (v := nI 4) rfl (by decide) ?_
      refine a_icmp_ge_t (pc := 4) (tgt := 26) 0 4 rfl (by decide) (nI_le (by omega) (by omega)) ?_
      refine a_iconst (pc := 26) 0 14 (v := (-1)) rfl (by decide) ?_
      exact a_iret (pc := 27) 0 15 rfl rfl (hP _ (by unfold f_X3_lowestBankThatStands; exact matchE_l eσ2))
    | succ m_j1 ih_j1 =>
      intro j1 hj_j1 σ2 eσ2
      refine a_iload_n (pc := 2) 0 2 rfl rfl ?_
      refine a_iconst (pc := 3) 0 3 (v := nI 4) rfl (by decide) ?_
      refine a_icmp_ge_f (pc := 4) (tgt := 26) 0 4 rfl (nI_ge (by omega) (by omega)) (by decide) ?_
      refine a_aload_n (pc := 7) 0 5 rfl rfl ?_
      refine a_iload_n (pc := 8) 0 6 rfl rfl ?_
      refine a_callVr (pc := 9) 0 7 (c_X3_bank (S := S) (nI j1)) rfl cv_X3_68 (by decide) rfl rfl rfl (rm rfl) ?_
      refine g_0_hasFailed (pc := 12) 0 8 rfl (show f_X3_bank S (nI j1) < 5 from r_X3_bank) fl_X3_71 ?_
      refine a_if_ne (pc := 15) (tgt := 20) 0 9 rfl (by decide) (fun c15_2 => ?_) (fun c15_2 => ?_)
      · refine a_iinc (pc := 20) 0 12 (v := nI (j1 + 1)) (ls2 := [some (vr 3 0), some (vi (nI (j1 + 1)))]) rfl rfl (iinc1 _) (by decide) rfl ?_
        refine a_goto (pc := 23) (tgt := 2) 0 13 rfl (by decide) ?_
        exact ih_j1 (j1 + 1) (by omega) () (iterE_go eσ2 (by unfold b2_X3_lowestBankThatStands; exact (if_neg c15_2)))
      · refine a_iload_n (pc := 18) 0 10 rfl rfl ?_
        exact a_iret (pc := 19) 0 11 rfl rfl (hP _ (by unfold f_X3_lowestBankThatStands; exact matchE_r (iterE_stop eσ2 (by unfold b2_X3_lowestBankThatStands; exact (if_pos c15_2)) (4) (by omega))))
  exact L2_3 (4) 0 (by omega) () rfl
theorem c_X3_lowestBankThatStands {S : Mem}    : Cts mdX3_lowestBankThatStands 1 22 [vr 3 0] S (Is (some (vi (f_X3_lowestBankThatStands S ))) (S)) := Cts.of dtX3_lowestBankThatStands (by decide +kernel) rfl rfl (Nat.le_of_ble_eq_true rfl) rfl (fun O G => w_X3_lowestBankThatStands  (fun _ h9 => ⟨by rw [h9], rfl⟩))
def b12_X8_note  (j2 : Nat) (σ3 : Mem) : Mem ⊕ Mem := if (nI 400) ≤ (nI j2) then (.inr σ3) else (lt (if (σ3.1 kLogOwners j2) < 0 then (σ3) else (if (nI 17) ≤ (σ3.1 kLogOwners j2) then (σ3) else (lt ((upd2 σ3.1 kLogCarried (ix (σ3.1 kLogOwners j2)) ((σ3.1 kLogCarried (ix (σ3.1 kLogOwners j2))) + (σ3.1 kLogChanges j2)), σ3.2)) (fun (S7 : Mem) => S7)))) (fun (S8 : Mem) => .inl S8))
def f_X8_note (S : Mem) (p1 : Int32) (p2 : Int32) : Mem := lt (if (S.1 kLogCount 0) < (nI 400) then (S) else (lt (outE (iterE (b12_X8_note) S (400))) (fun (σ3 : Mem) => lt ((upd2 σ3.1 kLogCount 0 0, σ3.2)) (fun (S9 : Mem) => S9)))) (fun (S10 : Mem) => lt (if (S10.1 kLogCount 0) < 0 then (S10) else (if (nI 400) ≤ (S10.1 kLogCount 0) then (S10) else (if (nI 400) ≤ (S10.1 kLogCount 0) then (S10) else (lt ((upd2 S10.1 kLogOwners (ix (S10.1 kLogCount 0)) p1, S10.2)) (fun (S14 : Mem) => lt ((upd2 S14.1 kLogChanges (ix (S14.1 kLogCount 0)) p2, S14.2)) (fun (S16 : Mem) => lt ((upd2 S16.1 kLogCount 0 ((S16.1 kLogCount 0) + 1), S16.2)) (fun (S17 : Mem) => S17))))))) (fun (S18 : Mem) => S18))
def ok_X8_note (S : Mem) (p1 : Int32) (p2 : Int32) : Prop := ((∀ S10 : Mem, (if (S.1 kLogCount 0) < (nI 400) then (S) else (lt (outE (iterE (b12_X8_note) S (400))) (fun (σ3 : Mem) => lt ((upd2 σ3.1 kLogCount 0 0, σ3.2)) (fun (S9 : Mem) => S9)))) = S10 → (((¬ ((S10.1 kLogCount 0) < 0)) → (((¬ ((nI 400) ≤ (S10.1 kLogCount 0))) → (((¬ ((nI 400) ≤ (S10.1 kLogCount 0))) → ((∀ S14 : Mem, ((upd2 S10.1 kLogOwners (ix (S10.1 kLogCount 0)) p1, S10.2)) = S14 → ((inb (S14.1 kLogCount 0) 400))))))))))))
abbrev fdX8_note : FD := (mdX8_note, [], 0, 0, 0, 0)
set_option maxRecDepth 100000 in
set_option maxHeartbeats 4000000 in
theorem w_X8_note {O : Om} {G : Cx} {S : Mem} {PP : Option AV → Mem → Prop} (p1 : Int32) (p2 : Int32)   (h : ok_X8_note S p1 p2) (hP : ∀ S9, f_X8_note S p1 p2 = S9 → PP none S9) : BW O G fdX8_note 0 0 (QV O G 0 0 PP) S 0 [some (vr 8 0), some (vi p1), some (vi p2), none] [] := by
  refine a_aload_n (pc := 0) 0 0 rfl rfl ?_
  refine g_8_count (pc := 1) 0 1 rfl fl_X8_21 ?_
  refine a_sipush (pc := 4) 0 2 (v := nI 400) rfl (by decide) ?_
  have J84_18 : ∀ (S10 : Mem) (eS10 : (if (S.1 kLogCount 0) < (nI 400) then (S) else (lt (outE (iterE (b12_X8_note) S (400))) (fun (σ3 : Mem) => lt ((upd2 σ3.1 kLogCount 0 0, σ3.2)) (fun (S9 : Mem) => S9)))) = S10), BW O G fdX8_note 0 0 (QV O G 0 0 PP) S10 84 [some (vr 8 0), some (vi p1), some (vi p2), none] [] := by
    intro S10 eS10
    have h := h S10 eS10
    refine a_aload_n (pc := 84) 1 0 rfl rfl ?_
    refine g_8_count (pc := 85) 1 1 rfl fl_X8_21 ?_
    have J145_19 : ∀ (S18 : Mem) (eS18 : (if (S10.1 kLogCount 0) < 0 then (S10) else (if (nI 400) ≤ (S10.1 kLogCount 0) then (S10) else (if (nI 400) ≤ (S10.1 kLogCount 0) then (S10) else (lt ((upd2 S10.1 kLogOwners (ix (S10.1 kLogCount 0)) p1, S10.2)) (fun (S14 : Mem) => lt ((upd2 S14.1 kLogChanges (ix (S14.1 kLogCount 0)) p2, S14.2)) (fun (S16 : Mem) => lt ((upd2 S16.1 kLogCount 0 ((S16.1 kLogCount 0) + 1), S16.2)) (fun (S17 : Mem) => S17))))))) = S18), BW O G fdX8_note 0 0 (QV O G 0 0 PP) S18 145 [some (vr 8 0), some (vi p1), some (vi p2), none] [] := by
      intro S18 eS18
      exact a_vret (pc := 145) 1 33 rfl rfl (hP _ (by unfold f_X8_note; exact (lt_eq eS10).trans (lt_eq eS18)))
    refine a_if_lt (pc := 88) (tgt := 145) 1 2 rfl (by decide) (fun c88_10 => ?_) (fun c88_10 => ?_)
    · exact J145_19 _ (by exact (if_pos c88_10))
    · have h := h c88_10
      refine a_aload_n (pc := 91) 1 3 rfl rfl ?_
      refine g_8_count (pc := 92) 1 4 rfl fl_X8_21 ?_
      refine a_aload_n (pc := 95) 1 5 rfl rfl ?_
      refine g_8_owners (pc := 96) 1 6 rfl fl_X8_11 ?_
      refine n_20 (pc := 99) 1 7 rfl ?_
      refine a_icmp_ge (pc := 100) (tgt := 145) 1 8 rfl (by decide) (fun c100_11 => ?_) (fun c100_11 => ?_)
      · exact J145_19 _ (by exact ((if_neg c88_10).trans (if_pos c100_11)))
      · have h := h c100_11
        refine a_aload_n (pc := 103) 1 9 rfl rfl ?_
        refine g_8_count (pc := 104) 1 10 rfl fl_X8_21 ?_
        refine a_aload_n (pc := 107) 1 11 rfl rfl ?_
        refine g_8_changes (pc := 108) 1 12 rfl fl_X8_15 ?_
        refine n_21 (pc := 111) 1 13 rfl ?_
        refine a_icmp_ge (pc := 112) (tgt := 145) 1 14 rfl (by decide) (fun c112_12 => ?_) (fun c112_12 => ?_)
        · exact J145_19 _ (by exact ((if_neg c88_10).trans ((if_neg c100_11).trans (if_pos c112_12))))
        · have h := h c112_12
          refine a_aload_n (pc := 115) 1 15 rfl rfl ?_
          refine g_8_owners (pc := 116) 1 16 rfl fl_X8_11 ?_
          refine a_aload_n (pc := 119) 1 17 rfl rfl ?_
          refine g_8_count (pc := 120) 1 18 rfl fl_X8_21 ?_
          refine a_iload_n (pc := 123) 1 19 rfl rfl ?_
          refine s_20 (pc := 124) 1 20 (ix (S10.1 kLogCount 0)) rfl (inb_of c88_10 c100_11 (by decide)).1 (inb_of c88_10 c100_11 (by decide)).2 ?_
          refine a_set (fun S14 eS14 => ?_)
          have h := h S14 eS14
          refine a_aload_n (pc := 125) 1 21 rfl rfl ?_
          refine g_8_changes (pc := 126) 1 22 rfl fl_X8_15 ?_
          refine a_aload_n (pc := 129) 1 23 rfl rfl ?_
          refine g_8_count (pc := 130) 1 24 rfl fl_X8_21 ?_
          refine a_iload_n (pc := 133) 1 25 rfl rfl ?_
          have o15 := h
          refine s_21 (pc := 134) 1 26 (ix (S14.1 kLogCount 0)) rfl o15.1 o15.2 ?_
          refine a_set (fun S16 eS16 => ?_)
          refine a_aload_n (pc := 135) 1 27 rfl rfl ?_
          refine a_dup (pc := 136) 1 28 rfl rfl ?_
          refine g_8_count (pc := 137) 1 29 rfl fl_X8_21 ?_
          refine a_iconst (pc := 140) 1 30 (v := 1) rfl (by decide) ?_
          refine a_iadd (pc := 141) 1 31 rfl ?_
          refine p_8_count (pc := 142) 1 32 rfl fl_X8_21 ?_
          refine a_set (fun S17 eS17 => ?_)
          exact J145_19 _ (by exact ((if_neg c88_10).trans ((if_neg c100_11).trans ((if_neg c112_12).trans ((lt_eq eS14).trans ((lt_eq eS16).trans (lt_eq eS17)))))))
  refine a_icmp_lt (pc := 7) (tgt := 84) 0 3 rfl (by decide) (fun c7_0 => ?_) (fun c7_0 => ?_)
  · exact J84_18 _ (by exact (if_pos c7_0))
  · refine a_iconst (pc := 10) 0 4 (v := 0) rfl (by decide) ?_
    refine a_istore_n (pc := 11) 0 5 (ls2 := [some (vr 8 0), some (vi p1), some (vi p2), some (vi 0)]) rfl rfl (by decide) rfl ?_
    have E12_21 : ∀ (σ3 : Mem), outE (iterE (b12_X8_note) S (400)) = σ3 → BW O G fdX8_note 0 0 (QV O G 0 0 PP) σ3 79 [some (vr 8 0), some (vi p1), some (vi p2), none] [] := by
      intro σ3 eσ3
      refine a_aload_n (pc := 79) 0 45 rfl rfl ?_
      refine a_iconst (pc := 80) 0 46 (v := 0) rfl (by decide) ?_
      refine p_8_count (pc := 81) 0 47 rfl fl_X8_21 ?_
      refine a_set (fun S9 eS9 => ?_)
      exact J84_18 _ (by exact ((if_neg c7_0).trans ((lt_eq eσ3).trans (lt_eq eS9))))
    have L12_20 : ∀ (m_j2 j2 : Nat), j2 + m_j2 = 400 → ∀ (σ3 : Mem), iterE (b12_X8_note) S j2 = .inl σ3 → BW O G fdX8_note 0 0 (QV O G 0 0 PP) σ3 12 [some (vr 8 0), some (vi p1), some (vi p2), some (vi (nI j2))] [] := by
      intro m_j2
      induction m_j2 with
      | zero =>
        intro j2 hj_j2 σ3 eσ3
        have hn_j2 : j2 = 400 := by omega
        refine a_iload_n (pc := 12) 0 6 rfl rfl ?_
        refine a_aload_n (pc := 13) 0 7 rfl rfl ?_
        refine g_8_owners (pc := 14) 0 8 rfl fl_X8_11 ?_
        refine n_20 (pc := 17) 0 9 rfl ?_
        refine a_icmp_ge_t (pc := 18) (tgt := 79) 0 10 rfl (by decide) (nI_le (by omega) (by omega)) ?_
        refine a_drop (ls2 := [some (vr 8 0), some (vi p1), some (vi p2), none]) (⟨rfl, rfl, rfl, trivial⟩) ?_
        exact E12_21 σ3 (by rw [← hn_j2, eσ3]; rfl)
      | succ m_j2 ih_j2 =>
        intro j2 hj_j2 σ3 eσ3
        refine a_iload_n (pc := 12) 0 6 rfl rfl ?_
        refine a_aload_n (pc := 13) 0 7 rfl rfl ?_
        refine g_8_owners (pc := 14) 0 8 rfl fl_X8_11 ?_
        refine n_20 (pc := 17) 0 9 rfl ?_
        refine a_icmp_ge_f (pc := 18) (tgt := 79) 0 10 rfl (nI_ge (by omega) (by omega)) (by decide) ?_
        refine a_iload_n (pc := 21) 0 11 rfl rfl ?_
        refine a_aload_n (pc := 22) 0 12 rfl rfl ?_
        refine g_8_changes (pc := 23) 0 13 rfl fl_X8_15 ?_
        refine n_21 (pc := 26) 0 14 rfl ?_
        refine a_icmp_ge (pc := 27) (tgt := 79) 0 15 rfl (by decide) (fun c27_3 => ?_) (fun c27_3 => ?_)
        · refine a_drop (ls2 := [some (vr 8 0), some (vi p1), some (vi p2), none]) (⟨rfl, rfl, rfl, trivial⟩) ?_
          exact E12_21 σ3 (by have e9 := iterE_stop (r := σ3) eσ3 (by unfold b12_X8_note; exact (if_pos c27_3)) (400) (by omega); rw [e9]; rfl)
        · refine a_aload_n (pc := 30) 0 16 rfl rfl ?_
          refine g_8_owners (pc := 31) 0 17 rfl fl_X8_11 ?_
          refine a_iload_n (pc := 34) 0 18 rfl rfl ?_
          refine e_20 (pc := 35) 0 19 (j2) rfl rfl (by omega) ?_
          have J73_22 : ∀ (S8 : Mem) (eS8 : (if (σ3.1 kLogOwners j2) < 0 then (σ3) else (if (nI 17) ≤ (σ3.1 kLogOwners j2) then (σ3) else (lt ((upd2 σ3.1 kLogCarried (ix (σ3.1 kLogOwners j2)) ((σ3.1 kLogCarried (ix (σ3.1 kLogOwners j2))) + (σ3.1 kLogChanges j2)), σ3.2)) (fun (S7 : Mem) => S7)))) = S8), BW O G fdX8_note 0 0 (QV O G 0 0 PP) S8 73 [some (vr 8 0), some (vi p1), some (vi p2), some (vi (nI j2))] [] := by
            intro S8 eS8
            refine a_iinc (pc := 73) 0 43 (v := nI (j2 + 1)) (ls2 := [some (vr 8 0), some (vi p1), some (vi p2), some (vi (nI (j2 + 1)))]) rfl rfl (iinc1 _) (by decide) rfl ?_
            refine a_goto (pc := 76) (tgt := 12) 0 44 rfl (by decide) ?_
            exact ih_j2 (j2 + 1) (by omega) S8 (iterE_go eσ3 (by unfold b12_X8_note; exact ((if_neg c27_3).trans (lt_eq eS8))))
          refine a_if_lt (pc := 36) (tgt := 73) 0 20 rfl (by decide) (fun c36_4 => ?_) (fun c36_4 => ?_)
          · exact J73_22 _ (by exact (if_pos c36_4))
          · refine a_aload_n (pc := 39) 0 21 rfl rfl ?_
            refine g_8_owners (pc := 40) 0 22 rfl fl_X8_11 ?_
            refine a_iload_n (pc := 43) 0 23 rfl rfl ?_
            refine e_20 (pc := 44) 0 24 (j2) rfl rfl (by omega) ?_
            refine a_aload_n (pc := 45) 0 25 rfl rfl ?_
            refine g_8_carried (pc := 46) 0 26 rfl fl_X8_18 ?_
            refine n_22 (pc := 49) 0 27 rfl ?_
            refine a_icmp_ge (pc := 50) (tgt := 73) 0 28 rfl (by decide) (fun c50_5 => ?_) (fun c50_5 => ?_)
            · exact J73_22 _ (by exact ((if_neg c36_4).trans (if_pos c50_5)))
            · refine a_aload_n (pc := 53) 0 29 rfl rfl ?_
              refine g_8_carried (pc := 54) 0 30 rfl fl_X8_18 ?_
              refine a_aload_n (pc := 57) 0 31 rfl rfl ?_
              refine g_8_owners (pc := 58) 0 32 rfl fl_X8_11 ?_
              refine a_iload_n (pc := 61) 0 33 rfl rfl ?_
              refine e_20 (pc := 62) 0 34 (j2) rfl rfl (by omega) ?_
              refine a_dup2 (pc := 63) 0 35 rfl rfl rfl ?_
              refine e_22 (pc := 64) 0 36 (ix (σ3.1 kLogOwners j2)) rfl (inb_of c36_4 c50_5 (by decide)).1 (inb_of c36_4 c50_5 (by decide)).2 ?_
              refine a_aload_n (pc := 65) 0 37 rfl rfl ?_
              refine g_8_changes (pc := 66) 0 38 rfl fl_X8_15 ?_
              refine a_iload_n (pc := 69) 0 39 rfl rfl ?_
              refine e_21 (pc := 70) 0 40 (j2) rfl rfl (by omega) ?_
              refine a_iadd (pc := 71) 0 41 rfl ?_
              refine s_22 (pc := 72) 0 42 (ix (σ3.1 kLogOwners j2)) rfl (inb_of c36_4 c50_5 (by decide)).1 (inb_of c36_4 c50_5 (by decide)).2 ?_
              refine a_set (fun S7 eS7 => ?_)
              exact J73_22 _ (by exact ((if_neg c36_4).trans ((if_neg c50_5).trans (lt_eq eS7))))
    exact L12_20 (400) 0 (by omega) S rfl
theorem c_X8_note {S : Mem} (p1 : Int32) (p2 : Int32)   (h : ok_X8_note S p1 p2) : Cts mdX8_note 0 0 [vr 8 0, vi p1, vi p2] S (Is none (f_X8_note S p1 p2)) := Cts.of dtX8_note (by decide +kernel) rfl rfl (Nat.le_of_ble_eq_true rfl) rfl (fun O G => w_X8_note p1 p2 h (fun _ h9 => ⟨rfl, h9.symm⟩))
def b26_X8_sumOf (S : Mem) (p1 : Int32) (j4 : Nat) (σ5 : Int32) : Int32 ⊕ Int32 := if (nI 400) ≤ (nI j4) then (.inr σ5) else (if (nI 400) ≤ (nI j4) then (.inr σ5) else (lt (if (S.1 kLogOwners j4) = p1 then (σ5 + (S.1 kLogChanges j4)) else (σ5)) (fun (v12 : Int32) => .inl v12)))
def f_X8_sumOf (S : Mem) (p1 : Int32) : Int32 := lt (if p1 < 0 then (0) else (if (nI 17) ≤ p1 then (0) else (S.1 kLogCarried (ix p1)))) (fun (v3 : Int32) => lt (outE (iterE (b26_X8_sumOf S p1) v3 (ix (S.1 kLogCount 0)))) (fun (σ5 : Int32) => σ5))
def ok_X8_sumOf (S : Mem) (p1 : Int32) : Prop := ((∀ v3 : Int32, (if p1 < 0 then (0) else (if (nI 17) ≤ p1 then (0) else (S.1 kLogCarried (ix p1)))) = v3 → ((∀ j4 : Nat, j4 ≤ ix (S.1 kLogCount 0) → ∀ σ5 : Int32, iterE (b26_X8_sumOf S p1) v3 j4 = .inl σ5 → S.1 kLogCount 0 = nI (ix (S.1 kLogCount 0))) ∧ (∀ j4 : Nat, j4 < ix (S.1 kLogCount 0) → ∀ σ5 : Int32, iterE (b26_X8_sumOf S p1) v3 j4 = .inl σ5 → (((¬ ((nI 400) ≤ (nI j4))) → (((¬ ((nI 400) ≤ (nI j4))) → ((j4 < 400) ∧ (((S.1 kLogOwners j4) = p1) → ((j4 < 400))))))))))))
abbrev fdX8_sumOf : FD := (mdX8_sumOf, [], 0, 0, 0, 0)
set_option maxRecDepth 100000 in
set_option maxHeartbeats 4000000 in
theorem w_X8_sumOf {O : Om} {G : Cx} {S : Mem} {PP : Option AV → Mem → Prop} (p1 : Int32)   (h : ok_X8_sumOf S p1) (hP : ∀ x9, f_X8_sumOf S p1 = x9 → PP (some (vi x9)) S) : BW O G fdX8_sumOf 0 0 (QV O G 0 0 PP) S 0 [some (vr 8 0), some (vi p1), none, none] [] := by
  refine a_iload_n (pc := 0) 0 0 rfl rfl ?_
  have J23_12 : ∀ (v3 : Int32) (ev3 : (if p1 < 0 then (0) else (if (nI 17) ≤ p1 then (0) else (S.1 kLogCarried (ix p1)))) = v3), BW O G fdX8_sumOf 0 0 (QV O G 0 0 PP) S 23 [some (vr 8 0), some (vi p1), none, none] [vi v3] := by
    intro v3 ev3
    have h := h v3 ev3
    refine a_istore_n (pc := 23) 0 13 (ls2 := [some (vr 8 0), some (vi p1), some (vi v3), none]) rfl rfl (by decide) rfl ?_
    refine a_iconst (pc := 24) 0 14 (v := 0) rfl (by decide) ?_
    refine a_istore_n (pc := 25) 0 15 (ls2 := [some (vr 8 0), some (vi p1), some (vi v3), some (vi 0)]) rfl rfl (by decide) rfl ?_
    obtain ⟨o6, hb_j4⟩ := h
    have nlt_j4 := ix_lt (S.1 kLogCount 0)
    have E26_14 : ∀ (σ5 : Int32), outE (iterE (b26_X8_sumOf S p1) v3 (ix (S.1 kLogCount 0))) = σ5 → BW O G fdX8_sumOf 0 0 (QV O G 0 0 PP) S 77 [some (vr 8 0), some (vi p1), some (vi σ5), none] [] := by
      intro σ5 eσ5
      refine a_iload_n (pc := 77) 0 45 rfl rfl ?_
      exact a_iret (pc := 78) 0 46 rfl rfl (hP _ (by unfold f_X8_sumOf; exact (lt_eq ev3).trans (lt_eq eσ5)))
    have L26_13 : ∀ (m_j4 j4 : Nat), j4 + m_j4 = ix (S.1 kLogCount 0) → ∀ (σ5 : Int32), iterE (b26_X8_sumOf S p1) v3 j4 = .inl σ5 → BW O G fdX8_sumOf 0 0 (QV O G 0 0 PP) S 26 [some (vr 8 0), some (vi p1), some (vi σ5), some (vi (nI j4))] [] := by
      intro m_j4
      induction m_j4 with
      | zero =>
        intro j4 hj_j4 σ5 eσ5
        have o6 := o6 j4 (by omega) σ5 eσ5
        have hn_j4 : j4 = ix (S.1 kLogCount 0) := by omega
        refine a_iload_n (pc := 26) 0 16 rfl rfl ?_
        refine a_aload_n (pc := 27) 0 17 rfl rfl ?_
        refine g_8_count (pc := 28) 0 18 rfl fl_X8_21 ?_
        refine a_icmp_ge_t (pc := 31) (tgt := 77) 0 19 rfl (by decide) (bd_t (o6) (by omega)) ?_
        refine a_drop (ls2 := [some (vr 8 0), some (vi p1), some (vi σ5), none]) (⟨rfl, rfl, rfl, trivial⟩) ?_
        exact E26_14 σ5 (by rw [← hn_j4, eσ5]; rfl)
      | succ m_j4 ih_j4 =>
        intro j4 hj_j4 σ5 eσ5
        have o6 := o6 j4 (by omega) σ5 eσ5
        have h := hb_j4 j4 (by omega) σ5 eσ5
        refine a_iload_n (pc := 26) 0 16 rfl rfl ?_
        refine a_aload_n (pc := 27) 0 17 rfl rfl ?_
        refine g_8_count (pc := 28) 0 18 rfl fl_X8_21 ?_
        refine a_icmp_ge_f (pc := 31) (tgt := 77) 0 19 rfl (bd_f (o6) (by omega)) (by decide) ?_
        refine a_iload_n (pc := 34) 0 20 rfl rfl ?_
        refine a_aload_n (pc := 35) 0 21 rfl rfl ?_
        refine g_8_owners (pc := 36) 0 22 rfl fl_X8_11 ?_
        refine n_20 (pc := 39) 0 23 rfl ?_
        refine a_icmp_ge (pc := 40) (tgt := 77) 0 24 rfl (by decide) (fun c40_6 => ?_) (fun c40_6 => ?_)
        · refine a_drop (ls2 := [some (vr 8 0), some (vi p1), some (vi σ5), none]) (⟨rfl, rfl, rfl, trivial⟩) ?_
          exact E26_14 σ5 (by have e9 := iterE_stop (r := σ5) eσ5 (by unfold b26_X8_sumOf; exact (if_pos c40_6)) (ix (S.1 kLogCount 0)) (by omega); rw [e9]; rfl)
        · have h := h c40_6
          refine a_iload_n (pc := 43) 0 25 rfl rfl ?_
          refine a_aload_n (pc := 44) 0 26 rfl rfl ?_
          refine g_8_changes (pc := 45) 0 27 rfl fl_X8_15 ?_
          refine n_21 (pc := 48) 0 28 rfl ?_
          refine a_icmp_ge (pc := 49) (tgt := 77) 0 29 rfl (by decide) (fun c49_7 => ?_) (fun c49_7 => ?_)
          · refine a_drop (ls2 := [some (vr 8 0), some (vi p1), some (vi σ5), none]) (⟨rfl, rfl, rfl, trivial⟩) ?_
            exact E26_14 σ5 (by have e9 := iterE_stop (r := σ5) eσ5 (by unfold b26_X8_sumOf; exact ((if_neg c40_6).trans (if_pos c49_7))) (ix (S.1 kLogCount 0)) (by omega); rw [e9]; rfl)
          · have h := h c49_7
            refine a_aload_n (pc := 52) 0 30 rfl rfl ?_
            refine g_8_owners (pc := 53) 0 31 rfl fl_X8_11 ?_
            refine a_iload_n (pc := 56) 0 32 rfl rfl ?_
            obtain ⟨o9, h⟩ := h
            refine e_20 (pc := 57) 0 33 (j4) rfl rfl o9 ?_
            refine a_iload_n (pc := 58) 0 34 rfl rfl ?_
            have J71_15 : ∀ (v12 : Int32) (ev12 : (if (S.1 kLogOwners j4) = p1 then (σ5 + (S.1 kLogChanges j4)) else (σ5)) = v12), BW O G fdX8_sumOf 0 0 (QV O G 0 0 PP) S 71 [some (vr 8 0), some (vi p1), some (vi v12), some (vi (nI j4))] [] := by
              intro v12 ev12
              refine a_iinc (pc := 71) 0 43 (v := nI (j4 + 1)) (ls2 := [some (vr 8 0), some (vi p1), some (vi v12), some (vi (nI (j4 + 1)))]) rfl rfl (iinc1 _) (by decide) rfl ?_
              refine a_goto (pc := 74) (tgt := 26) 0 44 rfl (by decide) ?_
              exact ih_j4 (j4 + 1) (by omega) v12 (iterE_go eσ5 (by unfold b26_X8_sumOf; exact ((if_neg c40_6).trans ((if_neg c49_7).trans (lt_eq ev12)))))
            refine a_icmp_ne (pc := 59) (tgt := 71) 0 35 rfl (by decide) (fun c59_9 => ?_) (fun c59_9 => ?_)
            · exact J71_15 _ (by exact (if_neg c59_9))
            · have h := h c59_9
              refine a_iload_n (pc := 62) 0 36 rfl rfl ?_
              refine a_aload_n (pc := 63) 0 37 rfl rfl ?_
              refine g_8_changes (pc := 64) 0 38 rfl fl_X8_15 ?_
              refine a_iload_n (pc := 67) 0 39 rfl rfl ?_
              have o11 := h
              refine e_21 (pc := 68) 0 40 (j4) rfl rfl o11 ?_
              refine a_iadd (pc := 69) 0 41 rfl ?_
              refine a_istore_n (pc := 70) 0 42 (ls2 := [some (vr 8 0), some (vi p1), some (vi (σ5 + (S.1 kLogChanges j4))), some (vi (nI j4))]) rfl rfl (by decide) rfl ?_
              exact J71_15 _ (by exact (if_pos c59_9))
    exact L26_13 (ix (S.1 kLogCount 0)) 0 (by omega) v3 rfl
  refine a_if_lt (pc := 1) (tgt := 22) 0 1 rfl (by decide) (fun c1_0 => ?_) (fun c1_0 => ?_)
  · refine a_iconst (pc := 22) 0 12 (v := 0) rfl (by decide) ?_
    exact J23_12 _ (by exact (if_pos c1_0))
  · refine a_iload_n (pc := 4) 0 2 rfl rfl ?_
    refine a_aload_n (pc := 5) 0 3 rfl rfl ?_
    refine g_8_carried (pc := 6) 0 4 rfl fl_X8_18 ?_
    refine n_22 (pc := 9) 0 5 rfl ?_
    refine a_icmp_ge (pc := 10) (tgt := 22) 0 6 rfl (by decide) (fun c10_1 => ?_) (fun c10_1 => ?_)
    · refine a_iconst (pc := 22) 0 12 (v := 0) rfl (by decide) ?_
      exact J23_12 _ (by exact ((if_neg c1_0).trans (if_pos c10_1)))
    · refine a_aload_n (pc := 13) 0 7 rfl rfl ?_
      refine g_8_carried (pc := 14) 0 8 rfl fl_X8_18 ?_
      refine a_iload_n (pc := 17) 0 9 rfl rfl ?_
      refine e_22 (pc := 18) 0 10 (ix p1) rfl (inb_of c1_0 c10_1 (by decide)).1 (inb_of c1_0 c10_1 (by decide)).2 ?_
      refine a_goto (pc := 19) (tgt := 23) 0 11 rfl (by decide) ?_
      exact J23_12 _ (by exact ((if_neg c1_0).trans (if_neg c10_1)))
theorem c_X8_sumOf {S : Mem} (p1 : Int32)   (h : ok_X8_sumOf S p1) : Cts mdX8_sumOf 0 0 [vr 8 0, vi p1] S (Is (some (vi (f_X8_sumOf S p1))) (S)) := Cts.of dtX8_sumOf (by decide +kernel) rfl rfl (Nat.le_of_ble_eq_true rfl) rfl (fun O G => w_X8_sumOf p1 h (fun _ h9 => ⟨by rw [h9], rfl⟩))
def f_X3_change (S : Mem) (p1 : Int32) (p2 : Int32) : Mem := lt ((upd2 S.1 kAccounts (f_X3_holder S p1) ((S.1 kAccounts (f_X3_holder S p1)) + p2), S.2)) (fun (S1 : Mem) => lt (f_X8_note S1 p1 p2) (fun (S3 : Mem) => S3))
def ok_X3_change (S : Mem) (p1 : Int32) (p2 : Int32) : Prop := ((∀ S1 : Mem, ((upd2 S.1 kAccounts (f_X3_holder S p1) ((S.1 kAccounts (f_X3_holder S p1)) + p2), S.2)) = S1 → ((ok_X8_note S1 p1 p2))))
abbrev fdX3_change : FD := (mdX3_change, [], 1, 23, 0, 0)
set_option maxRecDepth 100000 in
set_option maxHeartbeats 4000000 in
theorem w_X3_change {O : Om} {G : Cx} {S : Mem} {PP : Option AV → Mem → Prop} (p1 : Int32) (p2 : Int32)   (h : ok_X3_change S p1 p2) (hP : ∀ S9, f_X3_change S p1 p2 = S9 → PP none S9) : BW O G fdX3_change 0 0 (QV O G 0 0 PP) S 0 [some (vr 3 0), some (vi p1), some (vi p2)] [] := by
  refine a_aload_n (pc := 0) 0 0 rfl rfl ?_
  refine a_iload_n (pc := 1) 0 1 rfl rfl ?_
  refine a_callVr (pc := 2) 0 2 (c_X3_holder (S := S) p1) rfl cv_X3_47 (by decide) rfl rfl rfl (rm rfl) ?_
  refine a_dup (pc := 5) 0 3 rfl rfl ?_
  refine g_5_balance (pc := 6) 0 4 rfl (show f_X3_holder S p1 < 17 from r_X3_holder) fl_X3_51 ?_
  refine a_iload_n (pc := 9) 0 5 rfl rfl ?_
  refine a_iadd (pc := 10) 0 6 rfl ?_
  refine p_5_balance (pc := 11) 0 7 rfl (show f_X3_holder S p1 < 17 from r_X3_holder) fl_X3_51 ?_
  refine a_set (fun S1 eS1 => ?_)
  have h := h S1 eS1
  refine a_aload_n (pc := 14) 0 8 rfl rfl ?_
  refine g_3_log (pc := 15) 0 9 rfl fl_X3_21 ?_
  refine a_iload_n (pc := 18) 0 10 rfl rfl ?_
  refine a_iload_n (pc := 19) 0 11 rfl rfl ?_
  have o2 := h
  refine a_callVv (pc := 20) 0 12 (c_X8_note (S := S1) p1 p2 o2) rfl cv_X3_55 (by decide) rfl rfl rfl (rm rfl) ?_
  refine a_set (fun S3 eS3 => ?_)
  exact a_vret (pc := 23) 0 13 rfl rfl (hP _ (by unfold f_X3_change; exact (lt_eq eS1).trans (lt_eq eS3)))
theorem c_X3_change {S : Mem} (p1 : Int32) (p2 : Int32)   (h : ok_X3_change S p1 p2) : Cts mdX3_change 1 23 [vr 3 0, vi p1, vi p2] S (Is none (f_X3_change S p1 p2)) := Cts.of dtX3_change (by decide +kernel) rfl rfl (Nat.le_of_ble_eq_true rfl) rfl (fun O G => w_X3_change p1 p2 h (fun _ h9 => ⟨rfl, h9.symm⟩))
def f_X3_noteCentral (S : Mem) (p1 : Int32) : Mem := lt (f_X8_note S (nI 16) p1) (fun (S2 : Mem) => S2)
def ok_X3_noteCentral (S : Mem) (p1 : Int32) : Prop := ((ok_X8_note S (nI 16) p1))
abbrev fdX3_noteCentral : FD := (mdX3_noteCentral, [], 1, 23, 0, 0)
set_option maxRecDepth 100000 in
set_option maxHeartbeats 4000000 in
theorem w_X3_noteCentral {O : Om} {G : Cx} {S : Mem} {PP : Option AV → Mem → Prop} (p1 : Int32)   (h : ok_X3_noteCentral S p1) (hP : ∀ S9, f_X3_noteCentral S p1 = S9 → PP none S9) : BW O G fdX3_noteCentral 0 0 (QV O G 0 0 PP) S 0 [some (vr 3 0), some (vi p1)] [] := by
  refine a_aload_n (pc := 0) 0 0 rfl rfl ?_
  refine g_3_log (pc := 1) 0 1 rfl fl_X3_21 ?_
  refine a_bipush (pc := 4) 0 2 (v := nI 16) rfl (by decide) ?_
  refine a_iload_n (pc := 6) 0 3 rfl rfl ?_
  have o1 := h
  refine a_callVv (pc := 7) 0 4 (c_X8_note (S := S) (nI 16) p1 o1) rfl cv_X3_55 (by decide) rfl rfl rfl (rm rfl) ?_
  refine a_set (fun S2 eS2 => ?_)
  exact a_vret (pc := 10) 0 5 rfl rfl (hP _ (by unfold f_X3_noteCentral; exact lt_eq eS2))
theorem c_X3_noteCentral {S : Mem} (p1 : Int32)   (h : ok_X3_noteCentral S p1) : Cts mdX3_noteCentral 1 23 [vr 3 0, vi p1] S (Is none (f_X3_noteCentral S p1)) := Cts.of dtX3_noteCentral (by decide +kernel) rfl rfl (Nat.le_of_ble_eq_true rfl) rfl (fun O G => w_X3_noteCentral p1 h (fun _ h9 => ⟨rfl, h9.symm⟩))
def f_X3_canPayOwner (S : Mem) (i1 : Nat) (p2 : Int32) : Int32 := lt (f_X5_free S (f_X3_holder S (S.1 kLoanHolders i1))) (fun (v1 : Int32) => lt (if v1 < p2 then (0) else (if (S.1 kBankOf (f_X3_holder S (S.1 kLoanHolders i1))) = (S.1 kLoanBanks i1) then (1) else (if (S.1 kReserves (f_X3_bank S (S.1 kBankOf (f_X3_holder S (S.1 kLoanHolders i1))))) < p2 then (0) else (1)))) (fun (v5 : Int32) => v5))
abbrev fdX3_canPayOwner : FD := (mdX3_canPayOwner, [], 1, 22, 0, 0)
set_option maxRecDepth 100000 in
set_option maxHeartbeats 4000000 in
theorem w_X3_canPayOwner {O : Om} {G : Cx} {S : Mem} {PP : Option AV → Mem → Prop} (i1 : Nat) (p2 : Int32) (hi1 : i1 < 21)  (hP : ∀ x9, f_X3_canPayOwner S i1 p2 = x9 → PP (some (vi x9)) S) : BW O G fdX3_canPayOwner 0 0 (QV O G 0 0 PP) S 0 [some (vr 3 0), some (vr 6 i1), some (vi p2), none] [] := by
  refine a_aload_n (pc := 0) 0 0 rfl rfl ?_
  refine a_aload_n (pc := 1) 0 1 rfl rfl ?_
  refine g_6_holder (pc := 2) 0 2 rfl (by first | omega | assumption) fl_X3_79 ?_
  refine a_callVr (pc := 5) 0 3 (c_X3_holder (S := S) (S.1 kLoanHolders i1)) rfl cv_X3_47 (by decide) rfl rfl rfl (rm rfl) ?_
  refine a_astore_n (pc := 8) 0 4 (ls2 := [some (vr 3 0), some (vr 6 i1), some (vi p2), some (vr 5 (f_X3_holder S (S.1 kLoanHolders i1)))]) rfl rfl (by decide) rfl ?_
  refine a_iload_n (pc := 9) 0 5 rfl rfl ?_
  refine a_aload_n (pc := 10) 0 6 rfl rfl ?_
  refine a_callVi (pc := 11) 0 7 (c_X5_free (S := S) (f_X3_holder S (S.1 kLoanHolders i1)) (show f_X3_holder S (S.1 kLoanHolders i1) < 17 from r_X3_holder)) rfl cv_X3_83 (show f_X3_holder S (S.1 kLoanHolders i1) < 17 from r_X3_holder) rfl rfl rfl (rm rfl) ?_
  refine a_seti (fun v1 ev1 => ?_)
  have J48_5 : ∀ (v5 : Int32) (ev5 : (if v1 < p2 then (0) else (if (S.1 kBankOf (f_X3_holder S (S.1 kLoanHolders i1))) = (S.1 kLoanBanks i1) then (1) else (if (S.1 kReserves (f_X3_bank S (S.1 kBankOf (f_X3_holder S (S.1 kLoanHolders i1))))) < p2 then (0) else (1)))) = v5), BW O G fdX3_canPayOwner 0 0 (QV O G 0 0 PP) S 48 [some (vr 3 0), some (vr 6 i1), some (vi p2), some (vr 5 (f_X3_holder S (S.1 kLoanHolders i1)))] [vi v5] := by
    intro v5 ev5
    exact a_zret (pc := 48) 0 24 rfl (nar_b (by rw [← ev5]; repeat (first | exact Or.inl rfl | exact Or.inr rfl | assumption | split | dsimp only [lt]))) rfl (hP _ (by unfold f_X3_canPayOwner; exact (lt_eq ev1).trans (lt_eq ev5)))
  refine a_icmp_gt (pc := 14) (tgt := 47) 0 8 rfl (by decide) (fun c14_1 => ?_) (fun c14_1 => ?_)
  · refine a_iconst (pc := 47) 0 23 (v := 0) rfl (by decide) ?_
    exact J48_5 _ (by exact (if_pos c14_1))
  · refine a_aload_n (pc := 17) 0 9 rfl rfl ?_
    refine g_5_bank (pc := 18) 0 10 rfl (show f_X3_holder S (S.1 kLoanHolders i1) < 17 from r_X3_holder) fl_X3_59 ?_
    refine a_aload_n (pc := 21) 0 11 rfl rfl ?_
    refine g_6_owner (pc := 22) 0 12 rfl (by first | omega | assumption) fl_X3_86 ?_
    refine a_icmp_eq (pc := 25) (tgt := 43) 0 13 rfl (by decide) (fun c25_2 => ?_) (fun c25_2 => ?_)
    · refine a_iconst (pc := 43) 0 21 (v := 1) rfl (by decide) ?_
      refine a_goto (pc := 44) (tgt := 48) 0 22 rfl (by decide) ?_
      exact J48_5 _ (by exact ((if_neg c14_1).trans (if_pos c25_2)))
    · refine a_iload_n (pc := 28) 0 14 rfl rfl ?_
      refine a_aload_n (pc := 29) 0 15 rfl rfl ?_
      refine a_aload_n (pc := 30) 0 16 rfl rfl ?_
      refine g_5_bank (pc := 31) 0 17 rfl (show f_X3_holder S (S.1 kLoanHolders i1) < 17 from r_X3_holder) fl_X3_59 ?_
      refine a_callVr (pc := 34) 0 18 (c_X3_bank (S := S) (S.1 kBankOf (f_X3_holder S (S.1 kLoanHolders i1)))) rfl cv_X3_68 (by decide) rfl rfl rfl (rm rfl) ?_
      refine g_0_reserves (pc := 37) 0 19 rfl (show f_X3_bank S (S.1 kBankOf (f_X3_holder S (S.1 kLoanHolders i1))) < 5 from r_X3_bank) fl_X3_89 ?_
      refine a_icmp_gt (pc := 40) (tgt := 47) 0 20 rfl (by decide) (fun c40_3 => ?_) (fun c40_3 => ?_)
      · refine a_iconst (pc := 47) 0 23 (v := 0) rfl (by decide) ?_
        exact J48_5 _ (by exact ((if_neg c14_1).trans ((if_neg c25_2).trans (if_pos c40_3))))
      · refine a_iconst (pc := 43) 0 21 (v := 1) rfl (by decide) ?_
        refine a_goto (pc := 44) (tgt := 48) 0 22 rfl (by decide) ?_
        exact J48_5 _ (by exact ((if_neg c14_1).trans ((if_neg c25_2).trans (if_neg c40_3))))
theorem c_X3_canPayOwner {S : Mem} (i1 : Nat) (p2 : Int32) (hi1 : i1 < 21)  : Cts mdX3_canPayOwner 1 22 [vr 3 0, vr 6 i1, vi p2] S (Is (some (vi (f_X3_canPayOwner S i1 p2))) (S)) := Cts.of dtX3_canPayOwner (by decide +kernel) rfl rfl (Nat.le_of_ble_eq_true rfl) rfl (fun O G => w_X3_canPayOwner i1 p2 hi1 (fun _ h9 => ⟨by rw [h9], rfl⟩))
theorem b_X3_canPayOwner (S : Mem) (i1 : Nat) (p2 : Int32) : f_X3_canPayOwner S i1 p2 = 0 ∨ f_X3_canPayOwner S i1 p2 = 1 := by
  unfold f_X3_canPayOwner
  try dsimp only [lt]
  repeat (first | exact Or.inl rfl | exact Or.inr rfl | split | dsimp only [lt])
def f_X3_payOwner (S : Mem) (i1 : Nat) (p2 : Int32) : Mem := lt (f_X3_change S (S.1 kLoanHolders i1) (-p2)) (fun (S2 : Mem) => if (S2.1 kBankOf (f_X3_holder S (S.1 kLoanHolders i1))) = (S2.1 kLoanBanks i1) then (S2) else (lt ((upd2 S2.1 kReserves (f_X3_bank S2 (S2.1 kBankOf (f_X3_holder S (S.1 kLoanHolders i1)))) ((S2.1 kReserves (f_X3_bank S2 (S2.1 kBankOf (f_X3_holder S (S.1 kLoanHolders i1))))) - p2), S2.2)) (fun (S4 : Mem) => lt (if (S4.1 kLoanBanks i1) = (nI 4) then (S4) else (lt ((upd2 S4.1 kReserves (f_X3_bank S4 (S4.1 kLoanBanks i1)) ((S4.1 kReserves (f_X3_bank S4 (S4.1 kLoanBanks i1))) + p2), S4.2)) (fun (S6 : Mem) => S6))) (fun (S7 : Mem) => S7))))
def ok_X3_payOwner (S : Mem) (i1 : Nat) (p2 : Int32) : Prop := ((ok_X3_change S (S.1 kLoanHolders i1) (-p2)))
abbrev fdX3_payOwner : FD := (mdX3_payOwner, [], 2, 45, 0, 0)
set_option maxRecDepth 100000 in
set_option maxHeartbeats 4000000 in
theorem w_X3_payOwner {O : Om} {G : Cx} {S : Mem} {PP : Option AV → Mem → Prop} (i1 : Nat) (p2 : Int32) (hi1 : i1 < 21)  (h : ok_X3_payOwner S i1 p2) (hP : ∀ S9, f_X3_payOwner S i1 p2 = S9 → PP none S9) : BW O G fdX3_payOwner 0 0 (QV O G 0 0 PP) S 0 [some (vr 3 0), some (vr 6 i1), some (vi p2), none] [] := by
  refine a_aload_n (pc := 0) 0 0 rfl rfl ?_
  refine a_aload_n (pc := 1) 0 1 rfl rfl ?_
  refine g_6_holder (pc := 2) 0 2 rfl (by first | omega | assumption) fl_X3_79 ?_
  refine a_callVr (pc := 5) 0 3 (c_X3_holder (S := S) (S.1 kLoanHolders i1)) rfl cv_X3_47 (by decide) rfl rfl rfl (rm rfl) ?_
  refine a_astore_n (pc := 8) 0 4 (ls2 := [some (vr 3 0), some (vr 6 i1), some (vi p2), some (vr 5 (f_X3_holder S (S.1 kLoanHolders i1)))]) rfl rfl (by decide) rfl ?_
  refine a_aload_n (pc := 9) 0 5 rfl rfl ?_
  refine a_aload_n (pc := 10) 0 6 rfl rfl ?_
  refine g_6_holder (pc := 11) 0 7 rfl (by first | omega | assumption) fl_X3_79 ?_
  refine a_iload_n (pc := 14) 0 8 rfl rfl ?_
  refine a_ineg (pc := 15) 0 9 rfl ?_
  have o1 := h
  refine a_callVv (pc := 16) 0 10 (c_X3_change (S := S) (S.1 kLoanHolders i1) (-p2) o1) rfl cv_X3_92 (by decide) rfl rfl rfl (rm rfl) ?_
  refine a_set (fun S2 eS2 => ?_)
  refine a_aload_n (pc := 19) 0 11 rfl rfl ?_
  refine g_5_bank (pc := 20) 0 12 rfl (show f_X3_holder S (S.1 kLoanHolders i1) < 17 from r_X3_holder) fl_X3_59 ?_
  refine a_aload_n (pc := 23) 0 13 rfl rfl ?_
  refine g_6_owner (pc := 24) 0 14 rfl (by first | omega | assumption) fl_X3_86 ?_
  refine a_icmp_ne (pc := 27) (tgt := 31) 0 15 rfl (by decide) (fun c27_2 => ?_) (fun c27_2 => ?_)
  · refine a_aload_n (pc := 31) 0 17 rfl rfl ?_
    refine a_aload_n (pc := 32) 0 18 rfl rfl ?_
    refine g_5_bank (pc := 33) 0 19 rfl (show f_X3_holder S (S.1 kLoanHolders i1) < 17 from r_X3_holder) fl_X3_59 ?_
    refine a_callVr (pc := 36) 0 20 (c_X3_bank (S := S2) (S2.1 kBankOf (f_X3_holder S (S.1 kLoanHolders i1)))) rfl cv_X3_68 (by decide) rfl rfl rfl (rm rfl) ?_
    refine a_dup (pc := 39) 0 21 rfl rfl ?_
    refine g_0_reserves (pc := 40) 0 22 rfl (show f_X3_bank S2 (S2.1 kBankOf (f_X3_holder S (S.1 kLoanHolders i1))) < 5 from r_X3_bank) fl_X3_89 ?_
    refine a_iload_n (pc := 43) 0 23 rfl rfl ?_
    refine a_isub (pc := 44) 0 24 rfl ?_
    refine p_0_reserves (pc := 45) 0 25 rfl (show f_X3_bank S2 (S2.1 kBankOf (f_X3_holder S (S.1 kLoanHolders i1))) < 5 from r_X3_bank) fl_X3_89 ?_
    refine a_set (fun S4 eS4 => ?_)
    refine a_aload_n (pc := 48) 0 26 rfl rfl ?_
    refine g_6_owner (pc := 49) 0 27 rfl (by first | omega | assumption) fl_X3_86 ?_
    refine a_iconst (pc := 52) 0 28 (v := nI 4) rfl (by decide) ?_
    have J73_7 : ∀ (S7 : Mem) (eS7 : (if (S4.1 kLoanBanks i1) = (nI 4) then (S4) else (lt ((upd2 S4.1 kReserves (f_X3_bank S4 (S4.1 kLoanBanks i1)) ((S4.1 kReserves (f_X3_bank S4 (S4.1 kLoanBanks i1))) + p2), S4.2)) (fun (S6 : Mem) => S6))) = S7), BW O G fdX3_payOwner 0 0 (QV O G 0 0 PP) S7 73 [some (vr 3 0), some (vr 6 i1), some (vi p2), some (vr 5 (f_X3_holder S (S.1 kLoanHolders i1)))] [] := by
      intro S7 eS7
      exact a_vret (pc := 73) 0 39 rfl rfl (hP _ (by unfold f_X3_payOwner; exact (lt_eq eS2).trans ((if_neg c27_2).trans ((lt_eq eS4).trans (lt_eq eS7)))))
    refine a_icmp_eq (pc := 53) (tgt := 73) 0 29 rfl (by decide) (fun c53_4 => ?_) (fun c53_4 => ?_)
    · exact J73_7 _ (by exact (if_pos c53_4))
    · refine a_aload_n (pc := 56) 0 30 rfl rfl ?_
      refine a_aload_n (pc := 57) 0 31 rfl rfl ?_
      refine g_6_owner (pc := 58) 0 32 rfl (by first | omega | assumption) fl_X3_86 ?_
      refine a_callVr (pc := 61) 0 33 (c_X3_bank (S := S4) (S4.1 kLoanBanks i1)) rfl cv_X3_68 (by decide) rfl rfl rfl (rm rfl) ?_
      refine a_dup (pc := 64) 0 34 rfl rfl ?_
      refine g_0_reserves (pc := 65) 0 35 rfl (show f_X3_bank S4 (S4.1 kLoanBanks i1) < 5 from r_X3_bank) fl_X3_89 ?_
      refine a_iload_n (pc := 68) 0 36 rfl rfl ?_
      refine a_iadd (pc := 69) 0 37 rfl ?_
      refine p_0_reserves (pc := 70) 0 38 rfl (show f_X3_bank S4 (S4.1 kLoanBanks i1) < 5 from r_X3_bank) fl_X3_89 ?_
      refine a_set (fun S6 eS6 => ?_)
      exact J73_7 _ (by exact ((if_neg c53_4).trans (lt_eq eS6)))
  · exact a_vret (pc := 30) 0 16 rfl rfl (hP _ (by unfold f_X3_payOwner; exact (lt_eq eS2).trans (if_pos c27_2)))
theorem c_X3_payOwner {S : Mem} (i1 : Nat) (p2 : Int32) (hi1 : i1 < 21)  (h : ok_X3_payOwner S i1 p2) : Cts mdX3_payOwner 2 45 [vr 3 0, vr 6 i1, vi p2] S (Is none (f_X3_payOwner S i1 p2)) := Cts.of dtX3_payOwner (by decide +kernel) rfl rfl (Nat.le_of_ble_eq_true rfl) rfl (fun O G => w_X3_payOwner i1 p2 hi1 h (fun _ h9 => ⟨rfl, h9.symm⟩))
