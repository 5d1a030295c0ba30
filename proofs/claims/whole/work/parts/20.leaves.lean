def f_X11_share (S : Mem) (p1 : Int32) (p2 : Int32) (p3 : Int32) : Int32 := lt (if 0 < p3 then (((p1.toInt64 * p2.toInt64) / p3.toInt64).toInt32) else (0)) (fun (v2 : Int32) => v2)
abbrev fdX11_share : FD := (mdX11_share, [], 0, 0, 0, 0)
set_option maxRecDepth 100000 in
set_option maxHeartbeats 4000000 in
theorem w_X11_share {O : Om} {G : Cx} {S : Mem} {PP : Option AV → Mem → Prop} (p1 : Int32) (p2 : Int32) (p3 : Int32)   (hP : ∀ x9, f_X11_share S p1 p2 p3 = x9 → PP (some (vi x9)) S) : BW O G fdX11_share 0 0 (QV O G 0 0 PP) S 0 [some (vi p1), some (vi p2), some (vi p3)] [] := by
  refine a_iload_n (pc := 0) 0 0 rfl rfl ?_
  have J17_2 : ∀ (v2 : Int32) (ev2 : (if 0 < p3 then (((p1.toInt64 * p2.toInt64) / p3.toInt64).toInt32) else (0)) = v2), BW O G fdX11_share 0 0 (QV O G 0 0 PP) S 17 [some (vi p1), some (vi p2), some (vi p3)] [vi v2] := by
    intro v2 ev2
    exact a_iret (pc := 17) 0 13 rfl rfl (hP _ (by unfold f_X11_share; exact lt_eq ev2))
  refine a_if_gt (pc := 1) (tgt := 8) 0 1 rfl (by decide) (fun c1_0 => ?_) (fun c1_0 => ?_)
  · refine a_iload_n (pc := 8) 0 4 rfl rfl ?_
    refine a_i2l (pc := 9) 0 5 rfl ?_
    refine a_iload_n (pc := 10) 0 6 rfl rfl ?_
    refine a_i2l (pc := 11) 0 7 rfl ?_
    refine a_lmul (pc := 12) 0 8 rfl ?_
    refine a_iload_n (pc := 13) 0 9 rfl rfl ?_
    refine a_i2l (pc := 14) 0 10 rfl ?_
    refine a_ldiv (pc := 15) 0 11 rfl (pos64 c1_0) ?_
    refine a_l2i (pc := 16) 0 12 rfl ?_
    exact J17_2 _ (by exact (if_pos c1_0))
  · refine a_iconst (pc := 4) 0 2 (v := 0) rfl (by decide) ?_
    refine a_goto (pc := 5) (tgt := 17) 0 3 rfl (by decide) ?_
    exact J17_2 _ (by exact (if_neg c1_0))
theorem c_X11_share {S : Mem} (p1 : Int32) (p2 : Int32) (p3 : Int32)   : Cts mdX11_share 0 0 [vi p1, vi p2, vi p3] S (Is (some (vi (f_X11_share S p1 p2 p3))) (S)) := Cts.of dtX11_share (by decide +kernel) rfl rfl (Nat.le_of_ble_eq_true rfl) rfl (fun O G => w_X11_share p1 p2 p3 (fun _ h9 => ⟨by rw [h9], rfl⟩))
def f_X11_percentRoundedUp (S : Mem) (p1 : Int32) (p2 : Int32) : Int32 := (((p1.toInt64 * p2.toInt64) + 99) / 100).toInt32
abbrev fdX11_percentRoundedUp : FD := (mdX11_percentRoundedUp, [], 0, 0, 0, 0)
set_option maxRecDepth 100000 in
set_option maxHeartbeats 4000000 in
theorem w_X11_percentRoundedUp {O : Om} {G : Cx} {S : Mem} {PP : Option AV → Mem → Prop} (p1 : Int32) (p2 : Int32)   (hP : ∀ x9, f_X11_percentRoundedUp S p1 p2 = x9 → PP (some (vi x9)) S) : BW O G fdX11_percentRoundedUp 0 0 (QV O G 0 0 PP) S 0 [some (vi p1), some (vi p2)] [] := by
  refine a_iload_n (pc := 0) 0 0 rfl rfl ?_
  refine a_i2l (pc := 1) 0 1 rfl ?_
  refine a_iload_n (pc := 2) 0 2 rfl rfl ?_
  refine a_i2l (pc := 3) 0 3 rfl ?_
  refine a_lmul (pc := 4) 0 4 rfl ?_
  refine a_ldc2 (pc := 5) 0 5 (v := 99) rfl cl_X11_328 ?_
  refine a_ladd (pc := 8) 0 6 rfl ?_
  refine a_ldc2 (pc := 9) 0 7 (v := 100) rfl cl_X11_330 ?_
  refine a_ldiv (pc := 12) 0 8 rfl (by decide) ?_
  refine a_l2i (pc := 13) 0 9 rfl ?_
  exact a_iret (pc := 14) 0 10 rfl rfl (hP _ (by unfold f_X11_percentRoundedUp; exact rfl))
theorem c_X11_percentRoundedUp {S : Mem} (p1 : Int32) (p2 : Int32)   : Cts mdX11_percentRoundedUp 0 0 [vi p1, vi p2] S (Is (some (vi (f_X11_percentRoundedUp S p1 p2))) (S)) := Cts.of dtX11_percentRoundedUp (by decide +kernel) rfl rfl (Nat.le_of_ble_eq_true rfl) rfl (fun O G => w_X11_percentRoundedUp p1 p2 (fun _ h9 => ⟨by rw [h9], rfl⟩))
def f_X5_free (S : Mem) (i0 : Nat) : Int32 := (S.1 kAccounts i0) - (S.1 kBlocked i0)
abbrev fdX5_free : FD := (mdX5_free, [], 0, 0, 0, 0)
set_option maxRecDepth 100000 in
set_option maxHeartbeats 4000000 in
theorem w_X5_free {O : Om} {G : Cx} {S : Mem} {PP : Option AV → Mem → Prop} (i0 : Nat) (hi0 : i0 < 17)  (hP : ∀ x9, f_X5_free S i0 = x9 → PP (some (vi x9)) S) : BW O G fdX5_free 0 0 (QV O G 0 0 PP) S 0 [some (vr 5 i0)] [] := by
  refine a_aload_n (pc := 0) 0 0 rfl rfl ?_
  refine g_5_balance (pc := 1) 0 1 rfl (by first | omega | assumption) fl_X5_28 ?_
  refine a_aload_n (pc := 4) 0 2 rfl rfl ?_
  refine g_5_blocked (pc := 5) 0 3 rfl (by first | omega | assumption) fl_X5_31 ?_
  refine a_isub (pc := 8) 0 4 rfl ?_
  exact a_iret (pc := 9) 0 5 rfl rfl (hP _ (by unfold f_X5_free; exact rfl))
theorem c_X5_free {S : Mem} (i0 : Nat) (hi0 : i0 < 17)  : Cts mdX5_free 0 0 [vr 5 i0] S (Is (some (vi (f_X5_free S i0))) (S)) := Cts.of dtX5_free (by decide +kernel) rfl rfl (Nat.le_of_ble_eq_true rfl) rfl (fun O G => w_X5_free i0 hi0 (fun _ h9 => ⟨by rw [h9], rfl⟩))
def f_X5_sureOfAccount (S : Mem) (i0 : Nat) : Int32 := lt (if (S.1 kAccounts i0) < (nI 100) then (S.1 kAccounts i0) else (nI 100)) (fun (v1 : Int32) => v1)
abbrev fdX5_sureOfAccount : FD := (mdX5_sureOfAccount, [], 1, 21, 0, 0)
set_option maxRecDepth 100000 in
set_option maxHeartbeats 4000000 in
theorem w_X5_sureOfAccount {O : Om} {G : Cx} {S : Mem} {PP : Option AV → Mem → Prop} (i0 : Nat) (hi0 : i0 < 17)  (hP : ∀ x9, f_X5_sureOfAccount S i0 = x9 → PP (some (vi x9)) S) : BW O G fdX5_sureOfAccount 0 0 (QV O G 0 0 PP) S 0 [some (vr 5 i0)] [] := by
  refine a_bipush (pc := 0) 0 0 (v := nI 100) rfl (by decide) ?_
  refine a_aload_n (pc := 2) 0 1 rfl rfl ?_
  refine g_5_balance (pc := 3) 0 2 rfl (by first | omega | assumption) fl_X5_28 ?_
  refine a_mmin (pc := 6) 0 3 rfl mm_X5_34 (mm rfl) ?_
  refine a_seti (fun v1 ev1 => ?_)
  exact a_iret (pc := 9) 0 4 rfl rfl (hP _ (by unfold f_X5_sureOfAccount; exact lt_eq ev1))
theorem c_X5_sureOfAccount {S : Mem} (i0 : Nat) (hi0 : i0 < 17)  : Cts mdX5_sureOfAccount 1 21 [vr 5 i0] S (Is (some (vi (f_X5_sureOfAccount S i0))) (S)) := Cts.of dtX5_sureOfAccount (by decide +kernel) rfl rfl (Nat.le_of_ble_eq_true rfl) rfl (fun O G => w_X5_sureOfAccount i0 hi0 (fun _ h9 => ⟨by rw [h9], rfl⟩))
def f_X5_forgedAmong (S : Mem) (i0 : Nat) (p1 : Int32) : Int32 := lt (f_X11_share S p1 (S.1 kForged i0) (S.1 kNotes i0)) (fun (v1 : Int32) => v1)
abbrev fdX5_forgedAmong : FD := (mdX5_forgedAmong, [], 1, 22, 0, 0)
set_option maxRecDepth 100000 in
set_option maxHeartbeats 4000000 in
theorem w_X5_forgedAmong {O : Om} {G : Cx} {S : Mem} {PP : Option AV → Mem → Prop} (i0 : Nat) (p1 : Int32) (hi0 : i0 < 17)  (hP : ∀ x9, f_X5_forgedAmong S i0 p1 = x9 → PP (some (vi x9)) S) : BW O G fdX5_forgedAmong 0 0 (QV O G 0 0 PP) S 0 [some (vr 5 i0), some (vi p1)] [] := by
  refine a_iload_n (pc := 0) 0 0 rfl rfl ?_
  refine a_aload_n (pc := 1) 0 1 rfl rfl ?_
  refine g_5_forged (pc := 2) 0 2 rfl (by first | omega | assumption) fl_X5_40 ?_
  refine a_aload_n (pc := 5) 0 3 rfl rfl ?_
  refine g_5_notes (pc := 6) 0 4 rfl (by first | omega | assumption) fl_X5_43 ?_
  refine a_callSNi (pc := 9) 0 5 (c_X11_share (S := S) p1 (S.1 kForged i0) (S.1 kNotes i0)) rfl csn_X5_46 rfl (rm rfl) ?_
  refine a_seti (fun v1 ev1 => ?_)
  exact a_iret (pc := 12) 0 6 rfl rfl (hP _ (by unfold f_X5_forgedAmong; exact lt_eq ev1))
theorem c_X5_forgedAmong {S : Mem} (i0 : Nat) (p1 : Int32) (hi0 : i0 < 17)  : Cts mdX5_forgedAmong 1 22 [vr 5 i0, vi p1] S (Is (some (vi (f_X5_forgedAmong S i0 p1))) (S)) := Cts.of dtX5_forgedAmong (by decide +kernel) rfl rfl (Nat.le_of_ble_eq_true rfl) rfl (fun O G => w_X5_forgedAmong i0 p1 hi0 (fun _ h9 => ⟨by rw [h9], rfl⟩))
def f_X5_takeNotes (S : Mem) (i0 : Nat) (p1 : Int32) (p2 : Int32) : Mem := lt ((upd2 S.1 kNotes i0 ((S.1 kNotes i0) + p1), S.2)) (fun (S1 : Mem) => lt ((upd2 S1.1 kForged i0 ((S1.1 kForged i0) + p2), S1.2)) (fun (S2 : Mem) => S2))
abbrev fdX5_takeNotes : FD := (mdX5_takeNotes, [], 0, 0, 0, 0)
set_option maxRecDepth 100000 in
set_option maxHeartbeats 4000000 in
theorem w_X5_takeNotes {O : Om} {G : Cx} {S : Mem} {PP : Option AV → Mem → Prop} (i0 : Nat) (p1 : Int32) (p2 : Int32) (hi0 : i0 < 17)  (hP : ∀ S9, f_X5_takeNotes S i0 p1 p2 = S9 → PP none S9) : BW O G fdX5_takeNotes 0 0 (QV O G 0 0 PP) S 0 [some (vr 5 i0), some (vi p1), some (vi p2)] [] := by
  refine a_aload_n (pc := 0) 0 0 rfl rfl ?_
  refine a_dup (pc := 1) 0 1 rfl rfl ?_
  refine g_5_notes (pc := 2) 0 2 rfl (by first | omega | assumption) fl_X5_43 ?_
  refine a_iload_n (pc := 5) 0 3 rfl rfl ?_
  refine a_iadd (pc := 6) 0 4 rfl ?_
  refine p_5_notes (pc := 7) 0 5 rfl (by first | omega | assumption) fl_X5_43 ?_
  refine a_set (fun S1 eS1 => ?_)
  refine a_aload_n (pc := 10) 0 6 rfl rfl ?_
  refine a_dup (pc := 11) 0 7 rfl rfl ?_
  refine g_5_forged (pc := 12) 0 8 rfl (by first | omega | assumption) fl_X5_40 ?_
  refine a_iload_n (pc := 15) 0 9 rfl rfl ?_
  refine a_iadd (pc := 16) 0 10 rfl ?_
  refine p_5_forged (pc := 17) 0 11 rfl (by first | omega | assumption) fl_X5_40 ?_
  refine a_set (fun S2 eS2 => ?_)
  exact a_vret (pc := 20) 0 12 rfl rfl (hP _ (by unfold f_X5_takeNotes; exact (lt_eq eS1).trans (lt_eq eS2)))
theorem c_X5_takeNotes {S : Mem} (i0 : Nat) (p1 : Int32) (p2 : Int32) (hi0 : i0 < 17)  : Cts mdX5_takeNotes 0 0 [vr 5 i0, vi p1, vi p2] S (Is none (f_X5_takeNotes S i0 p1 p2)) := Cts.of dtX5_takeNotes (by decide +kernel) rfl rfl (Nat.le_of_ble_eq_true rfl) rfl (fun O G => w_X5_takeNotes i0 p1 p2 hi0 (fun _ h9 => ⟨rfl, h9.symm⟩))
def f_X5_markDrawn (S : Mem) (i0 : Nat) (p1 : Int32) (p2 : Int32) : Mem := lt (if p1 < 0 then (S) else (if (nI 4) ≤ p1 then (S) else (lt ((upd2 S.1 (kDrawnC + i0) (ix p1) (p2 + 1), S.2)) (fun (S3 : Mem) => S3)))) (fun (S4 : Mem) => S4)
abbrev fdX5_markDrawn : FD := (mdX5_markDrawn, [], 0, 0, 0, 0)
set_option maxRecDepth 100000 in
set_option maxHeartbeats 4000000 in
theorem w_X5_markDrawn {O : Om} {G : Cx} {S : Mem} {PP : Option AV → Mem → Prop} (i0 : Nat) (p1 : Int32) (p2 : Int32) (hi0 : i0 < 17)  (hP : ∀ S9, f_X5_markDrawn S i0 p1 p2 = S9 → PP none S9) : BW O G fdX5_markDrawn 0 0 (QV O G 0 0 PP) S 0 [some (vr 5 i0), some (vi p1), some (vi p2)] [] := by
  refine a_iload_n (pc := 0) 0 0 rfl rfl ?_
  have J22_4 : ∀ (S4 : Mem) (eS4 : (if p1 < 0 then (S) else (if (nI 4) ≤ p1 then (S) else (lt ((upd2 S.1 (kDrawnC + i0) (ix p1) (p2 + 1), S.2)) (fun (S3 : Mem) => S3)))) = S4), BW O G fdX5_markDrawn 0 0 (QV O G 0 0 PP) S4 22 [some (vr 5 i0), some (vi p1), some (vi p2)] [] := by
    intro S4 eS4
    exact a_vret (pc := 22) 0 14 rfl rfl (hP _ (by unfold f_X5_markDrawn; exact lt_eq eS4))
  refine a_if_lt (pc := 1) (tgt := 22) 0 1 rfl (by decide) (fun c1_0 => ?_) (fun c1_0 => ?_)
  · exact J22_4 _ (by exact (if_pos c1_0))
  · refine a_iload_n (pc := 4) 0 2 rfl rfl ?_
    refine a_aload_n (pc := 5) 0 3 rfl rfl ?_
    refine g_5_drawn (pc := 6) 0 4 rfl (by first | omega | assumption) fl_X5_24 ?_
    refine n_23 (pc := 9) 0 5 rfl (by first | omega | assumption) ?_
    refine a_icmp_ge (pc := 10) (tgt := 22) 0 6 rfl (by decide) (fun c10_1 => ?_) (fun c10_1 => ?_)
    · exact J22_4 _ (by exact ((if_neg c1_0).trans (if_pos c10_1)))
    · refine a_aload_n (pc := 13) 0 7 rfl rfl ?_
      refine g_5_drawn (pc := 14) 0 8 rfl (by first | omega | assumption) fl_X5_24 ?_
      refine a_iload_n (pc := 17) 0 9 rfl rfl ?_
      refine a_iload_n (pc := 18) 0 10 rfl rfl ?_
      refine a_iconst (pc := 19) 0 11 (v := 1) rfl (by decide) ?_
      refine a_iadd (pc := 20) 0 12 rfl ?_
      refine s_23 (pc := 21) 0 13 (ix p1) rfl (by first | omega | assumption) (inb_of c1_0 c10_1 (by decide)).1 (inb_of c1_0 c10_1 (by decide)).2 ?_
      refine a_set (fun S3 eS3 => ?_)
      exact J22_4 _ (by exact ((if_neg c1_0).trans ((if_neg c10_1).trans (lt_eq eS3))))
theorem c_X5_markDrawn {S : Mem} (i0 : Nat) (p1 : Int32) (p2 : Int32) (hi0 : i0 < 17)  : Cts mdX5_markDrawn 0 0 [vr 5 i0, vi p1, vi p2] S (Is none (f_X5_markDrawn S i0 p1 p2)) := Cts.of dtX5_markDrawn (by decide +kernel) rfl rfl (Nat.le_of_ble_eq_true rfl) rfl (fun O G => w_X5_markDrawn i0 p1 p2 hi0 (fun _ h9 => ⟨rfl, h9.symm⟩))
def f_X5_hasDrawnSince (S : Mem) (i0 : Nat) (p1 : Int32) (p2 : Int32) : Int32 := lt (if p1 < 0 then (0) else (if (nI 4) ≤ p1 then (0) else (if (S.1 (kDrawnC + i0) (ix p1)) ≤ 0 then (0) else (if (S.1 (kDrawnC + i0) (ix p1)) ≤ p2 then (0) else (1))))) (fun (v5 : Int32) => v5)
abbrev fdX5_hasDrawnSince : FD := (mdX5_hasDrawnSince, [], 0, 0, 0, 0)
set_option maxRecDepth 100000 in
set_option maxHeartbeats 4000000 in
theorem w_X5_hasDrawnSince {O : Om} {G : Cx} {S : Mem} {PP : Option AV → Mem → Prop} (i0 : Nat) (p1 : Int32) (p2 : Int32) (hi0 : i0 < 17)  (hP : ∀ x9, f_X5_hasDrawnSince S i0 p1 p2 = x9 → PP (some (vi x9)) S) : BW O G fdX5_hasDrawnSince 0 0 (QV O G 0 0 PP) S 0 [some (vr 5 i0), some (vi p1), some (vi p2)] [] := by
  refine a_iload_n (pc := 0) 0 0 rfl rfl ?_
  have J37_5 : ∀ (v5 : Int32) (ev5 : (if p1 < 0 then (0) else (if (nI 4) ≤ p1 then (0) else (if (S.1 (kDrawnC + i0) (ix p1)) ≤ 0 then (0) else (if (S.1 (kDrawnC + i0) (ix p1)) ≤ p2 then (0) else (1))))) = v5), BW O G fdX5_hasDrawnSince 0 0 (QV O G 0 0 PP) S 37 [some (vr 5 i0), some (vi p1), some (vi p2)] [vi v5] := by
    intro v5 ev5
    exact a_zret (pc := 37) 0 21 rfl (nar_b (by rw [← ev5]; repeat (first | exact Or.inl rfl | exact Or.inr rfl | assumption | split | dsimp only [lt]))) rfl (hP _ (by unfold f_X5_hasDrawnSince; exact lt_eq ev5))
  refine a_if_lt (pc := 1) (tgt := 36) 0 1 rfl (by decide) (fun c1_0 => ?_) (fun c1_0 => ?_)
  · refine a_iconst (pc := 36) 0 20 (v := 0) rfl (by decide) ?_
    exact J37_5 _ (by exact (if_pos c1_0))
  · refine a_iload_n (pc := 4) 0 2 rfl rfl ?_
    refine a_aload_n (pc := 5) 0 3 rfl rfl ?_
    refine g_5_drawn (pc := 6) 0 4 rfl (by first | omega | assumption) fl_X5_24 ?_
    refine n_23 (pc := 9) 0 5 rfl (by first | omega | assumption) ?_
    refine a_icmp_ge (pc := 10) (tgt := 36) 0 6 rfl (by decide) (fun c10_1 => ?_) (fun c10_1 => ?_)
    · refine a_iconst (pc := 36) 0 20 (v := 0) rfl (by decide) ?_
      exact J37_5 _ (by exact ((if_neg c1_0).trans (if_pos c10_1)))
    · refine a_aload_n (pc := 13) 0 7 rfl rfl ?_
      refine g_5_drawn (pc := 14) 0 8 rfl (by first | omega | assumption) fl_X5_24 ?_
      refine a_iload_n (pc := 17) 0 9 rfl rfl ?_
      refine e_23 (pc := 18) 0 10 (ix p1) rfl (by first | omega | assumption) (inb_of c1_0 c10_1 (by decide)).1 (inb_of c1_0 c10_1 (by decide)).2 ?_
      refine a_if_le (pc := 19) (tgt := 36) 0 11 rfl (by decide) (fun c19_2 => ?_) (fun c19_2 => ?_)
      · refine a_iconst (pc := 36) 0 20 (v := 0) rfl (by decide) ?_
        exact J37_5 _ (by exact ((if_neg c1_0).trans ((if_neg c10_1).trans (if_pos c19_2))))
      · refine a_aload_n (pc := 22) 0 12 rfl rfl ?_
        refine g_5_drawn (pc := 23) 0 13 rfl (by first | omega | assumption) fl_X5_24 ?_
        refine a_iload_n (pc := 26) 0 14 rfl rfl ?_
        refine e_23 (pc := 27) 0 15 (ix p1) rfl (by first | omega | assumption) (inb_of c1_0 c10_1 (by decide)).1 (inb_of c1_0 c10_1 (by decide)).2 ?_
        refine a_iload_n (pc := 28) 0 16 rfl rfl ?_
        refine a_icmp_le (pc := 29) (tgt := 36) 0 17 rfl (by decide) (fun c29_3 => ?_) (fun c29_3 => ?_)
        · refine a_iconst (pc := 36) 0 20 (v := 0) rfl (by decide) ?_
          exact J37_5 _ (by exact ((if_neg c1_0).trans ((if_neg c10_1).trans ((if_neg c19_2).trans (if_pos c29_3)))))
        · refine a_iconst (pc := 32) 0 18 (v := 1) rfl (by decide) ?_
          refine a_goto (pc := 33) (tgt := 37) 0 19 rfl (by decide) ?_
          exact J37_5 _ (by exact ((if_neg c1_0).trans ((if_neg c10_1).trans ((if_neg c19_2).trans (if_neg c29_3)))))
theorem c_X5_hasDrawnSince {S : Mem} (i0 : Nat) (p1 : Int32) (p2 : Int32) (hi0 : i0 < 17)  : Cts mdX5_hasDrawnSince 0 0 [vr 5 i0, vi p1, vi p2] S (Is (some (vi (f_X5_hasDrawnSince S i0 p1 p2))) (S)) := Cts.of dtX5_hasDrawnSince (by decide +kernel) rfl rfl (Nat.le_of_ble_eq_true rfl) rfl (fun O G => w_X5_hasDrawnSince i0 p1 p2 hi0 (fun _ h9 => ⟨by rw [h9], rfl⟩))
theorem b_X5_hasDrawnSince (S : Mem) (i0 : Nat) (p1 : Int32) (p2 : Int32) : f_X5_hasDrawnSince S i0 p1 p2 = 0 ∨ f_X5_hasDrawnSince S i0 p1 p2 = 1 := by
  unfold f_X5_hasDrawnSince
  try dsimp only [lt]
  repeat (first | exact Or.inl rfl | exact Or.inr rfl | split | dsimp only [lt])
def f_X0_borrow (S : Mem) (i0 : Nat) (p1 : Int32) : Mem := lt ((upd2 S.1 kReserves i0 ((S.1 kReserves i0) + p1), S.2)) (fun (S1 : Mem) => lt ((upd2 S1.1 kLent i0 ((S1.1 kLent i0) + p1), S1.2)) (fun (S2 : Mem) => S2))
abbrev fdX0_borrow : FD := (mdX0_borrow, [], 0, 0, 0, 0)
set_option maxRecDepth 100000 in
set_option maxHeartbeats 4000000 in
theorem w_X0_borrow {O : Om} {G : Cx} {S : Mem} {PP : Option AV → Mem → Prop} (i0 : Nat) (p1 : Int32) (hi0 : i0 < 5)  (hP : ∀ S9, f_X0_borrow S i0 p1 = S9 → PP none S9) : BW O G fdX0_borrow 0 0 (QV O G 0 0 PP) S 0 [some (vr 0 i0), some (vi p1)] [] := by
  refine a_aload_n (pc := 0) 0 0 rfl rfl ?_
  refine a_dup (pc := 1) 0 1 rfl rfl ?_
  refine g_0_reserves (pc := 2) 0 2 rfl (by first | omega | assumption) fl_X0_13 ?_
  refine a_iload_n (pc := 5) 0 3 rfl rfl ?_
  refine a_iadd (pc := 6) 0 4 rfl ?_
  refine p_0_reserves (pc := 7) 0 5 rfl (by first | omega | assumption) fl_X0_13 ?_
  refine a_set (fun S1 eS1 => ?_)
  refine a_aload_n (pc := 10) 0 6 rfl rfl ?_
  refine a_dup (pc := 11) 0 7 rfl rfl ?_
  refine g_0_lent (pc := 12) 0 8 rfl (by first | omega | assumption) fl_X0_16 ?_
  refine a_iload_n (pc := 15) 0 9 rfl rfl ?_
  refine a_iadd (pc := 16) 0 10 rfl ?_
  refine p_0_lent (pc := 17) 0 11 rfl (by first | omega | assumption) fl_X0_16 ?_
  refine a_set (fun S2 eS2 => ?_)
  exact a_vret (pc := 20) 0 12 rfl rfl (hP _ (by unfold f_X0_borrow; exact (lt_eq eS1).trans (lt_eq eS2)))
theorem c_X0_borrow {S : Mem} (i0 : Nat) (p1 : Int32) (hi0 : i0 < 5)  : Cts mdX0_borrow 0 0 [vr 0 i0, vi p1] S (Is none (f_X0_borrow S i0 p1)) := Cts.of dtX0_borrow (by decide +kernel) rfl rfl (Nat.le_of_ble_eq_true rfl) rfl (fun O G => w_X0_borrow i0 p1 hi0 (fun _ h9 => ⟨rfl, h9.symm⟩))
def f_X0_lacks (S : Mem) (i0 : Nat) : Int32 := lt (if (S.1 kLimits i0) < (S.1 kReserves i0) then (S.1 kLimits i0) else (S.1 kReserves i0)) (fun (v1 : Int32) => (-(S.1 kNets i0)) - v1)
abbrev fdX0_lacks : FD := (mdX0_lacks, [], 1, 21, 0, 0)
set_option maxRecDepth 100000 in
set_option maxHeartbeats 4000000 in
theorem w_X0_lacks {O : Om} {G : Cx} {S : Mem} {PP : Option AV → Mem → Prop} (i0 : Nat) (hi0 : i0 < 5)  (hP : ∀ x9, f_X0_lacks S i0 = x9 → PP (some (vi x9)) S) : BW O G fdX0_lacks 0 0 (QV O G 0 0 PP) S 0 [some (vr 0 i0)] [] := by
  refine a_aload_n (pc := 0) 0 0 rfl rfl ?_
  refine g_0_net (pc := 1) 0 1 rfl (by first | omega | assumption) fl_X0_19 ?_
  refine a_ineg (pc := 4) 0 2 rfl ?_
  refine a_aload_n (pc := 5) 0 3 rfl rfl ?_
  refine g_0_reserves (pc := 6) 0 4 rfl (by first | omega | assumption) fl_X0_13 ?_
  refine a_aload_n (pc := 9) 0 5 rfl rfl ?_
  refine g_0_limit (pc := 10) 0 6 rfl (by first | omega | assumption) fl_X0_7 ?_
  refine a_mmin (pc := 13) 0 7 rfl mm_X0_22 (mm rfl) ?_
  refine a_seti (fun v1 ev1 => ?_)
  refine a_isub (pc := 16) 0 8 rfl ?_
  exact a_iret (pc := 17) 0 9 rfl rfl (hP _ (by unfold f_X0_lacks; exact lt_eq ev1))
theorem c_X0_lacks {S : Mem} (i0 : Nat) (hi0 : i0 < 5)  : Cts mdX0_lacks 1 21 [vr 0 i0] S (Is (some (vi (f_X0_lacks S i0))) (S)) := Cts.of dtX0_lacks (by decide +kernel) rfl rfl (Nat.le_of_ble_eq_true rfl) rfl (fun O G => w_X0_lacks i0 hi0 (fun _ h9 => ⟨by rw [h9], rfl⟩))
def f_X0_end (S : Mem) (i0 : Nat) : Mem := lt ((upd2 S.1 kReserves i0 0, S.2)) (fun (S1 : Mem) => lt ((upd2 S1.1 kVaults i0 0, S1.2)) (fun (S2 : Mem) => lt ((upd2 S2.1 kLent i0 0, S2.2)) (fun (S3 : Mem) => lt ((upd2 S3.1 kAreShort i0 0, S3.2)) (fun (S4 : Mem) => lt ((upd2 S4.1 kHaveFailed i0 1, S4.2)) (fun (S5 : Mem) => S5)))))
abbrev fdX0_end : FD := (mdX0_end, [], 0, 0, 0, 0)
set_option maxRecDepth 100000 in
set_option maxHeartbeats 4000000 in
theorem w_X0_end {O : Om} {G : Cx} {S : Mem} {PP : Option AV → Mem → Prop} (i0 : Nat) (hi0 : i0 < 5)  (hP : ∀ S9, f_X0_end S i0 = S9 → PP none S9) : BW O G fdX0_end 0 0 (QV O G 0 0 PP) S 0 [some (vr 0 i0)] [] := by
  refine a_aload_n (pc := 0) 0 0 rfl rfl ?_
  refine a_iconst (pc := 1) 0 1 (v := 0) rfl (by decide) ?_
  refine p_0_reserves (pc := 2) 0 2 rfl (by first | omega | assumption) fl_X0_13 ?_
  refine a_set (fun S1 eS1 => ?_)
  refine a_aload_n (pc := 5) 0 3 rfl rfl ?_
  refine a_iconst (pc := 6) 0 4 (v := 0) rfl (by decide) ?_
  refine p_0_vault (pc := 7) 0 5 rfl (by first | omega | assumption) fl_X0_28 ?_
  refine a_set (fun S2 eS2 => ?_)
  refine a_aload_n (pc := 10) 0 6 rfl rfl ?_
  refine a_iconst (pc := 11) 0 7 (v := 0) rfl (by decide) ?_
  refine p_0_lent (pc := 12) 0 8 rfl (by first | omega | assumption) fl_X0_16 ?_
  refine a_set (fun S3 eS3 => ?_)
  refine a_aload_n (pc := 15) 0 9 rfl rfl ?_
  refine a_iconst (pc := 16) 0 10 (v := 0) rfl (by decide) ?_
  refine p_0_isShort (pc := 17) 0 11 rfl (by first | omega | assumption) fl_X0_31 (Or.inl rfl) ?_
  refine a_set (fun S4 eS4 => ?_)
  refine a_aload_n (pc := 20) 0 12 rfl rfl ?_
  refine a_iconst (pc := 21) 0 13 (v := 1) rfl (by decide) ?_
  refine p_0_hasFailed (pc := 22) 0 14 rfl (by first | omega | assumption) fl_X0_35 (Or.inr rfl) ?_
  refine a_set (fun S5 eS5 => ?_)
  exact a_vret (pc := 25) 0 15 rfl rfl (hP _ (by unfold f_X0_end; exact (lt_eq eS1).trans ((lt_eq eS2).trans ((lt_eq eS3).trans ((lt_eq eS4).trans (lt_eq eS5))))))
theorem c_X0_end {S : Mem} (i0 : Nat) (hi0 : i0 < 5)  : Cts mdX0_end 0 0 [vr 0 i0] S (Is none (f_X0_end S i0)) := Cts.of dtX0_end (by decide +kernel) rfl rfl (Nat.le_of_ble_eq_true rfl) rfl (fun O G => w_X0_end i0 hi0 (fun _ h9 => ⟨rfl, h9.symm⟩))
def f_X1_become (S : Mem) (i0 : Nat) (i1 : Nat) : Mem := lt ((upd2 S.1 kBidBanks i0 (S.1 kBidBanks i1), S.2)) (fun (S1 : Mem) => lt ((upd2 S1.1 kBidPrices i0 (S1.1 kBidPrices i1), S1.2)) (fun (S2 : Mem) => lt ((upd2 S2.1 kBidNumbers i0 (S2.1 kBidNumbers i1), S2.2)) (fun (S3 : Mem) => S3)))
abbrev fdX1_become : FD := (mdX1_become, [], 0, 0, 0, 0)
set_option maxRecDepth 100000 in
set_option maxHeartbeats 4000000 in
theorem w_X1_become {O : Om} {G : Cx} {S : Mem} {PP : Option AV → Mem → Prop} (i0 : Nat) (i1 : Nat) (hi0 : i0 < 13) (hi1 : i1 < 13)  (hP : ∀ S9, f_X1_become S i0 i1 = S9 → PP none S9) : BW O G fdX1_become 0 0 (QV O G 0 0 PP) S 0 [some (vr 1 i0), some (vr 1 i1)] [] := by
  refine a_aload_n (pc := 0) 0 0 rfl rfl ?_
  refine a_aload_n (pc := 1) 0 1 rfl rfl ?_
  refine g_1_bank (pc := 2) 0 2 rfl (by first | omega | assumption) fl_X1_7 ?_
  refine p_1_bank (pc := 5) 0 3 rfl (by first | omega | assumption) fl_X1_7 ?_
  refine a_set (fun S1 eS1 => ?_)
  refine a_aload_n (pc := 8) 0 4 rfl rfl ?_
  refine a_aload_n (pc := 9) 0 5 rfl rfl ?_
  refine g_1_price (pc := 10) 0 6 rfl (by first | omega | assumption) fl_X1_13 ?_
  refine p_1_price (pc := 13) 0 7 rfl (by first | omega | assumption) fl_X1_13 ?_
  refine a_set (fun S2 eS2 => ?_)
  refine a_aload_n (pc := 16) 0 8 rfl rfl ?_
  refine a_aload_n (pc := 17) 0 9 rfl rfl ?_
  refine g_1_number (pc := 18) 0 10 rfl (by first | omega | assumption) fl_X1_16 ?_
  refine p_1_number (pc := 21) 0 11 rfl (by first | omega | assumption) fl_X1_16 ?_
  refine a_set (fun S3 eS3 => ?_)
  exact a_vret (pc := 24) 0 12 rfl rfl (hP _ (by unfold f_X1_become; exact (lt_eq eS1).trans ((lt_eq eS2).trans (lt_eq eS3))))
theorem c_X1_become {S : Mem} (i0 : Nat) (i1 : Nat) (hi0 : i0 < 13) (hi1 : i1 < 13)  : Cts mdX1_become 0 0 [vr 1 i0, vr 1 i1] S (Is none (f_X1_become S i0 i1)) := Cts.of dtX1_become (by decide +kernel) rfl rfl (Nat.le_of_ble_eq_true rfl) rfl (fun O G => w_X1_become i0 i1 hi0 hi1 (fun _ h9 => ⟨rfl, h9.symm⟩))
def f_X9_netFor (S : Mem) (i0 : Nat) (p1 : Int32) : Int32 := lt (if (S.1 kToBank i0) = p1 then (S.1 kAmounts i0) else (0)) (fun (v2 : Int32) => lt (if (S.1 kFromBank i0) = p1 then (S.1 kAmounts i0) else (0)) (fun (v4 : Int32) => v2 - v4))
abbrev fdX9_netFor : FD := (mdX9_netFor, [], 0, 0, 0, 0)
set_option maxRecDepth 100000 in
set_option maxHeartbeats 4000000 in
theorem w_X9_netFor {O : Om} {G : Cx} {S : Mem} {PP : Option AV → Mem → Prop} (i0 : Nat) (p1 : Int32) (hi0 : i0 < 201)  (hP : ∀ x9, f_X9_netFor S i0 p1 = x9 → PP (some (vi x9)) S) : BW O G fdX9_netFor 0 0 (QV O G 0 0 PP) S 0 [some (vr 9 i0), some (vi p1)] [] := by
  refine a_aload_n (pc := 0) 0 0 rfl rfl ?_
  refine g_9_toBank (pc := 1) 0 1 rfl (by first | omega | assumption) fl_X9_7 ?_
  refine a_iload_n (pc := 4) 0 2 rfl rfl ?_
  have J16_4 : ∀ (v2 : Int32) (ev2 : (if (S.1 kToBank i0) = p1 then (S.1 kAmounts i0) else (0)) = v2), BW O G fdX9_netFor 0 0 (QV O G 0 0 PP) S 16 [some (vr 9 i0), some (vi p1)] [vi v2] := by
    intro v2 ev2
    refine a_aload_n (pc := 16) 0 8 rfl rfl ?_
    refine g_9_fromBank (pc := 17) 0 9 rfl (by first | omega | assumption) fl_X9_16 ?_
    refine a_iload_n (pc := 20) 0 10 rfl rfl ?_
    have J32_5 : ∀ (v4 : Int32) (ev4 : (if (S.1 kFromBank i0) = p1 then (S.1 kAmounts i0) else (0)) = v4), BW O G fdX9_netFor 0 0 (QV O G 0 0 PP) S 32 [some (vr 9 i0), some (vi p1)] [vi v4, vi v2] := by
      intro v4 ev4
      refine a_isub (pc := 32) 0 16 rfl ?_
      exact a_iret (pc := 33) 0 17 rfl rfl (hP _ (by unfold f_X9_netFor; exact (lt_eq ev2).trans (lt_eq ev4)))
    refine a_icmp_ne (pc := 21) (tgt := 31) 0 11 rfl (by decide) (fun c21_2 => ?_) (fun c21_2 => ?_)
    · refine a_iconst (pc := 31) 0 15 (v := 0) rfl (by decide) ?_
      exact J32_5 _ (by exact (if_neg c21_2))
    · refine a_aload_n (pc := 24) 0 12 rfl rfl ?_
      refine g_9_amount (pc := 25) 0 13 rfl (by first | omega | assumption) fl_X9_13 ?_
      refine a_goto (pc := 28) (tgt := 32) 0 14 rfl (by decide) ?_
      exact J32_5 _ (by exact (if_pos c21_2))
  refine a_icmp_ne (pc := 5) (tgt := 15) 0 3 rfl (by decide) (fun c5_0 => ?_) (fun c5_0 => ?_)
  · refine a_iconst (pc := 15) 0 7 (v := 0) rfl (by decide) ?_
    exact J16_4 _ (by exact (if_neg c5_0))
  · refine a_aload_n (pc := 8) 0 4 rfl rfl ?_
    refine g_9_amount (pc := 9) 0 5 rfl (by first | omega | assumption) fl_X9_13 ?_
    refine a_goto (pc := 12) (tgt := 16) 0 6 rfl (by decide) ?_
    exact J16_4 _ (by exact (if_pos c5_0))
theorem c_X9_netFor {S : Mem} (i0 : Nat) (p1 : Int32) (hi0 : i0 < 201)  : Cts mdX9_netFor 0 0 [vr 9 i0, vi p1] S (Is (some (vi (f_X9_netFor S i0 p1))) (S)) := Cts.of dtX9_netFor (by decide +kernel) rfl rfl (Nat.le_of_ble_eq_true rfl) rfl (fun O G => w_X9_netFor i0 p1 hi0 (fun _ h9 => ⟨by rw [h9], rfl⟩))
def f_X3_holder (S : Mem) (p1 : Int32) : Nat := lt (if p1 < 0 then (16) else (if (nI 16) ≤ p1 then (16) else (ix p1))) (fun (r3 : Nat) => r3)
abbrev fdX3_holder : FD := (mdX3_holder, [], 0, 0, 0, 0)
set_option maxRecDepth 100000 in
set_option maxHeartbeats 4000000 in
theorem w_X3_holder {O : Om} {G : Cx} {S : Mem} {PP : Option AV → Mem → Prop} (p1 : Int32)   (hP : ∀ x9, f_X3_holder S p1 = x9 → PP (some (vr 5 x9)) S) : BW O G fdX3_holder 0 0 (QV O G 0 0 PP) S 0 [some (vr 3 0), some (vi p1), none] [] := by
  refine a_iload_n (pc := 0) 0 0 rfl rfl ?_
  have J26_3 : ∀ (r3 : Nat) (er3 : (if p1 < 0 then (16) else (if (nI 16) ≤ p1 then (16) else (ix p1))) = r3), BW O G fdX3_holder 0 0 (QV O G 0 0 PP) S 26 [some (vr 3 0), some (vi p1), none] [vr 5 r3] := by
    intro r3 er3
    refine a_astore_n (pc := 26) 0 14 (ls2 := [some (vr 3 0), some (vi p1), some (vr 5 r3)]) rfl rfl (by decide) rfl ?_
    refine a_aload_n (pc := 27) 0 15 rfl rfl ?_
    refine a_ifnonnull (pc := 28) (tgt := 38) 0 16 rfl (by decide) ?_
    refine a_aload_n (pc := 38) 0 20 rfl rfl ?_
    exact a_aret (pc := 39) 0 21 (C := "Newsmint$Holder") rfl rfl (hP _ (by unfold f_X3_holder; exact lt_eq er3))
  refine a_if_lt (pc := 1) (tgt := 22) 0 1 rfl (by decide) (fun c1_0 => ?_) (fun c1_0 => ?_)
  · refine a_aload_n (pc := 22) 0 12 rfl rfl ?_
    refine g_3_nobody (pc := 23) 0 13 rfl fl_X3_38 ?_
    exact J26_3 _ (by exact (if_pos c1_0))
  · refine a_iload_n (pc := 4) 0 2 rfl rfl ?_
    refine a_aload_n (pc := 5) 0 3 rfl rfl ?_
    refine g_3_holders (pc := 6) 0 4 rfl fl_X3_27 ?_
    refine n_13 (pc := 9) 0 5 rfl ?_
    refine a_icmp_ge (pc := 10) (tgt := 22) 0 6 rfl (by decide) (fun c10_1 => ?_) (fun c10_1 => ?_)
    · refine a_aload_n (pc := 22) 0 12 rfl rfl ?_
      refine g_3_nobody (pc := 23) 0 13 rfl fl_X3_38 ?_
      exact J26_3 _ (by exact ((if_neg c1_0).trans (if_pos c10_1)))
    · refine a_aload_n (pc := 13) 0 7 rfl rfl ?_
      refine g_3_holders (pc := 14) 0 8 rfl fl_X3_27 ?_
      refine a_iload_n (pc := 17) 0 9 rfl rfl ?_
      refine e_13 (pc := 18) 0 10 (ix p1) rfl (inb_of c1_0 c10_1 (by decide)).1 (inb_of c1_0 c10_1 (by decide)).2 ?_
      refine a_goto (pc := 19) (tgt := 26) 0 11 rfl (by decide) ?_
      exact J26_3 _ (by exact ((if_neg c1_0).trans (if_neg c10_1)))
theorem c_X3_holder {S : Mem} (p1 : Int32)   : Cts mdX3_holder 0 0 [vr 3 0, vi p1] S (Is (some (vr 5 (f_X3_holder S p1))) (S)) := Cts.of dtX3_holder (by decide +kernel) rfl rfl (Nat.le_of_ble_eq_true rfl) rfl (fun O G => w_X3_holder p1 (fun _ h9 => ⟨by rw [h9], rfl⟩))
theorem r_X3_holder {S : Mem} {p1 : Int32} : f_X3_holder S p1 < 17 := by
  unfold f_X3_holder
  dsimp only [lt]
  split
  · omega
  · next h =>
    split
    · omega
    · next h2 => exact Nat.lt_succ_of_lt (inb_of h h2 (by decide)).2
def f_X3_bank (S : Mem) (p1 : Int32) : Nat := lt (if p1 < 0 then (4) else (if (nI 4) ≤ p1 then (4) else (ix p1))) (fun (r3 : Nat) => r3)
abbrev fdX3_bank : FD := (mdX3_bank, [], 0, 0, 0, 0)
set_option maxRecDepth 100000 in
set_option maxHeartbeats 4000000 in
theorem w_X3_bank {O : Om} {G : Cx} {S : Mem} {PP : Option AV → Mem → Prop} (p1 : Int32)   (hP : ∀ x9, f_X3_bank S p1 = x9 → PP (some (vr 0 x9)) S) : BW O G fdX3_bank 0 0 (QV O G 0 0 PP) S 0 [some (vr 3 0), some (vi p1), none] [] := by
  refine a_iload_n (pc := 0) 0 0 rfl rfl ?_
  have J26_3 : ∀ (r3 : Nat) (er3 : (if p1 < 0 then (4) else (if (nI 4) ≤ p1 then (4) else (ix p1))) = r3), BW O G fdX3_bank 0 0 (QV O G 0 0 PP) S 26 [some (vr 3 0), some (vi p1), none] [vr 0 r3] := by
    intro r3 er3
    refine a_astore_n (pc := 26) 0 14 (ls2 := [some (vr 3 0), some (vi p1), some (vr 0 r3)]) rfl rfl (by decide) rfl ?_
    refine a_aload_n (pc := 27) 0 15 rfl rfl ?_
    refine a_ifnonnull (pc := 28) (tgt := 38) 0 16 rfl (by decide) ?_
    refine a_aload_n (pc := 38) 0 20 rfl rfl ?_
    exact a_aret (pc := 39) 0 21 (C := "Newsmint$Bank") rfl rfl (hP _ (by unfold f_X3_bank; exact lt_eq er3))
  refine a_if_lt (pc := 1) (tgt := 22) 0 1 rfl (by decide) (fun c1_0 => ?_) (fun c1_0 => ?_)
  · refine a_aload_n (pc := 22) 0 12 rfl rfl ?_
    refine g_3_noBank (pc := 23) 0 13 rfl fl_X3_43 ?_
    exact J26_3 _ (by exact (if_pos c1_0))
  · refine a_iload_n (pc := 4) 0 2 rfl rfl ?_
    refine a_aload_n (pc := 5) 0 3 rfl rfl ?_
    refine g_3_banks (pc := 6) 0 4 rfl fl_X3_33 ?_
    refine n_14 (pc := 9) 0 5 rfl ?_
    refine a_icmp_ge (pc := 10) (tgt := 22) 0 6 rfl (by decide) (fun c10_1 => ?_) (fun c10_1 => ?_)
    · refine a_aload_n (pc := 22) 0 12 rfl rfl ?_
      refine g_3_noBank (pc := 23) 0 13 rfl fl_X3_43 ?_
      exact J26_3 _ (by exact ((if_neg c1_0).trans (if_pos c10_1)))
    · refine a_aload_n (pc := 13) 0 7 rfl rfl ?_
      refine g_3_banks (pc := 14) 0 8 rfl fl_X3_33 ?_
      refine a_iload_n (pc := 17) 0 9 rfl rfl ?_
      refine e_14 (pc := 18) 0 10 (ix p1) rfl (inb_of c1_0 c10_1 (by decide)).1 (inb_of c1_0 c10_1 (by decide)).2 ?_
      refine a_goto (pc := 19) (tgt := 26) 0 11 rfl (by decide) ?_
      exact J26_3 _ (by exact ((if_neg c1_0).trans (if_neg c10_1)))
theorem c_X3_bank {S : Mem} (p1 : Int32)   : Cts mdX3_bank 0 0 [vr 3 0, vi p1] S (Is (some (vr 0 (f_X3_bank S p1))) (S)) := Cts.of dtX3_bank (by decide +kernel) rfl rfl (Nat.le_of_ble_eq_true rfl) rfl (fun O G => w_X3_bank p1 (fun _ h9 => ⟨by rw [h9], rfl⟩))
theorem r_X3_bank {S : Mem} {p1 : Int32} : f_X3_bank S p1 < 5 := by
  unfold f_X3_bank
  dsimp only [lt]
  split
  · omega
  · next h =>
    split
    · omega
    · next h2 => exact Nat.lt_succ_of_lt (inb_of h h2 (by decide)).2
def f_X10_at (S : Mem) (p1 : Int32) : Nat := lt (if p1 < 0 then (200) else (if (nI 200) ≤ p1 then (200) else (ix p1))) (fun (r3 : Nat) => r3)
abbrev fdX10_at : FD := (mdX10_at, [], 0, 0, 0, 0)
set_option maxRecDepth 100000 in
set_option maxHeartbeats 4000000 in
theorem w_X10_at {O : Om} {G : Cx} {S : Mem} {PP : Option AV → Mem → Prop} (p1 : Int32)   (hP : ∀ x9, f_X10_at S p1 = x9 → PP (some (vr 9 x9)) S) : BW O G fdX10_at 0 0 (QV O G 0 0 PP) S 0 [some (vr 10 0), some (vi p1), none] [] := by
  refine a_iload_n (pc := 0) 0 0 rfl rfl ?_
  have J26_3 : ∀ (r3 : Nat) (er3 : (if p1 < 0 then (200) else (if (nI 200) ≤ p1 then (200) else (ix p1))) = r3), BW O G fdX10_at 0 0 (QV O G 0 0 PP) S 26 [some (vr 10 0), some (vi p1), none] [vr 9 r3] := by
    intro r3 er3
    refine a_astore_n (pc := 26) 0 14 (ls2 := [some (vr 10 0), some (vi p1), some (vr 9 r3)]) rfl rfl (by decide) rfl ?_
    refine a_aload_n (pc := 27) 0 15 rfl rfl ?_
    refine a_ifnonnull (pc := 28) (tgt := 38) 0 16 rfl (by decide) ?_
    refine a_aload_n (pc := 38) 0 20 rfl rfl ?_
    exact a_aret (pc := 39) 0 21 (C := "Newsmint$Payment") rfl rfl (hP _ (by unfold f_X10_at; exact lt_eq er3))
  refine a_if_lt (pc := 1) (tgt := 22) 0 1 rfl (by decide) (fun c1_0 => ?_) (fun c1_0 => ?_)
  · refine a_aload_n (pc := 22) 0 12 rfl rfl ?_
    refine g_10_noPayment (pc := 23) 0 13 rfl fl_X10_18 ?_
    exact J26_3 _ (by exact (if_pos c1_0))
  · refine a_iload_n (pc := 4) 0 2 rfl rfl ?_
    refine a_aload_n (pc := 5) 0 3 rfl rfl ?_
    refine g_10_rows (pc := 6) 0 4 rfl fl_X10_11 ?_
    refine n_15 (pc := 9) 0 5 rfl ?_
    refine a_icmp_ge (pc := 10) (tgt := 22) 0 6 rfl (by decide) (fun c10_1 => ?_) (fun c10_1 => ?_)
    · refine a_aload_n (pc := 22) 0 12 rfl rfl ?_
      refine g_10_noPayment (pc := 23) 0 13 rfl fl_X10_18 ?_
      exact J26_3 _ (by exact ((if_neg c1_0).trans (if_pos c10_1)))
    · refine a_aload_n (pc := 13) 0 7 rfl rfl ?_
      refine g_10_rows (pc := 14) 0 8 rfl fl_X10_11 ?_
      refine a_iload_n (pc := 17) 0 9 rfl rfl ?_
      refine e_15 (pc := 18) 0 10 (ix p1) rfl (inb_of c1_0 c10_1 (by decide)).1 (inb_of c1_0 c10_1 (by decide)).2 ?_
      refine a_goto (pc := 19) (tgt := 26) 0 11 rfl (by decide) ?_
      exact J26_3 _ (by exact ((if_neg c1_0).trans (if_neg c10_1)))
theorem c_X10_at {S : Mem} (p1 : Int32)   : Cts mdX10_at 0 0 [vr 10 0, vi p1] S (Is (some (vr 9 (f_X10_at S p1))) (S)) := Cts.of dtX10_at (by decide +kernel) rfl rfl (Nat.le_of_ble_eq_true rfl) rfl (fun O G => w_X10_at p1 (fun _ h9 => ⟨by rw [h9], rfl⟩))
theorem r_X10_at {S : Mem} {p1 : Int32} : f_X10_at S p1 < 201 := by
  unfold f_X10_at
  dsimp only [lt]
  split
  · omega
  · next h =>
    split
    · omega
    · next h2 => exact Nat.lt_succ_of_lt (inb_of h h2 (by decide)).2
def f_X10_isFull (S : Mem)  : Int32 := lt (if (S.1 kPayments 0) < (nI 200) then (0) else (1)) (fun (v2 : Int32) => v2)
abbrev fdX10_isFull : FD := (mdX10_isFull, [], 0, 0, 0, 0)
set_option maxRecDepth 100000 in
set_option maxHeartbeats 4000000 in
theorem w_X10_isFull {O : Om} {G : Cx} {S : Mem} {PP : Option AV → Mem → Prop}    (hP : ∀ x9, f_X10_isFull S  = x9 → PP (some (vi x9)) S) : BW O G fdX10_isFull 0 0 (QV O G 0 0 PP) S 0 [some (vr 10 0)] [] := by
  refine a_aload_n (pc := 0) 0 0 rfl rfl ?_
  refine g_10_count (pc := 1) 0 1 rfl fl_X10_22 ?_
  refine a_sipush (pc := 4) 0 2 (v := nI 200) rfl (by decide) ?_
  have J15_2 : ∀ (v2 : Int32) (ev2 : (if (S.1 kPayments 0) < (nI 200) then (0) else (1)) = v2), BW O G fdX10_isFull 0 0 (QV O G 0 0 PP) S 15 [some (vr 10 0)] [vi v2] := by
    intro v2 ev2
    exact a_zret (pc := 15) 0 7 rfl (nar_b (by rw [← ev2]; repeat (first | exact Or.inl rfl | exact Or.inr rfl | assumption | split | dsimp only [lt]))) rfl (hP _ (by unfold f_X10_isFull; exact lt_eq ev2))
  refine a_icmp_lt (pc := 7) (tgt := 14) 0 3 rfl (by decide) (fun c7_0 => ?_) (fun c7_0 => ?_)
  · refine a_iconst (pc := 14) 0 6 (v := 0) rfl (by decide) ?_
    exact J15_2 _ (by exact (if_pos c7_0))
  · refine a_iconst (pc := 10) 0 4 (v := 1) rfl (by decide) ?_
    refine a_goto (pc := 11) (tgt := 15) 0 5 rfl (by decide) ?_
    exact J15_2 _ (by exact (if_neg c7_0))
theorem c_X10_isFull {S : Mem}    : Cts mdX10_isFull 0 0 [vr 10 0] S (Is (some (vi (f_X10_isFull S ))) (S)) := Cts.of dtX10_isFull (by decide +kernel) rfl rfl (Nat.le_of_ble_eq_true rfl) rfl (fun O G => w_X10_isFull  (fun _ h9 => ⟨by rw [h9], rfl⟩))
theorem b_X10_isFull (S : Mem)  : f_X10_isFull S  = 0 ∨ f_X10_isFull S  = 1 := by
  unfold f_X10_isFull
  try dsimp only [lt]
  repeat (first | exact Or.inl rfl | exact Or.inr rfl | split | dsimp only [lt])
def f_X7_at (S : Mem) (p1 : Int32) : Nat := lt (if p1 < 0 then (20) else (if (nI 20) ≤ p1 then (20) else (ix p1))) (fun (r3 : Nat) => r3)
abbrev fdX7_at : FD := (mdX7_at, [], 0, 0, 0, 0)
set_option maxRecDepth 100000 in
set_option maxHeartbeats 4000000 in
theorem w_X7_at {O : Om} {G : Cx} {S : Mem} {PP : Option AV → Mem → Prop} (p1 : Int32)   (hP : ∀ x9, f_X7_at S p1 = x9 → PP (some (vr 6 x9)) S) : BW O G fdX7_at 0 0 (QV O G 0 0 PP) S 0 [some (vr 7 0), some (vi p1), none] [] := by
  refine a_iload_n (pc := 0) 0 0 rfl rfl ?_
  have J26_3 : ∀ (r3 : Nat) (er3 : (if p1 < 0 then (20) else (if (nI 20) ≤ p1 then (20) else (ix p1))) = r3), BW O G fdX7_at 0 0 (QV O G 0 0 PP) S 26 [some (vr 7 0), some (vi p1), none] [vr 6 r3] := by
    intro r3 er3
    refine a_astore_n (pc := 26) 0 14 (ls2 := [some (vr 7 0), some (vi p1), some (vr 6 r3)]) rfl rfl (by decide) rfl ?_
    refine a_aload_n (pc := 27) 0 15 rfl rfl ?_
    refine a_ifnonnull (pc := 28) (tgt := 38) 0 16 rfl (by decide) ?_
    refine a_aload_n (pc := 38) 0 20 rfl rfl ?_
    exact a_aret (pc := 39) 0 21 (C := "Newsmint$Loan") rfl rfl (hP _ (by unfold f_X7_at; exact lt_eq er3))
  refine a_if_lt (pc := 1) (tgt := 22) 0 1 rfl (by decide) (fun c1_0 => ?_) (fun c1_0 => ?_)
  · refine a_aload_n (pc := 22) 0 12 rfl rfl ?_
    refine g_7_noLoan (pc := 23) 0 13 rfl fl_X7_18 ?_
    exact J26_3 _ (by exact (if_pos c1_0))
  · refine a_iload_n (pc := 4) 0 2 rfl rfl ?_
    refine a_aload_n (pc := 5) 0 3 rfl rfl ?_
    refine g_7_rows (pc := 6) 0 4 rfl fl_X7_11 ?_
    refine n_16 (pc := 9) 0 5 rfl ?_
    refine a_icmp_ge (pc := 10) (tgt := 22) 0 6 rfl (by decide) (fun c10_1 => ?_) (fun c10_1 => ?_)
    · refine a_aload_n (pc := 22) 0 12 rfl rfl ?_
      refine g_7_noLoan (pc := 23) 0 13 rfl fl_X7_18 ?_
      exact J26_3 _ (by exact ((if_neg c1_0).trans (if_pos c10_1)))
    · refine a_aload_n (pc := 13) 0 7 rfl rfl ?_
      refine g_7_rows (pc := 14) 0 8 rfl fl_X7_11 ?_
      refine a_iload_n (pc := 17) 0 9 rfl rfl ?_
      refine e_16 (pc := 18) 0 10 (ix p1) rfl (inb_of c1_0 c10_1 (by decide)).1 (inb_of c1_0 c10_1 (by decide)).2 ?_
      refine a_goto (pc := 19) (tgt := 26) 0 11 rfl (by decide) ?_
      exact J26_3 _ (by exact ((if_neg c1_0).trans (if_neg c10_1)))
theorem c_X7_at {S : Mem} (p1 : Int32)   : Cts mdX7_at 0 0 [vr 7 0, vi p1] S (Is (some (vr 6 (f_X7_at S p1))) (S)) := Cts.of dtX7_at (by decide +kernel) rfl rfl (Nat.le_of_ble_eq_true rfl) rfl (fun O G => w_X7_at p1 (fun _ h9 => ⟨by rw [h9], rfl⟩))
theorem r_X7_at {S : Mem} {p1 : Int32} : f_X7_at S p1 < 21 := by
  unfold f_X7_at
  dsimp only [lt]
  split
  · omega
  · next h =>
    split
    · omega
    · next h2 => exact Nat.lt_succ_of_lt (inb_of h h2 (by decide)).2
def f_X7_isFull (S : Mem)  : Int32 := lt (if (S.1 kLoans 0) < (nI 20) then (0) else (1)) (fun (v2 : Int32) => v2)
abbrev fdX7_isFull : FD := (mdX7_isFull, [], 0, 0, 0, 0)
set_option maxRecDepth 100000 in
set_option maxHeartbeats 4000000 in
theorem w_X7_isFull {O : Om} {G : Cx} {S : Mem} {PP : Option AV → Mem → Prop}    (hP : ∀ x9, f_X7_isFull S  = x9 → PP (some (vi x9)) S) : BW O G fdX7_isFull 0 0 (QV O G 0 0 PP) S 0 [some (vr 7 0)] [] := by
  refine a_aload_n (pc := 0) 0 0 rfl rfl ?_
  refine g_7_count (pc := 1) 0 1 rfl fl_X7_22 ?_
  refine a_bipush (pc := 4) 0 2 (v := nI 20) rfl (by decide) ?_
  have J14_2 : ∀ (v2 : Int32) (ev2 : (if (S.1 kLoans 0) < (nI 20) then (0) else (1)) = v2), BW O G fdX7_isFull 0 0 (QV O G 0 0 PP) S 14 [some (vr 7 0)] [vi v2] := by
    intro v2 ev2
    exact a_zret (pc := 14) 0 7 rfl (nar_b (by rw [← ev2]; repeat (first | exact Or.inl rfl | exact Or.inr rfl | assumption | split | dsimp only [lt]))) rfl (hP _ (by unfold f_X7_isFull; exact lt_eq ev2))
  refine a_icmp_lt (pc := 6) (tgt := 13) 0 3 rfl (by decide) (fun c6_0 => ?_) (fun c6_0 => ?_)
  · refine a_iconst (pc := 13) 0 6 (v := 0) rfl (by decide) ?_
    exact J14_2 _ (by exact (if_pos c6_0))
  · refine a_iconst (pc := 9) 0 4 (v := 1) rfl (by decide) ?_
    refine a_goto (pc := 10) (tgt := 14) 0 5 rfl (by decide) ?_
    exact J14_2 _ (by exact (if_neg c6_0))
theorem c_X7_isFull {S : Mem}    : Cts mdX7_isFull 0 0 [vr 7 0] S (Is (some (vi (f_X7_isFull S ))) (S)) := Cts.of dtX7_isFull (by decide +kernel) rfl rfl (Nat.le_of_ble_eq_true rfl) rfl (fun O G => w_X7_isFull  (fun _ h9 => ⟨by rw [h9], rfl⟩))
theorem b_X7_isFull (S : Mem)  : f_X7_isFull S  = 0 ∨ f_X7_isFull S  = 1 := by
  unfold f_X7_isFull
  try dsimp only [lt]
  repeat (first | exact Or.inl rfl | exact Or.inr rfl | split | dsimp only [lt])
def f_X2_bidAt (S : Mem) (p1 : Int32) : Nat := lt (if p1 < 0 then (12) else (if (nI 12) ≤ p1 then (12) else (ix p1))) (fun (r3 : Nat) => r3)
abbrev fdX2_bidAt : FD := (mdX2_bidAt, [], 0, 0, 0, 0)
set_option maxRecDepth 100000 in
set_option maxHeartbeats 4000000 in
theorem w_X2_bidAt {O : Om} {G : Cx} {S : Mem} {PP : Option AV → Mem → Prop} (p1 : Int32)   (hP : ∀ x9, f_X2_bidAt S p1 = x9 → PP (some (vr 1 x9)) S) : BW O G fdX2_bidAt 0 0 (QV O G 0 0 PP) S 0 [some (vr 2 0), some (vi p1), none] [] := by
  refine a_iload_n (pc := 0) 0 0 rfl rfl ?_
  have J26_3 : ∀ (r3 : Nat) (er3 : (if p1 < 0 then (12) else (if (nI 12) ≤ p1 then (12) else (ix p1))) = r3), BW O G fdX2_bidAt 0 0 (QV O G 0 0 PP) S 26 [some (vr 2 0), some (vi p1), none] [vr 1 r3] := by
    intro r3 er3
    refine a_astore_n (pc := 26) 0 14 (ls2 := [some (vr 2 0), some (vi p1), some (vr 1 r3)]) rfl rfl (by decide) rfl ?_
    refine a_aload_n (pc := 27) 0 15 rfl rfl ?_
    refine a_ifnonnull (pc := 28) (tgt := 38) 0 16 rfl (by decide) ?_
    refine a_aload_n (pc := 38) 0 20 rfl rfl ?_
    exact a_aret (pc := 39) 0 21 (C := "Newsmint$Bid") rfl rfl (hP _ (by unfold f_X2_bidAt; exact lt_eq er3))
  refine a_if_lt (pc := 1) (tgt := 22) 0 1 rfl (by decide) (fun c1_0 => ?_) (fun c1_0 => ?_)
  · refine a_aload_n (pc := 22) 0 12 rfl rfl ?_
    refine g_2_noBid (pc := 23) 0 13 rfl fl_X2_18 ?_
    exact J26_3 _ (by exact (if_pos c1_0))
  · refine a_iload_n (pc := 4) 0 2 rfl rfl ?_
    refine a_aload_n (pc := 5) 0 3 rfl rfl ?_
    refine g_2_bids (pc := 6) 0 4 rfl fl_X2_11 ?_
    refine n_17 (pc := 9) 0 5 rfl ?_
    refine a_icmp_ge (pc := 10) (tgt := 22) 0 6 rfl (by decide) (fun c10_1 => ?_) (fun c10_1 => ?_)
    · refine a_aload_n (pc := 22) 0 12 rfl rfl ?_
      refine g_2_noBid (pc := 23) 0 13 rfl fl_X2_18 ?_
      exact J26_3 _ (by exact ((if_neg c1_0).trans (if_pos c10_1)))
    · refine a_aload_n (pc := 13) 0 7 rfl rfl ?_
      refine g_2_bids (pc := 14) 0 8 rfl fl_X2_11 ?_
      refine a_iload_n (pc := 17) 0 9 rfl rfl ?_
      refine e_17 (pc := 18) 0 10 (ix p1) rfl (inb_of c1_0 c10_1 (by decide)).1 (inb_of c1_0 c10_1 (by decide)).2 ?_
      refine a_goto (pc := 19) (tgt := 26) 0 11 rfl (by decide) ?_
      exact J26_3 _ (by exact ((if_neg c1_0).trans (if_neg c10_1)))
theorem c_X2_bidAt {S : Mem} (p1 : Int32)   : Cts mdX2_bidAt 0 0 [vr 2 0, vi p1] S (Is (some (vr 1 (f_X2_bidAt S p1))) (S)) := Cts.of dtX2_bidAt (by decide +kernel) rfl rfl (Nat.le_of_ble_eq_true rfl) rfl (fun O G => w_X2_bidAt p1 (fun _ h9 => ⟨by rw [h9], rfl⟩))
theorem r_X2_bidAt {S : Mem} {p1 : Int32} : f_X2_bidAt S p1 < 13 := by
  unfold f_X2_bidAt
  dsimp only [lt]
  split
  · omega
  · next h =>
    split
    · omega
    · next h2 => exact Nat.lt_succ_of_lt (inb_of h h2 (by decide)).2
def f_X2_bidsAreFull (S : Mem)  : Int32 := lt (if (S.1 kBids 0) < (nI 12) then (0) else (1)) (fun (v2 : Int32) => v2)
abbrev fdX2_bidsAreFull : FD := (mdX2_bidsAreFull, [], 0, 0, 0, 0)
set_option maxRecDepth 100000 in
set_option maxHeartbeats 4000000 in
theorem w_X2_bidsAreFull {O : Om} {G : Cx} {S : Mem} {PP : Option AV → Mem → Prop}    (hP : ∀ x9, f_X2_bidsAreFull S  = x9 → PP (some (vi x9)) S) : BW O G fdX2_bidsAreFull 0 0 (QV O G 0 0 PP) S 0 [some (vr 2 0)] [] := by
  refine a_aload_n (pc := 0) 0 0 rfl rfl ?_
  refine g_2_bidCount (pc := 1) 0 1 rfl fl_X2_29 ?_
  refine a_bipush (pc := 4) 0 2 (v := nI 12) rfl (by decide) ?_
  have J14_2 : ∀ (v2 : Int32) (ev2 : (if (S.1 kBids 0) < (nI 12) then (0) else (1)) = v2), BW O G fdX2_bidsAreFull 0 0 (QV O G 0 0 PP) S 14 [some (vr 2 0)] [vi v2] := by
    intro v2 ev2
    exact a_zret (pc := 14) 0 7 rfl (nar_b (by rw [← ev2]; repeat (first | exact Or.inl rfl | exact Or.inr rfl | assumption | split | dsimp only [lt]))) rfl (hP _ (by unfold f_X2_bidsAreFull; exact lt_eq ev2))
  refine a_icmp_lt (pc := 6) (tgt := 13) 0 3 rfl (by decide) (fun c6_0 => ?_) (fun c6_0 => ?_)
  · refine a_iconst (pc := 13) 0 6 (v := 0) rfl (by decide) ?_
    exact J14_2 _ (by exact (if_pos c6_0))
  · refine a_iconst (pc := 9) 0 4 (v := 1) rfl (by decide) ?_
    refine a_goto (pc := 10) (tgt := 14) 0 5 rfl (by decide) ?_
    exact J14_2 _ (by exact (if_neg c6_0))
theorem c_X2_bidsAreFull {S : Mem}    : Cts mdX2_bidsAreFull 0 0 [vr 2 0] S (Is (some (vi (f_X2_bidsAreFull S ))) (S)) := Cts.of dtX2_bidsAreFull (by decide +kernel) rfl rfl (Nat.le_of_ble_eq_true rfl) rfl (fun O G => w_X2_bidsAreFull  (fun _ h9 => ⟨by rw [h9], rfl⟩))
theorem b_X2_bidsAreFull (S : Mem)  : f_X2_bidsAreFull S  = 0 ∨ f_X2_bidsAreFull S  = 1 := by
  unfold f_X2_bidsAreFull
  try dsimp only [lt]
  repeat (first | exact Or.inl rfl | exact Or.inr rfl | split | dsimp only [lt])
def f_X2_auctionsAreFull (S : Mem)  : Int32 := lt (if (S.1 kAuctions 0) < (nI 20) then (0) else (1)) (fun (v2 : Int32) => v2)
abbrev fdX2_auctionsAreFull : FD := (mdX2_auctionsAreFull, [], 0, 0, 0, 0)
set_option maxRecDepth 100000 in
set_option maxHeartbeats 4000000 in
theorem w_X2_auctionsAreFull {O : Om} {G : Cx} {S : Mem} {PP : Option AV → Mem → Prop}    (hP : ∀ x9, f_X2_auctionsAreFull S  = x9 → PP (some (vi x9)) S) : BW O G fdX2_auctionsAreFull 0 0 (QV O G 0 0 PP) S 0 [some (vr 2 0)] [] := by
  refine a_aload_n (pc := 0) 0 0 rfl rfl ?_
  refine g_2_auctionCount (pc := 1) 0 1 rfl fl_X2_33 ?_
  refine a_bipush (pc := 4) 0 2 (v := nI 20) rfl (by decide) ?_
  have J14_2 : ∀ (v2 : Int32) (ev2 : (if (S.1 kAuctions 0) < (nI 20) then (0) else (1)) = v2), BW O G fdX2_auctionsAreFull 0 0 (QV O G 0 0 PP) S 14 [some (vr 2 0)] [vi v2] := by
    intro v2 ev2
    exact a_zret (pc := 14) 0 7 rfl (nar_b (by rw [← ev2]; repeat (first | exact Or.inl rfl | exact Or.inr rfl | assumption | split | dsimp only [lt]))) rfl (hP _ (by unfold f_X2_auctionsAreFull; exact lt_eq ev2))
  refine a_icmp_lt (pc := 6) (tgt := 13) 0 3 rfl (by decide) (fun c6_0 => ?_) (fun c6_0 => ?_)
  · refine a_iconst (pc := 13) 0 6 (v := 0) rfl (by decide) ?_
    exact J14_2 _ (by exact (if_pos c6_0))
  · refine a_iconst (pc := 9) 0 4 (v := 1) rfl (by decide) ?_
    refine a_goto (pc := 10) (tgt := 14) 0 5 rfl (by decide) ?_
    exact J14_2 _ (by exact (if_neg c6_0))
theorem c_X2_auctionsAreFull {S : Mem}    : Cts mdX2_auctionsAreFull 0 0 [vr 2 0] S (Is (some (vi (f_X2_auctionsAreFull S ))) (S)) := Cts.of dtX2_auctionsAreFull (by decide +kernel) rfl rfl (Nat.le_of_ble_eq_true rfl) rfl (fun O G => w_X2_auctionsAreFull  (fun _ h9 => ⟨by rw [h9], rfl⟩))
theorem b_X2_auctionsAreFull (S : Mem)  : f_X2_auctionsAreFull S  = 0 ∨ f_X2_auctionsAreFull S  = 1 := by
  unfold f_X2_auctionsAreFull
  try dsimp only [lt]
  repeat (first | exact Or.inl rfl | exact Or.inr rfl | split | dsimp only [lt])
def f_X2_held (S : Mem) (p1 : Int32) (p2 : Int32) : Int32 := lt (if ((p2 * (nI 5)) + p1) < 0 then (0) else (if (nI 100) ≤ ((p2 * (nI 5)) + p1) then (0) else (S.1 kBonds (ix ((p2 * (nI 5)) + p1))))) (fun (v3 : Int32) => v3)
abbrev fdX2_held : FD := (mdX2_held, [], 0, 0, 0, 0)
set_option maxRecDepth 100000 in
set_option maxHeartbeats 4000000 in
theorem w_X2_held {O : Om} {G : Cx} {S : Mem} {PP : Option AV → Mem → Prop} (p1 : Int32) (p2 : Int32)   (hP : ∀ x9, f_X2_held S p1 p2 = x9 → PP (some (vi x9)) S) : BW O G fdX2_held 0 0 (QV O G 0 0 PP) S 0 [some (vr 2 0), some (vi p1), some (vi p2), none] [] := by
  refine a_iload_n (pc := 0) 0 0 rfl rfl ?_
  refine a_iconst (pc := 1) 0 1 (v := nI 5) rfl (by decide) ?_
  refine a_imul (pc := 2) 0 2 rfl ?_
  refine a_iload_n (pc := 3) 0 3 rfl rfl ?_
  refine a_iadd (pc := 4) 0 4 rfl ?_
  refine a_istore_n (pc := 5) 0 5 (ls2 := [some (vr 2 0), some (vi p1), some (vi p2), some (vi ((p2 * (nI 5)) + p1))]) rfl rfl (by decide) rfl ?_
  refine a_iload_n (pc := 6) 0 6 rfl rfl ?_
  have J29_3 : ∀ (v3 : Int32) (ev3 : (if ((p2 * (nI 5)) + p1) < 0 then (0) else (if (nI 100) ≤ ((p2 * (nI 5)) + p1) then (0) else (S.1 kBonds (ix ((p2 * (nI 5)) + p1))))) = v3), BW O G fdX2_held 0 0 (QV O G 0 0 PP) S 29 [some (vr 2 0), some (vi p1), some (vi p2), some (vi ((p2 * (nI 5)) + p1))] [vi v3] := by
    intro v3 ev3
    exact a_iret (pc := 29) 0 19 rfl rfl (hP _ (by unfold f_X2_held; exact lt_eq ev3))
  refine a_if_lt (pc := 7) (tgt := 28) 0 7 rfl (by decide) (fun c7_0 => ?_) (fun c7_0 => ?_)
  · refine a_iconst (pc := 28) 0 18 (v := 0) rfl (by decide) ?_
    exact J29_3 _ (by exact (if_pos c7_0))
  · refine a_iload_n (pc := 10) 0 8 rfl rfl ?_
    refine a_aload_n (pc := 11) 0 9 rfl rfl ?_
    refine g_2_numbers (pc := 12) 0 10 rfl fl_X2_26 ?_
    refine n_19 (pc := 15) 0 11 rfl ?_
    refine a_icmp_ge (pc := 16) (tgt := 28) 0 12 rfl (by decide) (fun c16_1 => ?_) (fun c16_1 => ?_)
    · refine a_iconst (pc := 28) 0 18 (v := 0) rfl (by decide) ?_
      exact J29_3 _ (by exact ((if_neg c7_0).trans (if_pos c16_1)))
    · refine a_aload_n (pc := 19) 0 13 rfl rfl ?_
      refine g_2_numbers (pc := 20) 0 14 rfl fl_X2_26 ?_
      refine a_iload_n (pc := 23) 0 15 rfl rfl ?_
      refine e_19 (pc := 24) 0 16 (ix ((p2 * (nI 5)) + p1)) rfl (inb_of c7_0 c16_1 (by decide)).1 (inb_of c7_0 c16_1 (by decide)).2 ?_
      refine a_goto (pc := 25) (tgt := 29) 0 17 rfl (by decide) ?_
      exact J29_3 _ (by exact ((if_neg c7_0).trans (if_neg c16_1)))
theorem c_X2_held {S : Mem} (p1 : Int32) (p2 : Int32)   : Cts mdX2_held 0 0 [vr 2 0, vi p1, vi p2] S (Is (some (vi (f_X2_held S p1 p2))) (S)) := Cts.of dtX2_held (by decide +kernel) rfl rfl (Nat.le_of_ble_eq_true rfl) rfl (fun O G => w_X2_held p1 p2 (fun _ h9 => ⟨by rw [h9], rfl⟩))
def f_X2_add (S : Mem) (p1 : Int32) (p2 : Int32) (p3 : Int32) : Mem := lt (if ((p2 * (nI 5)) + p1) < 0 then (S) else (if (nI 100) ≤ ((p2 * (nI 5)) + p1) then (S) else (lt ((upd2 S.1 kBonds (ix ((p2 * (nI 5)) + p1)) ((S.1 kBonds (ix ((p2 * (nI 5)) + p1))) + p3), S.2)) (fun (S3 : Mem) => S3)))) (fun (S4 : Mem) => S4)
abbrev fdX2_add : FD := (mdX2_add, [], 0, 0, 0, 0)
set_option maxRecDepth 100000 in
set_option maxHeartbeats 4000000 in
theorem w_X2_add {O : Om} {G : Cx} {S : Mem} {PP : Option AV → Mem → Prop} (p1 : Int32) (p2 : Int32) (p3 : Int32)   (hP : ∀ S9, f_X2_add S p1 p2 p3 = S9 → PP none S9) : BW O G fdX2_add 0 0 (QV O G 0 0 PP) S 0 [some (vr 2 0), some (vi p1), some (vi p2), some (vi p3), none] [] := by
  refine a_iload_n (pc := 0) 0 0 rfl rfl ?_
  refine a_iconst (pc := 1) 0 1 (v := nI 5) rfl (by decide) ?_
  refine a_imul (pc := 2) 0 2 rfl ?_
  refine a_iload_n (pc := 3) 0 3 rfl rfl ?_
  refine a_iadd (pc := 4) 0 4 rfl ?_
  refine a_istore (pc := 5) 0 5 (ls2 := [some (vr 2 0), some (vi p1), some (vi p2), some (vi p3), some (vi ((p2 * (nI 5)) + p1))]) rfl (by decide) rfl ?_
  refine a_iload (pc := 7) 0 6 rfl rfl ?_
  have J33_4 : ∀ (S4 : Mem) (eS4 : (if ((p2 * (nI 5)) + p1) < 0 then (S) else (if (nI 100) ≤ ((p2 * (nI 5)) + p1) then (S) else (lt ((upd2 S.1 kBonds (ix ((p2 * (nI 5)) + p1)) ((S.1 kBonds (ix ((p2 * (nI 5)) + p1))) + p3), S.2)) (fun (S3 : Mem) => S3)))) = S4), BW O G fdX2_add 0 0 (QV O G 0 0 PP) S4 33 [some (vr 2 0), some (vi p1), some (vi p2), some (vi p3), some (vi ((p2 * (nI 5)) + p1))] [] := by
    intro S4 eS4
    exact a_vret (pc := 33) 0 21 rfl rfl (hP _ (by unfold f_X2_add; exact lt_eq eS4))
  refine a_if_lt (pc := 9) (tgt := 33) 0 7 rfl (by decide) (fun c9_0 => ?_) (fun c9_0 => ?_)
  · exact J33_4 _ (by exact (if_pos c9_0))
  · refine a_iload (pc := 12) 0 8 rfl rfl ?_
    refine a_aload_n (pc := 14) 0 9 rfl rfl ?_
    refine g_2_numbers (pc := 15) 0 10 rfl fl_X2_26 ?_
    refine n_19 (pc := 18) 0 11 rfl ?_
    refine a_icmp_ge (pc := 19) (tgt := 33) 0 12 rfl (by decide) (fun c19_1 => ?_) (fun c19_1 => ?_)
    · exact J33_4 _ (by exact ((if_neg c9_0).trans (if_pos c19_1)))
    · refine a_aload_n (pc := 22) 0 13 rfl rfl ?_
      refine g_2_numbers (pc := 23) 0 14 rfl fl_X2_26 ?_
      refine a_iload (pc := 26) 0 15 rfl rfl ?_
      refine a_dup2 (pc := 28) 0 16 rfl rfl rfl ?_
      refine e_19 (pc := 29) 0 17 (ix ((p2 * (nI 5)) + p1)) rfl (inb_of c9_0 c19_1 (by decide)).1 (inb_of c9_0 c19_1 (by decide)).2 ?_
      refine a_iload_n (pc := 30) 0 18 rfl rfl ?_
      refine a_iadd (pc := 31) 0 19 rfl ?_
      refine s_19 (pc := 32) 0 20 (ix ((p2 * (nI 5)) + p1)) rfl (inb_of c9_0 c19_1 (by decide)).1 (inb_of c9_0 c19_1 (by decide)).2 ?_
      refine a_set (fun S3 eS3 => ?_)
      exact J33_4 _ (by exact ((if_neg c9_0).trans ((if_neg c19_1).trans (lt_eq eS3))))
theorem c_X2_add {S : Mem} (p1 : Int32) (p2 : Int32) (p3 : Int32)   : Cts mdX2_add 0 0 [vr 2 0, vi p1, vi p2, vi p3] S (Is none (f_X2_add S p1 p2 p3)) := Cts.of dtX2_add (by decide +kernel) rfl rfl (Nat.le_of_ble_eq_true rfl) rfl (fun O G => w_X2_add p1 p2 p3 (fun _ h9 => ⟨rfl, h9.symm⟩))
