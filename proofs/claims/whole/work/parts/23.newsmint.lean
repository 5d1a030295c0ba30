def f_X11_canPay (S : Mem) (p1 : Int32) (p2 : Int32) (p3 : Int32) : Int32 := lt (if (S.1 kBankOf (f_X3_holder S p1)) = (-1) then (0) else (if (S.1 kBankOf (f_X3_holder S p2)) = (-1) then (0) else (lt (f_X5_free S (f_X3_holder S p1)) (fun (v3 : Int32) => if v3 < p3 then (0) else (lt (f_X10_isFull S ) (fun (v5 : Int32) => if v5 = 0 then (1) else (0))))))) (fun (v7 : Int32) => v7)
abbrev fdX11_canPay : FD := (mdX11_canPay, [], 1, 22, 0, 0)
set_option maxRecDepth 100000 in
set_option maxHeartbeats 4000000 in
theorem w_X11_canPay {O : Om} {G : Cx} {S : Mem} {PP : Option AV → Mem → Prop} (p1 : Int32) (p2 : Int32) (p3 : Int32)   (hP : ∀ x9, f_X11_canPay S p1 p2 p3 = x9 → PP (some (vi x9)) S) : BW O G fdX11_canPay 0 0 (QV O G 0 0 PP) S 0 [some (vr 11 0), some (vi p1), some (vi p2), some (vi p3), none] [] := by
  refine a_aload_n (pc := 0) 0 0 rfl rfl ?_
  refine g_11_books (pc := 1) 0 1 rfl fl_X11_10 ?_
  refine a_iload_n (pc := 4) 0 2 rfl rfl ?_
  refine a_callVr (pc := 5) 0 3 (c_X3_holder (S := S) p1) rfl cv_X11_45 (by decide) rfl rfl rfl (rm rfl) ?_
  refine a_astore (pc := 8) 0 4 (ls2 := [some (vr 11 0), some (vi p1), some (vi p2), some (vi p3), some (vr 5 (f_X3_holder S p1))]) rfl (by decide) rfl ?_
  refine a_aload (pc := 10) 0 5 rfl rfl ?_
  refine g_5_bank (pc := 12) 0 6 rfl (show f_X3_holder S p1 < 17 from r_X3_holder) fl_X11_76 ?_
  refine a_iconst (pc := 15) 0 7 (v := (-1)) rfl (by decide) ?_
  have J58_7 : ∀ (v7 : Int32) (ev7 : (if (S.1 kBankOf (f_X3_holder S p1)) = (-1) then (0) else (if (S.1 kBankOf (f_X3_holder S p2)) = (-1) then (0) else (lt (f_X5_free S (f_X3_holder S p1)) (fun (v3 : Int32) => if v3 < p3 then (0) else (lt (f_X10_isFull S ) (fun (v5 : Int32) => if v5 = 0 then (1) else (0))))))) = v7), BW O G fdX11_canPay 0 0 (QV O G 0 0 PP) S 58 [some (vr 11 0), some (vi p1), some (vi p2), some (vi p3), some (vr 5 (f_X3_holder S p1))] [vi v7] := by
    intro v7 ev7
    exact a_zret (pc := 58) 0 27 rfl (nar_b (by rw [← ev7]; repeat (first | exact Or.inl rfl | exact Or.inr rfl | assumption | split | dsimp only [lt]))) rfl (hP _ (by unfold f_X11_canPay; exact lt_eq ev7))
  refine a_icmp_eq (pc := 16) (tgt := 57) 0 8 rfl (by decide) (fun c16_0 => ?_) (fun c16_0 => ?_)
  · refine a_iconst (pc := 57) 0 26 (v := 0) rfl (by decide) ?_
    exact J58_7 _ (by exact (if_pos c16_0))
  · refine a_aload_n (pc := 19) 0 9 rfl rfl ?_
    refine g_11_books (pc := 20) 0 10 rfl fl_X11_10 ?_
    refine a_iload_n (pc := 23) 0 11 rfl rfl ?_
    refine a_callVr (pc := 24) 0 12 (c_X3_holder (S := S) p2) rfl cv_X11_45 (by decide) rfl rfl rfl (rm rfl) ?_
    refine g_5_bank (pc := 27) 0 13 rfl (show f_X3_holder S p2 < 17 from r_X3_holder) fl_X11_76 ?_
    refine a_iconst (pc := 30) 0 14 (v := (-1)) rfl (by decide) ?_
    refine a_icmp_eq (pc := 31) (tgt := 57) 0 15 rfl (by decide) (fun c31_1 => ?_) (fun c31_1 => ?_)
    · refine a_iconst (pc := 57) 0 26 (v := 0) rfl (by decide) ?_
      exact J58_7 _ (by exact ((if_neg c16_0).trans (if_pos c31_1)))
    · refine a_aload (pc := 34) 0 16 rfl rfl ?_
      refine a_callVi (pc := 36) 0 17 (c_X5_free (S := S) (f_X3_holder S p1) (show f_X3_holder S p1 < 17 from r_X3_holder)) rfl cv_X11_104 (show f_X3_holder S p1 < 17 from r_X3_holder) rfl rfl rfl (rm rfl) ?_
      refine a_seti (fun v3 ev3 => ?_)
      refine a_iload_n (pc := 39) 0 18 rfl rfl ?_
      refine a_icmp_lt (pc := 40) (tgt := 57) 0 19 rfl (by decide) (fun c40_3 => ?_) (fun c40_3 => ?_)
      · refine a_iconst (pc := 57) 0 26 (v := 0) rfl (by decide) ?_
        exact J58_7 _ (by exact ((if_neg c16_0).trans ((if_neg c31_1).trans ((lt_eq ev3).trans (if_pos c40_3)))))
      · refine a_aload_n (pc := 43) 0 20 rfl rfl ?_
        refine g_11_payments (pc := 44) 0 21 rfl fl_X11_19 ?_
        refine a_callVi (pc := 47) 0 22 (c_X10_isFull (S := S) ) rfl cv_X11_327 (by decide) rfl rfl rfl (rm rfl) ?_
        refine a_seti (fun v5 ev5 => ?_)
        refine a_if_ne (pc := 50) (tgt := 57) 0 23 rfl (by decide) (fun c50_5 => ?_) (fun c50_5 => ?_)
        · refine a_iconst (pc := 57) 0 26 (v := 0) rfl (by decide) ?_
          exact J58_7 _ (by exact ((if_neg c16_0).trans ((if_neg c31_1).trans ((lt_eq ev3).trans ((if_neg c40_3).trans ((lt_eq ev5).trans (if_neg c50_5)))))))
        · refine a_iconst (pc := 53) 0 24 (v := 1) rfl (by decide) ?_
          refine a_goto (pc := 54) (tgt := 58) 0 25 rfl (by decide) ?_
          exact J58_7 _ (by exact ((if_neg c16_0).trans ((if_neg c31_1).trans ((lt_eq ev3).trans ((if_neg c40_3).trans ((lt_eq ev5).trans (if_pos c50_5)))))))
theorem c_X11_canPay {S : Mem} (p1 : Int32) (p2 : Int32) (p3 : Int32)   : Cts mdX11_canPay 1 22 [vr 11 0, vi p1, vi p2, vi p3] S (Is (some (vi (f_X11_canPay S p1 p2 p3))) (S)) := Cts.of dtX11_canPay (by decide +kernel) rfl rfl (Nat.le_of_ble_eq_true rfl) rfl (fun O G => w_X11_canPay p1 p2 p3 (fun _ h9 => ⟨by rw [h9], rfl⟩))
theorem b_X11_canPay (S : Mem) (p1 : Int32) (p2 : Int32) (p3 : Int32) : f_X11_canPay S p1 p2 p3 = 0 ∨ f_X11_canPay S p1 p2 p3 = 1 := by
  unfold f_X11_canPay
  try dsimp only [lt]
  repeat (first | exact Or.inl rfl | exact Or.inr rfl | exact b_X10_isFull .. | split | dsimp only [lt])
def f_X11_capitalOf (S : Mem) (p1 : Int32) : Int32 := lt (f_X2_of S p1) (fun (v2 : Int32) => lt (f_X7_leftOf S p1) (fun (v4 : Int32) => lt (f_X3_inAccountsAt S p1) (fun (v5 : Int32) => (((((S.1 kReserves (f_X3_bank S p1)) + (S.1 kVaults (f_X3_bank S p1))) + v2) + v4) - v5) - (S.1 kLent (f_X3_bank S p1)))))
def ok_X11_capitalOf (S : Mem) (p1 : Int32) : Prop := ((ok_X2_of S p1) ∧ (∀ v2 : Int32, (f_X2_of S p1) = v2 → ((ok_X7_leftOf S p1))))
abbrev fdX11_capitalOf : FD := (mdX11_capitalOf, [], 2, 46, 0, 0)
set_option maxRecDepth 100000 in
set_option maxHeartbeats 4000000 in
theorem w_X11_capitalOf {O : Om} {G : Cx} {S : Mem} {PP : Option AV → Mem → Prop} (p1 : Int32)   (h : ok_X11_capitalOf S p1) (hP : ∀ x9, f_X11_capitalOf S p1 = x9 → PP (some (vi x9)) S) : BW O G fdX11_capitalOf 0 0 (QV O G 0 0 PP) S 0 [some (vr 11 0), some (vi p1), none, none] [] := by
  refine a_aload_n (pc := 0) 0 0 rfl rfl ?_
  refine g_11_books (pc := 1) 0 1 rfl fl_X11_10 ?_
  refine a_iload_n (pc := 4) 0 2 rfl rfl ?_
  refine a_callVr (pc := 5) 0 3 (c_X3_bank (S := S) p1) rfl cv_X11_79 (by decide) rfl rfl rfl (rm rfl) ?_
  refine a_astore_n (pc := 8) 0 4 (ls2 := [some (vr 11 0), some (vi p1), some (vr 0 (f_X3_bank S p1)), none]) rfl rfl (by decide) rfl ?_
  refine a_aload_n (pc := 9) 0 5 rfl rfl ?_
  refine g_0_reserves (pc := 10) 0 6 rfl (show f_X3_bank S p1 < 5 from r_X3_bank) fl_X11_133 ?_
  refine a_aload_n (pc := 13) 0 7 rfl rfl ?_
  refine g_0_vault (pc := 14) 0 8 rfl (show f_X3_bank S p1 < 5 from r_X3_bank) fl_X11_98 ?_
  refine a_iadd (pc := 17) 0 9 rfl ?_
  refine a_aload_n (pc := 18) 0 10 rfl rfl ?_
  refine g_11_bonds (pc := 19) 0 11 rfl fl_X11_33 ?_
  refine a_iload_n (pc := 22) 0 12 rfl rfl ?_
  obtain ⟨o1, h⟩ := h
  refine a_callVi (pc := 23) 0 13 (c_X2_of (S := S) p1 o1) rfl cv_X11_198 (by decide) rfl rfl rfl (rm rfl) ?_
  refine a_seti (fun v2 ev2 => ?_)
  have h := h v2 ev2
  refine a_iadd (pc := 26) 0 14 rfl ?_
  refine a_aload_n (pc := 27) 0 15 rfl rfl ?_
  refine g_11_loans (pc := 28) 0 16 rfl fl_X11_26 ?_
  refine a_iload_n (pc := 31) 0 17 rfl rfl ?_
  have o3 := h
  refine a_callVi (pc := 32) 0 18 (c_X7_leftOf (S := S) p1 o3) rfl cv_X11_140 (by decide) rfl rfl rfl (rm rfl) ?_
  refine a_seti (fun v4 ev4 => ?_)
  refine a_iadd (pc := 35) 0 19 rfl ?_
  refine a_istore_n (pc := 36) 0 20 (ls2 := [some (vr 11 0), some (vi p1), some (vr 0 (f_X3_bank S p1)), some (vi ((((S.1 kReserves (f_X3_bank S p1)) + (S.1 kVaults (f_X3_bank S p1))) + v2) + v4))]) rfl rfl (by decide) rfl ?_
  refine a_iload_n (pc := 37) 0 21 rfl rfl ?_
  refine a_aload_n (pc := 38) 0 22 rfl rfl ?_
  refine g_11_books (pc := 39) 0 23 rfl fl_X11_10 ?_
  refine a_iload_n (pc := 42) 0 24 rfl rfl ?_
  refine a_callVi (pc := 43) 0 25 (c_X3_inAccountsAt (S := S) p1) rfl cv_X11_271 (by decide) rfl rfl rfl (rm rfl) ?_
  refine a_seti (fun v5 ev5 => ?_)
  refine a_isub (pc := 46) 0 26 rfl ?_
  refine a_aload_n (pc := 47) 0 27 rfl rfl ?_
  refine g_0_lent (pc := 48) 0 28 rfl (show f_X3_bank S p1 < 5 from r_X3_bank) fl_X11_189 ?_
  refine a_isub (pc := 51) 0 29 rfl ?_
  exact a_iret (pc := 52) 0 30 rfl rfl (hP _ (by unfold f_X11_capitalOf; exact (lt_eq ev2).trans ((lt_eq ev4).trans (lt_eq ev5))))
theorem c_X11_capitalOf {S : Mem} (p1 : Int32)   (h : ok_X11_capitalOf S p1) : Cts mdX11_capitalOf 2 46 [vr 11 0, vi p1] S (Is (some (vi (f_X11_capitalOf S p1))) (S)) := Cts.of dtX11_capitalOf (by decide +kernel) rfl rfl (Nat.le_of_ble_eq_true rfl) rfl (fun O G => w_X11_capitalOf p1 h (fun _ h9 => ⟨by rw [h9], rfl⟩))
def f_X11_roomAtWindow (S : Mem) (p1 : Int32) : Int32 := lt (f_X2_of S p1) (fun (v2 : Int32) => lt (f_X11_share S v2 (nI 90) (nI 100)) (fun (v3 : Int32) => v3 - (S.1 kLent (f_X3_bank S p1))))
def ok_X11_roomAtWindow (S : Mem) (p1 : Int32) : Prop := ((ok_X2_of S p1))
abbrev fdX11_roomAtWindow : FD := (mdX11_roomAtWindow, [], 2, 46, 0, 0)
set_option maxRecDepth 100000 in
set_option maxHeartbeats 4000000 in
theorem w_X11_roomAtWindow {O : Om} {G : Cx} {S : Mem} {PP : Option AV → Mem → Prop} (p1 : Int32)   (h : ok_X11_roomAtWindow S p1) (hP : ∀ x9, f_X11_roomAtWindow S p1 = x9 → PP (some (vi x9)) S) : BW O G fdX11_roomAtWindow 0 0 (QV O G 0 0 PP) S 0 [some (vr 11 0), some (vi p1)] [] := by
  refine a_aload_n (pc := 0) 0 0 rfl rfl ?_
  refine g_11_bonds (pc := 1) 0 1 rfl fl_X11_33 ?_
  refine a_iload_n (pc := 4) 0 2 rfl rfl ?_
  have o1 := h
  refine a_callVi (pc := 5) 0 3 (c_X2_of (S := S) p1 o1) rfl cv_X11_198 (by decide) rfl rfl rfl (rm rfl) ?_
  refine a_seti (fun v2 ev2 => ?_)
  refine a_bipush (pc := 8) 0 4 (v := nI 90) rfl (by decide) ?_
  refine a_bipush (pc := 10) 0 5 (v := nI 100) rfl (by decide) ?_
  refine a_callSi (pc := 12) 0 6 (c_X11_share (S := S) v2 (nI 90) (nI 100)) rfl cs_X11_155 rfl (rm rfl) ?_
  refine a_seti (fun v3 ev3 => ?_)
  refine a_aload_n (pc := 15) 0 7 rfl rfl ?_
  refine g_11_books (pc := 16) 0 8 rfl fl_X11_10 ?_
  refine a_iload_n (pc := 19) 0 9 rfl rfl ?_
  refine a_callVr (pc := 20) 0 10 (c_X3_bank (S := S) p1) rfl cv_X11_79 (by decide) rfl rfl rfl (rm rfl) ?_
  refine g_0_lent (pc := 23) 0 11 rfl (show f_X3_bank S p1 < 5 from r_X3_bank) fl_X11_189 ?_
  refine a_isub (pc := 26) 0 12 rfl ?_
  exact a_iret (pc := 27) 0 13 rfl rfl (hP _ (by unfold f_X11_roomAtWindow; exact (lt_eq ev2).trans (lt_eq ev3)))
theorem c_X11_roomAtWindow {S : Mem} (p1 : Int32)   (h : ok_X11_roomAtWindow S p1) : Cts mdX11_roomAtWindow 2 46 [vr 11 0, vi p1] S (Is (some (vi (f_X11_roomAtWindow S p1))) (S)) := Cts.of dtX11_roomAtWindow (by decide +kernel) rfl rfl (Nat.le_of_ble_eq_true rfl) rfl (fun O G => w_X11_roomAtWindow p1 h (fun _ h9 => ⟨by rw [h9], rfl⟩))
def f_X11_drawNotes (S : Mem) (p1 : Int32) (p2 : Int32) : Int32 × Mem := lt (if ((S.1 kVaults (f_X3_bank S (S.1 kBankOf (f_X3_holder S p1)))) + (S.1 kReserves (f_X3_bank S (S.1 kBankOf (f_X3_holder S p1))))) < p2 then ((S.1 kVaults (f_X3_bank S (S.1 kBankOf (f_X3_holder S p1)))) + (S.1 kReserves (f_X3_bank S (S.1 kBankOf (f_X3_holder S p1))))) else p2) (fun (v1 : Int32) => lt (if (S.1 kVaults (f_X3_bank S (S.1 kBankOf (f_X3_holder S p1)))) < v1 then (S.1 kVaults (f_X3_bank S (S.1 kBankOf (f_X3_holder S p1)))) else v1) (fun (v2 : Int32) => lt ((upd2 S.1 kVaults (f_X3_bank S (S.1 kBankOf (f_X3_holder S p1))) ((S.1 kVaults (f_X3_bank S (S.1 kBankOf (f_X3_holder S p1)))) - v2), S.2)) (fun (S3 : Mem) => lt ((upd2 S3.1 kReserves (f_X3_bank S (S.1 kBankOf (f_X3_holder S p1))) ((S3.1 kReserves (f_X3_bank S (S.1 kBankOf (f_X3_holder S p1)))) - (v1 - v2)), S3.2)) (fun (S4 : Mem) => lt (f_X3_change S4 p1 (-v1)) (fun (S6 : Mem) => lt (f_X5_takeNotes S6 (f_X3_holder S p1) v1 0) (fun (S7 : Mem) => lt (if v1 ≤ 0 then (S7) else (lt (f_X5_markDrawn S7 (f_X3_holder S p1) (S7.1 kBankOf (f_X3_holder S p1)) (S7.1 kDays 0)) (fun (S9 : Mem) => S9))) (fun (S10 : Mem) => (v1, S10))))))))
def ok_X11_drawNotes (S : Mem) (p1 : Int32) (p2 : Int32) : Prop := ((∀ v1 : Int32, (if ((S.1 kVaults (f_X3_bank S (S.1 kBankOf (f_X3_holder S p1)))) + (S.1 kReserves (f_X3_bank S (S.1 kBankOf (f_X3_holder S p1))))) < p2 then ((S.1 kVaults (f_X3_bank S (S.1 kBankOf (f_X3_holder S p1)))) + (S.1 kReserves (f_X3_bank S (S.1 kBankOf (f_X3_holder S p1))))) else p2) = v1 → ((∀ v2 : Int32, (if (S.1 kVaults (f_X3_bank S (S.1 kBankOf (f_X3_holder S p1)))) < v1 then (S.1 kVaults (f_X3_bank S (S.1 kBankOf (f_X3_holder S p1)))) else v1) = v2 → ((∀ S3 : Mem, ((upd2 S.1 kVaults (f_X3_bank S (S.1 kBankOf (f_X3_holder S p1))) ((S.1 kVaults (f_X3_bank S (S.1 kBankOf (f_X3_holder S p1)))) - v2), S.2)) = S3 → ((∀ S4 : Mem, ((upd2 S3.1 kReserves (f_X3_bank S (S.1 kBankOf (f_X3_holder S p1))) ((S3.1 kReserves (f_X3_bank S (S.1 kBankOf (f_X3_holder S p1)))) - (v1 - v2)), S3.2)) = S4 → ((ok_X3_change S4 p1 (-v1)))))))))))
abbrev fdX11_drawNotes : FD := (mdX11_drawNotes, [], 2, 45, 0, 0)
set_option maxRecDepth 100000 in
set_option maxHeartbeats 4000000 in
theorem w_X11_drawNotes {O : Om} {G : Cx} {S : Mem} {PP : Option AV → Mem → Prop} (p1 : Int32) (p2 : Int32)   (h : ok_X11_drawNotes S p1 p2) (hP : ∀ x9 S9, f_X11_drawNotes S p1 p2 = (x9, S9) → PP (some (vi x9)) S9) : BW O G fdX11_drawNotes 0 0 (QV O G 0 0 PP) S 0 [some (vr 11 0), some (vi p1), some (vi p2), none, none, none, none] [] := by
  refine a_aload_n (pc := 0) 0 0 rfl rfl ?_
  refine g_11_books (pc := 1) 0 1 rfl fl_X11_10 ?_
  refine a_iload_n (pc := 4) 0 2 rfl rfl ?_
  refine a_callVr (pc := 5) 0 3 (c_X3_holder (S := S) p1) rfl cv_X11_45 (by decide) rfl rfl rfl (rm rfl) ?_
  refine a_astore_n (pc := 8) 0 4 (ls2 := [some (vr 11 0), some (vi p1), some (vi p2), some (vr 5 (f_X3_holder S p1)), none, none, none]) rfl rfl (by decide) rfl ?_
  refine a_aload_n (pc := 9) 0 5 rfl rfl ?_
  refine g_11_books (pc := 10) 0 6 rfl fl_X11_10 ?_
  refine a_aload_n (pc := 13) 0 7 rfl rfl ?_
  refine g_5_bank (pc := 14) 0 8 rfl (show f_X3_holder S p1 < 17 from r_X3_holder) fl_X11_76 ?_
  refine a_callVr (pc := 17) 0 9 (c_X3_bank (S := S) (S.1 kBankOf (f_X3_holder S p1))) rfl cv_X11_79 (by decide) rfl rfl rfl (rm rfl) ?_
  refine a_astore (pc := 20) 0 10 (ls2 := [some (vr 11 0), some (vi p1), some (vi p2), some (vr 5 (f_X3_holder S p1)), some (vr 0 (f_X3_bank S (S.1 kBankOf (f_X3_holder S p1)))), none, none]) rfl (by decide) rfl ?_
  refine a_iload_n (pc := 22) 0 11 rfl rfl ?_
  refine a_aload (pc := 23) 0 12 rfl rfl ?_
  refine g_0_vault (pc := 25) 0 13 rfl (show f_X3_bank S (S.1 kBankOf (f_X3_holder S p1)) < 5 from r_X3_bank) fl_X11_98 ?_
  refine a_aload (pc := 28) 0 14 rfl rfl ?_
  refine g_0_reserves (pc := 30) 0 15 rfl (show f_X3_bank S (S.1 kBankOf (f_X3_holder S p1)) < 5 from r_X3_bank) fl_X11_133 ?_
  refine a_iadd (pc := 33) 0 16 rfl ?_
  refine a_mmin (pc := 34) 0 17 rfl mm_X11_332 (mm rfl) ?_
  refine a_seti (fun v1 ev1 => ?_)
  have h := h v1 ev1
  refine a_istore (pc := 37) 0 18 (ls2 := [some (vr 11 0), some (vi p1), some (vi p2), some (vr 5 (f_X3_holder S p1)), some (vr 0 (f_X3_bank S (S.1 kBankOf (f_X3_holder S p1)))), some (vi v1), none]) rfl (by decide) rfl ?_
  refine a_iload (pc := 39) 0 19 rfl rfl ?_
  refine a_aload (pc := 41) 0 20 rfl rfl ?_
  refine g_0_vault (pc := 43) 0 21 rfl (show f_X3_bank S (S.1 kBankOf (f_X3_holder S p1)) < 5 from r_X3_bank) fl_X11_98 ?_
  refine a_mmin (pc := 46) 0 22 rfl mm_X11_332 (mm rfl) ?_
  refine a_seti (fun v2 ev2 => ?_)
  have h := h v2 ev2
  refine a_istore (pc := 49) 0 23 (ls2 := [some (vr 11 0), some (vi p1), some (vi p2), some (vr 5 (f_X3_holder S p1)), some (vr 0 (f_X3_bank S (S.1 kBankOf (f_X3_holder S p1)))), some (vi v1), some (vi v2)]) rfl (by decide) rfl ?_
  refine a_aload (pc := 51) 0 24 rfl rfl ?_
  refine a_dup (pc := 53) 0 25 rfl rfl ?_
  refine g_0_vault (pc := 54) 0 26 rfl (show f_X3_bank S (S.1 kBankOf (f_X3_holder S p1)) < 5 from r_X3_bank) fl_X11_98 ?_
  refine a_iload (pc := 57) 0 27 rfl rfl ?_
  refine a_isub (pc := 59) 0 28 rfl ?_
  refine p_0_vault (pc := 60) 0 29 rfl (show f_X3_bank S (S.1 kBankOf (f_X3_holder S p1)) < 5 from r_X3_bank) fl_X11_98 ?_
  refine a_set (fun S3 eS3 => ?_)
  have h := h S3 eS3
  refine a_aload (pc := 63) 0 30 rfl rfl ?_
  refine a_dup (pc := 65) 0 31 rfl rfl ?_
  refine g_0_reserves (pc := 66) 0 32 rfl (show f_X3_bank S (S.1 kBankOf (f_X3_holder S p1)) < 5 from r_X3_bank) fl_X11_133 ?_
  refine a_iload (pc := 69) 0 33 rfl rfl ?_
  refine a_iload (pc := 71) 0 34 rfl rfl ?_
  refine a_isub (pc := 73) 0 35 rfl ?_
  refine a_isub (pc := 74) 0 36 rfl ?_
  refine p_0_reserves (pc := 75) 0 37 rfl (show f_X3_bank S (S.1 kBankOf (f_X3_holder S p1)) < 5 from r_X3_bank) fl_X11_133 ?_
  refine a_set (fun S4 eS4 => ?_)
  have h := h S4 eS4
  refine a_aload_n (pc := 78) 0 38 rfl rfl ?_
  refine g_11_books (pc := 79) 0 39 rfl fl_X11_10 ?_
  refine a_iload_n (pc := 82) 0 40 rfl rfl ?_
  refine a_iload (pc := 83) 0 41 rfl rfl ?_
  refine a_ineg (pc := 85) 0 42 rfl ?_
  have o5 := h
  refine a_callVv (pc := 86) 0 43 (c_X3_change (S := S4) p1 (-v1) o5) rfl cv_X11_101 (by decide) rfl rfl rfl (rm rfl) ?_
  refine a_set (fun S6 eS6 => ?_)
  refine a_aload_n (pc := 89) 0 44 rfl rfl ?_
  refine a_iload (pc := 90) 0 45 rfl rfl ?_
  refine a_iconst (pc := 92) 0 46 (v := 0) rfl (by decide) ?_
  refine a_callVv (pc := 93) 0 47 (c_X5_takeNotes (S := S6) (f_X3_holder S p1) v1 0 (show f_X3_holder S p1 < 17 from r_X3_holder)) rfl cv_X11_49 (show f_X3_holder S p1 < 17 from r_X3_holder) rfl rfl rfl (rm rfl) ?_
  refine a_set (fun S7 eS7 => ?_)
  refine a_iload (pc := 96) 1 0 rfl rfl ?_
  have J113_10 : ∀ (S10 : Mem) (eS10 : (if v1 ≤ 0 then (S7) else (lt (f_X5_markDrawn S7 (f_X3_holder S p1) (S7.1 kBankOf (f_X3_holder S p1)) (S7.1 kDays 0)) (fun (S9 : Mem) => S9))) = S10), BW O G fdX11_drawNotes 0 0 (QV O G 0 0 PP) S10 113 [some (vr 11 0), some (vi p1), some (vi p2), some (vr 5 (f_X3_holder S p1)), some (vr 0 (f_X3_bank S (S.1 kBankOf (f_X3_holder S p1)))), some (vi v1), some (vi v2)] [] := by
    intro S10 eS10
    refine a_iload (pc := 113) 1 8 rfl rfl ?_
    exact a_iret (pc := 115) 1 9 rfl rfl (hP _ _ (by unfold f_X11_drawNotes; exact (lt_eq ev1).trans ((lt_eq ev2).trans ((lt_eq eS3).trans ((lt_eq eS4).trans ((lt_eq eS6).trans ((lt_eq eS7).trans (lt_eq eS10))))))))
  refine a_if_le (pc := 98) (tgt := 113) 1 1 rfl (by decide) (fun c98_7 => ?_) (fun c98_7 => ?_)
  · exact J113_10 _ (by exact (if_pos c98_7))
  · refine a_aload_n (pc := 101) 1 2 rfl rfl ?_
    refine a_aload_n (pc := 102) 1 3 rfl rfl ?_
    refine g_5_bank (pc := 103) 1 4 rfl (show f_X3_holder S p1 < 17 from r_X3_holder) fl_X11_76 ?_
    refine a_aload_n (pc := 106) 1 5 rfl rfl ?_
    refine g_11_today (pc := 107) 1 6 rfl fl_X11_119 ?_
    refine a_callVv (pc := 110) 1 7 (c_X5_markDrawn (S := S7) (f_X3_holder S p1) (S7.1 kBankOf (f_X3_holder S p1)) (S7.1 kDays 0) (show f_X3_holder S p1 < 17 from r_X3_holder)) rfl cv_X11_337 (show f_X3_holder S p1 < 17 from r_X3_holder) rfl rfl rfl (rm rfl) ?_
    refine a_set (fun S9 eS9 => ?_)
    exact J113_10 _ (by exact ((if_neg c98_7).trans (lt_eq eS9)))
theorem c_X11_drawNotes {S : Mem} (p1 : Int32) (p2 : Int32)   (h : ok_X11_drawNotes S p1 p2) : Cts mdX11_drawNotes 2 45 [vr 11 0, vi p1, vi p2] S (Is (some (vi (f_X11_drawNotes S p1 p2).1)) ((f_X11_drawNotes S p1 p2).2)) := Cts.of dtX11_drawNotes (by decide +kernel) rfl rfl (Nat.le_of_ble_eq_true rfl) rfl (fun O G => w_X11_drawNotes p1 p2 h (fun _ _ h9 => ⟨by rw [h9], by rw [h9]⟩))
def f_X11_failBank (S : Mem) (p1 : Int32) : Int32 × Mem := lt (f_X10_takeBack S p1) (fun (S2 : Mem) => lt (f_X2_dropBids S2 p1) (fun (S4 : Mem) => lt (f_X2_of S4 p1) (fun (v6 : Int32) => lt (f_X7_leftOf S4 p1) (fun (v8 : Int32) => lt (f_X11_share S4 v6 (nI 90) (nI 100)) (fun (v9 : Int32) => lt (f_X11_share S4 v8 (nI 50) (nI 100)) (fun (v10 : Int32) => lt (f_X3_noteCentral S4 (((((S4.1 kReserves (f_X3_bank S p1)) + (S4.1 kVaults (f_X3_bank S p1))) + v6) + v8) - (S4.1 kLent (f_X3_bank S p1)))) (fun (S12 : Mem) => lt (f_X2_moveToCentral S12 p1 v6) (fun (S14 : Mem) => lt (f_X7_moveToCentral S14 p1) (fun (S16 : Mem) => lt (f_X0_end S16 (f_X3_bank S p1)) (fun (S17 : Mem) => lt ((f_X3_payOut S17 p1 (((((S4.1 kReserves (f_X3_bank S p1)) + (S4.1 kVaults (f_X3_bank S p1))) + v9) + v10) - (S4.1 kLent (f_X3_bank S p1)))).2) (fun (S19 : Mem) => lt ((f_X3_payOut S17 p1 (((((S4.1 kReserves (f_X3_bank S p1)) + (S4.1 kVaults (f_X3_bank S p1))) + v9) + v10) - (S4.1 kLent (f_X3_bank S p1)))).1) (fun (v20 : Int32) => lt (f_X3_noteCentral S19 (-v20)) (fun (S22 : Mem) => (v20, S22))))))))))))))
def ok_X11_failBank (S : Mem) (p1 : Int32) : Prop := ((ok_X10_takeBack S p1) ∧ (∀ S2 : Mem, (f_X10_takeBack S p1) = S2 → ((ok_X2_dropBids S2 p1) ∧ (∀ S4 : Mem, (f_X2_dropBids S2 p1) = S4 → ((ok_X2_of S4 p1) ∧ (∀ v6 : Int32, (f_X2_of S4 p1) = v6 → ((ok_X7_leftOf S4 p1) ∧ (∀ v8 : Int32, (f_X7_leftOf S4 p1) = v8 → ((∀ v9 : Int32, (f_X11_share S4 v6 (nI 90) (nI 100)) = v9 → ((∀ v10 : Int32, (f_X11_share S4 v8 (nI 50) (nI 100)) = v10 → ((ok_X3_noteCentral S4 (((((S4.1 kReserves (f_X3_bank S p1)) + (S4.1 kVaults (f_X3_bank S p1))) + v6) + v8) - (S4.1 kLent (f_X3_bank S p1)))) ∧ (∀ S12 : Mem, (f_X3_noteCentral S4 (((((S4.1 kReserves (f_X3_bank S p1)) + (S4.1 kVaults (f_X3_bank S p1))) + v6) + v8) - (S4.1 kLent (f_X3_bank S p1)))) = S12 → ((ok_X2_moveToCentral S12 p1 v6) ∧ (∀ S14 : Mem, (f_X2_moveToCentral S12 p1 v6) = S14 → ((ok_X7_moveToCentral S14 p1) ∧ (∀ S16 : Mem, (f_X7_moveToCentral S14 p1) = S16 → ((∀ S17 : Mem, (f_X0_end S16 (f_X3_bank S p1)) = S17 → ((ok_X3_payOut S17 p1 (((((S4.1 kReserves (f_X3_bank S p1)) + (S4.1 kVaults (f_X3_bank S p1))) + v9) + v10) - (S4.1 kLent (f_X3_bank S p1)))) ∧ (∀ S19 : Mem, ((f_X3_payOut S17 p1 (((((S4.1 kReserves (f_X3_bank S p1)) + (S4.1 kVaults (f_X3_bank S p1))) + v9) + v10) - (S4.1 kLent (f_X3_bank S p1)))).2) = S19 → ((∀ v20 : Int32, ((f_X3_payOut S17 p1 (((((S4.1 kReserves (f_X3_bank S p1)) + (S4.1 kVaults (f_X3_bank S p1))) + v9) + v10) - (S4.1 kLent (f_X3_bank S p1)))).1) = v20 → ((ok_X3_noteCentral S19 (-v20)))))))))))))))))))))))))))
abbrev fdX11_failBank : FD := (mdX11_failBank, [], 3, 76, 0, 0)
set_option maxRecDepth 100000 in
set_option maxHeartbeats 4000000 in
theorem w_X11_failBank {O : Om} {G : Cx} {S : Mem} {PP : Option AV → Mem → Prop} (p1 : Int32)   (h : ok_X11_failBank S p1) (hP : ∀ x9 S9, f_X11_failBank S p1 = (x9, S9) → PP (some (vi x9)) S9) : BW O G fdX11_failBank 0 0 (QV O G 0 0 PP) S 0 [some (vr 11 0), some (vi p1), none, none, none, none, none, none] [] := by
  refine a_aload_n (pc := 0) 0 0 rfl rfl ?_
  refine g_11_books (pc := 1) 0 1 rfl fl_X11_10 ?_
  refine a_iload_n (pc := 4) 0 2 rfl rfl ?_
  refine a_callVr (pc := 5) 0 3 (c_X3_bank (S := S) p1) rfl cv_X11_79 (by decide) rfl rfl rfl (rm rfl) ?_
  refine a_astore_n (pc := 8) 0 4 (ls2 := [some (vr 11 0), some (vi p1), some (vr 0 (f_X3_bank S p1)), none, none, none, none, none]) rfl rfl (by decide) rfl ?_
  refine a_aload_n (pc := 9) 0 5 rfl rfl ?_
  refine g_11_payments (pc := 10) 0 6 rfl fl_X11_19 ?_
  refine a_aload_n (pc := 13) 0 7 rfl rfl ?_
  refine g_11_books (pc := 14) 0 8 rfl fl_X11_10 ?_
  refine a_iload_n (pc := 17) 0 9 rfl rfl ?_
  obtain ⟨o1, h⟩ := h
  refine a_callVv (pc := 18) 0 10 (c_X10_takeBack (S := S) p1 o1) rfl cv_X11_340 (by decide) rfl rfl rfl (rm rfl) ?_
  refine a_set (fun S2 eS2 => ?_)
  have h := h S2 eS2
  refine a_aload_n (pc := 21) 0 11 rfl rfl ?_
  refine g_11_bonds (pc := 22) 0 12 rfl fl_X11_33 ?_
  refine a_iload_n (pc := 25) 0 13 rfl rfl ?_
  obtain ⟨o3, h⟩ := h
  refine a_callVv (pc := 26) 0 14 (c_X2_dropBids (S := S2) p1 o3) rfl cv_X11_344 (by decide) rfl rfl rfl (rm rfl) ?_
  refine a_set (fun S4 eS4 => ?_)
  have h := h S4 eS4
  refine a_aload_n (pc := 29) 0 15 rfl rfl ?_
  refine g_11_bonds (pc := 30) 0 16 rfl fl_X11_33 ?_
  refine a_iload_n (pc := 33) 0 17 rfl rfl ?_
  obtain ⟨o5, h⟩ := h
  refine a_callVi (pc := 34) 0 18 (c_X2_of (S := S4) p1 o5) rfl cv_X11_198 (by decide) rfl rfl rfl (rm rfl) ?_
  refine a_seti (fun v6 ev6 => ?_)
  have h := h v6 ev6
  refine a_istore_n (pc := 37) 0 19 (ls2 := [some (vr 11 0), some (vi p1), some (vr 0 (f_X3_bank S p1)), some (vi v6), none, none, none, none]) rfl rfl (by decide) rfl ?_
  refine a_aload_n (pc := 38) 0 20 rfl rfl ?_
  refine g_11_loans (pc := 39) 0 21 rfl fl_X11_26 ?_
  refine a_iload_n (pc := 42) 0 22 rfl rfl ?_
  obtain ⟨o7, h⟩ := h
  refine a_callVi (pc := 43) 0 23 (c_X7_leftOf (S := S4) p1 o7) rfl cv_X11_140 (by decide) rfl rfl rfl (rm rfl) ?_
  refine a_seti (fun v8 ev8 => ?_)
  have h := h v8 ev8
  refine a_istore (pc := 46) 0 24 (ls2 := [some (vr 11 0), some (vi p1), some (vr 0 (f_X3_bank S p1)), some (vi v6), some (vi v8), none, none, none]) rfl (by decide) rfl ?_
  refine a_aload_n (pc := 48) 0 25 rfl rfl ?_
  refine g_0_reserves (pc := 49) 0 26 rfl (show f_X3_bank S p1 < 5 from r_X3_bank) fl_X11_133 ?_
  refine a_aload_n (pc := 52) 0 27 rfl rfl ?_
  refine g_0_vault (pc := 53) 0 28 rfl (show f_X3_bank S p1 < 5 from r_X3_bank) fl_X11_98 ?_
  refine a_iadd (pc := 56) 0 29 rfl ?_
  refine a_istore (pc := 57) 0 30 (ls2 := [some (vr 11 0), some (vi p1), some (vr 0 (f_X3_bank S p1)), some (vi v6), some (vi v8), some (vi ((S4.1 kReserves (f_X3_bank S p1)) + (S4.1 kVaults (f_X3_bank S p1)))), none, none]) rfl (by decide) rfl ?_
  refine a_iload (pc := 59) 0 31 rfl rfl ?_
  refine a_iload_n (pc := 61) 0 32 rfl rfl ?_
  refine a_bipush (pc := 62) 0 33 (v := nI 90) rfl (by decide) ?_
  refine a_bipush (pc := 64) 0 34 (v := nI 100) rfl (by decide) ?_
  refine a_callSi (pc := 66) 0 35 (c_X11_share (S := S4) v6 (nI 90) (nI 100)) rfl cs_X11_155 rfl (rm rfl) ?_
  refine a_seti (fun v9 ev9 => ?_)
  have h := h v9 ev9
  refine a_iadd (pc := 69) 0 36 rfl ?_
  refine a_iload (pc := 70) 0 37 rfl rfl ?_
  refine a_bipush (pc := 72) 0 38 (v := nI 50) rfl (by decide) ?_
  refine a_bipush (pc := 74) 0 39 (v := nI 100) rfl (by decide) ?_
  refine a_callSi (pc := 76) 0 40 (c_X11_share (S := S4) v8 (nI 50) (nI 100)) rfl cs_X11_155 rfl (rm rfl) ?_
  refine a_seti (fun v10 ev10 => ?_)
  have h := h v10 ev10
  refine a_iadd (pc := 79) 0 41 rfl ?_
  refine a_aload_n (pc := 80) 0 42 rfl rfl ?_
  refine g_0_lent (pc := 81) 0 43 rfl (show f_X3_bank S p1 < 5 from r_X3_bank) fl_X11_189 ?_
  refine a_isub (pc := 84) 0 44 rfl ?_
  refine a_istore (pc := 85) 0 45 (ls2 := [some (vr 11 0), some (vi p1), some (vr 0 (f_X3_bank S p1)), some (vi v6), some (vi v8), some (vi ((S4.1 kReserves (f_X3_bank S p1)) + (S4.1 kVaults (f_X3_bank S p1)))), some (vi (((((S4.1 kReserves (f_X3_bank S p1)) + (S4.1 kVaults (f_X3_bank S p1))) + v9) + v10) - (S4.1 kLent (f_X3_bank S p1)))), none]) rfl (by decide) rfl ?_
  refine a_aload_n (pc := 87) 0 46 rfl rfl ?_
  refine g_11_books (pc := 88) 0 47 rfl fl_X11_10 ?_
  refine a_iload (pc := 91) 1 0 rfl rfl ?_
  refine a_iload_n (pc := 93) 1 1 rfl rfl ?_
  refine a_iadd (pc := 94) 1 2 rfl ?_
  refine a_iload (pc := 95) 1 3 rfl rfl ?_
  refine a_iadd (pc := 97) 1 4 rfl ?_
  refine a_aload_n (pc := 98) 1 5 rfl rfl ?_
  refine g_0_lent (pc := 99) 1 6 rfl (show f_X3_bank S p1 < 5 from r_X3_bank) fl_X11_189 ?_
  refine a_isub (pc := 102) 1 7 rfl ?_
  obtain ⟨o11, h⟩ := h
  refine a_callVv (pc := 103) 1 8 (c_X3_noteCentral (S := S4) (((((S4.1 kReserves (f_X3_bank S p1)) + (S4.1 kVaults (f_X3_bank S p1))) + v6) + v8) - (S4.1 kLent (f_X3_bank S p1))) o11) rfl cv_X11_55 (by decide) rfl rfl rfl (rm rfl) ?_
  refine a_set (fun S12 eS12 => ?_)
  have h := h S12 eS12
  refine a_aload_n (pc := 106) 1 9 rfl rfl ?_
  refine g_11_bonds (pc := 107) 1 10 rfl fl_X11_33 ?_
  refine a_iload_n (pc := 110) 1 11 rfl rfl ?_
  refine a_iload_n (pc := 111) 1 12 rfl rfl ?_
  obtain ⟨o13, h⟩ := h
  refine a_callVv (pc := 112) 1 13 (c_X2_moveToCentral (S := S12) p1 v6 o13) rfl cv_X11_201 (by decide) rfl rfl rfl (rm rfl) ?_
  refine a_set (fun S14 eS14 => ?_)
  have h := h S14 eS14
  refine a_aload_n (pc := 115) 1 14 rfl rfl ?_
  refine g_11_loans (pc := 116) 1 15 rfl fl_X11_26 ?_
  refine a_iload_n (pc := 119) 1 16 rfl rfl ?_
  obtain ⟨o15, h⟩ := h
  refine a_callVv (pc := 120) 1 17 (c_X7_moveToCentral (S := S14) p1 o15) rfl cv_X11_347 (by decide) rfl rfl rfl (rm rfl) ?_
  refine a_set (fun S16 eS16 => ?_)
  have h := h S16 eS16
  refine a_aload_n (pc := 123) 1 18 rfl rfl ?_
  refine a_callVv (pc := 124) 1 19 (c_X0_end (S := S16) (f_X3_bank S p1) (show f_X3_bank S p1 < 5 from r_X3_bank)) rfl cv_X11_349 (show f_X3_bank S p1 < 5 from r_X3_bank) rfl rfl rfl (rm rfl) ?_
  refine a_set (fun S17 eS17 => ?_)
  have h := h S17 eS17
  refine a_aload_n (pc := 127) 1 20 rfl rfl ?_
  refine g_11_books (pc := 128) 1 21 rfl fl_X11_10 ?_
  refine a_iload_n (pc := 131) 1 22 rfl rfl ?_
  refine a_iload (pc := 132) 1 23 rfl rfl ?_
  obtain ⟨o18, h⟩ := h
  refine a_callVi (pc := 134) 1 24 (c_X3_payOut (S := S17) p1 (((((S4.1 kReserves (f_X3_bank S p1)) + (S4.1 kVaults (f_X3_bank S p1))) + v9) + v10) - (S4.1 kLent (f_X3_bank S p1))) o18) rfl cv_X11_352 (by decide) rfl rfl rfl (rm rfl) ?_
  refine a_set (fun S19 eS19 => ?_)
  have h := h S19 eS19
  refine a_seti (fun v20 ev20 => ?_)
  have h := h v20 ev20
  refine a_istore (pc := 137) 1 25 (ls2 := [some (vr 11 0), some (vi p1), some (vr 0 (f_X3_bank S p1)), some (vi v6), some (vi v8), some (vi ((S4.1 kReserves (f_X3_bank S p1)) + (S4.1 kVaults (f_X3_bank S p1)))), some (vi (((((S4.1 kReserves (f_X3_bank S p1)) + (S4.1 kVaults (f_X3_bank S p1))) + v9) + v10) - (S4.1 kLent (f_X3_bank S p1)))), some (vi v20)]) rfl (by decide) rfl ?_
  refine a_aload_n (pc := 139) 1 26 rfl rfl ?_
  refine g_11_books (pc := 140) 1 27 rfl fl_X11_10 ?_
  refine a_iload (pc := 143) 1 28 rfl rfl ?_
  refine a_ineg (pc := 145) 1 29 rfl ?_
  have o21 := h
  refine a_callVv (pc := 146) 1 30 (c_X3_noteCentral (S := S19) (-v20) o21) rfl cv_X11_55 (by decide) rfl rfl rfl (rm rfl) ?_
  refine a_set (fun S22 eS22 => ?_)
  refine a_iload (pc := 149) 1 31 rfl rfl ?_
  exact a_iret (pc := 151) 1 32 rfl rfl (hP _ _ (by unfold f_X11_failBank; exact (lt_eq eS2).trans ((lt_eq eS4).trans ((lt_eq ev6).trans ((lt_eq ev8).trans ((lt_eq ev9).trans ((lt_eq ev10).trans ((lt_eq eS12).trans ((lt_eq eS14).trans ((lt_eq eS16).trans ((lt_eq eS17).trans ((lt_eq eS19).trans ((lt_eq ev20).trans (lt_eq eS22))))))))))))))
theorem c_X11_failBank {S : Mem} (p1 : Int32)   (h : ok_X11_failBank S p1) : Cts mdX11_failBank 3 76 [vr 11 0, vi p1] S (Is (some (vi (f_X11_failBank S p1).1)) ((f_X11_failBank S p1).2)) := Cts.of dtX11_failBank (by decide +kernel) rfl rfl (Nat.le_of_ble_eq_true rfl) rfl (fun O G => w_X11_failBank p1 h (fun _ _ h9 => ⟨by rw [h9], by rw [h9]⟩))
def b2_X11_payWages  (j1 : Nat) (σ2 : Mem) : Mem := lt (if (σ2.1 kFirms (f_X3_holder σ2 (nI j1))) = (-1) then (σ2) else (lt (f_X11_canPay σ2 (σ2.1 kFirms (f_X3_holder σ2 (nI j1))) (nI j1) (σ2.1 kWages (f_X3_holder σ2 (nI j1)))) (fun (v4 : Int32) => if v4 = 0 then (lt ((upd2 σ2.1 kFirms (f_X3_holder σ2 (nI j1)) (-1), σ2.2)) (fun (S6 : Mem) => lt ((upd2 S6.1 kWages (f_X3_holder σ2 (nI j1)) 0, S6.2)) (fun (S7 : Mem) => S7))) else (lt ((f_X10_tell σ2 (σ2.1 kFirms (f_X3_holder σ2 (nI j1))) (nI j1) (σ2.1 kWages (f_X3_holder σ2 (nI j1))) (-1) (σ2.1 kDays 0)).2) (fun (S9 : Mem) => lt ((f_X10_tell σ2 (σ2.1 kFirms (f_X3_holder σ2 (nI j1))) (nI j1) (σ2.1 kWages (f_X3_holder σ2 (nI j1))) (-1) (σ2.1 kDays 0)).1) (fun (v10 : Int32) => S9)))))) (fun (S11 : Mem) => S11)
def f_X11_payWages (S : Mem)  : Mem := lt (iter (b2_X11_payWages) S (10)) (fun (σ2 : Mem) => σ2)
def ok_X11_payWages (S : Mem)  : Prop := ((∀ j1 : Nat, j1 < 10 → ∀ σ2 : Mem, iter (b2_X11_payWages) S j1 = σ2 → (((¬ ((σ2.1 kFirms (f_X3_holder σ2 (nI j1))) = (-1))) → ((∀ v4 : Int32, (f_X11_canPay σ2 (σ2.1 kFirms (f_X3_holder σ2 (nI j1))) (nI j1) (σ2.1 kWages (f_X3_holder σ2 (nI j1)))) = v4 → (((¬ (v4 = 0)) → ((ok_X10_tell σ2 (σ2.1 kFirms (f_X3_holder σ2 (nI j1))) (nI j1) (σ2.1 kWages (f_X3_holder σ2 (nI j1))) (-1) (σ2.1 kDays 0)))))))))))
abbrev fdX11_payWages : FD := (mdX11_payWages, [], 4, 96, 0, 0)
set_option maxRecDepth 100000 in
set_option maxHeartbeats 4000000 in
theorem w_X11_payWages {O : Om} {G : Cx} {S : Mem} {PP : Option AV → Mem → Prop}    (h : ok_X11_payWages S ) (hP : ∀ S9, f_X11_payWages S  = S9 → PP none S9) : BW O G fdX11_payWages 0 0 (QV O G 0 0 PP) S 0 [some (vr 11 0), none, none] [] := by
  refine a_iconst (pc := 0) 0 0 (v := 0) rfl (by decide) ?_
  refine a_istore_n (pc := 1) 0 1 (ls2 := [some (vr 11 0), some (vi 0), none]) rfl rfl (by decide) rfl ?_
  have hb_j1 := h
  have L2_11 : ∀ (m_j1 j1 : Nat), j1 + m_j1 = 10 → ∀ (σ2 : Mem), iter (b2_X11_payWages) S j1 = σ2 → BW O G fdX11_payWages 0 0 (QV O G 0 0 PP) σ2 2 [some (vr 11 0), some (vi (nI j1)), none] [] := by
    intro m_j1
    induction m_j1 with
    | zero =>
      intro j1 hj_j1 σ2 eσ2
      have hn_j1 : j1 = 10 := by omega
      rw [hn_j1] at eσ2
      refine a_iload_n (pc := 2) 0 2 rfl rfl ?_
      refine a_bipush (pc := 3) 0 3 (v := nI 10) rfl (by decide) ?_
      refine a_icmp_ge_t (pc := 5) (tgt := 89) 0 4 rfl (by decide) (nI_le (by omega) (by omega)) ?_
      exact a_vret (pc := 89) 0 46 rfl rfl (hP _ (by unfold f_X11_payWages; exact lt_eq eσ2))
    | succ m_j1 ih_j1 =>
      intro j1 hj_j1 σ2 eσ2
      have h := hb_j1 j1 (by omega) σ2 eσ2
      refine a_iload_n (pc := 2) 0 2 rfl rfl ?_
      refine a_bipush (pc := 3) 0 3 (v := nI 10) rfl (by decide) ?_
      refine a_icmp_ge_f (pc := 5) (tgt := 89) 0 4 rfl (nI_ge (by omega) (by omega)) (by decide) ?_
      refine a_aload_n (pc := 8) 0 5 rfl rfl ?_
      refine g_11_books (pc := 9) 0 6 rfl fl_X11_10 ?_
      refine a_iload_n (pc := 12) 0 7 rfl rfl ?_
      refine a_callVr (pc := 13) 0 8 (c_X3_holder (S := σ2) (nI j1)) rfl cv_X11_45 (by decide) rfl rfl rfl (rm rfl) ?_
      refine a_astore_n (pc := 16) 0 9 (ls2 := [some (vr 11 0), some (vi (nI j1)), some (vr 5 (f_X3_holder σ2 (nI j1)))]) rfl rfl (by decide) rfl ?_
      refine a_aload_n (pc := 17) 0 10 rfl rfl ?_
      refine g_5_firm (pc := 18) 0 11 rfl (show f_X3_holder σ2 (nI j1) < 17 from r_X3_holder) fl_X11_241 ?_
      refine a_iconst (pc := 21) 0 12 (v := (-1)) rfl (by decide) ?_
      have J83_12 : ∀ (S11 : Mem) (eS11 : (if (σ2.1 kFirms (f_X3_holder σ2 (nI j1))) = (-1) then (σ2) else (lt (f_X11_canPay σ2 (σ2.1 kFirms (f_X3_holder σ2 (nI j1))) (nI j1) (σ2.1 kWages (f_X3_holder σ2 (nI j1)))) (fun (v4 : Int32) => if v4 = 0 then (lt ((upd2 σ2.1 kFirms (f_X3_holder σ2 (nI j1)) (-1), σ2.2)) (fun (S6 : Mem) => lt ((upd2 S6.1 kWages (f_X3_holder σ2 (nI j1)) 0, S6.2)) (fun (S7 : Mem) => S7))) else (lt ((f_X10_tell σ2 (σ2.1 kFirms (f_X3_holder σ2 (nI j1))) (nI j1) (σ2.1 kWages (f_X3_holder σ2 (nI j1))) (-1) (σ2.1 kDays 0)).2) (fun (S9 : Mem) => lt ((f_X10_tell σ2 (σ2.1 kFirms (f_X3_holder σ2 (nI j1))) (nI j1) (σ2.1 kWages (f_X3_holder σ2 (nI j1))) (-1) (σ2.1 kDays 0)).1) (fun (v10 : Int32) => S9)))))) = S11), BW O G fdX11_payWages 0 0 (QV O G 0 0 PP) S11 83 [some (vr 11 0), some (vi (nI j1)), some (vr 5 (f_X3_holder σ2 (nI j1)))] [] := by
        intro S11 eS11
        refine a_iinc (pc := 83) 0 44 (v := nI (j1 + 1)) (ls2 := [some (vr 11 0), some (vi (nI (j1 + 1))), some (vr 5 (f_X3_holder σ2 (nI j1)))]) rfl rfl (iinc1 _) (by decide) rfl ?_
        refine a_goto (pc := 86) (tgt := 2) 0 45 rfl (by decide) ?_
        refine a_drop (ls2 := [some (vr 11 0), some (vi (nI (j1 + 1))), none]) (⟨rfl, rfl, trivial⟩) ?_
        exact ih_j1 (j1 + 1) (by omega) S11 (by rw [iter_succ, eσ2]; unfold b2_X11_payWages; exact (lt_eq eS11))
      refine a_icmp_ne (pc := 22) (tgt := 28) 0 13 rfl (by decide) (fun c22_2 => ?_) (fun c22_2 => ?_)
      · have h := h c22_2
        refine a_aload_n (pc := 28) 0 15 rfl rfl ?_
        refine a_aload_n (pc := 29) 0 16 rfl rfl ?_
        refine g_5_firm (pc := 30) 0 17 rfl (show f_X3_holder σ2 (nI j1) < 17 from r_X3_holder) fl_X11_241 ?_
        refine a_iload_n (pc := 33) 0 18 rfl rfl ?_
        refine a_aload_n (pc := 34) 0 19 rfl rfl ?_
        refine g_5_wage (pc := 35) 0 20 rfl (show f_X3_holder σ2 (nI j1) < 17 from r_X3_holder) fl_X11_238 ?_
        refine a_callVi (pc := 38) 0 21 (c_X11_canPay (S := σ2) (σ2.1 kFirms (f_X3_holder σ2 (nI j1))) (nI j1) (σ2.1 kWages (f_X3_holder σ2 (nI j1)))) rfl cv_X11_115 (by decide) rfl rfl rfl (rm rfl) ?_
        refine a_seti (fun v4 ev4 => ?_)
        have h := h v4 ev4
        refine a_if_eq (pc := 41) (tgt := 73) 0 22 rfl (by decide) (fun c41_4 => ?_) (fun c41_4 => ?_)
        · refine a_aload_n (pc := 73) 0 38 rfl rfl ?_
          refine a_iconst (pc := 74) 0 39 (v := (-1)) rfl (by decide) ?_
          refine p_5_firm (pc := 75) 0 40 rfl (show f_X3_holder σ2 (nI j1) < 17 from r_X3_holder) fl_X11_241 ?_
          refine a_set (fun S6 eS6 => ?_)
          refine a_aload_n (pc := 78) 0 41 rfl rfl ?_
          refine a_iconst (pc := 79) 0 42 (v := 0) rfl (by decide) ?_
          refine p_5_wage (pc := 80) 0 43 rfl (show f_X3_holder σ2 (nI j1) < 17 from r_X3_holder) fl_X11_238 ?_
          refine a_set (fun S7 eS7 => ?_)
          exact J83_12 _ (by exact ((if_neg c22_2).trans ((lt_eq ev4).trans ((if_pos c41_4).trans ((lt_eq eS6).trans (lt_eq eS7))))))
        · have h := h c41_4
          refine a_aload_n (pc := 44) 0 23 rfl rfl ?_
          refine g_11_payments (pc := 45) 0 24 rfl fl_X11_19 ?_
          refine a_aload_n (pc := 48) 0 25 rfl rfl ?_
          refine g_11_books (pc := 49) 0 26 rfl fl_X11_10 ?_
          refine a_aload_n (pc := 52) 0 27 rfl rfl ?_
          refine g_5_firm (pc := 53) 0 28 rfl (show f_X3_holder σ2 (nI j1) < 17 from r_X3_holder) fl_X11_241 ?_
          refine a_iload_n (pc := 56) 0 29 rfl rfl ?_
          refine a_aload_n (pc := 57) 0 30 rfl rfl ?_
          refine g_5_wage (pc := 58) 0 31 rfl (show f_X3_holder σ2 (nI j1) < 17 from r_X3_holder) fl_X11_238 ?_
          refine a_iconst (pc := 61) 0 32 (v := (-1)) rfl (by decide) ?_
          refine a_aload_n (pc := 62) 0 33 rfl rfl ?_
          refine g_11_today (pc := 63) 0 34 rfl fl_X11_119 ?_
          have o8 := h
          refine a_callVi (pc := 66) 0 35 (c_X10_tell (S := σ2) (σ2.1 kFirms (f_X3_holder σ2 (nI j1))) (nI j1) (σ2.1 kWages (f_X3_holder σ2 (nI j1))) (-1) (σ2.1 kDays 0) o8) rfl cv_X11_122 (by decide) rfl rfl rfl (rm rfl) ?_
          refine a_set (fun S9 eS9 => ?_)
          refine a_seti (fun v10 ev10 => ?_)
          refine a_pop (pc := 69) 0 36 rfl ?_
          refine a_goto (pc := 70) (tgt := 83) 0 37 rfl (by decide) ?_
          exact J83_12 _ (by exact ((if_neg c22_2).trans ((lt_eq ev4).trans ((if_neg c41_4).trans ((lt_eq eS9).trans (lt_eq ev10))))))
      · refine a_goto (pc := 25) (tgt := 83) 0 14 rfl (by decide) ?_
        exact J83_12 _ (by exact (if_pos c22_2))
  exact L2_11 (10) 0 (by omega) S rfl
theorem c_X11_payWages {S : Mem}    (h : ok_X11_payWages S ) : Cts mdX11_payWages 4 96 [vr 11 0] S (Is none (f_X11_payWages S )) := Cts.of dtX11_payWages (by decide +kernel) rfl rfl (Nat.le_of_ble_eq_true rfl) rfl (fun O G => w_X11_payWages  h (fun _ h9 => ⟨rfl, h9.symm⟩))
def f_X11_takeInterestOn (S : Mem) (i1 : Nat) (p2 : Int32) : Mem := lt (f_X3_payOwner S i1 p2) (fun (S2 : Mem) => lt ((upd2 S2.1 kOverdue i1 0, S2.2)) (fun (S3 : Mem) => lt (if (S3.1 kLoanBanks i1) = (nI 4) then (lt (f_X3_noteCentral S3 p2) (fun (S6 : Mem) => S6)) else (S3)) (fun (S7 : Mem) => S7)))
def ok_X11_takeInterestOn (S : Mem) (i1 : Nat) (p2 : Int32) : Prop := ((ok_X3_payOwner S i1 p2) ∧ (∀ S2 : Mem, (f_X3_payOwner S i1 p2) = S2 → ((∀ S3 : Mem, ((upd2 S2.1 kOverdue i1 0, S2.2)) = S3 → ((((S3.1 kLoanBanks i1) = (nI 4)) → ((ok_X3_noteCentral S3 p2))))))))
abbrev fdX11_takeInterestOn : FD := (mdX11_takeInterestOn, [], 3, 68, 0, 0)
set_option maxRecDepth 100000 in
set_option maxHeartbeats 4000000 in
theorem w_X11_takeInterestOn {O : Om} {G : Cx} {S : Mem} {PP : Option AV → Mem → Prop} (i1 : Nat) (p2 : Int32) (hi1 : i1 < 21)  (h : ok_X11_takeInterestOn S i1 p2) (hP : ∀ S9, f_X11_takeInterestOn S i1 p2 = S9 → PP none S9) : BW O G fdX11_takeInterestOn 0 0 (QV O G 0 0 PP) S 0 [some (vr 11 0), some (vr 6 i1), some (vi p2)] [] := by
  refine a_aload_n (pc := 0) 0 0 rfl rfl ?_
  refine g_11_books (pc := 1) 0 1 rfl fl_X11_10 ?_
  refine a_aload_n (pc := 4) 0 2 rfl rfl ?_
  refine a_iload_n (pc := 5) 0 3 rfl rfl ?_
  obtain ⟨o1, h⟩ := h
  refine a_callVv (pc := 6) 0 4 (c_X3_payOwner (S := S) i1 p2 (by first | omega | assumption) o1) rfl cv_X11_179 (by decide) rfl rfl rfl (rm rfl) ?_
  refine a_set (fun S2 eS2 => ?_)
  have h := h S2 eS2
  refine a_aload_n (pc := 9) 0 5 rfl rfl ?_
  refine a_iconst (pc := 10) 0 6 (v := 0) rfl (by decide) ?_
  refine p_6_overdue (pc := 11) 0 7 rfl (by first | omega | assumption) fl_X11_285 ?_
  refine a_set (fun S3 eS3 => ?_)
  have h := h S3 eS3
  refine a_aload_n (pc := 14) 0 8 rfl rfl ?_
  refine g_6_owner (pc := 15) 0 9 rfl (by first | omega | assumption) fl_X11_282 ?_
  refine a_iconst (pc := 18) 0 10 (v := nI 4) rfl (by decide) ?_
  have J30_7 : ∀ (S7 : Mem) (eS7 : (if (S3.1 kLoanBanks i1) = (nI 4) then (lt (f_X3_noteCentral S3 p2) (fun (S6 : Mem) => S6)) else (S3)) = S7), BW O G fdX11_takeInterestOn 0 0 (QV O G 0 0 PP) S7 30 [some (vr 11 0), some (vr 6 i1), some (vi p2)] [] := by
    intro S7 eS7
    exact a_vret (pc := 30) 0 16 rfl rfl (hP _ (by unfold f_X11_takeInterestOn; exact (lt_eq eS2).trans ((lt_eq eS3).trans (lt_eq eS7))))
  refine a_icmp_ne (pc := 19) (tgt := 30) 0 11 rfl (by decide) (fun c19_3 => ?_) (fun c19_3 => ?_)
  · exact J30_7 _ (by exact (if_neg c19_3))
  · have h := h c19_3
    refine a_aload_n (pc := 22) 0 12 rfl rfl ?_
    refine g_11_books (pc := 23) 0 13 rfl fl_X11_10 ?_
    refine a_iload_n (pc := 26) 0 14 rfl rfl ?_
    have o5 := h
    refine a_callVv (pc := 27) 0 15 (c_X3_noteCentral (S := S3) p2 o5) rfl cv_X11_55 (by decide) rfl rfl rfl (rm rfl) ?_
    refine a_set (fun S6 eS6 => ?_)
    exact J30_7 _ (by exact ((if_pos c19_3).trans (lt_eq eS6)))
theorem c_X11_takeInterestOn {S : Mem} (i1 : Nat) (p2 : Int32) (hi1 : i1 < 21)  (h : ok_X11_takeInterestOn S i1 p2) : Cts mdX11_takeInterestOn 3 68 [vr 11 0, vr 6 i1, vi p2] S (Is none (f_X11_takeInterestOn S i1 p2)) := Cts.of dtX11_takeInterestOn (by decide +kernel) rfl rfl (Nat.le_of_ble_eq_true rfl) rfl (fun O G => w_X11_takeInterestOn i1 p2 hi1 h (fun _ h9 => ⟨rfl, h9.symm⟩))
def f_X11_missInterestOn (S : Mem) (i1 : Nat) : Mem := lt ((upd2 S.1 kOverdue i1 ((S.1 kOverdue i1) + 1), S.2)) (fun (S1 : Mem) => if (nI 3) ≤ (S1.1 kOverdue i1) then (lt (if (S1.1 kLoanBanks i1) = (nI 4) then (lt (f_X3_noteCentral S1 (-(S1.1 kLoanLefts i1))) (fun (S5 : Mem) => S5)) else (S1)) (fun (S6 : Mem) => lt ((upd2 S6.1 kLoanLefts i1 0, S6.2)) (fun (S7 : Mem) => S7))) else (S1))
def ok_X11_missInterestOn (S : Mem) (i1 : Nat) : Prop := ((∀ S1 : Mem, ((upd2 S.1 kOverdue i1 ((S.1 kOverdue i1) + 1), S.2)) = S1 → ((((nI 3) ≤ (S1.1 kOverdue i1)) → ((((S1.1 kLoanBanks i1) = (nI 4)) → ((ok_X3_noteCentral S1 (-(S1.1 kLoanLefts i1))))))))))
abbrev fdX11_missInterestOn : FD := (mdX11_missInterestOn, [], 2, 44, 0, 0)
set_option maxRecDepth 100000 in
set_option maxHeartbeats 4000000 in
theorem w_X11_missInterestOn {O : Om} {G : Cx} {S : Mem} {PP : Option AV → Mem → Prop} (i1 : Nat) (hi1 : i1 < 21)  (h : ok_X11_missInterestOn S i1) (hP : ∀ S9, f_X11_missInterestOn S i1 = S9 → PP none S9) : BW O G fdX11_missInterestOn 0 0 (QV O G 0 0 PP) S 0 [some (vr 11 0), some (vr 6 i1)] [] := by
  refine a_aload_n (pc := 0) 0 0 rfl rfl ?_
  refine a_dup (pc := 1) 0 1 rfl rfl ?_
  refine g_6_overdue (pc := 2) 0 2 rfl (by first | omega | assumption) fl_X11_285 ?_
  refine a_iconst (pc := 5) 0 3 (v := 1) rfl (by decide) ?_
  refine a_iadd (pc := 6) 0 4 rfl ?_
  refine p_6_overdue (pc := 7) 0 5 rfl (by first | omega | assumption) fl_X11_285 ?_
  refine a_set (fun S1 eS1 => ?_)
  have h := h S1 eS1
  refine a_aload_n (pc := 10) 0 6 rfl rfl ?_
  refine g_6_overdue (pc := 11) 0 7 rfl (by first | omega | assumption) fl_X11_285 ?_
  refine a_iconst (pc := 14) 0 8 (v := nI 3) rfl (by decide) ?_
  refine a_icmp_ge (pc := 15) (tgt := 19) 0 9 rfl (by decide) (fun c15_1 => ?_) (fun c15_1 => ?_)
  · have h := h c15_1
    refine a_aload_n (pc := 19) 0 11 rfl rfl ?_
    refine g_6_owner (pc := 20) 0 12 rfl (by first | omega | assumption) fl_X11_282 ?_
    refine a_iconst (pc := 23) 0 13 (v := nI 4) rfl (by decide) ?_
    have J39_7 : ∀ (S6 : Mem) (eS6 : (if (S1.1 kLoanBanks i1) = (nI 4) then (lt (f_X3_noteCentral S1 (-(S1.1 kLoanLefts i1))) (fun (S5 : Mem) => S5)) else (S1)) = S6), BW O G fdX11_missInterestOn 0 0 (QV O G 0 0 PP) S6 39 [some (vr 11 0), some (vr 6 i1)] [] := by
      intro S6 eS6
      refine a_aload_n (pc := 39) 0 21 rfl rfl ?_
      refine a_iconst (pc := 40) 0 22 (v := 0) rfl (by decide) ?_
      refine p_6_left (pc := 41) 0 23 rfl (by first | omega | assumption) fl_X11_170 ?_
      refine a_set (fun S7 eS7 => ?_)
      exact a_vret (pc := 44) 0 24 rfl rfl (hP _ (by unfold f_X11_missInterestOn; exact (lt_eq eS1).trans ((if_pos c15_1).trans ((lt_eq eS6).trans (lt_eq eS7)))))
    refine a_icmp_ne (pc := 24) (tgt := 39) 0 14 rfl (by decide) (fun c24_2 => ?_) (fun c24_2 => ?_)
    · exact J39_7 _ (by exact (if_neg c24_2))
    · have h := h c24_2
      refine a_aload_n (pc := 27) 0 15 rfl rfl ?_
      refine g_11_books (pc := 28) 0 16 rfl fl_X11_10 ?_
      refine a_aload_n (pc := 31) 0 17 rfl rfl ?_
      refine g_6_left (pc := 32) 0 18 rfl (by first | omega | assumption) fl_X11_170 ?_
      refine a_ineg (pc := 35) 0 19 rfl ?_
      have o4 := h
      refine a_callVv (pc := 36) 0 20 (c_X3_noteCentral (S := S1) (-(S1.1 kLoanLefts i1)) o4) rfl cv_X11_55 (by decide) rfl rfl rfl (rm rfl) ?_
      refine a_set (fun S5 eS5 => ?_)
      exact J39_7 _ (by exact ((if_pos c24_2).trans (lt_eq eS5)))
  · exact a_vret (pc := 18) 0 10 rfl rfl (hP _ (by unfold f_X11_missInterestOn; exact (lt_eq eS1).trans (if_neg c15_1)))
theorem c_X11_missInterestOn {S : Mem} (i1 : Nat) (hi1 : i1 < 21)  (h : ok_X11_missInterestOn S i1) : Cts mdX11_missInterestOn 2 44 [vr 11 0, vr 6 i1] S (Is none (f_X11_missInterestOn S i1)) := Cts.of dtX11_missInterestOn (by decide +kernel) rfl rfl (Nat.le_of_ble_eq_true rfl) rfl (fun O G => w_X11_missInterestOn i1 hi1 h (fun _ h9 => ⟨rfl, h9.symm⟩))
def b2_X11_takeInterest  (j1 : Nat) (σ2 : Mem) : Mem := lt (if 0 < (σ2.1 kLoanLefts (f_X7_at σ2 (nI j1))) then (lt (f_X11_share σ2 (σ2.1 kLoanLefts (f_X7_at σ2 (nI j1))) (σ2.1 kLoanRates (f_X7_at σ2 (nI j1))) (nI 1000)) (fun (v5 : Int32) => lt (f_X3_canPayOwner σ2 (f_X7_at σ2 (nI j1)) v5) (fun (v6 : Int32) => if v6 = 0 then (lt (f_X11_missInterestOn σ2 (f_X7_at σ2 (nI j1))) (fun (S9 : Mem) => S9)) else (lt (f_X11_takeInterestOn σ2 (f_X7_at σ2 (nI j1)) v5) (fun (S11 : Mem) => S11))))) else (σ2)) (fun (S12 : Mem) => S12)
def f_X11_takeInterest (S : Mem)  : Mem := lt (iter (b2_X11_takeInterest) S (ix (S.1 kLoans 0))) (fun (σ2 : Mem) => σ2)
def ok_X11_takeInterest (S : Mem)  : Prop := ((∀ j1 : Nat, j1 ≤ ix (S.1 kLoans 0) → ∀ σ2 : Mem, iter (b2_X11_takeInterest) S j1 = σ2 → σ2.1 kLoans 0 = nI (ix (S.1 kLoans 0))) ∧ (∀ j1 : Nat, j1 < ix (S.1 kLoans 0) → ∀ σ2 : Mem, iter (b2_X11_takeInterest) S j1 = σ2 → (((0 < (σ2.1 kLoanLefts (f_X7_at σ2 (nI j1)))) → ((∀ v5 : Int32, (f_X11_share σ2 (σ2.1 kLoanLefts (f_X7_at σ2 (nI j1))) (σ2.1 kLoanRates (f_X7_at σ2 (nI j1))) (nI 1000)) = v5 → ((∀ v6 : Int32, (f_X3_canPayOwner σ2 (f_X7_at σ2 (nI j1)) v5) = v6 → (((v6 = 0) → ((ok_X11_missInterestOn σ2 (f_X7_at σ2 (nI j1))))) ∧ ((¬ (v6 = 0)) → ((ok_X11_takeInterestOn σ2 (f_X7_at σ2 (nI j1)) v5))))))))))))
abbrev fdX11_takeInterest : FD := (mdX11_takeInterest, [], 4, 90, 0, 0)
set_option maxRecDepth 100000 in
set_option maxHeartbeats 4000000 in
theorem w_X11_takeInterest {O : Om} {G : Cx} {S : Mem} {PP : Option AV → Mem → Prop}    (h : ok_X11_takeInterest S ) (hP : ∀ S9, f_X11_takeInterest S  = S9 → PP none S9) : BW O G fdX11_takeInterest 0 0 (QV O G 0 0 PP) S 0 [some (vr 11 0), none, none, none] [] := by
  refine a_iconst (pc := 0) 0 0 (v := 0) rfl (by decide) ?_
  refine a_istore_n (pc := 1) 0 1 (ls2 := [some (vr 11 0), some (vi 0), none, none]) rfl rfl (by decide) rfl ?_
  obtain ⟨o3, hb_j1⟩ := h
  have nlt_j1 := ix_lt (S.1 kLoans 0)
  have L2_12 : ∀ (m_j1 j1 : Nat), j1 + m_j1 = ix (S.1 kLoans 0) → ∀ (σ2 : Mem), iter (b2_X11_takeInterest) S j1 = σ2 → BW O G fdX11_takeInterest 0 0 (QV O G 0 0 PP) σ2 2 [some (vr 11 0), some (vi (nI j1)), none, none] [] := by
    intro m_j1
    induction m_j1 with
    | zero =>
      intro j1 hj_j1 σ2 eσ2
      have o3 := o3 j1 (by omega) σ2 eσ2
      have hn_j1 : j1 = ix (S.1 kLoans 0) := by omega
      rw [hn_j1] at eσ2
      refine a_iload_n (pc := 2) 0 2 rfl rfl ?_
      refine a_aload_n (pc := 3) 0 3 rfl rfl ?_
      refine g_11_loans (pc := 4) 0 4 rfl fl_X11_26 ?_
      refine g_7_count (pc := 7) 0 5 rfl fl_X11_316 ?_
      refine a_icmp_ge_t (pc := 10) (tgt := 79) 0 6 rfl (by decide) (bd_t (o3) (by omega)) ?_
      exact a_vret (pc := 79) 0 39 rfl rfl (hP _ (by unfold f_X11_takeInterest; exact lt_eq eσ2))
    | succ m_j1 ih_j1 =>
      intro j1 hj_j1 σ2 eσ2
      have o3 := o3 j1 (by omega) σ2 eσ2
      have h := hb_j1 j1 (by omega) σ2 eσ2
      refine a_iload_n (pc := 2) 0 2 rfl rfl ?_
      refine a_aload_n (pc := 3) 0 3 rfl rfl ?_
      refine g_11_loans (pc := 4) 0 4 rfl fl_X11_26 ?_
      refine g_7_count (pc := 7) 0 5 rfl fl_X11_316 ?_
      refine a_icmp_ge_f (pc := 10) (tgt := 79) 0 6 rfl (bd_f (o3) (by omega)) (by decide) ?_
      refine a_aload_n (pc := 13) 0 7 rfl rfl ?_
      refine g_11_loans (pc := 14) 0 8 rfl fl_X11_26 ?_
      refine a_iload_n (pc := 17) 0 9 rfl rfl ?_
      refine a_callVr (pc := 18) 0 10 (c_X7_at (S := σ2) (nI j1)) rfl cv_X11_166 (by decide) rfl rfl rfl (rm rfl) ?_
      refine a_astore_n (pc := 21) 0 11 (ls2 := [some (vr 11 0), some (vi (nI j1)), some (vr 6 (f_X7_at σ2 (nI j1))), none]) rfl rfl (by decide) rfl ?_
      refine a_aload_n (pc := 22) 0 12 rfl rfl ?_
      refine g_6_left (pc := 23) 0 13 rfl (show f_X7_at σ2 (nI j1) < 21 from r_X7_at) fl_X11_170 ?_
      have J73_13 : ∀ (S12 : Mem) (eS12 : (if 0 < (σ2.1 kLoanLefts (f_X7_at σ2 (nI j1))) then (lt (f_X11_share σ2 (σ2.1 kLoanLefts (f_X7_at σ2 (nI j1))) (σ2.1 kLoanRates (f_X7_at σ2 (nI j1))) (nI 1000)) (fun (v5 : Int32) => lt (f_X3_canPayOwner σ2 (f_X7_at σ2 (nI j1)) v5) (fun (v6 : Int32) => if v6 = 0 then (lt (f_X11_missInterestOn σ2 (f_X7_at σ2 (nI j1))) (fun (S9 : Mem) => S9)) else (lt (f_X11_takeInterestOn σ2 (f_X7_at σ2 (nI j1)) v5) (fun (S11 : Mem) => S11))))) else (σ2)) = S12), BW O G fdX11_takeInterest 0 0 (QV O G 0 0 PP) S12 73 [some (vr 11 0), some (vi (nI j1)), some (vr 6 (f_X7_at σ2 (nI j1))), none] [] := by
        intro S12 eS12
        refine a_iinc (pc := 73) 0 37 (v := nI (j1 + 1)) (ls2 := [some (vr 11 0), some (vi (nI (j1 + 1))), some (vr 6 (f_X7_at σ2 (nI j1))), none]) rfl rfl (iinc1 _) (by decide) rfl ?_
        refine a_goto (pc := 76) (tgt := 2) 0 38 rfl (by decide) ?_
        refine a_drop (ls2 := [some (vr 11 0), some (vi (nI (j1 + 1))), none, none]) (⟨rfl, rfl, trivial⟩) ?_
        exact ih_j1 (j1 + 1) (by omega) S12 (by rw [iter_succ, eσ2]; unfold b2_X11_takeInterest; exact (lt_eq eS12))
      refine a_if_gt (pc := 26) (tgt := 32) 0 14 rfl (by decide) (fun c26_3 => ?_) (fun c26_3 => ?_)
      · have h := h c26_3
        refine a_aload_n (pc := 32) 0 16 rfl rfl ?_
        refine g_6_left (pc := 33) 0 17 rfl (show f_X7_at σ2 (nI j1) < 21 from r_X7_at) fl_X11_170 ?_
        refine a_aload_n (pc := 36) 0 18 rfl rfl ?_
        refine g_6_rate (pc := 37) 0 19 rfl (show f_X7_at σ2 (nI j1) < 21 from r_X7_at) fl_X11_382 ?_
        refine a_sipush (pc := 40) 0 20 (v := nI 1000) rfl (by decide) ?_
        refine a_callSi (pc := 43) 0 21 (c_X11_share (S := σ2) (σ2.1 kLoanLefts (f_X7_at σ2 (nI j1))) (σ2.1 kLoanRates (f_X7_at σ2 (nI j1))) (nI 1000)) rfl cs_X11_155 rfl (rm rfl) ?_
        refine a_seti (fun v5 ev5 => ?_)
        have h := h v5 ev5
        refine a_istore_n (pc := 46) 0 22 (ls2 := [some (vr 11 0), some (vi (nI j1)), some (vr 6 (f_X7_at σ2 (nI j1))), some (vi v5)]) rfl rfl (by decide) rfl ?_
        refine a_aload_n (pc := 47) 0 23 rfl rfl ?_
        refine g_11_books (pc := 48) 0 24 rfl fl_X11_10 ?_
        refine a_aload_n (pc := 51) 0 25 rfl rfl ?_
        refine a_iload_n (pc := 52) 0 26 rfl rfl ?_
        refine a_callVi (pc := 53) 0 27 (c_X3_canPayOwner (S := σ2) (f_X7_at σ2 (nI j1)) v5 (show f_X7_at σ2 (nI j1) < 21 from r_X7_at)) rfl cv_X11_175 (by decide) rfl rfl rfl (rm rfl) ?_
        refine a_seti (fun v6 ev6 => ?_)
        have h := h v6 ev6
        refine a_if_eq (pc := 56) (tgt := 68) 0 28 rfl (by decide) (fun c56_6 => ?_) (fun c56_6 => ?_)
        · have h := h.1 c56_6
          refine a_aload_n (pc := 68) 0 34 rfl rfl ?_
          refine a_aload_n (pc := 69) 0 35 rfl rfl ?_
          have o8 := h
          refine a_callVv (pc := 70) 0 36 (c_X11_missInterestOn (S := σ2) (f_X7_at σ2 (nI j1)) (show f_X7_at σ2 (nI j1) < 21 from r_X7_at) o8) rfl cv_X11_386 (by decide) rfl rfl rfl (rm rfl) ?_
          refine a_set (fun S9 eS9 => ?_)
          refine a_drop (ls2 := [some (vr 11 0), some (vi (nI j1)), some (vr 6 (f_X7_at σ2 (nI j1))), none]) (⟨rfl, rfl, rfl, trivial⟩) ?_
          exact J73_13 _ (by exact ((if_pos c26_3).trans ((lt_eq ev5).trans ((lt_eq ev6).trans ((if_pos c56_6).trans (lt_eq eS9))))))
        · have h := h.2 c56_6
          refine a_aload_n (pc := 59) 0 29 rfl rfl ?_
          refine a_aload_n (pc := 60) 0 30 rfl rfl ?_
          refine a_iload_n (pc := 61) 0 31 rfl rfl ?_
          have o10 := h
          refine a_callVv (pc := 62) 0 32 (c_X11_takeInterestOn (S := σ2) (f_X7_at σ2 (nI j1)) v5 (show f_X7_at σ2 (nI j1) < 21 from r_X7_at) o10) rfl cv_X11_383 (by decide) rfl rfl rfl (rm rfl) ?_
          refine a_set (fun S11 eS11 => ?_)
          refine a_goto (pc := 65) (tgt := 73) 0 33 rfl (by decide) ?_
          refine a_drop (ls2 := [some (vr 11 0), some (vi (nI j1)), some (vr 6 (f_X7_at σ2 (nI j1))), none]) (⟨rfl, rfl, rfl, trivial⟩) ?_
          exact J73_13 _ (by exact ((if_pos c26_3).trans ((lt_eq ev5).trans ((lt_eq ev6).trans ((if_neg c56_6).trans (lt_eq eS11))))))
      · refine a_goto (pc := 29) (tgt := 73) 0 15 rfl (by decide) ?_
        exact J73_13 _ (by exact (if_neg c26_3))
  exact L2_12 (ix (S.1 kLoans 0)) 0 (by omega) S rfl
theorem c_X11_takeInterest {S : Mem}    (h : ok_X11_takeInterest S ) : Cts mdX11_takeInterest 4 90 [vr 11 0] S (Is none (f_X11_takeInterest S )) := Cts.of dtX11_takeInterest (by decide +kernel) rfl rfl (Nat.le_of_ble_eq_true rfl) rfl (fun O G => w_X11_takeInterest  h (fun _ h9 => ⟨rfl, h9.symm⟩))
def b2_X11_takeInterestOfBanks  (j1 : Nat) (σ2 : Mem) : Mem := lt (f_X11_share σ2 (σ2.1 kLent (f_X3_bank σ2 (nI j1))) (σ2.1 kRate 0) (nI 1000)) (fun (v3 : Int32) => lt (if (σ2.1 kReserves (f_X3_bank σ2 (nI j1))) < v3 then (σ2.1 kReserves (f_X3_bank σ2 (nI j1))) else v3) (fun (v4 : Int32) => lt ((upd2 σ2.1 kReserves (f_X3_bank σ2 (nI j1)) ((σ2.1 kReserves (f_X3_bank σ2 (nI j1))) - v4), σ2.2)) (fun (S5 : Mem) => lt ((upd2 S5.1 kLent (f_X3_bank σ2 (nI j1)) ((S5.1 kLent (f_X3_bank σ2 (nI j1))) + (v3 - v4)), S5.2)) (fun (S6 : Mem) => lt (f_X3_noteCentral S6 v3) (fun (S8 : Mem) => S8)))))
def f_X11_takeInterestOfBanks (S : Mem)  : Mem := lt (iter (b2_X11_takeInterestOfBanks) S (4)) (fun (σ2 : Mem) => σ2)
def ok_X11_takeInterestOfBanks (S : Mem)  : Prop := ((∀ j1 : Nat, j1 < 4 → ∀ σ2 : Mem, iter (b2_X11_takeInterestOfBanks) S j1 = σ2 → ((∀ v3 : Int32, (f_X11_share σ2 (σ2.1 kLent (f_X3_bank σ2 (nI j1))) (σ2.1 kRate 0) (nI 1000)) = v3 → ((∀ v4 : Int32, (if (σ2.1 kReserves (f_X3_bank σ2 (nI j1))) < v3 then (σ2.1 kReserves (f_X3_bank σ2 (nI j1))) else v3) = v4 → ((∀ S5 : Mem, ((upd2 σ2.1 kReserves (f_X3_bank σ2 (nI j1)) ((σ2.1 kReserves (f_X3_bank σ2 (nI j1))) - v4), σ2.2)) = S5 → ((∀ S6 : Mem, ((upd2 S5.1 kLent (f_X3_bank σ2 (nI j1)) ((S5.1 kLent (f_X3_bank σ2 (nI j1))) + (v3 - v4)), S5.2)) = S6 → ((ok_X3_noteCentral S6 v3))))))))))))
abbrev fdX11_takeInterestOfBanks : FD := (mdX11_takeInterestOfBanks, [], 2, 44, 0, 0)
set_option maxRecDepth 100000 in
set_option maxHeartbeats 4000000 in
theorem w_X11_takeInterestOfBanks {O : Om} {G : Cx} {S : Mem} {PP : Option AV → Mem → Prop}    (h : ok_X11_takeInterestOfBanks S ) (hP : ∀ S9, f_X11_takeInterestOfBanks S  = S9 → PP none S9) : BW O G fdX11_takeInterestOfBanks 0 0 (QV O G 0 0 PP) S 0 [some (vr 11 0), none, none, none, none] [] := by
  refine a_iconst (pc := 0) 0 0 (v := 0) rfl (by decide) ?_
  refine a_istore_n (pc := 1) 0 1 (ls2 := [some (vr 11 0), some (vi 0), none, none, none]) rfl rfl (by decide) rfl ?_
  have hb_j1 := h
  have L2_8 : ∀ (m_j1 j1 : Nat), j1 + m_j1 = 4 → ∀ (σ2 : Mem), iter (b2_X11_takeInterestOfBanks) S j1 = σ2 → BW O G fdX11_takeInterestOfBanks 0 0 (QV O G 0 0 PP) σ2 2 [some (vr 11 0), some (vi (nI j1)), none, none, none] [] := by
    intro m_j1
    induction m_j1 with
    | zero =>
      intro j1 hj_j1 σ2 eσ2
      have hn_j1 : j1 = 4 := by omega
      rw [hn_j1] at eσ2
      refine a_iload_n (pc := 2) 0 2 rfl rfl ?_
      refine a_iconst (pc := 3) 0 3 (v := nI 4) rfl (by decide) ?_
      refine a_icmp_ge_t (pc := 4) (tgt := 85) 0 4 rfl (by decide) (nI_le (by omega) (by omega)) ?_
      exact a_vret (pc := 85) 0 44 rfl rfl (hP _ (by unfold f_X11_takeInterestOfBanks; exact lt_eq eσ2))
    | succ m_j1 ih_j1 =>
      intro j1 hj_j1 σ2 eσ2
      have h := hb_j1 j1 (by omega) σ2 eσ2
      refine a_iload_n (pc := 2) 0 2 rfl rfl ?_
      refine a_iconst (pc := 3) 0 3 (v := nI 4) rfl (by decide) ?_
      refine a_icmp_ge_f (pc := 4) (tgt := 85) 0 4 rfl (nI_ge (by omega) (by omega)) (by decide) ?_
      refine a_aload_n (pc := 7) 0 5 rfl rfl ?_
      refine g_11_books (pc := 8) 0 6 rfl fl_X11_10 ?_
      refine a_iload_n (pc := 11) 0 7 rfl rfl ?_
      refine a_callVr (pc := 12) 0 8 (c_X3_bank (S := σ2) (nI j1)) rfl cv_X11_79 (by decide) rfl rfl rfl (rm rfl) ?_
      refine a_astore_n (pc := 15) 0 9 (ls2 := [some (vr 11 0), some (vi (nI j1)), some (vr 0 (f_X3_bank σ2 (nI j1))), none, none]) rfl rfl (by decide) rfl ?_
      refine a_aload_n (pc := 16) 0 10 rfl rfl ?_
      refine g_0_lent (pc := 17) 0 11 rfl (show f_X3_bank σ2 (nI j1) < 5 from r_X3_bank) fl_X11_189 ?_
      refine a_aload_n (pc := 20) 0 12 rfl rfl ?_
      refine g_11_books (pc := 21) 0 13 rfl fl_X11_10 ?_
      refine g_3_central (pc := 24) 0 14 rfl fl_X11_146 ?_
      refine g_4_rate (pc := 27) 0 15 rfl fl_X11_192 ?_
      refine a_sipush (pc := 30) 0 16 (v := nI 1000) rfl (by decide) ?_
      refine a_callSi (pc := 33) 0 17 (c_X11_share (S := σ2) (σ2.1 kLent (f_X3_bank σ2 (nI j1))) (σ2.1 kRate 0) (nI 1000)) rfl cs_X11_155 rfl (rm rfl) ?_
      refine a_seti (fun v3 ev3 => ?_)
      have h := h v3 ev3
      refine a_istore_n (pc := 36) 0 18 (ls2 := [some (vr 11 0), some (vi (nI j1)), some (vr 0 (f_X3_bank σ2 (nI j1))), some (vi v3), none]) rfl rfl (by decide) rfl ?_
      refine a_iload_n (pc := 37) 0 19 rfl rfl ?_
      refine a_aload_n (pc := 38) 0 20 rfl rfl ?_
      refine g_0_reserves (pc := 39) 0 21 rfl (show f_X3_bank σ2 (nI j1) < 5 from r_X3_bank) fl_X11_133 ?_
      refine a_mmin (pc := 42) 0 22 rfl mm_X11_332 (mm rfl) ?_
      refine a_seti (fun v4 ev4 => ?_)
      have h := h v4 ev4
      refine a_istore (pc := 45) 0 23 (ls2 := [some (vr 11 0), some (vi (nI j1)), some (vr 0 (f_X3_bank σ2 (nI j1))), some (vi v3), some (vi v4)]) rfl (by decide) rfl ?_
      refine a_aload_n (pc := 47) 0 24 rfl rfl ?_
      refine a_dup (pc := 48) 0 25 rfl rfl ?_
      refine g_0_reserves (pc := 49) 0 26 rfl (show f_X3_bank σ2 (nI j1) < 5 from r_X3_bank) fl_X11_133 ?_
      refine a_iload (pc := 52) 0 27 rfl rfl ?_
      refine a_isub (pc := 54) 0 28 rfl ?_
      refine p_0_reserves (pc := 55) 0 29 rfl (show f_X3_bank σ2 (nI j1) < 5 from r_X3_bank) fl_X11_133 ?_
      refine a_set (fun S5 eS5 => ?_)
      have h := h S5 eS5
      refine a_aload_n (pc := 58) 0 30 rfl rfl ?_
      refine a_dup (pc := 59) 0 31 rfl rfl ?_
      refine g_0_lent (pc := 60) 0 32 rfl (show f_X3_bank σ2 (nI j1) < 5 from r_X3_bank) fl_X11_189 ?_
      refine a_iload_n (pc := 63) 0 33 rfl rfl ?_
      refine a_iload (pc := 64) 0 34 rfl rfl ?_
      refine a_isub (pc := 66) 0 35 rfl ?_
      refine a_iadd (pc := 67) 0 36 rfl ?_
      refine p_0_lent (pc := 68) 0 37 rfl (show f_X3_bank σ2 (nI j1) < 5 from r_X3_bank) fl_X11_189 ?_
      refine a_set (fun S6 eS6 => ?_)
      have h := h S6 eS6
      refine a_aload_n (pc := 71) 0 38 rfl rfl ?_
      refine g_11_books (pc := 72) 0 39 rfl fl_X11_10 ?_
      refine a_iload_n (pc := 75) 0 40 rfl rfl ?_
      have o7 := h
      refine a_callVv (pc := 76) 0 41 (c_X3_noteCentral (S := S6) v3 o7) rfl cv_X11_55 (by decide) rfl rfl rfl (rm rfl) ?_
      refine a_set (fun S8 eS8 => ?_)
      refine a_iinc (pc := 79) 0 42 (v := nI (j1 + 1)) (ls2 := [some (vr 11 0), some (vi (nI (j1 + 1))), some (vr 0 (f_X3_bank σ2 (nI j1))), some (vi v3), some (vi v4)]) rfl rfl (iinc1 _) (by decide) rfl ?_
      refine a_goto (pc := 82) (tgt := 2) 0 43 rfl (by decide) ?_
      refine a_drop (ls2 := [some (vr 11 0), some (vi (nI (j1 + 1))), none, none, none]) (⟨rfl, rfl, trivial⟩) ?_
      exact ih_j1 (j1 + 1) (by omega) S8 (by rw [iter_succ, eσ2]; unfold b2_X11_takeInterestOfBanks; exact ((lt_eq ev3).trans ((lt_eq ev4).trans ((lt_eq eS5).trans ((lt_eq eS6).trans (lt_eq eS8))))))
  exact L2_8 (4) 0 (by omega) S rfl
theorem c_X11_takeInterestOfBanks {S : Mem}    (h : ok_X11_takeInterestOfBanks S ) : Cts mdX11_takeInterestOfBanks 2 44 [vr 11 0] S (Is none (f_X11_takeInterestOfBanks S )) := Cts.of dtX11_takeInterestOfBanks (by decide +kernel) rfl rfl (Nat.le_of_ble_eq_true rfl) rfl (fun O G => w_X11_takeInterestOfBanks  h (fun _ h9 => ⟨rfl, h9.symm⟩))
def b2_X11_askForReserves  (j1 : Nat) (σ2 : Mem) : Mem := lt (f_X3_inAccountsAt σ2 (nI j1)) (fun (v3 : Int32) => lt (f_X11_percentRoundedUp σ2 v3 (σ2.1 kReserveRule 0)) (fun (v4 : Int32) => lt (f_X11_roomAtWindow σ2 (nI j1)) (fun (v6 : Int32) => lt (if v6 < ((v4 - (σ2.1 kReserves (f_X3_bank σ2 (nI j1)))) - (σ2.1 kVaults (f_X3_bank σ2 (nI j1)))) then v6 else ((v4 - (σ2.1 kReserves (f_X3_bank σ2 (nI j1)))) - (σ2.1 kVaults (f_X3_bank σ2 (nI j1))))) (fun (v7 : Int32) => lt (if 0 < v7 then v7 else 0) (fun (v8 : Int32) => lt (f_X0_borrow σ2 (f_X3_bank σ2 (nI j1)) v8) (fun (S9 : Mem) => lt (if ((v4 - (σ2.1 kReserves (f_X3_bank σ2 (nI j1)))) - (σ2.1 kVaults (f_X3_bank σ2 (nI j1)))) ≤ v8 then (0) else (1)) (fun (v11 : Int32) => lt ((upd2 S9.1 kAreShort (f_X3_bank σ2 (nI j1)) v11, S9.2)) (fun (S12 : Mem) => S12))))))))
def f_X11_askForReserves (S : Mem)  : Mem := lt (iter (b2_X11_askForReserves) S (4)) (fun (σ2 : Mem) => σ2)
def ok_X11_askForReserves (S : Mem)  : Prop := ((∀ j1 : Nat, j1 < 4 → ∀ σ2 : Mem, iter (b2_X11_askForReserves) S j1 = σ2 → ((∀ v3 : Int32, (f_X3_inAccountsAt σ2 (nI j1)) = v3 → ((∀ v4 : Int32, (f_X11_percentRoundedUp σ2 v3 (σ2.1 kReserveRule 0)) = v4 → ((ok_X11_roomAtWindow σ2 (nI j1)))))))))
abbrev fdX11_askForReserves : FD := (mdX11_askForReserves, [], 3, 67, 0, 0)
set_option maxRecDepth 100000 in
set_option maxHeartbeats 4000000 in
theorem w_X11_askForReserves {O : Om} {G : Cx} {S : Mem} {PP : Option AV → Mem → Prop}    (h : ok_X11_askForReserves S ) (hP : ∀ S9, f_X11_askForReserves S  = S9 → PP none S9) : BW O G fdX11_askForReserves 0 0 (QV O G 0 0 PP) S 0 [some (vr 11 0), none, none, none, none, none] [] := by
  refine a_iconst (pc := 0) 0 0 (v := 0) rfl (by decide) ?_
  refine a_istore_n (pc := 1) 0 1 (ls2 := [some (vr 11 0), some (vi 0), none, none, none, none]) rfl rfl (by decide) rfl ?_
  have hb_j1 := h
  have L2_12 : ∀ (m_j1 j1 : Nat), j1 + m_j1 = 4 → ∀ (σ2 : Mem), iter (b2_X11_askForReserves) S j1 = σ2 → BW O G fdX11_askForReserves 0 0 (QV O G 0 0 PP) σ2 2 [some (vr 11 0), some (vi (nI j1)), none, none, none, none] [] := by
    intro m_j1
    induction m_j1 with
    | zero =>
      intro j1 hj_j1 σ2 eσ2
      have hn_j1 : j1 = 4 := by omega
      rw [hn_j1] at eσ2
      refine a_iload_n (pc := 2) 0 2 rfl rfl ?_
      refine a_iconst (pc := 3) 0 3 (v := nI 4) rfl (by decide) ?_
      refine a_icmp_ge_t (pc := 4) (tgt := 95) 0 4 rfl (by decide) (nI_le (by omega) (by omega)) ?_
      exact a_vret (pc := 95) 1 1 rfl rfl (hP _ (by unfold f_X11_askForReserves; exact lt_eq eσ2))
    | succ m_j1 ih_j1 =>
      intro j1 hj_j1 σ2 eσ2
      have h := hb_j1 j1 (by omega) σ2 eσ2
      refine a_iload_n (pc := 2) 0 2 rfl rfl ?_
      refine a_iconst (pc := 3) 0 3 (v := nI 4) rfl (by decide) ?_
      refine a_icmp_ge_f (pc := 4) (tgt := 95) 0 4 rfl (nI_ge (by omega) (by omega)) (by decide) ?_
      refine a_aload_n (pc := 7) 0 5 rfl rfl ?_
      refine g_11_books (pc := 8) 0 6 rfl fl_X11_10 ?_
      refine a_iload_n (pc := 11) 0 7 rfl rfl ?_
      refine a_callVr (pc := 12) 0 8 (c_X3_bank (S := σ2) (nI j1)) rfl cv_X11_79 (by decide) rfl rfl rfl (rm rfl) ?_
      refine a_astore_n (pc := 15) 0 9 (ls2 := [some (vr 11 0), some (vi (nI j1)), some (vr 0 (f_X3_bank σ2 (nI j1))), none, none, none]) rfl rfl (by decide) rfl ?_
      refine a_aload_n (pc := 16) 0 10 rfl rfl ?_
      refine g_11_books (pc := 17) 0 11 rfl fl_X11_10 ?_
      refine a_iload_n (pc := 20) 0 12 rfl rfl ?_
      refine a_callVi (pc := 21) 0 13 (c_X3_inAccountsAt (S := σ2) (nI j1)) rfl cv_X11_271 (by decide) rfl rfl rfl (rm rfl) ?_
      refine a_seti (fun v3 ev3 => ?_)
      have h := h v3 ev3
      refine a_aload_n (pc := 24) 0 14 rfl rfl ?_
      refine g_11_books (pc := 25) 0 15 rfl fl_X11_10 ?_
      refine g_3_central (pc := 28) 0 16 rfl fl_X11_146 ?_
      refine g_4_reserveRule (pc := 31) 0 17 rfl fl_X11_195 ?_
      refine a_callSi (pc := 34) 0 18 (c_X11_percentRoundedUp (S := σ2) v3 (σ2.1 kReserveRule 0)) rfl cs_X11_390 rfl (rm rfl) ?_
      refine a_seti (fun v4 ev4 => ?_)
      have h := h v4 ev4
      refine a_istore_n (pc := 37) 0 19 (ls2 := [some (vr 11 0), some (vi (nI j1)), some (vr 0 (f_X3_bank σ2 (nI j1))), some (vi v4), none, none]) rfl rfl (by decide) rfl ?_
      refine a_iload_n (pc := 38) 0 20 rfl rfl ?_
      refine a_aload_n (pc := 39) 0 21 rfl rfl ?_
      refine g_0_reserves (pc := 40) 0 22 rfl (show f_X3_bank σ2 (nI j1) < 5 from r_X3_bank) fl_X11_133 ?_
      refine a_isub (pc := 43) 0 23 rfl ?_
      refine a_aload_n (pc := 44) 0 24 rfl rfl ?_
      refine g_0_vault (pc := 45) 0 25 rfl (show f_X3_bank σ2 (nI j1) < 5 from r_X3_bank) fl_X11_98 ?_
      refine a_isub (pc := 48) 0 26 rfl ?_
      refine a_istore (pc := 49) 0 27 (ls2 := [some (vr 11 0), some (vi (nI j1)), some (vr 0 (f_X3_bank σ2 (nI j1))), some (vi v4), some (vi ((v4 - (σ2.1 kReserves (f_X3_bank σ2 (nI j1)))) - (σ2.1 kVaults (f_X3_bank σ2 (nI j1))))), none]) rfl (by decide) rfl ?_
      refine a_iconst (pc := 51) 0 28 (v := 0) rfl (by decide) ?_
      refine a_iload (pc := 52) 0 29 rfl rfl ?_
      refine a_aload_n (pc := 54) 0 30 rfl rfl ?_
      refine a_iload_n (pc := 55) 0 31 rfl rfl ?_
      have o5 := h
      refine a_callVi (pc := 56) 0 32 (c_X11_roomAtWindow (S := σ2) (nI j1) o5) rfl cv_X11_183 (by decide) rfl rfl rfl (rm rfl) ?_
      refine a_seti (fun v6 ev6 => ?_)
      refine a_mmin (pc := 59) 0 33 rfl mm_X11_332 (mm rfl) ?_
      refine a_seti (fun v7 ev7 => ?_)
      refine a_mmax (pc := 62) 0 34 rfl mm_X11_393 (mm rfl) ?_
      refine a_seti (fun v8 ev8 => ?_)
      refine a_istore (pc := 65) 0 35 (ls2 := [some (vr 11 0), some (vi (nI j1)), some (vr 0 (f_X3_bank σ2 (nI j1))), some (vi v4), some (vi ((v4 - (σ2.1 kReserves (f_X3_bank σ2 (nI j1)))) - (σ2.1 kVaults (f_X3_bank σ2 (nI j1))))), some (vi v8)]) rfl (by decide) rfl ?_
      refine a_aload_n (pc := 67) 0 36 rfl rfl ?_
      refine a_iload (pc := 68) 0 37 rfl rfl ?_
      refine a_callVv (pc := 70) 0 38 (c_X0_borrow (S := σ2) (f_X3_bank σ2 (nI j1)) v8 (show f_X3_bank σ2 (nI j1) < 5 from r_X3_bank)) rfl cv_X11_186 (show f_X3_bank σ2 (nI j1) < 5 from r_X3_bank) rfl rfl rfl (rm rfl) ?_
      refine a_set (fun S9 eS9 => ?_)
      refine a_aload_n (pc := 73) 0 39 rfl rfl ?_
      refine a_iload (pc := 74) 0 40 rfl rfl ?_
      refine a_iload (pc := 76) 0 41 rfl rfl ?_
      have J86_13 : ∀ (v11 : Int32) (ev11 : (if ((v4 - (σ2.1 kReserves (f_X3_bank σ2 (nI j1)))) - (σ2.1 kVaults (f_X3_bank σ2 (nI j1)))) ≤ v8 then (0) else (1)) = v11), BW O G fdX11_askForReserves 0 0 (QV O G 0 0 PP) S9 86 [some (vr 11 0), some (vi (nI j1)), some (vr 0 (f_X3_bank σ2 (nI j1))), some (vi v4), some (vi ((v4 - (σ2.1 kReserves (f_X3_bank σ2 (nI j1)))) - (σ2.1 kVaults (f_X3_bank σ2 (nI j1))))), some (vi v8)] [vi v11, vr 0 (f_X3_bank σ2 (nI j1))] := by
        intro v11 ev11
        refine p_0_isShort (pc := 86) 0 46 rfl (show f_X3_bank σ2 (nI j1) < 5 from r_X3_bank) fl_X11_277 (by rw [← ev11]; repeat (first | exact Or.inl rfl | exact Or.inr rfl | assumption | split | dsimp only [lt])) ?_
        refine a_set (fun S12 eS12 => ?_)
        refine a_iinc (pc := 89) 0 47 (v := nI (j1 + 1)) (ls2 := [some (vr 11 0), some (vi (nI (j1 + 1))), some (vr 0 (f_X3_bank σ2 (nI j1))), some (vi v4), some (vi ((v4 - (σ2.1 kReserves (f_X3_bank σ2 (nI j1)))) - (σ2.1 kVaults (f_X3_bank σ2 (nI j1))))), some (vi v8)]) rfl rfl (iinc1 _) (by decide) rfl ?_
        refine a_goto (pc := 92) (tgt := 2) 1 0 rfl (by decide) ?_
        refine a_drop (ls2 := [some (vr 11 0), some (vi (nI (j1 + 1))), none, none, none, none]) (⟨rfl, rfl, trivial⟩) ?_
        exact ih_j1 (j1 + 1) (by omega) S12 (by rw [iter_succ, eσ2]; unfold b2_X11_askForReserves; exact ((lt_eq ev3).trans ((lt_eq ev4).trans ((lt_eq ev6).trans ((lt_eq ev7).trans ((lt_eq ev8).trans ((lt_eq eS9).trans ((lt_eq ev11).trans (lt_eq eS12)))))))))
      refine a_icmp_le (pc := 78) (tgt := 85) 0 42 rfl (by decide) (fun c78_9 => ?_) (fun c78_9 => ?_)
      · refine a_iconst (pc := 85) 0 45 (v := 0) rfl (by decide) ?_
        exact J86_13 _ (by exact (if_pos c78_9))
      · refine a_iconst (pc := 81) 0 43 (v := 1) rfl (by decide) ?_
        refine a_goto (pc := 82) (tgt := 86) 0 44 rfl (by decide) ?_
        exact J86_13 _ (by exact (if_neg c78_9))
  exact L2_12 (4) 0 (by omega) S rfl
theorem c_X11_askForReserves {S : Mem}    (h : ok_X11_askForReserves S ) : Cts mdX11_askForReserves 3 67 [vr 11 0] S (Is none (f_X11_askForReserves S )) := Cts.of dtX11_askForReserves (by decide +kernel) rfl rfl (Nat.le_of_ble_eq_true rfl) rfl (fun O G => w_X11_askForReserves  h (fun _ h9 => ⟨rfl, h9.symm⟩))
def f_X11_hasDrawn (S : Mem) (p1 : Int32) (p2 : Int32) : Int32 := lt (if p1 < 0 then (0) else (if (nI 10) ≤ p1 then (0) else (lt (f_X5_hasDrawnSince S (f_X3_holder S p1) p2 ((S.1 kDays 0) - 1)) (fun (v3 : Int32) => if v3 = 0 then (0) else (1))))) (fun (v5 : Int32) => v5)
abbrev fdX11_hasDrawn : FD := (mdX11_hasDrawn, [], 1, 22, 0, 0)
set_option maxRecDepth 100000 in
set_option maxHeartbeats 4000000 in
theorem w_X11_hasDrawn {O : Om} {G : Cx} {S : Mem} {PP : Option AV → Mem → Prop} (p1 : Int32) (p2 : Int32)   (hP : ∀ x9, f_X11_hasDrawn S p1 p2 = x9 → PP (some (vi x9)) S) : BW O G fdX11_hasDrawn 0 0 (QV O G 0 0 PP) S 0 [some (vr 11 0), some (vi p1), some (vi p2)] [] := by
  refine a_iload_n (pc := 0) 0 0 rfl rfl ?_
  have J36_5 : ∀ (v5 : Int32) (ev5 : (if p1 < 0 then (0) else (if (nI 10) ≤ p1 then (0) else (lt (f_X5_hasDrawnSince S (f_X3_holder S p1) p2 ((S.1 kDays 0) - 1)) (fun (v3 : Int32) => if v3 = 0 then (0) else (1))))) = v5), BW O G fdX11_hasDrawn 0 0 (QV O G 0 0 PP) S 36 [some (vr 11 0), some (vi p1), some (vi p2)] [vi v5] := by
    intro v5 ev5
    exact a_zret (pc := 36) 0 19 rfl (nar_b (by rw [← ev5]; repeat (first | exact Or.inl rfl | exact Or.inr rfl | assumption | split | dsimp only [lt]))) rfl (hP _ (by unfold f_X11_hasDrawn; exact lt_eq ev5))
  refine a_if_lt (pc := 1) (tgt := 35) 0 1 rfl (by decide) (fun c1_0 => ?_) (fun c1_0 => ?_)
  · refine a_iconst (pc := 35) 0 18 (v := 0) rfl (by decide) ?_
    exact J36_5 _ (by exact (if_pos c1_0))
  · refine a_iload_n (pc := 4) 0 2 rfl rfl ?_
    refine a_bipush (pc := 5) 0 3 (v := nI 10) rfl (by decide) ?_
    refine a_icmp_ge (pc := 7) (tgt := 35) 0 4 rfl (by decide) (fun c7_1 => ?_) (fun c7_1 => ?_)
    · refine a_iconst (pc := 35) 0 18 (v := 0) rfl (by decide) ?_
      exact J36_5 _ (by exact ((if_neg c1_0).trans (if_pos c7_1)))
    · refine a_aload_n (pc := 10) 0 5 rfl rfl ?_
      refine g_11_books (pc := 11) 0 6 rfl fl_X11_10 ?_
      refine a_iload_n (pc := 14) 0 7 rfl rfl ?_
      refine a_callVr (pc := 15) 0 8 (c_X3_holder (S := S) p1) rfl cv_X11_45 (by decide) rfl rfl rfl (rm rfl) ?_
      refine a_iload_n (pc := 18) 0 9 rfl rfl ?_
      refine a_aload_n (pc := 19) 0 10 rfl rfl ?_
      refine g_11_today (pc := 20) 0 11 rfl fl_X11_119 ?_
      refine a_iconst (pc := 23) 0 12 (v := 1) rfl (by decide) ?_
      refine a_isub (pc := 24) 0 13 rfl ?_
      refine a_callVi (pc := 25) 0 14 (c_X5_hasDrawnSince (S := S) (f_X3_holder S p1) p2 ((S.1 kDays 0) - 1) (show f_X3_holder S p1 < 17 from r_X3_holder)) rfl cv_X11_403 (show f_X3_holder S p1 < 17 from r_X3_holder) rfl rfl rfl (rm rfl) ?_
      refine a_seti (fun v3 ev3 => ?_)
      refine a_if_eq (pc := 28) (tgt := 35) 0 15 rfl (by decide) (fun c28_3 => ?_) (fun c28_3 => ?_)
      · refine a_iconst (pc := 35) 0 18 (v := 0) rfl (by decide) ?_
        exact J36_5 _ (by exact ((if_neg c1_0).trans ((if_neg c7_1).trans ((lt_eq ev3).trans (if_pos c28_3)))))
      · refine a_iconst (pc := 31) 0 16 (v := 1) rfl (by decide) ?_
        refine a_goto (pc := 32) (tgt := 36) 0 17 rfl (by decide) ?_
        exact J36_5 _ (by exact ((if_neg c1_0).trans ((if_neg c7_1).trans ((lt_eq ev3).trans (if_neg c28_3)))))
theorem c_X11_hasDrawn {S : Mem} (p1 : Int32) (p2 : Int32)   : Cts mdX11_hasDrawn 1 22 [vr 11 0, vi p1, vi p2] S (Is (some (vi (f_X11_hasDrawn S p1 p2))) (S)) := Cts.of dtX11_hasDrawn (by decide +kernel) rfl rfl (Nat.le_of_ble_eq_true rfl) rfl (fun O G => w_X11_hasDrawn p1 p2 (fun _ h9 => ⟨by rw [h9], rfl⟩))
theorem b_X11_hasDrawn (S : Mem) (p1 : Int32) (p2 : Int32) : f_X11_hasDrawn S p1 p2 = 0 ∨ f_X11_hasDrawn S p1 p2 = 1 := by
  unfold f_X11_hasDrawn
  try dsimp only [lt]
  repeat (first | exact Or.inl rfl | exact Or.inr rfl | exact b_X5_hasDrawnSince .. | split | dsimp only [lt])
def f_X11_isAfraid (S : Mem) (p1 : Int32) (p2 : Int32) : Int32 := lt (if (S.1 kAreShort (f_X3_bank S p2)) = 0 then (lt (f_X11_hasDrawn S (p1 - 1) p2) (fun (v2 : Int32) => if v2 = 0 then (lt (f_X11_hasDrawn S (p1 + 1) p2) (fun (v4 : Int32) => if v4 = 0 then (0) else (1))) else (1))) else (1)) (fun (v6 : Int32) => v6)
abbrev fdX11_isAfraid : FD := (mdX11_isAfraid, [], 2, 44, 0, 0)
set_option maxRecDepth 100000 in
set_option maxHeartbeats 4000000 in
theorem w_X11_isAfraid {O : Om} {G : Cx} {S : Mem} {PP : Option AV → Mem → Prop} (p1 : Int32) (p2 : Int32)   (hP : ∀ x9, f_X11_isAfraid S p1 p2 = x9 → PP (some (vi x9)) S) : BW O G fdX11_isAfraid 0 0 (QV O G 0 0 PP) S 0 [some (vr 11 0), some (vi p1), some (vi p2)] [] := by
  refine a_aload_n (pc := 0) 0 0 rfl rfl ?_
  refine g_11_books (pc := 1) 0 1 rfl fl_X11_10 ?_
  refine a_iload_n (pc := 4) 0 2 rfl rfl ?_
  refine a_callVr (pc := 5) 0 3 (c_X3_bank (S := S) p2) rfl cv_X11_79 (by decide) rfl rfl rfl (rm rfl) ?_
  refine g_0_isShort (pc := 8) 0 4 rfl (show f_X3_bank S p2 < 5 from r_X3_bank) fl_X11_277 ?_
  have J41_6 : ∀ (v6 : Int32) (ev6 : (if (S.1 kAreShort (f_X3_bank S p2)) = 0 then (lt (f_X11_hasDrawn S (p1 - 1) p2) (fun (v2 : Int32) => if v2 = 0 then (lt (f_X11_hasDrawn S (p1 + 1) p2) (fun (v4 : Int32) => if v4 = 0 then (0) else (1))) else (1))) else (1)) = v6), BW O G fdX11_isAfraid 0 0 (QV O G 0 0 PP) S 41 [some (vr 11 0), some (vi p1), some (vi p2)] [vi v6] := by
    intro v6 ev6
    exact a_zret (pc := 41) 0 23 rfl (nar_b (by rw [← ev6]; repeat (first | exact Or.inl rfl | exact Or.inr rfl | assumption | split | dsimp only [lt]))) rfl (hP _ (by unfold f_X11_isAfraid; exact lt_eq ev6))
  refine a_if_ne (pc := 11) (tgt := 36) 0 5 rfl (by decide) (fun c11_0 => ?_) (fun c11_0 => ?_)
  · refine a_iconst (pc := 36) 0 20 (v := 1) rfl (by decide) ?_
    refine a_goto (pc := 37) (tgt := 41) 0 21 rfl (by decide) ?_
    exact J41_6 _ (by exact (if_neg c11_0))
  · refine a_aload_n (pc := 14) 0 6 rfl rfl ?_
    refine a_iload_n (pc := 15) 0 7 rfl rfl ?_
    refine a_iconst (pc := 16) 0 8 (v := 1) rfl (by decide) ?_
    refine a_isub (pc := 17) 0 9 rfl ?_
    refine a_iload_n (pc := 18) 0 10 rfl rfl ?_
    refine a_callVi (pc := 19) 0 11 (c_X11_hasDrawn (S := S) (p1 - 1) p2) rfl cv_X11_400 (by decide) rfl rfl rfl (rm rfl) ?_
    refine a_seti (fun v2 ev2 => ?_)
    refine a_if_ne (pc := 22) (tgt := 36) 0 12 rfl (by decide) (fun c22_2 => ?_) (fun c22_2 => ?_)
    · refine a_iconst (pc := 36) 0 20 (v := 1) rfl (by decide) ?_
      refine a_goto (pc := 37) (tgt := 41) 0 21 rfl (by decide) ?_
      exact J41_6 _ (by exact ((if_pos c11_0).trans ((lt_eq ev2).trans (if_neg c22_2))))
    · refine a_aload_n (pc := 25) 0 13 rfl rfl ?_
      refine a_iload_n (pc := 26) 0 14 rfl rfl ?_
      refine a_iconst (pc := 27) 0 15 (v := 1) rfl (by decide) ?_
      refine a_iadd (pc := 28) 0 16 rfl ?_
      refine a_iload_n (pc := 29) 0 17 rfl rfl ?_
      refine a_callVi (pc := 30) 0 18 (c_X11_hasDrawn (S := S) (p1 + 1) p2) rfl cv_X11_400 (by decide) rfl rfl rfl (rm rfl) ?_
      refine a_seti (fun v4 ev4 => ?_)
      refine a_if_eq (pc := 33) (tgt := 40) 0 19 rfl (by decide) (fun c33_4 => ?_) (fun c33_4 => ?_)
      · refine a_iconst (pc := 40) 0 22 (v := 0) rfl (by decide) ?_
        exact J41_6 _ (by exact ((if_pos c11_0).trans ((lt_eq ev2).trans ((if_pos c22_2).trans ((lt_eq ev4).trans (if_pos c33_4))))))
      · refine a_iconst (pc := 36) 0 20 (v := 1) rfl (by decide) ?_
        refine a_goto (pc := 37) (tgt := 41) 0 21 rfl (by decide) ?_
        exact J41_6 _ (by exact ((if_pos c11_0).trans ((lt_eq ev2).trans ((if_pos c22_2).trans ((lt_eq ev4).trans (if_neg c33_4))))))
theorem c_X11_isAfraid {S : Mem} (p1 : Int32) (p2 : Int32)   : Cts mdX11_isAfraid 2 44 [vr 11 0, vi p1, vi p2] S (Is (some (vi (f_X11_isAfraid S p1 p2))) (S)) := Cts.of dtX11_isAfraid (by decide +kernel) rfl rfl (Nat.le_of_ble_eq_true rfl) rfl (fun O G => w_X11_isAfraid p1 p2 (fun _ h9 => ⟨by rw [h9], rfl⟩))
theorem b_X11_isAfraid (S : Mem) (p1 : Int32) (p2 : Int32) : f_X11_isAfraid S p1 p2 = 0 ∨ f_X11_isAfraid S p1 p2 = 1 := by
  unfold f_X11_isAfraid
  try dsimp only [lt]
  repeat (first | exact Or.inl rfl | exact Or.inr rfl | exact b_X11_hasDrawn .. | split | dsimp only [lt])
def b2_X11_runOnBanks  (j1 : Nat) (σ2 : Mem) : Mem := lt (f_X5_free σ2 (f_X3_holder σ2 (nI j1))) (fun (v3 : Int32) => lt (if v3 ≤ 0 then (σ2) else (lt (f_X11_isAfraid σ2 (nI j1) (σ2.1 kBankOf (f_X3_holder σ2 (nI j1)))) (fun (v5 : Int32) => if v5 = 0 then (σ2) else (lt ((f_X11_drawNotes σ2 (nI j1) v3).2) (fun (S8 : Mem) => lt ((f_X11_drawNotes σ2 (nI j1) v3).1) (fun (v9 : Int32) => if v3 ≤ v9 then (S8) else (lt ((f_X11_failBank S8 (σ2.1 kBankOf (f_X3_holder σ2 (nI j1)))).2) (fun (S12 : Mem) => lt ((f_X11_failBank S8 (σ2.1 kBankOf (f_X3_holder σ2 (nI j1)))).1) (fun (v13 : Int32) => S12))))))))) (fun (S14 : Mem) => S14))
def f_X11_runOnBanks (S : Mem)  : Mem := lt (iter (b2_X11_runOnBanks) S (10)) (fun (σ2 : Mem) => σ2)
def ok_X11_runOnBanks (S : Mem)  : Prop := ((∀ j1 : Nat, j1 < 10 → ∀ σ2 : Mem, iter (b2_X11_runOnBanks) S j1 = σ2 → ((∀ v3 : Int32, (f_X5_free σ2 (f_X3_holder σ2 (nI j1))) = v3 → (((¬ (v3 ≤ 0)) → ((∀ v5 : Int32, (f_X11_isAfraid σ2 (nI j1) (σ2.1 kBankOf (f_X3_holder σ2 (nI j1)))) = v5 → (((¬ (v5 = 0)) → ((ok_X11_drawNotes σ2 (nI j1) v3) ∧ (∀ S8 : Mem, ((f_X11_drawNotes σ2 (nI j1) v3).2) = S8 → ((∀ v9 : Int32, ((f_X11_drawNotes σ2 (nI j1) v3).1) = v9 → (((¬ (v3 ≤ v9)) → ((ok_X11_failBank S8 (σ2.1 kBankOf (f_X3_holder σ2 (nI j1)))))))))))))))))))))
abbrev fdX11_runOnBanks : FD := (mdX11_runOnBanks, [], 4, 103, 0, 0)
set_option maxRecDepth 100000 in
set_option maxHeartbeats 4000000 in
theorem w_X11_runOnBanks {O : Om} {G : Cx} {S : Mem} {PP : Option AV → Mem → Prop}    (h : ok_X11_runOnBanks S ) (hP : ∀ S9, f_X11_runOnBanks S  = S9 → PP none S9) : BW O G fdX11_runOnBanks 0 0 (QV O G 0 0 PP) S 0 [some (vr 11 0), none, none, none, none] [] := by
  refine a_iconst (pc := 0) 0 0 (v := 0) rfl (by decide) ?_
  refine a_istore_n (pc := 1) 0 1 (ls2 := [some (vr 11 0), some (vi 0), none, none, none]) rfl rfl (by decide) rfl ?_
  have hb_j1 := h
  have L2_14 : ∀ (m_j1 j1 : Nat), j1 + m_j1 = 10 → ∀ (σ2 : Mem), iter (b2_X11_runOnBanks) S j1 = σ2 → BW O G fdX11_runOnBanks 0 0 (QV O G 0 0 PP) σ2 2 [some (vr 11 0), some (vi (nI j1)), none, none, none] [] := by
    intro m_j1
    induction m_j1 with
    | zero =>
      intro j1 hj_j1 σ2 eσ2
      have hn_j1 : j1 = 10 := by omega
      rw [hn_j1] at eσ2
      refine a_iload_n (pc := 2) 0 2 rfl rfl ?_
      refine a_bipush (pc := 3) 0 3 (v := nI 10) rfl (by decide) ?_
      refine a_icmp_ge_t (pc := 5) (tgt := 66) 0 4 rfl (by decide) (nI_le (by omega) (by omega)) ?_
      exact a_vret (pc := 66) 0 35 rfl rfl (hP _ (by unfold f_X11_runOnBanks; exact lt_eq eσ2))
    | succ m_j1 ih_j1 =>
      intro j1 hj_j1 σ2 eσ2
      have h := hb_j1 j1 (by omega) σ2 eσ2
      refine a_iload_n (pc := 2) 0 2 rfl rfl ?_
      refine a_bipush (pc := 3) 0 3 (v := nI 10) rfl (by decide) ?_
      refine a_icmp_ge_f (pc := 5) (tgt := 66) 0 4 rfl (nI_ge (by omega) (by omega)) (by decide) ?_
      refine a_aload_n (pc := 8) 0 5 rfl rfl ?_
      refine g_11_books (pc := 9) 0 6 rfl fl_X11_10 ?_
      refine a_iload_n (pc := 12) 0 7 rfl rfl ?_
      refine a_callVr (pc := 13) 0 8 (c_X3_holder (S := σ2) (nI j1)) rfl cv_X11_45 (by decide) rfl rfl rfl (rm rfl) ?_
      refine a_astore_n (pc := 16) 0 9 (ls2 := [some (vr 11 0), some (vi (nI j1)), some (vr 5 (f_X3_holder σ2 (nI j1))), none, none]) rfl rfl (by decide) rfl ?_
      refine a_aload_n (pc := 17) 0 10 rfl rfl ?_
      refine g_5_bank (pc := 18) 0 11 rfl (show f_X3_holder σ2 (nI j1) < 17 from r_X3_holder) fl_X11_76 ?_
      refine a_istore_n (pc := 21) 0 12 (ls2 := [some (vr 11 0), some (vi (nI j1)), some (vr 5 (f_X3_holder σ2 (nI j1))), some (vi (σ2.1 kBankOf (f_X3_holder σ2 (nI j1)))), none]) rfl rfl (by decide) rfl ?_
      refine a_aload_n (pc := 22) 0 13 rfl rfl ?_
      refine a_callVi (pc := 23) 0 14 (c_X5_free (S := σ2) (f_X3_holder σ2 (nI j1)) (show f_X3_holder σ2 (nI j1) < 17 from r_X3_holder)) rfl cv_X11_104 (show f_X3_holder σ2 (nI j1) < 17 from r_X3_holder) rfl rfl rfl (rm rfl) ?_
      refine a_seti (fun v3 ev3 => ?_)
      have h := h v3 ev3
      refine a_istore (pc := 26) 0 15 (ls2 := [some (vr 11 0), some (vi (nI j1)), some (vr 5 (f_X3_holder σ2 (nI j1))), some (vi (σ2.1 kBankOf (f_X3_holder σ2 (nI j1)))), some (vi v3)]) rfl (by decide) rfl ?_
      refine a_iload (pc := 28) 0 16 rfl rfl ?_
      have J60_15 : ∀ (S14 : Mem) (eS14 : (if v3 ≤ 0 then (σ2) else (lt (f_X11_isAfraid σ2 (nI j1) (σ2.1 kBankOf (f_X3_holder σ2 (nI j1)))) (fun (v5 : Int32) => if v5 = 0 then (σ2) else (lt ((f_X11_drawNotes σ2 (nI j1) v3).2) (fun (S8 : Mem) => lt ((f_X11_drawNotes σ2 (nI j1) v3).1) (fun (v9 : Int32) => if v3 ≤ v9 then (S8) else (lt ((f_X11_failBank S8 (σ2.1 kBankOf (f_X3_holder σ2 (nI j1)))).2) (fun (S12 : Mem) => lt ((f_X11_failBank S8 (σ2.1 kBankOf (f_X3_holder σ2 (nI j1)))).1) (fun (v13 : Int32) => S12))))))))) = S14), BW O G fdX11_runOnBanks 0 0 (QV O G 0 0 PP) S14 60 [some (vr 11 0), some (vi (nI j1)), some (vr 5 (f_X3_holder σ2 (nI j1))), some (vi (σ2.1 kBankOf (f_X3_holder σ2 (nI j1)))), some (vi v3)] [] := by
        intro S14 eS14
        refine a_iinc (pc := 60) 0 33 (v := nI (j1 + 1)) (ls2 := [some (vr 11 0), some (vi (nI (j1 + 1))), some (vr 5 (f_X3_holder σ2 (nI j1))), some (vi (σ2.1 kBankOf (f_X3_holder σ2 (nI j1)))), some (vi v3)]) rfl rfl (iinc1 _) (by decide) rfl ?_
        refine a_goto (pc := 63) (tgt := 2) 0 34 rfl (by decide) ?_
        refine a_drop (ls2 := [some (vr 11 0), some (vi (nI (j1 + 1))), none, none, none]) (⟨rfl, rfl, trivial⟩) ?_
        exact ih_j1 (j1 + 1) (by omega) S14 (by rw [iter_succ, eσ2]; unfold b2_X11_runOnBanks; exact ((lt_eq ev3).trans (lt_eq eS14)))
      refine a_if_le (pc := 30) (tgt := 60) 0 17 rfl (by decide) (fun c30_3 => ?_) (fun c30_3 => ?_)
      · exact J60_15 _ (by exact (if_pos c30_3))
      · have h := h c30_3
        refine a_aload_n (pc := 33) 0 18 rfl rfl ?_
        refine a_iload_n (pc := 34) 0 19 rfl rfl ?_
        refine a_iload_n (pc := 35) 0 20 rfl rfl ?_
        refine a_callVi (pc := 36) 0 21 (c_X11_isAfraid (S := σ2) (nI j1) (σ2.1 kBankOf (f_X3_holder σ2 (nI j1)))) rfl cv_X11_396 (by decide) rfl rfl rfl (rm rfl) ?_
        refine a_seti (fun v5 ev5 => ?_)
        have h := h v5 ev5
        refine a_if_eq (pc := 39) (tgt := 60) 0 22 rfl (by decide) (fun c39_5 => ?_) (fun c39_5 => ?_)
        · exact J60_15 _ (by exact ((if_neg c30_3).trans ((lt_eq ev5).trans (if_pos c39_5))))
        · have h := h c39_5
          refine a_aload_n (pc := 42) 0 23 rfl rfl ?_
          refine a_iload_n (pc := 43) 0 24 rfl rfl ?_
          refine a_iload (pc := 44) 0 25 rfl rfl ?_
          obtain ⟨o7, h⟩ := h
          refine a_callVi (pc := 46) 0 26 (c_X11_drawNotes (S := σ2) (nI j1) v3 o7) rfl cv_X11_108 (by decide) rfl rfl rfl (rm rfl) ?_
          refine a_set (fun S8 eS8 => ?_)
          have h := h S8 eS8
          refine a_seti (fun v9 ev9 => ?_)
          have h := h v9 ev9
          refine a_iload (pc := 49) 0 27 rfl rfl ?_
          refine a_icmp_ge (pc := 51) (tgt := 60) 0 28 rfl (by decide) (fun c51_9 => ?_) (fun c51_9 => ?_)
          · exact J60_15 _ (by exact ((if_neg c30_3).trans ((lt_eq ev5).trans ((if_neg c39_5).trans ((lt_eq eS8).trans ((lt_eq ev9).trans (if_pos c51_9)))))))
          · have h := h c51_9
            refine a_aload_n (pc := 54) 0 29 rfl rfl ?_
            refine a_iload_n (pc := 55) 0 30 rfl rfl ?_
            have o11 := h
            refine a_callVi (pc := 56) 0 31 (c_X11_failBank (S := S8) (σ2.1 kBankOf (f_X3_holder σ2 (nI j1))) o11) rfl cv_X11_112 (by decide) rfl rfl rfl (rm rfl) ?_
            refine a_set (fun S12 eS12 => ?_)
            refine a_seti (fun v13 ev13 => ?_)
            refine a_pop (pc := 59) 0 32 rfl ?_
            exact J60_15 _ (by exact ((if_neg c30_3).trans ((lt_eq ev5).trans ((if_neg c39_5).trans ((lt_eq eS8).trans ((lt_eq ev9).trans ((if_neg c51_9).trans ((lt_eq eS12).trans (lt_eq ev13)))))))))
  exact L2_14 (10) 0 (by omega) S rfl
theorem c_X11_runOnBanks {S : Mem}    (h : ok_X11_runOnBanks S ) : Cts mdX11_runOnBanks 4 103 [vr 11 0] S (Is none (f_X11_runOnBanks S )) := Cts.of dtX11_runOnBanks (by decide +kernel) rfl rfl (Nat.le_of_ble_eq_true rfl) rfl (fun O G => w_X11_runOnBanks  h (fun _ h9 => ⟨rfl, h9.symm⟩))
def b2_X11_failBanksWithoutCapital  (j1 : Nat) (σ2 : Mem) : Mem := lt (if (σ2.1 kHaveFailed (f_X3_bank σ2 (nI j1))) = 0 then (lt (f_X11_capitalOf σ2 (nI j1)) (fun (v5 : Int32) => if 0 ≤ v5 then (σ2) else (lt ((f_X11_failBank σ2 (nI j1)).2) (fun (S8 : Mem) => lt ((f_X11_failBank σ2 (nI j1)).1) (fun (v9 : Int32) => S8))))) else (σ2)) (fun (S10 : Mem) => S10)
def f_X11_failBanksWithoutCapital (S : Mem)  : Mem := lt (iter (b2_X11_failBanksWithoutCapital) S (4)) (fun (σ2 : Mem) => σ2)
def ok_X11_failBanksWithoutCapital (S : Mem)  : Prop := ((∀ j1 : Nat, j1 < 4 → ∀ σ2 : Mem, iter (b2_X11_failBanksWithoutCapital) S j1 = σ2 → ((((σ2.1 kHaveFailed (f_X3_bank σ2 (nI j1))) = 0) → ((ok_X11_capitalOf σ2 (nI j1)) ∧ (∀ v5 : Int32, (f_X11_capitalOf σ2 (nI j1)) = v5 → (((¬ (0 ≤ v5)) → ((ok_X11_failBank σ2 (nI j1)))))))))))
abbrev fdX11_failBanksWithoutCapital : FD := (mdX11_failBanksWithoutCapital, [], 4, 103, 0, 0)
set_option maxRecDepth 100000 in
set_option maxHeartbeats 4000000 in
theorem w_X11_failBanksWithoutCapital {O : Om} {G : Cx} {S : Mem} {PP : Option AV → Mem → Prop}    (h : ok_X11_failBanksWithoutCapital S ) (hP : ∀ S9, f_X11_failBanksWithoutCapital S  = S9 → PP none S9) : BW O G fdX11_failBanksWithoutCapital 0 0 (QV O G 0 0 PP) S 0 [some (vr 11 0), none] [] := by
  refine a_iconst (pc := 0) 0 0 (v := 0) rfl (by decide) ?_
  refine a_istore_n (pc := 1) 0 1 (ls2 := [some (vr 11 0), some (vi 0)]) rfl rfl (by decide) rfl ?_
  have hb_j1 := h
  have L2_10 : ∀ (m_j1 j1 : Nat), j1 + m_j1 = 4 → ∀ (σ2 : Mem), iter (b2_X11_failBanksWithoutCapital) S j1 = σ2 → BW O G fdX11_failBanksWithoutCapital 0 0 (QV O G 0 0 PP) σ2 2 [some (vr 11 0), some (vi (nI j1))] [] := by
    intro m_j1
    induction m_j1 with
    | zero =>
      intro j1 hj_j1 σ2 eσ2
      have hn_j1 : j1 = 4 := by omega
      rw [hn_j1] at eσ2
      refine a_iload_n (pc := 2) 0 2 rfl rfl ?_
      refine a_iconst (pc := 3) 0 3 (v := nI 4) rfl (by decide) ?_
      refine a_icmp_ge_t (pc := 4) (tgt := 41) 0 4 rfl (by decide) (nI_le (by omega) (by omega)) ?_
      exact a_vret (pc := 41) 0 21 rfl rfl (hP _ (by unfold f_X11_failBanksWithoutCapital; exact lt_eq eσ2))
    | succ m_j1 ih_j1 =>
      intro j1 hj_j1 σ2 eσ2
      have h := hb_j1 j1 (by omega) σ2 eσ2
      refine a_iload_n (pc := 2) 0 2 rfl rfl ?_
      refine a_iconst (pc := 3) 0 3 (v := nI 4) rfl (by decide) ?_
      refine a_icmp_ge_f (pc := 4) (tgt := 41) 0 4 rfl (nI_ge (by omega) (by omega)) (by decide) ?_
      refine a_aload_n (pc := 7) 0 5 rfl rfl ?_
      refine g_11_books (pc := 8) 0 6 rfl fl_X11_10 ?_
      refine a_iload_n (pc := 11) 0 7 rfl rfl ?_
      refine a_callVr (pc := 12) 0 8 (c_X3_bank (S := σ2) (nI j1)) rfl cv_X11_79 (by decide) rfl rfl rfl (rm rfl) ?_
      refine g_0_hasFailed (pc := 15) 0 9 rfl (show f_X3_bank σ2 (nI j1) < 5 from r_X3_bank) fl_X11_82 ?_
      have J35_11 : ∀ (S10 : Mem) (eS10 : (if (σ2.1 kHaveFailed (f_X3_bank σ2 (nI j1))) = 0 then (lt (f_X11_capitalOf σ2 (nI j1)) (fun (v5 : Int32) => if 0 ≤ v5 then (σ2) else (lt ((f_X11_failBank σ2 (nI j1)).2) (fun (S8 : Mem) => lt ((f_X11_failBank σ2 (nI j1)).1) (fun (v9 : Int32) => S8))))) else (σ2)) = S10), BW O G fdX11_failBanksWithoutCapital 0 0 (QV O G 0 0 PP) S10 35 [some (vr 11 0), some (vi (nI j1))] [] := by
        intro S10 eS10
        refine a_iinc (pc := 35) 0 19 (v := nI (j1 + 1)) (ls2 := [some (vr 11 0), some (vi (nI (j1 + 1)))]) rfl rfl (iinc1 _) (by decide) rfl ?_
        refine a_goto (pc := 38) (tgt := 2) 0 20 rfl (by decide) ?_
        exact ih_j1 (j1 + 1) (by omega) S10 (by rw [iter_succ, eσ2]; unfold b2_X11_failBanksWithoutCapital; exact (lt_eq eS10))
      refine a_if_ne (pc := 18) (tgt := 35) 0 10 rfl (by decide) (fun c18_2 => ?_) (fun c18_2 => ?_)
      · exact J35_11 _ (by exact (if_neg c18_2))
      · have h := h c18_2
        refine a_aload_n (pc := 21) 0 11 rfl rfl ?_
        refine a_iload_n (pc := 22) 0 12 rfl rfl ?_
        obtain ⟨o4, h⟩ := h
        refine a_callVi (pc := 23) 0 13 (c_X11_capitalOf (S := σ2) (nI j1) o4) rfl cv_X11_143 (by decide) rfl rfl rfl (rm rfl) ?_
        refine a_seti (fun v5 ev5 => ?_)
        have h := h v5 ev5
        refine a_if_ge (pc := 26) (tgt := 35) 0 14 rfl (by decide) (fun c26_5 => ?_) (fun c26_5 => ?_)
        · exact J35_11 _ (by exact ((if_pos c18_2).trans ((lt_eq ev5).trans (if_pos c26_5))))
        · have h := h c26_5
          refine a_aload_n (pc := 29) 0 15 rfl rfl ?_
          refine a_iload_n (pc := 30) 0 16 rfl rfl ?_
          have o7 := h
          refine a_callVi (pc := 31) 0 17 (c_X11_failBank (S := σ2) (nI j1) o7) rfl cv_X11_112 (by decide) rfl rfl rfl (rm rfl) ?_
          refine a_set (fun S8 eS8 => ?_)
          refine a_seti (fun v9 ev9 => ?_)
          refine a_pop (pc := 34) 0 18 rfl ?_
          exact J35_11 _ (by exact ((if_pos c18_2).trans ((lt_eq ev5).trans ((if_neg c26_5).trans ((lt_eq eS8).trans (lt_eq ev9))))))
  exact L2_10 (4) 0 (by omega) S rfl
theorem c_X11_failBanksWithoutCapital {S : Mem}    (h : ok_X11_failBanksWithoutCapital S ) : Cts mdX11_failBanksWithoutCapital 4 103 [vr 11 0] S (Is none (f_X11_failBanksWithoutCapital S )) := Cts.of dtX11_failBanksWithoutCapital (by decide +kernel) rfl rfl (Nat.le_of_ble_eq_true rfl) rfl (fun O G => w_X11_failBanksWithoutCapital  h (fun _ h9 => ⟨rfl, h9.symm⟩))
def b3_X11_changePrices  (j1 : Nat) (σ2 : Mem) : Mem := lt (if (σ2.1 kBought (f_X3_holder σ2 (nI (10 + j1)))) < (nI 5) then (if (σ2.1 kBought (f_X3_holder σ2 (nI (10 + j1)))) = 0 then (lt (if 1 < ((σ2.1 kPrices (f_X3_holder σ2 (nI (10 + j1)))) - 1) then ((σ2.1 kPrices (f_X3_holder σ2 (nI (10 + j1)))) - 1) else 1) (fun (v5 : Int32) => lt ((upd2 σ2.1 kPrices (f_X3_holder σ2 (nI (10 + j1))) v5, σ2.2)) (fun (S6 : Mem) => S6))) else (σ2)) else (lt ((upd2 σ2.1 kPrices (f_X3_holder σ2 (nI (10 + j1))) ((σ2.1 kPrices (f_X3_holder σ2 (nI (10 + j1)))) + 1), σ2.2)) (fun (S7 : Mem) => S7))) (fun (S8 : Mem) => lt ((upd2 S8.1 kBought (f_X3_holder σ2 (nI (10 + j1))) 0, S8.2)) (fun (S9 : Mem) => S9))
def f_X11_changePrices (S : Mem)  : Mem := lt (iter (b3_X11_changePrices) S (6)) (fun (σ2 : Mem) => σ2)
abbrev fdX11_changePrices : FD := (mdX11_changePrices, [], 1, 22, 0, 0)
set_option maxRecDepth 100000 in
set_option maxHeartbeats 4000000 in
theorem w_X11_changePrices {O : Om} {G : Cx} {S : Mem} {PP : Option AV → Mem → Prop}    (hP : ∀ S9, f_X11_changePrices S  = S9 → PP none S9) : BW O G fdX11_changePrices 0 0 (QV O G 0 0 PP) S 0 [some (vr 11 0), none, none] [] := by
  refine a_bipush (pc := 0) 0 0 (v := nI 10) rfl (by decide) ?_
  refine a_istore_n (pc := 2) 0 1 (ls2 := [some (vr 11 0), some (vi (nI 10)), none]) rfl rfl (by decide) rfl ?_
  have L3_9 : ∀ (m_j1 j1 : Nat), j1 + m_j1 = 6 → ∀ (σ2 : Mem), iter (b3_X11_changePrices) S j1 = σ2 → BW O G fdX11_changePrices 0 0 (QV O G 0 0 PP) σ2 3 [some (vr 11 0), some (vi (nI (10 + j1))), none] [] := by
    intro m_j1
    induction m_j1 with
    | zero =>
      intro j1 hj_j1 σ2 eσ2
      have hn_j1 : j1 = 6 := by omega
      rw [hn_j1] at eσ2
      refine a_iload_n (pc := 3) 0 2 rfl rfl ?_
      refine a_bipush (pc := 4) 0 3 (v := nI 16) rfl (by decide) ?_
      refine a_icmp_ge_t (pc := 6) (tgt := 71) 0 4 rfl (by decide) (nI_le (by omega) (by omega)) ?_
      exact a_vret (pc := 71) 0 37 rfl rfl (hP _ (by unfold f_X11_changePrices; exact lt_eq eσ2))
    | succ m_j1 ih_j1 =>
      intro j1 hj_j1 σ2 eσ2
      refine a_iload_n (pc := 3) 0 2 rfl rfl ?_
      refine a_bipush (pc := 4) 0 3 (v := nI 16) rfl (by decide) ?_
      refine a_icmp_ge_f (pc := 6) (tgt := 71) 0 4 rfl (nI_ge (by omega) (by omega)) (by decide) ?_
      refine a_aload_n (pc := 9) 0 5 rfl rfl ?_
      refine g_11_books (pc := 10) 0 6 rfl fl_X11_10 ?_
      refine a_iload_n (pc := 13) 0 7 rfl rfl ?_
      refine a_callVr (pc := 14) 0 8 (c_X3_holder (S := σ2) (nI (10 + j1))) rfl cv_X11_45 (by decide) rfl rfl rfl (rm rfl) ?_
      refine a_astore_n (pc := 17) 0 9 (ls2 := [some (vr 11 0), some (vi (nI (10 + j1))), some (vr 5 (f_X3_holder σ2 (nI (10 + j1))))]) rfl rfl (by decide) rfl ?_
      refine a_aload_n (pc := 18) 0 10 rfl rfl ?_
      refine g_5_sold (pc := 19) 0 11 rfl (show f_X3_holder σ2 (nI (10 + j1)) < 17 from r_X3_holder) fl_X11_247 ?_
      refine a_iconst (pc := 22) 0 12 (v := nI 5) rfl (by decide) ?_
      have J60_10 : ∀ (S8 : Mem) (eS8 : (if (σ2.1 kBought (f_X3_holder σ2 (nI (10 + j1)))) < (nI 5) then (if (σ2.1 kBought (f_X3_holder σ2 (nI (10 + j1)))) = 0 then (lt (if 1 < ((σ2.1 kPrices (f_X3_holder σ2 (nI (10 + j1)))) - 1) then ((σ2.1 kPrices (f_X3_holder σ2 (nI (10 + j1)))) - 1) else 1) (fun (v5 : Int32) => lt ((upd2 σ2.1 kPrices (f_X3_holder σ2 (nI (10 + j1))) v5, σ2.2)) (fun (S6 : Mem) => S6))) else (σ2)) else (lt ((upd2 σ2.1 kPrices (f_X3_holder σ2 (nI (10 + j1))) ((σ2.1 kPrices (f_X3_holder σ2 (nI (10 + j1)))) + 1), σ2.2)) (fun (S7 : Mem) => S7))) = S8), BW O G fdX11_changePrices 0 0 (QV O G 0 0 PP) S8 60 [some (vr 11 0), some (vi (nI (10 + j1))), some (vr 5 (f_X3_holder σ2 (nI (10 + j1))))] [] := by
        intro S8 eS8
        refine a_aload_n (pc := 60) 0 32 rfl rfl ?_
        refine a_iconst (pc := 61) 0 33 (v := 0) rfl (by decide) ?_
        refine p_5_sold (pc := 62) 0 34 rfl (show f_X3_holder σ2 (nI (10 + j1)) < 17 from r_X3_holder) fl_X11_247 ?_
        refine a_set (fun S9 eS9 => ?_)
        refine a_iinc (pc := 65) 0 35 (v := nI (10 + j1 + 1)) (ls2 := [some (vr 11 0), some (vi (nI (10 + j1 + 1))), some (vr 5 (f_X3_holder σ2 (nI (10 + j1))))]) rfl rfl (iinc1 _) (by decide) rfl ?_
        refine a_goto (pc := 68) (tgt := 3) 0 36 rfl (by decide) ?_
        refine a_drop (ls2 := [some (vr 11 0), some (vi (nI (10 + j1 + 1))), none]) (⟨rfl, rfl, trivial⟩) ?_
        exact ih_j1 (j1 + 1) (by omega) S9 (by rw [iter_succ, eσ2]; unfold b3_X11_changePrices; exact ((lt_eq eS8).trans (lt_eq eS9)))
      refine a_icmp_lt (pc := 23) (tgt := 39) 0 13 rfl (by decide) (fun c23_2 => ?_) (fun c23_2 => ?_)
      · refine a_aload_n (pc := 39) 0 21 rfl rfl ?_
        refine g_5_sold (pc := 40) 0 22 rfl (show f_X3_holder σ2 (nI (10 + j1)) < 17 from r_X3_holder) fl_X11_247 ?_
        refine a_if_ne (pc := 43) (tgt := 60) 0 23 rfl (by decide) (fun c43_3 => ?_) (fun c43_3 => ?_)
        · exact J60_10 _ (by exact ((if_pos c23_2).trans (if_neg c43_3)))
        · refine a_aload_n (pc := 46) 0 24 rfl rfl ?_
          refine a_iconst (pc := 47) 0 25 (v := 1) rfl (by decide) ?_
          refine a_aload_n (pc := 48) 0 26 rfl rfl ?_
          refine g_5_price (pc := 49) 0 27 rfl (show f_X3_holder σ2 (nI (10 + j1)) < 17 from r_X3_holder) fl_X11_244 ?_
          refine a_iconst (pc := 52) 0 28 (v := 1) rfl (by decide) ?_
          refine a_isub (pc := 53) 0 29 rfl ?_
          refine a_mmax (pc := 54) 0 30 rfl mm_X11_393 (mm rfl) ?_
          refine a_seti (fun v5 ev5 => ?_)
          refine p_5_price (pc := 57) 0 31 rfl (show f_X3_holder σ2 (nI (10 + j1)) < 17 from r_X3_holder) fl_X11_244 ?_
          refine a_set (fun S6 eS6 => ?_)
          exact J60_10 _ (by exact ((if_pos c23_2).trans ((if_pos c43_3).trans ((lt_eq ev5).trans (lt_eq eS6)))))
      · refine a_aload_n (pc := 26) 0 14 rfl rfl ?_
        refine a_dup (pc := 27) 0 15 rfl rfl ?_
        refine g_5_price (pc := 28) 0 16 rfl (show f_X3_holder σ2 (nI (10 + j1)) < 17 from r_X3_holder) fl_X11_244 ?_
        refine a_iconst (pc := 31) 0 17 (v := 1) rfl (by decide) ?_
        refine a_iadd (pc := 32) 0 18 rfl ?_
        refine p_5_price (pc := 33) 0 19 rfl (show f_X3_holder σ2 (nI (10 + j1)) < 17 from r_X3_holder) fl_X11_244 ?_
        refine a_set (fun S7 eS7 => ?_)
        refine a_goto (pc := 36) (tgt := 60) 0 20 rfl (by decide) ?_
        exact J60_10 _ (by exact ((if_neg c23_2).trans (lt_eq eS7)))
  exact L3_9 (6) 0 (by omega) S rfl
theorem c_X11_changePrices {S : Mem}    : Cts mdX11_changePrices 1 22 [vr 11 0] S (Is none (f_X11_changePrices S )) := Cts.of dtX11_changePrices (by decide +kernel) rfl rfl (Nat.le_of_ble_eq_true rfl) rfl (fun O G => w_X11_changePrices  (fun _ h9 => ⟨rfl, h9.symm⟩))
def b5_X11_changeExpectations (S : Mem) (j1 : Nat) (σ2 : Int32) : Int32 := σ2 + (S.1 kPrices (f_X3_holder S (nI (10 + j1))))
def b38_X11_changeExpectations (σ2 : Int32) (j3 : Nat) (σ4 : Mem) : Mem := lt ((upd2 σ4.1 kExpects (f_X3_holder σ4 (nI j3)) ((σ4.1 kExpects (f_X3_holder σ4 (nI j3))) + (((σ2 / (nI 6)) - (σ4.1 kExpects (f_X3_holder σ4 (nI j3)))) / (nI 4))), σ4.2)) (fun (S5 : Mem) => S5)
def f_X11_changeExpectations (S : Mem)  : Mem := lt (iter (b5_X11_changeExpectations S) 0 (6)) (fun (σ2 : Int32) => lt (iter (b38_X11_changeExpectations σ2) S (10)) (fun (σ4 : Mem) => σ4))
abbrev fdX11_changeExpectations : FD := (mdX11_changeExpectations, [], 1, 22, 0, 0)
set_option maxRecDepth 100000 in
set_option maxHeartbeats 4000000 in
theorem w_X11_changeExpectations {O : Om} {G : Cx} {S : Mem} {PP : Option AV → Mem → Prop}    (hP : ∀ S9, f_X11_changeExpectations S  = S9 → PP none S9) : BW O G fdX11_changeExpectations 0 0 (QV O G 0 0 PP) S 0 [some (vr 11 0), none, none, none, none] [] := by
  refine a_iconst (pc := 0) 0 0 (v := 0) rfl (by decide) ?_
  refine a_istore_n (pc := 1) 0 1 (ls2 := [some (vr 11 0), some (vi 0), none, none, none]) rfl rfl (by decide) rfl ?_
  refine a_bipush (pc := 2) 0 2 (v := nI 10) rfl (by decide) ?_
  refine a_istore_n (pc := 4) 0 3 (ls2 := [some (vr 11 0), some (vi 0), some (vi (nI 10)), none, none]) rfl rfl (by decide) rfl ?_
  have L5_5 : ∀ (m_j1 j1 : Nat), j1 + m_j1 = 6 → ∀ (σ2 : Int32), iter (b5_X11_changeExpectations S) 0 j1 = σ2 → BW O G fdX11_changeExpectations 0 0 (QV O G 0 0 PP) S 5 [some (vr 11 0), some (vi σ2), some (vi (nI (10 + j1))), none, none] [] := by
    intro m_j1
    induction m_j1 with
    | zero =>
      intro j1 hj_j1 σ2 eσ2
      have hn_j1 : j1 = 6 := by omega
      rw [hn_j1] at eσ2
      refine a_iload_n (pc := 5) 0 4 rfl rfl ?_
      refine a_bipush (pc := 6) 0 5 (v := nI 16) rfl (by decide) ?_
      refine a_icmp_ge_t (pc := 8) (tgt := 31) 0 6 rfl (by decide) (nI_le (by omega) (by omega)) ?_
      refine a_iload_n (pc := 31) 0 17 rfl rfl ?_
      refine a_bipush (pc := 32) 0 18 (v := nI 6) rfl (by decide) ?_
      refine a_idiv (pc := 34) 0 19 rfl (by decide) ?_
      refine a_istore_n (pc := 35) 0 20 (ls2 := [some (vr 11 0), some (vi σ2), some (vi (σ2 / (nI 6))), none, none]) rfl rfl (by decide) rfl ?_
      refine a_iconst (pc := 36) 0 21 (v := 0) rfl (by decide) ?_
      refine a_istore_n (pc := 37) 0 22 (ls2 := [some (vr 11 0), some (vi σ2), some (vi (σ2 / (nI 6))), some (vi 0), none]) rfl rfl (by decide) rfl ?_
      have L38_6 : ∀ (m_j3 j3 : Nat), j3 + m_j3 = 10 → ∀ (σ4 : Mem), iter (b38_X11_changeExpectations σ2) S j3 = σ4 → BW O G fdX11_changeExpectations 0 0 (QV O G 0 0 PP) σ4 38 [some (vr 11 0), some (vi σ2), some (vi (σ2 / (nI 6))), some (vi (nI j3)), none] [] := by
        intro m_j3
        induction m_j3 with
        | zero =>
          intro j3 hj_j3 σ4 eσ4
          have hn_j3 : j3 = 10 := by omega
          rw [hn_j3] at eσ4
          refine a_iload_n (pc := 38) 0 23 rfl rfl ?_
          refine a_bipush (pc := 39) 0 24 (v := nI 10) rfl (by decide) ?_
          refine a_icmp_ge_t (pc := 41) (tgt := 79) 0 25 rfl (by decide) (nI_le (by omega) (by omega)) ?_
          exact a_vret (pc := 79) 0 44 rfl rfl (hP _ (by unfold f_X11_changeExpectations; exact (lt_eq eσ2).trans (lt_eq eσ4)))
        | succ m_j3 ih_j3 =>
          intro j3 hj_j3 σ4 eσ4
          refine a_iload_n (pc := 38) 0 23 rfl rfl ?_
          refine a_bipush (pc := 39) 0 24 (v := nI 10) rfl (by decide) ?_
          refine a_icmp_ge_f (pc := 41) (tgt := 79) 0 25 rfl (nI_ge (by omega) (by omega)) (by decide) ?_
          refine a_aload_n (pc := 44) 0 26 rfl rfl ?_
          refine g_11_books (pc := 45) 0 27 rfl fl_X11_10 ?_
          refine a_iload_n (pc := 48) 0 28 rfl rfl ?_
          refine a_callVr (pc := 49) 0 29 (c_X3_holder (S := σ4) (nI j3)) rfl cv_X11_45 (by decide) rfl rfl rfl (rm rfl) ?_
          refine a_astore (pc := 52) 0 30 (ls2 := [some (vr 11 0), some (vi σ2), some (vi (σ2 / (nI 6))), some (vi (nI j3)), some (vr 5 (f_X3_holder σ4 (nI j3)))]) rfl (by decide) rfl ?_
          refine a_aload (pc := 54) 0 31 rfl rfl ?_
          refine a_dup (pc := 56) 0 32 rfl rfl ?_
          refine g_5_expects (pc := 57) 0 33 rfl (show f_X3_holder σ4 (nI j3) < 17 from r_X3_holder) fl_X11_259 ?_
          refine a_iload_n (pc := 60) 0 34 rfl rfl ?_
          refine a_aload (pc := 61) 0 35 rfl rfl ?_
          refine g_5_expects (pc := 63) 0 36 rfl (show f_X3_holder σ4 (nI j3) < 17 from r_X3_holder) fl_X11_259 ?_
          refine a_isub (pc := 66) 0 37 rfl ?_
          refine a_iconst (pc := 67) 0 38 (v := nI 4) rfl (by decide) ?_
          refine a_idiv (pc := 68) 0 39 rfl (by decide) ?_
          refine a_iadd (pc := 69) 0 40 rfl ?_
          refine p_5_expects (pc := 70) 0 41 rfl (show f_X3_holder σ4 (nI j3) < 17 from r_X3_holder) fl_X11_259 ?_
          refine a_set (fun S5 eS5 => ?_)
          refine a_iinc (pc := 73) 0 42 (v := nI (j3 + 1)) (ls2 := [some (vr 11 0), some (vi σ2), some (vi (σ2 / (nI 6))), some (vi (nI (j3 + 1))), some (vr 5 (f_X3_holder σ4 (nI j3)))]) rfl rfl (iinc1 _) (by decide) rfl ?_
          refine a_goto (pc := 76) (tgt := 38) 0 43 rfl (by decide) ?_
          refine a_drop (ls2 := [some (vr 11 0), some (vi σ2), some (vi (σ2 / (nI 6))), some (vi (nI (j3 + 1))), none]) (⟨rfl, rfl, rfl, rfl, trivial⟩) ?_
          exact ih_j3 (j3 + 1) (by omega) S5 (by rw [iter_succ, eσ4]; unfold b38_X11_changeExpectations; exact (lt_eq eS5))
      exact L38_6 (10) 0 (by omega) S rfl
    | succ m_j1 ih_j1 =>
      intro j1 hj_j1 σ2 eσ2
      refine a_iload_n (pc := 5) 0 4 rfl rfl ?_
      refine a_bipush (pc := 6) 0 5 (v := nI 16) rfl (by decide) ?_
      refine a_icmp_ge_f (pc := 8) (tgt := 31) 0 6 rfl (nI_ge (by omega) (by omega)) (by decide) ?_
      refine a_iload_n (pc := 11) 0 7 rfl rfl ?_
      refine a_aload_n (pc := 12) 0 8 rfl rfl ?_
      refine g_11_books (pc := 13) 0 9 rfl fl_X11_10 ?_
      refine a_iload_n (pc := 16) 0 10 rfl rfl ?_
      refine a_callVr (pc := 17) 0 11 (c_X3_holder (S := S) (nI (10 + j1))) rfl cv_X11_45 (by decide) rfl rfl rfl (rm rfl) ?_
      refine g_5_price (pc := 20) 0 12 rfl (show f_X3_holder S (nI (10 + j1)) < 17 from r_X3_holder) fl_X11_244 ?_
      refine a_iadd (pc := 23) 0 13 rfl ?_
      refine a_istore_n (pc := 24) 0 14 (ls2 := [some (vr 11 0), some (vi (σ2 + (S.1 kPrices (f_X3_holder S (nI (10 + j1)))))), some (vi (nI (10 + j1))), none, none]) rfl rfl (by decide) rfl ?_
      refine a_iinc (pc := 25) 0 15 (v := nI (10 + j1 + 1)) (ls2 := [some (vr 11 0), some (vi (σ2 + (S.1 kPrices (f_X3_holder S (nI (10 + j1)))))), some (vi (nI (10 + j1 + 1))), none, none]) rfl rfl (iinc1 _) (by decide) rfl ?_
      refine a_goto (pc := 28) (tgt := 5) 0 16 rfl (by decide) ?_
      exact ih_j1 (j1 + 1) (by omega) (σ2 + (S.1 kPrices (f_X3_holder S (nI (10 + j1))))) (by rw [iter_succ, eσ2]; unfold b5_X11_changeExpectations; exact rfl)
  exact L5_5 (6) 0 (by omega) 0 rfl
theorem c_X11_changeExpectations {S : Mem}    : Cts mdX11_changeExpectations 1 22 [vr 11 0] S (Is none (f_X11_changeExpectations S )) := Cts.of dtX11_changeExpectations (by decide +kernel) rfl rfl (Nat.le_of_ble_eq_true rfl) rfl (fun O G => w_X11_changeExpectations  (fun _ h9 => ⟨rfl, h9.symm⟩))
def f_X11_passDay (S : Mem)  : Mem := lt ((upd2 S.1 kDays 0 ((S.1 kDays 0) + 1), S.2)) (fun (S1 : Mem) => lt (f_X11_payWages S1 ) (fun (S3 : Mem) => lt (f_X11_takeInterest S3 ) (fun (S5 : Mem) => lt (f_X11_takeInterestOfBanks S5 ) (fun (S7 : Mem) => lt ((f_X10_clearAll S7 (S7.1 kDays 0)).2) (fun (S9 : Mem) => lt ((f_X10_clearAll S7 (S7.1 kDays 0)).1) (fun (v10 : Int32) => lt (f_X2_payDue S9 (S9.1 kDays 0)) (fun (S12 : Mem) => lt (f_X11_askForReserves S12 ) (fun (S14 : Mem) => lt (f_X11_runOnBanks S14 ) (fun (S16 : Mem) => lt (f_X11_failBanksWithoutCapital S16 ) (fun (S18 : Mem) => lt (f_X11_changePrices S18 ) (fun (S19 : Mem) => lt (f_X11_changeExpectations S19 ) (fun (S20 : Mem) => S20))))))))))))
def ok_X11_passDay (S : Mem)  : Prop := ((∀ S1 : Mem, ((upd2 S.1 kDays 0 ((S.1 kDays 0) + 1), S.2)) = S1 → ((ok_X11_payWages S1 ) ∧ (∀ S3 : Mem, (f_X11_payWages S1 ) = S3 → ((ok_X11_takeInterest S3 ) ∧ (∀ S5 : Mem, (f_X11_takeInterest S3 ) = S5 → ((ok_X11_takeInterestOfBanks S5 ) ∧ (∀ S7 : Mem, (f_X11_takeInterestOfBanks S5 ) = S7 → ((ok_X10_clearAll S7 (S7.1 kDays 0)) ∧ (∀ S9 : Mem, ((f_X10_clearAll S7 (S7.1 kDays 0)).2) = S9 → ((∀ v10 : Int32, ((f_X10_clearAll S7 (S7.1 kDays 0)).1) = v10 → ((ok_X2_payDue S9 (S9.1 kDays 0)) ∧ (∀ S12 : Mem, (f_X2_payDue S9 (S9.1 kDays 0)) = S12 → ((ok_X11_askForReserves S12 ) ∧ (∀ S14 : Mem, (f_X11_askForReserves S12 ) = S14 → ((ok_X11_runOnBanks S14 ) ∧ (∀ S16 : Mem, (f_X11_runOnBanks S14 ) = S16 → ((ok_X11_failBanksWithoutCapital S16 ))))))))))))))))))))
abbrev fdX11_passDay : FD := (mdX11_passDay, [], 5, 127, 0, 0)
set_option maxRecDepth 100000 in
set_option maxHeartbeats 4000000 in
theorem w_X11_passDay {O : Om} {G : Cx} {S : Mem} {PP : Option AV → Mem → Prop}    (h : ok_X11_passDay S ) (hP : ∀ S9, f_X11_passDay S  = S9 → PP none S9) : BW O G fdX11_passDay 0 0 (QV O G 0 0 PP) S 0 [some (vr 11 0)] [] := by
  refine a_aload_n (pc := 0) 0 0 rfl rfl ?_
  refine a_dup (pc := 1) 0 1 rfl rfl ?_
  refine g_11_today (pc := 2) 0 2 rfl fl_X11_119 ?_
  refine a_iconst (pc := 5) 0 3 (v := 1) rfl (by decide) ?_
  refine a_iadd (pc := 6) 0 4 rfl ?_
  refine p_11_today (pc := 7) 0 5 rfl fl_X11_119 ?_
  refine a_set (fun S1 eS1 => ?_)
  have h := h S1 eS1
  refine a_aload_n (pc := 10) 0 6 rfl rfl ?_
  obtain ⟨o2, h⟩ := h
  refine a_callVv (pc := 11) 0 7 (c_X11_payWages (S := S1)  o2) rfl cv_X11_355 (by decide) rfl rfl rfl (rm rfl) ?_
  refine a_set (fun S3 eS3 => ?_)
  have h := h S3 eS3
  refine a_aload_n (pc := 14) 0 8 rfl rfl ?_
  obtain ⟨o4, h⟩ := h
  refine a_callVv (pc := 15) 0 9 (c_X11_takeInterest (S := S3)  o4) rfl cv_X11_358 (by decide) rfl rfl rfl (rm rfl) ?_
  refine a_set (fun S5 eS5 => ?_)
  have h := h S5 eS5
  refine a_aload_n (pc := 18) 0 10 rfl rfl ?_
  obtain ⟨o6, h⟩ := h
  refine a_callVv (pc := 19) 0 11 (c_X11_takeInterestOfBanks (S := S5)  o6) rfl cv_X11_361 (by decide) rfl rfl rfl (rm rfl) ?_
  refine a_set (fun S7 eS7 => ?_)
  have h := h S7 eS7
  refine a_aload_n (pc := 22) 0 12 rfl rfl ?_
  refine g_11_payments (pc := 23) 0 13 rfl fl_X11_19 ?_
  refine a_aload_n (pc := 26) 0 14 rfl rfl ?_
  refine g_11_books (pc := 27) 0 15 rfl fl_X11_10 ?_
  refine a_aload_n (pc := 30) 0 16 rfl rfl ?_
  refine g_11_today (pc := 31) 0 17 rfl fl_X11_119 ?_
  obtain ⟨o8, h⟩ := h
  refine a_callVi (pc := 34) 0 18 (c_X10_clearAll (S := S7) (S7.1 kDays 0) o8) rfl cv_X11_126 (by decide) rfl rfl rfl (rm rfl) ?_
  refine a_set (fun S9 eS9 => ?_)
  have h := h S9 eS9
  refine a_seti (fun v10 ev10 => ?_)
  have h := h v10 ev10
  refine a_pop (pc := 37) 0 19 rfl ?_
  refine a_aload_n (pc := 38) 0 20 rfl rfl ?_
  refine g_11_bonds (pc := 39) 0 21 rfl fl_X11_33 ?_
  refine a_aload_n (pc := 42) 0 22 rfl rfl ?_
  refine g_11_books (pc := 43) 0 23 rfl fl_X11_10 ?_
  refine a_aload_n (pc := 46) 0 24 rfl rfl ?_
  refine g_11_today (pc := 47) 0 25 rfl fl_X11_119 ?_
  obtain ⟨o11, h⟩ := h
  refine a_callVv (pc := 50) 0 26 (c_X2_payDue (S := S9) (S9.1 kDays 0) o11) rfl cv_X11_364 (by decide) rfl rfl rfl (rm rfl) ?_
  refine a_set (fun S12 eS12 => ?_)
  have h := h S12 eS12
  refine a_aload_n (pc := 53) 0 27 rfl rfl ?_
  obtain ⟨o13, h⟩ := h
  refine a_callVv (pc := 54) 0 28 (c_X11_askForReserves (S := S12)  o13) rfl cv_X11_367 (by decide) rfl rfl rfl (rm rfl) ?_
  refine a_set (fun S14 eS14 => ?_)
  have h := h S14 eS14
  refine a_aload_n (pc := 57) 0 29 rfl rfl ?_
  obtain ⟨o15, h⟩ := h
  refine a_callVv (pc := 58) 0 30 (c_X11_runOnBanks (S := S14)  o15) rfl cv_X11_370 (by decide) rfl rfl rfl (rm rfl) ?_
  refine a_set (fun S16 eS16 => ?_)
  have h := h S16 eS16
  refine a_aload_n (pc := 61) 0 31 rfl rfl ?_
  have o17 := h
  refine a_callVv (pc := 62) 0 32 (c_X11_failBanksWithoutCapital (S := S16)  o17) rfl cv_X11_373 (by decide) rfl rfl rfl (rm rfl) ?_
  refine a_set (fun S18 eS18 => ?_)
  refine a_aload_n (pc := 65) 0 33 rfl rfl ?_
  refine a_callVv (pc := 66) 0 34 (c_X11_changePrices (S := S18) ) rfl cv_X11_376 (by decide) rfl rfl rfl (rm rfl) ?_
  refine a_set (fun S19 eS19 => ?_)
  refine a_aload_n (pc := 69) 0 35 rfl rfl ?_
  refine a_callVv (pc := 70) 0 36 (c_X11_changeExpectations (S := S19) ) rfl cv_X11_379 (by decide) rfl rfl rfl (rm rfl) ?_
  refine a_set (fun S20 eS20 => ?_)
  exact a_vret (pc := 73) 0 37 rfl rfl (hP _ (by unfold f_X11_passDay; exact (lt_eq eS1).trans ((lt_eq eS3).trans ((lt_eq eS5).trans ((lt_eq eS7).trans ((lt_eq eS9).trans ((lt_eq ev10).trans ((lt_eq eS12).trans ((lt_eq eS14).trans ((lt_eq eS16).trans ((lt_eq eS18).trans ((lt_eq eS19).trans (lt_eq eS20)))))))))))))
theorem c_X11_passDay {S : Mem}    (h : ok_X11_passDay S ) : Cts mdX11_passDay 5 127 [vr 11 0] S (Is none (f_X11_passDay S )) := Cts.of dtX11_passDay (by decide +kernel) rfl rfl (Nat.le_of_ble_eq_true rfl) rfl (fun O G => w_X11_passDay  h (fun _ h9 => ⟨rfl, h9.symm⟩))
