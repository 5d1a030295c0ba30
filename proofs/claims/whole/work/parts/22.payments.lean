def f_X10_finish (S : Mem) (i2 : Nat) (p3 : Int32) : Mem := lt ((upd2 S.1 kBlocked (f_X3_holder S (S.1 kFroms i2)) ((S.1 kBlocked (f_X3_holder S (S.1 kFroms i2))) - (S.1 kAmounts i2)), S.2)) (fun (S1 : Mem) => lt (f_X3_change S1 (S1.1 kFroms i2) (-(S1.1 kAmounts i2))) (fun (S3 : Mem) => lt (f_X3_change S3 (S3.1 kTos i2) (S3.1 kAmounts i2)) (fun (S5 : Mem) => lt ((upd2 S5.1 kStates i2 1, S5.2)) (fun (S6 : Mem) => lt ((upd2 S6.1 kDoneDays i2 p3, S6.2)) (fun (S7 : Mem) => S7)))))
def ok_X10_finish (S : Mem) (i2 : Nat) (p3 : Int32) : Prop := ((∀ S1 : Mem, ((upd2 S.1 kBlocked (f_X3_holder S (S.1 kFroms i2)) ((S.1 kBlocked (f_X3_holder S (S.1 kFroms i2))) - (S.1 kAmounts i2)), S.2)) = S1 → ((ok_X3_change S1 (S1.1 kFroms i2) (-(S1.1 kAmounts i2))) ∧ (∀ S3 : Mem, (f_X3_change S1 (S1.1 kFroms i2) (-(S1.1 kAmounts i2))) = S3 → ((ok_X3_change S3 (S3.1 kTos i2) (S3.1 kAmounts i2)))))))
abbrev fdX10_finish : FD := (mdX10_finish, [], 2, 45, 0, 0)
set_option maxRecDepth 100000 in
set_option maxHeartbeats 4000000 in
theorem w_X10_finish {O : Om} {G : Cx} {S : Mem} {PP : Option AV → Mem → Prop} (i2 : Nat) (p3 : Int32) (hi2 : i2 < 201)  (h : ok_X10_finish S i2 p3) (hP : ∀ S9, f_X10_finish S i2 p3 = S9 → PP none S9) : BW O G fdX10_finish 0 0 (QV O G 0 0 PP) S 0 [some (vr 10 0), some (vr 3 0), some (vr 9 i2), some (vi p3)] [] := by
  refine a_aload_n (pc := 0) 0 0 rfl rfl ?_
  refine a_aload_n (pc := 1) 0 1 rfl rfl ?_
  refine g_9_from (pc := 2) 0 2 rfl (by first | omega | assumption) fl_X10_30 ?_
  refine a_callVr (pc := 5) 0 3 (c_X3_holder (S := S) (S.1 kFroms i2)) rfl cv_X10_36 (by decide) rfl rfl rfl (rm rfl) ?_
  refine a_dup (pc := 8) 0 4 rfl rfl ?_
  refine g_5_blocked (pc := 9) 0 5 rfl (show f_X3_holder S (S.1 kFroms i2) < 17 from r_X3_holder) fl_X10_62 ?_
  refine a_aload_n (pc := 12) 0 6 rfl rfl ?_
  refine g_9_amount (pc := 13) 0 7 rfl (by first | omega | assumption) fl_X10_53 ?_
  refine a_isub (pc := 16) 0 8 rfl ?_
  refine p_5_blocked (pc := 17) 0 9 rfl (show f_X3_holder S (S.1 kFroms i2) < 17 from r_X3_holder) fl_X10_62 ?_
  refine a_set (fun S1 eS1 => ?_)
  have h := h S1 eS1
  refine a_aload_n (pc := 20) 0 10 rfl rfl ?_
  refine a_aload_n (pc := 21) 0 11 rfl rfl ?_
  refine g_9_from (pc := 22) 0 12 rfl (by first | omega | assumption) fl_X10_30 ?_
  refine a_aload_n (pc := 25) 0 13 rfl rfl ?_
  refine g_9_amount (pc := 26) 0 14 rfl (by first | omega | assumption) fl_X10_53 ?_
  refine a_ineg (pc := 29) 0 15 rfl ?_
  obtain ⟨o2, h⟩ := h
  refine a_callVv (pc := 30) 0 16 (c_X3_change (S := S1) (S1.1 kFroms i2) (-(S1.1 kAmounts i2)) o2) rfl cv_X10_69 (by decide) rfl rfl rfl (rm rfl) ?_
  refine a_set (fun S3 eS3 => ?_)
  have h := h S3 eS3
  refine a_aload_n (pc := 33) 0 17 rfl rfl ?_
  refine a_aload_n (pc := 34) 0 18 rfl rfl ?_
  refine g_9_to (pc := 35) 0 19 rfl (by first | omega | assumption) fl_X10_33 ?_
  refine a_aload_n (pc := 38) 0 20 rfl rfl ?_
  refine g_9_amount (pc := 39) 0 21 rfl (by first | omega | assumption) fl_X10_53 ?_
  have o4 := h
  refine a_callVv (pc := 42) 0 22 (c_X3_change (S := S3) (S3.1 kTos i2) (S3.1 kAmounts i2) o4) rfl cv_X10_69 (by decide) rfl rfl rfl (rm rfl) ?_
  refine a_set (fun S5 eS5 => ?_)
  refine a_aload_n (pc := 45) 0 23 rfl rfl ?_
  refine a_iconst (pc := 46) 0 24 (v := 1) rfl (by decide) ?_
  refine p_9_state (pc := 47) 0 25 rfl (by first | omega | assumption) fl_X10_59 ?_
  refine a_set (fun S6 eS6 => ?_)
  refine a_aload_n (pc := 50) 0 26 rfl rfl ?_
  refine a_iload_n (pc := 51) 0 27 rfl rfl ?_
  refine p_9_doneOn (pc := 52) 0 28 rfl (by first | omega | assumption) fl_X10_73 ?_
  refine a_set (fun S7 eS7 => ?_)
  exact a_vret (pc := 55) 0 29 rfl rfl (hP _ (by unfold f_X10_finish; exact (lt_eq eS1).trans ((lt_eq eS3).trans ((lt_eq eS5).trans ((lt_eq eS6).trans (lt_eq eS7))))))
theorem c_X10_finish {S : Mem} (i2 : Nat) (p3 : Int32) (hi2 : i2 < 201)  (h : ok_X10_finish S i2 p3) : Cts mdX10_finish 2 45 [vr 10 0, vr 3 0, vr 9 i2, vi p3] S (Is none (f_X10_finish S i2 p3)) := Cts.of dtX10_finish (by decide +kernel) rfl rfl (Nat.le_of_ble_eq_true rfl) rfl (fun O G => w_X10_finish i2 p3 hi2 h (fun _ h9 => ⟨rfl, h9.symm⟩))
def f_X10_tell (S : Mem) (p2 : Int32) (p3 : Int32) (p4 : Int32) (p5 : Int32) (p6 : Int32) : Int32 × Mem := lt ((upd2 S.1 kPayments 0 ((S.1 kPayments 0) + 1), S.2)) (fun (S1 : Mem) => lt ((upd2 S1.1 kFroms (f_X10_at S1 (S.1 kPayments 0)) p2, S1.2)) (fun (S2 : Mem) => lt ((upd2 S2.1 kTos (f_X10_at S1 (S.1 kPayments 0)) p3, S2.2)) (fun (S3 : Mem) => lt ((upd2 S3.1 kFromBank (f_X10_at S1 (S.1 kPayments 0)) (S3.1 kBankOf (f_X3_holder S3 p2)), S3.2)) (fun (S4 : Mem) => lt ((upd2 S4.1 kToBank (f_X10_at S1 (S.1 kPayments 0)) (S4.1 kBankOf (f_X3_holder S4 p3)), S4.2)) (fun (S5 : Mem) => lt ((upd2 S5.1 kAmounts (f_X10_at S1 (S.1 kPayments 0)) p4, S5.2)) (fun (S6 : Mem) => lt ((upd2 S6.1 kBoughtOn (f_X10_at S1 (S.1 kPayments 0)) p5, S6.2)) (fun (S7 : Mem) => lt ((upd2 S7.1 kStates (f_X10_at S1 (S.1 kPayments 0)) 0, S7.2)) (fun (S8 : Mem) => lt ((upd2 S8.1 kBlocked (f_X3_holder S8 p2) ((S8.1 kBlocked (f_X3_holder S8 p2)) + p4), S8.2)) (fun (S9 : Mem) => lt (if (S9.1 kFromBank (f_X10_at S1 (S.1 kPayments 0))) = (S9.1 kToBank (f_X10_at S1 (S.1 kPayments 0))) then (lt (f_X10_finish S9 (f_X10_at S1 (S.1 kPayments 0)) p6) (fun (S12 : Mem) => S12)) else (S9)) (fun (S13 : Mem) => (S.1 kPayments 0, S13)))))))))))
def ok_X10_tell (S : Mem) (p2 : Int32) (p3 : Int32) (p4 : Int32) (p5 : Int32) (p6 : Int32) : Prop := ((∀ S1 : Mem, ((upd2 S.1 kPayments 0 ((S.1 kPayments 0) + 1), S.2)) = S1 → ((∀ S2 : Mem, ((upd2 S1.1 kFroms (f_X10_at S1 (S.1 kPayments 0)) p2, S1.2)) = S2 → ((∀ S3 : Mem, ((upd2 S2.1 kTos (f_X10_at S1 (S.1 kPayments 0)) p3, S2.2)) = S3 → ((∀ S4 : Mem, ((upd2 S3.1 kFromBank (f_X10_at S1 (S.1 kPayments 0)) (S3.1 kBankOf (f_X3_holder S3 p2)), S3.2)) = S4 → ((∀ S5 : Mem, ((upd2 S4.1 kToBank (f_X10_at S1 (S.1 kPayments 0)) (S4.1 kBankOf (f_X3_holder S4 p3)), S4.2)) = S5 → ((∀ S6 : Mem, ((upd2 S5.1 kAmounts (f_X10_at S1 (S.1 kPayments 0)) p4, S5.2)) = S6 → ((∀ S7 : Mem, ((upd2 S6.1 kBoughtOn (f_X10_at S1 (S.1 kPayments 0)) p5, S6.2)) = S7 → ((∀ S8 : Mem, ((upd2 S7.1 kStates (f_X10_at S1 (S.1 kPayments 0)) 0, S7.2)) = S8 → ((∀ S9 : Mem, ((upd2 S8.1 kBlocked (f_X3_holder S8 p2) ((S8.1 kBlocked (f_X3_holder S8 p2)) + p4), S8.2)) = S9 → ((((S9.1 kFromBank (f_X10_at S1 (S.1 kPayments 0))) = (S9.1 kToBank (f_X10_at S1 (S.1 kPayments 0)))) → ((ok_X10_finish S9 (f_X10_at S1 (S.1 kPayments 0)) p6))))))))))))))))))))))
abbrev fdX10_tell : FD := (mdX10_tell, [], 3, 68, 0, 0)
set_option maxRecDepth 100000 in
set_option maxHeartbeats 4000000 in
theorem w_X10_tell {O : Om} {G : Cx} {S : Mem} {PP : Option AV → Mem → Prop} (p2 : Int32) (p3 : Int32) (p4 : Int32) (p5 : Int32) (p6 : Int32)   (h : ok_X10_tell S p2 p3 p4 p5 p6) (hP : ∀ x9 S9, f_X10_tell S p2 p3 p4 p5 p6 = (x9, S9) → PP (some (vi x9)) S9) : BW O G fdX10_tell 0 0 (QV O G 0 0 PP) S 0 [some (vr 10 0), some (vr 3 0), some (vi p2), some (vi p3), some (vi p4), some (vi p5), some (vi p6), none, none] [] := by
  refine a_aload_n (pc := 0) 0 0 rfl rfl ?_
  refine g_10_count (pc := 1) 0 1 rfl fl_X10_22 ?_
  refine a_istore (pc := 4) 0 2 (ls2 := [some (vr 10 0), some (vr 3 0), some (vi p2), some (vi p3), some (vi p4), some (vi p5), some (vi p6), some (vi (S.1 kPayments 0)), none]) rfl (by decide) rfl ?_
  refine a_aload_n (pc := 6) 0 3 rfl rfl ?_
  refine a_dup (pc := 7) 0 4 rfl rfl ?_
  refine g_10_count (pc := 8) 0 5 rfl fl_X10_22 ?_
  refine a_iconst (pc := 11) 0 6 (v := 1) rfl (by decide) ?_
  refine a_iadd (pc := 12) 0 7 rfl ?_
  refine p_10_count (pc := 13) 0 8 rfl fl_X10_22 ?_
  refine a_set (fun S1 eS1 => ?_)
  have h := h S1 eS1
  refine a_aload_n (pc := 16) 0 9 rfl rfl ?_
  refine a_iload (pc := 17) 0 10 rfl rfl ?_
  refine a_callVr (pc := 19) 0 11 (c_X10_at (S := S1) (S.1 kPayments 0)) rfl cv_X10_26 (by decide) rfl rfl rfl (rm rfl) ?_
  refine a_astore (pc := 22) 0 12 (ls2 := [some (vr 10 0), some (vr 3 0), some (vi p2), some (vi p3), some (vi p4), some (vi p5), some (vi p6), some (vi (S.1 kPayments 0)), some (vr 9 (f_X10_at S1 (S.1 kPayments 0)))]) rfl (by decide) rfl ?_
  refine a_aload (pc := 24) 0 13 rfl rfl ?_
  refine a_iload_n (pc := 26) 0 14 rfl rfl ?_
  refine p_9_from (pc := 27) 0 15 rfl (show f_X10_at S1 (S.1 kPayments 0) < 201 from r_X10_at) fl_X10_30 ?_
  refine a_set (fun S2 eS2 => ?_)
  have h := h S2 eS2
  refine a_aload (pc := 30) 0 16 rfl rfl ?_
  refine a_iload_n (pc := 32) 0 17 rfl rfl ?_
  refine p_9_to (pc := 33) 0 18 rfl (show f_X10_at S1 (S.1 kPayments 0) < 201 from r_X10_at) fl_X10_33 ?_
  refine a_set (fun S3 eS3 => ?_)
  have h := h S3 eS3
  refine a_aload (pc := 36) 0 19 rfl rfl ?_
  refine a_aload_n (pc := 38) 0 20 rfl rfl ?_
  refine a_iload_n (pc := 39) 0 21 rfl rfl ?_
  refine a_callVr (pc := 40) 0 22 (c_X3_holder (S := S3) p2) rfl cv_X10_36 (by decide) rfl rfl rfl (rm rfl) ?_
  refine g_5_bank (pc := 43) 0 23 rfl (show f_X3_holder S3 p2 < 17 from r_X3_holder) fl_X10_42 ?_
  refine p_9_fromBank (pc := 46) 0 24 rfl (show f_X10_at S1 (S.1 kPayments 0) < 201 from r_X10_at) fl_X10_47 ?_
  refine a_set (fun S4 eS4 => ?_)
  have h := h S4 eS4
  refine a_aload (pc := 49) 0 25 rfl rfl ?_
  refine a_aload_n (pc := 51) 0 26 rfl rfl ?_
  refine a_iload_n (pc := 52) 0 27 rfl rfl ?_
  refine a_callVr (pc := 53) 0 28 (c_X3_holder (S := S4) p3) rfl cv_X10_36 (by decide) rfl rfl rfl (rm rfl) ?_
  refine g_5_bank (pc := 56) 0 29 rfl (show f_X3_holder S4 p3 < 17 from r_X3_holder) fl_X10_42 ?_
  refine p_9_toBank (pc := 59) 0 30 rfl (show f_X10_at S1 (S.1 kPayments 0) < 201 from r_X10_at) fl_X10_50 ?_
  refine a_set (fun S5 eS5 => ?_)
  have h := h S5 eS5
  refine a_aload (pc := 62) 0 31 rfl rfl ?_
  refine a_iload (pc := 64) 0 32 rfl rfl ?_
  refine p_9_amount (pc := 66) 0 33 rfl (show f_X10_at S1 (S.1 kPayments 0) < 201 from r_X10_at) fl_X10_53 ?_
  refine a_set (fun S6 eS6 => ?_)
  have h := h S6 eS6
  refine a_aload (pc := 69) 0 34 rfl rfl ?_
  refine a_iload (pc := 71) 0 35 rfl rfl ?_
  refine p_9_boughtOn (pc := 73) 0 36 rfl (show f_X10_at S1 (S.1 kPayments 0) < 201 from r_X10_at) fl_X10_56 ?_
  refine a_set (fun S7 eS7 => ?_)
  have h := h S7 eS7
  refine a_aload (pc := 76) 0 37 rfl rfl ?_
  refine a_iconst (pc := 78) 0 38 (v := 0) rfl (by decide) ?_
  refine p_9_state (pc := 79) 0 39 rfl (show f_X10_at S1 (S.1 kPayments 0) < 201 from r_X10_at) fl_X10_59 ?_
  refine a_set (fun S8 eS8 => ?_)
  have h := h S8 eS8
  refine a_aload_n (pc := 82) 0 40 rfl rfl ?_
  refine a_iload_n (pc := 83) 0 41 rfl rfl ?_
  refine a_callVr (pc := 84) 0 42 (c_X3_holder (S := S8) p2) rfl cv_X10_36 (by decide) rfl rfl rfl (rm rfl) ?_
  refine a_dup (pc := 87) 0 43 rfl rfl ?_
  refine g_5_blocked (pc := 88) 0 44 rfl (show f_X3_holder S8 p2 < 17 from r_X3_holder) fl_X10_62 ?_
  refine a_iload (pc := 91) 0 45 rfl rfl ?_
  refine a_iadd (pc := 93) 0 46 rfl ?_
  refine p_5_blocked (pc := 94) 0 47 rfl (show f_X3_holder S8 p2 < 17 from r_X3_holder) fl_X10_62 ?_
  refine a_set (fun S9 eS9 => ?_)
  have h := h S9 eS9
  refine a_aload (pc := 97) 1 0 rfl rfl ?_
  refine g_9_fromBank (pc := 99) 1 1 rfl (show f_X10_at S1 (S.1 kPayments 0) < 201 from r_X10_at) fl_X10_47 ?_
  refine a_aload (pc := 102) 1 2 rfl rfl ?_
  refine g_9_toBank (pc := 104) 1 3 rfl (show f_X10_at S1 (S.1 kPayments 0) < 201 from r_X10_at) fl_X10_50 ?_
  have J119_13 : ∀ (S13 : Mem) (eS13 : (if (S9.1 kFromBank (f_X10_at S1 (S.1 kPayments 0))) = (S9.1 kToBank (f_X10_at S1 (S.1 kPayments 0))) then (lt (f_X10_finish S9 (f_X10_at S1 (S.1 kPayments 0)) p6) (fun (S12 : Mem) => S12)) else (S9)) = S13), BW O G fdX10_tell 0 0 (QV O G 0 0 PP) S13 119 [some (vr 10 0), some (vr 3 0), some (vi p2), some (vi p3), some (vi p4), some (vi p5), some (vi p6), some (vi (S.1 kPayments 0)), some (vr 9 (f_X10_at S1 (S.1 kPayments 0)))] [] := by
    intro S13 eS13
    refine a_iload (pc := 119) 1 10 rfl rfl ?_
    exact a_iret (pc := 121) 1 11 rfl rfl (hP _ _ (by unfold f_X10_tell; exact (lt_eq eS1).trans ((lt_eq eS2).trans ((lt_eq eS3).trans ((lt_eq eS4).trans ((lt_eq eS5).trans ((lt_eq eS6).trans ((lt_eq eS7).trans ((lt_eq eS8).trans ((lt_eq eS9).trans (lt_eq eS13)))))))))))
  refine a_icmp_ne (pc := 107) (tgt := 119) 1 4 rfl (by decide) (fun c107_9 => ?_) (fun c107_9 => ?_)
  · exact J119_13 _ (by exact (if_neg c107_9))
  · have h := h c107_9
    refine a_aload_n (pc := 110) 1 5 rfl rfl ?_
    refine a_aload_n (pc := 111) 1 6 rfl rfl ?_
    refine a_aload (pc := 112) 1 7 rfl rfl ?_
    refine a_iload (pc := 114) 1 8 rfl rfl ?_
    have o11 := h
    refine a_callVv (pc := 116) 1 9 (c_X10_finish (S := S9) (f_X10_at S1 (S.1 kPayments 0)) p6 (show f_X10_at S1 (S.1 kPayments 0) < 201 from r_X10_at) o11) rfl cv_X10_65 (by decide) rfl rfl rfl (rm rfl) ?_
    refine a_set (fun S12 eS12 => ?_)
    exact J119_13 _ (by exact ((if_pos c107_9).trans (lt_eq eS12)))
theorem c_X10_tell {S : Mem} (p2 : Int32) (p3 : Int32) (p4 : Int32) (p5 : Int32) (p6 : Int32)   (h : ok_X10_tell S p2 p3 p4 p5 p6) : Cts mdX10_tell 3 68 [vr 10 0, vr 3 0, vi p2, vi p3, vi p4, vi p5, vi p6] S (Is (some (vi (f_X10_tell S p2 p3 p4 p5 p6).1)) ((f_X10_tell S p2 p3 p4 p5 p6).2)) := Cts.of dtX10_tell (by decide +kernel) rfl rfl (Nat.le_of_ble_eq_true rfl) rfl (fun O G => w_X10_tell p2 p3 p4 p5 p6 h (fun _ _ h9 => ⟨by rw [h9], by rw [h9]⟩))
def b2_X10_chooseAllThatWait  (j1 : Nat) (σ2 : Mem) : Mem := lt ((upd2 σ2.1 kNets (f_X3_bank σ2 (nI j1)) 0, σ2.2)) (fun (S3 : Mem) => S3)
def b24_X10_chooseAllThatWait  (j4 : Nat) (σ5 : Mem) : Mem := lt (if (σ5.1 kStates (f_X10_at σ5 (nI j4))) = 0 then (1) else (0)) (fun (v8 : Int32) => lt ((upd2 σ5.1 kAreChosen (f_X10_at σ5 (nI j4)) v8, σ5.2)) (fun (S9 : Mem) => lt (if (S9.1 kAreChosen (f_X10_at σ5 (nI j4))) = 0 then (S9) else (lt ((upd2 S9.1 kNets (f_X3_bank S9 (S9.1 kFromBank (f_X10_at σ5 (nI j4)))) ((S9.1 kNets (f_X3_bank S9 (S9.1 kFromBank (f_X10_at σ5 (nI j4))))) - (S9.1 kAmounts (f_X10_at σ5 (nI j4)))), S9.2)) (fun (S11 : Mem) => lt ((upd2 S11.1 kNets (f_X3_bank S11 (S11.1 kToBank (f_X10_at σ5 (nI j4)))) ((S11.1 kNets (f_X3_bank S11 (S11.1 kToBank (f_X10_at σ5 (nI j4))))) + (S11.1 kAmounts (f_X10_at σ5 (nI j4)))), S11.2)) (fun (S12 : Mem) => S12)))) (fun (S13 : Mem) => S13)))
def f_X10_chooseAllThatWait (S : Mem)  : Mem := lt (iter (b2_X10_chooseAllThatWait) S (4)) (fun (σ2 : Mem) => lt (iter (b24_X10_chooseAllThatWait) σ2 (ix (σ2.1 kPayments 0))) (fun (σ5 : Mem) => σ5))
def ok_X10_chooseAllThatWait (S : Mem)  : Prop := ((∀ σ2 : Mem, iter (b2_X10_chooseAllThatWait) S (4) = σ2 → ((∀ j4 : Nat, j4 ≤ ix (σ2.1 kPayments 0) → ∀ σ5 : Mem, iter (b24_X10_chooseAllThatWait) σ2 j4 = σ5 → σ5.1 kPayments 0 = nI (ix (σ2.1 kPayments 0))))))
abbrev fdX10_chooseAllThatWait : FD := (mdX10_chooseAllThatWait, [], 1, 22, 0, 0)
set_option maxRecDepth 100000 in
set_option maxHeartbeats 4000000 in
theorem w_X10_chooseAllThatWait {O : Om} {G : Cx} {S : Mem} {PP : Option AV → Mem → Prop}    (h : ok_X10_chooseAllThatWait S ) (hP : ∀ S9, f_X10_chooseAllThatWait S  = S9 → PP none S9) : BW O G fdX10_chooseAllThatWait 0 0 (QV O G 0 0 PP) S 0 [some (vr 10 0), some (vr 3 0), none, none] [] := by
  refine a_iconst (pc := 0) 0 0 (v := 0) rfl (by decide) ?_
  refine a_istore_n (pc := 1) 0 1 (ls2 := [some (vr 10 0), some (vr 3 0), some (vi 0), none]) rfl rfl (by decide) rfl ?_
  have L2_13 : ∀ (m_j1 j1 : Nat), j1 + m_j1 = 4 → ∀ (σ2 : Mem), iter (b2_X10_chooseAllThatWait) S j1 = σ2 → BW O G fdX10_chooseAllThatWait 0 0 (QV O G 0 0 PP) σ2 2 [some (vr 10 0), some (vr 3 0), some (vi (nI j1)), none] [] := by
    intro m_j1
    induction m_j1 with
    | zero =>
      intro j1 hj_j1 σ2 eσ2
      have hn_j1 : j1 = 4 := by omega
      rw [hn_j1] at eσ2
      have h := h σ2 eσ2
      refine a_iload_n (pc := 2) 0 2 rfl rfl ?_
      refine a_iconst (pc := 3) 0 3 (v := nI 4) rfl (by decide) ?_
      refine a_icmp_ge_t (pc := 4) (tgt := 22) 0 4 rfl (by decide) (nI_le (by omega) (by omega)) ?_
      refine a_iconst (pc := 22) 0 12 (v := 0) rfl (by decide) ?_
      refine a_istore_n (pc := 23) 0 13 (ls2 := [some (vr 10 0), some (vr 3 0), some (vi 0), none]) rfl rfl (by decide) rfl ?_
      have o6 := h
      have nlt_j4 := ix_lt (σ2.1 kPayments 0)
      have L24_14 : ∀ (m_j4 j4 : Nat), j4 + m_j4 = ix (σ2.1 kPayments 0) → ∀ (σ5 : Mem), iter (b24_X10_chooseAllThatWait) σ2 j4 = σ5 → BW O G fdX10_chooseAllThatWait 0 0 (QV O G 0 0 PP) σ5 24 [some (vr 10 0), some (vr 3 0), some (vi (nI j4)), none] [] := by
        intro m_j4
        induction m_j4 with
        | zero =>
          intro j4 hj_j4 σ5 eσ5
          have o6 := o6 j4 (by omega) σ5 eσ5
          have hn_j4 : j4 = ix (σ2.1 kPayments 0) := by omega
          rw [hn_j4] at eσ5
          refine a_iload_n (pc := 24) 0 14 rfl rfl ?_
          refine a_aload_n (pc := 25) 0 15 rfl rfl ?_
          refine g_10_count (pc := 26) 0 16 rfl fl_X10_22 ?_
          refine a_icmp_ge_t (pc := 29) (tgt := 107) 0 17 rfl (by decide) (bd_t (o6) (by omega)) ?_
          exact a_vret (pc := 107) 1 7 rfl rfl (hP _ (by unfold f_X10_chooseAllThatWait; exact (lt_eq eσ2).trans (lt_eq eσ5)))
        | succ m_j4 ih_j4 =>
          intro j4 hj_j4 σ5 eσ5
          have o6 := o6 j4 (by omega) σ5 eσ5
          refine a_iload_n (pc := 24) 0 14 rfl rfl ?_
          refine a_aload_n (pc := 25) 0 15 rfl rfl ?_
          refine g_10_count (pc := 26) 0 16 rfl fl_X10_22 ?_
          refine a_icmp_ge_f (pc := 29) (tgt := 107) 0 17 rfl (bd_f (o6) (by omega)) (by decide) ?_
          refine a_aload_n (pc := 32) 0 18 rfl rfl ?_
          refine a_iload_n (pc := 33) 0 19 rfl rfl ?_
          refine a_callVr (pc := 34) 0 20 (c_X10_at (S := σ5) (nI j4)) rfl cv_X10_26 (by decide) rfl rfl rfl (rm rfl) ?_
          refine a_astore_n (pc := 37) 0 21 (ls2 := [some (vr 10 0), some (vr 3 0), some (vi (nI j4)), some (vr 9 (f_X10_at σ5 (nI j4)))]) rfl rfl (by decide) rfl ?_
          refine a_aload_n (pc := 38) 0 22 rfl rfl ?_
          refine a_aload_n (pc := 39) 0 23 rfl rfl ?_
          refine g_9_state (pc := 40) 0 24 rfl (show f_X10_at σ5 (nI j4) < 201 from r_X10_at) fl_X10_59 ?_
          have J51_15 : ∀ (v8 : Int32) (ev8 : (if (σ5.1 kStates (f_X10_at σ5 (nI j4))) = 0 then (1) else (0)) = v8), BW O G fdX10_chooseAllThatWait 0 0 (QV O G 0 0 PP) σ5 51 [some (vr 10 0), some (vr 3 0), some (vi (nI j4)), some (vr 9 (f_X10_at σ5 (nI j4)))] [vi v8, vr 9 (f_X10_at σ5 (nI j4))] := by
            intro v8 ev8
            refine p_9_isChosen (pc := 51) 0 29 rfl (show f_X10_at σ5 (nI j4) < 201 from r_X10_at) fl_X10_100 (by rw [← ev8]; repeat (first | exact Or.inl rfl | exact Or.inr rfl | assumption | split | dsimp only [lt])) ?_
            refine a_set (fun S9 eS9 => ?_)
            refine a_aload_n (pc := 54) 0 30 rfl rfl ?_
            refine g_9_isChosen (pc := 55) 0 31 rfl (show f_X10_at σ5 (nI j4) < 201 from r_X10_at) fl_X10_100 ?_
            have J101_16 : ∀ (S13 : Mem) (eS13 : (if (S9.1 kAreChosen (f_X10_at σ5 (nI j4))) = 0 then (S9) else (lt ((upd2 S9.1 kNets (f_X3_bank S9 (S9.1 kFromBank (f_X10_at σ5 (nI j4)))) ((S9.1 kNets (f_X3_bank S9 (S9.1 kFromBank (f_X10_at σ5 (nI j4))))) - (S9.1 kAmounts (f_X10_at σ5 (nI j4)))), S9.2)) (fun (S11 : Mem) => lt ((upd2 S11.1 kNets (f_X3_bank S11 (S11.1 kToBank (f_X10_at σ5 (nI j4)))) ((S11.1 kNets (f_X3_bank S11 (S11.1 kToBank (f_X10_at σ5 (nI j4))))) + (S11.1 kAmounts (f_X10_at σ5 (nI j4)))), S11.2)) (fun (S12 : Mem) => S12)))) = S13), BW O G fdX10_chooseAllThatWait 0 0 (QV O G 0 0 PP) S13 101 [some (vr 10 0), some (vr 3 0), some (vi (nI j4)), some (vr 9 (f_X10_at σ5 (nI j4)))] [] := by
              intro S13 eS13
              refine a_iinc (pc := 101) 1 5 (v := nI (j4 + 1)) (ls2 := [some (vr 10 0), some (vr 3 0), some (vi (nI (j4 + 1))), some (vr 9 (f_X10_at σ5 (nI j4)))]) rfl rfl (iinc1 _) (by decide) rfl ?_
              refine a_goto (pc := 104) (tgt := 24) 1 6 rfl (by decide) ?_
              refine a_drop (ls2 := [some (vr 10 0), some (vr 3 0), some (vi (nI (j4 + 1))), none]) (⟨rfl, rfl, rfl, trivial⟩) ?_
              exact ih_j4 (j4 + 1) (by omega) S13 (by rw [iter_succ, eσ5]; unfold b24_X10_chooseAllThatWait; exact ((lt_eq ev8).trans ((lt_eq eS9).trans (lt_eq eS13))))
            refine a_if_eq (pc := 58) (tgt := 101) 0 32 rfl (by decide) (fun c58_9 => ?_) (fun c58_9 => ?_)
            · exact J101_16 _ (by exact (if_pos c58_9))
            · refine a_aload_n (pc := 61) 0 33 rfl rfl ?_
              refine a_aload_n (pc := 62) 0 34 rfl rfl ?_
              refine g_9_fromBank (pc := 63) 0 35 rfl (show f_X10_at σ5 (nI j4) < 201 from r_X10_at) fl_X10_47 ?_
              refine a_callVr (pc := 66) 0 36 (c_X3_bank (S := S9) (S9.1 kFromBank (f_X10_at σ5 (nI j4)))) rfl cv_X10_92 (by decide) rfl rfl rfl (rm rfl) ?_
              refine a_dup (pc := 69) 0 37 rfl rfl ?_
              refine g_0_net (pc := 70) 0 38 rfl (show f_X3_bank S9 (S9.1 kFromBank (f_X10_at σ5 (nI j4))) < 5 from r_X3_bank) fl_X10_95 ?_
              refine a_aload_n (pc := 73) 0 39 rfl rfl ?_
              refine g_9_amount (pc := 74) 0 40 rfl (show f_X10_at σ5 (nI j4) < 201 from r_X10_at) fl_X10_53 ?_
              refine a_isub (pc := 77) 0 41 rfl ?_
              refine p_0_net (pc := 78) 0 42 rfl (show f_X3_bank S9 (S9.1 kFromBank (f_X10_at σ5 (nI j4))) < 5 from r_X3_bank) fl_X10_95 ?_
              refine a_set (fun S11 eS11 => ?_)
              refine a_aload_n (pc := 81) 0 43 rfl rfl ?_
              refine a_aload_n (pc := 82) 0 44 rfl rfl ?_
              refine g_9_toBank (pc := 83) 0 45 rfl (show f_X10_at σ5 (nI j4) < 201 from r_X10_at) fl_X10_50 ?_
              refine a_callVr (pc := 86) 0 46 (c_X3_bank (S := S11) (S11.1 kToBank (f_X10_at σ5 (nI j4)))) rfl cv_X10_92 (by decide) rfl rfl rfl (rm rfl) ?_
              refine a_dup (pc := 89) 0 47 rfl rfl ?_
              refine g_0_net (pc := 90) 1 0 rfl (show f_X3_bank S11 (S11.1 kToBank (f_X10_at σ5 (nI j4))) < 5 from r_X3_bank) fl_X10_95 ?_
              refine a_aload_n (pc := 93) 1 1 rfl rfl ?_
              refine g_9_amount (pc := 94) 1 2 rfl (show f_X10_at σ5 (nI j4) < 201 from r_X10_at) fl_X10_53 ?_
              refine a_iadd (pc := 97) 1 3 rfl ?_
              refine p_0_net (pc := 98) 1 4 rfl (show f_X3_bank S11 (S11.1 kToBank (f_X10_at σ5 (nI j4))) < 5 from r_X3_bank) fl_X10_95 ?_
              refine a_set (fun S12 eS12 => ?_)
              exact J101_16 _ (by exact ((if_neg c58_9).trans ((lt_eq eS11).trans (lt_eq eS12))))
          refine a_if_ne (pc := 43) (tgt := 50) 0 25 rfl (by decide) (fun c43_6 => ?_) (fun c43_6 => ?_)
          · refine a_iconst (pc := 50) 0 28 (v := 0) rfl (by decide) ?_
            exact J51_15 _ (by exact (if_neg c43_6))
          · refine a_iconst (pc := 46) 0 26 (v := 1) rfl (by decide) ?_
            refine a_goto (pc := 47) (tgt := 51) 0 27 rfl (by decide) ?_
            exact J51_15 _ (by exact (if_pos c43_6))
      exact L24_14 (ix (σ2.1 kPayments 0)) 0 (by omega) σ2 rfl
    | succ m_j1 ih_j1 =>
      intro j1 hj_j1 σ2 eσ2
      refine a_iload_n (pc := 2) 0 2 rfl rfl ?_
      refine a_iconst (pc := 3) 0 3 (v := nI 4) rfl (by decide) ?_
      refine a_icmp_ge_f (pc := 4) (tgt := 22) 0 4 rfl (nI_ge (by omega) (by omega)) (by decide) ?_
      refine a_aload_n (pc := 7) 0 5 rfl rfl ?_
      refine a_iload_n (pc := 8) 0 6 rfl rfl ?_
      refine a_callVr (pc := 9) 0 7 (c_X3_bank (S := σ2) (nI j1)) rfl cv_X10_92 (by decide) rfl rfl rfl (rm rfl) ?_
      refine a_iconst (pc := 12) 0 8 (v := 0) rfl (by decide) ?_
      refine p_0_net (pc := 13) 0 9 rfl (show f_X3_bank σ2 (nI j1) < 5 from r_X3_bank) fl_X10_95 ?_
      refine a_set (fun S3 eS3 => ?_)
      refine a_iinc (pc := 16) 0 10 (v := nI (j1 + 1)) (ls2 := [some (vr 10 0), some (vr 3 0), some (vi (nI (j1 + 1))), none]) rfl rfl (iinc1 _) (by decide) rfl ?_
      refine a_goto (pc := 19) (tgt := 2) 0 11 rfl (by decide) ?_
      exact ih_j1 (j1 + 1) (by omega) S3 (by rw [iter_succ, eσ2]; unfold b2_X10_chooseAllThatWait; exact (lt_eq eS3))
  exact L2_13 (4) 0 (by omega) S rfl
theorem c_X10_chooseAllThatWait {S : Mem}    (h : ok_X10_chooseAllThatWait S ) : Cts mdX10_chooseAllThatWait 1 22 [vr 10 0, vr 3 0] S (Is none (f_X10_chooseAllThatWait S )) := Cts.of dtX10_chooseAllThatWait (by decide +kernel) rfl rfl (Nat.le_of_ble_eq_true rfl) rfl (fun O G => w_X10_chooseAllThatWait  h (fun _ h9 => ⟨rfl, h9.symm⟩))
def b2_X10_finishChosen  (j1 : Nat) (σ2 : Mem) : Mem := lt ((upd2 σ2.1 kReserves (f_X3_bank σ2 (nI j1)) ((σ2.1 kReserves (f_X3_bank σ2 (nI j1))) + (σ2.1 kNets (f_X3_bank σ2 (nI j1)))), σ2.2)) (fun (S3 : Mem) => S3)
def b40_X10_finishChosen (p2 : Int32) (j4 : Nat) (σ5 : Int32 × Mem) : Int32 × Mem := lt (if (σ5.2.1 kAreChosen (f_X10_at σ5.2 (nI j4))) = 0 then (σ5.1) else (lt (f_X10_finish σ5.2 (f_X10_at σ5.2 (nI j4)) p2) (fun (S9 : Mem) => σ5.1 + 1))) (fun (v10 : Int32) => lt (if (σ5.2.1 kAreChosen (f_X10_at σ5.2 (nI j4))) = 0 then (σ5.2) else (lt (f_X10_finish σ5.2 (f_X10_at σ5.2 (nI j4)) p2) (fun (S9 : Mem) => S9))) (fun (S11 : Mem) => (v10, S11)))
def f_X10_finishChosen (S : Mem) (p2 : Int32) : Int32 × Mem := lt (iter (b2_X10_finishChosen) S (4)) (fun (σ2 : Mem) => lt (iter (b40_X10_finishChosen p2) (0, σ2) (ix (σ2.1 kPayments 0))) (fun (σ5 : Int32 × Mem) => (σ5.1, σ5.2)))
def ok_X10_finishChosen (S : Mem) (p2 : Int32) : Prop := ((∀ σ2 : Mem, iter (b2_X10_finishChosen) S (4) = σ2 → ((∀ j4 : Nat, j4 ≤ ix (σ2.1 kPayments 0) → ∀ σ5 : Int32 × Mem, iter (b40_X10_finishChosen p2) (0, σ2) j4 = σ5 → σ5.2.1 kPayments 0 = nI (ix (σ2.1 kPayments 0))) ∧ (∀ j4 : Nat, j4 < ix (σ2.1 kPayments 0) → ∀ σ5 : Int32 × Mem, iter (b40_X10_finishChosen p2) (0, σ2) j4 = σ5 → (((¬ ((σ5.2.1 kAreChosen (f_X10_at σ5.2 (nI j4))) = 0)) → ((ok_X10_finish σ5.2 (f_X10_at σ5.2 (nI j4)) p2))))))))
abbrev fdX10_finishChosen : FD := (mdX10_finishChosen, [], 3, 68, 0, 0)
set_option maxRecDepth 100000 in
set_option maxHeartbeats 4000000 in
theorem w_X10_finishChosen {O : Om} {G : Cx} {S : Mem} {PP : Option AV → Mem → Prop} (p2 : Int32)   (h : ok_X10_finishChosen S p2) (hP : ∀ x9 S9, f_X10_finishChosen S p2 = (x9, S9) → PP (some (vi x9)) S9) : BW O G fdX10_finishChosen 0 0 (QV O G 0 0 PP) S 0 [some (vr 10 0), some (vr 3 0), some (vi p2), none, none, none] [] := by
  refine a_iconst (pc := 0) 0 0 (v := 0) rfl (by decide) ?_
  refine a_istore_n (pc := 1) 0 1 (ls2 := [some (vr 10 0), some (vr 3 0), some (vi p2), some (vi 0), none, none]) rfl rfl (by decide) rfl ?_
  have L2_11 : ∀ (m_j1 j1 : Nat), j1 + m_j1 = 4 → ∀ (σ2 : Mem), iter (b2_X10_finishChosen) S j1 = σ2 → BW O G fdX10_finishChosen 0 0 (QV O G 0 0 PP) σ2 2 [some (vr 10 0), some (vr 3 0), some (vi p2), some (vi (nI j1)), none, none] [] := by
    intro m_j1
    induction m_j1 with
    | zero =>
      intro j1 hj_j1 σ2 eσ2
      have hn_j1 : j1 = 4 := by omega
      rw [hn_j1] at eσ2
      have h := h σ2 eσ2
      refine a_iload_n (pc := 2) 0 2 rfl rfl ?_
      refine a_iconst (pc := 3) 0 3 (v := nI 4) rfl (by decide) ?_
      refine a_icmp_ge_t (pc := 4) (tgt := 35) 0 4 rfl (by decide) (nI_le (by omega) (by omega)) ?_
      refine a_iconst (pc := 35) 0 18 (v := 0) rfl (by decide) ?_
      refine a_istore_n (pc := 36) 0 19 (ls2 := [some (vr 10 0), some (vr 3 0), some (vi p2), some (vi 0), none, none]) rfl rfl (by decide) rfl ?_
      refine a_iconst (pc := 37) 0 20 (v := 0) rfl (by decide) ?_
      refine a_istore (pc := 38) 0 21 (ls2 := [some (vr 10 0), some (vr 3 0), some (vi p2), some (vi 0), some (vi 0), none]) rfl (by decide) rfl ?_
      obtain ⟨o6, hb_j4⟩ := h
      have nlt_j4 := ix_lt (σ2.1 kPayments 0)
      have L40_12 : ∀ (m_j4 j4 : Nat), j4 + m_j4 = ix (σ2.1 kPayments 0) → ∀ (σ5 : Int32 × Mem), iter (b40_X10_finishChosen p2) (0, σ2) j4 = σ5 → BW O G fdX10_finishChosen 0 0 (QV O G 0 0 PP) σ5.2 40 [some (vr 10 0), some (vr 3 0), some (vi p2), some (vi σ5.1), some (vi (nI j4)), none] [] := by
        intro m_j4
        induction m_j4 with
        | zero =>
          intro j4 hj_j4 σ5 eσ5
          have o6 := o6 j4 (by omega) σ5 eσ5
          have hn_j4 : j4 = ix (σ2.1 kPayments 0) := by omega
          rw [hn_j4] at eσ5
          refine a_iload (pc := 40) 0 22 rfl rfl ?_
          refine a_aload_n (pc := 42) 0 23 rfl rfl ?_
          refine g_10_count (pc := 43) 0 24 rfl fl_X10_22 ?_
          refine a_icmp_ge_t (pc := 46) (tgt := 82) 0 25 rfl (by decide) (bd_t (o6) (by omega)) ?_
          refine a_iload_n (pc := 82) 0 41 rfl rfl ?_
          exact a_iret (pc := 83) 0 42 rfl rfl (hP _ _ (by unfold f_X10_finishChosen; exact (lt_eq eσ2).trans (lt_eq eσ5)))
        | succ m_j4 ih_j4 =>
          intro j4 hj_j4 σ5 eσ5
          have o6 := o6 j4 (by omega) σ5 eσ5
          have h := hb_j4 j4 (by omega) σ5 eσ5
          refine a_iload (pc := 40) 0 22 rfl rfl ?_
          refine a_aload_n (pc := 42) 0 23 rfl rfl ?_
          refine g_10_count (pc := 43) 0 24 rfl fl_X10_22 ?_
          refine a_icmp_ge_f (pc := 46) (tgt := 82) 0 25 rfl (bd_f (o6) (by omega)) (by decide) ?_
          refine a_aload_n (pc := 49) 0 26 rfl rfl ?_
          refine a_iload (pc := 50) 0 27 rfl rfl ?_
          refine a_callVr (pc := 52) 0 28 (c_X10_at (S := σ5.2) (nI j4)) rfl cv_X10_26 (by decide) rfl rfl rfl (rm rfl) ?_
          refine a_astore (pc := 55) 0 29 (ls2 := [some (vr 10 0), some (vr 3 0), some (vi p2), some (vi σ5.1), some (vi (nI j4)), some (vr 9 (f_X10_at σ5.2 (nI j4)))]) rfl (by decide) rfl ?_
          refine a_aload (pc := 57) 0 30 rfl rfl ?_
          refine g_9_isChosen (pc := 59) 0 31 rfl (show f_X10_at σ5.2 (nI j4) < 201 from r_X10_at) fl_X10_100 ?_
          have J76_13 : ∀ (v10 : Int32) (ev10 : (if (σ5.2.1 kAreChosen (f_X10_at σ5.2 (nI j4))) = 0 then (σ5.1) else (lt (f_X10_finish σ5.2 (f_X10_at σ5.2 (nI j4)) p2) (fun (S9 : Mem) => σ5.1 + 1))) = v10) (S11 : Mem) (eS11 : (if (σ5.2.1 kAreChosen (f_X10_at σ5.2 (nI j4))) = 0 then (σ5.2) else (lt (f_X10_finish σ5.2 (f_X10_at σ5.2 (nI j4)) p2) (fun (S9 : Mem) => S9))) = S11), BW O G fdX10_finishChosen 0 0 (QV O G 0 0 PP) S11 76 [some (vr 10 0), some (vr 3 0), some (vi p2), some (vi v10), some (vi (nI j4)), some (vr 9 (f_X10_at σ5.2 (nI j4)))] [] := by
            intro v10 ev10 S11 eS11
            refine a_iinc (pc := 76) 0 39 (v := nI (j4 + 1)) (ls2 := [some (vr 10 0), some (vr 3 0), some (vi p2), some (vi v10), some (vi (nI (j4 + 1))), some (vr 9 (f_X10_at σ5.2 (nI j4)))]) rfl rfl (iinc1 _) (by decide) rfl ?_
            refine a_goto (pc := 79) (tgt := 40) 0 40 rfl (by decide) ?_
            refine a_drop (ls2 := [some (vr 10 0), some (vr 3 0), some (vi p2), some (vi v10), some (vi (nI (j4 + 1))), none]) (⟨rfl, rfl, rfl, rfl, rfl, trivial⟩) ?_
            exact ih_j4 (j4 + 1) (by omega) (v10, S11) (by rw [iter_succ, eσ5]; unfold b40_X10_finishChosen; exact ((lt_eq ev10).trans (lt_eq eS11)))
          refine a_if_eq (pc := 62) (tgt := 76) 0 32 rfl (by decide) (fun c62_6 => ?_) (fun c62_6 => ?_)
          · exact J76_13 _ (by exact (if_pos c62_6)) _ (by exact (if_pos c62_6))
          · have h := h c62_6
            refine a_aload_n (pc := 65) 0 33 rfl rfl ?_
            refine a_aload_n (pc := 66) 0 34 rfl rfl ?_
            refine a_aload (pc := 67) 0 35 rfl rfl ?_
            refine a_iload_n (pc := 69) 0 36 rfl rfl ?_
            have o8 := h
            refine a_callVv (pc := 70) 0 37 (c_X10_finish (S := σ5.2) (f_X10_at σ5.2 (nI j4)) p2 (show f_X10_at σ5.2 (nI j4) < 201 from r_X10_at) o8) rfl cv_X10_65 (by decide) rfl rfl rfl (rm rfl) ?_
            refine a_set (fun S9 eS9 => ?_)
            refine a_iinc (pc := 73) 0 38 (v := σ5.1 + 1) (ls2 := [some (vr 10 0), some (vr 3 0), some (vi p2), some (vi (σ5.1 + 1)), some (vi (nI j4)), some (vr 9 (f_X10_at σ5.2 (nI j4)))]) rfl rfl rfl (by decide) rfl ?_
            exact J76_13 _ (by exact ((if_neg c62_6).trans (lt_eq eS9))) _ (by exact ((if_neg c62_6).trans (lt_eq eS9)))
      exact L40_12 (ix (σ2.1 kPayments 0)) 0 (by omega) (0, σ2) rfl
    | succ m_j1 ih_j1 =>
      intro j1 hj_j1 σ2 eσ2
      refine a_iload_n (pc := 2) 0 2 rfl rfl ?_
      refine a_iconst (pc := 3) 0 3 (v := nI 4) rfl (by decide) ?_
      refine a_icmp_ge_f (pc := 4) (tgt := 35) 0 4 rfl (nI_ge (by omega) (by omega)) (by decide) ?_
      refine a_aload_n (pc := 7) 0 5 rfl rfl ?_
      refine a_iload_n (pc := 8) 0 6 rfl rfl ?_
      refine a_callVr (pc := 9) 0 7 (c_X3_bank (S := σ2) (nI j1)) rfl cv_X10_92 (by decide) rfl rfl rfl (rm rfl) ?_
      refine a_astore (pc := 12) 0 8 (ls2 := [some (vr 10 0), some (vr 3 0), some (vi p2), some (vi (nI j1)), some (vr 0 (f_X3_bank σ2 (nI j1))), none]) rfl (by decide) rfl ?_
      refine a_aload (pc := 14) 0 9 rfl rfl ?_
      refine a_dup (pc := 16) 0 10 rfl rfl ?_
      refine g_0_reserves (pc := 17) 0 11 rfl (show f_X3_bank σ2 (nI j1) < 5 from r_X3_bank) fl_X10_104 ?_
      refine a_aload (pc := 20) 0 12 rfl rfl ?_
      refine g_0_net (pc := 22) 0 13 rfl (show f_X3_bank σ2 (nI j1) < 5 from r_X3_bank) fl_X10_95 ?_
      refine a_iadd (pc := 25) 0 14 rfl ?_
      refine p_0_reserves (pc := 26) 0 15 rfl (show f_X3_bank σ2 (nI j1) < 5 from r_X3_bank) fl_X10_104 ?_
      refine a_set (fun S3 eS3 => ?_)
      refine a_iinc (pc := 29) 0 16 (v := nI (j1 + 1)) (ls2 := [some (vr 10 0), some (vr 3 0), some (vi p2), some (vi (nI (j1 + 1))), some (vr 0 (f_X3_bank σ2 (nI j1))), none]) rfl rfl (iinc1 _) (by decide) rfl ?_
      refine a_goto (pc := 32) (tgt := 2) 0 17 rfl (by decide) ?_
      refine a_drop (ls2 := [some (vr 10 0), some (vr 3 0), some (vi p2), some (vi (nI (j1 + 1))), none, none]) (⟨rfl, rfl, rfl, rfl, trivial⟩) ?_
      exact ih_j1 (j1 + 1) (by omega) S3 (by rw [iter_succ, eσ2]; unfold b2_X10_finishChosen; exact (lt_eq eS3))
  exact L2_11 (4) 0 (by omega) S rfl
theorem c_X10_finishChosen {S : Mem} (p2 : Int32)   (h : ok_X10_finishChosen S p2) : Cts mdX10_finishChosen 3 68 [vr 10 0, vr 3 0, vi p2] S (Is (some (vi (f_X10_finishChosen S p2).1)) ((f_X10_finishChosen S p2).2)) := Cts.of dtX10_finishChosen (by decide +kernel) rfl rfl (Nat.le_of_ble_eq_true rfl) rfl (fun O G => w_X10_finishChosen p2 h (fun _ _ h9 => ⟨by rw [h9], by rw [h9]⟩))
def b8_X3_payOut (S : Mem) (p1 : Int32) (j1 : Nat) (σ2 : Int32 × Int32) : Int32 × Int32 := lt (if (S.1 kBankOf (f_X3_holder S (nI j1))) = p1 then (lt (f_X5_sureOfAccount S (f_X3_holder S (nI j1))) (fun (v4 : Int32) => lt (f_X5_sureOfAccount S (f_X3_holder S (nI j1))) (fun (v5 : Int32) => σ2.1 + v4))) else (σ2.1)) (fun (v6 : Int32) => lt (if (S.1 kBankOf (f_X3_holder S (nI j1))) = p1 then (lt (f_X5_sureOfAccount S (f_X3_holder S (nI j1))) (fun (v4 : Int32) => lt (f_X5_sureOfAccount S (f_X3_holder S (nI j1))) (fun (v5 : Int32) => σ2.2 + ((S.1 kAccounts (f_X3_holder S (nI j1))) - v5)))) else (σ2.2)) (fun (v7 : Int32) => (v6, v7)))
def b83_X3_payOut (p1 : Int32) (σ2 : Int32 × Int32) (v8 : Int32) (v9 : Int32) (j10 : Nat) (σ11 : Int32 × Mem) : Int32 × Mem := lt (if (σ11.2.1 kBankOf (f_X3_holder σ11.2 (nI j10))) = p1 then (lt (f_X5_sureOfAccount σ11.2 (f_X3_holder σ11.2 (nI j10))) (fun (v13 : Int32) => lt (f_X5_sureOfAccount σ11.2 (f_X3_holder σ11.2 (nI j10))) (fun (v14 : Int32) => lt (f_X11_share σ11.2 ((σ11.2.1 kAccounts (f_X3_holder σ11.2 (nI j10))) - v13) v8 σ2.2) (fun (v15 : Int32) => lt (if v15 < ((σ11.2.1 kAccounts (f_X3_holder σ11.2 (nI j10))) - v13) then v15 else ((σ11.2.1 kAccounts (f_X3_holder σ11.2 (nI j10))) - v13)) (fun (v16 : Int32) => lt (if v9 = (-1) then (0) else (v14 + v16)) (fun (v18 : Int32) => lt (f_X3_change σ11.2 (nI j10) (v18 - (σ11.2.1 kAccounts (f_X3_holder σ11.2 (nI j10))))) (fun (S20 : Mem) => lt (if v9 = (-1) then (v14 + v16) else (0)) (fun (v22 : Int32) => lt (f_X5_takeNotes S20 (f_X3_holder σ11.2 (nI j10)) v22 0) (fun (S23 : Mem) => lt ((upd2 S23.1 kBankOf (f_X3_holder σ11.2 (nI j10)) v9, S23.2)) (fun (S24 : Mem) => σ11.1 + (v14 + v16))))))))))) else (σ11.1)) (fun (v25 : Int32) => lt (if (σ11.2.1 kBankOf (f_X3_holder σ11.2 (nI j10))) = p1 then (lt (f_X5_sureOfAccount σ11.2 (f_X3_holder σ11.2 (nI j10))) (fun (v13 : Int32) => lt (f_X5_sureOfAccount σ11.2 (f_X3_holder σ11.2 (nI j10))) (fun (v14 : Int32) => lt (f_X11_share σ11.2 ((σ11.2.1 kAccounts (f_X3_holder σ11.2 (nI j10))) - v13) v8 σ2.2) (fun (v15 : Int32) => lt (if v15 < ((σ11.2.1 kAccounts (f_X3_holder σ11.2 (nI j10))) - v13) then v15 else ((σ11.2.1 kAccounts (f_X3_holder σ11.2 (nI j10))) - v13)) (fun (v16 : Int32) => lt (if v9 = (-1) then (0) else (v14 + v16)) (fun (v18 : Int32) => lt (f_X3_change σ11.2 (nI j10) (v18 - (σ11.2.1 kAccounts (f_X3_holder σ11.2 (nI j10))))) (fun (S20 : Mem) => lt (if v9 = (-1) then (v14 + v16) else (0)) (fun (v22 : Int32) => lt (f_X5_takeNotes S20 (f_X3_holder σ11.2 (nI j10)) v22 0) (fun (S23 : Mem) => lt ((upd2 S23.1 kBankOf (f_X3_holder σ11.2 (nI j10)) v9, S23.2)) (fun (S24 : Mem) => S24)))))))))) else (σ11.2)) (fun (S26 : Mem) => (v25, S26)))
def f_X3_payOut (S : Mem) (p1 : Int32) (p2 : Int32) : Int32 × Mem := lt (iter (b8_X3_payOut S p1) (0, 0) (16)) (fun (σ2 : Int32 × Int32) => lt (if 0 < (p2 - σ2.1) then (p2 - σ2.1) else 0) (fun (v8 : Int32) => lt (f_X3_lowestBankThatStands S ) (fun (v9 : Int32) => lt (iter (b83_X3_payOut p1 σ2 v8 v9) (0, S) (16)) (fun (σ11 : Int32 × Mem) => lt (if v9 = (-1) then (σ11.2) else (lt ((upd2 σ11.2.1 kReserves (f_X3_bank σ11.2 v9) ((σ11.2.1 kReserves (f_X3_bank σ11.2 v9)) + σ11.1), σ11.2.2)) (fun (S28 : Mem) => S28))) (fun (S29 : Mem) => (σ11.1, S29))))))
def ok_X3_payOut (S : Mem) (p1 : Int32) (p2 : Int32) : Prop := ((∀ σ2 : Int32 × Int32, iter (b8_X3_payOut S p1) (0, 0) (16) = σ2 → ((∀ v8 : Int32, (if 0 < (p2 - σ2.1) then (p2 - σ2.1) else 0) = v8 → ((∀ v9 : Int32, (f_X3_lowestBankThatStands S ) = v9 → ((∀ j10 : Nat, j10 < 16 → ∀ σ11 : Int32 × Mem, iter (b83_X3_payOut p1 σ2 v8 v9) (0, S) j10 = σ11 → ((((σ11.2.1 kBankOf (f_X3_holder σ11.2 (nI j10))) = p1) → ((∀ v13 : Int32, (f_X5_sureOfAccount σ11.2 (f_X3_holder σ11.2 (nI j10))) = v13 → ((∀ v14 : Int32, (f_X5_sureOfAccount σ11.2 (f_X3_holder σ11.2 (nI j10))) = v14 → ((∀ v15 : Int32, (f_X11_share σ11.2 ((σ11.2.1 kAccounts (f_X3_holder σ11.2 (nI j10))) - v13) v8 σ2.2) = v15 → ((∀ v16 : Int32, (if v15 < ((σ11.2.1 kAccounts (f_X3_holder σ11.2 (nI j10))) - v13) then v15 else ((σ11.2.1 kAccounts (f_X3_holder σ11.2 (nI j10))) - v13)) = v16 → ((∀ v18 : Int32, (if v9 = (-1) then (0) else (v14 + v16)) = v18 → ((ok_X3_change σ11.2 (nI j10) (v18 - (σ11.2.1 kAccounts (f_X3_holder σ11.2 (nI j10))))))))))))))))))))))))))
abbrev fdX3_payOut : FD := (mdX3_payOut, [], 2, 45, 0, 0)
set_option maxRecDepth 100000 in
set_option maxHeartbeats 4000000 in
theorem w_X3_payOut {O : Om} {G : Cx} {S : Mem} {PP : Option AV → Mem → Prop} (p1 : Int32) (p2 : Int32)   (h : ok_X3_payOut S p1 p2) (hP : ∀ x9 S9, f_X3_payOut S p1 p2 = (x9, S9) → PP (some (vi x9)) S9) : BW O G fdX3_payOut 0 0 (QV O G 0 0 PP) S 0 [some (vr 3 0), some (vi p1), some (vi p2), none, none, none, none, none, none, none, none, none] [] := by
  refine a_iconst (pc := 0) 0 0 (v := 0) rfl (by decide) ?_
  refine a_istore_n (pc := 1) 0 1 (ls2 := [some (vr 3 0), some (vi p1), some (vi p2), some (vi 0), none, none, none, none, none, none, none, none]) rfl rfl (by decide) rfl ?_
  refine a_iconst (pc := 2) 0 2 (v := 0) rfl (by decide) ?_
  refine a_istore (pc := 3) 0 3 (ls2 := [some (vr 3 0), some (vi p1), some (vi p2), some (vi 0), some (vi 0), none, none, none, none, none, none, none]) rfl (by decide) rfl ?_
  refine a_iconst (pc := 5) 0 4 (v := 0) rfl (by decide) ?_
  refine a_istore (pc := 6) 0 5 (ls2 := [some (vr 3 0), some (vi p1), some (vi p2), some (vi 0), some (vi 0), some (vi 0), none, none, none, none, none, none]) rfl (by decide) rfl ?_
  have L8_29 : ∀ (m_j1 j1 : Nat), j1 + m_j1 = 16 → ∀ (σ2 : Int32 × Int32), iter (b8_X3_payOut S p1) (0, 0) j1 = σ2 → BW O G fdX3_payOut 0 0 (QV O G 0 0 PP) S 8 [some (vr 3 0), some (vi p1), some (vi p2), some (vi σ2.1), some (vi σ2.2), some (vi (nI j1)), none, none, none, none, none, none] [] := by
    intro m_j1
    induction m_j1 with
    | zero =>
      intro j1 hj_j1 σ2 eσ2
      have hn_j1 : j1 = 16 := by omega
      rw [hn_j1] at eσ2
      have h := h σ2 eσ2
      refine a_iload (pc := 8) 0 6 rfl rfl ?_
      refine a_bipush (pc := 10) 0 7 (v := nI 16) rfl (by decide) ?_
      refine a_icmp_ge_t (pc := 12) (tgt := 62) 0 8 rfl (by decide) (nI_le (by omega) (by omega)) ?_
      refine a_iconst (pc := 62) 0 32 (v := 0) rfl (by decide) ?_
      refine a_iload_n (pc := 63) 0 33 rfl rfl ?_
      refine a_iload_n (pc := 64) 0 34 rfl rfl ?_
      refine a_isub (pc := 65) 0 35 rfl ?_
      refine a_mmax (pc := 66) 0 36 rfl mm_X3_98 (mm rfl) ?_
      refine a_seti (fun v8 ev8 => ?_)
      have h := h v8 ev8
      refine a_istore (pc := 69) 0 37 (ls2 := [some (vr 3 0), some (vi p1), some (vi p2), some (vi σ2.1), some (vi σ2.2), some (vi v8), none, none, none, none, none, none]) rfl (by decide) rfl ?_
      refine a_aload_n (pc := 71) 0 38 rfl rfl ?_
      refine a_callVi (pc := 72) 0 39 (c_X3_lowestBankThatStands (S := S) ) rfl cv_X3_104 (by decide) rfl rfl rfl (rm rfl) ?_
      refine a_seti (fun v9 ev9 => ?_)
      have h := h v9 ev9
      refine a_istore (pc := 75) 0 40 (ls2 := [some (vr 3 0), some (vi p1), some (vi p2), some (vi σ2.1), some (vi σ2.2), some (vi v8), some (vi v9), none, none, none, none, none]) rfl (by decide) rfl ?_
      refine a_iconst (pc := 77) 0 41 (v := 0) rfl (by decide) ?_
      refine a_istore (pc := 78) 0 42 (ls2 := [some (vr 3 0), some (vi p1), some (vi p2), some (vi σ2.1), some (vi σ2.2), some (vi v8), some (vi v9), some (vi 0), none, none, none, none]) rfl (by decide) rfl ?_
      refine a_iconst (pc := 80) 0 43 (v := 0) rfl (by decide) ?_
      refine a_istore (pc := 81) 0 44 (ls2 := [some (vr 3 0), some (vi p1), some (vi p2), some (vi σ2.1), some (vi σ2.2), some (vi v8), some (vi v9), some (vi 0), some (vi 0), none, none, none]) rfl (by decide) rfl ?_
      have hb_j10 := h
      have L83_30 : ∀ (m_j10 j10 : Nat), j10 + m_j10 = 16 → ∀ (σ11 : Int32 × Mem), iter (b83_X3_payOut p1 σ2 v8 v9) (0, S) j10 = σ11 → BW O G fdX3_payOut 0 0 (QV O G 0 0 PP) σ11.2 83 [some (vr 3 0), some (vi p1), some (vi p2), some (vi σ2.1), some (vi σ2.2), some (vi v8), some (vi v9), some (vi σ11.1), some (vi (nI j10)), none, none, none] [] := by
        intro m_j10
        induction m_j10 with
        | zero =>
          intro j10 hj_j10 σ11 eσ11
          have hn_j10 : j10 = 16 := by omega
          rw [hn_j10] at eσ11
          refine a_iload (pc := 83) 0 45 rfl rfl ?_
          refine a_bipush (pc := 85) 0 46 (v := nI 16) rfl (by decide) ?_
          refine a_icmp_ge_t (pc := 87) (tgt := 204) 0 47 rfl (by decide) (nI_le (by omega) (by omega)) ?_
          refine a_iload (pc := 204) 2 6 rfl rfl ?_
          refine a_iconst (pc := 206) 2 7 (v := (-1)) rfl (by decide) ?_
          have J226_31 : ∀ (S29 : Mem) (eS29 : (if v9 = (-1) then (σ11.2) else (lt ((upd2 σ11.2.1 kReserves (f_X3_bank σ11.2 v9) ((σ11.2.1 kReserves (f_X3_bank σ11.2 v9)) + σ11.1), σ11.2.2)) (fun (S28 : Mem) => S28))) = S29), BW O G fdX3_payOut 0 0 (QV O G 0 0 PP) S29 226 [some (vr 3 0), some (vi p1), some (vi p2), some (vi σ2.1), some (vi σ2.2), some (vi v8), some (vi v9), some (vi σ11.1), some (vi (nI j10)), none, none, none] [] := by
            intro S29 eS29
            refine a_iload (pc := 226) 2 17 rfl rfl ?_
            exact a_iret (pc := 228) 2 18 rfl rfl (hP _ _ (by unfold f_X3_payOut; exact (lt_eq eσ2).trans ((lt_eq ev8).trans ((lt_eq ev9).trans ((lt_eq eσ11).trans (lt_eq eS29))))))
          refine a_icmp_eq (pc := 207) (tgt := 226) 2 8 rfl (by decide) (fun c207_26 => ?_) (fun c207_26 => ?_)
          · exact J226_31 _ (by exact (if_pos c207_26))
          · refine a_aload_n (pc := 210) 2 9 rfl rfl ?_
            refine a_iload (pc := 211) 2 10 rfl rfl ?_
            refine a_callVr (pc := 213) 2 11 (c_X3_bank (S := σ11.2) v9) rfl cv_X3_68 (by decide) rfl rfl rfl (rm rfl) ?_
            refine a_dup (pc := 216) 2 12 rfl rfl ?_
            refine g_0_reserves (pc := 217) 2 13 rfl (show f_X3_bank σ11.2 v9 < 5 from r_X3_bank) fl_X3_89 ?_
            refine a_iload (pc := 220) 2 14 rfl rfl ?_
            refine a_iadd (pc := 222) 2 15 rfl ?_
            refine p_0_reserves (pc := 223) 2 16 rfl (show f_X3_bank σ11.2 v9 < 5 from r_X3_bank) fl_X3_89 ?_
            refine a_set (fun S28 eS28 => ?_)
            exact J226_31 _ (by exact ((if_neg c207_26).trans (lt_eq eS28)))
        | succ m_j10 ih_j10 =>
          intro j10 hj_j10 σ11 eσ11
          have h := hb_j10 j10 (by omega) σ11 eσ11
          refine a_iload (pc := 83) 0 45 rfl rfl ?_
          refine a_bipush (pc := 85) 0 46 (v := nI 16) rfl (by decide) ?_
          refine a_icmp_ge_f (pc := 87) (tgt := 204) 0 47 rfl (nI_ge (by omega) (by omega)) (by decide) ?_
          refine a_aload_n (pc := 90) 1 0 rfl rfl ?_
          refine a_iload (pc := 91) 1 1 rfl rfl ?_
          refine a_callVr (pc := 93) 1 2 (c_X3_holder (S := σ11.2) (nI j10)) rfl cv_X3_47 (by decide) rfl rfl rfl (rm rfl) ?_
          refine a_astore (pc := 96) 1 3 (ls2 := [some (vr 3 0), some (vi p1), some (vi p2), some (vi σ2.1), some (vi σ2.2), some (vi v8), some (vi v9), some (vi σ11.1), some (vi (nI j10)), some (vr 5 (f_X3_holder σ11.2 (nI j10))), none, none]) rfl (by decide) rfl ?_
          refine a_aload (pc := 98) 1 4 rfl rfl ?_
          refine g_5_bank (pc := 100) 1 5 rfl (show f_X3_holder σ11.2 (nI j10) < 17 from r_X3_holder) fl_X3_59 ?_
          refine a_iload_n (pc := 103) 1 6 rfl rfl ?_
          have J198_32 : ∀ (v25 : Int32) (ev25 : (if (σ11.2.1 kBankOf (f_X3_holder σ11.2 (nI j10))) = p1 then (lt (f_X5_sureOfAccount σ11.2 (f_X3_holder σ11.2 (nI j10))) (fun (v13 : Int32) => lt (f_X5_sureOfAccount σ11.2 (f_X3_holder σ11.2 (nI j10))) (fun (v14 : Int32) => lt (f_X11_share σ11.2 ((σ11.2.1 kAccounts (f_X3_holder σ11.2 (nI j10))) - v13) v8 σ2.2) (fun (v15 : Int32) => lt (if v15 < ((σ11.2.1 kAccounts (f_X3_holder σ11.2 (nI j10))) - v13) then v15 else ((σ11.2.1 kAccounts (f_X3_holder σ11.2 (nI j10))) - v13)) (fun (v16 : Int32) => lt (if v9 = (-1) then (0) else (v14 + v16)) (fun (v18 : Int32) => lt (f_X3_change σ11.2 (nI j10) (v18 - (σ11.2.1 kAccounts (f_X3_holder σ11.2 (nI j10))))) (fun (S20 : Mem) => lt (if v9 = (-1) then (v14 + v16) else (0)) (fun (v22 : Int32) => lt (f_X5_takeNotes S20 (f_X3_holder σ11.2 (nI j10)) v22 0) (fun (S23 : Mem) => lt ((upd2 S23.1 kBankOf (f_X3_holder σ11.2 (nI j10)) v9, S23.2)) (fun (S24 : Mem) => σ11.1 + (v14 + v16))))))))))) else (σ11.1)) = v25) (S26 : Mem) (eS26 : (if (σ11.2.1 kBankOf (f_X3_holder σ11.2 (nI j10))) = p1 then (lt (f_X5_sureOfAccount σ11.2 (f_X3_holder σ11.2 (nI j10))) (fun (v13 : Int32) => lt (f_X5_sureOfAccount σ11.2 (f_X3_holder σ11.2 (nI j10))) (fun (v14 : Int32) => lt (f_X11_share σ11.2 ((σ11.2.1 kAccounts (f_X3_holder σ11.2 (nI j10))) - v13) v8 σ2.2) (fun (v15 : Int32) => lt (if v15 < ((σ11.2.1 kAccounts (f_X3_holder σ11.2 (nI j10))) - v13) then v15 else ((σ11.2.1 kAccounts (f_X3_holder σ11.2 (nI j10))) - v13)) (fun (v16 : Int32) => lt (if v9 = (-1) then (0) else (v14 + v16)) (fun (v18 : Int32) => lt (f_X3_change σ11.2 (nI j10) (v18 - (σ11.2.1 kAccounts (f_X3_holder σ11.2 (nI j10))))) (fun (S20 : Mem) => lt (if v9 = (-1) then (v14 + v16) else (0)) (fun (v22 : Int32) => lt (f_X5_takeNotes S20 (f_X3_holder σ11.2 (nI j10)) v22 0) (fun (S23 : Mem) => lt ((upd2 S23.1 kBankOf (f_X3_holder σ11.2 (nI j10)) v9, S23.2)) (fun (S24 : Mem) => S24)))))))))) else (σ11.2)) = S26), BW O G fdX3_payOut 0 0 (QV O G 0 0 PP) S26 198 [some (vr 3 0), some (vi p1), some (vi p2), some (vi σ2.1), some (vi σ2.2), some (vi v8), some (vi v9), some (vi v25), some (vi (nI j10)), some (vr 5 (f_X3_holder σ11.2 (nI j10))), none, none] [] := by
            intro v25 ev25 S26 eS26
            refine a_iinc (pc := 198) 2 4 (v := nI (j10 + 1)) (ls2 := [some (vr 3 0), some (vi p1), some (vi p2), some (vi σ2.1), some (vi σ2.2), some (vi v8), some (vi v9), some (vi v25), some (vi (nI (j10 + 1))), some (vr 5 (f_X3_holder σ11.2 (nI j10))), none, none]) rfl rfl (iinc1 _) (by decide) rfl ?_
            refine a_goto (pc := 201) (tgt := 83) 2 5 rfl (by decide) ?_
            refine a_drop (ls2 := [some (vr 3 0), some (vi p1), some (vi p2), some (vi σ2.1), some (vi σ2.2), some (vi v8), some (vi v9), some (vi v25), some (vi (nI (j10 + 1))), none, none, none]) (⟨rfl, rfl, rfl, rfl, rfl, rfl, rfl, rfl, rfl, trivial⟩) ?_
            exact ih_j10 (j10 + 1) (by omega) (v25, S26) (by rw [iter_succ, eσ11]; unfold b83_X3_payOut; exact ((lt_eq ev25).trans (lt_eq eS26)))
          refine a_icmp_ne (pc := 104) (tgt := 198) 1 7 rfl (by decide) (fun c104_11 => ?_) (fun c104_11 => ?_)
          · exact J198_32 _ (by exact (if_neg c104_11)) _ (by exact (if_neg c104_11))
          · have h := h c104_11
            refine a_aload (pc := 107) 1 8 rfl rfl ?_
            refine g_5_balance (pc := 109) 1 9 rfl (show f_X3_holder σ11.2 (nI j10) < 17 from r_X3_holder) fl_X3_51 ?_
            refine a_aload (pc := 112) 1 10 rfl rfl ?_
            refine a_callVi (pc := 114) 1 11 (c_X5_sureOfAccount (S := σ11.2) (f_X3_holder σ11.2 (nI j10)) (show f_X3_holder σ11.2 (nI j10) < 17 from r_X3_holder)) rfl cv_X3_95 (show f_X3_holder σ11.2 (nI j10) < 17 from r_X3_holder) rfl rfl rfl (rm rfl) ?_
            refine a_seti (fun v13 ev13 => ?_)
            have h := h v13 ev13
            refine a_isub (pc := 117) 1 12 rfl ?_
            refine a_istore (pc := 118) 1 13 (ls2 := [some (vr 3 0), some (vi p1), some (vi p2), some (vi σ2.1), some (vi σ2.2), some (vi v8), some (vi v9), some (vi σ11.1), some (vi (nI j10)), some (vr 5 (f_X3_holder σ11.2 (nI j10))), some (vi ((σ11.2.1 kAccounts (f_X3_holder σ11.2 (nI j10))) - v13)), none]) rfl (by decide) rfl ?_
            refine a_aload (pc := 120) 1 14 rfl rfl ?_
            refine a_callVi (pc := 122) 1 15 (c_X5_sureOfAccount (S := σ11.2) (f_X3_holder σ11.2 (nI j10)) (show f_X3_holder σ11.2 (nI j10) < 17 from r_X3_holder)) rfl cv_X3_95 (show f_X3_holder σ11.2 (nI j10) < 17 from r_X3_holder) rfl rfl rfl (rm rfl) ?_
            refine a_seti (fun v14 ev14 => ?_)
            have h := h v14 ev14
            refine a_iload (pc := 125) 1 16 rfl rfl ?_
            refine a_iload (pc := 127) 1 17 rfl rfl ?_
            refine a_iload (pc := 129) 1 18 rfl rfl ?_
            refine a_iload (pc := 131) 1 19 rfl rfl ?_
            refine a_callSNi (pc := 133) 1 20 (c_X11_share (S := σ11.2) ((σ11.2.1 kAccounts (f_X3_holder σ11.2 (nI j10))) - v13) v8 σ2.2) rfl csn_X3_107 rfl (rm rfl) ?_
            refine a_seti (fun v15 ev15 => ?_)
            have h := h v15 ev15
            refine a_mmin (pc := 136) 1 21 rfl mm_X3_111 (mm rfl) ?_
            refine a_seti (fun v16 ev16 => ?_)
            have h := h v16 ev16
            refine a_iadd (pc := 139) 1 22 rfl ?_
            refine a_istore (pc := 140) 1 23 (ls2 := [some (vr 3 0), some (vi p1), some (vi p2), some (vi σ2.1), some (vi σ2.2), some (vi v8), some (vi v9), some (vi σ11.1), some (vi (nI j10)), some (vr 5 (f_X3_holder σ11.2 (nI j10))), some (vi ((σ11.2.1 kAccounts (f_X3_holder σ11.2 (nI j10))) - v13)), some (vi (v14 + v16))]) rfl (by decide) rfl ?_
            refine a_iload (pc := 142) 1 24 rfl rfl ?_
            refine a_iload (pc := 144) 1 25 rfl rfl ?_
            refine a_iadd (pc := 146) 1 26 rfl ?_
            refine a_istore (pc := 147) 1 27 (ls2 := [some (vr 3 0), some (vi p1), some (vi p2), some (vi σ2.1), some (vi σ2.2), some (vi v8), some (vi v9), some (vi (σ11.1 + (v14 + v16))), some (vi (nI j10)), some (vr 5 (f_X3_holder σ11.2 (nI j10))), some (vi ((σ11.2.1 kAccounts (f_X3_holder σ11.2 (nI j10))) - v13)), some (vi (v14 + v16))]) rfl (by decide) rfl ?_
            refine a_aload_n (pc := 149) 1 28 rfl rfl ?_
            refine a_iload (pc := 150) 1 29 rfl rfl ?_
            refine a_iload (pc := 152) 1 30 rfl rfl ?_
            refine a_iconst (pc := 154) 1 31 (v := (-1)) rfl (by decide) ?_
            have J164_33 : ∀ (v18 : Int32) (ev18 : (if v9 = (-1) then (0) else (v14 + v16)) = v18), BW O G fdX3_payOut 0 0 (QV O G 0 0 PP) σ11.2 164 [some (vr 3 0), some (vi p1), some (vi p2), some (vi σ2.1), some (vi σ2.2), some (vi v8), some (vi v9), some (vi (σ11.1 + (v14 + v16))), some (vi (nI j10)), some (vr 5 (f_X3_holder σ11.2 (nI j10))), some (vi ((σ11.2.1 kAccounts (f_X3_holder σ11.2 (nI j10))) - v13)), some (vi (v14 + v16))] [vi v18, vi (nI j10), vr 3 0] := by
              intro v18 ev18
              have h := h v18 ev18
              refine a_aload (pc := 164) 1 36 rfl rfl ?_
              refine g_5_balance (pc := 166) 1 37 rfl (show f_X3_holder σ11.2 (nI j10) < 17 from r_X3_holder) fl_X3_51 ?_
              refine a_isub (pc := 169) 1 38 rfl ?_
              have o19 := h
              refine a_callVv (pc := 170) 1 39 (c_X3_change (S := σ11.2) (nI j10) (v18 - (σ11.2.1 kAccounts (f_X3_holder σ11.2 (nI j10)))) o19) rfl cv_X3_92 (by decide) rfl rfl rfl (rm rfl) ?_
              refine a_set (fun S20 eS20 => ?_)
              refine a_aload (pc := 173) 1 40 rfl rfl ?_
              refine a_iload (pc := 175) 1 41 rfl rfl ?_
              refine a_iconst (pc := 177) 1 42 (v := (-1)) rfl (by decide) ?_
              have J187_34 : ∀ (v22 : Int32) (ev22 : (if v9 = (-1) then (v14 + v16) else (0)) = v22), BW O G fdX3_payOut 0 0 (QV O G 0 0 PP) S20 187 [some (vr 3 0), some (vi p1), some (vi p2), some (vi σ2.1), some (vi σ2.2), some (vi v8), some (vi v9), some (vi (σ11.1 + (v14 + v16))), some (vi (nI j10)), some (vr 5 (f_X3_holder σ11.2 (nI j10))), some (vi ((σ11.2.1 kAccounts (f_X3_holder σ11.2 (nI j10))) - v13)), some (vi (v14 + v16))] [vi v22, vr 5 (f_X3_holder σ11.2 (nI j10))] := by
                intro v22 ev22
                refine a_iconst (pc := 187) 1 47 (v := 0) rfl (by decide) ?_
                refine a_callVv (pc := 188) 2 0 (c_X5_takeNotes (S := S20) (f_X3_holder σ11.2 (nI j10)) v22 0 (show f_X3_holder σ11.2 (nI j10) < 17 from r_X3_holder)) rfl cv_X3_114 (show f_X3_holder σ11.2 (nI j10) < 17 from r_X3_holder) rfl rfl rfl (rm rfl) ?_
                refine a_set (fun S23 eS23 => ?_)
                refine a_aload (pc := 191) 2 1 rfl rfl ?_
                refine a_iload (pc := 193) 2 2 rfl rfl ?_
                refine p_5_bank (pc := 195) 2 3 rfl (show f_X3_holder σ11.2 (nI j10) < 17 from r_X3_holder) fl_X3_59 ?_
                refine a_set (fun S24 eS24 => ?_)
                refine a_drop (ls2 := [some (vr 3 0), some (vi p1), some (vi p2), some (vi σ2.1), some (vi σ2.2), some (vi v8), some (vi v9), some (vi (σ11.1 + (v14 + v16))), some (vi (nI j10)), some (vr 5 (f_X3_holder σ11.2 (nI j10))), none, none]) (⟨rfl, rfl, rfl, rfl, rfl, rfl, rfl, rfl, rfl, rfl, trivial⟩) ?_
                exact J198_32 _ (by exact ((if_pos c104_11).trans ((lt_eq ev13).trans ((lt_eq ev14).trans ((lt_eq ev15).trans ((lt_eq ev16).trans ((lt_eq ev18).trans ((lt_eq eS20).trans ((lt_eq ev22).trans ((lt_eq eS23).trans (lt_eq eS24))))))))))) _ (by exact ((if_pos c104_11).trans ((lt_eq ev13).trans ((lt_eq ev14).trans ((lt_eq ev15).trans ((lt_eq ev16).trans ((lt_eq ev18).trans ((lt_eq eS20).trans ((lt_eq ev22).trans ((lt_eq eS23).trans (lt_eq eS24)))))))))))
              refine a_icmp_ne (pc := 178) (tgt := 186) 1 43 rfl (by decide) (fun c178_20 => ?_) (fun c178_20 => ?_)
              · refine a_iconst (pc := 186) 1 46 (v := 0) rfl (by decide) ?_
                exact J187_34 _ (by exact (if_neg c178_20))
              · refine a_iload (pc := 181) 1 44 rfl rfl ?_
                refine a_goto (pc := 183) (tgt := 187) 1 45 rfl (by decide) ?_
                exact J187_34 _ (by exact (if_pos c178_20))
            refine a_icmp_ne (pc := 155) (tgt := 162) 1 32 rfl (by decide) (fun c155_16 => ?_) (fun c155_16 => ?_)
            · refine a_iload (pc := 162) 1 35 rfl rfl ?_
              exact J164_33 _ (by exact (if_neg c155_16))
            · refine a_iconst (pc := 158) 1 33 (v := 0) rfl (by decide) ?_
              refine a_goto (pc := 159) (tgt := 164) 1 34 rfl (by decide) ?_
              exact J164_33 _ (by exact (if_pos c155_16))
      exact L83_30 (16) 0 (by omega) (0, S) rfl
    | succ m_j1 ih_j1 =>
      intro j1 hj_j1 σ2 eσ2
      refine a_iload (pc := 8) 0 6 rfl rfl ?_
      refine a_bipush (pc := 10) 0 7 (v := nI 16) rfl (by decide) ?_
      refine a_icmp_ge_f (pc := 12) (tgt := 62) 0 8 rfl (nI_ge (by omega) (by omega)) (by decide) ?_
      refine a_aload_n (pc := 15) 0 9 rfl rfl ?_
      refine a_iload (pc := 16) 0 10 rfl rfl ?_
      refine a_callVr (pc := 18) 0 11 (c_X3_holder (S := S) (nI j1)) rfl cv_X3_47 (by decide) rfl rfl rfl (rm rfl) ?_
      refine a_astore (pc := 21) 0 12 (ls2 := [some (vr 3 0), some (vi p1), some (vi p2), some (vi σ2.1), some (vi σ2.2), some (vi (nI j1)), some (vr 5 (f_X3_holder S (nI j1))), none, none, none, none, none]) rfl (by decide) rfl ?_
      refine a_aload (pc := 23) 0 13 rfl rfl ?_
      refine g_5_bank (pc := 25) 0 14 rfl (show f_X3_holder S (nI j1) < 17 from r_X3_holder) fl_X3_59 ?_
      refine a_iload_n (pc := 28) 0 15 rfl rfl ?_
      have J56_35 : ∀ (v6 : Int32) (ev6 : (if (S.1 kBankOf (f_X3_holder S (nI j1))) = p1 then (lt (f_X5_sureOfAccount S (f_X3_holder S (nI j1))) (fun (v4 : Int32) => lt (f_X5_sureOfAccount S (f_X3_holder S (nI j1))) (fun (v5 : Int32) => σ2.1 + v4))) else (σ2.1)) = v6) (v7 : Int32) (ev7 : (if (S.1 kBankOf (f_X3_holder S (nI j1))) = p1 then (lt (f_X5_sureOfAccount S (f_X3_holder S (nI j1))) (fun (v4 : Int32) => lt (f_X5_sureOfAccount S (f_X3_holder S (nI j1))) (fun (v5 : Int32) => σ2.2 + ((S.1 kAccounts (f_X3_holder S (nI j1))) - v5)))) else (σ2.2)) = v7), BW O G fdX3_payOut 0 0 (QV O G 0 0 PP) S 56 [some (vr 3 0), some (vi p1), some (vi p2), some (vi v6), some (vi v7), some (vi (nI j1)), some (vr 5 (f_X3_holder S (nI j1))), none, none, none, none, none] [] := by
        intro v6 ev6 v7 ev7
        refine a_iinc (pc := 56) 0 30 (v := nI (j1 + 1)) (ls2 := [some (vr 3 0), some (vi p1), some (vi p2), some (vi v6), some (vi v7), some (vi (nI (j1 + 1))), some (vr 5 (f_X3_holder S (nI j1))), none, none, none, none, none]) rfl rfl (iinc1 _) (by decide) rfl ?_
        refine a_goto (pc := 59) (tgt := 8) 0 31 rfl (by decide) ?_
        refine a_drop (ls2 := [some (vr 3 0), some (vi p1), some (vi p2), some (vi v6), some (vi v7), some (vi (nI (j1 + 1))), none, none, none, none, none, none]) (⟨rfl, rfl, rfl, rfl, rfl, rfl, trivial⟩) ?_
        exact ih_j1 (j1 + 1) (by omega) (v6, v7) (by rw [iter_succ, eσ2]; unfold b8_X3_payOut; exact ((lt_eq ev6).trans (lt_eq ev7)))
      refine a_icmp_ne (pc := 29) (tgt := 56) 0 16 rfl (by decide) (fun c29_2 => ?_) (fun c29_2 => ?_)
      · exact J56_35 _ (by exact (if_neg c29_2)) _ (by exact (if_neg c29_2))
      · refine a_iload_n (pc := 32) 0 17 rfl rfl ?_
        refine a_aload (pc := 33) 0 18 rfl rfl ?_
        refine a_callVi (pc := 35) 0 19 (c_X5_sureOfAccount (S := S) (f_X3_holder S (nI j1)) (show f_X3_holder S (nI j1) < 17 from r_X3_holder)) rfl cv_X3_95 (show f_X3_holder S (nI j1) < 17 from r_X3_holder) rfl rfl rfl (rm rfl) ?_
        refine a_seti (fun v4 ev4 => ?_)
        refine a_iadd (pc := 38) 0 20 rfl ?_
        refine a_istore_n (pc := 39) 0 21 (ls2 := [some (vr 3 0), some (vi p1), some (vi p2), some (vi (σ2.1 + v4)), some (vi σ2.2), some (vi (nI j1)), some (vr 5 (f_X3_holder S (nI j1))), none, none, none, none, none]) rfl rfl (by decide) rfl ?_
        refine a_iload (pc := 40) 0 22 rfl rfl ?_
        refine a_aload (pc := 42) 0 23 rfl rfl ?_
        refine g_5_balance (pc := 44) 0 24 rfl (show f_X3_holder S (nI j1) < 17 from r_X3_holder) fl_X3_51 ?_
        refine a_aload (pc := 47) 0 25 rfl rfl ?_
        refine a_callVi (pc := 49) 0 26 (c_X5_sureOfAccount (S := S) (f_X3_holder S (nI j1)) (show f_X3_holder S (nI j1) < 17 from r_X3_holder)) rfl cv_X3_95 (show f_X3_holder S (nI j1) < 17 from r_X3_holder) rfl rfl rfl (rm rfl) ?_
        refine a_seti (fun v5 ev5 => ?_)
        refine a_isub (pc := 52) 0 27 rfl ?_
        refine a_iadd (pc := 53) 0 28 rfl ?_
        refine a_istore (pc := 54) 0 29 (ls2 := [some (vr 3 0), some (vi p1), some (vi p2), some (vi (σ2.1 + v4)), some (vi (σ2.2 + ((S.1 kAccounts (f_X3_holder S (nI j1))) - v5))), some (vi (nI j1)), some (vr 5 (f_X3_holder S (nI j1))), none, none, none, none, none]) rfl (by decide) rfl ?_
        exact J56_35 _ (by exact ((if_pos c29_2).trans ((lt_eq ev4).trans (lt_eq ev5)))) _ (by exact ((if_pos c29_2).trans ((lt_eq ev4).trans (lt_eq ev5))))
  exact L8_29 (16) 0 (by omega) (0, 0) rfl
theorem c_X3_payOut {S : Mem} (p1 : Int32) (p2 : Int32)   (h : ok_X3_payOut S p1 p2) : Cts mdX3_payOut 2 45 [vr 3 0, vi p1, vi p2] S (Is (some (vi (f_X3_payOut S p1 p2).1)) ((f_X3_payOut S p1 p2).2)) := Cts.of dtX3_payOut (by decide +kernel) rfl rfl (Nat.le_of_ble_eq_true rfl) rfl (fun O G => w_X3_payOut p1 p2 h (fun _ _ h9 => ⟨by rw [h9], by rw [h9]⟩))
def b5_X2_moveToCentral (p1 : Int32) (j1 : Nat) (σ2 : Int32 × Mem) : Int32 × Mem := lt (f_X2_held σ2.2 p1 (nI j1)) (fun (v4 : Int32) => lt (if v4 < σ2.1 then v4 else σ2.1) (fun (v5 : Int32) => lt (f_X2_add σ2.2 p1 (nI j1) (-v5)) (fun (S6 : Mem) => lt (f_X2_add S6 (nI 4) (nI j1) v5) (fun (S7 : Mem) => (σ2.1 - v5, S7)))))
def f_X2_moveToCentral (S : Mem) (p1 : Int32) (p2 : Int32) : Mem := lt (iter (b5_X2_moveToCentral p1) (p2, S) (ix (S.1 kAuctions 0))) (fun (σ2 : Int32 × Mem) => σ2.2)
def ok_X2_moveToCentral (S : Mem) (p1 : Int32) (p2 : Int32) : Prop := ((∀ j1 : Nat, j1 ≤ ix (S.1 kAuctions 0) → ∀ σ2 : Int32 × Mem, iter (b5_X2_moveToCentral p1) (p2, S) j1 = σ2 → σ2.2.1 kAuctions 0 = nI (ix (S.1 kAuctions 0))))
abbrev fdX2_moveToCentral : FD := (mdX2_moveToCentral, [], 1, 24, 0, 0)
set_option maxRecDepth 100000 in
set_option maxHeartbeats 4000000 in
theorem w_X2_moveToCentral {O : Om} {G : Cx} {S : Mem} {PP : Option AV → Mem → Prop} (p1 : Int32) (p2 : Int32)   (h : ok_X2_moveToCentral S p1 p2) (hP : ∀ S9, f_X2_moveToCentral S p1 p2 = S9 → PP none S9) : BW O G fdX2_moveToCentral 0 0 (QV O G 0 0 PP) S 0 [some (vr 2 0), some (vi p1), some (vi p2), none, none, none] [] := by
  refine a_iload_n (pc := 0) 0 0 rfl rfl ?_
  refine a_istore_n (pc := 1) 0 1 (ls2 := [some (vr 2 0), some (vi p1), some (vi p2), some (vi p2), none, none]) rfl rfl (by decide) rfl ?_
  refine a_iconst (pc := 2) 0 2 (v := 0) rfl (by decide) ?_
  refine a_istore (pc := 3) 0 3 (ls2 := [some (vr 2 0), some (vi p1), some (vi p2), some (vi p2), some (vi 0), none]) rfl (by decide) rfl ?_
  have o3 := h
  have nlt_j1 := ix_lt (S.1 kAuctions 0)
  have L5_7 : ∀ (m_j1 j1 : Nat), j1 + m_j1 = ix (S.1 kAuctions 0) → ∀ (σ2 : Int32 × Mem), iter (b5_X2_moveToCentral p1) (p2, S) j1 = σ2 → BW O G fdX2_moveToCentral 0 0 (QV O G 0 0 PP) σ2.2 5 [some (vr 2 0), some (vi p1), some (vi p2), some (vi σ2.1), some (vi (nI j1)), none] [] := by
    intro m_j1
    induction m_j1 with
    | zero =>
      intro j1 hj_j1 σ2 eσ2
      have o3 := o3 j1 (by omega) σ2 eσ2
      have hn_j1 : j1 = ix (S.1 kAuctions 0) := by omega
      rw [hn_j1] at eσ2
      refine a_iload (pc := 5) 0 4 rfl rfl ?_
      refine a_aload_n (pc := 7) 0 5 rfl rfl ?_
      refine g_2_auctionCount (pc := 8) 0 6 rfl fl_X2_33 ?_
      refine a_icmp_ge_t (pc := 11) (tgt := 57) 0 7 rfl (by decide) (bd_t (o3) (by omega)) ?_
      exact a_vret (pc := 57) 0 32 rfl rfl (hP _ (by unfold f_X2_moveToCentral; exact lt_eq eσ2))
    | succ m_j1 ih_j1 =>
      intro j1 hj_j1 σ2 eσ2
      have o3 := o3 j1 (by omega) σ2 eσ2
      refine a_iload (pc := 5) 0 4 rfl rfl ?_
      refine a_aload_n (pc := 7) 0 5 rfl rfl ?_
      refine g_2_auctionCount (pc := 8) 0 6 rfl fl_X2_33 ?_
      refine a_icmp_ge_f (pc := 11) (tgt := 57) 0 7 rfl (bd_f (o3) (by omega)) (by decide) ?_
      refine a_iload_n (pc := 14) 0 8 rfl rfl ?_
      refine a_aload_n (pc := 15) 0 9 rfl rfl ?_
      refine a_iload_n (pc := 16) 0 10 rfl rfl ?_
      refine a_iload (pc := 17) 0 11 rfl rfl ?_
      refine a_callVi (pc := 19) 0 12 (c_X2_held (S := σ2.2) p1 (nI j1)) rfl cv_X2_99 (by decide) rfl rfl rfl (rm rfl) ?_
      refine a_seti (fun v4 ev4 => ?_)
      refine a_mmin (pc := 22) 0 13 rfl mm_X2_74 (mm rfl) ?_
      refine a_seti (fun v5 ev5 => ?_)
      refine a_istore (pc := 25) 0 14 (ls2 := [some (vr 2 0), some (vi p1), some (vi p2), some (vi σ2.1), some (vi (nI j1)), some (vi v5)]) rfl (by decide) rfl ?_
      refine a_aload_n (pc := 27) 0 15 rfl rfl ?_
      refine a_iload_n (pc := 28) 0 16 rfl rfl ?_
      refine a_iload (pc := 29) 0 17 rfl rfl ?_
      refine a_iload (pc := 31) 0 18 rfl rfl ?_
      refine a_ineg (pc := 33) 0 19 rfl ?_
      refine a_callVv (pc := 34) 0 20 (c_X2_add (S := σ2.2) p1 (nI j1) (-v5)) rfl cv_X2_95 (by decide) rfl rfl rfl (rm rfl) ?_
      refine a_set (fun S6 eS6 => ?_)
      refine a_aload_n (pc := 37) 0 21 rfl rfl ?_
      refine a_iconst (pc := 38) 0 22 (v := nI 4) rfl (by decide) ?_
      refine a_iload (pc := 39) 0 23 rfl rfl ?_
      refine a_iload (pc := 41) 0 24 rfl rfl ?_
      refine a_callVv (pc := 43) 0 25 (c_X2_add (S := S6) (nI 4) (nI j1) v5) rfl cv_X2_95 (by decide) rfl rfl rfl (rm rfl) ?_
      refine a_set (fun S7 eS7 => ?_)
      refine a_iload_n (pc := 46) 0 26 rfl rfl ?_
      refine a_iload (pc := 47) 0 27 rfl rfl ?_
      refine a_isub (pc := 49) 0 28 rfl ?_
      refine a_istore_n (pc := 50) 0 29 (ls2 := [some (vr 2 0), some (vi p1), some (vi p2), some (vi (σ2.1 - v5)), some (vi (nI j1)), some (vi v5)]) rfl rfl (by decide) rfl ?_
      refine a_iinc (pc := 51) 0 30 (v := nI (j1 + 1)) (ls2 := [some (vr 2 0), some (vi p1), some (vi p2), some (vi (σ2.1 - v5)), some (vi (nI (j1 + 1))), some (vi v5)]) rfl rfl (iinc1 _) (by decide) rfl ?_
      refine a_goto (pc := 54) (tgt := 5) 0 31 rfl (by decide) ?_
      refine a_drop (ls2 := [some (vr 2 0), some (vi p1), some (vi p2), some (vi (σ2.1 - v5)), some (vi (nI (j1 + 1))), none]) (⟨rfl, rfl, rfl, rfl, rfl, trivial⟩) ?_
      exact ih_j1 (j1 + 1) (by omega) (σ2.1 - v5, S7) (by rw [iter_succ, eσ2]; unfold b5_X2_moveToCentral; exact ((lt_eq ev4).trans ((lt_eq ev5).trans ((lt_eq eS6).trans (lt_eq eS7)))))
  exact L5_7 (ix (S.1 kAuctions 0)) 0 (by omega) (p2, S) rfl
theorem c_X2_moveToCentral {S : Mem} (p1 : Int32) (p2 : Int32)   (h : ok_X2_moveToCentral S p1 p2) : Cts mdX2_moveToCentral 1 24 [vr 2 0, vi p1, vi p2] S (Is none (f_X2_moveToCentral S p1 p2)) := Cts.of dtX2_moveToCentral (by decide +kernel) rfl rfl (Nat.le_of_ble_eq_true rfl) rfl (fun O G => w_X2_moveToCentral p1 p2 h (fun _ h9 => ⟨rfl, h9.symm⟩))
def f_X2_payBondsOf (S : Mem) (p2 : Int32) (p3 : Int32) : Mem := lt (f_X2_held S p3 p2) (fun (v1 : Int32) => lt (if v1 < (S.1 kTreasury 0) then v1 else (S.1 kTreasury 0)) (fun (v2 : Int32) => lt ((upd2 S.1 kTreasury 0 ((S.1 kTreasury 0) - v2), S.2)) (fun (S3 : Mem) => lt (f_X2_add S3 p3 p2 (-v2)) (fun (S4 : Mem) => lt (if p3 = (nI 4) then (S4) else (lt ((upd2 S4.1 kReserves (f_X3_bank S4 p3) ((S4.1 kReserves (f_X3_bank S4 p3)) + v2), S4.2)) (fun (S6 : Mem) => S6))) (fun (S7 : Mem) => S7)))))
abbrev fdX2_payBondsOf : FD := (mdX2_payBondsOf, [], 1, 24, 0, 0)
set_option maxRecDepth 100000 in
set_option maxHeartbeats 4000000 in
theorem w_X2_payBondsOf {O : Om} {G : Cx} {S : Mem} {PP : Option AV → Mem → Prop} (p2 : Int32) (p3 : Int32)   (hP : ∀ S9, f_X2_payBondsOf S p2 p3 = S9 → PP none S9) : BW O G fdX2_payBondsOf 0 0 (QV O G 0 0 PP) S 0 [some (vr 2 0), some (vr 3 0), some (vi p2), some (vi p3), none] [] := by
  refine a_aload_n (pc := 0) 0 0 rfl rfl ?_
  refine g_3_central (pc := 1) 0 1 rfl fl_X2_86 ?_
  refine g_4_treasury (pc := 4) 0 2 rfl fl_X2_90 ?_
  refine a_aload_n (pc := 7) 0 3 rfl rfl ?_
  refine a_iload_n (pc := 8) 0 4 rfl rfl ?_
  refine a_iload_n (pc := 9) 0 5 rfl rfl ?_
  refine a_callVi (pc := 10) 0 6 (c_X2_held (S := S) p3 p2) rfl cv_X2_99 (by decide) rfl rfl rfl (rm rfl) ?_
  refine a_seti (fun v1 ev1 => ?_)
  refine a_mmin (pc := 13) 0 7 rfl mm_X2_74 (mm rfl) ?_
  refine a_seti (fun v2 ev2 => ?_)
  refine a_istore (pc := 16) 0 8 (ls2 := [some (vr 2 0), some (vr 3 0), some (vi p2), some (vi p3), some (vi v2)]) rfl (by decide) rfl ?_
  refine a_aload_n (pc := 18) 0 9 rfl rfl ?_
  refine g_3_central (pc := 19) 0 10 rfl fl_X2_86 ?_
  refine a_dup (pc := 22) 0 11 rfl rfl ?_
  refine g_4_treasury (pc := 23) 0 12 rfl fl_X2_90 ?_
  refine a_iload (pc := 26) 0 13 rfl rfl ?_
  refine a_isub (pc := 28) 0 14 rfl ?_
  refine p_4_treasury (pc := 29) 0 15 rfl fl_X2_90 ?_
  refine a_set (fun S3 eS3 => ?_)
  refine a_aload_n (pc := 32) 0 16 rfl rfl ?_
  refine a_iload_n (pc := 33) 0 17 rfl rfl ?_
  refine a_iload_n (pc := 34) 0 18 rfl rfl ?_
  refine a_iload (pc := 35) 0 19 rfl rfl ?_
  refine a_ineg (pc := 37) 0 20 rfl ?_
  refine a_callVv (pc := 38) 0 21 (c_X2_add (S := S3) p3 p2 (-v2)) rfl cv_X2_95 (by decide) rfl rfl rfl (rm rfl) ?_
  refine a_set (fun S4 eS4 => ?_)
  refine a_iload_n (pc := 41) 0 22 rfl rfl ?_
  refine a_iconst (pc := 42) 0 23 (v := nI 4) rfl (by decide) ?_
  have J61_7 : ∀ (S7 : Mem) (eS7 : (if p3 = (nI 4) then (S4) else (lt ((upd2 S4.1 kReserves (f_X3_bank S4 p3) ((S4.1 kReserves (f_X3_bank S4 p3)) + v2), S4.2)) (fun (S6 : Mem) => S6))) = S7), BW O G fdX2_payBondsOf 0 0 (QV O G 0 0 PP) S7 61 [some (vr 2 0), some (vr 3 0), some (vi p2), some (vi p3), some (vi v2)] [] := by
    intro S7 eS7
    exact a_vret (pc := 61) 0 33 rfl rfl (hP _ (by unfold f_X2_payBondsOf; exact (lt_eq ev1).trans ((lt_eq ev2).trans ((lt_eq eS3).trans ((lt_eq eS4).trans (lt_eq eS7))))))
  refine a_icmp_eq (pc := 43) (tgt := 61) 0 24 rfl (by decide) (fun c43_4 => ?_) (fun c43_4 => ?_)
  · exact J61_7 _ (by exact (if_pos c43_4))
  · refine a_aload_n (pc := 46) 0 25 rfl rfl ?_
    refine a_iload_n (pc := 47) 0 26 rfl rfl ?_
    refine a_callVr (pc := 48) 0 27 (c_X3_bank (S := S4) p3) rfl cv_X2_53 (by decide) rfl rfl rfl (rm rfl) ?_
    refine a_dup (pc := 51) 0 28 rfl rfl ?_
    refine g_0_reserves (pc := 52) 0 29 rfl (show f_X3_bank S4 p3 < 5 from r_X3_bank) fl_X2_83 ?_
    refine a_iload (pc := 55) 0 30 rfl rfl ?_
    refine a_iadd (pc := 57) 0 31 rfl ?_
    refine p_0_reserves (pc := 58) 0 32 rfl (show f_X3_bank S4 p3 < 5 from r_X3_bank) fl_X2_83 ?_
    refine a_set (fun S6 eS6 => ?_)
    exact J61_7 _ (by exact ((if_neg c43_4).trans (lt_eq eS6)))
theorem c_X2_payBondsOf {S : Mem} (p2 : Int32) (p3 : Int32)   : Cts mdX2_payBondsOf 1 24 [vr 2 0, vr 3 0, vi p2, vi p3] S (Is none (f_X2_payBondsOf S p2 p3)) := Cts.of dtX2_payBondsOf (by decide +kernel) rfl rfl (Nat.le_of_ble_eq_true rfl) rfl (fun O G => w_X2_payBondsOf p2 p3 (fun _ h9 => ⟨rfl, h9.symm⟩))
def b39_X2_payDue (j1 : Nat) (j8 : Nat) (σ9 : Mem) : Mem := lt (f_X2_payBondsOf σ9 (nI j1) (nI j8)) (fun (S10 : Mem) => S10)
def b2_X2_payDue (p2 : Int32) (j1 : Nat) (σ2 : Mem) : Mem ⊕ Mem := if (nI 20) ≤ (nI j1) then (.inr σ2) else (lt (if p2 < (σ2.1 kDues j1) then (σ2) else (lt (f_X2_payBondsOf σ2 (nI j1) (nI 4)) (fun (S7 : Mem) => lt (iter (b39_X2_payDue j1) S7 (4)) (fun (σ9 : Mem) => σ9)))) (fun (S11 : Mem) => .inl S11))
def f_X2_payDue (S : Mem) (p2 : Int32) : Mem := lt (outE (iterE (b2_X2_payDue p2) S (ix (S.1 kAuctions 0)))) (fun (σ2 : Mem) => σ2)
def ok_X2_payDue (S : Mem) (p2 : Int32) : Prop := ((∀ j1 : Nat, j1 ≤ ix (S.1 kAuctions 0) → ∀ σ2 : Mem, iterE (b2_X2_payDue p2) S j1 = .inl σ2 → σ2.1 kAuctions 0 = nI (ix (S.1 kAuctions 0))) ∧ (∀ j1 : Nat, j1 < ix (S.1 kAuctions 0) → ∀ σ2 : Mem, iterE (b2_X2_payDue p2) S j1 = .inl σ2 → (((¬ ((nI 20) ≤ (nI j1))) → ((j1 < 20))))))
abbrev fdX2_payDue : FD := (mdX2_payDue, [], 2, 48, 0, 0)
set_option maxRecDepth 100000 in
set_option maxHeartbeats 4000000 in
theorem w_X2_payDue {O : Om} {G : Cx} {S : Mem} {PP : Option AV → Mem → Prop} (p2 : Int32)   (h : ok_X2_payDue S p2) (hP : ∀ S9, f_X2_payDue S p2 = S9 → PP none S9) : BW O G fdX2_payDue 0 0 (QV O G 0 0 PP) S 0 [some (vr 2 0), some (vr 3 0), some (vi p2), none, none] [] := by
  refine a_iconst (pc := 0) 0 0 (v := 0) rfl (by decide) ?_
  refine a_istore_n (pc := 1) 0 1 (ls2 := [some (vr 2 0), some (vr 3 0), some (vi p2), some (vi 0), none]) rfl rfl (by decide) rfl ?_
  obtain ⟨o3, hb_j1⟩ := h
  have nlt_j1 := ix_lt (S.1 kAuctions 0)
  have E2_12 : ∀ (σ2 : Mem), outE (iterE (b2_X2_payDue p2) S (ix (S.1 kAuctions 0))) = σ2 → BW O G fdX2_payDue 0 0 (QV O G 0 0 PP) σ2 65 [some (vr 2 0), some (vr 3 0), some (vi p2), none, none] [] := by
    intro σ2 eσ2
    exact a_vret (pc := 65) 0 36 rfl rfl (hP _ (by unfold f_X2_payDue; exact lt_eq eσ2))
  have L2_11 : ∀ (m_j1 j1 : Nat), j1 + m_j1 = ix (S.1 kAuctions 0) → ∀ (σ2 : Mem), iterE (b2_X2_payDue p2) S j1 = .inl σ2 → BW O G fdX2_payDue 0 0 (QV O G 0 0 PP) σ2 2 [some (vr 2 0), some (vr 3 0), some (vi p2), some (vi (nI j1)), none] [] := by
    intro m_j1
    induction m_j1 with
    | zero =>
      intro j1 hj_j1 σ2 eσ2
      have o3 := o3 j1 (by omega) σ2 eσ2
      have hn_j1 : j1 = ix (S.1 kAuctions 0) := by omega
      refine a_iload_n (pc := 2) 0 2 rfl rfl ?_
      refine a_aload_n (pc := 3) 0 3 rfl rfl ?_
      refine g_2_auctionCount (pc := 4) 0 4 rfl fl_X2_33 ?_
      refine a_icmp_ge_t (pc := 7) (tgt := 65) 0 5 rfl (by decide) (bd_t (o3) (by omega)) ?_
      refine a_drop (ls2 := [some (vr 2 0), some (vr 3 0), some (vi p2), none, none]) (⟨rfl, rfl, rfl, trivial⟩) ?_
      exact E2_12 σ2 (by rw [← hn_j1, eσ2]; rfl)
    | succ m_j1 ih_j1 =>
      intro j1 hj_j1 σ2 eσ2
      have o3 := o3 j1 (by omega) σ2 eσ2
      have h := hb_j1 j1 (by omega) σ2 eσ2
      refine a_iload_n (pc := 2) 0 2 rfl rfl ?_
      refine a_aload_n (pc := 3) 0 3 rfl rfl ?_
      refine g_2_auctionCount (pc := 4) 0 4 rfl fl_X2_33 ?_
      refine a_icmp_ge_f (pc := 7) (tgt := 65) 0 5 rfl (bd_f (o3) (by omega)) (by decide) ?_
      refine a_iload_n (pc := 10) 0 6 rfl rfl ?_
      refine a_aload_n (pc := 11) 0 7 rfl rfl ?_
      refine g_2_dueOn (pc := 12) 0 8 rfl fl_X2_22 ?_
      refine n_18 (pc := 15) 0 9 rfl ?_
      refine a_icmp_ge (pc := 16) (tgt := 65) 0 10 rfl (by decide) (fun c16_3 => ?_) (fun c16_3 => ?_)
      · refine a_drop (ls2 := [some (vr 2 0), some (vr 3 0), some (vi p2), none, none]) (⟨rfl, rfl, rfl, trivial⟩) ?_
        exact E2_12 σ2 (by have e9 := iterE_stop (r := σ2) eσ2 (by unfold b2_X2_payDue; exact (if_pos c16_3)) (ix (S.1 kAuctions 0)) (by omega); rw [e9]; rfl)
      · have h := h c16_3
        refine a_aload_n (pc := 19) 0 11 rfl rfl ?_
        refine g_2_dueOn (pc := 20) 0 12 rfl fl_X2_22 ?_
        refine a_iload_n (pc := 23) 0 13 rfl rfl ?_
        have o5 := h
        refine e_18 (pc := 24) 0 14 (j1) rfl rfl o5 ?_
        refine a_iload_n (pc := 25) 0 15 rfl rfl ?_
        have J59_13 : ∀ (S11 : Mem) (eS11 : (if p2 < (σ2.1 kDues j1) then (σ2) else (lt (f_X2_payBondsOf σ2 (nI j1) (nI 4)) (fun (S7 : Mem) => lt (iter (b39_X2_payDue j1) S7 (4)) (fun (σ9 : Mem) => σ9)))) = S11), BW O G fdX2_payDue 0 0 (QV O G 0 0 PP) S11 59 [some (vr 2 0), some (vr 3 0), some (vi p2), some (vi (nI j1)), none] [] := by
          intro S11 eS11
          refine a_iinc (pc := 59) 0 34 (v := nI (j1 + 1)) (ls2 := [some (vr 2 0), some (vr 3 0), some (vi p2), some (vi (nI (j1 + 1))), none]) rfl rfl (iinc1 _) (by decide) rfl ?_
          refine a_goto (pc := 62) (tgt := 2) 0 35 rfl (by decide) ?_
          exact ih_j1 (j1 + 1) (by omega) S11 (iterE_go eσ2 (by unfold b2_X2_payDue; exact ((if_neg c16_3).trans (lt_eq eS11))))
        refine a_icmp_gt (pc := 26) (tgt := 59) 0 16 rfl (by decide) (fun c26_5 => ?_) (fun c26_5 => ?_)
        · exact J59_13 _ (by exact (if_pos c26_5))
        · refine a_aload_n (pc := 29) 0 17 rfl rfl ?_
          refine a_aload_n (pc := 30) 0 18 rfl rfl ?_
          refine a_iload_n (pc := 31) 0 19 rfl rfl ?_
          refine a_iconst (pc := 32) 0 20 (v := nI 4) rfl (by decide) ?_
          refine a_callVv (pc := 33) 0 21 (c_X2_payBondsOf (S := σ2) (nI j1) (nI 4)) rfl cv_X2_102 (by decide) rfl rfl rfl (rm rfl) ?_
          refine a_set (fun S7 eS7 => ?_)
          refine a_iconst (pc := 36) 0 22 (v := 0) rfl (by decide) ?_
          refine a_istore (pc := 37) 0 23 (ls2 := [some (vr 2 0), some (vr 3 0), some (vi p2), some (vi (nI j1)), some (vi 0)]) rfl (by decide) rfl ?_
          have L39_14 : ∀ (m_j8 j8 : Nat), j8 + m_j8 = 4 → ∀ (σ9 : Mem), iter (b39_X2_payDue j1) S7 j8 = σ9 → BW O G fdX2_payDue 0 0 (QV O G 0 0 PP) σ9 39 [some (vr 2 0), some (vr 3 0), some (vi p2), some (vi (nI j1)), some (vi (nI j8))] [] := by
            intro m_j8
            induction m_j8 with
            | zero =>
              intro j8 hj_j8 σ9 eσ9
              have hn_j8 : j8 = 4 := by omega
              rw [hn_j8] at eσ9
              refine a_iload (pc := 39) 0 24 rfl rfl ?_
              refine a_iconst (pc := 41) 0 25 (v := nI 4) rfl (by decide) ?_
              refine a_icmp_ge_t (pc := 42) (tgt := 59) 0 26 rfl (by decide) (nI_le (by omega) (by omega)) ?_
              refine a_drop (ls2 := [some (vr 2 0), some (vr 3 0), some (vi p2), some (vi (nI j1)), none]) (⟨rfl, rfl, rfl, rfl, trivial⟩) ?_
              exact J59_13 _ (by exact ((if_neg c26_5).trans ((lt_eq eS7).trans (lt_eq eσ9))))
            | succ m_j8 ih_j8 =>
              intro j8 hj_j8 σ9 eσ9
              refine a_iload (pc := 39) 0 24 rfl rfl ?_
              refine a_iconst (pc := 41) 0 25 (v := nI 4) rfl (by decide) ?_
              refine a_icmp_ge_f (pc := 42) (tgt := 59) 0 26 rfl (nI_ge (by omega) (by omega)) (by decide) ?_
              refine a_aload_n (pc := 45) 0 27 rfl rfl ?_
              refine a_aload_n (pc := 46) 0 28 rfl rfl ?_
              refine a_iload_n (pc := 47) 0 29 rfl rfl ?_
              refine a_iload (pc := 48) 0 30 rfl rfl ?_
              refine a_callVv (pc := 50) 0 31 (c_X2_payBondsOf (S := σ9) (nI j1) (nI j8)) rfl cv_X2_102 (by decide) rfl rfl rfl (rm rfl) ?_
              refine a_set (fun S10 eS10 => ?_)
              refine a_iinc (pc := 53) 0 32 (v := nI (j8 + 1)) (ls2 := [some (vr 2 0), some (vr 3 0), some (vi p2), some (vi (nI j1)), some (vi (nI (j8 + 1)))]) rfl rfl (iinc1 _) (by decide) rfl ?_
              refine a_goto (pc := 56) (tgt := 39) 0 33 rfl (by decide) ?_
              exact ih_j8 (j8 + 1) (by omega) S10 (by rw [iter_succ, eσ9]; unfold b39_X2_payDue; exact (lt_eq eS10))
          exact L39_14 (4) 0 (by omega) S7 rfl
  exact L2_11 (ix (S.1 kAuctions 0)) 0 (by omega) S rfl
theorem c_X2_payDue {S : Mem} (p2 : Int32)   (h : ok_X2_payDue S p2) : Cts mdX2_payDue 2 48 [vr 2 0, vr 3 0, vi p2] S (Is none (f_X2_payDue S p2)) := Cts.of dtX2_payDue (by decide +kernel) rfl rfl (Nat.le_of_ble_eq_true rfl) rfl (fun O G => w_X2_payDue p2 h (fun _ h9 => ⟨rfl, h9.symm⟩))
def b3_X2_sell (p2 : Int32) (j1 : Nat) (σ2 : Mem) : Mem := lt (if (σ2.1 kBidGets (f_X2_bidAt σ2 (nI j1))) ≤ 0 then (σ2) else (lt (f_X11_percentRoundedUp σ2 (σ2.1 kBidGets (f_X2_bidAt σ2 (nI j1))) p2) (fun (v5 : Int32) => lt ((upd2 σ2.1 kReserves (f_X3_bank σ2 (σ2.1 kBidBanks (f_X2_bidAt σ2 (nI j1)))) ((σ2.1 kReserves (f_X3_bank σ2 (σ2.1 kBidBanks (f_X2_bidAt σ2 (nI j1))))) - v5), σ2.2)) (fun (S6 : Mem) => lt ((upd2 S6.1 kTreasury 0 ((S6.1 kTreasury 0) + v5), S6.2)) (fun (S7 : Mem) => lt (f_X2_add S7 (S7.1 kBidBanks (f_X2_bidAt σ2 (nI j1))) (S7.1 kAuctions 0) (S7.1 kBidGets (f_X2_bidAt σ2 (nI j1)))) (fun (S8 : Mem) => S8)))))) (fun (S9 : Mem) => S9)
def f_X2_sell (S : Mem) (p2 : Int32) (p3 : Int32) : Mem := lt (iter (b3_X2_sell p2) S (ix (S.1 kBids 0))) (fun (σ2 : Mem) => lt (if (σ2.1 kAuctions 0) < 0 then (σ2) else (if (nI 20) ≤ (σ2.1 kAuctions 0) then (σ2) else (lt ((upd2 σ2.1 kDues (ix (σ2.1 kAuctions 0)) p3, σ2.2)) (fun (S12 : Mem) => S12)))) (fun (S13 : Mem) => lt ((upd2 S13.1 kAuctions 0 ((S13.1 kAuctions 0) + 1), S13.2)) (fun (S14 : Mem) => lt ((upd2 S14.1 kBids 0 0, S14.2)) (fun (S15 : Mem) => S15))))
def ok_X2_sell (S : Mem) (p2 : Int32) (p3 : Int32) : Prop := ((∀ j1 : Nat, j1 ≤ ix (S.1 kBids 0) → ∀ σ2 : Mem, iter (b3_X2_sell p2) S j1 = σ2 → σ2.1 kBids 0 = nI (ix (S.1 kBids 0))))
abbrev fdX2_sell : FD := (mdX2_sell, [], 1, 24, 0, 0)
set_option maxRecDepth 100000 in
set_option maxHeartbeats 4000000 in
theorem w_X2_sell {O : Om} {G : Cx} {S : Mem} {PP : Option AV → Mem → Prop} (p2 : Int32) (p3 : Int32)   (h : ok_X2_sell S p2 p3) (hP : ∀ S9, f_X2_sell S p2 p3 = S9 → PP none S9) : BW O G fdX2_sell 0 0 (QV O G 0 0 PP) S 0 [some (vr 2 0), some (vr 3 0), some (vi p2), some (vi p3), none, none, none] [] := by
  refine a_iconst (pc := 0) 0 0 (v := 0) rfl (by decide) ?_
  refine a_istore (pc := 1) 0 1 (ls2 := [some (vr 2 0), some (vr 3 0), some (vi p2), some (vi p3), some (vi 0), none, none]) rfl (by decide) rfl ?_
  have o3 := h
  have nlt_j1 := ix_lt (S.1 kBids 0)
  have L3_15 : ∀ (m_j1 j1 : Nat), j1 + m_j1 = ix (S.1 kBids 0) → ∀ (σ2 : Mem), iter (b3_X2_sell p2) S j1 = σ2 → BW O G fdX2_sell 0 0 (QV O G 0 0 PP) σ2 3 [some (vr 2 0), some (vr 3 0), some (vi p2), some (vi p3), some (vi (nI j1)), none, none] [] := by
    intro m_j1
    induction m_j1 with
    | zero =>
      intro j1 hj_j1 σ2 eσ2
      have o3 := o3 j1 (by omega) σ2 eσ2
      have hn_j1 : j1 = ix (S.1 kBids 0) := by omega
      rw [hn_j1] at eσ2
      refine a_iload (pc := 3) 0 2 rfl rfl ?_
      refine a_aload_n (pc := 5) 0 3 rfl rfl ?_
      refine g_2_bidCount (pc := 6) 0 4 rfl fl_X2_29 ?_
      refine a_icmp_ge_t (pc := 9) (tgt := 96) 0 5 rfl (by decide) (bd_t (o3) (by omega)) ?_
      refine a_aload_n (pc := 96) 0 44 rfl rfl ?_
      refine g_2_auctionCount (pc := 97) 0 45 rfl fl_X2_33 ?_
      have J125_16 : ∀ (S13 : Mem) (eS13 : (if (σ2.1 kAuctions 0) < 0 then (σ2) else (if (nI 20) ≤ (σ2.1 kAuctions 0) then (σ2) else (lt ((upd2 σ2.1 kDues (ix (σ2.1 kAuctions 0)) p3, σ2.2)) (fun (S12 : Mem) => S12)))) = S13), BW O G fdX2_sell 0 0 (QV O G 0 0 PP) S13 125 [some (vr 2 0), some (vr 3 0), some (vi p2), some (vi p3), some (vi (nI j1)), none, none] [] := by
        intro S13 eS13
        refine a_aload_n (pc := 125) 1 11 rfl rfl ?_
        refine a_dup (pc := 126) 1 12 rfl rfl ?_
        refine g_2_auctionCount (pc := 127) 1 13 rfl fl_X2_33 ?_
        refine a_iconst (pc := 130) 1 14 (v := 1) rfl (by decide) ?_
        refine a_iadd (pc := 131) 1 15 rfl ?_
        refine p_2_auctionCount (pc := 132) 1 16 rfl fl_X2_33 ?_
        refine a_set (fun S14 eS14 => ?_)
        refine a_aload_n (pc := 135) 1 17 rfl rfl ?_
        refine a_iconst (pc := 136) 1 18 (v := 0) rfl (by decide) ?_
        refine p_2_bidCount (pc := 137) 1 19 rfl fl_X2_29 ?_
        refine a_set (fun S15 eS15 => ?_)
        exact a_vret (pc := 140) 1 20 rfl rfl (hP _ (by unfold f_X2_sell; exact (lt_eq eσ2).trans ((lt_eq eS13).trans ((lt_eq eS14).trans (lt_eq eS15)))))
      refine a_if_lt (pc := 100) (tgt := 125) 0 46 rfl (by decide) (fun c100_9 => ?_) (fun c100_9 => ?_)
      · exact J125_16 _ (by exact (if_pos c100_9))
      · refine a_aload_n (pc := 103) 0 47 rfl rfl ?_
        refine g_2_auctionCount (pc := 104) 1 0 rfl fl_X2_33 ?_
        refine a_aload_n (pc := 107) 1 1 rfl rfl ?_
        refine g_2_dueOn (pc := 108) 1 2 rfl fl_X2_22 ?_
        refine n_18 (pc := 111) 1 3 rfl ?_
        refine a_icmp_ge (pc := 112) (tgt := 125) 1 4 rfl (by decide) (fun c112_10 => ?_) (fun c112_10 => ?_)
        · exact J125_16 _ (by exact ((if_neg c100_9).trans (if_pos c112_10)))
        · refine a_aload_n (pc := 115) 1 5 rfl rfl ?_
          refine g_2_dueOn (pc := 116) 1 6 rfl fl_X2_22 ?_
          refine a_aload_n (pc := 119) 1 7 rfl rfl ?_
          refine g_2_auctionCount (pc := 120) 1 8 rfl fl_X2_33 ?_
          refine a_iload_n (pc := 123) 1 9 rfl rfl ?_
          refine s_18 (pc := 124) 1 10 (ix (σ2.1 kAuctions 0)) rfl (inb_of c100_9 c112_10 (by decide)).1 (inb_of c100_9 c112_10 (by decide)).2 ?_
          refine a_set (fun S12 eS12 => ?_)
          exact J125_16 _ (by exact ((if_neg c100_9).trans ((if_neg c112_10).trans (lt_eq eS12))))
    | succ m_j1 ih_j1 =>
      intro j1 hj_j1 σ2 eσ2
      have o3 := o3 j1 (by omega) σ2 eσ2
      refine a_iload (pc := 3) 0 2 rfl rfl ?_
      refine a_aload_n (pc := 5) 0 3 rfl rfl ?_
      refine g_2_bidCount (pc := 6) 0 4 rfl fl_X2_29 ?_
      refine a_icmp_ge_f (pc := 9) (tgt := 96) 0 5 rfl (bd_f (o3) (by omega)) (by decide) ?_
      refine a_aload_n (pc := 12) 0 6 rfl rfl ?_
      refine a_iload (pc := 13) 0 7 rfl rfl ?_
      refine a_callVr (pc := 15) 0 8 (c_X2_bidAt (S := σ2) (nI j1)) rfl cv_X2_36 (by decide) rfl rfl rfl (rm rfl) ?_
      refine a_astore (pc := 18) 0 9 (ls2 := [some (vr 2 0), some (vr 3 0), some (vi p2), some (vi p3), some (vi (nI j1)), some (vr 1 (f_X2_bidAt σ2 (nI j1))), none]) rfl (by decide) rfl ?_
      refine a_aload (pc := 20) 0 10 rfl rfl ?_
      refine g_1_got (pc := 22) 0 11 rfl (show f_X2_bidAt σ2 (nI j1) < 13 from r_X2_bidAt) fl_X2_67 ?_
      have J90_17 : ∀ (S9 : Mem) (eS9 : (if (σ2.1 kBidGets (f_X2_bidAt σ2 (nI j1))) ≤ 0 then (σ2) else (lt (f_X11_percentRoundedUp σ2 (σ2.1 kBidGets (f_X2_bidAt σ2 (nI j1))) p2) (fun (v5 : Int32) => lt ((upd2 σ2.1 kReserves (f_X3_bank σ2 (σ2.1 kBidBanks (f_X2_bidAt σ2 (nI j1)))) ((σ2.1 kReserves (f_X3_bank σ2 (σ2.1 kBidBanks (f_X2_bidAt σ2 (nI j1))))) - v5), σ2.2)) (fun (S6 : Mem) => lt ((upd2 S6.1 kTreasury 0 ((S6.1 kTreasury 0) + v5), S6.2)) (fun (S7 : Mem) => lt (f_X2_add S7 (S7.1 kBidBanks (f_X2_bidAt σ2 (nI j1))) (S7.1 kAuctions 0) (S7.1 kBidGets (f_X2_bidAt σ2 (nI j1)))) (fun (S8 : Mem) => S8)))))) = S9), BW O G fdX2_sell 0 0 (QV O G 0 0 PP) S9 90 [some (vr 2 0), some (vr 3 0), some (vi p2), some (vi p3), some (vi (nI j1)), some (vr 1 (f_X2_bidAt σ2 (nI j1))), none] [] := by
        intro S9 eS9
        refine a_iinc (pc := 90) 0 42 (v := nI (j1 + 1)) (ls2 := [some (vr 2 0), some (vr 3 0), some (vi p2), some (vi p3), some (vi (nI (j1 + 1))), some (vr 1 (f_X2_bidAt σ2 (nI j1))), none]) rfl rfl (iinc1 _) (by decide) rfl ?_
        refine a_goto (pc := 93) (tgt := 3) 0 43 rfl (by decide) ?_
        refine a_drop (ls2 := [some (vr 2 0), some (vr 3 0), some (vi p2), some (vi p3), some (vi (nI (j1 + 1))), none, none]) (⟨rfl, rfl, rfl, rfl, rfl, trivial⟩) ?_
        exact ih_j1 (j1 + 1) (by omega) S9 (by rw [iter_succ, eσ2]; unfold b3_X2_sell; exact (lt_eq eS9))
      refine a_if_le (pc := 25) (tgt := 90) 0 12 rfl (by decide) (fun c25_3 => ?_) (fun c25_3 => ?_)
      · exact J90_17 _ (by exact (if_pos c25_3))
      · refine a_aload (pc := 28) 0 13 rfl rfl ?_
        refine g_1_got (pc := 30) 0 14 rfl (show f_X2_bidAt σ2 (nI j1) < 13 from r_X2_bidAt) fl_X2_67 ?_
        refine a_iload_n (pc := 33) 0 15 rfl rfl ?_
        refine a_callSNi (pc := 34) 0 16 (c_X11_percentRoundedUp (S := σ2) (σ2.1 kBidGets (f_X2_bidAt σ2 (nI j1))) p2) rfl csn_X2_80 rfl (rm rfl) ?_
        refine a_seti (fun v5 ev5 => ?_)
        refine a_istore (pc := 37) 0 17 (ls2 := [some (vr 2 0), some (vr 3 0), some (vi p2), some (vi p3), some (vi (nI j1)), some (vr 1 (f_X2_bidAt σ2 (nI j1))), some (vi v5)]) rfl (by decide) rfl ?_
        refine a_aload_n (pc := 39) 0 18 rfl rfl ?_
        refine a_aload (pc := 40) 0 19 rfl rfl ?_
        refine g_1_bank (pc := 42) 0 20 rfl (show f_X2_bidAt σ2 (nI j1) < 13 from r_X2_bidAt) fl_X2_40 ?_
        refine a_callVr (pc := 45) 0 21 (c_X3_bank (S := σ2) (σ2.1 kBidBanks (f_X2_bidAt σ2 (nI j1)))) rfl cv_X2_53 (by decide) rfl rfl rfl (rm rfl) ?_
        refine a_dup (pc := 48) 0 22 rfl rfl ?_
        refine g_0_reserves (pc := 49) 0 23 rfl (show f_X3_bank σ2 (σ2.1 kBidBanks (f_X2_bidAt σ2 (nI j1))) < 5 from r_X3_bank) fl_X2_83 ?_
        refine a_iload (pc := 52) 0 24 rfl rfl ?_
        refine a_isub (pc := 54) 0 25 rfl ?_
        refine p_0_reserves (pc := 55) 0 26 rfl (show f_X3_bank σ2 (σ2.1 kBidBanks (f_X2_bidAt σ2 (nI j1))) < 5 from r_X3_bank) fl_X2_83 ?_
        refine a_set (fun S6 eS6 => ?_)
        refine a_aload_n (pc := 58) 0 27 rfl rfl ?_
        refine g_3_central (pc := 59) 0 28 rfl fl_X2_86 ?_
        refine a_dup (pc := 62) 0 29 rfl rfl ?_
        refine g_4_treasury (pc := 63) 0 30 rfl fl_X2_90 ?_
        refine a_iload (pc := 66) 0 31 rfl rfl ?_
        refine a_iadd (pc := 68) 0 32 rfl ?_
        refine p_4_treasury (pc := 69) 0 33 rfl fl_X2_90 ?_
        refine a_set (fun S7 eS7 => ?_)
        refine a_aload_n (pc := 72) 0 34 rfl rfl ?_
        refine a_aload (pc := 73) 0 35 rfl rfl ?_
        refine g_1_bank (pc := 75) 0 36 rfl (show f_X2_bidAt σ2 (nI j1) < 13 from r_X2_bidAt) fl_X2_40 ?_
        refine a_aload_n (pc := 78) 0 37 rfl rfl ?_
        refine g_2_auctionCount (pc := 79) 0 38 rfl fl_X2_33 ?_
        refine a_aload (pc := 82) 0 39 rfl rfl ?_
        refine g_1_got (pc := 84) 0 40 rfl (show f_X2_bidAt σ2 (nI j1) < 13 from r_X2_bidAt) fl_X2_67 ?_
        refine a_callVv (pc := 87) 0 41 (c_X2_add (S := S7) (S7.1 kBidBanks (f_X2_bidAt σ2 (nI j1))) (S7.1 kAuctions 0) (S7.1 kBidGets (f_X2_bidAt σ2 (nI j1)))) rfl cv_X2_95 (by decide) rfl rfl rfl (rm rfl) ?_
        refine a_set (fun S8 eS8 => ?_)
        refine a_drop (ls2 := [some (vr 2 0), some (vr 3 0), some (vi p2), some (vi p3), some (vi (nI j1)), some (vr 1 (f_X2_bidAt σ2 (nI j1))), none]) (⟨rfl, rfl, rfl, rfl, rfl, rfl, trivial⟩) ?_
        exact J90_17 _ (by exact ((if_neg c25_3).trans ((lt_eq ev5).trans ((lt_eq eS6).trans ((lt_eq eS7).trans (lt_eq eS8))))))
  exact L3_15 (ix (S.1 kBids 0)) 0 (by omega) S rfl
theorem c_X2_sell {S : Mem} (p2 : Int32) (p3 : Int32)   (h : ok_X2_sell S p2 p3) : Cts mdX2_sell 1 24 [vr 2 0, vr 3 0, vi p2, vi p3] S (Is none (f_X2_sell S p2 p3)) := Cts.of dtX2_sell (by decide +kernel) rfl rfl (Nat.le_of_ble_eq_true rfl) rfl (fun O G => w_X2_sell p2 p3 h (fun _ h9 => ⟨rfl, h9.symm⟩))
def b7_X2_highestBidNotTried (S : Mem) (j1 : Nat) (σ2 : Nat) : Nat := lt (if (S.1 kAreSeen (f_X2_bidAt S (nI j1))) = 0 then (if (S.1 kBidPrices (f_X2_bidAt S (nI j1))) ≤ (S.1 kBidPrices σ2) then (σ2) else (f_X2_bidAt S (nI j1))) else (σ2)) (fun (r6 : Nat) => r6)
def f_X2_highestBidNotTried (S : Mem)  : Nat := lt (iter (b7_X2_highestBidNotTried S) 12 (ix (S.1 kBids 0))) (fun (σ2 : Nat) => σ2)
def ok_X2_highestBidNotTried (S : Mem)  : Prop := ((∀ j1 : Nat, j1 ≤ ix (S.1 kBids 0) → ∀ σ2 : Nat, iter (b7_X2_highestBidNotTried S) 12 j1 = σ2 → S.1 kBids 0 = nI (ix (S.1 kBids 0))))
abbrev fdX2_highestBidNotTried : FD := (mdX2_highestBidNotTried, [], 1, 22, 0, 0)
set_option maxRecDepth 100000 in
set_option maxHeartbeats 4000000 in
theorem w_X2_highestBidNotTried {O : Om} {G : Cx} {S : Mem} {PP : Option AV → Mem → Prop}    (h : ok_X2_highestBidNotTried S ) (hP : ∀ x9, f_X2_highestBidNotTried S  = x9 → PP (some (vr 1 x9)) S) : BW O G fdX2_highestBidNotTried 0 0 (QV O G 0 0 PP) S 0 [some (vr 2 0), none, none, none] [] := by
  refine a_aload_n (pc := 0) 0 0 rfl rfl ?_
  refine g_2_noBid (pc := 1) 0 1 rfl fl_X2_18 ?_
  refine a_astore_n (pc := 4) 0 2 (ls2 := [some (vr 2 0), some (vr 1 12), none, none]) rfl rfl (by decide) rfl ?_
  refine a_iconst (pc := 5) 0 3 (v := 0) rfl (by decide) ?_
  refine a_istore_n (pc := 6) 0 4 (ls2 := [some (vr 2 0), some (vr 1 12), some (vi 0), none]) rfl rfl (by decide) rfl ?_
  have o3 := h
  have nlt_j1 := ix_lt (S.1 kBids 0)
  have L7_6 : ∀ (m_j1 j1 : Nat), j1 + m_j1 = ix (S.1 kBids 0) → ∀ (σ2 : Nat), iter (b7_X2_highestBidNotTried S) 12 j1 = σ2 → σ2 < 13 → BW O G fdX2_highestBidNotTried 0 0 (QV O G 0 0 PP) S 7 [some (vr 2 0), some (vr 1 σ2), some (vi (nI j1)), none] [] := by
    intro m_j1
    induction m_j1 with
    | zero =>
      intro j1 hj_j1 σ2 eσ2 hr0_j1
      have o3 := o3 j1 (by omega) σ2 eσ2
      have hn_j1 : j1 = ix (S.1 kBids 0) := by omega
      rw [hn_j1] at eσ2
      refine a_iload_n (pc := 7) 0 5 rfl rfl ?_
      refine a_aload_n (pc := 8) 0 6 rfl rfl ?_
      refine g_2_bidCount (pc := 9) 0 7 rfl fl_X2_29 ?_
      refine a_icmp_ge_t (pc := 12) (tgt := 47) 0 8 rfl (by decide) (bd_t (o3) (by omega)) ?_
      refine a_aload_n (pc := 47) 0 25 rfl rfl ?_
      exact a_aret (pc := 48) 0 26 (C := "Newsmint$Bid") rfl rfl (hP _ (by unfold f_X2_highestBidNotTried; exact lt_eq eσ2))
    | succ m_j1 ih_j1 =>
      intro j1 hj_j1 σ2 eσ2 hr0_j1
      have o3 := o3 j1 (by omega) σ2 eσ2
      refine a_iload_n (pc := 7) 0 5 rfl rfl ?_
      refine a_aload_n (pc := 8) 0 6 rfl rfl ?_
      refine g_2_bidCount (pc := 9) 0 7 rfl fl_X2_29 ?_
      refine a_icmp_ge_f (pc := 12) (tgt := 47) 0 8 rfl (bd_f (o3) (by omega)) (by decide) ?_
      refine a_aload_n (pc := 15) 0 9 rfl rfl ?_
      refine a_iload_n (pc := 16) 0 10 rfl rfl ?_
      refine a_callVr (pc := 17) 0 11 (c_X2_bidAt (S := S) (nI j1)) rfl cv_X2_36 (by decide) rfl rfl rfl (rm rfl) ?_
      refine a_astore_n (pc := 20) 0 12 (ls2 := [some (vr 2 0), some (vr 1 σ2), some (vi (nI j1)), some (vr 1 (f_X2_bidAt S (nI j1)))]) rfl rfl (by decide) rfl ?_
      refine a_aload_n (pc := 21) 0 13 rfl rfl ?_
      refine g_1_wasTried (pc := 22) 0 14 rfl (show f_X2_bidAt S (nI j1) < 13 from r_X2_bidAt) fl_X2_63 ?_
      have J41_7 : ∀ (r6 : Nat) (er6 : (if (S.1 kAreSeen (f_X2_bidAt S (nI j1))) = 0 then (if (S.1 kBidPrices (f_X2_bidAt S (nI j1))) ≤ (S.1 kBidPrices σ2) then (σ2) else (f_X2_bidAt S (nI j1))) else (σ2)) = r6), BW O G fdX2_highestBidNotTried 0 0 (QV O G 0 0 PP) S 41 [some (vr 2 0), some (vr 1 r6), some (vi (nI j1)), some (vr 1 (f_X2_bidAt S (nI j1)))] [] := by
        intro r6 er6
        refine a_iinc (pc := 41) 0 23 (v := nI (j1 + 1)) (ls2 := [some (vr 2 0), some (vr 1 r6), some (vi (nI (j1 + 1))), some (vr 1 (f_X2_bidAt S (nI j1)))]) rfl rfl (iinc1 _) (by decide) rfl ?_
        refine a_goto (pc := 44) (tgt := 7) 0 24 rfl (by decide) ?_
        refine a_drop (ls2 := [some (vr 2 0), some (vr 1 r6), some (vi (nI (j1 + 1))), none]) (⟨rfl, rfl, rfl, trivial⟩) ?_
        exact ih_j1 (j1 + 1) (by omega) r6 (by rw [iter_succ, eσ2]; unfold b7_X2_highestBidNotTried; exact (lt_eq er6)) (by rw [← er6]; repeat (first | assumption | (exact r_X2_bidAt) | split))
      refine a_if_ne (pc := 25) (tgt := 41) 0 15 rfl (by decide) (fun c25_3 => ?_) (fun c25_3 => ?_)
      · exact J41_7 _ (by exact (if_neg c25_3))
      · refine a_aload_n (pc := 28) 0 16 rfl rfl ?_
        refine g_1_price (pc := 29) 0 17 rfl (show f_X2_bidAt S (nI j1) < 13 from r_X2_bidAt) fl_X2_43 ?_
        refine a_aload_n (pc := 32) 0 18 rfl rfl ?_
        refine g_1_price (pc := 33) 0 19 rfl (by first | omega | assumption) fl_X2_43 ?_
        refine a_icmp_le (pc := 36) (tgt := 41) 0 20 rfl (by decide) (fun c36_4 => ?_) (fun c36_4 => ?_)
        · exact J41_7 _ (by exact ((if_pos c25_3).trans (if_pos c36_4)))
        · refine a_aload_n (pc := 39) 0 21 rfl rfl ?_
          refine a_astore_n (pc := 40) 0 22 (ls2 := [some (vr 2 0), some (vr 1 (f_X2_bidAt S (nI j1))), some (vi (nI j1)), some (vr 1 (f_X2_bidAt S (nI j1)))]) rfl rfl (by decide) rfl ?_
          exact J41_7 _ (by exact ((if_pos c25_3).trans (if_neg c36_4)))
  exact L7_6 (ix (S.1 kBids 0)) 0 (by omega) 12 rfl (by decide)
theorem c_X2_highestBidNotTried {S : Mem}    (h : ok_X2_highestBidNotTried S ) : Cts mdX2_highestBidNotTried 1 22 [vr 2 0] S (Is (some (vr 1 (f_X2_highestBidNotTried S ))) (S)) := Cts.of dtX2_highestBidNotTried (by decide +kernel) rfl rfl (Nat.le_of_ble_eq_true rfl) rfl (fun O G => w_X2_highestBidNotTried  h (fun _ h9 => ⟨by rw [h9], rfl⟩))
theorem r_X2_highestBidNotTried {S : Mem} : f_X2_highestBidNotTried S < 13 := by
  unfold f_X2_highestBidNotTried
  refine iter_inv (fun z => z < 13) (by decide) (fun j σ h => ?_) _
  unfold b7_X2_highestBidNotTried
  dsimp only [lt]
  repeat (first | assumption | exact r_X2_bidAt | split)
def b2_X2_takeBids  (j1 : Nat) (σ2 : Mem) : Mem := lt ((upd2 σ2.1 kPromised (f_X3_bank σ2 (nI j1)) 0, σ2.2)) (fun (S3 : Mem) => S3)
def b24_X2_takeBids  (j4 : Nat) (σ5 : Mem) : Mem := lt ((upd2 σ5.1 kAreSeen (f_X2_bidAt σ5 (nI j4)) 0, σ5.2)) (fun (S7 : Mem) => lt ((upd2 S7.1 kBidGets (f_X2_bidAt S7 (nI j4)) 0, S7.2)) (fun (S8 : Mem) => S8))
def b64_X2_takeBids  (j9 : Nat) (σ10 : Int32 × Int32 × Mem) : (Int32 × Int32 × Mem) ⊕ (Int32 × Int32 × Mem) := if σ10.2.1 ≤ 0 then (.inr (σ10.1, σ10.2.1, σ10.2.2)) else (lt ((upd2 σ10.2.2.1 kAreSeen (f_X2_highestBidNotTried σ10.2.2 ) 1, σ10.2.2.2)) (fun (S14 : Mem) => lt (if σ10.2.1 < (S14.1 kBidNumbers (f_X2_highestBidNotTried σ10.2.2 )) then σ10.2.1 else (S14.1 kBidNumbers (f_X2_highestBidNotTried σ10.2.2 ))) (fun (v15 : Int32) => lt (f_X11_percentRoundedUp S14 v15 (S14.1 kBidPrices (f_X2_highestBidNotTried σ10.2.2 ))) (fun (v16 : Int32) => lt (if (S14.1 kReserves (f_X3_bank S14 (S14.1 kBidBanks (f_X2_highestBidNotTried σ10.2.2 )))) < ((S14.1 kPromised (f_X3_bank S14 (S14.1 kBidBanks (f_X2_highestBidNotTried σ10.2.2 )))) + v16) then (σ10.1) else (lt ((upd2 S14.1 kPromised (f_X3_bank S14 (S14.1 kBidBanks (f_X2_highestBidNotTried σ10.2.2 ))) ((S14.1 kPromised (f_X3_bank S14 (S14.1 kBidBanks (f_X2_highestBidNotTried σ10.2.2 )))) + v16), S14.2)) (fun (S18 : Mem) => lt ((upd2 S18.1 kBidGets (f_X2_highestBidNotTried σ10.2.2 ) v15, S18.2)) (fun (S19 : Mem) => S19.1 kBidPrices (f_X2_highestBidNotTried σ10.2.2 ))))) (fun (v20 : Int32) => lt (if (S14.1 kReserves (f_X3_bank S14 (S14.1 kBidBanks (f_X2_highestBidNotTried σ10.2.2 )))) < ((S14.1 kPromised (f_X3_bank S14 (S14.1 kBidBanks (f_X2_highestBidNotTried σ10.2.2 )))) + v16) then (σ10.2.1) else (lt ((upd2 S14.1 kPromised (f_X3_bank S14 (S14.1 kBidBanks (f_X2_highestBidNotTried σ10.2.2 ))) ((S14.1 kPromised (f_X3_bank S14 (S14.1 kBidBanks (f_X2_highestBidNotTried σ10.2.2 )))) + v16), S14.2)) (fun (S18 : Mem) => lt ((upd2 S18.1 kBidGets (f_X2_highestBidNotTried σ10.2.2 ) v15, S18.2)) (fun (S19 : Mem) => σ10.2.1 - v15)))) (fun (v21 : Int32) => lt (if (S14.1 kReserves (f_X3_bank S14 (S14.1 kBidBanks (f_X2_highestBidNotTried σ10.2.2 )))) < ((S14.1 kPromised (f_X3_bank S14 (S14.1 kBidBanks (f_X2_highestBidNotTried σ10.2.2 )))) + v16) then (S14) else (lt ((upd2 S14.1 kPromised (f_X3_bank S14 (S14.1 kBidBanks (f_X2_highestBidNotTried σ10.2.2 ))) ((S14.1 kPromised (f_X3_bank S14 (S14.1 kBidBanks (f_X2_highestBidNotTried σ10.2.2 )))) + v16), S14.2)) (fun (S18 : Mem) => lt ((upd2 S18.1 kBidGets (f_X2_highestBidNotTried σ10.2.2 ) v15, S18.2)) (fun (S19 : Mem) => S19)))) (fun (S22 : Mem) => .inl (v20, v21, S22))))))))
def f_X2_takeBids (S : Mem) (p2 : Int32) : Int32 × Mem := lt (iter (b2_X2_takeBids) S (4)) (fun (σ2 : Mem) => lt (iter (b24_X2_takeBids) σ2 (ix (σ2.1 kBids 0))) (fun (σ5 : Mem) => lt (outE (iterE (b64_X2_takeBids) ((-1), p2, σ5) (ix (σ5.1 kBids 0)))) (fun (σ10 : Int32 × Int32 × Mem) => (σ10.1, σ10.2.2))))
def ok_X2_takeBids (S : Mem) (p2 : Int32) : Prop := ((∀ σ2 : Mem, iter (b2_X2_takeBids) S (4) = σ2 → ((∀ j4 : Nat, j4 ≤ ix (σ2.1 kBids 0) → ∀ σ5 : Mem, iter (b24_X2_takeBids) σ2 j4 = σ5 → σ5.1 kBids 0 = nI (ix (σ2.1 kBids 0))) ∧ (∀ σ5 : Mem, iter (b24_X2_takeBids) σ2 (ix (σ2.1 kBids 0)) = σ5 → ((∀ j9 : Nat, j9 ≤ ix (σ5.1 kBids 0) → ∀ σ10 : Int32 × Int32 × Mem, iterE (b64_X2_takeBids) ((-1), p2, σ5) j9 = .inl σ10 → σ10.2.2.1 kBids 0 = nI (ix (σ5.1 kBids 0))) ∧ (∀ j9 : Nat, j9 < ix (σ5.1 kBids 0) → ∀ σ10 : Int32 × Int32 × Mem, iterE (b64_X2_takeBids) ((-1), p2, σ5) j9 = .inl σ10 → (((¬ (σ10.2.1 ≤ 0)) → ((ok_X2_highestBidNotTried σ10.2.2 ))))))))))
abbrev fdX2_takeBids : FD := (mdX2_takeBids, [], 2, 45, 0, 0)
set_option maxRecDepth 100000 in
set_option maxHeartbeats 4000000 in
theorem w_X2_takeBids {O : Om} {G : Cx} {S : Mem} {PP : Option AV → Mem → Prop} (p2 : Int32)   (h : ok_X2_takeBids S p2) (hP : ∀ x9 S9, f_X2_takeBids S p2 = (x9, S9) → PP (some (vi x9)) S9) : BW O G fdX2_takeBids 0 0 (QV O G 0 0 PP) S 0 [some (vr 2 0), some (vr 3 0), some (vi p2), none, none, none, none, none, none, none] [] := by
  refine a_iconst (pc := 0) 0 0 (v := 0) rfl (by decide) ?_
  refine a_istore_n (pc := 1) 0 1 (ls2 := [some (vr 2 0), some (vr 3 0), some (vi p2), some (vi 0), none, none, none, none, none, none]) rfl rfl (by decide) rfl ?_
  have L2_22 : ∀ (m_j1 j1 : Nat), j1 + m_j1 = 4 → ∀ (σ2 : Mem), iter (b2_X2_takeBids) S j1 = σ2 → BW O G fdX2_takeBids 0 0 (QV O G 0 0 PP) σ2 2 [some (vr 2 0), some (vr 3 0), some (vi p2), some (vi (nI j1)), none, none, none, none, none, none] [] := by
    intro m_j1
    induction m_j1 with
    | zero =>
      intro j1 hj_j1 σ2 eσ2
      have hn_j1 : j1 = 4 := by omega
      rw [hn_j1] at eσ2
      have h := h σ2 eσ2
      refine a_iload_n (pc := 2) 0 2 rfl rfl ?_
      refine a_iconst (pc := 3) 0 3 (v := nI 4) rfl (by decide) ?_
      refine a_icmp_ge_t (pc := 4) (tgt := 22) 0 4 rfl (by decide) (nI_le (by omega) (by omega)) ?_
      refine a_iconst (pc := 22) 0 12 (v := 0) rfl (by decide) ?_
      refine a_istore_n (pc := 23) 0 13 (ls2 := [some (vr 2 0), some (vr 3 0), some (vi p2), some (vi 0), none, none, none, none, none, none]) rfl rfl (by decide) rfl ?_
      obtain ⟨o6, h⟩ := h
      have nlt_j4 := ix_lt (σ2.1 kBids 0)
      have L24_23 : ∀ (m_j4 j4 : Nat), j4 + m_j4 = ix (σ2.1 kBids 0) → ∀ (σ5 : Mem), iter (b24_X2_takeBids) σ2 j4 = σ5 → BW O G fdX2_takeBids 0 0 (QV O G 0 0 PP) σ5 24 [some (vr 2 0), some (vr 3 0), some (vi p2), some (vi (nI j4)), none, none, none, none, none, none] [] := by
        intro m_j4
        induction m_j4 with
        | zero =>
          intro j4 hj_j4 σ5 eσ5
          have o6 := o6 j4 (by omega) σ5 eσ5
          have hn_j4 : j4 = ix (σ2.1 kBids 0) := by omega
          rw [hn_j4] at eσ5
          have h := h σ5 eσ5
          refine a_iload_n (pc := 24) 0 14 rfl rfl ?_
          refine a_aload_n (pc := 25) 0 15 rfl rfl ?_
          refine g_2_bidCount (pc := 26) 0 16 rfl fl_X2_29 ?_
          refine a_icmp_ge_t (pc := 29) (tgt := 56) 0 17 rfl (by decide) (bd_t (o6) (by omega)) ?_
          refine a_iconst (pc := 56) 0 30 (v := (-1)) rfl (by decide) ?_
          refine a_istore_n (pc := 57) 0 31 (ls2 := [some (vr 2 0), some (vr 3 0), some (vi p2), some (vi (-1)), none, none, none, none, none, none]) rfl rfl (by decide) rfl ?_
          refine a_iload_n (pc := 58) 0 32 rfl rfl ?_
          refine a_istore (pc := 59) 0 33 (ls2 := [some (vr 2 0), some (vr 3 0), some (vi p2), some (vi (-1)), some (vi p2), none, none, none, none, none]) rfl (by decide) rfl ?_
          refine a_iconst (pc := 61) 0 34 (v := 0) rfl (by decide) ?_
          refine a_istore (pc := 62) 0 35 (ls2 := [some (vr 2 0), some (vr 3 0), some (vi p2), some (vi (-1)), some (vi p2), some (vi 0), none, none, none, none]) rfl (by decide) rfl ?_
          obtain ⟨o11, hb_j9⟩ := h
          have nlt_j9 := ix_lt (σ5.1 kBids 0)
          have E64_25 : ∀ (σ10 : Int32 × Int32 × Mem), outE (iterE (b64_X2_takeBids) ((-1), p2, σ5) (ix (σ5.1 kBids 0))) = σ10 → BW O G fdX2_takeBids 0 0 (QV O G 0 0 PP) σ10.2.2 179 [some (vr 2 0), some (vr 3 0), some (vi p2), some (vi σ10.1), some (vi σ10.2.1), none, none, none, none, none] [] := by
            intro σ10 eσ10
            refine a_iload_n (pc := 179) 1 40 rfl rfl ?_
            exact a_iret (pc := 180) 1 41 rfl rfl (hP _ _ (by unfold f_X2_takeBids; exact (lt_eq eσ2).trans ((lt_eq eσ5).trans (lt_eq eσ10))))
          have L64_24 : ∀ (m_j9 j9 : Nat), j9 + m_j9 = ix (σ5.1 kBids 0) → ∀ (σ10 : Int32 × Int32 × Mem), iterE (b64_X2_takeBids) ((-1), p2, σ5) j9 = .inl σ10 → BW O G fdX2_takeBids 0 0 (QV O G 0 0 PP) σ10.2.2 64 [some (vr 2 0), some (vr 3 0), some (vi p2), some (vi σ10.1), some (vi σ10.2.1), some (vi (nI j9)), none, none, none, none] [] := by
            intro m_j9
            induction m_j9 with
            | zero =>
              intro j9 hj_j9 σ10 eσ10
              have o11 := o11 j9 (by omega) σ10 eσ10
              have hn_j9 : j9 = ix (σ5.1 kBids 0) := by omega
              refine a_iload (pc := 64) 0 36 rfl rfl ?_
              refine a_aload_n (pc := 66) 0 37 rfl rfl ?_
              refine g_2_bidCount (pc := 67) 0 38 rfl fl_X2_29 ?_
              refine a_icmp_ge_t (pc := 70) (tgt := 179) 0 39 rfl (by decide) (bd_t (o11) (by omega)) ?_
              refine a_drop (ls2 := [some (vr 2 0), some (vr 3 0), some (vi p2), some (vi σ10.1), some (vi σ10.2.1), none, none, none, none, none]) (⟨rfl, rfl, rfl, rfl, rfl, trivial⟩) ?_
              exact E64_25 σ10 (by rw [← hn_j9, eσ10]; rfl)
            | succ m_j9 ih_j9 =>
              intro j9 hj_j9 σ10 eσ10
              have o11 := o11 j9 (by omega) σ10 eσ10
              have h := hb_j9 j9 (by omega) σ10 eσ10
              refine a_iload (pc := 64) 0 36 rfl rfl ?_
              refine a_aload_n (pc := 66) 0 37 rfl rfl ?_
              refine g_2_bidCount (pc := 67) 0 38 rfl fl_X2_29 ?_
              refine a_icmp_ge_f (pc := 70) (tgt := 179) 0 39 rfl (bd_f (o11) (by omega)) (by decide) ?_
              refine a_iload (pc := 73) 0 40 rfl rfl ?_
              refine a_if_le (pc := 75) (tgt := 179) 0 41 rfl (by decide) (fun c75_11 => ?_) (fun c75_11 => ?_)
              · refine a_drop (ls2 := [some (vr 2 0), some (vr 3 0), some (vi p2), some (vi σ10.1), some (vi σ10.2.1), none, none, none, none, none]) (⟨rfl, rfl, rfl, rfl, rfl, trivial⟩) ?_
                exact E64_25 (σ10.1, σ10.2.1, σ10.2.2) (by have e9 := iterE_stop (r := (σ10.1, σ10.2.1, σ10.2.2)) eσ10 (by unfold b64_X2_takeBids; exact (if_pos c75_11)) (ix (σ5.1 kBids 0)) (by omega); rw [e9]; rfl)
              · have h := h c75_11
                refine a_aload_n (pc := 78) 0 42 rfl rfl ?_
                have o13 := h
                refine a_callVr (pc := 79) 0 43 (c_X2_highestBidNotTried (S := σ10.2.2)  o13) rfl cv_X2_70 (by decide) rfl rfl rfl (rm rfl) ?_
                refine a_astore (pc := 82) 0 44 (ls2 := [some (vr 2 0), some (vr 3 0), some (vi p2), some (vi σ10.1), some (vi σ10.2.1), some (vi (nI j9)), some (vr 1 (f_X2_highestBidNotTried σ10.2.2 )), none, none, none]) rfl (by decide) rfl ?_
                refine a_aload (pc := 84) 0 45 rfl rfl ?_
                refine a_iconst (pc := 86) 0 46 (v := 1) rfl (by decide) ?_
                refine p_1_wasTried (pc := 87) 0 47 rfl (show f_X2_highestBidNotTried σ10.2.2  < 13 from r_X2_highestBidNotTried) fl_X2_63 (Or.inr rfl) ?_
                refine a_set (fun S14 eS14 => ?_)
                refine a_aload (pc := 90) 1 0 rfl rfl ?_
                refine g_1_number (pc := 92) 1 1 rfl (show f_X2_highestBidNotTried σ10.2.2  < 13 from r_X2_highestBidNotTried) fl_X2_46 ?_
                refine a_iload (pc := 95) 1 2 rfl rfl ?_
                refine a_mmin (pc := 97) 1 3 rfl mm_X2_74 (mm rfl) ?_
                refine a_seti (fun v15 ev15 => ?_)
                refine a_istore (pc := 100) 1 4 (ls2 := [some (vr 2 0), some (vr 3 0), some (vi p2), some (vi σ10.1), some (vi σ10.2.1), some (vi (nI j9)), some (vr 1 (f_X2_highestBidNotTried σ10.2.2 )), some (vi v15), none, none]) rfl (by decide) rfl ?_
                refine a_iload (pc := 102) 1 5 rfl rfl ?_
                refine a_aload (pc := 104) 1 6 rfl rfl ?_
                refine g_1_price (pc := 106) 1 7 rfl (show f_X2_highestBidNotTried σ10.2.2  < 13 from r_X2_highestBidNotTried) fl_X2_43 ?_
                refine a_callSNi (pc := 109) 1 8 (c_X11_percentRoundedUp (S := S14) v15 (S14.1 kBidPrices (f_X2_highestBidNotTried σ10.2.2 ))) rfl csn_X2_80 rfl (rm rfl) ?_
                refine a_seti (fun v16 ev16 => ?_)
                refine a_istore (pc := 112) 1 9 (ls2 := [some (vr 2 0), some (vr 3 0), some (vi p2), some (vi σ10.1), some (vi σ10.2.1), some (vi (nI j9)), some (vr 1 (f_X2_highestBidNotTried σ10.2.2 )), some (vi v15), some (vi v16), none]) rfl (by decide) rfl ?_
                refine a_aload_n (pc := 114) 1 10 rfl rfl ?_
                refine a_aload (pc := 115) 1 11 rfl rfl ?_
                refine g_1_bank (pc := 117) 1 12 rfl (show f_X2_highestBidNotTried σ10.2.2  < 13 from r_X2_highestBidNotTried) fl_X2_40 ?_
                refine a_callVr (pc := 120) 1 13 (c_X3_bank (S := S14) (S14.1 kBidBanks (f_X2_highestBidNotTried σ10.2.2 ))) rfl cv_X2_53 (by decide) rfl rfl rfl (rm rfl) ?_
                refine a_astore (pc := 123) 1 14 (ls2 := [some (vr 2 0), some (vr 3 0), some (vi p2), some (vi σ10.1), some (vi σ10.2.1), some (vi (nI j9)), some (vr 1 (f_X2_highestBidNotTried σ10.2.2 )), some (vi v15), some (vi v16), some (vr 0 (f_X3_bank S14 (S14.1 kBidBanks (f_X2_highestBidNotTried σ10.2.2 ))))]) rfl (by decide) rfl ?_
                refine a_aload (pc := 125) 1 15 rfl rfl ?_
                refine g_0_reserves (pc := 127) 1 16 rfl (show f_X3_bank S14 (S14.1 kBidBanks (f_X2_highestBidNotTried σ10.2.2 )) < 5 from r_X3_bank) fl_X2_83 ?_
                refine a_aload (pc := 130) 1 17 rfl rfl ?_
                refine g_0_promised (pc := 132) 1 18 rfl (show f_X3_bank S14 (S14.1 kBidBanks (f_X2_highestBidNotTried σ10.2.2 )) < 5 from r_X3_bank) fl_X2_58 ?_
                refine a_iload (pc := 135) 1 19 rfl rfl ?_
                refine a_iadd (pc := 137) 1 20 rfl ?_
                have J173_26 : ∀ (v20 : Int32) (ev20 : (if (S14.1 kReserves (f_X3_bank S14 (S14.1 kBidBanks (f_X2_highestBidNotTried σ10.2.2 )))) < ((S14.1 kPromised (f_X3_bank S14 (S14.1 kBidBanks (f_X2_highestBidNotTried σ10.2.2 )))) + v16) then (σ10.1) else (lt ((upd2 S14.1 kPromised (f_X3_bank S14 (S14.1 kBidBanks (f_X2_highestBidNotTried σ10.2.2 ))) ((S14.1 kPromised (f_X3_bank S14 (S14.1 kBidBanks (f_X2_highestBidNotTried σ10.2.2 )))) + v16), S14.2)) (fun (S18 : Mem) => lt ((upd2 S18.1 kBidGets (f_X2_highestBidNotTried σ10.2.2 ) v15, S18.2)) (fun (S19 : Mem) => S19.1 kBidPrices (f_X2_highestBidNotTried σ10.2.2 ))))) = v20) (v21 : Int32) (ev21 : (if (S14.1 kReserves (f_X3_bank S14 (S14.1 kBidBanks (f_X2_highestBidNotTried σ10.2.2 )))) < ((S14.1 kPromised (f_X3_bank S14 (S14.1 kBidBanks (f_X2_highestBidNotTried σ10.2.2 )))) + v16) then (σ10.2.1) else (lt ((upd2 S14.1 kPromised (f_X3_bank S14 (S14.1 kBidBanks (f_X2_highestBidNotTried σ10.2.2 ))) ((S14.1 kPromised (f_X3_bank S14 (S14.1 kBidBanks (f_X2_highestBidNotTried σ10.2.2 )))) + v16), S14.2)) (fun (S18 : Mem) => lt ((upd2 S18.1 kBidGets (f_X2_highestBidNotTried σ10.2.2 ) v15, S18.2)) (fun (S19 : Mem) => σ10.2.1 - v15)))) = v21) (S22 : Mem) (eS22 : (if (S14.1 kReserves (f_X3_bank S14 (S14.1 kBidBanks (f_X2_highestBidNotTried σ10.2.2 )))) < ((S14.1 kPromised (f_X3_bank S14 (S14.1 kBidBanks (f_X2_highestBidNotTried σ10.2.2 )))) + v16) then (S14) else (lt ((upd2 S14.1 kPromised (f_X3_bank S14 (S14.1 kBidBanks (f_X2_highestBidNotTried σ10.2.2 ))) ((S14.1 kPromised (f_X3_bank S14 (S14.1 kBidBanks (f_X2_highestBidNotTried σ10.2.2 )))) + v16), S14.2)) (fun (S18 : Mem) => lt ((upd2 S18.1 kBidGets (f_X2_highestBidNotTried σ10.2.2 ) v15, S18.2)) (fun (S19 : Mem) => S19)))) = S22), BW O G fdX2_takeBids 0 0 (QV O G 0 0 PP) S22 173 [some (vr 2 0), some (vr 3 0), some (vi p2), some (vi v20), some (vi v21), some (vi (nI j9)), some (vr 1 (f_X2_highestBidNotTried σ10.2.2 )), some (vi v15), some (vi v16), some (vr 0 (f_X3_bank S14 (S14.1 kBidBanks (f_X2_highestBidNotTried σ10.2.2 ))))] [] := by
                  intro v20 ev20 v21 ev21 S22 eS22
                  refine a_iinc (pc := 173) 1 38 (v := nI (j9 + 1)) (ls2 := [some (vr 2 0), some (vr 3 0), some (vi p2), some (vi v20), some (vi v21), some (vi (nI (j9 + 1))), some (vr 1 (f_X2_highestBidNotTried σ10.2.2 )), some (vi v15), some (vi v16), some (vr 0 (f_X3_bank S14 (S14.1 kBidBanks (f_X2_highestBidNotTried σ10.2.2 ))))]) rfl rfl (iinc1 _) (by decide) rfl ?_
                  refine a_goto (pc := 176) (tgt := 64) 1 39 rfl (by decide) ?_
                  refine a_drop (ls2 := [some (vr 2 0), some (vr 3 0), some (vi p2), some (vi v20), some (vi v21), some (vi (nI (j9 + 1))), none, none, none, none]) (⟨rfl, rfl, rfl, rfl, rfl, rfl, trivial⟩) ?_
                  exact ih_j9 (j9 + 1) (by omega) (v20, v21, S22) (iterE_go eσ10 (by unfold b64_X2_takeBids; exact ((if_neg c75_11).trans ((lt_eq eS14).trans ((lt_eq ev15).trans ((lt_eq ev16).trans ((lt_eq ev20).trans ((lt_eq ev21).trans (lt_eq eS22)))))))))
                refine a_icmp_lt (pc := 138) (tgt := 173) 1 21 rfl (by decide) (fun c138_16 => ?_) (fun c138_16 => ?_)
                · exact J173_26 _ (by exact (if_pos c138_16)) _ (by exact (if_pos c138_16)) _ (by exact (if_pos c138_16))
                · refine a_aload (pc := 141) 1 22 rfl rfl ?_
                  refine a_dup (pc := 143) 1 23 rfl rfl ?_
                  refine g_0_promised (pc := 144) 1 24 rfl (show f_X3_bank S14 (S14.1 kBidBanks (f_X2_highestBidNotTried σ10.2.2 )) < 5 from r_X3_bank) fl_X2_58 ?_
                  refine a_iload (pc := 147) 1 25 rfl rfl ?_
                  refine a_iadd (pc := 149) 1 26 rfl ?_
                  refine p_0_promised (pc := 150) 1 27 rfl (show f_X3_bank S14 (S14.1 kBidBanks (f_X2_highestBidNotTried σ10.2.2 )) < 5 from r_X3_bank) fl_X2_58 ?_
                  refine a_set (fun S18 eS18 => ?_)
                  refine a_aload (pc := 153) 1 28 rfl rfl ?_
                  refine a_iload (pc := 155) 1 29 rfl rfl ?_
                  refine p_1_got (pc := 157) 1 30 rfl (show f_X2_highestBidNotTried σ10.2.2  < 13 from r_X2_highestBidNotTried) fl_X2_67 ?_
                  refine a_set (fun S19 eS19 => ?_)
                  refine a_iload (pc := 160) 1 31 rfl rfl ?_
                  refine a_iload (pc := 162) 1 32 rfl rfl ?_
                  refine a_isub (pc := 164) 1 33 rfl ?_
                  refine a_istore (pc := 165) 1 34 (ls2 := [some (vr 2 0), some (vr 3 0), some (vi p2), some (vi σ10.1), some (vi (σ10.2.1 - v15)), some (vi (nI j9)), some (vr 1 (f_X2_highestBidNotTried σ10.2.2 )), some (vi v15), some (vi v16), some (vr 0 (f_X3_bank S14 (S14.1 kBidBanks (f_X2_highestBidNotTried σ10.2.2 ))))]) rfl (by decide) rfl ?_
                  refine a_aload (pc := 167) 1 35 rfl rfl ?_
                  refine g_1_price (pc := 169) 1 36 rfl (show f_X2_highestBidNotTried σ10.2.2  < 13 from r_X2_highestBidNotTried) fl_X2_43 ?_
                  refine a_istore_n (pc := 172) 1 37 (ls2 := [some (vr 2 0), some (vr 3 0), some (vi p2), some (vi (S19.1 kBidPrices (f_X2_highestBidNotTried σ10.2.2 ))), some (vi (σ10.2.1 - v15)), some (vi (nI j9)), some (vr 1 (f_X2_highestBidNotTried σ10.2.2 )), some (vi v15), some (vi v16), some (vr 0 (f_X3_bank S14 (S14.1 kBidBanks (f_X2_highestBidNotTried σ10.2.2 ))))]) rfl rfl (by decide) rfl ?_
                  exact J173_26 _ (by exact ((if_neg c138_16).trans ((lt_eq eS18).trans (lt_eq eS19)))) _ (by exact ((if_neg c138_16).trans ((lt_eq eS18).trans (lt_eq eS19)))) _ (by exact ((if_neg c138_16).trans ((lt_eq eS18).trans (lt_eq eS19))))
          exact L64_24 (ix (σ5.1 kBids 0)) 0 (by omega) ((-1), p2, σ5) rfl
        | succ m_j4 ih_j4 =>
          intro j4 hj_j4 σ5 eσ5
          have o6 := o6 j4 (by omega) σ5 eσ5
          refine a_iload_n (pc := 24) 0 14 rfl rfl ?_
          refine a_aload_n (pc := 25) 0 15 rfl rfl ?_
          refine g_2_bidCount (pc := 26) 0 16 rfl fl_X2_29 ?_
          refine a_icmp_ge_f (pc := 29) (tgt := 56) 0 17 rfl (bd_f (o6) (by omega)) (by decide) ?_
          refine a_aload_n (pc := 32) 0 18 rfl rfl ?_
          refine a_iload_n (pc := 33) 0 19 rfl rfl ?_
          refine a_callVr (pc := 34) 0 20 (c_X2_bidAt (S := σ5) (nI j4)) rfl cv_X2_36 (by decide) rfl rfl rfl (rm rfl) ?_
          refine a_iconst (pc := 37) 0 21 (v := 0) rfl (by decide) ?_
          refine p_1_wasTried (pc := 38) 0 22 rfl (show f_X2_bidAt σ5 (nI j4) < 13 from r_X2_bidAt) fl_X2_63 (Or.inl rfl) ?_
          refine a_set (fun S7 eS7 => ?_)
          refine a_aload_n (pc := 41) 0 23 rfl rfl ?_
          refine a_iload_n (pc := 42) 0 24 rfl rfl ?_
          refine a_callVr (pc := 43) 0 25 (c_X2_bidAt (S := S7) (nI j4)) rfl cv_X2_36 (by decide) rfl rfl rfl (rm rfl) ?_
          refine a_iconst (pc := 46) 0 26 (v := 0) rfl (by decide) ?_
          refine p_1_got (pc := 47) 0 27 rfl (show f_X2_bidAt S7 (nI j4) < 13 from r_X2_bidAt) fl_X2_67 ?_
          refine a_set (fun S8 eS8 => ?_)
          refine a_iinc (pc := 50) 0 28 (v := nI (j4 + 1)) (ls2 := [some (vr 2 0), some (vr 3 0), some (vi p2), some (vi (nI (j4 + 1))), none, none, none, none, none, none]) rfl rfl (iinc1 _) (by decide) rfl ?_
          refine a_goto (pc := 53) (tgt := 24) 0 29 rfl (by decide) ?_
          exact ih_j4 (j4 + 1) (by omega) S8 (by rw [iter_succ, eσ5]; unfold b24_X2_takeBids; exact ((lt_eq eS7).trans (lt_eq eS8)))
      exact L24_23 (ix (σ2.1 kBids 0)) 0 (by omega) σ2 rfl
    | succ m_j1 ih_j1 =>
      intro j1 hj_j1 σ2 eσ2
      refine a_iload_n (pc := 2) 0 2 rfl rfl ?_
      refine a_iconst (pc := 3) 0 3 (v := nI 4) rfl (by decide) ?_
      refine a_icmp_ge_f (pc := 4) (tgt := 22) 0 4 rfl (nI_ge (by omega) (by omega)) (by decide) ?_
      refine a_aload_n (pc := 7) 0 5 rfl rfl ?_
      refine a_iload_n (pc := 8) 0 6 rfl rfl ?_
      refine a_callVr (pc := 9) 0 7 (c_X3_bank (S := σ2) (nI j1)) rfl cv_X2_53 (by decide) rfl rfl rfl (rm rfl) ?_
      refine a_iconst (pc := 12) 0 8 (v := 0) rfl (by decide) ?_
      refine p_0_promised (pc := 13) 0 9 rfl (show f_X3_bank σ2 (nI j1) < 5 from r_X3_bank) fl_X2_58 ?_
      refine a_set (fun S3 eS3 => ?_)
      refine a_iinc (pc := 16) 0 10 (v := nI (j1 + 1)) (ls2 := [some (vr 2 0), some (vr 3 0), some (vi p2), some (vi (nI (j1 + 1))), none, none, none, none, none, none]) rfl rfl (iinc1 _) (by decide) rfl ?_
      refine a_goto (pc := 19) (tgt := 2) 0 11 rfl (by decide) ?_
      exact ih_j1 (j1 + 1) (by omega) S3 (by rw [iter_succ, eσ2]; unfold b2_X2_takeBids; exact (lt_eq eS3))
  exact L2_22 (4) 0 (by omega) S rfl
theorem c_X2_takeBids {S : Mem} (p2 : Int32)   (h : ok_X2_takeBids S p2) : Cts mdX2_takeBids 2 45 [vr 2 0, vr 3 0, vi p2] S (Is (some (vi (f_X2_takeBids S p2).1)) ((f_X2_takeBids S p2).2)) := Cts.of dtX2_takeBids (by decide +kernel) rfl rfl (Nat.le_of_ble_eq_true rfl) rfl (fun O G => w_X2_takeBids p2 h (fun _ _ h9 => ⟨by rw [h9], by rw [h9]⟩))
def b7_X10_leaveOutLatestOf (S : Mem) (p2 : Int32) (j1 : Nat) : Unit ⊕ Mem := if (S.1 kAreChosen (f_X10_at S (nI j1))) = 0 then (.inl ()) else (if (S.1 kFromBank (f_X10_at S (nI j1))) = p2 then (lt ((upd2 S.1 kAreChosen (f_X10_at S (nI j1)) 0, S.2)) (fun (S5 : Mem) => lt ((upd2 S5.1 kNets (f_X3_bank S5 (S5.1 kFromBank (f_X10_at S (nI j1)))) ((S5.1 kNets (f_X3_bank S5 (S5.1 kFromBank (f_X10_at S (nI j1))))) + (S5.1 kAmounts (f_X10_at S (nI j1)))), S5.2)) (fun (S6 : Mem) => lt ((upd2 S6.1 kNets (f_X3_bank S6 (S6.1 kToBank (f_X10_at S (nI j1)))) ((S6.1 kNets (f_X3_bank S6 (S6.1 kToBank (f_X10_at S (nI j1))))) - (S6.1 kAmounts (f_X10_at S (nI j1)))), S6.2)) (fun (S7 : Mem) => .inr S7)))) else (.inl ()))
def f_X10_leaveOutLatestOf (S : Mem) (p2 : Int32) : Mem := matchE (iterD (b7_X10_leaveOutLatestOf S p2) (ix (S.1 kPayments 0))) (fun _ => S)
def ok_X10_leaveOutLatestOf (S : Mem) (p2 : Int32) : Prop := ((S.1 kPayments 0 = nI (ix (S.1 kPayments 0))))
abbrev fdX10_leaveOutLatestOf : FD := (mdX10_leaveOutLatestOf, [], 1, 22, 0, 0)
set_option maxRecDepth 100000 in
set_option maxHeartbeats 4000000 in
theorem w_X10_leaveOutLatestOf {O : Om} {G : Cx} {S : Mem} {PP : Option AV → Mem → Prop} (p2 : Int32)   (h : ok_X10_leaveOutLatestOf S p2) (hP : ∀ S9, f_X10_leaveOutLatestOf S p2 = S9 → PP none S9) : BW O G fdX10_leaveOutLatestOf 0 0 (QV O G 0 0 PP) S 0 [some (vr 10 0), some (vr 3 0), some (vi p2), none, none] [] := by
  refine a_aload_n (pc := 0) 0 0 rfl rfl ?_
  refine g_10_count (pc := 1) 0 1 rfl fl_X10_22 ?_
  refine a_iconst (pc := 4) 0 2 (v := 1) rfl (by decide) ?_
  refine a_isub (pc := 5) 0 3 rfl ?_
  refine a_istore_n (pc := 6) 0 4 (ls2 := [some (vr 10 0), some (vr 3 0), some (vi p2), some (vi ((S.1 kPayments 0) - 1)), none]) rfl rfl (by decide) rfl ?_
  have o2 := h
  have nlt_j1 := ix_lt (S.1 kPayments 0)
  have L7_7 : ∀ (j1 : Nat), j1 ≤ ix (S.1 kPayments 0) → matchE (iterD (b7_X10_leaveOutLatestOf S p2) (ix (S.1 kPayments 0))) (fun _ => S) = matchE (iterD (b7_X10_leaveOutLatestOf S p2) j1) (fun _ => S) → BW O G fdX10_leaveOutLatestOf 0 0 (QV O G 0 0 PP) S 7 [some (vr 10 0), some (vr 3 0), some (vi p2), some (vi ((nI j1) - 1)), none] [] := by
    intro j1
    induction j1 with
    | zero =>
      intro hj_j1 ej1
      refine a_iload_n (pc := 7) 0 5 rfl rfl ?_
      refine a_if_lt_t (pc := 8) (tgt := 92) 0 6 rfl (by decide) (by decide) ?_
      exact a_vret (pc := 92) 0 44 rfl rfl (hP _ (by unfold f_X10_leaveOutLatestOf; exact ej1))
    | succ j1 ih_j1 =>
      intro hj_j1 ej1
      rw [nI_pred]
      refine a_iload_n (pc := 7) 0 5 rfl rfl ?_
      refine a_if_lt_f (pc := 8) 0 6 rfl (nI_pos (by omega)) (tgt := 92) (by decide) ?_
      refine a_aload_n (pc := 11) 0 7 rfl rfl ?_
      refine a_iload_n (pc := 12) 0 8 rfl rfl ?_
      refine a_callVr (pc := 13) 0 9 (c_X10_at (S := S) (nI j1)) rfl cv_X10_26 (by decide) rfl rfl rfl (rm rfl) ?_
      refine a_astore (pc := 16) 0 10 (ls2 := [some (vr 10 0), some (vr 3 0), some (vi p2), some (vi (nI j1)), some (vr 9 (f_X10_at S (nI j1)))]) rfl (by decide) rfl ?_
      refine a_aload (pc := 18) 0 11 rfl rfl ?_
      refine g_9_isChosen (pc := 20) 0 12 rfl (show f_X10_at S (nI j1) < 201 from r_X10_at) fl_X10_100 ?_
      refine a_if_eq (pc := 23) (tgt := 86) 0 13 rfl (by decide) (fun c23_2 => ?_) (fun c23_2 => ?_)
      · refine a_iinc (pc := 86) 0 42 (v := (nI j1) - 1) (ls2 := [some (vr 10 0), some (vr 3 0), some (vi p2), some (vi ((nI j1) - 1)), some (vr 9 (f_X10_at S (nI j1)))]) rfl rfl (iincm1 _) (by decide) rfl ?_
        refine a_goto (pc := 89) (tgt := 7) 0 43 rfl (by decide) ?_
        refine a_drop (ls2 := [some (vr 10 0), some (vr 3 0), some (vi p2), some (vi ((nI j1) - 1)), none]) (⟨rfl, rfl, rfl, rfl, trivial⟩) ?_
        exact ih_j1 (by omega) (ej1.trans (matchE_go (by unfold b7_X10_leaveOutLatestOf; exact (if_pos c23_2))))
      · refine a_aload (pc := 26) 0 14 rfl rfl ?_
        refine g_9_fromBank (pc := 28) 0 15 rfl (show f_X10_at S (nI j1) < 201 from r_X10_at) fl_X10_47 ?_
        refine a_iload_n (pc := 31) 0 16 rfl rfl ?_
        refine a_icmp_ne (pc := 32) (tgt := 86) 0 17 rfl (by decide) (fun c32_3 => ?_) (fun c32_3 => ?_)
        · refine a_iinc (pc := 86) 0 42 (v := (nI j1) - 1) (ls2 := [some (vr 10 0), some (vr 3 0), some (vi p2), some (vi ((nI j1) - 1)), some (vr 9 (f_X10_at S (nI j1)))]) rfl rfl (iincm1 _) (by decide) rfl ?_
          refine a_goto (pc := 89) (tgt := 7) 0 43 rfl (by decide) ?_
          refine a_drop (ls2 := [some (vr 10 0), some (vr 3 0), some (vi p2), some (vi ((nI j1) - 1)), none]) (⟨rfl, rfl, rfl, rfl, trivial⟩) ?_
          exact ih_j1 (by omega) (ej1.trans (matchE_go (by unfold b7_X10_leaveOutLatestOf; exact ((if_neg c23_2).trans (if_neg c32_3)))))
        · refine a_aload (pc := 35) 0 18 rfl rfl ?_
          refine a_iconst (pc := 37) 0 19 (v := 0) rfl (by decide) ?_
          refine p_9_isChosen (pc := 38) 0 20 rfl (show f_X10_at S (nI j1) < 201 from r_X10_at) fl_X10_100 (Or.inl rfl) ?_
          refine a_set (fun S5 eS5 => ?_)
          refine a_aload_n (pc := 41) 0 21 rfl rfl ?_
          refine a_aload (pc := 42) 0 22 rfl rfl ?_
          refine g_9_fromBank (pc := 44) 0 23 rfl (show f_X10_at S (nI j1) < 201 from r_X10_at) fl_X10_47 ?_
          refine a_callVr (pc := 47) 0 24 (c_X3_bank (S := S5) (S5.1 kFromBank (f_X10_at S (nI j1)))) rfl cv_X10_92 (by decide) rfl rfl rfl (rm rfl) ?_
          refine a_dup (pc := 50) 0 25 rfl rfl ?_
          refine g_0_net (pc := 51) 0 26 rfl (show f_X3_bank S5 (S5.1 kFromBank (f_X10_at S (nI j1))) < 5 from r_X3_bank) fl_X10_95 ?_
          refine a_aload (pc := 54) 0 27 rfl rfl ?_
          refine g_9_amount (pc := 56) 0 28 rfl (show f_X10_at S (nI j1) < 201 from r_X10_at) fl_X10_53 ?_
          refine a_iadd (pc := 59) 0 29 rfl ?_
          refine p_0_net (pc := 60) 0 30 rfl (show f_X3_bank S5 (S5.1 kFromBank (f_X10_at S (nI j1))) < 5 from r_X3_bank) fl_X10_95 ?_
          refine a_set (fun S6 eS6 => ?_)
          refine a_aload_n (pc := 63) 0 31 rfl rfl ?_
          refine a_aload (pc := 64) 0 32 rfl rfl ?_
          refine g_9_toBank (pc := 66) 0 33 rfl (show f_X10_at S (nI j1) < 201 from r_X10_at) fl_X10_50 ?_
          refine a_callVr (pc := 69) 0 34 (c_X3_bank (S := S6) (S6.1 kToBank (f_X10_at S (nI j1)))) rfl cv_X10_92 (by decide) rfl rfl rfl (rm rfl) ?_
          refine a_dup (pc := 72) 0 35 rfl rfl ?_
          refine g_0_net (pc := 73) 0 36 rfl (show f_X3_bank S6 (S6.1 kToBank (f_X10_at S (nI j1))) < 5 from r_X3_bank) fl_X10_95 ?_
          refine a_aload (pc := 76) 0 37 rfl rfl ?_
          refine g_9_amount (pc := 78) 0 38 rfl (show f_X10_at S (nI j1) < 201 from r_X10_at) fl_X10_53 ?_
          refine a_isub (pc := 81) 0 39 rfl ?_
          refine p_0_net (pc := 82) 0 40 rfl (show f_X3_bank S6 (S6.1 kToBank (f_X10_at S (nI j1))) < 5 from r_X3_bank) fl_X10_95 ?_
          refine a_set (fun S7 eS7 => ?_)
          exact a_vret (pc := 85) 0 41 rfl rfl (hP _ (by unfold f_X10_leaveOutLatestOf; exact ej1.trans (matchE_r (iterD_stop (by unfold b7_X10_leaveOutLatestOf; exact ((if_neg c23_2).trans ((if_pos c32_3).trans ((lt_eq eS5).trans ((lt_eq eS6).trans (lt_eq eS7))))))))))
  rw [o2]
  exact L7_7 (ix (S.1 kPayments 0)) (Nat.le_refl _) rfl
theorem c_X10_leaveOutLatestOf {S : Mem} (p2 : Int32)   (h : ok_X10_leaveOutLatestOf S p2) : Cts mdX10_leaveOutLatestOf 1 22 [vr 10 0, vr 3 0, vi p2] S (Is none (f_X10_leaveOutLatestOf S p2)) := Cts.of dtX10_leaveOutLatestOf (by decide +kernel) rfl rfl (Nat.le_of_ble_eq_true rfl) rfl (fun O G => w_X10_leaveOutLatestOf p2 h (fun _ h9 => ⟨rfl, h9.symm⟩))
def b7_X10_clearAll  (j3 : Nat) (σ4 : Mem) : Mem ⊕ Mem := lt (f_X3_bankThatLacksMost σ4 ) (fun (v6 : Int32) => if v6 = (-1) then (.inr σ4) else (lt (f_X10_leaveOutLatestOf σ4 v6) (fun (S9 : Mem) => .inl S9)))
def f_X10_clearAll (S : Mem) (p2 : Int32) : Int32 × Mem := lt (f_X10_chooseAllThatWait S ) (fun (S2 : Mem) => lt (outE (iterE (b7_X10_clearAll) S2 (ix (S2.1 kPayments 0)))) (fun (σ4 : Mem) => lt ((f_X10_finishChosen σ4 p2).2) (fun (S11 : Mem) => lt ((f_X10_finishChosen σ4 p2).1) (fun (v12 : Int32) => (v12, S11)))))
def ok_X10_clearAll (S : Mem) (p2 : Int32) : Prop := ((ok_X10_chooseAllThatWait S ) ∧ (∀ S2 : Mem, (f_X10_chooseAllThatWait S ) = S2 → ((∀ j3 : Nat, j3 ≤ ix (S2.1 kPayments 0) → ∀ σ4 : Mem, iterE (b7_X10_clearAll) S2 j3 = .inl σ4 → σ4.1 kPayments 0 = nI (ix (S2.1 kPayments 0))) ∧ (∀ j3 : Nat, j3 < ix (S2.1 kPayments 0) → ∀ σ4 : Mem, iterE (b7_X10_clearAll) S2 j3 = .inl σ4 → ((∀ v6 : Int32, (f_X3_bankThatLacksMost σ4 ) = v6 → (((¬ (v6 = (-1))) → ((ok_X10_leaveOutLatestOf σ4 v6))))))) ∧ (∀ σ4 : Mem, outE (iterE (b7_X10_clearAll) S2 (ix (S2.1 kPayments 0))) = σ4 → ((ok_X10_finishChosen σ4 p2))))))
abbrev fdX10_clearAll : FD := (mdX10_clearAll, [], 4, 93, 0, 0)
set_option maxRecDepth 100000 in
set_option maxHeartbeats 4000000 in
theorem w_X10_clearAll {O : Om} {G : Cx} {S : Mem} {PP : Option AV → Mem → Prop} (p2 : Int32)   (h : ok_X10_clearAll S p2) (hP : ∀ x9 S9, f_X10_clearAll S p2 = (x9, S9) → PP (some (vi x9)) S9) : BW O G fdX10_clearAll 0 0 (QV O G 0 0 PP) S 0 [some (vr 10 0), some (vr 3 0), some (vi p2), none, none] [] := by
  refine a_aload_n (pc := 0) 0 0 rfl rfl ?_
  refine a_aload_n (pc := 1) 0 1 rfl rfl ?_
  obtain ⟨o1, h⟩ := h
  refine a_callVv (pc := 2) 0 2 (c_X10_chooseAllThatWait (S := S)  o1) rfl cv_X10_76 (by decide) rfl rfl rfl (rm rfl) ?_
  refine a_set (fun S2 eS2 => ?_)
  have h := h S2 eS2
  refine a_iconst (pc := 5) 0 3 (v := 0) rfl (by decide) ?_
  refine a_istore_n (pc := 6) 0 4 (ls2 := [some (vr 10 0), some (vr 3 0), some (vi p2), some (vi 0), none]) rfl rfl (by decide) rfl ?_
  obtain ⟨o5, hb_j3, h⟩ := h
  have nlt_j3 := ix_lt (S2.1 kPayments 0)
  have E7_13 : ∀ (σ4 : Mem), outE (iterE (b7_X10_clearAll) S2 (ix (S2.1 kPayments 0))) = σ4 → BW O G fdX10_clearAll 0 0 (QV O G 0 0 PP) σ4 43 [some (vr 10 0), some (vr 3 0), some (vi p2), none, none] [] := by
    intro σ4 eσ4
    have h := h σ4 eσ4
    refine a_aload_n (pc := 43) 0 22 rfl rfl ?_
    refine a_aload_n (pc := 44) 0 23 rfl rfl ?_
    refine a_iload_n (pc := 45) 0 24 rfl rfl ?_
    have o10 := h
    refine a_callVi (pc := 46) 0 25 (c_X10_finishChosen (S := σ4) p2 o10) rfl cv_X10_88 (by decide) rfl rfl rfl (rm rfl) ?_
    refine a_set (fun S11 eS11 => ?_)
    refine a_seti (fun v12 ev12 => ?_)
    exact a_iret (pc := 49) 0 26 rfl rfl (hP _ _ (by unfold f_X10_clearAll; exact (lt_eq eS2).trans ((lt_eq eσ4).trans ((lt_eq eS11).trans (lt_eq ev12)))))
  have L7_12 : ∀ (m_j3 j3 : Nat), j3 + m_j3 = ix (S2.1 kPayments 0) → ∀ (σ4 : Mem), iterE (b7_X10_clearAll) S2 j3 = .inl σ4 → BW O G fdX10_clearAll 0 0 (QV O G 0 0 PP) σ4 7 [some (vr 10 0), some (vr 3 0), some (vi p2), some (vi (nI j3)), none] [] := by
    intro m_j3
    induction m_j3 with
    | zero =>
      intro j3 hj_j3 σ4 eσ4
      have o5 := o5 j3 (by omega) σ4 eσ4
      have hn_j3 : j3 = ix (S2.1 kPayments 0) := by omega
      refine a_iload_n (pc := 7) 0 5 rfl rfl ?_
      refine a_aload_n (pc := 8) 0 6 rfl rfl ?_
      refine g_10_count (pc := 9) 0 7 rfl fl_X10_22 ?_
      refine a_icmp_ge_t (pc := 12) (tgt := 43) 0 8 rfl (by decide) (bd_t (o5) (by omega)) ?_
      refine a_drop (ls2 := [some (vr 10 0), some (vr 3 0), some (vi p2), none, none]) (⟨rfl, rfl, rfl, trivial⟩) ?_
      exact E7_13 σ4 (by rw [← hn_j3, eσ4]; rfl)
    | succ m_j3 ih_j3 =>
      intro j3 hj_j3 σ4 eσ4
      have o5 := o5 j3 (by omega) σ4 eσ4
      have h := hb_j3 j3 (by omega) σ4 eσ4
      refine a_iload_n (pc := 7) 0 5 rfl rfl ?_
      refine a_aload_n (pc := 8) 0 6 rfl rfl ?_
      refine g_10_count (pc := 9) 0 7 rfl fl_X10_22 ?_
      refine a_icmp_ge_f (pc := 12) (tgt := 43) 0 8 rfl (bd_f (o5) (by omega)) (by decide) ?_
      refine a_aload_n (pc := 15) 0 9 rfl rfl ?_
      refine a_callVi (pc := 16) 0 10 (c_X3_bankThatLacksMost (S := σ4) ) rfl cv_X10_80 (by decide) rfl rfl rfl (rm rfl) ?_
      refine a_seti (fun v6 ev6 => ?_)
      have h := h v6 ev6
      refine a_istore (pc := 19) 0 11 (ls2 := [some (vr 10 0), some (vr 3 0), some (vi p2), some (vi (nI j3)), some (vi v6)]) rfl (by decide) rfl ?_
      refine a_iload (pc := 21) 0 12 rfl rfl ?_
      refine a_iconst (pc := 23) 0 13 (v := (-1)) rfl (by decide) ?_
      refine a_icmp_ne (pc := 24) (tgt := 30) 0 14 rfl (by decide) (fun c24_6 => ?_) (fun c24_6 => ?_)
      · have h := h c24_6
        refine a_aload_n (pc := 30) 0 16 rfl rfl ?_
        refine a_aload_n (pc := 31) 0 17 rfl rfl ?_
        refine a_iload (pc := 32) 0 18 rfl rfl ?_
        have o8 := h
        refine a_callVv (pc := 34) 0 19 (c_X10_leaveOutLatestOf (S := σ4) v6 o8) rfl cv_X10_84 (by decide) rfl rfl rfl (rm rfl) ?_
        refine a_set (fun S9 eS9 => ?_)
        refine a_iinc (pc := 37) 0 20 (v := nI (j3 + 1)) (ls2 := [some (vr 10 0), some (vr 3 0), some (vi p2), some (vi (nI (j3 + 1))), some (vi v6)]) rfl rfl (iinc1 _) (by decide) rfl ?_
        refine a_goto (pc := 40) (tgt := 7) 0 21 rfl (by decide) ?_
        refine a_drop (ls2 := [some (vr 10 0), some (vr 3 0), some (vi p2), some (vi (nI (j3 + 1))), none]) (⟨rfl, rfl, rfl, rfl, trivial⟩) ?_
        exact ih_j3 (j3 + 1) (by omega) S9 (iterE_go eσ4 (by unfold b7_X10_clearAll; exact ((lt_eq ev6).trans ((if_neg c24_6).trans (lt_eq eS9)))))
      · refine a_goto (pc := 27) (tgt := 43) 0 15 rfl (by decide) ?_
        refine a_drop (ls2 := [some (vr 10 0), some (vr 3 0), some (vi p2), none, none]) (⟨rfl, rfl, rfl, trivial⟩) ?_
        exact E7_13 σ4 (by have e9 := iterE_stop (r := σ4) eσ4 (by unfold b7_X10_clearAll; exact ((lt_eq ev6).trans (if_pos c24_6))) (ix (S2.1 kPayments 0)) (by omega); rw [e9]; rfl)
  exact L7_12 (ix (S2.1 kPayments 0)) 0 (by omega) S2 rfl
theorem c_X10_clearAll {S : Mem} (p2 : Int32)   (h : ok_X10_clearAll S p2) : Cts mdX10_clearAll 4 93 [vr 10 0, vr 3 0, vi p2] S (Is (some (vi (f_X10_clearAll S p2).1)) ((f_X10_clearAll S p2).2)) := Cts.of dtX10_clearAll (by decide +kernel) rfl rfl (Nat.le_of_ble_eq_true rfl) rfl (fun O G => w_X10_clearAll p2 h (fun _ _ h9 => ⟨by rw [h9], by rw [h9]⟩))
