def f_X12_mayPay (S : Mem) (p1 : Int32) (p2 : Int32) (p3 : Int32) : Int32 := lt (f_X12_hasAccount S p1) (fun (v2 : Int32) => lt (if v2 = 0 then (0) else (lt (f_X12_hasAccount S p2) (fun (v5 : Int32) => if v5 = 0 then (0) else (lt (f_X12_free S p1) (fun (v8 : Int32) => if v8 < p3 then (0) else (if (nI 200) ≤ (S.2.1 kPayments 0) then (0) else (1))))))) (fun (v11 : Int32) => v11))
def ok_X12_mayPay (S : Mem) (p1 : Int32) (p2 : Int32) (p3 : Int32) : Prop := ((ok_X12_hasAccount S p1) ∧ (∀ v2 : Int32, (f_X12_hasAccount S p1) = v2 → (((¬ (v2 = 0)) → ((ok_X12_hasAccount S p2) ∧ (∀ v5 : Int32, (f_X12_hasAccount S p2) = v5 → (((¬ (v5 = 0)) → ((ok_X12_free S p1))))))))))
abbrev fdX12_mayPay : FD := (mdX12_mayPay, [], 1, 21, 0, 0)
set_option maxRecDepth 100000 in
set_option maxHeartbeats 4000000 in
theorem w_X12_mayPay {O : Om} {G : Cx} {S : Mem} {PP : Option AV → Mem → Prop} (p1 : Int32) (p2 : Int32) (p3 : Int32)   (h : ok_X12_mayPay S p1 p2 p3) (hP : ∀ x9, f_X12_mayPay S p1 p2 p3 = x9 → PP (some (vi x9)) S) : BW O G fdX12_mayPay 0 0 (QV O G 0 0 PP) S 0 [some (vr 12 0), some (vi p1), some (vi p2), some (vi p3)] [] := by
  refine a_aload_n (pc := 0) 0 0 rfl rfl ?_
  refine a_iload_n (pc := 1) 0 1 rfl rfl ?_
  obtain ⟨o1, h⟩ := h
  refine a_callVi (pc := 2) 0 2 (c_X12_hasAccount (S := S) p1 o1) rfl cv_X12_184 (by decide) rfl rfl rfl (rm rfl) ?_
  refine a_seti (fun v2 ev2 => ?_)
  have h := h v2 ev2
  have J40_11 : ∀ (v11 : Int32) (ev11 : (if v2 = 0 then (0) else (lt (f_X12_hasAccount S p2) (fun (v5 : Int32) => if v5 = 0 then (0) else (lt (f_X12_free S p1) (fun (v8 : Int32) => if v8 < p3 then (0) else (if (nI 200) ≤ (S.2.1 kPayments 0) then (0) else (1))))))) = v11), BW O G fdX12_mayPay 0 0 (QV O G 0 0 PP) S 40 [some (vr 12 0), some (vi p1), some (vi p2), some (vi p3)] [vi v11] := by
    intro v11 ev11
    exact a_zret (pc := 40) 0 20 rfl (nar_b (by rw [← ev11]; repeat (first | exact Or.inl rfl | exact Or.inr rfl | assumption | split | dsimp only [lt]))) rfl (hP _ (by unfold f_X12_mayPay; exact (lt_eq ev2).trans (lt_eq ev11)))
  refine a_if_eq (pc := 5) (tgt := 39) 0 3 rfl (by decide) (fun c5_2 => ?_) (fun c5_2 => ?_)
  · refine a_iconst (pc := 39) 0 19 (v := 0) rfl (by decide) ?_
    exact J40_11 _ (by exact (if_pos c5_2))
  · have h := h c5_2
    refine a_aload_n (pc := 8) 0 4 rfl rfl ?_
    refine a_iload_n (pc := 9) 0 5 rfl rfl ?_
    obtain ⟨o4, h⟩ := h
    refine a_callVi (pc := 10) 0 6 (c_X12_hasAccount (S := S) p2 o4) rfl cv_X12_184 (by decide) rfl rfl rfl (rm rfl) ?_
    refine a_seti (fun v5 ev5 => ?_)
    have h := h v5 ev5
    refine a_if_eq (pc := 13) (tgt := 39) 0 7 rfl (by decide) (fun c13_5 => ?_) (fun c13_5 => ?_)
    · refine a_iconst (pc := 39) 0 19 (v := 0) rfl (by decide) ?_
      exact J40_11 _ (by exact ((if_neg c5_2).trans ((lt_eq ev5).trans (if_pos c13_5))))
    · have h := h c13_5
      refine a_aload_n (pc := 16) 0 8 rfl rfl ?_
      refine a_iload_n (pc := 17) 0 9 rfl rfl ?_
      have o7 := h
      refine a_callVi (pc := 18) 0 10 (c_X12_free (S := S) p1 o7) rfl cv_X12_202 (by decide) rfl rfl rfl (rm rfl) ?_
      refine a_seti (fun v8 ev8 => ?_)
      refine a_iload_n (pc := 21) 0 11 rfl rfl ?_
      refine a_icmp_lt (pc := 22) (tgt := 39) 0 12 rfl (by decide) (fun c22_8 => ?_) (fun c22_8 => ?_)
      · refine a_iconst (pc := 39) 0 19 (v := 0) rfl (by decide) ?_
        exact J40_11 _ (by exact ((if_neg c5_2).trans ((lt_eq ev5).trans ((if_neg c13_5).trans ((lt_eq ev8).trans (if_pos c22_8))))))
      · refine a_aload_n (pc := 25) 0 13 rfl rfl ?_
        refine g_12_payments (pc := 26) 0 14 rfl fl_X12_187 ?_
        refine a_sipush (pc := 29) 0 15 (v := nI 200) rfl (by decide) ?_
        refine a_icmp_ge (pc := 32) (tgt := 39) 0 16 rfl (by decide) (fun c32_9 => ?_) (fun c32_9 => ?_)
        · refine a_iconst (pc := 39) 0 19 (v := 0) rfl (by decide) ?_
          exact J40_11 _ (by exact ((if_neg c5_2).trans ((lt_eq ev5).trans ((if_neg c13_5).trans ((lt_eq ev8).trans ((if_neg c22_8).trans (if_pos c32_9)))))))
        · refine a_iconst (pc := 35) 0 17 (v := 1) rfl (by decide) ?_
          refine a_goto (pc := 36) (tgt := 40) 0 18 rfl (by decide) ?_
          exact J40_11 _ (by exact ((if_neg c5_2).trans ((lt_eq ev5).trans ((if_neg c13_5).trans ((lt_eq ev8).trans ((if_neg c22_8).trans (if_neg c32_9)))))))
theorem c_X12_mayPay {S : Mem} (p1 : Int32) (p2 : Int32) (p3 : Int32)   (h : ok_X12_mayPay S p1 p2 p3) : Cts mdX12_mayPay 1 21 [vr 12 0, vi p1, vi p2, vi p3] S (Is (some (vi (f_X12_mayPay S p1 p2 p3))) (S)) := Cts.of dtX12_mayPay (by decide +kernel) rfl rfl (Nat.le_of_ble_eq_true rfl) rfl (fun O G => w_X12_mayPay p1 p2 p3 h (fun _ h9 => ⟨by rw [h9], rfl⟩))
theorem b_X12_mayPay (S : Mem) (p1 : Int32) (p2 : Int32) (p3 : Int32) : f_X12_mayPay S p1 p2 p3 = 0 ∨ f_X12_mayPay S p1 p2 p3 = 1 := by
  unfold f_X12_mayPay
  try dsimp only [lt]
  repeat (first | exact Or.inl rfl | exact Or.inr rfl | exact b_X12_hasAccount .. | split | dsimp only [lt])
def f_X12_finishes (S : Mem) (p1 : Int32) : Mem := lt ((S.1, upd2 S.2.1 kStates (ix p1) 1, S.2.2)) (fun (S2 : Mem) => lt ((S2.1, upd2 S2.2.1 kDoneDays (ix p1) (S2.2.1 kDays 0), S2.2.2)) (fun (S4 : Mem) => lt ((S4.1, upd2 S4.2.1 kBlocked (ix (S4.2.1 kFroms (ix p1))) ((S4.2.1 kBlocked (ix (S4.2.1 kFroms (ix p1)))) - (S4.2.1 kAmounts (ix p1))), S4.2.2)) (fun (S9 : Mem) => lt ((S9.1, upd2 S9.2.1 kAccounts (ix (S9.2.1 kFroms (ix p1))) ((S9.2.1 kAccounts (ix (S9.2.1 kFroms (ix p1)))) - (S9.2.1 kAmounts (ix p1))), S9.2.2)) (fun (S14 : Mem) => lt ((S14.1, upd2 S14.2.1 kAccounts (ix (S14.2.1 kTos (ix p1))) ((S14.2.1 kAccounts (ix (S14.2.1 kTos (ix p1)))) + (S14.2.1 kAmounts (ix p1))), S14.2.2)) (fun (S19 : Mem) => S19)))))
def ok_X12_finishes (S : Mem) (p1 : Int32) : Prop := ((inb p1 200) ∧ (∀ S2 : Mem, ((S.1, upd2 S.2.1 kStates (ix p1) 1, S.2.2)) = S2 → ((inb p1 200) ∧ (∀ S4 : Mem, ((S2.1, upd2 S2.2.1 kDoneDays (ix p1) (S2.2.1 kDays 0), S2.2.2)) = S4 → ((inb p1 200) ∧ (inb (S4.2.1 kFroms (ix p1)) 16) ∧ (inb p1 200) ∧ (inb (S4.2.1 kFroms (ix p1)) 16) ∧ (∀ S9 : Mem, ((S4.1, upd2 S4.2.1 kBlocked (ix (S4.2.1 kFroms (ix p1))) ((S4.2.1 kBlocked (ix (S4.2.1 kFroms (ix p1)))) - (S4.2.1 kAmounts (ix p1))), S4.2.2)) = S9 → ((inb p1 200) ∧ (inb (S9.2.1 kFroms (ix p1)) 16) ∧ (inb p1 200) ∧ (inb (S9.2.1 kFroms (ix p1)) 16) ∧ (∀ S14 : Mem, ((S9.1, upd2 S9.2.1 kAccounts (ix (S9.2.1 kFroms (ix p1))) ((S9.2.1 kAccounts (ix (S9.2.1 kFroms (ix p1)))) - (S9.2.1 kAmounts (ix p1))), S9.2.2)) = S14 → ((inb p1 200) ∧ (inb (S14.2.1 kTos (ix p1)) 16) ∧ (inb p1 200) ∧ (inb (S14.2.1 kTos (ix p1)) 16))))))))))
abbrev fdX12_finishes : FD := (mdX12_finishes, [], 0, 0, 0, 0)
set_option maxRecDepth 100000 in
set_option maxHeartbeats 4000000 in
theorem w_X12_finishes {O : Om} {G : Cx} {S : Mem} {PP : Option AV → Mem → Prop} (p1 : Int32)   (h : ok_X12_finishes S p1) (hP : ∀ S9, f_X12_finishes S p1 = S9 → PP none S9) : BW O G fdX12_finishes 0 0 (QV O G 0 0 PP) S 0 [some (vr 12 0), some (vi p1)] [] := by
  refine a_aload_n (pc := 0) 0 0 rfl rfl ?_
  refine g_12_states (pc := 1) 0 1 rfl fl_X12_99 ?_
  refine a_iload_n (pc := 4) 0 2 rfl rfl ?_
  refine a_iconst (pc := 5) 0 3 (v := 1) rfl (by decide) ?_
  obtain ⟨o1, h⟩ := h
  refine s_51 (pc := 6) 0 4 (ix p1) rfl o1.1 o1.2 ?_
  refine a_set (fun S2 eS2 => ?_)
  have h := h S2 eS2
  refine a_aload_n (pc := 7) 0 5 rfl rfl ?_
  refine g_12_doneDays (pc := 8) 0 6 rfl fl_X12_108 ?_
  refine a_iload_n (pc := 11) 0 7 rfl rfl ?_
  refine a_aload_n (pc := 12) 0 8 rfl rfl ?_
  refine g_12_days (pc := 13) 0 9 rfl fl_X12_196 ?_
  obtain ⟨o3, h⟩ := h
  refine s_54 (pc := 16) 0 10 (ix p1) rfl o3.1 o3.2 ?_
  refine a_set (fun S4 eS4 => ?_)
  have h := h S4 eS4
  refine a_aload_n (pc := 17) 0 11 rfl rfl ?_
  refine g_12_blocked (pc := 18) 0 12 rfl fl_X12_29 ?_
  refine a_aload_n (pc := 21) 0 13 rfl rfl ?_
  refine g_12_froms (pc := 22) 0 14 rfl fl_X12_90 ?_
  refine a_iload_n (pc := 25) 0 15 rfl rfl ?_
  obtain ⟨o5, h⟩ := h
  refine e_48 (pc := 26) 0 16 (ix p1) rfl o5.1 o5.2 ?_
  refine a_dup2 (pc := 27) 0 17 rfl rfl rfl ?_
  obtain ⟨o6, h⟩ := h
  refine e_28 (pc := 28) 0 18 (ix (S4.2.1 kFroms (ix p1))) rfl o6.1 o6.2 ?_
  refine a_aload_n (pc := 29) 0 19 rfl rfl ?_
  refine g_12_amounts (pc := 30) 0 20 rfl fl_X12_96 ?_
  refine a_iload_n (pc := 33) 0 21 rfl rfl ?_
  obtain ⟨o7, h⟩ := h
  refine e_50 (pc := 34) 0 22 (ix p1) rfl o7.1 o7.2 ?_
  refine a_isub (pc := 35) 0 23 rfl ?_
  obtain ⟨o8, h⟩ := h
  refine s_28 (pc := 36) 0 24 (ix (S4.2.1 kFroms (ix p1))) rfl o8.1 o8.2 ?_
  refine a_set (fun S9 eS9 => ?_)
  have h := h S9 eS9
  refine a_aload_n (pc := 37) 0 25 rfl rfl ?_
  refine g_12_accounts (pc := 38) 0 26 rfl fl_X12_26 ?_
  refine a_aload_n (pc := 41) 0 27 rfl rfl ?_
  refine g_12_froms (pc := 42) 0 28 rfl fl_X12_90 ?_
  refine a_iload_n (pc := 45) 0 29 rfl rfl ?_
  obtain ⟨o10, h⟩ := h
  refine e_48 (pc := 46) 0 30 (ix p1) rfl o10.1 o10.2 ?_
  refine a_dup2 (pc := 47) 0 31 rfl rfl rfl ?_
  obtain ⟨o11, h⟩ := h
  refine e_27 (pc := 48) 0 32 (ix (S9.2.1 kFroms (ix p1))) rfl o11.1 o11.2 ?_
  refine a_aload_n (pc := 49) 0 33 rfl rfl ?_
  refine g_12_amounts (pc := 50) 0 34 rfl fl_X12_96 ?_
  refine a_iload_n (pc := 53) 0 35 rfl rfl ?_
  obtain ⟨o12, h⟩ := h
  refine e_50 (pc := 54) 0 36 (ix p1) rfl o12.1 o12.2 ?_
  refine a_isub (pc := 55) 0 37 rfl ?_
  obtain ⟨o13, h⟩ := h
  refine s_27 (pc := 56) 0 38 (ix (S9.2.1 kFroms (ix p1))) rfl o13.1 o13.2 ?_
  refine a_set (fun S14 eS14 => ?_)
  have h := h S14 eS14
  refine a_aload_n (pc := 57) 0 39 rfl rfl ?_
  refine g_12_accounts (pc := 58) 0 40 rfl fl_X12_26 ?_
  refine a_aload_n (pc := 61) 0 41 rfl rfl ?_
  refine g_12_tos (pc := 62) 0 42 rfl fl_X12_93 ?_
  refine a_iload_n (pc := 65) 0 43 rfl rfl ?_
  obtain ⟨o15, h⟩ := h
  refine e_49 (pc := 66) 0 44 (ix p1) rfl o15.1 o15.2 ?_
  refine a_dup2 (pc := 67) 0 45 rfl rfl rfl ?_
  obtain ⟨o16, h⟩ := h
  refine e_27 (pc := 68) 0 46 (ix (S14.2.1 kTos (ix p1))) rfl o16.1 o16.2 ?_
  refine a_aload_n (pc := 69) 0 47 rfl rfl ?_
  refine g_12_amounts (pc := 70) 1 0 rfl fl_X12_96 ?_
  refine a_iload_n (pc := 73) 1 1 rfl rfl ?_
  obtain ⟨o17, h⟩ := h
  refine e_50 (pc := 74) 1 2 (ix p1) rfl o17.1 o17.2 ?_
  refine a_iadd (pc := 75) 1 3 rfl ?_
  have o18 := h
  refine s_27 (pc := 76) 1 4 (ix (S14.2.1 kTos (ix p1))) rfl o18.1 o18.2 ?_
  refine a_set (fun S19 eS19 => ?_)
  exact a_vret (pc := 77) 1 5 rfl rfl (hP _ (by unfold f_X12_finishes; exact (lt_eq eS2).trans ((lt_eq eS4).trans ((lt_eq eS9).trans ((lt_eq eS14).trans (lt_eq eS19))))))
theorem c_X12_finishes {S : Mem} (p1 : Int32)   (h : ok_X12_finishes S p1) : Cts mdX12_finishes 0 0 [vr 12 0, vi p1] S (Is none (f_X12_finishes S p1)) := Cts.of dtX12_finishes (by decide +kernel) rfl rfl (Nat.le_of_ble_eq_true rfl) rfl (fun O G => w_X12_finishes p1 h (fun _ h9 => ⟨rfl, h9.symm⟩))
def f_X12_pays (S : Mem) (p1 : Int32) (p2 : Int32) (p3 : Int32) (p4 : Int32) : Int32 × Mem := lt ((S.1, upd2 S.2.1 kPayments 0 ((S.2.1 kPayments 0) + 1), S.2.2)) (fun (S1 : Mem) => lt ((S1.1, upd2 S1.2.1 kFroms (ix (S.2.1 kPayments 0)) p1, S1.2.2)) (fun (S3 : Mem) => lt ((S3.1, upd2 S3.2.1 kTos (ix (S.2.1 kPayments 0)) p2, S3.2.2)) (fun (S5 : Mem) => lt ((S5.1, upd2 S5.2.1 kAmounts (ix (S.2.1 kPayments 0)) p3, S5.2.2)) (fun (S7 : Mem) => lt ((S7.1, upd2 S7.2.1 kAreGoods (ix (S.2.1 kPayments 0)) p4, S7.2.2)) (fun (S9 : Mem) => lt ((S9.1, upd2 S9.2.1 kToldDays (ix (S.2.1 kPayments 0)) (S9.2.1 kDays 0), S9.2.2)) (fun (S11 : Mem) => lt ((S11.1, upd2 S11.2.1 kStates (ix (S.2.1 kPayments 0)) 0, S11.2.2)) (fun (S13 : Mem) => lt ((S13.1, upd2 S13.2.1 kBlocked (ix p1) ((S13.2.1 kBlocked (ix p1)) + p3), S13.2.2)) (fun (S16 : Mem) => lt (if (S16.2.1 kBankOf (ix p1)) = (S16.2.1 kBankOf (ix p2)) then (lt (f_X12_finishes S16 (S.2.1 kPayments 0)) (fun (S21 : Mem) => S21)) else (S16)) (fun (S22 : Mem) => (S.2.1 kPayments 0, S22))))))))))
def ok_X12_pays (S : Mem) (p1 : Int32) (p2 : Int32) (p3 : Int32) (p4 : Int32) : Prop := ((∀ S1 : Mem, ((S.1, upd2 S.2.1 kPayments 0 ((S.2.1 kPayments 0) + 1), S.2.2)) = S1 → ((inb (S.2.1 kPayments 0) 200) ∧ (∀ S3 : Mem, ((S1.1, upd2 S1.2.1 kFroms (ix (S.2.1 kPayments 0)) p1, S1.2.2)) = S3 → ((inb (S.2.1 kPayments 0) 200) ∧ (∀ S5 : Mem, ((S3.1, upd2 S3.2.1 kTos (ix (S.2.1 kPayments 0)) p2, S3.2.2)) = S5 → ((inb (S.2.1 kPayments 0) 200) ∧ (∀ S7 : Mem, ((S5.1, upd2 S5.2.1 kAmounts (ix (S.2.1 kPayments 0)) p3, S5.2.2)) = S7 → ((inb (S.2.1 kPayments 0) 200) ∧ (∀ S9 : Mem, ((S7.1, upd2 S7.2.1 kAreGoods (ix (S.2.1 kPayments 0)) p4, S7.2.2)) = S9 → ((inb (S.2.1 kPayments 0) 200) ∧ (∀ S11 : Mem, ((S9.1, upd2 S9.2.1 kToldDays (ix (S.2.1 kPayments 0)) (S9.2.1 kDays 0), S9.2.2)) = S11 → ((inb (S.2.1 kPayments 0) 200) ∧ (∀ S13 : Mem, ((S11.1, upd2 S11.2.1 kStates (ix (S.2.1 kPayments 0)) 0, S11.2.2)) = S13 → ((inb p1 16) ∧ (inb p1 16) ∧ (∀ S16 : Mem, ((S13.1, upd2 S13.2.1 kBlocked (ix p1) ((S13.2.1 kBlocked (ix p1)) + p3), S13.2.2)) = S16 → ((inb p1 16) ∧ (inb p2 16) ∧ (((S16.2.1 kBankOf (ix p1)) = (S16.2.1 kBankOf (ix p2))) → ((ok_X12_finishes S16 (S.2.1 kPayments 0)))))))))))))))))))))
abbrev fdX12_pays : FD := (mdX12_pays, [], 1, 21, 0, 0)
set_option maxRecDepth 100000 in
set_option maxHeartbeats 4000000 in
theorem w_X12_pays {O : Om} {G : Cx} {S : Mem} {PP : Option AV → Mem → Prop} (p1 : Int32) (p2 : Int32) (p3 : Int32) (p4 : Int32)  (hb_p4 : p4 = 0 ∨ p4 = 1) (h : ok_X12_pays S p1 p2 p3 p4) (hP : ∀ x9 S9, f_X12_pays S p1 p2 p3 p4 = (x9, S9) → PP (some (vi x9)) S9) : BW O G fdX12_pays 0 0 (QV O G 0 0 PP) S 0 [some (vr 12 0), some (vi p1), some (vi p2), some (vi p3), some (vi p4), none] [] := by
  refine a_aload_n (pc := 0) 0 0 rfl rfl ?_
  refine g_12_payments (pc := 1) 0 1 rfl fl_X12_187 ?_
  refine a_istore (pc := 4) 0 2 (ls2 := [some (vr 12 0), some (vi p1), some (vi p2), some (vi p3), some (vi p4), some (vi (S.2.1 kPayments 0))]) rfl (by decide) rfl ?_
  refine a_aload_n (pc := 6) 0 3 rfl rfl ?_
  refine a_dup (pc := 7) 0 4 rfl rfl ?_
  refine g_12_payments (pc := 8) 0 5 rfl fl_X12_187 ?_
  refine a_iconst (pc := 11) 0 6 (v := 1) rfl (by decide) ?_
  refine a_iadd (pc := 12) 0 7 rfl ?_
  refine p_12_payments (pc := 13) 0 8 rfl fl_X12_187 ?_
  refine a_set (fun S1 eS1 => ?_)
  have h := h S1 eS1
  refine a_aload_n (pc := 16) 0 9 rfl rfl ?_
  refine g_12_froms (pc := 17) 0 10 rfl fl_X12_90 ?_
  refine a_iload (pc := 20) 0 11 rfl rfl ?_
  refine a_iload_n (pc := 22) 0 12 rfl rfl ?_
  obtain ⟨o2, h⟩ := h
  refine s_48 (pc := 23) 0 13 (ix (S.2.1 kPayments 0)) rfl o2.1 o2.2 ?_
  refine a_set (fun S3 eS3 => ?_)
  have h := h S3 eS3
  refine a_aload_n (pc := 24) 0 14 rfl rfl ?_
  refine g_12_tos (pc := 25) 0 15 rfl fl_X12_93 ?_
  refine a_iload (pc := 28) 0 16 rfl rfl ?_
  refine a_iload_n (pc := 30) 0 17 rfl rfl ?_
  obtain ⟨o4, h⟩ := h
  refine s_49 (pc := 31) 0 18 (ix (S.2.1 kPayments 0)) rfl o4.1 o4.2 ?_
  refine a_set (fun S5 eS5 => ?_)
  have h := h S5 eS5
  refine a_aload_n (pc := 32) 0 19 rfl rfl ?_
  refine g_12_amounts (pc := 33) 0 20 rfl fl_X12_96 ?_
  refine a_iload (pc := 36) 0 21 rfl rfl ?_
  refine a_iload_n (pc := 38) 0 22 rfl rfl ?_
  obtain ⟨o6, h⟩ := h
  refine s_50 (pc := 39) 0 23 (ix (S.2.1 kPayments 0)) rfl o6.1 o6.2 ?_
  refine a_set (fun S7 eS7 => ?_)
  have h := h S7 eS7
  refine a_aload_n (pc := 40) 0 24 rfl rfl ?_
  refine g_12_areGoods (pc := 41) 0 25 rfl fl_X12_102 ?_
  refine a_iload (pc := 44) 0 26 rfl rfl ?_
  refine a_iload (pc := 46) 0 27 rfl rfl ?_
  obtain ⟨o8, h⟩ := h
  refine s_52 (pc := 48) 0 28 (ix (S.2.1 kPayments 0)) rfl o8.1 o8.2 (hb_p4) ?_
  refine a_set (fun S9 eS9 => ?_)
  have h := h S9 eS9
  refine a_aload_n (pc := 49) 0 29 rfl rfl ?_
  refine g_12_toldDays (pc := 50) 0 30 rfl fl_X12_105 ?_
  refine a_iload (pc := 53) 0 31 rfl rfl ?_
  refine a_aload_n (pc := 55) 0 32 rfl rfl ?_
  refine g_12_days (pc := 56) 0 33 rfl fl_X12_196 ?_
  obtain ⟨o10, h⟩ := h
  refine s_53 (pc := 59) 0 34 (ix (S.2.1 kPayments 0)) rfl o10.1 o10.2 ?_
  refine a_set (fun S11 eS11 => ?_)
  have h := h S11 eS11
  refine a_aload_n (pc := 60) 0 35 rfl rfl ?_
  refine g_12_states (pc := 61) 0 36 rfl fl_X12_99 ?_
  refine a_iload (pc := 64) 0 37 rfl rfl ?_
  refine a_iconst (pc := 66) 0 38 (v := 0) rfl (by decide) ?_
  obtain ⟨o12, h⟩ := h
  refine s_51 (pc := 67) 0 39 (ix (S.2.1 kPayments 0)) rfl o12.1 o12.2 ?_
  refine a_set (fun S13 eS13 => ?_)
  have h := h S13 eS13
  refine a_aload_n (pc := 68) 0 40 rfl rfl ?_
  refine g_12_blocked (pc := 69) 0 41 rfl fl_X12_29 ?_
  refine a_iload_n (pc := 72) 0 42 rfl rfl ?_
  refine a_dup2 (pc := 73) 0 43 rfl rfl rfl ?_
  obtain ⟨o14, h⟩ := h
  refine e_28 (pc := 74) 0 44 (ix p1) rfl o14.1 o14.2 ?_
  refine a_iload_n (pc := 75) 0 45 rfl rfl ?_
  refine a_iadd (pc := 76) 0 46 rfl ?_
  obtain ⟨o15, h⟩ := h
  refine s_28 (pc := 77) 0 47 (ix p1) rfl o15.1 o15.2 ?_
  refine a_set (fun S16 eS16 => ?_)
  have h := h S16 eS16
  refine a_aload_n (pc := 78) 1 0 rfl rfl ?_
  refine g_12_bankOf (pc := 79) 1 1 rfl fl_X12_23 ?_
  refine a_iload_n (pc := 82) 1 2 rfl rfl ?_
  obtain ⟨o17, h⟩ := h
  refine e_26 (pc := 83) 1 3 (ix p1) rfl o17.1 o17.2 ?_
  refine a_aload_n (pc := 84) 1 4 rfl rfl ?_
  refine g_12_bankOf (pc := 85) 1 5 rfl fl_X12_23 ?_
  refine a_iload_n (pc := 88) 1 6 rfl rfl ?_
  obtain ⟨o18, h⟩ := h
  refine e_26 (pc := 89) 1 7 (ix p2) rfl o18.1 o18.2 ?_
  have J99_22 : ∀ (S22 : Mem) (eS22 : (if (S16.2.1 kBankOf (ix p1)) = (S16.2.1 kBankOf (ix p2)) then (lt (f_X12_finishes S16 (S.2.1 kPayments 0)) (fun (S21 : Mem) => S21)) else (S16)) = S22), BW O G fdX12_pays 0 0 (QV O G 0 0 PP) S22 99 [some (vr 12 0), some (vi p1), some (vi p2), some (vi p3), some (vi p4), some (vi (S.2.1 kPayments 0))] [] := by
    intro S22 eS22
    refine a_iload (pc := 99) 1 12 rfl rfl ?_
    exact a_iret (pc := 101) 1 13 rfl rfl (hP _ _ (by unfold f_X12_pays; exact (lt_eq eS1).trans ((lt_eq eS3).trans ((lt_eq eS5).trans ((lt_eq eS7).trans ((lt_eq eS9).trans ((lt_eq eS11).trans ((lt_eq eS13).trans ((lt_eq eS16).trans (lt_eq eS22))))))))))
  refine a_icmp_ne (pc := 90) (tgt := 99) 1 8 rfl (by decide) (fun c90_18 => ?_) (fun c90_18 => ?_)
  · exact J99_22 _ (by exact (if_neg c90_18))
  · have h := h c90_18
    refine a_aload_n (pc := 93) 1 9 rfl rfl ?_
    refine a_iload (pc := 94) 1 10 rfl rfl ?_
    have o20 := h
    refine a_callVv (pc := 96) 1 11 (c_X12_finishes (S := S16) (S.2.1 kPayments 0) o20) rfl cv_X12_208 (by decide) rfl rfl rfl (rm rfl) ?_
    refine a_set (fun S21 eS21 => ?_)
    exact J99_22 _ (by exact ((if_pos c90_18).trans (lt_eq eS21)))
theorem c_X12_pays {S : Mem} (p1 : Int32) (p2 : Int32) (p3 : Int32) (p4 : Int32)  (hb_p4 : p4 = 0 ∨ p4 = 1) (h : ok_X12_pays S p1 p2 p3 p4) : Cts mdX12_pays 1 21 [vr 12 0, vi p1, vi p2, vi p3, vi p4] S (Is (some (vi (f_X12_pays S p1 p2 p3 p4).1)) ((f_X12_pays S p1 p2 p3 p4).2)) := Cts.of dtX12_pays (by decide +kernel) rfl rfl (Nat.le_of_ble_eq_true rfl) rfl (fun O G => w_X12_pays p1 p2 p3 p4 hb_p4 h (fun _ _ h9 => ⟨by rw [h9], by rw [h9]⟩))
def b2_X12_laysNets  (j1 : Nat) (σ2 : Mem) : Mem := lt ((σ2.1, upd2 σ2.2.1 kNets j1 0, σ2.2.2)) (fun (S3 : Mem) => S3)
def b22_X12_laysNets  (j4 : Nat) (σ5 : Mem) : Mem := lt (if (σ5.2.1 kAreChosen j4) = 0 then (σ5) else (lt ((σ5.1, upd2 σ5.2.1 kNets (ix (σ5.2.1 kBankOf (ix (σ5.2.1 kFroms j4)))) ((σ5.2.1 kNets (ix (σ5.2.1 kBankOf (ix (σ5.2.1 kFroms j4))))) - (σ5.2.1 kAmounts j4)), σ5.2.2)) (fun (S14 : Mem) => lt ((S14.1, upd2 S14.2.1 kNets (ix (S14.2.1 kBankOf (ix (S14.2.1 kTos j4)))) ((S14.2.1 kNets (ix (S14.2.1 kBankOf (ix (S14.2.1 kTos j4))))) + (S14.2.1 kAmounts j4)), S14.2.2)) (fun (S20 : Mem) => S20)))) (fun (S21 : Mem) => S21)
def f_X12_laysNets (S : Mem)  : Mem := lt (iter (b2_X12_laysNets) S (4)) (fun (σ2 : Mem) => lt (iter (b22_X12_laysNets) σ2 (ix (σ2.2.1 kPayments 0))) (fun (σ5 : Mem) => σ5))
def ok_X12_laysNets (S : Mem)  : Prop := ((∀ σ2 : Mem, iter (b2_X12_laysNets) S (4) = σ2 → ((∀ j4 : Nat, j4 ≤ ix (σ2.2.1 kPayments 0) → ∀ σ5 : Mem, iter (b22_X12_laysNets) σ2 j4 = σ5 → σ5.2.1 kPayments 0 = nI (ix (σ2.2.1 kPayments 0))) ∧ (∀ j4 : Nat, j4 < ix (σ2.2.1 kPayments 0) → ∀ σ5 : Mem, iter (b22_X12_laysNets) σ2 j4 = σ5 → ((j4 < 200) ∧ ((¬ ((σ5.2.1 kAreChosen j4) = 0)) → ((j4 < 200) ∧ (inb (σ5.2.1 kFroms j4) 16) ∧ (inb (σ5.2.1 kBankOf (ix (σ5.2.1 kFroms j4))) 4) ∧ (j4 < 200) ∧ (inb (σ5.2.1 kBankOf (ix (σ5.2.1 kFroms j4))) 4) ∧ (∀ S14 : Mem, ((σ5.1, upd2 σ5.2.1 kNets (ix (σ5.2.1 kBankOf (ix (σ5.2.1 kFroms j4)))) ((σ5.2.1 kNets (ix (σ5.2.1 kBankOf (ix (σ5.2.1 kFroms j4))))) - (σ5.2.1 kAmounts j4)), σ5.2.2)) = S14 → ((j4 < 200) ∧ (inb (S14.2.1 kTos j4) 16) ∧ (inb (S14.2.1 kBankOf (ix (S14.2.1 kTos j4))) 4) ∧ (j4 < 200) ∧ (inb (S14.2.1 kBankOf (ix (S14.2.1 kTos j4))) 4))))))))))
abbrev fdX12_laysNets : FD := (mdX12_laysNets, [], 0, 0, 0, 0)
set_option maxRecDepth 100000 in
set_option maxHeartbeats 4000000 in
theorem w_X12_laysNets {O : Om} {G : Cx} {S : Mem} {PP : Option AV → Mem → Prop}    (h : ok_X12_laysNets S ) (hP : ∀ S9, f_X12_laysNets S  = S9 → PP none S9) : BW O G fdX12_laysNets 0 0 (QV O G 0 0 PP) S 0 [some (vr 12 0), none] [] := by
  refine a_iconst (pc := 0) 0 0 (v := 0) rfl (by decide) ?_
  refine a_istore_n (pc := 1) 0 1 (ls2 := [some (vr 12 0), some (vi 0)]) rfl rfl (by decide) rfl ?_
  have L2_21 : ∀ (m_j1 j1 : Nat), j1 + m_j1 = 4 → ∀ (σ2 : Mem), iter (b2_X12_laysNets) S j1 = σ2 → BW O G fdX12_laysNets 0 0 (QV O G 0 0 PP) σ2 2 [some (vr 12 0), some (vi (nI j1))] [] := by
    intro m_j1
    induction m_j1 with
    | zero =>
      intro j1 hj_j1 σ2 eσ2
      have hn_j1 : j1 = 4 := by omega
      rw [hn_j1] at eσ2
      have h := h σ2 eσ2
      refine a_iload_n (pc := 2) 0 2 rfl rfl ?_
      refine a_iconst (pc := 3) 0 3 (v := nI 4) rfl (by decide) ?_
      refine a_icmp_ge_t (pc := 4) (tgt := 20) 0 4 rfl (by decide) (nI_le (by omega) (by omega)) ?_
      refine a_iconst (pc := 20) 0 12 (v := 0) rfl (by decide) ?_
      refine a_istore_n (pc := 21) 0 13 (ls2 := [some (vr 12 0), some (vi 0)]) rfl rfl (by decide) rfl ?_
      obtain ⟨o6, hb_j4⟩ := h
      have nlt_j4 := ix_lt (σ2.2.1 kPayments 0)
      have L22_22 : ∀ (m_j4 j4 : Nat), j4 + m_j4 = ix (σ2.2.1 kPayments 0) → ∀ (σ5 : Mem), iter (b22_X12_laysNets) σ2 j4 = σ5 → BW O G fdX12_laysNets 0 0 (QV O G 0 0 PP) σ5 22 [some (vr 12 0), some (vi (nI j4))] [] := by
        intro m_j4
        induction m_j4 with
        | zero =>
          intro j4 hj_j4 σ5 eσ5
          have o6 := o6 j4 (by omega) σ5 eσ5
          have hn_j4 : j4 = ix (σ2.2.1 kPayments 0) := by omega
          rw [hn_j4] at eσ5
          refine a_iload_n (pc := 22) 0 14 rfl rfl ?_
          refine a_aload_n (pc := 23) 0 15 rfl rfl ?_
          refine g_12_payments (pc := 24) 0 16 rfl fl_X12_187 ?_
          refine a_icmp_ge_t (pc := 27) (tgt := 95) 0 17 rfl (by decide) (bd_t (o6) (by omega)) ?_
          exact a_vret (pc := 95) 1 11 rfl rfl (hP _ (by unfold f_X12_laysNets; exact (lt_eq eσ2).trans (lt_eq eσ5)))
        | succ m_j4 ih_j4 =>
          intro j4 hj_j4 σ5 eσ5
          have o6 := o6 j4 (by omega) σ5 eσ5
          have h := hb_j4 j4 (by omega) σ5 eσ5
          refine a_iload_n (pc := 22) 0 14 rfl rfl ?_
          refine a_aload_n (pc := 23) 0 15 rfl rfl ?_
          refine g_12_payments (pc := 24) 0 16 rfl fl_X12_187 ?_
          refine a_icmp_ge_f (pc := 27) (tgt := 95) 0 17 rfl (bd_f (o6) (by omega)) (by decide) ?_
          refine a_aload_n (pc := 30) 0 18 rfl rfl ?_
          refine g_12_areChosen (pc := 31) 0 19 rfl fl_X12_111 ?_
          refine a_iload_n (pc := 34) 0 20 rfl rfl ?_
          obtain ⟨o7, h⟩ := h
          refine e_55 (pc := 35) 0 21 (j4) rfl rfl o7 ?_
          have J89_23 : ∀ (S21 : Mem) (eS21 : (if (σ5.2.1 kAreChosen j4) = 0 then (σ5) else (lt ((σ5.1, upd2 σ5.2.1 kNets (ix (σ5.2.1 kBankOf (ix (σ5.2.1 kFroms j4)))) ((σ5.2.1 kNets (ix (σ5.2.1 kBankOf (ix (σ5.2.1 kFroms j4))))) - (σ5.2.1 kAmounts j4)), σ5.2.2)) (fun (S14 : Mem) => lt ((S14.1, upd2 S14.2.1 kNets (ix (S14.2.1 kBankOf (ix (S14.2.1 kTos j4)))) ((S14.2.1 kNets (ix (S14.2.1 kBankOf (ix (S14.2.1 kTos j4))))) + (S14.2.1 kAmounts j4)), S14.2.2)) (fun (S20 : Mem) => S20)))) = S21), BW O G fdX12_laysNets 0 0 (QV O G 0 0 PP) S21 89 [some (vr 12 0), some (vi (nI j4))] [] := by
            intro S21 eS21
            refine a_iinc (pc := 89) 1 9 (v := nI (j4 + 1)) (ls2 := [some (vr 12 0), some (vi (nI (j4 + 1)))]) rfl rfl (iinc1 _) (by decide) rfl ?_
            refine a_goto (pc := 92) (tgt := 22) 1 10 rfl (by decide) ?_
            exact ih_j4 (j4 + 1) (by omega) S21 (by rw [iter_succ, eσ5]; unfold b22_X12_laysNets; exact (lt_eq eS21))
          refine a_if_eq (pc := 36) (tgt := 89) 0 22 rfl (by decide) (fun c36_7 => ?_) (fun c36_7 => ?_)
          · exact J89_23 _ (by exact (if_pos c36_7))
          · have h := h c36_7
            refine a_aload_n (pc := 39) 0 23 rfl rfl ?_
            refine g_12_nets (pc := 40) 0 24 rfl fl_X12_69 ?_
            refine a_aload_n (pc := 43) 0 25 rfl rfl ?_
            refine g_12_bankOf (pc := 44) 0 26 rfl fl_X12_23 ?_
            refine a_aload_n (pc := 47) 0 27 rfl rfl ?_
            refine g_12_froms (pc := 48) 0 28 rfl fl_X12_90 ?_
            refine a_iload_n (pc := 51) 0 29 rfl rfl ?_
            obtain ⟨o9, h⟩ := h
            refine e_48 (pc := 52) 0 30 (j4) rfl rfl o9 ?_
            obtain ⟨o10, h⟩ := h
            refine e_26 (pc := 53) 0 31 (ix (σ5.2.1 kFroms j4)) rfl o10.1 o10.2 ?_
            refine a_dup2 (pc := 54) 0 32 rfl rfl rfl ?_
            obtain ⟨o11, h⟩ := h
            refine e_41 (pc := 55) 0 33 (ix (σ5.2.1 kBankOf (ix (σ5.2.1 kFroms j4)))) rfl o11.1 o11.2 ?_
            refine a_aload_n (pc := 56) 0 34 rfl rfl ?_
            refine g_12_amounts (pc := 57) 0 35 rfl fl_X12_96 ?_
            refine a_iload_n (pc := 60) 0 36 rfl rfl ?_
            obtain ⟨o12, h⟩ := h
            refine e_50 (pc := 61) 0 37 (j4) rfl rfl o12 ?_
            refine a_isub (pc := 62) 0 38 rfl ?_
            obtain ⟨o13, h⟩ := h
            refine s_41 (pc := 63) 0 39 (ix (σ5.2.1 kBankOf (ix (σ5.2.1 kFroms j4)))) rfl o13.1 o13.2 ?_
            refine a_set (fun S14 eS14 => ?_)
            have h := h S14 eS14
            refine a_aload_n (pc := 64) 0 40 rfl rfl ?_
            refine g_12_nets (pc := 65) 0 41 rfl fl_X12_69 ?_
            refine a_aload_n (pc := 68) 0 42 rfl rfl ?_
            refine g_12_bankOf (pc := 69) 0 43 rfl fl_X12_23 ?_
            refine a_aload_n (pc := 72) 0 44 rfl rfl ?_
            refine g_12_tos (pc := 73) 0 45 rfl fl_X12_93 ?_
            refine a_iload_n (pc := 76) 0 46 rfl rfl ?_
            obtain ⟨o15, h⟩ := h
            refine e_49 (pc := 77) 0 47 (j4) rfl rfl o15 ?_
            obtain ⟨o16, h⟩ := h
            refine e_26 (pc := 78) 1 0 (ix (S14.2.1 kTos j4)) rfl o16.1 o16.2 ?_
            refine a_dup2 (pc := 79) 1 1 rfl rfl rfl ?_
            obtain ⟨o17, h⟩ := h
            refine e_41 (pc := 80) 1 2 (ix (S14.2.1 kBankOf (ix (S14.2.1 kTos j4)))) rfl o17.1 o17.2 ?_
            refine a_aload_n (pc := 81) 1 3 rfl rfl ?_
            refine g_12_amounts (pc := 82) 1 4 rfl fl_X12_96 ?_
            refine a_iload_n (pc := 85) 1 5 rfl rfl ?_
            obtain ⟨o18, h⟩ := h
            refine e_50 (pc := 86) 1 6 (j4) rfl rfl o18 ?_
            refine a_iadd (pc := 87) 1 7 rfl ?_
            have o19 := h
            refine s_41 (pc := 88) 1 8 (ix (S14.2.1 kBankOf (ix (S14.2.1 kTos j4)))) rfl o19.1 o19.2 ?_
            refine a_set (fun S20 eS20 => ?_)
            exact J89_23 _ (by exact ((if_neg c36_7).trans ((lt_eq eS14).trans (lt_eq eS20))))
      exact L22_22 (ix (σ2.2.1 kPayments 0)) 0 (by omega) σ2 rfl
    | succ m_j1 ih_j1 =>
      intro j1 hj_j1 σ2 eσ2
      refine a_iload_n (pc := 2) 0 2 rfl rfl ?_
      refine a_iconst (pc := 3) 0 3 (v := nI 4) rfl (by decide) ?_
      refine a_icmp_ge_f (pc := 4) (tgt := 20) 0 4 rfl (nI_ge (by omega) (by omega)) (by decide) ?_
      refine a_aload_n (pc := 7) 0 5 rfl rfl ?_
      refine g_12_nets (pc := 8) 0 6 rfl fl_X12_69 ?_
      refine a_iload_n (pc := 11) 0 7 rfl rfl ?_
      refine a_iconst (pc := 12) 0 8 (v := 0) rfl (by decide) ?_
      refine s_41 (pc := 13) 0 9 (j1) rfl rfl (by omega) ?_
      refine a_set (fun S3 eS3 => ?_)
      refine a_iinc (pc := 14) 0 10 (v := nI (j1 + 1)) (ls2 := [some (vr 12 0), some (vi (nI (j1 + 1)))]) rfl rfl (iinc1 _) (by decide) rfl ?_
      refine a_goto (pc := 17) (tgt := 2) 0 11 rfl (by decide) ?_
      exact ih_j1 (j1 + 1) (by omega) S3 (by rw [iter_succ, eσ2]; unfold b2_X12_laysNets; exact (lt_eq eS3))
  exact L2_21 (4) 0 (by omega) S rfl
theorem c_X12_laysNets {S : Mem}    (h : ok_X12_laysNets S ) : Cts mdX12_laysNets 0 0 [vr 12 0] S (Is none (f_X12_laysNets S )) := Cts.of dtX12_laysNets (by decide +kernel) rfl rfl (Nat.le_of_ble_eq_true rfl) rfl (fun O G => w_X12_laysNets  h (fun _ h9 => ⟨rfl, h9.symm⟩))
def b6_X12_worstBank (S : Mem) (j1 : Nat) (σ2 : Int32 × Int32) : Int32 × Int32 := lt (f_X12_least S (S.2.1 kReserves j1) (S.2.1 kLimits j1)) (fun (v3 : Int32) => lt (if ((-(S.2.1 kNets j1)) - v3) ≤ σ2.2 then (σ2.1) else (nI j1)) (fun (v5 : Int32) => lt (f_X12_most S ((-(S.2.1 kNets j1)) - v3) σ2.2) (fun (v6 : Int32) => (v5, v6))))
def f_X12_worstBank (S : Mem)  : Int32 := lt (iter (b6_X12_worstBank S) ((-1), 0) (4)) (fun (σ2 : Int32 × Int32) => σ2.1)
abbrev fdX12_worstBank : FD := (mdX12_worstBank, [], 1, 21, 0, 0)
set_option maxRecDepth 100000 in
set_option maxHeartbeats 4000000 in
theorem w_X12_worstBank {O : Om} {G : Cx} {S : Mem} {PP : Option AV → Mem → Prop}    (hP : ∀ x9, f_X12_worstBank S  = x9 → PP (some (vi x9)) S) : BW O G fdX12_worstBank 0 0 (QV O G 0 0 PP) S 0 [some (vr 12 0), none, none, none, none] [] := by
  refine a_iconst (pc := 0) 0 0 (v := (-1)) rfl (by decide) ?_
  refine a_istore_n (pc := 1) 0 1 (ls2 := [some (vr 12 0), some (vi (-1)), none, none, none]) rfl rfl (by decide) rfl ?_
  refine a_iconst (pc := 2) 0 2 (v := 0) rfl (by decide) ?_
  refine a_istore_n (pc := 3) 0 3 (ls2 := [some (vr 12 0), some (vi (-1)), some (vi 0), none, none]) rfl rfl (by decide) rfl ?_
  refine a_iconst (pc := 4) 0 4 (v := 0) rfl (by decide) ?_
  refine a_istore_n (pc := 5) 0 5 (ls2 := [some (vr 12 0), some (vi (-1)), some (vi 0), some (vi 0), none]) rfl rfl (by decide) rfl ?_
  have L6_6 : ∀ (m_j1 j1 : Nat), j1 + m_j1 = 4 → ∀ (σ2 : Int32 × Int32), iter (b6_X12_worstBank S) ((-1), 0) j1 = σ2 → BW O G fdX12_worstBank 0 0 (QV O G 0 0 PP) S 6 [some (vr 12 0), some (vi σ2.1), some (vi σ2.2), some (vi (nI j1)), none] [] := by
    intro m_j1
    induction m_j1 with
    | zero =>
      intro j1 hj_j1 σ2 eσ2
      have hn_j1 : j1 = 4 := by omega
      rw [hn_j1] at eσ2
      refine a_iload_n (pc := 6) 0 6 rfl rfl ?_
      refine a_iconst (pc := 7) 0 7 (v := nI 4) rfl (by decide) ?_
      refine a_icmp_ge_t (pc := 8) (tgt := 61) 0 8 rfl (by decide) (nI_le (by omega) (by omega)) ?_
      refine a_iload_n (pc := 61) 0 38 rfl rfl ?_
      exact a_iret (pc := 62) 0 39 rfl rfl (hP _ (by unfold f_X12_worstBank; exact lt_eq eσ2))
    | succ m_j1 ih_j1 =>
      intro j1 hj_j1 σ2 eσ2
      refine a_iload_n (pc := 6) 0 6 rfl rfl ?_
      refine a_iconst (pc := 7) 0 7 (v := nI 4) rfl (by decide) ?_
      refine a_icmp_ge_f (pc := 8) (tgt := 61) 0 8 rfl (nI_ge (by omega) (by omega)) (by decide) ?_
      refine a_aload_n (pc := 11) 0 9 rfl rfl ?_
      refine g_12_nets (pc := 12) 0 10 rfl fl_X12_69 ?_
      refine a_iload_n (pc := 15) 0 11 rfl rfl ?_
      refine e_41 (pc := 16) 0 12 (j1) rfl rfl (by omega) ?_
      refine a_ineg (pc := 17) 0 13 rfl ?_
      refine a_aload_n (pc := 18) 0 14 rfl rfl ?_
      refine g_12_reserves (pc := 19) 0 15 rfl fl_X12_50 ?_
      refine a_iload_n (pc := 22) 0 16 rfl rfl ?_
      refine e_35 (pc := 23) 0 17 (j1) rfl rfl (by omega) ?_
      refine a_aload_n (pc := 24) 0 18 rfl rfl ?_
      refine g_12_limits (pc := 25) 0 19 rfl fl_X12_59 ?_
      refine a_iload_n (pc := 28) 0 20 rfl rfl ?_
      refine e_38 (pc := 29) 0 21 (j1) rfl rfl (by omega) ?_
      refine a_callSi (pc := 30) 0 22 (c_X12_least (S := S) (S.2.1 kReserves j1) (S.2.1 kLimits j1)) rfl cs_X12_193 rfl (rm rfl) ?_
      refine a_seti (fun v3 ev3 => ?_)
      refine a_isub (pc := 33) 0 23 rfl ?_
      refine a_istore (pc := 34) 0 24 (ls2 := [some (vr 12 0), some (vi σ2.1), some (vi σ2.2), some (vi (nI j1)), some (vi ((-(S.2.1 kNets j1)) - v3))]) rfl (by decide) rfl ?_
      refine a_iload (pc := 36) 0 25 rfl rfl ?_
      refine a_iload_n (pc := 38) 0 26 rfl rfl ?_
      have J47_7 : ∀ (v5 : Int32) (ev5 : (if ((-(S.2.1 kNets j1)) - v3) ≤ σ2.2 then (σ2.1) else (nI j1)) = v5), BW O G fdX12_worstBank 0 0 (QV O G 0 0 PP) S 47 [some (vr 12 0), some (vi σ2.1), some (vi σ2.2), some (vi (nI j1)), some (vi ((-(S.2.1 kNets j1)) - v3))] [vi v5] := by
        intro v5 ev5
        refine a_istore_n (pc := 47) 0 31 (ls2 := [some (vr 12 0), some (vi v5), some (vi σ2.2), some (vi (nI j1)), some (vi ((-(S.2.1 kNets j1)) - v3))]) rfl rfl (by decide) rfl ?_
        refine a_iload (pc := 48) 0 32 rfl rfl ?_
        refine a_iload_n (pc := 50) 0 33 rfl rfl ?_
        refine a_callSi (pc := 51) 0 34 (c_X12_most (S := S) ((-(S.2.1 kNets j1)) - v3) σ2.2) rfl cs_X12_161 rfl (rm rfl) ?_
        refine a_seti (fun v6 ev6 => ?_)
        refine a_istore_n (pc := 54) 0 35 (ls2 := [some (vr 12 0), some (vi v5), some (vi v6), some (vi (nI j1)), some (vi ((-(S.2.1 kNets j1)) - v3))]) rfl rfl (by decide) rfl ?_
        refine a_iinc (pc := 55) 0 36 (v := nI (j1 + 1)) (ls2 := [some (vr 12 0), some (vi v5), some (vi v6), some (vi (nI (j1 + 1))), some (vi ((-(S.2.1 kNets j1)) - v3))]) rfl rfl (iinc1 _) (by decide) rfl ?_
        refine a_goto (pc := 58) (tgt := 6) 0 37 rfl (by decide) ?_
        refine a_drop (ls2 := [some (vr 12 0), some (vi v5), some (vi v6), some (vi (nI (j1 + 1))), none]) (⟨rfl, rfl, rfl, rfl, trivial⟩) ?_
        exact ih_j1 (j1 + 1) (by omega) (v5, v6) (by rw [iter_succ, eσ2]; unfold b6_X12_worstBank; exact ((lt_eq ev3).trans ((lt_eq ev5).trans (lt_eq ev6))))
      refine a_icmp_le (pc := 39) (tgt := 46) 0 27 rfl (by decide) (fun c39_3 => ?_) (fun c39_3 => ?_)
      · refine a_iload_n (pc := 46) 0 30 rfl rfl ?_
        exact J47_7 _ (by exact (if_pos c39_3))
      · refine a_iload_n (pc := 42) 0 28 rfl rfl ?_
        refine a_goto (pc := 43) (tgt := 47) 0 29 rfl (by decide) ?_
        exact J47_7 _ (by exact (if_neg c39_3))
  exact L6_6 (4) 0 (by omega) ((-1), 0) rfl
theorem c_X12_worstBank {S : Mem}    : Cts mdX12_worstBank 1 21 [vr 12 0] S (Is (some (vi (f_X12_worstBank S ))) (S)) := Cts.of dtX12_worstBank (by decide +kernel) rfl rfl (Nat.le_of_ble_eq_true rfl) rfl (fun O G => w_X12_worstBank  (fun _ h9 => ⟨by rw [h9], rfl⟩))
def b2_X12_clears  (j1 : Nat) (σ2 : Mem) : Mem := lt (if (σ2.2.1 kStates j1) = 0 then (1) else (0)) (fun (v6 : Int32) => lt ((σ2.1, upd2 σ2.2.1 kAreChosen j1 v6, σ2.2.2)) (fun (S8 : Mem) => S8))
def b54_X12_clears (σ12 : Int32 × Mem) (j15 : Nat) (σ16 : Int32) : Int32 := lt (if (σ12.2.2.1 kAreChosen j15) = 0 then (σ16) else (if (σ12.2.2.1 kBankOf (ix (σ12.2.2.1 kFroms j15))) = σ12.1 then (nI j15) else (σ16))) (fun (v23 : Int32) => v23)
def b45_X12_clears  (_ : Nat) (σ12 : Int32 × Mem) : (Int32 × Mem) ⊕ (Int32 × Mem) := if σ12.1 = (-1) then (.inr (σ12.1, σ12.2)) else (lt (iter (b54_X12_clears σ12) (-1) (ix (σ12.2.2.1 kPayments 0))) (fun (σ16 : Int32) => lt ((σ12.2.1, upd2 σ12.2.2.1 kAreChosen (ix σ16) 0, σ12.2.2.2)) (fun (S25 : Mem) => lt (f_X12_laysNets S25 ) (fun (S27 : Mem) => lt (f_X12_worstBank S27 ) (fun (v28 : Int32) => .inl (v28, S27))))))
def b119_X12_clears  (j29 : Nat) (σ30 : Mem) : Mem := lt ((σ30.1, upd2 σ30.2.1 kReserves j29 ((σ30.2.1 kReserves j29) + (σ30.2.1 kNets j29)), σ30.2.2)) (fun (S31 : Mem) => S31)
def b149_X12_clears  (j32 : Nat) (σ33 : Int32 × Mem) : Int32 × Mem := lt (if (σ33.2.2.1 kAreChosen j32) = 0 then (σ33.1) else (lt (f_X12_finishes σ33.2 (nI j32)) (fun (S38 : Mem) => σ33.1 + 1))) (fun (v39 : Int32) => lt (if (σ33.2.2.1 kAreChosen j32) = 0 then (σ33.2) else (lt (f_X12_finishes σ33.2 (nI j32)) (fun (S38 : Mem) => S38))) (fun (S40 : Mem) => (v39, S40)))
def f_X12_clears (S : Mem)  : Int32 × Mem := lt (iter (b2_X12_clears) S (ix (S.2.1 kPayments 0))) (fun (σ2 : Mem) => lt (f_X12_laysNets σ2 ) (fun (S10 : Mem) => lt (f_X12_worstBank S10 ) (fun (v11 : Int32) => lt (outE (iterE (b45_X12_clears) (v11, S10) (201))) (fun (σ12 : Int32 × Mem) => lt (iter (b119_X12_clears) σ12.2 (4)) (fun (σ30 : Mem) => lt (iter (b149_X12_clears) (0, σ30) (ix (σ30.2.1 kPayments 0))) (fun (σ33 : Int32 × Mem) => (σ33.1, σ33.2)))))))
def ok_X12_clears (S : Mem)  : Prop := ((∀ j1 : Nat, j1 ≤ ix (S.2.1 kPayments 0) → ∀ σ2 : Mem, iter (b2_X12_clears) S j1 = σ2 → σ2.2.1 kPayments 0 = nI (ix (S.2.1 kPayments 0))) ∧ (∀ j1 : Nat, j1 < ix (S.2.1 kPayments 0) → ∀ σ2 : Mem, iter (b2_X12_clears) S j1 = σ2 → ((j1 < 200) ∧ (∀ v6 : Int32, (if (σ2.2.1 kStates j1) = 0 then (1) else (0)) = v6 → ((j1 < 200))))) ∧ (∀ σ2 : Mem, iter (b2_X12_clears) S (ix (S.2.1 kPayments 0)) = σ2 → ((ok_X12_laysNets σ2 ) ∧ (∀ S10 : Mem, (f_X12_laysNets σ2 ) = S10 → ((∀ v11 : Int32, (f_X12_worstBank S10 ) = v11 → ((∃ r9, iterE (b45_X12_clears) (v11, S10) (201) = .inr r9) ∧ (∀ j13 : Nat, j13 < 201 → ∀ σ12 : Int32 × Mem, iterE (b45_X12_clears) (v11, S10) j13 = .inl σ12 → (((¬ (σ12.1 = (-1))) → ((∀ j15 : Nat, j15 ≤ ix (σ12.2.2.1 kPayments 0) → ∀ σ16 : Int32, iter (b54_X12_clears σ12) (-1) j15 = σ16 → σ12.2.2.1 kPayments 0 = nI (ix (σ12.2.2.1 kPayments 0))) ∧ (∀ j15 : Nat, j15 < ix (σ12.2.2.1 kPayments 0) → ∀ σ16 : Int32, iter (b54_X12_clears σ12) (-1) j15 = σ16 → ((j15 < 200) ∧ ((¬ ((σ12.2.2.1 kAreChosen j15) = 0)) → ((j15 < 200) ∧ (inb (σ12.2.2.1 kFroms j15) 16))))) ∧ (∀ σ16 : Int32, iter (b54_X12_clears σ12) (-1) (ix (σ12.2.2.1 kPayments 0)) = σ16 → ((inb σ16 200) ∧ (∀ S25 : Mem, ((σ12.2.1, upd2 σ12.2.2.1 kAreChosen (ix σ16) 0, σ12.2.2.2)) = S25 → ((ok_X12_laysNets S25 ))))))))) ∧ (∀ σ12 : Int32 × Mem, outE (iterE (b45_X12_clears) (v11, S10) (201)) = σ12 → ((∀ σ30 : Mem, iter (b119_X12_clears) σ12.2 (4) = σ30 → ((∀ j32 : Nat, j32 ≤ ix (σ30.2.1 kPayments 0) → ∀ σ33 : Int32 × Mem, iter (b149_X12_clears) (0, σ30) j32 = σ33 → σ33.2.2.1 kPayments 0 = nI (ix (σ30.2.1 kPayments 0))) ∧ (∀ j32 : Nat, j32 < ix (σ30.2.1 kPayments 0) → ∀ σ33 : Int32 × Mem, iter (b149_X12_clears) (0, σ30) j32 = σ33 → ((j32 < 200) ∧ ((¬ ((σ33.2.2.1 kAreChosen j32) = 0)) → ((ok_X12_finishes σ33.2 (nI j32)))))))))))))))))
abbrev fdX12_clears : FD := (mdX12_clears, [], 2, 45, 0, 0)
set_option maxRecDepth 100000 in
set_option maxHeartbeats 4000000 in
theorem w_X12_clears {O : Om} {G : Cx} {S : Mem} {PP : Option AV → Mem → Prop}    (h : ok_X12_clears S ) (hP : ∀ x9 S9, f_X12_clears S  = (x9, S9) → PP (some (vi x9)) S9) : BW O G fdX12_clears 0 0 (QV O G 0 0 PP) S 0 [some (vr 12 0), none, none, none] [] := by
  refine a_iconst (pc := 0) 0 0 (v := 0) rfl (by decide) ?_
  refine a_istore_n (pc := 1) 0 1 (ls2 := [some (vr 12 0), some (vi 0), none, none]) rfl rfl (by decide) rfl ?_
  obtain ⟨o3, hb_j1, h⟩ := h
  have nlt_j1 := ix_lt (S.2.1 kPayments 0)
  have L2_40 : ∀ (m_j1 j1 : Nat), j1 + m_j1 = ix (S.2.1 kPayments 0) → ∀ (σ2 : Mem), iter (b2_X12_clears) S j1 = σ2 → BW O G fdX12_clears 0 0 (QV O G 0 0 PP) σ2 2 [some (vr 12 0), some (vi (nI j1)), none, none] [] := by
    intro m_j1
    induction m_j1 with
    | zero =>
      intro j1 hj_j1 σ2 eσ2
      have o3 := o3 j1 (by omega) σ2 eσ2
      have hn_j1 : j1 = ix (S.2.1 kPayments 0) := by omega
      rw [hn_j1] at eσ2
      have h := h σ2 eσ2
      refine a_iload_n (pc := 2) 0 2 rfl rfl ?_
      refine a_aload_n (pc := 3) 0 3 rfl rfl ?_
      refine g_12_payments (pc := 4) 0 4 rfl fl_X12_187 ?_
      refine a_icmp_ge_t (pc := 7) (tgt := 36) 0 5 rfl (by decide) (bd_t (o3) (by omega)) ?_
      refine a_aload_n (pc := 36) 0 20 rfl rfl ?_
      obtain ⟨o9, h⟩ := h
      refine a_callVv (pc := 37) 0 21 (c_X12_laysNets (S := σ2)  o9) rfl cv_X12_219 (by decide) rfl rfl rfl (rm rfl) ?_
      refine a_set (fun S10 eS10 => ?_)
      have h := h S10 eS10
      refine a_aload_n (pc := 40) 0 22 rfl rfl ?_
      refine a_callVi (pc := 41) 0 23 (c_X12_worstBank (S := S10) ) rfl cv_X12_222 (by decide) rfl rfl rfl (rm rfl) ?_
      refine a_seti (fun v11 ev11 => ?_)
      have h := h v11 ev11
      refine a_istore_n (pc := 44) 0 24 (ls2 := [some (vr 12 0), some (vi v11), none, none]) rfl rfl (by decide) rfl ?_
      obtain ⟨hf_j13, hb_j13, h⟩ := h
      have E45_41 : ∀ (σ12 : Int32 × Mem), outE (iterE (b45_X12_clears) (v11, S10) (201)) = σ12 → BW O G fdX12_clears 0 0 (QV O G 0 0 PP) σ12.2 117 [some (vr 12 0), some (vi σ12.1), none, none] [] := by
        intro σ12 eσ12
        have h := h σ12 eσ12
        refine a_iconst (pc := 117) 1 19 (v := 0) rfl (by decide) ?_
        refine a_istore_n (pc := 118) 1 20 (ls2 := [some (vr 12 0), some (vi σ12.1), some (vi 0), none]) rfl rfl (by decide) rfl ?_
        have L119_43 : ∀ (m_j29 j29 : Nat), j29 + m_j29 = 4 → ∀ (σ30 : Mem), iter (b119_X12_clears) σ12.2 j29 = σ30 → BW O G fdX12_clears 0 0 (QV O G 0 0 PP) σ30 119 [some (vr 12 0), some (vi σ12.1), some (vi (nI j29)), none] [] := by
          intro m_j29
          induction m_j29 with
          | zero =>
            intro j29 hj_j29 σ30 eσ30
            have hn_j29 : j29 = 4 := by omega
            rw [hn_j29] at eσ30
            have h := h σ30 eσ30
            refine a_iload_n (pc := 119) 1 21 rfl rfl ?_
            refine a_iconst (pc := 120) 1 22 (v := nI 4) rfl (by decide) ?_
            refine a_icmp_ge_t (pc := 121) (tgt := 145) 1 23 rfl (by decide) (nI_le (by omega) (by omega)) ?_
            refine a_iconst (pc := 145) 1 37 (v := 0) rfl (by decide) ?_
            refine a_istore_n (pc := 146) 1 38 (ls2 := [some (vr 12 0), some (vi σ12.1), some (vi 0), none]) rfl rfl (by decide) rfl ?_
            refine a_iconst (pc := 147) 1 39 (v := 0) rfl (by decide) ?_
            refine a_istore_n (pc := 148) 1 40 (ls2 := [some (vr 12 0), some (vi σ12.1), some (vi 0), some (vi 0)]) rfl rfl (by decide) rfl ?_
            obtain ⟨o34, hb_j32⟩ := h
            have nlt_j32 := ix_lt (σ30.2.1 kPayments 0)
            have L149_44 : ∀ (m_j32 j32 : Nat), j32 + m_j32 = ix (σ30.2.1 kPayments 0) → ∀ (σ33 : Int32 × Mem), iter (b149_X12_clears) (0, σ30) j32 = σ33 → BW O G fdX12_clears 0 0 (QV O G 0 0 PP) σ33.2 149 [some (vr 12 0), some (vi σ12.1), some (vi σ33.1), some (vi (nI j32))] [] := by
              intro m_j32
              induction m_j32 with
              | zero =>
                intro j32 hj_j32 σ33 eσ33
                have o34 := o34 j32 (by omega) σ33 eσ33
                have hn_j32 : j32 = ix (σ30.2.1 kPayments 0) := by omega
                rw [hn_j32] at eσ33
                refine a_iload_n (pc := 149) 1 41 rfl rfl ?_
                refine a_aload_n (pc := 150) 1 42 rfl rfl ?_
                refine g_12_payments (pc := 151) 1 43 rfl fl_X12_187 ?_
                refine a_icmp_ge_t (pc := 154) (tgt := 180) 1 44 rfl (by decide) (bd_t (o34) (by omega)) ?_
                refine a_iload_n (pc := 180) 2 8 rfl rfl ?_
                exact a_iret (pc := 181) 2 9 rfl rfl (hP _ _ (by unfold f_X12_clears; exact (lt_eq eσ2).trans ((lt_eq eS10).trans ((lt_eq ev11).trans ((lt_eq eσ12).trans ((lt_eq eσ30).trans (lt_eq eσ33)))))))
              | succ m_j32 ih_j32 =>
                intro j32 hj_j32 σ33 eσ33
                have o34 := o34 j32 (by omega) σ33 eσ33
                have h := hb_j32 j32 (by omega) σ33 eσ33
                refine a_iload_n (pc := 149) 1 41 rfl rfl ?_
                refine a_aload_n (pc := 150) 1 42 rfl rfl ?_
                refine g_12_payments (pc := 151) 1 43 rfl fl_X12_187 ?_
                refine a_icmp_ge_f (pc := 154) (tgt := 180) 1 44 rfl (bd_f (o34) (by omega)) (by decide) ?_
                refine a_aload_n (pc := 157) 1 45 rfl rfl ?_
                refine g_12_areChosen (pc := 158) 1 46 rfl fl_X12_111 ?_
                refine a_iload_n (pc := 161) 1 47 rfl rfl ?_
                obtain ⟨o35, h⟩ := h
                refine e_55 (pc := 162) 2 0 (j32) rfl rfl o35 ?_
                have J174_45 : ∀ (v39 : Int32) (ev39 : (if (σ33.2.2.1 kAreChosen j32) = 0 then (σ33.1) else (lt (f_X12_finishes σ33.2 (nI j32)) (fun (S38 : Mem) => σ33.1 + 1))) = v39) (S40 : Mem) (eS40 : (if (σ33.2.2.1 kAreChosen j32) = 0 then (σ33.2) else (lt (f_X12_finishes σ33.2 (nI j32)) (fun (S38 : Mem) => S38))) = S40), BW O G fdX12_clears 0 0 (QV O G 0 0 PP) S40 174 [some (vr 12 0), some (vi σ12.1), some (vi v39), some (vi (nI j32))] [] := by
                  intro v39 ev39 S40 eS40
                  refine a_iinc (pc := 174) 2 6 (v := nI (j32 + 1)) (ls2 := [some (vr 12 0), some (vi σ12.1), some (vi v39), some (vi (nI (j32 + 1)))]) rfl rfl (iinc1 _) (by decide) rfl ?_
                  refine a_goto (pc := 177) (tgt := 149) 2 7 rfl (by decide) ?_
                  exact ih_j32 (j32 + 1) (by omega) (v39, S40) (by rw [iter_succ, eσ33]; unfold b149_X12_clears; exact ((lt_eq ev39).trans (lt_eq eS40)))
                refine a_if_eq (pc := 163) (tgt := 174) 2 1 rfl (by decide) (fun c163_35 => ?_) (fun c163_35 => ?_)
                · exact J174_45 _ (by exact (if_pos c163_35)) _ (by exact (if_pos c163_35))
                · have h := h c163_35
                  refine a_aload_n (pc := 166) 2 2 rfl rfl ?_
                  refine a_iload_n (pc := 167) 2 3 rfl rfl ?_
                  have o37 := h
                  refine a_callVv (pc := 168) 2 4 (c_X12_finishes (S := σ33.2) (nI j32) o37) rfl cv_X12_208 (by decide) rfl rfl rfl (rm rfl) ?_
                  refine a_set (fun S38 eS38 => ?_)
                  refine a_iinc (pc := 171) 2 5 (v := σ33.1 + 1) (ls2 := [some (vr 12 0), some (vi σ12.1), some (vi (σ33.1 + 1)), some (vi (nI j32))]) rfl rfl rfl (by decide) rfl ?_
                  exact J174_45 _ (by exact ((if_neg c163_35).trans (lt_eq eS38))) _ (by exact ((if_neg c163_35).trans (lt_eq eS38)))
            exact L149_44 (ix (σ30.2.1 kPayments 0)) 0 (by omega) (0, σ30) rfl
          | succ m_j29 ih_j29 =>
            intro j29 hj_j29 σ30 eσ30
            refine a_iload_n (pc := 119) 1 21 rfl rfl ?_
            refine a_iconst (pc := 120) 1 22 (v := nI 4) rfl (by decide) ?_
            refine a_icmp_ge_f (pc := 121) (tgt := 145) 1 23 rfl (nI_ge (by omega) (by omega)) (by decide) ?_
            refine a_aload_n (pc := 124) 1 24 rfl rfl ?_
            refine g_12_reserves (pc := 125) 1 25 rfl fl_X12_50 ?_
            refine a_iload_n (pc := 128) 1 26 rfl rfl ?_
            refine a_dup2 (pc := 129) 1 27 rfl rfl rfl ?_
            refine e_35 (pc := 130) 1 28 (j29) rfl rfl (by omega) ?_
            refine a_aload_n (pc := 131) 1 29 rfl rfl ?_
            refine g_12_nets (pc := 132) 1 30 rfl fl_X12_69 ?_
            refine a_iload_n (pc := 135) 1 31 rfl rfl ?_
            refine e_41 (pc := 136) 1 32 (j29) rfl rfl (by omega) ?_
            refine a_iadd (pc := 137) 1 33 rfl ?_
            refine s_35 (pc := 138) 1 34 (j29) rfl rfl (by omega) ?_
            refine a_set (fun S31 eS31 => ?_)
            refine a_iinc (pc := 139) 1 35 (v := nI (j29 + 1)) (ls2 := [some (vr 12 0), some (vi σ12.1), some (vi (nI (j29 + 1))), none]) rfl rfl (iinc1 _) (by decide) rfl ?_
            refine a_goto (pc := 142) (tgt := 119) 1 36 rfl (by decide) ?_
            exact ih_j29 (j29 + 1) (by omega) S31 (by rw [iter_succ, eσ30]; unfold b119_X12_clears; exact (lt_eq eS31))
        exact L119_43 (4) 0 (by omega) σ12.2 rfl
      have L45_42 : ∀ (m_j13 j13 : Nat), j13 + m_j13 = 201 → ∀ (σ12 : Int32 × Mem), iterE (b45_X12_clears) (v11, S10) j13 = .inl σ12 → BW O G fdX12_clears 0 0 (QV O G 0 0 PP) σ12.2 45 [some (vr 12 0), some (vi σ12.1), none, none] [] := by
        intro m_j13
        induction m_j13 with
        | zero =>
          intro j13 hj_j13 σ12 eσ12
          obtain ⟨r9, h9⟩ := hf_j13
          rw [show j13 = 201 by omega, h9] at eσ12
          cases eσ12
        | succ m_j13 ih_j13 =>
          intro j13 hj_j13 σ12 eσ12
          have h := hb_j13 j13 (by omega) σ12 eσ12
          refine a_iload_n (pc := 45) 0 25 rfl rfl ?_
          refine a_iconst (pc := 46) 0 26 (v := (-1)) rfl (by decide) ?_
          refine a_icmp_eq (pc := 47) (tgt := 117) 0 27 rfl (by decide) (fun c47_13 => ?_) (fun c47_13 => ?_)
          · exact E45_41 (σ12.1, σ12.2) (by have e9 := iterE_stop (r := (σ12.1, σ12.2)) eσ12 (by unfold b45_X12_clears; exact (if_pos c47_13)) (201) (by omega); rw [e9]; rfl)
          · have h := h c47_13
            refine a_iconst (pc := 50) 0 28 (v := (-1)) rfl (by decide) ?_
            refine a_istore_n (pc := 51) 0 29 (ls2 := [some (vr 12 0), some (vi σ12.1), some (vi (-1)), none]) rfl rfl (by decide) rfl ?_
            refine a_iconst (pc := 52) 0 30 (v := 0) rfl (by decide) ?_
            refine a_istore_n (pc := 53) 0 31 (ls2 := [some (vr 12 0), some (vi σ12.1), some (vi (-1)), some (vi 0)]) rfl rfl (by decide) rfl ?_
            obtain ⟨o17, hb_j15, h⟩ := h
            have nlt_j15 := ix_lt (σ12.2.2.1 kPayments 0)
            have L54_46 : ∀ (m_j15 j15 : Nat), j15 + m_j15 = ix (σ12.2.2.1 kPayments 0) → ∀ (σ16 : Int32), iter (b54_X12_clears σ12) (-1) j15 = σ16 → BW O G fdX12_clears 0 0 (QV O G 0 0 PP) σ12.2 54 [some (vr 12 0), some (vi σ12.1), some (vi σ16), some (vi (nI j15))] [] := by
              intro m_j15
              induction m_j15 with
              | zero =>
                intro j15 hj_j15 σ16 eσ16
                have o17 := o17 j15 (by omega) σ16 eσ16
                have hn_j15 : j15 = ix (σ12.2.2.1 kPayments 0) := by omega
                rw [hn_j15] at eσ16
                have h := h σ16 eσ16
                refine a_iload_n (pc := 54) 0 32 rfl rfl ?_
                refine a_aload_n (pc := 55) 0 33 rfl rfl ?_
                refine g_12_payments (pc := 56) 0 34 rfl fl_X12_187 ?_
                refine a_icmp_ge_t (pc := 59) (tgt := 98) 0 35 rfl (by decide) (bd_t (o17) (by omega)) ?_
                refine a_aload_n (pc := 98) 1 8 rfl rfl ?_
                refine g_12_areChosen (pc := 99) 1 9 rfl fl_X12_111 ?_
                refine a_iload_n (pc := 102) 1 10 rfl rfl ?_
                refine a_iconst (pc := 103) 1 11 (v := 0) rfl (by decide) ?_
                obtain ⟨o24, h⟩ := h
                refine s_55 (pc := 104) 1 12 (ix σ16) rfl o24.1 o24.2 (Or.inl rfl) ?_
                refine a_set (fun S25 eS25 => ?_)
                have h := h S25 eS25
                refine a_aload_n (pc := 105) 1 13 rfl rfl ?_
                have o26 := h
                refine a_callVv (pc := 106) 1 14 (c_X12_laysNets (S := S25)  o26) rfl cv_X12_219 (by decide) rfl rfl rfl (rm rfl) ?_
                refine a_set (fun S27 eS27 => ?_)
                refine a_aload_n (pc := 109) 1 15 rfl rfl ?_
                refine a_callVi (pc := 110) 1 16 (c_X12_worstBank (S := S27) ) rfl cv_X12_222 (by decide) rfl rfl rfl (rm rfl) ?_
                refine a_seti (fun v28 ev28 => ?_)
                refine a_istore_n (pc := 113) 1 17 (ls2 := [some (vr 12 0), some (vi v28), some (vi σ16), some (vi (nI j15))]) rfl rfl (by decide) rfl ?_
                refine a_goto (pc := 114) (tgt := 45) 1 18 rfl (by decide) ?_
                refine a_drop (ls2 := [some (vr 12 0), some (vi v28), none, none]) (⟨rfl, rfl, trivial⟩) ?_
                exact ih_j13 (j13 + 1) (by omega) (v28, S27) (iterE_go eσ12 (by unfold b45_X12_clears; exact ((if_neg c47_13).trans ((lt_eq eσ16).trans ((lt_eq eS25).trans ((lt_eq eS27).trans (lt_eq ev28)))))))
              | succ m_j15 ih_j15 =>
                intro j15 hj_j15 σ16 eσ16
                have o17 := o17 j15 (by omega) σ16 eσ16
                have h := hb_j15 j15 (by omega) σ16 eσ16
                refine a_iload_n (pc := 54) 0 32 rfl rfl ?_
                refine a_aload_n (pc := 55) 0 33 rfl rfl ?_
                refine g_12_payments (pc := 56) 0 34 rfl fl_X12_187 ?_
                refine a_icmp_ge_f (pc := 59) (tgt := 98) 0 35 rfl (bd_f (o17) (by omega)) (by decide) ?_
                refine a_aload_n (pc := 62) 0 36 rfl rfl ?_
                refine g_12_areChosen (pc := 63) 0 37 rfl fl_X12_111 ?_
                refine a_iload_n (pc := 66) 0 38 rfl rfl ?_
                obtain ⟨o18, h⟩ := h
                refine e_55 (pc := 67) 0 39 (j15) rfl rfl o18 ?_
                have J91_47 : ∀ (v23 : Int32) (ev23 : (if (σ12.2.2.1 kAreChosen j15) = 0 then (σ16) else (if (σ12.2.2.1 kBankOf (ix (σ12.2.2.1 kFroms j15))) = σ12.1 then (nI j15) else (σ16))) = v23), BW O G fdX12_clears 0 0 (QV O G 0 0 PP) σ12.2 91 [some (vr 12 0), some (vi σ12.1), some (vi σ16), some (vi (nI j15))] [vi v23] := by
                  intro v23 ev23
                  refine a_istore_n (pc := 91) 1 5 (ls2 := [some (vr 12 0), some (vi σ12.1), some (vi v23), some (vi (nI j15))]) rfl rfl (by decide) rfl ?_
                  refine a_iinc (pc := 92) 1 6 (v := nI (j15 + 1)) (ls2 := [some (vr 12 0), some (vi σ12.1), some (vi v23), some (vi (nI (j15 + 1)))]) rfl rfl (iinc1 _) (by decide) rfl ?_
                  refine a_goto (pc := 95) (tgt := 54) 1 7 rfl (by decide) ?_
                  exact ih_j15 (j15 + 1) (by omega) v23 (by rw [iter_succ, eσ16]; unfold b54_X12_clears; exact (lt_eq ev23))
                refine a_if_eq (pc := 68) (tgt := 90) 0 40 rfl (by decide) (fun c68_18 => ?_) (fun c68_18 => ?_)
                · refine a_iload_n (pc := 90) 1 4 rfl rfl ?_
                  exact J91_47 _ (by exact (if_pos c68_18))
                · have h := h c68_18
                  refine a_aload_n (pc := 71) 0 41 rfl rfl ?_
                  refine g_12_bankOf (pc := 72) 0 42 rfl fl_X12_23 ?_
                  refine a_aload_n (pc := 75) 0 43 rfl rfl ?_
                  refine g_12_froms (pc := 76) 0 44 rfl fl_X12_90 ?_
                  refine a_iload_n (pc := 79) 0 45 rfl rfl ?_
                  obtain ⟨o20, h⟩ := h
                  refine e_48 (pc := 80) 0 46 (j15) rfl rfl o20 ?_
                  have o21 := h
                  refine e_26 (pc := 81) 0 47 (ix (σ12.2.2.1 kFroms j15)) rfl o21.1 o21.2 ?_
                  refine a_iload_n (pc := 82) 1 0 rfl rfl ?_
                  refine a_icmp_ne (pc := 83) (tgt := 90) 1 1 rfl (by decide) (fun c83_21 => ?_) (fun c83_21 => ?_)
                  · refine a_iload_n (pc := 90) 1 4 rfl rfl ?_
                    exact J91_47 _ (by exact ((if_neg c68_18).trans (if_neg c83_21)))
                  · refine a_iload_n (pc := 86) 1 2 rfl rfl ?_
                    refine a_goto (pc := 87) (tgt := 91) 1 3 rfl (by decide) ?_
                    exact J91_47 _ (by exact ((if_neg c68_18).trans (if_pos c83_21)))
            exact L54_46 (ix (σ12.2.2.1 kPayments 0)) 0 (by omega) (-1) rfl
      exact L45_42 (201) 0 (by omega) (v11, S10) rfl
    | succ m_j1 ih_j1 =>
      intro j1 hj_j1 σ2 eσ2
      have o3 := o3 j1 (by omega) σ2 eσ2
      have h := hb_j1 j1 (by omega) σ2 eσ2
      refine a_iload_n (pc := 2) 0 2 rfl rfl ?_
      refine a_aload_n (pc := 3) 0 3 rfl rfl ?_
      refine g_12_payments (pc := 4) 0 4 rfl fl_X12_187 ?_
      refine a_icmp_ge_f (pc := 7) (tgt := 36) 0 5 rfl (bd_f (o3) (by omega)) (by decide) ?_
      refine a_aload_n (pc := 10) 0 6 rfl rfl ?_
      refine g_12_areChosen (pc := 11) 0 7 rfl fl_X12_111 ?_
      refine a_iload_n (pc := 14) 0 8 rfl rfl ?_
      refine a_aload_n (pc := 15) 0 9 rfl rfl ?_
      refine g_12_states (pc := 16) 0 10 rfl fl_X12_99 ?_
      refine a_iload_n (pc := 19) 0 11 rfl rfl ?_
      obtain ⟨o4, h⟩ := h
      refine e_51 (pc := 20) 0 12 (j1) rfl rfl o4 ?_
      have J29_48 : ∀ (v6 : Int32) (ev6 : (if (σ2.2.1 kStates j1) = 0 then (1) else (0)) = v6), BW O G fdX12_clears 0 0 (QV O G 0 0 PP) σ2 29 [some (vr 12 0), some (vi (nI j1)), none, none] [vi v6, vi (nI j1), vr 55 0] := by
        intro v6 ev6
        have h := h v6 ev6
        have o7 := h
        refine s_55 (pc := 29) 0 17 (j1) rfl rfl o7 (by rw [← ev6]; repeat (first | exact Or.inl rfl | exact Or.inr rfl | assumption | split | dsimp only [lt])) ?_
        refine a_set (fun S8 eS8 => ?_)
        refine a_iinc (pc := 30) 0 18 (v := nI (j1 + 1)) (ls2 := [some (vr 12 0), some (vi (nI (j1 + 1))), none, none]) rfl rfl (iinc1 _) (by decide) rfl ?_
        refine a_goto (pc := 33) (tgt := 2) 0 19 rfl (by decide) ?_
        exact ih_j1 (j1 + 1) (by omega) S8 (by rw [iter_succ, eσ2]; unfold b2_X12_clears; exact ((lt_eq ev6).trans (lt_eq eS8)))
      refine a_if_ne (pc := 21) (tgt := 28) 0 13 rfl (by decide) (fun c21_4 => ?_) (fun c21_4 => ?_)
      · refine a_iconst (pc := 28) 0 16 (v := 0) rfl (by decide) ?_
        exact J29_48 _ (by exact (if_neg c21_4))
      · refine a_iconst (pc := 24) 0 14 (v := 1) rfl (by decide) ?_
        refine a_goto (pc := 25) (tgt := 29) 0 15 rfl (by decide) ?_
        exact J29_48 _ (by exact (if_pos c21_4))
  exact L2_40 (ix (S.2.1 kPayments 0)) 0 (by omega) S rfl
theorem c_X12_clears {S : Mem}    (h : ok_X12_clears S ) : Cts mdX12_clears 2 45 [vr 12 0] S (Is (some (vi (f_X12_clears S ).1)) ((f_X12_clears S ).2)) := Cts.of dtX12_clears (by decide +kernel) rfl rfl (Nat.le_of_ble_eq_true rfl) rfl (fun O G => w_X12_clears  h (fun _ _ h9 => ⟨by rw [h9], by rw [h9]⟩))
def f_X12_clear (S : Mem)  : Int32 × Mem := lt ((S.1, upd2 S.2.1 kThrown 0 0, S.2.2)) (fun (S1 : Mem) => lt ((f_X12_clears S1 ).2) (fun (S3 : Mem) => lt ((f_X12_clears S1 ).1) (fun (v4 : Int32) => (v4, S3))))
def ok_X12_clear (S : Mem)  : Prop := ((∀ S1 : Mem, ((S.1, upd2 S.2.1 kThrown 0 0, S.2.2)) = S1 → ((ok_X12_clears S1 ))))
abbrev fdX12_clear : FD := (mdX12_clear, [], 3, 68, 0, 0)
set_option maxRecDepth 100000 in
set_option maxHeartbeats 4000000 in
theorem w_X12_clear {O : Om} {G : Cx} {S : Mem} {PP : Option AV → Mem → Prop}    (h : ok_X12_clear S ) (hP : ∀ x9 S9, f_X12_clear S  = (x9, S9) → PP (some (vi x9)) S9) : BW O G fdX12_clear 0 0 (QV O G 0 0 PP) S 0 [some (vr 12 0)] [] := by
  refine a_aload_n (pc := 0) 0 0 rfl rfl ?_
  refine a_iconst (pc := 1) 0 1 (v := 0) rfl (by decide) ?_
  refine p_12_thrown (pc := 2) 0 2 rfl fl_X12_138 ?_
  refine a_set (fun S1 eS1 => ?_)
  have h := h S1 eS1
  refine a_aload_n (pc := 5) 0 3 rfl rfl ?_
  have o2 := h
  refine a_callVi (pc := 6) 0 4 (c_X12_clears (S := S1)  o2) rfl cv_X12_226 (by decide) rfl rfl rfl (rm rfl) ?_
  refine a_set (fun S3 eS3 => ?_)
  refine a_seti (fun v4 ev4 => ?_)
  exact a_iret (pc := 9) 0 5 rfl rfl (hP _ _ (by unfold f_X12_clear; exact (lt_eq eS1).trans ((lt_eq eS3).trans (lt_eq ev4))))
theorem c_X12_clear {S : Mem}    (h : ok_X12_clear S ) : Cts mdX12_clear 3 68 [vr 12 0] S (Is (some (vi (f_X12_clear S ).1)) ((f_X12_clear S ).2)) := Cts.of dtX12_clear (by decide +kernel) rfl rfl (Nat.le_of_ble_eq_true rfl) rfl (fun O G => w_X12_clear  h (fun _ _ h9 => ⟨by rw [h9], by rw [h9]⟩))
def b2_X12_nextBank (S : Mem) (j1 : Nat) (σ2 : Unit) : Unit ⊕ Int32 := if (S.2.1 kHaveFailed j1) = 0 then (.inr (nI j1)) else (.inl ())
def f_X12_nextBank (S : Mem)  : Int32 := matchE (iterE (b2_X12_nextBank S) () (4)) (fun (σ2 : Unit) => (-1))
abbrev fdX12_nextBank : FD := (mdX12_nextBank, [], 0, 0, 0, 0)
set_option maxRecDepth 100000 in
set_option maxHeartbeats 4000000 in
theorem w_X12_nextBank {O : Om} {G : Cx} {S : Mem} {PP : Option AV → Mem → Prop}    (hP : ∀ x9, f_X12_nextBank S  = x9 → PP (some (vi x9)) S) : BW O G fdX12_nextBank 0 0 (QV O G 0 0 PP) S 0 [some (vr 12 0), none] [] := by
  refine a_iconst (pc := 0) 0 0 (v := 0) rfl (by decide) ?_
  refine a_istore_n (pc := 1) 0 1 (ls2 := [some (vr 12 0), some (vi 0)]) rfl rfl (by decide) rfl ?_
  have L2_3 : ∀ (m_j1 j1 : Nat), j1 + m_j1 = 4 → ∀ (σ2 : Unit), iterE (b2_X12_nextBank S) () j1 = .inl σ2 → BW O G fdX12_nextBank 0 0 (QV O G 0 0 PP) S 2 [some (vr 12 0), some (vi (nI j1))] [] := by
    intro m_j1
    induction m_j1 with
    | zero =>
      intro j1 hj_j1 σ2 eσ2
      have hn_j1 : j1 = 4 := by omega
      rw [hn_j1] at eσ2
      refine a_iload_n (pc := 2) 0 2 rfl rfl ?_
      refine a_iconst (pc := 3) 0 3 (v := nI 4) rfl (by decide) ?_
      refine a_icmp_ge_t (pc := 4) (tgt := 24) 0 4 rfl (by decide) (nI_le (by omega) (by omega)) ?_
      refine a_iconst (pc := 24) 0 14 (v := (-1)) rfl (by decide) ?_
      exact a_iret (pc := 25) 0 15 rfl rfl (hP _ (by unfold f_X12_nextBank; exact matchE_l eσ2))
    | succ m_j1 ih_j1 =>
      intro j1 hj_j1 σ2 eσ2
      refine a_iload_n (pc := 2) 0 2 rfl rfl ?_
      refine a_iconst (pc := 3) 0 3 (v := nI 4) rfl (by decide) ?_
      refine a_icmp_ge_f (pc := 4) (tgt := 24) 0 4 rfl (nI_ge (by omega) (by omega)) (by decide) ?_
      refine a_aload_n (pc := 7) 0 5 rfl rfl ?_
      refine g_12_haveFailed (pc := 8) 0 6 rfl fl_X12_62 ?_
      refine a_iload_n (pc := 11) 0 7 rfl rfl ?_
      refine e_39 (pc := 12) 0 8 (j1) rfl rfl (by omega) ?_
      refine a_if_ne (pc := 13) (tgt := 18) 0 9 rfl (by decide) (fun c13_2 => ?_) (fun c13_2 => ?_)
      · refine a_iinc (pc := 18) 0 12 (v := nI (j1 + 1)) (ls2 := [some (vr 12 0), some (vi (nI (j1 + 1)))]) rfl rfl (iinc1 _) (by decide) rfl ?_
        refine a_goto (pc := 21) (tgt := 2) 0 13 rfl (by decide) ?_
        exact ih_j1 (j1 + 1) (by omega) () (iterE_go eσ2 (by unfold b2_X12_nextBank; exact (if_neg c13_2)))
      · refine a_iload_n (pc := 16) 0 10 rfl rfl ?_
        exact a_iret (pc := 17) 0 11 rfl rfl (hP _ (by unfold f_X12_nextBank; exact matchE_r (iterE_stop eσ2 (by unfold b2_X12_nextBank; exact (if_pos c13_2)) (4) (by omega))))
  exact L2_3 (4) 0 (by omega) () rfl
theorem c_X12_nextBank {S : Mem}    : Cts mdX12_nextBank 0 0 [vr 12 0] S (Is (some (vi (f_X12_nextBank S ))) (S)) := Cts.of dtX12_nextBank (by decide +kernel) rfl rfl (Nat.le_of_ble_eq_true rfl) rfl (fun O G => w_X12_nextBank  (fun _ h9 => ⟨by rw [h9], rfl⟩))
def b2_X12_takesBack (p1 : Int32) (j1 : Nat) (σ2 : Mem) : Mem := lt (if (σ2.2.1 kStates j1) = 0 then (if (σ2.2.1 kBankOf (ix (σ2.2.1 kFroms j1))) = p1 then (lt ((σ2.1, upd2 σ2.2.1 kStates j1 (nI 2), σ2.2.2)) (fun (S10 : Mem) => lt ((S10.1, upd2 S10.2.1 kBlocked (ix (S10.2.1 kFroms j1)) ((S10.2.1 kBlocked (ix (S10.2.1 kFroms j1))) - (S10.2.1 kAmounts j1)), S10.2.2)) (fun (S15 : Mem) => S15))) else (if (σ2.2.1 kBankOf (ix (σ2.2.1 kTos j1))) = p1 then (lt ((σ2.1, upd2 σ2.2.1 kStates j1 (nI 2), σ2.2.2)) (fun (S20 : Mem) => lt ((S20.1, upd2 S20.2.1 kBlocked (ix (S20.2.1 kFroms j1)) ((S20.2.1 kBlocked (ix (S20.2.1 kFroms j1))) - (S20.2.1 kAmounts j1)), S20.2.2)) (fun (S25 : Mem) => S25))) else (σ2))) else (σ2)) (fun (S26 : Mem) => S26)
def b86_X12_takesBack (p1 : Int32) (j27 : Nat) (σ28 : Int32 × Mem) : Int32 × Mem := lt (if (σ28.2.2.1 kBidBanks j27) = p1 then (σ28.1) else (lt ((σ28.2.1, upd2 σ28.2.2.1 kBidBanks (ix σ28.1) (σ28.2.2.1 kBidBanks j27), σ28.2.2.2)) (fun (S34 : Mem) => lt ((S34.1, upd2 S34.2.1 kBidPrices (ix σ28.1) (S34.2.1 kBidPrices j27), S34.2.2)) (fun (S37 : Mem) => lt ((S37.1, upd2 S37.2.1 kBidNumbers (ix σ28.1) (S37.2.1 kBidNumbers j27), S37.2.2)) (fun (S40 : Mem) => σ28.1 + 1))))) (fun (v41 : Int32) => lt (if (σ28.2.2.1 kBidBanks j27) = p1 then (σ28.2) else (lt ((σ28.2.1, upd2 σ28.2.2.1 kBidBanks (ix σ28.1) (σ28.2.2.1 kBidBanks j27), σ28.2.2.2)) (fun (S34 : Mem) => lt ((S34.1, upd2 S34.2.1 kBidPrices (ix σ28.1) (S34.2.1 kBidPrices j27), S34.2.2)) (fun (S37 : Mem) => lt ((S37.1, upd2 S37.2.1 kBidNumbers (ix σ28.1) (S37.2.1 kBidNumbers j27), S37.2.2)) (fun (S40 : Mem) => S40))))) (fun (S42 : Mem) => (v41, S42)))
def f_X12_takesBack (S : Mem) (p1 : Int32) : Mem := lt (iter (b2_X12_takesBack p1) S (ix (S.2.1 kPayments 0))) (fun (σ2 : Mem) => lt (iter (b86_X12_takesBack p1) (0, σ2) (ix (σ2.2.1 kBids 0))) (fun (σ28 : Int32 × Mem) => lt ((σ28.2.1, upd2 σ28.2.2.1 kBids 0 σ28.1, σ28.2.2.2)) (fun (S43 : Mem) => S43)))
def ok_X12_takesBack (S : Mem) (p1 : Int32) : Prop := ((∀ j1 : Nat, j1 ≤ ix (S.2.1 kPayments 0) → ∀ σ2 : Mem, iter (b2_X12_takesBack p1) S j1 = σ2 → σ2.2.1 kPayments 0 = nI (ix (S.2.1 kPayments 0))) ∧ (∀ j1 : Nat, j1 < ix (S.2.1 kPayments 0) → ∀ σ2 : Mem, iter (b2_X12_takesBack p1) S j1 = σ2 → ((j1 < 200) ∧ (((σ2.2.1 kStates j1) = 0) → ((j1 < 200) ∧ (inb (σ2.2.1 kFroms j1) 16) ∧ (((σ2.2.1 kBankOf (ix (σ2.2.1 kFroms j1))) = p1) → ((j1 < 200) ∧ (∀ S10 : Mem, ((σ2.1, upd2 σ2.2.1 kStates j1 (nI 2), σ2.2.2)) = S10 → ((j1 < 200) ∧ (inb (S10.2.1 kFroms j1) 16) ∧ (j1 < 200) ∧ (inb (S10.2.1 kFroms j1) 16))))) ∧ ((¬ ((σ2.2.1 kBankOf (ix (σ2.2.1 kFroms j1))) = p1)) → ((j1 < 200) ∧ (inb (σ2.2.1 kTos j1) 16) ∧ (((σ2.2.1 kBankOf (ix (σ2.2.1 kTos j1))) = p1) → ((j1 < 200) ∧ (∀ S20 : Mem, ((σ2.1, upd2 σ2.2.1 kStates j1 (nI 2), σ2.2.2)) = S20 → ((j1 < 200) ∧ (inb (S20.2.1 kFroms j1) 16) ∧ (j1 < 200) ∧ (inb (S20.2.1 kFroms j1) 16))))))))))) ∧ (∀ σ2 : Mem, iter (b2_X12_takesBack p1) S (ix (S.2.1 kPayments 0)) = σ2 → ((∀ j27 : Nat, j27 ≤ ix (σ2.2.1 kBids 0) → ∀ σ28 : Int32 × Mem, iter (b86_X12_takesBack p1) (0, σ2) j27 = σ28 → σ28.2.2.1 kBids 0 = nI (ix (σ2.2.1 kBids 0))) ∧ (∀ j27 : Nat, j27 < ix (σ2.2.1 kBids 0) → ∀ σ28 : Int32 × Mem, iter (b86_X12_takesBack p1) (0, σ2) j27 = σ28 → ((j27 < 12) ∧ ((¬ ((σ28.2.2.1 kBidBanks j27) = p1)) → ((j27 < 12) ∧ (inb σ28.1 12) ∧ (∀ S34 : Mem, ((σ28.2.1, upd2 σ28.2.2.1 kBidBanks (ix σ28.1) (σ28.2.2.1 kBidBanks j27), σ28.2.2.2)) = S34 → ((j27 < 12) ∧ (inb σ28.1 12) ∧ (∀ S37 : Mem, ((S34.1, upd2 S34.2.1 kBidPrices (ix σ28.1) (S34.2.1 kBidPrices j27), S34.2.2)) = S37 → ((j27 < 12) ∧ (inb σ28.1 12))))))))))))
abbrev fdX12_takesBack : FD := (mdX12_takesBack, [], 0, 0, 0, 0)
set_option maxRecDepth 100000 in
set_option maxHeartbeats 4000000 in
theorem w_X12_takesBack {O : Om} {G : Cx} {S : Mem} {PP : Option AV → Mem → Prop} (p1 : Int32)   (h : ok_X12_takesBack S p1) (hP : ∀ S9, f_X12_takesBack S p1 = S9 → PP none S9) : BW O G fdX12_takesBack 0 0 (QV O G 0 0 PP) S 0 [some (vr 12 0), some (vi p1), none, none] [] := by
  refine a_iconst (pc := 0) 0 0 (v := 0) rfl (by decide) ?_
  refine a_istore_n (pc := 1) 0 1 (ls2 := [some (vr 12 0), some (vi p1), some (vi 0), none]) rfl rfl (by decide) rfl ?_
  obtain ⟨o3, hb_j1, h⟩ := h
  have nlt_j1 := ix_lt (S.2.1 kPayments 0)
  have L2_43 : ∀ (m_j1 j1 : Nat), j1 + m_j1 = ix (S.2.1 kPayments 0) → ∀ (σ2 : Mem), iter (b2_X12_takesBack p1) S j1 = σ2 → BW O G fdX12_takesBack 0 0 (QV O G 0 0 PP) σ2 2 [some (vr 12 0), some (vi p1), some (vi (nI j1)), none] [] := by
    intro m_j1
    induction m_j1 with
    | zero =>
      intro j1 hj_j1 σ2 eσ2
      have o3 := o3 j1 (by omega) σ2 eσ2
      have hn_j1 : j1 = ix (S.2.1 kPayments 0) := by omega
      rw [hn_j1] at eσ2
      have h := h σ2 eσ2
      refine a_iload_n (pc := 2) 0 2 rfl rfl ?_
      refine a_aload_n (pc := 3) 0 3 rfl rfl ?_
      refine g_12_payments (pc := 4) 0 4 rfl fl_X12_187 ?_
      refine a_icmp_ge_t (pc := 7) (tgt := 82) 0 5 rfl (by decide) (bd_t (o3) (by omega)) ?_
      refine a_iconst (pc := 82) 1 2 (v := 0) rfl (by decide) ?_
      refine a_istore_n (pc := 83) 1 3 (ls2 := [some (vr 12 0), some (vi p1), some (vi 0), none]) rfl rfl (by decide) rfl ?_
      refine a_iconst (pc := 84) 1 4 (v := 0) rfl (by decide) ?_
      refine a_istore_n (pc := 85) 1 5 (ls2 := [some (vr 12 0), some (vi p1), some (vi 0), some (vi 0)]) rfl rfl (by decide) rfl ?_
      obtain ⟨o29, hb_j27⟩ := h
      have nlt_j27 := ix_lt (σ2.2.1 kBids 0)
      have L86_44 : ∀ (m_j27 j27 : Nat), j27 + m_j27 = ix (σ2.2.1 kBids 0) → ∀ (σ28 : Int32 × Mem), iter (b86_X12_takesBack p1) (0, σ2) j27 = σ28 → BW O G fdX12_takesBack 0 0 (QV O G 0 0 PP) σ28.2 86 [some (vr 12 0), some (vi p1), some (vi σ28.1), some (vi (nI j27))] [] := by
        intro m_j27
        induction m_j27 with
        | zero =>
          intro j27 hj_j27 σ28 eσ28
          have o29 := o29 j27 (by omega) σ28 eσ28
          have hn_j27 : j27 = ix (σ2.2.1 kBids 0) := by omega
          rw [hn_j27] at eσ28
          refine a_iload_n (pc := 86) 1 6 rfl rfl ?_
          refine a_aload_n (pc := 87) 1 7 rfl rfl ?_
          refine g_12_bids (pc := 88) 1 8 rfl fl_X12_252 ?_
          refine a_icmp_ge_t (pc := 91) (tgt := 149) 1 9 rfl (by decide) (bd_t (o29) (by omega)) ?_
          refine a_aload_n (pc := 149) 1 43 rfl rfl ?_
          refine a_iload_n (pc := 150) 1 44 rfl rfl ?_
          refine p_12_bids (pc := 151) 1 45 rfl fl_X12_252 ?_
          refine a_set (fun S43 eS43 => ?_)
          exact a_vret (pc := 154) 1 46 rfl rfl (hP _ (by unfold f_X12_takesBack; exact (lt_eq eσ2).trans ((lt_eq eσ28).trans (lt_eq eS43))))
        | succ m_j27 ih_j27 =>
          intro j27 hj_j27 σ28 eσ28
          have o29 := o29 j27 (by omega) σ28 eσ28
          have h := hb_j27 j27 (by omega) σ28 eσ28
          refine a_iload_n (pc := 86) 1 6 rfl rfl ?_
          refine a_aload_n (pc := 87) 1 7 rfl rfl ?_
          refine g_12_bids (pc := 88) 1 8 rfl fl_X12_252 ?_
          refine a_icmp_ge_f (pc := 91) (tgt := 149) 1 9 rfl (bd_f (o29) (by omega)) (by decide) ?_
          refine a_aload_n (pc := 94) 1 10 rfl rfl ?_
          refine g_12_bidBanks (pc := 95) 1 11 rfl fl_X12_120 ?_
          refine a_iload_n (pc := 98) 1 12 rfl rfl ?_
          obtain ⟨o30, h⟩ := h
          refine e_58 (pc := 99) 1 13 (j27) rfl rfl o30 ?_
          refine a_iload_n (pc := 100) 1 14 rfl rfl ?_
          have J143_45 : ∀ (v41 : Int32) (ev41 : (if (σ28.2.2.1 kBidBanks j27) = p1 then (σ28.1) else (lt ((σ28.2.1, upd2 σ28.2.2.1 kBidBanks (ix σ28.1) (σ28.2.2.1 kBidBanks j27), σ28.2.2.2)) (fun (S34 : Mem) => lt ((S34.1, upd2 S34.2.1 kBidPrices (ix σ28.1) (S34.2.1 kBidPrices j27), S34.2.2)) (fun (S37 : Mem) => lt ((S37.1, upd2 S37.2.1 kBidNumbers (ix σ28.1) (S37.2.1 kBidNumbers j27), S37.2.2)) (fun (S40 : Mem) => σ28.1 + 1))))) = v41) (S42 : Mem) (eS42 : (if (σ28.2.2.1 kBidBanks j27) = p1 then (σ28.2) else (lt ((σ28.2.1, upd2 σ28.2.2.1 kBidBanks (ix σ28.1) (σ28.2.2.1 kBidBanks j27), σ28.2.2.2)) (fun (S34 : Mem) => lt ((S34.1, upd2 S34.2.1 kBidPrices (ix σ28.1) (S34.2.1 kBidPrices j27), S34.2.2)) (fun (S37 : Mem) => lt ((S37.1, upd2 S37.2.1 kBidNumbers (ix σ28.1) (S37.2.1 kBidNumbers j27), S37.2.2)) (fun (S40 : Mem) => S40))))) = S42), BW O G fdX12_takesBack 0 0 (QV O G 0 0 PP) S42 143 [some (vr 12 0), some (vi p1), some (vi v41), some (vi (nI j27))] [] := by
            intro v41 ev41 S42 eS42
            refine a_iinc (pc := 143) 1 41 (v := nI (j27 + 1)) (ls2 := [some (vr 12 0), some (vi p1), some (vi v41), some (vi (nI (j27 + 1)))]) rfl rfl (iinc1 _) (by decide) rfl ?_
            refine a_goto (pc := 146) (tgt := 86) 1 42 rfl (by decide) ?_
            exact ih_j27 (j27 + 1) (by omega) (v41, S42) (by rw [iter_succ, eσ28]; unfold b86_X12_takesBack; exact ((lt_eq ev41).trans (lt_eq eS42)))
          refine a_icmp_eq (pc := 101) (tgt := 143) 1 15 rfl (by decide) (fun c101_30 => ?_) (fun c101_30 => ?_)
          · exact J143_45 _ (by exact (if_pos c101_30)) _ (by exact (if_pos c101_30))
          · have h := h c101_30
            refine a_aload_n (pc := 104) 1 16 rfl rfl ?_
            refine g_12_bidBanks (pc := 105) 1 17 rfl fl_X12_120 ?_
            refine a_iload_n (pc := 108) 1 18 rfl rfl ?_
            refine a_aload_n (pc := 109) 1 19 rfl rfl ?_
            refine g_12_bidBanks (pc := 110) 1 20 rfl fl_X12_120 ?_
            refine a_iload_n (pc := 113) 1 21 rfl rfl ?_
            obtain ⟨o32, h⟩ := h
            refine e_58 (pc := 114) 1 22 (j27) rfl rfl o32 ?_
            obtain ⟨o33, h⟩ := h
            refine s_58 (pc := 115) 1 23 (ix σ28.1) rfl o33.1 o33.2 ?_
            refine a_set (fun S34 eS34 => ?_)
            have h := h S34 eS34
            refine a_aload_n (pc := 116) 1 24 rfl rfl ?_
            refine g_12_bidPrices (pc := 117) 1 25 rfl fl_X12_123 ?_
            refine a_iload_n (pc := 120) 1 26 rfl rfl ?_
            refine a_aload_n (pc := 121) 1 27 rfl rfl ?_
            refine g_12_bidPrices (pc := 122) 1 28 rfl fl_X12_123 ?_
            refine a_iload_n (pc := 125) 1 29 rfl rfl ?_
            obtain ⟨o35, h⟩ := h
            refine e_59 (pc := 126) 1 30 (j27) rfl rfl o35 ?_
            obtain ⟨o36, h⟩ := h
            refine s_59 (pc := 127) 1 31 (ix σ28.1) rfl o36.1 o36.2 ?_
            refine a_set (fun S37 eS37 => ?_)
            have h := h S37 eS37
            refine a_aload_n (pc := 128) 1 32 rfl rfl ?_
            refine g_12_bidNumbers (pc := 129) 1 33 rfl fl_X12_126 ?_
            refine a_iload_n (pc := 132) 1 34 rfl rfl ?_
            refine a_aload_n (pc := 133) 1 35 rfl rfl ?_
            refine g_12_bidNumbers (pc := 134) 1 36 rfl fl_X12_126 ?_
            refine a_iload_n (pc := 137) 1 37 rfl rfl ?_
            obtain ⟨o38, h⟩ := h
            refine e_60 (pc := 138) 1 38 (j27) rfl rfl o38 ?_
            have o39 := h
            refine s_60 (pc := 139) 1 39 (ix σ28.1) rfl o39.1 o39.2 ?_
            refine a_set (fun S40 eS40 => ?_)
            refine a_iinc (pc := 140) 1 40 (v := σ28.1 + 1) (ls2 := [some (vr 12 0), some (vi p1), some (vi (σ28.1 + 1)), some (vi (nI j27))]) rfl rfl rfl (by decide) rfl ?_
            exact J143_45 _ (by exact ((if_neg c101_30).trans ((lt_eq eS34).trans ((lt_eq eS37).trans (lt_eq eS40))))) _ (by exact ((if_neg c101_30).trans ((lt_eq eS34).trans ((lt_eq eS37).trans (lt_eq eS40)))))
      exact L86_44 (ix (σ2.2.1 kBids 0)) 0 (by omega) (0, σ2) rfl
    | succ m_j1 ih_j1 =>
      intro j1 hj_j1 σ2 eσ2
      have o3 := o3 j1 (by omega) σ2 eσ2
      have h := hb_j1 j1 (by omega) σ2 eσ2
      refine a_iload_n (pc := 2) 0 2 rfl rfl ?_
      refine a_aload_n (pc := 3) 0 3 rfl rfl ?_
      refine g_12_payments (pc := 4) 0 4 rfl fl_X12_187 ?_
      refine a_icmp_ge_f (pc := 7) (tgt := 82) 0 5 rfl (bd_f (o3) (by omega)) (by decide) ?_
      refine a_aload_n (pc := 10) 0 6 rfl rfl ?_
      refine g_12_states (pc := 11) 0 7 rfl fl_X12_99 ?_
      refine a_iload_n (pc := 14) 0 8 rfl rfl ?_
      obtain ⟨o4, h⟩ := h
      refine e_51 (pc := 15) 0 9 (j1) rfl rfl o4 ?_
      have J76_46 : ∀ (S26 : Mem) (eS26 : (if (σ2.2.1 kStates j1) = 0 then (if (σ2.2.1 kBankOf (ix (σ2.2.1 kFroms j1))) = p1 then (lt ((σ2.1, upd2 σ2.2.1 kStates j1 (nI 2), σ2.2.2)) (fun (S10 : Mem) => lt ((S10.1, upd2 S10.2.1 kBlocked (ix (S10.2.1 kFroms j1)) ((S10.2.1 kBlocked (ix (S10.2.1 kFroms j1))) - (S10.2.1 kAmounts j1)), S10.2.2)) (fun (S15 : Mem) => S15))) else (if (σ2.2.1 kBankOf (ix (σ2.2.1 kTos j1))) = p1 then (lt ((σ2.1, upd2 σ2.2.1 kStates j1 (nI 2), σ2.2.2)) (fun (S20 : Mem) => lt ((S20.1, upd2 S20.2.1 kBlocked (ix (S20.2.1 kFroms j1)) ((S20.2.1 kBlocked (ix (S20.2.1 kFroms j1))) - (S20.2.1 kAmounts j1)), S20.2.2)) (fun (S25 : Mem) => S25))) else (σ2))) else (σ2)) = S26), BW O G fdX12_takesBack 0 0 (QV O G 0 0 PP) S26 76 [some (vr 12 0), some (vi p1), some (vi (nI j1)), none] [] := by
        intro S26 eS26
        refine a_iinc (pc := 76) 1 0 (v := nI (j1 + 1)) (ls2 := [some (vr 12 0), some (vi p1), some (vi (nI (j1 + 1))), none]) rfl rfl (iinc1 _) (by decide) rfl ?_
        refine a_goto (pc := 79) (tgt := 2) 1 1 rfl (by decide) ?_
        exact ih_j1 (j1 + 1) (by omega) S26 (by rw [iter_succ, eσ2]; unfold b2_X12_takesBack; exact (lt_eq eS26))
      refine a_if_ne (pc := 16) (tgt := 76) 0 10 rfl (by decide) (fun c16_4 => ?_) (fun c16_4 => ?_)
      · exact J76_46 _ (by exact (if_neg c16_4))
      · have h := h c16_4
        refine a_aload_n (pc := 19) 0 11 rfl rfl ?_
        refine g_12_bankOf (pc := 20) 0 12 rfl fl_X12_23 ?_
        refine a_aload_n (pc := 23) 0 13 rfl rfl ?_
        refine g_12_froms (pc := 24) 0 14 rfl fl_X12_90 ?_
        refine a_iload_n (pc := 27) 0 15 rfl rfl ?_
        obtain ⟨o6, h⟩ := h
        refine e_48 (pc := 28) 0 16 (j1) rfl rfl o6 ?_
        obtain ⟨o7, h⟩ := h
        refine e_26 (pc := 29) 0 17 (ix (σ2.2.1 kFroms j1)) rfl o7.1 o7.2 ?_
        refine a_iload_n (pc := 30) 0 18 rfl rfl ?_
        refine a_icmp_eq (pc := 31) (tgt := 49) 0 19 rfl (by decide) (fun c31_7 => ?_) (fun c31_7 => ?_)
        · have h := h.1 c31_7
          refine a_aload_n (pc := 49) 0 29 rfl rfl ?_
          refine g_12_states (pc := 50) 0 30 rfl fl_X12_99 ?_
          refine a_iload_n (pc := 53) 0 31 rfl rfl ?_
          refine a_iconst (pc := 54) 0 32 (v := nI 2) rfl (by decide) ?_
          obtain ⟨o9, h⟩ := h
          refine s_51 (pc := 55) 0 33 (j1) rfl rfl o9 ?_
          refine a_set (fun S10 eS10 => ?_)
          have h := h S10 eS10
          refine a_aload_n (pc := 56) 0 34 rfl rfl ?_
          refine g_12_blocked (pc := 57) 0 35 rfl fl_X12_29 ?_
          refine a_aload_n (pc := 60) 0 36 rfl rfl ?_
          refine g_12_froms (pc := 61) 0 37 rfl fl_X12_90 ?_
          refine a_iload_n (pc := 64) 0 38 rfl rfl ?_
          obtain ⟨o11, h⟩ := h
          refine e_48 (pc := 65) 0 39 (j1) rfl rfl o11 ?_
          refine a_dup2 (pc := 66) 0 40 rfl rfl rfl ?_
          obtain ⟨o12, h⟩ := h
          refine e_28 (pc := 67) 0 41 (ix (S10.2.1 kFroms j1)) rfl o12.1 o12.2 ?_
          refine a_aload_n (pc := 68) 0 42 rfl rfl ?_
          refine g_12_amounts (pc := 69) 0 43 rfl fl_X12_96 ?_
          refine a_iload_n (pc := 72) 0 44 rfl rfl ?_
          obtain ⟨o13, h⟩ := h
          refine e_50 (pc := 73) 0 45 (j1) rfl rfl o13 ?_
          refine a_isub (pc := 74) 0 46 rfl ?_
          have o14 := h
          refine s_28 (pc := 75) 0 47 (ix (S10.2.1 kFroms j1)) rfl o14.1 o14.2 ?_
          refine a_set (fun S15 eS15 => ?_)
          exact J76_46 _ (by exact ((if_pos c16_4).trans ((if_pos c31_7).trans ((lt_eq eS10).trans (lt_eq eS15)))))
        · have h := h.2 c31_7
          refine a_aload_n (pc := 34) 0 20 rfl rfl ?_
          refine g_12_bankOf (pc := 35) 0 21 rfl fl_X12_23 ?_
          refine a_aload_n (pc := 38) 0 22 rfl rfl ?_
          refine g_12_tos (pc := 39) 0 23 rfl fl_X12_93 ?_
          refine a_iload_n (pc := 42) 0 24 rfl rfl ?_
          obtain ⟨o16, h⟩ := h
          refine e_49 (pc := 43) 0 25 (j1) rfl rfl o16 ?_
          obtain ⟨o17, h⟩ := h
          refine e_26 (pc := 44) 0 26 (ix (σ2.2.1 kTos j1)) rfl o17.1 o17.2 ?_
          refine a_iload_n (pc := 45) 0 27 rfl rfl ?_
          refine a_icmp_ne (pc := 46) (tgt := 76) 0 28 rfl (by decide) (fun c46_17 => ?_) (fun c46_17 => ?_)
          · exact J76_46 _ (by exact ((if_pos c16_4).trans ((if_neg c31_7).trans (if_neg c46_17))))
          · have h := h c46_17
            refine a_aload_n (pc := 49) 0 29 rfl rfl ?_
            refine g_12_states (pc := 50) 0 30 rfl fl_X12_99 ?_
            refine a_iload_n (pc := 53) 0 31 rfl rfl ?_
            refine a_iconst (pc := 54) 0 32 (v := nI 2) rfl (by decide) ?_
            obtain ⟨o19, h⟩ := h
            refine s_51 (pc := 55) 0 33 (j1) rfl rfl o19 ?_
            refine a_set (fun S20 eS20 => ?_)
            have h := h S20 eS20
            refine a_aload_n (pc := 56) 0 34 rfl rfl ?_
            refine g_12_blocked (pc := 57) 0 35 rfl fl_X12_29 ?_
            refine a_aload_n (pc := 60) 0 36 rfl rfl ?_
            refine g_12_froms (pc := 61) 0 37 rfl fl_X12_90 ?_
            refine a_iload_n (pc := 64) 0 38 rfl rfl ?_
            obtain ⟨o21, h⟩ := h
            refine e_48 (pc := 65) 0 39 (j1) rfl rfl o21 ?_
            refine a_dup2 (pc := 66) 0 40 rfl rfl rfl ?_
            obtain ⟨o22, h⟩ := h
            refine e_28 (pc := 67) 0 41 (ix (S20.2.1 kFroms j1)) rfl o22.1 o22.2 ?_
            refine a_aload_n (pc := 68) 0 42 rfl rfl ?_
            refine g_12_amounts (pc := 69) 0 43 rfl fl_X12_96 ?_
            refine a_iload_n (pc := 72) 0 44 rfl rfl ?_
            obtain ⟨o23, h⟩ := h
            refine e_50 (pc := 73) 0 45 (j1) rfl rfl o23 ?_
            refine a_isub (pc := 74) 0 46 rfl ?_
            have o24 := h
            refine s_28 (pc := 75) 0 47 (ix (S20.2.1 kFroms j1)) rfl o24.1 o24.2 ?_
            refine a_set (fun S25 eS25 => ?_)
            exact J76_46 _ (by exact ((if_pos c16_4).trans ((if_neg c31_7).trans ((if_pos c46_17).trans ((lt_eq eS20).trans (lt_eq eS25))))))
  exact L2_43 (ix (S.2.1 kPayments 0)) 0 (by omega) S rfl
theorem c_X12_takesBack {S : Mem} (p1 : Int32)   (h : ok_X12_takesBack S p1) : Cts mdX12_takesBack 0 0 [vr 12 0, vi p1] S (Is none (f_X12_takesBack S p1)) := Cts.of dtX12_takesBack (by decide +kernel) rfl rfl (Nat.le_of_ble_eq_true rfl) rfl (fun O G => w_X12_takesBack p1 h (fun _ h9 => ⟨rfl, h9.symm⟩))
def b2_X12_takesOver (p1 : Int32) (j1 : Nat) (σ2 : Mem) : Mem := lt ((σ2.1, upd2 σ2.2.1 kBonds (ix (((nI 5) * (nI j1)) + (nI 4))) ((σ2.2.1 kBonds (ix (((nI 5) * (nI j1)) + (nI 4)))) + (σ2.2.1 kBonds (ix (((nI 5) * (nI j1)) + p1)))), σ2.2.2)) (fun (S7 : Mem) => lt ((S7.1, upd2 S7.2.1 kBonds (ix (((nI 5) * (nI j1)) + p1)) 0, S7.2.2)) (fun (S9 : Mem) => S9))
def b52_X12_takesOver (p1 : Int32) (j10 : Nat) (σ11 : Mem) : Mem := lt (if (σ11.2.1 kLoanBanks j10) = p1 then (nI 4) else (σ11.2.1 kLoanBanks j10)) (fun (v16 : Int32) => lt ((σ11.1, upd2 σ11.2.1 kLoanBanks j10 v16, σ11.2.2)) (fun (S18 : Mem) => S18))
def f_X12_takesOver (S : Mem) (p1 : Int32) : Mem := lt (iter (b2_X12_takesOver p1) S (ix (S.2.1 kAuctions 0))) (fun (σ2 : Mem) => lt (iter (b52_X12_takesOver p1) σ2 (ix (σ2.2.1 kLoans 0))) (fun (σ11 : Mem) => lt ((σ11.1, upd2 σ11.2.1 kReserves (ix p1) 0, σ11.2.2)) (fun (S20 : Mem) => lt ((S20.1, upd2 S20.2.1 kVaults (ix p1) 0, S20.2.2)) (fun (S22 : Mem) => lt ((S22.1, upd2 S22.2.1 kLent (ix p1) 0, S22.2.2)) (fun (S24 : Mem) => lt ((S24.1, upd2 S24.2.1 kAreShort (ix p1) 0, S24.2.2)) (fun (S26 : Mem) => lt ((S26.1, upd2 S26.2.1 kHaveFailed (ix p1) 1, S26.2.2)) (fun (S28 : Mem) => S28)))))))
def ok_X12_takesOver (S : Mem) (p1 : Int32) : Prop := ((∀ j1 : Nat, j1 ≤ ix (S.2.1 kAuctions 0) → ∀ σ2 : Mem, iter (b2_X12_takesOver p1) S j1 = σ2 → σ2.2.1 kAuctions 0 = nI (ix (S.2.1 kAuctions 0))) ∧ (∀ j1 : Nat, j1 < ix (S.2.1 kAuctions 0) → ∀ σ2 : Mem, iter (b2_X12_takesOver p1) S j1 = σ2 → ((inb (((nI 5) * (nI j1)) + (nI 4)) 100) ∧ (inb (((nI 5) * (nI j1)) + p1) 100) ∧ (inb (((nI 5) * (nI j1)) + (nI 4)) 100) ∧ (∀ S7 : Mem, ((σ2.1, upd2 σ2.2.1 kBonds (ix (((nI 5) * (nI j1)) + (nI 4))) ((σ2.2.1 kBonds (ix (((nI 5) * (nI j1)) + (nI 4)))) + (σ2.2.1 kBonds (ix (((nI 5) * (nI j1)) + p1)))), σ2.2.2)) = S7 → ((inb (((nI 5) * (nI j1)) + p1) 100))))) ∧ (∀ σ2 : Mem, iter (b2_X12_takesOver p1) S (ix (S.2.1 kAuctions 0)) = σ2 → ((∀ j10 : Nat, j10 ≤ ix (σ2.2.1 kLoans 0) → ∀ σ11 : Mem, iter (b52_X12_takesOver p1) σ2 j10 = σ11 → σ11.2.1 kLoans 0 = nI (ix (σ2.2.1 kLoans 0))) ∧ (∀ j10 : Nat, j10 < ix (σ2.2.1 kLoans 0) → ∀ σ11 : Mem, iter (b52_X12_takesOver p1) σ2 j10 = σ11 → ((j10 < 20) ∧ ((¬ ((σ11.2.1 kLoanBanks j10) = p1)) → ((j10 < 20))) ∧ (∀ v16 : Int32, (if (σ11.2.1 kLoanBanks j10) = p1 then (nI 4) else (σ11.2.1 kLoanBanks j10)) = v16 → ((j10 < 20))))) ∧ (∀ σ11 : Mem, iter (b52_X12_takesOver p1) σ2 (ix (σ2.2.1 kLoans 0)) = σ11 → ((inb p1 4) ∧ (∀ S20 : Mem, ((σ11.1, upd2 σ11.2.1 kReserves (ix p1) 0, σ11.2.2)) = S20 → ((inb p1 4) ∧ (∀ S22 : Mem, ((S20.1, upd2 S20.2.1 kVaults (ix p1) 0, S20.2.2)) = S22 → ((inb p1 4) ∧ (∀ S24 : Mem, ((S22.1, upd2 S22.2.1 kLent (ix p1) 0, S22.2.2)) = S24 → ((inb p1 4) ∧ (∀ S26 : Mem, ((S24.1, upd2 S24.2.1 kAreShort (ix p1) 0, S24.2.2)) = S26 → ((inb p1 4))))))))))))))
abbrev fdX12_takesOver : FD := (mdX12_takesOver, [], 0, 0, 0, 0)
set_option maxRecDepth 100000 in
set_option maxHeartbeats 4000000 in
theorem w_X12_takesOver {O : Om} {G : Cx} {S : Mem} {PP : Option AV → Mem → Prop} (p1 : Int32)   (h : ok_X12_takesOver S p1) (hP : ∀ S9, f_X12_takesOver S p1 = S9 → PP none S9) : BW O G fdX12_takesOver 0 0 (QV O G 0 0 PP) S 0 [some (vr 12 0), some (vi p1), none] [] := by
  refine a_iconst (pc := 0) 0 0 (v := 0) rfl (by decide) ?_
  refine a_istore_n (pc := 1) 0 1 (ls2 := [some (vr 12 0), some (vi p1), some (vi 0)]) rfl rfl (by decide) rfl ?_
  obtain ⟨o3, hb_j1, h⟩ := h
  have nlt_j1 := ix_lt (S.2.1 kAuctions 0)
  have L2_28 : ∀ (m_j1 j1 : Nat), j1 + m_j1 = ix (S.2.1 kAuctions 0) → ∀ (σ2 : Mem), iter (b2_X12_takesOver p1) S j1 = σ2 → BW O G fdX12_takesOver 0 0 (QV O G 0 0 PP) σ2 2 [some (vr 12 0), some (vi p1), some (vi (nI j1))] [] := by
    intro m_j1
    induction m_j1 with
    | zero =>
      intro j1 hj_j1 σ2 eσ2
      have o3 := o3 j1 (by omega) σ2 eσ2
      have hn_j1 : j1 = ix (S.2.1 kAuctions 0) := by omega
      rw [hn_j1] at eσ2
      have h := h σ2 eσ2
      refine a_iload_n (pc := 2) 0 2 rfl rfl ?_
      refine a_aload_n (pc := 3) 0 3 rfl rfl ?_
      refine g_12_auctions (pc := 4) 0 4 rfl fl_X12_145 ?_
      refine a_icmp_ge_t (pc := 7) (tgt := 50) 0 5 rfl (by decide) (bd_t (o3) (by omega)) ?_
      refine a_iconst (pc := 50) 0 36 (v := 0) rfl (by decide) ?_
      refine a_istore_n (pc := 51) 0 37 (ls2 := [some (vr 12 0), some (vi p1), some (vi 0)]) rfl rfl (by decide) rfl ?_
      obtain ⟨o12, hb_j10, h⟩ := h
      have nlt_j10 := ix_lt (σ2.2.1 kLoans 0)
      have L52_29 : ∀ (m_j10 j10 : Nat), j10 + m_j10 = ix (σ2.2.1 kLoans 0) → ∀ (σ11 : Mem), iter (b52_X12_takesOver p1) σ2 j10 = σ11 → BW O G fdX12_takesOver 0 0 (QV O G 0 0 PP) σ11 52 [some (vr 12 0), some (vi p1), some (vi (nI j10))] [] := by
        intro m_j10
        induction m_j10 with
        | zero =>
          intro j10 hj_j10 σ11 eσ11
          have o12 := o12 j10 (by omega) σ11 eσ11
          have hn_j10 : j10 = ix (σ2.2.1 kLoans 0) := by omega
          rw [hn_j10] at eσ11
          have h := h σ11 eσ11
          refine a_iload_n (pc := 52) 0 38 rfl rfl ?_
          refine a_aload_n (pc := 53) 0 39 rfl rfl ?_
          refine g_12_loans (pc := 54) 0 40 rfl fl_X12_148 ?_
          refine a_icmp_ge_t (pc := 57) (tgt := 92) 0 41 rfl (by decide) (bd_t (o12) (by omega)) ?_
          refine a_aload_n (pc := 92) 1 12 rfl rfl ?_
          refine g_12_reserves (pc := 93) 1 13 rfl fl_X12_50 ?_
          refine a_iload_n (pc := 96) 1 14 rfl rfl ?_
          refine a_iconst (pc := 97) 1 15 (v := 0) rfl (by decide) ?_
          obtain ⟨o19, h⟩ := h
          refine s_35 (pc := 98) 1 16 (ix p1) rfl o19.1 o19.2 ?_
          refine a_set (fun S20 eS20 => ?_)
          have h := h S20 eS20
          refine a_aload_n (pc := 99) 1 17 rfl rfl ?_
          refine g_12_vaults (pc := 100) 1 18 rfl fl_X12_53 ?_
          refine a_iload_n (pc := 103) 1 19 rfl rfl ?_
          refine a_iconst (pc := 104) 1 20 (v := 0) rfl (by decide) ?_
          obtain ⟨o21, h⟩ := h
          refine s_36 (pc := 105) 1 21 (ix p1) rfl o21.1 o21.2 ?_
          refine a_set (fun S22 eS22 => ?_)
          have h := h S22 eS22
          refine a_aload_n (pc := 106) 1 22 rfl rfl ?_
          refine g_12_lent (pc := 107) 1 23 rfl fl_X12_56 ?_
          refine a_iload_n (pc := 110) 1 24 rfl rfl ?_
          refine a_iconst (pc := 111) 1 25 (v := 0) rfl (by decide) ?_
          obtain ⟨o23, h⟩ := h
          refine s_37 (pc := 112) 1 26 (ix p1) rfl o23.1 o23.2 ?_
          refine a_set (fun S24 eS24 => ?_)
          have h := h S24 eS24
          refine a_aload_n (pc := 113) 1 27 rfl rfl ?_
          refine g_12_areShort (pc := 114) 1 28 rfl fl_X12_66 ?_
          refine a_iload_n (pc := 117) 1 29 rfl rfl ?_
          refine a_iconst (pc := 118) 1 30 (v := 0) rfl (by decide) ?_
          obtain ⟨o25, h⟩ := h
          refine s_40 (pc := 119) 1 31 (ix p1) rfl o25.1 o25.2 (Or.inl rfl) ?_
          refine a_set (fun S26 eS26 => ?_)
          have h := h S26 eS26
          refine a_aload_n (pc := 120) 1 32 rfl rfl ?_
          refine g_12_haveFailed (pc := 121) 1 33 rfl fl_X12_62 ?_
          refine a_iload_n (pc := 124) 1 34 rfl rfl ?_
          refine a_iconst (pc := 125) 1 35 (v := 1) rfl (by decide) ?_
          have o27 := h
          refine s_39 (pc := 126) 1 36 (ix p1) rfl o27.1 o27.2 (Or.inr rfl) ?_
          refine a_set (fun S28 eS28 => ?_)
          exact a_vret (pc := 127) 1 37 rfl rfl (hP _ (by unfold f_X12_takesOver; exact (lt_eq eσ2).trans ((lt_eq eσ11).trans ((lt_eq eS20).trans ((lt_eq eS22).trans ((lt_eq eS24).trans ((lt_eq eS26).trans (lt_eq eS28))))))))
        | succ m_j10 ih_j10 =>
          intro j10 hj_j10 σ11 eσ11
          have o12 := o12 j10 (by omega) σ11 eσ11
          have h := hb_j10 j10 (by omega) σ11 eσ11
          refine a_iload_n (pc := 52) 0 38 rfl rfl ?_
          refine a_aload_n (pc := 53) 0 39 rfl rfl ?_
          refine g_12_loans (pc := 54) 0 40 rfl fl_X12_148 ?_
          refine a_icmp_ge_f (pc := 57) (tgt := 92) 0 41 rfl (bd_f (o12) (by omega)) (by decide) ?_
          refine a_aload_n (pc := 60) 0 42 rfl rfl ?_
          refine g_12_loanBanks (pc := 61) 0 43 rfl fl_X12_78 ?_
          refine a_iload_n (pc := 64) 0 44 rfl rfl ?_
          refine a_aload_n (pc := 65) 0 45 rfl rfl ?_
          refine g_12_loanBanks (pc := 66) 0 46 rfl fl_X12_78 ?_
          refine a_iload_n (pc := 69) 0 47 rfl rfl ?_
          obtain ⟨o13, h⟩ := h
          refine e_44 (pc := 70) 1 0 (j10) rfl rfl o13 ?_
          refine a_iload_n (pc := 71) 1 1 rfl rfl ?_
          obtain ⟨hr0, h⟩ := h
          have J85_30 : ∀ (v16 : Int32) (ev16 : (if (σ11.2.1 kLoanBanks j10) = p1 then (nI 4) else (σ11.2.1 kLoanBanks j10)) = v16), BW O G fdX12_takesOver 0 0 (QV O G 0 0 PP) σ11 85 [some (vr 12 0), some (vi p1), some (vi (nI j10))] [vi v16, vi (nI j10), vr 44 0] := by
            intro v16 ev16
            have h := h v16 ev16
            have o17 := h
            refine s_44 (pc := 85) 1 9 (j10) rfl rfl o17 ?_
            refine a_set (fun S18 eS18 => ?_)
            refine a_iinc (pc := 86) 1 10 (v := nI (j10 + 1)) (ls2 := [some (vr 12 0), some (vi p1), some (vi (nI (j10 + 1)))]) rfl rfl (iinc1 _) (by decide) rfl ?_
            refine a_goto (pc := 89) (tgt := 52) 1 11 rfl (by decide) ?_
            exact ih_j10 (j10 + 1) (by omega) S18 (by rw [iter_succ, eσ11]; unfold b52_X12_takesOver; exact ((lt_eq ev16).trans (lt_eq eS18)))
          have h := hr0
          refine a_icmp_ne (pc := 72) (tgt := 79) 1 2 rfl (by decide) (fun c72_13 => ?_) (fun c72_13 => ?_)
          · have h := h c72_13
            refine a_aload_n (pc := 79) 1 5 rfl rfl ?_
            refine g_12_loanBanks (pc := 80) 1 6 rfl fl_X12_78 ?_
            refine a_iload_n (pc := 83) 1 7 rfl rfl ?_
            have o15 := h
            refine e_44 (pc := 84) 1 8 (j10) rfl rfl o15 ?_
            exact J85_30 _ (by exact (if_neg c72_13))
          · refine a_iconst (pc := 75) 1 3 (v := nI 4) rfl (by decide) ?_
            refine a_goto (pc := 76) (tgt := 85) 1 4 rfl (by decide) ?_
            exact J85_30 _ (by exact (if_pos c72_13))
      exact L52_29 (ix (σ2.2.1 kLoans 0)) 0 (by omega) σ2 rfl
    | succ m_j1 ih_j1 =>
      intro j1 hj_j1 σ2 eσ2
      have o3 := o3 j1 (by omega) σ2 eσ2
      have h := hb_j1 j1 (by omega) σ2 eσ2
      refine a_iload_n (pc := 2) 0 2 rfl rfl ?_
      refine a_aload_n (pc := 3) 0 3 rfl rfl ?_
      refine g_12_auctions (pc := 4) 0 4 rfl fl_X12_145 ?_
      refine a_icmp_ge_f (pc := 7) (tgt := 50) 0 5 rfl (bd_f (o3) (by omega)) (by decide) ?_
      refine a_aload_n (pc := 10) 0 6 rfl rfl ?_
      refine g_12_bonds (pc := 11) 0 7 rfl fl_X12_117 ?_
      refine a_iconst (pc := 14) 0 8 (v := nI 5) rfl (by decide) ?_
      refine a_iload_n (pc := 15) 0 9 rfl rfl ?_
      refine a_imul (pc := 16) 0 10 rfl ?_
      refine a_iconst (pc := 17) 0 11 (v := nI 4) rfl (by decide) ?_
      refine a_iadd (pc := 18) 0 12 rfl ?_
      refine a_dup2 (pc := 19) 0 13 rfl rfl rfl ?_
      obtain ⟨o4, h⟩ := h
      refine e_57 (pc := 20) 0 14 (ix (((nI 5) * (nI j1)) + (nI 4))) rfl o4.1 o4.2 ?_
      refine a_aload_n (pc := 21) 0 15 rfl rfl ?_
      refine g_12_bonds (pc := 22) 0 16 rfl fl_X12_117 ?_
      refine a_iconst (pc := 25) 0 17 (v := nI 5) rfl (by decide) ?_
      refine a_iload_n (pc := 26) 0 18 rfl rfl ?_
      refine a_imul (pc := 27) 0 19 rfl ?_
      refine a_iload_n (pc := 28) 0 20 rfl rfl ?_
      refine a_iadd (pc := 29) 0 21 rfl ?_
      obtain ⟨o5, h⟩ := h
      refine e_57 (pc := 30) 0 22 (ix (((nI 5) * (nI j1)) + p1)) rfl o5.1 o5.2 ?_
      refine a_iadd (pc := 31) 0 23 rfl ?_
      obtain ⟨o6, h⟩ := h
      refine s_57 (pc := 32) 0 24 (ix (((nI 5) * (nI j1)) + (nI 4))) rfl o6.1 o6.2 ?_
      refine a_set (fun S7 eS7 => ?_)
      have h := h S7 eS7
      refine a_aload_n (pc := 33) 0 25 rfl rfl ?_
      refine g_12_bonds (pc := 34) 0 26 rfl fl_X12_117 ?_
      refine a_iconst (pc := 37) 0 27 (v := nI 5) rfl (by decide) ?_
      refine a_iload_n (pc := 38) 0 28 rfl rfl ?_
      refine a_imul (pc := 39) 0 29 rfl ?_
      refine a_iload_n (pc := 40) 0 30 rfl rfl ?_
      refine a_iadd (pc := 41) 0 31 rfl ?_
      refine a_iconst (pc := 42) 0 32 (v := 0) rfl (by decide) ?_
      have o8 := h
      refine s_57 (pc := 43) 0 33 (ix (((nI 5) * (nI j1)) + p1)) rfl o8.1 o8.2 ?_
      refine a_set (fun S9 eS9 => ?_)
      refine a_iinc (pc := 44) 0 34 (v := nI (j1 + 1)) (ls2 := [some (vr 12 0), some (vi p1), some (vi (nI (j1 + 1)))]) rfl rfl (iinc1 _) (by decide) rfl ?_
      refine a_goto (pc := 47) (tgt := 2) 0 35 rfl (by decide) ?_
      exact ih_j1 (j1 + 1) (by omega) S9 (by rw [iter_succ, eσ2]; unfold b2_X12_takesOver; exact ((lt_eq eS7).trans (lt_eq eS9)))
  exact L2_28 (ix (S.2.1 kAuctions 0)) 0 (by omega) S rfl
theorem c_X12_takesOver {S : Mem} (p1 : Int32)   (h : ok_X12_takesOver S p1) : Cts mdX12_takesOver 0 0 [vr 12 0, vi p1] S (Is none (f_X12_takesOver S p1)) := Cts.of dtX12_takesOver (by decide +kernel) rfl rfl (Nat.le_of_ble_eq_true rfl) rfl (fun O G => w_X12_takesOver p1 h (fun _ h9 => ⟨rfl, h9.symm⟩))
def b62_X12_fails (p1 : Int32) (S2 : Mem) (j11 : Nat) (σ12 : Int32 × Int32) : Int32 × Int32 := lt (if (S2.2.1 kBankOf j11) = p1 then (S2.2.1 kAccounts j11) else (0)) (fun (v14 : Int32) => lt (f_X12_least S2 v14 (nI 100)) (fun (v15 : Int32) => lt (f_X12_most S2 (v14 - (nI 100)) 0) (fun (v16 : Int32) => (σ12.1 - v15, σ12.2 + v16))))
def b146_X12_fails (p1 : Int32) (σ12 : Int32 × Int32) (v17 : Int32) (v20 : Int32) (j21 : Nat) (σ22 : Int32 × Mem) : Int32 × Mem := lt (if (σ22.2.2.1 kBankOf j21) = p1 then (lt (f_X12_most σ22.2 ((σ22.2.2.1 kAccounts j21) - (nI 100)) 0) (fun (v24 : Int32) => lt (if v24 = 0 then (0) else (((v24.toInt64 * v17.toInt64) / σ12.2.toInt64).toInt32)) (fun (v27 : Int32) => lt (f_X12_least σ22.2 (σ22.2.2.1 kAccounts j21) (nI 100)) (fun (v28 : Int32) => lt (f_X12_least σ22.2 v27 v24) (fun (v29 : Int32) => lt (if v20 = (-1) then (0) else (v28 + v29)) (fun (v31 : Int32) => lt ((σ22.2.1, upd2 σ22.2.2.1 kAccounts j21 v31, σ22.2.2.2)) (fun (S32 : Mem) => lt (if v20 = (-1) then (v28 + v29) else (0)) (fun (v34 : Int32) => lt ((S32.1, upd2 S32.2.1 kNotes j21 ((S32.2.1 kNotes j21) + v34), S32.2.2)) (fun (S35 : Mem) => lt ((S35.1, upd2 S35.2.1 kBankOf j21 v20, S35.2.2)) (fun (S36 : Mem) => σ22.1 + (v28 + v29))))))))))) else (σ22.1)) (fun (v37 : Int32) => lt (if (σ22.2.2.1 kBankOf j21) = p1 then (lt (f_X12_most σ22.2 ((σ22.2.2.1 kAccounts j21) - (nI 100)) 0) (fun (v24 : Int32) => lt (if v24 = 0 then (0) else (((v24.toInt64 * v17.toInt64) / σ12.2.toInt64).toInt32)) (fun (v27 : Int32) => lt (f_X12_least σ22.2 (σ22.2.2.1 kAccounts j21) (nI 100)) (fun (v28 : Int32) => lt (f_X12_least σ22.2 v27 v24) (fun (v29 : Int32) => lt (if v20 = (-1) then (0) else (v28 + v29)) (fun (v31 : Int32) => lt ((σ22.2.1, upd2 σ22.2.2.1 kAccounts j21 v31, σ22.2.2.2)) (fun (S32 : Mem) => lt (if v20 = (-1) then (v28 + v29) else (0)) (fun (v34 : Int32) => lt ((S32.1, upd2 S32.2.1 kNotes j21 ((S32.2.1 kNotes j21) + v34), S32.2.2)) (fun (S35 : Mem) => lt ((S35.1, upd2 S35.2.1 kBankOf j21 v20, S35.2.2)) (fun (S36 : Mem) => S36)))))))))) else (σ22.2)) (fun (S38 : Mem) => (v37, S38)))
def f_X12_fails (S : Mem) (p1 : Int32) : Int32 × Mem := lt (f_X12_takesBack S p1) (fun (S2 : Mem) => lt (f_X12_bondsOf S2 p1) (fun (v6 : Int32) => lt (f_X12_loansOf S2 p1) (fun (v8 : Int32) => lt (f_X12_most S2 (((((S2.2.1 kReserves (ix p1)) + (S2.2.1 kVaults (ix p1))) + (((nI 90) * v6) / (nI 100))) + (((nI 50) * v8) / (nI 100))) - (S2.2.1 kLent (ix p1))) 0) (fun (v10 : Int32) => lt (iter (b62_X12_fails p1 S2) (v10, 0) (16)) (fun (σ12 : Int32 × Int32) => lt (f_X12_most S2 σ12.1 0) (fun (v17 : Int32) => lt (f_X12_takesOver S2 p1) (fun (S19 : Mem) => lt (f_X12_nextBank S19 ) (fun (v20 : Int32) => lt (iter (b146_X12_fails p1 σ12 v17 v20) (0, S19) (16)) (fun (σ22 : Int32 × Mem) => lt (if v20 = (-1) then (σ22.2) else (lt ((σ22.2.1, upd2 σ22.2.2.1 kReserves (ix v20) ((σ22.2.2.1 kReserves (ix v20)) + σ22.1), σ22.2.2.2)) (fun (S42 : Mem) => S42))) (fun (S43 : Mem) => (σ22.1, S43)))))))))))
def ok_X12_fails (S : Mem) (p1 : Int32) : Prop := ((ok_X12_takesBack S p1) ∧ (∀ S2 : Mem, (f_X12_takesBack S p1) = S2 → ((inb p1 4) ∧ (inb p1 4) ∧ (ok_X12_bondsOf S2 p1) ∧ (∀ v6 : Int32, (f_X12_bondsOf S2 p1) = v6 → ((ok_X12_loansOf S2 p1) ∧ (∀ v8 : Int32, (f_X12_loansOf S2 p1) = v8 → ((inb p1 4) ∧ (∀ v10 : Int32, (f_X12_most S2 (((((S2.2.1 kReserves (ix p1)) + (S2.2.1 kVaults (ix p1))) + (((nI 90) * v6) / (nI 100))) + (((nI 50) * v8) / (nI 100))) - (S2.2.1 kLent (ix p1))) 0) = v10 → ((∀ σ12 : Int32 × Int32, iter (b62_X12_fails p1 S2) (v10, 0) (16) = σ12 → ((∀ v17 : Int32, (f_X12_most S2 σ12.1 0) = v17 → ((ok_X12_takesOver S2 p1) ∧ (∀ S19 : Mem, (f_X12_takesOver S2 p1) = S19 → ((∀ v20 : Int32, (f_X12_nextBank S19 ) = v20 → ((∀ j21 : Nat, j21 < 16 → ∀ σ22 : Int32 × Mem, iter (b146_X12_fails p1 σ12 v17 v20) (0, S19) j21 = σ22 → ((((σ22.2.2.1 kBankOf j21) = p1) → ((∀ v24 : Int32, (f_X12_most σ22.2 ((σ22.2.2.1 kAccounts j21) - (nI 100)) 0) = v24 → (((¬ (v24 = 0)) → ((¬ σ12.2.toInt64 = 0))))))))) ∧ (∀ σ22 : Int32 × Mem, iter (b146_X12_fails p1 σ12 v17 v20) (0, S19) (16) = σ22 → (((¬ (v20 = (-1))) → ((inb v20 4) ∧ (inb v20 4))))))))))))))))))))))
abbrev fdX12_fails : FD := (mdX12_fails, [], 1, 23, 0, 0)
set_option maxRecDepth 100000 in
set_option maxHeartbeats 4000000 in
theorem w_X12_fails {O : Om} {G : Cx} {S : Mem} {PP : Option AV → Mem → Prop} (p1 : Int32)   (h : ok_X12_fails S p1) (hP : ∀ x9 S9, f_X12_fails S p1 = (x9, S9) → PP (some (vi x9)) S9) : BW O G fdX12_fails 0 0 (QV O G 0 0 PP) S 0 [some (vr 12 0), some (vi p1), none, none, none, none, none, none, none, none, none] [] := by
  refine a_aload_n (pc := 0) 0 0 rfl rfl ?_
  refine a_iload_n (pc := 1) 0 1 rfl rfl ?_
  obtain ⟨o1, h⟩ := h
  refine a_callVv (pc := 2) 0 2 (c_X12_takesBack (S := S) p1 o1) rfl cv_X12_306 (by decide) rfl rfl rfl (rm rfl) ?_
  refine a_set (fun S2 eS2 => ?_)
  have h := h S2 eS2
  refine a_aload_n (pc := 5) 0 3 rfl rfl ?_
  refine g_12_reserves (pc := 6) 0 4 rfl fl_X12_50 ?_
  refine a_iload_n (pc := 9) 0 5 rfl rfl ?_
  obtain ⟨o3, h⟩ := h
  refine e_35 (pc := 10) 0 6 (ix p1) rfl o3.1 o3.2 ?_
  refine a_aload_n (pc := 11) 0 7 rfl rfl ?_
  refine g_12_vaults (pc := 12) 0 8 rfl fl_X12_53 ?_
  refine a_iload_n (pc := 15) 0 9 rfl rfl ?_
  obtain ⟨o4, h⟩ := h
  refine e_36 (pc := 16) 0 10 (ix p1) rfl o4.1 o4.2 ?_
  refine a_iadd (pc := 17) 0 11 rfl ?_
  refine a_bipush (pc := 18) 0 12 (v := nI 90) rfl (by decide) ?_
  refine a_aload_n (pc := 20) 0 13 rfl rfl ?_
  refine a_iload_n (pc := 21) 0 14 rfl rfl ?_
  obtain ⟨o5, h⟩ := h
  refine a_callVi (pc := 22) 0 15 (c_X12_bondsOf (S := S2) p1 o5) rfl cv_X12_151 (by decide) rfl rfl rfl (rm rfl) ?_
  refine a_seti (fun v6 ev6 => ?_)
  have h := h v6 ev6
  refine a_imul (pc := 25) 0 16 rfl ?_
  refine a_bipush (pc := 26) 0 17 (v := nI 100) rfl (by decide) ?_
  refine a_idiv (pc := 28) 0 18 rfl (by decide) ?_
  refine a_iadd (pc := 29) 0 19 rfl ?_
  refine a_bipush (pc := 30) 0 20 (v := nI 50) rfl (by decide) ?_
  refine a_aload_n (pc := 32) 0 21 rfl rfl ?_
  refine a_iload_n (pc := 33) 0 22 rfl rfl ?_
  obtain ⟨o7, h⟩ := h
  refine a_callVi (pc := 34) 0 23 (c_X12_loansOf (S := S2) p1 o7) rfl cv_X12_155 (by decide) rfl rfl rfl (rm rfl) ?_
  refine a_seti (fun v8 ev8 => ?_)
  have h := h v8 ev8
  refine a_imul (pc := 37) 0 24 rfl ?_
  refine a_bipush (pc := 38) 0 25 (v := nI 100) rfl (by decide) ?_
  refine a_idiv (pc := 40) 0 26 rfl (by decide) ?_
  refine a_iadd (pc := 41) 0 27 rfl ?_
  refine a_istore_n (pc := 42) 0 28 (ls2 := [some (vr 12 0), some (vi p1), some (vi ((((S2.2.1 kReserves (ix p1)) + (S2.2.1 kVaults (ix p1))) + (((nI 90) * v6) / (nI 100))) + (((nI 50) * v8) / (nI 100)))), none, none, none, none, none, none, none, none]) rfl rfl (by decide) rfl ?_
  refine a_iload_n (pc := 43) 0 29 rfl rfl ?_
  refine a_aload_n (pc := 44) 0 30 rfl rfl ?_
  refine g_12_lent (pc := 45) 0 31 rfl fl_X12_56 ?_
  refine a_iload_n (pc := 48) 0 32 rfl rfl ?_
  obtain ⟨o9, h⟩ := h
  refine e_37 (pc := 49) 0 33 (ix p1) rfl o9.1 o9.2 ?_
  refine a_isub (pc := 50) 0 34 rfl ?_
  refine a_iconst (pc := 51) 0 35 (v := 0) rfl (by decide) ?_
  refine a_callSi (pc := 52) 0 36 (c_X12_most (S := S2) (((((S2.2.1 kReserves (ix p1)) + (S2.2.1 kVaults (ix p1))) + (((nI 90) * v6) / (nI 100))) + (((nI 50) * v8) / (nI 100))) - (S2.2.1 kLent (ix p1))) 0) rfl cs_X12_161 rfl (rm rfl) ?_
  refine a_seti (fun v10 ev10 => ?_)
  have h := h v10 ev10
  refine a_istore_n (pc := 55) 0 37 (ls2 := [some (vr 12 0), some (vi p1), some (vi ((((S2.2.1 kReserves (ix p1)) + (S2.2.1 kVaults (ix p1))) + (((nI 90) * v6) / (nI 100))) + (((nI 50) * v8) / (nI 100)))), some (vi v10), none, none, none, none, none, none, none]) rfl rfl (by decide) rfl ?_
  refine a_iconst (pc := 56) 0 38 (v := 0) rfl (by decide) ?_
  refine a_istore (pc := 57) 0 39 (ls2 := [some (vr 12 0), some (vi p1), some (vi ((((S2.2.1 kReserves (ix p1)) + (S2.2.1 kVaults (ix p1))) + (((nI 90) * v6) / (nI 100))) + (((nI 50) * v8) / (nI 100)))), some (vi v10), some (vi 0), none, none, none, none, none, none]) rfl (by decide) rfl ?_
  refine a_iconst (pc := 59) 0 40 (v := 0) rfl (by decide) ?_
  refine a_istore (pc := 60) 0 41 (ls2 := [some (vr 12 0), some (vi p1), some (vi ((((S2.2.1 kReserves (ix p1)) + (S2.2.1 kVaults (ix p1))) + (((nI 90) * v6) / (nI 100))) + (((nI 50) * v8) / (nI 100)))), some (vi v10), some (vi 0), some (vi 0), none, none, none, none, none]) rfl (by decide) rfl ?_
  have L62_43 : ∀ (m_j11 j11 : Nat), j11 + m_j11 = 16 → ∀ (σ12 : Int32 × Int32), iter (b62_X12_fails p1 S2) (v10, 0) j11 = σ12 → BW O G fdX12_fails 0 0 (QV O G 0 0 PP) S2 62 [some (vr 12 0), some (vi p1), some (vi ((((S2.2.1 kReserves (ix p1)) + (S2.2.1 kVaults (ix p1))) + (((nI 90) * v6) / (nI 100))) + (((nI 50) * v8) / (nI 100)))), some (vi σ12.1), some (vi σ12.2), some (vi (nI j11)), none, none, none, none, none] [] := by
    intro m_j11
    induction m_j11 with
    | zero =>
      intro j11 hj_j11 σ12 eσ12
      have hn_j11 : j11 = 16 := by omega
      rw [hn_j11] at eσ12
      have h := h σ12 eσ12
      refine a_iload (pc := 62) 0 42 rfl rfl ?_
      refine a_bipush (pc := 64) 0 43 (v := nI 16) rfl (by decide) ?_
      refine a_icmp_ge_t (pc := 66) (tgt := 123) 0 44 rfl (by decide) (nI_le (by omega) (by omega)) ?_
      refine a_iload_n (pc := 123) 1 26 rfl rfl ?_
      refine a_iconst (pc := 124) 1 27 (v := 0) rfl (by decide) ?_
      refine a_callSi (pc := 125) 1 28 (c_X12_most (S := S2) σ12.1 0) rfl cs_X12_161 rfl (rm rfl) ?_
      refine a_seti (fun v17 ev17 => ?_)
      have h := h v17 ev17
      refine a_istore_n (pc := 128) 1 29 (ls2 := [some (vr 12 0), some (vi p1), some (vi ((((S2.2.1 kReserves (ix p1)) + (S2.2.1 kVaults (ix p1))) + (((nI 90) * v6) / (nI 100))) + (((nI 50) * v8) / (nI 100)))), some (vi v17), some (vi σ12.2), some (vi (nI j11)), none, none, none, none, none]) rfl rfl (by decide) rfl ?_
      refine a_aload_n (pc := 129) 1 30 rfl rfl ?_
      refine a_iload_n (pc := 130) 1 31 rfl rfl ?_
      obtain ⟨o18, h⟩ := h
      refine a_callVv (pc := 131) 1 32 (c_X12_takesOver (S := S2) p1 o18) rfl cv_X12_309 (by decide) rfl rfl rfl (rm rfl) ?_
      refine a_set (fun S19 eS19 => ?_)
      have h := h S19 eS19
      refine a_aload_n (pc := 134) 1 33 rfl rfl ?_
      refine a_callVi (pc := 135) 1 34 (c_X12_nextBank (S := S19) ) rfl cv_X12_312 (by decide) rfl rfl rfl (rm rfl) ?_
      refine a_seti (fun v20 ev20 => ?_)
      have h := h v20 ev20
      refine a_istore (pc := 138) 1 35 (ls2 := [some (vr 12 0), some (vi p1), some (vi ((((S2.2.1 kReserves (ix p1)) + (S2.2.1 kVaults (ix p1))) + (((nI 90) * v6) / (nI 100))) + (((nI 50) * v8) / (nI 100)))), some (vi v17), some (vi σ12.2), some (vi v20), none, none, none, none, none]) rfl (by decide) rfl ?_
      refine a_iconst (pc := 140) 1 36 (v := 0) rfl (by decide) ?_
      refine a_istore (pc := 141) 1 37 (ls2 := [some (vr 12 0), some (vi p1), some (vi ((((S2.2.1 kReserves (ix p1)) + (S2.2.1 kVaults (ix p1))) + (((nI 90) * v6) / (nI 100))) + (((nI 50) * v8) / (nI 100)))), some (vi v17), some (vi σ12.2), some (vi v20), some (vi 0), none, none, none, none]) rfl (by decide) rfl ?_
      refine a_iconst (pc := 143) 1 38 (v := 0) rfl (by decide) ?_
      refine a_istore (pc := 144) 1 39 (ls2 := [some (vr 12 0), some (vi p1), some (vi ((((S2.2.1 kReserves (ix p1)) + (S2.2.1 kVaults (ix p1))) + (((nI 90) * v6) / (nI 100))) + (((nI 50) * v8) / (nI 100)))), some (vi v17), some (vi σ12.2), some (vi v20), some (vi 0), some (vi 0), none, none, none]) rfl (by decide) rfl ?_
      obtain ⟨hb_j21, h⟩ := h
      have L146_44 : ∀ (m_j21 j21 : Nat), j21 + m_j21 = 16 → ∀ (σ22 : Int32 × Mem), iter (b146_X12_fails p1 σ12 v17 v20) (0, S19) j21 = σ22 → BW O G fdX12_fails 0 0 (QV O G 0 0 PP) σ22.2 146 [some (vr 12 0), some (vi p1), some (vi ((((S2.2.1 kReserves (ix p1)) + (S2.2.1 kVaults (ix p1))) + (((nI 90) * v6) / (nI 100))) + (((nI 50) * v8) / (nI 100)))), some (vi v17), some (vi σ12.2), some (vi v20), some (vi σ22.1), some (vi (nI j21)), none, none, none] [] := by
        intro m_j21
        induction m_j21 with
        | zero =>
          intro j21 hj_j21 σ22 eσ22
          have hn_j21 : j21 = 16 := by omega
          rw [hn_j21] at eσ22
          have h := h σ22 eσ22
          refine a_iload (pc := 146) 1 40 rfl rfl ?_
          refine a_bipush (pc := 148) 1 41 (v := nI 16) rfl (by decide) ?_
          refine a_icmp_ge_t (pc := 150) (tgt := 287) 1 42 rfl (by decide) (nI_le (by omega) (by omega)) ?_
          refine a_iload (pc := 287) 3 21 rfl rfl ?_
          refine a_iconst (pc := 289) 3 22 (v := (-1)) rfl (by decide) ?_
          have J305_45 : ∀ (S43 : Mem) (eS43 : (if v20 = (-1) then (σ22.2) else (lt ((σ22.2.1, upd2 σ22.2.2.1 kReserves (ix v20) ((σ22.2.2.1 kReserves (ix v20)) + σ22.1), σ22.2.2.2)) (fun (S42 : Mem) => S42))) = S43), BW O G fdX12_fails 0 0 (QV O G 0 0 PP) S43 305 [some (vr 12 0), some (vi p1), some (vi ((((S2.2.1 kReserves (ix p1)) + (S2.2.1 kVaults (ix p1))) + (((nI 90) * v6) / (nI 100))) + (((nI 50) * v8) / (nI 100)))), some (vi v17), some (vi σ12.2), some (vi v20), some (vi σ22.1), some (vi (nI j21)), none, none, none] [] := by
            intro S43 eS43
            refine a_iload (pc := 305) 3 32 rfl rfl ?_
            exact a_iret (pc := 307) 3 33 rfl rfl (hP _ _ (by unfold f_X12_fails; exact (lt_eq eS2).trans ((lt_eq ev6).trans ((lt_eq ev8).trans ((lt_eq ev10).trans ((lt_eq eσ12).trans ((lt_eq ev17).trans ((lt_eq eS19).trans ((lt_eq ev20).trans ((lt_eq eσ22).trans (lt_eq eS43)))))))))))
          refine a_icmp_eq (pc := 290) (tgt := 305) 3 23 rfl (by decide) (fun c290_38 => ?_) (fun c290_38 => ?_)
          · exact J305_45 _ (by exact (if_pos c290_38))
          · have h := h c290_38
            refine a_aload_n (pc := 293) 3 24 rfl rfl ?_
            refine g_12_reserves (pc := 294) 3 25 rfl fl_X12_50 ?_
            refine a_iload (pc := 297) 3 26 rfl rfl ?_
            refine a_dup2 (pc := 299) 3 27 rfl rfl rfl ?_
            obtain ⟨o40, h⟩ := h
            refine e_35 (pc := 300) 3 28 (ix v20) rfl o40.1 o40.2 ?_
            refine a_iload (pc := 301) 3 29 rfl rfl ?_
            refine a_iadd (pc := 303) 3 30 rfl ?_
            have o41 := h
            refine s_35 (pc := 304) 3 31 (ix v20) rfl o41.1 o41.2 ?_
            refine a_set (fun S42 eS42 => ?_)
            exact J305_45 _ (by exact ((if_neg c290_38).trans (lt_eq eS42)))
        | succ m_j21 ih_j21 =>
          intro j21 hj_j21 σ22 eσ22
          have h := hb_j21 j21 (by omega) σ22 eσ22
          refine a_iload (pc := 146) 1 40 rfl rfl ?_
          refine a_bipush (pc := 148) 1 41 (v := nI 16) rfl (by decide) ?_
          refine a_icmp_ge_f (pc := 150) (tgt := 287) 1 42 rfl (nI_ge (by omega) (by omega)) (by decide) ?_
          refine a_aload_n (pc := 153) 1 43 rfl rfl ?_
          refine g_12_bankOf (pc := 154) 1 44 rfl fl_X12_23 ?_
          refine a_iload (pc := 157) 1 45 rfl rfl ?_
          refine e_26 (pc := 159) 1 46 (j21) rfl rfl (by omega) ?_
          refine a_iload_n (pc := 160) 1 47 rfl rfl ?_
          have J281_46 : ∀ (v37 : Int32) (ev37 : (if (σ22.2.2.1 kBankOf j21) = p1 then (lt (f_X12_most σ22.2 ((σ22.2.2.1 kAccounts j21) - (nI 100)) 0) (fun (v24 : Int32) => lt (if v24 = 0 then (0) else (((v24.toInt64 * v17.toInt64) / σ12.2.toInt64).toInt32)) (fun (v27 : Int32) => lt (f_X12_least σ22.2 (σ22.2.2.1 kAccounts j21) (nI 100)) (fun (v28 : Int32) => lt (f_X12_least σ22.2 v27 v24) (fun (v29 : Int32) => lt (if v20 = (-1) then (0) else (v28 + v29)) (fun (v31 : Int32) => lt ((σ22.2.1, upd2 σ22.2.2.1 kAccounts j21 v31, σ22.2.2.2)) (fun (S32 : Mem) => lt (if v20 = (-1) then (v28 + v29) else (0)) (fun (v34 : Int32) => lt ((S32.1, upd2 S32.2.1 kNotes j21 ((S32.2.1 kNotes j21) + v34), S32.2.2)) (fun (S35 : Mem) => lt ((S35.1, upd2 S35.2.1 kBankOf j21 v20, S35.2.2)) (fun (S36 : Mem) => σ22.1 + (v28 + v29))))))))))) else (σ22.1)) = v37) (S38 : Mem) (eS38 : (if (σ22.2.2.1 kBankOf j21) = p1 then (lt (f_X12_most σ22.2 ((σ22.2.2.1 kAccounts j21) - (nI 100)) 0) (fun (v24 : Int32) => lt (if v24 = 0 then (0) else (((v24.toInt64 * v17.toInt64) / σ12.2.toInt64).toInt32)) (fun (v27 : Int32) => lt (f_X12_least σ22.2 (σ22.2.2.1 kAccounts j21) (nI 100)) (fun (v28 : Int32) => lt (f_X12_least σ22.2 v27 v24) (fun (v29 : Int32) => lt (if v20 = (-1) then (0) else (v28 + v29)) (fun (v31 : Int32) => lt ((σ22.2.1, upd2 σ22.2.2.1 kAccounts j21 v31, σ22.2.2.2)) (fun (S32 : Mem) => lt (if v20 = (-1) then (v28 + v29) else (0)) (fun (v34 : Int32) => lt ((S32.1, upd2 S32.2.1 kNotes j21 ((S32.2.1 kNotes j21) + v34), S32.2.2)) (fun (S35 : Mem) => lt ((S35.1, upd2 S35.2.1 kBankOf j21 v20, S35.2.2)) (fun (S36 : Mem) => S36)))))))))) else (σ22.2)) = S38), BW O G fdX12_fails 0 0 (QV O G 0 0 PP) S38 281 [some (vr 12 0), some (vi p1), some (vi ((((S2.2.1 kReserves (ix p1)) + (S2.2.1 kVaults (ix p1))) + (((nI 90) * v6) / (nI 100))) + (((nI 50) * v8) / (nI 100)))), some (vi v17), some (vi σ12.2), some (vi v20), some (vi v37), some (vi (nI j21)), none, none, none] [] := by
            intro v37 ev37 S38 eS38
            refine a_iinc (pc := 281) 3 19 (v := nI (j21 + 1)) (ls2 := [some (vr 12 0), some (vi p1), some (vi ((((S2.2.1 kReserves (ix p1)) + (S2.2.1 kVaults (ix p1))) + (((nI 90) * v6) / (nI 100))) + (((nI 50) * v8) / (nI 100)))), some (vi v17), some (vi σ12.2), some (vi v20), some (vi v37), some (vi (nI (j21 + 1))), none, none, none]) rfl rfl (iinc1 _) (by decide) rfl ?_
            refine a_goto (pc := 284) (tgt := 146) 3 20 rfl (by decide) ?_
            exact ih_j21 (j21 + 1) (by omega) (v37, S38) (by rw [iter_succ, eσ22]; unfold b146_X12_fails; exact ((lt_eq ev37).trans (lt_eq eS38)))
          refine a_icmp_ne (pc := 161) (tgt := 281) 2 0 rfl (by decide) (fun c161_22 => ?_) (fun c161_22 => ?_)
          · exact J281_46 _ (by exact (if_neg c161_22)) _ (by exact (if_neg c161_22))
          · have h := h c161_22
            refine a_aload_n (pc := 164) 2 1 rfl rfl ?_
            refine g_12_accounts (pc := 165) 2 2 rfl fl_X12_26 ?_
            refine a_iload (pc := 168) 2 3 rfl rfl ?_
            refine e_27 (pc := 170) 2 4 (j21) rfl rfl (by omega) ?_
            refine a_bipush (pc := 171) 2 5 (v := nI 100) rfl (by decide) ?_
            refine a_isub (pc := 173) 2 6 rfl ?_
            refine a_iconst (pc := 174) 2 7 (v := 0) rfl (by decide) ?_
            refine a_callSi (pc := 175) 2 8 (c_X12_most (S := σ22.2) ((σ22.2.2.1 kAccounts j21) - (nI 100)) 0) rfl cs_X12_161 rfl (rm rfl) ?_
            refine a_seti (fun v24 ev24 => ?_)
            have h := h v24 ev24
            refine a_istore (pc := 178) 2 9 (ls2 := [some (vr 12 0), some (vi p1), some (vi ((((S2.2.1 kReserves (ix p1)) + (S2.2.1 kVaults (ix p1))) + (((nI 90) * v6) / (nI 100))) + (((nI 50) * v8) / (nI 100)))), some (vi v17), some (vi σ12.2), some (vi v20), some (vi σ22.1), some (vi (nI j21)), some (vi v24), none, none]) rfl (by decide) rfl ?_
            refine a_iload (pc := 180) 2 10 rfl rfl ?_
            have J200_47 : ∀ (v27 : Int32) (ev27 : (if v24 = 0 then (0) else (((v24.toInt64 * v17.toInt64) / σ12.2.toInt64).toInt32)) = v27), BW O G fdX12_fails 0 0 (QV O G 0 0 PP) σ22.2 200 [some (vr 12 0), some (vi p1), some (vi ((((S2.2.1 kReserves (ix p1)) + (S2.2.1 kVaults (ix p1))) + (((nI 90) * v6) / (nI 100))) + (((nI 50) * v8) / (nI 100)))), some (vi v17), some (vi σ12.2), some (vi v20), some (vi σ22.1), some (vi (nI j21)), some (vi v24), none, none] [vi v27] := by
              intro v27 ev27
              refine a_istore (pc := 200) 2 23 (ls2 := [some (vr 12 0), some (vi p1), some (vi ((((S2.2.1 kReserves (ix p1)) + (S2.2.1 kVaults (ix p1))) + (((nI 90) * v6) / (nI 100))) + (((nI 50) * v8) / (nI 100)))), some (vi v17), some (vi σ12.2), some (vi v20), some (vi σ22.1), some (vi (nI j21)), some (vi v24), some (vi v27), none]) rfl (by decide) rfl ?_
              refine a_aload_n (pc := 202) 2 24 rfl rfl ?_
              refine g_12_accounts (pc := 203) 2 25 rfl fl_X12_26 ?_
              refine a_iload (pc := 206) 2 26 rfl rfl ?_
              refine e_27 (pc := 208) 2 27 (j21) rfl rfl (by omega) ?_
              refine a_bipush (pc := 209) 2 28 (v := nI 100) rfl (by decide) ?_
              refine a_callSi (pc := 211) 2 29 (c_X12_least (S := σ22.2) (σ22.2.2.1 kAccounts j21) (nI 100)) rfl cs_X12_193 rfl (rm rfl) ?_
              refine a_seti (fun v28 ev28 => ?_)
              refine a_iload (pc := 214) 2 30 rfl rfl ?_
              refine a_iload (pc := 216) 2 31 rfl rfl ?_
              refine a_callSi (pc := 218) 2 32 (c_X12_least (S := σ22.2) v27 v24) rfl cs_X12_193 rfl (rm rfl) ?_
              refine a_seti (fun v29 ev29 => ?_)
              refine a_iadd (pc := 221) 2 33 rfl ?_
              refine a_istore (pc := 222) 2 34 (ls2 := [some (vr 12 0), some (vi p1), some (vi ((((S2.2.1 kReserves (ix p1)) + (S2.2.1 kVaults (ix p1))) + (((nI 90) * v6) / (nI 100))) + (((nI 50) * v8) / (nI 100)))), some (vi v17), some (vi σ12.2), some (vi v20), some (vi σ22.1), some (vi (nI j21)), some (vi v24), some (vi v27), some (vi (v28 + v29))]) rfl (by decide) rfl ?_
              refine a_iload (pc := 224) 2 35 rfl rfl ?_
              refine a_iload (pc := 226) 2 36 rfl rfl ?_
              refine a_iadd (pc := 228) 2 37 rfl ?_
              refine a_istore (pc := 229) 2 38 (ls2 := [some (vr 12 0), some (vi p1), some (vi ((((S2.2.1 kReserves (ix p1)) + (S2.2.1 kVaults (ix p1))) + (((nI 90) * v6) / (nI 100))) + (((nI 50) * v8) / (nI 100)))), some (vi v17), some (vi σ12.2), some (vi v20), some (vi (σ22.1 + (v28 + v29))), some (vi (nI j21)), some (vi v24), some (vi v27), some (vi (v28 + v29))]) rfl (by decide) rfl ?_
              refine a_aload_n (pc := 231) 2 39 rfl rfl ?_
              refine g_12_accounts (pc := 232) 2 40 rfl fl_X12_26 ?_
              refine a_iload (pc := 235) 2 41 rfl rfl ?_
              refine a_iload (pc := 237) 2 42 rfl rfl ?_
              refine a_iconst (pc := 239) 2 43 (v := (-1)) rfl (by decide) ?_
              have J249_48 : ∀ (v31 : Int32) (ev31 : (if v20 = (-1) then (0) else (v28 + v29)) = v31), BW O G fdX12_fails 0 0 (QV O G 0 0 PP) σ22.2 249 [some (vr 12 0), some (vi p1), some (vi ((((S2.2.1 kReserves (ix p1)) + (S2.2.1 kVaults (ix p1))) + (((nI 90) * v6) / (nI 100))) + (((nI 50) * v8) / (nI 100)))), some (vi v17), some (vi σ12.2), some (vi v20), some (vi (σ22.1 + (v28 + v29))), some (vi (nI j21)), some (vi v24), some (vi v27), some (vi (v28 + v29))] [vi v31, vi (nI j21), vr 27 0] := by
                intro v31 ev31
                refine s_27 (pc := 249) 3 0 (j21) rfl rfl (by omega) ?_
                refine a_set (fun S32 eS32 => ?_)
                refine a_aload_n (pc := 250) 3 1 rfl rfl ?_
                refine g_12_notes (pc := 251) 3 2 rfl fl_X12_16 ?_
                refine a_iload (pc := 254) 3 3 rfl rfl ?_
                refine a_dup2 (pc := 256) 3 4 rfl rfl rfl ?_
                refine e_24 (pc := 257) 3 5 (j21) rfl rfl (by omega) ?_
                refine a_iload (pc := 258) 3 6 rfl rfl ?_
                refine a_iconst (pc := 260) 3 7 (v := (-1)) rfl (by decide) ?_
                have J270_49 : ∀ (v34 : Int32) (ev34 : (if v20 = (-1) then (v28 + v29) else (0)) = v34), BW O G fdX12_fails 0 0 (QV O G 0 0 PP) S32 270 [some (vr 12 0), some (vi p1), some (vi ((((S2.2.1 kReserves (ix p1)) + (S2.2.1 kVaults (ix p1))) + (((nI 90) * v6) / (nI 100))) + (((nI 50) * v8) / (nI 100)))), some (vi v17), some (vi σ12.2), some (vi v20), some (vi (σ22.1 + (v28 + v29))), some (vi (nI j21)), some (vi v24), some (vi v27), some (vi (v28 + v29))] [vi v34, vi (S32.2.1 kNotes j21), vi (nI j21), vr 24 0] := by
                  intro v34 ev34
                  refine a_iadd (pc := 270) 3 12 rfl ?_
                  refine s_24 (pc := 271) 3 13 (j21) rfl rfl (by omega) ?_
                  refine a_set (fun S35 eS35 => ?_)
                  refine a_aload_n (pc := 272) 3 14 rfl rfl ?_
                  refine g_12_bankOf (pc := 273) 3 15 rfl fl_X12_23 ?_
                  refine a_iload (pc := 276) 3 16 rfl rfl ?_
                  refine a_iload (pc := 278) 3 17 rfl rfl ?_
                  refine s_26 (pc := 280) 3 18 (j21) rfl rfl (by omega) ?_
                  refine a_set (fun S36 eS36 => ?_)
                  refine a_drop (ls2 := [some (vr 12 0), some (vi p1), some (vi ((((S2.2.1 kReserves (ix p1)) + (S2.2.1 kVaults (ix p1))) + (((nI 90) * v6) / (nI 100))) + (((nI 50) * v8) / (nI 100)))), some (vi v17), some (vi σ12.2), some (vi v20), some (vi (σ22.1 + (v28 + v29))), some (vi (nI j21)), none, none, none]) (⟨rfl, rfl, rfl, rfl, rfl, rfl, rfl, rfl, trivial⟩) ?_
                  exact J281_46 _ (by exact ((if_pos c161_22).trans ((lt_eq ev24).trans ((lt_eq ev27).trans ((lt_eq ev28).trans ((lt_eq ev29).trans ((lt_eq ev31).trans ((lt_eq eS32).trans ((lt_eq ev34).trans ((lt_eq eS35).trans (lt_eq eS36))))))))))) _ (by exact ((if_pos c161_22).trans ((lt_eq ev24).trans ((lt_eq ev27).trans ((lt_eq ev28).trans ((lt_eq ev29).trans ((lt_eq ev31).trans ((lt_eq eS32).trans ((lt_eq ev34).trans ((lt_eq eS35).trans (lt_eq eS36)))))))))))
                refine a_icmp_ne (pc := 261) (tgt := 269) 3 8 rfl (by decide) (fun c261_32 => ?_) (fun c261_32 => ?_)
                · refine a_iconst (pc := 269) 3 11 (v := 0) rfl (by decide) ?_
                  exact J270_49 _ (by exact (if_neg c261_32))
                · refine a_iload (pc := 264) 3 9 rfl rfl ?_
                  refine a_goto (pc := 266) (tgt := 270) 3 10 rfl (by decide) ?_
                  exact J270_49 _ (by exact (if_pos c261_32))
              refine a_icmp_ne (pc := 240) (tgt := 247) 2 44 rfl (by decide) (fun c240_29 => ?_) (fun c240_29 => ?_)
              · refine a_iload (pc := 247) 2 47 rfl rfl ?_
                exact J249_48 _ (by exact (if_neg c240_29))
              · refine a_iconst (pc := 243) 2 45 (v := 0) rfl (by decide) ?_
                refine a_goto (pc := 244) (tgt := 249) 2 46 rfl (by decide) ?_
                exact J249_48 _ (by exact (if_pos c240_29))
            refine a_if_ne (pc := 182) (tgt := 189) 2 11 rfl (by decide) (fun c182_24 => ?_) (fun c182_24 => ?_)
            · have h := h c182_24
              refine a_iload (pc := 189) 2 14 rfl rfl ?_
              refine a_i2l (pc := 191) 2 15 rfl ?_
              refine a_iload_n (pc := 192) 2 16 rfl rfl ?_
              refine a_i2l (pc := 193) 2 17 rfl ?_
              refine a_lmul (pc := 194) 2 18 rfl ?_
              refine a_iload (pc := 195) 2 19 rfl rfl ?_
              refine a_i2l (pc := 197) 2 20 rfl ?_
              have o26 := h
              refine a_ldiv (pc := 198) 2 21 rfl o26 ?_
              refine a_l2i (pc := 199) 2 22 rfl ?_
              exact J200_47 _ (by exact (if_neg c182_24))
            · refine a_iconst (pc := 185) 2 12 (v := 0) rfl (by decide) ?_
              refine a_goto (pc := 186) (tgt := 200) 2 13 rfl (by decide) ?_
              exact J200_47 _ (by exact (if_pos c182_24))
      exact L146_44 (16) 0 (by omega) (0, S19) rfl
    | succ m_j11 ih_j11 =>
      intro j11 hj_j11 σ12 eσ12
      refine a_iload (pc := 62) 0 42 rfl rfl ?_
      refine a_bipush (pc := 64) 0 43 (v := nI 16) rfl (by decide) ?_
      refine a_icmp_ge_f (pc := 66) (tgt := 123) 0 44 rfl (nI_ge (by omega) (by omega)) (by decide) ?_
      refine a_aload_n (pc := 69) 0 45 rfl rfl ?_
      refine g_12_bankOf (pc := 70) 0 46 rfl fl_X12_23 ?_
      refine a_iload (pc := 73) 0 47 rfl rfl ?_
      refine e_26 (pc := 75) 1 0 (j11) rfl rfl (by omega) ?_
      refine a_iload_n (pc := 76) 1 1 rfl rfl ?_
      have J91_50 : ∀ (v14 : Int32) (ev14 : (if (S2.2.1 kBankOf j11) = p1 then (S2.2.1 kAccounts j11) else (0)) = v14), BW O G fdX12_fails 0 0 (QV O G 0 0 PP) S2 91 [some (vr 12 0), some (vi p1), some (vi ((((S2.2.1 kReserves (ix p1)) + (S2.2.1 kVaults (ix p1))) + (((nI 90) * v6) / (nI 100))) + (((nI 50) * v8) / (nI 100)))), some (vi σ12.1), some (vi σ12.2), some (vi (nI j11)), none, none, none, none, none] [vi v14] := by
        intro v14 ev14
        refine a_istore (pc := 91) 1 9 (ls2 := [some (vr 12 0), some (vi p1), some (vi ((((S2.2.1 kReserves (ix p1)) + (S2.2.1 kVaults (ix p1))) + (((nI 90) * v6) / (nI 100))) + (((nI 50) * v8) / (nI 100)))), some (vi σ12.1), some (vi σ12.2), some (vi (nI j11)), some (vi v14), none, none, none, none]) rfl (by decide) rfl ?_
        refine a_iload_n (pc := 93) 1 10 rfl rfl ?_
        refine a_iload (pc := 94) 1 11 rfl rfl ?_
        refine a_bipush (pc := 96) 1 12 (v := nI 100) rfl (by decide) ?_
        refine a_callSi (pc := 98) 1 13 (c_X12_least (S := S2) v14 (nI 100)) rfl cs_X12_193 rfl (rm rfl) ?_
        refine a_seti (fun v15 ev15 => ?_)
        refine a_isub (pc := 101) 1 14 rfl ?_
        refine a_istore_n (pc := 102) 1 15 (ls2 := [some (vr 12 0), some (vi p1), some (vi ((((S2.2.1 kReserves (ix p1)) + (S2.2.1 kVaults (ix p1))) + (((nI 90) * v6) / (nI 100))) + (((nI 50) * v8) / (nI 100)))), some (vi (σ12.1 - v15)), some (vi σ12.2), some (vi (nI j11)), some (vi v14), none, none, none, none]) rfl rfl (by decide) rfl ?_
        refine a_iload (pc := 103) 1 16 rfl rfl ?_
        refine a_iload (pc := 105) 1 17 rfl rfl ?_
        refine a_bipush (pc := 107) 1 18 (v := nI 100) rfl (by decide) ?_
        refine a_isub (pc := 109) 1 19 rfl ?_
        refine a_iconst (pc := 110) 1 20 (v := 0) rfl (by decide) ?_
        refine a_callSi (pc := 111) 1 21 (c_X12_most (S := S2) (v14 - (nI 100)) 0) rfl cs_X12_161 rfl (rm rfl) ?_
        refine a_seti (fun v16 ev16 => ?_)
        refine a_iadd (pc := 114) 1 22 rfl ?_
        refine a_istore (pc := 115) 1 23 (ls2 := [some (vr 12 0), some (vi p1), some (vi ((((S2.2.1 kReserves (ix p1)) + (S2.2.1 kVaults (ix p1))) + (((nI 90) * v6) / (nI 100))) + (((nI 50) * v8) / (nI 100)))), some (vi (σ12.1 - v15)), some (vi (σ12.2 + v16)), some (vi (nI j11)), some (vi v14), none, none, none, none]) rfl (by decide) rfl ?_
        refine a_iinc (pc := 117) 1 24 (v := nI (j11 + 1)) (ls2 := [some (vr 12 0), some (vi p1), some (vi ((((S2.2.1 kReserves (ix p1)) + (S2.2.1 kVaults (ix p1))) + (((nI 90) * v6) / (nI 100))) + (((nI 50) * v8) / (nI 100)))), some (vi (σ12.1 - v15)), some (vi (σ12.2 + v16)), some (vi (nI (j11 + 1))), some (vi v14), none, none, none, none]) rfl rfl (iinc1 _) (by decide) rfl ?_
        refine a_goto (pc := 120) (tgt := 62) 1 25 rfl (by decide) ?_
        refine a_drop (ls2 := [some (vr 12 0), some (vi p1), some (vi ((((S2.2.1 kReserves (ix p1)) + (S2.2.1 kVaults (ix p1))) + (((nI 90) * v6) / (nI 100))) + (((nI 50) * v8) / (nI 100)))), some (vi (σ12.1 - v15)), some (vi (σ12.2 + v16)), some (vi (nI (j11 + 1))), none, none, none, none, none]) (⟨rfl, rfl, rfl, rfl, rfl, rfl, trivial⟩) ?_
        exact ih_j11 (j11 + 1) (by omega) (σ12.1 - v15, σ12.2 + v16) (by rw [iter_succ, eσ12]; unfold b62_X12_fails; exact ((lt_eq ev14).trans ((lt_eq ev15).trans (lt_eq ev16))))
      refine a_icmp_ne (pc := 77) (tgt := 90) 1 2 rfl (by decide) (fun c77_12 => ?_) (fun c77_12 => ?_)
      · refine a_iconst (pc := 90) 1 8 (v := 0) rfl (by decide) ?_
        exact J91_50 _ (by exact (if_neg c77_12))
      · refine a_aload_n (pc := 80) 1 3 rfl rfl ?_
        refine g_12_accounts (pc := 81) 1 4 rfl fl_X12_26 ?_
        refine a_iload (pc := 84) 1 5 rfl rfl ?_
        refine e_27 (pc := 86) 1 6 (j11) rfl rfl (by omega) ?_
        refine a_goto (pc := 87) (tgt := 91) 1 7 rfl (by decide) ?_
        exact J91_50 _ (by exact (if_pos c77_12))
  exact L62_43 (16) 0 (by omega) (v10, 0) rfl
theorem c_X12_fails {S : Mem} (p1 : Int32)   (h : ok_X12_fails S p1) : Cts mdX12_fails 1 23 [vr 12 0, vi p1] S (Is (some (vi (f_X12_fails S p1).1)) ((f_X12_fails S p1).2)) := Cts.of dtX12_fails (by decide +kernel) rfl rfl (Nat.le_of_ble_eq_true rfl) rfl (fun O G => w_X12_fails p1 h (fun _ _ h9 => ⟨by rw [h9], by rw [h9]⟩))
def f_X12_draws (S : Mem) (p1 : Int32) (p2 : Int32) : Int32 × Mem := lt (f_X12_least S (S.2.1 kVaults (ix (S.2.1 kBankOf (ix p1)))) p2) (fun (v3 : Int32) => lt (f_X12_least S (S.2.1 kReserves (ix (S.2.1 kBankOf (ix p1)))) (p2 - v3)) (fun (v5 : Int32) => lt ((S.1, upd2 S.2.1 kVaults (ix (S.2.1 kBankOf (ix p1))) ((S.2.1 kVaults (ix (S.2.1 kBankOf (ix p1)))) - v3), S.2.2)) (fun (S8 : Mem) => lt ((S8.1, upd2 S8.2.1 kReserves (ix (S.2.1 kBankOf (ix p1))) ((S8.2.1 kReserves (ix (S.2.1 kBankOf (ix p1)))) - v5), S8.2.2)) (fun (S11 : Mem) => lt ((S11.1, upd2 S11.2.1 kNotes (ix p1) ((S11.2.1 kNotes (ix p1)) + (v3 + v5)), S11.2.2)) (fun (S14 : Mem) => lt ((S14.1, upd2 S14.2.1 kAccounts (ix p1) ((S14.2.1 kAccounts (ix p1)) - (v3 + v5)), S14.2.2)) (fun (S17 : Mem) => lt (if (v3 + v5) ≤ 0 then (S17) else (if (nI 10) ≤ p1 then (S17) else (lt ((S17.1, upd2 S17.2.1 kDrawn (ix (((nI 4) * p1) + (S.2.1 kBankOf (ix p1)))) (S17.2.1 kDays 0), S17.2.2)) (fun (S21 : Mem) => S21)))) (fun (S22 : Mem) => lt (if p2 ≤ (v3 + v5) then (S22) else (lt ((f_X12_fails S22 (S.2.1 kBankOf (ix p1))).2) (fun (S25 : Mem) => lt ((f_X12_fails S22 (S.2.1 kBankOf (ix p1))).1) (fun (v26 : Int32) => S25)))) (fun (S27 : Mem) => (v3 + v5, S27)))))))))
def ok_X12_draws (S : Mem) (p1 : Int32) (p2 : Int32) : Prop := ((inb p1 16) ∧ (inb (S.2.1 kBankOf (ix p1)) 4) ∧ (∀ v3 : Int32, (f_X12_least S (S.2.1 kVaults (ix (S.2.1 kBankOf (ix p1)))) p2) = v3 → ((inb (S.2.1 kBankOf (ix p1)) 4) ∧ (∀ v5 : Int32, (f_X12_least S (S.2.1 kReserves (ix (S.2.1 kBankOf (ix p1)))) (p2 - v3)) = v5 → ((inb (S.2.1 kBankOf (ix p1)) 4) ∧ (inb (S.2.1 kBankOf (ix p1)) 4) ∧ (∀ S8 : Mem, ((S.1, upd2 S.2.1 kVaults (ix (S.2.1 kBankOf (ix p1))) ((S.2.1 kVaults (ix (S.2.1 kBankOf (ix p1)))) - v3), S.2.2)) = S8 → ((inb (S.2.1 kBankOf (ix p1)) 4) ∧ (inb (S.2.1 kBankOf (ix p1)) 4) ∧ (∀ S11 : Mem, ((S8.1, upd2 S8.2.1 kReserves (ix (S.2.1 kBankOf (ix p1))) ((S8.2.1 kReserves (ix (S.2.1 kBankOf (ix p1)))) - v5), S8.2.2)) = S11 → ((inb p1 16) ∧ (inb p1 16) ∧ (∀ S14 : Mem, ((S11.1, upd2 S11.2.1 kNotes (ix p1) ((S11.2.1 kNotes (ix p1)) + (v3 + v5)), S11.2.2)) = S14 → ((inb p1 16) ∧ (inb p1 16) ∧ (∀ S17 : Mem, ((S14.1, upd2 S14.2.1 kAccounts (ix p1) ((S14.2.1 kAccounts (ix p1)) - (v3 + v5)), S14.2.2)) = S17 → (((¬ ((v3 + v5) ≤ 0)) → (((¬ ((nI 10) ≤ p1)) → ((inb (((nI 4) * p1) + (S.2.1 kBankOf (ix p1))) 40))))) ∧ (∀ S22 : Mem, (if (v3 + v5) ≤ 0 then (S17) else (if (nI 10) ≤ p1 then (S17) else (lt ((S17.1, upd2 S17.2.1 kDrawn (ix (((nI 4) * p1) + (S.2.1 kBankOf (ix p1)))) (S17.2.1 kDays 0), S17.2.2)) (fun (S21 : Mem) => S21)))) = S22 → (((¬ (p2 ≤ (v3 + v5))) → ((ok_X12_fails S22 (S.2.1 kBankOf (ix p1))))))))))))))))))))
abbrev fdX12_draws : FD := (mdX12_draws, [], 2, 53, 0, 0)
set_option maxRecDepth 100000 in
set_option maxHeartbeats 4000000 in
theorem w_X12_draws {O : Om} {G : Cx} {S : Mem} {PP : Option AV → Mem → Prop} (p1 : Int32) (p2 : Int32)   (h : ok_X12_draws S p1 p2) (hP : ∀ x9 S9, f_X12_draws S p1 p2 = (x9, S9) → PP (some (vi x9)) S9) : BW O G fdX12_draws 0 0 (QV O G 0 0 PP) S 0 [some (vr 12 0), some (vi p1), some (vi p2), none, none, none, none, none] [] := by
  refine a_aload_n (pc := 0) 0 0 rfl rfl ?_
  refine g_12_bankOf (pc := 1) 0 1 rfl fl_X12_23 ?_
  refine a_iload_n (pc := 4) 0 2 rfl rfl ?_
  obtain ⟨o1, h⟩ := h
  refine e_26 (pc := 5) 0 3 (ix p1) rfl o1.1 o1.2 ?_
  refine a_istore_n (pc := 6) 0 4 (ls2 := [some (vr 12 0), some (vi p1), some (vi p2), some (vi (S.2.1 kBankOf (ix p1))), none, none, none, none]) rfl rfl (by decide) rfl ?_
  refine a_aload_n (pc := 7) 0 5 rfl rfl ?_
  refine g_12_vaults (pc := 8) 0 6 rfl fl_X12_53 ?_
  refine a_iload_n (pc := 11) 0 7 rfl rfl ?_
  obtain ⟨o2, h⟩ := h
  refine e_36 (pc := 12) 0 8 (ix (S.2.1 kBankOf (ix p1))) rfl o2.1 o2.2 ?_
  refine a_iload_n (pc := 13) 0 9 rfl rfl ?_
  refine a_callSi (pc := 14) 0 10 (c_X12_least (S := S) (S.2.1 kVaults (ix (S.2.1 kBankOf (ix p1)))) p2) rfl cs_X12_193 rfl (rm rfl) ?_
  refine a_seti (fun v3 ev3 => ?_)
  have h := h v3 ev3
  refine a_istore (pc := 17) 0 11 (ls2 := [some (vr 12 0), some (vi p1), some (vi p2), some (vi (S.2.1 kBankOf (ix p1))), some (vi v3), none, none, none]) rfl (by decide) rfl ?_
  refine a_aload_n (pc := 19) 0 12 rfl rfl ?_
  refine g_12_reserves (pc := 20) 0 13 rfl fl_X12_50 ?_
  refine a_iload_n (pc := 23) 0 14 rfl rfl ?_
  obtain ⟨o4, h⟩ := h
  refine e_35 (pc := 24) 0 15 (ix (S.2.1 kBankOf (ix p1))) rfl o4.1 o4.2 ?_
  refine a_iload_n (pc := 25) 0 16 rfl rfl ?_
  refine a_iload (pc := 26) 0 17 rfl rfl ?_
  refine a_isub (pc := 28) 0 18 rfl ?_
  refine a_callSi (pc := 29) 0 19 (c_X12_least (S := S) (S.2.1 kReserves (ix (S.2.1 kBankOf (ix p1)))) (p2 - v3)) rfl cs_X12_193 rfl (rm rfl) ?_
  refine a_seti (fun v5 ev5 => ?_)
  have h := h v5 ev5
  refine a_istore (pc := 32) 0 20 (ls2 := [some (vr 12 0), some (vi p1), some (vi p2), some (vi (S.2.1 kBankOf (ix p1))), some (vi v3), some (vi v5), none, none]) rfl (by decide) rfl ?_
  refine a_iload (pc := 34) 0 21 rfl rfl ?_
  refine a_iload (pc := 36) 0 22 rfl rfl ?_
  refine a_iadd (pc := 38) 0 23 rfl ?_
  refine a_istore (pc := 39) 0 24 (ls2 := [some (vr 12 0), some (vi p1), some (vi p2), some (vi (S.2.1 kBankOf (ix p1))), some (vi v3), some (vi v5), some (vi (v3 + v5)), none]) rfl (by decide) rfl ?_
  refine a_aload_n (pc := 41) 0 25 rfl rfl ?_
  refine g_12_vaults (pc := 42) 0 26 rfl fl_X12_53 ?_
  refine a_iload_n (pc := 45) 0 27 rfl rfl ?_
  refine a_dup2 (pc := 46) 0 28 rfl rfl rfl ?_
  obtain ⟨o6, h⟩ := h
  refine e_36 (pc := 47) 0 29 (ix (S.2.1 kBankOf (ix p1))) rfl o6.1 o6.2 ?_
  refine a_iload (pc := 48) 0 30 rfl rfl ?_
  refine a_isub (pc := 50) 0 31 rfl ?_
  obtain ⟨o7, h⟩ := h
  refine s_36 (pc := 51) 0 32 (ix (S.2.1 kBankOf (ix p1))) rfl o7.1 o7.2 ?_
  refine a_set (fun S8 eS8 => ?_)
  have h := h S8 eS8
  refine a_aload_n (pc := 52) 0 33 rfl rfl ?_
  refine g_12_reserves (pc := 53) 0 34 rfl fl_X12_50 ?_
  refine a_iload_n (pc := 56) 0 35 rfl rfl ?_
  refine a_dup2 (pc := 57) 0 36 rfl rfl rfl ?_
  obtain ⟨o9, h⟩ := h
  refine e_35 (pc := 58) 0 37 (ix (S.2.1 kBankOf (ix p1))) rfl o9.1 o9.2 ?_
  refine a_iload (pc := 59) 0 38 rfl rfl ?_
  refine a_isub (pc := 61) 0 39 rfl ?_
  obtain ⟨o10, h⟩ := h
  refine s_35 (pc := 62) 0 40 (ix (S.2.1 kBankOf (ix p1))) rfl o10.1 o10.2 ?_
  refine a_set (fun S11 eS11 => ?_)
  have h := h S11 eS11
  refine a_aload_n (pc := 63) 0 41 rfl rfl ?_
  refine g_12_notes (pc := 64) 0 42 rfl fl_X12_16 ?_
  refine a_iload_n (pc := 67) 0 43 rfl rfl ?_
  refine a_dup2 (pc := 68) 0 44 rfl rfl rfl ?_
  obtain ⟨o12, h⟩ := h
  refine e_24 (pc := 69) 0 45 (ix p1) rfl o12.1 o12.2 ?_
  refine a_iload (pc := 70) 0 46 rfl rfl ?_
  refine a_iadd (pc := 72) 0 47 rfl ?_
  obtain ⟨o13, h⟩ := h
  refine s_24 (pc := 73) 1 0 (ix p1) rfl o13.1 o13.2 ?_
  refine a_set (fun S14 eS14 => ?_)
  have h := h S14 eS14
  refine a_aload_n (pc := 74) 1 1 rfl rfl ?_
  refine g_12_accounts (pc := 75) 1 2 rfl fl_X12_26 ?_
  refine a_iload_n (pc := 78) 1 3 rfl rfl ?_
  refine a_dup2 (pc := 79) 1 4 rfl rfl rfl ?_
  obtain ⟨o15, h⟩ := h
  refine e_27 (pc := 80) 1 5 (ix p1) rfl o15.1 o15.2 ?_
  refine a_iload (pc := 81) 1 6 rfl rfl ?_
  refine a_isub (pc := 83) 1 7 rfl ?_
  obtain ⟨o16, h⟩ := h
  refine s_27 (pc := 84) 1 8 (ix p1) rfl o16.1 o16.2 ?_
  refine a_set (fun S17 eS17 => ?_)
  have h := h S17 eS17
  refine a_iload (pc := 85) 1 9 rfl rfl ?_
  obtain ⟨hr0, h⟩ := h
  have J110_27 : ∀ (S22 : Mem) (eS22 : (if (v3 + v5) ≤ 0 then (S17) else (if (nI 10) ≤ p1 then (S17) else (lt ((S17.1, upd2 S17.2.1 kDrawn (ix (((nI 4) * p1) + (S.2.1 kBankOf (ix p1)))) (S17.2.1 kDays 0), S17.2.2)) (fun (S21 : Mem) => S21)))) = S22), BW O G fdX12_draws 0 0 (QV O G 0 0 PP) S22 110 [some (vr 12 0), some (vi p1), some (vi p2), some (vi (S.2.1 kBankOf (ix p1))), some (vi v3), some (vi v5), some (vi (v3 + v5)), none] [] := by
    intro S22 eS22
    have h := h S22 eS22
    refine a_iload (pc := 110) 1 24 rfl rfl ?_
    refine a_iload_n (pc := 112) 1 25 rfl rfl ?_
    have J123_28 : ∀ (S27 : Mem) (eS27 : (if p2 ≤ (v3 + v5) then (S22) else (lt ((f_X12_fails S22 (S.2.1 kBankOf (ix p1))).2) (fun (S25 : Mem) => lt ((f_X12_fails S22 (S.2.1 kBankOf (ix p1))).1) (fun (v26 : Int32) => S25)))) = S27), BW O G fdX12_draws 0 0 (QV O G 0 0 PP) S27 123 [some (vr 12 0), some (vi p1), some (vi p2), some (vi (S.2.1 kBankOf (ix p1))), some (vi v3), some (vi v5), some (vi (v3 + v5)), none] [] := by
      intro S27 eS27
      refine a_iload (pc := 123) 1 31 rfl rfl ?_
      exact a_iret (pc := 125) 1 32 rfl rfl (hP _ _ (by unfold f_X12_draws; exact (lt_eq ev3).trans ((lt_eq ev5).trans ((lt_eq eS8).trans ((lt_eq eS11).trans ((lt_eq eS14).trans ((lt_eq eS17).trans ((lt_eq eS22).trans (lt_eq eS27)))))))))
    refine a_icmp_ge (pc := 113) (tgt := 123) 1 26 rfl (by decide) (fun c113_22 => ?_) (fun c113_22 => ?_)
    · exact J123_28 _ (by exact (if_pos c113_22))
    · have h := h c113_22
      refine a_aload_n (pc := 116) 1 27 rfl rfl ?_
      refine a_iload_n (pc := 117) 1 28 rfl rfl ?_
      have o24 := h
      refine a_callVi (pc := 118) 1 29 (c_X12_fails (S := S22) (S.2.1 kBankOf (ix p1)) o24) rfl cv_X12_199 (by decide) rfl rfl rfl (rm rfl) ?_
      refine a_set (fun S25 eS25 => ?_)
      refine a_seti (fun v26 ev26 => ?_)
      refine a_istore (pc := 121) 1 30 (ls2 := [some (vr 12 0), some (vi p1), some (vi p2), some (vi (S.2.1 kBankOf (ix p1))), some (vi v3), some (vi v5), some (vi (v3 + v5)), some (vi v26)]) rfl (by decide) rfl ?_
      refine a_drop (ls2 := [some (vr 12 0), some (vi p1), some (vi p2), some (vi (S.2.1 kBankOf (ix p1))), some (vi v3), some (vi v5), some (vi (v3 + v5)), none]) (⟨rfl, rfl, rfl, rfl, rfl, rfl, rfl, trivial⟩) ?_
      exact J123_28 _ (by exact ((if_neg c113_22).trans ((lt_eq eS25).trans (lt_eq ev26))))
  have h := hr0
  refine a_if_le (pc := 87) (tgt := 110) 1 10 rfl (by decide) (fun c87_17 => ?_) (fun c87_17 => ?_)
  · exact J110_27 _ (by exact (if_pos c87_17))
  · have h := h c87_17
    refine a_iload_n (pc := 90) 1 11 rfl rfl ?_
    refine a_bipush (pc := 91) 1 12 (v := nI 10) rfl (by decide) ?_
    refine a_icmp_ge (pc := 93) (tgt := 110) 1 13 rfl (by decide) (fun c93_18 => ?_) (fun c93_18 => ?_)
    · exact J110_27 _ (by exact ((if_neg c87_17).trans (if_pos c93_18)))
    · have h := h c93_18
      refine a_aload_n (pc := 96) 1 14 rfl rfl ?_
      refine g_12_drawn (pc := 97) 1 15 rfl fl_X12_41 ?_
      refine a_iconst (pc := 100) 1 16 (v := nI 4) rfl (by decide) ?_
      refine a_iload_n (pc := 101) 1 17 rfl rfl ?_
      refine a_imul (pc := 102) 1 18 rfl ?_
      refine a_iload_n (pc := 103) 1 19 rfl rfl ?_
      refine a_iadd (pc := 104) 1 20 rfl ?_
      refine a_aload_n (pc := 105) 1 21 rfl rfl ?_
      refine g_12_days (pc := 106) 1 22 rfl fl_X12_196 ?_
      have o20 := h
      refine s_32 (pc := 109) 1 23 (ix (((nI 4) * p1) + (S.2.1 kBankOf (ix p1)))) rfl o20.1 o20.2 ?_
      refine a_set (fun S21 eS21 => ?_)
      exact J110_27 _ (by exact ((if_neg c87_17).trans ((if_neg c93_18).trans (lt_eq eS21))))
theorem c_X12_draws {S : Mem} (p1 : Int32) (p2 : Int32)   (h : ok_X12_draws S p1 p2) : Cts mdX12_draws 2 53 [vr 12 0, vi p1, vi p2] S (Is (some (vi (f_X12_draws S p1 p2).1)) ((f_X12_draws S p1 p2).2)) := Cts.of dtX12_draws (by decide +kernel) rfl rfl (Nat.le_of_ble_eq_true rfl) rfl (fun O G => w_X12_draws p1 p2 h (fun _ _ h9 => ⟨by rw [h9], by rw [h9]⟩))
def f_X12_mayLend (S : Mem) (p1 : Int32) (p2 : Int32) (p3 : Int32) : Int32 := lt (if (S.2.1 kBankOf (ix p2)) = p1 then (if (nI 20) ≤ (S.2.1 kLoans 0) then (0) else (lt (f_X12_capital S p1) (fun (v5 : Int32) => lt (f_X12_loansOf S p1) (fun (v7 : Int32) => if v5 < (((v7 + p3) * (S.2.1 kCapitalRule 0)) / (nI 100)) then (0) else (1))))) else (0)) (fun (v9 : Int32) => v9)
def ok_X12_mayLend (S : Mem) (p1 : Int32) (p2 : Int32) (p3 : Int32) : Prop := ((inb p2 16) ∧ (((S.2.1 kBankOf (ix p2)) = p1) → (((¬ ((nI 20) ≤ (S.2.1 kLoans 0))) → ((ok_X12_capital S p1) ∧ (∀ v5 : Int32, (f_X12_capital S p1) = v5 → ((ok_X12_loansOf S p1))))))))
abbrev fdX12_mayLend : FD := (mdX12_mayLend, [], 2, 44, 0, 0)
set_option maxRecDepth 100000 in
set_option maxHeartbeats 4000000 in
theorem w_X12_mayLend {O : Om} {G : Cx} {S : Mem} {PP : Option AV → Mem → Prop} (p1 : Int32) (p2 : Int32) (p3 : Int32)   (h : ok_X12_mayLend S p1 p2 p3) (hP : ∀ x9, f_X12_mayLend S p1 p2 p3 = x9 → PP (some (vi x9)) S) : BW O G fdX12_mayLend 0 0 (QV O G 0 0 PP) S 0 [some (vr 12 0), some (vi p1), some (vi p2), some (vi p3)] [] := by
  refine a_aload_n (pc := 0) 0 0 rfl rfl ?_
  refine g_12_bankOf (pc := 1) 0 1 rfl fl_X12_23 ?_
  refine a_iload_n (pc := 4) 0 2 rfl rfl ?_
  obtain ⟨o1, h⟩ := h
  refine e_26 (pc := 5) 0 3 (ix p2) rfl o1.1 o1.2 ?_
  refine a_iload_n (pc := 6) 0 4 rfl rfl ?_
  have J47_9 : ∀ (v9 : Int32) (ev9 : (if (S.2.1 kBankOf (ix p2)) = p1 then (if (nI 20) ≤ (S.2.1 kLoans 0) then (0) else (lt (f_X12_capital S p1) (fun (v5 : Int32) => lt (f_X12_loansOf S p1) (fun (v7 : Int32) => if v5 < (((v7 + p3) * (S.2.1 kCapitalRule 0)) / (nI 100)) then (0) else (1))))) else (0)) = v9), BW O G fdX12_mayLend 0 0 (QV O G 0 0 PP) S 47 [some (vr 12 0), some (vi p1), some (vi p2), some (vi p3)] [vi v9] := by
    intro v9 ev9
    exact a_zret (pc := 47) 0 27 rfl (nar_b (by rw [← ev9]; repeat (first | exact Or.inl rfl | exact Or.inr rfl | assumption | split | dsimp only [lt]))) rfl (hP _ (by unfold f_X12_mayLend; exact lt_eq ev9))
  refine a_icmp_ne (pc := 7) (tgt := 46) 0 5 rfl (by decide) (fun c7_1 => ?_) (fun c7_1 => ?_)
  · refine a_iconst (pc := 46) 0 26 (v := 0) rfl (by decide) ?_
    exact J47_9 _ (by exact (if_neg c7_1))
  · have h := h c7_1
    refine a_aload_n (pc := 10) 0 6 rfl rfl ?_
    refine g_12_loans (pc := 11) 0 7 rfl fl_X12_148 ?_
    refine a_bipush (pc := 14) 0 8 (v := nI 20) rfl (by decide) ?_
    refine a_icmp_ge (pc := 16) (tgt := 46) 0 9 rfl (by decide) (fun c16_2 => ?_) (fun c16_2 => ?_)
    · refine a_iconst (pc := 46) 0 26 (v := 0) rfl (by decide) ?_
      exact J47_9 _ (by exact ((if_pos c7_1).trans (if_pos c16_2)))
    · have h := h c16_2
      refine a_aload_n (pc := 19) 0 10 rfl rfl ?_
      refine a_iload_n (pc := 20) 0 11 rfl rfl ?_
      obtain ⟨o4, h⟩ := h
      refine a_callVi (pc := 21) 0 12 (c_X12_capital (S := S) p1 o4) rfl cv_X12_229 (by decide) rfl rfl rfl (rm rfl) ?_
      refine a_seti (fun v5 ev5 => ?_)
      have h := h v5 ev5
      refine a_aload_n (pc := 24) 0 13 rfl rfl ?_
      refine a_iload_n (pc := 25) 0 14 rfl rfl ?_
      have o6 := h
      refine a_callVi (pc := 26) 0 15 (c_X12_loansOf (S := S) p1 o6) rfl cv_X12_155 (by decide) rfl rfl rfl (rm rfl) ?_
      refine a_seti (fun v7 ev7 => ?_)
      refine a_iload_n (pc := 29) 0 16 rfl rfl ?_
      refine a_iadd (pc := 30) 0 17 rfl ?_
      refine a_aload_n (pc := 31) 0 18 rfl rfl ?_
      refine g_12_capitalRule (pc := 32) 0 19 rfl fl_X12_7 ?_
      refine a_imul (pc := 35) 0 20 rfl ?_
      refine a_bipush (pc := 36) 0 21 (v := nI 100) rfl (by decide) ?_
      refine a_idiv (pc := 38) 0 22 rfl (by decide) ?_
      refine a_icmp_lt (pc := 39) (tgt := 46) 0 23 rfl (by decide) (fun c39_7 => ?_) (fun c39_7 => ?_)
      · refine a_iconst (pc := 46) 0 26 (v := 0) rfl (by decide) ?_
        exact J47_9 _ (by exact ((if_pos c7_1).trans ((if_neg c16_2).trans ((lt_eq ev5).trans ((lt_eq ev7).trans (if_pos c39_7))))))
      · refine a_iconst (pc := 42) 0 24 (v := 1) rfl (by decide) ?_
        refine a_goto (pc := 43) (tgt := 47) 0 25 rfl (by decide) ?_
        exact J47_9 _ (by exact ((if_pos c7_1).trans ((if_neg c16_2).trans ((lt_eq ev5).trans ((lt_eq ev7).trans (if_neg c39_7))))))
theorem c_X12_mayLend {S : Mem} (p1 : Int32) (p2 : Int32) (p3 : Int32)   (h : ok_X12_mayLend S p1 p2 p3) : Cts mdX12_mayLend 2 44 [vr 12 0, vi p1, vi p2, vi p3] S (Is (some (vi (f_X12_mayLend S p1 p2 p3))) (S)) := Cts.of dtX12_mayLend (by decide +kernel) rfl rfl (Nat.le_of_ble_eq_true rfl) rfl (fun O G => w_X12_mayLend p1 p2 p3 h (fun _ h9 => ⟨by rw [h9], rfl⟩))
theorem b_X12_mayLend (S : Mem) (p1 : Int32) (p2 : Int32) (p3 : Int32) : f_X12_mayLend S p1 p2 p3 = 0 ∨ f_X12_mayLend S p1 p2 p3 = 1 := by
  unfold f_X12_mayLend
  try dsimp only [lt]
  repeat (first | exact Or.inl rfl | exact Or.inr rfl | split | dsimp only [lt])
def f_X12_isLoan (S : Mem) (p1 : Int32) : Int32 := lt (f_X12_in S p1 0 ((S.2.1 kLoans 0) - 1)) (fun (v1 : Int32) => v1)
abbrev fdX12_isLoan : FD := (mdX12_isLoan, [], 1, 22, 0, 0)
set_option maxRecDepth 100000 in
set_option maxHeartbeats 4000000 in
theorem w_X12_isLoan {O : Om} {G : Cx} {S : Mem} {PP : Option AV → Mem → Prop} (p1 : Int32)   (hP : ∀ x9, f_X12_isLoan S p1 = x9 → PP (some (vi x9)) S) : BW O G fdX12_isLoan 0 0 (QV O G 0 0 PP) S 0 [some (vr 12 0), some (vi p1)] [] := by
  refine a_iload_n (pc := 0) 0 0 rfl rfl ?_
  refine a_iconst (pc := 1) 0 1 (v := 0) rfl (by decide) ?_
  refine a_aload_n (pc := 2) 0 2 rfl rfl ?_
  refine g_12_loans (pc := 3) 0 3 rfl fl_X12_148 ?_
  refine a_iconst (pc := 6) 0 4 (v := 1) rfl (by decide) ?_
  refine a_isub (pc := 7) 0 5 rfl ?_
  refine a_callSi (pc := 8) 0 6 (c_X12_in (S := S) p1 0 ((S.2.1 kLoans 0) - 1)) rfl cs_X12_141 rfl (rm rfl) ?_
  refine a_seti (fun v1 ev1 => ?_)
  exact a_zret (pc := 11) 0 7 rfl (nar_b (ev1 ▸ b_X12_in ..)) rfl (hP _ (by unfold f_X12_isLoan; exact lt_eq ev1))
theorem c_X12_isLoan {S : Mem} (p1 : Int32)   : Cts mdX12_isLoan 1 22 [vr 12 0, vi p1] S (Is (some (vi (f_X12_isLoan S p1))) (S)) := Cts.of dtX12_isLoan (by decide +kernel) rfl rfl (Nat.le_of_ble_eq_true rfl) rfl (fun O G => w_X12_isLoan p1 (fun _ h9 => ⟨by rw [h9], rfl⟩))
theorem b_X12_isLoan (S : Mem) (p1 : Int32) : f_X12_isLoan S p1 = 0 ∨ f_X12_isLoan S p1 = 1 := by
  unfold f_X12_isLoan
  try dsimp only [lt]
  repeat (first | exact Or.inl rfl | exact Or.inr rfl | exact b_X12_in .. | split | dsimp only [lt])
def f_X12_canPay (S : Mem) (p1 : Int32) (p2 : Int32) : Int32 := lt (f_X12_hasAccount S (S.2.1 kLoanHolders (ix p1))) (fun (v3 : Int32) => lt (if v3 = 0 then (0) else (lt (f_X12_free S (S.2.1 kLoanHolders (ix p1))) (fun (v6 : Int32) => if v6 < p2 then (0) else (if (S.2.1 kBankOf (ix (S.2.1 kLoanHolders (ix p1)))) = (S.2.1 kLoanBanks (ix p1)) then (1) else (if (S.2.1 kReserves (ix (S.2.1 kBankOf (ix (S.2.1 kLoanHolders (ix p1)))))) < p2 then (0) else (1)))))) (fun (v14 : Int32) => v14))
def ok_X12_canPay (S : Mem) (p1 : Int32) (p2 : Int32) : Prop := ((inb p1 20) ∧ (ok_X12_hasAccount S (S.2.1 kLoanHolders (ix p1))) ∧ (∀ v3 : Int32, (f_X12_hasAccount S (S.2.1 kLoanHolders (ix p1))) = v3 → (((¬ (v3 = 0)) → ((ok_X12_free S (S.2.1 kLoanHolders (ix p1))) ∧ (∀ v6 : Int32, (f_X12_free S (S.2.1 kLoanHolders (ix p1))) = v6 → (((¬ (v6 < p2)) → ((inb (S.2.1 kLoanHolders (ix p1)) 16) ∧ (inb p1 20) ∧ ((¬ ((S.2.1 kBankOf (ix (S.2.1 kLoanHolders (ix p1)))) = (S.2.1 kLoanBanks (ix p1)))) → ((inb (S.2.1 kLoanHolders (ix p1)) 16) ∧ (inb (S.2.1 kBankOf (ix (S.2.1 kLoanHolders (ix p1)))) 4))))))))))))
abbrev fdX12_canPay : FD := (mdX12_canPay, [], 1, 21, 0, 0)
set_option maxRecDepth 100000 in
set_option maxHeartbeats 4000000 in
theorem w_X12_canPay {O : Om} {G : Cx} {S : Mem} {PP : Option AV → Mem → Prop} (p1 : Int32) (p2 : Int32)   (h : ok_X12_canPay S p1 p2) (hP : ∀ x9, f_X12_canPay S p1 p2 = x9 → PP (some (vi x9)) S) : BW O G fdX12_canPay 0 0 (QV O G 0 0 PP) S 0 [some (vr 12 0), some (vi p1), some (vi p2), none] [] := by
  refine a_aload_n (pc := 0) 0 0 rfl rfl ?_
  refine g_12_loanHolders (pc := 1) 0 1 rfl fl_X12_75 ?_
  refine a_iload_n (pc := 4) 0 2 rfl rfl ?_
  obtain ⟨o1, h⟩ := h
  refine e_43 (pc := 5) 0 3 (ix p1) rfl o1.1 o1.2 ?_
  refine a_istore_n (pc := 6) 0 4 (ls2 := [some (vr 12 0), some (vi p1), some (vi p2), some (vi (S.2.1 kLoanHolders (ix p1)))]) rfl rfl (by decide) rfl ?_
  refine a_aload_n (pc := 7) 0 5 rfl rfl ?_
  refine a_iload_n (pc := 8) 0 6 rfl rfl ?_
  obtain ⟨o2, h⟩ := h
  refine a_callVi (pc := 9) 0 7 (c_X12_hasAccount (S := S) (S.2.1 kLoanHolders (ix p1)) o2) rfl cv_X12_184 (by decide) rfl rfl rfl (rm rfl) ?_
  refine a_seti (fun v3 ev3 => ?_)
  have h := h v3 ev3
  have J59_14 : ∀ (v14 : Int32) (ev14 : (if v3 = 0 then (0) else (lt (f_X12_free S (S.2.1 kLoanHolders (ix p1))) (fun (v6 : Int32) => if v6 < p2 then (0) else (if (S.2.1 kBankOf (ix (S.2.1 kLoanHolders (ix p1)))) = (S.2.1 kLoanBanks (ix p1)) then (1) else (if (S.2.1 kReserves (ix (S.2.1 kBankOf (ix (S.2.1 kLoanHolders (ix p1)))))) < p2 then (0) else (1)))))) = v14), BW O G fdX12_canPay 0 0 (QV O G 0 0 PP) S 59 [some (vr 12 0), some (vi p1), some (vi p2), some (vi (S.2.1 kLoanHolders (ix p1)))] [vi v14] := by
    intro v14 ev14
    exact a_zret (pc := 59) 0 35 rfl (nar_b (by rw [← ev14]; repeat (first | exact Or.inl rfl | exact Or.inr rfl | assumption | split | dsimp only [lt]))) rfl (hP _ (by unfold f_X12_canPay; exact (lt_eq ev3).trans (lt_eq ev14)))
  refine a_if_eq (pc := 12) (tgt := 58) 0 8 rfl (by decide) (fun c12_3 => ?_) (fun c12_3 => ?_)
  · refine a_iconst (pc := 58) 0 34 (v := 0) rfl (by decide) ?_
    exact J59_14 _ (by exact (if_pos c12_3))
  · have h := h c12_3
    refine a_aload_n (pc := 15) 0 9 rfl rfl ?_
    refine a_iload_n (pc := 16) 0 10 rfl rfl ?_
    obtain ⟨o5, h⟩ := h
    refine a_callVi (pc := 17) 0 11 (c_X12_free (S := S) (S.2.1 kLoanHolders (ix p1)) o5) rfl cv_X12_202 (by decide) rfl rfl rfl (rm rfl) ?_
    refine a_seti (fun v6 ev6 => ?_)
    have h := h v6 ev6
    refine a_iload_n (pc := 20) 0 12 rfl rfl ?_
    refine a_icmp_lt (pc := 21) (tgt := 58) 0 13 rfl (by decide) (fun c21_6 => ?_) (fun c21_6 => ?_)
    · refine a_iconst (pc := 58) 0 34 (v := 0) rfl (by decide) ?_
      exact J59_14 _ (by exact ((if_neg c12_3).trans ((lt_eq ev6).trans (if_pos c21_6))))
    · have h := h c21_6
      refine a_aload_n (pc := 24) 0 14 rfl rfl ?_
      refine g_12_bankOf (pc := 25) 0 15 rfl fl_X12_23 ?_
      refine a_iload_n (pc := 28) 0 16 rfl rfl ?_
      obtain ⟨o8, h⟩ := h
      refine e_26 (pc := 29) 0 17 (ix (S.2.1 kLoanHolders (ix p1))) rfl o8.1 o8.2 ?_
      refine a_aload_n (pc := 30) 0 18 rfl rfl ?_
      refine g_12_loanBanks (pc := 31) 0 19 rfl fl_X12_78 ?_
      refine a_iload_n (pc := 34) 0 20 rfl rfl ?_
      obtain ⟨o9, h⟩ := h
      refine e_44 (pc := 35) 0 21 (ix p1) rfl o9.1 o9.2 ?_
      refine a_icmp_eq (pc := 36) (tgt := 54) 0 22 rfl (by decide) (fun c36_9 => ?_) (fun c36_9 => ?_)
      · refine a_iconst (pc := 54) 0 32 (v := 1) rfl (by decide) ?_
        refine a_goto (pc := 55) (tgt := 59) 0 33 rfl (by decide) ?_
        exact J59_14 _ (by exact ((if_neg c12_3).trans ((lt_eq ev6).trans ((if_neg c21_6).trans (if_pos c36_9)))))
      · have h := h c36_9
        refine a_aload_n (pc := 39) 0 23 rfl rfl ?_
        refine g_12_reserves (pc := 40) 0 24 rfl fl_X12_50 ?_
        refine a_aload_n (pc := 43) 0 25 rfl rfl ?_
        refine g_12_bankOf (pc := 44) 0 26 rfl fl_X12_23 ?_
        refine a_iload_n (pc := 47) 0 27 rfl rfl ?_
        obtain ⟨o11, h⟩ := h
        refine e_26 (pc := 48) 0 28 (ix (S.2.1 kLoanHolders (ix p1))) rfl o11.1 o11.2 ?_
        have o12 := h
        refine e_35 (pc := 49) 0 29 (ix (S.2.1 kBankOf (ix (S.2.1 kLoanHolders (ix p1))))) rfl o12.1 o12.2 ?_
        refine a_iload_n (pc := 50) 0 30 rfl rfl ?_
        refine a_icmp_lt (pc := 51) (tgt := 58) 0 31 rfl (by decide) (fun c51_12 => ?_) (fun c51_12 => ?_)
        · refine a_iconst (pc := 58) 0 34 (v := 0) rfl (by decide) ?_
          exact J59_14 _ (by exact ((if_neg c12_3).trans ((lt_eq ev6).trans ((if_neg c21_6).trans ((if_neg c36_9).trans (if_pos c51_12))))))
        · refine a_iconst (pc := 54) 0 32 (v := 1) rfl (by decide) ?_
          refine a_goto (pc := 55) (tgt := 59) 0 33 rfl (by decide) ?_
          exact J59_14 _ (by exact ((if_neg c12_3).trans ((lt_eq ev6).trans ((if_neg c21_6).trans ((if_neg c36_9).trans (if_neg c51_12))))))
theorem c_X12_canPay {S : Mem} (p1 : Int32) (p2 : Int32)   (h : ok_X12_canPay S p1 p2) : Cts mdX12_canPay 1 21 [vr 12 0, vi p1, vi p2] S (Is (some (vi (f_X12_canPay S p1 p2))) (S)) := Cts.of dtX12_canPay (by decide +kernel) rfl rfl (Nat.le_of_ble_eq_true rfl) rfl (fun O G => w_X12_canPay p1 p2 h (fun _ h9 => ⟨by rw [h9], rfl⟩))
theorem b_X12_canPay (S : Mem) (p1 : Int32) (p2 : Int32) : f_X12_canPay S p1 p2 = 0 ∨ f_X12_canPay S p1 p2 = 1 := by
  unfold f_X12_canPay
  try dsimp only [lt]
  repeat (first | exact Or.inl rfl | exact Or.inr rfl | exact b_X12_hasAccount .. | split | dsimp only [lt])
def f_X12_endsMoney (S : Mem) (p1 : Int32) (p2 : Int32) : Mem := lt ((S.1, upd2 S.2.1 kAccounts (ix (S.2.1 kLoanHolders (ix p1))) ((S.2.1 kAccounts (ix (S.2.1 kLoanHolders (ix p1)))) - p2), S.2.2)) (fun (S5 : Mem) => lt (if (S5.2.1 kBankOf (ix (S.2.1 kLoanHolders (ix p1)))) = (S.2.1 kLoanBanks (ix p1)) then (S5) else (lt ((S5.1, upd2 S5.2.1 kReserves (ix (S5.2.1 kBankOf (ix (S.2.1 kLoanHolders (ix p1))))) ((S5.2.1 kReserves (ix (S5.2.1 kBankOf (ix (S.2.1 kLoanHolders (ix p1)))))) - p2), S5.2.2)) (fun (S11 : Mem) => if (S.2.1 kLoanBanks (ix p1)) = (nI 4) then (S11) else (lt ((S11.1, upd2 S11.2.1 kReserves (ix (S.2.1 kLoanBanks (ix p1))) ((S11.2.1 kReserves (ix (S.2.1 kLoanBanks (ix p1)))) + p2), S11.2.2)) (fun (S15 : Mem) => S15))))) (fun (S16 : Mem) => S16))
def ok_X12_endsMoney (S : Mem) (p1 : Int32) (p2 : Int32) : Prop := ((inb p1 20) ∧ (inb p1 20) ∧ (inb (S.2.1 kLoanHolders (ix p1)) 16) ∧ (inb (S.2.1 kLoanHolders (ix p1)) 16) ∧ (∀ S5 : Mem, ((S.1, upd2 S.2.1 kAccounts (ix (S.2.1 kLoanHolders (ix p1))) ((S.2.1 kAccounts (ix (S.2.1 kLoanHolders (ix p1)))) - p2), S.2.2)) = S5 → ((inb (S.2.1 kLoanHolders (ix p1)) 16) ∧ ((¬ ((S5.2.1 kBankOf (ix (S.2.1 kLoanHolders (ix p1)))) = (S.2.1 kLoanBanks (ix p1)))) → ((inb (S.2.1 kLoanHolders (ix p1)) 16) ∧ (inb (S5.2.1 kBankOf (ix (S.2.1 kLoanHolders (ix p1)))) 4) ∧ (inb (S5.2.1 kBankOf (ix (S.2.1 kLoanHolders (ix p1)))) 4) ∧ (∀ S11 : Mem, ((S5.1, upd2 S5.2.1 kReserves (ix (S5.2.1 kBankOf (ix (S.2.1 kLoanHolders (ix p1))))) ((S5.2.1 kReserves (ix (S5.2.1 kBankOf (ix (S.2.1 kLoanHolders (ix p1)))))) - p2), S5.2.2)) = S11 → (((¬ ((S.2.1 kLoanBanks (ix p1)) = (nI 4))) → ((inb (S.2.1 kLoanBanks (ix p1)) 4) ∧ (inb (S.2.1 kLoanBanks (ix p1)) 4))))))))))
abbrev fdX12_endsMoney : FD := (mdX12_endsMoney, [], 0, 0, 0, 0)
set_option maxRecDepth 100000 in
set_option maxHeartbeats 4000000 in
theorem w_X12_endsMoney {O : Om} {G : Cx} {S : Mem} {PP : Option AV → Mem → Prop} (p1 : Int32) (p2 : Int32)   (h : ok_X12_endsMoney S p1 p2) (hP : ∀ S9, f_X12_endsMoney S p1 p2 = S9 → PP none S9) : BW O G fdX12_endsMoney 0 0 (QV O G 0 0 PP) S 0 [some (vr 12 0), some (vi p1), some (vi p2), none, none] [] := by
  refine a_aload_n (pc := 0) 0 0 rfl rfl ?_
  refine g_12_loanHolders (pc := 1) 0 1 rfl fl_X12_75 ?_
  refine a_iload_n (pc := 4) 0 2 rfl rfl ?_
  obtain ⟨o1, h⟩ := h
  refine e_43 (pc := 5) 0 3 (ix p1) rfl o1.1 o1.2 ?_
  refine a_istore_n (pc := 6) 0 4 (ls2 := [some (vr 12 0), some (vi p1), some (vi p2), some (vi (S.2.1 kLoanHolders (ix p1))), none]) rfl rfl (by decide) rfl ?_
  refine a_aload_n (pc := 7) 0 5 rfl rfl ?_
  refine g_12_loanBanks (pc := 8) 0 6 rfl fl_X12_78 ?_
  refine a_iload_n (pc := 11) 0 7 rfl rfl ?_
  obtain ⟨o2, h⟩ := h
  refine e_44 (pc := 12) 0 8 (ix p1) rfl o2.1 o2.2 ?_
  refine a_istore (pc := 13) 0 9 (ls2 := [some (vr 12 0), some (vi p1), some (vi p2), some (vi (S.2.1 kLoanHolders (ix p1))), some (vi (S.2.1 kLoanBanks (ix p1)))]) rfl (by decide) rfl ?_
  refine a_aload_n (pc := 15) 0 10 rfl rfl ?_
  refine g_12_accounts (pc := 16) 0 11 rfl fl_X12_26 ?_
  refine a_iload_n (pc := 19) 0 12 rfl rfl ?_
  refine a_dup2 (pc := 20) 0 13 rfl rfl rfl ?_
  obtain ⟨o3, h⟩ := h
  refine e_27 (pc := 21) 0 14 (ix (S.2.1 kLoanHolders (ix p1))) rfl o3.1 o3.2 ?_
  refine a_iload_n (pc := 22) 0 15 rfl rfl ?_
  refine a_isub (pc := 23) 0 16 rfl ?_
  obtain ⟨o4, h⟩ := h
  refine s_27 (pc := 24) 0 17 (ix (S.2.1 kLoanHolders (ix p1))) rfl o4.1 o4.2 ?_
  refine a_set (fun S5 eS5 => ?_)
  have h := h S5 eS5
  refine a_aload_n (pc := 25) 0 18 rfl rfl ?_
  refine g_12_bankOf (pc := 26) 0 19 rfl fl_X12_23 ?_
  refine a_iload_n (pc := 29) 0 20 rfl rfl ?_
  obtain ⟨o6, h⟩ := h
  refine e_26 (pc := 30) 0 21 (ix (S.2.1 kLoanHolders (ix p1))) rfl o6.1 o6.2 ?_
  refine a_iload (pc := 31) 0 22 rfl rfl ?_
  have J68_16 : ∀ (S16 : Mem) (eS16 : (if (S5.2.1 kBankOf (ix (S.2.1 kLoanHolders (ix p1)))) = (S.2.1 kLoanBanks (ix p1)) then (S5) else (lt ((S5.1, upd2 S5.2.1 kReserves (ix (S5.2.1 kBankOf (ix (S.2.1 kLoanHolders (ix p1))))) ((S5.2.1 kReserves (ix (S5.2.1 kBankOf (ix (S.2.1 kLoanHolders (ix p1)))))) - p2), S5.2.2)) (fun (S11 : Mem) => if (S.2.1 kLoanBanks (ix p1)) = (nI 4) then (S11) else (lt ((S11.1, upd2 S11.2.1 kReserves (ix (S.2.1 kLoanBanks (ix p1))) ((S11.2.1 kReserves (ix (S.2.1 kLoanBanks (ix p1)))) + p2), S11.2.2)) (fun (S15 : Mem) => S15))))) = S16), BW O G fdX12_endsMoney 0 0 (QV O G 0 0 PP) S16 68 [some (vr 12 0), some (vi p1), some (vi p2), some (vi (S.2.1 kLoanHolders (ix p1))), some (vi (S.2.1 kLoanBanks (ix p1)))] [] := by
    intro S16 eS16
    exact a_vret (pc := 68) 0 46 rfl rfl (hP _ (by unfold f_X12_endsMoney; exact (lt_eq eS5).trans (lt_eq eS16)))
  refine a_icmp_eq (pc := 33) (tgt := 68) 0 23 rfl (by decide) (fun c33_6 => ?_) (fun c33_6 => ?_)
  · exact J68_16 _ (by exact (if_pos c33_6))
  · have h := h c33_6
    refine a_aload_n (pc := 36) 0 24 rfl rfl ?_
    refine g_12_reserves (pc := 37) 0 25 rfl fl_X12_50 ?_
    refine a_aload_n (pc := 40) 0 26 rfl rfl ?_
    refine g_12_bankOf (pc := 41) 0 27 rfl fl_X12_23 ?_
    refine a_iload_n (pc := 44) 0 28 rfl rfl ?_
    obtain ⟨o8, h⟩ := h
    refine e_26 (pc := 45) 0 29 (ix (S.2.1 kLoanHolders (ix p1))) rfl o8.1 o8.2 ?_
    refine a_dup2 (pc := 46) 0 30 rfl rfl rfl ?_
    obtain ⟨o9, h⟩ := h
    refine e_35 (pc := 47) 0 31 (ix (S5.2.1 kBankOf (ix (S.2.1 kLoanHolders (ix p1))))) rfl o9.1 o9.2 ?_
    refine a_iload_n (pc := 48) 0 32 rfl rfl ?_
    refine a_isub (pc := 49) 0 33 rfl ?_
    obtain ⟨o10, h⟩ := h
    refine s_35 (pc := 50) 0 34 (ix (S5.2.1 kBankOf (ix (S.2.1 kLoanHolders (ix p1))))) rfl o10.1 o10.2 ?_
    refine a_set (fun S11 eS11 => ?_)
    have h := h S11 eS11
    refine a_iload (pc := 51) 0 35 rfl rfl ?_
    refine a_iconst (pc := 53) 0 36 (v := nI 4) rfl (by decide) ?_
    refine a_icmp_eq (pc := 54) (tgt := 68) 0 37 rfl (by decide) (fun c54_11 => ?_) (fun c54_11 => ?_)
    · exact J68_16 _ (by exact ((if_neg c33_6).trans ((lt_eq eS11).trans (if_pos c54_11))))
    · have h := h c54_11
      refine a_aload_n (pc := 57) 0 38 rfl rfl ?_
      refine g_12_reserves (pc := 58) 0 39 rfl fl_X12_50 ?_
      refine a_iload (pc := 61) 0 40 rfl rfl ?_
      refine a_dup2 (pc := 63) 0 41 rfl rfl rfl ?_
      obtain ⟨o13, h⟩ := h
      refine e_35 (pc := 64) 0 42 (ix (S.2.1 kLoanBanks (ix p1))) rfl o13.1 o13.2 ?_
      refine a_iload_n (pc := 65) 0 43 rfl rfl ?_
      refine a_iadd (pc := 66) 0 44 rfl ?_
      have o14 := h
      refine s_35 (pc := 67) 0 45 (ix (S.2.1 kLoanBanks (ix p1))) rfl o14.1 o14.2 ?_
      refine a_set (fun S15 eS15 => ?_)
      exact J68_16 _ (by exact ((if_neg c33_6).trans ((lt_eq eS11).trans ((if_neg c54_11).trans (lt_eq eS15)))))
theorem c_X12_endsMoney {S : Mem} (p1 : Int32) (p2 : Int32)   (h : ok_X12_endsMoney S p1 p2) : Cts mdX12_endsMoney 0 0 [vr 12 0, vi p1, vi p2] S (Is none (f_X12_endsMoney S p1 p2)) := Cts.of dtX12_endsMoney (by decide +kernel) rfl rfl (Nat.le_of_ble_eq_true rfl) rfl (fun O G => w_X12_endsMoney p1 p2 h (fun _ h9 => ⟨rfl, h9.symm⟩))
def b4_X12_nextBid (S : Mem) (j1 : Nat) (σ2 : Int32) : Int32 := lt (if (S.2.1 kAreSeen j1) = 0 then (if σ2 = (-1) then (nI j1) else (if (S.2.1 kBidPrices j1) ≤ (S.2.1 kBidPrices (ix σ2)) then (σ2) else (nI j1))) else (σ2)) (fun (v10 : Int32) => v10)
def f_X12_nextBid (S : Mem)  : Int32 := lt (iter (b4_X12_nextBid S) (-1) (ix (S.2.1 kBids 0))) (fun (σ2 : Int32) => σ2)
def ok_X12_nextBid (S : Mem)  : Prop := ((∀ j1 : Nat, j1 ≤ ix (S.2.1 kBids 0) → ∀ σ2 : Int32, iter (b4_X12_nextBid S) (-1) j1 = σ2 → S.2.1 kBids 0 = nI (ix (S.2.1 kBids 0))) ∧ (∀ j1 : Nat, j1 < ix (S.2.1 kBids 0) → ∀ σ2 : Int32, iter (b4_X12_nextBid S) (-1) j1 = σ2 → ((j1 < 12) ∧ (((S.2.1 kAreSeen j1) = 0) → (((¬ (σ2 = (-1))) → ((j1 < 12) ∧ (inb σ2 12))))))))
abbrev fdX12_nextBid : FD := (mdX12_nextBid, [], 0, 0, 0, 0)
set_option maxRecDepth 100000 in
set_option maxHeartbeats 4000000 in
theorem w_X12_nextBid {O : Om} {G : Cx} {S : Mem} {PP : Option AV → Mem → Prop}    (h : ok_X12_nextBid S ) (hP : ∀ x9, f_X12_nextBid S  = x9 → PP (some (vi x9)) S) : BW O G fdX12_nextBid 0 0 (QV O G 0 0 PP) S 0 [some (vr 12 0), none, none] [] := by
  refine a_iconst (pc := 0) 0 0 (v := (-1)) rfl (by decide) ?_
  refine a_istore_n (pc := 1) 0 1 (ls2 := [some (vr 12 0), some (vi (-1)), none]) rfl rfl (by decide) rfl ?_
  refine a_iconst (pc := 2) 0 2 (v := 0) rfl (by decide) ?_
  refine a_istore_n (pc := 3) 0 3 (ls2 := [some (vr 12 0), some (vi (-1)), some (vi 0)]) rfl rfl (by decide) rfl ?_
  obtain ⟨o3, hb_j1⟩ := h
  have nlt_j1 := ix_lt (S.2.1 kBids 0)
  have L4_10 : ∀ (m_j1 j1 : Nat), j1 + m_j1 = ix (S.2.1 kBids 0) → ∀ (σ2 : Int32), iter (b4_X12_nextBid S) (-1) j1 = σ2 → BW O G fdX12_nextBid 0 0 (QV O G 0 0 PP) S 4 [some (vr 12 0), some (vi σ2), some (vi (nI j1))] [] := by
    intro m_j1
    induction m_j1 with
    | zero =>
      intro j1 hj_j1 σ2 eσ2
      have o3 := o3 j1 (by omega) σ2 eσ2
      have hn_j1 : j1 = ix (S.2.1 kBids 0) := by omega
      rw [hn_j1] at eσ2
      refine a_iload_n (pc := 4) 0 4 rfl rfl ?_
      refine a_aload_n (pc := 5) 0 5 rfl rfl ?_
      refine g_12_bids (pc := 6) 0 6 rfl fl_X12_252 ?_
      refine a_icmp_ge_t (pc := 9) (tgt := 53) 0 7 rfl (by decide) (bd_t (o3) (by omega)) ?_
      refine a_iload_n (pc := 53) 0 31 rfl rfl ?_
      exact a_iret (pc := 54) 0 32 rfl rfl (hP _ (by unfold f_X12_nextBid; exact lt_eq eσ2))
    | succ m_j1 ih_j1 =>
      intro j1 hj_j1 σ2 eσ2
      have o3 := o3 j1 (by omega) σ2 eσ2
      have h := hb_j1 j1 (by omega) σ2 eσ2
      refine a_iload_n (pc := 4) 0 4 rfl rfl ?_
      refine a_aload_n (pc := 5) 0 5 rfl rfl ?_
      refine g_12_bids (pc := 6) 0 6 rfl fl_X12_252 ?_
      refine a_icmp_ge_f (pc := 9) (tgt := 53) 0 7 rfl (bd_f (o3) (by omega)) (by decide) ?_
      refine a_aload_n (pc := 12) 0 8 rfl rfl ?_
      refine g_12_areSeen (pc := 13) 0 9 rfl fl_X12_132 ?_
      refine a_iload_n (pc := 16) 0 10 rfl rfl ?_
      obtain ⟨o4, h⟩ := h
      refine e_62 (pc := 17) 0 11 (j1) rfl rfl o4 ?_
      have J46_11 : ∀ (v10 : Int32) (ev10 : (if (S.2.1 kAreSeen j1) = 0 then (if σ2 = (-1) then (nI j1) else (if (S.2.1 kBidPrices j1) ≤ (S.2.1 kBidPrices (ix σ2)) then (σ2) else (nI j1))) else (σ2)) = v10), BW O G fdX12_nextBid 0 0 (QV O G 0 0 PP) S 46 [some (vr 12 0), some (vi σ2), some (vi (nI j1))] [vi v10] := by
        intro v10 ev10
        refine a_istore_n (pc := 46) 0 28 (ls2 := [some (vr 12 0), some (vi v10), some (vi (nI j1))]) rfl rfl (by decide) rfl ?_
        refine a_iinc (pc := 47) 0 29 (v := nI (j1 + 1)) (ls2 := [some (vr 12 0), some (vi v10), some (vi (nI (j1 + 1)))]) rfl rfl (iinc1 _) (by decide) rfl ?_
        refine a_goto (pc := 50) (tgt := 4) 0 30 rfl (by decide) ?_
        exact ih_j1 (j1 + 1) (by omega) v10 (by rw [iter_succ, eσ2]; unfold b4_X12_nextBid; exact (lt_eq ev10))
      refine a_if_ne (pc := 18) (tgt := 45) 0 12 rfl (by decide) (fun c18_4 => ?_) (fun c18_4 => ?_)
      · refine a_iload_n (pc := 45) 0 27 rfl rfl ?_
        exact J46_11 _ (by exact (if_neg c18_4))
      · have h := h c18_4
        refine a_iload_n (pc := 21) 0 13 rfl rfl ?_
        refine a_iconst (pc := 22) 0 14 (v := (-1)) rfl (by decide) ?_
        refine a_icmp_eq (pc := 23) (tgt := 41) 0 15 rfl (by decide) (fun c23_5 => ?_) (fun c23_5 => ?_)
        · refine a_iload_n (pc := 41) 0 25 rfl rfl ?_
          refine a_goto (pc := 42) (tgt := 46) 0 26 rfl (by decide) ?_
          exact J46_11 _ (by exact ((if_pos c18_4).trans (if_pos c23_5)))
        · have h := h c23_5
          refine a_aload_n (pc := 26) 0 16 rfl rfl ?_
          refine g_12_bidPrices (pc := 27) 0 17 rfl fl_X12_123 ?_
          refine a_iload_n (pc := 30) 0 18 rfl rfl ?_
          obtain ⟨o7, h⟩ := h
          refine e_59 (pc := 31) 0 19 (j1) rfl rfl o7 ?_
          refine a_aload_n (pc := 32) 0 20 rfl rfl ?_
          refine g_12_bidPrices (pc := 33) 0 21 rfl fl_X12_123 ?_
          refine a_iload_n (pc := 36) 0 22 rfl rfl ?_
          have o8 := h
          refine e_59 (pc := 37) 0 23 (ix σ2) rfl o8.1 o8.2 ?_
          refine a_icmp_le (pc := 38) (tgt := 45) 0 24 rfl (by decide) (fun c38_8 => ?_) (fun c38_8 => ?_)
          · refine a_iload_n (pc := 45) 0 27 rfl rfl ?_
            exact J46_11 _ (by exact ((if_pos c18_4).trans ((if_neg c23_5).trans (if_pos c38_8))))
          · refine a_iload_n (pc := 41) 0 25 rfl rfl ?_
            refine a_goto (pc := 42) (tgt := 46) 0 26 rfl (by decide) ?_
            exact J46_11 _ (by exact ((if_pos c18_4).trans ((if_neg c23_5).trans (if_neg c38_8))))
  exact L4_10 (ix (S.2.1 kBids 0)) 0 (by omega) (-1) rfl
theorem c_X12_nextBid {S : Mem}    (h : ok_X12_nextBid S ) : Cts mdX12_nextBid 0 0 [vr 12 0] S (Is (some (vi (f_X12_nextBid S ))) (S)) := Cts.of dtX12_nextBid (by decide +kernel) rfl rfl (Nat.le_of_ble_eq_true rfl) rfl (fun O G => w_X12_nextBid  h (fun _ h9 => ⟨by rw [h9], rfl⟩))
def b7_X12_takesBids  (j1 : Nat) (σ2 : Mem) : Mem := lt ((σ2.1, upd2 σ2.2.1 kPromised j1 0, σ2.2.2)) (fun (S3 : Mem) => S3)
def b30_X12_takesBids  (j4 : Nat) (σ5 : Mem) : Mem := lt ((σ5.1, upd2 σ5.2.1 kAreSeen j4 0, σ5.2.2)) (fun (S8 : Mem) => lt ((S8.1, upd2 S8.2.1 kBidGets j4 0, S8.2.2)) (fun (S10 : Mem) => S10))
def b67_X12_takesBids  (_ : Nat) (σ13 : Int32 × Int32 × Int32 × Mem) : (Int32 × Int32 × Int32 × Mem) ⊕ (Int32 × Int32 × Int32 × Mem) := if σ13.2.2.1 = (-1) then (.inr (σ13.1, σ13.2.1, σ13.2.2.1, σ13.2.2.2)) else (if σ13.1 ≤ 0 then (.inr (σ13.1, σ13.2.1, σ13.2.2.1, σ13.2.2.2)) else (lt (f_X12_least σ13.2.2.2 σ13.1 (σ13.2.2.2.2.1 kBidNumbers (ix σ13.2.2.1))) (fun (v18 : Int32) => lt (f_X12_up σ13.2.2.2 (v18 * (σ13.2.2.2.2.1 kBidPrices (ix σ13.2.2.1))) (nI 100)) (fun (v21 : Int32) => lt ((σ13.2.2.2.1, upd2 σ13.2.2.2.2.1 kAreSeen (ix σ13.2.2.1) 1, σ13.2.2.2.2.2)) (fun (S23 : Mem) => lt (if (S23.2.1 kReserves (ix (S23.2.1 kBidBanks (ix σ13.2.2.1)))) < ((S23.2.1 kPromised (ix (S23.2.1 kBidBanks (ix σ13.2.2.1)))) + v21) then (σ13.1) else (lt ((S23.1, upd2 S23.2.1 kPromised (ix (S23.2.1 kBidBanks (ix σ13.2.2.1))) ((S23.2.1 kPromised (ix (S23.2.1 kBidBanks (ix σ13.2.2.1)))) + v21), S23.2.2)) (fun (S32 : Mem) => lt ((S32.1, upd2 S32.2.1 kBidGets (ix σ13.2.2.1) v18, S32.2.2)) (fun (S34 : Mem) => σ13.1 - v18)))) (fun (v36 : Int32) => lt (if (S23.2.1 kReserves (ix (S23.2.1 kBidBanks (ix σ13.2.2.1)))) < ((S23.2.1 kPromised (ix (S23.2.1 kBidBanks (ix σ13.2.2.1)))) + v21) then (σ13.2.1) else (lt ((S23.1, upd2 S23.2.1 kPromised (ix (S23.2.1 kBidBanks (ix σ13.2.2.1))) ((S23.2.1 kPromised (ix (S23.2.1 kBidBanks (ix σ13.2.2.1)))) + v21), S23.2.2)) (fun (S32 : Mem) => lt ((S32.1, upd2 S32.2.1 kBidGets (ix σ13.2.2.1) v18, S32.2.2)) (fun (S34 : Mem) => S34.2.1 kBidPrices (ix σ13.2.2.1))))) (fun (v37 : Int32) => lt (if (S23.2.1 kReserves (ix (S23.2.1 kBidBanks (ix σ13.2.2.1)))) < ((S23.2.1 kPromised (ix (S23.2.1 kBidBanks (ix σ13.2.2.1)))) + v21) then (S23) else (lt ((S23.1, upd2 S23.2.1 kPromised (ix (S23.2.1 kBidBanks (ix σ13.2.2.1))) ((S23.2.1 kPromised (ix (S23.2.1 kBidBanks (ix σ13.2.2.1)))) + v21), S23.2.2)) (fun (S32 : Mem) => lt ((S32.1, upd2 S32.2.1 kBidGets (ix σ13.2.2.1) v18, S32.2.2)) (fun (S34 : Mem) => S34)))) (fun (S38 : Mem) => lt (f_X12_nextBid S38 ) (fun (v40 : Int32) => .inl (v36, v37, v40, S38))))))))))
def f_X12_takesBids (S : Mem) (p1 : Int32) : Int32 × Mem := lt (iter (b7_X12_takesBids) S (4)) (fun (σ2 : Mem) => lt (iter (b30_X12_takesBids) σ2 (ix (σ2.2.1 kBids 0))) (fun (σ5 : Mem) => lt (f_X12_nextBid σ5 ) (fun (v12 : Int32) => lt (outE (iterE (b67_X12_takesBids) (p1, (-1), v12, σ5) (13))) (fun (σ13 : Int32 × Int32 × Int32 × Mem) => (σ13.2.1, σ13.2.2.2)))))
def ok_X12_takesBids (S : Mem) (p1 : Int32) : Prop := ((∀ σ2 : Mem, iter (b7_X12_takesBids) S (4) = σ2 → ((∀ j4 : Nat, j4 ≤ ix (σ2.2.1 kBids 0) → ∀ σ5 : Mem, iter (b30_X12_takesBids) σ2 j4 = σ5 → σ5.2.1 kBids 0 = nI (ix (σ2.2.1 kBids 0))) ∧ (∀ j4 : Nat, j4 < ix (σ2.2.1 kBids 0) → ∀ σ5 : Mem, iter (b30_X12_takesBids) σ2 j4 = σ5 → ((j4 < 12) ∧ (∀ S8 : Mem, ((σ5.1, upd2 σ5.2.1 kAreSeen j4 0, σ5.2.2)) = S8 → ((j4 < 12))))) ∧ (∀ σ5 : Mem, iter (b30_X12_takesBids) σ2 (ix (σ2.2.1 kBids 0)) = σ5 → ((ok_X12_nextBid σ5 ) ∧ (∀ v12 : Int32, (f_X12_nextBid σ5 ) = v12 → ((∃ r9, iterE (b67_X12_takesBids) (p1, (-1), v12, σ5) (13) = .inr r9) ∧ (∀ j14 : Nat, j14 < 13 → ∀ σ13 : Int32 × Int32 × Int32 × Mem, iterE (b67_X12_takesBids) (p1, (-1), v12, σ5) j14 = .inl σ13 → (((¬ (σ13.2.2.1 = (-1))) → (((¬ (σ13.1 ≤ 0)) → ((inb σ13.2.2.1 12) ∧ (∀ v18 : Int32, (f_X12_least σ13.2.2.2 σ13.1 (σ13.2.2.2.2.1 kBidNumbers (ix σ13.2.2.1))) = v18 → ((inb σ13.2.2.1 12) ∧ (ok_X12_up σ13.2.2.2 (v18 * (σ13.2.2.2.2.1 kBidPrices (ix σ13.2.2.1))) (nI 100)) ∧ (∀ v21 : Int32, (f_X12_up σ13.2.2.2 (v18 * (σ13.2.2.2.2.1 kBidPrices (ix σ13.2.2.1))) (nI 100)) = v21 → ((inb σ13.2.2.1 12) ∧ (∀ S23 : Mem, ((σ13.2.2.2.1, upd2 σ13.2.2.2.2.1 kAreSeen (ix σ13.2.2.1) 1, σ13.2.2.2.2.2)) = S23 → ((inb σ13.2.2.1 12) ∧ (inb (S23.2.1 kBidBanks (ix σ13.2.2.1)) 4) ∧ (inb σ13.2.2.1 12) ∧ (inb (S23.2.1 kBidBanks (ix σ13.2.2.1)) 4) ∧ ((¬ ((S23.2.1 kReserves (ix (S23.2.1 kBidBanks (ix σ13.2.2.1)))) < ((S23.2.1 kPromised (ix (S23.2.1 kBidBanks (ix σ13.2.2.1)))) + v21))) → ((inb σ13.2.2.1 12) ∧ (inb (S23.2.1 kBidBanks (ix σ13.2.2.1)) 4) ∧ (inb (S23.2.1 kBidBanks (ix σ13.2.2.1)) 4) ∧ (∀ S32 : Mem, ((S23.1, upd2 S23.2.1 kPromised (ix (S23.2.1 kBidBanks (ix σ13.2.2.1))) ((S23.2.1 kPromised (ix (S23.2.1 kBidBanks (ix σ13.2.2.1)))) + v21), S23.2.2)) = S32 → ((inb σ13.2.2.1 12) ∧ (∀ S34 : Mem, ((S32.1, upd2 S32.2.1 kBidGets (ix σ13.2.2.1) v18, S32.2.2)) = S34 → ((inb σ13.2.2.1 12))))))) ∧ (∀ v36 : Int32, (if (S23.2.1 kReserves (ix (S23.2.1 kBidBanks (ix σ13.2.2.1)))) < ((S23.2.1 kPromised (ix (S23.2.1 kBidBanks (ix σ13.2.2.1)))) + v21) then (σ13.1) else (lt ((S23.1, upd2 S23.2.1 kPromised (ix (S23.2.1 kBidBanks (ix σ13.2.2.1))) ((S23.2.1 kPromised (ix (S23.2.1 kBidBanks (ix σ13.2.2.1)))) + v21), S23.2.2)) (fun (S32 : Mem) => lt ((S32.1, upd2 S32.2.1 kBidGets (ix σ13.2.2.1) v18, S32.2.2)) (fun (S34 : Mem) => σ13.1 - v18)))) = v36 → ∀ v37 : Int32, (if (S23.2.1 kReserves (ix (S23.2.1 kBidBanks (ix σ13.2.2.1)))) < ((S23.2.1 kPromised (ix (S23.2.1 kBidBanks (ix σ13.2.2.1)))) + v21) then (σ13.2.1) else (lt ((S23.1, upd2 S23.2.1 kPromised (ix (S23.2.1 kBidBanks (ix σ13.2.2.1))) ((S23.2.1 kPromised (ix (S23.2.1 kBidBanks (ix σ13.2.2.1)))) + v21), S23.2.2)) (fun (S32 : Mem) => lt ((S32.1, upd2 S32.2.1 kBidGets (ix σ13.2.2.1) v18, S32.2.2)) (fun (S34 : Mem) => S34.2.1 kBidPrices (ix σ13.2.2.1))))) = v37 → ∀ S38 : Mem, (if (S23.2.1 kReserves (ix (S23.2.1 kBidBanks (ix σ13.2.2.1)))) < ((S23.2.1 kPromised (ix (S23.2.1 kBidBanks (ix σ13.2.2.1)))) + v21) then (S23) else (lt ((S23.1, upd2 S23.2.1 kPromised (ix (S23.2.1 kBidBanks (ix σ13.2.2.1))) ((S23.2.1 kPromised (ix (S23.2.1 kBidBanks (ix σ13.2.2.1)))) + v21), S23.2.2)) (fun (S32 : Mem) => lt ((S32.1, upd2 S32.2.1 kBidGets (ix σ13.2.2.1) v18, S32.2.2)) (fun (S34 : Mem) => S34)))) = S38 → ((ok_X12_nextBid S38 ))))))))))))))))))))))
abbrev fdX12_takesBids : FD := (mdX12_takesBids, [], 1, 22, 0, 0)
set_option maxRecDepth 100000 in
set_option maxHeartbeats 4000000 in
theorem w_X12_takesBids {O : Om} {G : Cx} {S : Mem} {PP : Option AV → Mem → Prop} (p1 : Int32)   (h : ok_X12_takesBids S p1) (hP : ∀ x9 S9, f_X12_takesBids S p1 = (x9, S9) → PP (some (vi x9)) S9) : BW O G fdX12_takesBids 0 0 (QV O G 0 0 PP) S 0 [some (vr 12 0), some (vi p1), none, none, none, none, none] [] := by
  refine a_iload_n (pc := 0) 0 0 rfl rfl ?_
  refine a_istore_n (pc := 1) 0 1 (ls2 := [some (vr 12 0), some (vi p1), some (vi p1), none, none, none, none]) rfl rfl (by decide) rfl ?_
  refine a_iconst (pc := 2) 0 2 (v := (-1)) rfl (by decide) ?_
  refine a_istore_n (pc := 3) 0 3 (ls2 := [some (vr 12 0), some (vi p1), some (vi p1), some (vi (-1)), none, none, none]) rfl rfl (by decide) rfl ?_
  refine a_iconst (pc := 4) 0 4 (v := 0) rfl (by decide) ?_
  refine a_istore (pc := 5) 0 5 (ls2 := [some (vr 12 0), some (vi p1), some (vi p1), some (vi (-1)), some (vi 0), none, none]) rfl (by decide) rfl ?_
  have L7_40 : ∀ (m_j1 j1 : Nat), j1 + m_j1 = 4 → ∀ (σ2 : Mem), iter (b7_X12_takesBids) S j1 = σ2 → BW O G fdX12_takesBids 0 0 (QV O G 0 0 PP) σ2 7 [some (vr 12 0), some (vi p1), some (vi p1), some (vi (-1)), some (vi (nI j1)), none, none] [] := by
    intro m_j1
    induction m_j1 with
    | zero =>
      intro j1 hj_j1 σ2 eσ2
      have hn_j1 : j1 = 4 := by omega
      rw [hn_j1] at eσ2
      have h := h σ2 eσ2
      refine a_iload (pc := 7) 0 6 rfl rfl ?_
      refine a_iconst (pc := 9) 0 7 (v := nI 4) rfl (by decide) ?_
      refine a_icmp_ge_t (pc := 10) (tgt := 27) 0 8 rfl (by decide) (nI_le (by omega) (by omega)) ?_
      refine a_iconst (pc := 27) 0 16 (v := 0) rfl (by decide) ?_
      refine a_istore (pc := 28) 0 17 (ls2 := [some (vr 12 0), some (vi p1), some (vi p1), some (vi (-1)), some (vi 0), none, none]) rfl (by decide) rfl ?_
      obtain ⟨o6, hb_j4, h⟩ := h
      have nlt_j4 := ix_lt (σ2.2.1 kBids 0)
      have L30_41 : ∀ (m_j4 j4 : Nat), j4 + m_j4 = ix (σ2.2.1 kBids 0) → ∀ (σ5 : Mem), iter (b30_X12_takesBids) σ2 j4 = σ5 → BW O G fdX12_takesBids 0 0 (QV O G 0 0 PP) σ5 30 [some (vr 12 0), some (vi p1), some (vi p1), some (vi (-1)), some (vi (nI j4)), none, none] [] := by
        intro m_j4
        induction m_j4 with
        | zero =>
          intro j4 hj_j4 σ5 eσ5
          have o6 := o6 j4 (by omega) σ5 eσ5
          have hn_j4 : j4 = ix (σ2.2.1 kBids 0) := by omega
          rw [hn_j4] at eσ5
          have h := h σ5 eσ5
          refine a_iload (pc := 30) 0 18 rfl rfl ?_
          refine a_aload_n (pc := 32) 0 19 rfl rfl ?_
          refine g_12_bids (pc := 33) 0 20 rfl fl_X12_252 ?_
          refine a_icmp_ge_t (pc := 36) (tgt := 61) 0 21 rfl (by decide) (bd_t (o6) (by omega)) ?_
          refine a_aload_n (pc := 61) 0 34 rfl rfl ?_
          obtain ⟨o11, h⟩ := h
          refine a_callVi (pc := 62) 0 35 (c_X12_nextBid (S := σ5)  o11) rfl cv_X12_255 (by decide) rfl rfl rfl (rm rfl) ?_
          refine a_seti (fun v12 ev12 => ?_)
          have h := h v12 ev12
          refine a_istore (pc := 65) 0 36 (ls2 := [some (vr 12 0), some (vi p1), some (vi p1), some (vi (-1)), some (vi v12), none, none]) rfl (by decide) rfl ?_
          obtain ⟨hf_j14, hb_j14⟩ := h
          have E67_42 : ∀ (σ13 : Int32 × Int32 × Int32 × Mem), outE (iterE (b67_X12_takesBids) (p1, (-1), v12, σ5) (13)) = σ13 → BW O G fdX12_takesBids 0 0 (QV O G 0 0 PP) σ13.2.2.2 193 [some (vr 12 0), some (vi p1), some (vi σ13.1), some (vi σ13.2.1), some (vi σ13.2.2.1), none, none] [] := by
            intro σ13 eσ13
            refine a_iload_n (pc := 193) 2 13 rfl rfl ?_
            exact a_iret (pc := 194) 2 14 rfl rfl (hP _ _ (by unfold f_X12_takesBids; exact (lt_eq eσ2).trans ((lt_eq eσ5).trans ((lt_eq ev12).trans (lt_eq eσ13)))))
          have L67_43 : ∀ (m_j14 j14 : Nat), j14 + m_j14 = 13 → ∀ (σ13 : Int32 × Int32 × Int32 × Mem), iterE (b67_X12_takesBids) (p1, (-1), v12, σ5) j14 = .inl σ13 → BW O G fdX12_takesBids 0 0 (QV O G 0 0 PP) σ13.2.2.2 67 [some (vr 12 0), some (vi p1), some (vi σ13.1), some (vi σ13.2.1), some (vi σ13.2.2.1), none, none] [] := by
            intro m_j14
            induction m_j14 with
            | zero =>
              intro j14 hj_j14 σ13 eσ13
              obtain ⟨r9, h9⟩ := hf_j14
              rw [show j14 = 13 by omega, h9] at eσ13
              cases eσ13
            | succ m_j14 ih_j14 =>
              intro j14 hj_j14 σ13 eσ13
              have h := hb_j14 j14 (by omega) σ13 eσ13
              refine a_iload (pc := 67) 0 37 rfl rfl ?_
              refine a_iconst (pc := 69) 0 38 (v := (-1)) rfl (by decide) ?_
              refine a_icmp_eq (pc := 70) (tgt := 193) 0 39 rfl (by decide) (fun c70_14 => ?_) (fun c70_14 => ?_)
              · exact E67_42 (σ13.1, σ13.2.1, σ13.2.2.1, σ13.2.2.2) (by have e9 := iterE_stop (r := (σ13.1, σ13.2.1, σ13.2.2.1, σ13.2.2.2)) eσ13 (by unfold b67_X12_takesBids; exact (if_pos c70_14)) (13) (by omega); rw [e9]; rfl)
              · have h := h c70_14
                refine a_iload_n (pc := 73) 0 40 rfl rfl ?_
                refine a_if_le (pc := 74) (tgt := 193) 0 41 rfl (by decide) (fun c74_15 => ?_) (fun c74_15 => ?_)
                · exact E67_42 (σ13.1, σ13.2.1, σ13.2.2.1, σ13.2.2.2) (by have e9 := iterE_stop (r := (σ13.1, σ13.2.1, σ13.2.2.1, σ13.2.2.2)) eσ13 (by unfold b67_X12_takesBids; exact ((if_neg c70_14).trans (if_pos c74_15))) (13) (by omega); rw [e9]; rfl)
                · have h := h c74_15
                  refine a_iload_n (pc := 77) 0 42 rfl rfl ?_
                  refine a_aload_n (pc := 78) 0 43 rfl rfl ?_
                  refine g_12_bidNumbers (pc := 79) 0 44 rfl fl_X12_126 ?_
                  refine a_iload (pc := 82) 0 45 rfl rfl ?_
                  obtain ⟨o17, h⟩ := h
                  refine e_60 (pc := 84) 0 46 (ix σ13.2.2.1) rfl o17.1 o17.2 ?_
                  refine a_callSi (pc := 85) 0 47 (c_X12_least (S := σ13.2.2.2) σ13.1 (σ13.2.2.2.2.1 kBidNumbers (ix σ13.2.2.1))) rfl cs_X12_193 rfl (rm rfl) ?_
                  refine a_seti (fun v18 ev18 => ?_)
                  have h := h v18 ev18
                  refine a_istore (pc := 88) 1 0 (ls2 := [some (vr 12 0), some (vi p1), some (vi σ13.1), some (vi σ13.2.1), some (vi σ13.2.2.1), some (vi v18), none]) rfl (by decide) rfl ?_
                  refine a_iload (pc := 90) 1 1 rfl rfl ?_
                  refine a_aload_n (pc := 92) 1 2 rfl rfl ?_
                  refine g_12_bidPrices (pc := 93) 1 3 rfl fl_X12_123 ?_
                  refine a_iload (pc := 96) 1 4 rfl rfl ?_
                  obtain ⟨o19, h⟩ := h
                  refine e_59 (pc := 98) 1 5 (ix σ13.2.2.1) rfl o19.1 o19.2 ?_
                  refine a_imul (pc := 99) 1 6 rfl ?_
                  refine a_bipush (pc := 100) 1 7 (v := nI 100) rfl (by decide) ?_
                  obtain ⟨o20, h⟩ := h
                  refine a_callSi (pc := 102) 1 8 (c_X12_up (S := σ13.2.2.2) (v18 * (σ13.2.2.2.2.1 kBidPrices (ix σ13.2.2.1))) (nI 100) o20) rfl cs_X12_258 rfl (rm rfl) ?_
                  refine a_seti (fun v21 ev21 => ?_)
                  have h := h v21 ev21
                  refine a_istore (pc := 105) 1 9 (ls2 := [some (vr 12 0), some (vi p1), some (vi σ13.1), some (vi σ13.2.1), some (vi σ13.2.2.1), some (vi v18), some (vi v21)]) rfl (by decide) rfl ?_
                  refine a_aload_n (pc := 107) 1 10 rfl rfl ?_
                  refine g_12_areSeen (pc := 108) 1 11 rfl fl_X12_132 ?_
                  refine a_iload (pc := 111) 1 12 rfl rfl ?_
                  refine a_iconst (pc := 113) 1 13 (v := 1) rfl (by decide) ?_
                  obtain ⟨o22, h⟩ := h
                  refine s_62 (pc := 114) 1 14 (ix σ13.2.2.1) rfl o22.1 o22.2 (Or.inr rfl) ?_
                  refine a_set (fun S23 eS23 => ?_)
                  have h := h S23 eS23
                  refine a_aload_n (pc := 115) 1 15 rfl rfl ?_
                  refine g_12_promised (pc := 116) 1 16 rfl fl_X12_72 ?_
                  refine a_aload_n (pc := 119) 1 17 rfl rfl ?_
                  refine g_12_bidBanks (pc := 120) 1 18 rfl fl_X12_120 ?_
                  refine a_iload (pc := 123) 1 19 rfl rfl ?_
                  obtain ⟨o24, h⟩ := h
                  refine e_58 (pc := 125) 1 20 (ix σ13.2.2.1) rfl o24.1 o24.2 ?_
                  obtain ⟨o25, h⟩ := h
                  refine e_42 (pc := 126) 1 21 (ix (S23.2.1 kBidBanks (ix σ13.2.2.1))) rfl o25.1 o25.2 ?_
                  refine a_iload (pc := 127) 1 22 rfl rfl ?_
                  refine a_iadd (pc := 129) 1 23 rfl ?_
                  refine a_aload_n (pc := 130) 1 24 rfl rfl ?_
                  refine g_12_reserves (pc := 131) 1 25 rfl fl_X12_50 ?_
                  refine a_aload_n (pc := 134) 1 26 rfl rfl ?_
                  refine g_12_bidBanks (pc := 135) 1 27 rfl fl_X12_120 ?_
                  refine a_iload (pc := 138) 1 28 rfl rfl ?_
                  obtain ⟨o26, h⟩ := h
                  refine e_58 (pc := 140) 1 29 (ix σ13.2.2.1) rfl o26.1 o26.2 ?_
                  obtain ⟨o27, h⟩ := h
                  refine e_35 (pc := 141) 1 30 (ix (S23.2.1 kBidBanks (ix σ13.2.2.1))) rfl o27.1 o27.2 ?_
                  obtain ⟨hr0, h⟩ := h
                  have J184_44 : ∀ (v36 : Int32) (ev36 : (if (S23.2.1 kReserves (ix (S23.2.1 kBidBanks (ix σ13.2.2.1)))) < ((S23.2.1 kPromised (ix (S23.2.1 kBidBanks (ix σ13.2.2.1)))) + v21) then (σ13.1) else (lt ((S23.1, upd2 S23.2.1 kPromised (ix (S23.2.1 kBidBanks (ix σ13.2.2.1))) ((S23.2.1 kPromised (ix (S23.2.1 kBidBanks (ix σ13.2.2.1)))) + v21), S23.2.2)) (fun (S32 : Mem) => lt ((S32.1, upd2 S32.2.1 kBidGets (ix σ13.2.2.1) v18, S32.2.2)) (fun (S34 : Mem) => σ13.1 - v18)))) = v36) (v37 : Int32) (ev37 : (if (S23.2.1 kReserves (ix (S23.2.1 kBidBanks (ix σ13.2.2.1)))) < ((S23.2.1 kPromised (ix (S23.2.1 kBidBanks (ix σ13.2.2.1)))) + v21) then (σ13.2.1) else (lt ((S23.1, upd2 S23.2.1 kPromised (ix (S23.2.1 kBidBanks (ix σ13.2.2.1))) ((S23.2.1 kPromised (ix (S23.2.1 kBidBanks (ix σ13.2.2.1)))) + v21), S23.2.2)) (fun (S32 : Mem) => lt ((S32.1, upd2 S32.2.1 kBidGets (ix σ13.2.2.1) v18, S32.2.2)) (fun (S34 : Mem) => S34.2.1 kBidPrices (ix σ13.2.2.1))))) = v37) (S38 : Mem) (eS38 : (if (S23.2.1 kReserves (ix (S23.2.1 kBidBanks (ix σ13.2.2.1)))) < ((S23.2.1 kPromised (ix (S23.2.1 kBidBanks (ix σ13.2.2.1)))) + v21) then (S23) else (lt ((S23.1, upd2 S23.2.1 kPromised (ix (S23.2.1 kBidBanks (ix σ13.2.2.1))) ((S23.2.1 kPromised (ix (S23.2.1 kBidBanks (ix σ13.2.2.1)))) + v21), S23.2.2)) (fun (S32 : Mem) => lt ((S32.1, upd2 S32.2.1 kBidGets (ix σ13.2.2.1) v18, S32.2.2)) (fun (S34 : Mem) => S34)))) = S38), BW O G fdX12_takesBids 0 0 (QV O G 0 0 PP) S38 184 [some (vr 12 0), some (vi p1), some (vi v36), some (vi v37), some (vi σ13.2.2.1), some (vi v18), some (vi v21)] [] := by
                    intro v36 ev36 v37 ev37 S38 eS38
                    have h := h v36 ev36 v37 ev37 S38 eS38
                    refine a_aload_n (pc := 184) 2 9 rfl rfl ?_
                    have o39 := h
                    refine a_callVi (pc := 185) 2 10 (c_X12_nextBid (S := S38)  o39) rfl cv_X12_255 (by decide) rfl rfl rfl (rm rfl) ?_
                    refine a_seti (fun v40 ev40 => ?_)
                    refine a_istore (pc := 188) 2 11 (ls2 := [some (vr 12 0), some (vi p1), some (vi v36), some (vi v37), some (vi v40), some (vi v18), some (vi v21)]) rfl (by decide) rfl ?_
                    refine a_goto (pc := 190) (tgt := 67) 2 12 rfl (by decide) ?_
                    refine a_drop (ls2 := [some (vr 12 0), some (vi p1), some (vi v36), some (vi v37), some (vi v40), none, none]) (⟨rfl, rfl, rfl, rfl, rfl, trivial⟩) ?_
                    exact ih_j14 (j14 + 1) (by omega) (v36, v37, v40, S38) (iterE_go eσ13 (by unfold b67_X12_takesBids; exact ((if_neg c70_14).trans ((if_neg c74_15).trans ((lt_eq ev18).trans ((lt_eq ev21).trans ((lt_eq eS23).trans ((lt_eq ev36).trans ((lt_eq ev37).trans ((lt_eq eS38).trans (lt_eq ev40)))))))))))
                  have h := hr0
                  refine a_icmp_gt (pc := 142) (tgt := 184) 1 31 rfl (by decide) (fun c142_27 => ?_) (fun c142_27 => ?_)
                  · exact J184_44 _ (by exact (if_pos c142_27)) _ (by exact (if_pos c142_27)) _ (by exact (if_pos c142_27))
                  · have h := h c142_27
                    refine a_aload_n (pc := 145) 1 32 rfl rfl ?_
                    refine g_12_promised (pc := 146) 1 33 rfl fl_X12_72 ?_
                    refine a_aload_n (pc := 149) 1 34 rfl rfl ?_
                    refine g_12_bidBanks (pc := 150) 1 35 rfl fl_X12_120 ?_
                    refine a_iload (pc := 153) 1 36 rfl rfl ?_
                    obtain ⟨o29, h⟩ := h
                    refine e_58 (pc := 155) 1 37 (ix σ13.2.2.1) rfl o29.1 o29.2 ?_
                    refine a_dup2 (pc := 156) 1 38 rfl rfl rfl ?_
                    obtain ⟨o30, h⟩ := h
                    refine e_42 (pc := 157) 1 39 (ix (S23.2.1 kBidBanks (ix σ13.2.2.1))) rfl o30.1 o30.2 ?_
                    refine a_iload (pc := 158) 1 40 rfl rfl ?_
                    refine a_iadd (pc := 160) 1 41 rfl ?_
                    obtain ⟨o31, h⟩ := h
                    refine s_42 (pc := 161) 1 42 (ix (S23.2.1 kBidBanks (ix σ13.2.2.1))) rfl o31.1 o31.2 ?_
                    refine a_set (fun S32 eS32 => ?_)
                    have h := h S32 eS32
                    refine a_aload_n (pc := 162) 1 43 rfl rfl ?_
                    refine g_12_bidGets (pc := 163) 1 44 rfl fl_X12_129 ?_
                    refine a_iload (pc := 166) 1 45 rfl rfl ?_
                    refine a_iload (pc := 168) 1 46 rfl rfl ?_
                    obtain ⟨o33, h⟩ := h
                    refine s_61 (pc := 170) 1 47 (ix σ13.2.2.1) rfl o33.1 o33.2 ?_
                    refine a_set (fun S34 eS34 => ?_)
                    have h := h S34 eS34
                    refine a_iload_n (pc := 171) 2 0 rfl rfl ?_
                    refine a_iload (pc := 172) 2 1 rfl rfl ?_
                    refine a_isub (pc := 174) 2 2 rfl ?_
                    refine a_istore_n (pc := 175) 2 3 (ls2 := [some (vr 12 0), some (vi p1), some (vi (σ13.1 - v18)), some (vi σ13.2.1), some (vi σ13.2.2.1), some (vi v18), some (vi v21)]) rfl rfl (by decide) rfl ?_
                    refine a_aload_n (pc := 176) 2 4 rfl rfl ?_
                    refine g_12_bidPrices (pc := 177) 2 5 rfl fl_X12_123 ?_
                    refine a_iload (pc := 180) 2 6 rfl rfl ?_
                    have o35 := h
                    refine e_59 (pc := 182) 2 7 (ix σ13.2.2.1) rfl o35.1 o35.2 ?_
                    refine a_istore_n (pc := 183) 2 8 (ls2 := [some (vr 12 0), some (vi p1), some (vi (σ13.1 - v18)), some (vi (S34.2.1 kBidPrices (ix σ13.2.2.1))), some (vi σ13.2.2.1), some (vi v18), some (vi v21)]) rfl rfl (by decide) rfl ?_
                    exact J184_44 _ (by exact ((if_neg c142_27).trans ((lt_eq eS32).trans (lt_eq eS34)))) _ (by exact ((if_neg c142_27).trans ((lt_eq eS32).trans (lt_eq eS34)))) _ (by exact ((if_neg c142_27).trans ((lt_eq eS32).trans (lt_eq eS34))))
          exact L67_43 (13) 0 (by omega) (p1, (-1), v12, σ5) rfl
        | succ m_j4 ih_j4 =>
          intro j4 hj_j4 σ5 eσ5
          have o6 := o6 j4 (by omega) σ5 eσ5
          have h := hb_j4 j4 (by omega) σ5 eσ5
          refine a_iload (pc := 30) 0 18 rfl rfl ?_
          refine a_aload_n (pc := 32) 0 19 rfl rfl ?_
          refine g_12_bids (pc := 33) 0 20 rfl fl_X12_252 ?_
          refine a_icmp_ge_f (pc := 36) (tgt := 61) 0 21 rfl (bd_f (o6) (by omega)) (by decide) ?_
          refine a_aload_n (pc := 39) 0 22 rfl rfl ?_
          refine g_12_areSeen (pc := 40) 0 23 rfl fl_X12_132 ?_
          refine a_iload (pc := 43) 0 24 rfl rfl ?_
          refine a_iconst (pc := 45) 0 25 (v := 0) rfl (by decide) ?_
          obtain ⟨o7, h⟩ := h
          refine s_62 (pc := 46) 0 26 (j4) rfl rfl o7 (Or.inl rfl) ?_
          refine a_set (fun S8 eS8 => ?_)
          have h := h S8 eS8
          refine a_aload_n (pc := 47) 0 27 rfl rfl ?_
          refine g_12_bidGets (pc := 48) 0 28 rfl fl_X12_129 ?_
          refine a_iload (pc := 51) 0 29 rfl rfl ?_
          refine a_iconst (pc := 53) 0 30 (v := 0) rfl (by decide) ?_
          have o9 := h
          refine s_61 (pc := 54) 0 31 (j4) rfl rfl o9 ?_
          refine a_set (fun S10 eS10 => ?_)
          refine a_iinc (pc := 55) 0 32 (v := nI (j4 + 1)) (ls2 := [some (vr 12 0), some (vi p1), some (vi p1), some (vi (-1)), some (vi (nI (j4 + 1))), none, none]) rfl rfl (iinc1 _) (by decide) rfl ?_
          refine a_goto (pc := 58) (tgt := 30) 0 33 rfl (by decide) ?_
          exact ih_j4 (j4 + 1) (by omega) S10 (by rw [iter_succ, eσ5]; unfold b30_X12_takesBids; exact ((lt_eq eS8).trans (lt_eq eS10)))
      exact L30_41 (ix (σ2.2.1 kBids 0)) 0 (by omega) σ2 rfl
    | succ m_j1 ih_j1 =>
      intro j1 hj_j1 σ2 eσ2
      refine a_iload (pc := 7) 0 6 rfl rfl ?_
      refine a_iconst (pc := 9) 0 7 (v := nI 4) rfl (by decide) ?_
      refine a_icmp_ge_f (pc := 10) (tgt := 27) 0 8 rfl (nI_ge (by omega) (by omega)) (by decide) ?_
      refine a_aload_n (pc := 13) 0 9 rfl rfl ?_
      refine g_12_promised (pc := 14) 0 10 rfl fl_X12_72 ?_
      refine a_iload (pc := 17) 0 11 rfl rfl ?_
      refine a_iconst (pc := 19) 0 12 (v := 0) rfl (by decide) ?_
      refine s_42 (pc := 20) 0 13 (j1) rfl rfl (by omega) ?_
      refine a_set (fun S3 eS3 => ?_)
      refine a_iinc (pc := 21) 0 14 (v := nI (j1 + 1)) (ls2 := [some (vr 12 0), some (vi p1), some (vi p1), some (vi (-1)), some (vi (nI (j1 + 1))), none, none]) rfl rfl (iinc1 _) (by decide) rfl ?_
      refine a_goto (pc := 24) (tgt := 7) 0 15 rfl (by decide) ?_
      exact ih_j1 (j1 + 1) (by omega) S3 (by rw [iter_succ, eσ2]; unfold b7_X12_takesBids; exact (lt_eq eS3))
  exact L7_40 (4) 0 (by omega) S rfl
theorem c_X12_takesBids {S : Mem} (p1 : Int32)   (h : ok_X12_takesBids S p1) : Cts mdX12_takesBids 1 22 [vr 12 0, vi p1] S (Is (some (vi (f_X12_takesBids S p1).1)) ((f_X12_takesBids S p1).2)) := Cts.of dtX12_takesBids (by decide +kernel) rfl rfl (Nat.le_of_ble_eq_true rfl) rfl (fun O G => w_X12_takesBids p1 h (fun _ _ h9 => ⟨by rw [h9], by rw [h9]⟩))
