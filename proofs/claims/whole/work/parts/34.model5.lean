def f_X12_levy (S : Mem) (p1 : Int32) (p2 : Int32) : Int32 × Mem := lt (f_X12_isHolder S p1) (fun (v1 : Int32) => lt (if v1 = 0 then (0) else (lt (f_X12_in S p2 1 (nI 100)) (fun (v3 : Int32) => if v3 = 0 then (0) else (lt (f_X12_free S p1) (fun (v6 : Int32) => ((v6.toInt64 * p2.toInt64) / 100).toInt32))))) (fun (v7 : Int32) => lt (if v1 = 0 then (0) else (lt (f_X12_hasAccount S p1) (fun (v10 : Int32) => if v10 = 0 then (0) else (if (S.2.1 kReserves (ix (S.2.1 kBankOf (ix p1)))) < v7 then (0) else (1))))) (fun (v15 : Int32) => lt (if v1 = 0 then (1) else (lt (f_X12_in S p2 1 (nI 100)) (fun (v17 : Int32) => if v17 = 0 then (nI 2) else (if v15 = 0 then (nI 3) else (0))))) (fun (v20 : Int32) => lt ((f_X12_holds S v20).2) (fun (S21 : Mem) => lt ((f_X12_holds S v20).1) (fun (v22 : Int32) => if v22 = 0 then ((0, S21)) else (lt ((S21.1, upd2 S21.2.1 kAccounts (ix p1) ((S21.2.1 kAccounts (ix p1)) - v7), S21.2.2)) (fun (S26 : Mem) => lt ((S26.1, upd2 S26.2.1 kReserves (ix (S26.2.1 kBankOf (ix p1))) ((S26.2.1 kReserves (ix (S26.2.1 kBankOf (ix p1)))) - v7), S26.2.2)) (fun (S30 : Mem) => lt ((S30.1, upd2 S30.2.1 kTreasury 0 ((S30.2.1 kTreasury 0) + v7), S30.2.2)) (fun (S31 : Mem) => (v7, S31)))))))))))
def ok_X12_levy (S : Mem) (p1 : Int32) (p2 : Int32) : Prop := ((∀ v1 : Int32, (f_X12_isHolder S p1) = v1 → (((¬ (v1 = 0)) → ((∀ v3 : Int32, (f_X12_in S p2 1 (nI 100)) = v3 → (((¬ (v3 = 0)) → ((ok_X12_free S p1))))))) ∧ (∀ v7 : Int32, (if v1 = 0 then (0) else (lt (f_X12_in S p2 1 (nI 100)) (fun (v3 : Int32) => if v3 = 0 then (0) else (lt (f_X12_free S p1) (fun (v6 : Int32) => ((v6.toInt64 * p2.toInt64) / 100).toInt32))))) = v7 → (((¬ (v1 = 0)) → ((ok_X12_hasAccount S p1) ∧ (∀ v10 : Int32, (f_X12_hasAccount S p1) = v10 → (((¬ (v10 = 0)) → ((inb p1 16) ∧ (inb (S.2.1 kBankOf (ix p1)) 4))))))) ∧ (∀ v15 : Int32, (if v1 = 0 then (0) else (lt (f_X12_hasAccount S p1) (fun (v10 : Int32) => if v10 = 0 then (0) else (if (S.2.1 kReserves (ix (S.2.1 kBankOf (ix p1)))) < v7 then (0) else (1))))) = v15 → ((∀ v20 : Int32, (if v1 = 0 then (1) else (lt (f_X12_in S p2 1 (nI 100)) (fun (v17 : Int32) => if v17 = 0 then (nI 2) else (if v15 = 0 then (nI 3) else (0))))) = v20 → ((∀ S21 : Mem, ((f_X12_holds S v20).2) = S21 → ((∀ v22 : Int32, ((f_X12_holds S v20).1) = v22 → (((¬ (v22 = 0)) → ((inb p1 16) ∧ (inb p1 16) ∧ (∀ S26 : Mem, ((S21.1, upd2 S21.2.1 kAccounts (ix p1) ((S21.2.1 kAccounts (ix p1)) - v7), S21.2.2)) = S26 → ((inb p1 16) ∧ (inb (S26.2.1 kBankOf (ix p1)) 4) ∧ (inb (S26.2.1 kBankOf (ix p1)) 4))))))))))))))))))
abbrev fdX12_levy : FD := (mdX12_levy, [], 2, 42, 0, 0)
set_option maxRecDepth 100000 in
set_option maxHeartbeats 4000000 in
theorem w_X12_levy {O : Om} {G : Cx} {S : Mem} {PP : Option AV → Mem → Prop} (p1 : Int32) (p2 : Int32)   (h : ok_X12_levy S p1 p2) (hP : ∀ x9 S9, f_X12_levy S p1 p2 = (x9, S9) → PP (some (vi x9)) S9) : BW O G fdX12_levy 0 0 (QV O G 0 0 PP) S 0 [some (vr 12 0), some (vi p1), some (vi p2), none, none, none] [] := by
  refine a_iload_n (pc := 0) 0 0 rfl rfl ?_
  refine a_callSi (pc := 1) 0 1 (c_X12_isHolder (S := S) p1) rfl cs_X12_171 rfl (rm rfl) ?_
  refine a_seti (fun v1 ev1 => ?_)
  have h := h v1 ev1
  refine a_istore_n (pc := 4) 0 2 (ls2 := [some (vr 12 0), some (vi p1), some (vi p2), some (vi v1), none, none]) rfl rfl (by decide) rfl ?_
  refine a_iload_n (pc := 5) 0 3 rfl rfl ?_
  obtain ⟨hr0, h⟩ := h
  have J37_31 : ∀ (v7 : Int32) (ev7 : (if v1 = 0 then (0) else (lt (f_X12_in S p2 1 (nI 100)) (fun (v3 : Int32) => if v3 = 0 then (0) else (lt (f_X12_free S p1) (fun (v6 : Int32) => ((v6.toInt64 * p2.toInt64) / 100).toInt32))))) = v7), BW O G fdX12_levy 0 0 (QV O G 0 0 PP) S 37 [some (vr 12 0), some (vi p1), some (vi p2), some (vi v1), none, none] [vi v7] := by
    intro v7 ev7
    have h := h v7 ev7
    refine a_istore (pc := 37) 0 22 (ls2 := [some (vr 12 0), some (vi p1), some (vi p2), some (vi v1), some (vi v7), none]) rfl (by decide) rfl ?_
    refine a_iload_n (pc := 39) 0 23 rfl rfl ?_
    obtain ⟨hr0, h⟩ := h
    have J72_32 : ∀ (v15 : Int32) (ev15 : (if v1 = 0 then (0) else (lt (f_X12_hasAccount S p1) (fun (v10 : Int32) => if v10 = 0 then (0) else (if (S.2.1 kReserves (ix (S.2.1 kBankOf (ix p1)))) < v7 then (0) else (1))))) = v15), BW O G fdX12_levy 0 0 (QV O G 0 0 PP) S 72 [some (vr 12 0), some (vi p1), some (vi p2), some (vi v1), some (vi v7), none] [vi v15] := by
      intro v15 ev15
      have h := h v15 ev15
      refine a_istore (pc := 72) 0 41 (ls2 := [some (vr 12 0), some (vi p1), some (vi p2), some (vi v1), some (vi v7), some (vi v15)]) rfl (by decide) rfl ?_
      refine a_aload_n (pc := 74) 0 42 rfl rfl ?_
      refine a_iload_n (pc := 75) 0 43 rfl rfl ?_
      have J107_33 : ∀ (v20 : Int32) (ev20 : (if v1 = 0 then (1) else (lt (f_X12_in S p2 1 (nI 100)) (fun (v17 : Int32) => if v17 = 0 then (nI 2) else (if v15 = 0 then (nI 3) else (0))))) = v20), BW O G fdX12_levy 0 0 (QV O G 0 0 PP) S 107 [some (vr 12 0), some (vi p1), some (vi p2), some (vi v1), some (vi v7), some (vi v15)] [vi v20, vr 12 0] := by
        intro v20 ev20
        have h := h v20 ev20
        refine a_callVi (pc := 107) 1 11 (c_X12_holds (S := S) v20) rfl cv_X12_175 (by decide) rfl rfl rfl (rm rfl) ?_
        refine a_set (fun S21 eS21 => ?_)
        have h := h S21 eS21
        refine a_seti (fun v22 ev22 => ?_)
        have h := h v22 ev22
        refine a_if_ne (pc := 110) (tgt := 115) 1 12 rfl (by decide) (fun c110_22 => ?_) (fun c110_22 => ?_)
        · have h := h c110_22
          refine a_aload_n (pc := 115) 1 15 rfl rfl ?_
          refine g_12_accounts (pc := 116) 1 16 rfl fl_X12_26 ?_
          refine a_iload_n (pc := 119) 1 17 rfl rfl ?_
          refine a_dup2 (pc := 120) 1 18 rfl rfl rfl ?_
          obtain ⟨o24, h⟩ := h
          refine e_27 (pc := 121) 1 19 (ix p1) rfl o24.1 o24.2 ?_
          refine a_iload (pc := 122) 1 20 rfl rfl ?_
          refine a_isub (pc := 124) 1 21 rfl ?_
          obtain ⟨o25, h⟩ := h
          refine s_27 (pc := 125) 1 22 (ix p1) rfl o25.1 o25.2 ?_
          refine a_set (fun S26 eS26 => ?_)
          have h := h S26 eS26
          refine a_aload_n (pc := 126) 1 23 rfl rfl ?_
          refine g_12_reserves (pc := 127) 1 24 rfl fl_X12_50 ?_
          refine a_aload_n (pc := 130) 1 25 rfl rfl ?_
          refine g_12_bankOf (pc := 131) 1 26 rfl fl_X12_23 ?_
          refine a_iload_n (pc := 134) 1 27 rfl rfl ?_
          obtain ⟨o27, h⟩ := h
          refine e_26 (pc := 135) 1 28 (ix p1) rfl o27.1 o27.2 ?_
          refine a_dup2 (pc := 136) 1 29 rfl rfl rfl ?_
          obtain ⟨o28, h⟩ := h
          refine e_35 (pc := 137) 1 30 (ix (S26.2.1 kBankOf (ix p1))) rfl o28.1 o28.2 ?_
          refine a_iload (pc := 138) 1 31 rfl rfl ?_
          refine a_isub (pc := 140) 1 32 rfl ?_
          have o29 := h
          refine s_35 (pc := 141) 1 33 (ix (S26.2.1 kBankOf (ix p1))) rfl o29.1 o29.2 ?_
          refine a_set (fun S30 eS30 => ?_)
          refine a_aload_n (pc := 142) 1 34 rfl rfl ?_
          refine a_dup (pc := 143) 1 35 rfl rfl ?_
          refine g_12_treasury (pc := 144) 1 36 rfl fl_X12_168 ?_
          refine a_iload (pc := 147) 1 37 rfl rfl ?_
          refine a_iadd (pc := 149) 1 38 rfl ?_
          refine p_12_treasury (pc := 150) 1 39 rfl fl_X12_168 ?_
          refine a_set (fun S31 eS31 => ?_)
          refine a_iload (pc := 153) 1 40 rfl rfl ?_
          exact a_iret (pc := 155) 1 41 rfl rfl (hP _ _ (by unfold f_X12_levy; exact (lt_eq ev1).trans ((lt_eq ev7).trans ((lt_eq ev15).trans ((lt_eq ev20).trans ((lt_eq eS21).trans ((lt_eq ev22).trans ((if_neg c110_22).trans ((lt_eq eS26).trans ((lt_eq eS30).trans (lt_eq eS31)))))))))))
        · refine a_iconst (pc := 113) 1 13 (v := 0) rfl (by decide) ?_
          exact a_iret (pc := 114) 1 14 rfl rfl (hP _ _ (by unfold f_X12_levy; exact (lt_eq ev1).trans ((lt_eq ev7).trans ((lt_eq ev15).trans ((lt_eq ev20).trans ((lt_eq eS21).trans ((lt_eq ev22).trans (if_pos c110_22))))))))
      refine a_if_ne (pc := 76) (tgt := 83) 0 44 rfl (by decide) (fun c76_15 => ?_) (fun c76_15 => ?_)
      · refine a_iload_n (pc := 83) 0 47 rfl rfl ?_
        refine a_iconst (pc := 84) 1 0 (v := 1) rfl (by decide) ?_
        refine a_bipush (pc := 85) 1 1 (v := nI 100) rfl (by decide) ?_
        refine a_callSi (pc := 87) 1 2 (c_X12_in (S := S) p2 1 (nI 100)) rfl cs_X12_141 rfl (rm rfl) ?_
        refine a_seti (fun v17 ev17 => ?_)
        refine a_if_ne (pc := 90) (tgt := 97) 1 3 rfl (by decide) (fun c90_17 => ?_) (fun c90_17 => ?_)
        · refine a_iload (pc := 97) 1 6 rfl rfl ?_
          refine a_if_eq (pc := 99) (tgt := 106) 1 7 rfl (by decide) (fun c99_18 => ?_) (fun c99_18 => ?_)
          · refine a_iconst (pc := 106) 1 10 (v := nI 3) rfl (by decide) ?_
            exact J107_33 _ (by exact ((if_neg c76_15).trans ((lt_eq ev17).trans ((if_neg c90_17).trans (if_pos c99_18)))))
          · refine a_iconst (pc := 102) 1 8 (v := 0) rfl (by decide) ?_
            refine a_goto (pc := 103) (tgt := 107) 1 9 rfl (by decide) ?_
            exact J107_33 _ (by exact ((if_neg c76_15).trans ((lt_eq ev17).trans ((if_neg c90_17).trans (if_neg c99_18)))))
        · refine a_iconst (pc := 93) 1 4 (v := nI 2) rfl (by decide) ?_
          refine a_goto (pc := 94) (tgt := 107) 1 5 rfl (by decide) ?_
          exact J107_33 _ (by exact ((if_neg c76_15).trans ((lt_eq ev17).trans (if_pos c90_17))))
      · refine a_iconst (pc := 79) 0 45 (v := 1) rfl (by decide) ?_
        refine a_goto (pc := 80) (tgt := 107) 0 46 rfl (by decide) ?_
        exact J107_33 _ (by exact (if_pos c76_15))
    have h := hr0
    refine a_if_eq (pc := 40) (tgt := 71) 0 24 rfl (by decide) (fun c40_7 => ?_) (fun c40_7 => ?_)
    · refine a_iconst (pc := 71) 0 40 (v := 0) rfl (by decide) ?_
      exact J72_32 _ (by exact (if_pos c40_7))
    · have h := h c40_7
      refine a_aload_n (pc := 43) 0 25 rfl rfl ?_
      refine a_iload_n (pc := 44) 0 26 rfl rfl ?_
      obtain ⟨o9, h⟩ := h
      refine a_callVi (pc := 45) 0 27 (c_X12_hasAccount (S := S) p1 o9) rfl cv_X12_184 (by decide) rfl rfl rfl (rm rfl) ?_
      refine a_seti (fun v10 ev10 => ?_)
      have h := h v10 ev10
      refine a_if_eq (pc := 48) (tgt := 71) 0 28 rfl (by decide) (fun c48_10 => ?_) (fun c48_10 => ?_)
      · refine a_iconst (pc := 71) 0 40 (v := 0) rfl (by decide) ?_
        exact J72_32 _ (by exact ((if_neg c40_7).trans ((lt_eq ev10).trans (if_pos c48_10))))
      · have h := h c48_10
        refine a_aload_n (pc := 51) 0 29 rfl rfl ?_
        refine g_12_reserves (pc := 52) 0 30 rfl fl_X12_50 ?_
        refine a_aload_n (pc := 55) 0 31 rfl rfl ?_
        refine g_12_bankOf (pc := 56) 0 32 rfl fl_X12_23 ?_
        refine a_iload_n (pc := 59) 0 33 rfl rfl ?_
        obtain ⟨o12, h⟩ := h
        refine e_26 (pc := 60) 0 34 (ix p1) rfl o12.1 o12.2 ?_
        have o13 := h
        refine e_35 (pc := 61) 0 35 (ix (S.2.1 kBankOf (ix p1))) rfl o13.1 o13.2 ?_
        refine a_iload (pc := 62) 0 36 rfl rfl ?_
        refine a_icmp_lt (pc := 64) (tgt := 71) 0 37 rfl (by decide) (fun c64_13 => ?_) (fun c64_13 => ?_)
        · refine a_iconst (pc := 71) 0 40 (v := 0) rfl (by decide) ?_
          exact J72_32 _ (by exact ((if_neg c40_7).trans ((lt_eq ev10).trans ((if_neg c48_10).trans (if_pos c64_13)))))
        · refine a_iconst (pc := 67) 0 38 (v := 1) rfl (by decide) ?_
          refine a_goto (pc := 68) (tgt := 72) 0 39 rfl (by decide) ?_
          exact J72_32 _ (by exact ((if_neg c40_7).trans ((lt_eq ev10).trans ((if_neg c48_10).trans (if_neg c64_13)))))
  have h := hr0
  refine a_if_eq (pc := 6) (tgt := 36) 0 4 rfl (by decide) (fun c6_1 => ?_) (fun c6_1 => ?_)
  · refine a_iconst (pc := 36) 0 21 (v := 0) rfl (by decide) ?_
    exact J37_31 _ (by exact (if_pos c6_1))
  · have h := h c6_1
    refine a_iload_n (pc := 9) 0 5 rfl rfl ?_
    refine a_iconst (pc := 10) 0 6 (v := 1) rfl (by decide) ?_
    refine a_bipush (pc := 11) 0 7 (v := nI 100) rfl (by decide) ?_
    refine a_callSi (pc := 13) 0 8 (c_X12_in (S := S) p2 1 (nI 100)) rfl cs_X12_141 rfl (rm rfl) ?_
    refine a_seti (fun v3 ev3 => ?_)
    have h := h v3 ev3
    refine a_if_eq (pc := 16) (tgt := 36) 0 9 rfl (by decide) (fun c16_3 => ?_) (fun c16_3 => ?_)
    · refine a_iconst (pc := 36) 0 21 (v := 0) rfl (by decide) ?_
      exact J37_31 _ (by exact ((if_neg c6_1).trans ((lt_eq ev3).trans (if_pos c16_3))))
    · have h := h c16_3
      refine a_aload_n (pc := 19) 0 10 rfl rfl ?_
      refine a_iload_n (pc := 20) 0 11 rfl rfl ?_
      have o5 := h
      refine a_callVi (pc := 21) 0 12 (c_X12_free (S := S) p1 o5) rfl cv_X12_202 (by decide) rfl rfl rfl (rm rfl) ?_
      refine a_seti (fun v6 ev6 => ?_)
      refine a_i2l (pc := 24) 0 13 rfl ?_
      refine a_iload_n (pc := 25) 0 14 rfl rfl ?_
      refine a_i2l (pc := 26) 0 15 rfl ?_
      refine a_lmul (pc := 27) 0 16 rfl ?_
      refine a_ldc2 (pc := 28) 0 17 (v := 100) rfl cl_X12_264 ?_
      refine a_ldiv (pc := 31) 0 18 rfl (by decide) ?_
      refine a_l2i (pc := 32) 0 19 rfl ?_
      refine a_goto (pc := 33) (tgt := 37) 0 20 rfl (by decide) ?_
      exact J37_31 _ (by exact ((if_neg c6_1).trans ((lt_eq ev3).trans ((if_neg c16_3).trans (lt_eq ev6)))))
theorem c_X12_levy {S : Mem} (p1 : Int32) (p2 : Int32)   (h : ok_X12_levy S p1 p2) : Cts mdX12_levy 2 42 [vr 12 0, vi p1, vi p2] S (Is (some (vi (f_X12_levy S p1 p2).1)) ((f_X12_levy S p1 p2).2)) := Cts.of dtX12_levy (by decide +kernel) rfl rfl (Nat.le_of_ble_eq_true rfl) rfl (fun O G => w_X12_levy p1 p2 h (fun _ _ h9 => ⟨by rw [h9], by rw [h9]⟩))
def f_X12_spend (S : Mem) (p1 : Int32) (p2 : Int32) : Int32 × Mem := lt (f_X12_isHolder S p1) (fun (v1 : Int32) => lt (if v1 = 0 then (1) else (lt (f_X12_in S p2 1 (nI 10000)) (fun (v3 : Int32) => if v3 = 0 then (nI 2) else (lt (f_X12_hasAccount S p1) (fun (v6 : Int32) => if v6 = 0 then (nI 3) else (if p2 ≤ (S.2.1 kTreasury 0) then (0) else (nI 3))))))) (fun (v9 : Int32) => lt ((f_X12_holds S v9).2) (fun (S10 : Mem) => lt ((f_X12_holds S v9).1) (fun (v11 : Int32) => if v11 = 0 then ((0, S10)) else (lt ((S10.1, upd2 S10.2.1 kAccounts (ix p1) ((S10.2.1 kAccounts (ix p1)) + p2), S10.2.2)) (fun (S15 : Mem) => lt ((S15.1, upd2 S15.2.1 kReserves (ix (S15.2.1 kBankOf (ix p1))) ((S15.2.1 kReserves (ix (S15.2.1 kBankOf (ix p1)))) + p2), S15.2.2)) (fun (S19 : Mem) => lt ((S19.1, upd2 S19.2.1 kTreasury 0 ((S19.2.1 kTreasury 0) - p2), S19.2.2)) (fun (S20 : Mem) => (S20.2.1 kTreasury 0, S20)))))))))
def ok_X12_spend (S : Mem) (p1 : Int32) (p2 : Int32) : Prop := ((∀ v1 : Int32, (f_X12_isHolder S p1) = v1 → (((¬ (v1 = 0)) → ((∀ v3 : Int32, (f_X12_in S p2 1 (nI 10000)) = v3 → (((¬ (v3 = 0)) → ((ok_X12_hasAccount S p1))))))) ∧ (∀ v9 : Int32, (if v1 = 0 then (1) else (lt (f_X12_in S p2 1 (nI 10000)) (fun (v3 : Int32) => if v3 = 0 then (nI 2) else (lt (f_X12_hasAccount S p1) (fun (v6 : Int32) => if v6 = 0 then (nI 3) else (if p2 ≤ (S.2.1 kTreasury 0) then (0) else (nI 3))))))) = v9 → ((∀ S10 : Mem, ((f_X12_holds S v9).2) = S10 → ((∀ v11 : Int32, ((f_X12_holds S v9).1) = v11 → (((¬ (v11 = 0)) → ((inb p1 16) ∧ (inb p1 16) ∧ (∀ S15 : Mem, ((S10.1, upd2 S10.2.1 kAccounts (ix p1) ((S10.2.1 kAccounts (ix p1)) + p2), S10.2.2)) = S15 → ((inb p1 16) ∧ (inb (S15.2.1 kBankOf (ix p1)) 4) ∧ (inb (S15.2.1 kBankOf (ix p1)) 4))))))))))))))
abbrev fdX12_spend : FD := (mdX12_spend, [], 2, 42, 0, 0)
set_option maxRecDepth 100000 in
set_option maxHeartbeats 4000000 in
theorem w_X12_spend {O : Om} {G : Cx} {S : Mem} {PP : Option AV → Mem → Prop} (p1 : Int32) (p2 : Int32)   (h : ok_X12_spend S p1 p2) (hP : ∀ x9 S9, f_X12_spend S p1 p2 = (x9, S9) → PP (some (vi x9)) S9) : BW O G fdX12_spend 0 0 (QV O G 0 0 PP) S 0 [some (vr 12 0), some (vi p1), some (vi p2), none] [] := by
  refine a_iload_n (pc := 0) 0 0 rfl rfl ?_
  refine a_callSi (pc := 1) 0 1 (c_X12_isHolder (S := S) p1) rfl cs_X12_171 rfl (rm rfl) ?_
  refine a_seti (fun v1 ev1 => ?_)
  have h := h v1 ev1
  refine a_istore_n (pc := 4) 0 2 (ls2 := [some (vr 12 0), some (vi p1), some (vi p2), some (vi v1)]) rfl rfl (by decide) rfl ?_
  refine a_aload_n (pc := 5) 0 3 rfl rfl ?_
  refine a_iload_n (pc := 6) 0 4 rfl rfl ?_
  obtain ⟨hr0, h⟩ := h
  have J50_20 : ∀ (v9 : Int32) (ev9 : (if v1 = 0 then (1) else (lt (f_X12_in S p2 1 (nI 10000)) (fun (v3 : Int32) => if v3 = 0 then (nI 2) else (lt (f_X12_hasAccount S p1) (fun (v6 : Int32) => if v6 = 0 then (nI 3) else (if p2 ≤ (S.2.1 kTreasury 0) then (0) else (nI 3))))))) = v9), BW O G fdX12_spend 0 0 (QV O G 0 0 PP) S 50 [some (vr 12 0), some (vi p1), some (vi p2), some (vi v1)] [vi v9, vr 12 0] := by
    intro v9 ev9
    have h := h v9 ev9
    refine a_callVi (pc := 50) 0 26 (c_X12_holds (S := S) v9) rfl cv_X12_175 (by decide) rfl rfl rfl (rm rfl) ?_
    refine a_set (fun S10 eS10 => ?_)
    have h := h S10 eS10
    refine a_seti (fun v11 ev11 => ?_)
    have h := h v11 ev11
    refine a_if_ne (pc := 53) (tgt := 58) 0 27 rfl (by decide) (fun c53_11 => ?_) (fun c53_11 => ?_)
    · have h := h c53_11
      refine a_aload_n (pc := 58) 0 30 rfl rfl ?_
      refine g_12_accounts (pc := 59) 0 31 rfl fl_X12_26 ?_
      refine a_iload_n (pc := 62) 0 32 rfl rfl ?_
      refine a_dup2 (pc := 63) 0 33 rfl rfl rfl ?_
      obtain ⟨o13, h⟩ := h
      refine e_27 (pc := 64) 0 34 (ix p1) rfl o13.1 o13.2 ?_
      refine a_iload_n (pc := 65) 0 35 rfl rfl ?_
      refine a_iadd (pc := 66) 0 36 rfl ?_
      obtain ⟨o14, h⟩ := h
      refine s_27 (pc := 67) 0 37 (ix p1) rfl o14.1 o14.2 ?_
      refine a_set (fun S15 eS15 => ?_)
      have h := h S15 eS15
      refine a_aload_n (pc := 68) 0 38 rfl rfl ?_
      refine g_12_reserves (pc := 69) 0 39 rfl fl_X12_50 ?_
      refine a_aload_n (pc := 72) 0 40 rfl rfl ?_
      refine g_12_bankOf (pc := 73) 0 41 rfl fl_X12_23 ?_
      refine a_iload_n (pc := 76) 0 42 rfl rfl ?_
      obtain ⟨o16, h⟩ := h
      refine e_26 (pc := 77) 0 43 (ix p1) rfl o16.1 o16.2 ?_
      refine a_dup2 (pc := 78) 0 44 rfl rfl rfl ?_
      obtain ⟨o17, h⟩ := h
      refine e_35 (pc := 79) 0 45 (ix (S15.2.1 kBankOf (ix p1))) rfl o17.1 o17.2 ?_
      refine a_iload_n (pc := 80) 0 46 rfl rfl ?_
      refine a_iadd (pc := 81) 0 47 rfl ?_
      have o18 := h
      refine s_35 (pc := 82) 1 0 (ix (S15.2.1 kBankOf (ix p1))) rfl o18.1 o18.2 ?_
      refine a_set (fun S19 eS19 => ?_)
      refine a_aload_n (pc := 83) 1 1 rfl rfl ?_
      refine a_dup (pc := 84) 1 2 rfl rfl ?_
      refine g_12_treasury (pc := 85) 1 3 rfl fl_X12_168 ?_
      refine a_iload_n (pc := 88) 1 4 rfl rfl ?_
      refine a_isub (pc := 89) 1 5 rfl ?_
      refine p_12_treasury (pc := 90) 1 6 rfl fl_X12_168 ?_
      refine a_set (fun S20 eS20 => ?_)
      refine a_aload_n (pc := 93) 1 7 rfl rfl ?_
      refine g_12_treasury (pc := 94) 1 8 rfl fl_X12_168 ?_
      exact a_iret (pc := 97) 1 9 rfl rfl (hP _ _ (by unfold f_X12_spend; exact (lt_eq ev1).trans ((lt_eq ev9).trans ((lt_eq eS10).trans ((lt_eq ev11).trans ((if_neg c53_11).trans ((lt_eq eS15).trans ((lt_eq eS19).trans (lt_eq eS20)))))))))
    · refine a_iconst (pc := 56) 0 28 (v := 0) rfl (by decide) ?_
      exact a_iret (pc := 57) 0 29 rfl rfl (hP _ _ (by unfold f_X12_spend; exact (lt_eq ev1).trans ((lt_eq ev9).trans ((lt_eq eS10).trans ((lt_eq ev11).trans (if_pos c53_11))))))
  have h := hr0
  refine a_if_ne (pc := 7) (tgt := 14) 0 5 rfl (by decide) (fun c7_1 => ?_) (fun c7_1 => ?_)
  · have h := h c7_1
    refine a_iload_n (pc := 14) 0 8 rfl rfl ?_
    refine a_iconst (pc := 15) 0 9 (v := 1) rfl (by decide) ?_
    refine a_sipush (pc := 16) 0 10 (v := nI 10000) rfl (by decide) ?_
    refine a_callSi (pc := 19) 0 11 (c_X12_in (S := S) p2 1 (nI 10000)) rfl cs_X12_141 rfl (rm rfl) ?_
    refine a_seti (fun v3 ev3 => ?_)
    have h := h v3 ev3
    refine a_if_ne (pc := 22) (tgt := 29) 0 12 rfl (by decide) (fun c22_3 => ?_) (fun c22_3 => ?_)
    · have h := h c22_3
      refine a_aload_n (pc := 29) 0 15 rfl rfl ?_
      refine a_iload_n (pc := 30) 0 16 rfl rfl ?_
      have o5 := h
      refine a_callVi (pc := 31) 0 17 (c_X12_hasAccount (S := S) p1 o5) rfl cv_X12_184 (by decide) rfl rfl rfl (rm rfl) ?_
      refine a_seti (fun v6 ev6 => ?_)
      refine a_if_eq (pc := 34) (tgt := 45) 0 18 rfl (by decide) (fun c34_6 => ?_) (fun c34_6 => ?_)
      · refine a_iconst (pc := 45) 0 23 (v := nI 3) rfl (by decide) ?_
        refine a_goto (pc := 46) (tgt := 50) 0 24 rfl (by decide) ?_
        exact J50_20 _ (by exact ((if_neg c7_1).trans ((lt_eq ev3).trans ((if_neg c22_3).trans ((lt_eq ev6).trans (if_pos c34_6))))))
      · refine a_aload_n (pc := 37) 0 19 rfl rfl ?_
        refine g_12_treasury (pc := 38) 0 20 rfl fl_X12_168 ?_
        refine a_iload_n (pc := 41) 0 21 rfl rfl ?_
        refine a_icmp_ge (pc := 42) (tgt := 49) 0 22 rfl (by decide) (fun c42_7 => ?_) (fun c42_7 => ?_)
        · refine a_iconst (pc := 49) 0 25 (v := 0) rfl (by decide) ?_
          exact J50_20 _ (by exact ((if_neg c7_1).trans ((lt_eq ev3).trans ((if_neg c22_3).trans ((lt_eq ev6).trans ((if_neg c34_6).trans (if_pos c42_7)))))))
        · refine a_iconst (pc := 45) 0 23 (v := nI 3) rfl (by decide) ?_
          refine a_goto (pc := 46) (tgt := 50) 0 24 rfl (by decide) ?_
          exact J50_20 _ (by exact ((if_neg c7_1).trans ((lt_eq ev3).trans ((if_neg c22_3).trans ((lt_eq ev6).trans ((if_neg c34_6).trans (if_neg c42_7)))))))
    · refine a_iconst (pc := 25) 0 13 (v := nI 2) rfl (by decide) ?_
      refine a_goto (pc := 26) (tgt := 50) 0 14 rfl (by decide) ?_
      exact J50_20 _ (by exact ((if_neg c7_1).trans ((lt_eq ev3).trans (if_pos c22_3))))
  · refine a_iconst (pc := 10) 0 6 (v := 1) rfl (by decide) ?_
    refine a_goto (pc := 11) (tgt := 50) 0 7 rfl (by decide) ?_
    exact J50_20 _ (by exact (if_pos c7_1))
theorem c_X12_spend {S : Mem} (p1 : Int32) (p2 : Int32)   (h : ok_X12_spend S p1 p2) : Cts mdX12_spend 2 42 [vr 12 0, vi p1, vi p2] S (Is (some (vi (f_X12_spend S p1 p2).1)) ((f_X12_spend S p1 p2).2)) := Cts.of dtX12_spend (by decide +kernel) rfl rfl (Nat.le_of_ble_eq_true rfl) rfl (fun O G => w_X12_spend p1 p2 h (fun _ _ h9 => ⟨by rw [h9], by rw [h9]⟩))
def f_X12_exchange (S : Mem) (p1 : Int32) : Int32 × Mem := lt (f_X12_in S p1 (nI 10) (nI 1000)) (fun (v1 : Int32) => lt (if v1 = 0 then (1) else (0)) (fun (v3 : Int32) => lt ((f_X12_holds S v3).2) (fun (S4 : Mem) => lt ((f_X12_holds S v3).1) (fun (v5 : Int32) => if v5 = 0 then ((0, S4)) else (lt ((S4.1, upd2 S4.2.1 kExchange 0 p1, S4.2.2)) (fun (S7 : Mem) => (S4.2.1 kExchange 0, S7)))))))
abbrev fdX12_exchange : FD := (mdX12_exchange, [], 1, 22, 0, 0)
set_option maxRecDepth 100000 in
set_option maxHeartbeats 4000000 in
theorem w_X12_exchange {O : Om} {G : Cx} {S : Mem} {PP : Option AV → Mem → Prop} (p1 : Int32)   (hP : ∀ x9 S9, f_X12_exchange S p1 = (x9, S9) → PP (some (vi x9)) S9) : BW O G fdX12_exchange 0 0 (QV O G 0 0 PP) S 0 [some (vr 12 0), some (vi p1), none] [] := by
  refine a_aload_n (pc := 0) 0 0 rfl rfl ?_
  refine a_iload_n (pc := 1) 0 1 rfl rfl ?_
  refine a_bipush (pc := 2) 0 2 (v := nI 10) rfl (by decide) ?_
  refine a_sipush (pc := 4) 0 3 (v := nI 1000) rfl (by decide) ?_
  refine a_callSi (pc := 7) 0 4 (c_X12_in (S := S) p1 (nI 10) (nI 1000)) rfl cs_X12_141 rfl (rm rfl) ?_
  refine a_seti (fun v1 ev1 => ?_)
  have J18_7 : ∀ (v3 : Int32) (ev3 : (if v1 = 0 then (1) else (0)) = v3), BW O G fdX12_exchange 0 0 (QV O G 0 0 PP) S 18 [some (vr 12 0), some (vi p1), none] [vi v3, vr 12 0] := by
    intro v3 ev3
    refine a_callVi (pc := 18) 0 9 (c_X12_holds (S := S) v3) rfl cv_X12_175 (by decide) rfl rfl rfl (rm rfl) ?_
    refine a_set (fun S4 eS4 => ?_)
    refine a_seti (fun v5 ev5 => ?_)
    refine a_if_ne (pc := 21) (tgt := 26) 0 10 rfl (by decide) (fun c21_5 => ?_) (fun c21_5 => ?_)
    · refine a_aload_n (pc := 26) 0 13 rfl rfl ?_
      refine g_12_exchange (pc := 27) 0 14 rfl fl_X12_135 ?_
      refine a_istore_n (pc := 30) 0 15 (ls2 := [some (vr 12 0), some (vi p1), some (vi (S4.2.1 kExchange 0))]) rfl rfl (by decide) rfl ?_
      refine a_aload_n (pc := 31) 0 16 rfl rfl ?_
      refine a_iload_n (pc := 32) 0 17 rfl rfl ?_
      refine p_12_exchange (pc := 33) 0 18 rfl fl_X12_135 ?_
      refine a_set (fun S7 eS7 => ?_)
      refine a_iload_n (pc := 36) 0 19 rfl rfl ?_
      exact a_iret (pc := 37) 0 20 rfl rfl (hP _ _ (by unfold f_X12_exchange; exact (lt_eq ev1).trans ((lt_eq ev3).trans ((lt_eq eS4).trans ((lt_eq ev5).trans ((if_neg c21_5).trans (lt_eq eS7)))))))
    · refine a_iconst (pc := 24) 0 11 (v := 0) rfl (by decide) ?_
      exact a_iret (pc := 25) 0 12 rfl rfl (hP _ _ (by unfold f_X12_exchange; exact (lt_eq ev1).trans ((lt_eq ev3).trans ((lt_eq eS4).trans ((lt_eq ev5).trans (if_pos c21_5))))))
  refine a_if_eq (pc := 10) (tgt := 17) 0 5 rfl (by decide) (fun c10_1 => ?_) (fun c10_1 => ?_)
  · refine a_iconst (pc := 17) 0 8 (v := 1) rfl (by decide) ?_
    exact J18_7 _ (by exact (if_pos c10_1))
  · refine a_iconst (pc := 13) 0 6 (v := 0) rfl (by decide) ?_
    refine a_goto (pc := 14) (tgt := 18) 0 7 rfl (by decide) ?_
    exact J18_7 _ (by exact (if_neg c10_1))
theorem c_X12_exchange {S : Mem} (p1 : Int32)   : Cts mdX12_exchange 1 22 [vr 12 0, vi p1] S (Is (some (vi (f_X12_exchange S p1).1)) ((f_X12_exchange S p1).2)) := Cts.of dtX12_exchange (by decide +kernel) rfl rfl (Nat.le_of_ble_eq_true rfl) rfl (fun O G => w_X12_exchange p1 (fun _ _ h9 => ⟨by rw [h9], by rw [h9]⟩))
def f_X12_abroad (S : Mem) (p1 : Int32) (p2 : Int32) (p3 : Int32) : Int32 × Mem := lt (f_X12_isFirm S p1) (fun (v1 : Int32) => lt (if v1 = 0 then (0) else (lt (f_X12_in S p2 1 (nI 1000)) (fun (v3 : Int32) => if v3 = 0 then (0) else ((p2 * (S.2.1 kExchange 0)) / (nI 100))))) (fun (v5 : Int32) => lt (if v1 = 0 then (0) else (lt (f_X12_hasAccount S p1) (fun (v8 : Int32) => if v8 = 0 then (0) else (if p3 = 0 then (if (S.2.1 kForeign 0) < p2 then (0) else (lt (f_X12_free S p1) (fun (v13 : Int32) => if v13 < v5 then (0) else (if (S.2.1 kReserves (ix (S.2.1 kBankOf (ix p1)))) < v5 then (0) else (1))))) else (1))))) (fun (v18 : Int32) => lt (if v1 = 0 then (1) else (lt (f_X12_in S p2 1 (nI 1000)) (fun (v20 : Int32) => if v20 = 0 then (nI 2) else (if v18 = 0 then (nI 3) else (0))))) (fun (v23 : Int32) => lt ((f_X12_holds S v23).2) (fun (S24 : Mem) => lt ((f_X12_holds S v23).1) (fun (v25 : Int32) => if v25 = 0 then ((0, S24)) else (lt (if p3 = 0 then (-v5) else (v5)) (fun (v28 : Int32) => lt ((S24.1, upd2 S24.2.1 kAccounts (ix p1) ((S24.2.1 kAccounts (ix p1)) + v28), S24.2.2)) (fun (S31 : Mem) => lt ((S31.1, upd2 S31.2.1 kReserves (ix (S31.2.1 kBankOf (ix p1))) ((S31.2.1 kReserves (ix (S31.2.1 kBankOf (ix p1)))) + v28), S31.2.2)) (fun (S35 : Mem) => lt ((S35.1, upd2 S35.2.1 kForeignCost 0 ((S35.2.1 kForeignCost 0) + v28), S35.2.2)) (fun (S36 : Mem) => lt (if p3 = 0 then (-p2) else (p2)) (fun (v38 : Int32) => lt ((S36.1, upd2 S36.2.1 kForeign 0 ((S36.2.1 kForeign 0) + v38), S36.2.2)) (fun (S39 : Mem) => (v5, S39))))))))))))))
def ok_X12_abroad (S : Mem) (p1 : Int32) (p2 : Int32) (p3 : Int32) : Prop := ((∀ v1 : Int32, (f_X12_isFirm S p1) = v1 → ((∀ v5 : Int32, (if v1 = 0 then (0) else (lt (f_X12_in S p2 1 (nI 1000)) (fun (v3 : Int32) => if v3 = 0 then (0) else ((p2 * (S.2.1 kExchange 0)) / (nI 100))))) = v5 → (((¬ (v1 = 0)) → ((ok_X12_hasAccount S p1) ∧ (∀ v8 : Int32, (f_X12_hasAccount S p1) = v8 → (((¬ (v8 = 0)) → (((p3 = 0) → (((¬ ((S.2.1 kForeign 0) < p2)) → ((ok_X12_free S p1) ∧ (∀ v13 : Int32, (f_X12_free S p1) = v13 → (((¬ (v13 < v5)) → ((inb p1 16) ∧ (inb (S.2.1 kBankOf (ix p1)) 4))))))))))))))) ∧ (∀ v18 : Int32, (if v1 = 0 then (0) else (lt (f_X12_hasAccount S p1) (fun (v8 : Int32) => if v8 = 0 then (0) else (if p3 = 0 then (if (S.2.1 kForeign 0) < p2 then (0) else (lt (f_X12_free S p1) (fun (v13 : Int32) => if v13 < v5 then (0) else (if (S.2.1 kReserves (ix (S.2.1 kBankOf (ix p1)))) < v5 then (0) else (1))))) else (1))))) = v18 → ((∀ v23 : Int32, (if v1 = 0 then (1) else (lt (f_X12_in S p2 1 (nI 1000)) (fun (v20 : Int32) => if v20 = 0 then (nI 2) else (if v18 = 0 then (nI 3) else (0))))) = v23 → ((∀ S24 : Mem, ((f_X12_holds S v23).2) = S24 → ((∀ v25 : Int32, ((f_X12_holds S v23).1) = v25 → (((¬ (v25 = 0)) → ((∀ v28 : Int32, (if p3 = 0 then (-v5) else (v5)) = v28 → ((inb p1 16) ∧ (inb p1 16) ∧ (∀ S31 : Mem, ((S24.1, upd2 S24.2.1 kAccounts (ix p1) ((S24.2.1 kAccounts (ix p1)) + v28), S24.2.2)) = S31 → ((inb p1 16) ∧ (inb (S31.2.1 kBankOf (ix p1)) 4) ∧ (inb (S31.2.1 kBankOf (ix p1)) 4))))))))))))))))))))
abbrev fdX12_abroad : FD := (mdX12_abroad, [], 2, 42, 0, 0)
set_option maxRecDepth 100000 in
set_option maxHeartbeats 4000000 in
theorem w_X12_abroad {O : Om} {G : Cx} {S : Mem} {PP : Option AV → Mem → Prop} (p1 : Int32) (p2 : Int32) (p3 : Int32)  (hb_p3 : p3 = 0 ∨ p3 = 1) (h : ok_X12_abroad S p1 p2 p3) (hP : ∀ x9 S9, f_X12_abroad S p1 p2 p3 = (x9, S9) → PP (some (vi x9)) S9) : BW O G fdX12_abroad 0 0 (QV O G 0 0 PP) S 0 [some (vr 12 0), some (vi p1), some (vi p2), some (vi p3), none, none, none, none] [] := by
  refine a_iload_n (pc := 0) 0 0 rfl rfl ?_
  refine a_callSi (pc := 1) 0 1 (c_X12_isFirm (S := S) p1) rfl cs_X12_266 rfl (rm rfl) ?_
  refine a_seti (fun v1 ev1 => ?_)
  have h := h v1 ev1
  refine a_istore (pc := 4) 0 2 (ls2 := [some (vr 12 0), some (vi p1), some (vi p2), some (vi p3), some (vi v1), none, none, none]) rfl (by decide) rfl ?_
  refine a_iload (pc := 6) 0 3 rfl rfl ?_
  have J35_39 : ∀ (v5 : Int32) (ev5 : (if v1 = 0 then (0) else (lt (f_X12_in S p2 1 (nI 1000)) (fun (v3 : Int32) => if v3 = 0 then (0) else ((p2 * (S.2.1 kExchange 0)) / (nI 100))))) = v5), BW O G fdX12_abroad 0 0 (QV O G 0 0 PP) S 35 [some (vr 12 0), some (vi p1), some (vi p2), some (vi p3), some (vi v1), none, none, none] [vi v5] := by
    intro v5 ev5
    have h := h v5 ev5
    refine a_istore (pc := 35) 0 18 (ls2 := [some (vr 12 0), some (vi p1), some (vi p2), some (vi p3), some (vi v1), some (vi v5), none, none]) rfl (by decide) rfl ?_
    refine a_iload (pc := 37) 0 19 rfl rfl ?_
    obtain ⟨hr0, h⟩ := h
    have J93_40 : ∀ (v18 : Int32) (ev18 : (if v1 = 0 then (0) else (lt (f_X12_hasAccount S p1) (fun (v8 : Int32) => if v8 = 0 then (0) else (if p3 = 0 then (if (S.2.1 kForeign 0) < p2 then (0) else (lt (f_X12_free S p1) (fun (v13 : Int32) => if v13 < v5 then (0) else (if (S.2.1 kReserves (ix (S.2.1 kBankOf (ix p1)))) < v5 then (0) else (1))))) else (1))))) = v18), BW O G fdX12_abroad 0 0 (QV O G 0 0 PP) S 93 [some (vr 12 0), some (vi p1), some (vi p2), some (vi p3), some (vi v1), some (vi v5), none, none] [vi v18] := by
      intro v18 ev18
      have h := h v18 ev18
      refine a_istore (pc := 93) 1 0 (ls2 := [some (vr 12 0), some (vi p1), some (vi p2), some (vi p3), some (vi v1), some (vi v5), some (vi v18), none]) rfl (by decide) rfl ?_
      refine a_aload_n (pc := 95) 1 1 rfl rfl ?_
      refine a_iload (pc := 96) 1 2 rfl rfl ?_
      have J130_41 : ∀ (v23 : Int32) (ev23 : (if v1 = 0 then (1) else (lt (f_X12_in S p2 1 (nI 1000)) (fun (v20 : Int32) => if v20 = 0 then (nI 2) else (if v18 = 0 then (nI 3) else (0))))) = v23), BW O G fdX12_abroad 0 0 (QV O G 0 0 PP) S 130 [some (vr 12 0), some (vi p1), some (vi p2), some (vi p3), some (vi v1), some (vi v5), some (vi v18), none] [vi v23, vr 12 0] := by
        intro v23 ev23
        have h := h v23 ev23
        refine a_callVi (pc := 130) 1 18 (c_X12_holds (S := S) v23) rfl cv_X12_175 (by decide) rfl rfl rfl (rm rfl) ?_
        refine a_set (fun S24 eS24 => ?_)
        have h := h S24 eS24
        refine a_seti (fun v25 ev25 => ?_)
        have h := h v25 ev25
        refine a_if_ne (pc := 133) (tgt := 138) 1 19 rfl (by decide) (fun c133_25 => ?_) (fun c133_25 => ?_)
        · have h := h c133_25
          refine a_iload_n (pc := 138) 1 22 rfl rfl ?_
          have J150_42 : ∀ (v28 : Int32) (ev28 : (if p3 = 0 then (-v5) else (v5)) = v28), BW O G fdX12_abroad 0 0 (QV O G 0 0 PP) S24 150 [some (vr 12 0), some (vi p1), some (vi p2), some (vi p3), some (vi v1), some (vi v5), some (vi v18), none] [vi v28] := by
            intro v28 ev28
            have h := h v28 ev28
            refine a_istore (pc := 150) 1 28 (ls2 := [some (vr 12 0), some (vi p1), some (vi p2), some (vi p3), some (vi v1), some (vi v5), some (vi v18), some (vi v28)]) rfl (by decide) rfl ?_
            refine a_aload_n (pc := 152) 1 29 rfl rfl ?_
            refine g_12_accounts (pc := 153) 1 30 rfl fl_X12_26 ?_
            refine a_iload_n (pc := 156) 1 31 rfl rfl ?_
            refine a_dup2 (pc := 157) 1 32 rfl rfl rfl ?_
            obtain ⟨o29, h⟩ := h
            refine e_27 (pc := 158) 1 33 (ix p1) rfl o29.1 o29.2 ?_
            refine a_iload (pc := 159) 1 34 rfl rfl ?_
            refine a_iadd (pc := 161) 1 35 rfl ?_
            obtain ⟨o30, h⟩ := h
            refine s_27 (pc := 162) 1 36 (ix p1) rfl o30.1 o30.2 ?_
            refine a_set (fun S31 eS31 => ?_)
            have h := h S31 eS31
            refine a_aload_n (pc := 163) 1 37 rfl rfl ?_
            refine g_12_reserves (pc := 164) 1 38 rfl fl_X12_50 ?_
            refine a_aload_n (pc := 167) 1 39 rfl rfl ?_
            refine g_12_bankOf (pc := 168) 1 40 rfl fl_X12_23 ?_
            refine a_iload_n (pc := 171) 1 41 rfl rfl ?_
            obtain ⟨o32, h⟩ := h
            refine e_26 (pc := 172) 1 42 (ix p1) rfl o32.1 o32.2 ?_
            refine a_dup2 (pc := 173) 1 43 rfl rfl rfl ?_
            obtain ⟨o33, h⟩ := h
            refine e_35 (pc := 174) 1 44 (ix (S31.2.1 kBankOf (ix p1))) rfl o33.1 o33.2 ?_
            refine a_iload (pc := 175) 1 45 rfl rfl ?_
            refine a_iadd (pc := 177) 1 46 rfl ?_
            have o34 := h
            refine s_35 (pc := 178) 1 47 (ix (S31.2.1 kBankOf (ix p1))) rfl o34.1 o34.2 ?_
            refine a_set (fun S35 eS35 => ?_)
            refine a_aload_n (pc := 179) 2 0 rfl rfl ?_
            refine a_dup (pc := 180) 2 1 rfl rfl ?_
            refine g_12_foreignCost (pc := 181) 2 2 rfl fl_X12_165 ?_
            refine a_iload (pc := 184) 2 3 rfl rfl ?_
            refine a_iadd (pc := 186) 2 4 rfl ?_
            refine p_12_foreignCost (pc := 187) 2 5 rfl fl_X12_165 ?_
            refine a_set (fun S36 eS36 => ?_)
            refine a_aload_n (pc := 190) 2 6 rfl rfl ?_
            refine a_dup (pc := 191) 2 7 rfl rfl ?_
            refine g_12_foreign (pc := 192) 2 8 rfl fl_X12_269 ?_
            refine a_iload_n (pc := 195) 2 9 rfl rfl ?_
            have J205_43 : ∀ (v38 : Int32) (ev38 : (if p3 = 0 then (-p2) else (p2)) = v38), BW O G fdX12_abroad 0 0 (QV O G 0 0 PP) S36 205 [some (vr 12 0), some (vi p1), some (vi p2), some (vi p3), some (vi v1), some (vi v5), some (vi v18), some (vi v28)] [vi v38, vi (S36.2.1 kForeign 0), vr 12 0] := by
              intro v38 ev38
              refine a_iadd (pc := 205) 2 15 rfl ?_
              refine p_12_foreign (pc := 206) 2 16 rfl fl_X12_269 ?_
              refine a_set (fun S39 eS39 => ?_)
              refine a_iload (pc := 209) 2 17 rfl rfl ?_
              exact a_iret (pc := 211) 2 18 rfl rfl (hP _ _ (by unfold f_X12_abroad; exact (lt_eq ev1).trans ((lt_eq ev5).trans ((lt_eq ev18).trans ((lt_eq ev23).trans ((lt_eq eS24).trans ((lt_eq ev25).trans ((if_neg c133_25).trans ((lt_eq ev28).trans ((lt_eq eS31).trans ((lt_eq eS35).trans ((lt_eq eS36).trans ((lt_eq ev38).trans (lt_eq eS39))))))))))))))
            refine a_if_eq (pc := 196) (tgt := 203) 2 10 rfl (by decide) (fun c196_36 => ?_) (fun c196_36 => ?_)
            · refine a_iload_n (pc := 203) 2 13 rfl rfl ?_
              refine a_ineg (pc := 204) 2 14 rfl ?_
              exact J205_43 _ (by exact (if_pos c196_36))
            · refine a_iload_n (pc := 199) 2 11 rfl rfl ?_
              refine a_goto (pc := 200) (tgt := 205) 2 12 rfl (by decide) ?_
              exact J205_43 _ (by exact (if_neg c196_36))
          refine a_if_eq (pc := 139) (tgt := 147) 1 23 rfl (by decide) (fun c139_26 => ?_) (fun c139_26 => ?_)
          · refine a_iload (pc := 147) 1 26 rfl rfl ?_
            refine a_ineg (pc := 149) 1 27 rfl ?_
            exact J150_42 _ (by exact (if_pos c139_26))
          · refine a_iload (pc := 142) 1 24 rfl rfl ?_
            refine a_goto (pc := 144) (tgt := 150) 1 25 rfl (by decide) ?_
            exact J150_42 _ (by exact (if_neg c139_26))
        · refine a_iconst (pc := 136) 1 20 (v := 0) rfl (by decide) ?_
          exact a_iret (pc := 137) 1 21 rfl rfl (hP _ _ (by unfold f_X12_abroad; exact (lt_eq ev1).trans ((lt_eq ev5).trans ((lt_eq ev18).trans ((lt_eq ev23).trans ((lt_eq eS24).trans ((lt_eq ev25).trans (if_pos c133_25))))))))
      refine a_if_ne (pc := 98) (tgt := 105) 1 3 rfl (by decide) (fun c98_18 => ?_) (fun c98_18 => ?_)
      · refine a_iload_n (pc := 105) 1 6 rfl rfl ?_
        refine a_iconst (pc := 106) 1 7 (v := 1) rfl (by decide) ?_
        refine a_sipush (pc := 107) 1 8 (v := nI 1000) rfl (by decide) ?_
        refine a_callSi (pc := 110) 1 9 (c_X12_in (S := S) p2 1 (nI 1000)) rfl cs_X12_141 rfl (rm rfl) ?_
        refine a_seti (fun v20 ev20 => ?_)
        refine a_if_ne (pc := 113) (tgt := 120) 1 10 rfl (by decide) (fun c113_20 => ?_) (fun c113_20 => ?_)
        · refine a_iload (pc := 120) 1 13 rfl rfl ?_
          refine a_if_eq (pc := 122) (tgt := 129) 1 14 rfl (by decide) (fun c122_21 => ?_) (fun c122_21 => ?_)
          · refine a_iconst (pc := 129) 1 17 (v := nI 3) rfl (by decide) ?_
            exact J130_41 _ (by exact ((if_neg c98_18).trans ((lt_eq ev20).trans ((if_neg c113_20).trans (if_pos c122_21)))))
          · refine a_iconst (pc := 125) 1 15 (v := 0) rfl (by decide) ?_
            refine a_goto (pc := 126) (tgt := 130) 1 16 rfl (by decide) ?_
            exact J130_41 _ (by exact ((if_neg c98_18).trans ((lt_eq ev20).trans ((if_neg c113_20).trans (if_neg c122_21)))))
        · refine a_iconst (pc := 116) 1 11 (v := nI 2) rfl (by decide) ?_
          refine a_goto (pc := 117) (tgt := 130) 1 12 rfl (by decide) ?_
          exact J130_41 _ (by exact ((if_neg c98_18).trans ((lt_eq ev20).trans (if_pos c113_20))))
      · refine a_iconst (pc := 101) 1 4 (v := 1) rfl (by decide) ?_
        refine a_goto (pc := 102) (tgt := 130) 1 5 rfl (by decide) ?_
        exact J130_41 _ (by exact (if_pos c98_18))
    have h := hr0
    refine a_if_eq (pc := 39) (tgt := 92) 0 20 rfl (by decide) (fun c39_5 => ?_) (fun c39_5 => ?_)
    · refine a_iconst (pc := 92) 0 47 (v := 0) rfl (by decide) ?_
      exact J93_40 _ (by exact (if_pos c39_5))
    · have h := h c39_5
      refine a_aload_n (pc := 42) 0 21 rfl rfl ?_
      refine a_iload_n (pc := 43) 0 22 rfl rfl ?_
      obtain ⟨o7, h⟩ := h
      refine a_callVi (pc := 44) 0 23 (c_X12_hasAccount (S := S) p1 o7) rfl cv_X12_184 (by decide) rfl rfl rfl (rm rfl) ?_
      refine a_seti (fun v8 ev8 => ?_)
      have h := h v8 ev8
      refine a_if_eq (pc := 47) (tgt := 92) 0 24 rfl (by decide) (fun c47_8 => ?_) (fun c47_8 => ?_)
      · refine a_iconst (pc := 92) 0 47 (v := 0) rfl (by decide) ?_
        exact J93_40 _ (by exact ((if_neg c39_5).trans ((lt_eq ev8).trans (if_pos c47_8))))
      · have h := h c47_8
        refine a_iload_n (pc := 50) 0 25 rfl rfl ?_
        refine a_if_ne (pc := 51) (tgt := 88) 0 26 rfl (by decide) (fun c51_9 => ?_) (fun c51_9 => ?_)
        · refine a_iconst (pc := 88) 0 45 (v := 1) rfl (by decide) ?_
          refine a_goto (pc := 89) (tgt := 93) 0 46 rfl (by decide) ?_
          exact J93_40 _ (by exact ((if_neg c39_5).trans ((lt_eq ev8).trans ((if_neg c47_8).trans (if_neg c51_9)))))
        · have h := h c51_9
          refine a_aload_n (pc := 54) 0 27 rfl rfl ?_
          refine g_12_foreign (pc := 55) 0 28 rfl fl_X12_269 ?_
          refine a_iload_n (pc := 58) 0 29 rfl rfl ?_
          refine a_icmp_lt (pc := 59) (tgt := 92) 0 30 rfl (by decide) (fun c59_10 => ?_) (fun c59_10 => ?_)
          · refine a_iconst (pc := 92) 0 47 (v := 0) rfl (by decide) ?_
            exact J93_40 _ (by exact ((if_neg c39_5).trans ((lt_eq ev8).trans ((if_neg c47_8).trans ((if_pos c51_9).trans (if_pos c59_10))))))
          · have h := h c59_10
            refine a_aload_n (pc := 62) 0 31 rfl rfl ?_
            refine a_iload_n (pc := 63) 0 32 rfl rfl ?_
            obtain ⟨o12, h⟩ := h
            refine a_callVi (pc := 64) 0 33 (c_X12_free (S := S) p1 o12) rfl cv_X12_202 (by decide) rfl rfl rfl (rm rfl) ?_
            refine a_seti (fun v13 ev13 => ?_)
            have h := h v13 ev13
            refine a_iload (pc := 67) 0 34 rfl rfl ?_
            refine a_icmp_lt (pc := 69) (tgt := 92) 0 35 rfl (by decide) (fun c69_13 => ?_) (fun c69_13 => ?_)
            · refine a_iconst (pc := 92) 0 47 (v := 0) rfl (by decide) ?_
              exact J93_40 _ (by exact ((if_neg c39_5).trans ((lt_eq ev8).trans ((if_neg c47_8).trans ((if_pos c51_9).trans ((if_neg c59_10).trans ((lt_eq ev13).trans (if_pos c69_13))))))))
            · have h := h c69_13
              refine a_aload_n (pc := 72) 0 36 rfl rfl ?_
              refine g_12_reserves (pc := 73) 0 37 rfl fl_X12_50 ?_
              refine a_aload_n (pc := 76) 0 38 rfl rfl ?_
              refine g_12_bankOf (pc := 77) 0 39 rfl fl_X12_23 ?_
              refine a_iload_n (pc := 80) 0 40 rfl rfl ?_
              obtain ⟨o15, h⟩ := h
              refine e_26 (pc := 81) 0 41 (ix p1) rfl o15.1 o15.2 ?_
              have o16 := h
              refine e_35 (pc := 82) 0 42 (ix (S.2.1 kBankOf (ix p1))) rfl o16.1 o16.2 ?_
              refine a_iload (pc := 83) 0 43 rfl rfl ?_
              refine a_icmp_lt (pc := 85) (tgt := 92) 0 44 rfl (by decide) (fun c85_16 => ?_) (fun c85_16 => ?_)
              · refine a_iconst (pc := 92) 0 47 (v := 0) rfl (by decide) ?_
                exact J93_40 _ (by exact ((if_neg c39_5).trans ((lt_eq ev8).trans ((if_neg c47_8).trans ((if_pos c51_9).trans ((if_neg c59_10).trans ((lt_eq ev13).trans ((if_neg c69_13).trans (if_pos c85_16)))))))))
              · refine a_iconst (pc := 88) 0 45 (v := 1) rfl (by decide) ?_
                refine a_goto (pc := 89) (tgt := 93) 0 46 rfl (by decide) ?_
                exact J93_40 _ (by exact ((if_neg c39_5).trans ((lt_eq ev8).trans ((if_neg c47_8).trans ((if_pos c51_9).trans ((if_neg c59_10).trans ((lt_eq ev13).trans ((if_neg c69_13).trans (if_neg c85_16)))))))))
  refine a_if_eq (pc := 8) (tgt := 34) 0 4 rfl (by decide) (fun c8_1 => ?_) (fun c8_1 => ?_)
  · refine a_iconst (pc := 34) 0 17 (v := 0) rfl (by decide) ?_
    exact J35_39 _ (by exact (if_pos c8_1))
  · refine a_iload_n (pc := 11) 0 5 rfl rfl ?_
    refine a_iconst (pc := 12) 0 6 (v := 1) rfl (by decide) ?_
    refine a_sipush (pc := 13) 0 7 (v := nI 1000) rfl (by decide) ?_
    refine a_callSi (pc := 16) 0 8 (c_X12_in (S := S) p2 1 (nI 1000)) rfl cs_X12_141 rfl (rm rfl) ?_
    refine a_seti (fun v3 ev3 => ?_)
    refine a_if_eq (pc := 19) (tgt := 34) 0 9 rfl (by decide) (fun c19_3 => ?_) (fun c19_3 => ?_)
    · refine a_iconst (pc := 34) 0 17 (v := 0) rfl (by decide) ?_
      exact J35_39 _ (by exact ((if_neg c8_1).trans ((lt_eq ev3).trans (if_pos c19_3))))
    · refine a_iload_n (pc := 22) 0 10 rfl rfl ?_
      refine a_aload_n (pc := 23) 0 11 rfl rfl ?_
      refine g_12_exchange (pc := 24) 0 12 rfl fl_X12_135 ?_
      refine a_imul (pc := 27) 0 13 rfl ?_
      refine a_bipush (pc := 28) 0 14 (v := nI 100) rfl (by decide) ?_
      refine a_idiv (pc := 30) 0 15 rfl (by decide) ?_
      refine a_goto (pc := 31) (tgt := 35) 0 16 rfl (by decide) ?_
      exact J35_39 _ (by exact ((if_neg c8_1).trans ((lt_eq ev3).trans (if_neg c19_3))))
theorem c_X12_abroad {S : Mem} (p1 : Int32) (p2 : Int32) (p3 : Int32)  (hb_p3 : p3 = 0 ∨ p3 = 1) (h : ok_X12_abroad S p1 p2 p3) : Cts mdX12_abroad 2 42 [vr 12 0, vi p1, vi p2, vi p3] S (Is (some (vi (f_X12_abroad S p1 p2 p3).1)) ((f_X12_abroad S p1 p2 p3).2)) := Cts.of dtX12_abroad (by decide +kernel) rfl rfl (Nat.le_of_ble_eq_true rfl) rfl (fun O G => w_X12_abroad p1 p2 p3 hb_p3 h (fun _ _ h9 => ⟨by rw [h9], by rw [h9]⟩))
def f_X12_hire (S : Mem) (p1 : Int32) (p2 : Int32) (p3 : Int32) : Int32 × Mem := lt (f_X12_isHousehold S p1) (fun (v1 : Int32) => lt (if v1 = 0 then (1) else (lt (f_X12_isFirm S p2) (fun (v3 : Int32) => if v3 = 0 then (1) else (lt (f_X12_in S p3 1 (nI 1000)) (fun (v5 : Int32) => if v5 = 0 then (nI 2) else (0)))))) (fun (v7 : Int32) => lt ((f_X12_holds S v7).2) (fun (S8 : Mem) => lt ((f_X12_holds S v7).1) (fun (v9 : Int32) => if v9 = 0 then ((0, S8)) else (lt ((S8.1, upd2 S8.2.1 kFirms (ix p1) p2, S8.2.2)) (fun (S13 : Mem) => lt ((S13.1, upd2 S13.2.1 kWages (ix p1) p3, S13.2.2)) (fun (S15 : Mem) => (S8.2.1 kWages (ix p1), S15))))))))
def ok_X12_hire (S : Mem) (p1 : Int32) (p2 : Int32) (p3 : Int32) : Prop := ((∀ v1 : Int32, (f_X12_isHousehold S p1) = v1 → ((∀ v7 : Int32, (if v1 = 0 then (1) else (lt (f_X12_isFirm S p2) (fun (v3 : Int32) => if v3 = 0 then (1) else (lt (f_X12_in S p3 1 (nI 1000)) (fun (v5 : Int32) => if v5 = 0 then (nI 2) else (0)))))) = v7 → ((∀ S8 : Mem, ((f_X12_holds S v7).2) = S8 → ((∀ v9 : Int32, ((f_X12_holds S v7).1) = v9 → (((¬ (v9 = 0)) → ((inb p1 10) ∧ (inb p1 10) ∧ (∀ S13 : Mem, ((S8.1, upd2 S8.2.1 kFirms (ix p1) p2, S8.2.2)) = S13 → ((inb p1 10))))))))))))))
abbrev fdX12_hire : FD := (mdX12_hire, [], 2, 42, 0, 0)
set_option maxRecDepth 100000 in
set_option maxHeartbeats 4000000 in
theorem w_X12_hire {O : Om} {G : Cx} {S : Mem} {PP : Option AV → Mem → Prop} (p1 : Int32) (p2 : Int32) (p3 : Int32)   (h : ok_X12_hire S p1 p2 p3) (hP : ∀ x9 S9, f_X12_hire S p1 p2 p3 = (x9, S9) → PP (some (vi x9)) S9) : BW O G fdX12_hire 0 0 (QV O G 0 0 PP) S 0 [some (vr 12 0), some (vi p1), some (vi p2), some (vi p3), none] [] := by
  refine a_aload_n (pc := 0) 0 0 rfl rfl ?_
  refine a_iload_n (pc := 1) 0 1 rfl rfl ?_
  refine a_callSi (pc := 2) 0 2 (c_X12_isHousehold (S := S) p1) rfl cs_X12_272 rfl (rm rfl) ?_
  refine a_seti (fun v1 ev1 => ?_)
  have h := h v1 ev1
  have J35_15 : ∀ (v7 : Int32) (ev7 : (if v1 = 0 then (1) else (lt (f_X12_isFirm S p2) (fun (v3 : Int32) => if v3 = 0 then (1) else (lt (f_X12_in S p3 1 (nI 1000)) (fun (v5 : Int32) => if v5 = 0 then (nI 2) else (0)))))) = v7), BW O G fdX12_hire 0 0 (QV O G 0 0 PP) S 35 [some (vr 12 0), some (vi p1), some (vi p2), some (vi p3), none] [vi v7, vr 12 0] := by
    intro v7 ev7
    have h := h v7 ev7
    refine a_callVi (pc := 35) 0 17 (c_X12_holds (S := S) v7) rfl cv_X12_175 (by decide) rfl rfl rfl (rm rfl) ?_
    refine a_set (fun S8 eS8 => ?_)
    have h := h S8 eS8
    refine a_seti (fun v9 ev9 => ?_)
    have h := h v9 ev9
    refine a_if_ne (pc := 38) (tgt := 43) 0 18 rfl (by decide) (fun c38_9 => ?_) (fun c38_9 => ?_)
    · have h := h c38_9
      refine a_aload_n (pc := 43) 0 21 rfl rfl ?_
      refine g_12_wages (pc := 44) 0 22 rfl fl_X12_35 ?_
      refine a_iload_n (pc := 47) 0 23 rfl rfl ?_
      obtain ⟨o11, h⟩ := h
      refine e_30 (pc := 48) 0 24 (ix p1) rfl o11.1 o11.2 ?_
      refine a_istore (pc := 49) 0 25 (ls2 := [some (vr 12 0), some (vi p1), some (vi p2), some (vi p3), some (vi (S8.2.1 kWages (ix p1)))]) rfl (by decide) rfl ?_
      refine a_aload_n (pc := 51) 0 26 rfl rfl ?_
      refine g_12_firms (pc := 52) 0 27 rfl fl_X12_32 ?_
      refine a_iload_n (pc := 55) 0 28 rfl rfl ?_
      refine a_iload_n (pc := 56) 0 29 rfl rfl ?_
      obtain ⟨o12, h⟩ := h
      refine s_29 (pc := 57) 0 30 (ix p1) rfl o12.1 o12.2 ?_
      refine a_set (fun S13 eS13 => ?_)
      have h := h S13 eS13
      refine a_aload_n (pc := 58) 0 31 rfl rfl ?_
      refine g_12_wages (pc := 59) 0 32 rfl fl_X12_35 ?_
      refine a_iload_n (pc := 62) 0 33 rfl rfl ?_
      refine a_iload_n (pc := 63) 0 34 rfl rfl ?_
      have o14 := h
      refine s_30 (pc := 64) 0 35 (ix p1) rfl o14.1 o14.2 ?_
      refine a_set (fun S15 eS15 => ?_)
      refine a_iload (pc := 65) 0 36 rfl rfl ?_
      exact a_iret (pc := 67) 0 37 rfl rfl (hP _ _ (by unfold f_X12_hire; exact (lt_eq ev1).trans ((lt_eq ev7).trans ((lt_eq eS8).trans ((lt_eq ev9).trans ((if_neg c38_9).trans ((lt_eq eS13).trans (lt_eq eS15))))))))
    · refine a_iconst (pc := 41) 0 19 (v := 0) rfl (by decide) ?_
      exact a_iret (pc := 42) 0 20 rfl rfl (hP _ _ (by unfold f_X12_hire; exact (lt_eq ev1).trans ((lt_eq ev7).trans ((lt_eq eS8).trans ((lt_eq ev9).trans (if_pos c38_9))))))
  refine a_if_eq (pc := 5) (tgt := 15) 0 3 rfl (by decide) (fun c5_1 => ?_) (fun c5_1 => ?_)
  · refine a_iconst (pc := 15) 0 7 (v := 1) rfl (by decide) ?_
    refine a_goto (pc := 16) (tgt := 35) 0 8 rfl (by decide) ?_
    exact J35_15 _ (by exact (if_pos c5_1))
  · refine a_iload_n (pc := 8) 0 4 rfl rfl ?_
    refine a_callSi (pc := 9) 0 5 (c_X12_isFirm (S := S) p2) rfl cs_X12_266 rfl (rm rfl) ?_
    refine a_seti (fun v3 ev3 => ?_)
    refine a_if_ne (pc := 12) (tgt := 19) 0 6 rfl (by decide) (fun c12_3 => ?_) (fun c12_3 => ?_)
    · refine a_iload_n (pc := 19) 0 9 rfl rfl ?_
      refine a_iconst (pc := 20) 0 10 (v := 1) rfl (by decide) ?_
      refine a_sipush (pc := 21) 0 11 (v := nI 1000) rfl (by decide) ?_
      refine a_callSi (pc := 24) 0 12 (c_X12_in (S := S) p3 1 (nI 1000)) rfl cs_X12_141 rfl (rm rfl) ?_
      refine a_seti (fun v5 ev5 => ?_)
      refine a_if_eq (pc := 27) (tgt := 34) 0 13 rfl (by decide) (fun c27_5 => ?_) (fun c27_5 => ?_)
      · refine a_iconst (pc := 34) 0 16 (v := nI 2) rfl (by decide) ?_
        exact J35_15 _ (by exact ((if_neg c5_1).trans ((lt_eq ev3).trans ((if_neg c12_3).trans ((lt_eq ev5).trans (if_pos c27_5))))))
      · refine a_iconst (pc := 30) 0 14 (v := 0) rfl (by decide) ?_
        refine a_goto (pc := 31) (tgt := 35) 0 15 rfl (by decide) ?_
        exact J35_15 _ (by exact ((if_neg c5_1).trans ((lt_eq ev3).trans ((if_neg c12_3).trans ((lt_eq ev5).trans (if_neg c27_5))))))
    · refine a_iconst (pc := 15) 0 7 (v := 1) rfl (by decide) ?_
      refine a_goto (pc := 16) (tgt := 35) 0 8 rfl (by decide) ?_
      exact J35_15 _ (by exact ((if_neg c5_1).trans ((lt_eq ev3).trans (if_pos c12_3))))
theorem c_X12_hire {S : Mem} (p1 : Int32) (p2 : Int32) (p3 : Int32)   (h : ok_X12_hire S p1 p2 p3) : Cts mdX12_hire 2 42 [vr 12 0, vi p1, vi p2, vi p3] S (Is (some (vi (f_X12_hire S p1 p2 p3).1)) ((f_X12_hire S p1 p2 p3).2)) := Cts.of dtX12_hire (by decide +kernel) rfl rfl (Nat.le_of_ble_eq_true rfl) rfl (fun O G => w_X12_hire p1 p2 p3 h (fun _ _ h9 => ⟨by rw [h9], by rw [h9]⟩))
def f_X12_buy (S : Mem) (p1 : Int32) (p2 : Int32) (p3 : Int32) : Int32 × Mem := lt (f_X12_isHousehold S p1) (fun (v1 : Int32) => lt (if v1 = 0 then (0) else (lt (f_X12_isFirm S p2) (fun (v3 : Int32) => if v3 = 0 then (0) else (1)))) (fun (v5 : Int32) => lt (if v5 = 0 then (0) else (lt (f_X12_in S p3 1 (nI 20)) (fun (v7 : Int32) => if v7 = 0 then (0) else (1)))) (fun (v9 : Int32) => lt (if v5 = 0 then (1) else (if v9 = 0 then (nI 2) else (lt (f_X12_mayPay S p1 p2 (p3 * (S.2.1 kPrices (ix p2)))) (fun (v14 : Int32) => if v14 = 0 then (nI 3) else (0))))) (fun (v16 : Int32) => lt ((f_X12_holds S v16).2) (fun (S17 : Mem) => lt ((f_X12_holds S v16).1) (fun (v18 : Int32) => if v18 = 0 then ((0, S17)) else (lt ((S17.1, upd2 S17.2.1 kBought (ix p2) ((S17.2.1 kBought (ix p2)) + p3), S17.2.2)) (fun (S22 : Mem) => lt ((f_X12_pays S22 p1 p2 (p3 * (S22.2.1 kPrices (ix p2))) 1).2) (fun (S25 : Mem) => lt ((f_X12_pays S22 p1 p2 (p3 * (S22.2.1 kPrices (ix p2))) 1).1) (fun (v26 : Int32) => (v26, S25)))))))))))
def ok_X12_buy (S : Mem) (p1 : Int32) (p2 : Int32) (p3 : Int32) : Prop := ((∀ v1 : Int32, (f_X12_isHousehold S p1) = v1 → ((∀ v5 : Int32, (if v1 = 0 then (0) else (lt (f_X12_isFirm S p2) (fun (v3 : Int32) => if v3 = 0 then (0) else (1)))) = v5 → ((∀ v9 : Int32, (if v5 = 0 then (0) else (lt (f_X12_in S p3 1 (nI 20)) (fun (v7 : Int32) => if v7 = 0 then (0) else (1)))) = v9 → (((¬ (v5 = 0)) → (((¬ (v9 = 0)) → ((inb p2 16) ∧ (ok_X12_mayPay S p1 p2 (p3 * (S.2.1 kPrices (ix p2)))))))) ∧ (∀ v16 : Int32, (if v5 = 0 then (1) else (if v9 = 0 then (nI 2) else (lt (f_X12_mayPay S p1 p2 (p3 * (S.2.1 kPrices (ix p2)))) (fun (v14 : Int32) => if v14 = 0 then (nI 3) else (0))))) = v16 → ((∀ S17 : Mem, ((f_X12_holds S v16).2) = S17 → ((∀ v18 : Int32, ((f_X12_holds S v16).1) = v18 → (((¬ (v18 = 0)) → ((inb p2 16) ∧ (inb p2 16) ∧ (∀ S22 : Mem, ((S17.1, upd2 S17.2.1 kBought (ix p2) ((S17.2.1 kBought (ix p2)) + p3), S17.2.2)) = S22 → ((inb p2 16) ∧ (ok_X12_pays S22 p1 p2 (p3 * (S22.2.1 kPrices (ix p2))) 1))))))))))))))))))
abbrev fdX12_buy : FD := (mdX12_buy, [], 2, 46, 0, 0)
set_option maxRecDepth 100000 in
set_option maxHeartbeats 4000000 in
theorem w_X12_buy {O : Om} {G : Cx} {S : Mem} {PP : Option AV → Mem → Prop} (p1 : Int32) (p2 : Int32) (p3 : Int32)   (h : ok_X12_buy S p1 p2 p3) (hP : ∀ x9 S9, f_X12_buy S p1 p2 p3 = (x9, S9) → PP (some (vi x9)) S9) : BW O G fdX12_buy 0 0 (QV O G 0 0 PP) S 0 [some (vr 12 0), some (vi p1), some (vi p2), some (vi p3), none, none] [] := by
  refine a_iload_n (pc := 0) 0 0 rfl rfl ?_
  refine a_callSi (pc := 1) 0 1 (c_X12_isHousehold (S := S) p1) rfl cs_X12_272 rfl (rm rfl) ?_
  refine a_seti (fun v1 ev1 => ?_)
  have h := h v1 ev1
  have J19_26 : ∀ (v5 : Int32) (ev5 : (if v1 = 0 then (0) else (lt (f_X12_isFirm S p2) (fun (v3 : Int32) => if v3 = 0 then (0) else (1)))) = v5), BW O G fdX12_buy 0 0 (QV O G 0 0 PP) S 19 [some (vr 12 0), some (vi p1), some (vi p2), some (vi p3), none, none] [vi v5] := by
    intro v5 ev5
    have h := h v5 ev5
    refine a_istore (pc := 19) 0 9 (ls2 := [some (vr 12 0), some (vi p1), some (vi p2), some (vi p3), some (vi v5), none]) rfl (by decide) rfl ?_
    refine a_iload (pc := 21) 0 10 rfl rfl ?_
    have J41_27 : ∀ (v9 : Int32) (ev9 : (if v5 = 0 then (0) else (lt (f_X12_in S p3 1 (nI 20)) (fun (v7 : Int32) => if v7 = 0 then (0) else (1)))) = v9), BW O G fdX12_buy 0 0 (QV O G 0 0 PP) S 41 [some (vr 12 0), some (vi p1), some (vi p2), some (vi p3), some (vi v5), none] [vi v9] := by
      intro v9 ev9
      have h := h v9 ev9
      refine a_istore (pc := 41) 0 20 (ls2 := [some (vr 12 0), some (vi p1), some (vi p2), some (vi p3), some (vi v5), some (vi v9)]) rfl (by decide) rfl ?_
      refine a_aload_n (pc := 43) 0 21 rfl rfl ?_
      refine a_iload (pc := 44) 0 22 rfl rfl ?_
      obtain ⟨hr0, h⟩ := h
      have J84_28 : ∀ (v16 : Int32) (ev16 : (if v5 = 0 then (1) else (if v9 = 0 then (nI 2) else (lt (f_X12_mayPay S p1 p2 (p3 * (S.2.1 kPrices (ix p2)))) (fun (v14 : Int32) => if v14 = 0 then (nI 3) else (0))))) = v16), BW O G fdX12_buy 0 0 (QV O G 0 0 PP) S 84 [some (vr 12 0), some (vi p1), some (vi p2), some (vi p3), some (vi v5), some (vi v9)] [vi v16, vr 12 0] := by
        intro v16 ev16
        have h := h v16 ev16
        refine a_callVi (pc := 84) 0 44 (c_X12_holds (S := S) v16) rfl cv_X12_175 (by decide) rfl rfl rfl (rm rfl) ?_
        refine a_set (fun S17 eS17 => ?_)
        have h := h S17 eS17
        refine a_seti (fun v18 ev18 => ?_)
        have h := h v18 ev18
        refine a_if_ne (pc := 87) (tgt := 92) 0 45 rfl (by decide) (fun c87_18 => ?_) (fun c87_18 => ?_)
        · have h := h c87_18
          refine a_aload_n (pc := 92) 1 0 rfl rfl ?_
          refine g_12_bought (pc := 93) 1 1 rfl fl_X12_47 ?_
          refine a_iload_n (pc := 96) 1 2 rfl rfl ?_
          refine a_dup2 (pc := 97) 1 3 rfl rfl rfl ?_
          obtain ⟨o20, h⟩ := h
          refine e_34 (pc := 98) 1 4 (ix p2) rfl o20.1 o20.2 ?_
          refine a_iload_n (pc := 99) 1 5 rfl rfl ?_
          refine a_iadd (pc := 100) 1 6 rfl ?_
          obtain ⟨o21, h⟩ := h
          refine s_34 (pc := 101) 1 7 (ix p2) rfl o21.1 o21.2 ?_
          refine a_set (fun S22 eS22 => ?_)
          have h := h S22 eS22
          refine a_aload_n (pc := 102) 1 8 rfl rfl ?_
          refine a_iload_n (pc := 103) 1 9 rfl rfl ?_
          refine a_iload_n (pc := 104) 1 10 rfl rfl ?_
          refine a_iload_n (pc := 105) 1 11 rfl rfl ?_
          refine a_aload_n (pc := 106) 1 12 rfl rfl ?_
          refine g_12_prices (pc := 107) 1 13 rfl fl_X12_44 ?_
          refine a_iload_n (pc := 110) 1 14 rfl rfl ?_
          obtain ⟨o23, h⟩ := h
          refine e_33 (pc := 111) 1 15 (ix p2) rfl o23.1 o23.2 ?_
          refine a_imul (pc := 112) 1 16 rfl ?_
          refine a_iconst (pc := 113) 1 17 (v := 1) rfl (by decide) ?_
          have o24 := h
          refine a_callVi (pc := 114) 1 18 (c_X12_pays (S := S22) p1 p2 (p3 * (S22.2.1 kPrices (ix p2))) 1 (Or.inr rfl) o24) rfl cv_X12_215 (by decide) rfl rfl rfl (rm rfl) ?_
          refine a_set (fun S25 eS25 => ?_)
          refine a_seti (fun v26 ev26 => ?_)
          exact a_iret (pc := 117) 1 19 rfl rfl (hP _ _ (by unfold f_X12_buy; exact (lt_eq ev1).trans ((lt_eq ev5).trans ((lt_eq ev9).trans ((lt_eq ev16).trans ((lt_eq eS17).trans ((lt_eq ev18).trans ((if_neg c87_18).trans ((lt_eq eS22).trans ((lt_eq eS25).trans (lt_eq ev26)))))))))))
        · refine a_iconst (pc := 90) 0 46 (v := 0) rfl (by decide) ?_
          exact a_iret (pc := 91) 0 47 rfl rfl (hP _ _ (by unfold f_X12_buy; exact (lt_eq ev1).trans ((lt_eq ev5).trans ((lt_eq ev9).trans ((lt_eq ev16).trans ((lt_eq eS17).trans ((lt_eq ev18).trans (if_pos c87_18))))))))
      have h := hr0
      refine a_if_ne (pc := 46) (tgt := 53) 0 23 rfl (by decide) (fun c46_9 => ?_) (fun c46_9 => ?_)
      · have h := h c46_9
        refine a_iload (pc := 53) 0 26 rfl rfl ?_
        refine a_if_ne (pc := 55) (tgt := 62) 0 27 rfl (by decide) (fun c55_10 => ?_) (fun c55_10 => ?_)
        · have h := h c55_10
          refine a_aload_n (pc := 62) 0 30 rfl rfl ?_
          refine a_iload_n (pc := 63) 0 31 rfl rfl ?_
          refine a_iload_n (pc := 64) 0 32 rfl rfl ?_
          refine a_iload_n (pc := 65) 0 33 rfl rfl ?_
          refine a_aload_n (pc := 66) 0 34 rfl rfl ?_
          refine g_12_prices (pc := 67) 0 35 rfl fl_X12_44 ?_
          refine a_iload_n (pc := 70) 0 36 rfl rfl ?_
          obtain ⟨o12, h⟩ := h
          refine e_33 (pc := 71) 0 37 (ix p2) rfl o12.1 o12.2 ?_
          refine a_imul (pc := 72) 0 38 rfl ?_
          have o13 := h
          refine a_callVi (pc := 73) 0 39 (c_X12_mayPay (S := S) p1 p2 (p3 * (S.2.1 kPrices (ix p2))) o13) rfl cv_X12_212 (by decide) rfl rfl rfl (rm rfl) ?_
          refine a_seti (fun v14 ev14 => ?_)
          refine a_if_eq (pc := 76) (tgt := 83) 0 40 rfl (by decide) (fun c76_14 => ?_) (fun c76_14 => ?_)
          · refine a_iconst (pc := 83) 0 43 (v := nI 3) rfl (by decide) ?_
            exact J84_28 _ (by exact ((if_neg c46_9).trans ((if_neg c55_10).trans ((lt_eq ev14).trans (if_pos c76_14)))))
          · refine a_iconst (pc := 79) 0 41 (v := 0) rfl (by decide) ?_
            refine a_goto (pc := 80) (tgt := 84) 0 42 rfl (by decide) ?_
            exact J84_28 _ (by exact ((if_neg c46_9).trans ((if_neg c55_10).trans ((lt_eq ev14).trans (if_neg c76_14)))))
        · refine a_iconst (pc := 58) 0 28 (v := nI 2) rfl (by decide) ?_
          refine a_goto (pc := 59) (tgt := 84) 0 29 rfl (by decide) ?_
          exact J84_28 _ (by exact ((if_neg c46_9).trans (if_pos c55_10)))
      · refine a_iconst (pc := 49) 0 24 (v := 1) rfl (by decide) ?_
        refine a_goto (pc := 50) (tgt := 84) 0 25 rfl (by decide) ?_
        exact J84_28 _ (by exact (if_pos c46_9))
    refine a_if_eq (pc := 23) (tgt := 40) 0 11 rfl (by decide) (fun c23_5 => ?_) (fun c23_5 => ?_)
    · refine a_iconst (pc := 40) 0 19 (v := 0) rfl (by decide) ?_
      exact J41_27 _ (by exact (if_pos c23_5))
    · refine a_iload_n (pc := 26) 0 12 rfl rfl ?_
      refine a_iconst (pc := 27) 0 13 (v := 1) rfl (by decide) ?_
      refine a_bipush (pc := 28) 0 14 (v := nI 20) rfl (by decide) ?_
      refine a_callSi (pc := 30) 0 15 (c_X12_in (S := S) p3 1 (nI 20)) rfl cs_X12_141 rfl (rm rfl) ?_
      refine a_seti (fun v7 ev7 => ?_)
      refine a_if_eq (pc := 33) (tgt := 40) 0 16 rfl (by decide) (fun c33_7 => ?_) (fun c33_7 => ?_)
      · refine a_iconst (pc := 40) 0 19 (v := 0) rfl (by decide) ?_
        exact J41_27 _ (by exact ((if_neg c23_5).trans ((lt_eq ev7).trans (if_pos c33_7))))
      · refine a_iconst (pc := 36) 0 17 (v := 1) rfl (by decide) ?_
        refine a_goto (pc := 37) (tgt := 41) 0 18 rfl (by decide) ?_
        exact J41_27 _ (by exact ((if_neg c23_5).trans ((lt_eq ev7).trans (if_neg c33_7))))
  refine a_if_eq (pc := 4) (tgt := 18) 0 2 rfl (by decide) (fun c4_1 => ?_) (fun c4_1 => ?_)
  · refine a_iconst (pc := 18) 0 8 (v := 0) rfl (by decide) ?_
    exact J19_26 _ (by exact (if_pos c4_1))
  · refine a_iload_n (pc := 7) 0 3 rfl rfl ?_
    refine a_callSi (pc := 8) 0 4 (c_X12_isFirm (S := S) p2) rfl cs_X12_266 rfl (rm rfl) ?_
    refine a_seti (fun v3 ev3 => ?_)
    refine a_if_eq (pc := 11) (tgt := 18) 0 5 rfl (by decide) (fun c11_3 => ?_) (fun c11_3 => ?_)
    · refine a_iconst (pc := 18) 0 8 (v := 0) rfl (by decide) ?_
      exact J19_26 _ (by exact ((if_neg c4_1).trans ((lt_eq ev3).trans (if_pos c11_3))))
    · refine a_iconst (pc := 14) 0 6 (v := 1) rfl (by decide) ?_
      refine a_goto (pc := 15) (tgt := 19) 0 7 rfl (by decide) ?_
      exact J19_26 _ (by exact ((if_neg c4_1).trans ((lt_eq ev3).trans (if_neg c11_3))))
theorem c_X12_buy {S : Mem} (p1 : Int32) (p2 : Int32) (p3 : Int32)   (h : ok_X12_buy S p1 p2 p3) : Cts mdX12_buy 2 46 [vr 12 0, vi p1, vi p2, vi p3] S (Is (some (vi (f_X12_buy S p1 p2 p3).1)) ((f_X12_buy S p1 p2 p3).2)) := Cts.of dtX12_buy (by decide +kernel) rfl rfl (Nat.le_of_ble_eq_true rfl) rfl (fun O G => w_X12_buy p1 p2 p3 h (fun _ _ h9 => ⟨by rw [h9], by rw [h9]⟩))
def b41_X12_day  (j8 : Nat) (σ9 : Mem) : Mem := lt (f_X12_goesBy σ9 ) (fun (S12 : Mem) => S12)
def b60_X12_day (σ9 : Mem) (j13 : Nat) (σ14 : Int32) : Int32 := lt (if (σ9.2.1 kHaveFailed j13) = 0 then (1) else (0)) (fun (v16 : Int32) => σ14 + v16)
def f_X12_day (S : Mem) (p1 : Int32) : Int32 × Mem := lt (f_X12_in S p1 1 (nI 5)) (fun (v1 : Int32) => lt (if v1 = 0 then (1) else (if ((S.2.1 kDays 0) + p1) ≤ (nI 200) then (0) else (nI 2))) (fun (v4 : Int32) => lt ((f_X12_holds S v4).2) (fun (S5 : Mem) => lt ((f_X12_holds S v4).1) (fun (v6 : Int32) => if v6 = 0 then ((0, S5)) else (lt (iter (b41_X12_day) S5 (ix p1)) (fun (σ9 : Mem) => lt (iter (b60_X12_day σ9) 0 (4)) (fun (σ14 : Int32) => (σ14, σ9))))))))
def ok_X12_day (S : Mem) (p1 : Int32) : Prop := ((∀ v1 : Int32, (f_X12_in S p1 1 (nI 5)) = v1 → ((∀ v4 : Int32, (if v1 = 0 then (1) else (if ((S.2.1 kDays 0) + p1) ≤ (nI 200) then (0) else (nI 2))) = v4 → ((∀ S5 : Mem, ((f_X12_holds S v4).2) = S5 → ((∀ v6 : Int32, ((f_X12_holds S v4).1) = v6 → (((¬ (v6 = 0)) → ((∀ j8 : Nat, j8 ≤ ix p1 → ∀ σ9 : Mem, iter (b41_X12_day) S5 j8 = σ9 → p1 = nI (ix p1)) ∧ (∀ j8 : Nat, j8 < ix p1 → ∀ σ9 : Mem, iter (b41_X12_day) S5 j8 = σ9 → ((ok_X12_goesBy σ9 ))))))))))))))
abbrev fdX12_day : FD := (mdX12_day, [], 5, 126, 0, 0)
set_option maxRecDepth 100000 in
set_option maxHeartbeats 4000000 in
theorem w_X12_day {O : Om} {G : Cx} {S : Mem} {PP : Option AV → Mem → Prop} (p1 : Int32)   (h : ok_X12_day S p1) (hP : ∀ x9 S9, f_X12_day S p1 = (x9, S9) → PP (some (vi x9)) S9) : BW O G fdX12_day 0 0 (QV O G 0 0 PP) S 0 [some (vr 12 0), some (vi p1), none, none] [] := by
  refine a_aload_n (pc := 0) 0 0 rfl rfl ?_
  refine a_iload_n (pc := 1) 0 1 rfl rfl ?_
  refine a_iconst (pc := 2) 0 2 (v := 1) rfl (by decide) ?_
  refine a_iconst (pc := 3) 0 3 (v := nI 5) rfl (by decide) ?_
  refine a_callSi (pc := 4) 0 4 (c_X12_in (S := S) p1 1 (nI 5)) rfl cs_X12_141 rfl (rm rfl) ?_
  refine a_seti (fun v1 ev1 => ?_)
  have h := h v1 ev1
  have J31_16 : ∀ (v4 : Int32) (ev4 : (if v1 = 0 then (1) else (if ((S.2.1 kDays 0) + p1) ≤ (nI 200) then (0) else (nI 2))) = v4), BW O G fdX12_day 0 0 (QV O G 0 0 PP) S 31 [some (vr 12 0), some (vi p1), none, none] [vi v4, vr 12 0] := by
    intro v4 ev4
    have h := h v4 ev4
    refine a_callVi (pc := 31) 0 17 (c_X12_holds (S := S) v4) rfl cv_X12_175 (by decide) rfl rfl rfl (rm rfl) ?_
    refine a_set (fun S5 eS5 => ?_)
    have h := h S5 eS5
    refine a_seti (fun v6 ev6 => ?_)
    have h := h v6 ev6
    refine a_if_ne (pc := 34) (tgt := 39) 0 18 rfl (by decide) (fun c34_6 => ?_) (fun c34_6 => ?_)
    · have h := h c34_6
      refine a_iconst (pc := 39) 0 21 (v := 0) rfl (by decide) ?_
      refine a_istore_n (pc := 40) 0 22 (ls2 := [some (vr 12 0), some (vi p1), some (vi 0), none]) rfl rfl (by decide) rfl ?_
      obtain ⟨o10, hb_j8⟩ := h
      have nlt_j8 := ix_lt p1
      have L41_17 : ∀ (m_j8 j8 : Nat), j8 + m_j8 = ix p1 → ∀ (σ9 : Mem), iter (b41_X12_day) S5 j8 = σ9 → BW O G fdX12_day 0 0 (QV O G 0 0 PP) σ9 41 [some (vr 12 0), some (vi p1), some (vi (nI j8)), none] [] := by
        intro m_j8
        induction m_j8 with
        | zero =>
          intro j8 hj_j8 σ9 eσ9
          have o10 := o10 j8 (by omega) σ9 eσ9
          have hn_j8 : j8 = ix p1 := by omega
          rw [hn_j8] at eσ9
          refine a_iload_n (pc := 41) 0 23 rfl rfl ?_
          refine a_iload_n (pc := 42) 0 24 rfl rfl ?_
          refine a_icmp_ge_t (pc := 43) (tgt := 56) 0 25 rfl (by decide) (bd_t (o10) (by omega)) ?_
          refine a_iconst (pc := 56) 0 30 (v := 0) rfl (by decide) ?_
          refine a_istore_n (pc := 57) 0 31 (ls2 := [some (vr 12 0), some (vi p1), some (vi 0), none]) rfl rfl (by decide) rfl ?_
          refine a_iconst (pc := 58) 0 32 (v := 0) rfl (by decide) ?_
          refine a_istore_n (pc := 59) 0 33 (ls2 := [some (vr 12 0), some (vi p1), some (vi 0), some (vi 0)]) rfl rfl (by decide) rfl ?_
          have L60_18 : ∀ (m_j13 j13 : Nat), j13 + m_j13 = 4 → ∀ (σ14 : Int32), iter (b60_X12_day σ9) 0 j13 = σ14 → BW O G fdX12_day 0 0 (QV O G 0 0 PP) σ9 60 [some (vr 12 0), some (vi p1), some (vi σ14), some (vi (nI j13))] [] := by
            intro m_j13
            induction m_j13 with
            | zero =>
              intro j13 hj_j13 σ14 eσ14
              have hn_j13 : j13 = 4 := by omega
              rw [hn_j13] at eσ14
              refine a_iload_n (pc := 60) 0 34 rfl rfl ?_
              refine a_iconst (pc := 61) 0 35 (v := nI 4) rfl (by decide) ?_
              refine a_icmp_ge_t (pc := 62) (tgt := 88) 0 36 rfl (by decide) (nI_le (by omega) (by omega)) ?_
              refine a_iload_n (pc := 88) 1 2 rfl rfl ?_
              exact a_iret (pc := 89) 1 3 rfl rfl (hP _ _ (by unfold f_X12_day; exact (lt_eq ev1).trans ((lt_eq ev4).trans ((lt_eq eS5).trans ((lt_eq ev6).trans ((if_neg c34_6).trans ((lt_eq eσ9).trans (lt_eq eσ14))))))))
            | succ m_j13 ih_j13 =>
              intro j13 hj_j13 σ14 eσ14
              refine a_iload_n (pc := 60) 0 34 rfl rfl ?_
              refine a_iconst (pc := 61) 0 35 (v := nI 4) rfl (by decide) ?_
              refine a_icmp_ge_f (pc := 62) (tgt := 88) 0 36 rfl (nI_ge (by omega) (by omega)) (by decide) ?_
              refine a_iload_n (pc := 65) 0 37 rfl rfl ?_
              refine a_aload_n (pc := 66) 0 38 rfl rfl ?_
              refine g_12_haveFailed (pc := 67) 0 39 rfl fl_X12_62 ?_
              refine a_iload_n (pc := 70) 0 40 rfl rfl ?_
              refine e_39 (pc := 71) 0 41 (j13) rfl rfl (by omega) ?_
              have J80_19 : ∀ (v16 : Int32) (ev16 : (if (σ9.2.1 kHaveFailed j13) = 0 then (1) else (0)) = v16), BW O G fdX12_day 0 0 (QV O G 0 0 PP) σ9 80 [some (vr 12 0), some (vi p1), some (vi σ14), some (vi (nI j13))] [vi v16, vi σ14] := by
                intro v16 ev16
                refine a_iadd (pc := 80) 0 46 rfl ?_
                refine a_istore_n (pc := 81) 0 47 (ls2 := [some (vr 12 0), some (vi p1), some (vi (σ14 + v16)), some (vi (nI j13))]) rfl rfl (by decide) rfl ?_
                refine a_iinc (pc := 82) 1 0 (v := nI (j13 + 1)) (ls2 := [some (vr 12 0), some (vi p1), some (vi (σ14 + v16)), some (vi (nI (j13 + 1)))]) rfl rfl (iinc1 _) (by decide) rfl ?_
                refine a_goto (pc := 85) (tgt := 60) 1 1 rfl (by decide) ?_
                exact ih_j13 (j13 + 1) (by omega) (σ14 + v16) (by rw [iter_succ, eσ14]; unfold b60_X12_day; exact (lt_eq ev16))
              refine a_if_eq (pc := 72) (tgt := 79) 0 42 rfl (by decide) (fun c72_14 => ?_) (fun c72_14 => ?_)
              · refine a_iconst (pc := 79) 0 45 (v := 1) rfl (by decide) ?_
                exact J80_19 _ (by exact (if_pos c72_14))
              · refine a_iconst (pc := 75) 0 43 (v := 0) rfl (by decide) ?_
                refine a_goto (pc := 76) (tgt := 80) 0 44 rfl (by decide) ?_
                exact J80_19 _ (by exact (if_neg c72_14))
          exact L60_18 (4) 0 (by omega) 0 rfl
        | succ m_j8 ih_j8 =>
          intro j8 hj_j8 σ9 eσ9
          have o10 := o10 j8 (by omega) σ9 eσ9
          have h := hb_j8 j8 (by omega) σ9 eσ9
          refine a_iload_n (pc := 41) 0 23 rfl rfl ?_
          refine a_iload_n (pc := 42) 0 24 rfl rfl ?_
          refine a_icmp_ge_f (pc := 43) (tgt := 56) 0 25 rfl (bd_f (o10) (by omega)) (by decide) ?_
          refine a_aload_n (pc := 46) 0 26 rfl rfl ?_
          have o11 := h
          refine a_callVv (pc := 47) 0 27 (c_X12_goesBy (S := σ9)  o11) rfl cv_X12_303 (by decide) rfl rfl rfl (rm rfl) ?_
          refine a_set (fun S12 eS12 => ?_)
          refine a_iinc (pc := 50) 0 28 (v := nI (j8 + 1)) (ls2 := [some (vr 12 0), some (vi p1), some (vi (nI (j8 + 1))), none]) rfl rfl (iinc1 _) (by decide) rfl ?_
          refine a_goto (pc := 53) (tgt := 41) 0 29 rfl (by decide) ?_
          exact ih_j8 (j8 + 1) (by omega) S12 (by rw [iter_succ, eσ9]; unfold b41_X12_day; exact (lt_eq eS12))
      exact L41_17 (ix p1) 0 (by omega) S5 rfl
    · refine a_iconst (pc := 37) 0 19 (v := 0) rfl (by decide) ?_
      exact a_iret (pc := 38) 0 20 rfl rfl (hP _ _ (by unfold f_X12_day; exact (lt_eq ev1).trans ((lt_eq ev4).trans ((lt_eq eS5).trans ((lt_eq ev6).trans (if_pos c34_6))))))
  refine a_if_ne (pc := 7) (tgt := 14) 0 5 rfl (by decide) (fun c7_1 => ?_) (fun c7_1 => ?_)
  · refine a_aload_n (pc := 14) 0 8 rfl rfl ?_
    refine g_12_days (pc := 15) 0 9 rfl fl_X12_196 ?_
    refine a_iload_n (pc := 18) 0 10 rfl rfl ?_
    refine a_iadd (pc := 19) 0 11 rfl ?_
    refine a_sipush (pc := 20) 0 12 (v := nI 200) rfl (by decide) ?_
    refine a_icmp_le (pc := 23) (tgt := 30) 0 13 rfl (by decide) (fun c23_2 => ?_) (fun c23_2 => ?_)
    · refine a_iconst (pc := 30) 0 16 (v := 0) rfl (by decide) ?_
      exact J31_16 _ (by exact ((if_neg c7_1).trans (if_pos c23_2)))
    · refine a_iconst (pc := 26) 0 14 (v := nI 2) rfl (by decide) ?_
      refine a_goto (pc := 27) (tgt := 31) 0 15 rfl (by decide) ?_
      exact J31_16 _ (by exact ((if_neg c7_1).trans (if_neg c23_2)))
  · refine a_iconst (pc := 10) 0 6 (v := 1) rfl (by decide) ?_
    refine a_goto (pc := 11) (tgt := 31) 0 7 rfl (by decide) ?_
    exact J31_16 _ (by exact (if_pos c7_1))
theorem c_X12_day {S : Mem} (p1 : Int32)   (h : ok_X12_day S p1) : Cts mdX12_day 5 126 [vr 12 0, vi p1] S (Is (some (vi (f_X12_day S p1).1)) ((f_X12_day S p1).2)) := Cts.of dtX12_day (by decide +kernel) rfl rfl (Nat.le_of_ble_eq_true rfl) rfl (fun O G => w_X12_day p1 h (fun _ _ h9 => ⟨by rw [h9], by rw [h9]⟩))
def f_X12_fail (S : Mem) (p1 : Int32) : Int32 × Mem := lt (f_X12_isBank S p1) (fun (v1 : Int32) => lt (if v1 = 0 then (1) else (if (S.2.1 kHaveFailed (ix p1)) = 0 then (0) else (nI 2))) (fun (v5 : Int32) => lt ((f_X12_holds S v5).2) (fun (S6 : Mem) => lt ((f_X12_holds S v5).1) (fun (v7 : Int32) => lt (if v7 = 0 then (0) else (lt ((f_X12_fails S6 p1).2) (fun (S10 : Mem) => lt ((f_X12_fails S6 p1).1) (fun (v11 : Int32) => v11)))) (fun (v12 : Int32) => lt (if v7 = 0 then (S6) else (lt ((f_X12_fails S6 p1).2) (fun (S10 : Mem) => lt ((f_X12_fails S6 p1).1) (fun (v11 : Int32) => S10)))) (fun (S13 : Mem) => (v12, S13)))))))
def ok_X12_fail (S : Mem) (p1 : Int32) : Prop := ((∀ v1 : Int32, (f_X12_isBank S p1) = v1 → (((¬ (v1 = 0)) → ((inb p1 4))) ∧ (∀ v5 : Int32, (if v1 = 0 then (1) else (if (S.2.1 kHaveFailed (ix p1)) = 0 then (0) else (nI 2))) = v5 → ((∀ S6 : Mem, ((f_X12_holds S v5).2) = S6 → ((∀ v7 : Int32, ((f_X12_holds S v5).1) = v7 → (((¬ (v7 = 0)) → ((ok_X12_fails S6 p1))))))))))))
abbrev fdX12_fail : FD := (mdX12_fail, [], 2, 53, 0, 0)
set_option maxRecDepth 100000 in
set_option maxHeartbeats 4000000 in
theorem w_X12_fail {O : Om} {G : Cx} {S : Mem} {PP : Option AV → Mem → Prop} (p1 : Int32)   (h : ok_X12_fail S p1) (hP : ∀ x9 S9, f_X12_fail S p1 = (x9, S9) → PP (some (vi x9)) S9) : BW O G fdX12_fail 0 0 (QV O G 0 0 PP) S 0 [some (vr 12 0), some (vi p1), none] [] := by
  refine a_iload_n (pc := 0) 0 0 rfl rfl ?_
  refine a_callSi (pc := 1) 0 1 (c_X12_isBank (S := S) p1) rfl cs_X12_181 rfl (rm rfl) ?_
  refine a_seti (fun v1 ev1 => ?_)
  have h := h v1 ev1
  refine a_istore_n (pc := 4) 0 2 (ls2 := [some (vr 12 0), some (vi p1), some (vi v1)]) rfl rfl (by decide) rfl ?_
  refine a_aload_n (pc := 5) 0 3 rfl rfl ?_
  refine a_iload_n (pc := 6) 0 4 rfl rfl ?_
  obtain ⟨hr0, h⟩ := h
  have J28_13 : ∀ (v5 : Int32) (ev5 : (if v1 = 0 then (1) else (if (S.2.1 kHaveFailed (ix p1)) = 0 then (0) else (nI 2))) = v5), BW O G fdX12_fail 0 0 (QV O G 0 0 PP) S 28 [some (vr 12 0), some (vi p1), some (vi v1)] [vi v5, vr 12 0] := by
    intro v5 ev5
    have h := h v5 ev5
    refine a_callVi (pc := 28) 0 16 (c_X12_holds (S := S) v5) rfl cv_X12_175 (by decide) rfl rfl rfl (rm rfl) ?_
    refine a_set (fun S6 eS6 => ?_)
    have h := h S6 eS6
    refine a_seti (fun v7 ev7 => ?_)
    have h := h v7 ev7
    have J43_14 : ∀ (v12 : Int32) (ev12 : (if v7 = 0 then (0) else (lt ((f_X12_fails S6 p1).2) (fun (S10 : Mem) => lt ((f_X12_fails S6 p1).1) (fun (v11 : Int32) => v11)))) = v12) (S13 : Mem) (eS13 : (if v7 = 0 then (S6) else (lt ((f_X12_fails S6 p1).2) (fun (S10 : Mem) => lt ((f_X12_fails S6 p1).1) (fun (v11 : Int32) => S10)))) = S13), BW O G fdX12_fail 0 0 (QV O G 0 0 PP) S13 43 [some (vr 12 0), some (vi p1), some (vi v1)] [vi v12] := by
      intro v12 ev12 S13 eS13
      exact a_iret (pc := 43) 0 23 rfl rfl (hP _ _ (by unfold f_X12_fail; exact (lt_eq ev1).trans ((lt_eq ev5).trans ((lt_eq eS6).trans ((lt_eq ev7).trans ((lt_eq ev12).trans (lt_eq eS13)))))))
    refine a_if_eq (pc := 31) (tgt := 42) 0 17 rfl (by decide) (fun c31_7 => ?_) (fun c31_7 => ?_)
    · refine a_iconst (pc := 42) 0 22 (v := 0) rfl (by decide) ?_
      exact J43_14 _ (by exact (if_pos c31_7)) _ (by exact (if_pos c31_7))
    · have h := h c31_7
      refine a_aload_n (pc := 34) 0 18 rfl rfl ?_
      refine a_iload_n (pc := 35) 0 19 rfl rfl ?_
      have o9 := h
      refine a_callVi (pc := 36) 0 20 (c_X12_fails (S := S6) p1 o9) rfl cv_X12_199 (by decide) rfl rfl rfl (rm rfl) ?_
      refine a_set (fun S10 eS10 => ?_)
      refine a_seti (fun v11 ev11 => ?_)
      refine a_goto (pc := 39) (tgt := 43) 0 21 rfl (by decide) ?_
      exact J43_14 _ (by exact ((if_neg c31_7).trans ((lt_eq eS10).trans (lt_eq ev11)))) _ (by exact ((if_neg c31_7).trans ((lt_eq eS10).trans (lt_eq ev11))))
  have h := hr0
  refine a_if_ne (pc := 7) (tgt := 14) 0 5 rfl (by decide) (fun c7_1 => ?_) (fun c7_1 => ?_)
  · have h := h c7_1
    refine a_aload_n (pc := 14) 0 8 rfl rfl ?_
    refine g_12_haveFailed (pc := 15) 0 9 rfl fl_X12_62 ?_
    refine a_iload_n (pc := 18) 0 10 rfl rfl ?_
    have o3 := h
    refine e_39 (pc := 19) 0 11 (ix p1) rfl o3.1 o3.2 ?_
    refine a_if_eq (pc := 20) (tgt := 27) 0 12 rfl (by decide) (fun c20_3 => ?_) (fun c20_3 => ?_)
    · refine a_iconst (pc := 27) 0 15 (v := 0) rfl (by decide) ?_
      exact J28_13 _ (by exact ((if_neg c7_1).trans (if_pos c20_3)))
    · refine a_iconst (pc := 23) 0 13 (v := nI 2) rfl (by decide) ?_
      refine a_goto (pc := 24) (tgt := 28) 0 14 rfl (by decide) ?_
      exact J28_13 _ (by exact ((if_neg c7_1).trans (if_neg c20_3)))
  · refine a_iconst (pc := 10) 0 6 (v := 1) rfl (by decide) ?_
    refine a_goto (pc := 11) (tgt := 28) 0 7 rfl (by decide) ?_
    exact J28_13 _ (by exact (if_pos c7_1))
theorem c_X12_fail {S : Mem} (p1 : Int32)   (h : ok_X12_fail S p1) : Cts mdX12_fail 2 53 [vr 12 0, vi p1] S (Is (some (vi (f_X12_fail S p1).1)) ((f_X12_fail S p1).2)) := Cts.of dtX12_fail (by decide +kernel) rfl rfl (Nat.le_of_ble_eq_true rfl) rfl (fun O G => w_X12_fail p1 h (fun _ _ h9 => ⟨by rw [h9], by rw [h9]⟩))
def f_X12_days (S : Mem)  : Int32 × Mem := lt ((S.1, upd2 S.2.1 kThrown 0 0, S.2.2)) (fun (S1 : Mem) => (S1.2.1 kDays 0, S1))
abbrev fdX12_days : FD := (mdX12_days, [], 0, 0, 0, 0)
set_option maxRecDepth 100000 in
set_option maxHeartbeats 4000000 in
theorem w_X12_days {O : Om} {G : Cx} {S : Mem} {PP : Option AV → Mem → Prop}    (hP : ∀ x9 S9, f_X12_days S  = (x9, S9) → PP (some (vi x9)) S9) : BW O G fdX12_days 0 0 (QV O G 0 0 PP) S 0 [some (vr 12 0)] [] := by
  refine a_aload_n (pc := 0) 0 0 rfl rfl ?_
  refine a_iconst (pc := 1) 0 1 (v := 0) rfl (by decide) ?_
  refine p_12_thrown (pc := 2) 0 2 rfl fl_X12_138 ?_
  refine a_set (fun S1 eS1 => ?_)
  refine a_aload_n (pc := 5) 0 3 rfl rfl ?_
  refine g_12_days (pc := 6) 0 4 rfl fl_X12_196 ?_
  exact a_iret (pc := 9) 0 5 rfl rfl (hP _ _ (by unfold f_X12_days; exact lt_eq eS1))
theorem c_X12_days {S : Mem}    : Cts mdX12_days 0 0 [vr 12 0] S (Is (some (vi (f_X12_days S ).1)) ((f_X12_days S ).2)) := Cts.of dtX12_days (by decide +kernel) rfl rfl (Nat.le_of_ble_eq_true rfl) rfl (fun O G => w_X12_days  (fun _ _ h9 => ⟨by rw [h9], by rw [h9]⟩))
def f_X12_ofHolder (S : Mem) (p1 : Int32) (p2 : Int32) : Int32 × Mem := lt (f_X12_isHolder S p1) (fun (v1 : Int32) => lt (if v1 = 0 then (1) else (lt (f_X12_in S p2 0 (nI 7)) (fun (v3 : Int32) => if v3 = 0 then (nI 2) else (0)))) (fun (v5 : Int32) => lt ((f_X12_holds S v5).2) (fun (S6 : Mem) => lt ((f_X12_holds S v5).1) (fun (v7 : Int32) => if v7 = 0 then ((0, S6)) else (if (nI 5) ≤ p2 then (if p1 < (nI 10) then (lt (if p2 = (nI 5) then (S6.2.1 kFirms (ix p1)) else (if p2 = (nI 6) then (S6.2.1 kWages (ix p1)) else (S6.2.1 kExpects (ix p1)))) (fun (v16 : Int32) => (v16, S6))) else (lt (if p2 = (nI 5) then ((-1)) else (0)) (fun (v18 : Int32) => (v18, S6)))) else (lt (if p2 = 0 then (S6.2.1 kBankOf (ix p1)) else (if p2 = 1 then (S6.2.1 kAccounts (ix p1)) else (if p2 = (nI 2) then (lt (f_X12_free S6 p1) (fun (v26 : Int32) => v26)) else (if p2 = (nI 3) then (S6.2.1 kNotes (ix p1)) else (S6.2.1 kForged (ix p1)))))) (fun (v29 : Int32) => (v29, S6))))))))
def ok_X12_ofHolder (S : Mem) (p1 : Int32) (p2 : Int32) : Prop := ((∀ v1 : Int32, (f_X12_isHolder S p1) = v1 → ((∀ v5 : Int32, (if v1 = 0 then (1) else (lt (f_X12_in S p2 0 (nI 7)) (fun (v3 : Int32) => if v3 = 0 then (nI 2) else (0)))) = v5 → ((∀ S6 : Mem, ((f_X12_holds S v5).2) = S6 → ((∀ v7 : Int32, ((f_X12_holds S v5).1) = v7 → (((¬ (v7 = 0)) → ((((nI 5) ≤ p2) → (((p1 < (nI 10)) → (((¬ (p2 = (nI 5))) → (((¬ (p2 = (nI 6))) → ((inb p1 10))) ∧ ((p2 = (nI 6)) → ((inb p1 10))))) ∧ ((p2 = (nI 5)) → ((inb p1 10))))))) ∧ ((¬ ((nI 5) ≤ p2)) → (((¬ (p2 = 0)) → (((¬ (p2 = 1)) → (((¬ (p2 = (nI 2))) → (((¬ (p2 = (nI 3))) → ((inb p1 16))) ∧ ((p2 = (nI 3)) → ((inb p1 16))))) ∧ ((p2 = (nI 2)) → ((ok_X12_free S6 p1))))) ∧ ((p2 = 1) → ((inb p1 16))))) ∧ ((p2 = 0) → ((inb p1 16))))))))))))))))
abbrev fdX12_ofHolder : FD := (mdX12_ofHolder, [], 2, 42, 0, 0)
set_option maxRecDepth 100000 in
set_option maxHeartbeats 4000000 in
theorem w_X12_ofHolder {O : Om} {G : Cx} {S : Mem} {PP : Option AV → Mem → Prop} (p1 : Int32) (p2 : Int32)   (h : ok_X12_ofHolder S p1 p2) (hP : ∀ x9 S9, f_X12_ofHolder S p1 p2 = (x9, S9) → PP (some (vi x9)) S9) : BW O G fdX12_ofHolder 0 0 (QV O G 0 0 PP) S 0 [some (vr 12 0), some (vi p1), some (vi p2)] [] := by
  refine a_aload_n (pc := 0) 0 0 rfl rfl ?_
  refine a_iload_n (pc := 1) 0 1 rfl rfl ?_
  refine a_callSi (pc := 2) 0 2 (c_X12_isHolder (S := S) p1) rfl cs_X12_171 rfl (rm rfl) ?_
  refine a_seti (fun v1 ev1 => ?_)
  have h := h v1 ev1
  have J27_29 : ∀ (v5 : Int32) (ev5 : (if v1 = 0 then (1) else (lt (f_X12_in S p2 0 (nI 7)) (fun (v3 : Int32) => if v3 = 0 then (nI 2) else (0)))) = v5), BW O G fdX12_ofHolder 0 0 (QV O G 0 0 PP) S 27 [some (vr 12 0), some (vi p1), some (vi p2)] [vi v5, vr 12 0] := by
    intro v5 ev5
    have h := h v5 ev5
    refine a_callVi (pc := 27) 0 14 (c_X12_holds (S := S) v5) rfl cv_X12_175 (by decide) rfl rfl rfl (rm rfl) ?_
    refine a_set (fun S6 eS6 => ?_)
    have h := h S6 eS6
    refine a_seti (fun v7 ev7 => ?_)
    have h := h v7 ev7
    refine a_if_ne (pc := 30) (tgt := 35) 0 15 rfl (by decide) (fun c30_7 => ?_) (fun c30_7 => ?_)
    · have h := h c30_7
      refine a_iload_n (pc := 35) 0 18 rfl rfl ?_
      refine a_iconst (pc := 36) 0 19 (v := nI 5) rfl (by decide) ?_
      refine a_icmp_ge (pc := 37) (tgt := 101) 0 20 rfl (by decide) (fun c37_8 => ?_) (fun c37_8 => ?_)
      · have h := h.1 c37_8
        refine a_iload_n (pc := 101) 1 8 rfl rfl ?_
        refine a_bipush (pc := 102) 1 9 (v := nI 10) rfl (by decide) ?_
        refine a_icmp_lt (pc := 104) (tgt := 118) 1 10 rfl (by decide) (fun c104_9 => ?_) (fun c104_9 => ?_)
        · have h := h c104_9
          refine a_iload_n (pc := 118) 1 18 rfl rfl ?_
          refine a_iconst (pc := 119) 1 19 (v := nI 5) rfl (by decide) ?_
          have J153_30 : ∀ (v16 : Int32) (ev16 : (if p2 = (nI 5) then (S6.2.1 kFirms (ix p1)) else (if p2 = (nI 6) then (S6.2.1 kWages (ix p1)) else (S6.2.1 kExpects (ix p1)))) = v16), BW O G fdX12_ofHolder 0 0 (QV O G 0 0 PP) S6 153 [some (vr 12 0), some (vi p1), some (vi p2)] [vi v16] := by
            intro v16 ev16
            exact a_iret (pc := 153) 1 38 rfl rfl (hP _ _ (by unfold f_X12_ofHolder; exact (lt_eq ev1).trans ((lt_eq ev5).trans ((lt_eq eS6).trans ((lt_eq ev7).trans ((if_neg c30_7).trans ((if_pos c37_8).trans ((if_pos c104_9).trans (lt_eq ev16)))))))))
          refine a_icmp_ne (pc := 120) (tgt := 132) 1 20 rfl (by decide) (fun c120_10 => ?_) (fun c120_10 => ?_)
          · have h := h.1 c120_10
            refine a_iload_n (pc := 132) 1 26 rfl rfl ?_
            refine a_bipush (pc := 133) 1 27 (v := nI 6) rfl (by decide) ?_
            refine a_icmp_ne (pc := 135) (tgt := 147) 1 28 rfl (by decide) (fun c135_11 => ?_) (fun c135_11 => ?_)
            · have h := h.1 c135_11
              refine a_aload_n (pc := 147) 1 34 rfl rfl ?_
              refine g_12_expects (pc := 148) 1 35 rfl fl_X12_38 ?_
              refine a_iload_n (pc := 151) 1 36 rfl rfl ?_
              have o13 := h
              refine e_31 (pc := 152) 1 37 (ix p1) rfl o13.1 o13.2 ?_
              exact J153_30 _ (by exact ((if_neg c120_10).trans (if_neg c135_11)))
            · have h := h.2 c135_11
              refine a_aload_n (pc := 138) 1 29 rfl rfl ?_
              refine g_12_wages (pc := 139) 1 30 rfl fl_X12_35 ?_
              refine a_iload_n (pc := 142) 1 31 rfl rfl ?_
              have o14 := h
              refine e_30 (pc := 143) 1 32 (ix p1) rfl o14.1 o14.2 ?_
              refine a_goto (pc := 144) (tgt := 153) 1 33 rfl (by decide) ?_
              exact J153_30 _ (by exact ((if_neg c120_10).trans (if_pos c135_11)))
          · have h := h.2 c120_10
            refine a_aload_n (pc := 123) 1 21 rfl rfl ?_
            refine g_12_firms (pc := 124) 1 22 rfl fl_X12_32 ?_
            refine a_iload_n (pc := 127) 1 23 rfl rfl ?_
            have o15 := h
            refine e_29 (pc := 128) 1 24 (ix p1) rfl o15.1 o15.2 ?_
            refine a_goto (pc := 129) (tgt := 153) 1 25 rfl (by decide) ?_
            exact J153_30 _ (by exact (if_pos c120_10))
        · refine a_iload_n (pc := 107) 1 11 rfl rfl ?_
          refine a_iconst (pc := 108) 1 12 (v := nI 5) rfl (by decide) ?_
          have J117_31 : ∀ (v18 : Int32) (ev18 : (if p2 = (nI 5) then ((-1)) else (0)) = v18), BW O G fdX12_ofHolder 0 0 (QV O G 0 0 PP) S6 117 [some (vr 12 0), some (vi p1), some (vi p2)] [vi v18] := by
            intro v18 ev18
            exact a_iret (pc := 117) 1 17 rfl rfl (hP _ _ (by unfold f_X12_ofHolder; exact (lt_eq ev1).trans ((lt_eq ev5).trans ((lt_eq eS6).trans ((lt_eq ev7).trans ((if_neg c30_7).trans ((if_pos c37_8).trans ((if_neg c104_9).trans (lt_eq ev18)))))))))
          refine a_icmp_ne (pc := 109) (tgt := 116) 1 13 rfl (by decide) (fun c109_16 => ?_) (fun c109_16 => ?_)
          · refine a_iconst (pc := 116) 1 16 (v := 0) rfl (by decide) ?_
            exact J117_31 _ (by exact (if_neg c109_16))
          · refine a_iconst (pc := 112) 1 14 (v := (-1)) rfl (by decide) ?_
            refine a_goto (pc := 113) (tgt := 117) 1 15 rfl (by decide) ?_
            exact J117_31 _ (by exact (if_pos c109_16))
      · have h := h.2 c37_8
        refine a_iload_n (pc := 40) 0 21 rfl rfl ?_
        have J100_32 : ∀ (v29 : Int32) (ev29 : (if p2 = 0 then (S6.2.1 kBankOf (ix p1)) else (if p2 = 1 then (S6.2.1 kAccounts (ix p1)) else (if p2 = (nI 2) then (lt (f_X12_free S6 p1) (fun (v26 : Int32) => v26)) else (if p2 = (nI 3) then (S6.2.1 kNotes (ix p1)) else (S6.2.1 kForged (ix p1)))))) = v29), BW O G fdX12_ofHolder 0 0 (QV O G 0 0 PP) S6 100 [some (vr 12 0), some (vi p1), some (vi p2)] [vi v29] := by
          intro v29 ev29
          exact a_iret (pc := 100) 1 7 rfl rfl (hP _ _ (by unfold f_X12_ofHolder; exact (lt_eq ev1).trans ((lt_eq ev5).trans ((lt_eq eS6).trans ((lt_eq ev7).trans ((if_neg c30_7).trans ((if_neg c37_8).trans (lt_eq ev29))))))))
        refine a_if_ne (pc := 41) (tgt := 53) 0 22 rfl (by decide) (fun c41_18 => ?_) (fun c41_18 => ?_)
        · have h := h.1 c41_18
          refine a_iload_n (pc := 53) 0 28 rfl rfl ?_
          refine a_iconst (pc := 54) 0 29 (v := 1) rfl (by decide) ?_
          refine a_icmp_ne (pc := 55) (tgt := 67) 0 30 rfl (by decide) (fun c55_19 => ?_) (fun c55_19 => ?_)
          · have h := h.1 c55_19
            refine a_iload_n (pc := 67) 0 36 rfl rfl ?_
            refine a_iconst (pc := 68) 0 37 (v := nI 2) rfl (by decide) ?_
            refine a_icmp_ne (pc := 69) (tgt := 80) 0 38 rfl (by decide) (fun c69_20 => ?_) (fun c69_20 => ?_)
            · have h := h.1 c69_20
              refine a_iload_n (pc := 80) 0 43 rfl rfl ?_
              refine a_iconst (pc := 81) 0 44 (v := nI 3) rfl (by decide) ?_
              refine a_icmp_ne (pc := 82) (tgt := 94) 0 45 rfl (by decide) (fun c82_21 => ?_) (fun c82_21 => ?_)
              · have h := h.1 c82_21
                refine a_aload_n (pc := 94) 1 3 rfl rfl ?_
                refine g_12_forged (pc := 95) 1 4 rfl fl_X12_20 ?_
                refine a_iload_n (pc := 98) 1 5 rfl rfl ?_
                have o23 := h
                refine e_25 (pc := 99) 1 6 (ix p1) rfl o23.1 o23.2 ?_
                exact J100_32 _ (by exact ((if_neg c41_18).trans ((if_neg c55_19).trans ((if_neg c69_20).trans (if_neg c82_21)))))
              · have h := h.2 c82_21
                refine a_aload_n (pc := 85) 0 46 rfl rfl ?_
                refine g_12_notes (pc := 86) 0 47 rfl fl_X12_16 ?_
                refine a_iload_n (pc := 89) 1 0 rfl rfl ?_
                have o24 := h
                refine e_24 (pc := 90) 1 1 (ix p1) rfl o24.1 o24.2 ?_
                refine a_goto (pc := 91) (tgt := 100) 1 2 rfl (by decide) ?_
                exact J100_32 _ (by exact ((if_neg c41_18).trans ((if_neg c55_19).trans ((if_neg c69_20).trans (if_pos c82_21)))))
            · have h := h.2 c69_20
              refine a_aload_n (pc := 72) 0 39 rfl rfl ?_
              refine a_iload_n (pc := 73) 0 40 rfl rfl ?_
              have o25 := h
              refine a_callVi (pc := 74) 0 41 (c_X12_free (S := S6) p1 o25) rfl cv_X12_202 (by decide) rfl rfl rfl (rm rfl) ?_
              refine a_seti (fun v26 ev26 => ?_)
              refine a_goto (pc := 77) (tgt := 100) 0 42 rfl (by decide) ?_
              exact J100_32 _ (by exact ((if_neg c41_18).trans ((if_neg c55_19).trans ((if_pos c69_20).trans (lt_eq ev26)))))
          · have h := h.2 c55_19
            refine a_aload_n (pc := 58) 0 31 rfl rfl ?_
            refine g_12_accounts (pc := 59) 0 32 rfl fl_X12_26 ?_
            refine a_iload_n (pc := 62) 0 33 rfl rfl ?_
            have o27 := h
            refine e_27 (pc := 63) 0 34 (ix p1) rfl o27.1 o27.2 ?_
            refine a_goto (pc := 64) (tgt := 100) 0 35 rfl (by decide) ?_
            exact J100_32 _ (by exact ((if_neg c41_18).trans (if_pos c55_19)))
        · have h := h.2 c41_18
          refine a_aload_n (pc := 44) 0 23 rfl rfl ?_
          refine g_12_bankOf (pc := 45) 0 24 rfl fl_X12_23 ?_
          refine a_iload_n (pc := 48) 0 25 rfl rfl ?_
          have o28 := h
          refine e_26 (pc := 49) 0 26 (ix p1) rfl o28.1 o28.2 ?_
          refine a_goto (pc := 50) (tgt := 100) 0 27 rfl (by decide) ?_
          exact J100_32 _ (by exact (if_pos c41_18))
    · refine a_iconst (pc := 33) 0 16 (v := 0) rfl (by decide) ?_
      exact a_iret (pc := 34) 0 17 rfl rfl (hP _ _ (by unfold f_X12_ofHolder; exact (lt_eq ev1).trans ((lt_eq ev5).trans ((lt_eq eS6).trans ((lt_eq ev7).trans (if_pos c30_7))))))
  refine a_if_ne (pc := 5) (tgt := 12) 0 3 rfl (by decide) (fun c5_1 => ?_) (fun c5_1 => ?_)
  · refine a_iload_n (pc := 12) 0 6 rfl rfl ?_
    refine a_iconst (pc := 13) 0 7 (v := 0) rfl (by decide) ?_
    refine a_bipush (pc := 14) 0 8 (v := nI 7) rfl (by decide) ?_
    refine a_callSi (pc := 16) 0 9 (c_X12_in (S := S) p2 0 (nI 7)) rfl cs_X12_141 rfl (rm rfl) ?_
    refine a_seti (fun v3 ev3 => ?_)
    refine a_if_eq (pc := 19) (tgt := 26) 0 10 rfl (by decide) (fun c19_3 => ?_) (fun c19_3 => ?_)
    · refine a_iconst (pc := 26) 0 13 (v := nI 2) rfl (by decide) ?_
      exact J27_29 _ (by exact ((if_neg c5_1).trans ((lt_eq ev3).trans (if_pos c19_3))))
    · refine a_iconst (pc := 22) 0 11 (v := 0) rfl (by decide) ?_
      refine a_goto (pc := 23) (tgt := 27) 0 12 rfl (by decide) ?_
      exact J27_29 _ (by exact ((if_neg c5_1).trans ((lt_eq ev3).trans (if_neg c19_3))))
  · refine a_iconst (pc := 8) 0 4 (v := 1) rfl (by decide) ?_
    refine a_goto (pc := 9) (tgt := 27) 0 5 rfl (by decide) ?_
    exact J27_29 _ (by exact (if_pos c5_1))
theorem c_X12_ofHolder {S : Mem} (p1 : Int32) (p2 : Int32)   (h : ok_X12_ofHolder S p1 p2) : Cts mdX12_ofHolder 2 42 [vr 12 0, vi p1, vi p2] S (Is (some (vi (f_X12_ofHolder S p1 p2).1)) ((f_X12_ofHolder S p1 p2).2)) := Cts.of dtX12_ofHolder (by decide +kernel) rfl rfl (Nat.le_of_ble_eq_true rfl) rfl (fun O G => w_X12_ofHolder p1 p2 h (fun _ _ h9 => ⟨by rw [h9], by rw [h9]⟩))
def f_X12_accountAnew (S : Mem) (p1 : Int32) : Int32 × Mem := lt (f_X12_isHolder S p1) (fun (v1 : Int32) => lt (if v1 = 0 then (1) else (0)) (fun (v3 : Int32) => lt ((f_X12_holds S v3).2) (fun (S4 : Mem) => lt ((f_X12_holds S v3).1) (fun (v5 : Int32) => lt (if v5 = 0 then (0) else (S4.2.1 kAccounts (ix p1))) (fun (v8 : Int32) => (v8, S4))))))
def ok_X12_accountAnew (S : Mem) (p1 : Int32) : Prop := ((∀ v1 : Int32, (f_X12_isHolder S p1) = v1 → ((∀ v3 : Int32, (if v1 = 0 then (1) else (0)) = v3 → ((∀ S4 : Mem, ((f_X12_holds S v3).2) = S4 → ((∀ v5 : Int32, ((f_X12_holds S v3).1) = v5 → (((¬ (v5 = 0)) → ((inb p1 16))))))))))))
abbrev fdX12_accountAnew : FD := (mdX12_accountAnew, [], 2, 42, 0, 0)
set_option maxRecDepth 100000 in
set_option maxHeartbeats 4000000 in
theorem w_X12_accountAnew {O : Om} {G : Cx} {S : Mem} {PP : Option AV → Mem → Prop} (p1 : Int32)   (h : ok_X12_accountAnew S p1) (hP : ∀ x9 S9, f_X12_accountAnew S p1 = (x9, S9) → PP (some (vi x9)) S9) : BW O G fdX12_accountAnew 0 0 (QV O G 0 0 PP) S 0 [some (vr 12 0), some (vi p1)] [] := by
  refine a_aload_n (pc := 0) 0 0 rfl rfl ?_
  refine a_iload_n (pc := 1) 0 1 rfl rfl ?_
  refine a_callSi (pc := 2) 0 2 (c_X12_isHolder (S := S) p1) rfl cs_X12_171 rfl (rm rfl) ?_
  refine a_seti (fun v1 ev1 => ?_)
  have h := h v1 ev1
  have J13_8 : ∀ (v3 : Int32) (ev3 : (if v1 = 0 then (1) else (0)) = v3), BW O G fdX12_accountAnew 0 0 (QV O G 0 0 PP) S 13 [some (vr 12 0), some (vi p1)] [vi v3, vr 12 0] := by
    intro v3 ev3
    have h := h v3 ev3
    refine a_callVi (pc := 13) 0 7 (c_X12_holds (S := S) v3) rfl cv_X12_175 (by decide) rfl rfl rfl (rm rfl) ?_
    refine a_set (fun S4 eS4 => ?_)
    have h := h S4 eS4
    refine a_seti (fun v5 ev5 => ?_)
    have h := h v5 ev5
    have J29_9 : ∀ (v8 : Int32) (ev8 : (if v5 = 0 then (0) else (S4.2.1 kAccounts (ix p1))) = v8), BW O G fdX12_accountAnew 0 0 (QV O G 0 0 PP) S4 29 [some (vr 12 0), some (vi p1)] [vi v8] := by
      intro v8 ev8
      exact a_iret (pc := 29) 0 15 rfl rfl (hP _ _ (by unfold f_X12_accountAnew; exact (lt_eq ev1).trans ((lt_eq ev3).trans ((lt_eq eS4).trans ((lt_eq ev5).trans (lt_eq ev8))))))
    refine a_if_eq (pc := 16) (tgt := 28) 0 8 rfl (by decide) (fun c16_5 => ?_) (fun c16_5 => ?_)
    · refine a_iconst (pc := 28) 0 14 (v := 0) rfl (by decide) ?_
      exact J29_9 _ (by exact (if_pos c16_5))
    · have h := h c16_5
      refine a_aload_n (pc := 19) 0 9 rfl rfl ?_
      refine g_12_accounts (pc := 20) 0 10 rfl fl_X12_26 ?_
      refine a_iload_n (pc := 23) 0 11 rfl rfl ?_
      have o7 := h
      refine e_27 (pc := 24) 0 12 (ix p1) rfl o7.1 o7.2 ?_
      refine a_goto (pc := 25) (tgt := 29) 0 13 rfl (by decide) ?_
      exact J29_9 _ (by exact (if_neg c16_5))
  refine a_if_eq (pc := 5) (tgt := 12) 0 3 rfl (by decide) (fun c5_1 => ?_) (fun c5_1 => ?_)
  · refine a_iconst (pc := 12) 0 6 (v := 1) rfl (by decide) ?_
    exact J13_8 _ (by exact (if_pos c5_1))
  · refine a_iconst (pc := 8) 0 4 (v := 0) rfl (by decide) ?_
    refine a_goto (pc := 9) (tgt := 13) 0 5 rfl (by decide) ?_
    exact J13_8 _ (by exact (if_neg c5_1))
theorem c_X12_accountAnew {S : Mem} (p1 : Int32)   (h : ok_X12_accountAnew S p1) : Cts mdX12_accountAnew 2 42 [vr 12 0, vi p1] S (Is (some (vi (f_X12_accountAnew S p1).1)) ((f_X12_accountAnew S p1).2)) := Cts.of dtX12_accountAnew (by decide +kernel) rfl rfl (Nat.le_of_ble_eq_true rfl) rfl (fun O G => w_X12_accountAnew p1 h (fun _ _ h9 => ⟨by rw [h9], by rw [h9]⟩))
def f_X12_ofBank (S : Mem) (p1 : Int32) (p2 : Int32) : Int32 × Mem := lt (f_X12_isBank S p1) (fun (v1 : Int32) => lt (if v1 = 0 then (1) else (lt (f_X12_in S p2 0 (nI 9)) (fun (v3 : Int32) => if v3 = 0 then (nI 2) else (0)))) (fun (v5 : Int32) => lt ((f_X12_holds S v5).2) (fun (S6 : Mem) => lt ((f_X12_holds S v5).1) (fun (v7 : Int32) => if v7 = 0 then ((0, S6)) else (if (nI 5) ≤ p2 then (if (nI 8) ≤ p2 then (lt (if p2 = (nI 8) then (if (S6.2.1 kAreShort (ix p1)) = 0 then (0) else (1)) else (if (S6.2.1 kHaveFailed (ix p1)) = 0 then (0) else (1))) (fun (v16 : Int32) => (v16, S6))) else (lt (if p2 = (nI 5) then (S6.2.1 kLent (ix p1)) else (if p2 = (nI 6) then (lt (f_X12_capital S6 p1) (fun (v22 : Int32) => v22)) else (lt (f_X12_waitingNet S6 p1) (fun (v20 : Int32) => v20)))) (fun (v24 : Int32) => (v24, S6)))) else (lt (if p2 = 0 then (S6.2.1 kReserves (ix p1)) else (if p2 = 1 then (S6.2.1 kVaults (ix p1)) else (if p2 = (nI 2) then (lt (f_X12_bondsOf S6 p1) (fun (v33 : Int32) => v33)) else (if p2 = (nI 3) then (lt (f_X12_loansOf S6 p1) (fun (v31 : Int32) => v31)) else (lt (f_X12_inAccounts S6 p1) (fun (v29 : Int32) => v29)))))) (fun (v36 : Int32) => (v36, S6))))))))
def ok_X12_ofBank (S : Mem) (p1 : Int32) (p2 : Int32) : Prop := ((∀ v1 : Int32, (f_X12_isBank S p1) = v1 → ((∀ v5 : Int32, (if v1 = 0 then (1) else (lt (f_X12_in S p2 0 (nI 9)) (fun (v3 : Int32) => if v3 = 0 then (nI 2) else (0)))) = v5 → ((∀ S6 : Mem, ((f_X12_holds S v5).2) = S6 → ((∀ v7 : Int32, ((f_X12_holds S v5).1) = v7 → (((¬ (v7 = 0)) → ((((nI 5) ≤ p2) → ((((nI 8) ≤ p2) → (((¬ (p2 = (nI 8))) → ((inb p1 4))) ∧ ((p2 = (nI 8)) → ((inb p1 4))))) ∧ ((¬ ((nI 8) ≤ p2)) → (((¬ (p2 = (nI 5))) → (((¬ (p2 = (nI 6))) → ((ok_X12_waitingNet S6 p1))) ∧ ((p2 = (nI 6)) → ((ok_X12_capital S6 p1))))) ∧ ((p2 = (nI 5)) → ((inb p1 4))))))) ∧ ((¬ ((nI 5) ≤ p2)) → (((¬ (p2 = 0)) → (((¬ (p2 = 1)) → (((¬ (p2 = (nI 2))) → (((p2 = (nI 3)) → ((ok_X12_loansOf S6 p1))))) ∧ ((p2 = (nI 2)) → ((ok_X12_bondsOf S6 p1))))) ∧ ((p2 = 1) → ((inb p1 4))))) ∧ ((p2 = 0) → ((inb p1 4))))))))))))))))
abbrev fdX12_ofBank : FD := (mdX12_ofBank, [], 2, 44, 0, 0)
set_option maxRecDepth 100000 in
set_option maxHeartbeats 4000000 in
theorem w_X12_ofBank {O : Om} {G : Cx} {S : Mem} {PP : Option AV → Mem → Prop} (p1 : Int32) (p2 : Int32)   (h : ok_X12_ofBank S p1 p2) (hP : ∀ x9 S9, f_X12_ofBank S p1 p2 = (x9, S9) → PP (some (vi x9)) S9) : BW O G fdX12_ofBank 0 0 (QV O G 0 0 PP) S 0 [some (vr 12 0), some (vi p1), some (vi p2)] [] := by
  refine a_aload_n (pc := 0) 0 0 rfl rfl ?_
  refine a_iload_n (pc := 1) 0 1 rfl rfl ?_
  refine a_callSi (pc := 2) 0 2 (c_X12_isBank (S := S) p1) rfl cs_X12_181 rfl (rm rfl) ?_
  refine a_seti (fun v1 ev1 => ?_)
  have h := h v1 ev1
  have J27_36 : ∀ (v5 : Int32) (ev5 : (if v1 = 0 then (1) else (lt (f_X12_in S p2 0 (nI 9)) (fun (v3 : Int32) => if v3 = 0 then (nI 2) else (0)))) = v5), BW O G fdX12_ofBank 0 0 (QV O G 0 0 PP) S 27 [some (vr 12 0), some (vi p1), some (vi p2)] [vi v5, vr 12 0] := by
    intro v5 ev5
    have h := h v5 ev5
    refine a_callVi (pc := 27) 0 14 (c_X12_holds (S := S) v5) rfl cv_X12_175 (by decide) rfl rfl rfl (rm rfl) ?_
    refine a_set (fun S6 eS6 => ?_)
    have h := h S6 eS6
    refine a_seti (fun v7 ev7 => ?_)
    have h := h v7 ev7
    refine a_if_ne (pc := 30) (tgt := 35) 0 15 rfl (by decide) (fun c30_7 => ?_) (fun c30_7 => ?_)
    · have h := h c30_7
      refine a_iload_n (pc := 35) 0 18 rfl rfl ?_
      refine a_iconst (pc := 36) 0 19 (v := nI 5) rfl (by decide) ?_
      refine a_icmp_ge (pc := 37) (tgt := 99) 0 20 rfl (by decide) (fun c37_8 => ?_) (fun c37_8 => ?_)
      · have h := h.1 c37_8
        refine a_iload_n (pc := 99) 1 6 rfl rfl ?_
        refine a_bipush (pc := 100) 1 7 (v := nI 8) rfl (by decide) ?_
        refine a_icmp_ge (pc := 102) (tgt := 139) 1 8 rfl (by decide) (fun c102_9 => ?_) (fun c102_9 => ?_)
        · have h := h.1 c102_9
          refine a_iload_n (pc := 139) 1 28 rfl rfl ?_
          refine a_bipush (pc := 140) 1 29 (v := nI 8) rfl (by decide) ?_
          have J171_37 : ∀ (v16 : Int32) (ev16 : (if p2 = (nI 8) then (if (S6.2.1 kAreShort (ix p1)) = 0 then (0) else (1)) else (if (S6.2.1 kHaveFailed (ix p1)) = 0 then (0) else (1))) = v16), BW O G fdX12_ofBank 0 0 (QV O G 0 0 PP) S6 171 [some (vr 12 0), some (vi p1), some (vi p2)] [vi v16] := by
            intro v16 ev16
            exact a_iret (pc := 171) 1 45 rfl rfl (hP _ _ (by unfold f_X12_ofBank; exact (lt_eq ev1).trans ((lt_eq ev5).trans ((lt_eq eS6).trans ((lt_eq ev7).trans ((if_neg c30_7).trans ((if_pos c37_8).trans ((if_pos c102_9).trans (lt_eq ev16)))))))))
          refine a_icmp_ne (pc := 142) (tgt := 157) 1 30 rfl (by decide) (fun c142_10 => ?_) (fun c142_10 => ?_)
          · have h := h.1 c142_10
            refine a_aload_n (pc := 157) 1 37 rfl rfl ?_
            refine g_12_haveFailed (pc := 158) 1 38 rfl fl_X12_62 ?_
            refine a_iload_n (pc := 161) 1 39 rfl rfl ?_
            have o12 := h
            refine e_39 (pc := 162) 1 40 (ix p1) rfl o12.1 o12.2 ?_
            refine a_if_eq (pc := 163) (tgt := 170) 1 41 rfl (by decide) (fun c163_12 => ?_) (fun c163_12 => ?_)
            · refine a_iconst (pc := 170) 1 44 (v := 0) rfl (by decide) ?_
              exact J171_37 _ (by exact ((if_neg c142_10).trans (if_pos c163_12)))
            · refine a_iconst (pc := 166) 1 42 (v := 1) rfl (by decide) ?_
              refine a_goto (pc := 167) (tgt := 171) 1 43 rfl (by decide) ?_
              exact J171_37 _ (by exact ((if_neg c142_10).trans (if_neg c163_12)))
          · have h := h.2 c142_10
            refine a_aload_n (pc := 145) 1 31 rfl rfl ?_
            refine g_12_areShort (pc := 146) 1 32 rfl fl_X12_66 ?_
            refine a_iload_n (pc := 149) 1 33 rfl rfl ?_
            have o14 := h
            refine e_40 (pc := 150) 1 34 (ix p1) rfl o14.1 o14.2 ?_
            refine a_if_eq (pc := 151) (tgt := 170) 1 35 rfl (by decide) (fun c151_14 => ?_) (fun c151_14 => ?_)
            · refine a_iconst (pc := 170) 1 44 (v := 0) rfl (by decide) ?_
              exact J171_37 _ (by exact ((if_pos c142_10).trans (if_pos c151_14)))
            · refine a_goto (pc := 154) (tgt := 166) 1 36 rfl (by decide) ?_
              refine a_iconst (pc := 166) 1 42 (v := 1) rfl (by decide) ?_
              refine a_goto (pc := 167) (tgt := 171) 1 43 rfl (by decide) ?_
              exact J171_37 _ (by exact ((if_pos c142_10).trans (if_neg c151_14)))
        · have h := h.2 c102_9
          refine a_iload_n (pc := 105) 1 9 rfl rfl ?_
          refine a_iconst (pc := 106) 1 10 (v := nI 5) rfl (by decide) ?_
          have J138_38 : ∀ (v24 : Int32) (ev24 : (if p2 = (nI 5) then (S6.2.1 kLent (ix p1)) else (if p2 = (nI 6) then (lt (f_X12_capital S6 p1) (fun (v22 : Int32) => v22)) else (lt (f_X12_waitingNet S6 p1) (fun (v20 : Int32) => v20)))) = v24), BW O G fdX12_ofBank 0 0 (QV O G 0 0 PP) S6 138 [some (vr 12 0), some (vi p1), some (vi p2)] [vi v24] := by
            intro v24 ev24
            exact a_iret (pc := 138) 1 27 rfl rfl (hP _ _ (by unfold f_X12_ofBank; exact (lt_eq ev1).trans ((lt_eq ev5).trans ((lt_eq eS6).trans ((lt_eq ev7).trans ((if_neg c30_7).trans ((if_pos c37_8).trans ((if_neg c102_9).trans (lt_eq ev24)))))))))
          refine a_icmp_ne (pc := 107) (tgt := 119) 1 11 rfl (by decide) (fun c107_16 => ?_) (fun c107_16 => ?_)
          · have h := h.1 c107_16
            refine a_iload_n (pc := 119) 1 17 rfl rfl ?_
            refine a_bipush (pc := 120) 1 18 (v := nI 6) rfl (by decide) ?_
            refine a_icmp_ne (pc := 122) (tgt := 133) 1 19 rfl (by decide) (fun c122_17 => ?_) (fun c122_17 => ?_)
            · have h := h.1 c122_17
              refine a_aload_n (pc := 133) 1 24 rfl rfl ?_
              refine a_iload_n (pc := 134) 1 25 rfl rfl ?_
              have o19 := h
              refine a_callVi (pc := 135) 1 26 (c_X12_waitingNet (S := S6) p1 o19) rfl cv_X12_315 (by decide) rfl rfl rfl (rm rfl) ?_
              refine a_seti (fun v20 ev20 => ?_)
              exact J138_38 _ (by exact ((if_neg c107_16).trans ((if_neg c122_17).trans (lt_eq ev20))))
            · have h := h.2 c122_17
              refine a_aload_n (pc := 125) 1 20 rfl rfl ?_
              refine a_iload_n (pc := 126) 1 21 rfl rfl ?_
              have o21 := h
              refine a_callVi (pc := 127) 1 22 (c_X12_capital (S := S6) p1 o21) rfl cv_X12_229 (by decide) rfl rfl rfl (rm rfl) ?_
              refine a_seti (fun v22 ev22 => ?_)
              refine a_goto (pc := 130) (tgt := 138) 1 23 rfl (by decide) ?_
              exact J138_38 _ (by exact ((if_neg c107_16).trans ((if_pos c122_17).trans (lt_eq ev22))))
          · have h := h.2 c107_16
            refine a_aload_n (pc := 110) 1 12 rfl rfl ?_
            refine g_12_lent (pc := 111) 1 13 rfl fl_X12_56 ?_
            refine a_iload_n (pc := 114) 1 14 rfl rfl ?_
            have o23 := h
            refine e_37 (pc := 115) 1 15 (ix p1) rfl o23.1 o23.2 ?_
            refine a_goto (pc := 116) (tgt := 138) 1 16 rfl (by decide) ?_
            exact J138_38 _ (by exact (if_pos c107_16))
      · have h := h.2 c37_8
        refine a_iload_n (pc := 40) 0 21 rfl rfl ?_
        have J98_39 : ∀ (v36 : Int32) (ev36 : (if p2 = 0 then (S6.2.1 kReserves (ix p1)) else (if p2 = 1 then (S6.2.1 kVaults (ix p1)) else (if p2 = (nI 2) then (lt (f_X12_bondsOf S6 p1) (fun (v33 : Int32) => v33)) else (if p2 = (nI 3) then (lt (f_X12_loansOf S6 p1) (fun (v31 : Int32) => v31)) else (lt (f_X12_inAccounts S6 p1) (fun (v29 : Int32) => v29)))))) = v36), BW O G fdX12_ofBank 0 0 (QV O G 0 0 PP) S6 98 [some (vr 12 0), some (vi p1), some (vi p2)] [vi v36] := by
          intro v36 ev36
          exact a_iret (pc := 98) 1 5 rfl rfl (hP _ _ (by unfold f_X12_ofBank; exact (lt_eq ev1).trans ((lt_eq ev5).trans ((lt_eq eS6).trans ((lt_eq ev7).trans ((if_neg c30_7).trans ((if_neg c37_8).trans (lt_eq ev36))))))))
        refine a_if_ne (pc := 41) (tgt := 53) 0 22 rfl (by decide) (fun c41_24 => ?_) (fun c41_24 => ?_)
        · have h := h.1 c41_24
          refine a_iload_n (pc := 53) 0 28 rfl rfl ?_
          refine a_iconst (pc := 54) 0 29 (v := 1) rfl (by decide) ?_
          refine a_icmp_ne (pc := 55) (tgt := 67) 0 30 rfl (by decide) (fun c55_25 => ?_) (fun c55_25 => ?_)
          · have h := h.1 c55_25
            refine a_iload_n (pc := 67) 0 36 rfl rfl ?_
            refine a_iconst (pc := 68) 0 37 (v := nI 2) rfl (by decide) ?_
            refine a_icmp_ne (pc := 69) (tgt := 80) 0 38 rfl (by decide) (fun c69_26 => ?_) (fun c69_26 => ?_)
            · have h := h.1 c69_26
              refine a_iload_n (pc := 80) 0 43 rfl rfl ?_
              refine a_iconst (pc := 81) 0 44 (v := nI 3) rfl (by decide) ?_
              refine a_icmp_ne (pc := 82) (tgt := 93) 0 45 rfl (by decide) (fun c82_27 => ?_) (fun c82_27 => ?_)
              · refine a_aload_n (pc := 93) 1 2 rfl rfl ?_
                refine a_iload_n (pc := 94) 1 3 rfl rfl ?_
                refine a_callVi (pc := 95) 1 4 (c_X12_inAccounts (S := S6) p1) rfl cv_X12_158 (by decide) rfl rfl rfl (rm rfl) ?_
                refine a_seti (fun v29 ev29 => ?_)
                exact J98_39 _ (by exact ((if_neg c41_24).trans ((if_neg c55_25).trans ((if_neg c69_26).trans ((if_neg c82_27).trans (lt_eq ev29))))))
              · have h := h c82_27
                refine a_aload_n (pc := 85) 0 46 rfl rfl ?_
                refine a_iload_n (pc := 86) 0 47 rfl rfl ?_
                have o30 := h
                refine a_callVi (pc := 87) 1 0 (c_X12_loansOf (S := S6) p1 o30) rfl cv_X12_155 (by decide) rfl rfl rfl (rm rfl) ?_
                refine a_seti (fun v31 ev31 => ?_)
                refine a_goto (pc := 90) (tgt := 98) 1 1 rfl (by decide) ?_
                exact J98_39 _ (by exact ((if_neg c41_24).trans ((if_neg c55_25).trans ((if_neg c69_26).trans ((if_pos c82_27).trans (lt_eq ev31))))))
            · have h := h.2 c69_26
              refine a_aload_n (pc := 72) 0 39 rfl rfl ?_
              refine a_iload_n (pc := 73) 0 40 rfl rfl ?_
              have o32 := h
              refine a_callVi (pc := 74) 0 41 (c_X12_bondsOf (S := S6) p1 o32) rfl cv_X12_151 (by decide) rfl rfl rfl (rm rfl) ?_
              refine a_seti (fun v33 ev33 => ?_)
              refine a_goto (pc := 77) (tgt := 98) 0 42 rfl (by decide) ?_
              exact J98_39 _ (by exact ((if_neg c41_24).trans ((if_neg c55_25).trans ((if_pos c69_26).trans (lt_eq ev33)))))
          · have h := h.2 c55_25
            refine a_aload_n (pc := 58) 0 31 rfl rfl ?_
            refine g_12_vaults (pc := 59) 0 32 rfl fl_X12_53 ?_
            refine a_iload_n (pc := 62) 0 33 rfl rfl ?_
            have o34 := h
            refine e_36 (pc := 63) 0 34 (ix p1) rfl o34.1 o34.2 ?_
            refine a_goto (pc := 64) (tgt := 98) 0 35 rfl (by decide) ?_
            exact J98_39 _ (by exact ((if_neg c41_24).trans (if_pos c55_25)))
        · have h := h.2 c41_24
          refine a_aload_n (pc := 44) 0 23 rfl rfl ?_
          refine g_12_reserves (pc := 45) 0 24 rfl fl_X12_50 ?_
          refine a_iload_n (pc := 48) 0 25 rfl rfl ?_
          have o35 := h
          refine e_35 (pc := 49) 0 26 (ix p1) rfl o35.1 o35.2 ?_
          refine a_goto (pc := 50) (tgt := 98) 0 27 rfl (by decide) ?_
          exact J98_39 _ (by exact (if_pos c41_24))
    · refine a_iconst (pc := 33) 0 16 (v := 0) rfl (by decide) ?_
      exact a_iret (pc := 34) 0 17 rfl rfl (hP _ _ (by unfold f_X12_ofBank; exact (lt_eq ev1).trans ((lt_eq ev5).trans ((lt_eq eS6).trans ((lt_eq ev7).trans (if_pos c30_7))))))
  refine a_if_ne (pc := 5) (tgt := 12) 0 3 rfl (by decide) (fun c5_1 => ?_) (fun c5_1 => ?_)
  · refine a_iload_n (pc := 12) 0 6 rfl rfl ?_
    refine a_iconst (pc := 13) 0 7 (v := 0) rfl (by decide) ?_
    refine a_bipush (pc := 14) 0 8 (v := nI 9) rfl (by decide) ?_
    refine a_callSi (pc := 16) 0 9 (c_X12_in (S := S) p2 0 (nI 9)) rfl cs_X12_141 rfl (rm rfl) ?_
    refine a_seti (fun v3 ev3 => ?_)
    refine a_if_eq (pc := 19) (tgt := 26) 0 10 rfl (by decide) (fun c19_3 => ?_) (fun c19_3 => ?_)
    · refine a_iconst (pc := 26) 0 13 (v := nI 2) rfl (by decide) ?_
      exact J27_36 _ (by exact ((if_neg c5_1).trans ((lt_eq ev3).trans (if_pos c19_3))))
    · refine a_iconst (pc := 22) 0 11 (v := 0) rfl (by decide) ?_
      refine a_goto (pc := 23) (tgt := 27) 0 12 rfl (by decide) ?_
      exact J27_36 _ (by exact ((if_neg c5_1).trans ((lt_eq ev3).trans (if_neg c19_3))))
  · refine a_iconst (pc := 8) 0 4 (v := 1) rfl (by decide) ?_
    refine a_goto (pc := 9) (tgt := 27) 0 5 rfl (by decide) ?_
    exact J27_36 _ (by exact (if_pos c5_1))
theorem c_X12_ofBank {S : Mem} (p1 : Int32) (p2 : Int32)   (h : ok_X12_ofBank S p1 p2) : Cts mdX12_ofBank 2 44 [vr 12 0, vi p1, vi p2] S (Is (some (vi (f_X12_ofBank S p1 p2).1)) ((f_X12_ofBank S p1 p2).2)) := Cts.of dtX12_ofBank (by decide +kernel) rfl rfl (Nat.le_of_ble_eq_true rfl) rfl (fun O G => w_X12_ofBank p1 p2 h (fun _ _ h9 => ⟨by rw [h9], by rw [h9]⟩))
def f_X12_ofLoan (S : Mem) (p1 : Int32) (p2 : Int32) : Int32 × Mem := lt (f_X12_isLoan S p1) (fun (v1 : Int32) => lt (if v1 = 0 then (1) else (lt (f_X12_in S p2 0 (nI 3)) (fun (v3 : Int32) => if v3 = 0 then (nI 2) else (0)))) (fun (v5 : Int32) => lt ((f_X12_holds S v5).2) (fun (S6 : Mem) => lt ((f_X12_holds S v5).1) (fun (v7 : Int32) => if v7 = 0 then ((0, S6)) else (lt (if p2 = 0 then (S6.2.1 kLoanHolders (ix p1)) else (if p2 = 1 then (S6.2.1 kLoanBanks (ix p1)) else (if p2 = (nI 2) then (S6.2.1 kLoanLefts (ix p1)) else (S6.2.1 kOverdue (ix p1))))) (fun (v16 : Int32) => (v16, S6)))))))
def ok_X12_ofLoan (S : Mem) (p1 : Int32) (p2 : Int32) : Prop := ((∀ v1 : Int32, (f_X12_isLoan S p1) = v1 → ((∀ v5 : Int32, (if v1 = 0 then (1) else (lt (f_X12_in S p2 0 (nI 3)) (fun (v3 : Int32) => if v3 = 0 then (nI 2) else (0)))) = v5 → ((∀ S6 : Mem, ((f_X12_holds S v5).2) = S6 → ((∀ v7 : Int32, ((f_X12_holds S v5).1) = v7 → (((¬ (v7 = 0)) → (((¬ (p2 = 0)) → (((¬ (p2 = 1)) → (((¬ (p2 = (nI 2))) → ((inb p1 20))) ∧ ((p2 = (nI 2)) → ((inb p1 20))))) ∧ ((p2 = 1) → ((inb p1 20))))) ∧ ((p2 = 0) → ((inb p1 20))))))))))))))
abbrev fdX12_ofLoan : FD := (mdX12_ofLoan, [], 2, 43, 0, 0)
set_option maxRecDepth 100000 in
set_option maxHeartbeats 4000000 in
theorem w_X12_ofLoan {O : Om} {G : Cx} {S : Mem} {PP : Option AV → Mem → Prop} (p1 : Int32) (p2 : Int32)   (h : ok_X12_ofLoan S p1 p2) (hP : ∀ x9 S9, f_X12_ofLoan S p1 p2 = (x9, S9) → PP (some (vi x9)) S9) : BW O G fdX12_ofLoan 0 0 (QV O G 0 0 PP) S 0 [some (vr 12 0), some (vi p1), some (vi p2)] [] := by
  refine a_aload_n (pc := 0) 0 0 rfl rfl ?_
  refine a_aload_n (pc := 1) 0 1 rfl rfl ?_
  refine a_iload_n (pc := 2) 0 2 rfl rfl ?_
  refine a_callVi (pc := 3) 0 3 (c_X12_isLoan (S := S) p1) rfl cv_X12_235 (by decide) rfl rfl rfl (rm rfl) ?_
  refine a_seti (fun v1 ev1 => ?_)
  have h := h v1 ev1
  have J27_16 : ∀ (v5 : Int32) (ev5 : (if v1 = 0 then (1) else (lt (f_X12_in S p2 0 (nI 3)) (fun (v3 : Int32) => if v3 = 0 then (nI 2) else (0)))) = v5), BW O G fdX12_ofLoan 0 0 (QV O G 0 0 PP) S 27 [some (vr 12 0), some (vi p1), some (vi p2)] [vi v5, vr 12 0] := by
    intro v5 ev5
    have h := h v5 ev5
    refine a_callVi (pc := 27) 0 15 (c_X12_holds (S := S) v5) rfl cv_X12_175 (by decide) rfl rfl rfl (rm rfl) ?_
    refine a_set (fun S6 eS6 => ?_)
    have h := h S6 eS6
    refine a_seti (fun v7 ev7 => ?_)
    have h := h v7 ev7
    refine a_if_ne (pc := 30) (tgt := 35) 0 16 rfl (by decide) (fun c30_7 => ?_) (fun c30_7 => ?_)
    · have h := h c30_7
      refine a_iload_n (pc := 35) 0 19 rfl rfl ?_
      have J82_17 : ∀ (v16 : Int32) (ev16 : (if p2 = 0 then (S6.2.1 kLoanHolders (ix p1)) else (if p2 = 1 then (S6.2.1 kLoanBanks (ix p1)) else (if p2 = (nI 2) then (S6.2.1 kLoanLefts (ix p1)) else (S6.2.1 kOverdue (ix p1))))) = v16), BW O G fdX12_ofLoan 0 0 (QV O G 0 0 PP) S6 82 [some (vr 12 0), some (vi p1), some (vi p2)] [vi v16] := by
        intro v16 ev16
        exact a_iret (pc := 82) 0 46 rfl rfl (hP _ _ (by unfold f_X12_ofLoan; exact (lt_eq ev1).trans ((lt_eq ev5).trans ((lt_eq eS6).trans ((lt_eq ev7).trans ((if_neg c30_7).trans (lt_eq ev16)))))))
      refine a_if_ne (pc := 36) (tgt := 48) 0 20 rfl (by decide) (fun c36_8 => ?_) (fun c36_8 => ?_)
      · have h := h.1 c36_8
        refine a_iload_n (pc := 48) 0 26 rfl rfl ?_
        refine a_iconst (pc := 49) 0 27 (v := 1) rfl (by decide) ?_
        refine a_icmp_ne (pc := 50) (tgt := 62) 0 28 rfl (by decide) (fun c50_9 => ?_) (fun c50_9 => ?_)
        · have h := h.1 c50_9
          refine a_iload_n (pc := 62) 0 34 rfl rfl ?_
          refine a_iconst (pc := 63) 0 35 (v := nI 2) rfl (by decide) ?_
          refine a_icmp_ne (pc := 64) (tgt := 76) 0 36 rfl (by decide) (fun c64_10 => ?_) (fun c64_10 => ?_)
          · have h := h.1 c64_10
            refine a_aload_n (pc := 76) 0 42 rfl rfl ?_
            refine g_12_overdue (pc := 77) 0 43 rfl fl_X12_87 ?_
            refine a_iload_n (pc := 80) 0 44 rfl rfl ?_
            have o12 := h
            refine e_47 (pc := 81) 0 45 (ix p1) rfl o12.1 o12.2 ?_
            exact J82_17 _ (by exact ((if_neg c36_8).trans ((if_neg c50_9).trans (if_neg c64_10))))
          · have h := h.2 c64_10
            refine a_aload_n (pc := 67) 0 37 rfl rfl ?_
            refine g_12_loanLefts (pc := 68) 0 38 rfl fl_X12_81 ?_
            refine a_iload_n (pc := 71) 0 39 rfl rfl ?_
            have o13 := h
            refine e_45 (pc := 72) 0 40 (ix p1) rfl o13.1 o13.2 ?_
            refine a_goto (pc := 73) (tgt := 82) 0 41 rfl (by decide) ?_
            exact J82_17 _ (by exact ((if_neg c36_8).trans ((if_neg c50_9).trans (if_pos c64_10))))
        · have h := h.2 c50_9
          refine a_aload_n (pc := 53) 0 29 rfl rfl ?_
          refine g_12_loanBanks (pc := 54) 0 30 rfl fl_X12_78 ?_
          refine a_iload_n (pc := 57) 0 31 rfl rfl ?_
          have o14 := h
          refine e_44 (pc := 58) 0 32 (ix p1) rfl o14.1 o14.2 ?_
          refine a_goto (pc := 59) (tgt := 82) 0 33 rfl (by decide) ?_
          exact J82_17 _ (by exact ((if_neg c36_8).trans (if_pos c50_9)))
      · have h := h.2 c36_8
        refine a_aload_n (pc := 39) 0 21 rfl rfl ?_
        refine g_12_loanHolders (pc := 40) 0 22 rfl fl_X12_75 ?_
        refine a_iload_n (pc := 43) 0 23 rfl rfl ?_
        have o15 := h
        refine e_43 (pc := 44) 0 24 (ix p1) rfl o15.1 o15.2 ?_
        refine a_goto (pc := 45) (tgt := 82) 0 25 rfl (by decide) ?_
        exact J82_17 _ (by exact (if_pos c36_8))
    · refine a_iconst (pc := 33) 0 17 (v := 0) rfl (by decide) ?_
      exact a_iret (pc := 34) 0 18 rfl rfl (hP _ _ (by unfold f_X12_ofLoan; exact (lt_eq ev1).trans ((lt_eq ev5).trans ((lt_eq eS6).trans ((lt_eq ev7).trans (if_pos c30_7))))))
  refine a_if_ne (pc := 6) (tgt := 13) 0 4 rfl (by decide) (fun c6_1 => ?_) (fun c6_1 => ?_)
  · refine a_iload_n (pc := 13) 0 7 rfl rfl ?_
    refine a_iconst (pc := 14) 0 8 (v := 0) rfl (by decide) ?_
    refine a_iconst (pc := 15) 0 9 (v := nI 3) rfl (by decide) ?_
    refine a_callSi (pc := 16) 0 10 (c_X12_in (S := S) p2 0 (nI 3)) rfl cs_X12_141 rfl (rm rfl) ?_
    refine a_seti (fun v3 ev3 => ?_)
    refine a_if_eq (pc := 19) (tgt := 26) 0 11 rfl (by decide) (fun c19_3 => ?_) (fun c19_3 => ?_)
    · refine a_iconst (pc := 26) 0 14 (v := nI 2) rfl (by decide) ?_
      exact J27_16 _ (by exact ((if_neg c6_1).trans ((lt_eq ev3).trans (if_pos c19_3))))
    · refine a_iconst (pc := 22) 0 12 (v := 0) rfl (by decide) ?_
      refine a_goto (pc := 23) (tgt := 27) 0 13 rfl (by decide) ?_
      exact J27_16 _ (by exact ((if_neg c6_1).trans ((lt_eq ev3).trans (if_neg c19_3))))
  · refine a_iconst (pc := 9) 0 5 (v := 1) rfl (by decide) ?_
    refine a_goto (pc := 10) (tgt := 27) 0 6 rfl (by decide) ?_
    exact J27_16 _ (by exact (if_pos c6_1))
theorem c_X12_ofLoan {S : Mem} (p1 : Int32) (p2 : Int32)   (h : ok_X12_ofLoan S p1 p2) : Cts mdX12_ofLoan 2 43 [vr 12 0, vi p1, vi p2] S (Is (some (vi (f_X12_ofLoan S p1 p2).1)) ((f_X12_ofLoan S p1 p2).2)) := Cts.of dtX12_ofLoan (by decide +kernel) rfl rfl (Nat.le_of_ble_eq_true rfl) rfl (fun O G => w_X12_ofLoan p1 p2 h (fun _ _ h9 => ⟨by rw [h9], by rw [h9]⟩))
def f_X12_payment (S : Mem) (p1 : Int32) : Int32 × Mem := lt (f_X12_in S p1 0 ((S.2.1 kPayments 0) - 1)) (fun (v1 : Int32) => lt (if v1 = 0 then (1) else (0)) (fun (v3 : Int32) => lt ((f_X12_holds S v3).2) (fun (S4 : Mem) => lt ((f_X12_holds S v3).1) (fun (v5 : Int32) => lt (if v5 = 0 then (0) else (S4.2.1 kStates (ix p1))) (fun (v8 : Int32) => (v8, S4))))))
def ok_X12_payment (S : Mem) (p1 : Int32) : Prop := ((∀ v1 : Int32, (f_X12_in S p1 0 ((S.2.1 kPayments 0) - 1)) = v1 → ((∀ v3 : Int32, (if v1 = 0 then (1) else (0)) = v3 → ((∀ S4 : Mem, ((f_X12_holds S v3).2) = S4 → ((∀ v5 : Int32, ((f_X12_holds S v3).1) = v5 → (((¬ (v5 = 0)) → ((inb p1 200))))))))))))
abbrev fdX12_payment : FD := (mdX12_payment, [], 1, 22, 0, 0)
set_option maxRecDepth 100000 in
set_option maxHeartbeats 4000000 in
theorem w_X12_payment {O : Om} {G : Cx} {S : Mem} {PP : Option AV → Mem → Prop} (p1 : Int32)   (h : ok_X12_payment S p1) (hP : ∀ x9 S9, f_X12_payment S p1 = (x9, S9) → PP (some (vi x9)) S9) : BW O G fdX12_payment 0 0 (QV O G 0 0 PP) S 0 [some (vr 12 0), some (vi p1)] [] := by
  refine a_aload_n (pc := 0) 0 0 rfl rfl ?_
  refine a_iload_n (pc := 1) 0 1 rfl rfl ?_
  refine a_iconst (pc := 2) 0 2 (v := 0) rfl (by decide) ?_
  refine a_aload_n (pc := 3) 0 3 rfl rfl ?_
  refine g_12_payments (pc := 4) 0 4 rfl fl_X12_187 ?_
  refine a_iconst (pc := 7) 0 5 (v := 1) rfl (by decide) ?_
  refine a_isub (pc := 8) 0 6 rfl ?_
  refine a_callSi (pc := 9) 0 7 (c_X12_in (S := S) p1 0 ((S.2.1 kPayments 0) - 1)) rfl cs_X12_141 rfl (rm rfl) ?_
  refine a_seti (fun v1 ev1 => ?_)
  have h := h v1 ev1
  have J20_8 : ∀ (v3 : Int32) (ev3 : (if v1 = 0 then (1) else (0)) = v3), BW O G fdX12_payment 0 0 (QV O G 0 0 PP) S 20 [some (vr 12 0), some (vi p1)] [vi v3, vr 12 0] := by
    intro v3 ev3
    have h := h v3 ev3
    refine a_callVi (pc := 20) 0 12 (c_X12_holds (S := S) v3) rfl cv_X12_175 (by decide) rfl rfl rfl (rm rfl) ?_
    refine a_set (fun S4 eS4 => ?_)
    have h := h S4 eS4
    refine a_seti (fun v5 ev5 => ?_)
    have h := h v5 ev5
    have J36_9 : ∀ (v8 : Int32) (ev8 : (if v5 = 0 then (0) else (S4.2.1 kStates (ix p1))) = v8), BW O G fdX12_payment 0 0 (QV O G 0 0 PP) S4 36 [some (vr 12 0), some (vi p1)] [vi v8] := by
      intro v8 ev8
      exact a_iret (pc := 36) 0 20 rfl rfl (hP _ _ (by unfold f_X12_payment; exact (lt_eq ev1).trans ((lt_eq ev3).trans ((lt_eq eS4).trans ((lt_eq ev5).trans (lt_eq ev8))))))
    refine a_if_eq (pc := 23) (tgt := 35) 0 13 rfl (by decide) (fun c23_5 => ?_) (fun c23_5 => ?_)
    · refine a_iconst (pc := 35) 0 19 (v := 0) rfl (by decide) ?_
      exact J36_9 _ (by exact (if_pos c23_5))
    · have h := h c23_5
      refine a_aload_n (pc := 26) 0 14 rfl rfl ?_
      refine g_12_states (pc := 27) 0 15 rfl fl_X12_99 ?_
      refine a_iload_n (pc := 30) 0 16 rfl rfl ?_
      have o7 := h
      refine e_51 (pc := 31) 0 17 (ix p1) rfl o7.1 o7.2 ?_
      refine a_goto (pc := 32) (tgt := 36) 0 18 rfl (by decide) ?_
      exact J36_9 _ (by exact (if_neg c23_5))
  refine a_if_eq (pc := 12) (tgt := 19) 0 8 rfl (by decide) (fun c12_1 => ?_) (fun c12_1 => ?_)
  · refine a_iconst (pc := 19) 0 11 (v := 1) rfl (by decide) ?_
    exact J20_8 _ (by exact (if_pos c12_1))
  · refine a_iconst (pc := 15) 0 9 (v := 0) rfl (by decide) ?_
    refine a_goto (pc := 16) (tgt := 20) 0 10 rfl (by decide) ?_
    exact J20_8 _ (by exact (if_neg c12_1))
theorem c_X12_payment {S : Mem} (p1 : Int32)   (h : ok_X12_payment S p1) : Cts mdX12_payment 1 22 [vr 12 0, vi p1] S (Is (some (vi (f_X12_payment S p1).1)) ((f_X12_payment S p1).2)) := Cts.of dtX12_payment (by decide +kernel) rfl rfl (Nat.le_of_ble_eq_true rfl) rfl (fun O G => w_X12_payment p1 h (fun _ _ h9 => ⟨by rw [h9], by rw [h9]⟩))
def f_X12_treasury (S : Mem)  : Int32 × Mem := lt ((S.1, upd2 S.2.1 kThrown 0 0, S.2.2)) (fun (S1 : Mem) => (S1.2.1 kTreasury 0, S1))
abbrev fdX12_treasury : FD := (mdX12_treasury, [], 0, 0, 0, 0)
set_option maxRecDepth 100000 in
set_option maxHeartbeats 4000000 in
theorem w_X12_treasury {O : Om} {G : Cx} {S : Mem} {PP : Option AV → Mem → Prop}    (hP : ∀ x9 S9, f_X12_treasury S  = (x9, S9) → PP (some (vi x9)) S9) : BW O G fdX12_treasury 0 0 (QV O G 0 0 PP) S 0 [some (vr 12 0)] [] := by
  refine a_aload_n (pc := 0) 0 0 rfl rfl ?_
  refine a_iconst (pc := 1) 0 1 (v := 0) rfl (by decide) ?_
  refine p_12_thrown (pc := 2) 0 2 rfl fl_X12_138 ?_
  refine a_set (fun S1 eS1 => ?_)
  refine a_aload_n (pc := 5) 0 3 rfl rfl ?_
  refine g_12_treasury (pc := 6) 0 4 rfl fl_X12_168 ?_
  exact a_iret (pc := 9) 0 5 rfl rfl (hP _ _ (by unfold f_X12_treasury; exact lt_eq eS1))
theorem c_X12_treasury {S : Mem}    : Cts mdX12_treasury 0 0 [vr 12 0] S (Is (some (vi (f_X12_treasury S ).1)) ((f_X12_treasury S ).2)) := Cts.of dtX12_treasury (by decide +kernel) rfl rfl (Nat.le_of_ble_eq_true rfl) rfl (fun O G => w_X12_treasury  (fun _ _ h9 => ⟨by rw [h9], by rw [h9]⟩))
def b13_X12_owed (S1 : Mem) (j4 : Nat) (σ5 : Int32) : Int32 := lt (f_X12_bondsOf S1 (nI j4)) (fun (v7 : Int32) => σ5 + v7)
def f_X12_owed (S : Mem)  : Int32 × Mem := lt ((S.1, upd2 S.2.1 kThrown 0 0, S.2.2)) (fun (S1 : Mem) => lt (f_X12_bondsOf S1 (nI 4)) (fun (v3 : Int32) => lt (iter (b13_X12_owed S1) v3 (4)) (fun (σ5 : Int32) => (σ5, S1))))
def ok_X12_owed (S : Mem)  : Prop := ((∀ S1 : Mem, ((S.1, upd2 S.2.1 kThrown 0 0, S.2.2)) = S1 → ((ok_X12_bondsOf S1 (nI 4)) ∧ (∀ v3 : Int32, (f_X12_bondsOf S1 (nI 4)) = v3 → ((∀ j4 : Nat, j4 < 4 → ∀ σ5 : Int32, iter (b13_X12_owed S1) v3 j4 = σ5 → ((ok_X12_bondsOf S1 (nI j4)))))))))
abbrev fdX12_owed : FD := (mdX12_owed, [], 1, 23, 0, 0)
set_option maxRecDepth 100000 in
set_option maxHeartbeats 4000000 in
theorem w_X12_owed {O : Om} {G : Cx} {S : Mem} {PP : Option AV → Mem → Prop}    (h : ok_X12_owed S ) (hP : ∀ x9 S9, f_X12_owed S  = (x9, S9) → PP (some (vi x9)) S9) : BW O G fdX12_owed 0 0 (QV O G 0 0 PP) S 0 [some (vr 12 0), none, none] [] := by
  refine a_aload_n (pc := 0) 0 0 rfl rfl ?_
  refine a_iconst (pc := 1) 0 1 (v := 0) rfl (by decide) ?_
  refine p_12_thrown (pc := 2) 0 2 rfl fl_X12_138 ?_
  refine a_set (fun S1 eS1 => ?_)
  have h := h S1 eS1
  refine a_aload_n (pc := 5) 0 3 rfl rfl ?_
  refine a_iconst (pc := 6) 0 4 (v := nI 4) rfl (by decide) ?_
  obtain ⟨o2, h⟩ := h
  refine a_callVi (pc := 7) 0 5 (c_X12_bondsOf (S := S1) (nI 4) o2) rfl cv_X12_151 (by decide) rfl rfl rfl (rm rfl) ?_
  refine a_seti (fun v3 ev3 => ?_)
  have h := h v3 ev3
  refine a_istore_n (pc := 10) 0 6 (ls2 := [some (vr 12 0), some (vi v3), none]) rfl rfl (by decide) rfl ?_
  refine a_iconst (pc := 11) 0 7 (v := 0) rfl (by decide) ?_
  refine a_istore_n (pc := 12) 0 8 (ls2 := [some (vr 12 0), some (vi v3), some (vi 0)]) rfl rfl (by decide) rfl ?_
  have hb_j4 := h
  have L13_7 : ∀ (m_j4 j4 : Nat), j4 + m_j4 = 4 → ∀ (σ5 : Int32), iter (b13_X12_owed S1) v3 j4 = σ5 → BW O G fdX12_owed 0 0 (QV O G 0 0 PP) S1 13 [some (vr 12 0), some (vi σ5), some (vi (nI j4))] [] := by
    intro m_j4
    induction m_j4 with
    | zero =>
      intro j4 hj_j4 σ5 eσ5
      have hn_j4 : j4 = 4 := by omega
      rw [hn_j4] at eσ5
      refine a_iload_n (pc := 13) 0 9 rfl rfl ?_
      refine a_iconst (pc := 14) 0 10 (v := nI 4) rfl (by decide) ?_
      refine a_icmp_ge_t (pc := 15) (tgt := 32) 0 11 rfl (by decide) (nI_le (by omega) (by omega)) ?_
      refine a_iload_n (pc := 32) 0 20 rfl rfl ?_
      exact a_iret (pc := 33) 0 21 rfl rfl (hP _ _ (by unfold f_X12_owed; exact (lt_eq eS1).trans ((lt_eq ev3).trans (lt_eq eσ5))))
    | succ m_j4 ih_j4 =>
      intro j4 hj_j4 σ5 eσ5
      have h := hb_j4 j4 (by omega) σ5 eσ5
      refine a_iload_n (pc := 13) 0 9 rfl rfl ?_
      refine a_iconst (pc := 14) 0 10 (v := nI 4) rfl (by decide) ?_
      refine a_icmp_ge_f (pc := 15) (tgt := 32) 0 11 rfl (nI_ge (by omega) (by omega)) (by decide) ?_
      refine a_iload_n (pc := 18) 0 12 rfl rfl ?_
      refine a_aload_n (pc := 19) 0 13 rfl rfl ?_
      refine a_iload_n (pc := 20) 0 14 rfl rfl ?_
      have o6 := h
      refine a_callVi (pc := 21) 0 15 (c_X12_bondsOf (S := S1) (nI j4) o6) rfl cv_X12_151 (by decide) rfl rfl rfl (rm rfl) ?_
      refine a_seti (fun v7 ev7 => ?_)
      refine a_iadd (pc := 24) 0 16 rfl ?_
      refine a_istore_n (pc := 25) 0 17 (ls2 := [some (vr 12 0), some (vi (σ5 + v7)), some (vi (nI j4))]) rfl rfl (by decide) rfl ?_
      refine a_iinc (pc := 26) 0 18 (v := nI (j4 + 1)) (ls2 := [some (vr 12 0), some (vi (σ5 + v7)), some (vi (nI (j4 + 1)))]) rfl rfl (iinc1 _) (by decide) rfl ?_
      refine a_goto (pc := 29) (tgt := 13) 0 19 rfl (by decide) ?_
      exact ih_j4 (j4 + 1) (by omega) (σ5 + v7) (by rw [iter_succ, eσ5]; unfold b13_X12_owed; exact (lt_eq ev7))
  exact L13_7 (4) 0 (by omega) v3 rfl
theorem c_X12_owed {S : Mem}    (h : ok_X12_owed S ) : Cts mdX12_owed 1 23 [vr 12 0] S (Is (some (vi (f_X12_owed S ).1)) ((f_X12_owed S ).2)) := Cts.of dtX12_owed (by decide +kernel) rfl rfl (Nat.le_of_ble_eq_true rfl) rfl (fun O G => w_X12_owed  h (fun _ _ h9 => ⟨by rw [h9], by rw [h9]⟩))
def f_X12_foreign (S : Mem)  : Int32 × Mem := lt ((S.1, upd2 S.2.1 kThrown 0 0, S.2.2)) (fun (S1 : Mem) => (S1.2.1 kForeign 0, S1))
abbrev fdX12_foreign : FD := (mdX12_foreign, [], 0, 0, 0, 0)
set_option maxRecDepth 100000 in
set_option maxHeartbeats 4000000 in
theorem w_X12_foreign {O : Om} {G : Cx} {S : Mem} {PP : Option AV → Mem → Prop}    (hP : ∀ x9 S9, f_X12_foreign S  = (x9, S9) → PP (some (vi x9)) S9) : BW O G fdX12_foreign 0 0 (QV O G 0 0 PP) S 0 [some (vr 12 0)] [] := by
  refine a_aload_n (pc := 0) 0 0 rfl rfl ?_
  refine a_iconst (pc := 1) 0 1 (v := 0) rfl (by decide) ?_
  refine p_12_thrown (pc := 2) 0 2 rfl fl_X12_138 ?_
  refine a_set (fun S1 eS1 => ?_)
  refine a_aload_n (pc := 5) 0 3 rfl rfl ?_
  refine g_12_foreign (pc := 6) 0 4 rfl fl_X12_269 ?_
  exact a_iret (pc := 9) 0 5 rfl rfl (hP _ _ (by unfold f_X12_foreign; exact lt_eq eS1))
theorem c_X12_foreign {S : Mem}    : Cts mdX12_foreign 0 0 [vr 12 0] S (Is (some (vi (f_X12_foreign S ).1)) ((f_X12_foreign S ).2)) := Cts.of dtX12_foreign (by decide +kernel) rfl rfl (Nat.le_of_ble_eq_true rfl) rfl (fun O G => w_X12_foreign  (fun _ _ h9 => ⟨by rw [h9], by rw [h9]⟩))
def f_X12_central (S : Mem)  : Int32 × Mem := lt ((S.1, upd2 S.2.1 kThrown 0 0, S.2.2)) (fun (S1 : Mem) => lt (f_X12_centralCapital S1 ) (fun (v3 : Int32) => (v3, S1)))
def ok_X12_central (S : Mem)  : Prop := ((∀ S1 : Mem, ((S.1, upd2 S.2.1 kThrown 0 0, S.2.2)) = S1 → ((ok_X12_centralCapital S1 ))))
abbrev fdX12_central : FD := (mdX12_central, [], 2, 45, 0, 0)
set_option maxRecDepth 100000 in
set_option maxHeartbeats 4000000 in
theorem w_X12_central {O : Om} {G : Cx} {S : Mem} {PP : Option AV → Mem → Prop}    (h : ok_X12_central S ) (hP : ∀ x9 S9, f_X12_central S  = (x9, S9) → PP (some (vi x9)) S9) : BW O G fdX12_central 0 0 (QV O G 0 0 PP) S 0 [some (vr 12 0)] [] := by
  refine a_aload_n (pc := 0) 0 0 rfl rfl ?_
  refine a_iconst (pc := 1) 0 1 (v := 0) rfl (by decide) ?_
  refine p_12_thrown (pc := 2) 0 2 rfl fl_X12_138 ?_
  refine a_set (fun S1 eS1 => ?_)
  have h := h S1 eS1
  refine a_aload_n (pc := 5) 0 3 rfl rfl ?_
  have o2 := h
  refine a_callVi (pc := 6) 0 4 (c_X12_centralCapital (S := S1)  o2) rfl cv_X12_318 (by decide) rfl rfl rfl (rm rfl) ?_
  refine a_seti (fun v3 ev3 => ?_)
  exact a_iret (pc := 9) 0 5 rfl rfl (hP _ _ (by unfold f_X12_central; exact (lt_eq eS1).trans (lt_eq ev3)))
theorem c_X12_central {S : Mem}    (h : ok_X12_central S ) : Cts mdX12_central 2 45 [vr 12 0] S (Is (some (vi (f_X12_central S ).1)) ((f_X12_central S ).2)) := Cts.of dtX12_central (by decide +kernel) rfl rfl (Nat.le_of_ble_eq_true rfl) rfl (fun O G => w_X12_central  h (fun _ _ h9 => ⟨by rw [h9], by rw [h9]⟩))
def f_X12_centralAnew (S : Mem)  : Int32 × Mem := lt ((S.1, upd2 S.2.1 kThrown 0 0, S.2.2)) (fun (S1 : Mem) => lt (f_X12_centralCapital S1 ) (fun (v3 : Int32) => (v3, S1)))
def ok_X12_centralAnew (S : Mem)  : Prop := ((∀ S1 : Mem, ((S.1, upd2 S.2.1 kThrown 0 0, S.2.2)) = S1 → ((ok_X12_centralCapital S1 ))))
abbrev fdX12_centralAnew : FD := (mdX12_centralAnew, [], 2, 45, 0, 0)
set_option maxRecDepth 100000 in
set_option maxHeartbeats 4000000 in
theorem w_X12_centralAnew {O : Om} {G : Cx} {S : Mem} {PP : Option AV → Mem → Prop}    (h : ok_X12_centralAnew S ) (hP : ∀ x9 S9, f_X12_centralAnew S  = (x9, S9) → PP (some (vi x9)) S9) : BW O G fdX12_centralAnew 0 0 (QV O G 0 0 PP) S 0 [some (vr 12 0)] [] := by
  refine a_aload_n (pc := 0) 0 0 rfl rfl ?_
  refine a_iconst (pc := 1) 0 1 (v := 0) rfl (by decide) ?_
  refine p_12_thrown (pc := 2) 0 2 rfl fl_X12_138 ?_
  refine a_set (fun S1 eS1 => ?_)
  have h := h S1 eS1
  refine a_aload_n (pc := 5) 0 3 rfl rfl ?_
  have o2 := h
  refine a_callVi (pc := 6) 0 4 (c_X12_centralCapital (S := S1)  o2) rfl cv_X12_318 (by decide) rfl rfl rfl (rm rfl) ?_
  refine a_seti (fun v3 ev3 => ?_)
  exact a_iret (pc := 9) 0 5 rfl rfl (hP _ _ (by unfold f_X12_centralAnew; exact (lt_eq eS1).trans (lt_eq ev3)))
theorem c_X12_centralAnew {S : Mem}    (h : ok_X12_centralAnew S ) : Cts mdX12_centralAnew 2 45 [vr 12 0] S (Is (some (vi (f_X12_centralAnew S ).1)) ((f_X12_centralAnew S ).2)) := Cts.of dtX12_centralAnew (by decide +kernel) rfl rfl (Nat.le_of_ble_eq_true rfl) rfl (fun O G => w_X12_centralAnew  h (fun _ _ h9 => ⟨by rw [h9], by rw [h9]⟩))
def b9_X12_money (S1 : Mem) (j2 : Nat) (σ3 : Int32) : Int32 := σ3 + (((S1.2.1 kAccounts j2) + (S1.2.1 kNotes j2)) - (S1.2.1 kForged j2))
def f_X12_money (S : Mem)  : Int32 × Mem := lt ((S.1, upd2 S.2.1 kThrown 0 0, S.2.2)) (fun (S1 : Mem) => lt (iter (b9_X12_money S1) 0 (16)) (fun (σ3 : Int32) => (σ3, S1)))
abbrev fdX12_money : FD := (mdX12_money, [], 0, 0, 0, 0)
set_option maxRecDepth 100000 in
set_option maxHeartbeats 4000000 in
theorem w_X12_money {O : Om} {G : Cx} {S : Mem} {PP : Option AV → Mem → Prop}    (hP : ∀ x9 S9, f_X12_money S  = (x9, S9) → PP (some (vi x9)) S9) : BW O G fdX12_money 0 0 (QV O G 0 0 PP) S 0 [some (vr 12 0), none, none] [] := by
  refine a_aload_n (pc := 0) 0 0 rfl rfl ?_
  refine a_iconst (pc := 1) 0 1 (v := 0) rfl (by decide) ?_
  refine p_12_thrown (pc := 2) 0 2 rfl fl_X12_138 ?_
  refine a_set (fun S1 eS1 => ?_)
  refine a_iconst (pc := 5) 0 3 (v := 0) rfl (by decide) ?_
  refine a_istore_n (pc := 6) 0 4 (ls2 := [some (vr 12 0), some (vi 0), none]) rfl rfl (by decide) rfl ?_
  refine a_iconst (pc := 7) 0 5 (v := 0) rfl (by decide) ?_
  refine a_istore_n (pc := 8) 0 6 (ls2 := [some (vr 12 0), some (vi 0), some (vi 0)]) rfl rfl (by decide) rfl ?_
  have L9_3 : ∀ (m_j2 j2 : Nat), j2 + m_j2 = 16 → ∀ (σ3 : Int32), iter (b9_X12_money S1) 0 j2 = σ3 → BW O G fdX12_money 0 0 (QV O G 0 0 PP) S1 9 [some (vr 12 0), some (vi σ3), some (vi (nI j2))] [] := by
    intro m_j2
    induction m_j2 with
    | zero =>
      intro j2 hj_j2 σ3 eσ3
      have hn_j2 : j2 = 16 := by omega
      rw [hn_j2] at eσ3
      refine a_iload_n (pc := 9) 0 7 rfl rfl ?_
      refine a_bipush (pc := 10) 0 8 (v := nI 16) rfl (by decide) ?_
      refine a_icmp_ge_t (pc := 12) (tgt := 44) 0 9 rfl (by decide) (nI_le (by omega) (by omega)) ?_
      refine a_iload_n (pc := 44) 0 29 rfl rfl ?_
      exact a_iret (pc := 45) 0 30 rfl rfl (hP _ _ (by unfold f_X12_money; exact (lt_eq eS1).trans (lt_eq eσ3)))
    | succ m_j2 ih_j2 =>
      intro j2 hj_j2 σ3 eσ3
      refine a_iload_n (pc := 9) 0 7 rfl rfl ?_
      refine a_bipush (pc := 10) 0 8 (v := nI 16) rfl (by decide) ?_
      refine a_icmp_ge_f (pc := 12) (tgt := 44) 0 9 rfl (nI_ge (by omega) (by omega)) (by decide) ?_
      refine a_iload_n (pc := 15) 0 10 rfl rfl ?_
      refine a_aload_n (pc := 16) 0 11 rfl rfl ?_
      refine g_12_accounts (pc := 17) 0 12 rfl fl_X12_26 ?_
      refine a_iload_n (pc := 20) 0 13 rfl rfl ?_
      refine e_27 (pc := 21) 0 14 (j2) rfl rfl (by omega) ?_
      refine a_aload_n (pc := 22) 0 15 rfl rfl ?_
      refine g_12_notes (pc := 23) 0 16 rfl fl_X12_16 ?_
      refine a_iload_n (pc := 26) 0 17 rfl rfl ?_
      refine e_24 (pc := 27) 0 18 (j2) rfl rfl (by omega) ?_
      refine a_iadd (pc := 28) 0 19 rfl ?_
      refine a_aload_n (pc := 29) 0 20 rfl rfl ?_
      refine g_12_forged (pc := 30) 0 21 rfl fl_X12_20 ?_
      refine a_iload_n (pc := 33) 0 22 rfl rfl ?_
      refine e_25 (pc := 34) 0 23 (j2) rfl rfl (by omega) ?_
      refine a_isub (pc := 35) 0 24 rfl ?_
      refine a_iadd (pc := 36) 0 25 rfl ?_
      refine a_istore_n (pc := 37) 0 26 (ls2 := [some (vr 12 0), some (vi (σ3 + (((S1.2.1 kAccounts j2) + (S1.2.1 kNotes j2)) - (S1.2.1 kForged j2)))), some (vi (nI j2))]) rfl rfl (by decide) rfl ?_
      refine a_iinc (pc := 38) 0 27 (v := nI (j2 + 1)) (ls2 := [some (vr 12 0), some (vi (σ3 + (((S1.2.1 kAccounts j2) + (S1.2.1 kNotes j2)) - (S1.2.1 kForged j2)))), some (vi (nI (j2 + 1)))]) rfl rfl (iinc1 _) (by decide) rfl ?_
      refine a_goto (pc := 41) (tgt := 9) 0 28 rfl (by decide) ?_
      exact ih_j2 (j2 + 1) (by omega) (σ3 + (((S1.2.1 kAccounts j2) + (S1.2.1 kNotes j2)) - (S1.2.1 kForged j2))) (by rw [iter_succ, eσ3]; unfold b9_X12_money; exact rfl)
  exact L9_3 (16) 0 (by omega) 0 rfl
theorem c_X12_money {S : Mem}    : Cts mdX12_money 0 0 [vr 12 0] S (Is (some (vi (f_X12_money S ).1)) ((f_X12_money S ).2)) := Cts.of dtX12_money (by decide +kernel) rfl rfl (Nat.le_of_ble_eq_true rfl) rfl (fun O G => w_X12_money  (fun _ _ h9 => ⟨by rw [h9], by rw [h9]⟩))
def f_X12_price (S : Mem) (p1 : Int32) : Int32 × Mem := lt (f_X12_isFirm S p1) (fun (v1 : Int32) => lt (if v1 = 0 then (1) else (0)) (fun (v3 : Int32) => lt ((f_X12_holds S v3).2) (fun (S4 : Mem) => lt ((f_X12_holds S v3).1) (fun (v5 : Int32) => lt (if v5 = 0 then (0) else (S4.2.1 kPrices (ix p1))) (fun (v8 : Int32) => (v8, S4))))))
def ok_X12_price (S : Mem) (p1 : Int32) : Prop := ((∀ v1 : Int32, (f_X12_isFirm S p1) = v1 → ((∀ v3 : Int32, (if v1 = 0 then (1) else (0)) = v3 → ((∀ S4 : Mem, ((f_X12_holds S v3).2) = S4 → ((∀ v5 : Int32, ((f_X12_holds S v3).1) = v5 → (((¬ (v5 = 0)) → ((inb p1 16))))))))))))
abbrev fdX12_price : FD := (mdX12_price, [], 2, 42, 0, 0)
set_option maxRecDepth 100000 in
set_option maxHeartbeats 4000000 in
theorem w_X12_price {O : Om} {G : Cx} {S : Mem} {PP : Option AV → Mem → Prop} (p1 : Int32)   (h : ok_X12_price S p1) (hP : ∀ x9 S9, f_X12_price S p1 = (x9, S9) → PP (some (vi x9)) S9) : BW O G fdX12_price 0 0 (QV O G 0 0 PP) S 0 [some (vr 12 0), some (vi p1)] [] := by
  refine a_aload_n (pc := 0) 0 0 rfl rfl ?_
  refine a_iload_n (pc := 1) 0 1 rfl rfl ?_
  refine a_callSi (pc := 2) 0 2 (c_X12_isFirm (S := S) p1) rfl cs_X12_266 rfl (rm rfl) ?_
  refine a_seti (fun v1 ev1 => ?_)
  have h := h v1 ev1
  have J13_8 : ∀ (v3 : Int32) (ev3 : (if v1 = 0 then (1) else (0)) = v3), BW O G fdX12_price 0 0 (QV O G 0 0 PP) S 13 [some (vr 12 0), some (vi p1)] [vi v3, vr 12 0] := by
    intro v3 ev3
    have h := h v3 ev3
    refine a_callVi (pc := 13) 0 7 (c_X12_holds (S := S) v3) rfl cv_X12_175 (by decide) rfl rfl rfl (rm rfl) ?_
    refine a_set (fun S4 eS4 => ?_)
    have h := h S4 eS4
    refine a_seti (fun v5 ev5 => ?_)
    have h := h v5 ev5
    have J29_9 : ∀ (v8 : Int32) (ev8 : (if v5 = 0 then (0) else (S4.2.1 kPrices (ix p1))) = v8), BW O G fdX12_price 0 0 (QV O G 0 0 PP) S4 29 [some (vr 12 0), some (vi p1)] [vi v8] := by
      intro v8 ev8
      exact a_iret (pc := 29) 0 15 rfl rfl (hP _ _ (by unfold f_X12_price; exact (lt_eq ev1).trans ((lt_eq ev3).trans ((lt_eq eS4).trans ((lt_eq ev5).trans (lt_eq ev8))))))
    refine a_if_eq (pc := 16) (tgt := 28) 0 8 rfl (by decide) (fun c16_5 => ?_) (fun c16_5 => ?_)
    · refine a_iconst (pc := 28) 0 14 (v := 0) rfl (by decide) ?_
      exact J29_9 _ (by exact (if_pos c16_5))
    · have h := h c16_5
      refine a_aload_n (pc := 19) 0 9 rfl rfl ?_
      refine g_12_prices (pc := 20) 0 10 rfl fl_X12_44 ?_
      refine a_iload_n (pc := 23) 0 11 rfl rfl ?_
      have o7 := h
      refine e_33 (pc := 24) 0 12 (ix p1) rfl o7.1 o7.2 ?_
      refine a_goto (pc := 25) (tgt := 29) 0 13 rfl (by decide) ?_
      exact J29_9 _ (by exact (if_neg c16_5))
  refine a_if_eq (pc := 5) (tgt := 12) 0 3 rfl (by decide) (fun c5_1 => ?_) (fun c5_1 => ?_)
  · refine a_iconst (pc := 12) 0 6 (v := 1) rfl (by decide) ?_
    exact J13_8 _ (by exact (if_pos c5_1))
  · refine a_iconst (pc := 8) 0 4 (v := 0) rfl (by decide) ?_
    refine a_goto (pc := 9) (tgt := 13) 0 5 rfl (by decide) ?_
    exact J13_8 _ (by exact (if_neg c5_1))
theorem c_X12_price {S : Mem} (p1 : Int32)   (h : ok_X12_price S p1) : Cts mdX12_price 2 42 [vr 12 0, vi p1] S (Is (some (vi (f_X12_price S p1).1)) ((f_X12_price S p1).2)) := Cts.of dtX12_price (by decide +kernel) rfl rfl (Nat.le_of_ble_eq_true rfl) rfl (fun O G => w_X12_price p1 h (fun _ _ h9 => ⟨by rw [h9], by rw [h9]⟩))
def b31_X12_sales (p1 : Int32) (p2 : Int32) (S4 : Mem) (j7 : Nat) (σ8 : Int32) : Int32 := lt (if (S4.2.1 kAreGoods j7) = 0 then (0) else (if (S4.2.1 kStates j7) = 1 then (if (S4.2.1 kToldDays j7) = p1 then (if p2 = 0 then (if (S4.2.1 kDoneDays j7) = p1 then (1) else (0)) else (1)) else (0)) else (0))) (fun (v19 : Int32) => lt (if v19 = 0 then (0) else (S4.2.1 kAmounts j7)) (fun (v22 : Int32) => σ8 + v22))
def f_X12_sales (S : Mem) (p1 : Int32) (p2 : Int32) : Int32 × Mem := lt (f_X12_in S p1 0 (S.2.1 kDays 0)) (fun (v1 : Int32) => lt (if v1 = 0 then (1) else (0)) (fun (v3 : Int32) => lt ((f_X12_holds S v3).2) (fun (S4 : Mem) => lt ((f_X12_holds S v3).1) (fun (v5 : Int32) => if v5 = 0 then ((0, S4)) else (lt (iter (b31_X12_sales p1 p2 S4) 0 (ix (S4.2.1 kPayments 0))) (fun (σ8 : Int32) => (σ8, S4)))))))
def ok_X12_sales (S : Mem) (p1 : Int32) (p2 : Int32) : Prop := ((∀ v1 : Int32, (f_X12_in S p1 0 (S.2.1 kDays 0)) = v1 → ((∀ v3 : Int32, (if v1 = 0 then (1) else (0)) = v3 → ((∀ S4 : Mem, ((f_X12_holds S v3).2) = S4 → ((∀ v5 : Int32, ((f_X12_holds S v3).1) = v5 → (((¬ (v5 = 0)) → ((∀ j7 : Nat, j7 ≤ ix (S4.2.1 kPayments 0) → ∀ σ8 : Int32, iter (b31_X12_sales p1 p2 S4) 0 j7 = σ8 → S4.2.1 kPayments 0 = nI (ix (S4.2.1 kPayments 0))) ∧ (∀ j7 : Nat, j7 < ix (S4.2.1 kPayments 0) → ∀ σ8 : Int32, iter (b31_X12_sales p1 p2 S4) 0 j7 = σ8 → ((j7 < 200) ∧ ((¬ ((S4.2.1 kAreGoods j7) = 0)) → ((j7 < 200) ∧ (((S4.2.1 kStates j7) = 1) → ((j7 < 200) ∧ (((S4.2.1 kToldDays j7) = p1) → (((p2 = 0) → ((j7 < 200))))))))) ∧ (∀ v19 : Int32, (if (S4.2.1 kAreGoods j7) = 0 then (0) else (if (S4.2.1 kStates j7) = 1 then (if (S4.2.1 kToldDays j7) = p1 then (if p2 = 0 then (if (S4.2.1 kDoneDays j7) = p1 then (1) else (0)) else (1)) else (0)) else (0))) = v19 → (((¬ (v19 = 0)) → ((j7 < 200))))))))))))))))))
abbrev fdX12_sales : FD := (mdX12_sales, [], 1, 22, 0, 0)
set_option maxRecDepth 100000 in
set_option maxHeartbeats 4000000 in
theorem w_X12_sales {O : Om} {G : Cx} {S : Mem} {PP : Option AV → Mem → Prop} (p1 : Int32) (p2 : Int32)  (hb_p2 : p2 = 0 ∨ p2 = 1) (h : ok_X12_sales S p1 p2) (hP : ∀ x9 S9, f_X12_sales S p1 p2 = (x9, S9) → PP (some (vi x9)) S9) : BW O G fdX12_sales 0 0 (QV O G 0 0 PP) S 0 [some (vr 12 0), some (vi p1), some (vi p2), none, none, none] [] := by
  refine a_aload_n (pc := 0) 0 0 rfl rfl ?_
  refine a_iload_n (pc := 1) 0 1 rfl rfl ?_
  refine a_iconst (pc := 2) 0 2 (v := 0) rfl (by decide) ?_
  refine a_aload_n (pc := 3) 0 3 rfl rfl ?_
  refine g_12_days (pc := 4) 0 4 rfl fl_X12_196 ?_
  refine a_callSi (pc := 7) 0 5 (c_X12_in (S := S) p1 0 (S.2.1 kDays 0)) rfl cs_X12_141 rfl (rm rfl) ?_
  refine a_seti (fun v1 ev1 => ?_)
  have h := h v1 ev1
  have J18_22 : ∀ (v3 : Int32) (ev3 : (if v1 = 0 then (1) else (0)) = v3), BW O G fdX12_sales 0 0 (QV O G 0 0 PP) S 18 [some (vr 12 0), some (vi p1), some (vi p2), none, none, none] [vi v3, vr 12 0] := by
    intro v3 ev3
    have h := h v3 ev3
    refine a_callVi (pc := 18) 0 10 (c_X12_holds (S := S) v3) rfl cv_X12_175 (by decide) rfl rfl rfl (rm rfl) ?_
    refine a_set (fun S4 eS4 => ?_)
    have h := h S4 eS4
    refine a_seti (fun v5 ev5 => ?_)
    have h := h v5 ev5
    refine a_if_ne (pc := 21) (tgt := 26) 0 11 rfl (by decide) (fun c21_5 => ?_) (fun c21_5 => ?_)
    · have h := h c21_5
      refine a_iconst (pc := 26) 0 14 (v := 0) rfl (by decide) ?_
      refine a_istore_n (pc := 27) 0 15 (ls2 := [some (vr 12 0), some (vi p1), some (vi p2), some (vi 0), none, none]) rfl rfl (by decide) rfl ?_
      refine a_iconst (pc := 28) 0 16 (v := 0) rfl (by decide) ?_
      refine a_istore (pc := 29) 0 17 (ls2 := [some (vr 12 0), some (vi p1), some (vi p2), some (vi 0), some (vi 0), none]) rfl (by decide) rfl ?_
      obtain ⟨o9, hb_j7⟩ := h
      have nlt_j7 := ix_lt (S4.2.1 kPayments 0)
      have L31_23 : ∀ (m_j7 j7 : Nat), j7 + m_j7 = ix (S4.2.1 kPayments 0) → ∀ (σ8 : Int32), iter (b31_X12_sales p1 p2 S4) 0 j7 = σ8 → BW O G fdX12_sales 0 0 (QV O G 0 0 PP) S4 31 [some (vr 12 0), some (vi p1), some (vi p2), some (vi σ8), some (vi (nI j7)), none] [] := by
        intro m_j7
        induction m_j7 with
        | zero =>
          intro j7 hj_j7 σ8 eσ8
          have o9 := o9 j7 (by omega) σ8 eσ8
          have hn_j7 : j7 = ix (S4.2.1 kPayments 0) := by omega
          rw [hn_j7] at eσ8
          refine a_iload (pc := 31) 0 18 rfl rfl ?_
          refine a_aload_n (pc := 33) 0 19 rfl rfl ?_
          refine g_12_payments (pc := 34) 0 20 rfl fl_X12_187 ?_
          refine a_icmp_ge_t (pc := 37) (tgt := 119) 0 21 rfl (by decide) (bd_t (o9) (by omega)) ?_
          refine a_iload_n (pc := 119) 1 16 rfl rfl ?_
          exact a_iret (pc := 120) 1 17 rfl rfl (hP _ _ (by unfold f_X12_sales; exact (lt_eq ev1).trans ((lt_eq ev3).trans ((lt_eq eS4).trans ((lt_eq ev5).trans ((if_neg c21_5).trans (lt_eq eσ8)))))))
        | succ m_j7 ih_j7 =>
          intro j7 hj_j7 σ8 eσ8
          have o9 := o9 j7 (by omega) σ8 eσ8
          have h := hb_j7 j7 (by omega) σ8 eσ8
          refine a_iload (pc := 31) 0 18 rfl rfl ?_
          refine a_aload_n (pc := 33) 0 19 rfl rfl ?_
          refine g_12_payments (pc := 34) 0 20 rfl fl_X12_187 ?_
          refine a_icmp_ge_f (pc := 37) (tgt := 119) 0 21 rfl (bd_f (o9) (by omega)) (by decide) ?_
          refine a_aload_n (pc := 40) 0 22 rfl rfl ?_
          refine g_12_areGoods (pc := 41) 0 23 rfl fl_X12_102 ?_
          refine a_iload (pc := 44) 0 24 rfl rfl ?_
          obtain ⟨o10, h⟩ := h
          refine e_52 (pc := 46) 0 25 (j7) rfl rfl o10 ?_
          obtain ⟨hr0, h⟩ := h
          have J92_24 : ∀ (v19 : Int32) (ev19 : (if (S4.2.1 kAreGoods j7) = 0 then (0) else (if (S4.2.1 kStates j7) = 1 then (if (S4.2.1 kToldDays j7) = p1 then (if p2 = 0 then (if (S4.2.1 kDoneDays j7) = p1 then (1) else (0)) else (1)) else (0)) else (0))) = v19), BW O G fdX12_sales 0 0 (QV O G 0 0 PP) S4 92 [some (vr 12 0), some (vi p1), some (vi p2), some (vi σ8), some (vi (nI j7)), none] [vi v19] := by
            intro v19 ev19
            have h := h v19 ev19
            refine a_istore (pc := 92) 1 2 (ls2 := [some (vr 12 0), some (vi p1), some (vi p2), some (vi σ8), some (vi (nI j7)), some (vi v19)]) rfl (by decide) rfl ?_
            refine a_iload_n (pc := 94) 1 3 rfl rfl ?_
            refine a_iload (pc := 95) 1 4 rfl rfl ?_
            have J111_25 : ∀ (v22 : Int32) (ev22 : (if v19 = 0 then (0) else (S4.2.1 kAmounts j7)) = v22), BW O G fdX12_sales 0 0 (QV O G 0 0 PP) S4 111 [some (vr 12 0), some (vi p1), some (vi p2), some (vi σ8), some (vi (nI j7)), some (vi v19)] [vi v22, vi σ8] := by
              intro v22 ev22
              refine a_iadd (pc := 111) 1 12 rfl ?_
              refine a_istore_n (pc := 112) 1 13 (ls2 := [some (vr 12 0), some (vi p1), some (vi p2), some (vi (σ8 + v22)), some (vi (nI j7)), some (vi v19)]) rfl rfl (by decide) rfl ?_
              refine a_iinc (pc := 113) 1 14 (v := nI (j7 + 1)) (ls2 := [some (vr 12 0), some (vi p1), some (vi p2), some (vi (σ8 + v22)), some (vi (nI (j7 + 1))), some (vi v19)]) rfl rfl (iinc1 _) (by decide) rfl ?_
              refine a_goto (pc := 116) (tgt := 31) 1 15 rfl (by decide) ?_
              refine a_drop (ls2 := [some (vr 12 0), some (vi p1), some (vi p2), some (vi (σ8 + v22)), some (vi (nI (j7 + 1))), none]) (⟨rfl, rfl, rfl, rfl, rfl, trivial⟩) ?_
              exact ih_j7 (j7 + 1) (by omega) (σ8 + v22) (by rw [iter_succ, eσ8]; unfold b31_X12_sales; exact ((lt_eq ev19).trans (lt_eq ev22)))
            refine a_if_eq (pc := 97) (tgt := 110) 1 5 rfl (by decide) (fun c97_19 => ?_) (fun c97_19 => ?_)
            · refine a_iconst (pc := 110) 1 11 (v := 0) rfl (by decide) ?_
              exact J111_25 _ (by exact (if_pos c97_19))
            · have h := h c97_19
              refine a_aload_n (pc := 100) 1 6 rfl rfl ?_
              refine g_12_amounts (pc := 101) 1 7 rfl fl_X12_96 ?_
              refine a_iload (pc := 104) 1 8 rfl rfl ?_
              have o21 := h
              refine e_50 (pc := 106) 1 9 (j7) rfl rfl o21 ?_
              refine a_goto (pc := 107) (tgt := 111) 1 10 rfl (by decide) ?_
              exact J111_25 _ (by exact (if_neg c97_19))
          have h := hr0
          refine a_if_eq (pc := 47) (tgt := 91) 0 26 rfl (by decide) (fun c47_10 => ?_) (fun c47_10 => ?_)
          · refine a_iconst (pc := 91) 1 1 (v := 0) rfl (by decide) ?_
            exact J92_24 _ (by exact (if_pos c47_10))
          · have h := h c47_10
            refine a_aload_n (pc := 50) 0 27 rfl rfl ?_
            refine g_12_states (pc := 51) 0 28 rfl fl_X12_99 ?_
            refine a_iload (pc := 54) 0 29 rfl rfl ?_
            obtain ⟨o12, h⟩ := h
            refine e_51 (pc := 56) 0 30 (j7) rfl rfl o12 ?_
            refine a_iconst (pc := 57) 0 31 (v := 1) rfl (by decide) ?_
            refine a_icmp_ne (pc := 58) (tgt := 91) 0 32 rfl (by decide) (fun c58_12 => ?_) (fun c58_12 => ?_)
            · refine a_iconst (pc := 91) 1 1 (v := 0) rfl (by decide) ?_
              exact J92_24 _ (by exact ((if_neg c47_10).trans (if_neg c58_12)))
            · have h := h c58_12
              refine a_aload_n (pc := 61) 0 33 rfl rfl ?_
              refine g_12_toldDays (pc := 62) 0 34 rfl fl_X12_105 ?_
              refine a_iload (pc := 65) 0 35 rfl rfl ?_
              obtain ⟨o14, h⟩ := h
              refine e_53 (pc := 67) 0 36 (j7) rfl rfl o14 ?_
              refine a_iload_n (pc := 68) 0 37 rfl rfl ?_
              refine a_icmp_ne (pc := 69) (tgt := 91) 0 38 rfl (by decide) (fun c69_14 => ?_) (fun c69_14 => ?_)
              · refine a_iconst (pc := 91) 1 1 (v := 0) rfl (by decide) ?_
                exact J92_24 _ (by exact ((if_neg c47_10).trans ((if_pos c58_12).trans (if_neg c69_14))))
              · have h := h c69_14
                refine a_iload_n (pc := 72) 0 39 rfl rfl ?_
                refine a_if_ne (pc := 73) (tgt := 87) 0 40 rfl (by decide) (fun c73_15 => ?_) (fun c73_15 => ?_)
                · refine a_iconst (pc := 87) 0 47 (v := 1) rfl (by decide) ?_
                  refine a_goto (pc := 88) (tgt := 92) 1 0 rfl (by decide) ?_
                  exact J92_24 _ (by exact ((if_neg c47_10).trans ((if_pos c58_12).trans ((if_pos c69_14).trans (if_neg c73_15)))))
                · have h := h c73_15
                  refine a_aload_n (pc := 76) 0 41 rfl rfl ?_
                  refine g_12_doneDays (pc := 77) 0 42 rfl fl_X12_108 ?_
                  refine a_iload (pc := 80) 0 43 rfl rfl ?_
                  have o17 := h
                  refine e_54 (pc := 82) 0 44 (j7) rfl rfl o17 ?_
                  refine a_iload_n (pc := 83) 0 45 rfl rfl ?_
                  refine a_icmp_ne (pc := 84) (tgt := 91) 0 46 rfl (by decide) (fun c84_17 => ?_) (fun c84_17 => ?_)
                  · refine a_iconst (pc := 91) 1 1 (v := 0) rfl (by decide) ?_
                    exact J92_24 _ (by exact ((if_neg c47_10).trans ((if_pos c58_12).trans ((if_pos c69_14).trans ((if_pos c73_15).trans (if_neg c84_17))))))
                  · refine a_iconst (pc := 87) 0 47 (v := 1) rfl (by decide) ?_
                    refine a_goto (pc := 88) (tgt := 92) 1 0 rfl (by decide) ?_
                    exact J92_24 _ (by exact ((if_neg c47_10).trans ((if_pos c58_12).trans ((if_pos c69_14).trans ((if_pos c73_15).trans (if_pos c84_17))))))
      exact L31_23 (ix (S4.2.1 kPayments 0)) 0 (by omega) 0 rfl
    · refine a_iconst (pc := 24) 0 12 (v := 0) rfl (by decide) ?_
      exact a_iret (pc := 25) 0 13 rfl rfl (hP _ _ (by unfold f_X12_sales; exact (lt_eq ev1).trans ((lt_eq ev3).trans ((lt_eq eS4).trans ((lt_eq ev5).trans (if_pos c21_5))))))
  refine a_if_eq (pc := 10) (tgt := 17) 0 6 rfl (by decide) (fun c10_1 => ?_) (fun c10_1 => ?_)
  · refine a_iconst (pc := 17) 0 9 (v := 1) rfl (by decide) ?_
    exact J18_22 _ (by exact (if_pos c10_1))
  · refine a_iconst (pc := 13) 0 7 (v := 0) rfl (by decide) ?_
    refine a_goto (pc := 14) (tgt := 18) 0 8 rfl (by decide) ?_
    exact J18_22 _ (by exact (if_neg c10_1))
theorem c_X12_sales {S : Mem} (p1 : Int32) (p2 : Int32)  (hb_p2 : p2 = 0 ∨ p2 = 1) (h : ok_X12_sales S p1 p2) : Cts mdX12_sales 1 22 [vr 12 0, vi p1, vi p2] S (Is (some (vi (f_X12_sales S p1 p2).1)) ((f_X12_sales S p1 p2).2)) := Cts.of dtX12_sales (by decide +kernel) rfl rfl (Nat.le_of_ble_eq_true rfl) rfl (fun O G => w_X12_sales p1 p2 hb_p2 h (fun _ _ h9 => ⟨by rw [h9], by rw [h9]⟩))
