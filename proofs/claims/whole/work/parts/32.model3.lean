def b2_X12_paysWages  (j1 : Nat) (σ2 : Mem) : Mem := lt (if (σ2.2.1 kFirms j1) = (-1) then (σ2) else (lt (f_X12_mayPay σ2 (σ2.2.1 kFirms j1) (nI j1) (σ2.2.1 kWages j1)) (fun (v5 : Int32) => if v5 = 0 then (lt ((σ2.1, upd2 σ2.2.1 kFirms j1 (-1), σ2.2.2)) (fun (S7 : Mem) => lt ((S7.1, upd2 S7.2.1 kWages j1 0, S7.2.2)) (fun (S8 : Mem) => S8))) else (lt ((f_X12_pays σ2 (σ2.2.1 kFirms j1) (nI j1) (σ2.2.1 kWages j1) 0).2) (fun (S10 : Mem) => lt ((f_X12_pays σ2 (σ2.2.1 kFirms j1) (nI j1) (σ2.2.1 kWages j1) 0).1) (fun (v11 : Int32) => S10)))))) (fun (S12 : Mem) => S12)
def f_X12_paysWages (S : Mem)  : Mem := lt (iter (b2_X12_paysWages) S (10)) (fun (σ2 : Mem) => σ2)
def ok_X12_paysWages (S : Mem)  : Prop := ((∀ j1 : Nat, j1 < 10 → ∀ σ2 : Mem, iter (b2_X12_paysWages) S j1 = σ2 → (((¬ ((σ2.2.1 kFirms j1) = (-1))) → ((ok_X12_mayPay σ2 (σ2.2.1 kFirms j1) (nI j1) (σ2.2.1 kWages j1)) ∧ (∀ v5 : Int32, (f_X12_mayPay σ2 (σ2.2.1 kFirms j1) (nI j1) (σ2.2.1 kWages j1)) = v5 → (((¬ (v5 = 0)) → ((ok_X12_pays σ2 (σ2.2.1 kFirms j1) (nI j1) (σ2.2.1 kWages j1) 0))))))))))
abbrev fdX12_paysWages : FD := (mdX12_paysWages, [], 2, 46, 0, 0)
set_option maxRecDepth 100000 in
set_option maxHeartbeats 4000000 in
theorem w_X12_paysWages {O : Om} {G : Cx} {S : Mem} {PP : Option AV → Mem → Prop}    (h : ok_X12_paysWages S ) (hP : ∀ S9, f_X12_paysWages S  = S9 → PP none S9) : BW O G fdX12_paysWages 0 0 (QV O G 0 0 PP) S 0 [some (vr 12 0), none, none] [] := by
  refine a_iconst (pc := 0) 0 0 (v := 0) rfl (by decide) ?_
  refine a_istore_n (pc := 1) 0 1 (ls2 := [some (vr 12 0), some (vi 0), none]) rfl rfl (by decide) rfl ?_
  have hb_j1 := h
  have L2_12 : ∀ (m_j1 j1 : Nat), j1 + m_j1 = 10 → ∀ (σ2 : Mem), iter (b2_X12_paysWages) S j1 = σ2 → BW O G fdX12_paysWages 0 0 (QV O G 0 0 PP) σ2 2 [some (vr 12 0), some (vi (nI j1)), none] [] := by
    intro m_j1
    induction m_j1 with
    | zero =>
      intro j1 hj_j1 σ2 eσ2
      have hn_j1 : j1 = 10 := by omega
      rw [hn_j1] at eσ2
      refine a_iload_n (pc := 2) 0 2 rfl rfl ?_
      refine a_bipush (pc := 3) 0 3 (v := nI 10) rfl (by decide) ?_
      refine a_icmp_ge_t (pc := 5) (tgt := 80) 0 4 rfl (by decide) (nI_le (by omega) (by omega)) ?_
      exact a_vret (pc := 80) 1 1 rfl rfl (hP _ (by unfold f_X12_paysWages; exact lt_eq eσ2))
    | succ m_j1 ih_j1 =>
      intro j1 hj_j1 σ2 eσ2
      have h := hb_j1 j1 (by omega) σ2 eσ2
      refine a_iload_n (pc := 2) 0 2 rfl rfl ?_
      refine a_bipush (pc := 3) 0 3 (v := nI 10) rfl (by decide) ?_
      refine a_icmp_ge_f (pc := 5) (tgt := 80) 0 4 rfl (nI_ge (by omega) (by omega)) (by decide) ?_
      refine a_aload_n (pc := 8) 0 5 rfl rfl ?_
      refine g_12_firms (pc := 9) 0 6 rfl fl_X12_32 ?_
      refine a_iload_n (pc := 12) 0 7 rfl rfl ?_
      refine e_29 (pc := 13) 0 8 (j1) rfl rfl (by omega) ?_
      refine a_iconst (pc := 14) 0 9 (v := (-1)) rfl (by decide) ?_
      have J74_13 : ∀ (S12 : Mem) (eS12 : (if (σ2.2.1 kFirms j1) = (-1) then (σ2) else (lt (f_X12_mayPay σ2 (σ2.2.1 kFirms j1) (nI j1) (σ2.2.1 kWages j1)) (fun (v5 : Int32) => if v5 = 0 then (lt ((σ2.1, upd2 σ2.2.1 kFirms j1 (-1), σ2.2.2)) (fun (S7 : Mem) => lt ((S7.1, upd2 S7.2.1 kWages j1 0, S7.2.2)) (fun (S8 : Mem) => S8))) else (lt ((f_X12_pays σ2 (σ2.2.1 kFirms j1) (nI j1) (σ2.2.1 kWages j1) 0).2) (fun (S10 : Mem) => lt ((f_X12_pays σ2 (σ2.2.1 kFirms j1) (nI j1) (σ2.2.1 kWages j1) 0).1) (fun (v11 : Int32) => S10)))))) = S12), BW O G fdX12_paysWages 0 0 (QV O G 0 0 PP) S12 74 [some (vr 12 0), some (vi (nI j1)), none] [] := by
        intro S12 eS12
        refine a_iinc (pc := 74) 0 47 (v := nI (j1 + 1)) (ls2 := [some (vr 12 0), some (vi (nI (j1 + 1))), none]) rfl rfl (iinc1 _) (by decide) rfl ?_
        refine a_goto (pc := 77) (tgt := 2) 1 0 rfl (by decide) ?_
        exact ih_j1 (j1 + 1) (by omega) S12 (by rw [iter_succ, eσ2]; unfold b2_X12_paysWages; exact (lt_eq eS12))
      refine a_icmp_eq (pc := 15) (tgt := 74) 0 10 rfl (by decide) (fun c15_2 => ?_) (fun c15_2 => ?_)
      · exact J74_13 _ (by exact (if_pos c15_2))
      · have h := h c15_2
        refine a_aload_n (pc := 18) 0 11 rfl rfl ?_
        refine a_aload_n (pc := 19) 0 12 rfl rfl ?_
        refine g_12_firms (pc := 20) 0 13 rfl fl_X12_32 ?_
        refine a_iload_n (pc := 23) 0 14 rfl rfl ?_
        refine e_29 (pc := 24) 0 15 (j1) rfl rfl (by omega) ?_
        refine a_iload_n (pc := 25) 0 16 rfl rfl ?_
        refine a_aload_n (pc := 26) 0 17 rfl rfl ?_
        refine g_12_wages (pc := 27) 0 18 rfl fl_X12_35 ?_
        refine a_iload_n (pc := 30) 0 19 rfl rfl ?_
        refine e_30 (pc := 31) 0 20 (j1) rfl rfl (by omega) ?_
        obtain ⟨o4, h⟩ := h
        refine a_callVi (pc := 32) 0 21 (c_X12_mayPay (S := σ2) (σ2.2.1 kFirms j1) (nI j1) (σ2.2.1 kWages j1) o4) rfl cv_X12_212 (by decide) rfl rfl rfl (rm rfl) ?_
        refine a_seti (fun v5 ev5 => ?_)
        have h := h v5 ev5
        refine a_if_eq (pc := 35) (tgt := 60) 0 22 rfl (by decide) (fun c35_5 => ?_) (fun c35_5 => ?_)
        · refine a_aload_n (pc := 60) 0 37 rfl rfl ?_
          refine g_12_firms (pc := 61) 0 38 rfl fl_X12_32 ?_
          refine a_iload_n (pc := 64) 0 39 rfl rfl ?_
          refine a_iconst (pc := 65) 0 40 (v := (-1)) rfl (by decide) ?_
          refine s_29 (pc := 66) 0 41 (j1) rfl rfl (by omega) ?_
          refine a_set (fun S7 eS7 => ?_)
          refine a_aload_n (pc := 67) 0 42 rfl rfl ?_
          refine g_12_wages (pc := 68) 0 43 rfl fl_X12_35 ?_
          refine a_iload_n (pc := 71) 0 44 rfl rfl ?_
          refine a_iconst (pc := 72) 0 45 (v := 0) rfl (by decide) ?_
          refine s_30 (pc := 73) 0 46 (j1) rfl rfl (by omega) ?_
          refine a_set (fun S8 eS8 => ?_)
          exact J74_13 _ (by exact ((if_neg c15_2).trans ((lt_eq ev5).trans ((if_pos c35_5).trans ((lt_eq eS7).trans (lt_eq eS8))))))
        · have h := h c35_5
          refine a_aload_n (pc := 38) 0 23 rfl rfl ?_
          refine a_aload_n (pc := 39) 0 24 rfl rfl ?_
          refine g_12_firms (pc := 40) 0 25 rfl fl_X12_32 ?_
          refine a_iload_n (pc := 43) 0 26 rfl rfl ?_
          refine e_29 (pc := 44) 0 27 (j1) rfl rfl (by omega) ?_
          refine a_iload_n (pc := 45) 0 28 rfl rfl ?_
          refine a_aload_n (pc := 46) 0 29 rfl rfl ?_
          refine g_12_wages (pc := 47) 0 30 rfl fl_X12_35 ?_
          refine a_iload_n (pc := 50) 0 31 rfl rfl ?_
          refine e_30 (pc := 51) 0 32 (j1) rfl rfl (by omega) ?_
          refine a_iconst (pc := 52) 0 33 (v := 0) rfl (by decide) ?_
          have o9 := h
          refine a_callVi (pc := 53) 0 34 (c_X12_pays (S := σ2) (σ2.2.1 kFirms j1) (nI j1) (σ2.2.1 kWages j1) 0 (Or.inl rfl) o9) rfl cv_X12_215 (by decide) rfl rfl rfl (rm rfl) ?_
          refine a_set (fun S10 eS10 => ?_)
          refine a_seti (fun v11 ev11 => ?_)
          refine a_istore_n (pc := 56) 0 35 (ls2 := [some (vr 12 0), some (vi (nI j1)), some (vi v11)]) rfl rfl (by decide) rfl ?_
          refine a_goto (pc := 57) (tgt := 74) 0 36 rfl (by decide) ?_
          refine a_drop (ls2 := [some (vr 12 0), some (vi (nI j1)), none]) (⟨rfl, rfl, trivial⟩) ?_
          exact J74_13 _ (by exact ((if_neg c15_2).trans ((lt_eq ev5).trans ((if_neg c35_5).trans ((lt_eq eS10).trans (lt_eq ev11))))))
  exact L2_12 (10) 0 (by omega) S rfl
theorem c_X12_paysWages {S : Mem}    (h : ok_X12_paysWages S ) : Cts mdX12_paysWages 2 46 [vr 12 0] S (Is none (f_X12_paysWages S )) := Cts.of dtX12_paysWages (by decide +kernel) rfl rfl (Nat.le_of_ble_eq_true rfl) rfl (fun O G => w_X12_paysWages  h (fun _ h9 => ⟨rfl, h9.symm⟩))
def b2_X12_takesInterest  (j1 : Nat) (σ2 : Mem) : Mem := lt (if (σ2.2.1 kLoanLefts j1) ≤ 0 then (σ2) else (lt (if (((σ2.2.1 kLoanLefts j1) * (σ2.2.1 kLoanRates j1)) / (nI 1000)) = 0 then (1) else (lt (f_X12_canPay σ2 (nI j1) (((σ2.2.1 kLoanLefts j1) * (σ2.2.1 kLoanRates j1)) / (nI 1000))) (fun (v10 : Int32) => if v10 = 0 then (0) else (1)))) (fun (v12 : Int32) => lt (if v12 = 0 then ((σ2.2.1 kOverdue j1) + 1) else (0)) (fun (v15 : Int32) => lt ((σ2.1, upd2 σ2.2.1 kOverdue j1 v15, σ2.2.2)) (fun (S17 : Mem) => lt (if (S17.2.1 kOverdue j1) = (nI 3) then (0) else (S17.2.1 kLoanLefts j1)) (fun (v21 : Int32) => lt ((S17.1, upd2 S17.2.1 kLoanLefts j1 v21, S17.2.2)) (fun (S23 : Mem) => if v12 = 0 then (S23) else (if (((σ2.2.1 kLoanLefts j1) * (σ2.2.1 kLoanRates j1)) / (nI 1000)) ≤ 0 then (S23) else (lt (f_X12_endsMoney S23 (nI j1) (((σ2.2.1 kLoanLefts j1) * (σ2.2.1 kLoanRates j1)) / (nI 1000))) (fun (S27 : Mem) => S27)))))))))) (fun (S28 : Mem) => S28)
def f_X12_takesInterest (S : Mem)  : Mem := lt (iter (b2_X12_takesInterest) S (ix (S.2.1 kLoans 0))) (fun (σ2 : Mem) => σ2)
def ok_X12_takesInterest (S : Mem)  : Prop := ((∀ j1 : Nat, j1 ≤ ix (S.2.1 kLoans 0) → ∀ σ2 : Mem, iter (b2_X12_takesInterest) S j1 = σ2 → σ2.2.1 kLoans 0 = nI (ix (S.2.1 kLoans 0))) ∧ (∀ j1 : Nat, j1 < ix (S.2.1 kLoans 0) → ∀ σ2 : Mem, iter (b2_X12_takesInterest) S j1 = σ2 → ((j1 < 20) ∧ (j1 < 20) ∧ (j1 < 20) ∧ ((¬ ((σ2.2.1 kLoanLefts j1) ≤ 0)) → (((¬ ((((σ2.2.1 kLoanLefts j1) * (σ2.2.1 kLoanRates j1)) / (nI 1000)) = 0)) → ((ok_X12_canPay σ2 (nI j1) (((σ2.2.1 kLoanLefts j1) * (σ2.2.1 kLoanRates j1)) / (nI 1000))))) ∧ (∀ v12 : Int32, (if (((σ2.2.1 kLoanLefts j1) * (σ2.2.1 kLoanRates j1)) / (nI 1000)) = 0 then (1) else (lt (f_X12_canPay σ2 (nI j1) (((σ2.2.1 kLoanLefts j1) * (σ2.2.1 kLoanRates j1)) / (nI 1000))) (fun (v10 : Int32) => if v10 = 0 then (0) else (1)))) = v12 → (((v12 = 0) → ((j1 < 20))) ∧ (∀ v15 : Int32, (if v12 = 0 then ((σ2.2.1 kOverdue j1) + 1) else (0)) = v15 → ((j1 < 20) ∧ (∀ S17 : Mem, ((σ2.1, upd2 σ2.2.1 kOverdue j1 v15, σ2.2.2)) = S17 → ((j1 < 20) ∧ ((¬ ((S17.2.1 kOverdue j1) = (nI 3))) → ((j1 < 20))) ∧ (∀ v21 : Int32, (if (S17.2.1 kOverdue j1) = (nI 3) then (0) else (S17.2.1 kLoanLefts j1)) = v21 → ((j1 < 20) ∧ (∀ S23 : Mem, ((S17.1, upd2 S17.2.1 kLoanLefts j1 v21, S17.2.2)) = S23 → (((¬ (v12 = 0)) → (((¬ ((((σ2.2.1 kLoanLefts j1) * (σ2.2.1 kLoanRates j1)) / (nI 1000)) ≤ 0)) → ((ok_X12_endsMoney S23 (nI j1) (((σ2.2.1 kLoanLefts j1) * (σ2.2.1 kLoanRates j1)) / (nI 1000))))))))))))))))))))))
abbrev fdX12_takesInterest : FD := (mdX12_takesInterest, [], 2, 44, 0, 0)
set_option maxRecDepth 100000 in
set_option maxHeartbeats 4000000 in
theorem w_X12_takesInterest {O : Om} {G : Cx} {S : Mem} {PP : Option AV → Mem → Prop}    (h : ok_X12_takesInterest S ) (hP : ∀ S9, f_X12_takesInterest S  = S9 → PP none S9) : BW O G fdX12_takesInterest 0 0 (QV O G 0 0 PP) S 0 [some (vr 12 0), none, none, none] [] := by
  refine a_iconst (pc := 0) 0 0 (v := 0) rfl (by decide) ?_
  refine a_istore_n (pc := 1) 0 1 (ls2 := [some (vr 12 0), some (vi 0), none, none]) rfl rfl (by decide) rfl ?_
  obtain ⟨o3, hb_j1⟩ := h
  have nlt_j1 := ix_lt (S.2.1 kLoans 0)
  have L2_28 : ∀ (m_j1 j1 : Nat), j1 + m_j1 = ix (S.2.1 kLoans 0) → ∀ (σ2 : Mem), iter (b2_X12_takesInterest) S j1 = σ2 → BW O G fdX12_takesInterest 0 0 (QV O G 0 0 PP) σ2 2 [some (vr 12 0), some (vi (nI j1)), none, none] [] := by
    intro m_j1
    induction m_j1 with
    | zero =>
      intro j1 hj_j1 σ2 eσ2
      have o3 := o3 j1 (by omega) σ2 eσ2
      have hn_j1 : j1 = ix (S.2.1 kLoans 0) := by omega
      rw [hn_j1] at eσ2
      refine a_iload_n (pc := 2) 0 2 rfl rfl ?_
      refine a_aload_n (pc := 3) 0 3 rfl rfl ?_
      refine g_12_loans (pc := 4) 0 4 rfl fl_X12_148 ?_
      refine a_icmp_ge_t (pc := 7) (tgt := 124) 0 5 rfl (by decide) (bd_t (o3) (by omega)) ?_
      exact a_vret (pc := 124) 1 26 rfl rfl (hP _ (by unfold f_X12_takesInterest; exact lt_eq eσ2))
    | succ m_j1 ih_j1 =>
      intro j1 hj_j1 σ2 eσ2
      have o3 := o3 j1 (by omega) σ2 eσ2
      have h := hb_j1 j1 (by omega) σ2 eσ2
      refine a_iload_n (pc := 2) 0 2 rfl rfl ?_
      refine a_aload_n (pc := 3) 0 3 rfl rfl ?_
      refine g_12_loans (pc := 4) 0 4 rfl fl_X12_148 ?_
      refine a_icmp_ge_f (pc := 7) (tgt := 124) 0 5 rfl (bd_f (o3) (by omega)) (by decide) ?_
      refine a_aload_n (pc := 10) 0 6 rfl rfl ?_
      refine g_12_loanLefts (pc := 11) 0 7 rfl fl_X12_81 ?_
      refine a_iload_n (pc := 14) 0 8 rfl rfl ?_
      obtain ⟨o4, h⟩ := h
      refine e_45 (pc := 15) 0 9 (j1) rfl rfl o4 ?_
      refine a_aload_n (pc := 16) 0 10 rfl rfl ?_
      refine g_12_loanRates (pc := 17) 0 11 rfl fl_X12_84 ?_
      refine a_iload_n (pc := 20) 0 12 rfl rfl ?_
      obtain ⟨o5, h⟩ := h
      refine e_46 (pc := 21) 0 13 (j1) rfl rfl o5 ?_
      refine a_imul (pc := 22) 0 14 rfl ?_
      refine a_sipush (pc := 23) 0 15 (v := nI 1000) rfl (by decide) ?_
      refine a_idiv (pc := 26) 0 16 rfl (by decide) ?_
      refine a_istore_n (pc := 27) 0 17 (ls2 := [some (vr 12 0), some (vi (nI j1)), some (vi (((σ2.2.1 kLoanLefts j1) * (σ2.2.1 kLoanRates j1)) / (nI 1000))), none]) rfl rfl (by decide) rfl ?_
      refine a_aload_n (pc := 28) 0 18 rfl rfl ?_
      refine g_12_loanLefts (pc := 29) 0 19 rfl fl_X12_81 ?_
      refine a_iload_n (pc := 32) 0 20 rfl rfl ?_
      obtain ⟨o6, h⟩ := h
      refine e_45 (pc := 33) 0 21 (j1) rfl rfl o6 ?_
      have J118_29 : ∀ (S28 : Mem) (eS28 : (if (σ2.2.1 kLoanLefts j1) ≤ 0 then (σ2) else (lt (if (((σ2.2.1 kLoanLefts j1) * (σ2.2.1 kLoanRates j1)) / (nI 1000)) = 0 then (1) else (lt (f_X12_canPay σ2 (nI j1) (((σ2.2.1 kLoanLefts j1) * (σ2.2.1 kLoanRates j1)) / (nI 1000))) (fun (v10 : Int32) => if v10 = 0 then (0) else (1)))) (fun (v12 : Int32) => lt (if v12 = 0 then ((σ2.2.1 kOverdue j1) + 1) else (0)) (fun (v15 : Int32) => lt ((σ2.1, upd2 σ2.2.1 kOverdue j1 v15, σ2.2.2)) (fun (S17 : Mem) => lt (if (S17.2.1 kOverdue j1) = (nI 3) then (0) else (S17.2.1 kLoanLefts j1)) (fun (v21 : Int32) => lt ((S17.1, upd2 S17.2.1 kLoanLefts j1 v21, S17.2.2)) (fun (S23 : Mem) => if v12 = 0 then (S23) else (if (((σ2.2.1 kLoanLefts j1) * (σ2.2.1 kLoanRates j1)) / (nI 1000)) ≤ 0 then (S23) else (lt (f_X12_endsMoney S23 (nI j1) (((σ2.2.1 kLoanLefts j1) * (σ2.2.1 kLoanRates j1)) / (nI 1000))) (fun (S27 : Mem) => S27)))))))))) = S28), BW O G fdX12_takesInterest 0 0 (QV O G 0 0 PP) S28 118 [some (vr 12 0), some (vi (nI j1)), some (vi (((σ2.2.1 kLoanLefts j1) * (σ2.2.1 kLoanRates j1)) / (nI 1000))), none] [] := by
        intro S28 eS28
        refine a_iinc (pc := 118) 1 24 (v := nI (j1 + 1)) (ls2 := [some (vr 12 0), some (vi (nI (j1 + 1))), some (vi (((σ2.2.1 kLoanLefts j1) * (σ2.2.1 kLoanRates j1)) / (nI 1000))), none]) rfl rfl (iinc1 _) (by decide) rfl ?_
        refine a_goto (pc := 121) (tgt := 2) 1 25 rfl (by decide) ?_
        refine a_drop (ls2 := [some (vr 12 0), some (vi (nI (j1 + 1))), none, none]) (⟨rfl, rfl, trivial⟩) ?_
        exact ih_j1 (j1 + 1) (by omega) S28 (by rw [iter_succ, eσ2]; unfold b2_X12_takesInterest; exact (lt_eq eS28))
      refine a_if_le (pc := 34) (tgt := 118) 0 22 rfl (by decide) (fun c34_6 => ?_) (fun c34_6 => ?_)
      · exact J118_29 _ (by exact (if_pos c34_6))
      · have h := h c34_6
        refine a_iload_n (pc := 37) 0 23 rfl rfl ?_
        obtain ⟨hr0, h⟩ := h
        have J55_30 : ∀ (v12 : Int32) (ev12 : (if (((σ2.2.1 kLoanLefts j1) * (σ2.2.1 kLoanRates j1)) / (nI 1000)) = 0 then (1) else (lt (f_X12_canPay σ2 (nI j1) (((σ2.2.1 kLoanLefts j1) * (σ2.2.1 kLoanRates j1)) / (nI 1000))) (fun (v10 : Int32) => if v10 = 0 then (0) else (1)))) = v12), BW O G fdX12_takesInterest 0 0 (QV O G 0 0 PP) σ2 55 [some (vr 12 0), some (vi (nI j1)), some (vi (((σ2.2.1 kLoanLefts j1) * (σ2.2.1 kLoanRates j1)) / (nI 1000))), none] [vi v12] := by
          intro v12 ev12
          have h := h v12 ev12
          refine a_istore_n (pc := 55) 0 33 (ls2 := [some (vr 12 0), some (vi (nI j1)), some (vi (((σ2.2.1 kLoanLefts j1) * (σ2.2.1 kLoanRates j1)) / (nI 1000))), some (vi v12)]) rfl rfl (by decide) rfl ?_
          refine a_aload_n (pc := 56) 0 34 rfl rfl ?_
          refine g_12_overdue (pc := 57) 0 35 rfl fl_X12_87 ?_
          refine a_iload_n (pc := 60) 0 36 rfl rfl ?_
          refine a_iload_n (pc := 61) 0 37 rfl rfl ?_
          obtain ⟨hr0, h⟩ := h
          have J77_31 : ∀ (v15 : Int32) (ev15 : (if v12 = 0 then ((σ2.2.1 kOverdue j1) + 1) else (0)) = v15), BW O G fdX12_takesInterest 0 0 (QV O G 0 0 PP) σ2 77 [some (vr 12 0), some (vi (nI j1)), some (vi (((σ2.2.1 kLoanLefts j1) * (σ2.2.1 kLoanRates j1)) / (nI 1000))), some (vi v12)] [vi v15, vi (nI j1), vr 47 0] := by
            intro v15 ev15
            have h := h v15 ev15
            obtain ⟨o16, h⟩ := h
            refine s_47 (pc := 77) 0 47 (j1) rfl rfl o16 ?_
            refine a_set (fun S17 eS17 => ?_)
            have h := h S17 eS17
            refine a_aload_n (pc := 78) 1 0 rfl rfl ?_
            refine g_12_loanLefts (pc := 79) 1 1 rfl fl_X12_81 ?_
            refine a_iload_n (pc := 82) 1 2 rfl rfl ?_
            refine a_aload_n (pc := 83) 1 3 rfl rfl ?_
            refine g_12_overdue (pc := 84) 1 4 rfl fl_X12_87 ?_
            refine a_iload_n (pc := 87) 1 5 rfl rfl ?_
            obtain ⟨o18, h⟩ := h
            refine e_47 (pc := 88) 1 6 (j1) rfl rfl o18 ?_
            refine a_iconst (pc := 89) 1 7 (v := nI 3) rfl (by decide) ?_
            obtain ⟨hr0, h⟩ := h
            have J103_32 : ∀ (v21 : Int32) (ev21 : (if (S17.2.1 kOverdue j1) = (nI 3) then (0) else (S17.2.1 kLoanLefts j1)) = v21), BW O G fdX12_takesInterest 0 0 (QV O G 0 0 PP) S17 103 [some (vr 12 0), some (vi (nI j1)), some (vi (((σ2.2.1 kLoanLefts j1) * (σ2.2.1 kLoanRates j1)) / (nI 1000))), some (vi v12)] [vi v21, vi (nI j1), vr 45 0] := by
              intro v21 ev21
              have h := h v21 ev21
              obtain ⟨o22, h⟩ := h
              refine s_45 (pc := 103) 1 15 (j1) rfl rfl o22 ?_
              refine a_set (fun S23 eS23 => ?_)
              have h := h S23 eS23
              refine a_iload_n (pc := 104) 1 16 rfl rfl ?_
              refine a_if_eq (pc := 105) (tgt := 118) 1 17 rfl (by decide) (fun c105_23 => ?_) (fun c105_23 => ?_)
              · refine a_drop (ls2 := [some (vr 12 0), some (vi (nI j1)), some (vi (((σ2.2.1 kLoanLefts j1) * (σ2.2.1 kLoanRates j1)) / (nI 1000))), none]) (⟨rfl, rfl, rfl, trivial⟩) ?_
                exact J118_29 _ (by exact ((if_neg c34_6).trans ((lt_eq ev12).trans ((lt_eq ev15).trans ((lt_eq eS17).trans ((lt_eq ev21).trans ((lt_eq eS23).trans (if_pos c105_23))))))))
              · have h := h c105_23
                refine a_iload_n (pc := 108) 1 18 rfl rfl ?_
                refine a_if_le (pc := 109) (tgt := 118) 1 19 rfl (by decide) (fun c109_24 => ?_) (fun c109_24 => ?_)
                · refine a_drop (ls2 := [some (vr 12 0), some (vi (nI j1)), some (vi (((σ2.2.1 kLoanLefts j1) * (σ2.2.1 kLoanRates j1)) / (nI 1000))), none]) (⟨rfl, rfl, rfl, trivial⟩) ?_
                  exact J118_29 _ (by exact ((if_neg c34_6).trans ((lt_eq ev12).trans ((lt_eq ev15).trans ((lt_eq eS17).trans ((lt_eq ev21).trans ((lt_eq eS23).trans ((if_neg c105_23).trans (if_pos c109_24)))))))))
                · have h := h c109_24
                  refine a_aload_n (pc := 112) 1 20 rfl rfl ?_
                  refine a_iload_n (pc := 113) 1 21 rfl rfl ?_
                  refine a_iload_n (pc := 114) 1 22 rfl rfl ?_
                  have o26 := h
                  refine a_callVv (pc := 115) 1 23 (c_X12_endsMoney (S := S23) (nI j1) (((σ2.2.1 kLoanLefts j1) * (σ2.2.1 kLoanRates j1)) / (nI 1000)) o26) rfl cv_X12_242 (by decide) rfl rfl rfl (rm rfl) ?_
                  refine a_set (fun S27 eS27 => ?_)
                  refine a_drop (ls2 := [some (vr 12 0), some (vi (nI j1)), some (vi (((σ2.2.1 kLoanLefts j1) * (σ2.2.1 kLoanRates j1)) / (nI 1000))), none]) (⟨rfl, rfl, rfl, trivial⟩) ?_
                  exact J118_29 _ (by exact ((if_neg c34_6).trans ((lt_eq ev12).trans ((lt_eq ev15).trans ((lt_eq eS17).trans ((lt_eq ev21).trans ((lt_eq eS23).trans ((if_neg c105_23).trans ((if_neg c109_24).trans (lt_eq eS27))))))))))
            have h := hr0
            refine a_icmp_ne (pc := 90) (tgt := 97) 1 8 rfl (by decide) (fun c90_18 => ?_) (fun c90_18 => ?_)
            · have h := h c90_18
              refine a_aload_n (pc := 97) 1 11 rfl rfl ?_
              refine g_12_loanLefts (pc := 98) 1 12 rfl fl_X12_81 ?_
              refine a_iload_n (pc := 101) 1 13 rfl rfl ?_
              have o20 := h
              refine e_45 (pc := 102) 1 14 (j1) rfl rfl o20 ?_
              exact J103_32 _ (by exact (if_neg c90_18))
            · refine a_iconst (pc := 93) 1 9 (v := 0) rfl (by decide) ?_
              refine a_goto (pc := 94) (tgt := 103) 1 10 rfl (by decide) ?_
              exact J103_32 _ (by exact (if_pos c90_18))
          have h := hr0
          refine a_if_eq (pc := 62) (tgt := 69) 0 38 rfl (by decide) (fun c62_12 => ?_) (fun c62_12 => ?_)
          · have h := h c62_12
            refine a_aload_n (pc := 69) 0 41 rfl rfl ?_
            refine g_12_overdue (pc := 70) 0 42 rfl fl_X12_87 ?_
            refine a_iload_n (pc := 73) 0 43 rfl rfl ?_
            have o14 := h
            refine e_47 (pc := 74) 0 44 (j1) rfl rfl o14 ?_
            refine a_iconst (pc := 75) 0 45 (v := 1) rfl (by decide) ?_
            refine a_iadd (pc := 76) 0 46 rfl ?_
            exact J77_31 _ (by exact (if_pos c62_12))
          · refine a_iconst (pc := 65) 0 39 (v := 0) rfl (by decide) ?_
            refine a_goto (pc := 66) (tgt := 77) 0 40 rfl (by decide) ?_
            exact J77_31 _ (by exact (if_neg c62_12))
        have h := hr0
        refine a_if_eq (pc := 38) (tgt := 50) 0 24 rfl (by decide) (fun c38_7 => ?_) (fun c38_7 => ?_)
        · refine a_iconst (pc := 50) 0 30 (v := 1) rfl (by decide) ?_
          refine a_goto (pc := 51) (tgt := 55) 0 31 rfl (by decide) ?_
          exact J55_30 _ (by exact (if_pos c38_7))
        · have h := h c38_7
          refine a_aload_n (pc := 41) 0 25 rfl rfl ?_
          refine a_iload_n (pc := 42) 0 26 rfl rfl ?_
          refine a_iload_n (pc := 43) 0 27 rfl rfl ?_
          have o9 := h
          refine a_callVi (pc := 44) 0 28 (c_X12_canPay (S := σ2) (nI j1) (((σ2.2.1 kLoanLefts j1) * (σ2.2.1 kLoanRates j1)) / (nI 1000)) o9) rfl cv_X12_238 (by decide) rfl rfl rfl (rm rfl) ?_
          refine a_seti (fun v10 ev10 => ?_)
          refine a_if_eq (pc := 47) (tgt := 54) 0 29 rfl (by decide) (fun c47_10 => ?_) (fun c47_10 => ?_)
          · refine a_iconst (pc := 54) 0 32 (v := 0) rfl (by decide) ?_
            exact J55_30 _ (by exact ((if_neg c38_7).trans ((lt_eq ev10).trans (if_pos c47_10))))
          · refine a_iconst (pc := 50) 0 30 (v := 1) rfl (by decide) ?_
            refine a_goto (pc := 51) (tgt := 55) 0 31 rfl (by decide) ?_
            exact J55_30 _ (by exact ((if_neg c38_7).trans ((lt_eq ev10).trans (if_neg c47_10))))
  exact L2_28 (ix (S.2.1 kLoans 0)) 0 (by omega) S rfl
theorem c_X12_takesInterest {S : Mem}    (h : ok_X12_takesInterest S ) : Cts mdX12_takesInterest 2 44 [vr 12 0] S (Is none (f_X12_takesInterest S )) := Cts.of dtX12_takesInterest (by decide +kernel) rfl rfl (Nat.le_of_ble_eq_true rfl) rfl (fun O G => w_X12_takesInterest  h (fun _ h9 => ⟨rfl, h9.symm⟩))
def b2_X12_paysCentral  (j1 : Nat) (σ2 : Mem) : Mem := lt (f_X12_least σ2 (σ2.2.1 kReserves j1) (((((σ2.2.1 kLent j1).toInt64) * ((σ2.2.1 kRate 0).toInt64)) / 1000).toInt32)) (fun (v3 : Int32) => lt ((σ2.1, upd2 σ2.2.1 kReserves j1 ((σ2.2.1 kReserves j1) - v3), σ2.2.2)) (fun (S4 : Mem) => lt ((S4.1, upd2 S4.2.1 kLent j1 ((S4.2.1 kLent j1) + ((((((σ2.2.1 kLent j1).toInt64) * ((σ2.2.1 kRate 0).toInt64)) / 1000).toInt32) - v3)), S4.2.2)) (fun (S5 : Mem) => S5)))
def f_X12_paysCentral (S : Mem)  : Mem := lt (iter (b2_X12_paysCentral) S (4)) (fun (σ2 : Mem) => σ2)
abbrev fdX12_paysCentral : FD := (mdX12_paysCentral, [], 1, 21, 0, 0)
set_option maxRecDepth 100000 in
set_option maxHeartbeats 4000000 in
theorem w_X12_paysCentral {O : Om} {G : Cx} {S : Mem} {PP : Option AV → Mem → Prop}    (hP : ∀ S9, f_X12_paysCentral S  = S9 → PP none S9) : BW O G fdX12_paysCentral 0 0 (QV O G 0 0 PP) S 0 [some (vr 12 0), none, none, none] [] := by
  refine a_iconst (pc := 0) 0 0 (v := 0) rfl (by decide) ?_
  refine a_istore_n (pc := 1) 0 1 (ls2 := [some (vr 12 0), some (vi 0), none, none]) rfl rfl (by decide) rfl ?_
  have L2_5 : ∀ (m_j1 j1 : Nat), j1 + m_j1 = 4 → ∀ (σ2 : Mem), iter (b2_X12_paysCentral) S j1 = σ2 → BW O G fdX12_paysCentral 0 0 (QV O G 0 0 PP) σ2 2 [some (vr 12 0), some (vi (nI j1)), none, none] [] := by
    intro m_j1
    induction m_j1 with
    | zero =>
      intro j1 hj_j1 σ2 eσ2
      have hn_j1 : j1 = 4 := by omega
      rw [hn_j1] at eσ2
      refine a_iload_n (pc := 2) 0 2 rfl rfl ?_
      refine a_iconst (pc := 3) 0 3 (v := nI 4) rfl (by decide) ?_
      refine a_icmp_ge_t (pc := 4) (tgt := 65) 0 4 rfl (by decide) (nI_le (by omega) (by omega)) ?_
      exact a_vret (pc := 65) 0 45 rfl rfl (hP _ (by unfold f_X12_paysCentral; exact lt_eq eσ2))
    | succ m_j1 ih_j1 =>
      intro j1 hj_j1 σ2 eσ2
      refine a_iload_n (pc := 2) 0 2 rfl rfl ?_
      refine a_iconst (pc := 3) 0 3 (v := nI 4) rfl (by decide) ?_
      refine a_icmp_ge_f (pc := 4) (tgt := 65) 0 4 rfl (nI_ge (by omega) (by omega)) (by decide) ?_
      refine a_aload_n (pc := 7) 0 5 rfl rfl ?_
      refine g_12_lent (pc := 8) 0 6 rfl fl_X12_56 ?_
      refine a_iload_n (pc := 11) 0 7 rfl rfl ?_
      refine e_37 (pc := 12) 0 8 (j1) rfl rfl (by omega) ?_
      refine a_i2l (pc := 13) 0 9 rfl ?_
      refine a_aload_n (pc := 14) 0 10 rfl rfl ?_
      refine g_12_rate (pc := 15) 0 11 rfl fl_X12_249 ?_
      refine a_i2l (pc := 18) 0 12 rfl ?_
      refine a_lmul (pc := 19) 0 13 rfl ?_
      refine a_ldc2 (pc := 20) 0 14 (v := 1000) rfl cl_X12_275 ?_
      refine a_ldiv (pc := 23) 0 15 rfl (by decide) ?_
      refine a_l2i (pc := 24) 0 16 rfl ?_
      refine a_istore_n (pc := 25) 0 17 (ls2 := [some (vr 12 0), some (vi (nI j1)), some (vi (((((σ2.2.1 kLent j1).toInt64) * ((σ2.2.1 kRate 0).toInt64)) / 1000).toInt32)), none]) rfl rfl (by decide) rfl ?_
      refine a_aload_n (pc := 26) 0 18 rfl rfl ?_
      refine g_12_reserves (pc := 27) 0 19 rfl fl_X12_50 ?_
      refine a_iload_n (pc := 30) 0 20 rfl rfl ?_
      refine e_35 (pc := 31) 0 21 (j1) rfl rfl (by omega) ?_
      refine a_iload_n (pc := 32) 0 22 rfl rfl ?_
      refine a_callSi (pc := 33) 0 23 (c_X12_least (S := σ2) (σ2.2.1 kReserves j1) (((((σ2.2.1 kLent j1).toInt64) * ((σ2.2.1 kRate 0).toInt64)) / 1000).toInt32)) rfl cs_X12_193 rfl (rm rfl) ?_
      refine a_seti (fun v3 ev3 => ?_)
      refine a_istore_n (pc := 36) 0 24 (ls2 := [some (vr 12 0), some (vi (nI j1)), some (vi (((((σ2.2.1 kLent j1).toInt64) * ((σ2.2.1 kRate 0).toInt64)) / 1000).toInt32)), some (vi v3)]) rfl rfl (by decide) rfl ?_
      refine a_aload_n (pc := 37) 0 25 rfl rfl ?_
      refine g_12_reserves (pc := 38) 0 26 rfl fl_X12_50 ?_
      refine a_iload_n (pc := 41) 0 27 rfl rfl ?_
      refine a_dup2 (pc := 42) 0 28 rfl rfl rfl ?_
      refine e_35 (pc := 43) 0 29 (j1) rfl rfl (by omega) ?_
      refine a_iload_n (pc := 44) 0 30 rfl rfl ?_
      refine a_isub (pc := 45) 0 31 rfl ?_
      refine s_35 (pc := 46) 0 32 (j1) rfl rfl (by omega) ?_
      refine a_set (fun S4 eS4 => ?_)
      refine a_aload_n (pc := 47) 0 33 rfl rfl ?_
      refine g_12_lent (pc := 48) 0 34 rfl fl_X12_56 ?_
      refine a_iload_n (pc := 51) 0 35 rfl rfl ?_
      refine a_dup2 (pc := 52) 0 36 rfl rfl rfl ?_
      refine e_37 (pc := 53) 0 37 (j1) rfl rfl (by omega) ?_
      refine a_iload_n (pc := 54) 0 38 rfl rfl ?_
      refine a_iload_n (pc := 55) 0 39 rfl rfl ?_
      refine a_isub (pc := 56) 0 40 rfl ?_
      refine a_iadd (pc := 57) 0 41 rfl ?_
      refine s_37 (pc := 58) 0 42 (j1) rfl rfl (by omega) ?_
      refine a_set (fun S5 eS5 => ?_)
      refine a_iinc (pc := 59) 0 43 (v := nI (j1 + 1)) (ls2 := [some (vr 12 0), some (vi (nI (j1 + 1))), some (vi (((((σ2.2.1 kLent j1).toInt64) * ((σ2.2.1 kRate 0).toInt64)) / 1000).toInt32)), some (vi v3)]) rfl rfl (iinc1 _) (by decide) rfl ?_
      refine a_goto (pc := 62) (tgt := 2) 0 44 rfl (by decide) ?_
      refine a_drop (ls2 := [some (vr 12 0), some (vi (nI (j1 + 1))), none, none]) (⟨rfl, rfl, trivial⟩) ?_
      exact ih_j1 (j1 + 1) (by omega) S5 (by rw [iter_succ, eσ2]; unfold b2_X12_paysCentral; exact ((lt_eq ev3).trans ((lt_eq eS4).trans (lt_eq eS5))))
  exact L2_5 (4) 0 (by omega) S rfl
theorem c_X12_paysCentral {S : Mem}    : Cts mdX12_paysCentral 1 21 [vr 12 0] S (Is none (f_X12_paysCentral S )) := Cts.of dtX12_paysCentral (by decide +kernel) rfl rfl (Nat.le_of_ble_eq_true rfl) rfl (fun O G => w_X12_paysCentral  (fun _ h9 => ⟨rfl, h9.symm⟩))
def b12_X12_paysBonds (j1 : Nat) (j4 : Nat) (σ5 : Mem) : Mem ⊕ Mem := if (σ5.2.1 kDays 0) < (σ5.2.1 kDues j1) then (.inr σ5) else (lt (if (nI j4) = 0 then (nI 4) else ((nI j4) - 1)) (fun (v9 : Int32) => lt (f_X12_least σ5 (σ5.2.1 kTreasury 0) (σ5.2.1 kBonds (ix (((nI 5) * (nI j1)) + v9)))) (fun (v11 : Int32) => lt ((σ5.1, upd2 σ5.2.1 kTreasury 0 ((σ5.2.1 kTreasury 0) - v11), σ5.2.2)) (fun (S12 : Mem) => lt ((S12.1, upd2 S12.2.1 kBonds (ix (((nI 5) * (nI j1)) + v9)) ((S12.2.1 kBonds (ix (((nI 5) * (nI j1)) + v9))) - v11), S12.2.2)) (fun (S15 : Mem) => lt (if v9 = (nI 4) then (S15) else (lt ((S15.1, upd2 S15.2.1 kReserves (ix v9) ((S15.2.1 kReserves (ix v9)) + v11), S15.2.2)) (fun (S19 : Mem) => S19))) (fun (S20 : Mem) => .inl S20))))))
def b2_X12_paysBonds  (j1 : Nat) (σ2 : Mem) : Mem := lt (outE (iterE (b12_X12_paysBonds j1) σ2 (5))) (fun (σ5 : Mem) => σ5)
def f_X12_paysBonds (S : Mem)  : Mem := lt (iter (b2_X12_paysBonds) S (ix (S.2.1 kAuctions 0))) (fun (σ2 : Mem) => σ2)
def ok_X12_paysBonds (S : Mem)  : Prop := ((∀ j1 : Nat, j1 ≤ ix (S.2.1 kAuctions 0) → ∀ σ2 : Mem, iter (b2_X12_paysBonds) S j1 = σ2 → σ2.2.1 kAuctions 0 = nI (ix (S.2.1 kAuctions 0))) ∧ (∀ j1 : Nat, j1 < ix (S.2.1 kAuctions 0) → ∀ σ2 : Mem, iter (b2_X12_paysBonds) S j1 = σ2 → ((∀ j4 : Nat, j4 < 5 → ∀ σ5 : Mem, iterE (b12_X12_paysBonds j1) σ2 j4 = .inl σ5 → ((j1 < 20) ∧ ((¬ ((σ5.2.1 kDays 0) < (σ5.2.1 kDues j1))) → ((∀ v9 : Int32, (if (nI j4) = 0 then (nI 4) else ((nI j4) - 1)) = v9 → ((inb (((nI 5) * (nI j1)) + v9) 100) ∧ (∀ v11 : Int32, (f_X12_least σ5 (σ5.2.1 kTreasury 0) (σ5.2.1 kBonds (ix (((nI 5) * (nI j1)) + v9)))) = v11 → ((∀ S12 : Mem, ((σ5.1, upd2 σ5.2.1 kTreasury 0 ((σ5.2.1 kTreasury 0) - v11), σ5.2.2)) = S12 → ((inb (((nI 5) * (nI j1)) + v9) 100) ∧ (inb (((nI 5) * (nI j1)) + v9) 100) ∧ (∀ S15 : Mem, ((S12.1, upd2 S12.2.1 kBonds (ix (((nI 5) * (nI j1)) + v9)) ((S12.2.1 kBonds (ix (((nI 5) * (nI j1)) + v9))) - v11), S12.2.2)) = S15 → (((¬ (v9 = (nI 4))) → ((inb v9 4) ∧ (inb v9 4))))))))))))))))))
abbrev fdX12_paysBonds : FD := (mdX12_paysBonds, [], 1, 21, 0, 0)
set_option maxRecDepth 100000 in
set_option maxHeartbeats 4000000 in
theorem w_X12_paysBonds {O : Om} {G : Cx} {S : Mem} {PP : Option AV → Mem → Prop}    (h : ok_X12_paysBonds S ) (hP : ∀ S9, f_X12_paysBonds S  = S9 → PP none S9) : BW O G fdX12_paysBonds 0 0 (QV O G 0 0 PP) S 0 [some (vr 12 0), none, none, none, none] [] := by
  refine a_iconst (pc := 0) 0 0 (v := 0) rfl (by decide) ?_
  refine a_istore_n (pc := 1) 0 1 (ls2 := [some (vr 12 0), some (vi 0), none, none, none]) rfl rfl (by decide) rfl ?_
  obtain ⟨o3, hb_j1⟩ := h
  have nlt_j1 := ix_lt (S.2.1 kAuctions 0)
  have L2_20 : ∀ (m_j1 j1 : Nat), j1 + m_j1 = ix (S.2.1 kAuctions 0) → ∀ (σ2 : Mem), iter (b2_X12_paysBonds) S j1 = σ2 → BW O G fdX12_paysBonds 0 0 (QV O G 0 0 PP) σ2 2 [some (vr 12 0), some (vi (nI j1)), none, none, none] [] := by
    intro m_j1
    induction m_j1 with
    | zero =>
      intro j1 hj_j1 σ2 eσ2
      have o3 := o3 j1 (by omega) σ2 eσ2
      have hn_j1 : j1 = ix (S.2.1 kAuctions 0) := by omega
      rw [hn_j1] at eσ2
      refine a_iload_n (pc := 2) 0 2 rfl rfl ?_
      refine a_aload_n (pc := 3) 0 3 rfl rfl ?_
      refine g_12_auctions (pc := 4) 0 4 rfl fl_X12_145 ?_
      refine a_icmp_ge_t (pc := 7) (tgt := 115) 0 5 rfl (by decide) (bd_t (o3) (by omega)) ?_
      exact a_vret (pc := 115) 1 23 rfl rfl (hP _ (by unfold f_X12_paysBonds; exact lt_eq eσ2))
    | succ m_j1 ih_j1 =>
      intro j1 hj_j1 σ2 eσ2
      have o3 := o3 j1 (by omega) σ2 eσ2
      have h := hb_j1 j1 (by omega) σ2 eσ2
      refine a_iload_n (pc := 2) 0 2 rfl rfl ?_
      refine a_aload_n (pc := 3) 0 3 rfl rfl ?_
      refine g_12_auctions (pc := 4) 0 4 rfl fl_X12_145 ?_
      refine a_icmp_ge_f (pc := 7) (tgt := 115) 0 5 rfl (bd_f (o3) (by omega)) (by decide) ?_
      refine a_iconst (pc := 10) 0 6 (v := 0) rfl (by decide) ?_
      refine a_istore_n (pc := 11) 0 7 (ls2 := [some (vr 12 0), some (vi (nI j1)), some (vi 0), none, none]) rfl rfl (by decide) rfl ?_
      have hb_j4 := h
      have E12_22 : ∀ (σ5 : Mem), outE (iterE (b12_X12_paysBonds j1) σ2 (5)) = σ5 → BW O G fdX12_paysBonds 0 0 (QV O G 0 0 PP) σ5 109 [some (vr 12 0), some (vi (nI j1)), none, none, none] [] := by
        intro σ5 eσ5
        refine a_iinc (pc := 109) 1 21 (v := nI (j1 + 1)) (ls2 := [some (vr 12 0), some (vi (nI (j1 + 1))), none, none, none]) rfl rfl (iinc1 _) (by decide) rfl ?_
        refine a_goto (pc := 112) (tgt := 2) 1 22 rfl (by decide) ?_
        exact ih_j1 (j1 + 1) (by omega) σ5 (by rw [iter_succ, eσ2]; unfold b2_X12_paysBonds; exact (lt_eq eσ5))
      have L12_21 : ∀ (m_j4 j4 : Nat), j4 + m_j4 = 5 → ∀ (σ5 : Mem), iterE (b12_X12_paysBonds j1) σ2 j4 = .inl σ5 → BW O G fdX12_paysBonds 0 0 (QV O G 0 0 PP) σ5 12 [some (vr 12 0), some (vi (nI j1)), some (vi (nI j4)), none, none] [] := by
        intro m_j4
        induction m_j4 with
        | zero =>
          intro j4 hj_j4 σ5 eσ5
          have hn_j4 : j4 = 5 := by omega
          refine a_iload_n (pc := 12) 0 8 rfl rfl ?_
          refine a_iconst (pc := 13) 0 9 (v := nI 5) rfl (by decide) ?_
          refine a_icmp_ge_t (pc := 14) (tgt := 109) 0 10 rfl (by decide) (nI_le (by omega) (by omega)) ?_
          refine a_drop (ls2 := [some (vr 12 0), some (vi (nI j1)), none, none, none]) (⟨rfl, rfl, trivial⟩) ?_
          exact E12_22 σ5 (by rw [← hn_j4, eσ5]; rfl)
        | succ m_j4 ih_j4 =>
          intro j4 hj_j4 σ5 eσ5
          have h := hb_j4 j4 (by omega) σ5 eσ5
          refine a_iload_n (pc := 12) 0 8 rfl rfl ?_
          refine a_iconst (pc := 13) 0 9 (v := nI 5) rfl (by decide) ?_
          refine a_icmp_ge_f (pc := 14) (tgt := 109) 0 10 rfl (nI_ge (by omega) (by omega)) (by decide) ?_
          refine a_aload_n (pc := 17) 0 11 rfl rfl ?_
          refine g_12_dues (pc := 18) 0 12 rfl fl_X12_114 ?_
          refine a_iload_n (pc := 21) 0 13 rfl rfl ?_
          obtain ⟨o6, h⟩ := h
          refine e_56 (pc := 22) 0 14 (j1) rfl rfl o6 ?_
          refine a_aload_n (pc := 23) 0 15 rfl rfl ?_
          refine g_12_days (pc := 24) 0 16 rfl fl_X12_196 ?_
          refine a_icmp_gt (pc := 27) (tgt := 109) 0 17 rfl (by decide) (fun c27_6 => ?_) (fun c27_6 => ?_)
          · refine a_drop (ls2 := [some (vr 12 0), some (vi (nI j1)), none, none, none]) (⟨rfl, rfl, trivial⟩) ?_
            exact E12_22 σ5 (by have e9 := iterE_stop (r := σ5) eσ5 (by unfold b12_X12_paysBonds; exact (if_pos c27_6)) (5) (by omega); rw [e9]; rfl)
          · have h := h c27_6
            refine a_iload_n (pc := 30) 0 18 rfl rfl ?_
            have J41_23 : ∀ (v9 : Int32) (ev9 : (if (nI j4) = 0 then (nI 4) else ((nI j4) - 1)) = v9), BW O G fdX12_paysBonds 0 0 (QV O G 0 0 PP) σ5 41 [some (vr 12 0), some (vi (nI j1)), some (vi (nI j4)), none, none] [vi v9] := by
              intro v9 ev9
              have h := h v9 ev9
              refine a_istore_n (pc := 41) 0 25 (ls2 := [some (vr 12 0), some (vi (nI j1)), some (vi (nI j4)), some (vi v9), none]) rfl rfl (by decide) rfl ?_
              refine a_aload_n (pc := 42) 0 26 rfl rfl ?_
              refine g_12_treasury (pc := 43) 0 27 rfl fl_X12_168 ?_
              refine a_aload_n (pc := 46) 0 28 rfl rfl ?_
              refine g_12_bonds (pc := 47) 0 29 rfl fl_X12_117 ?_
              refine a_iconst (pc := 50) 0 30 (v := nI 5) rfl (by decide) ?_
              refine a_iload_n (pc := 51) 0 31 rfl rfl ?_
              refine a_imul (pc := 52) 0 32 rfl ?_
              refine a_iload_n (pc := 53) 0 33 rfl rfl ?_
              refine a_iadd (pc := 54) 0 34 rfl ?_
              obtain ⟨o10, h⟩ := h
              refine e_57 (pc := 55) 0 35 (ix (((nI 5) * (nI j1)) + v9)) rfl o10.1 o10.2 ?_
              refine a_callSi (pc := 56) 0 36 (c_X12_least (S := σ5) (σ5.2.1 kTreasury 0) (σ5.2.1 kBonds (ix (((nI 5) * (nI j1)) + v9)))) rfl cs_X12_193 rfl (rm rfl) ?_
              refine a_seti (fun v11 ev11 => ?_)
              have h := h v11 ev11
              refine a_istore (pc := 59) 0 37 (ls2 := [some (vr 12 0), some (vi (nI j1)), some (vi (nI j4)), some (vi v9), some (vi v11)]) rfl (by decide) rfl ?_
              refine a_aload_n (pc := 61) 0 38 rfl rfl ?_
              refine a_dup (pc := 62) 0 39 rfl rfl ?_
              refine g_12_treasury (pc := 63) 0 40 rfl fl_X12_168 ?_
              refine a_iload (pc := 66) 0 41 rfl rfl ?_
              refine a_isub (pc := 68) 0 42 rfl ?_
              refine p_12_treasury (pc := 69) 0 43 rfl fl_X12_168 ?_
              refine a_set (fun S12 eS12 => ?_)
              have h := h S12 eS12
              refine a_aload_n (pc := 72) 0 44 rfl rfl ?_
              refine g_12_bonds (pc := 73) 0 45 rfl fl_X12_117 ?_
              refine a_iconst (pc := 76) 0 46 (v := nI 5) rfl (by decide) ?_
              refine a_iload_n (pc := 77) 0 47 rfl rfl ?_
              refine a_imul (pc := 78) 1 0 rfl ?_
              refine a_iload_n (pc := 79) 1 1 rfl rfl ?_
              refine a_iadd (pc := 80) 1 2 rfl ?_
              refine a_dup2 (pc := 81) 1 3 rfl rfl rfl ?_
              obtain ⟨o13, h⟩ := h
              refine e_57 (pc := 82) 1 4 (ix (((nI 5) * (nI j1)) + v9)) rfl o13.1 o13.2 ?_
              refine a_iload (pc := 83) 1 5 rfl rfl ?_
              refine a_isub (pc := 85) 1 6 rfl ?_
              obtain ⟨o14, h⟩ := h
              refine s_57 (pc := 86) 1 7 (ix (((nI 5) * (nI j1)) + v9)) rfl o14.1 o14.2 ?_
              refine a_set (fun S15 eS15 => ?_)
              have h := h S15 eS15
              refine a_iload_n (pc := 87) 1 8 rfl rfl ?_
              refine a_iconst (pc := 88) 1 9 (v := nI 4) rfl (by decide) ?_
              have J103_24 : ∀ (S20 : Mem) (eS20 : (if v9 = (nI 4) then (S15) else (lt ((S15.1, upd2 S15.2.1 kReserves (ix v9) ((S15.2.1 kReserves (ix v9)) + v11), S15.2.2)) (fun (S19 : Mem) => S19))) = S20), BW O G fdX12_paysBonds 0 0 (QV O G 0 0 PP) S20 103 [some (vr 12 0), some (vi (nI j1)), some (vi (nI j4)), some (vi v9), some (vi v11)] [] := by
                intro S20 eS20
                refine a_iinc (pc := 103) 1 19 (v := nI (j4 + 1)) (ls2 := [some (vr 12 0), some (vi (nI j1)), some (vi (nI (j4 + 1))), some (vi v9), some (vi v11)]) rfl rfl (iinc1 _) (by decide) rfl ?_
                refine a_goto (pc := 106) (tgt := 12) 1 20 rfl (by decide) ?_
                refine a_drop (ls2 := [some (vr 12 0), some (vi (nI j1)), some (vi (nI (j4 + 1))), none, none]) (⟨rfl, rfl, rfl, trivial⟩) ?_
                exact ih_j4 (j4 + 1) (by omega) S20 (iterE_go eσ5 (by unfold b12_X12_paysBonds; exact ((if_neg c27_6).trans ((lt_eq ev9).trans ((lt_eq ev11).trans ((lt_eq eS12).trans ((lt_eq eS15).trans (lt_eq eS20))))))))
              refine a_icmp_eq (pc := 89) (tgt := 103) 1 10 rfl (by decide) (fun c89_15 => ?_) (fun c89_15 => ?_)
              · exact J103_24 _ (by exact (if_pos c89_15))
              · have h := h c89_15
                refine a_aload_n (pc := 92) 1 11 rfl rfl ?_
                refine g_12_reserves (pc := 93) 1 12 rfl fl_X12_50 ?_
                refine a_iload_n (pc := 96) 1 13 rfl rfl ?_
                refine a_dup2 (pc := 97) 1 14 rfl rfl rfl ?_
                obtain ⟨o17, h⟩ := h
                refine e_35 (pc := 98) 1 15 (ix v9) rfl o17.1 o17.2 ?_
                refine a_iload (pc := 99) 1 16 rfl rfl ?_
                refine a_iadd (pc := 101) 1 17 rfl ?_
                have o18 := h
                refine s_35 (pc := 102) 1 18 (ix v9) rfl o18.1 o18.2 ?_
                refine a_set (fun S19 eS19 => ?_)
                exact J103_24 _ (by exact ((if_neg c89_15).trans (lt_eq eS19)))
            refine a_if_ne (pc := 31) (tgt := 38) 0 19 rfl (by decide) (fun c31_7 => ?_) (fun c31_7 => ?_)
            · refine a_iload_n (pc := 38) 0 22 rfl rfl ?_
              refine a_iconst (pc := 39) 0 23 (v := 1) rfl (by decide) ?_
              refine a_isub (pc := 40) 0 24 rfl ?_
              exact J41_23 _ (by exact (if_neg c31_7))
            · refine a_iconst (pc := 34) 0 20 (v := nI 4) rfl (by decide) ?_
              refine a_goto (pc := 35) (tgt := 41) 0 21 rfl (by decide) ?_
              exact J41_23 _ (by exact (if_pos c31_7))
      exact L12_21 (5) 0 (by omega) σ2 rfl
  exact L2_20 (ix (S.2.1 kAuctions 0)) 0 (by omega) S rfl
theorem c_X12_paysBonds {S : Mem}    (h : ok_X12_paysBonds S ) : Cts mdX12_paysBonds 1 21 [vr 12 0] S (Is none (f_X12_paysBonds S )) := Cts.of dtX12_paysBonds (by decide +kernel) rfl rfl (Nat.le_of_ble_eq_true rfl) rfl (fun O G => w_X12_paysBonds  h (fun _ h9 => ⟨rfl, h9.symm⟩))
def b2_X12_asksReserves  (j1 : Nat) (σ2 : Mem) : Mem := lt (f_X12_inAccounts σ2 (nI j1)) (fun (v3 : Int32) => lt (f_X12_most σ2 ((((((v3.toInt64 * ((σ2.2.1 kReserveRule 0).toInt64)) + 99) / 100).toInt32) - (σ2.2.1 kReserves j1)) - (σ2.2.1 kVaults j1)) 0) (fun (v4 : Int32) => lt (f_X12_room σ2 (nI j1)) (fun (v6 : Int32) => lt (f_X12_least σ2 v4 v6) (fun (v7 : Int32) => lt ((σ2.1, upd2 σ2.2.1 kLent j1 ((σ2.2.1 kLent j1) + v7), σ2.2.2)) (fun (S8 : Mem) => lt ((S8.1, upd2 S8.2.1 kReserves j1 ((S8.2.1 kReserves j1) + v7), S8.2.2)) (fun (S9 : Mem) => lt (if v4 ≤ v7 then (0) else (1)) (fun (v11 : Int32) => lt ((S9.1, upd2 S9.2.1 kAreShort j1 v11, S9.2.2)) (fun (S12 : Mem) => S12))))))))
def f_X12_asksReserves (S : Mem)  : Mem := lt (iter (b2_X12_asksReserves) S (4)) (fun (σ2 : Mem) => σ2)
def ok_X12_asksReserves (S : Mem)  : Prop := ((∀ j1 : Nat, j1 < 4 → ∀ σ2 : Mem, iter (b2_X12_asksReserves) S j1 = σ2 → ((∀ v3 : Int32, (f_X12_inAccounts σ2 (nI j1)) = v3 → ((∀ v4 : Int32, (f_X12_most σ2 ((((((v3.toInt64 * ((σ2.2.1 kReserveRule 0).toInt64)) + 99) / 100).toInt32) - (σ2.2.1 kReserves j1)) - (σ2.2.1 kVaults j1)) 0) = v4 → ((ok_X12_room σ2 (nI j1)))))))))
abbrev fdX12_asksReserves : FD := (mdX12_asksReserves, [], 2, 44, 0, 0)
set_option maxRecDepth 100000 in
set_option maxHeartbeats 4000000 in
theorem w_X12_asksReserves {O : Om} {G : Cx} {S : Mem} {PP : Option AV → Mem → Prop}    (h : ok_X12_asksReserves S ) (hP : ∀ S9, f_X12_asksReserves S  = S9 → PP none S9) : BW O G fdX12_asksReserves 0 0 (QV O G 0 0 PP) S 0 [some (vr 12 0), none, none, none, none] [] := by
  refine a_iconst (pc := 0) 0 0 (v := 0) rfl (by decide) ?_
  refine a_istore_n (pc := 1) 0 1 (ls2 := [some (vr 12 0), some (vi 0), none, none, none]) rfl rfl (by decide) rfl ?_
  have hb_j1 := h
  have L2_12 : ∀ (m_j1 j1 : Nat), j1 + m_j1 = 4 → ∀ (σ2 : Mem), iter (b2_X12_asksReserves) S j1 = σ2 → BW O G fdX12_asksReserves 0 0 (QV O G 0 0 PP) σ2 2 [some (vr 12 0), some (vi (nI j1)), none, none, none] [] := by
    intro m_j1
    induction m_j1 with
    | zero =>
      intro j1 hj_j1 σ2 eσ2
      have hn_j1 : j1 = 4 := by omega
      rw [hn_j1] at eσ2
      refine a_iload_n (pc := 2) 0 2 rfl rfl ?_
      refine a_iconst (pc := 3) 0 3 (v := nI 4) rfl (by decide) ?_
      refine a_icmp_ge_t (pc := 4) (tgt := 105) 0 4 rfl (by decide) (nI_le (by omega) (by omega)) ?_
      exact a_vret (pc := 105) 1 19 rfl rfl (hP _ (by unfold f_X12_asksReserves; exact lt_eq eσ2))
    | succ m_j1 ih_j1 =>
      intro j1 hj_j1 σ2 eσ2
      have h := hb_j1 j1 (by omega) σ2 eσ2
      refine a_iload_n (pc := 2) 0 2 rfl rfl ?_
      refine a_iconst (pc := 3) 0 3 (v := nI 4) rfl (by decide) ?_
      refine a_icmp_ge_f (pc := 4) (tgt := 105) 0 4 rfl (nI_ge (by omega) (by omega)) (by decide) ?_
      refine a_aload_n (pc := 7) 0 5 rfl rfl ?_
      refine a_iload_n (pc := 8) 0 6 rfl rfl ?_
      refine a_callVi (pc := 9) 0 7 (c_X12_inAccounts (S := σ2) (nI j1)) rfl cv_X12_158 (by decide) rfl rfl rfl (rm rfl) ?_
      refine a_seti (fun v3 ev3 => ?_)
      have h := h v3 ev3
      refine a_i2l (pc := 12) 0 8 rfl ?_
      refine a_aload_n (pc := 13) 0 9 rfl rfl ?_
      refine g_12_reserveRule (pc := 14) 0 10 rfl fl_X12_13 ?_
      refine a_i2l (pc := 17) 0 11 rfl ?_
      refine a_lmul (pc := 18) 0 12 rfl ?_
      refine a_ldc2 (pc := 19) 0 13 (v := 99) rfl cl_X12_277 ?_
      refine a_ladd (pc := 22) 0 14 rfl ?_
      refine a_ldc2 (pc := 23) 0 15 (v := 100) rfl cl_X12_264 ?_
      refine a_ldiv (pc := 26) 0 16 rfl (by decide) ?_
      refine a_l2i (pc := 27) 0 17 rfl ?_
      refine a_istore_n (pc := 28) 0 18 (ls2 := [some (vr 12 0), some (vi (nI j1)), some (vi ((((v3.toInt64 * ((σ2.2.1 kReserveRule 0).toInt64)) + 99) / 100).toInt32)), none, none]) rfl rfl (by decide) rfl ?_
      refine a_iload_n (pc := 29) 0 19 rfl rfl ?_
      refine a_aload_n (pc := 30) 0 20 rfl rfl ?_
      refine g_12_reserves (pc := 31) 0 21 rfl fl_X12_50 ?_
      refine a_iload_n (pc := 34) 0 22 rfl rfl ?_
      refine e_35 (pc := 35) 0 23 (j1) rfl rfl (by omega) ?_
      refine a_isub (pc := 36) 0 24 rfl ?_
      refine a_aload_n (pc := 37) 0 25 rfl rfl ?_
      refine g_12_vaults (pc := 38) 0 26 rfl fl_X12_53 ?_
      refine a_iload_n (pc := 41) 0 27 rfl rfl ?_
      refine e_36 (pc := 42) 0 28 (j1) rfl rfl (by omega) ?_
      refine a_isub (pc := 43) 0 29 rfl ?_
      refine a_iconst (pc := 44) 0 30 (v := 0) rfl (by decide) ?_
      refine a_callSi (pc := 45) 0 31 (c_X12_most (S := σ2) ((((((v3.toInt64 * ((σ2.2.1 kReserveRule 0).toInt64)) + 99) / 100).toInt32) - (σ2.2.1 kReserves j1)) - (σ2.2.1 kVaults j1)) 0) rfl cs_X12_161 rfl (rm rfl) ?_
      refine a_seti (fun v4 ev4 => ?_)
      have h := h v4 ev4
      refine a_istore_n (pc := 48) 0 32 (ls2 := [some (vr 12 0), some (vi (nI j1)), some (vi ((((v3.toInt64 * ((σ2.2.1 kReserveRule 0).toInt64)) + 99) / 100).toInt32)), some (vi v4), none]) rfl rfl (by decide) rfl ?_
      refine a_iload_n (pc := 49) 0 33 rfl rfl ?_
      refine a_aload_n (pc := 50) 0 34 rfl rfl ?_
      refine a_iload_n (pc := 51) 0 35 rfl rfl ?_
      have o5 := h
      refine a_callVi (pc := 52) 0 36 (c_X12_room (S := σ2) (nI j1) o5) rfl cv_X12_246 (by decide) rfl rfl rfl (rm rfl) ?_
      refine a_seti (fun v6 ev6 => ?_)
      refine a_callSi (pc := 55) 0 37 (c_X12_least (S := σ2) v4 v6) rfl cs_X12_193 rfl (rm rfl) ?_
      refine a_seti (fun v7 ev7 => ?_)
      refine a_istore (pc := 58) 0 38 (ls2 := [some (vr 12 0), some (vi (nI j1)), some (vi ((((v3.toInt64 * ((σ2.2.1 kReserveRule 0).toInt64)) + 99) / 100).toInt32)), some (vi v4), some (vi v7)]) rfl (by decide) rfl ?_
      refine a_aload_n (pc := 60) 0 39 rfl rfl ?_
      refine g_12_lent (pc := 61) 0 40 rfl fl_X12_56 ?_
      refine a_iload_n (pc := 64) 0 41 rfl rfl ?_
      refine a_dup2 (pc := 65) 0 42 rfl rfl rfl ?_
      refine e_37 (pc := 66) 0 43 (j1) rfl rfl (by omega) ?_
      refine a_iload (pc := 67) 0 44 rfl rfl ?_
      refine a_iadd (pc := 69) 0 45 rfl ?_
      refine s_37 (pc := 70) 0 46 (j1) rfl rfl (by omega) ?_
      refine a_set (fun S8 eS8 => ?_)
      refine a_aload_n (pc := 71) 0 47 rfl rfl ?_
      refine g_12_reserves (pc := 72) 1 0 rfl fl_X12_50 ?_
      refine a_iload_n (pc := 75) 1 1 rfl rfl ?_
      refine a_dup2 (pc := 76) 1 2 rfl rfl rfl ?_
      refine e_35 (pc := 77) 1 3 (j1) rfl rfl (by omega) ?_
      refine a_iload (pc := 78) 1 4 rfl rfl ?_
      refine a_iadd (pc := 80) 1 5 rfl ?_
      refine s_35 (pc := 81) 1 6 (j1) rfl rfl (by omega) ?_
      refine a_set (fun S9 eS9 => ?_)
      refine a_aload_n (pc := 82) 1 7 rfl rfl ?_
      refine g_12_areShort (pc := 83) 1 8 rfl fl_X12_66 ?_
      refine a_iload_n (pc := 86) 1 9 rfl rfl ?_
      refine a_iload_n (pc := 87) 1 10 rfl rfl ?_
      refine a_iload (pc := 88) 1 11 rfl rfl ?_
      have J98_13 : ∀ (v11 : Int32) (ev11 : (if v4 ≤ v7 then (0) else (1)) = v11), BW O G fdX12_asksReserves 0 0 (QV O G 0 0 PP) S9 98 [some (vr 12 0), some (vi (nI j1)), some (vi ((((v3.toInt64 * ((σ2.2.1 kReserveRule 0).toInt64)) + 99) / 100).toInt32)), some (vi v4), some (vi v7)] [vi v11, vi (nI j1), vr 40 0] := by
        intro v11 ev11
        refine s_40 (pc := 98) 1 16 (j1) rfl rfl (by omega) (by rw [← ev11]; repeat (first | exact Or.inl rfl | exact Or.inr rfl | assumption | split | dsimp only [lt])) ?_
        refine a_set (fun S12 eS12 => ?_)
        refine a_iinc (pc := 99) 1 17 (v := nI (j1 + 1)) (ls2 := [some (vr 12 0), some (vi (nI (j1 + 1))), some (vi ((((v3.toInt64 * ((σ2.2.1 kReserveRule 0).toInt64)) + 99) / 100).toInt32)), some (vi v4), some (vi v7)]) rfl rfl (iinc1 _) (by decide) rfl ?_
        refine a_goto (pc := 102) (tgt := 2) 1 18 rfl (by decide) ?_
        refine a_drop (ls2 := [some (vr 12 0), some (vi (nI (j1 + 1))), none, none, none]) (⟨rfl, rfl, trivial⟩) ?_
        exact ih_j1 (j1 + 1) (by omega) S12 (by rw [iter_succ, eσ2]; unfold b2_X12_asksReserves; exact ((lt_eq ev3).trans ((lt_eq ev4).trans ((lt_eq ev6).trans ((lt_eq ev7).trans ((lt_eq eS8).trans ((lt_eq eS9).trans ((lt_eq ev11).trans (lt_eq eS12)))))))))
      refine a_icmp_le (pc := 90) (tgt := 97) 1 12 rfl (by decide) (fun c90_9 => ?_) (fun c90_9 => ?_)
      · refine a_iconst (pc := 97) 1 15 (v := 0) rfl (by decide) ?_
        exact J98_13 _ (by exact (if_pos c90_9))
      · refine a_iconst (pc := 93) 1 13 (v := 1) rfl (by decide) ?_
        refine a_goto (pc := 94) (tgt := 98) 1 14 rfl (by decide) ?_
        exact J98_13 _ (by exact (if_neg c90_9))
  exact L2_12 (4) 0 (by omega) S rfl
theorem c_X12_asksReserves {S : Mem}    (h : ok_X12_asksReserves S ) : Cts mdX12_asksReserves 2 44 [vr 12 0] S (Is none (f_X12_asksReserves S )) := Cts.of dtX12_asksReserves (by decide +kernel) rfl rfl (Nat.le_of_ble_eq_true rfl) rfl (fun O G => w_X12_asksReserves  h (fun _ h9 => ⟨rfl, h9.symm⟩))
def f_X12_hasDrawn (S : Mem) (p1 : Int32) (p2 : Int32) : Int32 := lt (f_X12_isHousehold S p1) (fun (v1 : Int32) => lt (if v1 = 0 then (0) else (if (S.2.1 kDrawn (ix (((nI 4) * p1) + p2))) < ((S.2.1 kDays 0) - 1) then (0) else (1))) (fun (v5 : Int32) => v5))
def ok_X12_hasDrawn (S : Mem) (p1 : Int32) (p2 : Int32) : Prop := ((∀ v1 : Int32, (f_X12_isHousehold S p1) = v1 → (((¬ (v1 = 0)) → ((inb (((nI 4) * p1) + p2) 40))))))
abbrev fdX12_hasDrawn : FD := (mdX12_hasDrawn, [], 2, 42, 0, 0)
set_option maxRecDepth 100000 in
set_option maxHeartbeats 4000000 in
theorem w_X12_hasDrawn {O : Om} {G : Cx} {S : Mem} {PP : Option AV → Mem → Prop} (p1 : Int32) (p2 : Int32)   (h : ok_X12_hasDrawn S p1 p2) (hP : ∀ x9, f_X12_hasDrawn S p1 p2 = x9 → PP (some (vi x9)) S) : BW O G fdX12_hasDrawn 0 0 (QV O G 0 0 PP) S 0 [some (vr 12 0), some (vi p1), some (vi p2)] [] := by
  refine a_iload_n (pc := 0) 0 0 rfl rfl ?_
  refine a_callSi (pc := 1) 0 1 (c_X12_isHousehold (S := S) p1) rfl cs_X12_272 rfl (rm rfl) ?_
  refine a_seti (fun v1 ev1 => ?_)
  have h := h v1 ev1
  have J31_5 : ∀ (v5 : Int32) (ev5 : (if v1 = 0 then (0) else (if (S.2.1 kDrawn (ix (((nI 4) * p1) + p2))) < ((S.2.1 kDays 0) - 1) then (0) else (1))) = v5), BW O G fdX12_hasDrawn 0 0 (QV O G 0 0 PP) S 31 [some (vr 12 0), some (vi p1), some (vi p2)] [vi v5] := by
    intro v5 ev5
    exact a_zret (pc := 31) 0 19 rfl (nar_b (by rw [← ev5]; repeat (first | exact Or.inl rfl | exact Or.inr rfl | assumption | split | dsimp only [lt]))) rfl (hP _ (by unfold f_X12_hasDrawn; exact (lt_eq ev1).trans (lt_eq ev5)))
  refine a_if_eq (pc := 4) (tgt := 30) 0 2 rfl (by decide) (fun c4_1 => ?_) (fun c4_1 => ?_)
  · refine a_iconst (pc := 30) 0 18 (v := 0) rfl (by decide) ?_
    exact J31_5 _ (by exact (if_pos c4_1))
  · have h := h c4_1
    refine a_aload_n (pc := 7) 0 3 rfl rfl ?_
    refine g_12_drawn (pc := 8) 0 4 rfl fl_X12_41 ?_
    refine a_iconst (pc := 11) 0 5 (v := nI 4) rfl (by decide) ?_
    refine a_iload_n (pc := 12) 0 6 rfl rfl ?_
    refine a_imul (pc := 13) 0 7 rfl ?_
    refine a_iload_n (pc := 14) 0 8 rfl rfl ?_
    refine a_iadd (pc := 15) 0 9 rfl ?_
    have o3 := h
    refine e_32 (pc := 16) 0 10 (ix (((nI 4) * p1) + p2)) rfl o3.1 o3.2 ?_
    refine a_aload_n (pc := 17) 0 11 rfl rfl ?_
    refine g_12_days (pc := 18) 0 12 rfl fl_X12_196 ?_
    refine a_iconst (pc := 21) 0 13 (v := 1) rfl (by decide) ?_
    refine a_isub (pc := 22) 0 14 rfl ?_
    refine a_icmp_lt (pc := 23) (tgt := 30) 0 15 rfl (by decide) (fun c23_3 => ?_) (fun c23_3 => ?_)
    · refine a_iconst (pc := 30) 0 18 (v := 0) rfl (by decide) ?_
      exact J31_5 _ (by exact ((if_neg c4_1).trans (if_pos c23_3)))
    · refine a_iconst (pc := 26) 0 16 (v := 1) rfl (by decide) ?_
      refine a_goto (pc := 27) (tgt := 31) 0 17 rfl (by decide) ?_
      exact J31_5 _ (by exact ((if_neg c4_1).trans (if_neg c23_3)))
theorem c_X12_hasDrawn {S : Mem} (p1 : Int32) (p2 : Int32)   (h : ok_X12_hasDrawn S p1 p2) : Cts mdX12_hasDrawn 2 42 [vr 12 0, vi p1, vi p2] S (Is (some (vi (f_X12_hasDrawn S p1 p2))) (S)) := Cts.of dtX12_hasDrawn (by decide +kernel) rfl rfl (Nat.le_of_ble_eq_true rfl) rfl (fun O G => w_X12_hasDrawn p1 p2 h (fun _ h9 => ⟨by rw [h9], rfl⟩))
theorem b_X12_hasDrawn (S : Mem) (p1 : Int32) (p2 : Int32) : f_X12_hasDrawn S p1 p2 = 0 ∨ f_X12_hasDrawn S p1 p2 = 1 := by
  unfold f_X12_hasDrawn
  try dsimp only [lt]
  repeat (first | exact Or.inl rfl | exact Or.inr rfl | exact b_X12_isHousehold .. | split | dsimp only [lt])
def b2_X12_runs  (j1 : Nat) (σ2 : Mem) : Mem := lt (f_X12_hasAccount σ2 (nI j1)) (fun (v4 : Int32) => lt (if v4 = 0 then (σ2) else (lt (f_X12_free σ2 (nI j1)) (fun (v7 : Int32) => if v7 ≤ 0 then (σ2) else (if (σ2.2.1 kAreShort (ix (σ2.2.1 kBankOf j1))) = 0 then (lt (f_X12_hasDrawn σ2 ((nI j1) - 1) (σ2.2.1 kBankOf j1)) (fun (v17 : Int32) => if v17 = 0 then (lt (f_X12_hasDrawn σ2 ((nI j1) + 1) (σ2.2.1 kBankOf j1)) (fun (v25 : Int32) => if v25 = 0 then (σ2) else (lt (f_X12_free σ2 (nI j1)) (fun (v28 : Int32) => lt ((f_X12_draws σ2 (nI j1) v28).2) (fun (S30 : Mem) => lt ((f_X12_draws σ2 (nI j1) v28).1) (fun (v31 : Int32) => S30)))))) else (lt (f_X12_free σ2 (nI j1)) (fun (v20 : Int32) => lt ((f_X12_draws σ2 (nI j1) v20).2) (fun (S22 : Mem) => lt ((f_X12_draws σ2 (nI j1) v20).1) (fun (v23 : Int32) => S22)))))) else (lt (f_X12_free σ2 (nI j1)) (fun (v12 : Int32) => lt ((f_X12_draws σ2 (nI j1) v12).2) (fun (S14 : Mem) => lt ((f_X12_draws σ2 (nI j1) v12).1) (fun (v15 : Int32) => S14)))))))) (fun (S32 : Mem) => S32))
def f_X12_runs (S : Mem)  : Mem := lt (iter (b2_X12_runs) S (10)) (fun (σ2 : Mem) => σ2)
def ok_X12_runs (S : Mem)  : Prop := ((∀ j1 : Nat, j1 < 10 → ∀ σ2 : Mem, iter (b2_X12_runs) S j1 = σ2 → ((ok_X12_hasAccount σ2 (nI j1)) ∧ (∀ v4 : Int32, (f_X12_hasAccount σ2 (nI j1)) = v4 → (((¬ (v4 = 0)) → ((ok_X12_free σ2 (nI j1)) ∧ (∀ v7 : Int32, (f_X12_free σ2 (nI j1)) = v7 → (((¬ (v7 ≤ 0)) → ((inb (σ2.2.1 kBankOf j1) 4) ∧ ((¬ ((σ2.2.1 kAreShort (ix (σ2.2.1 kBankOf j1))) = 0)) → ((ok_X12_free σ2 (nI j1)) ∧ (∀ v12 : Int32, (f_X12_free σ2 (nI j1)) = v12 → ((ok_X12_draws σ2 (nI j1) v12))))) ∧ (((σ2.2.1 kAreShort (ix (σ2.2.1 kBankOf j1))) = 0) → ((ok_X12_hasDrawn σ2 ((nI j1) - 1) (σ2.2.1 kBankOf j1)) ∧ (∀ v17 : Int32, (f_X12_hasDrawn σ2 ((nI j1) - 1) (σ2.2.1 kBankOf j1)) = v17 → (((¬ (v17 = 0)) → ((ok_X12_free σ2 (nI j1)) ∧ (∀ v20 : Int32, (f_X12_free σ2 (nI j1)) = v20 → ((ok_X12_draws σ2 (nI j1) v20))))) ∧ ((v17 = 0) → ((ok_X12_hasDrawn σ2 ((nI j1) + 1) (σ2.2.1 kBankOf j1)) ∧ (∀ v25 : Int32, (f_X12_hasDrawn σ2 ((nI j1) + 1) (σ2.2.1 kBankOf j1)) = v25 → (((¬ (v25 = 0)) → ((ok_X12_free σ2 (nI j1)) ∧ (∀ v28 : Int32, (f_X12_free σ2 (nI j1)) = v28 → ((ok_X12_draws σ2 (nI j1) v28))))))))))))))))))))))))
abbrev fdX12_runs : FD := (mdX12_runs, [], 3, 80, 0, 0)
set_option maxRecDepth 100000 in
set_option maxHeartbeats 4000000 in
theorem w_X12_runs {O : Om} {G : Cx} {S : Mem} {PP : Option AV → Mem → Prop}    (h : ok_X12_runs S ) (hP : ∀ S9, f_X12_runs S  = S9 → PP none S9) : BW O G fdX12_runs 0 0 (QV O G 0 0 PP) S 0 [some (vr 12 0), none, none, none] [] := by
  refine a_iconst (pc := 0) 0 0 (v := 0) rfl (by decide) ?_
  refine a_istore_n (pc := 1) 0 1 (ls2 := [some (vr 12 0), some (vi 0), none, none]) rfl rfl (by decide) rfl ?_
  have hb_j1 := h
  have L2_32 : ∀ (m_j1 j1 : Nat), j1 + m_j1 = 10 → ∀ (σ2 : Mem), iter (b2_X12_runs) S j1 = σ2 → BW O G fdX12_runs 0 0 (QV O G 0 0 PP) σ2 2 [some (vr 12 0), some (vi (nI j1)), none, none] [] := by
    intro m_j1
    induction m_j1 with
    | zero =>
      intro j1 hj_j1 σ2 eσ2
      have hn_j1 : j1 = 10 := by omega
      rw [hn_j1] at eσ2
      refine a_iload_n (pc := 2) 0 2 rfl rfl ?_
      refine a_bipush (pc := 3) 0 3 (v := nI 10) rfl (by decide) ?_
      refine a_icmp_ge_t (pc := 5) (tgt := 79) 0 4 rfl (by decide) (nI_le (by omega) (by omega)) ?_
      exact a_vret (pc := 79) 0 46 rfl rfl (hP _ (by unfold f_X12_runs; exact lt_eq eσ2))
    | succ m_j1 ih_j1 =>
      intro j1 hj_j1 σ2 eσ2
      have h := hb_j1 j1 (by omega) σ2 eσ2
      refine a_iload_n (pc := 2) 0 2 rfl rfl ?_
      refine a_bipush (pc := 3) 0 3 (v := nI 10) rfl (by decide) ?_
      refine a_icmp_ge_f (pc := 5) (tgt := 79) 0 4 rfl (nI_ge (by omega) (by omega)) (by decide) ?_
      refine a_aload_n (pc := 8) 0 5 rfl rfl ?_
      refine g_12_bankOf (pc := 9) 0 6 rfl fl_X12_23 ?_
      refine a_iload_n (pc := 12) 0 7 rfl rfl ?_
      refine e_26 (pc := 13) 0 8 (j1) rfl rfl (by omega) ?_
      refine a_istore_n (pc := 14) 0 9 (ls2 := [some (vr 12 0), some (vi (nI j1)), some (vi (σ2.2.1 kBankOf j1)), none]) rfl rfl (by decide) rfl ?_
      refine a_aload_n (pc := 15) 0 10 rfl rfl ?_
      refine a_iload_n (pc := 16) 0 11 rfl rfl ?_
      obtain ⟨o3, h⟩ := h
      refine a_callVi (pc := 17) 0 12 (c_X12_hasAccount (S := σ2) (nI j1) o3) rfl cv_X12_184 (by decide) rfl rfl rfl (rm rfl) ?_
      refine a_seti (fun v4 ev4 => ?_)
      have h := h v4 ev4
      have J73_33 : ∀ (S32 : Mem) (eS32 : (if v4 = 0 then (σ2) else (lt (f_X12_free σ2 (nI j1)) (fun (v7 : Int32) => if v7 ≤ 0 then (σ2) else (if (σ2.2.1 kAreShort (ix (σ2.2.1 kBankOf j1))) = 0 then (lt (f_X12_hasDrawn σ2 ((nI j1) - 1) (σ2.2.1 kBankOf j1)) (fun (v17 : Int32) => if v17 = 0 then (lt (f_X12_hasDrawn σ2 ((nI j1) + 1) (σ2.2.1 kBankOf j1)) (fun (v25 : Int32) => if v25 = 0 then (σ2) else (lt (f_X12_free σ2 (nI j1)) (fun (v28 : Int32) => lt ((f_X12_draws σ2 (nI j1) v28).2) (fun (S30 : Mem) => lt ((f_X12_draws σ2 (nI j1) v28).1) (fun (v31 : Int32) => S30)))))) else (lt (f_X12_free σ2 (nI j1)) (fun (v20 : Int32) => lt ((f_X12_draws σ2 (nI j1) v20).2) (fun (S22 : Mem) => lt ((f_X12_draws σ2 (nI j1) v20).1) (fun (v23 : Int32) => S22)))))) else (lt (f_X12_free σ2 (nI j1)) (fun (v12 : Int32) => lt ((f_X12_draws σ2 (nI j1) v12).2) (fun (S14 : Mem) => lt ((f_X12_draws σ2 (nI j1) v12).1) (fun (v15 : Int32) => S14)))))))) = S32), BW O G fdX12_runs 0 0 (QV O G 0 0 PP) S32 73 [some (vr 12 0), some (vi (nI j1)), some (vi (σ2.2.1 kBankOf j1)), none] [] := by
        intro S32 eS32
        refine a_iinc (pc := 73) 0 44 (v := nI (j1 + 1)) (ls2 := [some (vr 12 0), some (vi (nI (j1 + 1))), some (vi (σ2.2.1 kBankOf j1)), none]) rfl rfl (iinc1 _) (by decide) rfl ?_
        refine a_goto (pc := 76) (tgt := 2) 0 45 rfl (by decide) ?_
        refine a_drop (ls2 := [some (vr 12 0), some (vi (nI (j1 + 1))), none, none]) (⟨rfl, rfl, trivial⟩) ?_
        exact ih_j1 (j1 + 1) (by omega) S32 (by rw [iter_succ, eσ2]; unfold b2_X12_runs; exact ((lt_eq ev4).trans (lt_eq eS32)))
      refine a_if_eq (pc := 20) (tgt := 73) 0 13 rfl (by decide) (fun c20_4 => ?_) (fun c20_4 => ?_)
      · exact J73_33 _ (by exact (if_pos c20_4))
      · have h := h c20_4
        refine a_aload_n (pc := 23) 0 14 rfl rfl ?_
        refine a_iload_n (pc := 24) 0 15 rfl rfl ?_
        obtain ⟨o6, h⟩ := h
        refine a_callVi (pc := 25) 0 16 (c_X12_free (S := σ2) (nI j1) o6) rfl cv_X12_202 (by decide) rfl rfl rfl (rm rfl) ?_
        refine a_seti (fun v7 ev7 => ?_)
        have h := h v7 ev7
        refine a_if_le (pc := 28) (tgt := 73) 0 17 rfl (by decide) (fun c28_7 => ?_) (fun c28_7 => ?_)
        · exact J73_33 _ (by exact ((if_neg c20_4).trans ((lt_eq ev7).trans (if_pos c28_7))))
        · have h := h c28_7
          refine a_aload_n (pc := 31) 0 18 rfl rfl ?_
          refine g_12_areShort (pc := 32) 0 19 rfl fl_X12_66 ?_
          refine a_iload_n (pc := 35) 0 20 rfl rfl ?_
          obtain ⟨o9, h⟩ := h
          refine e_40 (pc := 36) 0 21 (ix (σ2.2.1 kBankOf j1)) rfl o9.1 o9.2 ?_
          refine a_if_ne (pc := 37) (tgt := 62) 0 22 rfl (by decide) (fun c37_9 => ?_) (fun c37_9 => ?_)
          · have h := h.1 c37_9
            refine a_aload_n (pc := 62) 0 37 rfl rfl ?_
            refine a_iload_n (pc := 63) 0 38 rfl rfl ?_
            refine a_aload_n (pc := 64) 0 39 rfl rfl ?_
            refine a_iload_n (pc := 65) 0 40 rfl rfl ?_
            obtain ⟨o11, h⟩ := h
            refine a_callVi (pc := 66) 0 41 (c_X12_free (S := σ2) (nI j1) o11) rfl cv_X12_202 (by decide) rfl rfl rfl (rm rfl) ?_
            refine a_seti (fun v12 ev12 => ?_)
            have h := h v12 ev12
            have o13 := h
            refine a_callVi (pc := 69) 0 42 (c_X12_draws (S := σ2) (nI j1) v12 o13) rfl cv_X12_205 (by decide) rfl rfl rfl (rm rfl) ?_
            refine a_set (fun S14 eS14 => ?_)
            refine a_seti (fun v15 ev15 => ?_)
            refine a_istore_n (pc := 72) 0 43 (ls2 := [some (vr 12 0), some (vi (nI j1)), some (vi (σ2.2.1 kBankOf j1)), some (vi v15)]) rfl rfl (by decide) rfl ?_
            refine a_drop (ls2 := [some (vr 12 0), some (vi (nI j1)), some (vi (σ2.2.1 kBankOf j1)), none]) (⟨rfl, rfl, rfl, trivial⟩) ?_
            exact J73_33 _ (by exact ((if_neg c20_4).trans ((lt_eq ev7).trans ((if_neg c28_7).trans ((if_neg c37_9).trans ((lt_eq ev12).trans ((lt_eq eS14).trans (lt_eq ev15))))))))
          · have h := h.2 c37_9
            refine a_aload_n (pc := 40) 0 23 rfl rfl ?_
            refine a_iload_n (pc := 41) 0 24 rfl rfl ?_
            refine a_iconst (pc := 42) 0 25 (v := 1) rfl (by decide) ?_
            refine a_isub (pc := 43) 0 26 rfl ?_
            refine a_iload_n (pc := 44) 0 27 rfl rfl ?_
            obtain ⟨o16, h⟩ := h
            refine a_callVi (pc := 45) 0 28 (c_X12_hasDrawn (S := σ2) ((nI j1) - 1) (σ2.2.1 kBankOf j1) o16) rfl cv_X12_279 (by decide) rfl rfl rfl (rm rfl) ?_
            refine a_seti (fun v17 ev17 => ?_)
            have h := h v17 ev17
            refine a_if_ne (pc := 48) (tgt := 62) 0 29 rfl (by decide) (fun c48_17 => ?_) (fun c48_17 => ?_)
            · have h := h.1 c48_17
              refine a_aload_n (pc := 62) 0 37 rfl rfl ?_
              refine a_iload_n (pc := 63) 0 38 rfl rfl ?_
              refine a_aload_n (pc := 64) 0 39 rfl rfl ?_
              refine a_iload_n (pc := 65) 0 40 rfl rfl ?_
              obtain ⟨o19, h⟩ := h
              refine a_callVi (pc := 66) 0 41 (c_X12_free (S := σ2) (nI j1) o19) rfl cv_X12_202 (by decide) rfl rfl rfl (rm rfl) ?_
              refine a_seti (fun v20 ev20 => ?_)
              have h := h v20 ev20
              have o21 := h
              refine a_callVi (pc := 69) 0 42 (c_X12_draws (S := σ2) (nI j1) v20 o21) rfl cv_X12_205 (by decide) rfl rfl rfl (rm rfl) ?_
              refine a_set (fun S22 eS22 => ?_)
              refine a_seti (fun v23 ev23 => ?_)
              refine a_istore_n (pc := 72) 0 43 (ls2 := [some (vr 12 0), some (vi (nI j1)), some (vi (σ2.2.1 kBankOf j1)), some (vi v23)]) rfl rfl (by decide) rfl ?_
              refine a_drop (ls2 := [some (vr 12 0), some (vi (nI j1)), some (vi (σ2.2.1 kBankOf j1)), none]) (⟨rfl, rfl, rfl, trivial⟩) ?_
              exact J73_33 _ (by exact ((if_neg c20_4).trans ((lt_eq ev7).trans ((if_neg c28_7).trans ((if_pos c37_9).trans ((lt_eq ev17).trans ((if_neg c48_17).trans ((lt_eq ev20).trans ((lt_eq eS22).trans (lt_eq ev23))))))))))
            · have h := h.2 c48_17
              refine a_aload_n (pc := 51) 0 30 rfl rfl ?_
              refine a_iload_n (pc := 52) 0 31 rfl rfl ?_
              refine a_iconst (pc := 53) 0 32 (v := 1) rfl (by decide) ?_
              refine a_iadd (pc := 54) 0 33 rfl ?_
              refine a_iload_n (pc := 55) 0 34 rfl rfl ?_
              obtain ⟨o24, h⟩ := h
              refine a_callVi (pc := 56) 0 35 (c_X12_hasDrawn (S := σ2) ((nI j1) + 1) (σ2.2.1 kBankOf j1) o24) rfl cv_X12_279 (by decide) rfl rfl rfl (rm rfl) ?_
              refine a_seti (fun v25 ev25 => ?_)
              have h := h v25 ev25
              refine a_if_eq (pc := 59) (tgt := 73) 0 36 rfl (by decide) (fun c59_25 => ?_) (fun c59_25 => ?_)
              · exact J73_33 _ (by exact ((if_neg c20_4).trans ((lt_eq ev7).trans ((if_neg c28_7).trans ((if_pos c37_9).trans ((lt_eq ev17).trans ((if_pos c48_17).trans ((lt_eq ev25).trans (if_pos c59_25)))))))))
              · have h := h c59_25
                refine a_aload_n (pc := 62) 0 37 rfl rfl ?_
                refine a_iload_n (pc := 63) 0 38 rfl rfl ?_
                refine a_aload_n (pc := 64) 0 39 rfl rfl ?_
                refine a_iload_n (pc := 65) 0 40 rfl rfl ?_
                obtain ⟨o27, h⟩ := h
                refine a_callVi (pc := 66) 0 41 (c_X12_free (S := σ2) (nI j1) o27) rfl cv_X12_202 (by decide) rfl rfl rfl (rm rfl) ?_
                refine a_seti (fun v28 ev28 => ?_)
                have h := h v28 ev28
                have o29 := h
                refine a_callVi (pc := 69) 0 42 (c_X12_draws (S := σ2) (nI j1) v28 o29) rfl cv_X12_205 (by decide) rfl rfl rfl (rm rfl) ?_
                refine a_set (fun S30 eS30 => ?_)
                refine a_seti (fun v31 ev31 => ?_)
                refine a_istore_n (pc := 72) 0 43 (ls2 := [some (vr 12 0), some (vi (nI j1)), some (vi (σ2.2.1 kBankOf j1)), some (vi v31)]) rfl rfl (by decide) rfl ?_
                refine a_drop (ls2 := [some (vr 12 0), some (vi (nI j1)), some (vi (σ2.2.1 kBankOf j1)), none]) (⟨rfl, rfl, rfl, trivial⟩) ?_
                exact J73_33 _ (by exact ((if_neg c20_4).trans ((lt_eq ev7).trans ((if_neg c28_7).trans ((if_pos c37_9).trans ((lt_eq ev17).trans ((if_pos c48_17).trans ((lt_eq ev25).trans ((if_neg c59_25).trans ((lt_eq ev28).trans ((lt_eq eS30).trans (lt_eq ev31))))))))))))
  exact L2_32 (10) 0 (by omega) S rfl
theorem c_X12_runs {S : Mem}    (h : ok_X12_runs S ) : Cts mdX12_runs 3 80 [vr 12 0] S (Is none (f_X12_runs S )) := Cts.of dtX12_runs (by decide +kernel) rfl rfl (Nat.le_of_ble_eq_true rfl) rfl (fun O G => w_X12_runs  h (fun _ h9 => ⟨rfl, h9.symm⟩))
def b5_X12_changesPrices  (j1 : Nat) (σ2 : Int32 × Mem) : Int32 × Mem := lt (if (σ2.2.2.1 kBought (10 + j1)) < (nI 5) then (if (σ2.2.2.1 kBought (10 + j1)) = 0 then (if (σ2.2.2.1 kPrices (10 + j1)) ≤ 1 then (0) else ((-1))) else (0)) else (1)) (fun (v6 : Int32) => lt ((σ2.2.1, upd2 σ2.2.2.1 kPrices (10 + j1) ((σ2.2.2.1 kPrices (10 + j1)) + v6), σ2.2.2.2)) (fun (S7 : Mem) => lt ((S7.1, upd2 S7.2.1 kBought (10 + j1) 0, S7.2.2)) (fun (S8 : Mem) => (σ2.1 + (S8.2.1 kPrices (10 + j1)), S8))))
def b82_X12_changesPrices (σ2 : Int32 × Mem) (j9 : Nat) (σ10 : Mem) : Mem := lt ((σ10.1, upd2 σ10.2.1 kExpects j9 ((σ10.2.1 kExpects j9) + (((σ2.1 / (nI 6)) - (σ10.2.1 kExpects j9)) / (nI 4))), σ10.2.2)) (fun (S11 : Mem) => S11)
def f_X12_changesPrices (S : Mem)  : Mem := lt (iter (b5_X12_changesPrices) (0, S) (6)) (fun (σ2 : Int32 × Mem) => lt (iter (b82_X12_changesPrices σ2) σ2.2 (10)) (fun (σ10 : Mem) => σ10))
abbrev fdX12_changesPrices : FD := (mdX12_changesPrices, [], 0, 0, 0, 0)
set_option maxRecDepth 100000 in
set_option maxHeartbeats 4000000 in
theorem w_X12_changesPrices {O : Om} {G : Cx} {S : Mem} {PP : Option AV → Mem → Prop}    (hP : ∀ S9, f_X12_changesPrices S  = S9 → PP none S9) : BW O G fdX12_changesPrices 0 0 (QV O G 0 0 PP) S 0 [some (vr 12 0), none, none] [] := by
  refine a_iconst (pc := 0) 0 0 (v := 0) rfl (by decide) ?_
  refine a_istore_n (pc := 1) 0 1 (ls2 := [some (vr 12 0), some (vi 0), none]) rfl rfl (by decide) rfl ?_
  refine a_bipush (pc := 2) 0 2 (v := nI 10) rfl (by decide) ?_
  refine a_istore_n (pc := 4) 0 3 (ls2 := [some (vr 12 0), some (vi 0), some (vi (nI 10))]) rfl rfl (by decide) rfl ?_
  have L5_11 : ∀ (m_j1 j1 : Nat), j1 + m_j1 = 6 → ∀ (σ2 : Int32 × Mem), iter (b5_X12_changesPrices) (0, S) j1 = σ2 → BW O G fdX12_changesPrices 0 0 (QV O G 0 0 PP) σ2.2 5 [some (vr 12 0), some (vi σ2.1), some (vi (nI (10 + j1)))] [] := by
    intro m_j1
    induction m_j1 with
    | zero =>
      intro j1 hj_j1 σ2 eσ2
      have hn_j1 : j1 = 6 := by omega
      rw [hn_j1] at eσ2
      refine a_iload_n (pc := 5) 0 4 rfl rfl ?_
      refine a_bipush (pc := 6) 0 5 (v := nI 16) rfl (by decide) ?_
      refine a_icmp_ge_t (pc := 8) (tgt := 80) 0 6 rfl (by decide) (nI_le (by omega) (by omega)) ?_
      refine a_iconst (pc := 80) 1 2 (v := 0) rfl (by decide) ?_
      refine a_istore_n (pc := 81) 1 3 (ls2 := [some (vr 12 0), some (vi σ2.1), some (vi 0)]) rfl rfl (by decide) rfl ?_
      have L82_12 : ∀ (m_j9 j9 : Nat), j9 + m_j9 = 10 → ∀ (σ10 : Mem), iter (b82_X12_changesPrices σ2) σ2.2 j9 = σ10 → BW O G fdX12_changesPrices 0 0 (QV O G 0 0 PP) σ10 82 [some (vr 12 0), some (vi σ2.1), some (vi (nI j9))] [] := by
        intro m_j9
        induction m_j9 with
        | zero =>
          intro j9 hj_j9 σ10 eσ10
          have hn_j9 : j9 = 10 := by omega
          rw [hn_j9] at eσ10
          refine a_iload_n (pc := 82) 1 4 rfl rfl ?_
          refine a_bipush (pc := 83) 1 5 (v := nI 10) rfl (by decide) ?_
          refine a_icmp_ge_t (pc := 85) (tgt := 116) 1 6 rfl (by decide) (nI_le (by omega) (by omega)) ?_
          exact a_vret (pc := 116) 1 26 rfl rfl (hP _ (by unfold f_X12_changesPrices; exact (lt_eq eσ2).trans (lt_eq eσ10)))
        | succ m_j9 ih_j9 =>
          intro j9 hj_j9 σ10 eσ10
          refine a_iload_n (pc := 82) 1 4 rfl rfl ?_
          refine a_bipush (pc := 83) 1 5 (v := nI 10) rfl (by decide) ?_
          refine a_icmp_ge_f (pc := 85) (tgt := 116) 1 6 rfl (nI_ge (by omega) (by omega)) (by decide) ?_
          refine a_aload_n (pc := 88) 1 7 rfl rfl ?_
          refine g_12_expects (pc := 89) 1 8 rfl fl_X12_38 ?_
          refine a_iload_n (pc := 92) 1 9 rfl rfl ?_
          refine a_dup2 (pc := 93) 1 10 rfl rfl rfl ?_
          refine e_31 (pc := 94) 1 11 (j9) rfl rfl (by omega) ?_
          refine a_iload_n (pc := 95) 1 12 rfl rfl ?_
          refine a_bipush (pc := 96) 1 13 (v := nI 6) rfl (by decide) ?_
          refine a_idiv (pc := 98) 1 14 rfl (by decide) ?_
          refine a_aload_n (pc := 99) 1 15 rfl rfl ?_
          refine g_12_expects (pc := 100) 1 16 rfl fl_X12_38 ?_
          refine a_iload_n (pc := 103) 1 17 rfl rfl ?_
          refine e_31 (pc := 104) 1 18 (j9) rfl rfl (by omega) ?_
          refine a_isub (pc := 105) 1 19 rfl ?_
          refine a_iconst (pc := 106) 1 20 (v := nI 4) rfl (by decide) ?_
          refine a_idiv (pc := 107) 1 21 rfl (by decide) ?_
          refine a_iadd (pc := 108) 1 22 rfl ?_
          refine s_31 (pc := 109) 1 23 (j9) rfl rfl (by omega) ?_
          refine a_set (fun S11 eS11 => ?_)
          refine a_iinc (pc := 110) 1 24 (v := nI (j9 + 1)) (ls2 := [some (vr 12 0), some (vi σ2.1), some (vi (nI (j9 + 1)))]) rfl rfl (iinc1 _) (by decide) rfl ?_
          refine a_goto (pc := 113) (tgt := 82) 1 25 rfl (by decide) ?_
          exact ih_j9 (j9 + 1) (by omega) S11 (by rw [iter_succ, eσ10]; unfold b82_X12_changesPrices; exact (lt_eq eS11))
      exact L82_12 (10) 0 (by omega) σ2.2 rfl
    | succ m_j1 ih_j1 =>
      intro j1 hj_j1 σ2 eσ2
      refine a_iload_n (pc := 5) 0 4 rfl rfl ?_
      refine a_bipush (pc := 6) 0 5 (v := nI 16) rfl (by decide) ?_
      refine a_icmp_ge_f (pc := 8) (tgt := 80) 0 6 rfl (nI_ge (by omega) (by omega)) (by decide) ?_
      refine a_aload_n (pc := 11) 0 7 rfl rfl ?_
      refine g_12_prices (pc := 12) 0 8 rfl fl_X12_44 ?_
      refine a_iload_n (pc := 15) 0 9 rfl rfl ?_
      refine a_dup2 (pc := 16) 0 10 rfl rfl rfl ?_
      refine e_33 (pc := 17) 0 11 (10 + j1) rfl rfl (by omega) ?_
      refine a_aload_n (pc := 18) 0 12 rfl rfl ?_
      refine g_12_bought (pc := 19) 0 13 rfl fl_X12_47 ?_
      refine a_iload_n (pc := 22) 0 14 rfl rfl ?_
      refine e_34 (pc := 23) 0 15 (10 + j1) rfl rfl (by omega) ?_
      refine a_iconst (pc := 24) 0 16 (v := nI 5) rfl (by decide) ?_
      have J56_13 : ∀ (v6 : Int32) (ev6 : (if (σ2.2.2.1 kBought (10 + j1)) < (nI 5) then (if (σ2.2.2.1 kBought (10 + j1)) = 0 then (if (σ2.2.2.1 kPrices (10 + j1)) ≤ 1 then (0) else ((-1))) else (0)) else (1)) = v6), BW O G fdX12_changesPrices 0 0 (QV O G 0 0 PP) σ2.2 56 [some (vr 12 0), some (vi σ2.1), some (vi (nI (10 + j1)))] [vi v6, vi (σ2.2.2.1 kPrices (10 + j1)), vi (nI (10 + j1)), vr 33 0] := by
        intro v6 ev6
        refine a_iadd (pc := 56) 0 34 rfl ?_
        refine s_33 (pc := 57) 0 35 (10 + j1) rfl rfl (by omega) ?_
        refine a_set (fun S7 eS7 => ?_)
        refine a_aload_n (pc := 58) 0 36 rfl rfl ?_
        refine g_12_bought (pc := 59) 0 37 rfl fl_X12_47 ?_
        refine a_iload_n (pc := 62) 0 38 rfl rfl ?_
        refine a_iconst (pc := 63) 0 39 (v := 0) rfl (by decide) ?_
        refine s_34 (pc := 64) 0 40 (10 + j1) rfl rfl (by omega) ?_
        refine a_set (fun S8 eS8 => ?_)
        refine a_iload_n (pc := 65) 0 41 rfl rfl ?_
        refine a_aload_n (pc := 66) 0 42 rfl rfl ?_
        refine g_12_prices (pc := 67) 0 43 rfl fl_X12_44 ?_
        refine a_iload_n (pc := 70) 0 44 rfl rfl ?_
        refine e_33 (pc := 71) 0 45 (10 + j1) rfl rfl (by omega) ?_
        refine a_iadd (pc := 72) 0 46 rfl ?_
        refine a_istore_n (pc := 73) 0 47 (ls2 := [some (vr 12 0), some (vi (σ2.1 + (S8.2.1 kPrices (10 + j1)))), some (vi (nI (10 + j1)))]) rfl rfl (by decide) rfl ?_
        refine a_iinc (pc := 74) 1 0 (v := nI (10 + j1 + 1)) (ls2 := [some (vr 12 0), some (vi (σ2.1 + (S8.2.1 kPrices (10 + j1)))), some (vi (nI (10 + j1 + 1)))]) rfl rfl (iinc1 _) (by decide) rfl ?_
        refine a_goto (pc := 77) (tgt := 5) 1 1 rfl (by decide) ?_
        exact ih_j1 (j1 + 1) (by omega) (σ2.1 + (S8.2.1 kPrices (10 + j1)), S8) (by rw [iter_succ, eσ2]; unfold b5_X12_changesPrices; exact ((lt_eq ev6).trans ((lt_eq eS7).trans (lt_eq eS8))))
      refine a_icmp_lt (pc := 25) (tgt := 32) 0 17 rfl (by decide) (fun c25_2 => ?_) (fun c25_2 => ?_)
      · refine a_aload_n (pc := 32) 0 20 rfl rfl ?_
        refine g_12_bought (pc := 33) 0 21 rfl fl_X12_47 ?_
        refine a_iload_n (pc := 36) 0 22 rfl rfl ?_
        refine e_34 (pc := 37) 0 23 (10 + j1) rfl rfl (by omega) ?_
        refine a_if_ne (pc := 38) (tgt := 55) 0 24 rfl (by decide) (fun c38_3 => ?_) (fun c38_3 => ?_)
        · refine a_iconst (pc := 55) 0 33 (v := 0) rfl (by decide) ?_
          exact J56_13 _ (by exact ((if_pos c25_2).trans (if_neg c38_3)))
        · refine a_aload_n (pc := 41) 0 25 rfl rfl ?_
          refine g_12_prices (pc := 42) 0 26 rfl fl_X12_44 ?_
          refine a_iload_n (pc := 45) 0 27 rfl rfl ?_
          refine e_33 (pc := 46) 0 28 (10 + j1) rfl rfl (by omega) ?_
          refine a_iconst (pc := 47) 0 29 (v := 1) rfl (by decide) ?_
          refine a_icmp_le (pc := 48) (tgt := 55) 0 30 rfl (by decide) (fun c48_4 => ?_) (fun c48_4 => ?_)
          · refine a_iconst (pc := 55) 0 33 (v := 0) rfl (by decide) ?_
            exact J56_13 _ (by exact ((if_pos c25_2).trans ((if_pos c38_3).trans (if_pos c48_4))))
          · refine a_iconst (pc := 51) 0 31 (v := (-1)) rfl (by decide) ?_
            refine a_goto (pc := 52) (tgt := 56) 0 32 rfl (by decide) ?_
            exact J56_13 _ (by exact ((if_pos c25_2).trans ((if_pos c38_3).trans (if_neg c48_4))))
      · refine a_iconst (pc := 28) 0 18 (v := 1) rfl (by decide) ?_
        refine a_goto (pc := 29) (tgt := 56) 0 19 rfl (by decide) ?_
        exact J56_13 _ (by exact (if_neg c25_2))
  exact L5_11 (6) 0 (by omega) (0, S) rfl
theorem c_X12_changesPrices {S : Mem}    : Cts mdX12_changesPrices 0 0 [vr 12 0] S (Is none (f_X12_changesPrices S )) := Cts.of dtX12_changesPrices (by decide +kernel) rfl rfl (Nat.le_of_ble_eq_true rfl) rfl (fun O G => w_X12_changesPrices  (fun _ h9 => ⟨rfl, h9.symm⟩))
def b41_X12_goesBy  (j16 : Nat) (σ17 : Mem) : Mem := lt (if (σ17.2.1 kHaveFailed j16) = 0 then (lt (f_X12_capital σ17 (nI j16)) (fun (v20 : Int32) => if 0 ≤ v20 then (0) else (lt ((f_X12_fails σ17 (nI j16)).2) (fun (S23 : Mem) => lt ((f_X12_fails σ17 (nI j16)).1) (fun (v24 : Int32) => v24))))) else (0)) (fun (v25 : Int32) => lt (if (σ17.2.1 kHaveFailed j16) = 0 then (lt (f_X12_capital σ17 (nI j16)) (fun (v20 : Int32) => if 0 ≤ v20 then (σ17) else (lt ((f_X12_fails σ17 (nI j16)).2) (fun (S23 : Mem) => lt ((f_X12_fails σ17 (nI j16)).1) (fun (v24 : Int32) => S23))))) else (σ17)) (fun (S26 : Mem) => S26))
def f_X12_goesBy (S : Mem)  : Mem := lt ((S.1, upd2 S.2.1 kDays 0 ((S.2.1 kDays 0) + 1), S.2.2)) (fun (S1 : Mem) => lt (f_X12_paysWages S1 ) (fun (S3 : Mem) => lt (f_X12_takesInterest S3 ) (fun (S5 : Mem) => lt (f_X12_paysCentral S5 ) (fun (S6 : Mem) => lt ((f_X12_clears S6 ).2) (fun (S8 : Mem) => lt ((f_X12_clears S6 ).1) (fun (v9 : Int32) => lt (f_X12_paysBonds S8 ) (fun (S11 : Mem) => lt (f_X12_asksReserves S11 ) (fun (S13 : Mem) => lt (f_X12_runs S13 ) (fun (S15 : Mem) => lt (iter (b41_X12_goesBy) S15 (4)) (fun (σ17 : Mem) => lt (f_X12_changesPrices σ17 ) (fun (S27 : Mem) => S27)))))))))))
def ok_X12_goesBy (S : Mem)  : Prop := ((∀ S1 : Mem, ((S.1, upd2 S.2.1 kDays 0 ((S.2.1 kDays 0) + 1), S.2.2)) = S1 → ((ok_X12_paysWages S1 ) ∧ (∀ S3 : Mem, (f_X12_paysWages S1 ) = S3 → ((ok_X12_takesInterest S3 ) ∧ (∀ S5 : Mem, (f_X12_takesInterest S3 ) = S5 → ((∀ S6 : Mem, (f_X12_paysCentral S5 ) = S6 → ((ok_X12_clears S6 ) ∧ (∀ S8 : Mem, ((f_X12_clears S6 ).2) = S8 → ((∀ v9 : Int32, ((f_X12_clears S6 ).1) = v9 → ((ok_X12_paysBonds S8 ) ∧ (∀ S11 : Mem, (f_X12_paysBonds S8 ) = S11 → ((ok_X12_asksReserves S11 ) ∧ (∀ S13 : Mem, (f_X12_asksReserves S11 ) = S13 → ((ok_X12_runs S13 ) ∧ (∀ S15 : Mem, (f_X12_runs S13 ) = S15 → ((∀ j16 : Nat, j16 < 4 → ∀ σ17 : Mem, iter (b41_X12_goesBy) S15 j16 = σ17 → ((((σ17.2.1 kHaveFailed j16) = 0) → ((ok_X12_capital σ17 (nI j16)) ∧ (∀ v20 : Int32, (f_X12_capital σ17 (nI j16)) = v20 → (((¬ (0 ≤ v20)) → ((ok_X12_fails σ17 (nI j16)))))))))))))))))))))))))))))
abbrev fdX12_goesBy : FD := (mdX12_goesBy, [], 4, 103, 0, 0)
set_option maxRecDepth 100000 in
set_option maxHeartbeats 4000000 in
theorem w_X12_goesBy {O : Om} {G : Cx} {S : Mem} {PP : Option AV → Mem → Prop}    (h : ok_X12_goesBy S ) (hP : ∀ S9, f_X12_goesBy S  = S9 → PP none S9) : BW O G fdX12_goesBy 0 0 (QV O G 0 0 PP) S 0 [some (vr 12 0), none, none, none] [] := by
  refine a_aload_n (pc := 0) 0 0 rfl rfl ?_
  refine a_dup (pc := 1) 0 1 rfl rfl ?_
  refine g_12_days (pc := 2) 0 2 rfl fl_X12_196 ?_
  refine a_iconst (pc := 5) 0 3 (v := 1) rfl (by decide) ?_
  refine a_iadd (pc := 6) 0 4 rfl ?_
  refine p_12_days (pc := 7) 0 5 rfl fl_X12_196 ?_
  refine a_set (fun S1 eS1 => ?_)
  have h := h S1 eS1
  refine a_aload_n (pc := 10) 0 6 rfl rfl ?_
  obtain ⟨o2, h⟩ := h
  refine a_callVv (pc := 11) 0 7 (c_X12_paysWages (S := S1)  o2) rfl cv_X12_282 (by decide) rfl rfl rfl (rm rfl) ?_
  refine a_set (fun S3 eS3 => ?_)
  have h := h S3 eS3
  refine a_aload_n (pc := 14) 0 8 rfl rfl ?_
  obtain ⟨o4, h⟩ := h
  refine a_callVv (pc := 15) 0 9 (c_X12_takesInterest (S := S3)  o4) rfl cv_X12_285 (by decide) rfl rfl rfl (rm rfl) ?_
  refine a_set (fun S5 eS5 => ?_)
  have h := h S5 eS5
  refine a_aload_n (pc := 18) 0 10 rfl rfl ?_
  refine a_callVv (pc := 19) 0 11 (c_X12_paysCentral (S := S5) ) rfl cv_X12_288 (by decide) rfl rfl rfl (rm rfl) ?_
  refine a_set (fun S6 eS6 => ?_)
  have h := h S6 eS6
  refine a_aload_n (pc := 22) 0 12 rfl rfl ?_
  obtain ⟨o7, h⟩ := h
  refine a_callVi (pc := 23) 0 13 (c_X12_clears (S := S6)  o7) rfl cv_X12_226 (by decide) rfl rfl rfl (rm rfl) ?_
  refine a_set (fun S8 eS8 => ?_)
  have h := h S8 eS8
  refine a_seti (fun v9 ev9 => ?_)
  have h := h v9 ev9
  refine a_istore_n (pc := 26) 0 14 (ls2 := [some (vr 12 0), some (vi v9), none, none]) rfl rfl (by decide) rfl ?_
  refine a_aload_n (pc := 27) 0 15 rfl rfl ?_
  obtain ⟨o10, h⟩ := h
  refine a_callVv (pc := 28) 0 16 (c_X12_paysBonds (S := S8)  o10) rfl cv_X12_291 (by decide) rfl rfl rfl (rm rfl) ?_
  refine a_set (fun S11 eS11 => ?_)
  have h := h S11 eS11
  refine a_aload_n (pc := 31) 0 17 rfl rfl ?_
  obtain ⟨o12, h⟩ := h
  refine a_callVv (pc := 32) 0 18 (c_X12_asksReserves (S := S11)  o12) rfl cv_X12_294 (by decide) rfl rfl rfl (rm rfl) ?_
  refine a_set (fun S13 eS13 => ?_)
  have h := h S13 eS13
  refine a_aload_n (pc := 35) 0 19 rfl rfl ?_
  obtain ⟨o14, h⟩ := h
  refine a_callVv (pc := 36) 0 20 (c_X12_runs (S := S13)  o14) rfl cv_X12_297 (by decide) rfl rfl rfl (rm rfl) ?_
  refine a_set (fun S15 eS15 => ?_)
  have h := h S15 eS15
  refine a_iconst (pc := 39) 0 21 (v := 0) rfl (by decide) ?_
  refine a_istore_n (pc := 40) 0 22 (ls2 := [some (vr 12 0), some (vi v9), some (vi 0), none]) rfl rfl (by decide) rfl ?_
  have hb_j16 := h
  have L41_27 : ∀ (m_j16 j16 : Nat), j16 + m_j16 = 4 → ∀ (σ17 : Mem), iter (b41_X12_goesBy) S15 j16 = σ17 → BW O G fdX12_goesBy 0 0 (QV O G 0 0 PP) σ17 41 [some (vr 12 0), some (vi v9), some (vi (nI j16)), none] [] := by
    intro m_j16
    induction m_j16 with
    | zero =>
      intro j16 hj_j16 σ17 eσ17
      have hn_j16 : j16 = 4 := by omega
      rw [hn_j16] at eσ17
      refine a_iload_n (pc := 41) 0 23 rfl rfl ?_
      refine a_iconst (pc := 42) 0 24 (v := nI 4) rfl (by decide) ?_
      refine a_icmp_ge_t (pc := 43) (tgt := 79) 0 25 rfl (by decide) (nI_le (by omega) (by omega)) ?_
      refine a_aload_n (pc := 79) 0 43 rfl rfl ?_
      refine a_callVv (pc := 80) 0 44 (c_X12_changesPrices (S := σ17) ) rfl cv_X12_300 (by decide) rfl rfl rfl (rm rfl) ?_
      refine a_set (fun S27 eS27 => ?_)
      exact a_vret (pc := 83) 0 45 rfl rfl (hP _ (by unfold f_X12_goesBy; exact (lt_eq eS1).trans ((lt_eq eS3).trans ((lt_eq eS5).trans ((lt_eq eS6).trans ((lt_eq eS8).trans ((lt_eq ev9).trans ((lt_eq eS11).trans ((lt_eq eS13).trans ((lt_eq eS15).trans ((lt_eq eσ17).trans (lt_eq eS27))))))))))))
    | succ m_j16 ih_j16 =>
      intro j16 hj_j16 σ17 eσ17
      have h := hb_j16 j16 (by omega) σ17 eσ17
      refine a_iload_n (pc := 41) 0 23 rfl rfl ?_
      refine a_iconst (pc := 42) 0 24 (v := nI 4) rfl (by decide) ?_
      refine a_icmp_ge_f (pc := 43) (tgt := 79) 0 25 rfl (nI_ge (by omega) (by omega)) (by decide) ?_
      refine a_aload_n (pc := 46) 0 26 rfl rfl ?_
      refine g_12_haveFailed (pc := 47) 0 27 rfl fl_X12_62 ?_
      refine a_iload_n (pc := 50) 0 28 rfl rfl ?_
      refine e_39 (pc := 51) 0 29 (j16) rfl rfl (by omega) ?_
      have J72_28 : ∀ (v25 : Int32) (ev25 : (if (σ17.2.1 kHaveFailed j16) = 0 then (lt (f_X12_capital σ17 (nI j16)) (fun (v20 : Int32) => if 0 ≤ v20 then (0) else (lt ((f_X12_fails σ17 (nI j16)).2) (fun (S23 : Mem) => lt ((f_X12_fails σ17 (nI j16)).1) (fun (v24 : Int32) => v24))))) else (0)) = v25) (S26 : Mem) (eS26 : (if (σ17.2.1 kHaveFailed j16) = 0 then (lt (f_X12_capital σ17 (nI j16)) (fun (v20 : Int32) => if 0 ≤ v20 then (σ17) else (lt ((f_X12_fails σ17 (nI j16)).2) (fun (S23 : Mem) => lt ((f_X12_fails σ17 (nI j16)).1) (fun (v24 : Int32) => S23))))) else (σ17)) = S26), BW O G fdX12_goesBy 0 0 (QV O G 0 0 PP) S26 72 [some (vr 12 0), some (vi v9), some (vi (nI j16)), none] [vi v25] := by
        intro v25 ev25 S26 eS26
        refine a_istore_n (pc := 72) 0 40 (ls2 := [some (vr 12 0), some (vi v9), some (vi (nI j16)), some (vi v25)]) rfl rfl (by decide) rfl ?_
        refine a_iinc (pc := 73) 0 41 (v := nI (j16 + 1)) (ls2 := [some (vr 12 0), some (vi v9), some (vi (nI (j16 + 1))), some (vi v25)]) rfl rfl (iinc1 _) (by decide) rfl ?_
        refine a_goto (pc := 76) (tgt := 41) 0 42 rfl (by decide) ?_
        refine a_drop (ls2 := [some (vr 12 0), some (vi v9), some (vi (nI (j16 + 1))), none]) (⟨rfl, rfl, rfl, trivial⟩) ?_
        exact ih_j16 (j16 + 1) (by omega) S26 (by rw [iter_succ, eσ17]; unfold b41_X12_goesBy; exact ((lt_eq ev25).trans (lt_eq eS26)))
      refine a_if_ne (pc := 52) (tgt := 71) 0 30 rfl (by decide) (fun c52_17 => ?_) (fun c52_17 => ?_)
      · refine a_iconst (pc := 71) 0 39 (v := 0) rfl (by decide) ?_
        exact J72_28 _ (by exact (if_neg c52_17)) _ (by exact (if_neg c52_17))
      · have h := h c52_17
        refine a_aload_n (pc := 55) 0 31 rfl rfl ?_
        refine a_iload_n (pc := 56) 0 32 rfl rfl ?_
        obtain ⟨o19, h⟩ := h
        refine a_callVi (pc := 57) 0 33 (c_X12_capital (S := σ17) (nI j16) o19) rfl cv_X12_229 (by decide) rfl rfl rfl (rm rfl) ?_
        refine a_seti (fun v20 ev20 => ?_)
        have h := h v20 ev20
        refine a_if_ge (pc := 60) (tgt := 71) 0 34 rfl (by decide) (fun c60_20 => ?_) (fun c60_20 => ?_)
        · refine a_iconst (pc := 71) 0 39 (v := 0) rfl (by decide) ?_
          exact J72_28 _ (by exact ((if_pos c52_17).trans ((lt_eq ev20).trans (if_pos c60_20)))) _ (by exact ((if_pos c52_17).trans ((lt_eq ev20).trans (if_pos c60_20))))
        · have h := h c60_20
          refine a_aload_n (pc := 63) 0 35 rfl rfl ?_
          refine a_iload_n (pc := 64) 0 36 rfl rfl ?_
          have o22 := h
          refine a_callVi (pc := 65) 0 37 (c_X12_fails (S := σ17) (nI j16) o22) rfl cv_X12_199 (by decide) rfl rfl rfl (rm rfl) ?_
          refine a_set (fun S23 eS23 => ?_)
          refine a_seti (fun v24 ev24 => ?_)
          refine a_goto (pc := 68) (tgt := 72) 0 38 rfl (by decide) ?_
          exact J72_28 _ (by exact ((if_pos c52_17).trans ((lt_eq ev20).trans ((if_neg c60_20).trans ((lt_eq eS23).trans (lt_eq ev24)))))) _ (by exact ((if_pos c52_17).trans ((lt_eq ev20).trans ((if_neg c60_20).trans ((lt_eq eS23).trans (lt_eq ev24))))))
  exact L41_27 (4) 0 (by omega) S15 rfl
theorem c_X12_goesBy {S : Mem}    (h : ok_X12_goesBy S ) : Cts mdX12_goesBy 4 103 [vr 12 0] S (Is none (f_X12_goesBy S )) := Cts.of dtX12_goesBy (by decide +kernel) rfl rfl (Nat.le_of_ble_eq_true rfl) rfl (fun O G => w_X12_goesBy  h (fun _ h9 => ⟨rfl, h9.symm⟩))
def b4_X12_waitingNet (S : Mem) (p1 : Int32) (j1 : Nat) (σ2 : Int32) : Int32 := lt (if (S.2.1 kStates j1) = 0 then (lt (if (S.2.1 kBankOf (ix (S.2.1 kTos j1))) = p1 then (S.2.1 kAmounts j1) else (0)) (fun (v10 : Int32) => lt (if (S.2.1 kBankOf (ix (S.2.1 kFroms j1))) = p1 then (S.2.1 kAmounts j1) else (0)) (fun (v15 : Int32) => (σ2 + v10) - v15))) else (σ2)) (fun (v16 : Int32) => v16)
def f_X12_waitingNet (S : Mem) (p1 : Int32) : Int32 := lt (iter (b4_X12_waitingNet S p1) 0 (ix (S.2.1 kPayments 0))) (fun (σ2 : Int32) => σ2)
def ok_X12_waitingNet (S : Mem) (p1 : Int32) : Prop := ((∀ j1 : Nat, j1 ≤ ix (S.2.1 kPayments 0) → ∀ σ2 : Int32, iter (b4_X12_waitingNet S p1) 0 j1 = σ2 → S.2.1 kPayments 0 = nI (ix (S.2.1 kPayments 0))) ∧ (∀ j1 : Nat, j1 < ix (S.2.1 kPayments 0) → ∀ σ2 : Int32, iter (b4_X12_waitingNet S p1) 0 j1 = σ2 → ((j1 < 200) ∧ (((S.2.1 kStates j1) = 0) → ((j1 < 200) ∧ (inb (S.2.1 kTos j1) 16) ∧ (((S.2.1 kBankOf (ix (S.2.1 kTos j1))) = p1) → ((j1 < 200))) ∧ (∀ v10 : Int32, (if (S.2.1 kBankOf (ix (S.2.1 kTos j1))) = p1 then (S.2.1 kAmounts j1) else (0)) = v10 → ((j1 < 200) ∧ (inb (S.2.1 kFroms j1) 16) ∧ (((S.2.1 kBankOf (ix (S.2.1 kFroms j1))) = p1) → ((j1 < 200))))))))))
abbrev fdX12_waitingNet : FD := (mdX12_waitingNet, [], 0, 0, 0, 0)
set_option maxRecDepth 100000 in
set_option maxHeartbeats 4000000 in
theorem w_X12_waitingNet {O : Om} {G : Cx} {S : Mem} {PP : Option AV → Mem → Prop} (p1 : Int32)   (h : ok_X12_waitingNet S p1) (hP : ∀ x9, f_X12_waitingNet S p1 = x9 → PP (some (vi x9)) S) : BW O G fdX12_waitingNet 0 0 (QV O G 0 0 PP) S 0 [some (vr 12 0), some (vi p1), none, none] [] := by
  refine a_iconst (pc := 0) 0 0 (v := 0) rfl (by decide) ?_
  refine a_istore_n (pc := 1) 0 1 (ls2 := [some (vr 12 0), some (vi p1), some (vi 0), none]) rfl rfl (by decide) rfl ?_
  refine a_iconst (pc := 2) 0 2 (v := 0) rfl (by decide) ?_
  refine a_istore_n (pc := 3) 0 3 (ls2 := [some (vr 12 0), some (vi p1), some (vi 0), some (vi 0)]) rfl rfl (by decide) rfl ?_
  obtain ⟨o3, hb_j1⟩ := h
  have nlt_j1 := ix_lt (S.2.1 kPayments 0)
  have L4_16 : ∀ (m_j1 j1 : Nat), j1 + m_j1 = ix (S.2.1 kPayments 0) → ∀ (σ2 : Int32), iter (b4_X12_waitingNet S p1) 0 j1 = σ2 → BW O G fdX12_waitingNet 0 0 (QV O G 0 0 PP) S 4 [some (vr 12 0), some (vi p1), some (vi σ2), some (vi (nI j1))] [] := by
    intro m_j1
    induction m_j1 with
    | zero =>
      intro j1 hj_j1 σ2 eσ2
      have o3 := o3 j1 (by omega) σ2 eσ2
      have hn_j1 : j1 = ix (S.2.1 kPayments 0) := by omega
      rw [hn_j1] at eσ2
      refine a_iload_n (pc := 4) 0 4 rfl rfl ?_
      refine a_aload_n (pc := 5) 0 5 rfl rfl ?_
      refine g_12_payments (pc := 6) 0 6 rfl fl_X12_187 ?_
      refine a_icmp_ge_t (pc := 9) (tgt := 83) 0 7 rfl (by decide) (bd_t (o3) (by omega)) ?_
      refine a_iload_n (pc := 83) 1 3 rfl rfl ?_
      exact a_iret (pc := 84) 1 4 rfl rfl (hP _ (by unfold f_X12_waitingNet; exact lt_eq eσ2))
    | succ m_j1 ih_j1 =>
      intro j1 hj_j1 σ2 eσ2
      have o3 := o3 j1 (by omega) σ2 eσ2
      have h := hb_j1 j1 (by omega) σ2 eσ2
      refine a_iload_n (pc := 4) 0 4 rfl rfl ?_
      refine a_aload_n (pc := 5) 0 5 rfl rfl ?_
      refine g_12_payments (pc := 6) 0 6 rfl fl_X12_187 ?_
      refine a_icmp_ge_f (pc := 9) (tgt := 83) 0 7 rfl (bd_f (o3) (by omega)) (by decide) ?_
      refine a_aload_n (pc := 12) 0 8 rfl rfl ?_
      refine g_12_states (pc := 13) 0 9 rfl fl_X12_99 ?_
      refine a_iload_n (pc := 16) 0 10 rfl rfl ?_
      obtain ⟨o4, h⟩ := h
      refine e_51 (pc := 17) 0 11 (j1) rfl rfl o4 ?_
      have J77_17 : ∀ (v16 : Int32) (ev16 : (if (S.2.1 kStates j1) = 0 then (lt (if (S.2.1 kBankOf (ix (S.2.1 kTos j1))) = p1 then (S.2.1 kAmounts j1) else (0)) (fun (v10 : Int32) => lt (if (S.2.1 kBankOf (ix (S.2.1 kFroms j1))) = p1 then (S.2.1 kAmounts j1) else (0)) (fun (v15 : Int32) => (σ2 + v10) - v15))) else (σ2)) = v16), BW O G fdX12_waitingNet 0 0 (QV O G 0 0 PP) S 77 [some (vr 12 0), some (vi p1), some (vi v16), some (vi (nI j1))] [] := by
        intro v16 ev16
        refine a_iinc (pc := 77) 1 1 (v := nI (j1 + 1)) (ls2 := [some (vr 12 0), some (vi p1), some (vi v16), some (vi (nI (j1 + 1)))]) rfl rfl (iinc1 _) (by decide) rfl ?_
        refine a_goto (pc := 80) (tgt := 4) 1 2 rfl (by decide) ?_
        exact ih_j1 (j1 + 1) (by omega) v16 (by rw [iter_succ, eσ2]; unfold b4_X12_waitingNet; exact (lt_eq ev16))
      refine a_if_ne (pc := 18) (tgt := 77) 0 12 rfl (by decide) (fun c18_4 => ?_) (fun c18_4 => ?_)
      · exact J77_17 _ (by exact (if_neg c18_4))
      · have h := h c18_4
        refine a_iload_n (pc := 21) 0 13 rfl rfl ?_
        refine a_aload_n (pc := 22) 0 14 rfl rfl ?_
        refine g_12_bankOf (pc := 23) 0 15 rfl fl_X12_23 ?_
        refine a_aload_n (pc := 26) 0 16 rfl rfl ?_
        refine g_12_tos (pc := 27) 0 17 rfl fl_X12_93 ?_
        refine a_iload_n (pc := 30) 0 18 rfl rfl ?_
        obtain ⟨o6, h⟩ := h
        refine e_49 (pc := 31) 0 19 (j1) rfl rfl o6 ?_
        obtain ⟨o7, h⟩ := h
        refine e_26 (pc := 32) 0 20 (ix (S.2.1 kTos j1)) rfl o7.1 o7.2 ?_
        refine a_iload_n (pc := 33) 0 21 rfl rfl ?_
        obtain ⟨hr0, h⟩ := h
        have J47_18 : ∀ (v10 : Int32) (ev10 : (if (S.2.1 kBankOf (ix (S.2.1 kTos j1))) = p1 then (S.2.1 kAmounts j1) else (0)) = v10), BW O G fdX12_waitingNet 0 0 (QV O G 0 0 PP) S 47 [some (vr 12 0), some (vi p1), some (vi σ2), some (vi (nI j1))] [vi v10, vi σ2] := by
          intro v10 ev10
          have h := h v10 ev10
          refine a_iadd (pc := 47) 0 29 rfl ?_
          refine a_istore_n (pc := 48) 0 30 (ls2 := [some (vr 12 0), some (vi p1), some (vi (σ2 + v10)), some (vi (nI j1))]) rfl rfl (by decide) rfl ?_
          refine a_iload_n (pc := 49) 0 31 rfl rfl ?_
          refine a_aload_n (pc := 50) 0 32 rfl rfl ?_
          refine g_12_bankOf (pc := 51) 0 33 rfl fl_X12_23 ?_
          refine a_aload_n (pc := 54) 0 34 rfl rfl ?_
          refine g_12_froms (pc := 55) 0 35 rfl fl_X12_90 ?_
          refine a_iload_n (pc := 58) 0 36 rfl rfl ?_
          obtain ⟨o11, h⟩ := h
          refine e_48 (pc := 59) 0 37 (j1) rfl rfl o11 ?_
          obtain ⟨o12, h⟩ := h
          refine e_26 (pc := 60) 0 38 (ix (S.2.1 kFroms j1)) rfl o12.1 o12.2 ?_
          refine a_iload_n (pc := 61) 0 39 rfl rfl ?_
          have J75_19 : ∀ (v15 : Int32) (ev15 : (if (S.2.1 kBankOf (ix (S.2.1 kFroms j1))) = p1 then (S.2.1 kAmounts j1) else (0)) = v15), BW O G fdX12_waitingNet 0 0 (QV O G 0 0 PP) S 75 [some (vr 12 0), some (vi p1), some (vi (σ2 + v10)), some (vi (nI j1))] [vi v15, vi (σ2 + v10)] := by
            intro v15 ev15
            refine a_isub (pc := 75) 0 47 rfl ?_
            refine a_istore_n (pc := 76) 1 0 (ls2 := [some (vr 12 0), some (vi p1), some (vi ((σ2 + v10) - v15)), some (vi (nI j1))]) rfl rfl (by decide) rfl ?_
            exact J77_17 _ (by exact ((if_pos c18_4).trans ((lt_eq ev10).trans (lt_eq ev15))))
          refine a_icmp_ne (pc := 62) (tgt := 74) 0 40 rfl (by decide) (fun c62_12 => ?_) (fun c62_12 => ?_)
          · refine a_iconst (pc := 74) 0 46 (v := 0) rfl (by decide) ?_
            exact J75_19 _ (by exact (if_neg c62_12))
          · have h := h c62_12
            refine a_aload_n (pc := 65) 0 41 rfl rfl ?_
            refine g_12_amounts (pc := 66) 0 42 rfl fl_X12_96 ?_
            refine a_iload_n (pc := 69) 0 43 rfl rfl ?_
            have o14 := h
            refine e_50 (pc := 70) 0 44 (j1) rfl rfl o14 ?_
            refine a_goto (pc := 71) (tgt := 75) 0 45 rfl (by decide) ?_
            exact J75_19 _ (by exact (if_pos c62_12))
        have h := hr0
        refine a_icmp_ne (pc := 34) (tgt := 46) 0 22 rfl (by decide) (fun c34_7 => ?_) (fun c34_7 => ?_)
        · refine a_iconst (pc := 46) 0 28 (v := 0) rfl (by decide) ?_
          exact J47_18 _ (by exact (if_neg c34_7))
        · have h := h c34_7
          refine a_aload_n (pc := 37) 0 23 rfl rfl ?_
          refine g_12_amounts (pc := 38) 0 24 rfl fl_X12_96 ?_
          refine a_iload_n (pc := 41) 0 25 rfl rfl ?_
          have o9 := h
          refine e_50 (pc := 42) 0 26 (j1) rfl rfl o9 ?_
          refine a_goto (pc := 43) (tgt := 47) 0 27 rfl (by decide) ?_
          exact J47_18 _ (by exact (if_pos c34_7))
  exact L4_16 (ix (S.2.1 kPayments 0)) 0 (by omega) 0 rfl
theorem c_X12_waitingNet {S : Mem} (p1 : Int32)   (h : ok_X12_waitingNet S p1) : Cts mdX12_waitingNet 0 0 [vr 12 0, vi p1] S (Is (some (vi (f_X12_waitingNet S p1))) (S)) := Cts.of dtX12_waitingNet (by decide +kernel) rfl rfl (Nat.le_of_ble_eq_true rfl) rfl (fun O G => w_X12_waitingNet p1 h (fun _ h9 => ⟨by rw [h9], rfl⟩))
