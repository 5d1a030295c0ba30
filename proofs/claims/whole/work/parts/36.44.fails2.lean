theorem fail_ok {u v L : Int} {A B : Mem} {d : Int32} {b : Nat} (h : Rel A.1 B.2.1 d) (n : Num u v L B.2.1) (hu : u ≤ 5120000) (hv : v ≤ 5120000) (hL : 0 ≤ L) (hL2 : L ≤ 190000000) (hb : b < 4) (h0 : B.2.1 kHaveFailed b = 0) :
    ok_X11_failBank A (nI b) ∧ ok_X12_fails B (nI b) ∧ (f_X11_failBank A (nI b)).1 = (f_X12_fails B (nI b)).1 ∧ Rel (f_X11_failBank A (nI b)).2.1 (f_X12_fails B (nI b)).2.2.1 d ∧ Num u v L (f_X12_fails B (nI b)).2.2.1 ∧
    (∀ k, [5, 7, 8, 9, 16, 17, 18, 20, 21, 26, 34, 41, 42, 43, 44, 45].contains k = false → (f_X12_fails B (nI b)).2.2.1 k = B.2.1 k) ∧ (∀ c, c ≠ b → (f_X12_fails B (nI b)).2.2.1 kLent c = B.2.1 kLent c ∧ (f_X12_fails B (nI b)).2.2.1 kHaveFailed c = B.2.1 kHaveFailed c) ∧ (f_X12_fails B (nI b)).2.2.1 kLent b = 0 ∧ (f_X12_fails B (nI b)).2.2.1 kHaveFailed b = 1 := by
  have ib : inb (nI b) 4 := inb_nI hb (by omega)
  have eib : ix (nI b) = b := ix_nI (by omega)
  have hbk : ∀ S : Mem, f_X3_bank S (nI b) = b := fun S => bank_nI hb
  obtain ⟨t1, t2, t3, t4, t5, t6, t7, t8⟩ := back_ok (x := nI b) h n
  have e02 : (f_X12_takesBack B (nI b)).2.1 kHaveFailed b = 0 := by rw [t8 kHaveFailed (by decide)]; exact h0
  generalize hA2 : f_X10_takeBack A (nI b) = A2 at t2 t4
  generalize hA4 : f_X2_dropBids A2 (nI b) = A4 at t4
  generalize hB2 : f_X12_takesBack B (nI b) = B2 at t4 t5 t6 t7 t8 e02
  have i0 := t5.2.2.2.2.2.1.1
  have i1 := t5.2.2.2.2.2.2.1.1
  obtain ⟨a1, a2⟩ := of_C (o := b) t4 i0 (by omega)
  obtain ⟨l1, l2⟩ := left_C (x := nI b) t4 i1
  obtain ⟨a3, a4⟩ := of_R (B := B2) (o := b) i0 (by omega)
  obtain ⟨l3, l4⟩ := left_R (B := B2) (x := nI b) i1
  have e9 := (ninety (o := b) t5 (by omega) (S := A4)).1
  have e10 := (fifty (x := nI b) t5 (S := A4)).1
  have q9 := (ninety (o := b) t5 (by omega) (S := A4)).2
  have q10 := (fifty (x := nI b) t5 (S := A4)).2
  have rRe : A4.1 kReserves b = B2.2.1 kReserves b := t4.sh kReserves b hb
  have rVa : A4.1 kVaults b = B2.2.1 kVaults b := t4.sh kVaults b hb
  have rLe : A4.1 kLent b = B2.2.1 kLent b := t4.sh kLent b hb
  have hre := re_hi t5 hv hb
  have hbo := bonS_bd (o := b) t5 (by omega)
  have hlo := loaS_bd t5 (nI b)
  obtain ⟨-, -, le1, le2, -⟩ := t5.2.2.2.1 b hb
  obtain ⟨o12, -, -, r12⟩ := t4.noteC (B2.2.1 kReserves b + B2.2.1 kVaults b + bonS B2.2.1 b + loaS B2.2.1 (nI b) - B2.2.1 kLent b)
  generalize hS12 : f_X3_noteCentral A4 (B2.2.1 kReserves b + B2.2.1 kVaults b + bonS B2.2.1 b + loaS B2.2.1 (nI b) - B2.2.1 kLent b) = S12 at r12
  obtain ⟨v1, v2, v3, v4, v5, v6, v7, v8, v9⟩ := over_ok (A := S12) (B := B2) (b := b) r12 t5 hL hb e02 t6 t7
  generalize hP : B2.2.1 kReserves b + B2.2.1 kVaults b + nI 90 * bonS B2.2.1 b / nI 100 + nI 50 * loaS B2.2.1 (nI b) / nI 100 - B2.2.1 kLent b = P
  have hPb : -1000000000 ≤ P.toInt ∧ P.toInt ≤ 1000000000 := by
    rw [← hP, w_sub, w_add, w_add, w_add, q9, q10]
    omega
  generalize hS14 : f_X2_moveToCentral S12 (nI b) (bonS B2.2.1 b) = S14 at v2 v4
  generalize hS16 : f_X7_moveToCentral S14 (nI b) = S16 at v4
  generalize hS17 : f_X0_end S16 b = S17 at v4
  generalize hB3 : f_X12_takesOver B2 (nI b) = B3 at v4 v5 v6 v7 v8 v9
  have hw3 : noneW (nI b) B3.2.1 (ix (B3.2.1 kPayments 0)) := by
    intro p hp hs
    rw [v6 kPayments (by decide)] at hp
    rw [v6 kStates (by decide)] at hs
    rw [v6 kBankOf (by decide), v6 kFroms (by decide), v6 kTos (by decide)]
    exact t6 p hp hs
  obtain ⟨w1, w2, w3, w4, w5⟩ := pay_ok (A := S17) (B2 := B2) (B := B3) (P := P) (Q := if P ≤ 0 then 0 else P) v4 v5 hu hv hb v9 hw3 (v6 kAccounts (by decide)).symm (v6 kBankOf (by decide)).symm hPb.1 hPb.2 rfl
  obtain ⟨x1, x2, x3⟩ := w5 _ rfl
  clear w5
  obtain ⟨W, hW⟩ : ∃ W, iter (b146_X12_fails (nI b) (iter (b62_X12_fails (nI b) B2) ((if P ≤ 0 then 0 else P), 0) 16) (if (iter (b62_X12_fails (nI b) B2) ((if P ≤ 0 then 0 else P), 0) 16).1 ≤ 0 then 0 else (iter (b62_X12_fails (nI b) B2) ((if P ≤ 0 then 0 else P), 0) 16).1) (f_X12_nextBank B3)) (0, B3) 16 = W := ⟨_, rfl⟩
  rw [hW] at w2 x1 x2 x3
  obtain ⟨PO, hPO⟩ : ∃ z, f_X3_payOut S17 (nI b) P = z := ⟨_, rfl⟩
  rw [hPO] at w2 x1
  obtain ⟨o22, -, -, r22⟩ := x1.noteC (-PO.1)
  obtain ⟨NC, hNC⟩ : ∃ z, f_X3_noteCentral PO.2 (-PO.1) = z := ⟨_, rfl⟩
  rw [hNC] at r22
  have eqC : f_X11_failBank A (nI b) = (PO.1, NC) := by
    unfold f_X11_failBank
    rw [hbk, lt_x, hA2, lt_x, hA4, lt_x, a1, lt_x, l1, lt_x, e9, lt_x, e10, rRe, rVa, rLe, hP, lt_x, hS12, lt_x, hS14, lt_x, hS16, lt_x, hS17, lt_x, lt_x, lt_x, hPO, hNC]
  have okC : ok_X11_failBank A (nI b) := by
    unfold ok_X11_failBank
    rw [hbk]
    refine ⟨t1, fun S2 e2 => ?_⟩
    rw [hA2] at e2
    subst e2
    refine ⟨t2, fun S4 e4 => ?_⟩
    rw [hA4] at e4
    subst e4
    refine ⟨a2, fun u6 e6 => ⟨l2, fun u8 e8 u9 e9' u10 e10' => ?_⟩⟩
    rw [a1] at e6
    rw [l1] at e8
    subst e6
    subst e8
    rw [e9] at e9'
    rw [e10] at e10'
    subst e9'
    subst e10'
    rw [rRe, rVa, rLe, hP]
    refine ⟨o12, fun s12 e12 => ?_⟩
    rw [hS12] at e12
    subst e12
    refine ⟨v1, fun s14 e14 => ?_⟩
    rw [hS14] at e14
    subst e14
    refine ⟨v2, fun s16 e16 => ?_⟩
    rw [hS16] at e16
    subst e16
    intro s17 e17
    rw [hS17] at e17
    subst e17
    refine ⟨w1, fun s19 e19 u20 e20 => ?_⟩
    rw [hPO] at e19 e20
    subst e19
    subst e20
    exact o22
  have okR : ok_X12_fails B (nI b) := by
    unfold ok_X12_fails
    rw [eib]
    refine ⟨t3, fun S2 e2 => ?_⟩
    rw [hB2] at e2
    subst e2
    refine ⟨ib, ib, a4, fun u6 e6 => ⟨l4, fun u8 e8 => ⟨ib, fun u10 e10' σ12 e12 u17 e17 => ⟨v3, fun S19 e19 u20 e20 => ⟨fun j hj σ22 e22 => ?_, fun σ22 _ c => ?_⟩⟩⟩⟩⟩
    · rw [a3] at e6
      rw [l3] at e8
      subst e6
      subst e8
      rw [hP, most_eq] at e10'
      subst e10'
      subst e12
      rw [most_eq] at e17
      subst e17
      rw [hB3] at e19
      subst e19
      subst e20
      subst e22
      exact w3 j hj
    · rw [hB3] at e19
      subst e19
      subst e20
      rcases w4 with q | ⟨q, -⟩
      · exact absurd q c
      · exact ⟨q, q⟩
  have eqR : f_X12_fails B (nI b) = (W.1, if f_X12_nextBank B3 = -1 then W.2 else (W.2.1, upd2 W.2.2.1 kReserves (ix (f_X12_nextBank B3)) (W.2.2.1 kReserves (ix (f_X12_nextBank B3)) + W.1), W.2.2.2)) := by
    unfold f_X12_fails
    rw [eib, lt_x, hB2, lt_x, a3, lt_x, l3, hP, lt_x, most_eq, lt_x, lt_x, most_eq, lt_x, hB3, lt_x, lt_x, hW, lt_x, lt_x]
  have eqR2 : (f_X12_fails B (nI b)).2.2.1 = (if f_X12_nextBank B3 = -1 then W.2.2.1 else upd2 W.2.2.1 kReserves (ix (f_X12_nextBank B3)) (W.2.2.1 kReserves (ix (f_X12_nextBank B3)) + W.1)) := by
    rw [eqR]
    show (if f_X12_nextBank B3 = -1 then W.2 else (W.2.1, upd2 W.2.2.1 kReserves (ix (f_X12_nextBank B3)) (W.2.2.1 kReserves (ix (f_X12_nextBank B3)) + W.1), W.2.2.2)).2.1 = _
    split <;> rfl
  have eqR1 : (f_X12_fails B (nI b)).1 = W.1 := by rw [eqR]
  have fin : ∀ FC FR : Int32 × Mem, FC.1 = FR.1 → Rel FC.2.1 FR.2.2.1 d → Num u v L FR.2.2.1 → (∀ k, k ≠ 5 → k ≠ 7 → k ≠ 8 → k ≠ 16 → FR.2.2.1 k = B3.2.1 k) → FC.1 = FR.1 ∧ Rel FC.2.1 FR.2.2.1 d ∧ Num u v L FR.2.2.1 ∧ (∀ k, [5, 7, 8, 9, 16, 17, 18, 20, 21, 26, 34, 41, 42, 43, 44, 45].contains k = false → FR.2.2.1 k = B.2.1 k) ∧ (∀ c, c ≠ b → FR.2.2.1 kLent c = B.2.1 kLent c ∧ FR.2.2.1 kHaveFailed c = B.2.1 kHaveFailed c) ∧ FR.2.2.1 kLent b = 0 ∧ FR.2.2.1 kHaveFailed b = 1 := by
    intro FC FR f1 f2 f3 x3
    refine ⟨f1, f2, f3, fun k hk => ?_, fun c hc => ?_, ?_, ?_⟩
    · have hn : ∀ c : Nat, [5, 7, 8, 9, 16, 17, 18, 20, 21, 26, 34, 41, 42, 43, 44, 45].contains c = true → k ≠ c := fun c hc q => by rw [← q, hk] at hc; cases hc
      rw [x3 k (hn 5 (by decide)) (hn 7 (by decide)) (hn 8 (by decide)) (hn 16 (by decide)), v6 k ?_, t8 k ?_]
      · refine Bool.eq_false_iff.mpr (fun q => ?_)
        simp only [List.contains_cons, List.contains_nil, Bool.or_false, Bool.or_eq_true, beq_iff_eq] at q
        rcases q with q | q | q | q | q | q <;> exact hn _ (by decide) q
      · refine Bool.eq_false_iff.mpr (fun q => ?_)
        simp only [List.contains_cons, List.contains_nil, Bool.or_false, Bool.or_eq_true, beq_iff_eq] at q
        rcases q with q | q | q | q | q | q | q <;> exact hn _ (by decide) q
    · rw [x3 kLent (by decide) (by decide) (by decide) (by decide), x3 kHaveFailed (by decide) (by decide) (by decide) (by decide), (v7 c hc).1, (v7 c hc).2, t8 kLent (by decide), t8 kHaveFailed (by decide)]
      exact ⟨rfl, rfl⟩
    · rw [x3 kLent (by decide) (by decide) (by decide) (by decide)]
      exact v8
    · rw [x3 kHaveFailed (by decide) (by decide) (by decide) (by decide)]
      exact v9
  obtain ⟨FC, hFC⟩ : ∃ z, f_X11_failBank A (nI b) = z := ⟨_, rfl⟩
  obtain ⟨FR, hFR⟩ : ∃ z, f_X12_fails B (nI b) = z := ⟨_, rfl⟩
  rw [hFC] at eqC
  rw [hFR] at eqR eqR2 eqR1
  rw [hFC, hFR]
  refine ⟨okC, okR, fin FC FR ?_ ?_ ?_ ?_⟩
  · rw [eqC, eqR1]
    exact w2
  · rw [eqC, eqR2]
    exact r22.d_eq (by grind)
  · rw [eqR2]
    exact x2
  · intro k h1 h2 h3 h4
    rw [eqR2]
    exact x3 k h1 h2 h3 h4
