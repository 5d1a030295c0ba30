/-! a day goes by, both sides -/
theorem N_day {u v L : Int} {R : Col} (n : Num u v L R) (hd : (R kDays 0).toInt < 200) : Num u (v - 720000) L (upd2 R kDays 0 (R kDays 0 + 1)) ∧ (R kDays 0 + 1).toInt = (R kDays 0).toInt + 1 := by
  have e : (R kDays 0 + 1).toInt = (R kDays 0).toInt + 1 := by
    rw [w_add, w_1]
    have := n.2.2.2.2.2.2.2.2.1.1
    omega
  refine ⟨?_, e⟩
  obtain ⟨nh, nu, np, nb, nv, nf, nl, nd, ns, nw, nq⟩ := n
  refine ⟨nh, nu, np, nb, ?_, nf, nl, nd, ?_, nw, ?_⟩
  · show vS (R kReserves) (R kVaults) (R kTreasury) (R kHaveFailed) (ru (R kDays) 0 (R kDays 0 + 1)) ≤ v - 720000
    rw [vS_dy, e]
    omega
  · show zS (ru (R kDays) 0 (R kDays 0 + 1)) (R kRate) (R kCapitalRule) (R kReserveRule) (R kTreasury) (R kExchange)
    obtain ⟨s1, s2, s3⟩ := ns
    exact ⟨by rw [ru_eq, e]; omega, by rw [ru_eq, e]; omega, s3⟩
  · show zQ (R kPrices) (ru (R kDays) 0 (R kDays 0 + 1))
    intro i hi hi2
    obtain ⟨q1, q2⟩ := nq i hi hi2
    rw [ru_eq, e]
    exact ⟨q1, by omega⟩
theorem pass_ok {u v : Int} {A B : Mem} {d : Int32} (h : Rel A.1 B.2.1 d) (n : Num u v 171000000 B.2.1) (hu : u ≤ 5120000) (hv : v ≤ 5120000) (hd : (B.2.1 kDays 0).toInt < 200) : ok_X11_passDay A ∧ ok_X12_goesBy B ∧ Rel (f_X11_passDay A).1 (f_X12_goesBy B).2.1 d ∧ Num u v 171000000 (f_X12_goesBy B).2.1 ∧ (f_X12_goesBy B).2.1 kDays 0 = B.2.1 kDays 0 + 1 := by
  have hD : A.1 kDays 0 = B.2.1 kDays 0 := h.sh kDays 0 (by decide)
  obtain ⟨n1, ed⟩ := N_day n hd
  have nq0 := n.2.2.2.2.2.2.2.2.2.2
  have r1 : Rel (upd2 A.1 kDays 0 (A.1 kDays 0 + 1), A.2).1 (B.1, upd2 B.2.1 kDays 0 (B.2.1 kDays 0 + 1), B.2.2).2.1 d := h.plain kDays 0 (by decide) (by rw [hD])
  have n1' : Num u (v - 720000) 171000000 (B.1, upd2 B.2.1 kDays 0 (B.2.1 kDays 0 + 1), B.2.2).2.1 := n1
  have d1 : (B.1, upd2 B.2.1 kDays 0 (B.2.1 kDays 0 + 1), B.2.2).2.1 kDays 0 = B.2.1 kDays 0 + 1 := (upd2_eq : upd2 B.2.1 kDays 0 (B.2.1 kDays 0 + 1) kDays 0 = B.2.1 kDays 0 + 1)
  have p1 : ∀ i, (B.1, upd2 B.2.1 kDays 0 (B.2.1 kDays 0 + 1), B.2.2).2.1 kPrices i = B.2.1 kPrices i := fun i => rfl
  unfold ok_X11_passDay ok_X12_goesBy f_X11_passDay f_X12_goesBy
  simp only [lt_x]
  generalize ((upd2 A.1 kDays 0 (A.1 kDays 0 + 1), A.2) : Mem) = A1 at r1 ⊢
  generalize ((B.1, upd2 B.2.1 kDays 0 (B.2.1 kDays 0 + 1), B.2.2) : Mem) = B1 at r1 n1' d1 p1 ⊢
  -- wages
  obtain ⟨a1, a2, r2, n2⟩ := wages_ok r1 n1' hu
  have dd2 : (f_X12_paysWages B1).2.1 kDays 0 = B1.2.1 kDays 0 := congrFun (gd_X12_paysWages B1) 0
  have pp2 : (f_X12_paysWages B1).2.1 kPrices = B1.2.1 kPrices := gp_X12_paysWages B1
  generalize hA2 : f_X11_payWages A1 = A2 at r2 ⊢
  generalize hB2 : f_X12_paysWages B1 = B2 at r2 n2 dd2 pp2 ⊢
  -- interest
  obtain ⟨a3, a4, r3, n3⟩ := interest_ok r2 n2 (by omega)
  have dd3 : (f_X12_takesInterest B2).2.1 kDays 0 = B2.2.1 kDays 0 := congrFun (gd_X12_takesInterest B2) 0
  have pp3 : (f_X12_takesInterest B2).2.1 kPrices = B2.2.1 kPrices := gp_X12_takesInterest B2
  generalize hA3 : f_X11_takeInterest A2 = A3 at r3 ⊢
  generalize hB3 : f_X12_takesInterest B2 = B3 at r3 n3 dd3 pp3 ⊢
  -- banks to the central bank
  obtain ⟨a5, r4, n4⟩ := central_ok r3 n3 (by omega)
  have dd4 : (f_X12_paysCentral B3).2.1 kDays 0 = B3.2.1 kDays 0 := congrFun (gd_X12_paysCentral B3) 0
  have pp4 : (f_X12_paysCentral B3).2.1 kPrices = B3.2.1 kPrices := gp_X12_paysCentral B3
  generalize hA4 : f_X11_takeInterestOfBanks A3 = A4 at r4 ⊢
  generalize hB4 : f_X12_paysCentral B3 = B4 at r4 n4 dd4 pp4 ⊢
  -- clearing
  obtain ⟨a6, a7, -, r5, n5, -⟩ := clear_ok (dy := A4.1 kDays 0) r4 n4 hu (by omega) (r4.sh kDays 0 (by decide))
  have dd5 : (f_X12_clears B4).2.2.1 kDays 0 = B4.2.1 kDays 0 := congrFun (gd_X12_clears B4) 0
  have pp5 : (f_X12_clears B4).2.2.1 kPrices = B4.2.1 kPrices := gp_X12_clears B4
  obtain ⟨A5, hA5⟩ : ∃ z, f_X10_clearAll A4 (A4.1 kDays 0) = z := ⟨_, rfl⟩
  obtain ⟨B5, hB5⟩ : ∃ z, f_X12_clears B4 = z := ⟨_, rfl⟩
  rw [hA5] at r5
  rw [hB5] at r5 n5 dd5 pp5
  rw [hA5, hB5]
  -- bonds
  obtain ⟨a8, a9, r6, n6⟩ := bondsdue_ok (dy := A5.2.1 kDays 0) r5 n5 (by omega) (r5.sh kDays 0 (by decide))
  have dd6 : (f_X12_paysBonds B5.2).2.1 kDays 0 = B5.2.2.1 kDays 0 := congrFun (gd_X12_paysBonds B5.2) 0
  have pp6 : (f_X12_paysBonds B5.2).2.1 kPrices = B5.2.2.1 kPrices := gp_X12_paysBonds B5.2
  generalize hA6 : f_X2_payDue A5.2 (A5.2.1 kDays 0) = A6 at r6 ⊢
  generalize hB6 : f_X12_paysBonds B5.2 = B6 at r6 n6 dd6 pp6 ⊢
  -- asking
  obtain ⟨a10, a11, r7, n7⟩ := asks_ok r6 n6 hu (by omega) (by omega) (by omega)
  have e720 : v - 720000 + 720000 = v := by omega
  rw [e720] at n7
  have dd7 : (f_X12_asksReserves B6).2.1 kDays 0 = B6.2.1 kDays 0 := congrFun (gd_X12_asksReserves B6) 0
  have pp7 : (f_X12_asksReserves B6).2.1 kPrices = B6.2.1 kPrices := gp_X12_asksReserves B6
  generalize hA7 : f_X11_askForReserves A6 = A7 at r7 ⊢
  generalize hB7 : f_X12_asksReserves B6 = B7 at r7 n7 dd7 pp7 ⊢
  -- runs
  obtain ⟨a12, a13, r8, n8⟩ := runs_ok r7 n7 hv hu (by omega) (by omega)
  have dd8 : (f_X12_runs B7).2.1 kDays 0 = B7.2.1 kDays 0 := congrFun (gd_X12_runs B7) 0
  have pp8 : (f_X12_runs B7).2.1 kPrices = B7.2.1 kPrices := gp_X12_runs B7
  generalize hA8 : f_X11_runOnBanks A7 = A8 at r8 ⊢
  generalize hB8 : f_X12_runs B7 = B8 at r8 n8 dd8 pp8 ⊢
  -- banks without capital
  obtain ⟨a14, a15, r9, n9⟩ := wind_ok r8 n8 hv hu
  have dd9 : (iter b41_X12_goesBy B8 4).2.1 kDays 0 = B8.2.1 kDays 0 := congrFun (iter_inv (P := fun r => KD r B8) KD.rfl (fun j σ q => KD.trans (gd_b41_X12_goesBy j σ) q) 4) 0
  have pp9 : (iter b41_X12_goesBy B8 4).2.1 kPrices = B8.2.1 kPrices := iter_inv (P := fun r => KP r B8) KP.rfl (fun j σ q => KP.trans (gp_b41_X12_goesBy j σ) q) 4
  generalize hA9 : f_X11_failBanksWithoutCapital A8 = A9 at r9 ⊢
  generalize hB9 : iter b41_X12_goesBy B8 4 = B9 at r9 n9 dd9 pp9 ⊢
  have dall : B9.2.1 kDays 0 = B.2.1 kDays 0 + 1 := by rw [dd9, dd8, dd7, dd6, dd5, dd4, dd3, dd2, d1]
  have pall : ∀ i, B9.2.1 kPrices i = B.2.1 kPrices i := fun i => by rw [pp9, pp8, pp7, pp6, pp5, pp4, pp3, pp2, p1]
  -- prices
  obtain ⟨r10, n10⟩ := prices_ok r9 n9 (fun i hi hi2 => by
    obtain ⟨q1, q2⟩ := nq0 i hi hi2
    rw [pall, dall, ed]
    exact ⟨q1, by omega⟩)
  have dd10 : (f_X12_changesPrices B9).2.1 kDays 0 = B9.2.1 kDays 0 := congrFun (gd_X12_changesPrices B9) 0
  refine ⟨?_, ?_, r10, n10, dd10.trans dall⟩
  · intro S1 e
    subst e
    refine ⟨a1, fun S e => ?_⟩
    rw [hA2] at e
    subst e
    refine ⟨a3, fun S e => ?_⟩
    rw [hA3] at e
    subst e
    refine ⟨a5, fun S e => ?_⟩
    rw [hA4] at e
    subst e
    refine ⟨a6, fun S e => ?_⟩
    rw [hA5] at e
    subst e
    intro v10 _
    refine ⟨a8, fun S e => ?_⟩
    rw [hA6] at e
    subst e
    refine ⟨a10, fun S e => ?_⟩
    rw [hA7] at e
    subst e
    refine ⟨a12, fun S e => ?_⟩
    rw [hA8] at e
    subst e
    exact a14
  · intro S1 e
    subst e
    refine ⟨a2, fun S e => ?_⟩
    rw [hB2] at e
    subst e
    refine ⟨a4, fun S e => ?_⟩
    rw [hB3] at e
    subst e
    intro S e
    rw [hB4] at e
    subst e
    refine ⟨a7, fun S e => ?_⟩
    rw [hB5] at e
    subst e
    intro v9 _
    refine ⟨a9, fun S e => ?_⟩
    rw [hB6] at e
    subst e
    refine ⟨a11, fun S e => ?_⟩
    rw [hB7] at e
    subst e
    refine ⟨a13, fun S e => ?_⟩
    rw [hB8] at e
    subst e
    intro j hj σ e
    subst e
    exact a15 j hj
