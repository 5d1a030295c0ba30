/-! the end of a day: banks without capital, prices, what households expect -/
theorem wind_step {u v : Int} {A B : Mem} {d : Int32} {j : Nat} (h : Rel A.1 B.2.1 d) (n : Num u v 190000000 B.2.1) (hv : v ≤ 5120000) (hu : u ≤ 5120000) (hj : j < 4) (hl : ∀ c, c < j → (B.2.1 kLent c).toInt ≤ 171000000) :
    (A.1 kHaveFailed (f_X3_bank A (nI j)) = 0 → ok_X11_capitalOf A (nI j) ∧ ∀ v5, f_X11_capitalOf A (nI j) = v5 → ¬ 0 ≤ v5 → ok_X11_failBank A (nI j)) ∧
    (B.2.1 kHaveFailed j = 0 → ok_X12_capital B (nI j) ∧ ∀ v20, f_X12_capital B (nI j) = v20 → ¬ 0 ≤ v20 → ok_X12_fails B (nI j)) ∧
    Rel (b2_X11_failBanksWithoutCapital j A).1 (b41_X12_goesBy j B).2.1 d ∧ Num u v 190000000 (b41_X12_goesBy j B).2.1 ∧ ∀ c, c < j + 1 → ((b41_X12_goesBy j B).2.1 kLent c).toInt ≤ 171000000 := by
  have i0 := n.2.2.2.2.2.1.1
  have i1 := n.2.2.2.2.2.2.1.1
  have hHf : A.1 kHaveFailed j = B.2.1 kHaveFailed j := h.sh kHaveFailed j hj
  obtain ⟨a1, a2⟩ := cap_C (b := j) h i0 i1 hj
  obtain ⟨a3, a4⟩ := cap_R (B := B) (b := j) i0 i1 hj
  have a5 := capS_toInt (b := j) n hu hv (by omega) hj
  have hre := re_hi n hv hj
  have hbo := bonS_bd (o := j) n (by omega)
  have hlo := loaS_bd n (nI j)
  have hac := accS_bd n hu (nI j)
  have z0 := w_0
  obtain ⟨p1, p2, p3, p4, p5, p6, p7, p8, p9⟩ := n.2.2.2.1 j hj
  unfold b2_X11_failBanksWithoutCapital b41_X12_goesBy
  rw [bank_nI hj, hHf, a1, a3]
  simp only [lt_x]
  by_cases c0 : B.2.1 kHaveFailed j = 0
  · obtain ⟨f1, f2, f3, f4, f5, f6, f7, f8, f9⟩ := fail_ok (b := j) h n hu hv (by omega) (by omega) hj c0
    refine ⟨fun _ => ⟨a2, fun _ _ _ => f1⟩, fun _ => ⟨a4, fun _ _ _ => f2⟩, ?_⟩
    simp only [if_pos c0]
    by_cases c1 : 0 ≤ capS B.2.1 j
    · simp only [if_pos c1]
      refine ⟨h, n, fun c hc => ?_⟩
      by_cases e : c = j
      · subst e
        rw [w_le, z0, a5] at c1
        omega
      · exact hl c (by omega)
    · simp only [if_neg c1]
      refine ⟨f4, f5, fun c hc => ?_⟩
      by_cases e : c = j
      · subst e
        rw [f8, z0]
        omega
      · rw [(f7 c e).1]
        exact hl c (by omega)
  · refine ⟨fun q => absurd q c0, fun q => absurd q c0, ?_⟩
    simp only [if_neg c0]
    refine ⟨h, n, fun c hc => ?_⟩
    by_cases e : c = j
    · subst e
      rw [p9 c0, z0]
      omega
    · exact hl c (by omega)
theorem Num.lset {u v L L2 : Int} {R : Col} (n : Num u v L R) (h : ∀ b, b < 4 → (R kLent b).toInt ≤ L2) : Num u v L2 R := by
  obtain ⟨nh, nu, np, nb, nv, nf, nl, nd, ns, nw, nq⟩ := n
  refine ⟨nh, nu, np, fun b hb => ?_, nv, nf, nl, nd, ns, nw, nq⟩
  obtain ⟨p1, p2, p3, p4, p5⟩ := nb b hb
  exact ⟨p1, p2, p3, h b hb, p5⟩
theorem wind_ok {u v : Int} {A B : Mem} {d : Int32} (h : Rel A.1 B.2.1 d) (n : Num u v 190000000 B.2.1) (hv : v ≤ 5120000) (hu : u ≤ 5120000) : ok_X11_failBanksWithoutCapital A ∧ (∀ j, j < 4 → (iter b41_X12_goesBy B j).2.1 kHaveFailed j = 0 → ok_X12_capital (iter b41_X12_goesBy B j) (nI j) ∧ ∀ v20, f_X12_capital (iter b41_X12_goesBy B j) (nI j) = v20 → ¬ 0 ≤ v20 → ok_X12_fails (iter b41_X12_goesBy B j) (nI j)) ∧ Rel (f_X11_failBanksWithoutCapital A).1 (iter b41_X12_goesBy B 4).2.1 d ∧ Num u v 171000000 (iter b41_X12_goesBy B 4).2.1 := by
  have key := iter2 (f := b2_X11_failBanksWithoutCapital) (g := b41_X12_goesBy) (a := A) (b := B) (fun j x y => Rel x.1 y.2.1 d ∧ Num u v 190000000 y.2.1 ∧ ∀ c, c < j → (y.2.1 kLent c).toInt ≤ 171000000) (n := 4) ⟨h, n, fun c hc => by omega⟩ (fun j hj x y q => by
    obtain ⟨-, -, q1, q2, q3⟩ := wind_step q.1 q.2.1 hv hu hj q.2.2
    exact ⟨q1, q2, q3⟩)
  refine ⟨?_, ?_, ?_⟩
  · intro j hj σ e
    subst e
    obtain ⟨q1, q2, q3⟩ := key j (by omega)
    exact (wind_step q1 q2 hv hu hj q3).1
  · intro j hj
    obtain ⟨q1, q2, q3⟩ := key j (by omega)
    exact (wind_step q1 q2 hv hu hj q3).2.1
  · obtain ⟨q1, q2, q3⟩ := key 4 (Nat.le_refl _)
    unfold f_X11_failBanksWithoutCapital
    rw [lt_x]
    exact ⟨q1, q2.lset q3⟩
theorem price_eq {p : Int32} (h : 1 ≤ p.toInt) (h2 : p.toInt ≤ 1000000) : (if 1 < p - 1 then p - 1 else 1) = p + (if p ≤ 1 then 0 else -1) ∧ 1 ≤ (p + (if p ≤ 1 then 0 else -1)).toInt ∧ (p + (if p ≤ 1 then 0 else -1)).toInt ≤ p.toInt := by
  have z1 := w_1
  have zm := w_m1
  have e1 : (p - 1).toInt = p.toInt - 1 := by
    rw [w_sub]
    omega
  by_cases c : p ≤ 1
  · rw [w_le, z1] at c
    have ep : p = 1 := Int32.toInt_inj.mp (by omega)
    subst ep
    decide
  · rw [if_neg c]
    rw [w_le, z1] at c
    have e2 : (p + -1).toInt = p.toInt - 1 := by
      rw [w_add, zm]
      omega
    refine ⟨?_, by omega, by omega⟩
    apply Int32.toInt_inj.mp
    rw [e2]
    by_cases c2 : 1 < p - 1
    · rw [if_pos c2, e1]
    · rw [if_neg c2, z1]
      rw [w_lt, z1, e1] at c2
      omega
def QL (u v L : Int) (d : Int32) (B : Mem) (j : Nat) (X : Mem) (Y : Int32 × Mem) : Prop := Rel X.1 Y.2.2.1 d ∧ Num u v L Y.2.2.1 ∧ (∀ i, 10 + j ≤ i → Y.2.2.1 kPrices i = B.2.1 kPrices i) ∧ Y.2.2.1 kDays = B.2.1 kDays ∧ Y.1 = s32 (fun i => Y.2.2.1 kPrices (10 + i)) j
theorem price_step {u v L : Int} {B : Mem} {d : Int32} {j : Nat} {X : Mem} {Y : Int32 × Mem} (hj : j < 6) (hq : ∀ i, 10 ≤ i → i < 16 → 1 ≤ (B.2.1 kPrices i).toInt ∧ (B.2.1 kPrices i).toInt ≤ 9 + (B.2.1 kDays 0).toInt) (h : QL u v L d B j X Y) : QL u v L d B (j + 1) (b3_X11_changePrices j X) (b5_X12_changesPrices j Y) := by
  obtain ⟨h1, h2, h3, h4, h5⟩ := h
  have hp := hq (10 + j) (by omega) (by omega)
  have hdy := h2.2.2.2.2.2.2.2.2.1
  have hdy2 := hdy.2.1
  rw [h4] at hdy2
  have yp := h3 (10 + j) (Nat.le_refl _)
  have xp : X.1 kPrices (10 + j) = B.2.1 kPrices (10 + j) := (h1.sh kPrices (10 + j) (show 10 + j < 16 by omega)).trans yp
  have xb : X.1 kBought (10 + j) = Y.2.2.1 kBought (10 + j) := h1.sh kBought (10 + j) (show 10 + j < 16 by omega)
  obtain ⟨e1, e2, e3⟩ := price_eq hp.1 (by omega)
  have zz : ∀ x : Int32, x + 0 = x := fun x => Int32.add_zero x
  have e4 : (B.2.1 kPrices (10 + j) + 1).toInt = (B.2.1 kPrices (10 + j)).toInt + 1 := by
    rw [w_add, w_1]
    omega
  have both : ∃ w : Int32, 1 ≤ w.toInt ∧ w.toInt ≤ (B.2.1 kPrices (10 + j)).toInt + 1 ∧ Rel (b3_X11_changePrices j X).1 (upd2 (upd2 Y.2.2.1 kPrices (10 + j) w) kBought (10 + j) 0) d ∧ b5_X12_changesPrices j Y = (Y.1 + w, (Y.2.1, upd2 (upd2 Y.2.2.1 kPrices (10 + j) w) kBought (10 + j) 0, Y.2.2.2)) := by
    unfold b3_X11_changePrices b5_X12_changesPrices
    rw [holder_nI (S := X) (show 10 + j < 16 by omega), xp, xb, yp]
    simp only [lt_x]
    have eP : ∀ w, upd2 (upd2 Y.2.2.1 kPrices (10 + j) w) kBought (10 + j) 0 kPrices (10 + j) = w := fun w => upd2_eq (M := Y.2.2.1) (c := kPrices)
    by_cases c1 : Y.2.2.1 kBought (10 + j) < nI 5
    · simp only [if_pos c1]
      by_cases c2 : Y.2.2.1 kBought (10 + j) = 0
      · simp only [if_pos c2]
        refine ⟨_, e2, by omega, ?_, by rw [eP]⟩
        rw [← e1]
        exact (h1.plain kPrices (10 + j) (by decide) rfl).plain kBought (10 + j) (by decide) rfl
      · simp only [if_neg c2]
        refine ⟨B.2.1 kPrices (10 + j), hp.1, by omega, ?_, by rw [zz, eP]⟩
        have : upd2 Y.2.2.1 kPrices (10 + j) (B.2.1 kPrices (10 + j)) = Y.2.2.1 := by
          rw [← yp]
          exact uu_same
        rw [this]
        exact h1.plain kBought (10 + j) (by decide) rfl
    · simp only [if_neg c1]
      refine ⟨B.2.1 kPrices (10 + j) + 1, by omega, by omega, ?_, by rw [eP]⟩
      exact (h1.plain kPrices (10 + j) (by decide) rfl).plain kBought (10 + j) (by decide) rfl
  obtain ⟨w, w1, w2, w3, w4⟩ := both
  unfold QL
  rw [w4]
  refine ⟨w3, ?_, fun i hi => ?_, h4, ?_⟩
  · obtain ⟨nh, nu, np, nb, nv, nf, nl, nd, ns, nw, nq⟩ := h2
    refine ⟨nh, nu, np, nb, nv, nf, nl, nd, ns, nw, ?_⟩
    show zQ (ru (Y.2.2.1 kPrices) (10 + j) w) (Y.2.2.1 kDays)
    intro i hi hi2
    by_cases e : i = 10 + j
    · subst e
      rw [ru_eq, h4]
      omega
    · rw [ru_ne e]
      exact nq i hi hi2
  · show ru (Y.2.2.1 kPrices) (10 + j) w i = _
    rw [ru_ne (by omega)]
    exact h3 i (by omega)
  · show Y.1 + w = s32 (fun i => ru (Y.2.2.1 kPrices) (10 + j) w (10 + i)) j + ru (Y.2.2.1 kPrices) (10 + j) w (10 + j)
    rw [ru_eq, h5, s32_congr (f := fun i => ru (Y.2.2.1 kPrices) (10 + j) w (10 + i)) (g := fun i => Y.2.2.1 kPrices (10 + i)) j (fun i hi => ru_ne (by omega))]
theorem prices_ok {u v L : Int} {A B : Mem} {d : Int32} (h : Rel A.1 B.2.1 d) (n : Num u v L B.2.1) (hq : ∀ i, 10 ≤ i → i < 16 → 1 ≤ (B.2.1 kPrices i).toInt ∧ (B.2.1 kPrices i).toInt ≤ 9 + (B.2.1 kDays 0).toInt) : Rel (f_X11_changeExpectations (f_X11_changePrices A)).1 (f_X12_changesPrices B).2.1 d ∧ Num u v L (f_X12_changesPrices B).2.1 := by
  have key := iter2 (f := b3_X11_changePrices) (g := b5_X12_changesPrices) (a := A) (b := ((0 : Int32), B)) (QL u v L d B) (n := 6) ⟨h, n, fun _ _ => rfl, rfl, rfl⟩ (fun j hj X Y q => price_step hj hq q)
  have q := key 6 (Nat.le_refl _)
  unfold f_X11_changeExpectations f_X11_changePrices f_X12_changesPrices
  rw [lt_x, lt_x]
  revert q
  generalize iter b3_X11_changePrices A 6 = X
  generalize iter b5_X12_changesPrices (0, B) 6 = Y
  intro q
  obtain ⟨q1, q2, q3, q4, q5⟩ := q
  have es : iter (b5_X11_changeExpectations X) 0 6 = Y.1 := by
    rw [s32_iter (f := fun i => Y.2.2.1 kPrices (10 + i)) 0 6 (fun j hj σ => by
      unfold b5_X11_changeExpectations
      rw [holder_nI (show 10 + j < 16 by omega), q1.sh kPrices (10 + j) (show 10 + j < 16 by omega)]), q5, Int32.zero_add]
  simp only [lt_x]
  rw [es]
  have key2 := iter2 (f := b38_X11_changeExpectations Y.1) (g := b82_X12_changesPrices Y) (a := X) (b := Y.2) (fun _ x y => Rel x.1 y.2.1 d ∧ Num u v L y.2.1) (n := 10) ⟨q1, q2⟩ (fun j hj x y q => by
    obtain ⟨r1, r2⟩ := q
    unfold b38_X11_changeExpectations b82_X12_changesPrices
    rw [holder_nI (show j < 16 by omega), lt_x, lt_x, r1.sh kExpects j hj]
    refine ⟨r1.plain kExpects j (by decide) rfl, ?_⟩
    obtain ⟨nh, nu, np, nb, nv, nf, nl, nd, ns, nw, nq⟩ := r2
    exact ⟨nh, nu, np, nb, nv, nf, nl, nd, ns, nw, nq⟩)
  exact key2 10 (Nat.le_refl _)
