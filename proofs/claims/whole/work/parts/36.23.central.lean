/-! banks pay the central bank -/
theorem i1000_64 : (nI 1000).toInt64 = 1000 := by decide
theorem least_eq {S : Mem} {p q : Int32} : f_X12_least S p q = if p < q then p else q := by
  unfold f_X12_least
  rw [lt_x]
  by_cases c : q ≤ p
  · rw [if_pos c, if_neg (by rw [w_lt]; rw [w_le] at c; omega)]
  · rw [if_neg c, if_pos (by rw [w_lt]; rw [w_le] at c; omega)]
theorem z_div1000 {a p : Int} (ha : 0 ≤ a) (hp : 0 ≤ p) (hp2 : p ≤ 100) : 0 ≤ a * p / 1000 ∧ a * p / 1000 ≤ a / 10 := by
  have h0 := Int.mul_nonneg ha hp
  have h1 : a * p ≤ a * 100 := Int.mul_le_mul_of_nonneg_left hp2 ha
  have h2 := Int.ediv_le_ediv (show (0 : Int) < 1000 by omega) h1
  refine ⟨Int.ediv_nonneg h0 (by omega), ?_⟩
  omega
theorem cen_step {u v : Int} {A B : Mem} {d : Int32} {j : Nat} (h : Rel A.1 B.2.1 d) (n : Num u v 190000000 B.2.1) (hv : v ≤ 5120000) (hj : j < 4) (hL : (B.2.1 kLent j).toInt ≤ 171000000) :
    (∀ v3 : Int32, f_X11_share A (A.1 kLent (f_X3_bank A (nI j))) (A.1 kRate 0) (nI 1000) = v3 → ∀ v4 : Int32, (if A.1 kReserves (f_X3_bank A (nI j)) < v3 then A.1 kReserves (f_X3_bank A (nI j)) else v3) = v4 → ∀ S5 : Mem, (upd2 A.1 kReserves (f_X3_bank A (nI j)) (A.1 kReserves (f_X3_bank A (nI j)) - v4), A.2) = S5 → ∀ S6 : Mem, (upd2 S5.1 kLent (f_X3_bank A (nI j)) (S5.1 kLent (f_X3_bank A (nI j)) + (v3 - v4)), S5.2) = S6 → ok_X3_noteCentral S6 v3) ∧
    Rel (b2_X11_takeInterestOfBanks j A).1 (b2_X12_paysCentral j B).2.1 d ∧ Num u v 190000000 (b2_X12_paysCentral j B).2.1 ∧ ∀ b, b ≠ j → (b2_X12_paysCentral j B).2.1 kLent b = B.2.1 kLent b := by
  have hb := re_hi n hv hj
  obtain ⟨p1, p2, p3, p4, p5, p6, p7, p8, p9⟩ := n.2.2.2.1 j hj
  have ns := n.2.2.2.2.2.2.2.2.1
  have hLe : A.1 kLent j = B.2.1 kLent j := h.sh kLent j hj
  have hRe : A.1 kReserves j = B.2.1 kReserves j := h.sh kReserves j hj
  have hRa : A.1 kRate 0 = B.2.1 kRate 0 := h.sh kRate 0 (by decide)
  obtain ⟨y1, y2⟩ := z_div1000 p3 ns.2.2.1 ns.2.2.2.1
  have e1 := quot_toInt (w := nI 1000) p3 ns.2.2.1 (by rw [i1000_toInt]; omega) (by rw [i1000_toInt]; omega)
  rw [i1000_toInt, i1000_64] at e1
  have eS : f_X11_share A (B.2.1 kLent j) (B.2.1 kRate 0) (nI 1000) = (((B.2.1 kLent j).toInt64 * (B.2.1 kRate 0).toInt64) / 1000).toInt32 := by
    rw [share_pos (by rw [i1000_toInt]; omega), i1000_64]
  unfold b2_X11_takeInterestOfBanks b2_X12_paysCentral
  rw [bank_nI hj, hLe, hRe, hRa, eS]
  simp only [lt_x, least_eq]
  revert e1
  generalize (((B.2.1 kLent j).toInt64 * (B.2.1 kRate 0).toInt64) / 1000).toInt32 = q
  intro e1
  have hq0 : 0 ≤ q.toInt := by omega
  have hm : (0 ≤ (if B.2.1 kReserves j < q then B.2.1 kReserves j else q).toInt) ∧ (if B.2.1 kReserves j < q then B.2.1 kReserves j else q).toInt ≤ q.toInt ∧ (if B.2.1 kReserves j < q then B.2.1 kReserves j else q).toInt ≤ (B.2.1 kReserves j).toInt := by
    by_cases c : B.2.1 kReserves j < q
    · rw [if_pos c]
      rw [w_lt] at c
      omega
    · rw [if_neg c]
      rw [w_lt] at c
      omega
  generalize hme : (if B.2.1 kReserves j < q then B.2.1 kReserves j else q) = m at hm ⊢
  have r1 : Rel (upd2 A.1 kReserves j (B.2.1 kReserves j - m)) (upd2 B.2.1 kReserves j (B.2.1 kReserves j - m)) _ := h.reserves hj rfl
  have eL1 : upd2 A.1 kReserves j (B.2.1 kReserves j - m) kLent j = B.2.1 kLent j := hLe
  have eL2 : upd2 B.2.1 kReserves j (B.2.1 kReserves j - m) kLent j = B.2.1 kLent j := rfl
  have r2 : Rel (upd2 (upd2 A.1 kReserves j (B.2.1 kReserves j - m)) kLent j (B.2.1 kLent j + (q - m)), A.2).1 (upd2 (upd2 B.2.1 kReserves j (B.2.1 kReserves j - m)) kLent j (B.2.1 kLent j + (q - m))) _ := r1.lent hj rfl
  rw [eL2] at r2
  obtain ⟨o1, -, -, r3⟩ := r2.noteC q
  refine ⟨?_, ?_, ?_, ?_⟩
  · intro v3 e3 v4 e4 S5 e5 S6 e6
    subst e3
    subst e5
    subst e6
    rw [← e4, hme]
    show ok_X3_noteCentral (upd2 (upd2 A.1 kReserves j (B.2.1 kReserves j - m)) kLent j (upd2 A.1 kReserves j (B.2.1 kReserves j - m) kLent j + (q - m)), A.2) q
    rw [eL1]
    exact o1
  · rw [eL1, eL2]
    exact r3.d_eq (by grind)
  · rw [eL2]
    have f1 : (B.2.1 kReserves j - m).toInt = (B.2.1 kReserves j).toInt - m.toInt := by
      rw [w_sub]
      omega
    have f2 : (q - m).toInt = q.toInt - m.toInt := by
      rw [w_sub]
      omega
    have f3 : (B.2.1 kLent j + (q - m)).toInt = (B.2.1 kLent j).toInt + (q.toInt - m.toInt) := by
      rw [w_add, f2]
      omega
    obtain ⟨nh, nu, np, nb, nv, nf, nl, nd, ns, nw, nq⟩ := n
    refine ⟨nh, nu, np, ?_, ?_, nf, nl, nd, ns, nw, nq⟩
    · show zB 190000000 (ru (B.2.1 kReserves) j (B.2.1 kReserves j - m)) (B.2.1 kVaults) (ru (B.2.1 kLent) j (B.2.1 kLent j + (q - m))) (B.2.1 kLimits) (B.2.1 kHaveFailed) (B.2.1 kAreShort)
      intro b hb2
      by_cases c : b = j
      · subst c
        rw [ru_eq, ru_eq, f1, f3]
        refine ⟨by omega, p2, by omega, by omega, p5, p6, p7, p8, fun z => ?_⟩
        have z2 := congrArg Int32.toInt (p9 z)
        rw [w_0] at z2
        apply Int32.toInt_inj.mp
        rw [f3, w_0, z2]
        rw [z2] at e1
        omega
      · rw [ru_ne c, ru_ne c]
        exact nb b hb2
    · show vS (ru (B.2.1 kReserves) j (B.2.1 kReserves j - m)) (B.2.1 kVaults) (B.2.1 kTreasury) (B.2.1 kHaveFailed) (B.2.1 kDays) ≤ v
      rw [vS_re hj, f1]
      omega
  · intro b hne
    show ru (B.2.1 kLent) j _ b = _
    rw [ru_ne hne]
theorem Num.mono {u v L L2 : Int} {R : Col} (n : Num u v L R) (h : L ≤ L2) : Num u v L2 R := by
  obtain ⟨nh, nu, np, nb, nv, nf, nl, nd, ns, nw, nq⟩ := n
  refine ⟨nh, nu, np, fun b hb => ?_, nv, nf, nl, nd, ns, nw, nq⟩
  obtain ⟨p1, p2, p3, p4, p5⟩ := nb b hb
  exact ⟨p1, p2, p3, by omega, p5⟩
theorem central_ok {u v : Int} {A B : Mem} {d : Int32} (h : Rel A.1 B.2.1 d) (n : Num u v 171000000 B.2.1) (hv : v ≤ 5120000) : ok_X11_takeInterestOfBanks A ∧ Rel (f_X11_takeInterestOfBanks A).1 (f_X12_paysCentral B).2.1 d ∧ Num u v 190000000 (f_X12_paysCentral B).2.1 := by
  have key := iter2 (f := b2_X11_takeInterestOfBanks) (g := b2_X12_paysCentral) (a := A) (b := B) (fun j x y => Rel x.1 y.2.1 d ∧ Num u v 190000000 y.2.1 ∧ ∀ b, j ≤ b → b < 4 → (y.2.1 kLent b).toInt ≤ 171000000) (n := 4) ⟨h, n.mono (by omega), fun b _ hb => (n.2.2.2.1 b hb).2.2.2.1⟩ (fun j hj x y q => by
    obtain ⟨-, q1, q2, q3⟩ := cen_step q.1 q.2.1 hv hj (q.2.2 j (Nat.le_refl _) hj)
    refine ⟨q1, q2, fun b hb hb4 => ?_⟩
    rw [q3 b (by omega)]
    exact q.2.2 b (by omega) hb4)
  refine ⟨?_, ?_⟩
  · intro j hj σ e
    subst e
    obtain ⟨q1, q2, q3⟩ := key j (by omega)
    exact (cen_step q1 q2 hv hj (q3 j (Nat.le_refl _) hj)).1
  · have q := key 4 (Nat.le_refl _)
    unfold f_X11_takeInterestOfBanks f_X12_paysCentral
    rw [lt_x, lt_x]
    exact ⟨q.1, q.2.1⟩
