/-! who can pay; wages -/
theorem z10 : ((1 : Int32) = 0) = False := eq_false (by decide)
theorem canPay_ok {u v L : Int} {A B : Mem} {d x y m : Int32} (h : Rel A.1 B.2.1 d) (n : Num u v L B.2.1) (hx : inb x 16) (hy : inb y 16) : f_X11_canPay A x y m = f_X12_mayPay B x y m ∧ ok_X12_mayPay B x y m ∧ (f_X12_mayPay B x y m = 0 ∨ (f_X12_mayPay B x y m = 1 ∧ B.2.1 kBankOf (ix x) ≠ -1 ∧ B.2.1 kBankOf (ix y) ≠ -1 ∧ m.toInt ≤ (B.2.1 kAccounts (ix x)).toInt - (B.2.1 kBlocked (ix x)).toInt ∧ ix (B.2.1 kPayments 0) < 200)) := by
  have hP : A.1 kPayments 0 = B.2.1 kPayments 0 := h.sh kPayments 0 (by decide)
  have hBx : A.1 kBankOf (ix x) = B.2.1 kBankOf (ix x) := h.sh kBankOf _ hx.2
  have hBy : A.1 kBankOf (ix y) = B.2.1 kBankOf (ix y) := h.sh kBankOf _ hy.2
  have hA : A.1 kAccounts (ix x) = B.2.1 kAccounts (ix x) := h.sh kAccounts _ hx.2
  have hB : A.1 kBlocked (ix x) = B.2.1 kBlocked (ix x) := h.sh kBlocked _ hx.2
  obtain ⟨-, -, q3, q4, -, -⟩ := n.1 _ hx.2
  have i0 := n.2.2.1.1
  have ip := inb_toInt i0
  have hi := w_hi (B.2.1 kAccounts (ix x))
  have ef : (B.2.1 kAccounts (ix x) - B.2.1 kBlocked (ix x)).toInt = (B.2.1 kAccounts (ix x)).toInt - (B.2.1 kBlocked (ix x)).toInt := by
    rw [w_sub]
    omega
  have e200 : (nI 200).toInt = 200 := nI_toInt (by omega)
  refine ⟨?_, ?_, ?_⟩
  · simp only [f_X11_canPay, f_X12_mayPay, f_X12_hasAccount, f_X12_free, f_X5_free, f_X10_isFull, lt_x, holder_in hx, holder_in hy, hP, hBx, hBy, hA, hB]
    by_cases c1 : B.2.1 kBankOf (ix x) = -1
    · simp only [c1, if_true]
    by_cases c2 : B.2.1 kBankOf (ix y) = -1
    · simp only [c1, c2, if_true, if_false, z10]
    simp only [c1, c2, if_false, z10]
    by_cases c3 : B.2.1 kAccounts (ix x) - B.2.1 kBlocked (ix x) < m
    · rw [if_pos c3, if_pos c3]
    rw [if_neg c3, if_neg c3]
    by_cases c4 : B.2.1 kPayments 0 < nI 200
    · rw [if_pos c4, if_pos rfl, if_neg (by rw [w_le]; rw [w_lt] at c4; omega)]
    · rw [if_neg c4, if_neg (by decide), if_pos (by rw [w_le]; rw [w_lt] at c4; omega)]
  · refine ⟨hx, fun v2 _ _ => ⟨hy, fun v5 _ _ => ⟨hx, hx⟩⟩⟩
  · simp only [f_X12_mayPay, f_X12_hasAccount, f_X12_free, lt_x]
    by_cases c1 : B.2.1 kBankOf (ix x) = -1
    · rw [if_pos c1, if_pos rfl]
      exact Or.inl rfl
    rw [if_neg c1, if_neg (by decide)]
    by_cases c2 : B.2.1 kBankOf (ix y) = -1
    · rw [if_pos c2, if_pos rfl]
      exact Or.inl rfl
    rw [if_neg c2, if_neg (by decide)]
    by_cases c3 : B.2.1 kAccounts (ix x) - B.2.1 kBlocked (ix x) < m
    · rw [if_pos c3]
      exact Or.inl rfl
    rw [if_neg c3]
    by_cases c4 : nI 200 ≤ B.2.1 kPayments 0
    · rw [if_pos c4]
      exact Or.inl rfl
    · rw [if_neg c4]
      rw [w_lt, ef] at c3
      rw [w_le] at c4
      exact Or.inr ⟨rfl, c1, c2, by omega, by omega⟩
/-- one household's wage -/
theorem wage_step {u v L : Int} {A B : Mem} {d : Int32} {j : Nat} (h : Rel A.1 B.2.1 d) (n : Num u v L B.2.1) (hu : u ≤ 5120000) (hj : j < 10) :
    ((A.1 kFirms (f_X3_holder A (nI j)) ≠ -1) → ∀ v4, f_X11_canPay A (A.1 kFirms (f_X3_holder A (nI j))) (nI j) (A.1 kWages (f_X3_holder A (nI j))) = v4 → v4 ≠ 0 → ok_X10_tell A (A.1 kFirms (f_X3_holder A (nI j))) (nI j) (A.1 kWages (f_X3_holder A (nI j))) (-1) (A.1 kDays 0)) ∧
    (B.2.1 kFirms j ≠ -1 → ok_X12_mayPay B (B.2.1 kFirms j) (nI j) (B.2.1 kWages j) ∧ ∀ v5, f_X12_mayPay B (B.2.1 kFirms j) (nI j) (B.2.1 kWages j) = v5 → v5 ≠ 0 → ok_X12_pays B (B.2.1 kFirms j) (nI j) (B.2.1 kWages j) 0) ∧
    Rel (b2_X11_payWages j A).1 (b2_X12_paysWages j B).2.1 d ∧ Num u v L (b2_X12_paysWages j B).2.1 := by
  have eh : f_X3_holder A (nI j) = j := holder_nI (by omega)
  have hF : A.1 kFirms j = B.2.1 kFirms j := h.sh kFirms j hj
  have hW : A.1 kWages j = B.2.1 kWages j := h.sh kWages j hj
  have hD : A.1 kDays 0 = B.2.1 kDays 0 := h.sh kDays 0 (by decide)
  have nw := n.2.2.2.2.2.2.2.2.2.1 j hj
  unfold b2_X11_payWages b2_X12_paysWages
  rw [eh, hF, hW, hD]
  by_cases c : B.2.1 kFirms j = -1
  · refine ⟨fun q => absurd c q, fun q => absurd c q, ?_⟩
    rw [if_pos c, if_pos c]
    exact ⟨h, n⟩
  rcases nw with q | ⟨w1, w2, w3, w4⟩
  · exact absurd q c
  have hx : inb (B.2.1 kFirms j) 16 := (inb_iff (by omega)).mpr ⟨by omega, by omega⟩
  have hy : inb (nI j) 16 := inb_nI (by omega) (by omega)
  have hxy : B.2.1 kFirms j ≠ nI j := fun q => by
    have := congrArg Int32.toInt q
    rw [nI_toInt (by omega)] at this
    omega
  obtain ⟨k1, k2, k3⟩ := canPay_ok (m := B.2.1 kWages j) h n hx hy
  rw [if_neg c, if_neg c, k1]
  rcases k3 with k3 | ⟨k3, k4, k5, k6, k7⟩
  · rw [k3]
    refine ⟨fun _ v4 e q => absurd e.symm q, fun _ => ⟨k2, fun v5 e q => absurd e.symm q⟩, ?_⟩
    simp only [lt_x, if_true]
    refine ⟨(h.firm hj rfl).wage hj rfl, ?_⟩
    obtain ⟨nh, nu, np, nb, nv, nf, nl, nd, ns, nw, nq⟩ := n
    refine ⟨nh, nu, np, nb, nv, nf, nl, nd, ns, ?_, nq⟩
    show zW (ru (B.2.1 kFirms) j (-1)) (ru (B.2.1 kWages) j 0)
    intro i hi
    by_cases ci : i = j
    · subst ci
      rw [ru_eq]
      exact Or.inl rfl
    · rw [ru_ne ci, ru_ne ci]
      exact nw i hi
  · rw [k3]
    obtain ⟨t1, t2, t3, t4, t5, t6⟩ := tell_ok (m := B.2.1 kWages j) (b := -1) (g := 0) h n hu hx hy hxy k4 (by rw [ix_nI (by omega)] at k5; rw [ix_nI (by omega)]; exact k5) w3 k6 k7 (Or.inl ⟨rfl, rfl⟩) rfl
    refine ⟨fun _ v4 _ _ => t1, fun _ => ⟨k2, fun v5 _ _ => t2⟩, ?_⟩
    have e1 : ¬ (1 : Int32) = 0 := by decide
    simp only [lt_x, if_neg e1]
    exact ⟨t4, t5⟩
theorem wages_ok {u v L : Int} {A B : Mem} {d : Int32} (h : Rel A.1 B.2.1 d) (n : Num u v L B.2.1) (hu : u ≤ 5120000) : ok_X11_payWages A ∧ ok_X12_paysWages B ∧ Rel (f_X11_payWages A).1 (f_X12_paysWages B).2.1 d ∧ Num u v L (f_X12_paysWages B).2.1 := by
  have key := iter2 (f := b2_X11_payWages) (g := b2_X12_paysWages) (a := A) (b := B) (fun _ x y => Rel x.1 y.2.1 d ∧ Num u v L y.2.1) (n := 10) ⟨h, n⟩ (fun j hj x y q => (wage_step q.1 q.2 hu hj).2.2)
  refine ⟨?_, ?_, ?_⟩
  · intro j hj σ e
    subst e
    obtain ⟨q1, q2⟩ := key j (by omega)
    exact fun c v4 e4 c4 => (wage_step q1 q2 hu hj).1 c v4 e4 c4
  · intro j hj σ e
    subst e
    obtain ⟨q1, q2⟩ := key j (by omega)
    exact fun c => (wage_step q1 q2 hu hj).2.1 c
  · have q := key 10 (by omega)
    unfold f_X11_payWages f_X12_paysWages
    rw [lt_x, lt_x]
    exact q
