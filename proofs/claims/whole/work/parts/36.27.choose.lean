/-! what is chosen at first, and its nets, on both sides -/
theorem nS_0 {fk tk am ch : Row} {b : Nat} : nS fk tk am ch b 0 = 0 := rfl
theorem nS_s {fk tk am ch : Row} {b n : Nat} : nS fk tk am ch b (n + 1) = nS fk tk am ch b n + nT fk tk am ch b n := rfl
theorem choose_C {C R : Col} {n : Nat} {fk tk : Row} {A : Mem} (hb : ClB C R n fk tk) (hA : A.1 = C) : ClC C R n n fk tk (chW (R kStates)) (f_X10_chooseAllThatWait A) ∧ ok_X10_chooseAllThatWait A := by
  obtain ⟨hn, hP, hPR, h4, h5, h6⟩ := hb
  obtain ⟨z1, z2⟩ := zero_C (C := C) (R := R) (n := n) (fk := fk) (tk := tk) hA
  have ei : ix (nI n) = n := ix_nI (by omega)
  unfold f_X10_chooseAllThatWait ok_X10_chooseAllThatWait
  rw [lt_x]
  revert z1 z2
  generalize iter b2_X10_chooseAllThatWait A 4 = A2
  intro z1 z2
  have hP2 : A2.1 kPayments 0 = nI n := by rw [z1 kPayments (by decide) (by decide)]; exact hP
  have key := iter1 (f := b24_X10_chooseAllThatWait) (a := A2) (fun j x => (∀ k, k ≠ 22 → k ≠ 38 → x.1 k = C k) ∧ (∀ p, p < j → x.1 kAreChosen p = chW (R kStates) p) ∧ ∀ b, b < 4 → x.1 kNets b = nS fk tk (R kAmounts) (chW (R kStates)) b j) (n := n) ⟨z1, fun p hp => by omega, fun b hb => by rw [z2 b hb, nS_0]⟩ (fun j hj x q => by
    obtain ⟨q1, q2, q3⟩ := q
    obtain ⟨a1, a2, a3, a4⟩ := h4 j hj
    have s1 : x.1 kStates j = R kStates j := by rw [q1 kStates (by decide) (by decide)]; exact a2
    have s2 : x.1 kAmounts j = R kAmounts j := by rw [q1 kAmounts (by decide) (by decide)]; exact a1
    unfold b24_X10_chooseAllThatWait
    rw [at10_nI (by omega), s1]
    have ec : (if R kStates j = 0 then (1 : Int32) else 0) = chW (R kStates) j := rfl
    rw [ec]
    simp only [lt_x]
    have eq1 : upd2 x.1 kAreChosen j (chW (R kStates) j) kAreChosen j = chW (R kStates) j := upd2_eq
    simp only [eq1]
    have hch : ∀ (D : Col), (∀ p, D kAreChosen p = upd2 x.1 kAreChosen j (chW (R kStates) j) kAreChosen p) → ∀ p, p < j + 1 → D kAreChosen p = chW (R kStates) p := fun D hD p hp => by
      rw [hD p]
      by_cases c : p = j
      · subst c
        exact upd2_eq
      · rw [upd2_row c]
        exact q2 p (by omega)
    by_cases c : chW (R kStates) j = 0
    · rw [if_pos c]
      refine ⟨fun k h1 h2 => (u_ne h2).trans (q1 k h1 h2), hch _ (fun p => rfl), fun b hb4 => ?_⟩
      rw [nS_s]
      unfold nT
      rw [if_pos c, Int32.add_zero]
      exact q3 b hb4
    · rw [if_neg c]
      obtain ⟨b1, b2, b3, b4, b5, b6, b7⟩ := h5 j hj (chW_ne c)
      have s3 : x.1 kFromBank j = fk j := by rw [q1 kFromBank (by decide) (by decide)]; exact b1
      have s4 : x.1 kToBank j = tk j := by rw [q1 kToBank (by decide) (by decide)]; exact b2
      have t3 : ∀ w, upd2 x.1 kAreChosen j w kFromBank j = fk j := fun w => s3
      have t5 : ∀ w, upd2 x.1 kAreChosen j w kAmounts j = R kAmounts j := fun w => s2
      have t4 : ∀ w i y, upd2 (upd2 x.1 kAreChosen j w) kNets i y kToBank j = tk j := fun w i y => s4
      have t6 : ∀ w i y, upd2 (upd2 x.1 kAreChosen j w) kNets i y kAmounts j = R kAmounts j := fun w i y => s2
      simp only [t3, t4, t5, t6, bank_in b5, bank_in b6]
      refine ⟨fun k h1 h2 => ((u_ne h1).trans ((u_ne h1).trans (u_ne h2))).trans (q1 k h1 h2), hch _ (fun p => rfl), fun b hb4 => ?_⟩
      rw [nS_s]
      unfold nT
      rw [if_neg c]
      exact net_put (D := upd2 x.1 kAreChosen j (chW (R kStates) j)) (z := fun b => nS fk tk (R kAmounts) (chW (R kStates)) b j) b5 b6 (fun b hb4 => q3 b hb4) b hb4)
  rw [lt_x, hP2, ei]
  refine ⟨key n (Nat.le_refl _), ?_⟩
  intro σ2 e j hj σ5 e5
  subst e
  rw [hP2, ei] at hj ⊢
  subst e5
  rw [(key j hj).1 kPayments (by decide) (by decide)]
  exact hP
theorem lays_R {C R : Col} {n : Nat} {fk tk ch : Row} {B : Mem} (hb : ClB C R n fk tk) (h0 : ∀ k, k ≠ 22 → k ≠ 38 → B.2.1 k = R k) (hc : ∀ p, p < n → B.2.1 kAreChosen p = ch p) (hw : ∀ p, p < n → ch p ≠ 0 → R kStates p = 0) : ClR R n n fk tk ch (f_X12_laysNets B) ∧ ok_X12_laysNets B := by
  obtain ⟨hn, hP, hPR, h4, h5, h6⟩ := hb
  obtain ⟨z1, z3, z2⟩ := zero_R h0
  have ei : ix (nI n) = n := ix_nI (by omega)
  unfold f_X12_laysNets ok_X12_laysNets
  rw [lt_x]
  revert z1 z2 z3
  generalize iter b2_X12_laysNets B 4 = B2
  intro z1 z3 z2
  have hP2 : B2.2.1 kPayments 0 = nI n := by rw [z1 kPayments (by decide) (by decide)]; exact hPR
  have step : ∀ j, j < n → ∀ x : Mem, ((∀ k, k ≠ 22 → k ≠ 38 → x.2.1 k = R k) ∧ (∀ p, p < n → x.2.1 kAreChosen p = ch p) ∧ ∀ b, b < 4 → x.2.1 kNets b = nS fk tk (R kAmounts) ch b j) → (((∀ k, k ≠ 22 → k ≠ 38 → (b22_X12_laysNets j x).2.1 k = R k) ∧ (∀ p, p < n → (b22_X12_laysNets j x).2.1 kAreChosen p = ch p) ∧ ∀ b, b < 4 → (b22_X12_laysNets j x).2.1 kNets b = nS fk tk (R kAmounts) ch b (j + 1)) ∧ ((j < 200) ∧ ((¬ ((x.2.1 kAreChosen j) = 0)) → ((j < 200) ∧ (inb (x.2.1 kFroms j) 16) ∧ (inb (x.2.1 kBankOf (ix (x.2.1 kFroms j))) 4) ∧ (j < 200) ∧ (inb (x.2.1 kBankOf (ix (x.2.1 kFroms j))) 4) ∧ (∀ S14 : Mem, ((x.1, upd2 x.2.1 kNets (ix (x.2.1 kBankOf (ix (x.2.1 kFroms j)))) ((x.2.1 kNets (ix (x.2.1 kBankOf (ix (x.2.1 kFroms j))))) - (x.2.1 kAmounts j)), x.2.2)) = S14 → ((j < 200) ∧ (inb (S14.2.1 kTos j) 16) ∧ (inb (S14.2.1 kBankOf (ix (S14.2.1 kTos j))) 4) ∧ (j < 200) ∧ (inb (S14.2.1 kBankOf (ix (S14.2.1 kTos j))) 4))))))) := by
    intro j hj x q
    obtain ⟨q1, q2, q3⟩ := q
    obtain ⟨a1, a2, a3, a4⟩ := h4 j hj
    have s2 : x.2.1 kAmounts j = R kAmounts j := by rw [q1 kAmounts (by decide) (by decide)]
    have s3 : x.2.1 kFroms j = R kFroms j := by rw [q1 kFroms (by decide) (by decide)]
    have s4 : x.2.1 kTos j = R kTos j := by rw [q1 kTos (by decide) (by decide)]
    have s5 : x.2.1 kBankOf = R kBankOf := q1 kBankOf (by decide) (by decide)
    have hj200 : j < 200 := by omega
    unfold b22_X12_laysNets
    rw [q2 j hj]
    by_cases c : ch j = 0
    · refine ⟨?_, hj200, fun z => absurd c z⟩
      rw [lt_x, if_pos c]
      refine ⟨q1, q2, fun b hb4 => ?_⟩
      rw [nS_s]
      unfold nT
      rw [if_pos c, Int32.add_zero]
      exact q3 b hb4
    · obtain ⟨b1, b2, b3, b4, b5, b6, b7⟩ := h5 j hj (hw j hj c)
      rw [s3, s5, b3, s2]
      refine ⟨?_, hj200, fun _ => ⟨hj200, a3, b5, hj200, b5, fun S14 e14 => ?_⟩⟩
      · rw [lt_x, if_neg c]
        simp only [lt_x]
        have t4 : ∀ i y, upd2 x.2.1 kNets i y kTos j = R kTos j := fun i y => s4
        have t5 : ∀ i y, upd2 x.2.1 kNets i y kBankOf = R kBankOf := fun i y => s5
        have t6 : ∀ i y, upd2 x.2.1 kNets i y kAmounts j = R kAmounts j := fun i y => s2
        simp only [t4, t5, t6, b4]
        refine ⟨fun k h1 h2 => ((u_ne h1).trans (u_ne h1)).trans (q1 k h1 h2), fun p hp => q2 p hp, fun b hb4 => ?_⟩
        rw [nS_s]
        unfold nT
        rw [if_neg c]
        exact net_put (D := x.2.1) (z := fun b => nS fk tk (R kAmounts) ch b j) b5 b6 (fun b hb4 => q3 b hb4) b hb4
      · subst e14
        show j < 200 ∧ inb (x.2.1 kTos j) 16 ∧ inb (x.2.1 kBankOf (ix (x.2.1 kTos j))) 4 ∧ j < 200 ∧ inb (x.2.1 kBankOf (ix (x.2.1 kTos j))) 4
        rw [s4, s5, b4]
        exact ⟨hj200, a4, b6, hj200, b6⟩
  have key := iter1 (f := b22_X12_laysNets) (a := B2) (fun j x => (∀ k, k ≠ 22 → k ≠ 38 → x.2.1 k = R k) ∧ (∀ p, p < n → x.2.1 kAreChosen p = ch p) ∧ ∀ b, b < 4 → x.2.1 kNets b = nS fk tk (R kAmounts) ch b j) (n := n) ⟨z1, fun p hp => by rw [z3]; exact hc p hp, fun b hb => by rw [z2 b hb, nS_0]⟩ (fun j hj x q => (step j hj x q).1)
  rw [lt_x, hP2, ei]
  refine ⟨key n (Nat.le_refl _), ?_⟩
  intro σ2 e
  subst e
  rw [hP2, ei]
  refine ⟨fun j hj σ e => ?_, fun j hj σ e => ?_⟩
  · subst e
    rw [(key j hj).1 kPayments (by decide) (by decide)]
    exact hPR
  · subst e
    exact (step j hj _ (key j (by omega))).2
