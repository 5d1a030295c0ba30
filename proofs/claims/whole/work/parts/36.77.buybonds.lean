/-! bonds are bought: the rows -/
theorem bonS_toInt {u v L : Int} {R : Col} {o : Nat} (n : Num u v L R) (ho : o < 5) : (bonS R o).toInt = sumI (fun k => (R kBonds (5 * k + o)).toInt) (ix (R kAuctions 0)) := by
  have nf : zF (R kAuctions) (R kBonds) (R kHaveFailed) := n.2.2.2.2.2.1
  have hn := nf.1.2
  have h1 : ∀ k, k < ix (R kAuctions 0) → 0 ≤ (R kBonds (5 * k + o)).toInt ∧ (R kBonds (5 * k + o)).toInt ≤ 10000 := fun k hk => by
    obtain ⟨p1, p2, -, -⟩ := nf.2 k (by omega)
    have h3 := sumI_one (f := fun o => (R kBonds (5 * k + o)).toInt) 5 o ho (fun i hi => p1 i hi)
    have h3 : (R kBonds (5 * k + o)).toInt ≤ _ := h3
    exact ⟨p1 o ho, by omega⟩
  have h2 := sumI_le (f := fun k => (R kBonds (5 * k + o)).toInt) (g := fun _ => 10000) (ix (R kAuctions 0)) (fun k hk => (h1 k hk).2)
  rw [sumI_const] at h2
  unfold bonS
  exact s32_toInt _ (fun k hk => (h1 k hk).1) (by omega)
def BB (u v L : Int) (R0 : Col) (b : Nat) (p : Int32) (j : Nat) (X Y : Int32 × Mem) : Prop :=
  X.1 = Y.1 ∧ Rel X.2.1 Y.2.2.1 (X.1 - p) ∧ Num u v L Y.2.2.1 ∧ (∀ k, k ≠ 41 → Y.2.2.1 k = R0 k) ∧ 0 ≤ X.1.toInt ∧ X.1.toInt ≤ sumI (fun k => (R0 kBonds (5 * k + b)).toInt) (ix (R0 kAuctions 0)) - sumI (fun k => (R0 kBonds (5 * k + b)).toInt) j ∧ ∀ k, j ≤ k → k < ix (R0 kAuctions 0) → Y.2.2.1 kBonds (5 * k + b) = R0 kBonds (5 * k + b)
theorem bb_step {u v L : Int} {R0 : Col} {b j : Nat} {p : Int32} {X Y : Int32 × Mem} (n0 : Num u v L R0) (hb : b < 4) (hj : j < ix (R0 kAuctions 0)) (h : BB u v L R0 b p j X Y) : BB u v L R0 b p (j + 1) (b5_X2_moveToCentral (nI b) j X) (b57_X12_buyBonds (nI b) j Y) := by
  obtain ⟨h1, h2, h3, h4, h5, h6, h7⟩ := h
  have nf : zF (R0 kAuctions) (R0 kBonds) (R0 kHaveFailed) := n0.2.2.2.2.2.1
  have hn := nf.1.2
  have hj20 : j < 20 := by omega
  have f0 : ∀ k, k < ix (R0 kAuctions 0) → 0 ≤ (R0 kBonds (5 * k + b)).toInt := fun k hk => (nf.2 k (by omega)).1 b (by omega)
  have tail := sumI_tail (f := fun k => (R0 kBonds (5 * k + b)).toInt) (ix (R0 kAuctions 0)) j hj f0
  have tail : (R0 kBonds (5 * j + b)).toInt ≤ _ := tail
  have hy := h7 j (Nat.le_refl _) hj
  have hx : X.2.1 kBonds (5 * j + b) = R0 kBonds (5 * j + b) := (h2.sh kBonds _ (show 5 * j + b < 100 by omega)).trans hy
  obtain ⟨m, hm⟩ : ∃ m, (if R0 kBonds (5 * j + b) < X.1 then R0 kBonds (5 * j + b) else X.1) = m := ⟨_, rfl⟩
  have hm2 : (if X.1 < R0 kBonds (5 * j + b) then X.1 else R0 kBonds (5 * j + b)) = m := by
    rw [← hm]
    by_cases c : R0 kBonds (5 * j + b) < X.1
    · rw [if_pos c, if_neg (by rw [w_lt] at c ⊢; omega)]
    · rw [if_neg c]
      by_cases c' : X.1 < R0 kBonds (5 * j + b)
      · rw [if_pos c']
      · rw [if_neg c']
        rw [w_lt] at c c'
        exact Int32.toInt_inj.mp (by omega)
  have mb : 0 ≤ m.toInt ∧ m.toInt ≤ (R0 kBonds (5 * j + b)).toInt ∧ m.toInt ≤ X.1.toInt ∧ (m.toInt = (R0 kBonds (5 * j + b)).toInt ∨ m.toInt = X.1.toInt) := by
    have := f0 j hj
    rw [← hm]
    by_cases c : R0 kBonds (5 * j + b) < X.1
    · rw [if_pos c]
      rw [w_lt] at c
      omega
    · rw [if_neg c]
      rw [w_lt] at c
      omega
  have hja : j < ix (Y.2.2.1 kAuctions 0) := by
    rw [h4 kAuctions (by decide)]
    exact hj
  obtain ⟨q1, q2⟩ := move_one (A := X.2) (m := m) (k := j) (b := b) h2 h3 hja hb mb.1 (by rw [hy]; exact mb.2.1)
  have hw := w_hi X.1
  have el : (X.1 - m).toInt = X.1.toInt - m.toInt := by
    rw [w_sub]
    omega
  have eX : b5_X2_moveToCentral (nI b) j X = (X.1 - m, f_X2_add (f_X2_add X.2 (nI b) (nI j) (-m)) (nI 4) (nI j) m) := by
    unfold b5_X2_moveToCentral
    rw [held_at hj20 (by omega), hx, lt_x, hm, lt_x, lt_x, lt_x]
  have eY : b57_X12_buyBonds (nI b) j Y = (X.1 - m, (Y.2.1, moveR Y.2.2.1 j b m, Y.2.2.2)) := by
    unfold b57_X12_buyBonds
    rw [least_eq, place_r, place_r, ix_nI (by omega), ix_nI (by omega), hy, ← h1, hm2, lt_x, lt_x, lt_x]
    dsimp only
    rw [upd2_row (by omega), ← hy]
    rfl
  rw [eX, eY]
  refine ⟨rfl, q1.d_eq (by show X.1 - p - m = X.1 - m - p; grind), q2, fun k hk => ?_, by rw [el]; omega, ?_, fun k hk hk2 => ?_⟩
  · show moveR Y.2.2.1 j b m k = R0 k
    unfold moveR
    rw [u_ne hk, u_ne hk]
    exact h4 k hk
  · rw [el]
    show _ ≤ _ - (sumI (fun k => (R0 kBonds (5 * k + b)).toInt) j + (R0 kBonds (5 * j + b)).toInt)
    omega
  · show moveR Y.2.2.1 j b m kBonds (5 * k + b) = _
    unfold moveR
    rw [upd2_row (by omega), upd2_row (by omega)]
    exact h7 k (by omega) hk2
