/-! what clearing stands on, and how nets are laid on both sides -/
def ClB (C R : Col) (n : Nat) (fk tk : Row) : Prop := n ≤ 200 ∧ C kPayments 0 = nI n ∧ R kPayments 0 = nI n ∧ (∀ p, p < n → C kAmounts p = R kAmounts p ∧ C kStates p = R kStates p ∧ inb (R kFroms p) 16 ∧ inb (R kTos p) 16) ∧ (∀ p, p < n → R kStates p = 0 → C kFromBank p = fk p ∧ C kToBank p = tk p ∧ R kBankOf (ix (R kFroms p)) = fk p ∧ R kBankOf (ix (R kTos p)) = tk p ∧ inb (fk p) 4 ∧ inb (tk p) 4 ∧ 0 ≤ (R kAmounts p).toInt) ∧ ∀ b, b < 4 → C kReserves b = R kReserves b ∧ C kLimits b = R kLimits b
def ClC (C R : Col) (n m : Nat) (fk tk ch : Row) (x : Mem) : Prop := (∀ k, k ≠ 22 → k ≠ 38 → x.1 k = C k) ∧ (∀ p, p < n → x.1 kAreChosen p = ch p) ∧ ∀ b, b < 4 → x.1 kNets b = nS fk tk (R kAmounts) ch b m
def ClR (R : Col) (n m : Nat) (fk tk ch : Row) (y : Mem) : Prop := (∀ k, k ≠ 22 → k ≠ 38 → y.2.1 k = R k) ∧ (∀ p, p < n → y.2.1 kAreChosen p = ch p) ∧ ∀ b, b < 4 → y.2.1 kNets b = nS fk tk (R kAmounts) ch b m
def chW (st : Row) : Row := fun p => if st p = 0 then 1 else 0
theorem chW_ne {st : Row} {p : Nat} (h : chW st p ≠ 0) : st p = 0 := by
  unfold chW at h
  by_cases c : st p = 0
  · exact c
  · rw [if_neg c] at h
    exact absurd rfl h
theorem base_of {u v L : Int} {C R : Col} {d : Int32} (h : Rel C R d) (n : Num u v L R) : ClB C R (ix (R kPayments 0)) (fun p => R kBankOf (ix (R kFroms p))) (fun p => R kBankOf (ix (R kTos p))) := by
  obtain ⟨nh, nu, np, -⟩ := n
  have hn : ix (R kPayments 0) ≤ 200 := by
    have := np.1.2
    omega
  have hP : C kPayments 0 = R kPayments 0 := h.sh kPayments 0 (by decide)
  refine ⟨hn, hP.trans np.1.1, np.1.1, fun p hp => ⟨h.sh kAmounts p (show p < 200 by omega), h.sh kStates p (show p < 200 by omega), (np.2.1 p hp).1, (np.2.1 p hp).2.1⟩, fun p hp h0 => ?_, fun b hb => ⟨h.sh kReserves b hb, h.sh kLimits b hb⟩⟩
  obtain ⟨f1, f2⟩ := h.2.2.2.2.2.2.1 p hp h0
  obtain ⟨i1, i2, i3⟩ := np.2.1 p hp
  obtain ⟨-, b1, b2, -⟩ := i3 h0
  have q1 : inb (R kBankOf (ix (R kFroms p))) 4 := by
    rcases (nh _ i1.2).1 with z | z
    · exact absurd z b1
    · exact z.1
  have q2 : inb (R kBankOf (ix (R kTos p))) 4 := by
    rcases (nh _ i2.2).1 with z | z
    · exact absurd z b2
    · exact z.1
  exact ⟨f1, f2, rfl, rfl, q1, q2, np.am p hp h0⟩
theorem eq_nI {x : Int32} {b : Nat} (h : inb x 4) (hb : b < 4) : (x = nI b) ↔ b = ix x := ⟨fun q => by rw [q, ix_nI (by omega)], fun q => by rw [q]; exact h.1⟩
theorem net_put {D : Col} {f t m : Int32} {z : Nat → Int32} (hf : inb f 4) (ht : inb t 4) (hz : ∀ b, b < 4 → D kNets b = z b) : ∀ b, b < 4 → upd2 (upd2 D kNets (ix f) (D kNets (ix f) - m)) kNets (ix t) (upd2 D kNets (ix f) (D kNets (ix f) - m) kNets (ix t) + m) kNets b = z b + ((if t = nI b then m else 0) - (if f = nI b then m else 0)) := by
  intro b hb
  have e1 := eq_nI hf hb
  have e2 := eq_nI ht hb
  have hzb := hz b hb
  by_cases c2 : b = ix t
  · rw [if_pos (e2.mpr c2), c2, upd2_eq, ← c2]
    by_cases c1 : b = ix f
    · rw [if_pos (e1.mpr c1), ← c1, upd2_eq, hzb]
      grind
    · rw [if_neg (fun q => c1 (e1.mp q)), upd2_row c1, hzb]
      grind
  · rw [if_neg (fun q => c2 (e2.mp q)), upd2_row c2]
    by_cases c1 : b = ix f
    · rw [if_pos (e1.mpr c1), ← c1, upd2_eq, hzb]
      grind
    · rw [if_neg (fun q => c1 (e1.mp q)), upd2_row c1, hzb]
      grind
theorem net_off {D : Col} {f t m : Int32} {z : Nat → Int32} (hf : inb f 4) (ht : inb t 4) (hz : ∀ b, b < 4 → D kNets b = z b) : ∀ b, b < 4 → upd2 (upd2 D kNets (ix f) (D kNets (ix f) + m)) kNets (ix t) (upd2 D kNets (ix f) (D kNets (ix f) + m) kNets (ix t) - m) kNets b = z b - ((if t = nI b then m else 0) - (if f = nI b then m else 0)) := by
  intro b hb
  have e1 := eq_nI hf hb
  have e2 := eq_nI ht hb
  have hzb := hz b hb
  by_cases c2 : b = ix t
  · rw [if_pos (e2.mpr c2), c2, upd2_eq, ← c2]
    by_cases c1 : b = ix f
    · rw [if_pos (e1.mpr c1), ← c1, upd2_eq, hzb]
      grind
    · rw [if_neg (fun q => c1 (e1.mp q)), upd2_row c1, hzb]
      grind
  · rw [if_neg (fun q => c2 (e2.mp q)), upd2_row c2]
    by_cases c1 : b = ix f
    · rw [if_pos (e1.mpr c1), ← c1, upd2_eq, hzb]
      grind
    · rw [if_neg (fun q => c1 (e1.mp q)), upd2_row c1, hzb]
      grind
/-- the first loop of both: nets are 0 -/
theorem zero_C {C R : Col} {n : Nat} {fk tk : Row} {A : Mem} (hA : A.1 = C) : (∀ k, k ≠ 22 → k ≠ 38 → (iter b2_X10_chooseAllThatWait A 4).1 k = C k) ∧ ∀ b, b < 4 → (iter b2_X10_chooseAllThatWait A 4).1 kNets b = 0 := by
  have key := iter1 (f := b2_X10_chooseAllThatWait) (a := A) (fun j x => (∀ k, k ≠ 22 → k ≠ 38 → x.1 k = C k) ∧ ∀ b, b < j → x.1 kNets b = 0) (n := 4) ⟨fun k _ _ => by rw [hA], fun b hb => by omega⟩ (fun j hj x q => by
    unfold b2_X10_chooseAllThatWait
    rw [lt_x, bank_nI hj]
    refine ⟨fun k h1 h2 => (u_ne h1).trans (q.1 k h1 h2), fun b hb => ?_⟩
    by_cases c : b = j
    · subst c
      show upd2 x.1 kNets b 0 kNets b = 0
      exact upd2_eq
    · show upd2 x.1 kNets j 0 kNets b = 0
      exact (upd2_row c).trans (q.2 b (by omega))) 4 (Nat.le_refl _)
  exact key
theorem zero_R {R : Col} {B : Mem} (h0 : ∀ k, k ≠ 22 → k ≠ 38 → B.2.1 k = R k) : (∀ k, k ≠ 22 → k ≠ 38 → (iter b2_X12_laysNets B 4).2.1 k = R k) ∧ (iter b2_X12_laysNets B 4).2.1 kAreChosen = B.2.1 kAreChosen ∧ ∀ b, b < 4 → (iter b2_X12_laysNets B 4).2.1 kNets b = 0 := by
  have key := iter1 (f := b2_X12_laysNets) (a := B) (fun j x => (∀ k, k ≠ 22 → k ≠ 38 → x.2.1 k = R k) ∧ x.2.1 kAreChosen = B.2.1 kAreChosen ∧ ∀ b, b < j → x.2.1 kNets b = 0) (n := 4) ⟨h0, rfl, fun b hb => by omega⟩ (fun j hj x q => by
    unfold b2_X12_laysNets
    rw [lt_x]
    refine ⟨fun k h1 h2 => (u_ne h1).trans (q.1 k h1 h2), q.2.1, fun b hb => ?_⟩
    by_cases c : b = j
    · subst c
      show upd2 x.2.1 kNets b 0 kNets b = 0
      exact upd2_eq
    · show upd2 x.2.1 kNets j 0 kNets b = 0
      exact (upd2_row c).trans (q.2.2 b (by omega))) 4 (Nat.le_refl _)
  exact key
