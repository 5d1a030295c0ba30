/-! nets of chosen payments, by rows -/
def nT (fk tk am ch : Row) (b p : Nat) : Int32 := if ch p = 0 then 0 else (if tk p = nI b then am p else 0) - (if fk p = nI b then am p else 0)
def nS (fk tk am ch : Row) (b n : Nat) : Int32 := s32 (nT fk tk am ch b) n
def nU (fk tk am ch : Row) (b p : Nat) : Int := if ch p = 0 then 0 else (if tk p = nI b then (am p).toInt else 0) - (if fk p = nI b then (am p).toInt else 0)
def nZ (fk tk am ch : Row) (b n : Nat) : Int := sumI (nU fk tk am ch b) n
/-- all that is chosen -/
def nW (am ch : Row) (n : Nat) : Int := sumI (fun p => if ch p = 0 then 0 else (am p).toInt) n
theorem nW_mono {am ch : Row} {n : Nat} (h : ∀ p, p < n → ch p ≠ 0 → 0 ≤ (am p).toInt) : ∀ m, m ≤ n → 0 ≤ nW am ch m ∧ nW am ch m ≤ nW am ch n := by
  induction n with
  | zero =>
    intro m hm
    have : m = 0 := by omega
    subst this
    exact ⟨Int.le_refl 0, Int.le_refl _⟩
  | succ n ih =>
    intro m hm
    have e : nW am ch (n + 1) = nW am ch n + (if ch n = 0 then 0 else (am n).toInt) := rfl
    have q := ih (fun p hp => h p (by omega))
    have t : 0 ≤ (if ch n = 0 then 0 else (am n).toInt) := by
      by_cases c : ch n = 0
      · rw [if_pos c]
        omega
      · rw [if_neg c]
        exact h n (by omega) c
    rcases Nat.lt_or_ge n m with z | z
    · have : m = n + 1 := by omega
      subst this
      have := (q n (Nat.le_refl _)).1
      exact ⟨by omega, Int.le_refl _⟩
    · have := q m z
      exact ⟨this.1, by omega⟩
theorem nZ_abs {fk tk am ch : Row} {b : Nat} : ∀ n, (∀ p, p < n → ch p ≠ 0 → 0 ≤ (am p).toInt) → -nW am ch n ≤ nZ fk tk am ch b n ∧ nZ fk tk am ch b n ≤ nW am ch n := by
  intro n
  induction n with
  | zero => intro _; exact ⟨Int.le_refl 0, Int.le_refl 0⟩
  | succ n ih =>
    intro h
    have q := ih (fun p hp => h p (by omega))
    have e : nW am ch (n + 1) = nW am ch n + (if ch n = 0 then 0 else (am n).toInt) := rfl
    have e2 : nZ fk tk am ch b (n + 1) = nZ fk tk am ch b n + nU fk tk am ch b n := rfl
    rw [e, e2]
    unfold nU
    by_cases c : ch n = 0
    · simp only [c, if_true]
      omega
    · have := h n (by omega) c
      simp only [c, if_false]
      split <;> split <;> omega
theorem nT_toInt {fk tk am ch : Row} {b p : Nat} (h : ch p ≠ 0 → 0 ≤ (am p).toInt) : (nT fk tk am ch b p).toInt = nU fk tk am ch b p := by
  unfold nT nU
  by_cases c : ch p = 0
  · rw [if_pos c, if_pos c, w_0]
  · have := h c
    have h2 := w_hi (am p)
    have z := w_0
    rw [if_neg c, if_neg c, w_sub]
    split <;> split <;> omega
theorem nS_toInt {fk tk am ch : Row} {b : Nat} : ∀ n, (∀ p, p < n → ch p ≠ 0 → 0 ≤ (am p).toInt) → nW am ch n ≤ 1000000000 → (nS fk tk am ch b n).toInt = nZ fk tk am ch b n := by
  intro n
  induction n with
  | zero => intro _ _; exact w_0
  | succ n ih =>
    intro h hb
    have h2 := (nW_mono h n (by omega)).2
    have q := ih (fun p hp => h p (by omega)) (by omega)
    have a1 := nZ_abs (fk := fk) (tk := tk) (b := b) n (fun p hp => h p (by omega))
    have a2 := nZ_abs (fk := fk) (tk := tk) (b := b) (n + 1) h
    have e2 : nZ fk tk am ch b (n + 1) = nZ fk tk am ch b n + nU fk tk am ch b n := rfl
    have e3 : nS fk tk am ch b (n + 1) = nS fk tk am ch b n + nT fk tk am ch b n := rfl
    have e4 := nT_toInt (fk := fk) (tk := tk) (b := b) (h n (by omega))
    rw [e3, w_add, q, e4, ← e2]
    omega
theorem sum4_pick {x : Int32} (h : inb x 4) (m : Int) : sumI (fun b => if x = nI b then m else 0) 4 = m := by
  have h1 := h.2
  have e : ∀ b, b < 4 → ((x = nI b) ↔ ix x = b) := fun b hb => ⟨fun q => by rw [q, ix_nI (by omega)], fun q => by rw [← q]; exact h.1⟩
  show 0 + (if x = nI 0 then m else 0) + (if x = nI 1 then m else 0) + (if x = nI 2 then m else 0) + (if x = nI 3 then m else 0) = m
  simp only [e 0 (by omega), e 1 (by omega), e 2 (by omega), e 3 (by omega)]
  split <;> split <;> split <;> split <;> omega
theorem nZ_sum {fk tk am ch : Row} : ∀ n, (∀ p, p < n → ch p ≠ 0 → inb (fk p) 4 ∧ inb (tk p) 4) → sumI (fun b => nZ fk tk am ch b n) 4 = 0 := by
  intro n
  induction n with
  | zero => intro _; rfl
  | succ n ih =>
    intro h
    have q := ih (fun p hp => h p (by omega))
    have e : sumI (fun b => nZ fk tk am ch b (n + 1)) 4 = sumI (fun b => nZ fk tk am ch b n) 4 + sumI (fun b => nU fk tk am ch b n) 4 := sumI_add _ _ 4
    rw [e, q]
    by_cases c : ch n = 0
    · have : sumI (fun b => nU fk tk am ch b n) 4 = sumI (fun _ => 0) 4 := sumI_congr 4 (fun b _ => by unfold nU; rw [if_pos c])
      rw [this, sumI_const]
      omega
    · obtain ⟨h1, h2⟩ := h n (by omega) c
      have e2 : sumI (fun b => nU fk tk am ch b n) 4 + sumI (fun b => if fk n = nI b then (am n).toInt else 0) 4 = sumI (fun b => if tk n = nI b then (am n).toInt else 0) 4 := by
        rw [← sumI_add]
        refine sumI_congr 4 (fun b _ => ?_)
        unfold nU
        rw [if_neg c]
        omega
      rw [sum4_pick h1, sum4_pick h2] at e2
      omega
/-- what is chosen is at most all that waits, and that at most what holders have -/
theorem sum16_pick {x : Int32} (h : inb x 16) (m : Int) : ∀ N, N ≤ 16 → sumI (fun a => if x = nI a then m else 0) N = if ix x < N then m else 0 := by
  intro N
  induction N with
  | zero => intro _; rfl
  | succ N ih =>
    intro hN
    show sumI (fun a => if x = nI a then m else 0) N + (if x = nI N then m else 0) = _
    rw [ih (by omega)]
    have h1 := h.2
    by_cases c : ix x = N
    · have e : x = nI N := by rw [← c]; exact h.1
      rw [if_neg (by omega), if_pos e, if_pos (by omega)]
      omega
    · have e : ¬ x = nI N := fun q => c (by rw [q, ix_nI (by omega)])
      rw [if_neg e]
      by_cases c2 : ix x < N
      · rw [if_pos c2, if_pos (by omega)]
        omega
      · rw [if_neg c2, if_neg (by omega)]
        omega
theorem wB_all {st fr am : Row} : ∀ n, (∀ p, p < n → inb (fr p) 16) → sumI (fun a => wB st fr am a n) 16 = sumI (fun p => if st p = 0 then (am p).toInt else 0) n := by
  intro n
  induction n with
  | zero =>
    intro _
    show sumI (fun _ => 0) 16 = 0
    rw [sumI_const]
    rfl
  | succ n ih =>
    intro h
    have q := ih (fun p hp => h p (by omega))
    have e : sumI (fun a => wB st fr am a (n + 1)) 16 = sumI (fun a => wB st fr am a n) 16 + sumI (fun a => if st n = 0 ∧ fr n = nI a then (am n).toInt else 0) 16 := sumI_add _ _ 16
    rw [e, q]
    show _ = sumI (fun p => if st p = 0 then (am p).toInt else 0) n + (if st n = 0 then (am n).toInt else 0)
    by_cases c : st n = 0
    · have e2 : sumI (fun a => if st n = 0 ∧ fr n = nI a then (am n).toInt else 0) 16 = sumI (fun a => if fr n = nI a then (am n).toInt else 0) 16 := sumI_congr 16 (fun a _ => by simp only [c, true_and])
      rw [e2, sum16_pick (h n (by omega)) _ 16 (by omega), if_pos (h n (by omega)).2, if_pos c]
    · have e2 : sumI (fun a => if st n = 0 ∧ fr n = nI a then (am n).toInt else 0) 16 = sumI (fun _ => 0) 16 := sumI_congr 16 (fun a _ => by simp only [c, false_and, if_false])
      rw [e2, sumI_const, if_neg c]
      omega
theorem nW_le {u v L : Int} {R : Col} {ch : Row} (n : Num u v L R) (hc : ∀ p, p < ix (R kPayments 0) → ch p ≠ 0 → R kStates p = 0) : nW (R kAmounts) ch (ix (R kPayments 0)) ≤ u := by
  obtain ⟨nh, nu, np, -⟩ := n
  have h1 : nW (R kAmounts) ch (ix (R kPayments 0)) ≤ sumI (fun p => if R kStates p = 0 then (R kAmounts p).toInt else 0) (ix (R kPayments 0)) := sumI_le _ (fun p hp => by
    by_cases c : ch p = 0
    · simp only [c, if_true]
      split
      · next q => exact np.am p hp q
      · omega
    · simp only [c, if_false, hc p hp c, if_true]
      omega)
  rw [← wB_all _ (fun p hp => (np.2.1 p hp).1)] at h1
  have h2 : sumI (fun a => wB (R kStates) (R kFroms) (R kAmounts) a (ix (R kPayments 0))) 16 ≤ uS (R kAccounts) (R kNotes) := sumI_le 16 (fun a ha => by
    have q := nh a ha
    have q2 := np.2.2 a ha
    show wB (R kStates) (R kFroms) (R kAmounts) a (ix (R kPayments 0)) ≤ (R kAccounts a).toInt + (R kNotes a).toInt
    omega)
  omega
