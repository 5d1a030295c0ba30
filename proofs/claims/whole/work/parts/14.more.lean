/-! small rows that the printed walks use -/
theorem pos64 {x : Int32} (h : 0 < x) : ¬ x.toInt64 = 0 := by
  intro q
  have h1 : x.toInt64.toInt = 0 := by rw [q]; rfl
  rw [Int32.toInt_toInt64] at h1
  have h2 := Int32.lt_iff_toInt_lt.mp h
  rw [h1] at h2
  exact absurd h2 (by decide)
theorem bd_t {y : Int32} {N j : Nat} (hb : y = nI N) (h : N ≤ j ∧ j < 2 ^ 31) : y ≤ nI j := by rw [hb]; exact nI_le h.1 h.2
theorem bd_f {y : Int32} {N j : Nat} (hb : y = nI N) (h : j < N ∧ N < 2 ^ 31) : ¬ y ≤ nI j := by rw [hb]; exact nI_ge h.1 h.2
section More
variable {O : Om} {G : Cx} {D : FD} {k n : Nat} {Q : State → Prop} {S : Mem} {pc : Nat} {ls : List (Option AV)} {st : List AV}
theorem a_set (h : ∀ z : Mem, z = S → BW O G D k n Q z pc ls st) : BW O G D k n Q S pc ls st := h S rfl
theorem a_seti {x : Int32} (h : ∀ y : Int32, y = x → BW O G D k n Q S pc ls (vi y :: st)) : BW O G D k n Q S pc ls (vi x :: st) := h x rfl
end More
theorem iterE_stop {α β : Type} {f : Nat → α → α ⊕ β} {a σ : α} {r : β} {j : Nat} (h : iterE f a j = .inl σ) (hr : f j σ = .inr r) : ∀ n : Nat, j < n → iterE f a n = .inr r := by
  intro n hn
  induction n with
  | zero => omega
  | succ n ih =>
    rcases Nat.lt_or_ge j n with q | q
    · show (match iterE f a n with | .inl x => f n x | .inr r => .inr r) = _
      rw [ih q]
    · have e : j = n := by omega
      subst e
      show (match iterE f a j with | .inl x => f j x | .inr r => .inr r) = _
      rw [h]
      exact hr
theorem iterE_go {α β : Type} {f : Nat → α → α ⊕ β} {a σ σ' : α} {j : Nat} (h : iterE f a j = .inl σ) (hs : f j σ = .inl σ') : iterE f a (j + 1) = .inl σ' := by
  show (match iterE f a j with | .inl x => f j x | .inr r => .inr r) = _
  rw [h]
  exact hs
