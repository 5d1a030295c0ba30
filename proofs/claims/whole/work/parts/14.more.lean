/-! small rows that the printed walks use -/
theorem pos64 {x : Int32} (h : 0 < x) : ¬ x.toInt64 = 0 := by
  intro q
  have h1 : x.toInt64.toInt = 0 := by rw [q]; rfl
  rw [Int32.toInt_toInt64] at h1
  have h2 := Int32.lt_iff_toInt_lt.mp h
  rw [h1] at h2
  exact absurd h2 (by decide)
theorem bd_t {y : Int32} {N j : Nat} (hb : y = nI N) (h : N ≤ j ∧ j < 2 ^ 31) : y ≤ nI j := by rw [hb]; exact nI_le h.1 h.2
theorem bd_f {y : Int32} {N j : Nat} (hb : y = nI N) (h : j < N ∧ N < 2 ^ 31) : ¬ y ≤ nI j := by rw [hb]; exact nI_ge h.1 h.2
section More
variable {O : Om} {G : Cx} {D : FD} {k n : Nat} {Q : State → Prop} {S : Mem} {pc : Nat} {ls : List (Option AV)} {st : List AV}
theorem a_set (h : ∀ z : Mem, S = z → BW O G D k n Q z pc ls st) : BW O G D k n Q S pc ls st := h S rfl
theorem a_seti {x : Int32} (h : ∀ y : Int32, x = y → BW O G D k n Q S pc ls (vi y :: st)) : BW O G D k n Q S pc ls (vi x :: st) := h x rfl
def lsLe : List (Option AV) → List (Option AV) → Prop
  | _, [] => True
  | [], none :: r2 => lsLe [] r2
  | [], some _ :: _ => False
  | _ :: r, none :: r2 => lsLe r r2
  | a :: r, some v :: r2 => a = some v ∧ lsLe r r2
theorem lsLe_ok : ∀ {l l2 : List (Option AV)}, lsLe l l2 → ∀ (i : Nat) (v : AV), l2[i]? = some (some v) → l[i]? = some (some v) := by
  intro l l2
  induction l2 generalizing l with
  | nil => intro _ i v h; simp at h
  | cons b r2 ih =>
    intro h i v hv
    cases l with
    | nil =>
      cases b with
      | none =>
        cases i with
        | zero => simp at hv
        | succ i =>
          simp at hv
          have := ih (l := []) h i v hv
          simp at this
      | some w => exact h.elim
    | cons a r =>
      cases b with
      | none =>
        cases i with
        | zero => simp at hv
        | succ i =>
          simp at hv
          have := ih (l := r) h i v hv
          simpa using this
      | some w =>
        cases i with
        | zero =>
          simp at hv
          subst hv
          simpa using h.1
        | succ i =>
          simp at hv
          have := ih (l := r) h.2 i v hv
          simpa using this
theorem a_drop {ls2 : List (Option AV)} (h : lsLe ls ls2) (kk : BW O G D k n Q S pc ls2 st) : BW O G D k n Q S pc ls st := by
  obtain ⟨p, l, e, R, s, m, args, below, meth, c⟩ := G
  intro hR F H locs la hP hS hL
  exact kk hR F H locs la hP hS ⟨hL.1, hL.2.1, fun i v hv => hL.2.2 i v (lsLe_ok h i v hv)⟩
end More
def outE {α : Type} (x : α ⊕ α) : α := match x with
  | .inl a => a
  | .inr a => a
def matchE {α β : Type} (x : α ⊕ β) (f : α → β) : β := match x with
  | .inl a => f a
  | .inr r => r
theorem matchE_l {α β : Type} {x : α ⊕ β} {a : α} {f : α → β} (h : x = .inl a) : matchE x f = f a := by rw [h]; rfl
theorem matchE_r {α β : Type} {x : α ⊕ β} {r : β} {f : α → β} (h : x = .inr r) : matchE x f = r := by rw [h]; rfl
theorem iterE_stop {α β : Type} {f : Nat → α → α ⊕ β} {a σ : α} {r : β} {j : Nat} (h : iterE f a j = .inl σ) (hr : f j σ = .inr r) : ∀ n : Nat, j < n → iterE f a n = .inr r := by
  intro n hn
  induction n with
  | zero => omega
  | succ n ih =>
    rcases Nat.lt_or_ge j n with q | q
    · show (match iterE f a n with | .inl x => f n x | .inr r => .inr r) = _
      rw [ih q]
    · have e : j = n := by omega
      subst e
      show (match iterE f a j with | .inl x => f j x | .inr r => .inr r) = _
      rw [h]
      exact hr
theorem iterE_go {α β : Type} {f : Nat → α → α ⊕ β} {a σ σ' : α} {j : Nat} (h : iterE f a j = .inl σ) (hs : f j σ = .inl σ') : iterE f a (j + 1) = .inl σ' := by
  show (match iterE f a j with | .inl x => f j x | .inr r => .inr r) = _
  rw [h]
  exact hs
theorem iter_succ {α : Type} {f : Nat → α → α} {a : α} {n : Nat} : iter f a (n + 1) = f n (iter f a n) := rfl
def iterD {β : Type} (f : Nat → Unit ⊕ β) : Nat → Unit ⊕ β
  | 0 => .inl ()
  | n + 1 => match f n with
    | .inl _ => iterD f n
    | .inr r => .inr r
theorem iterD_go {β : Type} {f : Nat → Unit ⊕ β} {n : Nat} (h : f n = .inl ()) : iterD f (n + 1) = iterD f n := by
  show (match f n with | .inl _ => iterD f n | .inr r => .inr r) = _
  rw [h]
theorem iterD_stop {β : Type} {f : Nat → Unit ⊕ β} {n : Nat} {r : β} (h : f n = .inr r) : iterD f (n + 1) = .inr r := by
  show (match f n with | .inl _ => iterD f n | .inr r => .inr r) = _
  rw [h]
theorem iter_inv {α : Type} {f : Nat → α → α} {a : α} (P : α → Prop) (h0 : P a) (hs : ∀ j σ, P σ → P (f j σ)) : ∀ n, P (iter f a n) := by
  intro n
  induction n with
  | zero => exact h0
  | succ n ih => exact hs n _ ih
theorem matchE_go {β : Type} {f : Nat → Unit ⊕ β} {n : Nat} {g : Unit → β} (h : f n = .inl ()) : matchE (iterD f (n + 1)) g = matchE (iterD f n) g := by rw [iterD_go h]
theorem iincm1 (x : Int32) : x + Int32.ofInt (-1) = x - 1 := by rw [Int32.sub_eq_add_neg]; rfl
theorem ne_toInt {x : Int32} {v : Nat} (h : ¬ x = nI v) (hv : v < 2 ^ 31) : x.toInt ≠ (v : Int) := fun q => h (Int32.toInt_inj.mp (q.trans (nI_toInt hv).symm))
def lt {α β : Type} (a : α) (f : α → β) : β := f a
theorem lt_eq {α β : Type} {a x : α} {f : α → β} (h : a = x) : lt a f = f x := by rw [h]; rfl
