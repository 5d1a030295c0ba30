/-! tools of the pure part -/
theorem u_eq {C : Col} {k i : Nat} {v : Int32} : upd2 C k i v k = fun j => if j = i then v else C k j := by
  funext j
  unfold upd2
  rw [if_pos rfl]
theorem u_ne {C : Col} {k i k' : Nat} {v : Int32} (h : k' ≠ k) : upd2 C k i v k' = C k' := by
  funext j
  unfold upd2
  rw [if_neg h]
theorem uu_same {C : Col} {k i : Nat} : upd2 C k i (C k i) = C := by
  funext k' i'
  unfold upd2
  split
  · split
    · subst k'; subst i'; rfl
    · rfl
  · rfl
theorem u_comm {C : Col} {k i k' i' : Nat} {v w : Int32} (h : k ≠ k') : upd2 (upd2 C k i v) k' i' w = upd2 (upd2 C k' i' w) k i v := by
  funext a b
  unfold upd2
  by_cases h1 : a = k
  · by_cases h2 : a = k'
    · exact absurd (h1.symm.trans h2) h
    · simp only [h1, h, if_false, if_true]
  · by_cases h2 : a = k'
    · have h3 : ¬ k' = k := fun q => h q.symm
      simp only [h2, h3, if_false, if_true]
    · simp only [h2, h1, if_false]
theorem u_twice {C : Col} {k i : Nat} {v w : Int32} : upd2 (upd2 C k i v) k i w = upd2 C k i w := by
  funext a b
  unfold upd2
  split
  · split <;> rfl
  · rfl
theorem w_add (a b : Int32) : (a + b).toInt = (a.toInt + b.toInt + 2147483648) % 4294967296 - 2147483648 := by
  rw [Int32.toInt_add, Int.bmod_def]
  omega
theorem w_sub (a b : Int32) : (a - b).toInt = (a.toInt - b.toInt + 2147483648) % 4294967296 - 2147483648 := by
  rw [Int32.toInt_sub, Int.bmod_def]
  omega
theorem w_neg (a : Int32) : (-a).toInt = (-a.toInt + 2147483648) % 4294967296 - 2147483648 := by
  rw [Int32.toInt_neg, Int.bmod_def]
  omega
theorem w_le (a b : Int32) : a ≤ b ↔ a.toInt ≤ b.toInt := Int32.le_iff_toInt_le
theorem w_lt (a b : Int32) : a < b ↔ a.toInt < b.toInt := Int32.lt_iff_toInt_lt
theorem w_eq (a b : Int32) : a = b ↔ a.toInt = b.toInt := Int32.toInt_inj.symm
theorem w_lo (a : Int32) : -2147483648 ≤ a.toInt := Int32.le_toInt a
theorem w_hi (a : Int32) : a.toInt ≤ 2147483647 := by
  have := Int32.toInt_lt a
  omega
theorem w_0 : (0 : Int32).toInt = 0 := by decide
theorem w_1 : (1 : Int32).toInt = 1 := by decide
theorem w_m1 : (-1 : Int32).toInt = -1 := by decide
theorem ix_toInt (x : Int32) : (ix x : Int) = max x.toInt 0 := by
  unfold ix
  rw [← Int32.toNat_toInt]
  omega
theorem inb_iff {x : Int32} {N : Nat} (hN : N < 2 ^ 31) : inb x N ↔ 0 ≤ x.toInt ∧ x.toInt < N := by
  have h1 := ix_toInt x
  constructor
  · intro h
    have h2 := congrArg Int32.toInt h.1
    rw [nI_toInt (ix_lt x)] at h2
    have := h.2
    omega
  · intro h
    refine ⟨?_, by omega⟩
    apply Int32.toInt_inj.mp
    rw [nI_toInt (ix_lt x)]
    omega
theorem inb_nI {n N : Nat} (h : n < N) (hN : N < 2 ^ 31) : inb (nI n) N := by
  refine ⟨by rw [ix_nI (by omega)], by rw [ix_nI (by omega)]; exact h⟩
theorem inb_mono {x : Int32} {N M : Nat} (h : inb x N) (hNM : N ≤ M) : inb x M := ⟨h.1, Nat.lt_of_lt_of_le h.2 hNM⟩
theorem inb_toInt {x : Int32} {N : Nat} (h : inb x N) : x.toInt = (ix x : Int) := by
  have h2 := congrArg Int32.toInt h.1
  rwa [nI_toInt (ix_lt x)] at h2
theorem inb_inj {x y : Int32} {N M : Nat} (h : inb x N) (h2 : inb y M) (e : ix x = ix y) : x = y := by rw [h.1, h2.1, e]
theorem nI_inj {a b : Nat} (ha : a < 2 ^ 31) (hb : b < 2 ^ 31) (h : nI a = nI b) : a = b := (nI_eq ha hb).mp h
theorem inb_ne {x : Int32} {N : Nat} (h : inb x N) : x ≠ -1 := by
  intro e
  have h1 := inb_toInt h
  rw [e, w_m1] at h1
  omega
theorem holder_in {S : Mem} {x : Int32} (h : inb x 16) : f_X3_holder S x = ix x := by
  have h1 := inb_toInt h
  have h2 := h.2
  unfold f_X3_holder
  refine lt_eq (x := ix x) ?_
  rw [if_neg (by rw [w_lt, w_0]; omega), if_neg (by rw [w_le, nI_toInt (by omega)]; omega)]
theorem holder_nI {S : Mem} {j : Nat} (h : j < 16) : f_X3_holder S (nI j) = j := by
  rw [holder_in (inb_nI h (by omega)), ix_nI (by omega)]
theorem bank_in {S : Mem} {x : Int32} (h : inb x 4) : f_X3_bank S x = ix x := by
  have h1 := inb_toInt h
  have h2 := h.2
  unfold f_X3_bank
  refine lt_eq (x := ix x) ?_
  rw [if_neg (by rw [w_lt, w_0]; omega), if_neg (by rw [w_le, nI_toInt (by omega)]; omega)]
theorem bank_nI {S : Mem} {j : Nat} (h : j < 4) : f_X3_bank S (nI j) = j := by
  rw [bank_in (inb_nI h (by omega)), ix_nI (by omega)]
theorem bank_no {S : Mem} : f_X3_bank S (-1) = 4 := by
  unfold f_X3_bank
  refine lt_eq (x := 4) ?_
  rw [if_pos (by decide)]
theorem at10_nI {S : Mem} {j : Nat} (h : j < 200) : f_X10_at S (nI j) = j := by
  unfold f_X10_at
  refine lt_eq (x := j) ?_
  rw [if_neg (nI_pos (by omega)), if_neg (nI_ge h (by omega)), ix_nI (by omega)]
theorem at10_in {S : Mem} {x : Int32} (h : inb x 200) : f_X10_at S x = ix x := by
  have h2 := at10_nI (S := S) h.2
  rwa [← h.1] at h2
theorem at7_nI {S : Mem} {j : Nat} (h : j < 20) : f_X7_at S (nI j) = j := by
  unfold f_X7_at
  refine lt_eq (x := j) ?_
  rw [if_neg (nI_pos (by omega)), if_neg (nI_ge h (by omega)), ix_nI (by omega)]
theorem at7_in {S : Mem} {x : Int32} (h : inb x 20) : f_X7_at S x = ix x := by
  have h2 := at7_nI (S := S) h.2
  rwa [← h.1] at h2
theorem bid_nI {S : Mem} {j : Nat} (h : j < 12) : f_X2_bidAt S (nI j) = j := by
  unfold f_X2_bidAt
  refine lt_eq (x := j) ?_
  rw [if_neg (nI_pos (by omega)), if_neg (nI_ge h (by omega)), ix_nI (by omega)]
theorem bid_in {S : Mem} {x : Int32} (h : inb x 12) : f_X2_bidAt S x = ix x := by
  have h2 := bid_nI (S := S) h.2
  rwa [← h.1] at h2
theorem iter_congr {α : Type} {f g : Nat → α → α} {a : α} : ∀ n, (∀ j, j < n → ∀ σ, f j σ = g j σ) → iter f a n = iter g a n := by
  intro n
  induction n with
  | zero => intro _; rfl
  | succ n ih =>
    intro h
    show f n (iter f a n) = g n (iter g a n)
    rw [ih (fun j hj => h j (by omega)), h n (by omega)]
/-- two loops beside each other -/
theorem iter2 {α β : Type} {f : Nat → α → α} {g : Nat → β → β} {a : α} {b : β} (P : Nat → α → β → Prop) {n : Nat} (h0 : P 0 a b) (hs : ∀ j, j < n → ∀ x y, P j x y → P (j + 1) (f j x) (g j y)) : ∀ m, m ≤ n → P m (iter f a m) (iter g b m) := by
  intro m
  induction m with
  | zero => intro _; exact h0
  | succ m ih => intro hm; exact hs m (by omega) _ _ (ih (by omega))
theorem iter1 {α : Type} {f : Nat → α → α} {a : α} (P : Nat → α → Prop) {n : Nat} (h0 : P 0 a) (hs : ∀ j, j < n → ∀ x, P j x → P (j + 1) (f j x)) : ∀ m, m ≤ n → P m (iter f a m) := by
  intro m
  induction m with
  | zero => intro _; exact h0
  | succ m ih => intro hm; exact hs m (by omega) _ (ih (by omega))
/-- sums in the machine's numbers -/
def s32 (f : Nat → Int32) : Nat → Int32
  | 0 => 0
  | n + 1 => s32 f n + f n
theorem s32_congr {f g : Nat → Int32} : ∀ n, (∀ i, i < n → f i = g i) → s32 f n = s32 g n := by
  intro n
  induction n with
  | zero => intro _; rfl
  | succ n ih =>
    intro h
    show s32 f n + f n = s32 g n + g n
    rw [ih (fun i hi => h i (by omega)), h n (by omega)]
theorem s32_upd {f g : Nat → Int32} {j : Nat} : ∀ n, j < n → (∀ i, i < n → i ≠ j → g i = f i) → s32 g n = s32 f n + (g j - f j) := by
  intro n
  induction n with
  | zero => intro h; omega
  | succ n ih =>
    intro hj h
    show s32 g n + g n = s32 f n + f n + (g j - f j)
    by_cases hn : j = n
    · rw [s32_congr (f := g) (g := f) n (fun i hi => h i (by omega) (by omega)), hn]
      grind
    · rw [ih (by omega) (fun i hi hne => h i (by omega) hne), h n (by omega) (fun q => hn q.symm)]
      grind
theorem s32_iter {f : Nat → Int32} {b : Nat → Int32 → Int32} (a : Int32) : ∀ n, (∀ j, j < n → ∀ σ, b j σ = σ + f j) → iter b a n = a + s32 f n := by
  intro n
  induction n with
  | zero => intro _; exact (Int32.add_zero a).symm
  | succ n ih =>
    intro h
    show b n (iter b a n) = a + (s32 f n + f n)
    rw [ih (fun j hj => h j (by omega)), h n (by omega), Int32.add_assoc]
theorem s32_add (f g : Nat → Int32) : ∀ n, s32 (fun i => f i + g i) n = s32 f n + s32 g n := by
  intro n
  induction n with
  | zero => rfl
  | succ n ih =>
    show s32 (fun i => f i + g i) n + (f n + g n) = s32 f n + f n + (s32 g n + g n)
    rw [ih]
    grind
theorem s32_sub (f g : Nat → Int32) : ∀ n, s32 (fun i => f i - g i) n = s32 f n - s32 g n := by
  intro n
  induction n with
  | zero => exact (Int32.sub_self 0).symm
  | succ n ih =>
    show s32 (fun i => f i - g i) n + (f n - g n) = s32 f n + f n - (s32 g n + g n)
    rw [ih]
    grind
/-- by numbers, where no partial sum runs over -/
theorem s32_toInt {f : Nat → Int32} : ∀ n, (∀ i, i < n → 0 ≤ (f i).toInt) → sumI (fun i => (f i).toInt) n ≤ 2147483647 → (s32 f n).toInt = sumI (fun i => (f i).toInt) n := by
  intro n
  induction n with
  | zero => intro _ _; exact w_0
  | succ n ih =>
    intro h hb
    have h1 := h n (by omega)
    have hb2 : sumI (fun i => (f i).toInt) n + (f n).toInt ≤ 2147483647 := hb
    have h2 := sumI_nonneg (f := fun i => (f i).toInt) n (fun i hi => h i (by omega))
    have h3 := ih (fun i hi => h i (by omega)) (by omega)
    show (s32 f n + f n).toInt = sumI (fun i => (f i).toInt) n + (f n).toInt
    rw [w_add, h3]
    omega
/-- a step of a body, as an equation that isn't unfolded -/
theorem lt_x {α β : Type} (a : α) (f : α → β) : lt a f = f a := lt_eq (Eq.refl a)
theorem iter_s {α : Type} {f : Nat → α → α} {a : α} {n : Nat} : iter f a (n + 1) = f n (iter f a n) := iter_succ.trans rfl
