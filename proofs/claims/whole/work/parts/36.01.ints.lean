/-! the pure part: numbers -/
theorem tI_add {a b : Int32} (h1 : -2147483648 ≤ a.toInt + b.toInt) (h2 : a.toInt + b.toInt ≤ 2147483647) : (a + b).toInt = a.toInt + b.toInt := by
  rw [Int32.toInt_add, Int.bmod_def]
  omega
theorem tI_sub {a b : Int32} (h1 : -2147483648 ≤ a.toInt - b.toInt) (h2 : a.toInt - b.toInt ≤ 2147483647) : (a - b).toInt = a.toInt - b.toInt := by
  rw [Int32.toInt_sub, Int.bmod_def]
  omega
theorem tI_neg {a : Int32} (h1 : -2147483647 ≤ a.toInt) : (-a).toInt = -a.toInt := by
  rw [Int32.toInt_neg, Int.bmod_def]
  have := Int32.toInt_lt a
  omega
theorem tI_mul {a b : Int32} (h1 : -2147483648 ≤ a.toInt * b.toInt) (h2 : a.toInt * b.toInt ≤ 2147483647) : (a * b).toInt = a.toInt * b.toInt := by
  rw [Int32.toInt_mul, Int.bmod_def]
  generalize a.toInt * b.toInt = z at *
  omega
/-- the sum of the first rows of a column, by numbers -/
def sumI (f : Nat → Int) : Nat → Int
  | 0 => 0
  | n + 1 => sumI f n + f n
theorem sumI_congr {f g : Nat → Int} : ∀ n, (∀ i, i < n → f i = g i) → sumI f n = sumI g n := by
  intro n
  induction n with
  | zero => intro _; rfl
  | succ n ih =>
    intro h
    show sumI f n + f n = sumI g n + g n
    rw [ih (fun i hi => h i (by omega)), h n (by omega)]
theorem sumI_nonneg {f : Nat → Int} : ∀ n, (∀ i, i < n → 0 ≤ f i) → 0 ≤ sumI f n := by
  intro n
  induction n with
  | zero => intro _; exact Int.le_refl 0
  | succ n ih =>
    intro h
    have h1 := ih (fun i hi => h i (by omega))
    have h2 := h n (by omega)
    show 0 ≤ sumI f n + f n
    omega
theorem sumI_upd {f g : Nat → Int} {j : Nat} : ∀ n, j < n → (∀ i, i < n → i ≠ j → g i = f i) → sumI g n = sumI f n + (g j - f j) := by
  intro n
  induction n with
  | zero => intro h; omega
  | succ n ih =>
    intro hj h
    show sumI g n + g n = sumI f n + f n + (g j - f j)
    by_cases hn : j = n
    · rw [sumI_congr (f := g) (g := f) n (fun i hi => h i (by omega) (by omega)), hn]
      omega
    · rw [ih (by omega) (fun i hi hne => h i (by omega) hne), h n (by omega) (fun q => hn q.symm)]
      omega
theorem sumI_le {f g : Nat → Int} : ∀ n, (∀ i, i < n → f i ≤ g i) → sumI f n ≤ sumI g n := by
  intro n
  induction n with
  | zero => intro _; exact Int.le_refl 0
  | succ n ih =>
    intro h
    have h1 := ih (fun i hi => h i (by omega))
    have h2 := h n (by omega)
    show sumI f n + f n ≤ sumI g n + g n
    omega
/-- one row is at most the sum -/
theorem sumI_one {f : Nat → Int} : ∀ n j, j < n → (∀ i, i < n → 0 ≤ f i) → f j ≤ sumI f n := by
  intro n
  induction n with
  | zero => intro j h; omega
  | succ n ih =>
    intro j hj h
    have h2 := h n (by omega)
    show f j ≤ sumI f n + f n
    by_cases hn : j = n
    · have h3 := sumI_nonneg n (fun i hi => h i (by omega))
      rw [hn]
      omega
    · have h1 := ih j (by omega) (fun i hi => h i (by omega))
      omega
theorem sumI_add (f g : Nat → Int) : ∀ n, sumI (fun i => f i + g i) n = sumI f n + sumI g n := by
  intro n
  induction n with
  | zero => rfl
  | succ n ih =>
    show sumI (fun i => f i + g i) n + (f n + g n) = sumI f n + f n + (sumI g n + g n)
    rw [ih]
    omega
theorem sumI_const (c : Int) : ∀ n, sumI (fun _ => c) n = n * c := by
  intro n
  induction n with
  | zero => simp [sumI]
  | succ n ih =>
    show sumI (fun _ => c) n + c = (n + 1 : Nat) * c
    rw [ih, Int.natCast_add, Int.add_mul]
    simp
