/-! the bank that lacks most; the latest chosen payment from a bank; how many are chosen -/
def lkR (re li ne : Row) (b : Nat) : Int32 := (-(ne b)) - (if li b < re b then li b else re b)
def wBody (lk : Row) (j : Nat) (σ : Int32 × Int32) : Int32 × Int32 := (if lk j ≤ σ.2 then σ.1 else nI j, if lk j ≤ σ.2 then σ.2 else lk j)
def worst (lk : Row) : Int32 := (iter (wBody lk) (-1, 0) 4).1
theorem min_sym (a b : Int32) : (if a < b then a else b) = (if b < a then b else a) := by
  by_cases c : a < b
  · rw [if_pos c, if_neg (by rw [w_lt]; rw [w_lt] at c; omega)]
  · rw [if_neg c]
    by_cases c2 : b < a
    · rw [if_pos c2]
    · rw [if_neg c2]
      apply Int32.toInt_inj.mp
      rw [w_lt] at c c2
      omega
theorem worst_spec (lk : Row) : (worst lk = -1 ∧ ∀ b, b < 4 → (lk b).toInt ≤ 0) ∨ ∃ b, b < 4 ∧ worst lk = nI b ∧ 0 < (lk b).toInt := by
  have key := iter1 (f := wBody lk) (a := ((-1, 0) : Int32 × Int32)) (fun j σ => (σ.1 = -1 ∧ σ.2 = 0 ∧ ∀ i, i < j → (lk i).toInt ≤ 0) ∨ (∃ i, i < j ∧ σ.1 = nI i ∧ 0 < (lk i).toInt ∧ 0 < σ.2.toInt)) (n := 4) (Or.inl ⟨rfl, rfl, fun i hi => by omega⟩) (fun j hj σ q => by
    unfold wBody
    by_cases c : lk j ≤ σ.2
    · simp only [c, if_true]
      rw [w_le] at c
      rcases q with ⟨q1, q2, q3⟩ | ⟨i, q1, q2, q3, q4⟩
      · refine Or.inl ⟨q1, q2, fun i hi => ?_⟩
        by_cases e : i = j
        · subst e
          rw [q2, w_0] at c
          exact c
        · exact q3 i (by omega)
      · exact Or.inr ⟨i, by omega, q2, q3, q4⟩
    · simp only [c, if_false]
      rw [w_le] at c
      have h0 : 0 ≤ σ.2.toInt := by
        rcases q with ⟨q1, q2, q3⟩ | ⟨i, q1, q2, q3, q4⟩
        · rw [q2, w_0]
          omega
        · omega
      exact Or.inr ⟨j, by omega, rfl, by omega, by omega⟩) 4 (Nat.le_refl _)
  rcases key with ⟨q1, q2, q3⟩ | ⟨i, q1, q2, q3, q4⟩
  · exact Or.inl ⟨q1, q3⟩
  · exact Or.inr ⟨i, q1, q2, q3⟩
theorem worst_C {S : Mem} {re li ne : Row} (h : ∀ b, b < 4 → S.1 kReserves b = re b ∧ S.1 kLimits b = li b ∧ S.1 kNets b = ne b) : f_X3_bankThatLacksMost S = worst (lkR re li ne) := by
  unfold f_X3_bankThatLacksMost worst
  have e : iter (b6_X3_bankThatLacksMost S) ((-1), 0) 4 = iter (wBody (lkR re li ne)) ((-1), 0) 4 := iter_congr 4 (fun j hj σ => by
    obtain ⟨h1, h2, h3⟩ := h j hj
    unfold b6_X3_bankThatLacksMost f_X0_lacks wBody lkR
    simp only [lt_x, bank_nI hj, h1, h2, h3])
  rw [e, lt_x]
theorem worst_R {S : Mem} {re li ne : Row} (h : ∀ b, b < 4 → S.2.1 kReserves b = re b ∧ S.2.1 kLimits b = li b ∧ S.2.1 kNets b = ne b) : f_X12_worstBank S = worst (lkR re li ne) := by
  unfold f_X12_worstBank worst
  have e : iter (b6_X12_worstBank S) ((-1), 0) 4 = iter (wBody (lkR re li ne)) ((-1), 0) 4 := iter_congr 4 (fun j hj σ => by
    obtain ⟨h1, h2, h3⟩ := h j hj
    unfold b6_X12_worstBank wBody lkR f_X12_most
    simp only [lt_x, least_eq, h1, h2, h3]
    rw [min_sym])
  rw [e, lt_x]
def lst (ch fk : Row) (w : Int32) : Nat → Int32
  | 0 => -1
  | p + 1 => if ch p = 0 then lst ch fk w p else if fk p = w then nI p else lst ch fk w p
theorem lst_spec {ch fk : Row} {w : Int32} : ∀ n, (lst ch fk w n = -1 ∧ ∀ p, p < n → ch p ≠ 0 → fk p ≠ w) ∨ ∃ p, p < n ∧ lst ch fk w n = nI p ∧ ch p ≠ 0 ∧ fk p = w := by
  intro n
  induction n with
  | zero => exact Or.inl ⟨rfl, fun p hp => by omega⟩
  | succ n ih =>
    have e : lst ch fk w (n + 1) = if ch n = 0 then lst ch fk w n else if fk n = w then nI n else lst ch fk w n := rfl
    rw [e]
    by_cases c : ch n = 0
    · rw [if_pos c]
      rcases ih with ⟨q1, q2⟩ | ⟨p, q1, q2⟩
      · refine Or.inl ⟨q1, fun p hp hc => ?_⟩
        by_cases z : p = n
        · subst z
          exact absurd c hc
        · exact q2 p (by omega) hc
      · exact Or.inr ⟨p, by omega, q2⟩
    · rw [if_neg c]
      by_cases c2 : fk n = w
      · rw [if_pos c2]
        exact Or.inr ⟨n, by omega, rfl, c, c2⟩
      · rw [if_neg c2]
        rcases ih with ⟨q1, q2⟩ | ⟨p, q1, q2⟩
        · refine Or.inl ⟨q1, fun p hp hc => ?_⟩
          by_cases z : p = n
          · subst z
            exact c2
          · exact q2 p (by omega) hc
        · exact Or.inr ⟨p, by omega, q2⟩
def cn (ch : Row) : Nat → Nat
  | 0 => 0
  | p + 1 => cn ch p + (if ch p = 0 then 0 else 1)
theorem cn_le (ch : Row) : ∀ n, cn ch n ≤ n := by
  intro n
  induction n with
  | zero => exact Nat.le_refl 0
  | succ n ih =>
    show cn ch n + (if ch n = 0 then 0 else 1) ≤ n + 1
    split <;> omega
theorem cn_0 {ch : Row} : ∀ n, cn ch n = 0 → ∀ p, p < n → ch p = 0 := by
  intro n
  induction n with
  | zero => intro _ p hp; omega
  | succ n ih =>
    intro h p hp
    have e : cn ch n + (if ch n = 0 then 0 else 1) = 0 := h
    by_cases c : ch n = 0
    · rw [if_pos c] at e
      by_cases z : p = n
      · subst z
        exact c
      · exact ih (by omega) p (by omega)
    · rw [if_neg c] at e
      omega
theorem cn_off {ch : Row} {q : Nat} (hq : ch q ≠ 0) : ∀ n, q < n → cn (ru ch q 0) n + 1 = cn ch n := by
  intro n
  induction n with
  | zero => intro h; omega
  | succ n ih =>
    intro h
    show cn (ru ch q 0) n + (if ru ch q 0 n = 0 then 0 else 1) + 1 = cn ch n + (if ch n = 0 then 0 else 1)
    by_cases c : q = n
    · subst c
      rw [ru_eq, if_pos rfl, if_neg hq]
      have : ∀ m, m ≤ q → cn (ru ch q 0) m = cn ch m := by
        intro m
        induction m with
        | zero => intro _; rfl
        | succ m ihm =>
          intro hm
          show cn (ru ch q 0) m + (if ru ch q 0 m = 0 then 0 else 1) = cn ch m + (if ch m = 0 then 0 else 1)
          rw [ihm (by omega), ru_ne (by omega)]
      rw [this q (Nat.le_refl _)]
    · rw [ru_ne (fun z => c z.symm)]
      have := ih (by omega)
      omega
