/-! a line in the log -/
def carryN (C : Col) : Nat → Col
  | 0 => C
  | n + 1 => upd2 (carryN C n) kLogCarried (ix (C kLogOwners n)) (carryN C n kLogCarried (ix (C kLogOwners n)) + C kLogChanges n)
theorem carryN_ne {C : Col} {k i : Nat} (hk : k ≠ kLogCarried) : ∀ n, carryN C n k i = C k i := by
  intro n
  induction n with
  | zero => rfl
  | succ n ih =>
    show upd2 (carryN C n) kLogCarried _ _ k i = C k i
    rw [upd2_ne hk]
    exact ih
theorem carryN_at {C : Col} {o : Nat} (ho : o < 17) : ∀ n, (∀ i, i < n → ∃ q, q < 17 ∧ C kLogOwners i = nI q) → carryN C n kLogCarried o = C kLogCarried o + logN C (nI o) n := by
  intro n
  induction n with
  | zero => intro _; exact (Int32.add_zero _).symm
  | succ n ih =>
    intro h
    obtain ⟨q, hq, hqe⟩ := h n (by omega)
    have ih := ih (fun i hi => h i (by omega))
    show upd2 (carryN C n) kLogCarried (ix (C kLogOwners n)) _ kLogCarried o = C kLogCarried o + (logN C (nI o) n + (if C kLogOwners n = nI o then C kLogChanges n else 0))
    rw [hqe, ix_nI (by omega)]
    by_cases e : o = q
    · rw [if_pos (by rw [e])]
      unfold upd2
      rw [if_pos rfl, if_pos e, ← e, ih, Int32.add_assoc]
    · rw [if_neg (fun z => e (by have z2 := congrArg ix z; rw [ix_nI (by omega), ix_nI (by omega)] at z2; exact z2.symm)), upd2_row e, ih, Int32.add_zero]
