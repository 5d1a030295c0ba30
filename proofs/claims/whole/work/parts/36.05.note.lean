/-! a line in the log -/
def carryN (C : Col) : Nat → Col
  | 0 => C
  | n + 1 => upd2 (carryN C n) kLogCarried (ix (C kLogOwners n)) (carryN C n kLogCarried (ix (C kLogOwners n)) + C kLogChanges n)
theorem carryN_ne {C : Col} {k i : Nat} (hk : k ≠ kLogCarried) : ∀ n, carryN C n k i = C k i := by
  intro n
  induction n with
  | zero => rfl
  | succ n ih =>
    show upd2 (carryN C n) kLogCarried _ _ k i = C k i
    rw [upd2_ne hk]
    exact ih
theorem carryN_at {C : Col} {o : Nat} (ho : o < 17) : ∀ n, (∀ i, i < n → ∃ q, q < 17 ∧ C kLogOwners i = nI q) → carryN C n kLogCarried o = C kLogCarried o + logN C (nI o) n := by
  intro n
  induction n with
  | zero => intro _; exact (Int32.add_zero _).symm
  | succ n ih =>
    intro h
    obtain ⟨q, hq, hqe⟩ := h n (by omega)
    have ih := ih (fun i hi => h i (by omega))
    show upd2 (carryN C n) kLogCarried (ix (C kLogOwners n)) _ kLogCarried o = C kLogCarried o + (logN C (nI o) n + (if C kLogOwners n = nI o then C kLogChanges n else 0))
    rw [hqe, ix_nI (by omega)]
    by_cases e : o = q
    · rw [if_pos (by rw [e])]
      unfold upd2
      rw [if_pos rfl, if_pos e, ← e, ih, Int32.add_assoc]
    · rw [if_neg (fun z => e (by have z2 := congrArg ix z; rw [ix_nI (by omega), ix_nI (by omega)] at z2; exact z2.symm)), upd2_row e, ih, Int32.add_zero]
theorem carry_go {S : Mem} (h : ∀ i, i < 400 → ∃ q, q < 17 ∧ S.1 kLogOwners i = nI q) : outE (iterE b12_X8_note S 400) = (carryN S.1 400, S.2) := by
  have e : iterE b12_X8_note S 400 = .inl (carryN S.1 400, S.2) := by
    refine iterE_all (fun j => ((carryN S.1 j, S.2) : Mem)) rfl 400 (fun j hj => ?_) 400 (Nat.le_refl _)
    obtain ⟨q, hq, hqe⟩ := h j hj
    unfold b12_X8_note
    rw [if_neg (nI_ge (by omega) (by omega))]
    refine lt_eq (x := ((carryN S.1 (j + 1), S.2) : Mem)) ?_
    have e1 : carryN S.1 j kLogOwners j = S.1 kLogOwners j := carryN_ne (by decide) j
    have e2 : carryN S.1 j kLogChanges j = S.1 kLogChanges j := carryN_ne (by decide) j
    refine (if_neg (by show ¬ carryN S.1 j kLogOwners j < 0; rw [e1, hqe]; exact nI_pos (by omega))).trans ((if_neg (by show ¬ nI 17 ≤ carryN S.1 j kLogOwners j; rw [e1, hqe]; exact nI_ge hq (by omega))).trans ?_)
    show ((upd2 (carryN S.1 j) kLogCarried (ix (carryN S.1 j kLogOwners j)) (carryN S.1 j kLogCarried (ix (carryN S.1 j kLogOwners j)) + carryN S.1 j kLogChanges j), S.2) : Mem) = _
    rw [e1, e2]
    rfl
  rw [e]
  rfl
/-- the lines of the log after one more -/
def noteN (C : Col) (n : Nat) (p1 p2 : Int32) : Col := upd2 (upd2 (upd2 C kLogOwners n p1) kLogChanges n p2) kLogCount 0 (nI (n + 1))
theorem note_less {S : Mem} {n : Nat} {p1 p2 : Int32} (hn : n < 400) (hc : S.1 kLogCount 0 = nI n) : f_X8_note S p1 p2 = (noteN S.1 n p1 p2, S.2) := by
  unfold f_X8_note
  have e1 : (if (S.1 kLogCount 0) < (nI 400) then (S) else (lt (outE (iterE (b12_X8_note) S (400))) (fun (σ3 : Mem) => lt ((upd2 σ3.1 kLogCount 0 0, σ3.2)) (fun (S9 : Mem) => S9)))) = S := if_pos (by rw [hc]; exact nI_lt hn (by omega))
  rw [lt_eq e1]
  refine lt_eq (x := ((noteN S.1 n p1 p2, S.2) : Mem)) ?_
  refine (if_neg (by rw [hc]; exact nI_pos (by omega))).trans ((if_neg (by rw [hc]; exact nI_ge hn (by omega))).trans ((if_neg (by rw [hc]; exact nI_ge hn (by omega))).trans ?_))
  show ((upd2 (upd2 (upd2 S.1 kLogOwners (ix (S.1 kLogCount 0)) p1) kLogChanges (ix (S.1 kLogCount 0)) p2) kLogCount 0 (S.1 kLogCount 0 + 1), S.2) : Mem) = _
  rw [hc, ix_nI (by omega)]
  unfold noteN
  rw [nI_succ]
