/-! the class's log: sums by owner -/
def logN (C : Col) (o : Int32) : Nat → Int32
  | 0 => 0
  | n + 1 => logN C o n + (if C kLogOwners n = o then C kLogChanges n else 0)
def logSum (C : Col) (o : Nat) : Int32 := C kLogCarried o + logN C (nI o) (ix (C kLogCount 0))
theorem logN_congr {C D : Col} {o : Int32} : ∀ n, (∀ i, i < n → C kLogOwners i = D kLogOwners i ∧ C kLogChanges i = D kLogChanges i) → logN C o n = logN D o n := by
  intro n
  induction n with
  | zero => intro _; rfl
  | succ n ih =>
    intro h
    show logN C o n + (if C kLogOwners n = o then C kLogChanges n else 0) = logN D o n + (if D kLogOwners n = o then D kLogChanges n else 0)
    rw [ih (fun i hi => h i (by omega)), (h n (by omega)).1, (h n (by omega)).2]
/-- what the log needs: its count within its lines, its owners in range -/
def LogI (C : Col) : Prop := (∃ n, n ≤ 400 ∧ C kLogCount 0 = nI n) ∧ ∀ i, i < ix (C kLogCount 0) → ∃ o, o < 17 ∧ C kLogOwners i = nI o
theorem iterE_all {α β : Type} {f : Nat → α → α ⊕ β} {a : α} (F : Nat → α) (h0 : F 0 = a) (n : Nat) (hs : ∀ j, j < n → f j (F j) = .inl (F (j + 1))) : ∀ m, m ≤ n → iterE f a m = .inl (F m) := by
  intro m
  induction m with
  | zero => intro _; rw [h0]; rfl
  | succ m ih => intro hm; exact iterE_go (ih (by omega)) (hs m (by omega))
theorem sumOf_eq {S : Mem} {o n : Nat} (ho : o < 17) (hn : n ≤ 400) (hc : S.1 kLogCount 0 = nI n) : f_X8_sumOf S (nI o) = logSum S.1 o := by
  have e1 : (if nI o < 0 then (0 : Int32) else (if (nI 17) ≤ nI o then (0) else (S.1 kLogCarried (ix (nI o))))) = S.1 kLogCarried o := by
    rw [if_neg (nI_pos (by omega)), if_neg (nI_ge ho (by omega)), ix_nI (by omega)]
  have e2 : iterE (b26_X8_sumOf S (nI o)) (S.1 kLogCarried o) (ix (S.1 kLogCount 0)) = .inl (S.1 kLogCarried o + logN S.1 (nI o) n) := by
    rw [hc, ix_nI (by omega)]
    refine iterE_all (fun j => S.1 kLogCarried o + logN S.1 (nI o) j) (Int32.add_zero _) n (fun j hj => ?_) n (Nat.le_refl _)
    unfold b26_X8_sumOf
    rw [if_neg (nI_ge (by omega) (by omega)), if_neg (nI_ge (by omega) (by omega))]
    refine lt_eq (x := S.1 kLogCarried o + logN S.1 (nI o) (j + 1)) ?_
    show _ = S.1 kLogCarried o + (logN S.1 (nI o) j + (if S.1 kLogOwners j = nI o then S.1 kLogChanges j else 0))
    split
    · exact Int32.add_assoc _ _ _
    · rw [Int32.add_zero]
  unfold f_X8_sumOf
  rw [lt_eq e1, e2]
  unfold logSum
  rw [hc, ix_nI (by omega)]
  rfl
