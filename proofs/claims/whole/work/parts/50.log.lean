/-! the class's log: sums by owner -/
def logN (C : Col) (o : Int32) : Nat → Int32
  | 0 => 0
  | n + 1 => logN C o n + (if C kLogOwners n = o then C kLogChanges n else 0)
def logSum (C : Col) (o : Nat) : Int32 := C kLogCarried o + logN C (nI o) (ix (C kLogCount 0))
theorem logN_congr {C D : Col} {o : Int32} : ∀ n, (∀ i, i < n → C kLogOwners i = D kLogOwners i ∧ C kLogChanges i = D kLogChanges i) → logN C o n = logN D o n := by
  intro n
  induction n with
  | zero => intro _; rfl
  | succ n ih =>
    intro h
    show logN C o n + (if C kLogOwners n = o then C kLogChanges n else 0) = logN D o n + (if D kLogOwners n = o then D kLogChanges n else 0)
    rw [ih (fun i hi => h i (by omega)), (h n (by omega)).1, (h n (by omega)).2]
/-- what the log needs: its count within its lines, its owners in range -/
def LogI (C : Col) : Prop := (∃ n, n ≤ 400 ∧ C kLogCount 0 = nI n) ∧ ∀ i, i < ix (C kLogCount 0) → ∃ o, o < 17 ∧ C kLogOwners i = nI o
