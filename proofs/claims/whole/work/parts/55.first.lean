/-! the invariant at the start -/
theorem ix0 : ix (0 : Int32) = 0 := by decide
theorem inb0 {N : Nat} (h : 0 < N) : inb (0 : Int32) N := ⟨by decide, by rw [ix0]; exact h⟩
theorem num0 : Num 0 0 171000000 S0r := by
  have z0 : (0 : Int) ≤ (0 : Int32).toInt := by decide
  refine ⟨fun i _ => ⟨Or.inl rfl, fun _ => rfl, z0, z0, z0, z0⟩, by decide +kernel, ⟨inb0 (by decide), fun p hp => ?_, fun a _ => ?_⟩, fun b _ => ⟨z0, z0, z0, by show (0 : Int32).toInt ≤ 171000000; decide, by show 0 ≤ (nI 1000).toInt; decide, by show (nI 1000).toInt ≤ 10000; decide, Or.inl rfl, Or.inl rfl, fun h => absurd rfl h⟩, by decide +kernel, ⟨inb0 (by decide), fun k _ => ⟨fun o _ => z0, ?_, fun b _ _ => rfl, fun _ o _ => rfl⟩⟩, ⟨inb0 (by decide), fun l hl => ?_, fun l _ _ => rfl⟩, ⟨inb0 (by decide), fun j hj => ?_, rfl⟩, ?_, fun i _ => Or.inl rfl, fun i _ _ => ⟨by show 1 ≤ (nI 10).toInt; decide, by show (nI 10).toInt ≤ 10 + (0 : Int32).toInt; decide⟩⟩
  · exact absurd hp (by show ¬ p < ix 0; rw [ix0]; omega)
  · show (0 : Int32).toInt = wB _ _ _ a (ix 0)
    rw [ix0]
    rfl
  · show sumI (fun _ => (0 : Int32).toInt) 5 ≤ 10000
    decide
  · exact absurd hl (by show ¬ l < ix 0; rw [ix0]; omega)
  · exact absurd hj (by show ¬ j < ix 0; rw [ix0]; omega)
  · refine ⟨z0, ?_, z0, ?_, ?_, ?_, ?_, ?_, z0, ?_, ?_⟩
    · show (0 : Int32).toInt ≤ 200
      decide
    · show (0 : Int32).toInt ≤ 100
      decide
    · show 0 ≤ (nI 10).toInt
      decide
    · show (nI 10).toInt ≤ 100
      decide
    · show 0 ≤ (nI 10).toInt
      decide
    · show (nI 10).toInt ≤ 100
      decide
    · show 10 ≤ (nI 100).toInt
      decide
    · show (nI 100).toInt ≤ 1000
      decide
theorem rel0 : Rel S0c S0r 0 := by
  refine ⟨fun k i hi => ?_, ⟨⟨0, by omega, by decide⟩, fun i hi => ?_⟩, fun i _ => ?_, by decide +kernel, fun i b _ _ => Or.inl ⟨S0c_drawn (i := i) (j := b), rfl⟩, fun p hp => ?_, fun p hp => ?_, fun i _ _ => ⟨rfl, rfl⟩, rfl⟩
  · have hk : k ≠ kDrawn := fun q => by
      rw [q] at hi
      rw [show shN kDrawn = 0 from by decide] at hi
      exact Nat.not_lt_zero _ hi
    exact (if_neg hk).symm
  · exact absurd hi (by show ¬ i < ix 0; rw [ix0]; omega)
  · show (0 : Int32) + logN S0c (nI i) (ix 0) = 0
    rw [ix0]
    rfl
  · exact absurd hp (by show ¬ p < ix 0; rw [ix0]; omega)
  · exact absurd hp (by show ¬ p < ix 0; rw [ix0]; omega)
theorem first0 : II 0 S0 := ⟨rel0, num0⟩
