/-! one more line in the log, whether it was full or not -/
theorem carry_ex {S : Mem} (h : ∀ i, i < 400 → ∃ q, q < 17 ∧ S.1 kLogOwners i = nI q) : ∃ K : Col, outE (iterE (b12_X8_note) S (400)) = (K, S.2) ∧ (∀ k i, k ≠ kLogCarried → K k i = S.1 k i) ∧ ∀ o, o < 17 → K kLogCarried o = S.1 kLogCarried o + logN S.1 (nI o) 400 :=
  ⟨carryN S.1 400, carry_go h, fun _ _ hk => carryN_ne hk 400, fun _ ho => carryN_at ho 400 h⟩
theorem note_put {K : Col} {T : Col × Int64} {p1 p2 : Int32} {n : Nat} (hn : n < 400) (hc : K kLogCount 0 = nI n) : lt (if (K kLogCount 0) < 0 then ((K, T) : Mem) else (if (nI 400) ≤ (K kLogCount 0) then (K, T) else (if (nI 400) ≤ (K kLogCount 0) then (K, T) else (lt ((upd2 K kLogOwners (ix (K kLogCount 0)) p1, T) : Mem) (fun (S14 : Mem) => lt ((upd2 S14.1 kLogChanges (ix (S14.1 kLogCount 0)) p2, S14.2)) (fun (S16 : Mem) => lt ((upd2 S16.1 kLogCount 0 ((S16.1 kLogCount 0) + 1), S16.2)) (fun (S17 : Mem) => S17))))))) (fun (S18 : Mem) => S18) = (noteN K n p1 p2, T) := by
  refine lt_eq (x := ((noteN K n p1 p2, T) : Mem)) ?_
  refine (if_neg (by rw [hc]; exact nI_pos (by omega))).trans ((if_neg (by rw [hc]; exact nI_ge hn (by omega))).trans ((if_neg (by rw [hc]; exact nI_ge hn (by omega))).trans ?_))
  show ((upd2 (upd2 (upd2 K kLogOwners (ix (K kLogCount 0)) p1) kLogChanges (ix (K kLogCount 0)) p2) kLogCount 0 (K kLogCount 0 + 1), T) : Mem) = _
  rw [hc, ix_nI (by omega)]
  unfold noteN
  rw [nI_succ]
theorem note_ex {S : Mem} {p1 p2 : Int32} (h : LogI S.1) : ∃ (K : Col) (n : Nat), n < 400 ∧ f_X8_note S p1 p2 = (noteN K n p1 p2, S.2) ∧ ok_X8_note S p1 p2 ∧ K kLogCount 0 = nI n ∧ (∀ k i, k < 63 ∨ 66 < k → K k i = S.1 k i) ∧ (∀ o, o < 17 → logSum K o = logSum S.1 o) ∧ ∀ i, i < n → ∃ o, o < 17 ∧ K kLogOwners i = nI o := by
  obtain ⟨⟨n, hn, hc⟩, ho⟩ := h
  rw [hc, ix_nI (by omega)] at ho
  rcases Nat.lt_or_ge n 400 with q | q
  · refine ⟨S.1, n, q, note_less q hc, ?_, hc, fun _ _ _ => rfl, fun _ _ => rfl, ho⟩
    intro S10 e10 _ _ _ S14 e14
    rw [if_pos (by rw [hc]; exact nI_lt q (by omega))] at e10
    subst e10
    subst e14
    show inb (S.1 kLogCount 0) 400
    rw [hc]
    exact inb_nI q (by omega)
  · have e : n = 400 := by omega
    subst e
    obtain ⟨K, hK, hK1, hK2⟩ := carry_ex (S := S) ho
    have hz : (if (S.1 kLogCount 0) < (nI 400) then (S) else (lt (outE (iterE (b12_X8_note) S (400))) (fun (σ3 : Mem) => lt ((upd2 σ3.1 kLogCount 0 0, σ3.2)) (fun (S9 : Mem) => S9)))) = (upd2 K kLogCount 0 0, S.2) := by
      rw [if_neg (by rw [hc]; exact nI_nlt (by omega) (by omega)), lt_eq hK]
      rfl
    have hK3 : ∀ k i, k ≠ kLogCarried → k ≠ kLogCount → upd2 K kLogCount 0 0 k i = S.1 k i := fun k i h1 h2 => (upd2_ne h2).trans (hK1 k i h1)
    have hK4 : ∀ o, o < 17 → upd2 K kLogCount 0 0 kLogCarried o = S.1 kLogCarried o + logN S.1 (nI o) 400 := fun o ho => hK2 o ho
    have hK5 : upd2 K kLogCount 0 0 kLogCount 0 = nI 0 := upd2_eq
    revert hz hK3 hK4 hK5
    generalize upd2 K kLogCount 0 0 = K2
    intro hz hK3 hK4 hK5
    refine ⟨K2, 0, by omega, ?_, ?_, hK5, fun k i hk => hK3 k i (show k ≠ 65 by omega) (show k ≠ 66 by omega), fun o ho => ?_, fun i hi => by omega⟩
    · unfold f_X8_note
      rw [lt_eq hz]
      exact note_put (by omega) hK5
    · intro S10 e10 _ _ _ S14 e14
      rw [hz] at e10
      subst e10
      subst e14
      show inb (K2 kLogCount 0) 400
      rw [hK5]
      exact inb_nI (by omega) (by omega)
    · unfold logSum
      rw [hK5, ix_nI (by omega), hc, ix_nI (by omega), hK4 o ho]
      exact Int32.add_zero _
theorem note_sum {K : Col} {n o q : Nat} {v : Int32} (hn : n < 400) (hc : K kLogCount 0 = nI n) (ho : o < 17) (hq : q < 17) : logSum (noteN K n (nI o) v) q = logSum K q + (if q = o then v else 0) := by
  have e1 : noteN K n (nI o) v kLogCount 0 = nI (n + 1) := upd2_eq
  have e2 : noteN K n (nI o) v kLogCarried q = K kLogCarried q := rfl
  have e3 : logN (noteN K n (nI o) v) (nI q) n = logN K (nI q) n := logN_congr n (fun i hi => ⟨by
    show upd2 K kLogOwners n (nI o) kLogOwners i = _
    exact upd2_row (by omega), by
    show upd2 (upd2 K kLogOwners n (nI o)) kLogChanges n v kLogChanges i = _
    exact upd2_row (by omega)⟩)
  have e4 : noteN K n (nI o) v kLogOwners n = nI o := by
    show upd2 K kLogOwners n (nI o) kLogOwners n = _
    exact upd2_eq
  have e5 : noteN K n (nI o) v kLogChanges n = v := by
    show upd2 (upd2 K kLogOwners n (nI o)) kLogChanges n v kLogChanges n = _
    exact upd2_eq
  unfold logSum
  rw [e1, e2, hc, ix_nI (by omega), ix_nI (by omega)]
  show K kLogCarried q + (logN (noteN K n (nI o) v) (nI q) n + (if noteN K n (nI o) v kLogOwners n = nI q then noteN K n (nI o) v kLogChanges n else 0)) = _
  rw [e3, e4, e5, Int32.add_assoc]
  by_cases e : q = o
  · rw [if_pos e, if_pos (by rw [e])]
  · rw [if_neg e, if_neg (fun z => e (nI_inj (by omega) (by omega) z).symm)]
/-- all that one line does -/
theorem note_ok {S : Mem} {o : Nat} {v : Int32} (h : LogI S.1) (ho : o < 17) : ok_X8_note S (nI o) v ∧ (f_X8_note S (nI o) v).2 = S.2 ∧ LogI (f_X8_note S (nI o) v).1 ∧ (∀ k, k < 63 ∨ 66 < k → (f_X8_note S (nI o) v).1 k = S.1 k) ∧ ∀ q, q < 17 → logSum (f_X8_note S (nI o) v).1 q = logSum S.1 q + (if q = o then v else 0) := by
  obtain ⟨K, n, hn, hf, hok, hc, hk, hs, hw⟩ := note_ex (p1 := nI o) (p2 := v) h
  rw [hf]
  refine ⟨hok, rfl, ⟨⟨n + 1, by omega, (upd2_eq : noteN K n (nI o) v kLogCount 0 = nI (n + 1))⟩, ?_⟩, fun k hk2 => ?_, fun q hq => ?_⟩
  · have e1 : noteN K n (nI o) v kLogCount 0 = nI (n + 1) := upd2_eq
    intro i hi
    replace hi : i < ix (noteN K n (nI o) v kLogCount 0) := hi
    rw [e1, ix_nI (by omega)] at hi
    show ∃ a, a < 17 ∧ upd2 K kLogOwners n (nI o) kLogOwners i = nI a
    by_cases e : i = n
    · subst e
      exact ⟨o, ho, upd2_eq⟩
    · rw [upd2_row e]
      exact hw i (by omega)
  · funext i
    have e : noteN K n (nI o) v k i = K k i := by
      unfold noteN
      rw [upd2_ne (show k ≠ 66 by omega), upd2_ne (show k ≠ 64 by omega), upd2_ne (show k ≠ 63 by omega)]
    exact e.trans (hk k i hk2)
  · rw [note_sum hn hc ho hq, hs q hq]
