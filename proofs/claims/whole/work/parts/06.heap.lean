/-! the world as a list of cells; writing into a column -/
def upd2 (M : Col) (c r : Nat) (v : Int32) : Col := fun c' r' => if c' = c then (if r' = r then v else M c' r') else M c' r'
theorem upd2_ne {M : Col} {c r : Nat} {v : Int32} {c' r' : Nat} (h : c' ≠ c) : upd2 M c r v c' r' = M c' r' := by
  unfold upd2
  rw [if_neg h]
theorem upd2_row {M : Col} {c r : Nat} {v : Int32} {c' r' : Nat} (h : r' ≠ r) : upd2 M c r v c' r' = M c' r' := by
  unfold upd2
  by_cases q : c' = c
  · rw [if_pos q, if_neg h]
  · rw [if_neg q]
theorem upd2_eq {M : Col} {c r : Nat} {v : Int32} : upd2 M c r v c r = v := by
  unfold upd2
  rw [if_pos rfl, if_pos rfl]
def prsK : List (Nat × Nat) := (List.range 64).flatMap (fun k => (List.range (cntK k)).map (fun i => (k, i)))
def wsO (O : Om) (S : Mem) : va_W := prsK.map (fun q => (O.2.1 q.1 q.2, ent O S q.1 q.2))
def OmOk (O : Om) : Prop := (∀ k i k' i', i < cntK k → i' < cntK k' → O.2.1 k i = O.2.1 k' i' → k = k' ∧ i = i') ∧ ∀ k i, i < cntK k → O.1 ≤ O.2.1 k i
def RgO (O : Om) : Nat → Prop := fun q => O.1 ≤ q
def Rep (O : Om) (S : Mem) (H : Heap) : Prop := va_P O.2.2.1 vwCl (wsO O S) H
theorem cntK_lt {k i : Nat} (h : i < cntK k) : k < 64 := by
  rcases Nat.lt_or_ge k 64 with q | q
  · exact q
  · exfalso
    unfold cntK at h
    rw [List.getD_eq_getElem?_getD, List.getElem?_eq_none (by exact q)] at h
    exact Nat.not_lt_zero _ h
theorem prsK_in {k i : Nat} (h : i < cntK k) : ∃ n : Nat, prsK[n]? = some (k, i) := by
  have hm : (k, i) ∈ prsK := List.mem_flatMap.mpr ⟨k, List.mem_range.mpr (cntK_lt h), List.mem_map.mpr ⟨i, List.mem_range.mpr h, rfl⟩⟩
  exact List.mem_iff_getElem?.mp hm
theorem prsK_of {n k i : Nat} (h : prsK[n]? = some (k, i)) : i < cntK k := by
  obtain ⟨k0, -, hm⟩ := List.mem_flatMap.mp (List.mem_of_getElem? h)
  obtain ⟨i0, hi, he⟩ := List.mem_map.mp hm
  cases he
  exact List.mem_range.mp hi
set_option maxRecDepth 100000 in
theorem prsK_nd : prsK.Nodup := by decide +kernel
theorem prsK_inj {a b : Nat} {q : Nat × Nat} (ha : prsK[a]? = some q) (hb : prsK[b]? = some q) : a = b := by
  have hl : a < prsK.length := (List.getElem?_eq_some_iff.mp ha).1
  exact (List.getElem?_inj hl prsK_nd).mp (ha.trans hb.symm)
theorem wsO_at {O : Om} {S : Mem} {n k i : Nat} (h : prsK[n]? = some (k, i)) : (wsO O S)[n]? = some (O.2.1 k i, ent O S k i) := by
  unfold wsO
  rw [List.getElem?_map, h]
  rfl
theorem wsO_of {O : Om} {S : Mem} {n : Nat} {q : Nat × va_E} (h : (wsO O S)[n]? = some q) : ∃ k i, prsK[n]? = some (k, i) ∧ q = (O.2.1 k i, ent O S k i) := by
  unfold wsO at h
  rw [List.getElem?_map] at h
  cases hp : prsK[n]? with
  | none => rw [hp] at h; cases h
  | some p => rw [hp] at h; exact ⟨p.1, p.2, rfl, (Option.some.inj h).symm⟩
theorem OmOk.D {O : Om} (h : OmOk O) (S : Mem) : va_D (RgO O) (wsO O S) := by
  refine ⟨fun i j p q hi hj he => ?_, fun k q hk => ?_⟩
  · obtain ⟨a, b, h1, rfl⟩ := wsO_of hi
    obtain ⟨a', b', h2, rfl⟩ := wsO_of hj
    obtain ⟨e1, e2⟩ := h.1 a b a' b' (prsK_of h1) (prsK_of h2) he
    subst e1; subst e2
    exact prsK_inj h1 h2
  · obtain ⟨a, b, h1, rfl⟩ := wsO_of hk
    exact h.2 a b (prsK_of h1)
theorem wsO_set {O : Om} {S S' : Mem} {n k i : Nat} (hn : prsK[n]? = some (k, i)) {e : va_E} (he : ent O S' k i = e) (ho : ∀ k' i', i' < cntK k' → ¬ (k' = k ∧ i' = i) → ent O S' k' i' = ent O S k' i') : (wsO O S).set n (O.2.1 k i, e) = wsO O S' := by
  apply List.ext_getElem?
  intro j
  rw [List.getElem?_set]
  by_cases hj : n = j
  · subst hj
    rw [if_pos rfl, wsO_at hn, he]
    rw [if_pos (List.getElem?_eq_some_iff.mp (wsO_at (O := O) (S := S) hn)).1]
  · rw [if_neg hj]
    cases hp : prsK[j]? with
    | none =>
      unfold wsO
      rw [List.getElem?_map, List.getElem?_map, hp]
      rfl
    | some p =>
      rw [wsO_at (k := p.1) (i := p.2) hp, wsO_at (k := p.1) (i := p.2) hp, ho p.1 p.2 (prsK_of hp)]
      rintro ⟨e1, e2⟩
      have e3 : p = (k, i) := by rw [← e1, ← e2]
      rw [e3] at hp
      exact hj (prsK_inj hn hp)
/-- a column that kind k doesn't hold -/
def offC (k i c : Nat) : Prop := (∀ c' ∈ colsC k, c' ≠ c) ∧ (k = 23 → kDrawnC + i ≠ c)
def offR (k c : Nat) : Prop := ∀ c' ∈ colsR k, c' ≠ c
set_option maxHeartbeats 4000000 in
set_option maxRecDepth 100000 in
theorem ent_offC {O : Om} {S : Mem} {k i c r : Nat} {v : Int32} (h : offC k i c) : ent O (upd2 S.1 c r v, S.2) k i = ent O S k i := by
  obtain ⟨h, h2⟩ := h
  have key : ∀ c' ∈ colsC k, ∀ r', upd2 S.1 c r v c' r' = S.1 c' r' := fun c' hc r' => upd2_ne (h c' hc)
  clear h
  unfold ent
  split <;> first
    | rfl
    | (simp only [colsC, List.getD_cons_zero, List.getD_cons_succ, List.mem_cons, List.not_mem_nil, or_false, forall_eq_or_imp, forall_eq] at key; simp only [key]; done)
    | (simp only [upd2_ne (h2 rfl)])
set_option maxHeartbeats 4000000 in
set_option maxRecDepth 100000 in
theorem ent_offR {O : Om} {S : Mem} {k i c r : Nat} {v : Int32} (h : offR k c) : ent O (S.1, upd2 S.2.1 c r v, S.2.2) k i = ent O S k i := by
  have key : ∀ c' ∈ colsR k, ∀ r', upd2 S.2.1 c r v c' r' = S.2.1 c' r' := fun c' hc r' => upd2_ne (h c' hc)
  clear h
  unfold ent
  split <;> first
    | rfl
    | (simp only [colsR, List.getD_cons_zero, List.getD_cons_succ, List.mem_cons, List.not_mem_nil, or_false, forall_eq_or_imp, forall_eq] at key; simp only [key]; done)
set_option maxHeartbeats 4000000 in
theorem ent_rowC {O : Om} {S : Mem} {k i c r : Nat} {v : Int32} (hk : k < 12) (h : i ≠ r) : ent O (upd2 S.1 c r v, S.2) k i = ent O S k i := by
  match k, hk with
  | 0, _ | 1, _ | 2, _ | 3, _ | 4, _ | 5, _ | 6, _ | 7, _ | 8, _ | 9, _ | 10, _ | 11, _ => simp only [ent, upd2_row h]
