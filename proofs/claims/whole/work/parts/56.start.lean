/-! the law's start -/
theorem lw_t {w : Cond} {i : Nat} (h : tables_1[i]? = some w) : w ∈ lw_tbl := List.mem_append_right _ (List.mem_of_getElem? h)
theorem wsg_lw {w : Cond} (h : w ∈ WSg) : w ∈ lw_tbl := (List.mem_filter.mp h).1
theorem xw_from {w : Cond} (g : xw w = true) {A : Array Value} {U : State} (h : w.before A U = true) : w.before #[] U = true := by
  cases w <;> first | (simp [xw] at g; done) | exact va_tabs (u := U) (U := U) rfl rfl h
set_option maxRecDepth 20000 in
theorem ao_in : Cond.arrayOver (.object "Newsmint$Holder") ∈ lw_tbl ∧ Cond.arrayOver (.object "Newsmint$Bank") ∈ lw_tbl ∧ Cond.arrayOver (.object "Newsmint$Payment") ∈ lw_tbl ∧ Cond.arrayOver (.object "Newsmint$Loan") ∈ lw_tbl ∧ Cond.arrayOver (.object "Newsmint$Bid") ∈ lw_tbl := ⟨lw_t (i := 88) (by decide +kernel), lw_t (i := 90) (by decide +kernel), lw_t (i := 213) (by decide +kernel), lw_t (i := 269) (by decide +kernel), lw_t (i := 315) (by decide +kernel)⟩
set_option maxRecDepth 20000 in
theorem sr_in : Cond.stringRef "Newsmint" 311 "there is no such one" ∈ lw_tbl ∧ Cond.stringRef "Newsmint" 319 "an argument is out of its range" ∈ lw_tbl ∧ Cond.stringRef "Newsmint" 324 "the state does not let it" ∈ lw_tbl := ⟨lw_t (i := 542) (by decide +kernel), lw_t (i := 584) (by decide +kernel), lw_t (i := 626) (by decide +kernel)⟩
set_option maxRecDepth 20000 in
theorem ls_in : Cond.laysStatic Bundle.tN "UNASSIGNED_STACK" Bundle.steD ∈ lw_tbl ∧ Cond.laysStatic Bundle.tN "SUPPRESSED_SENTINEL" Bundle.listD ∈ lw_tbl ∧ Cond.initialized Bundle.tN ∈ lw_tbl := ⟨lw_t (i := 528) (by decide +kernel), lw_t (i := 530) (by decide +kernel), lw_t (i := 14) (by decide +kernel)⟩
theorem lw_AF {A : Array Value} {s : State} (hts : ∀ w ∈ lw_tbl, w.before A s = true) : AF s := ⟨va_AO.of (hts _ ao_in.1), va_AO.of (hts _ ao_in.2.1), va_AO.of (hts _ ao_in.2.2.1), va_AO.of (hts _ ao_in.2.2.2.1), va_AO.of (hts _ ao_in.2.2.2.2)⟩
theorem lw_cls {A : Array Value} {s : State} (hts : ∀ w ∈ lw_tbl, w.before A s = true) (k : Nat) : ∃ c : ClassId × (Nat → Nat), ∀ q : vw_C, vwCl[k]? = some q → u_Kn s q.1 q.2.1 q.2.2 c.1 c.2 := by
  have go : ∀ {C : String} {T : u_T} {N : Nat}, (∀ w ∈ u_ws C T N, w ∈ WSg) → Cond.instantiable C N ∈ WSg → vwCl[k]? = some (C, T, N) → ∃ c : ClassId × (Nat → Nat), ∀ q : vw_C, vwCl[k]? = some q → u_Kn s q.1 q.2.1 q.2.2 c.1 c.2 := fun {C} {T} {N} h1 h2 h3 => by
    obtain ⟨cC, iS, h⟩ := u_known (C := C) (T := T) (N := N) (n := N) hts (fun w hw => wsg_lw (h1 w hw)) (hts _ (wsg_lw h2))
    refine ⟨(cC, iS), fun q hq => ?_⟩
    cases Option.some.inj (h3.symm.trans hq)
    exact h
  match k with
  | 0 => exact go inW0 nw_X3_31.2.1 rfl
  | 1 => exact go inW1 nw_X2_9.2.1 rfl
  | 2 => exact go inW2 nw_X11_30.2.1 rfl
  | 3 => exact go inW3 nw_X11_7.2.1 rfl
  | 4 => exact go inW4 nw_X3_9.2.1 rfl
  | 5 => exact go inW5 nw_X3_25.2.1 rfl
  | 6 => exact go inW6 nw_X7_9.2.1 rfl
  | 7 => exact go inW7 nw_X11_23.2.1 rfl
  | 8 => exact go inW8 nw_X3_18.2.1 rfl
  | 9 => exact go inW9 nw_X10_9.2.1 rfl
  | 10 => exact go inW10 nw_X11_16.2.1 rfl
  | 11 => exact go inW11 nw_L_8.2.1 rfl
  | 12 => exact go inW12 nw_L_121.2.1 rfl
  | k + 13 => exact ⟨(0, fun _ => 0), fun q hq => by simp [vwCl] at hq⟩
def tysF : List FieldType := [.int, .boolean, .long, .object "Newsmint$Holder", .object "Newsmint$Bank", .object "Newsmint$Payment", .object "Newsmint$Loan", .object "Newsmint$Bid"]
theorem lw_arr {A : Array Value} {s : State} (hts : ∀ w ∈ lw_tbl, w.before A s = true) (k : Nat) : ∃ c : ClassId, ∀ ty : FieldType, tysF[k]? = some ty → ArrOfT s c ty ∧ va_RA s c ty := by
  have prim : ∀ {ty : FieldType}, (ty = .int ∨ ty = .boolean ∨ ty = .long) → Cond.arrayClass ty ∈ WSg → tysF[k]? = some ty → ∃ c : ClassId, ∀ ty : FieldType, tysF[k]? = some ty → ArrOfT s c ty ∧ va_RA s c ty := fun {ty} h1 h2 h3 => by
    obtain ⟨c, kA, comp, g1, g2, g3⟩ := Cond.arrayClass_spec (hts _ (wsg_lw h2))
    refine ⟨c, fun ty2 h => ?_⟩
    cases Option.some.inj (h3.symm.trans h)
    refine ⟨fun n z => ⟨fun k h => (by cases h), kA, g2, comp, g3⟩, ?_⟩
    rcases h1 with rfl | rfl | rfl <;> exact g1
  have obj : ∀ {C : String}, Cond.arrayOver (.object C) ∈ lw_tbl → tysF[k]? = some (.object C) → ∃ c : ClassId, ∀ ty : FieldType, tysF[k]? = some ty → ArrOfT s c ty ∧ va_RA s c ty := fun {C} h2 h3 => by
    obtain ⟨comp, c, kA, g1, g2, g3, g4, g5⟩ := Cond.arrayOver_spec (hts _ h2)
    refine ⟨c, fun ty2 h => ?_⟩
    cases Option.some.inj (h3.symm.trans h)
    exact ⟨fun n z => ⟨fun k h => (by cases h), kA, g3, comp, g4⟩, kA, comp, g3, g4, g1, g5⟩
  match k with
  | 0 => exact prim (Or.inl rfl) ac_int rfl
  | 1 => exact prim (Or.inr (Or.inl rfl)) ac_boolean rfl
  | 2 => exact prim (Or.inr (Or.inr rfl)) ac_long rfl
  | 3 => exact obj ao_in.1 rfl
  | 4 => exact obj ao_in.2.1 rfl
  | 5 => exact obj ao_in.2.2.1 rfl
  | 6 => exact obj ao_in.2.2.2.1 rfl
  | 7 => exact obj ao_in.2.2.2.2 rfl
  | k + 8 => exact ⟨0, fun q hq => by simp [tysF] at hq⟩
/-- the world's addresses and classes -/
theorem lw_Om {A : Array Value} {s : State} (hts : ∀ w ∈ lw_tbl, w.before A s = true) : ∃ O : Om, O.1 = s.heap.size ∧ AdO O ∧ OmOk O ∧ va_K O.2.2.1 vwCl (tysO O) s := by
  obtain ⟨f, hf⟩ := Classical.axiomOfChoice (lw_cls hts)
  obtain ⟨g, hg⟩ := Classical.axiomOfChoice (lw_arr hts)
  refine ⟨(s.heap.size, fun k i => s.heap.size + posK k i, (fun k => (f k).1, fun k => (f k).2), g), rfl, fun _ _ => rfl, ⟨fun k i k' i' h h' e => posK_inj h h' (by have e : s.heap.size + posK k i = s.heap.size + posK k' i' := e; omega), fun k i _ => Nat.le_add_right _ _⟩, fun k q hq => hf k q hq, fun k q hq => ?_⟩
  have key : tysO (s.heap.size, fun k i => s.heap.size + posK k i, (fun k => (f k).1, fun k => (f k).2), g) = tysF.zipIdx.map (fun p => (g p.2, p.1)) := rfl
  rw [key, List.getElem?_map, List.getElem?_zipIdx] at hq
  cases hx : tysF[k]? with
  | none => rw [hx] at hq; cases hq
  | some ty =>
    rw [hx] at hq
    cases hq
    have := hg k ty hx
    simpa using this
theorem lw_E {O : Om} {b : Nat} {s : State} (hts : ∀ w ∈ lw_tbl, w.before #[Value.ref b] s = true) (hgv : (Jvm.Cond.and given_1 narrow_1).before #[Value.ref b] s = true) (hO : O.1 = s.heap.size) : ExF O s := by
  have hs := flat_of_before _ hgv
  have hc : ∃ c, s.vm.findClass "Newsmint" = some c := by
    obtain ⟨c, h⟩ := lw_cls hts 11
    exact ⟨_, (h (RX11, TX11, 5) rfl).2.1⟩
  obtain ⟨c, hc⟩ := hc
  have str : ∀ {k : Nat} {tx : String}, Cond.stringRef "Newsmint" k tx ∈ lw_tbl → ∃ sa : Nat, vk_R "Newsmint" k tx sa s := fun {k} {tx} h => by
    obtain ⟨-, -, -, a, -, -, -, -, -, hev⟩ := Cond.stringRef_spec hc (hts _ h)
    exact ⟨a, vk_R.of (hts _ h) hev⟩
  have hA : ∀ a : Nat, a < s.heap.size → ¬ RgO O a := fun a ha q => by
    have q : O.1 ≤ a := q
    omega
  exact ⟨str sr_in.1, str sr_in.2.1, str sr_in.2.2, vx_Zqof (hts _ ls_in.1) (hts _ ls_in.2.2) (hs _ (by decide +kernel)) hA, vx_Zqof (hts _ ls_in.2.1) (hts _ ls_in.2.2) (hs _ (by decide +kernel)) hA, fun w hw => xw_from (List.mem_filter.mp hw).2 (hts _ (List.mem_filter.mp hw).1), va_Nc.of (hs _ (by decide +kernel)), va_Nc.of (hs _ (by decide +kernel)), va_Nc.of (hs _ (by decide +kernel))⟩
