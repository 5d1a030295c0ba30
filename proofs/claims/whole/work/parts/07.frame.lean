/-! a method's frame over the world: what holds at its start, what a point in it is, what it owes -/
/-- the tables' words that stay true, and those that stay by laws of their own -/
def WSg : List Cond := lw_tbl.filter goodWord
def xw (w : Cond) : Bool := match w with
  | .declares _ => true
  | .castable _ _ => true
  | .methodLinkNest _ _ _ _ => true
  | .privateMethod _ => true
  | _ => false
def WSx : List Cond := lw_tbl.filter xw
theorem wsg_in {w : Cond} (h : w ∈ lw_tbl) (g : goodWord w = true) : w ∈ WSg := List.mem_filter.mpr ⟨h, g⟩
theorem wsg_t {w : Cond} {i : Nat} (h : tables_1[i]? = some w) (g : goodWord w = true) : w ∈ WSg := wsg_in (List.mem_append_right _ (List.mem_of_getElem? h)) g
theorem wsx_t {w : Cond} {i : Nat} (h : tables_1[i]? = some w) (g : xw w = true) : w ∈ WSx := List.mem_filter.mpr ⟨List.mem_append_right _ (List.mem_of_getElem? h), g⟩
theorem xw_warm {w : Cond} (g : xw w = true) {s U : State} (hW : s.WarmedH U.vm) (h : w.before #[] s = true) : w.before #[] U = true := by
  cases w <;> first | (simp [xw] at g; done) | exact va_Nw.warmD hW h | exact va_Nw.warmC hW h | exact va_Nw.warmM hW h | exact va_tabs rfl (rfl : (s.setVm U.vm).vm = U.vm) (by rw [Cond.privateMethod_setVm hW.alike]; exact h)
theorem xw_use {w : Cond} (g : xw w = true) {A : Array Value} {U : State} (h : w.before #[] U = true) : w.before A U = true := by
  cases w <;> first | (simp [xw] at g; done) | exact va_Nw.use rfl h
def xIdx : String := "java/lang/IndexOutOfBoundsException"
def xArg : String := "java/lang/IllegalArgumentException"
def xSta : String := "java/lang/IllegalStateException"
/-- what throws and catches stand on, in every state of a run -/
def ExF (O : Om) (U : State) : Prop := (∃ sa : Nat, vk_R "Newsmint" 311 "there is no such one" sa U) ∧ (∃ sa : Nat, vk_R "Newsmint" 319 "an argument is out of its range" sa U) ∧ (∃ sa : Nat, vk_R "Newsmint" 324 "the state does not let it" sa U) ∧ vx_Zq Bundle.tN "UNASSIGNED_STACK" Bundle.steD (RgO O) U U.heap ∧ vx_Zq Bundle.tN "SUPPRESSED_SENTINEL" Bundle.listD (RgO O) U U.heap ∧ (∀ w ∈ WSx, w.before #[] U = true) ∧ va_Nc xArg xIdx U ∧ va_Nc xSta xIdx U ∧ va_Nc xSta xArg U
theorem ExF.moved {O : Om} {s U : State} (h : ExF O s) (hW : s.WarmedH U.vm) (hq : ∀ q : Nat, q < s.heap.size → ¬ RgO O q → U.heap[q]? = s.heap[q]?) : ExF O U := by
  obtain ⟨⟨a1, h1⟩, ⟨a2, h2⟩, ⟨a3, h3⟩, h4, h5, h6, h7, h8, h9⟩ := h
  exact ⟨⟨a1, h1.warm hW⟩, ⟨a2, h2.warm hW⟩, ⟨a3, h3.warm hW⟩, (h4.moved hW.alike).kept hq, (h5.moved hW.alike).kept hq, fun w hw => xw_warm (List.mem_filter.mp hw).2 hW (h6 w hw), h7.moved hW.alike, h8.moved hW.alike, h9.moved hW.alike⟩
theorem ExF.calling {O : Om} {U : State} (g : JFrame) (mk : MethodId) (a : Array Value) (h : ExF O U) : ExF O (U.calling g mk a) :=
  h.moved (s := U) (U := U.calling g mk a) (State.WarmedH.refl U) (fun _ _ _ => rfl)
/-- the world holds S -/
def Wd (O : Om) (S : Mem) (U : State) : Prop := O.1 ≤ U.heap.size ∧ Rep O S U.heap ∧ va_K O.2.2.1 vwCl (tysO O) U ∧ ExF O U ∧ OmOk O
theorem Wd.calling {O : Om} {S : Mem} {U : State} (g : JFrame) (mk : MethodId) (a : Array Value) (h : Wd O S U) : Wd O S (U.calling g mk a) :=
  ⟨h.1, h.2.1, va_K.moved (u := U) (U := U.calling g mk a) (Vm.Alike.refl U.vm) h.2.2.1, h.2.2.2.1.calling g mk a, h.2.2.2.2⟩
abbrev Cx : Type := Program × Launch × Env × Room × State × MethodId × Array Value × List Frame × Method × Code
/-- what holds of the method d's frame -/
def Fx (O : Om) (G : Cx) (d : MD) (hh : List (Nat × Nat × Nat × Nat)) : Prop := match G with
  | (p, l, e, R, s, m, args, below, meth, c) => p.tables.exec = Jvm.exec ∧ c.code = d.2.2.1 ∧ c.maxLocals = d.2.2.2.1 ∧ s.vm.findClass d.1 = some m.cls ∧ (∀ w ∈ WSg, w.before args s = true) ∧ meth.sig.returnType = d.2.2.2.2.1 ∧ meth.locks = false ∧ MDok d ∧ va_K O.2.2.1 vwCl (tysO O) s ∧ ExF O s ∧ OmOk O ∧ O.1 ≤ s.heap.size ∧ l.stackTraces = false ∧ c.exceptionTable.toList = tableOf hh
def LV (O : Om) (la : Array Slot) (nL : Nat) (ls : List (Option AV)) : Prop := la.size = nL ∧ lv_wf la ∧ ∀ (i : Nat) (v : AV), ls[i]? = some (some v) → la[i]? = some (.val (toV O v)) ∧ (toV O v).category = 1
def stV (O : Om) (st : List AV) : List Value := st.map (toV O)
/-- a point: from every heap that holds S the method comes to Q -/
def AW (O : Om) (G : Cx) (d : MD) (hh : List (Nat × Nat × Nat × Nat)) (k n : Nat) (Q : State → Prop) (S : Mem) (pc : Nat) (ls : List (Option AV)) (st : List AV) : Prop := match G with
  | (p, l, e, R, s, m, args, below, meth, c) => Fx O (p, l, e, R, s, m, args, below, meth, c) d hh → ∀ (H : Heap) (locs : List Loc) (la : Array Slot), Rep O S H → va_S (RgO O) s.heap H locs → LV O la d.2.2.2.1 ls → W p l e R s m args below meth c H locs k n Q (F0 m pc la (stV O st))
/-- the same, with an exception of class E thrown -/
def AX (O : Om) (G : Cx) (d : MD) (hh : List (Nat × Nat × Nat × Nat)) (k n : Nat) (Q : State → Prop) (S : Mem) (pc : Nat) (ls : List (Option AV)) (E : String) : Prop := match G with
  | (p, l, e, R, s, m, args, below, meth, c) => Fx O (p, l, e, R, s, m, args, below, meth, c) d hh → ∀ (H : Heap) (locs : List Loc) (la : Array Slot) (rest : List Value) (q : Addr) (ce : Cell), Rep O S H → va_S (RgO O) s.heap H locs → LV O la d.2.2.2.1 ls → H[q]? = some ce → ce.vm = .none → s.vm.findClass E = some ce.cls → vx_W p l e R s m args below meth c H locs k n Q (F0 m pc la rest) q
/-- how a method ends: it returns v in S, or throws E in S -/
def PostV (O : Om) (P : Option AV → Mem → Prop) : Array Value → State → Outcome → State → Prop := fun _ st o t => (∃ (v : Option AV) (S' : Mem), o = .returned (v.map (toV O)) ∧ P v S' ∧ Rep O S' t.heap) ∧ va_F (RgO O) st t
def PostX (O : Om) (S : Mem) (E : String) : String → State → State → Prop := fun E' st t => E' = E ∧ Rep O S t.heap ∧ va_F (RgO O) st t
def QV (O : Om) (G : Cx) (kc ns : Nat) (P : Option AV → Mem → Prop) : State → Prop := match G with
  | (_, _, _, _, s, _, args, below, _, _) => MQ below (PostV O P) args s kc ns (RgO O)
def QX (O : Om) (G : Cx) (S : Mem) (E : String) : State → Prop := match G with
  | (_, _, _, _, s, _, args, below, _, _) => vx_MQ below (fun _ _ _ _ => False) (PostX O S E) args s 1 6 (RgO O)
abbrev rmO (fr lo kc ns : Nat) : Room := { frames := fr, cells := kc, slots := ns, locals := lo }
/-- contracts: of methods without handlers, of those with, and of a throw -/
def Ct (l : Launch) (d : MD) (fr lo : Nat) (as : List AV) (S : Mem) (P : Option AV → Mem → Prop) : Prop := ∀ O : Om, Met l d.2.1 (.code d.2.1 d.2.2.1 d.2.2.2.1 d.2.2.2.2.1 :: WSg) (rmO fr lo 0 0) (va_Pc (stV O as) (Wd O S)) (PostV O P) 0 0 (RgO O)
def Ch (l : Launch) (d : MD) (hh : List (Nat × Nat × Nat × Nat)) (fr lo kc ns : Nat) (as : List AV) (S : Mem) (P : Option AV → Mem → Prop) : Prop := ∀ O : Om, Met l d.2.1 (.codeWith d.2.1 d.2.2.1 d.2.2.2.1 d.2.2.2.2.1 hh :: WSg) (rmO fr lo kc ns) (va_Pc (stV O as) (Wd O S)) (PostV O P) kc ns (RgO O)
def Cq (l : Launch) (d : MD) (fr lo : Nat) (as : List AV) (S : Mem) (E : String) : Prop := ∀ O : Om, vx_Met l d.2.1 (.code d.2.1 d.2.2.1 d.2.2.2.1 d.2.2.2.2.1 :: WSg) (rmO fr lo 1 6) (va_Pc (stV O as) (Wd O S)) (fun _ _ _ _ => False) (PostX O S E) 1 6 (RgO O)
theorem lv_args1 (vs : List Value) (hc : ∀ v ∈ vs, v.category = 1) : ∀ (b i : Nat) (v : Value), vs[i]? = some v → (b + i, v) ∈ lv_args b vs := by
  induction vs with
  | nil => intro b i v h; simp at h
  | cons a r ih =>
    intro b i v h
    have h1 : a.category = 1 := hc a List.mem_cons_self
    cases i with
    | zero =>
      simp at h
      subst h
      exact List.mem_cons_self
    | succ i =>
      simp at h
      unfold lv_args
      rw [if_neg (by rw [h1]; decide)]
      refine List.mem_cons_of_mem _ ?_
      have := ih (fun v hv => hc v (List.mem_cons_of_mem _ hv)) (b + 1) i v h
      rw [show b + (i + 1) = b + 1 + i by omega]
      exact this
theorem lg_sl1 (vs : List Value) (hc : ∀ v ∈ vs, v.category = 1) : (lg_sl vs).length = vs.length := by
  induction vs with
  | nil => rfl
  | cons a r ih =>
    have h1 : a.category = 1 := hc a List.mem_cons_self
    have h2 := ih (fun v hv => hc v (List.mem_cons_of_mem _ hv))
    unfold lg_sl at h2 ⊢
    rw [List.flatMap_cons, if_neg (by rw [h1]; decide), List.length_append, h2]
    simp
    omega
/-- the locals at the entry -/
theorem LV.entry {O : Om} {as : List AV} {nL : Nat} (hc : ∀ v ∈ stV O as, v.category = 1) (h : as.length ≤ nL) : LV O ((lg_sl (stV O as) ++ List.replicate (nL - (lg_sl (stV O as)).length) Slot.unset).toArray) nL (as.map some) := by
  have hl : (lg_sl (stV O as)).length ≤ nL := by rw [lg_sl1 _ hc]; simpa [stV] using h
  obtain ⟨h1, h2, h3⟩ := lv_entry (stV O as) hl
  refine ⟨h1, h2, fun i v hv => ?_⟩
  have hi : as[i]? = some v := by
    rw [List.getElem?_map] at hv
    cases hx : as[i]? with
    | none => rw [hx] at hv; cases hv
    | some w => rw [hx] at hv; cases hv; rfl
  have hs : (stV O as)[i]? = some (toV O v) := by
    unfold stV
    rw [List.getElem?_map, hi]
    rfl
  have h4 := lv_args1 (stV O as) hc 0 i _ hs
  rw [Nat.zero_add] at h4
  exact ⟨h3 _ h4, hc _ (List.mem_of_getElem? hs)⟩
/-- the walk of a body gives its contract -/
theorem Ct.of {l : Launch} {d : MD} {fr lo : Nat} {as : List AV} {S : Mem} {P : Option AV → Mem → Prop} (hl : l.stackTraces = false) (hd : MDok d) (hy : plainName d.2.1.cls = true) (hown : d.2.1.cls = d.1) (hc : ∀ O, ∀ v ∈ stV O as, v.category = 1) (hn : as.length ≤ d.2.2.2.1)
    (body : ∀ (O : Om) (G : Cx), G.2.2.2.1 = rmO fr lo 0 0 → AW O G d [] 0 0 (QV O G 0 0 P) S 0 (as.map some) []) : Ct l d fr lo as S P := by
  intro O
  refine Met.ofW (cc := d.2.2.1) (maxL := d.2.2.2.1) (ret := d.2.2.2.2.1) hy rfl ?_
  intro p e s m args below meth c s₁ B hml hv
  obtain ⟨rfl, hsz, hP, hK, hE, hO⟩ := hv
  have hts := atoms_spec (ws := .code d.2.1 d.2.2.1 d.2.2.2.1 d.2.2.2.2.1 :: WSg) B.pre
  have hfc : s.vm.findClass d.1 = some m.cls := by rw [← hown]; exact findClass_of_methodNamed B.named
  have key := body O (p, l, e, (headSpec (.code d.2.1 d.2.2.1 d.2.2.2.1 d.2.2.2.2.1 :: WSg) (rmO fr lo 0 0)).room, s, m, (stV O as).toArray, below, meth, c) rfl
  have hF : Fx O (p, l, e, (headSpec (.code d.2.1 d.2.2.1 d.2.2.2.1 d.2.2.2.2.1 :: WSg) (rmO fr lo 0 0)).room, s, m, (stV O as).toArray, below, meth, c) d [] :=
    ⟨B.exec, B.bytes, hml, hfc, fun w hw => hts w (List.mem_cons_of_mem _ hw), B.returns, B.notSynchronized, hd, hK, hE, hO, hsz, hl, by
      obtain ⟨meth9, c9, h1, h2, -, -, -, -, h7, -⟩ := Cond.code_spec B.named (hts _ List.mem_cons_self)
      cases Option.some.inj (h1.symm.trans B.method)
      cases Option.some.inj (h2.symm.trans (Stand.of_body B).code)
      rw [Array.isEmpty_iff.mp h7]
      rfl⟩
  have hL := LV.entry (O := O) (as := as) (nL := d.2.2.2.1) (hc O) hn
  rw [lg_entry_eq]
  exact key hF s.heap [] _ hP va_S.rf hL
theorem Met_of_vx {l : Launch} {y : MethodName} {ws : List Cond} {rm : Room} {Pc : Array Value → State → Prop} {Qc : Array Value → State → Outcome → State → Prop} {mc ms : Nat} {free : Addr → Prop} (h : vx_Met l y ws rm Pc Qc (fun _ _ _ => False) mc ms free) : Met l y ws rm Pc Qc mc ms free := by
  intro p e ha hc hk s m args below hf happ hP hK
  obtain ⟨n, o, h1, h2, h3, h4⟩ := h p e ha hc hk s m args below hf happ hP hK
  refine ⟨n, o, h1, h2, h3, ?_⟩
  rcases h4 with h4 | ⟨q, -, E, ce, L, h5, -⟩
  · exact h4
  · exact h5.elim
theorem Ch.of {l : Launch} {d : MD} {hh : List (Nat × Nat × Nat × Nat)} {fr lo kc ns : Nat} {as : List AV} {S : Mem} {P : Option AV → Mem → Prop} (hl : l.stackTraces = false) (hd : MDok d) (hy : plainName d.2.1.cls = true) (hown : d.2.1.cls = d.1) (hc : ∀ O, ∀ v ∈ stV O as, v.category = 1) (hn : as.length ≤ d.2.2.2.1)
    (body : ∀ (O : Om) (G : Cx), G.2.2.2.1 = rmO fr lo kc ns → AW O G d hh 0 0 (QV O G kc ns P) S 0 (as.map some) []) : Ch l d hh fr lo kc ns as S P := by
  intro O
  refine Met_of_vx (vx_ofWH (cc := d.2.2.1) (maxL := d.2.2.2.1) (ret := d.2.2.2.2.1) (hh := hh) hy rfl ?_)
  intro p e s m args below meth c s₁ B hml hv
  obtain ⟨rfl, hsz, hP, hK, hE, hO⟩ := hv
  have hts := atoms_spec (ws := .codeWith d.2.1 d.2.2.1 d.2.2.2.1 d.2.2.2.2.1 hh :: WSg) B.pre
  have hfc : s.vm.findClass d.1 = some m.cls := by rw [← hown]; exact findClass_of_methodNamed B.named
  have key := body O (p, l, e, (headSpec (.codeWith d.2.1 d.2.2.1 d.2.2.2.1 d.2.2.2.2.1 hh :: WSg) (rmO fr lo kc ns)).room, s, m, (stV O as).toArray, below, meth, c) rfl
  have hF : Fx O (p, l, e, (headSpec (.codeWith d.2.1 d.2.2.1 d.2.2.2.1 d.2.2.2.2.1 hh :: WSg) (rmO fr lo kc ns)).room, s, m, (stV O as).toArray, below, meth, c) d hh :=
    ⟨B.exec, B.bytes, hml, hfc, fun w hw => hts w (List.mem_cons_of_mem _ hw), B.returns, B.notSynchronized, hd, hK, hE, hO, hsz, hl, vx_table (x := d.2.1) B (hts _ List.mem_cons_self)⟩
  have hL := LV.entry (O := O) (as := as) (nL := d.2.2.2.1) (hc O) hn
  rw [lg_entry_eq]
  exact vx_ret (key hF s.heap [] _ hP va_S.rf hL)
theorem Cq.of {l : Launch} {d : MD} {fr lo : Nat} {as : List AV} {S : Mem} {E : String} (hl : l.stackTraces = false) (hd : MDok d) (hy : plainName d.2.1.cls = true) (hown : d.2.1.cls = d.1) (hc : ∀ O, ∀ v ∈ stV O as, v.category = 1) (hn : as.length ≤ d.2.2.2.1)
    (body : ∀ (O : Om) (G : Cx), G.2.2.2.1 = rmO fr lo 1 6 → AW O G d [] 0 0 (QX O G S E) S 0 (as.map some) []) : Cq l d fr lo as S E := by
  intro O
  refine vx_ofW (cc := d.2.2.1) (maxL := d.2.2.2.1) (ret := d.2.2.2.2.1) hy rfl ?_
  intro p e s m args below meth c s₁ B hml ht hv
  obtain ⟨rfl, hsz, hP, hK, hE, hO⟩ := hv
  have hts := atoms_spec (ws := .code d.2.1 d.2.2.1 d.2.2.2.1 d.2.2.2.2.1 :: WSg) B.pre
  have hfc : s.vm.findClass d.1 = some m.cls := by rw [← hown]; exact findClass_of_methodNamed B.named
  have key := body O (p, l, e, (headSpec (.code d.2.1 d.2.2.1 d.2.2.2.1 d.2.2.2.2.1 :: WSg) (rmO fr lo 1 6)).room, s, m, (stV O as).toArray, below, meth, c) rfl
  have hF : Fx O (p, l, e, (headSpec (.code d.2.1 d.2.2.1 d.2.2.2.1 d.2.2.2.2.1 :: WSg) (rmO fr lo 1 6)).room, s, m, (stV O as).toArray, below, meth, c) d [] :=
    ⟨B.exec, B.bytes, hml, hfc, fun w hw => hts w (List.mem_cons_of_mem _ hw), B.returns, B.notSynchronized, hd, hK, hE, hO, hsz, hl, by
      cases hx : c.exceptionTable.toList with
      | nil => rfl
      | cons a r => exact (ht a (by rw [hx]; exact List.mem_cons_self)).elim⟩
  have hL := LV.entry (O := O) (as := as) (nL := d.2.2.2.1) (hc O) hn
  rw [lg_entry_eq]
  exact key hF s.heap [] _ hP va_S.rf hL
