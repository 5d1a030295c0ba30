/-! fields, arrays, calls, throws and catches over points -/
abbrev NM (x : String) : Prop := x ≠ "java/lang/invoke/MethodHandle" ∧ x ≠ "java/lang/invoke/VarHandle"
theorem wsg_good {w : Cond} (h : w ∈ WSg) : goodWord w = true := (List.mem_filter.mp h).2
theorem wsg_GoodIn {L : List Cond} (h : ∀ w ∈ L, w ∈ WSg) : GoodIn WSg L := fun w hw => ⟨h w hw, good_of_word (wsg_good (h w hw))⟩
theorem Rep.get {O : Om} {S : Mem} {H : Heap} (h : Rep O S H) {k i : Nat} (hi : i < cntK k) {e : va_E} (he : ent O S k i = e) : ∃ q0 : Nat, prsK[q0]? = some (k, i) ∧ (wsO O S)[q0]? = some (O.2.1 k i, e) := by
  obtain ⟨q0, hq⟩ := prsK_in hi
  exact ⟨q0, hq, he ▸ wsO_at hq⟩
section Rows9
variable {O : Om} {G : Cx} {D : FD} {k n : Nat} {Q : State → Prop} {S : Mem} {pc : Nat} {ls : List (Option AV)} {st : List AV}
theorem a_get (a b : Nat) {index kd i ci N j : Nat} {C : String} {T : u_T} {fs : List Value} {v : AV} (hT : IA D a b pc (.getfield index) 3) (hi : i < cntK kd) (he : ent O S kd i = .inr (ci, fs)) (hc : vwCl[ci]? = some (C, T, N)) (hin : ∀ w ∈ u_ws C T N, w ∈ WSg) (hj : j < N) (hl : Cond.fieldLink D.1.1 index C (T j).2.1 (T j).2.2.1 ∈ WSg) (hdecl : (T j).1 = C) (hv : fs[j]? = some (toV O v)) (kk : BW O G D k n Q S (pc + 3) ls (v :: st)) : BW O G D k n Q S pc ls (vr kd i :: st) := by
  obtain ⟨p, l, e, R, s, m, args, below, meth, c⟩ := G
  intro hR F H locs la hP hS hL
  obtain ⟨q0, -, hq⟩ := hP.get hi he
  exact va_get F.1 F.2.1 F.2.2.2.2.1 hin F.2.2.2.1 F.2.2.2.2.2.2.2.2.1 hP q0 hq hc j hj (F.2.2.2.2.1 _ hl) (fun x hx => by rw [hdecl] at hx; exact hx) hv (F.dec hT) (kk hR F H locs la hP hS hL)
theorem a_put (a b : Nat) {index kd i ci N j : Nat} {C : String} {T : u_T} {fs : List Value} {x : Int32} {ty : FieldType} {S' : Mem} (hT : IA D a b pc (.putfield index) 3) (hi : i < cntK kd) (he : ent O S kd i = .inr (ci, fs)) (hc : vwCl[ci]? = some (C, T, N)) (hin : ∀ w ∈ u_ws C T N, w ∈ WSg) (ty0 : Nat → FieldType) (hty : ∀ k, k < N → parseFieldDescriptor (T k).2.2.1 = some (ty0 k)) (hnm : ∀ a, a < N → ∀ b, b < N → a ≠ b → (T a).2.1 ≠ (T b).2.1) (hj : j < N) (hl : Cond.fieldLink D.1.1 index C (T j).2.1 (T j).2.2.1 ∈ WSg) (hdecl : (T j).1 = C) (hfin : (T j).2.2.2 = false) (hd : parseFieldDescriptor (T j).2.2.1 = some ty) (hn : narrow ty (.int x) = .int x) (hfit : fits ty (.int x) = true) (hlen : j < fs.length) (he' : ent O S' kd i = .inr (ci, fs.set j (.int x))) (ho : ∀ k' i', i' < cntK k' → ¬ (k' = kd ∧ i' = i) → ent O S' k' i' = ent O S k' i') (kk : BW O G D k n Q S' (pc + 3) ls st) : BW O G D k n Q S pc ls (vi x :: vr kd i :: st) := by
  obtain ⟨p, l, e, R, s, m, args, below, meth, c⟩ := G
  intro hR F H locs la hP hS hL
  obtain ⟨q0, hp0, hq⟩ := hP.get hi he
  refine va_put (v := .int x) F.1 F.2.1 F.2.2.2.2.1 hin ty0 hty hnm F.2.2.2.1 F.2.2.2.2.2.2.2.2.1 hP (F.2.2.2.2.2.2.2.2.2.2.1.D S) hS q0 hq hc j hj (F.2.2.2.2.1 _ hl) (fun x hx => by rw [hdecl] at hx; exact hx) hfin hd hn hfit hlen (F.dec hT) (fun H1 locs1 hP1 _ hS1 => ?_)
  rw [wsO_set hp0 he' ho] at hP1
  exact kk hR F H1 locs1 la hP1 hS1 hL
theorem upd_upd2 {M : Col} {c j : Nat} {x : Int32} : upd (fun i => M c i) j x = fun i => upd2 M c j x c i := by
  funext i
  unfold upd upd2
  rw [if_pos rfl]
theorem a_iald (a b : Nat) {kd i N : Nat} {f : Nat → Int32} {x : Int32} (j : Nat) (hT : IA D a b pc .iaload 1) (hi : i < cntK kd) (he : ent O S kd i = .inl (O.2.2.2 0, N, .inl f)) (hx : x = nI j) (hj : j < N) (hN : N < 2 ^ 31) (kk : BW O G D k n Q S (pc + 1) ls (vi (f j) :: st)) : BW O G D k n Q S pc ls (vi x :: vr kd i :: st) := by
  obtain ⟨p, l, e, R, s, m, args, below, meth, c⟩ := G
  intro hR F H locs la hP hS hL
  obtain ⟨q0, -, hq⟩ := hP.get hi he
  obtain ⟨h1, h2⟩ := va_inI hx hj hN
  refine va_iald F.1 F.2.1 F.2.2.2.2.2.2.2.2.1 hP q0 0 hq rfl h1 (F.dec hT) ?_
  rw [h2]
  exact kk hR F H locs la hP hS hL
theorem a_zald (a b : Nat) {kd i N : Nat} {f : Nat → Int32} {x : Int32} (j : Nat) (hT : IA D a b pc .baload 1) (hi : i < cntK kd) (he : ent O S kd i = .inl (O.2.2.2 1, N, .inl f)) (hx : x = nI j) (hj : j < N) (hN : N < 2 ^ 31) (kk : BW O G D k n Q S (pc + 1) ls (vi (f j) :: st)) : BW O G D k n Q S pc ls (vi x :: vr kd i :: st) := by
  obtain ⟨p, l, e, R, s, m, args, below, meth, c⟩ := G
  intro hR F H locs la hP hS hL
  obtain ⟨q0, -, hq⟩ := hP.get hi he
  obtain ⟨h1, h2⟩ := va_inI hx hj hN
  refine va_zald F.1 F.2.1 F.2.2.2.2.2.2.2.2.1 hP q0 1 hq rfl h1 (F.dec hT) ?_
  rw [h2]
  exact kk hR F H locs la hP hS hL
theorem a_iast (a b : Nat) {kd i N : Nat} {f : Nat → Int32} {x y : Int32} {S' : Mem} (j : Nat) (hT : IA D a b pc .iastore 1) (hi : i < cntK kd) (he : ent O S kd i = .inl (O.2.2.2 0, N, .inl f)) (hx : x = nI j) (hj : j < N) (hN : N < 2 ^ 31) (he' : ent O S' kd i = .inl (O.2.2.2 0, N, .inl (upd f j y))) (ho : ∀ k' i', i' < cntK k' → ¬ (k' = kd ∧ i' = i) → ent O S' k' i' = ent O S k' i') (kk : BW O G D k n Q S' (pc + 1) ls st) : BW O G D k n Q S pc ls (vi y :: vi x :: vr kd i :: st) := by
  obtain ⟨p, l, e, R, s, m, args, below, meth, c⟩ := G
  intro hR F H locs la hP hS hL
  obtain ⟨q0, hp0, hq⟩ := hP.get hi he
  obtain ⟨h1, h2⟩ := va_inI hx hj hN
  refine va_iast F.1 F.2.1 F.2.2.2.2.2.2.2.2.1 hP (F.2.2.2.2.2.2.2.2.2.2.1.D S) hS q0 0 hq rfl h1 (F.dec hT) (fun H1 locs1 hP1 _ hS1 => ?_)
  rw [h2, wsO_set hp0 he' ho] at hP1
  exact kk hR F H1 locs1 la hP1 hS1 hL
theorem a_zast (a b : Nat) {kd i N : Nat} {f : Nat → Int32} {x y : Int32} {S' : Mem} (j : Nat) (hT : IA D a b pc .bastore 1) (hi : i < cntK kd) (he : ent O S kd i = .inl (O.2.2.2 1, N, .inl f)) (hx : x = nI j) (hj : j < N) (hN : N < 2 ^ 31) (hy : vp_nar .boolean y = y) (he' : ent O S' kd i = .inl (O.2.2.2 1, N, .inl (upd f j y))) (ho : ∀ k' i', i' < cntK k' → ¬ (k' = kd ∧ i' = i) → ent O S' k' i' = ent O S k' i') (kk : BW O G D k n Q S' (pc + 1) ls st) : BW O G D k n Q S pc ls (vi y :: vi x :: vr kd i :: st) := by
  obtain ⟨p, l, e, R, s, m, args, below, meth, c⟩ := G
  intro hR F H locs la hP hS hL
  obtain ⟨q0, hp0, hq⟩ := hP.get hi he
  obtain ⟨h1, h2⟩ := va_inI hx hj hN
  refine va_zast F.1 F.2.1 F.2.2.2.2.2.2.2.2.1 hP (F.2.2.2.2.2.2.2.2.2.2.1.D S) hS q0 1 hq rfl h1 (F.dec hT) (fun H1 locs1 hP1 _ hS1 => ?_)
  rw [h2, hy, wsO_set hp0 he' ho] at hP1
  exact kk hR F H1 locs1 la hP1 hS1 hL
theorem a_lald (a b : Nat) {x : Int32} (hT : IA D a b pc .laload 1) (hx : x = 0) (kk : BW O G D k n Q S (pc + 1) ls (vl S.2.2 :: st)) : BW O G D k n Q S pc ls (vi x :: vr 63 0 :: st) := by
  obtain ⟨p, l, e, R, s, m, args, below, meth, c⟩ := G
  intro hR F H locs la hP hS hL
  obtain ⟨q0, -, hq⟩ := hP.get (k := 63) (i := 0) (by decide) rfl
  obtain ⟨h1, h2⟩ := va_inI (j := 0) (n := 1) (x := x) (by rw [hx]; exact nI_0.symm) (by decide) (by decide)
  refine va_lald F.1 F.2.1 F.2.2.2.2.2.2.2.2.1 hP q0 2 hq rfl h1 (F.dec hT) ?_
  rw [h2, if_pos rfl]
  exact kk hR F H locs la hP hS hL
theorem ent_out {z : Int64} {k' i' : Nat} (h : i' < cntK k') (hk : ¬ (k' = 63 ∧ i' = 0)) : ent O (S.1, S.2.1, z) k' i' = ent O S k' i' := by
  have h63 : k' ≠ 63 := fun q => hk ⟨q, by subst q; exact Nat.lt_one_iff.mp h⟩
  have hlt := cntK_lt h
  unfold ent
  split <;> first | rfl | (simp only [imp_false] at *; omega)
theorem a_last (a b : Nat) {x : Int32} {z : Int64} (hT : IA D a b pc .lastore 1) (hx : x = 0) (kk : BW O G D k n Q (S.1, S.2.1, z) (pc + 1) ls st) : BW O G D k n Q S pc ls (vl z :: vi x :: vr 63 0 :: st) := by
  obtain ⟨p, l, e, R, s, m, args, below, meth, c⟩ := G
  intro hR F H locs la hP hS hL
  obtain ⟨q0, hp0, hq⟩ := hP.get (k := 63) (i := 0) (by decide) rfl
  obtain ⟨h1, h2⟩ := va_inI (j := 0) (n := 1) (x := x) (by rw [hx]; exact nI_0.symm) (by decide) (by decide)
  refine va_last F.1 F.2.1 F.2.2.2.2.2.2.2.2.1 hP (F.2.2.2.2.2.2.2.2.2.2.1.D S) hS q0 2 hq rfl h1 (F.dec hT) (fun H1 locs1 hP1 _ hS1 => ?_)
  have he : vp_updL (fun j => if j = 0 then S.2.2 else 0) 0 z = fun j => if j = 0 then z else 0 := by
    funext j
    unfold vp_updL
    split
    · rfl
    · next hj => exact if_neg hj
  rw [h2, he, wsO_set (O := O) (S := S) (S' := (S.1, S.2.1, z)) (e := .inl (O.2.2.2 2, 1, .inr (.inl (fun j => if j = 0 then z else 0)))) hp0 rfl (fun k' i' h1 h2 => ent_out h1 h2)] at hP1
  exact kk hR F H1 locs1 la hP1 hS1 hL
theorem a_alen (a b : Nat) {kd i N : Nat} {f : (Nat → Int32) ⊕ (Nat → Int64) ⊕ (Nat → UInt32) ⊕ (Nat → UInt64) ⊕ (Nat → Option Nat)} {t0 : Nat} {ty : FieldType} (hT : IA D a b pc .arraylength 1) (hi : i < cntK kd) (he : ent O S kd i = .inl (O.2.2.2 t0, N, f)) (ht : (tysO O)[t0]? = some (O.2.2.2 t0, ty)) (kk : BW O G D k n Q S (pc + 1) ls (vi (nI N) :: st)) : BW O G D k n Q S pc ls (vr kd i :: st) := by
  obtain ⟨p, l, e, R, s, m, args, below, meth, c⟩ := G
  intro hR F H locs la hP hS hL
  obtain ⟨q0, -, hq⟩ := hP.get hi he
  exact va_alen F.1 F.2.1 F.2.2.2.2.2.2.2.2.1 hP q0 t0 hq ht rfl (F.dec hT) (kk hR F H locs la hP hS hL)
theorem a_aald (a b : Nat) {kd i N t0 k2 : Nat} {C : String} {x : Int32} (j : Nat) (hT : IA D a b pc .aaload 1) (hi : i < cntK kd) (he : ent O S kd i = .inl (O.2.2.2 t0, N, .inr (.inr (.inr (.inr (fun j => some (O.2.1 k2 j))))))) (ht : (tysO O)[t0]? = some (O.2.2.2 t0, .object C)) (hx : x = nI j) (hj : j < N) (hN : N < 2 ^ 31) (kk : BW O G D k n Q S (pc + 1) ls (vr k2 j :: st)) : BW O G D k n Q S pc ls (vi x :: vr kd i :: st) := by
  obtain ⟨p, l, e, R, s, m, args, below, meth, c⟩ := G
  intro hR F H locs la hP hS hL
  obtain ⟨q0, -, hq⟩ := hP.get hi he
  obtain ⟨h1, h2⟩ := va_inI hx hj hN
  refine va_aldq F.1 F.2.1 F.2.2.2.2.2.2.2.2.1 hP q0 t0 hq ht h1 (F.dec hT) ?_
  rw [h2]
  exact kk hR F H locs la hP hS hL
/-- what a call of an instance method, a static method asks of the tables -/
def CV (own : String) (index : Nat) (d : MD) (n : Nat) : Prop := Cond.methodLink own index d.2.1 ∈ WSg ∧ Cond.instanceMethod d.2.1 ∈ WSg ∧ Cond.selects d.2.1.cls d.2.1 d.2.1 ∈ WSg ∧ Cond.initialized d.2.1.cls ∈ WSg ∧ Cond.code d.2.1 d.2.2.1 d.2.2.2.1 d.2.2.2.2.1 ∈ WSg ∧ d.2.1.cls ≠ "java/lang/invoke/MethodHandle" ∧ d.2.1.cls ≠ "java/lang/invoke/VarHandle" ∧ (parseMethodDescriptor d.2.1.desc).map (fun d => d.parameters.length) = some n
def CS (own : String) (index : Nat) (d : MD) (n : Nat) : Prop := Cond.methodLink own index d.2.1 ∈ WSg ∧ Cond.static d.2.1 ∈ WSg ∧ Cond.initialized d.2.1.cls ∈ WSg ∧ Cond.code d.2.1 d.2.2.1 d.2.2.2.1 d.2.2.2.2.1 ∈ WSg ∧ d.2.1.cls ≠ "java/lang/invoke/MethodHandle" ∧ d.2.1.cls ≠ "java/lang/invoke/VarHandle" ∧ (parseMethodDescriptor d.2.1.desc).map (fun d => d.parameters.length) = some n
def CSN (own : String) (index : Nat) (host : String) (d : MD) (n : Nat) : Prop := Cond.methodLinkNest own index d.2.1 host ∈ WSx ∧ Cond.static d.2.1 ∈ WSg ∧ Cond.initialized d.2.1.cls ∈ WSg ∧ Cond.code d.2.1 d.2.2.1 d.2.2.2.1 d.2.2.2.2.1 ∈ WSg ∧ d.2.1.cls ≠ "java/lang/invoke/MethodHandle" ∧ d.2.1.cls ≠ "java/lang/invoke/VarHandle" ∧ (parseMethodDescriptor d.2.1.desc).map (fun d => d.parameters.length) = some n
def CH (own : String) (index : Nat) (d : MD) (hh : List (Nat × Nat × Nat × Nat)) (n : Nat) : Prop := Cond.methodLink own index d.2.1 ∈ WSg ∧ Cond.static d.2.1 ∈ WSg ∧ Cond.initialized d.2.1.cls ∈ WSg ∧ Cond.codeWith d.2.1 d.2.2.1 d.2.2.2.1 d.2.2.2.2.1 hh ∈ WSg ∧ d.2.1.cls ≠ "java/lang/invoke/MethodHandle" ∧ d.2.1.cls ≠ "java/lang/invoke/VarHandle" ∧ (parseMethodDescriptor d.2.1.desc).map (fun d => d.parameters.length) = some n
/-- the room of a call, and the stack left below it -/
def RmOk (O : Om) (D : FD) (k n fr lo nL kc ns : Nat) (st : List AV) : Prop := fr + 1 ≤ D.2.2.1 ∧ 8 + (nL + 11) + lo ≤ D.2.2.2.1 ∧ ((stV O st).map fun v => v.category).sum ≤ 8 ∧ k + kc ≤ D.2.2.2.2.1 ∧ n + ns ≤ D.2.2.2.2.2
def Cts (d : MD) (fr lo : Nat) (as : List AV) (S : Mem) (P : Option AV → Mem → Prop) : Prop := ∀ l : Launch, l.stackTraces = false → Ct l d fr lo as S P
def Chs (d : MD) (hh : List (Nat × Nat × Nat × Nat)) (fr lo kc ns : Nat) (as : List AV) (S : Mem) (P : Option AV → Mem → Prop) : Prop := ∀ l : Launch, l.stackTraces = false → Ch l d hh fr lo kc ns as S P
def Cqs (d : MD) (fr lo : Nat) (as : List AV) (S : Mem) (E : String) : Prop := ∀ l : Launch, l.stackTraces = false → Cq l d fr lo as S E
end Rows9
section Done
variable {p : Program} {l : Launch} {e : Env} {R : Room} {s : State} {m : MethodId} {args : Array Value} {below : List Frame} {meth : Method} {c : Code} {O : Om} {H : Heap} {locs : List Loc} {k n mc ms : Nat} {Q : State → Prop} {pc : Nat} {la : Array Slot} {rest st0 : List Value}
theorem run_done {P : Option AV → Mem → Prop} {a : Array Value} (hr : va_Run p l e R s m args below meth c H locs k n mc ms (F0 m pc la st0) rest (PostV O P a) (RgO O)) (hS : va_S (RgO O) s.heap H locs)
    (kk : ∀ (v : Option AV) (S' : Mem) (H1 : Heap) (locs1 : List Loc), P v S' → Rep O S' H1 → va_S (RgO O) s.heap H1 locs1 → W p l e R s m args below meth c H1 locs1 (k + mc) (n + ms) Q (F0 m (pc + 3) la ((v.map (toV O)).toList ++ rest))) : W p l e R s m args below meth c H locs k n Q (F0 m pc la st0) := by
  intro T hT X
  obtain ⟨v, st₀, t, T', L, h0, X', hL, e1, e2, ⟨⟨u, S', hv, hp, hb⟩, hz, hk⟩, st⟩ := hr T hT X
  cases hv
  rw [h0] at hz hk
  obtain ⟨t2, a1, b1⟩ := kk u S' T'.heap (locs ++ L) hp (by rw [e1]; exact hb) ⟨Nat.le_trans hS.1 (by rw [e1]; exact hz), fun q h1 h2 => by rw [e1, hk q (Nat.lt_of_lt_of_le h1 hS.1) h2]; exact hS.2.1 q h1 h2, fun q hq => by
      rcases List.mem_append.mp hq with h | h
      · exact hS.2.2 q h
      · exact hL q h⟩ T' rfl X'
  exact ⟨t2, st t2 a1, b1⟩
theorem run_doneX {S : Mem} {E : String} (hr : vx_Run p l e R s m args below meth c H locs k n mc ms (F0 m pc la st0) rest (fun _ _ _ => False) (PostX O S E) (RgO O)) (hS : va_S (RgO O) s.heap H locs)
    (kk : ∀ (H1 : Heap) (locs1 : List Loc) (q : Addr) (ce : Cell), Rep O S H1 → va_S (RgO O) s.heap H1 locs1 → H1[q]? = some ce → ce.vm = .none → s.vm.findClass E = some ce.cls → vx_W p l e R s m args below meth c H1 locs1 (k + mc) (n + ms) Q (F0 m pc la rest) q) : W p l e R s m args below meth c H locs k n Q (F0 m pc la st0) := by
  intro T hT X
  rcases hr T hT X with ⟨v, st₀, t, T', L, h0, X', hL, e1, e2, hf, st⟩ | ⟨q, st₀, t, T', L, E', ce, h0, X', hL, e1, e2, ⟨rfl, hb, hz, hk⟩, hce, hcv, hcl, st⟩
  · exact hf.elim
  · rw [h0] at hz hk
    obtain ⟨t2, a1, b1⟩ := kk T'.heap (locs ++ L) q ce (by rw [e1]; exact hb) ⟨Nat.le_trans hS.1 (by rw [e1]; exact hz), fun q h1 h2 => by rw [e1, hk q (Nat.lt_of_lt_of_le h1 hS.1) h2]; exact hS.2.1 q h1 h2, fun q hq => by
      rcases List.mem_append.mp hq with h | h
      · exact hS.2.2 q h
      · exact hL q h⟩ (by rw [e1]; exact hce) hcv hcl T' rfl X'
    exact ⟨t2, st.trans a1, b1⟩
end Done
theorem Fx.Wd {O : Om} {p : Program} {l : Launch} {e : Env} {R : Room} {s : State} {m : MethodId} {args : Array Value} {below : List Frame} {meth : Method} {c : Code} {d : MD} {hh : List (Nat × Nat × Nat × Nat)} (F : Fx O (p, l, e, R, s, m, args, below, meth, c) d hh) {S : Mem} {H : Heap} {locs : List Loc} (hP : Rep O S H) (hS : va_S (RgO O) s.heap H locs) {U : State} (hU : U.heap = H) (hW : s.WarmedH U.vm) : Wd O S U :=
  ⟨by rw [hU]; exact Nat.le_trans F.2.2.2.2.2.2.2.2.2.2.2.1 hS.1, by rw [hU]; exact hP, va_K.moved hW.alike F.2.2.2.2.2.2.2.2.1, F.2.2.2.2.2.2.2.2.2.1.moved hW (fun q h1 h2 => by rw [hU]; exact hS.2.1 q h1 h2), F.2.2.2.2.2.2.2.2.2.2.1⟩
theorem Fx.fix {O : Om} {p : Program} {l : Launch} {e : Env} {R : Room} {s : State} {m : MethodId} {args : Array Value} {below : List Frame} {meth : Method} {c : Code} {d : MD} {hh : List (Nat × Nat × Nat × Nat)} (F : Fx O (p, l, e, R, s, m, args, below, meth, c) d hh) : CallFix p m c d.2.2.1 d.2.2.2.1 s args WSg d.1 := ⟨F.1, F.2.1, F.2.2.1, F.2.2.2.1, F.2.2.2.2.1⟩
theorem blindW {O : Om} {S : Mem} {av : List Value} : FrameBlind (va_Pc av (Wd O S)) := fun a U g mk q => ⟨q.1, q.2.calling g mk a⟩
section Calls9
variable {O : Om} {G : Cx} {D : FD} {k n : Nat} {Q : State → Prop} {S : Mem} {pc : Nat} {ls : List (Option AV)} {st st0 : List AV} {P : Option AV → Mem → Prop} {index fr lo : Nat} {dy : MD} {as : List AV}
theorem stV_app {a b : List AV} : stV O (a ++ b) = stV O a ++ stV O b := List.map_append
theorem stV_rev {a : List AV} : stV O a.reverse = (stV O a).reverse := List.map_reverse
theorem stV_opt (v : Option AV) : (v.map (toV O)).toList ++ stV O st = stV O (v.toList ++ st) := by
  cases v <;> rfl
theorem stV_len {a : List AV} : (stV O a).length = a.length := List.length_map ..
theorem rv {A : List AV} {q : Nat × Nat} (h : st0 = A.reverse ++ .inr q :: st) : stV O st0 = (stV O A).reverse ++ .ref (O.2.1 q.1 q.2) :: stV O st := by
  rw [h, stV_app, stV_rev]
  rfl
theorem rs {A : List AV} (h : st0 = A.reverse ++ st) : stV O st0 = (stV O A).reverse ++ stV O st := by
  rw [h, stV_app, stV_rev]
theorem a_callV (a b : Nat) {q : Nat × Nat} {ci N : Nat} {fs : List Value} {T : u_T} (hC : Cts dy fr lo (.inr q :: as) S P) (hT : IA D a b pc (.invokevirtual index) 3) (cw : CV D.1.1 index dy as.length) (hq : q.2 < cntK q.1) (he : ent O S q.1 q.2 = .inr (ci, fs)) (hc : vwCl[ci]? = some (dy.2.1.cls, T, N)) (hst : st0 = as.reverse ++ .inr q :: st) (hz : RmOk O D k n fr lo dy.2.2.2.1 0 0 st) (kk : ∀ v S', P v S' → BW O G D k n Q S' (pc + 3) ls (v.toList ++ st)) : BW O G D k n Q S pc ls st0 := by
  obtain ⟨p, l, e, R, s, m, args, below, meth, c⟩ := G
  intro hR F H locs la hP hS hL
  have hRe : R = rmO D.2.2.1 D.2.2.2.1 D.2.2.2.2.1 D.2.2.2.2.2 := hR
  obtain ⟨w1, w2, w3, w4, w5, w6, w7, w8⟩ := cw
  obtain ⟨z1, z2, z3, z4, z5⟩ := hz
  obtain ⟨q0, -, hq0⟩ := hP.get hq he
  have hM := hC l F.2.2.2.2.2.2.2.2.2.2.2.2.1 O
  have hG : GoodIn WSg (wsV D.1.1 index dy.2.1.cls dy.2.1 (.code dy.2.1 dy.2.2.1 dy.2.2.2.1 dy.2.2.2.2.1 :: WSg)) := wsg_GoodIn fun w hw => by
    simp only [wsV, List.mem_append, List.mem_cons, List.not_mem_nil, or_false] at hw
    rcases hw with (rfl | rfl | rfl | rfl) | rfl | hw <;> assumption
  have hcw := cwV (R := R) (mc := 0) (ms := 0) (rm := rmO fr lo 0 0) as.length F.2.2.2.2.1 hG rfl rfl rfl ⟨rfl, w6, w7, w8⟩ (by rw [hRe]; exact ⟨z1, z2⟩)
  refine run_done (va_runV (As := stV O as) (rest := stV O st) F.fix hM hcw ⟨blindW, va_recv F.2.2.2.2.2.2.2.2.1 hP hc hq0, fun U hU hW => ⟨rfl, F.Wd hP hS hU hW⟩⟩ rfl stV_len hL.1 (rv hst) (by show 2 * 0 + _ ≤ 8; omega) (F.dec hT) (by rw [hRe]; exact ⟨z4, z5⟩)) hS ?_
  intro v S' H1 locs1 hp hP1 hS1
  rw [stV_opt]
  exact kk v S' hp hR F H1 locs1 la hP1 hS1 hL
end Calls9
