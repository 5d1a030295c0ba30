/-! constructors: cells laid one behind the other; those still open, all others as they will be -/
def posK (k i : Nat) : Nat := match k with
  | 0 => if i = 4 then 11 else 44 + i
  | 1 => if i = 12 then 276 else 279 + i
  | 2 => 274
  | 3 => 1
  | 4 => 2
  | 5 => if i = 16 then 9 else 12 + 2 * i
  | 6 => if i = 20 then 253 else 254 + i
  | 7 => 251
  | 8 => 3
  | 9 => if i = 200 then 50 else 51 + i
  | 10 => 48
  | 11 => 0
  | 12 => 291
  | 13 => 7
  | 14 => 8
  | 15 => 49
  | 16 => 252
  | 17 => 275
  | 18 => 277
  | 19 => 278
  | 20 => 4
  | 21 => 5
  | 22 => 6
  | 23 => if i = 16 then 10 else 13 + 2 * i
  | k => 268 + k
set_option maxRecDepth 100000 in
theorem posK_nd : (prsK.map (fun q => posK q.1 q.2)).Nodup := by decide +kernel
set_option maxRecDepth 100000 in
theorem posK_all : ∀ q ∈ prsK, posK q.1 q.2 < 332 := by decide +kernel
theorem posK_inj {k i k' i' : Nat} (h : i < cntK k) (h' : i' < cntK k') (e : posK k i = posK k' i') : k = k' ∧ i = i' := by
  obtain ⟨a, ha⟩ := prsK_in h
  obtain ⟨b, hb⟩ := prsK_in h'
  have e1 : (prsK.map (fun q => posK q.1 q.2))[a]? = some (posK k i) := by rw [List.getElem?_map, ha]; rfl
  have e2 : (prsK.map (fun q => posK q.1 q.2))[b]? = some (posK k i) := by rw [List.getElem?_map, hb, e]; rfl
  have hl : a < (prsK.map (fun q => posK q.1 q.2)).length := (List.getElem?_eq_some_iff.mp e1).1
  have hab : a = b := (List.getElem?_inj hl posK_nd).mp (e1.trans e2.symm)
  subst hab
  have := Option.some.inj (ha.symm.trans hb)
  exact ⟨congrArg Prod.fst this, congrArg Prod.snd this⟩
theorem posK_lt {k i : Nat} (h : i < cntK k) : posK k i < 332 := by
  obtain ⟨a, ha⟩ := prsK_in h
  exact posK_all (k, i) (List.mem_of_getElem? ha)
/-- the memory at the start -/
def S0c : Col := fun k _ => if k = kBankOf ∨ k = kFirms then -1 else if k = kExpects ∨ k = kPrices ∨ k = kCapitalRule ∨ k = kReserveRule then nI 10 else if k = kLimits then nI 1000 else if k = kExchange then nI 100 else 0
def S0r : Col := fun k i => if k = kDrawn then -9 else S0c k i
def S0 : Mem := (S0c, S0r, 0)
/-- cells that are still open, and how many are laid -/
abbrev TC : Type := List (Nat × Nat × va_E) × Nat
abbrev kyC (q : Nat × Nat × va_E) : Nat × Nat := (q.1, q.2.1)
def AdO (O : Om) : Prop := ∀ k i, O.2.1 k i = O.1 + posK k i
def RepN (O : Om) (T : TC) (H : Heap) : Prop := H.size = O.1 + T.2 ∧ (T.1.map kyC).Nodup ∧ (∀ q ∈ T.1, q.2.1 < cntK q.1 ∧ posK q.1 q.2.1 < T.2 ∧ va_at O.2.2.1 vwCl (O.2.1 q.1 q.2.1, q.2.2) H) ∧ ∀ k i, i < cntK k → posK k i < T.2 → (k, i) ∉ T.1.map kyC → va_at O.2.2.1 vwCl (O.2.1 k i, ent O S0 k i) H
theorem RepN.rep {O : Om} {H : Heap} (h : RepN O ([], 332) H) : Rep O S0 H := by
  intro k q hq
  obtain ⟨a, b, h1, rfl⟩ := wsO_of hq
  have hb := prsK_of h1
  exact h.2.2.2 a b hb (posK_lt hb) (by simp)
theorem RepN.push {O : Om} {L : List (Nat × Nat × va_E)} {n k i : Nat} {e : va_E} {H H1 : Heap} (h : RepN O (L, n) H) (hA : AdO O) (hi : i < cntK k) (hp : posK k i = n) (z : H1.size = H.size + 1) (o : ∀ q : Nat, q < H.size → H1[q]? = H[q]?) (he : va_at O.2.2.1 vwCl (O.2.1 k i, e) H1) : RepN O ((k, i, e) :: L, n + 1) H1 := by
  obtain ⟨h1, h2, h3, h4⟩ := h
  have h1 : H.size = O.1 + n := h1
  have old : ∀ k' i', posK k' i' < n → H1[O.2.1 k' i']? = H[O.2.1 k' i']? := fun k' i' hk => o _ (by rw [hA, h1]; omega)
  refine ⟨by show H1.size = O.1 + (n + 1); omega, ?_, fun q hq => ?_, fun k' i' hi' hp' hn => ?_⟩
  · show ((k, i) :: L.map kyC).Nodup
    refine List.nodup_cons.mpr ⟨fun hm => ?_, h2⟩
    obtain ⟨q, hq, e1⟩ := List.mem_map.mp hm
    have := (h3 q hq).2.1
    have e2 : q.1 = k := congrArg Prod.fst e1
    have e3 : q.2.1 = i := congrArg Prod.snd e1
    rw [e2, e3, hp] at this
    exact Nat.lt_irrefl _ this
  · rcases List.mem_cons.mp hq with rfl | hq
    · exact ⟨hi, by show posK k i < n + 1; omega, he⟩
    · obtain ⟨g1, g2, g3⟩ := h3 q hq
      exact ⟨g1, by have g2 : posK q.1 q.2.1 < n := g2; show _ < n + 1; omega, g3.kept (old _ _ g2)⟩
  · have hp' : posK k' i' < n + 1 := hp'
    have hn' : (k', i') ∉ (k, i) :: L.map kyC := hn
    have hne : ¬ (k' = k ∧ i' = i) := fun q => hn' (by rw [q.1, q.2]; exact List.mem_cons_self)
    have hlt : posK k' i' < n := by
      rcases Nat.lt_or_ge (posK k' i') n with q | q
      · exact q
      · exact absurd (posK_inj hi' hi (by omega)) hne
    exact (h4 k' i' hi' hlt (fun hm => hn' (List.mem_cons_of_mem _ hm))).kept (old _ _ hlt)
theorem RepN.set {O : Om} {L : List (Nat × Nat × va_E)} {n k i t : Nat} {e e' : va_E} {H H1 : Heap} (h : RepN O (L, n) H) (hA : AdO O) (ht : L[t]? = some (k, i, e)) (z : H1.size = H.size) (o : ∀ q : Nat, q ≠ O.2.1 k i → H1[q]? = H[q]?) (he : va_at O.2.2.1 vwCl (O.2.1 k i, e') H1) : RepN O (L.set t (k, i, e'), n) H1 := by
  obtain ⟨h1, h2, h3, h4⟩ := h
  have h1 : H.size = O.1 + n := h1
  have hk : (L.set t (k, i, e')).map kyC = L.map kyC := by
    apply List.ext_getElem?
    intro j
    rw [List.getElem?_map, List.getElem?_map, List.getElem?_set]
    by_cases hj : t = j
    · subst hj
      rw [if_pos rfl, if_pos (List.getElem?_eq_some_iff.mp ht).1, ht]
      rfl
    · rw [if_neg hj]
  have hki := h3 _ (List.mem_of_getElem? ht)
  have adr : ∀ k' i', i' < cntK k' → ¬ (k' = k ∧ i' = i) → O.2.1 k' i' ≠ O.2.1 k i := fun k' i' hi' hne q => by
    rw [hA, hA] at q
    exact hne (posK_inj hi' hki.1 (by omega))
  refine ⟨by show H1.size = O.1 + n; omega, by show ((L.set t (k, i, e')).map kyC).Nodup; rw [hk]; exact h2, fun q hq => ?_, fun k' i' hi' hp' hn => ?_⟩
  · obtain ⟨j, hj⟩ := List.mem_iff_getElem?.mp hq
    rw [List.getElem?_set] at hj
    by_cases hjt : t = j
    · subst hjt
      rw [if_pos rfl, if_pos (List.getElem?_eq_some_iff.mp ht).1] at hj
      cases hj
      exact ⟨hki.1, hki.2.1, he⟩
    · rw [if_neg hjt] at hj
      obtain ⟨g1, g2, g3⟩ := h3 q (List.mem_of_getElem? hj)
      refine ⟨g1, g2, g3.kept (o _ (adr _ _ g1 (fun hq2 => hjt ?_)))⟩
      have e1 : (L.map kyC)[t]? = some (k, i) := by rw [List.getElem?_map, ht]; rfl
      have e2 : (L.map kyC)[j]? = some (k, i) := by
        rw [List.getElem?_map, hj]
        show some (q.1, q.2.1) = _
        rw [hq2.1, hq2.2]
      exact (List.getElem?_inj (List.getElem?_eq_some_iff.mp e1).1 h2).mp (e1.trans e2.symm)
  · have hn' : (k', i') ∉ L.map kyC := by rw [← hk]; exact hn
    have hne : ¬ (k' = k ∧ i' = i) := fun q => hn' (by rw [q.1, q.2]; exact List.mem_map.mpr ⟨_, List.mem_of_getElem? ht, rfl⟩)
    exact (h4 k' i' hi' hp' hn').kept (o _ (adr _ _ hi' hne))
theorem RepN.drop {O : Om} {L : List (Nat × Nat × va_E)} {n k i t : Nat} {e : va_E} {H : Heap} (h : RepN O (L, n) H) (ht : L[t]? = some (k, i, e)) (he : va_at O.2.2.1 vwCl (O.2.1 k i, e) H → va_at O.2.2.1 vwCl (O.2.1 k i, ent O S0 k i) H) : RepN O (L.eraseIdx t, n) H := by
  obtain ⟨h1, h2, h3, h4⟩ := h
  refine ⟨h1, h2.sublist ((List.eraseIdx_sublist L t).map _), fun q hq => h3 q (List.mem_of_mem_eraseIdx hq), fun k' i' hi' hp' hn => ?_⟩
  by_cases hne : k' = k ∧ i' = i
  · rw [hne.1, hne.2]
    exact he (h3 _ (List.mem_of_getElem? ht)).2.2
  · refine h4 k' i' hi' hp' (fun hm => hn ?_)
    obtain ⟨q, hq, e1⟩ := List.mem_map.mp hm
    obtain ⟨j, hj⟩ := List.mem_iff_getElem?.mp hq
    refine List.mem_map.mpr ⟨q, List.mem_eraseIdx_iff_getElem?.mpr ⟨j, fun hjt => hne ?_, hj⟩, e1⟩
    rw [hjt, ht] at hj
    cases hj
    exact ⟨(congrArg Prod.fst e1).symm, (congrArg Prod.snd e1).symm⟩
/-- the arrays of the class -/
def AF (U : State) : Prop := va_AO "Newsmint$Holder" U ∧ va_AO "Newsmint$Bank" U ∧ va_AO "Newsmint$Payment" U ∧ va_AO "Newsmint$Loan" U ∧ va_AO "Newsmint$Bid" U
theorem AF.moved {u U : State} (hvm : u.vm.Alike U.vm) (h : AF u) : AF U := ⟨h.1.moved hvm, h.2.1.moved hvm, h.2.2.1.moved hvm, h.2.2.2.1.moved hvm, h.2.2.2.2.moved hvm⟩
def FI (O : Om) (G : Cx) (D : FD) : Prop := Fx O G D.1 D.2.1 ∧ AdO O ∧ AF G.2.2.2.2.1 ∧ G.2.2.2.2.2.2.2.2.1.name = D.1.2.1.name
def CW (O : Om) (G : Cx) (D : FD) (k n : Nat) (Q : State → Prop) (T : TC) (pc : Nat) (ls : List (Option AV)) (st : List AV) : Prop := match G with
  | (p, l, e, R, s, m, args, below, meth, c) => R = rmO D.2.2.1 D.2.2.2.1 D.2.2.2.2.1 D.2.2.2.2.2 → FI O (p, l, e, R, s, m, args, below, meth, c) D → ∀ (H : Heap) (locs : List Loc) (la : Array Slot), RepN O T H → va_S (RgO O) s.heap H locs → LV O la D.1.2.2.2.1 ls → W p l e R s m args below meth c H locs k n Q (F0 m pc la (stV O st))
def WdI (O : Om) (T : TC) (U : State) : Prop := O.1 ≤ U.heap.size ∧ RepN O T U.heap ∧ va_K O.2.2.1 vwCl (tysO O) U ∧ ExF O U ∧ OmOk O ∧ AdO O ∧ AF U
theorem WdI.calling {O : Om} {T : TC} {U : State} (g : JFrame) (mk : MethodId) (a : Array Value) (h : WdI O T U) : WdI O T (U.calling g mk a) :=
  ⟨h.1, h.2.1, va_K.moved (u := U) (U := U.calling g mk a) (Vm.Alike.refl U.vm) h.2.2.1, h.2.2.2.1.calling g mk a, h.2.2.2.2.1, h.2.2.2.2.2.1, AF.moved (u := U) (U := U.calling g mk a) (Vm.Alike.refl U.vm) h.2.2.2.2.2.2⟩
theorem blindI {O : Om} {T : TC} {av : List Value} : FrameBlind (va_Pc av (WdI O T)) := fun a U g mk q => ⟨q.1, q.2.calling g mk a⟩
def PostI (O : Om) (T : TC) : Array Value → State → Outcome → State → Prop := fun _ st o t => (o = .returned none ∧ RepN O T t.heap) ∧ va_F (RgO O) st t
def QI (O : Om) (G : Cx) (kc ns : Nat) (T : TC) : State → Prop := match G with
  | (_, _, _, _, s, _, args, below, _, _) => MQ below (PostI O T) args s kc ns (RgO O)
def CI (l : Launch) (O : Om) (d : MD) (fr lo kc ns : Nat) (as : List AV) (T T' : TC) : Prop := Met l d.2.1 (.code d.2.1 d.2.2.1 d.2.2.2.1 d.2.2.2.2.1 :: WSg) (rmO fr lo kc ns) (va_Pc (stV O as) (WdI O T)) (PostI O T') kc ns (RgO O)
theorem CI.of {l : Launch} {O : Om} {d : MD} {fr lo kc ns : Nat} {as : List AV} {T T' : TC} (hl : l.stackTraces = false) (hd : MDok d) (hy : plainName d.2.1.cls = true) (hown : d.2.1.cls = d.1) (hc : ∀ v ∈ stV O as, v.category = 1) (hn : as.length ≤ d.2.2.2.1)
    (body : ∀ G : Cx, CW O G (d, [], (fr, lo, kc, ns)) 0 0 (QI O G kc ns T') T 0 (as.map some) []) : CI l O d fr lo kc ns as T T' := by
  refine Met.ofW (cc := d.2.2.1) (maxL := d.2.2.2.1) (ret := d.2.2.2.2.1) hy rfl ?_
  intro p e s m args below meth c s₁ B hml hv
  obtain ⟨rfl, hsz, hP, hK, hE, hO, hA, hAF⟩ := hv
  have hts := atoms_spec (ws := .code d.2.1 d.2.2.1 d.2.2.2.1 d.2.2.2.2.1 :: WSg) B.pre
  have hfc : s.vm.findClass d.1 = some m.cls := by rw [← hown]; exact findClass_of_methodNamed B.named
  have key := body (p, l, e, (headSpec (.code d.2.1 d.2.2.1 d.2.2.2.1 d.2.2.2.2.1 :: WSg) (rmO fr lo kc ns)).room, s, m, (stV O as).toArray, below, meth, c) rfl
  have hF : Fx O (p, l, e, (headSpec (.code d.2.1 d.2.2.1 d.2.2.2.1 d.2.2.2.2.1 :: WSg) (rmO fr lo kc ns)).room, s, m, (stV O as).toArray, below, meth, c) d [] :=
    ⟨B.exec, B.bytes, hml, hfc, fun w hw => hts w (List.mem_cons_of_mem _ hw), B.returns, B.notSynchronized, hd, hK, hE, hO, hsz, hl, by
      obtain ⟨meth9, c9, h1, h2, -, -, -, -, h7, -⟩ := Cond.code_spec B.named (hts _ List.mem_cons_self)
      cases Option.some.inj (h1.symm.trans B.method)
      cases Option.some.inj (h2.symm.trans (Stand.of_body B).code)
      rw [Array.isEmpty_iff.mp h7]
      rfl⟩
  have hL := LV.entry (O := O) (as := as) (nL := d.2.2.2.1) hc hn
  rw [lg_entry_eq]
  exact key ⟨hF, hA, hAF, (name_of_methodNamed B.named B.method).1⟩ s.heap [] _ hP va_S.rf hL
