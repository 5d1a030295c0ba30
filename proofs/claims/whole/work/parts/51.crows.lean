/-! constructors: an instruction, a row -/
theorem e_iconst {O : Om} {G : Cx} {D : FD} {k n : Nat} {Q : State → Prop} {S : TC} {pc : Nat} {ls : List (Option AV)} {st : List AV} (a b : Nat) {z : Int} {v : Int32} (hT : IA D a b pc (.iconst z) 1) (hv : Int32.ofInt z = v) (kk : CW O G D k n Q S (pc + 1) ls (vi v :: st)) : CW O G D k n Q S pc ls st := by
  obtain ⟨p, l, e, R, s, m, args, below, meth, c⟩ := G
  intro hR FF H locs la hP hS hL
  have F := FF.1
  exact lv_iconst F.1 F.2.1 (F.dec hT) hv (kk hR FF H locs la hP hS hL)
theorem e_bipush {O : Om} {G : Cx} {D : FD} {k n : Nat} {Q : State → Prop} {S : TC} {pc : Nat} {ls : List (Option AV)} {st : List AV} (a b : Nat) {z : Int} {v : Int32} (hT : IA D a b pc (.bipush z) 2) (hv : (Int8.ofInt z).toInt32 = v) (kk : CW O G D k n Q S (pc + 2) ls (vi v :: st)) : CW O G D k n Q S pc ls st := by
  obtain ⟨p, l, e, R, s, m, args, below, meth, c⟩ := G
  intro hR FF H locs la hP hS hL
  have F := FF.1
  exact lv_bipush F.1 F.2.1 (F.dec hT) hv (kk hR FF H locs la hP hS hL)
theorem e_sipush {O : Om} {G : Cx} {D : FD} {k n : Nat} {Q : State → Prop} {S : TC} {pc : Nat} {ls : List (Option AV)} {st : List AV} (a b : Nat) {z : Int} {v : Int32} (hT : IA D a b pc (.sipush z) 3) (hv : (Int16.ofInt z).toInt32 = v) (kk : CW O G D k n Q S (pc + 3) ls (vi v :: st)) : CW O G D k n Q S pc ls st := by
  obtain ⟨p, l, e, R, s, m, args, below, meth, c⟩ := G
  intro hR FF H locs la hP hS hL
  have F := FF.1
  exact lv_sipush F.1 F.2.1 (F.dec hT) hv (kk hR FF H locs la hP hS hL)
theorem e_dup {O : Om} {G : Cx} {D : FD} {k n : Nat} {Q : State → Prop} {S : TC} {pc : Nat} {ls : List (Option AV)} {st : List AV} (a b : Nat) {v : AV} (hT : IA D a b pc .dup 1) (hc : (toV O v).category = 1) (kk : CW O G D k n Q S (pc + 1) ls (v :: v :: st)) : CW O G D k n Q S pc ls (v :: st) := by
  obtain ⟨p, l, e, R, s, m, args, below, meth, c⟩ := G
  intro hR FF H locs la hP hS hL
  have F := FF.1
  exact lv_dup F.1 F.2.1 (F.dec hT) hc (kk hR FF H locs la hP hS hL)
theorem e_iload_n {O : Om} {G : Cx} {D : FD} {k n : Nat} {Q : State → Prop} {S : TC} {pc : Nat} {ls : List (Option AV)} {st : List AV} (a b : Nat) {f : Fin 4} {x : Int32} (hT : IA D a b pc (.iload_n f) 1) (hl : ls[(f : Nat)]? = some (some (vi x))) (kk : CW O G D k n Q S (pc + 1) ls (vi x :: st)) : CW O G D k n Q S pc ls st := by
  obtain ⟨p, l, e, R, s, m, args, below, meth, c⟩ := G
  intro hR FF H locs la hP hS hL
  have F := FF.1
  exact lv_iload_n F.1 F.2.1 (F.dec hT) rfl (hL.get hl) (kk hR FF H locs la hP hS hL)
theorem e_iload {O : Om} {G : Cx} {D : FD} {k n : Nat} {Q : State → Prop} {S : TC} {pc : Nat} {ls : List (Option AV)} {st : List AV} (a b : Nat) {i : Nat} {x : Int32} (hT : IA D a b pc (.iload i) 2) (hl : ls[i]? = some (some (vi x))) (kk : CW O G D k n Q S (pc + 2) ls (vi x :: st)) : CW O G D k n Q S pc ls st := by
  obtain ⟨p, l, e, R, s, m, args, below, meth, c⟩ := G
  intro hR FF H locs la hP hS hL
  have F := FF.1
  exact lv_iload F.1 F.2.1 (F.dec hT) (hL.get hl) (kk hR FF H locs la hP hS hL)
theorem e_aload_n {O : Om} {G : Cx} {D : FD} {k n : Nat} {Q : State → Prop} {S : TC} {pc : Nat} {ls : List (Option AV)} {st : List AV} (a b : Nat) {f : Fin 4} {q : Nat × Nat} (hT : IA D a b pc (.aload_n f) 1) (hl : ls[(f : Nat)]? = some (some (.inr q))) (kk : CW O G D k n Q S (pc + 1) ls (.inr q :: st)) : CW O G D k n Q S pc ls st := by
  obtain ⟨p, l, e, R, s, m, args, below, meth, c⟩ := G
  intro hR FF H locs la hP hS hL
  have F := FF.1
  exact lv_aload_n F.1 F.2.1 (F.dec hT) rfl (hL.get hl) (kk hR FF H locs la hP hS hL)
theorem e_istore_n {O : Om} {G : Cx} {D : FD} {k n : Nat} {Q : State → Prop} {S : TC} {pc : Nat} {ls : List (Option AV)} {st : List AV} (a b : Nat) {f : Fin 4} {i : Nat} {x : Int32} {ls2 : List (Option AV)} (hT : IA D a b pc (.istore_n f) 1) (hf : (f : Nat) = i) (hn : i < D.1.2.2.2.1) (hl : ls.set i (some (vi x)) = ls2) (kk : CW O G D k n Q S (pc + 1) ls2 st) : CW O G D k n Q S pc ls ((vi x) :: st) := by
  obtain ⟨p, l, e, R, s, m, args, below, meth, c⟩ := G
  intro hR FF H locs la hP hS hL
  have F := FF.1
  subst hl
  exact lv_istore_n F.1 F.2.1 (F.dec hT) hf hL.kit hn rfl (fun la2 h2 => kk hR FF H locs la2 hP hS (hL.store rfl h2))
theorem e_istore {O : Om} {G : Cx} {D : FD} {k n : Nat} {Q : State → Prop} {S : TC} {pc : Nat} {ls : List (Option AV)} {st : List AV} (a b : Nat) {i : Nat} {x : Int32} {ls2 : List (Option AV)} (hT : IA D a b pc (.istore i) 2) (hn : i < D.1.2.2.2.1) (hl : ls.set i (some (vi x)) = ls2) (kk : CW O G D k n Q S (pc + 2) ls2 st) : CW O G D k n Q S pc ls ((vi x) :: st) := by
  obtain ⟨p, l, e, R, s, m, args, below, meth, c⟩ := G
  intro hR FF H locs la hP hS hL
  have F := FF.1
  subst hl
  exact lv_istore F.1 F.2.1 (F.dec hT) hL.kit hn rfl (fun la2 h2 => kk hR FF H locs la2 hP hS (hL.store rfl h2))
theorem e_astore_n {O : Om} {G : Cx} {D : FD} {k n : Nat} {Q : State → Prop} {S : TC} {pc : Nat} {ls : List (Option AV)} {st : List AV} (a b : Nat) {f : Fin 4} {i : Nat} {q : Nat × Nat} {ls2 : List (Option AV)} (hT : IA D a b pc (.astore_n f) 1) (hf : (f : Nat) = i) (hn : i < D.1.2.2.2.1) (hl : ls.set i (some (.inr q)) = ls2) (kk : CW O G D k n Q S (pc + 1) ls2 st) : CW O G D k n Q S pc ls ((.inr q) :: st) := by
  obtain ⟨p, l, e, R, s, m, args, below, meth, c⟩ := G
  intro hR FF H locs la hP hS hL
  have F := FF.1
  subst hl
  exact lv_astore_n F.1 F.2.1 (F.dec hT) hf hL.kit hn rfl (fun la2 h2 => kk hR FF H locs la2 hP hS (hL.store rfl h2))
theorem e_iinc {O : Om} {G : Cx} {D : FD} {k n : Nat} {Q : State → Prop} {S : TC} {pc : Nat} {ls : List (Option AV)} {st : List AV} (a b : Nat) {i : Nat} {z : Int} {x v : Int32} {ls2 : List (Option AV)} (hT : IA D a b pc (.iinc i z) 3) (hl : ls[i]? = some (some (vi x))) (hv : x + Int32.ofInt z = v) (hn : i < D.1.2.2.2.1) (hl2 : ls.set i (some (vi v)) = ls2) (kk : CW O G D k n Q S (pc + 3) ls2 st) : CW O G D k n Q S pc ls st := by
  obtain ⟨p, l, e, R, s, m, args, below, meth, c⟩ := G
  intro hR FF H locs la hP hS hL
  have F := FF.1
  subst hl2
  obtain ⟨j, hj⟩ := List.mem_iff_getElem?.mp ((lvL_in (O := O) (ls := ls) (q := (i, .int x))).mpr ⟨vi x, hl, rfl⟩)
  exact lv_iinc F.1 F.2.1 (F.dec hT) hL.kit hj hv hn rfl (fun la2 h2 => kk hR FF H locs la2 hP hS (hL.store (v := vi v) rfl h2))
theorem e_goto {O : Om} {G : Cx} {D : FD} {k n : Nat} {Q : State → Prop} {S : TC} {pc : Nat} {ls : List (Option AV)} {st : List AV} (a b : Nat) {off : Int} {tgt : Nat} (hT : IA D a b pc (.goto off) 3) (ht : (pc : Int) + off = (tgt : Int)) (kk : CW O G D k n Q S tgt ls st) : CW O G D k n Q S pc ls st := by
  obtain ⟨p, l, e, R, s, m, args, below, meth, c⟩ := G
  intro hR FF H locs la hP hS hL
  have F := FF.1
  exact lv_goto F.1 F.2.1 (F.dec hT) ht (kk hR FF H locs la hP hS hL)
theorem e_icmp_ge_t {O : Om} {G : Cx} {D : FD} {k n : Nat} {Q : State → Prop} {S : TC} {pc : Nat} {ls : List (Option AV)} {st : List AV} (a b : Nat) {x y : Int32} {off : Int} {tgt : Nat} (hT : IA D a b pc (.if_icmp .ge off) 3) (ht : (pc : Int) + off = (tgt : Int)) (hc : y ≤ x) (kk : CW O G D k n Q S tgt ls st) : CW O G D k n Q S pc ls (vi y :: vi x :: st) := by
  obtain ⟨p, l, e, R, s, m, args, below, meth, c⟩ := G
  intro hR FF H locs la hP hS hL
  have F := FF.1
  exact lv_icmp_ge F.1 F.2.1 (F.dec hT) ht (fun _ => kk hR FF H locs la hP hS hL) (fun q => absurd hc q)
theorem e_icmp_ge_f {O : Om} {G : Cx} {D : FD} {k n : Nat} {Q : State → Prop} {S : TC} {pc : Nat} {ls : List (Option AV)} {st : List AV} (a b : Nat) {x y : Int32} {off : Int} (hT : IA D a b pc (.if_icmp .ge off) 3) (hc : ¬ y ≤ x) {tgt : Nat} (ht : (pc : Int) + off = (tgt : Int)) (kk : CW O G D k n Q S (pc + 3) ls st) : CW O G D k n Q S pc ls (vi y :: vi x :: st) := by
  obtain ⟨p, l, e, R, s, m, args, below, meth, c⟩ := G
  intro hR FF H locs la hP hS hL
  have F := FF.1
  exact lv_icmp_ge F.1 F.2.1 (F.dec hT) ht (fun q => absurd q hc) (fun _ => kk hR FF H locs la hP hS hL)
theorem arrV_congr {cA : ClassId} {N : Nat} {f g : Nat → Value} (h : ∀ j, j < N → f j = g j) : arrV cA N f = arrV cA N g := by
  unfold arrV
  congr 1
  apply Array.ext
  · simp
  · intro i h1 h2
    have hi : i < N := by simpa using h1
    simp only [Array.getElem_ofFn]
    exact h i hi
section CRows
variable {O : Om} {G : Cx} {D : FD} {k n : Nat} {Q : State → Prop} {L : List (Nat × Nat × va_E)} {x pc : Nat} {ls : List (Option AV)} {st : List AV}
theorem e_widen {T : TC} {k' n' : Nat} (h1 : k ≤ k') (h2 : n ≤ n') (kk : CW O G D k' n' Q T pc ls st) : CW O G D k n Q T pc ls st := by
  obtain ⟨p, l, e, R, s, m, args, below, meth, c⟩ := G
  intro hR F H locs la hP hS hL
  exact W.widen h1 h2 (kk hR F H locs la hP hS hL)
theorem e_drop {kd i : Nat} {e : va_E} (t : Nat) {L' : List (Nat × Nat × va_E)} (ht : L[t]? = some (kd, i, e)) (he : ∀ H : Heap, va_at O.2.2.1 vwCl (O.2.1 kd i, e) H → va_at O.2.2.1 vwCl (O.2.1 kd i, ent O S0 kd i) H) (hL' : L.eraseIdx t = L') (kk : CW O G D k n Q (L', x) pc ls st) : CW O G D k n Q (L, x) pc ls st := by
  obtain ⟨p, l, e, R, s, m, args, below, meth, c⟩ := G
  intro hR F H locs la hP hS hL
  subst hL'
  exact kk hR F H locs la (hP.drop ht (he H)) hS hL
theorem e_drop0 {kd i : Nat} {e : va_E} (he : e = ent O S0 kd i) (kk : CW O G D k n Q (L, x) pc ls st) : CW O G D k n Q ((kd, i, e) :: L, x) pc ls st :=
  e_drop (kd := kd) (i := i) (e := e) 0 rfl (fun H h => by rw [← he]; exact h) rfl kk
theorem e_new (a b : Nat) {index ci N kd i : Nat} {C : String} {T : u_T} {fs : List Value} (hT : IA D a b pc (.new index) 3) (hi : i < cntK kd) (hp : posK kd i = x) (hc : vwCl[ci]? = some (C, T, N)) (hin : ∀ w ∈ u_ws C T N, w ∈ WSg) (ty : Nat → FieldType) (hty : ∀ k, k < N → parseFieldDescriptor (T k).2.2.1 = some (ty k)) (hw : Cond.classLink D.1.1 index C ∈ WSg ∧ Cond.instantiable C N ∈ WSg ∧ Cond.initialized C ∈ WSg) (hfs : ∀ j, j < N → defaultValue (ty j) = vp_V fs j) (hz : k + 1 ≤ D.2.2.2.2.1 ∧ n + N ≤ D.2.2.2.2.2) (kk : CW O G D (k + 1) (n + N) Q ((kd, i, .inr (ci, fs)) :: L, x + 1) (pc + 3) ls (vr kd i :: st)) : CW O G D k n Q (L, x) pc ls st := by
  obtain ⟨p, l, e, R, s, m, args, below, meth, c⟩ := G
  intro hR FF H locs la hP hS hL
  have F := FF.1
  obtain ⟨w1, w2, w3⟩ := hw
  have hRe : R = rmO D.2.2.1 D.2.2.2.1 D.2.2.2.2.1 D.2.2.2.2.2 := hR
  have hKn := F.2.2.2.2.2.2.2.2.1.1 ci _ hc
  have hsz : H.size = O.1 + x := hP.1
  have had : O.2.1 kd i = H.size := by rw [FF.2.1, hp, hsz]
  refine W.newcK (cc := D.1.2.2.1) F.1 F.2.1 F.2.2.2.1 (F.2.2.2.2.1 _ w1) (F.2.2.2.2.1 _ w2) (F.2.2.2.2.1 _ w3) rfl (F.dec hT) (by rw [hRe]; exact hz.1) (by rw [hRe]; exact hz.2) hKn.2.1 rfl fun H1 kC hkC e1 z1 o1 => ?_
  have hat : va_at O.2.2.1 vwCl (O.2.1 kd i, .inr (ci, fs)) H1 := by
    rw [had]
    exact ⟨_, hc, (u_born ty F.2.2.2.2.1 hin hKn hkC e1 hty).to hfs⟩
  have key := kk hR FF H1 locs la (hP.push FF.2.1 hi hp z1 o1 hat) ⟨Nat.le_trans hS.1 (by omega), fun y h1 h2 => (o1 y (Nat.lt_of_lt_of_le h1 hS.1)).trans (hS.2.1 y h1 h2), hS.2.2⟩ hL
  show W p l e R s m args below meth c H1 locs (k + 1) (n + N) Q (F0 m (pc + 3) la (.ref H.size :: stV O st))
  rw [← had]
  exact key
theorem e_newa (a b : Nat) {atype : ArrayType} {ty : FieldType} {kd i t0 N : Nat} {f : Nat → Int32} {z : Int32} (hT : IA D a b pc (.newarray atype) 2) (hty : newarray.typeOf atype = ty) (hpr : ty = .int ∨ ty = .boolean) (hi : i < cntK kd) (hp : posK kd i = x) (ht : (tysO O)[t0]? = some (O.2.2.2 t0, ty)) (hw : Cond.arrayClass ty ∈ WSg) (hf : ∀ j, j < N → f j = 0) (hN : z = nI N) (hN2 : N < 1000) (hz : k + 1 ≤ D.2.2.2.2.1 ∧ n + N ≤ D.2.2.2.2.2) (kk : CW O G D (k + 1) (n + N) Q ((kd, i, .inl (O.2.2.2 t0, N, .inl f)) :: L, x + 1) (pc + 2) ls (vr kd i :: st)) : CW O G D k n Q (L, x) pc ls (vi z :: st) := by
  obtain ⟨p, l, e, R, s, m, args, below, meth, c⟩ := G
  intro hR FF H locs la hP hS hL
  have F := FF.1
  subst hty
  subst hN
  have hRe : R = rmO D.2.2.1 D.2.2.2.1 D.2.2.2.2.1 D.2.2.2.2.2 := hR
  have hKt := F.2.2.2.2.2.2.2.2.1.2 t0 _ ht
  have hsz : H.size = O.1 + x := hP.1
  have had : O.2.1 kd i = H.size := by rw [FF.2.1, hp, hsz]
  have hcb : N * componentBytes (newarray.typeOf atype) ≤ 536870912 := by
    rcases hpr with q | q <;> rw [q] <;> (simp only [componentBytes]; omega)
  refine va_newaK F.1 F.2.1 (atype := atype) (N := N) (F.2.2.2.2.1 _ hw) rfl (F.dec hT) rfl (nI_pos (by omega)) (nI_clamp (by omega)) hcb (by rw [hRe]; exact hz.1) (by rw [hRe]; exact hz.2) rfl fun H1 cA e1 z1 o1 hAr hNm => ?_
  have hcA : cA = O.2.2.2 t0 := by
    have h2 : s.vm.findClass ("[" ++ (newarray.typeOf atype).toString) = some (O.2.2.2 t0) := by
      have h3 := hKt.2
      rcases hpr with q | q <;> (rw [q] at h3 ⊢; exact h3)
    exact Option.some.inj (hNm.symm.trans h2)
  subst hcA
  have hat : va_at O.2.2.1 vwCl (O.2.1 kd i, .inl (O.2.2.2 t0, N, .inl f)) H1 := by
    rw [had]
    show H1[H.size]? = some (vp_cell _ _)
    rw [e1, vp_cell_i]
    congr 1
    refine arrV_congr fun j hj => ?_
    rw [hf j hj]
    rcases hpr with q | q <;> rw [q] <;> rfl
  have key := kk hR FF H1 locs la (hP.push FF.2.1 hi hp z1 o1 hat) ⟨Nat.le_trans hS.1 (by omega), fun y h1 h2 => (o1 y (Nat.lt_of_lt_of_le h1 hS.1)).trans (hS.2.1 y h1 h2), hS.2.2⟩ hL
  show W p l e R s m args below meth c H1 locs (k + 1) (n + N) Q (F0 m (pc + 2) la (.ref H.size :: stV O st))
  rw [← had]
  exact key
theorem e_newl (a b : Nat) {kd i N : Nat} {f : Nat → Int64} {z : Int32} (hT : IA D a b pc (.newarray .long) 2) (hi : i < cntK kd) (hp : posK kd i = x) (hw : Cond.arrayClass .long ∈ WSg) (hf : ∀ j, j < N → f j = 0) (hN : z = nI N) (hN2 : N < 1000) (hz : k + 1 ≤ D.2.2.2.2.1 ∧ n + N ≤ D.2.2.2.2.2) (kk : CW O G D (k + 1) (n + N) Q ((kd, i, .inl (O.2.2.2 2, N, .inr (.inl f))) :: L, x + 1) (pc + 2) ls (vr kd i :: st)) : CW O G D k n Q (L, x) pc ls (vi z :: st) := by
  obtain ⟨p, l, e, R, s, m, args, below, meth, c⟩ := G
  intro hR FF H locs la hP hS hL
  have F := FF.1
  subst hN
  have hRe : R = rmO D.2.2.1 D.2.2.2.1 D.2.2.2.2.1 D.2.2.2.2.2 := hR
  have hKt := F.2.2.2.2.2.2.2.2.1.2 2 (O.2.2.2 2, .long) rfl
  have hsz : H.size = O.1 + x := hP.1
  have had : O.2.1 kd i = H.size := by rw [FF.2.1, hp, hsz]
  have hcb : N * componentBytes (newarray.typeOf .long) ≤ 536870912 := by
    show N * componentBytes .long ≤ _
    simp only [componentBytes]
    omega
  refine va_newaK F.1 F.2.1 (atype := .long) (N := N) (F.2.2.2.2.1 _ hw) rfl (F.dec hT) rfl (nI_pos (by omega)) (nI_clamp (by omega)) hcb (by rw [hRe]; exact hz.1) (by rw [hRe]; exact hz.2) rfl fun H1 cA e1 z1 o1 hAr hNm => ?_
  have hcA : cA = O.2.2.2 2 := Option.some.inj (hNm.symm.trans hKt.2)
  subst hcA
  have hat : va_at O.2.2.1 vwCl (O.2.1 kd i, .inl (O.2.2.2 2, N, .inr (.inl f))) H1 := by
    rw [had]
    show H1[H.size]? = some (vp_cell _ _)
    rw [e1, show vp_cell (O.2.2.2 2) (N, .inr (.inl f)) = arrV (O.2.2.2 2) N (fun j => .long (f j)) from rfl]
    congr 1
    refine arrV_congr fun j hj => ?_
    rw [hf j hj]
    rfl
  have key := kk hR FF H1 locs la (hP.push FF.2.1 hi hp z1 o1 hat) ⟨Nat.le_trans hS.1 (by omega), fun y h1 h2 => (o1 y (Nat.lt_of_lt_of_le h1 hS.1)).trans (hS.2.1 y h1 h2), hS.2.2⟩ hL
  show W p l e R s m args below meth c H1 locs (k + 1) (n + N) Q (F0 m (pc + 2) la (.ref H.size :: stV O st))
  rw [← had]
  exact key
theorem e_newq (a b : Nat) {index : Nat} {C : String} {kd i t0 N : Nat} {f : Nat → Option Nat} {z : Int32} (hT : IA D a b pc (.anewarray index) 3) (hi : i < cntK kd) (hp : posK kd i = x) (ht : (tysO O)[t0]? = some (O.2.2.2 t0, .object C)) (hw : Cond.classLink D.1.1 index C ∈ WSg) (hAO : AF G.2.2.2.2.1 → va_AO C G.2.2.2.2.1) (hf : ∀ j, j < N → f j = none) (hN : z = nI N) (hN2 : N < 1000) (hz : k + 1 ≤ D.2.2.2.2.1 ∧ n + N ≤ D.2.2.2.2.2) (kk : CW O G D (k + 1) (n + N) Q ((kd, i, .inl (O.2.2.2 t0, N, .inr (.inr (.inr (.inr f))))) :: L, x + 1) (pc + 3) ls (vr kd i :: st)) : CW O G D k n Q (L, x) pc ls (vi z :: st) := by
  obtain ⟨p, l, e, R, s, m, args, below, meth, c⟩ := G
  intro hR FF H locs la hP hS hL
  have F := FF.1
  subst hN
  have hRe : R = rmO D.2.2.1 D.2.2.2.1 D.2.2.2.2.1 D.2.2.2.2.2 := hR
  obtain ⟨kA0, comp0, -, -, -, hnm⟩ := (F.2.2.2.2.2.2.2.2.1.2 t0 _ ht).2
  have hsz : H.size = O.1 + x := hP.1
  have had : O.2.1 kd i = H.size := by rw [FF.2.1, hp, hsz]
  have hcl : (nI N).toNatClampNeg = N := nI_clamp (by omega)
  refine W.anew F.1 F.2.1 F.2.2.2.1 (F.2.2.2.2.1 _ hw) (va_AO.use (hAO FF.2.2.1)) rfl (F.dec hT) rfl (nI_pos (by omega)) (by rw [hcl]; omega) (by rw [hRe]; exact hz.1) (by rw [hRe, hcl]; exact hz.2) fun cA kA comp f1 f2 f3 f4 => ?_
  rw [hcl]
  have hcA : cA = O.2.2.2 t0 := Option.some.inj (f1.symm.trans hnm)
  subst hcA
  generalize hH1 : H.push ({ cls := O.2.2.2 t0, slots := Array.replicate N .null, vm := .none } : Cell) = H1
  have z1 : H1.size = H.size + 1 := by rw [← hH1, Array.size_push]
  have e1 : H1[H.size]? = some (arrV (O.2.2.2 t0) N (fun _ => .null)) := by rw [← hH1, Array.getElem?_push_size, ← arrV_new]
  have o1 : ∀ q : Nat, q < H.size → H1[q]? = H[q]? := fun q hq => by rw [← hH1, Array.getElem?_push, if_neg (Nat.ne_of_lt hq)]
  have hat : va_at O.2.2.1 vwCl (O.2.1 kd i, .inl (O.2.2.2 t0, N, .inr (.inr (.inr (.inr f))))) H1 := by
    rw [had]
    show H1[H.size]? = some (vp_cell _ _)
    rw [e1, vp_cell_q]
    congr 1
    refine arrV_congr fun j hj => ?_
    rw [hf j hj]
    rfl
  have key := kk hR FF H1 locs la (hP.push FF.2.1 hi hp z1 o1 hat) ⟨Nat.le_trans hS.1 (by omega), fun y h1 h2 => (o1 y (Nat.lt_of_lt_of_le h1 hS.1)).trans (hS.2.1 y h1 h2), hS.2.2⟩ hL
  show W p l e R s m args below meth c H1 locs (k + 1) (n + N) Q (F0 m (pc + 3) la (.ref H.size :: stV O st))
  rw [← had]
  exact key
/-- one cell of the open ones, as the kit lists it -/
theorem RepN.one {H : Heap} {T : TC} {t kd i : Nat} {e : va_E} (h : RepN O T H) (ht : T.1[t]? = some (kd, i, e)) : va_P O.2.2.1 vwCl [(O.2.1 kd i, e)] H := by
  intro j q hj
  match j, hj with
  | 0, hj =>
    cases hj
    exact (h.2.2.1 _ (List.mem_of_getElem? ht)).2.2
  | j + 1, hj => simp at hj
theorem e_get (a b : Nat) {index kd i ci N j : Nat} {C : String} {T : u_T} {fs : List Value} {v : AV} (t : Nat) (hT : IA D a b pc (.getfield index) 3) (ht : L[t]? = some (kd, i, .inr (ci, fs))) (hc : vwCl[ci]? = some (C, T, N)) (hin : ∀ w ∈ u_ws C T N, w ∈ WSg) (hj : j < N) (hl : Cond.fieldLink D.1.1 index C (T j).2.1 (T j).2.2.1 ∈ WSg) (hdecl : (T j).1 = C) (hv : fs[j]? = some (toV O v)) (kk : CW O G D k n Q (L, x) (pc + 3) ls (v :: st)) : CW O G D k n Q (L, x) pc ls (vr kd i :: st) := by
  obtain ⟨p, l, e, R, s, m, args, below, meth, c⟩ := G
  intro hR FF H locs la hP hS hL
  have F := FF.1
  exact va_get F.1 F.2.1 F.2.2.2.2.1 hin F.2.2.2.1 F.2.2.2.2.2.2.2.2.1 (hP.one (T := (L, x)) ht) 0 rfl hc j hj (F.2.2.2.2.1 _ hl) (fun x hx => by rw [hdecl] at hx; exact hx) hv (F.dec hT) (kk hR FF H locs la hP hS hL)
theorem e_alen (a b : Nat) {kd i N t0 : Nat} {f : (Nat → Int32) ⊕ (Nat → Int64) ⊕ (Nat → UInt32) ⊕ (Nat → UInt64) ⊕ (Nat → Option Nat)} {ty : FieldType} (t : Nat) (hT : IA D a b pc .arraylength 1) (ht : L[t]? = some (kd, i, .inl (O.2.2.2 t0, N, f))) (hty : (tysO O)[t0]? = some (O.2.2.2 t0, ty)) (kk : CW O G D k n Q (L, x) (pc + 1) ls (vi (nI N) :: st)) : CW O G D k n Q (L, x) pc ls (vr kd i :: st) := by
  obtain ⟨p, l, e, R, s, m, args, below, meth, c⟩ := G
  intro hR FF H locs la hP hS hL
  have F := FF.1
  exact va_alen F.1 F.2.1 F.2.2.2.2.2.2.2.2.1 (hP.one (T := (L, x)) ht) 0 t0 rfl hty rfl (F.dec hT) (kk hR FF H locs la hP hS hL)
theorem va_S.putO {H0 H H1 : Heap} {locs : List Loc} {a j : Nat} (h : va_S (RgO O) H0 H locs) (z : H1.size = H.size) (oq : ∀ q : Nat, q ≠ a → H1[q]? = H[q]?) (ha : O.1 ≤ a) : va_S (RgO O) H0 H1 (locs ++ [⟨a, j⟩]) := h.put z oq ha
theorem e_put (a b : Nat) {index kd i ci N j : Nat} {C : String} {T : u_T} {fs : List Value} {v : AV} {ty : FieldType} {L' : List (Nat × Nat × va_E)} (t : Nat) (hT : IA D a b pc (.putfield index) 3) (ht : L[t]? = some (kd, i, .inr (ci, fs))) (hc : vwCl[ci]? = some (C, T, N)) (hin : ∀ w ∈ u_ws C T N, w ∈ WSg) (ty0 : Nat → FieldType) (hty : ∀ k, k < N → parseFieldDescriptor (T k).2.2.1 = some (ty0 k)) (hnm : ∀ a, a < N → ∀ b, b < N → a ≠ b → (T a).2.1 ≠ (T b).2.1) (hj : j < N) (hl : Cond.fieldLink D.1.1 index C (T j).2.1 (T j).2.2.1 ∈ WSg) (hdecl : (T j).1 = C) (hfin : (T j).2.2.2 = false) (hd : parseFieldDescriptor (T j).2.2.1 = some ty) (hn : narrow ty (toV O v) = toV O v) (hfit : fits ty (toV O v) = true) (hlen : j < fs.length) (hL' : L.set t (kd, i, .inr (ci, fs.set j (toV O v))) = L') (kk : CW O G D k n Q (L', x) (pc + 3) ls st) : CW O G D k n Q (L, x) pc ls (v :: vr kd i :: st) := by
  obtain ⟨p, l, e, R, s, m, args, below, meth, c⟩ := G
  intro hR FF H locs la hP hS hL
  have F := FF.1
  subst hL'
  have hts := F.2.2.2.2.1
  have hK := F.2.2.2.2.2.2.2.2.1
  have hap := va_apart (own := D.1.1) hts hin ty0 hty hnm hK hc
  obtain ⟨hi0, -, r, h1, cell, q1, q2, q3, q4⟩ := hP.2.2.1 _ (List.mem_of_getElem? ht)
  have hr : r = (C, T, N) := Option.some.inj (h1.symm.trans hc)
  subst hr
  obtain ⟨hS2, hfc, kC, hkC, hkind⟩ := hK.1 ci _ hc
  obtain ⟨cf, kf, fi, f, hi, hsl⟩ := hS2 j hj
  have hlay := hts _ (hin _ (u_in_lay hj))
  unfold u_lay at hlay
  rw [if_neg (by rw [hfin]; decide)] at hlay
  have hst := (u_facts hfc hkC (u_lays hts hin hj) hi).1
  have h6 := u_store hfc hkC hkind hlay hi hd hn hfit
  refine W.putK F.1 F.2.1 (f := f) ⟨F.2.2.2.1, hts _ hl, ⟨_, _, _, by rw [← hdecl]; exact hi⟩, hst⟩ (by rw [q2]; exact h6) q1 q3 (by rw [hsl]; exact k2_hasslot (q4 j hj)) rfl rfl (F.dec hT) fun H' e1 e2 e3 => ?_
  rw [hsl] at e1 ⊢
  exact kk hR FF H' _ la (hP.set FF.2.1 ht e2 e3 ⟨_, hc, t_OB.to (V := updV (vp_V fs) j (toV O v)) ⟨_, e1, q2, q3, t_set q4 hap hj (toV O v)⟩ (fun y _ => vp_updV_set hlen (toV O v) y)⟩) (hS.putO e2 e3 (F.2.2.2.2.2.2.2.2.2.2.1.2 _ _ hi0)) hL
theorem e_putF (a b : Nat) {index kd i ci N j : Nat} {C : String} {T : u_T} {fs : List Value} {v : AV} {ty : FieldType} {L' : List (Nat × Nat × va_E)} (t : Nat) (hT : IA D a b pc (.putfield index) 3) (ht : L[t]? = some (kd, i, .inr (ci, fs))) (hc : vwCl[ci]? = some (C, T, N)) (hin : ∀ w ∈ u_ws C T N, w ∈ WSg) (ty0 : Nat → FieldType) (hty : ∀ k, k < N → parseFieldDescriptor (T k).2.2.1 = some (ty0 k)) (hnm : ∀ a, a < N → ∀ b, b < N → a ≠ b → (T a).2.1 ≠ (T b).2.1) (hj : j < N) (hl : Cond.fieldLink D.1.1 index C (T j).2.1 (T j).2.2.1 ∈ WSg) (hdecl : (T j).1 = C) (hfin : (T j).2.2.2 = true) (hinit : D.1.2.1.name = "<init>") (hown : C = D.1.1) (hd : parseFieldDescriptor (T j).2.2.1 = some ty) (hn : narrow ty (toV O v) = toV O v) (hfit : fits ty (toV O v) = true) (hlen : j < fs.length) (hL' : L.set t (kd, i, .inr (ci, fs.set j (toV O v))) = L') (kk : CW O G D k n Q (L', x) (pc + 3) ls st) : CW O G D k n Q (L, x) pc ls (v :: vr kd i :: st) := by
  obtain ⟨p, l, e, R, s, m, args, below, meth, c⟩ := G
  intro hR FF H locs la hP hS hL
  have F := FF.1
  subst hL'
  have hts := F.2.2.2.2.1
  have hK := F.2.2.2.2.2.2.2.2.1
  have hap := va_apart (own := D.1.1) hts hin ty0 hty hnm hK hc
  obtain ⟨hi0, -, r, h1, cell, q1, q2, q3, q4⟩ := hP.2.2.1 _ (List.mem_of_getElem? ht)
  have hr : r = (C, T, N) := Option.some.inj (h1.symm.trans hc)
  subst hr
  obtain ⟨hS2, hfc, kC, hkC, hkind⟩ := hK.1 ci _ hc
  obtain ⟨cf, kf, fi, f, hi, hsl⟩ := hS2 j hj
  have hlay := hts _ (hin _ (u_in_lay hj))
  unfold u_lay at hlay
  rw [if_pos hfin] at hlay
  have hst := (u_facts hfc hkC (u_lays hts hin hj) hi).1
  have hcf : m.cls = cf := by
    obtain ⟨_, _, c', _, _, _, -, -, hf', -, -, -, hown2, -⟩ := Cond.laysFinal_spec hlay
    have e1 : c' = cf := by have := hi.symm.trans hf'; simp at this; exact this.1.symm
    rw [hdecl, hown] at hown2
    rw [← e1]; exact Option.some.inj (F.2.2.2.1.symm.trans hown2)
  have h6 := u_fits hfc hkC hkind (Or.inr hlay) hi hd hn hfit
  refine W.putFinK F.1 F.2.1 F.2.2.2.1 (hts _ hl) (by rw [← hdecl]; exact hi) hst hcf (FF.2.2.2.trans hinit) (by rw [q2]; exact h6) q1 q3 (by rw [hsl]; exact k2_hasslot (q4 j hj)) rfl rfl (F.dec hT) fun H' e1 e2 e3 => ?_
  rw [hsl] at e1 ⊢
  exact kk hR FF H' _ la (hP.set FF.2.1 ht e2 e3 ⟨_, hc, t_OB.to (V := updV (vp_V fs) j (toV O v)) ⟨_, e1, q2, q3, t_set q4 hap hj (toV O v)⟩ (fun y _ => vp_updV_set hlen (toV O v) y)⟩) (hS.putO e2 e3 (F.2.2.2.2.2.2.2.2.2.2.1.2 _ _ hi0)) hL
theorem e_iast (a b : Nat) {kd i N : Nat} {f g : Nat → Int32} {z y : Int32} {L' : List (Nat × Nat × va_E)} (t j : Nat) (hT : IA D a b pc .iastore 1) (ht : L[t]? = some (kd, i, .inl (O.2.2.2 0, N, .inl f))) (hz : z = nI j) (hj : j < N) (hN : N < 1000) (hg : (fun q => if q = j then y else f q) = g) (hL' : L.set t (kd, i, .inl (O.2.2.2 0, N, .inl g)) = L') (kk : CW O G D k n Q (L', x) (pc + 1) ls st) : CW O G D k n Q (L, x) pc ls (vi y :: vi z :: vr kd i :: st) := by
  obtain ⟨p, l, e, R, s, m, args, below, meth, c⟩ := G
  intro hR FF H locs la hP hS hL
  have F := FF.1
  subst hL'
  subst hz
  have hK := F.2.2.2.2.2.2.2.2.1
  obtain ⟨hi0, -, hcell⟩ := hP.2.2.1 _ (List.mem_of_getElem? ht)
  have hcell : H[O.2.1 kd i]? = some (arrV (O.2.2.2 0) N (fun j => .int (f j))) := hcell
  have hclp : (nI j).toNatClampNeg = j := nI_clamp (by omega)
  refine W.iast F.1 F.2.1 hcell ((hK.2 0 (O.2.2.2 0, .int) rfl).1 N (fun j => .int (f j))) (fun q => by cases q) (by rw [arrV_size, hclp]; exact fun q => q.elim (fun h => nI_pos (n := j) (by omega) h) (fun h => by omega)) rfl rfl (F.dec hT) fun H1 e z oq => ?_
  rw [hclp] at e ⊢
  refine kk hR FF H1 _ la (hP.set FF.2.1 ht z oq ?_) (hS.putO z oq (F.2.2.2.2.2.2.2.2.2.2.1.2 _ _ hi0)) hL
  show H1[O.2.1 kd i]? = some (vp_cell _ _)
  rw [e, vp_cell_i, arrV_store, ← hg]
  congr 2
  funext q
  by_cases hq : q = j
  · subst hq
    simp [updV]
  · simp [updV, hq]
theorem e_aast (a b : Nat) {kd i N t0 k2 i2 ci : Nat} {C : String} {T : u_T} {NC : Nat} {vs : List Value} {f g : Nat → Option Nat} {z : Int32} {L' : List (Nat × Nat × va_E)} (t u j : Nat) (hT : IA D a b pc .aastore 1) (ht : L[t]? = some (kd, i, .inl (O.2.2.2 t0, N, .inr (.inr (.inr (.inr f)))))) (hty : (tysO O)[t0]? = some (O.2.2.2 t0, .object C)) (hu : L[u]? = some (k2, i2, .inr (ci, vs))) (hc : vwCl[ci]? = some (C, T, NC)) (hz : z = nI j) (hj : j < N) (hN : N < 1000) (hg : (fun q => if q = j then some (O.2.1 k2 i2) else f q) = g) (hL' : L.set t (kd, i, .inl (O.2.2.2 t0, N, .inr (.inr (.inr (.inr g))))) = L') (kk : CW O G D k n Q (L', x) (pc + 1) ls st) : CW O G D k n Q (L, x) pc ls (vr k2 i2 :: vi z :: vr kd i :: st) := by
  obtain ⟨p, l, e, R, s, m, args, below, meth, c⟩ := G
  intro hR FF H locs la hP hS hL
  have F := FF.1
  subst hL'
  subst hz
  have hK := F.2.2.2.2.2.2.2.2.1
  obtain ⟨hi0, -, hcell⟩ := hP.2.2.1 _ (List.mem_of_getElem? ht)
  have hcell : H[O.2.1 kd i]? = some (arrV (O.2.2.2 t0) N (fun j => va_rf (f j))) := hcell
  obtain ⟨-, -, r', hr', cellV, g1, g2, g3, -⟩ := hP.2.2.1 _ (List.mem_of_getElem? hu)
  have hcls := (hK.1 ci _ hc).2
  obtain ⟨kA, comp, k1, k2', k3, -⟩ := (hK.2 t0 _ hty).2
  have hcomp : comp = O.2.2.1.1 ci := Option.some.inj (k3.symm.trans hcls.1)
  subst hcomp
  obtain ⟨kC, hkC, -⟩ := hcls.2
  have hclp : (nI j).toNatClampNeg = j := nI_clamp (by omega)
  refine W.aast F.1 F.2.1 hcell (fun q h => by cases h) (fun h => by cases h) k1 k2' rfl hkC ⟨nI_pos (by omega), by rw [arrV_size, hclp]; exact hj⟩ g1 (fun q h => by rw [g3] at h; cases h) (by rw [g2]; exact hkC) (by rw [g2]; exact va_assign hcls) rfl rfl (F.dec hT) fun H1 e z oq => ?_
  rw [hclp] at e ⊢
  refine kk hR FF H1 _ la (hP.set FF.2.1 ht z oq ?_) (hS.putO z oq (F.2.2.2.2.2.2.2.2.2.2.1.2 _ _ hi0)) hL
  show H1[O.2.1 kd i]? = some (vp_cell _ _)
  rw [e, vp_cell_q, arrV_store, ← hg]
  congr 2
  funext q
  by_cases hq : q = j
  · subst hq
    simp [updV, va_rf]
  · simp [updV, hq]
theorem e_oinit {T : TC} (a b : Nat) {idx : Nat} {q : Nat × Nat} (hT : IA D a b pc (.invokespecial idx) 3) (hw : Cond.methodLink D.1.1 idx Lib.objectInit ∈ WSg ∧ Cond.instanceMethod Lib.objectInit ∈ WSg ∧ Cond.code Lib.objectInit ⟨#[0xb1]⟩ 1 none ∈ WSg) (hz : 1 ≤ D.2.2.1 ∧ 20 ≤ D.2.2.2.1 ∧ ((stV O st).map fun v => v.category).sum ≤ 8) (kk : CW O G D k n Q T (pc + 3) ls st) : CW O G D k n Q T pc ls (.inr q :: st) := by
  obtain ⟨p, l, e, R, s, m, args, below, meth, c⟩ := G
  intro hR FF H locs la hP hS hL
  have F := FF.1
  have hRe : R = rmO D.2.2.1 D.2.2.2.1 D.2.2.2.2.1 D.2.2.2.2.2 := hR
  refine W.objInit F.1 F.2.1 F.2.2.2.1 (F.2.2.2.2.1 _ hw.1) (F.2.2.2.2.1 _ hw.2.1) (F.2.2.2.2.1 _ hw.2.2) rfl (by rw [F.2.2.1]; exact hL.1) rfl (F.dec hT) (by rw [hRe]; exact hz.1) (by rw [hRe]; have h1 := hz.2.1; have h2 := hz.2.2; show 2 * 0 + _ + 12 ≤ D.2.2.2.1; unfold stV at h2; omega) ?_
  exact kk hR FF H locs la hP hS hL
theorem e_vret {T : TC} (a b : Nat) (hr : D.1.2.2.2.2.1 = none) (hT : IA D a b pc .return_ 1) : CW O G D k n (QI O G k n T) T pc ls [] := by
  obtain ⟨p, l, e, R, s, m, args, below, meth, c⟩ := G
  intro hR FF H locs la hP hS hL
  have F := FF.1
  exact W.vret F.1 F.2.1 (F.2.2.2.2.2.1.trans hr) (fun t ht _ => ⟨⟨rfl, by rw [ht]; exact hP⟩, hS.F ht⟩) hS.2.2 (F.dec hT) F.2.2.2.2.2.2.1
end CRows
section DoneI
variable {p : Program} {l : Launch} {e : Env} {R : Room} {s : State} {m : MethodId} {args : Array Value} {below : List Frame} {meth : Method} {c : Code} {O : Om} {H : Heap} {locs : List Loc} {k n mc ms : Nat} {Q : State → Prop} {pc : Nat} {la : Array Slot} {rest st0 : List Value}
theorem run_doneI {T' : TC} {a : Array Value} (hr : va_Run p l e R s m args below meth c H locs k n mc ms (F0 m pc la st0) rest (PostI O T' a) (RgO O)) (hS : va_S (RgO O) s.heap H locs)
    (kk : ∀ (H1 : Heap) (locs1 : List Loc), RepN O T' H1 → va_S (RgO O) s.heap H1 locs1 → W p l e R s m args below meth c H1 locs1 (k + mc) (n + ms) Q (F0 m (pc + 3) la rest)) : W p l e R s m args below meth c H locs k n Q (F0 m pc la st0) := by
  intro T hT X
  obtain ⟨v, st₀, t, T2, L, h0, X', hL, e1, e2, ⟨⟨hv, hb⟩, hz, hk⟩, st⟩ := hr T hT X
  have hv : v = none := Outcome.returned.inj hv
  subst hv
  rw [h0] at hz hk
  obtain ⟨t2, a1, b1⟩ := kk T2.heap (locs ++ L) (by rw [e1]; exact hb) ⟨Nat.le_trans hS.1 (by rw [e1]; exact hz), fun q h1 h2 => by rw [e1, hk q (Nat.lt_of_lt_of_le h1 hS.1) h2]; exact hS.2.1 q h1 h2, fun q hq => by
      rcases List.mem_append.mp hq with h | h
      · exact hS.2.2 q h
      · exact hL q h⟩ T2 rfl X'
  exact ⟨t2, st t2 a1, b1⟩
end DoneI
theorem FI.Wd {O : Om} {p : Program} {l : Launch} {e : Env} {R : Room} {s : State} {m : MethodId} {args : Array Value} {below : List Frame} {meth : Method} {c : Code} {D : FD} (FF : FI O (p, l, e, R, s, m, args, below, meth, c) D) {T : TC} {H : Heap} {locs : List Loc} (hP : RepN O T H) (hS : va_S (RgO O) s.heap H locs) {U : State} (hU : U.heap = H) (hW : s.WarmedH U.vm) : WdI O T U :=
  ⟨by rw [hU]; exact Nat.le_trans FF.1.2.2.2.2.2.2.2.2.2.2.2.1 hS.1, by rw [hU]; exact hP, va_K.moved hW.alike FF.1.2.2.2.2.2.2.2.2.1, FF.1.2.2.2.2.2.2.2.2.2.1.moved hW (fun q h1 h2 => by rw [hU]; exact hS.2.1 q h1 h2), FF.1.2.2.2.2.2.2.2.2.2.2.1, FF.2.1, AF.moved hW.alike FF.2.2.1⟩
/-- what the call of a constructor asks of the tables -/
def CVI (own : String) (index : Nat) (d : MD) : Prop := Cond.methodLink own index d.2.1 ∈ WSg ∧ Cond.instanceMethod d.2.1 ∈ WSg ∧ Cond.initialized d.2.1.cls ∈ WSg ∧ Cond.code d.2.1 d.2.2.1 d.2.2.2.1 none ∈ WSg ∧ d.2.2.2.2.1 = none ∧ d.2.1.name = "<init>" ∧ d.2.1.cls ≠ "java/lang/invoke/MethodHandle" ∧ d.2.1.cls ≠ "java/lang/invoke/VarHandle" ∧ (parseMethodDescriptor d.2.1.desc).map (fun d => d.parameters.length) = some 0
def CVN (own : String) (index : Nat) (host : String) (d : MD) : Prop := Cond.methodLinkNest own index d.2.1 host ∈ WSx ∧ Cond.instanceMethod d.2.1 ∈ WSg ∧ Cond.initialized d.2.1.cls ∈ WSg ∧ Cond.code d.2.1 d.2.2.1 d.2.2.2.1 none ∈ WSg ∧ d.2.2.2.2.1 = none ∧ d.2.1.name = "<init>" ∧ d.2.1.cls ≠ "java/lang/invoke/MethodHandle" ∧ d.2.1.cls ≠ "java/lang/invoke/VarHandle" ∧ (parseMethodDescriptor d.2.1.desc).map (fun d => d.parameters.length) = some 0
section CallsI
variable {O : Om} {G : Cx} {D : FD} {k n : Nat} {Q : State → Prop} {T T' : TC} {pc : Nat} {ls : List (Option AV)} {st : List AV} {index fr lo kc ns : Nat} {dy : MD}
theorem e_callI (a b : Nat) {q : Nat × Nat} (hC : ∀ l : Launch, l.stackTraces = false → CI l O dy fr lo kc ns [.inr q] T T') (hT : IA D a b pc (.invokespecial index) 3) (cw : CVI D.1.1 index dy) (hz : RmOk O D k n fr lo dy.2.2.2.1 kc ns st) (kk : CW O G D (k + kc) (n + ns) Q T' (pc + 3) ls st) : CW O G D k n Q T pc ls (.inr q :: st) := by
  obtain ⟨p, l, e, R, s, m, args, below, meth, c⟩ := G
  intro hR FF H locs la hP hS hL
  have F := FF.1
  have hRe : R = rmO D.2.2.1 D.2.2.2.1 D.2.2.2.2.1 D.2.2.2.2.2 := hR
  obtain ⟨w1, w2, w3, w4, w5, w6, w7, w8, w9⟩ := cw
  obtain ⟨z1, z2, z3, z4, z5⟩ := hz
  have hM := hC l F.2.2.2.2.2.2.2.2.2.2.2.2.1
  unfold CI at hM
  rw [w5] at hM
  have hG : GoodIn WSg (.code dy.2.1 dy.2.2.1 dy.2.2.2.1 none :: WSg) := wsg_GoodIn fun w hw => by
    rcases List.mem_cons.mp hw with rfl | hw <;> assumption
  have hcw := cwI (R := R) (mc := kc) (ms := ns) (rm := rmO fr lo kc ns) (maxL := dy.2.2.2.1) 0 F.2.2.2.2.1 hG rfl rfl rfl (F.2.2.2.2.1 _ w3) (F.2.2.2.2.1 _ w1) (F.2.2.2.2.1 _ w2) w6 ⟨w7, w8, w9⟩ (by rw [hRe]; exact ⟨z1, z2⟩)
  refine run_doneI (va_runI (b := O.2.1 q.1 q.2) (As := []) (rest := stV O st) F.fix hM hcw ⟨blindI, fun U hU hW => ⟨rfl, FF.Wd hP hS hU hW⟩⟩ rfl rfl hL.1 rfl (by show 2 * 0 + _ ≤ 8; omega) (F.dec hT) (by rw [hRe]; exact ⟨z4, z5⟩)) hS ?_
  intro H1 locs1 hP1 hS1
  exact kk hR FF H1 locs1 la hP1 hS1 hL
theorem e_callN (a b : Nat) {q : Nat × Nat} {host : String} (hC : ∀ l : Launch, l.stackTraces = false → CI l O dy fr lo kc ns [.inr q] T T') (hT : IA D a b pc (.invokespecial index) 3) (cw : CVN D.1.1 index host dy) (hz : RmOk O D k n fr lo dy.2.2.2.1 kc ns st) (kk : CW O G D (k + kc) (n + ns) Q T' (pc + 3) ls st) : CW O G D k n Q T pc ls (.inr q :: st) := by
  obtain ⟨p, l, e, R, s, m, args, below, meth, c⟩ := G
  intro hR FF H locs la hP hS hL
  have F := FF.1
  have hRe : R = rmO D.2.2.1 D.2.2.2.1 D.2.2.2.2.1 D.2.2.2.2.2 := hR
  obtain ⟨w1, w2, w3, w4, w5, w6, w7, w8, w9⟩ := cw
  obtain ⟨z1, z2, z3, z4, z5⟩ := hz
  have hM := hC l F.2.2.2.2.2.2.2.2.2.2.2.2.1
  unfold CI at hM
  rw [w5] at hM
  have hG : GoodIn WSg (.code dy.2.1 dy.2.2.1 dy.2.2.2.1 none :: WSg) := wsg_GoodIn fun w hw => by
    rcases List.mem_cons.mp hw with rfl | hw <;> assumption
  have hE := F.2.2.2.2.2.2.2.2.2.1
  have hcw := va_cnB (R := R) (mc := kc) (ms := ns) (rm := rmO fr lo kc ns) (maxL := dy.2.2.2.1) 0 F.2.2.2.2.1 hG rfl rfl rfl (hE.2.2.2.2.2.1 _ w1) (F.2.2.2.2.1 _ w3) ⟨w7, w8, w9⟩ (by rw [hRe]; exact ⟨z1, z2⟩)
  refine run_doneI (va_runIN (b := O.2.1 q.1 q.2) (As := []) (rest := stV O st) F.fix hM ⟨hcw, w6, F.2.2.2.2.1 _ w2⟩ ⟨blindI, fun U hU hW => ⟨rfl, FF.Wd hP hS hU hW⟩⟩ rfl rfl hL.1 rfl (by show 2 * 0 + _ ≤ 8; omega) (F.dec hT) (by rw [hRe]; exact ⟨z4, z5⟩)) hS ?_
  intro H1 locs1 hP1 hS1
  exact kk hR FF H1 locs1 la hP1 hS1 hL
end CallsI
