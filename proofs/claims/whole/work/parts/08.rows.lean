/-! an instruction, a row, over points -/
abbrev FD : Type := MD × List (Nat × Nat × Nat × Nat) × (Nat × Nat × Nat × Nat)
def BW (O : Om) (G : Cx) (D : FD) (k n : Nat) (Q : State → Prop) (S : Mem) (pc : Nat) (ls : List (Option AV)) (st : List AV) : Prop := G.2.2.2.1 = rmO D.2.2.1 D.2.2.2.1 D.2.2.2.2.1 D.2.2.2.2.2 → AW O G D.1 D.2.1 k n Q S pc ls st
def BX (O : Om) (G : Cx) (D : FD) (k n : Nat) (Q : State → Prop) (S : Mem) (pc : Nat) (ls : List (Option AV)) (E : String) : Prop := G.2.2.2.1 = rmO D.2.2.1 D.2.2.2.1 D.2.2.2.2.1 D.2.2.2.2.2 → AX O G D.1 D.2.1 k n Q S pc ls E
def IA (D : FD) (a b pc : Nat) (i : Instr) (len : Nat) : Prop := (D.1.2.2.2.2.2[a]?.getD [])[b]? = some (pc, i, len)
theorem Fx.dec {O : Om} {p : Program} {l : Launch} {e : Env} {R : Room} {s : State} {m : MethodId} {args : Array Value} {below : List Frame} {meth : Method} {c : Code} {D : FD} (F : Fx O (p, l, e, R, s, m, args, below, meth, c) D.1 D.2.1) {a b pc : Nat} {i : Instr} {len : Nat} (h : IA D a b pc i len) : decode D.1.2.2.1 pc = .ok (i, len) := by
  obtain ⟨-, -, -, -, -, -, -, hd, -⟩ := F
  unfold IA at h
  cases hx : D.1.2.2.2.2.2[a]? with
  | none => rw [hx] at h; simp at h
  | some L =>
    rw [hx, Option.getD_some] at h
    have hq : ∀ q ∈ L, decode D.1.2.2.1 q.1 = .ok q.2 := hd L (List.mem_of_getElem? hx)
    exact hq (pc, i, len) (List.mem_of_getElem? h)
theorem LV.size {O : Om} {la : Array Slot} {nL : Nat} {ls : List (Option AV)} (h : LV O la nL ls) : la.size = nL := h.1
theorem LV.get {O : Om} {la : Array Slot} {nL : Nat} {ls : List (Option AV)} (h : LV O la nL ls) {i : Nat} {v : AV} (hv : ls[i]? = some (some v)) : la[i]? = some (.val (toV O v)) := (h.2.2 i v hv).1
/-- the locals as the kit lists them -/
def lvL (O : Om) (ls : List (Option AV)) : List (Nat × Value) := (List.range ls.length).filterMap (fun i => match ls[i]? with
  | some (some v) => some (i, toV O v)
  | _ => none)
theorem lvL_in {O : Om} {ls : List (Option AV)} {q : Nat × Value} : q ∈ lvL O ls ↔ ∃ v : AV, ls[q.1]? = some (some v) ∧ q.2 = toV O v := by
  unfold lvL
  rw [List.mem_filterMap]
  constructor
  · rintro ⟨i, hi, he⟩
    cases hx : ls[i]? with
    | none => rw [hx] at he; cases he
    | some w =>
      cases w with
      | none => rw [hx] at he; cases he
      | some v =>
        rw [hx] at he
        cases he
        exact ⟨v, hx, rfl⟩
  · rintro ⟨v, hv, he⟩
    refine ⟨q.1, List.mem_range.mpr (List.getElem?_eq_some_iff.mp hv).1, ?_⟩
    simp only [hv]
    rw [← he]
theorem LV.kit {O : Om} {la : Array Slot} {nL : Nat} {ls : List (Option AV)} (h : LV O la nL ls) : lv_has la nL (lvL O ls) := by
  refine ⟨h.1, h.2.1, fun q hq => ?_⟩
  obtain ⟨v, hv, he⟩ := lvL_in.mp hq
  rw [he]
  exact (h.2.2 _ v hv).1
theorem LV.store {O : Om} {la la' : Array Slot} {nL : Nat} {ls : List (Option AV)} {i : Nat} {v : AV} (h : LV O la nL ls) (hc : (toV O v).category = 1) (h' : lv_has la' nL ((i, toV O v) :: (lvL O ls).filter (fun q => !(q.1 == i) && !(q.1 + 1 == i && q.2.category == 2)))) : LV O la' nL (ls.set i (some v)) := by
  refine ⟨h'.1, h'.2.1, fun j w hw => ?_⟩
  rw [List.getElem?_set] at hw
  by_cases hj : i = j
  · rw [if_pos hj] at hw
    split at hw
    · cases hw
      subst hj
      exact ⟨h'.2.2 _ List.mem_cons_self, hc⟩
    · cases hw
  · rw [if_neg hj] at hw
    have h1 := h.2.2 j w hw
    refine ⟨h'.2.2 (j, toV O w) (List.mem_cons_of_mem _ (List.mem_filter.mpr ⟨lvL_in.mpr ⟨w, hw, rfl⟩, ?_⟩)), h1.2⟩
    have e1 : (j == i) = false := by simp; omega
    simp [e1, h1.2]
theorem toV_cat {O : Om} {q : Nat × Nat} : (toV O (.inr q)).category = 1 := rfl
theorem va_inI {x : Int32} {j n : Nat} (hx : x = nI j) (hj : j < n) (hn : n < 2 ^ 31) : vp_in x n ∧ x.toNatClampNeg = j := by
  subst hx
  exact ⟨nI_in hj hn, nI_clamp (by omega)⟩
theorem a_iadd {O : Om} {G : Cx} {D : FD} {k n : Nat} {Q : State → Prop} {S : Mem} {pc : Nat} {ls : List (Option AV)} {st : List AV} (a b : Nat) {x y : Int32} (hT : IA D a b pc .iadd 1) (kk : BW O G D k n Q S (pc + 1) ls (vi (x + y) :: st)) : BW O G D k n Q S pc ls (vi y :: vi x :: st) := by
  obtain ⟨p, l, e, R, s, m, args, below, meth, c⟩ := G
  intro hR F H locs la hP hS hL
  exact lv_iadd F.1 F.2.1 (F.dec hT) (kk hR F H locs la hP hS hL)
theorem a_isub {O : Om} {G : Cx} {D : FD} {k n : Nat} {Q : State → Prop} {S : Mem} {pc : Nat} {ls : List (Option AV)} {st : List AV} (a b : Nat) {x y : Int32} (hT : IA D a b pc .isub 1) (kk : BW O G D k n Q S (pc + 1) ls (vi (x - y) :: st)) : BW O G D k n Q S pc ls (vi y :: vi x :: st) := by
  obtain ⟨p, l, e, R, s, m, args, below, meth, c⟩ := G
  intro hR F H locs la hP hS hL
  exact lv_isub F.1 F.2.1 (F.dec hT) (kk hR F H locs la hP hS hL)
theorem a_imul {O : Om} {G : Cx} {D : FD} {k n : Nat} {Q : State → Prop} {S : Mem} {pc : Nat} {ls : List (Option AV)} {st : List AV} (a b : Nat) {x y : Int32} (hT : IA D a b pc .imul 1) (kk : BW O G D k n Q S (pc + 1) ls (vi (x * y) :: st)) : BW O G D k n Q S pc ls (vi y :: vi x :: st) := by
  obtain ⟨p, l, e, R, s, m, args, below, meth, c⟩ := G
  intro hR F H locs la hP hS hL
  exact lv_imul F.1 F.2.1 (F.dec hT) (kk hR F H locs la hP hS hL)
theorem a_iand {O : Om} {G : Cx} {D : FD} {k n : Nat} {Q : State → Prop} {S : Mem} {pc : Nat} {ls : List (Option AV)} {st : List AV} (a b : Nat) {x y : Int32} (hT : IA D a b pc .iand 1) (kk : BW O G D k n Q S (pc + 1) ls (vi (x &&& y) :: st)) : BW O G D k n Q S pc ls (vi y :: vi x :: st) := by
  obtain ⟨p, l, e, R, s, m, args, below, meth, c⟩ := G
  intro hR F H locs la hP hS hL
  exact lv_iand F.1 F.2.1 (F.dec hT) (kk hR F H locs la hP hS hL)
theorem a_idiv {O : Om} {G : Cx} {D : FD} {k n : Nat} {Q : State → Prop} {S : Mem} {pc : Nat} {ls : List (Option AV)} {st : List AV} (a b : Nat) {x y : Int32} (hT : IA D a b pc .idiv 1) (hne : ¬ y = 0) (kk : BW O G D k n Q S (pc + 1) ls (vi (x / y) :: st)) : BW O G D k n Q S pc ls (vi y :: vi x :: st) := by
  obtain ⟨p, l, e, R, s, m, args, below, meth, c⟩ := G
  intro hR F H locs la hP hS hL
  exact lv_idiv F.1 F.2.1 (F.dec hT) hne (kk hR F H locs la hP hS hL)
theorem a_ineg {O : Om} {G : Cx} {D : FD} {k n : Nat} {Q : State → Prop} {S : Mem} {pc : Nat} {ls : List (Option AV)} {st : List AV} (a b : Nat) {x : Int32} (hT : IA D a b pc .ineg 1) (kk : BW O G D k n Q S (pc + 1) ls (vi (-x) :: st)) : BW O G D k n Q S pc ls (vi x :: st) := by
  obtain ⟨p, l, e, R, s, m, args, below, meth, c⟩ := G
  intro hR F H locs la hP hS hL
  exact lv_ineg F.1 F.2.1 (F.dec hT) (kk hR F H locs la hP hS hL)
theorem a_ladd {O : Om} {G : Cx} {D : FD} {k n : Nat} {Q : State → Prop} {S : Mem} {pc : Nat} {ls : List (Option AV)} {st : List AV} (a b : Nat) {x y : Int64} (hT : IA D a b pc .ladd 1) (kk : BW O G D k n Q S (pc + 1) ls (vl (x + y) :: st)) : BW O G D k n Q S pc ls (vl y :: vl x :: st) := by
  obtain ⟨p, l, e, R, s, m, args, below, meth, c⟩ := G
  intro hR F H locs la hP hS hL
  exact lv_ladd F.1 F.2.1 (F.dec hT) (kk hR F H locs la hP hS hL)
theorem a_lmul {O : Om} {G : Cx} {D : FD} {k n : Nat} {Q : State → Prop} {S : Mem} {pc : Nat} {ls : List (Option AV)} {st : List AV} (a b : Nat) {x y : Int64} (hT : IA D a b pc .lmul 1) (kk : BW O G D k n Q S (pc + 1) ls (vl (x * y) :: st)) : BW O G D k n Q S pc ls (vl y :: vl x :: st) := by
  obtain ⟨p, l, e, R, s, m, args, below, meth, c⟩ := G
  intro hR F H locs la hP hS hL
  exact lv_lmul F.1 F.2.1 (F.dec hT) (kk hR F H locs la hP hS hL)
theorem a_ldiv {O : Om} {G : Cx} {D : FD} {k n : Nat} {Q : State → Prop} {S : Mem} {pc : Nat} {ls : List (Option AV)} {st : List AV} (a b : Nat) {x y : Int64} (hT : IA D a b pc .ldiv 1) (hne : ¬ y = 0) (kk : BW O G D k n Q S (pc + 1) ls (vl (x / y) :: st)) : BW O G D k n Q S pc ls (vl y :: vl x :: st) := by
  obtain ⟨p, l, e, R, s, m, args, below, meth, c⟩ := G
  intro hR F H locs la hP hS hL
  exact lv_ldiv F.1 F.2.1 (F.dec hT) hne (kk hR F H locs la hP hS hL)
theorem a_lcmp {O : Om} {G : Cx} {D : FD} {k n : Nat} {Q : State → Prop} {S : Mem} {pc : Nat} {ls : List (Option AV)} {st : List AV} (a b : Nat) {x y : Int64} (hT : IA D a b pc .lcmp 1) (kk : BW O G D k n Q S (pc + 1) ls (vi (lg_cmp x y) :: st)) : BW O G D k n Q S pc ls (vl y :: vl x :: st) := by
  obtain ⟨p, l, e, R, s, m, args, below, meth, c⟩ := G
  intro hR F H locs la hP hS hL
  exact W.lcmp F.1 F.2.1 (F.dec hT) (kk hR F H locs la hP hS hL)
theorem a_i2l {O : Om} {G : Cx} {D : FD} {k n : Nat} {Q : State → Prop} {S : Mem} {pc : Nat} {ls : List (Option AV)} {st : List AV} (a b : Nat) {x : Int32} (hT : IA D a b pc .i2l 1) (kk : BW O G D k n Q S (pc + 1) ls (vl x.toInt64 :: st)) : BW O G D k n Q S pc ls (vi x :: st) := by
  obtain ⟨p, l, e, R, s, m, args, below, meth, c⟩ := G
  intro hR F H locs la hP hS hL
  exact lv_i2l F.1 F.2.1 (F.dec hT) rfl (kk hR F H locs la hP hS hL)
theorem a_l2i {O : Om} {G : Cx} {D : FD} {k n : Nat} {Q : State → Prop} {S : Mem} {pc : Nat} {ls : List (Option AV)} {st : List AV} (a b : Nat) {x : Int64} (hT : IA D a b pc .l2i 1) (kk : BW O G D k n Q S (pc + 1) ls (vi x.toInt32 :: st)) : BW O G D k n Q S pc ls (vl x :: st) := by
  obtain ⟨p, l, e, R, s, m, args, below, meth, c⟩ := G
  intro hR F H locs la hP hS hL
  exact lv_l2i F.1 F.2.1 (F.dec hT) rfl (kk hR F H locs la hP hS hL)
theorem a_iconst {O : Om} {G : Cx} {D : FD} {k n : Nat} {Q : State → Prop} {S : Mem} {pc : Nat} {ls : List (Option AV)} {st : List AV} (a b : Nat) {z : Int} {v : Int32} (hT : IA D a b pc (.iconst z) 1) (hv : Int32.ofInt z = v) (kk : BW O G D k n Q S (pc + 1) ls (vi v :: st)) : BW O G D k n Q S pc ls st := by
  obtain ⟨p, l, e, R, s, m, args, below, meth, c⟩ := G
  intro hR F H locs la hP hS hL
  exact lv_iconst F.1 F.2.1 (F.dec hT) hv (kk hR F H locs la hP hS hL)
theorem a_bipush {O : Om} {G : Cx} {D : FD} {k n : Nat} {Q : State → Prop} {S : Mem} {pc : Nat} {ls : List (Option AV)} {st : List AV} (a b : Nat) {z : Int} {v : Int32} (hT : IA D a b pc (.bipush z) 2) (hv : (Int8.ofInt z).toInt32 = v) (kk : BW O G D k n Q S (pc + 2) ls (vi v :: st)) : BW O G D k n Q S pc ls st := by
  obtain ⟨p, l, e, R, s, m, args, below, meth, c⟩ := G
  intro hR F H locs la hP hS hL
  exact lv_bipush F.1 F.2.1 (F.dec hT) hv (kk hR F H locs la hP hS hL)
theorem a_sipush {O : Om} {G : Cx} {D : FD} {k n : Nat} {Q : State → Prop} {S : Mem} {pc : Nat} {ls : List (Option AV)} {st : List AV} (a b : Nat) {z : Int} {v : Int32} (hT : IA D a b pc (.sipush z) 3) (hv : (Int16.ofInt z).toInt32 = v) (kk : BW O G D k n Q S (pc + 3) ls (vi v :: st)) : BW O G D k n Q S pc ls st := by
  obtain ⟨p, l, e, R, s, m, args, below, meth, c⟩ := G
  intro hR F H locs la hP hS hL
  exact lv_sipush F.1 F.2.1 (F.dec hT) hv (kk hR F H locs la hP hS hL)
theorem a_ldc2 {O : Om} {G : Cx} {D : FD} {k n : Nat} {Q : State → Prop} {S : Mem} {pc : Nat} {ls : List (Option AV)} {st : List AV} (a b : Nat) {i : Nat} {v : Int64} (hT : IA D a b pc (.ldc2_w i) 3) (hw : Cond.constantLong D.1.1 i v ∈ WSg) (kk : BW O G D k n Q S (pc + 3) ls (vl v :: st)) : BW O G D k n Q S pc ls st := by
  obtain ⟨p, l, e, R, s, m, args, below, meth, c⟩ := G
  intro hR F H locs la hP hS hL
  exact lv_ldc2 F.1 F.2.1 F.2.2.2.1 (F.2.2.2.2.1 _ hw) (F.dec hT) (kk hR F H locs la hP hS hL)
theorem a_pop {O : Om} {G : Cx} {D : FD} {k n : Nat} {Q : State → Prop} {S : Mem} {pc : Nat} {ls : List (Option AV)} {st : List AV} (a b : Nat) {x : Int32} (hT : IA D a b pc .pop 1) (kk : BW O G D k n Q S (pc + 1) ls st) : BW O G D k n Q S pc ls (vi x :: st) := by
  obtain ⟨p, l, e, R, s, m, args, below, meth, c⟩ := G
  intro hR F H locs la hP hS hL
  exact lv_pop F.1 F.2.1 (F.dec hT) rfl (kk hR F H locs la hP hS hL)
theorem a_dup {O : Om} {G : Cx} {D : FD} {k n : Nat} {Q : State → Prop} {S : Mem} {pc : Nat} {ls : List (Option AV)} {st : List AV} (a b : Nat) {v : AV} (hT : IA D a b pc .dup 1) (hc : (toV O v).category = 1) (kk : BW O G D k n Q S (pc + 1) ls (v :: v :: st)) : BW O G D k n Q S pc ls (v :: st) := by
  obtain ⟨p, l, e, R, s, m, args, below, meth, c⟩ := G
  intro hR F H locs la hP hS hL
  exact lv_dup F.1 F.2.1 (F.dec hT) hc (kk hR F H locs la hP hS hL)
theorem a_dup2 {O : Om} {G : Cx} {D : FD} {k n : Nat} {Q : State → Prop} {S : Mem} {pc : Nat} {ls : List (Option AV)} {st : List AV} (a b : Nat) {v w : AV} (hT : IA D a b pc .dup2 1) (hv : (toV O v).category = 1) (hw : (toV O w).category = 1) (kk : BW O G D k n Q S (pc + 1) ls (v :: w :: v :: w :: st)) : BW O G D k n Q S pc ls (v :: w :: st) := by
  obtain ⟨p, l, e, R, s, m, args, below, meth, c⟩ := G
  intro hR F H locs la hP hS hL
  exact lv_dup2_11 F.1 F.2.1 (F.dec hT) hv hw (kk hR F H locs la hP hS hL)
theorem a_iload_n {O : Om} {G : Cx} {D : FD} {k n : Nat} {Q : State → Prop} {S : Mem} {pc : Nat} {ls : List (Option AV)} {st : List AV} (a b : Nat) {f : Fin 4} {x : Int32} (hT : IA D a b pc (.iload_n f) 1) (hl : ls[(f : Nat)]? = some (some (vi x))) (kk : BW O G D k n Q S (pc + 1) ls (vi x :: st)) : BW O G D k n Q S pc ls st := by
  obtain ⟨p, l, e, R, s, m, args, below, meth, c⟩ := G
  intro hR F H locs la hP hS hL
  exact lv_iload_n F.1 F.2.1 (F.dec hT) rfl (hL.get hl) (kk hR F H locs la hP hS hL)
theorem a_iload {O : Om} {G : Cx} {D : FD} {k n : Nat} {Q : State → Prop} {S : Mem} {pc : Nat} {ls : List (Option AV)} {st : List AV} (a b : Nat) {i : Nat} {x : Int32} (hT : IA D a b pc (.iload i) 2) (hl : ls[i]? = some (some (vi x))) (kk : BW O G D k n Q S (pc + 2) ls (vi x :: st)) : BW O G D k n Q S pc ls st := by
  obtain ⟨p, l, e, R, s, m, args, below, meth, c⟩ := G
  intro hR F H locs la hP hS hL
  exact lv_iload F.1 F.2.1 (F.dec hT) (hL.get hl) (kk hR F H locs la hP hS hL)
theorem a_aload_n {O : Om} {G : Cx} {D : FD} {k n : Nat} {Q : State → Prop} {S : Mem} {pc : Nat} {ls : List (Option AV)} {st : List AV} (a b : Nat) {f : Fin 4} {q : Nat × Nat} (hT : IA D a b pc (.aload_n f) 1) (hl : ls[(f : Nat)]? = some (some (.inr q))) (kk : BW O G D k n Q S (pc + 1) ls (.inr q :: st)) : BW O G D k n Q S pc ls st := by
  obtain ⟨p, l, e, R, s, m, args, below, meth, c⟩ := G
  intro hR F H locs la hP hS hL
  exact lv_aload_n F.1 F.2.1 (F.dec hT) rfl (hL.get hl) (kk hR F H locs la hP hS hL)
theorem a_aload {O : Om} {G : Cx} {D : FD} {k n : Nat} {Q : State → Prop} {S : Mem} {pc : Nat} {ls : List (Option AV)} {st : List AV} (a b : Nat) {i : Nat} {q : Nat × Nat} (hT : IA D a b pc (.aload i) 2) (hl : ls[i]? = some (some (.inr q))) (kk : BW O G D k n Q S (pc + 2) ls (.inr q :: st)) : BW O G D k n Q S pc ls st := by
  obtain ⟨p, l, e, R, s, m, args, below, meth, c⟩ := G
  intro hR F H locs la hP hS hL
  exact lv_aload F.1 F.2.1 (F.dec hT) (hL.get hl) (kk hR F H locs la hP hS hL)
theorem a_istore_n {O : Om} {G : Cx} {D : FD} {k n : Nat} {Q : State → Prop} {S : Mem} {pc : Nat} {ls : List (Option AV)} {st : List AV} (a b : Nat) {f : Fin 4} {i : Nat} {x : Int32} {ls2 : List (Option AV)} (hT : IA D a b pc (.istore_n f) 1) (hf : (f : Nat) = i) (hn : i < D.1.2.2.2.1) (hl : ls.set i (some (vi x)) = ls2) (kk : BW O G D k n Q S (pc + 1) ls2 st) : BW O G D k n Q S pc ls ((vi x) :: st) := by
  obtain ⟨p, l, e, R, s, m, args, below, meth, c⟩ := G
  intro hR F H locs la hP hS hL
  subst hl
  exact lv_istore_n F.1 F.2.1 (F.dec hT) hf hL.kit hn rfl (fun la2 h2 => kk hR F H locs la2 hP hS (hL.store rfl h2))
theorem a_istore {O : Om} {G : Cx} {D : FD} {k n : Nat} {Q : State → Prop} {S : Mem} {pc : Nat} {ls : List (Option AV)} {st : List AV} (a b : Nat) {i : Nat} {x : Int32} {ls2 : List (Option AV)} (hT : IA D a b pc (.istore i) 2) (hn : i < D.1.2.2.2.1) (hl : ls.set i (some (vi x)) = ls2) (kk : BW O G D k n Q S (pc + 2) ls2 st) : BW O G D k n Q S pc ls ((vi x) :: st) := by
  obtain ⟨p, l, e, R, s, m, args, below, meth, c⟩ := G
  intro hR F H locs la hP hS hL
  subst hl
  exact lv_istore F.1 F.2.1 (F.dec hT) hL.kit hn rfl (fun la2 h2 => kk hR F H locs la2 hP hS (hL.store rfl h2))
theorem a_astore_n {O : Om} {G : Cx} {D : FD} {k n : Nat} {Q : State → Prop} {S : Mem} {pc : Nat} {ls : List (Option AV)} {st : List AV} (a b : Nat) {f : Fin 4} {i : Nat} {q : Nat × Nat} {ls2 : List (Option AV)} (hT : IA D a b pc (.astore_n f) 1) (hf : (f : Nat) = i) (hn : i < D.1.2.2.2.1) (hl : ls.set i (some (.inr q)) = ls2) (kk : BW O G D k n Q S (pc + 1) ls2 st) : BW O G D k n Q S pc ls ((.inr q) :: st) := by
  obtain ⟨p, l, e, R, s, m, args, below, meth, c⟩ := G
  intro hR F H locs la hP hS hL
  subst hl
  exact lv_astore_n F.1 F.2.1 (F.dec hT) hf hL.kit hn rfl (fun la2 h2 => kk hR F H locs la2 hP hS (hL.store rfl h2))
theorem a_astore {O : Om} {G : Cx} {D : FD} {k n : Nat} {Q : State → Prop} {S : Mem} {pc : Nat} {ls : List (Option AV)} {st : List AV} (a b : Nat) {i : Nat} {q : Nat × Nat} {ls2 : List (Option AV)} (hT : IA D a b pc (.astore i) 2) (hn : i < D.1.2.2.2.1) (hl : ls.set i (some (.inr q)) = ls2) (kk : BW O G D k n Q S (pc + 2) ls2 st) : BW O G D k n Q S pc ls ((.inr q) :: st) := by
  obtain ⟨p, l, e, R, s, m, args, below, meth, c⟩ := G
  intro hR F H locs la hP hS hL
  subst hl
  exact lv_astore F.1 F.2.1 (F.dec hT) hL.kit hn rfl (fun la2 h2 => kk hR F H locs la2 hP hS (hL.store rfl h2))
theorem a_astoreX {O : Om} {G : Cx} {D : FD} {k n : Nat} {Q : State → Prop} {S : Mem} {pc : Nat} {ls : List (Option AV)} {st : List AV} (a b : Nat) {i : Nat} {q : Addr} {ls2 : List (Option AV)} (hT : IA D a b pc (.astore i) 2) (hn : i < D.1.2.2.2.1) (hl : ls.set i (some (.inl (.ref q))) = ls2) (kk : BW O G D k n Q S (pc + 2) ls2 st) : BW O G D k n Q S pc ls (.inl (.ref q) :: st) := by
  obtain ⟨p, l, e, R, s, m, args, below, meth, c⟩ := G
  intro hR F H locs la hP hS hL
  subst hl
  exact lv_astore F.1 F.2.1 (F.dec hT) hL.kit hn rfl (fun la2 h2 => kk hR F H locs la2 hP hS (hL.store (v := .inl (.ref q)) rfl h2))
theorem a_astoreXn {O : Om} {G : Cx} {D : FD} {k n : Nat} {Q : State → Prop} {S : Mem} {pc : Nat} {ls : List (Option AV)} {st : List AV} (a b : Nat) {f : Fin 4} {i : Nat} {q : Addr} {ls2 : List (Option AV)} (hT : IA D a b pc (.astore_n f) 1) (hf : (f : Nat) = i) (hn : i < D.1.2.2.2.1) (hl : ls.set i (some (.inl (.ref q))) = ls2) (kk : BW O G D k n Q S (pc + 1) ls2 st) : BW O G D k n Q S pc ls (.inl (.ref q) :: st) := by
  obtain ⟨p, l, e, R, s, m, args, below, meth, c⟩ := G
  intro hR F H locs la hP hS hL
  subst hl
  exact lv_astore_n F.1 F.2.1 (F.dec hT) hf hL.kit hn rfl (fun la2 h2 => kk hR F H locs la2 hP hS (hL.store (v := .inl (.ref q)) rfl h2))
theorem a_iinc {O : Om} {G : Cx} {D : FD} {k n : Nat} {Q : State → Prop} {S : Mem} {pc : Nat} {ls : List (Option AV)} {st : List AV} (a b : Nat) {i : Nat} {z : Int} {x v : Int32} {ls2 : List (Option AV)} (hT : IA D a b pc (.iinc i z) 3) (hl : ls[i]? = some (some (vi x))) (hv : x + Int32.ofInt z = v) (hn : i < D.1.2.2.2.1) (hl2 : ls.set i (some (vi v)) = ls2) (kk : BW O G D k n Q S (pc + 3) ls2 st) : BW O G D k n Q S pc ls st := by
  obtain ⟨p, l, e, R, s, m, args, below, meth, c⟩ := G
  intro hR F H locs la hP hS hL
  subst hl2
  obtain ⟨j, hj⟩ := List.mem_iff_getElem?.mp ((lvL_in (O := O) (ls := ls) (q := (i, .int x))).mpr ⟨vi x, hl, rfl⟩)
  exact lv_iinc F.1 F.2.1 (F.dec hT) hL.kit hj hv hn rfl (fun la2 h2 => kk hR F H locs la2 hP hS (hL.store (v := vi v) rfl h2))
theorem a_if_eq {O : Om} {G : Cx} {D : FD} {k n : Nat} {Q : State → Prop} {S : Mem} {pc : Nat} {ls : List (Option AV)} {st : List AV} (a b : Nat) {x : Int32} {off : Int} {tgt : Nat} (hT : IA D a b pc (.ifCond .eq off) 3) (ht : (pc : Int) + off = (tgt : Int)) (kt : x = 0 → BW O G D k n Q S tgt ls st) (kf : ¬ x = 0 → BW O G D k n Q S (pc + 3) ls st) : BW O G D k n Q S pc ls (vi x :: st) := by
  obtain ⟨p, l, e, R, s, m, args, below, meth, c⟩ := G
  intro hR F H locs la hP hS hL
  exact lv_if_eq F.1 F.2.1 (F.dec hT) ht (fun q => kt q hR F H locs la hP hS hL) (fun q => kf q hR F H locs la hP hS hL)
theorem a_if_eq_t {O : Om} {G : Cx} {D : FD} {k n : Nat} {Q : State → Prop} {S : Mem} {pc : Nat} {ls : List (Option AV)} {st : List AV} (a b : Nat) {x : Int32} {off : Int} {tgt : Nat} (hT : IA D a b pc (.ifCond .eq off) 3) (ht : (pc : Int) + off = (tgt : Int)) (hc : x = 0) (kk : BW O G D k n Q S tgt ls st) : BW O G D k n Q S pc ls (vi x :: st) := by
  obtain ⟨p, l, e, R, s, m, args, below, meth, c⟩ := G
  intro hR F H locs la hP hS hL
  exact lv_if_eq F.1 F.2.1 (F.dec hT) ht (fun _ => kk hR F H locs la hP hS hL) (fun q => absurd hc q)
theorem a_if_eq_f {O : Om} {G : Cx} {D : FD} {k n : Nat} {Q : State → Prop} {S : Mem} {pc : Nat} {ls : List (Option AV)} {st : List AV} (a b : Nat) {x : Int32} {off : Int} (hT : IA D a b pc (.ifCond .eq off) 3) (hc : ¬ x = 0) {tgt : Nat} (ht : (pc : Int) + off = (tgt : Int)) (kk : BW O G D k n Q S (pc + 3) ls st) : BW O G D k n Q S pc ls (vi x :: st) := by
  obtain ⟨p, l, e, R, s, m, args, below, meth, c⟩ := G
  intro hR F H locs la hP hS hL
  exact lv_if_eq F.1 F.2.1 (F.dec hT) ht (fun q => absurd q hc) (fun _ => kk hR F H locs la hP hS hL)
theorem a_icmp_eq {O : Om} {G : Cx} {D : FD} {k n : Nat} {Q : State → Prop} {S : Mem} {pc : Nat} {ls : List (Option AV)} {st : List AV} (a b : Nat) {x y : Int32} {off : Int} {tgt : Nat} (hT : IA D a b pc (.if_icmp .eq off) 3) (ht : (pc : Int) + off = (tgt : Int)) (kt : x = y → BW O G D k n Q S tgt ls st) (kf : ¬ x = y → BW O G D k n Q S (pc + 3) ls st) : BW O G D k n Q S pc ls (vi y :: vi x :: st) := by
  obtain ⟨p, l, e, R, s, m, args, below, meth, c⟩ := G
  intro hR F H locs la hP hS hL
  exact lv_icmp_eq F.1 F.2.1 (F.dec hT) ht (fun q => kt q hR F H locs la hP hS hL) (fun q => kf q hR F H locs la hP hS hL)
theorem a_icmp_eq_t {O : Om} {G : Cx} {D : FD} {k n : Nat} {Q : State → Prop} {S : Mem} {pc : Nat} {ls : List (Option AV)} {st : List AV} (a b : Nat) {x y : Int32} {off : Int} {tgt : Nat} (hT : IA D a b pc (.if_icmp .eq off) 3) (ht : (pc : Int) + off = (tgt : Int)) (hc : x = y) (kk : BW O G D k n Q S tgt ls st) : BW O G D k n Q S pc ls (vi y :: vi x :: st) := by
  obtain ⟨p, l, e, R, s, m, args, below, meth, c⟩ := G
  intro hR F H locs la hP hS hL
  exact lv_icmp_eq F.1 F.2.1 (F.dec hT) ht (fun _ => kk hR F H locs la hP hS hL) (fun q => absurd hc q)
theorem a_icmp_eq_f {O : Om} {G : Cx} {D : FD} {k n : Nat} {Q : State → Prop} {S : Mem} {pc : Nat} {ls : List (Option AV)} {st : List AV} (a b : Nat) {x y : Int32} {off : Int} (hT : IA D a b pc (.if_icmp .eq off) 3) (hc : ¬ x = y) {tgt : Nat} (ht : (pc : Int) + off = (tgt : Int)) (kk : BW O G D k n Q S (pc + 3) ls st) : BW O G D k n Q S pc ls (vi y :: vi x :: st) := by
  obtain ⟨p, l, e, R, s, m, args, below, meth, c⟩ := G
  intro hR F H locs la hP hS hL
  exact lv_icmp_eq F.1 F.2.1 (F.dec hT) ht (fun q => absurd q hc) (fun _ => kk hR F H locs la hP hS hL)
theorem a_if_ne {O : Om} {G : Cx} {D : FD} {k n : Nat} {Q : State → Prop} {S : Mem} {pc : Nat} {ls : List (Option AV)} {st : List AV} (a b : Nat) {x : Int32} {off : Int} {tgt : Nat} (hT : IA D a b pc (.ifCond .ne off) 3) (ht : (pc : Int) + off = (tgt : Int)) (kt : ¬ x = 0 → BW O G D k n Q S tgt ls st) (kf : x = 0 → BW O G D k n Q S (pc + 3) ls st) : BW O G D k n Q S pc ls (vi x :: st) := by
  obtain ⟨p, l, e, R, s, m, args, below, meth, c⟩ := G
  intro hR F H locs la hP hS hL
  exact lv_if_ne F.1 F.2.1 (F.dec hT) ht (fun q => kt q hR F H locs la hP hS hL) (fun q => kf q hR F H locs la hP hS hL)
theorem a_if_ne_t {O : Om} {G : Cx} {D : FD} {k n : Nat} {Q : State → Prop} {S : Mem} {pc : Nat} {ls : List (Option AV)} {st : List AV} (a b : Nat) {x : Int32} {off : Int} {tgt : Nat} (hT : IA D a b pc (.ifCond .ne off) 3) (ht : (pc : Int) + off = (tgt : Int)) (hc : ¬ x = 0) (kk : BW O G D k n Q S tgt ls st) : BW O G D k n Q S pc ls (vi x :: st) := by
  obtain ⟨p, l, e, R, s, m, args, below, meth, c⟩ := G
  intro hR F H locs la hP hS hL
  exact lv_if_ne F.1 F.2.1 (F.dec hT) ht (fun _ => kk hR F H locs la hP hS hL) (fun q => absurd q hc)
theorem a_if_ne_f {O : Om} {G : Cx} {D : FD} {k n : Nat} {Q : State → Prop} {S : Mem} {pc : Nat} {ls : List (Option AV)} {st : List AV} (a b : Nat) {x : Int32} {off : Int} (hT : IA D a b pc (.ifCond .ne off) 3) (hc : x = 0) {tgt : Nat} (ht : (pc : Int) + off = (tgt : Int)) (kk : BW O G D k n Q S (pc + 3) ls st) : BW O G D k n Q S pc ls (vi x :: st) := by
  obtain ⟨p, l, e, R, s, m, args, below, meth, c⟩ := G
  intro hR F H locs la hP hS hL
  exact lv_if_ne F.1 F.2.1 (F.dec hT) ht (fun q => absurd hc q) (fun _ => kk hR F H locs la hP hS hL)
theorem a_icmp_ne {O : Om} {G : Cx} {D : FD} {k n : Nat} {Q : State → Prop} {S : Mem} {pc : Nat} {ls : List (Option AV)} {st : List AV} (a b : Nat) {x y : Int32} {off : Int} {tgt : Nat} (hT : IA D a b pc (.if_icmp .ne off) 3) (ht : (pc : Int) + off = (tgt : Int)) (kt : ¬ x = y → BW O G D k n Q S tgt ls st) (kf : x = y → BW O G D k n Q S (pc + 3) ls st) : BW O G D k n Q S pc ls (vi y :: vi x :: st) := by
  obtain ⟨p, l, e, R, s, m, args, below, meth, c⟩ := G
  intro hR F H locs la hP hS hL
  exact lv_icmp_ne F.1 F.2.1 (F.dec hT) ht (fun q => kt q hR F H locs la hP hS hL) (fun q => kf q hR F H locs la hP hS hL)
theorem a_icmp_ne_t {O : Om} {G : Cx} {D : FD} {k n : Nat} {Q : State → Prop} {S : Mem} {pc : Nat} {ls : List (Option AV)} {st : List AV} (a b : Nat) {x y : Int32} {off : Int} {tgt : Nat} (hT : IA D a b pc (.if_icmp .ne off) 3) (ht : (pc : Int) + off = (tgt : Int)) (hc : ¬ x = y) (kk : BW O G D k n Q S tgt ls st) : BW O G D k n Q S pc ls (vi y :: vi x :: st) := by
  obtain ⟨p, l, e, R, s, m, args, below, meth, c⟩ := G
  intro hR F H locs la hP hS hL
  exact lv_icmp_ne F.1 F.2.1 (F.dec hT) ht (fun _ => kk hR F H locs la hP hS hL) (fun q => absurd q hc)
theorem a_icmp_ne_f {O : Om} {G : Cx} {D : FD} {k n : Nat} {Q : State → Prop} {S : Mem} {pc : Nat} {ls : List (Option AV)} {st : List AV} (a b : Nat) {x y : Int32} {off : Int} (hT : IA D a b pc (.if_icmp .ne off) 3) (hc : x = y) {tgt : Nat} (ht : (pc : Int) + off = (tgt : Int)) (kk : BW O G D k n Q S (pc + 3) ls st) : BW O G D k n Q S pc ls (vi y :: vi x :: st) := by
  obtain ⟨p, l, e, R, s, m, args, below, meth, c⟩ := G
  intro hR F H locs la hP hS hL
  exact lv_icmp_ne F.1 F.2.1 (F.dec hT) ht (fun q => absurd hc q) (fun _ => kk hR F H locs la hP hS hL)
theorem a_if_lt {O : Om} {G : Cx} {D : FD} {k n : Nat} {Q : State → Prop} {S : Mem} {pc : Nat} {ls : List (Option AV)} {st : List AV} (a b : Nat) {x : Int32} {off : Int} {tgt : Nat} (hT : IA D a b pc (.ifCond .lt off) 3) (ht : (pc : Int) + off = (tgt : Int)) (kt : x < 0 → BW O G D k n Q S tgt ls st) (kf : ¬ x < 0 → BW O G D k n Q S (pc + 3) ls st) : BW O G D k n Q S pc ls (vi x :: st) := by
  obtain ⟨p, l, e, R, s, m, args, below, meth, c⟩ := G
  intro hR F H locs la hP hS hL
  exact lv_if_lt F.1 F.2.1 (F.dec hT) ht (fun q => kt q hR F H locs la hP hS hL) (fun q => kf q hR F H locs la hP hS hL)
theorem a_if_lt_t {O : Om} {G : Cx} {D : FD} {k n : Nat} {Q : State → Prop} {S : Mem} {pc : Nat} {ls : List (Option AV)} {st : List AV} (a b : Nat) {x : Int32} {off : Int} {tgt : Nat} (hT : IA D a b pc (.ifCond .lt off) 3) (ht : (pc : Int) + off = (tgt : Int)) (hc : x < 0) (kk : BW O G D k n Q S tgt ls st) : BW O G D k n Q S pc ls (vi x :: st) := by
  obtain ⟨p, l, e, R, s, m, args, below, meth, c⟩ := G
  intro hR F H locs la hP hS hL
  exact lv_if_lt F.1 F.2.1 (F.dec hT) ht (fun _ => kk hR F H locs la hP hS hL) (fun q => absurd hc q)
theorem a_if_lt_f {O : Om} {G : Cx} {D : FD} {k n : Nat} {Q : State → Prop} {S : Mem} {pc : Nat} {ls : List (Option AV)} {st : List AV} (a b : Nat) {x : Int32} {off : Int} (hT : IA D a b pc (.ifCond .lt off) 3) (hc : ¬ x < 0) {tgt : Nat} (ht : (pc : Int) + off = (tgt : Int)) (kk : BW O G D k n Q S (pc + 3) ls st) : BW O G D k n Q S pc ls (vi x :: st) := by
  obtain ⟨p, l, e, R, s, m, args, below, meth, c⟩ := G
  intro hR F H locs la hP hS hL
  exact lv_if_lt F.1 F.2.1 (F.dec hT) ht (fun q => absurd q hc) (fun _ => kk hR F H locs la hP hS hL)
theorem a_icmp_lt {O : Om} {G : Cx} {D : FD} {k n : Nat} {Q : State → Prop} {S : Mem} {pc : Nat} {ls : List (Option AV)} {st : List AV} (a b : Nat) {x y : Int32} {off : Int} {tgt : Nat} (hT : IA D a b pc (.if_icmp .lt off) 3) (ht : (pc : Int) + off = (tgt : Int)) (kt : x < y → BW O G D k n Q S tgt ls st) (kf : ¬ x < y → BW O G D k n Q S (pc + 3) ls st) : BW O G D k n Q S pc ls (vi y :: vi x :: st) := by
  obtain ⟨p, l, e, R, s, m, args, below, meth, c⟩ := G
  intro hR F H locs la hP hS hL
  exact lv_icmp_lt F.1 F.2.1 (F.dec hT) ht (fun q => kt q hR F H locs la hP hS hL) (fun q => kf q hR F H locs la hP hS hL)
theorem a_icmp_lt_t {O : Om} {G : Cx} {D : FD} {k n : Nat} {Q : State → Prop} {S : Mem} {pc : Nat} {ls : List (Option AV)} {st : List AV} (a b : Nat) {x y : Int32} {off : Int} {tgt : Nat} (hT : IA D a b pc (.if_icmp .lt off) 3) (ht : (pc : Int) + off = (tgt : Int)) (hc : x < y) (kk : BW O G D k n Q S tgt ls st) : BW O G D k n Q S pc ls (vi y :: vi x :: st) := by
  obtain ⟨p, l, e, R, s, m, args, below, meth, c⟩ := G
  intro hR F H locs la hP hS hL
  exact lv_icmp_lt F.1 F.2.1 (F.dec hT) ht (fun _ => kk hR F H locs la hP hS hL) (fun q => absurd hc q)
theorem a_icmp_lt_f {O : Om} {G : Cx} {D : FD} {k n : Nat} {Q : State → Prop} {S : Mem} {pc : Nat} {ls : List (Option AV)} {st : List AV} (a b : Nat) {x y : Int32} {off : Int} (hT : IA D a b pc (.if_icmp .lt off) 3) (hc : ¬ x < y) {tgt : Nat} (ht : (pc : Int) + off = (tgt : Int)) (kk : BW O G D k n Q S (pc + 3) ls st) : BW O G D k n Q S pc ls (vi y :: vi x :: st) := by
  obtain ⟨p, l, e, R, s, m, args, below, meth, c⟩ := G
  intro hR F H locs la hP hS hL
  exact lv_icmp_lt F.1 F.2.1 (F.dec hT) ht (fun q => absurd q hc) (fun _ => kk hR F H locs la hP hS hL)
theorem a_if_ge {O : Om} {G : Cx} {D : FD} {k n : Nat} {Q : State → Prop} {S : Mem} {pc : Nat} {ls : List (Option AV)} {st : List AV} (a b : Nat) {x : Int32} {off : Int} {tgt : Nat} (hT : IA D a b pc (.ifCond .ge off) 3) (ht : (pc : Int) + off = (tgt : Int)) (kt : 0 ≤ x → BW O G D k n Q S tgt ls st) (kf : ¬ 0 ≤ x → BW O G D k n Q S (pc + 3) ls st) : BW O G D k n Q S pc ls (vi x :: st) := by
  obtain ⟨p, l, e, R, s, m, args, below, meth, c⟩ := G
  intro hR F H locs la hP hS hL
  exact lv_if_ge F.1 F.2.1 (F.dec hT) ht (fun q => kt q hR F H locs la hP hS hL) (fun q => kf q hR F H locs la hP hS hL)
theorem a_if_ge_t {O : Om} {G : Cx} {D : FD} {k n : Nat} {Q : State → Prop} {S : Mem} {pc : Nat} {ls : List (Option AV)} {st : List AV} (a b : Nat) {x : Int32} {off : Int} {tgt : Nat} (hT : IA D a b pc (.ifCond .ge off) 3) (ht : (pc : Int) + off = (tgt : Int)) (hc : 0 ≤ x) (kk : BW O G D k n Q S tgt ls st) : BW O G D k n Q S pc ls (vi x :: st) := by
  obtain ⟨p, l, e, R, s, m, args, below, meth, c⟩ := G
  intro hR F H locs la hP hS hL
  exact lv_if_ge F.1 F.2.1 (F.dec hT) ht (fun _ => kk hR F H locs la hP hS hL) (fun q => absurd hc q)
theorem a_if_ge_f {O : Om} {G : Cx} {D : FD} {k n : Nat} {Q : State → Prop} {S : Mem} {pc : Nat} {ls : List (Option AV)} {st : List AV} (a b : Nat) {x : Int32} {off : Int} (hT : IA D a b pc (.ifCond .ge off) 3) (hc : ¬ 0 ≤ x) {tgt : Nat} (ht : (pc : Int) + off = (tgt : Int)) (kk : BW O G D k n Q S (pc + 3) ls st) : BW O G D k n Q S pc ls (vi x :: st) := by
  obtain ⟨p, l, e, R, s, m, args, below, meth, c⟩ := G
  intro hR F H locs la hP hS hL
  exact lv_if_ge F.1 F.2.1 (F.dec hT) ht (fun q => absurd q hc) (fun _ => kk hR F H locs la hP hS hL)
theorem a_icmp_ge {O : Om} {G : Cx} {D : FD} {k n : Nat} {Q : State → Prop} {S : Mem} {pc : Nat} {ls : List (Option AV)} {st : List AV} (a b : Nat) {x y : Int32} {off : Int} {tgt : Nat} (hT : IA D a b pc (.if_icmp .ge off) 3) (ht : (pc : Int) + off = (tgt : Int)) (kt : y ≤ x → BW O G D k n Q S tgt ls st) (kf : ¬ y ≤ x → BW O G D k n Q S (pc + 3) ls st) : BW O G D k n Q S pc ls (vi y :: vi x :: st) := by
  obtain ⟨p, l, e, R, s, m, args, below, meth, c⟩ := G
  intro hR F H locs la hP hS hL
  exact lv_icmp_ge F.1 F.2.1 (F.dec hT) ht (fun q => kt q hR F H locs la hP hS hL) (fun q => kf q hR F H locs la hP hS hL)
theorem a_icmp_ge_t {O : Om} {G : Cx} {D : FD} {k n : Nat} {Q : State → Prop} {S : Mem} {pc : Nat} {ls : List (Option AV)} {st : List AV} (a b : Nat) {x y : Int32} {off : Int} {tgt : Nat} (hT : IA D a b pc (.if_icmp .ge off) 3) (ht : (pc : Int) + off = (tgt : Int)) (hc : y ≤ x) (kk : BW O G D k n Q S tgt ls st) : BW O G D k n Q S pc ls (vi y :: vi x :: st) := by
  obtain ⟨p, l, e, R, s, m, args, below, meth, c⟩ := G
  intro hR F H locs la hP hS hL
  exact lv_icmp_ge F.1 F.2.1 (F.dec hT) ht (fun _ => kk hR F H locs la hP hS hL) (fun q => absurd hc q)
theorem a_icmp_ge_f {O : Om} {G : Cx} {D : FD} {k n : Nat} {Q : State → Prop} {S : Mem} {pc : Nat} {ls : List (Option AV)} {st : List AV} (a b : Nat) {x y : Int32} {off : Int} (hT : IA D a b pc (.if_icmp .ge off) 3) (hc : ¬ y ≤ x) {tgt : Nat} (ht : (pc : Int) + off = (tgt : Int)) (kk : BW O G D k n Q S (pc + 3) ls st) : BW O G D k n Q S pc ls (vi y :: vi x :: st) := by
  obtain ⟨p, l, e, R, s, m, args, below, meth, c⟩ := G
  intro hR F H locs la hP hS hL
  exact lv_icmp_ge F.1 F.2.1 (F.dec hT) ht (fun q => absurd q hc) (fun _ => kk hR F H locs la hP hS hL)
theorem a_if_gt {O : Om} {G : Cx} {D : FD} {k n : Nat} {Q : State → Prop} {S : Mem} {pc : Nat} {ls : List (Option AV)} {st : List AV} (a b : Nat) {x : Int32} {off : Int} {tgt : Nat} (hT : IA D a b pc (.ifCond .gt off) 3) (ht : (pc : Int) + off = (tgt : Int)) (kt : 0 < x → BW O G D k n Q S tgt ls st) (kf : ¬ 0 < x → BW O G D k n Q S (pc + 3) ls st) : BW O G D k n Q S pc ls (vi x :: st) := by
  obtain ⟨p, l, e, R, s, m, args, below, meth, c⟩ := G
  intro hR F H locs la hP hS hL
  exact lv_if_gt F.1 F.2.1 (F.dec hT) ht (fun q => kt q hR F H locs la hP hS hL) (fun q => kf q hR F H locs la hP hS hL)
theorem a_if_gt_t {O : Om} {G : Cx} {D : FD} {k n : Nat} {Q : State → Prop} {S : Mem} {pc : Nat} {ls : List (Option AV)} {st : List AV} (a b : Nat) {x : Int32} {off : Int} {tgt : Nat} (hT : IA D a b pc (.ifCond .gt off) 3) (ht : (pc : Int) + off = (tgt : Int)) (hc : 0 < x) (kk : BW O G D k n Q S tgt ls st) : BW O G D k n Q S pc ls (vi x :: st) := by
  obtain ⟨p, l, e, R, s, m, args, below, meth, c⟩ := G
  intro hR F H locs la hP hS hL
  exact lv_if_gt F.1 F.2.1 (F.dec hT) ht (fun _ => kk hR F H locs la hP hS hL) (fun q => absurd hc q)
theorem a_if_gt_f {O : Om} {G : Cx} {D : FD} {k n : Nat} {Q : State → Prop} {S : Mem} {pc : Nat} {ls : List (Option AV)} {st : List AV} (a b : Nat) {x : Int32} {off : Int} (hT : IA D a b pc (.ifCond .gt off) 3) (hc : ¬ 0 < x) {tgt : Nat} (ht : (pc : Int) + off = (tgt : Int)) (kk : BW O G D k n Q S (pc + 3) ls st) : BW O G D k n Q S pc ls (vi x :: st) := by
  obtain ⟨p, l, e, R, s, m, args, below, meth, c⟩ := G
  intro hR F H locs la hP hS hL
  exact lv_if_gt F.1 F.2.1 (F.dec hT) ht (fun q => absurd q hc) (fun _ => kk hR F H locs la hP hS hL)
theorem a_icmp_gt {O : Om} {G : Cx} {D : FD} {k n : Nat} {Q : State → Prop} {S : Mem} {pc : Nat} {ls : List (Option AV)} {st : List AV} (a b : Nat) {x y : Int32} {off : Int} {tgt : Nat} (hT : IA D a b pc (.if_icmp .gt off) 3) (ht : (pc : Int) + off = (tgt : Int)) (kt : y < x → BW O G D k n Q S tgt ls st) (kf : ¬ y < x → BW O G D k n Q S (pc + 3) ls st) : BW O G D k n Q S pc ls (vi y :: vi x :: st) := by
  obtain ⟨p, l, e, R, s, m, args, below, meth, c⟩ := G
  intro hR F H locs la hP hS hL
  exact lv_icmp_gt F.1 F.2.1 (F.dec hT) ht (fun q => kt q hR F H locs la hP hS hL) (fun q => kf q hR F H locs la hP hS hL)
theorem a_icmp_gt_t {O : Om} {G : Cx} {D : FD} {k n : Nat} {Q : State → Prop} {S : Mem} {pc : Nat} {ls : List (Option AV)} {st : List AV} (a b : Nat) {x y : Int32} {off : Int} {tgt : Nat} (hT : IA D a b pc (.if_icmp .gt off) 3) (ht : (pc : Int) + off = (tgt : Int)) (hc : y < x) (kk : BW O G D k n Q S tgt ls st) : BW O G D k n Q S pc ls (vi y :: vi x :: st) := by
  obtain ⟨p, l, e, R, s, m, args, below, meth, c⟩ := G
  intro hR F H locs la hP hS hL
  exact lv_icmp_gt F.1 F.2.1 (F.dec hT) ht (fun _ => kk hR F H locs la hP hS hL) (fun q => absurd hc q)
theorem a_icmp_gt_f {O : Om} {G : Cx} {D : FD} {k n : Nat} {Q : State → Prop} {S : Mem} {pc : Nat} {ls : List (Option AV)} {st : List AV} (a b : Nat) {x y : Int32} {off : Int} (hT : IA D a b pc (.if_icmp .gt off) 3) (hc : ¬ y < x) {tgt : Nat} (ht : (pc : Int) + off = (tgt : Int)) (kk : BW O G D k n Q S (pc + 3) ls st) : BW O G D k n Q S pc ls (vi y :: vi x :: st) := by
  obtain ⟨p, l, e, R, s, m, args, below, meth, c⟩ := G
  intro hR F H locs la hP hS hL
  exact lv_icmp_gt F.1 F.2.1 (F.dec hT) ht (fun q => absurd q hc) (fun _ => kk hR F H locs la hP hS hL)
theorem a_if_le {O : Om} {G : Cx} {D : FD} {k n : Nat} {Q : State → Prop} {S : Mem} {pc : Nat} {ls : List (Option AV)} {st : List AV} (a b : Nat) {x : Int32} {off : Int} {tgt : Nat} (hT : IA D a b pc (.ifCond .le off) 3) (ht : (pc : Int) + off = (tgt : Int)) (kt : x ≤ 0 → BW O G D k n Q S tgt ls st) (kf : ¬ x ≤ 0 → BW O G D k n Q S (pc + 3) ls st) : BW O G D k n Q S pc ls (vi x :: st) := by
  obtain ⟨p, l, e, R, s, m, args, below, meth, c⟩ := G
  intro hR F H locs la hP hS hL
  exact lv_if_le F.1 F.2.1 (F.dec hT) ht (fun q => kt q hR F H locs la hP hS hL) (fun q => kf q hR F H locs la hP hS hL)
theorem a_if_le_t {O : Om} {G : Cx} {D : FD} {k n : Nat} {Q : State → Prop} {S : Mem} {pc : Nat} {ls : List (Option AV)} {st : List AV} (a b : Nat) {x : Int32} {off : Int} {tgt : Nat} (hT : IA D a b pc (.ifCond .le off) 3) (ht : (pc : Int) + off = (tgt : Int)) (hc : x ≤ 0) (kk : BW O G D k n Q S tgt ls st) : BW O G D k n Q S pc ls (vi x :: st) := by
  obtain ⟨p, l, e, R, s, m, args, below, meth, c⟩ := G
  intro hR F H locs la hP hS hL
  exact lv_if_le F.1 F.2.1 (F.dec hT) ht (fun _ => kk hR F H locs la hP hS hL) (fun q => absurd hc q)
theorem a_if_le_f {O : Om} {G : Cx} {D : FD} {k n : Nat} {Q : State → Prop} {S : Mem} {pc : Nat} {ls : List (Option AV)} {st : List AV} (a b : Nat) {x : Int32} {off : Int} (hT : IA D a b pc (.ifCond .le off) 3) (hc : ¬ x ≤ 0) {tgt : Nat} (ht : (pc : Int) + off = (tgt : Int)) (kk : BW O G D k n Q S (pc + 3) ls st) : BW O G D k n Q S pc ls (vi x :: st) := by
  obtain ⟨p, l, e, R, s, m, args, below, meth, c⟩ := G
  intro hR F H locs la hP hS hL
  exact lv_if_le F.1 F.2.1 (F.dec hT) ht (fun q => absurd q hc) (fun _ => kk hR F H locs la hP hS hL)
theorem a_icmp_le {O : Om} {G : Cx} {D : FD} {k n : Nat} {Q : State → Prop} {S : Mem} {pc : Nat} {ls : List (Option AV)} {st : List AV} (a b : Nat) {x y : Int32} {off : Int} {tgt : Nat} (hT : IA D a b pc (.if_icmp .le off) 3) (ht : (pc : Int) + off = (tgt : Int)) (kt : x ≤ y → BW O G D k n Q S tgt ls st) (kf : ¬ x ≤ y → BW O G D k n Q S (pc + 3) ls st) : BW O G D k n Q S pc ls (vi y :: vi x :: st) := by
  obtain ⟨p, l, e, R, s, m, args, below, meth, c⟩ := G
  intro hR F H locs la hP hS hL
  exact lv_icmp_le F.1 F.2.1 (F.dec hT) ht (fun q => kt q hR F H locs la hP hS hL) (fun q => kf q hR F H locs la hP hS hL)
theorem a_icmp_le_t {O : Om} {G : Cx} {D : FD} {k n : Nat} {Q : State → Prop} {S : Mem} {pc : Nat} {ls : List (Option AV)} {st : List AV} (a b : Nat) {x y : Int32} {off : Int} {tgt : Nat} (hT : IA D a b pc (.if_icmp .le off) 3) (ht : (pc : Int) + off = (tgt : Int)) (hc : x ≤ y) (kk : BW O G D k n Q S tgt ls st) : BW O G D k n Q S pc ls (vi y :: vi x :: st) := by
  obtain ⟨p, l, e, R, s, m, args, below, meth, c⟩ := G
  intro hR F H locs la hP hS hL
  exact lv_icmp_le F.1 F.2.1 (F.dec hT) ht (fun _ => kk hR F H locs la hP hS hL) (fun q => absurd hc q)
theorem a_icmp_le_f {O : Om} {G : Cx} {D : FD} {k n : Nat} {Q : State → Prop} {S : Mem} {pc : Nat} {ls : List (Option AV)} {st : List AV} (a b : Nat) {x y : Int32} {off : Int} (hT : IA D a b pc (.if_icmp .le off) 3) (hc : ¬ x ≤ y) {tgt : Nat} (ht : (pc : Int) + off = (tgt : Int)) (kk : BW O G D k n Q S (pc + 3) ls st) : BW O G D k n Q S pc ls (vi y :: vi x :: st) := by
  obtain ⟨p, l, e, R, s, m, args, below, meth, c⟩ := G
  intro hR F H locs la hP hS hL
  exact lv_icmp_le F.1 F.2.1 (F.dec hT) ht (fun q => absurd q hc) (fun _ => kk hR F H locs la hP hS hL)
theorem a_goto {O : Om} {G : Cx} {D : FD} {k n : Nat} {Q : State → Prop} {S : Mem} {pc : Nat} {ls : List (Option AV)} {st : List AV} (a b : Nat) {off : Int} {tgt : Nat} (hT : IA D a b pc (.goto off) 3) (ht : (pc : Int) + off = (tgt : Int)) (kk : BW O G D k n Q S tgt ls st) : BW O G D k n Q S pc ls st := by
  obtain ⟨p, l, e, R, s, m, args, below, meth, c⟩ := G
  intro hR F H locs la hP hS hL
  exact lv_goto F.1 F.2.1 (F.dec hT) ht (kk hR F H locs la hP hS hL)
theorem a_ifnonnull {O : Om} {G : Cx} {D : FD} {k n : Nat} {Q : State → Prop} {S : Mem} {pc : Nat} {ls : List (Option AV)} {st : List AV} (a b : Nat) {q : Nat × Nat} {off : Int} {tgt : Nat} (hT : IA D a b pc (.ifnonnull off) 3) (ht : (pc : Int) + off = (tgt : Int)) (kk : BW O G D k n Q S tgt ls st) : BW O G D k n Q S pc ls (.inr q :: st) := by
  obtain ⟨p, l, e, R, s, m, args, below, meth, c⟩ := G
  intro hR F H locs la hP hS hL
  exact lv_ifnonnull F.1 F.2.1 (F.dec hT) ht (kk hR F H locs la hP hS hL)
theorem a_tabIn {O : Om} {G : Cx} {D : FD} {k n : Nat} {Q : State → Prop} {S : Mem} {pc : Nat} {ls : List (Option AV)} {st : List AV} (a b : Nat) {dflt lo hi : Int} {offs : Array Int} {len : Nat} {x : Int32} {off : Int} {tgt : Nat} (hT : IA D a b pc (.tableswitch dflt lo hi offs) len) (h1 : ¬ x.toInt < lo) (h2 : ¬ hi < x.toInt) (ho : offs[(x.toInt - lo).toNat]? = some off) (ht : (pc : Int) + off = (tgt : Int)) (kk : BW O G D k n Q S tgt ls st) : BW O G D k n Q S pc ls (vi x :: st) := by
  obtain ⟨p, l, e, R, s, m, args, below, meth, c⟩ := G
  intro hR F H locs la hP hS hL
  exact lv_tableIn F.1 F.2.1 (F.dec hT) h1 h2 ho ht (kk hR F H locs la hP hS hL)
theorem a_tabOut {O : Om} {G : Cx} {D : FD} {k n : Nat} {Q : State → Prop} {S : Mem} {pc : Nat} {ls : List (Option AV)} {st : List AV} (a b : Nat) {dflt lo hi : Int} {offs : Array Int} {len : Nat} {x : Int32} {tgt : Nat} (hT : IA D a b pc (.tableswitch dflt lo hi offs) len) (h : x.toInt < lo ∨ hi < x.toInt) (ht : (pc : Int) + dflt = (tgt : Int)) (kk : BW O G D k n Q S tgt ls st) : BW O G D k n Q S pc ls (vi x :: st) := by
  obtain ⟨p, l, e, R, s, m, args, below, meth, c⟩ := G
  intro hR F H locs la hP hS hL
  exact lv_tableOut F.1 F.2.1 (F.dec hT) h ht (kk hR F H locs la hP hS hL)
theorem a_iret {O : Om} {G : Cx} {D : FD} {k n : Nat} {S : Mem} {pc : Nat} {ls : List (Option AV)} {P : Option AV → Mem → Prop} (a b : Nat) {x : Int32} (hr : D.1.2.2.2.2.1 = some .int) (hT : IA D a b pc .ireturn 1) (hp : P (some (vi x)) S) : BW O G D k n (QV O G k n P) S pc ls [vi x] := by
  obtain ⟨p, l, e, R, s, m, args, below, meth, c⟩ := G
  intro hR F H locs la hP hS hL
  exact W.iret F.1 F.2.1 (F.2.2.2.2.2.1.trans hr) (fun t ht _ => ⟨⟨some (vi x), S, rfl, hp, by rw [ht]; exact hP⟩, hS.F ht⟩) hS.2.2 (F.dec hT) F.2.2.2.2.2.2.1
theorem a_zret {O : Om} {G : Cx} {D : FD} {k n : Nat} {S : Mem} {pc : Nat} {ls : List (Option AV)} {P : Option AV → Mem → Prop} (a b : Nat) {x : Int32} (hr : D.1.2.2.2.2.1 = some .boolean) (hx : narrow .boolean (.int x) = .int x) (hT : IA D a b pc .ireturn 1) (hp : P (some (vi x)) S) : BW O G D k n (QV O G k n P) S pc ls [vi x] := by
  obtain ⟨p, l, e, R, s, m, args, below, meth, c⟩ := G
  intro hR F H locs la hP hS hL
  exact W.zret F.1 F.2.1 (F.2.2.2.2.2.1.trans hr) hx (fun t ht _ => ⟨⟨some (vi x), S, rfl, hp, by rw [ht]; exact hP⟩, hS.F ht⟩) hS.2.2 (F.dec hT) F.2.2.2.2.2.2.1
theorem a_vret {O : Om} {G : Cx} {D : FD} {k n : Nat} {S : Mem} {pc : Nat} {ls : List (Option AV)} {P : Option AV → Mem → Prop} (a b : Nat) (hr : D.1.2.2.2.2.1 = none) (hT : IA D a b pc .return_ 1) (hp : P none S) : BW O G D k n (QV O G k n P) S pc ls [] := by
  obtain ⟨p, l, e, R, s, m, args, below, meth, c⟩ := G
  intro hR F H locs la hP hS hL
  exact W.vret F.1 F.2.1 (F.2.2.2.2.2.1.trans hr) (fun t ht _ => ⟨⟨none, S, rfl, hp, by rw [ht]; exact hP⟩, hS.F ht⟩) hS.2.2 (F.dec hT) F.2.2.2.2.2.2.1
theorem a_aret {O : Om} {G : Cx} {D : FD} {k n : Nat} {S : Mem} {pc : Nat} {ls : List (Option AV)} {P : Option AV → Mem → Prop} (a b : Nat) {q : Nat × Nat} {C : String} (hr : D.1.2.2.2.2.1 = some (.object C)) (hT : IA D a b pc .areturn 1) (hp : P (some (.inr q)) S) : BW O G D k n (QV O G k n P) S pc ls [.inr q] := by
  obtain ⟨p, l, e, R, s, m, args, below, meth, c⟩ := G
  intro hR F H locs la hP hS hL
  exact W.aret F.1 F.2.1 (F.2.2.2.2.2.1.trans hr) (Or.inl ⟨C, rfl⟩) (Or.inr ⟨_, rfl⟩) (fun t ht _ => ⟨⟨some (.inr q), S, rfl, hp, by rw [ht]; exact hP⟩, hS.F ht⟩) hS.2.2 (F.dec hT) F.2.2.2.2.2.2.1
theorem a_mmin {O : Om} {G : Cx} {D : FD} {k n : Nat} {Q : State → Prop} {S : Mem} {pc : Nat} {ls : List (Option AV)} {st : List AV} (a b : Nat) {x y : Int32} {i : Nat} (hT : IA D a b pc (.invokestatic i) 3) (hw : Cond.methodLink D.1.1 i Lib.Math.min.name ∈ WSg ∧ Cond.static Lib.Math.min.name ∈ WSg ∧ Cond.initialized "java/lang/Math" ∈ WSg ∧ Cond.code Lib.Math.min.name Lib.Math.min.code 2 (some .int) ∈ WSg) (hz : 1 ≤ D.2.2.1 ∧ 8 + 13 ≤ D.2.2.2.1 ∧ ((stV O st).map fun v => v.category).sum ≤ 8 ∧ k ≤ D.2.2.2.2.1 ∧ n ≤ D.2.2.2.2.2) (kk : BW O G D k n Q S (pc + 3) ls (vi (if y < x then y else x) :: st)) : BW O G D k n Q S pc ls (vi y :: vi x :: st) := by
  obtain ⟨p, l, e, R, s, m, args, below, meth, c⟩ := G
  intro hR F H locs la hP hS hL
  have hRe : R = rmO D.2.2.1 D.2.2.2.1 D.2.2.2.2.1 D.2.2.2.2.2 := hR
  refine va_mmin F.1 F.2.1 (F.2.2.1.trans hL.1.symm) F.2.2.2.1 (F.2.2.2.2.1 _ hw.1) (F.2.2.2.2.1 _ hw.2.1) (F.2.2.2.2.1 _ hw.2.2.1) (F.2.2.2.2.1 _ hw.2.2.2) ?_ ?_ ?_ ?_ (F.dec hT) (kk hR F H locs la hP hS hL)
  · rw [hRe]; exact hz.1
  · rw [hRe]; have h1 := hz.2.1; have h2 := hz.2.2.1; show _ + 13 ≤ D.2.2.2.1; unfold stV at h2; omega
  · rw [hRe]; exact hz.2.2.2.1
  · rw [hRe]; exact hz.2.2.2.2
theorem a_mmax {O : Om} {G : Cx} {D : FD} {k n : Nat} {Q : State → Prop} {S : Mem} {pc : Nat} {ls : List (Option AV)} {st : List AV} (a b : Nat) {x y : Int32} {i : Nat} (hT : IA D a b pc (.invokestatic i) 3) (hw : Cond.methodLink D.1.1 i Lib.Math.max.name ∈ WSg ∧ Cond.static Lib.Math.max.name ∈ WSg ∧ Cond.initialized "java/lang/Math" ∈ WSg ∧ Cond.code Lib.Math.max.name Lib.Math.max.code 2 (some .int) ∈ WSg) (hz : 1 ≤ D.2.2.1 ∧ 8 + 13 ≤ D.2.2.2.1 ∧ ((stV O st).map fun v => v.category).sum ≤ 8 ∧ k ≤ D.2.2.2.2.1 ∧ n ≤ D.2.2.2.2.2) (kk : BW O G D k n Q S (pc + 3) ls (vi (if x < y then y else x) :: st)) : BW O G D k n Q S pc ls (vi y :: vi x :: st) := by
  obtain ⟨p, l, e, R, s, m, args, below, meth, c⟩ := G
  intro hR F H locs la hP hS hL
  have hRe : R = rmO D.2.2.1 D.2.2.2.1 D.2.2.2.2.1 D.2.2.2.2.2 := hR
  refine va_mmax F.1 F.2.1 (F.2.2.1.trans hL.1.symm) F.2.2.2.1 (F.2.2.2.2.1 _ hw.1) (F.2.2.2.2.1 _ hw.2.1) (F.2.2.2.2.1 _ hw.2.2.1) (F.2.2.2.2.1 _ hw.2.2.2) ?_ ?_ ?_ ?_ (F.dec hT) (kk hR F H locs la hP hS hL)
  · rw [hRe]; exact hz.1
  · rw [hRe]; have h1 := hz.2.1; have h2 := hz.2.2.1; show _ + 13 ≤ D.2.2.2.1; unfold stV at h2; omega
  · rw [hRe]; exact hz.2.2.2.1
  · rw [hRe]; exact hz.2.2.2.2
