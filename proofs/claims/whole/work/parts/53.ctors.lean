/-! constructors: their walks -/
theorem e_eqx {O : Om} {G : Cx} {D : FD} {k n : Nat} {Q : State → Prop} {L : List (Nat × Nat × va_E)} {x x' pc : Nat} {ls : List (Option AV)} {st : List AV} (hx : x = x') (kk : CW O G D k n Q (L, x') pc ls st) : CW O G D k n Q (L, x) pc ls st := hx ▸ kk
theorem CIs.of {l : Launch} {O : Om} {d : MD} {fr lo kc ns : Nat} {as : List AV} {T T' : TC} {ls : List (Option AV)} (hl : l.stackTraces = false) (hd : MDok d) (hy : plainName d.2.1.cls = true) (hown : d.2.1.cls = d.1) (hc : as.all cat1 = true) (hn : as.length ≤ d.2.2.2.1) (hls : as.map some ++ List.replicate (d.2.2.2.1 - as.length) none = ls)
    (body : ∀ G : Cx, CW O G (d, [], (fr, lo, kc, ns)) 0 0 (QI O G kc ns T') T 0 ls []) : CI l O d fr lo kc ns as T T' :=
  CI.of hl hd hy hown (cat1_ok hc) hn (fun G => by
    have key := body G
    obtain ⟨p, l, e, R, s, m, args, below, meth, c⟩ := G
    intro hR FF H locs la hP hS hL
    exact key hR FF H locs la hP hS (by rw [← hls]; exact hL.pad _))
def part {α : Type} (N j : Nat) (z : α) (g : Nat → α) : Nat → α := fun q => if j ≤ q ∧ q < N then z else g q
theorem part_0 {α : Type} {N q : Nat} {z : α} {g : Nat → α} (h : q < N) : part N 0 z g q = z := if_pos ⟨Nat.zero_le _, h⟩
theorem part_N {α : Type} (N : Nat) {z : α} {g : Nat → α} : part N N z g = g := by
  funext q
  unfold part
  rw [if_neg (by omega)]
theorem part_s {α : Type} {N j : Nat} {z : α} {g : Nat → α} (h : j < N) : (fun q => if q = j then g j else part N j z g q) = part N (j + 1) z g := by
  funext q
  unfold part
  by_cases h1 : q = j
  · rw [if_pos h1, if_neg (by omega), h1]
  · rw [if_neg h1]
    by_cases h2 : j ≤ q ∧ q < N
    · rw [if_pos h2, if_pos (by omega)]
    · rw [if_neg h2, if_neg (by omega)]
theorem iincJ (j : Nat) : nI j + Int32.ofInt 1 = nI (j + 1) := by
  rw [← nI_add]
  rfl
theorem posK_0j {j : Nat} (h : j < 4) : posK 0 j = 44 + 1 * j := (if_neg (by omega)).trans (by omega)
theorem posK_1j {j : Nat} (h : j < 12) : posK 1 j = 279 + 1 * j := (if_neg (by omega)).trans (by omega)
theorem posK_5j {j : Nat} (h : j < 16) : posK 5 j = 12 + 2 * j := if_neg (by omega)
theorem posK_6j {j : Nat} (h : j < 20) : posK 6 j = 254 + 1 * j := (if_neg (by omega)).trans (by omega)
theorem posK_9j {j : Nat} (h : j < 200) : posK 9 j = 51 + 1 * j := (if_neg (by omega)).trans (by omega)
theorem posK_23j {j : Nat} (h : j < 16) : posK 23 j = 12 + 2 * j + 1 := (if_neg (by omega)).trans (by omega)
theorem S0c_drawn {i j : Nat} : S0.1 (kDrawnC + i) j = 0 := by
  show S0c (67 + i) j = 0
  unfold S0c
  rw [if_neg (by show ¬ (67 + i = 7 ∨ 67 + i = 10); omega), if_neg (by show ¬ (67 + i = 12 ∨ 67 + i = 14 ∨ 67 + i = 3 ∨ 67 + i = 4); omega), if_neg (by show ¬ (67 + i = 19); omega), if_neg (by show ¬ (67 + i = 51); omega)]
theorem bl_X0 : ∀ j, j < 8 → defaultValue (tyX0 j) = vp_V [.int 0, .int 0, .int 0, .int 0, .int 0, .int 0, .int 0, .int 0] j := by decide +kernel
theorem bl_X1 : ∀ j, j < 5 → defaultValue (tyX1 j) = vp_V [.int 0, .int 0, .int 0, .int 0, .int 0] j := by decide +kernel
theorem bl_X2 : ∀ j, j < 6 → defaultValue (tyX2 j) = vp_V [.null, .null, .int 0, .int 0, .null, .null] j := by decide +kernel
theorem bl_X3 : ∀ j, j < 6 → defaultValue (tyX3 j) = vp_V [.null, .null, .null, .null, .null, .null] j := by decide +kernel
theorem bl_X4 : ∀ j, j < 7 → defaultValue (tyX4 j) = vp_V [.int 0, .int 0, .int 0, .int 0, .int 0, .int 0, .int 0] j := by decide +kernel
theorem bl_X5 : ∀ j, j < 11 → defaultValue (tyX5 j) = vp_V [.int 0, .int 0, .int 0, .int 0, .int 0, .int 0, .int 0, .int 0, .int 0, .int 0, .null] j := by decide +kernel
theorem bl_X6 : ∀ j, j < 5 → defaultValue (tyX6 j) = vp_V [.int 0, .int 0, .int 0, .int 0, .int 0] j := by decide +kernel
theorem bl_X7 : ∀ j, j < 3 → defaultValue (tyX7 j) = vp_V [.int 0, .null, .null] j := by decide +kernel
theorem bl_X8 : ∀ j, j < 4 → defaultValue (tyX8 j) = vp_V [.null, .null, .null, .int 0] j := by decide +kernel
theorem bl_X9 : ∀ j, j < 9 → defaultValue (tyX9 j) = vp_V [.int 0, .int 0, .int 0, .int 0, .int 0, .int 0, .int 0, .int 0, .int 0] j := by decide +kernel
theorem bl_X10 : ∀ j, j < 3 → defaultValue (tyX10 j) = vp_V [.int 0, .null, .null] j := by decide +kernel
theorem bl_X11 : ∀ j, j < 5 → defaultValue (tyX11 j) = vp_V [.null, .null, .null, .null, .int 0] j := by decide +kernel
theorem bl_X12 : ∀ j, j < 52 → defaultValue (tyX12 j) = vp_V [.int 0, .int 0, .int 0, .int 0, .int 0, .null, .null, .null, .null, .null, .null, .null, .null, .null, .null, .null, .null, .null, .null, .null, .null, .null, .null, .null, .int 0, .null, .null, .null, .null, .null, .int 0, .null, .null, .null, .null, .null, .null, .null, .null, .int 0, .null, .null, .int 0, .null, .null, .null, .null, .null, .int 0, .int 0, .int 0, .int 0] j := by decide +kernel
set_option maxHeartbeats 4000000 in
theorem c_X0 {l : Launch} {O : Om} (hl : l.stackTraces = false) (L : List (Nat × Nat × va_E)) (i x : Nat) : CI l O mdX0_init 1 20 0 0 [vr 0 i] ((0, i, .inr (0, [.int 0, .int 0, .int 0, .int 0, .int 0, .int 0, .int 0, .int 0])) :: L, x) ((0, i, .inr (0, [.int 0, .int 0, .int 0, .int (nI 1000), .int 0, .int 0, .int 0, .int 0])) :: L, x) :=
  CIs.of (ls := [some (vr 0 i)]) hl dtX0_init (by decide +kernel) rfl rfl (Nat.le_of_ble_eq_true rfl) rfl (fun G => by
    refine e_aload_n (pc := 0) 0 0 rfl rfl ?_
    refine e_oinit (pc := 1) 0 1 rfl oi_X0 ⟨by decide, by decide, (by rw [cat_sum rfl]; exact Nat.le_of_ble_eq_true rfl)⟩ ?_
    refine e_aload_n (pc := 4) 0 2 rfl rfl ?_
    refine e_sipush (pc := 5) 0 3 (v := (nI 1000)) rfl (by decide) ?_
    refine e_put (pc := 8) 0 4 (kd := 0) (i := i) (ci := 0) (N := 8) (j := 3) (C := RX0) (T := TX0) (v := vi (nI 1000)) (ty := tyX0 3) (L' := (0, i, .inr (0, [.int 0, .int 0, .int 0, .int (nI 1000), .int 0, .int 0, .int 0, .int 0])) :: L) 0 rfl rfl rfl inW0 tyX0 tyX0_ok nmX0 (by decide) fl_X0_7 rfl rfl (tyX0_ok 3 (by decide)) rfl rfl (Nat.le_of_ble_eq_true rfl) rfl ?_
    refine e_widen (k' := 0) (n' := 0) (by decide) (by decide) ?_
    refine e_eqx (x' := x) (by rfl) ?_
    exact e_vret (pc := 11) 0 5 rfl rfl)
set_option maxHeartbeats 4000000 in
theorem c_X1 {l : Launch} {O : Om} (hl : l.stackTraces = false) (L : List (Nat × Nat × va_E)) (i x : Nat) : CI l O mdX1_init 1 20 0 0 [vr 1 i] ((1, i, .inr (1, [.int 0, .int 0, .int 0, .int 0, .int 0])) :: L, x) ((1, i, .inr (1, [.int 0, .int 0, .int 0, .int 0, .int 0])) :: L, x) :=
  CIs.of (ls := [some (vr 1 i)]) hl dtX1_init (by decide +kernel) rfl rfl (Nat.le_of_ble_eq_true rfl) rfl (fun G => by
    refine e_aload_n (pc := 0) 0 0 rfl rfl ?_
    refine e_oinit (pc := 1) 0 1 rfl oi_X1 ⟨by decide, by decide, (by rw [cat_sum rfl]; exact Nat.le_of_ble_eq_true rfl)⟩ ?_
    refine e_widen (k' := 0) (n' := 0) (by decide) (by decide) ?_
    refine e_eqx (x' := x) (by rfl) ?_
    exact e_vret (pc := 4) 0 2 rfl rfl)
set_option maxHeartbeats 4000000 in
theorem c_X6 {l : Launch} {O : Om} (hl : l.stackTraces = false) (L : List (Nat × Nat × va_E)) (i x : Nat) : CI l O mdX6_init 1 20 0 0 [vr 6 i] ((6, i, .inr (6, [.int 0, .int 0, .int 0, .int 0, .int 0])) :: L, x) ((6, i, .inr (6, [.int 0, .int 0, .int 0, .int 0, .int 0])) :: L, x) :=
  CIs.of (ls := [some (vr 6 i)]) hl dtX6_init (by decide +kernel) rfl rfl (Nat.le_of_ble_eq_true rfl) rfl (fun G => by
    refine e_aload_n (pc := 0) 0 0 rfl rfl ?_
    refine e_oinit (pc := 1) 0 1 rfl oi_X6 ⟨by decide, by decide, (by rw [cat_sum rfl]; exact Nat.le_of_ble_eq_true rfl)⟩ ?_
    refine e_widen (k' := 0) (n' := 0) (by decide) (by decide) ?_
    refine e_eqx (x' := x) (by rfl) ?_
    exact e_vret (pc := 4) 0 2 rfl rfl)
set_option maxHeartbeats 4000000 in
theorem c_X9 {l : Launch} {O : Om} (hl : l.stackTraces = false) (L : List (Nat × Nat × va_E)) (i x : Nat) : CI l O mdX9_init 1 20 0 0 [vr 9 i] ((9, i, .inr (9, [.int 0, .int 0, .int 0, .int 0, .int 0, .int 0, .int 0, .int 0, .int 0])) :: L, x) ((9, i, .inr (9, [.int 0, .int 0, .int 0, .int 0, .int 0, .int 0, .int 0, .int 0, .int 0])) :: L, x) :=
  CIs.of (ls := [some (vr 9 i)]) hl dtX9_init (by decide +kernel) rfl rfl (Nat.le_of_ble_eq_true rfl) rfl (fun G => by
    refine e_aload_n (pc := 0) 0 0 rfl rfl ?_
    refine e_oinit (pc := 1) 0 1 rfl oi_X9 ⟨by decide, by decide, (by rw [cat_sum rfl]; exact Nat.le_of_ble_eq_true rfl)⟩ ?_
    refine e_widen (k' := 0) (n' := 0) (by decide) (by decide) ?_
    refine e_eqx (x' := x) (by rfl) ?_
    exact e_vret (pc := 4) 0 2 rfl rfl)
set_option maxHeartbeats 4000000 in
theorem c_X4 {l : Launch} {O : Om} (hl : l.stackTraces = false) (L : List (Nat × Nat × va_E)) : CI l O mdX4_init 1 20 0 0 [vr 4 0] ((4, 0, .inr (4, [.int 0, .int 0, .int 0, .int 0, .int 0, .int 0, .int 0])) :: L, 3) ((4, 0, .inr (4, [.int 0, .int (nI 10), .int (nI 10), .int (nI 100), .int 0, .int 0, .int 0])) :: L, 3) :=
  CIs.of (ls := [some (vr 4 0)]) hl dtX4_init (by decide +kernel) rfl rfl (Nat.le_of_ble_eq_true rfl) rfl (fun G => by
    refine e_aload_n (pc := 0) 0 0 rfl rfl ?_
    refine e_oinit (pc := 1) 0 1 rfl oi_X4 ⟨by decide, by decide, (by rw [cat_sum rfl]; exact Nat.le_of_ble_eq_true rfl)⟩ ?_
    refine e_aload_n (pc := 4) 0 2 rfl rfl ?_
    refine e_bipush (pc := 5) 0 3 (v := (nI 10)) rfl (by decide) ?_
    refine e_put (pc := 7) 0 4 (kd := 4) (i := 0) (ci := 4) (N := 7) (j := 1) (C := RX4) (T := TX4) (v := vi (nI 10)) (ty := tyX4 1) (L' := (4, 0, .inr (4, [.int 0, .int (nI 10), .int 0, .int 0, .int 0, .int 0, .int 0])) :: L) 0 rfl rfl rfl inW4 tyX4 tyX4_ok nmX4 (by decide) fl_X4_7 rfl rfl (tyX4_ok 1 (by decide)) rfl rfl (Nat.le_of_ble_eq_true rfl) rfl ?_
    refine e_aload_n (pc := 10) 0 5 rfl rfl ?_
    refine e_bipush (pc := 11) 0 6 (v := (nI 10)) rfl (by decide) ?_
    refine e_put (pc := 13) 0 7 (kd := 4) (i := 0) (ci := 4) (N := 7) (j := 2) (C := RX4) (T := TX4) (v := vi (nI 10)) (ty := tyX4 2) (L' := (4, 0, .inr (4, [.int 0, .int (nI 10), .int (nI 10), .int 0, .int 0, .int 0, .int 0])) :: L) 0 rfl rfl rfl inW4 tyX4 tyX4_ok nmX4 (by decide) fl_X4_13 rfl rfl (tyX4_ok 2 (by decide)) rfl rfl (Nat.le_of_ble_eq_true rfl) rfl ?_
    refine e_aload_n (pc := 16) 0 8 rfl rfl ?_
    refine e_bipush (pc := 17) 0 9 (v := (nI 100)) rfl (by decide) ?_
    refine e_put (pc := 19) 0 10 (kd := 4) (i := 0) (ci := 4) (N := 7) (j := 3) (C := RX4) (T := TX4) (v := vi (nI 100)) (ty := tyX4 3) (L' := (4, 0, .inr (4, [.int 0, .int (nI 10), .int (nI 10), .int (nI 100), .int 0, .int 0, .int 0])) :: L) 0 rfl rfl rfl inW4 tyX4 tyX4_ok nmX4 (by decide) fl_X4_16 rfl rfl (tyX4_ok 3 (by decide)) rfl rfl (Nat.le_of_ble_eq_true rfl) rfl ?_
    refine e_widen (k' := 0) (n' := 0) (by decide) (by decide) ?_
    refine e_eqx (x' := 3) (by rfl) ?_
    exact e_vret (pc := 22) 0 11 rfl rfl)
set_option maxHeartbeats 4000000 in
theorem c_X8 {l : Launch} {O : Om} (hl : l.stackTraces = false) (L : List (Nat × Nat × va_E)) : CI l O mdX8_init 1 20 3 817 [vr 8 0] ((8, 0, .inr (8, [.null, .null, .null, .int 0])) :: L, 4) ((8, 0, .inr (8, [.ref (O.2.1 20 0), .ref (O.2.1 21 0), .ref (O.2.1 22 0), .int 0])) :: L, 7) :=
  CIs.of (ls := [some (vr 8 0)]) hl dtX8_init (by decide +kernel) rfl rfl (Nat.le_of_ble_eq_true rfl) rfl (fun G => by
    refine e_aload_n (pc := 0) 0 0 rfl rfl ?_
    refine e_oinit (pc := 1) 0 1 rfl oi_X8 ⟨by decide, by decide, (by rw [cat_sum rfl]; exact Nat.le_of_ble_eq_true rfl)⟩ ?_
    refine e_aload_n (pc := 4) 0 2 rfl rfl ?_
    refine e_sipush (pc := 5) 0 3 (v := (nI 400)) rfl (by decide) ?_
    refine e_newa (pc := 8) 0 4 (atype := .int) (ty := .int) (kd := 20) (i := 0) (t0 := 0) (N := 400) (f := fun j => S0.1 kLogOwners j) rfl rfl (Or.inl rfl) (by decide) rfl rfl ac_int (fun _ _ => rfl) rfl (by decide) ⟨by decide, by decide⟩ ?_
    refine e_drop0 rfl ?_
    refine e_putF (pc := 10) 0 5 (kd := 8) (i := 0) (ci := 8) (N := 4) (j := 0) (C := RX8) (T := TX8) (v := vr 20 0) (ty := tyX8 0) (L' := (8, 0, .inr (8, [.ref (O.2.1 20 0), .null, .null, .int 0])) :: L) 0 rfl rfl rfl inW8 tyX8 tyX8_ok nmX8 (by decide) fl_X8_11 rfl rfl rfl rfl (tyX8_ok 0 (by decide)) rfl rfl (Nat.le_of_ble_eq_true rfl) rfl ?_
    refine e_aload_n (pc := 13) 0 6 rfl rfl ?_
    refine e_sipush (pc := 14) 0 7 (v := (nI 400)) rfl (by decide) ?_
    refine e_newa (pc := 17) 0 8 (atype := .int) (ty := .int) (kd := 21) (i := 0) (t0 := 0) (N := 400) (f := fun j => S0.1 kLogChanges j) rfl rfl (Or.inl rfl) (by decide) rfl rfl ac_int (fun _ _ => rfl) rfl (by decide) ⟨by decide, by decide⟩ ?_
    refine e_drop0 rfl ?_
    refine e_putF (pc := 19) 0 9 (kd := 8) (i := 0) (ci := 8) (N := 4) (j := 1) (C := RX8) (T := TX8) (v := vr 21 0) (ty := tyX8 1) (L' := (8, 0, .inr (8, [.ref (O.2.1 20 0), .ref (O.2.1 21 0), .null, .int 0])) :: L) 0 rfl rfl rfl inW8 tyX8 tyX8_ok nmX8 (by decide) fl_X8_15 rfl rfl rfl rfl (tyX8_ok 1 (by decide)) rfl rfl (Nat.le_of_ble_eq_true rfl) rfl ?_
    refine e_aload_n (pc := 22) 0 10 rfl rfl ?_
    refine e_bipush (pc := 23) 0 11 (v := (nI 17)) rfl (by decide) ?_
    refine e_newa (pc := 25) 0 12 (atype := .int) (ty := .int) (kd := 22) (i := 0) (t0 := 0) (N := 17) (f := fun j => S0.1 kLogCarried j) rfl rfl (Or.inl rfl) (by decide) rfl rfl ac_int (fun _ _ => rfl) rfl (by decide) ⟨by decide, by decide⟩ ?_
    refine e_drop0 rfl ?_
    refine e_putF (pc := 27) 0 13 (kd := 8) (i := 0) (ci := 8) (N := 4) (j := 2) (C := RX8) (T := TX8) (v := vr 22 0) (ty := tyX8 2) (L' := (8, 0, .inr (8, [.ref (O.2.1 20 0), .ref (O.2.1 21 0), .ref (O.2.1 22 0), .int 0])) :: L) 0 rfl rfl rfl inW8 tyX8 tyX8_ok nmX8 (by decide) fl_X8_18 rfl rfl rfl rfl (tyX8_ok 2 (by decide)) rfl rfl (Nat.le_of_ble_eq_true rfl) rfl ?_
    refine e_widen (k' := 3) (n' := 817) (by decide) (by decide) ?_
    refine e_eqx (x' := 7) (by rfl) ?_
    exact e_vret (pc := 30) 0 14 rfl rfl)
set_option maxHeartbeats 4000000 in
theorem c_X5 {l : Launch} {O : Om} (hl : l.stackTraces = false) (L : List (Nat × Nat × va_E)) (i x : Nat) (hi : i < 17) (hx : posK 23 i = x) : CI l O mdX5_init 1 20 1 4 [vr 5 i] ((5, i, .inr (5, [.int 0, .int 0, .int 0, .int 0, .int 0, .int 0, .int 0, .int 0, .int 0, .int 0, .null])) :: L, x) ((5, i, .inr (5, [.int 0, .int 0, .int (-1), .int 0, .int 0, .int (-1), .int 0, .int (nI 10), .int (nI 10), .int 0, .ref (O.2.1 23 i)])) :: L, x + 1) :=
  CIs.of (ls := [some (vr 5 i)]) hl dtX5_init (by decide +kernel) rfl rfl (Nat.le_of_ble_eq_true rfl) rfl (fun G => by
    refine e_aload_n (pc := 0) 0 0 rfl rfl ?_
    refine e_oinit (pc := 1) 0 1 rfl oi_X5 ⟨by decide, by decide, (by rw [cat_sum rfl]; exact Nat.le_of_ble_eq_true rfl)⟩ ?_
    refine e_aload_n (pc := 4) 0 2 rfl rfl ?_
    refine e_iconst (pc := 5) 0 3 (v := (-1)) rfl (by decide) ?_
    refine e_put (pc := 6) 0 4 (kd := 5) (i := i) (ci := 5) (N := 11) (j := 2) (C := RX5) (T := TX5) (v := vi (-1)) (ty := tyX5 2) (L' := (5, i, .inr (5, [.int 0, .int 0, .int (-1), .int 0, .int 0, .int 0, .int 0, .int 0, .int 0, .int 0, .null])) :: L) 0 rfl rfl rfl inW5 tyX5 tyX5_ok nmX5 (by decide) fl_X5_9 rfl rfl (tyX5_ok 2 (by decide)) rfl rfl (Nat.le_of_ble_eq_true rfl) rfl ?_
    refine e_aload_n (pc := 9) 0 5 rfl rfl ?_
    refine e_iconst (pc := 10) 0 6 (v := (-1)) rfl (by decide) ?_
    refine e_put (pc := 11) 0 7 (kd := 5) (i := i) (ci := 5) (N := 11) (j := 5) (C := RX5) (T := TX5) (v := vi (-1)) (ty := tyX5 5) (L' := (5, i, .inr (5, [.int 0, .int 0, .int (-1), .int 0, .int 0, .int (-1), .int 0, .int 0, .int 0, .int 0, .null])) :: L) 0 rfl rfl rfl inW5 tyX5 tyX5_ok nmX5 (by decide) fl_X5_15 rfl rfl (tyX5_ok 5 (by decide)) rfl rfl (Nat.le_of_ble_eq_true rfl) rfl ?_
    refine e_aload_n (pc := 14) 0 8 rfl rfl ?_
    refine e_bipush (pc := 15) 0 9 (v := (nI 10)) rfl (by decide) ?_
    refine e_put (pc := 17) 0 10 (kd := 5) (i := i) (ci := 5) (N := 11) (j := 7) (C := RX5) (T := TX5) (v := vi (nI 10)) (ty := tyX5 7) (L' := (5, i, .inr (5, [.int 0, .int 0, .int (-1), .int 0, .int 0, .int (-1), .int 0, .int (nI 10), .int 0, .int 0, .null])) :: L) 0 rfl rfl rfl inW5 tyX5 tyX5_ok nmX5 (by decide) fl_X5_18 rfl rfl (tyX5_ok 7 (by decide)) rfl rfl (Nat.le_of_ble_eq_true rfl) rfl ?_
    refine e_aload_n (pc := 20) 0 11 rfl rfl ?_
    refine e_bipush (pc := 21) 0 12 (v := (nI 10)) rfl (by decide) ?_
    refine e_put (pc := 23) 0 13 (kd := 5) (i := i) (ci := 5) (N := 11) (j := 8) (C := RX5) (T := TX5) (v := vi (nI 10)) (ty := tyX5 8) (L' := (5, i, .inr (5, [.int 0, .int 0, .int (-1), .int 0, .int 0, .int (-1), .int 0, .int (nI 10), .int (nI 10), .int 0, .null])) :: L) 0 rfl rfl rfl inW5 tyX5 tyX5_ok nmX5 (by decide) fl_X5_21 rfl rfl (tyX5_ok 8 (by decide)) rfl rfl (Nat.le_of_ble_eq_true rfl) rfl ?_
    refine e_aload_n (pc := 26) 0 14 rfl rfl ?_
    refine e_iconst (pc := 27) 0 15 (v := (nI 4)) rfl (by decide) ?_
    refine e_newa (pc := 28) 0 16 (atype := .int) (ty := .int) (kd := 23) (i := i) (t0 := 0) (N := 4) (f := fun j => S0.1 (kDrawnC + i) j) rfl rfl (Or.inl rfl) (hi) hx rfl ac_int (fun j _ => S0c_drawn) rfl (by decide) ⟨by decide, by decide⟩ ?_
    refine e_drop0 rfl ?_
    refine e_putF (pc := 30) 0 17 (kd := 5) (i := i) (ci := 5) (N := 11) (j := 10) (C := RX5) (T := TX5) (v := vr 23 i) (ty := tyX5 10) (L' := (5, i, .inr (5, [.int 0, .int 0, .int (-1), .int 0, .int 0, .int (-1), .int 0, .int (nI 10), .int (nI 10), .int 0, .ref (O.2.1 23 i)])) :: L) 0 rfl rfl rfl inW5 tyX5 tyX5_ok nmX5 (by decide) fl_X5_24 rfl rfl rfl rfl (tyX5_ok 10 (by decide)) rfl rfl (Nat.le_of_ble_eq_true rfl) rfl ?_
    refine e_widen (k' := 1) (n' := 4) (by decide) (by decide) ?_
    refine e_eqx (x' := x + 1) (by rfl) ?_
    exact e_vret (pc := 33) 0 18 rfl rfl)
set_option maxHeartbeats 4000000 in
theorem c_X7 {l : Launch} {O : Om} (hl : l.stackTraces = false) (L : List (Nat × Nat × va_E)) : CI l O mdX7_init 2 40 22 125 [vr 7 0] ((7, 0, .inr (7, [.int 0, .null, .null])) :: L, 252) ((7, 0, .inr (7, [.int 0, .ref (O.2.1 16 0), .ref (O.2.1 6 20)])) :: L, 274) :=
  CIs.of (ls := [some (vr 7 0), none]) hl dtX7_init (by decide +kernel) rfl rfl (Nat.le_of_ble_eq_true rfl) rfl (fun G => by
    refine e_aload_n (pc := 0) 0 0 rfl rfl ?_
    refine e_oinit (pc := 1) 0 1 rfl oi_X7 ⟨by decide, by decide, (by rw [cat_sum rfl]; exact Nat.le_of_ble_eq_true rfl)⟩ ?_
    refine e_aload_n (pc := 4) 0 2 rfl rfl ?_
    refine e_bipush (pc := 5) 0 3 (v := (nI 20)) rfl (by decide) ?_
    refine e_newq (pc := 7) 0 4 (C := RX6) (kd := 16) (i := 0) (t0 := 6) (N := 20) (f := part 20 0 none (fun q => some (O.2.1 6 q))) rfl (by decide) rfl rfl ql_X7_9 (fun h => h.2.2.2.1) (fun j hj => part_0 hj) rfl (by decide) ⟨by decide, by decide⟩ ?_
    refine e_putF (pc := 10) 0 5 (kd := 7) (i := 0) (ci := 7) (N := 3) (j := 1) (C := RX7) (T := TX7) (v := vr 16 0) (ty := tyX7 1) (L' := (16, 0, .inl (O.2.2.2 6, 20, .inr (.inr (.inr (.inr (part 20 0 none (fun q => some (O.2.1 6 q)))))))) :: (7, 0, .inr (7, [.int 0, .ref (O.2.1 16 0), .null])) :: L) 1 rfl rfl rfl inW7 tyX7 tyX7_ok nmX7 (by decide) fl_X7_11 rfl rfl rfl rfl (tyX7_ok 1 (by decide)) rfl rfl (Nat.le_of_ble_eq_true rfl) rfl ?_
    refine e_aload_n (pc := 13) 0 6 rfl rfl ?_
    refine e_new (pc := 14) 0 7 (kd := 6) (i := 20) (ci := 6) (N := 5) (C := RX6) (T := TX6) (fs := [.int 0, .int 0, .int 0, .int 0, .int 0]) rfl (by decide) rfl rfl inW6 tyX6 tyX6_ok nw_X7_9 (bl_X6) ⟨by decide, by decide⟩ ?_
    refine e_dup (pc := 17) 0 8 rfl rfl ?_
    refine e_callN (pc := 18) 0 9 (fun l hl => c_X6 hl _ _ _) rfl cn_X7_17 ⟨by decide, by decide, (by rw [cat_sum rfl]; exact Nat.le_of_ble_eq_true rfl), by decide, by decide⟩ ?_
    refine e_putF (pc := 21) 0 10 (kd := 7) (i := 0) (ci := 7) (N := 3) (j := 2) (C := RX7) (T := TX7) (v := vr 6 20) (ty := tyX7 2) (L' := (6, 20, .inr (6, [.int 0, .int 0, .int 0, .int 0, .int 0])) :: (16, 0, .inl (O.2.2.2 6, 20, .inr (.inr (.inr (.inr (part 20 0 none (fun q => some (O.2.1 6 q)))))))) :: (7, 0, .inr (7, [.int 0, .ref (O.2.1 16 0), .ref (O.2.1 6 20)])) :: L) 2 rfl rfl rfl inW7 tyX7 tyX7_ok nmX7 (by decide) fl_X7_18 rfl rfl rfl rfl (tyX7_ok 2 (by decide)) rfl rfl (Nat.le_of_ble_eq_true rfl) rfl ?_
    refine e_drop0 rfl ?_
    refine e_iconst (pc := 24) 0 11 (v := (nI 0)) rfl (by decide) ?_
    refine e_istore_n (pc := 25) 0 12 (ls2 := [some (vr 7 0), some (vi (nI 0))]) rfl rfl (by decide) rfl ?_
    have loop26 : CW O G ((mdX7_init, [], (2, 40, 22, 125)) : FD) 22 125 (QI O G 22 125 ((7, 0, .inr (7, [.int 0, .ref (O.2.1 16 0), .ref (O.2.1 6 20)])) :: L, 274)) ((16, 0, .inl (O.2.2.2 6, 20, .inr (.inr (.inr (.inr (fun q => some (O.2.1 6 q))))))) :: (7, 0, .inr (7, [.int 0, .ref (O.2.1 16 0), .ref (O.2.1 6 20)])) :: L, 274) 54 [some (vr 7 0), some (vi (nI 20))] [] → ∀ m j : Nat, j + m = 20 → CW O G ((mdX7_init, [], (2, 40, 22, 125)) : FD) (2 + 1 * j) (25 + 5 * j) (QI O G 22 125 ((7, 0, .inr (7, [.int 0, .ref (O.2.1 16 0), .ref (O.2.1 6 20)])) :: L, 274)) ((16, 0, .inl (O.2.2.2 6, 20, .inr (.inr (.inr (.inr (part 20 j none (fun q => some (O.2.1 6 q)))))))) :: (7, 0, .inr (7, [.int 0, .ref (O.2.1 16 0), .ref (O.2.1 6 20)])) :: L, 254 + 1 * j) 26 [some (vr 7 0), some (vi (nI j))] [] := by
      intro kk m
      induction m with
      | zero =>
        intro j hj
        have hj : j = 20 := hj
        subst hj
        refine e_iload_n (pc := 26) 0 13 rfl rfl ?_
        refine e_aload_n (pc := 27) 0 14 rfl rfl ?_
        refine e_get (pc := 28) 0 15 (ci := 7) (N := 3) (j := 1) (C := RX7) (T := TX7) (v := vr 16 0) 1 rfl rfl rfl inW7 (by decide) fl_X7_11 rfl rfl ?_
        refine e_alen (pc := 31) 0 16 0 rfl rfl rfl ?_
        refine e_icmp_ge_t (pc := 32) (tgt := 54) 0 17 rfl (by decide) (by decide) ?_
        rw [part_N 20]
        exact kk
      | succ m ih =>
        intro j hj
        have hlt : j < 20 := by omega
        refine e_iload_n (pc := 26) 0 13 rfl rfl ?_
        refine e_aload_n (pc := 27) 0 14 rfl rfl ?_
        refine e_get (pc := 28) 0 15 (ci := 7) (N := 3) (j := 1) (C := RX7) (T := TX7) (v := vr 16 0) 1 rfl rfl rfl inW7 (by decide) fl_X7_11 rfl rfl ?_
        refine e_alen (pc := 31) 0 16 0 rfl rfl rfl ?_
        refine e_icmp_ge_f (pc := 32) (tgt := 54) 0 17 rfl (nI_ge hlt (by decide)) (by decide) ?_
        refine e_aload_n (pc := 35) 0 18 rfl rfl ?_
        refine e_get (pc := 36) 0 19 (ci := 7) (N := 3) (j := 1) (C := RX7) (T := TX7) (v := vr 16 0) 1 rfl rfl rfl inW7 (by decide) fl_X7_11 rfl rfl ?_
        refine e_iload_n (pc := 39) 0 20 rfl rfl ?_
        refine e_new (pc := 40) 0 21 (kd := 6) (i := j) (ci := 6) (N := 5) (C := RX6) (T := TX6) (fs := [.int 0, .int 0, .int 0, .int 0, .int 0]) rfl (Nat.lt_of_lt_of_le hlt (Nat.le_of_ble_eq_true rfl)) (posK_6j hlt) rfl inW6 tyX6 tyX6_ok nw_X7_9 (bl_X6) ⟨by show _ ≤ 22; omega, by show _ ≤ 125; omega⟩ ?_
        refine e_dup (pc := 43) 0 22 rfl rfl ?_
        refine e_callN (pc := 44) 0 23 (fun l hl => c_X6 hl _ _ _) rfl cn_X7_17 ⟨by decide, by decide, (by rw [cat_sum rfl]; exact Nat.le_of_ble_eq_true rfl), (by show _ ≤ 22; omega), (by show _ ≤ 125; omega)⟩ ?_
        refine e_aast (pc := 47) 0 24 (C := RX6) (T := TX6) (NC := 5) (L' := (6, j, .inr (6, [.int 0, .int 0, .int 0, .int 0, .int 0])) :: (16, 0, .inl (O.2.2.2 6, 20, .inr (.inr (.inr (.inr (part 20 (j + 1) none (fun q => some (O.2.1 6 q)))))))) :: (7, 0, .inr (7, [.int 0, .ref (O.2.1 16 0), .ref (O.2.1 6 20)])) :: L) 1 0 j rfl rfl rfl rfl rfl rfl hlt (by decide) (part_s hlt) rfl ?_
        refine e_drop0 rfl ?_
        refine e_iinc (pc := 48) 0 25 (ls2 := [some (vr 7 0), some (vi (nI (j + 1)))]) rfl rfl (iincJ j) (by decide) rfl ?_
        refine e_goto (pc := 51) (tgt := 26) 0 26 rfl (by decide) ?_
        refine e_widen (k' := 2 + 1 * (j + 1)) (n' := 25 + 5 * (j + 1)) (by omega) (by omega) ?_
        refine e_eqx (x' := 254 + 1 * (j + 1)) (by omega) ?_
        exact ih (j + 1) (by omega)
    refine e_widen (k' := 2) (n' := 25) (by decide) (by decide) ?_
    refine e_eqx (x' := 254) (by rfl) ?_
    refine loop26 ?_ 20 0 rfl
    refine e_drop0 rfl ?_
    refine e_widen (k' := 22) (n' := 125) (by decide) (by decide) ?_
    refine e_eqx (x' := 274) (by rfl) ?_
    exact e_vret (pc := 54) 0 27 rfl rfl)
set_option maxHeartbeats 4000000 in
theorem c_X10 {l : Launch} {O : Om} (hl : l.stackTraces = false) (L : List (Nat × Nat × va_E)) : CI l O mdX10_init 2 40 202 2009 [vr 10 0] ((10, 0, .inr (10, [.int 0, .null, .null])) :: L, 49) ((10, 0, .inr (10, [.int 0, .ref (O.2.1 15 0), .ref (O.2.1 9 200)])) :: L, 251) :=
  CIs.of (ls := [some (vr 10 0), none]) hl dtX10_init (by decide +kernel) rfl rfl (Nat.le_of_ble_eq_true rfl) rfl (fun G => by
    refine e_aload_n (pc := 0) 0 0 rfl rfl ?_
    refine e_oinit (pc := 1) 0 1 rfl oi_X10 ⟨by decide, by decide, (by rw [cat_sum rfl]; exact Nat.le_of_ble_eq_true rfl)⟩ ?_
    refine e_aload_n (pc := 4) 0 2 rfl rfl ?_
    refine e_sipush (pc := 5) 0 3 (v := (nI 200)) rfl (by decide) ?_
    refine e_newq (pc := 8) 0 4 (C := RX9) (kd := 15) (i := 0) (t0 := 5) (N := 200) (f := part 200 0 none (fun q => some (O.2.1 9 q))) rfl (by decide) rfl rfl ql_X10_9 (fun h => h.2.2.1) (fun j hj => part_0 hj) rfl (by decide) ⟨by decide, by decide⟩ ?_
    refine e_putF (pc := 11) 0 5 (kd := 10) (i := 0) (ci := 10) (N := 3) (j := 1) (C := RX10) (T := TX10) (v := vr 15 0) (ty := tyX10 1) (L' := (15, 0, .inl (O.2.2.2 5, 200, .inr (.inr (.inr (.inr (part 200 0 none (fun q => some (O.2.1 9 q)))))))) :: (10, 0, .inr (10, [.int 0, .ref (O.2.1 15 0), .null])) :: L) 1 rfl rfl rfl inW10 tyX10 tyX10_ok nmX10 (by decide) fl_X10_11 rfl rfl rfl rfl (tyX10_ok 1 (by decide)) rfl rfl (Nat.le_of_ble_eq_true rfl) rfl ?_
    refine e_aload_n (pc := 14) 0 6 rfl rfl ?_
    refine e_new (pc := 15) 0 7 (kd := 9) (i := 200) (ci := 9) (N := 9) (C := RX9) (T := TX9) (fs := [.int 0, .int 0, .int 0, .int 0, .int 0, .int 0, .int 0, .int 0, .int 0]) rfl (by decide) rfl rfl inW9 tyX9 tyX9_ok nw_X10_9 (bl_X9) ⟨by decide, by decide⟩ ?_
    refine e_dup (pc := 18) 0 8 rfl rfl ?_
    refine e_callN (pc := 19) 0 9 (fun l hl => c_X9 hl _ _ _) rfl cn_X10_17 ⟨by decide, by decide, (by rw [cat_sum rfl]; exact Nat.le_of_ble_eq_true rfl), by decide, by decide⟩ ?_
    refine e_putF (pc := 22) 0 10 (kd := 10) (i := 0) (ci := 10) (N := 3) (j := 2) (C := RX10) (T := TX10) (v := vr 9 200) (ty := tyX10 2) (L' := (9, 200, .inr (9, [.int 0, .int 0, .int 0, .int 0, .int 0, .int 0, .int 0, .int 0, .int 0])) :: (15, 0, .inl (O.2.2.2 5, 200, .inr (.inr (.inr (.inr (part 200 0 none (fun q => some (O.2.1 9 q)))))))) :: (10, 0, .inr (10, [.int 0, .ref (O.2.1 15 0), .ref (O.2.1 9 200)])) :: L) 2 rfl rfl rfl inW10 tyX10 tyX10_ok nmX10 (by decide) fl_X10_18 rfl rfl rfl rfl (tyX10_ok 2 (by decide)) rfl rfl (Nat.le_of_ble_eq_true rfl) rfl ?_
    refine e_drop0 rfl ?_
    refine e_iconst (pc := 25) 0 11 (v := (nI 0)) rfl (by decide) ?_
    refine e_istore_n (pc := 26) 0 12 (ls2 := [some (vr 10 0), some (vi (nI 0))]) rfl rfl (by decide) rfl ?_
    have loop27 : CW O G ((mdX10_init, [], (2, 40, 202, 2009)) : FD) 202 2009 (QI O G 202 2009 ((10, 0, .inr (10, [.int 0, .ref (O.2.1 15 0), .ref (O.2.1 9 200)])) :: L, 251)) ((15, 0, .inl (O.2.2.2 5, 200, .inr (.inr (.inr (.inr (fun q => some (O.2.1 9 q))))))) :: (10, 0, .inr (10, [.int 0, .ref (O.2.1 15 0), .ref (O.2.1 9 200)])) :: L, 251) 55 [some (vr 10 0), some (vi (nI 200))] [] → ∀ m j : Nat, j + m = 200 → CW O G ((mdX10_init, [], (2, 40, 202, 2009)) : FD) (2 + 1 * j) (209 + 9 * j) (QI O G 202 2009 ((10, 0, .inr (10, [.int 0, .ref (O.2.1 15 0), .ref (O.2.1 9 200)])) :: L, 251)) ((15, 0, .inl (O.2.2.2 5, 200, .inr (.inr (.inr (.inr (part 200 j none (fun q => some (O.2.1 9 q)))))))) :: (10, 0, .inr (10, [.int 0, .ref (O.2.1 15 0), .ref (O.2.1 9 200)])) :: L, 51 + 1 * j) 27 [some (vr 10 0), some (vi (nI j))] [] := by
      intro kk m
      induction m with
      | zero =>
        intro j hj
        have hj : j = 200 := hj
        subst hj
        refine e_iload_n (pc := 27) 0 13 rfl rfl ?_
        refine e_aload_n (pc := 28) 0 14 rfl rfl ?_
        refine e_get (pc := 29) 0 15 (ci := 10) (N := 3) (j := 1) (C := RX10) (T := TX10) (v := vr 15 0) 1 rfl rfl rfl inW10 (by decide) fl_X10_11 rfl rfl ?_
        refine e_alen (pc := 32) 0 16 0 rfl rfl rfl ?_
        refine e_icmp_ge_t (pc := 33) (tgt := 55) 0 17 rfl (by decide) (by decide) ?_
        rw [part_N 200]
        exact kk
      | succ m ih =>
        intro j hj
        have hlt : j < 200 := by omega
        refine e_iload_n (pc := 27) 0 13 rfl rfl ?_
        refine e_aload_n (pc := 28) 0 14 rfl rfl ?_
        refine e_get (pc := 29) 0 15 (ci := 10) (N := 3) (j := 1) (C := RX10) (T := TX10) (v := vr 15 0) 1 rfl rfl rfl inW10 (by decide) fl_X10_11 rfl rfl ?_
        refine e_alen (pc := 32) 0 16 0 rfl rfl rfl ?_
        refine e_icmp_ge_f (pc := 33) (tgt := 55) 0 17 rfl (nI_ge hlt (by decide)) (by decide) ?_
        refine e_aload_n (pc := 36) 0 18 rfl rfl ?_
        refine e_get (pc := 37) 0 19 (ci := 10) (N := 3) (j := 1) (C := RX10) (T := TX10) (v := vr 15 0) 1 rfl rfl rfl inW10 (by decide) fl_X10_11 rfl rfl ?_
        refine e_iload_n (pc := 40) 0 20 rfl rfl ?_
        refine e_new (pc := 41) 0 21 (kd := 9) (i := j) (ci := 9) (N := 9) (C := RX9) (T := TX9) (fs := [.int 0, .int 0, .int 0, .int 0, .int 0, .int 0, .int 0, .int 0, .int 0]) rfl (Nat.lt_of_lt_of_le hlt (Nat.le_of_ble_eq_true rfl)) (posK_9j hlt) rfl inW9 tyX9 tyX9_ok nw_X10_9 (bl_X9) ⟨by show _ ≤ 202; omega, by show _ ≤ 2009; omega⟩ ?_
        refine e_dup (pc := 44) 0 22 rfl rfl ?_
        refine e_callN (pc := 45) 0 23 (fun l hl => c_X9 hl _ _ _) rfl cn_X10_17 ⟨by decide, by decide, (by rw [cat_sum rfl]; exact Nat.le_of_ble_eq_true rfl), (by show _ ≤ 202; omega), (by show _ ≤ 2009; omega)⟩ ?_
        refine e_aast (pc := 48) 0 24 (C := RX9) (T := TX9) (NC := 9) (L' := (9, j, .inr (9, [.int 0, .int 0, .int 0, .int 0, .int 0, .int 0, .int 0, .int 0, .int 0])) :: (15, 0, .inl (O.2.2.2 5, 200, .inr (.inr (.inr (.inr (part 200 (j + 1) none (fun q => some (O.2.1 9 q)))))))) :: (10, 0, .inr (10, [.int 0, .ref (O.2.1 15 0), .ref (O.2.1 9 200)])) :: L) 1 0 j rfl rfl rfl rfl rfl rfl hlt (by decide) (part_s hlt) rfl ?_
        refine e_drop0 rfl ?_
        refine e_iinc (pc := 49) 0 25 (ls2 := [some (vr 10 0), some (vi (nI (j + 1)))]) rfl rfl (iincJ j) (by decide) rfl ?_
        refine e_goto (pc := 52) (tgt := 27) 0 26 rfl (by decide) ?_
        refine e_widen (k' := 2 + 1 * (j + 1)) (n' := 209 + 9 * (j + 1)) (by omega) (by omega) ?_
        refine e_eqx (x' := 51 + 1 * (j + 1)) (by omega) ?_
        exact ih (j + 1) (by omega)
    refine e_widen (k' := 2) (n' := 209) (by decide) (by decide) ?_
    refine e_eqx (x' := 51) (by rfl) ?_
    refine loop27 ?_ 200 0 rfl
    refine e_drop0 rfl ?_
    refine e_widen (k' := 202) (n' := 2009) (by decide) (by decide) ?_
    refine e_eqx (x' := 251) (by rfl) ?_
    exact e_vret (pc := 55) 0 27 rfl rfl)
set_option maxHeartbeats 4000000 in
theorem c_X2 {l : Launch} {O : Om} (hl : l.stackTraces = false) (L : List (Nat × Nat × va_E)) : CI l O mdX2_init 2 40 16 197 [vr 2 0] ((2, 0, .inr (2, [.null, .null, .int 0, .int 0, .null, .null])) :: L, 275) ((2, 0, .inr (2, [.ref (O.2.1 17 0), .ref (O.2.1 1 12), .int 0, .int 0, .ref (O.2.1 18 0), .ref (O.2.1 19 0)])) :: L, 291) :=
  CIs.of (ls := [some (vr 2 0), none]) hl dtX2_init (by decide +kernel) rfl rfl (Nat.le_of_ble_eq_true rfl) rfl (fun G => by
    refine e_aload_n (pc := 0) 0 0 rfl rfl ?_
    refine e_oinit (pc := 1) 0 1 rfl oi_X2 ⟨by decide, by decide, (by rw [cat_sum rfl]; exact Nat.le_of_ble_eq_true rfl)⟩ ?_
    refine e_aload_n (pc := 4) 0 2 rfl rfl ?_
    refine e_bipush (pc := 5) 0 3 (v := (nI 12)) rfl (by decide) ?_
    refine e_newq (pc := 7) 0 4 (C := RX1) (kd := 17) (i := 0) (t0 := 7) (N := 12) (f := part 12 0 none (fun q => some (O.2.1 1 q))) rfl (by decide) rfl rfl ql_X2_9 (fun h => h.2.2.2.2) (fun j hj => part_0 hj) rfl (by decide) ⟨by decide, by decide⟩ ?_
    refine e_putF (pc := 10) 0 5 (kd := 2) (i := 0) (ci := 2) (N := 6) (j := 0) (C := RX2) (T := TX2) (v := vr 17 0) (ty := tyX2 0) (L' := (17, 0, .inl (O.2.2.2 7, 12, .inr (.inr (.inr (.inr (part 12 0 none (fun q => some (O.2.1 1 q)))))))) :: (2, 0, .inr (2, [.ref (O.2.1 17 0), .null, .int 0, .int 0, .null, .null])) :: L) 1 rfl rfl rfl inW2 tyX2 tyX2_ok nmX2 (by decide) fl_X2_11 rfl rfl rfl rfl (tyX2_ok 0 (by decide)) rfl rfl (Nat.le_of_ble_eq_true rfl) rfl ?_
    refine e_aload_n (pc := 13) 0 6 rfl rfl ?_
    refine e_new (pc := 14) 0 7 (kd := 1) (i := 12) (ci := 1) (N := 5) (C := RX1) (T := TX1) (fs := [.int 0, .int 0, .int 0, .int 0, .int 0]) rfl (by decide) rfl rfl inW1 tyX1 tyX1_ok nw_X2_9 (bl_X1) ⟨by decide, by decide⟩ ?_
    refine e_dup (pc := 17) 0 8 rfl rfl ?_
    refine e_callN (pc := 18) 0 9 (fun l hl => c_X1 hl _ _ _) rfl cn_X2_17 ⟨by decide, by decide, (by rw [cat_sum rfl]; exact Nat.le_of_ble_eq_true rfl), by decide, by decide⟩ ?_
    refine e_putF (pc := 21) 0 10 (kd := 2) (i := 0) (ci := 2) (N := 6) (j := 1) (C := RX2) (T := TX2) (v := vr 1 12) (ty := tyX2 1) (L' := (1, 12, .inr (1, [.int 0, .int 0, .int 0, .int 0, .int 0])) :: (17, 0, .inl (O.2.2.2 7, 12, .inr (.inr (.inr (.inr (part 12 0 none (fun q => some (O.2.1 1 q)))))))) :: (2, 0, .inr (2, [.ref (O.2.1 17 0), .ref (O.2.1 1 12), .int 0, .int 0, .null, .null])) :: L) 2 rfl rfl rfl inW2 tyX2 tyX2_ok nmX2 (by decide) fl_X2_18 rfl rfl rfl rfl (tyX2_ok 1 (by decide)) rfl rfl (Nat.le_of_ble_eq_true rfl) rfl ?_
    refine e_drop0 rfl ?_
    refine e_aload_n (pc := 24) 0 11 rfl rfl ?_
    refine e_bipush (pc := 25) 0 12 (v := (nI 20)) rfl (by decide) ?_
    refine e_newa (pc := 27) 0 13 (atype := .int) (ty := .int) (kd := 18) (i := 0) (t0 := 0) (N := 20) (f := fun j => S0.1 kDues j) rfl rfl (Or.inl rfl) (by decide) rfl rfl ac_int (fun _ _ => rfl) rfl (by decide) ⟨by decide, by decide⟩ ?_
    refine e_drop0 rfl ?_
    refine e_putF (pc := 29) 0 14 (kd := 2) (i := 0) (ci := 2) (N := 6) (j := 4) (C := RX2) (T := TX2) (v := vr 18 0) (ty := tyX2 4) (L' := (17, 0, .inl (O.2.2.2 7, 12, .inr (.inr (.inr (.inr (part 12 0 none (fun q => some (O.2.1 1 q)))))))) :: (2, 0, .inr (2, [.ref (O.2.1 17 0), .ref (O.2.1 1 12), .int 0, .int 0, .ref (O.2.1 18 0), .null])) :: L) 1 rfl rfl rfl inW2 tyX2 tyX2_ok nmX2 (by decide) fl_X2_22 rfl rfl rfl rfl (tyX2_ok 4 (by decide)) rfl rfl (Nat.le_of_ble_eq_true rfl) rfl ?_
    refine e_aload_n (pc := 32) 0 15 rfl rfl ?_
    refine e_bipush (pc := 33) 0 16 (v := (nI 100)) rfl (by decide) ?_
    refine e_newa (pc := 35) 0 17 (atype := .int) (ty := .int) (kd := 19) (i := 0) (t0 := 0) (N := 100) (f := fun j => S0.1 kBonds j) rfl rfl (Or.inl rfl) (by decide) rfl rfl ac_int (fun _ _ => rfl) rfl (by decide) ⟨by decide, by decide⟩ ?_
    refine e_drop0 rfl ?_
    refine e_putF (pc := 37) 0 18 (kd := 2) (i := 0) (ci := 2) (N := 6) (j := 5) (C := RX2) (T := TX2) (v := vr 19 0) (ty := tyX2 5) (L' := (17, 0, .inl (O.2.2.2 7, 12, .inr (.inr (.inr (.inr (part 12 0 none (fun q => some (O.2.1 1 q)))))))) :: (2, 0, .inr (2, [.ref (O.2.1 17 0), .ref (O.2.1 1 12), .int 0, .int 0, .ref (O.2.1 18 0), .ref (O.2.1 19 0)])) :: L) 1 rfl rfl rfl inW2 tyX2 tyX2_ok nmX2 (by decide) fl_X2_26 rfl rfl rfl rfl (tyX2_ok 5 (by decide)) rfl rfl (Nat.le_of_ble_eq_true rfl) rfl ?_
    refine e_iconst (pc := 40) 0 19 (v := (nI 0)) rfl (by decide) ?_
    refine e_istore_n (pc := 41) 0 20 (ls2 := [some (vr 2 0), some (vi (nI 0))]) rfl rfl (by decide) rfl ?_
    have loop42 : CW O G ((mdX2_init, [], (2, 40, 16, 197)) : FD) 16 197 (QI O G 16 197 ((2, 0, .inr (2, [.ref (O.2.1 17 0), .ref (O.2.1 1 12), .int 0, .int 0, .ref (O.2.1 18 0), .ref (O.2.1 19 0)])) :: L, 291)) ((17, 0, .inl (O.2.2.2 7, 12, .inr (.inr (.inr (.inr (fun q => some (O.2.1 1 q))))))) :: (2, 0, .inr (2, [.ref (O.2.1 17 0), .ref (O.2.1 1 12), .int 0, .int 0, .ref (O.2.1 18 0), .ref (O.2.1 19 0)])) :: L, 291) 70 [some (vr 2 0), some (vi (nI 12))] [] → ∀ m j : Nat, j + m = 12 → CW O G ((mdX2_init, [], (2, 40, 16, 197)) : FD) (4 + 1 * j) (137 + 5 * j) (QI O G 16 197 ((2, 0, .inr (2, [.ref (O.2.1 17 0), .ref (O.2.1 1 12), .int 0, .int 0, .ref (O.2.1 18 0), .ref (O.2.1 19 0)])) :: L, 291)) ((17, 0, .inl (O.2.2.2 7, 12, .inr (.inr (.inr (.inr (part 12 j none (fun q => some (O.2.1 1 q)))))))) :: (2, 0, .inr (2, [.ref (O.2.1 17 0), .ref (O.2.1 1 12), .int 0, .int 0, .ref (O.2.1 18 0), .ref (O.2.1 19 0)])) :: L, 279 + 1 * j) 42 [some (vr 2 0), some (vi (nI j))] [] := by
      intro kk m
      induction m with
      | zero =>
        intro j hj
        have hj : j = 12 := hj
        subst hj
        refine e_iload_n (pc := 42) 0 21 rfl rfl ?_
        refine e_aload_n (pc := 43) 0 22 rfl rfl ?_
        refine e_get (pc := 44) 0 23 (ci := 2) (N := 6) (j := 0) (C := RX2) (T := TX2) (v := vr 17 0) 1 rfl rfl rfl inW2 (by decide) fl_X2_11 rfl rfl ?_
        refine e_alen (pc := 47) 0 24 0 rfl rfl rfl ?_
        refine e_icmp_ge_t (pc := 48) (tgt := 70) 0 25 rfl (by decide) (by decide) ?_
        rw [part_N 12]
        exact kk
      | succ m ih =>
        intro j hj
        have hlt : j < 12 := by omega
        refine e_iload_n (pc := 42) 0 21 rfl rfl ?_
        refine e_aload_n (pc := 43) 0 22 rfl rfl ?_
        refine e_get (pc := 44) 0 23 (ci := 2) (N := 6) (j := 0) (C := RX2) (T := TX2) (v := vr 17 0) 1 rfl rfl rfl inW2 (by decide) fl_X2_11 rfl rfl ?_
        refine e_alen (pc := 47) 0 24 0 rfl rfl rfl ?_
        refine e_icmp_ge_f (pc := 48) (tgt := 70) 0 25 rfl (nI_ge hlt (by decide)) (by decide) ?_
        refine e_aload_n (pc := 51) 0 26 rfl rfl ?_
        refine e_get (pc := 52) 0 27 (ci := 2) (N := 6) (j := 0) (C := RX2) (T := TX2) (v := vr 17 0) 1 rfl rfl rfl inW2 (by decide) fl_X2_11 rfl rfl ?_
        refine e_iload_n (pc := 55) 0 28 rfl rfl ?_
        refine e_new (pc := 56) 0 29 (kd := 1) (i := j) (ci := 1) (N := 5) (C := RX1) (T := TX1) (fs := [.int 0, .int 0, .int 0, .int 0, .int 0]) rfl (Nat.lt_of_lt_of_le hlt (Nat.le_of_ble_eq_true rfl)) (posK_1j hlt) rfl inW1 tyX1 tyX1_ok nw_X2_9 (bl_X1) ⟨by show _ ≤ 16; omega, by show _ ≤ 197; omega⟩ ?_
        refine e_dup (pc := 59) 0 30 rfl rfl ?_
        refine e_callN (pc := 60) 0 31 (fun l hl => c_X1 hl _ _ _) rfl cn_X2_17 ⟨by decide, by decide, (by rw [cat_sum rfl]; exact Nat.le_of_ble_eq_true rfl), (by show _ ≤ 16; omega), (by show _ ≤ 197; omega)⟩ ?_
        refine e_aast (pc := 63) 0 32 (C := RX1) (T := TX1) (NC := 5) (L' := (1, j, .inr (1, [.int 0, .int 0, .int 0, .int 0, .int 0])) :: (17, 0, .inl (O.2.2.2 7, 12, .inr (.inr (.inr (.inr (part 12 (j + 1) none (fun q => some (O.2.1 1 q)))))))) :: (2, 0, .inr (2, [.ref (O.2.1 17 0), .ref (O.2.1 1 12), .int 0, .int 0, .ref (O.2.1 18 0), .ref (O.2.1 19 0)])) :: L) 1 0 j rfl rfl rfl rfl rfl rfl hlt (by decide) (part_s hlt) rfl ?_
        refine e_drop0 rfl ?_
        refine e_iinc (pc := 64) 0 33 (ls2 := [some (vr 2 0), some (vi (nI (j + 1)))]) rfl rfl (iincJ j) (by decide) rfl ?_
        refine e_goto (pc := 67) (tgt := 42) 0 34 rfl (by decide) ?_
        refine e_widen (k' := 4 + 1 * (j + 1)) (n' := 137 + 5 * (j + 1)) (by omega) (by omega) ?_
        refine e_eqx (x' := 279 + 1 * (j + 1)) (by omega) ?_
        exact ih (j + 1) (by omega)
    refine e_widen (k' := 4) (n' := 137) (by decide) (by decide) ?_
    refine e_eqx (x' := 279) (by rfl) ?_
    refine loop42 ?_ 12 0 rfl
    refine e_drop0 rfl ?_
    refine e_widen (k' := 16) (n' := 197) (by decide) (by decide) ?_
    refine e_eqx (x' := 291) (by rfl) ?_
    exact e_vret (pc := 70) 0 35 rfl rfl)
set_option maxHeartbeats 4000000 in
theorem c_X3 {l : Launch} {O : Om} (hl : l.stackTraces = false) (L : List (Nat × Nat × va_E)) : CI l O mdX3_init 2 40 46 1143 [vr 3 0] ((3, 0, .inr (3, [.null, .null, .null, .null, .null, .null])) :: L, 2) ((3, 0, .inr (3, [.ref (O.2.1 4 0), .ref (O.2.1 8 0), .ref (O.2.1 13 0), .ref (O.2.1 14 0), .ref (O.2.1 5 16), .ref (O.2.1 0 4)])) :: L, 48) :=
  CIs.of (ls := [some (vr 3 0), none]) hl dtX3_init (by decide +kernel) rfl rfl (Nat.le_of_ble_eq_true rfl) rfl (fun G => by
    refine e_aload_n (pc := 0) 0 0 rfl rfl ?_
    refine e_oinit (pc := 1) 0 1 rfl oi_X3 ⟨by decide, by decide, (by rw [cat_sum rfl]; exact Nat.le_of_ble_eq_true rfl)⟩ ?_
    refine e_aload_n (pc := 4) 0 2 rfl rfl ?_
    refine e_new (pc := 5) 0 3 (kd := 4) (i := 0) (ci := 4) (N := 7) (C := RX4) (T := TX4) (fs := [.int 0, .int 0, .int 0, .int 0, .int 0, .int 0, .int 0]) rfl (by decide) rfl rfl inW4 tyX4 tyX4_ok nw_X3_9 (bl_X4) ⟨by decide, by decide⟩ ?_
    refine e_dup (pc := 8) 0 4 rfl rfl ?_
    refine e_callN (pc := 9) 0 5 (fun l hl => c_X4 hl _) rfl cn_X3_11 ⟨by decide, by decide, (by rw [cat_sum rfl]; exact Nat.le_of_ble_eq_true rfl), by decide, by decide⟩ ?_
    refine e_putF (pc := 12) 0 6 (kd := 3) (i := 0) (ci := 3) (N := 6) (j := 0) (C := RX3) (T := TX3) (v := vr 4 0) (ty := tyX3 0) (L' := (4, 0, .inr (4, [.int 0, .int (nI 10), .int (nI 10), .int (nI 100), .int 0, .int 0, .int 0])) :: (3, 0, .inr (3, [.ref (O.2.1 4 0), .null, .null, .null, .null, .null])) :: L) 1 rfl rfl rfl inW3 tyX3 tyX3_ok nmX3 (by decide) fl_X3_12 rfl rfl rfl rfl (tyX3_ok 0 (by decide)) rfl rfl (Nat.le_of_ble_eq_true rfl) rfl ?_
    refine e_drop0 rfl ?_
    refine e_aload_n (pc := 15) 0 7 rfl rfl ?_
    refine e_new (pc := 16) 0 8 (kd := 8) (i := 0) (ci := 8) (N := 4) (C := RX8) (T := TX8) (fs := [.null, .null, .null, .int 0]) rfl (by decide) rfl rfl inW8 tyX8 tyX8_ok nw_X3_18 (bl_X8) ⟨by decide, by decide⟩ ?_
    refine e_dup (pc := 19) 0 9 rfl rfl ?_
    refine e_callN (pc := 20) 0 10 (fun l hl => c_X8 hl _) rfl cn_X3_20 ⟨by decide, by decide, (by rw [cat_sum rfl]; exact Nat.le_of_ble_eq_true rfl), by decide, by decide⟩ ?_
    refine e_putF (pc := 23) 0 11 (kd := 3) (i := 0) (ci := 3) (N := 6) (j := 1) (C := RX3) (T := TX3) (v := vr 8 0) (ty := tyX3 1) (L' := (8, 0, .inr (8, [.ref (O.2.1 20 0), .ref (O.2.1 21 0), .ref (O.2.1 22 0), .int 0])) :: (3, 0, .inr (3, [.ref (O.2.1 4 0), .ref (O.2.1 8 0), .null, .null, .null, .null])) :: L) 1 rfl rfl rfl inW3 tyX3 tyX3_ok nmX3 (by decide) fl_X3_21 rfl rfl rfl rfl (tyX3_ok 1 (by decide)) rfl rfl (Nat.le_of_ble_eq_true rfl) rfl ?_
    refine e_drop0 rfl ?_
    refine e_aload_n (pc := 26) 0 12 rfl rfl ?_
    refine e_bipush (pc := 27) 0 13 (v := (nI 16)) rfl (by decide) ?_
    refine e_newq (pc := 29) 0 14 (C := RX5) (kd := 13) (i := 0) (t0 := 3) (N := 16) (f := part 16 0 none (fun q => some (O.2.1 5 q))) rfl (by decide) rfl rfl ql_X3_25 (fun h => h.1) (fun j hj => part_0 hj) rfl (by decide) ⟨by decide, by decide⟩ ?_
    refine e_putF (pc := 32) 0 15 (kd := 3) (i := 0) (ci := 3) (N := 6) (j := 2) (C := RX3) (T := TX3) (v := vr 13 0) (ty := tyX3 2) (L' := (13, 0, .inl (O.2.2.2 3, 16, .inr (.inr (.inr (.inr (part 16 0 none (fun q => some (O.2.1 5 q)))))))) :: (3, 0, .inr (3, [.ref (O.2.1 4 0), .ref (O.2.1 8 0), .ref (O.2.1 13 0), .null, .null, .null])) :: L) 1 rfl rfl rfl inW3 tyX3 tyX3_ok nmX3 (by decide) fl_X3_27 rfl rfl rfl rfl (tyX3_ok 2 (by decide)) rfl rfl (Nat.le_of_ble_eq_true rfl) rfl ?_
    refine e_aload_n (pc := 35) 0 16 rfl rfl ?_
    refine e_iconst (pc := 36) 0 17 (v := (nI 4)) rfl (by decide) ?_
    refine e_newq (pc := 37) 0 18 (C := RX0) (kd := 14) (i := 0) (t0 := 4) (N := 4) (f := part 4 0 none (fun q => some (O.2.1 0 q))) rfl (by decide) rfl rfl ql_X3_31 (fun h => h.2.1) (fun j hj => part_0 hj) rfl (by decide) ⟨by decide, by decide⟩ ?_
    refine e_putF (pc := 40) 0 19 (kd := 3) (i := 0) (ci := 3) (N := 6) (j := 3) (C := RX3) (T := TX3) (v := vr 14 0) (ty := tyX3 3) (L' := (14, 0, .inl (O.2.2.2 4, 4, .inr (.inr (.inr (.inr (part 4 0 none (fun q => some (O.2.1 0 q)))))))) :: (13, 0, .inl (O.2.2.2 3, 16, .inr (.inr (.inr (.inr (part 16 0 none (fun q => some (O.2.1 5 q)))))))) :: (3, 0, .inr (3, [.ref (O.2.1 4 0), .ref (O.2.1 8 0), .ref (O.2.1 13 0), .ref (O.2.1 14 0), .null, .null])) :: L) 2 rfl rfl rfl inW3 tyX3 tyX3_ok nmX3 (by decide) fl_X3_33 rfl rfl rfl rfl (tyX3_ok 3 (by decide)) rfl rfl (Nat.le_of_ble_eq_true rfl) rfl ?_
    refine e_aload_n (pc := 43) 0 20 rfl rfl ?_
    refine e_new (pc := 44) 0 21 (kd := 5) (i := 16) (ci := 5) (N := 11) (C := RX5) (T := TX5) (fs := [.int 0, .int 0, .int 0, .int 0, .int 0, .int 0, .int 0, .int 0, .int 0, .int 0, .null]) rfl (by decide) rfl rfl inW5 tyX5 tyX5_ok nw_X3_25 (bl_X5) ⟨by decide, by decide⟩ ?_
    refine e_dup (pc := 47) 0 22 rfl rfl ?_
    refine e_callN (pc := 48) 0 23 (fun l hl => c_X5 hl _ 16 _ (by omega) rfl) rfl cn_X3_37 ⟨by decide, by decide, (by rw [cat_sum rfl]; exact Nat.le_of_ble_eq_true rfl), by decide, by decide⟩ ?_
    refine e_putF (pc := 51) 0 24 (kd := 3) (i := 0) (ci := 3) (N := 6) (j := 4) (C := RX3) (T := TX3) (v := vr 5 16) (ty := tyX3 4) (L' := (5, 16, .inr (5, [.int 0, .int 0, .int (-1), .int 0, .int 0, .int (-1), .int 0, .int (nI 10), .int (nI 10), .int 0, .ref (O.2.1 23 16)])) :: (14, 0, .inl (O.2.2.2 4, 4, .inr (.inr (.inr (.inr (part 4 0 none (fun q => some (O.2.1 0 q)))))))) :: (13, 0, .inl (O.2.2.2 3, 16, .inr (.inr (.inr (.inr (part 16 0 none (fun q => some (O.2.1 5 q)))))))) :: (3, 0, .inr (3, [.ref (O.2.1 4 0), .ref (O.2.1 8 0), .ref (O.2.1 13 0), .ref (O.2.1 14 0), .ref (O.2.1 5 16), .null])) :: L) 3 rfl rfl rfl inW3 tyX3 tyX3_ok nmX3 (by decide) fl_X3_38 rfl rfl rfl rfl (tyX3_ok 4 (by decide)) rfl rfl (Nat.le_of_ble_eq_true rfl) rfl ?_
    refine e_drop0 rfl ?_
    refine e_aload_n (pc := 54) 0 25 rfl rfl ?_
    refine e_new (pc := 55) 0 26 (kd := 0) (i := 4) (ci := 0) (N := 8) (C := RX0) (T := TX0) (fs := [.int 0, .int 0, .int 0, .int 0, .int 0, .int 0, .int 0, .int 0]) rfl (by decide) rfl rfl inW0 tyX0 tyX0_ok nw_X3_31 (bl_X0) ⟨by decide, by decide⟩ ?_
    refine e_dup (pc := 58) 0 27 rfl rfl ?_
    refine e_callN (pc := 59) 0 28 (fun l hl => c_X0 hl _ _ _) rfl cn_X3_42 ⟨by decide, by decide, (by rw [cat_sum rfl]; exact Nat.le_of_ble_eq_true rfl), by decide, by decide⟩ ?_
    refine e_putF (pc := 62) 0 29 (kd := 3) (i := 0) (ci := 3) (N := 6) (j := 5) (C := RX3) (T := TX3) (v := vr 0 4) (ty := tyX3 5) (L' := (0, 4, .inr (0, [.int 0, .int 0, .int 0, .int (nI 1000), .int 0, .int 0, .int 0, .int 0])) :: (14, 0, .inl (O.2.2.2 4, 4, .inr (.inr (.inr (.inr (part 4 0 none (fun q => some (O.2.1 0 q)))))))) :: (13, 0, .inl (O.2.2.2 3, 16, .inr (.inr (.inr (.inr (part 16 0 none (fun q => some (O.2.1 5 q)))))))) :: (3, 0, .inr (3, [.ref (O.2.1 4 0), .ref (O.2.1 8 0), .ref (O.2.1 13 0), .ref (O.2.1 14 0), .ref (O.2.1 5 16), .ref (O.2.1 0 4)])) :: L) 3 rfl rfl rfl inW3 tyX3 tyX3_ok nmX3 (by decide) fl_X3_43 rfl rfl rfl rfl (tyX3_ok 5 (by decide)) rfl rfl (Nat.le_of_ble_eq_true rfl) rfl ?_
    refine e_drop0 rfl ?_
    refine e_iconst (pc := 65) 0 30 (v := (nI 0)) rfl (by decide) ?_
    refine e_istore_n (pc := 66) 0 31 (ls2 := [some (vr 3 0), some (vi (nI 0))]) rfl rfl (by decide) rfl ?_
    have loop67 : CW O G ((mdX3_init, [], (2, 40, 46, 1143)) : FD) 42 1111 (QI O G 46 1143 ((3, 0, .inr (3, [.ref (O.2.1 4 0), .ref (O.2.1 8 0), .ref (O.2.1 13 0), .ref (O.2.1 14 0), .ref (O.2.1 5 16), .ref (O.2.1 0 4)])) :: L, 48)) ((14, 0, .inl (O.2.2.2 4, 4, .inr (.inr (.inr (.inr (part 4 0 none (fun q => some (O.2.1 0 q)))))))) :: (13, 0, .inl (O.2.2.2 3, 16, .inr (.inr (.inr (.inr (fun q => some (O.2.1 5 q))))))) :: (3, 0, .inr (3, [.ref (O.2.1 4 0), .ref (O.2.1 8 0), .ref (O.2.1 13 0), .ref (O.2.1 14 0), .ref (O.2.1 5 16), .ref (O.2.1 0 4)])) :: L, 44) 95 [some (vr 3 0), some (vi (nI 16))] [] → ∀ m j : Nat, j + m = 16 → CW O G ((mdX3_init, [], (2, 40, 46, 1143)) : FD) (10 + 2 * j) (871 + 15 * j) (QI O G 46 1143 ((3, 0, .inr (3, [.ref (O.2.1 4 0), .ref (O.2.1 8 0), .ref (O.2.1 13 0), .ref (O.2.1 14 0), .ref (O.2.1 5 16), .ref (O.2.1 0 4)])) :: L, 48)) ((14, 0, .inl (O.2.2.2 4, 4, .inr (.inr (.inr (.inr (part 4 0 none (fun q => some (O.2.1 0 q)))))))) :: (13, 0, .inl (O.2.2.2 3, 16, .inr (.inr (.inr (.inr (part 16 j none (fun q => some (O.2.1 5 q)))))))) :: (3, 0, .inr (3, [.ref (O.2.1 4 0), .ref (O.2.1 8 0), .ref (O.2.1 13 0), .ref (O.2.1 14 0), .ref (O.2.1 5 16), .ref (O.2.1 0 4)])) :: L, 12 + 2 * j) 67 [some (vr 3 0), some (vi (nI j))] [] := by
      intro kk m
      induction m with
      | zero =>
        intro j hj
        have hj : j = 16 := hj
        subst hj
        refine e_iload_n (pc := 67) 0 32 rfl rfl ?_
        refine e_aload_n (pc := 68) 0 33 rfl rfl ?_
        refine e_get (pc := 69) 0 34 (ci := 3) (N := 6) (j := 2) (C := RX3) (T := TX3) (v := vr 13 0) 2 rfl rfl rfl inW3 (by decide) fl_X3_27 rfl rfl ?_
        refine e_alen (pc := 72) 0 35 1 rfl rfl rfl ?_
        refine e_icmp_ge_t (pc := 73) (tgt := 95) 0 36 rfl (by decide) (by decide) ?_
        rw [part_N 16]
        exact kk
      | succ m ih =>
        intro j hj
        have hlt : j < 16 := by omega
        refine e_iload_n (pc := 67) 0 32 rfl rfl ?_
        refine e_aload_n (pc := 68) 0 33 rfl rfl ?_
        refine e_get (pc := 69) 0 34 (ci := 3) (N := 6) (j := 2) (C := RX3) (T := TX3) (v := vr 13 0) 2 rfl rfl rfl inW3 (by decide) fl_X3_27 rfl rfl ?_
        refine e_alen (pc := 72) 0 35 1 rfl rfl rfl ?_
        refine e_icmp_ge_f (pc := 73) (tgt := 95) 0 36 rfl (nI_ge hlt (by decide)) (by decide) ?_
        refine e_aload_n (pc := 76) 0 37 rfl rfl ?_
        refine e_get (pc := 77) 0 38 (ci := 3) (N := 6) (j := 2) (C := RX3) (T := TX3) (v := vr 13 0) 2 rfl rfl rfl inW3 (by decide) fl_X3_27 rfl rfl ?_
        refine e_iload_n (pc := 80) 0 39 rfl rfl ?_
        refine e_new (pc := 81) 0 40 (kd := 5) (i := j) (ci := 5) (N := 11) (C := RX5) (T := TX5) (fs := [.int 0, .int 0, .int 0, .int 0, .int 0, .int 0, .int 0, .int 0, .int 0, .int 0, .null]) rfl (Nat.lt_of_lt_of_le hlt (Nat.le_of_ble_eq_true rfl)) (posK_5j hlt) rfl inW5 tyX5 tyX5_ok nw_X3_25 (bl_X5) ⟨by show _ ≤ 46; omega, by show _ ≤ 1143; omega⟩ ?_
        refine e_dup (pc := 84) 0 41 rfl rfl ?_
        refine e_callN (pc := 85) 0 42 (fun l hl => c_X5 hl _ j _ (by omega) (posK_23j hlt)) rfl cn_X3_37 ⟨by decide, by decide, (by rw [cat_sum rfl]; exact Nat.le_of_ble_eq_true rfl), (by show _ ≤ 46; omega), (by show _ ≤ 1143; omega)⟩ ?_
        refine e_aast (pc := 88) 0 43 (C := RX5) (T := TX5) (NC := 11) (L' := (5, j, .inr (5, [.int 0, .int 0, .int (-1), .int 0, .int 0, .int (-1), .int 0, .int (nI 10), .int (nI 10), .int 0, .ref (O.2.1 23 j)])) :: (14, 0, .inl (O.2.2.2 4, 4, .inr (.inr (.inr (.inr (part 4 0 none (fun q => some (O.2.1 0 q)))))))) :: (13, 0, .inl (O.2.2.2 3, 16, .inr (.inr (.inr (.inr (part 16 (j + 1) none (fun q => some (O.2.1 5 q)))))))) :: (3, 0, .inr (3, [.ref (O.2.1 4 0), .ref (O.2.1 8 0), .ref (O.2.1 13 0), .ref (O.2.1 14 0), .ref (O.2.1 5 16), .ref (O.2.1 0 4)])) :: L) 2 0 j rfl rfl rfl rfl rfl rfl hlt (by decide) (part_s hlt) rfl ?_
        refine e_drop0 rfl ?_
        refine e_iinc (pc := 89) 0 44 (ls2 := [some (vr 3 0), some (vi (nI (j + 1)))]) rfl rfl (iincJ j) (by decide) rfl ?_
        refine e_goto (pc := 92) (tgt := 67) 0 45 rfl (by decide) ?_
        refine e_widen (k' := 10 + 2 * (j + 1)) (n' := 871 + 15 * (j + 1)) (by omega) (by omega) ?_
        refine e_eqx (x' := 12 + 2 * (j + 1)) (by omega) ?_
        exact ih (j + 1) (by omega)
    refine e_widen (k' := 10) (n' := 871) (by decide) (by decide) ?_
    refine e_eqx (x' := 12) (by rfl) ?_
    refine loop67 ?_ 16 0 rfl
    refine e_drop (L' := (14, 0, .inl (O.2.2.2 4, 4, .inr (.inr (.inr (.inr (part 4 0 none (fun q => some (O.2.1 0 q)))))))) :: (3, 0, .inr (3, [.ref (O.2.1 4 0), .ref (O.2.1 8 0), .ref (O.2.1 13 0), .ref (O.2.1 14 0), .ref (O.2.1 5 16), .ref (O.2.1 0 4)])) :: L) 1 rfl (fun H h => h) rfl ?_
    refine e_iconst (pc := 95) 0 46 (v := (nI 0)) rfl (by decide) ?_
    refine e_istore_n (pc := 96) 0 47 (ls2 := [some (vr 3 0), some (vi (nI 0))]) rfl rfl (by decide) rfl ?_
    have loop97 : CW O G ((mdX3_init, [], (2, 40, 46, 1143)) : FD) 46 1143 (QI O G 46 1143 ((3, 0, .inr (3, [.ref (O.2.1 4 0), .ref (O.2.1 8 0), .ref (O.2.1 13 0), .ref (O.2.1 14 0), .ref (O.2.1 5 16), .ref (O.2.1 0 4)])) :: L, 48)) ((14, 0, .inl (O.2.2.2 4, 4, .inr (.inr (.inr (.inr (fun q => some (O.2.1 0 q))))))) :: (3, 0, .inr (3, [.ref (O.2.1 4 0), .ref (O.2.1 8 0), .ref (O.2.1 13 0), .ref (O.2.1 14 0), .ref (O.2.1 5 16), .ref (O.2.1 0 4)])) :: L, 48) 125 [some (vr 3 0), some (vi (nI 4))] [] → ∀ m j : Nat, j + m = 4 → CW O G ((mdX3_init, [], (2, 40, 46, 1143)) : FD) (42 + 1 * j) (1111 + 8 * j) (QI O G 46 1143 ((3, 0, .inr (3, [.ref (O.2.1 4 0), .ref (O.2.1 8 0), .ref (O.2.1 13 0), .ref (O.2.1 14 0), .ref (O.2.1 5 16), .ref (O.2.1 0 4)])) :: L, 48)) ((14, 0, .inl (O.2.2.2 4, 4, .inr (.inr (.inr (.inr (part 4 j none (fun q => some (O.2.1 0 q)))))))) :: (3, 0, .inr (3, [.ref (O.2.1 4 0), .ref (O.2.1 8 0), .ref (O.2.1 13 0), .ref (O.2.1 14 0), .ref (O.2.1 5 16), .ref (O.2.1 0 4)])) :: L, 44 + 1 * j) 97 [some (vr 3 0), some (vi (nI j))] [] := by
      intro kk m
      induction m with
      | zero =>
        intro j hj
        have hj : j = 4 := hj
        subst hj
        refine e_iload_n (pc := 97) 1 0 rfl rfl ?_
        refine e_aload_n (pc := 98) 1 1 rfl rfl ?_
        refine e_get (pc := 99) 1 2 (ci := 3) (N := 6) (j := 3) (C := RX3) (T := TX3) (v := vr 14 0) 1 rfl rfl rfl inW3 (by decide) fl_X3_33 rfl rfl ?_
        refine e_alen (pc := 102) 1 3 0 rfl rfl rfl ?_
        refine e_icmp_ge_t (pc := 103) (tgt := 125) 1 4 rfl (by decide) (by decide) ?_
        rw [part_N 4]
        exact kk
      | succ m ih =>
        intro j hj
        have hlt : j < 4 := by omega
        refine e_iload_n (pc := 97) 1 0 rfl rfl ?_
        refine e_aload_n (pc := 98) 1 1 rfl rfl ?_
        refine e_get (pc := 99) 1 2 (ci := 3) (N := 6) (j := 3) (C := RX3) (T := TX3) (v := vr 14 0) 1 rfl rfl rfl inW3 (by decide) fl_X3_33 rfl rfl ?_
        refine e_alen (pc := 102) 1 3 0 rfl rfl rfl ?_
        refine e_icmp_ge_f (pc := 103) (tgt := 125) 1 4 rfl (nI_ge hlt (by decide)) (by decide) ?_
        refine e_aload_n (pc := 106) 1 5 rfl rfl ?_
        refine e_get (pc := 107) 1 6 (ci := 3) (N := 6) (j := 3) (C := RX3) (T := TX3) (v := vr 14 0) 1 rfl rfl rfl inW3 (by decide) fl_X3_33 rfl rfl ?_
        refine e_iload_n (pc := 110) 1 7 rfl rfl ?_
        refine e_new (pc := 111) 1 8 (kd := 0) (i := j) (ci := 0) (N := 8) (C := RX0) (T := TX0) (fs := [.int 0, .int 0, .int 0, .int 0, .int 0, .int 0, .int 0, .int 0]) rfl (Nat.lt_of_lt_of_le hlt (Nat.le_of_ble_eq_true rfl)) (posK_0j hlt) rfl inW0 tyX0 tyX0_ok nw_X3_31 (bl_X0) ⟨by show _ ≤ 46; omega, by show _ ≤ 1143; omega⟩ ?_
        refine e_dup (pc := 114) 1 9 rfl rfl ?_
        refine e_callN (pc := 115) 1 10 (fun l hl => c_X0 hl _ _ _) rfl cn_X3_42 ⟨by decide, by decide, (by rw [cat_sum rfl]; exact Nat.le_of_ble_eq_true rfl), (by show _ ≤ 46; omega), (by show _ ≤ 1143; omega)⟩ ?_
        refine e_aast (pc := 118) 1 11 (C := RX0) (T := TX0) (NC := 8) (L' := (0, j, .inr (0, [.int 0, .int 0, .int 0, .int (nI 1000), .int 0, .int 0, .int 0, .int 0])) :: (14, 0, .inl (O.2.2.2 4, 4, .inr (.inr (.inr (.inr (part 4 (j + 1) none (fun q => some (O.2.1 0 q)))))))) :: (3, 0, .inr (3, [.ref (O.2.1 4 0), .ref (O.2.1 8 0), .ref (O.2.1 13 0), .ref (O.2.1 14 0), .ref (O.2.1 5 16), .ref (O.2.1 0 4)])) :: L) 1 0 j rfl rfl rfl rfl rfl rfl hlt (by decide) (part_s hlt) rfl ?_
        refine e_drop0 rfl ?_
        refine e_iinc (pc := 119) 1 12 (ls2 := [some (vr 3 0), some (vi (nI (j + 1)))]) rfl rfl (iincJ j) (by decide) rfl ?_
        refine e_goto (pc := 122) (tgt := 97) 1 13 rfl (by decide) ?_
        refine e_widen (k' := 42 + 1 * (j + 1)) (n' := 1111 + 8 * (j + 1)) (by omega) (by omega) ?_
        refine e_eqx (x' := 44 + 1 * (j + 1)) (by omega) ?_
        exact ih (j + 1) (by omega)
    refine e_widen (k' := 42) (n' := 1111) (by decide) (by decide) ?_
    refine e_eqx (x' := 44) (by rfl) ?_
    refine loop97 ?_ 4 0 rfl
    refine e_drop0 rfl ?_
    refine e_widen (k' := 46) (n' := 1143) (by decide) (by decide) ?_
    refine e_eqx (x' := 48) (by rfl) ?_
    exact e_vret (pc := 125) 1 14 rfl rfl)
set_option maxHeartbeats 4000000 in
theorem c_X11 {l : Launch} {O : Om} (hl : l.stackTraces = false) (L : List (Nat × Nat × va_E)) : CI l O mdX11_init 3 61 290 3492 [vr 11 0] ((11, 0, .inr (11, [.null, .null, .null, .null, .int 0])) :: L, 1) ((11, 0, .inr (11, [.ref (O.2.1 3 0), .ref (O.2.1 10 0), .ref (O.2.1 7 0), .ref (O.2.1 2 0), .int 0])) :: L, 291) :=
  CIs.of (ls := [some (vr 11 0)]) hl dtX11_init (by decide +kernel) rfl rfl (Nat.le_of_ble_eq_true rfl) rfl (fun G => by
    refine e_aload_n (pc := 0) 0 0 rfl rfl ?_
    refine e_oinit (pc := 1) 0 1 rfl oi_X11 ⟨by decide, by decide, (by rw [cat_sum rfl]; exact Nat.le_of_ble_eq_true rfl)⟩ ?_
    refine e_aload_n (pc := 4) 0 2 rfl rfl ?_
    refine e_new (pc := 5) 0 3 (kd := 3) (i := 0) (ci := 3) (N := 6) (C := RX3) (T := TX3) (fs := [.null, .null, .null, .null, .null, .null]) rfl (by decide) rfl rfl inW3 tyX3 tyX3_ok nw_X11_7 (bl_X3) ⟨by decide, by decide⟩ ?_
    refine e_dup (pc := 8) 0 4 rfl rfl ?_
    refine e_callI (pc := 9) 0 5 (fun l hl => c_X3 hl _) rfl ci_X11_9 ⟨by decide, by decide, (by rw [cat_sum rfl]; exact Nat.le_of_ble_eq_true rfl), by decide, by decide⟩ ?_
    refine e_putF (pc := 12) 0 6 (kd := 11) (i := 0) (ci := 11) (N := 5) (j := 0) (C := RX11) (T := TX11) (v := vr 3 0) (ty := tyX11 0) (L' := (3, 0, .inr (3, [.ref (O.2.1 4 0), .ref (O.2.1 8 0), .ref (O.2.1 13 0), .ref (O.2.1 14 0), .ref (O.2.1 5 16), .ref (O.2.1 0 4)])) :: (11, 0, .inr (11, [.ref (O.2.1 3 0), .null, .null, .null, .int 0])) :: L) 1 rfl rfl rfl inW11 tyX11 tyX11_ok nmX11 (by decide) fl_X11_10 rfl rfl rfl rfl (tyX11_ok 0 (by decide)) rfl rfl (Nat.le_of_ble_eq_true rfl) rfl ?_
    refine e_drop0 rfl ?_
    refine e_aload_n (pc := 15) 0 7 rfl rfl ?_
    refine e_new (pc := 16) 0 8 (kd := 10) (i := 0) (ci := 10) (N := 3) (C := RX10) (T := TX10) (fs := [.int 0, .null, .null]) rfl (by decide) rfl rfl inW10 tyX10 tyX10_ok nw_X11_16 (bl_X10) ⟨by decide, by decide⟩ ?_
    refine e_dup (pc := 19) 0 9 rfl rfl ?_
    refine e_callI (pc := 20) 0 10 (fun l hl => c_X10 hl _) rfl ci_X11_18 ⟨by decide, by decide, (by rw [cat_sum rfl]; exact Nat.le_of_ble_eq_true rfl), by decide, by decide⟩ ?_
    refine e_putF (pc := 23) 0 11 (kd := 11) (i := 0) (ci := 11) (N := 5) (j := 1) (C := RX11) (T := TX11) (v := vr 10 0) (ty := tyX11 1) (L' := (10, 0, .inr (10, [.int 0, .ref (O.2.1 15 0), .ref (O.2.1 9 200)])) :: (11, 0, .inr (11, [.ref (O.2.1 3 0), .ref (O.2.1 10 0), .null, .null, .int 0])) :: L) 1 rfl rfl rfl inW11 tyX11 tyX11_ok nmX11 (by decide) fl_X11_19 rfl rfl rfl rfl (tyX11_ok 1 (by decide)) rfl rfl (Nat.le_of_ble_eq_true rfl) rfl ?_
    refine e_drop0 rfl ?_
    refine e_aload_n (pc := 26) 0 12 rfl rfl ?_
    refine e_new (pc := 27) 0 13 (kd := 7) (i := 0) (ci := 7) (N := 3) (C := RX7) (T := TX7) (fs := [.int 0, .null, .null]) rfl (by decide) rfl rfl inW7 tyX7 tyX7_ok nw_X11_23 (bl_X7) ⟨by decide, by decide⟩ ?_
    refine e_dup (pc := 30) 0 14 rfl rfl ?_
    refine e_callI (pc := 31) 0 15 (fun l hl => c_X7 hl _) rfl ci_X11_25 ⟨by decide, by decide, (by rw [cat_sum rfl]; exact Nat.le_of_ble_eq_true rfl), by decide, by decide⟩ ?_
    refine e_putF (pc := 34) 0 16 (kd := 11) (i := 0) (ci := 11) (N := 5) (j := 2) (C := RX11) (T := TX11) (v := vr 7 0) (ty := tyX11 2) (L' := (7, 0, .inr (7, [.int 0, .ref (O.2.1 16 0), .ref (O.2.1 6 20)])) :: (11, 0, .inr (11, [.ref (O.2.1 3 0), .ref (O.2.1 10 0), .ref (O.2.1 7 0), .null, .int 0])) :: L) 1 rfl rfl rfl inW11 tyX11 tyX11_ok nmX11 (by decide) fl_X11_26 rfl rfl rfl rfl (tyX11_ok 2 (by decide)) rfl rfl (Nat.le_of_ble_eq_true rfl) rfl ?_
    refine e_drop0 rfl ?_
    refine e_aload_n (pc := 37) 0 17 rfl rfl ?_
    refine e_new (pc := 38) 0 18 (kd := 2) (i := 0) (ci := 2) (N := 6) (C := RX2) (T := TX2) (fs := [.null, .null, .int 0, .int 0, .null, .null]) rfl (by decide) rfl rfl inW2 tyX2 tyX2_ok nw_X11_30 (bl_X2) ⟨by decide, by decide⟩ ?_
    refine e_dup (pc := 41) 0 19 rfl rfl ?_
    refine e_callI (pc := 42) 0 20 (fun l hl => c_X2 hl _) rfl ci_X11_32 ⟨by decide, by decide, (by rw [cat_sum rfl]; exact Nat.le_of_ble_eq_true rfl), by decide, by decide⟩ ?_
    refine e_putF (pc := 45) 0 21 (kd := 11) (i := 0) (ci := 11) (N := 5) (j := 3) (C := RX11) (T := TX11) (v := vr 2 0) (ty := tyX11 3) (L' := (2, 0, .inr (2, [.ref (O.2.1 17 0), .ref (O.2.1 1 12), .int 0, .int 0, .ref (O.2.1 18 0), .ref (O.2.1 19 0)])) :: (11, 0, .inr (11, [.ref (O.2.1 3 0), .ref (O.2.1 10 0), .ref (O.2.1 7 0), .ref (O.2.1 2 0), .int 0])) :: L) 1 rfl rfl rfl inW11 tyX11 tyX11_ok nmX11 (by decide) fl_X11_33 rfl rfl rfl rfl (tyX11_ok 3 (by decide)) rfl rfl (Nat.le_of_ble_eq_true rfl) rfl ?_
    refine e_drop0 rfl ?_
    refine e_widen (k' := 290) (n' := 3492) (by decide) (by decide) ?_
    refine e_eqx (x' := 291) (by rfl) ?_
    exact e_vret (pc := 48) 0 22 rfl rfl)
