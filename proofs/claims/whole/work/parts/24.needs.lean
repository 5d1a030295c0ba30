/-! the three methods that throw -/
theorem hw_of {L : List Cond} (h : ∀ w ∈ L, w ∈ lw_tbl ∧ (goodWord w || xw w) = true) : ∀ w ∈ L, w ∈ WSg ∨ w ∈ WSx := by
  intro w hw
  obtain ⟨h1, h2⟩ := h w hw
  rcases Bool.or_eq_true_iff.mp h2 with h3 | h3
  · exact Or.inl (List.mem_filter.mpr ⟨h1, h3⟩)
  · exact Or.inr (List.mem_filter.mpr ⟨h1, h3⟩)
set_option maxRecDepth 100000 in
theorem hw_idx : ∀ w ∈ vx_atS RX11 313 xIdx ["java/lang/RuntimeException", "java/lang/Exception"], w ∈ lw_tbl ∧ (goodWord w || xw w) = true := by decide +kernel
set_option maxRecDepth 100000 in
theorem hw_arg : ∀ w ∈ vx_atS RX11 321 xArg ["java/lang/RuntimeException", "java/lang/Exception"], w ∈ lw_tbl ∧ (goodWord w || xw w) = true := by decide +kernel
set_option maxRecDepth 100000 in
theorem hw_sta : ∀ w ∈ vx_atS RX11 326 xSta ["java/lang/RuntimeException", "java/lang/Exception"], w ∈ lw_tbl ∧ (goodWord w || xw w) = true := by decide +kernel
set_option maxRecDepth 100000 in
theorem hg_idx : ∀ w ∈ Cond.classLink RX11 309 xIdx :: Cond.initialized xIdx :: vx_atS RX11 313 xIdx ["java/lang/RuntimeException", "java/lang/Exception"], vx_ot w = true := by decide +kernel
set_option maxRecDepth 100000 in
theorem hg_arg : ∀ w ∈ Cond.classLink RX11 317 xArg :: Cond.initialized xArg :: vx_atS RX11 321 xArg ["java/lang/RuntimeException", "java/lang/Exception"], vx_ot w = true := by decide +kernel
set_option maxRecDepth 100000 in
theorem hg_sta : ∀ w ∈ Cond.classLink RX11 322 xSta :: Cond.initialized xSta :: vx_atS RX11 326 xSta ["java/lang/RuntimeException", "java/lang/Exception"], vx_ot w = true := by decide +kernel
def ok_X11_needIndex (_ : Mem) (p1 : Int32) : Prop := ¬ p1 = 0
def okx_X11_needIndex (_ : Mem) (p1 : Int32) : Prop := p1 = 0
def ok_X11_needArgument (_ : Mem) (p1 : Int32) : Prop := ¬ p1 = 0
def okx_X11_needArgument (_ : Mem) (p1 : Int32) : Prop := p1 = 0
def ok_X11_needState (_ : Mem) (p1 : Int32) : Prop := ¬ p1 = 0
def okx_X11_needState (_ : Mem) (p1 : Int32) : Prop := p1 = 0
theorem c_X11_needIndex {S : Mem} (p1 : Int32) (_ : p1 = 0 ∨ p1 = 1) (h : ok_X11_needIndex S p1) : Cts mdX11_needIndex 0 0 [vi p1] S (Is none S) := Cts.of dtX11_needIndex (by decide +kernel) rfl rfl (Nat.le_of_ble_eq_true rfl) rfl (fun O G => by
  refine a_iload_n (pc := 0) 0 0 rfl rfl ?_
  refine a_if_ne_t (pc := 1) (tgt := 15) 0 1 rfl (by decide) h ?_
  exact a_vret (pc := 15) 0 7 rfl rfl ⟨rfl, rfl⟩)
theorem c_X11_needArgument {S : Mem} (p1 : Int32) (_ : p1 = 0 ∨ p1 = 1) (h : ok_X11_needArgument S p1) : Cts mdX11_needArgument 0 0 [vi p1] S (Is none S) := Cts.of dtX11_needArgument (by decide +kernel) rfl rfl (Nat.le_of_ble_eq_true rfl) rfl (fun O G => by
  refine a_iload_n (pc := 0) 0 0 rfl rfl ?_
  refine a_if_ne_t (pc := 1) (tgt := 15) 0 1 rfl (by decide) h ?_
  exact a_vret (pc := 15) 0 7 rfl rfl ⟨rfl, rfl⟩)
theorem c_X11_needState {S : Mem} (p1 : Int32) (_ : p1 = 0 ∨ p1 = 1) (h : ok_X11_needState S p1) : Cts mdX11_needState 0 0 [vi p1] S (Is none S) := Cts.of dtX11_needState (by decide +kernel) rfl rfl (Nat.le_of_ble_eq_true rfl) rfl (fun O G => by
  refine a_iload_n (pc := 0) 0 0 rfl rfl ?_
  refine a_if_ne_t (pc := 1) (tgt := 15) 0 1 rfl (by decide) h ?_
  exact a_vret (pc := 15) 0 7 rfl rfl ⟨rfl, rfl⟩)
theorem q_X11_needIndex {S : Mem} (p1 : Int32) (_ : p1 = 0 ∨ p1 = 1) (h : okx_X11_needIndex S p1) : Cqs mdX11_needIndex 6 82 [vi p1] S xIdx := Cqs.of dtX11_needIndex (by decide +kernel) rfl rfl (Nat.le_of_ble_eq_true rfl) rfl (fun O G => by
  refine a_iload_n (pc := 0) 0 0 rfl rfl ?_
  refine a_if_ne_f (pc := 1) 0 1 rfl h (tgt := 15) (by decide) ?_
  exact a_throw (pc := 4) 0 2 (ik := 309) (is := 311) (ic := 313) rfl (by decide +kernel) clW_X11_309 iniW_xIdx (fun s hE => hE.1) (hw_of hw_idx) hg_idx rfl rfl rfl rfl rfl ⟨by decide, by decide, by decide, by decide⟩)
theorem q_X11_needArgument {S : Mem} (p1 : Int32) (_ : p1 = 0 ∨ p1 = 1) (h : okx_X11_needArgument S p1) : Cqs mdX11_needArgument 6 82 [vi p1] S xArg := Cqs.of dtX11_needArgument (by decide +kernel) rfl rfl (Nat.le_of_ble_eq_true rfl) rfl (fun O G => by
  refine a_iload_n (pc := 0) 0 0 rfl rfl ?_
  refine a_if_ne_f (pc := 1) 0 1 rfl h (tgt := 15) (by decide) ?_
  exact a_throw (pc := 4) 0 2 (ik := 317) (is := 319) (ic := 321) rfl (by decide +kernel) clW_X11_317 iniW_xArg (fun s hE => hE.2.1) (hw_of hw_arg) hg_arg rfl rfl rfl rfl rfl ⟨by decide, by decide, by decide, by decide⟩)
theorem q_X11_needState {S : Mem} (p1 : Int32) (_ : p1 = 0 ∨ p1 = 1) (h : okx_X11_needState S p1) : Cqs mdX11_needState 6 82 [vi p1] S xSta := Cqs.of dtX11_needState (by decide +kernel) rfl rfl (Nat.le_of_ble_eq_true rfl) rfl (fun O G => by
  refine a_iload_n (pc := 0) 0 0 rfl rfl ?_
  refine a_if_ne_f (pc := 1) 0 1 rfl h (tgt := 15) (by decide) ?_
  exact a_throw (pc := 4) 0 2 (ik := 322) (is := 324) (ic := 326) rfl (by decide +kernel) clW_X11_322 iniW_xSta (fun s hE => hE.2.2.1) (hw_of hw_sta) hg_sta rfl rfl rfl rfl rfl ⟨by decide, by decide, by decide, by decide⟩)
