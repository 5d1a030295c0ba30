/-! the other calls; exceptions over points -/
section Calls10
variable {O : Om} {G : Cx} {D : FD} {k n : Nat} {Q : State → Prop} {S : Mem} {pc : Nat} {ls : List (Option AV)} {st st0 : List AV} {P : Option AV → Mem → Prop} {index fr lo : Nat} {dy : MD} {as : List AV}
theorem a_callS (a b : Nat) (hC : Cts dy fr lo as S P) (hT : IA D a b pc (.invokestatic index) 3) (cw : CS D.1.1 index dy as.length) (hst : st0 = as.reverse ++ st) (hz : RmOk O D k n fr lo dy.2.2.2.1 0 0 st) (kk : ∀ v S', P v S' → BW O G D k n Q S' (pc + 3) ls (v.toList ++ st)) : BW O G D k n Q S pc ls st0 := by
  obtain ⟨p, l, e, R, s, m, args, below, meth, c⟩ := G
  intro hR F H locs la hP hS hL
  have hRe : R = rmO D.2.2.1 D.2.2.2.1 D.2.2.2.2.1 D.2.2.2.2.2 := hR
  obtain ⟨w1, w2, w3, w4, w5, w6, w7⟩ := cw
  obtain ⟨z1, z2, z3, z4, z5⟩ := hz
  have hM := hC l F.2.2.2.2.2.2.2.2.2.2.2.2.1 O
  have hG : GoodIn WSg (va_wsS D.1.1 index dy.2.1 (.code dy.2.1 dy.2.2.1 dy.2.2.2.1 dy.2.2.2.2.1 :: WSg)) := wsg_GoodIn fun w hw => by
    simp only [va_wsS, List.mem_append, List.mem_cons, List.not_mem_nil, or_false] at hw
    rcases hw with (rfl | rfl | rfl) | rfl | hw <;> assumption
  have hcw := va_cwS (R := R) (mc := 0) (ms := 0) (rm := rmO fr lo 0 0) as.length F.2.2.2.2.1 hG rfl rfl rfl ⟨w5, w6, w7⟩ (by rw [hRe]; exact ⟨z1, z2⟩)
  refine run_done (va_runS (As := stV O as) (rest := stV O st) F.fix hM hcw ⟨blindW, fun U hU hW => ⟨rfl, F.Wd hP hS hU hW⟩⟩ rfl stV_len hL.1 (rs hst) (by show 2 * 0 + _ ≤ 8; omega) (F.dec hT) (by rw [hRe]; exact ⟨z4, z5⟩)) hS ?_
  intro v S' H1 locs1 hp hP1 hS1
  rw [stV_opt]
  exact kk v S' hp hR F H1 locs1 la hP1 hS1 hL
theorem a_callSN (a b : Nat) {host : String} (hC : Cts dy fr lo as S P) (hT : IA D a b pc (.invokestatic index) 3) (cw : CSN D.1.1 index host dy as.length) (hst : st0 = as.reverse ++ st) (hz : RmOk O D k n fr lo dy.2.2.2.1 0 0 st) (kk : ∀ v S', P v S' → BW O G D k n Q S' (pc + 3) ls (v.toList ++ st)) : BW O G D k n Q S pc ls st0 := by
  obtain ⟨p, l, e, R, s, m, args, below, meth, c⟩ := G
  intro hR F H locs la hP hS hL
  have hRe : R = rmO D.2.2.1 D.2.2.2.1 D.2.2.2.2.1 D.2.2.2.2.2 := hR
  obtain ⟨w1, w2, w3, w4, w5, w6, w7⟩ := cw
  obtain ⟨z1, z2, z3, z4, z5⟩ := hz
  have hM := hC l F.2.2.2.2.2.2.2.2.2.2.2.2.1 O
  have hG : GoodIn WSg (.code dy.2.1 dy.2.2.1 dy.2.2.2.1 dy.2.2.2.2.1 :: WSg) := wsg_GoodIn fun w hw => by
    rcases List.mem_cons.mp hw with rfl | hw <;> assumption
  have hE := F.2.2.2.2.2.2.2.2.2.1
  have hcw := va_cnB (R := R) (mc := 0) (ms := 0) (rm := rmO fr lo 0 0) (maxL := dy.2.2.2.1) as.length F.2.2.2.2.1 hG rfl rfl rfl (hE.2.2.2.2.2.1 _ w1) (F.2.2.2.2.1 _ w3) ⟨w5, w6, w7⟩ (by rw [hRe]; exact ⟨z1, z2⟩)
  refine run_done (va_runSN (As := stV O as) (rest := stV O st) F.fix hM ⟨hcw, F.2.2.2.2.1 _ w2, trivial⟩ ⟨blindW, fun U hU hW => ⟨rfl, F.Wd hP hS hU hW⟩⟩ rfl stV_len hL.1 (rs hst) (by show 2 * 0 + _ ≤ 8; omega) (F.dec hT) (by rw [hRe]; exact ⟨z4, z5⟩)) hS ?_
  intro v S' H1 locs1 hp hP1 hS1
  rw [stV_opt]
  exact kk v S' hp hR F H1 locs1 la hP1 hS1 hL
theorem a_callH (a b : Nat) {hh : List (Nat × Nat × Nat × Nat)} {kc ns : Nat} (hC : Chs dy hh fr lo kc ns as S P) (hT : IA D a b pc (.invokestatic index) 3) (cw : CH D.1.1 index dy hh as.length) (hst : st0 = as.reverse ++ st) (hz : RmOk O D k n fr lo dy.2.2.2.1 kc ns st) (kk : ∀ v S', P v S' → BW O G D (k + kc) (n + ns) Q S' (pc + 3) ls (v.toList ++ st)) : BW O G D k n Q S pc ls st0 := by
  obtain ⟨p, l, e, R, s, m, args, below, meth, c⟩ := G
  intro hR F H locs la hP hS hL
  have hRe : R = rmO D.2.2.1 D.2.2.2.1 D.2.2.2.2.1 D.2.2.2.2.2 := hR
  obtain ⟨w1, w2, w3, w4, w5, w6, w7⟩ := cw
  obtain ⟨z1, z2, z3, z4, z5⟩ := hz
  have hM := hC l F.2.2.2.2.2.2.2.2.2.2.2.2.1 O
  have hG : GoodIn WSg (va_wsS D.1.1 index dy.2.1 (.codeWith dy.2.1 dy.2.2.1 dy.2.2.2.1 dy.2.2.2.2.1 hh :: WSg)) := wsg_GoodIn fun w hw => by
    simp only [va_wsS, List.mem_append, List.mem_cons, List.not_mem_nil, or_false] at hw
    rcases hw with (rfl | rfl | rfl) | rfl | hw <;> assumption
  have hcw := vx_cwSW (R := R) (mc := kc) (ms := ns) (rm := rmO fr lo kc ns) as.length F.2.2.2.2.1 hG rfl rfl rfl ⟨w5, w6, w7⟩ (by rw [hRe]; exact ⟨z1, z2⟩)
  refine run_done (vx_runSW (As := stV O as) (rest := stV O st) F.fix hM hcw ⟨blindW, fun U hU hW => ⟨rfl, F.Wd hP hS hU hW⟩⟩ rfl stV_len hL.1 (rs hst) (by show 2 * 0 + _ ≤ 8; omega) (F.dec hT) (by rw [hRe]; exact ⟨z4, z5⟩)) hS ?_
  intro v S' H1 locs1 hp hP1 hS1
  rw [stV_opt]
  exact kk v S' hp hR F H1 locs1 la hP1 hS1 hL
/-- a call that throws -/
theorem a_callVX (a b : Nat) {E : String} {q : Nat × Nat} {ci N : Nat} {fs : List Value} {T : u_T} (hC : Cqs dy fr lo (.inr q :: as) S E) (hT : IA D a b pc (.invokevirtual index) 3) (cw : CV D.1.1 index dy as.length) (hq : q.2 < cntK q.1) (he : ent O S q.1 q.2 = .inr (ci, fs)) (hc : vwCl[ci]? = some (dy.2.1.cls, T, N)) (hst : st0 = as.reverse ++ .inr q :: st) (hz : RmOk O D k n fr lo dy.2.2.2.1 1 6 st) (kk : BX O G D (k + 1) (n + 6) Q S pc ls E) : BW O G D k n Q S pc ls st0 := by
  obtain ⟨p, l, e, R, s, m, args, below, meth, c⟩ := G
  intro hR F H locs la hP hS hL
  have hRe : R = rmO D.2.2.1 D.2.2.2.1 D.2.2.2.2.1 D.2.2.2.2.2 := hR
  obtain ⟨w1, w2, w3, w4, w5, w6, w7, w8⟩ := cw
  obtain ⟨z1, z2, z3, z4, z5⟩ := hz
  obtain ⟨q0, -, hq0⟩ := hP.get hq he
  have hM := hC l F.2.2.2.2.2.2.2.2.2.2.2.2.1 O
  have hG : GoodIn WSg (wsV D.1.1 index dy.2.1.cls dy.2.1 (.code dy.2.1 dy.2.2.1 dy.2.2.2.1 dy.2.2.2.2.1 :: WSg)) := wsg_GoodIn fun w hw => by
    simp only [wsV, List.mem_append, List.mem_cons, List.not_mem_nil, or_false] at hw
    rcases hw with (rfl | rfl | rfl | rfl) | rfl | hw <;> assumption
  have hcw := cwV (R := R) (mc := 1) (ms := 6) (rm := rmO fr lo 1 6) as.length F.2.2.2.2.1 hG rfl rfl rfl ⟨rfl, w6, w7, w8⟩ (by rw [hRe]; exact ⟨z1, z2⟩)
  refine run_doneX (vx_runV (As := stV O as) (rest := stV O st) F.fix hM hcw ⟨blindW, va_recv F.2.2.2.2.2.2.2.2.1 hP hc hq0, fun U hU hW => ⟨rfl, F.Wd hP hS hU hW⟩⟩ rfl stV_len hL.1 (rv hst) (by show 2 * 0 + _ ≤ 8; omega) (F.dec hT) (by rw [hRe]; exact ⟨z4, z5⟩)) hS ?_
  intro H1 locs1 q ce hP1 hS1 h1 h2 h3
  exact kk hR F H1 locs1 la _ q ce hP1 hS1 hL h1 h2 h3
theorem a_callSX (a b : Nat) {E : String} (hC : Cqs dy fr lo as S E) (hT : IA D a b pc (.invokestatic index) 3) (cw : CS D.1.1 index dy as.length) (hst : st0 = as.reverse ++ st) (hz : RmOk O D k n fr lo dy.2.2.2.1 1 6 st) (kk : BX O G D (k + 1) (n + 6) Q S pc ls E) : BW O G D k n Q S pc ls st0 := by
  obtain ⟨p, l, e, R, s, m, args, below, meth, c⟩ := G
  intro hR F H locs la hP hS hL
  have hRe : R = rmO D.2.2.1 D.2.2.2.1 D.2.2.2.2.1 D.2.2.2.2.2 := hR
  obtain ⟨w1, w2, w3, w4, w5, w6, w7⟩ := cw
  obtain ⟨z1, z2, z3, z4, z5⟩ := hz
  have hM := hC l F.2.2.2.2.2.2.2.2.2.2.2.2.1 O
  have hG : GoodIn WSg (va_wsS D.1.1 index dy.2.1 (.code dy.2.1 dy.2.2.1 dy.2.2.2.1 dy.2.2.2.2.1 :: WSg)) := wsg_GoodIn fun w hw => by
    simp only [va_wsS, List.mem_append, List.mem_cons, List.not_mem_nil, or_false] at hw
    rcases hw with (rfl | rfl | rfl) | rfl | hw <;> assumption
  have hcw := va_cwS (R := R) (mc := 1) (ms := 6) (rm := rmO fr lo 1 6) as.length F.2.2.2.2.1 hG rfl rfl rfl ⟨w5, w6, w7⟩ (by rw [hRe]; exact ⟨z1, z2⟩)
  refine run_doneX (vx_runS (As := stV O as) (rest := stV O st) F.fix hM hcw ⟨blindW, fun U hU hW => ⟨rfl, F.Wd hP hS hU hW⟩⟩ rfl stV_len hL.1 (rs hst) (by show 2 * 0 + _ ≤ 8; omega) (F.dec hT) (by rw [hRe]; exact ⟨z4, z5⟩)) hS ?_
  intro H1 locs1 q ce hP1 hS1 h1 h2 h3
  exact kk hR F H1 locs1 la _ q ce hP1 hS1 hL h1 h2 h3
/-- it goes on to the caller -/
theorem a_out {E : String} (hh : D.2.1 = []) (hk : k ≤ 1) (hn : n ≤ 6) : BX O G D k n (QX O G S E) S pc ls E := by
  obtain ⟨p, l, e, R, s, m, args, below, meth, c⟩ := G
  intro hR F H locs la rest q ce hP hS hL h1 h2 h3
  have ht := F.2.2.2.2.2.2.2.2.2.2.2.2.2
  rw [hh] at ht
  exact vx_out (fun x hx => by rw [ht] at hx; cases hx) F.2.2.2.2.2.2.1 h1 h2 h3 (fun t ht _ => ⟨rfl, by rw [ht]; exact hP, hS.F ht⟩) hS.2.2 hk hn
/-- which classes no handler of which other takes -/
def NcOk (E nm : String) : Prop := (E = xArg ∧ nm = xIdx) ∨ (E = xSta ∧ nm = xIdx) ∨ (E = xSta ∧ nm = xArg)
theorem a_catch {E : String} (pre : List (Nat × Nat × Nat × Nat)) (x : Nat × Nat × Nat × Nat) (suf : List (Nat × Nat × Nat × Nat)) (hsp : D.2.1 = pre ++ x :: suf) (hpass : ∀ z ∈ pre, z.2.2.2 ≠ 0 ∧ ∃ nm : String, Cond.classLink D.1.1 z.2.2.2 nm ∈ WSg ∧ NcOk E nm) (hx : covers ⟨x.1, x.2.1, x.2.2.1, x.2.2.2⟩ pc = true) (h0 : x.2.2.2 ≠ 0) (hlink : Cond.classLink D.1.1 x.2.2.2 E ∈ WSg) (hcast : Cond.castable E E ∈ WSx) (kk : ∀ q : Addr, BW O G D k n Q S x.2.2.1 ls [.inl (.ref q)]) : BX O G D k n Q S pc ls E := by
  obtain ⟨p, l, e, R, s, m, args, below, meth, c⟩ := G
  intro hR F H locs la rest q ce hP hS hL h1 h2 h3
  have ht := F.2.2.2.2.2.2.2.2.2.2.2.2.2
  have hE := F.2.2.2.2.2.2.2.2.2.1
  obtain ⟨-, -, -, -, -, hX, n1, n2, n3⟩ := hE
  refine vx_catch F.2.2.2.1 (tableOf pre) ⟨x.1, x.2.1, x.2.2.1, x.2.2.2⟩ (tableOf suf) (by rw [ht, hsp]; simp [tableOf]) ?_ hx h0 (F.2.2.2.2.1 _ hlink) (xw_use (w := .castable E E) rfl (hX _ hcast)) h1 h2 h3 (kk q hR F H locs la hP hS hL)
  intro z hz
  obtain ⟨y, hy, rfl⟩ := List.mem_map.mp hz
  obtain ⟨h5, nm, h6, h7⟩ := hpass y hy
  refine Or.inr ⟨h5, nm, F.2.2.2.2.1 _ h6, ?_⟩
  rcases h7 with ⟨rfl, rfl⟩ | ⟨rfl, rfl⟩ | ⟨rfl, rfl⟩ <;> assumption
end Calls10
section Throw10
variable {O : Om} {G : Cx} {D : FD} {S : Mem} {pc : Nat} {ls : List (Option AV)}
theorem a_throw (a b : Nat) {cls text : String} {ik is ic : Nat} (hh : D.2.1 = []) (hcls : Bundle.fit cls = true) (hk : Cond.classLink D.1.1 ik cls ∈ WSg) (hini : Cond.initialized cls ∈ WSg)
    (hstr : ∀ s : State, ExF O s → ∃ sa : Nat, vk_R D.1.1 is text sa s)
    (hw : ∀ w ∈ vx_atS D.1.1 ic cls ["java/lang/RuntimeException", "java/lang/Exception"], w ∈ WSg ∨ w ∈ WSx)
    (hg : ∀ w ∈ Cond.classLink D.1.1 ik cls :: Cond.initialized cls :: vx_atS D.1.1 ic cls ["java/lang/RuntimeException", "java/lang/Exception"], vx_ot w = true)
    (d0 : IA D a b pc (.new ik) 3) (d3 : IA D a (b + 1) (pc + 3) .dup 1) (d4 : IA D a (b + 2) (pc + 4) (.ldc_w is) 3) (d7 : IA D a (b + 3) (pc + 7) (.invokespecial ic) 3) (d10 : IA D a (b + 4) (pc + 10) .athrow 1)
    (hz : 5 < D.2.2.1 ∧ 82 ≤ D.2.2.2.1 ∧ 1 ≤ D.2.2.2.2.1 ∧ 6 ≤ D.2.2.2.2.2) : BW O G D 0 0 (QX O G S cls) S pc ls [] := by
  obtain ⟨p, l, e, R, s, m, args, below, meth, c⟩ := G
  intro hR F H locs la hP hS hL
  have hRe : R = rmO D.2.2.1 D.2.2.2.1 D.2.2.2.2.1 D.2.2.2.2.2 := hR
  have ht := F.2.2.2.2.2.2.2.2.2.2.2.2.2
  rw [hh] at ht
  have hE := F.2.2.2.2.2.2.2.2.2.1
  obtain ⟨sa, hsa⟩ := hstr s hE
  obtain ⟨-, -, -, hU, hN, hX, -⟩ := hE
  refine vx_throwSW (names := ["java/lang/RuntimeException", "java/lang/Exception"]) F.1 F.2.1 F.2.2.2.2.2.2.2.2.2.2.2.2.1 F.2.2.2.1 hcls (by decide +kernel) (F.2.2.2.2.1 _ hk) (F.2.2.2.2.1 _ hini) hsa ?_ hg hU hN hS (hL.1.trans F.2.2.1.symm) (F.dec d0) (F.dec d3) (F.dec d4) (F.dec d7) (F.dec d10) (fun x hx => by rw [ht] at hx; cases hx) ?_ ?_ ?_ ?_ F.2.2.2.2.2.2.1 ?_ hS.2.2 (Nat.le_refl 1) (Nat.le_refl 6)
  · intro w h9
    rcases hw w h9 with h | h
    · exact F.2.2.2.2.1 _ h
    · exact xw_use (List.mem_filter.mp h).2 (hX w h)
  · rw [hRe]; exact hz.1
  · rw [hRe]; exact hz.2.1
  · rw [hRe]; exact hz.2.2.1
  · rw [hRe]; exact hz.2.2.2
  · intro t h1 h2 h3
    exact ⟨rfl, fun j q hj => (hP j q hj).kept (h3 q.1 ((hP j q hj).lt)), Nat.le_trans hS.1 h2, fun q h4 h5 => by rw [h3 q (Nat.lt_of_lt_of_le h4 hS.1)]; exact hS.2.1 q h4 h5⟩
end Throw10
