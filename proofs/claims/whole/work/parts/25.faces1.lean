def f_X11_needHolder (S : Mem) (p1 : Int32) : Unit := lt (if p1 < 0 then (0) else (if (nI 16) ≤ p1 then (0) else (1))) (fun (v3 : Int32) => ())
def ok_X11_needHolder (S : Mem) (p1 : Int32) : Prop := ((∀ v3 : Int32, (if p1 < 0 then (0) else (if (nI 16) ≤ p1 then (0) else (1))) = v3 → ((ok_X11_needIndex S v3))))
abbrev fdX11_needHolder : FD := (mdX11_needHolder, [], 1, 20, 0, 0)
set_option maxRecDepth 100000 in
set_option maxHeartbeats 4000000 in
theorem w_X11_needHolder {O : Om} {G : Cx} {S : Mem} {PP : Option AV → Mem → Prop} (p1 : Int32)   (h : ok_X11_needHolder S p1) (hP : PP none S) : BW O G fdX11_needHolder 0 0 (QV O G 0 0 PP) S 0 [some (vi p1)] [] := by
  refine a_iload_n (pc := 0) 0 0 rfl rfl ?_
  have J15_4 : ∀ (v3 : Int32) (ev3 : (if p1 < 0 then (0) else (if (nI 16) ≤ p1 then (0) else (1))) = v3), BW O G fdX11_needHolder 0 0 (QV O G 0 0 PP) S 15 [some (vi p1)] [vi v3] := by
    intro v3 ev3
    have h := h v3 ev3
    have o4 := h
    refine a_callSv (pc := 15) 0 8 (c_X11_needIndex (S := S) v3 (by rw [← ev3]; repeat (first | exact Or.inl rfl | exact Or.inr rfl | assumption | split | dsimp only [lt])) o4) rfl cs_X11_291 rfl (rm rfl) ?_
    exact a_vret (pc := 18) 0 9 rfl rfl hP
  refine a_if_lt (pc := 1) (tgt := 14) 0 1 rfl (by decide) (fun c1_0 => ?_) (fun c1_0 => ?_)
  · refine a_iconst (pc := 14) 0 7 (v := 0) rfl (by decide) ?_
    exact J15_4 _ (by exact (if_pos c1_0))
  · refine a_iload_n (pc := 4) 0 2 rfl rfl ?_
    refine a_bipush (pc := 5) 0 3 (v := nI 16) rfl (by decide) ?_
    refine a_icmp_ge (pc := 7) (tgt := 14) 0 4 rfl (by decide) (fun c7_1 => ?_) (fun c7_1 => ?_)
    · refine a_iconst (pc := 14) 0 7 (v := 0) rfl (by decide) ?_
      exact J15_4 _ (by exact ((if_neg c1_0).trans (if_pos c7_1)))
    · refine a_iconst (pc := 10) 0 5 (v := 1) rfl (by decide) ?_
      refine a_goto (pc := 11) (tgt := 15) 0 6 rfl (by decide) ?_
      exact J15_4 _ (by exact ((if_neg c1_0).trans (if_neg c7_1)))
theorem c_X11_needHolder {S : Mem} (p1 : Int32)   (h : ok_X11_needHolder S p1) : Cts mdX11_needHolder 1 20 [vi p1] S (Is none (S)) := Cts.of dtX11_needHolder (by decide +kernel) rfl rfl (Nat.le_of_ble_eq_true rfl) rfl (fun O G => w_X11_needHolder p1 h ⟨rfl, rfl⟩)
def okx_X11_needHolder_1 (S : Mem) (p1 : Int32) : Prop := ((∀ v3 : Int32, (if p1 < 0 then (0) else (if (nI 16) ≤ p1 then (0) else (1))) = v3 → ((okx_X11_needIndex S v3))))
abbrev fqX11_needHolder_1 : FD := (mdX11_needHolder, [], 7, 102, 1, 6)
set_option maxRecDepth 100000 in
set_option maxHeartbeats 4000000 in
theorem q_X11_needHolder_1 {S : Mem} (p1 : Int32)  (h : okx_X11_needHolder_1 S p1) : Cqs mdX11_needHolder 7 102 [vi p1] S xIdx := Cqs.of dtX11_needHolder (by decide +kernel) rfl rfl (Nat.le_of_ble_eq_true rfl) rfl (fun O G => by
  show BW O G fqX11_needHolder_1 0 0 _ S 0 _ []
  refine a_iload_n (pc := 0) 0 0 rfl rfl ?_
  have J15_4 : ∀ (v3 : Int32) (ev3 : (if p1 < 0 then (0) else (if (nI 16) ≤ p1 then (0) else (1))) = v3), BW O G fqX11_needHolder_1 0 0 (QX O G S xIdx) S 15 [some (vi p1)] [vi v3] := by
    intro v3 ev3
    have h := h v3 ev3
    have o4 := h
    refine a_callSX (pc := 15) 0 8 (q_X11_needIndex (S := S) v3 (by rw [← ev3]; repeat (first | exact Or.inl rfl | exact Or.inr rfl | assumption | split | dsimp only [lt])) o4) rfl cs_X11_291 rfl (rm rfl) ?_
    exact a_out rfl (by decide) (by decide)
  refine a_if_lt (pc := 1) (tgt := 14) 0 1 rfl (by decide) (fun c1_0 => ?_) (fun c1_0 => ?_)
  · refine a_iconst (pc := 14) 0 7 (v := 0) rfl (by decide) ?_
    exact J15_4 _ (by exact (if_pos c1_0))
  · refine a_iload_n (pc := 4) 0 2 rfl rfl ?_
    refine a_bipush (pc := 5) 0 3 (v := nI 16) rfl (by decide) ?_
    refine a_icmp_ge (pc := 7) (tgt := 14) 0 4 rfl (by decide) (fun c7_1 => ?_) (fun c7_1 => ?_)
    · refine a_iconst (pc := 14) 0 7 (v := 0) rfl (by decide) ?_
      exact J15_4 _ (by exact ((if_neg c1_0).trans (if_pos c7_1)))
    · refine a_iconst (pc := 10) 0 5 (v := 1) rfl (by decide) ?_
      refine a_goto (pc := 11) (tgt := 15) 0 6 rfl (by decide) ?_
      exact J15_4 _ (by exact ((if_neg c1_0).trans (if_neg c7_1))))
def f_X11_needHousehold (S : Mem) (p1 : Int32) : Unit := lt (if p1 < 0 then (0) else (if (nI 10) ≤ p1 then (0) else (1))) (fun (v3 : Int32) => ())
def ok_X11_needHousehold (S : Mem) (p1 : Int32) : Prop := ((∀ v3 : Int32, (if p1 < 0 then (0) else (if (nI 10) ≤ p1 then (0) else (1))) = v3 → ((ok_X11_needIndex S v3))))
abbrev fdX11_needHousehold : FD := (mdX11_needHousehold, [], 1, 20, 0, 0)
set_option maxRecDepth 100000 in
set_option maxHeartbeats 4000000 in
theorem w_X11_needHousehold {O : Om} {G : Cx} {S : Mem} {PP : Option AV → Mem → Prop} (p1 : Int32)   (h : ok_X11_needHousehold S p1) (hP : PP none S) : BW O G fdX11_needHousehold 0 0 (QV O G 0 0 PP) S 0 [some (vi p1)] [] := by
  refine a_iload_n (pc := 0) 0 0 rfl rfl ?_
  have J15_4 : ∀ (v3 : Int32) (ev3 : (if p1 < 0 then (0) else (if (nI 10) ≤ p1 then (0) else (1))) = v3), BW O G fdX11_needHousehold 0 0 (QV O G 0 0 PP) S 15 [some (vi p1)] [vi v3] := by
    intro v3 ev3
    have h := h v3 ev3
    have o4 := h
    refine a_callSv (pc := 15) 0 8 (c_X11_needIndex (S := S) v3 (by rw [← ev3]; repeat (first | exact Or.inl rfl | exact Or.inr rfl | assumption | split | dsimp only [lt])) o4) rfl cs_X11_291 rfl (rm rfl) ?_
    exact a_vret (pc := 18) 0 9 rfl rfl hP
  refine a_if_lt (pc := 1) (tgt := 14) 0 1 rfl (by decide) (fun c1_0 => ?_) (fun c1_0 => ?_)
  · refine a_iconst (pc := 14) 0 7 (v := 0) rfl (by decide) ?_
    exact J15_4 _ (by exact (if_pos c1_0))
  · refine a_iload_n (pc := 4) 0 2 rfl rfl ?_
    refine a_bipush (pc := 5) 0 3 (v := nI 10) rfl (by decide) ?_
    refine a_icmp_ge (pc := 7) (tgt := 14) 0 4 rfl (by decide) (fun c7_1 => ?_) (fun c7_1 => ?_)
    · refine a_iconst (pc := 14) 0 7 (v := 0) rfl (by decide) ?_
      exact J15_4 _ (by exact ((if_neg c1_0).trans (if_pos c7_1)))
    · refine a_iconst (pc := 10) 0 5 (v := 1) rfl (by decide) ?_
      refine a_goto (pc := 11) (tgt := 15) 0 6 rfl (by decide) ?_
      exact J15_4 _ (by exact ((if_neg c1_0).trans (if_neg c7_1)))
theorem c_X11_needHousehold {S : Mem} (p1 : Int32)   (h : ok_X11_needHousehold S p1) : Cts mdX11_needHousehold 1 20 [vi p1] S (Is none (S)) := Cts.of dtX11_needHousehold (by decide +kernel) rfl rfl (Nat.le_of_ble_eq_true rfl) rfl (fun O G => w_X11_needHousehold p1 h ⟨rfl, rfl⟩)
def okx_X11_needHousehold_1 (S : Mem) (p1 : Int32) : Prop := ((∀ v3 : Int32, (if p1 < 0 then (0) else (if (nI 10) ≤ p1 then (0) else (1))) = v3 → ((okx_X11_needIndex S v3))))
abbrev fqX11_needHousehold_1 : FD := (mdX11_needHousehold, [], 7, 102, 1, 6)
set_option maxRecDepth 100000 in
set_option maxHeartbeats 4000000 in
theorem q_X11_needHousehold_1 {S : Mem} (p1 : Int32)  (h : okx_X11_needHousehold_1 S p1) : Cqs mdX11_needHousehold 7 102 [vi p1] S xIdx := Cqs.of dtX11_needHousehold (by decide +kernel) rfl rfl (Nat.le_of_ble_eq_true rfl) rfl (fun O G => by
  show BW O G fqX11_needHousehold_1 0 0 _ S 0 _ []
  refine a_iload_n (pc := 0) 0 0 rfl rfl ?_
  have J15_4 : ∀ (v3 : Int32) (ev3 : (if p1 < 0 then (0) else (if (nI 10) ≤ p1 then (0) else (1))) = v3), BW O G fqX11_needHousehold_1 0 0 (QX O G S xIdx) S 15 [some (vi p1)] [vi v3] := by
    intro v3 ev3
    have h := h v3 ev3
    have o4 := h
    refine a_callSX (pc := 15) 0 8 (q_X11_needIndex (S := S) v3 (by rw [← ev3]; repeat (first | exact Or.inl rfl | exact Or.inr rfl | assumption | split | dsimp only [lt])) o4) rfl cs_X11_291 rfl (rm rfl) ?_
    exact a_out rfl (by decide) (by decide)
  refine a_if_lt (pc := 1) (tgt := 14) 0 1 rfl (by decide) (fun c1_0 => ?_) (fun c1_0 => ?_)
  · refine a_iconst (pc := 14) 0 7 (v := 0) rfl (by decide) ?_
    exact J15_4 _ (by exact (if_pos c1_0))
  · refine a_iload_n (pc := 4) 0 2 rfl rfl ?_
    refine a_bipush (pc := 5) 0 3 (v := nI 10) rfl (by decide) ?_
    refine a_icmp_ge (pc := 7) (tgt := 14) 0 4 rfl (by decide) (fun c7_1 => ?_) (fun c7_1 => ?_)
    · refine a_iconst (pc := 14) 0 7 (v := 0) rfl (by decide) ?_
      exact J15_4 _ (by exact ((if_neg c1_0).trans (if_pos c7_1)))
    · refine a_iconst (pc := 10) 0 5 (v := 1) rfl (by decide) ?_
      refine a_goto (pc := 11) (tgt := 15) 0 6 rfl (by decide) ?_
      exact J15_4 _ (by exact ((if_neg c1_0).trans (if_neg c7_1))))
def f_X11_needFirm (S : Mem) (p1 : Int32) : Unit := lt (if p1 < (nI 10) then (0) else (if (nI 16) ≤ p1 then (0) else (1))) (fun (v3 : Int32) => ())
def ok_X11_needFirm (S : Mem) (p1 : Int32) : Prop := ((∀ v3 : Int32, (if p1 < (nI 10) then (0) else (if (nI 16) ≤ p1 then (0) else (1))) = v3 → ((ok_X11_needIndex S v3))))
abbrev fdX11_needFirm : FD := (mdX11_needFirm, [], 1, 20, 0, 0)
set_option maxRecDepth 100000 in
set_option maxHeartbeats 4000000 in
theorem w_X11_needFirm {O : Om} {G : Cx} {S : Mem} {PP : Option AV → Mem → Prop} (p1 : Int32)   (h : ok_X11_needFirm S p1) (hP : PP none S) : BW O G fdX11_needFirm 0 0 (QV O G 0 0 PP) S 0 [some (vi p1)] [] := by
  refine a_iload_n (pc := 0) 0 0 rfl rfl ?_
  refine a_bipush (pc := 1) 0 1 (v := nI 10) rfl (by decide) ?_
  have J17_4 : ∀ (v3 : Int32) (ev3 : (if p1 < (nI 10) then (0) else (if (nI 16) ≤ p1 then (0) else (1))) = v3), BW O G fdX11_needFirm 0 0 (QV O G 0 0 PP) S 17 [some (vi p1)] [vi v3] := by
    intro v3 ev3
    have h := h v3 ev3
    have o4 := h
    refine a_callSv (pc := 17) 0 9 (c_X11_needIndex (S := S) v3 (by rw [← ev3]; repeat (first | exact Or.inl rfl | exact Or.inr rfl | assumption | split | dsimp only [lt])) o4) rfl cs_X11_291 rfl (rm rfl) ?_
    exact a_vret (pc := 20) 0 10 rfl rfl hP
  refine a_icmp_lt (pc := 3) (tgt := 16) 0 2 rfl (by decide) (fun c3_0 => ?_) (fun c3_0 => ?_)
  · refine a_iconst (pc := 16) 0 8 (v := 0) rfl (by decide) ?_
    exact J17_4 _ (by exact (if_pos c3_0))
  · refine a_iload_n (pc := 6) 0 3 rfl rfl ?_
    refine a_bipush (pc := 7) 0 4 (v := nI 16) rfl (by decide) ?_
    refine a_icmp_ge (pc := 9) (tgt := 16) 0 5 rfl (by decide) (fun c9_1 => ?_) (fun c9_1 => ?_)
    · refine a_iconst (pc := 16) 0 8 (v := 0) rfl (by decide) ?_
      exact J17_4 _ (by exact ((if_neg c3_0).trans (if_pos c9_1)))
    · refine a_iconst (pc := 12) 0 6 (v := 1) rfl (by decide) ?_
      refine a_goto (pc := 13) (tgt := 17) 0 7 rfl (by decide) ?_
      exact J17_4 _ (by exact ((if_neg c3_0).trans (if_neg c9_1)))
theorem c_X11_needFirm {S : Mem} (p1 : Int32)   (h : ok_X11_needFirm S p1) : Cts mdX11_needFirm 1 20 [vi p1] S (Is none (S)) := Cts.of dtX11_needFirm (by decide +kernel) rfl rfl (Nat.le_of_ble_eq_true rfl) rfl (fun O G => w_X11_needFirm p1 h ⟨rfl, rfl⟩)
def okx_X11_needFirm_1 (S : Mem) (p1 : Int32) : Prop := ((∀ v3 : Int32, (if p1 < (nI 10) then (0) else (if (nI 16) ≤ p1 then (0) else (1))) = v3 → ((okx_X11_needIndex S v3))))
abbrev fqX11_needFirm_1 : FD := (mdX11_needFirm, [], 7, 102, 1, 6)
set_option maxRecDepth 100000 in
set_option maxHeartbeats 4000000 in
theorem q_X11_needFirm_1 {S : Mem} (p1 : Int32)  (h : okx_X11_needFirm_1 S p1) : Cqs mdX11_needFirm 7 102 [vi p1] S xIdx := Cqs.of dtX11_needFirm (by decide +kernel) rfl rfl (Nat.le_of_ble_eq_true rfl) rfl (fun O G => by
  show BW O G fqX11_needFirm_1 0 0 _ S 0 _ []
  refine a_iload_n (pc := 0) 0 0 rfl rfl ?_
  refine a_bipush (pc := 1) 0 1 (v := nI 10) rfl (by decide) ?_
  have J17_4 : ∀ (v3 : Int32) (ev3 : (if p1 < (nI 10) then (0) else (if (nI 16) ≤ p1 then (0) else (1))) = v3), BW O G fqX11_needFirm_1 0 0 (QX O G S xIdx) S 17 [some (vi p1)] [vi v3] := by
    intro v3 ev3
    have h := h v3 ev3
    have o4 := h
    refine a_callSX (pc := 17) 0 9 (q_X11_needIndex (S := S) v3 (by rw [← ev3]; repeat (first | exact Or.inl rfl | exact Or.inr rfl | assumption | split | dsimp only [lt])) o4) rfl cs_X11_291 rfl (rm rfl) ?_
    exact a_out rfl (by decide) (by decide)
  refine a_icmp_lt (pc := 3) (tgt := 16) 0 2 rfl (by decide) (fun c3_0 => ?_) (fun c3_0 => ?_)
  · refine a_iconst (pc := 16) 0 8 (v := 0) rfl (by decide) ?_
    exact J17_4 _ (by exact (if_pos c3_0))
  · refine a_iload_n (pc := 6) 0 3 rfl rfl ?_
    refine a_bipush (pc := 7) 0 4 (v := nI 16) rfl (by decide) ?_
    refine a_icmp_ge (pc := 9) (tgt := 16) 0 5 rfl (by decide) (fun c9_1 => ?_) (fun c9_1 => ?_)
    · refine a_iconst (pc := 16) 0 8 (v := 0) rfl (by decide) ?_
      exact J17_4 _ (by exact ((if_neg c3_0).trans (if_pos c9_1)))
    · refine a_iconst (pc := 12) 0 6 (v := 1) rfl (by decide) ?_
      refine a_goto (pc := 13) (tgt := 17) 0 7 rfl (by decide) ?_
      exact J17_4 _ (by exact ((if_neg c3_0).trans (if_neg c9_1))))
def f_X11_needBank (S : Mem) (p1 : Int32) : Unit := lt (if p1 < 0 then (0) else (if (nI 4) ≤ p1 then (0) else (1))) (fun (v3 : Int32) => ())
def ok_X11_needBank (S : Mem) (p1 : Int32) : Prop := ((∀ v3 : Int32, (if p1 < 0 then (0) else (if (nI 4) ≤ p1 then (0) else (1))) = v3 → ((ok_X11_needIndex S v3))))
abbrev fdX11_needBank : FD := (mdX11_needBank, [], 1, 20, 0, 0)
set_option maxRecDepth 100000 in
set_option maxHeartbeats 4000000 in
theorem w_X11_needBank {O : Om} {G : Cx} {S : Mem} {PP : Option AV → Mem → Prop} (p1 : Int32)   (h : ok_X11_needBank S p1) (hP : PP none S) : BW O G fdX11_needBank 0 0 (QV O G 0 0 PP) S 0 [some (vi p1)] [] := by
  refine a_iload_n (pc := 0) 0 0 rfl rfl ?_
  have J14_4 : ∀ (v3 : Int32) (ev3 : (if p1 < 0 then (0) else (if (nI 4) ≤ p1 then (0) else (1))) = v3), BW O G fdX11_needBank 0 0 (QV O G 0 0 PP) S 14 [some (vi p1)] [vi v3] := by
    intro v3 ev3
    have h := h v3 ev3
    have o4 := h
    refine a_callSv (pc := 14) 0 8 (c_X11_needIndex (S := S) v3 (by rw [← ev3]; repeat (first | exact Or.inl rfl | exact Or.inr rfl | assumption | split | dsimp only [lt])) o4) rfl cs_X11_291 rfl (rm rfl) ?_
    exact a_vret (pc := 17) 0 9 rfl rfl hP
  refine a_if_lt (pc := 1) (tgt := 13) 0 1 rfl (by decide) (fun c1_0 => ?_) (fun c1_0 => ?_)
  · refine a_iconst (pc := 13) 0 7 (v := 0) rfl (by decide) ?_
    exact J14_4 _ (by exact (if_pos c1_0))
  · refine a_iload_n (pc := 4) 0 2 rfl rfl ?_
    refine a_iconst (pc := 5) 0 3 (v := nI 4) rfl (by decide) ?_
    refine a_icmp_ge (pc := 6) (tgt := 13) 0 4 rfl (by decide) (fun c6_1 => ?_) (fun c6_1 => ?_)
    · refine a_iconst (pc := 13) 0 7 (v := 0) rfl (by decide) ?_
      exact J14_4 _ (by exact ((if_neg c1_0).trans (if_pos c6_1)))
    · refine a_iconst (pc := 9) 0 5 (v := 1) rfl (by decide) ?_
      refine a_goto (pc := 10) (tgt := 14) 0 6 rfl (by decide) ?_
      exact J14_4 _ (by exact ((if_neg c1_0).trans (if_neg c6_1)))
theorem c_X11_needBank {S : Mem} (p1 : Int32)   (h : ok_X11_needBank S p1) : Cts mdX11_needBank 1 20 [vi p1] S (Is none (S)) := Cts.of dtX11_needBank (by decide +kernel) rfl rfl (Nat.le_of_ble_eq_true rfl) rfl (fun O G => w_X11_needBank p1 h ⟨rfl, rfl⟩)
def okx_X11_needBank_1 (S : Mem) (p1 : Int32) : Prop := ((∀ v3 : Int32, (if p1 < 0 then (0) else (if (nI 4) ≤ p1 then (0) else (1))) = v3 → ((okx_X11_needIndex S v3))))
abbrev fqX11_needBank_1 : FD := (mdX11_needBank, [], 7, 102, 1, 6)
set_option maxRecDepth 100000 in
set_option maxHeartbeats 4000000 in
theorem q_X11_needBank_1 {S : Mem} (p1 : Int32)  (h : okx_X11_needBank_1 S p1) : Cqs mdX11_needBank 7 102 [vi p1] S xIdx := Cqs.of dtX11_needBank (by decide +kernel) rfl rfl (Nat.le_of_ble_eq_true rfl) rfl (fun O G => by
  show BW O G fqX11_needBank_1 0 0 _ S 0 _ []
  refine a_iload_n (pc := 0) 0 0 rfl rfl ?_
  have J14_4 : ∀ (v3 : Int32) (ev3 : (if p1 < 0 then (0) else (if (nI 4) ≤ p1 then (0) else (1))) = v3), BW O G fqX11_needBank_1 0 0 (QX O G S xIdx) S 14 [some (vi p1)] [vi v3] := by
    intro v3 ev3
    have h := h v3 ev3
    have o4 := h
    refine a_callSX (pc := 14) 0 8 (q_X11_needIndex (S := S) v3 (by rw [← ev3]; repeat (first | exact Or.inl rfl | exact Or.inr rfl | assumption | split | dsimp only [lt])) o4) rfl cs_X11_291 rfl (rm rfl) ?_
    exact a_out rfl (by decide) (by decide)
  refine a_if_lt (pc := 1) (tgt := 13) 0 1 rfl (by decide) (fun c1_0 => ?_) (fun c1_0 => ?_)
  · refine a_iconst (pc := 13) 0 7 (v := 0) rfl (by decide) ?_
    exact J14_4 _ (by exact (if_pos c1_0))
  · refine a_iload_n (pc := 4) 0 2 rfl rfl ?_
    refine a_iconst (pc := 5) 0 3 (v := nI 4) rfl (by decide) ?_
    refine a_icmp_ge (pc := 6) (tgt := 13) 0 4 rfl (by decide) (fun c6_1 => ?_) (fun c6_1 => ?_)
    · refine a_iconst (pc := 13) 0 7 (v := 0) rfl (by decide) ?_
      exact J14_4 _ (by exact ((if_neg c1_0).trans (if_pos c6_1)))
    · refine a_iconst (pc := 9) 0 5 (v := 1) rfl (by decide) ?_
      refine a_goto (pc := 10) (tgt := 14) 0 6 rfl (by decide) ?_
      exact J14_4 _ (by exact ((if_neg c1_0).trans (if_neg c6_1))))
def f_X11_needLoan (S : Mem) (p1 : Int32) : Unit := lt (if p1 < 0 then (0) else (if (S.1 kLoans 0) ≤ p1 then (0) else (1))) (fun (v3 : Int32) => ())
def ok_X11_needLoan (S : Mem) (p1 : Int32) : Prop := ((∀ v3 : Int32, (if p1 < 0 then (0) else (if (S.1 kLoans 0) ≤ p1 then (0) else (1))) = v3 → ((ok_X11_needIndex S v3))))
abbrev fdX11_needLoan : FD := (mdX11_needLoan, [], 1, 20, 0, 0)
set_option maxRecDepth 100000 in
set_option maxHeartbeats 4000000 in
theorem w_X11_needLoan {O : Om} {G : Cx} {S : Mem} {PP : Option AV → Mem → Prop} (p1 : Int32)   (h : ok_X11_needLoan S p1) (hP : PP none S) : BW O G fdX11_needLoan 0 0 (QV O G 0 0 PP) S 0 [some (vr 11 0), some (vi p1)] [] := by
  refine a_iload_n (pc := 0) 0 0 rfl rfl ?_
  have J20_4 : ∀ (v3 : Int32) (ev3 : (if p1 < 0 then (0) else (if (S.1 kLoans 0) ≤ p1 then (0) else (1))) = v3), BW O G fdX11_needLoan 0 0 (QV O G 0 0 PP) S 20 [some (vr 11 0), some (vi p1)] [vi v3] := by
    intro v3 ev3
    have h := h v3 ev3
    have o4 := h
    refine a_callSv (pc := 20) 0 10 (c_X11_needIndex (S := S) v3 (by rw [← ev3]; repeat (first | exact Or.inl rfl | exact Or.inr rfl | assumption | split | dsimp only [lt])) o4) rfl cs_X11_291 rfl (rm rfl) ?_
    exact a_vret (pc := 23) 0 11 rfl rfl hP
  refine a_if_lt (pc := 1) (tgt := 19) 0 1 rfl (by decide) (fun c1_0 => ?_) (fun c1_0 => ?_)
  · refine a_iconst (pc := 19) 0 9 (v := 0) rfl (by decide) ?_
    exact J20_4 _ (by exact (if_pos c1_0))
  · refine a_iload_n (pc := 4) 0 2 rfl rfl ?_
    refine a_aload_n (pc := 5) 0 3 rfl rfl ?_
    refine g_11_loans (pc := 6) 0 4 rfl fl_X11_26 ?_
    refine g_7_count (pc := 9) 0 5 rfl fl_X11_316 ?_
    refine a_icmp_ge (pc := 12) (tgt := 19) 0 6 rfl (by decide) (fun c12_1 => ?_) (fun c12_1 => ?_)
    · refine a_iconst (pc := 19) 0 9 (v := 0) rfl (by decide) ?_
      exact J20_4 _ (by exact ((if_neg c1_0).trans (if_pos c12_1)))
    · refine a_iconst (pc := 15) 0 7 (v := 1) rfl (by decide) ?_
      refine a_goto (pc := 16) (tgt := 20) 0 8 rfl (by decide) ?_
      exact J20_4 _ (by exact ((if_neg c1_0).trans (if_neg c12_1)))
theorem c_X11_needLoan {S : Mem} (p1 : Int32)   (h : ok_X11_needLoan S p1) : Cts mdX11_needLoan 1 20 [vr 11 0, vi p1] S (Is none (S)) := Cts.of dtX11_needLoan (by decide +kernel) rfl rfl (Nat.le_of_ble_eq_true rfl) rfl (fun O G => w_X11_needLoan p1 h ⟨rfl, rfl⟩)
def okx_X11_needLoan_1 (S : Mem) (p1 : Int32) : Prop := ((∀ v3 : Int32, (if p1 < 0 then (0) else (if (S.1 kLoans 0) ≤ p1 then (0) else (1))) = v3 → ((okx_X11_needIndex S v3))))
abbrev fqX11_needLoan_1 : FD := (mdX11_needLoan, [], 7, 102, 1, 6)
set_option maxRecDepth 100000 in
set_option maxHeartbeats 4000000 in
theorem q_X11_needLoan_1 {S : Mem} (p1 : Int32)  (h : okx_X11_needLoan_1 S p1) : Cqs mdX11_needLoan 7 102 [vr 11 0, vi p1] S xIdx := Cqs.of dtX11_needLoan (by decide +kernel) rfl rfl (Nat.le_of_ble_eq_true rfl) rfl (fun O G => by
  show BW O G fqX11_needLoan_1 0 0 _ S 0 _ []
  refine a_iload_n (pc := 0) 0 0 rfl rfl ?_
  have J20_4 : ∀ (v3 : Int32) (ev3 : (if p1 < 0 then (0) else (if (S.1 kLoans 0) ≤ p1 then (0) else (1))) = v3), BW O G fqX11_needLoan_1 0 0 (QX O G S xIdx) S 20 [some (vr 11 0), some (vi p1)] [vi v3] := by
    intro v3 ev3
    have h := h v3 ev3
    have o4 := h
    refine a_callSX (pc := 20) 0 10 (q_X11_needIndex (S := S) v3 (by rw [← ev3]; repeat (first | exact Or.inl rfl | exact Or.inr rfl | assumption | split | dsimp only [lt])) o4) rfl cs_X11_291 rfl (rm rfl) ?_
    exact a_out rfl (by decide) (by decide)
  refine a_if_lt (pc := 1) (tgt := 19) 0 1 rfl (by decide) (fun c1_0 => ?_) (fun c1_0 => ?_)
  · refine a_iconst (pc := 19) 0 9 (v := 0) rfl (by decide) ?_
    exact J20_4 _ (by exact (if_pos c1_0))
  · refine a_iload_n (pc := 4) 0 2 rfl rfl ?_
    refine a_aload_n (pc := 5) 0 3 rfl rfl ?_
    refine g_11_loans (pc := 6) 0 4 rfl fl_X11_26 ?_
    refine g_7_count (pc := 9) 0 5 rfl fl_X11_316 ?_
    refine a_icmp_ge (pc := 12) (tgt := 19) 0 6 rfl (by decide) (fun c12_1 => ?_) (fun c12_1 => ?_)
    · refine a_iconst (pc := 19) 0 9 (v := 0) rfl (by decide) ?_
      exact J20_4 _ (by exact ((if_neg c1_0).trans (if_pos c12_1)))
    · refine a_iconst (pc := 15) 0 7 (v := 1) rfl (by decide) ?_
      refine a_goto (pc := 16) (tgt := 20) 0 8 rfl (by decide) ?_
      exact J20_4 _ (by exact ((if_neg c1_0).trans (if_neg c12_1))))
def f_X11_needRange (S : Mem) (p1 : Int32) (p2 : Int32) (p3 : Int32) : Unit := lt (if p1 < p2 then (0) else (if p3 < p1 then (0) else (1))) (fun (v3 : Int32) => ())
def ok_X11_needRange (S : Mem) (p1 : Int32) (p2 : Int32) (p3 : Int32) : Prop := ((∀ v3 : Int32, (if p1 < p2 then (0) else (if p3 < p1 then (0) else (1))) = v3 → ((ok_X11_needArgument S v3))))
abbrev fdX11_needRange : FD := (mdX11_needRange, [], 1, 20, 0, 0)
set_option maxRecDepth 100000 in
set_option maxHeartbeats 4000000 in
theorem w_X11_needRange {O : Om} {G : Cx} {S : Mem} {PP : Option AV → Mem → Prop} (p1 : Int32) (p2 : Int32) (p3 : Int32)   (h : ok_X11_needRange S p1 p2 p3) (hP : PP none S) : BW O G fdX11_needRange 0 0 (QV O G 0 0 PP) S 0 [some (vi p1), some (vi p2), some (vi p3)] [] := by
  refine a_iload_n (pc := 0) 0 0 rfl rfl ?_
  refine a_iload_n (pc := 1) 0 1 rfl rfl ?_
  have J15_4 : ∀ (v3 : Int32) (ev3 : (if p1 < p2 then (0) else (if p3 < p1 then (0) else (1))) = v3), BW O G fdX11_needRange 0 0 (QV O G 0 0 PP) S 15 [some (vi p1), some (vi p2), some (vi p3)] [vi v3] := by
    intro v3 ev3
    have h := h v3 ev3
    have o4 := h
    refine a_callSv (pc := 15) 0 9 (c_X11_needArgument (S := S) v3 (by rw [← ev3]; repeat (first | exact Or.inl rfl | exact Or.inr rfl | assumption | split | dsimp only [lt])) o4) rfl cs_X11_62 rfl (rm rfl) ?_
    exact a_vret (pc := 18) 0 10 rfl rfl hP
  refine a_icmp_lt (pc := 2) (tgt := 14) 0 2 rfl (by decide) (fun c2_0 => ?_) (fun c2_0 => ?_)
  · refine a_iconst (pc := 14) 0 8 (v := 0) rfl (by decide) ?_
    exact J15_4 _ (by exact (if_pos c2_0))
  · refine a_iload_n (pc := 5) 0 3 rfl rfl ?_
    refine a_iload_n (pc := 6) 0 4 rfl rfl ?_
    refine a_icmp_gt (pc := 7) (tgt := 14) 0 5 rfl (by decide) (fun c7_1 => ?_) (fun c7_1 => ?_)
    · refine a_iconst (pc := 14) 0 8 (v := 0) rfl (by decide) ?_
      exact J15_4 _ (by exact ((if_neg c2_0).trans (if_pos c7_1)))
    · refine a_iconst (pc := 10) 0 6 (v := 1) rfl (by decide) ?_
      refine a_goto (pc := 11) (tgt := 15) 0 7 rfl (by decide) ?_
      exact J15_4 _ (by exact ((if_neg c2_0).trans (if_neg c7_1)))
theorem c_X11_needRange {S : Mem} (p1 : Int32) (p2 : Int32) (p3 : Int32)   (h : ok_X11_needRange S p1 p2 p3) : Cts mdX11_needRange 1 20 [vi p1, vi p2, vi p3] S (Is none (S)) := Cts.of dtX11_needRange (by decide +kernel) rfl rfl (Nat.le_of_ble_eq_true rfl) rfl (fun O G => w_X11_needRange p1 p2 p3 h ⟨rfl, rfl⟩)
def okx_X11_needRange_1 (S : Mem) (p1 : Int32) (p2 : Int32) (p3 : Int32) : Prop := ((∀ v3 : Int32, (if p1 < p2 then (0) else (if p3 < p1 then (0) else (1))) = v3 → ((okx_X11_needArgument S v3))))
abbrev fqX11_needRange_1 : FD := (mdX11_needRange, [], 7, 102, 1, 6)
set_option maxRecDepth 100000 in
set_option maxHeartbeats 4000000 in
theorem q_X11_needRange_1 {S : Mem} (p1 : Int32) (p2 : Int32) (p3 : Int32)  (h : okx_X11_needRange_1 S p1 p2 p3) : Cqs mdX11_needRange 7 102 [vi p1, vi p2, vi p3] S xArg := Cqs.of dtX11_needRange (by decide +kernel) rfl rfl (Nat.le_of_ble_eq_true rfl) rfl (fun O G => by
  show BW O G fqX11_needRange_1 0 0 _ S 0 _ []
  refine a_iload_n (pc := 0) 0 0 rfl rfl ?_
  refine a_iload_n (pc := 1) 0 1 rfl rfl ?_
  have J15_4 : ∀ (v3 : Int32) (ev3 : (if p1 < p2 then (0) else (if p3 < p1 then (0) else (1))) = v3), BW O G fqX11_needRange_1 0 0 (QX O G S xArg) S 15 [some (vi p1), some (vi p2), some (vi p3)] [vi v3] := by
    intro v3 ev3
    have h := h v3 ev3
    have o4 := h
    refine a_callSX (pc := 15) 0 9 (q_X11_needArgument (S := S) v3 (by rw [← ev3]; repeat (first | exact Or.inl rfl | exact Or.inr rfl | assumption | split | dsimp only [lt])) o4) rfl cs_X11_62 rfl (rm rfl) ?_
    exact a_out rfl (by decide) (by decide)
  refine a_icmp_lt (pc := 2) (tgt := 14) 0 2 rfl (by decide) (fun c2_0 => ?_) (fun c2_0 => ?_)
  · refine a_iconst (pc := 14) 0 8 (v := 0) rfl (by decide) ?_
    exact J15_4 _ (by exact (if_pos c2_0))
  · refine a_iload_n (pc := 5) 0 3 rfl rfl ?_
    refine a_iload_n (pc := 6) 0 4 rfl rfl ?_
    refine a_icmp_gt (pc := 7) (tgt := 14) 0 5 rfl (by decide) (fun c7_1 => ?_) (fun c7_1 => ?_)
    · refine a_iconst (pc := 14) 0 8 (v := 0) rfl (by decide) ?_
      exact J15_4 _ (by exact ((if_neg c2_0).trans (if_pos c7_1)))
    · refine a_iconst (pc := 10) 0 6 (v := 1) rfl (by decide) ?_
      refine a_goto (pc := 11) (tgt := 15) 0 7 rfl (by decide) ?_
      exact J15_4 _ (by exact ((if_neg c2_0).trans (if_neg c7_1))))
def f_X11_mint (S : Mem) (p1 : Int32) (p2 : Int32) : Int32 × Mem := lt (f_X5_takeNotes S (f_X3_holder S p1) p2 0) (fun (S3 : Mem) => lt (f_X3_noteCentral S3 (-p2)) (fun (S5 : Mem) => (S5.1 kNotes (f_X3_holder S p1), S5)))
def ok_X11_mint (S : Mem) (p1 : Int32) (p2 : Int32) : Prop := ((ok_X11_needHolder S p1) ∧ (ok_X11_needRange S p2 1 (nI 1000)) ∧ (∀ S3 : Mem, (f_X5_takeNotes S (f_X3_holder S p1) p2 0) = S3 → ((ok_X3_noteCentral S3 (-p2)))))
abbrev fdX11_mint : FD := (mdX11_mint, [], 2, 44, 0, 0)
set_option maxRecDepth 100000 in
set_option maxHeartbeats 4000000 in
theorem w_X11_mint {O : Om} {G : Cx} {S : Mem} {PP : Option AV → Mem → Prop} (p1 : Int32) (p2 : Int32)   (h : ok_X11_mint S p1 p2) (hP : ∀ x9 S9, f_X11_mint S p1 p2 = (x9, S9) → PP (some (vi x9)) S9) : BW O G fdX11_mint 0 0 (QV O G 0 0 PP) S 0 [some (vr 11 0), some (vi p1), some (vi p2), none] [] := by
  refine a_iload_n (pc := 0) 0 0 rfl rfl ?_
  obtain ⟨o1, h⟩ := h
  refine a_callSv (pc := 1) 0 1 (c_X11_needHolder (S := S) p1 o1) rfl cs_X11_37 rfl (rm rfl) ?_
  refine a_iload_n (pc := 4) 0 2 rfl rfl ?_
  refine a_iconst (pc := 5) 0 3 (v := 1) rfl (by decide) ?_
  refine a_sipush (pc := 6) 0 4 (v := nI 1000) rfl (by decide) ?_
  obtain ⟨o2, h⟩ := h
  refine a_callSv (pc := 9) 0 5 (c_X11_needRange (S := S) p2 1 (nI 1000) o2) rfl cs_X11_41 rfl (rm rfl) ?_
  refine a_aload_n (pc := 12) 0 6 rfl rfl ?_
  refine g_11_books (pc := 13) 0 7 rfl fl_X11_10 ?_
  refine a_iload_n (pc := 16) 0 8 rfl rfl ?_
  refine a_callVr (pc := 17) 0 9 (c_X3_holder (S := S) p1) rfl cv_X11_45 (by decide) rfl rfl rfl (rm rfl) ?_
  refine a_astore_n (pc := 20) 0 10 (ls2 := [some (vr 11 0), some (vi p1), some (vi p2), some (vr 5 (f_X3_holder S p1))]) rfl rfl (by decide) rfl ?_
  refine a_aload_n (pc := 21) 0 11 rfl rfl ?_
  refine a_iload_n (pc := 22) 0 12 rfl rfl ?_
  refine a_iconst (pc := 23) 0 13 (v := 0) rfl (by decide) ?_
  refine a_callVv (pc := 24) 0 14 (c_X5_takeNotes (S := S) (f_X3_holder S p1) p2 0 (show f_X3_holder S p1 < 17 from r_X3_holder)) rfl cv_X11_49 (show f_X3_holder S p1 < 17 from r_X3_holder) rfl rfl rfl (rm rfl) ?_
  refine a_set (fun S3 eS3 => ?_)
  have h := h S3 eS3
  refine a_aload_n (pc := 27) 0 15 rfl rfl ?_
  refine g_11_books (pc := 28) 0 16 rfl fl_X11_10 ?_
  refine a_iload_n (pc := 31) 0 17 rfl rfl ?_
  refine a_ineg (pc := 32) 0 18 rfl ?_
  have o4 := h
  refine a_callVv (pc := 33) 0 19 (c_X3_noteCentral (S := S3) (-p2) o4) rfl cv_X11_55 (by decide) rfl rfl rfl (rm rfl) ?_
  refine a_set (fun S5 eS5 => ?_)
  refine a_aload_n (pc := 36) 0 20 rfl rfl ?_
  refine g_5_notes (pc := 37) 0 21 rfl (show f_X3_holder S p1 < 17 from r_X3_holder) fl_X11_58 ?_
  exact a_iret (pc := 40) 0 22 rfl rfl (hP _ _ (by unfold f_X11_mint; exact (lt_eq eS3).trans (lt_eq eS5)))
theorem c_X11_mint {S : Mem} (p1 : Int32) (p2 : Int32)   (h : ok_X11_mint S p1 p2) : Cts mdX11_mint 2 44 [vr 11 0, vi p1, vi p2] S (Is (some (vi (f_X11_mint S p1 p2).1)) ((f_X11_mint S p1 p2).2)) := Cts.of dtX11_mint (by decide +kernel) rfl rfl (Nat.le_of_ble_eq_true rfl) rfl (fun O G => w_X11_mint p1 p2 h (fun _ _ h9 => ⟨by rw [h9], by rw [h9]⟩))
def okx_X11_mint_1 (S : Mem) (p1 : Int32) (p2 : Int32) : Prop := ((okx_X11_needHolder_1 S p1))
abbrev fqX11_mint_1 : FD := (mdX11_mint, [], 8, 122, 1, 6)
set_option maxRecDepth 100000 in
set_option maxHeartbeats 4000000 in
theorem q_X11_mint_1 {S : Mem} (p1 : Int32) (p2 : Int32)  (h : okx_X11_mint_1 S p1 p2) : Cqs mdX11_mint 8 122 [vr 11 0, vi p1, vi p2] S xIdx := Cqs.of dtX11_mint (by decide +kernel) rfl rfl (Nat.le_of_ble_eq_true rfl) rfl (fun O G => by
  show BW O G fqX11_mint_1 0 0 _ S 0 _ []
  refine a_iload_n (pc := 0) 0 0 rfl rfl ?_
  have o1 := h
  refine a_callSX (pc := 1) 0 1 (q_X11_needHolder_1 (S := S) p1 o1) rfl cs_X11_37 rfl (rm rfl) ?_
  exact a_out rfl (by decide) (by decide))
def okx_X11_mint_2 (S : Mem) (p1 : Int32) (p2 : Int32) : Prop := ((ok_X11_needHolder S p1) ∧ (okx_X11_needRange_1 S p2 1 (nI 1000)))
abbrev fqX11_mint_2 : FD := (mdX11_mint, [], 8, 124, 1, 6)
set_option maxRecDepth 100000 in
set_option maxHeartbeats 4000000 in
theorem q_X11_mint_2 {S : Mem} (p1 : Int32) (p2 : Int32)  (h : okx_X11_mint_2 S p1 p2) : Cqs mdX11_mint 8 124 [vr 11 0, vi p1, vi p2] S xArg := Cqs.of dtX11_mint (by decide +kernel) rfl rfl (Nat.le_of_ble_eq_true rfl) rfl (fun O G => by
  show BW O G fqX11_mint_2 0 0 _ S 0 _ []
  refine a_iload_n (pc := 0) 0 0 rfl rfl ?_
  obtain ⟨o1, h⟩ := h
  refine a_callSv (pc := 1) 0 1 (c_X11_needHolder (S := S) p1 o1) rfl cs_X11_37 rfl (rm rfl) ?_
  refine a_iload_n (pc := 4) 0 2 rfl rfl ?_
  refine a_iconst (pc := 5) 0 3 (v := 1) rfl (by decide) ?_
  refine a_sipush (pc := 6) 0 4 (v := nI 1000) rfl (by decide) ?_
  have o2 := h
  refine a_callSX (pc := 9) 0 5 (q_X11_needRange_1 (S := S) p2 1 (nI 1000) o2) rfl cs_X11_41 rfl (rm rfl) ?_
  exact a_out rfl (by decide) (by decide))
def f_X11_forge (S : Mem) (p1 : Int32) (p2 : Int32) : Int32 × Mem := lt (f_X5_takeNotes S (f_X3_holder S p1) p2 p2) (fun (S3 : Mem) => (S3.1 kNotes (f_X3_holder S p1), S3))
def ok_X11_forge (S : Mem) (p1 : Int32) (p2 : Int32) : Prop := ((ok_X11_needHolder S p1) ∧ (ok_X11_needRange S p2 1 (nI 100)))
abbrev fdX11_forge : FD := (mdX11_forge, [], 2, 42, 0, 0)
set_option maxRecDepth 100000 in
set_option maxHeartbeats 4000000 in
theorem w_X11_forge {O : Om} {G : Cx} {S : Mem} {PP : Option AV → Mem → Prop} (p1 : Int32) (p2 : Int32)   (h : ok_X11_forge S p1 p2) (hP : ∀ x9 S9, f_X11_forge S p1 p2 = (x9, S9) → PP (some (vi x9)) S9) : BW O G fdX11_forge 0 0 (QV O G 0 0 PP) S 0 [some (vr 11 0), some (vi p1), some (vi p2), none] [] := by
  refine a_iload_n (pc := 0) 0 0 rfl rfl ?_
  obtain ⟨o1, h⟩ := h
  refine a_callSv (pc := 1) 0 1 (c_X11_needHolder (S := S) p1 o1) rfl cs_X11_37 rfl (rm rfl) ?_
  refine a_iload_n (pc := 4) 0 2 rfl rfl ?_
  refine a_iconst (pc := 5) 0 3 (v := 1) rfl (by decide) ?_
  refine a_bipush (pc := 6) 0 4 (v := nI 100) rfl (by decide) ?_
  have o2 := h
  refine a_callSv (pc := 8) 0 5 (c_X11_needRange (S := S) p2 1 (nI 100) o2) rfl cs_X11_41 rfl (rm rfl) ?_
  refine a_aload_n (pc := 11) 0 6 rfl rfl ?_
  refine g_11_books (pc := 12) 0 7 rfl fl_X11_10 ?_
  refine a_iload_n (pc := 15) 0 8 rfl rfl ?_
  refine a_callVr (pc := 16) 0 9 (c_X3_holder (S := S) p1) rfl cv_X11_45 (by decide) rfl rfl rfl (rm rfl) ?_
  refine a_astore_n (pc := 19) 0 10 (ls2 := [some (vr 11 0), some (vi p1), some (vi p2), some (vr 5 (f_X3_holder S p1))]) rfl rfl (by decide) rfl ?_
  refine a_aload_n (pc := 20) 0 11 rfl rfl ?_
  refine a_iload_n (pc := 21) 0 12 rfl rfl ?_
  refine a_iload_n (pc := 22) 0 13 rfl rfl ?_
  refine a_callVv (pc := 23) 0 14 (c_X5_takeNotes (S := S) (f_X3_holder S p1) p2 p2 (show f_X3_holder S p1 < 17 from r_X3_holder)) rfl cv_X11_49 (show f_X3_holder S p1 < 17 from r_X3_holder) rfl rfl rfl (rm rfl) ?_
  refine a_set (fun S3 eS3 => ?_)
  refine a_aload_n (pc := 26) 0 15 rfl rfl ?_
  refine g_5_notes (pc := 27) 0 16 rfl (show f_X3_holder S p1 < 17 from r_X3_holder) fl_X11_58 ?_
  exact a_iret (pc := 30) 0 17 rfl rfl (hP _ _ (by unfold f_X11_forge; exact lt_eq eS3))
theorem c_X11_forge {S : Mem} (p1 : Int32) (p2 : Int32)   (h : ok_X11_forge S p1 p2) : Cts mdX11_forge 2 42 [vr 11 0, vi p1, vi p2] S (Is (some (vi (f_X11_forge S p1 p2).1)) ((f_X11_forge S p1 p2).2)) := Cts.of dtX11_forge (by decide +kernel) rfl rfl (Nat.le_of_ble_eq_true rfl) rfl (fun O G => w_X11_forge p1 p2 h (fun _ _ h9 => ⟨by rw [h9], by rw [h9]⟩))
def okx_X11_forge_1 (S : Mem) (p1 : Int32) (p2 : Int32) : Prop := ((okx_X11_needHolder_1 S p1))
abbrev fqX11_forge_1 : FD := (mdX11_forge, [], 8, 122, 1, 6)
set_option maxRecDepth 100000 in
set_option maxHeartbeats 4000000 in
theorem q_X11_forge_1 {S : Mem} (p1 : Int32) (p2 : Int32)  (h : okx_X11_forge_1 S p1 p2) : Cqs mdX11_forge 8 122 [vr 11 0, vi p1, vi p2] S xIdx := Cqs.of dtX11_forge (by decide +kernel) rfl rfl (Nat.le_of_ble_eq_true rfl) rfl (fun O G => by
  show BW O G fqX11_forge_1 0 0 _ S 0 _ []
  refine a_iload_n (pc := 0) 0 0 rfl rfl ?_
  have o1 := h
  refine a_callSX (pc := 1) 0 1 (q_X11_needHolder_1 (S := S) p1 o1) rfl cs_X11_37 rfl (rm rfl) ?_
  exact a_out rfl (by decide) (by decide))
def okx_X11_forge_2 (S : Mem) (p1 : Int32) (p2 : Int32) : Prop := ((ok_X11_needHolder S p1) ∧ (okx_X11_needRange_1 S p2 1 (nI 100)))
abbrev fqX11_forge_2 : FD := (mdX11_forge, [], 8, 124, 1, 6)
set_option maxRecDepth 100000 in
set_option maxHeartbeats 4000000 in
theorem q_X11_forge_2 {S : Mem} (p1 : Int32) (p2 : Int32)  (h : okx_X11_forge_2 S p1 p2) : Cqs mdX11_forge 8 124 [vr 11 0, vi p1, vi p2] S xArg := Cqs.of dtX11_forge (by decide +kernel) rfl rfl (Nat.le_of_ble_eq_true rfl) rfl (fun O G => by
  show BW O G fqX11_forge_2 0 0 _ S 0 _ []
  refine a_iload_n (pc := 0) 0 0 rfl rfl ?_
  obtain ⟨o1, h⟩ := h
  refine a_callSv (pc := 1) 0 1 (c_X11_needHolder (S := S) p1 o1) rfl cs_X11_37 rfl (rm rfl) ?_
  refine a_iload_n (pc := 4) 0 2 rfl rfl ?_
  refine a_iconst (pc := 5) 0 3 (v := 1) rfl (by decide) ?_
  refine a_bipush (pc := 6) 0 4 (v := nI 100) rfl (by decide) ?_
  have o2 := h
  refine a_callSX (pc := 8) 0 5 (q_X11_needRange_1 (S := S) p2 1 (nI 100) o2) rfl cs_X11_41 rfl (rm rfl) ?_
  exact a_out rfl (by decide) (by decide))
def f_X11_hand (S : Mem) (p1 : Int32) (p2 : Int32) (p3 : Int32) : Int32 × Mem := lt (if p1 = p2 then (0) else (1)) (fun (v4 : Int32) => lt (if (S.1 kNotes (f_X3_holder S p1)) < p3 then (0) else (1)) (fun (v8 : Int32) => lt (f_X5_forgedAmong S (f_X3_holder S p1) p3) (fun (v10 : Int32) => lt (f_X5_takeNotes S (f_X3_holder S p1) (-p3) (-v10)) (fun (S11 : Mem) => lt (f_X5_takeNotes S11 (f_X3_holder S11 p2) p3 v10) (fun (S12 : Mem) => (v10, S12))))))
def ok_X11_hand (S : Mem) (p1 : Int32) (p2 : Int32) (p3 : Int32) : Prop := ((ok_X11_needHolder S p1) ∧ (ok_X11_needHolder S p2) ∧ (∀ v4 : Int32, (if p1 = p2 then (0) else (1)) = v4 → ((ok_X11_needArgument S v4) ∧ (ok_X11_needRange S p3 1 (nI 10000)) ∧ (∀ v8 : Int32, (if (S.1 kNotes (f_X3_holder S p1)) < p3 then (0) else (1)) = v8 → ((ok_X11_needState S v8))))))
abbrev fdX11_hand : FD := (mdX11_hand, [], 2, 43, 0, 0)
set_option maxRecDepth 100000 in
set_option maxHeartbeats 4000000 in
theorem w_X11_hand {O : Om} {G : Cx} {S : Mem} {PP : Option AV → Mem → Prop} (p1 : Int32) (p2 : Int32) (p3 : Int32)   (h : ok_X11_hand S p1 p2 p3) (hP : ∀ x9 S9, f_X11_hand S p1 p2 p3 = (x9, S9) → PP (some (vi x9)) S9) : BW O G fdX11_hand 0 0 (QV O G 0 0 PP) S 0 [some (vr 11 0), some (vi p1), some (vi p2), some (vi p3), none, none] [] := by
  refine a_iload_n (pc := 0) 0 0 rfl rfl ?_
  obtain ⟨o1, h⟩ := h
  refine a_callSv (pc := 1) 0 1 (c_X11_needHolder (S := S) p1 o1) rfl cs_X11_37 rfl (rm rfl) ?_
  refine a_iload_n (pc := 4) 0 2 rfl rfl ?_
  obtain ⟨o2, h⟩ := h
  refine a_callSv (pc := 5) 0 3 (c_X11_needHolder (S := S) p2 o2) rfl cs_X11_37 rfl (rm rfl) ?_
  refine a_iload_n (pc := 8) 0 4 rfl rfl ?_
  refine a_iload_n (pc := 9) 0 5 rfl rfl ?_
  have J18_12 : ∀ (v4 : Int32) (ev4 : (if p1 = p2 then (0) else (1)) = v4), BW O G fdX11_hand 0 0 (QV O G 0 0 PP) S 18 [some (vr 11 0), some (vi p1), some (vi p2), some (vi p3), none, none] [vi v4] := by
    intro v4 ev4
    have h := h v4 ev4
    obtain ⟨o5, h⟩ := h
    refine a_callSv (pc := 18) 0 10 (c_X11_needArgument (S := S) v4 (by rw [← ev4]; repeat (first | exact Or.inl rfl | exact Or.inr rfl | assumption | split | dsimp only [lt])) o5) rfl cs_X11_62 rfl (rm rfl) ?_
    refine a_iload_n (pc := 21) 0 11 rfl rfl ?_
    refine a_iconst (pc := 22) 0 12 (v := 1) rfl (by decide) ?_
    refine a_sipush (pc := 23) 0 13 (v := nI 10000) rfl (by decide) ?_
    obtain ⟨o6, h⟩ := h
    refine a_callSv (pc := 26) 0 14 (c_X11_needRange (S := S) p3 1 (nI 10000) o6) rfl cs_X11_41 rfl (rm rfl) ?_
    refine a_aload_n (pc := 29) 0 15 rfl rfl ?_
    refine g_11_books (pc := 30) 0 16 rfl fl_X11_10 ?_
    refine a_iload_n (pc := 33) 0 17 rfl rfl ?_
    refine a_callVr (pc := 34) 0 18 (c_X3_holder (S := S) p1) rfl cv_X11_45 (by decide) rfl rfl rfl (rm rfl) ?_
    refine a_astore (pc := 37) 0 19 (ls2 := [some (vr 11 0), some (vi p1), some (vi p2), some (vi p3), some (vr 5 (f_X3_holder S p1)), none]) rfl (by decide) rfl ?_
    refine a_aload (pc := 39) 0 20 rfl rfl ?_
    refine g_5_notes (pc := 41) 0 21 rfl (show f_X3_holder S p1 < 17 from r_X3_holder) fl_X11_58 ?_
    refine a_iload_n (pc := 44) 0 22 rfl rfl ?_
    have J53_13 : ∀ (v8 : Int32) (ev8 : (if (S.1 kNotes (f_X3_holder S p1)) < p3 then (0) else (1)) = v8), BW O G fdX11_hand 0 0 (QV O G 0 0 PP) S 53 [some (vr 11 0), some (vi p1), some (vi p2), some (vi p3), some (vr 5 (f_X3_holder S p1)), none] [vi v8] := by
      intro v8 ev8
      have h := h v8 ev8
      have o9 := h
      refine a_callSv (pc := 53) 0 27 (c_X11_needState (S := S) v8 (by rw [← ev8]; repeat (first | exact Or.inl rfl | exact Or.inr rfl | assumption | split | dsimp only [lt])) o9) rfl cs_X11_66 rfl (rm rfl) ?_
      refine a_aload (pc := 56) 0 28 rfl rfl ?_
      refine a_iload_n (pc := 58) 0 29 rfl rfl ?_
      refine a_callVi (pc := 59) 0 30 (c_X5_forgedAmong (S := S) (f_X3_holder S p1) p3 (show f_X3_holder S p1 < 17 from r_X3_holder)) rfl cv_X11_69 (show f_X3_holder S p1 < 17 from r_X3_holder) rfl rfl rfl (rm rfl) ?_
      refine a_seti (fun v10 ev10 => ?_)
      refine a_istore (pc := 62) 0 31 (ls2 := [some (vr 11 0), some (vi p1), some (vi p2), some (vi p3), some (vr 5 (f_X3_holder S p1)), some (vi v10)]) rfl (by decide) rfl ?_
      refine a_aload (pc := 64) 0 32 rfl rfl ?_
      refine a_iload_n (pc := 66) 0 33 rfl rfl ?_
      refine a_ineg (pc := 67) 0 34 rfl ?_
      refine a_iload (pc := 68) 0 35 rfl rfl ?_
      refine a_ineg (pc := 70) 0 36 rfl ?_
      refine a_callVv (pc := 71) 0 37 (c_X5_takeNotes (S := S) (f_X3_holder S p1) (-p3) (-v10) (show f_X3_holder S p1 < 17 from r_X3_holder)) rfl cv_X11_49 (show f_X3_holder S p1 < 17 from r_X3_holder) rfl rfl rfl (rm rfl) ?_
      refine a_set (fun S11 eS11 => ?_)
      refine a_aload_n (pc := 74) 0 38 rfl rfl ?_
      refine g_11_books (pc := 75) 0 39 rfl fl_X11_10 ?_
      refine a_iload_n (pc := 78) 0 40 rfl rfl ?_
      refine a_callVr (pc := 79) 0 41 (c_X3_holder (S := S11) p2) rfl cv_X11_45 (by decide) rfl rfl rfl (rm rfl) ?_
      refine a_iload_n (pc := 82) 0 42 rfl rfl ?_
      refine a_iload (pc := 83) 0 43 rfl rfl ?_
      refine a_callVv (pc := 85) 0 44 (c_X5_takeNotes (S := S11) (f_X3_holder S11 p2) p3 v10 (show f_X3_holder S11 p2 < 17 from r_X3_holder)) rfl cv_X11_49 (show f_X3_holder S11 p2 < 17 from r_X3_holder) rfl rfl rfl (rm rfl) ?_
      refine a_set (fun S12 eS12 => ?_)
      refine a_iload (pc := 88) 0 45 rfl rfl ?_
      exact a_iret (pc := 90) 0 46 rfl rfl (hP _ _ (by unfold f_X11_hand; exact (lt_eq ev4).trans ((lt_eq ev8).trans ((lt_eq ev10).trans ((lt_eq eS11).trans (lt_eq eS12))))))
    refine a_icmp_lt (pc := 45) (tgt := 52) 0 23 rfl (by decide) (fun c45_6 => ?_) (fun c45_6 => ?_)
    · refine a_iconst (pc := 52) 0 26 (v := 0) rfl (by decide) ?_
      exact J53_13 _ (by exact (if_pos c45_6))
    · refine a_iconst (pc := 48) 0 24 (v := 1) rfl (by decide) ?_
      refine a_goto (pc := 49) (tgt := 53) 0 25 rfl (by decide) ?_
      exact J53_13 _ (by exact (if_neg c45_6))
  refine a_icmp_eq (pc := 10) (tgt := 17) 0 6 rfl (by decide) (fun c10_2 => ?_) (fun c10_2 => ?_)
  · refine a_iconst (pc := 17) 0 9 (v := 0) rfl (by decide) ?_
    exact J18_12 _ (by exact (if_pos c10_2))
  · refine a_iconst (pc := 13) 0 7 (v := 1) rfl (by decide) ?_
    refine a_goto (pc := 14) (tgt := 18) 0 8 rfl (by decide) ?_
    exact J18_12 _ (by exact (if_neg c10_2))
theorem c_X11_hand {S : Mem} (p1 : Int32) (p2 : Int32) (p3 : Int32)   (h : ok_X11_hand S p1 p2 p3) : Cts mdX11_hand 2 43 [vr 11 0, vi p1, vi p2, vi p3] S (Is (some (vi (f_X11_hand S p1 p2 p3).1)) ((f_X11_hand S p1 p2 p3).2)) := Cts.of dtX11_hand (by decide +kernel) rfl rfl (Nat.le_of_ble_eq_true rfl) rfl (fun O G => w_X11_hand p1 p2 p3 h (fun _ _ h9 => ⟨by rw [h9], by rw [h9]⟩))
def okx_X11_hand_1 (S : Mem) (p1 : Int32) (p2 : Int32) (p3 : Int32) : Prop := ((okx_X11_needHolder_1 S p1))
abbrev fqX11_hand_1 : FD := (mdX11_hand, [], 8, 122, 1, 6)
set_option maxRecDepth 100000 in
set_option maxHeartbeats 4000000 in
theorem q_X11_hand_1 {S : Mem} (p1 : Int32) (p2 : Int32) (p3 : Int32)  (h : okx_X11_hand_1 S p1 p2 p3) : Cqs mdX11_hand 8 122 [vr 11 0, vi p1, vi p2, vi p3] S xIdx := Cqs.of dtX11_hand (by decide +kernel) rfl rfl (Nat.le_of_ble_eq_true rfl) rfl (fun O G => by
  show BW O G fqX11_hand_1 0 0 _ S 0 _ []
  refine a_iload_n (pc := 0) 0 0 rfl rfl ?_
  have o1 := h
  refine a_callSX (pc := 1) 0 1 (q_X11_needHolder_1 (S := S) p1 o1) rfl cs_X11_37 rfl (rm rfl) ?_
  exact a_out rfl (by decide) (by decide))
def okx_X11_hand_2 (S : Mem) (p1 : Int32) (p2 : Int32) (p3 : Int32) : Prop := ((ok_X11_needHolder S p1) ∧ (okx_X11_needHolder_1 S p2))
abbrev fqX11_hand_2 : FD := (mdX11_hand, [], 8, 122, 1, 6)
set_option maxRecDepth 100000 in
set_option maxHeartbeats 4000000 in
theorem q_X11_hand_2 {S : Mem} (p1 : Int32) (p2 : Int32) (p3 : Int32)  (h : okx_X11_hand_2 S p1 p2 p3) : Cqs mdX11_hand 8 122 [vr 11 0, vi p1, vi p2, vi p3] S xIdx := Cqs.of dtX11_hand (by decide +kernel) rfl rfl (Nat.le_of_ble_eq_true rfl) rfl (fun O G => by
  show BW O G fqX11_hand_2 0 0 _ S 0 _ []
  refine a_iload_n (pc := 0) 0 0 rfl rfl ?_
  obtain ⟨o1, h⟩ := h
  refine a_callSv (pc := 1) 0 1 (c_X11_needHolder (S := S) p1 o1) rfl cs_X11_37 rfl (rm rfl) ?_
  refine a_iload_n (pc := 4) 0 2 rfl rfl ?_
  have o2 := h
  refine a_callSX (pc := 5) 0 3 (q_X11_needHolder_1 (S := S) p2 o2) rfl cs_X11_37 rfl (rm rfl) ?_
  exact a_out rfl (by decide) (by decide))
def okx_X11_hand_3 (S : Mem) (p1 : Int32) (p2 : Int32) (p3 : Int32) : Prop := ((ok_X11_needHolder S p1) ∧ (ok_X11_needHolder S p2) ∧ (∀ v4 : Int32, (if p1 = p2 then (0) else (1)) = v4 → ((okx_X11_needArgument S v4))))
abbrev fqX11_hand_3 : FD := (mdX11_hand, [], 7, 102, 1, 6)
set_option maxRecDepth 100000 in
set_option maxHeartbeats 4000000 in
theorem q_X11_hand_3 {S : Mem} (p1 : Int32) (p2 : Int32) (p3 : Int32)  (h : okx_X11_hand_3 S p1 p2 p3) : Cqs mdX11_hand 7 102 [vr 11 0, vi p1, vi p2, vi p3] S xArg := Cqs.of dtX11_hand (by decide +kernel) rfl rfl (Nat.le_of_ble_eq_true rfl) rfl (fun O G => by
  show BW O G fqX11_hand_3 0 0 _ S 0 _ []
  refine a_iload_n (pc := 0) 0 0 rfl rfl ?_
  obtain ⟨o1, h⟩ := h
  refine a_callSv (pc := 1) 0 1 (c_X11_needHolder (S := S) p1 o1) rfl cs_X11_37 rfl (rm rfl) ?_
  refine a_iload_n (pc := 4) 0 2 rfl rfl ?_
  obtain ⟨o2, h⟩ := h
  refine a_callSv (pc := 5) 0 3 (c_X11_needHolder (S := S) p2 o2) rfl cs_X11_37 rfl (rm rfl) ?_
  refine a_iload_n (pc := 8) 0 4 rfl rfl ?_
  refine a_iload_n (pc := 9) 0 5 rfl rfl ?_
  have J18_5 : ∀ (v4 : Int32) (ev4 : (if p1 = p2 then (0) else (1)) = v4), BW O G fqX11_hand_3 0 0 (QX O G S xArg) S 18 [some (vr 11 0), some (vi p1), some (vi p2), some (vi p3), none, none] [vi v4] := by
    intro v4 ev4
    have h := h v4 ev4
    have o5 := h
    refine a_callSX (pc := 18) 0 10 (q_X11_needArgument (S := S) v4 (by rw [← ev4]; repeat (first | exact Or.inl rfl | exact Or.inr rfl | assumption | split | dsimp only [lt])) o5) rfl cs_X11_62 rfl (rm rfl) ?_
    exact a_out rfl (by decide) (by decide)
  refine a_icmp_eq (pc := 10) (tgt := 17) 0 6 rfl (by decide) (fun c10_2 => ?_) (fun c10_2 => ?_)
  · refine a_iconst (pc := 17) 0 9 (v := 0) rfl (by decide) ?_
    exact J18_5 _ (by exact (if_pos c10_2))
  · refine a_iconst (pc := 13) 0 7 (v := 1) rfl (by decide) ?_
    refine a_goto (pc := 14) (tgt := 18) 0 8 rfl (by decide) ?_
    exact J18_5 _ (by exact (if_neg c10_2)))
def okx_X11_hand_4 (S : Mem) (p1 : Int32) (p2 : Int32) (p3 : Int32) : Prop := ((ok_X11_needHolder S p1) ∧ (ok_X11_needHolder S p2) ∧ (∀ v4 : Int32, (if p1 = p2 then (0) else (1)) = v4 → ((ok_X11_needArgument S v4) ∧ (okx_X11_needRange_1 S p3 1 (nI 10000)))))
abbrev fqX11_hand_4 : FD := (mdX11_hand, [], 8, 124, 1, 6)
set_option maxRecDepth 100000 in
set_option maxHeartbeats 4000000 in
theorem q_X11_hand_4 {S : Mem} (p1 : Int32) (p2 : Int32) (p3 : Int32)  (h : okx_X11_hand_4 S p1 p2 p3) : Cqs mdX11_hand 8 124 [vr 11 0, vi p1, vi p2, vi p3] S xArg := Cqs.of dtX11_hand (by decide +kernel) rfl rfl (Nat.le_of_ble_eq_true rfl) rfl (fun O G => by
  show BW O G fqX11_hand_4 0 0 _ S 0 _ []
  refine a_iload_n (pc := 0) 0 0 rfl rfl ?_
  obtain ⟨o1, h⟩ := h
  refine a_callSv (pc := 1) 0 1 (c_X11_needHolder (S := S) p1 o1) rfl cs_X11_37 rfl (rm rfl) ?_
  refine a_iload_n (pc := 4) 0 2 rfl rfl ?_
  obtain ⟨o2, h⟩ := h
  refine a_callSv (pc := 5) 0 3 (c_X11_needHolder (S := S) p2 o2) rfl cs_X11_37 rfl (rm rfl) ?_
  refine a_iload_n (pc := 8) 0 4 rfl rfl ?_
  refine a_iload_n (pc := 9) 0 5 rfl rfl ?_
  have J18_6 : ∀ (v4 : Int32) (ev4 : (if p1 = p2 then (0) else (1)) = v4), BW O G fqX11_hand_4 0 0 (QX O G S xArg) S 18 [some (vr 11 0), some (vi p1), some (vi p2), some (vi p3), none, none] [vi v4] := by
    intro v4 ev4
    have h := h v4 ev4
    obtain ⟨o5, h⟩ := h
    refine a_callSv (pc := 18) 0 10 (c_X11_needArgument (S := S) v4 (by rw [← ev4]; repeat (first | exact Or.inl rfl | exact Or.inr rfl | assumption | split | dsimp only [lt])) o5) rfl cs_X11_62 rfl (rm rfl) ?_
    refine a_iload_n (pc := 21) 0 11 rfl rfl ?_
    refine a_iconst (pc := 22) 0 12 (v := 1) rfl (by decide) ?_
    refine a_sipush (pc := 23) 0 13 (v := nI 10000) rfl (by decide) ?_
    have o6 := h
    refine a_callSX (pc := 26) 0 14 (q_X11_needRange_1 (S := S) p3 1 (nI 10000) o6) rfl cs_X11_41 rfl (rm rfl) ?_
    exact a_out rfl (by decide) (by decide)
  refine a_icmp_eq (pc := 10) (tgt := 17) 0 6 rfl (by decide) (fun c10_2 => ?_) (fun c10_2 => ?_)
  · refine a_iconst (pc := 17) 0 9 (v := 0) rfl (by decide) ?_
    exact J18_6 _ (by exact (if_pos c10_2))
  · refine a_iconst (pc := 13) 0 7 (v := 1) rfl (by decide) ?_
    refine a_goto (pc := 14) (tgt := 18) 0 8 rfl (by decide) ?_
    exact J18_6 _ (by exact (if_neg c10_2)))
def okx_X11_hand_5 (S : Mem) (p1 : Int32) (p2 : Int32) (p3 : Int32) : Prop := ((ok_X11_needHolder S p1) ∧ (ok_X11_needHolder S p2) ∧ (∀ v4 : Int32, (if p1 = p2 then (0) else (1)) = v4 → ((ok_X11_needArgument S v4) ∧ (ok_X11_needRange S p3 1 (nI 10000)) ∧ (∀ v8 : Int32, (if (S.1 kNotes (f_X3_holder S p1)) < p3 then (0) else (1)) = v8 → ((okx_X11_needState S v8))))))
abbrev fqX11_hand_5 : FD := (mdX11_hand, [], 7, 102, 1, 6)
set_option maxRecDepth 100000 in
set_option maxHeartbeats 4000000 in
theorem q_X11_hand_5 {S : Mem} (p1 : Int32) (p2 : Int32) (p3 : Int32)  (h : okx_X11_hand_5 S p1 p2 p3) : Cqs mdX11_hand 7 102 [vr 11 0, vi p1, vi p2, vi p3] S xSta := Cqs.of dtX11_hand (by decide +kernel) rfl rfl (Nat.le_of_ble_eq_true rfl) rfl (fun O G => by
  show BW O G fqX11_hand_5 0 0 _ S 0 _ []
  refine a_iload_n (pc := 0) 0 0 rfl rfl ?_
  obtain ⟨o1, h⟩ := h
  refine a_callSv (pc := 1) 0 1 (c_X11_needHolder (S := S) p1 o1) rfl cs_X11_37 rfl (rm rfl) ?_
  refine a_iload_n (pc := 4) 0 2 rfl rfl ?_
  obtain ⟨o2, h⟩ := h
  refine a_callSv (pc := 5) 0 3 (c_X11_needHolder (S := S) p2 o2) rfl cs_X11_37 rfl (rm rfl) ?_
  refine a_iload_n (pc := 8) 0 4 rfl rfl ?_
  refine a_iload_n (pc := 9) 0 5 rfl rfl ?_
  have J18_9 : ∀ (v4 : Int32) (ev4 : (if p1 = p2 then (0) else (1)) = v4), BW O G fqX11_hand_5 0 0 (QX O G S xSta) S 18 [some (vr 11 0), some (vi p1), some (vi p2), some (vi p3), none, none] [vi v4] := by
    intro v4 ev4
    have h := h v4 ev4
    obtain ⟨o5, h⟩ := h
    refine a_callSv (pc := 18) 0 10 (c_X11_needArgument (S := S) v4 (by rw [← ev4]; repeat (first | exact Or.inl rfl | exact Or.inr rfl | assumption | split | dsimp only [lt])) o5) rfl cs_X11_62 rfl (rm rfl) ?_
    refine a_iload_n (pc := 21) 0 11 rfl rfl ?_
    refine a_iconst (pc := 22) 0 12 (v := 1) rfl (by decide) ?_
    refine a_sipush (pc := 23) 0 13 (v := nI 10000) rfl (by decide) ?_
    obtain ⟨o6, h⟩ := h
    refine a_callSv (pc := 26) 0 14 (c_X11_needRange (S := S) p3 1 (nI 10000) o6) rfl cs_X11_41 rfl (rm rfl) ?_
    refine a_aload_n (pc := 29) 0 15 rfl rfl ?_
    refine g_11_books (pc := 30) 0 16 rfl fl_X11_10 ?_
    refine a_iload_n (pc := 33) 0 17 rfl rfl ?_
    refine a_callVr (pc := 34) 0 18 (c_X3_holder (S := S) p1) rfl cv_X11_45 (by decide) rfl rfl rfl (rm rfl) ?_
    refine a_astore (pc := 37) 0 19 (ls2 := [some (vr 11 0), some (vi p1), some (vi p2), some (vi p3), some (vr 5 (f_X3_holder S p1)), none]) rfl (by decide) rfl ?_
    refine a_aload (pc := 39) 0 20 rfl rfl ?_
    refine g_5_notes (pc := 41) 0 21 rfl (show f_X3_holder S p1 < 17 from r_X3_holder) fl_X11_58 ?_
    refine a_iload_n (pc := 44) 0 22 rfl rfl ?_
    have J53_10 : ∀ (v8 : Int32) (ev8 : (if (S.1 kNotes (f_X3_holder S p1)) < p3 then (0) else (1)) = v8), BW O G fqX11_hand_5 0 0 (QX O G S xSta) S 53 [some (vr 11 0), some (vi p1), some (vi p2), some (vi p3), some (vr 5 (f_X3_holder S p1)), none] [vi v8] := by
      intro v8 ev8
      have h := h v8 ev8
      have o9 := h
      refine a_callSX (pc := 53) 0 27 (q_X11_needState (S := S) v8 (by rw [← ev8]; repeat (first | exact Or.inl rfl | exact Or.inr rfl | assumption | split | dsimp only [lt])) o9) rfl cs_X11_66 rfl (rm rfl) ?_
      exact a_out rfl (by decide) (by decide)
    refine a_icmp_lt (pc := 45) (tgt := 52) 0 23 rfl (by decide) (fun c45_6 => ?_) (fun c45_6 => ?_)
    · refine a_iconst (pc := 52) 0 26 (v := 0) rfl (by decide) ?_
      exact J53_10 _ (by exact (if_pos c45_6))
    · refine a_iconst (pc := 48) 0 24 (v := 1) rfl (by decide) ?_
      refine a_goto (pc := 49) (tgt := 53) 0 25 rfl (by decide) ?_
      exact J53_10 _ (by exact (if_neg c45_6))
  refine a_icmp_eq (pc := 10) (tgt := 17) 0 6 rfl (by decide) (fun c10_2 => ?_) (fun c10_2 => ?_)
  · refine a_iconst (pc := 17) 0 9 (v := 0) rfl (by decide) ?_
    exact J18_9 _ (by exact (if_pos c10_2))
  · refine a_iconst (pc := 13) 0 7 (v := 1) rfl (by decide) ?_
    refine a_goto (pc := 14) (tgt := 18) 0 8 rfl (by decide) ?_
    exact J18_9 _ (by exact (if_neg c10_2)))
def f_X11_open (S : Mem) (p1 : Int32) (p2 : Int32) : Int32 × Mem := lt (if (S.1 kBankOf (f_X3_holder S p1)) = (-1) then (if (S.1 kHaveFailed (f_X3_bank S p2)) = 0 then (1) else (0)) else (0)) (fun (v5 : Int32) => lt ((upd2 S.1 kBankOf (f_X3_holder S p1) p2, S.2)) (fun (S7 : Mem) => lt (f_X3_accountsAt S7 p2) (fun (v8 : Int32) => (v8, S7))))
def ok_X11_open (S : Mem) (p1 : Int32) (p2 : Int32) : Prop := ((ok_X11_needHolder S p1) ∧ (ok_X11_needBank S p2) ∧ (∀ v5 : Int32, (if (S.1 kBankOf (f_X3_holder S p1)) = (-1) then (if (S.1 kHaveFailed (f_X3_bank S p2)) = 0 then (1) else (0)) else (0)) = v5 → ((ok_X11_needState S v5))))
abbrev fdX11_open : FD := (mdX11_open, [], 2, 45, 0, 0)
set_option maxRecDepth 100000 in
set_option maxHeartbeats 4000000 in
theorem w_X11_open {O : Om} {G : Cx} {S : Mem} {PP : Option AV → Mem → Prop} (p1 : Int32) (p2 : Int32)   (h : ok_X11_open S p1 p2) (hP : ∀ x9 S9, f_X11_open S p1 p2 = (x9, S9) → PP (some (vi x9)) S9) : BW O G fdX11_open 0 0 (QV O G 0 0 PP) S 0 [some (vr 11 0), some (vi p1), some (vi p2), none] [] := by
  refine a_iload_n (pc := 0) 0 0 rfl rfl ?_
  obtain ⟨o1, h⟩ := h
  refine a_callSv (pc := 1) 0 1 (c_X11_needHolder (S := S) p1 o1) rfl cs_X11_37 rfl (rm rfl) ?_
  refine a_iload_n (pc := 4) 0 2 rfl rfl ?_
  obtain ⟨o2, h⟩ := h
  refine a_callSv (pc := 5) 0 3 (c_X11_needBank (S := S) p2 o2) rfl cs_X11_73 rfl (rm rfl) ?_
  refine a_aload_n (pc := 8) 0 4 rfl rfl ?_
  refine g_11_books (pc := 9) 0 5 rfl fl_X11_10 ?_
  refine a_iload_n (pc := 12) 0 6 rfl rfl ?_
  refine a_callVr (pc := 13) 0 7 (c_X3_holder (S := S) p1) rfl cv_X11_45 (by decide) rfl rfl rfl (rm rfl) ?_
  refine a_astore_n (pc := 16) 0 8 (ls2 := [some (vr 11 0), some (vi p1), some (vi p2), some (vr 5 (f_X3_holder S p1))]) rfl rfl (by decide) rfl ?_
  refine a_aload_n (pc := 17) 0 9 rfl rfl ?_
  refine g_5_bank (pc := 18) 0 10 rfl (show f_X3_holder S p1 < 17 from r_X3_holder) fl_X11_76 ?_
  refine a_iconst (pc := 21) 0 11 (v := (-1)) rfl (by decide) ?_
  have J44_8 : ∀ (v5 : Int32) (ev5 : (if (S.1 kBankOf (f_X3_holder S p1)) = (-1) then (if (S.1 kHaveFailed (f_X3_bank S p2)) = 0 then (1) else (0)) else (0)) = v5), BW O G fdX11_open 0 0 (QV O G 0 0 PP) S 44 [some (vr 11 0), some (vi p1), some (vi p2), some (vr 5 (f_X3_holder S p1))] [vi v5] := by
    intro v5 ev5
    have h := h v5 ev5
    have o6 := h
    refine a_callSv (pc := 44) 0 22 (c_X11_needState (S := S) v5 (by rw [← ev5]; repeat (first | exact Or.inl rfl | exact Or.inr rfl | assumption | split | dsimp only [lt])) o6) rfl cs_X11_66 rfl (rm rfl) ?_
    refine a_aload_n (pc := 47) 0 23 rfl rfl ?_
    refine a_iload_n (pc := 48) 0 24 rfl rfl ?_
    refine p_5_bank (pc := 49) 0 25 rfl (show f_X3_holder S p1 < 17 from r_X3_holder) fl_X11_76 ?_
    refine a_set (fun S7 eS7 => ?_)
    refine a_aload_n (pc := 52) 0 26 rfl rfl ?_
    refine g_11_books (pc := 53) 0 27 rfl fl_X11_10 ?_
    refine a_iload_n (pc := 56) 0 28 rfl rfl ?_
    refine a_callVi (pc := 57) 0 29 (c_X3_accountsAt (S := S7) p2) rfl cv_X11_88 (by decide) rfl rfl rfl (rm rfl) ?_
    refine a_seti (fun v8 ev8 => ?_)
    exact a_iret (pc := 60) 0 30 rfl rfl (hP _ _ (by unfold f_X11_open; exact (lt_eq ev5).trans ((lt_eq eS7).trans (lt_eq ev8))))
  refine a_icmp_ne (pc := 22) (tgt := 43) 0 12 rfl (by decide) (fun c22_2 => ?_) (fun c22_2 => ?_)
  · refine a_iconst (pc := 43) 0 21 (v := 0) rfl (by decide) ?_
    exact J44_8 _ (by exact (if_neg c22_2))
  · refine a_aload_n (pc := 25) 0 13 rfl rfl ?_
    refine g_11_books (pc := 26) 0 14 rfl fl_X11_10 ?_
    refine a_iload_n (pc := 29) 0 15 rfl rfl ?_
    refine a_callVr (pc := 30) 0 16 (c_X3_bank (S := S) p2) rfl cv_X11_79 (by decide) rfl rfl rfl (rm rfl) ?_
    refine g_0_hasFailed (pc := 33) 0 17 rfl (show f_X3_bank S p2 < 5 from r_X3_bank) fl_X11_82 ?_
    refine a_if_ne (pc := 36) (tgt := 43) 0 18 rfl (by decide) (fun c36_3 => ?_) (fun c36_3 => ?_)
    · refine a_iconst (pc := 43) 0 21 (v := 0) rfl (by decide) ?_
      exact J44_8 _ (by exact ((if_pos c22_2).trans (if_neg c36_3)))
    · refine a_iconst (pc := 39) 0 19 (v := 1) rfl (by decide) ?_
      refine a_goto (pc := 40) (tgt := 44) 0 20 rfl (by decide) ?_
      exact J44_8 _ (by exact ((if_pos c22_2).trans (if_pos c36_3)))
theorem c_X11_open {S : Mem} (p1 : Int32) (p2 : Int32)   (h : ok_X11_open S p1 p2) : Cts mdX11_open 2 45 [vr 11 0, vi p1, vi p2] S (Is (some (vi (f_X11_open S p1 p2).1)) ((f_X11_open S p1 p2).2)) := Cts.of dtX11_open (by decide +kernel) rfl rfl (Nat.le_of_ble_eq_true rfl) rfl (fun O G => w_X11_open p1 p2 h (fun _ _ h9 => ⟨by rw [h9], by rw [h9]⟩))
def okx_X11_open_1 (S : Mem) (p1 : Int32) (p2 : Int32) : Prop := ((okx_X11_needHolder_1 S p1))
abbrev fqX11_open_1 : FD := (mdX11_open, [], 8, 122, 1, 6)
set_option maxRecDepth 100000 in
set_option maxHeartbeats 4000000 in
theorem q_X11_open_1 {S : Mem} (p1 : Int32) (p2 : Int32)  (h : okx_X11_open_1 S p1 p2) : Cqs mdX11_open 8 122 [vr 11 0, vi p1, vi p2] S xIdx := Cqs.of dtX11_open (by decide +kernel) rfl rfl (Nat.le_of_ble_eq_true rfl) rfl (fun O G => by
  show BW O G fqX11_open_1 0 0 _ S 0 _ []
  refine a_iload_n (pc := 0) 0 0 rfl rfl ?_
  have o1 := h
  refine a_callSX (pc := 1) 0 1 (q_X11_needHolder_1 (S := S) p1 o1) rfl cs_X11_37 rfl (rm rfl) ?_
  exact a_out rfl (by decide) (by decide))
def okx_X11_open_2 (S : Mem) (p1 : Int32) (p2 : Int32) : Prop := ((ok_X11_needHolder S p1) ∧ (okx_X11_needBank_1 S p2))
abbrev fqX11_open_2 : FD := (mdX11_open, [], 8, 122, 1, 6)
set_option maxRecDepth 100000 in
set_option maxHeartbeats 4000000 in
theorem q_X11_open_2 {S : Mem} (p1 : Int32) (p2 : Int32)  (h : okx_X11_open_2 S p1 p2) : Cqs mdX11_open 8 122 [vr 11 0, vi p1, vi p2] S xIdx := Cqs.of dtX11_open (by decide +kernel) rfl rfl (Nat.le_of_ble_eq_true rfl) rfl (fun O G => by
  show BW O G fqX11_open_2 0 0 _ S 0 _ []
  refine a_iload_n (pc := 0) 0 0 rfl rfl ?_
  obtain ⟨o1, h⟩ := h
  refine a_callSv (pc := 1) 0 1 (c_X11_needHolder (S := S) p1 o1) rfl cs_X11_37 rfl (rm rfl) ?_
  refine a_iload_n (pc := 4) 0 2 rfl rfl ?_
  have o2 := h
  refine a_callSX (pc := 5) 0 3 (q_X11_needBank_1 (S := S) p2 o2) rfl cs_X11_73 rfl (rm rfl) ?_
  exact a_out rfl (by decide) (by decide))
def okx_X11_open_3 (S : Mem) (p1 : Int32) (p2 : Int32) : Prop := ((ok_X11_needHolder S p1) ∧ (ok_X11_needBank S p2) ∧ (∀ v5 : Int32, (if (S.1 kBankOf (f_X3_holder S p1)) = (-1) then (if (S.1 kHaveFailed (f_X3_bank S p2)) = 0 then (1) else (0)) else (0)) = v5 → ((okx_X11_needState S v5))))
abbrev fqX11_open_3 : FD := (mdX11_open, [], 7, 102, 1, 6)
set_option maxRecDepth 100000 in
set_option maxHeartbeats 4000000 in
theorem q_X11_open_3 {S : Mem} (p1 : Int32) (p2 : Int32)  (h : okx_X11_open_3 S p1 p2) : Cqs mdX11_open 7 102 [vr 11 0, vi p1, vi p2] S xSta := Cqs.of dtX11_open (by decide +kernel) rfl rfl (Nat.le_of_ble_eq_true rfl) rfl (fun O G => by
  show BW O G fqX11_open_3 0 0 _ S 0 _ []
  refine a_iload_n (pc := 0) 0 0 rfl rfl ?_
  obtain ⟨o1, h⟩ := h
  refine a_callSv (pc := 1) 0 1 (c_X11_needHolder (S := S) p1 o1) rfl cs_X11_37 rfl (rm rfl) ?_
  refine a_iload_n (pc := 4) 0 2 rfl rfl ?_
  obtain ⟨o2, h⟩ := h
  refine a_callSv (pc := 5) 0 3 (c_X11_needBank (S := S) p2 o2) rfl cs_X11_73 rfl (rm rfl) ?_
  refine a_aload_n (pc := 8) 0 4 rfl rfl ?_
  refine g_11_books (pc := 9) 0 5 rfl fl_X11_10 ?_
  refine a_iload_n (pc := 12) 0 6 rfl rfl ?_
  refine a_callVr (pc := 13) 0 7 (c_X3_holder (S := S) p1) rfl cv_X11_45 (by decide) rfl rfl rfl (rm rfl) ?_
  refine a_astore_n (pc := 16) 0 8 (ls2 := [some (vr 11 0), some (vi p1), some (vi p2), some (vr 5 (f_X3_holder S p1))]) rfl rfl (by decide) rfl ?_
  refine a_aload_n (pc := 17) 0 9 rfl rfl ?_
  refine g_5_bank (pc := 18) 0 10 rfl (show f_X3_holder S p1 < 17 from r_X3_holder) fl_X11_76 ?_
  refine a_iconst (pc := 21) 0 11 (v := (-1)) rfl (by decide) ?_
  have J44_6 : ∀ (v5 : Int32) (ev5 : (if (S.1 kBankOf (f_X3_holder S p1)) = (-1) then (if (S.1 kHaveFailed (f_X3_bank S p2)) = 0 then (1) else (0)) else (0)) = v5), BW O G fqX11_open_3 0 0 (QX O G S xSta) S 44 [some (vr 11 0), some (vi p1), some (vi p2), some (vr 5 (f_X3_holder S p1))] [vi v5] := by
    intro v5 ev5
    have h := h v5 ev5
    have o6 := h
    refine a_callSX (pc := 44) 0 22 (q_X11_needState (S := S) v5 (by rw [← ev5]; repeat (first | exact Or.inl rfl | exact Or.inr rfl | assumption | split | dsimp only [lt])) o6) rfl cs_X11_66 rfl (rm rfl) ?_
    exact a_out rfl (by decide) (by decide)
  refine a_icmp_ne (pc := 22) (tgt := 43) 0 12 rfl (by decide) (fun c22_2 => ?_) (fun c22_2 => ?_)
  · refine a_iconst (pc := 43) 0 21 (v := 0) rfl (by decide) ?_
    exact J44_6 _ (by exact (if_neg c22_2))
  · refine a_aload_n (pc := 25) 0 13 rfl rfl ?_
    refine g_11_books (pc := 26) 0 14 rfl fl_X11_10 ?_
    refine a_iload_n (pc := 29) 0 15 rfl rfl ?_
    refine a_callVr (pc := 30) 0 16 (c_X3_bank (S := S) p2) rfl cv_X11_79 (by decide) rfl rfl rfl (rm rfl) ?_
    refine g_0_hasFailed (pc := 33) 0 17 rfl (show f_X3_bank S p2 < 5 from r_X3_bank) fl_X11_82 ?_
    refine a_if_ne (pc := 36) (tgt := 43) 0 18 rfl (by decide) (fun c36_3 => ?_) (fun c36_3 => ?_)
    · refine a_iconst (pc := 43) 0 21 (v := 0) rfl (by decide) ?_
      exact J44_6 _ (by exact ((if_pos c22_2).trans (if_neg c36_3)))
    · refine a_iconst (pc := 39) 0 19 (v := 1) rfl (by decide) ?_
      refine a_goto (pc := 40) (tgt := 44) 0 20 rfl (by decide) ?_
      exact J44_6 _ (by exact ((if_pos c22_2).trans (if_pos c36_3))))
def f_X11_close (S : Mem) (p1 : Int32) : Int32 × Mem := lt (if (S.1 kBankOf (f_X3_holder S p1)) = (-1) then (0) else (if (S.1 kAccounts (f_X3_holder S p1)) = 0 then (lt (f_X10_oneWaitsTo S p1) (fun (v5 : Int32) => if v5 = 0 then (1) else (0))) else (0))) (fun (v7 : Int32) => lt ((upd2 S.1 kBankOf (f_X3_holder S p1) (-1), S.2)) (fun (S9 : Mem) => (S.1 kBankOf (f_X3_holder S p1), S9)))
def ok_X11_close (S : Mem) (p1 : Int32) : Prop := ((ok_X11_needHolder S p1) ∧ ((¬ ((S.1 kBankOf (f_X3_holder S p1)) = (-1))) → ((((S.1 kAccounts (f_X3_holder S p1)) = 0) → ((ok_X10_oneWaitsTo S p1))))) ∧ (∀ v7 : Int32, (if (S.1 kBankOf (f_X3_holder S p1)) = (-1) then (0) else (if (S.1 kAccounts (f_X3_holder S p1)) = 0 then (lt (f_X10_oneWaitsTo S p1) (fun (v5 : Int32) => if v5 = 0 then (1) else (0))) else (0))) = v7 → ((ok_X11_needState S v7))))
abbrev fdX11_close : FD := (mdX11_close, [], 2, 45, 0, 0)
set_option maxRecDepth 100000 in
set_option maxHeartbeats 4000000 in
theorem w_X11_close {O : Om} {G : Cx} {S : Mem} {PP : Option AV → Mem → Prop} (p1 : Int32)   (h : ok_X11_close S p1) (hP : ∀ x9 S9, f_X11_close S p1 = (x9, S9) → PP (some (vi x9)) S9) : BW O G fdX11_close 0 0 (QV O G 0 0 PP) S 0 [some (vr 11 0), some (vi p1), none, none] [] := by
  refine a_iload_n (pc := 0) 0 0 rfl rfl ?_
  obtain ⟨o1, h⟩ := h
  refine a_callSv (pc := 1) 0 1 (c_X11_needHolder (S := S) p1 o1) rfl cs_X11_37 rfl (rm rfl) ?_
  refine a_aload_n (pc := 4) 0 2 rfl rfl ?_
  refine g_11_books (pc := 5) 0 3 rfl fl_X11_10 ?_
  refine a_iload_n (pc := 8) 0 4 rfl rfl ?_
  refine a_callVr (pc := 9) 0 5 (c_X3_holder (S := S) p1) rfl cv_X11_45 (by decide) rfl rfl rfl (rm rfl) ?_
  refine a_astore_n (pc := 12) 0 6 (ls2 := [some (vr 11 0), some (vi p1), some (vr 5 (f_X3_holder S p1)), none]) rfl rfl (by decide) rfl ?_
  refine a_aload_n (pc := 13) 0 7 rfl rfl ?_
  refine g_5_bank (pc := 14) 0 8 rfl (show f_X3_holder S p1 < 17 from r_X3_holder) fl_X11_76 ?_
  refine a_iconst (pc := 17) 0 9 (v := (-1)) rfl (by decide) ?_
  obtain ⟨hr0, h⟩ := h
  have J44_9 : ∀ (v7 : Int32) (ev7 : (if (S.1 kBankOf (f_X3_holder S p1)) = (-1) then (0) else (if (S.1 kAccounts (f_X3_holder S p1)) = 0 then (lt (f_X10_oneWaitsTo S p1) (fun (v5 : Int32) => if v5 = 0 then (1) else (0))) else (0))) = v7), BW O G fdX11_close 0 0 (QV O G 0 0 PP) S 44 [some (vr 11 0), some (vi p1), some (vr 5 (f_X3_holder S p1)), none] [vi v7] := by
    intro v7 ev7
    have h := h v7 ev7
    have o8 := h
    refine a_callSv (pc := 44) 0 22 (c_X11_needState (S := S) v7 (by rw [← ev7]; repeat (first | exact Or.inl rfl | exact Or.inr rfl | assumption | split | dsimp only [lt])) o8) rfl cs_X11_66 rfl (rm rfl) ?_
    refine a_aload_n (pc := 47) 0 23 rfl rfl ?_
    refine g_5_bank (pc := 48) 0 24 rfl (show f_X3_holder S p1 < 17 from r_X3_holder) fl_X11_76 ?_
    refine a_istore_n (pc := 51) 0 25 (ls2 := [some (vr 11 0), some (vi p1), some (vr 5 (f_X3_holder S p1)), some (vi (S.1 kBankOf (f_X3_holder S p1)))]) rfl rfl (by decide) rfl ?_
    refine a_aload_n (pc := 52) 0 26 rfl rfl ?_
    refine a_iconst (pc := 53) 0 27 (v := (-1)) rfl (by decide) ?_
    refine p_5_bank (pc := 54) 0 28 rfl (show f_X3_holder S p1 < 17 from r_X3_holder) fl_X11_76 ?_
    refine a_set (fun S9 eS9 => ?_)
    refine a_iload_n (pc := 57) 0 29 rfl rfl ?_
    exact a_iret (pc := 58) 0 30 rfl rfl (hP _ _ (by unfold f_X11_close; exact (lt_eq ev7).trans (lt_eq eS9)))
  have h := hr0
  refine a_icmp_eq (pc := 18) (tgt := 43) 0 10 rfl (by decide) (fun c18_1 => ?_) (fun c18_1 => ?_)
  · refine a_iconst (pc := 43) 0 21 (v := 0) rfl (by decide) ?_
    exact J44_9 _ (by exact (if_pos c18_1))
  · have h := h c18_1
    refine a_aload_n (pc := 21) 0 11 rfl rfl ?_
    refine g_5_balance (pc := 22) 0 12 rfl (show f_X3_holder S p1 < 17 from r_X3_holder) fl_X11_91 ?_
    refine a_if_ne (pc := 25) (tgt := 43) 0 13 rfl (by decide) (fun c25_2 => ?_) (fun c25_2 => ?_)
    · refine a_iconst (pc := 43) 0 21 (v := 0) rfl (by decide) ?_
      exact J44_9 _ (by exact ((if_neg c18_1).trans (if_neg c25_2)))
    · have h := h c25_2
      refine a_aload_n (pc := 28) 0 14 rfl rfl ?_
      refine g_11_payments (pc := 29) 0 15 rfl fl_X11_19 ?_
      refine a_iload_n (pc := 32) 0 16 rfl rfl ?_
      have o4 := h
      refine a_callVi (pc := 33) 0 17 (c_X10_oneWaitsTo (S := S) p1 o4) rfl cv_X11_94 (by decide) rfl rfl rfl (rm rfl) ?_
      refine a_seti (fun v5 ev5 => ?_)
      refine a_if_ne (pc := 36) (tgt := 43) 0 18 rfl (by decide) (fun c36_5 => ?_) (fun c36_5 => ?_)
      · refine a_iconst (pc := 43) 0 21 (v := 0) rfl (by decide) ?_
        exact J44_9 _ (by exact ((if_neg c18_1).trans ((if_pos c25_2).trans ((lt_eq ev5).trans (if_neg c36_5)))))
      · refine a_iconst (pc := 39) 0 19 (v := 1) rfl (by decide) ?_
        refine a_goto (pc := 40) (tgt := 44) 0 20 rfl (by decide) ?_
        exact J44_9 _ (by exact ((if_neg c18_1).trans ((if_pos c25_2).trans ((lt_eq ev5).trans (if_pos c36_5)))))
theorem c_X11_close {S : Mem} (p1 : Int32)   (h : ok_X11_close S p1) : Cts mdX11_close 2 45 [vr 11 0, vi p1] S (Is (some (vi (f_X11_close S p1).1)) ((f_X11_close S p1).2)) := Cts.of dtX11_close (by decide +kernel) rfl rfl (Nat.le_of_ble_eq_true rfl) rfl (fun O G => w_X11_close p1 h (fun _ _ h9 => ⟨by rw [h9], by rw [h9]⟩))
def okx_X11_close_1 (S : Mem) (p1 : Int32) : Prop := ((okx_X11_needHolder_1 S p1))
abbrev fqX11_close_1 : FD := (mdX11_close, [], 8, 122, 1, 6)
set_option maxRecDepth 100000 in
set_option maxHeartbeats 4000000 in
theorem q_X11_close_1 {S : Mem} (p1 : Int32)  (h : okx_X11_close_1 S p1) : Cqs mdX11_close 8 122 [vr 11 0, vi p1] S xIdx := Cqs.of dtX11_close (by decide +kernel) rfl rfl (Nat.le_of_ble_eq_true rfl) rfl (fun O G => by
  show BW O G fqX11_close_1 0 0 _ S 0 _ []
  refine a_iload_n (pc := 0) 0 0 rfl rfl ?_
  have o1 := h
  refine a_callSX (pc := 1) 0 1 (q_X11_needHolder_1 (S := S) p1 o1) rfl cs_X11_37 rfl (rm rfl) ?_
  exact a_out rfl (by decide) (by decide))
def okx_X11_close_2 (S : Mem) (p1 : Int32) : Prop := ((ok_X11_needHolder S p1) ∧ ((¬ ((S.1 kBankOf (f_X3_holder S p1)) = (-1))) → ((((S.1 kAccounts (f_X3_holder S p1)) = 0) → ((ok_X10_oneWaitsTo S p1))))) ∧ (∀ v7 : Int32, (if (S.1 kBankOf (f_X3_holder S p1)) = (-1) then (0) else (if (S.1 kAccounts (f_X3_holder S p1)) = 0 then (lt (f_X10_oneWaitsTo S p1) (fun (v5 : Int32) => if v5 = 0 then (1) else (0))) else (0))) = v7 → ((okx_X11_needState S v7))))
abbrev fqX11_close_2 : FD := (mdX11_close, [], 7, 102, 1, 6)
set_option maxRecDepth 100000 in
set_option maxHeartbeats 4000000 in
theorem q_X11_close_2 {S : Mem} (p1 : Int32)  (h : okx_X11_close_2 S p1) : Cqs mdX11_close 7 102 [vr 11 0, vi p1] S xSta := Cqs.of dtX11_close (by decide +kernel) rfl rfl (Nat.le_of_ble_eq_true rfl) rfl (fun O G => by
  show BW O G fqX11_close_2 0 0 _ S 0 _ []
  refine a_iload_n (pc := 0) 0 0 rfl rfl ?_
  obtain ⟨o1, h⟩ := h
  refine a_callSv (pc := 1) 0 1 (c_X11_needHolder (S := S) p1 o1) rfl cs_X11_37 rfl (rm rfl) ?_
  refine a_aload_n (pc := 4) 0 2 rfl rfl ?_
  refine g_11_books (pc := 5) 0 3 rfl fl_X11_10 ?_
  refine a_iload_n (pc := 8) 0 4 rfl rfl ?_
  refine a_callVr (pc := 9) 0 5 (c_X3_holder (S := S) p1) rfl cv_X11_45 (by decide) rfl rfl rfl (rm rfl) ?_
  refine a_astore_n (pc := 12) 0 6 (ls2 := [some (vr 11 0), some (vi p1), some (vr 5 (f_X3_holder S p1)), none]) rfl rfl (by decide) rfl ?_
  refine a_aload_n (pc := 13) 0 7 rfl rfl ?_
  refine g_5_bank (pc := 14) 0 8 rfl (show f_X3_holder S p1 < 17 from r_X3_holder) fl_X11_76 ?_
  refine a_iconst (pc := 17) 0 9 (v := (-1)) rfl (by decide) ?_
  obtain ⟨hr0, h⟩ := h
  have J44_8 : ∀ (v7 : Int32) (ev7 : (if (S.1 kBankOf (f_X3_holder S p1)) = (-1) then (0) else (if (S.1 kAccounts (f_X3_holder S p1)) = 0 then (lt (f_X10_oneWaitsTo S p1) (fun (v5 : Int32) => if v5 = 0 then (1) else (0))) else (0))) = v7), BW O G fqX11_close_2 0 0 (QX O G S xSta) S 44 [some (vr 11 0), some (vi p1), some (vr 5 (f_X3_holder S p1)), none] [vi v7] := by
    intro v7 ev7
    have h := h v7 ev7
    have o8 := h
    refine a_callSX (pc := 44) 0 22 (q_X11_needState (S := S) v7 (by rw [← ev7]; repeat (first | exact Or.inl rfl | exact Or.inr rfl | assumption | split | dsimp only [lt])) o8) rfl cs_X11_66 rfl (rm rfl) ?_
    exact a_out rfl (by decide) (by decide)
  have h := hr0
  refine a_icmp_eq (pc := 18) (tgt := 43) 0 10 rfl (by decide) (fun c18_1 => ?_) (fun c18_1 => ?_)
  · refine a_iconst (pc := 43) 0 21 (v := 0) rfl (by decide) ?_
    exact J44_8 _ (by exact (if_pos c18_1))
  · have h := h c18_1
    refine a_aload_n (pc := 21) 0 11 rfl rfl ?_
    refine g_5_balance (pc := 22) 0 12 rfl (show f_X3_holder S p1 < 17 from r_X3_holder) fl_X11_91 ?_
    refine a_if_ne (pc := 25) (tgt := 43) 0 13 rfl (by decide) (fun c25_2 => ?_) (fun c25_2 => ?_)
    · refine a_iconst (pc := 43) 0 21 (v := 0) rfl (by decide) ?_
      exact J44_8 _ (by exact ((if_neg c18_1).trans (if_neg c25_2)))
    · have h := h c25_2
      refine a_aload_n (pc := 28) 0 14 rfl rfl ?_
      refine g_11_payments (pc := 29) 0 15 rfl fl_X11_19 ?_
      refine a_iload_n (pc := 32) 0 16 rfl rfl ?_
      have o4 := h
      refine a_callVi (pc := 33) 0 17 (c_X10_oneWaitsTo (S := S) p1 o4) rfl cv_X11_94 (by decide) rfl rfl rfl (rm rfl) ?_
      refine a_seti (fun v5 ev5 => ?_)
      refine a_if_ne (pc := 36) (tgt := 43) 0 18 rfl (by decide) (fun c36_5 => ?_) (fun c36_5 => ?_)
      · refine a_iconst (pc := 43) 0 21 (v := 0) rfl (by decide) ?_
        exact J44_8 _ (by exact ((if_neg c18_1).trans ((if_pos c25_2).trans ((lt_eq ev5).trans (if_neg c36_5)))))
      · refine a_iconst (pc := 39) 0 19 (v := 1) rfl (by decide) ?_
        refine a_goto (pc := 40) (tgt := 44) 0 20 rfl (by decide) ?_
        exact J44_8 _ (by exact ((if_neg c18_1).trans ((if_pos c25_2).trans ((lt_eq ev5).trans (if_pos c36_5))))))
def f_X11_bring (S : Mem) (p1 : Int32) (p2 : Int32) : Int32 × Mem := lt (if (S.1 kBankOf (f_X3_holder S p1)) = (-1) then (0) else (if (S.1 kNotes (f_X3_holder S p1)) < p2 then (0) else (1))) (fun (v5 : Int32) => lt (f_X5_forgedAmong S (f_X3_holder S p1) p2) (fun (v7 : Int32) => lt (f_X5_takeNotes S (f_X3_holder S p1) (-p2) (-v7)) (fun (S8 : Mem) => lt ((upd2 S8.1 kVaults (f_X3_bank S8 (S8.1 kBankOf (f_X3_holder S p1))) ((S8.1 kVaults (f_X3_bank S8 (S8.1 kBankOf (f_X3_holder S p1)))) + (p2 - v7)), S8.2)) (fun (S9 : Mem) => lt (f_X3_change S9 p1 (p2 - v7)) (fun (S11 : Mem) => (p2 - v7, S11))))))
def ok_X11_bring (S : Mem) (p1 : Int32) (p2 : Int32) : Prop := ((ok_X11_needHolder S p1) ∧ (ok_X11_needRange S p2 1 (nI 10000)) ∧ (∀ v5 : Int32, (if (S.1 kBankOf (f_X3_holder S p1)) = (-1) then (0) else (if (S.1 kNotes (f_X3_holder S p1)) < p2 then (0) else (1))) = v5 → ((ok_X11_needState S v5) ∧ (∀ v7 : Int32, (f_X5_forgedAmong S (f_X3_holder S p1) p2) = v7 → ((∀ S8 : Mem, (f_X5_takeNotes S (f_X3_holder S p1) (-p2) (-v7)) = S8 → ((∀ S9 : Mem, ((upd2 S8.1 kVaults (f_X3_bank S8 (S8.1 kBankOf (f_X3_holder S p1))) ((S8.1 kVaults (f_X3_bank S8 (S8.1 kBankOf (f_X3_holder S p1)))) + (p2 - v7)), S8.2)) = S9 → ((ok_X3_change S9 p1 (p2 - v7)))))))))))
abbrev fdX11_bring : FD := (mdX11_bring, [], 2, 45, 0, 0)
set_option maxRecDepth 100000 in
set_option maxHeartbeats 4000000 in
theorem w_X11_bring {O : Om} {G : Cx} {S : Mem} {PP : Option AV → Mem → Prop} (p1 : Int32) (p2 : Int32)   (h : ok_X11_bring S p1 p2) (hP : ∀ x9 S9, f_X11_bring S p1 p2 = (x9, S9) → PP (some (vi x9)) S9) : BW O G fdX11_bring 0 0 (QV O G 0 0 PP) S 0 [some (vr 11 0), some (vi p1), some (vi p2), none, none, none] [] := by
  refine a_iload_n (pc := 0) 0 0 rfl rfl ?_
  obtain ⟨o1, h⟩ := h
  refine a_callSv (pc := 1) 0 1 (c_X11_needHolder (S := S) p1 o1) rfl cs_X11_37 rfl (rm rfl) ?_
  refine a_iload_n (pc := 4) 0 2 rfl rfl ?_
  refine a_iconst (pc := 5) 0 3 (v := 1) rfl (by decide) ?_
  refine a_sipush (pc := 6) 0 4 (v := nI 10000) rfl (by decide) ?_
  obtain ⟨o2, h⟩ := h
  refine a_callSv (pc := 9) 0 5 (c_X11_needRange (S := S) p2 1 (nI 10000) o2) rfl cs_X11_41 rfl (rm rfl) ?_
  refine a_aload_n (pc := 12) 0 6 rfl rfl ?_
  refine g_11_books (pc := 13) 0 7 rfl fl_X11_10 ?_
  refine a_iload_n (pc := 16) 0 8 rfl rfl ?_
  refine a_callVr (pc := 17) 0 9 (c_X3_holder (S := S) p1) rfl cv_X11_45 (by decide) rfl rfl rfl (rm rfl) ?_
  refine a_astore_n (pc := 20) 0 10 (ls2 := [some (vr 11 0), some (vi p1), some (vi p2), some (vr 5 (f_X3_holder S p1)), none, none]) rfl rfl (by decide) rfl ?_
  refine a_aload_n (pc := 21) 0 11 rfl rfl ?_
  refine g_5_bank (pc := 22) 0 12 rfl (show f_X3_holder S p1 < 17 from r_X3_holder) fl_X11_76 ?_
  refine a_iconst (pc := 25) 0 13 (v := (-1)) rfl (by decide) ?_
  have J42_11 : ∀ (v5 : Int32) (ev5 : (if (S.1 kBankOf (f_X3_holder S p1)) = (-1) then (0) else (if (S.1 kNotes (f_X3_holder S p1)) < p2 then (0) else (1))) = v5), BW O G fdX11_bring 0 0 (QV O G 0 0 PP) S 42 [some (vr 11 0), some (vi p1), some (vi p2), some (vr 5 (f_X3_holder S p1)), none, none] [vi v5] := by
    intro v5 ev5
    have h := h v5 ev5
    obtain ⟨o6, h⟩ := h
    refine a_callSv (pc := 42) 0 22 (c_X11_needState (S := S) v5 (by rw [← ev5]; repeat (first | exact Or.inl rfl | exact Or.inr rfl | assumption | split | dsimp only [lt])) o6) rfl cs_X11_66 rfl (rm rfl) ?_
    refine a_aload_n (pc := 45) 0 23 rfl rfl ?_
    refine a_iload_n (pc := 46) 0 24 rfl rfl ?_
    refine a_callVi (pc := 47) 0 25 (c_X5_forgedAmong (S := S) (f_X3_holder S p1) p2 (show f_X3_holder S p1 < 17 from r_X3_holder)) rfl cv_X11_69 (show f_X3_holder S p1 < 17 from r_X3_holder) rfl rfl rfl (rm rfl) ?_
    refine a_seti (fun v7 ev7 => ?_)
    have h := h v7 ev7
    refine a_istore (pc := 50) 0 26 (ls2 := [some (vr 11 0), some (vi p1), some (vi p2), some (vr 5 (f_X3_holder S p1)), some (vi v7), none]) rfl (by decide) rfl ?_
    refine a_iload_n (pc := 52) 0 27 rfl rfl ?_
    refine a_iload (pc := 53) 0 28 rfl rfl ?_
    refine a_isub (pc := 55) 0 29 rfl ?_
    refine a_istore (pc := 56) 0 30 (ls2 := [some (vr 11 0), some (vi p1), some (vi p2), some (vr 5 (f_X3_holder S p1)), some (vi v7), some (vi (p2 - v7))]) rfl (by decide) rfl ?_
    refine a_aload_n (pc := 58) 0 31 rfl rfl ?_
    refine a_iload_n (pc := 59) 0 32 rfl rfl ?_
    refine a_ineg (pc := 60) 0 33 rfl ?_
    refine a_iload (pc := 61) 0 34 rfl rfl ?_
    refine a_ineg (pc := 63) 0 35 rfl ?_
    refine a_callVv (pc := 64) 0 36 (c_X5_takeNotes (S := S) (f_X3_holder S p1) (-p2) (-v7) (show f_X3_holder S p1 < 17 from r_X3_holder)) rfl cv_X11_49 (show f_X3_holder S p1 < 17 from r_X3_holder) rfl rfl rfl (rm rfl) ?_
    refine a_set (fun S8 eS8 => ?_)
    have h := h S8 eS8
    refine a_aload_n (pc := 67) 0 37 rfl rfl ?_
    refine g_11_books (pc := 68) 0 38 rfl fl_X11_10 ?_
    refine a_aload_n (pc := 71) 0 39 rfl rfl ?_
    refine g_5_bank (pc := 72) 0 40 rfl (show f_X3_holder S p1 < 17 from r_X3_holder) fl_X11_76 ?_
    refine a_callVr (pc := 75) 0 41 (c_X3_bank (S := S8) (S8.1 kBankOf (f_X3_holder S p1))) rfl cv_X11_79 (by decide) rfl rfl rfl (rm rfl) ?_
    refine a_dup (pc := 78) 0 42 rfl rfl ?_
    refine g_0_vault (pc := 79) 0 43 rfl (show f_X3_bank S8 (S8.1 kBankOf (f_X3_holder S p1)) < 5 from r_X3_bank) fl_X11_98 ?_
    refine a_iload (pc := 82) 0 44 rfl rfl ?_
    refine a_iadd (pc := 84) 0 45 rfl ?_
    refine p_0_vault (pc := 85) 0 46 rfl (show f_X3_bank S8 (S8.1 kBankOf (f_X3_holder S p1)) < 5 from r_X3_bank) fl_X11_98 ?_
    refine a_set (fun S9 eS9 => ?_)
    have h := h S9 eS9
    refine a_aload_n (pc := 88) 0 47 rfl rfl ?_
    refine g_11_books (pc := 89) 1 0 rfl fl_X11_10 ?_
    refine a_iload_n (pc := 92) 1 1 rfl rfl ?_
    refine a_iload (pc := 93) 1 2 rfl rfl ?_
    have o10 := h
    refine a_callVv (pc := 95) 1 3 (c_X3_change (S := S9) p1 (p2 - v7) o10) rfl cv_X11_101 (by decide) rfl rfl rfl (rm rfl) ?_
    refine a_set (fun S11 eS11 => ?_)
    refine a_iload (pc := 98) 1 4 rfl rfl ?_
    exact a_iret (pc := 100) 1 5 rfl rfl (hP _ _ (by unfold f_X11_bring; exact (lt_eq ev5).trans ((lt_eq ev7).trans ((lt_eq eS8).trans ((lt_eq eS9).trans (lt_eq eS11))))))
  refine a_icmp_eq (pc := 26) (tgt := 41) 0 14 rfl (by decide) (fun c26_2 => ?_) (fun c26_2 => ?_)
  · refine a_iconst (pc := 41) 0 21 (v := 0) rfl (by decide) ?_
    exact J42_11 _ (by exact (if_pos c26_2))
  · refine a_aload_n (pc := 29) 0 15 rfl rfl ?_
    refine g_5_notes (pc := 30) 0 16 rfl (show f_X3_holder S p1 < 17 from r_X3_holder) fl_X11_58 ?_
    refine a_iload_n (pc := 33) 0 17 rfl rfl ?_
    refine a_icmp_lt (pc := 34) (tgt := 41) 0 18 rfl (by decide) (fun c34_3 => ?_) (fun c34_3 => ?_)
    · refine a_iconst (pc := 41) 0 21 (v := 0) rfl (by decide) ?_
      exact J42_11 _ (by exact ((if_neg c26_2).trans (if_pos c34_3)))
    · refine a_iconst (pc := 37) 0 19 (v := 1) rfl (by decide) ?_
      refine a_goto (pc := 38) (tgt := 42) 0 20 rfl (by decide) ?_
      exact J42_11 _ (by exact ((if_neg c26_2).trans (if_neg c34_3)))
theorem c_X11_bring {S : Mem} (p1 : Int32) (p2 : Int32)   (h : ok_X11_bring S p1 p2) : Cts mdX11_bring 2 45 [vr 11 0, vi p1, vi p2] S (Is (some (vi (f_X11_bring S p1 p2).1)) ((f_X11_bring S p1 p2).2)) := Cts.of dtX11_bring (by decide +kernel) rfl rfl (Nat.le_of_ble_eq_true rfl) rfl (fun O G => w_X11_bring p1 p2 h (fun _ _ h9 => ⟨by rw [h9], by rw [h9]⟩))
def okx_X11_bring_1 (S : Mem) (p1 : Int32) (p2 : Int32) : Prop := ((okx_X11_needHolder_1 S p1))
abbrev fqX11_bring_1 : FD := (mdX11_bring, [], 8, 122, 1, 6)
set_option maxRecDepth 100000 in
set_option maxHeartbeats 4000000 in
theorem q_X11_bring_1 {S : Mem} (p1 : Int32) (p2 : Int32)  (h : okx_X11_bring_1 S p1 p2) : Cqs mdX11_bring 8 122 [vr 11 0, vi p1, vi p2] S xIdx := Cqs.of dtX11_bring (by decide +kernel) rfl rfl (Nat.le_of_ble_eq_true rfl) rfl (fun O G => by
  show BW O G fqX11_bring_1 0 0 _ S 0 _ []
  refine a_iload_n (pc := 0) 0 0 rfl rfl ?_
  have o1 := h
  refine a_callSX (pc := 1) 0 1 (q_X11_needHolder_1 (S := S) p1 o1) rfl cs_X11_37 rfl (rm rfl) ?_
  exact a_out rfl (by decide) (by decide))
def okx_X11_bring_2 (S : Mem) (p1 : Int32) (p2 : Int32) : Prop := ((ok_X11_needHolder S p1) ∧ (okx_X11_needRange_1 S p2 1 (nI 10000)))
abbrev fqX11_bring_2 : FD := (mdX11_bring, [], 8, 124, 1, 6)
set_option maxRecDepth 100000 in
set_option maxHeartbeats 4000000 in
theorem q_X11_bring_2 {S : Mem} (p1 : Int32) (p2 : Int32)  (h : okx_X11_bring_2 S p1 p2) : Cqs mdX11_bring 8 124 [vr 11 0, vi p1, vi p2] S xArg := Cqs.of dtX11_bring (by decide +kernel) rfl rfl (Nat.le_of_ble_eq_true rfl) rfl (fun O G => by
  show BW O G fqX11_bring_2 0 0 _ S 0 _ []
  refine a_iload_n (pc := 0) 0 0 rfl rfl ?_
  obtain ⟨o1, h⟩ := h
  refine a_callSv (pc := 1) 0 1 (c_X11_needHolder (S := S) p1 o1) rfl cs_X11_37 rfl (rm rfl) ?_
  refine a_iload_n (pc := 4) 0 2 rfl rfl ?_
  refine a_iconst (pc := 5) 0 3 (v := 1) rfl (by decide) ?_
  refine a_sipush (pc := 6) 0 4 (v := nI 10000) rfl (by decide) ?_
  have o2 := h
  refine a_callSX (pc := 9) 0 5 (q_X11_needRange_1 (S := S) p2 1 (nI 10000) o2) rfl cs_X11_41 rfl (rm rfl) ?_
  exact a_out rfl (by decide) (by decide))
def okx_X11_bring_3 (S : Mem) (p1 : Int32) (p2 : Int32) : Prop := ((ok_X11_needHolder S p1) ∧ (ok_X11_needRange S p2 1 (nI 10000)) ∧ (∀ v5 : Int32, (if (S.1 kBankOf (f_X3_holder S p1)) = (-1) then (0) else (if (S.1 kNotes (f_X3_holder S p1)) < p2 then (0) else (1))) = v5 → ((okx_X11_needState S v5))))
abbrev fqX11_bring_3 : FD := (mdX11_bring, [], 7, 102, 1, 6)
set_option maxRecDepth 100000 in
set_option maxHeartbeats 4000000 in
theorem q_X11_bring_3 {S : Mem} (p1 : Int32) (p2 : Int32)  (h : okx_X11_bring_3 S p1 p2) : Cqs mdX11_bring 7 102 [vr 11 0, vi p1, vi p2] S xSta := Cqs.of dtX11_bring (by decide +kernel) rfl rfl (Nat.le_of_ble_eq_true rfl) rfl (fun O G => by
  show BW O G fqX11_bring_3 0 0 _ S 0 _ []
  refine a_iload_n (pc := 0) 0 0 rfl rfl ?_
  obtain ⟨o1, h⟩ := h
  refine a_callSv (pc := 1) 0 1 (c_X11_needHolder (S := S) p1 o1) rfl cs_X11_37 rfl (rm rfl) ?_
  refine a_iload_n (pc := 4) 0 2 rfl rfl ?_
  refine a_iconst (pc := 5) 0 3 (v := 1) rfl (by decide) ?_
  refine a_sipush (pc := 6) 0 4 (v := nI 10000) rfl (by decide) ?_
  obtain ⟨o2, h⟩ := h
  refine a_callSv (pc := 9) 0 5 (c_X11_needRange (S := S) p2 1 (nI 10000) o2) rfl cs_X11_41 rfl (rm rfl) ?_
  refine a_aload_n (pc := 12) 0 6 rfl rfl ?_
  refine g_11_books (pc := 13) 0 7 rfl fl_X11_10 ?_
  refine a_iload_n (pc := 16) 0 8 rfl rfl ?_
  refine a_callVr (pc := 17) 0 9 (c_X3_holder (S := S) p1) rfl cv_X11_45 (by decide) rfl rfl rfl (rm rfl) ?_
  refine a_astore_n (pc := 20) 0 10 (ls2 := [some (vr 11 0), some (vi p1), some (vi p2), some (vr 5 (f_X3_holder S p1)), none, none]) rfl rfl (by decide) rfl ?_
  refine a_aload_n (pc := 21) 0 11 rfl rfl ?_
  refine g_5_bank (pc := 22) 0 12 rfl (show f_X3_holder S p1 < 17 from r_X3_holder) fl_X11_76 ?_
  refine a_iconst (pc := 25) 0 13 (v := (-1)) rfl (by decide) ?_
  have J42_6 : ∀ (v5 : Int32) (ev5 : (if (S.1 kBankOf (f_X3_holder S p1)) = (-1) then (0) else (if (S.1 kNotes (f_X3_holder S p1)) < p2 then (0) else (1))) = v5), BW O G fqX11_bring_3 0 0 (QX O G S xSta) S 42 [some (vr 11 0), some (vi p1), some (vi p2), some (vr 5 (f_X3_holder S p1)), none, none] [vi v5] := by
    intro v5 ev5
    have h := h v5 ev5
    have o6 := h
    refine a_callSX (pc := 42) 0 22 (q_X11_needState (S := S) v5 (by rw [← ev5]; repeat (first | exact Or.inl rfl | exact Or.inr rfl | assumption | split | dsimp only [lt])) o6) rfl cs_X11_66 rfl (rm rfl) ?_
    exact a_out rfl (by decide) (by decide)
  refine a_icmp_eq (pc := 26) (tgt := 41) 0 14 rfl (by decide) (fun c26_2 => ?_) (fun c26_2 => ?_)
  · refine a_iconst (pc := 41) 0 21 (v := 0) rfl (by decide) ?_
    exact J42_6 _ (by exact (if_pos c26_2))
  · refine a_aload_n (pc := 29) 0 15 rfl rfl ?_
    refine g_5_notes (pc := 30) 0 16 rfl (show f_X3_holder S p1 < 17 from r_X3_holder) fl_X11_58 ?_
    refine a_iload_n (pc := 33) 0 17 rfl rfl ?_
    refine a_icmp_lt (pc := 34) (tgt := 41) 0 18 rfl (by decide) (fun c34_3 => ?_) (fun c34_3 => ?_)
    · refine a_iconst (pc := 41) 0 21 (v := 0) rfl (by decide) ?_
      exact J42_6 _ (by exact ((if_neg c26_2).trans (if_pos c34_3)))
    · refine a_iconst (pc := 37) 0 19 (v := 1) rfl (by decide) ?_
      refine a_goto (pc := 38) (tgt := 42) 0 20 rfl (by decide) ?_
      exact J42_6 _ (by exact ((if_neg c26_2).trans (if_neg c34_3))))
def f_X11_draw (S : Mem) (p1 : Int32) (p2 : Int32) : Int32 × Mem := lt (if (S.1 kBankOf (f_X3_holder S p1)) = (-1) then (0) else (lt (f_X5_free S (f_X3_holder S p1)) (fun (v4 : Int32) => if v4 < p2 then (0) else (1)))) (fun (v6 : Int32) => lt ((f_X11_drawNotes S p1 p2).2) (fun (S9 : Mem) => lt ((f_X11_drawNotes S p1 p2).1) (fun (v10 : Int32) => lt (if p2 ≤ v10 then (S9) else (lt ((f_X11_failBank S9 (S.1 kBankOf (f_X3_holder S p1))).2) (fun (S13 : Mem) => lt ((f_X11_failBank S9 (S.1 kBankOf (f_X3_holder S p1))).1) (fun (v14 : Int32) => S13)))) (fun (S15 : Mem) => (v10, S15)))))
def ok_X11_draw (S : Mem) (p1 : Int32) (p2 : Int32) : Prop := ((ok_X11_needHolder S p1) ∧ (ok_X11_needRange S p2 1 (nI 10000)) ∧ (∀ v6 : Int32, (if (S.1 kBankOf (f_X3_holder S p1)) = (-1) then (0) else (lt (f_X5_free S (f_X3_holder S p1)) (fun (v4 : Int32) => if v4 < p2 then (0) else (1)))) = v6 → ((ok_X11_needState S v6) ∧ (ok_X11_drawNotes S p1 p2) ∧ (∀ S9 : Mem, ((f_X11_drawNotes S p1 p2).2) = S9 → ((∀ v10 : Int32, ((f_X11_drawNotes S p1 p2).1) = v10 → (((¬ (p2 ≤ v10)) → ((ok_X11_failBank S9 (S.1 kBankOf (f_X3_holder S p1))))))))))))
abbrev fdX11_draw : FD := (mdX11_draw, [], 4, 103, 0, 0)
set_option maxRecDepth 100000 in
set_option maxHeartbeats 4000000 in
theorem w_X11_draw {O : Om} {G : Cx} {S : Mem} {PP : Option AV → Mem → Prop} (p1 : Int32) (p2 : Int32)   (h : ok_X11_draw S p1 p2) (hP : ∀ x9 S9, f_X11_draw S p1 p2 = (x9, S9) → PP (some (vi x9)) S9) : BW O G fdX11_draw 0 0 (QV O G 0 0 PP) S 0 [some (vr 11 0), some (vi p1), some (vi p2), none, none, none] [] := by
  refine a_iload_n (pc := 0) 0 0 rfl rfl ?_
  obtain ⟨o1, h⟩ := h
  refine a_callSv (pc := 1) 0 1 (c_X11_needHolder (S := S) p1 o1) rfl cs_X11_37 rfl (rm rfl) ?_
  refine a_iload_n (pc := 4) 0 2 rfl rfl ?_
  refine a_iconst (pc := 5) 0 3 (v := 1) rfl (by decide) ?_
  refine a_sipush (pc := 6) 0 4 (v := nI 10000) rfl (by decide) ?_
  obtain ⟨o2, h⟩ := h
  refine a_callSv (pc := 9) 0 5 (c_X11_needRange (S := S) p2 1 (nI 10000) o2) rfl cs_X11_41 rfl (rm rfl) ?_
  refine a_aload_n (pc := 12) 0 6 rfl rfl ?_
  refine g_11_books (pc := 13) 0 7 rfl fl_X11_10 ?_
  refine a_iload_n (pc := 16) 0 8 rfl rfl ?_
  refine a_callVr (pc := 17) 0 9 (c_X3_holder (S := S) p1) rfl cv_X11_45 (by decide) rfl rfl rfl (rm rfl) ?_
  refine a_astore_n (pc := 20) 0 10 (ls2 := [some (vr 11 0), some (vi p1), some (vi p2), some (vr 5 (f_X3_holder S p1)), none, none]) rfl rfl (by decide) rfl ?_
  refine a_aload_n (pc := 21) 0 11 rfl rfl ?_
  refine g_5_bank (pc := 22) 0 12 rfl (show f_X3_holder S p1 < 17 from r_X3_holder) fl_X11_76 ?_
  refine a_istore (pc := 25) 0 13 (ls2 := [some (vr 11 0), some (vi p1), some (vi p2), some (vr 5 (f_X3_holder S p1)), some (vi (S.1 kBankOf (f_X3_holder S p1))), none]) rfl (by decide) rfl ?_
  refine a_iload (pc := 27) 0 14 rfl rfl ?_
  refine a_iconst (pc := 29) 0 15 (v := (-1)) rfl (by decide) ?_
  have J46_15 : ∀ (v6 : Int32) (ev6 : (if (S.1 kBankOf (f_X3_holder S p1)) = (-1) then (0) else (lt (f_X5_free S (f_X3_holder S p1)) (fun (v4 : Int32) => if v4 < p2 then (0) else (1)))) = v6), BW O G fdX11_draw 0 0 (QV O G 0 0 PP) S 46 [some (vr 11 0), some (vi p1), some (vi p2), some (vr 5 (f_X3_holder S p1)), some (vi (S.1 kBankOf (f_X3_holder S p1))), none] [vi v6] := by
    intro v6 ev6
    have h := h v6 ev6
    obtain ⟨o7, h⟩ := h
    refine a_callSv (pc := 46) 0 24 (c_X11_needState (S := S) v6 (by rw [← ev6]; repeat (first | exact Or.inl rfl | exact Or.inr rfl | assumption | split | dsimp only [lt])) o7) rfl cs_X11_66 rfl (rm rfl) ?_
    refine a_aload_n (pc := 49) 0 25 rfl rfl ?_
    refine a_iload_n (pc := 50) 0 26 rfl rfl ?_
    refine a_iload_n (pc := 51) 0 27 rfl rfl ?_
    obtain ⟨o8, h⟩ := h
    refine a_callVi (pc := 52) 0 28 (c_X11_drawNotes (S := S) p1 p2 o8) rfl cv_X11_108 (by decide) rfl rfl rfl (rm rfl) ?_
    refine a_set (fun S9 eS9 => ?_)
    have h := h S9 eS9
    refine a_seti (fun v10 ev10 => ?_)
    have h := h v10 ev10
    refine a_istore (pc := 55) 0 29 (ls2 := [some (vr 11 0), some (vi p1), some (vi p2), some (vr 5 (f_X3_holder S p1)), some (vi (S.1 kBankOf (f_X3_holder S p1))), some (vi v10)]) rfl (by decide) rfl ?_
    refine a_iload (pc := 57) 0 30 rfl rfl ?_
    refine a_iload_n (pc := 59) 0 31 rfl rfl ?_
    have J70_16 : ∀ (S15 : Mem) (eS15 : (if p2 ≤ v10 then (S9) else (lt ((f_X11_failBank S9 (S.1 kBankOf (f_X3_holder S p1))).2) (fun (S13 : Mem) => lt ((f_X11_failBank S9 (S.1 kBankOf (f_X3_holder S p1))).1) (fun (v14 : Int32) => S13)))) = S15), BW O G fdX11_draw 0 0 (QV O G 0 0 PP) S15 70 [some (vr 11 0), some (vi p1), some (vi p2), some (vr 5 (f_X3_holder S p1)), some (vi (S.1 kBankOf (f_X3_holder S p1))), some (vi v10)] [] := by
      intro S15 eS15
      refine a_iload (pc := 70) 0 37 rfl rfl ?_
      exact a_iret (pc := 72) 0 38 rfl rfl (hP _ _ (by unfold f_X11_draw; exact (lt_eq ev6).trans ((lt_eq eS9).trans ((lt_eq ev10).trans (lt_eq eS15)))))
    refine a_icmp_ge (pc := 60) (tgt := 70) 0 32 rfl (by decide) (fun c60_10 => ?_) (fun c60_10 => ?_)
    · exact J70_16 _ (by exact (if_pos c60_10))
    · have h := h c60_10
      refine a_aload_n (pc := 63) 0 33 rfl rfl ?_
      refine a_iload (pc := 64) 0 34 rfl rfl ?_
      have o12 := h
      refine a_callVi (pc := 66) 0 35 (c_X11_failBank (S := S9) (S.1 kBankOf (f_X3_holder S p1)) o12) rfl cv_X11_112 (by decide) rfl rfl rfl (rm rfl) ?_
      refine a_set (fun S13 eS13 => ?_)
      refine a_seti (fun v14 ev14 => ?_)
      refine a_pop (pc := 69) 0 36 rfl ?_
      exact J70_16 _ (by exact ((if_neg c60_10).trans ((lt_eq eS13).trans (lt_eq ev14))))
  refine a_icmp_eq (pc := 30) (tgt := 45) 0 16 rfl (by decide) (fun c30_2 => ?_) (fun c30_2 => ?_)
  · refine a_iconst (pc := 45) 0 23 (v := 0) rfl (by decide) ?_
    exact J46_15 _ (by exact (if_pos c30_2))
  · refine a_aload_n (pc := 33) 0 17 rfl rfl ?_
    refine a_callVi (pc := 34) 0 18 (c_X5_free (S := S) (f_X3_holder S p1) (show f_X3_holder S p1 < 17 from r_X3_holder)) rfl cv_X11_104 (show f_X3_holder S p1 < 17 from r_X3_holder) rfl rfl rfl (rm rfl) ?_
    refine a_seti (fun v4 ev4 => ?_)
    refine a_iload_n (pc := 37) 0 19 rfl rfl ?_
    refine a_icmp_lt (pc := 38) (tgt := 45) 0 20 rfl (by decide) (fun c38_4 => ?_) (fun c38_4 => ?_)
    · refine a_iconst (pc := 45) 0 23 (v := 0) rfl (by decide) ?_
      exact J46_15 _ (by exact ((if_neg c30_2).trans ((lt_eq ev4).trans (if_pos c38_4))))
    · refine a_iconst (pc := 41) 0 21 (v := 1) rfl (by decide) ?_
      refine a_goto (pc := 42) (tgt := 46) 0 22 rfl (by decide) ?_
      exact J46_15 _ (by exact ((if_neg c30_2).trans ((lt_eq ev4).trans (if_neg c38_4))))
theorem c_X11_draw {S : Mem} (p1 : Int32) (p2 : Int32)   (h : ok_X11_draw S p1 p2) : Cts mdX11_draw 4 103 [vr 11 0, vi p1, vi p2] S (Is (some (vi (f_X11_draw S p1 p2).1)) ((f_X11_draw S p1 p2).2)) := Cts.of dtX11_draw (by decide +kernel) rfl rfl (Nat.le_of_ble_eq_true rfl) rfl (fun O G => w_X11_draw p1 p2 h (fun _ _ h9 => ⟨by rw [h9], by rw [h9]⟩))
def okx_X11_draw_1 (S : Mem) (p1 : Int32) (p2 : Int32) : Prop := ((okx_X11_needHolder_1 S p1))
abbrev fqX11_draw_1 : FD := (mdX11_draw, [], 8, 122, 1, 6)
set_option maxRecDepth 100000 in
set_option maxHeartbeats 4000000 in
theorem q_X11_draw_1 {S : Mem} (p1 : Int32) (p2 : Int32)  (h : okx_X11_draw_1 S p1 p2) : Cqs mdX11_draw 8 122 [vr 11 0, vi p1, vi p2] S xIdx := Cqs.of dtX11_draw (by decide +kernel) rfl rfl (Nat.le_of_ble_eq_true rfl) rfl (fun O G => by
  show BW O G fqX11_draw_1 0 0 _ S 0 _ []
  refine a_iload_n (pc := 0) 0 0 rfl rfl ?_
  have o1 := h
  refine a_callSX (pc := 1) 0 1 (q_X11_needHolder_1 (S := S) p1 o1) rfl cs_X11_37 rfl (rm rfl) ?_
  exact a_out rfl (by decide) (by decide))
def okx_X11_draw_2 (S : Mem) (p1 : Int32) (p2 : Int32) : Prop := ((ok_X11_needHolder S p1) ∧ (okx_X11_needRange_1 S p2 1 (nI 10000)))
abbrev fqX11_draw_2 : FD := (mdX11_draw, [], 8, 124, 1, 6)
set_option maxRecDepth 100000 in
set_option maxHeartbeats 4000000 in
theorem q_X11_draw_2 {S : Mem} (p1 : Int32) (p2 : Int32)  (h : okx_X11_draw_2 S p1 p2) : Cqs mdX11_draw 8 124 [vr 11 0, vi p1, vi p2] S xArg := Cqs.of dtX11_draw (by decide +kernel) rfl rfl (Nat.le_of_ble_eq_true rfl) rfl (fun O G => by
  show BW O G fqX11_draw_2 0 0 _ S 0 _ []
  refine a_iload_n (pc := 0) 0 0 rfl rfl ?_
  obtain ⟨o1, h⟩ := h
  refine a_callSv (pc := 1) 0 1 (c_X11_needHolder (S := S) p1 o1) rfl cs_X11_37 rfl (rm rfl) ?_
  refine a_iload_n (pc := 4) 0 2 rfl rfl ?_
  refine a_iconst (pc := 5) 0 3 (v := 1) rfl (by decide) ?_
  refine a_sipush (pc := 6) 0 4 (v := nI 10000) rfl (by decide) ?_
  have o2 := h
  refine a_callSX (pc := 9) 0 5 (q_X11_needRange_1 (S := S) p2 1 (nI 10000) o2) rfl cs_X11_41 rfl (rm rfl) ?_
  exact a_out rfl (by decide) (by decide))
def okx_X11_draw_3 (S : Mem) (p1 : Int32) (p2 : Int32) : Prop := ((ok_X11_needHolder S p1) ∧ (ok_X11_needRange S p2 1 (nI 10000)) ∧ (∀ v6 : Int32, (if (S.1 kBankOf (f_X3_holder S p1)) = (-1) then (0) else (lt (f_X5_free S (f_X3_holder S p1)) (fun (v4 : Int32) => if v4 < p2 then (0) else (1)))) = v6 → ((okx_X11_needState S v6))))
abbrev fqX11_draw_3 : FD := (mdX11_draw, [], 7, 102, 1, 6)
set_option maxRecDepth 100000 in
set_option maxHeartbeats 4000000 in
theorem q_X11_draw_3 {S : Mem} (p1 : Int32) (p2 : Int32)  (h : okx_X11_draw_3 S p1 p2) : Cqs mdX11_draw 7 102 [vr 11 0, vi p1, vi p2] S xSta := Cqs.of dtX11_draw (by decide +kernel) rfl rfl (Nat.le_of_ble_eq_true rfl) rfl (fun O G => by
  show BW O G fqX11_draw_3 0 0 _ S 0 _ []
  refine a_iload_n (pc := 0) 0 0 rfl rfl ?_
  obtain ⟨o1, h⟩ := h
  refine a_callSv (pc := 1) 0 1 (c_X11_needHolder (S := S) p1 o1) rfl cs_X11_37 rfl (rm rfl) ?_
  refine a_iload_n (pc := 4) 0 2 rfl rfl ?_
  refine a_iconst (pc := 5) 0 3 (v := 1) rfl (by decide) ?_
  refine a_sipush (pc := 6) 0 4 (v := nI 10000) rfl (by decide) ?_
  obtain ⟨o2, h⟩ := h
  refine a_callSv (pc := 9) 0 5 (c_X11_needRange (S := S) p2 1 (nI 10000) o2) rfl cs_X11_41 rfl (rm rfl) ?_
  refine a_aload_n (pc := 12) 0 6 rfl rfl ?_
  refine g_11_books (pc := 13) 0 7 rfl fl_X11_10 ?_
  refine a_iload_n (pc := 16) 0 8 rfl rfl ?_
  refine a_callVr (pc := 17) 0 9 (c_X3_holder (S := S) p1) rfl cv_X11_45 (by decide) rfl rfl rfl (rm rfl) ?_
  refine a_astore_n (pc := 20) 0 10 (ls2 := [some (vr 11 0), some (vi p1), some (vi p2), some (vr 5 (f_X3_holder S p1)), none, none]) rfl rfl (by decide) rfl ?_
  refine a_aload_n (pc := 21) 0 11 rfl rfl ?_
  refine g_5_bank (pc := 22) 0 12 rfl (show f_X3_holder S p1 < 17 from r_X3_holder) fl_X11_76 ?_
  refine a_istore (pc := 25) 0 13 (ls2 := [some (vr 11 0), some (vi p1), some (vi p2), some (vr 5 (f_X3_holder S p1)), some (vi (S.1 kBankOf (f_X3_holder S p1))), none]) rfl (by decide) rfl ?_
  refine a_iload (pc := 27) 0 14 rfl rfl ?_
  refine a_iconst (pc := 29) 0 15 (v := (-1)) rfl (by decide) ?_
  have J46_7 : ∀ (v6 : Int32) (ev6 : (if (S.1 kBankOf (f_X3_holder S p1)) = (-1) then (0) else (lt (f_X5_free S (f_X3_holder S p1)) (fun (v4 : Int32) => if v4 < p2 then (0) else (1)))) = v6), BW O G fqX11_draw_3 0 0 (QX O G S xSta) S 46 [some (vr 11 0), some (vi p1), some (vi p2), some (vr 5 (f_X3_holder S p1)), some (vi (S.1 kBankOf (f_X3_holder S p1))), none] [vi v6] := by
    intro v6 ev6
    have h := h v6 ev6
    have o7 := h
    refine a_callSX (pc := 46) 0 24 (q_X11_needState (S := S) v6 (by rw [← ev6]; repeat (first | exact Or.inl rfl | exact Or.inr rfl | assumption | split | dsimp only [lt])) o7) rfl cs_X11_66 rfl (rm rfl) ?_
    exact a_out rfl (by decide) (by decide)
  refine a_icmp_eq (pc := 30) (tgt := 45) 0 16 rfl (by decide) (fun c30_2 => ?_) (fun c30_2 => ?_)
  · refine a_iconst (pc := 45) 0 23 (v := 0) rfl (by decide) ?_
    exact J46_7 _ (by exact (if_pos c30_2))
  · refine a_aload_n (pc := 33) 0 17 rfl rfl ?_
    refine a_callVi (pc := 34) 0 18 (c_X5_free (S := S) (f_X3_holder S p1) (show f_X3_holder S p1 < 17 from r_X3_holder)) rfl cv_X11_104 (show f_X3_holder S p1 < 17 from r_X3_holder) rfl rfl rfl (rm rfl) ?_
    refine a_seti (fun v4 ev4 => ?_)
    refine a_iload_n (pc := 37) 0 19 rfl rfl ?_
    refine a_icmp_lt (pc := 38) (tgt := 45) 0 20 rfl (by decide) (fun c38_4 => ?_) (fun c38_4 => ?_)
    · refine a_iconst (pc := 45) 0 23 (v := 0) rfl (by decide) ?_
      exact J46_7 _ (by exact ((if_neg c30_2).trans ((lt_eq ev4).trans (if_pos c38_4))))
    · refine a_iconst (pc := 41) 0 21 (v := 1) rfl (by decide) ?_
      refine a_goto (pc := 42) (tgt := 46) 0 22 rfl (by decide) ?_
      exact J46_7 _ (by exact ((if_neg c30_2).trans ((lt_eq ev4).trans (if_neg c38_4)))))
def f_X11_pay (S : Mem) (p1 : Int32) (p2 : Int32) (p3 : Int32) : Int32 × Mem := lt (if p1 = p2 then (0) else (1)) (fun (v4 : Int32) => lt (f_X11_canPay S p1 p2 p3) (fun (v7 : Int32) => lt ((f_X10_tell S p1 p2 p3 (-1) (S.1 kDays 0)).2) (fun (S10 : Mem) => lt ((f_X10_tell S p1 p2 p3 (-1) (S.1 kDays 0)).1) (fun (v11 : Int32) => (v11, S10)))))
def ok_X11_pay (S : Mem) (p1 : Int32) (p2 : Int32) (p3 : Int32) : Prop := ((ok_X11_needHolder S p1) ∧ (ok_X11_needHolder S p2) ∧ (∀ v4 : Int32, (if p1 = p2 then (0) else (1)) = v4 → ((ok_X11_needArgument S v4) ∧ (ok_X11_needRange S p3 1 (nI 10000)) ∧ (∀ v7 : Int32, (f_X11_canPay S p1 p2 p3) = v7 → ((ok_X11_needState S v7) ∧ (ok_X10_tell S p1 p2 p3 (-1) (S.1 kDays 0)))))))
abbrev fdX11_pay : FD := (mdX11_pay, [], 4, 96, 0, 0)
set_option maxRecDepth 100000 in
set_option maxHeartbeats 4000000 in
theorem w_X11_pay {O : Om} {G : Cx} {S : Mem} {PP : Option AV → Mem → Prop} (p1 : Int32) (p2 : Int32) (p3 : Int32)   (h : ok_X11_pay S p1 p2 p3) (hP : ∀ x9 S9, f_X11_pay S p1 p2 p3 = (x9, S9) → PP (some (vi x9)) S9) : BW O G fdX11_pay 0 0 (QV O G 0 0 PP) S 0 [some (vr 11 0), some (vi p1), some (vi p2), some (vi p3)] [] := by
  refine a_iload_n (pc := 0) 0 0 rfl rfl ?_
  obtain ⟨o1, h⟩ := h
  refine a_callSv (pc := 1) 0 1 (c_X11_needHolder (S := S) p1 o1) rfl cs_X11_37 rfl (rm rfl) ?_
  refine a_iload_n (pc := 4) 0 2 rfl rfl ?_
  obtain ⟨o2, h⟩ := h
  refine a_callSv (pc := 5) 0 3 (c_X11_needHolder (S := S) p2 o2) rfl cs_X11_37 rfl (rm rfl) ?_
  refine a_iload_n (pc := 8) 0 4 rfl rfl ?_
  refine a_iload_n (pc := 9) 0 5 rfl rfl ?_
  have J18_11 : ∀ (v4 : Int32) (ev4 : (if p1 = p2 then (0) else (1)) = v4), BW O G fdX11_pay 0 0 (QV O G 0 0 PP) S 18 [some (vr 11 0), some (vi p1), some (vi p2), some (vi p3)] [vi v4] := by
    intro v4 ev4
    have h := h v4 ev4
    obtain ⟨o5, h⟩ := h
    refine a_callSv (pc := 18) 0 10 (c_X11_needArgument (S := S) v4 (by rw [← ev4]; repeat (first | exact Or.inl rfl | exact Or.inr rfl | assumption | split | dsimp only [lt])) o5) rfl cs_X11_62 rfl (rm rfl) ?_
    refine a_iload_n (pc := 21) 0 11 rfl rfl ?_
    refine a_iconst (pc := 22) 0 12 (v := 1) rfl (by decide) ?_
    refine a_sipush (pc := 23) 0 13 (v := nI 10000) rfl (by decide) ?_
    obtain ⟨o6, h⟩ := h
    refine a_callSv (pc := 26) 0 14 (c_X11_needRange (S := S) p3 1 (nI 10000) o6) rfl cs_X11_41 rfl (rm rfl) ?_
    refine a_aload_n (pc := 29) 0 15 rfl rfl ?_
    refine a_iload_n (pc := 30) 0 16 rfl rfl ?_
    refine a_iload_n (pc := 31) 0 17 rfl rfl ?_
    refine a_iload_n (pc := 32) 0 18 rfl rfl ?_
    refine a_callVi (pc := 33) 0 19 (c_X11_canPay (S := S) p1 p2 p3) rfl cv_X11_115 (by decide) rfl rfl rfl (rm rfl) ?_
    refine a_seti (fun v7 ev7 => ?_)
    have h := h v7 ev7
    obtain ⟨o8, h⟩ := h
    refine a_callSv (pc := 36) 0 20 (c_X11_needState (S := S) v7 (ev7 ▸ b_X11_canPay ..) o8) rfl cs_X11_66 rfl (rm rfl) ?_
    refine a_aload_n (pc := 39) 0 21 rfl rfl ?_
    refine g_11_payments (pc := 40) 0 22 rfl fl_X11_19 ?_
    refine a_aload_n (pc := 43) 0 23 rfl rfl ?_
    refine g_11_books (pc := 44) 0 24 rfl fl_X11_10 ?_
    refine a_iload_n (pc := 47) 0 25 rfl rfl ?_
    refine a_iload_n (pc := 48) 0 26 rfl rfl ?_
    refine a_iload_n (pc := 49) 0 27 rfl rfl ?_
    refine a_iconst (pc := 50) 0 28 (v := (-1)) rfl (by decide) ?_
    refine a_aload_n (pc := 51) 0 29 rfl rfl ?_
    refine g_11_today (pc := 52) 0 30 rfl fl_X11_119 ?_
    have o9 := h
    refine a_callVi (pc := 55) 0 31 (c_X10_tell (S := S) p1 p2 p3 (-1) (S.1 kDays 0) o9) rfl cv_X11_122 (by decide) rfl rfl rfl (rm rfl) ?_
    refine a_set (fun S10 eS10 => ?_)
    refine a_seti (fun v11 ev11 => ?_)
    exact a_iret (pc := 58) 0 32 rfl rfl (hP _ _ (by unfold f_X11_pay; exact (lt_eq ev4).trans ((lt_eq ev7).trans ((lt_eq eS10).trans (lt_eq ev11)))))
  refine a_icmp_eq (pc := 10) (tgt := 17) 0 6 rfl (by decide) (fun c10_2 => ?_) (fun c10_2 => ?_)
  · refine a_iconst (pc := 17) 0 9 (v := 0) rfl (by decide) ?_
    exact J18_11 _ (by exact (if_pos c10_2))
  · refine a_iconst (pc := 13) 0 7 (v := 1) rfl (by decide) ?_
    refine a_goto (pc := 14) (tgt := 18) 0 8 rfl (by decide) ?_
    exact J18_11 _ (by exact (if_neg c10_2))
theorem c_X11_pay {S : Mem} (p1 : Int32) (p2 : Int32) (p3 : Int32)   (h : ok_X11_pay S p1 p2 p3) : Cts mdX11_pay 4 96 [vr 11 0, vi p1, vi p2, vi p3] S (Is (some (vi (f_X11_pay S p1 p2 p3).1)) ((f_X11_pay S p1 p2 p3).2)) := Cts.of dtX11_pay (by decide +kernel) rfl rfl (Nat.le_of_ble_eq_true rfl) rfl (fun O G => w_X11_pay p1 p2 p3 h (fun _ _ h9 => ⟨by rw [h9], by rw [h9]⟩))
def okx_X11_pay_1 (S : Mem) (p1 : Int32) (p2 : Int32) (p3 : Int32) : Prop := ((okx_X11_needHolder_1 S p1))
abbrev fqX11_pay_1 : FD := (mdX11_pay, [], 8, 122, 1, 6)
set_option maxRecDepth 100000 in
set_option maxHeartbeats 4000000 in
theorem q_X11_pay_1 {S : Mem} (p1 : Int32) (p2 : Int32) (p3 : Int32)  (h : okx_X11_pay_1 S p1 p2 p3) : Cqs mdX11_pay 8 122 [vr 11 0, vi p1, vi p2, vi p3] S xIdx := Cqs.of dtX11_pay (by decide +kernel) rfl rfl (Nat.le_of_ble_eq_true rfl) rfl (fun O G => by
  show BW O G fqX11_pay_1 0 0 _ S 0 _ []
  refine a_iload_n (pc := 0) 0 0 rfl rfl ?_
  have o1 := h
  refine a_callSX (pc := 1) 0 1 (q_X11_needHolder_1 (S := S) p1 o1) rfl cs_X11_37 rfl (rm rfl) ?_
  exact a_out rfl (by decide) (by decide))
def okx_X11_pay_2 (S : Mem) (p1 : Int32) (p2 : Int32) (p3 : Int32) : Prop := ((ok_X11_needHolder S p1) ∧ (okx_X11_needHolder_1 S p2))
abbrev fqX11_pay_2 : FD := (mdX11_pay, [], 8, 122, 1, 6)
set_option maxRecDepth 100000 in
set_option maxHeartbeats 4000000 in
theorem q_X11_pay_2 {S : Mem} (p1 : Int32) (p2 : Int32) (p3 : Int32)  (h : okx_X11_pay_2 S p1 p2 p3) : Cqs mdX11_pay 8 122 [vr 11 0, vi p1, vi p2, vi p3] S xIdx := Cqs.of dtX11_pay (by decide +kernel) rfl rfl (Nat.le_of_ble_eq_true rfl) rfl (fun O G => by
  show BW O G fqX11_pay_2 0 0 _ S 0 _ []
  refine a_iload_n (pc := 0) 0 0 rfl rfl ?_
  obtain ⟨o1, h⟩ := h
  refine a_callSv (pc := 1) 0 1 (c_X11_needHolder (S := S) p1 o1) rfl cs_X11_37 rfl (rm rfl) ?_
  refine a_iload_n (pc := 4) 0 2 rfl rfl ?_
  have o2 := h
  refine a_callSX (pc := 5) 0 3 (q_X11_needHolder_1 (S := S) p2 o2) rfl cs_X11_37 rfl (rm rfl) ?_
  exact a_out rfl (by decide) (by decide))
def okx_X11_pay_3 (S : Mem) (p1 : Int32) (p2 : Int32) (p3 : Int32) : Prop := ((ok_X11_needHolder S p1) ∧ (ok_X11_needHolder S p2) ∧ (∀ v4 : Int32, (if p1 = p2 then (0) else (1)) = v4 → ((okx_X11_needArgument S v4))))
abbrev fqX11_pay_3 : FD := (mdX11_pay, [], 7, 102, 1, 6)
set_option maxRecDepth 100000 in
set_option maxHeartbeats 4000000 in
theorem q_X11_pay_3 {S : Mem} (p1 : Int32) (p2 : Int32) (p3 : Int32)  (h : okx_X11_pay_3 S p1 p2 p3) : Cqs mdX11_pay 7 102 [vr 11 0, vi p1, vi p2, vi p3] S xArg := Cqs.of dtX11_pay (by decide +kernel) rfl rfl (Nat.le_of_ble_eq_true rfl) rfl (fun O G => by
  show BW O G fqX11_pay_3 0 0 _ S 0 _ []
  refine a_iload_n (pc := 0) 0 0 rfl rfl ?_
  obtain ⟨o1, h⟩ := h
  refine a_callSv (pc := 1) 0 1 (c_X11_needHolder (S := S) p1 o1) rfl cs_X11_37 rfl (rm rfl) ?_
  refine a_iload_n (pc := 4) 0 2 rfl rfl ?_
  obtain ⟨o2, h⟩ := h
  refine a_callSv (pc := 5) 0 3 (c_X11_needHolder (S := S) p2 o2) rfl cs_X11_37 rfl (rm rfl) ?_
  refine a_iload_n (pc := 8) 0 4 rfl rfl ?_
  refine a_iload_n (pc := 9) 0 5 rfl rfl ?_
  have J18_5 : ∀ (v4 : Int32) (ev4 : (if p1 = p2 then (0) else (1)) = v4), BW O G fqX11_pay_3 0 0 (QX O G S xArg) S 18 [some (vr 11 0), some (vi p1), some (vi p2), some (vi p3)] [vi v4] := by
    intro v4 ev4
    have h := h v4 ev4
    have o5 := h
    refine a_callSX (pc := 18) 0 10 (q_X11_needArgument (S := S) v4 (by rw [← ev4]; repeat (first | exact Or.inl rfl | exact Or.inr rfl | assumption | split | dsimp only [lt])) o5) rfl cs_X11_62 rfl (rm rfl) ?_
    exact a_out rfl (by decide) (by decide)
  refine a_icmp_eq (pc := 10) (tgt := 17) 0 6 rfl (by decide) (fun c10_2 => ?_) (fun c10_2 => ?_)
  · refine a_iconst (pc := 17) 0 9 (v := 0) rfl (by decide) ?_
    exact J18_5 _ (by exact (if_pos c10_2))
  · refine a_iconst (pc := 13) 0 7 (v := 1) rfl (by decide) ?_
    refine a_goto (pc := 14) (tgt := 18) 0 8 rfl (by decide) ?_
    exact J18_5 _ (by exact (if_neg c10_2)))
def okx_X11_pay_4 (S : Mem) (p1 : Int32) (p2 : Int32) (p3 : Int32) : Prop := ((ok_X11_needHolder S p1) ∧ (ok_X11_needHolder S p2) ∧ (∀ v4 : Int32, (if p1 = p2 then (0) else (1)) = v4 → ((ok_X11_needArgument S v4) ∧ (okx_X11_needRange_1 S p3 1 (nI 10000)))))
abbrev fqX11_pay_4 : FD := (mdX11_pay, [], 8, 124, 1, 6)
set_option maxRecDepth 100000 in
set_option maxHeartbeats 4000000 in
theorem q_X11_pay_4 {S : Mem} (p1 : Int32) (p2 : Int32) (p3 : Int32)  (h : okx_X11_pay_4 S p1 p2 p3) : Cqs mdX11_pay 8 124 [vr 11 0, vi p1, vi p2, vi p3] S xArg := Cqs.of dtX11_pay (by decide +kernel) rfl rfl (Nat.le_of_ble_eq_true rfl) rfl (fun O G => by
  show BW O G fqX11_pay_4 0 0 _ S 0 _ []
  refine a_iload_n (pc := 0) 0 0 rfl rfl ?_
  obtain ⟨o1, h⟩ := h
  refine a_callSv (pc := 1) 0 1 (c_X11_needHolder (S := S) p1 o1) rfl cs_X11_37 rfl (rm rfl) ?_
  refine a_iload_n (pc := 4) 0 2 rfl rfl ?_
  obtain ⟨o2, h⟩ := h
  refine a_callSv (pc := 5) 0 3 (c_X11_needHolder (S := S) p2 o2) rfl cs_X11_37 rfl (rm rfl) ?_
  refine a_iload_n (pc := 8) 0 4 rfl rfl ?_
  refine a_iload_n (pc := 9) 0 5 rfl rfl ?_
  have J18_6 : ∀ (v4 : Int32) (ev4 : (if p1 = p2 then (0) else (1)) = v4), BW O G fqX11_pay_4 0 0 (QX O G S xArg) S 18 [some (vr 11 0), some (vi p1), some (vi p2), some (vi p3)] [vi v4] := by
    intro v4 ev4
    have h := h v4 ev4
    obtain ⟨o5, h⟩ := h
    refine a_callSv (pc := 18) 0 10 (c_X11_needArgument (S := S) v4 (by rw [← ev4]; repeat (first | exact Or.inl rfl | exact Or.inr rfl | assumption | split | dsimp only [lt])) o5) rfl cs_X11_62 rfl (rm rfl) ?_
    refine a_iload_n (pc := 21) 0 11 rfl rfl ?_
    refine a_iconst (pc := 22) 0 12 (v := 1) rfl (by decide) ?_
    refine a_sipush (pc := 23) 0 13 (v := nI 10000) rfl (by decide) ?_
    have o6 := h
    refine a_callSX (pc := 26) 0 14 (q_X11_needRange_1 (S := S) p3 1 (nI 10000) o6) rfl cs_X11_41 rfl (rm rfl) ?_
    exact a_out rfl (by decide) (by decide)
  refine a_icmp_eq (pc := 10) (tgt := 17) 0 6 rfl (by decide) (fun c10_2 => ?_) (fun c10_2 => ?_)
  · refine a_iconst (pc := 17) 0 9 (v := 0) rfl (by decide) ?_
    exact J18_6 _ (by exact (if_pos c10_2))
  · refine a_iconst (pc := 13) 0 7 (v := 1) rfl (by decide) ?_
    refine a_goto (pc := 14) (tgt := 18) 0 8 rfl (by decide) ?_
    exact J18_6 _ (by exact (if_neg c10_2)))
def okx_X11_pay_5 (S : Mem) (p1 : Int32) (p2 : Int32) (p3 : Int32) : Prop := ((ok_X11_needHolder S p1) ∧ (ok_X11_needHolder S p2) ∧ (∀ v4 : Int32, (if p1 = p2 then (0) else (1)) = v4 → ((ok_X11_needArgument S v4) ∧ (ok_X11_needRange S p3 1 (nI 10000)) ∧ (∀ v7 : Int32, (f_X11_canPay S p1 p2 p3) = v7 → ((okx_X11_needState S v7))))))
abbrev fqX11_pay_5 : FD := (mdX11_pay, [], 7, 102, 1, 6)
set_option maxRecDepth 100000 in
set_option maxHeartbeats 4000000 in
theorem q_X11_pay_5 {S : Mem} (p1 : Int32) (p2 : Int32) (p3 : Int32)  (h : okx_X11_pay_5 S p1 p2 p3) : Cqs mdX11_pay 7 102 [vr 11 0, vi p1, vi p2, vi p3] S xSta := Cqs.of dtX11_pay (by decide +kernel) rfl rfl (Nat.le_of_ble_eq_true rfl) rfl (fun O G => by
  show BW O G fqX11_pay_5 0 0 _ S 0 _ []
  refine a_iload_n (pc := 0) 0 0 rfl rfl ?_
  obtain ⟨o1, h⟩ := h
  refine a_callSv (pc := 1) 0 1 (c_X11_needHolder (S := S) p1 o1) rfl cs_X11_37 rfl (rm rfl) ?_
  refine a_iload_n (pc := 4) 0 2 rfl rfl ?_
  obtain ⟨o2, h⟩ := h
  refine a_callSv (pc := 5) 0 3 (c_X11_needHolder (S := S) p2 o2) rfl cs_X11_37 rfl (rm rfl) ?_
  refine a_iload_n (pc := 8) 0 4 rfl rfl ?_
  refine a_iload_n (pc := 9) 0 5 rfl rfl ?_
  have J18_8 : ∀ (v4 : Int32) (ev4 : (if p1 = p2 then (0) else (1)) = v4), BW O G fqX11_pay_5 0 0 (QX O G S xSta) S 18 [some (vr 11 0), some (vi p1), some (vi p2), some (vi p3)] [vi v4] := by
    intro v4 ev4
    have h := h v4 ev4
    obtain ⟨o5, h⟩ := h
    refine a_callSv (pc := 18) 0 10 (c_X11_needArgument (S := S) v4 (by rw [← ev4]; repeat (first | exact Or.inl rfl | exact Or.inr rfl | assumption | split | dsimp only [lt])) o5) rfl cs_X11_62 rfl (rm rfl) ?_
    refine a_iload_n (pc := 21) 0 11 rfl rfl ?_
    refine a_iconst (pc := 22) 0 12 (v := 1) rfl (by decide) ?_
    refine a_sipush (pc := 23) 0 13 (v := nI 10000) rfl (by decide) ?_
    obtain ⟨o6, h⟩ := h
    refine a_callSv (pc := 26) 0 14 (c_X11_needRange (S := S) p3 1 (nI 10000) o6) rfl cs_X11_41 rfl (rm rfl) ?_
    refine a_aload_n (pc := 29) 0 15 rfl rfl ?_
    refine a_iload_n (pc := 30) 0 16 rfl rfl ?_
    refine a_iload_n (pc := 31) 0 17 rfl rfl ?_
    refine a_iload_n (pc := 32) 0 18 rfl rfl ?_
    refine a_callVi (pc := 33) 0 19 (c_X11_canPay (S := S) p1 p2 p3) rfl cv_X11_115 (by decide) rfl rfl rfl (rm rfl) ?_
    refine a_seti (fun v7 ev7 => ?_)
    have h := h v7 ev7
    have o8 := h
    refine a_callSX (pc := 36) 0 20 (q_X11_needState (S := S) v7 (ev7 ▸ b_X11_canPay ..) o8) rfl cs_X11_66 rfl (rm rfl) ?_
    exact a_out rfl (by decide) (by decide)
  refine a_icmp_eq (pc := 10) (tgt := 17) 0 6 rfl (by decide) (fun c10_2 => ?_) (fun c10_2 => ?_)
  · refine a_iconst (pc := 17) 0 9 (v := 0) rfl (by decide) ?_
    exact J18_8 _ (by exact (if_pos c10_2))
  · refine a_iconst (pc := 13) 0 7 (v := 1) rfl (by decide) ?_
    refine a_goto (pc := 14) (tgt := 18) 0 8 rfl (by decide) ?_
    exact J18_8 _ (by exact (if_neg c10_2)))
def f_X11_clear (S : Mem)  : Int32 × Mem := lt ((f_X10_clearAll S (S.1 kDays 0)).2) (fun (S2 : Mem) => lt ((f_X10_clearAll S (S.1 kDays 0)).1) (fun (v3 : Int32) => (v3, S2)))
def ok_X11_clear (S : Mem)  : Prop := ((ok_X10_clearAll S (S.1 kDays 0)))
abbrev fdX11_clear : FD := (mdX11_clear, [], 5, 117, 0, 0)
set_option maxRecDepth 100000 in
set_option maxHeartbeats 4000000 in
theorem w_X11_clear {O : Om} {G : Cx} {S : Mem} {PP : Option AV → Mem → Prop}    (h : ok_X11_clear S ) (hP : ∀ x9 S9, f_X11_clear S  = (x9, S9) → PP (some (vi x9)) S9) : BW O G fdX11_clear 0 0 (QV O G 0 0 PP) S 0 [some (vr 11 0)] [] := by
  refine a_aload_n (pc := 0) 0 0 rfl rfl ?_
  refine g_11_payments (pc := 1) 0 1 rfl fl_X11_19 ?_
  refine a_aload_n (pc := 4) 0 2 rfl rfl ?_
  refine g_11_books (pc := 5) 0 3 rfl fl_X11_10 ?_
  refine a_aload_n (pc := 8) 0 4 rfl rfl ?_
  refine g_11_today (pc := 9) 0 5 rfl fl_X11_119 ?_
  have o1 := h
  refine a_callVi (pc := 12) 0 6 (c_X10_clearAll (S := S) (S.1 kDays 0) o1) rfl cv_X11_126 (by decide) rfl rfl rfl (rm rfl) ?_
  refine a_set (fun S2 eS2 => ?_)
  refine a_seti (fun v3 ev3 => ?_)
  exact a_iret (pc := 15) 0 7 rfl rfl (hP _ _ (by unfold f_X11_clear; exact (lt_eq eS2).trans (lt_eq ev3)))
theorem c_X11_clear {S : Mem}    (h : ok_X11_clear S ) : Cts mdX11_clear 5 117 [vr 11 0] S (Is (some (vi (f_X11_clear S ).1)) ((f_X11_clear S ).2)) := Cts.of dtX11_clear (by decide +kernel) rfl rfl (Nat.le_of_ble_eq_true rfl) rfl (fun O G => w_X11_clear  h (fun _ _ h9 => ⟨by rw [h9], by rw [h9]⟩))
def f_X11_limit (S : Mem) (p1 : Int32) (p2 : Int32) : Int32 × Mem := lt ((upd2 S.1 kLimits (f_X3_bank S p1) p2, S.2)) (fun (S3 : Mem) => (S.1 kLimits (f_X3_bank S p1), S3))
def ok_X11_limit (S : Mem) (p1 : Int32) (p2 : Int32) : Prop := ((ok_X11_needBank S p1) ∧ (ok_X11_needRange S p2 0 (nI 10000)))
abbrev fdX11_limit : FD := (mdX11_limit, [], 2, 42, 0, 0)
set_option maxRecDepth 100000 in
set_option maxHeartbeats 4000000 in
theorem w_X11_limit {O : Om} {G : Cx} {S : Mem} {PP : Option AV → Mem → Prop} (p1 : Int32) (p2 : Int32)   (h : ok_X11_limit S p1 p2) (hP : ∀ x9 S9, f_X11_limit S p1 p2 = (x9, S9) → PP (some (vi x9)) S9) : BW O G fdX11_limit 0 0 (QV O G 0 0 PP) S 0 [some (vr 11 0), some (vi p1), some (vi p2), none, none] [] := by
  refine a_iload_n (pc := 0) 0 0 rfl rfl ?_
  obtain ⟨o1, h⟩ := h
  refine a_callSv (pc := 1) 0 1 (c_X11_needBank (S := S) p1 o1) rfl cs_X11_73 rfl (rm rfl) ?_
  refine a_iload_n (pc := 4) 0 2 rfl rfl ?_
  refine a_iconst (pc := 5) 0 3 (v := 0) rfl (by decide) ?_
  refine a_sipush (pc := 6) 0 4 (v := nI 10000) rfl (by decide) ?_
  have o2 := h
  refine a_callSv (pc := 9) 0 5 (c_X11_needRange (S := S) p2 0 (nI 10000) o2) rfl cs_X11_41 rfl (rm rfl) ?_
  refine a_aload_n (pc := 12) 0 6 rfl rfl ?_
  refine g_11_books (pc := 13) 0 7 rfl fl_X11_10 ?_
  refine a_iload_n (pc := 16) 0 8 rfl rfl ?_
  refine a_callVr (pc := 17) 0 9 (c_X3_bank (S := S) p1) rfl cv_X11_79 (by decide) rfl rfl rfl (rm rfl) ?_
  refine a_astore_n (pc := 20) 0 10 (ls2 := [some (vr 11 0), some (vi p1), some (vi p2), some (vr 0 (f_X3_bank S p1)), none]) rfl rfl (by decide) rfl ?_
  refine a_aload_n (pc := 21) 0 11 rfl rfl ?_
  refine g_0_limit (pc := 22) 0 12 rfl (show f_X3_bank S p1 < 5 from r_X3_bank) fl_X11_130 ?_
  refine a_istore (pc := 25) 0 13 (ls2 := [some (vr 11 0), some (vi p1), some (vi p2), some (vr 0 (f_X3_bank S p1)), some (vi (S.1 kLimits (f_X3_bank S p1)))]) rfl (by decide) rfl ?_
  refine a_aload_n (pc := 27) 0 14 rfl rfl ?_
  refine a_iload_n (pc := 28) 0 15 rfl rfl ?_
  refine p_0_limit (pc := 29) 0 16 rfl (show f_X3_bank S p1 < 5 from r_X3_bank) fl_X11_130 ?_
  refine a_set (fun S3 eS3 => ?_)
  refine a_iload (pc := 32) 0 17 rfl rfl ?_
  exact a_iret (pc := 34) 0 18 rfl rfl (hP _ _ (by unfold f_X11_limit; exact lt_eq eS3))
theorem c_X11_limit {S : Mem} (p1 : Int32) (p2 : Int32)   (h : ok_X11_limit S p1 p2) : Cts mdX11_limit 2 42 [vr 11 0, vi p1, vi p2] S (Is (some (vi (f_X11_limit S p1 p2).1)) ((f_X11_limit S p1 p2).2)) := Cts.of dtX11_limit (by decide +kernel) rfl rfl (Nat.le_of_ble_eq_true rfl) rfl (fun O G => w_X11_limit p1 p2 h (fun _ _ h9 => ⟨by rw [h9], by rw [h9]⟩))
def okx_X11_limit_1 (S : Mem) (p1 : Int32) (p2 : Int32) : Prop := ((okx_X11_needBank_1 S p1))
abbrev fqX11_limit_1 : FD := (mdX11_limit, [], 8, 122, 1, 6)
set_option maxRecDepth 100000 in
set_option maxHeartbeats 4000000 in
theorem q_X11_limit_1 {S : Mem} (p1 : Int32) (p2 : Int32)  (h : okx_X11_limit_1 S p1 p2) : Cqs mdX11_limit 8 122 [vr 11 0, vi p1, vi p2] S xIdx := Cqs.of dtX11_limit (by decide +kernel) rfl rfl (Nat.le_of_ble_eq_true rfl) rfl (fun O G => by
  show BW O G fqX11_limit_1 0 0 _ S 0 _ []
  refine a_iload_n (pc := 0) 0 0 rfl rfl ?_
  have o1 := h
  refine a_callSX (pc := 1) 0 1 (q_X11_needBank_1 (S := S) p1 o1) rfl cs_X11_73 rfl (rm rfl) ?_
  exact a_out rfl (by decide) (by decide))
def okx_X11_limit_2 (S : Mem) (p1 : Int32) (p2 : Int32) : Prop := ((ok_X11_needBank S p1) ∧ (okx_X11_needRange_1 S p2 0 (nI 10000)))
abbrev fqX11_limit_2 : FD := (mdX11_limit, [], 8, 124, 1, 6)
set_option maxRecDepth 100000 in
set_option maxHeartbeats 4000000 in
theorem q_X11_limit_2 {S : Mem} (p1 : Int32) (p2 : Int32)  (h : okx_X11_limit_2 S p1 p2) : Cqs mdX11_limit 8 124 [vr 11 0, vi p1, vi p2] S xArg := Cqs.of dtX11_limit (by decide +kernel) rfl rfl (Nat.le_of_ble_eq_true rfl) rfl (fun O G => by
  show BW O G fqX11_limit_2 0 0 _ S 0 _ []
  refine a_iload_n (pc := 0) 0 0 rfl rfl ?_
  obtain ⟨o1, h⟩ := h
  refine a_callSv (pc := 1) 0 1 (c_X11_needBank (S := S) p1 o1) rfl cs_X11_73 rfl (rm rfl) ?_
  refine a_iload_n (pc := 4) 0 2 rfl rfl ?_
  refine a_iconst (pc := 5) 0 3 (v := 0) rfl (by decide) ?_
  refine a_sipush (pc := 6) 0 4 (v := nI 10000) rfl (by decide) ?_
  have o2 := h
  refine a_callSX (pc := 9) 0 5 (q_X11_needRange_1 (S := S) p2 0 (nI 10000) o2) rfl cs_X11_41 rfl (rm rfl) ?_
  exact a_out rfl (by decide) (by decide))
def f_X11_endow (S : Mem) (p1 : Int32) (p2 : Int32) : Int32 × Mem := lt (if (S.1 kHaveFailed (f_X3_bank S p1)) = 0 then (1) else (0)) (fun (v4 : Int32) => lt ((upd2 S.1 kReserves (f_X3_bank S p1) ((S.1 kReserves (f_X3_bank S p1)) + p2), S.2)) (fun (S6 : Mem) => lt (f_X3_noteCentral S6 (-p2)) (fun (S8 : Mem) => (S8.1 kReserves (f_X3_bank S p1), S8))))
def ok_X11_endow (S : Mem) (p1 : Int32) (p2 : Int32) : Prop := ((ok_X11_needBank S p1) ∧ (ok_X11_needRange S p2 1 (nI 10000)) ∧ (∀ v4 : Int32, (if (S.1 kHaveFailed (f_X3_bank S p1)) = 0 then (1) else (0)) = v4 → ((ok_X11_needState S v4) ∧ (∀ S6 : Mem, ((upd2 S.1 kReserves (f_X3_bank S p1) ((S.1 kReserves (f_X3_bank S p1)) + p2), S.2)) = S6 → ((ok_X3_noteCentral S6 (-p2)))))))
abbrev fdX11_endow : FD := (mdX11_endow, [], 2, 44, 0, 0)
set_option maxRecDepth 100000 in
set_option maxHeartbeats 4000000 in
theorem w_X11_endow {O : Om} {G : Cx} {S : Mem} {PP : Option AV → Mem → Prop} (p1 : Int32) (p2 : Int32)   (h : ok_X11_endow S p1 p2) (hP : ∀ x9 S9, f_X11_endow S p1 p2 = (x9, S9) → PP (some (vi x9)) S9) : BW O G fdX11_endow 0 0 (QV O G 0 0 PP) S 0 [some (vr 11 0), some (vi p1), some (vi p2), none] [] := by
  refine a_iload_n (pc := 0) 0 0 rfl rfl ?_
  obtain ⟨o1, h⟩ := h
  refine a_callSv (pc := 1) 0 1 (c_X11_needBank (S := S) p1 o1) rfl cs_X11_73 rfl (rm rfl) ?_
  refine a_iload_n (pc := 4) 0 2 rfl rfl ?_
  refine a_iconst (pc := 5) 0 3 (v := 1) rfl (by decide) ?_
  refine a_sipush (pc := 6) 0 4 (v := nI 10000) rfl (by decide) ?_
  obtain ⟨o2, h⟩ := h
  refine a_callSv (pc := 9) 0 5 (c_X11_needRange (S := S) p2 1 (nI 10000) o2) rfl cs_X11_41 rfl (rm rfl) ?_
  refine a_aload_n (pc := 12) 0 6 rfl rfl ?_
  refine g_11_books (pc := 13) 0 7 rfl fl_X11_10 ?_
  refine a_iload_n (pc := 16) 0 8 rfl rfl ?_
  refine a_callVr (pc := 17) 0 9 (c_X3_bank (S := S) p1) rfl cv_X11_79 (by decide) rfl rfl rfl (rm rfl) ?_
  refine a_astore_n (pc := 20) 0 10 (ls2 := [some (vr 11 0), some (vi p1), some (vi p2), some (vr 0 (f_X3_bank S p1))]) rfl rfl (by decide) rfl ?_
  refine a_aload_n (pc := 21) 0 11 rfl rfl ?_
  refine g_0_hasFailed (pc := 22) 0 12 rfl (show f_X3_bank S p1 < 5 from r_X3_bank) fl_X11_82 ?_
  have J33_8 : ∀ (v4 : Int32) (ev4 : (if (S.1 kHaveFailed (f_X3_bank S p1)) = 0 then (1) else (0)) = v4), BW O G fdX11_endow 0 0 (QV O G 0 0 PP) S 33 [some (vr 11 0), some (vi p1), some (vi p2), some (vr 0 (f_X3_bank S p1))] [vi v4] := by
    intro v4 ev4
    have h := h v4 ev4
    obtain ⟨o5, h⟩ := h
    refine a_callSv (pc := 33) 0 17 (c_X11_needState (S := S) v4 (by rw [← ev4]; repeat (first | exact Or.inl rfl | exact Or.inr rfl | assumption | split | dsimp only [lt])) o5) rfl cs_X11_66 rfl (rm rfl) ?_
    refine a_aload_n (pc := 36) 0 18 rfl rfl ?_
    refine a_dup (pc := 37) 0 19 rfl rfl ?_
    refine g_0_reserves (pc := 38) 0 20 rfl (show f_X3_bank S p1 < 5 from r_X3_bank) fl_X11_133 ?_
    refine a_iload_n (pc := 41) 0 21 rfl rfl ?_
    refine a_iadd (pc := 42) 0 22 rfl ?_
    refine p_0_reserves (pc := 43) 0 23 rfl (show f_X3_bank S p1 < 5 from r_X3_bank) fl_X11_133 ?_
    refine a_set (fun S6 eS6 => ?_)
    have h := h S6 eS6
    refine a_aload_n (pc := 46) 0 24 rfl rfl ?_
    refine g_11_books (pc := 47) 0 25 rfl fl_X11_10 ?_
    refine a_iload_n (pc := 50) 0 26 rfl rfl ?_
    refine a_ineg (pc := 51) 0 27 rfl ?_
    have o7 := h
    refine a_callVv (pc := 52) 0 28 (c_X3_noteCentral (S := S6) (-p2) o7) rfl cv_X11_55 (by decide) rfl rfl rfl (rm rfl) ?_
    refine a_set (fun S8 eS8 => ?_)
    refine a_aload_n (pc := 55) 0 29 rfl rfl ?_
    refine g_0_reserves (pc := 56) 0 30 rfl (show f_X3_bank S p1 < 5 from r_X3_bank) fl_X11_133 ?_
    exact a_iret (pc := 59) 0 31 rfl rfl (hP _ _ (by unfold f_X11_endow; exact (lt_eq ev4).trans ((lt_eq eS6).trans (lt_eq eS8))))
  refine a_if_ne (pc := 25) (tgt := 32) 0 13 rfl (by decide) (fun c25_2 => ?_) (fun c25_2 => ?_)
  · refine a_iconst (pc := 32) 0 16 (v := 0) rfl (by decide) ?_
    exact J33_8 _ (by exact (if_neg c25_2))
  · refine a_iconst (pc := 28) 0 14 (v := 1) rfl (by decide) ?_
    refine a_goto (pc := 29) (tgt := 33) 0 15 rfl (by decide) ?_
    exact J33_8 _ (by exact (if_pos c25_2))
theorem c_X11_endow {S : Mem} (p1 : Int32) (p2 : Int32)   (h : ok_X11_endow S p1 p2) : Cts mdX11_endow 2 44 [vr 11 0, vi p1, vi p2] S (Is (some (vi (f_X11_endow S p1 p2).1)) ((f_X11_endow S p1 p2).2)) := Cts.of dtX11_endow (by decide +kernel) rfl rfl (Nat.le_of_ble_eq_true rfl) rfl (fun O G => w_X11_endow p1 p2 h (fun _ _ h9 => ⟨by rw [h9], by rw [h9]⟩))
def okx_X11_endow_1 (S : Mem) (p1 : Int32) (p2 : Int32) : Prop := ((okx_X11_needBank_1 S p1))
abbrev fqX11_endow_1 : FD := (mdX11_endow, [], 8, 122, 1, 6)
set_option maxRecDepth 100000 in
set_option maxHeartbeats 4000000 in
theorem q_X11_endow_1 {S : Mem} (p1 : Int32) (p2 : Int32)  (h : okx_X11_endow_1 S p1 p2) : Cqs mdX11_endow 8 122 [vr 11 0, vi p1, vi p2] S xIdx := Cqs.of dtX11_endow (by decide +kernel) rfl rfl (Nat.le_of_ble_eq_true rfl) rfl (fun O G => by
  show BW O G fqX11_endow_1 0 0 _ S 0 _ []
  refine a_iload_n (pc := 0) 0 0 rfl rfl ?_
  have o1 := h
  refine a_callSX (pc := 1) 0 1 (q_X11_needBank_1 (S := S) p1 o1) rfl cs_X11_73 rfl (rm rfl) ?_
  exact a_out rfl (by decide) (by decide))
def okx_X11_endow_2 (S : Mem) (p1 : Int32) (p2 : Int32) : Prop := ((ok_X11_needBank S p1) ∧ (okx_X11_needRange_1 S p2 1 (nI 10000)))
abbrev fqX11_endow_2 : FD := (mdX11_endow, [], 8, 124, 1, 6)
set_option maxRecDepth 100000 in
set_option maxHeartbeats 4000000 in
theorem q_X11_endow_2 {S : Mem} (p1 : Int32) (p2 : Int32)  (h : okx_X11_endow_2 S p1 p2) : Cqs mdX11_endow 8 124 [vr 11 0, vi p1, vi p2] S xArg := Cqs.of dtX11_endow (by decide +kernel) rfl rfl (Nat.le_of_ble_eq_true rfl) rfl (fun O G => by
  show BW O G fqX11_endow_2 0 0 _ S 0 _ []
  refine a_iload_n (pc := 0) 0 0 rfl rfl ?_
  obtain ⟨o1, h⟩ := h
  refine a_callSv (pc := 1) 0 1 (c_X11_needBank (S := S) p1 o1) rfl cs_X11_73 rfl (rm rfl) ?_
  refine a_iload_n (pc := 4) 0 2 rfl rfl ?_
  refine a_iconst (pc := 5) 0 3 (v := 1) rfl (by decide) ?_
  refine a_sipush (pc := 6) 0 4 (v := nI 10000) rfl (by decide) ?_
  have o2 := h
  refine a_callSX (pc := 9) 0 5 (q_X11_needRange_1 (S := S) p2 1 (nI 10000) o2) rfl cs_X11_41 rfl (rm rfl) ?_
  exact a_out rfl (by decide) (by decide))
def okx_X11_endow_3 (S : Mem) (p1 : Int32) (p2 : Int32) : Prop := ((ok_X11_needBank S p1) ∧ (ok_X11_needRange S p2 1 (nI 10000)) ∧ (∀ v4 : Int32, (if (S.1 kHaveFailed (f_X3_bank S p1)) = 0 then (1) else (0)) = v4 → ((okx_X11_needState S v4))))
abbrev fqX11_endow_3 : FD := (mdX11_endow, [], 7, 102, 1, 6)
set_option maxRecDepth 100000 in
set_option maxHeartbeats 4000000 in
theorem q_X11_endow_3 {S : Mem} (p1 : Int32) (p2 : Int32)  (h : okx_X11_endow_3 S p1 p2) : Cqs mdX11_endow 7 102 [vr 11 0, vi p1, vi p2] S xSta := Cqs.of dtX11_endow (by decide +kernel) rfl rfl (Nat.le_of_ble_eq_true rfl) rfl (fun O G => by
  show BW O G fqX11_endow_3 0 0 _ S 0 _ []
  refine a_iload_n (pc := 0) 0 0 rfl rfl ?_
  obtain ⟨o1, h⟩ := h
  refine a_callSv (pc := 1) 0 1 (c_X11_needBank (S := S) p1 o1) rfl cs_X11_73 rfl (rm rfl) ?_
  refine a_iload_n (pc := 4) 0 2 rfl rfl ?_
  refine a_iconst (pc := 5) 0 3 (v := 1) rfl (by decide) ?_
  refine a_sipush (pc := 6) 0 4 (v := nI 10000) rfl (by decide) ?_
  obtain ⟨o2, h⟩ := h
  refine a_callSv (pc := 9) 0 5 (c_X11_needRange (S := S) p2 1 (nI 10000) o2) rfl cs_X11_41 rfl (rm rfl) ?_
  refine a_aload_n (pc := 12) 0 6 rfl rfl ?_
  refine g_11_books (pc := 13) 0 7 rfl fl_X11_10 ?_
  refine a_iload_n (pc := 16) 0 8 rfl rfl ?_
  refine a_callVr (pc := 17) 0 9 (c_X3_bank (S := S) p1) rfl cv_X11_79 (by decide) rfl rfl rfl (rm rfl) ?_
  refine a_astore_n (pc := 20) 0 10 (ls2 := [some (vr 11 0), some (vi p1), some (vi p2), some (vr 0 (f_X3_bank S p1))]) rfl rfl (by decide) rfl ?_
  refine a_aload_n (pc := 21) 0 11 rfl rfl ?_
  refine g_0_hasFailed (pc := 22) 0 12 rfl (show f_X3_bank S p1 < 5 from r_X3_bank) fl_X11_82 ?_
  have J33_5 : ∀ (v4 : Int32) (ev4 : (if (S.1 kHaveFailed (f_X3_bank S p1)) = 0 then (1) else (0)) = v4), BW O G fqX11_endow_3 0 0 (QX O G S xSta) S 33 [some (vr 11 0), some (vi p1), some (vi p2), some (vr 0 (f_X3_bank S p1))] [vi v4] := by
    intro v4 ev4
    have h := h v4 ev4
    have o5 := h
    refine a_callSX (pc := 33) 0 17 (q_X11_needState (S := S) v4 (by rw [← ev4]; repeat (first | exact Or.inl rfl | exact Or.inr rfl | assumption | split | dsimp only [lt])) o5) rfl cs_X11_66 rfl (rm rfl) ?_
    exact a_out rfl (by decide) (by decide)
  refine a_if_ne (pc := 25) (tgt := 32) 0 13 rfl (by decide) (fun c25_2 => ?_) (fun c25_2 => ?_)
  · refine a_iconst (pc := 32) 0 16 (v := 0) rfl (by decide) ?_
    exact J33_5 _ (by exact (if_neg c25_2))
  · refine a_iconst (pc := 28) 0 14 (v := 1) rfl (by decide) ?_
    refine a_goto (pc := 29) (tgt := 33) 0 15 rfl (by decide) ?_
    exact J33_5 _ (by exact (if_pos c25_2)))
def f_X11_lend (S : Mem) (p1 : Int32) (p2 : Int32) (p3 : Int32) (p4 : Int32) : Int32 × Mem := lt (if (S.1 kBankOf (f_X3_holder S p2)) = p1 then (lt (f_X7_isFull S ) (fun (v6 : Int32) => if v6 = 0 then (1) else (0))) else (0)) (fun (v8 : Int32) => lt (f_X7_leftOf S p1) (fun (v11 : Int32) => lt (f_X11_capitalOf S p1) (fun (v13 : Int32) => lt (f_X11_share S (v11 + p3) (S.1 kCapitalRule 0) (nI 100)) (fun (v14 : Int32) => lt (if v13 < v14 then (0) else (1)) (fun (v16 : Int32) => lt (f_X3_change S p2 p3) (fun (S19 : Mem) => lt ((f_X7_give S19 p1 p2 p3 p4).2) (fun (S20 : Mem) => lt ((f_X7_give S19 p1 p2 p3 p4).1) (fun (v21 : Int32) => (v21, S20)))))))))
def ok_X11_lend (S : Mem) (p1 : Int32) (p2 : Int32) (p3 : Int32) (p4 : Int32) : Prop := ((ok_X11_needBank S p1) ∧ (ok_X11_needHolder S p2) ∧ (ok_X11_needRange S p3 1 (nI 10000)) ∧ (ok_X11_needRange S p4 0 (nI 100)) ∧ (∀ v8 : Int32, (if (S.1 kBankOf (f_X3_holder S p2)) = p1 then (lt (f_X7_isFull S ) (fun (v6 : Int32) => if v6 = 0 then (1) else (0))) else (0)) = v8 → ((ok_X11_needState S v8) ∧ (ok_X7_leftOf S p1) ∧ (∀ v11 : Int32, (f_X7_leftOf S p1) = v11 → ((ok_X11_capitalOf S p1) ∧ (∀ v13 : Int32, (f_X11_capitalOf S p1) = v13 → ((∀ v14 : Int32, (f_X11_share S (v11 + p3) (S.1 kCapitalRule 0) (nI 100)) = v14 → ((∀ v16 : Int32, (if v13 < v14 then (0) else (1)) = v16 → ((ok_X11_needState S v16) ∧ (ok_X3_change S p2 p3))))))))))))
abbrev fdX11_lend : FD := (mdX11_lend, [], 3, 69, 0, 0)
set_option maxRecDepth 100000 in
set_option maxHeartbeats 4000000 in
theorem w_X11_lend {O : Om} {G : Cx} {S : Mem} {PP : Option AV → Mem → Prop} (p1 : Int32) (p2 : Int32) (p3 : Int32) (p4 : Int32)   (h : ok_X11_lend S p1 p2 p3 p4) (hP : ∀ x9 S9, f_X11_lend S p1 p2 p3 p4 = (x9, S9) → PP (some (vi x9)) S9) : BW O G fdX11_lend 0 0 (QV O G 0 0 PP) S 0 [some (vr 11 0), some (vi p1), some (vi p2), some (vi p3), some (vi p4), none] [] := by
  refine a_iload_n (pc := 0) 0 0 rfl rfl ?_
  obtain ⟨o1, h⟩ := h
  refine a_callSv (pc := 1) 0 1 (c_X11_needBank (S := S) p1 o1) rfl cs_X11_73 rfl (rm rfl) ?_
  refine a_iload_n (pc := 4) 0 2 rfl rfl ?_
  obtain ⟨o2, h⟩ := h
  refine a_callSv (pc := 5) 0 3 (c_X11_needHolder (S := S) p2 o2) rfl cs_X11_37 rfl (rm rfl) ?_
  refine a_iload_n (pc := 8) 0 4 rfl rfl ?_
  refine a_iconst (pc := 9) 0 5 (v := 1) rfl (by decide) ?_
  refine a_sipush (pc := 10) 0 6 (v := nI 10000) rfl (by decide) ?_
  obtain ⟨o3, h⟩ := h
  refine a_callSv (pc := 13) 0 7 (c_X11_needRange (S := S) p3 1 (nI 10000) o3) rfl cs_X11_41 rfl (rm rfl) ?_
  refine a_iload (pc := 16) 0 8 rfl rfl ?_
  refine a_iconst (pc := 18) 0 9 (v := 0) rfl (by decide) ?_
  refine a_bipush (pc := 19) 0 10 (v := nI 100) rfl (by decide) ?_
  obtain ⟨o4, h⟩ := h
  refine a_callSv (pc := 21) 0 11 (c_X11_needRange (S := S) p4 0 (nI 100) o4) rfl cs_X11_41 rfl (rm rfl) ?_
  refine a_aload_n (pc := 24) 0 12 rfl rfl ?_
  refine g_11_books (pc := 25) 0 13 rfl fl_X11_10 ?_
  refine a_iload_n (pc := 28) 0 14 rfl rfl ?_
  refine a_callVr (pc := 29) 0 15 (c_X3_holder (S := S) p2) rfl cv_X11_45 (by decide) rfl rfl rfl (rm rfl) ?_
  refine g_5_bank (pc := 32) 0 16 rfl (show f_X3_holder S p2 < 17 from r_X3_holder) fl_X11_76 ?_
  refine a_iload_n (pc := 35) 0 17 rfl rfl ?_
  have J54_21 : ∀ (v8 : Int32) (ev8 : (if (S.1 kBankOf (f_X3_holder S p2)) = p1 then (lt (f_X7_isFull S ) (fun (v6 : Int32) => if v6 = 0 then (1) else (0))) else (0)) = v8), BW O G fdX11_lend 0 0 (QV O G 0 0 PP) S 54 [some (vr 11 0), some (vi p1), some (vi p2), some (vi p3), some (vi p4), none] [vi v8] := by
    intro v8 ev8
    have h := h v8 ev8
    obtain ⟨o9, h⟩ := h
    refine a_callSv (pc := 54) 0 26 (c_X11_needState (S := S) v8 (by rw [← ev8]; repeat (first | exact Or.inl rfl | exact Or.inr rfl | assumption | split | dsimp only [lt])) o9) rfl cs_X11_66 rfl (rm rfl) ?_
    refine a_aload_n (pc := 57) 0 27 rfl rfl ?_
    refine g_11_loans (pc := 58) 0 28 rfl fl_X11_26 ?_
    refine a_iload_n (pc := 61) 0 29 rfl rfl ?_
    obtain ⟨o10, h⟩ := h
    refine a_callVi (pc := 62) 0 30 (c_X7_leftOf (S := S) p1 o10) rfl cv_X11_140 (by decide) rfl rfl rfl (rm rfl) ?_
    refine a_seti (fun v11 ev11 => ?_)
    have h := h v11 ev11
    refine a_iload_n (pc := 65) 0 31 rfl rfl ?_
    refine a_iadd (pc := 66) 0 32 rfl ?_
    refine a_istore (pc := 67) 0 33 (ls2 := [some (vr 11 0), some (vi p1), some (vi p2), some (vi p3), some (vi p4), some (vi (v11 + p3))]) rfl (by decide) rfl ?_
    refine a_aload_n (pc := 69) 0 34 rfl rfl ?_
    refine a_iload_n (pc := 70) 0 35 rfl rfl ?_
    obtain ⟨o12, h⟩ := h
    refine a_callVi (pc := 71) 0 36 (c_X11_capitalOf (S := S) p1 o12) rfl cv_X11_143 (by decide) rfl rfl rfl (rm rfl) ?_
    refine a_seti (fun v13 ev13 => ?_)
    have h := h v13 ev13
    refine a_iload (pc := 74) 0 37 rfl rfl ?_
    refine a_aload_n (pc := 76) 0 38 rfl rfl ?_
    refine g_11_books (pc := 77) 0 39 rfl fl_X11_10 ?_
    refine g_3_central (pc := 80) 0 40 rfl fl_X11_146 ?_
    refine g_4_capitalRule (pc := 83) 0 41 rfl fl_X11_150 ?_
    refine a_bipush (pc := 86) 0 42 (v := nI 100) rfl (by decide) ?_
    refine a_callSi (pc := 88) 0 43 (c_X11_share (S := S) (v11 + p3) (S.1 kCapitalRule 0) (nI 100)) rfl cs_X11_155 rfl (rm rfl) ?_
    refine a_seti (fun v14 ev14 => ?_)
    have h := h v14 ev14
    have J99_22 : ∀ (v16 : Int32) (ev16 : (if v13 < v14 then (0) else (1)) = v16), BW O G fdX11_lend 0 0 (QV O G 0 0 PP) S 99 [some (vr 11 0), some (vi p1), some (vi p2), some (vi p3), some (vi p4), some (vi (v11 + p3))] [vi v16] := by
      intro v16 ev16
      have h := h v16 ev16
      obtain ⟨o17, h⟩ := h
      refine a_callSv (pc := 99) 1 0 (c_X11_needState (S := S) v16 (by rw [← ev16]; repeat (first | exact Or.inl rfl | exact Or.inr rfl | assumption | split | dsimp only [lt])) o17) rfl cs_X11_66 rfl (rm rfl) ?_
      refine a_aload_n (pc := 102) 1 1 rfl rfl ?_
      refine g_11_books (pc := 103) 1 2 rfl fl_X11_10 ?_
      refine a_iload_n (pc := 106) 1 3 rfl rfl ?_
      refine a_iload_n (pc := 107) 1 4 rfl rfl ?_
      have o18 := h
      refine a_callVv (pc := 108) 1 5 (c_X3_change (S := S) p2 p3 o18) rfl cv_X11_101 (by decide) rfl rfl rfl (rm rfl) ?_
      refine a_set (fun S19 eS19 => ?_)
      refine a_aload_n (pc := 111) 1 6 rfl rfl ?_
      refine g_11_loans (pc := 112) 1 7 rfl fl_X11_26 ?_
      refine a_iload_n (pc := 115) 1 8 rfl rfl ?_
      refine a_iload_n (pc := 116) 1 9 rfl rfl ?_
      refine a_iload_n (pc := 117) 1 10 rfl rfl ?_
      refine a_iload (pc := 118) 1 11 rfl rfl ?_
      refine a_callVi (pc := 120) 1 12 (c_X7_give (S := S19) p1 p2 p3 p4) rfl cv_X11_159 (by decide) rfl rfl rfl (rm rfl) ?_
      refine a_set (fun S20 eS20 => ?_)
      refine a_seti (fun v21 ev21 => ?_)
      exact a_iret (pc := 123) 1 13 rfl rfl (hP _ _ (by unfold f_X11_lend; exact (lt_eq ev8).trans ((lt_eq ev11).trans ((lt_eq ev13).trans ((lt_eq ev14).trans ((lt_eq ev16).trans ((lt_eq eS19).trans ((lt_eq eS20).trans (lt_eq ev21)))))))))
    refine a_icmp_lt (pc := 91) (tgt := 98) 0 44 rfl (by decide) (fun c91_14 => ?_) (fun c91_14 => ?_)
    · refine a_iconst (pc := 98) 0 47 (v := 0) rfl (by decide) ?_
      exact J99_22 _ (by exact (if_pos c91_14))
    · refine a_iconst (pc := 94) 0 45 (v := 1) rfl (by decide) ?_
      refine a_goto (pc := 95) (tgt := 99) 0 46 rfl (by decide) ?_
      exact J99_22 _ (by exact (if_neg c91_14))
  refine a_icmp_ne (pc := 36) (tgt := 53) 0 18 rfl (by decide) (fun c36_4 => ?_) (fun c36_4 => ?_)
  · refine a_iconst (pc := 53) 0 25 (v := 0) rfl (by decide) ?_
    exact J54_21 _ (by exact (if_neg c36_4))
  · refine a_aload_n (pc := 39) 0 19 rfl rfl ?_
    refine g_11_loans (pc := 40) 0 20 rfl fl_X11_26 ?_
    refine a_callVi (pc := 43) 0 21 (c_X7_isFull (S := S) ) rfl cv_X11_136 (by decide) rfl rfl rfl (rm rfl) ?_
    refine a_seti (fun v6 ev6 => ?_)
    refine a_if_ne (pc := 46) (tgt := 53) 0 22 rfl (by decide) (fun c46_6 => ?_) (fun c46_6 => ?_)
    · refine a_iconst (pc := 53) 0 25 (v := 0) rfl (by decide) ?_
      exact J54_21 _ (by exact ((if_pos c36_4).trans ((lt_eq ev6).trans (if_neg c46_6))))
    · refine a_iconst (pc := 49) 0 23 (v := 1) rfl (by decide) ?_
      refine a_goto (pc := 50) (tgt := 54) 0 24 rfl (by decide) ?_
      exact J54_21 _ (by exact ((if_pos c36_4).trans ((lt_eq ev6).trans (if_pos c46_6))))
theorem c_X11_lend {S : Mem} (p1 : Int32) (p2 : Int32) (p3 : Int32) (p4 : Int32)   (h : ok_X11_lend S p1 p2 p3 p4) : Cts mdX11_lend 3 69 [vr 11 0, vi p1, vi p2, vi p3, vi p4] S (Is (some (vi (f_X11_lend S p1 p2 p3 p4).1)) ((f_X11_lend S p1 p2 p3 p4).2)) := Cts.of dtX11_lend (by decide +kernel) rfl rfl (Nat.le_of_ble_eq_true rfl) rfl (fun O G => w_X11_lend p1 p2 p3 p4 h (fun _ _ h9 => ⟨by rw [h9], by rw [h9]⟩))
def okx_X11_lend_1 (S : Mem) (p1 : Int32) (p2 : Int32) (p3 : Int32) (p4 : Int32) : Prop := ((okx_X11_needBank_1 S p1))
abbrev fqX11_lend_1 : FD := (mdX11_lend, [], 8, 122, 1, 6)
set_option maxRecDepth 100000 in
set_option maxHeartbeats 4000000 in
theorem q_X11_lend_1 {S : Mem} (p1 : Int32) (p2 : Int32) (p3 : Int32) (p4 : Int32)  (h : okx_X11_lend_1 S p1 p2 p3 p4) : Cqs mdX11_lend 8 122 [vr 11 0, vi p1, vi p2, vi p3, vi p4] S xIdx := Cqs.of dtX11_lend (by decide +kernel) rfl rfl (Nat.le_of_ble_eq_true rfl) rfl (fun O G => by
  show BW O G fqX11_lend_1 0 0 _ S 0 _ []
  refine a_iload_n (pc := 0) 0 0 rfl rfl ?_
  have o1 := h
  refine a_callSX (pc := 1) 0 1 (q_X11_needBank_1 (S := S) p1 o1) rfl cs_X11_73 rfl (rm rfl) ?_
  exact a_out rfl (by decide) (by decide))
def okx_X11_lend_2 (S : Mem) (p1 : Int32) (p2 : Int32) (p3 : Int32) (p4 : Int32) : Prop := ((ok_X11_needBank S p1) ∧ (okx_X11_needHolder_1 S p2))
abbrev fqX11_lend_2 : FD := (mdX11_lend, [], 8, 122, 1, 6)
set_option maxRecDepth 100000 in
set_option maxHeartbeats 4000000 in
theorem q_X11_lend_2 {S : Mem} (p1 : Int32) (p2 : Int32) (p3 : Int32) (p4 : Int32)  (h : okx_X11_lend_2 S p1 p2 p3 p4) : Cqs mdX11_lend 8 122 [vr 11 0, vi p1, vi p2, vi p3, vi p4] S xIdx := Cqs.of dtX11_lend (by decide +kernel) rfl rfl (Nat.le_of_ble_eq_true rfl) rfl (fun O G => by
  show BW O G fqX11_lend_2 0 0 _ S 0 _ []
  refine a_iload_n (pc := 0) 0 0 rfl rfl ?_
  obtain ⟨o1, h⟩ := h
  refine a_callSv (pc := 1) 0 1 (c_X11_needBank (S := S) p1 o1) rfl cs_X11_73 rfl (rm rfl) ?_
  refine a_iload_n (pc := 4) 0 2 rfl rfl ?_
  have o2 := h
  refine a_callSX (pc := 5) 0 3 (q_X11_needHolder_1 (S := S) p2 o2) rfl cs_X11_37 rfl (rm rfl) ?_
  exact a_out rfl (by decide) (by decide))
def okx_X11_lend_3 (S : Mem) (p1 : Int32) (p2 : Int32) (p3 : Int32) (p4 : Int32) : Prop := ((ok_X11_needBank S p1) ∧ (ok_X11_needHolder S p2) ∧ (okx_X11_needRange_1 S p3 1 (nI 10000)))
abbrev fqX11_lend_3 : FD := (mdX11_lend, [], 8, 124, 1, 6)
set_option maxRecDepth 100000 in
set_option maxHeartbeats 4000000 in
theorem q_X11_lend_3 {S : Mem} (p1 : Int32) (p2 : Int32) (p3 : Int32) (p4 : Int32)  (h : okx_X11_lend_3 S p1 p2 p3 p4) : Cqs mdX11_lend 8 124 [vr 11 0, vi p1, vi p2, vi p3, vi p4] S xArg := Cqs.of dtX11_lend (by decide +kernel) rfl rfl (Nat.le_of_ble_eq_true rfl) rfl (fun O G => by
  show BW O G fqX11_lend_3 0 0 _ S 0 _ []
  refine a_iload_n (pc := 0) 0 0 rfl rfl ?_
  obtain ⟨o1, h⟩ := h
  refine a_callSv (pc := 1) 0 1 (c_X11_needBank (S := S) p1 o1) rfl cs_X11_73 rfl (rm rfl) ?_
  refine a_iload_n (pc := 4) 0 2 rfl rfl ?_
  obtain ⟨o2, h⟩ := h
  refine a_callSv (pc := 5) 0 3 (c_X11_needHolder (S := S) p2 o2) rfl cs_X11_37 rfl (rm rfl) ?_
  refine a_iload_n (pc := 8) 0 4 rfl rfl ?_
  refine a_iconst (pc := 9) 0 5 (v := 1) rfl (by decide) ?_
  refine a_sipush (pc := 10) 0 6 (v := nI 10000) rfl (by decide) ?_
  have o3 := h
  refine a_callSX (pc := 13) 0 7 (q_X11_needRange_1 (S := S) p3 1 (nI 10000) o3) rfl cs_X11_41 rfl (rm rfl) ?_
  exact a_out rfl (by decide) (by decide))
def okx_X11_lend_4 (S : Mem) (p1 : Int32) (p2 : Int32) (p3 : Int32) (p4 : Int32) : Prop := ((ok_X11_needBank S p1) ∧ (ok_X11_needHolder S p2) ∧ (ok_X11_needRange S p3 1 (nI 10000)) ∧ (okx_X11_needRange_1 S p4 0 (nI 100)))
abbrev fqX11_lend_4 : FD := (mdX11_lend, [], 8, 124, 1, 6)
set_option maxRecDepth 100000 in
set_option maxHeartbeats 4000000 in
theorem q_X11_lend_4 {S : Mem} (p1 : Int32) (p2 : Int32) (p3 : Int32) (p4 : Int32)  (h : okx_X11_lend_4 S p1 p2 p3 p4) : Cqs mdX11_lend 8 124 [vr 11 0, vi p1, vi p2, vi p3, vi p4] S xArg := Cqs.of dtX11_lend (by decide +kernel) rfl rfl (Nat.le_of_ble_eq_true rfl) rfl (fun O G => by
  show BW O G fqX11_lend_4 0 0 _ S 0 _ []
  refine a_iload_n (pc := 0) 0 0 rfl rfl ?_
  obtain ⟨o1, h⟩ := h
  refine a_callSv (pc := 1) 0 1 (c_X11_needBank (S := S) p1 o1) rfl cs_X11_73 rfl (rm rfl) ?_
  refine a_iload_n (pc := 4) 0 2 rfl rfl ?_
  obtain ⟨o2, h⟩ := h
  refine a_callSv (pc := 5) 0 3 (c_X11_needHolder (S := S) p2 o2) rfl cs_X11_37 rfl (rm rfl) ?_
  refine a_iload_n (pc := 8) 0 4 rfl rfl ?_
  refine a_iconst (pc := 9) 0 5 (v := 1) rfl (by decide) ?_
  refine a_sipush (pc := 10) 0 6 (v := nI 10000) rfl (by decide) ?_
  obtain ⟨o3, h⟩ := h
  refine a_callSv (pc := 13) 0 7 (c_X11_needRange (S := S) p3 1 (nI 10000) o3) rfl cs_X11_41 rfl (rm rfl) ?_
  refine a_iload (pc := 16) 0 8 rfl rfl ?_
  refine a_iconst (pc := 18) 0 9 (v := 0) rfl (by decide) ?_
  refine a_bipush (pc := 19) 0 10 (v := nI 100) rfl (by decide) ?_
  have o4 := h
  refine a_callSX (pc := 21) 0 11 (q_X11_needRange_1 (S := S) p4 0 (nI 100) o4) rfl cs_X11_41 rfl (rm rfl) ?_
  exact a_out rfl (by decide) (by decide))
def okx_X11_lend_5 (S : Mem) (p1 : Int32) (p2 : Int32) (p3 : Int32) (p4 : Int32) : Prop := ((ok_X11_needBank S p1) ∧ (ok_X11_needHolder S p2) ∧ (ok_X11_needRange S p3 1 (nI 10000)) ∧ (ok_X11_needRange S p4 0 (nI 100)) ∧ (∀ v8 : Int32, (if (S.1 kBankOf (f_X3_holder S p2)) = p1 then (lt (f_X7_isFull S ) (fun (v6 : Int32) => if v6 = 0 then (1) else (0))) else (0)) = v8 → ((okx_X11_needState S v8))))
abbrev fqX11_lend_5 : FD := (mdX11_lend, [], 7, 102, 1, 6)
set_option maxRecDepth 100000 in
set_option maxHeartbeats 4000000 in
theorem q_X11_lend_5 {S : Mem} (p1 : Int32) (p2 : Int32) (p3 : Int32) (p4 : Int32)  (h : okx_X11_lend_5 S p1 p2 p3 p4) : Cqs mdX11_lend 7 102 [vr 11 0, vi p1, vi p2, vi p3, vi p4] S xSta := Cqs.of dtX11_lend (by decide +kernel) rfl rfl (Nat.le_of_ble_eq_true rfl) rfl (fun O G => by
  show BW O G fqX11_lend_5 0 0 _ S 0 _ []
  refine a_iload_n (pc := 0) 0 0 rfl rfl ?_
  obtain ⟨o1, h⟩ := h
  refine a_callSv (pc := 1) 0 1 (c_X11_needBank (S := S) p1 o1) rfl cs_X11_73 rfl (rm rfl) ?_
  refine a_iload_n (pc := 4) 0 2 rfl rfl ?_
  obtain ⟨o2, h⟩ := h
  refine a_callSv (pc := 5) 0 3 (c_X11_needHolder (S := S) p2 o2) rfl cs_X11_37 rfl (rm rfl) ?_
  refine a_iload_n (pc := 8) 0 4 rfl rfl ?_
  refine a_iconst (pc := 9) 0 5 (v := 1) rfl (by decide) ?_
  refine a_sipush (pc := 10) 0 6 (v := nI 10000) rfl (by decide) ?_
  obtain ⟨o3, h⟩ := h
  refine a_callSv (pc := 13) 0 7 (c_X11_needRange (S := S) p3 1 (nI 10000) o3) rfl cs_X11_41 rfl (rm rfl) ?_
  refine a_iload (pc := 16) 0 8 rfl rfl ?_
  refine a_iconst (pc := 18) 0 9 (v := 0) rfl (by decide) ?_
  refine a_bipush (pc := 19) 0 10 (v := nI 100) rfl (by decide) ?_
  obtain ⟨o4, h⟩ := h
  refine a_callSv (pc := 21) 0 11 (c_X11_needRange (S := S) p4 0 (nI 100) o4) rfl cs_X11_41 rfl (rm rfl) ?_
  refine a_aload_n (pc := 24) 0 12 rfl rfl ?_
  refine g_11_books (pc := 25) 0 13 rfl fl_X11_10 ?_
  refine a_iload_n (pc := 28) 0 14 rfl rfl ?_
  refine a_callVr (pc := 29) 0 15 (c_X3_holder (S := S) p2) rfl cv_X11_45 (by decide) rfl rfl rfl (rm rfl) ?_
  refine g_5_bank (pc := 32) 0 16 rfl (show f_X3_holder S p2 < 17 from r_X3_holder) fl_X11_76 ?_
  refine a_iload_n (pc := 35) 0 17 rfl rfl ?_
  have J54_9 : ∀ (v8 : Int32) (ev8 : (if (S.1 kBankOf (f_X3_holder S p2)) = p1 then (lt (f_X7_isFull S ) (fun (v6 : Int32) => if v6 = 0 then (1) else (0))) else (0)) = v8), BW O G fqX11_lend_5 0 0 (QX O G S xSta) S 54 [some (vr 11 0), some (vi p1), some (vi p2), some (vi p3), some (vi p4), none] [vi v8] := by
    intro v8 ev8
    have h := h v8 ev8
    have o9 := h
    refine a_callSX (pc := 54) 0 26 (q_X11_needState (S := S) v8 (by rw [← ev8]; repeat (first | exact Or.inl rfl | exact Or.inr rfl | assumption | split | dsimp only [lt])) o9) rfl cs_X11_66 rfl (rm rfl) ?_
    exact a_out rfl (by decide) (by decide)
  refine a_icmp_ne (pc := 36) (tgt := 53) 0 18 rfl (by decide) (fun c36_4 => ?_) (fun c36_4 => ?_)
  · refine a_iconst (pc := 53) 0 25 (v := 0) rfl (by decide) ?_
    exact J54_9 _ (by exact (if_neg c36_4))
  · refine a_aload_n (pc := 39) 0 19 rfl rfl ?_
    refine g_11_loans (pc := 40) 0 20 rfl fl_X11_26 ?_
    refine a_callVi (pc := 43) 0 21 (c_X7_isFull (S := S) ) rfl cv_X11_136 (by decide) rfl rfl rfl (rm rfl) ?_
    refine a_seti (fun v6 ev6 => ?_)
    refine a_if_ne (pc := 46) (tgt := 53) 0 22 rfl (by decide) (fun c46_6 => ?_) (fun c46_6 => ?_)
    · refine a_iconst (pc := 53) 0 25 (v := 0) rfl (by decide) ?_
      exact J54_9 _ (by exact ((if_pos c36_4).trans ((lt_eq ev6).trans (if_neg c46_6))))
    · refine a_iconst (pc := 49) 0 23 (v := 1) rfl (by decide) ?_
      refine a_goto (pc := 50) (tgt := 54) 0 24 rfl (by decide) ?_
      exact J54_9 _ (by exact ((if_pos c36_4).trans ((lt_eq ev6).trans (if_pos c46_6)))))
def okx_X11_lend_6 (S : Mem) (p1 : Int32) (p2 : Int32) (p3 : Int32) (p4 : Int32) : Prop := ((ok_X11_needBank S p1) ∧ (ok_X11_needHolder S p2) ∧ (ok_X11_needRange S p3 1 (nI 10000)) ∧ (ok_X11_needRange S p4 0 (nI 100)) ∧ (∀ v8 : Int32, (if (S.1 kBankOf (f_X3_holder S p2)) = p1 then (lt (f_X7_isFull S ) (fun (v6 : Int32) => if v6 = 0 then (1) else (0))) else (0)) = v8 → ((ok_X11_needState S v8) ∧ (ok_X7_leftOf S p1) ∧ (∀ v11 : Int32, (f_X7_leftOf S p1) = v11 → ((ok_X11_capitalOf S p1) ∧ (∀ v13 : Int32, (f_X11_capitalOf S p1) = v13 → ((∀ v14 : Int32, (f_X11_share S (v11 + p3) (S.1 kCapitalRule 0) (nI 100)) = v14 → ((∀ v16 : Int32, (if v13 < v14 then (0) else (1)) = v16 → ((okx_X11_needState S v16))))))))))))
abbrev fqX11_lend_6 : FD := (mdX11_lend, [], 7, 102, 1, 6)
set_option maxRecDepth 100000 in
set_option maxHeartbeats 4000000 in
theorem q_X11_lend_6 {S : Mem} (p1 : Int32) (p2 : Int32) (p3 : Int32) (p4 : Int32)  (h : okx_X11_lend_6 S p1 p2 p3 p4) : Cqs mdX11_lend 7 102 [vr 11 0, vi p1, vi p2, vi p3, vi p4] S xSta := Cqs.of dtX11_lend (by decide +kernel) rfl rfl (Nat.le_of_ble_eq_true rfl) rfl (fun O G => by
  show BW O G fqX11_lend_6 0 0 _ S 0 _ []
  refine a_iload_n (pc := 0) 0 0 rfl rfl ?_
  obtain ⟨o1, h⟩ := h
  refine a_callSv (pc := 1) 0 1 (c_X11_needBank (S := S) p1 o1) rfl cs_X11_73 rfl (rm rfl) ?_
  refine a_iload_n (pc := 4) 0 2 rfl rfl ?_
  obtain ⟨o2, h⟩ := h
  refine a_callSv (pc := 5) 0 3 (c_X11_needHolder (S := S) p2 o2) rfl cs_X11_37 rfl (rm rfl) ?_
  refine a_iload_n (pc := 8) 0 4 rfl rfl ?_
  refine a_iconst (pc := 9) 0 5 (v := 1) rfl (by decide) ?_
  refine a_sipush (pc := 10) 0 6 (v := nI 10000) rfl (by decide) ?_
  obtain ⟨o3, h⟩ := h
  refine a_callSv (pc := 13) 0 7 (c_X11_needRange (S := S) p3 1 (nI 10000) o3) rfl cs_X11_41 rfl (rm rfl) ?_
  refine a_iload (pc := 16) 0 8 rfl rfl ?_
  refine a_iconst (pc := 18) 0 9 (v := 0) rfl (by decide) ?_
  refine a_bipush (pc := 19) 0 10 (v := nI 100) rfl (by decide) ?_
  obtain ⟨o4, h⟩ := h
  refine a_callSv (pc := 21) 0 11 (c_X11_needRange (S := S) p4 0 (nI 100) o4) rfl cs_X11_41 rfl (rm rfl) ?_
  refine a_aload_n (pc := 24) 0 12 rfl rfl ?_
  refine g_11_books (pc := 25) 0 13 rfl fl_X11_10 ?_
  refine a_iload_n (pc := 28) 0 14 rfl rfl ?_
  refine a_callVr (pc := 29) 0 15 (c_X3_holder (S := S) p2) rfl cv_X11_45 (by decide) rfl rfl rfl (rm rfl) ?_
  refine g_5_bank (pc := 32) 0 16 rfl (show f_X3_holder S p2 < 17 from r_X3_holder) fl_X11_76 ?_
  refine a_iload_n (pc := 35) 0 17 rfl rfl ?_
  have J54_17 : ∀ (v8 : Int32) (ev8 : (if (S.1 kBankOf (f_X3_holder S p2)) = p1 then (lt (f_X7_isFull S ) (fun (v6 : Int32) => if v6 = 0 then (1) else (0))) else (0)) = v8), BW O G fqX11_lend_6 0 0 (QX O G S xSta) S 54 [some (vr 11 0), some (vi p1), some (vi p2), some (vi p3), some (vi p4), none] [vi v8] := by
    intro v8 ev8
    have h := h v8 ev8
    obtain ⟨o9, h⟩ := h
    refine a_callSv (pc := 54) 0 26 (c_X11_needState (S := S) v8 (by rw [← ev8]; repeat (first | exact Or.inl rfl | exact Or.inr rfl | assumption | split | dsimp only [lt])) o9) rfl cs_X11_66 rfl (rm rfl) ?_
    refine a_aload_n (pc := 57) 0 27 rfl rfl ?_
    refine g_11_loans (pc := 58) 0 28 rfl fl_X11_26 ?_
    refine a_iload_n (pc := 61) 0 29 rfl rfl ?_
    obtain ⟨o10, h⟩ := h
    refine a_callVi (pc := 62) 0 30 (c_X7_leftOf (S := S) p1 o10) rfl cv_X11_140 (by decide) rfl rfl rfl (rm rfl) ?_
    refine a_seti (fun v11 ev11 => ?_)
    have h := h v11 ev11
    refine a_iload_n (pc := 65) 0 31 rfl rfl ?_
    refine a_iadd (pc := 66) 0 32 rfl ?_
    refine a_istore (pc := 67) 0 33 (ls2 := [some (vr 11 0), some (vi p1), some (vi p2), some (vi p3), some (vi p4), some (vi (v11 + p3))]) rfl (by decide) rfl ?_
    refine a_aload_n (pc := 69) 0 34 rfl rfl ?_
    refine a_iload_n (pc := 70) 0 35 rfl rfl ?_
    obtain ⟨o12, h⟩ := h
    refine a_callVi (pc := 71) 0 36 (c_X11_capitalOf (S := S) p1 o12) rfl cv_X11_143 (by decide) rfl rfl rfl (rm rfl) ?_
    refine a_seti (fun v13 ev13 => ?_)
    have h := h v13 ev13
    refine a_iload (pc := 74) 0 37 rfl rfl ?_
    refine a_aload_n (pc := 76) 0 38 rfl rfl ?_
    refine g_11_books (pc := 77) 0 39 rfl fl_X11_10 ?_
    refine g_3_central (pc := 80) 0 40 rfl fl_X11_146 ?_
    refine g_4_capitalRule (pc := 83) 0 41 rfl fl_X11_150 ?_
    refine a_bipush (pc := 86) 0 42 (v := nI 100) rfl (by decide) ?_
    refine a_callSi (pc := 88) 0 43 (c_X11_share (S := S) (v11 + p3) (S.1 kCapitalRule 0) (nI 100)) rfl cs_X11_155 rfl (rm rfl) ?_
    refine a_seti (fun v14 ev14 => ?_)
    have h := h v14 ev14
    have J99_18 : ∀ (v16 : Int32) (ev16 : (if v13 < v14 then (0) else (1)) = v16), BW O G fqX11_lend_6 0 0 (QX O G S xSta) S 99 [some (vr 11 0), some (vi p1), some (vi p2), some (vi p3), some (vi p4), some (vi (v11 + p3))] [vi v16] := by
      intro v16 ev16
      have h := h v16 ev16
      have o17 := h
      refine a_callSX (pc := 99) 1 0 (q_X11_needState (S := S) v16 (by rw [← ev16]; repeat (first | exact Or.inl rfl | exact Or.inr rfl | assumption | split | dsimp only [lt])) o17) rfl cs_X11_66 rfl (rm rfl) ?_
      exact a_out rfl (by decide) (by decide)
    refine a_icmp_lt (pc := 91) (tgt := 98) 0 44 rfl (by decide) (fun c91_14 => ?_) (fun c91_14 => ?_)
    · refine a_iconst (pc := 98) 0 47 (v := 0) rfl (by decide) ?_
      exact J99_18 _ (by exact (if_pos c91_14))
    · refine a_iconst (pc := 94) 0 45 (v := 1) rfl (by decide) ?_
      refine a_goto (pc := 95) (tgt := 99) 0 46 rfl (by decide) ?_
      exact J99_18 _ (by exact (if_neg c91_14))
  refine a_icmp_ne (pc := 36) (tgt := 53) 0 18 rfl (by decide) (fun c36_4 => ?_) (fun c36_4 => ?_)
  · refine a_iconst (pc := 53) 0 25 (v := 0) rfl (by decide) ?_
    exact J54_17 _ (by exact (if_neg c36_4))
  · refine a_aload_n (pc := 39) 0 19 rfl rfl ?_
    refine g_11_loans (pc := 40) 0 20 rfl fl_X11_26 ?_
    refine a_callVi (pc := 43) 0 21 (c_X7_isFull (S := S) ) rfl cv_X11_136 (by decide) rfl rfl rfl (rm rfl) ?_
    refine a_seti (fun v6 ev6 => ?_)
    refine a_if_ne (pc := 46) (tgt := 53) 0 22 rfl (by decide) (fun c46_6 => ?_) (fun c46_6 => ?_)
    · refine a_iconst (pc := 53) 0 25 (v := 0) rfl (by decide) ?_
      exact J54_17 _ (by exact ((if_pos c36_4).trans ((lt_eq ev6).trans (if_neg c46_6))))
    · refine a_iconst (pc := 49) 0 23 (v := 1) rfl (by decide) ?_
      refine a_goto (pc := 50) (tgt := 54) 0 24 rfl (by decide) ?_
      exact J54_17 _ (by exact ((if_pos c36_4).trans ((lt_eq ev6).trans (if_pos c46_6)))))
def f_X11_payBack (S : Mem) (p1 : Int32) (p2 : Int32) : Int32 × Mem := lt (if (S.1 kLoanLefts (f_X7_at S p1)) < p2 then (0) else (lt (f_X3_canPayOwner S (f_X7_at S p1) p2) (fun (v4 : Int32) => if v4 = 0 then (0) else (1)))) (fun (v6 : Int32) => lt (f_X3_payOwner S (f_X7_at S p1) p2) (fun (S9 : Mem) => lt ((upd2 S9.1 kLoanLefts (f_X7_at S p1) ((S9.1 kLoanLefts (f_X7_at S p1)) - p2), S9.2)) (fun (S10 : Mem) => (S10.1 kLoanLefts (f_X7_at S p1), S10))))
def ok_X11_payBack (S : Mem) (p1 : Int32) (p2 : Int32) : Prop := ((ok_X11_needLoan S p1) ∧ (ok_X11_needRange S p2 1 (nI 10000)) ∧ (∀ v6 : Int32, (if (S.1 kLoanLefts (f_X7_at S p1)) < p2 then (0) else (lt (f_X3_canPayOwner S (f_X7_at S p1) p2) (fun (v4 : Int32) => if v4 = 0 then (0) else (1)))) = v6 → ((ok_X11_needState S v6) ∧ (ok_X3_payOwner S (f_X7_at S p1) p2))))
abbrev fdX11_payBack : FD := (mdX11_payBack, [], 3, 68, 0, 0)
set_option maxRecDepth 100000 in
set_option maxHeartbeats 4000000 in
theorem w_X11_payBack {O : Om} {G : Cx} {S : Mem} {PP : Option AV → Mem → Prop} (p1 : Int32) (p2 : Int32)   (h : ok_X11_payBack S p1 p2) (hP : ∀ x9 S9, f_X11_payBack S p1 p2 = (x9, S9) → PP (some (vi x9)) S9) : BW O G fdX11_payBack 0 0 (QV O G 0 0 PP) S 0 [some (vr 11 0), some (vi p1), some (vi p2), none] [] := by
  refine a_aload_n (pc := 0) 0 0 rfl rfl ?_
  refine a_iload_n (pc := 1) 0 1 rfl rfl ?_
  obtain ⟨o1, h⟩ := h
  refine a_callVv (pc := 2) 0 2 (c_X11_needLoan (S := S) p1 o1) rfl cv_X11_163 (by decide) rfl rfl rfl (rm rfl) ?_
  refine a_iload_n (pc := 5) 0 3 rfl rfl ?_
  refine a_iconst (pc := 6) 0 4 (v := 1) rfl (by decide) ?_
  refine a_sipush (pc := 7) 0 5 (v := nI 10000) rfl (by decide) ?_
  obtain ⟨o2, h⟩ := h
  refine a_callSv (pc := 10) 0 6 (c_X11_needRange (S := S) p2 1 (nI 10000) o2) rfl cs_X11_41 rfl (rm rfl) ?_
  refine a_aload_n (pc := 13) 0 7 rfl rfl ?_
  refine g_11_loans (pc := 14) 0 8 rfl fl_X11_26 ?_
  refine a_iload_n (pc := 17) 0 9 rfl rfl ?_
  refine a_callVr (pc := 18) 0 10 (c_X7_at (S := S) p1) rfl cv_X11_166 (by decide) rfl rfl rfl (rm rfl) ?_
  refine a_astore_n (pc := 21) 0 11 (ls2 := [some (vr 11 0), some (vi p1), some (vi p2), some (vr 6 (f_X7_at S p1))]) rfl rfl (by decide) rfl ?_
  refine a_aload_n (pc := 22) 0 12 rfl rfl ?_
  refine g_6_left (pc := 23) 0 13 rfl (show f_X7_at S p1 < 21 from r_X7_at) fl_X11_170 ?_
  refine a_iload_n (pc := 26) 0 14 rfl rfl ?_
  have J47_10 : ∀ (v6 : Int32) (ev6 : (if (S.1 kLoanLefts (f_X7_at S p1)) < p2 then (0) else (lt (f_X3_canPayOwner S (f_X7_at S p1) p2) (fun (v4 : Int32) => if v4 = 0 then (0) else (1)))) = v6), BW O G fdX11_payBack 0 0 (QV O G 0 0 PP) S 47 [some (vr 11 0), some (vi p1), some (vi p2), some (vr 6 (f_X7_at S p1))] [vi v6] := by
    intro v6 ev6
    have h := h v6 ev6
    obtain ⟨o7, h⟩ := h
    refine a_callSv (pc := 47) 0 25 (c_X11_needState (S := S) v6 (by rw [← ev6]; repeat (first | exact Or.inl rfl | exact Or.inr rfl | assumption | split | dsimp only [lt])) o7) rfl cs_X11_66 rfl (rm rfl) ?_
    refine a_aload_n (pc := 50) 0 26 rfl rfl ?_
    refine g_11_books (pc := 51) 0 27 rfl fl_X11_10 ?_
    refine a_aload_n (pc := 54) 0 28 rfl rfl ?_
    refine a_iload_n (pc := 55) 0 29 rfl rfl ?_
    have o8 := h
    refine a_callVv (pc := 56) 0 30 (c_X3_payOwner (S := S) (f_X7_at S p1) p2 (show f_X7_at S p1 < 21 from r_X7_at) o8) rfl cv_X11_179 (by decide) rfl rfl rfl (rm rfl) ?_
    refine a_set (fun S9 eS9 => ?_)
    refine a_aload_n (pc := 59) 0 31 rfl rfl ?_
    refine a_dup (pc := 60) 0 32 rfl rfl ?_
    refine g_6_left (pc := 61) 0 33 rfl (show f_X7_at S p1 < 21 from r_X7_at) fl_X11_170 ?_
    refine a_iload_n (pc := 64) 0 34 rfl rfl ?_
    refine a_isub (pc := 65) 0 35 rfl ?_
    refine p_6_left (pc := 66) 0 36 rfl (show f_X7_at S p1 < 21 from r_X7_at) fl_X11_170 ?_
    refine a_set (fun S10 eS10 => ?_)
    refine a_aload_n (pc := 69) 0 37 rfl rfl ?_
    refine g_6_left (pc := 70) 0 38 rfl (show f_X7_at S p1 < 21 from r_X7_at) fl_X11_170 ?_
    exact a_iret (pc := 73) 0 39 rfl rfl (hP _ _ (by unfold f_X11_payBack; exact (lt_eq ev6).trans ((lt_eq eS9).trans (lt_eq eS10))))
  refine a_icmp_lt (pc := 27) (tgt := 46) 0 15 rfl (by decide) (fun c27_2 => ?_) (fun c27_2 => ?_)
  · refine a_iconst (pc := 46) 0 24 (v := 0) rfl (by decide) ?_
    exact J47_10 _ (by exact (if_pos c27_2))
  · refine a_aload_n (pc := 30) 0 16 rfl rfl ?_
    refine g_11_books (pc := 31) 0 17 rfl fl_X11_10 ?_
    refine a_aload_n (pc := 34) 0 18 rfl rfl ?_
    refine a_iload_n (pc := 35) 0 19 rfl rfl ?_
    refine a_callVi (pc := 36) 0 20 (c_X3_canPayOwner (S := S) (f_X7_at S p1) p2 (show f_X7_at S p1 < 21 from r_X7_at)) rfl cv_X11_175 (by decide) rfl rfl rfl (rm rfl) ?_
    refine a_seti (fun v4 ev4 => ?_)
    refine a_if_eq (pc := 39) (tgt := 46) 0 21 rfl (by decide) (fun c39_4 => ?_) (fun c39_4 => ?_)
    · refine a_iconst (pc := 46) 0 24 (v := 0) rfl (by decide) ?_
      exact J47_10 _ (by exact ((if_neg c27_2).trans ((lt_eq ev4).trans (if_pos c39_4))))
    · refine a_iconst (pc := 42) 0 22 (v := 1) rfl (by decide) ?_
      refine a_goto (pc := 43) (tgt := 47) 0 23 rfl (by decide) ?_
      exact J47_10 _ (by exact ((if_neg c27_2).trans ((lt_eq ev4).trans (if_neg c39_4))))
theorem c_X11_payBack {S : Mem} (p1 : Int32) (p2 : Int32)   (h : ok_X11_payBack S p1 p2) : Cts mdX11_payBack 3 68 [vr 11 0, vi p1, vi p2] S (Is (some (vi (f_X11_payBack S p1 p2).1)) ((f_X11_payBack S p1 p2).2)) := Cts.of dtX11_payBack (by decide +kernel) rfl rfl (Nat.le_of_ble_eq_true rfl) rfl (fun O G => w_X11_payBack p1 p2 h (fun _ _ h9 => ⟨by rw [h9], by rw [h9]⟩))
def okx_X11_payBack_1 (S : Mem) (p1 : Int32) (p2 : Int32) : Prop := ((okx_X11_needLoan_1 S p1))
abbrev fqX11_payBack_1 : FD := (mdX11_payBack, [], 8, 123, 1, 6)
set_option maxRecDepth 100000 in
set_option maxHeartbeats 4000000 in
theorem q_X11_payBack_1 {S : Mem} (p1 : Int32) (p2 : Int32)  (h : okx_X11_payBack_1 S p1 p2) : Cqs mdX11_payBack 8 123 [vr 11 0, vi p1, vi p2] S xIdx := Cqs.of dtX11_payBack (by decide +kernel) rfl rfl (Nat.le_of_ble_eq_true rfl) rfl (fun O G => by
  show BW O G fqX11_payBack_1 0 0 _ S 0 _ []
  refine a_aload_n (pc := 0) 0 0 rfl rfl ?_
  refine a_iload_n (pc := 1) 0 1 rfl rfl ?_
  have o1 := h
  refine a_callVX (pc := 2) 0 2 (q_X11_needLoan_1 (S := S) p1 o1) rfl cv_X11_163 (by decide) rfl rfl rfl (rm rfl) ?_
  exact a_out rfl (by decide) (by decide))
def okx_X11_payBack_2 (S : Mem) (p1 : Int32) (p2 : Int32) : Prop := ((ok_X11_needLoan S p1) ∧ (okx_X11_needRange_1 S p2 1 (nI 10000)))
abbrev fqX11_payBack_2 : FD := (mdX11_payBack, [], 8, 124, 1, 6)
set_option maxRecDepth 100000 in
set_option maxHeartbeats 4000000 in
theorem q_X11_payBack_2 {S : Mem} (p1 : Int32) (p2 : Int32)  (h : okx_X11_payBack_2 S p1 p2) : Cqs mdX11_payBack 8 124 [vr 11 0, vi p1, vi p2] S xArg := Cqs.of dtX11_payBack (by decide +kernel) rfl rfl (Nat.le_of_ble_eq_true rfl) rfl (fun O G => by
  show BW O G fqX11_payBack_2 0 0 _ S 0 _ []
  refine a_aload_n (pc := 0) 0 0 rfl rfl ?_
  refine a_iload_n (pc := 1) 0 1 rfl rfl ?_
  obtain ⟨o1, h⟩ := h
  refine a_callVv (pc := 2) 0 2 (c_X11_needLoan (S := S) p1 o1) rfl cv_X11_163 (by decide) rfl rfl rfl (rm rfl) ?_
  refine a_iload_n (pc := 5) 0 3 rfl rfl ?_
  refine a_iconst (pc := 6) 0 4 (v := 1) rfl (by decide) ?_
  refine a_sipush (pc := 7) 0 5 (v := nI 10000) rfl (by decide) ?_
  have o2 := h
  refine a_callSX (pc := 10) 0 6 (q_X11_needRange_1 (S := S) p2 1 (nI 10000) o2) rfl cs_X11_41 rfl (rm rfl) ?_
  exact a_out rfl (by decide) (by decide))
def okx_X11_payBack_3 (S : Mem) (p1 : Int32) (p2 : Int32) : Prop := ((ok_X11_needLoan S p1) ∧ (ok_X11_needRange S p2 1 (nI 10000)) ∧ (∀ v6 : Int32, (if (S.1 kLoanLefts (f_X7_at S p1)) < p2 then (0) else (lt (f_X3_canPayOwner S (f_X7_at S p1) p2) (fun (v4 : Int32) => if v4 = 0 then (0) else (1)))) = v6 → ((okx_X11_needState S v6))))
abbrev fqX11_payBack_3 : FD := (mdX11_payBack, [], 7, 102, 1, 6)
set_option maxRecDepth 100000 in
set_option maxHeartbeats 4000000 in
theorem q_X11_payBack_3 {S : Mem} (p1 : Int32) (p2 : Int32)  (h : okx_X11_payBack_3 S p1 p2) : Cqs mdX11_payBack 7 102 [vr 11 0, vi p1, vi p2] S xSta := Cqs.of dtX11_payBack (by decide +kernel) rfl rfl (Nat.le_of_ble_eq_true rfl) rfl (fun O G => by
  show BW O G fqX11_payBack_3 0 0 _ S 0 _ []
  refine a_aload_n (pc := 0) 0 0 rfl rfl ?_
  refine a_iload_n (pc := 1) 0 1 rfl rfl ?_
  obtain ⟨o1, h⟩ := h
  refine a_callVv (pc := 2) 0 2 (c_X11_needLoan (S := S) p1 o1) rfl cv_X11_163 (by decide) rfl rfl rfl (rm rfl) ?_
  refine a_iload_n (pc := 5) 0 3 rfl rfl ?_
  refine a_iconst (pc := 6) 0 4 (v := 1) rfl (by decide) ?_
  refine a_sipush (pc := 7) 0 5 (v := nI 10000) rfl (by decide) ?_
  obtain ⟨o2, h⟩ := h
  refine a_callSv (pc := 10) 0 6 (c_X11_needRange (S := S) p2 1 (nI 10000) o2) rfl cs_X11_41 rfl (rm rfl) ?_
  refine a_aload_n (pc := 13) 0 7 rfl rfl ?_
  refine g_11_loans (pc := 14) 0 8 rfl fl_X11_26 ?_
  refine a_iload_n (pc := 17) 0 9 rfl rfl ?_
  refine a_callVr (pc := 18) 0 10 (c_X7_at (S := S) p1) rfl cv_X11_166 (by decide) rfl rfl rfl (rm rfl) ?_
  refine a_astore_n (pc := 21) 0 11 (ls2 := [some (vr 11 0), some (vi p1), some (vi p2), some (vr 6 (f_X7_at S p1))]) rfl rfl (by decide) rfl ?_
  refine a_aload_n (pc := 22) 0 12 rfl rfl ?_
  refine g_6_left (pc := 23) 0 13 rfl (show f_X7_at S p1 < 21 from r_X7_at) fl_X11_170 ?_
  refine a_iload_n (pc := 26) 0 14 rfl rfl ?_
  have J47_7 : ∀ (v6 : Int32) (ev6 : (if (S.1 kLoanLefts (f_X7_at S p1)) < p2 then (0) else (lt (f_X3_canPayOwner S (f_X7_at S p1) p2) (fun (v4 : Int32) => if v4 = 0 then (0) else (1)))) = v6), BW O G fqX11_payBack_3 0 0 (QX O G S xSta) S 47 [some (vr 11 0), some (vi p1), some (vi p2), some (vr 6 (f_X7_at S p1))] [vi v6] := by
    intro v6 ev6
    have h := h v6 ev6
    have o7 := h
    refine a_callSX (pc := 47) 0 25 (q_X11_needState (S := S) v6 (by rw [← ev6]; repeat (first | exact Or.inl rfl | exact Or.inr rfl | assumption | split | dsimp only [lt])) o7) rfl cs_X11_66 rfl (rm rfl) ?_
    exact a_out rfl (by decide) (by decide)
  refine a_icmp_lt (pc := 27) (tgt := 46) 0 15 rfl (by decide) (fun c27_2 => ?_) (fun c27_2 => ?_)
  · refine a_iconst (pc := 46) 0 24 (v := 0) rfl (by decide) ?_
    exact J47_7 _ (by exact (if_pos c27_2))
  · refine a_aload_n (pc := 30) 0 16 rfl rfl ?_
    refine g_11_books (pc := 31) 0 17 rfl fl_X11_10 ?_
    refine a_aload_n (pc := 34) 0 18 rfl rfl ?_
    refine a_iload_n (pc := 35) 0 19 rfl rfl ?_
    refine a_callVi (pc := 36) 0 20 (c_X3_canPayOwner (S := S) (f_X7_at S p1) p2 (show f_X7_at S p1 < 21 from r_X7_at)) rfl cv_X11_175 (by decide) rfl rfl rfl (rm rfl) ?_
    refine a_seti (fun v4 ev4 => ?_)
    refine a_if_eq (pc := 39) (tgt := 46) 0 21 rfl (by decide) (fun c39_4 => ?_) (fun c39_4 => ?_)
    · refine a_iconst (pc := 46) 0 24 (v := 0) rfl (by decide) ?_
      exact J47_7 _ (by exact ((if_neg c27_2).trans ((lt_eq ev4).trans (if_pos c39_4))))
    · refine a_iconst (pc := 42) 0 22 (v := 1) rfl (by decide) ?_
      refine a_goto (pc := 43) (tgt := 47) 0 23 rfl (by decide) ?_
      exact J47_7 _ (by exact ((if_neg c27_2).trans ((lt_eq ev4).trans (if_neg c39_4)))))
def f_X11_window (S : Mem) (p1 : Int32) (p2 : Int32) : Int32 × Mem := lt (if (S.1 kHaveFailed (f_X3_bank S p1)) = 0 then (lt (f_X11_roomAtWindow S p1) (fun (v5 : Int32) => if v5 < p2 then (0) else (1))) else (0)) (fun (v7 : Int32) => lt (f_X0_borrow S (f_X3_bank S p1) p2) (fun (S9 : Mem) => (S9.1 kLent (f_X3_bank S p1), S9)))
def ok_X11_window (S : Mem) (p1 : Int32) (p2 : Int32) : Prop := ((ok_X11_needBank S p1) ∧ (ok_X11_needRange S p2 1 (nI 10000)) ∧ (((S.1 kHaveFailed (f_X3_bank S p1)) = 0) → ((ok_X11_roomAtWindow S p1))) ∧ (∀ v7 : Int32, (if (S.1 kHaveFailed (f_X3_bank S p1)) = 0 then (lt (f_X11_roomAtWindow S p1) (fun (v5 : Int32) => if v5 < p2 then (0) else (1))) else (0)) = v7 → ((ok_X11_needState S v7))))
abbrev fdX11_window : FD := (mdX11_window, [], 3, 67, 0, 0)
set_option maxRecDepth 100000 in
set_option maxHeartbeats 4000000 in
theorem w_X11_window {O : Om} {G : Cx} {S : Mem} {PP : Option AV → Mem → Prop} (p1 : Int32) (p2 : Int32)   (h : ok_X11_window S p1 p2) (hP : ∀ x9 S9, f_X11_window S p1 p2 = (x9, S9) → PP (some (vi x9)) S9) : BW O G fdX11_window 0 0 (QV O G 0 0 PP) S 0 [some (vr 11 0), some (vi p1), some (vi p2), none] [] := by
  refine a_iload_n (pc := 0) 0 0 rfl rfl ?_
  obtain ⟨o1, h⟩ := h
  refine a_callSv (pc := 1) 0 1 (c_X11_needBank (S := S) p1 o1) rfl cs_X11_73 rfl (rm rfl) ?_
  refine a_iload_n (pc := 4) 0 2 rfl rfl ?_
  refine a_iconst (pc := 5) 0 3 (v := 1) rfl (by decide) ?_
  refine a_sipush (pc := 6) 0 4 (v := nI 10000) rfl (by decide) ?_
  obtain ⟨o2, h⟩ := h
  refine a_callSv (pc := 9) 0 5 (c_X11_needRange (S := S) p2 1 (nI 10000) o2) rfl cs_X11_41 rfl (rm rfl) ?_
  refine a_aload_n (pc := 12) 0 6 rfl rfl ?_
  refine g_11_books (pc := 13) 0 7 rfl fl_X11_10 ?_
  refine a_iload_n (pc := 16) 0 8 rfl rfl ?_
  refine a_callVr (pc := 17) 0 9 (c_X3_bank (S := S) p1) rfl cv_X11_79 (by decide) rfl rfl rfl (rm rfl) ?_
  refine a_astore_n (pc := 20) 0 10 (ls2 := [some (vr 11 0), some (vi p1), some (vi p2), some (vr 0 (f_X3_bank S p1))]) rfl rfl (by decide) rfl ?_
  refine a_aload_n (pc := 21) 0 11 rfl rfl ?_
  refine g_0_hasFailed (pc := 22) 0 12 rfl (show f_X3_bank S p1 < 5 from r_X3_bank) fl_X11_82 ?_
  obtain ⟨hr0, h⟩ := h
  have J42_9 : ∀ (v7 : Int32) (ev7 : (if (S.1 kHaveFailed (f_X3_bank S p1)) = 0 then (lt (f_X11_roomAtWindow S p1) (fun (v5 : Int32) => if v5 < p2 then (0) else (1))) else (0)) = v7), BW O G fdX11_window 0 0 (QV O G 0 0 PP) S 42 [some (vr 11 0), some (vi p1), some (vi p2), some (vr 0 (f_X3_bank S p1))] [vi v7] := by
    intro v7 ev7
    have h := h v7 ev7
    have o8 := h
    refine a_callSv (pc := 42) 0 22 (c_X11_needState (S := S) v7 (by rw [← ev7]; repeat (first | exact Or.inl rfl | exact Or.inr rfl | assumption | split | dsimp only [lt])) o8) rfl cs_X11_66 rfl (rm rfl) ?_
    refine a_aload_n (pc := 45) 0 23 rfl rfl ?_
    refine a_iload_n (pc := 46) 0 24 rfl rfl ?_
    refine a_callVv (pc := 47) 0 25 (c_X0_borrow (S := S) (f_X3_bank S p1) p2 (show f_X3_bank S p1 < 5 from r_X3_bank)) rfl cv_X11_186 (show f_X3_bank S p1 < 5 from r_X3_bank) rfl rfl rfl (rm rfl) ?_
    refine a_set (fun S9 eS9 => ?_)
    refine a_aload_n (pc := 50) 0 26 rfl rfl ?_
    refine g_0_lent (pc := 51) 0 27 rfl (show f_X3_bank S p1 < 5 from r_X3_bank) fl_X11_189 ?_
    exact a_iret (pc := 54) 0 28 rfl rfl (hP _ _ (by unfold f_X11_window; exact (lt_eq ev7).trans (lt_eq eS9)))
  have h := hr0
  refine a_if_ne (pc := 25) (tgt := 41) 0 13 rfl (by decide) (fun c25_2 => ?_) (fun c25_2 => ?_)
  · refine a_iconst (pc := 41) 0 21 (v := 0) rfl (by decide) ?_
    exact J42_9 _ (by exact (if_neg c25_2))
  · have h := h c25_2
    refine a_iload_n (pc := 28) 0 14 rfl rfl ?_
    refine a_aload_n (pc := 29) 0 15 rfl rfl ?_
    refine a_iload_n (pc := 30) 0 16 rfl rfl ?_
    have o4 := h
    refine a_callVi (pc := 31) 0 17 (c_X11_roomAtWindow (S := S) p1 o4) rfl cv_X11_183 (by decide) rfl rfl rfl (rm rfl) ?_
    refine a_seti (fun v5 ev5 => ?_)
    refine a_icmp_gt (pc := 34) (tgt := 41) 0 18 rfl (by decide) (fun c34_5 => ?_) (fun c34_5 => ?_)
    · refine a_iconst (pc := 41) 0 21 (v := 0) rfl (by decide) ?_
      exact J42_9 _ (by exact ((if_pos c25_2).trans ((lt_eq ev5).trans (if_pos c34_5))))
    · refine a_iconst (pc := 37) 0 19 (v := 1) rfl (by decide) ?_
      refine a_goto (pc := 38) (tgt := 42) 0 20 rfl (by decide) ?_
      exact J42_9 _ (by exact ((if_pos c25_2).trans ((lt_eq ev5).trans (if_neg c34_5))))
theorem c_X11_window {S : Mem} (p1 : Int32) (p2 : Int32)   (h : ok_X11_window S p1 p2) : Cts mdX11_window 3 67 [vr 11 0, vi p1, vi p2] S (Is (some (vi (f_X11_window S p1 p2).1)) ((f_X11_window S p1 p2).2)) := Cts.of dtX11_window (by decide +kernel) rfl rfl (Nat.le_of_ble_eq_true rfl) rfl (fun O G => w_X11_window p1 p2 h (fun _ _ h9 => ⟨by rw [h9], by rw [h9]⟩))
def okx_X11_window_1 (S : Mem) (p1 : Int32) (p2 : Int32) : Prop := ((okx_X11_needBank_1 S p1))
abbrev fqX11_window_1 : FD := (mdX11_window, [], 8, 122, 1, 6)
set_option maxRecDepth 100000 in
set_option maxHeartbeats 4000000 in
theorem q_X11_window_1 {S : Mem} (p1 : Int32) (p2 : Int32)  (h : okx_X11_window_1 S p1 p2) : Cqs mdX11_window 8 122 [vr 11 0, vi p1, vi p2] S xIdx := Cqs.of dtX11_window (by decide +kernel) rfl rfl (Nat.le_of_ble_eq_true rfl) rfl (fun O G => by
  show BW O G fqX11_window_1 0 0 _ S 0 _ []
  refine a_iload_n (pc := 0) 0 0 rfl rfl ?_
  have o1 := h
  refine a_callSX (pc := 1) 0 1 (q_X11_needBank_1 (S := S) p1 o1) rfl cs_X11_73 rfl (rm rfl) ?_
  exact a_out rfl (by decide) (by decide))
def okx_X11_window_2 (S : Mem) (p1 : Int32) (p2 : Int32) : Prop := ((ok_X11_needBank S p1) ∧ (okx_X11_needRange_1 S p2 1 (nI 10000)))
abbrev fqX11_window_2 : FD := (mdX11_window, [], 8, 124, 1, 6)
set_option maxRecDepth 100000 in
set_option maxHeartbeats 4000000 in
theorem q_X11_window_2 {S : Mem} (p1 : Int32) (p2 : Int32)  (h : okx_X11_window_2 S p1 p2) : Cqs mdX11_window 8 124 [vr 11 0, vi p1, vi p2] S xArg := Cqs.of dtX11_window (by decide +kernel) rfl rfl (Nat.le_of_ble_eq_true rfl) rfl (fun O G => by
  show BW O G fqX11_window_2 0 0 _ S 0 _ []
  refine a_iload_n (pc := 0) 0 0 rfl rfl ?_
  obtain ⟨o1, h⟩ := h
  refine a_callSv (pc := 1) 0 1 (c_X11_needBank (S := S) p1 o1) rfl cs_X11_73 rfl (rm rfl) ?_
  refine a_iload_n (pc := 4) 0 2 rfl rfl ?_
  refine a_iconst (pc := 5) 0 3 (v := 1) rfl (by decide) ?_
  refine a_sipush (pc := 6) 0 4 (v := nI 10000) rfl (by decide) ?_
  have o2 := h
  refine a_callSX (pc := 9) 0 5 (q_X11_needRange_1 (S := S) p2 1 (nI 10000) o2) rfl cs_X11_41 rfl (rm rfl) ?_
  exact a_out rfl (by decide) (by decide))
def okx_X11_window_3 (S : Mem) (p1 : Int32) (p2 : Int32) : Prop := ((ok_X11_needBank S p1) ∧ (ok_X11_needRange S p2 1 (nI 10000)) ∧ (((S.1 kHaveFailed (f_X3_bank S p1)) = 0) → ((ok_X11_roomAtWindow S p1))) ∧ (∀ v7 : Int32, (if (S.1 kHaveFailed (f_X3_bank S p1)) = 0 then (lt (f_X11_roomAtWindow S p1) (fun (v5 : Int32) => if v5 < p2 then (0) else (1))) else (0)) = v7 → ((okx_X11_needState S v7))))
abbrev fqX11_window_3 : FD := (mdX11_window, [], 7, 102, 1, 6)
set_option maxRecDepth 100000 in
set_option maxHeartbeats 4000000 in
theorem q_X11_window_3 {S : Mem} (p1 : Int32) (p2 : Int32)  (h : okx_X11_window_3 S p1 p2) : Cqs mdX11_window 7 102 [vr 11 0, vi p1, vi p2] S xSta := Cqs.of dtX11_window (by decide +kernel) rfl rfl (Nat.le_of_ble_eq_true rfl) rfl (fun O G => by
  show BW O G fqX11_window_3 0 0 _ S 0 _ []
  refine a_iload_n (pc := 0) 0 0 rfl rfl ?_
  obtain ⟨o1, h⟩ := h
  refine a_callSv (pc := 1) 0 1 (c_X11_needBank (S := S) p1 o1) rfl cs_X11_73 rfl (rm rfl) ?_
  refine a_iload_n (pc := 4) 0 2 rfl rfl ?_
  refine a_iconst (pc := 5) 0 3 (v := 1) rfl (by decide) ?_
  refine a_sipush (pc := 6) 0 4 (v := nI 10000) rfl (by decide) ?_
  obtain ⟨o2, h⟩ := h
  refine a_callSv (pc := 9) 0 5 (c_X11_needRange (S := S) p2 1 (nI 10000) o2) rfl cs_X11_41 rfl (rm rfl) ?_
  refine a_aload_n (pc := 12) 0 6 rfl rfl ?_
  refine g_11_books (pc := 13) 0 7 rfl fl_X11_10 ?_
  refine a_iload_n (pc := 16) 0 8 rfl rfl ?_
  refine a_callVr (pc := 17) 0 9 (c_X3_bank (S := S) p1) rfl cv_X11_79 (by decide) rfl rfl rfl (rm rfl) ?_
  refine a_astore_n (pc := 20) 0 10 (ls2 := [some (vr 11 0), some (vi p1), some (vi p2), some (vr 0 (f_X3_bank S p1))]) rfl rfl (by decide) rfl ?_
  refine a_aload_n (pc := 21) 0 11 rfl rfl ?_
  refine g_0_hasFailed (pc := 22) 0 12 rfl (show f_X3_bank S p1 < 5 from r_X3_bank) fl_X11_82 ?_
  obtain ⟨hr0, h⟩ := h
  have J42_8 : ∀ (v7 : Int32) (ev7 : (if (S.1 kHaveFailed (f_X3_bank S p1)) = 0 then (lt (f_X11_roomAtWindow S p1) (fun (v5 : Int32) => if v5 < p2 then (0) else (1))) else (0)) = v7), BW O G fqX11_window_3 0 0 (QX O G S xSta) S 42 [some (vr 11 0), some (vi p1), some (vi p2), some (vr 0 (f_X3_bank S p1))] [vi v7] := by
    intro v7 ev7
    have h := h v7 ev7
    have o8 := h
    refine a_callSX (pc := 42) 0 22 (q_X11_needState (S := S) v7 (by rw [← ev7]; repeat (first | exact Or.inl rfl | exact Or.inr rfl | assumption | split | dsimp only [lt])) o8) rfl cs_X11_66 rfl (rm rfl) ?_
    exact a_out rfl (by decide) (by decide)
  have h := hr0
  refine a_if_ne (pc := 25) (tgt := 41) 0 13 rfl (by decide) (fun c25_2 => ?_) (fun c25_2 => ?_)
  · refine a_iconst (pc := 41) 0 21 (v := 0) rfl (by decide) ?_
    exact J42_8 _ (by exact (if_neg c25_2))
  · have h := h c25_2
    refine a_iload_n (pc := 28) 0 14 rfl rfl ?_
    refine a_aload_n (pc := 29) 0 15 rfl rfl ?_
    refine a_iload_n (pc := 30) 0 16 rfl rfl ?_
    have o4 := h
    refine a_callVi (pc := 31) 0 17 (c_X11_roomAtWindow (S := S) p1 o4) rfl cv_X11_183 (by decide) rfl rfl rfl (rm rfl) ?_
    refine a_seti (fun v5 ev5 => ?_)
    refine a_icmp_gt (pc := 34) (tgt := 41) 0 18 rfl (by decide) (fun c34_5 => ?_) (fun c34_5 => ?_)
    · refine a_iconst (pc := 41) 0 21 (v := 0) rfl (by decide) ?_
      exact J42_8 _ (by exact ((if_pos c25_2).trans ((lt_eq ev5).trans (if_pos c34_5))))
    · refine a_iconst (pc := 37) 0 19 (v := 1) rfl (by decide) ?_
      refine a_goto (pc := 38) (tgt := 42) 0 20 rfl (by decide) ?_
      exact J42_8 _ (by exact ((if_pos c25_2).trans ((lt_eq ev5).trans (if_neg c34_5)))))
def f_X11_windowBack (S : Mem) (p1 : Int32) (p2 : Int32) : Int32 × Mem := lt (if (S.1 kLent (f_X3_bank S p1)) < p2 then (0) else (if (S.1 kReserves (f_X3_bank S p1)) < p2 then (0) else (1))) (fun (v5 : Int32) => lt (f_X0_borrow S (f_X3_bank S p1) (-p2)) (fun (S7 : Mem) => (S7.1 kLent (f_X3_bank S p1), S7)))
def ok_X11_windowBack (S : Mem) (p1 : Int32) (p2 : Int32) : Prop := ((ok_X11_needBank S p1) ∧ (ok_X11_needRange S p2 1 (nI 10000)) ∧ (∀ v5 : Int32, (if (S.1 kLent (f_X3_bank S p1)) < p2 then (0) else (if (S.1 kReserves (f_X3_bank S p1)) < p2 then (0) else (1))) = v5 → ((ok_X11_needState S v5))))
abbrev fdX11_windowBack : FD := (mdX11_windowBack, [], 2, 42, 0, 0)
set_option maxRecDepth 100000 in
set_option maxHeartbeats 4000000 in
theorem w_X11_windowBack {O : Om} {G : Cx} {S : Mem} {PP : Option AV → Mem → Prop} (p1 : Int32) (p2 : Int32)   (h : ok_X11_windowBack S p1 p2) (hP : ∀ x9 S9, f_X11_windowBack S p1 p2 = (x9, S9) → PP (some (vi x9)) S9) : BW O G fdX11_windowBack 0 0 (QV O G 0 0 PP) S 0 [some (vr 11 0), some (vi p1), some (vi p2), none] [] := by
  refine a_iload_n (pc := 0) 0 0 rfl rfl ?_
  obtain ⟨o1, h⟩ := h
  refine a_callSv (pc := 1) 0 1 (c_X11_needBank (S := S) p1 o1) rfl cs_X11_73 rfl (rm rfl) ?_
  refine a_iload_n (pc := 4) 0 2 rfl rfl ?_
  refine a_iconst (pc := 5) 0 3 (v := 1) rfl (by decide) ?_
  refine a_sipush (pc := 6) 0 4 (v := nI 10000) rfl (by decide) ?_
  obtain ⟨o2, h⟩ := h
  refine a_callSv (pc := 9) 0 5 (c_X11_needRange (S := S) p2 1 (nI 10000) o2) rfl cs_X11_41 rfl (rm rfl) ?_
  refine a_aload_n (pc := 12) 0 6 rfl rfl ?_
  refine g_11_books (pc := 13) 0 7 rfl fl_X11_10 ?_
  refine a_iload_n (pc := 16) 0 8 rfl rfl ?_
  refine a_callVr (pc := 17) 0 9 (c_X3_bank (S := S) p1) rfl cv_X11_79 (by decide) rfl rfl rfl (rm rfl) ?_
  refine a_astore_n (pc := 20) 0 10 (ls2 := [some (vr 11 0), some (vi p1), some (vi p2), some (vr 0 (f_X3_bank S p1))]) rfl rfl (by decide) rfl ?_
  refine a_aload_n (pc := 21) 0 11 rfl rfl ?_
  refine g_0_lent (pc := 22) 0 12 rfl (show f_X3_bank S p1 < 5 from r_X3_bank) fl_X11_189 ?_
  refine a_iload_n (pc := 25) 0 13 rfl rfl ?_
  have J42_7 : ∀ (v5 : Int32) (ev5 : (if (S.1 kLent (f_X3_bank S p1)) < p2 then (0) else (if (S.1 kReserves (f_X3_bank S p1)) < p2 then (0) else (1))) = v5), BW O G fdX11_windowBack 0 0 (QV O G 0 0 PP) S 42 [some (vr 11 0), some (vi p1), some (vi p2), some (vr 0 (f_X3_bank S p1))] [vi v5] := by
    intro v5 ev5
    have h := h v5 ev5
    have o6 := h
    refine a_callSv (pc := 42) 0 22 (c_X11_needState (S := S) v5 (by rw [← ev5]; repeat (first | exact Or.inl rfl | exact Or.inr rfl | assumption | split | dsimp only [lt])) o6) rfl cs_X11_66 rfl (rm rfl) ?_
    refine a_aload_n (pc := 45) 0 23 rfl rfl ?_
    refine a_iload_n (pc := 46) 0 24 rfl rfl ?_
    refine a_ineg (pc := 47) 0 25 rfl ?_
    refine a_callVv (pc := 48) 0 26 (c_X0_borrow (S := S) (f_X3_bank S p1) (-p2) (show f_X3_bank S p1 < 5 from r_X3_bank)) rfl cv_X11_186 (show f_X3_bank S p1 < 5 from r_X3_bank) rfl rfl rfl (rm rfl) ?_
    refine a_set (fun S7 eS7 => ?_)
    refine a_aload_n (pc := 51) 0 27 rfl rfl ?_
    refine g_0_lent (pc := 52) 0 28 rfl (show f_X3_bank S p1 < 5 from r_X3_bank) fl_X11_189 ?_
    exact a_iret (pc := 55) 0 29 rfl rfl (hP _ _ (by unfold f_X11_windowBack; exact (lt_eq ev5).trans (lt_eq eS7)))
  refine a_icmp_lt (pc := 26) (tgt := 41) 0 14 rfl (by decide) (fun c26_2 => ?_) (fun c26_2 => ?_)
  · refine a_iconst (pc := 41) 0 21 (v := 0) rfl (by decide) ?_
    exact J42_7 _ (by exact (if_pos c26_2))
  · refine a_aload_n (pc := 29) 0 15 rfl rfl ?_
    refine g_0_reserves (pc := 30) 0 16 rfl (show f_X3_bank S p1 < 5 from r_X3_bank) fl_X11_133 ?_
    refine a_iload_n (pc := 33) 0 17 rfl rfl ?_
    refine a_icmp_lt (pc := 34) (tgt := 41) 0 18 rfl (by decide) (fun c34_3 => ?_) (fun c34_3 => ?_)
    · refine a_iconst (pc := 41) 0 21 (v := 0) rfl (by decide) ?_
      exact J42_7 _ (by exact ((if_neg c26_2).trans (if_pos c34_3)))
    · refine a_iconst (pc := 37) 0 19 (v := 1) rfl (by decide) ?_
      refine a_goto (pc := 38) (tgt := 42) 0 20 rfl (by decide) ?_
      exact J42_7 _ (by exact ((if_neg c26_2).trans (if_neg c34_3)))
theorem c_X11_windowBack {S : Mem} (p1 : Int32) (p2 : Int32)   (h : ok_X11_windowBack S p1 p2) : Cts mdX11_windowBack 2 42 [vr 11 0, vi p1, vi p2] S (Is (some (vi (f_X11_windowBack S p1 p2).1)) ((f_X11_windowBack S p1 p2).2)) := Cts.of dtX11_windowBack (by decide +kernel) rfl rfl (Nat.le_of_ble_eq_true rfl) rfl (fun O G => w_X11_windowBack p1 p2 h (fun _ _ h9 => ⟨by rw [h9], by rw [h9]⟩))
def okx_X11_windowBack_1 (S : Mem) (p1 : Int32) (p2 : Int32) : Prop := ((okx_X11_needBank_1 S p1))
abbrev fqX11_windowBack_1 : FD := (mdX11_windowBack, [], 8, 122, 1, 6)
set_option maxRecDepth 100000 in
set_option maxHeartbeats 4000000 in
theorem q_X11_windowBack_1 {S : Mem} (p1 : Int32) (p2 : Int32)  (h : okx_X11_windowBack_1 S p1 p2) : Cqs mdX11_windowBack 8 122 [vr 11 0, vi p1, vi p2] S xIdx := Cqs.of dtX11_windowBack (by decide +kernel) rfl rfl (Nat.le_of_ble_eq_true rfl) rfl (fun O G => by
  show BW O G fqX11_windowBack_1 0 0 _ S 0 _ []
  refine a_iload_n (pc := 0) 0 0 rfl rfl ?_
  have o1 := h
  refine a_callSX (pc := 1) 0 1 (q_X11_needBank_1 (S := S) p1 o1) rfl cs_X11_73 rfl (rm rfl) ?_
  exact a_out rfl (by decide) (by decide))
def okx_X11_windowBack_2 (S : Mem) (p1 : Int32) (p2 : Int32) : Prop := ((ok_X11_needBank S p1) ∧ (okx_X11_needRange_1 S p2 1 (nI 10000)))
abbrev fqX11_windowBack_2 : FD := (mdX11_windowBack, [], 8, 124, 1, 6)
set_option maxRecDepth 100000 in
set_option maxHeartbeats 4000000 in
theorem q_X11_windowBack_2 {S : Mem} (p1 : Int32) (p2 : Int32)  (h : okx_X11_windowBack_2 S p1 p2) : Cqs mdX11_windowBack 8 124 [vr 11 0, vi p1, vi p2] S xArg := Cqs.of dtX11_windowBack (by decide +kernel) rfl rfl (Nat.le_of_ble_eq_true rfl) rfl (fun O G => by
  show BW O G fqX11_windowBack_2 0 0 _ S 0 _ []
  refine a_iload_n (pc := 0) 0 0 rfl rfl ?_
  obtain ⟨o1, h⟩ := h
  refine a_callSv (pc := 1) 0 1 (c_X11_needBank (S := S) p1 o1) rfl cs_X11_73 rfl (rm rfl) ?_
  refine a_iload_n (pc := 4) 0 2 rfl rfl ?_
  refine a_iconst (pc := 5) 0 3 (v := 1) rfl (by decide) ?_
  refine a_sipush (pc := 6) 0 4 (v := nI 10000) rfl (by decide) ?_
  have o2 := h
  refine a_callSX (pc := 9) 0 5 (q_X11_needRange_1 (S := S) p2 1 (nI 10000) o2) rfl cs_X11_41 rfl (rm rfl) ?_
  exact a_out rfl (by decide) (by decide))
def okx_X11_windowBack_3 (S : Mem) (p1 : Int32) (p2 : Int32) : Prop := ((ok_X11_needBank S p1) ∧ (ok_X11_needRange S p2 1 (nI 10000)) ∧ (∀ v5 : Int32, (if (S.1 kLent (f_X3_bank S p1)) < p2 then (0) else (if (S.1 kReserves (f_X3_bank S p1)) < p2 then (0) else (1))) = v5 → ((okx_X11_needState S v5))))
abbrev fqX11_windowBack_3 : FD := (mdX11_windowBack, [], 7, 102, 1, 6)
set_option maxRecDepth 100000 in
set_option maxHeartbeats 4000000 in
theorem q_X11_windowBack_3 {S : Mem} (p1 : Int32) (p2 : Int32)  (h : okx_X11_windowBack_3 S p1 p2) : Cqs mdX11_windowBack 7 102 [vr 11 0, vi p1, vi p2] S xSta := Cqs.of dtX11_windowBack (by decide +kernel) rfl rfl (Nat.le_of_ble_eq_true rfl) rfl (fun O G => by
  show BW O G fqX11_windowBack_3 0 0 _ S 0 _ []
  refine a_iload_n (pc := 0) 0 0 rfl rfl ?_
  obtain ⟨o1, h⟩ := h
  refine a_callSv (pc := 1) 0 1 (c_X11_needBank (S := S) p1 o1) rfl cs_X11_73 rfl (rm rfl) ?_
  refine a_iload_n (pc := 4) 0 2 rfl rfl ?_
  refine a_iconst (pc := 5) 0 3 (v := 1) rfl (by decide) ?_
  refine a_sipush (pc := 6) 0 4 (v := nI 10000) rfl (by decide) ?_
  obtain ⟨o2, h⟩ := h
  refine a_callSv (pc := 9) 0 5 (c_X11_needRange (S := S) p2 1 (nI 10000) o2) rfl cs_X11_41 rfl (rm rfl) ?_
  refine a_aload_n (pc := 12) 0 6 rfl rfl ?_
  refine g_11_books (pc := 13) 0 7 rfl fl_X11_10 ?_
  refine a_iload_n (pc := 16) 0 8 rfl rfl ?_
  refine a_callVr (pc := 17) 0 9 (c_X3_bank (S := S) p1) rfl cv_X11_79 (by decide) rfl rfl rfl (rm rfl) ?_
  refine a_astore_n (pc := 20) 0 10 (ls2 := [some (vr 11 0), some (vi p1), some (vi p2), some (vr 0 (f_X3_bank S p1))]) rfl rfl (by decide) rfl ?_
  refine a_aload_n (pc := 21) 0 11 rfl rfl ?_
  refine g_0_lent (pc := 22) 0 12 rfl (show f_X3_bank S p1 < 5 from r_X3_bank) fl_X11_189 ?_
  refine a_iload_n (pc := 25) 0 13 rfl rfl ?_
  have J42_6 : ∀ (v5 : Int32) (ev5 : (if (S.1 kLent (f_X3_bank S p1)) < p2 then (0) else (if (S.1 kReserves (f_X3_bank S p1)) < p2 then (0) else (1))) = v5), BW O G fqX11_windowBack_3 0 0 (QX O G S xSta) S 42 [some (vr 11 0), some (vi p1), some (vi p2), some (vr 0 (f_X3_bank S p1))] [vi v5] := by
    intro v5 ev5
    have h := h v5 ev5
    have o6 := h
    refine a_callSX (pc := 42) 0 22 (q_X11_needState (S := S) v5 (by rw [← ev5]; repeat (first | exact Or.inl rfl | exact Or.inr rfl | assumption | split | dsimp only [lt])) o6) rfl cs_X11_66 rfl (rm rfl) ?_
    exact a_out rfl (by decide) (by decide)
  refine a_icmp_lt (pc := 26) (tgt := 41) 0 14 rfl (by decide) (fun c26_2 => ?_) (fun c26_2 => ?_)
  · refine a_iconst (pc := 41) 0 21 (v := 0) rfl (by decide) ?_
    exact J42_6 _ (by exact (if_pos c26_2))
  · refine a_aload_n (pc := 29) 0 15 rfl rfl ?_
    refine g_0_reserves (pc := 30) 0 16 rfl (show f_X3_bank S p1 < 5 from r_X3_bank) fl_X11_133 ?_
    refine a_iload_n (pc := 33) 0 17 rfl rfl ?_
    refine a_icmp_lt (pc := 34) (tgt := 41) 0 18 rfl (by decide) (fun c34_3 => ?_) (fun c34_3 => ?_)
    · refine a_iconst (pc := 41) 0 21 (v := 0) rfl (by decide) ?_
      exact J42_6 _ (by exact ((if_neg c26_2).trans (if_pos c34_3)))
    · refine a_iconst (pc := 37) 0 19 (v := 1) rfl (by decide) ?_
      refine a_goto (pc := 38) (tgt := 42) 0 20 rfl (by decide) ?_
      exact J42_6 _ (by exact ((if_neg c26_2).trans (if_neg c34_3))))
def f_X11_rules (S : Mem) (p1 : Int32) (p2 : Int32) (p3 : Int32) : Int32 × Mem := lt ((upd2 S.1 kRate 0 p1, S.2)) (fun (S4 : Mem) => lt ((upd2 S4.1 kCapitalRule 0 p2, S4.2)) (fun (S5 : Mem) => lt ((upd2 S5.1 kReserveRule 0 p3, S5.2)) (fun (S6 : Mem) => (S.1 kRate 0, S6))))
def ok_X11_rules (S : Mem) (p1 : Int32) (p2 : Int32) (p3 : Int32) : Prop := ((ok_X11_needRange S p1 0 (nI 100)) ∧ (ok_X11_needRange S p2 0 (nI 100)) ∧ (ok_X11_needRange S p3 0 (nI 100)))
abbrev fdX11_rules : FD := (mdX11_rules, [], 2, 42, 0, 0)
set_option maxRecDepth 100000 in
set_option maxHeartbeats 4000000 in
theorem w_X11_rules {O : Om} {G : Cx} {S : Mem} {PP : Option AV → Mem → Prop} (p1 : Int32) (p2 : Int32) (p3 : Int32)   (h : ok_X11_rules S p1 p2 p3) (hP : ∀ x9 S9, f_X11_rules S p1 p2 p3 = (x9, S9) → PP (some (vi x9)) S9) : BW O G fdX11_rules 0 0 (QV O G 0 0 PP) S 0 [some (vr 11 0), some (vi p1), some (vi p2), some (vi p3), none, none] [] := by
  refine a_iload_n (pc := 0) 0 0 rfl rfl ?_
  refine a_iconst (pc := 1) 0 1 (v := 0) rfl (by decide) ?_
  refine a_bipush (pc := 2) 0 2 (v := nI 100) rfl (by decide) ?_
  obtain ⟨o1, h⟩ := h
  refine a_callSv (pc := 4) 0 3 (c_X11_needRange (S := S) p1 0 (nI 100) o1) rfl cs_X11_41 rfl (rm rfl) ?_
  refine a_iload_n (pc := 7) 0 4 rfl rfl ?_
  refine a_iconst (pc := 8) 0 5 (v := 0) rfl (by decide) ?_
  refine a_bipush (pc := 9) 0 6 (v := nI 100) rfl (by decide) ?_
  obtain ⟨o2, h⟩ := h
  refine a_callSv (pc := 11) 0 7 (c_X11_needRange (S := S) p2 0 (nI 100) o2) rfl cs_X11_41 rfl (rm rfl) ?_
  refine a_iload_n (pc := 14) 0 8 rfl rfl ?_
  refine a_iconst (pc := 15) 0 9 (v := 0) rfl (by decide) ?_
  refine a_bipush (pc := 16) 0 10 (v := nI 100) rfl (by decide) ?_
  have o3 := h
  refine a_callSv (pc := 18) 0 11 (c_X11_needRange (S := S) p3 0 (nI 100) o3) rfl cs_X11_41 rfl (rm rfl) ?_
  refine a_aload_n (pc := 21) 0 12 rfl rfl ?_
  refine g_11_books (pc := 22) 0 13 rfl fl_X11_10 ?_
  refine g_3_central (pc := 25) 0 14 rfl fl_X11_146 ?_
  refine a_astore (pc := 28) 0 15 (ls2 := [some (vr 11 0), some (vi p1), some (vi p2), some (vi p3), some (vr 4 0), none]) rfl (by decide) rfl ?_
  refine a_aload (pc := 30) 0 16 rfl rfl ?_
  refine g_4_rate (pc := 32) 0 17 rfl fl_X11_192 ?_
  refine a_istore (pc := 35) 0 18 (ls2 := [some (vr 11 0), some (vi p1), some (vi p2), some (vi p3), some (vr 4 0), some (vi (S.1 kRate 0))]) rfl (by decide) rfl ?_
  refine a_aload (pc := 37) 0 19 rfl rfl ?_
  refine a_iload_n (pc := 39) 0 20 rfl rfl ?_
  refine p_4_rate (pc := 40) 0 21 rfl fl_X11_192 ?_
  refine a_set (fun S4 eS4 => ?_)
  refine a_aload (pc := 43) 0 22 rfl rfl ?_
  refine a_iload_n (pc := 45) 0 23 rfl rfl ?_
  refine p_4_capitalRule (pc := 46) 0 24 rfl fl_X11_150 ?_
  refine a_set (fun S5 eS5 => ?_)
  refine a_aload (pc := 49) 0 25 rfl rfl ?_
  refine a_iload_n (pc := 51) 0 26 rfl rfl ?_
  refine p_4_reserveRule (pc := 52) 0 27 rfl fl_X11_195 ?_
  refine a_set (fun S6 eS6 => ?_)
  refine a_iload (pc := 55) 0 28 rfl rfl ?_
  exact a_iret (pc := 57) 0 29 rfl rfl (hP _ _ (by unfold f_X11_rules; exact (lt_eq eS4).trans ((lt_eq eS5).trans (lt_eq eS6))))
theorem c_X11_rules {S : Mem} (p1 : Int32) (p2 : Int32) (p3 : Int32)   (h : ok_X11_rules S p1 p2 p3) : Cts mdX11_rules 2 42 [vr 11 0, vi p1, vi p2, vi p3] S (Is (some (vi (f_X11_rules S p1 p2 p3).1)) ((f_X11_rules S p1 p2 p3).2)) := Cts.of dtX11_rules (by decide +kernel) rfl rfl (Nat.le_of_ble_eq_true rfl) rfl (fun O G => w_X11_rules p1 p2 p3 h (fun _ _ h9 => ⟨by rw [h9], by rw [h9]⟩))
def okx_X11_rules_1 (S : Mem) (p1 : Int32) (p2 : Int32) (p3 : Int32) : Prop := ((okx_X11_needRange_1 S p1 0 (nI 100)))
abbrev fqX11_rules_1 : FD := (mdX11_rules, [], 8, 124, 1, 6)
set_option maxRecDepth 100000 in
set_option maxHeartbeats 4000000 in
theorem q_X11_rules_1 {S : Mem} (p1 : Int32) (p2 : Int32) (p3 : Int32)  (h : okx_X11_rules_1 S p1 p2 p3) : Cqs mdX11_rules 8 124 [vr 11 0, vi p1, vi p2, vi p3] S xArg := Cqs.of dtX11_rules (by decide +kernel) rfl rfl (Nat.le_of_ble_eq_true rfl) rfl (fun O G => by
  show BW O G fqX11_rules_1 0 0 _ S 0 _ []
  refine a_iload_n (pc := 0) 0 0 rfl rfl ?_
  refine a_iconst (pc := 1) 0 1 (v := 0) rfl (by decide) ?_
  refine a_bipush (pc := 2) 0 2 (v := nI 100) rfl (by decide) ?_
  have o1 := h
  refine a_callSX (pc := 4) 0 3 (q_X11_needRange_1 (S := S) p1 0 (nI 100) o1) rfl cs_X11_41 rfl (rm rfl) ?_
  exact a_out rfl (by decide) (by decide))
def okx_X11_rules_2 (S : Mem) (p1 : Int32) (p2 : Int32) (p3 : Int32) : Prop := ((ok_X11_needRange S p1 0 (nI 100)) ∧ (okx_X11_needRange_1 S p2 0 (nI 100)))
abbrev fqX11_rules_2 : FD := (mdX11_rules, [], 8, 124, 1, 6)
set_option maxRecDepth 100000 in
set_option maxHeartbeats 4000000 in
theorem q_X11_rules_2 {S : Mem} (p1 : Int32) (p2 : Int32) (p3 : Int32)  (h : okx_X11_rules_2 S p1 p2 p3) : Cqs mdX11_rules 8 124 [vr 11 0, vi p1, vi p2, vi p3] S xArg := Cqs.of dtX11_rules (by decide +kernel) rfl rfl (Nat.le_of_ble_eq_true rfl) rfl (fun O G => by
  show BW O G fqX11_rules_2 0 0 _ S 0 _ []
  refine a_iload_n (pc := 0) 0 0 rfl rfl ?_
  refine a_iconst (pc := 1) 0 1 (v := 0) rfl (by decide) ?_
  refine a_bipush (pc := 2) 0 2 (v := nI 100) rfl (by decide) ?_
  obtain ⟨o1, h⟩ := h
  refine a_callSv (pc := 4) 0 3 (c_X11_needRange (S := S) p1 0 (nI 100) o1) rfl cs_X11_41 rfl (rm rfl) ?_
  refine a_iload_n (pc := 7) 0 4 rfl rfl ?_
  refine a_iconst (pc := 8) 0 5 (v := 0) rfl (by decide) ?_
  refine a_bipush (pc := 9) 0 6 (v := nI 100) rfl (by decide) ?_
  have o2 := h
  refine a_callSX (pc := 11) 0 7 (q_X11_needRange_1 (S := S) p2 0 (nI 100) o2) rfl cs_X11_41 rfl (rm rfl) ?_
  exact a_out rfl (by decide) (by decide))
def okx_X11_rules_3 (S : Mem) (p1 : Int32) (p2 : Int32) (p3 : Int32) : Prop := ((ok_X11_needRange S p1 0 (nI 100)) ∧ (ok_X11_needRange S p2 0 (nI 100)) ∧ (okx_X11_needRange_1 S p3 0 (nI 100)))
abbrev fqX11_rules_3 : FD := (mdX11_rules, [], 8, 124, 1, 6)
set_option maxRecDepth 100000 in
set_option maxHeartbeats 4000000 in
theorem q_X11_rules_3 {S : Mem} (p1 : Int32) (p2 : Int32) (p3 : Int32)  (h : okx_X11_rules_3 S p1 p2 p3) : Cqs mdX11_rules 8 124 [vr 11 0, vi p1, vi p2, vi p3] S xArg := Cqs.of dtX11_rules (by decide +kernel) rfl rfl (Nat.le_of_ble_eq_true rfl) rfl (fun O G => by
  show BW O G fqX11_rules_3 0 0 _ S 0 _ []
  refine a_iload_n (pc := 0) 0 0 rfl rfl ?_
  refine a_iconst (pc := 1) 0 1 (v := 0) rfl (by decide) ?_
  refine a_bipush (pc := 2) 0 2 (v := nI 100) rfl (by decide) ?_
  obtain ⟨o1, h⟩ := h
  refine a_callSv (pc := 4) 0 3 (c_X11_needRange (S := S) p1 0 (nI 100) o1) rfl cs_X11_41 rfl (rm rfl) ?_
  refine a_iload_n (pc := 7) 0 4 rfl rfl ?_
  refine a_iconst (pc := 8) 0 5 (v := 0) rfl (by decide) ?_
  refine a_bipush (pc := 9) 0 6 (v := nI 100) rfl (by decide) ?_
  obtain ⟨o2, h⟩ := h
  refine a_callSv (pc := 11) 0 7 (c_X11_needRange (S := S) p2 0 (nI 100) o2) rfl cs_X11_41 rfl (rm rfl) ?_
  refine a_iload_n (pc := 14) 0 8 rfl rfl ?_
  refine a_iconst (pc := 15) 0 9 (v := 0) rfl (by decide) ?_
  refine a_bipush (pc := 16) 0 10 (v := nI 100) rfl (by decide) ?_
  have o3 := h
  refine a_callSX (pc := 18) 0 11 (q_X11_needRange_1 (S := S) p3 0 (nI 100) o3) rfl cs_X11_41 rfl (rm rfl) ?_
  exact a_out rfl (by decide) (by decide))
