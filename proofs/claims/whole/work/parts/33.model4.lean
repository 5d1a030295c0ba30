def f_X12_mint (S : Mem) (p1 : Int32) (p2 : Int32) : Int32 × Mem := lt (f_X12_isHolder S p1) (fun (v1 : Int32) => lt (if v1 = 0 then (1) else (lt (f_X12_in S p2 1 (nI 1000)) (fun (v3 : Int32) => if v3 = 0 then (nI 2) else (0)))) (fun (v5 : Int32) => lt ((f_X12_holds S v5).2) (fun (S6 : Mem) => lt ((f_X12_holds S v5).1) (fun (v7 : Int32) => if v7 = 0 then ((0, S6)) else (lt ((S6.1, upd2 S6.2.1 kNotes (ix p1) ((S6.2.1 kNotes (ix p1)) + p2), S6.2.2)) (fun (S11 : Mem) => (S11.2.1 kNotes (ix p1), S11)))))))
def ok_X12_mint (S : Mem) (p1 : Int32) (p2 : Int32) : Prop := ((∀ v1 : Int32, (f_X12_isHolder S p1) = v1 → ((∀ v5 : Int32, (if v1 = 0 then (1) else (lt (f_X12_in S p2 1 (nI 1000)) (fun (v3 : Int32) => if v3 = 0 then (nI 2) else (0)))) = v5 → ((∀ S6 : Mem, ((f_X12_holds S v5).2) = S6 → ((∀ v7 : Int32, ((f_X12_holds S v5).1) = v7 → (((¬ (v7 = 0)) → ((inb p1 16) ∧ (inb p1 16) ∧ (∀ S11 : Mem, ((S6.1, upd2 S6.2.1 kNotes (ix p1) ((S6.2.1 kNotes (ix p1)) + p2), S6.2.2)) = S11 → ((inb p1 16))))))))))))))
abbrev fdX12_mint : FD := (mdX12_mint, [], 2, 42, 0, 0)
set_option maxRecDepth 100000 in
set_option maxHeartbeats 4000000 in
theorem w_X12_mint {O : Om} {G : Cx} {S : Mem} {PP : Option AV → Mem → Prop} (p1 : Int32) (p2 : Int32)   (h : ok_X12_mint S p1 p2) (hP : ∀ x9 S9, f_X12_mint S p1 p2 = (x9, S9) → PP (some (vi x9)) S9) : BW O G fdX12_mint 0 0 (QV O G 0 0 PP) S 0 [some (vr 12 0), some (vi p1), some (vi p2)] [] := by
  refine a_aload_n (pc := 0) 0 0 rfl rfl ?_
  refine a_iload_n (pc := 1) 0 1 rfl rfl ?_
  refine a_callSi (pc := 2) 0 2 (c_X12_isHolder (S := S) p1) rfl cs_X12_171 rfl (rm rfl) ?_
  refine a_seti (fun v1 ev1 => ?_)
  have h := h v1 ev1
  have J28_12 : ∀ (v5 : Int32) (ev5 : (if v1 = 0 then (1) else (lt (f_X12_in S p2 1 (nI 1000)) (fun (v3 : Int32) => if v3 = 0 then (nI 2) else (0)))) = v5), BW O G fdX12_mint 0 0 (QV O G 0 0 PP) S 28 [some (vr 12 0), some (vi p1), some (vi p2)] [vi v5, vr 12 0] := by
    intro v5 ev5
    have h := h v5 ev5
    refine a_callVi (pc := 28) 0 14 (c_X12_holds (S := S) v5) rfl cv_X12_175 (by decide) rfl rfl rfl (rm rfl) ?_
    refine a_set (fun S6 eS6 => ?_)
    have h := h S6 eS6
    refine a_seti (fun v7 ev7 => ?_)
    have h := h v7 ev7
    refine a_if_ne (pc := 31) (tgt := 36) 0 15 rfl (by decide) (fun c31_7 => ?_) (fun c31_7 => ?_)
    · have h := h c31_7
      refine a_aload_n (pc := 36) 0 18 rfl rfl ?_
      refine g_12_notes (pc := 37) 0 19 rfl fl_X12_16 ?_
      refine a_iload_n (pc := 40) 0 20 rfl rfl ?_
      refine a_dup2 (pc := 41) 0 21 rfl rfl rfl ?_
      obtain ⟨o9, h⟩ := h
      refine e_24 (pc := 42) 0 22 (ix p1) rfl o9.1 o9.2 ?_
      refine a_iload_n (pc := 43) 0 23 rfl rfl ?_
      refine a_iadd (pc := 44) 0 24 rfl ?_
      obtain ⟨o10, h⟩ := h
      refine s_24 (pc := 45) 0 25 (ix p1) rfl o10.1 o10.2 ?_
      refine a_set (fun S11 eS11 => ?_)
      have h := h S11 eS11
      refine a_aload_n (pc := 46) 0 26 rfl rfl ?_
      refine g_12_notes (pc := 47) 0 27 rfl fl_X12_16 ?_
      refine a_iload_n (pc := 50) 0 28 rfl rfl ?_
      have o12 := h
      refine e_24 (pc := 51) 0 29 (ix p1) rfl o12.1 o12.2 ?_
      exact a_iret (pc := 52) 0 30 rfl rfl (hP _ _ (by unfold f_X12_mint; exact (lt_eq ev1).trans ((lt_eq ev5).trans ((lt_eq eS6).trans ((lt_eq ev7).trans ((if_neg c31_7).trans (lt_eq eS11)))))))
    · refine a_iconst (pc := 34) 0 16 (v := 0) rfl (by decide) ?_
      exact a_iret (pc := 35) 0 17 rfl rfl (hP _ _ (by unfold f_X12_mint; exact (lt_eq ev1).trans ((lt_eq ev5).trans ((lt_eq eS6).trans ((lt_eq ev7).trans (if_pos c31_7))))))
  refine a_if_ne (pc := 5) (tgt := 12) 0 3 rfl (by decide) (fun c5_1 => ?_) (fun c5_1 => ?_)
  · refine a_iload_n (pc := 12) 0 6 rfl rfl ?_
    refine a_iconst (pc := 13) 0 7 (v := 1) rfl (by decide) ?_
    refine a_sipush (pc := 14) 0 8 (v := nI 1000) rfl (by decide) ?_
    refine a_callSi (pc := 17) 0 9 (c_X12_in (S := S) p2 1 (nI 1000)) rfl cs_X12_141 rfl (rm rfl) ?_
    refine a_seti (fun v3 ev3 => ?_)
    refine a_if_eq (pc := 20) (tgt := 27) 0 10 rfl (by decide) (fun c20_3 => ?_) (fun c20_3 => ?_)
    · refine a_iconst (pc := 27) 0 13 (v := nI 2) rfl (by decide) ?_
      exact J28_12 _ (by exact ((if_neg c5_1).trans ((lt_eq ev3).trans (if_pos c20_3))))
    · refine a_iconst (pc := 23) 0 11 (v := 0) rfl (by decide) ?_
      refine a_goto (pc := 24) (tgt := 28) 0 12 rfl (by decide) ?_
      exact J28_12 _ (by exact ((if_neg c5_1).trans ((lt_eq ev3).trans (if_neg c20_3))))
  · refine a_iconst (pc := 8) 0 4 (v := 1) rfl (by decide) ?_
    refine a_goto (pc := 9) (tgt := 28) 0 5 rfl (by decide) ?_
    exact J28_12 _ (by exact (if_pos c5_1))
theorem c_X12_mint {S : Mem} (p1 : Int32) (p2 : Int32)   (h : ok_X12_mint S p1 p2) : Cts mdX12_mint 2 42 [vr 12 0, vi p1, vi p2] S (Is (some (vi (f_X12_mint S p1 p2).1)) ((f_X12_mint S p1 p2).2)) := Cts.of dtX12_mint (by decide +kernel) rfl rfl (Nat.le_of_ble_eq_true rfl) rfl (fun O G => w_X12_mint p1 p2 h (fun _ _ h9 => ⟨by rw [h9], by rw [h9]⟩))
def f_X12_forge (S : Mem) (p1 : Int32) (p2 : Int32) : Int32 × Mem := lt (f_X12_isHolder S p1) (fun (v1 : Int32) => lt (if v1 = 0 then (1) else (lt (f_X12_in S p2 1 (nI 100)) (fun (v3 : Int32) => if v3 = 0 then (nI 2) else (0)))) (fun (v5 : Int32) => lt ((f_X12_holds S v5).2) (fun (S6 : Mem) => lt ((f_X12_holds S v5).1) (fun (v7 : Int32) => if v7 = 0 then ((0, S6)) else (lt ((S6.1, upd2 S6.2.1 kNotes (ix p1) ((S6.2.1 kNotes (ix p1)) + p2), S6.2.2)) (fun (S11 : Mem) => lt ((S11.1, upd2 S11.2.1 kForged (ix p1) ((S11.2.1 kForged (ix p1)) + p2), S11.2.2)) (fun (S14 : Mem) => (S14.2.1 kNotes (ix p1), S14))))))))
def ok_X12_forge (S : Mem) (p1 : Int32) (p2 : Int32) : Prop := ((∀ v1 : Int32, (f_X12_isHolder S p1) = v1 → ((∀ v5 : Int32, (if v1 = 0 then (1) else (lt (f_X12_in S p2 1 (nI 100)) (fun (v3 : Int32) => if v3 = 0 then (nI 2) else (0)))) = v5 → ((∀ S6 : Mem, ((f_X12_holds S v5).2) = S6 → ((∀ v7 : Int32, ((f_X12_holds S v5).1) = v7 → (((¬ (v7 = 0)) → ((inb p1 16) ∧ (inb p1 16) ∧ (∀ S11 : Mem, ((S6.1, upd2 S6.2.1 kNotes (ix p1) ((S6.2.1 kNotes (ix p1)) + p2), S6.2.2)) = S11 → ((inb p1 16) ∧ (inb p1 16) ∧ (∀ S14 : Mem, ((S11.1, upd2 S11.2.1 kForged (ix p1) ((S11.2.1 kForged (ix p1)) + p2), S11.2.2)) = S14 → ((inb p1 16))))))))))))))))
abbrev fdX12_forge : FD := (mdX12_forge, [], 2, 42, 0, 0)
set_option maxRecDepth 100000 in
set_option maxHeartbeats 4000000 in
theorem w_X12_forge {O : Om} {G : Cx} {S : Mem} {PP : Option AV → Mem → Prop} (p1 : Int32) (p2 : Int32)   (h : ok_X12_forge S p1 p2) (hP : ∀ x9 S9, f_X12_forge S p1 p2 = (x9, S9) → PP (some (vi x9)) S9) : BW O G fdX12_forge 0 0 (QV O G 0 0 PP) S 0 [some (vr 12 0), some (vi p1), some (vi p2)] [] := by
  refine a_aload_n (pc := 0) 0 0 rfl rfl ?_
  refine a_iload_n (pc := 1) 0 1 rfl rfl ?_
  refine a_callSi (pc := 2) 0 2 (c_X12_isHolder (S := S) p1) rfl cs_X12_171 rfl (rm rfl) ?_
  refine a_seti (fun v1 ev1 => ?_)
  have h := h v1 ev1
  have J27_15 : ∀ (v5 : Int32) (ev5 : (if v1 = 0 then (1) else (lt (f_X12_in S p2 1 (nI 100)) (fun (v3 : Int32) => if v3 = 0 then (nI 2) else (0)))) = v5), BW O G fdX12_forge 0 0 (QV O G 0 0 PP) S 27 [some (vr 12 0), some (vi p1), some (vi p2)] [vi v5, vr 12 0] := by
    intro v5 ev5
    have h := h v5 ev5
    refine a_callVi (pc := 27) 0 14 (c_X12_holds (S := S) v5) rfl cv_X12_175 (by decide) rfl rfl rfl (rm rfl) ?_
    refine a_set (fun S6 eS6 => ?_)
    have h := h S6 eS6
    refine a_seti (fun v7 ev7 => ?_)
    have h := h v7 ev7
    refine a_if_ne (pc := 30) (tgt := 35) 0 15 rfl (by decide) (fun c30_7 => ?_) (fun c30_7 => ?_)
    · have h := h c30_7
      refine a_aload_n (pc := 35) 0 18 rfl rfl ?_
      refine g_12_notes (pc := 36) 0 19 rfl fl_X12_16 ?_
      refine a_iload_n (pc := 39) 0 20 rfl rfl ?_
      refine a_dup2 (pc := 40) 0 21 rfl rfl rfl ?_
      obtain ⟨o9, h⟩ := h
      refine e_24 (pc := 41) 0 22 (ix p1) rfl o9.1 o9.2 ?_
      refine a_iload_n (pc := 42) 0 23 rfl rfl ?_
      refine a_iadd (pc := 43) 0 24 rfl ?_
      obtain ⟨o10, h⟩ := h
      refine s_24 (pc := 44) 0 25 (ix p1) rfl o10.1 o10.2 ?_
      refine a_set (fun S11 eS11 => ?_)
      have h := h S11 eS11
      refine a_aload_n (pc := 45) 0 26 rfl rfl ?_
      refine g_12_forged (pc := 46) 0 27 rfl fl_X12_20 ?_
      refine a_iload_n (pc := 49) 0 28 rfl rfl ?_
      refine a_dup2 (pc := 50) 0 29 rfl rfl rfl ?_
      obtain ⟨o12, h⟩ := h
      refine e_25 (pc := 51) 0 30 (ix p1) rfl o12.1 o12.2 ?_
      refine a_iload_n (pc := 52) 0 31 rfl rfl ?_
      refine a_iadd (pc := 53) 0 32 rfl ?_
      obtain ⟨o13, h⟩ := h
      refine s_25 (pc := 54) 0 33 (ix p1) rfl o13.1 o13.2 ?_
      refine a_set (fun S14 eS14 => ?_)
      have h := h S14 eS14
      refine a_aload_n (pc := 55) 0 34 rfl rfl ?_
      refine g_12_notes (pc := 56) 0 35 rfl fl_X12_16 ?_
      refine a_iload_n (pc := 59) 0 36 rfl rfl ?_
      have o15 := h
      refine e_24 (pc := 60) 0 37 (ix p1) rfl o15.1 o15.2 ?_
      exact a_iret (pc := 61) 0 38 rfl rfl (hP _ _ (by unfold f_X12_forge; exact (lt_eq ev1).trans ((lt_eq ev5).trans ((lt_eq eS6).trans ((lt_eq ev7).trans ((if_neg c30_7).trans ((lt_eq eS11).trans (lt_eq eS14))))))))
    · refine a_iconst (pc := 33) 0 16 (v := 0) rfl (by decide) ?_
      exact a_iret (pc := 34) 0 17 rfl rfl (hP _ _ (by unfold f_X12_forge; exact (lt_eq ev1).trans ((lt_eq ev5).trans ((lt_eq eS6).trans ((lt_eq ev7).trans (if_pos c30_7))))))
  refine a_if_ne (pc := 5) (tgt := 12) 0 3 rfl (by decide) (fun c5_1 => ?_) (fun c5_1 => ?_)
  · refine a_iload_n (pc := 12) 0 6 rfl rfl ?_
    refine a_iconst (pc := 13) 0 7 (v := 1) rfl (by decide) ?_
    refine a_bipush (pc := 14) 0 8 (v := nI 100) rfl (by decide) ?_
    refine a_callSi (pc := 16) 0 9 (c_X12_in (S := S) p2 1 (nI 100)) rfl cs_X12_141 rfl (rm rfl) ?_
    refine a_seti (fun v3 ev3 => ?_)
    refine a_if_eq (pc := 19) (tgt := 26) 0 10 rfl (by decide) (fun c19_3 => ?_) (fun c19_3 => ?_)
    · refine a_iconst (pc := 26) 0 13 (v := nI 2) rfl (by decide) ?_
      exact J27_15 _ (by exact ((if_neg c5_1).trans ((lt_eq ev3).trans (if_pos c19_3))))
    · refine a_iconst (pc := 22) 0 11 (v := 0) rfl (by decide) ?_
      refine a_goto (pc := 23) (tgt := 27) 0 12 rfl (by decide) ?_
      exact J27_15 _ (by exact ((if_neg c5_1).trans ((lt_eq ev3).trans (if_neg c19_3))))
  · refine a_iconst (pc := 8) 0 4 (v := 1) rfl (by decide) ?_
    refine a_goto (pc := 9) (tgt := 27) 0 5 rfl (by decide) ?_
    exact J27_15 _ (by exact (if_pos c5_1))
theorem c_X12_forge {S : Mem} (p1 : Int32) (p2 : Int32)   (h : ok_X12_forge S p1 p2) : Cts mdX12_forge 2 42 [vr 12 0, vi p1, vi p2] S (Is (some (vi (f_X12_forge S p1 p2).1)) ((f_X12_forge S p1 p2).2)) := Cts.of dtX12_forge (by decide +kernel) rfl rfl (Nat.le_of_ble_eq_true rfl) rfl (fun O G => w_X12_forge p1 p2 h (fun _ _ h9 => ⟨by rw [h9], by rw [h9]⟩))
def f_X12_hand (S : Mem) (p1 : Int32) (p2 : Int32) (p3 : Int32) : Int32 × Mem := lt (f_X12_isHolder S p1) (fun (v1 : Int32) => lt (if v1 = 0 then (0) else (lt (f_X12_isHolder S p2) (fun (v3 : Int32) => if v3 = 0 then (0) else (1)))) (fun (v5 : Int32) => lt (if v5 = 0 then (0) else (if p1 = p2 then (0) else (lt (f_X12_in S p3 1 (nI 10000)) (fun (v8 : Int32) => if v8 = 0 then (0) else (1))))) (fun (v10 : Int32) => lt (if v5 = 0 then (1) else (if v10 = 0 then (nI 2) else (if p3 ≤ (S.2.1 kNotes (ix p1)) then (0) else (nI 3)))) (fun (v15 : Int32) => lt ((f_X12_holds S v15).2) (fun (S16 : Mem) => lt ((f_X12_holds S v15).1) (fun (v17 : Int32) => if v17 = 0 then ((0, S16)) else (lt ((f_X12_leave S16 p1 p3).2) (fun (S20 : Mem) => lt ((f_X12_leave S16 p1 p3).1) (fun (v21 : Int32) => lt ((S20.1, upd2 S20.2.1 kNotes (ix p2) ((S20.2.1 kNotes (ix p2)) + p3), S20.2.2)) (fun (S24 : Mem) => lt ((S24.1, upd2 S24.2.1 kForged (ix p2) ((S24.2.1 kForged (ix p2)) + v21), S24.2.2)) (fun (S27 : Mem) => (v21, S27))))))))))))
def ok_X12_hand (S : Mem) (p1 : Int32) (p2 : Int32) (p3 : Int32) : Prop := ((∀ v1 : Int32, (f_X12_isHolder S p1) = v1 → ((∀ v5 : Int32, (if v1 = 0 then (0) else (lt (f_X12_isHolder S p2) (fun (v3 : Int32) => if v3 = 0 then (0) else (1)))) = v5 → ((∀ v10 : Int32, (if v5 = 0 then (0) else (if p1 = p2 then (0) else (lt (f_X12_in S p3 1 (nI 10000)) (fun (v8 : Int32) => if v8 = 0 then (0) else (1))))) = v10 → (((¬ (v5 = 0)) → (((¬ (v10 = 0)) → ((inb p1 16))))) ∧ (∀ v15 : Int32, (if v5 = 0 then (1) else (if v10 = 0 then (nI 2) else (if p3 ≤ (S.2.1 kNotes (ix p1)) then (0) else (nI 3)))) = v15 → ((∀ S16 : Mem, ((f_X12_holds S v15).2) = S16 → ((∀ v17 : Int32, ((f_X12_holds S v15).1) = v17 → (((¬ (v17 = 0)) → ((ok_X12_leave S16 p1 p3) ∧ (∀ S20 : Mem, ((f_X12_leave S16 p1 p3).2) = S20 → ((∀ v21 : Int32, ((f_X12_leave S16 p1 p3).1) = v21 → ((inb p2 16) ∧ (inb p2 16) ∧ (∀ S24 : Mem, ((S20.1, upd2 S20.2.1 kNotes (ix p2) ((S20.2.1 kNotes (ix p2)) + p3), S20.2.2)) = S24 → ((inb p2 16) ∧ (inb p2 16))))))))))))))))))))))
abbrev fdX12_hand : FD := (mdX12_hand, [], 2, 42, 0, 0)
set_option maxRecDepth 100000 in
set_option maxHeartbeats 4000000 in
theorem w_X12_hand {O : Om} {G : Cx} {S : Mem} {PP : Option AV → Mem → Prop} (p1 : Int32) (p2 : Int32) (p3 : Int32)   (h : ok_X12_hand S p1 p2 p3) (hP : ∀ x9 S9, f_X12_hand S p1 p2 p3 = (x9, S9) → PP (some (vi x9)) S9) : BW O G fdX12_hand 0 0 (QV O G 0 0 PP) S 0 [some (vr 12 0), some (vi p1), some (vi p2), some (vi p3), none, none, none] [] := by
  refine a_iload_n (pc := 0) 0 0 rfl rfl ?_
  refine a_callSi (pc := 1) 0 1 (c_X12_isHolder (S := S) p1) rfl cs_X12_171 rfl (rm rfl) ?_
  refine a_seti (fun v1 ev1 => ?_)
  have h := h v1 ev1
  have J19_27 : ∀ (v5 : Int32) (ev5 : (if v1 = 0 then (0) else (lt (f_X12_isHolder S p2) (fun (v3 : Int32) => if v3 = 0 then (0) else (1)))) = v5), BW O G fdX12_hand 0 0 (QV O G 0 0 PP) S 19 [some (vr 12 0), some (vi p1), some (vi p2), some (vi p3), none, none, none] [vi v5] := by
    intro v5 ev5
    have h := h v5 ev5
    refine a_istore (pc := 19) 0 9 (ls2 := [some (vr 12 0), some (vi p1), some (vi p2), some (vi p3), some (vi v5), none, none]) rfl (by decide) rfl ?_
    refine a_iload (pc := 21) 0 10 rfl rfl ?_
    have J47_28 : ∀ (v10 : Int32) (ev10 : (if v5 = 0 then (0) else (if p1 = p2 then (0) else (lt (f_X12_in S p3 1 (nI 10000)) (fun (v8 : Int32) => if v8 = 0 then (0) else (1))))) = v10), BW O G fdX12_hand 0 0 (QV O G 0 0 PP) S 47 [some (vr 12 0), some (vi p1), some (vi p2), some (vi p3), some (vi v5), none, none] [vi v10] := by
      intro v10 ev10
      have h := h v10 ev10
      refine a_istore (pc := 47) 0 23 (ls2 := [some (vr 12 0), some (vi p1), some (vi p2), some (vi p3), some (vi v5), some (vi v10), none]) rfl (by decide) rfl ?_
      refine a_aload_n (pc := 49) 0 24 rfl rfl ?_
      refine a_iload (pc := 50) 0 25 rfl rfl ?_
      obtain ⟨hr0, h⟩ := h
      have J83_29 : ∀ (v15 : Int32) (ev15 : (if v5 = 0 then (1) else (if v10 = 0 then (nI 2) else (if p3 ≤ (S.2.1 kNotes (ix p1)) then (0) else (nI 3)))) = v15), BW O G fdX12_hand 0 0 (QV O G 0 0 PP) S 83 [some (vr 12 0), some (vi p1), some (vi p2), some (vi p3), some (vi v5), some (vi v10), none] [vi v15, vr 12 0] := by
        intro v15 ev15
        have h := h v15 ev15
        refine a_callVi (pc := 83) 0 42 (c_X12_holds (S := S) v15) rfl cv_X12_175 (by decide) rfl rfl rfl (rm rfl) ?_
        refine a_set (fun S16 eS16 => ?_)
        have h := h S16 eS16
        refine a_seti (fun v17 ev17 => ?_)
        have h := h v17 ev17
        refine a_if_ne (pc := 86) (tgt := 91) 0 43 rfl (by decide) (fun c86_17 => ?_) (fun c86_17 => ?_)
        · have h := h c86_17
          refine a_aload_n (pc := 91) 0 46 rfl rfl ?_
          refine a_iload_n (pc := 92) 0 47 rfl rfl ?_
          refine a_iload_n (pc := 93) 1 0 rfl rfl ?_
          obtain ⟨o19, h⟩ := h
          refine a_callVi (pc := 94) 1 1 (c_X12_leave (S := S16) p1 p3 o19) rfl cv_X12_178 (by decide) rfl rfl rfl (rm rfl) ?_
          refine a_set (fun S20 eS20 => ?_)
          have h := h S20 eS20
          refine a_seti (fun v21 ev21 => ?_)
          have h := h v21 ev21
          refine a_istore (pc := 97) 1 2 (ls2 := [some (vr 12 0), some (vi p1), some (vi p2), some (vi p3), some (vi v5), some (vi v10), some (vi v21)]) rfl (by decide) rfl ?_
          refine a_aload_n (pc := 99) 1 3 rfl rfl ?_
          refine g_12_notes (pc := 100) 1 4 rfl fl_X12_16 ?_
          refine a_iload_n (pc := 103) 1 5 rfl rfl ?_
          refine a_dup2 (pc := 104) 1 6 rfl rfl rfl ?_
          obtain ⟨o22, h⟩ := h
          refine e_24 (pc := 105) 1 7 (ix p2) rfl o22.1 o22.2 ?_
          refine a_iload_n (pc := 106) 1 8 rfl rfl ?_
          refine a_iadd (pc := 107) 1 9 rfl ?_
          obtain ⟨o23, h⟩ := h
          refine s_24 (pc := 108) 1 10 (ix p2) rfl o23.1 o23.2 ?_
          refine a_set (fun S24 eS24 => ?_)
          have h := h S24 eS24
          refine a_aload_n (pc := 109) 1 11 rfl rfl ?_
          refine g_12_forged (pc := 110) 1 12 rfl fl_X12_20 ?_
          refine a_iload_n (pc := 113) 1 13 rfl rfl ?_
          refine a_dup2 (pc := 114) 1 14 rfl rfl rfl ?_
          obtain ⟨o25, h⟩ := h
          refine e_25 (pc := 115) 1 15 (ix p2) rfl o25.1 o25.2 ?_
          refine a_iload (pc := 116) 1 16 rfl rfl ?_
          refine a_iadd (pc := 118) 1 17 rfl ?_
          have o26 := h
          refine s_25 (pc := 119) 1 18 (ix p2) rfl o26.1 o26.2 ?_
          refine a_set (fun S27 eS27 => ?_)
          refine a_iload (pc := 120) 1 19 rfl rfl ?_
          exact a_iret (pc := 122) 1 20 rfl rfl (hP _ _ (by unfold f_X12_hand; exact (lt_eq ev1).trans ((lt_eq ev5).trans ((lt_eq ev10).trans ((lt_eq ev15).trans ((lt_eq eS16).trans ((lt_eq ev17).trans ((if_neg c86_17).trans ((lt_eq eS20).trans ((lt_eq ev21).trans ((lt_eq eS24).trans (lt_eq eS27))))))))))))
        · refine a_iconst (pc := 89) 0 44 (v := 0) rfl (by decide) ?_
          exact a_iret (pc := 90) 0 45 rfl rfl (hP _ _ (by unfold f_X12_hand; exact (lt_eq ev1).trans ((lt_eq ev5).trans ((lt_eq ev10).trans ((lt_eq ev15).trans ((lt_eq eS16).trans ((lt_eq ev17).trans (if_pos c86_17))))))))
      have h := hr0
      refine a_if_ne (pc := 52) (tgt := 59) 0 26 rfl (by decide) (fun c52_10 => ?_) (fun c52_10 => ?_)
      · have h := h c52_10
        refine a_iload (pc := 59) 0 29 rfl rfl ?_
        refine a_if_ne (pc := 61) (tgt := 68) 0 30 rfl (by decide) (fun c61_11 => ?_) (fun c61_11 => ?_)
        · have h := h c61_11
          refine a_aload_n (pc := 68) 0 33 rfl rfl ?_
          refine g_12_notes (pc := 69) 0 34 rfl fl_X12_16 ?_
          refine a_iload_n (pc := 72) 0 35 rfl rfl ?_
          have o13 := h
          refine e_24 (pc := 73) 0 36 (ix p1) rfl o13.1 o13.2 ?_
          refine a_iload_n (pc := 74) 0 37 rfl rfl ?_
          refine a_icmp_ge (pc := 75) (tgt := 82) 0 38 rfl (by decide) (fun c75_13 => ?_) (fun c75_13 => ?_)
          · refine a_iconst (pc := 82) 0 41 (v := 0) rfl (by decide) ?_
            exact J83_29 _ (by exact ((if_neg c52_10).trans ((if_neg c61_11).trans (if_pos c75_13))))
          · refine a_iconst (pc := 78) 0 39 (v := nI 3) rfl (by decide) ?_
            refine a_goto (pc := 79) (tgt := 83) 0 40 rfl (by decide) ?_
            exact J83_29 _ (by exact ((if_neg c52_10).trans ((if_neg c61_11).trans (if_neg c75_13))))
        · refine a_iconst (pc := 64) 0 31 (v := nI 2) rfl (by decide) ?_
          refine a_goto (pc := 65) (tgt := 83) 0 32 rfl (by decide) ?_
          exact J83_29 _ (by exact ((if_neg c52_10).trans (if_pos c61_11)))
      · refine a_iconst (pc := 55) 0 27 (v := 1) rfl (by decide) ?_
        refine a_goto (pc := 56) (tgt := 83) 0 28 rfl (by decide) ?_
        exact J83_29 _ (by exact (if_pos c52_10))
    refine a_if_eq (pc := 23) (tgt := 46) 0 11 rfl (by decide) (fun c23_5 => ?_) (fun c23_5 => ?_)
    · refine a_iconst (pc := 46) 0 22 (v := 0) rfl (by decide) ?_
      exact J47_28 _ (by exact (if_pos c23_5))
    · refine a_iload_n (pc := 26) 0 12 rfl rfl ?_
      refine a_iload_n (pc := 27) 0 13 rfl rfl ?_
      refine a_icmp_eq (pc := 28) (tgt := 46) 0 14 rfl (by decide) (fun c28_6 => ?_) (fun c28_6 => ?_)
      · refine a_iconst (pc := 46) 0 22 (v := 0) rfl (by decide) ?_
        exact J47_28 _ (by exact ((if_neg c23_5).trans (if_pos c28_6)))
      · refine a_iload_n (pc := 31) 0 15 rfl rfl ?_
        refine a_iconst (pc := 32) 0 16 (v := 1) rfl (by decide) ?_
        refine a_sipush (pc := 33) 0 17 (v := nI 10000) rfl (by decide) ?_
        refine a_callSi (pc := 36) 0 18 (c_X12_in (S := S) p3 1 (nI 10000)) rfl cs_X12_141 rfl (rm rfl) ?_
        refine a_seti (fun v8 ev8 => ?_)
        refine a_if_eq (pc := 39) (tgt := 46) 0 19 rfl (by decide) (fun c39_8 => ?_) (fun c39_8 => ?_)
        · refine a_iconst (pc := 46) 0 22 (v := 0) rfl (by decide) ?_
          exact J47_28 _ (by exact ((if_neg c23_5).trans ((if_neg c28_6).trans ((lt_eq ev8).trans (if_pos c39_8)))))
        · refine a_iconst (pc := 42) 0 20 (v := 1) rfl (by decide) ?_
          refine a_goto (pc := 43) (tgt := 47) 0 21 rfl (by decide) ?_
          exact J47_28 _ (by exact ((if_neg c23_5).trans ((if_neg c28_6).trans ((lt_eq ev8).trans (if_neg c39_8)))))
  refine a_if_eq (pc := 4) (tgt := 18) 0 2 rfl (by decide) (fun c4_1 => ?_) (fun c4_1 => ?_)
  · refine a_iconst (pc := 18) 0 8 (v := 0) rfl (by decide) ?_
    exact J19_27 _ (by exact (if_pos c4_1))
  · refine a_iload_n (pc := 7) 0 3 rfl rfl ?_
    refine a_callSi (pc := 8) 0 4 (c_X12_isHolder (S := S) p2) rfl cs_X12_171 rfl (rm rfl) ?_
    refine a_seti (fun v3 ev3 => ?_)
    refine a_if_eq (pc := 11) (tgt := 18) 0 5 rfl (by decide) (fun c11_3 => ?_) (fun c11_3 => ?_)
    · refine a_iconst (pc := 18) 0 8 (v := 0) rfl (by decide) ?_
      exact J19_27 _ (by exact ((if_neg c4_1).trans ((lt_eq ev3).trans (if_pos c11_3))))
    · refine a_iconst (pc := 14) 0 6 (v := 1) rfl (by decide) ?_
      refine a_goto (pc := 15) (tgt := 19) 0 7 rfl (by decide) ?_
      exact J19_27 _ (by exact ((if_neg c4_1).trans ((lt_eq ev3).trans (if_neg c11_3))))
theorem c_X12_hand {S : Mem} (p1 : Int32) (p2 : Int32) (p3 : Int32)   (h : ok_X12_hand S p1 p2 p3) : Cts mdX12_hand 2 42 [vr 12 0, vi p1, vi p2, vi p3] S (Is (some (vi (f_X12_hand S p1 p2 p3).1)) ((f_X12_hand S p1 p2 p3).2)) := Cts.of dtX12_hand (by decide +kernel) rfl rfl (Nat.le_of_ble_eq_true rfl) rfl (fun O G => w_X12_hand p1 p2 p3 h (fun _ _ h9 => ⟨by rw [h9], by rw [h9]⟩))
def b72_X12_open (p2 : Int32) (S17 : Mem) (j18 : Nat) (σ19 : Int32) : Int32 := lt (if (S17.2.1 kBankOf j18) = p2 then (1) else (0)) (fun (v21 : Int32) => σ19 + v21)
def f_X12_open (S : Mem) (p1 : Int32) (p2 : Int32) : Int32 × Mem := lt (f_X12_isHolder S p1) (fun (v1 : Int32) => lt (if v1 = 0 then (0) else (lt (f_X12_isBank S p2) (fun (v3 : Int32) => if v3 = 0 then (0) else (1)))) (fun (v5 : Int32) => lt (if v5 = 0 then (1) else (lt (f_X12_hasAccount S p1) (fun (v8 : Int32) => if v8 = 0 then (if (S.2.1 kHaveFailed (ix p2)) = 0 then (0) else (nI 2)) else (nI 2)))) (fun (v12 : Int32) => lt ((f_X12_holds S v12).2) (fun (S13 : Mem) => lt ((f_X12_holds S v12).1) (fun (v14 : Int32) => if v14 = 0 then ((0, S13)) else (lt ((S13.1, upd2 S13.2.1 kBankOf (ix p1) p2, S13.2.2)) (fun (S17 : Mem) => lt (iter (b72_X12_open p2 S17) 0 (16)) (fun (σ19 : Int32) => (σ19, S17)))))))))
def ok_X12_open (S : Mem) (p1 : Int32) (p2 : Int32) : Prop := ((∀ v1 : Int32, (f_X12_isHolder S p1) = v1 → ((∀ v5 : Int32, (if v1 = 0 then (0) else (lt (f_X12_isBank S p2) (fun (v3 : Int32) => if v3 = 0 then (0) else (1)))) = v5 → (((¬ (v5 = 0)) → ((ok_X12_hasAccount S p1) ∧ (∀ v8 : Int32, (f_X12_hasAccount S p1) = v8 → (((v8 = 0) → ((inb p2 4))))))) ∧ (∀ v12 : Int32, (if v5 = 0 then (1) else (lt (f_X12_hasAccount S p1) (fun (v8 : Int32) => if v8 = 0 then (if (S.2.1 kHaveFailed (ix p2)) = 0 then (0) else (nI 2)) else (nI 2)))) = v12 → ((∀ S13 : Mem, ((f_X12_holds S v12).2) = S13 → ((∀ v14 : Int32, ((f_X12_holds S v12).1) = v14 → (((¬ (v14 = 0)) → ((inb p1 16))))))))))))))
abbrev fdX12_open : FD := (mdX12_open, [], 2, 42, 0, 0)
set_option maxRecDepth 100000 in
set_option maxHeartbeats 4000000 in
theorem w_X12_open {O : Om} {G : Cx} {S : Mem} {PP : Option AV → Mem → Prop} (p1 : Int32) (p2 : Int32)   (h : ok_X12_open S p1 p2) (hP : ∀ x9 S9, f_X12_open S p1 p2 = (x9, S9) → PP (some (vi x9)) S9) : BW O G fdX12_open 0 0 (QV O G 0 0 PP) S 0 [some (vr 12 0), some (vi p1), some (vi p2), none, none, none] [] := by
  refine a_iload_n (pc := 0) 0 0 rfl rfl ?_
  refine a_callSi (pc := 1) 0 1 (c_X12_isHolder (S := S) p1) rfl cs_X12_171 rfl (rm rfl) ?_
  refine a_seti (fun v1 ev1 => ?_)
  have h := h v1 ev1
  have J19_21 : ∀ (v5 : Int32) (ev5 : (if v1 = 0 then (0) else (lt (f_X12_isBank S p2) (fun (v3 : Int32) => if v3 = 0 then (0) else (1)))) = v5), BW O G fdX12_open 0 0 (QV O G 0 0 PP) S 19 [some (vr 12 0), some (vi p1), some (vi p2), none, none, none] [vi v5] := by
    intro v5 ev5
    have h := h v5 ev5
    refine a_istore_n (pc := 19) 0 9 (ls2 := [some (vr 12 0), some (vi p1), some (vi p2), some (vi v5), none, none]) rfl rfl (by decide) rfl ?_
    refine a_aload_n (pc := 20) 0 10 rfl rfl ?_
    refine a_iload_n (pc := 21) 0 11 rfl rfl ?_
    obtain ⟨hr0, h⟩ := h
    have J51_22 : ∀ (v12 : Int32) (ev12 : (if v5 = 0 then (1) else (lt (f_X12_hasAccount S p1) (fun (v8 : Int32) => if v8 = 0 then (if (S.2.1 kHaveFailed (ix p2)) = 0 then (0) else (nI 2)) else (nI 2)))) = v12), BW O G fdX12_open 0 0 (QV O G 0 0 PP) S 51 [some (vr 12 0), some (vi p1), some (vi p2), some (vi v5), none, none] [vi v12, vr 12 0] := by
      intro v12 ev12
      have h := h v12 ev12
      refine a_callVi (pc := 51) 0 27 (c_X12_holds (S := S) v12) rfl cv_X12_175 (by decide) rfl rfl rfl (rm rfl) ?_
      refine a_set (fun S13 eS13 => ?_)
      have h := h S13 eS13
      refine a_seti (fun v14 ev14 => ?_)
      have h := h v14 ev14
      refine a_if_ne (pc := 54) (tgt := 59) 0 28 rfl (by decide) (fun c54_14 => ?_) (fun c54_14 => ?_)
      · have h := h c54_14
        refine a_aload_n (pc := 59) 0 31 rfl rfl ?_
        refine g_12_bankOf (pc := 60) 0 32 rfl fl_X12_23 ?_
        refine a_iload_n (pc := 63) 0 33 rfl rfl ?_
        refine a_iload_n (pc := 64) 0 34 rfl rfl ?_
        have o16 := h
        refine s_26 (pc := 65) 0 35 (ix p1) rfl o16.1 o16.2 ?_
        refine a_set (fun S17 eS17 => ?_)
        refine a_iconst (pc := 66) 0 36 (v := 0) rfl (by decide) ?_
        refine a_istore (pc := 67) 0 37 (ls2 := [some (vr 12 0), some (vi p1), some (vi p2), some (vi v5), some (vi 0), none]) rfl (by decide) rfl ?_
        refine a_iconst (pc := 69) 0 38 (v := 0) rfl (by decide) ?_
        refine a_istore (pc := 70) 0 39 (ls2 := [some (vr 12 0), some (vi p1), some (vi p2), some (vi v5), some (vi 0), some (vi 0)]) rfl (by decide) rfl ?_
        have L72_23 : ∀ (m_j18 j18 : Nat), j18 + m_j18 = 16 → ∀ (σ19 : Int32), iter (b72_X12_open p2 S17) 0 j18 = σ19 → BW O G fdX12_open 0 0 (QV O G 0 0 PP) S17 72 [some (vr 12 0), some (vi p1), some (vi p2), some (vi v5), some (vi σ19), some (vi (nI j18))] [] := by
          intro m_j18
          induction m_j18 with
          | zero =>
            intro j18 hj_j18 σ19 eσ19
            have hn_j18 : j18 = 16 := by omega
            rw [hn_j18] at eσ19
            refine a_iload (pc := 72) 0 40 rfl rfl ?_
            refine a_bipush (pc := 74) 0 41 (v := nI 16) rfl (by decide) ?_
            refine a_icmp_ge_t (pc := 76) (tgt := 106) 0 42 rfl (by decide) (nI_le (by omega) (by omega)) ?_
            refine a_iload (pc := 106) 1 9 rfl rfl ?_
            exact a_iret (pc := 108) 1 10 rfl rfl (hP _ _ (by unfold f_X12_open; exact (lt_eq ev1).trans ((lt_eq ev5).trans ((lt_eq ev12).trans ((lt_eq eS13).trans ((lt_eq ev14).trans ((if_neg c54_14).trans ((lt_eq eS17).trans (lt_eq eσ19)))))))))
          | succ m_j18 ih_j18 =>
            intro j18 hj_j18 σ19 eσ19
            refine a_iload (pc := 72) 0 40 rfl rfl ?_
            refine a_bipush (pc := 74) 0 41 (v := nI 16) rfl (by decide) ?_
            refine a_icmp_ge_f (pc := 76) (tgt := 106) 0 42 rfl (nI_ge (by omega) (by omega)) (by decide) ?_
            refine a_iload (pc := 79) 0 43 rfl rfl ?_
            refine a_aload_n (pc := 81) 0 44 rfl rfl ?_
            refine g_12_bankOf (pc := 82) 0 45 rfl fl_X12_23 ?_
            refine a_iload (pc := 85) 0 46 rfl rfl ?_
            refine e_26 (pc := 87) 0 47 (j18) rfl rfl (by omega) ?_
            refine a_iload_n (pc := 88) 1 0 rfl rfl ?_
            have J97_24 : ∀ (v21 : Int32) (ev21 : (if (S17.2.1 kBankOf j18) = p2 then (1) else (0)) = v21), BW O G fdX12_open 0 0 (QV O G 0 0 PP) S17 97 [some (vr 12 0), some (vi p1), some (vi p2), some (vi v5), some (vi σ19), some (vi (nI j18))] [vi v21, vi σ19] := by
              intro v21 ev21
              refine a_iadd (pc := 97) 1 5 rfl ?_
              refine a_istore (pc := 98) 1 6 (ls2 := [some (vr 12 0), some (vi p1), some (vi p2), some (vi v5), some (vi (σ19 + v21)), some (vi (nI j18))]) rfl (by decide) rfl ?_
              refine a_iinc (pc := 100) 1 7 (v := nI (j18 + 1)) (ls2 := [some (vr 12 0), some (vi p1), some (vi p2), some (vi v5), some (vi (σ19 + v21)), some (vi (nI (j18 + 1)))]) rfl rfl (iinc1 _) (by decide) rfl ?_
              refine a_goto (pc := 103) (tgt := 72) 1 8 rfl (by decide) ?_
              exact ih_j18 (j18 + 1) (by omega) (σ19 + v21) (by rw [iter_succ, eσ19]; unfold b72_X12_open; exact (lt_eq ev21))
            refine a_icmp_ne (pc := 89) (tgt := 96) 1 1 rfl (by decide) (fun c89_19 => ?_) (fun c89_19 => ?_)
            · refine a_iconst (pc := 96) 1 4 (v := 0) rfl (by decide) ?_
              exact J97_24 _ (by exact (if_neg c89_19))
            · refine a_iconst (pc := 92) 1 2 (v := 1) rfl (by decide) ?_
              refine a_goto (pc := 93) (tgt := 97) 1 3 rfl (by decide) ?_
              exact J97_24 _ (by exact (if_pos c89_19))
        exact L72_23 (16) 0 (by omega) 0 rfl
      · refine a_iconst (pc := 57) 0 29 (v := 0) rfl (by decide) ?_
        exact a_iret (pc := 58) 0 30 rfl rfl (hP _ _ (by unfold f_X12_open; exact (lt_eq ev1).trans ((lt_eq ev5).trans ((lt_eq ev12).trans ((lt_eq eS13).trans ((lt_eq ev14).trans (if_pos c54_14)))))))
    have h := hr0
    refine a_if_ne (pc := 22) (tgt := 29) 0 12 rfl (by decide) (fun c22_5 => ?_) (fun c22_5 => ?_)
    · have h := h c22_5
      refine a_aload_n (pc := 29) 0 15 rfl rfl ?_
      refine a_iload_n (pc := 30) 0 16 rfl rfl ?_
      obtain ⟨o7, h⟩ := h
      refine a_callVi (pc := 31) 0 17 (c_X12_hasAccount (S := S) p1 o7) rfl cv_X12_184 (by decide) rfl rfl rfl (rm rfl) ?_
      refine a_seti (fun v8 ev8 => ?_)
      have h := h v8 ev8
      refine a_if_ne (pc := 34) (tgt := 46) 0 18 rfl (by decide) (fun c34_8 => ?_) (fun c34_8 => ?_)
      · refine a_iconst (pc := 46) 0 24 (v := nI 2) rfl (by decide) ?_
        refine a_goto (pc := 47) (tgt := 51) 0 25 rfl (by decide) ?_
        exact J51_22 _ (by exact ((if_neg c22_5).trans ((lt_eq ev8).trans (if_neg c34_8))))
      · have h := h c34_8
        refine a_aload_n (pc := 37) 0 19 rfl rfl ?_
        refine g_12_haveFailed (pc := 38) 0 20 rfl fl_X12_62 ?_
        refine a_iload_n (pc := 41) 0 21 rfl rfl ?_
        have o10 := h
        refine e_39 (pc := 42) 0 22 (ix p2) rfl o10.1 o10.2 ?_
        refine a_if_eq (pc := 43) (tgt := 50) 0 23 rfl (by decide) (fun c43_10 => ?_) (fun c43_10 => ?_)
        · refine a_iconst (pc := 50) 0 26 (v := 0) rfl (by decide) ?_
          exact J51_22 _ (by exact ((if_neg c22_5).trans ((lt_eq ev8).trans ((if_pos c34_8).trans (if_pos c43_10)))))
        · refine a_iconst (pc := 46) 0 24 (v := nI 2) rfl (by decide) ?_
          refine a_goto (pc := 47) (tgt := 51) 0 25 rfl (by decide) ?_
          exact J51_22 _ (by exact ((if_neg c22_5).trans ((lt_eq ev8).trans ((if_pos c34_8).trans (if_neg c43_10)))))
    · refine a_iconst (pc := 25) 0 13 (v := 1) rfl (by decide) ?_
      refine a_goto (pc := 26) (tgt := 51) 0 14 rfl (by decide) ?_
      exact J51_22 _ (by exact (if_pos c22_5))
  refine a_if_eq (pc := 4) (tgt := 18) 0 2 rfl (by decide) (fun c4_1 => ?_) (fun c4_1 => ?_)
  · refine a_iconst (pc := 18) 0 8 (v := 0) rfl (by decide) ?_
    exact J19_21 _ (by exact (if_pos c4_1))
  · refine a_iload_n (pc := 7) 0 3 rfl rfl ?_
    refine a_callSi (pc := 8) 0 4 (c_X12_isBank (S := S) p2) rfl cs_X12_181 rfl (rm rfl) ?_
    refine a_seti (fun v3 ev3 => ?_)
    refine a_if_eq (pc := 11) (tgt := 18) 0 5 rfl (by decide) (fun c11_3 => ?_) (fun c11_3 => ?_)
    · refine a_iconst (pc := 18) 0 8 (v := 0) rfl (by decide) ?_
      exact J19_21 _ (by exact ((if_neg c4_1).trans ((lt_eq ev3).trans (if_pos c11_3))))
    · refine a_iconst (pc := 14) 0 6 (v := 1) rfl (by decide) ?_
      refine a_goto (pc := 15) (tgt := 19) 0 7 rfl (by decide) ?_
      exact J19_21 _ (by exact ((if_neg c4_1).trans ((lt_eq ev3).trans (if_neg c11_3))))
theorem c_X12_open {S : Mem} (p1 : Int32) (p2 : Int32)   (h : ok_X12_open S p1 p2) : Cts mdX12_open 2 42 [vr 12 0, vi p1, vi p2] S (Is (some (vi (f_X12_open S p1 p2).1)) ((f_X12_open S p1 p2).2)) := Cts.of dtX12_open (by decide +kernel) rfl rfl (Nat.le_of_ble_eq_true rfl) rfl (fun O G => w_X12_open p1 p2 h (fun _ _ h9 => ⟨by rw [h9], by rw [h9]⟩))
def f_X12_close (S : Mem) (p1 : Int32) : Int32 × Mem := lt (f_X12_isHolder S p1) (fun (v1 : Int32) => lt (if v1 = 0 then (1) else (lt (f_X12_hasAccount S p1) (fun (v4 : Int32) => if v4 = 0 then (nI 2) else (if 0 < (S.2.1 kAccounts (ix p1)) then (nI 2) else (lt (f_X12_isAwaited S p1) (fun (v9 : Int32) => if v9 = 0 then (0) else (nI 2))))))) (fun (v11 : Int32) => lt ((f_X12_holds S v11).2) (fun (S12 : Mem) => lt ((f_X12_holds S v11).1) (fun (v13 : Int32) => if v13 = 0 then ((0, S12)) else (lt ((S12.1, upd2 S12.2.1 kBankOf (ix p1) (-1), S12.2.2)) (fun (S17 : Mem) => (S12.2.1 kBankOf (ix p1), S17)))))))
def ok_X12_close (S : Mem) (p1 : Int32) : Prop := ((∀ v1 : Int32, (f_X12_isHolder S p1) = v1 → (((¬ (v1 = 0)) → ((ok_X12_hasAccount S p1) ∧ (∀ v4 : Int32, (f_X12_hasAccount S p1) = v4 → (((¬ (v4 = 0)) → ((inb p1 16) ∧ ((¬ (0 < (S.2.1 kAccounts (ix p1)))) → ((ok_X12_isAwaited S p1))))))))) ∧ (∀ v11 : Int32, (if v1 = 0 then (1) else (lt (f_X12_hasAccount S p1) (fun (v4 : Int32) => if v4 = 0 then (nI 2) else (if 0 < (S.2.1 kAccounts (ix p1)) then (nI 2) else (lt (f_X12_isAwaited S p1) (fun (v9 : Int32) => if v9 = 0 then (0) else (nI 2))))))) = v11 → ((∀ S12 : Mem, ((f_X12_holds S v11).2) = S12 → ((∀ v13 : Int32, ((f_X12_holds S v11).1) = v13 → (((¬ (v13 = 0)) → ((inb p1 16) ∧ (inb p1 16))))))))))))
abbrev fdX12_close : FD := (mdX12_close, [], 2, 42, 0, 0)
set_option maxRecDepth 100000 in
set_option maxHeartbeats 4000000 in
theorem w_X12_close {O : Om} {G : Cx} {S : Mem} {PP : Option AV → Mem → Prop} (p1 : Int32)   (h : ok_X12_close S p1) (hP : ∀ x9 S9, f_X12_close S p1 = (x9, S9) → PP (some (vi x9)) S9) : BW O G fdX12_close 0 0 (QV O G 0 0 PP) S 0 [some (vr 12 0), some (vi p1), none, none] [] := by
  refine a_iload_n (pc := 0) 0 0 rfl rfl ?_
  refine a_callSi (pc := 1) 0 1 (c_X12_isHolder (S := S) p1) rfl cs_X12_171 rfl (rm rfl) ?_
  refine a_seti (fun v1 ev1 => ?_)
  have h := h v1 ev1
  refine a_istore_n (pc := 4) 0 2 (ls2 := [some (vr 12 0), some (vi p1), some (vi v1), none]) rfl rfl (by decide) rfl ?_
  refine a_aload_n (pc := 5) 0 3 rfl rfl ?_
  refine a_iload_n (pc := 6) 0 4 rfl rfl ?_
  obtain ⟨hr0, h⟩ := h
  have J44_17 : ∀ (v11 : Int32) (ev11 : (if v1 = 0 then (1) else (lt (f_X12_hasAccount S p1) (fun (v4 : Int32) => if v4 = 0 then (nI 2) else (if 0 < (S.2.1 kAccounts (ix p1)) then (nI 2) else (lt (f_X12_isAwaited S p1) (fun (v9 : Int32) => if v9 = 0 then (0) else (nI 2))))))) = v11), BW O G fdX12_close 0 0 (QV O G 0 0 PP) S 44 [some (vr 12 0), some (vi p1), some (vi v1), none] [vi v11, vr 12 0] := by
    intro v11 ev11
    have h := h v11 ev11
    refine a_callVi (pc := 44) 0 24 (c_X12_holds (S := S) v11) rfl cv_X12_175 (by decide) rfl rfl rfl (rm rfl) ?_
    refine a_set (fun S12 eS12 => ?_)
    have h := h S12 eS12
    refine a_seti (fun v13 ev13 => ?_)
    have h := h v13 ev13
    refine a_if_ne (pc := 47) (tgt := 52) 0 25 rfl (by decide) (fun c47_13 => ?_) (fun c47_13 => ?_)
    · have h := h c47_13
      refine a_aload_n (pc := 52) 0 28 rfl rfl ?_
      refine g_12_bankOf (pc := 53) 0 29 rfl fl_X12_23 ?_
      refine a_iload_n (pc := 56) 0 30 rfl rfl ?_
      obtain ⟨o15, h⟩ := h
      refine e_26 (pc := 57) 0 31 (ix p1) rfl o15.1 o15.2 ?_
      refine a_istore_n (pc := 58) 0 32 (ls2 := [some (vr 12 0), some (vi p1), some (vi v1), some (vi (S12.2.1 kBankOf (ix p1)))]) rfl rfl (by decide) rfl ?_
      refine a_aload_n (pc := 59) 0 33 rfl rfl ?_
      refine g_12_bankOf (pc := 60) 0 34 rfl fl_X12_23 ?_
      refine a_iload_n (pc := 63) 0 35 rfl rfl ?_
      refine a_iconst (pc := 64) 0 36 (v := (-1)) rfl (by decide) ?_
      have o16 := h
      refine s_26 (pc := 65) 0 37 (ix p1) rfl o16.1 o16.2 ?_
      refine a_set (fun S17 eS17 => ?_)
      refine a_iload_n (pc := 66) 0 38 rfl rfl ?_
      exact a_iret (pc := 67) 0 39 rfl rfl (hP _ _ (by unfold f_X12_close; exact (lt_eq ev1).trans ((lt_eq ev11).trans ((lt_eq eS12).trans ((lt_eq ev13).trans ((if_neg c47_13).trans (lt_eq eS17)))))))
    · refine a_iconst (pc := 50) 0 26 (v := 0) rfl (by decide) ?_
      exact a_iret (pc := 51) 0 27 rfl rfl (hP _ _ (by unfold f_X12_close; exact (lt_eq ev1).trans ((lt_eq ev11).trans ((lt_eq eS12).trans ((lt_eq ev13).trans (if_pos c47_13))))))
  have h := hr0
  refine a_if_ne (pc := 7) (tgt := 14) 0 5 rfl (by decide) (fun c7_1 => ?_) (fun c7_1 => ?_)
  · have h := h c7_1
    refine a_aload_n (pc := 14) 0 8 rfl rfl ?_
    refine a_iload_n (pc := 15) 0 9 rfl rfl ?_
    obtain ⟨o3, h⟩ := h
    refine a_callVi (pc := 16) 0 10 (c_X12_hasAccount (S := S) p1 o3) rfl cv_X12_184 (by decide) rfl rfl rfl (rm rfl) ?_
    refine a_seti (fun v4 ev4 => ?_)
    have h := h v4 ev4
    refine a_if_eq (pc := 19) (tgt := 39) 0 11 rfl (by decide) (fun c19_4 => ?_) (fun c19_4 => ?_)
    · refine a_iconst (pc := 39) 0 21 (v := nI 2) rfl (by decide) ?_
      refine a_goto (pc := 40) (tgt := 44) 0 22 rfl (by decide) ?_
      exact J44_17 _ (by exact ((if_neg c7_1).trans ((lt_eq ev4).trans (if_pos c19_4))))
    · have h := h c19_4
      refine a_aload_n (pc := 22) 0 12 rfl rfl ?_
      refine g_12_accounts (pc := 23) 0 13 rfl fl_X12_26 ?_
      refine a_iload_n (pc := 26) 0 14 rfl rfl ?_
      obtain ⟨o6, h⟩ := h
      refine e_27 (pc := 27) 0 15 (ix p1) rfl o6.1 o6.2 ?_
      refine a_if_gt (pc := 28) (tgt := 39) 0 16 rfl (by decide) (fun c28_6 => ?_) (fun c28_6 => ?_)
      · refine a_iconst (pc := 39) 0 21 (v := nI 2) rfl (by decide) ?_
        refine a_goto (pc := 40) (tgt := 44) 0 22 rfl (by decide) ?_
        exact J44_17 _ (by exact ((if_neg c7_1).trans ((lt_eq ev4).trans ((if_neg c19_4).trans (if_pos c28_6)))))
      · have h := h c28_6
        refine a_aload_n (pc := 31) 0 17 rfl rfl ?_
        refine a_iload_n (pc := 32) 0 18 rfl rfl ?_
        have o8 := h
        refine a_callVi (pc := 33) 0 19 (c_X12_isAwaited (S := S) p1 o8) rfl cv_X12_190 (by decide) rfl rfl rfl (rm rfl) ?_
        refine a_seti (fun v9 ev9 => ?_)
        refine a_if_eq (pc := 36) (tgt := 43) 0 20 rfl (by decide) (fun c36_9 => ?_) (fun c36_9 => ?_)
        · refine a_iconst (pc := 43) 0 23 (v := 0) rfl (by decide) ?_
          exact J44_17 _ (by exact ((if_neg c7_1).trans ((lt_eq ev4).trans ((if_neg c19_4).trans ((if_neg c28_6).trans ((lt_eq ev9).trans (if_pos c36_9)))))))
        · refine a_iconst (pc := 39) 0 21 (v := nI 2) rfl (by decide) ?_
          refine a_goto (pc := 40) (tgt := 44) 0 22 rfl (by decide) ?_
          exact J44_17 _ (by exact ((if_neg c7_1).trans ((lt_eq ev4).trans ((if_neg c19_4).trans ((if_neg c28_6).trans ((lt_eq ev9).trans (if_neg c36_9)))))))
  · refine a_iconst (pc := 10) 0 6 (v := 1) rfl (by decide) ?_
    refine a_goto (pc := 11) (tgt := 44) 0 7 rfl (by decide) ?_
    exact J44_17 _ (by exact (if_pos c7_1))
theorem c_X12_close {S : Mem} (p1 : Int32)   (h : ok_X12_close S p1) : Cts mdX12_close 2 42 [vr 12 0, vi p1] S (Is (some (vi (f_X12_close S p1).1)) ((f_X12_close S p1).2)) := Cts.of dtX12_close (by decide +kernel) rfl rfl (Nat.le_of_ble_eq_true rfl) rfl (fun O G => w_X12_close p1 h (fun _ _ h9 => ⟨by rw [h9], by rw [h9]⟩))
def f_X12_bring (S : Mem) (p1 : Int32) (p2 : Int32) : Int32 × Mem := lt (f_X12_isHolder S p1) (fun (v1 : Int32) => lt (if v1 = 0 then (1) else (lt (f_X12_in S p2 1 (nI 10000)) (fun (v3 : Int32) => if v3 = 0 then (nI 2) else (lt (f_X12_hasAccount S p1) (fun (v6 : Int32) => if v6 = 0 then (nI 3) else (if p2 ≤ (S.2.1 kNotes (ix p1)) then (0) else (nI 3))))))) (fun (v10 : Int32) => lt ((f_X12_holds S v10).2) (fun (S11 : Mem) => lt ((f_X12_holds S v10).1) (fun (v12 : Int32) => if v12 = 0 then ((0, S11)) else (lt ((f_X12_leave S11 p1 p2).2) (fun (S15 : Mem) => lt ((f_X12_leave S11 p1 p2).1) (fun (v16 : Int32) => lt ((S15.1, upd2 S15.2.1 kVaults (ix (S15.2.1 kBankOf (ix p1))) ((S15.2.1 kVaults (ix (S15.2.1 kBankOf (ix p1)))) + (p2 - v16)), S15.2.2)) (fun (S20 : Mem) => lt ((S20.1, upd2 S20.2.1 kAccounts (ix p1) ((S20.2.1 kAccounts (ix p1)) + (p2 - v16)), S20.2.2)) (fun (S23 : Mem) => (p2 - v16, S23))))))))))
def ok_X12_bring (S : Mem) (p1 : Int32) (p2 : Int32) : Prop := ((∀ v1 : Int32, (f_X12_isHolder S p1) = v1 → (((¬ (v1 = 0)) → ((∀ v3 : Int32, (f_X12_in S p2 1 (nI 10000)) = v3 → (((¬ (v3 = 0)) → ((ok_X12_hasAccount S p1) ∧ (∀ v6 : Int32, (f_X12_hasAccount S p1) = v6 → (((¬ (v6 = 0)) → ((inb p1 16))))))))))) ∧ (∀ v10 : Int32, (if v1 = 0 then (1) else (lt (f_X12_in S p2 1 (nI 10000)) (fun (v3 : Int32) => if v3 = 0 then (nI 2) else (lt (f_X12_hasAccount S p1) (fun (v6 : Int32) => if v6 = 0 then (nI 3) else (if p2 ≤ (S.2.1 kNotes (ix p1)) then (0) else (nI 3))))))) = v10 → ((∀ S11 : Mem, ((f_X12_holds S v10).2) = S11 → ((∀ v12 : Int32, ((f_X12_holds S v10).1) = v12 → (((¬ (v12 = 0)) → ((ok_X12_leave S11 p1 p2) ∧ (∀ S15 : Mem, ((f_X12_leave S11 p1 p2).2) = S15 → ((∀ v16 : Int32, ((f_X12_leave S11 p1 p2).1) = v16 → ((inb p1 16) ∧ (inb (S15.2.1 kBankOf (ix p1)) 4) ∧ (inb (S15.2.1 kBankOf (ix p1)) 4) ∧ (∀ S20 : Mem, ((S15.1, upd2 S15.2.1 kVaults (ix (S15.2.1 kBankOf (ix p1))) ((S15.2.1 kVaults (ix (S15.2.1 kBankOf (ix p1)))) + (p2 - v16)), S15.2.2)) = S20 → ((inb p1 16) ∧ (inb p1 16))))))))))))))))))
abbrev fdX12_bring : FD := (mdX12_bring, [], 2, 42, 0, 0)
set_option maxRecDepth 100000 in
set_option maxHeartbeats 4000000 in
theorem w_X12_bring {O : Om} {G : Cx} {S : Mem} {PP : Option AV → Mem → Prop} (p1 : Int32) (p2 : Int32)   (h : ok_X12_bring S p1 p2) (hP : ∀ x9 S9, f_X12_bring S p1 p2 = (x9, S9) → PP (some (vi x9)) S9) : BW O G fdX12_bring 0 0 (QV O G 0 0 PP) S 0 [some (vr 12 0), some (vi p1), some (vi p2), none, none] [] := by
  refine a_iload_n (pc := 0) 0 0 rfl rfl ?_
  refine a_callSi (pc := 1) 0 1 (c_X12_isHolder (S := S) p1) rfl cs_X12_171 rfl (rm rfl) ?_
  refine a_seti (fun v1 ev1 => ?_)
  have h := h v1 ev1
  refine a_istore_n (pc := 4) 0 2 (ls2 := [some (vr 12 0), some (vi p1), some (vi p2), some (vi v1), none]) rfl rfl (by decide) rfl ?_
  refine a_aload_n (pc := 5) 0 3 rfl rfl ?_
  refine a_iload_n (pc := 6) 0 4 rfl rfl ?_
  obtain ⟨hr0, h⟩ := h
  have J52_23 : ∀ (v10 : Int32) (ev10 : (if v1 = 0 then (1) else (lt (f_X12_in S p2 1 (nI 10000)) (fun (v3 : Int32) => if v3 = 0 then (nI 2) else (lt (f_X12_hasAccount S p1) (fun (v6 : Int32) => if v6 = 0 then (nI 3) else (if p2 ≤ (S.2.1 kNotes (ix p1)) then (0) else (nI 3))))))) = v10), BW O G fdX12_bring 0 0 (QV O G 0 0 PP) S 52 [some (vr 12 0), some (vi p1), some (vi p2), some (vi v1), none] [vi v10, vr 12 0] := by
    intro v10 ev10
    have h := h v10 ev10
    refine a_callVi (pc := 52) 0 28 (c_X12_holds (S := S) v10) rfl cv_X12_175 (by decide) rfl rfl rfl (rm rfl) ?_
    refine a_set (fun S11 eS11 => ?_)
    have h := h S11 eS11
    refine a_seti (fun v12 ev12 => ?_)
    have h := h v12 ev12
    refine a_if_ne (pc := 55) (tgt := 60) 0 29 rfl (by decide) (fun c55_12 => ?_) (fun c55_12 => ?_)
    · have h := h c55_12
      refine a_iload_n (pc := 60) 0 32 rfl rfl ?_
      refine a_aload_n (pc := 61) 0 33 rfl rfl ?_
      refine a_iload_n (pc := 62) 0 34 rfl rfl ?_
      refine a_iload_n (pc := 63) 0 35 rfl rfl ?_
      obtain ⟨o14, h⟩ := h
      refine a_callVi (pc := 64) 0 36 (c_X12_leave (S := S11) p1 p2 o14) rfl cv_X12_178 (by decide) rfl rfl rfl (rm rfl) ?_
      refine a_set (fun S15 eS15 => ?_)
      have h := h S15 eS15
      refine a_seti (fun v16 ev16 => ?_)
      have h := h v16 ev16
      refine a_isub (pc := 67) 0 37 rfl ?_
      refine a_istore (pc := 68) 0 38 (ls2 := [some (vr 12 0), some (vi p1), some (vi p2), some (vi v1), some (vi (p2 - v16))]) rfl (by decide) rfl ?_
      refine a_aload_n (pc := 70) 0 39 rfl rfl ?_
      refine g_12_vaults (pc := 71) 0 40 rfl fl_X12_53 ?_
      refine a_aload_n (pc := 74) 0 41 rfl rfl ?_
      refine g_12_bankOf (pc := 75) 0 42 rfl fl_X12_23 ?_
      refine a_iload_n (pc := 78) 0 43 rfl rfl ?_
      obtain ⟨o17, h⟩ := h
      refine e_26 (pc := 79) 0 44 (ix p1) rfl o17.1 o17.2 ?_
      refine a_dup2 (pc := 80) 0 45 rfl rfl rfl ?_
      obtain ⟨o18, h⟩ := h
      refine e_36 (pc := 81) 0 46 (ix (S15.2.1 kBankOf (ix p1))) rfl o18.1 o18.2 ?_
      refine a_iload (pc := 82) 0 47 rfl rfl ?_
      refine a_iadd (pc := 84) 1 0 rfl ?_
      obtain ⟨o19, h⟩ := h
      refine s_36 (pc := 85) 1 1 (ix (S15.2.1 kBankOf (ix p1))) rfl o19.1 o19.2 ?_
      refine a_set (fun S20 eS20 => ?_)
      have h := h S20 eS20
      refine a_aload_n (pc := 86) 1 2 rfl rfl ?_
      refine g_12_accounts (pc := 87) 1 3 rfl fl_X12_26 ?_
      refine a_iload_n (pc := 90) 1 4 rfl rfl ?_
      refine a_dup2 (pc := 91) 1 5 rfl rfl rfl ?_
      obtain ⟨o21, h⟩ := h
      refine e_27 (pc := 92) 1 6 (ix p1) rfl o21.1 o21.2 ?_
      refine a_iload (pc := 93) 1 7 rfl rfl ?_
      refine a_iadd (pc := 95) 1 8 rfl ?_
      have o22 := h
      refine s_27 (pc := 96) 1 9 (ix p1) rfl o22.1 o22.2 ?_
      refine a_set (fun S23 eS23 => ?_)
      refine a_iload (pc := 97) 1 10 rfl rfl ?_
      exact a_iret (pc := 99) 1 11 rfl rfl (hP _ _ (by unfold f_X12_bring; exact (lt_eq ev1).trans ((lt_eq ev10).trans ((lt_eq eS11).trans ((lt_eq ev12).trans ((if_neg c55_12).trans ((lt_eq eS15).trans ((lt_eq ev16).trans ((lt_eq eS20).trans (lt_eq eS23))))))))))
    · refine a_iconst (pc := 58) 0 30 (v := 0) rfl (by decide) ?_
      exact a_iret (pc := 59) 0 31 rfl rfl (hP _ _ (by unfold f_X12_bring; exact (lt_eq ev1).trans ((lt_eq ev10).trans ((lt_eq eS11).trans ((lt_eq ev12).trans (if_pos c55_12))))))
  have h := hr0
  refine a_if_ne (pc := 7) (tgt := 14) 0 5 rfl (by decide) (fun c7_1 => ?_) (fun c7_1 => ?_)
  · have h := h c7_1
    refine a_iload_n (pc := 14) 0 8 rfl rfl ?_
    refine a_iconst (pc := 15) 0 9 (v := 1) rfl (by decide) ?_
    refine a_sipush (pc := 16) 0 10 (v := nI 10000) rfl (by decide) ?_
    refine a_callSi (pc := 19) 0 11 (c_X12_in (S := S) p2 1 (nI 10000)) rfl cs_X12_141 rfl (rm rfl) ?_
    refine a_seti (fun v3 ev3 => ?_)
    have h := h v3 ev3
    refine a_if_ne (pc := 22) (tgt := 29) 0 12 rfl (by decide) (fun c22_3 => ?_) (fun c22_3 => ?_)
    · have h := h c22_3
      refine a_aload_n (pc := 29) 0 15 rfl rfl ?_
      refine a_iload_n (pc := 30) 0 16 rfl rfl ?_
      obtain ⟨o5, h⟩ := h
      refine a_callVi (pc := 31) 0 17 (c_X12_hasAccount (S := S) p1 o5) rfl cv_X12_184 (by decide) rfl rfl rfl (rm rfl) ?_
      refine a_seti (fun v6 ev6 => ?_)
      have h := h v6 ev6
      refine a_if_eq (pc := 34) (tgt := 47) 0 18 rfl (by decide) (fun c34_6 => ?_) (fun c34_6 => ?_)
      · refine a_iconst (pc := 47) 0 25 (v := nI 3) rfl (by decide) ?_
        refine a_goto (pc := 48) (tgt := 52) 0 26 rfl (by decide) ?_
        exact J52_23 _ (by exact ((if_neg c7_1).trans ((lt_eq ev3).trans ((if_neg c22_3).trans ((lt_eq ev6).trans (if_pos c34_6))))))
      · have h := h c34_6
        refine a_aload_n (pc := 37) 0 19 rfl rfl ?_
        refine g_12_notes (pc := 38) 0 20 rfl fl_X12_16 ?_
        refine a_iload_n (pc := 41) 0 21 rfl rfl ?_
        have o8 := h
        refine e_24 (pc := 42) 0 22 (ix p1) rfl o8.1 o8.2 ?_
        refine a_iload_n (pc := 43) 0 23 rfl rfl ?_
        refine a_icmp_ge (pc := 44) (tgt := 51) 0 24 rfl (by decide) (fun c44_8 => ?_) (fun c44_8 => ?_)
        · refine a_iconst (pc := 51) 0 27 (v := 0) rfl (by decide) ?_
          exact J52_23 _ (by exact ((if_neg c7_1).trans ((lt_eq ev3).trans ((if_neg c22_3).trans ((lt_eq ev6).trans ((if_neg c34_6).trans (if_pos c44_8)))))))
        · refine a_iconst (pc := 47) 0 25 (v := nI 3) rfl (by decide) ?_
          refine a_goto (pc := 48) (tgt := 52) 0 26 rfl (by decide) ?_
          exact J52_23 _ (by exact ((if_neg c7_1).trans ((lt_eq ev3).trans ((if_neg c22_3).trans ((lt_eq ev6).trans ((if_neg c34_6).trans (if_neg c44_8)))))))
    · refine a_iconst (pc := 25) 0 13 (v := nI 2) rfl (by decide) ?_
      refine a_goto (pc := 26) (tgt := 52) 0 14 rfl (by decide) ?_
      exact J52_23 _ (by exact ((if_neg c7_1).trans ((lt_eq ev3).trans (if_pos c22_3))))
  · refine a_iconst (pc := 10) 0 6 (v := 1) rfl (by decide) ?_
    refine a_goto (pc := 11) (tgt := 52) 0 7 rfl (by decide) ?_
    exact J52_23 _ (by exact (if_pos c7_1))
theorem c_X12_bring {S : Mem} (p1 : Int32) (p2 : Int32)   (h : ok_X12_bring S p1 p2) : Cts mdX12_bring 2 42 [vr 12 0, vi p1, vi p2] S (Is (some (vi (f_X12_bring S p1 p2).1)) ((f_X12_bring S p1 p2).2)) := Cts.of dtX12_bring (by decide +kernel) rfl rfl (Nat.le_of_ble_eq_true rfl) rfl (fun O G => w_X12_bring p1 p2 h (fun _ _ h9 => ⟨by rw [h9], by rw [h9]⟩))
def f_X12_draw (S : Mem) (p1 : Int32) (p2 : Int32) : Int32 × Mem := lt (f_X12_isHolder S p1) (fun (v1 : Int32) => lt (if v1 = 0 then (0) else (lt (f_X12_hasAccount S p1) (fun (v4 : Int32) => if v4 = 0 then (0) else (lt (f_X12_free S p1) (fun (v7 : Int32) => if v7 < p2 then (0) else (1)))))) (fun (v9 : Int32) => lt (if v1 = 0 then (1) else (lt (f_X12_in S p2 1 (nI 10000)) (fun (v11 : Int32) => if v11 = 0 then (nI 2) else (if v9 = 0 then (nI 3) else (0))))) (fun (v14 : Int32) => lt ((f_X12_holds S v14).2) (fun (S15 : Mem) => lt ((f_X12_holds S v14).1) (fun (v16 : Int32) => lt (if v16 = 0 then (0) else (lt ((f_X12_draws S15 p1 p2).2) (fun (S19 : Mem) => lt ((f_X12_draws S15 p1 p2).1) (fun (v20 : Int32) => v20)))) (fun (v21 : Int32) => lt (if v16 = 0 then (S15) else (lt ((f_X12_draws S15 p1 p2).2) (fun (S19 : Mem) => lt ((f_X12_draws S15 p1 p2).1) (fun (v20 : Int32) => S19)))) (fun (S22 : Mem) => (v21, S22))))))))
def ok_X12_draw (S : Mem) (p1 : Int32) (p2 : Int32) : Prop := ((∀ v1 : Int32, (f_X12_isHolder S p1) = v1 → (((¬ (v1 = 0)) → ((ok_X12_hasAccount S p1) ∧ (∀ v4 : Int32, (f_X12_hasAccount S p1) = v4 → (((¬ (v4 = 0)) → ((ok_X12_free S p1))))))) ∧ (∀ v9 : Int32, (if v1 = 0 then (0) else (lt (f_X12_hasAccount S p1) (fun (v4 : Int32) => if v4 = 0 then (0) else (lt (f_X12_free S p1) (fun (v7 : Int32) => if v7 < p2 then (0) else (1)))))) = v9 → ((∀ v14 : Int32, (if v1 = 0 then (1) else (lt (f_X12_in S p2 1 (nI 10000)) (fun (v11 : Int32) => if v11 = 0 then (nI 2) else (if v9 = 0 then (nI 3) else (0))))) = v14 → ((∀ S15 : Mem, ((f_X12_holds S v14).2) = S15 → ((∀ v16 : Int32, ((f_X12_holds S v14).1) = v16 → (((¬ (v16 = 0)) → ((ok_X12_draws S15 p1 p2))))))))))))))
abbrev fdX12_draw : FD := (mdX12_draw, [], 3, 80, 0, 0)
set_option maxRecDepth 100000 in
set_option maxHeartbeats 4000000 in
theorem w_X12_draw {O : Om} {G : Cx} {S : Mem} {PP : Option AV → Mem → Prop} (p1 : Int32) (p2 : Int32)   (h : ok_X12_draw S p1 p2) (hP : ∀ x9 S9, f_X12_draw S p1 p2 = (x9, S9) → PP (some (vi x9)) S9) : BW O G fdX12_draw 0 0 (QV O G 0 0 PP) S 0 [some (vr 12 0), some (vi p1), some (vi p2), none, none] [] := by
  refine a_iload_n (pc := 0) 0 0 rfl rfl ?_
  refine a_callSi (pc := 1) 0 1 (c_X12_isHolder (S := S) p1) rfl cs_X12_171 rfl (rm rfl) ?_
  refine a_seti (fun v1 ev1 => ?_)
  have h := h v1 ev1
  refine a_istore_n (pc := 4) 0 2 (ls2 := [some (vr 12 0), some (vi p1), some (vi p2), some (vi v1), none]) rfl rfl (by decide) rfl ?_
  refine a_iload_n (pc := 5) 0 3 rfl rfl ?_
  obtain ⟨hr0, h⟩ := h
  have J31_22 : ∀ (v9 : Int32) (ev9 : (if v1 = 0 then (0) else (lt (f_X12_hasAccount S p1) (fun (v4 : Int32) => if v4 = 0 then (0) else (lt (f_X12_free S p1) (fun (v7 : Int32) => if v7 < p2 then (0) else (1)))))) = v9), BW O G fdX12_draw 0 0 (QV O G 0 0 PP) S 31 [some (vr 12 0), some (vi p1), some (vi p2), some (vi v1), none] [vi v9] := by
    intro v9 ev9
    have h := h v9 ev9
    refine a_istore (pc := 31) 0 17 (ls2 := [some (vr 12 0), some (vi p1), some (vi p2), some (vi v1), some (vi v9)]) rfl (by decide) rfl ?_
    refine a_aload_n (pc := 33) 0 18 rfl rfl ?_
    refine a_iload_n (pc := 34) 0 19 rfl rfl ?_
    have J67_23 : ∀ (v14 : Int32) (ev14 : (if v1 = 0 then (1) else (lt (f_X12_in S p2 1 (nI 10000)) (fun (v11 : Int32) => if v11 = 0 then (nI 2) else (if v9 = 0 then (nI 3) else (0))))) = v14), BW O G fdX12_draw 0 0 (QV O G 0 0 PP) S 67 [some (vr 12 0), some (vi p1), some (vi p2), some (vi v1), some (vi v9)] [vi v14, vr 12 0] := by
      intro v14 ev14
      have h := h v14 ev14
      refine a_callVi (pc := 67) 0 35 (c_X12_holds (S := S) v14) rfl cv_X12_175 (by decide) rfl rfl rfl (rm rfl) ?_
      refine a_set (fun S15 eS15 => ?_)
      have h := h S15 eS15
      refine a_seti (fun v16 ev16 => ?_)
      have h := h v16 ev16
      have J83_24 : ∀ (v21 : Int32) (ev21 : (if v16 = 0 then (0) else (lt ((f_X12_draws S15 p1 p2).2) (fun (S19 : Mem) => lt ((f_X12_draws S15 p1 p2).1) (fun (v20 : Int32) => v20)))) = v21) (S22 : Mem) (eS22 : (if v16 = 0 then (S15) else (lt ((f_X12_draws S15 p1 p2).2) (fun (S19 : Mem) => lt ((f_X12_draws S15 p1 p2).1) (fun (v20 : Int32) => S19)))) = S22), BW O G fdX12_draw 0 0 (QV O G 0 0 PP) S22 83 [some (vr 12 0), some (vi p1), some (vi p2), some (vi v1), some (vi v9)] [vi v21] := by
        intro v21 ev21 S22 eS22
        exact a_iret (pc := 83) 0 43 rfl rfl (hP _ _ (by unfold f_X12_draw; exact (lt_eq ev1).trans ((lt_eq ev9).trans ((lt_eq ev14).trans ((lt_eq eS15).trans ((lt_eq ev16).trans ((lt_eq ev21).trans (lt_eq eS22))))))))
      refine a_if_eq (pc := 70) (tgt := 82) 0 36 rfl (by decide) (fun c70_16 => ?_) (fun c70_16 => ?_)
      · refine a_iconst (pc := 82) 0 42 (v := 0) rfl (by decide) ?_
        exact J83_24 _ (by exact (if_pos c70_16)) _ (by exact (if_pos c70_16))
      · have h := h c70_16
        refine a_aload_n (pc := 73) 0 37 rfl rfl ?_
        refine a_iload_n (pc := 74) 0 38 rfl rfl ?_
        refine a_iload_n (pc := 75) 0 39 rfl rfl ?_
        have o18 := h
        refine a_callVi (pc := 76) 0 40 (c_X12_draws (S := S15) p1 p2 o18) rfl cv_X12_205 (by decide) rfl rfl rfl (rm rfl) ?_
        refine a_set (fun S19 eS19 => ?_)
        refine a_seti (fun v20 ev20 => ?_)
        refine a_goto (pc := 79) (tgt := 83) 0 41 rfl (by decide) ?_
        exact J83_24 _ (by exact ((if_neg c70_16).trans ((lt_eq eS19).trans (lt_eq ev20)))) _ (by exact ((if_neg c70_16).trans ((lt_eq eS19).trans (lt_eq ev20))))
    refine a_if_ne (pc := 35) (tgt := 42) 0 20 rfl (by decide) (fun c35_9 => ?_) (fun c35_9 => ?_)
    · refine a_iload_n (pc := 42) 0 23 rfl rfl ?_
      refine a_iconst (pc := 43) 0 24 (v := 1) rfl (by decide) ?_
      refine a_sipush (pc := 44) 0 25 (v := nI 10000) rfl (by decide) ?_
      refine a_callSi (pc := 47) 0 26 (c_X12_in (S := S) p2 1 (nI 10000)) rfl cs_X12_141 rfl (rm rfl) ?_
      refine a_seti (fun v11 ev11 => ?_)
      refine a_if_ne (pc := 50) (tgt := 57) 0 27 rfl (by decide) (fun c50_11 => ?_) (fun c50_11 => ?_)
      · refine a_iload (pc := 57) 0 30 rfl rfl ?_
        refine a_if_eq (pc := 59) (tgt := 66) 0 31 rfl (by decide) (fun c59_12 => ?_) (fun c59_12 => ?_)
        · refine a_iconst (pc := 66) 0 34 (v := nI 3) rfl (by decide) ?_
          exact J67_23 _ (by exact ((if_neg c35_9).trans ((lt_eq ev11).trans ((if_neg c50_11).trans (if_pos c59_12)))))
        · refine a_iconst (pc := 62) 0 32 (v := 0) rfl (by decide) ?_
          refine a_goto (pc := 63) (tgt := 67) 0 33 rfl (by decide) ?_
          exact J67_23 _ (by exact ((if_neg c35_9).trans ((lt_eq ev11).trans ((if_neg c50_11).trans (if_neg c59_12)))))
      · refine a_iconst (pc := 53) 0 28 (v := nI 2) rfl (by decide) ?_
        refine a_goto (pc := 54) (tgt := 67) 0 29 rfl (by decide) ?_
        exact J67_23 _ (by exact ((if_neg c35_9).trans ((lt_eq ev11).trans (if_pos c50_11))))
    · refine a_iconst (pc := 38) 0 21 (v := 1) rfl (by decide) ?_
      refine a_goto (pc := 39) (tgt := 67) 0 22 rfl (by decide) ?_
      exact J67_23 _ (by exact (if_pos c35_9))
  have h := hr0
  refine a_if_eq (pc := 6) (tgt := 30) 0 4 rfl (by decide) (fun c6_1 => ?_) (fun c6_1 => ?_)
  · refine a_iconst (pc := 30) 0 16 (v := 0) rfl (by decide) ?_
    exact J31_22 _ (by exact (if_pos c6_1))
  · have h := h c6_1
    refine a_aload_n (pc := 9) 0 5 rfl rfl ?_
    refine a_iload_n (pc := 10) 0 6 rfl rfl ?_
    obtain ⟨o3, h⟩ := h
    refine a_callVi (pc := 11) 0 7 (c_X12_hasAccount (S := S) p1 o3) rfl cv_X12_184 (by decide) rfl rfl rfl (rm rfl) ?_
    refine a_seti (fun v4 ev4 => ?_)
    have h := h v4 ev4
    refine a_if_eq (pc := 14) (tgt := 30) 0 8 rfl (by decide) (fun c14_4 => ?_) (fun c14_4 => ?_)
    · refine a_iconst (pc := 30) 0 16 (v := 0) rfl (by decide) ?_
      exact J31_22 _ (by exact ((if_neg c6_1).trans ((lt_eq ev4).trans (if_pos c14_4))))
    · have h := h c14_4
      refine a_aload_n (pc := 17) 0 9 rfl rfl ?_
      refine a_iload_n (pc := 18) 0 10 rfl rfl ?_
      have o6 := h
      refine a_callVi (pc := 19) 0 11 (c_X12_free (S := S) p1 o6) rfl cv_X12_202 (by decide) rfl rfl rfl (rm rfl) ?_
      refine a_seti (fun v7 ev7 => ?_)
      refine a_iload_n (pc := 22) 0 12 rfl rfl ?_
      refine a_icmp_lt (pc := 23) (tgt := 30) 0 13 rfl (by decide) (fun c23_7 => ?_) (fun c23_7 => ?_)
      · refine a_iconst (pc := 30) 0 16 (v := 0) rfl (by decide) ?_
        exact J31_22 _ (by exact ((if_neg c6_1).trans ((lt_eq ev4).trans ((if_neg c14_4).trans ((lt_eq ev7).trans (if_pos c23_7))))))
      · refine a_iconst (pc := 26) 0 14 (v := 1) rfl (by decide) ?_
        refine a_goto (pc := 27) (tgt := 31) 0 15 rfl (by decide) ?_
        exact J31_22 _ (by exact ((if_neg c6_1).trans ((lt_eq ev4).trans ((if_neg c14_4).trans ((lt_eq ev7).trans (if_neg c23_7))))))
theorem c_X12_draw {S : Mem} (p1 : Int32) (p2 : Int32)   (h : ok_X12_draw S p1 p2) : Cts mdX12_draw 3 80 [vr 12 0, vi p1, vi p2] S (Is (some (vi (f_X12_draw S p1 p2).1)) ((f_X12_draw S p1 p2).2)) := Cts.of dtX12_draw (by decide +kernel) rfl rfl (Nat.le_of_ble_eq_true rfl) rfl (fun O G => w_X12_draw p1 p2 h (fun _ _ h9 => ⟨by rw [h9], by rw [h9]⟩))
def f_X12_pay (S : Mem) (p1 : Int32) (p2 : Int32) (p3 : Int32) : Int32 × Mem := lt (f_X12_isHolder S p1) (fun (v1 : Int32) => lt (if v1 = 0 then (0) else (lt (f_X12_isHolder S p2) (fun (v3 : Int32) => if v3 = 0 then (0) else (1)))) (fun (v5 : Int32) => lt (if v5 = 0 then (0) else (if p1 = p2 then (0) else (lt (f_X12_in S p3 1 (nI 10000)) (fun (v8 : Int32) => if v8 = 0 then (0) else (1))))) (fun (v10 : Int32) => lt (if v5 = 0 then (1) else (if v10 = 0 then (nI 2) else (lt (f_X12_mayPay S p1 p2 p3) (fun (v14 : Int32) => if v14 = 0 then (nI 3) else (0))))) (fun (v16 : Int32) => lt ((f_X12_holds S v16).2) (fun (S17 : Mem) => lt ((f_X12_holds S v16).1) (fun (v18 : Int32) => lt (if v18 = 0 then (0) else (lt ((f_X12_pays S17 p1 p2 p3 0).2) (fun (S21 : Mem) => lt ((f_X12_pays S17 p1 p2 p3 0).1) (fun (v22 : Int32) => v22)))) (fun (v23 : Int32) => lt (if v18 = 0 then (S17) else (lt ((f_X12_pays S17 p1 p2 p3 0).2) (fun (S21 : Mem) => lt ((f_X12_pays S17 p1 p2 p3 0).1) (fun (v22 : Int32) => S21)))) (fun (S24 : Mem) => (v23, S24)))))))))
def ok_X12_pay (S : Mem) (p1 : Int32) (p2 : Int32) (p3 : Int32) : Prop := ((∀ v1 : Int32, (f_X12_isHolder S p1) = v1 → ((∀ v5 : Int32, (if v1 = 0 then (0) else (lt (f_X12_isHolder S p2) (fun (v3 : Int32) => if v3 = 0 then (0) else (1)))) = v5 → ((∀ v10 : Int32, (if v5 = 0 then (0) else (if p1 = p2 then (0) else (lt (f_X12_in S p3 1 (nI 10000)) (fun (v8 : Int32) => if v8 = 0 then (0) else (1))))) = v10 → (((¬ (v5 = 0)) → (((¬ (v10 = 0)) → ((ok_X12_mayPay S p1 p2 p3))))) ∧ (∀ v16 : Int32, (if v5 = 0 then (1) else (if v10 = 0 then (nI 2) else (lt (f_X12_mayPay S p1 p2 p3) (fun (v14 : Int32) => if v14 = 0 then (nI 3) else (0))))) = v16 → ((∀ S17 : Mem, ((f_X12_holds S v16).2) = S17 → ((∀ v18 : Int32, ((f_X12_holds S v16).1) = v18 → (((¬ (v18 = 0)) → ((ok_X12_pays S17 p1 p2 p3 0))))))))))))))))
abbrev fdX12_pay : FD := (mdX12_pay, [], 2, 46, 0, 0)
set_option maxRecDepth 100000 in
set_option maxHeartbeats 4000000 in
theorem w_X12_pay {O : Om} {G : Cx} {S : Mem} {PP : Option AV → Mem → Prop} (p1 : Int32) (p2 : Int32) (p3 : Int32)   (h : ok_X12_pay S p1 p2 p3) (hP : ∀ x9 S9, f_X12_pay S p1 p2 p3 = (x9, S9) → PP (some (vi x9)) S9) : BW O G fdX12_pay 0 0 (QV O G 0 0 PP) S 0 [some (vr 12 0), some (vi p1), some (vi p2), some (vi p3), none, none] [] := by
  refine a_iload_n (pc := 0) 0 0 rfl rfl ?_
  refine a_callSi (pc := 1) 0 1 (c_X12_isHolder (S := S) p1) rfl cs_X12_171 rfl (rm rfl) ?_
  refine a_seti (fun v1 ev1 => ?_)
  have h := h v1 ev1
  have J19_24 : ∀ (v5 : Int32) (ev5 : (if v1 = 0 then (0) else (lt (f_X12_isHolder S p2) (fun (v3 : Int32) => if v3 = 0 then (0) else (1)))) = v5), BW O G fdX12_pay 0 0 (QV O G 0 0 PP) S 19 [some (vr 12 0), some (vi p1), some (vi p2), some (vi p3), none, none] [vi v5] := by
    intro v5 ev5
    have h := h v5 ev5
    refine a_istore (pc := 19) 0 9 (ls2 := [some (vr 12 0), some (vi p1), some (vi p2), some (vi p3), some (vi v5), none]) rfl (by decide) rfl ?_
    refine a_iload (pc := 21) 0 10 rfl rfl ?_
    have J47_25 : ∀ (v10 : Int32) (ev10 : (if v5 = 0 then (0) else (if p1 = p2 then (0) else (lt (f_X12_in S p3 1 (nI 10000)) (fun (v8 : Int32) => if v8 = 0 then (0) else (1))))) = v10), BW O G fdX12_pay 0 0 (QV O G 0 0 PP) S 47 [some (vr 12 0), some (vi p1), some (vi p2), some (vi p3), some (vi v5), none] [vi v10] := by
      intro v10 ev10
      have h := h v10 ev10
      refine a_istore (pc := 47) 0 23 (ls2 := [some (vr 12 0), some (vi p1), some (vi p2), some (vi p3), some (vi v5), some (vi v10)]) rfl (by decide) rfl ?_
      refine a_aload_n (pc := 49) 0 24 rfl rfl ?_
      refine a_iload (pc := 50) 0 25 rfl rfl ?_
      obtain ⟨hr0, h⟩ := h
      have J83_26 : ∀ (v16 : Int32) (ev16 : (if v5 = 0 then (1) else (if v10 = 0 then (nI 2) else (lt (f_X12_mayPay S p1 p2 p3) (fun (v14 : Int32) => if v14 = 0 then (nI 3) else (0))))) = v16), BW O G fdX12_pay 0 0 (QV O G 0 0 PP) S 83 [some (vr 12 0), some (vi p1), some (vi p2), some (vi p3), some (vi v5), some (vi v10)] [vi v16, vr 12 0] := by
        intro v16 ev16
        have h := h v16 ev16
        refine a_callVi (pc := 83) 0 42 (c_X12_holds (S := S) v16) rfl cv_X12_175 (by decide) rfl rfl rfl (rm rfl) ?_
        refine a_set (fun S17 eS17 => ?_)
        have h := h S17 eS17
        refine a_seti (fun v18 ev18 => ?_)
        have h := h v18 ev18
        have J101_27 : ∀ (v23 : Int32) (ev23 : (if v18 = 0 then (0) else (lt ((f_X12_pays S17 p1 p2 p3 0).2) (fun (S21 : Mem) => lt ((f_X12_pays S17 p1 p2 p3 0).1) (fun (v22 : Int32) => v22)))) = v23) (S24 : Mem) (eS24 : (if v18 = 0 then (S17) else (lt ((f_X12_pays S17 p1 p2 p3 0).2) (fun (S21 : Mem) => lt ((f_X12_pays S17 p1 p2 p3 0).1) (fun (v22 : Int32) => S21)))) = S24), BW O G fdX12_pay 0 0 (QV O G 0 0 PP) S24 101 [some (vr 12 0), some (vi p1), some (vi p2), some (vi p3), some (vi v5), some (vi v10)] [vi v23] := by
          intro v23 ev23 S24 eS24
          exact a_iret (pc := 101) 1 4 rfl rfl (hP _ _ (by unfold f_X12_pay; exact (lt_eq ev1).trans ((lt_eq ev5).trans ((lt_eq ev10).trans ((lt_eq ev16).trans ((lt_eq eS17).trans ((lt_eq ev18).trans ((lt_eq ev23).trans (lt_eq eS24)))))))))
        refine a_if_eq (pc := 86) (tgt := 100) 0 43 rfl (by decide) (fun c86_18 => ?_) (fun c86_18 => ?_)
        · refine a_iconst (pc := 100) 1 3 (v := 0) rfl (by decide) ?_
          exact J101_27 _ (by exact (if_pos c86_18)) _ (by exact (if_pos c86_18))
        · have h := h c86_18
          refine a_aload_n (pc := 89) 0 44 rfl rfl ?_
          refine a_iload_n (pc := 90) 0 45 rfl rfl ?_
          refine a_iload_n (pc := 91) 0 46 rfl rfl ?_
          refine a_iload_n (pc := 92) 0 47 rfl rfl ?_
          refine a_iconst (pc := 93) 1 0 (v := 0) rfl (by decide) ?_
          have o20 := h
          refine a_callVi (pc := 94) 1 1 (c_X12_pays (S := S17) p1 p2 p3 0 (Or.inl rfl) o20) rfl cv_X12_215 (by decide) rfl rfl rfl (rm rfl) ?_
          refine a_set (fun S21 eS21 => ?_)
          refine a_seti (fun v22 ev22 => ?_)
          refine a_goto (pc := 97) (tgt := 101) 1 2 rfl (by decide) ?_
          exact J101_27 _ (by exact ((if_neg c86_18).trans ((lt_eq eS21).trans (lt_eq ev22)))) _ (by exact ((if_neg c86_18).trans ((lt_eq eS21).trans (lt_eq ev22))))
      have h := hr0
      refine a_if_ne (pc := 52) (tgt := 59) 0 26 rfl (by decide) (fun c52_10 => ?_) (fun c52_10 => ?_)
      · have h := h c52_10
        refine a_iload (pc := 59) 0 29 rfl rfl ?_
        refine a_if_ne (pc := 61) (tgt := 68) 0 30 rfl (by decide) (fun c61_11 => ?_) (fun c61_11 => ?_)
        · have h := h c61_11
          refine a_aload_n (pc := 68) 0 33 rfl rfl ?_
          refine a_iload_n (pc := 69) 0 34 rfl rfl ?_
          refine a_iload_n (pc := 70) 0 35 rfl rfl ?_
          refine a_iload_n (pc := 71) 0 36 rfl rfl ?_
          have o13 := h
          refine a_callVi (pc := 72) 0 37 (c_X12_mayPay (S := S) p1 p2 p3 o13) rfl cv_X12_212 (by decide) rfl rfl rfl (rm rfl) ?_
          refine a_seti (fun v14 ev14 => ?_)
          refine a_if_eq (pc := 75) (tgt := 82) 0 38 rfl (by decide) (fun c75_14 => ?_) (fun c75_14 => ?_)
          · refine a_iconst (pc := 82) 0 41 (v := nI 3) rfl (by decide) ?_
            exact J83_26 _ (by exact ((if_neg c52_10).trans ((if_neg c61_11).trans ((lt_eq ev14).trans (if_pos c75_14)))))
          · refine a_iconst (pc := 78) 0 39 (v := 0) rfl (by decide) ?_
            refine a_goto (pc := 79) (tgt := 83) 0 40 rfl (by decide) ?_
            exact J83_26 _ (by exact ((if_neg c52_10).trans ((if_neg c61_11).trans ((lt_eq ev14).trans (if_neg c75_14)))))
        · refine a_iconst (pc := 64) 0 31 (v := nI 2) rfl (by decide) ?_
          refine a_goto (pc := 65) (tgt := 83) 0 32 rfl (by decide) ?_
          exact J83_26 _ (by exact ((if_neg c52_10).trans (if_pos c61_11)))
      · refine a_iconst (pc := 55) 0 27 (v := 1) rfl (by decide) ?_
        refine a_goto (pc := 56) (tgt := 83) 0 28 rfl (by decide) ?_
        exact J83_26 _ (by exact (if_pos c52_10))
    refine a_if_eq (pc := 23) (tgt := 46) 0 11 rfl (by decide) (fun c23_5 => ?_) (fun c23_5 => ?_)
    · refine a_iconst (pc := 46) 0 22 (v := 0) rfl (by decide) ?_
      exact J47_25 _ (by exact (if_pos c23_5))
    · refine a_iload_n (pc := 26) 0 12 rfl rfl ?_
      refine a_iload_n (pc := 27) 0 13 rfl rfl ?_
      refine a_icmp_eq (pc := 28) (tgt := 46) 0 14 rfl (by decide) (fun c28_6 => ?_) (fun c28_6 => ?_)
      · refine a_iconst (pc := 46) 0 22 (v := 0) rfl (by decide) ?_
        exact J47_25 _ (by exact ((if_neg c23_5).trans (if_pos c28_6)))
      · refine a_iload_n (pc := 31) 0 15 rfl rfl ?_
        refine a_iconst (pc := 32) 0 16 (v := 1) rfl (by decide) ?_
        refine a_sipush (pc := 33) 0 17 (v := nI 10000) rfl (by decide) ?_
        refine a_callSi (pc := 36) 0 18 (c_X12_in (S := S) p3 1 (nI 10000)) rfl cs_X12_141 rfl (rm rfl) ?_
        refine a_seti (fun v8 ev8 => ?_)
        refine a_if_eq (pc := 39) (tgt := 46) 0 19 rfl (by decide) (fun c39_8 => ?_) (fun c39_8 => ?_)
        · refine a_iconst (pc := 46) 0 22 (v := 0) rfl (by decide) ?_
          exact J47_25 _ (by exact ((if_neg c23_5).trans ((if_neg c28_6).trans ((lt_eq ev8).trans (if_pos c39_8)))))
        · refine a_iconst (pc := 42) 0 20 (v := 1) rfl (by decide) ?_
          refine a_goto (pc := 43) (tgt := 47) 0 21 rfl (by decide) ?_
          exact J47_25 _ (by exact ((if_neg c23_5).trans ((if_neg c28_6).trans ((lt_eq ev8).trans (if_neg c39_8)))))
  refine a_if_eq (pc := 4) (tgt := 18) 0 2 rfl (by decide) (fun c4_1 => ?_) (fun c4_1 => ?_)
  · refine a_iconst (pc := 18) 0 8 (v := 0) rfl (by decide) ?_
    exact J19_24 _ (by exact (if_pos c4_1))
  · refine a_iload_n (pc := 7) 0 3 rfl rfl ?_
    refine a_callSi (pc := 8) 0 4 (c_X12_isHolder (S := S) p2) rfl cs_X12_171 rfl (rm rfl) ?_
    refine a_seti (fun v3 ev3 => ?_)
    refine a_if_eq (pc := 11) (tgt := 18) 0 5 rfl (by decide) (fun c11_3 => ?_) (fun c11_3 => ?_)
    · refine a_iconst (pc := 18) 0 8 (v := 0) rfl (by decide) ?_
      exact J19_24 _ (by exact ((if_neg c4_1).trans ((lt_eq ev3).trans (if_pos c11_3))))
    · refine a_iconst (pc := 14) 0 6 (v := 1) rfl (by decide) ?_
      refine a_goto (pc := 15) (tgt := 19) 0 7 rfl (by decide) ?_
      exact J19_24 _ (by exact ((if_neg c4_1).trans ((lt_eq ev3).trans (if_neg c11_3))))
theorem c_X12_pay {S : Mem} (p1 : Int32) (p2 : Int32) (p3 : Int32)   (h : ok_X12_pay S p1 p2 p3) : Cts mdX12_pay 2 46 [vr 12 0, vi p1, vi p2, vi p3] S (Is (some (vi (f_X12_pay S p1 p2 p3).1)) ((f_X12_pay S p1 p2 p3).2)) := Cts.of dtX12_pay (by decide +kernel) rfl rfl (Nat.le_of_ble_eq_true rfl) rfl (fun O G => w_X12_pay p1 p2 p3 h (fun _ _ h9 => ⟨by rw [h9], by rw [h9]⟩))
def f_X12_limit (S : Mem) (p1 : Int32) (p2 : Int32) : Int32 × Mem := lt (f_X12_isBank S p1) (fun (v1 : Int32) => lt (if v1 = 0 then (1) else (lt (f_X12_in S p2 0 (nI 10000)) (fun (v3 : Int32) => if v3 = 0 then (nI 2) else (0)))) (fun (v5 : Int32) => lt ((f_X12_holds S v5).2) (fun (S6 : Mem) => lt ((f_X12_holds S v5).1) (fun (v7 : Int32) => if v7 = 0 then ((0, S6)) else (lt ((S6.1, upd2 S6.2.1 kLimits (ix p1) p2, S6.2.2)) (fun (S11 : Mem) => (S6.2.1 kLimits (ix p1), S11)))))))
def ok_X12_limit (S : Mem) (p1 : Int32) (p2 : Int32) : Prop := ((∀ v1 : Int32, (f_X12_isBank S p1) = v1 → ((∀ v5 : Int32, (if v1 = 0 then (1) else (lt (f_X12_in S p2 0 (nI 10000)) (fun (v3 : Int32) => if v3 = 0 then (nI 2) else (0)))) = v5 → ((∀ S6 : Mem, ((f_X12_holds S v5).2) = S6 → ((∀ v7 : Int32, ((f_X12_holds S v5).1) = v7 → (((¬ (v7 = 0)) → ((inb p1 4) ∧ (inb p1 4))))))))))))
abbrev fdX12_limit : FD := (mdX12_limit, [], 2, 42, 0, 0)
set_option maxRecDepth 100000 in
set_option maxHeartbeats 4000000 in
theorem w_X12_limit {O : Om} {G : Cx} {S : Mem} {PP : Option AV → Mem → Prop} (p1 : Int32) (p2 : Int32)   (h : ok_X12_limit S p1 p2) (hP : ∀ x9 S9, f_X12_limit S p1 p2 = (x9, S9) → PP (some (vi x9)) S9) : BW O G fdX12_limit 0 0 (QV O G 0 0 PP) S 0 [some (vr 12 0), some (vi p1), some (vi p2), none] [] := by
  refine a_aload_n (pc := 0) 0 0 rfl rfl ?_
  refine a_iload_n (pc := 1) 0 1 rfl rfl ?_
  refine a_callSi (pc := 2) 0 2 (c_X12_isBank (S := S) p1) rfl cs_X12_181 rfl (rm rfl) ?_
  refine a_seti (fun v1 ev1 => ?_)
  have h := h v1 ev1
  have J28_11 : ∀ (v5 : Int32) (ev5 : (if v1 = 0 then (1) else (lt (f_X12_in S p2 0 (nI 10000)) (fun (v3 : Int32) => if v3 = 0 then (nI 2) else (0)))) = v5), BW O G fdX12_limit 0 0 (QV O G 0 0 PP) S 28 [some (vr 12 0), some (vi p1), some (vi p2), none] [vi v5, vr 12 0] := by
    intro v5 ev5
    have h := h v5 ev5
    refine a_callVi (pc := 28) 0 14 (c_X12_holds (S := S) v5) rfl cv_X12_175 (by decide) rfl rfl rfl (rm rfl) ?_
    refine a_set (fun S6 eS6 => ?_)
    have h := h S6 eS6
    refine a_seti (fun v7 ev7 => ?_)
    have h := h v7 ev7
    refine a_if_ne (pc := 31) (tgt := 36) 0 15 rfl (by decide) (fun c31_7 => ?_) (fun c31_7 => ?_)
    · have h := h c31_7
      refine a_aload_n (pc := 36) 0 18 rfl rfl ?_
      refine g_12_limits (pc := 37) 0 19 rfl fl_X12_59 ?_
      refine a_iload_n (pc := 40) 0 20 rfl rfl ?_
      obtain ⟨o9, h⟩ := h
      refine e_38 (pc := 41) 0 21 (ix p1) rfl o9.1 o9.2 ?_
      refine a_istore_n (pc := 42) 0 22 (ls2 := [some (vr 12 0), some (vi p1), some (vi p2), some (vi (S6.2.1 kLimits (ix p1)))]) rfl rfl (by decide) rfl ?_
      refine a_aload_n (pc := 43) 0 23 rfl rfl ?_
      refine g_12_limits (pc := 44) 0 24 rfl fl_X12_59 ?_
      refine a_iload_n (pc := 47) 0 25 rfl rfl ?_
      refine a_iload_n (pc := 48) 0 26 rfl rfl ?_
      have o10 := h
      refine s_38 (pc := 49) 0 27 (ix p1) rfl o10.1 o10.2 ?_
      refine a_set (fun S11 eS11 => ?_)
      refine a_iload_n (pc := 50) 0 28 rfl rfl ?_
      exact a_iret (pc := 51) 0 29 rfl rfl (hP _ _ (by unfold f_X12_limit; exact (lt_eq ev1).trans ((lt_eq ev5).trans ((lt_eq eS6).trans ((lt_eq ev7).trans ((if_neg c31_7).trans (lt_eq eS11)))))))
    · refine a_iconst (pc := 34) 0 16 (v := 0) rfl (by decide) ?_
      exact a_iret (pc := 35) 0 17 rfl rfl (hP _ _ (by unfold f_X12_limit; exact (lt_eq ev1).trans ((lt_eq ev5).trans ((lt_eq eS6).trans ((lt_eq ev7).trans (if_pos c31_7))))))
  refine a_if_ne (pc := 5) (tgt := 12) 0 3 rfl (by decide) (fun c5_1 => ?_) (fun c5_1 => ?_)
  · refine a_iload_n (pc := 12) 0 6 rfl rfl ?_
    refine a_iconst (pc := 13) 0 7 (v := 0) rfl (by decide) ?_
    refine a_sipush (pc := 14) 0 8 (v := nI 10000) rfl (by decide) ?_
    refine a_callSi (pc := 17) 0 9 (c_X12_in (S := S) p2 0 (nI 10000)) rfl cs_X12_141 rfl (rm rfl) ?_
    refine a_seti (fun v3 ev3 => ?_)
    refine a_if_eq (pc := 20) (tgt := 27) 0 10 rfl (by decide) (fun c20_3 => ?_) (fun c20_3 => ?_)
    · refine a_iconst (pc := 27) 0 13 (v := nI 2) rfl (by decide) ?_
      exact J28_11 _ (by exact ((if_neg c5_1).trans ((lt_eq ev3).trans (if_pos c20_3))))
    · refine a_iconst (pc := 23) 0 11 (v := 0) rfl (by decide) ?_
      refine a_goto (pc := 24) (tgt := 28) 0 12 rfl (by decide) ?_
      exact J28_11 _ (by exact ((if_neg c5_1).trans ((lt_eq ev3).trans (if_neg c20_3))))
  · refine a_iconst (pc := 8) 0 4 (v := 1) rfl (by decide) ?_
    refine a_goto (pc := 9) (tgt := 28) 0 5 rfl (by decide) ?_
    exact J28_11 _ (by exact (if_pos c5_1))
theorem c_X12_limit {S : Mem} (p1 : Int32) (p2 : Int32)   (h : ok_X12_limit S p1 p2) : Cts mdX12_limit 2 42 [vr 12 0, vi p1, vi p2] S (Is (some (vi (f_X12_limit S p1 p2).1)) ((f_X12_limit S p1 p2).2)) := Cts.of dtX12_limit (by decide +kernel) rfl rfl (Nat.le_of_ble_eq_true rfl) rfl (fun O G => w_X12_limit p1 p2 h (fun _ _ h9 => ⟨by rw [h9], by rw [h9]⟩))
def f_X12_endow (S : Mem) (p1 : Int32) (p2 : Int32) : Int32 × Mem := lt (f_X12_isBank S p1) (fun (v1 : Int32) => lt (if v1 = 0 then (1) else (lt (f_X12_in S p2 1 (nI 10000)) (fun (v3 : Int32) => if v3 = 0 then (nI 2) else (if (S.2.1 kHaveFailed (ix p1)) = 0 then (0) else (nI 3))))) (fun (v7 : Int32) => lt ((f_X12_holds S v7).2) (fun (S8 : Mem) => lt ((f_X12_holds S v7).1) (fun (v9 : Int32) => if v9 = 0 then ((0, S8)) else (lt ((S8.1, upd2 S8.2.1 kReserves (ix p1) ((S8.2.1 kReserves (ix p1)) + p2), S8.2.2)) (fun (S13 : Mem) => (S13.2.1 kReserves (ix p1), S13)))))))
def ok_X12_endow (S : Mem) (p1 : Int32) (p2 : Int32) : Prop := ((∀ v1 : Int32, (f_X12_isBank S p1) = v1 → (((¬ (v1 = 0)) → ((∀ v3 : Int32, (f_X12_in S p2 1 (nI 10000)) = v3 → (((¬ (v3 = 0)) → ((inb p1 4))))))) ∧ (∀ v7 : Int32, (if v1 = 0 then (1) else (lt (f_X12_in S p2 1 (nI 10000)) (fun (v3 : Int32) => if v3 = 0 then (nI 2) else (if (S.2.1 kHaveFailed (ix p1)) = 0 then (0) else (nI 3))))) = v7 → ((∀ S8 : Mem, ((f_X12_holds S v7).2) = S8 → ((∀ v9 : Int32, ((f_X12_holds S v7).1) = v9 → (((¬ (v9 = 0)) → ((inb p1 4) ∧ (inb p1 4) ∧ (∀ S13 : Mem, ((S8.1, upd2 S8.2.1 kReserves (ix p1) ((S8.2.1 kReserves (ix p1)) + p2), S8.2.2)) = S13 → ((inb p1 4))))))))))))))
abbrev fdX12_endow : FD := (mdX12_endow, [], 2, 42, 0, 0)
set_option maxRecDepth 100000 in
set_option maxHeartbeats 4000000 in
theorem w_X12_endow {O : Om} {G : Cx} {S : Mem} {PP : Option AV → Mem → Prop} (p1 : Int32) (p2 : Int32)   (h : ok_X12_endow S p1 p2) (hP : ∀ x9 S9, f_X12_endow S p1 p2 = (x9, S9) → PP (some (vi x9)) S9) : BW O G fdX12_endow 0 0 (QV O G 0 0 PP) S 0 [some (vr 12 0), some (vi p1), some (vi p2), none] [] := by
  refine a_iload_n (pc := 0) 0 0 rfl rfl ?_
  refine a_callSi (pc := 1) 0 1 (c_X12_isBank (S := S) p1) rfl cs_X12_181 rfl (rm rfl) ?_
  refine a_seti (fun v1 ev1 => ?_)
  have h := h v1 ev1
  refine a_istore_n (pc := 4) 0 2 (ls2 := [some (vr 12 0), some (vi p1), some (vi p2), some (vi v1)]) rfl rfl (by decide) rfl ?_
  refine a_aload_n (pc := 5) 0 3 rfl rfl ?_
  refine a_iload_n (pc := 6) 0 4 rfl rfl ?_
  obtain ⟨hr0, h⟩ := h
  have J43_14 : ∀ (v7 : Int32) (ev7 : (if v1 = 0 then (1) else (lt (f_X12_in S p2 1 (nI 10000)) (fun (v3 : Int32) => if v3 = 0 then (nI 2) else (if (S.2.1 kHaveFailed (ix p1)) = 0 then (0) else (nI 3))))) = v7), BW O G fdX12_endow 0 0 (QV O G 0 0 PP) S 43 [some (vr 12 0), some (vi p1), some (vi p2), some (vi v1)] [vi v7, vr 12 0] := by
    intro v7 ev7
    have h := h v7 ev7
    refine a_callVi (pc := 43) 0 23 (c_X12_holds (S := S) v7) rfl cv_X12_175 (by decide) rfl rfl rfl (rm rfl) ?_
    refine a_set (fun S8 eS8 => ?_)
    have h := h S8 eS8
    refine a_seti (fun v9 ev9 => ?_)
    have h := h v9 ev9
    refine a_if_ne (pc := 46) (tgt := 51) 0 24 rfl (by decide) (fun c46_9 => ?_) (fun c46_9 => ?_)
    · have h := h c46_9
      refine a_aload_n (pc := 51) 0 27 rfl rfl ?_
      refine g_12_reserves (pc := 52) 0 28 rfl fl_X12_50 ?_
      refine a_iload_n (pc := 55) 0 29 rfl rfl ?_
      refine a_dup2 (pc := 56) 0 30 rfl rfl rfl ?_
      obtain ⟨o11, h⟩ := h
      refine e_35 (pc := 57) 0 31 (ix p1) rfl o11.1 o11.2 ?_
      refine a_iload_n (pc := 58) 0 32 rfl rfl ?_
      refine a_iadd (pc := 59) 0 33 rfl ?_
      obtain ⟨o12, h⟩ := h
      refine s_35 (pc := 60) 0 34 (ix p1) rfl o12.1 o12.2 ?_
      refine a_set (fun S13 eS13 => ?_)
      have h := h S13 eS13
      refine a_aload_n (pc := 61) 0 35 rfl rfl ?_
      refine g_12_reserves (pc := 62) 0 36 rfl fl_X12_50 ?_
      refine a_iload_n (pc := 65) 0 37 rfl rfl ?_
      have o14 := h
      refine e_35 (pc := 66) 0 38 (ix p1) rfl o14.1 o14.2 ?_
      exact a_iret (pc := 67) 0 39 rfl rfl (hP _ _ (by unfold f_X12_endow; exact (lt_eq ev1).trans ((lt_eq ev7).trans ((lt_eq eS8).trans ((lt_eq ev9).trans ((if_neg c46_9).trans (lt_eq eS13)))))))
    · refine a_iconst (pc := 49) 0 25 (v := 0) rfl (by decide) ?_
      exact a_iret (pc := 50) 0 26 rfl rfl (hP _ _ (by unfold f_X12_endow; exact (lt_eq ev1).trans ((lt_eq ev7).trans ((lt_eq eS8).trans ((lt_eq ev9).trans (if_pos c46_9))))))
  have h := hr0
  refine a_if_ne (pc := 7) (tgt := 14) 0 5 rfl (by decide) (fun c7_1 => ?_) (fun c7_1 => ?_)
  · have h := h c7_1
    refine a_iload_n (pc := 14) 0 8 rfl rfl ?_
    refine a_iconst (pc := 15) 0 9 (v := 1) rfl (by decide) ?_
    refine a_sipush (pc := 16) 0 10 (v := nI 10000) rfl (by decide) ?_
    refine a_callSi (pc := 19) 0 11 (c_X12_in (S := S) p2 1 (nI 10000)) rfl cs_X12_141 rfl (rm rfl) ?_
    refine a_seti (fun v3 ev3 => ?_)
    have h := h v3 ev3
    refine a_if_ne (pc := 22) (tgt := 29) 0 12 rfl (by decide) (fun c22_3 => ?_) (fun c22_3 => ?_)
    · have h := h c22_3
      refine a_aload_n (pc := 29) 0 15 rfl rfl ?_
      refine g_12_haveFailed (pc := 30) 0 16 rfl fl_X12_62 ?_
      refine a_iload_n (pc := 33) 0 17 rfl rfl ?_
      have o5 := h
      refine e_39 (pc := 34) 0 18 (ix p1) rfl o5.1 o5.2 ?_
      refine a_if_eq (pc := 35) (tgt := 42) 0 19 rfl (by decide) (fun c35_5 => ?_) (fun c35_5 => ?_)
      · refine a_iconst (pc := 42) 0 22 (v := 0) rfl (by decide) ?_
        exact J43_14 _ (by exact ((if_neg c7_1).trans ((lt_eq ev3).trans ((if_neg c22_3).trans (if_pos c35_5)))))
      · refine a_iconst (pc := 38) 0 20 (v := nI 3) rfl (by decide) ?_
        refine a_goto (pc := 39) (tgt := 43) 0 21 rfl (by decide) ?_
        exact J43_14 _ (by exact ((if_neg c7_1).trans ((lt_eq ev3).trans ((if_neg c22_3).trans (if_neg c35_5)))))
    · refine a_iconst (pc := 25) 0 13 (v := nI 2) rfl (by decide) ?_
      refine a_goto (pc := 26) (tgt := 43) 0 14 rfl (by decide) ?_
      exact J43_14 _ (by exact ((if_neg c7_1).trans ((lt_eq ev3).trans (if_pos c22_3))))
  · refine a_iconst (pc := 10) 0 6 (v := 1) rfl (by decide) ?_
    refine a_goto (pc := 11) (tgt := 43) 0 7 rfl (by decide) ?_
    exact J43_14 _ (by exact (if_pos c7_1))
theorem c_X12_endow {S : Mem} (p1 : Int32) (p2 : Int32)   (h : ok_X12_endow S p1 p2) : Cts mdX12_endow 2 42 [vr 12 0, vi p1, vi p2] S (Is (some (vi (f_X12_endow S p1 p2).1)) ((f_X12_endow S p1 p2).2)) := Cts.of dtX12_endow (by decide +kernel) rfl rfl (Nat.le_of_ble_eq_true rfl) rfl (fun O G => w_X12_endow p1 p2 h (fun _ _ h9 => ⟨by rw [h9], by rw [h9]⟩))
def f_X12_lend (S : Mem) (p1 : Int32) (p2 : Int32) (p3 : Int32) (p4 : Int32) : Int32 × Mem := lt (f_X12_isBank S p1) (fun (v1 : Int32) => lt (if v1 = 0 then (0) else (lt (f_X12_isHolder S p2) (fun (v3 : Int32) => if v3 = 0 then (0) else (1)))) (fun (v5 : Int32) => lt (if v5 = 0 then (0) else (lt (f_X12_in S p3 1 (nI 10000)) (fun (v7 : Int32) => if v7 = 0 then (0) else (lt (f_X12_in S p4 0 (nI 100)) (fun (v9 : Int32) => if v9 = 0 then (0) else (1)))))) (fun (v11 : Int32) => lt (if v5 = 0 then (1) else (if v11 = 0 then (nI 2) else (lt (f_X12_mayLend S p1 p2 p3) (fun (v15 : Int32) => if v15 = 0 then (nI 3) else (0))))) (fun (v17 : Int32) => lt ((f_X12_holds S v17).2) (fun (S18 : Mem) => lt ((f_X12_holds S v17).1) (fun (v19 : Int32) => if v19 = 0 then ((0, S18)) else (lt ((S18.1, upd2 S18.2.1 kLoanHolders (ix (S18.2.1 kLoans 0)) p2, S18.2.2)) (fun (S22 : Mem) => lt ((S22.1, upd2 S22.2.1 kLoanBanks (ix (S22.2.1 kLoans 0)) p1, S22.2.2)) (fun (S24 : Mem) => lt ((S24.1, upd2 S24.2.1 kLoanLefts (ix (S24.2.1 kLoans 0)) p3, S24.2.2)) (fun (S26 : Mem) => lt ((S26.1, upd2 S26.2.1 kLoanRates (ix (S26.2.1 kLoans 0)) p4, S26.2.2)) (fun (S28 : Mem) => lt ((S28.1, upd2 S28.2.1 kOverdue (ix (S28.2.1 kLoans 0)) 0, S28.2.2)) (fun (S30 : Mem) => lt ((S30.1, upd2 S30.2.1 kAccounts (ix p2) ((S30.2.1 kAccounts (ix p2)) + p3), S30.2.2)) (fun (S33 : Mem) => lt ((S33.1, upd2 S33.2.1 kLoans 0 ((S33.2.1 kLoans 0) + 1), S33.2.2)) (fun (S34 : Mem) => ((S34.2.1 kLoans 0) - 1, S34)))))))))))))))
def ok_X12_lend (S : Mem) (p1 : Int32) (p2 : Int32) (p3 : Int32) (p4 : Int32) : Prop := ((∀ v1 : Int32, (f_X12_isBank S p1) = v1 → ((∀ v5 : Int32, (if v1 = 0 then (0) else (lt (f_X12_isHolder S p2) (fun (v3 : Int32) => if v3 = 0 then (0) else (1)))) = v5 → ((∀ v11 : Int32, (if v5 = 0 then (0) else (lt (f_X12_in S p3 1 (nI 10000)) (fun (v7 : Int32) => if v7 = 0 then (0) else (lt (f_X12_in S p4 0 (nI 100)) (fun (v9 : Int32) => if v9 = 0 then (0) else (1)))))) = v11 → (((¬ (v5 = 0)) → (((¬ (v11 = 0)) → ((ok_X12_mayLend S p1 p2 p3))))) ∧ (∀ v17 : Int32, (if v5 = 0 then (1) else (if v11 = 0 then (nI 2) else (lt (f_X12_mayLend S p1 p2 p3) (fun (v15 : Int32) => if v15 = 0 then (nI 3) else (0))))) = v17 → ((∀ S18 : Mem, ((f_X12_holds S v17).2) = S18 → ((∀ v19 : Int32, ((f_X12_holds S v17).1) = v19 → (((¬ (v19 = 0)) → ((inb (S18.2.1 kLoans 0) 20) ∧ (∀ S22 : Mem, ((S18.1, upd2 S18.2.1 kLoanHolders (ix (S18.2.1 kLoans 0)) p2, S18.2.2)) = S22 → ((inb (S22.2.1 kLoans 0) 20) ∧ (∀ S24 : Mem, ((S22.1, upd2 S22.2.1 kLoanBanks (ix (S22.2.1 kLoans 0)) p1, S22.2.2)) = S24 → ((inb (S24.2.1 kLoans 0) 20) ∧ (∀ S26 : Mem, ((S24.1, upd2 S24.2.1 kLoanLefts (ix (S24.2.1 kLoans 0)) p3, S24.2.2)) = S26 → ((inb (S26.2.1 kLoans 0) 20) ∧ (∀ S28 : Mem, ((S26.1, upd2 S26.2.1 kLoanRates (ix (S26.2.1 kLoans 0)) p4, S26.2.2)) = S28 → ((inb (S28.2.1 kLoans 0) 20) ∧ (∀ S30 : Mem, ((S28.1, upd2 S28.2.1 kOverdue (ix (S28.2.1 kLoans 0)) 0, S28.2.2)) = S30 → ((inb p2 16) ∧ (inb p2 16))))))))))))))))))))))))))
abbrev fdX12_lend : FD := (mdX12_lend, [], 3, 67, 0, 0)
set_option maxRecDepth 100000 in
set_option maxHeartbeats 4000000 in
theorem w_X12_lend {O : Om} {G : Cx} {S : Mem} {PP : Option AV → Mem → Prop} (p1 : Int32) (p2 : Int32) (p3 : Int32) (p4 : Int32)   (h : ok_X12_lend S p1 p2 p3 p4) (hP : ∀ x9 S9, f_X12_lend S p1 p2 p3 p4 = (x9, S9) → PP (some (vi x9)) S9) : BW O G fdX12_lend 0 0 (QV O G 0 0 PP) S 0 [some (vr 12 0), some (vi p1), some (vi p2), some (vi p3), some (vi p4), none, none] [] := by
  refine a_iload_n (pc := 0) 0 0 rfl rfl ?_
  refine a_callSi (pc := 1) 0 1 (c_X12_isBank (S := S) p1) rfl cs_X12_181 rfl (rm rfl) ?_
  refine a_seti (fun v1 ev1 => ?_)
  have h := h v1 ev1
  have J19_34 : ∀ (v5 : Int32) (ev5 : (if v1 = 0 then (0) else (lt (f_X12_isHolder S p2) (fun (v3 : Int32) => if v3 = 0 then (0) else (1)))) = v5), BW O G fdX12_lend 0 0 (QV O G 0 0 PP) S 19 [some (vr 12 0), some (vi p1), some (vi p2), some (vi p3), some (vi p4), none, none] [vi v5] := by
    intro v5 ev5
    have h := h v5 ev5
    refine a_istore (pc := 19) 0 9 (ls2 := [some (vr 12 0), some (vi p1), some (vi p2), some (vi p3), some (vi p4), some (vi v5), none]) rfl (by decide) rfl ?_
    refine a_iload (pc := 21) 0 10 rfl rfl ?_
    have J53_35 : ∀ (v11 : Int32) (ev11 : (if v5 = 0 then (0) else (lt (f_X12_in S p3 1 (nI 10000)) (fun (v7 : Int32) => if v7 = 0 then (0) else (lt (f_X12_in S p4 0 (nI 100)) (fun (v9 : Int32) => if v9 = 0 then (0) else (1)))))) = v11), BW O G fdX12_lend 0 0 (QV O G 0 0 PP) S 53 [some (vr 12 0), some (vi p1), some (vi p2), some (vi p3), some (vi p4), some (vi v5), none] [vi v11] := by
      intro v11 ev11
      have h := h v11 ev11
      refine a_istore (pc := 53) 0 25 (ls2 := [some (vr 12 0), some (vi p1), some (vi p2), some (vi p3), some (vi p4), some (vi v5), some (vi v11)]) rfl (by decide) rfl ?_
      refine a_aload_n (pc := 55) 0 26 rfl rfl ?_
      refine a_iload (pc := 56) 0 27 rfl rfl ?_
      obtain ⟨hr0, h⟩ := h
      have J89_36 : ∀ (v17 : Int32) (ev17 : (if v5 = 0 then (1) else (if v11 = 0 then (nI 2) else (lt (f_X12_mayLend S p1 p2 p3) (fun (v15 : Int32) => if v15 = 0 then (nI 3) else (0))))) = v17), BW O G fdX12_lend 0 0 (QV O G 0 0 PP) S 89 [some (vr 12 0), some (vi p1), some (vi p2), some (vi p3), some (vi p4), some (vi v5), some (vi v11)] [vi v17, vr 12 0] := by
        intro v17 ev17
        have h := h v17 ev17
        refine a_callVi (pc := 89) 0 44 (c_X12_holds (S := S) v17) rfl cv_X12_175 (by decide) rfl rfl rfl (rm rfl) ?_
        refine a_set (fun S18 eS18 => ?_)
        have h := h S18 eS18
        refine a_seti (fun v19 ev19 => ?_)
        have h := h v19 ev19
        refine a_if_ne (pc := 92) (tgt := 97) 0 45 rfl (by decide) (fun c92_19 => ?_) (fun c92_19 => ?_)
        · have h := h c92_19
          refine a_aload_n (pc := 97) 1 0 rfl rfl ?_
          refine g_12_loanHolders (pc := 98) 1 1 rfl fl_X12_75 ?_
          refine a_aload_n (pc := 101) 1 2 rfl rfl ?_
          refine g_12_loans (pc := 102) 1 3 rfl fl_X12_148 ?_
          refine a_iload_n (pc := 105) 1 4 rfl rfl ?_
          obtain ⟨o21, h⟩ := h
          refine s_43 (pc := 106) 1 5 (ix (S18.2.1 kLoans 0)) rfl o21.1 o21.2 ?_
          refine a_set (fun S22 eS22 => ?_)
          have h := h S22 eS22
          refine a_aload_n (pc := 107) 1 6 rfl rfl ?_
          refine g_12_loanBanks (pc := 108) 1 7 rfl fl_X12_78 ?_
          refine a_aload_n (pc := 111) 1 8 rfl rfl ?_
          refine g_12_loans (pc := 112) 1 9 rfl fl_X12_148 ?_
          refine a_iload_n (pc := 115) 1 10 rfl rfl ?_
          obtain ⟨o23, h⟩ := h
          refine s_44 (pc := 116) 1 11 (ix (S22.2.1 kLoans 0)) rfl o23.1 o23.2 ?_
          refine a_set (fun S24 eS24 => ?_)
          have h := h S24 eS24
          refine a_aload_n (pc := 117) 1 12 rfl rfl ?_
          refine g_12_loanLefts (pc := 118) 1 13 rfl fl_X12_81 ?_
          refine a_aload_n (pc := 121) 1 14 rfl rfl ?_
          refine g_12_loans (pc := 122) 1 15 rfl fl_X12_148 ?_
          refine a_iload_n (pc := 125) 1 16 rfl rfl ?_
          obtain ⟨o25, h⟩ := h
          refine s_45 (pc := 126) 1 17 (ix (S24.2.1 kLoans 0)) rfl o25.1 o25.2 ?_
          refine a_set (fun S26 eS26 => ?_)
          have h := h S26 eS26
          refine a_aload_n (pc := 127) 1 18 rfl rfl ?_
          refine g_12_loanRates (pc := 128) 1 19 rfl fl_X12_84 ?_
          refine a_aload_n (pc := 131) 1 20 rfl rfl ?_
          refine g_12_loans (pc := 132) 1 21 rfl fl_X12_148 ?_
          refine a_iload (pc := 135) 1 22 rfl rfl ?_
          obtain ⟨o27, h⟩ := h
          refine s_46 (pc := 137) 1 23 (ix (S26.2.1 kLoans 0)) rfl o27.1 o27.2 ?_
          refine a_set (fun S28 eS28 => ?_)
          have h := h S28 eS28
          refine a_aload_n (pc := 138) 1 24 rfl rfl ?_
          refine g_12_overdue (pc := 139) 1 25 rfl fl_X12_87 ?_
          refine a_aload_n (pc := 142) 1 26 rfl rfl ?_
          refine g_12_loans (pc := 143) 1 27 rfl fl_X12_148 ?_
          refine a_iconst (pc := 146) 1 28 (v := 0) rfl (by decide) ?_
          obtain ⟨o29, h⟩ := h
          refine s_47 (pc := 147) 1 29 (ix (S28.2.1 kLoans 0)) rfl o29.1 o29.2 ?_
          refine a_set (fun S30 eS30 => ?_)
          have h := h S30 eS30
          refine a_aload_n (pc := 148) 1 30 rfl rfl ?_
          refine g_12_accounts (pc := 149) 1 31 rfl fl_X12_26 ?_
          refine a_iload_n (pc := 152) 1 32 rfl rfl ?_
          refine a_dup2 (pc := 153) 1 33 rfl rfl rfl ?_
          obtain ⟨o31, h⟩ := h
          refine e_27 (pc := 154) 1 34 (ix p2) rfl o31.1 o31.2 ?_
          refine a_iload_n (pc := 155) 1 35 rfl rfl ?_
          refine a_iadd (pc := 156) 1 36 rfl ?_
          have o32 := h
          refine s_27 (pc := 157) 1 37 (ix p2) rfl o32.1 o32.2 ?_
          refine a_set (fun S33 eS33 => ?_)
          refine a_aload_n (pc := 158) 1 38 rfl rfl ?_
          refine a_dup (pc := 159) 1 39 rfl rfl ?_
          refine g_12_loans (pc := 160) 1 40 rfl fl_X12_148 ?_
          refine a_iconst (pc := 163) 1 41 (v := 1) rfl (by decide) ?_
          refine a_iadd (pc := 164) 1 42 rfl ?_
          refine p_12_loans (pc := 165) 1 43 rfl fl_X12_148 ?_
          refine a_set (fun S34 eS34 => ?_)
          refine a_aload_n (pc := 168) 1 44 rfl rfl ?_
          refine g_12_loans (pc := 169) 1 45 rfl fl_X12_148 ?_
          refine a_iconst (pc := 172) 1 46 (v := 1) rfl (by decide) ?_
          refine a_isub (pc := 173) 1 47 rfl ?_
          exact a_iret (pc := 174) 2 0 rfl rfl (hP _ _ (by unfold f_X12_lend; exact (lt_eq ev1).trans ((lt_eq ev5).trans ((lt_eq ev11).trans ((lt_eq ev17).trans ((lt_eq eS18).trans ((lt_eq ev19).trans ((if_neg c92_19).trans ((lt_eq eS22).trans ((lt_eq eS24).trans ((lt_eq eS26).trans ((lt_eq eS28).trans ((lt_eq eS30).trans ((lt_eq eS33).trans (lt_eq eS34)))))))))))))))
        · refine a_iconst (pc := 95) 0 46 (v := 0) rfl (by decide) ?_
          exact a_iret (pc := 96) 0 47 rfl rfl (hP _ _ (by unfold f_X12_lend; exact (lt_eq ev1).trans ((lt_eq ev5).trans ((lt_eq ev11).trans ((lt_eq ev17).trans ((lt_eq eS18).trans ((lt_eq ev19).trans (if_pos c92_19))))))))
      have h := hr0
      refine a_if_ne (pc := 58) (tgt := 65) 0 28 rfl (by decide) (fun c58_11 => ?_) (fun c58_11 => ?_)
      · have h := h c58_11
        refine a_iload (pc := 65) 0 31 rfl rfl ?_
        refine a_if_ne (pc := 67) (tgt := 74) 0 32 rfl (by decide) (fun c67_12 => ?_) (fun c67_12 => ?_)
        · have h := h c67_12
          refine a_aload_n (pc := 74) 0 35 rfl rfl ?_
          refine a_iload_n (pc := 75) 0 36 rfl rfl ?_
          refine a_iload_n (pc := 76) 0 37 rfl rfl ?_
          refine a_iload_n (pc := 77) 0 38 rfl rfl ?_
          have o14 := h
          refine a_callVi (pc := 78) 0 39 (c_X12_mayLend (S := S) p1 p2 p3 o14) rfl cv_X12_232 (by decide) rfl rfl rfl (rm rfl) ?_
          refine a_seti (fun v15 ev15 => ?_)
          refine a_if_eq (pc := 81) (tgt := 88) 0 40 rfl (by decide) (fun c81_15 => ?_) (fun c81_15 => ?_)
          · refine a_iconst (pc := 88) 0 43 (v := nI 3) rfl (by decide) ?_
            exact J89_36 _ (by exact ((if_neg c58_11).trans ((if_neg c67_12).trans ((lt_eq ev15).trans (if_pos c81_15)))))
          · refine a_iconst (pc := 84) 0 41 (v := 0) rfl (by decide) ?_
            refine a_goto (pc := 85) (tgt := 89) 0 42 rfl (by decide) ?_
            exact J89_36 _ (by exact ((if_neg c58_11).trans ((if_neg c67_12).trans ((lt_eq ev15).trans (if_neg c81_15)))))
        · refine a_iconst (pc := 70) 0 33 (v := nI 2) rfl (by decide) ?_
          refine a_goto (pc := 71) (tgt := 89) 0 34 rfl (by decide) ?_
          exact J89_36 _ (by exact ((if_neg c58_11).trans (if_pos c67_12)))
      · refine a_iconst (pc := 61) 0 29 (v := 1) rfl (by decide) ?_
        refine a_goto (pc := 62) (tgt := 89) 0 30 rfl (by decide) ?_
        exact J89_36 _ (by exact (if_pos c58_11))
    refine a_if_eq (pc := 23) (tgt := 52) 0 11 rfl (by decide) (fun c23_5 => ?_) (fun c23_5 => ?_)
    · refine a_iconst (pc := 52) 0 24 (v := 0) rfl (by decide) ?_
      exact J53_35 _ (by exact (if_pos c23_5))
    · refine a_iload_n (pc := 26) 0 12 rfl rfl ?_
      refine a_iconst (pc := 27) 0 13 (v := 1) rfl (by decide) ?_
      refine a_sipush (pc := 28) 0 14 (v := nI 10000) rfl (by decide) ?_
      refine a_callSi (pc := 31) 0 15 (c_X12_in (S := S) p3 1 (nI 10000)) rfl cs_X12_141 rfl (rm rfl) ?_
      refine a_seti (fun v7 ev7 => ?_)
      refine a_if_eq (pc := 34) (tgt := 52) 0 16 rfl (by decide) (fun c34_7 => ?_) (fun c34_7 => ?_)
      · refine a_iconst (pc := 52) 0 24 (v := 0) rfl (by decide) ?_
        exact J53_35 _ (by exact ((if_neg c23_5).trans ((lt_eq ev7).trans (if_pos c34_7))))
      · refine a_iload (pc := 37) 0 17 rfl rfl ?_
        refine a_iconst (pc := 39) 0 18 (v := 0) rfl (by decide) ?_
        refine a_bipush (pc := 40) 0 19 (v := nI 100) rfl (by decide) ?_
        refine a_callSi (pc := 42) 0 20 (c_X12_in (S := S) p4 0 (nI 100)) rfl cs_X12_141 rfl (rm rfl) ?_
        refine a_seti (fun v9 ev9 => ?_)
        refine a_if_eq (pc := 45) (tgt := 52) 0 21 rfl (by decide) (fun c45_9 => ?_) (fun c45_9 => ?_)
        · refine a_iconst (pc := 52) 0 24 (v := 0) rfl (by decide) ?_
          exact J53_35 _ (by exact ((if_neg c23_5).trans ((lt_eq ev7).trans ((if_neg c34_7).trans ((lt_eq ev9).trans (if_pos c45_9))))))
        · refine a_iconst (pc := 48) 0 22 (v := 1) rfl (by decide) ?_
          refine a_goto (pc := 49) (tgt := 53) 0 23 rfl (by decide) ?_
          exact J53_35 _ (by exact ((if_neg c23_5).trans ((lt_eq ev7).trans ((if_neg c34_7).trans ((lt_eq ev9).trans (if_neg c45_9))))))
  refine a_if_eq (pc := 4) (tgt := 18) 0 2 rfl (by decide) (fun c4_1 => ?_) (fun c4_1 => ?_)
  · refine a_iconst (pc := 18) 0 8 (v := 0) rfl (by decide) ?_
    exact J19_34 _ (by exact (if_pos c4_1))
  · refine a_iload_n (pc := 7) 0 3 rfl rfl ?_
    refine a_callSi (pc := 8) 0 4 (c_X12_isHolder (S := S) p2) rfl cs_X12_171 rfl (rm rfl) ?_
    refine a_seti (fun v3 ev3 => ?_)
    refine a_if_eq (pc := 11) (tgt := 18) 0 5 rfl (by decide) (fun c11_3 => ?_) (fun c11_3 => ?_)
    · refine a_iconst (pc := 18) 0 8 (v := 0) rfl (by decide) ?_
      exact J19_34 _ (by exact ((if_neg c4_1).trans ((lt_eq ev3).trans (if_pos c11_3))))
    · refine a_iconst (pc := 14) 0 6 (v := 1) rfl (by decide) ?_
      refine a_goto (pc := 15) (tgt := 19) 0 7 rfl (by decide) ?_
      exact J19_34 _ (by exact ((if_neg c4_1).trans ((lt_eq ev3).trans (if_neg c11_3))))
theorem c_X12_lend {S : Mem} (p1 : Int32) (p2 : Int32) (p3 : Int32) (p4 : Int32)   (h : ok_X12_lend S p1 p2 p3 p4) : Cts mdX12_lend 3 67 [vr 12 0, vi p1, vi p2, vi p3, vi p4] S (Is (some (vi (f_X12_lend S p1 p2 p3 p4).1)) ((f_X12_lend S p1 p2 p3 p4).2)) := Cts.of dtX12_lend (by decide +kernel) rfl rfl (Nat.le_of_ble_eq_true rfl) rfl (fun O G => w_X12_lend p1 p2 p3 p4 h (fun _ _ h9 => ⟨by rw [h9], by rw [h9]⟩))
def f_X12_payBack (S : Mem) (p1 : Int32) (p2 : Int32) : Int32 × Mem := lt (f_X12_isLoan S p1) (fun (v1 : Int32) => lt (if v1 = 0 then (0) else (if (S.2.1 kLoanLefts (ix p1)) < p2 then (0) else (lt (f_X12_canPay S p1 p2) (fun (v6 : Int32) => if v6 = 0 then (0) else (1))))) (fun (v8 : Int32) => lt (if v1 = 0 then (1) else (lt (f_X12_in S p2 1 (nI 10000)) (fun (v10 : Int32) => if v10 = 0 then (nI 2) else (if v8 = 0 then (nI 3) else (0))))) (fun (v13 : Int32) => lt ((f_X12_holds S v13).2) (fun (S14 : Mem) => lt ((f_X12_holds S v13).1) (fun (v15 : Int32) => if v15 = 0 then ((0, S14)) else (lt (f_X12_endsMoney S14 p1 p2) (fun (S18 : Mem) => lt ((S18.1, upd2 S18.2.1 kLoanLefts (ix p1) ((S18.2.1 kLoanLefts (ix p1)) - p2), S18.2.2)) (fun (S21 : Mem) => (S21.2.1 kLoanLefts (ix p1), S21)))))))))
def ok_X12_payBack (S : Mem) (p1 : Int32) (p2 : Int32) : Prop := ((∀ v1 : Int32, (f_X12_isLoan S p1) = v1 → (((¬ (v1 = 0)) → ((inb p1 20) ∧ ((¬ ((S.2.1 kLoanLefts (ix p1)) < p2)) → ((ok_X12_canPay S p1 p2))))) ∧ (∀ v8 : Int32, (if v1 = 0 then (0) else (if (S.2.1 kLoanLefts (ix p1)) < p2 then (0) else (lt (f_X12_canPay S p1 p2) (fun (v6 : Int32) => if v6 = 0 then (0) else (1))))) = v8 → ((∀ v13 : Int32, (if v1 = 0 then (1) else (lt (f_X12_in S p2 1 (nI 10000)) (fun (v10 : Int32) => if v10 = 0 then (nI 2) else (if v8 = 0 then (nI 3) else (0))))) = v13 → ((∀ S14 : Mem, ((f_X12_holds S v13).2) = S14 → ((∀ v15 : Int32, ((f_X12_holds S v13).1) = v15 → (((¬ (v15 = 0)) → ((ok_X12_endsMoney S14 p1 p2) ∧ (∀ S18 : Mem, (f_X12_endsMoney S14 p1 p2) = S18 → ((inb p1 20) ∧ (inb p1 20) ∧ (∀ S21 : Mem, ((S18.1, upd2 S18.2.1 kLoanLefts (ix p1) ((S18.2.1 kLoanLefts (ix p1)) - p2), S18.2.2)) = S21 → ((inb p1 20))))))))))))))))))
abbrev fdX12_payBack : FD := (mdX12_payBack, [], 2, 44, 0, 0)
set_option maxRecDepth 100000 in
set_option maxHeartbeats 4000000 in
theorem w_X12_payBack {O : Om} {G : Cx} {S : Mem} {PP : Option AV → Mem → Prop} (p1 : Int32) (p2 : Int32)   (h : ok_X12_payBack S p1 p2) (hP : ∀ x9 S9, f_X12_payBack S p1 p2 = (x9, S9) → PP (some (vi x9)) S9) : BW O G fdX12_payBack 0 0 (QV O G 0 0 PP) S 0 [some (vr 12 0), some (vi p1), some (vi p2), none, none] [] := by
  refine a_aload_n (pc := 0) 0 0 rfl rfl ?_
  refine a_iload_n (pc := 1) 0 1 rfl rfl ?_
  refine a_callVi (pc := 2) 0 2 (c_X12_isLoan (S := S) p1) rfl cv_X12_235 (by decide) rfl rfl rfl (rm rfl) ?_
  refine a_seti (fun v1 ev1 => ?_)
  have h := h v1 ev1
  refine a_istore_n (pc := 5) 0 3 (ls2 := [some (vr 12 0), some (vi p1), some (vi p2), some (vi v1), none]) rfl rfl (by decide) rfl ?_
  refine a_iload_n (pc := 6) 0 4 rfl rfl ?_
  obtain ⟨hr0, h⟩ := h
  have J34_22 : ∀ (v8 : Int32) (ev8 : (if v1 = 0 then (0) else (if (S.2.1 kLoanLefts (ix p1)) < p2 then (0) else (lt (f_X12_canPay S p1 p2) (fun (v6 : Int32) => if v6 = 0 then (0) else (1))))) = v8), BW O G fdX12_payBack 0 0 (QV O G 0 0 PP) S 34 [some (vr 12 0), some (vi p1), some (vi p2), some (vi v1), none] [vi v8] := by
    intro v8 ev8
    have h := h v8 ev8
    refine a_istore (pc := 34) 0 20 (ls2 := [some (vr 12 0), some (vi p1), some (vi p2), some (vi v1), some (vi v8)]) rfl (by decide) rfl ?_
    refine a_aload_n (pc := 36) 0 21 rfl rfl ?_
    refine a_iload_n (pc := 37) 0 22 rfl rfl ?_
    have J70_23 : ∀ (v13 : Int32) (ev13 : (if v1 = 0 then (1) else (lt (f_X12_in S p2 1 (nI 10000)) (fun (v10 : Int32) => if v10 = 0 then (nI 2) else (if v8 = 0 then (nI 3) else (0))))) = v13), BW O G fdX12_payBack 0 0 (QV O G 0 0 PP) S 70 [some (vr 12 0), some (vi p1), some (vi p2), some (vi v1), some (vi v8)] [vi v13, vr 12 0] := by
      intro v13 ev13
      have h := h v13 ev13
      refine a_callVi (pc := 70) 0 38 (c_X12_holds (S := S) v13) rfl cv_X12_175 (by decide) rfl rfl rfl (rm rfl) ?_
      refine a_set (fun S14 eS14 => ?_)
      have h := h S14 eS14
      refine a_seti (fun v15 ev15 => ?_)
      have h := h v15 ev15
      refine a_if_ne (pc := 73) (tgt := 78) 0 39 rfl (by decide) (fun c73_15 => ?_) (fun c73_15 => ?_)
      · have h := h c73_15
        refine a_aload_n (pc := 78) 0 42 rfl rfl ?_
        refine a_iload_n (pc := 79) 0 43 rfl rfl ?_
        refine a_iload_n (pc := 80) 0 44 rfl rfl ?_
        obtain ⟨o17, h⟩ := h
        refine a_callVv (pc := 81) 0 45 (c_X12_endsMoney (S := S14) p1 p2 o17) rfl cv_X12_242 (by decide) rfl rfl rfl (rm rfl) ?_
        refine a_set (fun S18 eS18 => ?_)
        have h := h S18 eS18
        refine a_aload_n (pc := 84) 0 46 rfl rfl ?_
        refine g_12_loanLefts (pc := 85) 0 47 rfl fl_X12_81 ?_
        refine a_iload_n (pc := 88) 1 0 rfl rfl ?_
        refine a_dup2 (pc := 89) 1 1 rfl rfl rfl ?_
        obtain ⟨o19, h⟩ := h
        refine e_45 (pc := 90) 1 2 (ix p1) rfl o19.1 o19.2 ?_
        refine a_iload_n (pc := 91) 1 3 rfl rfl ?_
        refine a_isub (pc := 92) 1 4 rfl ?_
        obtain ⟨o20, h⟩ := h
        refine s_45 (pc := 93) 1 5 (ix p1) rfl o20.1 o20.2 ?_
        refine a_set (fun S21 eS21 => ?_)
        have h := h S21 eS21
        refine a_aload_n (pc := 94) 1 6 rfl rfl ?_
        refine g_12_loanLefts (pc := 95) 1 7 rfl fl_X12_81 ?_
        refine a_iload_n (pc := 98) 1 8 rfl rfl ?_
        have o22 := h
        refine e_45 (pc := 99) 1 9 (ix p1) rfl o22.1 o22.2 ?_
        exact a_iret (pc := 100) 1 10 rfl rfl (hP _ _ (by unfold f_X12_payBack; exact (lt_eq ev1).trans ((lt_eq ev8).trans ((lt_eq ev13).trans ((lt_eq eS14).trans ((lt_eq ev15).trans ((if_neg c73_15).trans ((lt_eq eS18).trans (lt_eq eS21)))))))))
      · refine a_iconst (pc := 76) 0 40 (v := 0) rfl (by decide) ?_
        exact a_iret (pc := 77) 0 41 rfl rfl (hP _ _ (by unfold f_X12_payBack; exact (lt_eq ev1).trans ((lt_eq ev8).trans ((lt_eq ev13).trans ((lt_eq eS14).trans ((lt_eq ev15).trans (if_pos c73_15)))))))
    refine a_if_ne (pc := 38) (tgt := 45) 0 23 rfl (by decide) (fun c38_8 => ?_) (fun c38_8 => ?_)
    · refine a_iload_n (pc := 45) 0 26 rfl rfl ?_
      refine a_iconst (pc := 46) 0 27 (v := 1) rfl (by decide) ?_
      refine a_sipush (pc := 47) 0 28 (v := nI 10000) rfl (by decide) ?_
      refine a_callSi (pc := 50) 0 29 (c_X12_in (S := S) p2 1 (nI 10000)) rfl cs_X12_141 rfl (rm rfl) ?_
      refine a_seti (fun v10 ev10 => ?_)
      refine a_if_ne (pc := 53) (tgt := 60) 0 30 rfl (by decide) (fun c53_10 => ?_) (fun c53_10 => ?_)
      · refine a_iload (pc := 60) 0 33 rfl rfl ?_
        refine a_if_eq (pc := 62) (tgt := 69) 0 34 rfl (by decide) (fun c62_11 => ?_) (fun c62_11 => ?_)
        · refine a_iconst (pc := 69) 0 37 (v := nI 3) rfl (by decide) ?_
          exact J70_23 _ (by exact ((if_neg c38_8).trans ((lt_eq ev10).trans ((if_neg c53_10).trans (if_pos c62_11)))))
        · refine a_iconst (pc := 65) 0 35 (v := 0) rfl (by decide) ?_
          refine a_goto (pc := 66) (tgt := 70) 0 36 rfl (by decide) ?_
          exact J70_23 _ (by exact ((if_neg c38_8).trans ((lt_eq ev10).trans ((if_neg c53_10).trans (if_neg c62_11)))))
      · refine a_iconst (pc := 56) 0 31 (v := nI 2) rfl (by decide) ?_
        refine a_goto (pc := 57) (tgt := 70) 0 32 rfl (by decide) ?_
        exact J70_23 _ (by exact ((if_neg c38_8).trans ((lt_eq ev10).trans (if_pos c53_10))))
    · refine a_iconst (pc := 41) 0 24 (v := 1) rfl (by decide) ?_
      refine a_goto (pc := 42) (tgt := 70) 0 25 rfl (by decide) ?_
      exact J70_23 _ (by exact (if_pos c38_8))
  have h := hr0
  refine a_if_eq (pc := 7) (tgt := 33) 0 5 rfl (by decide) (fun c7_1 => ?_) (fun c7_1 => ?_)
  · refine a_iconst (pc := 33) 0 19 (v := 0) rfl (by decide) ?_
    exact J34_22 _ (by exact (if_pos c7_1))
  · have h := h c7_1
    refine a_aload_n (pc := 10) 0 6 rfl rfl ?_
    refine g_12_loanLefts (pc := 11) 0 7 rfl fl_X12_81 ?_
    refine a_iload_n (pc := 14) 0 8 rfl rfl ?_
    obtain ⟨o3, h⟩ := h
    refine e_45 (pc := 15) 0 9 (ix p1) rfl o3.1 o3.2 ?_
    refine a_iload_n (pc := 16) 0 10 rfl rfl ?_
    refine a_icmp_lt (pc := 17) (tgt := 33) 0 11 rfl (by decide) (fun c17_3 => ?_) (fun c17_3 => ?_)
    · refine a_iconst (pc := 33) 0 19 (v := 0) rfl (by decide) ?_
      exact J34_22 _ (by exact ((if_neg c7_1).trans (if_pos c17_3)))
    · have h := h c17_3
      refine a_aload_n (pc := 20) 0 12 rfl rfl ?_
      refine a_iload_n (pc := 21) 0 13 rfl rfl ?_
      refine a_iload_n (pc := 22) 0 14 rfl rfl ?_
      have o5 := h
      refine a_callVi (pc := 23) 0 15 (c_X12_canPay (S := S) p1 p2 o5) rfl cv_X12_238 (by decide) rfl rfl rfl (rm rfl) ?_
      refine a_seti (fun v6 ev6 => ?_)
      refine a_if_eq (pc := 26) (tgt := 33) 0 16 rfl (by decide) (fun c26_6 => ?_) (fun c26_6 => ?_)
      · refine a_iconst (pc := 33) 0 19 (v := 0) rfl (by decide) ?_
        exact J34_22 _ (by exact ((if_neg c7_1).trans ((if_neg c17_3).trans ((lt_eq ev6).trans (if_pos c26_6)))))
      · refine a_iconst (pc := 29) 0 17 (v := 1) rfl (by decide) ?_
        refine a_goto (pc := 30) (tgt := 34) 0 18 rfl (by decide) ?_
        exact J34_22 _ (by exact ((if_neg c7_1).trans ((if_neg c17_3).trans ((lt_eq ev6).trans (if_neg c26_6)))))
theorem c_X12_payBack {S : Mem} (p1 : Int32) (p2 : Int32)   (h : ok_X12_payBack S p1 p2) : Cts mdX12_payBack 2 44 [vr 12 0, vi p1, vi p2] S (Is (some (vi (f_X12_payBack S p1 p2).1)) ((f_X12_payBack S p1 p2).2)) := Cts.of dtX12_payBack (by decide +kernel) rfl rfl (Nat.le_of_ble_eq_true rfl) rfl (fun O G => w_X12_payBack p1 p2 h (fun _ _ h9 => ⟨by rw [h9], by rw [h9]⟩))
def f_X12_window (S : Mem) (p1 : Int32) (p2 : Int32) : Int32 × Mem := lt (f_X12_isBank S p1) (fun (v1 : Int32) => lt (if v1 = 0 then (1) else (lt (f_X12_in S p2 1 (nI 10000)) (fun (v3 : Int32) => if v3 = 0 then (nI 2) else (if (S.2.1 kHaveFailed (ix p1)) = 0 then (lt (f_X12_room S p1) (fun (v8 : Int32) => if p2 ≤ v8 then (0) else (nI 3))) else (nI 3))))) (fun (v10 : Int32) => lt ((f_X12_holds S v10).2) (fun (S11 : Mem) => lt ((f_X12_holds S v10).1) (fun (v12 : Int32) => if v12 = 0 then ((0, S11)) else (lt ((S11.1, upd2 S11.2.1 kLent (ix p1) ((S11.2.1 kLent (ix p1)) + p2), S11.2.2)) (fun (S16 : Mem) => lt ((S16.1, upd2 S16.2.1 kReserves (ix p1) ((S16.2.1 kReserves (ix p1)) + p2), S16.2.2)) (fun (S19 : Mem) => (S19.2.1 kLent (ix p1), S19))))))))
def ok_X12_window (S : Mem) (p1 : Int32) (p2 : Int32) : Prop := ((∀ v1 : Int32, (f_X12_isBank S p1) = v1 → (((¬ (v1 = 0)) → ((∀ v3 : Int32, (f_X12_in S p2 1 (nI 10000)) = v3 → (((¬ (v3 = 0)) → ((inb p1 4) ∧ (((S.2.1 kHaveFailed (ix p1)) = 0) → ((ok_X12_room S p1))))))))) ∧ (∀ v10 : Int32, (if v1 = 0 then (1) else (lt (f_X12_in S p2 1 (nI 10000)) (fun (v3 : Int32) => if v3 = 0 then (nI 2) else (if (S.2.1 kHaveFailed (ix p1)) = 0 then (lt (f_X12_room S p1) (fun (v8 : Int32) => if p2 ≤ v8 then (0) else (nI 3))) else (nI 3))))) = v10 → ((∀ S11 : Mem, ((f_X12_holds S v10).2) = S11 → ((∀ v12 : Int32, ((f_X12_holds S v10).1) = v12 → (((¬ (v12 = 0)) → ((inb p1 4) ∧ (inb p1 4) ∧ (∀ S16 : Mem, ((S11.1, upd2 S11.2.1 kLent (ix p1) ((S11.2.1 kLent (ix p1)) + p2), S11.2.2)) = S16 → ((inb p1 4) ∧ (inb p1 4) ∧ (∀ S19 : Mem, ((S16.1, upd2 S16.2.1 kReserves (ix p1) ((S16.2.1 kReserves (ix p1)) + p2), S16.2.2)) = S19 → ((inb p1 4))))))))))))))))
abbrev fdX12_window : FD := (mdX12_window, [], 2, 44, 0, 0)
set_option maxRecDepth 100000 in
set_option maxHeartbeats 4000000 in
theorem w_X12_window {O : Om} {G : Cx} {S : Mem} {PP : Option AV → Mem → Prop} (p1 : Int32) (p2 : Int32)   (h : ok_X12_window S p1 p2) (hP : ∀ x9 S9, f_X12_window S p1 p2 = (x9, S9) → PP (some (vi x9)) S9) : BW O G fdX12_window 0 0 (QV O G 0 0 PP) S 0 [some (vr 12 0), some (vi p1), some (vi p2), none] [] := by
  refine a_iload_n (pc := 0) 0 0 rfl rfl ?_
  refine a_callSi (pc := 1) 0 1 (c_X12_isBank (S := S) p1) rfl cs_X12_181 rfl (rm rfl) ?_
  refine a_seti (fun v1 ev1 => ?_)
  have h := h v1 ev1
  refine a_istore_n (pc := 4) 0 2 (ls2 := [some (vr 12 0), some (vi p1), some (vi p2), some (vi v1)]) rfl rfl (by decide) rfl ?_
  refine a_aload_n (pc := 5) 0 3 rfl rfl ?_
  refine a_iload_n (pc := 6) 0 4 rfl rfl ?_
  obtain ⟨hr0, h⟩ := h
  have J52_20 : ∀ (v10 : Int32) (ev10 : (if v1 = 0 then (1) else (lt (f_X12_in S p2 1 (nI 10000)) (fun (v3 : Int32) => if v3 = 0 then (nI 2) else (if (S.2.1 kHaveFailed (ix p1)) = 0 then (lt (f_X12_room S p1) (fun (v8 : Int32) => if p2 ≤ v8 then (0) else (nI 3))) else (nI 3))))) = v10), BW O G fdX12_window 0 0 (QV O G 0 0 PP) S 52 [some (vr 12 0), some (vi p1), some (vi p2), some (vi v1)] [vi v10, vr 12 0] := by
    intro v10 ev10
    have h := h v10 ev10
    refine a_callVi (pc := 52) 0 28 (c_X12_holds (S := S) v10) rfl cv_X12_175 (by decide) rfl rfl rfl (rm rfl) ?_
    refine a_set (fun S11 eS11 => ?_)
    have h := h S11 eS11
    refine a_seti (fun v12 ev12 => ?_)
    have h := h v12 ev12
    refine a_if_ne (pc := 55) (tgt := 60) 0 29 rfl (by decide) (fun c55_12 => ?_) (fun c55_12 => ?_)
    · have h := h c55_12
      refine a_aload_n (pc := 60) 0 32 rfl rfl ?_
      refine g_12_lent (pc := 61) 0 33 rfl fl_X12_56 ?_
      refine a_iload_n (pc := 64) 0 34 rfl rfl ?_
      refine a_dup2 (pc := 65) 0 35 rfl rfl rfl ?_
      obtain ⟨o14, h⟩ := h
      refine e_37 (pc := 66) 0 36 (ix p1) rfl o14.1 o14.2 ?_
      refine a_iload_n (pc := 67) 0 37 rfl rfl ?_
      refine a_iadd (pc := 68) 0 38 rfl ?_
      obtain ⟨o15, h⟩ := h
      refine s_37 (pc := 69) 0 39 (ix p1) rfl o15.1 o15.2 ?_
      refine a_set (fun S16 eS16 => ?_)
      have h := h S16 eS16
      refine a_aload_n (pc := 70) 0 40 rfl rfl ?_
      refine g_12_reserves (pc := 71) 0 41 rfl fl_X12_50 ?_
      refine a_iload_n (pc := 74) 0 42 rfl rfl ?_
      refine a_dup2 (pc := 75) 0 43 rfl rfl rfl ?_
      obtain ⟨o17, h⟩ := h
      refine e_35 (pc := 76) 0 44 (ix p1) rfl o17.1 o17.2 ?_
      refine a_iload_n (pc := 77) 0 45 rfl rfl ?_
      refine a_iadd (pc := 78) 0 46 rfl ?_
      obtain ⟨o18, h⟩ := h
      refine s_35 (pc := 79) 0 47 (ix p1) rfl o18.1 o18.2 ?_
      refine a_set (fun S19 eS19 => ?_)
      have h := h S19 eS19
      refine a_aload_n (pc := 80) 1 0 rfl rfl ?_
      refine g_12_lent (pc := 81) 1 1 rfl fl_X12_56 ?_
      refine a_iload_n (pc := 84) 1 2 rfl rfl ?_
      have o20 := h
      refine e_37 (pc := 85) 1 3 (ix p1) rfl o20.1 o20.2 ?_
      exact a_iret (pc := 86) 1 4 rfl rfl (hP _ _ (by unfold f_X12_window; exact (lt_eq ev1).trans ((lt_eq ev10).trans ((lt_eq eS11).trans ((lt_eq ev12).trans ((if_neg c55_12).trans ((lt_eq eS16).trans (lt_eq eS19))))))))
    · refine a_iconst (pc := 58) 0 30 (v := 0) rfl (by decide) ?_
      exact a_iret (pc := 59) 0 31 rfl rfl (hP _ _ (by unfold f_X12_window; exact (lt_eq ev1).trans ((lt_eq ev10).trans ((lt_eq eS11).trans ((lt_eq ev12).trans (if_pos c55_12))))))
  have h := hr0
  refine a_if_ne (pc := 7) (tgt := 14) 0 5 rfl (by decide) (fun c7_1 => ?_) (fun c7_1 => ?_)
  · have h := h c7_1
    refine a_iload_n (pc := 14) 0 8 rfl rfl ?_
    refine a_iconst (pc := 15) 0 9 (v := 1) rfl (by decide) ?_
    refine a_sipush (pc := 16) 0 10 (v := nI 10000) rfl (by decide) ?_
    refine a_callSi (pc := 19) 0 11 (c_X12_in (S := S) p2 1 (nI 10000)) rfl cs_X12_141 rfl (rm rfl) ?_
    refine a_seti (fun v3 ev3 => ?_)
    have h := h v3 ev3
    refine a_if_ne (pc := 22) (tgt := 29) 0 12 rfl (by decide) (fun c22_3 => ?_) (fun c22_3 => ?_)
    · have h := h c22_3
      refine a_aload_n (pc := 29) 0 15 rfl rfl ?_
      refine g_12_haveFailed (pc := 30) 0 16 rfl fl_X12_62 ?_
      refine a_iload_n (pc := 33) 0 17 rfl rfl ?_
      obtain ⟨o5, h⟩ := h
      refine e_39 (pc := 34) 0 18 (ix p1) rfl o5.1 o5.2 ?_
      refine a_if_ne (pc := 35) (tgt := 47) 0 19 rfl (by decide) (fun c35_5 => ?_) (fun c35_5 => ?_)
      · refine a_iconst (pc := 47) 0 25 (v := nI 3) rfl (by decide) ?_
        refine a_goto (pc := 48) (tgt := 52) 0 26 rfl (by decide) ?_
        exact J52_20 _ (by exact ((if_neg c7_1).trans ((lt_eq ev3).trans ((if_neg c22_3).trans (if_neg c35_5)))))
      · have h := h c35_5
        refine a_aload_n (pc := 38) 0 20 rfl rfl ?_
        refine a_iload_n (pc := 39) 0 21 rfl rfl ?_
        have o7 := h
        refine a_callVi (pc := 40) 0 22 (c_X12_room (S := S) p1 o7) rfl cv_X12_246 (by decide) rfl rfl rfl (rm rfl) ?_
        refine a_seti (fun v8 ev8 => ?_)
        refine a_iload_n (pc := 43) 0 23 rfl rfl ?_
        refine a_icmp_ge (pc := 44) (tgt := 51) 0 24 rfl (by decide) (fun c44_8 => ?_) (fun c44_8 => ?_)
        · refine a_iconst (pc := 51) 0 27 (v := 0) rfl (by decide) ?_
          exact J52_20 _ (by exact ((if_neg c7_1).trans ((lt_eq ev3).trans ((if_neg c22_3).trans ((if_pos c35_5).trans ((lt_eq ev8).trans (if_pos c44_8)))))))
        · refine a_iconst (pc := 47) 0 25 (v := nI 3) rfl (by decide) ?_
          refine a_goto (pc := 48) (tgt := 52) 0 26 rfl (by decide) ?_
          exact J52_20 _ (by exact ((if_neg c7_1).trans ((lt_eq ev3).trans ((if_neg c22_3).trans ((if_pos c35_5).trans ((lt_eq ev8).trans (if_neg c44_8)))))))
    · refine a_iconst (pc := 25) 0 13 (v := nI 2) rfl (by decide) ?_
      refine a_goto (pc := 26) (tgt := 52) 0 14 rfl (by decide) ?_
      exact J52_20 _ (by exact ((if_neg c7_1).trans ((lt_eq ev3).trans (if_pos c22_3))))
  · refine a_iconst (pc := 10) 0 6 (v := 1) rfl (by decide) ?_
    refine a_goto (pc := 11) (tgt := 52) 0 7 rfl (by decide) ?_
    exact J52_20 _ (by exact (if_pos c7_1))
theorem c_X12_window {S : Mem} (p1 : Int32) (p2 : Int32)   (h : ok_X12_window S p1 p2) : Cts mdX12_window 2 44 [vr 12 0, vi p1, vi p2] S (Is (some (vi (f_X12_window S p1 p2).1)) ((f_X12_window S p1 p2).2)) := Cts.of dtX12_window (by decide +kernel) rfl rfl (Nat.le_of_ble_eq_true rfl) rfl (fun O G => w_X12_window p1 p2 h (fun _ _ h9 => ⟨by rw [h9], by rw [h9]⟩))
def f_X12_windowBack (S : Mem) (p1 : Int32) (p2 : Int32) : Int32 × Mem := lt (f_X12_isBank S p1) (fun (v1 : Int32) => lt (if v1 = 0 then (1) else (lt (f_X12_in S p2 1 (nI 10000)) (fun (v3 : Int32) => if v3 = 0 then (nI 2) else (if (S.2.1 kLent (ix p1)) < p2 then (nI 3) else (if p2 ≤ (S.2.1 kReserves (ix p1)) then (0) else (nI 3)))))) (fun (v9 : Int32) => lt ((f_X12_holds S v9).2) (fun (S10 : Mem) => lt ((f_X12_holds S v9).1) (fun (v11 : Int32) => if v11 = 0 then ((0, S10)) else (lt ((S10.1, upd2 S10.2.1 kLent (ix p1) ((S10.2.1 kLent (ix p1)) - p2), S10.2.2)) (fun (S15 : Mem) => lt ((S15.1, upd2 S15.2.1 kReserves (ix p1) ((S15.2.1 kReserves (ix p1)) - p2), S15.2.2)) (fun (S18 : Mem) => (S18.2.1 kLent (ix p1), S18))))))))
def ok_X12_windowBack (S : Mem) (p1 : Int32) (p2 : Int32) : Prop := ((∀ v1 : Int32, (f_X12_isBank S p1) = v1 → (((¬ (v1 = 0)) → ((∀ v3 : Int32, (f_X12_in S p2 1 (nI 10000)) = v3 → (((¬ (v3 = 0)) → ((inb p1 4) ∧ ((¬ ((S.2.1 kLent (ix p1)) < p2)) → ((inb p1 4))))))))) ∧ (∀ v9 : Int32, (if v1 = 0 then (1) else (lt (f_X12_in S p2 1 (nI 10000)) (fun (v3 : Int32) => if v3 = 0 then (nI 2) else (if (S.2.1 kLent (ix p1)) < p2 then (nI 3) else (if p2 ≤ (S.2.1 kReserves (ix p1)) then (0) else (nI 3)))))) = v9 → ((∀ S10 : Mem, ((f_X12_holds S v9).2) = S10 → ((∀ v11 : Int32, ((f_X12_holds S v9).1) = v11 → (((¬ (v11 = 0)) → ((inb p1 4) ∧ (inb p1 4) ∧ (∀ S15 : Mem, ((S10.1, upd2 S10.2.1 kLent (ix p1) ((S10.2.1 kLent (ix p1)) - p2), S10.2.2)) = S15 → ((inb p1 4) ∧ (inb p1 4) ∧ (∀ S18 : Mem, ((S15.1, upd2 S15.2.1 kReserves (ix p1) ((S15.2.1 kReserves (ix p1)) - p2), S15.2.2)) = S18 → ((inb p1 4))))))))))))))))
abbrev fdX12_windowBack : FD := (mdX12_windowBack, [], 2, 42, 0, 0)
set_option maxRecDepth 100000 in
set_option maxHeartbeats 4000000 in
theorem w_X12_windowBack {O : Om} {G : Cx} {S : Mem} {PP : Option AV → Mem → Prop} (p1 : Int32) (p2 : Int32)   (h : ok_X12_windowBack S p1 p2) (hP : ∀ x9 S9, f_X12_windowBack S p1 p2 = (x9, S9) → PP (some (vi x9)) S9) : BW O G fdX12_windowBack 0 0 (QV O G 0 0 PP) S 0 [some (vr 12 0), some (vi p1), some (vi p2), none] [] := by
  refine a_iload_n (pc := 0) 0 0 rfl rfl ?_
  refine a_callSi (pc := 1) 0 1 (c_X12_isBank (S := S) p1) rfl cs_X12_181 rfl (rm rfl) ?_
  refine a_seti (fun v1 ev1 => ?_)
  have h := h v1 ev1
  refine a_istore_n (pc := 4) 0 2 (ls2 := [some (vr 12 0), some (vi p1), some (vi p2), some (vi v1)]) rfl rfl (by decide) rfl ?_
  refine a_aload_n (pc := 5) 0 3 rfl rfl ?_
  refine a_iload_n (pc := 6) 0 4 rfl rfl ?_
  obtain ⟨hr0, h⟩ := h
  have J54_19 : ∀ (v9 : Int32) (ev9 : (if v1 = 0 then (1) else (lt (f_X12_in S p2 1 (nI 10000)) (fun (v3 : Int32) => if v3 = 0 then (nI 2) else (if (S.2.1 kLent (ix p1)) < p2 then (nI 3) else (if p2 ≤ (S.2.1 kReserves (ix p1)) then (0) else (nI 3)))))) = v9), BW O G fdX12_windowBack 0 0 (QV O G 0 0 PP) S 54 [some (vr 12 0), some (vi p1), some (vi p2), some (vi v1)] [vi v9, vr 12 0] := by
    intro v9 ev9
    have h := h v9 ev9
    refine a_callVi (pc := 54) 0 30 (c_X12_holds (S := S) v9) rfl cv_X12_175 (by decide) rfl rfl rfl (rm rfl) ?_
    refine a_set (fun S10 eS10 => ?_)
    have h := h S10 eS10
    refine a_seti (fun v11 ev11 => ?_)
    have h := h v11 ev11
    refine a_if_ne (pc := 57) (tgt := 62) 0 31 rfl (by decide) (fun c57_11 => ?_) (fun c57_11 => ?_)
    · have h := h c57_11
      refine a_aload_n (pc := 62) 0 34 rfl rfl ?_
      refine g_12_lent (pc := 63) 0 35 rfl fl_X12_56 ?_
      refine a_iload_n (pc := 66) 0 36 rfl rfl ?_
      refine a_dup2 (pc := 67) 0 37 rfl rfl rfl ?_
      obtain ⟨o13, h⟩ := h
      refine e_37 (pc := 68) 0 38 (ix p1) rfl o13.1 o13.2 ?_
      refine a_iload_n (pc := 69) 0 39 rfl rfl ?_
      refine a_isub (pc := 70) 0 40 rfl ?_
      obtain ⟨o14, h⟩ := h
      refine s_37 (pc := 71) 0 41 (ix p1) rfl o14.1 o14.2 ?_
      refine a_set (fun S15 eS15 => ?_)
      have h := h S15 eS15
      refine a_aload_n (pc := 72) 0 42 rfl rfl ?_
      refine g_12_reserves (pc := 73) 0 43 rfl fl_X12_50 ?_
      refine a_iload_n (pc := 76) 0 44 rfl rfl ?_
      refine a_dup2 (pc := 77) 0 45 rfl rfl rfl ?_
      obtain ⟨o16, h⟩ := h
      refine e_35 (pc := 78) 0 46 (ix p1) rfl o16.1 o16.2 ?_
      refine a_iload_n (pc := 79) 0 47 rfl rfl ?_
      refine a_isub (pc := 80) 1 0 rfl ?_
      obtain ⟨o17, h⟩ := h
      refine s_35 (pc := 81) 1 1 (ix p1) rfl o17.1 o17.2 ?_
      refine a_set (fun S18 eS18 => ?_)
      have h := h S18 eS18
      refine a_aload_n (pc := 82) 1 2 rfl rfl ?_
      refine g_12_lent (pc := 83) 1 3 rfl fl_X12_56 ?_
      refine a_iload_n (pc := 86) 1 4 rfl rfl ?_
      have o19 := h
      refine e_37 (pc := 87) 1 5 (ix p1) rfl o19.1 o19.2 ?_
      exact a_iret (pc := 88) 1 6 rfl rfl (hP _ _ (by unfold f_X12_windowBack; exact (lt_eq ev1).trans ((lt_eq ev9).trans ((lt_eq eS10).trans ((lt_eq ev11).trans ((if_neg c57_11).trans ((lt_eq eS15).trans (lt_eq eS18))))))))
    · refine a_iconst (pc := 60) 0 32 (v := 0) rfl (by decide) ?_
      exact a_iret (pc := 61) 0 33 rfl rfl (hP _ _ (by unfold f_X12_windowBack; exact (lt_eq ev1).trans ((lt_eq ev9).trans ((lt_eq eS10).trans ((lt_eq ev11).trans (if_pos c57_11))))))
  have h := hr0
  refine a_if_ne (pc := 7) (tgt := 14) 0 5 rfl (by decide) (fun c7_1 => ?_) (fun c7_1 => ?_)
  · have h := h c7_1
    refine a_iload_n (pc := 14) 0 8 rfl rfl ?_
    refine a_iconst (pc := 15) 0 9 (v := 1) rfl (by decide) ?_
    refine a_sipush (pc := 16) 0 10 (v := nI 10000) rfl (by decide) ?_
    refine a_callSi (pc := 19) 0 11 (c_X12_in (S := S) p2 1 (nI 10000)) rfl cs_X12_141 rfl (rm rfl) ?_
    refine a_seti (fun v3 ev3 => ?_)
    have h := h v3 ev3
    refine a_if_ne (pc := 22) (tgt := 29) 0 12 rfl (by decide) (fun c22_3 => ?_) (fun c22_3 => ?_)
    · have h := h c22_3
      refine a_aload_n (pc := 29) 0 15 rfl rfl ?_
      refine g_12_lent (pc := 30) 0 16 rfl fl_X12_56 ?_
      refine a_iload_n (pc := 33) 0 17 rfl rfl ?_
      obtain ⟨o5, h⟩ := h
      refine e_37 (pc := 34) 0 18 (ix p1) rfl o5.1 o5.2 ?_
      refine a_iload_n (pc := 35) 0 19 rfl rfl ?_
      refine a_icmp_lt (pc := 36) (tgt := 49) 0 20 rfl (by decide) (fun c36_5 => ?_) (fun c36_5 => ?_)
      · refine a_iconst (pc := 49) 0 27 (v := nI 3) rfl (by decide) ?_
        refine a_goto (pc := 50) (tgt := 54) 0 28 rfl (by decide) ?_
        exact J54_19 _ (by exact ((if_neg c7_1).trans ((lt_eq ev3).trans ((if_neg c22_3).trans (if_pos c36_5)))))
      · have h := h c36_5
        refine a_aload_n (pc := 39) 0 21 rfl rfl ?_
        refine g_12_reserves (pc := 40) 0 22 rfl fl_X12_50 ?_
        refine a_iload_n (pc := 43) 0 23 rfl rfl ?_
        have o7 := h
        refine e_35 (pc := 44) 0 24 (ix p1) rfl o7.1 o7.2 ?_
        refine a_iload_n (pc := 45) 0 25 rfl rfl ?_
        refine a_icmp_ge (pc := 46) (tgt := 53) 0 26 rfl (by decide) (fun c46_7 => ?_) (fun c46_7 => ?_)
        · refine a_iconst (pc := 53) 0 29 (v := 0) rfl (by decide) ?_
          exact J54_19 _ (by exact ((if_neg c7_1).trans ((lt_eq ev3).trans ((if_neg c22_3).trans ((if_neg c36_5).trans (if_pos c46_7))))))
        · refine a_iconst (pc := 49) 0 27 (v := nI 3) rfl (by decide) ?_
          refine a_goto (pc := 50) (tgt := 54) 0 28 rfl (by decide) ?_
          exact J54_19 _ (by exact ((if_neg c7_1).trans ((lt_eq ev3).trans ((if_neg c22_3).trans ((if_neg c36_5).trans (if_neg c46_7))))))
    · refine a_iconst (pc := 25) 0 13 (v := nI 2) rfl (by decide) ?_
      refine a_goto (pc := 26) (tgt := 54) 0 14 rfl (by decide) ?_
      exact J54_19 _ (by exact ((if_neg c7_1).trans ((lt_eq ev3).trans (if_pos c22_3))))
  · refine a_iconst (pc := 10) 0 6 (v := 1) rfl (by decide) ?_
    refine a_goto (pc := 11) (tgt := 54) 0 7 rfl (by decide) ?_
    exact J54_19 _ (by exact (if_pos c7_1))
theorem c_X12_windowBack {S : Mem} (p1 : Int32) (p2 : Int32)   (h : ok_X12_windowBack S p1 p2) : Cts mdX12_windowBack 2 42 [vr 12 0, vi p1, vi p2] S (Is (some (vi (f_X12_windowBack S p1 p2).1)) ((f_X12_windowBack S p1 p2).2)) := Cts.of dtX12_windowBack (by decide +kernel) rfl rfl (Nat.le_of_ble_eq_true rfl) rfl (fun O G => w_X12_windowBack p1 p2 h (fun _ _ h9 => ⟨by rw [h9], by rw [h9]⟩))
def f_X12_rules (S : Mem) (p1 : Int32) (p2 : Int32) (p3 : Int32) : Int32 × Mem := lt (f_X12_in S p1 0 (nI 100)) (fun (v1 : Int32) => lt (if v1 = 0 then (1) else (lt (f_X12_in S p2 0 (nI 100)) (fun (v3 : Int32) => if v3 = 0 then (1) else (lt (f_X12_in S p3 0 (nI 100)) (fun (v5 : Int32) => if v5 = 0 then (1) else (0)))))) (fun (v7 : Int32) => lt ((f_X12_holds S v7).2) (fun (S8 : Mem) => lt ((f_X12_holds S v7).1) (fun (v9 : Int32) => if v9 = 0 then ((0, S8)) else (lt ((S8.1, upd2 S8.2.1 kRate 0 p1, S8.2.2)) (fun (S11 : Mem) => lt ((S11.1, upd2 S11.2.1 kCapitalRule 0 p2, S11.2.2)) (fun (S12 : Mem) => lt ((S12.1, upd2 S12.2.1 kReserveRule 0 p3, S12.2.2)) (fun (S13 : Mem) => (S8.2.1 kRate 0, S13)))))))))
abbrev fdX12_rules : FD := (mdX12_rules, [], 1, 22, 0, 0)
set_option maxRecDepth 100000 in
set_option maxHeartbeats 4000000 in
theorem w_X12_rules {O : Om} {G : Cx} {S : Mem} {PP : Option AV → Mem → Prop} (p1 : Int32) (p2 : Int32) (p3 : Int32)   (hP : ∀ x9 S9, f_X12_rules S p1 p2 p3 = (x9, S9) → PP (some (vi x9)) S9) : BW O G fdX12_rules 0 0 (QV O G 0 0 PP) S 0 [some (vr 12 0), some (vi p1), some (vi p2), some (vi p3), none] [] := by
  refine a_aload_n (pc := 0) 0 0 rfl rfl ?_
  refine a_iload_n (pc := 1) 0 1 rfl rfl ?_
  refine a_iconst (pc := 2) 0 2 (v := 0) rfl (by decide) ?_
  refine a_bipush (pc := 3) 0 3 (v := nI 100) rfl (by decide) ?_
  refine a_callSi (pc := 5) 0 4 (c_X12_in (S := S) p1 0 (nI 100)) rfl cs_X12_141 rfl (rm rfl) ?_
  refine a_seti (fun v1 ev1 => ?_)
  have J36_13 : ∀ (v7 : Int32) (ev7 : (if v1 = 0 then (1) else (lt (f_X12_in S p2 0 (nI 100)) (fun (v3 : Int32) => if v3 = 0 then (1) else (lt (f_X12_in S p3 0 (nI 100)) (fun (v5 : Int32) => if v5 = 0 then (1) else (0)))))) = v7), BW O G fdX12_rules 0 0 (QV O G 0 0 PP) S 36 [some (vr 12 0), some (vi p1), some (vi p2), some (vi p3), none] [vi v7, vr 12 0] := by
    intro v7 ev7
    refine a_callVi (pc := 36) 0 19 (c_X12_holds (S := S) v7) rfl cv_X12_175 (by decide) rfl rfl rfl (rm rfl) ?_
    refine a_set (fun S8 eS8 => ?_)
    refine a_seti (fun v9 ev9 => ?_)
    refine a_if_ne (pc := 39) (tgt := 44) 0 20 rfl (by decide) (fun c39_9 => ?_) (fun c39_9 => ?_)
    · refine a_aload_n (pc := 44) 0 23 rfl rfl ?_
      refine g_12_rate (pc := 45) 0 24 rfl fl_X12_249 ?_
      refine a_istore (pc := 48) 0 25 (ls2 := [some (vr 12 0), some (vi p1), some (vi p2), some (vi p3), some (vi (S8.2.1 kRate 0))]) rfl (by decide) rfl ?_
      refine a_aload_n (pc := 50) 0 26 rfl rfl ?_
      refine a_iload_n (pc := 51) 0 27 rfl rfl ?_
      refine p_12_rate (pc := 52) 0 28 rfl fl_X12_249 ?_
      refine a_set (fun S11 eS11 => ?_)
      refine a_aload_n (pc := 55) 0 29 rfl rfl ?_
      refine a_iload_n (pc := 56) 0 30 rfl rfl ?_
      refine p_12_capitalRule (pc := 57) 0 31 rfl fl_X12_7 ?_
      refine a_set (fun S12 eS12 => ?_)
      refine a_aload_n (pc := 60) 0 32 rfl rfl ?_
      refine a_iload_n (pc := 61) 0 33 rfl rfl ?_
      refine p_12_reserveRule (pc := 62) 0 34 rfl fl_X12_13 ?_
      refine a_set (fun S13 eS13 => ?_)
      refine a_iload (pc := 65) 0 35 rfl rfl ?_
      exact a_iret (pc := 67) 0 36 rfl rfl (hP _ _ (by unfold f_X12_rules; exact (lt_eq ev1).trans ((lt_eq ev7).trans ((lt_eq eS8).trans ((lt_eq ev9).trans ((if_neg c39_9).trans ((lt_eq eS11).trans ((lt_eq eS12).trans (lt_eq eS13)))))))))
    · refine a_iconst (pc := 42) 0 21 (v := 0) rfl (by decide) ?_
      exact a_iret (pc := 43) 0 22 rfl rfl (hP _ _ (by unfold f_X12_rules; exact (lt_eq ev1).trans ((lt_eq ev7).trans ((lt_eq eS8).trans ((lt_eq ev9).trans (if_pos c39_9))))))
  refine a_if_eq (pc := 8) (tgt := 35) 0 5 rfl (by decide) (fun c8_1 => ?_) (fun c8_1 => ?_)
  · refine a_iconst (pc := 35) 0 18 (v := 1) rfl (by decide) ?_
    exact J36_13 _ (by exact (if_pos c8_1))
  · refine a_iload_n (pc := 11) 0 6 rfl rfl ?_
    refine a_iconst (pc := 12) 0 7 (v := 0) rfl (by decide) ?_
    refine a_bipush (pc := 13) 0 8 (v := nI 100) rfl (by decide) ?_
    refine a_callSi (pc := 15) 0 9 (c_X12_in (S := S) p2 0 (nI 100)) rfl cs_X12_141 rfl (rm rfl) ?_
    refine a_seti (fun v3 ev3 => ?_)
    refine a_if_eq (pc := 18) (tgt := 35) 0 10 rfl (by decide) (fun c18_3 => ?_) (fun c18_3 => ?_)
    · refine a_iconst (pc := 35) 0 18 (v := 1) rfl (by decide) ?_
      exact J36_13 _ (by exact ((if_neg c8_1).trans ((lt_eq ev3).trans (if_pos c18_3))))
    · refine a_iload_n (pc := 21) 0 11 rfl rfl ?_
      refine a_iconst (pc := 22) 0 12 (v := 0) rfl (by decide) ?_
      refine a_bipush (pc := 23) 0 13 (v := nI 100) rfl (by decide) ?_
      refine a_callSi (pc := 25) 0 14 (c_X12_in (S := S) p3 0 (nI 100)) rfl cs_X12_141 rfl (rm rfl) ?_
      refine a_seti (fun v5 ev5 => ?_)
      refine a_if_eq (pc := 28) (tgt := 35) 0 15 rfl (by decide) (fun c28_5 => ?_) (fun c28_5 => ?_)
      · refine a_iconst (pc := 35) 0 18 (v := 1) rfl (by decide) ?_
        exact J36_13 _ (by exact ((if_neg c8_1).trans ((lt_eq ev3).trans ((if_neg c18_3).trans ((lt_eq ev5).trans (if_pos c28_5))))))
      · refine a_iconst (pc := 31) 0 16 (v := 0) rfl (by decide) ?_
        refine a_goto (pc := 32) (tgt := 36) 0 17 rfl (by decide) ?_
        exact J36_13 _ (by exact ((if_neg c8_1).trans ((lt_eq ev3).trans ((if_neg c18_3).trans ((lt_eq ev5).trans (if_neg c28_5))))))
theorem c_X12_rules {S : Mem} (p1 : Int32) (p2 : Int32) (p3 : Int32)   : Cts mdX12_rules 1 22 [vr 12 0, vi p1, vi p2, vi p3] S (Is (some (vi (f_X12_rules S p1 p2 p3).1)) ((f_X12_rules S p1 p2 p3).2)) := Cts.of dtX12_rules (by decide +kernel) rfl rfl (Nat.le_of_ble_eq_true rfl) rfl (fun O G => w_X12_rules p1 p2 p3 (fun _ _ h9 => ⟨by rw [h9], by rw [h9]⟩))
def b57_X12_buyBonds (p1 : Int32) (j12 : Nat) (σ13 : Int32 × Mem) : Int32 × Mem := lt (f_X12_least σ13.2 σ13.1 (σ13.2.2.1 kBonds (ix (((nI 5) * (nI j12)) + p1)))) (fun (v16 : Int32) => lt ((σ13.2.1, upd2 σ13.2.2.1 kBonds (ix (((nI 5) * (nI j12)) + p1)) ((σ13.2.2.1 kBonds (ix (((nI 5) * (nI j12)) + p1))) - v16), σ13.2.2.2)) (fun (S19 : Mem) => lt ((S19.1, upd2 S19.2.1 kBonds (ix (((nI 5) * (nI j12)) + (nI 4))) ((S19.2.1 kBonds (ix (((nI 5) * (nI j12)) + (nI 4)))) + v16), S19.2.2)) (fun (S22 : Mem) => (σ13.1 - v16, S22))))
def f_X12_buyBonds (S : Mem) (p1 : Int32) (p2 : Int32) : Int32 × Mem := lt (f_X12_isBank S p1) (fun (v1 : Int32) => lt (if v1 = 0 then (1) else (lt (f_X12_in S p2 1 (nI 10000)) (fun (v3 : Int32) => if v3 = 0 then (nI 2) else (lt (f_X12_bondsOf S p1) (fun (v6 : Int32) => if p2 ≤ v6 then (0) else (nI 3)))))) (fun (v8 : Int32) => lt ((f_X12_holds S v8).2) (fun (S9 : Mem) => lt ((f_X12_holds S v8).1) (fun (v10 : Int32) => if v10 = 0 then ((0, S9)) else (lt (iter (b57_X12_buyBonds p1) (p2, S9) (ix (S9.2.1 kAuctions 0))) (fun (σ13 : Int32 × Mem) => lt ((σ13.2.1, upd2 σ13.2.2.1 kReserves (ix p1) ((σ13.2.2.1 kReserves (ix p1)) + p2), σ13.2.2.2)) (fun (S25 : Mem) => lt (f_X12_bondsOf S25 p1) (fun (v27 : Int32) => (v27, S25)))))))))
def ok_X12_buyBonds (S : Mem) (p1 : Int32) (p2 : Int32) : Prop := ((∀ v1 : Int32, (f_X12_isBank S p1) = v1 → (((¬ (v1 = 0)) → ((∀ v3 : Int32, (f_X12_in S p2 1 (nI 10000)) = v3 → (((¬ (v3 = 0)) → ((ok_X12_bondsOf S p1))))))) ∧ (∀ v8 : Int32, (if v1 = 0 then (1) else (lt (f_X12_in S p2 1 (nI 10000)) (fun (v3 : Int32) => if v3 = 0 then (nI 2) else (lt (f_X12_bondsOf S p1) (fun (v6 : Int32) => if p2 ≤ v6 then (0) else (nI 3)))))) = v8 → ((∀ S9 : Mem, ((f_X12_holds S v8).2) = S9 → ((∀ v10 : Int32, ((f_X12_holds S v8).1) = v10 → (((¬ (v10 = 0)) → ((∀ j12 : Nat, j12 ≤ ix (S9.2.1 kAuctions 0) → ∀ σ13 : Int32 × Mem, iter (b57_X12_buyBonds p1) (p2, S9) j12 = σ13 → σ13.2.2.1 kAuctions 0 = nI (ix (S9.2.1 kAuctions 0))) ∧ (∀ j12 : Nat, j12 < ix (S9.2.1 kAuctions 0) → ∀ σ13 : Int32 × Mem, iter (b57_X12_buyBonds p1) (p2, S9) j12 = σ13 → ((inb (((nI 5) * (nI j12)) + p1) 100) ∧ (∀ v16 : Int32, (f_X12_least σ13.2 σ13.1 (σ13.2.2.1 kBonds (ix (((nI 5) * (nI j12)) + p1)))) = v16 → ((inb (((nI 5) * (nI j12)) + p1) 100) ∧ (inb (((nI 5) * (nI j12)) + p1) 100) ∧ (∀ S19 : Mem, ((σ13.2.1, upd2 σ13.2.2.1 kBonds (ix (((nI 5) * (nI j12)) + p1)) ((σ13.2.2.1 kBonds (ix (((nI 5) * (nI j12)) + p1))) - v16), σ13.2.2.2)) = S19 → ((inb (((nI 5) * (nI j12)) + (nI 4)) 100) ∧ (inb (((nI 5) * (nI j12)) + (nI 4)) 100))))))) ∧ (∀ σ13 : Int32 × Mem, iter (b57_X12_buyBonds p1) (p2, S9) (ix (S9.2.1 kAuctions 0)) = σ13 → ((inb p1 4) ∧ (inb p1 4) ∧ (∀ S25 : Mem, ((σ13.2.1, upd2 σ13.2.2.1 kReserves (ix p1) ((σ13.2.2.1 kReserves (ix p1)) + p2), σ13.2.2.2)) = S25 → ((ok_X12_bondsOf S25 p1))))))))))))))))
abbrev fdX12_buyBonds : FD := (mdX12_buyBonds, [], 2, 42, 0, 0)
set_option maxRecDepth 100000 in
set_option maxHeartbeats 4000000 in
theorem w_X12_buyBonds {O : Om} {G : Cx} {S : Mem} {PP : Option AV → Mem → Prop} (p1 : Int32) (p2 : Int32)   (h : ok_X12_buyBonds S p1 p2) (hP : ∀ x9 S9, f_X12_buyBonds S p1 p2 = (x9, S9) → PP (some (vi x9)) S9) : BW O G fdX12_buyBonds 0 0 (QV O G 0 0 PP) S 0 [some (vr 12 0), some (vi p1), some (vi p2), none, none, none, none] [] := by
  refine a_iload_n (pc := 0) 0 0 rfl rfl ?_
  refine a_callSi (pc := 1) 0 1 (c_X12_isBank (S := S) p1) rfl cs_X12_181 rfl (rm rfl) ?_
  refine a_seti (fun v1 ev1 => ?_)
  have h := h v1 ev1
  refine a_istore_n (pc := 4) 0 2 (ls2 := [some (vr 12 0), some (vi p1), some (vi p2), some (vi v1), none, none, none]) rfl rfl (by decide) rfl ?_
  refine a_aload_n (pc := 5) 0 3 rfl rfl ?_
  refine a_iload_n (pc := 6) 0 4 rfl rfl ?_
  obtain ⟨hr0, h⟩ := h
  have J43_27 : ∀ (v8 : Int32) (ev8 : (if v1 = 0 then (1) else (lt (f_X12_in S p2 1 (nI 10000)) (fun (v3 : Int32) => if v3 = 0 then (nI 2) else (lt (f_X12_bondsOf S p1) (fun (v6 : Int32) => if p2 ≤ v6 then (0) else (nI 3)))))) = v8), BW O G fdX12_buyBonds 0 0 (QV O G 0 0 PP) S 43 [some (vr 12 0), some (vi p1), some (vi p2), some (vi v1), none, none, none] [vi v8, vr 12 0] := by
    intro v8 ev8
    have h := h v8 ev8
    refine a_callVi (pc := 43) 0 23 (c_X12_holds (S := S) v8) rfl cv_X12_175 (by decide) rfl rfl rfl (rm rfl) ?_
    refine a_set (fun S9 eS9 => ?_)
    have h := h S9 eS9
    refine a_seti (fun v10 ev10 => ?_)
    have h := h v10 ev10
    refine a_if_ne (pc := 46) (tgt := 51) 0 24 rfl (by decide) (fun c46_10 => ?_) (fun c46_10 => ?_)
    · have h := h c46_10
      refine a_iload_n (pc := 51) 0 27 rfl rfl ?_
      refine a_istore (pc := 52) 0 28 (ls2 := [some (vr 12 0), some (vi p1), some (vi p2), some (vi v1), some (vi p2), none, none]) rfl (by decide) rfl ?_
      refine a_iconst (pc := 54) 0 29 (v := 0) rfl (by decide) ?_
      refine a_istore (pc := 55) 0 30 (ls2 := [some (vr 12 0), some (vi p1), some (vi p2), some (vi v1), some (vi p2), some (vi 0), none]) rfl (by decide) rfl ?_
      obtain ⟨o14, hb_j12, h⟩ := h
      have nlt_j12 := ix_lt (S9.2.1 kAuctions 0)
      have L57_28 : ∀ (m_j12 j12 : Nat), j12 + m_j12 = ix (S9.2.1 kAuctions 0) → ∀ (σ13 : Int32 × Mem), iter (b57_X12_buyBonds p1) (p2, S9) j12 = σ13 → BW O G fdX12_buyBonds 0 0 (QV O G 0 0 PP) σ13.2 57 [some (vr 12 0), some (vi p1), some (vi p2), some (vi v1), some (vi σ13.1), some (vi (nI j12)), none] [] := by
        intro m_j12
        induction m_j12 with
        | zero =>
          intro j12 hj_j12 σ13 eσ13
          have o14 := o14 j12 (by omega) σ13 eσ13
          have hn_j12 : j12 = ix (S9.2.1 kAuctions 0) := by omega
          rw [hn_j12] at eσ13
          have h := h σ13 eσ13
          refine a_iload (pc := 57) 0 31 rfl rfl ?_
          refine a_aload_n (pc := 59) 0 32 rfl rfl ?_
          refine g_12_auctions (pc := 60) 0 33 rfl fl_X12_145 ?_
          refine a_icmp_ge_t (pc := 63) (tgt := 129) 0 34 rfl (by decide) (bd_t (o14) (by omega)) ?_
          refine a_aload_n (pc := 129) 1 28 rfl rfl ?_
          refine g_12_reserves (pc := 130) 1 29 rfl fl_X12_50 ?_
          refine a_iload_n (pc := 133) 1 30 rfl rfl ?_
          refine a_dup2 (pc := 134) 1 31 rfl rfl rfl ?_
          obtain ⟨o23, h⟩ := h
          refine e_35 (pc := 135) 1 32 (ix p1) rfl o23.1 o23.2 ?_
          refine a_iload_n (pc := 136) 1 33 rfl rfl ?_
          refine a_iadd (pc := 137) 1 34 rfl ?_
          obtain ⟨o24, h⟩ := h
          refine s_35 (pc := 138) 1 35 (ix p1) rfl o24.1 o24.2 ?_
          refine a_set (fun S25 eS25 => ?_)
          have h := h S25 eS25
          refine a_aload_n (pc := 139) 1 36 rfl rfl ?_
          refine a_iload_n (pc := 140) 1 37 rfl rfl ?_
          have o26 := h
          refine a_callVi (pc := 141) 1 38 (c_X12_bondsOf (S := S25) p1 o26) rfl cv_X12_151 (by decide) rfl rfl rfl (rm rfl) ?_
          refine a_seti (fun v27 ev27 => ?_)
          exact a_iret (pc := 144) 1 39 rfl rfl (hP _ _ (by unfold f_X12_buyBonds; exact (lt_eq ev1).trans ((lt_eq ev8).trans ((lt_eq eS9).trans ((lt_eq ev10).trans ((if_neg c46_10).trans ((lt_eq eσ13).trans ((lt_eq eS25).trans (lt_eq ev27)))))))))
        | succ m_j12 ih_j12 =>
          intro j12 hj_j12 σ13 eσ13
          have o14 := o14 j12 (by omega) σ13 eσ13
          have h := hb_j12 j12 (by omega) σ13 eσ13
          refine a_iload (pc := 57) 0 31 rfl rfl ?_
          refine a_aload_n (pc := 59) 0 32 rfl rfl ?_
          refine g_12_auctions (pc := 60) 0 33 rfl fl_X12_145 ?_
          refine a_icmp_ge_f (pc := 63) (tgt := 129) 0 34 rfl (bd_f (o14) (by omega)) (by decide) ?_
          refine a_iload (pc := 66) 0 35 rfl rfl ?_
          refine a_aload_n (pc := 68) 0 36 rfl rfl ?_
          refine g_12_bonds (pc := 69) 0 37 rfl fl_X12_117 ?_
          refine a_iconst (pc := 72) 0 38 (v := nI 5) rfl (by decide) ?_
          refine a_iload (pc := 73) 0 39 rfl rfl ?_
          refine a_imul (pc := 75) 0 40 rfl ?_
          refine a_iload_n (pc := 76) 0 41 rfl rfl ?_
          refine a_iadd (pc := 77) 0 42 rfl ?_
          obtain ⟨o15, h⟩ := h
          refine e_57 (pc := 78) 0 43 (ix (((nI 5) * (nI j12)) + p1)) rfl o15.1 o15.2 ?_
          refine a_callSi (pc := 79) 0 44 (c_X12_least (S := σ13.2) σ13.1 (σ13.2.2.1 kBonds (ix (((nI 5) * (nI j12)) + p1)))) rfl cs_X12_193 rfl (rm rfl) ?_
          refine a_seti (fun v16 ev16 => ?_)
          have h := h v16 ev16
          refine a_istore (pc := 82) 0 45 (ls2 := [some (vr 12 0), some (vi p1), some (vi p2), some (vi v1), some (vi σ13.1), some (vi (nI j12)), some (vi v16)]) rfl (by decide) rfl ?_
          refine a_aload_n (pc := 84) 0 46 rfl rfl ?_
          refine g_12_bonds (pc := 85) 0 47 rfl fl_X12_117 ?_
          refine a_iconst (pc := 88) 1 0 (v := nI 5) rfl (by decide) ?_
          refine a_iload (pc := 89) 1 1 rfl rfl ?_
          refine a_imul (pc := 91) 1 2 rfl ?_
          refine a_iload_n (pc := 92) 1 3 rfl rfl ?_
          refine a_iadd (pc := 93) 1 4 rfl ?_
          refine a_dup2 (pc := 94) 1 5 rfl rfl rfl ?_
          obtain ⟨o17, h⟩ := h
          refine e_57 (pc := 95) 1 6 (ix (((nI 5) * (nI j12)) + p1)) rfl o17.1 o17.2 ?_
          refine a_iload (pc := 96) 1 7 rfl rfl ?_
          refine a_isub (pc := 98) 1 8 rfl ?_
          obtain ⟨o18, h⟩ := h
          refine s_57 (pc := 99) 1 9 (ix (((nI 5) * (nI j12)) + p1)) rfl o18.1 o18.2 ?_
          refine a_set (fun S19 eS19 => ?_)
          have h := h S19 eS19
          refine a_aload_n (pc := 100) 1 10 rfl rfl ?_
          refine g_12_bonds (pc := 101) 1 11 rfl fl_X12_117 ?_
          refine a_iconst (pc := 104) 1 12 (v := nI 5) rfl (by decide) ?_
          refine a_iload (pc := 105) 1 13 rfl rfl ?_
          refine a_imul (pc := 107) 1 14 rfl ?_
          refine a_iconst (pc := 108) 1 15 (v := nI 4) rfl (by decide) ?_
          refine a_iadd (pc := 109) 1 16 rfl ?_
          refine a_dup2 (pc := 110) 1 17 rfl rfl rfl ?_
          obtain ⟨o20, h⟩ := h
          refine e_57 (pc := 111) 1 18 (ix (((nI 5) * (nI j12)) + (nI 4))) rfl o20.1 o20.2 ?_
          refine a_iload (pc := 112) 1 19 rfl rfl ?_
          refine a_iadd (pc := 114) 1 20 rfl ?_
          have o21 := h
          refine s_57 (pc := 115) 1 21 (ix (((nI 5) * (nI j12)) + (nI 4))) rfl o21.1 o21.2 ?_
          refine a_set (fun S22 eS22 => ?_)
          refine a_iload (pc := 116) 1 22 rfl rfl ?_
          refine a_iload (pc := 118) 1 23 rfl rfl ?_
          refine a_isub (pc := 120) 1 24 rfl ?_
          refine a_istore (pc := 121) 1 25 (ls2 := [some (vr 12 0), some (vi p1), some (vi p2), some (vi v1), some (vi (σ13.1 - v16)), some (vi (nI j12)), some (vi v16)]) rfl (by decide) rfl ?_
          refine a_iinc (pc := 123) 1 26 (v := nI (j12 + 1)) (ls2 := [some (vr 12 0), some (vi p1), some (vi p2), some (vi v1), some (vi (σ13.1 - v16)), some (vi (nI (j12 + 1))), some (vi v16)]) rfl rfl (iinc1 _) (by decide) rfl ?_
          refine a_goto (pc := 126) (tgt := 57) 1 27 rfl (by decide) ?_
          refine a_drop (ls2 := [some (vr 12 0), some (vi p1), some (vi p2), some (vi v1), some (vi (σ13.1 - v16)), some (vi (nI (j12 + 1))), none]) (⟨rfl, rfl, rfl, rfl, rfl, rfl, trivial⟩) ?_
          exact ih_j12 (j12 + 1) (by omega) (σ13.1 - v16, S22) (by rw [iter_succ, eσ13]; unfold b57_X12_buyBonds; exact ((lt_eq ev16).trans ((lt_eq eS19).trans (lt_eq eS22))))
      exact L57_28 (ix (S9.2.1 kAuctions 0)) 0 (by omega) (p2, S9) rfl
    · refine a_iconst (pc := 49) 0 25 (v := 0) rfl (by decide) ?_
      exact a_iret (pc := 50) 0 26 rfl rfl (hP _ _ (by unfold f_X12_buyBonds; exact (lt_eq ev1).trans ((lt_eq ev8).trans ((lt_eq eS9).trans ((lt_eq ev10).trans (if_pos c46_10))))))
  have h := hr0
  refine a_if_ne (pc := 7) (tgt := 14) 0 5 rfl (by decide) (fun c7_1 => ?_) (fun c7_1 => ?_)
  · have h := h c7_1
    refine a_iload_n (pc := 14) 0 8 rfl rfl ?_
    refine a_iconst (pc := 15) 0 9 (v := 1) rfl (by decide) ?_
    refine a_sipush (pc := 16) 0 10 (v := nI 10000) rfl (by decide) ?_
    refine a_callSi (pc := 19) 0 11 (c_X12_in (S := S) p2 1 (nI 10000)) rfl cs_X12_141 rfl (rm rfl) ?_
    refine a_seti (fun v3 ev3 => ?_)
    have h := h v3 ev3
    refine a_if_ne (pc := 22) (tgt := 29) 0 12 rfl (by decide) (fun c22_3 => ?_) (fun c22_3 => ?_)
    · have h := h c22_3
      refine a_aload_n (pc := 29) 0 15 rfl rfl ?_
      refine a_iload_n (pc := 30) 0 16 rfl rfl ?_
      have o5 := h
      refine a_callVi (pc := 31) 0 17 (c_X12_bondsOf (S := S) p1 o5) rfl cv_X12_151 (by decide) rfl rfl rfl (rm rfl) ?_
      refine a_seti (fun v6 ev6 => ?_)
      refine a_iload_n (pc := 34) 0 18 rfl rfl ?_
      refine a_icmp_ge (pc := 35) (tgt := 42) 0 19 rfl (by decide) (fun c35_6 => ?_) (fun c35_6 => ?_)
      · refine a_iconst (pc := 42) 0 22 (v := 0) rfl (by decide) ?_
        exact J43_27 _ (by exact ((if_neg c7_1).trans ((lt_eq ev3).trans ((if_neg c22_3).trans ((lt_eq ev6).trans (if_pos c35_6))))))
      · refine a_iconst (pc := 38) 0 20 (v := nI 3) rfl (by decide) ?_
        refine a_goto (pc := 39) (tgt := 43) 0 21 rfl (by decide) ?_
        exact J43_27 _ (by exact ((if_neg c7_1).trans ((lt_eq ev3).trans ((if_neg c22_3).trans ((lt_eq ev6).trans (if_neg c35_6))))))
    · refine a_iconst (pc := 25) 0 13 (v := nI 2) rfl (by decide) ?_
      refine a_goto (pc := 26) (tgt := 43) 0 14 rfl (by decide) ?_
      exact J43_27 _ (by exact ((if_neg c7_1).trans ((lt_eq ev3).trans (if_pos c22_3))))
  · refine a_iconst (pc := 10) 0 6 (v := 1) rfl (by decide) ?_
    refine a_goto (pc := 11) (tgt := 43) 0 7 rfl (by decide) ?_
    exact J43_27 _ (by exact (if_pos c7_1))
theorem c_X12_buyBonds {S : Mem} (p1 : Int32) (p2 : Int32)   (h : ok_X12_buyBonds S p1 p2) : Cts mdX12_buyBonds 2 42 [vr 12 0, vi p1, vi p2] S (Is (some (vi (f_X12_buyBonds S p1 p2).1)) ((f_X12_buyBonds S p1 p2).2)) := Cts.of dtX12_buyBonds (by decide +kernel) rfl rfl (Nat.le_of_ble_eq_true rfl) rfl (fun O G => w_X12_buyBonds p1 p2 h (fun _ _ h9 => ⟨by rw [h9], by rw [h9]⟩))
def f_X12_bid (S : Mem) (p1 : Int32) (p2 : Int32) (p3 : Int32) : Int32 × Mem := lt (f_X12_isBank S p1) (fun (v1 : Int32) => lt (f_X12_in S p2 (nI 50) (nI 100)) (fun (v2 : Int32) => lt (if v2 = 0 then (0) else (lt (f_X12_in S p3 1 (nI 1000)) (fun (v4 : Int32) => if v4 = 0 then (0) else (1)))) (fun (v6 : Int32) => lt (if v1 = 0 then (1) else (if v6 = 0 then (nI 2) else (if (S.2.1 kHaveFailed (ix p1)) = 0 then (if (S.2.1 kBids 0) = (nI 12) then (nI 3) else (0)) else (nI 3)))) (fun (v12 : Int32) => lt ((f_X12_holds S v12).2) (fun (S13 : Mem) => lt ((f_X12_holds S v12).1) (fun (v14 : Int32) => if v14 = 0 then ((0, S13)) else (lt ((S13.1, upd2 S13.2.1 kBidBanks (ix (S13.2.1 kBids 0)) p1, S13.2.2)) (fun (S17 : Mem) => lt ((S17.1, upd2 S17.2.1 kBidPrices (ix (S17.2.1 kBids 0)) p2, S17.2.2)) (fun (S19 : Mem) => lt ((S19.1, upd2 S19.2.1 kBidNumbers (ix (S19.2.1 kBids 0)) p3, S19.2.2)) (fun (S21 : Mem) => lt ((S21.1, upd2 S21.2.1 kBids 0 ((S21.2.1 kBids 0) + 1), S21.2.2)) (fun (S22 : Mem) => (S22.2.1 kBids 0, S22))))))))))))
def ok_X12_bid (S : Mem) (p1 : Int32) (p2 : Int32) (p3 : Int32) : Prop := ((∀ v1 : Int32, (f_X12_isBank S p1) = v1 → ((∀ v2 : Int32, (f_X12_in S p2 (nI 50) (nI 100)) = v2 → ((∀ v6 : Int32, (if v2 = 0 then (0) else (lt (f_X12_in S p3 1 (nI 1000)) (fun (v4 : Int32) => if v4 = 0 then (0) else (1)))) = v6 → (((¬ (v1 = 0)) → (((¬ (v6 = 0)) → ((inb p1 4))))) ∧ (∀ v12 : Int32, (if v1 = 0 then (1) else (if v6 = 0 then (nI 2) else (if (S.2.1 kHaveFailed (ix p1)) = 0 then (if (S.2.1 kBids 0) = (nI 12) then (nI 3) else (0)) else (nI 3)))) = v12 → ((∀ S13 : Mem, ((f_X12_holds S v12).2) = S13 → ((∀ v14 : Int32, ((f_X12_holds S v12).1) = v14 → (((¬ (v14 = 0)) → ((inb (S13.2.1 kBids 0) 12) ∧ (∀ S17 : Mem, ((S13.1, upd2 S13.2.1 kBidBanks (ix (S13.2.1 kBids 0)) p1, S13.2.2)) = S17 → ((inb (S17.2.1 kBids 0) 12) ∧ (∀ S19 : Mem, ((S17.1, upd2 S17.2.1 kBidPrices (ix (S17.2.1 kBids 0)) p2, S17.2.2)) = S19 → ((inb (S19.2.1 kBids 0) 12))))))))))))))))))))
abbrev fdX12_bid : FD := (mdX12_bid, [], 2, 42, 0, 0)
set_option maxRecDepth 100000 in
set_option maxHeartbeats 4000000 in
theorem w_X12_bid {O : Om} {G : Cx} {S : Mem} {PP : Option AV → Mem → Prop} (p1 : Int32) (p2 : Int32) (p3 : Int32)   (h : ok_X12_bid S p1 p2 p3) (hP : ∀ x9 S9, f_X12_bid S p1 p2 p3 = (x9, S9) → PP (some (vi x9)) S9) : BW O G fdX12_bid 0 0 (QV O G 0 0 PP) S 0 [some (vr 12 0), some (vi p1), some (vi p2), some (vi p3), none, none] [] := by
  refine a_iload_n (pc := 0) 0 0 rfl rfl ?_
  refine a_callSi (pc := 1) 0 1 (c_X12_isBank (S := S) p1) rfl cs_X12_181 rfl (rm rfl) ?_
  refine a_seti (fun v1 ev1 => ?_)
  have h := h v1 ev1
  refine a_istore (pc := 4) 0 2 (ls2 := [some (vr 12 0), some (vi p1), some (vi p2), some (vi p3), some (vi v1), none]) rfl (by decide) rfl ?_
  refine a_iload_n (pc := 6) 0 3 rfl rfl ?_
  refine a_bipush (pc := 7) 0 4 (v := nI 50) rfl (by decide) ?_
  refine a_bipush (pc := 9) 0 5 (v := nI 100) rfl (by decide) ?_
  refine a_callSi (pc := 11) 0 6 (c_X12_in (S := S) p2 (nI 50) (nI 100)) rfl cs_X12_141 rfl (rm rfl) ?_
  refine a_seti (fun v2 ev2 => ?_)
  have h := h v2 ev2
  have J33_22 : ∀ (v6 : Int32) (ev6 : (if v2 = 0 then (0) else (lt (f_X12_in S p3 1 (nI 1000)) (fun (v4 : Int32) => if v4 = 0 then (0) else (1)))) = v6), BW O G fdX12_bid 0 0 (QV O G 0 0 PP) S 33 [some (vr 12 0), some (vi p1), some (vi p2), some (vi p3), some (vi v1), none] [vi v6] := by
    intro v6 ev6
    have h := h v6 ev6
    refine a_istore (pc := 33) 0 16 (ls2 := [some (vr 12 0), some (vi p1), some (vi p2), some (vi p3), some (vi v1), some (vi v6)]) rfl (by decide) rfl ?_
    refine a_aload_n (pc := 35) 0 17 rfl rfl ?_
    refine a_iload (pc := 36) 0 18 rfl rfl ?_
    obtain ⟨hr0, h⟩ := h
    have J77_23 : ∀ (v12 : Int32) (ev12 : (if v1 = 0 then (1) else (if v6 = 0 then (nI 2) else (if (S.2.1 kHaveFailed (ix p1)) = 0 then (if (S.2.1 kBids 0) = (nI 12) then (nI 3) else (0)) else (nI 3)))) = v12), BW O G fdX12_bid 0 0 (QV O G 0 0 PP) S 77 [some (vr 12 0), some (vi p1), some (vi p2), some (vi p3), some (vi v1), some (vi v6)] [vi v12, vr 12 0] := by
      intro v12 ev12
      have h := h v12 ev12
      refine a_callVi (pc := 77) 0 38 (c_X12_holds (S := S) v12) rfl cv_X12_175 (by decide) rfl rfl rfl (rm rfl) ?_
      refine a_set (fun S13 eS13 => ?_)
      have h := h S13 eS13
      refine a_seti (fun v14 ev14 => ?_)
      have h := h v14 ev14
      refine a_if_ne (pc := 80) (tgt := 85) 0 39 rfl (by decide) (fun c80_14 => ?_) (fun c80_14 => ?_)
      · have h := h c80_14
        refine a_aload_n (pc := 85) 0 42 rfl rfl ?_
        refine g_12_bidBanks (pc := 86) 0 43 rfl fl_X12_120 ?_
        refine a_aload_n (pc := 89) 0 44 rfl rfl ?_
        refine g_12_bids (pc := 90) 0 45 rfl fl_X12_252 ?_
        refine a_iload_n (pc := 93) 0 46 rfl rfl ?_
        obtain ⟨o16, h⟩ := h
        refine s_58 (pc := 94) 0 47 (ix (S13.2.1 kBids 0)) rfl o16.1 o16.2 ?_
        refine a_set (fun S17 eS17 => ?_)
        have h := h S17 eS17
        refine a_aload_n (pc := 95) 1 0 rfl rfl ?_
        refine g_12_bidPrices (pc := 96) 1 1 rfl fl_X12_123 ?_
        refine a_aload_n (pc := 99) 1 2 rfl rfl ?_
        refine g_12_bids (pc := 100) 1 3 rfl fl_X12_252 ?_
        refine a_iload_n (pc := 103) 1 4 rfl rfl ?_
        obtain ⟨o18, h⟩ := h
        refine s_59 (pc := 104) 1 5 (ix (S17.2.1 kBids 0)) rfl o18.1 o18.2 ?_
        refine a_set (fun S19 eS19 => ?_)
        have h := h S19 eS19
        refine a_aload_n (pc := 105) 1 6 rfl rfl ?_
        refine g_12_bidNumbers (pc := 106) 1 7 rfl fl_X12_126 ?_
        refine a_aload_n (pc := 109) 1 8 rfl rfl ?_
        refine g_12_bids (pc := 110) 1 9 rfl fl_X12_252 ?_
        refine a_iload_n (pc := 113) 1 10 rfl rfl ?_
        have o20 := h
        refine s_60 (pc := 114) 1 11 (ix (S19.2.1 kBids 0)) rfl o20.1 o20.2 ?_
        refine a_set (fun S21 eS21 => ?_)
        refine a_aload_n (pc := 115) 1 12 rfl rfl ?_
        refine a_dup (pc := 116) 1 13 rfl rfl ?_
        refine g_12_bids (pc := 117) 1 14 rfl fl_X12_252 ?_
        refine a_iconst (pc := 120) 1 15 (v := 1) rfl (by decide) ?_
        refine a_iadd (pc := 121) 1 16 rfl ?_
        refine p_12_bids (pc := 122) 1 17 rfl fl_X12_252 ?_
        refine a_set (fun S22 eS22 => ?_)
        refine a_aload_n (pc := 125) 1 18 rfl rfl ?_
        refine g_12_bids (pc := 126) 1 19 rfl fl_X12_252 ?_
        exact a_iret (pc := 129) 1 20 rfl rfl (hP _ _ (by unfold f_X12_bid; exact (lt_eq ev1).trans ((lt_eq ev2).trans ((lt_eq ev6).trans ((lt_eq ev12).trans ((lt_eq eS13).trans ((lt_eq ev14).trans ((if_neg c80_14).trans ((lt_eq eS17).trans ((lt_eq eS19).trans ((lt_eq eS21).trans (lt_eq eS22))))))))))))
      · refine a_iconst (pc := 83) 0 40 (v := 0) rfl (by decide) ?_
        exact a_iret (pc := 84) 0 41 rfl rfl (hP _ _ (by unfold f_X12_bid; exact (lt_eq ev1).trans ((lt_eq ev2).trans ((lt_eq ev6).trans ((lt_eq ev12).trans ((lt_eq eS13).trans ((lt_eq ev14).trans (if_pos c80_14))))))))
    have h := hr0
    refine a_if_ne (pc := 38) (tgt := 45) 0 19 rfl (by decide) (fun c38_6 => ?_) (fun c38_6 => ?_)
    · have h := h c38_6
      refine a_iload (pc := 45) 0 22 rfl rfl ?_
      refine a_if_ne (pc := 47) (tgt := 54) 0 23 rfl (by decide) (fun c47_7 => ?_) (fun c47_7 => ?_)
      · have h := h c47_7
        refine a_aload_n (pc := 54) 0 26 rfl rfl ?_
        refine g_12_haveFailed (pc := 55) 0 27 rfl fl_X12_62 ?_
        refine a_iload_n (pc := 58) 0 28 rfl rfl ?_
        have o9 := h
        refine e_39 (pc := 59) 0 29 (ix p1) rfl o9.1 o9.2 ?_
        refine a_if_ne (pc := 60) (tgt := 72) 0 30 rfl (by decide) (fun c60_9 => ?_) (fun c60_9 => ?_)
        · refine a_iconst (pc := 72) 0 35 (v := nI 3) rfl (by decide) ?_
          refine a_goto (pc := 73) (tgt := 77) 0 36 rfl (by decide) ?_
          exact J77_23 _ (by exact ((if_neg c38_6).trans ((if_neg c47_7).trans (if_neg c60_9))))
        · refine a_aload_n (pc := 63) 0 31 rfl rfl ?_
          refine g_12_bids (pc := 64) 0 32 rfl fl_X12_252 ?_
          refine a_bipush (pc := 67) 0 33 (v := nI 12) rfl (by decide) ?_
          refine a_icmp_ne (pc := 69) (tgt := 76) 0 34 rfl (by decide) (fun c69_10 => ?_) (fun c69_10 => ?_)
          · refine a_iconst (pc := 76) 0 37 (v := 0) rfl (by decide) ?_
            exact J77_23 _ (by exact ((if_neg c38_6).trans ((if_neg c47_7).trans ((if_pos c60_9).trans (if_neg c69_10)))))
          · refine a_iconst (pc := 72) 0 35 (v := nI 3) rfl (by decide) ?_
            refine a_goto (pc := 73) (tgt := 77) 0 36 rfl (by decide) ?_
            exact J77_23 _ (by exact ((if_neg c38_6).trans ((if_neg c47_7).trans ((if_pos c60_9).trans (if_pos c69_10)))))
      · refine a_iconst (pc := 50) 0 24 (v := nI 2) rfl (by decide) ?_
        refine a_goto (pc := 51) (tgt := 77) 0 25 rfl (by decide) ?_
        exact J77_23 _ (by exact ((if_neg c38_6).trans (if_pos c47_7)))
    · refine a_iconst (pc := 41) 0 20 (v := 1) rfl (by decide) ?_
      refine a_goto (pc := 42) (tgt := 77) 0 21 rfl (by decide) ?_
      exact J77_23 _ (by exact (if_pos c38_6))
  refine a_if_eq (pc := 14) (tgt := 32) 0 7 rfl (by decide) (fun c14_2 => ?_) (fun c14_2 => ?_)
  · refine a_iconst (pc := 32) 0 15 (v := 0) rfl (by decide) ?_
    exact J33_22 _ (by exact (if_pos c14_2))
  · refine a_iload_n (pc := 17) 0 8 rfl rfl ?_
    refine a_iconst (pc := 18) 0 9 (v := 1) rfl (by decide) ?_
    refine a_sipush (pc := 19) 0 10 (v := nI 1000) rfl (by decide) ?_
    refine a_callSi (pc := 22) 0 11 (c_X12_in (S := S) p3 1 (nI 1000)) rfl cs_X12_141 rfl (rm rfl) ?_
    refine a_seti (fun v4 ev4 => ?_)
    refine a_if_eq (pc := 25) (tgt := 32) 0 12 rfl (by decide) (fun c25_4 => ?_) (fun c25_4 => ?_)
    · refine a_iconst (pc := 32) 0 15 (v := 0) rfl (by decide) ?_
      exact J33_22 _ (by exact ((if_neg c14_2).trans ((lt_eq ev4).trans (if_pos c25_4))))
    · refine a_iconst (pc := 28) 0 13 (v := 1) rfl (by decide) ?_
      refine a_goto (pc := 29) (tgt := 33) 0 14 rfl (by decide) ?_
      exact J33_22 _ (by exact ((if_neg c14_2).trans ((lt_eq ev4).trans (if_neg c25_4))))
theorem c_X12_bid {S : Mem} (p1 : Int32) (p2 : Int32) (p3 : Int32)   (h : ok_X12_bid S p1 p2 p3) : Cts mdX12_bid 2 42 [vr 12 0, vi p1, vi p2, vi p3] S (Is (some (vi (f_X12_bid S p1 p2 p3).1)) ((f_X12_bid S p1 p2 p3).2)) := Cts.of dtX12_bid (by decide +kernel) rfl rfl (Nat.le_of_ble_eq_true rfl) rfl (fun O G => w_X12_bid p1 p2 p3 h (fun _ _ h9 => ⟨by rw [h9], by rw [h9]⟩))
