def f_X12_thrown (S : Mem)  : Int32 := S.2.1 kThrown 0
abbrev fdX12_thrown : FD := (mdX12_thrown, [], 0, 0, 0, 0)
set_option maxRecDepth 100000 in
set_option maxHeartbeats 4000000 in
theorem w_X12_thrown {O : Om} {G : Cx} {S : Mem} {PP : Option AV → Mem → Prop}    (hP : ∀ x9, f_X12_thrown S  = x9 → PP (some (vi x9)) S) : BW O G fdX12_thrown 0 0 (QV O G 0 0 PP) S 0 [some (vr 12 0)] [] := by
  refine a_aload_n (pc := 0) 0 0 rfl rfl ?_
  refine g_12_thrown (pc := 1) 0 1 rfl fl_X12_138 ?_
  exact a_iret (pc := 4) 0 2 rfl rfl (hP _ (by unfold f_X12_thrown; exact rfl))
theorem c_X12_thrown {S : Mem}    : Cts mdX12_thrown 0 0 [vr 12 0] S (Is (some (vi (f_X12_thrown S ))) (S)) := Cts.of dtX12_thrown (by decide +kernel) rfl rfl (Nat.le_of_ble_eq_true rfl) rfl (fun O G => w_X12_thrown  (fun _ h9 => ⟨by rw [h9], rfl⟩))
def f_X12_holds (S : Mem) (p1 : Int32) : Int32 × Mem := lt ((S.1, upd2 S.2.1 kThrown 0 p1, S.2.2)) (fun (S1 : Mem) => lt (if p1 = 0 then (1) else (0)) (fun (v3 : Int32) => (v3, S1)))
abbrev fdX12_holds : FD := (mdX12_holds, [], 0, 0, 0, 0)
set_option maxRecDepth 100000 in
set_option maxHeartbeats 4000000 in
theorem w_X12_holds {O : Om} {G : Cx} {S : Mem} {PP : Option AV → Mem → Prop} (p1 : Int32)   (hP : ∀ x9 S9, f_X12_holds S p1 = (x9, S9) → PP (some (vi x9)) S9) : BW O G fdX12_holds 0 0 (QV O G 0 0 PP) S 0 [some (vr 12 0), some (vi p1)] [] := by
  refine a_aload_n (pc := 0) 0 0 rfl rfl ?_
  refine a_iload_n (pc := 1) 0 1 rfl rfl ?_
  refine p_12_thrown (pc := 2) 0 2 rfl fl_X12_138 ?_
  refine a_set (fun S1 eS1 => ?_)
  refine a_iload_n (pc := 5) 0 3 rfl rfl ?_
  have J14_3 : ∀ (v3 : Int32) (ev3 : (if p1 = 0 then (1) else (0)) = v3), BW O G fdX12_holds 0 0 (QV O G 0 0 PP) S1 14 [some (vr 12 0), some (vi p1)] [vi v3] := by
    intro v3 ev3
    exact a_zret (pc := 14) 0 8 rfl (nar_b (by rw [← ev3]; repeat (first | exact Or.inl rfl | exact Or.inr rfl | assumption | split | dsimp only [lt]))) rfl (hP _ _ (by unfold f_X12_holds; exact (lt_eq eS1).trans (lt_eq ev3)))
  refine a_if_ne (pc := 6) (tgt := 13) 0 4 rfl (by decide) (fun c6_1 => ?_) (fun c6_1 => ?_)
  · refine a_iconst (pc := 13) 0 7 (v := 0) rfl (by decide) ?_
    exact J14_3 _ (by exact (if_neg c6_1))
  · refine a_iconst (pc := 9) 0 5 (v := 1) rfl (by decide) ?_
    refine a_goto (pc := 10) (tgt := 14) 0 6 rfl (by decide) ?_
    exact J14_3 _ (by exact (if_pos c6_1))
theorem c_X12_holds {S : Mem} (p1 : Int32)   : Cts mdX12_holds 0 0 [vr 12 0, vi p1] S (Is (some (vi (f_X12_holds S p1).1)) ((f_X12_holds S p1).2)) := Cts.of dtX12_holds (by decide +kernel) rfl rfl (Nat.le_of_ble_eq_true rfl) rfl (fun O G => w_X12_holds p1 (fun _ _ h9 => ⟨by rw [h9], by rw [h9]⟩))
theorem b_X12_holds (S : Mem) (p1 : Int32) : (f_X12_holds S p1).1 = 0 ∨ (f_X12_holds S p1).1 = 1 := by
  unfold f_X12_holds
  try dsimp only [lt]
  repeat (first | exact Or.inl rfl | exact Or.inr rfl | split | dsimp only [lt])
def f_X12_in (S : Mem) (p1 : Int32) (p2 : Int32) (p3 : Int32) : Int32 := lt (if p1 < p2 then (0) else (if p3 < p1 then (0) else (1))) (fun (v3 : Int32) => v3)
abbrev fdX12_in : FD := (mdX12_in, [], 0, 0, 0, 0)
set_option maxRecDepth 100000 in
set_option maxHeartbeats 4000000 in
theorem w_X12_in {O : Om} {G : Cx} {S : Mem} {PP : Option AV → Mem → Prop} (p1 : Int32) (p2 : Int32) (p3 : Int32)   (hP : ∀ x9, f_X12_in S p1 p2 p3 = x9 → PP (some (vi x9)) S) : BW O G fdX12_in 0 0 (QV O G 0 0 PP) S 0 [some (vi p1), some (vi p2), some (vi p3)] [] := by
  refine a_iload_n (pc := 0) 0 0 rfl rfl ?_
  refine a_iload_n (pc := 1) 0 1 rfl rfl ?_
  have J15_3 : ∀ (v3 : Int32) (ev3 : (if p1 < p2 then (0) else (if p3 < p1 then (0) else (1))) = v3), BW O G fdX12_in 0 0 (QV O G 0 0 PP) S 15 [some (vi p1), some (vi p2), some (vi p3)] [vi v3] := by
    intro v3 ev3
    exact a_zret (pc := 15) 0 9 rfl (nar_b (by rw [← ev3]; repeat (first | exact Or.inl rfl | exact Or.inr rfl | assumption | split | dsimp only [lt]))) rfl (hP _ (by unfold f_X12_in; exact lt_eq ev3))
  refine a_icmp_lt (pc := 2) (tgt := 14) 0 2 rfl (by decide) (fun c2_0 => ?_) (fun c2_0 => ?_)
  · refine a_iconst (pc := 14) 0 8 (v := 0) rfl (by decide) ?_
    exact J15_3 _ (by exact (if_pos c2_0))
  · refine a_iload_n (pc := 5) 0 3 rfl rfl ?_
    refine a_iload_n (pc := 6) 0 4 rfl rfl ?_
    refine a_icmp_gt (pc := 7) (tgt := 14) 0 5 rfl (by decide) (fun c7_1 => ?_) (fun c7_1 => ?_)
    · refine a_iconst (pc := 14) 0 8 (v := 0) rfl (by decide) ?_
      exact J15_3 _ (by exact ((if_neg c2_0).trans (if_pos c7_1)))
    · refine a_iconst (pc := 10) 0 6 (v := 1) rfl (by decide) ?_
      refine a_goto (pc := 11) (tgt := 15) 0 7 rfl (by decide) ?_
      exact J15_3 _ (by exact ((if_neg c2_0).trans (if_neg c7_1)))
theorem c_X12_in {S : Mem} (p1 : Int32) (p2 : Int32) (p3 : Int32)   : Cts mdX12_in 0 0 [vi p1, vi p2, vi p3] S (Is (some (vi (f_X12_in S p1 p2 p3))) (S)) := Cts.of dtX12_in (by decide +kernel) rfl rfl (Nat.le_of_ble_eq_true rfl) rfl (fun O G => w_X12_in p1 p2 p3 (fun _ h9 => ⟨by rw [h9], rfl⟩))
theorem b_X12_in (S : Mem) (p1 : Int32) (p2 : Int32) (p3 : Int32) : f_X12_in S p1 p2 p3 = 0 ∨ f_X12_in S p1 p2 p3 = 1 := by
  unfold f_X12_in
  try dsimp only [lt]
  repeat (first | exact Or.inl rfl | exact Or.inr rfl | split | dsimp only [lt])
def f_X12_isHolder (S : Mem) (p1 : Int32) : Int32 := lt (f_X12_in S p1 0 (nI 15)) (fun (v1 : Int32) => v1)
abbrev fdX12_isHolder : FD := (mdX12_isHolder, [], 1, 22, 0, 0)
set_option maxRecDepth 100000 in
set_option maxHeartbeats 4000000 in
theorem w_X12_isHolder {O : Om} {G : Cx} {S : Mem} {PP : Option AV → Mem → Prop} (p1 : Int32)   (hP : ∀ x9, f_X12_isHolder S p1 = x9 → PP (some (vi x9)) S) : BW O G fdX12_isHolder 0 0 (QV O G 0 0 PP) S 0 [some (vi p1)] [] := by
  refine a_iload_n (pc := 0) 0 0 rfl rfl ?_
  refine a_iconst (pc := 1) 0 1 (v := 0) rfl (by decide) ?_
  refine a_bipush (pc := 2) 0 2 (v := nI 15) rfl (by decide) ?_
  refine a_callSi (pc := 4) 0 3 (c_X12_in (S := S) p1 0 (nI 15)) rfl cs_X12_141 rfl (rm rfl) ?_
  refine a_seti (fun v1 ev1 => ?_)
  exact a_zret (pc := 7) 0 4 rfl (nar_b (ev1 ▸ b_X12_in ..)) rfl (hP _ (by unfold f_X12_isHolder; exact lt_eq ev1))
theorem c_X12_isHolder {S : Mem} (p1 : Int32)   : Cts mdX12_isHolder 1 22 [vi p1] S (Is (some (vi (f_X12_isHolder S p1))) (S)) := Cts.of dtX12_isHolder (by decide +kernel) rfl rfl (Nat.le_of_ble_eq_true rfl) rfl (fun O G => w_X12_isHolder p1 (fun _ h9 => ⟨by rw [h9], rfl⟩))
theorem b_X12_isHolder (S : Mem) (p1 : Int32) : f_X12_isHolder S p1 = 0 ∨ f_X12_isHolder S p1 = 1 := by
  unfold f_X12_isHolder
  try dsimp only [lt]
  repeat (first | exact Or.inl rfl | exact Or.inr rfl | exact b_X12_in .. | split | dsimp only [lt])
def f_X12_isFirm (S : Mem) (p1 : Int32) : Int32 := lt (f_X12_in S p1 (nI 10) (nI 15)) (fun (v1 : Int32) => v1)
abbrev fdX12_isFirm : FD := (mdX12_isFirm, [], 1, 22, 0, 0)
set_option maxRecDepth 100000 in
set_option maxHeartbeats 4000000 in
theorem w_X12_isFirm {O : Om} {G : Cx} {S : Mem} {PP : Option AV → Mem → Prop} (p1 : Int32)   (hP : ∀ x9, f_X12_isFirm S p1 = x9 → PP (some (vi x9)) S) : BW O G fdX12_isFirm 0 0 (QV O G 0 0 PP) S 0 [some (vi p1)] [] := by
  refine a_iload_n (pc := 0) 0 0 rfl rfl ?_
  refine a_bipush (pc := 1) 0 1 (v := nI 10) rfl (by decide) ?_
  refine a_bipush (pc := 3) 0 2 (v := nI 15) rfl (by decide) ?_
  refine a_callSi (pc := 5) 0 3 (c_X12_in (S := S) p1 (nI 10) (nI 15)) rfl cs_X12_141 rfl (rm rfl) ?_
  refine a_seti (fun v1 ev1 => ?_)
  exact a_zret (pc := 8) 0 4 rfl (nar_b (ev1 ▸ b_X12_in ..)) rfl (hP _ (by unfold f_X12_isFirm; exact lt_eq ev1))
theorem c_X12_isFirm {S : Mem} (p1 : Int32)   : Cts mdX12_isFirm 1 22 [vi p1] S (Is (some (vi (f_X12_isFirm S p1))) (S)) := Cts.of dtX12_isFirm (by decide +kernel) rfl rfl (Nat.le_of_ble_eq_true rfl) rfl (fun O G => w_X12_isFirm p1 (fun _ h9 => ⟨by rw [h9], rfl⟩))
theorem b_X12_isFirm (S : Mem) (p1 : Int32) : f_X12_isFirm S p1 = 0 ∨ f_X12_isFirm S p1 = 1 := by
  unfold f_X12_isFirm
  try dsimp only [lt]
  repeat (first | exact Or.inl rfl | exact Or.inr rfl | exact b_X12_in .. | split | dsimp only [lt])
def f_X12_isHousehold (S : Mem) (p1 : Int32) : Int32 := lt (f_X12_in S p1 0 (nI 9)) (fun (v1 : Int32) => v1)
abbrev fdX12_isHousehold : FD := (mdX12_isHousehold, [], 1, 22, 0, 0)
set_option maxRecDepth 100000 in
set_option maxHeartbeats 4000000 in
theorem w_X12_isHousehold {O : Om} {G : Cx} {S : Mem} {PP : Option AV → Mem → Prop} (p1 : Int32)   (hP : ∀ x9, f_X12_isHousehold S p1 = x9 → PP (some (vi x9)) S) : BW O G fdX12_isHousehold 0 0 (QV O G 0 0 PP) S 0 [some (vi p1)] [] := by
  refine a_iload_n (pc := 0) 0 0 rfl rfl ?_
  refine a_iconst (pc := 1) 0 1 (v := 0) rfl (by decide) ?_
  refine a_bipush (pc := 2) 0 2 (v := nI 9) rfl (by decide) ?_
  refine a_callSi (pc := 4) 0 3 (c_X12_in (S := S) p1 0 (nI 9)) rfl cs_X12_141 rfl (rm rfl) ?_
  refine a_seti (fun v1 ev1 => ?_)
  exact a_zret (pc := 7) 0 4 rfl (nar_b (ev1 ▸ b_X12_in ..)) rfl (hP _ (by unfold f_X12_isHousehold; exact lt_eq ev1))
theorem c_X12_isHousehold {S : Mem} (p1 : Int32)   : Cts mdX12_isHousehold 1 22 [vi p1] S (Is (some (vi (f_X12_isHousehold S p1))) (S)) := Cts.of dtX12_isHousehold (by decide +kernel) rfl rfl (Nat.le_of_ble_eq_true rfl) rfl (fun O G => w_X12_isHousehold p1 (fun _ h9 => ⟨by rw [h9], rfl⟩))
theorem b_X12_isHousehold (S : Mem) (p1 : Int32) : f_X12_isHousehold S p1 = 0 ∨ f_X12_isHousehold S p1 = 1 := by
  unfold f_X12_isHousehold
  try dsimp only [lt]
  repeat (first | exact Or.inl rfl | exact Or.inr rfl | exact b_X12_in .. | split | dsimp only [lt])
def f_X12_isBank (S : Mem) (p1 : Int32) : Int32 := lt (f_X12_in S p1 0 (nI 3)) (fun (v1 : Int32) => v1)
abbrev fdX12_isBank : FD := (mdX12_isBank, [], 1, 22, 0, 0)
set_option maxRecDepth 100000 in
set_option maxHeartbeats 4000000 in
theorem w_X12_isBank {O : Om} {G : Cx} {S : Mem} {PP : Option AV → Mem → Prop} (p1 : Int32)   (hP : ∀ x9, f_X12_isBank S p1 = x9 → PP (some (vi x9)) S) : BW O G fdX12_isBank 0 0 (QV O G 0 0 PP) S 0 [some (vi p1)] [] := by
  refine a_iload_n (pc := 0) 0 0 rfl rfl ?_
  refine a_iconst (pc := 1) 0 1 (v := 0) rfl (by decide) ?_
  refine a_iconst (pc := 2) 0 2 (v := nI 3) rfl (by decide) ?_
  refine a_callSi (pc := 3) 0 3 (c_X12_in (S := S) p1 0 (nI 3)) rfl cs_X12_141 rfl (rm rfl) ?_
  refine a_seti (fun v1 ev1 => ?_)
  exact a_zret (pc := 6) 0 4 rfl (nar_b (ev1 ▸ b_X12_in ..)) rfl (hP _ (by unfold f_X12_isBank; exact lt_eq ev1))
theorem c_X12_isBank {S : Mem} (p1 : Int32)   : Cts mdX12_isBank 1 22 [vi p1] S (Is (some (vi (f_X12_isBank S p1))) (S)) := Cts.of dtX12_isBank (by decide +kernel) rfl rfl (Nat.le_of_ble_eq_true rfl) rfl (fun O G => w_X12_isBank p1 (fun _ h9 => ⟨by rw [h9], rfl⟩))
theorem b_X12_isBank (S : Mem) (p1 : Int32) : f_X12_isBank S p1 = 0 ∨ f_X12_isBank S p1 = 1 := by
  unfold f_X12_isBank
  try dsimp only [lt]
  repeat (first | exact Or.inl rfl | exact Or.inr rfl | exact b_X12_in .. | split | dsimp only [lt])
def f_X12_least (S : Mem) (p1 : Int32) (p2 : Int32) : Int32 := lt (if p2 ≤ p1 then (p2) else (p1)) (fun (v2 : Int32) => v2)
abbrev fdX12_least : FD := (mdX12_least, [], 0, 0, 0, 0)
set_option maxRecDepth 100000 in
set_option maxHeartbeats 4000000 in
theorem w_X12_least {O : Om} {G : Cx} {S : Mem} {PP : Option AV → Mem → Prop} (p1 : Int32) (p2 : Int32)   (hP : ∀ x9, f_X12_least S p1 p2 = x9 → PP (some (vi x9)) S) : BW O G fdX12_least 0 0 (QV O G 0 0 PP) S 0 [some (vi p1), some (vi p2)] [] := by
  refine a_iload_n (pc := 0) 0 0 rfl rfl ?_
  refine a_iload_n (pc := 1) 0 1 rfl rfl ?_
  have J10_2 : ∀ (v2 : Int32) (ev2 : (if p2 ≤ p1 then (p2) else (p1)) = v2), BW O G fdX12_least 0 0 (QV O G 0 0 PP) S 10 [some (vi p1), some (vi p2)] [vi v2] := by
    intro v2 ev2
    exact a_iret (pc := 10) 0 6 rfl rfl (hP _ (by unfold f_X12_least; exact lt_eq ev2))
  refine a_icmp_ge (pc := 2) (tgt := 9) 0 2 rfl (by decide) (fun c2_0 => ?_) (fun c2_0 => ?_)
  · refine a_iload_n (pc := 9) 0 5 rfl rfl ?_
    exact J10_2 _ (by exact (if_pos c2_0))
  · refine a_iload_n (pc := 5) 0 3 rfl rfl ?_
    refine a_goto (pc := 6) (tgt := 10) 0 4 rfl (by decide) ?_
    exact J10_2 _ (by exact (if_neg c2_0))
theorem c_X12_least {S : Mem} (p1 : Int32) (p2 : Int32)   : Cts mdX12_least 0 0 [vi p1, vi p2] S (Is (some (vi (f_X12_least S p1 p2))) (S)) := Cts.of dtX12_least (by decide +kernel) rfl rfl (Nat.le_of_ble_eq_true rfl) rfl (fun O G => w_X12_least p1 p2 (fun _ h9 => ⟨by rw [h9], rfl⟩))
def f_X12_most (S : Mem) (p1 : Int32) (p2 : Int32) : Int32 := lt (if p1 ≤ p2 then (p2) else (p1)) (fun (v2 : Int32) => v2)
abbrev fdX12_most : FD := (mdX12_most, [], 0, 0, 0, 0)
set_option maxRecDepth 100000 in
set_option maxHeartbeats 4000000 in
theorem w_X12_most {O : Om} {G : Cx} {S : Mem} {PP : Option AV → Mem → Prop} (p1 : Int32) (p2 : Int32)   (hP : ∀ x9, f_X12_most S p1 p2 = x9 → PP (some (vi x9)) S) : BW O G fdX12_most 0 0 (QV O G 0 0 PP) S 0 [some (vi p1), some (vi p2)] [] := by
  refine a_iload_n (pc := 0) 0 0 rfl rfl ?_
  refine a_iload_n (pc := 1) 0 1 rfl rfl ?_
  have J10_2 : ∀ (v2 : Int32) (ev2 : (if p1 ≤ p2 then (p2) else (p1)) = v2), BW O G fdX12_most 0 0 (QV O G 0 0 PP) S 10 [some (vi p1), some (vi p2)] [vi v2] := by
    intro v2 ev2
    exact a_iret (pc := 10) 0 6 rfl rfl (hP _ (by unfold f_X12_most; exact lt_eq ev2))
  refine a_icmp_le (pc := 2) (tgt := 9) 0 2 rfl (by decide) (fun c2_0 => ?_) (fun c2_0 => ?_)
  · refine a_iload_n (pc := 9) 0 5 rfl rfl ?_
    exact J10_2 _ (by exact (if_pos c2_0))
  · refine a_iload_n (pc := 5) 0 3 rfl rfl ?_
    refine a_goto (pc := 6) (tgt := 10) 0 4 rfl (by decide) ?_
    exact J10_2 _ (by exact (if_neg c2_0))
theorem c_X12_most {S : Mem} (p1 : Int32) (p2 : Int32)   : Cts mdX12_most 0 0 [vi p1, vi p2] S (Is (some (vi (f_X12_most S p1 p2))) (S)) := Cts.of dtX12_most (by decide +kernel) rfl rfl (Nat.le_of_ble_eq_true rfl) rfl (fun O G => w_X12_most p1 p2 (fun _ h9 => ⟨by rw [h9], rfl⟩))
def f_X12_up (S : Mem) (p1 : Int32) (p2 : Int32) : Int32 := ((p1 + p2) - 1) / p2
def ok_X12_up (S : Mem) (p1 : Int32) (p2 : Int32) : Prop := ((¬ p2 = 0))
abbrev fdX12_up : FD := (mdX12_up, [], 0, 0, 0, 0)
set_option maxRecDepth 100000 in
set_option maxHeartbeats 4000000 in
theorem w_X12_up {O : Om} {G : Cx} {S : Mem} {PP : Option AV → Mem → Prop} (p1 : Int32) (p2 : Int32)   (h : ok_X12_up S p1 p2) (hP : ∀ x9, f_X12_up S p1 p2 = x9 → PP (some (vi x9)) S) : BW O G fdX12_up 0 0 (QV O G 0 0 PP) S 0 [some (vi p1), some (vi p2)] [] := by
  refine a_iload_n (pc := 0) 0 0 rfl rfl ?_
  refine a_iload_n (pc := 1) 0 1 rfl rfl ?_
  refine a_iadd (pc := 2) 0 2 rfl ?_
  refine a_iconst (pc := 3) 0 3 (v := 1) rfl (by decide) ?_
  refine a_isub (pc := 4) 0 4 rfl ?_
  refine a_iload_n (pc := 5) 0 5 rfl rfl ?_
  have o1 := h
  refine a_idiv (pc := 6) 0 6 rfl o1 ?_
  exact a_iret (pc := 7) 0 7 rfl rfl (hP _ (by unfold f_X12_up; exact rfl))
theorem c_X12_up {S : Mem} (p1 : Int32) (p2 : Int32)   (h : ok_X12_up S p1 p2) : Cts mdX12_up 0 0 [vi p1, vi p2] S (Is (some (vi (f_X12_up S p1 p2))) (S)) := Cts.of dtX12_up (by decide +kernel) rfl rfl (Nat.le_of_ble_eq_true rfl) rfl (fun O G => w_X12_up p1 p2 h (fun _ h9 => ⟨by rw [h9], rfl⟩))
def f_X12_free (S : Mem) (p1 : Int32) : Int32 := (S.2.1 kAccounts (ix p1)) - (S.2.1 kBlocked (ix p1))
def ok_X12_free (S : Mem) (p1 : Int32) : Prop := ((inb p1 16) ∧ (inb p1 16))
abbrev fdX12_free : FD := (mdX12_free, [], 0, 0, 0, 0)
set_option maxRecDepth 100000 in
set_option maxHeartbeats 4000000 in
theorem w_X12_free {O : Om} {G : Cx} {S : Mem} {PP : Option AV → Mem → Prop} (p1 : Int32)   (h : ok_X12_free S p1) (hP : ∀ x9, f_X12_free S p1 = x9 → PP (some (vi x9)) S) : BW O G fdX12_free 0 0 (QV O G 0 0 PP) S 0 [some (vr 12 0), some (vi p1)] [] := by
  refine a_aload_n (pc := 0) 0 0 rfl rfl ?_
  refine g_12_accounts (pc := 1) 0 1 rfl fl_X12_26 ?_
  refine a_iload_n (pc := 4) 0 2 rfl rfl ?_
  obtain ⟨o1, h⟩ := h
  refine e_27 (pc := 5) 0 3 (ix p1) rfl o1.1 o1.2 ?_
  refine a_aload_n (pc := 6) 0 4 rfl rfl ?_
  refine g_12_blocked (pc := 7) 0 5 rfl fl_X12_29 ?_
  refine a_iload_n (pc := 10) 0 6 rfl rfl ?_
  have o2 := h
  refine e_28 (pc := 11) 0 7 (ix p1) rfl o2.1 o2.2 ?_
  refine a_isub (pc := 12) 0 8 rfl ?_
  exact a_iret (pc := 13) 0 9 rfl rfl (hP _ (by unfold f_X12_free; exact rfl))
theorem c_X12_free {S : Mem} (p1 : Int32)   (h : ok_X12_free S p1) : Cts mdX12_free 0 0 [vr 12 0, vi p1] S (Is (some (vi (f_X12_free S p1))) (S)) := Cts.of dtX12_free (by decide +kernel) rfl rfl (Nat.le_of_ble_eq_true rfl) rfl (fun O G => w_X12_free p1 h (fun _ h9 => ⟨by rw [h9], rfl⟩))
def f_X12_hasAccount (S : Mem) (p1 : Int32) : Int32 := lt (if (S.2.1 kBankOf (ix p1)) = (-1) then (0) else (1)) (fun (v3 : Int32) => v3)
def ok_X12_hasAccount (S : Mem) (p1 : Int32) : Prop := ((inb p1 16))
abbrev fdX12_hasAccount : FD := (mdX12_hasAccount, [], 0, 0, 0, 0)
set_option maxRecDepth 100000 in
set_option maxHeartbeats 4000000 in
theorem w_X12_hasAccount {O : Om} {G : Cx} {S : Mem} {PP : Option AV → Mem → Prop} (p1 : Int32)   (h : ok_X12_hasAccount S p1) (hP : ∀ x9, f_X12_hasAccount S p1 = x9 → PP (some (vi x9)) S) : BW O G fdX12_hasAccount 0 0 (QV O G 0 0 PP) S 0 [some (vr 12 0), some (vi p1)] [] := by
  refine a_aload_n (pc := 0) 0 0 rfl rfl ?_
  refine g_12_bankOf (pc := 1) 0 1 rfl fl_X12_23 ?_
  refine a_iload_n (pc := 4) 0 2 rfl rfl ?_
  have o1 := h
  refine e_26 (pc := 5) 0 3 (ix p1) rfl o1.1 o1.2 ?_
  refine a_iconst (pc := 6) 0 4 (v := (-1)) rfl (by decide) ?_
  have J15_3 : ∀ (v3 : Int32) (ev3 : (if (S.2.1 kBankOf (ix p1)) = (-1) then (0) else (1)) = v3), BW O G fdX12_hasAccount 0 0 (QV O G 0 0 PP) S 15 [some (vr 12 0), some (vi p1)] [vi v3] := by
    intro v3 ev3
    exact a_zret (pc := 15) 0 9 rfl (nar_b (by rw [← ev3]; repeat (first | exact Or.inl rfl | exact Or.inr rfl | assumption | split | dsimp only [lt]))) rfl (hP _ (by unfold f_X12_hasAccount; exact lt_eq ev3))
  refine a_icmp_eq (pc := 7) (tgt := 14) 0 5 rfl (by decide) (fun c7_1 => ?_) (fun c7_1 => ?_)
  · refine a_iconst (pc := 14) 0 8 (v := 0) rfl (by decide) ?_
    exact J15_3 _ (by exact (if_pos c7_1))
  · refine a_iconst (pc := 10) 0 6 (v := 1) rfl (by decide) ?_
    refine a_goto (pc := 11) (tgt := 15) 0 7 rfl (by decide) ?_
    exact J15_3 _ (by exact (if_neg c7_1))
theorem c_X12_hasAccount {S : Mem} (p1 : Int32)   (h : ok_X12_hasAccount S p1) : Cts mdX12_hasAccount 0 0 [vr 12 0, vi p1] S (Is (some (vi (f_X12_hasAccount S p1))) (S)) := Cts.of dtX12_hasAccount (by decide +kernel) rfl rfl (Nat.le_of_ble_eq_true rfl) rfl (fun O G => w_X12_hasAccount p1 h (fun _ h9 => ⟨by rw [h9], rfl⟩))
theorem b_X12_hasAccount (S : Mem) (p1 : Int32) : f_X12_hasAccount S p1 = 0 ∨ f_X12_hasAccount S p1 = 1 := by
  unfold f_X12_hasAccount
  try dsimp only [lt]
  repeat (first | exact Or.inl rfl | exact Or.inr rfl | split | dsimp only [lt])
def b4_X12_inAccounts (S : Mem) (p1 : Int32) (j1 : Nat) (σ2 : Int32) : Int32 := lt (if (S.2.1 kBankOf j1) = p1 then (S.2.1 kAccounts j1) else (0)) (fun (v4 : Int32) => σ2 + v4)
def f_X12_inAccounts (S : Mem) (p1 : Int32) : Int32 := lt (iter (b4_X12_inAccounts S p1) 0 (16)) (fun (σ2 : Int32) => σ2)
abbrev fdX12_inAccounts : FD := (mdX12_inAccounts, [], 0, 0, 0, 0)
set_option maxRecDepth 100000 in
set_option maxHeartbeats 4000000 in
theorem w_X12_inAccounts {O : Om} {G : Cx} {S : Mem} {PP : Option AV → Mem → Prop} (p1 : Int32)   (hP : ∀ x9, f_X12_inAccounts S p1 = x9 → PP (some (vi x9)) S) : BW O G fdX12_inAccounts 0 0 (QV O G 0 0 PP) S 0 [some (vr 12 0), some (vi p1), none, none] [] := by
  refine a_iconst (pc := 0) 0 0 (v := 0) rfl (by decide) ?_
  refine a_istore_n (pc := 1) 0 1 (ls2 := [some (vr 12 0), some (vi p1), some (vi 0), none]) rfl rfl (by decide) rfl ?_
  refine a_iconst (pc := 2) 0 2 (v := 0) rfl (by decide) ?_
  refine a_istore_n (pc := 3) 0 3 (ls2 := [some (vr 12 0), some (vi p1), some (vi 0), some (vi 0)]) rfl rfl (by decide) rfl ?_
  have L4_4 : ∀ (m_j1 j1 : Nat), j1 + m_j1 = 16 → ∀ (σ2 : Int32), iter (b4_X12_inAccounts S p1) 0 j1 = σ2 → BW O G fdX12_inAccounts 0 0 (QV O G 0 0 PP) S 4 [some (vr 12 0), some (vi p1), some (vi σ2), some (vi (nI j1))] [] := by
    intro m_j1
    induction m_j1 with
    | zero =>
      intro j1 hj_j1 σ2 eσ2
      have hn_j1 : j1 = 16 := by omega
      rw [hn_j1] at eσ2
      refine a_iload_n (pc := 4) 0 4 rfl rfl ?_
      refine a_bipush (pc := 5) 0 5 (v := nI 16) rfl (by decide) ?_
      refine a_icmp_ge_t (pc := 7) (tgt := 39) 0 6 rfl (by decide) (nI_le (by omega) (by omega)) ?_
      refine a_iload_n (pc := 39) 0 24 rfl rfl ?_
      exact a_iret (pc := 40) 0 25 rfl rfl (hP _ (by unfold f_X12_inAccounts; exact lt_eq eσ2))
    | succ m_j1 ih_j1 =>
      intro j1 hj_j1 σ2 eσ2
      refine a_iload_n (pc := 4) 0 4 rfl rfl ?_
      refine a_bipush (pc := 5) 0 5 (v := nI 16) rfl (by decide) ?_
      refine a_icmp_ge_f (pc := 7) (tgt := 39) 0 6 rfl (nI_ge (by omega) (by omega)) (by decide) ?_
      refine a_iload_n (pc := 10) 0 7 rfl rfl ?_
      refine a_aload_n (pc := 11) 0 8 rfl rfl ?_
      refine g_12_bankOf (pc := 12) 0 9 rfl fl_X12_23 ?_
      refine a_iload_n (pc := 15) 0 10 rfl rfl ?_
      refine e_26 (pc := 16) 0 11 (j1) rfl rfl (by omega) ?_
      refine a_iload_n (pc := 17) 0 12 rfl rfl ?_
      have J31_5 : ∀ (v4 : Int32) (ev4 : (if (S.2.1 kBankOf j1) = p1 then (S.2.1 kAccounts j1) else (0)) = v4), BW O G fdX12_inAccounts 0 0 (QV O G 0 0 PP) S 31 [some (vr 12 0), some (vi p1), some (vi σ2), some (vi (nI j1))] [vi v4, vi σ2] := by
        intro v4 ev4
        refine a_iadd (pc := 31) 0 20 rfl ?_
        refine a_istore_n (pc := 32) 0 21 (ls2 := [some (vr 12 0), some (vi p1), some (vi (σ2 + v4)), some (vi (nI j1))]) rfl rfl (by decide) rfl ?_
        refine a_iinc (pc := 33) 0 22 (v := nI (j1 + 1)) (ls2 := [some (vr 12 0), some (vi p1), some (vi (σ2 + v4)), some (vi (nI (j1 + 1)))]) rfl rfl (iinc1 _) (by decide) rfl ?_
        refine a_goto (pc := 36) (tgt := 4) 0 23 rfl (by decide) ?_
        exact ih_j1 (j1 + 1) (by omega) (σ2 + v4) (by rw [iter_succ, eσ2]; unfold b4_X12_inAccounts; exact (lt_eq ev4))
      refine a_icmp_ne (pc := 18) (tgt := 30) 0 13 rfl (by decide) (fun c18_2 => ?_) (fun c18_2 => ?_)
      · refine a_iconst (pc := 30) 0 19 (v := 0) rfl (by decide) ?_
        exact J31_5 _ (by exact (if_neg c18_2))
      · refine a_aload_n (pc := 21) 0 14 rfl rfl ?_
        refine g_12_accounts (pc := 22) 0 15 rfl fl_X12_26 ?_
        refine a_iload_n (pc := 25) 0 16 rfl rfl ?_
        refine e_27 (pc := 26) 0 17 (j1) rfl rfl (by omega) ?_
        refine a_goto (pc := 27) (tgt := 31) 0 18 rfl (by decide) ?_
        exact J31_5 _ (by exact (if_pos c18_2))
  exact L4_4 (16) 0 (by omega) 0 rfl
theorem c_X12_inAccounts {S : Mem} (p1 : Int32)   : Cts mdX12_inAccounts 0 0 [vr 12 0, vi p1] S (Is (some (vi (f_X12_inAccounts S p1))) (S)) := Cts.of dtX12_inAccounts (by decide +kernel) rfl rfl (Nat.le_of_ble_eq_true rfl) rfl (fun O G => w_X12_inAccounts p1 (fun _ h9 => ⟨by rw [h9], rfl⟩))
def b4_X12_bondsOf (S : Mem) (p1 : Int32) (j1 : Nat) (σ2 : Int32) : Int32 := σ2 + (S.2.1 kBonds (ix (((nI 5) * (nI j1)) + p1)))
def f_X12_bondsOf (S : Mem) (p1 : Int32) : Int32 := lt (iter (b4_X12_bondsOf S p1) 0 (ix (S.2.1 kAuctions 0))) (fun (σ2 : Int32) => σ2)
def ok_X12_bondsOf (S : Mem) (p1 : Int32) : Prop := ((∀ j1 : Nat, j1 ≤ ix (S.2.1 kAuctions 0) → ∀ σ2 : Int32, iter (b4_X12_bondsOf S p1) 0 j1 = σ2 → S.2.1 kAuctions 0 = nI (ix (S.2.1 kAuctions 0))) ∧ (∀ j1 : Nat, j1 < ix (S.2.1 kAuctions 0) → ∀ σ2 : Int32, iter (b4_X12_bondsOf S p1) 0 j1 = σ2 → ((inb (((nI 5) * (nI j1)) + p1) 100))))
abbrev fdX12_bondsOf : FD := (mdX12_bondsOf, [], 0, 0, 0, 0)
set_option maxRecDepth 100000 in
set_option maxHeartbeats 4000000 in
theorem w_X12_bondsOf {O : Om} {G : Cx} {S : Mem} {PP : Option AV → Mem → Prop} (p1 : Int32)   (h : ok_X12_bondsOf S p1) (hP : ∀ x9, f_X12_bondsOf S p1 = x9 → PP (some (vi x9)) S) : BW O G fdX12_bondsOf 0 0 (QV O G 0 0 PP) S 0 [some (vr 12 0), some (vi p1), none, none] [] := by
  refine a_iconst (pc := 0) 0 0 (v := 0) rfl (by decide) ?_
  refine a_istore_n (pc := 1) 0 1 (ls2 := [some (vr 12 0), some (vi p1), some (vi 0), none]) rfl rfl (by decide) rfl ?_
  refine a_iconst (pc := 2) 0 2 (v := 0) rfl (by decide) ?_
  refine a_istore_n (pc := 3) 0 3 (ls2 := [some (vr 12 0), some (vi p1), some (vi 0), some (vi 0)]) rfl rfl (by decide) rfl ?_
  obtain ⟨o3, hb_j1⟩ := h
  have nlt_j1 := ix_lt (S.2.1 kAuctions 0)
  have L4_4 : ∀ (m_j1 j1 : Nat), j1 + m_j1 = ix (S.2.1 kAuctions 0) → ∀ (σ2 : Int32), iter (b4_X12_bondsOf S p1) 0 j1 = σ2 → BW O G fdX12_bondsOf 0 0 (QV O G 0 0 PP) S 4 [some (vr 12 0), some (vi p1), some (vi σ2), some (vi (nI j1))] [] := by
    intro m_j1
    induction m_j1 with
    | zero =>
      intro j1 hj_j1 σ2 eσ2
      have o3 := o3 j1 (by omega) σ2 eσ2
      have hn_j1 : j1 = ix (S.2.1 kAuctions 0) := by omega
      rw [hn_j1] at eσ2
      refine a_iload_n (pc := 4) 0 4 rfl rfl ?_
      refine a_aload_n (pc := 5) 0 5 rfl rfl ?_
      refine g_12_auctions (pc := 6) 0 6 rfl fl_X12_145 ?_
      refine a_icmp_ge_t (pc := 9) (tgt := 31) 0 7 rfl (by decide) (bd_t (o3) (by omega)) ?_
      refine a_iload_n (pc := 31) 0 21 rfl rfl ?_
      exact a_iret (pc := 32) 0 22 rfl rfl (hP _ (by unfold f_X12_bondsOf; exact lt_eq eσ2))
    | succ m_j1 ih_j1 =>
      intro j1 hj_j1 σ2 eσ2
      have o3 := o3 j1 (by omega) σ2 eσ2
      have h := hb_j1 j1 (by omega) σ2 eσ2
      refine a_iload_n (pc := 4) 0 4 rfl rfl ?_
      refine a_aload_n (pc := 5) 0 5 rfl rfl ?_
      refine g_12_auctions (pc := 6) 0 6 rfl fl_X12_145 ?_
      refine a_icmp_ge_f (pc := 9) (tgt := 31) 0 7 rfl (bd_f (o3) (by omega)) (by decide) ?_
      refine a_iload_n (pc := 12) 0 8 rfl rfl ?_
      refine a_aload_n (pc := 13) 0 9 rfl rfl ?_
      refine g_12_bonds (pc := 14) 0 10 rfl fl_X12_117 ?_
      refine a_iconst (pc := 17) 0 11 (v := nI 5) rfl (by decide) ?_
      refine a_iload_n (pc := 18) 0 12 rfl rfl ?_
      refine a_imul (pc := 19) 0 13 rfl ?_
      refine a_iload_n (pc := 20) 0 14 rfl rfl ?_
      refine a_iadd (pc := 21) 0 15 rfl ?_
      have o4 := h
      refine e_57 (pc := 22) 0 16 (ix (((nI 5) * (nI j1)) + p1)) rfl o4.1 o4.2 ?_
      refine a_iadd (pc := 23) 0 17 rfl ?_
      refine a_istore_n (pc := 24) 0 18 (ls2 := [some (vr 12 0), some (vi p1), some (vi (σ2 + (S.2.1 kBonds (ix (((nI 5) * (nI j1)) + p1))))), some (vi (nI j1))]) rfl rfl (by decide) rfl ?_
      refine a_iinc (pc := 25) 0 19 (v := nI (j1 + 1)) (ls2 := [some (vr 12 0), some (vi p1), some (vi (σ2 + (S.2.1 kBonds (ix (((nI 5) * (nI j1)) + p1))))), some (vi (nI (j1 + 1)))]) rfl rfl (iinc1 _) (by decide) rfl ?_
      refine a_goto (pc := 28) (tgt := 4) 0 20 rfl (by decide) ?_
      exact ih_j1 (j1 + 1) (by omega) (σ2 + (S.2.1 kBonds (ix (((nI 5) * (nI j1)) + p1)))) (by rw [iter_succ, eσ2]; unfold b4_X12_bondsOf; exact rfl)
  exact L4_4 (ix (S.2.1 kAuctions 0)) 0 (by omega) 0 rfl
theorem c_X12_bondsOf {S : Mem} (p1 : Int32)   (h : ok_X12_bondsOf S p1) : Cts mdX12_bondsOf 0 0 [vr 12 0, vi p1] S (Is (some (vi (f_X12_bondsOf S p1))) (S)) := Cts.of dtX12_bondsOf (by decide +kernel) rfl rfl (Nat.le_of_ble_eq_true rfl) rfl (fun O G => w_X12_bondsOf p1 h (fun _ h9 => ⟨by rw [h9], rfl⟩))
def b4_X12_loansOf (S : Mem) (p1 : Int32) (j1 : Nat) (σ2 : Int32) : Int32 := lt (if (S.2.1 kLoanBanks j1) = p1 then (S.2.1 kLoanLefts j1) else (0)) (fun (v7 : Int32) => σ2 + v7)
def f_X12_loansOf (S : Mem) (p1 : Int32) : Int32 := lt (iter (b4_X12_loansOf S p1) 0 (ix (S.2.1 kLoans 0))) (fun (σ2 : Int32) => σ2)
def ok_X12_loansOf (S : Mem) (p1 : Int32) : Prop := ((∀ j1 : Nat, j1 ≤ ix (S.2.1 kLoans 0) → ∀ σ2 : Int32, iter (b4_X12_loansOf S p1) 0 j1 = σ2 → S.2.1 kLoans 0 = nI (ix (S.2.1 kLoans 0))) ∧ (∀ j1 : Nat, j1 < ix (S.2.1 kLoans 0) → ∀ σ2 : Int32, iter (b4_X12_loansOf S p1) 0 j1 = σ2 → ((j1 < 20) ∧ (((S.2.1 kLoanBanks j1) = p1) → ((j1 < 20))))))
abbrev fdX12_loansOf : FD := (mdX12_loansOf, [], 0, 0, 0, 0)
set_option maxRecDepth 100000 in
set_option maxHeartbeats 4000000 in
theorem w_X12_loansOf {O : Om} {G : Cx} {S : Mem} {PP : Option AV → Mem → Prop} (p1 : Int32)   (h : ok_X12_loansOf S p1) (hP : ∀ x9, f_X12_loansOf S p1 = x9 → PP (some (vi x9)) S) : BW O G fdX12_loansOf 0 0 (QV O G 0 0 PP) S 0 [some (vr 12 0), some (vi p1), none, none] [] := by
  refine a_iconst (pc := 0) 0 0 (v := 0) rfl (by decide) ?_
  refine a_istore_n (pc := 1) 0 1 (ls2 := [some (vr 12 0), some (vi p1), some (vi 0), none]) rfl rfl (by decide) rfl ?_
  refine a_iconst (pc := 2) 0 2 (v := 0) rfl (by decide) ?_
  refine a_istore_n (pc := 3) 0 3 (ls2 := [some (vr 12 0), some (vi p1), some (vi 0), some (vi 0)]) rfl rfl (by decide) rfl ?_
  obtain ⟨o3, hb_j1⟩ := h
  have nlt_j1 := ix_lt (S.2.1 kLoans 0)
  have L4_7 : ∀ (m_j1 j1 : Nat), j1 + m_j1 = ix (S.2.1 kLoans 0) → ∀ (σ2 : Int32), iter (b4_X12_loansOf S p1) 0 j1 = σ2 → BW O G fdX12_loansOf 0 0 (QV O G 0 0 PP) S 4 [some (vr 12 0), some (vi p1), some (vi σ2), some (vi (nI j1))] [] := by
    intro m_j1
    induction m_j1 with
    | zero =>
      intro j1 hj_j1 σ2 eσ2
      have o3 := o3 j1 (by omega) σ2 eσ2
      have hn_j1 : j1 = ix (S.2.1 kLoans 0) := by omega
      rw [hn_j1] at eσ2
      refine a_iload_n (pc := 4) 0 4 rfl rfl ?_
      refine a_aload_n (pc := 5) 0 5 rfl rfl ?_
      refine g_12_loans (pc := 6) 0 6 rfl fl_X12_148 ?_
      refine a_icmp_ge_t (pc := 9) (tgt := 41) 0 7 rfl (by decide) (bd_t (o3) (by omega)) ?_
      refine a_iload_n (pc := 41) 0 25 rfl rfl ?_
      exact a_iret (pc := 42) 0 26 rfl rfl (hP _ (by unfold f_X12_loansOf; exact lt_eq eσ2))
    | succ m_j1 ih_j1 =>
      intro j1 hj_j1 σ2 eσ2
      have o3 := o3 j1 (by omega) σ2 eσ2
      have h := hb_j1 j1 (by omega) σ2 eσ2
      refine a_iload_n (pc := 4) 0 4 rfl rfl ?_
      refine a_aload_n (pc := 5) 0 5 rfl rfl ?_
      refine g_12_loans (pc := 6) 0 6 rfl fl_X12_148 ?_
      refine a_icmp_ge_f (pc := 9) (tgt := 41) 0 7 rfl (bd_f (o3) (by omega)) (by decide) ?_
      refine a_iload_n (pc := 12) 0 8 rfl rfl ?_
      refine a_aload_n (pc := 13) 0 9 rfl rfl ?_
      refine g_12_loanBanks (pc := 14) 0 10 rfl fl_X12_78 ?_
      refine a_iload_n (pc := 17) 0 11 rfl rfl ?_
      obtain ⟨o4, h⟩ := h
      refine e_44 (pc := 18) 0 12 (j1) rfl rfl o4 ?_
      refine a_iload_n (pc := 19) 0 13 rfl rfl ?_
      have J33_8 : ∀ (v7 : Int32) (ev7 : (if (S.2.1 kLoanBanks j1) = p1 then (S.2.1 kLoanLefts j1) else (0)) = v7), BW O G fdX12_loansOf 0 0 (QV O G 0 0 PP) S 33 [some (vr 12 0), some (vi p1), some (vi σ2), some (vi (nI j1))] [vi v7, vi σ2] := by
        intro v7 ev7
        refine a_iadd (pc := 33) 0 21 rfl ?_
        refine a_istore_n (pc := 34) 0 22 (ls2 := [some (vr 12 0), some (vi p1), some (vi (σ2 + v7)), some (vi (nI j1))]) rfl rfl (by decide) rfl ?_
        refine a_iinc (pc := 35) 0 23 (v := nI (j1 + 1)) (ls2 := [some (vr 12 0), some (vi p1), some (vi (σ2 + v7)), some (vi (nI (j1 + 1)))]) rfl rfl (iinc1 _) (by decide) rfl ?_
        refine a_goto (pc := 38) (tgt := 4) 0 24 rfl (by decide) ?_
        exact ih_j1 (j1 + 1) (by omega) (σ2 + v7) (by rw [iter_succ, eσ2]; unfold b4_X12_loansOf; exact (lt_eq ev7))
      refine a_icmp_ne (pc := 20) (tgt := 32) 0 14 rfl (by decide) (fun c20_4 => ?_) (fun c20_4 => ?_)
      · refine a_iconst (pc := 32) 0 20 (v := 0) rfl (by decide) ?_
        exact J33_8 _ (by exact (if_neg c20_4))
      · have h := h c20_4
        refine a_aload_n (pc := 23) 0 15 rfl rfl ?_
        refine g_12_loanLefts (pc := 24) 0 16 rfl fl_X12_81 ?_
        refine a_iload_n (pc := 27) 0 17 rfl rfl ?_
        have o6 := h
        refine e_45 (pc := 28) 0 18 (j1) rfl rfl o6 ?_
        refine a_goto (pc := 29) (tgt := 33) 0 19 rfl (by decide) ?_
        exact J33_8 _ (by exact (if_pos c20_4))
  exact L4_7 (ix (S.2.1 kLoans 0)) 0 (by omega) 0 rfl
theorem c_X12_loansOf {S : Mem} (p1 : Int32)   (h : ok_X12_loansOf S p1) : Cts mdX12_loansOf 0 0 [vr 12 0, vi p1] S (Is (some (vi (f_X12_loansOf S p1))) (S)) := Cts.of dtX12_loansOf (by decide +kernel) rfl rfl (Nat.le_of_ble_eq_true rfl) rfl (fun O G => w_X12_loansOf p1 h (fun _ h9 => ⟨by rw [h9], rfl⟩))
def f_X12_capital (S : Mem) (p1 : Int32) : Int32 := lt (f_X12_bondsOf S p1) (fun (v4 : Int32) => lt (f_X12_loansOf S p1) (fun (v6 : Int32) => lt (f_X12_inAccounts S p1) (fun (v7 : Int32) => (((((S.2.1 kReserves (ix p1)) + (S.2.1 kVaults (ix p1))) + v4) + v6) - v7) - (S.2.1 kLent (ix p1)))))
def ok_X12_capital (S : Mem) (p1 : Int32) : Prop := ((inb p1 4) ∧ (inb p1 4) ∧ (ok_X12_bondsOf S p1) ∧ (∀ v4 : Int32, (f_X12_bondsOf S p1) = v4 → ((ok_X12_loansOf S p1) ∧ (∀ v6 : Int32, (f_X12_loansOf S p1) = v6 → ((∀ v7 : Int32, (f_X12_inAccounts S p1) = v7 → ((inb p1 4))))))))
abbrev fdX12_capital : FD := (mdX12_capital, [], 1, 23, 0, 0)
set_option maxRecDepth 100000 in
set_option maxHeartbeats 4000000 in
theorem w_X12_capital {O : Om} {G : Cx} {S : Mem} {PP : Option AV → Mem → Prop} (p1 : Int32)   (h : ok_X12_capital S p1) (hP : ∀ x9, f_X12_capital S p1 = x9 → PP (some (vi x9)) S) : BW O G fdX12_capital 0 0 (QV O G 0 0 PP) S 0 [some (vr 12 0), some (vi p1)] [] := by
  refine a_aload_n (pc := 0) 0 0 rfl rfl ?_
  refine g_12_reserves (pc := 1) 0 1 rfl fl_X12_50 ?_
  refine a_iload_n (pc := 4) 0 2 rfl rfl ?_
  obtain ⟨o1, h⟩ := h
  refine e_35 (pc := 5) 0 3 (ix p1) rfl o1.1 o1.2 ?_
  refine a_aload_n (pc := 6) 0 4 rfl rfl ?_
  refine g_12_vaults (pc := 7) 0 5 rfl fl_X12_53 ?_
  refine a_iload_n (pc := 10) 0 6 rfl rfl ?_
  obtain ⟨o2, h⟩ := h
  refine e_36 (pc := 11) 0 7 (ix p1) rfl o2.1 o2.2 ?_
  refine a_iadd (pc := 12) 0 8 rfl ?_
  refine a_aload_n (pc := 13) 0 9 rfl rfl ?_
  refine a_iload_n (pc := 14) 0 10 rfl rfl ?_
  obtain ⟨o3, h⟩ := h
  refine a_callVi (pc := 15) 0 11 (c_X12_bondsOf (S := S) p1 o3) rfl cv_X12_151 (by decide) rfl rfl rfl (rm rfl) ?_
  refine a_seti (fun v4 ev4 => ?_)
  have h := h v4 ev4
  refine a_iadd (pc := 18) 0 12 rfl ?_
  refine a_aload_n (pc := 19) 0 13 rfl rfl ?_
  refine a_iload_n (pc := 20) 0 14 rfl rfl ?_
  obtain ⟨o5, h⟩ := h
  refine a_callVi (pc := 21) 0 15 (c_X12_loansOf (S := S) p1 o5) rfl cv_X12_155 (by decide) rfl rfl rfl (rm rfl) ?_
  refine a_seti (fun v6 ev6 => ?_)
  have h := h v6 ev6
  refine a_iadd (pc := 24) 0 16 rfl ?_
  refine a_aload_n (pc := 25) 0 17 rfl rfl ?_
  refine a_iload_n (pc := 26) 0 18 rfl rfl ?_
  refine a_callVi (pc := 27) 0 19 (c_X12_inAccounts (S := S) p1) rfl cv_X12_158 (by decide) rfl rfl rfl (rm rfl) ?_
  refine a_seti (fun v7 ev7 => ?_)
  have h := h v7 ev7
  refine a_isub (pc := 30) 0 20 rfl ?_
  refine a_aload_n (pc := 31) 0 21 rfl rfl ?_
  refine g_12_lent (pc := 32) 0 22 rfl fl_X12_56 ?_
  refine a_iload_n (pc := 35) 0 23 rfl rfl ?_
  have o8 := h
  refine e_37 (pc := 36) 0 24 (ix p1) rfl o8.1 o8.2 ?_
  refine a_isub (pc := 37) 0 25 rfl ?_
  exact a_iret (pc := 38) 0 26 rfl rfl (hP _ (by unfold f_X12_capital; exact (lt_eq ev4).trans ((lt_eq ev6).trans (lt_eq ev7))))
theorem c_X12_capital {S : Mem} (p1 : Int32)   (h : ok_X12_capital S p1) : Cts mdX12_capital 1 23 [vr 12 0, vi p1] S (Is (some (vi (f_X12_capital S p1))) (S)) := Cts.of dtX12_capital (by decide +kernel) rfl rfl (Nat.le_of_ble_eq_true rfl) rfl (fun O G => w_X12_capital p1 h (fun _ h9 => ⟨by rw [h9], rfl⟩))
def f_X12_room (S : Mem) (p1 : Int32) : Int32 := lt (f_X12_bondsOf S p1) (fun (v2 : Int32) => lt (f_X12_most S ((((nI 90) * v2) / (nI 100)) - (S.2.1 kLent (ix p1))) 0) (fun (v4 : Int32) => v4))
def ok_X12_room (S : Mem) (p1 : Int32) : Prop := ((ok_X12_bondsOf S p1) ∧ (∀ v2 : Int32, (f_X12_bondsOf S p1) = v2 → ((inb p1 4))))
abbrev fdX12_room : FD := (mdX12_room, [], 1, 23, 0, 0)
set_option maxRecDepth 100000 in
set_option maxHeartbeats 4000000 in
theorem w_X12_room {O : Om} {G : Cx} {S : Mem} {PP : Option AV → Mem → Prop} (p1 : Int32)   (h : ok_X12_room S p1) (hP : ∀ x9, f_X12_room S p1 = x9 → PP (some (vi x9)) S) : BW O G fdX12_room 0 0 (QV O G 0 0 PP) S 0 [some (vr 12 0), some (vi p1)] [] := by
  refine a_bipush (pc := 0) 0 0 (v := nI 90) rfl (by decide) ?_
  refine a_aload_n (pc := 2) 0 1 rfl rfl ?_
  refine a_iload_n (pc := 3) 0 2 rfl rfl ?_
  obtain ⟨o1, h⟩ := h
  refine a_callVi (pc := 4) 0 3 (c_X12_bondsOf (S := S) p1 o1) rfl cv_X12_151 (by decide) rfl rfl rfl (rm rfl) ?_
  refine a_seti (fun v2 ev2 => ?_)
  have h := h v2 ev2
  refine a_imul (pc := 7) 0 4 rfl ?_
  refine a_bipush (pc := 8) 0 5 (v := nI 100) rfl (by decide) ?_
  refine a_idiv (pc := 10) 0 6 rfl (by decide) ?_
  refine a_aload_n (pc := 11) 0 7 rfl rfl ?_
  refine g_12_lent (pc := 12) 0 8 rfl fl_X12_56 ?_
  refine a_iload_n (pc := 15) 0 9 rfl rfl ?_
  have o3 := h
  refine e_37 (pc := 16) 0 10 (ix p1) rfl o3.1 o3.2 ?_
  refine a_isub (pc := 17) 0 11 rfl ?_
  refine a_iconst (pc := 18) 0 12 (v := 0) rfl (by decide) ?_
  refine a_callSi (pc := 19) 0 13 (c_X12_most (S := S) ((((nI 90) * v2) / (nI 100)) - (S.2.1 kLent (ix p1))) 0) rfl cs_X12_161 rfl (rm rfl) ?_
  refine a_seti (fun v4 ev4 => ?_)
  exact a_iret (pc := 22) 0 14 rfl rfl (hP _ (by unfold f_X12_room; exact (lt_eq ev2).trans (lt_eq ev4)))
theorem c_X12_room {S : Mem} (p1 : Int32)   (h : ok_X12_room S p1) : Cts mdX12_room 1 23 [vr 12 0, vi p1] S (Is (some (vi (f_X12_room S p1))) (S)) := Cts.of dtX12_room (by decide +kernel) rfl rfl (Nat.le_of_ble_eq_true rfl) rfl (fun O G => w_X12_room p1 h (fun _ h9 => ⟨by rw [h9], rfl⟩))
def b24_X12_centralCapital (S : Mem) (j5 : Nat) (σ6 : Int32) : Int32 := σ6 + (((S.2.1 kLent j5) - (S.2.1 kReserves j5)) - (S.2.1 kVaults j5))
def b60_X12_centralCapital (S : Mem) (j7 : Nat) (σ8 : Int32) : Int32 := σ8 - ((S.2.1 kNotes j7) - (S.2.1 kForged j7))
def f_X12_centralCapital (S : Mem)  : Int32 := lt (f_X12_bondsOf S (nI 4)) (fun (v2 : Int32) => lt (f_X12_loansOf S (nI 4)) (fun (v4 : Int32) => lt (iter (b24_X12_centralCapital S) (((v2 + v4) + (S.2.1 kForeignCost 0)) - (S.2.1 kTreasury 0)) (4)) (fun (σ6 : Int32) => lt (iter (b60_X12_centralCapital S) σ6 (16)) (fun (σ8 : Int32) => σ8))))
def ok_X12_centralCapital (S : Mem)  : Prop := ((ok_X12_bondsOf S (nI 4)) ∧ (∀ v2 : Int32, (f_X12_bondsOf S (nI 4)) = v2 → ((ok_X12_loansOf S (nI 4)))))
abbrev fdX12_centralCapital : FD := (mdX12_centralCapital, [], 1, 23, 0, 0)
set_option maxRecDepth 100000 in
set_option maxHeartbeats 4000000 in
theorem w_X12_centralCapital {O : Om} {G : Cx} {S : Mem} {PP : Option AV → Mem → Prop}    (h : ok_X12_centralCapital S ) (hP : ∀ x9, f_X12_centralCapital S  = x9 → PP (some (vi x9)) S) : BW O G fdX12_centralCapital 0 0 (QV O G 0 0 PP) S 0 [some (vr 12 0), none, none] [] := by
  refine a_aload_n (pc := 0) 0 0 rfl rfl ?_
  refine a_iconst (pc := 1) 0 1 (v := nI 4) rfl (by decide) ?_
  obtain ⟨o1, h⟩ := h
  refine a_callVi (pc := 2) 0 2 (c_X12_bondsOf (S := S) (nI 4) o1) rfl cv_X12_151 (by decide) rfl rfl rfl (rm rfl) ?_
  refine a_seti (fun v2 ev2 => ?_)
  have h := h v2 ev2
  refine a_aload_n (pc := 5) 0 3 rfl rfl ?_
  refine a_iconst (pc := 6) 0 4 (v := nI 4) rfl (by decide) ?_
  have o3 := h
  refine a_callVi (pc := 7) 0 5 (c_X12_loansOf (S := S) (nI 4) o3) rfl cv_X12_155 (by decide) rfl rfl rfl (rm rfl) ?_
  refine a_seti (fun v4 ev4 => ?_)
  refine a_iadd (pc := 10) 0 6 rfl ?_
  refine a_aload_n (pc := 11) 0 7 rfl rfl ?_
  refine g_12_foreignCost (pc := 12) 0 8 rfl fl_X12_165 ?_
  refine a_iadd (pc := 15) 0 9 rfl ?_
  refine a_aload_n (pc := 16) 0 10 rfl rfl ?_
  refine g_12_treasury (pc := 17) 0 11 rfl fl_X12_168 ?_
  refine a_isub (pc := 20) 0 12 rfl ?_
  refine a_istore_n (pc := 21) 0 13 (ls2 := [some (vr 12 0), some (vi (((v2 + v4) + (S.2.1 kForeignCost 0)) - (S.2.1 kTreasury 0))), none]) rfl rfl (by decide) rfl ?_
  refine a_iconst (pc := 22) 0 14 (v := 0) rfl (by decide) ?_
  refine a_istore_n (pc := 23) 0 15 (ls2 := [some (vr 12 0), some (vi (((v2 + v4) + (S.2.1 kForeignCost 0)) - (S.2.1 kTreasury 0))), some (vi 0)]) rfl rfl (by decide) rfl ?_
  have L24_8 : ∀ (m_j5 j5 : Nat), j5 + m_j5 = 4 → ∀ (σ6 : Int32), iter (b24_X12_centralCapital S) (((v2 + v4) + (S.2.1 kForeignCost 0)) - (S.2.1 kTreasury 0)) j5 = σ6 → BW O G fdX12_centralCapital 0 0 (QV O G 0 0 PP) S 24 [some (vr 12 0), some (vi σ6), some (vi (nI j5))] [] := by
    intro m_j5
    induction m_j5 with
    | zero =>
      intro j5 hj_j5 σ6 eσ6
      have hn_j5 : j5 = 4 := by omega
      rw [hn_j5] at eσ6
      refine a_iload_n (pc := 24) 0 16 rfl rfl ?_
      refine a_iconst (pc := 25) 0 17 (v := nI 4) rfl (by decide) ?_
      refine a_icmp_ge_t (pc := 26) (tgt := 58) 0 18 rfl (by decide) (nI_le (by omega) (by omega)) ?_
      refine a_iconst (pc := 58) 0 38 (v := 0) rfl (by decide) ?_
      refine a_istore_n (pc := 59) 0 39 (ls2 := [some (vr 12 0), some (vi σ6), some (vi 0)]) rfl rfl (by decide) rfl ?_
      have L60_9 : ∀ (m_j7 j7 : Nat), j7 + m_j7 = 16 → ∀ (σ8 : Int32), iter (b60_X12_centralCapital S) σ6 j7 = σ8 → BW O G fdX12_centralCapital 0 0 (QV O G 0 0 PP) S 60 [some (vr 12 0), some (vi σ8), some (vi (nI j7))] [] := by
        intro m_j7
        induction m_j7 with
        | zero =>
          intro j7 hj_j7 σ8 eσ8
          have hn_j7 : j7 = 16 := by omega
          rw [hn_j7] at eσ8
          refine a_iload_n (pc := 60) 0 40 rfl rfl ?_
          refine a_bipush (pc := 61) 0 41 (v := nI 16) rfl (by decide) ?_
          refine a_icmp_ge_t (pc := 63) (tgt := 88) 0 42 rfl (by decide) (nI_le (by omega) (by omega)) ?_
          refine a_iload_n (pc := 88) 1 9 rfl rfl ?_
          exact a_iret (pc := 89) 1 10 rfl rfl (hP _ (by unfold f_X12_centralCapital; exact (lt_eq ev2).trans ((lt_eq ev4).trans ((lt_eq eσ6).trans (lt_eq eσ8)))))
        | succ m_j7 ih_j7 =>
          intro j7 hj_j7 σ8 eσ8
          refine a_iload_n (pc := 60) 0 40 rfl rfl ?_
          refine a_bipush (pc := 61) 0 41 (v := nI 16) rfl (by decide) ?_
          refine a_icmp_ge_f (pc := 63) (tgt := 88) 0 42 rfl (nI_ge (by omega) (by omega)) (by decide) ?_
          refine a_iload_n (pc := 66) 0 43 rfl rfl ?_
          refine a_aload_n (pc := 67) 0 44 rfl rfl ?_
          refine g_12_notes (pc := 68) 0 45 rfl fl_X12_16 ?_
          refine a_iload_n (pc := 71) 0 46 rfl rfl ?_
          refine e_24 (pc := 72) 0 47 (j7) rfl rfl (by omega) ?_
          refine a_aload_n (pc := 73) 1 0 rfl rfl ?_
          refine g_12_forged (pc := 74) 1 1 rfl fl_X12_20 ?_
          refine a_iload_n (pc := 77) 1 2 rfl rfl ?_
          refine e_25 (pc := 78) 1 3 (j7) rfl rfl (by omega) ?_
          refine a_isub (pc := 79) 1 4 rfl ?_
          refine a_isub (pc := 80) 1 5 rfl ?_
          refine a_istore_n (pc := 81) 1 6 (ls2 := [some (vr 12 0), some (vi (σ8 - ((S.2.1 kNotes j7) - (S.2.1 kForged j7)))), some (vi (nI j7))]) rfl rfl (by decide) rfl ?_
          refine a_iinc (pc := 82) 1 7 (v := nI (j7 + 1)) (ls2 := [some (vr 12 0), some (vi (σ8 - ((S.2.1 kNotes j7) - (S.2.1 kForged j7)))), some (vi (nI (j7 + 1)))]) rfl rfl (iinc1 _) (by decide) rfl ?_
          refine a_goto (pc := 85) (tgt := 60) 1 8 rfl (by decide) ?_
          exact ih_j7 (j7 + 1) (by omega) (σ8 - ((S.2.1 kNotes j7) - (S.2.1 kForged j7))) (by rw [iter_succ, eσ8]; unfold b60_X12_centralCapital; exact rfl)
      exact L60_9 (16) 0 (by omega) σ6 rfl
    | succ m_j5 ih_j5 =>
      intro j5 hj_j5 σ6 eσ6
      refine a_iload_n (pc := 24) 0 16 rfl rfl ?_
      refine a_iconst (pc := 25) 0 17 (v := nI 4) rfl (by decide) ?_
      refine a_icmp_ge_f (pc := 26) (tgt := 58) 0 18 rfl (nI_ge (by omega) (by omega)) (by decide) ?_
      refine a_iload_n (pc := 29) 0 19 rfl rfl ?_
      refine a_aload_n (pc := 30) 0 20 rfl rfl ?_
      refine g_12_lent (pc := 31) 0 21 rfl fl_X12_56 ?_
      refine a_iload_n (pc := 34) 0 22 rfl rfl ?_
      refine e_37 (pc := 35) 0 23 (j5) rfl rfl (by omega) ?_
      refine a_aload_n (pc := 36) 0 24 rfl rfl ?_
      refine g_12_reserves (pc := 37) 0 25 rfl fl_X12_50 ?_
      refine a_iload_n (pc := 40) 0 26 rfl rfl ?_
      refine e_35 (pc := 41) 0 27 (j5) rfl rfl (by omega) ?_
      refine a_isub (pc := 42) 0 28 rfl ?_
      refine a_aload_n (pc := 43) 0 29 rfl rfl ?_
      refine g_12_vaults (pc := 44) 0 30 rfl fl_X12_53 ?_
      refine a_iload_n (pc := 47) 0 31 rfl rfl ?_
      refine e_36 (pc := 48) 0 32 (j5) rfl rfl (by omega) ?_
      refine a_isub (pc := 49) 0 33 rfl ?_
      refine a_iadd (pc := 50) 0 34 rfl ?_
      refine a_istore_n (pc := 51) 0 35 (ls2 := [some (vr 12 0), some (vi (σ6 + (((S.2.1 kLent j5) - (S.2.1 kReserves j5)) - (S.2.1 kVaults j5)))), some (vi (nI j5))]) rfl rfl (by decide) rfl ?_
      refine a_iinc (pc := 52) 0 36 (v := nI (j5 + 1)) (ls2 := [some (vr 12 0), some (vi (σ6 + (((S.2.1 kLent j5) - (S.2.1 kReserves j5)) - (S.2.1 kVaults j5)))), some (vi (nI (j5 + 1)))]) rfl rfl (iinc1 _) (by decide) rfl ?_
      refine a_goto (pc := 55) (tgt := 24) 0 37 rfl (by decide) ?_
      exact ih_j5 (j5 + 1) (by omega) (σ6 + (((S.2.1 kLent j5) - (S.2.1 kReserves j5)) - (S.2.1 kVaults j5))) (by rw [iter_succ, eσ6]; unfold b24_X12_centralCapital; exact rfl)
  exact L24_8 (4) 0 (by omega) (((v2 + v4) + (S.2.1 kForeignCost 0)) - (S.2.1 kTreasury 0)) rfl
theorem c_X12_centralCapital {S : Mem}    (h : ok_X12_centralCapital S ) : Cts mdX12_centralCapital 1 23 [vr 12 0] S (Is (some (vi (f_X12_centralCapital S ))) (S)) := Cts.of dtX12_centralCapital (by decide +kernel) rfl rfl (Nat.le_of_ble_eq_true rfl) rfl (fun O G => w_X12_centralCapital  h (fun _ h9 => ⟨by rw [h9], rfl⟩))
def f_X12_leave (S : Mem) (p1 : Int32) (p2 : Int32) : Int32 × Mem := lt ((S.1, upd2 S.2.1 kNotes (ix p1) ((S.2.1 kNotes (ix p1)) - p2), S.2.2)) (fun (S6 : Mem) => lt ((S6.1, upd2 S6.2.1 kForged (ix p1) ((S6.2.1 kForged (ix p1)) - (((p2.toInt64 * ((S.2.1 kForged (ix p1)).toInt64)) / ((S.2.1 kNotes (ix p1)).toInt64)).toInt32)), S6.2.2)) (fun (S9 : Mem) => (((p2.toInt64 * ((S.2.1 kForged (ix p1)).toInt64)) / ((S.2.1 kNotes (ix p1)).toInt64)).toInt32, S9)))
def ok_X12_leave (S : Mem) (p1 : Int32) (p2 : Int32) : Prop := ((inb p1 16) ∧ (inb p1 16) ∧ (¬ ((S.2.1 kNotes (ix p1)).toInt64) = 0) ∧ (inb p1 16) ∧ (inb p1 16) ∧ (∀ S6 : Mem, ((S.1, upd2 S.2.1 kNotes (ix p1) ((S.2.1 kNotes (ix p1)) - p2), S.2.2)) = S6 → ((inb p1 16) ∧ (inb p1 16))))
abbrev fdX12_leave : FD := (mdX12_leave, [], 0, 0, 0, 0)
set_option maxRecDepth 100000 in
set_option maxHeartbeats 4000000 in
theorem w_X12_leave {O : Om} {G : Cx} {S : Mem} {PP : Option AV → Mem → Prop} (p1 : Int32) (p2 : Int32)   (h : ok_X12_leave S p1 p2) (hP : ∀ x9 S9, f_X12_leave S p1 p2 = (x9, S9) → PP (some (vi x9)) S9) : BW O G fdX12_leave 0 0 (QV O G 0 0 PP) S 0 [some (vr 12 0), some (vi p1), some (vi p2), none] [] := by
  refine a_iload_n (pc := 0) 0 0 rfl rfl ?_
  refine a_i2l (pc := 1) 0 1 rfl ?_
  refine a_aload_n (pc := 2) 0 2 rfl rfl ?_
  refine g_12_forged (pc := 3) 0 3 rfl fl_X12_20 ?_
  refine a_iload_n (pc := 6) 0 4 rfl rfl ?_
  obtain ⟨o1, h⟩ := h
  refine e_25 (pc := 7) 0 5 (ix p1) rfl o1.1 o1.2 ?_
  refine a_i2l (pc := 8) 0 6 rfl ?_
  refine a_lmul (pc := 9) 0 7 rfl ?_
  refine a_aload_n (pc := 10) 0 8 rfl rfl ?_
  refine g_12_notes (pc := 11) 0 9 rfl fl_X12_16 ?_
  refine a_iload_n (pc := 14) 0 10 rfl rfl ?_
  obtain ⟨o2, h⟩ := h
  refine e_24 (pc := 15) 0 11 (ix p1) rfl o2.1 o2.2 ?_
  refine a_i2l (pc := 16) 0 12 rfl ?_
  obtain ⟨o3, h⟩ := h
  refine a_ldiv (pc := 17) 0 13 rfl o3 ?_
  refine a_l2i (pc := 18) 0 14 rfl ?_
  refine a_istore_n (pc := 19) 0 15 (ls2 := [some (vr 12 0), some (vi p1), some (vi p2), some (vi (((p2.toInt64 * ((S.2.1 kForged (ix p1)).toInt64)) / ((S.2.1 kNotes (ix p1)).toInt64)).toInt32))]) rfl rfl (by decide) rfl ?_
  refine a_aload_n (pc := 20) 0 16 rfl rfl ?_
  refine g_12_notes (pc := 21) 0 17 rfl fl_X12_16 ?_
  refine a_iload_n (pc := 24) 0 18 rfl rfl ?_
  refine a_dup2 (pc := 25) 0 19 rfl rfl rfl ?_
  obtain ⟨o4, h⟩ := h
  refine e_24 (pc := 26) 0 20 (ix p1) rfl o4.1 o4.2 ?_
  refine a_iload_n (pc := 27) 0 21 rfl rfl ?_
  refine a_isub (pc := 28) 0 22 rfl ?_
  obtain ⟨o5, h⟩ := h
  refine s_24 (pc := 29) 0 23 (ix p1) rfl o5.1 o5.2 ?_
  refine a_set (fun S6 eS6 => ?_)
  have h := h S6 eS6
  refine a_aload_n (pc := 30) 0 24 rfl rfl ?_
  refine g_12_forged (pc := 31) 0 25 rfl fl_X12_20 ?_
  refine a_iload_n (pc := 34) 0 26 rfl rfl ?_
  refine a_dup2 (pc := 35) 0 27 rfl rfl rfl ?_
  obtain ⟨o7, h⟩ := h
  refine e_25 (pc := 36) 0 28 (ix p1) rfl o7.1 o7.2 ?_
  refine a_iload_n (pc := 37) 0 29 rfl rfl ?_
  refine a_isub (pc := 38) 0 30 rfl ?_
  have o8 := h
  refine s_25 (pc := 39) 0 31 (ix p1) rfl o8.1 o8.2 ?_
  refine a_set (fun S9 eS9 => ?_)
  refine a_iload_n (pc := 40) 0 32 rfl rfl ?_
  exact a_iret (pc := 41) 0 33 rfl rfl (hP _ _ (by unfold f_X12_leave; exact (lt_eq eS6).trans (lt_eq eS9)))
theorem c_X12_leave {S : Mem} (p1 : Int32) (p2 : Int32)   (h : ok_X12_leave S p1 p2) : Cts mdX12_leave 0 0 [vr 12 0, vi p1, vi p2] S (Is (some (vi (f_X12_leave S p1 p2).1)) ((f_X12_leave S p1 p2).2)) := Cts.of dtX12_leave (by decide +kernel) rfl rfl (Nat.le_of_ble_eq_true rfl) rfl (fun O G => w_X12_leave p1 p2 h (fun _ _ h9 => ⟨by rw [h9], by rw [h9]⟩))
def b4_X12_isAwaited (S : Mem) (p1 : Int32) (j1 : Nat) (σ2 : Int32) : Int32 := lt (if σ2 = 0 then (if (S.2.1 kStates j1) = 0 then (if (S.2.1 kTos j1) = p1 then (1) else (0)) else (0)) else (1)) (fun (v9 : Int32) => v9)
def f_X12_isAwaited (S : Mem) (p1 : Int32) : Int32 := lt (iter (b4_X12_isAwaited S p1) 0 (ix (S.2.1 kPayments 0))) (fun (σ2 : Int32) => σ2)
def ok_X12_isAwaited (S : Mem) (p1 : Int32) : Prop := ((∀ j1 : Nat, j1 ≤ ix (S.2.1 kPayments 0) → ∀ σ2 : Int32, iter (b4_X12_isAwaited S p1) 0 j1 = σ2 → S.2.1 kPayments 0 = nI (ix (S.2.1 kPayments 0))) ∧ (∀ j1 : Nat, j1 < ix (S.2.1 kPayments 0) → ∀ σ2 : Int32, iter (b4_X12_isAwaited S p1) 0 j1 = σ2 → (((σ2 = 0) → ((j1 < 200) ∧ (((S.2.1 kStates j1) = 0) → ((j1 < 200))))))))
abbrev fdX12_isAwaited : FD := (mdX12_isAwaited, [], 0, 0, 0, 0)
set_option maxRecDepth 100000 in
set_option maxHeartbeats 4000000 in
theorem w_X12_isAwaited {O : Om} {G : Cx} {S : Mem} {PP : Option AV → Mem → Prop} (p1 : Int32)   (h : ok_X12_isAwaited S p1) (hP : ∀ x9, f_X12_isAwaited S p1 = x9 → PP (some (vi x9)) S) : BW O G fdX12_isAwaited 0 0 (QV O G 0 0 PP) S 0 [some (vr 12 0), some (vi p1), none, none] [] := by
  refine a_iconst (pc := 0) 0 0 (v := 0) rfl (by decide) ?_
  refine a_istore_n (pc := 1) 0 1 (ls2 := [some (vr 12 0), some (vi p1), some (vi 0), none]) rfl rfl (by decide) rfl ?_
  refine a_iconst (pc := 2) 0 2 (v := 0) rfl (by decide) ?_
  refine a_istore_n (pc := 3) 0 3 (ls2 := [some (vr 12 0), some (vi p1), some (vi 0), some (vi 0)]) rfl rfl (by decide) rfl ?_
  obtain ⟨o3, hb_j1⟩ := h
  have nlt_j1 := ix_lt (S.2.1 kPayments 0)
  have L4_9 : ∀ (m_j1 j1 : Nat), j1 + m_j1 = ix (S.2.1 kPayments 0) → ∀ (σ2 : Int32), iter (b4_X12_isAwaited S p1) 0 j1 = σ2 → (σ2 = 0 ∨ σ2 = 1) → BW O G fdX12_isAwaited 0 0 (QV O G 0 0 PP) S 4 [some (vr 12 0), some (vi p1), some (vi σ2), some (vi (nI j1))] [] := by
    intro m_j1
    induction m_j1 with
    | zero =>
      intro j1 hj_j1 σ2 eσ2 hq0_j1
      have o3 := o3 j1 (by omega) σ2 eσ2
      have hn_j1 : j1 = ix (S.2.1 kPayments 0) := by omega
      rw [hn_j1] at eσ2
      refine a_iload_n (pc := 4) 0 4 rfl rfl ?_
      refine a_aload_n (pc := 5) 0 5 rfl rfl ?_
      refine g_12_payments (pc := 6) 0 6 rfl fl_X12_187 ?_
      refine a_icmp_ge_t (pc := 9) (tgt := 47) 0 7 rfl (by decide) (bd_t (o3) (by omega)) ?_
      refine a_iload_n (pc := 47) 0 27 rfl rfl ?_
      exact a_zret (pc := 48) 0 28 rfl (nar_b (hq0_j1)) rfl (hP _ (by unfold f_X12_isAwaited; exact lt_eq eσ2))
    | succ m_j1 ih_j1 =>
      intro j1 hj_j1 σ2 eσ2 hq0_j1
      have o3 := o3 j1 (by omega) σ2 eσ2
      have h := hb_j1 j1 (by omega) σ2 eσ2
      refine a_iload_n (pc := 4) 0 4 rfl rfl ?_
      refine a_aload_n (pc := 5) 0 5 rfl rfl ?_
      refine g_12_payments (pc := 6) 0 6 rfl fl_X12_187 ?_
      refine a_icmp_ge_f (pc := 9) (tgt := 47) 0 7 rfl (bd_f (o3) (by omega)) (by decide) ?_
      refine a_iload_n (pc := 12) 0 8 rfl rfl ?_
      have J40_10 : ∀ (v9 : Int32) (ev9 : (if σ2 = 0 then (if (S.2.1 kStates j1) = 0 then (if (S.2.1 kTos j1) = p1 then (1) else (0)) else (0)) else (1)) = v9), BW O G fdX12_isAwaited 0 0 (QV O G 0 0 PP) S 40 [some (vr 12 0), some (vi p1), some (vi σ2), some (vi (nI j1))] [vi v9] := by
        intro v9 ev9
        refine a_istore_n (pc := 40) 0 24 (ls2 := [some (vr 12 0), some (vi p1), some (vi v9), some (vi (nI j1))]) rfl rfl (by decide) rfl ?_
        refine a_iinc (pc := 41) 0 25 (v := nI (j1 + 1)) (ls2 := [some (vr 12 0), some (vi p1), some (vi v9), some (vi (nI (j1 + 1)))]) rfl rfl (iinc1 _) (by decide) rfl ?_
        refine a_goto (pc := 44) (tgt := 4) 0 26 rfl (by decide) ?_
        exact ih_j1 (j1 + 1) (by omega) v9 (by rw [iter_succ, eσ2]; unfold b4_X12_isAwaited; exact (lt_eq ev9)) (by rw [← ev9]; repeat (first | exact Or.inl rfl | exact Or.inr rfl | assumption | split | dsimp only [lt]))
      refine a_if_ne (pc := 13) (tgt := 35) 0 9 rfl (by decide) (fun c13_3 => ?_) (fun c13_3 => ?_)
      · refine a_iconst (pc := 35) 0 21 (v := 1) rfl (by decide) ?_
        refine a_goto (pc := 36) (tgt := 40) 0 22 rfl (by decide) ?_
        exact J40_10 _ (by exact (if_neg c13_3))
      · have h := h c13_3
        refine a_aload_n (pc := 16) 0 10 rfl rfl ?_
        refine g_12_states (pc := 17) 0 11 rfl fl_X12_99 ?_
        refine a_iload_n (pc := 20) 0 12 rfl rfl ?_
        obtain ⟨o5, h⟩ := h
        refine e_51 (pc := 21) 0 13 (j1) rfl rfl o5 ?_
        refine a_if_ne (pc := 22) (tgt := 39) 0 14 rfl (by decide) (fun c22_5 => ?_) (fun c22_5 => ?_)
        · refine a_iconst (pc := 39) 0 23 (v := 0) rfl (by decide) ?_
          exact J40_10 _ (by exact ((if_pos c13_3).trans (if_neg c22_5)))
        · have h := h c22_5
          refine a_aload_n (pc := 25) 0 15 rfl rfl ?_
          refine g_12_tos (pc := 26) 0 16 rfl fl_X12_93 ?_
          refine a_iload_n (pc := 29) 0 17 rfl rfl ?_
          have o7 := h
          refine e_49 (pc := 30) 0 18 (j1) rfl rfl o7 ?_
          refine a_iload_n (pc := 31) 0 19 rfl rfl ?_
          refine a_icmp_ne (pc := 32) (tgt := 39) 0 20 rfl (by decide) (fun c32_7 => ?_) (fun c32_7 => ?_)
          · refine a_iconst (pc := 39) 0 23 (v := 0) rfl (by decide) ?_
            exact J40_10 _ (by exact ((if_pos c13_3).trans ((if_pos c22_5).trans (if_neg c32_7))))
          · refine a_iconst (pc := 35) 0 21 (v := 1) rfl (by decide) ?_
            refine a_goto (pc := 36) (tgt := 40) 0 22 rfl (by decide) ?_
            exact J40_10 _ (by exact ((if_pos c13_3).trans ((if_pos c22_5).trans (if_pos c32_7))))
  exact L4_9 (ix (S.2.1 kPayments 0)) 0 (by omega) 0 rfl (Or.inl rfl)
theorem c_X12_isAwaited {S : Mem} (p1 : Int32)   (h : ok_X12_isAwaited S p1) : Cts mdX12_isAwaited 0 0 [vr 12 0, vi p1] S (Is (some (vi (f_X12_isAwaited S p1))) (S)) := Cts.of dtX12_isAwaited (by decide +kernel) rfl rfl (Nat.le_of_ble_eq_true rfl) rfl (fun O G => w_X12_isAwaited p1 h (fun _ h9 => ⟨by rw [h9], rfl⟩))
