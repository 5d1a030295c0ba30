def f_X11_buyBonds (S : Mem) (p1 : Int32) (p2 : Int32) : Int32 × Mem := lt (f_X2_of S p1) (fun (v4 : Int32) => lt (if v4 < p2 then (0) else (1)) (fun (v6 : Int32) => lt (f_X2_moveToCentral S p1 p2) (fun (S9 : Mem) => lt ((upd2 S9.1 kReserves (f_X3_bank S9 p1) ((S9.1 kReserves (f_X3_bank S9 p1)) + p2), S9.2)) (fun (S10 : Mem) => lt (f_X2_of S10 p1) (fun (v12 : Int32) => (v12, S10))))))
def ok_X11_buyBonds (S : Mem) (p1 : Int32) (p2 : Int32) : Prop := ((ok_X11_needBank S p1) ∧ (ok_X11_needRange S p2 1 (nI 10000)) ∧ (ok_X2_of S p1) ∧ (∀ v4 : Int32, (f_X2_of S p1) = v4 → ((∀ v6 : Int32, (if v4 < p2 then (0) else (1)) = v6 → ((ok_X11_needState S v6) ∧ (ok_X2_moveToCentral S p1 p2) ∧ (∀ S9 : Mem, (f_X2_moveToCentral S p1 p2) = S9 → ((∀ S10 : Mem, ((upd2 S9.1 kReserves (f_X3_bank S9 p1) ((S9.1 kReserves (f_X3_bank S9 p1)) + p2), S9.2)) = S10 → ((ok_X2_of S10 p1))))))))))
abbrev fdX11_buyBonds : FD := (mdX11_buyBonds, [], 2, 49, 0, 0)
set_option maxRecDepth 100000 in
set_option maxHeartbeats 4000000 in
theorem w_X11_buyBonds {O : Om} {G : Cx} {S : Mem} {PP : Option AV → Mem → Prop} (p1 : Int32) (p2 : Int32)   (h : ok_X11_buyBonds S p1 p2) (hP : ∀ x9 S9, f_X11_buyBonds S p1 p2 = (x9, S9) → PP (some (vi x9)) S9) : BW O G fdX11_buyBonds 0 0 (QV O G 0 0 PP) S 0 [some (vr 11 0), some (vi p1), some (vi p2)] [] := by
  refine a_iload_n (pc := 0) 0 0 rfl rfl ?_
  obtain ⟨o1, h⟩ := h
  refine a_callSv (pc := 1) 0 1 (c_X11_needBank (S := S) p1 o1) rfl cs_X11_73 rfl (rm rfl) ?_
  refine a_iload_n (pc := 4) 0 2 rfl rfl ?_
  refine a_iconst (pc := 5) 0 3 (v := 1) rfl (by decide) ?_
  refine a_sipush (pc := 6) 0 4 (v := nI 10000) rfl (by decide) ?_
  obtain ⟨o2, h⟩ := h
  refine a_callSv (pc := 9) 0 5 (c_X11_needRange (S := S) p2 1 (nI 10000) o2) rfl cs_X11_41 rfl (rm rfl) ?_
  refine a_aload_n (pc := 12) 0 6 rfl rfl ?_
  refine g_11_bonds (pc := 13) 0 7 rfl fl_X11_33 ?_
  refine a_iload_n (pc := 16) 0 8 rfl rfl ?_
  obtain ⟨o3, h⟩ := h
  refine a_callVi (pc := 17) 0 9 (c_X2_of (S := S) p1 o3) rfl cv_X11_198 (by decide) rfl rfl rfl (rm rfl) ?_
  refine a_seti (fun v4 ev4 => ?_)
  have h := h v4 ev4
  refine a_iload_n (pc := 20) 0 10 rfl rfl ?_
  have J29_12 : ∀ (v6 : Int32) (ev6 : (if v4 < p2 then (0) else (1)) = v6), BW O G fdX11_buyBonds 0 0 (QV O G 0 0 PP) S 29 [some (vr 11 0), some (vi p1), some (vi p2)] [vi v6] := by
    intro v6 ev6
    have h := h v6 ev6
    obtain ⟨o7, h⟩ := h
    refine a_callSv (pc := 29) 0 15 (c_X11_needState (S := S) v6 (by rw [← ev6]; repeat (first | exact Or.inl rfl | exact Or.inr rfl | assumption | split | dsimp only [lt])) o7) rfl cs_X11_66 rfl (rm rfl) ?_
    refine a_aload_n (pc := 32) 0 16 rfl rfl ?_
    refine g_11_bonds (pc := 33) 0 17 rfl fl_X11_33 ?_
    refine a_iload_n (pc := 36) 0 18 rfl rfl ?_
    refine a_iload_n (pc := 37) 0 19 rfl rfl ?_
    obtain ⟨o8, h⟩ := h
    refine a_callVv (pc := 38) 0 20 (c_X2_moveToCentral (S := S) p1 p2 o8) rfl cv_X11_201 (by decide) rfl rfl rfl (rm rfl) ?_
    refine a_set (fun S9 eS9 => ?_)
    have h := h S9 eS9
    refine a_aload_n (pc := 41) 0 21 rfl rfl ?_
    refine g_11_books (pc := 42) 0 22 rfl fl_X11_10 ?_
    refine a_iload_n (pc := 45) 0 23 rfl rfl ?_
    refine a_callVr (pc := 46) 0 24 (c_X3_bank (S := S9) p1) rfl cv_X11_79 (by decide) rfl rfl rfl (rm rfl) ?_
    refine a_dup (pc := 49) 0 25 rfl rfl ?_
    refine g_0_reserves (pc := 50) 0 26 rfl (show f_X3_bank S9 p1 < 5 from r_X3_bank) fl_X11_133 ?_
    refine a_iload_n (pc := 53) 0 27 rfl rfl ?_
    refine a_iadd (pc := 54) 0 28 rfl ?_
    refine p_0_reserves (pc := 55) 0 29 rfl (show f_X3_bank S9 p1 < 5 from r_X3_bank) fl_X11_133 ?_
    refine a_set (fun S10 eS10 => ?_)
    have h := h S10 eS10
    refine a_aload_n (pc := 58) 0 30 rfl rfl ?_
    refine g_11_bonds (pc := 59) 0 31 rfl fl_X11_33 ?_
    refine a_iload_n (pc := 62) 0 32 rfl rfl ?_
    have o11 := h
    refine a_callVi (pc := 63) 0 33 (c_X2_of (S := S10) p1 o11) rfl cv_X11_198 (by decide) rfl rfl rfl (rm rfl) ?_
    refine a_seti (fun v12 ev12 => ?_)
    exact a_iret (pc := 66) 0 34 rfl rfl (hP _ _ (by unfold f_X11_buyBonds; exact (lt_eq ev4).trans ((lt_eq ev6).trans ((lt_eq eS9).trans ((lt_eq eS10).trans (lt_eq ev12))))))
  refine a_icmp_lt (pc := 21) (tgt := 28) 0 11 rfl (by decide) (fun c21_4 => ?_) (fun c21_4 => ?_)
  · refine a_iconst (pc := 28) 0 14 (v := 0) rfl (by decide) ?_
    exact J29_12 _ (by exact (if_pos c21_4))
  · refine a_iconst (pc := 24) 0 12 (v := 1) rfl (by decide) ?_
    refine a_goto (pc := 25) (tgt := 29) 0 13 rfl (by decide) ?_
    exact J29_12 _ (by exact (if_neg c21_4))
theorem c_X11_buyBonds {S : Mem} (p1 : Int32) (p2 : Int32)   (h : ok_X11_buyBonds S p1 p2) : Cts mdX11_buyBonds 2 49 [vr 11 0, vi p1, vi p2] S (Is (some (vi (f_X11_buyBonds S p1 p2).1)) ((f_X11_buyBonds S p1 p2).2)) := Cts.of dtX11_buyBonds (by decide +kernel) rfl rfl (Nat.le_of_ble_eq_true rfl) rfl (fun O G => w_X11_buyBonds p1 p2 h (fun _ _ h9 => ⟨by rw [h9], by rw [h9]⟩))
def okx_X11_buyBonds_1 (S : Mem) (p1 : Int32) (p2 : Int32) : Prop := ((okx_X11_needBank_1 S p1))
abbrev fqX11_buyBonds_1 : FD := (mdX11_buyBonds, [], 8, 122, 1, 6)
set_option maxRecDepth 100000 in
set_option maxHeartbeats 4000000 in
theorem q_X11_buyBonds_1 {S : Mem} (p1 : Int32) (p2 : Int32)  (h : okx_X11_buyBonds_1 S p1 p2) : Cqs mdX11_buyBonds 8 122 [vr 11 0, vi p1, vi p2] S xIdx := Cqs.of dtX11_buyBonds (by decide +kernel) rfl rfl (Nat.le_of_ble_eq_true rfl) rfl (fun O G => by
  show BW O G fqX11_buyBonds_1 0 0 _ S 0 _ []
  refine a_iload_n (pc := 0) 0 0 rfl rfl ?_
  have o1 := h
  refine a_callSX (pc := 1) 0 1 (q_X11_needBank_1 (S := S) p1 o1) rfl cs_X11_73 rfl (rm rfl) ?_
  exact a_out rfl (by decide) (by decide))
def okx_X11_buyBonds_2 (S : Mem) (p1 : Int32) (p2 : Int32) : Prop := ((ok_X11_needBank S p1) ∧ (okx_X11_needRange_1 S p2 1 (nI 10000)))
abbrev fqX11_buyBonds_2 : FD := (mdX11_buyBonds, [], 8, 124, 1, 6)
set_option maxRecDepth 100000 in
set_option maxHeartbeats 4000000 in
theorem q_X11_buyBonds_2 {S : Mem} (p1 : Int32) (p2 : Int32)  (h : okx_X11_buyBonds_2 S p1 p2) : Cqs mdX11_buyBonds 8 124 [vr 11 0, vi p1, vi p2] S xArg := Cqs.of dtX11_buyBonds (by decide +kernel) rfl rfl (Nat.le_of_ble_eq_true rfl) rfl (fun O G => by
  show BW O G fqX11_buyBonds_2 0 0 _ S 0 _ []
  refine a_iload_n (pc := 0) 0 0 rfl rfl ?_
  obtain ⟨o1, h⟩ := h
  refine a_callSv (pc := 1) 0 1 (c_X11_needBank (S := S) p1 o1) rfl cs_X11_73 rfl (rm rfl) ?_
  refine a_iload_n (pc := 4) 0 2 rfl rfl ?_
  refine a_iconst (pc := 5) 0 3 (v := 1) rfl (by decide) ?_
  refine a_sipush (pc := 6) 0 4 (v := nI 10000) rfl (by decide) ?_
  have o2 := h
  refine a_callSX (pc := 9) 0 5 (q_X11_needRange_1 (S := S) p2 1 (nI 10000) o2) rfl cs_X11_41 rfl (rm rfl) ?_
  exact a_out rfl (by decide) (by decide))
def okx_X11_buyBonds_3 (S : Mem) (p1 : Int32) (p2 : Int32) : Prop := ((ok_X11_needBank S p1) ∧ (ok_X11_needRange S p2 1 (nI 10000)) ∧ (ok_X2_of S p1) ∧ (∀ v4 : Int32, (f_X2_of S p1) = v4 → ((∀ v6 : Int32, (if v4 < p2 then (0) else (1)) = v6 → ((okx_X11_needState S v6))))))
abbrev fqX11_buyBonds_3 : FD := (mdX11_buyBonds, [], 7, 102, 1, 6)
set_option maxRecDepth 100000 in
set_option maxHeartbeats 4000000 in
theorem q_X11_buyBonds_3 {S : Mem} (p1 : Int32) (p2 : Int32)  (h : okx_X11_buyBonds_3 S p1 p2) : Cqs mdX11_buyBonds 7 102 [vr 11 0, vi p1, vi p2] S xSta := Cqs.of dtX11_buyBonds (by decide +kernel) rfl rfl (Nat.le_of_ble_eq_true rfl) rfl (fun O G => by
  show BW O G fqX11_buyBonds_3 0 0 _ S 0 _ []
  refine a_iload_n (pc := 0) 0 0 rfl rfl ?_
  obtain ⟨o1, h⟩ := h
  refine a_callSv (pc := 1) 0 1 (c_X11_needBank (S := S) p1 o1) rfl cs_X11_73 rfl (rm rfl) ?_
  refine a_iload_n (pc := 4) 0 2 rfl rfl ?_
  refine a_iconst (pc := 5) 0 3 (v := 1) rfl (by decide) ?_
  refine a_sipush (pc := 6) 0 4 (v := nI 10000) rfl (by decide) ?_
  obtain ⟨o2, h⟩ := h
  refine a_callSv (pc := 9) 0 5 (c_X11_needRange (S := S) p2 1 (nI 10000) o2) rfl cs_X11_41 rfl (rm rfl) ?_
  refine a_aload_n (pc := 12) 0 6 rfl rfl ?_
  refine g_11_bonds (pc := 13) 0 7 rfl fl_X11_33 ?_
  refine a_iload_n (pc := 16) 0 8 rfl rfl ?_
  obtain ⟨o3, h⟩ := h
  refine a_callVi (pc := 17) 0 9 (c_X2_of (S := S) p1 o3) rfl cv_X11_198 (by decide) rfl rfl rfl (rm rfl) ?_
  refine a_seti (fun v4 ev4 => ?_)
  have h := h v4 ev4
  refine a_iload_n (pc := 20) 0 10 rfl rfl ?_
  have J29_7 : ∀ (v6 : Int32) (ev6 : (if v4 < p2 then (0) else (1)) = v6), BW O G fqX11_buyBonds_3 0 0 (QX O G S xSta) S 29 [some (vr 11 0), some (vi p1), some (vi p2)] [vi v6] := by
    intro v6 ev6
    have h := h v6 ev6
    have o7 := h
    refine a_callSX (pc := 29) 0 15 (q_X11_needState (S := S) v6 (by rw [← ev6]; repeat (first | exact Or.inl rfl | exact Or.inr rfl | assumption | split | dsimp only [lt])) o7) rfl cs_X11_66 rfl (rm rfl) ?_
    exact a_out rfl (by decide) (by decide)
  refine a_icmp_lt (pc := 21) (tgt := 28) 0 11 rfl (by decide) (fun c21_4 => ?_) (fun c21_4 => ?_)
  · refine a_iconst (pc := 28) 0 14 (v := 0) rfl (by decide) ?_
    exact J29_7 _ (by exact (if_pos c21_4))
  · refine a_iconst (pc := 24) 0 12 (v := 1) rfl (by decide) ?_
    refine a_goto (pc := 25) (tgt := 29) 0 13 rfl (by decide) ?_
    exact J29_7 _ (by exact (if_neg c21_4)))
def f_X11_bid (S : Mem) (p1 : Int32) (p2 : Int32) (p3 : Int32) : Int32 × Mem := lt (if (S.1 kHaveFailed (f_X3_bank S p1)) = 0 then (lt (f_X2_bidsAreFull S ) (fun (v5 : Int32) => if v5 = 0 then (1) else (0))) else (0)) (fun (v7 : Int32) => lt ((f_X2_addBid S p1 p2 p3).2) (fun (S9 : Mem) => lt ((f_X2_addBid S p1 p2 p3).1) (fun (v10 : Int32) => (v10, S9))))
def ok_X11_bid (S : Mem) (p1 : Int32) (p2 : Int32) (p3 : Int32) : Prop := ((ok_X11_needBank S p1) ∧ (ok_X11_needRange S p2 (nI 50) (nI 100)) ∧ (ok_X11_needRange S p3 1 (nI 1000)) ∧ (∀ v7 : Int32, (if (S.1 kHaveFailed (f_X3_bank S p1)) = 0 then (lt (f_X2_bidsAreFull S ) (fun (v5 : Int32) => if v5 = 0 then (1) else (0))) else (0)) = v7 → ((ok_X11_needState S v7))))
abbrev fdX11_bid : FD := (mdX11_bid, [], 2, 46, 0, 0)
set_option maxRecDepth 100000 in
set_option maxHeartbeats 4000000 in
theorem w_X11_bid {O : Om} {G : Cx} {S : Mem} {PP : Option AV → Mem → Prop} (p1 : Int32) (p2 : Int32) (p3 : Int32)   (h : ok_X11_bid S p1 p2 p3) (hP : ∀ x9 S9, f_X11_bid S p1 p2 p3 = (x9, S9) → PP (some (vi x9)) S9) : BW O G fdX11_bid 0 0 (QV O G 0 0 PP) S 0 [some (vr 11 0), some (vi p1), some (vi p2), some (vi p3)] [] := by
  refine a_iload_n (pc := 0) 0 0 rfl rfl ?_
  obtain ⟨o1, h⟩ := h
  refine a_callSv (pc := 1) 0 1 (c_X11_needBank (S := S) p1 o1) rfl cs_X11_73 rfl (rm rfl) ?_
  refine a_iload_n (pc := 4) 0 2 rfl rfl ?_
  refine a_bipush (pc := 5) 0 3 (v := nI 50) rfl (by decide) ?_
  refine a_bipush (pc := 7) 0 4 (v := nI 100) rfl (by decide) ?_
  obtain ⟨o2, h⟩ := h
  refine a_callSv (pc := 9) 0 5 (c_X11_needRange (S := S) p2 (nI 50) (nI 100) o2) rfl cs_X11_41 rfl (rm rfl) ?_
  refine a_iload_n (pc := 12) 0 6 rfl rfl ?_
  refine a_iconst (pc := 13) 0 7 (v := 1) rfl (by decide) ?_
  refine a_sipush (pc := 14) 0 8 (v := nI 1000) rfl (by decide) ?_
  obtain ⟨o3, h⟩ := h
  refine a_callSv (pc := 17) 0 9 (c_X11_needRange (S := S) p3 1 (nI 1000) o3) rfl cs_X11_41 rfl (rm rfl) ?_
  refine a_aload_n (pc := 20) 0 10 rfl rfl ?_
  refine g_11_books (pc := 21) 0 11 rfl fl_X11_10 ?_
  refine a_iload_n (pc := 24) 0 12 rfl rfl ?_
  refine a_callVr (pc := 25) 0 13 (c_X3_bank (S := S) p1) rfl cv_X11_79 (by decide) rfl rfl rfl (rm rfl) ?_
  refine g_0_hasFailed (pc := 28) 0 14 rfl (show f_X3_bank S p1 < 5 from r_X3_bank) fl_X11_82 ?_
  have J49_10 : ∀ (v7 : Int32) (ev7 : (if (S.1 kHaveFailed (f_X3_bank S p1)) = 0 then (lt (f_X2_bidsAreFull S ) (fun (v5 : Int32) => if v5 = 0 then (1) else (0))) else (0)) = v7), BW O G fdX11_bid 0 0 (QV O G 0 0 PP) S 49 [some (vr 11 0), some (vi p1), some (vi p2), some (vi p3)] [vi v7] := by
    intro v7 ev7
    have h := h v7 ev7
    have o8 := h
    refine a_callSv (pc := 49) 0 23 (c_X11_needState (S := S) v7 (by rw [← ev7]; repeat (first | exact Or.inl rfl | exact Or.inr rfl | assumption | split | dsimp only [lt])) o8) rfl cs_X11_66 rfl (rm rfl) ?_
    refine a_aload_n (pc := 52) 0 24 rfl rfl ?_
    refine g_11_bonds (pc := 53) 0 25 rfl fl_X11_33 ?_
    refine a_iload_n (pc := 56) 0 26 rfl rfl ?_
    refine a_iload_n (pc := 57) 0 27 rfl rfl ?_
    refine a_iload_n (pc := 58) 0 28 rfl rfl ?_
    refine a_callVi (pc := 59) 0 29 (c_X2_addBid (S := S) p1 p2 p3) rfl cv_X11_207 (by decide) rfl rfl rfl (rm rfl) ?_
    refine a_set (fun S9 eS9 => ?_)
    refine a_seti (fun v10 ev10 => ?_)
    exact a_iret (pc := 62) 0 30 rfl rfl (hP _ _ (by unfold f_X11_bid; exact (lt_eq ev7).trans ((lt_eq eS9).trans (lt_eq ev10))))
  refine a_if_ne (pc := 31) (tgt := 48) 0 15 rfl (by decide) (fun c31_3 => ?_) (fun c31_3 => ?_)
  · refine a_iconst (pc := 48) 0 22 (v := 0) rfl (by decide) ?_
    exact J49_10 _ (by exact (if_neg c31_3))
  · refine a_aload_n (pc := 34) 0 16 rfl rfl ?_
    refine g_11_bonds (pc := 35) 0 17 rfl fl_X11_33 ?_
    refine a_callVi (pc := 38) 0 18 (c_X2_bidsAreFull (S := S) ) rfl cv_X11_204 (by decide) rfl rfl rfl (rm rfl) ?_
    refine a_seti (fun v5 ev5 => ?_)
    refine a_if_ne (pc := 41) (tgt := 48) 0 19 rfl (by decide) (fun c41_5 => ?_) (fun c41_5 => ?_)
    · refine a_iconst (pc := 48) 0 22 (v := 0) rfl (by decide) ?_
      exact J49_10 _ (by exact ((if_pos c31_3).trans ((lt_eq ev5).trans (if_neg c41_5))))
    · refine a_iconst (pc := 44) 0 20 (v := 1) rfl (by decide) ?_
      refine a_goto (pc := 45) (tgt := 49) 0 21 rfl (by decide) ?_
      exact J49_10 _ (by exact ((if_pos c31_3).trans ((lt_eq ev5).trans (if_pos c41_5))))
theorem c_X11_bid {S : Mem} (p1 : Int32) (p2 : Int32) (p3 : Int32)   (h : ok_X11_bid S p1 p2 p3) : Cts mdX11_bid 2 46 [vr 11 0, vi p1, vi p2, vi p3] S (Is (some (vi (f_X11_bid S p1 p2 p3).1)) ((f_X11_bid S p1 p2 p3).2)) := Cts.of dtX11_bid (by decide +kernel) rfl rfl (Nat.le_of_ble_eq_true rfl) rfl (fun O G => w_X11_bid p1 p2 p3 h (fun _ _ h9 => ⟨by rw [h9], by rw [h9]⟩))
def okx_X11_bid_1 (S : Mem) (p1 : Int32) (p2 : Int32) (p3 : Int32) : Prop := ((okx_X11_needBank_1 S p1))
abbrev fqX11_bid_1 : FD := (mdX11_bid, [], 8, 122, 1, 6)
set_option maxRecDepth 100000 in
set_option maxHeartbeats 4000000 in
theorem q_X11_bid_1 {S : Mem} (p1 : Int32) (p2 : Int32) (p3 : Int32)  (h : okx_X11_bid_1 S p1 p2 p3) : Cqs mdX11_bid 8 122 [vr 11 0, vi p1, vi p2, vi p3] S xIdx := Cqs.of dtX11_bid (by decide +kernel) rfl rfl (Nat.le_of_ble_eq_true rfl) rfl (fun O G => by
  show BW O G fqX11_bid_1 0 0 _ S 0 _ []
  refine a_iload_n (pc := 0) 0 0 rfl rfl ?_
  have o1 := h
  refine a_callSX (pc := 1) 0 1 (q_X11_needBank_1 (S := S) p1 o1) rfl cs_X11_73 rfl (rm rfl) ?_
  exact a_out rfl (by decide) (by decide))
def okx_X11_bid_2 (S : Mem) (p1 : Int32) (p2 : Int32) (p3 : Int32) : Prop := ((ok_X11_needBank S p1) ∧ (okx_X11_needRange_1 S p2 (nI 50) (nI 100)))
abbrev fqX11_bid_2 : FD := (mdX11_bid, [], 8, 124, 1, 6)
set_option maxRecDepth 100000 in
set_option maxHeartbeats 4000000 in
theorem q_X11_bid_2 {S : Mem} (p1 : Int32) (p2 : Int32) (p3 : Int32)  (h : okx_X11_bid_2 S p1 p2 p3) : Cqs mdX11_bid 8 124 [vr 11 0, vi p1, vi p2, vi p3] S xArg := Cqs.of dtX11_bid (by decide +kernel) rfl rfl (Nat.le_of_ble_eq_true rfl) rfl (fun O G => by
  show BW O G fqX11_bid_2 0 0 _ S 0 _ []
  refine a_iload_n (pc := 0) 0 0 rfl rfl ?_
  obtain ⟨o1, h⟩ := h
  refine a_callSv (pc := 1) 0 1 (c_X11_needBank (S := S) p1 o1) rfl cs_X11_73 rfl (rm rfl) ?_
  refine a_iload_n (pc := 4) 0 2 rfl rfl ?_
  refine a_bipush (pc := 5) 0 3 (v := nI 50) rfl (by decide) ?_
  refine a_bipush (pc := 7) 0 4 (v := nI 100) rfl (by decide) ?_
  have o2 := h
  refine a_callSX (pc := 9) 0 5 (q_X11_needRange_1 (S := S) p2 (nI 50) (nI 100) o2) rfl cs_X11_41 rfl (rm rfl) ?_
  exact a_out rfl (by decide) (by decide))
def okx_X11_bid_3 (S : Mem) (p1 : Int32) (p2 : Int32) (p3 : Int32) : Prop := ((ok_X11_needBank S p1) ∧ (ok_X11_needRange S p2 (nI 50) (nI 100)) ∧ (okx_X11_needRange_1 S p3 1 (nI 1000)))
abbrev fqX11_bid_3 : FD := (mdX11_bid, [], 8, 124, 1, 6)
set_option maxRecDepth 100000 in
set_option maxHeartbeats 4000000 in
theorem q_X11_bid_3 {S : Mem} (p1 : Int32) (p2 : Int32) (p3 : Int32)  (h : okx_X11_bid_3 S p1 p2 p3) : Cqs mdX11_bid 8 124 [vr 11 0, vi p1, vi p2, vi p3] S xArg := Cqs.of dtX11_bid (by decide +kernel) rfl rfl (Nat.le_of_ble_eq_true rfl) rfl (fun O G => by
  show BW O G fqX11_bid_3 0 0 _ S 0 _ []
  refine a_iload_n (pc := 0) 0 0 rfl rfl ?_
  obtain ⟨o1, h⟩ := h
  refine a_callSv (pc := 1) 0 1 (c_X11_needBank (S := S) p1 o1) rfl cs_X11_73 rfl (rm rfl) ?_
  refine a_iload_n (pc := 4) 0 2 rfl rfl ?_
  refine a_bipush (pc := 5) 0 3 (v := nI 50) rfl (by decide) ?_
  refine a_bipush (pc := 7) 0 4 (v := nI 100) rfl (by decide) ?_
  obtain ⟨o2, h⟩ := h
  refine a_callSv (pc := 9) 0 5 (c_X11_needRange (S := S) p2 (nI 50) (nI 100) o2) rfl cs_X11_41 rfl (rm rfl) ?_
  refine a_iload_n (pc := 12) 0 6 rfl rfl ?_
  refine a_iconst (pc := 13) 0 7 (v := 1) rfl (by decide) ?_
  refine a_sipush (pc := 14) 0 8 (v := nI 1000) rfl (by decide) ?_
  have o3 := h
  refine a_callSX (pc := 17) 0 9 (q_X11_needRange_1 (S := S) p3 1 (nI 1000) o3) rfl cs_X11_41 rfl (rm rfl) ?_
  exact a_out rfl (by decide) (by decide))
def okx_X11_bid_4 (S : Mem) (p1 : Int32) (p2 : Int32) (p3 : Int32) : Prop := ((ok_X11_needBank S p1) ∧ (ok_X11_needRange S p2 (nI 50) (nI 100)) ∧ (ok_X11_needRange S p3 1 (nI 1000)) ∧ (∀ v7 : Int32, (if (S.1 kHaveFailed (f_X3_bank S p1)) = 0 then (lt (f_X2_bidsAreFull S ) (fun (v5 : Int32) => if v5 = 0 then (1) else (0))) else (0)) = v7 → ((okx_X11_needState S v7))))
abbrev fqX11_bid_4 : FD := (mdX11_bid, [], 7, 102, 1, 6)
set_option maxRecDepth 100000 in
set_option maxHeartbeats 4000000 in
theorem q_X11_bid_4 {S : Mem} (p1 : Int32) (p2 : Int32) (p3 : Int32)  (h : okx_X11_bid_4 S p1 p2 p3) : Cqs mdX11_bid 7 102 [vr 11 0, vi p1, vi p2, vi p3] S xSta := Cqs.of dtX11_bid (by decide +kernel) rfl rfl (Nat.le_of_ble_eq_true rfl) rfl (fun O G => by
  show BW O G fqX11_bid_4 0 0 _ S 0 _ []
  refine a_iload_n (pc := 0) 0 0 rfl rfl ?_
  obtain ⟨o1, h⟩ := h
  refine a_callSv (pc := 1) 0 1 (c_X11_needBank (S := S) p1 o1) rfl cs_X11_73 rfl (rm rfl) ?_
  refine a_iload_n (pc := 4) 0 2 rfl rfl ?_
  refine a_bipush (pc := 5) 0 3 (v := nI 50) rfl (by decide) ?_
  refine a_bipush (pc := 7) 0 4 (v := nI 100) rfl (by decide) ?_
  obtain ⟨o2, h⟩ := h
  refine a_callSv (pc := 9) 0 5 (c_X11_needRange (S := S) p2 (nI 50) (nI 100) o2) rfl cs_X11_41 rfl (rm rfl) ?_
  refine a_iload_n (pc := 12) 0 6 rfl rfl ?_
  refine a_iconst (pc := 13) 0 7 (v := 1) rfl (by decide) ?_
  refine a_sipush (pc := 14) 0 8 (v := nI 1000) rfl (by decide) ?_
  obtain ⟨o3, h⟩ := h
  refine a_callSv (pc := 17) 0 9 (c_X11_needRange (S := S) p3 1 (nI 1000) o3) rfl cs_X11_41 rfl (rm rfl) ?_
  refine a_aload_n (pc := 20) 0 10 rfl rfl ?_
  refine g_11_books (pc := 21) 0 11 rfl fl_X11_10 ?_
  refine a_iload_n (pc := 24) 0 12 rfl rfl ?_
  refine a_callVr (pc := 25) 0 13 (c_X3_bank (S := S) p1) rfl cv_X11_79 (by decide) rfl rfl rfl (rm rfl) ?_
  refine g_0_hasFailed (pc := 28) 0 14 rfl (show f_X3_bank S p1 < 5 from r_X3_bank) fl_X11_82 ?_
  have J49_8 : ∀ (v7 : Int32) (ev7 : (if (S.1 kHaveFailed (f_X3_bank S p1)) = 0 then (lt (f_X2_bidsAreFull S ) (fun (v5 : Int32) => if v5 = 0 then (1) else (0))) else (0)) = v7), BW O G fqX11_bid_4 0 0 (QX O G S xSta) S 49 [some (vr 11 0), some (vi p1), some (vi p2), some (vi p3)] [vi v7] := by
    intro v7 ev7
    have h := h v7 ev7
    have o8 := h
    refine a_callSX (pc := 49) 0 23 (q_X11_needState (S := S) v7 (by rw [← ev7]; repeat (first | exact Or.inl rfl | exact Or.inr rfl | assumption | split | dsimp only [lt])) o8) rfl cs_X11_66 rfl (rm rfl) ?_
    exact a_out rfl (by decide) (by decide)
  refine a_if_ne (pc := 31) (tgt := 48) 0 15 rfl (by decide) (fun c31_3 => ?_) (fun c31_3 => ?_)
  · refine a_iconst (pc := 48) 0 22 (v := 0) rfl (by decide) ?_
    exact J49_8 _ (by exact (if_neg c31_3))
  · refine a_aload_n (pc := 34) 0 16 rfl rfl ?_
    refine g_11_bonds (pc := 35) 0 17 rfl fl_X11_33 ?_
    refine a_callVi (pc := 38) 0 18 (c_X2_bidsAreFull (S := S) ) rfl cv_X11_204 (by decide) rfl rfl rfl (rm rfl) ?_
    refine a_seti (fun v5 ev5 => ?_)
    refine a_if_ne (pc := 41) (tgt := 48) 0 19 rfl (by decide) (fun c41_5 => ?_) (fun c41_5 => ?_)
    · refine a_iconst (pc := 48) 0 22 (v := 0) rfl (by decide) ?_
      exact J49_8 _ (by exact ((if_pos c31_3).trans ((lt_eq ev5).trans (if_neg c41_5))))
    · refine a_iconst (pc := 44) 0 20 (v := 1) rfl (by decide) ?_
      refine a_goto (pc := 45) (tgt := 49) 0 21 rfl (by decide) ?_
      exact J49_8 _ (by exact ((if_pos c31_3).trans ((lt_eq ev5).trans (if_pos c41_5)))))
def f_X11_auction (S : Mem) (p1 : Int32) (p2 : Int32) : Int32 × Mem := lt (f_X2_auctionsAreFull S ) (fun (v3 : Int32) => lt (if v3 = 0 then (1) else (0)) (fun (v5 : Int32) => lt ((f_X2_takeBids S p1).2) (fun (S8 : Mem) => lt ((f_X2_takeBids S p1).1) (fun (v9 : Int32) => lt (f_X2_sell S8 v9 ((S8.1 kDays 0) + p2)) (fun (S11 : Mem) => (v9, S11))))))
def ok_X11_auction (S : Mem) (p1 : Int32) (p2 : Int32) : Prop := ((ok_X11_needRange S p1 1 (nI 10000)) ∧ (ok_X11_needRange S p2 1 (nI 50)) ∧ (∀ v3 : Int32, (f_X2_auctionsAreFull S ) = v3 → ((∀ v5 : Int32, (if v3 = 0 then (1) else (0)) = v5 → ((ok_X11_needState S v5) ∧ (ok_X2_takeBids S p1) ∧ (∀ S8 : Mem, ((f_X2_takeBids S p1).2) = S8 → ((∀ v9 : Int32, ((f_X2_takeBids S p1).1) = v9 → ((ok_X2_sell S8 v9 ((S8.1 kDays 0) + p2)))))))))))
abbrev fdX11_auction : FD := (mdX11_auction, [], 3, 74, 0, 0)
set_option maxRecDepth 100000 in
set_option maxHeartbeats 4000000 in
theorem w_X11_auction {O : Om} {G : Cx} {S : Mem} {PP : Option AV → Mem → Prop} (p1 : Int32) (p2 : Int32)   (h : ok_X11_auction S p1 p2) (hP : ∀ x9 S9, f_X11_auction S p1 p2 = (x9, S9) → PP (some (vi x9)) S9) : BW O G fdX11_auction 0 0 (QV O G 0 0 PP) S 0 [some (vr 11 0), some (vi p1), some (vi p2), none] [] := by
  refine a_iload_n (pc := 0) 0 0 rfl rfl ?_
  refine a_iconst (pc := 1) 0 1 (v := 1) rfl (by decide) ?_
  refine a_sipush (pc := 2) 0 2 (v := nI 10000) rfl (by decide) ?_
  obtain ⟨o1, h⟩ := h
  refine a_callSv (pc := 5) 0 3 (c_X11_needRange (S := S) p1 1 (nI 10000) o1) rfl cs_X11_41 rfl (rm rfl) ?_
  refine a_iload_n (pc := 8) 0 4 rfl rfl ?_
  refine a_iconst (pc := 9) 0 5 (v := 1) rfl (by decide) ?_
  refine a_bipush (pc := 10) 0 6 (v := nI 50) rfl (by decide) ?_
  obtain ⟨o2, h⟩ := h
  refine a_callSv (pc := 12) 0 7 (c_X11_needRange (S := S) p2 1 (nI 50) o2) rfl cs_X11_41 rfl (rm rfl) ?_
  refine a_aload_n (pc := 15) 0 8 rfl rfl ?_
  refine g_11_bonds (pc := 16) 0 9 rfl fl_X11_33 ?_
  refine a_callVi (pc := 19) 0 10 (c_X2_auctionsAreFull (S := S) ) rfl cv_X11_210 (by decide) rfl rfl rfl (rm rfl) ?_
  refine a_seti (fun v3 ev3 => ?_)
  have h := h v3 ev3
  have J30_11 : ∀ (v5 : Int32) (ev5 : (if v3 = 0 then (1) else (0)) = v5), BW O G fdX11_auction 0 0 (QV O G 0 0 PP) S 30 [some (vr 11 0), some (vi p1), some (vi p2), none] [vi v5] := by
    intro v5 ev5
    have h := h v5 ev5
    obtain ⟨o6, h⟩ := h
    refine a_callSv (pc := 30) 0 15 (c_X11_needState (S := S) v5 (by rw [← ev5]; repeat (first | exact Or.inl rfl | exact Or.inr rfl | assumption | split | dsimp only [lt])) o6) rfl cs_X11_66 rfl (rm rfl) ?_
    refine a_aload_n (pc := 33) 0 16 rfl rfl ?_
    refine g_11_bonds (pc := 34) 0 17 rfl fl_X11_33 ?_
    refine a_aload_n (pc := 37) 0 18 rfl rfl ?_
    refine g_11_books (pc := 38) 0 19 rfl fl_X11_10 ?_
    refine a_iload_n (pc := 41) 0 20 rfl rfl ?_
    obtain ⟨o7, h⟩ := h
    refine a_callVi (pc := 42) 0 21 (c_X2_takeBids (S := S) p1 o7) rfl cv_X11_213 (by decide) rfl rfl rfl (rm rfl) ?_
    refine a_set (fun S8 eS8 => ?_)
    have h := h S8 eS8
    refine a_seti (fun v9 ev9 => ?_)
    have h := h v9 ev9
    refine a_istore_n (pc := 45) 0 22 (ls2 := [some (vr 11 0), some (vi p1), some (vi p2), some (vi v9)]) rfl rfl (by decide) rfl ?_
    refine a_aload_n (pc := 46) 0 23 rfl rfl ?_
    refine g_11_bonds (pc := 47) 0 24 rfl fl_X11_33 ?_
    refine a_aload_n (pc := 50) 0 25 rfl rfl ?_
    refine g_11_books (pc := 51) 0 26 rfl fl_X11_10 ?_
    refine a_iload_n (pc := 54) 0 27 rfl rfl ?_
    refine a_aload_n (pc := 55) 0 28 rfl rfl ?_
    refine g_11_today (pc := 56) 0 29 rfl fl_X11_119 ?_
    refine a_iload_n (pc := 59) 0 30 rfl rfl ?_
    refine a_iadd (pc := 60) 0 31 rfl ?_
    have o10 := h
    refine a_callVv (pc := 61) 0 32 (c_X2_sell (S := S8) v9 ((S8.1 kDays 0) + p2) o10) rfl cv_X11_216 (by decide) rfl rfl rfl (rm rfl) ?_
    refine a_set (fun S11 eS11 => ?_)
    refine a_iload_n (pc := 64) 0 33 rfl rfl ?_
    exact a_iret (pc := 65) 0 34 rfl rfl (hP _ _ (by unfold f_X11_auction; exact (lt_eq ev3).trans ((lt_eq ev5).trans ((lt_eq eS8).trans ((lt_eq ev9).trans (lt_eq eS11))))))
  refine a_if_ne (pc := 22) (tgt := 29) 0 11 rfl (by decide) (fun c22_3 => ?_) (fun c22_3 => ?_)
  · refine a_iconst (pc := 29) 0 14 (v := 0) rfl (by decide) ?_
    exact J30_11 _ (by exact (if_neg c22_3))
  · refine a_iconst (pc := 25) 0 12 (v := 1) rfl (by decide) ?_
    refine a_goto (pc := 26) (tgt := 30) 0 13 rfl (by decide) ?_
    exact J30_11 _ (by exact (if_pos c22_3))
theorem c_X11_auction {S : Mem} (p1 : Int32) (p2 : Int32)   (h : ok_X11_auction S p1 p2) : Cts mdX11_auction 3 74 [vr 11 0, vi p1, vi p2] S (Is (some (vi (f_X11_auction S p1 p2).1)) ((f_X11_auction S p1 p2).2)) := Cts.of dtX11_auction (by decide +kernel) rfl rfl (Nat.le_of_ble_eq_true rfl) rfl (fun O G => w_X11_auction p1 p2 h (fun _ _ h9 => ⟨by rw [h9], by rw [h9]⟩))
def okx_X11_auction_1 (S : Mem) (p1 : Int32) (p2 : Int32) : Prop := ((okx_X11_needRange_1 S p1 1 (nI 10000)))
abbrev fqX11_auction_1 : FD := (mdX11_auction, [], 8, 124, 1, 6)
set_option maxRecDepth 100000 in
set_option maxHeartbeats 4000000 in
theorem q_X11_auction_1 {S : Mem} (p1 : Int32) (p2 : Int32)  (h : okx_X11_auction_1 S p1 p2) : Cqs mdX11_auction 8 124 [vr 11 0, vi p1, vi p2] S xArg := Cqs.of dtX11_auction (by decide +kernel) rfl rfl (Nat.le_of_ble_eq_true rfl) rfl (fun O G => by
  show BW O G fqX11_auction_1 0 0 _ S 0 _ []
  refine a_iload_n (pc := 0) 0 0 rfl rfl ?_
  refine a_iconst (pc := 1) 0 1 (v := 1) rfl (by decide) ?_
  refine a_sipush (pc := 2) 0 2 (v := nI 10000) rfl (by decide) ?_
  have o1 := h
  refine a_callSX (pc := 5) 0 3 (q_X11_needRange_1 (S := S) p1 1 (nI 10000) o1) rfl cs_X11_41 rfl (rm rfl) ?_
  exact a_out rfl (by decide) (by decide))
def okx_X11_auction_2 (S : Mem) (p1 : Int32) (p2 : Int32) : Prop := ((ok_X11_needRange S p1 1 (nI 10000)) ∧ (okx_X11_needRange_1 S p2 1 (nI 50)))
abbrev fqX11_auction_2 : FD := (mdX11_auction, [], 8, 124, 1, 6)
set_option maxRecDepth 100000 in
set_option maxHeartbeats 4000000 in
theorem q_X11_auction_2 {S : Mem} (p1 : Int32) (p2 : Int32)  (h : okx_X11_auction_2 S p1 p2) : Cqs mdX11_auction 8 124 [vr 11 0, vi p1, vi p2] S xArg := Cqs.of dtX11_auction (by decide +kernel) rfl rfl (Nat.le_of_ble_eq_true rfl) rfl (fun O G => by
  show BW O G fqX11_auction_2 0 0 _ S 0 _ []
  refine a_iload_n (pc := 0) 0 0 rfl rfl ?_
  refine a_iconst (pc := 1) 0 1 (v := 1) rfl (by decide) ?_
  refine a_sipush (pc := 2) 0 2 (v := nI 10000) rfl (by decide) ?_
  obtain ⟨o1, h⟩ := h
  refine a_callSv (pc := 5) 0 3 (c_X11_needRange (S := S) p1 1 (nI 10000) o1) rfl cs_X11_41 rfl (rm rfl) ?_
  refine a_iload_n (pc := 8) 0 4 rfl rfl ?_
  refine a_iconst (pc := 9) 0 5 (v := 1) rfl (by decide) ?_
  refine a_bipush (pc := 10) 0 6 (v := nI 50) rfl (by decide) ?_
  have o2 := h
  refine a_callSX (pc := 12) 0 7 (q_X11_needRange_1 (S := S) p2 1 (nI 50) o2) rfl cs_X11_41 rfl (rm rfl) ?_
  exact a_out rfl (by decide) (by decide))
def okx_X11_auction_3 (S : Mem) (p1 : Int32) (p2 : Int32) : Prop := ((ok_X11_needRange S p1 1 (nI 10000)) ∧ (ok_X11_needRange S p2 1 (nI 50)) ∧ (∀ v3 : Int32, (f_X2_auctionsAreFull S ) = v3 → ((∀ v5 : Int32, (if v3 = 0 then (1) else (0)) = v5 → ((okx_X11_needState S v5))))))
abbrev fqX11_auction_3 : FD := (mdX11_auction, [], 7, 102, 1, 6)
set_option maxRecDepth 100000 in
set_option maxHeartbeats 4000000 in
theorem q_X11_auction_3 {S : Mem} (p1 : Int32) (p2 : Int32)  (h : okx_X11_auction_3 S p1 p2) : Cqs mdX11_auction 7 102 [vr 11 0, vi p1, vi p2] S xSta := Cqs.of dtX11_auction (by decide +kernel) rfl rfl (Nat.le_of_ble_eq_true rfl) rfl (fun O G => by
  show BW O G fqX11_auction_3 0 0 _ S 0 _ []
  refine a_iload_n (pc := 0) 0 0 rfl rfl ?_
  refine a_iconst (pc := 1) 0 1 (v := 1) rfl (by decide) ?_
  refine a_sipush (pc := 2) 0 2 (v := nI 10000) rfl (by decide) ?_
  obtain ⟨o1, h⟩ := h
  refine a_callSv (pc := 5) 0 3 (c_X11_needRange (S := S) p1 1 (nI 10000) o1) rfl cs_X11_41 rfl (rm rfl) ?_
  refine a_iload_n (pc := 8) 0 4 rfl rfl ?_
  refine a_iconst (pc := 9) 0 5 (v := 1) rfl (by decide) ?_
  refine a_bipush (pc := 10) 0 6 (v := nI 50) rfl (by decide) ?_
  obtain ⟨o2, h⟩ := h
  refine a_callSv (pc := 12) 0 7 (c_X11_needRange (S := S) p2 1 (nI 50) o2) rfl cs_X11_41 rfl (rm rfl) ?_
  refine a_aload_n (pc := 15) 0 8 rfl rfl ?_
  refine g_11_bonds (pc := 16) 0 9 rfl fl_X11_33 ?_
  refine a_callVi (pc := 19) 0 10 (c_X2_auctionsAreFull (S := S) ) rfl cv_X11_210 (by decide) rfl rfl rfl (rm rfl) ?_
  refine a_seti (fun v3 ev3 => ?_)
  have h := h v3 ev3
  have J30_6 : ∀ (v5 : Int32) (ev5 : (if v3 = 0 then (1) else (0)) = v5), BW O G fqX11_auction_3 0 0 (QX O G S xSta) S 30 [some (vr 11 0), some (vi p1), some (vi p2), none] [vi v5] := by
    intro v5 ev5
    have h := h v5 ev5
    have o6 := h
    refine a_callSX (pc := 30) 0 15 (q_X11_needState (S := S) v5 (by rw [← ev5]; repeat (first | exact Or.inl rfl | exact Or.inr rfl | assumption | split | dsimp only [lt])) o6) rfl cs_X11_66 rfl (rm rfl) ?_
    exact a_out rfl (by decide) (by decide)
  refine a_if_ne (pc := 22) (tgt := 29) 0 11 rfl (by decide) (fun c22_3 => ?_) (fun c22_3 => ?_)
  · refine a_iconst (pc := 29) 0 14 (v := 0) rfl (by decide) ?_
    exact J30_6 _ (by exact (if_neg c22_3))
  · refine a_iconst (pc := 25) 0 12 (v := 1) rfl (by decide) ?_
    refine a_goto (pc := 26) (tgt := 30) 0 13 rfl (by decide) ?_
    exact J30_6 _ (by exact (if_pos c22_3)))
def f_X11_levy (S : Mem) (p1 : Int32) (p2 : Int32) : Int32 × Mem := lt (f_X5_free S (f_X3_holder S p1)) (fun (v3 : Int32) => lt (f_X11_share S v3 p2 (nI 100)) (fun (v4 : Int32) => lt (if (S.1 kBankOf (f_X3_holder S p1)) = (-1) then (0) else (if (S.1 kReserves (f_X3_bank S (S.1 kBankOf (f_X3_holder S p1)))) < v4 then (0) else (1))) (fun (v7 : Int32) => lt (f_X3_change S p1 (-v4)) (fun (S10 : Mem) => lt ((upd2 S10.1 kReserves (f_X3_bank S (S.1 kBankOf (f_X3_holder S p1))) ((S10.1 kReserves (f_X3_bank S (S.1 kBankOf (f_X3_holder S p1)))) - v4), S10.2)) (fun (S11 : Mem) => lt ((upd2 S11.1 kTreasury 0 ((S11.1 kTreasury 0) + v4), S11.2)) (fun (S12 : Mem) => (v4, S12)))))))
def ok_X11_levy (S : Mem) (p1 : Int32) (p2 : Int32) : Prop := ((ok_X11_needHolder S p1) ∧ (ok_X11_needRange S p2 1 (nI 100)) ∧ (∀ v3 : Int32, (f_X5_free S (f_X3_holder S p1)) = v3 → ((∀ v4 : Int32, (f_X11_share S v3 p2 (nI 100)) = v4 → ((∀ v7 : Int32, (if (S.1 kBankOf (f_X3_holder S p1)) = (-1) then (0) else (if (S.1 kReserves (f_X3_bank S (S.1 kBankOf (f_X3_holder S p1)))) < v4 then (0) else (1))) = v7 → ((ok_X11_needState S v7) ∧ (ok_X3_change S p1 (-v4)))))))))
abbrev fdX11_levy : FD := (mdX11_levy, [], 2, 45, 0, 0)
set_option maxRecDepth 100000 in
set_option maxHeartbeats 4000000 in
theorem w_X11_levy {O : Om} {G : Cx} {S : Mem} {PP : Option AV → Mem → Prop} (p1 : Int32) (p2 : Int32)   (h : ok_X11_levy S p1 p2) (hP : ∀ x9 S9, f_X11_levy S p1 p2 = (x9, S9) → PP (some (vi x9)) S9) : BW O G fdX11_levy 0 0 (QV O G 0 0 PP) S 0 [some (vr 11 0), some (vi p1), some (vi p2), none, none, none] [] := by
  refine a_iload_n (pc := 0) 0 0 rfl rfl ?_
  obtain ⟨o1, h⟩ := h
  refine a_callSv (pc := 1) 0 1 (c_X11_needHolder (S := S) p1 o1) rfl cs_X11_37 rfl (rm rfl) ?_
  refine a_iload_n (pc := 4) 0 2 rfl rfl ?_
  refine a_iconst (pc := 5) 0 3 (v := 1) rfl (by decide) ?_
  refine a_bipush (pc := 6) 0 4 (v := nI 100) rfl (by decide) ?_
  obtain ⟨o2, h⟩ := h
  refine a_callSv (pc := 8) 0 5 (c_X11_needRange (S := S) p2 1 (nI 100) o2) rfl cs_X11_41 rfl (rm rfl) ?_
  refine a_aload_n (pc := 11) 0 6 rfl rfl ?_
  refine g_11_books (pc := 12) 0 7 rfl fl_X11_10 ?_
  refine a_iload_n (pc := 15) 0 8 rfl rfl ?_
  refine a_callVr (pc := 16) 0 9 (c_X3_holder (S := S) p1) rfl cv_X11_45 (by decide) rfl rfl rfl (rm rfl) ?_
  refine a_astore_n (pc := 19) 0 10 (ls2 := [some (vr 11 0), some (vi p1), some (vi p2), some (vr 5 (f_X3_holder S p1)), none, none]) rfl rfl (by decide) rfl ?_
  refine a_aload_n (pc := 20) 0 11 rfl rfl ?_
  refine g_11_books (pc := 21) 0 12 rfl fl_X11_10 ?_
  refine a_aload_n (pc := 24) 0 13 rfl rfl ?_
  refine g_5_bank (pc := 25) 0 14 rfl (show f_X3_holder S p1 < 17 from r_X3_holder) fl_X11_76 ?_
  refine a_callVr (pc := 28) 0 15 (c_X3_bank (S := S) (S.1 kBankOf (f_X3_holder S p1))) rfl cv_X11_79 (by decide) rfl rfl rfl (rm rfl) ?_
  refine a_astore (pc := 31) 0 16 (ls2 := [some (vr 11 0), some (vi p1), some (vi p2), some (vr 5 (f_X3_holder S p1)), some (vr 0 (f_X3_bank S (S.1 kBankOf (f_X3_holder S p1)))), none]) rfl (by decide) rfl ?_
  refine a_aload_n (pc := 33) 0 17 rfl rfl ?_
  refine a_callVi (pc := 34) 0 18 (c_X5_free (S := S) (f_X3_holder S p1) (show f_X3_holder S p1 < 17 from r_X3_holder)) rfl cv_X11_104 (show f_X3_holder S p1 < 17 from r_X3_holder) rfl rfl rfl (rm rfl) ?_
  refine a_seti (fun v3 ev3 => ?_)
  have h := h v3 ev3
  refine a_iload_n (pc := 37) 0 19 rfl rfl ?_
  refine a_bipush (pc := 38) 0 20 (v := nI 100) rfl (by decide) ?_
  refine a_callSi (pc := 40) 0 21 (c_X11_share (S := S) v3 p2 (nI 100)) rfl cs_X11_155 rfl (rm rfl) ?_
  refine a_seti (fun v4 ev4 => ?_)
  have h := h v4 ev4
  refine a_istore (pc := 43) 0 22 (ls2 := [some (vr 11 0), some (vi p1), some (vi p2), some (vr 5 (f_X3_holder S p1)), some (vr 0 (f_X3_bank S (S.1 kBankOf (f_X3_holder S p1)))), some (vi v4)]) rfl (by decide) rfl ?_
  refine a_aload_n (pc := 45) 0 23 rfl rfl ?_
  refine g_5_bank (pc := 46) 0 24 rfl (show f_X3_holder S p1 < 17 from r_X3_holder) fl_X11_76 ?_
  refine a_iconst (pc := 49) 0 25 (v := (-1)) rfl (by decide) ?_
  have J68_12 : ∀ (v7 : Int32) (ev7 : (if (S.1 kBankOf (f_X3_holder S p1)) = (-1) then (0) else (if (S.1 kReserves (f_X3_bank S (S.1 kBankOf (f_X3_holder S p1)))) < v4 then (0) else (1))) = v7), BW O G fdX11_levy 0 0 (QV O G 0 0 PP) S 68 [some (vr 11 0), some (vi p1), some (vi p2), some (vr 5 (f_X3_holder S p1)), some (vr 0 (f_X3_bank S (S.1 kBankOf (f_X3_holder S p1)))), some (vi v4)] [vi v7] := by
    intro v7 ev7
    have h := h v7 ev7
    obtain ⟨o8, h⟩ := h
    refine a_callSv (pc := 68) 0 34 (c_X11_needState (S := S) v7 (by rw [← ev7]; repeat (first | exact Or.inl rfl | exact Or.inr rfl | assumption | split | dsimp only [lt])) o8) rfl cs_X11_66 rfl (rm rfl) ?_
    refine a_aload_n (pc := 71) 0 35 rfl rfl ?_
    refine g_11_books (pc := 72) 0 36 rfl fl_X11_10 ?_
    refine a_iload_n (pc := 75) 0 37 rfl rfl ?_
    refine a_iload (pc := 76) 0 38 rfl rfl ?_
    refine a_ineg (pc := 78) 0 39 rfl ?_
    have o9 := h
    refine a_callVv (pc := 79) 0 40 (c_X3_change (S := S) p1 (-v4) o9) rfl cv_X11_101 (by decide) rfl rfl rfl (rm rfl) ?_
    refine a_set (fun S10 eS10 => ?_)
    refine a_aload (pc := 82) 0 41 rfl rfl ?_
    refine a_dup (pc := 84) 0 42 rfl rfl ?_
    refine g_0_reserves (pc := 85) 0 43 rfl (show f_X3_bank S (S.1 kBankOf (f_X3_holder S p1)) < 5 from r_X3_bank) fl_X11_133 ?_
    refine a_iload (pc := 88) 0 44 rfl rfl ?_
    refine a_isub (pc := 90) 0 45 rfl ?_
    refine p_0_reserves (pc := 91) 0 46 rfl (show f_X3_bank S (S.1 kBankOf (f_X3_holder S p1)) < 5 from r_X3_bank) fl_X11_133 ?_
    refine a_set (fun S11 eS11 => ?_)
    refine a_aload_n (pc := 94) 0 47 rfl rfl ?_
    refine g_11_books (pc := 95) 1 0 rfl fl_X11_10 ?_
    refine g_3_central (pc := 98) 1 1 rfl fl_X11_146 ?_
    refine a_dup (pc := 101) 1 2 rfl rfl ?_
    refine g_4_treasury (pc := 102) 1 3 rfl fl_X11_220 ?_
    refine a_iload (pc := 105) 1 4 rfl rfl ?_
    refine a_iadd (pc := 107) 1 5 rfl ?_
    refine p_4_treasury (pc := 108) 1 6 rfl fl_X11_220 ?_
    refine a_set (fun S12 eS12 => ?_)
    refine a_iload (pc := 111) 1 7 rfl rfl ?_
    exact a_iret (pc := 113) 1 8 rfl rfl (hP _ _ (by unfold f_X11_levy; exact (lt_eq ev3).trans ((lt_eq ev4).trans ((lt_eq ev7).trans ((lt_eq eS10).trans ((lt_eq eS11).trans (lt_eq eS12)))))))
  refine a_icmp_eq (pc := 50) (tgt := 67) 0 26 rfl (by decide) (fun c50_4 => ?_) (fun c50_4 => ?_)
  · refine a_iconst (pc := 67) 0 33 (v := 0) rfl (by decide) ?_
    exact J68_12 _ (by exact (if_pos c50_4))
  · refine a_aload (pc := 53) 0 27 rfl rfl ?_
    refine g_0_reserves (pc := 55) 0 28 rfl (show f_X3_bank S (S.1 kBankOf (f_X3_holder S p1)) < 5 from r_X3_bank) fl_X11_133 ?_
    refine a_iload (pc := 58) 0 29 rfl rfl ?_
    refine a_icmp_lt (pc := 60) (tgt := 67) 0 30 rfl (by decide) (fun c60_5 => ?_) (fun c60_5 => ?_)
    · refine a_iconst (pc := 67) 0 33 (v := 0) rfl (by decide) ?_
      exact J68_12 _ (by exact ((if_neg c50_4).trans (if_pos c60_5)))
    · refine a_iconst (pc := 63) 0 31 (v := 1) rfl (by decide) ?_
      refine a_goto (pc := 64) (tgt := 68) 0 32 rfl (by decide) ?_
      exact J68_12 _ (by exact ((if_neg c50_4).trans (if_neg c60_5)))
theorem c_X11_levy {S : Mem} (p1 : Int32) (p2 : Int32)   (h : ok_X11_levy S p1 p2) : Cts mdX11_levy 2 45 [vr 11 0, vi p1, vi p2] S (Is (some (vi (f_X11_levy S p1 p2).1)) ((f_X11_levy S p1 p2).2)) := Cts.of dtX11_levy (by decide +kernel) rfl rfl (Nat.le_of_ble_eq_true rfl) rfl (fun O G => w_X11_levy p1 p2 h (fun _ _ h9 => ⟨by rw [h9], by rw [h9]⟩))
def okx_X11_levy_1 (S : Mem) (p1 : Int32) (p2 : Int32) : Prop := ((okx_X11_needHolder_1 S p1))
abbrev fqX11_levy_1 : FD := (mdX11_levy, [], 8, 122, 1, 6)
set_option maxRecDepth 100000 in
set_option maxHeartbeats 4000000 in
theorem q_X11_levy_1 {S : Mem} (p1 : Int32) (p2 : Int32)  (h : okx_X11_levy_1 S p1 p2) : Cqs mdX11_levy 8 122 [vr 11 0, vi p1, vi p2] S xIdx := Cqs.of dtX11_levy (by decide +kernel) rfl rfl (Nat.le_of_ble_eq_true rfl) rfl (fun O G => by
  show BW O G fqX11_levy_1 0 0 _ S 0 _ []
  refine a_iload_n (pc := 0) 0 0 rfl rfl ?_
  have o1 := h
  refine a_callSX (pc := 1) 0 1 (q_X11_needHolder_1 (S := S) p1 o1) rfl cs_X11_37 rfl (rm rfl) ?_
  exact a_out rfl (by decide) (by decide))
def okx_X11_levy_2 (S : Mem) (p1 : Int32) (p2 : Int32) : Prop := ((ok_X11_needHolder S p1) ∧ (okx_X11_needRange_1 S p2 1 (nI 100)))
abbrev fqX11_levy_2 : FD := (mdX11_levy, [], 8, 124, 1, 6)
set_option maxRecDepth 100000 in
set_option maxHeartbeats 4000000 in
theorem q_X11_levy_2 {S : Mem} (p1 : Int32) (p2 : Int32)  (h : okx_X11_levy_2 S p1 p2) : Cqs mdX11_levy 8 124 [vr 11 0, vi p1, vi p2] S xArg := Cqs.of dtX11_levy (by decide +kernel) rfl rfl (Nat.le_of_ble_eq_true rfl) rfl (fun O G => by
  show BW O G fqX11_levy_2 0 0 _ S 0 _ []
  refine a_iload_n (pc := 0) 0 0 rfl rfl ?_
  obtain ⟨o1, h⟩ := h
  refine a_callSv (pc := 1) 0 1 (c_X11_needHolder (S := S) p1 o1) rfl cs_X11_37 rfl (rm rfl) ?_
  refine a_iload_n (pc := 4) 0 2 rfl rfl ?_
  refine a_iconst (pc := 5) 0 3 (v := 1) rfl (by decide) ?_
  refine a_bipush (pc := 6) 0 4 (v := nI 100) rfl (by decide) ?_
  have o2 := h
  refine a_callSX (pc := 8) 0 5 (q_X11_needRange_1 (S := S) p2 1 (nI 100) o2) rfl cs_X11_41 rfl (rm rfl) ?_
  exact a_out rfl (by decide) (by decide))
def okx_X11_levy_3 (S : Mem) (p1 : Int32) (p2 : Int32) : Prop := ((ok_X11_needHolder S p1) ∧ (ok_X11_needRange S p2 1 (nI 100)) ∧ (∀ v3 : Int32, (f_X5_free S (f_X3_holder S p1)) = v3 → ((∀ v4 : Int32, (f_X11_share S v3 p2 (nI 100)) = v4 → ((∀ v7 : Int32, (if (S.1 kBankOf (f_X3_holder S p1)) = (-1) then (0) else (if (S.1 kReserves (f_X3_bank S (S.1 kBankOf (f_X3_holder S p1)))) < v4 then (0) else (1))) = v7 → ((okx_X11_needState S v7))))))))
abbrev fqX11_levy_3 : FD := (mdX11_levy, [], 7, 102, 1, 6)
set_option maxRecDepth 100000 in
set_option maxHeartbeats 4000000 in
theorem q_X11_levy_3 {S : Mem} (p1 : Int32) (p2 : Int32)  (h : okx_X11_levy_3 S p1 p2) : Cqs mdX11_levy 7 102 [vr 11 0, vi p1, vi p2] S xSta := Cqs.of dtX11_levy (by decide +kernel) rfl rfl (Nat.le_of_ble_eq_true rfl) rfl (fun O G => by
  show BW O G fqX11_levy_3 0 0 _ S 0 _ []
  refine a_iload_n (pc := 0) 0 0 rfl rfl ?_
  obtain ⟨o1, h⟩ := h
  refine a_callSv (pc := 1) 0 1 (c_X11_needHolder (S := S) p1 o1) rfl cs_X11_37 rfl (rm rfl) ?_
  refine a_iload_n (pc := 4) 0 2 rfl rfl ?_
  refine a_iconst (pc := 5) 0 3 (v := 1) rfl (by decide) ?_
  refine a_bipush (pc := 6) 0 4 (v := nI 100) rfl (by decide) ?_
  obtain ⟨o2, h⟩ := h
  refine a_callSv (pc := 8) 0 5 (c_X11_needRange (S := S) p2 1 (nI 100) o2) rfl cs_X11_41 rfl (rm rfl) ?_
  refine a_aload_n (pc := 11) 0 6 rfl rfl ?_
  refine g_11_books (pc := 12) 0 7 rfl fl_X11_10 ?_
  refine a_iload_n (pc := 15) 0 8 rfl rfl ?_
  refine a_callVr (pc := 16) 0 9 (c_X3_holder (S := S) p1) rfl cv_X11_45 (by decide) rfl rfl rfl (rm rfl) ?_
  refine a_astore_n (pc := 19) 0 10 (ls2 := [some (vr 11 0), some (vi p1), some (vi p2), some (vr 5 (f_X3_holder S p1)), none, none]) rfl rfl (by decide) rfl ?_
  refine a_aload_n (pc := 20) 0 11 rfl rfl ?_
  refine g_11_books (pc := 21) 0 12 rfl fl_X11_10 ?_
  refine a_aload_n (pc := 24) 0 13 rfl rfl ?_
  refine g_5_bank (pc := 25) 0 14 rfl (show f_X3_holder S p1 < 17 from r_X3_holder) fl_X11_76 ?_
  refine a_callVr (pc := 28) 0 15 (c_X3_bank (S := S) (S.1 kBankOf (f_X3_holder S p1))) rfl cv_X11_79 (by decide) rfl rfl rfl (rm rfl) ?_
  refine a_astore (pc := 31) 0 16 (ls2 := [some (vr 11 0), some (vi p1), some (vi p2), some (vr 5 (f_X3_holder S p1)), some (vr 0 (f_X3_bank S (S.1 kBankOf (f_X3_holder S p1)))), none]) rfl (by decide) rfl ?_
  refine a_aload_n (pc := 33) 0 17 rfl rfl ?_
  refine a_callVi (pc := 34) 0 18 (c_X5_free (S := S) (f_X3_holder S p1) (show f_X3_holder S p1 < 17 from r_X3_holder)) rfl cv_X11_104 (show f_X3_holder S p1 < 17 from r_X3_holder) rfl rfl rfl (rm rfl) ?_
  refine a_seti (fun v3 ev3 => ?_)
  have h := h v3 ev3
  refine a_iload_n (pc := 37) 0 19 rfl rfl ?_
  refine a_bipush (pc := 38) 0 20 (v := nI 100) rfl (by decide) ?_
  refine a_callSi (pc := 40) 0 21 (c_X11_share (S := S) v3 p2 (nI 100)) rfl cs_X11_155 rfl (rm rfl) ?_
  refine a_seti (fun v4 ev4 => ?_)
  have h := h v4 ev4
  refine a_istore (pc := 43) 0 22 (ls2 := [some (vr 11 0), some (vi p1), some (vi p2), some (vr 5 (f_X3_holder S p1)), some (vr 0 (f_X3_bank S (S.1 kBankOf (f_X3_holder S p1)))), some (vi v4)]) rfl (by decide) rfl ?_
  refine a_aload_n (pc := 45) 0 23 rfl rfl ?_
  refine g_5_bank (pc := 46) 0 24 rfl (show f_X3_holder S p1 < 17 from r_X3_holder) fl_X11_76 ?_
  refine a_iconst (pc := 49) 0 25 (v := (-1)) rfl (by decide) ?_
  have J68_8 : ∀ (v7 : Int32) (ev7 : (if (S.1 kBankOf (f_X3_holder S p1)) = (-1) then (0) else (if (S.1 kReserves (f_X3_bank S (S.1 kBankOf (f_X3_holder S p1)))) < v4 then (0) else (1))) = v7), BW O G fqX11_levy_3 0 0 (QX O G S xSta) S 68 [some (vr 11 0), some (vi p1), some (vi p2), some (vr 5 (f_X3_holder S p1)), some (vr 0 (f_X3_bank S (S.1 kBankOf (f_X3_holder S p1)))), some (vi v4)] [vi v7] := by
    intro v7 ev7
    have h := h v7 ev7
    have o8 := h
    refine a_callSX (pc := 68) 0 34 (q_X11_needState (S := S) v7 (by rw [← ev7]; repeat (first | exact Or.inl rfl | exact Or.inr rfl | assumption | split | dsimp only [lt])) o8) rfl cs_X11_66 rfl (rm rfl) ?_
    exact a_out rfl (by decide) (by decide)
  refine a_icmp_eq (pc := 50) (tgt := 67) 0 26 rfl (by decide) (fun c50_4 => ?_) (fun c50_4 => ?_)
  · refine a_iconst (pc := 67) 0 33 (v := 0) rfl (by decide) ?_
    exact J68_8 _ (by exact (if_pos c50_4))
  · refine a_aload (pc := 53) 0 27 rfl rfl ?_
    refine g_0_reserves (pc := 55) 0 28 rfl (show f_X3_bank S (S.1 kBankOf (f_X3_holder S p1)) < 5 from r_X3_bank) fl_X11_133 ?_
    refine a_iload (pc := 58) 0 29 rfl rfl ?_
    refine a_icmp_lt (pc := 60) (tgt := 67) 0 30 rfl (by decide) (fun c60_5 => ?_) (fun c60_5 => ?_)
    · refine a_iconst (pc := 67) 0 33 (v := 0) rfl (by decide) ?_
      exact J68_8 _ (by exact ((if_neg c50_4).trans (if_pos c60_5)))
    · refine a_iconst (pc := 63) 0 31 (v := 1) rfl (by decide) ?_
      refine a_goto (pc := 64) (tgt := 68) 0 32 rfl (by decide) ?_
      exact J68_8 _ (by exact ((if_neg c50_4).trans (if_neg c60_5))))
def f_X11_spend (S : Mem) (p1 : Int32) (p2 : Int32) : Int32 × Mem := lt (if (S.1 kBankOf (f_X3_holder S p1)) = (-1) then (0) else (if (S.1 kTreasury 0) < p2 then (0) else (1))) (fun (v5 : Int32) => lt ((upd2 S.1 kTreasury 0 ((S.1 kTreasury 0) - p2), S.2)) (fun (S7 : Mem) => lt ((upd2 S7.1 kReserves (f_X3_bank S7 (S7.1 kBankOf (f_X3_holder S p1))) ((S7.1 kReserves (f_X3_bank S7 (S7.1 kBankOf (f_X3_holder S p1)))) + p2), S7.2)) (fun (S8 : Mem) => lt (f_X3_change S8 p1 p2) (fun (S10 : Mem) => (S10.1 kTreasury 0, S10)))))
def ok_X11_spend (S : Mem) (p1 : Int32) (p2 : Int32) : Prop := ((ok_X11_needHolder S p1) ∧ (ok_X11_needRange S p2 1 (nI 10000)) ∧ (∀ v5 : Int32, (if (S.1 kBankOf (f_X3_holder S p1)) = (-1) then (0) else (if (S.1 kTreasury 0) < p2 then (0) else (1))) = v5 → ((ok_X11_needState S v5) ∧ (∀ S7 : Mem, ((upd2 S.1 kTreasury 0 ((S.1 kTreasury 0) - p2), S.2)) = S7 → ((∀ S8 : Mem, ((upd2 S7.1 kReserves (f_X3_bank S7 (S7.1 kBankOf (f_X3_holder S p1))) ((S7.1 kReserves (f_X3_bank S7 (S7.1 kBankOf (f_X3_holder S p1)))) + p2), S7.2)) = S8 → ((ok_X3_change S8 p1 p2))))))))
abbrev fdX11_spend : FD := (mdX11_spend, [], 2, 45, 0, 0)
set_option maxRecDepth 100000 in
set_option maxHeartbeats 4000000 in
theorem w_X11_spend {O : Om} {G : Cx} {S : Mem} {PP : Option AV → Mem → Prop} (p1 : Int32) (p2 : Int32)   (h : ok_X11_spend S p1 p2) (hP : ∀ x9 S9, f_X11_spend S p1 p2 = (x9, S9) → PP (some (vi x9)) S9) : BW O G fdX11_spend 0 0 (QV O G 0 0 PP) S 0 [some (vr 11 0), some (vi p1), some (vi p2), none, none] [] := by
  refine a_iload_n (pc := 0) 0 0 rfl rfl ?_
  obtain ⟨o1, h⟩ := h
  refine a_callSv (pc := 1) 0 1 (c_X11_needHolder (S := S) p1 o1) rfl cs_X11_37 rfl (rm rfl) ?_
  refine a_iload_n (pc := 4) 0 2 rfl rfl ?_
  refine a_iconst (pc := 5) 0 3 (v := 1) rfl (by decide) ?_
  refine a_sipush (pc := 6) 0 4 (v := nI 10000) rfl (by decide) ?_
  obtain ⟨o2, h⟩ := h
  refine a_callSv (pc := 9) 0 5 (c_X11_needRange (S := S) p2 1 (nI 10000) o2) rfl cs_X11_41 rfl (rm rfl) ?_
  refine a_aload_n (pc := 12) 0 6 rfl rfl ?_
  refine g_11_books (pc := 13) 0 7 rfl fl_X11_10 ?_
  refine a_iload_n (pc := 16) 0 8 rfl rfl ?_
  refine a_callVr (pc := 17) 0 9 (c_X3_holder (S := S) p1) rfl cv_X11_45 (by decide) rfl rfl rfl (rm rfl) ?_
  refine a_astore_n (pc := 20) 0 10 (ls2 := [some (vr 11 0), some (vi p1), some (vi p2), some (vr 5 (f_X3_holder S p1)), none]) rfl rfl (by decide) rfl ?_
  refine a_aload_n (pc := 21) 0 11 rfl rfl ?_
  refine g_11_books (pc := 22) 0 12 rfl fl_X11_10 ?_
  refine g_3_central (pc := 25) 0 13 rfl fl_X11_146 ?_
  refine a_astore (pc := 28) 0 14 (ls2 := [some (vr 11 0), some (vi p1), some (vi p2), some (vr 5 (f_X3_holder S p1)), some (vr 4 0)]) rfl (by decide) rfl ?_
  refine a_aload_n (pc := 30) 0 15 rfl rfl ?_
  refine g_5_bank (pc := 31) 0 16 rfl (show f_X3_holder S p1 < 17 from r_X3_holder) fl_X11_76 ?_
  refine a_iconst (pc := 34) 0 17 (v := (-1)) rfl (by decide) ?_
  have J52_10 : ∀ (v5 : Int32) (ev5 : (if (S.1 kBankOf (f_X3_holder S p1)) = (-1) then (0) else (if (S.1 kTreasury 0) < p2 then (0) else (1))) = v5), BW O G fdX11_spend 0 0 (QV O G 0 0 PP) S 52 [some (vr 11 0), some (vi p1), some (vi p2), some (vr 5 (f_X3_holder S p1)), some (vr 4 0)] [vi v5] := by
    intro v5 ev5
    have h := h v5 ev5
    obtain ⟨o6, h⟩ := h
    refine a_callSv (pc := 52) 0 26 (c_X11_needState (S := S) v5 (by rw [← ev5]; repeat (first | exact Or.inl rfl | exact Or.inr rfl | assumption | split | dsimp only [lt])) o6) rfl cs_X11_66 rfl (rm rfl) ?_
    refine a_aload (pc := 55) 0 27 rfl rfl ?_
    refine a_dup (pc := 57) 0 28 rfl rfl ?_
    refine g_4_treasury (pc := 58) 0 29 rfl fl_X11_220 ?_
    refine a_iload_n (pc := 61) 0 30 rfl rfl ?_
    refine a_isub (pc := 62) 0 31 rfl ?_
    refine p_4_treasury (pc := 63) 0 32 rfl fl_X11_220 ?_
    refine a_set (fun S7 eS7 => ?_)
    have h := h S7 eS7
    refine a_aload_n (pc := 66) 0 33 rfl rfl ?_
    refine g_11_books (pc := 67) 0 34 rfl fl_X11_10 ?_
    refine a_aload_n (pc := 70) 0 35 rfl rfl ?_
    refine g_5_bank (pc := 71) 0 36 rfl (show f_X3_holder S p1 < 17 from r_X3_holder) fl_X11_76 ?_
    refine a_callVr (pc := 74) 0 37 (c_X3_bank (S := S7) (S7.1 kBankOf (f_X3_holder S p1))) rfl cv_X11_79 (by decide) rfl rfl rfl (rm rfl) ?_
    refine a_dup (pc := 77) 0 38 rfl rfl ?_
    refine g_0_reserves (pc := 78) 0 39 rfl (show f_X3_bank S7 (S7.1 kBankOf (f_X3_holder S p1)) < 5 from r_X3_bank) fl_X11_133 ?_
    refine a_iload_n (pc := 81) 0 40 rfl rfl ?_
    refine a_iadd (pc := 82) 0 41 rfl ?_
    refine p_0_reserves (pc := 83) 0 42 rfl (show f_X3_bank S7 (S7.1 kBankOf (f_X3_holder S p1)) < 5 from r_X3_bank) fl_X11_133 ?_
    refine a_set (fun S8 eS8 => ?_)
    have h := h S8 eS8
    refine a_aload_n (pc := 86) 0 43 rfl rfl ?_
    refine g_11_books (pc := 87) 0 44 rfl fl_X11_10 ?_
    refine a_iload_n (pc := 90) 0 45 rfl rfl ?_
    refine a_iload_n (pc := 91) 0 46 rfl rfl ?_
    have o9 := h
    refine a_callVv (pc := 92) 0 47 (c_X3_change (S := S8) p1 p2 o9) rfl cv_X11_101 (by decide) rfl rfl rfl (rm rfl) ?_
    refine a_set (fun S10 eS10 => ?_)
    refine a_aload (pc := 95) 1 0 rfl rfl ?_
    refine g_4_treasury (pc := 97) 1 1 rfl fl_X11_220 ?_
    exact a_iret (pc := 100) 1 2 rfl rfl (hP _ _ (by unfold f_X11_spend; exact (lt_eq ev5).trans ((lt_eq eS7).trans ((lt_eq eS8).trans (lt_eq eS10)))))
  refine a_icmp_eq (pc := 35) (tgt := 51) 0 18 rfl (by decide) (fun c35_2 => ?_) (fun c35_2 => ?_)
  · refine a_iconst (pc := 51) 0 25 (v := 0) rfl (by decide) ?_
    exact J52_10 _ (by exact (if_pos c35_2))
  · refine a_aload (pc := 38) 0 19 rfl rfl ?_
    refine g_4_treasury (pc := 40) 0 20 rfl fl_X11_220 ?_
    refine a_iload_n (pc := 43) 0 21 rfl rfl ?_
    refine a_icmp_lt (pc := 44) (tgt := 51) 0 22 rfl (by decide) (fun c44_3 => ?_) (fun c44_3 => ?_)
    · refine a_iconst (pc := 51) 0 25 (v := 0) rfl (by decide) ?_
      exact J52_10 _ (by exact ((if_neg c35_2).trans (if_pos c44_3)))
    · refine a_iconst (pc := 47) 0 23 (v := 1) rfl (by decide) ?_
      refine a_goto (pc := 48) (tgt := 52) 0 24 rfl (by decide) ?_
      exact J52_10 _ (by exact ((if_neg c35_2).trans (if_neg c44_3)))
theorem c_X11_spend {S : Mem} (p1 : Int32) (p2 : Int32)   (h : ok_X11_spend S p1 p2) : Cts mdX11_spend 2 45 [vr 11 0, vi p1, vi p2] S (Is (some (vi (f_X11_spend S p1 p2).1)) ((f_X11_spend S p1 p2).2)) := Cts.of dtX11_spend (by decide +kernel) rfl rfl (Nat.le_of_ble_eq_true rfl) rfl (fun O G => w_X11_spend p1 p2 h (fun _ _ h9 => ⟨by rw [h9], by rw [h9]⟩))
def okx_X11_spend_1 (S : Mem) (p1 : Int32) (p2 : Int32) : Prop := ((okx_X11_needHolder_1 S p1))
abbrev fqX11_spend_1 : FD := (mdX11_spend, [], 8, 122, 1, 6)
set_option maxRecDepth 100000 in
set_option maxHeartbeats 4000000 in
theorem q_X11_spend_1 {S : Mem} (p1 : Int32) (p2 : Int32)  (h : okx_X11_spend_1 S p1 p2) : Cqs mdX11_spend 8 122 [vr 11 0, vi p1, vi p2] S xIdx := Cqs.of dtX11_spend (by decide +kernel) rfl rfl (Nat.le_of_ble_eq_true rfl) rfl (fun O G => by
  show BW O G fqX11_spend_1 0 0 _ S 0 _ []
  refine a_iload_n (pc := 0) 0 0 rfl rfl ?_
  have o1 := h
  refine a_callSX (pc := 1) 0 1 (q_X11_needHolder_1 (S := S) p1 o1) rfl cs_X11_37 rfl (rm rfl) ?_
  exact a_out rfl (by decide) (by decide))
def okx_X11_spend_2 (S : Mem) (p1 : Int32) (p2 : Int32) : Prop := ((ok_X11_needHolder S p1) ∧ (okx_X11_needRange_1 S p2 1 (nI 10000)))
abbrev fqX11_spend_2 : FD := (mdX11_spend, [], 8, 124, 1, 6)
set_option maxRecDepth 100000 in
set_option maxHeartbeats 4000000 in
theorem q_X11_spend_2 {S : Mem} (p1 : Int32) (p2 : Int32)  (h : okx_X11_spend_2 S p1 p2) : Cqs mdX11_spend 8 124 [vr 11 0, vi p1, vi p2] S xArg := Cqs.of dtX11_spend (by decide +kernel) rfl rfl (Nat.le_of_ble_eq_true rfl) rfl (fun O G => by
  show BW O G fqX11_spend_2 0 0 _ S 0 _ []
  refine a_iload_n (pc := 0) 0 0 rfl rfl ?_
  obtain ⟨o1, h⟩ := h
  refine a_callSv (pc := 1) 0 1 (c_X11_needHolder (S := S) p1 o1) rfl cs_X11_37 rfl (rm rfl) ?_
  refine a_iload_n (pc := 4) 0 2 rfl rfl ?_
  refine a_iconst (pc := 5) 0 3 (v := 1) rfl (by decide) ?_
  refine a_sipush (pc := 6) 0 4 (v := nI 10000) rfl (by decide) ?_
  have o2 := h
  refine a_callSX (pc := 9) 0 5 (q_X11_needRange_1 (S := S) p2 1 (nI 10000) o2) rfl cs_X11_41 rfl (rm rfl) ?_
  exact a_out rfl (by decide) (by decide))
def okx_X11_spend_3 (S : Mem) (p1 : Int32) (p2 : Int32) : Prop := ((ok_X11_needHolder S p1) ∧ (ok_X11_needRange S p2 1 (nI 10000)) ∧ (∀ v5 : Int32, (if (S.1 kBankOf (f_X3_holder S p1)) = (-1) then (0) else (if (S.1 kTreasury 0) < p2 then (0) else (1))) = v5 → ((okx_X11_needState S v5))))
abbrev fqX11_spend_3 : FD := (mdX11_spend, [], 7, 102, 1, 6)
set_option maxRecDepth 100000 in
set_option maxHeartbeats 4000000 in
theorem q_X11_spend_3 {S : Mem} (p1 : Int32) (p2 : Int32)  (h : okx_X11_spend_3 S p1 p2) : Cqs mdX11_spend 7 102 [vr 11 0, vi p1, vi p2] S xSta := Cqs.of dtX11_spend (by decide +kernel) rfl rfl (Nat.le_of_ble_eq_true rfl) rfl (fun O G => by
  show BW O G fqX11_spend_3 0 0 _ S 0 _ []
  refine a_iload_n (pc := 0) 0 0 rfl rfl ?_
  obtain ⟨o1, h⟩ := h
  refine a_callSv (pc := 1) 0 1 (c_X11_needHolder (S := S) p1 o1) rfl cs_X11_37 rfl (rm rfl) ?_
  refine a_iload_n (pc := 4) 0 2 rfl rfl ?_
  refine a_iconst (pc := 5) 0 3 (v := 1) rfl (by decide) ?_
  refine a_sipush (pc := 6) 0 4 (v := nI 10000) rfl (by decide) ?_
  obtain ⟨o2, h⟩ := h
  refine a_callSv (pc := 9) 0 5 (c_X11_needRange (S := S) p2 1 (nI 10000) o2) rfl cs_X11_41 rfl (rm rfl) ?_
  refine a_aload_n (pc := 12) 0 6 rfl rfl ?_
  refine g_11_books (pc := 13) 0 7 rfl fl_X11_10 ?_
  refine a_iload_n (pc := 16) 0 8 rfl rfl ?_
  refine a_callVr (pc := 17) 0 9 (c_X3_holder (S := S) p1) rfl cv_X11_45 (by decide) rfl rfl rfl (rm rfl) ?_
  refine a_astore_n (pc := 20) 0 10 (ls2 := [some (vr 11 0), some (vi p1), some (vi p2), some (vr 5 (f_X3_holder S p1)), none]) rfl rfl (by decide) rfl ?_
  refine a_aload_n (pc := 21) 0 11 rfl rfl ?_
  refine g_11_books (pc := 22) 0 12 rfl fl_X11_10 ?_
  refine g_3_central (pc := 25) 0 13 rfl fl_X11_146 ?_
  refine a_astore (pc := 28) 0 14 (ls2 := [some (vr 11 0), some (vi p1), some (vi p2), some (vr 5 (f_X3_holder S p1)), some (vr 4 0)]) rfl (by decide) rfl ?_
  refine a_aload_n (pc := 30) 0 15 rfl rfl ?_
  refine g_5_bank (pc := 31) 0 16 rfl (show f_X3_holder S p1 < 17 from r_X3_holder) fl_X11_76 ?_
  refine a_iconst (pc := 34) 0 17 (v := (-1)) rfl (by decide) ?_
  have J52_6 : ∀ (v5 : Int32) (ev5 : (if (S.1 kBankOf (f_X3_holder S p1)) = (-1) then (0) else (if (S.1 kTreasury 0) < p2 then (0) else (1))) = v5), BW O G fqX11_spend_3 0 0 (QX O G S xSta) S 52 [some (vr 11 0), some (vi p1), some (vi p2), some (vr 5 (f_X3_holder S p1)), some (vr 4 0)] [vi v5] := by
    intro v5 ev5
    have h := h v5 ev5
    have o6 := h
    refine a_callSX (pc := 52) 0 26 (q_X11_needState (S := S) v5 (by rw [← ev5]; repeat (first | exact Or.inl rfl | exact Or.inr rfl | assumption | split | dsimp only [lt])) o6) rfl cs_X11_66 rfl (rm rfl) ?_
    exact a_out rfl (by decide) (by decide)
  refine a_icmp_eq (pc := 35) (tgt := 51) 0 18 rfl (by decide) (fun c35_2 => ?_) (fun c35_2 => ?_)
  · refine a_iconst (pc := 51) 0 25 (v := 0) rfl (by decide) ?_
    exact J52_6 _ (by exact (if_pos c35_2))
  · refine a_aload (pc := 38) 0 19 rfl rfl ?_
    refine g_4_treasury (pc := 40) 0 20 rfl fl_X11_220 ?_
    refine a_iload_n (pc := 43) 0 21 rfl rfl ?_
    refine a_icmp_lt (pc := 44) (tgt := 51) 0 22 rfl (by decide) (fun c44_3 => ?_) (fun c44_3 => ?_)
    · refine a_iconst (pc := 51) 0 25 (v := 0) rfl (by decide) ?_
      exact J52_6 _ (by exact ((if_neg c35_2).trans (if_pos c44_3)))
    · refine a_iconst (pc := 47) 0 23 (v := 1) rfl (by decide) ?_
      refine a_goto (pc := 48) (tgt := 52) 0 24 rfl (by decide) ?_
      exact J52_6 _ (by exact ((if_neg c35_2).trans (if_neg c44_3))))
def f_X11_exchange (S : Mem) (p1 : Int32) : Int32 × Mem := lt ((upd2 S.1 kExchange 0 p1, S.2)) (fun (S2 : Mem) => (S.1 kExchange 0, S2))
def ok_X11_exchange (S : Mem) (p1 : Int32) : Prop := ((ok_X11_needRange S p1 (nI 10) (nI 1000)))
abbrev fdX11_exchange : FD := (mdX11_exchange, [], 2, 42, 0, 0)
set_option maxRecDepth 100000 in
set_option maxHeartbeats 4000000 in
theorem w_X11_exchange {O : Om} {G : Cx} {S : Mem} {PP : Option AV → Mem → Prop} (p1 : Int32)   (h : ok_X11_exchange S p1) (hP : ∀ x9 S9, f_X11_exchange S p1 = (x9, S9) → PP (some (vi x9)) S9) : BW O G fdX11_exchange 0 0 (QV O G 0 0 PP) S 0 [some (vr 11 0), some (vi p1), none] [] := by
  refine a_iload_n (pc := 0) 0 0 rfl rfl ?_
  refine a_bipush (pc := 1) 0 1 (v := nI 10) rfl (by decide) ?_
  refine a_sipush (pc := 3) 0 2 (v := nI 1000) rfl (by decide) ?_
  have o1 := h
  refine a_callSv (pc := 6) 0 3 (c_X11_needRange (S := S) p1 (nI 10) (nI 1000) o1) rfl cs_X11_41 rfl (rm rfl) ?_
  refine a_aload_n (pc := 9) 0 4 rfl rfl ?_
  refine g_11_books (pc := 10) 0 5 rfl fl_X11_10 ?_
  refine g_3_central (pc := 13) 0 6 rfl fl_X11_146 ?_
  refine g_4_exchangeRate (pc := 16) 0 7 rfl fl_X11_223 ?_
  refine a_istore_n (pc := 19) 0 8 (ls2 := [some (vr 11 0), some (vi p1), some (vi (S.1 kExchange 0))]) rfl rfl (by decide) rfl ?_
  refine a_aload_n (pc := 20) 0 9 rfl rfl ?_
  refine g_11_books (pc := 21) 0 10 rfl fl_X11_10 ?_
  refine g_3_central (pc := 24) 0 11 rfl fl_X11_146 ?_
  refine a_iload_n (pc := 27) 0 12 rfl rfl ?_
  refine p_4_exchangeRate (pc := 28) 0 13 rfl fl_X11_223 ?_
  refine a_set (fun S2 eS2 => ?_)
  refine a_iload_n (pc := 31) 0 14 rfl rfl ?_
  exact a_iret (pc := 32) 0 15 rfl rfl (hP _ _ (by unfold f_X11_exchange; exact lt_eq eS2))
theorem c_X11_exchange {S : Mem} (p1 : Int32)   (h : ok_X11_exchange S p1) : Cts mdX11_exchange 2 42 [vr 11 0, vi p1] S (Is (some (vi (f_X11_exchange S p1).1)) ((f_X11_exchange S p1).2)) := Cts.of dtX11_exchange (by decide +kernel) rfl rfl (Nat.le_of_ble_eq_true rfl) rfl (fun O G => w_X11_exchange p1 h (fun _ _ h9 => ⟨by rw [h9], by rw [h9]⟩))
def okx_X11_exchange_1 (S : Mem) (p1 : Int32) : Prop := ((okx_X11_needRange_1 S p1 (nI 10) (nI 1000)))
abbrev fqX11_exchange_1 : FD := (mdX11_exchange, [], 8, 124, 1, 6)
set_option maxRecDepth 100000 in
set_option maxHeartbeats 4000000 in
theorem q_X11_exchange_1 {S : Mem} (p1 : Int32)  (h : okx_X11_exchange_1 S p1) : Cqs mdX11_exchange 8 124 [vr 11 0, vi p1] S xArg := Cqs.of dtX11_exchange (by decide +kernel) rfl rfl (Nat.le_of_ble_eq_true rfl) rfl (fun O G => by
  show BW O G fqX11_exchange_1 0 0 _ S 0 _ []
  refine a_iload_n (pc := 0) 0 0 rfl rfl ?_
  refine a_bipush (pc := 1) 0 1 (v := nI 10) rfl (by decide) ?_
  refine a_sipush (pc := 3) 0 2 (v := nI 1000) rfl (by decide) ?_
  have o1 := h
  refine a_callSX (pc := 6) 0 3 (q_X11_needRange_1 (S := S) p1 (nI 10) (nI 1000) o1) rfl cs_X11_41 rfl (rm rfl) ?_
  exact a_out rfl (by decide) (by decide))
def f_X11_abroad (S : Mem) (p1 : Int32) (p2 : Int32) (p3 : Int32) : Int32 × Mem := lt (f_X11_share S p2 (S.1 kExchange 0) (nI 100)) (fun (v3 : Int32) => lt (if (S.1 kBankOf (f_X3_holder S p1)) = (-1) then (0) else (1)) (fun (v5 : Int32) => lt (if p3 = 0 then (if (S.1 kForeign 0) < p2 then (0) else (lt (f_X5_free S (f_X3_holder S p1)) (fun (v9 : Int32) => if v9 < v3 then (0) else (if (S.1 kReserves (f_X3_bank S (S.1 kBankOf (f_X3_holder S p1)))) < v3 then (0) else (1))))) else (1)) (fun (v12 : Int32) => lt (if p3 = 0 then ((-1)) else (1)) (fun (v15 : Int32) => lt (f_X3_change S p1 (v15 * v3)) (fun (S17 : Mem) => lt ((upd2 S17.1 kReserves (f_X3_bank S (S.1 kBankOf (f_X3_holder S p1))) ((S17.1 kReserves (f_X3_bank S (S.1 kBankOf (f_X3_holder S p1)))) + (v15 * v3)), S17.2)) (fun (S18 : Mem) => lt ((upd2 S18.1 kForeign 0 ((S18.1 kForeign 0) + (v15 * p2)), S18.2)) (fun (S19 : Mem) => lt ((upd2 S19.1 kForeignCost 0 ((S19.1 kForeignCost 0) + (v15 * v3)), S19.2)) (fun (S20 : Mem) => (v3, S20)))))))))
def ok_X11_abroad (S : Mem) (p1 : Int32) (p2 : Int32) (p3 : Int32) : Prop := ((ok_X11_needFirm S p1) ∧ (ok_X11_needRange S p2 1 (nI 1000)) ∧ (∀ v3 : Int32, (f_X11_share S p2 (S.1 kExchange 0) (nI 100)) = v3 → ((∀ v5 : Int32, (if (S.1 kBankOf (f_X3_holder S p1)) = (-1) then (0) else (1)) = v5 → ((ok_X11_needState S v5) ∧ (∀ v12 : Int32, (if p3 = 0 then (if (S.1 kForeign 0) < p2 then (0) else (lt (f_X5_free S (f_X3_holder S p1)) (fun (v9 : Int32) => if v9 < v3 then (0) else (if (S.1 kReserves (f_X3_bank S (S.1 kBankOf (f_X3_holder S p1)))) < v3 then (0) else (1))))) else (1)) = v12 → ((ok_X11_needState S v12) ∧ (∀ v15 : Int32, (if p3 = 0 then ((-1)) else (1)) = v15 → ((ok_X3_change S p1 (v15 * v3)))))))))))
abbrev fdX11_abroad : FD := (mdX11_abroad, [], 2, 45, 0, 0)
set_option maxRecDepth 100000 in
set_option maxHeartbeats 4000000 in
theorem w_X11_abroad {O : Om} {G : Cx} {S : Mem} {PP : Option AV → Mem → Prop} (p1 : Int32) (p2 : Int32) (p3 : Int32)  (hb_p3 : p3 = 0 ∨ p3 = 1) (h : ok_X11_abroad S p1 p2 p3) (hP : ∀ x9 S9, f_X11_abroad S p1 p2 p3 = (x9, S9) → PP (some (vi x9)) S9) : BW O G fdX11_abroad 0 0 (QV O G 0 0 PP) S 0 [some (vr 11 0), some (vi p1), some (vi p2), some (vi p3), none, none, none, none, none] [] := by
  refine a_iload_n (pc := 0) 0 0 rfl rfl ?_
  obtain ⟨o1, h⟩ := h
  refine a_callSv (pc := 1) 0 1 (c_X11_needFirm (S := S) p1 o1) rfl cs_X11_226 rfl (rm rfl) ?_
  refine a_iload_n (pc := 4) 0 2 rfl rfl ?_
  refine a_iconst (pc := 5) 0 3 (v := 1) rfl (by decide) ?_
  refine a_sipush (pc := 6) 0 4 (v := nI 1000) rfl (by decide) ?_
  obtain ⟨o2, h⟩ := h
  refine a_callSv (pc := 9) 0 5 (c_X11_needRange (S := S) p2 1 (nI 1000) o2) rfl cs_X11_41 rfl (rm rfl) ?_
  refine a_aload_n (pc := 12) 0 6 rfl rfl ?_
  refine g_11_books (pc := 13) 0 7 rfl fl_X11_10 ?_
  refine a_iload_n (pc := 16) 0 8 rfl rfl ?_
  refine a_callVr (pc := 17) 0 9 (c_X3_holder (S := S) p1) rfl cv_X11_45 (by decide) rfl rfl rfl (rm rfl) ?_
  refine a_astore (pc := 20) 0 10 (ls2 := [some (vr 11 0), some (vi p1), some (vi p2), some (vi p3), some (vr 5 (f_X3_holder S p1)), none, none, none, none]) rfl (by decide) rfl ?_
  refine a_aload_n (pc := 22) 0 11 rfl rfl ?_
  refine g_11_books (pc := 23) 0 12 rfl fl_X11_10 ?_
  refine a_aload (pc := 26) 0 13 rfl rfl ?_
  refine g_5_bank (pc := 28) 0 14 rfl (show f_X3_holder S p1 < 17 from r_X3_holder) fl_X11_76 ?_
  refine a_callVr (pc := 31) 0 15 (c_X3_bank (S := S) (S.1 kBankOf (f_X3_holder S p1))) rfl cv_X11_79 (by decide) rfl rfl rfl (rm rfl) ?_
  refine a_astore (pc := 34) 0 16 (ls2 := [some (vr 11 0), some (vi p1), some (vi p2), some (vi p3), some (vr 5 (f_X3_holder S p1)), some (vr 0 (f_X3_bank S (S.1 kBankOf (f_X3_holder S p1)))), none, none, none]) rfl (by decide) rfl ?_
  refine a_aload_n (pc := 36) 0 17 rfl rfl ?_
  refine g_11_books (pc := 37) 0 18 rfl fl_X11_10 ?_
  refine g_3_central (pc := 40) 0 19 rfl fl_X11_146 ?_
  refine a_astore (pc := 43) 0 20 (ls2 := [some (vr 11 0), some (vi p1), some (vi p2), some (vi p3), some (vr 5 (f_X3_holder S p1)), some (vr 0 (f_X3_bank S (S.1 kBankOf (f_X3_holder S p1)))), some (vr 4 0), none, none]) rfl (by decide) rfl ?_
  refine a_iload_n (pc := 45) 0 21 rfl rfl ?_
  refine a_aload (pc := 46) 0 22 rfl rfl ?_
  refine g_4_exchangeRate (pc := 48) 0 23 rfl fl_X11_223 ?_
  refine a_bipush (pc := 51) 0 24 (v := nI 100) rfl (by decide) ?_
  refine a_callSi (pc := 53) 0 25 (c_X11_share (S := S) p2 (S.1 kExchange 0) (nI 100)) rfl cs_X11_155 rfl (rm rfl) ?_
  refine a_seti (fun v3 ev3 => ?_)
  have h := h v3 ev3
  refine a_istore (pc := 56) 0 26 (ls2 := [some (vr 11 0), some (vi p1), some (vi p2), some (vi p3), some (vr 5 (f_X3_holder S p1)), some (vr 0 (f_X3_bank S (S.1 kBankOf (f_X3_holder S p1)))), some (vr 4 0), some (vi v3), none]) rfl (by decide) rfl ?_
  refine a_aload (pc := 58) 0 27 rfl rfl ?_
  refine g_5_bank (pc := 60) 0 28 rfl (show f_X3_holder S p1 < 17 from r_X3_holder) fl_X11_76 ?_
  refine a_iconst (pc := 63) 0 29 (v := (-1)) rfl (by decide) ?_
  have J72_20 : ∀ (v5 : Int32) (ev5 : (if (S.1 kBankOf (f_X3_holder S p1)) = (-1) then (0) else (1)) = v5), BW O G fdX11_abroad 0 0 (QV O G 0 0 PP) S 72 [some (vr 11 0), some (vi p1), some (vi p2), some (vi p3), some (vr 5 (f_X3_holder S p1)), some (vr 0 (f_X3_bank S (S.1 kBankOf (f_X3_holder S p1)))), some (vr 4 0), some (vi v3), none] [vi v5] := by
    intro v5 ev5
    have h := h v5 ev5
    obtain ⟨o6, h⟩ := h
    refine a_callSv (pc := 72) 0 34 (c_X11_needState (S := S) v5 (by rw [← ev5]; repeat (first | exact Or.inl rfl | exact Or.inr rfl | assumption | split | dsimp only [lt])) o6) rfl cs_X11_66 rfl (rm rfl) ?_
    refine a_iload_n (pc := 75) 0 35 rfl rfl ?_
    have J113_21 : ∀ (v12 : Int32) (ev12 : (if p3 = 0 then (if (S.1 kForeign 0) < p2 then (0) else (lt (f_X5_free S (f_X3_holder S p1)) (fun (v9 : Int32) => if v9 < v3 then (0) else (if (S.1 kReserves (f_X3_bank S (S.1 kBankOf (f_X3_holder S p1)))) < v3 then (0) else (1))))) else (1)) = v12), BW O G fdX11_abroad 0 0 (QV O G 0 0 PP) S 113 [some (vr 11 0), some (vi p1), some (vi p2), some (vi p3), some (vr 5 (f_X3_holder S p1)), some (vr 0 (f_X3_bank S (S.1 kBankOf (f_X3_holder S p1)))), some (vr 4 0), some (vi v3), none] [vi v12] := by
      intro v12 ev12
      have h := h v12 ev12
      obtain ⟨o13, h⟩ := h
      refine a_callSv (pc := 113) 1 4 (c_X11_needState (S := S) v12 (by rw [← ev12]; repeat (first | exact Or.inl rfl | exact Or.inr rfl | assumption | split | dsimp only [lt])) o13) rfl cs_X11_66 rfl (rm rfl) ?_
      refine a_iload_n (pc := 116) 1 5 rfl rfl ?_
      have J125_22 : ∀ (v15 : Int32) (ev15 : (if p3 = 0 then ((-1)) else (1)) = v15), BW O G fdX11_abroad 0 0 (QV O G 0 0 PP) S 125 [some (vr 11 0), some (vi p1), some (vi p2), some (vi p3), some (vr 5 (f_X3_holder S p1)), some (vr 0 (f_X3_bank S (S.1 kBankOf (f_X3_holder S p1)))), some (vr 4 0), some (vi v3), none] [vi v15] := by
        intro v15 ev15
        have h := h v15 ev15
        refine a_istore (pc := 125) 1 10 (ls2 := [some (vr 11 0), some (vi p1), some (vi p2), some (vi p3), some (vr 5 (f_X3_holder S p1)), some (vr 0 (f_X3_bank S (S.1 kBankOf (f_X3_holder S p1)))), some (vr 4 0), some (vi v3), some (vi v15)]) rfl (by decide) rfl ?_
        refine a_aload_n (pc := 127) 1 11 rfl rfl ?_
        refine g_11_books (pc := 128) 1 12 rfl fl_X11_10 ?_
        refine a_iload_n (pc := 131) 1 13 rfl rfl ?_
        refine a_iload (pc := 132) 1 14 rfl rfl ?_
        refine a_iload (pc := 134) 1 15 rfl rfl ?_
        refine a_imul (pc := 136) 1 16 rfl ?_
        have o16 := h
        refine a_callVv (pc := 137) 1 17 (c_X3_change (S := S) p1 (v15 * v3) o16) rfl cv_X11_101 (by decide) rfl rfl rfl (rm rfl) ?_
        refine a_set (fun S17 eS17 => ?_)
        refine a_aload (pc := 140) 1 18 rfl rfl ?_
        refine a_dup (pc := 142) 1 19 rfl rfl ?_
        refine g_0_reserves (pc := 143) 1 20 rfl (show f_X3_bank S (S.1 kBankOf (f_X3_holder S p1)) < 5 from r_X3_bank) fl_X11_133 ?_
        refine a_iload (pc := 146) 1 21 rfl rfl ?_
        refine a_iload (pc := 148) 1 22 rfl rfl ?_
        refine a_imul (pc := 150) 1 23 rfl ?_
        refine a_iadd (pc := 151) 1 24 rfl ?_
        refine p_0_reserves (pc := 152) 1 25 rfl (show f_X3_bank S (S.1 kBankOf (f_X3_holder S p1)) < 5 from r_X3_bank) fl_X11_133 ?_
        refine a_set (fun S18 eS18 => ?_)
        refine a_aload (pc := 155) 1 26 rfl rfl ?_
        refine a_dup (pc := 157) 1 27 rfl rfl ?_
        refine g_4_foreignMoney (pc := 158) 1 28 rfl fl_X11_229 ?_
        refine a_iload (pc := 161) 1 29 rfl rfl ?_
        refine a_iload_n (pc := 163) 1 30 rfl rfl ?_
        refine a_imul (pc := 164) 1 31 rfl ?_
        refine a_iadd (pc := 165) 1 32 rfl ?_
        refine p_4_foreignMoney (pc := 166) 1 33 rfl fl_X11_229 ?_
        refine a_set (fun S19 eS19 => ?_)
        refine a_aload (pc := 169) 1 34 rfl rfl ?_
        refine a_dup (pc := 171) 1 35 rfl rfl ?_
        refine g_4_paidForForeign (pc := 172) 1 36 rfl fl_X11_232 ?_
        refine a_iload (pc := 175) 1 37 rfl rfl ?_
        refine a_iload (pc := 177) 1 38 rfl rfl ?_
        refine a_imul (pc := 179) 1 39 rfl ?_
        refine a_iadd (pc := 180) 1 40 rfl ?_
        refine p_4_paidForForeign (pc := 181) 1 41 rfl fl_X11_232 ?_
        refine a_set (fun S20 eS20 => ?_)
        refine a_iload (pc := 184) 1 42 rfl rfl ?_
        exact a_iret (pc := 186) 1 43 rfl rfl (hP _ _ (by unfold f_X11_abroad; exact (lt_eq ev3).trans ((lt_eq ev5).trans ((lt_eq ev12).trans ((lt_eq ev15).trans ((lt_eq eS17).trans ((lt_eq eS18).trans ((lt_eq eS19).trans (lt_eq eS20)))))))))
      refine a_if_eq (pc := 117) (tgt := 124) 1 6 rfl (by decide) (fun c117_13 => ?_) (fun c117_13 => ?_)
      · refine a_iconst (pc := 124) 1 9 (v := (-1)) rfl (by decide) ?_
        exact J125_22 _ (by exact (if_pos c117_13))
      · refine a_iconst (pc := 120) 1 7 (v := 1) rfl (by decide) ?_
        refine a_goto (pc := 121) (tgt := 125) 1 8 rfl (by decide) ?_
        exact J125_22 _ (by exact (if_neg c117_13))
    refine a_if_ne (pc := 76) (tgt := 108) 0 36 rfl (by decide) (fun c76_6 => ?_) (fun c76_6 => ?_)
    · refine a_iconst (pc := 108) 1 1 (v := 1) rfl (by decide) ?_
      refine a_goto (pc := 109) (tgt := 113) 1 2 rfl (by decide) ?_
      exact J113_21 _ (by exact (if_neg c76_6))
    · refine a_aload (pc := 79) 0 37 rfl rfl ?_
      refine g_4_foreignMoney (pc := 81) 0 38 rfl fl_X11_229 ?_
      refine a_iload_n (pc := 84) 0 39 rfl rfl ?_
      refine a_icmp_lt (pc := 85) (tgt := 112) 0 40 rfl (by decide) (fun c85_7 => ?_) (fun c85_7 => ?_)
      · refine a_iconst (pc := 112) 1 3 (v := 0) rfl (by decide) ?_
        exact J113_21 _ (by exact ((if_pos c76_6).trans (if_pos c85_7)))
      · refine a_aload (pc := 88) 0 41 rfl rfl ?_
        refine a_callVi (pc := 90) 0 42 (c_X5_free (S := S) (f_X3_holder S p1) (show f_X3_holder S p1 < 17 from r_X3_holder)) rfl cv_X11_104 (show f_X3_holder S p1 < 17 from r_X3_holder) rfl rfl rfl (rm rfl) ?_
        refine a_seti (fun v9 ev9 => ?_)
        refine a_iload (pc := 93) 0 43 rfl rfl ?_
        refine a_icmp_lt (pc := 95) (tgt := 112) 0 44 rfl (by decide) (fun c95_9 => ?_) (fun c95_9 => ?_)
        · refine a_iconst (pc := 112) 1 3 (v := 0) rfl (by decide) ?_
          exact J113_21 _ (by exact ((if_pos c76_6).trans ((if_neg c85_7).trans ((lt_eq ev9).trans (if_pos c95_9)))))
        · refine a_aload (pc := 98) 0 45 rfl rfl ?_
          refine g_0_reserves (pc := 100) 0 46 rfl (show f_X3_bank S (S.1 kBankOf (f_X3_holder S p1)) < 5 from r_X3_bank) fl_X11_133 ?_
          refine a_iload (pc := 103) 0 47 rfl rfl ?_
          refine a_icmp_lt (pc := 105) (tgt := 112) 1 0 rfl (by decide) (fun c105_10 => ?_) (fun c105_10 => ?_)
          · refine a_iconst (pc := 112) 1 3 (v := 0) rfl (by decide) ?_
            exact J113_21 _ (by exact ((if_pos c76_6).trans ((if_neg c85_7).trans ((lt_eq ev9).trans ((if_neg c95_9).trans (if_pos c105_10))))))
          · refine a_iconst (pc := 108) 1 1 (v := 1) rfl (by decide) ?_
            refine a_goto (pc := 109) (tgt := 113) 1 2 rfl (by decide) ?_
            exact J113_21 _ (by exact ((if_pos c76_6).trans ((if_neg c85_7).trans ((lt_eq ev9).trans ((if_neg c95_9).trans (if_neg c105_10))))))
  refine a_icmp_eq (pc := 64) (tgt := 71) 0 30 rfl (by decide) (fun c64_3 => ?_) (fun c64_3 => ?_)
  · refine a_iconst (pc := 71) 0 33 (v := 0) rfl (by decide) ?_
    exact J72_20 _ (by exact (if_pos c64_3))
  · refine a_iconst (pc := 67) 0 31 (v := 1) rfl (by decide) ?_
    refine a_goto (pc := 68) (tgt := 72) 0 32 rfl (by decide) ?_
    exact J72_20 _ (by exact (if_neg c64_3))
theorem c_X11_abroad {S : Mem} (p1 : Int32) (p2 : Int32) (p3 : Int32)  (hb_p3 : p3 = 0 ∨ p3 = 1) (h : ok_X11_abroad S p1 p2 p3) : Cts mdX11_abroad 2 45 [vr 11 0, vi p1, vi p2, vi p3] S (Is (some (vi (f_X11_abroad S p1 p2 p3).1)) ((f_X11_abroad S p1 p2 p3).2)) := Cts.of dtX11_abroad (by decide +kernel) rfl rfl (Nat.le_of_ble_eq_true rfl) rfl (fun O G => w_X11_abroad p1 p2 p3 hb_p3 h (fun _ _ h9 => ⟨by rw [h9], by rw [h9]⟩))
def okx_X11_abroad_1 (S : Mem) (p1 : Int32) (p2 : Int32) (p3 : Int32) : Prop := ((okx_X11_needFirm_1 S p1))
abbrev fqX11_abroad_1 : FD := (mdX11_abroad, [], 8, 122, 1, 6)
set_option maxRecDepth 100000 in
set_option maxHeartbeats 4000000 in
theorem q_X11_abroad_1 {S : Mem} (p1 : Int32) (p2 : Int32) (p3 : Int32)  (hb_p3 : p3 = 0 ∨ p3 = 1) (h : okx_X11_abroad_1 S p1 p2 p3) : Cqs mdX11_abroad 8 122 [vr 11 0, vi p1, vi p2, vi p3] S xIdx := Cqs.of dtX11_abroad (by decide +kernel) rfl rfl (Nat.le_of_ble_eq_true rfl) rfl (fun O G => by
  show BW O G fqX11_abroad_1 0 0 _ S 0 _ []
  refine a_iload_n (pc := 0) 0 0 rfl rfl ?_
  have o1 := h
  refine a_callSX (pc := 1) 0 1 (q_X11_needFirm_1 (S := S) p1 o1) rfl cs_X11_226 rfl (rm rfl) ?_
  exact a_out rfl (by decide) (by decide))
def okx_X11_abroad_2 (S : Mem) (p1 : Int32) (p2 : Int32) (p3 : Int32) : Prop := ((ok_X11_needFirm S p1) ∧ (okx_X11_needRange_1 S p2 1 (nI 1000)))
abbrev fqX11_abroad_2 : FD := (mdX11_abroad, [], 8, 124, 1, 6)
set_option maxRecDepth 100000 in
set_option maxHeartbeats 4000000 in
theorem q_X11_abroad_2 {S : Mem} (p1 : Int32) (p2 : Int32) (p3 : Int32)  (hb_p3 : p3 = 0 ∨ p3 = 1) (h : okx_X11_abroad_2 S p1 p2 p3) : Cqs mdX11_abroad 8 124 [vr 11 0, vi p1, vi p2, vi p3] S xArg := Cqs.of dtX11_abroad (by decide +kernel) rfl rfl (Nat.le_of_ble_eq_true rfl) rfl (fun O G => by
  show BW O G fqX11_abroad_2 0 0 _ S 0 _ []
  refine a_iload_n (pc := 0) 0 0 rfl rfl ?_
  obtain ⟨o1, h⟩ := h
  refine a_callSv (pc := 1) 0 1 (c_X11_needFirm (S := S) p1 o1) rfl cs_X11_226 rfl (rm rfl) ?_
  refine a_iload_n (pc := 4) 0 2 rfl rfl ?_
  refine a_iconst (pc := 5) 0 3 (v := 1) rfl (by decide) ?_
  refine a_sipush (pc := 6) 0 4 (v := nI 1000) rfl (by decide) ?_
  have o2 := h
  refine a_callSX (pc := 9) 0 5 (q_X11_needRange_1 (S := S) p2 1 (nI 1000) o2) rfl cs_X11_41 rfl (rm rfl) ?_
  exact a_out rfl (by decide) (by decide))
def okx_X11_abroad_3 (S : Mem) (p1 : Int32) (p2 : Int32) (p3 : Int32) : Prop := ((ok_X11_needFirm S p1) ∧ (ok_X11_needRange S p2 1 (nI 1000)) ∧ (∀ v3 : Int32, (f_X11_share S p2 (S.1 kExchange 0) (nI 100)) = v3 → ((∀ v5 : Int32, (if (S.1 kBankOf (f_X3_holder S p1)) = (-1) then (0) else (1)) = v5 → ((okx_X11_needState S v5))))))
abbrev fqX11_abroad_3 : FD := (mdX11_abroad, [], 7, 102, 1, 6)
set_option maxRecDepth 100000 in
set_option maxHeartbeats 4000000 in
theorem q_X11_abroad_3 {S : Mem} (p1 : Int32) (p2 : Int32) (p3 : Int32)  (hb_p3 : p3 = 0 ∨ p3 = 1) (h : okx_X11_abroad_3 S p1 p2 p3) : Cqs mdX11_abroad 7 102 [vr 11 0, vi p1, vi p2, vi p3] S xSta := Cqs.of dtX11_abroad (by decide +kernel) rfl rfl (Nat.le_of_ble_eq_true rfl) rfl (fun O G => by
  show BW O G fqX11_abroad_3 0 0 _ S 0 _ []
  refine a_iload_n (pc := 0) 0 0 rfl rfl ?_
  obtain ⟨o1, h⟩ := h
  refine a_callSv (pc := 1) 0 1 (c_X11_needFirm (S := S) p1 o1) rfl cs_X11_226 rfl (rm rfl) ?_
  refine a_iload_n (pc := 4) 0 2 rfl rfl ?_
  refine a_iconst (pc := 5) 0 3 (v := 1) rfl (by decide) ?_
  refine a_sipush (pc := 6) 0 4 (v := nI 1000) rfl (by decide) ?_
  obtain ⟨o2, h⟩ := h
  refine a_callSv (pc := 9) 0 5 (c_X11_needRange (S := S) p2 1 (nI 1000) o2) rfl cs_X11_41 rfl (rm rfl) ?_
  refine a_aload_n (pc := 12) 0 6 rfl rfl ?_
  refine g_11_books (pc := 13) 0 7 rfl fl_X11_10 ?_
  refine a_iload_n (pc := 16) 0 8 rfl rfl ?_
  refine a_callVr (pc := 17) 0 9 (c_X3_holder (S := S) p1) rfl cv_X11_45 (by decide) rfl rfl rfl (rm rfl) ?_
  refine a_astore (pc := 20) 0 10 (ls2 := [some (vr 11 0), some (vi p1), some (vi p2), some (vi p3), some (vr 5 (f_X3_holder S p1)), none, none, none, none]) rfl (by decide) rfl ?_
  refine a_aload_n (pc := 22) 0 11 rfl rfl ?_
  refine g_11_books (pc := 23) 0 12 rfl fl_X11_10 ?_
  refine a_aload (pc := 26) 0 13 rfl rfl ?_
  refine g_5_bank (pc := 28) 0 14 rfl (show f_X3_holder S p1 < 17 from r_X3_holder) fl_X11_76 ?_
  refine a_callVr (pc := 31) 0 15 (c_X3_bank (S := S) (S.1 kBankOf (f_X3_holder S p1))) rfl cv_X11_79 (by decide) rfl rfl rfl (rm rfl) ?_
  refine a_astore (pc := 34) 0 16 (ls2 := [some (vr 11 0), some (vi p1), some (vi p2), some (vi p3), some (vr 5 (f_X3_holder S p1)), some (vr 0 (f_X3_bank S (S.1 kBankOf (f_X3_holder S p1)))), none, none, none]) rfl (by decide) rfl ?_
  refine a_aload_n (pc := 36) 0 17 rfl rfl ?_
  refine g_11_books (pc := 37) 0 18 rfl fl_X11_10 ?_
  refine g_3_central (pc := 40) 0 19 rfl fl_X11_146 ?_
  refine a_astore (pc := 43) 0 20 (ls2 := [some (vr 11 0), some (vi p1), some (vi p2), some (vi p3), some (vr 5 (f_X3_holder S p1)), some (vr 0 (f_X3_bank S (S.1 kBankOf (f_X3_holder S p1)))), some (vr 4 0), none, none]) rfl (by decide) rfl ?_
  refine a_iload_n (pc := 45) 0 21 rfl rfl ?_
  refine a_aload (pc := 46) 0 22 rfl rfl ?_
  refine g_4_exchangeRate (pc := 48) 0 23 rfl fl_X11_223 ?_
  refine a_bipush (pc := 51) 0 24 (v := nI 100) rfl (by decide) ?_
  refine a_callSi (pc := 53) 0 25 (c_X11_share (S := S) p2 (S.1 kExchange 0) (nI 100)) rfl cs_X11_155 rfl (rm rfl) ?_
  refine a_seti (fun v3 ev3 => ?_)
  have h := h v3 ev3
  refine a_istore (pc := 56) 0 26 (ls2 := [some (vr 11 0), some (vi p1), some (vi p2), some (vi p3), some (vr 5 (f_X3_holder S p1)), some (vr 0 (f_X3_bank S (S.1 kBankOf (f_X3_holder S p1)))), some (vr 4 0), some (vi v3), none]) rfl (by decide) rfl ?_
  refine a_aload (pc := 58) 0 27 rfl rfl ?_
  refine g_5_bank (pc := 60) 0 28 rfl (show f_X3_holder S p1 < 17 from r_X3_holder) fl_X11_76 ?_
  refine a_iconst (pc := 63) 0 29 (v := (-1)) rfl (by decide) ?_
  have J72_6 : ∀ (v5 : Int32) (ev5 : (if (S.1 kBankOf (f_X3_holder S p1)) = (-1) then (0) else (1)) = v5), BW O G fqX11_abroad_3 0 0 (QX O G S xSta) S 72 [some (vr 11 0), some (vi p1), some (vi p2), some (vi p3), some (vr 5 (f_X3_holder S p1)), some (vr 0 (f_X3_bank S (S.1 kBankOf (f_X3_holder S p1)))), some (vr 4 0), some (vi v3), none] [vi v5] := by
    intro v5 ev5
    have h := h v5 ev5
    have o6 := h
    refine a_callSX (pc := 72) 0 34 (q_X11_needState (S := S) v5 (by rw [← ev5]; repeat (first | exact Or.inl rfl | exact Or.inr rfl | assumption | split | dsimp only [lt])) o6) rfl cs_X11_66 rfl (rm rfl) ?_
    exact a_out rfl (by decide) (by decide)
  refine a_icmp_eq (pc := 64) (tgt := 71) 0 30 rfl (by decide) (fun c64_3 => ?_) (fun c64_3 => ?_)
  · refine a_iconst (pc := 71) 0 33 (v := 0) rfl (by decide) ?_
    exact J72_6 _ (by exact (if_pos c64_3))
  · refine a_iconst (pc := 67) 0 31 (v := 1) rfl (by decide) ?_
    refine a_goto (pc := 68) (tgt := 72) 0 32 rfl (by decide) ?_
    exact J72_6 _ (by exact (if_neg c64_3)))
def okx_X11_abroad_4 (S : Mem) (p1 : Int32) (p2 : Int32) (p3 : Int32) : Prop := ((ok_X11_needFirm S p1) ∧ (ok_X11_needRange S p2 1 (nI 1000)) ∧ (∀ v3 : Int32, (f_X11_share S p2 (S.1 kExchange 0) (nI 100)) = v3 → ((∀ v5 : Int32, (if (S.1 kBankOf (f_X3_holder S p1)) = (-1) then (0) else (1)) = v5 → ((ok_X11_needState S v5) ∧ (∀ v12 : Int32, (if p3 = 0 then (if (S.1 kForeign 0) < p2 then (0) else (lt (f_X5_free S (f_X3_holder S p1)) (fun (v9 : Int32) => if v9 < v3 then (0) else (if (S.1 kReserves (f_X3_bank S (S.1 kBankOf (f_X3_holder S p1)))) < v3 then (0) else (1))))) else (1)) = v12 → ((okx_X11_needState S v12))))))))
abbrev fqX11_abroad_4 : FD := (mdX11_abroad, [], 7, 102, 1, 6)
set_option maxRecDepth 100000 in
set_option maxHeartbeats 4000000 in
theorem q_X11_abroad_4 {S : Mem} (p1 : Int32) (p2 : Int32) (p3 : Int32)  (hb_p3 : p3 = 0 ∨ p3 = 1) (h : okx_X11_abroad_4 S p1 p2 p3) : Cqs mdX11_abroad 7 102 [vr 11 0, vi p1, vi p2, vi p3] S xSta := Cqs.of dtX11_abroad (by decide +kernel) rfl rfl (Nat.le_of_ble_eq_true rfl) rfl (fun O G => by
  show BW O G fqX11_abroad_4 0 0 _ S 0 _ []
  refine a_iload_n (pc := 0) 0 0 rfl rfl ?_
  obtain ⟨o1, h⟩ := h
  refine a_callSv (pc := 1) 0 1 (c_X11_needFirm (S := S) p1 o1) rfl cs_X11_226 rfl (rm rfl) ?_
  refine a_iload_n (pc := 4) 0 2 rfl rfl ?_
  refine a_iconst (pc := 5) 0 3 (v := 1) rfl (by decide) ?_
  refine a_sipush (pc := 6) 0 4 (v := nI 1000) rfl (by decide) ?_
  obtain ⟨o2, h⟩ := h
  refine a_callSv (pc := 9) 0 5 (c_X11_needRange (S := S) p2 1 (nI 1000) o2) rfl cs_X11_41 rfl (rm rfl) ?_
  refine a_aload_n (pc := 12) 0 6 rfl rfl ?_
  refine g_11_books (pc := 13) 0 7 rfl fl_X11_10 ?_
  refine a_iload_n (pc := 16) 0 8 rfl rfl ?_
  refine a_callVr (pc := 17) 0 9 (c_X3_holder (S := S) p1) rfl cv_X11_45 (by decide) rfl rfl rfl (rm rfl) ?_
  refine a_astore (pc := 20) 0 10 (ls2 := [some (vr 11 0), some (vi p1), some (vi p2), some (vi p3), some (vr 5 (f_X3_holder S p1)), none, none, none, none]) rfl (by decide) rfl ?_
  refine a_aload_n (pc := 22) 0 11 rfl rfl ?_
  refine g_11_books (pc := 23) 0 12 rfl fl_X11_10 ?_
  refine a_aload (pc := 26) 0 13 rfl rfl ?_
  refine g_5_bank (pc := 28) 0 14 rfl (show f_X3_holder S p1 < 17 from r_X3_holder) fl_X11_76 ?_
  refine a_callVr (pc := 31) 0 15 (c_X3_bank (S := S) (S.1 kBankOf (f_X3_holder S p1))) rfl cv_X11_79 (by decide) rfl rfl rfl (rm rfl) ?_
  refine a_astore (pc := 34) 0 16 (ls2 := [some (vr 11 0), some (vi p1), some (vi p2), some (vi p3), some (vr 5 (f_X3_holder S p1)), some (vr 0 (f_X3_bank S (S.1 kBankOf (f_X3_holder S p1)))), none, none, none]) rfl (by decide) rfl ?_
  refine a_aload_n (pc := 36) 0 17 rfl rfl ?_
  refine g_11_books (pc := 37) 0 18 rfl fl_X11_10 ?_
  refine g_3_central (pc := 40) 0 19 rfl fl_X11_146 ?_
  refine a_astore (pc := 43) 0 20 (ls2 := [some (vr 11 0), some (vi p1), some (vi p2), some (vi p3), some (vr 5 (f_X3_holder S p1)), some (vr 0 (f_X3_bank S (S.1 kBankOf (f_X3_holder S p1)))), some (vr 4 0), none, none]) rfl (by decide) rfl ?_
  refine a_iload_n (pc := 45) 0 21 rfl rfl ?_
  refine a_aload (pc := 46) 0 22 rfl rfl ?_
  refine g_4_exchangeRate (pc := 48) 0 23 rfl fl_X11_223 ?_
  refine a_bipush (pc := 51) 0 24 (v := nI 100) rfl (by decide) ?_
  refine a_callSi (pc := 53) 0 25 (c_X11_share (S := S) p2 (S.1 kExchange 0) (nI 100)) rfl cs_X11_155 rfl (rm rfl) ?_
  refine a_seti (fun v3 ev3 => ?_)
  have h := h v3 ev3
  refine a_istore (pc := 56) 0 26 (ls2 := [some (vr 11 0), some (vi p1), some (vi p2), some (vi p3), some (vr 5 (f_X3_holder S p1)), some (vr 0 (f_X3_bank S (S.1 kBankOf (f_X3_holder S p1)))), some (vr 4 0), some (vi v3), none]) rfl (by decide) rfl ?_
  refine a_aload (pc := 58) 0 27 rfl rfl ?_
  refine g_5_bank (pc := 60) 0 28 rfl (show f_X3_holder S p1 < 17 from r_X3_holder) fl_X11_76 ?_
  refine a_iconst (pc := 63) 0 29 (v := (-1)) rfl (by decide) ?_
  have J72_13 : ∀ (v5 : Int32) (ev5 : (if (S.1 kBankOf (f_X3_holder S p1)) = (-1) then (0) else (1)) = v5), BW O G fqX11_abroad_4 0 0 (QX O G S xSta) S 72 [some (vr 11 0), some (vi p1), some (vi p2), some (vi p3), some (vr 5 (f_X3_holder S p1)), some (vr 0 (f_X3_bank S (S.1 kBankOf (f_X3_holder S p1)))), some (vr 4 0), some (vi v3), none] [vi v5] := by
    intro v5 ev5
    have h := h v5 ev5
    obtain ⟨o6, h⟩ := h
    refine a_callSv (pc := 72) 0 34 (c_X11_needState (S := S) v5 (by rw [← ev5]; repeat (first | exact Or.inl rfl | exact Or.inr rfl | assumption | split | dsimp only [lt])) o6) rfl cs_X11_66 rfl (rm rfl) ?_
    refine a_iload_n (pc := 75) 0 35 rfl rfl ?_
    have J113_14 : ∀ (v12 : Int32) (ev12 : (if p3 = 0 then (if (S.1 kForeign 0) < p2 then (0) else (lt (f_X5_free S (f_X3_holder S p1)) (fun (v9 : Int32) => if v9 < v3 then (0) else (if (S.1 kReserves (f_X3_bank S (S.1 kBankOf (f_X3_holder S p1)))) < v3 then (0) else (1))))) else (1)) = v12), BW O G fqX11_abroad_4 0 0 (QX O G S xSta) S 113 [some (vr 11 0), some (vi p1), some (vi p2), some (vi p3), some (vr 5 (f_X3_holder S p1)), some (vr 0 (f_X3_bank S (S.1 kBankOf (f_X3_holder S p1)))), some (vr 4 0), some (vi v3), none] [vi v12] := by
      intro v12 ev12
      have h := h v12 ev12
      have o13 := h
      refine a_callSX (pc := 113) 1 4 (q_X11_needState (S := S) v12 (by rw [← ev12]; repeat (first | exact Or.inl rfl | exact Or.inr rfl | assumption | split | dsimp only [lt])) o13) rfl cs_X11_66 rfl (rm rfl) ?_
      exact a_out rfl (by decide) (by decide)
    refine a_if_ne (pc := 76) (tgt := 108) 0 36 rfl (by decide) (fun c76_6 => ?_) (fun c76_6 => ?_)
    · refine a_iconst (pc := 108) 1 1 (v := 1) rfl (by decide) ?_
      refine a_goto (pc := 109) (tgt := 113) 1 2 rfl (by decide) ?_
      exact J113_14 _ (by exact (if_neg c76_6))
    · refine a_aload (pc := 79) 0 37 rfl rfl ?_
      refine g_4_foreignMoney (pc := 81) 0 38 rfl fl_X11_229 ?_
      refine a_iload_n (pc := 84) 0 39 rfl rfl ?_
      refine a_icmp_lt (pc := 85) (tgt := 112) 0 40 rfl (by decide) (fun c85_7 => ?_) (fun c85_7 => ?_)
      · refine a_iconst (pc := 112) 1 3 (v := 0) rfl (by decide) ?_
        exact J113_14 _ (by exact ((if_pos c76_6).trans (if_pos c85_7)))
      · refine a_aload (pc := 88) 0 41 rfl rfl ?_
        refine a_callVi (pc := 90) 0 42 (c_X5_free (S := S) (f_X3_holder S p1) (show f_X3_holder S p1 < 17 from r_X3_holder)) rfl cv_X11_104 (show f_X3_holder S p1 < 17 from r_X3_holder) rfl rfl rfl (rm rfl) ?_
        refine a_seti (fun v9 ev9 => ?_)
        refine a_iload (pc := 93) 0 43 rfl rfl ?_
        refine a_icmp_lt (pc := 95) (tgt := 112) 0 44 rfl (by decide) (fun c95_9 => ?_) (fun c95_9 => ?_)
        · refine a_iconst (pc := 112) 1 3 (v := 0) rfl (by decide) ?_
          exact J113_14 _ (by exact ((if_pos c76_6).trans ((if_neg c85_7).trans ((lt_eq ev9).trans (if_pos c95_9)))))
        · refine a_aload (pc := 98) 0 45 rfl rfl ?_
          refine g_0_reserves (pc := 100) 0 46 rfl (show f_X3_bank S (S.1 kBankOf (f_X3_holder S p1)) < 5 from r_X3_bank) fl_X11_133 ?_
          refine a_iload (pc := 103) 0 47 rfl rfl ?_
          refine a_icmp_lt (pc := 105) (tgt := 112) 1 0 rfl (by decide) (fun c105_10 => ?_) (fun c105_10 => ?_)
          · refine a_iconst (pc := 112) 1 3 (v := 0) rfl (by decide) ?_
            exact J113_14 _ (by exact ((if_pos c76_6).trans ((if_neg c85_7).trans ((lt_eq ev9).trans ((if_neg c95_9).trans (if_pos c105_10))))))
          · refine a_iconst (pc := 108) 1 1 (v := 1) rfl (by decide) ?_
            refine a_goto (pc := 109) (tgt := 113) 1 2 rfl (by decide) ?_
            exact J113_14 _ (by exact ((if_pos c76_6).trans ((if_neg c85_7).trans ((lt_eq ev9).trans ((if_neg c95_9).trans (if_neg c105_10))))))
  refine a_icmp_eq (pc := 64) (tgt := 71) 0 30 rfl (by decide) (fun c64_3 => ?_) (fun c64_3 => ?_)
  · refine a_iconst (pc := 71) 0 33 (v := 0) rfl (by decide) ?_
    exact J72_13 _ (by exact (if_pos c64_3))
  · refine a_iconst (pc := 67) 0 31 (v := 1) rfl (by decide) ?_
    refine a_goto (pc := 68) (tgt := 72) 0 32 rfl (by decide) ?_
    exact J72_13 _ (by exact (if_neg c64_3)))
def f_X11_hire (S : Mem) (p1 : Int32) (p2 : Int32) (p3 : Int32) : Int32 × Mem := lt ((upd2 S.1 kFirms (f_X3_holder S p1) p2, S.2)) (fun (S4 : Mem) => lt ((upd2 S4.1 kWages (f_X3_holder S p1) p3, S4.2)) (fun (S5 : Mem) => (S.1 kWages (f_X3_holder S p1), S5)))
def ok_X11_hire (S : Mem) (p1 : Int32) (p2 : Int32) (p3 : Int32) : Prop := ((ok_X11_needHousehold S p1) ∧ (ok_X11_needFirm S p2) ∧ (ok_X11_needRange S p3 1 (nI 1000)))
abbrev fdX11_hire : FD := (mdX11_hire, [], 2, 42, 0, 0)
set_option maxRecDepth 100000 in
set_option maxHeartbeats 4000000 in
theorem w_X11_hire {O : Om} {G : Cx} {S : Mem} {PP : Option AV → Mem → Prop} (p1 : Int32) (p2 : Int32) (p3 : Int32)   (h : ok_X11_hire S p1 p2 p3) (hP : ∀ x9 S9, f_X11_hire S p1 p2 p3 = (x9, S9) → PP (some (vi x9)) S9) : BW O G fdX11_hire 0 0 (QV O G 0 0 PP) S 0 [some (vr 11 0), some (vi p1), some (vi p2), some (vi p3), none, none] [] := by
  refine a_iload_n (pc := 0) 0 0 rfl rfl ?_
  obtain ⟨o1, h⟩ := h
  refine a_callSv (pc := 1) 0 1 (c_X11_needHousehold (S := S) p1 o1) rfl cs_X11_235 rfl (rm rfl) ?_
  refine a_iload_n (pc := 4) 0 2 rfl rfl ?_
  obtain ⟨o2, h⟩ := h
  refine a_callSv (pc := 5) 0 3 (c_X11_needFirm (S := S) p2 o2) rfl cs_X11_226 rfl (rm rfl) ?_
  refine a_iload_n (pc := 8) 0 4 rfl rfl ?_
  refine a_iconst (pc := 9) 0 5 (v := 1) rfl (by decide) ?_
  refine a_sipush (pc := 10) 0 6 (v := nI 1000) rfl (by decide) ?_
  have o3 := h
  refine a_callSv (pc := 13) 0 7 (c_X11_needRange (S := S) p3 1 (nI 1000) o3) rfl cs_X11_41 rfl (rm rfl) ?_
  refine a_aload_n (pc := 16) 0 8 rfl rfl ?_
  refine g_11_books (pc := 17) 0 9 rfl fl_X11_10 ?_
  refine a_iload_n (pc := 20) 0 10 rfl rfl ?_
  refine a_callVr (pc := 21) 0 11 (c_X3_holder (S := S) p1) rfl cv_X11_45 (by decide) rfl rfl rfl (rm rfl) ?_
  refine a_astore (pc := 24) 0 12 (ls2 := [some (vr 11 0), some (vi p1), some (vi p2), some (vi p3), some (vr 5 (f_X3_holder S p1)), none]) rfl (by decide) rfl ?_
  refine a_aload (pc := 26) 0 13 rfl rfl ?_
  refine g_5_wage (pc := 28) 0 14 rfl (show f_X3_holder S p1 < 17 from r_X3_holder) fl_X11_238 ?_
  refine a_istore (pc := 31) 0 15 (ls2 := [some (vr 11 0), some (vi p1), some (vi p2), some (vi p3), some (vr 5 (f_X3_holder S p1)), some (vi (S.1 kWages (f_X3_holder S p1)))]) rfl (by decide) rfl ?_
  refine a_aload (pc := 33) 0 16 rfl rfl ?_
  refine a_iload_n (pc := 35) 0 17 rfl rfl ?_
  refine p_5_firm (pc := 36) 0 18 rfl (show f_X3_holder S p1 < 17 from r_X3_holder) fl_X11_241 ?_
  refine a_set (fun S4 eS4 => ?_)
  refine a_aload (pc := 39) 0 19 rfl rfl ?_
  refine a_iload_n (pc := 41) 0 20 rfl rfl ?_
  refine p_5_wage (pc := 42) 0 21 rfl (show f_X3_holder S p1 < 17 from r_X3_holder) fl_X11_238 ?_
  refine a_set (fun S5 eS5 => ?_)
  refine a_iload (pc := 45) 0 22 rfl rfl ?_
  exact a_iret (pc := 47) 0 23 rfl rfl (hP _ _ (by unfold f_X11_hire; exact (lt_eq eS4).trans (lt_eq eS5)))
theorem c_X11_hire {S : Mem} (p1 : Int32) (p2 : Int32) (p3 : Int32)   (h : ok_X11_hire S p1 p2 p3) : Cts mdX11_hire 2 42 [vr 11 0, vi p1, vi p2, vi p3] S (Is (some (vi (f_X11_hire S p1 p2 p3).1)) ((f_X11_hire S p1 p2 p3).2)) := Cts.of dtX11_hire (by decide +kernel) rfl rfl (Nat.le_of_ble_eq_true rfl) rfl (fun O G => w_X11_hire p1 p2 p3 h (fun _ _ h9 => ⟨by rw [h9], by rw [h9]⟩))
def okx_X11_hire_1 (S : Mem) (p1 : Int32) (p2 : Int32) (p3 : Int32) : Prop := ((okx_X11_needHousehold_1 S p1))
abbrev fqX11_hire_1 : FD := (mdX11_hire, [], 8, 122, 1, 6)
set_option maxRecDepth 100000 in
set_option maxHeartbeats 4000000 in
theorem q_X11_hire_1 {S : Mem} (p1 : Int32) (p2 : Int32) (p3 : Int32)  (h : okx_X11_hire_1 S p1 p2 p3) : Cqs mdX11_hire 8 122 [vr 11 0, vi p1, vi p2, vi p3] S xIdx := Cqs.of dtX11_hire (by decide +kernel) rfl rfl (Nat.le_of_ble_eq_true rfl) rfl (fun O G => by
  show BW O G fqX11_hire_1 0 0 _ S 0 _ []
  refine a_iload_n (pc := 0) 0 0 rfl rfl ?_
  have o1 := h
  refine a_callSX (pc := 1) 0 1 (q_X11_needHousehold_1 (S := S) p1 o1) rfl cs_X11_235 rfl (rm rfl) ?_
  exact a_out rfl (by decide) (by decide))
def okx_X11_hire_2 (S : Mem) (p1 : Int32) (p2 : Int32) (p3 : Int32) : Prop := ((ok_X11_needHousehold S p1) ∧ (okx_X11_needFirm_1 S p2))
abbrev fqX11_hire_2 : FD := (mdX11_hire, [], 8, 122, 1, 6)
set_option maxRecDepth 100000 in
set_option maxHeartbeats 4000000 in
theorem q_X11_hire_2 {S : Mem} (p1 : Int32) (p2 : Int32) (p3 : Int32)  (h : okx_X11_hire_2 S p1 p2 p3) : Cqs mdX11_hire 8 122 [vr 11 0, vi p1, vi p2, vi p3] S xIdx := Cqs.of dtX11_hire (by decide +kernel) rfl rfl (Nat.le_of_ble_eq_true rfl) rfl (fun O G => by
  show BW O G fqX11_hire_2 0 0 _ S 0 _ []
  refine a_iload_n (pc := 0) 0 0 rfl rfl ?_
  obtain ⟨o1, h⟩ := h
  refine a_callSv (pc := 1) 0 1 (c_X11_needHousehold (S := S) p1 o1) rfl cs_X11_235 rfl (rm rfl) ?_
  refine a_iload_n (pc := 4) 0 2 rfl rfl ?_
  have o2 := h
  refine a_callSX (pc := 5) 0 3 (q_X11_needFirm_1 (S := S) p2 o2) rfl cs_X11_226 rfl (rm rfl) ?_
  exact a_out rfl (by decide) (by decide))
def okx_X11_hire_3 (S : Mem) (p1 : Int32) (p2 : Int32) (p3 : Int32) : Prop := ((ok_X11_needHousehold S p1) ∧ (ok_X11_needFirm S p2) ∧ (okx_X11_needRange_1 S p3 1 (nI 1000)))
abbrev fqX11_hire_3 : FD := (mdX11_hire, [], 8, 124, 1, 6)
set_option maxRecDepth 100000 in
set_option maxHeartbeats 4000000 in
theorem q_X11_hire_3 {S : Mem} (p1 : Int32) (p2 : Int32) (p3 : Int32)  (h : okx_X11_hire_3 S p1 p2 p3) : Cqs mdX11_hire 8 124 [vr 11 0, vi p1, vi p2, vi p3] S xArg := Cqs.of dtX11_hire (by decide +kernel) rfl rfl (Nat.le_of_ble_eq_true rfl) rfl (fun O G => by
  show BW O G fqX11_hire_3 0 0 _ S 0 _ []
  refine a_iload_n (pc := 0) 0 0 rfl rfl ?_
  obtain ⟨o1, h⟩ := h
  refine a_callSv (pc := 1) 0 1 (c_X11_needHousehold (S := S) p1 o1) rfl cs_X11_235 rfl (rm rfl) ?_
  refine a_iload_n (pc := 4) 0 2 rfl rfl ?_
  obtain ⟨o2, h⟩ := h
  refine a_callSv (pc := 5) 0 3 (c_X11_needFirm (S := S) p2 o2) rfl cs_X11_226 rfl (rm rfl) ?_
  refine a_iload_n (pc := 8) 0 4 rfl rfl ?_
  refine a_iconst (pc := 9) 0 5 (v := 1) rfl (by decide) ?_
  refine a_sipush (pc := 10) 0 6 (v := nI 1000) rfl (by decide) ?_
  have o3 := h
  refine a_callSX (pc := 13) 0 7 (q_X11_needRange_1 (S := S) p3 1 (nI 1000) o3) rfl cs_X11_41 rfl (rm rfl) ?_
  exact a_out rfl (by decide) (by decide))
def f_X11_buy (S : Mem) (p1 : Int32) (p2 : Int32) (p3 : Int32) : Int32 × Mem := lt (f_X11_canPay S p1 p2 ((S.1 kPrices (f_X3_holder S p2)) * p3)) (fun (v4 : Int32) => lt ((upd2 S.1 kBought (f_X3_holder S p2) ((S.1 kBought (f_X3_holder S p2)) + p3), S.2)) (fun (S6 : Mem) => lt ((f_X10_tell S6 p1 p2 ((S.1 kPrices (f_X3_holder S p2)) * p3) (S6.1 kDays 0) (S6.1 kDays 0)).2) (fun (S8 : Mem) => lt ((f_X10_tell S6 p1 p2 ((S.1 kPrices (f_X3_holder S p2)) * p3) (S6.1 kDays 0) (S6.1 kDays 0)).1) (fun (v9 : Int32) => (v9, S8)))))
def ok_X11_buy (S : Mem) (p1 : Int32) (p2 : Int32) (p3 : Int32) : Prop := ((ok_X11_needHousehold S p1) ∧ (ok_X11_needFirm S p2) ∧ (ok_X11_needRange S p3 1 (nI 20)) ∧ (∀ v4 : Int32, (f_X11_canPay S p1 p2 ((S.1 kPrices (f_X3_holder S p2)) * p3)) = v4 → ((ok_X11_needState S v4) ∧ (∀ S6 : Mem, ((upd2 S.1 kBought (f_X3_holder S p2) ((S.1 kBought (f_X3_holder S p2)) + p3), S.2)) = S6 → ((ok_X10_tell S6 p1 p2 ((S.1 kPrices (f_X3_holder S p2)) * p3) (S6.1 kDays 0) (S6.1 kDays 0)))))))
abbrev fdX11_buy : FD := (mdX11_buy, [], 4, 96, 0, 0)
set_option maxRecDepth 100000 in
set_option maxHeartbeats 4000000 in
theorem w_X11_buy {O : Om} {G : Cx} {S : Mem} {PP : Option AV → Mem → Prop} (p1 : Int32) (p2 : Int32) (p3 : Int32)   (h : ok_X11_buy S p1 p2 p3) (hP : ∀ x9 S9, f_X11_buy S p1 p2 p3 = (x9, S9) → PP (some (vi x9)) S9) : BW O G fdX11_buy 0 0 (QV O G 0 0 PP) S 0 [some (vr 11 0), some (vi p1), some (vi p2), some (vi p3), none, none] [] := by
  refine a_iload_n (pc := 0) 0 0 rfl rfl ?_
  obtain ⟨o1, h⟩ := h
  refine a_callSv (pc := 1) 0 1 (c_X11_needHousehold (S := S) p1 o1) rfl cs_X11_235 rfl (rm rfl) ?_
  refine a_iload_n (pc := 4) 0 2 rfl rfl ?_
  obtain ⟨o2, h⟩ := h
  refine a_callSv (pc := 5) 0 3 (c_X11_needFirm (S := S) p2 o2) rfl cs_X11_226 rfl (rm rfl) ?_
  refine a_iload_n (pc := 8) 0 4 rfl rfl ?_
  refine a_iconst (pc := 9) 0 5 (v := 1) rfl (by decide) ?_
  refine a_bipush (pc := 10) 0 6 (v := nI 20) rfl (by decide) ?_
  obtain ⟨o3, h⟩ := h
  refine a_callSv (pc := 12) 0 7 (c_X11_needRange (S := S) p3 1 (nI 20) o3) rfl cs_X11_41 rfl (rm rfl) ?_
  refine a_aload_n (pc := 15) 0 8 rfl rfl ?_
  refine g_11_books (pc := 16) 0 9 rfl fl_X11_10 ?_
  refine a_iload_n (pc := 19) 0 10 rfl rfl ?_
  refine a_callVr (pc := 20) 0 11 (c_X3_holder (S := S) p2) rfl cv_X11_45 (by decide) rfl rfl rfl (rm rfl) ?_
  refine a_astore (pc := 23) 0 12 (ls2 := [some (vr 11 0), some (vi p1), some (vi p2), some (vi p3), some (vr 5 (f_X3_holder S p2)), none]) rfl (by decide) rfl ?_
  refine a_aload (pc := 25) 0 13 rfl rfl ?_
  refine g_5_price (pc := 27) 0 14 rfl (show f_X3_holder S p2 < 17 from r_X3_holder) fl_X11_244 ?_
  refine a_iload_n (pc := 30) 0 15 rfl rfl ?_
  refine a_imul (pc := 31) 0 16 rfl ?_
  refine a_istore (pc := 32) 0 17 (ls2 := [some (vr 11 0), some (vi p1), some (vi p2), some (vi p3), some (vr 5 (f_X3_holder S p2)), some (vi ((S.1 kPrices (f_X3_holder S p2)) * p3))]) rfl (by decide) rfl ?_
  refine a_aload_n (pc := 34) 0 18 rfl rfl ?_
  refine a_iload_n (pc := 35) 0 19 rfl rfl ?_
  refine a_iload_n (pc := 36) 0 20 rfl rfl ?_
  refine a_iload (pc := 37) 0 21 rfl rfl ?_
  refine a_callVi (pc := 39) 0 22 (c_X11_canPay (S := S) p1 p2 ((S.1 kPrices (f_X3_holder S p2)) * p3)) rfl cv_X11_115 (by decide) rfl rfl rfl (rm rfl) ?_
  refine a_seti (fun v4 ev4 => ?_)
  have h := h v4 ev4
  obtain ⟨o5, h⟩ := h
  refine a_callSv (pc := 42) 0 23 (c_X11_needState (S := S) v4 (ev4 ▸ b_X11_canPay ..) o5) rfl cs_X11_66 rfl (rm rfl) ?_
  refine a_aload (pc := 45) 0 24 rfl rfl ?_
  refine a_dup (pc := 47) 0 25 rfl rfl ?_
  refine g_5_sold (pc := 48) 0 26 rfl (show f_X3_holder S p2 < 17 from r_X3_holder) fl_X11_247 ?_
  refine a_iload_n (pc := 51) 0 27 rfl rfl ?_
  refine a_iadd (pc := 52) 0 28 rfl ?_
  refine p_5_sold (pc := 53) 0 29 rfl (show f_X3_holder S p2 < 17 from r_X3_holder) fl_X11_247 ?_
  refine a_set (fun S6 eS6 => ?_)
  have h := h S6 eS6
  refine a_aload_n (pc := 56) 0 30 rfl rfl ?_
  refine g_11_payments (pc := 57) 0 31 rfl fl_X11_19 ?_
  refine a_aload_n (pc := 60) 0 32 rfl rfl ?_
  refine g_11_books (pc := 61) 0 33 rfl fl_X11_10 ?_
  refine a_iload_n (pc := 64) 0 34 rfl rfl ?_
  refine a_iload_n (pc := 65) 0 35 rfl rfl ?_
  refine a_iload (pc := 66) 0 36 rfl rfl ?_
  refine a_aload_n (pc := 68) 0 37 rfl rfl ?_
  refine g_11_today (pc := 69) 0 38 rfl fl_X11_119 ?_
  refine a_aload_n (pc := 72) 0 39 rfl rfl ?_
  refine g_11_today (pc := 73) 0 40 rfl fl_X11_119 ?_
  have o7 := h
  refine a_callVi (pc := 76) 0 41 (c_X10_tell (S := S6) p1 p2 ((S.1 kPrices (f_X3_holder S p2)) * p3) (S6.1 kDays 0) (S6.1 kDays 0) o7) rfl cv_X11_122 (by decide) rfl rfl rfl (rm rfl) ?_
  refine a_set (fun S8 eS8 => ?_)
  refine a_seti (fun v9 ev9 => ?_)
  exact a_iret (pc := 79) 0 42 rfl rfl (hP _ _ (by unfold f_X11_buy; exact (lt_eq ev4).trans ((lt_eq eS6).trans ((lt_eq eS8).trans (lt_eq ev9)))))
theorem c_X11_buy {S : Mem} (p1 : Int32) (p2 : Int32) (p3 : Int32)   (h : ok_X11_buy S p1 p2 p3) : Cts mdX11_buy 4 96 [vr 11 0, vi p1, vi p2, vi p3] S (Is (some (vi (f_X11_buy S p1 p2 p3).1)) ((f_X11_buy S p1 p2 p3).2)) := Cts.of dtX11_buy (by decide +kernel) rfl rfl (Nat.le_of_ble_eq_true rfl) rfl (fun O G => w_X11_buy p1 p2 p3 h (fun _ _ h9 => ⟨by rw [h9], by rw [h9]⟩))
def okx_X11_buy_1 (S : Mem) (p1 : Int32) (p2 : Int32) (p3 : Int32) : Prop := ((okx_X11_needHousehold_1 S p1))
abbrev fqX11_buy_1 : FD := (mdX11_buy, [], 8, 122, 1, 6)
set_option maxRecDepth 100000 in
set_option maxHeartbeats 4000000 in
theorem q_X11_buy_1 {S : Mem} (p1 : Int32) (p2 : Int32) (p3 : Int32)  (h : okx_X11_buy_1 S p1 p2 p3) : Cqs mdX11_buy 8 122 [vr 11 0, vi p1, vi p2, vi p3] S xIdx := Cqs.of dtX11_buy (by decide +kernel) rfl rfl (Nat.le_of_ble_eq_true rfl) rfl (fun O G => by
  show BW O G fqX11_buy_1 0 0 _ S 0 _ []
  refine a_iload_n (pc := 0) 0 0 rfl rfl ?_
  have o1 := h
  refine a_callSX (pc := 1) 0 1 (q_X11_needHousehold_1 (S := S) p1 o1) rfl cs_X11_235 rfl (rm rfl) ?_
  exact a_out rfl (by decide) (by decide))
def okx_X11_buy_2 (S : Mem) (p1 : Int32) (p2 : Int32) (p3 : Int32) : Prop := ((ok_X11_needHousehold S p1) ∧ (okx_X11_needFirm_1 S p2))
abbrev fqX11_buy_2 : FD := (mdX11_buy, [], 8, 122, 1, 6)
set_option maxRecDepth 100000 in
set_option maxHeartbeats 4000000 in
theorem q_X11_buy_2 {S : Mem} (p1 : Int32) (p2 : Int32) (p3 : Int32)  (h : okx_X11_buy_2 S p1 p2 p3) : Cqs mdX11_buy 8 122 [vr 11 0, vi p1, vi p2, vi p3] S xIdx := Cqs.of dtX11_buy (by decide +kernel) rfl rfl (Nat.le_of_ble_eq_true rfl) rfl (fun O G => by
  show BW O G fqX11_buy_2 0 0 _ S 0 _ []
  refine a_iload_n (pc := 0) 0 0 rfl rfl ?_
  obtain ⟨o1, h⟩ := h
  refine a_callSv (pc := 1) 0 1 (c_X11_needHousehold (S := S) p1 o1) rfl cs_X11_235 rfl (rm rfl) ?_
  refine a_iload_n (pc := 4) 0 2 rfl rfl ?_
  have o2 := h
  refine a_callSX (pc := 5) 0 3 (q_X11_needFirm_1 (S := S) p2 o2) rfl cs_X11_226 rfl (rm rfl) ?_
  exact a_out rfl (by decide) (by decide))
def okx_X11_buy_3 (S : Mem) (p1 : Int32) (p2 : Int32) (p3 : Int32) : Prop := ((ok_X11_needHousehold S p1) ∧ (ok_X11_needFirm S p2) ∧ (okx_X11_needRange_1 S p3 1 (nI 20)))
abbrev fqX11_buy_3 : FD := (mdX11_buy, [], 8, 124, 1, 6)
set_option maxRecDepth 100000 in
set_option maxHeartbeats 4000000 in
theorem q_X11_buy_3 {S : Mem} (p1 : Int32) (p2 : Int32) (p3 : Int32)  (h : okx_X11_buy_3 S p1 p2 p3) : Cqs mdX11_buy 8 124 [vr 11 0, vi p1, vi p2, vi p3] S xArg := Cqs.of dtX11_buy (by decide +kernel) rfl rfl (Nat.le_of_ble_eq_true rfl) rfl (fun O G => by
  show BW O G fqX11_buy_3 0 0 _ S 0 _ []
  refine a_iload_n (pc := 0) 0 0 rfl rfl ?_
  obtain ⟨o1, h⟩ := h
  refine a_callSv (pc := 1) 0 1 (c_X11_needHousehold (S := S) p1 o1) rfl cs_X11_235 rfl (rm rfl) ?_
  refine a_iload_n (pc := 4) 0 2 rfl rfl ?_
  obtain ⟨o2, h⟩ := h
  refine a_callSv (pc := 5) 0 3 (c_X11_needFirm (S := S) p2 o2) rfl cs_X11_226 rfl (rm rfl) ?_
  refine a_iload_n (pc := 8) 0 4 rfl rfl ?_
  refine a_iconst (pc := 9) 0 5 (v := 1) rfl (by decide) ?_
  refine a_bipush (pc := 10) 0 6 (v := nI 20) rfl (by decide) ?_
  have o3 := h
  refine a_callSX (pc := 12) 0 7 (q_X11_needRange_1 (S := S) p3 1 (nI 20) o3) rfl cs_X11_41 rfl (rm rfl) ?_
  exact a_out rfl (by decide) (by decide))
def okx_X11_buy_4 (S : Mem) (p1 : Int32) (p2 : Int32) (p3 : Int32) : Prop := ((ok_X11_needHousehold S p1) ∧ (ok_X11_needFirm S p2) ∧ (ok_X11_needRange S p3 1 (nI 20)) ∧ (∀ v4 : Int32, (f_X11_canPay S p1 p2 ((S.1 kPrices (f_X3_holder S p2)) * p3)) = v4 → ((okx_X11_needState S v4))))
abbrev fqX11_buy_4 : FD := (mdX11_buy, [], 7, 102, 1, 6)
set_option maxRecDepth 100000 in
set_option maxHeartbeats 4000000 in
theorem q_X11_buy_4 {S : Mem} (p1 : Int32) (p2 : Int32) (p3 : Int32)  (h : okx_X11_buy_4 S p1 p2 p3) : Cqs mdX11_buy 7 102 [vr 11 0, vi p1, vi p2, vi p3] S xSta := Cqs.of dtX11_buy (by decide +kernel) rfl rfl (Nat.le_of_ble_eq_true rfl) rfl (fun O G => by
  show BW O G fqX11_buy_4 0 0 _ S 0 _ []
  refine a_iload_n (pc := 0) 0 0 rfl rfl ?_
  obtain ⟨o1, h⟩ := h
  refine a_callSv (pc := 1) 0 1 (c_X11_needHousehold (S := S) p1 o1) rfl cs_X11_235 rfl (rm rfl) ?_
  refine a_iload_n (pc := 4) 0 2 rfl rfl ?_
  obtain ⟨o2, h⟩ := h
  refine a_callSv (pc := 5) 0 3 (c_X11_needFirm (S := S) p2 o2) rfl cs_X11_226 rfl (rm rfl) ?_
  refine a_iload_n (pc := 8) 0 4 rfl rfl ?_
  refine a_iconst (pc := 9) 0 5 (v := 1) rfl (by decide) ?_
  refine a_bipush (pc := 10) 0 6 (v := nI 20) rfl (by decide) ?_
  obtain ⟨o3, h⟩ := h
  refine a_callSv (pc := 12) 0 7 (c_X11_needRange (S := S) p3 1 (nI 20) o3) rfl cs_X11_41 rfl (rm rfl) ?_
  refine a_aload_n (pc := 15) 0 8 rfl rfl ?_
  refine g_11_books (pc := 16) 0 9 rfl fl_X11_10 ?_
  refine a_iload_n (pc := 19) 0 10 rfl rfl ?_
  refine a_callVr (pc := 20) 0 11 (c_X3_holder (S := S) p2) rfl cv_X11_45 (by decide) rfl rfl rfl (rm rfl) ?_
  refine a_astore (pc := 23) 0 12 (ls2 := [some (vr 11 0), some (vi p1), some (vi p2), some (vi p3), some (vr 5 (f_X3_holder S p2)), none]) rfl (by decide) rfl ?_
  refine a_aload (pc := 25) 0 13 rfl rfl ?_
  refine g_5_price (pc := 27) 0 14 rfl (show f_X3_holder S p2 < 17 from r_X3_holder) fl_X11_244 ?_
  refine a_iload_n (pc := 30) 0 15 rfl rfl ?_
  refine a_imul (pc := 31) 0 16 rfl ?_
  refine a_istore (pc := 32) 0 17 (ls2 := [some (vr 11 0), some (vi p1), some (vi p2), some (vi p3), some (vr 5 (f_X3_holder S p2)), some (vi ((S.1 kPrices (f_X3_holder S p2)) * p3))]) rfl (by decide) rfl ?_
  refine a_aload_n (pc := 34) 0 18 rfl rfl ?_
  refine a_iload_n (pc := 35) 0 19 rfl rfl ?_
  refine a_iload_n (pc := 36) 0 20 rfl rfl ?_
  refine a_iload (pc := 37) 0 21 rfl rfl ?_
  refine a_callVi (pc := 39) 0 22 (c_X11_canPay (S := S) p1 p2 ((S.1 kPrices (f_X3_holder S p2)) * p3)) rfl cv_X11_115 (by decide) rfl rfl rfl (rm rfl) ?_
  refine a_seti (fun v4 ev4 => ?_)
  have h := h v4 ev4
  have o5 := h
  refine a_callSX (pc := 42) 0 23 (q_X11_needState (S := S) v4 (ev4 ▸ b_X11_canPay ..) o5) rfl cs_X11_66 rfl (rm rfl) ?_
  exact a_out rfl (by decide) (by decide))
def b28_X11_day  (j5 : Nat) (σ6 : Mem) : Mem := lt (f_X11_passDay σ6 ) (fun (S9 : Mem) => S9)
def f_X11_day (S : Mem) (p1 : Int32) : Int32 × Mem := lt (if ((nI 200) - p1) < (S.1 kDays 0) then (0) else (1)) (fun (v3 : Int32) => lt (iter (b28_X11_day) S (ix p1)) (fun (σ6 : Mem) => lt (f_X3_banksThatStand σ6 ) (fun (v10 : Int32) => (v10, σ6))))
def ok_X11_day (S : Mem) (p1 : Int32) : Prop := ((ok_X11_needRange S p1 1 (nI 5)) ∧ (∀ v3 : Int32, (if ((nI 200) - p1) < (S.1 kDays 0) then (0) else (1)) = v3 → ((ok_X11_needState S v3) ∧ (∀ j5 : Nat, j5 ≤ ix p1 → ∀ σ6 : Mem, iter (b28_X11_day) S j5 = σ6 → p1 = nI (ix p1)) ∧ (∀ j5 : Nat, j5 < ix p1 → ∀ σ6 : Mem, iter (b28_X11_day) S j5 = σ6 → ((ok_X11_passDay σ6 ))))))
abbrev fdX11_day : FD := (mdX11_day, [], 6, 147, 0, 0)
set_option maxRecDepth 100000 in
set_option maxHeartbeats 4000000 in
theorem w_X11_day {O : Om} {G : Cx} {S : Mem} {PP : Option AV → Mem → Prop} (p1 : Int32)   (h : ok_X11_day S p1) (hP : ∀ x9 S9, f_X11_day S p1 = (x9, S9) → PP (some (vi x9)) S9) : BW O G fdX11_day 0 0 (QV O G 0 0 PP) S 0 [some (vr 11 0), some (vi p1), none] [] := by
  refine a_iload_n (pc := 0) 0 0 rfl rfl ?_
  refine a_iconst (pc := 1) 0 1 (v := 1) rfl (by decide) ?_
  refine a_iconst (pc := 2) 0 2 (v := nI 5) rfl (by decide) ?_
  obtain ⟨o1, h⟩ := h
  refine a_callSv (pc := 3) 0 3 (c_X11_needRange (S := S) p1 1 (nI 5) o1) rfl cs_X11_41 rfl (rm rfl) ?_
  refine a_aload_n (pc := 6) 0 4 rfl rfl ?_
  refine g_11_today (pc := 7) 0 5 rfl fl_X11_119 ?_
  refine a_sipush (pc := 10) 0 6 (v := nI 200) rfl (by decide) ?_
  refine a_iload_n (pc := 13) 0 7 rfl rfl ?_
  refine a_isub (pc := 14) 0 8 rfl ?_
  have J23_10 : ∀ (v3 : Int32) (ev3 : (if ((nI 200) - p1) < (S.1 kDays 0) then (0) else (1)) = v3), BW O G fdX11_day 0 0 (QV O G 0 0 PP) S 23 [some (vr 11 0), some (vi p1), none] [vi v3] := by
    intro v3 ev3
    have h := h v3 ev3
    obtain ⟨o4, h⟩ := h
    refine a_callSv (pc := 23) 0 13 (c_X11_needState (S := S) v3 (by rw [← ev3]; repeat (first | exact Or.inl rfl | exact Or.inr rfl | assumption | split | dsimp only [lt])) o4) rfl cs_X11_66 rfl (rm rfl) ?_
    refine a_iconst (pc := 26) 0 14 (v := 0) rfl (by decide) ?_
    refine a_istore_n (pc := 27) 0 15 (ls2 := [some (vr 11 0), some (vi p1), some (vi 0)]) rfl rfl (by decide) rfl ?_
    obtain ⟨o7, hb_j5⟩ := h
    have nlt_j5 := ix_lt p1
    have L28_11 : ∀ (m_j5 j5 : Nat), j5 + m_j5 = ix p1 → ∀ (σ6 : Mem), iter (b28_X11_day) S j5 = σ6 → BW O G fdX11_day 0 0 (QV O G 0 0 PP) σ6 28 [some (vr 11 0), some (vi p1), some (vi (nI j5))] [] := by
      intro m_j5
      induction m_j5 with
      | zero =>
        intro j5 hj_j5 σ6 eσ6
        have o7 := o7 j5 (by omega) σ6 eσ6
        have hn_j5 : j5 = ix p1 := by omega
        rw [hn_j5] at eσ6
        refine a_iload_n (pc := 28) 0 16 rfl rfl ?_
        refine a_iload_n (pc := 29) 0 17 rfl rfl ?_
        refine a_icmp_ge_t (pc := 30) (tgt := 43) 0 18 rfl (by decide) (bd_t (o7) (by omega)) ?_
        refine a_aload_n (pc := 43) 0 23 rfl rfl ?_
        refine g_11_books (pc := 44) 0 24 rfl fl_X11_10 ?_
        refine a_callVi (pc := 47) 0 25 (c_X3_banksThatStand (S := σ6) ) rfl cv_X11_253 (by decide) rfl rfl rfl (rm rfl) ?_
        refine a_seti (fun v10 ev10 => ?_)
        exact a_iret (pc := 50) 0 26 rfl rfl (hP _ _ (by unfold f_X11_day; exact (lt_eq ev3).trans ((lt_eq eσ6).trans (lt_eq ev10))))
      | succ m_j5 ih_j5 =>
        intro j5 hj_j5 σ6 eσ6
        have o7 := o7 j5 (by omega) σ6 eσ6
        have h := hb_j5 j5 (by omega) σ6 eσ6
        refine a_iload_n (pc := 28) 0 16 rfl rfl ?_
        refine a_iload_n (pc := 29) 0 17 rfl rfl ?_
        refine a_icmp_ge_f (pc := 30) (tgt := 43) 0 18 rfl (bd_f (o7) (by omega)) (by decide) ?_
        refine a_aload_n (pc := 33) 0 19 rfl rfl ?_
        have o8 := h
        refine a_callVv (pc := 34) 0 20 (c_X11_passDay (S := σ6)  o8) rfl cv_X11_250 (by decide) rfl rfl rfl (rm rfl) ?_
        refine a_set (fun S9 eS9 => ?_)
        refine a_iinc (pc := 37) 0 21 (v := nI (j5 + 1)) (ls2 := [some (vr 11 0), some (vi p1), some (vi (nI (j5 + 1)))]) rfl rfl (iinc1 _) (by decide) rfl ?_
        refine a_goto (pc := 40) (tgt := 28) 0 22 rfl (by decide) ?_
        exact ih_j5 (j5 + 1) (by omega) S9 (by rw [iter_succ, eσ6]; unfold b28_X11_day; exact (lt_eq eS9))
    exact L28_11 (ix p1) 0 (by omega) S rfl
  refine a_icmp_gt (pc := 15) (tgt := 22) 0 9 rfl (by decide) (fun c15_1 => ?_) (fun c15_1 => ?_)
  · refine a_iconst (pc := 22) 0 12 (v := 0) rfl (by decide) ?_
    exact J23_10 _ (by exact (if_pos c15_1))
  · refine a_iconst (pc := 18) 0 10 (v := 1) rfl (by decide) ?_
    refine a_goto (pc := 19) (tgt := 23) 0 11 rfl (by decide) ?_
    exact J23_10 _ (by exact (if_neg c15_1))
theorem c_X11_day {S : Mem} (p1 : Int32)   (h : ok_X11_day S p1) : Cts mdX11_day 6 147 [vr 11 0, vi p1] S (Is (some (vi (f_X11_day S p1).1)) ((f_X11_day S p1).2)) := Cts.of dtX11_day (by decide +kernel) rfl rfl (Nat.le_of_ble_eq_true rfl) rfl (fun O G => w_X11_day p1 h (fun _ _ h9 => ⟨by rw [h9], by rw [h9]⟩))
def okx_X11_day_1 (S : Mem) (p1 : Int32) : Prop := ((okx_X11_needRange_1 S p1 1 (nI 5)))
abbrev fqX11_day_1 : FD := (mdX11_day, [], 8, 124, 1, 6)
set_option maxRecDepth 100000 in
set_option maxHeartbeats 4000000 in
theorem q_X11_day_1 {S : Mem} (p1 : Int32)  (h : okx_X11_day_1 S p1) : Cqs mdX11_day 8 124 [vr 11 0, vi p1] S xArg := Cqs.of dtX11_day (by decide +kernel) rfl rfl (Nat.le_of_ble_eq_true rfl) rfl (fun O G => by
  show BW O G fqX11_day_1 0 0 _ S 0 _ []
  refine a_iload_n (pc := 0) 0 0 rfl rfl ?_
  refine a_iconst (pc := 1) 0 1 (v := 1) rfl (by decide) ?_
  refine a_iconst (pc := 2) 0 2 (v := nI 5) rfl (by decide) ?_
  have o1 := h
  refine a_callSX (pc := 3) 0 3 (q_X11_needRange_1 (S := S) p1 1 (nI 5) o1) rfl cs_X11_41 rfl (rm rfl) ?_
  exact a_out rfl (by decide) (by decide))
def okx_X11_day_2 (S : Mem) (p1 : Int32) : Prop := ((ok_X11_needRange S p1 1 (nI 5)) ∧ (∀ v3 : Int32, (if ((nI 200) - p1) < (S.1 kDays 0) then (0) else (1)) = v3 → ((okx_X11_needState S v3))))
abbrev fqX11_day_2 : FD := (mdX11_day, [], 7, 102, 1, 6)
set_option maxRecDepth 100000 in
set_option maxHeartbeats 4000000 in
theorem q_X11_day_2 {S : Mem} (p1 : Int32)  (h : okx_X11_day_2 S p1) : Cqs mdX11_day 7 102 [vr 11 0, vi p1] S xSta := Cqs.of dtX11_day (by decide +kernel) rfl rfl (Nat.le_of_ble_eq_true rfl) rfl (fun O G => by
  show BW O G fqX11_day_2 0 0 _ S 0 _ []
  refine a_iload_n (pc := 0) 0 0 rfl rfl ?_
  refine a_iconst (pc := 1) 0 1 (v := 1) rfl (by decide) ?_
  refine a_iconst (pc := 2) 0 2 (v := nI 5) rfl (by decide) ?_
  obtain ⟨o1, h⟩ := h
  refine a_callSv (pc := 3) 0 3 (c_X11_needRange (S := S) p1 1 (nI 5) o1) rfl cs_X11_41 rfl (rm rfl) ?_
  refine a_aload_n (pc := 6) 0 4 rfl rfl ?_
  refine g_11_today (pc := 7) 0 5 rfl fl_X11_119 ?_
  refine a_sipush (pc := 10) 0 6 (v := nI 200) rfl (by decide) ?_
  refine a_iload_n (pc := 13) 0 7 rfl rfl ?_
  refine a_isub (pc := 14) 0 8 rfl ?_
  have J23_4 : ∀ (v3 : Int32) (ev3 : (if ((nI 200) - p1) < (S.1 kDays 0) then (0) else (1)) = v3), BW O G fqX11_day_2 0 0 (QX O G S xSta) S 23 [some (vr 11 0), some (vi p1), none] [vi v3] := by
    intro v3 ev3
    have h := h v3 ev3
    have o4 := h
    refine a_callSX (pc := 23) 0 13 (q_X11_needState (S := S) v3 (by rw [← ev3]; repeat (first | exact Or.inl rfl | exact Or.inr rfl | assumption | split | dsimp only [lt])) o4) rfl cs_X11_66 rfl (rm rfl) ?_
    exact a_out rfl (by decide) (by decide)
  refine a_icmp_gt (pc := 15) (tgt := 22) 0 9 rfl (by decide) (fun c15_1 => ?_) (fun c15_1 => ?_)
  · refine a_iconst (pc := 22) 0 12 (v := 0) rfl (by decide) ?_
    exact J23_4 _ (by exact (if_pos c15_1))
  · refine a_iconst (pc := 18) 0 10 (v := 1) rfl (by decide) ?_
    refine a_goto (pc := 19) (tgt := 23) 0 11 rfl (by decide) ?_
    exact J23_4 _ (by exact (if_neg c15_1)))
def f_X11_fail (S : Mem) (p1 : Int32) : Int32 × Mem := lt (if (S.1 kHaveFailed (f_X3_bank S p1)) = 0 then (1) else (0)) (fun (v3 : Int32) => lt ((f_X11_failBank S p1).2) (fun (S6 : Mem) => lt ((f_X11_failBank S p1).1) (fun (v7 : Int32) => (v7, S6))))
def ok_X11_fail (S : Mem) (p1 : Int32) : Prop := ((ok_X11_needBank S p1) ∧ (∀ v3 : Int32, (if (S.1 kHaveFailed (f_X3_bank S p1)) = 0 then (1) else (0)) = v3 → ((ok_X11_needState S v3) ∧ (ok_X11_failBank S p1))))
abbrev fdX11_fail : FD := (mdX11_fail, [], 4, 103, 0, 0)
set_option maxRecDepth 100000 in
set_option maxHeartbeats 4000000 in
theorem w_X11_fail {O : Om} {G : Cx} {S : Mem} {PP : Option AV → Mem → Prop} (p1 : Int32)   (h : ok_X11_fail S p1) (hP : ∀ x9 S9, f_X11_fail S p1 = (x9, S9) → PP (some (vi x9)) S9) : BW O G fdX11_fail 0 0 (QV O G 0 0 PP) S 0 [some (vr 11 0), some (vi p1)] [] := by
  refine a_iload_n (pc := 0) 0 0 rfl rfl ?_
  obtain ⟨o1, h⟩ := h
  refine a_callSv (pc := 1) 0 1 (c_X11_needBank (S := S) p1 o1) rfl cs_X11_73 rfl (rm rfl) ?_
  refine a_aload_n (pc := 4) 0 2 rfl rfl ?_
  refine g_11_books (pc := 5) 0 3 rfl fl_X11_10 ?_
  refine a_iload_n (pc := 8) 0 4 rfl rfl ?_
  refine a_callVr (pc := 9) 0 5 (c_X3_bank (S := S) p1) rfl cv_X11_79 (by decide) rfl rfl rfl (rm rfl) ?_
  refine g_0_hasFailed (pc := 12) 0 6 rfl (show f_X3_bank S p1 < 5 from r_X3_bank) fl_X11_82 ?_
  have J23_7 : ∀ (v3 : Int32) (ev3 : (if (S.1 kHaveFailed (f_X3_bank S p1)) = 0 then (1) else (0)) = v3), BW O G fdX11_fail 0 0 (QV O G 0 0 PP) S 23 [some (vr 11 0), some (vi p1)] [vi v3] := by
    intro v3 ev3
    have h := h v3 ev3
    obtain ⟨o4, h⟩ := h
    refine a_callSv (pc := 23) 0 11 (c_X11_needState (S := S) v3 (by rw [← ev3]; repeat (first | exact Or.inl rfl | exact Or.inr rfl | assumption | split | dsimp only [lt])) o4) rfl cs_X11_66 rfl (rm rfl) ?_
    refine a_aload_n (pc := 26) 0 12 rfl rfl ?_
    refine a_iload_n (pc := 27) 0 13 rfl rfl ?_
    have o5 := h
    refine a_callVi (pc := 28) 0 14 (c_X11_failBank (S := S) p1 o5) rfl cv_X11_112 (by decide) rfl rfl rfl (rm rfl) ?_
    refine a_set (fun S6 eS6 => ?_)
    refine a_seti (fun v7 ev7 => ?_)
    exact a_iret (pc := 31) 0 15 rfl rfl (hP _ _ (by unfold f_X11_fail; exact (lt_eq ev3).trans ((lt_eq eS6).trans (lt_eq ev7))))
  refine a_if_ne (pc := 15) (tgt := 22) 0 7 rfl (by decide) (fun c15_1 => ?_) (fun c15_1 => ?_)
  · refine a_iconst (pc := 22) 0 10 (v := 0) rfl (by decide) ?_
    exact J23_7 _ (by exact (if_neg c15_1))
  · refine a_iconst (pc := 18) 0 8 (v := 1) rfl (by decide) ?_
    refine a_goto (pc := 19) (tgt := 23) 0 9 rfl (by decide) ?_
    exact J23_7 _ (by exact (if_pos c15_1))
theorem c_X11_fail {S : Mem} (p1 : Int32)   (h : ok_X11_fail S p1) : Cts mdX11_fail 4 103 [vr 11 0, vi p1] S (Is (some (vi (f_X11_fail S p1).1)) ((f_X11_fail S p1).2)) := Cts.of dtX11_fail (by decide +kernel) rfl rfl (Nat.le_of_ble_eq_true rfl) rfl (fun O G => w_X11_fail p1 h (fun _ _ h9 => ⟨by rw [h9], by rw [h9]⟩))
def okx_X11_fail_1 (S : Mem) (p1 : Int32) : Prop := ((okx_X11_needBank_1 S p1))
abbrev fqX11_fail_1 : FD := (mdX11_fail, [], 8, 122, 1, 6)
set_option maxRecDepth 100000 in
set_option maxHeartbeats 4000000 in
theorem q_X11_fail_1 {S : Mem} (p1 : Int32)  (h : okx_X11_fail_1 S p1) : Cqs mdX11_fail 8 122 [vr 11 0, vi p1] S xIdx := Cqs.of dtX11_fail (by decide +kernel) rfl rfl (Nat.le_of_ble_eq_true rfl) rfl (fun O G => by
  show BW O G fqX11_fail_1 0 0 _ S 0 _ []
  refine a_iload_n (pc := 0) 0 0 rfl rfl ?_
  have o1 := h
  refine a_callSX (pc := 1) 0 1 (q_X11_needBank_1 (S := S) p1 o1) rfl cs_X11_73 rfl (rm rfl) ?_
  exact a_out rfl (by decide) (by decide))
def okx_X11_fail_2 (S : Mem) (p1 : Int32) : Prop := ((ok_X11_needBank S p1) ∧ (∀ v3 : Int32, (if (S.1 kHaveFailed (f_X3_bank S p1)) = 0 then (1) else (0)) = v3 → ((okx_X11_needState S v3))))
abbrev fqX11_fail_2 : FD := (mdX11_fail, [], 7, 102, 1, 6)
set_option maxRecDepth 100000 in
set_option maxHeartbeats 4000000 in
theorem q_X11_fail_2 {S : Mem} (p1 : Int32)  (h : okx_X11_fail_2 S p1) : Cqs mdX11_fail 7 102 [vr 11 0, vi p1] S xSta := Cqs.of dtX11_fail (by decide +kernel) rfl rfl (Nat.le_of_ble_eq_true rfl) rfl (fun O G => by
  show BW O G fqX11_fail_2 0 0 _ S 0 _ []
  refine a_iload_n (pc := 0) 0 0 rfl rfl ?_
  obtain ⟨o1, h⟩ := h
  refine a_callSv (pc := 1) 0 1 (c_X11_needBank (S := S) p1 o1) rfl cs_X11_73 rfl (rm rfl) ?_
  refine a_aload_n (pc := 4) 0 2 rfl rfl ?_
  refine g_11_books (pc := 5) 0 3 rfl fl_X11_10 ?_
  refine a_iload_n (pc := 8) 0 4 rfl rfl ?_
  refine a_callVr (pc := 9) 0 5 (c_X3_bank (S := S) p1) rfl cv_X11_79 (by decide) rfl rfl rfl (rm rfl) ?_
  refine g_0_hasFailed (pc := 12) 0 6 rfl (show f_X3_bank S p1 < 5 from r_X3_bank) fl_X11_82 ?_
  have J23_4 : ∀ (v3 : Int32) (ev3 : (if (S.1 kHaveFailed (f_X3_bank S p1)) = 0 then (1) else (0)) = v3), BW O G fqX11_fail_2 0 0 (QX O G S xSta) S 23 [some (vr 11 0), some (vi p1)] [vi v3] := by
    intro v3 ev3
    have h := h v3 ev3
    have o4 := h
    refine a_callSX (pc := 23) 0 11 (q_X11_needState (S := S) v3 (by rw [← ev3]; repeat (first | exact Or.inl rfl | exact Or.inr rfl | assumption | split | dsimp only [lt])) o4) rfl cs_X11_66 rfl (rm rfl) ?_
    exact a_out rfl (by decide) (by decide)
  refine a_if_ne (pc := 15) (tgt := 22) 0 7 rfl (by decide) (fun c15_1 => ?_) (fun c15_1 => ?_)
  · refine a_iconst (pc := 22) 0 10 (v := 0) rfl (by decide) ?_
    exact J23_4 _ (by exact (if_neg c15_1))
  · refine a_iconst (pc := 18) 0 8 (v := 1) rfl (by decide) ?_
    refine a_goto (pc := 19) (tgt := 23) 0 9 rfl (by decide) ?_
    exact J23_4 _ (by exact (if_pos c15_1)))
def f_X11_days (S : Mem)  : Int32 := S.1 kDays 0
abbrev fdX11_days : FD := (mdX11_days, [], 0, 0, 0, 0)
set_option maxRecDepth 100000 in
set_option maxHeartbeats 4000000 in
theorem w_X11_days {O : Om} {G : Cx} {S : Mem} {PP : Option AV → Mem → Prop}    (hP : ∀ x9, f_X11_days S  = x9 → PP (some (vi x9)) S) : BW O G fdX11_days 0 0 (QV O G 0 0 PP) S 0 [some (vr 11 0)] [] := by
  refine a_aload_n (pc := 0) 0 0 rfl rfl ?_
  refine g_11_today (pc := 1) 0 1 rfl fl_X11_119 ?_
  exact a_iret (pc := 4) 0 2 rfl rfl (hP _ (by unfold f_X11_days; exact rfl))
theorem c_X11_days {S : Mem}    : Cts mdX11_days 0 0 [vr 11 0] S (Is (some (vi (f_X11_days S ))) (S)) := Cts.of dtX11_days (by decide +kernel) rfl rfl (Nat.le_of_ble_eq_true rfl) rfl (fun O G => w_X11_days  (fun _ h9 => ⟨by rw [h9], rfl⟩))
def f_X11_accountAnew (S : Mem) (p1 : Int32) : Int32 := lt (f_X8_sumOf S p1) (fun (v3 : Int32) => v3)
def ok_X11_accountAnew (S : Mem) (p1 : Int32) : Prop := ((ok_X11_needHolder S p1) ∧ (ok_X8_sumOf S p1))
abbrev fdX11_accountAnew : FD := (mdX11_accountAnew, [], 2, 40, 0, 0)
set_option maxRecDepth 100000 in
set_option maxHeartbeats 4000000 in
theorem w_X11_accountAnew {O : Om} {G : Cx} {S : Mem} {PP : Option AV → Mem → Prop} (p1 : Int32)   (h : ok_X11_accountAnew S p1) (hP : ∀ x9, f_X11_accountAnew S p1 = x9 → PP (some (vi x9)) S) : BW O G fdX11_accountAnew 0 0 (QV O G 0 0 PP) S 0 [some (vr 11 0), some (vi p1)] [] := by
  refine a_iload_n (pc := 0) 0 0 rfl rfl ?_
  obtain ⟨o1, h⟩ := h
  refine a_callSv (pc := 1) 0 1 (c_X11_needHolder (S := S) p1 o1) rfl cs_X11_37 rfl (rm rfl) ?_
  refine a_aload_n (pc := 4) 0 2 rfl rfl ?_
  refine g_11_books (pc := 5) 0 3 rfl fl_X11_10 ?_
  refine g_3_log (pc := 8) 0 4 rfl fl_X11_262 ?_
  refine a_iload_n (pc := 11) 0 5 rfl rfl ?_
  have o2 := h
  refine a_callVi (pc := 12) 0 6 (c_X8_sumOf (S := S) p1 o2) rfl cv_X11_266 (by decide) rfl rfl rfl (rm rfl) ?_
  refine a_seti (fun v3 ev3 => ?_)
  exact a_iret (pc := 15) 0 7 rfl rfl (hP _ (by unfold f_X11_accountAnew; exact lt_eq ev3))
theorem c_X11_accountAnew {S : Mem} (p1 : Int32)   (h : ok_X11_accountAnew S p1) : Cts mdX11_accountAnew 2 40 [vr 11 0, vi p1] S (Is (some (vi (f_X11_accountAnew S p1))) (S)) := Cts.of dtX11_accountAnew (by decide +kernel) rfl rfl (Nat.le_of_ble_eq_true rfl) rfl (fun O G => w_X11_accountAnew p1 h (fun _ h9 => ⟨by rw [h9], rfl⟩))
def okx_X11_accountAnew_1 (S : Mem) (p1 : Int32) : Prop := ((okx_X11_needHolder_1 S p1))
abbrev fqX11_accountAnew_1 : FD := (mdX11_accountAnew, [], 8, 122, 1, 6)
set_option maxRecDepth 100000 in
set_option maxHeartbeats 4000000 in
theorem q_X11_accountAnew_1 {S : Mem} (p1 : Int32)  (h : okx_X11_accountAnew_1 S p1) : Cqs mdX11_accountAnew 8 122 [vr 11 0, vi p1] S xIdx := Cqs.of dtX11_accountAnew (by decide +kernel) rfl rfl (Nat.le_of_ble_eq_true rfl) rfl (fun O G => by
  show BW O G fqX11_accountAnew_1 0 0 _ S 0 _ []
  refine a_iload_n (pc := 0) 0 0 rfl rfl ?_
  have o1 := h
  refine a_callSX (pc := 1) 0 1 (q_X11_needHolder_1 (S := S) p1 o1) rfl cs_X11_37 rfl (rm rfl) ?_
  exact a_out rfl (by decide) (by decide))
def f_X11_payment (S : Mem) (p1 : Int32) : Int32 := lt (if p1 < 0 then (0) else (if (S.1 kPayments 0) ≤ p1 then (0) else (1))) (fun (v3 : Int32) => S.1 kStates (f_X10_at S p1))
def ok_X11_payment (S : Mem) (p1 : Int32) : Prop := ((∀ v3 : Int32, (if p1 < 0 then (0) else (if (S.1 kPayments 0) ≤ p1 then (0) else (1))) = v3 → ((ok_X11_needIndex S v3))))
abbrev fdX11_payment : FD := (mdX11_payment, [], 1, 22, 0, 0)
set_option maxRecDepth 100000 in
set_option maxHeartbeats 4000000 in
theorem w_X11_payment {O : Om} {G : Cx} {S : Mem} {PP : Option AV → Mem → Prop} (p1 : Int32)   (h : ok_X11_payment S p1) (hP : ∀ x9, f_X11_payment S p1 = x9 → PP (some (vi x9)) S) : BW O G fdX11_payment 0 0 (QV O G 0 0 PP) S 0 [some (vr 11 0), some (vi p1)] [] := by
  refine a_iload_n (pc := 0) 0 0 rfl rfl ?_
  have J20_4 : ∀ (v3 : Int32) (ev3 : (if p1 < 0 then (0) else (if (S.1 kPayments 0) ≤ p1 then (0) else (1))) = v3), BW O G fdX11_payment 0 0 (QV O G 0 0 PP) S 20 [some (vr 11 0), some (vi p1)] [vi v3] := by
    intro v3 ev3
    have h := h v3 ev3
    have o4 := h
    refine a_callSv (pc := 20) 0 10 (c_X11_needIndex (S := S) v3 (by rw [← ev3]; repeat (first | exact Or.inl rfl | exact Or.inr rfl | assumption | split | dsimp only [lt])) o4) rfl cs_X11_291 rfl (rm rfl) ?_
    refine a_aload_n (pc := 23) 0 11 rfl rfl ?_
    refine g_11_payments (pc := 24) 0 12 rfl fl_X11_19 ?_
    refine a_iload_n (pc := 27) 0 13 rfl rfl ?_
    refine a_callVr (pc := 28) 0 14 (c_X10_at (S := S) p1) rfl cv_X11_294 (by decide) rfl rfl rfl (rm rfl) ?_
    refine g_9_state (pc := 31) 0 15 rfl (show f_X10_at S p1 < 201 from r_X10_at) fl_X11_297 ?_
    exact a_iret (pc := 34) 0 16 rfl rfl (hP _ (by unfold f_X11_payment; exact lt_eq ev3))
  refine a_if_lt (pc := 1) (tgt := 19) 0 1 rfl (by decide) (fun c1_0 => ?_) (fun c1_0 => ?_)
  · refine a_iconst (pc := 19) 0 9 (v := 0) rfl (by decide) ?_
    exact J20_4 _ (by exact (if_pos c1_0))
  · refine a_iload_n (pc := 4) 0 2 rfl rfl ?_
    refine a_aload_n (pc := 5) 0 3 rfl rfl ?_
    refine g_11_payments (pc := 6) 0 4 rfl fl_X11_19 ?_
    refine g_10_count (pc := 9) 0 5 rfl fl_X11_288 ?_
    refine a_icmp_ge (pc := 12) (tgt := 19) 0 6 rfl (by decide) (fun c12_1 => ?_) (fun c12_1 => ?_)
    · refine a_iconst (pc := 19) 0 9 (v := 0) rfl (by decide) ?_
      exact J20_4 _ (by exact ((if_neg c1_0).trans (if_pos c12_1)))
    · refine a_iconst (pc := 15) 0 7 (v := 1) rfl (by decide) ?_
      refine a_goto (pc := 16) (tgt := 20) 0 8 rfl (by decide) ?_
      exact J20_4 _ (by exact ((if_neg c1_0).trans (if_neg c12_1)))
theorem c_X11_payment {S : Mem} (p1 : Int32)   (h : ok_X11_payment S p1) : Cts mdX11_payment 1 22 [vr 11 0, vi p1] S (Is (some (vi (f_X11_payment S p1))) (S)) := Cts.of dtX11_payment (by decide +kernel) rfl rfl (Nat.le_of_ble_eq_true rfl) rfl (fun O G => w_X11_payment p1 h (fun _ h9 => ⟨by rw [h9], rfl⟩))
def okx_X11_payment_1 (S : Mem) (p1 : Int32) : Prop := ((∀ v3 : Int32, (if p1 < 0 then (0) else (if (S.1 kPayments 0) ≤ p1 then (0) else (1))) = v3 → ((okx_X11_needIndex S v3))))
abbrev fqX11_payment_1 : FD := (mdX11_payment, [], 7, 102, 1, 6)
set_option maxRecDepth 100000 in
set_option maxHeartbeats 4000000 in
theorem q_X11_payment_1 {S : Mem} (p1 : Int32)  (h : okx_X11_payment_1 S p1) : Cqs mdX11_payment 7 102 [vr 11 0, vi p1] S xIdx := Cqs.of dtX11_payment (by decide +kernel) rfl rfl (Nat.le_of_ble_eq_true rfl) rfl (fun O G => by
  show BW O G fqX11_payment_1 0 0 _ S 0 _ []
  refine a_iload_n (pc := 0) 0 0 rfl rfl ?_
  have J20_4 : ∀ (v3 : Int32) (ev3 : (if p1 < 0 then (0) else (if (S.1 kPayments 0) ≤ p1 then (0) else (1))) = v3), BW O G fqX11_payment_1 0 0 (QX O G S xIdx) S 20 [some (vr 11 0), some (vi p1)] [vi v3] := by
    intro v3 ev3
    have h := h v3 ev3
    have o4 := h
    refine a_callSX (pc := 20) 0 10 (q_X11_needIndex (S := S) v3 (by rw [← ev3]; repeat (first | exact Or.inl rfl | exact Or.inr rfl | assumption | split | dsimp only [lt])) o4) rfl cs_X11_291 rfl (rm rfl) ?_
    exact a_out rfl (by decide) (by decide)
  refine a_if_lt (pc := 1) (tgt := 19) 0 1 rfl (by decide) (fun c1_0 => ?_) (fun c1_0 => ?_)
  · refine a_iconst (pc := 19) 0 9 (v := 0) rfl (by decide) ?_
    exact J20_4 _ (by exact (if_pos c1_0))
  · refine a_iload_n (pc := 4) 0 2 rfl rfl ?_
    refine a_aload_n (pc := 5) 0 3 rfl rfl ?_
    refine g_11_payments (pc := 6) 0 4 rfl fl_X11_19 ?_
    refine g_10_count (pc := 9) 0 5 rfl fl_X11_288 ?_
    refine a_icmp_ge (pc := 12) (tgt := 19) 0 6 rfl (by decide) (fun c12_1 => ?_) (fun c12_1 => ?_)
    · refine a_iconst (pc := 19) 0 9 (v := 0) rfl (by decide) ?_
      exact J20_4 _ (by exact ((if_neg c1_0).trans (if_pos c12_1)))
    · refine a_iconst (pc := 15) 0 7 (v := 1) rfl (by decide) ?_
      refine a_goto (pc := 16) (tgt := 20) 0 8 rfl (by decide) ?_
      exact J20_4 _ (by exact ((if_neg c1_0).trans (if_neg c12_1))))
def f_X11_treasury (S : Mem)  : Int32 := S.1 kTreasury 0
abbrev fdX11_treasury : FD := (mdX11_treasury, [], 0, 0, 0, 0)
set_option maxRecDepth 100000 in
set_option maxHeartbeats 4000000 in
theorem w_X11_treasury {O : Om} {G : Cx} {S : Mem} {PP : Option AV → Mem → Prop}    (hP : ∀ x9, f_X11_treasury S  = x9 → PP (some (vi x9)) S) : BW O G fdX11_treasury 0 0 (QV O G 0 0 PP) S 0 [some (vr 11 0)] [] := by
  refine a_aload_n (pc := 0) 0 0 rfl rfl ?_
  refine g_11_books (pc := 1) 0 1 rfl fl_X11_10 ?_
  refine g_3_central (pc := 4) 0 2 rfl fl_X11_146 ?_
  refine g_4_treasury (pc := 7) 0 3 rfl fl_X11_220 ?_
  exact a_iret (pc := 10) 0 4 rfl rfl (hP _ (by unfold f_X11_treasury; exact rfl))
theorem c_X11_treasury {S : Mem}    : Cts mdX11_treasury 0 0 [vr 11 0] S (Is (some (vi (f_X11_treasury S ))) (S)) := Cts.of dtX11_treasury (by decide +kernel) rfl rfl (Nat.le_of_ble_eq_true rfl) rfl (fun O G => w_X11_treasury  (fun _ h9 => ⟨by rw [h9], rfl⟩))
def b4_X11_owed (S : Mem) (j1 : Nat) (σ2 : Int32) : Int32 := lt (f_X2_of S (nI j1)) (fun (v4 : Int32) => σ2 + v4)
def f_X11_owed (S : Mem)  : Int32 := lt (iter (b4_X11_owed S) 0 (5)) (fun (σ2 : Int32) => σ2)
def ok_X11_owed (S : Mem)  : Prop := ((∀ j1 : Nat, j1 < 5 → ∀ σ2 : Int32, iter (b4_X11_owed S) 0 j1 = σ2 → ((ok_X2_of S (nI j1)))))
abbrev fdX11_owed : FD := (mdX11_owed, [], 2, 46, 0, 0)
set_option maxRecDepth 100000 in
set_option maxHeartbeats 4000000 in
theorem w_X11_owed {O : Om} {G : Cx} {S : Mem} {PP : Option AV → Mem → Prop}    (h : ok_X11_owed S ) (hP : ∀ x9, f_X11_owed S  = x9 → PP (some (vi x9)) S) : BW O G fdX11_owed 0 0 (QV O G 0 0 PP) S 0 [some (vr 11 0), none, none] [] := by
  refine a_iconst (pc := 0) 0 0 (v := 0) rfl (by decide) ?_
  refine a_istore_n (pc := 1) 0 1 (ls2 := [some (vr 11 0), some (vi 0), none]) rfl rfl (by decide) rfl ?_
  refine a_iconst (pc := 2) 0 2 (v := 0) rfl (by decide) ?_
  refine a_istore_n (pc := 3) 0 3 (ls2 := [some (vr 11 0), some (vi 0), some (vi 0)]) rfl rfl (by decide) rfl ?_
  have hb_j1 := h
  have L4_4 : ∀ (m_j1 j1 : Nat), j1 + m_j1 = 5 → ∀ (σ2 : Int32), iter (b4_X11_owed S) 0 j1 = σ2 → BW O G fdX11_owed 0 0 (QV O G 0 0 PP) S 4 [some (vr 11 0), some (vi σ2), some (vi (nI j1))] [] := by
    intro m_j1
    induction m_j1 with
    | zero =>
      intro j1 hj_j1 σ2 eσ2
      have hn_j1 : j1 = 5 := by omega
      rw [hn_j1] at eσ2
      refine a_iload_n (pc := 4) 0 4 rfl rfl ?_
      refine a_iconst (pc := 5) 0 5 (v := nI 5) rfl (by decide) ?_
      refine a_icmp_ge_t (pc := 6) (tgt := 26) 0 6 rfl (by decide) (nI_le (by omega) (by omega)) ?_
      refine a_iload_n (pc := 26) 0 16 rfl rfl ?_
      exact a_iret (pc := 27) 0 17 rfl rfl (hP _ (by unfold f_X11_owed; exact lt_eq eσ2))
    | succ m_j1 ih_j1 =>
      intro j1 hj_j1 σ2 eσ2
      have h := hb_j1 j1 (by omega) σ2 eσ2
      refine a_iload_n (pc := 4) 0 4 rfl rfl ?_
      refine a_iconst (pc := 5) 0 5 (v := nI 5) rfl (by decide) ?_
      refine a_icmp_ge_f (pc := 6) (tgt := 26) 0 6 rfl (nI_ge (by omega) (by omega)) (by decide) ?_
      refine a_iload_n (pc := 9) 0 7 rfl rfl ?_
      refine a_aload_n (pc := 10) 0 8 rfl rfl ?_
      refine g_11_bonds (pc := 11) 0 9 rfl fl_X11_33 ?_
      refine a_iload_n (pc := 14) 0 10 rfl rfl ?_
      have o3 := h
      refine a_callVi (pc := 15) 0 11 (c_X2_of (S := S) (nI j1) o3) rfl cv_X11_198 (by decide) rfl rfl rfl (rm rfl) ?_
      refine a_seti (fun v4 ev4 => ?_)
      refine a_iadd (pc := 18) 0 12 rfl ?_
      refine a_istore_n (pc := 19) 0 13 (ls2 := [some (vr 11 0), some (vi (σ2 + v4)), some (vi (nI j1))]) rfl rfl (by decide) rfl ?_
      refine a_iinc (pc := 20) 0 14 (v := nI (j1 + 1)) (ls2 := [some (vr 11 0), some (vi (σ2 + v4)), some (vi (nI (j1 + 1)))]) rfl rfl (iinc1 _) (by decide) rfl ?_
      refine a_goto (pc := 23) (tgt := 4) 0 15 rfl (by decide) ?_
      exact ih_j1 (j1 + 1) (by omega) (σ2 + v4) (by rw [iter_succ, eσ2]; unfold b4_X11_owed; exact (lt_eq ev4))
  exact L4_4 (5) 0 (by omega) 0 rfl
theorem c_X11_owed {S : Mem}    (h : ok_X11_owed S ) : Cts mdX11_owed 2 46 [vr 11 0] S (Is (some (vi (f_X11_owed S ))) (S)) := Cts.of dtX11_owed (by decide +kernel) rfl rfl (Nat.le_of_ble_eq_true rfl) rfl (fun O G => w_X11_owed  h (fun _ h9 => ⟨by rw [h9], rfl⟩))
def f_X11_foreign (S : Mem)  : Int32 := S.1 kForeign 0
abbrev fdX11_foreign : FD := (mdX11_foreign, [], 0, 0, 0, 0)
set_option maxRecDepth 100000 in
set_option maxHeartbeats 4000000 in
theorem w_X11_foreign {O : Om} {G : Cx} {S : Mem} {PP : Option AV → Mem → Prop}    (hP : ∀ x9, f_X11_foreign S  = x9 → PP (some (vi x9)) S) : BW O G fdX11_foreign 0 0 (QV O G 0 0 PP) S 0 [some (vr 11 0)] [] := by
  refine a_aload_n (pc := 0) 0 0 rfl rfl ?_
  refine g_11_books (pc := 1) 0 1 rfl fl_X11_10 ?_
  refine g_3_central (pc := 4) 0 2 rfl fl_X11_146 ?_
  refine g_4_foreignMoney (pc := 7) 0 3 rfl fl_X11_229 ?_
  exact a_iret (pc := 10) 0 4 rfl rfl (hP _ (by unfold f_X11_foreign; exact rfl))
theorem c_X11_foreign {S : Mem}    : Cts mdX11_foreign 0 0 [vr 11 0] S (Is (some (vi (f_X11_foreign S ))) (S)) := Cts.of dtX11_foreign (by decide +kernel) rfl rfl (Nat.le_of_ble_eq_true rfl) rfl (fun O G => w_X11_foreign  (fun _ h9 => ⟨by rw [h9], rfl⟩))
def b50_X11_central (S : Mem) (j6 : Nat) (σ7 : Int32 × Int32) : Int32 × Int32 := (σ7.1 + (S.1 kLent (f_X3_bank S (nI j6))), σ7.2 + ((S.1 kReserves (f_X3_bank S (nI j6))) + (S.1 kVaults (f_X3_bank S (nI j6)))))
def f_X11_central (S : Mem)  : Int32 := lt (f_X2_of S (nI 4)) (fun (v2 : Int32) => lt (f_X7_leftOf S (nI 4)) (fun (v4 : Int32) => lt (f_X3_goodNotesOfHolders S ) (fun (v5 : Int32) => lt (iter (b50_X11_central S) (((S.1 kForeignCost 0) + v2) + v4, (S.1 kTreasury 0) + v5) (4)) (fun (σ7 : Int32 × Int32) => σ7.1 - σ7.2))))
def ok_X11_central (S : Mem)  : Prop := ((ok_X2_of S (nI 4)) ∧ (∀ v2 : Int32, (f_X2_of S (nI 4)) = v2 → ((ok_X7_leftOf S (nI 4)))))
abbrev fdX11_central : FD := (mdX11_central, [], 2, 46, 0, 0)
set_option maxRecDepth 100000 in
set_option maxHeartbeats 4000000 in
theorem w_X11_central {O : Om} {G : Cx} {S : Mem} {PP : Option AV → Mem → Prop}    (h : ok_X11_central S ) (hP : ∀ x9, f_X11_central S  = x9 → PP (some (vi x9)) S) : BW O G fdX11_central 0 0 (QV O G 0 0 PP) S 0 [some (vr 11 0), none, none, none, none] [] := by
  refine a_aload_n (pc := 0) 0 0 rfl rfl ?_
  refine g_11_books (pc := 1) 0 1 rfl fl_X11_10 ?_
  refine g_3_central (pc := 4) 0 2 rfl fl_X11_146 ?_
  refine g_4_paidForForeign (pc := 7) 0 3 rfl fl_X11_232 ?_
  refine a_aload_n (pc := 10) 0 4 rfl rfl ?_
  refine g_11_bonds (pc := 11) 0 5 rfl fl_X11_33 ?_
  refine a_iconst (pc := 14) 0 6 (v := nI 4) rfl (by decide) ?_
  obtain ⟨o1, h⟩ := h
  refine a_callVi (pc := 15) 0 7 (c_X2_of (S := S) (nI 4) o1) rfl cv_X11_198 (by decide) rfl rfl rfl (rm rfl) ?_
  refine a_seti (fun v2 ev2 => ?_)
  have h := h v2 ev2
  refine a_iadd (pc := 18) 0 8 rfl ?_
  refine a_aload_n (pc := 19) 0 9 rfl rfl ?_
  refine g_11_loans (pc := 20) 0 10 rfl fl_X11_26 ?_
  refine a_iconst (pc := 23) 0 11 (v := nI 4) rfl (by decide) ?_
  have o3 := h
  refine a_callVi (pc := 24) 0 12 (c_X7_leftOf (S := S) (nI 4) o3) rfl cv_X11_140 (by decide) rfl rfl rfl (rm rfl) ?_
  refine a_seti (fun v4 ev4 => ?_)
  refine a_iadd (pc := 27) 0 13 rfl ?_
  refine a_istore_n (pc := 28) 0 14 (ls2 := [some (vr 11 0), some (vi (((S.1 kForeignCost 0) + v2) + v4)), none, none, none]) rfl rfl (by decide) rfl ?_
  refine a_aload_n (pc := 29) 0 15 rfl rfl ?_
  refine g_11_books (pc := 30) 0 16 rfl fl_X11_10 ?_
  refine g_3_central (pc := 33) 0 17 rfl fl_X11_146 ?_
  refine g_4_treasury (pc := 36) 0 18 rfl fl_X11_220 ?_
  refine a_aload_n (pc := 39) 0 19 rfl rfl ?_
  refine g_11_books (pc := 40) 0 20 rfl fl_X11_10 ?_
  refine a_callVi (pc := 43) 0 21 (c_X3_goodNotesOfHolders (S := S) ) rfl cv_X11_302 (by decide) rfl rfl rfl (rm rfl) ?_
  refine a_seti (fun v5 ev5 => ?_)
  refine a_iadd (pc := 46) 0 22 rfl ?_
  refine a_istore_n (pc := 47) 0 23 (ls2 := [some (vr 11 0), some (vi (((S.1 kForeignCost 0) + v2) + v4)), some (vi ((S.1 kTreasury 0) + v5)), none, none]) rfl rfl (by decide) rfl ?_
  refine a_iconst (pc := 48) 0 24 (v := 0) rfl (by decide) ?_
  refine a_istore_n (pc := 49) 0 25 (ls2 := [some (vr 11 0), some (vi (((S.1 kForeignCost 0) + v2) + v4)), some (vi ((S.1 kTreasury 0) + v5)), some (vi 0), none]) rfl rfl (by decide) rfl ?_
  have L50_7 : ∀ (m_j6 j6 : Nat), j6 + m_j6 = 4 → ∀ (σ7 : Int32 × Int32), iter (b50_X11_central S) (((S.1 kForeignCost 0) + v2) + v4, (S.1 kTreasury 0) + v5) j6 = σ7 → BW O G fdX11_central 0 0 (QV O G 0 0 PP) S 50 [some (vr 11 0), some (vi σ7.1), some (vi σ7.2), some (vi (nI j6)), none] [] := by
    intro m_j6
    induction m_j6 with
    | zero =>
      intro j6 hj_j6 σ7 eσ7
      have hn_j6 : j6 = 4 := by omega
      rw [hn_j6] at eσ7
      refine a_iload_n (pc := 50) 0 26 rfl rfl ?_
      refine a_iconst (pc := 51) 0 27 (v := nI 4) rfl (by decide) ?_
      refine a_icmp_ge_t (pc := 52) (tgt := 93) 0 28 rfl (by decide) (nI_le (by omega) (by omega)) ?_
      refine a_iload_n (pc := 93) 1 1 rfl rfl ?_
      refine a_iload_n (pc := 94) 1 2 rfl rfl ?_
      refine a_isub (pc := 95) 1 3 rfl ?_
      exact a_iret (pc := 96) 1 4 rfl rfl (hP _ (by unfold f_X11_central; exact (lt_eq ev2).trans ((lt_eq ev4).trans ((lt_eq ev5).trans (lt_eq eσ7)))))
    | succ m_j6 ih_j6 =>
      intro j6 hj_j6 σ7 eσ7
      refine a_iload_n (pc := 50) 0 26 rfl rfl ?_
      refine a_iconst (pc := 51) 0 27 (v := nI 4) rfl (by decide) ?_
      refine a_icmp_ge_f (pc := 52) (tgt := 93) 0 28 rfl (nI_ge (by omega) (by omega)) (by decide) ?_
      refine a_aload_n (pc := 55) 0 29 rfl rfl ?_
      refine g_11_books (pc := 56) 0 30 rfl fl_X11_10 ?_
      refine a_iload_n (pc := 59) 0 31 rfl rfl ?_
      refine a_callVr (pc := 60) 0 32 (c_X3_bank (S := S) (nI j6)) rfl cv_X11_79 (by decide) rfl rfl rfl (rm rfl) ?_
      refine a_astore (pc := 63) 0 33 (ls2 := [some (vr 11 0), some (vi σ7.1), some (vi σ7.2), some (vi (nI j6)), some (vr 0 (f_X3_bank S (nI j6)))]) rfl (by decide) rfl ?_
      refine a_iload_n (pc := 65) 0 34 rfl rfl ?_
      refine a_aload (pc := 66) 0 35 rfl rfl ?_
      refine g_0_lent (pc := 68) 0 36 rfl (show f_X3_bank S (nI j6) < 5 from r_X3_bank) fl_X11_189 ?_
      refine a_iadd (pc := 71) 0 37 rfl ?_
      refine a_istore_n (pc := 72) 0 38 (ls2 := [some (vr 11 0), some (vi (σ7.1 + (S.1 kLent (f_X3_bank S (nI j6))))), some (vi σ7.2), some (vi (nI j6)), some (vr 0 (f_X3_bank S (nI j6)))]) rfl rfl (by decide) rfl ?_
      refine a_iload_n (pc := 73) 0 39 rfl rfl ?_
      refine a_aload (pc := 74) 0 40 rfl rfl ?_
      refine g_0_reserves (pc := 76) 0 41 rfl (show f_X3_bank S (nI j6) < 5 from r_X3_bank) fl_X11_133 ?_
      refine a_aload (pc := 79) 0 42 rfl rfl ?_
      refine g_0_vault (pc := 81) 0 43 rfl (show f_X3_bank S (nI j6) < 5 from r_X3_bank) fl_X11_98 ?_
      refine a_iadd (pc := 84) 0 44 rfl ?_
      refine a_iadd (pc := 85) 0 45 rfl ?_
      refine a_istore_n (pc := 86) 0 46 (ls2 := [some (vr 11 0), some (vi (σ7.1 + (S.1 kLent (f_X3_bank S (nI j6))))), some (vi (σ7.2 + ((S.1 kReserves (f_X3_bank S (nI j6))) + (S.1 kVaults (f_X3_bank S (nI j6)))))), some (vi (nI j6)), some (vr 0 (f_X3_bank S (nI j6)))]) rfl rfl (by decide) rfl ?_
      refine a_iinc (pc := 87) 0 47 (v := nI (j6 + 1)) (ls2 := [some (vr 11 0), some (vi (σ7.1 + (S.1 kLent (f_X3_bank S (nI j6))))), some (vi (σ7.2 + ((S.1 kReserves (f_X3_bank S (nI j6))) + (S.1 kVaults (f_X3_bank S (nI j6)))))), some (vi (nI (j6 + 1))), some (vr 0 (f_X3_bank S (nI j6)))]) rfl rfl (iinc1 _) (by decide) rfl ?_
      refine a_goto (pc := 90) (tgt := 50) 1 0 rfl (by decide) ?_
      refine a_drop (ls2 := [some (vr 11 0), some (vi (σ7.1 + (S.1 kLent (f_X3_bank S (nI j6))))), some (vi (σ7.2 + ((S.1 kReserves (f_X3_bank S (nI j6))) + (S.1 kVaults (f_X3_bank S (nI j6)))))), some (vi (nI (j6 + 1))), none]) (⟨rfl, rfl, rfl, rfl, trivial⟩) ?_
      exact ih_j6 (j6 + 1) (by omega) (σ7.1 + (S.1 kLent (f_X3_bank S (nI j6))), σ7.2 + ((S.1 kReserves (f_X3_bank S (nI j6))) + (S.1 kVaults (f_X3_bank S (nI j6))))) (by rw [iter_succ, eσ7]; unfold b50_X11_central; exact rfl)
  exact L50_7 (4) 0 (by omega) (((S.1 kForeignCost 0) + v2) + v4, (S.1 kTreasury 0) + v5) rfl
theorem c_X11_central {S : Mem}    (h : ok_X11_central S ) : Cts mdX11_central 2 46 [vr 11 0] S (Is (some (vi (f_X11_central S ))) (S)) := Cts.of dtX11_central (by decide +kernel) rfl rfl (Nat.le_of_ble_eq_true rfl) rfl (fun O G => w_X11_central  h (fun _ h9 => ⟨by rw [h9], rfl⟩))
def f_X11_centralAnew (S : Mem)  : Int32 := lt (f_X8_sumOf S (nI 16)) (fun (v2 : Int32) => v2)
def ok_X11_centralAnew (S : Mem)  : Prop := ((ok_X8_sumOf S (nI 16)))
abbrev fdX11_centralAnew : FD := (mdX11_centralAnew, [], 1, 23, 0, 0)
set_option maxRecDepth 100000 in
set_option maxHeartbeats 4000000 in
theorem w_X11_centralAnew {O : Om} {G : Cx} {S : Mem} {PP : Option AV → Mem → Prop}    (h : ok_X11_centralAnew S ) (hP : ∀ x9, f_X11_centralAnew S  = x9 → PP (some (vi x9)) S) : BW O G fdX11_centralAnew 0 0 (QV O G 0 0 PP) S 0 [some (vr 11 0)] [] := by
  refine a_aload_n (pc := 0) 0 0 rfl rfl ?_
  refine g_11_books (pc := 1) 0 1 rfl fl_X11_10 ?_
  refine g_3_log (pc := 4) 0 2 rfl fl_X11_262 ?_
  refine a_bipush (pc := 7) 0 3 (v := nI 16) rfl (by decide) ?_
  have o1 := h
  refine a_callVi (pc := 9) 0 4 (c_X8_sumOf (S := S) (nI 16) o1) rfl cv_X11_266 (by decide) rfl rfl rfl (rm rfl) ?_
  refine a_seti (fun v2 ev2 => ?_)
  exact a_iret (pc := 12) 0 5 rfl rfl (hP _ (by unfold f_X11_centralAnew; exact lt_eq ev2))
theorem c_X11_centralAnew {S : Mem}    (h : ok_X11_centralAnew S ) : Cts mdX11_centralAnew 1 23 [vr 11 0] S (Is (some (vi (f_X11_centralAnew S ))) (S)) := Cts.of dtX11_centralAnew (by decide +kernel) rfl rfl (Nat.le_of_ble_eq_true rfl) rfl (fun O G => w_X11_centralAnew  h (fun _ h9 => ⟨by rw [h9], rfl⟩))
def b10_X11_money (S : Mem) (j2 : Nat) (σ3 : Int32) : Int32 := σ3 + (S.1 kAccounts (f_X3_holder S (nI j2)))
def f_X11_money (S : Mem)  : Int32 := lt (f_X3_goodNotesOfHolders S ) (fun (v1 : Int32) => lt (iter (b10_X11_money S) v1 (16)) (fun (σ3 : Int32) => σ3))
abbrev fdX11_money : FD := (mdX11_money, [], 2, 45, 0, 0)
set_option maxRecDepth 100000 in
set_option maxHeartbeats 4000000 in
theorem w_X11_money {O : Om} {G : Cx} {S : Mem} {PP : Option AV → Mem → Prop}    (hP : ∀ x9, f_X11_money S  = x9 → PP (some (vi x9)) S) : BW O G fdX11_money 0 0 (QV O G 0 0 PP) S 0 [some (vr 11 0), none, none] [] := by
  refine a_aload_n (pc := 0) 0 0 rfl rfl ?_
  refine g_11_books (pc := 1) 0 1 rfl fl_X11_10 ?_
  refine a_callVi (pc := 4) 0 2 (c_X3_goodNotesOfHolders (S := S) ) rfl cv_X11_302 (by decide) rfl rfl rfl (rm rfl) ?_
  refine a_seti (fun v1 ev1 => ?_)
  refine a_istore_n (pc := 7) 0 3 (ls2 := [some (vr 11 0), some (vi v1), none]) rfl rfl (by decide) rfl ?_
  refine a_iconst (pc := 8) 0 4 (v := 0) rfl (by decide) ?_
  refine a_istore_n (pc := 9) 0 5 (ls2 := [some (vr 11 0), some (vi v1), some (vi 0)]) rfl rfl (by decide) rfl ?_
  have L10_3 : ∀ (m_j2 j2 : Nat), j2 + m_j2 = 16 → ∀ (σ3 : Int32), iter (b10_X11_money S) v1 j2 = σ3 → BW O G fdX11_money 0 0 (QV O G 0 0 PP) S 10 [some (vr 11 0), some (vi σ3), some (vi (nI j2))] [] := by
    intro m_j2
    induction m_j2 with
    | zero =>
      intro j2 hj_j2 σ3 eσ3
      have hn_j2 : j2 = 16 := by omega
      rw [hn_j2] at eσ3
      refine a_iload_n (pc := 10) 0 6 rfl rfl ?_
      refine a_bipush (pc := 11) 0 7 (v := nI 16) rfl (by decide) ?_
      refine a_icmp_ge_t (pc := 13) (tgt := 36) 0 8 rfl (by decide) (nI_le (by omega) (by omega)) ?_
      refine a_iload_n (pc := 36) 0 19 rfl rfl ?_
      exact a_iret (pc := 37) 0 20 rfl rfl (hP _ (by unfold f_X11_money; exact (lt_eq ev1).trans (lt_eq eσ3)))
    | succ m_j2 ih_j2 =>
      intro j2 hj_j2 σ3 eσ3
      refine a_iload_n (pc := 10) 0 6 rfl rfl ?_
      refine a_bipush (pc := 11) 0 7 (v := nI 16) rfl (by decide) ?_
      refine a_icmp_ge_f (pc := 13) (tgt := 36) 0 8 rfl (nI_ge (by omega) (by omega)) (by decide) ?_
      refine a_iload_n (pc := 16) 0 9 rfl rfl ?_
      refine a_aload_n (pc := 17) 0 10 rfl rfl ?_
      refine g_11_books (pc := 18) 0 11 rfl fl_X11_10 ?_
      refine a_iload_n (pc := 21) 0 12 rfl rfl ?_
      refine a_callVr (pc := 22) 0 13 (c_X3_holder (S := S) (nI j2)) rfl cv_X11_45 (by decide) rfl rfl rfl (rm rfl) ?_
      refine g_5_balance (pc := 25) 0 14 rfl (show f_X3_holder S (nI j2) < 17 from r_X3_holder) fl_X11_91 ?_
      refine a_iadd (pc := 28) 0 15 rfl ?_
      refine a_istore_n (pc := 29) 0 16 (ls2 := [some (vr 11 0), some (vi (σ3 + (S.1 kAccounts (f_X3_holder S (nI j2))))), some (vi (nI j2))]) rfl rfl (by decide) rfl ?_
      refine a_iinc (pc := 30) 0 17 (v := nI (j2 + 1)) (ls2 := [some (vr 11 0), some (vi (σ3 + (S.1 kAccounts (f_X3_holder S (nI j2))))), some (vi (nI (j2 + 1)))]) rfl rfl (iinc1 _) (by decide) rfl ?_
      refine a_goto (pc := 33) (tgt := 10) 0 18 rfl (by decide) ?_
      exact ih_j2 (j2 + 1) (by omega) (σ3 + (S.1 kAccounts (f_X3_holder S (nI j2)))) (by rw [iter_succ, eσ3]; unfold b10_X11_money; exact rfl)
  exact L10_3 (16) 0 (by omega) v1 rfl
theorem c_X11_money {S : Mem}    : Cts mdX11_money 2 45 [vr 11 0] S (Is (some (vi (f_X11_money S ))) (S)) := Cts.of dtX11_money (by decide +kernel) rfl rfl (Nat.le_of_ble_eq_true rfl) rfl (fun O G => w_X11_money  (fun _ h9 => ⟨by rw [h9], rfl⟩))
def f_X11_price (S : Mem) (p1 : Int32) : Int32 := S.1 kPrices (f_X3_holder S p1)
def ok_X11_price (S : Mem) (p1 : Int32) : Prop := ((ok_X11_needFirm S p1))
abbrev fdX11_price : FD := (mdX11_price, [], 2, 40, 0, 0)
set_option maxRecDepth 100000 in
set_option maxHeartbeats 4000000 in
theorem w_X11_price {O : Om} {G : Cx} {S : Mem} {PP : Option AV → Mem → Prop} (p1 : Int32)   (h : ok_X11_price S p1) (hP : ∀ x9, f_X11_price S p1 = x9 → PP (some (vi x9)) S) : BW O G fdX11_price 0 0 (QV O G 0 0 PP) S 0 [some (vr 11 0), some (vi p1)] [] := by
  refine a_iload_n (pc := 0) 0 0 rfl rfl ?_
  have o1 := h
  refine a_callSv (pc := 1) 0 1 (c_X11_needFirm (S := S) p1 o1) rfl cs_X11_226 rfl (rm rfl) ?_
  refine a_aload_n (pc := 4) 0 2 rfl rfl ?_
  refine g_11_books (pc := 5) 0 3 rfl fl_X11_10 ?_
  refine a_iload_n (pc := 8) 0 4 rfl rfl ?_
  refine a_callVr (pc := 9) 0 5 (c_X3_holder (S := S) p1) rfl cv_X11_45 (by decide) rfl rfl rfl (rm rfl) ?_
  refine g_5_price (pc := 12) 0 6 rfl (show f_X3_holder S p1 < 17 from r_X3_holder) fl_X11_244 ?_
  exact a_iret (pc := 15) 0 7 rfl rfl (hP _ (by unfold f_X11_price; exact rfl))
theorem c_X11_price {S : Mem} (p1 : Int32)   (h : ok_X11_price S p1) : Cts mdX11_price 2 40 [vr 11 0, vi p1] S (Is (some (vi (f_X11_price S p1))) (S)) := Cts.of dtX11_price (by decide +kernel) rfl rfl (Nat.le_of_ble_eq_true rfl) rfl (fun O G => w_X11_price p1 h (fun _ h9 => ⟨by rw [h9], rfl⟩))
def okx_X11_price_1 (S : Mem) (p1 : Int32) : Prop := ((okx_X11_needFirm_1 S p1))
abbrev fqX11_price_1 : FD := (mdX11_price, [], 8, 122, 1, 6)
set_option maxRecDepth 100000 in
set_option maxHeartbeats 4000000 in
theorem q_X11_price_1 {S : Mem} (p1 : Int32)  (h : okx_X11_price_1 S p1) : Cqs mdX11_price 8 122 [vr 11 0, vi p1] S xIdx := Cqs.of dtX11_price (by decide +kernel) rfl rfl (Nat.le_of_ble_eq_true rfl) rfl (fun O G => by
  show BW O G fqX11_price_1 0 0 _ S 0 _ []
  refine a_iload_n (pc := 0) 0 0 rfl rfl ?_
  have o1 := h
  refine a_callSX (pc := 1) 0 1 (q_X11_needFirm_1 (S := S) p1 o1) rfl cs_X11_226 rfl (rm rfl) ?_
  exact a_out rfl (by decide) (by decide))
def f_X11_sales (S : Mem) (p1 : Int32) (p2 : Int32) : Int32 := lt (if p1 < 0 then (0) else (if (S.1 kDays 0) < p1 then (0) else (1))) (fun (v3 : Int32) => lt (f_X10_goodsBoughtOn S p1 p2) (fun (v6 : Int32) => v6))
def ok_X11_sales (S : Mem) (p1 : Int32) (p2 : Int32) : Prop := ((∀ v3 : Int32, (if p1 < 0 then (0) else (if (S.1 kDays 0) < p1 then (0) else (1))) = v3 → ((ok_X11_needIndex S v3) ∧ (ok_X10_goodsBoughtOn S p1 p2))))
abbrev fdX11_sales : FD := (mdX11_sales, [], 2, 48, 0, 0)
set_option maxRecDepth 100000 in
set_option maxHeartbeats 4000000 in
theorem w_X11_sales {O : Om} {G : Cx} {S : Mem} {PP : Option AV → Mem → Prop} (p1 : Int32) (p2 : Int32)  (hb_p2 : p2 = 0 ∨ p2 = 1) (h : ok_X11_sales S p1 p2) (hP : ∀ x9, f_X11_sales S p1 p2 = x9 → PP (some (vi x9)) S) : BW O G fdX11_sales 0 0 (QV O G 0 0 PP) S 0 [some (vr 11 0), some (vi p1), some (vi p2)] [] := by
  refine a_iload_n (pc := 0) 0 0 rfl rfl ?_
  have J17_6 : ∀ (v3 : Int32) (ev3 : (if p1 < 0 then (0) else (if (S.1 kDays 0) < p1 then (0) else (1))) = v3), BW O G fdX11_sales 0 0 (QV O G 0 0 PP) S 17 [some (vr 11 0), some (vi p1), some (vi p2)] [vi v3] := by
    intro v3 ev3
    have h := h v3 ev3
    obtain ⟨o4, h⟩ := h
    refine a_callSv (pc := 17) 0 9 (c_X11_needIndex (S := S) v3 (by rw [← ev3]; repeat (first | exact Or.inl rfl | exact Or.inr rfl | assumption | split | dsimp only [lt])) o4) rfl cs_X11_291 rfl (rm rfl) ?_
    refine a_aload_n (pc := 20) 0 10 rfl rfl ?_
    refine g_11_payments (pc := 21) 0 11 rfl fl_X11_19 ?_
    refine a_iload_n (pc := 24) 0 12 rfl rfl ?_
    refine a_iload_n (pc := 25) 0 13 rfl rfl ?_
    have o5 := h
    refine a_callVi (pc := 26) 0 14 (c_X10_goodsBoughtOn (S := S) p1 p2 (hb_p2) o5) rfl cv_X11_305 (by decide) rfl rfl rfl (rm rfl) ?_
    refine a_seti (fun v6 ev6 => ?_)
    exact a_iret (pc := 29) 0 15 rfl rfl (hP _ (by unfold f_X11_sales; exact (lt_eq ev3).trans (lt_eq ev6)))
  refine a_if_lt (pc := 1) (tgt := 16) 0 1 rfl (by decide) (fun c1_0 => ?_) (fun c1_0 => ?_)
  · refine a_iconst (pc := 16) 0 8 (v := 0) rfl (by decide) ?_
    exact J17_6 _ (by exact (if_pos c1_0))
  · refine a_iload_n (pc := 4) 0 2 rfl rfl ?_
    refine a_aload_n (pc := 5) 0 3 rfl rfl ?_
    refine g_11_today (pc := 6) 0 4 rfl fl_X11_119 ?_
    refine a_icmp_gt (pc := 9) (tgt := 16) 0 5 rfl (by decide) (fun c9_1 => ?_) (fun c9_1 => ?_)
    · refine a_iconst (pc := 16) 0 8 (v := 0) rfl (by decide) ?_
      exact J17_6 _ (by exact ((if_neg c1_0).trans (if_pos c9_1)))
    · refine a_iconst (pc := 12) 0 6 (v := 1) rfl (by decide) ?_
      refine a_goto (pc := 13) (tgt := 17) 0 7 rfl (by decide) ?_
      exact J17_6 _ (by exact ((if_neg c1_0).trans (if_neg c9_1)))
theorem c_X11_sales {S : Mem} (p1 : Int32) (p2 : Int32)  (hb_p2 : p2 = 0 ∨ p2 = 1) (h : ok_X11_sales S p1 p2) : Cts mdX11_sales 2 48 [vr 11 0, vi p1, vi p2] S (Is (some (vi (f_X11_sales S p1 p2))) (S)) := Cts.of dtX11_sales (by decide +kernel) rfl rfl (Nat.le_of_ble_eq_true rfl) rfl (fun O G => w_X11_sales p1 p2 hb_p2 h (fun _ h9 => ⟨by rw [h9], rfl⟩))
def okx_X11_sales_1 (S : Mem) (p1 : Int32) (p2 : Int32) : Prop := ((∀ v3 : Int32, (if p1 < 0 then (0) else (if (S.1 kDays 0) < p1 then (0) else (1))) = v3 → ((okx_X11_needIndex S v3))))
abbrev fqX11_sales_1 : FD := (mdX11_sales, [], 7, 102, 1, 6)
set_option maxRecDepth 100000 in
set_option maxHeartbeats 4000000 in
theorem q_X11_sales_1 {S : Mem} (p1 : Int32) (p2 : Int32)  (hb_p2 : p2 = 0 ∨ p2 = 1) (h : okx_X11_sales_1 S p1 p2) : Cqs mdX11_sales 7 102 [vr 11 0, vi p1, vi p2] S xIdx := Cqs.of dtX11_sales (by decide +kernel) rfl rfl (Nat.le_of_ble_eq_true rfl) rfl (fun O G => by
  show BW O G fqX11_sales_1 0 0 _ S 0 _ []
  refine a_iload_n (pc := 0) 0 0 rfl rfl ?_
  have J17_4 : ∀ (v3 : Int32) (ev3 : (if p1 < 0 then (0) else (if (S.1 kDays 0) < p1 then (0) else (1))) = v3), BW O G fqX11_sales_1 0 0 (QX O G S xIdx) S 17 [some (vr 11 0), some (vi p1), some (vi p2)] [vi v3] := by
    intro v3 ev3
    have h := h v3 ev3
    have o4 := h
    refine a_callSX (pc := 17) 0 9 (q_X11_needIndex (S := S) v3 (by rw [← ev3]; repeat (first | exact Or.inl rfl | exact Or.inr rfl | assumption | split | dsimp only [lt])) o4) rfl cs_X11_291 rfl (rm rfl) ?_
    exact a_out rfl (by decide) (by decide)
  refine a_if_lt (pc := 1) (tgt := 16) 0 1 rfl (by decide) (fun c1_0 => ?_) (fun c1_0 => ?_)
  · refine a_iconst (pc := 16) 0 8 (v := 0) rfl (by decide) ?_
    exact J17_4 _ (by exact (if_pos c1_0))
  · refine a_iload_n (pc := 4) 0 2 rfl rfl ?_
    refine a_aload_n (pc := 5) 0 3 rfl rfl ?_
    refine g_11_today (pc := 6) 0 4 rfl fl_X11_119 ?_
    refine a_icmp_gt (pc := 9) (tgt := 16) 0 5 rfl (by decide) (fun c9_1 => ?_) (fun c9_1 => ?_)
    · refine a_iconst (pc := 16) 0 8 (v := 0) rfl (by decide) ?_
      exact J17_4 _ (by exact ((if_neg c1_0).trans (if_pos c9_1)))
    · refine a_iconst (pc := 12) 0 6 (v := 1) rfl (by decide) ?_
      refine a_goto (pc := 13) (tgt := 17) 0 7 rfl (by decide) ?_
      exact J17_4 _ (by exact ((if_neg c1_0).trans (if_neg c9_1))))
