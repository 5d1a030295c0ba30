/-! the law's wrappers -/
set_option maxRecDepth 100000 in
theorem n_L_mint {S : Mem} (p1 : Int32) (p2 : Int32) (h : ok_X11_mint S p1 p2) : Chs mdL_mint hhL_mint 3 67 0 0 [vr 11 0, vi p1, vi p2, vr 63 0] S (Is (some (vi 0)) (((f_X11_mint S p1 p2).2).1, ((f_X11_mint S p1 p2).2).2.1, ((f_X11_mint S p1 p2).1).toInt64)) := Chs.of dtL_mint (by decide +kernel) rfl rfl (Nat.le_of_ble_eq_true rfl) (ls := [some (vr 11 0), some (vi p1), some (vi p2), some (vr 63 0), none]) rfl (fun O G => by
  refine a_aload_n (pc := 0) 0 0 rfl rfl ?_
  refine a_iconst (pc := 1) 0 1 (v := 0) rfl (by decide) ?_
  refine a_aload_n (pc := 2) 0 2 rfl rfl ?_
  refine a_iload_n (pc := 3) 0 3 rfl rfl ?_
  refine a_iload_n (pc := 4) 0 4 rfl rfl ?_
  refine a_callVi (pc := 5) 0 5 (c_X11_mint (S := S) p1 p2 h) rfl cv_L_7 (by decide) rfl rfl rfl (rm rfl) ?_
  refine a_i2l (pc := 8) 0 6 rfl ?_
  refine a_last (pc := 9) 0 7 rfl rfl ?_
  refine a_goto (pc := 10) (tgt := 21) 0 8 rfl (by decide) ?_
  refine a_iconst (pc := 21) 0 15 (v := 0) rfl (by decide) ?_
  exact a_iret (pc := 22) 0 16 rfl rfl ⟨rfl, rfl⟩)
set_option maxRecDepth 100000 in
theorem x_L_mint_1 {S : Mem} (p1 : Int32) (p2 : Int32) (h : okx_X11_mint_1 S p1 p2) : Chs mdL_mint hhL_mint 9 145 1 6 [vr 11 0, vi p1, vi p2, vr 63 0] S (Is (some (vi 1)) S) := Chs.of dtL_mint (by decide +kernel) rfl rfl (Nat.le_of_ble_eq_true rfl) (ls := [some (vr 11 0), some (vi p1), some (vi p2), some (vr 63 0), none]) rfl (fun O G => by
  refine a_aload_n (pc := 0) 0 0 rfl rfl ?_
  refine a_iconst (pc := 1) 0 1 (v := 0) rfl (by decide) ?_
  refine a_aload_n (pc := 2) 0 2 rfl rfl ?_
  refine a_iload_n (pc := 3) 0 3 rfl rfl ?_
  refine a_iload_n (pc := 4) 0 4 rfl rfl ?_
  refine a_callVX (pc := 5) 0 5 (q_X11_mint_1 (S := S) p1 p2 h) rfl cv_L_7 (by decide) rfl rfl rfl (rm rfl) ?_
  refine a_catch [] (0, 10, 13, 13) [(0, 10, 17, 15)] rfl (by
    intro z hz
    cases hz) rfl (by decide) clW_L_13 castW_xIdx (fun q9 => ?_)
  refine a_astoreX (pc := 13) 0 9 (ls2 := [some (vr 11 0), some (vi p1), some (vi p2), some (vr 63 0), some (.inl (.ref q9))]) rfl (by decide) rfl ?_
  refine a_iconst (pc := 15) 0 10 (v := 1) rfl (by decide) ?_
  exact a_iret (pc := 16) 0 11 rfl rfl ⟨rfl, rfl⟩)
set_option maxRecDepth 100000 in
theorem x_L_mint_2 {S : Mem} (p1 : Int32) (p2 : Int32) (h : okx_X11_mint_2 S p1 p2) : Chs mdL_mint hhL_mint 9 147 1 6 [vr 11 0, vi p1, vi p2, vr 63 0] S (Is (some (vi (nI 2))) S) := Chs.of dtL_mint (by decide +kernel) rfl rfl (Nat.le_of_ble_eq_true rfl) (ls := [some (vr 11 0), some (vi p1), some (vi p2), some (vr 63 0), none]) rfl (fun O G => by
  refine a_aload_n (pc := 0) 0 0 rfl rfl ?_
  refine a_iconst (pc := 1) 0 1 (v := 0) rfl (by decide) ?_
  refine a_aload_n (pc := 2) 0 2 rfl rfl ?_
  refine a_iload_n (pc := 3) 0 3 rfl rfl ?_
  refine a_iload_n (pc := 4) 0 4 rfl rfl ?_
  refine a_callVX (pc := 5) 0 5 (q_X11_mint_2 (S := S) p1 p2 h) rfl cv_L_7 (by decide) rfl rfl rfl (rm rfl) ?_
  refine a_catch [(0, 10, 13, 13)] (0, 10, 17, 15) [] rfl (by
    intro z hz
    rcases List.mem_cons.mp hz with rfl | hz
    · exact ⟨by decide, _, clW_L_13, Or.inl ⟨rfl, rfl⟩⟩
    cases hz) rfl (by decide) clW_L_15 castW_xArg (fun q9 => ?_)
  refine a_astoreX (pc := 17) 0 12 (ls2 := [some (vr 11 0), some (vi p1), some (vi p2), some (vr 63 0), some (.inl (.ref q9))]) rfl (by decide) rfl ?_
  refine a_iconst (pc := 19) 0 13 (v := nI 2) rfl (by decide) ?_
  exact a_iret (pc := 20) 0 14 rfl rfl ⟨rfl, rfl⟩)
set_option maxRecDepth 100000 in
theorem n_L_forge {S : Mem} (p1 : Int32) (p2 : Int32) (h : ok_X11_forge S p1 p2) : Chs mdL_forge hhL_forge 3 65 0 0 [vr 11 0, vi p1, vi p2, vr 63 0] S (Is (some (vi 0)) (((f_X11_forge S p1 p2).2).1, ((f_X11_forge S p1 p2).2).2.1, ((f_X11_forge S p1 p2).1).toInt64)) := Chs.of dtL_forge (by decide +kernel) rfl rfl (Nat.le_of_ble_eq_true rfl) (ls := [some (vr 11 0), some (vi p1), some (vi p2), some (vr 63 0), none]) rfl (fun O G => by
  refine a_aload_n (pc := 0) 0 0 rfl rfl ?_
  refine a_iconst (pc := 1) 0 1 (v := 0) rfl (by decide) ?_
  refine a_aload_n (pc := 2) 0 2 rfl rfl ?_
  refine a_iload_n (pc := 3) 0 3 rfl rfl ?_
  refine a_iload_n (pc := 4) 0 4 rfl rfl ?_
  refine a_callVi (pc := 5) 0 5 (c_X11_forge (S := S) p1 p2 h) rfl cv_L_17 (by decide) rfl rfl rfl (rm rfl) ?_
  refine a_i2l (pc := 8) 0 6 rfl ?_
  refine a_last (pc := 9) 0 7 rfl rfl ?_
  refine a_goto (pc := 10) (tgt := 21) 0 8 rfl (by decide) ?_
  refine a_iconst (pc := 21) 0 15 (v := 0) rfl (by decide) ?_
  exact a_iret (pc := 22) 0 16 rfl rfl ⟨rfl, rfl⟩)
set_option maxRecDepth 100000 in
theorem x_L_forge_1 {S : Mem} (p1 : Int32) (p2 : Int32) (h : okx_X11_forge_1 S p1 p2) : Chs mdL_forge hhL_forge 9 145 1 6 [vr 11 0, vi p1, vi p2, vr 63 0] S (Is (some (vi 1)) S) := Chs.of dtL_forge (by decide +kernel) rfl rfl (Nat.le_of_ble_eq_true rfl) (ls := [some (vr 11 0), some (vi p1), some (vi p2), some (vr 63 0), none]) rfl (fun O G => by
  refine a_aload_n (pc := 0) 0 0 rfl rfl ?_
  refine a_iconst (pc := 1) 0 1 (v := 0) rfl (by decide) ?_
  refine a_aload_n (pc := 2) 0 2 rfl rfl ?_
  refine a_iload_n (pc := 3) 0 3 rfl rfl ?_
  refine a_iload_n (pc := 4) 0 4 rfl rfl ?_
  refine a_callVX (pc := 5) 0 5 (q_X11_forge_1 (S := S) p1 p2 h) rfl cv_L_17 (by decide) rfl rfl rfl (rm rfl) ?_
  refine a_catch [] (0, 10, 13, 13) [(0, 10, 17, 15)] rfl (by
    intro z hz
    cases hz) rfl (by decide) clW_L_13 castW_xIdx (fun q9 => ?_)
  refine a_astoreX (pc := 13) 0 9 (ls2 := [some (vr 11 0), some (vi p1), some (vi p2), some (vr 63 0), some (.inl (.ref q9))]) rfl (by decide) rfl ?_
  refine a_iconst (pc := 15) 0 10 (v := 1) rfl (by decide) ?_
  exact a_iret (pc := 16) 0 11 rfl rfl ⟨rfl, rfl⟩)
set_option maxRecDepth 100000 in
theorem x_L_forge_2 {S : Mem} (p1 : Int32) (p2 : Int32) (h : okx_X11_forge_2 S p1 p2) : Chs mdL_forge hhL_forge 9 147 1 6 [vr 11 0, vi p1, vi p2, vr 63 0] S (Is (some (vi (nI 2))) S) := Chs.of dtL_forge (by decide +kernel) rfl rfl (Nat.le_of_ble_eq_true rfl) (ls := [some (vr 11 0), some (vi p1), some (vi p2), some (vr 63 0), none]) rfl (fun O G => by
  refine a_aload_n (pc := 0) 0 0 rfl rfl ?_
  refine a_iconst (pc := 1) 0 1 (v := 0) rfl (by decide) ?_
  refine a_aload_n (pc := 2) 0 2 rfl rfl ?_
  refine a_iload_n (pc := 3) 0 3 rfl rfl ?_
  refine a_iload_n (pc := 4) 0 4 rfl rfl ?_
  refine a_callVX (pc := 5) 0 5 (q_X11_forge_2 (S := S) p1 p2 h) rfl cv_L_17 (by decide) rfl rfl rfl (rm rfl) ?_
  refine a_catch [(0, 10, 13, 13)] (0, 10, 17, 15) [] rfl (by
    intro z hz
    rcases List.mem_cons.mp hz with rfl | hz
    · exact ⟨by decide, _, clW_L_13, Or.inl ⟨rfl, rfl⟩⟩
    cases hz) rfl (by decide) clW_L_15 castW_xArg (fun q9 => ?_)
  refine a_astoreX (pc := 17) 0 12 (ls2 := [some (vr 11 0), some (vi p1), some (vi p2), some (vr 63 0), some (.inl (.ref q9))]) rfl (by decide) rfl ?_
  refine a_iconst (pc := 19) 0 13 (v := nI 2) rfl (by decide) ?_
  exact a_iret (pc := 20) 0 14 rfl rfl ⟨rfl, rfl⟩)
set_option maxRecDepth 100000 in
theorem n_L_hand {S : Mem} (p1 : Int32) (p2 : Int32) (p3 : Int32) (h : ok_X11_hand S p1 p2 p3) : Chs mdL_hand hhL_hand 3 68 0 0 [vr 11 0, vi p1, vi p2, vi p3, vr 63 0] S (Is (some (vi 0)) (((f_X11_hand S p1 p2 p3).2).1, ((f_X11_hand S p1 p2 p3).2).2.1, ((f_X11_hand S p1 p2 p3).1).toInt64)) := Chs.of dtL_hand (by decide +kernel) rfl rfl (Nat.le_of_ble_eq_true rfl) (ls := [some (vr 11 0), some (vi p1), some (vi p2), some (vi p3), some (vr 63 0), none]) rfl (fun O G => by
  refine a_aload (pc := 0) 0 0 rfl rfl ?_
  refine a_iconst (pc := 2) 0 1 (v := 0) rfl (by decide) ?_
  refine a_aload_n (pc := 3) 0 2 rfl rfl ?_
  refine a_iload_n (pc := 4) 0 3 rfl rfl ?_
  refine a_iload_n (pc := 5) 0 4 rfl rfl ?_
  refine a_iload_n (pc := 6) 0 5 rfl rfl ?_
  refine a_callVi (pc := 7) 0 6 (c_X11_hand (S := S) p1 p2 p3 h) rfl cv_L_20 (by decide) rfl rfl rfl (rm rfl) ?_
  refine a_i2l (pc := 10) 0 7 rfl ?_
  refine a_last (pc := 11) 0 8 rfl rfl ?_
  refine a_goto (pc := 12) (tgt := 27) 0 9 rfl (by decide) ?_
  refine a_iconst (pc := 27) 0 19 (v := 0) rfl (by decide) ?_
  exact a_iret (pc := 28) 0 20 rfl rfl ⟨rfl, rfl⟩)
set_option maxRecDepth 100000 in
theorem x_L_hand_1 {S : Mem} (p1 : Int32) (p2 : Int32) (p3 : Int32) (h : okx_X11_hand_1 S p1 p2 p3) : Chs mdL_hand hhL_hand 9 147 1 6 [vr 11 0, vi p1, vi p2, vi p3, vr 63 0] S (Is (some (vi 1)) S) := Chs.of dtL_hand (by decide +kernel) rfl rfl (Nat.le_of_ble_eq_true rfl) (ls := [some (vr 11 0), some (vi p1), some (vi p2), some (vi p3), some (vr 63 0), none]) rfl (fun O G => by
  refine a_aload (pc := 0) 0 0 rfl rfl ?_
  refine a_iconst (pc := 2) 0 1 (v := 0) rfl (by decide) ?_
  refine a_aload_n (pc := 3) 0 2 rfl rfl ?_
  refine a_iload_n (pc := 4) 0 3 rfl rfl ?_
  refine a_iload_n (pc := 5) 0 4 rfl rfl ?_
  refine a_iload_n (pc := 6) 0 5 rfl rfl ?_
  refine a_callVX (pc := 7) 0 6 (q_X11_hand_1 (S := S) p1 p2 p3 h) rfl cv_L_20 (by decide) rfl rfl rfl (rm rfl) ?_
  refine a_catch [] (0, 12, 15, 13) [(0, 12, 19, 15), (0, 12, 23, 24)] rfl (by
    intro z hz
    cases hz) rfl (by decide) clW_L_13 castW_xIdx (fun q9 => ?_)
  refine a_astoreX (pc := 15) 0 10 (ls2 := [some (vr 11 0), some (vi p1), some (vi p2), some (vi p3), some (vr 63 0), some (.inl (.ref q9))]) rfl (by decide) rfl ?_
  refine a_iconst (pc := 17) 0 11 (v := 1) rfl (by decide) ?_
  exact a_iret (pc := 18) 0 12 rfl rfl ⟨rfl, rfl⟩)
set_option maxRecDepth 100000 in
theorem x_L_hand_2 {S : Mem} (p1 : Int32) (p2 : Int32) (p3 : Int32) (h : okx_X11_hand_2 S p1 p2 p3) : Chs mdL_hand hhL_hand 9 147 1 6 [vr 11 0, vi p1, vi p2, vi p3, vr 63 0] S (Is (some (vi 1)) S) := Chs.of dtL_hand (by decide +kernel) rfl rfl (Nat.le_of_ble_eq_true rfl) (ls := [some (vr 11 0), some (vi p1), some (vi p2), some (vi p3), some (vr 63 0), none]) rfl (fun O G => by
  refine a_aload (pc := 0) 0 0 rfl rfl ?_
  refine a_iconst (pc := 2) 0 1 (v := 0) rfl (by decide) ?_
  refine a_aload_n (pc := 3) 0 2 rfl rfl ?_
  refine a_iload_n (pc := 4) 0 3 rfl rfl ?_
  refine a_iload_n (pc := 5) 0 4 rfl rfl ?_
  refine a_iload_n (pc := 6) 0 5 rfl rfl ?_
  refine a_callVX (pc := 7) 0 6 (q_X11_hand_2 (S := S) p1 p2 p3 h) rfl cv_L_20 (by decide) rfl rfl rfl (rm rfl) ?_
  refine a_catch [] (0, 12, 15, 13) [(0, 12, 19, 15), (0, 12, 23, 24)] rfl (by
    intro z hz
    cases hz) rfl (by decide) clW_L_13 castW_xIdx (fun q9 => ?_)
  refine a_astoreX (pc := 15) 0 10 (ls2 := [some (vr 11 0), some (vi p1), some (vi p2), some (vi p3), some (vr 63 0), some (.inl (.ref q9))]) rfl (by decide) rfl ?_
  refine a_iconst (pc := 17) 0 11 (v := 1) rfl (by decide) ?_
  exact a_iret (pc := 18) 0 12 rfl rfl ⟨rfl, rfl⟩)
set_option maxRecDepth 100000 in
theorem x_L_hand_3 {S : Mem} (p1 : Int32) (p2 : Int32) (p3 : Int32) (h : okx_X11_hand_3 S p1 p2 p3) : Chs mdL_hand hhL_hand 8 127 1 6 [vr 11 0, vi p1, vi p2, vi p3, vr 63 0] S (Is (some (vi (nI 2))) S) := Chs.of dtL_hand (by decide +kernel) rfl rfl (Nat.le_of_ble_eq_true rfl) (ls := [some (vr 11 0), some (vi p1), some (vi p2), some (vi p3), some (vr 63 0), none]) rfl (fun O G => by
  refine a_aload (pc := 0) 0 0 rfl rfl ?_
  refine a_iconst (pc := 2) 0 1 (v := 0) rfl (by decide) ?_
  refine a_aload_n (pc := 3) 0 2 rfl rfl ?_
  refine a_iload_n (pc := 4) 0 3 rfl rfl ?_
  refine a_iload_n (pc := 5) 0 4 rfl rfl ?_
  refine a_iload_n (pc := 6) 0 5 rfl rfl ?_
  refine a_callVX (pc := 7) 0 6 (q_X11_hand_3 (S := S) p1 p2 p3 h) rfl cv_L_20 (by decide) rfl rfl rfl (rm rfl) ?_
  refine a_catch [(0, 12, 15, 13)] (0, 12, 19, 15) [(0, 12, 23, 24)] rfl (by
    intro z hz
    rcases List.mem_cons.mp hz with rfl | hz
    · exact ⟨by decide, _, clW_L_13, Or.inl ⟨rfl, rfl⟩⟩
    cases hz) rfl (by decide) clW_L_15 castW_xArg (fun q9 => ?_)
  refine a_astoreX (pc := 19) 0 13 (ls2 := [some (vr 11 0), some (vi p1), some (vi p2), some (vi p3), some (vr 63 0), some (.inl (.ref q9))]) rfl (by decide) rfl ?_
  refine a_iconst (pc := 21) 0 14 (v := nI 2) rfl (by decide) ?_
  exact a_iret (pc := 22) 0 15 rfl rfl ⟨rfl, rfl⟩)
set_option maxRecDepth 100000 in
theorem x_L_hand_4 {S : Mem} (p1 : Int32) (p2 : Int32) (p3 : Int32) (h : okx_X11_hand_4 S p1 p2 p3) : Chs mdL_hand hhL_hand 9 149 1 6 [vr 11 0, vi p1, vi p2, vi p3, vr 63 0] S (Is (some (vi (nI 2))) S) := Chs.of dtL_hand (by decide +kernel) rfl rfl (Nat.le_of_ble_eq_true rfl) (ls := [some (vr 11 0), some (vi p1), some (vi p2), some (vi p3), some (vr 63 0), none]) rfl (fun O G => by
  refine a_aload (pc := 0) 0 0 rfl rfl ?_
  refine a_iconst (pc := 2) 0 1 (v := 0) rfl (by decide) ?_
  refine a_aload_n (pc := 3) 0 2 rfl rfl ?_
  refine a_iload_n (pc := 4) 0 3 rfl rfl ?_
  refine a_iload_n (pc := 5) 0 4 rfl rfl ?_
  refine a_iload_n (pc := 6) 0 5 rfl rfl ?_
  refine a_callVX (pc := 7) 0 6 (q_X11_hand_4 (S := S) p1 p2 p3 h) rfl cv_L_20 (by decide) rfl rfl rfl (rm rfl) ?_
  refine a_catch [(0, 12, 15, 13)] (0, 12, 19, 15) [(0, 12, 23, 24)] rfl (by
    intro z hz
    rcases List.mem_cons.mp hz with rfl | hz
    · exact ⟨by decide, _, clW_L_13, Or.inl ⟨rfl, rfl⟩⟩
    cases hz) rfl (by decide) clW_L_15 castW_xArg (fun q9 => ?_)
  refine a_astoreX (pc := 19) 0 13 (ls2 := [some (vr 11 0), some (vi p1), some (vi p2), some (vi p3), some (vr 63 0), some (.inl (.ref q9))]) rfl (by decide) rfl ?_
  refine a_iconst (pc := 21) 0 14 (v := nI 2) rfl (by decide) ?_
  exact a_iret (pc := 22) 0 15 rfl rfl ⟨rfl, rfl⟩)
set_option maxRecDepth 100000 in
theorem x_L_hand_5 {S : Mem} (p1 : Int32) (p2 : Int32) (p3 : Int32) (h : okx_X11_hand_5 S p1 p2 p3) : Chs mdL_hand hhL_hand 8 127 1 6 [vr 11 0, vi p1, vi p2, vi p3, vr 63 0] S (Is (some (vi (nI 3))) S) := Chs.of dtL_hand (by decide +kernel) rfl rfl (Nat.le_of_ble_eq_true rfl) (ls := [some (vr 11 0), some (vi p1), some (vi p2), some (vi p3), some (vr 63 0), none]) rfl (fun O G => by
  refine a_aload (pc := 0) 0 0 rfl rfl ?_
  refine a_iconst (pc := 2) 0 1 (v := 0) rfl (by decide) ?_
  refine a_aload_n (pc := 3) 0 2 rfl rfl ?_
  refine a_iload_n (pc := 4) 0 3 rfl rfl ?_
  refine a_iload_n (pc := 5) 0 4 rfl rfl ?_
  refine a_iload_n (pc := 6) 0 5 rfl rfl ?_
  refine a_callVX (pc := 7) 0 6 (q_X11_hand_5 (S := S) p1 p2 p3 h) rfl cv_L_20 (by decide) rfl rfl rfl (rm rfl) ?_
  refine a_catch [(0, 12, 15, 13), (0, 12, 19, 15)] (0, 12, 23, 24) [] rfl (by
    intro z hz
    rcases List.mem_cons.mp hz with rfl | hz
    · exact ⟨by decide, _, clW_L_13, Or.inr (Or.inl ⟨rfl, rfl⟩)⟩
    rcases List.mem_cons.mp hz with rfl | hz
    · exact ⟨by decide, _, clW_L_15, Or.inr (Or.inr ⟨rfl, rfl⟩)⟩
    cases hz) rfl (by decide) clW_L_24 castW_xSta (fun q9 => ?_)
  refine a_astoreX (pc := 23) 0 16 (ls2 := [some (vr 11 0), some (vi p1), some (vi p2), some (vi p3), some (vr 63 0), some (.inl (.ref q9))]) rfl (by decide) rfl ?_
  refine a_iconst (pc := 25) 0 17 (v := nI 3) rfl (by decide) ?_
  exact a_iret (pc := 26) 0 18 rfl rfl ⟨rfl, rfl⟩)
set_option maxRecDepth 100000 in
theorem n_L_open {S : Mem} (p1 : Int32) (p2 : Int32) (h : ok_X11_open S p1 p2) : Chs mdL_open hhL_open 3 68 0 0 [vr 11 0, vi p1, vi p2, vr 63 0] S (Is (some (vi 0)) (((f_X11_open S p1 p2).2).1, ((f_X11_open S p1 p2).2).2.1, ((f_X11_open S p1 p2).1).toInt64)) := Chs.of dtL_open (by decide +kernel) rfl rfl (Nat.le_of_ble_eq_true rfl) (ls := [some (vr 11 0), some (vi p1), some (vi p2), some (vr 63 0), none]) rfl (fun O G => by
  refine a_aload_n (pc := 0) 0 0 rfl rfl ?_
  refine a_iconst (pc := 1) 0 1 (v := 0) rfl (by decide) ?_
  refine a_aload_n (pc := 2) 0 2 rfl rfl ?_
  refine a_iload_n (pc := 3) 0 3 rfl rfl ?_
  refine a_iload_n (pc := 4) 0 4 rfl rfl ?_
  refine a_callVi (pc := 5) 0 5 (c_X11_open (S := S) p1 p2 h) rfl cv_L_26 (by decide) rfl rfl rfl (rm rfl) ?_
  refine a_i2l (pc := 8) 0 6 rfl ?_
  refine a_last (pc := 9) 0 7 rfl rfl ?_
  refine a_goto (pc := 10) (tgt := 21) 0 8 rfl (by decide) ?_
  refine a_iconst (pc := 21) 0 15 (v := 0) rfl (by decide) ?_
  exact a_iret (pc := 22) 0 16 rfl rfl ⟨rfl, rfl⟩)
set_option maxRecDepth 100000 in
theorem x_L_open_1 {S : Mem} (p1 : Int32) (p2 : Int32) (h : okx_X11_open_1 S p1 p2) : Chs mdL_open hhL_open 9 145 1 6 [vr 11 0, vi p1, vi p2, vr 63 0] S (Is (some (vi 1)) S) := Chs.of dtL_open (by decide +kernel) rfl rfl (Nat.le_of_ble_eq_true rfl) (ls := [some (vr 11 0), some (vi p1), some (vi p2), some (vr 63 0), none]) rfl (fun O G => by
  refine a_aload_n (pc := 0) 0 0 rfl rfl ?_
  refine a_iconst (pc := 1) 0 1 (v := 0) rfl (by decide) ?_
  refine a_aload_n (pc := 2) 0 2 rfl rfl ?_
  refine a_iload_n (pc := 3) 0 3 rfl rfl ?_
  refine a_iload_n (pc := 4) 0 4 rfl rfl ?_
  refine a_callVX (pc := 5) 0 5 (q_X11_open_1 (S := S) p1 p2 h) rfl cv_L_26 (by decide) rfl rfl rfl (rm rfl) ?_
  refine a_catch [] (0, 10, 13, 13) [(0, 10, 17, 24)] rfl (by
    intro z hz
    cases hz) rfl (by decide) clW_L_13 castW_xIdx (fun q9 => ?_)
  refine a_astoreX (pc := 13) 0 9 (ls2 := [some (vr 11 0), some (vi p1), some (vi p2), some (vr 63 0), some (.inl (.ref q9))]) rfl (by decide) rfl ?_
  refine a_iconst (pc := 15) 0 10 (v := 1) rfl (by decide) ?_
  exact a_iret (pc := 16) 0 11 rfl rfl ⟨rfl, rfl⟩)
set_option maxRecDepth 100000 in
theorem x_L_open_2 {S : Mem} (p1 : Int32) (p2 : Int32) (h : okx_X11_open_2 S p1 p2) : Chs mdL_open hhL_open 9 145 1 6 [vr 11 0, vi p1, vi p2, vr 63 0] S (Is (some (vi 1)) S) := Chs.of dtL_open (by decide +kernel) rfl rfl (Nat.le_of_ble_eq_true rfl) (ls := [some (vr 11 0), some (vi p1), some (vi p2), some (vr 63 0), none]) rfl (fun O G => by
  refine a_aload_n (pc := 0) 0 0 rfl rfl ?_
  refine a_iconst (pc := 1) 0 1 (v := 0) rfl (by decide) ?_
  refine a_aload_n (pc := 2) 0 2 rfl rfl ?_
  refine a_iload_n (pc := 3) 0 3 rfl rfl ?_
  refine a_iload_n (pc := 4) 0 4 rfl rfl ?_
  refine a_callVX (pc := 5) 0 5 (q_X11_open_2 (S := S) p1 p2 h) rfl cv_L_26 (by decide) rfl rfl rfl (rm rfl) ?_
  refine a_catch [] (0, 10, 13, 13) [(0, 10, 17, 24)] rfl (by
    intro z hz
    cases hz) rfl (by decide) clW_L_13 castW_xIdx (fun q9 => ?_)
  refine a_astoreX (pc := 13) 0 9 (ls2 := [some (vr 11 0), some (vi p1), some (vi p2), some (vr 63 0), some (.inl (.ref q9))]) rfl (by decide) rfl ?_
  refine a_iconst (pc := 15) 0 10 (v := 1) rfl (by decide) ?_
  exact a_iret (pc := 16) 0 11 rfl rfl ⟨rfl, rfl⟩)
set_option maxRecDepth 100000 in
theorem x_L_open_3 {S : Mem} (p1 : Int32) (p2 : Int32) (h : okx_X11_open_3 S p1 p2) : Chs mdL_open hhL_open 8 125 1 6 [vr 11 0, vi p1, vi p2, vr 63 0] S (Is (some (vi (nI 2))) S) := Chs.of dtL_open (by decide +kernel) rfl rfl (Nat.le_of_ble_eq_true rfl) (ls := [some (vr 11 0), some (vi p1), some (vi p2), some (vr 63 0), none]) rfl (fun O G => by
  refine a_aload_n (pc := 0) 0 0 rfl rfl ?_
  refine a_iconst (pc := 1) 0 1 (v := 0) rfl (by decide) ?_
  refine a_aload_n (pc := 2) 0 2 rfl rfl ?_
  refine a_iload_n (pc := 3) 0 3 rfl rfl ?_
  refine a_iload_n (pc := 4) 0 4 rfl rfl ?_
  refine a_callVX (pc := 5) 0 5 (q_X11_open_3 (S := S) p1 p2 h) rfl cv_L_26 (by decide) rfl rfl rfl (rm rfl) ?_
  refine a_catch [(0, 10, 13, 13)] (0, 10, 17, 24) [] rfl (by
    intro z hz
    rcases List.mem_cons.mp hz with rfl | hz
    · exact ⟨by decide, _, clW_L_13, Or.inr (Or.inl ⟨rfl, rfl⟩)⟩
    cases hz) rfl (by decide) clW_L_24 castW_xSta (fun q9 => ?_)
  refine a_astoreX (pc := 17) 0 12 (ls2 := [some (vr 11 0), some (vi p1), some (vi p2), some (vr 63 0), some (.inl (.ref q9))]) rfl (by decide) rfl ?_
  refine a_iconst (pc := 19) 0 13 (v := nI 2) rfl (by decide) ?_
  exact a_iret (pc := 20) 0 14 rfl rfl ⟨rfl, rfl⟩)
set_option maxRecDepth 100000 in
theorem n_L_close {S : Mem} (p1 : Int32) (h : ok_X11_close S p1) : Chs mdL_close hhL_close 3 68 0 0 [vr 11 0, vi p1, vr 63 0] S (Is (some (vi 0)) (((f_X11_close S p1).2).1, ((f_X11_close S p1).2).2.1, ((f_X11_close S p1).1).toInt64)) := Chs.of dtL_close (by decide +kernel) rfl rfl (Nat.le_of_ble_eq_true rfl) (ls := [some (vr 11 0), some (vi p1), some (vr 63 0), none]) rfl (fun O G => by
  refine a_aload_n (pc := 0) 0 0 rfl rfl ?_
  refine a_iconst (pc := 1) 0 1 (v := 0) rfl (by decide) ?_
  refine a_aload_n (pc := 2) 0 2 rfl rfl ?_
  refine a_iload_n (pc := 3) 0 3 rfl rfl ?_
  refine a_callVi (pc := 4) 0 4 (c_X11_close (S := S) p1 h) rfl cv_L_29 (by decide) rfl rfl rfl (rm rfl) ?_
  refine a_i2l (pc := 7) 0 5 rfl ?_
  refine a_last (pc := 8) 0 6 rfl rfl ?_
  refine a_goto (pc := 9) (tgt := 18) 0 7 rfl (by decide) ?_
  refine a_iconst (pc := 18) 0 14 (v := 0) rfl (by decide) ?_
  exact a_iret (pc := 19) 0 15 rfl rfl ⟨rfl, rfl⟩)
set_option maxRecDepth 100000 in
theorem x_L_close_1 {S : Mem} (p1 : Int32) (h : okx_X11_close_1 S p1) : Chs mdL_close hhL_close 9 145 1 6 [vr 11 0, vi p1, vr 63 0] S (Is (some (vi 1)) S) := Chs.of dtL_close (by decide +kernel) rfl rfl (Nat.le_of_ble_eq_true rfl) (ls := [some (vr 11 0), some (vi p1), some (vr 63 0), none]) rfl (fun O G => by
  refine a_aload_n (pc := 0) 0 0 rfl rfl ?_
  refine a_iconst (pc := 1) 0 1 (v := 0) rfl (by decide) ?_
  refine a_aload_n (pc := 2) 0 2 rfl rfl ?_
  refine a_iload_n (pc := 3) 0 3 rfl rfl ?_
  refine a_callVX (pc := 4) 0 4 (q_X11_close_1 (S := S) p1 h) rfl cv_L_29 (by decide) rfl rfl rfl (rm rfl) ?_
  refine a_catch [] (0, 9, 12, 13) [(0, 9, 15, 24)] rfl (by
    intro z hz
    cases hz) rfl (by decide) clW_L_13 castW_xIdx (fun q9 => ?_)
  refine a_astoreXn (pc := 12) 0 8 (ls2 := [some (vr 11 0), some (vi p1), some (vr 63 0), some (.inl (.ref q9))]) rfl rfl (by decide) rfl ?_
  refine a_iconst (pc := 13) 0 9 (v := 1) rfl (by decide) ?_
  exact a_iret (pc := 14) 0 10 rfl rfl ⟨rfl, rfl⟩)
set_option maxRecDepth 100000 in
theorem x_L_close_2 {S : Mem} (p1 : Int32) (h : okx_X11_close_2 S p1) : Chs mdL_close hhL_close 8 125 1 6 [vr 11 0, vi p1, vr 63 0] S (Is (some (vi (nI 2))) S) := Chs.of dtL_close (by decide +kernel) rfl rfl (Nat.le_of_ble_eq_true rfl) (ls := [some (vr 11 0), some (vi p1), some (vr 63 0), none]) rfl (fun O G => by
  refine a_aload_n (pc := 0) 0 0 rfl rfl ?_
  refine a_iconst (pc := 1) 0 1 (v := 0) rfl (by decide) ?_
  refine a_aload_n (pc := 2) 0 2 rfl rfl ?_
  refine a_iload_n (pc := 3) 0 3 rfl rfl ?_
  refine a_callVX (pc := 4) 0 4 (q_X11_close_2 (S := S) p1 h) rfl cv_L_29 (by decide) rfl rfl rfl (rm rfl) ?_
  refine a_catch [(0, 9, 12, 13)] (0, 9, 15, 24) [] rfl (by
    intro z hz
    rcases List.mem_cons.mp hz with rfl | hz
    · exact ⟨by decide, _, clW_L_13, Or.inr (Or.inl ⟨rfl, rfl⟩)⟩
    cases hz) rfl (by decide) clW_L_24 castW_xSta (fun q9 => ?_)
  refine a_astoreXn (pc := 15) 0 11 (ls2 := [some (vr 11 0), some (vi p1), some (vr 63 0), some (.inl (.ref q9))]) rfl rfl (by decide) rfl ?_
  refine a_iconst (pc := 16) 0 12 (v := nI 2) rfl (by decide) ?_
  exact a_iret (pc := 17) 0 13 rfl rfl ⟨rfl, rfl⟩)
set_option maxRecDepth 100000 in
theorem n_L_bring {S : Mem} (p1 : Int32) (p2 : Int32) (h : ok_X11_bring S p1 p2) : Chs mdL_bring hhL_bring 3 70 0 0 [vr 11 0, vi p1, vi p2, vr 63 0] S (Is (some (vi 0)) (((f_X11_bring S p1 p2).2).1, ((f_X11_bring S p1 p2).2).2.1, ((f_X11_bring S p1 p2).1).toInt64)) := Chs.of dtL_bring (by decide +kernel) rfl rfl (Nat.le_of_ble_eq_true rfl) (ls := [some (vr 11 0), some (vi p1), some (vi p2), some (vr 63 0), none]) rfl (fun O G => by
  refine a_aload_n (pc := 0) 0 0 rfl rfl ?_
  refine a_iconst (pc := 1) 0 1 (v := 0) rfl (by decide) ?_
  refine a_aload_n (pc := 2) 0 2 rfl rfl ?_
  refine a_iload_n (pc := 3) 0 3 rfl rfl ?_
  refine a_iload_n (pc := 4) 0 4 rfl rfl ?_
  refine a_callVi (pc := 5) 0 5 (c_X11_bring (S := S) p1 p2 h) rfl cv_L_33 (by decide) rfl rfl rfl (rm rfl) ?_
  refine a_i2l (pc := 8) 0 6 rfl ?_
  refine a_last (pc := 9) 0 7 rfl rfl ?_
  refine a_goto (pc := 10) (tgt := 25) 0 8 rfl (by decide) ?_
  refine a_iconst (pc := 25) 0 18 (v := 0) rfl (by decide) ?_
  exact a_iret (pc := 26) 0 19 rfl rfl ⟨rfl, rfl⟩)
set_option maxRecDepth 100000 in
theorem x_L_bring_1 {S : Mem} (p1 : Int32) (p2 : Int32) (h : okx_X11_bring_1 S p1 p2) : Chs mdL_bring hhL_bring 9 147 1 6 [vr 11 0, vi p1, vi p2, vr 63 0] S (Is (some (vi 1)) S) := Chs.of dtL_bring (by decide +kernel) rfl rfl (Nat.le_of_ble_eq_true rfl) (ls := [some (vr 11 0), some (vi p1), some (vi p2), some (vr 63 0), none]) rfl (fun O G => by
  refine a_aload_n (pc := 0) 0 0 rfl rfl ?_
  refine a_iconst (pc := 1) 0 1 (v := 0) rfl (by decide) ?_
  refine a_aload_n (pc := 2) 0 2 rfl rfl ?_
  refine a_iload_n (pc := 3) 0 3 rfl rfl ?_
  refine a_iload_n (pc := 4) 0 4 rfl rfl ?_
  refine a_callVX (pc := 5) 0 5 (q_X11_bring_1 (S := S) p1 p2 h) rfl cv_L_33 (by decide) rfl rfl rfl (rm rfl) ?_
  refine a_catch [] (0, 10, 13, 13) [(0, 10, 17, 15), (0, 10, 21, 24)] rfl (by
    intro z hz
    cases hz) rfl (by decide) clW_L_13 castW_xIdx (fun q9 => ?_)
  refine a_astoreX (pc := 13) 0 9 (ls2 := [some (vr 11 0), some (vi p1), some (vi p2), some (vr 63 0), some (.inl (.ref q9))]) rfl (by decide) rfl ?_
  refine a_iconst (pc := 15) 0 10 (v := 1) rfl (by decide) ?_
  exact a_iret (pc := 16) 0 11 rfl rfl ⟨rfl, rfl⟩)
set_option maxRecDepth 100000 in
theorem x_L_bring_2 {S : Mem} (p1 : Int32) (p2 : Int32) (h : okx_X11_bring_2 S p1 p2) : Chs mdL_bring hhL_bring 9 149 1 6 [vr 11 0, vi p1, vi p2, vr 63 0] S (Is (some (vi (nI 2))) S) := Chs.of dtL_bring (by decide +kernel) rfl rfl (Nat.le_of_ble_eq_true rfl) (ls := [some (vr 11 0), some (vi p1), some (vi p2), some (vr 63 0), none]) rfl (fun O G => by
  refine a_aload_n (pc := 0) 0 0 rfl rfl ?_
  refine a_iconst (pc := 1) 0 1 (v := 0) rfl (by decide) ?_
  refine a_aload_n (pc := 2) 0 2 rfl rfl ?_
  refine a_iload_n (pc := 3) 0 3 rfl rfl ?_
  refine a_iload_n (pc := 4) 0 4 rfl rfl ?_
  refine a_callVX (pc := 5) 0 5 (q_X11_bring_2 (S := S) p1 p2 h) rfl cv_L_33 (by decide) rfl rfl rfl (rm rfl) ?_
  refine a_catch [(0, 10, 13, 13)] (0, 10, 17, 15) [(0, 10, 21, 24)] rfl (by
    intro z hz
    rcases List.mem_cons.mp hz with rfl | hz
    · exact ⟨by decide, _, clW_L_13, Or.inl ⟨rfl, rfl⟩⟩
    cases hz) rfl (by decide) clW_L_15 castW_xArg (fun q9 => ?_)
  refine a_astoreX (pc := 17) 0 12 (ls2 := [some (vr 11 0), some (vi p1), some (vi p2), some (vr 63 0), some (.inl (.ref q9))]) rfl (by decide) rfl ?_
  refine a_iconst (pc := 19) 0 13 (v := nI 2) rfl (by decide) ?_
  exact a_iret (pc := 20) 0 14 rfl rfl ⟨rfl, rfl⟩)
set_option maxRecDepth 100000 in
theorem x_L_bring_3 {S : Mem} (p1 : Int32) (p2 : Int32) (h : okx_X11_bring_3 S p1 p2) : Chs mdL_bring hhL_bring 8 127 1 6 [vr 11 0, vi p1, vi p2, vr 63 0] S (Is (some (vi (nI 3))) S) := Chs.of dtL_bring (by decide +kernel) rfl rfl (Nat.le_of_ble_eq_true rfl) (ls := [some (vr 11 0), some (vi p1), some (vi p2), some (vr 63 0), none]) rfl (fun O G => by
  refine a_aload_n (pc := 0) 0 0 rfl rfl ?_
  refine a_iconst (pc := 1) 0 1 (v := 0) rfl (by decide) ?_
  refine a_aload_n (pc := 2) 0 2 rfl rfl ?_
  refine a_iload_n (pc := 3) 0 3 rfl rfl ?_
  refine a_iload_n (pc := 4) 0 4 rfl rfl ?_
  refine a_callVX (pc := 5) 0 5 (q_X11_bring_3 (S := S) p1 p2 h) rfl cv_L_33 (by decide) rfl rfl rfl (rm rfl) ?_
  refine a_catch [(0, 10, 13, 13), (0, 10, 17, 15)] (0, 10, 21, 24) [] rfl (by
    intro z hz
    rcases List.mem_cons.mp hz with rfl | hz
    · exact ⟨by decide, _, clW_L_13, Or.inr (Or.inl ⟨rfl, rfl⟩)⟩
    rcases List.mem_cons.mp hz with rfl | hz
    · exact ⟨by decide, _, clW_L_15, Or.inr (Or.inr ⟨rfl, rfl⟩)⟩
    cases hz) rfl (by decide) clW_L_24 castW_xSta (fun q9 => ?_)
  refine a_astoreX (pc := 21) 0 15 (ls2 := [some (vr 11 0), some (vi p1), some (vi p2), some (vr 63 0), some (.inl (.ref q9))]) rfl (by decide) rfl ?_
  refine a_iconst (pc := 23) 0 16 (v := nI 3) rfl (by decide) ?_
  exact a_iret (pc := 24) 0 17 rfl rfl ⟨rfl, rfl⟩)
set_option maxRecDepth 100000 in
theorem n_L_draw {S : Mem} (p1 : Int32) (p2 : Int32) (h : ok_X11_draw S p1 p2) : Chs mdL_draw hhL_draw 5 128 0 0 [vr 11 0, vi p1, vi p2, vr 63 0] S (Is (some (vi 0)) (((f_X11_draw S p1 p2).2).1, ((f_X11_draw S p1 p2).2).2.1, ((f_X11_draw S p1 p2).1).toInt64)) := Chs.of dtL_draw (by decide +kernel) rfl rfl (Nat.le_of_ble_eq_true rfl) (ls := [some (vr 11 0), some (vi p1), some (vi p2), some (vr 63 0), none]) rfl (fun O G => by
  refine a_aload_n (pc := 0) 0 0 rfl rfl ?_
  refine a_iconst (pc := 1) 0 1 (v := 0) rfl (by decide) ?_
  refine a_aload_n (pc := 2) 0 2 rfl rfl ?_
  refine a_iload_n (pc := 3) 0 3 rfl rfl ?_
  refine a_iload_n (pc := 4) 0 4 rfl rfl ?_
  refine a_callVi (pc := 5) 0 5 (c_X11_draw (S := S) p1 p2 h) rfl cv_L_36 (by decide) rfl rfl rfl (rm rfl) ?_
  refine a_i2l (pc := 8) 0 6 rfl ?_
  refine a_last (pc := 9) 0 7 rfl rfl ?_
  refine a_goto (pc := 10) (tgt := 25) 0 8 rfl (by decide) ?_
  refine a_iconst (pc := 25) 0 18 (v := 0) rfl (by decide) ?_
  exact a_iret (pc := 26) 0 19 rfl rfl ⟨rfl, rfl⟩)
set_option maxRecDepth 100000 in
theorem x_L_draw_1 {S : Mem} (p1 : Int32) (p2 : Int32) (h : okx_X11_draw_1 S p1 p2) : Chs mdL_draw hhL_draw 9 147 1 6 [vr 11 0, vi p1, vi p2, vr 63 0] S (Is (some (vi 1)) S) := Chs.of dtL_draw (by decide +kernel) rfl rfl (Nat.le_of_ble_eq_true rfl) (ls := [some (vr 11 0), some (vi p1), some (vi p2), some (vr 63 0), none]) rfl (fun O G => by
  refine a_aload_n (pc := 0) 0 0 rfl rfl ?_
  refine a_iconst (pc := 1) 0 1 (v := 0) rfl (by decide) ?_
  refine a_aload_n (pc := 2) 0 2 rfl rfl ?_
  refine a_iload_n (pc := 3) 0 3 rfl rfl ?_
  refine a_iload_n (pc := 4) 0 4 rfl rfl ?_
  refine a_callVX (pc := 5) 0 5 (q_X11_draw_1 (S := S) p1 p2 h) rfl cv_L_36 (by decide) rfl rfl rfl (rm rfl) ?_
  refine a_catch [] (0, 10, 13, 13) [(0, 10, 17, 15), (0, 10, 21, 24)] rfl (by
    intro z hz
    cases hz) rfl (by decide) clW_L_13 castW_xIdx (fun q9 => ?_)
  refine a_astoreX (pc := 13) 0 9 (ls2 := [some (vr 11 0), some (vi p1), some (vi p2), some (vr 63 0), some (.inl (.ref q9))]) rfl (by decide) rfl ?_
  refine a_iconst (pc := 15) 0 10 (v := 1) rfl (by decide) ?_
  exact a_iret (pc := 16) 0 11 rfl rfl ⟨rfl, rfl⟩)
set_option maxRecDepth 100000 in
theorem x_L_draw_2 {S : Mem} (p1 : Int32) (p2 : Int32) (h : okx_X11_draw_2 S p1 p2) : Chs mdL_draw hhL_draw 9 149 1 6 [vr 11 0, vi p1, vi p2, vr 63 0] S (Is (some (vi (nI 2))) S) := Chs.of dtL_draw (by decide +kernel) rfl rfl (Nat.le_of_ble_eq_true rfl) (ls := [some (vr 11 0), some (vi p1), some (vi p2), some (vr 63 0), none]) rfl (fun O G => by
  refine a_aload_n (pc := 0) 0 0 rfl rfl ?_
  refine a_iconst (pc := 1) 0 1 (v := 0) rfl (by decide) ?_
  refine a_aload_n (pc := 2) 0 2 rfl rfl ?_
  refine a_iload_n (pc := 3) 0 3 rfl rfl ?_
  refine a_iload_n (pc := 4) 0 4 rfl rfl ?_
  refine a_callVX (pc := 5) 0 5 (q_X11_draw_2 (S := S) p1 p2 h) rfl cv_L_36 (by decide) rfl rfl rfl (rm rfl) ?_
  refine a_catch [(0, 10, 13, 13)] (0, 10, 17, 15) [(0, 10, 21, 24)] rfl (by
    intro z hz
    rcases List.mem_cons.mp hz with rfl | hz
    · exact ⟨by decide, _, clW_L_13, Or.inl ⟨rfl, rfl⟩⟩
    cases hz) rfl (by decide) clW_L_15 castW_xArg (fun q9 => ?_)
  refine a_astoreX (pc := 17) 0 12 (ls2 := [some (vr 11 0), some (vi p1), some (vi p2), some (vr 63 0), some (.inl (.ref q9))]) rfl (by decide) rfl ?_
  refine a_iconst (pc := 19) 0 13 (v := nI 2) rfl (by decide) ?_
  exact a_iret (pc := 20) 0 14 rfl rfl ⟨rfl, rfl⟩)
set_option maxRecDepth 100000 in
theorem x_L_draw_3 {S : Mem} (p1 : Int32) (p2 : Int32) (h : okx_X11_draw_3 S p1 p2) : Chs mdL_draw hhL_draw 8 127 1 6 [vr 11 0, vi p1, vi p2, vr 63 0] S (Is (some (vi (nI 3))) S) := Chs.of dtL_draw (by decide +kernel) rfl rfl (Nat.le_of_ble_eq_true rfl) (ls := [some (vr 11 0), some (vi p1), some (vi p2), some (vr 63 0), none]) rfl (fun O G => by
  refine a_aload_n (pc := 0) 0 0 rfl rfl ?_
  refine a_iconst (pc := 1) 0 1 (v := 0) rfl (by decide) ?_
  refine a_aload_n (pc := 2) 0 2 rfl rfl ?_
  refine a_iload_n (pc := 3) 0 3 rfl rfl ?_
  refine a_iload_n (pc := 4) 0 4 rfl rfl ?_
  refine a_callVX (pc := 5) 0 5 (q_X11_draw_3 (S := S) p1 p2 h) rfl cv_L_36 (by decide) rfl rfl rfl (rm rfl) ?_
  refine a_catch [(0, 10, 13, 13), (0, 10, 17, 15)] (0, 10, 21, 24) [] rfl (by
    intro z hz
    rcases List.mem_cons.mp hz with rfl | hz
    · exact ⟨by decide, _, clW_L_13, Or.inr (Or.inl ⟨rfl, rfl⟩)⟩
    rcases List.mem_cons.mp hz with rfl | hz
    · exact ⟨by decide, _, clW_L_15, Or.inr (Or.inr ⟨rfl, rfl⟩)⟩
    cases hz) rfl (by decide) clW_L_24 castW_xSta (fun q9 => ?_)
  refine a_astoreX (pc := 21) 0 15 (ls2 := [some (vr 11 0), some (vi p1), some (vi p2), some (vr 63 0), some (.inl (.ref q9))]) rfl (by decide) rfl ?_
  refine a_iconst (pc := 23) 0 16 (v := nI 3) rfl (by decide) ?_
  exact a_iret (pc := 24) 0 17 rfl rfl ⟨rfl, rfl⟩)
set_option maxRecDepth 100000 in
theorem n_L_pay {S : Mem} (p1 : Int32) (p2 : Int32) (p3 : Int32) (h : ok_X11_pay S p1 p2 p3) : Chs mdL_pay hhL_pay 5 119 0 0 [vr 11 0, vi p1, vi p2, vi p3, vr 63 0] S (Is (some (vi 0)) (((f_X11_pay S p1 p2 p3).2).1, ((f_X11_pay S p1 p2 p3).2).2.1, ((f_X11_pay S p1 p2 p3).1).toInt64)) := Chs.of dtL_pay (by decide +kernel) rfl rfl (Nat.le_of_ble_eq_true rfl) (ls := [some (vr 11 0), some (vi p1), some (vi p2), some (vi p3), some (vr 63 0), none]) rfl (fun O G => by
  refine a_aload (pc := 0) 0 0 rfl rfl ?_
  refine a_iconst (pc := 2) 0 1 (v := 0) rfl (by decide) ?_
  refine a_aload_n (pc := 3) 0 2 rfl rfl ?_
  refine a_iload_n (pc := 4) 0 3 rfl rfl ?_
  refine a_iload_n (pc := 5) 0 4 rfl rfl ?_
  refine a_iload_n (pc := 6) 0 5 rfl rfl ?_
  refine a_callVi (pc := 7) 0 6 (c_X11_pay (S := S) p1 p2 p3 h) rfl cv_L_39 (by decide) rfl rfl rfl (rm rfl) ?_
  refine a_i2l (pc := 10) 0 7 rfl ?_
  refine a_last (pc := 11) 0 8 rfl rfl ?_
  refine a_goto (pc := 12) (tgt := 27) 0 9 rfl (by decide) ?_
  refine a_iconst (pc := 27) 0 19 (v := 0) rfl (by decide) ?_
  exact a_iret (pc := 28) 0 20 rfl rfl ⟨rfl, rfl⟩)
set_option maxRecDepth 100000 in
theorem x_L_pay_1 {S : Mem} (p1 : Int32) (p2 : Int32) (p3 : Int32) (h : okx_X11_pay_1 S p1 p2 p3) : Chs mdL_pay hhL_pay 9 145 1 6 [vr 11 0, vi p1, vi p2, vi p3, vr 63 0] S (Is (some (vi 1)) S) := Chs.of dtL_pay (by decide +kernel) rfl rfl (Nat.le_of_ble_eq_true rfl) (ls := [some (vr 11 0), some (vi p1), some (vi p2), some (vi p3), some (vr 63 0), none]) rfl (fun O G => by
  refine a_aload (pc := 0) 0 0 rfl rfl ?_
  refine a_iconst (pc := 2) 0 1 (v := 0) rfl (by decide) ?_
  refine a_aload_n (pc := 3) 0 2 rfl rfl ?_
  refine a_iload_n (pc := 4) 0 3 rfl rfl ?_
  refine a_iload_n (pc := 5) 0 4 rfl rfl ?_
  refine a_iload_n (pc := 6) 0 5 rfl rfl ?_
  refine a_callVX (pc := 7) 0 6 (q_X11_pay_1 (S := S) p1 p2 p3 h) rfl cv_L_39 (by decide) rfl rfl rfl (rm rfl) ?_
  refine a_catch [] (0, 12, 15, 13) [(0, 12, 19, 15), (0, 12, 23, 24)] rfl (by
    intro z hz
    cases hz) rfl (by decide) clW_L_13 castW_xIdx (fun q9 => ?_)
  refine a_astoreX (pc := 15) 0 10 (ls2 := [some (vr 11 0), some (vi p1), some (vi p2), some (vi p3), some (vr 63 0), some (.inl (.ref q9))]) rfl (by decide) rfl ?_
  refine a_iconst (pc := 17) 0 11 (v := 1) rfl (by decide) ?_
  exact a_iret (pc := 18) 0 12 rfl rfl ⟨rfl, rfl⟩)
set_option maxRecDepth 100000 in
theorem x_L_pay_2 {S : Mem} (p1 : Int32) (p2 : Int32) (p3 : Int32) (h : okx_X11_pay_2 S p1 p2 p3) : Chs mdL_pay hhL_pay 9 145 1 6 [vr 11 0, vi p1, vi p2, vi p3, vr 63 0] S (Is (some (vi 1)) S) := Chs.of dtL_pay (by decide +kernel) rfl rfl (Nat.le_of_ble_eq_true rfl) (ls := [some (vr 11 0), some (vi p1), some (vi p2), some (vi p3), some (vr 63 0), none]) rfl (fun O G => by
  refine a_aload (pc := 0) 0 0 rfl rfl ?_
  refine a_iconst (pc := 2) 0 1 (v := 0) rfl (by decide) ?_
  refine a_aload_n (pc := 3) 0 2 rfl rfl ?_
  refine a_iload_n (pc := 4) 0 3 rfl rfl ?_
  refine a_iload_n (pc := 5) 0 4 rfl rfl ?_
  refine a_iload_n (pc := 6) 0 5 rfl rfl ?_
  refine a_callVX (pc := 7) 0 6 (q_X11_pay_2 (S := S) p1 p2 p3 h) rfl cv_L_39 (by decide) rfl rfl rfl (rm rfl) ?_
  refine a_catch [] (0, 12, 15, 13) [(0, 12, 19, 15), (0, 12, 23, 24)] rfl (by
    intro z hz
    cases hz) rfl (by decide) clW_L_13 castW_xIdx (fun q9 => ?_)
  refine a_astoreX (pc := 15) 0 10 (ls2 := [some (vr 11 0), some (vi p1), some (vi p2), some (vi p3), some (vr 63 0), some (.inl (.ref q9))]) rfl (by decide) rfl ?_
  refine a_iconst (pc := 17) 0 11 (v := 1) rfl (by decide) ?_
  exact a_iret (pc := 18) 0 12 rfl rfl ⟨rfl, rfl⟩)
set_option maxRecDepth 100000 in
theorem x_L_pay_3 {S : Mem} (p1 : Int32) (p2 : Int32) (p3 : Int32) (h : okx_X11_pay_3 S p1 p2 p3) : Chs mdL_pay hhL_pay 8 125 1 6 [vr 11 0, vi p1, vi p2, vi p3, vr 63 0] S (Is (some (vi (nI 2))) S) := Chs.of dtL_pay (by decide +kernel) rfl rfl (Nat.le_of_ble_eq_true rfl) (ls := [some (vr 11 0), some (vi p1), some (vi p2), some (vi p3), some (vr 63 0), none]) rfl (fun O G => by
  refine a_aload (pc := 0) 0 0 rfl rfl ?_
  refine a_iconst (pc := 2) 0 1 (v := 0) rfl (by decide) ?_
  refine a_aload_n (pc := 3) 0 2 rfl rfl ?_
  refine a_iload_n (pc := 4) 0 3 rfl rfl ?_
  refine a_iload_n (pc := 5) 0 4 rfl rfl ?_
  refine a_iload_n (pc := 6) 0 5 rfl rfl ?_
  refine a_callVX (pc := 7) 0 6 (q_X11_pay_3 (S := S) p1 p2 p3 h) rfl cv_L_39 (by decide) rfl rfl rfl (rm rfl) ?_
  refine a_catch [(0, 12, 15, 13)] (0, 12, 19, 15) [(0, 12, 23, 24)] rfl (by
    intro z hz
    rcases List.mem_cons.mp hz with rfl | hz
    · exact ⟨by decide, _, clW_L_13, Or.inl ⟨rfl, rfl⟩⟩
    cases hz) rfl (by decide) clW_L_15 castW_xArg (fun q9 => ?_)
  refine a_astoreX (pc := 19) 0 13 (ls2 := [some (vr 11 0), some (vi p1), some (vi p2), some (vi p3), some (vr 63 0), some (.inl (.ref q9))]) rfl (by decide) rfl ?_
  refine a_iconst (pc := 21) 0 14 (v := nI 2) rfl (by decide) ?_
  exact a_iret (pc := 22) 0 15 rfl rfl ⟨rfl, rfl⟩)
set_option maxRecDepth 100000 in
theorem x_L_pay_4 {S : Mem} (p1 : Int32) (p2 : Int32) (p3 : Int32) (h : okx_X11_pay_4 S p1 p2 p3) : Chs mdL_pay hhL_pay 9 147 1 6 [vr 11 0, vi p1, vi p2, vi p3, vr 63 0] S (Is (some (vi (nI 2))) S) := Chs.of dtL_pay (by decide +kernel) rfl rfl (Nat.le_of_ble_eq_true rfl) (ls := [some (vr 11 0), some (vi p1), some (vi p2), some (vi p3), some (vr 63 0), none]) rfl (fun O G => by
  refine a_aload (pc := 0) 0 0 rfl rfl ?_
  refine a_iconst (pc := 2) 0 1 (v := 0) rfl (by decide) ?_
  refine a_aload_n (pc := 3) 0 2 rfl rfl ?_
  refine a_iload_n (pc := 4) 0 3 rfl rfl ?_
  refine a_iload_n (pc := 5) 0 4 rfl rfl ?_
  refine a_iload_n (pc := 6) 0 5 rfl rfl ?_
  refine a_callVX (pc := 7) 0 6 (q_X11_pay_4 (S := S) p1 p2 p3 h) rfl cv_L_39 (by decide) rfl rfl rfl (rm rfl) ?_
  refine a_catch [(0, 12, 15, 13)] (0, 12, 19, 15) [(0, 12, 23, 24)] rfl (by
    intro z hz
    rcases List.mem_cons.mp hz with rfl | hz
    · exact ⟨by decide, _, clW_L_13, Or.inl ⟨rfl, rfl⟩⟩
    cases hz) rfl (by decide) clW_L_15 castW_xArg (fun q9 => ?_)
  refine a_astoreX (pc := 19) 0 13 (ls2 := [some (vr 11 0), some (vi p1), some (vi p2), some (vi p3), some (vr 63 0), some (.inl (.ref q9))]) rfl (by decide) rfl ?_
  refine a_iconst (pc := 21) 0 14 (v := nI 2) rfl (by decide) ?_
  exact a_iret (pc := 22) 0 15 rfl rfl ⟨rfl, rfl⟩)
set_option maxRecDepth 100000 in
theorem x_L_pay_5 {S : Mem} (p1 : Int32) (p2 : Int32) (p3 : Int32) (h : okx_X11_pay_5 S p1 p2 p3) : Chs mdL_pay hhL_pay 8 125 1 6 [vr 11 0, vi p1, vi p2, vi p3, vr 63 0] S (Is (some (vi (nI 3))) S) := Chs.of dtL_pay (by decide +kernel) rfl rfl (Nat.le_of_ble_eq_true rfl) (ls := [some (vr 11 0), some (vi p1), some (vi p2), some (vi p3), some (vr 63 0), none]) rfl (fun O G => by
  refine a_aload (pc := 0) 0 0 rfl rfl ?_
  refine a_iconst (pc := 2) 0 1 (v := 0) rfl (by decide) ?_
  refine a_aload_n (pc := 3) 0 2 rfl rfl ?_
  refine a_iload_n (pc := 4) 0 3 rfl rfl ?_
  refine a_iload_n (pc := 5) 0 4 rfl rfl ?_
  refine a_iload_n (pc := 6) 0 5 rfl rfl ?_
  refine a_callVX (pc := 7) 0 6 (q_X11_pay_5 (S := S) p1 p2 p3 h) rfl cv_L_39 (by decide) rfl rfl rfl (rm rfl) ?_
  refine a_catch [(0, 12, 15, 13), (0, 12, 19, 15)] (0, 12, 23, 24) [] rfl (by
    intro z hz
    rcases List.mem_cons.mp hz with rfl | hz
    · exact ⟨by decide, _, clW_L_13, Or.inr (Or.inl ⟨rfl, rfl⟩)⟩
    rcases List.mem_cons.mp hz with rfl | hz
    · exact ⟨by decide, _, clW_L_15, Or.inr (Or.inr ⟨rfl, rfl⟩)⟩
    cases hz) rfl (by decide) clW_L_24 castW_xSta (fun q9 => ?_)
  refine a_astoreX (pc := 23) 0 16 (ls2 := [some (vr 11 0), some (vi p1), some (vi p2), some (vi p3), some (vr 63 0), some (.inl (.ref q9))]) rfl (by decide) rfl ?_
  refine a_iconst (pc := 25) 0 17 (v := nI 3) rfl (by decide) ?_
  exact a_iret (pc := 26) 0 18 rfl rfl ⟨rfl, rfl⟩)
set_option maxRecDepth 100000 in
theorem n_L_limit {S : Mem} (p1 : Int32) (p2 : Int32) (h : ok_X11_limit S p1 p2) : Chs mdL_limit hhL_limit 3 66 0 0 [vr 11 0, vi p1, vi p2, vr 63 0] S (Is (some (vi 0)) (((f_X11_limit S p1 p2).2).1, ((f_X11_limit S p1 p2).2).2.1, ((f_X11_limit S p1 p2).1).toInt64)) := Chs.of dtL_limit (by decide +kernel) rfl rfl (Nat.le_of_ble_eq_true rfl) (ls := [some (vr 11 0), some (vi p1), some (vi p2), some (vr 63 0), none]) rfl (fun O G => by
  refine a_aload_n (pc := 0) 0 0 rfl rfl ?_
  refine a_iconst (pc := 1) 0 1 (v := 0) rfl (by decide) ?_
  refine a_aload_n (pc := 2) 0 2 rfl rfl ?_
  refine a_iload_n (pc := 3) 0 3 rfl rfl ?_
  refine a_iload_n (pc := 4) 0 4 rfl rfl ?_
  refine a_callVi (pc := 5) 0 5 (c_X11_limit (S := S) p1 p2 h) rfl cv_L_42 (by decide) rfl rfl rfl (rm rfl) ?_
  refine a_i2l (pc := 8) 0 6 rfl ?_
  refine a_last (pc := 9) 0 7 rfl rfl ?_
  refine a_goto (pc := 10) (tgt := 21) 0 8 rfl (by decide) ?_
  refine a_iconst (pc := 21) 0 15 (v := 0) rfl (by decide) ?_
  exact a_iret (pc := 22) 0 16 rfl rfl ⟨rfl, rfl⟩)
set_option maxRecDepth 100000 in
theorem x_L_limit_1 {S : Mem} (p1 : Int32) (p2 : Int32) (h : okx_X11_limit_1 S p1 p2) : Chs mdL_limit hhL_limit 9 146 1 6 [vr 11 0, vi p1, vi p2, vr 63 0] S (Is (some (vi 1)) S) := Chs.of dtL_limit (by decide +kernel) rfl rfl (Nat.le_of_ble_eq_true rfl) (ls := [some (vr 11 0), some (vi p1), some (vi p2), some (vr 63 0), none]) rfl (fun O G => by
  refine a_aload_n (pc := 0) 0 0 rfl rfl ?_
  refine a_iconst (pc := 1) 0 1 (v := 0) rfl (by decide) ?_
  refine a_aload_n (pc := 2) 0 2 rfl rfl ?_
  refine a_iload_n (pc := 3) 0 3 rfl rfl ?_
  refine a_iload_n (pc := 4) 0 4 rfl rfl ?_
  refine a_callVX (pc := 5) 0 5 (q_X11_limit_1 (S := S) p1 p2 h) rfl cv_L_42 (by decide) rfl rfl rfl (rm rfl) ?_
  refine a_catch [] (0, 10, 13, 13) [(0, 10, 17, 15)] rfl (by
    intro z hz
    cases hz) rfl (by decide) clW_L_13 castW_xIdx (fun q9 => ?_)
  refine a_astoreX (pc := 13) 0 9 (ls2 := [some (vr 11 0), some (vi p1), some (vi p2), some (vr 63 0), some (.inl (.ref q9))]) rfl (by decide) rfl ?_
  refine a_iconst (pc := 15) 0 10 (v := 1) rfl (by decide) ?_
  exact a_iret (pc := 16) 0 11 rfl rfl ⟨rfl, rfl⟩)
set_option maxRecDepth 100000 in
theorem x_L_limit_2 {S : Mem} (p1 : Int32) (p2 : Int32) (h : okx_X11_limit_2 S p1 p2) : Chs mdL_limit hhL_limit 9 148 1 6 [vr 11 0, vi p1, vi p2, vr 63 0] S (Is (some (vi (nI 2))) S) := Chs.of dtL_limit (by decide +kernel) rfl rfl (Nat.le_of_ble_eq_true rfl) (ls := [some (vr 11 0), some (vi p1), some (vi p2), some (vr 63 0), none]) rfl (fun O G => by
  refine a_aload_n (pc := 0) 0 0 rfl rfl ?_
  refine a_iconst (pc := 1) 0 1 (v := 0) rfl (by decide) ?_
  refine a_aload_n (pc := 2) 0 2 rfl rfl ?_
  refine a_iload_n (pc := 3) 0 3 rfl rfl ?_
  refine a_iload_n (pc := 4) 0 4 rfl rfl ?_
  refine a_callVX (pc := 5) 0 5 (q_X11_limit_2 (S := S) p1 p2 h) rfl cv_L_42 (by decide) rfl rfl rfl (rm rfl) ?_
  refine a_catch [(0, 10, 13, 13)] (0, 10, 17, 15) [] rfl (by
    intro z hz
    rcases List.mem_cons.mp hz with rfl | hz
    · exact ⟨by decide, _, clW_L_13, Or.inl ⟨rfl, rfl⟩⟩
    cases hz) rfl (by decide) clW_L_15 castW_xArg (fun q9 => ?_)
  refine a_astoreX (pc := 17) 0 12 (ls2 := [some (vr 11 0), some (vi p1), some (vi p2), some (vr 63 0), some (.inl (.ref q9))]) rfl (by decide) rfl ?_
  refine a_iconst (pc := 19) 0 13 (v := nI 2) rfl (by decide) ?_
  exact a_iret (pc := 20) 0 14 rfl rfl ⟨rfl, rfl⟩)
set_option maxRecDepth 100000 in
theorem n_L_endow {S : Mem} (p1 : Int32) (p2 : Int32) (h : ok_X11_endow S p1 p2) : Chs mdL_endow hhL_endow 3 67 0 0 [vr 11 0, vi p1, vi p2, vr 63 0] S (Is (some (vi 0)) (((f_X11_endow S p1 p2).2).1, ((f_X11_endow S p1 p2).2).2.1, ((f_X11_endow S p1 p2).1).toInt64)) := Chs.of dtL_endow (by decide +kernel) rfl rfl (Nat.le_of_ble_eq_true rfl) (ls := [some (vr 11 0), some (vi p1), some (vi p2), some (vr 63 0), none]) rfl (fun O G => by
  refine a_aload_n (pc := 0) 0 0 rfl rfl ?_
  refine a_iconst (pc := 1) 0 1 (v := 0) rfl (by decide) ?_
  refine a_aload_n (pc := 2) 0 2 rfl rfl ?_
  refine a_iload_n (pc := 3) 0 3 rfl rfl ?_
  refine a_iload_n (pc := 4) 0 4 rfl rfl ?_
  refine a_callVi (pc := 5) 0 5 (c_X11_endow (S := S) p1 p2 h) rfl cv_L_45 (by decide) rfl rfl rfl (rm rfl) ?_
  refine a_i2l (pc := 8) 0 6 rfl ?_
  refine a_last (pc := 9) 0 7 rfl rfl ?_
  refine a_goto (pc := 10) (tgt := 25) 0 8 rfl (by decide) ?_
  refine a_iconst (pc := 25) 0 18 (v := 0) rfl (by decide) ?_
  exact a_iret (pc := 26) 0 19 rfl rfl ⟨rfl, rfl⟩)
set_option maxRecDepth 100000 in
theorem x_L_endow_1 {S : Mem} (p1 : Int32) (p2 : Int32) (h : okx_X11_endow_1 S p1 p2) : Chs mdL_endow hhL_endow 9 145 1 6 [vr 11 0, vi p1, vi p2, vr 63 0] S (Is (some (vi 1)) S) := Chs.of dtL_endow (by decide +kernel) rfl rfl (Nat.le_of_ble_eq_true rfl) (ls := [some (vr 11 0), some (vi p1), some (vi p2), some (vr 63 0), none]) rfl (fun O G => by
  refine a_aload_n (pc := 0) 0 0 rfl rfl ?_
  refine a_iconst (pc := 1) 0 1 (v := 0) rfl (by decide) ?_
  refine a_aload_n (pc := 2) 0 2 rfl rfl ?_
  refine a_iload_n (pc := 3) 0 3 rfl rfl ?_
  refine a_iload_n (pc := 4) 0 4 rfl rfl ?_
  refine a_callVX (pc := 5) 0 5 (q_X11_endow_1 (S := S) p1 p2 h) rfl cv_L_45 (by decide) rfl rfl rfl (rm rfl) ?_
  refine a_catch [] (0, 10, 13, 13) [(0, 10, 17, 15), (0, 10, 21, 24)] rfl (by
    intro z hz
    cases hz) rfl (by decide) clW_L_13 castW_xIdx (fun q9 => ?_)
  refine a_astoreX (pc := 13) 0 9 (ls2 := [some (vr 11 0), some (vi p1), some (vi p2), some (vr 63 0), some (.inl (.ref q9))]) rfl (by decide) rfl ?_
  refine a_iconst (pc := 15) 0 10 (v := 1) rfl (by decide) ?_
  exact a_iret (pc := 16) 0 11 rfl rfl ⟨rfl, rfl⟩)
set_option maxRecDepth 100000 in
theorem x_L_endow_2 {S : Mem} (p1 : Int32) (p2 : Int32) (h : okx_X11_endow_2 S p1 p2) : Chs mdL_endow hhL_endow 9 147 1 6 [vr 11 0, vi p1, vi p2, vr 63 0] S (Is (some (vi (nI 2))) S) := Chs.of dtL_endow (by decide +kernel) rfl rfl (Nat.le_of_ble_eq_true rfl) (ls := [some (vr 11 0), some (vi p1), some (vi p2), some (vr 63 0), none]) rfl (fun O G => by
  refine a_aload_n (pc := 0) 0 0 rfl rfl ?_
  refine a_iconst (pc := 1) 0 1 (v := 0) rfl (by decide) ?_
  refine a_aload_n (pc := 2) 0 2 rfl rfl ?_
  refine a_iload_n (pc := 3) 0 3 rfl rfl ?_
  refine a_iload_n (pc := 4) 0 4 rfl rfl ?_
  refine a_callVX (pc := 5) 0 5 (q_X11_endow_2 (S := S) p1 p2 h) rfl cv_L_45 (by decide) rfl rfl rfl (rm rfl) ?_
  refine a_catch [(0, 10, 13, 13)] (0, 10, 17, 15) [(0, 10, 21, 24)] rfl (by
    intro z hz
    rcases List.mem_cons.mp hz with rfl | hz
    · exact ⟨by decide, _, clW_L_13, Or.inl ⟨rfl, rfl⟩⟩
    cases hz) rfl (by decide) clW_L_15 castW_xArg (fun q9 => ?_)
  refine a_astoreX (pc := 17) 0 12 (ls2 := [some (vr 11 0), some (vi p1), some (vi p2), some (vr 63 0), some (.inl (.ref q9))]) rfl (by decide) rfl ?_
  refine a_iconst (pc := 19) 0 13 (v := nI 2) rfl (by decide) ?_
  exact a_iret (pc := 20) 0 14 rfl rfl ⟨rfl, rfl⟩)
set_option maxRecDepth 100000 in
theorem x_L_endow_3 {S : Mem} (p1 : Int32) (p2 : Int32) (h : okx_X11_endow_3 S p1 p2) : Chs mdL_endow hhL_endow 8 125 1 6 [vr 11 0, vi p1, vi p2, vr 63 0] S (Is (some (vi (nI 3))) S) := Chs.of dtL_endow (by decide +kernel) rfl rfl (Nat.le_of_ble_eq_true rfl) (ls := [some (vr 11 0), some (vi p1), some (vi p2), some (vr 63 0), none]) rfl (fun O G => by
  refine a_aload_n (pc := 0) 0 0 rfl rfl ?_
  refine a_iconst (pc := 1) 0 1 (v := 0) rfl (by decide) ?_
  refine a_aload_n (pc := 2) 0 2 rfl rfl ?_
  refine a_iload_n (pc := 3) 0 3 rfl rfl ?_
  refine a_iload_n (pc := 4) 0 4 rfl rfl ?_
  refine a_callVX (pc := 5) 0 5 (q_X11_endow_3 (S := S) p1 p2 h) rfl cv_L_45 (by decide) rfl rfl rfl (rm rfl) ?_
  refine a_catch [(0, 10, 13, 13), (0, 10, 17, 15)] (0, 10, 21, 24) [] rfl (by
    intro z hz
    rcases List.mem_cons.mp hz with rfl | hz
    · exact ⟨by decide, _, clW_L_13, Or.inr (Or.inl ⟨rfl, rfl⟩)⟩
    rcases List.mem_cons.mp hz with rfl | hz
    · exact ⟨by decide, _, clW_L_15, Or.inr (Or.inr ⟨rfl, rfl⟩)⟩
    cases hz) rfl (by decide) clW_L_24 castW_xSta (fun q9 => ?_)
  refine a_astoreX (pc := 21) 0 15 (ls2 := [some (vr 11 0), some (vi p1), some (vi p2), some (vr 63 0), some (.inl (.ref q9))]) rfl (by decide) rfl ?_
  refine a_iconst (pc := 23) 0 16 (v := nI 3) rfl (by decide) ?_
  exact a_iret (pc := 24) 0 17 rfl rfl ⟨rfl, rfl⟩)
set_option maxRecDepth 100000 in
theorem n_L_lend {S : Mem} (p1 : Int32) (p2 : Int32) (p3 : Int32) (p4 : Int32) (h : ok_X11_lend S p1 p2 p3 p4) : Chs mdL_lend hhL_lend 4 94 0 0 [vr 11 0, vi p1, vi p2, vi p3, vi p4, vr 63 0] S (Is (some (vi 0)) (((f_X11_lend S p1 p2 p3 p4).2).1, ((f_X11_lend S p1 p2 p3 p4).2).2.1, ((f_X11_lend S p1 p2 p3 p4).1).toInt64)) := Chs.of dtL_lend (by decide +kernel) rfl rfl (Nat.le_of_ble_eq_true rfl) (ls := [some (vr 11 0), some (vi p1), some (vi p2), some (vi p3), some (vi p4), some (vr 63 0), none]) rfl (fun O G => by
  refine a_aload (pc := 0) 0 0 rfl rfl ?_
  refine a_iconst (pc := 2) 0 1 (v := 0) rfl (by decide) ?_
  refine a_aload_n (pc := 3) 0 2 rfl rfl ?_
  refine a_iload_n (pc := 4) 0 3 rfl rfl ?_
  refine a_iload_n (pc := 5) 0 4 rfl rfl ?_
  refine a_iload_n (pc := 6) 0 5 rfl rfl ?_
  refine a_iload (pc := 7) 0 6 rfl rfl ?_
  refine a_callVi (pc := 9) 0 7 (c_X11_lend (S := S) p1 p2 p3 p4 h) rfl cv_L_48 (by decide) rfl rfl rfl (rm rfl) ?_
  refine a_i2l (pc := 12) 0 8 rfl ?_
  refine a_last (pc := 13) 0 9 rfl rfl ?_
  refine a_goto (pc := 14) (tgt := 29) 0 10 rfl (by decide) ?_
  refine a_iconst (pc := 29) 0 20 (v := 0) rfl (by decide) ?_
  exact a_iret (pc := 30) 0 21 rfl rfl ⟨rfl, rfl⟩)
set_option maxRecDepth 100000 in
theorem x_L_lend_1 {S : Mem} (p1 : Int32) (p2 : Int32) (p3 : Int32) (p4 : Int32) (h : okx_X11_lend_1 S p1 p2 p3 p4) : Chs mdL_lend hhL_lend 9 147 1 6 [vr 11 0, vi p1, vi p2, vi p3, vi p4, vr 63 0] S (Is (some (vi 1)) S) := Chs.of dtL_lend (by decide +kernel) rfl rfl (Nat.le_of_ble_eq_true rfl) (ls := [some (vr 11 0), some (vi p1), some (vi p2), some (vi p3), some (vi p4), some (vr 63 0), none]) rfl (fun O G => by
  refine a_aload (pc := 0) 0 0 rfl rfl ?_
  refine a_iconst (pc := 2) 0 1 (v := 0) rfl (by decide) ?_
  refine a_aload_n (pc := 3) 0 2 rfl rfl ?_
  refine a_iload_n (pc := 4) 0 3 rfl rfl ?_
  refine a_iload_n (pc := 5) 0 4 rfl rfl ?_
  refine a_iload_n (pc := 6) 0 5 rfl rfl ?_
  refine a_iload (pc := 7) 0 6 rfl rfl ?_
  refine a_callVX (pc := 9) 0 7 (q_X11_lend_1 (S := S) p1 p2 p3 p4 h) rfl cv_L_48 (by decide) rfl rfl rfl (rm rfl) ?_
  refine a_catch [] (0, 14, 17, 13) [(0, 14, 21, 15), (0, 14, 25, 24)] rfl (by
    intro z hz
    cases hz) rfl (by decide) clW_L_13 castW_xIdx (fun q9 => ?_)
  refine a_astoreX (pc := 17) 0 11 (ls2 := [some (vr 11 0), some (vi p1), some (vi p2), some (vi p3), some (vi p4), some (vr 63 0), some (.inl (.ref q9))]) rfl (by decide) rfl ?_
  refine a_iconst (pc := 19) 0 12 (v := 1) rfl (by decide) ?_
  exact a_iret (pc := 20) 0 13 rfl rfl ⟨rfl, rfl⟩)
set_option maxRecDepth 100000 in
theorem x_L_lend_2 {S : Mem} (p1 : Int32) (p2 : Int32) (p3 : Int32) (p4 : Int32) (h : okx_X11_lend_2 S p1 p2 p3 p4) : Chs mdL_lend hhL_lend 9 147 1 6 [vr 11 0, vi p1, vi p2, vi p3, vi p4, vr 63 0] S (Is (some (vi 1)) S) := Chs.of dtL_lend (by decide +kernel) rfl rfl (Nat.le_of_ble_eq_true rfl) (ls := [some (vr 11 0), some (vi p1), some (vi p2), some (vi p3), some (vi p4), some (vr 63 0), none]) rfl (fun O G => by
  refine a_aload (pc := 0) 0 0 rfl rfl ?_
  refine a_iconst (pc := 2) 0 1 (v := 0) rfl (by decide) ?_
  refine a_aload_n (pc := 3) 0 2 rfl rfl ?_
  refine a_iload_n (pc := 4) 0 3 rfl rfl ?_
  refine a_iload_n (pc := 5) 0 4 rfl rfl ?_
  refine a_iload_n (pc := 6) 0 5 rfl rfl ?_
  refine a_iload (pc := 7) 0 6 rfl rfl ?_
  refine a_callVX (pc := 9) 0 7 (q_X11_lend_2 (S := S) p1 p2 p3 p4 h) rfl cv_L_48 (by decide) rfl rfl rfl (rm rfl) ?_
  refine a_catch [] (0, 14, 17, 13) [(0, 14, 21, 15), (0, 14, 25, 24)] rfl (by
    intro z hz
    cases hz) rfl (by decide) clW_L_13 castW_xIdx (fun q9 => ?_)
  refine a_astoreX (pc := 17) 0 11 (ls2 := [some (vr 11 0), some (vi p1), some (vi p2), some (vi p3), some (vi p4), some (vr 63 0), some (.inl (.ref q9))]) rfl (by decide) rfl ?_
  refine a_iconst (pc := 19) 0 12 (v := 1) rfl (by decide) ?_
  exact a_iret (pc := 20) 0 13 rfl rfl ⟨rfl, rfl⟩)
set_option maxRecDepth 100000 in
theorem x_L_lend_3 {S : Mem} (p1 : Int32) (p2 : Int32) (p3 : Int32) (p4 : Int32) (h : okx_X11_lend_3 S p1 p2 p3 p4) : Chs mdL_lend hhL_lend 9 149 1 6 [vr 11 0, vi p1, vi p2, vi p3, vi p4, vr 63 0] S (Is (some (vi (nI 2))) S) := Chs.of dtL_lend (by decide +kernel) rfl rfl (Nat.le_of_ble_eq_true rfl) (ls := [some (vr 11 0), some (vi p1), some (vi p2), some (vi p3), some (vi p4), some (vr 63 0), none]) rfl (fun O G => by
  refine a_aload (pc := 0) 0 0 rfl rfl ?_
  refine a_iconst (pc := 2) 0 1 (v := 0) rfl (by decide) ?_
  refine a_aload_n (pc := 3) 0 2 rfl rfl ?_
  refine a_iload_n (pc := 4) 0 3 rfl rfl ?_
  refine a_iload_n (pc := 5) 0 4 rfl rfl ?_
  refine a_iload_n (pc := 6) 0 5 rfl rfl ?_
  refine a_iload (pc := 7) 0 6 rfl rfl ?_
  refine a_callVX (pc := 9) 0 7 (q_X11_lend_3 (S := S) p1 p2 p3 p4 h) rfl cv_L_48 (by decide) rfl rfl rfl (rm rfl) ?_
  refine a_catch [(0, 14, 17, 13)] (0, 14, 21, 15) [(0, 14, 25, 24)] rfl (by
    intro z hz
    rcases List.mem_cons.mp hz with rfl | hz
    · exact ⟨by decide, _, clW_L_13, Or.inl ⟨rfl, rfl⟩⟩
    cases hz) rfl (by decide) clW_L_15 castW_xArg (fun q9 => ?_)
  refine a_astoreX (pc := 21) 0 14 (ls2 := [some (vr 11 0), some (vi p1), some (vi p2), some (vi p3), some (vi p4), some (vr 63 0), some (.inl (.ref q9))]) rfl (by decide) rfl ?_
  refine a_iconst (pc := 23) 0 15 (v := nI 2) rfl (by decide) ?_
  exact a_iret (pc := 24) 0 16 rfl rfl ⟨rfl, rfl⟩)
set_option maxRecDepth 100000 in
theorem x_L_lend_4 {S : Mem} (p1 : Int32) (p2 : Int32) (p3 : Int32) (p4 : Int32) (h : okx_X11_lend_4 S p1 p2 p3 p4) : Chs mdL_lend hhL_lend 9 149 1 6 [vr 11 0, vi p1, vi p2, vi p3, vi p4, vr 63 0] S (Is (some (vi (nI 2))) S) := Chs.of dtL_lend (by decide +kernel) rfl rfl (Nat.le_of_ble_eq_true rfl) (ls := [some (vr 11 0), some (vi p1), some (vi p2), some (vi p3), some (vi p4), some (vr 63 0), none]) rfl (fun O G => by
  refine a_aload (pc := 0) 0 0 rfl rfl ?_
  refine a_iconst (pc := 2) 0 1 (v := 0) rfl (by decide) ?_
  refine a_aload_n (pc := 3) 0 2 rfl rfl ?_
  refine a_iload_n (pc := 4) 0 3 rfl rfl ?_
  refine a_iload_n (pc := 5) 0 4 rfl rfl ?_
  refine a_iload_n (pc := 6) 0 5 rfl rfl ?_
  refine a_iload (pc := 7) 0 6 rfl rfl ?_
  refine a_callVX (pc := 9) 0 7 (q_X11_lend_4 (S := S) p1 p2 p3 p4 h) rfl cv_L_48 (by decide) rfl rfl rfl (rm rfl) ?_
  refine a_catch [(0, 14, 17, 13)] (0, 14, 21, 15) [(0, 14, 25, 24)] rfl (by
    intro z hz
    rcases List.mem_cons.mp hz with rfl | hz
    · exact ⟨by decide, _, clW_L_13, Or.inl ⟨rfl, rfl⟩⟩
    cases hz) rfl (by decide) clW_L_15 castW_xArg (fun q9 => ?_)
  refine a_astoreX (pc := 21) 0 14 (ls2 := [some (vr 11 0), some (vi p1), some (vi p2), some (vi p3), some (vi p4), some (vr 63 0), some (.inl (.ref q9))]) rfl (by decide) rfl ?_
  refine a_iconst (pc := 23) 0 15 (v := nI 2) rfl (by decide) ?_
  exact a_iret (pc := 24) 0 16 rfl rfl ⟨rfl, rfl⟩)
set_option maxRecDepth 100000 in
theorem x_L_lend_5 {S : Mem} (p1 : Int32) (p2 : Int32) (p3 : Int32) (p4 : Int32) (h : okx_X11_lend_5 S p1 p2 p3 p4) : Chs mdL_lend hhL_lend 8 127 1 6 [vr 11 0, vi p1, vi p2, vi p3, vi p4, vr 63 0] S (Is (some (vi (nI 3))) S) := Chs.of dtL_lend (by decide +kernel) rfl rfl (Nat.le_of_ble_eq_true rfl) (ls := [some (vr 11 0), some (vi p1), some (vi p2), some (vi p3), some (vi p4), some (vr 63 0), none]) rfl (fun O G => by
  refine a_aload (pc := 0) 0 0 rfl rfl ?_
  refine a_iconst (pc := 2) 0 1 (v := 0) rfl (by decide) ?_
  refine a_aload_n (pc := 3) 0 2 rfl rfl ?_
  refine a_iload_n (pc := 4) 0 3 rfl rfl ?_
  refine a_iload_n (pc := 5) 0 4 rfl rfl ?_
  refine a_iload_n (pc := 6) 0 5 rfl rfl ?_
  refine a_iload (pc := 7) 0 6 rfl rfl ?_
  refine a_callVX (pc := 9) 0 7 (q_X11_lend_5 (S := S) p1 p2 p3 p4 h) rfl cv_L_48 (by decide) rfl rfl rfl (rm rfl) ?_
  refine a_catch [(0, 14, 17, 13), (0, 14, 21, 15)] (0, 14, 25, 24) [] rfl (by
    intro z hz
    rcases List.mem_cons.mp hz with rfl | hz
    · exact ⟨by decide, _, clW_L_13, Or.inr (Or.inl ⟨rfl, rfl⟩)⟩
    rcases List.mem_cons.mp hz with rfl | hz
    · exact ⟨by decide, _, clW_L_15, Or.inr (Or.inr ⟨rfl, rfl⟩)⟩
    cases hz) rfl (by decide) clW_L_24 castW_xSta (fun q9 => ?_)
  refine a_astoreX (pc := 25) 0 17 (ls2 := [some (vr 11 0), some (vi p1), some (vi p2), some (vi p3), some (vi p4), some (vr 63 0), some (.inl (.ref q9))]) rfl (by decide) rfl ?_
  refine a_iconst (pc := 27) 0 18 (v := nI 3) rfl (by decide) ?_
  exact a_iret (pc := 28) 0 19 rfl rfl ⟨rfl, rfl⟩)
set_option maxRecDepth 100000 in
theorem x_L_lend_6 {S : Mem} (p1 : Int32) (p2 : Int32) (p3 : Int32) (p4 : Int32) (h : okx_X11_lend_6 S p1 p2 p3 p4) : Chs mdL_lend hhL_lend 8 127 1 6 [vr 11 0, vi p1, vi p2, vi p3, vi p4, vr 63 0] S (Is (some (vi (nI 3))) S) := Chs.of dtL_lend (by decide +kernel) rfl rfl (Nat.le_of_ble_eq_true rfl) (ls := [some (vr 11 0), some (vi p1), some (vi p2), some (vi p3), some (vi p4), some (vr 63 0), none]) rfl (fun O G => by
  refine a_aload (pc := 0) 0 0 rfl rfl ?_
  refine a_iconst (pc := 2) 0 1 (v := 0) rfl (by decide) ?_
  refine a_aload_n (pc := 3) 0 2 rfl rfl ?_
  refine a_iload_n (pc := 4) 0 3 rfl rfl ?_
  refine a_iload_n (pc := 5) 0 4 rfl rfl ?_
  refine a_iload_n (pc := 6) 0 5 rfl rfl ?_
  refine a_iload (pc := 7) 0 6 rfl rfl ?_
  refine a_callVX (pc := 9) 0 7 (q_X11_lend_6 (S := S) p1 p2 p3 p4 h) rfl cv_L_48 (by decide) rfl rfl rfl (rm rfl) ?_
  refine a_catch [(0, 14, 17, 13), (0, 14, 21, 15)] (0, 14, 25, 24) [] rfl (by
    intro z hz
    rcases List.mem_cons.mp hz with rfl | hz
    · exact ⟨by decide, _, clW_L_13, Or.inr (Or.inl ⟨rfl, rfl⟩)⟩
    rcases List.mem_cons.mp hz with rfl | hz
    · exact ⟨by decide, _, clW_L_15, Or.inr (Or.inr ⟨rfl, rfl⟩)⟩
    cases hz) rfl (by decide) clW_L_24 castW_xSta (fun q9 => ?_)
  refine a_astoreX (pc := 25) 0 17 (ls2 := [some (vr 11 0), some (vi p1), some (vi p2), some (vi p3), some (vi p4), some (vr 63 0), some (.inl (.ref q9))]) rfl (by decide) rfl ?_
  refine a_iconst (pc := 27) 0 18 (v := nI 3) rfl (by decide) ?_
  exact a_iret (pc := 28) 0 19 rfl rfl ⟨rfl, rfl⟩)
set_option maxRecDepth 100000 in
theorem n_L_payBack {S : Mem} (p1 : Int32) (p2 : Int32) (h : ok_X11_payBack S p1 p2) : Chs mdL_payBack hhL_payBack 4 91 0 0 [vr 11 0, vi p1, vi p2, vr 63 0] S (Is (some (vi 0)) (((f_X11_payBack S p1 p2).2).1, ((f_X11_payBack S p1 p2).2).2.1, ((f_X11_payBack S p1 p2).1).toInt64)) := Chs.of dtL_payBack (by decide +kernel) rfl rfl (Nat.le_of_ble_eq_true rfl) (ls := [some (vr 11 0), some (vi p1), some (vi p2), some (vr 63 0), none]) rfl (fun O G => by
  refine a_aload_n (pc := 0) 0 0 rfl rfl ?_
  refine a_iconst (pc := 1) 0 1 (v := 0) rfl (by decide) ?_
  refine a_aload_n (pc := 2) 0 2 rfl rfl ?_
  refine a_iload_n (pc := 3) 0 3 rfl rfl ?_
  refine a_iload_n (pc := 4) 0 4 rfl rfl ?_
  refine a_callVi (pc := 5) 0 5 (c_X11_payBack (S := S) p1 p2 h) rfl cv_L_52 (by decide) rfl rfl rfl (rm rfl) ?_
  refine a_i2l (pc := 8) 0 6 rfl ?_
  refine a_last (pc := 9) 0 7 rfl rfl ?_
  refine a_goto (pc := 10) (tgt := 25) 0 8 rfl (by decide) ?_
  refine a_iconst (pc := 25) 0 18 (v := 0) rfl (by decide) ?_
  exact a_iret (pc := 26) 0 19 rfl rfl ⟨rfl, rfl⟩)
set_option maxRecDepth 100000 in
theorem x_L_payBack_1 {S : Mem} (p1 : Int32) (p2 : Int32) (h : okx_X11_payBack_1 S p1 p2) : Chs mdL_payBack hhL_payBack 9 146 1 6 [vr 11 0, vi p1, vi p2, vr 63 0] S (Is (some (vi 1)) S) := Chs.of dtL_payBack (by decide +kernel) rfl rfl (Nat.le_of_ble_eq_true rfl) (ls := [some (vr 11 0), some (vi p1), some (vi p2), some (vr 63 0), none]) rfl (fun O G => by
  refine a_aload_n (pc := 0) 0 0 rfl rfl ?_
  refine a_iconst (pc := 1) 0 1 (v := 0) rfl (by decide) ?_
  refine a_aload_n (pc := 2) 0 2 rfl rfl ?_
  refine a_iload_n (pc := 3) 0 3 rfl rfl ?_
  refine a_iload_n (pc := 4) 0 4 rfl rfl ?_
  refine a_callVX (pc := 5) 0 5 (q_X11_payBack_1 (S := S) p1 p2 h) rfl cv_L_52 (by decide) rfl rfl rfl (rm rfl) ?_
  refine a_catch [] (0, 10, 13, 13) [(0, 10, 17, 15), (0, 10, 21, 24)] rfl (by
    intro z hz
    cases hz) rfl (by decide) clW_L_13 castW_xIdx (fun q9 => ?_)
  refine a_astoreX (pc := 13) 0 9 (ls2 := [some (vr 11 0), some (vi p1), some (vi p2), some (vr 63 0), some (.inl (.ref q9))]) rfl (by decide) rfl ?_
  refine a_iconst (pc := 15) 0 10 (v := 1) rfl (by decide) ?_
  exact a_iret (pc := 16) 0 11 rfl rfl ⟨rfl, rfl⟩)
set_option maxRecDepth 100000 in
theorem x_L_payBack_2 {S : Mem} (p1 : Int32) (p2 : Int32) (h : okx_X11_payBack_2 S p1 p2) : Chs mdL_payBack hhL_payBack 9 147 1 6 [vr 11 0, vi p1, vi p2, vr 63 0] S (Is (some (vi (nI 2))) S) := Chs.of dtL_payBack (by decide +kernel) rfl rfl (Nat.le_of_ble_eq_true rfl) (ls := [some (vr 11 0), some (vi p1), some (vi p2), some (vr 63 0), none]) rfl (fun O G => by
  refine a_aload_n (pc := 0) 0 0 rfl rfl ?_
  refine a_iconst (pc := 1) 0 1 (v := 0) rfl (by decide) ?_
  refine a_aload_n (pc := 2) 0 2 rfl rfl ?_
  refine a_iload_n (pc := 3) 0 3 rfl rfl ?_
  refine a_iload_n (pc := 4) 0 4 rfl rfl ?_
  refine a_callVX (pc := 5) 0 5 (q_X11_payBack_2 (S := S) p1 p2 h) rfl cv_L_52 (by decide) rfl rfl rfl (rm rfl) ?_
  refine a_catch [(0, 10, 13, 13)] (0, 10, 17, 15) [(0, 10, 21, 24)] rfl (by
    intro z hz
    rcases List.mem_cons.mp hz with rfl | hz
    · exact ⟨by decide, _, clW_L_13, Or.inl ⟨rfl, rfl⟩⟩
    cases hz) rfl (by decide) clW_L_15 castW_xArg (fun q9 => ?_)
  refine a_astoreX (pc := 17) 0 12 (ls2 := [some (vr 11 0), some (vi p1), some (vi p2), some (vr 63 0), some (.inl (.ref q9))]) rfl (by decide) rfl ?_
  refine a_iconst (pc := 19) 0 13 (v := nI 2) rfl (by decide) ?_
  exact a_iret (pc := 20) 0 14 rfl rfl ⟨rfl, rfl⟩)
set_option maxRecDepth 100000 in
theorem x_L_payBack_3 {S : Mem} (p1 : Int32) (p2 : Int32) (h : okx_X11_payBack_3 S p1 p2) : Chs mdL_payBack hhL_payBack 8 125 1 6 [vr 11 0, vi p1, vi p2, vr 63 0] S (Is (some (vi (nI 3))) S) := Chs.of dtL_payBack (by decide +kernel) rfl rfl (Nat.le_of_ble_eq_true rfl) (ls := [some (vr 11 0), some (vi p1), some (vi p2), some (vr 63 0), none]) rfl (fun O G => by
  refine a_aload_n (pc := 0) 0 0 rfl rfl ?_
  refine a_iconst (pc := 1) 0 1 (v := 0) rfl (by decide) ?_
  refine a_aload_n (pc := 2) 0 2 rfl rfl ?_
  refine a_iload_n (pc := 3) 0 3 rfl rfl ?_
  refine a_iload_n (pc := 4) 0 4 rfl rfl ?_
  refine a_callVX (pc := 5) 0 5 (q_X11_payBack_3 (S := S) p1 p2 h) rfl cv_L_52 (by decide) rfl rfl rfl (rm rfl) ?_
  refine a_catch [(0, 10, 13, 13), (0, 10, 17, 15)] (0, 10, 21, 24) [] rfl (by
    intro z hz
    rcases List.mem_cons.mp hz with rfl | hz
    · exact ⟨by decide, _, clW_L_13, Or.inr (Or.inl ⟨rfl, rfl⟩)⟩
    rcases List.mem_cons.mp hz with rfl | hz
    · exact ⟨by decide, _, clW_L_15, Or.inr (Or.inr ⟨rfl, rfl⟩)⟩
    cases hz) rfl (by decide) clW_L_24 castW_xSta (fun q9 => ?_)
  refine a_astoreX (pc := 21) 0 15 (ls2 := [some (vr 11 0), some (vi p1), some (vi p2), some (vr 63 0), some (.inl (.ref q9))]) rfl (by decide) rfl ?_
  refine a_iconst (pc := 23) 0 16 (v := nI 3) rfl (by decide) ?_
  exact a_iret (pc := 24) 0 17 rfl rfl ⟨rfl, rfl⟩)
set_option maxRecDepth 100000 in
theorem n_L_window {S : Mem} (p1 : Int32) (p2 : Int32) (h : ok_X11_window S p1 p2) : Chs mdL_window hhL_window 4 90 0 0 [vr 11 0, vi p1, vi p2, vr 63 0] S (Is (some (vi 0)) (((f_X11_window S p1 p2).2).1, ((f_X11_window S p1 p2).2).2.1, ((f_X11_window S p1 p2).1).toInt64)) := Chs.of dtL_window (by decide +kernel) rfl rfl (Nat.le_of_ble_eq_true rfl) (ls := [some (vr 11 0), some (vi p1), some (vi p2), some (vr 63 0), none]) rfl (fun O G => by
  refine a_aload_n (pc := 0) 0 0 rfl rfl ?_
  refine a_iconst (pc := 1) 0 1 (v := 0) rfl (by decide) ?_
  refine a_aload_n (pc := 2) 0 2 rfl rfl ?_
  refine a_iload_n (pc := 3) 0 3 rfl rfl ?_
  refine a_iload_n (pc := 4) 0 4 rfl rfl ?_
  refine a_callVi (pc := 5) 0 5 (c_X11_window (S := S) p1 p2 h) rfl cv_L_55 (by decide) rfl rfl rfl (rm rfl) ?_
  refine a_i2l (pc := 8) 0 6 rfl ?_
  refine a_last (pc := 9) 0 7 rfl rfl ?_
  refine a_goto (pc := 10) (tgt := 25) 0 8 rfl (by decide) ?_
  refine a_iconst (pc := 25) 0 18 (v := 0) rfl (by decide) ?_
  exact a_iret (pc := 26) 0 19 rfl rfl ⟨rfl, rfl⟩)
set_option maxRecDepth 100000 in
theorem x_L_window_1 {S : Mem} (p1 : Int32) (p2 : Int32) (h : okx_X11_window_1 S p1 p2) : Chs mdL_window hhL_window 9 145 1 6 [vr 11 0, vi p1, vi p2, vr 63 0] S (Is (some (vi 1)) S) := Chs.of dtL_window (by decide +kernel) rfl rfl (Nat.le_of_ble_eq_true rfl) (ls := [some (vr 11 0), some (vi p1), some (vi p2), some (vr 63 0), none]) rfl (fun O G => by
  refine a_aload_n (pc := 0) 0 0 rfl rfl ?_
  refine a_iconst (pc := 1) 0 1 (v := 0) rfl (by decide) ?_
  refine a_aload_n (pc := 2) 0 2 rfl rfl ?_
  refine a_iload_n (pc := 3) 0 3 rfl rfl ?_
  refine a_iload_n (pc := 4) 0 4 rfl rfl ?_
  refine a_callVX (pc := 5) 0 5 (q_X11_window_1 (S := S) p1 p2 h) rfl cv_L_55 (by decide) rfl rfl rfl (rm rfl) ?_
  refine a_catch [] (0, 10, 13, 13) [(0, 10, 17, 15), (0, 10, 21, 24)] rfl (by
    intro z hz
    cases hz) rfl (by decide) clW_L_13 castW_xIdx (fun q9 => ?_)
  refine a_astoreX (pc := 13) 0 9 (ls2 := [some (vr 11 0), some (vi p1), some (vi p2), some (vr 63 0), some (.inl (.ref q9))]) rfl (by decide) rfl ?_
  refine a_iconst (pc := 15) 0 10 (v := 1) rfl (by decide) ?_
  exact a_iret (pc := 16) 0 11 rfl rfl ⟨rfl, rfl⟩)
set_option maxRecDepth 100000 in
theorem x_L_window_2 {S : Mem} (p1 : Int32) (p2 : Int32) (h : okx_X11_window_2 S p1 p2) : Chs mdL_window hhL_window 9 147 1 6 [vr 11 0, vi p1, vi p2, vr 63 0] S (Is (some (vi (nI 2))) S) := Chs.of dtL_window (by decide +kernel) rfl rfl (Nat.le_of_ble_eq_true rfl) (ls := [some (vr 11 0), some (vi p1), some (vi p2), some (vr 63 0), none]) rfl (fun O G => by
  refine a_aload_n (pc := 0) 0 0 rfl rfl ?_
  refine a_iconst (pc := 1) 0 1 (v := 0) rfl (by decide) ?_
  refine a_aload_n (pc := 2) 0 2 rfl rfl ?_
  refine a_iload_n (pc := 3) 0 3 rfl rfl ?_
  refine a_iload_n (pc := 4) 0 4 rfl rfl ?_
  refine a_callVX (pc := 5) 0 5 (q_X11_window_2 (S := S) p1 p2 h) rfl cv_L_55 (by decide) rfl rfl rfl (rm rfl) ?_
  refine a_catch [(0, 10, 13, 13)] (0, 10, 17, 15) [(0, 10, 21, 24)] rfl (by
    intro z hz
    rcases List.mem_cons.mp hz with rfl | hz
    · exact ⟨by decide, _, clW_L_13, Or.inl ⟨rfl, rfl⟩⟩
    cases hz) rfl (by decide) clW_L_15 castW_xArg (fun q9 => ?_)
  refine a_astoreX (pc := 17) 0 12 (ls2 := [some (vr 11 0), some (vi p1), some (vi p2), some (vr 63 0), some (.inl (.ref q9))]) rfl (by decide) rfl ?_
  refine a_iconst (pc := 19) 0 13 (v := nI 2) rfl (by decide) ?_
  exact a_iret (pc := 20) 0 14 rfl rfl ⟨rfl, rfl⟩)
set_option maxRecDepth 100000 in
theorem x_L_window_3 {S : Mem} (p1 : Int32) (p2 : Int32) (h : okx_X11_window_3 S p1 p2) : Chs mdL_window hhL_window 8 125 1 6 [vr 11 0, vi p1, vi p2, vr 63 0] S (Is (some (vi (nI 3))) S) := Chs.of dtL_window (by decide +kernel) rfl rfl (Nat.le_of_ble_eq_true rfl) (ls := [some (vr 11 0), some (vi p1), some (vi p2), some (vr 63 0), none]) rfl (fun O G => by
  refine a_aload_n (pc := 0) 0 0 rfl rfl ?_
  refine a_iconst (pc := 1) 0 1 (v := 0) rfl (by decide) ?_
  refine a_aload_n (pc := 2) 0 2 rfl rfl ?_
  refine a_iload_n (pc := 3) 0 3 rfl rfl ?_
  refine a_iload_n (pc := 4) 0 4 rfl rfl ?_
  refine a_callVX (pc := 5) 0 5 (q_X11_window_3 (S := S) p1 p2 h) rfl cv_L_55 (by decide) rfl rfl rfl (rm rfl) ?_
  refine a_catch [(0, 10, 13, 13), (0, 10, 17, 15)] (0, 10, 21, 24) [] rfl (by
    intro z hz
    rcases List.mem_cons.mp hz with rfl | hz
    · exact ⟨by decide, _, clW_L_13, Or.inr (Or.inl ⟨rfl, rfl⟩)⟩
    rcases List.mem_cons.mp hz with rfl | hz
    · exact ⟨by decide, _, clW_L_15, Or.inr (Or.inr ⟨rfl, rfl⟩)⟩
    cases hz) rfl (by decide) clW_L_24 castW_xSta (fun q9 => ?_)
  refine a_astoreX (pc := 21) 0 15 (ls2 := [some (vr 11 0), some (vi p1), some (vi p2), some (vr 63 0), some (.inl (.ref q9))]) rfl (by decide) rfl ?_
  refine a_iconst (pc := 23) 0 16 (v := nI 3) rfl (by decide) ?_
  exact a_iret (pc := 24) 0 17 rfl rfl ⟨rfl, rfl⟩)
set_option maxRecDepth 100000 in
theorem n_L_windowBack {S : Mem} (p1 : Int32) (p2 : Int32) (h : ok_X11_windowBack S p1 p2) : Chs mdL_windowBack hhL_windowBack 3 65 0 0 [vr 11 0, vi p1, vi p2, vr 63 0] S (Is (some (vi 0)) (((f_X11_windowBack S p1 p2).2).1, ((f_X11_windowBack S p1 p2).2).2.1, ((f_X11_windowBack S p1 p2).1).toInt64)) := Chs.of dtL_windowBack (by decide +kernel) rfl rfl (Nat.le_of_ble_eq_true rfl) (ls := [some (vr 11 0), some (vi p1), some (vi p2), some (vr 63 0), none]) rfl (fun O G => by
  refine a_aload_n (pc := 0) 0 0 rfl rfl ?_
  refine a_iconst (pc := 1) 0 1 (v := 0) rfl (by decide) ?_
  refine a_aload_n (pc := 2) 0 2 rfl rfl ?_
  refine a_iload_n (pc := 3) 0 3 rfl rfl ?_
  refine a_iload_n (pc := 4) 0 4 rfl rfl ?_
  refine a_callVi (pc := 5) 0 5 (c_X11_windowBack (S := S) p1 p2 h) rfl cv_L_58 (by decide) rfl rfl rfl (rm rfl) ?_
  refine a_i2l (pc := 8) 0 6 rfl ?_
  refine a_last (pc := 9) 0 7 rfl rfl ?_
  refine a_goto (pc := 10) (tgt := 25) 0 8 rfl (by decide) ?_
  refine a_iconst (pc := 25) 0 18 (v := 0) rfl (by decide) ?_
  exact a_iret (pc := 26) 0 19 rfl rfl ⟨rfl, rfl⟩)
set_option maxRecDepth 100000 in
theorem x_L_windowBack_1 {S : Mem} (p1 : Int32) (p2 : Int32) (h : okx_X11_windowBack_1 S p1 p2) : Chs mdL_windowBack hhL_windowBack 9 145 1 6 [vr 11 0, vi p1, vi p2, vr 63 0] S (Is (some (vi 1)) S) := Chs.of dtL_windowBack (by decide +kernel) rfl rfl (Nat.le_of_ble_eq_true rfl) (ls := [some (vr 11 0), some (vi p1), some (vi p2), some (vr 63 0), none]) rfl (fun O G => by
  refine a_aload_n (pc := 0) 0 0 rfl rfl ?_
  refine a_iconst (pc := 1) 0 1 (v := 0) rfl (by decide) ?_
  refine a_aload_n (pc := 2) 0 2 rfl rfl ?_
  refine a_iload_n (pc := 3) 0 3 rfl rfl ?_
  refine a_iload_n (pc := 4) 0 4 rfl rfl ?_
  refine a_callVX (pc := 5) 0 5 (q_X11_windowBack_1 (S := S) p1 p2 h) rfl cv_L_58 (by decide) rfl rfl rfl (rm rfl) ?_
  refine a_catch [] (0, 10, 13, 13) [(0, 10, 17, 15), (0, 10, 21, 24)] rfl (by
    intro z hz
    cases hz) rfl (by decide) clW_L_13 castW_xIdx (fun q9 => ?_)
  refine a_astoreX (pc := 13) 0 9 (ls2 := [some (vr 11 0), some (vi p1), some (vi p2), some (vr 63 0), some (.inl (.ref q9))]) rfl (by decide) rfl ?_
  refine a_iconst (pc := 15) 0 10 (v := 1) rfl (by decide) ?_
  exact a_iret (pc := 16) 0 11 rfl rfl ⟨rfl, rfl⟩)
set_option maxRecDepth 100000 in
theorem x_L_windowBack_2 {S : Mem} (p1 : Int32) (p2 : Int32) (h : okx_X11_windowBack_2 S p1 p2) : Chs mdL_windowBack hhL_windowBack 9 147 1 6 [vr 11 0, vi p1, vi p2, vr 63 0] S (Is (some (vi (nI 2))) S) := Chs.of dtL_windowBack (by decide +kernel) rfl rfl (Nat.le_of_ble_eq_true rfl) (ls := [some (vr 11 0), some (vi p1), some (vi p2), some (vr 63 0), none]) rfl (fun O G => by
  refine a_aload_n (pc := 0) 0 0 rfl rfl ?_
  refine a_iconst (pc := 1) 0 1 (v := 0) rfl (by decide) ?_
  refine a_aload_n (pc := 2) 0 2 rfl rfl ?_
  refine a_iload_n (pc := 3) 0 3 rfl rfl ?_
  refine a_iload_n (pc := 4) 0 4 rfl rfl ?_
  refine a_callVX (pc := 5) 0 5 (q_X11_windowBack_2 (S := S) p1 p2 h) rfl cv_L_58 (by decide) rfl rfl rfl (rm rfl) ?_
  refine a_catch [(0, 10, 13, 13)] (0, 10, 17, 15) [(0, 10, 21, 24)] rfl (by
    intro z hz
    rcases List.mem_cons.mp hz with rfl | hz
    · exact ⟨by decide, _, clW_L_13, Or.inl ⟨rfl, rfl⟩⟩
    cases hz) rfl (by decide) clW_L_15 castW_xArg (fun q9 => ?_)
  refine a_astoreX (pc := 17) 0 12 (ls2 := [some (vr 11 0), some (vi p1), some (vi p2), some (vr 63 0), some (.inl (.ref q9))]) rfl (by decide) rfl ?_
  refine a_iconst (pc := 19) 0 13 (v := nI 2) rfl (by decide) ?_
  exact a_iret (pc := 20) 0 14 rfl rfl ⟨rfl, rfl⟩)
set_option maxRecDepth 100000 in
theorem x_L_windowBack_3 {S : Mem} (p1 : Int32) (p2 : Int32) (h : okx_X11_windowBack_3 S p1 p2) : Chs mdL_windowBack hhL_windowBack 8 125 1 6 [vr 11 0, vi p1, vi p2, vr 63 0] S (Is (some (vi (nI 3))) S) := Chs.of dtL_windowBack (by decide +kernel) rfl rfl (Nat.le_of_ble_eq_true rfl) (ls := [some (vr 11 0), some (vi p1), some (vi p2), some (vr 63 0), none]) rfl (fun O G => by
  refine a_aload_n (pc := 0) 0 0 rfl rfl ?_
  refine a_iconst (pc := 1) 0 1 (v := 0) rfl (by decide) ?_
  refine a_aload_n (pc := 2) 0 2 rfl rfl ?_
  refine a_iload_n (pc := 3) 0 3 rfl rfl ?_
  refine a_iload_n (pc := 4) 0 4 rfl rfl ?_
  refine a_callVX (pc := 5) 0 5 (q_X11_windowBack_3 (S := S) p1 p2 h) rfl cv_L_58 (by decide) rfl rfl rfl (rm rfl) ?_
  refine a_catch [(0, 10, 13, 13), (0, 10, 17, 15)] (0, 10, 21, 24) [] rfl (by
    intro z hz
    rcases List.mem_cons.mp hz with rfl | hz
    · exact ⟨by decide, _, clW_L_13, Or.inr (Or.inl ⟨rfl, rfl⟩)⟩
    rcases List.mem_cons.mp hz with rfl | hz
    · exact ⟨by decide, _, clW_L_15, Or.inr (Or.inr ⟨rfl, rfl⟩)⟩
    cases hz) rfl (by decide) clW_L_24 castW_xSta (fun q9 => ?_)
  refine a_astoreX (pc := 21) 0 15 (ls2 := [some (vr 11 0), some (vi p1), some (vi p2), some (vr 63 0), some (.inl (.ref q9))]) rfl (by decide) rfl ?_
  refine a_iconst (pc := 23) 0 16 (v := nI 3) rfl (by decide) ?_
  exact a_iret (pc := 24) 0 17 rfl rfl ⟨rfl, rfl⟩)
set_option maxRecDepth 100000 in
theorem n_L_rules {S : Mem} (p1 : Int32) (p2 : Int32) (p3 : Int32) (h : ok_X11_rules S p1 p2 p3) : Chs mdL_rules hhL_rules 3 67 0 0 [vr 11 0, vi p1, vi p2, vi p3, vr 63 0] S (Is (some (vi 0)) (((f_X11_rules S p1 p2 p3).2).1, ((f_X11_rules S p1 p2 p3).2).2.1, ((f_X11_rules S p1 p2 p3).1).toInt64)) := Chs.of dtL_rules (by decide +kernel) rfl rfl (Nat.le_of_ble_eq_true rfl) (ls := [some (vr 11 0), some (vi p1), some (vi p2), some (vi p3), some (vr 63 0), none]) rfl (fun O G => by
  refine a_aload (pc := 0) 0 0 rfl rfl ?_
  refine a_iconst (pc := 2) 0 1 (v := 0) rfl (by decide) ?_
  refine a_aload_n (pc := 3) 0 2 rfl rfl ?_
  refine a_iload_n (pc := 4) 0 3 rfl rfl ?_
  refine a_iload_n (pc := 5) 0 4 rfl rfl ?_
  refine a_iload_n (pc := 6) 0 5 rfl rfl ?_
  refine a_callVi (pc := 7) 0 6 (c_X11_rules (S := S) p1 p2 p3 h) rfl cv_L_61 (by decide) rfl rfl rfl (rm rfl) ?_
  refine a_i2l (pc := 10) 0 7 rfl ?_
  refine a_last (pc := 11) 0 8 rfl rfl ?_
  refine a_goto (pc := 12) (tgt := 19) 0 9 rfl (by decide) ?_
  refine a_iconst (pc := 19) 0 13 (v := 0) rfl (by decide) ?_
  exact a_iret (pc := 20) 0 14 rfl rfl ⟨rfl, rfl⟩)
set_option maxRecDepth 100000 in
theorem x_L_rules_1 {S : Mem} (p1 : Int32) (p2 : Int32) (p3 : Int32) (h : okx_X11_rules_1 S p1 p2 p3) : Chs mdL_rules hhL_rules 9 149 1 6 [vr 11 0, vi p1, vi p2, vi p3, vr 63 0] S (Is (some (vi 1)) S) := Chs.of dtL_rules (by decide +kernel) rfl rfl (Nat.le_of_ble_eq_true rfl) (ls := [some (vr 11 0), some (vi p1), some (vi p2), some (vi p3), some (vr 63 0), none]) rfl (fun O G => by
  refine a_aload (pc := 0) 0 0 rfl rfl ?_
  refine a_iconst (pc := 2) 0 1 (v := 0) rfl (by decide) ?_
  refine a_aload_n (pc := 3) 0 2 rfl rfl ?_
  refine a_iload_n (pc := 4) 0 3 rfl rfl ?_
  refine a_iload_n (pc := 5) 0 4 rfl rfl ?_
  refine a_iload_n (pc := 6) 0 5 rfl rfl ?_
  refine a_callVX (pc := 7) 0 6 (q_X11_rules_1 (S := S) p1 p2 p3 h) rfl cv_L_61 (by decide) rfl rfl rfl (rm rfl) ?_
  refine a_catch [] (0, 12, 15, 15) [] rfl (by
    intro z hz
    cases hz) rfl (by decide) clW_L_15 castW_xArg (fun q9 => ?_)
  refine a_astoreX (pc := 15) 0 10 (ls2 := [some (vr 11 0), some (vi p1), some (vi p2), some (vi p3), some (vr 63 0), some (.inl (.ref q9))]) rfl (by decide) rfl ?_
  refine a_iconst (pc := 17) 0 11 (v := 1) rfl (by decide) ?_
  exact a_iret (pc := 18) 0 12 rfl rfl ⟨rfl, rfl⟩)
set_option maxRecDepth 100000 in
theorem x_L_rules_2 {S : Mem} (p1 : Int32) (p2 : Int32) (p3 : Int32) (h : okx_X11_rules_2 S p1 p2 p3) : Chs mdL_rules hhL_rules 9 149 1 6 [vr 11 0, vi p1, vi p2, vi p3, vr 63 0] S (Is (some (vi 1)) S) := Chs.of dtL_rules (by decide +kernel) rfl rfl (Nat.le_of_ble_eq_true rfl) (ls := [some (vr 11 0), some (vi p1), some (vi p2), some (vi p3), some (vr 63 0), none]) rfl (fun O G => by
  refine a_aload (pc := 0) 0 0 rfl rfl ?_
  refine a_iconst (pc := 2) 0 1 (v := 0) rfl (by decide) ?_
  refine a_aload_n (pc := 3) 0 2 rfl rfl ?_
  refine a_iload_n (pc := 4) 0 3 rfl rfl ?_
  refine a_iload_n (pc := 5) 0 4 rfl rfl ?_
  refine a_iload_n (pc := 6) 0 5 rfl rfl ?_
  refine a_callVX (pc := 7) 0 6 (q_X11_rules_2 (S := S) p1 p2 p3 h) rfl cv_L_61 (by decide) rfl rfl rfl (rm rfl) ?_
  refine a_catch [] (0, 12, 15, 15) [] rfl (by
    intro z hz
    cases hz) rfl (by decide) clW_L_15 castW_xArg (fun q9 => ?_)
  refine a_astoreX (pc := 15) 0 10 (ls2 := [some (vr 11 0), some (vi p1), some (vi p2), some (vi p3), some (vr 63 0), some (.inl (.ref q9))]) rfl (by decide) rfl ?_
  refine a_iconst (pc := 17) 0 11 (v := 1) rfl (by decide) ?_
  exact a_iret (pc := 18) 0 12 rfl rfl ⟨rfl, rfl⟩)
set_option maxRecDepth 100000 in
theorem x_L_rules_3 {S : Mem} (p1 : Int32) (p2 : Int32) (p3 : Int32) (h : okx_X11_rules_3 S p1 p2 p3) : Chs mdL_rules hhL_rules 9 149 1 6 [vr 11 0, vi p1, vi p2, vi p3, vr 63 0] S (Is (some (vi 1)) S) := Chs.of dtL_rules (by decide +kernel) rfl rfl (Nat.le_of_ble_eq_true rfl) (ls := [some (vr 11 0), some (vi p1), some (vi p2), some (vi p3), some (vr 63 0), none]) rfl (fun O G => by
  refine a_aload (pc := 0) 0 0 rfl rfl ?_
  refine a_iconst (pc := 2) 0 1 (v := 0) rfl (by decide) ?_
  refine a_aload_n (pc := 3) 0 2 rfl rfl ?_
  refine a_iload_n (pc := 4) 0 3 rfl rfl ?_
  refine a_iload_n (pc := 5) 0 4 rfl rfl ?_
  refine a_iload_n (pc := 6) 0 5 rfl rfl ?_
  refine a_callVX (pc := 7) 0 6 (q_X11_rules_3 (S := S) p1 p2 p3 h) rfl cv_L_61 (by decide) rfl rfl rfl (rm rfl) ?_
  refine a_catch [] (0, 12, 15, 15) [] rfl (by
    intro z hz
    cases hz) rfl (by decide) clW_L_15 castW_xArg (fun q9 => ?_)
  refine a_astoreX (pc := 15) 0 10 (ls2 := [some (vr 11 0), some (vi p1), some (vi p2), some (vi p3), some (vr 63 0), some (.inl (.ref q9))]) rfl (by decide) rfl ?_
  refine a_iconst (pc := 17) 0 11 (v := 1) rfl (by decide) ?_
  exact a_iret (pc := 18) 0 12 rfl rfl ⟨rfl, rfl⟩)
set_option maxRecDepth 100000 in
theorem n_L_buyBonds {S : Mem} (p1 : Int32) (p2 : Int32) (h : ok_X11_buyBonds S p1 p2) : Chs mdL_buyBonds hhL_buyBonds 3 71 0 0 [vr 11 0, vi p1, vi p2, vr 63 0] S (Is (some (vi 0)) (((f_X11_buyBonds S p1 p2).2).1, ((f_X11_buyBonds S p1 p2).2).2.1, ((f_X11_buyBonds S p1 p2).1).toInt64)) := Chs.of dtL_buyBonds (by decide +kernel) rfl rfl (Nat.le_of_ble_eq_true rfl) (ls := [some (vr 11 0), some (vi p1), some (vi p2), some (vr 63 0), none]) rfl (fun O G => by
  refine a_aload_n (pc := 0) 0 0 rfl rfl ?_
  refine a_iconst (pc := 1) 0 1 (v := 0) rfl (by decide) ?_
  refine a_aload_n (pc := 2) 0 2 rfl rfl ?_
  refine a_iload_n (pc := 3) 0 3 rfl rfl ?_
  refine a_iload_n (pc := 4) 0 4 rfl rfl ?_
  refine a_callVi (pc := 5) 0 5 (c_X11_buyBonds (S := S) p1 p2 h) rfl cv_L_64 (by decide) rfl rfl rfl (rm rfl) ?_
  refine a_i2l (pc := 8) 0 6 rfl ?_
  refine a_last (pc := 9) 0 7 rfl rfl ?_
  refine a_goto (pc := 10) (tgt := 25) 0 8 rfl (by decide) ?_
  refine a_iconst (pc := 25) 0 18 (v := 0) rfl (by decide) ?_
  exact a_iret (pc := 26) 0 19 rfl rfl ⟨rfl, rfl⟩)
set_option maxRecDepth 100000 in
theorem x_L_buyBonds_1 {S : Mem} (p1 : Int32) (p2 : Int32) (h : okx_X11_buyBonds_1 S p1 p2) : Chs mdL_buyBonds hhL_buyBonds 9 144 1 6 [vr 11 0, vi p1, vi p2, vr 63 0] S (Is (some (vi 1)) S) := Chs.of dtL_buyBonds (by decide +kernel) rfl rfl (Nat.le_of_ble_eq_true rfl) (ls := [some (vr 11 0), some (vi p1), some (vi p2), some (vr 63 0), none]) rfl (fun O G => by
  refine a_aload_n (pc := 0) 0 0 rfl rfl ?_
  refine a_iconst (pc := 1) 0 1 (v := 0) rfl (by decide) ?_
  refine a_aload_n (pc := 2) 0 2 rfl rfl ?_
  refine a_iload_n (pc := 3) 0 3 rfl rfl ?_
  refine a_iload_n (pc := 4) 0 4 rfl rfl ?_
  refine a_callVX (pc := 5) 0 5 (q_X11_buyBonds_1 (S := S) p1 p2 h) rfl cv_L_64 (by decide) rfl rfl rfl (rm rfl) ?_
  refine a_catch [] (0, 10, 13, 13) [(0, 10, 17, 15), (0, 10, 21, 24)] rfl (by
    intro z hz
    cases hz) rfl (by decide) clW_L_13 castW_xIdx (fun q9 => ?_)
  refine a_astoreX (pc := 13) 0 9 (ls2 := [some (vr 11 0), some (vi p1), some (vi p2), some (vr 63 0), some (.inl (.ref q9))]) rfl (by decide) rfl ?_
  refine a_iconst (pc := 15) 0 10 (v := 1) rfl (by decide) ?_
  exact a_iret (pc := 16) 0 11 rfl rfl ⟨rfl, rfl⟩)
set_option maxRecDepth 100000 in
theorem x_L_buyBonds_2 {S : Mem} (p1 : Int32) (p2 : Int32) (h : okx_X11_buyBonds_2 S p1 p2) : Chs mdL_buyBonds hhL_buyBonds 9 146 1 6 [vr 11 0, vi p1, vi p2, vr 63 0] S (Is (some (vi (nI 2))) S) := Chs.of dtL_buyBonds (by decide +kernel) rfl rfl (Nat.le_of_ble_eq_true rfl) (ls := [some (vr 11 0), some (vi p1), some (vi p2), some (vr 63 0), none]) rfl (fun O G => by
  refine a_aload_n (pc := 0) 0 0 rfl rfl ?_
  refine a_iconst (pc := 1) 0 1 (v := 0) rfl (by decide) ?_
  refine a_aload_n (pc := 2) 0 2 rfl rfl ?_
  refine a_iload_n (pc := 3) 0 3 rfl rfl ?_
  refine a_iload_n (pc := 4) 0 4 rfl rfl ?_
  refine a_callVX (pc := 5) 0 5 (q_X11_buyBonds_2 (S := S) p1 p2 h) rfl cv_L_64 (by decide) rfl rfl rfl (rm rfl) ?_
  refine a_catch [(0, 10, 13, 13)] (0, 10, 17, 15) [(0, 10, 21, 24)] rfl (by
    intro z hz
    rcases List.mem_cons.mp hz with rfl | hz
    · exact ⟨by decide, _, clW_L_13, Or.inl ⟨rfl, rfl⟩⟩
    cases hz) rfl (by decide) clW_L_15 castW_xArg (fun q9 => ?_)
  refine a_astoreX (pc := 17) 0 12 (ls2 := [some (vr 11 0), some (vi p1), some (vi p2), some (vr 63 0), some (.inl (.ref q9))]) rfl (by decide) rfl ?_
  refine a_iconst (pc := 19) 0 13 (v := nI 2) rfl (by decide) ?_
  exact a_iret (pc := 20) 0 14 rfl rfl ⟨rfl, rfl⟩)
set_option maxRecDepth 100000 in
theorem x_L_buyBonds_3 {S : Mem} (p1 : Int32) (p2 : Int32) (h : okx_X11_buyBonds_3 S p1 p2) : Chs mdL_buyBonds hhL_buyBonds 8 124 1 6 [vr 11 0, vi p1, vi p2, vr 63 0] S (Is (some (vi (nI 3))) S) := Chs.of dtL_buyBonds (by decide +kernel) rfl rfl (Nat.le_of_ble_eq_true rfl) (ls := [some (vr 11 0), some (vi p1), some (vi p2), some (vr 63 0), none]) rfl (fun O G => by
  refine a_aload_n (pc := 0) 0 0 rfl rfl ?_
  refine a_iconst (pc := 1) 0 1 (v := 0) rfl (by decide) ?_
  refine a_aload_n (pc := 2) 0 2 rfl rfl ?_
  refine a_iload_n (pc := 3) 0 3 rfl rfl ?_
  refine a_iload_n (pc := 4) 0 4 rfl rfl ?_
  refine a_callVX (pc := 5) 0 5 (q_X11_buyBonds_3 (S := S) p1 p2 h) rfl cv_L_64 (by decide) rfl rfl rfl (rm rfl) ?_
  refine a_catch [(0, 10, 13, 13), (0, 10, 17, 15)] (0, 10, 21, 24) [] rfl (by
    intro z hz
    rcases List.mem_cons.mp hz with rfl | hz
    · exact ⟨by decide, _, clW_L_13, Or.inr (Or.inl ⟨rfl, rfl⟩)⟩
    rcases List.mem_cons.mp hz with rfl | hz
    · exact ⟨by decide, _, clW_L_15, Or.inr (Or.inr ⟨rfl, rfl⟩)⟩
    cases hz) rfl (by decide) clW_L_24 castW_xSta (fun q9 => ?_)
  refine a_astoreX (pc := 21) 0 15 (ls2 := [some (vr 11 0), some (vi p1), some (vi p2), some (vr 63 0), some (.inl (.ref q9))]) rfl (by decide) rfl ?_
  refine a_iconst (pc := 23) 0 16 (v := nI 3) rfl (by decide) ?_
  exact a_iret (pc := 24) 0 17 rfl rfl ⟨rfl, rfl⟩)
set_option maxRecDepth 100000 in
theorem n_L_bid {S : Mem} (p1 : Int32) (p2 : Int32) (p3 : Int32) (h : ok_X11_bid S p1 p2 p3) : Chs mdL_bid hhL_bid 3 69 0 0 [vr 11 0, vi p1, vi p2, vi p3, vr 63 0] S (Is (some (vi 0)) (((f_X11_bid S p1 p2 p3).2).1, ((f_X11_bid S p1 p2 p3).2).2.1, ((f_X11_bid S p1 p2 p3).1).toInt64)) := Chs.of dtL_bid (by decide +kernel) rfl rfl (Nat.le_of_ble_eq_true rfl) (ls := [some (vr 11 0), some (vi p1), some (vi p2), some (vi p3), some (vr 63 0), none]) rfl (fun O G => by
  refine a_aload (pc := 0) 0 0 rfl rfl ?_
  refine a_iconst (pc := 2) 0 1 (v := 0) rfl (by decide) ?_
  refine a_aload_n (pc := 3) 0 2 rfl rfl ?_
  refine a_iload_n (pc := 4) 0 3 rfl rfl ?_
  refine a_iload_n (pc := 5) 0 4 rfl rfl ?_
  refine a_iload_n (pc := 6) 0 5 rfl rfl ?_
  refine a_callVi (pc := 7) 0 6 (c_X11_bid (S := S) p1 p2 p3 h) rfl cv_L_67 (by decide) rfl rfl rfl (rm rfl) ?_
  refine a_i2l (pc := 10) 0 7 rfl ?_
  refine a_last (pc := 11) 0 8 rfl rfl ?_
  refine a_goto (pc := 12) (tgt := 27) 0 9 rfl (by decide) ?_
  refine a_iconst (pc := 27) 0 19 (v := 0) rfl (by decide) ?_
  exact a_iret (pc := 28) 0 20 rfl rfl ⟨rfl, rfl⟩)
set_option maxRecDepth 100000 in
theorem x_L_bid_1 {S : Mem} (p1 : Int32) (p2 : Int32) (p3 : Int32) (h : okx_X11_bid_1 S p1 p2 p3) : Chs mdL_bid hhL_bid 9 145 1 6 [vr 11 0, vi p1, vi p2, vi p3, vr 63 0] S (Is (some (vi 1)) S) := Chs.of dtL_bid (by decide +kernel) rfl rfl (Nat.le_of_ble_eq_true rfl) (ls := [some (vr 11 0), some (vi p1), some (vi p2), some (vi p3), some (vr 63 0), none]) rfl (fun O G => by
  refine a_aload (pc := 0) 0 0 rfl rfl ?_
  refine a_iconst (pc := 2) 0 1 (v := 0) rfl (by decide) ?_
  refine a_aload_n (pc := 3) 0 2 rfl rfl ?_
  refine a_iload_n (pc := 4) 0 3 rfl rfl ?_
  refine a_iload_n (pc := 5) 0 4 rfl rfl ?_
  refine a_iload_n (pc := 6) 0 5 rfl rfl ?_
  refine a_callVX (pc := 7) 0 6 (q_X11_bid_1 (S := S) p1 p2 p3 h) rfl cv_L_67 (by decide) rfl rfl rfl (rm rfl) ?_
  refine a_catch [] (0, 12, 15, 13) [(0, 12, 19, 15), (0, 12, 23, 24)] rfl (by
    intro z hz
    cases hz) rfl (by decide) clW_L_13 castW_xIdx (fun q9 => ?_)
  refine a_astoreX (pc := 15) 0 10 (ls2 := [some (vr 11 0), some (vi p1), some (vi p2), some (vi p3), some (vr 63 0), some (.inl (.ref q9))]) rfl (by decide) rfl ?_
  refine a_iconst (pc := 17) 0 11 (v := 1) rfl (by decide) ?_
  exact a_iret (pc := 18) 0 12 rfl rfl ⟨rfl, rfl⟩)
set_option maxRecDepth 100000 in
theorem x_L_bid_2 {S : Mem} (p1 : Int32) (p2 : Int32) (p3 : Int32) (h : okx_X11_bid_2 S p1 p2 p3) : Chs mdL_bid hhL_bid 9 147 1 6 [vr 11 0, vi p1, vi p2, vi p3, vr 63 0] S (Is (some (vi (nI 2))) S) := Chs.of dtL_bid (by decide +kernel) rfl rfl (Nat.le_of_ble_eq_true rfl) (ls := [some (vr 11 0), some (vi p1), some (vi p2), some (vi p3), some (vr 63 0), none]) rfl (fun O G => by
  refine a_aload (pc := 0) 0 0 rfl rfl ?_
  refine a_iconst (pc := 2) 0 1 (v := 0) rfl (by decide) ?_
  refine a_aload_n (pc := 3) 0 2 rfl rfl ?_
  refine a_iload_n (pc := 4) 0 3 rfl rfl ?_
  refine a_iload_n (pc := 5) 0 4 rfl rfl ?_
  refine a_iload_n (pc := 6) 0 5 rfl rfl ?_
  refine a_callVX (pc := 7) 0 6 (q_X11_bid_2 (S := S) p1 p2 p3 h) rfl cv_L_67 (by decide) rfl rfl rfl (rm rfl) ?_
  refine a_catch [(0, 12, 15, 13)] (0, 12, 19, 15) [(0, 12, 23, 24)] rfl (by
    intro z hz
    rcases List.mem_cons.mp hz with rfl | hz
    · exact ⟨by decide, _, clW_L_13, Or.inl ⟨rfl, rfl⟩⟩
    cases hz) rfl (by decide) clW_L_15 castW_xArg (fun q9 => ?_)
  refine a_astoreX (pc := 19) 0 13 (ls2 := [some (vr 11 0), some (vi p1), some (vi p2), some (vi p3), some (vr 63 0), some (.inl (.ref q9))]) rfl (by decide) rfl ?_
  refine a_iconst (pc := 21) 0 14 (v := nI 2) rfl (by decide) ?_
  exact a_iret (pc := 22) 0 15 rfl rfl ⟨rfl, rfl⟩)
set_option maxRecDepth 100000 in
theorem x_L_bid_3 {S : Mem} (p1 : Int32) (p2 : Int32) (p3 : Int32) (h : okx_X11_bid_3 S p1 p2 p3) : Chs mdL_bid hhL_bid 9 147 1 6 [vr 11 0, vi p1, vi p2, vi p3, vr 63 0] S (Is (some (vi (nI 2))) S) := Chs.of dtL_bid (by decide +kernel) rfl rfl (Nat.le_of_ble_eq_true rfl) (ls := [some (vr 11 0), some (vi p1), some (vi p2), some (vi p3), some (vr 63 0), none]) rfl (fun O G => by
  refine a_aload (pc := 0) 0 0 rfl rfl ?_
  refine a_iconst (pc := 2) 0 1 (v := 0) rfl (by decide) ?_
  refine a_aload_n (pc := 3) 0 2 rfl rfl ?_
  refine a_iload_n (pc := 4) 0 3 rfl rfl ?_
  refine a_iload_n (pc := 5) 0 4 rfl rfl ?_
  refine a_iload_n (pc := 6) 0 5 rfl rfl ?_
  refine a_callVX (pc := 7) 0 6 (q_X11_bid_3 (S := S) p1 p2 p3 h) rfl cv_L_67 (by decide) rfl rfl rfl (rm rfl) ?_
  refine a_catch [(0, 12, 15, 13)] (0, 12, 19, 15) [(0, 12, 23, 24)] rfl (by
    intro z hz
    rcases List.mem_cons.mp hz with rfl | hz
    · exact ⟨by decide, _, clW_L_13, Or.inl ⟨rfl, rfl⟩⟩
    cases hz) rfl (by decide) clW_L_15 castW_xArg (fun q9 => ?_)
  refine a_astoreX (pc := 19) 0 13 (ls2 := [some (vr 11 0), some (vi p1), some (vi p2), some (vi p3), some (vr 63 0), some (.inl (.ref q9))]) rfl (by decide) rfl ?_
  refine a_iconst (pc := 21) 0 14 (v := nI 2) rfl (by decide) ?_
  exact a_iret (pc := 22) 0 15 rfl rfl ⟨rfl, rfl⟩)
set_option maxRecDepth 100000 in
theorem x_L_bid_4 {S : Mem} (p1 : Int32) (p2 : Int32) (p3 : Int32) (h : okx_X11_bid_4 S p1 p2 p3) : Chs mdL_bid hhL_bid 8 125 1 6 [vr 11 0, vi p1, vi p2, vi p3, vr 63 0] S (Is (some (vi (nI 3))) S) := Chs.of dtL_bid (by decide +kernel) rfl rfl (Nat.le_of_ble_eq_true rfl) (ls := [some (vr 11 0), some (vi p1), some (vi p2), some (vi p3), some (vr 63 0), none]) rfl (fun O G => by
  refine a_aload (pc := 0) 0 0 rfl rfl ?_
  refine a_iconst (pc := 2) 0 1 (v := 0) rfl (by decide) ?_
  refine a_aload_n (pc := 3) 0 2 rfl rfl ?_
  refine a_iload_n (pc := 4) 0 3 rfl rfl ?_
  refine a_iload_n (pc := 5) 0 4 rfl rfl ?_
  refine a_iload_n (pc := 6) 0 5 rfl rfl ?_
  refine a_callVX (pc := 7) 0 6 (q_X11_bid_4 (S := S) p1 p2 p3 h) rfl cv_L_67 (by decide) rfl rfl rfl (rm rfl) ?_
  refine a_catch [(0, 12, 15, 13), (0, 12, 19, 15)] (0, 12, 23, 24) [] rfl (by
    intro z hz
    rcases List.mem_cons.mp hz with rfl | hz
    · exact ⟨by decide, _, clW_L_13, Or.inr (Or.inl ⟨rfl, rfl⟩)⟩
    rcases List.mem_cons.mp hz with rfl | hz
    · exact ⟨by decide, _, clW_L_15, Or.inr (Or.inr ⟨rfl, rfl⟩)⟩
    cases hz) rfl (by decide) clW_L_24 castW_xSta (fun q9 => ?_)
  refine a_astoreX (pc := 23) 0 16 (ls2 := [some (vr 11 0), some (vi p1), some (vi p2), some (vi p3), some (vr 63 0), some (.inl (.ref q9))]) rfl (by decide) rfl ?_
  refine a_iconst (pc := 25) 0 17 (v := nI 3) rfl (by decide) ?_
  exact a_iret (pc := 26) 0 18 rfl rfl ⟨rfl, rfl⟩)
set_option maxRecDepth 100000 in
theorem n_L_auction {S : Mem} (p1 : Int32) (p2 : Int32) (h : ok_X11_auction S p1 p2) : Chs mdL_auction hhL_auction 4 97 0 0 [vr 11 0, vi p1, vi p2, vr 63 0] S (Is (some (vi 0)) (((f_X11_auction S p1 p2).2).1, ((f_X11_auction S p1 p2).2).2.1, ((f_X11_auction S p1 p2).1).toInt64)) := Chs.of dtL_auction (by decide +kernel) rfl rfl (Nat.le_of_ble_eq_true rfl) (ls := [some (vr 11 0), some (vi p1), some (vi p2), some (vr 63 0), none]) rfl (fun O G => by
  refine a_aload_n (pc := 0) 0 0 rfl rfl ?_
  refine a_iconst (pc := 1) 0 1 (v := 0) rfl (by decide) ?_
  refine a_aload_n (pc := 2) 0 2 rfl rfl ?_
  refine a_iload_n (pc := 3) 0 3 rfl rfl ?_
  refine a_iload_n (pc := 4) 0 4 rfl rfl ?_
  refine a_callVi (pc := 5) 0 5 (c_X11_auction (S := S) p1 p2 h) rfl cv_L_70 (by decide) rfl rfl rfl (rm rfl) ?_
  refine a_i2l (pc := 8) 0 6 rfl ?_
  refine a_last (pc := 9) 0 7 rfl rfl ?_
  refine a_goto (pc := 10) (tgt := 21) 0 8 rfl (by decide) ?_
  refine a_iconst (pc := 21) 0 15 (v := 0) rfl (by decide) ?_
  exact a_iret (pc := 22) 0 16 rfl rfl ⟨rfl, rfl⟩)
set_option maxRecDepth 100000 in
theorem x_L_auction_1 {S : Mem} (p1 : Int32) (p2 : Int32) (h : okx_X11_auction_1 S p1 p2) : Chs mdL_auction hhL_auction 9 147 1 6 [vr 11 0, vi p1, vi p2, vr 63 0] S (Is (some (vi 1)) S) := Chs.of dtL_auction (by decide +kernel) rfl rfl (Nat.le_of_ble_eq_true rfl) (ls := [some (vr 11 0), some (vi p1), some (vi p2), some (vr 63 0), none]) rfl (fun O G => by
  refine a_aload_n (pc := 0) 0 0 rfl rfl ?_
  refine a_iconst (pc := 1) 0 1 (v := 0) rfl (by decide) ?_
  refine a_aload_n (pc := 2) 0 2 rfl rfl ?_
  refine a_iload_n (pc := 3) 0 3 rfl rfl ?_
  refine a_iload_n (pc := 4) 0 4 rfl rfl ?_
  refine a_callVX (pc := 5) 0 5 (q_X11_auction_1 (S := S) p1 p2 h) rfl cv_L_70 (by decide) rfl rfl rfl (rm rfl) ?_
  refine a_catch [] (0, 10, 13, 15) [(0, 10, 17, 24)] rfl (by
    intro z hz
    cases hz) rfl (by decide) clW_L_15 castW_xArg (fun q9 => ?_)
  refine a_astoreX (pc := 13) 0 9 (ls2 := [some (vr 11 0), some (vi p1), some (vi p2), some (vr 63 0), some (.inl (.ref q9))]) rfl (by decide) rfl ?_
  refine a_iconst (pc := 15) 0 10 (v := 1) rfl (by decide) ?_
  exact a_iret (pc := 16) 0 11 rfl rfl ⟨rfl, rfl⟩)
set_option maxRecDepth 100000 in
theorem x_L_auction_2 {S : Mem} (p1 : Int32) (p2 : Int32) (h : okx_X11_auction_2 S p1 p2) : Chs mdL_auction hhL_auction 9 147 1 6 [vr 11 0, vi p1, vi p2, vr 63 0] S (Is (some (vi 1)) S) := Chs.of dtL_auction (by decide +kernel) rfl rfl (Nat.le_of_ble_eq_true rfl) (ls := [some (vr 11 0), some (vi p1), some (vi p2), some (vr 63 0), none]) rfl (fun O G => by
  refine a_aload_n (pc := 0) 0 0 rfl rfl ?_
  refine a_iconst (pc := 1) 0 1 (v := 0) rfl (by decide) ?_
  refine a_aload_n (pc := 2) 0 2 rfl rfl ?_
  refine a_iload_n (pc := 3) 0 3 rfl rfl ?_
  refine a_iload_n (pc := 4) 0 4 rfl rfl ?_
  refine a_callVX (pc := 5) 0 5 (q_X11_auction_2 (S := S) p1 p2 h) rfl cv_L_70 (by decide) rfl rfl rfl (rm rfl) ?_
  refine a_catch [] (0, 10, 13, 15) [(0, 10, 17, 24)] rfl (by
    intro z hz
    cases hz) rfl (by decide) clW_L_15 castW_xArg (fun q9 => ?_)
  refine a_astoreX (pc := 13) 0 9 (ls2 := [some (vr 11 0), some (vi p1), some (vi p2), some (vr 63 0), some (.inl (.ref q9))]) rfl (by decide) rfl ?_
  refine a_iconst (pc := 15) 0 10 (v := 1) rfl (by decide) ?_
  exact a_iret (pc := 16) 0 11 rfl rfl ⟨rfl, rfl⟩)
set_option maxRecDepth 100000 in
theorem x_L_auction_3 {S : Mem} (p1 : Int32) (p2 : Int32) (h : okx_X11_auction_3 S p1 p2) : Chs mdL_auction hhL_auction 8 125 1 6 [vr 11 0, vi p1, vi p2, vr 63 0] S (Is (some (vi (nI 2))) S) := Chs.of dtL_auction (by decide +kernel) rfl rfl (Nat.le_of_ble_eq_true rfl) (ls := [some (vr 11 0), some (vi p1), some (vi p2), some (vr 63 0), none]) rfl (fun O G => by
  refine a_aload_n (pc := 0) 0 0 rfl rfl ?_
  refine a_iconst (pc := 1) 0 1 (v := 0) rfl (by decide) ?_
  refine a_aload_n (pc := 2) 0 2 rfl rfl ?_
  refine a_iload_n (pc := 3) 0 3 rfl rfl ?_
  refine a_iload_n (pc := 4) 0 4 rfl rfl ?_
  refine a_callVX (pc := 5) 0 5 (q_X11_auction_3 (S := S) p1 p2 h) rfl cv_L_70 (by decide) rfl rfl rfl (rm rfl) ?_
  refine a_catch [(0, 10, 13, 15)] (0, 10, 17, 24) [] rfl (by
    intro z hz
    rcases List.mem_cons.mp hz with rfl | hz
    · exact ⟨by decide, _, clW_L_15, Or.inr (Or.inr ⟨rfl, rfl⟩)⟩
    cases hz) rfl (by decide) clW_L_24 castW_xSta (fun q9 => ?_)
  refine a_astoreX (pc := 17) 0 12 (ls2 := [some (vr 11 0), some (vi p1), some (vi p2), some (vr 63 0), some (.inl (.ref q9))]) rfl (by decide) rfl ?_
  refine a_iconst (pc := 19) 0 13 (v := nI 2) rfl (by decide) ?_
  exact a_iret (pc := 20) 0 14 rfl rfl ⟨rfl, rfl⟩)
set_option maxRecDepth 100000 in
theorem n_L_levy {S : Mem} (p1 : Int32) (p2 : Int32) (h : ok_X11_levy S p1 p2) : Chs mdL_levy hhL_levy 3 70 0 0 [vr 11 0, vi p1, vi p2, vr 63 0] S (Is (some (vi 0)) (((f_X11_levy S p1 p2).2).1, ((f_X11_levy S p1 p2).2).2.1, ((f_X11_levy S p1 p2).1).toInt64)) := Chs.of dtL_levy (by decide +kernel) rfl rfl (Nat.le_of_ble_eq_true rfl) (ls := [some (vr 11 0), some (vi p1), some (vi p2), some (vr 63 0), none]) rfl (fun O G => by
  refine a_aload_n (pc := 0) 0 0 rfl rfl ?_
  refine a_iconst (pc := 1) 0 1 (v := 0) rfl (by decide) ?_
  refine a_aload_n (pc := 2) 0 2 rfl rfl ?_
  refine a_iload_n (pc := 3) 0 3 rfl rfl ?_
  refine a_iload_n (pc := 4) 0 4 rfl rfl ?_
  refine a_callVi (pc := 5) 0 5 (c_X11_levy (S := S) p1 p2 h) rfl cv_L_73 (by decide) rfl rfl rfl (rm rfl) ?_
  refine a_i2l (pc := 8) 0 6 rfl ?_
  refine a_last (pc := 9) 0 7 rfl rfl ?_
  refine a_goto (pc := 10) (tgt := 25) 0 8 rfl (by decide) ?_
  refine a_iconst (pc := 25) 0 18 (v := 0) rfl (by decide) ?_
  exact a_iret (pc := 26) 0 19 rfl rfl ⟨rfl, rfl⟩)
set_option maxRecDepth 100000 in
theorem x_L_levy_1 {S : Mem} (p1 : Int32) (p2 : Int32) (h : okx_X11_levy_1 S p1 p2) : Chs mdL_levy hhL_levy 9 147 1 6 [vr 11 0, vi p1, vi p2, vr 63 0] S (Is (some (vi 1)) S) := Chs.of dtL_levy (by decide +kernel) rfl rfl (Nat.le_of_ble_eq_true rfl) (ls := [some (vr 11 0), some (vi p1), some (vi p2), some (vr 63 0), none]) rfl (fun O G => by
  refine a_aload_n (pc := 0) 0 0 rfl rfl ?_
  refine a_iconst (pc := 1) 0 1 (v := 0) rfl (by decide) ?_
  refine a_aload_n (pc := 2) 0 2 rfl rfl ?_
  refine a_iload_n (pc := 3) 0 3 rfl rfl ?_
  refine a_iload_n (pc := 4) 0 4 rfl rfl ?_
  refine a_callVX (pc := 5) 0 5 (q_X11_levy_1 (S := S) p1 p2 h) rfl cv_L_73 (by decide) rfl rfl rfl (rm rfl) ?_
  refine a_catch [] (0, 10, 13, 13) [(0, 10, 17, 15), (0, 10, 21, 24)] rfl (by
    intro z hz
    cases hz) rfl (by decide) clW_L_13 castW_xIdx (fun q9 => ?_)
  refine a_astoreX (pc := 13) 0 9 (ls2 := [some (vr 11 0), some (vi p1), some (vi p2), some (vr 63 0), some (.inl (.ref q9))]) rfl (by decide) rfl ?_
  refine a_iconst (pc := 15) 0 10 (v := 1) rfl (by decide) ?_
  exact a_iret (pc := 16) 0 11 rfl rfl ⟨rfl, rfl⟩)
set_option maxRecDepth 100000 in
theorem x_L_levy_2 {S : Mem} (p1 : Int32) (p2 : Int32) (h : okx_X11_levy_2 S p1 p2) : Chs mdL_levy hhL_levy 9 149 1 6 [vr 11 0, vi p1, vi p2, vr 63 0] S (Is (some (vi (nI 2))) S) := Chs.of dtL_levy (by decide +kernel) rfl rfl (Nat.le_of_ble_eq_true rfl) (ls := [some (vr 11 0), some (vi p1), some (vi p2), some (vr 63 0), none]) rfl (fun O G => by
  refine a_aload_n (pc := 0) 0 0 rfl rfl ?_
  refine a_iconst (pc := 1) 0 1 (v := 0) rfl (by decide) ?_
  refine a_aload_n (pc := 2) 0 2 rfl rfl ?_
  refine a_iload_n (pc := 3) 0 3 rfl rfl ?_
  refine a_iload_n (pc := 4) 0 4 rfl rfl ?_
  refine a_callVX (pc := 5) 0 5 (q_X11_levy_2 (S := S) p1 p2 h) rfl cv_L_73 (by decide) rfl rfl rfl (rm rfl) ?_
  refine a_catch [(0, 10, 13, 13)] (0, 10, 17, 15) [(0, 10, 21, 24)] rfl (by
    intro z hz
    rcases List.mem_cons.mp hz with rfl | hz
    · exact ⟨by decide, _, clW_L_13, Or.inl ⟨rfl, rfl⟩⟩
    cases hz) rfl (by decide) clW_L_15 castW_xArg (fun q9 => ?_)
  refine a_astoreX (pc := 17) 0 12 (ls2 := [some (vr 11 0), some (vi p1), some (vi p2), some (vr 63 0), some (.inl (.ref q9))]) rfl (by decide) rfl ?_
  refine a_iconst (pc := 19) 0 13 (v := nI 2) rfl (by decide) ?_
  exact a_iret (pc := 20) 0 14 rfl rfl ⟨rfl, rfl⟩)
set_option maxRecDepth 100000 in
theorem x_L_levy_3 {S : Mem} (p1 : Int32) (p2 : Int32) (h : okx_X11_levy_3 S p1 p2) : Chs mdL_levy hhL_levy 8 127 1 6 [vr 11 0, vi p1, vi p2, vr 63 0] S (Is (some (vi (nI 3))) S) := Chs.of dtL_levy (by decide +kernel) rfl rfl (Nat.le_of_ble_eq_true rfl) (ls := [some (vr 11 0), some (vi p1), some (vi p2), some (vr 63 0), none]) rfl (fun O G => by
  refine a_aload_n (pc := 0) 0 0 rfl rfl ?_
  refine a_iconst (pc := 1) 0 1 (v := 0) rfl (by decide) ?_
  refine a_aload_n (pc := 2) 0 2 rfl rfl ?_
  refine a_iload_n (pc := 3) 0 3 rfl rfl ?_
  refine a_iload_n (pc := 4) 0 4 rfl rfl ?_
  refine a_callVX (pc := 5) 0 5 (q_X11_levy_3 (S := S) p1 p2 h) rfl cv_L_73 (by decide) rfl rfl rfl (rm rfl) ?_
  refine a_catch [(0, 10, 13, 13), (0, 10, 17, 15)] (0, 10, 21, 24) [] rfl (by
    intro z hz
    rcases List.mem_cons.mp hz with rfl | hz
    · exact ⟨by decide, _, clW_L_13, Or.inr (Or.inl ⟨rfl, rfl⟩)⟩
    rcases List.mem_cons.mp hz with rfl | hz
    · exact ⟨by decide, _, clW_L_15, Or.inr (Or.inr ⟨rfl, rfl⟩)⟩
    cases hz) rfl (by decide) clW_L_24 castW_xSta (fun q9 => ?_)
  refine a_astoreX (pc := 21) 0 15 (ls2 := [some (vr 11 0), some (vi p1), some (vi p2), some (vr 63 0), some (.inl (.ref q9))]) rfl (by decide) rfl ?_
  refine a_iconst (pc := 23) 0 16 (v := nI 3) rfl (by decide) ?_
  exact a_iret (pc := 24) 0 17 rfl rfl ⟨rfl, rfl⟩)
set_option maxRecDepth 100000 in
theorem n_L_spend {S : Mem} (p1 : Int32) (p2 : Int32) (h : ok_X11_spend S p1 p2) : Chs mdL_spend hhL_spend 3 69 0 0 [vr 11 0, vi p1, vi p2, vr 63 0] S (Is (some (vi 0)) (((f_X11_spend S p1 p2).2).1, ((f_X11_spend S p1 p2).2).2.1, ((f_X11_spend S p1 p2).1).toInt64)) := Chs.of dtL_spend (by decide +kernel) rfl rfl (Nat.le_of_ble_eq_true rfl) (ls := [some (vr 11 0), some (vi p1), some (vi p2), some (vr 63 0), none]) rfl (fun O G => by
  refine a_aload_n (pc := 0) 0 0 rfl rfl ?_
  refine a_iconst (pc := 1) 0 1 (v := 0) rfl (by decide) ?_
  refine a_aload_n (pc := 2) 0 2 rfl rfl ?_
  refine a_iload_n (pc := 3) 0 3 rfl rfl ?_
  refine a_iload_n (pc := 4) 0 4 rfl rfl ?_
  refine a_callVi (pc := 5) 0 5 (c_X11_spend (S := S) p1 p2 h) rfl cv_L_76 (by decide) rfl rfl rfl (rm rfl) ?_
  refine a_i2l (pc := 8) 0 6 rfl ?_
  refine a_last (pc := 9) 0 7 rfl rfl ?_
  refine a_goto (pc := 10) (tgt := 25) 0 8 rfl (by decide) ?_
  refine a_iconst (pc := 25) 0 18 (v := 0) rfl (by decide) ?_
  exact a_iret (pc := 26) 0 19 rfl rfl ⟨rfl, rfl⟩)
set_option maxRecDepth 100000 in
theorem x_L_spend_1 {S : Mem} (p1 : Int32) (p2 : Int32) (h : okx_X11_spend_1 S p1 p2) : Chs mdL_spend hhL_spend 9 146 1 6 [vr 11 0, vi p1, vi p2, vr 63 0] S (Is (some (vi 1)) S) := Chs.of dtL_spend (by decide +kernel) rfl rfl (Nat.le_of_ble_eq_true rfl) (ls := [some (vr 11 0), some (vi p1), some (vi p2), some (vr 63 0), none]) rfl (fun O G => by
  refine a_aload_n (pc := 0) 0 0 rfl rfl ?_
  refine a_iconst (pc := 1) 0 1 (v := 0) rfl (by decide) ?_
  refine a_aload_n (pc := 2) 0 2 rfl rfl ?_
  refine a_iload_n (pc := 3) 0 3 rfl rfl ?_
  refine a_iload_n (pc := 4) 0 4 rfl rfl ?_
  refine a_callVX (pc := 5) 0 5 (q_X11_spend_1 (S := S) p1 p2 h) rfl cv_L_76 (by decide) rfl rfl rfl (rm rfl) ?_
  refine a_catch [] (0, 10, 13, 13) [(0, 10, 17, 15), (0, 10, 21, 24)] rfl (by
    intro z hz
    cases hz) rfl (by decide) clW_L_13 castW_xIdx (fun q9 => ?_)
  refine a_astoreX (pc := 13) 0 9 (ls2 := [some (vr 11 0), some (vi p1), some (vi p2), some (vr 63 0), some (.inl (.ref q9))]) rfl (by decide) rfl ?_
  refine a_iconst (pc := 15) 0 10 (v := 1) rfl (by decide) ?_
  exact a_iret (pc := 16) 0 11 rfl rfl ⟨rfl, rfl⟩)
set_option maxRecDepth 100000 in
theorem x_L_spend_2 {S : Mem} (p1 : Int32) (p2 : Int32) (h : okx_X11_spend_2 S p1 p2) : Chs mdL_spend hhL_spend 9 148 1 6 [vr 11 0, vi p1, vi p2, vr 63 0] S (Is (some (vi (nI 2))) S) := Chs.of dtL_spend (by decide +kernel) rfl rfl (Nat.le_of_ble_eq_true rfl) (ls := [some (vr 11 0), some (vi p1), some (vi p2), some (vr 63 0), none]) rfl (fun O G => by
  refine a_aload_n (pc := 0) 0 0 rfl rfl ?_
  refine a_iconst (pc := 1) 0 1 (v := 0) rfl (by decide) ?_
  refine a_aload_n (pc := 2) 0 2 rfl rfl ?_
  refine a_iload_n (pc := 3) 0 3 rfl rfl ?_
  refine a_iload_n (pc := 4) 0 4 rfl rfl ?_
  refine a_callVX (pc := 5) 0 5 (q_X11_spend_2 (S := S) p1 p2 h) rfl cv_L_76 (by decide) rfl rfl rfl (rm rfl) ?_
  refine a_catch [(0, 10, 13, 13)] (0, 10, 17, 15) [(0, 10, 21, 24)] rfl (by
    intro z hz
    rcases List.mem_cons.mp hz with rfl | hz
    · exact ⟨by decide, _, clW_L_13, Or.inl ⟨rfl, rfl⟩⟩
    cases hz) rfl (by decide) clW_L_15 castW_xArg (fun q9 => ?_)
  refine a_astoreX (pc := 17) 0 12 (ls2 := [some (vr 11 0), some (vi p1), some (vi p2), some (vr 63 0), some (.inl (.ref q9))]) rfl (by decide) rfl ?_
  refine a_iconst (pc := 19) 0 13 (v := nI 2) rfl (by decide) ?_
  exact a_iret (pc := 20) 0 14 rfl rfl ⟨rfl, rfl⟩)
set_option maxRecDepth 100000 in
theorem x_L_spend_3 {S : Mem} (p1 : Int32) (p2 : Int32) (h : okx_X11_spend_3 S p1 p2) : Chs mdL_spend hhL_spend 8 126 1 6 [vr 11 0, vi p1, vi p2, vr 63 0] S (Is (some (vi (nI 3))) S) := Chs.of dtL_spend (by decide +kernel) rfl rfl (Nat.le_of_ble_eq_true rfl) (ls := [some (vr 11 0), some (vi p1), some (vi p2), some (vr 63 0), none]) rfl (fun O G => by
  refine a_aload_n (pc := 0) 0 0 rfl rfl ?_
  refine a_iconst (pc := 1) 0 1 (v := 0) rfl (by decide) ?_
  refine a_aload_n (pc := 2) 0 2 rfl rfl ?_
  refine a_iload_n (pc := 3) 0 3 rfl rfl ?_
  refine a_iload_n (pc := 4) 0 4 rfl rfl ?_
  refine a_callVX (pc := 5) 0 5 (q_X11_spend_3 (S := S) p1 p2 h) rfl cv_L_76 (by decide) rfl rfl rfl (rm rfl) ?_
  refine a_catch [(0, 10, 13, 13), (0, 10, 17, 15)] (0, 10, 21, 24) [] rfl (by
    intro z hz
    rcases List.mem_cons.mp hz with rfl | hz
    · exact ⟨by decide, _, clW_L_13, Or.inr (Or.inl ⟨rfl, rfl⟩)⟩
    rcases List.mem_cons.mp hz with rfl | hz
    · exact ⟨by decide, _, clW_L_15, Or.inr (Or.inr ⟨rfl, rfl⟩)⟩
    cases hz) rfl (by decide) clW_L_24 castW_xSta (fun q9 => ?_)
  refine a_astoreX (pc := 21) 0 15 (ls2 := [some (vr 11 0), some (vi p1), some (vi p2), some (vr 63 0), some (.inl (.ref q9))]) rfl (by decide) rfl ?_
  refine a_iconst (pc := 23) 0 16 (v := nI 3) rfl (by decide) ?_
  exact a_iret (pc := 24) 0 17 rfl rfl ⟨rfl, rfl⟩)
set_option maxRecDepth 100000 in
theorem n_L_exchange {S : Mem} (p1 : Int32) (h : ok_X11_exchange S p1) : Chs mdL_exchange hhL_exchange 3 64 0 0 [vr 11 0, vi p1, vr 63 0] S (Is (some (vi 0)) (((f_X11_exchange S p1).2).1, ((f_X11_exchange S p1).2).2.1, ((f_X11_exchange S p1).1).toInt64)) := Chs.of dtL_exchange (by decide +kernel) rfl rfl (Nat.le_of_ble_eq_true rfl) (ls := [some (vr 11 0), some (vi p1), some (vr 63 0), none]) rfl (fun O G => by
  refine a_aload_n (pc := 0) 0 0 rfl rfl ?_
  refine a_iconst (pc := 1) 0 1 (v := 0) rfl (by decide) ?_
  refine a_aload_n (pc := 2) 0 2 rfl rfl ?_
  refine a_iload_n (pc := 3) 0 3 rfl rfl ?_
  refine a_callVi (pc := 4) 0 4 (c_X11_exchange (S := S) p1 h) rfl cv_L_79 (by decide) rfl rfl rfl (rm rfl) ?_
  refine a_i2l (pc := 7) 0 5 rfl ?_
  refine a_last (pc := 8) 0 6 rfl rfl ?_
  refine a_goto (pc := 9) (tgt := 15) 0 7 rfl (by decide) ?_
  refine a_iconst (pc := 15) 0 11 (v := 0) rfl (by decide) ?_
  exact a_iret (pc := 16) 0 12 rfl rfl ⟨rfl, rfl⟩)
set_option maxRecDepth 100000 in
theorem x_L_exchange_1 {S : Mem} (p1 : Int32) (h : okx_X11_exchange_1 S p1) : Chs mdL_exchange hhL_exchange 9 146 1 6 [vr 11 0, vi p1, vr 63 0] S (Is (some (vi 1)) S) := Chs.of dtL_exchange (by decide +kernel) rfl rfl (Nat.le_of_ble_eq_true rfl) (ls := [some (vr 11 0), some (vi p1), some (vr 63 0), none]) rfl (fun O G => by
  refine a_aload_n (pc := 0) 0 0 rfl rfl ?_
  refine a_iconst (pc := 1) 0 1 (v := 0) rfl (by decide) ?_
  refine a_aload_n (pc := 2) 0 2 rfl rfl ?_
  refine a_iload_n (pc := 3) 0 3 rfl rfl ?_
  refine a_callVX (pc := 4) 0 4 (q_X11_exchange_1 (S := S) p1 h) rfl cv_L_79 (by decide) rfl rfl rfl (rm rfl) ?_
  refine a_catch [] (0, 9, 12, 15) [] rfl (by
    intro z hz
    cases hz) rfl (by decide) clW_L_15 castW_xArg (fun q9 => ?_)
  refine a_astoreXn (pc := 12) 0 8 (ls2 := [some (vr 11 0), some (vi p1), some (vr 63 0), some (.inl (.ref q9))]) rfl rfl (by decide) rfl ?_
  refine a_iconst (pc := 13) 0 9 (v := 1) rfl (by decide) ?_
  exact a_iret (pc := 14) 0 10 rfl rfl ⟨rfl, rfl⟩)
set_option maxRecDepth 100000 in
theorem n_L_abroad {S : Mem} (p1 : Int32) (p2 : Int32) (p3 : Int32) (hb_p3 : p3 = 0 ∨ p3 = 1) (h : ok_X11_abroad S p1 p2 p3) : Chs mdL_abroad hhL_abroad 3 73 0 0 [vr 11 0, vi p1, vi p2, vi p3, vr 63 0] S (Is (some (vi 0)) (((f_X11_abroad S p1 p2 p3).2).1, ((f_X11_abroad S p1 p2 p3).2).2.1, ((f_X11_abroad S p1 p2 p3).1).toInt64)) := Chs.of dtL_abroad (by decide +kernel) rfl rfl (Nat.le_of_ble_eq_true rfl) (ls := [some (vr 11 0), some (vi p1), some (vi p2), some (vi p3), some (vr 63 0), none]) rfl (fun O G => by
  refine a_aload (pc := 0) 0 0 rfl rfl ?_
  refine a_iconst (pc := 2) 0 1 (v := 0) rfl (by decide) ?_
  refine a_aload_n (pc := 3) 0 2 rfl rfl ?_
  refine a_iload_n (pc := 4) 0 3 rfl rfl ?_
  refine a_iload_n (pc := 5) 0 4 rfl rfl ?_
  refine a_iload_n (pc := 6) 0 5 rfl rfl ?_
  refine a_callVi (pc := 7) 0 6 (c_X11_abroad (S := S) p1 p2 p3 hb_p3 h) rfl cv_L_82 (by decide) rfl rfl rfl (rm rfl) ?_
  refine a_i2l (pc := 10) 0 7 rfl ?_
  refine a_last (pc := 11) 0 8 rfl rfl ?_
  refine a_goto (pc := 12) (tgt := 27) 0 9 rfl (by decide) ?_
  refine a_iconst (pc := 27) 0 19 (v := 0) rfl (by decide) ?_
  exact a_iret (pc := 28) 0 20 rfl rfl ⟨rfl, rfl⟩)
set_option maxRecDepth 100000 in
theorem x_L_abroad_1 {S : Mem} (p1 : Int32) (p2 : Int32) (p3 : Int32) (hb_p3 : p3 = 0 ∨ p3 = 1) (h : okx_X11_abroad_1 S p1 p2 p3) : Chs mdL_abroad hhL_abroad 9 150 1 6 [vr 11 0, vi p1, vi p2, vi p3, vr 63 0] S (Is (some (vi 1)) S) := Chs.of dtL_abroad (by decide +kernel) rfl rfl (Nat.le_of_ble_eq_true rfl) (ls := [some (vr 11 0), some (vi p1), some (vi p2), some (vi p3), some (vr 63 0), none]) rfl (fun O G => by
  refine a_aload (pc := 0) 0 0 rfl rfl ?_
  refine a_iconst (pc := 2) 0 1 (v := 0) rfl (by decide) ?_
  refine a_aload_n (pc := 3) 0 2 rfl rfl ?_
  refine a_iload_n (pc := 4) 0 3 rfl rfl ?_
  refine a_iload_n (pc := 5) 0 4 rfl rfl ?_
  refine a_iload_n (pc := 6) 0 5 rfl rfl ?_
  refine a_callVX (pc := 7) 0 6 (q_X11_abroad_1 (S := S) p1 p2 p3 hb_p3 h) rfl cv_L_82 (by decide) rfl rfl rfl (rm rfl) ?_
  refine a_catch [] (0, 12, 15, 13) [(0, 12, 19, 15), (0, 12, 23, 24)] rfl (by
    intro z hz
    cases hz) rfl (by decide) clW_L_13 castW_xIdx (fun q9 => ?_)
  refine a_astoreX (pc := 15) 0 10 (ls2 := [some (vr 11 0), some (vi p1), some (vi p2), some (vi p3), some (vr 63 0), some (.inl (.ref q9))]) rfl (by decide) rfl ?_
  refine a_iconst (pc := 17) 0 11 (v := 1) rfl (by decide) ?_
  exact a_iret (pc := 18) 0 12 rfl rfl ⟨rfl, rfl⟩)
set_option maxRecDepth 100000 in
theorem x_L_abroad_2 {S : Mem} (p1 : Int32) (p2 : Int32) (p3 : Int32) (hb_p3 : p3 = 0 ∨ p3 = 1) (h : okx_X11_abroad_2 S p1 p2 p3) : Chs mdL_abroad hhL_abroad 9 152 1 6 [vr 11 0, vi p1, vi p2, vi p3, vr 63 0] S (Is (some (vi (nI 2))) S) := Chs.of dtL_abroad (by decide +kernel) rfl rfl (Nat.le_of_ble_eq_true rfl) (ls := [some (vr 11 0), some (vi p1), some (vi p2), some (vi p3), some (vr 63 0), none]) rfl (fun O G => by
  refine a_aload (pc := 0) 0 0 rfl rfl ?_
  refine a_iconst (pc := 2) 0 1 (v := 0) rfl (by decide) ?_
  refine a_aload_n (pc := 3) 0 2 rfl rfl ?_
  refine a_iload_n (pc := 4) 0 3 rfl rfl ?_
  refine a_iload_n (pc := 5) 0 4 rfl rfl ?_
  refine a_iload_n (pc := 6) 0 5 rfl rfl ?_
  refine a_callVX (pc := 7) 0 6 (q_X11_abroad_2 (S := S) p1 p2 p3 hb_p3 h) rfl cv_L_82 (by decide) rfl rfl rfl (rm rfl) ?_
  refine a_catch [(0, 12, 15, 13)] (0, 12, 19, 15) [(0, 12, 23, 24)] rfl (by
    intro z hz
    rcases List.mem_cons.mp hz with rfl | hz
    · exact ⟨by decide, _, clW_L_13, Or.inl ⟨rfl, rfl⟩⟩
    cases hz) rfl (by decide) clW_L_15 castW_xArg (fun q9 => ?_)
  refine a_astoreX (pc := 19) 0 13 (ls2 := [some (vr 11 0), some (vi p1), some (vi p2), some (vi p3), some (vr 63 0), some (.inl (.ref q9))]) rfl (by decide) rfl ?_
  refine a_iconst (pc := 21) 0 14 (v := nI 2) rfl (by decide) ?_
  exact a_iret (pc := 22) 0 15 rfl rfl ⟨rfl, rfl⟩)
set_option maxRecDepth 100000 in
theorem x_L_abroad_3 {S : Mem} (p1 : Int32) (p2 : Int32) (p3 : Int32) (hb_p3 : p3 = 0 ∨ p3 = 1) (h : okx_X11_abroad_3 S p1 p2 p3) : Chs mdL_abroad hhL_abroad 8 130 1 6 [vr 11 0, vi p1, vi p2, vi p3, vr 63 0] S (Is (some (vi (nI 3))) S) := Chs.of dtL_abroad (by decide +kernel) rfl rfl (Nat.le_of_ble_eq_true rfl) (ls := [some (vr 11 0), some (vi p1), some (vi p2), some (vi p3), some (vr 63 0), none]) rfl (fun O G => by
  refine a_aload (pc := 0) 0 0 rfl rfl ?_
  refine a_iconst (pc := 2) 0 1 (v := 0) rfl (by decide) ?_
  refine a_aload_n (pc := 3) 0 2 rfl rfl ?_
  refine a_iload_n (pc := 4) 0 3 rfl rfl ?_
  refine a_iload_n (pc := 5) 0 4 rfl rfl ?_
  refine a_iload_n (pc := 6) 0 5 rfl rfl ?_
  refine a_callVX (pc := 7) 0 6 (q_X11_abroad_3 (S := S) p1 p2 p3 hb_p3 h) rfl cv_L_82 (by decide) rfl rfl rfl (rm rfl) ?_
  refine a_catch [(0, 12, 15, 13), (0, 12, 19, 15)] (0, 12, 23, 24) [] rfl (by
    intro z hz
    rcases List.mem_cons.mp hz with rfl | hz
    · exact ⟨by decide, _, clW_L_13, Or.inr (Or.inl ⟨rfl, rfl⟩)⟩
    rcases List.mem_cons.mp hz with rfl | hz
    · exact ⟨by decide, _, clW_L_15, Or.inr (Or.inr ⟨rfl, rfl⟩)⟩
    cases hz) rfl (by decide) clW_L_24 castW_xSta (fun q9 => ?_)
  refine a_astoreX (pc := 23) 0 16 (ls2 := [some (vr 11 0), some (vi p1), some (vi p2), some (vi p3), some (vr 63 0), some (.inl (.ref q9))]) rfl (by decide) rfl ?_
  refine a_iconst (pc := 25) 0 17 (v := nI 3) rfl (by decide) ?_
  exact a_iret (pc := 26) 0 18 rfl rfl ⟨rfl, rfl⟩)
set_option maxRecDepth 100000 in
theorem x_L_abroad_4 {S : Mem} (p1 : Int32) (p2 : Int32) (p3 : Int32) (hb_p3 : p3 = 0 ∨ p3 = 1) (h : okx_X11_abroad_4 S p1 p2 p3) : Chs mdL_abroad hhL_abroad 8 130 1 6 [vr 11 0, vi p1, vi p2, vi p3, vr 63 0] S (Is (some (vi (nI 3))) S) := Chs.of dtL_abroad (by decide +kernel) rfl rfl (Nat.le_of_ble_eq_true rfl) (ls := [some (vr 11 0), some (vi p1), some (vi p2), some (vi p3), some (vr 63 0), none]) rfl (fun O G => by
  refine a_aload (pc := 0) 0 0 rfl rfl ?_
  refine a_iconst (pc := 2) 0 1 (v := 0) rfl (by decide) ?_
  refine a_aload_n (pc := 3) 0 2 rfl rfl ?_
  refine a_iload_n (pc := 4) 0 3 rfl rfl ?_
  refine a_iload_n (pc := 5) 0 4 rfl rfl ?_
  refine a_iload_n (pc := 6) 0 5 rfl rfl ?_
  refine a_callVX (pc := 7) 0 6 (q_X11_abroad_4 (S := S) p1 p2 p3 hb_p3 h) rfl cv_L_82 (by decide) rfl rfl rfl (rm rfl) ?_
  refine a_catch [(0, 12, 15, 13), (0, 12, 19, 15)] (0, 12, 23, 24) [] rfl (by
    intro z hz
    rcases List.mem_cons.mp hz with rfl | hz
    · exact ⟨by decide, _, clW_L_13, Or.inr (Or.inl ⟨rfl, rfl⟩)⟩
    rcases List.mem_cons.mp hz with rfl | hz
    · exact ⟨by decide, _, clW_L_15, Or.inr (Or.inr ⟨rfl, rfl⟩)⟩
    cases hz) rfl (by decide) clW_L_24 castW_xSta (fun q9 => ?_)
  refine a_astoreX (pc := 23) 0 16 (ls2 := [some (vr 11 0), some (vi p1), some (vi p2), some (vi p3), some (vr 63 0), some (.inl (.ref q9))]) rfl (by decide) rfl ?_
  refine a_iconst (pc := 25) 0 17 (v := nI 3) rfl (by decide) ?_
  exact a_iret (pc := 26) 0 18 rfl rfl ⟨rfl, rfl⟩)
set_option maxRecDepth 100000 in
theorem n_L_hire {S : Mem} (p1 : Int32) (p2 : Int32) (p3 : Int32) (h : ok_X11_hire S p1 p2 p3) : Chs mdL_hire hhL_hire 3 67 0 0 [vr 11 0, vi p1, vi p2, vi p3, vr 63 0] S (Is (some (vi 0)) (((f_X11_hire S p1 p2 p3).2).1, ((f_X11_hire S p1 p2 p3).2).2.1, ((f_X11_hire S p1 p2 p3).1).toInt64)) := Chs.of dtL_hire (by decide +kernel) rfl rfl (Nat.le_of_ble_eq_true rfl) (ls := [some (vr 11 0), some (vi p1), some (vi p2), some (vi p3), some (vr 63 0), none]) rfl (fun O G => by
  refine a_aload (pc := 0) 0 0 rfl rfl ?_
  refine a_iconst (pc := 2) 0 1 (v := 0) rfl (by decide) ?_
  refine a_aload_n (pc := 3) 0 2 rfl rfl ?_
  refine a_iload_n (pc := 4) 0 3 rfl rfl ?_
  refine a_iload_n (pc := 5) 0 4 rfl rfl ?_
  refine a_iload_n (pc := 6) 0 5 rfl rfl ?_
  refine a_callVi (pc := 7) 0 6 (c_X11_hire (S := S) p1 p2 p3 h) rfl cv_L_86 (by decide) rfl rfl rfl (rm rfl) ?_
  refine a_i2l (pc := 10) 0 7 rfl ?_
  refine a_last (pc := 11) 0 8 rfl rfl ?_
  refine a_goto (pc := 12) (tgt := 23) 0 9 rfl (by decide) ?_
  refine a_iconst (pc := 23) 0 16 (v := 0) rfl (by decide) ?_
  exact a_iret (pc := 24) 0 17 rfl rfl ⟨rfl, rfl⟩)
set_option maxRecDepth 100000 in
theorem x_L_hire_1 {S : Mem} (p1 : Int32) (p2 : Int32) (p3 : Int32) (h : okx_X11_hire_1 S p1 p2 p3) : Chs mdL_hire hhL_hire 9 147 1 6 [vr 11 0, vi p1, vi p2, vi p3, vr 63 0] S (Is (some (vi 1)) S) := Chs.of dtL_hire (by decide +kernel) rfl rfl (Nat.le_of_ble_eq_true rfl) (ls := [some (vr 11 0), some (vi p1), some (vi p2), some (vi p3), some (vr 63 0), none]) rfl (fun O G => by
  refine a_aload (pc := 0) 0 0 rfl rfl ?_
  refine a_iconst (pc := 2) 0 1 (v := 0) rfl (by decide) ?_
  refine a_aload_n (pc := 3) 0 2 rfl rfl ?_
  refine a_iload_n (pc := 4) 0 3 rfl rfl ?_
  refine a_iload_n (pc := 5) 0 4 rfl rfl ?_
  refine a_iload_n (pc := 6) 0 5 rfl rfl ?_
  refine a_callVX (pc := 7) 0 6 (q_X11_hire_1 (S := S) p1 p2 p3 h) rfl cv_L_86 (by decide) rfl rfl rfl (rm rfl) ?_
  refine a_catch [] (0, 12, 15, 13) [(0, 12, 19, 15)] rfl (by
    intro z hz
    cases hz) rfl (by decide) clW_L_13 castW_xIdx (fun q9 => ?_)
  refine a_astoreX (pc := 15) 0 10 (ls2 := [some (vr 11 0), some (vi p1), some (vi p2), some (vi p3), some (vr 63 0), some (.inl (.ref q9))]) rfl (by decide) rfl ?_
  refine a_iconst (pc := 17) 0 11 (v := 1) rfl (by decide) ?_
  exact a_iret (pc := 18) 0 12 rfl rfl ⟨rfl, rfl⟩)
set_option maxRecDepth 100000 in
theorem x_L_hire_2 {S : Mem} (p1 : Int32) (p2 : Int32) (p3 : Int32) (h : okx_X11_hire_2 S p1 p2 p3) : Chs mdL_hire hhL_hire 9 147 1 6 [vr 11 0, vi p1, vi p2, vi p3, vr 63 0] S (Is (some (vi 1)) S) := Chs.of dtL_hire (by decide +kernel) rfl rfl (Nat.le_of_ble_eq_true rfl) (ls := [some (vr 11 0), some (vi p1), some (vi p2), some (vi p3), some (vr 63 0), none]) rfl (fun O G => by
  refine a_aload (pc := 0) 0 0 rfl rfl ?_
  refine a_iconst (pc := 2) 0 1 (v := 0) rfl (by decide) ?_
  refine a_aload_n (pc := 3) 0 2 rfl rfl ?_
  refine a_iload_n (pc := 4) 0 3 rfl rfl ?_
  refine a_iload_n (pc := 5) 0 4 rfl rfl ?_
  refine a_iload_n (pc := 6) 0 5 rfl rfl ?_
  refine a_callVX (pc := 7) 0 6 (q_X11_hire_2 (S := S) p1 p2 p3 h) rfl cv_L_86 (by decide) rfl rfl rfl (rm rfl) ?_
  refine a_catch [] (0, 12, 15, 13) [(0, 12, 19, 15)] rfl (by
    intro z hz
    cases hz) rfl (by decide) clW_L_13 castW_xIdx (fun q9 => ?_)
  refine a_astoreX (pc := 15) 0 10 (ls2 := [some (vr 11 0), some (vi p1), some (vi p2), some (vi p3), some (vr 63 0), some (.inl (.ref q9))]) rfl (by decide) rfl ?_
  refine a_iconst (pc := 17) 0 11 (v := 1) rfl (by decide) ?_
  exact a_iret (pc := 18) 0 12 rfl rfl ⟨rfl, rfl⟩)
set_option maxRecDepth 100000 in
theorem x_L_hire_3 {S : Mem} (p1 : Int32) (p2 : Int32) (p3 : Int32) (h : okx_X11_hire_3 S p1 p2 p3) : Chs mdL_hire hhL_hire 9 149 1 6 [vr 11 0, vi p1, vi p2, vi p3, vr 63 0] S (Is (some (vi (nI 2))) S) := Chs.of dtL_hire (by decide +kernel) rfl rfl (Nat.le_of_ble_eq_true rfl) (ls := [some (vr 11 0), some (vi p1), some (vi p2), some (vi p3), some (vr 63 0), none]) rfl (fun O G => by
  refine a_aload (pc := 0) 0 0 rfl rfl ?_
  refine a_iconst (pc := 2) 0 1 (v := 0) rfl (by decide) ?_
  refine a_aload_n (pc := 3) 0 2 rfl rfl ?_
  refine a_iload_n (pc := 4) 0 3 rfl rfl ?_
  refine a_iload_n (pc := 5) 0 4 rfl rfl ?_
  refine a_iload_n (pc := 6) 0 5 rfl rfl ?_
  refine a_callVX (pc := 7) 0 6 (q_X11_hire_3 (S := S) p1 p2 p3 h) rfl cv_L_86 (by decide) rfl rfl rfl (rm rfl) ?_
  refine a_catch [(0, 12, 15, 13)] (0, 12, 19, 15) [] rfl (by
    intro z hz
    rcases List.mem_cons.mp hz with rfl | hz
    · exact ⟨by decide, _, clW_L_13, Or.inl ⟨rfl, rfl⟩⟩
    cases hz) rfl (by decide) clW_L_15 castW_xArg (fun q9 => ?_)
  refine a_astoreX (pc := 19) 0 13 (ls2 := [some (vr 11 0), some (vi p1), some (vi p2), some (vi p3), some (vr 63 0), some (.inl (.ref q9))]) rfl (by decide) rfl ?_
  refine a_iconst (pc := 21) 0 14 (v := nI 2) rfl (by decide) ?_
  exact a_iret (pc := 22) 0 15 rfl rfl ⟨rfl, rfl⟩)
set_option maxRecDepth 100000 in
theorem n_L_buy {S : Mem} (p1 : Int32) (p2 : Int32) (p3 : Int32) (h : ok_X11_buy S p1 p2 p3) : Chs mdL_buy hhL_buy 5 121 0 0 [vr 11 0, vi p1, vi p2, vi p3, vr 63 0] S (Is (some (vi 0)) (((f_X11_buy S p1 p2 p3).2).1, ((f_X11_buy S p1 p2 p3).2).2.1, ((f_X11_buy S p1 p2 p3).1).toInt64)) := Chs.of dtL_buy (by decide +kernel) rfl rfl (Nat.le_of_ble_eq_true rfl) (ls := [some (vr 11 0), some (vi p1), some (vi p2), some (vi p3), some (vr 63 0), none]) rfl (fun O G => by
  refine a_aload (pc := 0) 0 0 rfl rfl ?_
  refine a_iconst (pc := 2) 0 1 (v := 0) rfl (by decide) ?_
  refine a_aload_n (pc := 3) 0 2 rfl rfl ?_
  refine a_iload_n (pc := 4) 0 3 rfl rfl ?_
  refine a_iload_n (pc := 5) 0 4 rfl rfl ?_
  refine a_iload_n (pc := 6) 0 5 rfl rfl ?_
  refine a_callVi (pc := 7) 0 6 (c_X11_buy (S := S) p1 p2 p3 h) rfl cv_L_89 (by decide) rfl rfl rfl (rm rfl) ?_
  refine a_i2l (pc := 10) 0 7 rfl ?_
  refine a_last (pc := 11) 0 8 rfl rfl ?_
  refine a_goto (pc := 12) (tgt := 27) 0 9 rfl (by decide) ?_
  refine a_iconst (pc := 27) 0 19 (v := 0) rfl (by decide) ?_
  exact a_iret (pc := 28) 0 20 rfl rfl ⟨rfl, rfl⟩)
set_option maxRecDepth 100000 in
theorem x_L_buy_1 {S : Mem} (p1 : Int32) (p2 : Int32) (p3 : Int32) (h : okx_X11_buy_1 S p1 p2 p3) : Chs mdL_buy hhL_buy 9 147 1 6 [vr 11 0, vi p1, vi p2, vi p3, vr 63 0] S (Is (some (vi 1)) S) := Chs.of dtL_buy (by decide +kernel) rfl rfl (Nat.le_of_ble_eq_true rfl) (ls := [some (vr 11 0), some (vi p1), some (vi p2), some (vi p3), some (vr 63 0), none]) rfl (fun O G => by
  refine a_aload (pc := 0) 0 0 rfl rfl ?_
  refine a_iconst (pc := 2) 0 1 (v := 0) rfl (by decide) ?_
  refine a_aload_n (pc := 3) 0 2 rfl rfl ?_
  refine a_iload_n (pc := 4) 0 3 rfl rfl ?_
  refine a_iload_n (pc := 5) 0 4 rfl rfl ?_
  refine a_iload_n (pc := 6) 0 5 rfl rfl ?_
  refine a_callVX (pc := 7) 0 6 (q_X11_buy_1 (S := S) p1 p2 p3 h) rfl cv_L_89 (by decide) rfl rfl rfl (rm rfl) ?_
  refine a_catch [] (0, 12, 15, 13) [(0, 12, 19, 15), (0, 12, 23, 24)] rfl (by
    intro z hz
    cases hz) rfl (by decide) clW_L_13 castW_xIdx (fun q9 => ?_)
  refine a_astoreX (pc := 15) 0 10 (ls2 := [some (vr 11 0), some (vi p1), some (vi p2), some (vi p3), some (vr 63 0), some (.inl (.ref q9))]) rfl (by decide) rfl ?_
  refine a_iconst (pc := 17) 0 11 (v := 1) rfl (by decide) ?_
  exact a_iret (pc := 18) 0 12 rfl rfl ⟨rfl, rfl⟩)
set_option maxRecDepth 100000 in
theorem x_L_buy_2 {S : Mem} (p1 : Int32) (p2 : Int32) (p3 : Int32) (h : okx_X11_buy_2 S p1 p2 p3) : Chs mdL_buy hhL_buy 9 147 1 6 [vr 11 0, vi p1, vi p2, vi p3, vr 63 0] S (Is (some (vi 1)) S) := Chs.of dtL_buy (by decide +kernel) rfl rfl (Nat.le_of_ble_eq_true rfl) (ls := [some (vr 11 0), some (vi p1), some (vi p2), some (vi p3), some (vr 63 0), none]) rfl (fun O G => by
  refine a_aload (pc := 0) 0 0 rfl rfl ?_
  refine a_iconst (pc := 2) 0 1 (v := 0) rfl (by decide) ?_
  refine a_aload_n (pc := 3) 0 2 rfl rfl ?_
  refine a_iload_n (pc := 4) 0 3 rfl rfl ?_
  refine a_iload_n (pc := 5) 0 4 rfl rfl ?_
  refine a_iload_n (pc := 6) 0 5 rfl rfl ?_
  refine a_callVX (pc := 7) 0 6 (q_X11_buy_2 (S := S) p1 p2 p3 h) rfl cv_L_89 (by decide) rfl rfl rfl (rm rfl) ?_
  refine a_catch [] (0, 12, 15, 13) [(0, 12, 19, 15), (0, 12, 23, 24)] rfl (by
    intro z hz
    cases hz) rfl (by decide) clW_L_13 castW_xIdx (fun q9 => ?_)
  refine a_astoreX (pc := 15) 0 10 (ls2 := [some (vr 11 0), some (vi p1), some (vi p2), some (vi p3), some (vr 63 0), some (.inl (.ref q9))]) rfl (by decide) rfl ?_
  refine a_iconst (pc := 17) 0 11 (v := 1) rfl (by decide) ?_
  exact a_iret (pc := 18) 0 12 rfl rfl ⟨rfl, rfl⟩)
set_option maxRecDepth 100000 in
theorem x_L_buy_3 {S : Mem} (p1 : Int32) (p2 : Int32) (p3 : Int32) (h : okx_X11_buy_3 S p1 p2 p3) : Chs mdL_buy hhL_buy 9 149 1 6 [vr 11 0, vi p1, vi p2, vi p3, vr 63 0] S (Is (some (vi (nI 2))) S) := Chs.of dtL_buy (by decide +kernel) rfl rfl (Nat.le_of_ble_eq_true rfl) (ls := [some (vr 11 0), some (vi p1), some (vi p2), some (vi p3), some (vr 63 0), none]) rfl (fun O G => by
  refine a_aload (pc := 0) 0 0 rfl rfl ?_
  refine a_iconst (pc := 2) 0 1 (v := 0) rfl (by decide) ?_
  refine a_aload_n (pc := 3) 0 2 rfl rfl ?_
  refine a_iload_n (pc := 4) 0 3 rfl rfl ?_
  refine a_iload_n (pc := 5) 0 4 rfl rfl ?_
  refine a_iload_n (pc := 6) 0 5 rfl rfl ?_
  refine a_callVX (pc := 7) 0 6 (q_X11_buy_3 (S := S) p1 p2 p3 h) rfl cv_L_89 (by decide) rfl rfl rfl (rm rfl) ?_
  refine a_catch [(0, 12, 15, 13)] (0, 12, 19, 15) [(0, 12, 23, 24)] rfl (by
    intro z hz
    rcases List.mem_cons.mp hz with rfl | hz
    · exact ⟨by decide, _, clW_L_13, Or.inl ⟨rfl, rfl⟩⟩
    cases hz) rfl (by decide) clW_L_15 castW_xArg (fun q9 => ?_)
  refine a_astoreX (pc := 19) 0 13 (ls2 := [some (vr 11 0), some (vi p1), some (vi p2), some (vi p3), some (vr 63 0), some (.inl (.ref q9))]) rfl (by decide) rfl ?_
  refine a_iconst (pc := 21) 0 14 (v := nI 2) rfl (by decide) ?_
  exact a_iret (pc := 22) 0 15 rfl rfl ⟨rfl, rfl⟩)
set_option maxRecDepth 100000 in
theorem x_L_buy_4 {S : Mem} (p1 : Int32) (p2 : Int32) (p3 : Int32) (h : okx_X11_buy_4 S p1 p2 p3) : Chs mdL_buy hhL_buy 8 127 1 6 [vr 11 0, vi p1, vi p2, vi p3, vr 63 0] S (Is (some (vi (nI 3))) S) := Chs.of dtL_buy (by decide +kernel) rfl rfl (Nat.le_of_ble_eq_true rfl) (ls := [some (vr 11 0), some (vi p1), some (vi p2), some (vi p3), some (vr 63 0), none]) rfl (fun O G => by
  refine a_aload (pc := 0) 0 0 rfl rfl ?_
  refine a_iconst (pc := 2) 0 1 (v := 0) rfl (by decide) ?_
  refine a_aload_n (pc := 3) 0 2 rfl rfl ?_
  refine a_iload_n (pc := 4) 0 3 rfl rfl ?_
  refine a_iload_n (pc := 5) 0 4 rfl rfl ?_
  refine a_iload_n (pc := 6) 0 5 rfl rfl ?_
  refine a_callVX (pc := 7) 0 6 (q_X11_buy_4 (S := S) p1 p2 p3 h) rfl cv_L_89 (by decide) rfl rfl rfl (rm rfl) ?_
  refine a_catch [(0, 12, 15, 13), (0, 12, 19, 15)] (0, 12, 23, 24) [] rfl (by
    intro z hz
    rcases List.mem_cons.mp hz with rfl | hz
    · exact ⟨by decide, _, clW_L_13, Or.inr (Or.inl ⟨rfl, rfl⟩)⟩
    rcases List.mem_cons.mp hz with rfl | hz
    · exact ⟨by decide, _, clW_L_15, Or.inr (Or.inr ⟨rfl, rfl⟩)⟩
    cases hz) rfl (by decide) clW_L_24 castW_xSta (fun q9 => ?_)
  refine a_astoreX (pc := 23) 0 16 (ls2 := [some (vr 11 0), some (vi p1), some (vi p2), some (vi p3), some (vr 63 0), some (.inl (.ref q9))]) rfl (by decide) rfl ?_
  refine a_iconst (pc := 25) 0 17 (v := nI 3) rfl (by decide) ?_
  exact a_iret (pc := 26) 0 18 rfl rfl ⟨rfl, rfl⟩)
set_option maxRecDepth 100000 in
theorem n_L_day {S : Mem} (p1 : Int32) (h : ok_X11_day S p1) : Chs mdL_day hhL_day 7 169 0 0 [vr 11 0, vi p1, vr 63 0] S (Is (some (vi 0)) (((f_X11_day S p1).2).1, ((f_X11_day S p1).2).2.1, ((f_X11_day S p1).1).toInt64)) := Chs.of dtL_day (by decide +kernel) rfl rfl (Nat.le_of_ble_eq_true rfl) (ls := [some (vr 11 0), some (vi p1), some (vr 63 0), none]) rfl (fun O G => by
  refine a_aload_n (pc := 0) 0 0 rfl rfl ?_
  refine a_iconst (pc := 1) 0 1 (v := 0) rfl (by decide) ?_
  refine a_aload_n (pc := 2) 0 2 rfl rfl ?_
  refine a_iload_n (pc := 3) 0 3 rfl rfl ?_
  refine a_callVi (pc := 4) 0 4 (c_X11_day (S := S) p1 h) rfl cv_L_92 (by decide) rfl rfl rfl (rm rfl) ?_
  refine a_i2l (pc := 7) 0 5 rfl ?_
  refine a_last (pc := 8) 0 6 rfl rfl ?_
  refine a_goto (pc := 9) (tgt := 18) 0 7 rfl (by decide) ?_
  refine a_iconst (pc := 18) 0 14 (v := 0) rfl (by decide) ?_
  exact a_iret (pc := 19) 0 15 rfl rfl ⟨rfl, rfl⟩)
set_option maxRecDepth 100000 in
theorem x_L_day_1 {S : Mem} (p1 : Int32) (h : okx_X11_day_1 S p1) : Chs mdL_day hhL_day 9 146 1 6 [vr 11 0, vi p1, vr 63 0] S (Is (some (vi 1)) S) := Chs.of dtL_day (by decide +kernel) rfl rfl (Nat.le_of_ble_eq_true rfl) (ls := [some (vr 11 0), some (vi p1), some (vr 63 0), none]) rfl (fun O G => by
  refine a_aload_n (pc := 0) 0 0 rfl rfl ?_
  refine a_iconst (pc := 1) 0 1 (v := 0) rfl (by decide) ?_
  refine a_aload_n (pc := 2) 0 2 rfl rfl ?_
  refine a_iload_n (pc := 3) 0 3 rfl rfl ?_
  refine a_callVX (pc := 4) 0 4 (q_X11_day_1 (S := S) p1 h) rfl cv_L_92 (by decide) rfl rfl rfl (rm rfl) ?_
  refine a_catch [] (0, 9, 12, 15) [(0, 9, 15, 24)] rfl (by
    intro z hz
    cases hz) rfl (by decide) clW_L_15 castW_xArg (fun q9 => ?_)
  refine a_astoreXn (pc := 12) 0 8 (ls2 := [some (vr 11 0), some (vi p1), some (vr 63 0), some (.inl (.ref q9))]) rfl rfl (by decide) rfl ?_
  refine a_iconst (pc := 13) 0 9 (v := 1) rfl (by decide) ?_
  exact a_iret (pc := 14) 0 10 rfl rfl ⟨rfl, rfl⟩)
set_option maxRecDepth 100000 in
theorem x_L_day_2 {S : Mem} (p1 : Int32) (h : okx_X11_day_2 S p1) : Chs mdL_day hhL_day 8 124 1 6 [vr 11 0, vi p1, vr 63 0] S (Is (some (vi (nI 2))) S) := Chs.of dtL_day (by decide +kernel) rfl rfl (Nat.le_of_ble_eq_true rfl) (ls := [some (vr 11 0), some (vi p1), some (vr 63 0), none]) rfl (fun O G => by
  refine a_aload_n (pc := 0) 0 0 rfl rfl ?_
  refine a_iconst (pc := 1) 0 1 (v := 0) rfl (by decide) ?_
  refine a_aload_n (pc := 2) 0 2 rfl rfl ?_
  refine a_iload_n (pc := 3) 0 3 rfl rfl ?_
  refine a_callVX (pc := 4) 0 4 (q_X11_day_2 (S := S) p1 h) rfl cv_L_92 (by decide) rfl rfl rfl (rm rfl) ?_
  refine a_catch [(0, 9, 12, 15)] (0, 9, 15, 24) [] rfl (by
    intro z hz
    rcases List.mem_cons.mp hz with rfl | hz
    · exact ⟨by decide, _, clW_L_15, Or.inr (Or.inr ⟨rfl, rfl⟩)⟩
    cases hz) rfl (by decide) clW_L_24 castW_xSta (fun q9 => ?_)
  refine a_astoreXn (pc := 15) 0 11 (ls2 := [some (vr 11 0), some (vi p1), some (vr 63 0), some (.inl (.ref q9))]) rfl rfl (by decide) rfl ?_
  refine a_iconst (pc := 16) 0 12 (v := nI 2) rfl (by decide) ?_
  exact a_iret (pc := 17) 0 13 rfl rfl ⟨rfl, rfl⟩)
set_option maxRecDepth 100000 in
theorem n_L_fail {S : Mem} (p1 : Int32) (h : ok_X11_fail S p1) : Chs mdL_fail hhL_fail 5 124 0 0 [vr 11 0, vi p1, vr 63 0] S (Is (some (vi 0)) (((f_X11_fail S p1).2).1, ((f_X11_fail S p1).2).2.1, ((f_X11_fail S p1).1).toInt64)) := Chs.of dtL_fail (by decide +kernel) rfl rfl (Nat.le_of_ble_eq_true rfl) (ls := [some (vr 11 0), some (vi p1), some (vr 63 0), none]) rfl (fun O G => by
  refine a_aload_n (pc := 0) 0 0 rfl rfl ?_
  refine a_iconst (pc := 1) 0 1 (v := 0) rfl (by decide) ?_
  refine a_aload_n (pc := 2) 0 2 rfl rfl ?_
  refine a_iload_n (pc := 3) 0 3 rfl rfl ?_
  refine a_callVi (pc := 4) 0 4 (c_X11_fail (S := S) p1 h) rfl cv_L_95 (by decide) rfl rfl rfl (rm rfl) ?_
  refine a_i2l (pc := 7) 0 5 rfl ?_
  refine a_last (pc := 8) 0 6 rfl rfl ?_
  refine a_goto (pc := 9) (tgt := 18) 0 7 rfl (by decide) ?_
  refine a_iconst (pc := 18) 0 14 (v := 0) rfl (by decide) ?_
  exact a_iret (pc := 19) 0 15 rfl rfl ⟨rfl, rfl⟩)
set_option maxRecDepth 100000 in
theorem x_L_fail_1 {S : Mem} (p1 : Int32) (h : okx_X11_fail_1 S p1) : Chs mdL_fail hhL_fail 9 143 1 6 [vr 11 0, vi p1, vr 63 0] S (Is (some (vi 1)) S) := Chs.of dtL_fail (by decide +kernel) rfl rfl (Nat.le_of_ble_eq_true rfl) (ls := [some (vr 11 0), some (vi p1), some (vr 63 0), none]) rfl (fun O G => by
  refine a_aload_n (pc := 0) 0 0 rfl rfl ?_
  refine a_iconst (pc := 1) 0 1 (v := 0) rfl (by decide) ?_
  refine a_aload_n (pc := 2) 0 2 rfl rfl ?_
  refine a_iload_n (pc := 3) 0 3 rfl rfl ?_
  refine a_callVX (pc := 4) 0 4 (q_X11_fail_1 (S := S) p1 h) rfl cv_L_95 (by decide) rfl rfl rfl (rm rfl) ?_
  refine a_catch [] (0, 9, 12, 13) [(0, 9, 15, 24)] rfl (by
    intro z hz
    cases hz) rfl (by decide) clW_L_13 castW_xIdx (fun q9 => ?_)
  refine a_astoreXn (pc := 12) 0 8 (ls2 := [some (vr 11 0), some (vi p1), some (vr 63 0), some (.inl (.ref q9))]) rfl rfl (by decide) rfl ?_
  refine a_iconst (pc := 13) 0 9 (v := 1) rfl (by decide) ?_
  exact a_iret (pc := 14) 0 10 rfl rfl ⟨rfl, rfl⟩)
set_option maxRecDepth 100000 in
theorem x_L_fail_2 {S : Mem} (p1 : Int32) (h : okx_X11_fail_2 S p1) : Chs mdL_fail hhL_fail 8 123 1 6 [vr 11 0, vi p1, vr 63 0] S (Is (some (vi (nI 2))) S) := Chs.of dtL_fail (by decide +kernel) rfl rfl (Nat.le_of_ble_eq_true rfl) (ls := [some (vr 11 0), some (vi p1), some (vr 63 0), none]) rfl (fun O G => by
  refine a_aload_n (pc := 0) 0 0 rfl rfl ?_
  refine a_iconst (pc := 1) 0 1 (v := 0) rfl (by decide) ?_
  refine a_aload_n (pc := 2) 0 2 rfl rfl ?_
  refine a_iload_n (pc := 3) 0 3 rfl rfl ?_
  refine a_callVX (pc := 4) 0 4 (q_X11_fail_2 (S := S) p1 h) rfl cv_L_95 (by decide) rfl rfl rfl (rm rfl) ?_
  refine a_catch [(0, 9, 12, 13)] (0, 9, 15, 24) [] rfl (by
    intro z hz
    rcases List.mem_cons.mp hz with rfl | hz
    · exact ⟨by decide, _, clW_L_13, Or.inr (Or.inl ⟨rfl, rfl⟩)⟩
    cases hz) rfl (by decide) clW_L_24 castW_xSta (fun q9 => ?_)
  refine a_astoreXn (pc := 15) 0 11 (ls2 := [some (vr 11 0), some (vi p1), some (vr 63 0), some (.inl (.ref q9))]) rfl rfl (by decide) rfl ?_
  refine a_iconst (pc := 16) 0 12 (v := nI 2) rfl (by decide) ?_
  exact a_iret (pc := 17) 0 13 rfl rfl ⟨rfl, rfl⟩)
set_option maxRecDepth 100000 in
theorem n_L_ofHolder {S : Mem} (p1 : Int32) (p2 : Int32) (h : ok_X11_ofHolder S p1 p2) : Chs mdL_ofHolder hhL_ofHolder 3 65 0 0 [vr 11 0, vi p1, vi p2, vr 63 0] S (Is (some (vi 0)) ((S).1, (S).2.1, (f_X11_ofHolder S p1 p2).toInt64)) := Chs.of dtL_ofHolder (by decide +kernel) rfl rfl (Nat.le_of_ble_eq_true rfl) (ls := [some (vr 11 0), some (vi p1), some (vi p2), some (vr 63 0), none]) rfl (fun O G => by
  refine a_aload_n (pc := 0) 0 0 rfl rfl ?_
  refine a_iconst (pc := 1) 0 1 (v := 0) rfl (by decide) ?_
  refine a_aload_n (pc := 2) 0 2 rfl rfl ?_
  refine a_iload_n (pc := 3) 0 3 rfl rfl ?_
  refine a_iload_n (pc := 4) 0 4 rfl rfl ?_
  refine a_callVi (pc := 5) 0 5 (c_X11_ofHolder (S := S) p1 p2 h) rfl cv_L_98 (by decide) rfl rfl rfl (rm rfl) ?_
  refine a_i2l (pc := 8) 0 6 rfl ?_
  refine a_last (pc := 9) 0 7 rfl rfl ?_
  refine a_goto (pc := 10) (tgt := 21) 0 8 rfl (by decide) ?_
  refine a_iconst (pc := 21) 0 15 (v := 0) rfl (by decide) ?_
  exact a_iret (pc := 22) 0 16 rfl rfl ⟨rfl, rfl⟩)
set_option maxRecDepth 100000 in
theorem x_L_ofHolder_1 {S : Mem} (p1 : Int32) (p2 : Int32) (h : okx_X11_ofHolder_1 S p1 p2) : Chs mdL_ofHolder hhL_ofHolder 9 145 1 6 [vr 11 0, vi p1, vi p2, vr 63 0] S (Is (some (vi 1)) S) := Chs.of dtL_ofHolder (by decide +kernel) rfl rfl (Nat.le_of_ble_eq_true rfl) (ls := [some (vr 11 0), some (vi p1), some (vi p2), some (vr 63 0), none]) rfl (fun O G => by
  refine a_aload_n (pc := 0) 0 0 rfl rfl ?_
  refine a_iconst (pc := 1) 0 1 (v := 0) rfl (by decide) ?_
  refine a_aload_n (pc := 2) 0 2 rfl rfl ?_
  refine a_iload_n (pc := 3) 0 3 rfl rfl ?_
  refine a_iload_n (pc := 4) 0 4 rfl rfl ?_
  refine a_callVX (pc := 5) 0 5 (q_X11_ofHolder_1 (S := S) p1 p2 h) rfl cv_L_98 (by decide) rfl rfl rfl (rm rfl) ?_
  refine a_catch [] (0, 10, 13, 13) [(0, 10, 17, 15)] rfl (by
    intro z hz
    cases hz) rfl (by decide) clW_L_13 castW_xIdx (fun q9 => ?_)
  refine a_astoreX (pc := 13) 0 9 (ls2 := [some (vr 11 0), some (vi p1), some (vi p2), some (vr 63 0), some (.inl (.ref q9))]) rfl (by decide) rfl ?_
  refine a_iconst (pc := 15) 0 10 (v := 1) rfl (by decide) ?_
  exact a_iret (pc := 16) 0 11 rfl rfl ⟨rfl, rfl⟩)
set_option maxRecDepth 100000 in
theorem x_L_ofHolder_2 {S : Mem} (p1 : Int32) (p2 : Int32) (h : okx_X11_ofHolder_2 S p1 p2) : Chs mdL_ofHolder hhL_ofHolder 9 147 1 6 [vr 11 0, vi p1, vi p2, vr 63 0] S (Is (some (vi (nI 2))) S) := Chs.of dtL_ofHolder (by decide +kernel) rfl rfl (Nat.le_of_ble_eq_true rfl) (ls := [some (vr 11 0), some (vi p1), some (vi p2), some (vr 63 0), none]) rfl (fun O G => by
  refine a_aload_n (pc := 0) 0 0 rfl rfl ?_
  refine a_iconst (pc := 1) 0 1 (v := 0) rfl (by decide) ?_
  refine a_aload_n (pc := 2) 0 2 rfl rfl ?_
  refine a_iload_n (pc := 3) 0 3 rfl rfl ?_
  refine a_iload_n (pc := 4) 0 4 rfl rfl ?_
  refine a_callVX (pc := 5) 0 5 (q_X11_ofHolder_2 (S := S) p1 p2 h) rfl cv_L_98 (by decide) rfl rfl rfl (rm rfl) ?_
  refine a_catch [(0, 10, 13, 13)] (0, 10, 17, 15) [] rfl (by
    intro z hz
    rcases List.mem_cons.mp hz with rfl | hz
    · exact ⟨by decide, _, clW_L_13, Or.inl ⟨rfl, rfl⟩⟩
    cases hz) rfl (by decide) clW_L_15 castW_xArg (fun q9 => ?_)
  refine a_astoreX (pc := 17) 0 12 (ls2 := [some (vr 11 0), some (vi p1), some (vi p2), some (vr 63 0), some (.inl (.ref q9))]) rfl (by decide) rfl ?_
  refine a_iconst (pc := 19) 0 13 (v := nI 2) rfl (by decide) ?_
  exact a_iret (pc := 20) 0 14 rfl rfl ⟨rfl, rfl⟩)
set_option maxRecDepth 100000 in
theorem n_L_accountAnew {S : Mem} (p1 : Int32) (h : ok_X11_accountAnew S p1) : Chs mdL_accountAnew hhL_accountAnew 3 61 0 0 [vr 11 0, vi p1, vr 63 0] S (Is (some (vi 0)) ((S).1, (S).2.1, (f_X11_accountAnew S p1).toInt64)) := Chs.of dtL_accountAnew (by decide +kernel) rfl rfl (Nat.le_of_ble_eq_true rfl) (ls := [some (vr 11 0), some (vi p1), some (vr 63 0), none]) rfl (fun O G => by
  refine a_aload_n (pc := 0) 0 0 rfl rfl ?_
  refine a_iconst (pc := 1) 0 1 (v := 0) rfl (by decide) ?_
  refine a_aload_n (pc := 2) 0 2 rfl rfl ?_
  refine a_iload_n (pc := 3) 0 3 rfl rfl ?_
  refine a_callVi (pc := 4) 0 4 (c_X11_accountAnew (S := S) p1 h) rfl cv_L_101 (by decide) rfl rfl rfl (rm rfl) ?_
  refine a_i2l (pc := 7) 0 5 rfl ?_
  refine a_last (pc := 8) 0 6 rfl rfl ?_
  refine a_goto (pc := 9) (tgt := 15) 0 7 rfl (by decide) ?_
  refine a_iconst (pc := 15) 0 11 (v := 0) rfl (by decide) ?_
  exact a_iret (pc := 16) 0 12 rfl rfl ⟨rfl, rfl⟩)
set_option maxRecDepth 100000 in
theorem x_L_accountAnew_1 {S : Mem} (p1 : Int32) (h : okx_X11_accountAnew_1 S p1) : Chs mdL_accountAnew hhL_accountAnew 9 143 1 6 [vr 11 0, vi p1, vr 63 0] S (Is (some (vi 1)) S) := Chs.of dtL_accountAnew (by decide +kernel) rfl rfl (Nat.le_of_ble_eq_true rfl) (ls := [some (vr 11 0), some (vi p1), some (vr 63 0), none]) rfl (fun O G => by
  refine a_aload_n (pc := 0) 0 0 rfl rfl ?_
  refine a_iconst (pc := 1) 0 1 (v := 0) rfl (by decide) ?_
  refine a_aload_n (pc := 2) 0 2 rfl rfl ?_
  refine a_iload_n (pc := 3) 0 3 rfl rfl ?_
  refine a_callVX (pc := 4) 0 4 (q_X11_accountAnew_1 (S := S) p1 h) rfl cv_L_101 (by decide) rfl rfl rfl (rm rfl) ?_
  refine a_catch [] (0, 9, 12, 13) [] rfl (by
    intro z hz
    cases hz) rfl (by decide) clW_L_13 castW_xIdx (fun q9 => ?_)
  refine a_astoreXn (pc := 12) 0 8 (ls2 := [some (vr 11 0), some (vi p1), some (vr 63 0), some (.inl (.ref q9))]) rfl rfl (by decide) rfl ?_
  refine a_iconst (pc := 13) 0 9 (v := 1) rfl (by decide) ?_
  exact a_iret (pc := 14) 0 10 rfl rfl ⟨rfl, rfl⟩)
set_option maxRecDepth 100000 in
theorem n_L_ofBank {S : Mem} (p1 : Int32) (p2 : Int32) (h : ok_X11_ofBank S p1 p2) : Chs mdL_ofBank hhL_ofBank 4 92 0 0 [vr 11 0, vi p1, vi p2, vr 63 0] S (Is (some (vi 0)) ((S).1, (S).2.1, (f_X11_ofBank S p1 p2).toInt64)) := Chs.of dtL_ofBank (by decide +kernel) rfl rfl (Nat.le_of_ble_eq_true rfl) (ls := [some (vr 11 0), some (vi p1), some (vi p2), some (vr 63 0), none]) rfl (fun O G => by
  refine a_aload_n (pc := 0) 0 0 rfl rfl ?_
  refine a_iconst (pc := 1) 0 1 (v := 0) rfl (by decide) ?_
  refine a_aload_n (pc := 2) 0 2 rfl rfl ?_
  refine a_iload_n (pc := 3) 0 3 rfl rfl ?_
  refine a_iload_n (pc := 4) 0 4 rfl rfl ?_
  refine a_callVi (pc := 5) 0 5 (c_X11_ofBank (S := S) p1 p2 h) rfl cv_L_104 (by decide) rfl rfl rfl (rm rfl) ?_
  refine a_i2l (pc := 8) 0 6 rfl ?_
  refine a_last (pc := 9) 0 7 rfl rfl ?_
  refine a_goto (pc := 10) (tgt := 21) 0 8 rfl (by decide) ?_
  refine a_iconst (pc := 21) 0 15 (v := 0) rfl (by decide) ?_
  exact a_iret (pc := 22) 0 16 rfl rfl ⟨rfl, rfl⟩)
set_option maxRecDepth 100000 in
theorem x_L_ofBank_1 {S : Mem} (p1 : Int32) (p2 : Int32) (h : okx_X11_ofBank_1 S p1 p2) : Chs mdL_ofBank hhL_ofBank 9 145 1 6 [vr 11 0, vi p1, vi p2, vr 63 0] S (Is (some (vi 1)) S) := Chs.of dtL_ofBank (by decide +kernel) rfl rfl (Nat.le_of_ble_eq_true rfl) (ls := [some (vr 11 0), some (vi p1), some (vi p2), some (vr 63 0), none]) rfl (fun O G => by
  refine a_aload_n (pc := 0) 0 0 rfl rfl ?_
  refine a_iconst (pc := 1) 0 1 (v := 0) rfl (by decide) ?_
  refine a_aload_n (pc := 2) 0 2 rfl rfl ?_
  refine a_iload_n (pc := 3) 0 3 rfl rfl ?_
  refine a_iload_n (pc := 4) 0 4 rfl rfl ?_
  refine a_callVX (pc := 5) 0 5 (q_X11_ofBank_1 (S := S) p1 p2 h) rfl cv_L_104 (by decide) rfl rfl rfl (rm rfl) ?_
  refine a_catch [] (0, 10, 13, 13) [(0, 10, 17, 15)] rfl (by
    intro z hz
    cases hz) rfl (by decide) clW_L_13 castW_xIdx (fun q9 => ?_)
  refine a_astoreX (pc := 13) 0 9 (ls2 := [some (vr 11 0), some (vi p1), some (vi p2), some (vr 63 0), some (.inl (.ref q9))]) rfl (by decide) rfl ?_
  refine a_iconst (pc := 15) 0 10 (v := 1) rfl (by decide) ?_
  exact a_iret (pc := 16) 0 11 rfl rfl ⟨rfl, rfl⟩)
set_option maxRecDepth 100000 in
theorem x_L_ofBank_2 {S : Mem} (p1 : Int32) (p2 : Int32) (h : okx_X11_ofBank_2 S p1 p2) : Chs mdL_ofBank hhL_ofBank 9 147 1 6 [vr 11 0, vi p1, vi p2, vr 63 0] S (Is (some (vi (nI 2))) S) := Chs.of dtL_ofBank (by decide +kernel) rfl rfl (Nat.le_of_ble_eq_true rfl) (ls := [some (vr 11 0), some (vi p1), some (vi p2), some (vr 63 0), none]) rfl (fun O G => by
  refine a_aload_n (pc := 0) 0 0 rfl rfl ?_
  refine a_iconst (pc := 1) 0 1 (v := 0) rfl (by decide) ?_
  refine a_aload_n (pc := 2) 0 2 rfl rfl ?_
  refine a_iload_n (pc := 3) 0 3 rfl rfl ?_
  refine a_iload_n (pc := 4) 0 4 rfl rfl ?_
  refine a_callVX (pc := 5) 0 5 (q_X11_ofBank_2 (S := S) p1 p2 h) rfl cv_L_104 (by decide) rfl rfl rfl (rm rfl) ?_
  refine a_catch [(0, 10, 13, 13)] (0, 10, 17, 15) [] rfl (by
    intro z hz
    rcases List.mem_cons.mp hz with rfl | hz
    · exact ⟨by decide, _, clW_L_13, Or.inl ⟨rfl, rfl⟩⟩
    cases hz) rfl (by decide) clW_L_15 castW_xArg (fun q9 => ?_)
  refine a_astoreX (pc := 17) 0 12 (ls2 := [some (vr 11 0), some (vi p1), some (vi p2), some (vr 63 0), some (.inl (.ref q9))]) rfl (by decide) rfl ?_
  refine a_iconst (pc := 19) 0 13 (v := nI 2) rfl (by decide) ?_
  exact a_iret (pc := 20) 0 14 rfl rfl ⟨rfl, rfl⟩)
set_option maxRecDepth 100000 in
theorem n_L_ofLoan {S : Mem} (p1 : Int32) (p2 : Int32) (h : ok_X11_ofLoan S p1 p2) : Chs mdL_ofLoan hhL_ofLoan 3 65 0 0 [vr 11 0, vi p1, vi p2, vr 63 0] S (Is (some (vi 0)) ((S).1, (S).2.1, (f_X11_ofLoan S p1 p2).toInt64)) := Chs.of dtL_ofLoan (by decide +kernel) rfl rfl (Nat.le_of_ble_eq_true rfl) (ls := [some (vr 11 0), some (vi p1), some (vi p2), some (vr 63 0), none]) rfl (fun O G => by
  refine a_aload_n (pc := 0) 0 0 rfl rfl ?_
  refine a_iconst (pc := 1) 0 1 (v := 0) rfl (by decide) ?_
  refine a_aload_n (pc := 2) 0 2 rfl rfl ?_
  refine a_iload_n (pc := 3) 0 3 rfl rfl ?_
  refine a_iload_n (pc := 4) 0 4 rfl rfl ?_
  refine a_callVi (pc := 5) 0 5 (c_X11_ofLoan (S := S) p1 p2 h) rfl cv_L_107 (by decide) rfl rfl rfl (rm rfl) ?_
  refine a_i2l (pc := 8) 0 6 rfl ?_
  refine a_last (pc := 9) 0 7 rfl rfl ?_
  refine a_goto (pc := 10) (tgt := 21) 0 8 rfl (by decide) ?_
  refine a_iconst (pc := 21) 0 15 (v := 0) rfl (by decide) ?_
  exact a_iret (pc := 22) 0 16 rfl rfl ⟨rfl, rfl⟩)
set_option maxRecDepth 100000 in
theorem x_L_ofLoan_1 {S : Mem} (p1 : Int32) (p2 : Int32) (h : okx_X11_ofLoan_1 S p1 p2) : Chs mdL_ofLoan hhL_ofLoan 9 146 1 6 [vr 11 0, vi p1, vi p2, vr 63 0] S (Is (some (vi 1)) S) := Chs.of dtL_ofLoan (by decide +kernel) rfl rfl (Nat.le_of_ble_eq_true rfl) (ls := [some (vr 11 0), some (vi p1), some (vi p2), some (vr 63 0), none]) rfl (fun O G => by
  refine a_aload_n (pc := 0) 0 0 rfl rfl ?_
  refine a_iconst (pc := 1) 0 1 (v := 0) rfl (by decide) ?_
  refine a_aload_n (pc := 2) 0 2 rfl rfl ?_
  refine a_iload_n (pc := 3) 0 3 rfl rfl ?_
  refine a_iload_n (pc := 4) 0 4 rfl rfl ?_
  refine a_callVX (pc := 5) 0 5 (q_X11_ofLoan_1 (S := S) p1 p2 h) rfl cv_L_107 (by decide) rfl rfl rfl (rm rfl) ?_
  refine a_catch [] (0, 10, 13, 13) [(0, 10, 17, 15)] rfl (by
    intro z hz
    cases hz) rfl (by decide) clW_L_13 castW_xIdx (fun q9 => ?_)
  refine a_astoreX (pc := 13) 0 9 (ls2 := [some (vr 11 0), some (vi p1), some (vi p2), some (vr 63 0), some (.inl (.ref q9))]) rfl (by decide) rfl ?_
  refine a_iconst (pc := 15) 0 10 (v := 1) rfl (by decide) ?_
  exact a_iret (pc := 16) 0 11 rfl rfl ⟨rfl, rfl⟩)
set_option maxRecDepth 100000 in
theorem x_L_ofLoan_2 {S : Mem} (p1 : Int32) (p2 : Int32) (h : okx_X11_ofLoan_2 S p1 p2) : Chs mdL_ofLoan hhL_ofLoan 9 147 1 6 [vr 11 0, vi p1, vi p2, vr 63 0] S (Is (some (vi (nI 2))) S) := Chs.of dtL_ofLoan (by decide +kernel) rfl rfl (Nat.le_of_ble_eq_true rfl) (ls := [some (vr 11 0), some (vi p1), some (vi p2), some (vr 63 0), none]) rfl (fun O G => by
  refine a_aload_n (pc := 0) 0 0 rfl rfl ?_
  refine a_iconst (pc := 1) 0 1 (v := 0) rfl (by decide) ?_
  refine a_aload_n (pc := 2) 0 2 rfl rfl ?_
  refine a_iload_n (pc := 3) 0 3 rfl rfl ?_
  refine a_iload_n (pc := 4) 0 4 rfl rfl ?_
  refine a_callVX (pc := 5) 0 5 (q_X11_ofLoan_2 (S := S) p1 p2 h) rfl cv_L_107 (by decide) rfl rfl rfl (rm rfl) ?_
  refine a_catch [(0, 10, 13, 13)] (0, 10, 17, 15) [] rfl (by
    intro z hz
    rcases List.mem_cons.mp hz with rfl | hz
    · exact ⟨by decide, _, clW_L_13, Or.inl ⟨rfl, rfl⟩⟩
    cases hz) rfl (by decide) clW_L_15 castW_xArg (fun q9 => ?_)
  refine a_astoreX (pc := 17) 0 12 (ls2 := [some (vr 11 0), some (vi p1), some (vi p2), some (vr 63 0), some (.inl (.ref q9))]) rfl (by decide) rfl ?_
  refine a_iconst (pc := 19) 0 13 (v := nI 2) rfl (by decide) ?_
  exact a_iret (pc := 20) 0 14 rfl rfl ⟨rfl, rfl⟩)
set_option maxRecDepth 100000 in
theorem n_L_payment {S : Mem} (p1 : Int32) (h : ok_X11_payment S p1) : Chs mdL_payment hhL_payment 2 43 0 0 [vr 11 0, vi p1, vr 63 0] S (Is (some (vi 0)) ((S).1, (S).2.1, (f_X11_payment S p1).toInt64)) := Chs.of dtL_payment (by decide +kernel) rfl rfl (Nat.le_of_ble_eq_true rfl) (ls := [some (vr 11 0), some (vi p1), some (vr 63 0), none]) rfl (fun O G => by
  refine a_aload_n (pc := 0) 0 0 rfl rfl ?_
  refine a_iconst (pc := 1) 0 1 (v := 0) rfl (by decide) ?_
  refine a_aload_n (pc := 2) 0 2 rfl rfl ?_
  refine a_iload_n (pc := 3) 0 3 rfl rfl ?_
  refine a_callVi (pc := 4) 0 4 (c_X11_payment (S := S) p1 h) rfl cv_L_110 (by decide) rfl rfl rfl (rm rfl) ?_
  refine a_i2l (pc := 7) 0 5 rfl ?_
  refine a_last (pc := 8) 0 6 rfl rfl ?_
  refine a_goto (pc := 9) (tgt := 15) 0 7 rfl (by decide) ?_
  refine a_iconst (pc := 15) 0 11 (v := 0) rfl (by decide) ?_
  exact a_iret (pc := 16) 0 12 rfl rfl ⟨rfl, rfl⟩)
set_option maxRecDepth 100000 in
theorem x_L_payment_1 {S : Mem} (p1 : Int32) (h : okx_X11_payment_1 S p1) : Chs mdL_payment hhL_payment 8 123 1 6 [vr 11 0, vi p1, vr 63 0] S (Is (some (vi 1)) S) := Chs.of dtL_payment (by decide +kernel) rfl rfl (Nat.le_of_ble_eq_true rfl) (ls := [some (vr 11 0), some (vi p1), some (vr 63 0), none]) rfl (fun O G => by
  refine a_aload_n (pc := 0) 0 0 rfl rfl ?_
  refine a_iconst (pc := 1) 0 1 (v := 0) rfl (by decide) ?_
  refine a_aload_n (pc := 2) 0 2 rfl rfl ?_
  refine a_iload_n (pc := 3) 0 3 rfl rfl ?_
  refine a_callVX (pc := 4) 0 4 (q_X11_payment_1 (S := S) p1 h) rfl cv_L_110 (by decide) rfl rfl rfl (rm rfl) ?_
  refine a_catch [] (0, 9, 12, 13) [] rfl (by
    intro z hz
    cases hz) rfl (by decide) clW_L_13 castW_xIdx (fun q9 => ?_)
  refine a_astoreXn (pc := 12) 0 8 (ls2 := [some (vr 11 0), some (vi p1), some (vr 63 0), some (.inl (.ref q9))]) rfl rfl (by decide) rfl ?_
  refine a_iconst (pc := 13) 0 9 (v := 1) rfl (by decide) ?_
  exact a_iret (pc := 14) 0 10 rfl rfl ⟨rfl, rfl⟩)
set_option maxRecDepth 100000 in
theorem n_L_price {S : Mem} (p1 : Int32) (h : ok_X11_price S p1) : Chs mdL_price hhL_price 3 61 0 0 [vr 11 0, vi p1, vr 63 0] S (Is (some (vi 0)) ((S).1, (S).2.1, (f_X11_price S p1).toInt64)) := Chs.of dtL_price (by decide +kernel) rfl rfl (Nat.le_of_ble_eq_true rfl) (ls := [some (vr 11 0), some (vi p1), some (vr 63 0), none]) rfl (fun O G => by
  refine a_aload_n (pc := 0) 0 0 rfl rfl ?_
  refine a_iconst (pc := 1) 0 1 (v := 0) rfl (by decide) ?_
  refine a_aload_n (pc := 2) 0 2 rfl rfl ?_
  refine a_iload_n (pc := 3) 0 3 rfl rfl ?_
  refine a_callVi (pc := 4) 0 4 (c_X11_price (S := S) p1 h) rfl cv_L_113 (by decide) rfl rfl rfl (rm rfl) ?_
  refine a_i2l (pc := 7) 0 5 rfl ?_
  refine a_last (pc := 8) 0 6 rfl rfl ?_
  refine a_goto (pc := 9) (tgt := 15) 0 7 rfl (by decide) ?_
  refine a_iconst (pc := 15) 0 11 (v := 0) rfl (by decide) ?_
  exact a_iret (pc := 16) 0 12 rfl rfl ⟨rfl, rfl⟩)
set_option maxRecDepth 100000 in
theorem x_L_price_1 {S : Mem} (p1 : Int32) (h : okx_X11_price_1 S p1) : Chs mdL_price hhL_price 9 143 1 6 [vr 11 0, vi p1, vr 63 0] S (Is (some (vi 1)) S) := Chs.of dtL_price (by decide +kernel) rfl rfl (Nat.le_of_ble_eq_true rfl) (ls := [some (vr 11 0), some (vi p1), some (vr 63 0), none]) rfl (fun O G => by
  refine a_aload_n (pc := 0) 0 0 rfl rfl ?_
  refine a_iconst (pc := 1) 0 1 (v := 0) rfl (by decide) ?_
  refine a_aload_n (pc := 2) 0 2 rfl rfl ?_
  refine a_iload_n (pc := 3) 0 3 rfl rfl ?_
  refine a_callVX (pc := 4) 0 4 (q_X11_price_1 (S := S) p1 h) rfl cv_L_113 (by decide) rfl rfl rfl (rm rfl) ?_
  refine a_catch [] (0, 9, 12, 13) [] rfl (by
    intro z hz
    cases hz) rfl (by decide) clW_L_13 castW_xIdx (fun q9 => ?_)
  refine a_astoreXn (pc := 12) 0 8 (ls2 := [some (vr 11 0), some (vi p1), some (vr 63 0), some (.inl (.ref q9))]) rfl rfl (by decide) rfl ?_
  refine a_iconst (pc := 13) 0 9 (v := 1) rfl (by decide) ?_
  exact a_iret (pc := 14) 0 10 rfl rfl ⟨rfl, rfl⟩)
set_option maxRecDepth 100000 in
theorem n_L_sales {S : Mem} (p1 : Int32) (p2 : Int32) (hb_p2 : p2 = 0 ∨ p2 = 1) (h : ok_X11_sales S p1 p2) : Chs mdL_sales hhL_sales 3 70 0 0 [vr 11 0, vi p1, vi p2, vr 63 0] S (Is (some (vi 0)) ((S).1, (S).2.1, (f_X11_sales S p1 p2).toInt64)) := Chs.of dtL_sales (by decide +kernel) rfl rfl (Nat.le_of_ble_eq_true rfl) (ls := [some (vr 11 0), some (vi p1), some (vi p2), some (vr 63 0), none]) rfl (fun O G => by
  refine a_aload_n (pc := 0) 0 0 rfl rfl ?_
  refine a_iconst (pc := 1) 0 1 (v := 0) rfl (by decide) ?_
  refine a_aload_n (pc := 2) 0 2 rfl rfl ?_
  refine a_iload_n (pc := 3) 0 3 rfl rfl ?_
  refine a_iload_n (pc := 4) 0 4 rfl rfl ?_
  refine a_callVi (pc := 5) 0 5 (c_X11_sales (S := S) p1 p2 hb_p2 h) rfl cv_L_116 (by decide) rfl rfl rfl (rm rfl) ?_
  refine a_i2l (pc := 8) 0 6 rfl ?_
  refine a_last (pc := 9) 0 7 rfl rfl ?_
  refine a_goto (pc := 10) (tgt := 17) 0 8 rfl (by decide) ?_
  refine a_iconst (pc := 17) 0 12 (v := 0) rfl (by decide) ?_
  exact a_iret (pc := 18) 0 13 rfl rfl ⟨rfl, rfl⟩)
set_option maxRecDepth 100000 in
theorem x_L_sales_1 {S : Mem} (p1 : Int32) (p2 : Int32) (hb_p2 : p2 = 0 ∨ p2 = 1) (h : okx_X11_sales_1 S p1 p2) : Chs mdL_sales hhL_sales 8 124 1 6 [vr 11 0, vi p1, vi p2, vr 63 0] S (Is (some (vi 1)) S) := Chs.of dtL_sales (by decide +kernel) rfl rfl (Nat.le_of_ble_eq_true rfl) (ls := [some (vr 11 0), some (vi p1), some (vi p2), some (vr 63 0), none]) rfl (fun O G => by
  refine a_aload_n (pc := 0) 0 0 rfl rfl ?_
  refine a_iconst (pc := 1) 0 1 (v := 0) rfl (by decide) ?_
  refine a_aload_n (pc := 2) 0 2 rfl rfl ?_
  refine a_iload_n (pc := 3) 0 3 rfl rfl ?_
  refine a_iload_n (pc := 4) 0 4 rfl rfl ?_
  refine a_callVX (pc := 5) 0 5 (q_X11_sales_1 (S := S) p1 p2 hb_p2 h) rfl cv_L_116 (by decide) rfl rfl rfl (rm rfl) ?_
  refine a_catch [] (0, 10, 13, 13) [] rfl (by
    intro z hz
    cases hz) rfl (by decide) clW_L_13 castW_xIdx (fun q9 => ?_)
  refine a_astoreX (pc := 13) 0 9 (ls2 := [some (vr 11 0), some (vi p1), some (vi p2), some (vr 63 0), some (.inl (.ref q9))]) rfl (by decide) rfl ?_
  refine a_iconst (pc := 15) 0 10 (v := 1) rfl (by decide) ?_
  exact a_iret (pc := 16) 0 11 rfl rfl ⟨rfl, rfl⟩)
