def f_X11_ofHolder (S : Mem) (p1 : Int32) (p2 : Int32) : Int32 := if p2 = nI 0 then (S.1 kBankOf (f_X3_holder S p1)) else (if p2 = nI 1 then (S.1 kAccounts (f_X3_holder S p1)) else (if p2 = nI 2 then (lt (f_X5_free S (f_X3_holder S p1)) (fun (v6 : Int32) => v6)) else (if p2 = nI 3 then (S.1 kNotes (f_X3_holder S p1)) else (if p2 = nI 4 then (S.1 kForged (f_X3_holder S p1)) else (if p2 = nI 5 then (S.1 kFirms (f_X3_holder S p1)) else (if p2 = nI 6 then (S.1 kWages (f_X3_holder S p1)) else (lt (if (nI 10) ≤ p1 then (0) else (S.1 kExpects (f_X3_holder S p1))) (fun (v12 : Int32) => v12))))))))
def ok_X11_ofHolder (S : Mem) (p1 : Int32) (p2 : Int32) : Prop := ((ok_X11_needHolder S p1) ∧ (ok_X11_needRange S p2 0 (nI 7)))
abbrev fdX11_ofHolder : FD := (mdX11_ofHolder, [], 2, 42, 0, 0)
set_option maxRecDepth 100000 in
set_option maxHeartbeats 4000000 in
theorem w_X11_ofHolder {O : Om} {G : Cx} {S : Mem} {PP : Option AV → Mem → Prop} (p1 : Int32) (p2 : Int32)   (h : ok_X11_ofHolder S p1 p2) (hP : ∀ x9, f_X11_ofHolder S p1 p2 = x9 → PP (some (vi x9)) S) : BW O G fdX11_ofHolder 0 0 (QV O G 0 0 PP) S 0 [some (vr 11 0), some (vi p1), some (vi p2), none] [] := by
  refine a_iload_n (pc := 0) 0 0 rfl rfl ?_
  obtain ⟨o1, h⟩ := h
  refine a_callSv (pc := 1) 0 1 (c_X11_needHolder (S := S) p1 o1) rfl cs_X11_37 rfl (rm rfl) ?_
  refine a_iload_n (pc := 4) 0 2 rfl rfl ?_
  refine a_iconst (pc := 5) 0 3 (v := 0) rfl (by decide) ?_
  refine a_bipush (pc := 6) 0 4 (v := nI 7) rfl (by decide) ?_
  have o2 := h
  refine a_callSv (pc := 8) 0 5 (c_X11_needRange (S := S) p2 0 (nI 7) o2) rfl cs_X11_41 rfl (rm rfl) ?_
  refine a_aload_n (pc := 11) 0 6 rfl rfl ?_
  refine g_11_books (pc := 12) 0 7 rfl fl_X11_10 ?_
  refine a_iload_n (pc := 15) 0 8 rfl rfl ?_
  refine a_callVr (pc := 16) 0 9 (c_X3_holder (S := S) p1) rfl cv_X11_45 (by decide) rfl rfl rfl (rm rfl) ?_
  refine a_astore_n (pc := 19) 0 10 (ls2 := [some (vr 11 0), some (vi p1), some (vi p2), some (vr 5 (f_X3_holder S p1))]) rfl rfl (by decide) rfl ?_
  refine a_iload_n (pc := 20) 0 11 rfl rfl ?_
  by_cases c21_2 : p2 = nI 0
  · refine a_tabIn (pc := 21) (tgt := 64) (off := 43) 0 12 rfl (by rw [c21_2]; decide) (by rw [c21_2]; decide) (by rw [c21_2]; rfl) (by decide) ?_
    refine a_aload_n (pc := 64) 0 13 rfl rfl ?_
    refine g_5_bank (pc := 65) 0 14 rfl (show f_X3_holder S p1 < 17 from r_X3_holder) fl_X11_76 ?_
    exact a_iret (pc := 68) 0 15 rfl rfl (hP _ (by unfold f_X11_ofHolder; exact if_pos c21_2))
  · by_cases c21_3 : p2 = nI 1
    · refine a_tabIn (pc := 21) (tgt := 69) (off := 48) 0 12 rfl (by rw [c21_3]; decide) (by rw [c21_3]; decide) (by rw [c21_3]; rfl) (by decide) ?_
      refine a_aload_n (pc := 69) 0 16 rfl rfl ?_
      refine g_5_balance (pc := 70) 0 17 rfl (show f_X3_holder S p1 < 17 from r_X3_holder) fl_X11_91 ?_
      exact a_iret (pc := 73) 0 18 rfl rfl (hP _ (by unfold f_X11_ofHolder; exact (if_neg c21_2).trans (if_pos c21_3)))
    · by_cases c21_4 : p2 = nI 2
      · refine a_tabIn (pc := 21) (tgt := 74) (off := 53) 0 12 rfl (by rw [c21_4]; decide) (by rw [c21_4]; decide) (by rw [c21_4]; rfl) (by decide) ?_
        refine a_aload_n (pc := 74) 0 19 rfl rfl ?_
        refine a_callVi (pc := 75) 0 20 (c_X5_free (S := S) (f_X3_holder S p1) (show f_X3_holder S p1 < 17 from r_X3_holder)) rfl cv_X11_104 (show f_X3_holder S p1 < 17 from r_X3_holder) rfl rfl rfl (rm rfl) ?_
        refine a_seti (fun v6 ev6 => ?_)
        exact a_iret (pc := 78) 0 21 rfl rfl (hP _ (by unfold f_X11_ofHolder; exact (if_neg c21_2).trans ((if_neg c21_3).trans ((if_pos c21_4).trans (lt_eq ev6)))))
      · by_cases c21_6 : p2 = nI 3
        · refine a_tabIn (pc := 21) (tgt := 79) (off := 58) 0 12 rfl (by rw [c21_6]; decide) (by rw [c21_6]; decide) (by rw [c21_6]; rfl) (by decide) ?_
          refine a_aload_n (pc := 79) 0 22 rfl rfl ?_
          refine g_5_notes (pc := 80) 0 23 rfl (show f_X3_holder S p1 < 17 from r_X3_holder) fl_X11_58 ?_
          exact a_iret (pc := 83) 0 24 rfl rfl (hP _ (by unfold f_X11_ofHolder; exact (if_neg c21_2).trans ((if_neg c21_3).trans ((if_neg c21_4).trans (if_pos c21_6)))))
        · by_cases c21_7 : p2 = nI 4
          · refine a_tabIn (pc := 21) (tgt := 84) (off := 63) 0 12 rfl (by rw [c21_7]; decide) (by rw [c21_7]; decide) (by rw [c21_7]; rfl) (by decide) ?_
            refine a_aload_n (pc := 84) 0 25 rfl rfl ?_
            refine g_5_forged (pc := 85) 0 26 rfl (show f_X3_holder S p1 < 17 from r_X3_holder) fl_X11_256 ?_
            exact a_iret (pc := 88) 0 27 rfl rfl (hP _ (by unfold f_X11_ofHolder; exact (if_neg c21_2).trans ((if_neg c21_3).trans ((if_neg c21_4).trans ((if_neg c21_6).trans (if_pos c21_7))))))
          · by_cases c21_8 : p2 = nI 5
            · refine a_tabIn (pc := 21) (tgt := 89) (off := 68) 0 12 rfl (by rw [c21_8]; decide) (by rw [c21_8]; decide) (by rw [c21_8]; rfl) (by decide) ?_
              refine a_aload_n (pc := 89) 0 28 rfl rfl ?_
              refine g_5_firm (pc := 90) 0 29 rfl (show f_X3_holder S p1 < 17 from r_X3_holder) fl_X11_241 ?_
              exact a_iret (pc := 93) 0 30 rfl rfl (hP _ (by unfold f_X11_ofHolder; exact (if_neg c21_2).trans ((if_neg c21_3).trans ((if_neg c21_4).trans ((if_neg c21_6).trans ((if_neg c21_7).trans (if_pos c21_8)))))))
            · by_cases c21_9 : p2 = nI 6
              · refine a_tabIn (pc := 21) (tgt := 94) (off := 73) 0 12 rfl (by rw [c21_9]; decide) (by rw [c21_9]; decide) (by rw [c21_9]; rfl) (by decide) ?_
                refine a_aload_n (pc := 94) 0 31 rfl rfl ?_
                refine g_5_wage (pc := 95) 0 32 rfl (show f_X3_holder S p1 < 17 from r_X3_holder) fl_X11_238 ?_
                exact a_iret (pc := 98) 0 33 rfl rfl (hP _ (by unfold f_X11_ofHolder; exact (if_neg c21_2).trans ((if_neg c21_3).trans ((if_neg c21_4).trans ((if_neg c21_6).trans ((if_neg c21_7).trans ((if_neg c21_8).trans (if_pos c21_9))))))))
              · refine a_tabOut (pc := 21) (tgt := 99) 0 12 rfl (by have := ne_toInt c21_2 (by decide); have := ne_toInt c21_3 (by decide); have := ne_toInt c21_4 (by decide); have := ne_toInt c21_6 (by decide); have := ne_toInt c21_7 (by decide); have := ne_toInt c21_8 (by decide); have := ne_toInt c21_9 (by decide); omega) (by decide) ?_
                refine a_iload_n (pc := 99) 0 34 rfl rfl ?_
                refine a_bipush (pc := 100) 0 35 (v := nI 10) rfl (by decide) ?_
                have J113_12 : ∀ (v12 : Int32) (ev12 : (if (nI 10) ≤ p1 then (0) else (S.1 kExpects (f_X3_holder S p1))) = v12), BW O G fdX11_ofHolder 0 0 (QV O G 0 0 PP) S 113 [some (vr 11 0), some (vi p1), some (vi p2), some (vr 5 (f_X3_holder S p1))] [vi v12] := by
                  intro v12 ev12
                  exact a_iret (pc := 113) 0 41 rfl rfl (hP _ (by unfold f_X11_ofHolder; exact (if_neg c21_2).trans ((if_neg c21_3).trans ((if_neg c21_4).trans ((if_neg c21_6).trans ((if_neg c21_7).trans ((if_neg c21_8).trans ((if_neg c21_9).trans (lt_eq ev12)))))))))
                refine a_icmp_ge (pc := 102) (tgt := 112) 0 36 rfl (by decide) (fun c102_10 => ?_) (fun c102_10 => ?_)
                · refine a_iconst (pc := 112) 0 40 (v := 0) rfl (by decide) ?_
                  exact J113_12 _ (by exact (if_pos c102_10))
                · refine a_aload_n (pc := 105) 0 37 rfl rfl ?_
                  refine g_5_expects (pc := 106) 0 38 rfl (show f_X3_holder S p1 < 17 from r_X3_holder) fl_X11_259 ?_
                  refine a_goto (pc := 109) (tgt := 113) 0 39 rfl (by decide) ?_
                  exact J113_12 _ (by exact (if_neg c102_10))
theorem c_X11_ofHolder {S : Mem} (p1 : Int32) (p2 : Int32)   (h : ok_X11_ofHolder S p1 p2) : Cts mdX11_ofHolder 2 42 [vr 11 0, vi p1, vi p2] S (Is (some (vi (f_X11_ofHolder S p1 p2))) (S)) := Cts.of dtX11_ofHolder (by decide +kernel) rfl rfl (Nat.le_of_ble_eq_true rfl) rfl (fun O G => w_X11_ofHolder p1 p2 h (fun _ h9 => ⟨by rw [h9], rfl⟩))
def okx_X11_ofHolder_1 (S : Mem) (p1 : Int32) (p2 : Int32) : Prop := ((okx_X11_needHolder_1 S p1))
abbrev fqX11_ofHolder_1 : FD := (mdX11_ofHolder, [], 8, 122, 1, 6)
set_option maxRecDepth 100000 in
set_option maxHeartbeats 4000000 in
theorem q_X11_ofHolder_1 {S : Mem} (p1 : Int32) (p2 : Int32)  (h : okx_X11_ofHolder_1 S p1 p2) : Cqs mdX11_ofHolder 8 122 [vr 11 0, vi p1, vi p2] S xIdx := Cqs.of dtX11_ofHolder (by decide +kernel) rfl rfl (Nat.le_of_ble_eq_true rfl) rfl (fun O G => by
  show BW O G fqX11_ofHolder_1 0 0 _ S 0 _ []
  refine a_iload_n (pc := 0) 0 0 rfl rfl ?_
  have o1 := h
  refine a_callSX (pc := 1) 0 1 (q_X11_needHolder_1 (S := S) p1 o1) rfl cs_X11_37 rfl (rm rfl) ?_
  exact a_out rfl (by decide) (by decide))
def okx_X11_ofHolder_2 (S : Mem) (p1 : Int32) (p2 : Int32) : Prop := ((ok_X11_needHolder S p1) ∧ (okx_X11_needRange_1 S p2 0 (nI 7)))
abbrev fqX11_ofHolder_2 : FD := (mdX11_ofHolder, [], 8, 124, 1, 6)
set_option maxRecDepth 100000 in
set_option maxHeartbeats 4000000 in
theorem q_X11_ofHolder_2 {S : Mem} (p1 : Int32) (p2 : Int32)  (h : okx_X11_ofHolder_2 S p1 p2) : Cqs mdX11_ofHolder 8 124 [vr 11 0, vi p1, vi p2] S xArg := Cqs.of dtX11_ofHolder (by decide +kernel) rfl rfl (Nat.le_of_ble_eq_true rfl) rfl (fun O G => by
  show BW O G fqX11_ofHolder_2 0 0 _ S 0 _ []
  refine a_iload_n (pc := 0) 0 0 rfl rfl ?_
  obtain ⟨o1, h⟩ := h
  refine a_callSv (pc := 1) 0 1 (c_X11_needHolder (S := S) p1 o1) rfl cs_X11_37 rfl (rm rfl) ?_
  refine a_iload_n (pc := 4) 0 2 rfl rfl ?_
  refine a_iconst (pc := 5) 0 3 (v := 0) rfl (by decide) ?_
  refine a_bipush (pc := 6) 0 4 (v := nI 7) rfl (by decide) ?_
  have o2 := h
  refine a_callSX (pc := 8) 0 5 (q_X11_needRange_1 (S := S) p2 0 (nI 7) o2) rfl cs_X11_41 rfl (rm rfl) ?_
  exact a_out rfl (by decide) (by decide))
def f_X11_ofBank (S : Mem) (p1 : Int32) (p2 : Int32) : Int32 := if p2 = nI 0 then (S.1 kReserves (f_X3_bank S p1)) else (if p2 = nI 1 then (S.1 kVaults (f_X3_bank S p1)) else (if p2 = nI 2 then (lt (f_X2_of S p1) (fun (v7 : Int32) => v7)) else (if p2 = nI 3 then (lt (f_X7_leftOf S p1) (fun (v10 : Int32) => v10)) else (if p2 = nI 4 then (lt (f_X3_inAccountsAt S p1) (fun (v12 : Int32) => v12)) else (if p2 = nI 5 then (S.1 kLent (f_X3_bank S p1)) else (if p2 = nI 6 then (lt (f_X11_capitalOf S p1) (fun (v16 : Int32) => v16)) else (if p2 = nI 7 then (lt (f_X10_waitingNet S p1) (fun (v19 : Int32) => v19)) else (if p2 = nI 8 then (lt (if (S.1 kAreShort (f_X3_bank S p1)) = 0 then (0) else (1)) (fun (v22 : Int32) => v22)) else (lt (if (S.1 kHaveFailed (f_X3_bank S p1)) = 0 then (0) else (1)) (fun (v24 : Int32) => v24))))))))))
def ok_X11_ofBank (S : Mem) (p1 : Int32) (p2 : Int32) : Prop := ((ok_X11_needBank S p1) ∧ (ok_X11_needRange S p2 0 (nI 9)) ∧ ((¬ (p2 = nI 0)) → (((¬ (p2 = nI 1)) → (((p2 = nI 2) → ((ok_X2_of S p1))) ∧ ((¬ (p2 = nI 2)) → (((p2 = nI 3) → ((ok_X7_leftOf S p1))) ∧ ((¬ (p2 = nI 3)) → (((¬ (p2 = nI 4)) → (((¬ (p2 = nI 5)) → (((p2 = nI 6) → ((ok_X11_capitalOf S p1))) ∧ ((¬ (p2 = nI 6)) → (((p2 = nI 7) → ((ok_X10_waitingNet S p1))))))))))))))))))
abbrev fdX11_ofBank : FD := (mdX11_ofBank, [], 3, 69, 0, 0)
set_option maxRecDepth 100000 in
set_option maxHeartbeats 4000000 in
theorem w_X11_ofBank {O : Om} {G : Cx} {S : Mem} {PP : Option AV → Mem → Prop} (p1 : Int32) (p2 : Int32)   (h : ok_X11_ofBank S p1 p2) (hP : ∀ x9, f_X11_ofBank S p1 p2 = x9 → PP (some (vi x9)) S) : BW O G fdX11_ofBank 0 0 (QV O G 0 0 PP) S 0 [some (vr 11 0), some (vi p1), some (vi p2), none] [] := by
  refine a_iload_n (pc := 0) 0 0 rfl rfl ?_
  obtain ⟨o1, h⟩ := h
  refine a_callSv (pc := 1) 0 1 (c_X11_needBank (S := S) p1 o1) rfl cs_X11_73 rfl (rm rfl) ?_
  refine a_iload_n (pc := 4) 0 2 rfl rfl ?_
  refine a_iconst (pc := 5) 0 3 (v := 0) rfl (by decide) ?_
  refine a_bipush (pc := 6) 0 4 (v := nI 9) rfl (by decide) ?_
  obtain ⟨o2, h⟩ := h
  refine a_callSv (pc := 8) 0 5 (c_X11_needRange (S := S) p2 0 (nI 9) o2) rfl cs_X11_41 rfl (rm rfl) ?_
  refine a_aload_n (pc := 11) 0 6 rfl rfl ?_
  refine g_11_books (pc := 12) 0 7 rfl fl_X11_10 ?_
  refine a_iload_n (pc := 15) 0 8 rfl rfl ?_
  refine a_callVr (pc := 16) 0 9 (c_X3_bank (S := S) p1) rfl cv_X11_79 (by decide) rfl rfl rfl (rm rfl) ?_
  refine a_astore_n (pc := 19) 0 10 (ls2 := [some (vr 11 0), some (vi p1), some (vi p2), some (vr 0 (f_X3_bank S p1))]) rfl rfl (by decide) rfl ?_
  refine a_iload_n (pc := 20) 0 11 rfl rfl ?_
  by_cases c21_2 : p2 = nI 0
  · refine a_tabIn (pc := 21) (tgt := 72) (off := 51) 0 12 rfl (by rw [c21_2]; decide) (by rw [c21_2]; decide) (by rw [c21_2]; rfl) (by decide) ?_
    refine a_aload_n (pc := 72) 0 13 rfl rfl ?_
    refine g_0_reserves (pc := 73) 0 14 rfl (show f_X3_bank S p1 < 5 from r_X3_bank) fl_X11_133 ?_
    exact a_iret (pc := 76) 0 15 rfl rfl (hP _ (by unfold f_X11_ofBank; exact if_pos c21_2))
  · have h := h c21_2
    by_cases c21_3 : p2 = nI 1
    · refine a_tabIn (pc := 21) (tgt := 77) (off := 56) 0 12 rfl (by rw [c21_3]; decide) (by rw [c21_3]; decide) (by rw [c21_3]; rfl) (by decide) ?_
      refine a_aload_n (pc := 77) 0 16 rfl rfl ?_
      refine g_0_vault (pc := 78) 0 17 rfl (show f_X3_bank S p1 < 5 from r_X3_bank) fl_X11_98 ?_
      exact a_iret (pc := 81) 0 18 rfl rfl (hP _ (by unfold f_X11_ofBank; exact (if_neg c21_2).trans (if_pos c21_3)))
    · have h := h c21_3
      by_cases c21_4 : p2 = nI 2
      · have h := h.1 c21_4
        refine a_tabIn (pc := 21) (tgt := 82) (off := 61) 0 12 rfl (by rw [c21_4]; decide) (by rw [c21_4]; decide) (by rw [c21_4]; rfl) (by decide) ?_
        refine a_aload_n (pc := 82) 0 19 rfl rfl ?_
        refine g_11_bonds (pc := 83) 0 20 rfl fl_X11_33 ?_
        refine a_iload_n (pc := 86) 0 21 rfl rfl ?_
        have o6 := h
        refine a_callVi (pc := 87) 0 22 (c_X2_of (S := S) p1 o6) rfl cv_X11_198 (by decide) rfl rfl rfl (rm rfl) ?_
        refine a_seti (fun v7 ev7 => ?_)
        exact a_iret (pc := 90) 0 23 rfl rfl (hP _ (by unfold f_X11_ofBank; exact (if_neg c21_2).trans ((if_neg c21_3).trans ((if_pos c21_4).trans (lt_eq ev7)))))
      · have h := h.2 c21_4
        by_cases c21_7 : p2 = nI 3
        · have h := h.1 c21_7
          refine a_tabIn (pc := 21) (tgt := 91) (off := 70) 0 12 rfl (by rw [c21_7]; decide) (by rw [c21_7]; decide) (by rw [c21_7]; rfl) (by decide) ?_
          refine a_aload_n (pc := 91) 0 24 rfl rfl ?_
          refine g_11_loans (pc := 92) 0 25 rfl fl_X11_26 ?_
          refine a_iload_n (pc := 95) 0 26 rfl rfl ?_
          have o9 := h
          refine a_callVi (pc := 96) 0 27 (c_X7_leftOf (S := S) p1 o9) rfl cv_X11_140 (by decide) rfl rfl rfl (rm rfl) ?_
          refine a_seti (fun v10 ev10 => ?_)
          exact a_iret (pc := 99) 0 28 rfl rfl (hP _ (by unfold f_X11_ofBank; exact (if_neg c21_2).trans ((if_neg c21_3).trans ((if_neg c21_4).trans ((if_pos c21_7).trans (lt_eq ev10))))))
        · have h := h.2 c21_7
          by_cases c21_10 : p2 = nI 4
          · refine a_tabIn (pc := 21) (tgt := 100) (off := 79) 0 12 rfl (by rw [c21_10]; decide) (by rw [c21_10]; decide) (by rw [c21_10]; rfl) (by decide) ?_
            refine a_aload_n (pc := 100) 0 29 rfl rfl ?_
            refine g_11_books (pc := 101) 0 30 rfl fl_X11_10 ?_
            refine a_iload_n (pc := 104) 0 31 rfl rfl ?_
            refine a_callVi (pc := 105) 0 32 (c_X3_inAccountsAt (S := S) p1) rfl cv_X11_271 (by decide) rfl rfl rfl (rm rfl) ?_
            refine a_seti (fun v12 ev12 => ?_)
            exact a_iret (pc := 108) 0 33 rfl rfl (hP _ (by unfold f_X11_ofBank; exact (if_neg c21_2).trans ((if_neg c21_3).trans ((if_neg c21_4).trans ((if_neg c21_7).trans ((if_pos c21_10).trans (lt_eq ev12)))))))
          · have h := h c21_10
            by_cases c21_12 : p2 = nI 5
            · refine a_tabIn (pc := 21) (tgt := 109) (off := 88) 0 12 rfl (by rw [c21_12]; decide) (by rw [c21_12]; decide) (by rw [c21_12]; rfl) (by decide) ?_
              refine a_aload_n (pc := 109) 0 34 rfl rfl ?_
              refine g_0_lent (pc := 110) 0 35 rfl (show f_X3_bank S p1 < 5 from r_X3_bank) fl_X11_189 ?_
              exact a_iret (pc := 113) 0 36 rfl rfl (hP _ (by unfold f_X11_ofBank; exact (if_neg c21_2).trans ((if_neg c21_3).trans ((if_neg c21_4).trans ((if_neg c21_7).trans ((if_neg c21_10).trans (if_pos c21_12)))))))
            · have h := h c21_12
              by_cases c21_13 : p2 = nI 6
              · have h := h.1 c21_13
                refine a_tabIn (pc := 21) (tgt := 114) (off := 93) 0 12 rfl (by rw [c21_13]; decide) (by rw [c21_13]; decide) (by rw [c21_13]; rfl) (by decide) ?_
                refine a_aload_n (pc := 114) 0 37 rfl rfl ?_
                refine a_iload_n (pc := 115) 0 38 rfl rfl ?_
                have o15 := h
                refine a_callVi (pc := 116) 0 39 (c_X11_capitalOf (S := S) p1 o15) rfl cv_X11_143 (by decide) rfl rfl rfl (rm rfl) ?_
                refine a_seti (fun v16 ev16 => ?_)
                exact a_iret (pc := 119) 0 40 rfl rfl (hP _ (by unfold f_X11_ofBank; exact (if_neg c21_2).trans ((if_neg c21_3).trans ((if_neg c21_4).trans ((if_neg c21_7).trans ((if_neg c21_10).trans ((if_neg c21_12).trans ((if_pos c21_13).trans (lt_eq ev16)))))))))
              · have h := h.2 c21_13
                by_cases c21_16 : p2 = nI 7
                · have h := h c21_16
                  refine a_tabIn (pc := 21) (tgt := 120) (off := 99) 0 12 rfl (by rw [c21_16]; decide) (by rw [c21_16]; decide) (by rw [c21_16]; rfl) (by decide) ?_
                  refine a_aload_n (pc := 120) 0 41 rfl rfl ?_
                  refine g_11_payments (pc := 121) 0 42 rfl fl_X11_19 ?_
                  refine a_iload_n (pc := 124) 0 43 rfl rfl ?_
                  have o18 := h
                  refine a_callVi (pc := 125) 0 44 (c_X10_waitingNet (S := S) p1 o18) rfl cv_X11_274 (by decide) rfl rfl rfl (rm rfl) ?_
                  refine a_seti (fun v19 ev19 => ?_)
                  exact a_iret (pc := 128) 0 45 rfl rfl (hP _ (by unfold f_X11_ofBank; exact (if_neg c21_2).trans ((if_neg c21_3).trans ((if_neg c21_4).trans ((if_neg c21_7).trans ((if_neg c21_10).trans ((if_neg c21_12).trans ((if_neg c21_13).trans ((if_pos c21_16).trans (lt_eq ev19))))))))))
                · by_cases c21_19 : p2 = nI 8
                  · refine a_tabIn (pc := 21) (tgt := 129) (off := 108) 0 12 rfl (by rw [c21_19]; decide) (by rw [c21_19]; decide) (by rw [c21_19]; rfl) (by decide) ?_
                    refine a_aload_n (pc := 129) 0 46 rfl rfl ?_
                    refine g_0_isShort (pc := 130) 0 47 rfl (show f_X3_bank S p1 < 5 from r_X3_bank) fl_X11_277 ?_
                    have J141_24 : ∀ (v22 : Int32) (ev22 : (if (S.1 kAreShort (f_X3_bank S p1)) = 0 then (0) else (1)) = v22), BW O G fdX11_ofBank 0 0 (QV O G 0 0 PP) S 141 [some (vr 11 0), some (vi p1), some (vi p2), some (vr 0 (f_X3_bank S p1))] [vi v22] := by
                      intro v22 ev22
                      exact a_iret (pc := 141) 1 4 rfl rfl (hP _ (by unfold f_X11_ofBank; exact (if_neg c21_2).trans ((if_neg c21_3).trans ((if_neg c21_4).trans ((if_neg c21_7).trans ((if_neg c21_10).trans ((if_neg c21_12).trans ((if_neg c21_13).trans ((if_neg c21_16).trans ((if_pos c21_19).trans (lt_eq ev22)))))))))))
                    refine a_if_eq (pc := 133) (tgt := 140) 1 0 rfl (by decide) (fun c133_20 => ?_) (fun c133_20 => ?_)
                    · refine a_iconst (pc := 140) 1 3 (v := 0) rfl (by decide) ?_
                      exact J141_24 _ (by exact (if_pos c133_20))
                    · refine a_iconst (pc := 136) 1 1 (v := 1) rfl (by decide) ?_
                      refine a_goto (pc := 137) (tgt := 141) 1 2 rfl (by decide) ?_
                      exact J141_24 _ (by exact (if_neg c133_20))
                  · refine a_tabOut (pc := 21) (tgt := 142) 0 12 rfl (by have := ne_toInt c21_2 (by decide); have := ne_toInt c21_3 (by decide); have := ne_toInt c21_4 (by decide); have := ne_toInt c21_7 (by decide); have := ne_toInt c21_10 (by decide); have := ne_toInt c21_12 (by decide); have := ne_toInt c21_13 (by decide); have := ne_toInt c21_16 (by decide); have := ne_toInt c21_19 (by decide); omega) (by decide) ?_
                    refine a_aload_n (pc := 142) 1 5 rfl rfl ?_
                    refine g_0_hasFailed (pc := 143) 1 6 rfl (show f_X3_bank S p1 < 5 from r_X3_bank) fl_X11_82 ?_
                    have J154_25 : ∀ (v24 : Int32) (ev24 : (if (S.1 kHaveFailed (f_X3_bank S p1)) = 0 then (0) else (1)) = v24), BW O G fdX11_ofBank 0 0 (QV O G 0 0 PP) S 154 [some (vr 11 0), some (vi p1), some (vi p2), some (vr 0 (f_X3_bank S p1))] [vi v24] := by
                      intro v24 ev24
                      exact a_iret (pc := 154) 1 11 rfl rfl (hP _ (by unfold f_X11_ofBank; exact (if_neg c21_2).trans ((if_neg c21_3).trans ((if_neg c21_4).trans ((if_neg c21_7).trans ((if_neg c21_10).trans ((if_neg c21_12).trans ((if_neg c21_13).trans ((if_neg c21_16).trans ((if_neg c21_19).trans (lt_eq ev24)))))))))))
                    refine a_if_eq (pc := 146) (tgt := 153) 1 7 rfl (by decide) (fun c146_22 => ?_) (fun c146_22 => ?_)
                    · refine a_iconst (pc := 153) 1 10 (v := 0) rfl (by decide) ?_
                      exact J154_25 _ (by exact (if_pos c146_22))
                    · refine a_iconst (pc := 149) 1 8 (v := 1) rfl (by decide) ?_
                      refine a_goto (pc := 150) (tgt := 154) 1 9 rfl (by decide) ?_
                      exact J154_25 _ (by exact (if_neg c146_22))
theorem c_X11_ofBank {S : Mem} (p1 : Int32) (p2 : Int32)   (h : ok_X11_ofBank S p1 p2) : Cts mdX11_ofBank 3 69 [vr 11 0, vi p1, vi p2] S (Is (some (vi (f_X11_ofBank S p1 p2))) (S)) := Cts.of dtX11_ofBank (by decide +kernel) rfl rfl (Nat.le_of_ble_eq_true rfl) rfl (fun O G => w_X11_ofBank p1 p2 h (fun _ h9 => ⟨by rw [h9], rfl⟩))
def okx_X11_ofBank_1 (S : Mem) (p1 : Int32) (p2 : Int32) : Prop := ((okx_X11_needBank_1 S p1))
abbrev fqX11_ofBank_1 : FD := (mdX11_ofBank, [], 8, 122, 1, 6)
set_option maxRecDepth 100000 in
set_option maxHeartbeats 4000000 in
theorem q_X11_ofBank_1 {S : Mem} (p1 : Int32) (p2 : Int32)  (h : okx_X11_ofBank_1 S p1 p2) : Cqs mdX11_ofBank 8 122 [vr 11 0, vi p1, vi p2] S xIdx := Cqs.of dtX11_ofBank (by decide +kernel) rfl rfl (Nat.le_of_ble_eq_true rfl) rfl (fun O G => by
  show BW O G fqX11_ofBank_1 0 0 _ S 0 _ []
  refine a_iload_n (pc := 0) 0 0 rfl rfl ?_
  have o1 := h
  refine a_callSX (pc := 1) 0 1 (q_X11_needBank_1 (S := S) p1 o1) rfl cs_X11_73 rfl (rm rfl) ?_
  exact a_out rfl (by decide) (by decide))
def okx_X11_ofBank_2 (S : Mem) (p1 : Int32) (p2 : Int32) : Prop := ((ok_X11_needBank S p1) ∧ (okx_X11_needRange_1 S p2 0 (nI 9)))
abbrev fqX11_ofBank_2 : FD := (mdX11_ofBank, [], 8, 124, 1, 6)
set_option maxRecDepth 100000 in
set_option maxHeartbeats 4000000 in
theorem q_X11_ofBank_2 {S : Mem} (p1 : Int32) (p2 : Int32)  (h : okx_X11_ofBank_2 S p1 p2) : Cqs mdX11_ofBank 8 124 [vr 11 0, vi p1, vi p2] S xArg := Cqs.of dtX11_ofBank (by decide +kernel) rfl rfl (Nat.le_of_ble_eq_true rfl) rfl (fun O G => by
  show BW O G fqX11_ofBank_2 0 0 _ S 0 _ []
  refine a_iload_n (pc := 0) 0 0 rfl rfl ?_
  obtain ⟨o1, h⟩ := h
  refine a_callSv (pc := 1) 0 1 (c_X11_needBank (S := S) p1 o1) rfl cs_X11_73 rfl (rm rfl) ?_
  refine a_iload_n (pc := 4) 0 2 rfl rfl ?_
  refine a_iconst (pc := 5) 0 3 (v := 0) rfl (by decide) ?_
  refine a_bipush (pc := 6) 0 4 (v := nI 9) rfl (by decide) ?_
  have o2 := h
  refine a_callSX (pc := 8) 0 5 (q_X11_needRange_1 (S := S) p2 0 (nI 9) o2) rfl cs_X11_41 rfl (rm rfl) ?_
  exact a_out rfl (by decide) (by decide))
def f_X11_ofLoan (S : Mem) (p1 : Int32) (p2 : Int32) : Int32 := if p2 = nI 0 then (S.1 kLoanHolders (f_X7_at S p1)) else (if p2 = nI 1 then (S.1 kLoanBanks (f_X7_at S p1)) else (if p2 = nI 2 then (S.1 kLoanLefts (f_X7_at S p1)) else (S.1 kOverdue (f_X7_at S p1))))
def ok_X11_ofLoan (S : Mem) (p1 : Int32) (p2 : Int32) : Prop := ((ok_X11_needLoan S p1) ∧ (ok_X11_needRange S p2 0 (nI 3)))
abbrev fdX11_ofLoan : FD := (mdX11_ofLoan, [], 2, 42, 0, 0)
set_option maxRecDepth 100000 in
set_option maxHeartbeats 4000000 in
theorem w_X11_ofLoan {O : Om} {G : Cx} {S : Mem} {PP : Option AV → Mem → Prop} (p1 : Int32) (p2 : Int32)   (h : ok_X11_ofLoan S p1 p2) (hP : ∀ x9, f_X11_ofLoan S p1 p2 = x9 → PP (some (vi x9)) S) : BW O G fdX11_ofLoan 0 0 (QV O G 0 0 PP) S 0 [some (vr 11 0), some (vi p1), some (vi p2), none] [] := by
  refine a_aload_n (pc := 0) 0 0 rfl rfl ?_
  refine a_iload_n (pc := 1) 0 1 rfl rfl ?_
  obtain ⟨o1, h⟩ := h
  refine a_callVv (pc := 2) 0 2 (c_X11_needLoan (S := S) p1 o1) rfl cv_X11_163 (by decide) rfl rfl rfl (rm rfl) ?_
  refine a_iload_n (pc := 5) 0 3 rfl rfl ?_
  refine a_iconst (pc := 6) 0 4 (v := 0) rfl (by decide) ?_
  refine a_iconst (pc := 7) 0 5 (v := nI 3) rfl (by decide) ?_
  have o2 := h
  refine a_callSv (pc := 8) 0 6 (c_X11_needRange (S := S) p2 0 (nI 3) o2) rfl cs_X11_41 rfl (rm rfl) ?_
  refine a_aload_n (pc := 11) 0 7 rfl rfl ?_
  refine g_11_loans (pc := 12) 0 8 rfl fl_X11_26 ?_
  refine a_iload_n (pc := 15) 0 9 rfl rfl ?_
  refine a_callVr (pc := 16) 0 10 (c_X7_at (S := S) p1) rfl cv_X11_166 (by decide) rfl rfl rfl (rm rfl) ?_
  refine a_astore_n (pc := 19) 0 11 (ls2 := [some (vr 11 0), some (vi p1), some (vi p2), some (vr 6 (f_X7_at S p1))]) rfl rfl (by decide) rfl ?_
  refine a_iload_n (pc := 20) 0 12 rfl rfl ?_
  by_cases c21_2 : p2 = nI 0
  · refine a_tabIn (pc := 21) (tgt := 48) (off := 27) 0 13 rfl (by rw [c21_2]; decide) (by rw [c21_2]; decide) (by rw [c21_2]; rfl) (by decide) ?_
    refine a_aload_n (pc := 48) 0 14 rfl rfl ?_
    refine g_6_holder (pc := 49) 0 15 rfl (show f_X7_at S p1 < 21 from r_X7_at) fl_X11_280 ?_
    exact a_iret (pc := 52) 0 16 rfl rfl (hP _ (by unfold f_X11_ofLoan; exact if_pos c21_2))
  · by_cases c21_3 : p2 = nI 1
    · refine a_tabIn (pc := 21) (tgt := 53) (off := 32) 0 13 rfl (by rw [c21_3]; decide) (by rw [c21_3]; decide) (by rw [c21_3]; rfl) (by decide) ?_
      refine a_aload_n (pc := 53) 0 17 rfl rfl ?_
      refine g_6_owner (pc := 54) 0 18 rfl (show f_X7_at S p1 < 21 from r_X7_at) fl_X11_282 ?_
      exact a_iret (pc := 57) 0 19 rfl rfl (hP _ (by unfold f_X11_ofLoan; exact (if_neg c21_2).trans (if_pos c21_3)))
    · by_cases c21_4 : p2 = nI 2
      · refine a_tabIn (pc := 21) (tgt := 58) (off := 37) 0 13 rfl (by rw [c21_4]; decide) (by rw [c21_4]; decide) (by rw [c21_4]; rfl) (by decide) ?_
        refine a_aload_n (pc := 58) 0 20 rfl rfl ?_
        refine g_6_left (pc := 59) 0 21 rfl (show f_X7_at S p1 < 21 from r_X7_at) fl_X11_170 ?_
        exact a_iret (pc := 62) 0 22 rfl rfl (hP _ (by unfold f_X11_ofLoan; exact (if_neg c21_2).trans ((if_neg c21_3).trans (if_pos c21_4))))
      · refine a_tabOut (pc := 21) (tgt := 63) 0 13 rfl (by have := ne_toInt c21_2 (by decide); have := ne_toInt c21_3 (by decide); have := ne_toInt c21_4 (by decide); omega) (by decide) ?_
        refine a_aload_n (pc := 63) 0 23 rfl rfl ?_
        refine g_6_overdue (pc := 64) 0 24 rfl (show f_X7_at S p1 < 21 from r_X7_at) fl_X11_285 ?_
        exact a_iret (pc := 67) 0 25 rfl rfl (hP _ (by unfold f_X11_ofLoan; exact (if_neg c21_2).trans ((if_neg c21_3).trans (if_neg c21_4))))
theorem c_X11_ofLoan {S : Mem} (p1 : Int32) (p2 : Int32)   (h : ok_X11_ofLoan S p1 p2) : Cts mdX11_ofLoan 2 42 [vr 11 0, vi p1, vi p2] S (Is (some (vi (f_X11_ofLoan S p1 p2))) (S)) := Cts.of dtX11_ofLoan (by decide +kernel) rfl rfl (Nat.le_of_ble_eq_true rfl) rfl (fun O G => w_X11_ofLoan p1 p2 h (fun _ h9 => ⟨by rw [h9], rfl⟩))
def okx_X11_ofLoan_1 (S : Mem) (p1 : Int32) (p2 : Int32) : Prop := ((okx_X11_needLoan_1 S p1))
abbrev fqX11_ofLoan_1 : FD := (mdX11_ofLoan, [], 8, 123, 1, 6)
set_option maxRecDepth 100000 in
set_option maxHeartbeats 4000000 in
theorem q_X11_ofLoan_1 {S : Mem} (p1 : Int32) (p2 : Int32)  (h : okx_X11_ofLoan_1 S p1 p2) : Cqs mdX11_ofLoan 8 123 [vr 11 0, vi p1, vi p2] S xIdx := Cqs.of dtX11_ofLoan (by decide +kernel) rfl rfl (Nat.le_of_ble_eq_true rfl) rfl (fun O G => by
  show BW O G fqX11_ofLoan_1 0 0 _ S 0 _ []
  refine a_aload_n (pc := 0) 0 0 rfl rfl ?_
  refine a_iload_n (pc := 1) 0 1 rfl rfl ?_
  have o1 := h
  refine a_callVX (pc := 2) 0 2 (q_X11_needLoan_1 (S := S) p1 o1) rfl cv_X11_163 (by decide) rfl rfl rfl (rm rfl) ?_
  exact a_out rfl (by decide) (by decide))
def okx_X11_ofLoan_2 (S : Mem) (p1 : Int32) (p2 : Int32) : Prop := ((ok_X11_needLoan S p1) ∧ (okx_X11_needRange_1 S p2 0 (nI 3)))
abbrev fqX11_ofLoan_2 : FD := (mdX11_ofLoan, [], 8, 124, 1, 6)
set_option maxRecDepth 100000 in
set_option maxHeartbeats 4000000 in
theorem q_X11_ofLoan_2 {S : Mem} (p1 : Int32) (p2 : Int32)  (h : okx_X11_ofLoan_2 S p1 p2) : Cqs mdX11_ofLoan 8 124 [vr 11 0, vi p1, vi p2] S xArg := Cqs.of dtX11_ofLoan (by decide +kernel) rfl rfl (Nat.le_of_ble_eq_true rfl) rfl (fun O G => by
  show BW O G fqX11_ofLoan_2 0 0 _ S 0 _ []
  refine a_aload_n (pc := 0) 0 0 rfl rfl ?_
  refine a_iload_n (pc := 1) 0 1 rfl rfl ?_
  obtain ⟨o1, h⟩ := h
  refine a_callVv (pc := 2) 0 2 (c_X11_needLoan (S := S) p1 o1) rfl cv_X11_163 (by decide) rfl rfl rfl (rm rfl) ?_
  refine a_iload_n (pc := 5) 0 3 rfl rfl ?_
  refine a_iconst (pc := 6) 0 4 (v := 0) rfl (by decide) ?_
  refine a_iconst (pc := 7) 0 5 (v := nI 3) rfl (by decide) ?_
  have o2 := h
  refine a_callSX (pc := 8) 0 6 (q_X11_needRange_1 (S := S) p2 0 (nI 3) o2) rfl cs_X11_41 rfl (rm rfl) ?_
  exact a_out rfl (by decide) (by decide))
