/-! lend, whole -/
theorem lend_ok {u : Int} {A B : Mem} (hu : u ≤ 5120000) (h : St u A.1 B.2.1) (p1 p2 p3 p4 : Int32) : (okx_X11_lend_1 A p1 p2 p3 p4 ∧ ok_X12_lend B p1 p2 p3 p4 ∧ f_X12_lend B p1 p2 p3 p4 = (0, T0 B 1)) ∨ (okx_X11_lend_2 A p1 p2 p3 p4 ∧ ok_X12_lend B p1 p2 p3 p4 ∧ f_X12_lend B p1 p2 p3 p4 = (0, T0 B 1)) ∨ (okx_X11_lend_3 A p1 p2 p3 p4 ∧ ok_X12_lend B p1 p2 p3 p4 ∧ f_X12_lend B p1 p2 p3 p4 = (0, T0 B (nI 2))) ∨ (okx_X11_lend_4 A p1 p2 p3 p4 ∧ ok_X12_lend B p1 p2 p3 p4 ∧ f_X12_lend B p1 p2 p3 p4 = (0, T0 B (nI 2))) ∨ (okx_X11_lend_5 A p1 p2 p3 p4 ∧ ok_X12_lend B p1 p2 p3 p4 ∧ f_X12_lend B p1 p2 p3 p4 = (0, T0 B (nI 3))) ∨ (okx_X11_lend_6 A p1 p2 p3 p4 ∧ ok_X12_lend B p1 p2 p3 p4 ∧ f_X12_lend B p1 p2 p3 p4 = (0, T0 B (nI 3))) ∨ (ok_X11_lend A p1 p2 p3 p4 ∧ ok_X12_lend B p1 p2 p3 p4 ∧ Good (u + 10000) (f_X11_lend A p1 p2 p3 p4) (f_X12_lend B p1 p2 p3 p4)) := by
  rcases bnk_cases p1 with ⟨b1, b2, b3⟩ | ⟨b1, b2⟩
  · obtain ⟨b, hbb, hb⟩ : ∃ b, p1 = nI b ∧ b < 4 := ⟨_, b1.1, b1.2⟩
    subst hbb
    rcases hol_cases p2 with ⟨d1, d2, d3⟩ | ⟨d1, d2⟩
    · have h5 : (if (1 : Int32) = 0 then (0) else (lt (f_X12_isHolder B p2) (fun (v3 : Int32) => if v3 = 0 then (0) else (1)))) = (1 : Int32) := by rw [if_neg c1, d3, l1]
      have hm : ¬ (1 : Int32) = 0 → ok_X12_mayLend B (nI b) p2 p3 := fun _ => mayL_ok h.2 hb d1
      rcases rng_cases p3 1 (nI 10000) with ⟨r1, r2, r3, r4⟩ | ⟨r1, r2⟩
      · rcases rng_cases p4 0 (nI 100) with ⟨q1, q2, q3, q4⟩ | ⟨q1, q2⟩
        · have h11 : (if (1 : Int32) = 0 then (0) else (lt (f_X12_in B p3 1 (nI 10000)) (fun (v7 : Int32) => if v7 = 0 then (0) else (lt (f_X12_in B p4 0 (nI 100)) (fun (v9 : Int32) => if v9 = 0 then (0) else (1)))))) = (1 : Int32) := by rw [if_neg c1, r4, l1, q4, l1]
          have e10k : (nI 10000).toInt = 10000 := nI_toInt (by omega)
          rw [w_1] at r1
          rw [w_0] at q1
          rw [i100_toInt] at q2
          have hau : inb (B.2.1 kAuctions 0) 21 := h.2.2.2.2.2.2.1.1
          have hlo : inb (B.2.1 kLoans 0) 21 := h.2.2.2.2.2.2.2.1.1
          obtain ⟨n, hn, hn21⟩ : ∃ n, B.2.1 kLoans 0 = nI n ∧ n < 21 := ⟨_, hlo.1, hlo.2⟩
          have sLo : A.1 kLoans 0 = nI n := (h.1.sh kLoans 0 (by decide)).trans hn
          have sB : A.1 kBankOf (f_X3_holder A p2) = B.2.1 kBankOf (ix p2) := by
            rw [holder_in d1]
            exact h.1.sh kBankOf _ d1.2
          obtain ⟨y1, y2⟩ := cap_C h.1 hau hlo hb
          obtain ⟨y3, y4⟩ := cap_R (B := B) hau hlo hb
          obtain ⟨y5, y6⟩ := left_C (x := nI b) h.1 hlo
          obtain ⟨y7, y8⟩ := left_R (B := B) (x := nI b) hlo
          have y9 := mayL_eq (p2 := p2) hu h hb r1 (by omega)
          by_cases c : B.2.1 kBankOf (ix p2) = nI b
          · by_cases c' : n = 20
            · have ml : f_X12_mayLend B (nI b) p2 p3 = 0 := by
                unfold f_X12_mayLend
                rw [lt_x, if_pos c, hn, c', if_pos (by decide)]
              obtain ⟨k1, k2⟩ := lend_f 1 1 1 (b3 B) h5 h11 (show _ = nI 3 by rw [if_neg c1, if_neg c1, ml, l0]) hm c3
              refine Or.inr (Or.inr (Or.inr (Or.inr (Or.inl ⟨⟨b2 A, d2 A, r3 A, q3 A, fun v8 e8 => ?_⟩, k1, k2⟩))))
              unfold f_X7_isFull at e8
              rw [sB, if_pos c, sLo, c', if_neg (by decide), lt_x, lt_x, if_neg c1] at e8
              exact e8.symm
            · have hn20 : n < 20 := by omega
              have hlt : nI n < nI 20 := by
                rw [w_lt, nI_toInt (by omega), nI_toInt (by omega)]
                omega
              have n8 : ∀ v8 : Int32, (if (A.1 kBankOf (f_X3_holder A p2)) = nI b then (lt (f_X7_isFull A ) (fun (v6 : Int32) => if v6 = 0 then (1) else (0))) else (0)) = v8 → ok_X11_needState A v8 := fun v8 e8 => by
                unfold f_X7_isFull at e8
                rw [sB, if_pos c, sLo, if_pos hlt, lt_x, lt_x, if_pos rfl] at e8
                rw [← e8]
                exact c1
              by_cases z : capS B.2.1 b < (loaS B.2.1 (nI b) + p3) * (B.2.1 kCapitalRule 0) / nI 100
              · have ml : f_X12_mayLend B (nI b) p2 p3 = 0 := by
                  unfold f_X12_mayLend
                  rw [lt_x, if_pos c, hn, if_neg (by rw [w_le]; rw [w_lt] at hlt; omega), lt_x, lt_x, y3, y7, if_pos z]
                obtain ⟨k1, k2⟩ := lend_f 1 1 1 (b3 B) h5 h11 (show _ = nI 3 by rw [if_neg c1, if_neg c1, ml, l0]) hm c3
                refine Or.inr (Or.inr (Or.inr (Or.inr (Or.inr (Or.inl ⟨⟨b2 A, d2 A, r3 A, q3 A, fun v8 e8 => ⟨n8 v8 e8, y6, fun v11 e11 => ⟨y2, fun v13 e13 v14 e14 v16 e16 => ?_⟩⟩⟩, k1, k2⟩)))))
                rw [← e11, y5, y9] at e14
                rw [← e13, y1, ← e14, if_pos z] at e16
                exact e16.symm
              · have ml : f_X12_mayLend B (nI b) p2 p3 = 1 := by
                  unfold f_X12_mayLend
                  rw [lt_x, if_pos c, hn, if_neg (by rw [w_le]; rw [w_lt] at hlt; omega), lt_x, lt_x, y3, y7, if_neg z]
                have h17 : (if (1 : Int32) = 0 then (1) else (if (1 : Int32) = 0 then (nI 2) else (lt (f_X12_mayLend B (nI b) p2 p3) (fun (v15 : Int32) => if v15 = 0 then (nI 3) else (0))))) = 0 := by rw [if_neg c1, if_neg c1, ml, l1]
                obtain ⟨S7, s1, s2, ⟨s3, s4⟩, -, -, s5⟩ := h.zero
                have hn7 : S7.2.1 kLoans 0 = nI n := (congrFun (s5 kLoans (by decide)) 0).trans hn
                have en : ix (nI n) = n := ix_nI (by omega)
                have hb7 : S7.2.1 kBankOf (ix p2) ≠ -1 := by
                  rw [s5 kBankOf (by decide), c]
                  exact inb_ne (inb_nI (show b < 200 by omega) (by omega))
                have hh := has_hi s4 d1.2
                have ea : (S7.2.1 kAccounts (ix p2) + p3).toInt = (S7.2.1 kAccounts (ix p2)).toInt + p3.toInt := by
                  rw [w_add]
                  omega
                obtain ⟨t1, t2, t3, t4⟩ := Rel.change (A := A) (v := p3) s3 d1
                obtain ⟨X, hX⟩ : ∃ X, f_X3_change A p2 p3 = X := ⟨_, rfl⟩
                rw [hX] at t3 t4
                have xL : X.1 kLoans 0 = nI n := by
                  rw [t3 kLoans (by decide) (by decide)]
                  exact sLo
                have m1 := N_acc (x := S7.2.1 kAccounts (ix p2) + p3) s4 d1.2 hb7 (by omega)
                have t5 := t4.lon (n := n) (b := nI b) (x := p2) (m := p3) (r := p4) (show ix (S7.2.1 kLoans 0) = n by rw [hn7, en]) hn20 (fun q => by
                  have := congrArg ix q
                  rw [ix_nI (by omega), ix_nI (by omega)] at this
                  omega)
                have m2 := N_lon (n := n) (b := nI b) (x := p2) (m := p3) (r := p4) m1 (show ix (S7.2.1 kLoans 0) = n by rw [hn7, en]) hn20 (inb_nI (by omega) (by omega)) d1 ⟨by omega, by omega⟩ ⟨q1, q2⟩
                have m3 := (m2.umono (u2 := u + 10000) (by omega)).vmono (v2 := u + 10000) (by omega)
                have zl : zL (S7.2.1 kLoans) (S7.2.1 kLoanHolders) (S7.2.1 kLoanBanks) (S7.2.1 kLoanLefts) (S7.2.1 kLoanRates) (S7.2.1 kOverdue) := s4.2.2.2.2.2.2.1
                have od0 : S7.2.1 kOverdue n = 0 := zl.2.2 n hn20 (by rw [hn7, en]; exact Nat.le_refl _)
                have eA : f_X11_lend A (nI b) p2 p3 p4 = (nI n, (lonR X.1 n (nI b) p2 p3 p4, X.2)) := by
                  unfold f_X11_lend
                  rw [lt_x, lt_x, lt_x, lt_x, lt_x, hX, lt_x, give_C xL hn20, lt_x, lt_x]
                have eB : f_X12_lend B (nI b) p2 p3 p4 = (nI n, (S7.1, lonR (upd2 S7.2.1 kAccounts (ix p2) (S7.2.1 kAccounts (ix p2) + p3)) n (nI b) p2 p3 p4, S7.2.2)) := by
                  unfold f_X12_lend
                  rw [b3, lt_x, h5, lt_x, h11, lt_x, h17, lt_x, tail_yes, s1, lt_x, lt_x, lt_x, lt_x, lt_x, lt_x, lt_x]
                  show (upd2 S7.2.1 kLoans 0 (S7.2.1 kLoans 0 + 1) kLoans 0 - 1, (S7.1, upd2 (upd2 (upd2 (upd2 (upd2 (upd2 (upd2 S7.2.1 kLoanHolders (ix (S7.2.1 kLoans 0)) p2) kLoanBanks (ix (S7.2.1 kLoans 0)) (nI b)) kLoanLefts (ix (S7.2.1 kLoans 0)) p3) kLoanRates (ix (S7.2.1 kLoans 0)) p4) kOverdue (ix (S7.2.1 kLoans 0)) 0) kAccounts (ix p2) (S7.2.1 kAccounts (ix p2) + p3)) kLoans 0 (S7.2.1 kLoans 0 + 1), S7.2.2)) = _
                  have o2 : upd2 (upd2 (upd2 (upd2 (upd2 S7.2.1 kLoanHolders n p2) kLoanBanks n (nI b)) kLoanLefts n p3) kLoanRates n p4) kOverdue n 0 = upd2 (upd2 (upd2 (upd2 S7.2.1 kLoanHolders n p2) kLoanBanks n (nI b)) kLoanLefts n p3) kLoanRates n p4 := by
                    have := uu_same (C := upd2 (upd2 (upd2 (upd2 S7.2.1 kLoanHolders n p2) kLoanBanks n (nI b)) kLoanLefts n p3) kLoanRates n p4) (k := kOverdue) (i := n)
                    rw [show upd2 (upd2 (upd2 (upd2 S7.2.1 kLoanHolders n p2) kLoanBanks n (nI b)) kLoanLefts n p3) kLoanRates n p4 kOverdue n = 0 from od0] at this
                    exact this
                  rw [upd2_eq, hn7, en, o2, show nI n + 1 = nI (n + 1) from nI_add n 1, ← lon_acc]
                  unfold lonR
                  rw [u_comm (show kAccounts ≠ kLoans by decide), ← nI_add n 1, show nI n + nI 1 - 1 = nI n by show nI n + 1 - 1 = nI n; grind]
                refine Or.inr (Or.inr (Or.inr (Or.inr (Or.inr (Or.inr ⟨⟨b2 A, d2 A, r3 A, q3 A, fun v8 e8 => ⟨n8 v8 e8, y6, fun v11 e11 => ⟨y2, fun v13 e13 v14 e14 v16 e16 => ⟨?_, t1⟩⟩⟩⟩, ?_, ?_⟩)))))
                · rw [← e11, y5, y9] at e14
                  rw [← e13, y1, ← e14, if_neg z] at e16
                  rw [← e16]
                  exact c1
                · intro w1 e1 w5 e5 w11 e11
                  rw [b3] at e1
                  subst e1
                  rw [h5] at e5
                  subst e5
                  rw [h11] at e11
                  subst e11
                  refine ⟨fun q _ => hm q, fun w17 e17 => ?_⟩
                  rw [h17] at e17
                  subst e17
                  refine okt_yes ?_
                  rw [s1]
                  have ib : inb (S7.2.1 kLoans 0) 20 := by rw [hn7]; exact inb_nI hn20 (by omega)
                  refine ⟨ib, fun S22 e22 => ?_⟩
                  subst e22
                  refine ⟨ib, fun S24 e24 => ?_⟩
                  subst e24
                  refine ⟨ib, fun S26 e26 => ?_⟩
                  subst e26
                  refine ⟨ib, fun S28 e28 => ?_⟩
                  subst e28
                  exact ⟨ib, fun S30 _ => ⟨d1, d1⟩⟩
                · exact (Good.mk (u := u + 10000) (x := (nI n, (lonR X.1 n (nI b) p2 p3 p4, X.2))) (y := (nI n, (S7.1, lonR (upd2 S7.2.1 kAccounts (ix p2) (S7.2.1 kAccounts (ix p2) + p3)) n (nI b) p2 p3 p4, S7.2.2))) s2 rfl t5 m3).of eA eB
          · have ml : f_X12_mayLend B (nI b) p2 p3 = 0 := by
              unfold f_X12_mayLend
              rw [lt_x, if_neg c]
            obtain ⟨k1, k2⟩ := lend_f 1 1 1 (b3 B) h5 h11 (show _ = nI 3 by rw [if_neg c1, if_neg c1, ml, l0]) hm c3
            refine Or.inr (Or.inr (Or.inr (Or.inr (Or.inl ⟨⟨b2 A, d2 A, r3 A, q3 A, fun v8 e8 => ?_⟩, k1, k2⟩))))
            rw [sB, if_neg c] at e8
            exact e8.symm
        · obtain ⟨k1, k2⟩ := lend_f (p4 := p4) (p3 := p3) 1 1 0 (b3 B) h5 (by rw [if_neg c1, r4, l1, q2, l0]) (show _ = nI 2 by rw [if_neg c1, if_pos rfl]) hm c2
          exact Or.inr (Or.inr (Or.inr (Or.inl ⟨⟨b2 A, d2 A, r3 A, q1 A⟩, k1, k2⟩)))
      · obtain ⟨k1, k2⟩ := lend_f (p4 := p4) (p3 := p3) 1 1 0 (b3 B) h5 (by rw [if_neg c1, r2, l0]) (show _ = nI 2 by rw [if_neg c1, if_pos rfl]) hm c2
        exact Or.inr (Or.inr (Or.inl ⟨⟨b2 A, d2 A, r1 A⟩, k1, k2⟩))
    · obtain ⟨k1, k2⟩ := lend_f (p4 := p4) (p3 := p3) 1 0 0 (b3 B) (by rw [if_neg c1, d2, l0]) (if_pos rfl) (show _ = 1 from if_pos rfl) (fun q => absurd rfl q) c1
      exact Or.inr (Or.inl ⟨⟨b2 A, d1 A⟩, k1, k2⟩)
  · obtain ⟨k1, k2⟩ := lend_f (p2 := p2) (p4 := p4) (p3 := p3) 0 0 0 (b2 B) (if_pos rfl) (if_pos rfl) (show _ = 1 from if_pos rfl) (fun q => absurd rfl q) c1
    exact Or.inl ⟨b1 A, k1, k2⟩
