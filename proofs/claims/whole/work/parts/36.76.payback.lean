/-! payBack -/
theorem lon_cases {u v L : Int} {A B : Mem} {d : Int32} (h : Rel A.1 B.2.1 d) (n : Num u v L B.2.1) (p : Int32) : (inb p 20 ∧ ix p < ix (B.2.1 kLoans 0) ∧ ok_X11_needLoan A p ∧ f_X12_isLoan B p = 1) ∨ (okx_X11_needLoan_1 A p ∧ f_X12_isLoan B p = 0) := by
  have e : ∀ x, f_X12_in B p 0 (B.2.1 kLoans 0 - 1) = x → f_X12_isLoan B p = x := fun x h => by
    unfold f_X12_isLoan
    rw [h, lt_x]
  have sL : A.1 kLoans 0 = B.2.1 kLoans 0 := h.sh kLoans 0 (by decide)
  have hl : inb (B.2.1 kLoans 0) 21 := n.2.2.2.2.2.2.1.1
  have t := inb_toInt hl
  have t2 := hl.2
  have e1 : (B.2.1 kLoans 0 - 1).toInt + 1 = (B.2.1 kLoans 0).toInt := by
    rw [w_sub, w_1]
    omega
  rcases ind_cases p 0 (B.2.1 kLoans 0 - 1) (B.2.1 kLoans 0) e1 with ⟨h1, h2, h3, h4⟩ | ⟨h1, h2⟩
  · rw [w_0] at h1
    have hb : inb p 20 := (inb_iff (by omega)).mpr ⟨h1, by omega⟩
    refine Or.inl ⟨hb, by have := inb_toInt hb; omega, fun v3 e3 => ?_, e 1 (h4 B)⟩
    rw [sL] at e3
    exact h3 v3 e3
  · refine Or.inr ⟨fun v3 e3 => ?_, e 0 (h2 B)⟩
    rw [sL] at e3
    exact h1 v3 e3
theorem canP_ok {u v L : Int} {B : Mem} {j : Nat} {p m : Int32} (n : Num u v L B.2.1) (hp : inb p 20) (hj : ix p < ix (B.2.1 kLoans 0)) : ok_X12_canPay B p m := by
  have hl : zL (B.2.1 kLoans) (B.2.1 kLoanHolders) (B.2.1 kLoanBanks) (B.2.1 kLoanLefts) (B.2.1 kLoanRates) (B.2.1 kOverdue) := n.2.2.2.2.2.2.1
  have hx := (hl.2.1 (ix p) hj).1
  exact ⟨hp, hx, fun v3 e3 q3 => ⟨⟨hx, hx⟩, fun v6 _ _ => ⟨hx, hp, fun _ => ⟨hx, bank4 n hx.2 (acct_ne e3 q3)⟩⟩⟩⟩
theorem payBack_k {B : Mem} {p1 p2 c : Int32} (v1 v8 : Int32) (h1 : f_X12_isLoan B p1 = v1) (h8 : (if v1 = 0 then (0) else (if (B.2.1 kLoanLefts (ix p1)) < p2 then (0) else (lt (f_X12_canPay B p1 p2) (fun (v6 : Int32) => if v6 = 0 then (0) else (1))))) = v8) (h13 : (if v1 = 0 then (1) else (lt (f_X12_in B p2 1 (nI 10000)) (fun (v10 : Int32) => if v10 = 0 then (nI 2) else (if v8 = 0 then (nI 3) else (0))))) = c) (hm : ¬ v1 = 0 → inb p1 20 ∧ ok_X12_canPay B p1 p2) (hp : c = 0 → ok_X12_endsMoney (T0 B 0) p1 p2 ∧ inb p1 20) : ok_X12_payBack B p1 p2 ∧ (c ≠ 0 → f_X12_payBack B p1 p2 = (0, T0 B c)) := by
  constructor
  · intro w1 e1
    rw [h1] at e1
    subst e1
    refine ⟨fun q => ⟨(hm q).1, fun _ => (hm q).2⟩, fun w8 e8 w13 e13 => ?_⟩
    rw [h8] at e8
    subst e8
    rw [h13] at e13
    subst e13
    by_cases hc : c = 0
    · subst hc
      obtain ⟨q1, q2⟩ := hp rfl
      exact okt_yes ⟨q1, fun S18 _ => ⟨q2, q2, fun _ _ => q2⟩⟩
    · exact okt_no hc
  · intro hc
    unfold f_X12_payBack
    rw [h1, lt_x, h8, lt_x, h13, lt_x]
    exact tail_no hc _ _
theorem payBack_ok {u : Int} {A B : Mem} (hu : u ≤ 5120000) (h : St u A.1 B.2.1) (p1 p2 : Int32) : (okx_X11_payBack_1 A p1 p2 ∧ ok_X12_payBack B p1 p2 ∧ f_X12_payBack B p1 p2 = (0, T0 B 1)) ∨ (okx_X11_payBack_2 A p1 p2 ∧ ok_X12_payBack B p1 p2 ∧ f_X12_payBack B p1 p2 = (0, T0 B (nI 2))) ∨ (okx_X11_payBack_3 A p1 p2 ∧ ok_X12_payBack B p1 p2 ∧ f_X12_payBack B p1 p2 = (0, T0 B (nI 3))) ∨ (ok_X11_payBack A p1 p2 ∧ ok_X12_payBack B p1 p2 ∧ Good u (f_X11_payBack A p1 p2) (f_X12_payBack B p1 p2)) := by
  rcases lon_cases h.1 h.2 p1 with ⟨b1, bj, b2, b3⟩ | ⟨b1, b2⟩
  · have cp : ok_X12_canPay B p1 p2 := canP_ok (j := 0) h.2 b1 bj
    have sL : A.1 kLoanLefts (f_X7_at A p1) = B.2.1 kLoanLefts (ix p1) := by
      rw [at7_in b1]
      exact h.1.sh kLoanLefts _ b1.2
    rcases rng_cases p2 1 (nI 10000) with ⟨r1, r2, r3, r4⟩ | ⟨r1, r2⟩
    · rw [w_1] at r1
      obtain ⟨m1, m2, m3⟩ := canO_ok (m := p2) h.1 h.2 bj r1
      rw [← b1.1] at m1 m3
      by_cases c : B.2.1 kLoanLefts (ix p1) < p2
      · obtain ⟨k1, k2⟩ := payBack_k (p2 := p2) 1 0 b3 (by rw [if_neg c1, if_pos c]) (show _ = nI 3 by rw [if_neg c1, r4, l1, if_pos rfl]) (fun _ => ⟨b1, cp⟩) (fun q => absurd q c3)
        refine Or.inr (Or.inr (Or.inl ⟨⟨b2, r3 A, fun v6 e6 => ?_⟩, k1, k2 c3⟩))
        rw [sL, if_pos c] at e6
        exact e6.symm
      · rcases m3 with m3 | ⟨m3, m4, m5, m6⟩
        · obtain ⟨k1, k2⟩ := payBack_k (p2 := p2) 1 0 b3 (by rw [if_neg c1, if_neg c, m3, l0]) (show _ = nI 3 by rw [if_neg c1, r4, l1, if_pos rfl]) (fun _ => ⟨b1, cp⟩) (fun q => absurd q c3)
          refine Or.inr (Or.inr (Or.inl ⟨⟨b2, r3 A, fun v6 e6 => ?_⟩, k1, k2 c3⟩))
          rw [sL, if_neg c, at7_in b1, m1, m3, l0] at e6
          exact e6.symm
        · have h8 : (if (1 : Int32) = 0 then (0) else (if (B.2.1 kLoanLefts (ix p1)) < p2 then (0) else (lt (f_X12_canPay B p1 p2) (fun (v6 : Int32) => if v6 = 0 then (0) else (1))))) = (1 : Int32) := by rw [if_neg c1, if_neg c, m3, l1]
          have h13 : (if (1 : Int32) = 0 then (1) else (lt (f_X12_in B p2 1 (nI 10000)) (fun (v10 : Int32) => if v10 = 0 then (nI 2) else (if (1 : Int32) = 0 then (nI 3) else (0))))) = 0 := by rw [if_neg c1, r4, l1, if_neg c1]
          obtain ⟨S7, s1, s2, ⟨s3, s4⟩, -, -, s5⟩ := h.zero
          have o1 := s5 kLoanHolders (by decide)
          have o2 := s5 kBankOf (by decide)
          have o3 := s5 kAccounts (by decide)
          have o4 := s5 kBlocked (by decide)
          have o5 := s5 kReserves (by decide)
          have o6 := s5 kLoanBanks (by decide)
          have o7 := s5 kLoans (by decide)
          have o8 := s5 kLoanLefts (by decide)
          rw [← o1, ← o2] at m4
          rw [← o1, ← o3, ← o4] at m5
          rw [← o1, ← o2, ← o5, ← o6] at m6
          rw [← o7] at bj
          rw [w_lt, ← o8] at c
          obtain ⟨t1, t2⟩ := endR_eq (m := p2) s4 bj m4
          rw [← b1.1] at t1 t2
          obtain ⟨q1, q2⟩ := payO_C (m := p2) s3 s4 bj (Or.inl m4)
          have n1 := N_end (m := p2) s4 hu bj (by omega) m4 m5 m6
          obtain ⟨X, hX⟩ : ∃ X, f_X3_payOwner A (ix p1) p2 = X := ⟨_, rfl⟩
          rw [hX] at q2
          have zl : zL (S7.2.1 kLoans) (S7.2.1 kLoanHolders) (S7.2.1 kLoanBanks) (S7.2.1 kLoanLefts) (S7.2.1 kLoanRates) (S7.2.1 kOverdue) := s4.2.2.2.2.2.2.1
          obtain ⟨-, -, z3, z4, -, -, z7, z8, z9⟩ := zl.2.1 (ix p1) bj
          have eE := fun (k : Nat) (h8 : k ≠ 8) (h16 : k ≠ 16) => endR_off (R := S7.2.1) (j := ix p1) (m := p2) h8 h16
          have eLf : endR S7.2.1 (ix p1) p2 kLoanLefts = S7.2.1 kLoanLefts := eE kLoanLefts (by decide) (by decide)
          have eLb : endR S7.2.1 (ix p1) p2 kLoanBanks = S7.2.1 kLoanBanks := eE kLoanBanks (by decide) (by decide)
          have eLc : endR S7.2.1 (ix p1) p2 kLoans = S7.2.1 kLoans := eE kLoans (by decide) (by decide)
          have eOd : endR S7.2.1 (ix p1) p2 kOverdue = S7.2.1 kOverdue := eE kOverdue (by decide) (by decide)
          have xL : X.1 kLoanLefts (ix p1) = S7.2.1 kLoanLefts (ix p1) := (q2.sh kLoanLefts _ b1.2).trans (congrFun eLf _)
          have q3 := q2.left (l := ix p1) (v := S7.2.1 kLoanLefts (ix p1) - p2) (by rw [eLc]; exact bj) rfl
          rw [eLf, eLb] at q3
          have ew : (S7.2.1 kLoanLefts (ix p1) - p2).toInt = (S7.2.1 kLoanLefts (ix p1)).toInt - p2.toInt := by
            rw [w_sub]
            omega
          have n2 := N_over (j := ix p1) (w := S7.2.1 kOverdue (ix p1)) (x := S7.2.1 kLoanLefts (ix p1) - p2) n1 z7 z8 (by omega) (by omega) (fun _ => z9 (by omega)) (by rw [eLc]; exact bj)
          have uu : upd2 (endR S7.2.1 (ix p1) p2) kOverdue (ix p1) (S7.2.1 kOverdue (ix p1)) = endR S7.2.1 (ix p1) p2 := by
            rw [← eOd]
            exact uu_same
          rw [uu] at n2
          have eA : f_X11_payBack A p1 p2 = (S7.2.1 kLoanLefts (ix p1) - p2, (upd2 X.1 kLoanLefts (ix p1) (S7.2.1 kLoanLefts (ix p1) - p2), X.2)) := by
            unfold f_X11_payBack
            rw [lt_x, at7_in b1, hX, lt_x, lt_x]
            dsimp only
            rw [xL, upd2_eq]
          obtain ⟨Y, hY⟩ : ∃ Y, f_X12_endsMoney S7 p1 p2 = Y := ⟨_, rfl⟩
          have kt : Y.2.1 kThrown = S7.2.1 kThrown := by
            rw [← hY]
            exact gt_X12_endsMoney S7 p1 p2
          rw [hY] at t1
          have yL : Y.2.1 kLoanLefts (ix p1) = S7.2.1 kLoanLefts (ix p1) := by rw [t1, eLf]
          have eB : f_X12_payBack B p1 p2 = (S7.2.1 kLoanLefts (ix p1) - p2, (Y.1, upd2 Y.2.1 kLoanLefts (ix p1) (S7.2.1 kLoanLefts (ix p1) - p2), Y.2.2)) := by
            unfold f_X12_payBack
            rw [b3, lt_x, h8, lt_x, h13, lt_x, tail_yes, s1, hY, lt_x, lt_x]
            dsimp only
            rw [yL, upd2_eq]
          obtain ⟨k1, -⟩ := payBack_k (p2 := p2) 1 1 b3 h8 h13 (fun _ => ⟨b1, cp⟩) (fun _ => ⟨by rw [s1]; exact t2, b1⟩)
          refine Or.inr (Or.inr (Or.inr ⟨⟨b2, r3 A, fun v6 e6 => ⟨?_, ?_⟩⟩, k1, ?_⟩))
          · rw [sL, if_neg (by rw [w_lt, ← o8]; exact c), at7_in b1, m1, m3, l1] at e6
            rw [← e6]
            exact c1
          · rw [at7_in b1]
            exact q1
          · refine (Good.mk (u := u) (x := (S7.2.1 kLoanLefts (ix p1) - p2, (upd2 X.1 kLoanLefts (ix p1) (S7.2.1 kLoanLefts (ix p1) - p2), X.2))) (y := (S7.2.1 kLoanLefts (ix p1) - p2, (Y.1, upd2 Y.2.1 kLoanLefts (ix p1) (S7.2.1 kLoanLefts (ix p1) - p2), Y.2.2))) ((congrFun kt 0).trans s2) rfl ?_ ?_).of eA eB
            · show Rel _ (upd2 Y.2.1 kLoanLefts (ix p1) (S7.2.1 kLoanLefts (ix p1) - p2)) 0
              rw [t1]
              refine q3.d_eq ?_
              split <;> grind
            · show Num u u 171000000 (upd2 Y.2.1 kLoanLefts (ix p1) (S7.2.1 kLoanLefts (ix p1) - p2))
              rw [t1]
              exact n2
    · obtain ⟨v8, h8⟩ : ∃ v8 : Int32, (if (1 : Int32) = 0 then (0) else (if (B.2.1 kLoanLefts (ix p1)) < p2 then (0) else (lt (f_X12_canPay B p1 p2) (fun (v6 : Int32) => if v6 = 0 then (0) else (1))))) = v8 := ⟨_, rfl⟩
      obtain ⟨k1, k2⟩ := payBack_k (p2 := p2) 1 v8 b3 h8 (show _ = nI 2 by rw [if_neg c1, r2, l0]) (fun _ => ⟨b1, cp⟩) (fun q => absurd q c2)
      exact Or.inr (Or.inl ⟨⟨b2, r1 A⟩, k1, k2 c2⟩)
  · obtain ⟨k1, k2⟩ := payBack_k (p2 := p2) 0 0 b2 (if_pos rfl) (show _ = 1 from if_pos rfl) (fun q => absurd rfl q) (fun q => absurd q c1)
    exact Or.inl ⟨b1, k1, k2 c1⟩
