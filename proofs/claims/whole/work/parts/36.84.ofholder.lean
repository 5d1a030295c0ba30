/-! queries: ofHolder, ofLoan -/
theorem ofHolder_k {B : Mem} {p1 p2 c : Int32} (v1 : Int32) (h1 : f_X12_isHolder B p1 = v1) (h5 : (if v1 = 0 then (1) else (lt (f_X12_in B p2 0 (nI 7)) (fun (v3 : Int32) => if v3 = 0 then (nI 2) else (0)))) = c) (hc : c ≠ 0) : ok_X12_ofHolder B p1 p2 ∧ f_X12_ofHolder B p1 p2 = (0, T0 B c) := by
  constructor
  · intro w1 e1 w5 e5
    rw [h1] at e1
    subst e1
    rw [h5] at e5
    subst e5
    exact okt_no hc
  · unfold f_X12_ofHolder
    rw [h1, lt_x, h5, lt_x, tail_no hc]
theorem nI_cases {p : Int32} {n : Nat} (hn : n < 2 ^ 31 - 1) (h1 : (0 : Int32).toInt ≤ p.toInt) (h2 : p.toInt ≤ (nI n).toInt) : ∃ k, k < n + 1 ∧ p = nI k := by
  have e : (nI n).toInt = n := nI_toInt (by omega)
  rw [w_0] at h1
  have hb : inb p (n + 1) := (inb_iff (by omega)).mpr ⟨h1, by omega⟩
  exact ⟨ix p, hb.2, hb.1⟩
theorem hol_out {A : Mem} {R : Col} {p1 : Int32} (h : Rel A.1 R 0) (hb : inb p1 16) (h10 : ¬ p1 < nI 10) : A.1 kFirms (ix p1) = -1 ∧ A.1 kWages (ix p1) = 0 := by
  have e10 : (nI 10).toInt = 10 := nI_toInt (by omega)
  have t := inb_toInt hb
  rw [w_lt] at h10
  exact h.2.2.2.2.2.2.2.1 (ix p1) (by omega) hb.2
theorem ofHolder_q {u : Int} {A B : Mem} (h : St u A.1 B.2.1) (p1 p2 : Int32) : (okx_X11_ofHolder_1 A p1 p2 ∧ ok_X12_ofHolder B p1 p2 ∧ f_X12_ofHolder B p1 p2 = (0, T0 B 1)) ∨ (okx_X11_ofHolder_2 A p1 p2 ∧ ok_X12_ofHolder B p1 p2 ∧ f_X12_ofHolder B p1 p2 = (0, T0 B (nI 2))) ∨ (ok_X11_ofHolder A p1 p2 ∧ ok_X12_ofHolder B p1 p2 ∧ Goq u A (f_X11_ofHolder A p1 p2) (f_X12_ofHolder B p1 p2)) := by
  rcases hol_cases p1 with ⟨b1, b2, b3⟩ | ⟨b1, b2⟩
  · rcases rng_cases p2 0 (nI 7) with ⟨r1, r2, r3, r4⟩ | ⟨r1, r2⟩
    · obtain ⟨S7, s1, s2, s3, -, -, s5⟩ := h.zero
      have hin : p1 < nI 10 → inb p1 10 := fun q => by
        have t := inb_toInt b1
        have e10 : (nI 10).toInt = 10 := nI_toInt (by omega)
        rw [w_lt] at q
        exact (inb_iff (by omega)).mpr ⟨by omega, by omega⟩
      have hok : ok_X12_ofHolder B p1 p2 := by
        intro w1 e1 w5 e5
        rw [b3] at e1
        subst e1
        rw [if_neg c1, r4, lt_x, if_neg c1] at e5
        subst e5
        exact okt_yes ⟨fun _ q => ⟨fun _ => ⟨fun _ => hin q, fun _ => hin q⟩, fun _ => hin q⟩, fun _ => ⟨fun _ => ⟨fun _ => ⟨fun _ => ⟨fun _ => b1, fun _ => b1⟩, fun _ => ⟨b1, b1⟩⟩, fun _ => b1⟩, fun _ => b1⟩⟩
      refine Or.inr (Or.inr ⟨⟨b2 A, r3 A⟩, hok, ?_⟩)
      have h5 : (if (1 : Int32) = 0 then (1 : Int32) else (lt (f_X12_in B p2 0 (nI 7)) (fun (v3 : Int32) => if v3 = 0 then (nI 2) else (0)))) = 0 := by
        rw [if_neg c1, r4, lt_x, if_neg c1]
      obtain ⟨k, hk, rfl⟩ := nI_cases (by omega) r1 r2
      rcases (by omega : k = 0 ∨ k = 1 ∨ k = 2 ∨ k = 3 ∨ k = 4 ∨ k = 5 ∨ k = 6 ∨ k = 7) with rfl | rfl | rfl | rfl | rfl | rfl | rfl | rfl
      · have eA : f_X11_ofHolder A p1 (nI 0) = A.1 kBankOf (ix p1) := by
          unfold f_X11_ofHolder
          rw [if_pos (rfl : nI 0 = nI 0), holder_in b1]
        have eB : f_X12_ofHolder B p1 (nI 0) = (S7.2.1 kBankOf (ix p1), S7) := by
          unfold f_X12_ofHolder
          rw [b3, lt_x, h5, lt_x, tail_yes, s1]
          rw [if_neg (show ¬ (nI 5 ≤ nI 0) by decide), if_pos (show nI 0 = 0 by decide), lt_x]
        rw [eA, eB]
        exact ⟨s2, (s3.1.sh kBankOf _ b1.2).symm, s3⟩
      · have eA : f_X11_ofHolder A p1 (nI 1) = A.1 kAccounts (ix p1) := by
          unfold f_X11_ofHolder
          rw [if_neg (show ¬ (nI 1 = nI 0) by decide), if_pos (rfl : nI 1 = nI 1), holder_in b1]
        have eB : f_X12_ofHolder B p1 (nI 1) = (S7.2.1 kAccounts (ix p1), S7) := by
          unfold f_X12_ofHolder
          rw [b3, lt_x, h5, lt_x, tail_yes, s1]
          rw [if_neg (show ¬ (nI 5 ≤ nI 1) by decide), if_neg (show ¬ (nI 1 = 0) by decide), if_pos (show nI 1 = 1 by decide), lt_x]
        rw [eA, eB]
        exact ⟨s2, (s3.1.sh kAccounts _ b1.2).symm, s3⟩
      · have eA : f_X11_ofHolder A p1 (nI 2) = A.1 kAccounts (ix p1) - A.1 kBlocked (ix p1) := by
          unfold f_X11_ofHolder
          rw [if_neg (show ¬ (nI 2 = nI 0) by decide), if_neg (show ¬ (nI 2 = nI 1) by decide), if_pos (rfl : nI 2 = nI 2), holder_in b1, lt_x]
          rfl
        have eB : f_X12_ofHolder B p1 (nI 2) = (S7.2.1 kAccounts (ix p1) - S7.2.1 kBlocked (ix p1), S7) := by
          unfold f_X12_ofHolder
          rw [b3, lt_x, h5, lt_x, tail_yes, s1]
          rw [if_neg (show ¬ (nI 5 ≤ nI 2) by decide), if_neg (show ¬ (nI 2 = 0) by decide), if_neg (show ¬ (nI 2 = 1) by decide), if_pos (show nI 2 = (nI 2) from rfl), lt_x, lt_x]
          rfl
        rw [eA, eB]
        refine ⟨s2, ?_, s3⟩
        show S7.2.1 kAccounts (ix p1) - S7.2.1 kBlocked (ix p1) = _
        rw [s3.1.sh kAccounts _ b1.2, s3.1.sh kBlocked _ b1.2]
      · have eA : f_X11_ofHolder A p1 (nI 3) = A.1 kNotes (ix p1) := by
          unfold f_X11_ofHolder
          rw [if_neg (show ¬ (nI 3 = nI 0) by decide), if_neg (show ¬ (nI 3 = nI 1) by decide), if_neg (show ¬ (nI 3 = nI 2) by decide), if_pos (rfl : nI 3 = nI 3), holder_in b1]
        have eB : f_X12_ofHolder B p1 (nI 3) = (S7.2.1 kNotes (ix p1), S7) := by
          unfold f_X12_ofHolder
          rw [b3, lt_x, h5, lt_x, tail_yes, s1]
          rw [if_neg (show ¬ (nI 5 ≤ nI 3) by decide), if_neg (show ¬ (nI 3 = 0) by decide), if_neg (show ¬ (nI 3 = 1) by decide), if_neg (show ¬ (nI 3 = (nI 2)) by decide), if_pos (show nI 3 = (nI 3) from rfl), lt_x]
        rw [eA, eB]
        exact ⟨s2, (s3.1.sh kNotes _ b1.2).symm, s3⟩
      · have eA : f_X11_ofHolder A p1 (nI 4) = A.1 kForged (ix p1) := by
          unfold f_X11_ofHolder
          rw [if_neg (show ¬ (nI 4 = nI 0) by decide), if_neg (show ¬ (nI 4 = nI 1) by decide), if_neg (show ¬ (nI 4 = nI 2) by decide), if_neg (show ¬ (nI 4 = nI 3) by decide), if_pos (rfl : nI 4 = nI 4), holder_in b1]
        have eB : f_X12_ofHolder B p1 (nI 4) = (S7.2.1 kForged (ix p1), S7) := by
          unfold f_X12_ofHolder
          rw [b3, lt_x, h5, lt_x, tail_yes, s1]
          rw [if_neg (show ¬ (nI 5 ≤ nI 4) by decide), if_neg (show ¬ (nI 4 = 0) by decide), if_neg (show ¬ (nI 4 = 1) by decide), if_neg (show ¬ (nI 4 = (nI 2)) by decide), if_neg (show ¬ (nI 4 = (nI 3)) by decide), lt_x]
        rw [eA, eB]
        exact ⟨s2, (s3.1.sh kForged _ b1.2).symm, s3⟩
      · by_cases q : p1 < nI 10
        · have eB : f_X12_ofHolder B p1 (nI 5) = (S7.2.1 kFirms (ix p1), S7) := by
            unfold f_X12_ofHolder
            rw [b3, lt_x, h5, lt_x, tail_yes, s1]
            rw [if_pos (show (nI 5 ≤ nI 5) by decide), if_pos q, if_pos (rfl : nI 5 = nI 5), lt_x]
          have eA : f_X11_ofHolder A p1 (nI 5) = A.1 kFirms (ix p1) := by
            unfold f_X11_ofHolder
            rw [if_neg (show ¬ (nI 5 = nI 0) by decide), if_neg (show ¬ (nI 5 = nI 1) by decide), if_neg (show ¬ (nI 5 = nI 2) by decide), if_neg (show ¬ (nI 5 = nI 3) by decide), if_neg (show ¬ (nI 5 = nI 4) by decide), if_pos (rfl : nI 5 = nI 5), holder_in b1]
          rw [eA, eB]
          exact ⟨s2, (s3.1.sh kFirms _ (hin q).2).symm, s3⟩
        · have eB : f_X12_ofHolder B p1 (nI 5) = (-1, S7) := by
            unfold f_X12_ofHolder
            rw [b3, lt_x, h5, lt_x, tail_yes, s1]
            rw [if_pos (show (nI 5 ≤ nI 5) by decide), if_neg q, if_pos (rfl : nI 5 = nI 5), lt_x]
          have eA : f_X11_ofHolder A p1 (nI 5) = A.1 kFirms (ix p1) := by
            unfold f_X11_ofHolder
            rw [if_neg (show ¬ (nI 5 = nI 0) by decide), if_neg (show ¬ (nI 5 = nI 1) by decide), if_neg (show ¬ (nI 5 = nI 2) by decide), if_neg (show ¬ (nI 5 = nI 3) by decide), if_neg (show ¬ (nI 5 = nI 4) by decide), if_pos (rfl : nI 5 = nI 5), holder_in b1]
          rw [eA, eB]
          exact ⟨s2, (hol_out h.1 b1 q).1.symm, s3⟩
      · by_cases q : p1 < nI 10
        · have eB : f_X12_ofHolder B p1 (nI 6) = (S7.2.1 kWages (ix p1), S7) := by
            unfold f_X12_ofHolder
            rw [b3, lt_x, h5, lt_x, tail_yes, s1]
            rw [if_pos (show (nI 5 ≤ nI 6) by decide), if_pos q, if_neg (show ¬ (nI 6 = nI 5) by decide), if_pos (rfl : nI 6 = nI 6), lt_x]
          have eA : f_X11_ofHolder A p1 (nI 6) = A.1 kWages (ix p1) := by
            unfold f_X11_ofHolder
            rw [if_neg (show ¬ (nI 6 = nI 0) by decide), if_neg (show ¬ (nI 6 = nI 1) by decide), if_neg (show ¬ (nI 6 = nI 2) by decide), if_neg (show ¬ (nI 6 = nI 3) by decide), if_neg (show ¬ (nI 6 = nI 4) by decide), if_neg (show ¬ (nI 6 = nI 5) by decide), if_pos (rfl : nI 6 = nI 6), holder_in b1]
          rw [eA, eB]
          exact ⟨s2, (s3.1.sh kWages _ (hin q).2).symm, s3⟩
        · have eB : f_X12_ofHolder B p1 (nI 6) = (0, S7) := by
            unfold f_X12_ofHolder
            rw [b3, lt_x, h5, lt_x, tail_yes, s1]
            rw [if_pos (show (nI 5 ≤ nI 6) by decide), if_neg q, if_neg (show ¬ (nI 6 = nI 5) by decide), lt_x]
          have eA : f_X11_ofHolder A p1 (nI 6) = A.1 kWages (ix p1) := by
            unfold f_X11_ofHolder
            rw [if_neg (show ¬ (nI 6 = nI 0) by decide), if_neg (show ¬ (nI 6 = nI 1) by decide), if_neg (show ¬ (nI 6 = nI 2) by decide), if_neg (show ¬ (nI 6 = nI 3) by decide), if_neg (show ¬ (nI 6 = nI 4) by decide), if_neg (show ¬ (nI 6 = nI 5) by decide), if_pos (rfl : nI 6 = nI 6), holder_in b1]
          rw [eA, eB]
          exact ⟨s2, (hol_out h.1 b1 q).2.symm, s3⟩
      · by_cases q : p1 < nI 10
        · have eB : f_X12_ofHolder B p1 (nI 7) = (S7.2.1 kExpects (ix p1), S7) := by
            unfold f_X12_ofHolder
            rw [b3, lt_x, h5, lt_x, tail_yes, s1]
            rw [if_pos (show (nI 5 ≤ nI 7) by decide), if_pos q, if_neg (show ¬ (nI 7 = nI 5) by decide), if_neg (show ¬ (nI 7 = nI 6) by decide), lt_x]
          have eA : f_X11_ofHolder A p1 (nI 7) = A.1 kExpects (ix p1) := by
            have q2 : ¬ nI 10 ≤ p1 := by
              rw [w_lt] at q
              rw [w_le]
              omega
            unfold f_X11_ofHolder
            rw [if_neg (show ¬ (nI 7 = nI 0) by decide), if_neg (show ¬ (nI 7 = nI 1) by decide), if_neg (show ¬ (nI 7 = nI 2) by decide), if_neg (show ¬ (nI 7 = nI 3) by decide), if_neg (show ¬ (nI 7 = nI 4) by decide), if_neg (show ¬ (nI 7 = nI 5) by decide), if_neg (show ¬ (nI 7 = nI 6) by decide), if_neg q2, lt_x, holder_in b1]
          rw [eA, eB]
          exact ⟨s2, (s3.1.sh kExpects _ (hin q).2).symm, s3⟩
        · have eB : f_X12_ofHolder B p1 (nI 7) = (0, S7) := by
            unfold f_X12_ofHolder
            rw [b3, lt_x, h5, lt_x, tail_yes, s1]
            rw [if_pos (show (nI 5 ≤ nI 7) by decide), if_neg q, if_neg (show ¬ (nI 7 = nI 5) by decide), lt_x]
          have eA : f_X11_ofHolder A p1 (nI 7) = 0 := by
            have q2 : nI 10 ≤ p1 := by
              rw [w_lt] at q
              rw [w_le]
              omega
            unfold f_X11_ofHolder
            rw [if_neg (show ¬ (nI 7 = nI 0) by decide), if_neg (show ¬ (nI 7 = nI 1) by decide), if_neg (show ¬ (nI 7 = nI 2) by decide), if_neg (show ¬ (nI 7 = nI 3) by decide), if_neg (show ¬ (nI 7 = nI 4) by decide), if_neg (show ¬ (nI 7 = nI 5) by decide), if_neg (show ¬ (nI 7 = nI 6) by decide), if_pos q2, lt_x]
          rw [eA, eB]
          exact ⟨s2, rfl, s3⟩
    · exact Or.inr (Or.inl ⟨⟨b2 A, r1 A⟩, ofHolder_k 1 (b3 B) (by rw [if_neg c1, r2, lt_x, if_pos rfl]) (by decide)⟩)
  · exact Or.inl ⟨b1 A, ofHolder_k 0 (b2 B) (by rw [if_pos rfl]) (by decide)⟩
theorem ofLoan_k {B : Mem} {p1 p2 c : Int32} (v1 : Int32) (h1 : f_X12_isLoan B p1 = v1) (h5 : (if v1 = 0 then (1) else (lt (f_X12_in B p2 0 (nI 3)) (fun (v3 : Int32) => if v3 = 0 then (nI 2) else (0)))) = c) (hc : c ≠ 0) : ok_X12_ofLoan B p1 p2 ∧ f_X12_ofLoan B p1 p2 = (0, T0 B c) := by
  constructor
  · intro w1 e1 w5 e5
    rw [h1] at e1
    subst e1
    rw [h5] at e5
    subst e5
    exact okt_no hc
  · unfold f_X12_ofLoan
    rw [h1, lt_x, h5, lt_x, tail_no hc]
theorem ofLoan_q {u : Int} {A B : Mem} (h : St u A.1 B.2.1) (p1 p2 : Int32) : (okx_X11_ofLoan_1 A p1 p2 ∧ ok_X12_ofLoan B p1 p2 ∧ f_X12_ofLoan B p1 p2 = (0, T0 B 1)) ∨ (okx_X11_ofLoan_2 A p1 p2 ∧ ok_X12_ofLoan B p1 p2 ∧ f_X12_ofLoan B p1 p2 = (0, T0 B (nI 2))) ∨ (ok_X11_ofLoan A p1 p2 ∧ ok_X12_ofLoan B p1 p2 ∧ Goq u A (f_X11_ofLoan A p1 p2) (f_X12_ofLoan B p1 p2)) := by
  rcases lon_cases h.1 h.2 p1 with ⟨b1, b0, b2, b3⟩ | ⟨b1, b2⟩
  · rcases rng_cases p2 0 (nI 3) with ⟨r1, r2, r3, r4⟩ | ⟨r1, r2⟩
    · obtain ⟨S7, s1, s2, s3, -, -, s5⟩ := h.zero
      have hok : ok_X12_ofLoan B p1 p2 := by
        intro w1 e1 w5 e5
        rw [b3] at e1
        subst e1
        rw [if_neg c1, r4, lt_x, if_neg c1] at e5
        subst e5
        exact okt_yes ⟨fun _ => ⟨fun _ => ⟨fun _ => b1, fun _ => b1⟩, fun _ => b1⟩, fun _ => b1⟩
      refine Or.inr (Or.inr ⟨⟨b2, r3 A⟩, hok, ?_⟩)
      have h5 : (if (1 : Int32) = 0 then (1 : Int32) else (lt (f_X12_in B p2 0 (nI 3)) (fun (v3 : Int32) => if v3 = 0 then (nI 2) else (0)))) = 0 := by
        rw [if_neg c1, r4, lt_x, if_neg c1]
      obtain ⟨k, hk, rfl⟩ := nI_cases (by omega) r1 r2
      rcases (by omega : k = 0 ∨ k = 1 ∨ k = 2 ∨ k = 3) with rfl | rfl | rfl | rfl
      · have eA : f_X11_ofLoan A p1 (nI 0) = A.1 kLoanHolders (ix p1) := by
          unfold f_X11_ofLoan
          rw [if_pos (rfl : nI 0 = nI 0), at7_in b1]
        have eB : f_X12_ofLoan B p1 (nI 0) = (S7.2.1 kLoanHolders (ix p1), S7) := by
          unfold f_X12_ofLoan
          rw [b3, lt_x, h5, lt_x, tail_yes, s1]
          rw [if_pos (show nI 0 = 0 by decide), lt_x]
        rw [eA, eB]
        exact ⟨s2, (s3.1.sh kLoanHolders _ b1.2).symm, s3⟩
      · have eA : f_X11_ofLoan A p1 (nI 1) = A.1 kLoanBanks (ix p1) := by
          unfold f_X11_ofLoan
          rw [if_neg (show ¬ (nI 1 = nI 0) by decide), if_pos (rfl : nI 1 = nI 1), at7_in b1]
        have eB : f_X12_ofLoan B p1 (nI 1) = (S7.2.1 kLoanBanks (ix p1), S7) := by
          unfold f_X12_ofLoan
          rw [b3, lt_x, h5, lt_x, tail_yes, s1]
          rw [if_neg (show ¬ (nI 1 = 0) by decide), if_pos (show nI 1 = 1 by decide), lt_x]
        rw [eA, eB]
        exact ⟨s2, (s3.1.sh kLoanBanks _ b1.2).symm, s3⟩
      · have eA : f_X11_ofLoan A p1 (nI 2) = A.1 kLoanLefts (ix p1) := by
          unfold f_X11_ofLoan
          rw [if_neg (show ¬ (nI 2 = nI 0) by decide), if_neg (show ¬ (nI 2 = nI 1) by decide), if_pos (rfl : nI 2 = nI 2), at7_in b1]
        have eB : f_X12_ofLoan B p1 (nI 2) = (S7.2.1 kLoanLefts (ix p1), S7) := by
          unfold f_X12_ofLoan
          rw [b3, lt_x, h5, lt_x, tail_yes, s1]
          rw [if_neg (show ¬ (nI 2 = 0) by decide), if_neg (show ¬ (nI 2 = 1) by decide), if_pos (show nI 2 = (nI 2) by decide), lt_x]
        rw [eA, eB]
        exact ⟨s2, (s3.1.sh kLoanLefts _ b1.2).symm, s3⟩
      · have eA : f_X11_ofLoan A p1 (nI 3) = A.1 kOverdue (ix p1) := by
          unfold f_X11_ofLoan
          rw [if_neg (show ¬ (nI 3 = nI 0) by decide), if_neg (show ¬ (nI 3 = nI 1) by decide), if_neg (show ¬ (nI 3 = nI 2) by decide), at7_in b1]
        have eB : f_X12_ofLoan B p1 (nI 3) = (S7.2.1 kOverdue (ix p1), S7) := by
          unfold f_X12_ofLoan
          rw [b3, lt_x, h5, lt_x, tail_yes, s1]
          rw [if_neg (show ¬ (nI 3 = 0) by decide), if_neg (show ¬ (nI 3 = 1) by decide), if_neg (show ¬ (nI 3 = (nI 2)) by decide), lt_x]
        rw [eA, eB]
        exact ⟨s2, (s3.1.sh kOverdue _ b1.2).symm, s3⟩
    · exact Or.inr (Or.inl ⟨⟨b2, r1 A⟩, ofLoan_k 1 b3 (by rw [if_neg c1, r2, lt_x, if_pos rfl]) (by decide)⟩)
  · exact Or.inl ⟨b1, ofLoan_k 0 b2 (by rw [if_pos rfl]) (by decide)⟩
