/-! open, close -/
theorem no_wait {u v L : Int} {R : Col} {i : Nat} (n : Num u v L R) (hb : R kBankOf i = -1) : ∀ p, p < ix (R kPayments 0) → R kStates p = 0 → ix (R kFroms p) ≠ i ∧ ix (R kTos p) ≠ i := by
  intro p hp h0
  obtain ⟨-, p2, -⟩ := n.2.2.1
  obtain ⟨-, q1, q2, -⟩ := (p2 p hp).2.2 h0
  exact ⟨fun q => q1 (by rw [q]; exact hb), fun q => q2 (by rw [q]; exact hb)⟩
theorem open_f {B : Mem} {p1 p2 c : Int32} (v1 v5 : Int32) (h1 : f_X12_isHolder B p1 = v1) (h5 : (if v1 = 0 then (0) else (lt (f_X12_isBank B p2) (fun (v3 : Int32) => if v3 = 0 then (0) else (1)))) = v5) (h12 : (if v5 = 0 then (1) else (lt (f_X12_hasAccount B p1) (fun (v8 : Int32) => if v8 = 0 then (if (B.2.1 kHaveFailed (ix p2)) = 0 then (0) else (nI 2)) else (nI 2)))) = c) : (c ≠ 0 → f_X12_open B p1 p2 = (0, T0 B c)) ∧ (c = 0 → f_X12_open B p1 p2 = (iter (b72_X12_open p2 ((T0 B 0).1, upd2 (T0 B 0).2.1 kBankOf (ix p1) p2, (T0 B 0).2.2)) 0 16, ((T0 B 0).1, upd2 (T0 B 0).2.1 kBankOf (ix p1) p2, (T0 B 0).2.2))) := by
  constructor
  · intro hc
    unfold f_X12_open
    rw [h1, lt_x, h5, lt_x, h12, lt_x]
    exact tail_no hc _ _
  · intro hc
    subst hc
    unfold f_X12_open
    rw [h1, lt_x, h5, lt_x, h12, lt_x, tail_yes, lt_x, lt_x]
theorem open_k {B : Mem} {p1 p2 c : Int32} (v1 v5 : Int32) (h1 : f_X12_isHolder B p1 = v1) (h5 : (if v1 = 0 then (0) else (lt (f_X12_isBank B p2) (fun (v3 : Int32) => if v3 = 0 then (0) else (1)))) = v5) (h12 : (if v5 = 0 then (1) else (lt (f_X12_hasAccount B p1) (fun (v8 : Int32) => if v8 = 0 then (if (B.2.1 kHaveFailed (ix p2)) = 0 then (0) else (nI 2)) else (nI 2)))) = c) (hm : ¬ v5 = 0 → inb p1 16 ∧ inb p2 4) (hp : c = 0 → inb p1 16) : ok_X12_open B p1 p2 := by
  intro w1 e1 w5 e5
  rw [h1] at e1
  subst e1
  rw [h5] at e5
  subst e5
  refine ⟨fun q => ⟨(hm q).1, fun _ _ _ => (hm q).2⟩, fun w9 e9 => ?_⟩
  rw [h12] at e9
  subst e9
  by_cases hc : c = 0
  · subst hc
    exact okt_yes (hp rfl)
  · exact okt_no hc
theorem open_op {u : Int} {A B : Mem} (h : St u A.1 B.2.1) (p1 p2 : Int32) : (okx_X11_open_1 A p1 p2 ∧ ok_X12_open B p1 p2 ∧ f_X12_open B p1 p2 = (0, T0 B 1)) ∨ (okx_X11_open_2 A p1 p2 ∧ ok_X12_open B p1 p2 ∧ f_X12_open B p1 p2 = (0, T0 B 1)) ∨ (okx_X11_open_3 A p1 p2 ∧ ok_X12_open B p1 p2 ∧ f_X12_open B p1 p2 = (0, T0 B (nI 2))) ∨ (ok_X11_open A p1 p2 ∧ ok_X12_open B p1 p2 ∧ Good u (f_X11_open A p1 p2) (f_X12_open B p1 p2)) := by
  rcases hol_cases p1 with ⟨b1, b2, b3⟩ | ⟨b1, b2⟩
  · have sB : A.1 kBankOf (f_X3_holder A p1) = B.2.1 kBankOf (ix p1) := by
      rw [holder_in b1]
      exact h.1.sh kBankOf _ b1.2
    rcases bnk_cases p2 with ⟨d1, d2, d3⟩ | ⟨d1, d2⟩
    · have h5 : (if (1 : Int32) = 0 then (0) else (lt (f_X12_isBank B p2) (fun (v3 : Int32) => if v3 = 0 then (0) else (1)))) = (1 : Int32) := by rw [if_neg c1, d3, l1]
      have sF : A.1 kHaveFailed (f_X3_bank A p2) = B.2.1 kHaveFailed (ix p2) := by
        rw [bank_in d1]
        exact h.1.sh kHaveFailed _ d1.2
      by_cases c : B.2.1 kBankOf (ix p1) = -1
      · by_cases c' : B.2.1 kHaveFailed (ix p2) = 0
        · have h12 : (if (1 : Int32) = 0 then (1) else (lt (f_X12_hasAccount B p1) (fun (v8 : Int32) => if v8 = 0 then (if (B.2.1 kHaveFailed (ix p2)) = 0 then (0) else (nI 2)) else (nI 2)))) = 0 := by rw [if_neg c1, acct_R, if_pos c, l0, if_pos c']
          have hB := (open_f 1 1 (b3 B) h5 h12).2 rfl
          obtain ⟨S7, s1, s2, ⟨s3, s4⟩, -, -, s5⟩ := h.zero
          rw [s1] at hB
          have hw := no_wait (i := ix p1) s4 (by rw [s5 kBankOf (by decide)]; exact c)
          have ha : S7.2.1 kAccounts (ix p1) = 0 := by
            have := (s4.1 (ix p1) b1.2).2.1
            exact this (by rw [s5 kBankOf (by decide)]; exact c)
          have q1 : Rel (upd2 A.1 kBankOf (ix p1) p2) (upd2 S7.2.1 kBankOf (ix p1) p2) 0 := s3.bank rfl hw
          have q2 : Num u u 171000000 (upd2 S7.2.1 kBankOf (ix p1) p2) := N_bank s4 (Or.inr ⟨d1, by rw [s5 kHaveFailed (by decide)]; exact c'⟩) ha hw
          have eA : f_X11_open A p1 p2 = (iter (b4_X3_accountsAt (upd2 A.1 kBankOf (ix p1) p2, A.2) p2) 0 16, (upd2 A.1 kBankOf (ix p1) p2, A.2)) := by
            unfold f_X11_open f_X3_accountsAt
            rw [lt_x, lt_x, lt_x, lt_x, holder_in b1]
          refine Or.inr (Or.inr (Or.inr ⟨⟨b2 A, d2 A, fun v5 e5 => ?_⟩, open_k 1 1 (b3 B) h5 h12 (fun _ => ⟨b1, d1⟩) (fun _ => b1), ?_⟩))
          · rw [sB, if_pos c, sF, if_pos c'] at e5
            rw [← e5]
            exact c1
          · refine (Good.mk (u := u) (x := (iter (b4_X3_accountsAt (upd2 A.1 kBankOf (ix p1) p2, A.2) p2) 0 16, (upd2 A.1 kBankOf (ix p1) p2, A.2))) (y := (iter (b72_X12_open p2 (S7.1, upd2 S7.2.1 kBankOf (ix p1) p2, S7.2.2)) 0 16, (S7.1, upd2 S7.2.1 kBankOf (ix p1) p2, S7.2.2))) s2 ?_ q1 q2).of eA hB
            show iter (b72_X12_open p2 _) (0 : Int32) 16 = iter (b4_X3_accountsAt _ p2) (0 : Int32) 16
            refine iter_congr 16 (fun j hj σ => ?_)
            unfold b72_X12_open b4_X3_accountsAt
            rw [holder_nI hj, lt_x, lt_x]
            rw [show (((upd2 A.1 kBankOf (ix p1) p2, A.2) : Mem).1 kBankOf j) = ((S7.1, upd2 S7.2.1 kBankOf (ix p1) p2, S7.2.2) : Mem).2.1 kBankOf j from q1.sh kBankOf j hj]
        · have h12 : (if (1 : Int32) = 0 then (1) else (lt (f_X12_hasAccount B p1) (fun (v8 : Int32) => if v8 = 0 then (if (B.2.1 kHaveFailed (ix p2)) = 0 then (0) else (nI 2)) else (nI 2)))) = nI 2 := by rw [if_neg c1, acct_R, if_pos c, l0, if_neg c']
          refine Or.inr (Or.inr (Or.inl ⟨⟨b2 A, d2 A, fun v5 e5 => ?_⟩, open_k 1 1 (b3 B) h5 h12 (fun _ => ⟨b1, d1⟩) (fun _ => b1), (open_f 1 1 (b3 B) h5 h12).1 c2⟩))
          rw [sB, if_pos c, sF, if_neg c'] at e5
          exact e5.symm
      · have h12 : (if (1 : Int32) = 0 then (1) else (lt (f_X12_hasAccount B p1) (fun (v8 : Int32) => if v8 = 0 then (if (B.2.1 kHaveFailed (ix p2)) = 0 then (0) else (nI 2)) else (nI 2)))) = nI 2 := by rw [if_neg c1, acct_R, if_neg c, l1]
        refine Or.inr (Or.inr (Or.inl ⟨⟨b2 A, d2 A, fun v5 e5 => ?_⟩, open_k 1 1 (b3 B) h5 h12 (fun _ => ⟨b1, d1⟩) (fun _ => b1), (open_f 1 1 (b3 B) h5 h12).1 c2⟩))
        rw [sB, if_neg c] at e5
        exact e5.symm
    · have h5 : (if (1 : Int32) = 0 then (0) else (lt (f_X12_isBank B p2) (fun (v3 : Int32) => if v3 = 0 then (0) else (1)))) = (0 : Int32) := by rw [if_neg c1, d2, l0]
      have h12 : (if (0 : Int32) = 0 then (1) else (lt (f_X12_hasAccount B p1) (fun (v8 : Int32) => if v8 = 0 then (if (B.2.1 kHaveFailed (ix p2)) = 0 then (0) else (nI 2)) else (nI 2)))) = 1 := if_pos rfl
      exact Or.inr (Or.inl ⟨⟨b2 A, d1 A⟩, open_k 1 0 (b3 B) h5 h12 (fun q => absurd rfl q) (fun q => absurd q c1), (open_f 1 0 (b3 B) h5 h12).1 c1⟩)
  · have h5 : (if (0 : Int32) = 0 then (0) else (lt (f_X12_isBank B p2) (fun (v3 : Int32) => if v3 = 0 then (0) else (1)))) = (0 : Int32) := if_pos rfl
    have h12 : (if (0 : Int32) = 0 then (1) else (lt (f_X12_hasAccount B p1) (fun (v8 : Int32) => if v8 = 0 then (if (B.2.1 kHaveFailed (ix p2)) = 0 then (0) else (nI 2)) else (nI 2)))) = 1 := if_pos rfl
    exact Or.inl ⟨b1 A, open_k 0 0 (b2 B) h5 h12 (fun q => absurd rfl q) (fun q => absurd q c1), (open_f 0 0 (b2 B) h5 h12).1 c1⟩
