/-! what a loan's holder pays to what has it -/
def endR (R : Col) (j : Nat) (m : Int32) : Col :=
  if R kBankOf (ix (R kLoanHolders j)) = R kLoanBanks j then upd2 R kAccounts (ix (R kLoanHolders j)) (R kAccounts (ix (R kLoanHolders j)) - m)
  else if R kLoanBanks j = nI 4 then upd2 (upd2 R kAccounts (ix (R kLoanHolders j)) (R kAccounts (ix (R kLoanHolders j)) - m)) kReserves (ix (R kBankOf (ix (R kLoanHolders j)))) (R kReserves (ix (R kBankOf (ix (R kLoanHolders j)))) - m)
  else upd2 (upd2 (upd2 R kAccounts (ix (R kLoanHolders j)) (R kAccounts (ix (R kLoanHolders j)) - m)) kReserves (ix (R kBankOf (ix (R kLoanHolders j)))) (R kReserves (ix (R kBankOf (ix (R kLoanHolders j)))) - m)) kReserves (ix (R kLoanBanks j)) (R kReserves (ix (R kLoanBanks j)) + m)
theorem endR_off {R : Col} {j k : Nat} {m : Int32} (h8 : k ≠ 8) (h16 : k ≠ 16) : endR R j m k = R k := by
  unfold endR
  split
  · exact u_ne h8
  · split
    · rw [u_ne h16, u_ne h8]
    · rw [u_ne h16, u_ne h16, u_ne h8]
theorem endR_0 {R : Col} {j : Nat} : endR R j 0 = R := by
  have e1 : ∀ x : Int32, x - 0 = x := fun x => by grind
  have e2 : ∀ x : Int32, x + 0 = x := fun x => Int32.add_zero x
  unfold endR
  rw [e1, e1, e2, uu_same]
  split
  · rfl
  · split
    · exact uu_same
    · rw [uu_same, uu_same]
theorem canO_ok {u v L : Int} {A B : Mem} {d m : Int32} {j : Nat} (h : Rel A.1 B.2.1 d) (n : Num u v L B.2.1) (hj : j < ix (B.2.1 kLoans 0)) (hm : 1 ≤ m.toInt) : f_X3_canPayOwner A j m = f_X12_canPay B (nI j) m ∧ ok_X12_canPay B (nI j) m ∧ (f_X12_canPay B (nI j) m = 0 ∨ (f_X12_canPay B (nI j) m = 1 ∧ inb (B.2.1 kBankOf (ix (B.2.1 kLoanHolders j))) 4 ∧ m.toInt ≤ (B.2.1 kAccounts (ix (B.2.1 kLoanHolders j))).toInt - (B.2.1 kBlocked (ix (B.2.1 kLoanHolders j))).toInt ∧ (B.2.1 kBankOf (ix (B.2.1 kLoanHolders j)) = B.2.1 kLoanBanks j ∨ m.toInt ≤ (B.2.1 kReserves (ix (B.2.1 kBankOf (ix (B.2.1 kLoanHolders j))))).toInt))) := by
  have hl := n.2.2.2.2.2.2.1
  have hj20 : j < 20 := by
    have := hl.1.2
    omega
  obtain ⟨hx, hlb, -⟩ := hl.2.1 j hj
  have ej : ix (nI j) = j := ix_nI (by omega)
  have hH : A.1 kLoanHolders j = B.2.1 kLoanHolders j := h.sh kLoanHolders j hj20
  have hLb : A.1 kLoanBanks j = B.2.1 kLoanBanks j := h.sh kLoanBanks j hj20
  have hBx : A.1 kBankOf (ix (B.2.1 kLoanHolders j)) = B.2.1 kBankOf (ix (B.2.1 kLoanHolders j)) := h.sh kBankOf _ hx.2
  have hA : A.1 kAccounts (ix (B.2.1 kLoanHolders j)) = B.2.1 kAccounts (ix (B.2.1 kLoanHolders j)) := h.sh kAccounts _ hx.2
  have hB : A.1 kBlocked (ix (B.2.1 kLoanHolders j)) = B.2.1 kBlocked (ix (B.2.1 kLoanHolders j)) := h.sh kBlocked _ hx.2
  obtain ⟨q1, q2, q3, q4, -, -⟩ := n.1 _ hx.2
  have hi := w_hi (B.2.1 kAccounts (ix (B.2.1 kLoanHolders j)))
  have ef : (B.2.1 kAccounts (ix (B.2.1 kLoanHolders j)) - B.2.1 kBlocked (ix (B.2.1 kLoanHolders j))).toInt = (B.2.1 kAccounts (ix (B.2.1 kLoanHolders j))).toInt - (B.2.1 kBlocked (ix (B.2.1 kLoanHolders j))).toInt := by
    rw [w_sub]
    omega
  have i20 : inb (nI j) 20 := inb_nI hj20 (by omega)
  simp only [f_X3_canPayOwner, f_X12_canPay, f_X12_hasAccount, f_X12_free, f_X5_free, lt_x, ej, hH, holder_in hx, hLb, hBx, hA, hB]
  rcases q1 with q1 | ⟨q1, q5⟩
  · have z := q2 q1
    have c3 : B.2.1 kAccounts (ix (B.2.1 kLoanHolders j)) - B.2.1 kBlocked (ix (B.2.1 kLoanHolders j)) < m := by
      rw [w_lt, ef, z, w_0]
      omega
    simp only [c3, q1, if_true]
    refine ⟨trivial, ?_, Or.inl trivial⟩
    refine ⟨i20, by show inb (B.2.1 kLoanHolders (ix (nI j))) 16; rw [ej]; exact hx, fun v3 e3 c => ?_⟩
    simp only [f_X12_hasAccount, lt_x, ej, q1, if_true] at e3
    exact absurd e3.symm c
  · have c1 : ¬ B.2.1 kBankOf (ix (B.2.1 kLoanHolders j)) = -1 := inb_ne q1
    have hRe : A.1 kReserves (ix (B.2.1 kBankOf (ix (B.2.1 kLoanHolders j)))) = B.2.1 kReserves (ix (B.2.1 kBankOf (ix (B.2.1 kLoanHolders j)))) := h.sh kReserves _ q1.2
    simp only [c1, if_false, z10, bank_in q1, hRe]
    refine ⟨trivial, ?_, ?_⟩
    · refine ⟨i20, by show inb (B.2.1 kLoanHolders (ix (nI j))) 16; rw [ej]; exact hx, fun v3 e3 c => ?_⟩
      rw [ej]
      refine ⟨⟨hx, hx⟩, fun v6 e6 c6 => ⟨hx, i20, fun _ => ⟨hx, q1⟩⟩⟩
    · by_cases c3 : B.2.1 kAccounts (ix (B.2.1 kLoanHolders j)) - B.2.1 kBlocked (ix (B.2.1 kLoanHolders j)) < m
      · rw [if_pos c3]
        exact Or.inl rfl
      rw [if_neg c3]
      rw [w_lt, ef] at c3
      by_cases c4 : B.2.1 kBankOf (ix (B.2.1 kLoanHolders j)) = B.2.1 kLoanBanks j
      · rw [if_pos c4]
        exact Or.inr ⟨rfl, q1, by omega, Or.inl c4⟩
      rw [if_neg c4]
      by_cases c5 : B.2.1 kReserves (ix (B.2.1 kBankOf (ix (B.2.1 kLoanHolders j)))) < m
      · rw [if_pos c5]
        exact Or.inl rfl
      · rw [if_neg c5]
        rw [w_lt] at c5
        exact Or.inr ⟨rfl, q1, by omega, Or.inr (by omega)⟩
theorem canO_0 {u v L : Int} {A : Mem} {R : Col} {d : Int32} {j : Nat} (h : Rel A.1 R d) (n : Num u v L R) (hj : j < ix (R kLoans 0)) : f_X3_canPayOwner A j 0 = 1 := by
  have hl := n.2.2.2.2.2.2.1
  have hj20 : j < 20 := by
    have := hl.1.2
    omega
  obtain ⟨hx, hlb, -⟩ := hl.2.1 j hj
  have hH : A.1 kLoanHolders j = R kLoanHolders j := h.sh kLoanHolders j hj20
  have hBx : A.1 kBankOf (ix (R kLoanHolders j)) = R kBankOf (ix (R kLoanHolders j)) := h.sh kBankOf _ hx.2
  have hA : A.1 kAccounts (ix (R kLoanHolders j)) = R kAccounts (ix (R kLoanHolders j)) := h.sh kAccounts _ hx.2
  have hB : A.1 kBlocked (ix (R kLoanHolders j)) = R kBlocked (ix (R kLoanHolders j)) := h.sh kBlocked _ hx.2
  obtain ⟨q1, q2, q3, q4, -, -⟩ := n.1 _ hx.2
  have hi := w_hi (R kAccounts (ix (R kLoanHolders j)))
  have c3 : ¬ R kAccounts (ix (R kLoanHolders j)) - R kBlocked (ix (R kLoanHolders j)) < 0 := by
    rw [w_lt, w_sub, w_0]
    omega
  have c4 : ¬ A.1 kReserves (f_X3_bank A (R kBankOf (ix (R kLoanHolders j)))) < 0 := by
    rcases q1 with q1 | ⟨q1, -⟩
    · rw [q1, bank_no, h.2.2.2.2.2.2.2.2]
      decide
    · have hb := (n.2.2.2.1 _ q1.2).1
      have e : A.1 kReserves (ix (R kBankOf (ix (R kLoanHolders j)))) = R kReserves (ix (R kBankOf (ix (R kLoanHolders j)))) := h.sh kReserves _ q1.2
      rw [bank_in q1, e, w_lt, w_0]
      omega
  simp only [f_X3_canPayOwner, f_X5_free, lt_x, hH, holder_in hx, hBx, hA, hB, c3, c4, if_false]
  split <;> rfl
