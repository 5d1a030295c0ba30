/-! sums of both sides: accounts, bonds, loans, capital, room -/
def accS (R : Col) (x : Int32) : Int32 := s32 (fun i => if R kBankOf i = x then R kAccounts i else 0) 16
theorem acc_C {A : Mem} {R : Col} {d x : Int32} (h : Rel A.1 R d) : f_X3_inAccountsAt A x = accS R x := by
  unfold f_X3_inAccountsAt accS
  rw [lt_x, s32_iter (f := fun i => if R kBankOf i = x then R kAccounts i else 0) 0 16 (fun j hj σ => by
    unfold b4_X3_inAccountsAt
    rw [lt_x, holder_nI hj, h.sh kBankOf j hj, h.sh kAccounts j hj])]
  exact Int32.zero_add _
theorem acc_R {B : Mem} {x : Int32} : f_X12_inAccounts B x = accS B.2.1 x := by
  unfold f_X12_inAccounts accS
  rw [lt_x, s32_iter (f := fun i => if B.2.1 kBankOf i = x then B.2.1 kAccounts i else 0) 0 16 (fun j hj σ => by
    unfold b4_X12_inAccounts
    rw [lt_x])]
  exact Int32.zero_add _
theorem accS_bd {u v L : Int} {R : Col} (n : Num u v L R) (hu : u ≤ 5120000) (x : Int32) : 0 ≤ (accS R x).toInt ∧ (accS R x).toInt ≤ u := by
  have h1 : ∀ i, i < 16 → 0 ≤ (if R kBankOf i = x then R kAccounts i else 0).toInt ∧ (if R kBankOf i = x then R kAccounts i else 0).toInt ≤ (R kAccounts i).toInt + (R kNotes i).toInt := fun i hi => by
    have q := n.1.pos i hi
    split
    · omega
    · rw [w_0]
      omega
  have h2 : sumI (fun i => (if R kBankOf i = x then R kAccounts i else 0).toInt) 16 ≤ u := Int.le_trans (sumI_le 16 (fun i hi => (h1 i hi).2)) n.2.1
  have h3 := s32_toInt (f := fun i => if R kBankOf i = x then R kAccounts i else 0) 16 (fun i hi => (h1 i hi).1) (by omega)
  have h4 := sumI_nonneg (f := fun i => (if R kBankOf i = x then R kAccounts i else 0).toInt) 16 (fun i hi => (h1 i hi).1)
  unfold accS
  omega
theorem of_C {A : Mem} {R : Col} {d : Int32} {o : Nat} (h : Rel A.1 R d) (i0 : inb (R kAuctions 0) 21) (ho : o < 5) : f_X2_of A (nI o) = bonS R o ∧ ok_X2_of A (nI o) := by
  have hc : A.1 kAuctions 0 = R kAuctions 0 := h.sh kAuctions 0 (by decide)
  have h2 := i0.2
  constructor
  · unfold f_X2_of bonS
    rw [lt_x, hc, s32_iter (f := fun k => R kBonds (5 * k + o)) 0 _ (fun j hj σ => by
      unfold b4_X2_of
      rw [lt_x, held_at (by omega) ho, h.sh kBonds _ (show 5 * j + o < 100 by omega)])]
    exact Int32.zero_add _
  · intro j hj σ e
    rw [hc]
    exact i0.1
theorem of_R {B : Mem} {o : Nat} (i0 : inb (B.2.1 kAuctions 0) 21) (ho : o < 5) : f_X12_bondsOf B (nI o) = bonS B.2.1 o ∧ ok_X12_bondsOf B (nI o) := by
  have h2 := i0.2
  constructor
  · unfold f_X12_bondsOf bonS
    rw [lt_x, s32_iter (f := fun k => B.2.1 kBonds (5 * k + o)) 0 _ (fun j hj σ => by
      unfold b4_X12_bondsOf
      rw [place_r, ix_nI (by omega)])]
    exact Int32.zero_add _
  · refine ⟨fun j hj σ e => i0.1, fun j hj σ e => ?_⟩
    rw [place_r]
    exact inb_nI (by omega) (by omega)
theorem bonS_bd {u v L : Int} {R : Col} {o : Nat} (n : Num u v L R) (ho : o < 5) : 0 ≤ (bonS R o).toInt ∧ (bonS R o).toInt ≤ 200000 := by
  have hf := n.2.2.2.2.2.1
  have hn := hf.1.2
  have h1 : ∀ k, k < ix (R kAuctions 0) → 0 ≤ (R kBonds (5 * k + o)).toInt ∧ (R kBonds (5 * k + o)).toInt ≤ 10000 := fun k hk => by
    obtain ⟨p1, p2, -, -⟩ := hf.2 k (by omega)
    have := sumI_one (f := fun o => (R kBonds (5 * k + o)).toInt) 5 o ho (fun i hi => p1 i hi)
    exact ⟨p1 o ho, by omega⟩
  have h2 : sumI (fun k => (R kBonds (5 * k + o)).toInt) (ix (R kAuctions 0)) ≤ sumI (fun _ => 10000) (ix (R kAuctions 0)) := sumI_le _ (fun k hk => (h1 k hk).2)
  rw [sumI_const] at h2
  have h3 := s32_toInt (f := fun k => R kBonds (5 * k + o)) (ix (R kAuctions 0)) (fun k hk => (h1 k hk).1) (by omega)
  have h4 := sumI_nonneg (f := fun k => (R kBonds (5 * k + o)).toInt) (ix (R kAuctions 0)) (fun k hk => (h1 k hk).1)
  unfold bonS
  omega
theorem left_C {A : Mem} {R : Col} {d x : Int32} (h : Rel A.1 R d) (i0 : inb (R kLoans 0) 21) : f_X7_leftOf A x = loaS R x ∧ ok_X7_leftOf A x := by
  have hc : A.1 kLoans 0 = R kLoans 0 := h.sh kLoans 0 (by decide)
  have h2 := i0.2
  constructor
  · unfold f_X7_leftOf loaS
    rw [lt_x, hc, s32_iter (f := fun l => if R kLoanBanks l = x then R kLoanLefts l else 0) 0 _ (fun j hj σ => by
      unfold b4_X7_leftOf
      rw [lt_x, at7_nI (by omega), h.sh kLoanBanks j (show j < 20 by omega), h.sh kLoanLefts j (show j < 20 by omega)])]
    exact Int32.zero_add _
  · intro j hj σ e
    rw [hc]
    exact i0.1
theorem left_R {B : Mem} {x : Int32} (i0 : inb (B.2.1 kLoans 0) 21) : f_X12_loansOf B x = loaS B.2.1 x ∧ ok_X12_loansOf B x := by
  have h2 := i0.2
  constructor
  · unfold f_X12_loansOf loaS
    rw [lt_x, s32_iter (f := fun l => if B.2.1 kLoanBanks l = x then B.2.1 kLoanLefts l else 0) 0 _ (fun j hj σ => by
      unfold b4_X12_loansOf
      rw [lt_x])]
    exact Int32.zero_add _
  · exact ⟨fun j hj σ e => i0.1, fun j hj σ e => ⟨by omega, fun _ => by omega⟩⟩
theorem loaS_bd {u v L : Int} {R : Col} (n : Num u v L R) (x : Int32) : 0 ≤ (loaS R x).toInt ∧ (loaS R x).toInt ≤ 200000 := by
  have hf := n.2.2.2.2.2.2.1
  have hn := hf.1.2
  have h1 : ∀ k, k < ix (R kLoans 0) → 0 ≤ (if R kLoanBanks k = x then R kLoanLefts k else 0).toInt ∧ (if R kLoanBanks k = x then R kLoanLefts k else 0).toInt ≤ 10000 := fun k hk => by
    obtain ⟨-, -, p1, p2, -⟩ := hf.2.1 k hk
    split
    · omega
    · rw [w_0]
      omega
  have h2 : sumI (fun k => (if R kLoanBanks k = x then R kLoanLefts k else 0).toInt) (ix (R kLoans 0)) ≤ sumI (fun _ => 10000) (ix (R kLoans 0)) := sumI_le _ (fun k hk => (h1 k hk).2)
  rw [sumI_const] at h2
  have h3 := s32_toInt (f := fun k => if R kLoanBanks k = x then R kLoanLefts k else 0) (ix (R kLoans 0)) (fun k hk => (h1 k hk).1) (by omega)
  have h4 := sumI_nonneg (f := fun k => (if R kLoanBanks k = x then R kLoanLefts k else 0).toInt) (ix (R kLoans 0)) (fun k hk => (h1 k hk).1)
  unfold loaS
  omega
def capS (R : Col) (b : Nat) : Int32 := R kReserves b + R kVaults b + bonS R b + loaS R (nI b) - accS R (nI b) - R kLent b
theorem cap_C {A : Mem} {R : Col} {d : Int32} {b : Nat} (h : Rel A.1 R d) (i0 : inb (R kAuctions 0) 21) (i1 : inb (R kLoans 0) 21) (hb : b < 4) : f_X11_capitalOf A (nI b) = capS R b ∧ ok_X11_capitalOf A (nI b) := by
  obtain ⟨a1, a2⟩ := of_C (o := b) h i0 (by omega)
  obtain ⟨l1, l2⟩ := left_C (x := nI b) h i1
  constructor
  · unfold f_X11_capitalOf capS
    rw [lt_x, lt_x, lt_x, a1, l1, acc_C h, bank_nI hb, h.sh kReserves b hb, h.sh kVaults b hb, h.sh kLent b hb]
  · exact ⟨a2, fun _ _ => l2⟩
theorem cap_R {B : Mem} {b : Nat} (i0 : inb (B.2.1 kAuctions 0) 21) (i1 : inb (B.2.1 kLoans 0) 21) (hb : b < 4) : f_X12_capital B (nI b) = capS B.2.1 b ∧ ok_X12_capital B (nI b) := by
  obtain ⟨a1, a2⟩ := of_R (B := B) (o := b) i0 (by omega)
  obtain ⟨l1, l2⟩ := left_R (B := B) (x := nI b) i1
  have ib : inb (nI b) 4 := inb_nI hb (by omega)
  constructor
  · unfold f_X12_capital capS
    rw [lt_x, lt_x, lt_x, a1, l1, acc_R, ix_nI (by omega)]
  · exact ⟨ib, ib, a2, fun _ _ => ⟨l2, fun _ _ _ _ => ib⟩⟩
theorem capS_toInt {u v L : Int} {R : Col} {b : Nat} (n : Num u v L R) (hu : u ≤ 5120000) (hv : v ≤ 5120000) (hL : L ≤ 190000000) (hb : b < 4) : (capS R b).toInt = (R kReserves b).toInt + (R kVaults b).toInt + (bonS R b).toInt + (loaS R (nI b)).toInt - (accS R (nI b)).toInt - (R kLent b).toInt := by
  have h1 := re_hi n hv hb
  have h2 := bonS_bd (o := b) n (by omega)
  have h3 := loaS_bd n (nI b)
  have h4 := accS_bd n hu (nI b)
  obtain ⟨p1, p2, p3, p4, -⟩ := n.2.2.2.1 b hb
  unfold capS
  rw [w_sub, w_sub, w_add, w_add, w_add]
  omega
def roomS (R : Col) (b : Nat) : Int32 := nI 90 * bonS R b / nI 100 - R kLent b
theorem i90_toInt : (nI 90).toInt = 90 := nI_toInt (by omega)
theorem ninety {u v L : Int} {R : Col} {o : Nat} (n : Num u v L R) (ho : o < 5) {S : Mem} : f_X11_share S (bonS R o) (nI 90) (nI 100) = nI 90 * bonS R o / nI 100 ∧ (nI 90 * bonS R o / nI 100).toInt = (bonS R o).toInt * 90 / 100 := by
  have h2 := bonS_bd n ho
  obtain ⟨s1, s2⟩ := share_int (S := S) (a := bonS R o) (p := nI 90) (w := nI 100) h2.1 (by rw [i90_toInt]; omega) (by rw [i100_toInt]; omega) (by rw [i90_toInt]; omega)
  rw [i90_toInt, i100_toInt] at s2
  rw [Int32.mul_comm]
  exact ⟨s1, by rw [← s1]; exact s2⟩
theorem room_C {u v L : Int} {A : Mem} {R : Col} {d : Int32} {b : Nat} (h : Rel A.1 R d) (n : Num u v L R) (hb : b < 4) : f_X11_roomAtWindow A (nI b) = roomS R b ∧ ok_X11_roomAtWindow A (nI b) := by
  obtain ⟨a1, a2⟩ := of_C (o := b) h n.2.2.2.2.2.1.1 (by omega)
  constructor
  · unfold f_X11_roomAtWindow roomS
    rw [lt_x, lt_x, a1, (ninety n (by omega)).1, bank_nI hb, h.sh kLent b hb]
  · exact a2
theorem most_eq {S : Mem} {p q : Int32} : f_X12_most S p q = if p ≤ q then q else p := by
  unfold f_X12_most
  rw [lt_x]
theorem room_R {B : Mem} {b : Nat} (i0 : inb (B.2.1 kAuctions 0) 21) (hb : b < 4) : f_X12_room B (nI b) = (if roomS B.2.1 b ≤ 0 then 0 else roomS B.2.1 b) ∧ ok_X12_room B (nI b) := by
  obtain ⟨a1, a2⟩ := of_R (B := B) (o := b) i0 (by omega)
  constructor
  · unfold f_X12_room roomS
    rw [lt_x, lt_x, a1, most_eq, ix_nI (by omega)]
  · exact ⟨a2, fun _ _ => inb_nI hb (by omega)⟩
theorem roomS_toInt {u v L : Int} {R : Col} {b : Nat} (n : Num u v L R) (hL : L ≤ 190000000) (hb : b < 4) : (roomS R b).toInt = (bonS R b).toInt * 90 / 100 - (R kLent b).toInt := by
  have h2 := bonS_bd (o := b) n (by omega)
  obtain ⟨p1, p2, p3, p4, -⟩ := n.2.2.2.1 b hb
  unfold roomS
  rw [w_sub, (ninety n (S := (R, R, 0)) (by omega)).2]
  omega
