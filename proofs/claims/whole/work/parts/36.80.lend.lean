/-! lend -/
theorem lend_f {B : Mem} {p1 p2 p3 p4 c : Int32} (v1 v5 v11 : Int32) (h1 : f_X12_isBank B p1 = v1) (h5 : (if v1 = 0 then (0) else (lt (f_X12_isHolder B p2) (fun (v3 : Int32) => if v3 = 0 then (0) else (1)))) = v5) (h11 : (if v5 = 0 then (0) else (lt (f_X12_in B p3 1 (nI 10000)) (fun (v7 : Int32) => if v7 = 0 then (0) else (lt (f_X12_in B p4 0 (nI 100)) (fun (v9 : Int32) => if v9 = 0 then (0) else (1)))))) = v11) (h17 : (if v5 = 0 then (1) else (if v11 = 0 then (nI 2) else (lt (f_X12_mayLend B p1 p2 p3) (fun (v15 : Int32) => if v15 = 0 then (nI 3) else (0))))) = c) (hm : ¬ v5 = 0 → ok_X12_mayLend B p1 p2 p3) (h0 : c ≠ 0) : ok_X12_lend B p1 p2 p3 p4 ∧ f_X12_lend B p1 p2 p3 p4 = (0, T0 B c) := by
  constructor
  · intro w1 e1 w5 e5 w11 e11
    rw [h1] at e1
    subst e1
    rw [h5] at e5
    subst e5
    rw [h11] at e11
    subst e11
    refine ⟨fun q _ => hm q, fun w17 e17 => ?_⟩
    rw [h17] at e17
    subst e17
    exact okt_no h0
  · unfold f_X12_lend
    rw [h1, lt_x, h5, lt_x, h11, lt_x, h17, lt_x]
    exact tail_no h0 _ _
theorem lon_acc {R : Col} {n i : Nat} {b x m r w : Int32} : upd2 (lonR R n b x m r) kAccounts i w = lonR (upd2 R kAccounts i w) n b x m r := by
  unfold lonR
  rw [u_comm (show kLoans ≠ kAccounts by decide), u_comm (show kLoanRates ≠ kAccounts by decide), u_comm (show kLoanLefts ≠ kAccounts by decide), u_comm (show kLoanBanks ≠ kAccounts by decide), u_comm (show kLoanHolders ≠ kAccounts by decide)]
theorem give_C {X : Mem} {n : Nat} {p1 p2 p3 p4 : Int32} (hX : X.1 kLoans 0 = nI n) (hn : n < 20) : f_X7_give X p1 p2 p3 p4 = (nI n, (lonR X.1 n p1 p2 p3 p4, X.2)) := by
  unfold f_X7_give
  rw [hX, lt_x, at7_nI hn]
  simp only [lt_x]
  rw [show nI n + 1 = nI (n + 1) from nI_add n 1, u_comm (show kLoans ≠ kLoanHolders by decide), u_comm (show kLoans ≠ kLoanBanks by decide), u_comm (show kLoans ≠ kLoanLefts by decide), u_comm (show kLoans ≠ kLoanRates by decide)]
  rfl
theorem mayL_ok {u : Int} {B : Mem} {b : Nat} {p2 p3 : Int32} (n : Num u u 171000000 B.2.1) (hb : b < 4) (hx : inb p2 16) : ok_X12_mayLend B (nI b) p2 p3 := by
  have hau : inb (B.2.1 kAuctions 0) 21 := n.2.2.2.2.2.1.1
  have hlo : inb (B.2.1 kLoans 0) 21 := n.2.2.2.2.2.2.1.1
  exact ⟨hx, fun _ _ => ⟨(cap_R hau hlo hb).2, fun _ _ => (left_R hlo).2⟩⟩
theorem mayL_eq {u : Int} {A B : Mem} {b : Nat} {p2 p3 : Int32} (hu : u ≤ 5120000) (h : St u A.1 B.2.1) (hb : b < 4) (r1 : 1 ≤ p3.toInt) (r2 : p3.toInt ≤ 10000) : f_X11_share A (loaS B.2.1 (nI b) + p3) (A.1 kCapitalRule 0) (nI 100) = (loaS B.2.1 (nI b) + p3) * (B.2.1 kCapitalRule 0) / nI 100 := by
  have ns : 0 ≤ (B.2.1 kCapitalRule 0).toInt ∧ (B.2.1 kCapitalRule 0).toInt ≤ 100 := ⟨h.2.2.2.2.2.2.2.2.2.1.2.2.2.2.1, h.2.2.2.2.2.2.2.2.2.1.2.2.2.2.2.1⟩
  have hl := loaS_bd h.2 (nI b)
  have e : (loaS B.2.1 (nI b) + p3).toInt = (loaS B.2.1 (nI b)).toInt + p3.toInt := by
    rw [w_add]
    omega
  rw [h.1.sh kCapitalRule 0 (by decide)]
  exact (share_int (by omega) ns.1 (by rw [i100_toInt]; omega) (by
    have := Int.mul_le_mul (show (loaS B.2.1 (nI b) + p3).toInt ≤ 210000 by omega) ns.2 ns.1 (by omega)
    omega)).1
