/-! queries: ofBank -/
theorem wait_ok {u v L : Int} {A B : Mem} {d : Int32} (h : Rel A.1 B.2.1 d) (n : Num u v L B.2.1) (p : Int32) : f_X10_waitingNet A p = f_X12_waitingNet B p ∧ ok_X10_waitingNet A p ∧ ok_X12_waitingNet B p := by
  have hp : zP (B.2.1 kPayments) (B.2.1 kFroms) (B.2.1 kTos) (B.2.1 kStates) (B.2.1 kAmounts) (B.2.1 kBankOf) (B.2.1 kBlocked) := n.2.2.1
  have sP : A.1 kPayments 0 = B.2.1 kPayments 0 := h.sh kPayments 0 (by decide)
  have hm := hp.1.2
  have hF : zFb (A.1 kFromBank) (A.1 kToBank) (B.2.1 kPayments) (B.2.1 kStates) (B.2.1 kFroms) (B.2.1 kTos) (B.2.1 kBankOf) := h.2.2.2.2.2.2.1
  obtain ⟨F, hF1⟩ : ∃ F : Nat → Int32, F = fun j => if B.2.1 kStates j = 0 then (if B.2.1 kBankOf (ix (B.2.1 kTos j)) = p then B.2.1 kAmounts j else 0) - (if B.2.1 kBankOf (ix (B.2.1 kFroms j)) = p then B.2.1 kAmounts j else 0) else 0 := ⟨_, rfl⟩
  have eA : f_X10_waitingNet A p = 0 + s32 F (ix (B.2.1 kPayments 0)) := by
    unfold f_X10_waitingNet
    rw [lt_x, sP]
    refine s32_iter 0 _ (fun j hj σ => ?_)
    have sS : A.1 kStates j = B.2.1 kStates j := h.sh kStates j (show j < 200 by omega)
    have sA : A.1 kAmounts j = B.2.1 kAmounts j := h.sh kAmounts j (show j < 200 by omega)
    unfold b4_X10_waitingNet
    rw [at10_nI (show j < 200 by omega), lt_x, sS, hF1]
    by_cases c : B.2.1 kStates j = 0
    · obtain ⟨q1, q2⟩ := hF j hj c
      rw [if_pos c, lt_x]
      unfold f_X9_netFor
      rw [lt_x, lt_x, q1, q2, sA]
      show _ = σ + (if B.2.1 kStates j = 0 then _ else 0)
      rw [if_pos c]
    · rw [if_neg c]
      show _ = σ + (if B.2.1 kStates j = 0 then _ else 0)
      rw [if_neg c]
  have eB : f_X12_waitingNet B p = 0 + s32 F (ix (B.2.1 kPayments 0)) := by
    unfold f_X12_waitingNet
    rw [lt_x]
    refine s32_iter 0 _ (fun j hj σ => ?_)
    unfold b4_X12_waitingNet
    rw [lt_x, hF1]
    by_cases c : B.2.1 kStates j = 0
    · rw [if_pos c, lt_x, lt_x]
      show _ = σ + (if B.2.1 kStates j = 0 then _ else 0)
      rw [if_pos c]
      grind
    · rw [if_neg c]
      show _ = σ + (if B.2.1 kStates j = 0 then _ else 0)
      rw [if_neg c]
      grind
  refine ⟨by rw [eA, eB], fun j hj σ _ => ?_, fun j hj σ _ => hp.1.1, fun j hj σ _ => ⟨by omega, fun _ => ?_⟩⟩
  · rw [sP]
    exact hp.1.1
  · have q := hp.2.1 j hj
    exact ⟨by omega, q.2.1, fun _ => by omega, fun _ _ => ⟨by omega, q.1, fun _ => by omega⟩⟩
theorem ofBank_k {B : Mem} {p1 p2 c : Int32} (v1 : Int32) (h1 : f_X12_isBank B p1 = v1) (h5 : (if v1 = 0 then (1) else (lt (f_X12_in B p2 0 (nI 9)) (fun (v3 : Int32) => if v3 = 0 then (nI 2) else (0)))) = c) (hc : c ≠ 0) : ok_X12_ofBank B p1 p2 ∧ f_X12_ofBank B p1 p2 = (0, T0 B c) := by
  constructor
  · intro w1 e1 w5 e5
    rw [h1] at e1
    subst e1
    rw [h5] at e5
    subst e5
    exact okt_no hc
  · unfold f_X12_ofBank
    rw [h1, lt_x, h5, lt_x, tail_no hc]
theorem ofBank_q {u : Int} {A B : Mem} (h : St u A.1 B.2.1) (p1 p2 : Int32) : (okx_X11_ofBank_1 A p1 p2 ∧ ok_X12_ofBank B p1 p2 ∧ f_X12_ofBank B p1 p2 = (0, T0 B 1)) ∨ (okx_X11_ofBank_2 A p1 p2 ∧ ok_X12_ofBank B p1 p2 ∧ f_X12_ofBank B p1 p2 = (0, T0 B (nI 2))) ∨ (ok_X11_ofBank A p1 p2 ∧ ok_X12_ofBank B p1 p2 ∧ Goq u A (f_X11_ofBank A p1 p2) (f_X12_ofBank B p1 p2)) := by
  rcases bnk_cases p1 with ⟨b1, b2, b3⟩ | ⟨b1, b2⟩
  · rcases rng_cases p2 0 (nI 9) with ⟨r1, r2, r3, r4⟩ | ⟨r1, r2⟩
    · obtain ⟨S7, s1, s2, s3, -, -, s5⟩ := h.zero
      have hau : inb (S7.2.1 kAuctions 0) 21 := s3.2.2.2.2.2.2.1.1
      have hlo : inb (S7.2.1 kLoans 0) 21 := s3.2.2.2.2.2.2.2.1.1
      obtain ⟨b, hb, rfl⟩ : ∃ b, b < 4 ∧ p1 = nI b := ⟨ix p1, b1.2, b1.1⟩
      have eb : ix (nI b) = b := ix_nI (by omega)
      obtain ⟨y1, y2, y3⟩ := wait_ok s3.1 s3.2 (nI b)
      have hok : ok_X12_ofBank B (nI b) p2 := by
        intro w1 e1 w5 e5
        rw [b3] at e1
        subst e1
        rw [if_neg c1, r4, lt_x, if_neg c1] at e5
        subst e5
        refine okt_yes ?_
        rw [s1]
        exact ⟨fun _ => ⟨fun _ => ⟨fun _ => b1, fun _ => b1⟩, fun _ => ⟨fun _ => ⟨fun _ => y3, fun _ => (cap_R hau hlo hb).2⟩, fun _ => b1⟩⟩, fun _ => ⟨fun _ => ⟨fun _ => ⟨fun _ => fun _ => (left_R hlo).2, fun _ => (of_R hau (by omega)).2⟩, fun _ => b1⟩, fun _ => b1⟩⟩
      refine Or.inr (Or.inr ⟨⟨b2 A, r3 A, fun _ _ => ⟨fun _ => (of_C s3.1 hau (by omega)).2, fun _ => ⟨fun _ => (left_C s3.1 hlo).2, fun _ _ _ => ⟨fun _ => (cap_C s3.1 hau hlo hb).2, fun _ _ => y2⟩⟩⟩⟩, hok, ?_⟩)
      have h5 : (if (1 : Int32) = 0 then (1 : Int32) else (lt (f_X12_in B p2 0 (nI 9)) (fun (v3 : Int32) => if v3 = 0 then (nI 2) else (0)))) = 0 := by
        rw [if_neg c1, r4, lt_x, if_neg c1]
      obtain ⟨k, hk, rfl⟩ := nI_cases (by omega) r1 r2
      rcases (by omega : k = 0 ∨ k = 1 ∨ k = 2 ∨ k = 3 ∨ k = 4 ∨ k = 5 ∨ k = 6 ∨ k = 7 ∨ k = 8 ∨ k = 9) with rfl | rfl | rfl | rfl | rfl | rfl | rfl | rfl | rfl | rfl
      · have eA : f_X11_ofBank A (nI b) (nI 0) = A.1 kReserves b := by
          unfold f_X11_ofBank
          rw [if_pos (rfl : nI 0 = nI 0), bank_nI hb]
        have eB : f_X12_ofBank B (nI b) (nI 0) = (S7.2.1 kReserves b, S7) := by
          unfold f_X12_ofBank
          rw [b3, lt_x, h5, lt_x, tail_yes, s1]
          rw [if_neg (show ¬ (nI 5 ≤ nI 0) by decide), if_pos (show nI 0 = 0 by decide), lt_x, eb]
        rw [eA, eB]
        exact ⟨s2, (s3.1.sh kReserves b hb).symm, s3⟩
      · have eA : f_X11_ofBank A (nI b) (nI 1) = A.1 kVaults b := by
          unfold f_X11_ofBank
          rw [if_neg (show ¬ (nI 1 = nI 0) by decide), if_pos (rfl : nI 1 = nI 1), bank_nI hb]
        have eB : f_X12_ofBank B (nI b) (nI 1) = (S7.2.1 kVaults b, S7) := by
          unfold f_X12_ofBank
          rw [b3, lt_x, h5, lt_x, tail_yes, s1]
          rw [if_neg (show ¬ (nI 5 ≤ nI 1) by decide), if_neg (show ¬ (nI 1 = 0) by decide), if_pos (show nI 1 = 1 by decide), lt_x, eb]
        rw [eA, eB]
        exact ⟨s2, (s3.1.sh kVaults b hb).symm, s3⟩
      · have eA : f_X11_ofBank A (nI b) (nI 2) = bonS S7.2.1 b := by
          unfold f_X11_ofBank
          rw [if_neg (show ¬ (nI 2 = nI 0) by decide), if_neg (show ¬ (nI 2 = nI 1) by decide), if_pos (rfl : nI 2 = nI 2), lt_x, (of_C s3.1 hau (show b < 5 by omega)).1]
        have eB : f_X12_ofBank B (nI b) (nI 2) = (bonS S7.2.1 b, S7) := by
          unfold f_X12_ofBank
          rw [b3, lt_x, h5, lt_x, tail_yes, s1]
          rw [if_neg (show ¬ (nI 5 ≤ nI 2) by decide), if_neg (show ¬ (nI 2 = 0) by decide), if_neg (show ¬ (nI 2 = 1) by decide), if_pos (show nI 2 = (nI 2) by decide), lt_x, lt_x, (of_R hau (show b < 5 by omega)).1]
        rw [eA, eB]
        exact ⟨s2, rfl, s3⟩
      · have eA : f_X11_ofBank A (nI b) (nI 3) = loaS S7.2.1 (nI b) := by
          unfold f_X11_ofBank
          rw [if_neg (show ¬ (nI 3 = nI 0) by decide), if_neg (show ¬ (nI 3 = nI 1) by decide), if_neg (show ¬ (nI 3 = nI 2) by decide), if_pos (rfl : nI 3 = nI 3), lt_x, (left_C s3.1 hlo).1]
        have eB : f_X12_ofBank B (nI b) (nI 3) = (loaS S7.2.1 (nI b), S7) := by
          unfold f_X12_ofBank
          rw [b3, lt_x, h5, lt_x, tail_yes, s1]
          rw [if_neg (show ¬ (nI 5 ≤ nI 3) by decide), if_neg (show ¬ (nI 3 = 0) by decide), if_neg (show ¬ (nI 3 = 1) by decide), if_neg (show ¬ (nI 3 = (nI 2)) by decide), if_pos (show nI 3 = (nI 3) by decide), lt_x, lt_x, (left_R hlo).1]
        rw [eA, eB]
        exact ⟨s2, rfl, s3⟩
      · have eA : f_X11_ofBank A (nI b) (nI 4) = accS S7.2.1 (nI b) := by
          unfold f_X11_ofBank
          rw [if_neg (show ¬ (nI 4 = nI 0) by decide), if_neg (show ¬ (nI 4 = nI 1) by decide), if_neg (show ¬ (nI 4 = nI 2) by decide), if_neg (show ¬ (nI 4 = nI 3) by decide), if_pos (rfl : nI 4 = nI 4), lt_x, acc_C s3.1]
        have eB : f_X12_ofBank B (nI b) (nI 4) = (accS S7.2.1 (nI b), S7) := by
          unfold f_X12_ofBank
          rw [b3, lt_x, h5, lt_x, tail_yes, s1]
          rw [if_neg (show ¬ (nI 5 ≤ nI 4) by decide), if_neg (show ¬ (nI 4 = 0) by decide), if_neg (show ¬ (nI 4 = 1) by decide), if_neg (show ¬ (nI 4 = (nI 2)) by decide), if_neg (show ¬ (nI 4 = (nI 3)) by decide), lt_x, lt_x, acc_R]
        rw [eA, eB]
        exact ⟨s2, rfl, s3⟩
      · have eA : f_X11_ofBank A (nI b) (nI 5) = A.1 kLent b := by
          unfold f_X11_ofBank
          rw [if_neg (show ¬ (nI 5 = nI 0) by decide), if_neg (show ¬ (nI 5 = nI 1) by decide), if_neg (show ¬ (nI 5 = nI 2) by decide), if_neg (show ¬ (nI 5 = nI 3) by decide), if_neg (show ¬ (nI 5 = nI 4) by decide), if_pos (rfl : nI 5 = nI 5), bank_nI hb]
        have eB : f_X12_ofBank B (nI b) (nI 5) = (S7.2.1 kLent b, S7) := by
          unfold f_X12_ofBank
          rw [b3, lt_x, h5, lt_x, tail_yes, s1]
          rw [if_pos (show (nI 5 ≤ nI 5) by decide), if_neg (show ¬ (nI 8 ≤ nI 5) by decide), if_pos (rfl : nI 5 = nI 5), lt_x, eb]
        rw [eA, eB]
        exact ⟨s2, (s3.1.sh kLent b hb).symm, s3⟩
      · have eA : f_X11_ofBank A (nI b) (nI 6) = capS S7.2.1 b := by
          unfold f_X11_ofBank
          rw [if_neg (show ¬ (nI 6 = nI 0) by decide), if_neg (show ¬ (nI 6 = nI 1) by decide), if_neg (show ¬ (nI 6 = nI 2) by decide), if_neg (show ¬ (nI 6 = nI 3) by decide), if_neg (show ¬ (nI 6 = nI 4) by decide), if_neg (show ¬ (nI 6 = nI 5) by decide), if_pos (rfl : nI 6 = nI 6), lt_x, (cap_C s3.1 hau hlo hb).1]
        have eB : f_X12_ofBank B (nI b) (nI 6) = (capS S7.2.1 b, S7) := by
          unfold f_X12_ofBank
          rw [b3, lt_x, h5, lt_x, tail_yes, s1]
          rw [if_pos (show (nI 5 ≤ nI 6) by decide), if_neg (show ¬ (nI 8 ≤ nI 6) by decide), if_neg (show ¬ (nI 6 = nI 5) by decide), if_pos (rfl : nI 6 = nI 6), lt_x, lt_x, (cap_R hau hlo hb).1]
        rw [eA, eB]
        exact ⟨s2, rfl, s3⟩
      · have eA : f_X11_ofBank A (nI b) (nI 7) = f_X12_waitingNet S7 (nI b) := by
          unfold f_X11_ofBank
          rw [if_neg (show ¬ (nI 7 = nI 0) by decide), if_neg (show ¬ (nI 7 = nI 1) by decide), if_neg (show ¬ (nI 7 = nI 2) by decide), if_neg (show ¬ (nI 7 = nI 3) by decide), if_neg (show ¬ (nI 7 = nI 4) by decide), if_neg (show ¬ (nI 7 = nI 5) by decide), if_neg (show ¬ (nI 7 = nI 6) by decide), if_pos (rfl : nI 7 = nI 7), lt_x, y1]
        have eB : f_X12_ofBank B (nI b) (nI 7) = (f_X12_waitingNet S7 (nI b), S7) := by
          unfold f_X12_ofBank
          rw [b3, lt_x, h5, lt_x, tail_yes, s1]
          rw [if_pos (show (nI 5 ≤ nI 7) by decide), if_neg (show ¬ (nI 8 ≤ nI 7) by decide), if_neg (show ¬ (nI 7 = nI 5) by decide), if_neg (show ¬ (nI 7 = nI 6) by decide), lt_x, lt_x]
        rw [eA, eB]
        exact ⟨s2, rfl, s3⟩
      · have eA : f_X11_ofBank A (nI b) (nI 8) = (if A.1 kAreShort b = 0 then 0 else 1) := by
          unfold f_X11_ofBank
          rw [if_neg (show ¬ (nI 8 = nI 0) by decide), if_neg (show ¬ (nI 8 = nI 1) by decide), if_neg (show ¬ (nI 8 = nI 2) by decide), if_neg (show ¬ (nI 8 = nI 3) by decide), if_neg (show ¬ (nI 8 = nI 4) by decide), if_neg (show ¬ (nI 8 = nI 5) by decide), if_neg (show ¬ (nI 8 = nI 6) by decide), if_neg (show ¬ (nI 8 = nI 7) by decide), if_pos (rfl : nI 8 = nI 8), bank_nI hb, lt_x]
        have eB : f_X12_ofBank B (nI b) (nI 8) = ((if S7.2.1 kAreShort b = 0 then 0 else 1), S7) := by
          unfold f_X12_ofBank
          rw [b3, lt_x, h5, lt_x, tail_yes, s1]
          rw [if_pos (show (nI 5 ≤ nI 8) by decide), if_pos (show (nI 8 ≤ nI 8) by decide), if_pos (rfl : nI 8 = nI 8), lt_x, eb]
        rw [eA, eB, s3.1.sh kAreShort b hb]
        exact ⟨s2, rfl, s3⟩
      · have eA : f_X11_ofBank A (nI b) (nI 9) = (if A.1 kHaveFailed b = 0 then 0 else 1) := by
          unfold f_X11_ofBank
          rw [if_neg (show ¬ (nI 9 = nI 0) by decide), if_neg (show ¬ (nI 9 = nI 1) by decide), if_neg (show ¬ (nI 9 = nI 2) by decide), if_neg (show ¬ (nI 9 = nI 3) by decide), if_neg (show ¬ (nI 9 = nI 4) by decide), if_neg (show ¬ (nI 9 = nI 5) by decide), if_neg (show ¬ (nI 9 = nI 6) by decide), if_neg (show ¬ (nI 9 = nI 7) by decide), if_neg (show ¬ (nI 9 = nI 8) by decide), bank_nI hb, lt_x]
        have eB : f_X12_ofBank B (nI b) (nI 9) = ((if S7.2.1 kHaveFailed b = 0 then 0 else 1), S7) := by
          unfold f_X12_ofBank
          rw [b3, lt_x, h5, lt_x, tail_yes, s1]
          rw [if_pos (show (nI 5 ≤ nI 9) by decide), if_pos (show (nI 8 ≤ nI 9) by decide), if_neg (show ¬ (nI 9 = nI 8) by decide), lt_x, eb]
        rw [eA, eB, s3.1.sh kHaveFailed b hb]
        exact ⟨s2, rfl, s3⟩
    · exact Or.inr (Or.inl ⟨⟨b2 A, r1 A⟩, ofBank_k 1 (b3 B) (by rw [if_neg c1, r2, lt_x, if_pos rfl]) (by decide)⟩)
  · exact Or.inl ⟨b1 A, ofBank_k 0 (b2 B) (by rw [if_pos rfl]) (by decide)⟩
