/-! a bank fails, both sides -/
theorem N_ofX {x : Int32} {u v L : Int} {R : Col} (n : NumX x 16 u v L R) : Num u v L R := by
  obtain ⟨nh, rest⟩ := n
  refine ⟨fun i hi => ?_, rest⟩
  obtain ⟨w1, w2, w3, w4, w5, w6, -⟩ := nh i hi
  refine ⟨?_, w2, w3, w4, w5, w6⟩
  rcases w1 with w1 | ⟨w1, w7⟩
  · exact Or.inl w1
  · refine Or.inr ⟨w1, ?_⟩
    rcases w7 with w7 | ⟨-, w8⟩
    · exact w7
    · omega
theorem N_heir {u v L : Int} {R : Col} {b : Nat} {s : Int32} (n : Num u (v - 5120000) L R) (hv : v ≤ 5120000) (hb : b < 4) (h0 : 0 ≤ s.toInt) (h1 : s.toInt ≤ 5120000) : Num u v L (upd2 R kReserves b (R kReserves b + s)) := by
  have hre := re_hi n (by omega) hb
  have e : (R kReserves b + s).toInt = (R kReserves b).toInt + s.toInt := by
    rw [w_add]
    omega
  obtain ⟨nh, nu, np, nb, nv, nf, nl, nd, ns, nw, nq⟩ := n
  refine ⟨nh, nu, np, ?_, ?_, nf, nl, nd, ns, nw, nq⟩
  · show zB L (ru (R kReserves) b (R kReserves b + s)) (R kVaults) (R kLent) (R kLimits) (R kHaveFailed) (R kAreShort)
    intro c hc
    have p := nb c hc
    by_cases z : c = b
    · subst z
      rw [ru_eq, e]
      exact ⟨by omega, p.2⟩
    · rw [ru_ne z]
      exact p
  · show vS (ru (R kReserves) b (R kReserves b + s)) (R kVaults) (R kTreasury) (R kHaveFailed) (R kDays) ≤ v
    rw [vS_re hb, e]
    omega
theorem Num.vmono {u v v2 L : Int} {R : Col} (n : Num u v L R) (h : v ≤ v2) : Num u v2 L R := by
  obtain ⟨nh, nu, np, nb, nv, rest⟩ := n
  exact ⟨nh, nu, np, nb, by omega, rest⟩
theorem i50_toInt : (nI 50).toInt = 50 := nI_toInt (by omega)
theorem fifty {u v L : Int} {R : Col} {x : Int32} (n : Num u v L R) {S : Mem} : f_X11_share S (loaS R x) (nI 50) (nI 100) = nI 50 * loaS R x / nI 100 ∧ (nI 50 * loaS R x / nI 100).toInt = (loaS R x).toInt * 50 / 100 := by
  have h2 := loaS_bd n x
  obtain ⟨s1, s2⟩ := share_int (S := S) (a := loaS R x) (p := nI 50) (w := nI 100) h2.1 (by rw [i50_toInt]; omega) (by rw [i100_toInt]; omega) (by rw [i50_toInt]; omega)
  rw [i50_toInt, i100_toInt] at s2
  rw [Int32.mul_comm]
  exact ⟨s1, by rw [← s1]; exact s2⟩
theorem left_eq (P U : Int32) (h1 : -1000000000 ≤ P.toInt) (h2 : P.toInt ≤ 1000000000) (h3 : 0 ≤ U.toInt) (h4 : U.toInt ≤ 1600) : (if 0 < P - U then P - U else 0) = (if (if P ≤ 0 then 0 else P) - U ≤ 0 then 0 else (if P ≤ 0 then 0 else P) - U) ∧ 0 ≤ (if 0 < P - U then P - U else 0).toInt := by
  have h0 := w_0
  have e : (P - U).toInt = P.toInt - U.toInt := by
    rw [w_sub]
    omega
  have e0 : (0 - U).toInt = -U.toInt := by
    rw [w_sub, h0]
    omega
  by_cases c : P ≤ 0
  · rw [w_le, h0] at c
    have c1 : ¬ 0 < P - U := by
      rw [w_lt, h0, e]
      omega
    have c2 : P ≤ 0 := by
      rw [w_le, h0]
      exact c
    have c3 : (0 : Int32) - U ≤ 0 := by
      rw [w_le, h0, e0]
      omega
    rw [if_neg c1, if_pos c2, if_pos c3]
    exact ⟨rfl, by omega⟩
  · rw [if_neg c]
    rw [w_le, h0] at c
    by_cases c1 : 0 < P - U
    · have c2 : ¬ P - U ≤ 0 := by
        rw [w_lt, h0] at c1
        rw [w_le, h0]
        omega
      rw [if_pos c1, if_neg c2]
      rw [w_lt, h0] at c1
      exact ⟨rfl, by omega⟩
    · have c2 : P - U ≤ 0 := by
        rw [w_lt, h0] at c1
        rw [w_le, h0]
        omega
      rw [if_neg c1, if_pos c2]
      exact ⟨rfl, by omega⟩
theorem su_bd {R : Col} {x : Int32} (hp : ∀ i, i < 16 → 0 ≤ (R kAccounts i).toInt) : 0 ≤ (s32 (suR R x) 16).toInt ∧ (s32 (suR R x) 16).toInt ≤ 1600 := by
  have h1 : ∀ i, i < 16 → 0 ≤ (suR R x i).toInt ∧ (suR R x i).toInt ≤ 100 := fun i hi => by
    obtain ⟨-, -, -, m4, -, m6⟩ := minH_most (hp i hi)
    have z := w_0
    unfold suR
    by_cases c : R kBankOf i = x
    · rw [if_pos c]
      exact ⟨m4, m6⟩
    · rw [if_neg c]
      omega
  have h2 : sumI (fun i => (suR R x i).toInt) 16 ≤ sumI (fun _ => 100) 16 := sumI_le 16 (fun i hi => (h1 i hi).2)
  rw [sumI_const] at h2
  have h3 := s32_toInt (f := suR R x) 16 (fun i hi => (h1 i hi).1) (by omega)
  have h4 := sumI_nonneg (f := fun i => (suR R x i).toInt) 16 (fun i hi => (h1 i hi).1)
  omega
theorem ab_bd {R : Col} {x : Int32} (hp : ∀ i, i < 16 → 0 ≤ (R kAccounts i).toInt) (hu : sumI (fun i => (R kAccounts i).toInt) 16 ≤ 5120000) {j : Nat} (hj : j < 16) (hb : R kBankOf j = x) : (mostH (R kAccounts j)).toInt ≤ (s32 (abR R x) 16).toInt := by
  have h1 : ∀ i, i < 16 → 0 ≤ (abR R x i).toInt ∧ (abR R x i).toInt ≤ (R kAccounts i).toInt := fun i hi => by
    obtain ⟨m1, m2, m3, m4, -, m6⟩ := minH_most (hp i hi)
    have z := w_0
    have q := hp i hi
    unfold abR
    by_cases c : R kBankOf i = x
    · rw [if_pos c]
      rw [show R kAccounts i - (if R kAccounts i < nI 100 then R kAccounts i else nI 100) = mostH (R kAccounts i) from m1]
      exact ⟨m2, m3⟩
    · rw [if_neg c]
      omega
  have h2 : sumI (fun i => (abR R x i).toInt) 16 ≤ sumI (fun i => (R kAccounts i).toInt) 16 := sumI_le 16 (fun i hi => (h1 i hi).2)
  have h3 := s32_toInt (f := abR R x) 16 (fun i hi => (h1 i hi).1) (by omega)
  have h4 := sumI_one (f := fun i => (abR R x i).toInt) 16 j hj (fun i hi => (h1 i hi).1)
  have e : abR R x j = mostH (R kAccounts j) := by
    unfold abR
    rw [if_pos hb]
    exact (minH_most (hp j hj)).1
  rw [e] at h4
  omega
/-- the payout over a bank that is taken over -/
theorem pay_ok {u v L : Int} {A B2 B : Mem} {d P Q : Int32} {b : Nat} (h : Rel A.1 B.2.1 d) (n : NumX (nI b) 0 u (v - 5120000) L B.2.1) (hu : u ≤ 5120000) (hv : v ≤ 5120000) (hb : b < 4) (hf : B.2.1 kHaveFailed b = 1) (hw : noneW (nI b) B.2.1 (ix (B.2.1 kPayments 0))) (hac : B2.2.1 kAccounts = B.2.1 kAccounts) (hbo : B2.2.1 kBankOf = B.2.1 kBankOf) (hP1 : -1000000000 ≤ P.toInt) (hP2 : P.toInt ≤ 1000000000) (hQ : Q = if P ≤ 0 then 0 else P) :
    ok_X3_payOut A (nI b) P ∧
    (f_X3_payOut A (nI b) P).1 = (iter (b146_X12_fails (nI b) (iter (b62_X12_fails (nI b) B2) (Q, 0) 16) (if (iter (b62_X12_fails (nI b) B2) (Q, 0) 16).1 ≤ 0 then 0 else (iter (b62_X12_fails (nI b) B2) (Q, 0) 16).1) (f_X12_nextBank B)) (0, B) 16).1 ∧
    (∀ j, j < 16 → (iter (b146_X12_fails (nI b) (iter (b62_X12_fails (nI b) B2) (Q, 0) 16) (if (iter (b62_X12_fails (nI b) B2) (Q, 0) 16).1 ≤ 0 then 0 else (iter (b62_X12_fails (nI b) B2) (Q, 0) 16).1) (f_X12_nextBank B)) (0, B) j).2.2.1 kBankOf j = nI b → ∀ v24, f_X12_most (iter (b146_X12_fails (nI b) (iter (b62_X12_fails (nI b) B2) (Q, 0) 16) (if (iter (b62_X12_fails (nI b) B2) (Q, 0) 16).1 ≤ 0 then 0 else (iter (b62_X12_fails (nI b) B2) (Q, 0) 16).1) (f_X12_nextBank B)) (0, B) j).2 ((iter (b146_X12_fails (nI b) (iter (b62_X12_fails (nI b) B2) (Q, 0) 16) (if (iter (b62_X12_fails (nI b) B2) (Q, 0) 16).1 ≤ 0 then 0 else (iter (b62_X12_fails (nI b) B2) (Q, 0) 16).1) (f_X12_nextBank B)) (0, B) j).2.2.1 kAccounts j - nI 100) 0 = v24 → ¬ v24 = 0 → ¬ (iter (b62_X12_fails (nI b) B2) (Q, 0) 16).2.toInt64 = 0) ∧
    (f_X12_nextBank B = -1 ∨ (inb (f_X12_nextBank B) 4 ∧ ix (f_X12_nextBank B) ≠ b)) ∧
    (∀ R3 : Col, R3 = (if f_X12_nextBank B = -1 then (iter (b146_X12_fails (nI b) (iter (b62_X12_fails (nI b) B2) (Q, 0) 16) (if (iter (b62_X12_fails (nI b) B2) (Q, 0) 16).1 ≤ 0 then 0 else (iter (b62_X12_fails (nI b) B2) (Q, 0) 16).1) (f_X12_nextBank B)) (0, B) 16).2.2.1 else upd2 (iter (b146_X12_fails (nI b) (iter (b62_X12_fails (nI b) B2) (Q, 0) 16) (if (iter (b62_X12_fails (nI b) B2) (Q, 0) 16).1 ≤ 0 then 0 else (iter (b62_X12_fails (nI b) B2) (Q, 0) 16).1) (f_X12_nextBank B)) (0, B) 16).2.2.1 kReserves (ix (f_X12_nextBank B)) ((iter (b146_X12_fails (nI b) (iter (b62_X12_fails (nI b) B2) (Q, 0) 16) (if (iter (b62_X12_fails (nI b) B2) (Q, 0) 16).1 ≤ 0 then 0 else (iter (b62_X12_fails (nI b) B2) (Q, 0) 16).1) (f_X12_nextBank B)) (0, B) 16).2.2.1 kReserves (ix (f_X12_nextBank B)) + (iter (b146_X12_fails (nI b) (iter (b62_X12_fails (nI b) B2) (Q, 0) 16) (if (iter (b62_X12_fails (nI b) B2) (Q, 0) 16).1 ≤ 0 then 0 else (iter (b62_X12_fails (nI b) B2) (Q, 0) 16).1) (f_X12_nextBank B)) (0, B) 16).1)) →
      Rel (f_X3_payOut A (nI b) P).2.1 R3 (d + (f_X3_payOut A (nI b) P).1) ∧ Num u v L R3 ∧ ∀ k, k ≠ 5 → k ≠ 7 → k ≠ 8 → k ≠ 16 → R3 k = B.2.1 k) := by
  have hpos : ∀ i, i < 16 → 0 ≤ (B.2.1 kAccounts i).toInt ∧ 0 ≤ (B.2.1 kNotes i).toInt := fun i hi => by
    obtain ⟨-, -, w1, w2, w3, w4, -⟩ := n.1 i hi
    omega
  have hB : ∀ i, i < 16 → 0 ≤ (B.2.1 kAccounts i).toInt := fun i hi => (hpos i hi).1
  have hBu : sumI (fun i => (B.2.1 kAccounts i).toInt) 16 ≤ 5120000 := by
    have : sumI (fun i => (B.2.1 kAccounts i).toInt) 16 ≤ uS (B.2.1 kAccounts) (B.2.1 kNotes) := sumI_le 16 (fun i hi => by
      have := hpos i hi
      show (B.2.1 kAccounts i).toInt ≤ (B.2.1 kAccounts i).toInt + (B.2.1 kNotes i).toInt
      omega)
    have := n.2.1
    omega
  have esu : suR B2.2.1 (nI b) = suR B.2.1 (nI b) := by
    unfold suR
    rw [hac, hbo]
  have eab : abR B2.2.1 (nI b) = abR B.2.1 (nI b) := by
    unfold abR
    rw [hac, hbo]
  have e62 : iter (b62_X12_fails (nI b) B2) (Q, 0) 16 = (Q - s32 (suR B.2.1 (nI b)) 16, s32 (abR B.2.1 (nI b)) 16) := by
    rw [sums_R (fun i hi => by rw [hac]; exact hB i hi), esu, eab]
  have eC := sums_C (x := nI b) h
  have hsu := su_bd (x := nI b) hB
  obtain ⟨l1, l2⟩ := left_eq P (s32 (suR B.2.1 (nI b)) 16) hP1 hP2 hsu.1 hsu.2
  rw [← hQ] at l1
  have enC : f_X3_lowestBankThatStands A = f_X12_nextBank B := by
    rw [nb_C (hf := B.2.1 kHaveFailed) (fun c hc => h.sh kHaveFailed c hc), nb_R]
  have h9s : f_X12_nextBank B = -1 ∨ (inb (f_X12_nextBank B) 4 ∧ B.2.1 kHaveFailed (ix (f_X12_nextBank B)) = 0) := by
    rw [nb_R]
    rcases nbL_spec (B.2.1 kHaveFailed) 4 (Nat.le_refl _) with ⟨q, -⟩ | ⟨c, q1, q2, q3⟩
    · exact Or.inl q
    · rw [q2, ix_nI (by omega)]
      exact Or.inr ⟨inb_nI q1 (by omega), q3⟩
  unfold f_X3_payOut
  rw [e62]
  show ok_X3_payOut A (nI b) P ∧ _
  rw [eC, enC]
  simp only [lt_x]
  rw [← l1]
  revert l2 h9s
  have enC' := enC
  generalize hlf : (if 0 < P - s32 (suR B.2.1 (nI b)) 16 then P - s32 (suR B.2.1 (nI b)) 16 else 0) = lf
  revert enC'
  generalize f_X12_nextBank B = h9
  intro enC' l2 h9s
  have hab : ∀ j, j < 16 → B.2.1 kBankOf j = nI b → (mostH (B.2.1 kAccounts j)).toInt ≤ (s32 (abR B.2.1 (nI b)) 16).toInt := fun j hj hc => ab_bd hB hBu hj hc
  generalize s32 (suR B.2.1 (nI b)) 16 = su at eC hlf l1 ⊢
  generalize s32 (abR B.2.1 (nI b)) 16 = ab at hab eC ⊢
  have key := iter2 (f := b83_X3_payOut (nI b) (su, ab) lf h9) (g := b146_X12_fails (nI b) (Q - su, ab) lf h9) (a := ((0 : Int32), A)) (b := ((0 : Int32), B)) (PL u (v - 5120000) L d (nI b) h9 b B) (n := 16) ⟨rfl, h.d_eq (by split <;> grind), n, ⟨by rw [w_0]; omega, by rw [w_0]; exact Int.le_refl 0⟩, hw, fun _ _ => ⟨rfl, rfl⟩, fun _ _ _ _ => rfl⟩ (fun j hj X Y q => (pay_step hu hb hj hf h9s l2 rfl rfl (hab j hj) hB hBu q).1)
  refine ⟨?_, ?_, ?_, ?_, ?_⟩
  · intro σ2 e v8 e8 v9 e9 j hj σ11 e11
    rw [eC] at e
    subst e
    rw [hlf] at e8
    subst e8
    rw [enC'] at e9
    subst e9
    subst e11
    exact (pay_step hu hb hj hf h9s l2 rfl rfl (hab j hj) hB hBu (key j (by omega))).2.1
  · exact (key 16 (Nat.le_refl _)).1
  · intro j hj
    exact (pay_step (ab := ab) (σ1 := (su, ab)) (σ2 := (Q - su, ab)) hu hb hj hf h9s l2 rfl rfl (hab j hj) hB hBu (key j (by omega))).2.2
  · rcases h9s with q | ⟨q, q2⟩
    · exact Or.inl q
    · refine Or.inr ⟨q, fun z => ?_⟩
      rw [z, hf] at q2
      exact absurd q2 (by decide)
  · intro R3 e3
    have q := key 16 (Nat.le_refl _)
    revert q e3
    generalize iter (b83_X3_payOut (nI b) (su, ab) lf h9) (0, A) 16 = X
    generalize iter (b146_X12_fails (nI b) (Q - su, ab) lf h9) (0, B) 16 = Y
    intro e3 q
    obtain ⟨p1, p2, p3, ⟨p4, p5⟩, p6, p7, p8⟩ := q
    have p5' : Y.1.toInt ≤ 5120000 := by omega
    have nn := N_ofX p3
    rcases h9s with q | ⟨q, q2⟩
    · rw [if_pos q] at e3
      rw [if_pos q] at p2
      rw [if_pos q, e3, p1]
      exact ⟨p2, nn.vmono (by omega), fun k k1 k2 k3 _ => p8 k k1 k2 k3⟩
    · have hne : ¬ h9 = -1 := inb_ne q
      rw [if_neg hne] at e3
      rw [if_neg hne, Int32.add_zero] at p2
      rw [if_neg hne, e3, bank_in q, p1, p2.sh kReserves _ q.2]
      have r := p2.reserves (i := ix h9) (v := Y.2.2.1 kReserves (ix h9) + Y.1) q.2 rfl
      refine ⟨r.d_eq (by grind), N_heir nn hv q.2 p4 p5', fun k k1 k2 k3 k4 => (u_ne k4).trans (p8 k k1 k2 k3)⟩
