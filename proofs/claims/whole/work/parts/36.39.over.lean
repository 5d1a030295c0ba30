/-! what a bank that fails had is taken over -/
def LL (u v L : Int) (d x : Int32) (B : Mem) (j : Nat) (X Y : Mem) : Prop := Rel X.1 Y.2.1 (d - s32 (fun l => if B.2.1 kLoanBanks l = x then B.2.1 kLoanLefts l else 0) j) ∧ Num u v L Y.2.1 ∧ (∀ k, k ≠ 26 → Y.2.1 k = B.2.1 k) ∧ ∀ l, j ≤ l → Y.2.1 kLoanBanks l = B.2.1 kLoanBanks l
theorem loan_step {u v L : Int} {B : Mem} {d x : Int32} {j : Nat} {X Y : Mem} (hx : inb x 4) (hj : j < ix (B.2.1 kLoans 0)) (h : LL u v L d x B j X Y) : LL u v L d x B (j + 1) (b2_X7_moveToCentral x j X) (b52_X12_takesOver x j Y) := by
  obtain ⟨h1, h2, h3, h4⟩ := h
  have elo : Y.2.1 kLoans = B.2.1 kLoans := h3 kLoans (by decide)
  have ele : Y.2.1 kLoanLefts = B.2.1 kLoanLefts := h3 kLoanLefts (by decide)
  have hj20 : j < 20 := by
    have := h2.2.2.2.2.2.2.1.1.2
    rw [elo] at this
    omega
  have eY := h4 j (Nat.le_refl _)
  have eX : X.1 kLoanBanks j = B.2.1 kLoanBanks j := (h1.sh kLoanBanks j hj20).trans eY
  have es : s32 (fun l => if B.2.1 kLoanBanks l = x then B.2.1 kLoanLefts l else 0) (j + 1) = s32 (fun l => if B.2.1 kLoanBanks l = x then B.2.1 kLoanLefts l else 0) j + (if B.2.1 kLoanBanks j = x then B.2.1 kLoanLefts j else 0) := rfl
  unfold LL b2_X7_moveToCentral b52_X12_takesOver
  rw [at7_nI hj20, eX, eY, es]
  simp only [lt_x]
  by_cases c : B.2.1 kLoanBanks j = x
  · rw [if_pos c, if_pos c, if_pos c]
    have r := h1.lbank (l := j) (by rw [elo]; exact hj) (by rw [eY, c]; exact inb4_ne hx)
    rw [ele] at r
    refine ⟨r.d_eq (by grind), ?_, fun k hk => (u_ne hk).trans (h3 k hk), fun l hl => ?_⟩
    · obtain ⟨nh, nu, np, nb, nv, nf, nl, nd, ns, nw, nq⟩ := h2
      refine ⟨nh, nu, np, nb, nv, nf, ?_, nd, ns, nw, nq⟩
      show zL (Y.2.1 kLoans) (Y.2.1 kLoanHolders) (ru (Y.2.1 kLoanBanks) j (nI 4)) (Y.2.1 kLoanLefts) (Y.2.1 kLoanRates) (Y.2.1 kOverdue)
      refine ⟨nl.1, fun l hl => ?_, nl.2.2⟩
      obtain ⟨p1, p2, p3⟩ := nl.2.1 l hl
      by_cases e : l = j
      · subst e
        rw [ru_eq]
        exact ⟨p1, inb_nI (by omega) (by omega), p3⟩
      · rw [ru_ne e]
        exact ⟨p1, p2, p3⟩
    · show upd2 Y.2.1 kLoanBanks j (nI 4) kLoanBanks l = _
      rw [upd2_row (by omega)]
      exact h4 l (by omega)
  · rw [if_neg c, if_neg c, if_neg c]
    have e : upd2 Y.2.1 kLoanBanks j (B.2.1 kLoanBanks j) = Y.2.1 := by
      rw [← eY]
      exact uu_same
    rw [e]
    exact ⟨h1.d_eq (by grind), h2, h3, fun l hl => h4 l (by omega)⟩
/-- holders while bank x is wound up, from place j on -/
def zHx (x : Int32) (j : Nat) (bo ac bl fo no hf : Row) : Prop := ∀ i, i < 16 → (bo i = -1 ∨ (inb (bo i) 4 ∧ (hf (ix (bo i)) = 0 ∨ (bo i = x ∧ j ≤ i)))) ∧ (bo i = -1 → ac i = 0) ∧ 0 ≤ (bl i).toInt ∧ (bl i).toInt ≤ (ac i).toInt ∧ 0 ≤ (fo i).toInt ∧ (fo i).toInt ≤ (no i).toInt ∧ (bo i = x → bl i = 0)
def NumX (x : Int32) (j : Nat) (u v L : Int) (R : Col) : Prop :=
  zHx x j (R kBankOf) (R kAccounts) (R kBlocked) (R kForged) (R kNotes) (R kHaveFailed) ∧
  uS (R kAccounts) (R kNotes) ≤ u ∧
  zP (R kPayments) (R kFroms) (R kTos) (R kStates) (R kAmounts) (R kBankOf) (R kBlocked) ∧
  zB L (R kReserves) (R kVaults) (R kLent) (R kLimits) (R kHaveFailed) (R kAreShort) ∧
  vS (R kReserves) (R kVaults) (R kTreasury) (R kHaveFailed) (R kDays) ≤ v ∧
  zF (R kAuctions) (R kBonds) (R kHaveFailed) ∧
  zL (R kLoans) (R kLoanHolders) (R kLoanBanks) (R kLoanLefts) (R kLoanRates) (R kOverdue) ∧
  zD (R kBids) (R kBidBanks) (R kBidPrices) (R kBidNumbers) (R kHaveFailed) ∧
  zS (R kDays) (R kRate) (R kCapitalRule) (R kReserveRule) (R kTreasury) (R kExchange) ∧
  zW (R kFirms) (R kWages) ∧
  zQ (R kPrices) (R kDays)
def endB (R : Col) (b : Nat) : Col := upd2 (upd2 (upd2 (upd2 (upd2 R kReserves b 0) kVaults b 0) kLent b 0) kAreShort b 0) kHaveFailed b 1
theorem noneW_bl {u v L : Int} {R : Col} {x : Int32} {i : Nat} (n : Num u v L R) (hw : noneW x R (ix (R kPayments 0))) (hi : i < 16) (hb : R kBankOf i = x) : R kBlocked i = 0 := by
  apply Int32.toInt_inj.mp
  rw [n.2.2.1.2.2 i hi, w_0]
  have : wB (R kStates) (R kFroms) (R kAmounts) i (ix (R kPayments 0)) = sumI (fun _ => 0) (ix (R kPayments 0)) := sumI_congr _ (fun p hp => by
    by_cases c : R kStates p = 0 ∧ R kFroms p = nI i
    · exfalso
      have z := (hw p hp c.1).1
      rw [c.2, ix_nI (by omega)] at z
      exact z hb
    · rw [if_neg c])
  rw [this, sumI_const]
  omega
theorem N_endB {u v L : Int} {R : Col} {b : Nat} (n : Num u v L R) (hb : b < 4) (h0 : R kHaveFailed b = 0) (hL : 0 ≤ L) (hw : noneW (nI b) R (ix (R kPayments 0))) (hB : noneB (nI b) R) (hz : ∀ k, k < ix (R kAuctions 0) → R kBonds (5 * k + b) = 0) : NumX (nI b) 0 u (v - 5120000) L (endB R b) := by
  have nW := fun i (hi : i < 16) => noneW_bl (i := i) n hw hi
  have hre := n.2.2.2.1 b hb
  obtain ⟨nh, nu, np, nb, nv, nf, nl, nd, ns, nw, nq⟩ := n
  have hf : ∀ i, i ≠ b → ru (R kHaveFailed) b 1 i = R kHaveFailed i := fun i hi => ru_ne hi
  refine ⟨?_, nu, np, ?_, ?_, ?_, nl, ?_, ns, nw, nq⟩
  · show zHx (nI b) 0 (R kBankOf) (R kAccounts) (R kBlocked) (R kForged) (R kNotes) (ru (R kHaveFailed) b 1)
    intro i hi
    obtain ⟨q1, q2, q3, q4, q5, q6⟩ := nh i hi
    refine ⟨?_, q2, q3, q4, q5, q6, nW i hi⟩
    rcases q1 with q1 | ⟨q1, q7⟩
    · exact Or.inl q1
    · refine Or.inr ⟨q1, ?_⟩
      by_cases c : ix (R kBankOf i) = b
      · exact Or.inr ⟨by rw [← c]; exact q1.1, Nat.zero_le _⟩
      · rw [hf _ c]
        exact Or.inl q7
  · show zB L (ru (R kReserves) b 0) (ru (R kVaults) b 0) (ru (R kLent) b 0) (R kLimits) (ru (R kHaveFailed) b 1) (ru (R kAreShort) b 0)
    intro c hc
    have p := nb c hc
    by_cases e : c = b
    · subst e
      rw [ru_eq, ru_eq, ru_eq, ru_eq, ru_eq, w_0]
      exact ⟨by omega, by omega, by omega, hL, p.2.2.2.2.1, p.2.2.2.2.2.1, Or.inr rfl, Or.inl rfl, fun _ => rfl⟩
    · rw [ru_ne e, ru_ne e, ru_ne e, ru_ne e, ru_ne e]
      exact p
  · show vS (ru (R kReserves) b 0) (ru (R kVaults) b 0) (R kTreasury) (ru (R kHaveFailed) b 1) (R kDays) ≤ v - 5120000
    rw [vS_re hb, vS_va hb, vS_hf hb h0, w_0]
    omega
  · show zF (R kAuctions) (R kBonds) (ru (R kHaveFailed) b 1)
    refine ⟨nf.1, fun k hk => ?_⟩
    obtain ⟨p1, p2, p3, p4⟩ := nf.2 k hk
    refine ⟨p1, p2, fun c hc hcf => ?_, p4⟩
    by_cases e : c = b
    · subst e
      rcases Nat.lt_or_ge k (ix (R kAuctions 0)) with z | z
      · exact hz k z
      · exact p4 z c (by omega)
    · rw [ru_ne e] at hcf
      exact p3 c hc hcf
  · show zD (R kBids) (R kBidBanks) (R kBidPrices) (R kBidNumbers) (ru (R kHaveFailed) b 1)
    refine ⟨nd.1, fun q hq => ?_, nd.2.2⟩
    obtain ⟨p1, p2, p3⟩ := nd.2.1 q hq
    refine ⟨p1, ?_, p3⟩
    rw [ru_ne (fun e => hB q hq (by rw [← e]; exact p1.1))]
    exact p2
theorem Rel.endB {C R : Col} {d : Int32} {b : Nat} (h : Rel C R d) (hb : b < 4) : Rel (endB C b) (endB R b) (d - R kReserves b - R kVaults b + R kLent b) := by
  have r1 := h.reserves (v := 0) hb rfl
  have r2 := r1.vaults (v := 0) hb rfl
  have r3 := r2.lent (v := 0) hb rfl
  have r4 := (r3.plain kAreShort b (by decide) (v := 0) rfl).plain kHaveFailed b (by decide) (v := 1) rfl
  rw [show upd2 R kReserves b 0 kVaults b = R kVaults b from rfl, show upd2 (upd2 R kReserves b 0) kVaults b 0 kLent b = R kLent b from rfl] at r4
  exact r4.d_eq (by grind)
