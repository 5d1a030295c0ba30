/-! notes are drawn, both sides -/
theorem Rel.drawnC {C R : Col} {d v : Int32} (h : Rel C R d) {i b : Nat} (hi : 10 ≤ i) : Rel (upd2 C (kDrawnC + i) b v) R d := by
  obtain ⟨h1, hl, h3, h4, h5, h6, h7, h8, h9⟩ := h
  have hn : ∀ c : Nat, c < 67 → upd2 C (kDrawnC + i) b v c = C c := fun c hc => u_ne (show c ≠ 67 + i by omega)
  have hz : ∀ c, 67 ≤ c → shN c = 0 := by
    intro c hc
    have hm : ∀ m : Nat, m < 67 → ¬ c = m := fun m hm q => by omega
    unfold shN
    simp only [hm kDays (by decide), hm kRate (by decide), hm kCapitalRule (by decide), hm kReserveRule (by decide), hm kLoans (by decide), hm kPayments (by decide), hm kAuctions (by decide), hm kBids (by decide), hm kTreasury (by decide), hm kForeign (by decide), hm kForeignCost (by decide), hm kExchange (by decide), hm kNotes (by decide), hm kForged (by decide), hm kBankOf (by decide), hm kAccounts (by decide), hm kBlocked (by decide), hm kPrices (by decide), hm kBought (by decide), hm kFirms (by decide), hm kWages (by decide), hm kExpects (by decide), hm kReserves (by decide), hm kVaults (by decide), hm kLent (by decide), hm kLimits (by decide), hm kHaveFailed (by decide), hm kAreShort (by decide), hm kLoanHolders (by decide), hm kLoanBanks (by decide), hm kLoanLefts (by decide), hm kLoanRates (by decide), hm kOverdue (by decide), hm kDues (by decide), hm kFroms (by decide), hm kTos (by decide), hm kAmounts (by decide), hm kStates (by decide), hm kDoneDays (by decide), hm kBonds (by decide), hm kBidBanks (by decide), hm kBidPrices (by decide), hm kBidNumbers (by decide), or_false, if_false]
  refine ⟨h1.updC _ _ (hz _ (show 67 ≤ 67 + i by omega)), LogI_upd (Or.inr (show 66 < 67 + i by omega)) hl, fun a ha => (logSum_upd (Or.inr (show 66 < 67 + i by omega))).trans (h3 a ha), (logSum_upd (Or.inr (show 66 < 67 + i by omega))).trans h4, ?_, ?_, ?_, ?_, ?_⟩
  · intro a c ha hc
    rw [upd2_ne (show 67 + a ≠ 67 + i by omega)]
    exact h5 a c ha hc
  · rw [hn kBoughtOn (by decide)]
    exact h6
  · rw [hn kFromBank (by decide), hn kToBank (by decide)]
    exact h7
  · rw [hn kFirms (by decide), hn kWages (by decide)]
    exact h8
  · rw [hn kReserves (by decide)]
    exact h9
def gotV (va m : Int32) : Int32 := if va < m then va else m
def gotR (re m : Int32) : Int32 := if re < m then re else m
def drawR0 (R : Col) (i b : Nat) (p q : Int32) : Col := upd2 (upd2 (upd2 (upd2 R kVaults b (R kVaults b - p)) kReserves b (R kReserves b - q)) kNotes i (R kNotes i + (p + q))) kAccounts i (R kAccounts i - (p + q))
def drawR (R : Col) (i b : Nat) (p q : Int32) : Col := if p + q ≤ 0 then drawR0 R i b p q else if 10 ≤ i then drawR0 R i b p q else upd2 (drawR0 R i b p q) kDrawn (4 * i + b) (R kDays 0)
theorem N_draw {u v L : Int} {R : Col} {i b : Nat} {p q : Int32} (n : Num u v L R) (hi : i < 16) (hb : b < 4) (hbo : R kBankOf i = nI b) (hp0 : 0 ≤ p.toInt) (hp1 : p.toInt ≤ (R kVaults b).toInt) (hq0 : 0 ≤ q.toInt) (hq1 : q.toInt ≤ (R kReserves b).toInt) (hf : p.toInt + q.toInt ≤ (R kAccounts i).toInt - (R kBlocked i).toInt) (hu : u ≤ 5120000) : Num u v L (drawR R i b p q) := by
  have ib : inb (nI b) 4 := inb_nI hb (by omega)
  have n0 : Num u v L (drawR0 R i b p q) := by
    obtain ⟨nh, nu, np, nb, nv, nf, nl, nd, ns, nw, nq⟩ := n
    have hone := uS_one nh.pos hi
    obtain ⟨w1, w2, w3, w4, w5, w6⟩ := nh i hi
    have ha := w_hi (R kAccounts i)
    have hva := w_hi (R kVaults b)
    have hre := w_hi (R kReserves b)
    have e0 : (p + q).toInt = p.toInt + q.toInt := by
      rw [w_add]
      omega
    have e1 : (R kAccounts i - (p + q)).toInt = (R kAccounts i).toInt - (p.toInt + q.toInt) := by
      rw [w_sub, e0]
      omega
    have e2 : (R kNotes i + (p + q)).toInt = (R kNotes i).toInt + (p.toInt + q.toInt) := by
      rw [w_add, e0]
      omega
    have e3 : (R kVaults b - p).toInt = (R kVaults b).toInt - p.toInt := by
      rw [w_sub]
      omega
    have e4 : (R kReserves b - q).toInt = (R kReserves b).toInt - q.toInt := by
      rw [w_sub]
      omega
    refine ⟨?_, ?_, np, ?_, ?_, nf, nl, nd, ns, nw, nq⟩
    · show zH (R kBankOf) (ru (R kAccounts) i (R kAccounts i - (p + q))) (R kBlocked) (R kForged) (ru (R kNotes) i (R kNotes i + (p + q))) (R kHaveFailed)
      intro c hc
      by_cases e : c = i
      · subst e
        rw [ru_eq, ru_eq, e1, e2]
        exact ⟨w1, fun z => absurd (hbo.symm.trans z) (inb_ne ib), w3, by omega, w5, by omega⟩
      · rw [ru_ne e, ru_ne e]
        exact nh c hc
    · show uS (ru (R kAccounts) i (R kAccounts i - (p + q))) (ru (R kNotes) i (R kNotes i + (p + q))) ≤ u
      rw [uS_ac hi, uS_no hi, e1, e2]
      omega
    · show zB L (ru (R kReserves) b (R kReserves b - q)) (ru (R kVaults) b (R kVaults b - p)) (R kLent) (R kLimits) (R kHaveFailed) (R kAreShort)
      intro c hc
      have z := nb c hc
      by_cases e : c = b
      · subst e
        rw [ru_eq, ru_eq, e3, e4]
        exact ⟨by omega, by omega, z.2.2⟩
      · rw [ru_ne e, ru_ne e]
        exact z
    · show vS (ru (R kReserves) b (R kReserves b - q)) (ru (R kVaults) b (R kVaults b - p)) (R kTreasury) (R kHaveFailed) (R kDays) ≤ v
      rw [vS_re hb, vS_va hb, e3, e4]
      omega
  unfold drawR
  split
  · exact n0
  · split
    · exact n0
    · obtain ⟨nh, nu, np, nb, nv, nf, nl, nd, ns, nw, nq⟩ := n0
      exact ⟨nh, nu, np, nb, nv, nf, nl, nd, ns, nw, nq⟩
theorem got_eq {va re m : Int32} (h1 : 0 ≤ va.toInt) (h2 : 0 ≤ re.toInt) (h3 : va.toInt + re.toInt ≤ 1000000000) (h4 : 0 ≤ m.toInt) :
    (if va + re < m then va + re else m) = gotV va m + gotR re (m - gotV va m) ∧ (if va < gotV va m + gotR re (m - gotV va m) then va else gotV va m + gotR re (m - gotV va m)) = gotV va m ∧ 0 ≤ (gotV va m).toInt ∧ (gotV va m).toInt ≤ va.toInt ∧ 0 ≤ (gotR re (m - gotV va m)).toInt ∧ (gotR re (m - gotV va m)).toInt ≤ re.toInt ∧ (gotV va m).toInt + (gotR re (m - gotV va m)).toInt ≤ m.toInt ∧ (gotV va m + gotR re (m - gotV va m)).toInt = (gotV va m).toInt + (gotR re (m - gotV va m)).toInt := by
  have hm := w_hi m
  have es : (va + re).toInt = va.toInt + re.toInt := by
    rw [w_add]
    omega
  unfold gotV gotR
  by_cases c1 : va < m
  · simp only [if_pos c1]
    rw [w_lt] at c1
    have e1 : (m - va).toInt = m.toInt - va.toInt := by
      rw [w_sub]
      omega
    by_cases c2 : re < m - va
    · simp only [if_pos c2]
      rw [w_lt, e1] at c2
      have c3 : va + re < m := by
        rw [w_lt, es]
        omega
      rw [if_pos c3]
      refine ⟨rfl, ?_, by omega, by omega, by omega, by omega, by omega, es⟩
      by_cases c4 : va < va + re
      · rw [if_pos c4]
      · rw [if_neg c4]
        rw [w_lt, es] at c4
        apply Int32.toInt_inj.mp
        rw [es]
        omega
    · simp only [if_neg c2]
      rw [w_lt, e1] at c2
      have e2 : va + (m - va) = m := by grind
      have c3 : (if va + re < m then va + re else m) = m := by
        by_cases c4 : va + re < m
        · rw [w_lt, es] at c4
          omega
        · rw [if_neg c4]
      rw [c3, e2, e1, if_pos (by rw [w_lt]; exact c1)]
      refine ⟨rfl, rfl, by omega, by omega, by omega, by omega, by omega, by omega⟩
  · simp only [if_neg c1]
    rw [w_lt] at c1
    have e1 : (m - m).toInt = 0 := by
      rw [w_sub]
      omega
    have c2 : ¬ re < m - m := by
      rw [w_lt, e1]
      omega
    simp only [if_neg c2]
    have e2 : m + (m - m) = m := by grind
    have c3 : ¬ va + re < m := by
      rw [w_lt, es]
      omega
    rw [if_neg c3, e2, e1, if_neg (by rw [w_lt]; exact c1)]
    refine ⟨rfl, rfl, by omega, by omega, by omega, by omega, by omega, by omega⟩
