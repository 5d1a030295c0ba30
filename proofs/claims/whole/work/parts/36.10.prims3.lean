/-! the same, of both sides -/
theorem Rel.notes {C R : Col} {d v w : Int32} (h : Rel C R d) {i : Nat} (hi : i < 16) (hv : v = w) : Rel (upd2 C kNotes i v) (upd2 R kNotes i w) (d + (w - R kNotes i)) := by
  obtain ⟨h1, h2, h3, h4, h5, h6, h7, h8, h9⟩ := h
  refine ⟨h1.upd _ i hv, LogI_upd (by decide) h2, fun a ha => (logSum_upd (by decide)).trans (h3 a ha), ?_, zDr_off (by decide) (by decide) h5, h6, h7, h8, h9⟩
  rw [logSum_upd (by decide), h4, capR_notes hi]
  grind
theorem Rel.forged {C R : Col} {d v w : Int32} (h : Rel C R d) {i : Nat} (hi : i < 16) (hv : v = w) : Rel (upd2 C kForged i v) (upd2 R kForged i w) (d - (w - R kForged i)) := by
  obtain ⟨h1, h2, h3, h4, h5, h6, h7, h8, h9⟩ := h
  refine ⟨h1.upd _ i hv, LogI_upd (by decide) h2, fun a ha => (logSum_upd (by decide)).trans (h3 a ha), ?_, zDr_off (by decide) (by decide) h5, h6, h7, h8, h9⟩
  rw [logSum_upd (by decide), h4, capR_forged hi]
  grind
theorem Rel.reserves {C R : Col} {d v w : Int32} (h : Rel C R d) {i : Nat} (hi : i < 4) (hv : v = w) : Rel (upd2 C kReserves i v) (upd2 R kReserves i w) (d + (w - R kReserves i)) := by
  obtain ⟨h1, h2, h3, h4, h5, h6, h7, h8, h9⟩ := h
  refine ⟨h1.upd _ i hv, LogI_upd (by decide) h2, fun a ha => (logSum_upd (by decide)).trans (h3 a ha), ?_, zDr_off (by decide) (by decide) h5, h6, h7, h8, ?_⟩
  · rw [logSum_upd (by decide), h4, capR_reserves hi]
    grind
  · rw [upd2_row (by omega)]
    exact h9
theorem Rel.vaults {C R : Col} {d v w : Int32} (h : Rel C R d) {i : Nat} (hi : i < 4) (hv : v = w) : Rel (upd2 C kVaults i v) (upd2 R kVaults i w) (d + (w - R kVaults i)) := by
  obtain ⟨h1, h2, h3, h4, h5, h6, h7, h8, h9⟩ := h
  refine ⟨h1.upd _ i hv, LogI_upd (by decide) h2, fun a ha => (logSum_upd (by decide)).trans (h3 a ha), ?_, zDr_off (by decide) (by decide) h5, h6, h7, h8, h9⟩
  rw [logSum_upd (by decide), h4, capR_vaults hi]
  grind
theorem Rel.lent {C R : Col} {d v w : Int32} (h : Rel C R d) {i : Nat} (hi : i < 4) (hv : v = w) : Rel (upd2 C kLent i v) (upd2 R kLent i w) (d - (w - R kLent i)) := by
  obtain ⟨h1, h2, h3, h4, h5, h6, h7, h8, h9⟩ := h
  refine ⟨h1.upd _ i hv, LogI_upd (by decide) h2, fun a ha => (logSum_upd (by decide)).trans (h3 a ha), ?_, zDr_off (by decide) (by decide) h5, h6, h7, h8, h9⟩
  rw [logSum_upd (by decide), h4, capR_lent hi]
  grind
theorem Rel.treasury {C R : Col} {d v w : Int32} (h : Rel C R d) (hv : v = w) : Rel (upd2 C kTreasury 0 v) (upd2 R kTreasury 0 w) (d + (w - R kTreasury 0)) := by
  obtain ⟨h1, h2, h3, h4, h5, h6, h7, h8, h9⟩ := h
  refine ⟨h1.upd _ 0 hv, LogI_upd (by decide) h2, fun a ha => (logSum_upd (by decide)).trans (h3 a ha), ?_, zDr_off (by decide) (by decide) h5, h6, h7, h8, h9⟩
  rw [logSum_upd (by decide), h4, capR_treasury]
  grind
theorem Rel.fcost {C R : Col} {d v w : Int32} (h : Rel C R d) (hv : v = w) : Rel (upd2 C kForeignCost 0 v) (upd2 R kForeignCost 0 w) (d - (w - R kForeignCost 0)) := by
  obtain ⟨h1, h2, h3, h4, h5, h6, h7, h8, h9⟩ := h
  refine ⟨h1.upd _ 0 hv, LogI_upd (by decide) h2, fun a ha => (logSum_upd (by decide)).trans (h3 a ha), ?_, zDr_off (by decide) (by decide) h5, h6, h7, h8, h9⟩
  rw [logSum_upd (by decide), h4, capR_fcost]
  grind
theorem Rel.bonds {C R : Col} {d v w : Int32} (h : Rel C R d) {k o : Nat} (hk : k < ix (R kAuctions 0)) (ho : o < 5) (hv : v = w) : Rel (upd2 C kBonds (5 * k + o) v) (upd2 R kBonds (5 * k + o) w) (d - (if o = 4 then w - R kBonds (5 * k + o) else 0)) := by
  obtain ⟨h1, h2, h3, h4, h5, h6, h7, h8, h9⟩ := h
  refine ⟨h1.upd _ _ hv, LogI_upd (by decide) h2, fun a ha => (logSum_upd (by decide)).trans (h3 a ha), ?_, zDr_off (by decide) (by decide) h5, h6, h7, h8, h9⟩
  rw [logSum_upd (by decide), h4, capR_bonds rfl hk ho]
  grind
theorem Rel.left {C R : Col} {d v w : Int32} (h : Rel C R d) {l : Nat} (hl : l < ix (R kLoans 0)) (hv : v = w) : Rel (upd2 C kLoanLefts l v) (upd2 R kLoanLefts l w) (d - (if R kLoanBanks l = nI 4 then w - R kLoanLefts l else 0)) := by
  obtain ⟨h1, h2, h3, h4, h5, h6, h7, h8, h9⟩ := h
  refine ⟨h1.upd _ _ hv, LogI_upd (by decide) h2, fun a ha => (logSum_upd (by decide)).trans (h3 a ha), ?_, zDr_off (by decide) (by decide) h5, h6, h7, h8, h9⟩
  rw [logSum_upd (by decide), h4, capR_left hl]
  grind
theorem Rel.lbank {C R : Col} {d : Int32} (h : Rel C R d) {l : Nat} (hl : l < ix (R kLoans 0)) (hb : R kLoanBanks l ≠ nI 4) : Rel (upd2 C kLoanBanks l (nI 4)) (upd2 R kLoanBanks l (nI 4)) (d - R kLoanLefts l) := by
  obtain ⟨h1, h2, h3, h4, h5, h6, h7, h8, h9⟩ := h
  refine ⟨h1.upd _ _ rfl, LogI_upd (by decide) h2, fun a ha => (logSum_upd (by decide)).trans (h3 a ha), ?_, zDr_off (by decide) (by decide) h5, h6, h7, h8, h9⟩
  rw [logSum_upd (by decide), h4, capR_lbank hl hb]
  grind
theorem Rel.firm {C R : Col} {d v w : Int32} (h : Rel C R d) {i : Nat} (hi : i < 10) (hv : v = w) : Rel (upd2 C kFirms i v) (upd2 R kFirms i w) d := by
  obtain ⟨h1, h2, h3, h4, h5, h6, h7, h8, h9⟩ := h
  refine ⟨h1.upd _ _ hv, LogI_upd (by decide) h2, fun a ha => (logSum_upd (by decide)).trans (h3 a ha), (logSum_upd (by decide)).trans h4, zDr_off (by decide) (by decide) h5, h6, h7, fun a h10 h16 => ?_, h9⟩
  rw [upd2_row (c' := kFirms) (by omega)]
  exact h8 a h10 h16
theorem Rel.wage {C R : Col} {d v w : Int32} (h : Rel C R d) {i : Nat} (hi : i < 10) (hv : v = w) : Rel (upd2 C kWages i v) (upd2 R kWages i w) d := by
  obtain ⟨h1, h2, h3, h4, h5, h6, h7, h8, h9⟩ := h
  refine ⟨h1.upd _ _ hv, LogI_upd (by decide) h2, fun a ha => (logSum_upd (by decide)).trans (h3 a ha), (logSum_upd (by decide)).trans h4, zDr_off (by decide) (by decide) h5, h6, h7, fun a h10 h16 => ?_, h9⟩
  rw [upd2_row (c' := kWages) (by omega)]
  exact h8 a h10 h16
/-- a payment waits no more -/
theorem Rel.state {C R : Col} {d v w : Int32} (h : Rel C R d) (p : Nat) (hv : v = w) (hw : w ≠ 0) : Rel (upd2 C kStates p v) (upd2 R kStates p w) d := by
  obtain ⟨h1, h2, h3, h4, h5, h6, h7, h8, h9⟩ := h
  refine ⟨h1.upd _ _ hv, LogI_upd (by decide) h2, fun a ha => (logSum_upd (by decide)).trans (h3 a ha), (logSum_upd (by decide)).trans h4, zDr_off (by decide) (by decide) h5, h6, fun q hq hs => ?_, h8, h9⟩
  by_cases e : q = p
  · subst e
    exact absurd (upd2_eq.symm.trans hs) hw
  · exact h7 q hq ((upd2_row e).symm.trans hs)
theorem Rel.drawn {C R : Col} {d v w : Int32} (h : Rel C R d) {i b : Nat} (hi : i < 10) (hb : b < 4) (hv : v = w + 1) (h0 : 0 ≤ w.toInt) (h2 : w.toInt ≤ 200) : Rel (upd2 C (kDrawnC + i) b v) (upd2 R kDrawn (4 * i + b) w) d := by
  obtain ⟨h1, hl, h3, h4, h5, h6, h7, h8, h9⟩ := h
  have hn : ∀ c : Nat, c < 67 → upd2 C (kDrawnC + i) b v c = C c := fun c hc => u_ne (show c ≠ 67 + i by omega)
  have hz : ∀ c, 67 ≤ c → shN c = 0 := by
    intro c hc
    have hm : ∀ m : Nat, m < 67 → ¬ c = m := fun m hm q => by omega
    unfold shN
    simp only [hm kDays (by decide), hm kRate (by decide), hm kCapitalRule (by decide), hm kReserveRule (by decide), hm kLoans (by decide), hm kPayments (by decide), hm kAuctions (by decide), hm kBids (by decide), hm kTreasury (by decide), hm kForeign (by decide), hm kForeignCost (by decide), hm kExchange (by decide), hm kNotes (by decide), hm kForged (by decide), hm kBankOf (by decide), hm kAccounts (by decide), hm kBlocked (by decide), hm kPrices (by decide), hm kBought (by decide), hm kFirms (by decide), hm kWages (by decide), hm kExpects (by decide), hm kReserves (by decide), hm kVaults (by decide), hm kLent (by decide), hm kLimits (by decide), hm kHaveFailed (by decide), hm kAreShort (by decide), hm kLoanHolders (by decide), hm kLoanBanks (by decide), hm kLoanLefts (by decide), hm kLoanRates (by decide), hm kOverdue (by decide), hm kDues (by decide), hm kFroms (by decide), hm kTos (by decide), hm kAmounts (by decide), hm kStates (by decide), hm kDoneDays (by decide), hm kBonds (by decide), hm kBidBanks (by decide), hm kBidPrices (by decide), hm kBidNumbers (by decide), or_false, if_false]
  refine ⟨?_, LogI_upd (Or.inr (show 66 < 67 + i by omega)) hl, fun a ha => (logSum_upd (Or.inr (show 66 < 67 + i by omega))).trans (h3 a ha), ((logSum_upd (Or.inr (show 66 < 67 + i by omega))).trans h4).trans (by rw [capR_off (by decide)]), ?_, ?_, ?_, ?_, ?_⟩
  · exact (h1.updC _ _ (hz _ (show 67 ≤ 67 + i by omega))).updR _ _ (by decide)
  · intro a c ha hc
    by_cases e : a = i
    · by_cases e2 : c = b
      · subst e; subst e2
        right
        rw [upd2_eq, upd2_eq]
        exact ⟨hv, h0, h2⟩
      · rw [upd2_row e2, upd2_row (by omega)]
        exact h5 a c ha hc
    · rw [upd2_ne (show 67 + a ≠ 67 + i by omega), upd2_row (by omega)]
      exact h5 a c ha hc
  · rw [hn kBoughtOn (by decide)]
    exact h6
  · rw [hn kFromBank (by decide), hn kToBank (by decide)]
    exact h7
  · rw [hn kFirms (by decide), hn kWages (by decide)]
    exact h8
  · rw [hn kReserves (by decide)]
    exact h9
