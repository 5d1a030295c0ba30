/-! the simulation: which rows of a column both sides share -/
def shN (k : Nat) : Nat :=
  if k = kDays ∨ k = kRate ∨ k = kCapitalRule ∨ k = kReserveRule ∨ k = kLoans ∨ k = kPayments ∨ k = kAuctions ∨ k = kBids ∨ k = kTreasury ∨ k = kForeign ∨ k = kForeignCost ∨ k = kExchange then 1
  else if k = kNotes ∨ k = kForged ∨ k = kBankOf ∨ k = kAccounts ∨ k = kBlocked ∨ k = kPrices ∨ k = kBought then 16
  else if k = kFirms ∨ k = kWages ∨ k = kExpects then 10
  else if k = kReserves ∨ k = kVaults ∨ k = kLent ∨ k = kLimits ∨ k = kHaveFailed ∨ k = kAreShort then 4
  else if k = kLoanHolders ∨ k = kLoanBanks ∨ k = kLoanLefts ∨ k = kLoanRates ∨ k = kOverdue ∨ k = kDues then 20
  else if k = kFroms ∨ k = kTos ∨ k = kAmounts ∨ k = kStates ∨ k = kDoneDays then 200
  else if k = kBonds then 100
  else if k = kBidPrices then 13
  else if k = kBidBanks ∨ k = kBidNumbers then 12
  else 0
def Sh (C R : Col) : Prop := ∀ k i, i < shN k → C k i = R k i
theorem Sh.upd {C R : Col} (h : Sh C R) (k i : Nat) {v w : Int32} (hv : v = w) : Sh (upd2 C k i v) (upd2 R k i w) := by
  intro k' i' hi
  unfold upd2
  by_cases hk : k' = k
  · rw [if_pos hk, if_pos hk]
    by_cases hr : i' = i
    · rw [if_pos hr, if_pos hr]
      exact hv
    · rw [if_neg hr, if_neg hr]
      exact h k' i' hi
  · rw [if_neg hk, if_neg hk]
    exact h k' i' hi
theorem Sh.updC {C R : Col} (h : Sh C R) (k i : Nat) {v : Int32} (hk : shN k = 0) : Sh (upd2 C k i v) R := by
  intro k' i' hi
  unfold upd2
  by_cases hk' : k' = k
  · rw [hk', hk] at hi
    omega
  · rw [if_neg hk']
    exact h k' i' hi
theorem Sh.updR {C R : Col} (h : Sh C R) (k i : Nat) {v : Int32} (hk : shN k = 0) : Sh C (upd2 R k i v) := by
  intro k' i' hi
  unfold upd2
  by_cases hk' : k' = k
  · rw [hk', hk] at hi
    omega
  · rw [if_neg hk']
    exact h k' i' hi
