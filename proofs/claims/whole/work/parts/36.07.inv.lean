/-! the invariant of the reference by numbers, and how both sides hang together -/
abbrev Row : Type := Nat → Int32
/-- holders -/
def zH (bo ac bl fo no hf : Row) : Prop := ∀ i, i < 16 → (bo i = -1 ∨ (inb (bo i) 4 ∧ hf (ix (bo i)) = 0)) ∧ (bo i = -1 → ac i = 0) ∧ 0 ≤ (bl i).toInt ∧ (bl i).toInt ≤ (ac i).toInt ∧ 0 ≤ (fo i).toInt ∧ (fo i).toInt ≤ (no i).toInt
/-- all that holders have -/
def uS (ac no : Row) : Int := sumI (fun i => (ac i).toInt + (no i).toInt) 16
/-- what waits from a holder -/
def wB (st fr am : Row) (a n : Nat) : Int := sumI (fun p => if st p = 0 ∧ fr p = nI a then (am p).toInt else 0) n
/-- payments -/
def zP (pc fr to st am bo bl : Row) : Prop := inb (pc 0) 201 ∧ (∀ p, p < ix (pc 0) → inb (fr p) 16 ∧ inb (to p) 16 ∧ (st p = 0 → 1 ≤ (am p).toInt ∧ bo (ix (fr p)) ≠ -1 ∧ bo (ix (to p)) ≠ -1 ∧ fr p ≠ to p)) ∧ ∀ a, a < 16 → (bl a).toInt = wB st fr am a (ix (pc 0))
/-- banks -/
def zB (L : Int) (re va le li hf sh : Row) : Prop := ∀ b, b < 4 → 0 ≤ (re b).toInt ∧ 0 ≤ (va b).toInt ∧ 0 ≤ (le b).toInt ∧ (le b).toInt ≤ L ∧ 0 ≤ (li b).toInt ∧ (li b).toInt ≤ 10000 ∧ (hf b = 0 ∨ hf b = 1) ∧ (sh b = 0 ∨ sh b = 1) ∧ (hf b ≠ 0 → le b = 0)
def vS (re va tr hf dy : Row) : Int := sumI (fun b => (re b).toInt + (va b).toInt - (if hf b = 0 then 0 else 5120000)) 4 + (tr 0).toInt - 720000 * (dy 0).toInt
/-- bonds -/
def zF (au bs hf : Row) : Prop := inb (au 0) 21 ∧ ∀ k, k < 20 → (∀ o, o < 5 → 0 ≤ (bs (5 * k + o)).toInt) ∧ sumI (fun o => (bs (5 * k + o)).toInt) 5 ≤ 10000 ∧ (∀ b, b < 4 → hf b ≠ 0 → bs (5 * k + b) = 0) ∧ (ix (au 0) ≤ k → ∀ o, o < 5 → bs (5 * k + o) = 0)
/-- loans -/
def zL (lc lh lb ll lr od : Row) : Prop := inb (lc 0) 21 ∧ (∀ l, l < ix (lc 0) → inb (lh l) 16 ∧ inb (lb l) 5 ∧ 0 ≤ (ll l).toInt ∧ (ll l).toInt ≤ 10000 ∧ 0 ≤ (lr l).toInt ∧ (lr l).toInt ≤ 100 ∧ 0 ≤ (od l).toInt ∧ (od l).toInt ≤ 3 ∧ (0 < (ll l).toInt → (od l).toInt ≤ 2)) ∧ ∀ l, l < 20 → ix (lc 0) ≤ l → od l = 0
/-- bids -/
def zD (bc bb bp bn hf : Row) : Prop := inb (bc 0) 13 ∧ (∀ j, j < ix (bc 0) → inb (bb j) 4 ∧ hf (ix (bb j)) = 0 ∧ 50 ≤ (bp j).toInt ∧ (bp j).toInt ≤ 100 ∧ 1 ≤ (bn j).toInt ∧ (bn j).toInt ≤ 1000) ∧ bp 12 = 0
/-- single numbers -/
def zS (dy ra cr rr tr ex : Row) : Prop := 0 ≤ (dy 0).toInt ∧ (dy 0).toInt ≤ 200 ∧ 0 ≤ (ra 0).toInt ∧ (ra 0).toInt ≤ 100 ∧ 0 ≤ (cr 0).toInt ∧ (cr 0).toInt ≤ 100 ∧ 0 ≤ (rr 0).toInt ∧ (rr 0).toInt ≤ 100 ∧ 0 ≤ (tr 0).toInt ∧ 10 ≤ (ex 0).toInt ∧ (ex 0).toInt ≤ 1000
/-- work -/
def zW (fi wa : Row) : Prop := ∀ i, i < 10 → fi i = -1 ∨ (10 ≤ (fi i).toInt ∧ (fi i).toInt < 16 ∧ 1 ≤ (wa i).toInt ∧ (wa i).toInt ≤ 1000)
/-- prices -/
def zQ (pr dy : Row) : Prop := ∀ i, 10 ≤ i → i < 16 → 1 ≤ (pr i).toInt ∧ (pr i).toInt ≤ 10 + (dy 0).toInt
def Num (u v L : Int) (R : Col) : Prop :=
  zH (R kBankOf) (R kAccounts) (R kBlocked) (R kForged) (R kNotes) (R kHaveFailed) ∧
  uS (R kAccounts) (R kNotes) ≤ u ∧
  zP (R kPayments) (R kFroms) (R kTos) (R kStates) (R kAmounts) (R kBankOf) (R kBlocked) ∧
  zB L (R kReserves) (R kVaults) (R kLent) (R kLimits) (R kHaveFailed) (R kAreShort) ∧
  vS (R kReserves) (R kVaults) (R kTreasury) (R kHaveFailed) (R kDays) ≤ v ∧
  zF (R kAuctions) (R kBonds) (R kHaveFailed) ∧
  zL (R kLoans) (R kLoanHolders) (R kLoanBanks) (R kLoanLefts) (R kLoanRates) (R kOverdue) ∧
  zD (R kBids) (R kBidBanks) (R kBidPrices) (R kBidNumbers) (R kHaveFailed) ∧
  zS (R kDays) (R kRate) (R kCapitalRule) (R kReserveRule) (R kTreasury) (R kExchange) ∧
  zW (R kFirms) (R kWages) ∧
  zQ (R kPrices) (R kDays)
/-- the capital of the central bank, as the reference tells it -/
def bonS (R : Col) (o : Nat) : Int32 := s32 (fun k => R kBonds (5 * k + o)) (ix (R kAuctions 0))
def loaS (R : Col) (o : Int32) : Int32 := s32 (fun l => if R kLoanBanks l = o then R kLoanLefts l else 0) (ix (R kLoans 0))
def capR (R : Col) : Int32 := bonS R 4 + loaS R (nI 4) + R kForeignCost 0 - R kTreasury 0 + s32 (fun k => R kLent k - R kReserves k - R kVaults k) 4 - s32 (fun k => R kNotes k - R kForged k) 16
def zDr (C R : Col) : Prop := ∀ i b, i < 10 → b < 4 → (C (kDrawnC + i) b = 0 ∧ R kDrawn (4 * i + b) = -9) ∨ (C (kDrawnC + i) b = R kDrawn (4 * i + b) + 1 ∧ 0 ≤ (R kDrawn (4 * i + b)).toInt ∧ (R kDrawn (4 * i + b)).toInt ≤ 200)
def zBo (cb ag td pc : Row) : Prop := ∀ p, p < ix (pc 0) → (ag p = 0 ∧ cb p = -1) ∨ (ag p = 1 ∧ cb p = td p ∧ 0 ≤ (td p).toInt)
def zFb (fb tb pc st fr to bo : Row) : Prop := ∀ p, p < ix (pc 0) → st p = 0 → fb p = bo (ix (fr p)) ∧ tb p = bo (ix (to p))
def zFi (fi wa : Row) : Prop := ∀ i, 10 ≤ i → i < 16 → fi i = -1 ∧ wa i = 0
def Rel (C R : Col) (d : Int32) : Prop :=
  Sh C R ∧ LogI C ∧ (∀ i, i < 16 → logSum C i = R kAccounts i) ∧ logSum C 16 = capR R + d ∧ zDr C R ∧ zBo (C kBoughtOn) (R kAreGoods) (R kToldDays) (R kPayments) ∧ zFb (C kFromBank) (C kToBank) (R kPayments) (R kStates) (R kFroms) (R kTos) (R kBankOf) ∧ zFi (C kFirms) (C kWages) ∧ C kReserves 4 = 0
theorem Rel.d_eq {C R : Col} {d e : Int32} (h : Rel C R d) (q : d = e) : Rel C R e := q ▸ h
theorem Rel.sh {C R : Col} {d : Int32} (h : Rel C R d) (k i : Nat) (hi : i < shN k) : C k i = R k i := h.1 k i hi
