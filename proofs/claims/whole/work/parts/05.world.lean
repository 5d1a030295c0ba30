/-! the world of this claim: both objects as cells, their numbers as columns -/
abbrev AV : Type := Value ⊕ (Nat × Nat)
abbrev vi (x : Int32) : AV := .inl (.int x)
abbrev vl (x : Int64) : AV := .inl (.long x)
abbrev vr (k i : Nat) : AV := .inr (k, i)
abbrev Col : Type := Nat → Nat → Int32
/-- the columns of the class, those of the reference, the law's long -/
abbrev Mem : Type := Col × Col × Int64
/-- base, addresses, class numbers and slots, array classes -/
abbrev Om : Type := Nat × (Nat → Nat → Nat) × va_G × (Nat → ClassId)
def toV (O : Om) (v : AV) : Value := match v with
  | .inl x => x
  | .inr q => .ref (O.2.1 q.1 q.2)
abbrev kThrown : Nat := 0
abbrev kDays : Nat := 1
abbrev kRate : Nat := 2
abbrev kCapitalRule : Nat := 3
abbrev kReserveRule : Nat := 4
abbrev kNotes : Nat := 5
abbrev kForged : Nat := 6
abbrev kBankOf : Nat := 7
abbrev kAccounts : Nat := 8
abbrev kBlocked : Nat := 9
abbrev kFirms : Nat := 10
abbrev kWages : Nat := 11
abbrev kExpects : Nat := 12
abbrev kDrawn : Nat := 13
abbrev kPrices : Nat := 14
abbrev kBought : Nat := 15
abbrev kReserves : Nat := 16
abbrev kVaults : Nat := 17
abbrev kLent : Nat := 18
abbrev kLimits : Nat := 19
abbrev kHaveFailed : Nat := 20
abbrev kAreShort : Nat := 21
abbrev kNets : Nat := 22
abbrev kPromised : Nat := 23
abbrev kLoans : Nat := 24
abbrev kLoanHolders : Nat := 25
abbrev kLoanBanks : Nat := 26
abbrev kLoanLefts : Nat := 27
abbrev kLoanRates : Nat := 28
abbrev kOverdue : Nat := 29
abbrev kPayments : Nat := 30
abbrev kFroms : Nat := 31
abbrev kTos : Nat := 32
abbrev kAmounts : Nat := 33
abbrev kStates : Nat := 34
abbrev kAreGoods : Nat := 35
abbrev kToldDays : Nat := 36
abbrev kDoneDays : Nat := 37
abbrev kAreChosen : Nat := 38
abbrev kAuctions : Nat := 39
abbrev kDues : Nat := 40
abbrev kBonds : Nat := 41
abbrev kBids : Nat := 42
abbrev kBidBanks : Nat := 43
abbrev kBidPrices : Nat := 44
abbrev kBidNumbers : Nat := 45
abbrev kBidGets : Nat := 46
abbrev kAreSeen : Nat := 47
abbrev kTreasury : Nat := 48
abbrev kForeign : Nat := 49
abbrev kForeignCost : Nat := 50
abbrev kExchange : Nat := 51
abbrev kFromBank : Nat := 60
abbrev kToBank : Nat := 61
abbrev kBoughtOn : Nat := 62
abbrev kLogOwners : Nat := 63
abbrev kLogChanges : Nat := 64
abbrev kLogCarried : Nat := 65
abbrev kLogCount : Nat := 66
abbrev kDrawnC : Nat := 67
def tysO (O : Om) : List (ClassId × FieldType) := [(O.2.2.2 0, .int), (O.2.2.2 1, .boolean), (O.2.2.2 2, .long), (O.2.2.2 3, .object "Newsmint$Holder"), (O.2.2.2 4, .object "Newsmint$Bank"), (O.2.2.2 5, .object "Newsmint$Payment"), (O.2.2.2 6, .object "Newsmint$Loan"), (O.2.2.2 7, .object "Newsmint$Bid")]
def cntK (k : Nat) : Nat := [5, 13, 1, 1, 1, 17, 21, 1, 1, 201, 1, 1, 1, 1, 1, 1, 1, 1, 1, 1, 1, 1, 1, 17, 1, 1, 1, 1, 1, 1, 1, 1, 1, 1, 1, 1, 1, 1, 1, 1, 1, 1, 1, 1, 1, 1, 1, 1, 1, 1, 1, 1, 1, 1, 1, 1, 1, 1, 1, 1, 1, 1, 1, 1].getD k 0
/-- what the object i of kind k holds -/
def ent (O : Om) (S : Mem) (k i : Nat) : va_E := match k with
  | 0 => .inr (0, [.int (S.1 kReserves i), .int (S.1 kVaults i), .int (S.1 kLent i), .int (S.1 kLimits i), .int (S.1 kAreShort i), .int (S.1 kHaveFailed i), .int (S.1 kNets i), .int (S.1 kPromised i)])
  | 1 => .inr (1, [.int (S.1 kBidBanks i), .int (S.1 kBidPrices i), .int (S.1 kBidNumbers i), .int (S.1 kBidGets i), .int (S.1 kAreSeen i)])
  | 2 => .inr (2, [.ref (O.2.1 17 0), .ref (O.2.1 1 12), .int (S.1 kBids i), .int (S.1 kAuctions i), .ref (O.2.1 18 0), .ref (O.2.1 19 0)])
  | 3 => .inr (3, [.ref (O.2.1 4 0), .ref (O.2.1 8 0), .ref (O.2.1 13 0), .ref (O.2.1 14 0), .ref (O.2.1 5 16), .ref (O.2.1 0 4)])
  | 4 => .inr (4, [.int (S.1 kRate i), .int (S.1 kCapitalRule i), .int (S.1 kReserveRule i), .int (S.1 kExchange i), .int (S.1 kTreasury i), .int (S.1 kForeign i), .int (S.1 kForeignCost i)])
  | 5 => .inr (5, [.int (S.1 kNotes i), .int (S.1 kForged i), .int (S.1 kBankOf i), .int (S.1 kAccounts i), .int (S.1 kBlocked i), .int (S.1 kFirms i), .int (S.1 kWages i), .int (S.1 kExpects i), .int (S.1 kPrices i), .int (S.1 kBought i), .ref (O.2.1 23 i)])
  | 6 => .inr (6, [.int (S.1 kLoanHolders i), .int (S.1 kLoanBanks i), .int (S.1 kLoanLefts i), .int (S.1 kLoanRates i), .int (S.1 kOverdue i)])
  | 7 => .inr (7, [.int (S.1 kLoans i), .ref (O.2.1 16 0), .ref (O.2.1 6 20)])
  | 8 => .inr (8, [.ref (O.2.1 20 0), .ref (O.2.1 21 0), .ref (O.2.1 22 0), .int (S.1 kLogCount i)])
  | 9 => .inr (9, [.int (S.1 kFroms i), .int (S.1 kTos i), .int (S.1 kFromBank i), .int (S.1 kToBank i), .int (S.1 kAmounts i), .int (S.1 kStates i), .int (S.1 kAreChosen i), .int (S.1 kBoughtOn i), .int (S.1 kDoneDays i)])
  | 10 => .inr (10, [.int (S.1 kPayments i), .ref (O.2.1 15 0), .ref (O.2.1 9 200)])
  | 11 => .inr (11, [.ref (O.2.1 3 0), .ref (O.2.1 10 0), .ref (O.2.1 7 0), .ref (O.2.1 2 0), .int (S.1 kDays i)])
  | 12 => .inr (12, [.int (S.2.1 kThrown i), .int (S.2.1 kDays i), .int (S.2.1 kRate i), .int (S.2.1 kCapitalRule i), .int (S.2.1 kReserveRule i), .ref (O.2.1 24 0), .ref (O.2.1 25 0), .ref (O.2.1 26 0), .ref (O.2.1 27 0), .ref (O.2.1 28 0), .ref (O.2.1 29 0), .ref (O.2.1 30 0), .ref (O.2.1 31 0), .ref (O.2.1 32 0), .ref (O.2.1 33 0), .ref (O.2.1 34 0), .ref (O.2.1 35 0), .ref (O.2.1 36 0), .ref (O.2.1 37 0), .ref (O.2.1 38 0), .ref (O.2.1 39 0), .ref (O.2.1 40 0), .ref (O.2.1 41 0), .ref (O.2.1 42 0), .int (S.2.1 kLoans i), .ref (O.2.1 43 0), .ref (O.2.1 44 0), .ref (O.2.1 45 0), .ref (O.2.1 46 0), .ref (O.2.1 47 0), .int (S.2.1 kPayments i), .ref (O.2.1 48 0), .ref (O.2.1 49 0), .ref (O.2.1 50 0), .ref (O.2.1 51 0), .ref (O.2.1 52 0), .ref (O.2.1 53 0), .ref (O.2.1 54 0), .ref (O.2.1 55 0), .int (S.2.1 kAuctions i), .ref (O.2.1 56 0), .ref (O.2.1 57 0), .int (S.2.1 kBids i), .ref (O.2.1 58 0), .ref (O.2.1 59 0), .ref (O.2.1 60 0), .ref (O.2.1 61 0), .ref (O.2.1 62 0), .int (S.2.1 kTreasury i), .int (S.2.1 kForeign i), .int (S.2.1 kForeignCost i), .int (S.2.1 kExchange i)])
  | 13 => .inl (O.2.2.2 3, 16, .inr (.inr (.inr (.inr (fun j => some (O.2.1 5 j))))))
  | 14 => .inl (O.2.2.2 4, 4, .inr (.inr (.inr (.inr (fun j => some (O.2.1 0 j))))))
  | 15 => .inl (O.2.2.2 5, 200, .inr (.inr (.inr (.inr (fun j => some (O.2.1 9 j))))))
  | 16 => .inl (O.2.2.2 6, 20, .inr (.inr (.inr (.inr (fun j => some (O.2.1 6 j))))))
  | 17 => .inl (O.2.2.2 7, 12, .inr (.inr (.inr (.inr (fun j => some (O.2.1 1 j))))))
  | 18 => .inl (O.2.2.2 0, 20, .inl (fun j => S.1 kDues j))
  | 19 => .inl (O.2.2.2 0, 100, .inl (fun j => S.1 kBonds j))
  | 20 => .inl (O.2.2.2 0, 400, .inl (fun j => S.1 kLogOwners j))
  | 21 => .inl (O.2.2.2 0, 400, .inl (fun j => S.1 kLogChanges j))
  | 22 => .inl (O.2.2.2 0, 17, .inl (fun j => S.1 kLogCarried j))
  | 23 => .inl (O.2.2.2 0, 4, .inl (fun j => S.1 (kDrawnC + i) j))
  | 24 => .inl (O.2.2.2 0, 16, .inl (fun j => S.2.1 kNotes j))
  | 25 => .inl (O.2.2.2 0, 16, .inl (fun j => S.2.1 kForged j))
  | 26 => .inl (O.2.2.2 0, 16, .inl (fun j => S.2.1 kBankOf j))
  | 27 => .inl (O.2.2.2 0, 16, .inl (fun j => S.2.1 kAccounts j))
  | 28 => .inl (O.2.2.2 0, 16, .inl (fun j => S.2.1 kBlocked j))
  | 29 => .inl (O.2.2.2 0, 10, .inl (fun j => S.2.1 kFirms j))
  | 30 => .inl (O.2.2.2 0, 10, .inl (fun j => S.2.1 kWages j))
  | 31 => .inl (O.2.2.2 0, 10, .inl (fun j => S.2.1 kExpects j))
  | 32 => .inl (O.2.2.2 0, 40, .inl (fun j => S.2.1 kDrawn j))
  | 33 => .inl (O.2.2.2 0, 16, .inl (fun j => S.2.1 kPrices j))
  | 34 => .inl (O.2.2.2 0, 16, .inl (fun j => S.2.1 kBought j))
  | 35 => .inl (O.2.2.2 0, 4, .inl (fun j => S.2.1 kReserves j))
  | 36 => .inl (O.2.2.2 0, 4, .inl (fun j => S.2.1 kVaults j))
  | 37 => .inl (O.2.2.2 0, 4, .inl (fun j => S.2.1 kLent j))
  | 38 => .inl (O.2.2.2 0, 4, .inl (fun j => S.2.1 kLimits j))
  | 39 => .inl (O.2.2.2 1, 4, .inl (fun j => S.2.1 kHaveFailed j))
  | 40 => .inl (O.2.2.2 1, 4, .inl (fun j => S.2.1 kAreShort j))
  | 41 => .inl (O.2.2.2 0, 4, .inl (fun j => S.2.1 kNets j))
  | 42 => .inl (O.2.2.2 0, 4, .inl (fun j => S.2.1 kPromised j))
  | 43 => .inl (O.2.2.2 0, 20, .inl (fun j => S.2.1 kLoanHolders j))
  | 44 => .inl (O.2.2.2 0, 20, .inl (fun j => S.2.1 kLoanBanks j))
  | 45 => .inl (O.2.2.2 0, 20, .inl (fun j => S.2.1 kLoanLefts j))
  | 46 => .inl (O.2.2.2 0, 20, .inl (fun j => S.2.1 kLoanRates j))
  | 47 => .inl (O.2.2.2 0, 20, .inl (fun j => S.2.1 kOverdue j))
  | 48 => .inl (O.2.2.2 0, 200, .inl (fun j => S.2.1 kFroms j))
  | 49 => .inl (O.2.2.2 0, 200, .inl (fun j => S.2.1 kTos j))
  | 50 => .inl (O.2.2.2 0, 200, .inl (fun j => S.2.1 kAmounts j))
  | 51 => .inl (O.2.2.2 0, 200, .inl (fun j => S.2.1 kStates j))
  | 52 => .inl (O.2.2.2 1, 200, .inl (fun j => S.2.1 kAreGoods j))
  | 53 => .inl (O.2.2.2 0, 200, .inl (fun j => S.2.1 kToldDays j))
  | 54 => .inl (O.2.2.2 0, 200, .inl (fun j => S.2.1 kDoneDays j))
  | 55 => .inl (O.2.2.2 1, 200, .inl (fun j => S.2.1 kAreChosen j))
  | 56 => .inl (O.2.2.2 0, 20, .inl (fun j => S.2.1 kDues j))
  | 57 => .inl (O.2.2.2 0, 100, .inl (fun j => S.2.1 kBonds j))
  | 58 => .inl (O.2.2.2 0, 12, .inl (fun j => S.2.1 kBidBanks j))
  | 59 => .inl (O.2.2.2 0, 12, .inl (fun j => S.2.1 kBidPrices j))
  | 60 => .inl (O.2.2.2 0, 12, .inl (fun j => S.2.1 kBidNumbers j))
  | 61 => .inl (O.2.2.2 0, 12, .inl (fun j => S.2.1 kBidGets j))
  | 62 => .inl (O.2.2.2 1, 12, .inl (fun j => S.2.1 kAreSeen j))
  | _ => .inl (O.2.2.2 2, 1, .inr (.inl (fun j => if j = 0 then S.2.2 else 0)))
/-- the columns of the class that kind k holds; of the reference -/
def colsC (k : Nat) : List Nat := [[kReserves, kVaults, kLent, kLimits, kAreShort, kHaveFailed, kNets, kPromised], [kBidBanks, kBidPrices, kBidNumbers, kBidGets, kAreSeen], [kBids, kAuctions], [], [kRate, kCapitalRule, kReserveRule, kExchange, kTreasury, kForeign, kForeignCost], [kNotes, kForged, kBankOf, kAccounts, kBlocked, kFirms, kWages, kExpects, kPrices, kBought], [kLoanHolders, kLoanBanks, kLoanLefts, kLoanRates, kOverdue], [kLoans], [kLogCount], [kFroms, kTos, kFromBank, kToBank, kAmounts, kStates, kAreChosen, kBoughtOn, kDoneDays], [kPayments], [kDays], [], [], [], [], [], [], [kDues], [kBonds], [kLogOwners], [kLogChanges], [kLogCarried]].getD k []
def colsR (k : Nat) : List Nat := [[], [], [], [], [], [], [], [], [], [], [], [], [kThrown, kDays, kRate, kCapitalRule, kReserveRule, kLoans, kPayments, kAuctions, kBids, kTreasury, kForeign, kForeignCost, kExchange], [], [], [], [], [], [], [], [], [], [], [], [kNotes], [kForged], [kBankOf], [kAccounts], [kBlocked], [kFirms], [kWages], [kExpects], [kDrawn], [kPrices], [kBought], [kReserves], [kVaults], [kLent], [kLimits], [kHaveFailed], [kAreShort], [kNets], [kPromised], [kLoanHolders], [kLoanBanks], [kLoanLefts], [kLoanRates], [kOverdue], [kFroms], [kTos], [kAmounts], [kStates], [kAreGoods], [kToldDays], [kDoneDays], [kAreChosen], [kDues], [kBonds], [kBidBanks], [kBidPrices], [kBidNumbers], [kBidGets], [kAreSeen], []].getD k []
