/-! names, as printed for this claim; then a table a method, its instructions by their places, and the words that each call and field stands on -/
def RX0 : String := "Newsmint$Bank"
def TX0 : u_T := fun k => match k with
  | 0 => ("Newsmint$Bank", "reserves", "I", false)
  | 1 => ("Newsmint$Bank", "vault", "I", false)
  | 2 => ("Newsmint$Bank", "lent", "I", false)
  | 3 => ("Newsmint$Bank", "limit", "I", false)
  | 4 => ("Newsmint$Bank", "isShort", "Z", false)
  | 5 => ("Newsmint$Bank", "hasFailed", "Z", false)
  | 6 => ("Newsmint$Bank", "net", "I", false)
  | _ => ("Newsmint$Bank", "promised", "I", false)
def tyX0 : Nat → FieldType := fun k => match k with
  | 0 => .int
  | 1 => .int
  | 2 => .int
  | 3 => .int
  | 4 => .boolean
  | 5 => .boolean
  | 6 => .int
  | _ => .int
abbrev wsX00 : List Cond := u_ws RX0 TX0 8
theorem nmX0 : ∀ a, a < 8 → ∀ b, b < 8 → a ≠ b → (TX0 a).2.1 ≠ (TX0 b).2.1 := by decide +kernel
theorem tyX0_ok : ∀ k, k < 8 → parseFieldDescriptor (TX0 k).2.2.1 = some (tyX0 k) := by decide +kernel
abbrev cX0_init : ByteArray := prog_2_method_1_code
def yX0_init : MethodName := ⟨RX0, "<init>", "()V"⟩
abbrev cX0_borrow : ByteArray := prog_2_method_2_code
def yX0_borrow : MethodName := ⟨RX0, "borrow", "(I)V"⟩
abbrev cX0_lacks : ByteArray := prog_2_method_3_code
def yX0_lacks : MethodName := ⟨RX0, "lacks", "()I"⟩
abbrev cX0_end : ByteArray := prog_2_method_4_code
def yX0_end : MethodName := ⟨RX0, "end", "()V"⟩
def RX1 : String := "Newsmint$Bid"
def TX1 : u_T := fun k => match k with
  | 0 => ("Newsmint$Bid", "bank", "I", false)
  | 1 => ("Newsmint$Bid", "price", "I", false)
  | 2 => ("Newsmint$Bid", "number", "I", false)
  | 3 => ("Newsmint$Bid", "got", "I", false)
  | _ => ("Newsmint$Bid", "wasTried", "Z", false)
def tyX1 : Nat → FieldType := fun k => match k with
  | 0 => .int
  | 1 => .int
  | 2 => .int
  | 3 => .int
  | _ => .boolean
abbrev wsX10 : List Cond := u_ws RX1 TX1 5
theorem nmX1 : ∀ a, a < 5 → ∀ b, b < 5 → a ≠ b → (TX1 a).2.1 ≠ (TX1 b).2.1 := by decide +kernel
theorem tyX1_ok : ∀ k, k < 5 → parseFieldDescriptor (TX1 k).2.2.1 = some (tyX1 k) := by decide +kernel
abbrev cX1_init : ByteArray := prog_3_method_1_code
def yX1_init : MethodName := ⟨RX1, "<init>", "()V"⟩
abbrev cX1_become : ByteArray := prog_3_method_2_code
def yX1_become : MethodName := ⟨RX1, "become", "(LNewsmint$Bid;)V"⟩
def RX2 : String := "Newsmint$Bonds"
def TX2 : u_T := fun k => match k with
  | 0 => ("Newsmint$Bonds", "bids", "[LNewsmint$Bid;", true)
  | 1 => ("Newsmint$Bonds", "noBid", "LNewsmint$Bid;", true)
  | 2 => ("Newsmint$Bonds", "bidCount", "I", false)
  | 3 => ("Newsmint$Bonds", "auctionCount", "I", false)
  | 4 => ("Newsmint$Bonds", "dueOn", "[I", true)
  | _ => ("Newsmint$Bonds", "numbers", "[I", true)
def tyX2 : Nat → FieldType := fun k => match k with
  | 0 => .array (.object "Newsmint$Bid")
  | 1 => .object "Newsmint$Bid"
  | 2 => .int
  | 3 => .int
  | 4 => .array .int
  | _ => .array .int
abbrev wsX20 : List Cond := u_ws RX2 TX2 6
theorem nmX2 : ∀ a, a < 6 → ∀ b, b < 6 → a ≠ b → (TX2 a).2.1 ≠ (TX2 b).2.1 := by decide +kernel
theorem tyX2_ok : ∀ k, k < 6 → parseFieldDescriptor (TX2 k).2.2.1 = some (tyX2 k) := by decide +kernel
abbrev cX2_init : ByteArray := prog_4_method_1_code
def yX2_init : MethodName := ⟨RX2, "<init>", "()V"⟩
abbrev cX2_bidAt : ByteArray := prog_4_method_2_code
def yX2_bidAt : MethodName := ⟨RX2, "bidAt", "(I)LNewsmint$Bid;"⟩
abbrev cX2_bidsAreFull : ByteArray := prog_4_method_3_code
def yX2_bidsAreFull : MethodName := ⟨RX2, "bidsAreFull", "()Z"⟩
abbrev cX2_auctionsAreFull : ByteArray := prog_4_method_4_code
def yX2_auctionsAreFull : MethodName := ⟨RX2, "auctionsAreFull", "()Z"⟩
abbrev cX2_addBid : ByteArray := prog_4_method_5_code
def yX2_addBid : MethodName := ⟨RX2, "addBid", "(III)I"⟩
abbrev cX2_dropBids : ByteArray := prog_4_method_6_code
def yX2_dropBids : MethodName := ⟨RX2, "dropBids", "(I)V"⟩
abbrev cX2_takeBids : ByteArray := prog_4_method_7_code
def yX2_takeBids : MethodName := ⟨RX2, "takeBids", "(LNewsmint$Books;I)I"⟩
abbrev cX2_highestBidNotTried : ByteArray := prog_4_method_8_code
def yX2_highestBidNotTried : MethodName := ⟨RX2, "highestBidNotTried", "()LNewsmint$Bid;"⟩
abbrev cX2_sell : ByteArray := prog_4_method_9_code
def yX2_sell : MethodName := ⟨RX2, "sell", "(LNewsmint$Books;II)V"⟩
abbrev cX2_held : ByteArray := prog_4_method_10_code
def yX2_held : MethodName := ⟨RX2, "held", "(II)I"⟩
abbrev cX2_add : ByteArray := prog_4_method_11_code
def yX2_add : MethodName := ⟨RX2, "add", "(III)V"⟩
abbrev cX2_of : ByteArray := prog_4_method_12_code
def yX2_of : MethodName := ⟨RX2, "of", "(I)I"⟩
abbrev cX2_moveToCentral : ByteArray := prog_4_method_13_code
def yX2_moveToCentral : MethodName := ⟨RX2, "moveToCentral", "(II)V"⟩
abbrev cX2_payDue : ByteArray := prog_4_method_14_code
def yX2_payDue : MethodName := ⟨RX2, "payDue", "(LNewsmint$Books;I)V"⟩
abbrev cX2_payBondsOf : ByteArray := prog_4_method_15_code
def yX2_payBondsOf : MethodName := ⟨RX2, "payBondsOf", "(LNewsmint$Books;II)V"⟩
def RX3 : String := "Newsmint$Books"
def TX3 : u_T := fun k => match k with
  | 0 => ("Newsmint$Books", "central", "LNewsmint$Central;", true)
  | 1 => ("Newsmint$Books", "log", "LNewsmint$Log;", true)
  | 2 => ("Newsmint$Books", "holders", "[LNewsmint$Holder;", true)
  | 3 => ("Newsmint$Books", "banks", "[LNewsmint$Bank;", true)
  | 4 => ("Newsmint$Books", "nobody", "LNewsmint$Holder;", true)
  | _ => ("Newsmint$Books", "noBank", "LNewsmint$Bank;", true)
def tyX3 : Nat → FieldType := fun k => match k with
  | 0 => .object "Newsmint$Central"
  | 1 => .object "Newsmint$Log"
  | 2 => .array (.object "Newsmint$Holder")
  | 3 => .array (.object "Newsmint$Bank")
  | 4 => .object "Newsmint$Holder"
  | _ => .object "Newsmint$Bank"
abbrev wsX30 : List Cond := u_ws RX3 TX3 6
theorem nmX3 : ∀ a, a < 6 → ∀ b, b < 6 → a ≠ b → (TX3 a).2.1 ≠ (TX3 b).2.1 := by decide +kernel
theorem tyX3_ok : ∀ k, k < 6 → parseFieldDescriptor (TX3 k).2.2.1 = some (tyX3 k) := by decide +kernel
abbrev cX3_init : ByteArray := prog_5_method_1_code
def yX3_init : MethodName := ⟨RX3, "<init>", "()V"⟩
abbrev cX3_holder : ByteArray := prog_5_method_2_code
def yX3_holder : MethodName := ⟨RX3, "holder", "(I)LNewsmint$Holder;"⟩
abbrev cX3_bank : ByteArray := prog_5_method_3_code
def yX3_bank : MethodName := ⟨RX3, "bank", "(I)LNewsmint$Bank;"⟩
abbrev cX3_change : ByteArray := prog_5_method_4_code
def yX3_change : MethodName := ⟨RX3, "change", "(II)V"⟩
abbrev cX3_noteCentral : ByteArray := prog_5_method_5_code
def yX3_noteCentral : MethodName := ⟨RX3, "noteCentral", "(I)V"⟩
abbrev cX3_accountsAt : ByteArray := prog_5_method_6_code
def yX3_accountsAt : MethodName := ⟨RX3, "accountsAt", "(I)I"⟩
abbrev cX3_inAccountsAt : ByteArray := prog_5_method_7_code
def yX3_inAccountsAt : MethodName := ⟨RX3, "inAccountsAt", "(I)I"⟩
abbrev cX3_goodNotesOfHolders : ByteArray := prog_5_method_8_code
def yX3_goodNotesOfHolders : MethodName := ⟨RX3, "goodNotesOfHolders", "()I"⟩
abbrev cX3_banksThatStand : ByteArray := prog_5_method_9_code
def yX3_banksThatStand : MethodName := ⟨RX3, "banksThatStand", "()I"⟩
abbrev cX3_lowestBankThatStands : ByteArray := prog_5_method_10_code
def yX3_lowestBankThatStands : MethodName := ⟨RX3, "lowestBankThatStands", "()I"⟩
abbrev cX3_bankThatLacksMost : ByteArray := prog_5_method_11_code
def yX3_bankThatLacksMost : MethodName := ⟨RX3, "bankThatLacksMost", "()I"⟩
abbrev cX3_canPayOwner : ByteArray := prog_5_method_12_code
def yX3_canPayOwner : MethodName := ⟨RX3, "canPayOwner", "(LNewsmint$Loan;I)Z"⟩
abbrev cX3_payOwner : ByteArray := prog_5_method_13_code
def yX3_payOwner : MethodName := ⟨RX3, "payOwner", "(LNewsmint$Loan;I)V"⟩
abbrev cX3_payOut : ByteArray := prog_5_method_14_code
def yX3_payOut : MethodName := ⟨RX3, "payOut", "(II)I"⟩
def RX4 : String := "Newsmint$Central"
def TX4 : u_T := fun k => match k with
  | 0 => ("Newsmint$Central", "rate", "I", false)
  | 1 => ("Newsmint$Central", "capitalRule", "I", false)
  | 2 => ("Newsmint$Central", "reserveRule", "I", false)
  | 3 => ("Newsmint$Central", "exchangeRate", "I", false)
  | 4 => ("Newsmint$Central", "treasury", "I", false)
  | 5 => ("Newsmint$Central", "foreignMoney", "I", false)
  | _ => ("Newsmint$Central", "paidForForeign", "I", false)
def tyX4 : Nat → FieldType := fun k => match k with
  | 0 => .int
  | 1 => .int
  | 2 => .int
  | 3 => .int
  | 4 => .int
  | 5 => .int
  | _ => .int
abbrev wsX40 : List Cond := u_ws RX4 TX4 7
theorem nmX4 : ∀ a, a < 7 → ∀ b, b < 7 → a ≠ b → (TX4 a).2.1 ≠ (TX4 b).2.1 := by decide +kernel
theorem tyX4_ok : ∀ k, k < 7 → parseFieldDescriptor (TX4 k).2.2.1 = some (tyX4 k) := by decide +kernel
abbrev cX4_init : ByteArray := prog_6_method_1_code
def yX4_init : MethodName := ⟨RX4, "<init>", "()V"⟩
def RX5 : String := "Newsmint$Holder"
def TX5 : u_T := fun k => match k with
  | 0 => ("Newsmint$Holder", "notes", "I", false)
  | 1 => ("Newsmint$Holder", "forged", "I", false)
  | 2 => ("Newsmint$Holder", "bank", "I", false)
  | 3 => ("Newsmint$Holder", "balance", "I", false)
  | 4 => ("Newsmint$Holder", "blocked", "I", false)
  | 5 => ("Newsmint$Holder", "firm", "I", false)
  | 6 => ("Newsmint$Holder", "wage", "I", false)
  | 7 => ("Newsmint$Holder", "expects", "I", false)
  | 8 => ("Newsmint$Holder", "price", "I", false)
  | 9 => ("Newsmint$Holder", "sold", "I", false)
  | _ => ("Newsmint$Holder", "drawn", "[I", true)
def tyX5 : Nat → FieldType := fun k => match k with
  | 0 => .int
  | 1 => .int
  | 2 => .int
  | 3 => .int
  | 4 => .int
  | 5 => .int
  | 6 => .int
  | 7 => .int
  | 8 => .int
  | 9 => .int
  | _ => .array .int
abbrev wsX50 : List Cond := u_ws RX5 TX5 11
theorem nmX5 : ∀ a, a < 11 → ∀ b, b < 11 → a ≠ b → (TX5 a).2.1 ≠ (TX5 b).2.1 := by decide +kernel
theorem tyX5_ok : ∀ k, k < 11 → parseFieldDescriptor (TX5 k).2.2.1 = some (tyX5 k) := by decide +kernel
abbrev cX5_init : ByteArray := prog_7_method_1_code
def yX5_init : MethodName := ⟨RX5, "<init>", "()V"⟩
abbrev cX5_free : ByteArray := prog_7_method_2_code
def yX5_free : MethodName := ⟨RX5, "free", "()I"⟩
abbrev cX5_sureOfAccount : ByteArray := prog_7_method_3_code
def yX5_sureOfAccount : MethodName := ⟨RX5, "sureOfAccount", "()I"⟩
abbrev cX5_forgedAmong : ByteArray := prog_7_method_4_code
def yX5_forgedAmong : MethodName := ⟨RX5, "forgedAmong", "(I)I"⟩
abbrev cX5_takeNotes : ByteArray := prog_7_method_5_code
def yX5_takeNotes : MethodName := ⟨RX5, "takeNotes", "(II)V"⟩
abbrev cX5_markDrawn : ByteArray := prog_7_method_6_code
def yX5_markDrawn : MethodName := ⟨RX5, "markDrawn", "(II)V"⟩
abbrev cX5_hasDrawnSince : ByteArray := prog_7_method_7_code
def yX5_hasDrawnSince : MethodName := ⟨RX5, "hasDrawnSince", "(II)Z"⟩
def RX6 : String := "Newsmint$Loan"
def TX6 : u_T := fun k => match k with
  | 0 => ("Newsmint$Loan", "holder", "I", false)
  | 1 => ("Newsmint$Loan", "owner", "I", false)
  | 2 => ("Newsmint$Loan", "left", "I", false)
  | 3 => ("Newsmint$Loan", "rate", "I", false)
  | _ => ("Newsmint$Loan", "overdue", "I", false)
def tyX6 : Nat → FieldType := fun k => match k with
  | 0 => .int
  | 1 => .int
  | 2 => .int
  | 3 => .int
  | _ => .int
abbrev wsX60 : List Cond := u_ws RX6 TX6 5
theorem nmX6 : ∀ a, a < 5 → ∀ b, b < 5 → a ≠ b → (TX6 a).2.1 ≠ (TX6 b).2.1 := by decide +kernel
theorem tyX6_ok : ∀ k, k < 5 → parseFieldDescriptor (TX6 k).2.2.1 = some (tyX6 k) := by decide +kernel
abbrev cX6_init : ByteArray := prog_8_method_1_code
def yX6_init : MethodName := ⟨RX6, "<init>", "()V"⟩
def RX7 : String := "Newsmint$Loans"
def TX7 : u_T := fun k => match k with
  | 0 => ("Newsmint$Loans", "count", "I", false)
  | 1 => ("Newsmint$Loans", "rows", "[LNewsmint$Loan;", true)
  | _ => ("Newsmint$Loans", "noLoan", "LNewsmint$Loan;", true)
def tyX7 : Nat → FieldType := fun k => match k with
  | 0 => .int
  | 1 => .array (.object "Newsmint$Loan")
  | _ => .object "Newsmint$Loan"
abbrev wsX70 : List Cond := u_ws RX7 TX7 3
theorem nmX7 : ∀ a, a < 3 → ∀ b, b < 3 → a ≠ b → (TX7 a).2.1 ≠ (TX7 b).2.1 := by decide +kernel
theorem tyX7_ok : ∀ k, k < 3 → parseFieldDescriptor (TX7 k).2.2.1 = some (tyX7 k) := by decide +kernel
abbrev cX7_init : ByteArray := prog_9_method_1_code
def yX7_init : MethodName := ⟨RX7, "<init>", "()V"⟩
abbrev cX7_at : ByteArray := prog_9_method_2_code
def yX7_at : MethodName := ⟨RX7, "at", "(I)LNewsmint$Loan;"⟩
abbrev cX7_isFull : ByteArray := prog_9_method_3_code
def yX7_isFull : MethodName := ⟨RX7, "isFull", "()Z"⟩
abbrev cX7_give : ByteArray := prog_9_method_4_code
def yX7_give : MethodName := ⟨RX7, "give", "(IIII)I"⟩
abbrev cX7_leftOf : ByteArray := prog_9_method_5_code
def yX7_leftOf : MethodName := ⟨RX7, "leftOf", "(I)I"⟩
abbrev cX7_moveToCentral : ByteArray := prog_9_method_6_code
def yX7_moveToCentral : MethodName := ⟨RX7, "moveToCentral", "(I)V"⟩
def RX8 : String := "Newsmint$Log"
def TX8 : u_T := fun k => match k with
  | 0 => ("Newsmint$Log", "owners", "[I", true)
  | 1 => ("Newsmint$Log", "changes", "[I", true)
  | 2 => ("Newsmint$Log", "carried", "[I", true)
  | _ => ("Newsmint$Log", "count", "I", false)
def tyX8 : Nat → FieldType := fun k => match k with
  | 0 => .array .int
  | 1 => .array .int
  | 2 => .array .int
  | _ => .int
abbrev wsX80 : List Cond := u_ws RX8 TX8 4
theorem nmX8 : ∀ a, a < 4 → ∀ b, b < 4 → a ≠ b → (TX8 a).2.1 ≠ (TX8 b).2.1 := by decide +kernel
theorem tyX8_ok : ∀ k, k < 4 → parseFieldDescriptor (TX8 k).2.2.1 = some (tyX8 k) := by decide +kernel
abbrev cX8_init : ByteArray := prog_10_method_1_code
def yX8_init : MethodName := ⟨RX8, "<init>", "()V"⟩
abbrev cX8_note : ByteArray := prog_10_method_2_code
def yX8_note : MethodName := ⟨RX8, "note", "(II)V"⟩
abbrev cX8_sumOf : ByteArray := prog_10_method_3_code
def yX8_sumOf : MethodName := ⟨RX8, "sumOf", "(I)I"⟩
def RX9 : String := "Newsmint$Payment"
def TX9 : u_T := fun k => match k with
  | 0 => ("Newsmint$Payment", "from", "I", false)
  | 1 => ("Newsmint$Payment", "to", "I", false)
  | 2 => ("Newsmint$Payment", "fromBank", "I", false)
  | 3 => ("Newsmint$Payment", "toBank", "I", false)
  | 4 => ("Newsmint$Payment", "amount", "I", false)
  | 5 => ("Newsmint$Payment", "state", "I", false)
  | 6 => ("Newsmint$Payment", "isChosen", "Z", false)
  | 7 => ("Newsmint$Payment", "boughtOn", "I", false)
  | _ => ("Newsmint$Payment", "doneOn", "I", false)
def tyX9 : Nat → FieldType := fun k => match k with
  | 0 => .int
  | 1 => .int
  | 2 => .int
  | 3 => .int
  | 4 => .int
  | 5 => .int
  | 6 => .boolean
  | 7 => .int
  | _ => .int
abbrev wsX90 : List Cond := u_ws RX9 TX9 9
theorem nmX9 : ∀ a, a < 9 → ∀ b, b < 9 → a ≠ b → (TX9 a).2.1 ≠ (TX9 b).2.1 := by decide +kernel
theorem tyX9_ok : ∀ k, k < 9 → parseFieldDescriptor (TX9 k).2.2.1 = some (tyX9 k) := by decide +kernel
abbrev cX9_init : ByteArray := prog_11_method_1_code
def yX9_init : MethodName := ⟨RX9, "<init>", "()V"⟩
abbrev cX9_netFor : ByteArray := prog_11_method_2_code
def yX9_netFor : MethodName := ⟨RX9, "netFor", "(I)I"⟩
def RX10 : String := "Newsmint$Payments"
def TX10 : u_T := fun k => match k with
  | 0 => ("Newsmint$Payments", "count", "I", false)
  | 1 => ("Newsmint$Payments", "rows", "[LNewsmint$Payment;", true)
  | _ => ("Newsmint$Payments", "noPayment", "LNewsmint$Payment;", true)
def tyX10 : Nat → FieldType := fun k => match k with
  | 0 => .int
  | 1 => .array (.object "Newsmint$Payment")
  | _ => .object "Newsmint$Payment"
abbrev wsX100 : List Cond := u_ws RX10 TX10 3
theorem nmX10 : ∀ a, a < 3 → ∀ b, b < 3 → a ≠ b → (TX10 a).2.1 ≠ (TX10 b).2.1 := by decide +kernel
theorem tyX10_ok : ∀ k, k < 3 → parseFieldDescriptor (TX10 k).2.2.1 = some (tyX10 k) := by decide +kernel
abbrev cX10_init : ByteArray := prog_12_method_1_code
def yX10_init : MethodName := ⟨RX10, "<init>", "()V"⟩
abbrev cX10_at : ByteArray := prog_12_method_2_code
def yX10_at : MethodName := ⟨RX10, "at", "(I)LNewsmint$Payment;"⟩
abbrev cX10_isFull : ByteArray := prog_12_method_3_code
def yX10_isFull : MethodName := ⟨RX10, "isFull", "()Z"⟩
abbrev cX10_tell : ByteArray := prog_12_method_4_code
def yX10_tell : MethodName := ⟨RX10, "tell", "(LNewsmint$Books;IIIII)I"⟩
abbrev cX10_finish : ByteArray := prog_12_method_5_code
def yX10_finish : MethodName := ⟨RX10, "finish", "(LNewsmint$Books;LNewsmint$Payment;I)V"⟩
abbrev cX10_clearAll : ByteArray := prog_12_method_6_code
def yX10_clearAll : MethodName := ⟨RX10, "clearAll", "(LNewsmint$Books;I)I"⟩
abbrev cX10_chooseAllThatWait : ByteArray := prog_12_method_7_code
def yX10_chooseAllThatWait : MethodName := ⟨RX10, "chooseAllThatWait", "(LNewsmint$Books;)V"⟩
abbrev cX10_leaveOutLatestOf : ByteArray := prog_12_method_8_code
def yX10_leaveOutLatestOf : MethodName := ⟨RX10, "leaveOutLatestOf", "(LNewsmint$Books;I)V"⟩
abbrev cX10_finishChosen : ByteArray := prog_12_method_9_code
def yX10_finishChosen : MethodName := ⟨RX10, "finishChosen", "(LNewsmint$Books;I)I"⟩
abbrev cX10_takeBack : ByteArray := prog_12_method_10_code
def yX10_takeBack : MethodName := ⟨RX10, "takeBack", "(LNewsmint$Books;I)V"⟩
abbrev cX10_oneWaitsTo : ByteArray := prog_12_method_11_code
def yX10_oneWaitsTo : MethodName := ⟨RX10, "oneWaitsTo", "(I)Z"⟩
abbrev cX10_waitingNet : ByteArray := prog_12_method_12_code
def yX10_waitingNet : MethodName := ⟨RX10, "waitingNet", "(I)I"⟩
abbrev cX10_goodsBoughtOn : ByteArray := prog_12_method_13_code
def yX10_goodsBoughtOn : MethodName := ⟨RX10, "goodsBoughtOn", "(IZ)I"⟩
def RX11 : String := "Newsmint"
def TX11 : u_T := fun k => match k with
  | 0 => ("Newsmint", "books", "LNewsmint$Books;", true)
  | 1 => ("Newsmint", "payments", "LNewsmint$Payments;", true)
  | 2 => ("Newsmint", "loans", "LNewsmint$Loans;", true)
  | 3 => ("Newsmint", "bonds", "LNewsmint$Bonds;", true)
  | _ => ("Newsmint", "today", "I", false)
def tyX11 : Nat → FieldType := fun k => match k with
  | 0 => .object "Newsmint$Books"
  | 1 => .object "Newsmint$Payments"
  | 2 => .object "Newsmint$Loans"
  | 3 => .object "Newsmint$Bonds"
  | _ => .int
abbrev wsX110 : List Cond := u_ws RX11 TX11 5
theorem nmX11 : ∀ a, a < 5 → ∀ b, b < 5 → a ≠ b → (TX11 a).2.1 ≠ (TX11 b).2.1 := by decide +kernel
theorem tyX11_ok : ∀ k, k < 5 → parseFieldDescriptor (TX11 k).2.2.1 = some (tyX11 k) := by decide +kernel
abbrev cX11_init : ByteArray := prog_1_method_1_code
def yX11_init : MethodName := ⟨RX11, "<init>", "()V"⟩
abbrev cX11_mint : ByteArray := prog_1_method_2_code
def yX11_mint : MethodName := ⟨RX11, "mint", "(II)I"⟩
abbrev cX11_forge : ByteArray := prog_1_method_3_code
def yX11_forge : MethodName := ⟨RX11, "forge", "(II)I"⟩
abbrev cX11_hand : ByteArray := prog_1_method_4_code
def yX11_hand : MethodName := ⟨RX11, "hand", "(III)I"⟩
abbrev cX11_open : ByteArray := prog_1_method_5_code
def yX11_open : MethodName := ⟨RX11, "open", "(II)I"⟩
abbrev cX11_close : ByteArray := prog_1_method_6_code
def yX11_close : MethodName := ⟨RX11, "close", "(I)I"⟩
abbrev cX11_bring : ByteArray := prog_1_method_7_code
def yX11_bring : MethodName := ⟨RX11, "bring", "(II)I"⟩
abbrev cX11_draw : ByteArray := prog_1_method_8_code
def yX11_draw : MethodName := ⟨RX11, "draw", "(II)I"⟩
abbrev cX11_pay : ByteArray := prog_1_method_9_code
def yX11_pay : MethodName := ⟨RX11, "pay", "(III)I"⟩
abbrev cX11_clear : ByteArray := prog_1_method_10_code
def yX11_clear : MethodName := ⟨RX11, "clear", "()I"⟩
abbrev cX11_limit : ByteArray := prog_1_method_11_code
def yX11_limit : MethodName := ⟨RX11, "limit", "(II)I"⟩
abbrev cX11_endow : ByteArray := prog_1_method_12_code
def yX11_endow : MethodName := ⟨RX11, "endow", "(II)I"⟩
abbrev cX11_lend : ByteArray := prog_1_method_13_code
def yX11_lend : MethodName := ⟨RX11, "lend", "(IIII)I"⟩
abbrev cX11_payBack : ByteArray := prog_1_method_14_code
def yX11_payBack : MethodName := ⟨RX11, "payBack", "(II)I"⟩
abbrev cX11_window : ByteArray := prog_1_method_15_code
def yX11_window : MethodName := ⟨RX11, "window", "(II)I"⟩
abbrev cX11_windowBack : ByteArray := prog_1_method_16_code
def yX11_windowBack : MethodName := ⟨RX11, "windowBack", "(II)I"⟩
abbrev cX11_rules : ByteArray := prog_1_method_17_code
def yX11_rules : MethodName := ⟨RX11, "rules", "(III)I"⟩
abbrev cX11_buyBonds : ByteArray := prog_1_method_18_code
def yX11_buyBonds : MethodName := ⟨RX11, "buyBonds", "(II)I"⟩
abbrev cX11_bid : ByteArray := prog_1_method_19_code
def yX11_bid : MethodName := ⟨RX11, "bid", "(III)I"⟩
abbrev cX11_auction : ByteArray := prog_1_method_20_code
def yX11_auction : MethodName := ⟨RX11, "auction", "(II)I"⟩
abbrev cX11_levy : ByteArray := prog_1_method_21_code
def yX11_levy : MethodName := ⟨RX11, "levy", "(II)I"⟩
abbrev cX11_spend : ByteArray := prog_1_method_22_code
def yX11_spend : MethodName := ⟨RX11, "spend", "(II)I"⟩
abbrev cX11_exchange : ByteArray := prog_1_method_23_code
def yX11_exchange : MethodName := ⟨RX11, "exchange", "(I)I"⟩
abbrev cX11_abroad : ByteArray := prog_1_method_24_code
def yX11_abroad : MethodName := ⟨RX11, "abroad", "(IIZ)I"⟩
abbrev cX11_hire : ByteArray := prog_1_method_25_code
def yX11_hire : MethodName := ⟨RX11, "hire", "(III)I"⟩
abbrev cX11_buy : ByteArray := prog_1_method_26_code
def yX11_buy : MethodName := ⟨RX11, "buy", "(III)I"⟩
abbrev cX11_day : ByteArray := prog_1_method_27_code
def yX11_day : MethodName := ⟨RX11, "day", "(I)I"⟩
abbrev cX11_fail : ByteArray := prog_1_method_28_code
def yX11_fail : MethodName := ⟨RX11, "fail", "(I)I"⟩
abbrev cX11_days : ByteArray := prog_1_method_29_code
def yX11_days : MethodName := ⟨RX11, "days", "()I"⟩
abbrev cX11_ofHolder : ByteArray := prog_1_method_30_code
def yX11_ofHolder : MethodName := ⟨RX11, "ofHolder", "(II)I"⟩
abbrev cX11_accountAnew : ByteArray := prog_1_method_31_code
def yX11_accountAnew : MethodName := ⟨RX11, "accountAnew", "(I)I"⟩
abbrev cX11_ofBank : ByteArray := prog_1_method_32_code
def yX11_ofBank : MethodName := ⟨RX11, "ofBank", "(II)I"⟩
abbrev cX11_ofLoan : ByteArray := prog_1_method_33_code
def yX11_ofLoan : MethodName := ⟨RX11, "ofLoan", "(II)I"⟩
abbrev cX11_payment : ByteArray := prog_1_method_34_code
def yX11_payment : MethodName := ⟨RX11, "payment", "(I)I"⟩
abbrev cX11_treasury : ByteArray := prog_1_method_35_code
def yX11_treasury : MethodName := ⟨RX11, "treasury", "()I"⟩
abbrev cX11_owed : ByteArray := prog_1_method_36_code
def yX11_owed : MethodName := ⟨RX11, "owed", "()I"⟩
abbrev cX11_foreign : ByteArray := prog_1_method_37_code
def yX11_foreign : MethodName := ⟨RX11, "foreign", "()I"⟩
abbrev cX11_central : ByteArray := prog_1_method_38_code
def yX11_central : MethodName := ⟨RX11, "central", "()I"⟩
abbrev cX11_centralAnew : ByteArray := prog_1_method_39_code
def yX11_centralAnew : MethodName := ⟨RX11, "centralAnew", "()I"⟩
abbrev cX11_money : ByteArray := prog_1_method_40_code
def yX11_money : MethodName := ⟨RX11, "money", "()I"⟩
abbrev cX11_price : ByteArray := prog_1_method_41_code
def yX11_price : MethodName := ⟨RX11, "price", "(I)I"⟩
abbrev cX11_sales : ByteArray := prog_1_method_42_code
def yX11_sales : MethodName := ⟨RX11, "sales", "(IZ)I"⟩
abbrev cX11_needIndex : ByteArray := prog_1_method_43_code
def yX11_needIndex : MethodName := ⟨RX11, "needIndex", "(Z)V"⟩
abbrev cX11_needHolder : ByteArray := prog_1_method_44_code
def yX11_needHolder : MethodName := ⟨RX11, "needHolder", "(I)V"⟩
abbrev cX11_needHousehold : ByteArray := prog_1_method_45_code
def yX11_needHousehold : MethodName := ⟨RX11, "needHousehold", "(I)V"⟩
abbrev cX11_needFirm : ByteArray := prog_1_method_46_code
def yX11_needFirm : MethodName := ⟨RX11, "needFirm", "(I)V"⟩
abbrev cX11_needBank : ByteArray := prog_1_method_47_code
def yX11_needBank : MethodName := ⟨RX11, "needBank", "(I)V"⟩
abbrev cX11_needLoan : ByteArray := prog_1_method_48_code
def yX11_needLoan : MethodName := ⟨RX11, "needLoan", "(I)V"⟩
abbrev cX11_needArgument : ByteArray := prog_1_method_49_code
def yX11_needArgument : MethodName := ⟨RX11, "needArgument", "(Z)V"⟩
abbrev cX11_needRange : ByteArray := prog_1_method_50_code
def yX11_needRange : MethodName := ⟨RX11, "needRange", "(III)V"⟩
abbrev cX11_needState : ByteArray := prog_1_method_51_code
def yX11_needState : MethodName := ⟨RX11, "needState", "(Z)V"⟩
abbrev cX11_canPay : ByteArray := prog_1_method_52_code
def yX11_canPay : MethodName := ⟨RX11, "canPay", "(III)Z"⟩
abbrev cX11_capitalOf : ByteArray := prog_1_method_53_code
def yX11_capitalOf : MethodName := ⟨RX11, "capitalOf", "(I)I"⟩
abbrev cX11_roomAtWindow : ByteArray := prog_1_method_54_code
def yX11_roomAtWindow : MethodName := ⟨RX11, "roomAtWindow", "(I)I"⟩
abbrev cX11_share : ByteArray := prog_1_method_55_code
def yX11_share : MethodName := ⟨RX11, "share", "(III)I"⟩
abbrev cX11_percentRoundedUp : ByteArray := prog_1_method_56_code
def yX11_percentRoundedUp : MethodName := ⟨RX11, "percentRoundedUp", "(II)I"⟩
abbrev cX11_drawNotes : ByteArray := prog_1_method_57_code
def yX11_drawNotes : MethodName := ⟨RX11, "drawNotes", "(II)I"⟩
abbrev cX11_failBank : ByteArray := prog_1_method_58_code
def yX11_failBank : MethodName := ⟨RX11, "failBank", "(I)I"⟩
abbrev cX11_passDay : ByteArray := prog_1_method_59_code
def yX11_passDay : MethodName := ⟨RX11, "passDay", "()V"⟩
abbrev cX11_payWages : ByteArray := prog_1_method_60_code
def yX11_payWages : MethodName := ⟨RX11, "payWages", "()V"⟩
abbrev cX11_takeInterest : ByteArray := prog_1_method_61_code
def yX11_takeInterest : MethodName := ⟨RX11, "takeInterest", "()V"⟩
abbrev cX11_takeInterestOn : ByteArray := prog_1_method_62_code
def yX11_takeInterestOn : MethodName := ⟨RX11, "takeInterestOn", "(LNewsmint$Loan;I)V"⟩
abbrev cX11_missInterestOn : ByteArray := prog_1_method_63_code
def yX11_missInterestOn : MethodName := ⟨RX11, "missInterestOn", "(LNewsmint$Loan;)V"⟩
abbrev cX11_takeInterestOfBanks : ByteArray := prog_1_method_64_code
def yX11_takeInterestOfBanks : MethodName := ⟨RX11, "takeInterestOfBanks", "()V"⟩
abbrev cX11_askForReserves : ByteArray := prog_1_method_65_code
def yX11_askForReserves : MethodName := ⟨RX11, "askForReserves", "()V"⟩
abbrev cX11_runOnBanks : ByteArray := prog_1_method_66_code
def yX11_runOnBanks : MethodName := ⟨RX11, "runOnBanks", "()V"⟩
abbrev cX11_isAfraid : ByteArray := prog_1_method_67_code
def yX11_isAfraid : MethodName := ⟨RX11, "isAfraid", "(II)Z"⟩
abbrev cX11_hasDrawn : ByteArray := prog_1_method_68_code
def yX11_hasDrawn : MethodName := ⟨RX11, "hasDrawn", "(II)Z"⟩
abbrev cX11_failBanksWithoutCapital : ByteArray := prog_1_method_69_code
def yX11_failBanksWithoutCapital : MethodName := ⟨RX11, "failBanksWithoutCapital", "()V"⟩
abbrev cX11_changePrices : ByteArray := prog_1_method_70_code
def yX11_changePrices : MethodName := ⟨RX11, "changePrices", "()V"⟩
abbrev cX11_changeExpectations : ByteArray := prog_1_method_71_code
def yX11_changeExpectations : MethodName := ⟨RX11, "changeExpectations", "()V"⟩
def RX12 : String := "NewsmintModel"
def TX12 : u_T := fun k => match k with
  | 0 => ("NewsmintModel", "thrown", "I", false)
  | 1 => ("NewsmintModel", "days", "I", false)
  | 2 => ("NewsmintModel", "rate", "I", false)
  | 3 => ("NewsmintModel", "capitalRule", "I", false)
  | 4 => ("NewsmintModel", "reserveRule", "I", false)
  | 5 => ("NewsmintModel", "notes", "[I", true)
  | 6 => ("NewsmintModel", "forged", "[I", true)
  | 7 => ("NewsmintModel", "bankOf", "[I", true)
  | 8 => ("NewsmintModel", "accounts", "[I", true)
  | 9 => ("NewsmintModel", "blocked", "[I", true)
  | 10 => ("NewsmintModel", "firms", "[I", true)
  | 11 => ("NewsmintModel", "wages", "[I", true)
  | 12 => ("NewsmintModel", "expects", "[I", true)
  | 13 => ("NewsmintModel", "drawn", "[I", true)
  | 14 => ("NewsmintModel", "prices", "[I", true)
  | 15 => ("NewsmintModel", "bought", "[I", true)
  | 16 => ("NewsmintModel", "reserves", "[I", true)
  | 17 => ("NewsmintModel", "vaults", "[I", true)
  | 18 => ("NewsmintModel", "lent", "[I", true)
  | 19 => ("NewsmintModel", "limits", "[I", true)
  | 20 => ("NewsmintModel", "haveFailed", "[Z", true)
  | 21 => ("NewsmintModel", "areShort", "[Z", true)
  | 22 => ("NewsmintModel", "nets", "[I", true)
  | 23 => ("NewsmintModel", "promised", "[I", true)
  | 24 => ("NewsmintModel", "loans", "I", false)
  | 25 => ("NewsmintModel", "loanHolders", "[I", true)
  | 26 => ("NewsmintModel", "loanBanks", "[I", true)
  | 27 => ("NewsmintModel", "loanLefts", "[I", true)
  | 28 => ("NewsmintModel", "loanRates", "[I", true)
  | 29 => ("NewsmintModel", "overdue", "[I", true)
  | 30 => ("NewsmintModel", "payments", "I", false)
  | 31 => ("NewsmintModel", "froms", "[I", true)
  | 32 => ("NewsmintModel", "tos", "[I", true)
  | 33 => ("NewsmintModel", "amounts", "[I", true)
  | 34 => ("NewsmintModel", "states", "[I", true)
  | 35 => ("NewsmintModel", "areGoods", "[Z", true)
  | 36 => ("NewsmintModel", "toldDays", "[I", true)
  | 37 => ("NewsmintModel", "doneDays", "[I", true)
  | 38 => ("NewsmintModel", "areChosen", "[Z", true)
  | 39 => ("NewsmintModel", "auctions", "I", false)
  | 40 => ("NewsmintModel", "dues", "[I", true)
  | 41 => ("NewsmintModel", "bonds", "[I", true)
  | 42 => ("NewsmintModel", "bids", "I", false)
  | 43 => ("NewsmintModel", "bidBanks", "[I", true)
  | 44 => ("NewsmintModel", "bidPrices", "[I", true)
  | 45 => ("NewsmintModel", "bidNumbers", "[I", true)
  | 46 => ("NewsmintModel", "bidGets", "[I", true)
  | 47 => ("NewsmintModel", "areSeen", "[Z", true)
  | 48 => ("NewsmintModel", "treasury", "I", false)
  | 49 => ("NewsmintModel", "foreign", "I", false)
  | 50 => ("NewsmintModel", "foreignCost", "I", false)
  | _ => ("NewsmintModel", "exchange", "I", false)
def tyX12 : Nat → FieldType := fun k => match k with
  | 0 => .int
  | 1 => .int
  | 2 => .int
  | 3 => .int
  | 4 => .int
  | 5 => .array .int
  | 6 => .array .int
  | 7 => .array .int
  | 8 => .array .int
  | 9 => .array .int
  | 10 => .array .int
  | 11 => .array .int
  | 12 => .array .int
  | 13 => .array .int
  | 14 => .array .int
  | 15 => .array .int
  | 16 => .array .int
  | 17 => .array .int
  | 18 => .array .int
  | 19 => .array .int
  | 20 => .array .boolean
  | 21 => .array .boolean
  | 22 => .array .int
  | 23 => .array .int
  | 24 => .int
  | 25 => .array .int
  | 26 => .array .int
  | 27 => .array .int
  | 28 => .array .int
  | 29 => .array .int
  | 30 => .int
  | 31 => .array .int
  | 32 => .array .int
  | 33 => .array .int
  | 34 => .array .int
  | 35 => .array .boolean
  | 36 => .array .int
  | 37 => .array .int
  | 38 => .array .boolean
  | 39 => .int
  | 40 => .array .int
  | 41 => .array .int
  | 42 => .int
  | 43 => .array .int
  | 44 => .array .int
  | 45 => .array .int
  | 46 => .array .int
  | 47 => .array .boolean
  | 48 => .int
  | 49 => .int
  | 50 => .int
  | _ => .int
abbrev wsX120 : List Cond := u_ws RX12 TX12 52
theorem nmX12 : ∀ a, a < 52 → ∀ b, b < 52 → a ≠ b → (TX12 a).2.1 ≠ (TX12 b).2.1 := by decide +kernel
theorem tyX12_ok : ∀ k, k < 52 → parseFieldDescriptor (TX12 k).2.2.1 = some (tyX12 k) := by decide +kernel
abbrev cX12_init : ByteArray := prog_14_method_1_code
def yX12_init : MethodName := ⟨RX12, "<init>", "()V"⟩
abbrev cX12_thrown : ByteArray := prog_14_method_2_code
def yX12_thrown : MethodName := ⟨RX12, "thrown", "()I"⟩
abbrev cX12_holds : ByteArray := prog_14_method_3_code
def yX12_holds : MethodName := ⟨RX12, "holds", "(I)Z"⟩
abbrev cX12_in : ByteArray := prog_14_method_4_code
def yX12_in : MethodName := ⟨RX12, "in", "(III)Z"⟩
abbrev cX12_isHolder : ByteArray := prog_14_method_5_code
def yX12_isHolder : MethodName := ⟨RX12, "isHolder", "(I)Z"⟩
abbrev cX12_isFirm : ByteArray := prog_14_method_6_code
def yX12_isFirm : MethodName := ⟨RX12, "isFirm", "(I)Z"⟩
abbrev cX12_isHousehold : ByteArray := prog_14_method_7_code
def yX12_isHousehold : MethodName := ⟨RX12, "isHousehold", "(I)Z"⟩
abbrev cX12_isBank : ByteArray := prog_14_method_8_code
def yX12_isBank : MethodName := ⟨RX12, "isBank", "(I)Z"⟩
abbrev cX12_least : ByteArray := prog_14_method_9_code
def yX12_least : MethodName := ⟨RX12, "least", "(II)I"⟩
abbrev cX12_most : ByteArray := prog_14_method_10_code
def yX12_most : MethodName := ⟨RX12, "most", "(II)I"⟩
abbrev cX12_up : ByteArray := prog_14_method_11_code
def yX12_up : MethodName := ⟨RX12, "up", "(II)I"⟩
abbrev cX12_free : ByteArray := prog_14_method_12_code
def yX12_free : MethodName := ⟨RX12, "free", "(I)I"⟩
abbrev cX12_hasAccount : ByteArray := prog_14_method_13_code
def yX12_hasAccount : MethodName := ⟨RX12, "hasAccount", "(I)Z"⟩
abbrev cX12_inAccounts : ByteArray := prog_14_method_14_code
def yX12_inAccounts : MethodName := ⟨RX12, "inAccounts", "(I)I"⟩
abbrev cX12_bondsOf : ByteArray := prog_14_method_15_code
def yX12_bondsOf : MethodName := ⟨RX12, "bondsOf", "(I)I"⟩
abbrev cX12_loansOf : ByteArray := prog_14_method_16_code
def yX12_loansOf : MethodName := ⟨RX12, "loansOf", "(I)I"⟩
abbrev cX12_capital : ByteArray := prog_14_method_17_code
def yX12_capital : MethodName := ⟨RX12, "capital", "(I)I"⟩
abbrev cX12_room : ByteArray := prog_14_method_18_code
def yX12_room : MethodName := ⟨RX12, "room", "(I)I"⟩
abbrev cX12_centralCapital : ByteArray := prog_14_method_19_code
def yX12_centralCapital : MethodName := ⟨RX12, "centralCapital", "()I"⟩
abbrev cX12_mint : ByteArray := prog_14_method_20_code
def yX12_mint : MethodName := ⟨RX12, "mint", "(II)I"⟩
abbrev cX12_forge : ByteArray := prog_14_method_21_code
def yX12_forge : MethodName := ⟨RX12, "forge", "(II)I"⟩
abbrev cX12_leave : ByteArray := prog_14_method_22_code
def yX12_leave : MethodName := ⟨RX12, "leave", "(II)I"⟩
abbrev cX12_hand : ByteArray := prog_14_method_23_code
def yX12_hand : MethodName := ⟨RX12, "hand", "(III)I"⟩
abbrev cX12_open : ByteArray := prog_14_method_24_code
def yX12_open : MethodName := ⟨RX12, "open", "(II)I"⟩
abbrev cX12_isAwaited : ByteArray := prog_14_method_25_code
def yX12_isAwaited : MethodName := ⟨RX12, "isAwaited", "(I)Z"⟩
abbrev cX12_close : ByteArray := prog_14_method_26_code
def yX12_close : MethodName := ⟨RX12, "close", "(I)I"⟩
abbrev cX12_bring : ByteArray := prog_14_method_27_code
def yX12_bring : MethodName := ⟨RX12, "bring", "(II)I"⟩
abbrev cX12_draws : ByteArray := prog_14_method_28_code
def yX12_draws : MethodName := ⟨RX12, "draws", "(II)I"⟩
abbrev cX12_draw : ByteArray := prog_14_method_29_code
def yX12_draw : MethodName := ⟨RX12, "draw", "(II)I"⟩
abbrev cX12_mayPay : ByteArray := prog_14_method_30_code
def yX12_mayPay : MethodName := ⟨RX12, "mayPay", "(III)Z"⟩
abbrev cX12_pays : ByteArray := prog_14_method_31_code
def yX12_pays : MethodName := ⟨RX12, "pays", "(IIIZ)I"⟩
abbrev cX12_finishes : ByteArray := prog_14_method_32_code
def yX12_finishes : MethodName := ⟨RX12, "finishes", "(I)V"⟩
abbrev cX12_pay : ByteArray := prog_14_method_33_code
def yX12_pay : MethodName := ⟨RX12, "pay", "(III)I"⟩
abbrev cX12_laysNets : ByteArray := prog_14_method_34_code
def yX12_laysNets : MethodName := ⟨RX12, "laysNets", "()V"⟩
abbrev cX12_clears : ByteArray := prog_14_method_35_code
def yX12_clears : MethodName := ⟨RX12, "clears", "()I"⟩
abbrev cX12_worstBank : ByteArray := prog_14_method_36_code
def yX12_worstBank : MethodName := ⟨RX12, "worstBank", "()I"⟩
abbrev cX12_clear : ByteArray := prog_14_method_37_code
def yX12_clear : MethodName := ⟨RX12, "clear", "()I"⟩
abbrev cX12_limit : ByteArray := prog_14_method_38_code
def yX12_limit : MethodName := ⟨RX12, "limit", "(II)I"⟩
abbrev cX12_endow : ByteArray := prog_14_method_39_code
def yX12_endow : MethodName := ⟨RX12, "endow", "(II)I"⟩
abbrev cX12_mayLend : ByteArray := prog_14_method_40_code
def yX12_mayLend : MethodName := ⟨RX12, "mayLend", "(III)Z"⟩
abbrev cX12_lend : ByteArray := prog_14_method_41_code
def yX12_lend : MethodName := ⟨RX12, "lend", "(IIII)I"⟩
abbrev cX12_isLoan : ByteArray := prog_14_method_42_code
def yX12_isLoan : MethodName := ⟨RX12, "isLoan", "(I)Z"⟩
abbrev cX12_canPay : ByteArray := prog_14_method_43_code
def yX12_canPay : MethodName := ⟨RX12, "canPay", "(II)Z"⟩
abbrev cX12_endsMoney : ByteArray := prog_14_method_44_code
def yX12_endsMoney : MethodName := ⟨RX12, "endsMoney", "(II)V"⟩
abbrev cX12_payBack : ByteArray := prog_14_method_45_code
def yX12_payBack : MethodName := ⟨RX12, "payBack", "(II)I"⟩
abbrev cX12_window : ByteArray := prog_14_method_46_code
def yX12_window : MethodName := ⟨RX12, "window", "(II)I"⟩
abbrev cX12_windowBack : ByteArray := prog_14_method_47_code
def yX12_windowBack : MethodName := ⟨RX12, "windowBack", "(II)I"⟩
abbrev cX12_rules : ByteArray := prog_14_method_48_code
def yX12_rules : MethodName := ⟨RX12, "rules", "(III)I"⟩
abbrev cX12_buyBonds : ByteArray := prog_14_method_49_code
def yX12_buyBonds : MethodName := ⟨RX12, "buyBonds", "(II)I"⟩
abbrev cX12_bid : ByteArray := prog_14_method_50_code
def yX12_bid : MethodName := ⟨RX12, "bid", "(III)I"⟩
abbrev cX12_nextBid : ByteArray := prog_14_method_51_code
def yX12_nextBid : MethodName := ⟨RX12, "nextBid", "()I"⟩
abbrev cX12_takesBids : ByteArray := prog_14_method_52_code
def yX12_takesBids : MethodName := ⟨RX12, "takesBids", "(I)I"⟩
abbrev cX12_auction : ByteArray := prog_14_method_53_code
def yX12_auction : MethodName := ⟨RX12, "auction", "(II)I"⟩
abbrev cX12_levy : ByteArray := prog_14_method_54_code
def yX12_levy : MethodName := ⟨RX12, "levy", "(II)I"⟩
abbrev cX12_spend : ByteArray := prog_14_method_55_code
def yX12_spend : MethodName := ⟨RX12, "spend", "(II)I"⟩
abbrev cX12_exchange : ByteArray := prog_14_method_56_code
def yX12_exchange : MethodName := ⟨RX12, "exchange", "(I)I"⟩
abbrev cX12_abroad : ByteArray := prog_14_method_57_code
def yX12_abroad : MethodName := ⟨RX12, "abroad", "(IIZ)I"⟩
abbrev cX12_hire : ByteArray := prog_14_method_58_code
def yX12_hire : MethodName := ⟨RX12, "hire", "(III)I"⟩
abbrev cX12_buy : ByteArray := prog_14_method_59_code
def yX12_buy : MethodName := ⟨RX12, "buy", "(III)I"⟩
abbrev cX12_paysWages : ByteArray := prog_14_method_60_code
def yX12_paysWages : MethodName := ⟨RX12, "paysWages", "()V"⟩
abbrev cX12_takesInterest : ByteArray := prog_14_method_61_code
def yX12_takesInterest : MethodName := ⟨RX12, "takesInterest", "()V"⟩
abbrev cX12_paysCentral : ByteArray := prog_14_method_62_code
def yX12_paysCentral : MethodName := ⟨RX12, "paysCentral", "()V"⟩
abbrev cX12_paysBonds : ByteArray := prog_14_method_63_code
def yX12_paysBonds : MethodName := ⟨RX12, "paysBonds", "()V"⟩
abbrev cX12_asksReserves : ByteArray := prog_14_method_64_code
def yX12_asksReserves : MethodName := ⟨RX12, "asksReserves", "()V"⟩
abbrev cX12_hasDrawn : ByteArray := prog_14_method_65_code
def yX12_hasDrawn : MethodName := ⟨RX12, "hasDrawn", "(II)Z"⟩
abbrev cX12_runs : ByteArray := prog_14_method_66_code
def yX12_runs : MethodName := ⟨RX12, "runs", "()V"⟩
abbrev cX12_changesPrices : ByteArray := prog_14_method_67_code
def yX12_changesPrices : MethodName := ⟨RX12, "changesPrices", "()V"⟩
abbrev cX12_goesBy : ByteArray := prog_14_method_68_code
def yX12_goesBy : MethodName := ⟨RX12, "goesBy", "()V"⟩
abbrev cX12_day : ByteArray := prog_14_method_69_code
def yX12_day : MethodName := ⟨RX12, "day", "(I)I"⟩
abbrev cX12_takesBack : ByteArray := prog_14_method_70_code
def yX12_takesBack : MethodName := ⟨RX12, "takesBack", "(I)V"⟩
abbrev cX12_takesOver : ByteArray := prog_14_method_71_code
def yX12_takesOver : MethodName := ⟨RX12, "takesOver", "(I)V"⟩
abbrev cX12_nextBank : ByteArray := prog_14_method_72_code
def yX12_nextBank : MethodName := ⟨RX12, "nextBank", "()I"⟩
abbrev cX12_fails : ByteArray := prog_14_method_73_code
def yX12_fails : MethodName := ⟨RX12, "fails", "(I)I"⟩
abbrev cX12_fail : ByteArray := prog_14_method_74_code
def yX12_fail : MethodName := ⟨RX12, "fail", "(I)I"⟩
abbrev cX12_days : ByteArray := prog_14_method_75_code
def yX12_days : MethodName := ⟨RX12, "days", "()I"⟩
abbrev cX12_ofHolder : ByteArray := prog_14_method_76_code
def yX12_ofHolder : MethodName := ⟨RX12, "ofHolder", "(II)I"⟩
abbrev cX12_accountAnew : ByteArray := prog_14_method_77_code
def yX12_accountAnew : MethodName := ⟨RX12, "accountAnew", "(I)I"⟩
abbrev cX12_waitingNet : ByteArray := prog_14_method_78_code
def yX12_waitingNet : MethodName := ⟨RX12, "waitingNet", "(I)I"⟩
abbrev cX12_ofBank : ByteArray := prog_14_method_79_code
def yX12_ofBank : MethodName := ⟨RX12, "ofBank", "(II)I"⟩
abbrev cX12_ofLoan : ByteArray := prog_14_method_80_code
def yX12_ofLoan : MethodName := ⟨RX12, "ofLoan", "(II)I"⟩
abbrev cX12_payment : ByteArray := prog_14_method_81_code
def yX12_payment : MethodName := ⟨RX12, "payment", "(I)I"⟩
abbrev cX12_treasury : ByteArray := prog_14_method_82_code
def yX12_treasury : MethodName := ⟨RX12, "treasury", "()I"⟩
abbrev cX12_owed : ByteArray := prog_14_method_83_code
def yX12_owed : MethodName := ⟨RX12, "owed", "()I"⟩
abbrev cX12_foreign : ByteArray := prog_14_method_84_code
def yX12_foreign : MethodName := ⟨RX12, "foreign", "()I"⟩
abbrev cX12_central : ByteArray := prog_14_method_85_code
def yX12_central : MethodName := ⟨RX12, "central", "()I"⟩
abbrev cX12_centralAnew : ByteArray := prog_14_method_86_code
def yX12_centralAnew : MethodName := ⟨RX12, "centralAnew", "()I"⟩
abbrev cX12_money : ByteArray := prog_14_method_87_code
def yX12_money : MethodName := ⟨RX12, "money", "()I"⟩
abbrev cX12_price : ByteArray := prog_14_method_88_code
def yX12_price : MethodName := ⟨RX12, "price", "(I)I"⟩
abbrev cX12_sales : ByteArray := prog_14_method_89_code
def yX12_sales : MethodName := ⟨RX12, "sales", "(IZ)I"⟩
def RJ9 : String := "java/lang/Math"
def TJ9 : u_T := fun k => match k with
  | _ => ("", "", "", false)
def tyJ9 : Nat → FieldType := fun k => match k with
  | _ => .int
abbrev wsJ90 : List Cond := u_ws RJ9 TJ9 0
theorem nmJ9 : ∀ a, a < 0 → ∀ b, b < 0 → a ≠ b → (TJ9 a).2.1 ≠ (TJ9 b).2.1 := by decide +kernel
theorem tyJ9_ok : ∀ k, k < 0 → parseFieldDescriptor (TJ9 k).2.2.1 = some (tyJ9 k) := by decide +kernel
abbrev cJ9_max_7cf53 : ByteArray := prog_19_method_65_code
def yJ9_max_7cf53 : MethodName := ⟨RJ9, "max", "(II)I"⟩
abbrev cJ9_min_7cf53 : ByteArray := prog_19_method_69_code
def yJ9_min_7cf53 : MethodName := ⟨RJ9, "min", "(II)I"⟩
def RJ0 : String := "java/lang/String"
def TJ0 : u_T := fun k => match k with
  | _ => ("", "", "", false)
def tyJ0 : Nat → FieldType := fun k => match k with
  | _ => .int
abbrev wsJ00 : List Cond := u_ws RJ0 TJ0 0
theorem nmJ0 : ∀ a, a < 0 → ∀ b, b < 0 → a ≠ b → (TJ0 a).2.1 ≠ (TJ0 b).2.1 := by decide +kernel
theorem tyJ0_ok : ∀ k, k < 0 → parseFieldDescriptor (TJ0 k).2.2.1 = some (tyJ0 k) := by decide +kernel
def RL : String := "NewsmintLaw"
abbrev cL_mint : ByteArray := method_3_code
def yL_mint : MethodName := ⟨RL, "mint", "(LNewsmint;II[J)I"⟩
abbrev cL_forge : ByteArray := method_4_code
def yL_forge : MethodName := ⟨RL, "forge", "(LNewsmint;II[J)I"⟩
abbrev cL_hand : ByteArray := method_5_code
def yL_hand : MethodName := ⟨RL, "hand", "(LNewsmint;III[J)I"⟩
abbrev cL_open : ByteArray := method_6_code
def yL_open : MethodName := ⟨RL, "open", "(LNewsmint;II[J)I"⟩
abbrev cL_close : ByteArray := method_7_code
def yL_close : MethodName := ⟨RL, "close", "(LNewsmint;I[J)I"⟩
abbrev cL_bring : ByteArray := method_8_code
def yL_bring : MethodName := ⟨RL, "bring", "(LNewsmint;II[J)I"⟩
abbrev cL_draw : ByteArray := method_9_code
def yL_draw : MethodName := ⟨RL, "draw", "(LNewsmint;II[J)I"⟩
abbrev cL_pay : ByteArray := method_10_code
def yL_pay : MethodName := ⟨RL, "pay", "(LNewsmint;III[J)I"⟩
abbrev cL_limit : ByteArray := method_11_code
def yL_limit : MethodName := ⟨RL, "limit", "(LNewsmint;II[J)I"⟩
abbrev cL_endow : ByteArray := method_12_code
def yL_endow : MethodName := ⟨RL, "endow", "(LNewsmint;II[J)I"⟩
abbrev cL_lend : ByteArray := method_13_code
def yL_lend : MethodName := ⟨RL, "lend", "(LNewsmint;IIII[J)I"⟩
abbrev cL_payBack : ByteArray := method_14_code
def yL_payBack : MethodName := ⟨RL, "payBack", "(LNewsmint;II[J)I"⟩
abbrev cL_window : ByteArray := method_15_code
def yL_window : MethodName := ⟨RL, "window", "(LNewsmint;II[J)I"⟩
abbrev cL_windowBack : ByteArray := method_16_code
def yL_windowBack : MethodName := ⟨RL, "windowBack", "(LNewsmint;II[J)I"⟩
abbrev cL_rules : ByteArray := method_17_code
def yL_rules : MethodName := ⟨RL, "rules", "(LNewsmint;III[J)I"⟩
abbrev cL_buyBonds : ByteArray := method_18_code
def yL_buyBonds : MethodName := ⟨RL, "buyBonds", "(LNewsmint;II[J)I"⟩
abbrev cL_bid : ByteArray := method_19_code
def yL_bid : MethodName := ⟨RL, "bid", "(LNewsmint;III[J)I"⟩
abbrev cL_auction : ByteArray := method_20_code
def yL_auction : MethodName := ⟨RL, "auction", "(LNewsmint;II[J)I"⟩
abbrev cL_levy : ByteArray := method_21_code
def yL_levy : MethodName := ⟨RL, "levy", "(LNewsmint;II[J)I"⟩
abbrev cL_spend : ByteArray := method_22_code
def yL_spend : MethodName := ⟨RL, "spend", "(LNewsmint;II[J)I"⟩
abbrev cL_exchange : ByteArray := method_23_code
def yL_exchange : MethodName := ⟨RL, "exchange", "(LNewsmint;I[J)I"⟩
abbrev cL_abroad : ByteArray := method_24_code
def yL_abroad : MethodName := ⟨RL, "abroad", "(LNewsmint;IIZ[J)I"⟩
abbrev cL_hire : ByteArray := method_25_code
def yL_hire : MethodName := ⟨RL, "hire", "(LNewsmint;III[J)I"⟩
abbrev cL_buy : ByteArray := method_26_code
def yL_buy : MethodName := ⟨RL, "buy", "(LNewsmint;III[J)I"⟩
abbrev cL_day : ByteArray := method_27_code
def yL_day : MethodName := ⟨RL, "day", "(LNewsmint;I[J)I"⟩
abbrev cL_fail : ByteArray := method_28_code
def yL_fail : MethodName := ⟨RL, "fail", "(LNewsmint;I[J)I"⟩
abbrev cL_ofHolder : ByteArray := method_29_code
def yL_ofHolder : MethodName := ⟨RL, "ofHolder", "(LNewsmint;II[J)I"⟩
abbrev cL_accountAnew : ByteArray := method_30_code
def yL_accountAnew : MethodName := ⟨RL, "accountAnew", "(LNewsmint;I[J)I"⟩
abbrev cL_ofBank : ByteArray := method_31_code
def yL_ofBank : MethodName := ⟨RL, "ofBank", "(LNewsmint;II[J)I"⟩
abbrev cL_ofLoan : ByteArray := method_32_code
def yL_ofLoan : MethodName := ⟨RL, "ofLoan", "(LNewsmint;II[J)I"⟩
abbrev cL_payment : ByteArray := method_33_code
def yL_payment : MethodName := ⟨RL, "payment", "(LNewsmint;I[J)I"⟩
abbrev cL_price : ByteArray := method_34_code
def yL_price : MethodName := ⟨RL, "price", "(LNewsmint;I[J)I"⟩
abbrev cL_sales : ByteArray := method_35_code
def yL_sales : MethodName := ⟨RL, "sales", "(LNewsmint;IZ[J)I"⟩
abbrev cL_law : ByteArray := code
def yL_law : MethodName := ⟨RL, "law", "([I)Z"⟩
abbrev vwCl : List vw_C := [(RX0, TX0, 8), (RX1, TX1, 5), (RX2, TX2, 6), (RX3, TX3, 6), (RX4, TX4, 7), (RX5, TX5, 11), (RX6, TX6, 5), (RX7, TX7, 3), (RX8, TX8, 4), (RX9, TX9, 9), (RX10, TX10, 3), (RX11, TX11, 5), (RX12, TX12, 52)]
abbrev IT : Type := List (List (Nat × Instr × Nat))
/-- a method: its class, its name, its code, its locals, what it returns, its instructions -/
abbrev MD : Type := String × MethodName × ByteArray × Nat × Option FieldType × IT
def DT (cc : ByteArray) (t : IT) : Prop := ∀ L ∈ t, ∀ q ∈ L, decode cc q.1 = .ok q.2
def MDok (d : MD) : Prop := DT d.2.2.1 d.2.2.2.2.2
def tX0_init : IT := [[(0, .aload_n 0, 1), (1, .invokespecial 1, 3), (4, .aload_n 0, 1), (5, .sipush 1000, 3), (8, .putfield 7, 3), (11, .return_, 1)]]
abbrev mdX0_init : MD := (RX0, yX0_init, cX0_init, 1, none, tX0_init)
set_option maxRecDepth 100000 in
theorem dtX0_init : MDok mdX0_init := by show DT cX0_init tX0_init; unfold DT tX0_init; decide +kernel
def tX0_borrow : IT := [[(0, .aload_n 0, 1), (1, .dup, 1), (2, .getfield 13, 3), (5, .iload_n 1, 1), (6, .iadd, 1), (7, .putfield 13, 3), (10, .aload_n 0, 1), (11, .dup, 1), (12, .getfield 16, 3), (15, .iload_n 1, 1), (16, .iadd, 1), (17, .putfield 16, 3), (20, .return_, 1)]]
abbrev mdX0_borrow : MD := (RX0, yX0_borrow, cX0_borrow, 2, none, tX0_borrow)
set_option maxRecDepth 100000 in
theorem dtX0_borrow : MDok mdX0_borrow := by show DT cX0_borrow tX0_borrow; unfold DT tX0_borrow; decide +kernel
def tX0_lacks : IT := [[(0, .aload_n 0, 1), (1, .getfield 19, 3), (4, .ineg, 1), (5, .aload_n 0, 1), (6, .getfield 13, 3), (9, .aload_n 0, 1), (10, .getfield 7, 3), (13, .invokestatic 22, 3), (16, .isub, 1), (17, .ireturn, 1)]]
abbrev mdX0_lacks : MD := (RX0, yX0_lacks, cX0_lacks, 1, (some .int), tX0_lacks)
set_option maxRecDepth 100000 in
theorem dtX0_lacks : MDok mdX0_lacks := by show DT cX0_lacks tX0_lacks; unfold DT tX0_lacks; decide +kernel
def tX0_end : IT := [[(0, .aload_n 0, 1), (1, .iconst 0, 1), (2, .putfield 13, 3), (5, .aload_n 0, 1), (6, .iconst 0, 1), (7, .putfield 28, 3), (10, .aload_n 0, 1), (11, .iconst 0, 1), (12, .putfield 16, 3), (15, .aload_n 0, 1), (16, .iconst 0, 1), (17, .putfield 31, 3), (20, .aload_n 0, 1), (21, .iconst 1, 1), (22, .putfield 35, 3), (25, .return_, 1)]]
abbrev mdX0_end : MD := (RX0, yX0_end, cX0_end, 1, none, tX0_end)
set_option maxRecDepth 100000 in
theorem dtX0_end : MDok mdX0_end := by show DT cX0_end tX0_end; unfold DT tX0_end; decide +kernel
def tX1_init : IT := [[(0, .aload_n 0, 1), (1, .invokespecial 1, 3), (4, .return_, 1)]]
abbrev mdX1_init : MD := (RX1, yX1_init, cX1_init, 1, none, tX1_init)
set_option maxRecDepth 100000 in
theorem dtX1_init : MDok mdX1_init := by show DT cX1_init tX1_init; unfold DT tX1_init; decide +kernel
def tX1_become : IT := [[(0, .aload_n 0, 1), (1, .aload_n 1, 1), (2, .getfield 7, 3), (5, .putfield 7, 3), (8, .aload_n 0, 1), (9, .aload_n 1, 1), (10, .getfield 13, 3), (13, .putfield 13, 3), (16, .aload_n 0, 1), (17, .aload_n 1, 1), (18, .getfield 16, 3), (21, .putfield 16, 3), (24, .return_, 1)]]
abbrev mdX1_become : MD := (RX1, yX1_become, cX1_become, 2, none, tX1_become)
set_option maxRecDepth 100000 in
theorem dtX1_become : MDok mdX1_become := by show DT cX1_become tX1_become; unfold DT tX1_become; decide +kernel
def tX2_init : IT := [[(0, .aload_n 0, 1), (1, .invokespecial 3, 3), (4, .aload_n 0, 1), (5, .bipush 12, 2), (7, .anewarray 9, 3), (10, .putfield 11, 3), (13, .aload_n 0, 1), (14, .new 9, 3), (17, .dup, 1), (18, .invokespecial 17, 3), (21, .putfield 18, 3), (24, .aload_n 0, 1), (25, .bipush 20, 2), (27, .newarray .int, 2), (29, .putfield 22, 3), (32, .aload_n 0, 1), (33, .bipush 100, 2), (35, .newarray .int, 2), (37, .putfield 26, 3), (40, .iconst 0, 1), (41, .istore_n 1, 1), (42, .iload_n 1, 1), (43, .aload_n 0, 1), (44, .getfield 11, 3), (47, .arraylength, 1), (48, .if_icmp .ge 22, 3), (51, .aload_n 0, 1), (52, .getfield 11, 3), (55, .iload_n 1, 1), (56, .new 9, 3), (59, .dup, 1), (60, .invokespecial 17, 3), (63, .aastore, 1), (64, .iinc 1 1, 3), (67, .goto (-25), 3), (70, .return_, 1)]]
abbrev mdX2_init : MD := (RX2, yX2_init, cX2_init, 2, none, tX2_init)
set_option maxRecDepth 100000 in
theorem dtX2_init : MDok mdX2_init := by show DT cX2_init tX2_init; unfold DT tX2_init; decide +kernel
def tX2_bidAt : IT := [[(0, .iload_n 1, 1), (1, .ifCond .lt 21, 3), (4, .iload_n 1, 1), (5, .aload_n 0, 1), (6, .getfield 11, 3), (9, .arraylength, 1), (10, .if_icmp .ge 12, 3), (13, .aload_n 0, 1), (14, .getfield 11, 3), (17, .iload_n 1, 1), (18, .aaload, 1), (19, .goto 7, 3), (22, .aload_n 0, 1), (23, .getfield 18, 3), (26, .astore_n 2, 1), (27, .aload_n 2, 1), (28, .ifnonnull 10, 3), (31, .aload_n 0, 1), (32, .getfield 18, 3), (35, .goto 4, 3), (38, .aload_n 2, 1), (39, .areturn, 1)]]
abbrev mdX2_bidAt : MD := (RX2, yX2_bidAt, cX2_bidAt, 3, (some (.object "Newsmint$Bid")), tX2_bidAt)
set_option maxRecDepth 100000 in
theorem dtX2_bidAt : MDok mdX2_bidAt := by show DT cX2_bidAt tX2_bidAt; unfold DT tX2_bidAt; decide +kernel
def tX2_bidsAreFull : IT := [[(0, .aload_n 0, 1), (1, .getfield 29, 3), (4, .bipush 12, 2), (6, .if_icmp .lt 7, 3), (9, .iconst 1, 1), (10, .goto 4, 3), (13, .iconst 0, 1), (14, .ireturn, 1)]]
abbrev mdX2_bidsAreFull : MD := (RX2, yX2_bidsAreFull, cX2_bidsAreFull, 1, (some .boolean), tX2_bidsAreFull)
set_option maxRecDepth 100000 in
theorem dtX2_bidsAreFull : MDok mdX2_bidsAreFull := by show DT cX2_bidsAreFull tX2_bidsAreFull; unfold DT tX2_bidsAreFull; decide +kernel
def tX2_auctionsAreFull : IT := [[(0, .aload_n 0, 1), (1, .getfield 33, 3), (4, .bipush 20, 2), (6, .if_icmp .lt 7, 3), (9, .iconst 1, 1), (10, .goto 4, 3), (13, .iconst 0, 1), (14, .ireturn, 1)]]
abbrev mdX2_auctionsAreFull : MD := (RX2, yX2_auctionsAreFull, cX2_auctionsAreFull, 1, (some .boolean), tX2_auctionsAreFull)
set_option maxRecDepth 100000 in
theorem dtX2_auctionsAreFull : MDok mdX2_auctionsAreFull := by show DT cX2_auctionsAreFull tX2_auctionsAreFull; unfold DT tX2_auctionsAreFull; decide +kernel
def tX2_addBid : IT := [[(0, .aload_n 0, 1), (1, .aload_n 0, 1), (2, .getfield 29, 3), (5, .invokevirtual 36, 3), (8, .astore 4, 2), (10, .aload 4, 2), (12, .iload_n 1, 1), (13, .putfield 40, 3), (16, .aload 4, 2), (18, .iload_n 2, 1), (19, .putfield 43, 3), (22, .aload 4, 2), (24, .iload_n 3, 1), (25, .putfield 46, 3), (28, .aload_n 0, 1), (29, .dup, 1), (30, .getfield 29, 3), (33, .iconst 1, 1), (34, .iadd, 1), (35, .putfield 29, 3), (38, .aload_n 0, 1), (39, .getfield 29, 3), (42, .ireturn, 1)]]
abbrev mdX2_addBid : MD := (RX2, yX2_addBid, cX2_addBid, 5, (some .int), tX2_addBid)
set_option maxRecDepth 100000 in
theorem dtX2_addBid : MDok mdX2_addBid := by show DT cX2_addBid tX2_addBid; unfold DT tX2_addBid; decide +kernel
def tX2_dropBids : IT := [[(0, .iconst 0, 1), (1, .istore_n 2, 1), (2, .iconst 0, 1), (3, .istore_n 3, 1), (4, .iload_n 3, 1), (5, .aload_n 0, 1), (6, .getfield 29, 3), (9, .if_icmp .ge 38, 3), (12, .aload_n 0, 1), (13, .iload_n 3, 1), (14, .invokevirtual 36, 3), (17, .astore 4, 2), (19, .aload 4, 2), (21, .getfield 40, 3), (24, .iload_n 1, 1), (25, .if_icmp .eq 16, 3), (28, .aload_n 0, 1), (29, .iload_n 2, 1), (30, .invokevirtual 36, 3), (33, .aload 4, 2), (35, .invokevirtual 49, 3), (38, .iinc 2 1, 3), (41, .iinc 3 1, 3), (44, .goto (-40), 3), (47, .aload_n 0, 1), (48, .iload_n 2, 1), (49, .putfield 29, 3), (52, .return_, 1)]]
abbrev mdX2_dropBids : MD := (RX2, yX2_dropBids, cX2_dropBids, 5, none, tX2_dropBids)
set_option maxRecDepth 100000 in
theorem dtX2_dropBids : MDok mdX2_dropBids := by show DT cX2_dropBids tX2_dropBids; unfold DT tX2_dropBids; decide +kernel
def tX2_takeBids : IT := [[(0, .iconst 0, 1), (1, .istore_n 3, 1), (2, .iload_n 3, 1), (3, .iconst 4, 1), (4, .if_icmp .ge 18, 3), (7, .aload_n 1, 1), (8, .iload_n 3, 1), (9, .invokevirtual 53, 3), (12, .iconst 0, 1), (13, .putfield 58, 3), (16, .iinc 3 1, 3), (19, .goto (-17), 3), (22, .iconst 0, 1), (23, .istore_n 3, 1), (24, .iload_n 3, 1), (25, .aload_n 0, 1), (26, .getfield 29, 3), (29, .if_icmp .ge 27, 3), (32, .aload_n 0, 1), (33, .iload_n 3, 1), (34, .invokevirtual 36, 3), (37, .iconst 0, 1), (38, .putfield 63, 3), (41, .aload_n 0, 1), (42, .iload_n 3, 1), (43, .invokevirtual 36, 3), (46, .iconst 0, 1), (47, .putfield 67, 3), (50, .iinc 3 1, 3), (53, .goto (-29), 3), (56, .iconst (-1), 1), (57, .istore_n 3, 1), (58, .iload_n 2, 1), (59, .istore 4, 2), (61, .iconst 0, 1), (62, .istore 5, 2), (64, .iload 5, 2), (66, .aload_n 0, 1), (67, .getfield 29, 3), (70, .if_icmp .ge 109, 3), (73, .iload 4, 2), (75, .ifCond .le 104, 3), (78, .aload_n 0, 1), (79, .invokevirtual 70, 3), (82, .astore 6, 2), (84, .aload 6, 2), (86, .iconst 1, 1), (87, .putfield 63, 3)], [(90, .aload 6, 2), (92, .getfield 46, 3), (95, .iload 4, 2), (97, .invokestatic 74, 3), (100, .istore 7, 2), (102, .iload 7, 2), (104, .aload 6, 2), (106, .getfield 43, 3), (109, .invokestatic 80, 3), (112, .istore 8, 2), (114, .aload_n 1, 1), (115, .aload 6, 2), (117, .getfield 40, 3), (120, .invokevirtual 53, 3), (123, .astore 9, 2), (125, .aload 9, 2), (127, .getfield 83, 3), (130, .aload 9, 2), (132, .getfield 58, 3), (135, .iload 8, 2), (137, .iadd, 1), (138, .if_icmp .lt 35, 3), (141, .aload 9, 2), (143, .dup, 1), (144, .getfield 58, 3), (147, .iload 8, 2), (149, .iadd, 1), (150, .putfield 58, 3), (153, .aload 6, 2), (155, .iload 7, 2), (157, .putfield 67, 3), (160, .iload 4, 2), (162, .iload 7, 2), (164, .isub, 1), (165, .istore 4, 2), (167, .aload 6, 2), (169, .getfield 43, 3), (172, .istore_n 3, 1), (173, .iinc 5 1, 3), (176, .goto (-112), 3), (179, .iload_n 3, 1), (180, .ireturn, 1)]]
abbrev mdX2_takeBids : MD := (RX2, yX2_takeBids, cX2_takeBids, 10, (some .int), tX2_takeBids)
set_option maxRecDepth 100000 in
theorem dtX2_takeBids : MDok mdX2_takeBids := by show DT cX2_takeBids tX2_takeBids; unfold DT tX2_takeBids; decide +kernel
def tX2_highestBidNotTried : IT := [[(0, .aload_n 0, 1), (1, .getfield 18, 3), (4, .astore_n 1, 1), (5, .iconst 0, 1), (6, .istore_n 2, 1), (7, .iload_n 2, 1), (8, .aload_n 0, 1), (9, .getfield 29, 3), (12, .if_icmp .ge 35, 3), (15, .aload_n 0, 1), (16, .iload_n 2, 1), (17, .invokevirtual 36, 3), (20, .astore_n 3, 1), (21, .aload_n 3, 1), (22, .getfield 63, 3), (25, .ifCond .ne 16, 3), (28, .aload_n 3, 1), (29, .getfield 43, 3), (32, .aload_n 1, 1), (33, .getfield 43, 3), (36, .if_icmp .le 5, 3), (39, .aload_n 3, 1), (40, .astore_n 1, 1), (41, .iinc 2 1, 3), (44, .goto (-37), 3), (47, .aload_n 1, 1), (48, .areturn, 1)]]
abbrev mdX2_highestBidNotTried : MD := (RX2, yX2_highestBidNotTried, cX2_highestBidNotTried, 4, (some (.object "Newsmint$Bid")), tX2_highestBidNotTried)
set_option maxRecDepth 100000 in
theorem dtX2_highestBidNotTried : MDok mdX2_highestBidNotTried := by show DT cX2_highestBidNotTried tX2_highestBidNotTried; unfold DT tX2_highestBidNotTried; decide +kernel
def tX2_sell : IT := [[(0, .iconst 0, 1), (1, .istore 4, 2), (3, .iload 4, 2), (5, .aload_n 0, 1), (6, .getfield 29, 3), (9, .if_icmp .ge 87, 3), (12, .aload_n 0, 1), (13, .iload 4, 2), (15, .invokevirtual 36, 3), (18, .astore 5, 2), (20, .aload 5, 2), (22, .getfield 67, 3), (25, .ifCond .le 65, 3), (28, .aload 5, 2), (30, .getfield 67, 3), (33, .iload_n 2, 1), (34, .invokestatic 80, 3), (37, .istore 6, 2), (39, .aload_n 1, 1), (40, .aload 5, 2), (42, .getfield 40, 3), (45, .invokevirtual 53, 3), (48, .dup, 1), (49, .getfield 83, 3), (52, .iload 6, 2), (54, .isub, 1), (55, .putfield 83, 3), (58, .aload_n 1, 1), (59, .getfield 86, 3), (62, .dup, 1), (63, .getfield 90, 3), (66, .iload 6, 2), (68, .iadd, 1), (69, .putfield 90, 3), (72, .aload_n 0, 1), (73, .aload 5, 2), (75, .getfield 40, 3), (78, .aload_n 0, 1), (79, .getfield 33, 3), (82, .aload 5, 2), (84, .getfield 67, 3), (87, .invokevirtual 95, 3), (90, .iinc 4 1, 3), (93, .goto (-90), 3), (96, .aload_n 0, 1), (97, .getfield 33, 3), (100, .ifCond .lt 25, 3), (103, .aload_n 0, 1)], [(104, .getfield 33, 3), (107, .aload_n 0, 1), (108, .getfield 22, 3), (111, .arraylength, 1), (112, .if_icmp .ge 13, 3), (115, .aload_n 0, 1), (116, .getfield 22, 3), (119, .aload_n 0, 1), (120, .getfield 33, 3), (123, .iload_n 3, 1), (124, .iastore, 1), (125, .aload_n 0, 1), (126, .dup, 1), (127, .getfield 33, 3), (130, .iconst 1, 1), (131, .iadd, 1), (132, .putfield 33, 3), (135, .aload_n 0, 1), (136, .iconst 0, 1), (137, .putfield 29, 3), (140, .return_, 1)]]
abbrev mdX2_sell : MD := (RX2, yX2_sell, cX2_sell, 7, none, tX2_sell)
set_option maxRecDepth 100000 in
theorem dtX2_sell : MDok mdX2_sell := by show DT cX2_sell tX2_sell; unfold DT tX2_sell; decide +kernel
def tX2_held : IT := [[(0, .iload_n 2, 1), (1, .iconst 5, 1), (2, .imul, 1), (3, .iload_n 1, 1), (4, .iadd, 1), (5, .istore_n 3, 1), (6, .iload_n 3, 1), (7, .ifCond .lt 21, 3), (10, .iload_n 3, 1), (11, .aload_n 0, 1), (12, .getfield 26, 3), (15, .arraylength, 1), (16, .if_icmp .ge 12, 3), (19, .aload_n 0, 1), (20, .getfield 26, 3), (23, .iload_n 3, 1), (24, .iaload, 1), (25, .goto 4, 3), (28, .iconst 0, 1), (29, .ireturn, 1)]]
abbrev mdX2_held : MD := (RX2, yX2_held, cX2_held, 4, (some .int), tX2_held)
set_option maxRecDepth 100000 in
theorem dtX2_held : MDok mdX2_held := by show DT cX2_held tX2_held; unfold DT tX2_held; decide +kernel
def tX2_add : IT := [[(0, .iload_n 2, 1), (1, .iconst 5, 1), (2, .imul, 1), (3, .iload_n 1, 1), (4, .iadd, 1), (5, .istore 4, 2), (7, .iload 4, 2), (9, .ifCond .lt 24, 3), (12, .iload 4, 2), (14, .aload_n 0, 1), (15, .getfield 26, 3), (18, .arraylength, 1), (19, .if_icmp .ge 14, 3), (22, .aload_n 0, 1), (23, .getfield 26, 3), (26, .iload 4, 2), (28, .dup2, 1), (29, .iaload, 1), (30, .iload_n 3, 1), (31, .iadd, 1), (32, .iastore, 1), (33, .return_, 1)]]
abbrev mdX2_add : MD := (RX2, yX2_add, cX2_add, 5, none, tX2_add)
set_option maxRecDepth 100000 in
theorem dtX2_add : MDok mdX2_add := by show DT cX2_add tX2_add; unfold DT tX2_add; decide +kernel
def tX2_of : IT := [[(0, .iconst 0, 1), (1, .istore_n 2, 1), (2, .iconst 0, 1), (3, .istore_n 3, 1), (4, .iload_n 3, 1), (5, .aload_n 0, 1), (6, .getfield 33, 3), (9, .if_icmp .ge 18, 3), (12, .iload_n 2, 1), (13, .aload_n 0, 1), (14, .iload_n 1, 1), (15, .iload_n 3, 1), (16, .invokevirtual 99, 3), (19, .iadd, 1), (20, .istore_n 2, 1), (21, .iinc 3 1, 3), (24, .goto (-20), 3), (27, .iload_n 2, 1), (28, .ireturn, 1)]]
abbrev mdX2_of : MD := (RX2, yX2_of, cX2_of, 4, (some .int), tX2_of)
set_option maxRecDepth 100000 in
theorem dtX2_of : MDok mdX2_of := by show DT cX2_of tX2_of; unfold DT tX2_of; decide +kernel
def tX2_moveToCentral : IT := [[(0, .iload_n 2, 1), (1, .istore_n 3, 1), (2, .iconst 0, 1), (3, .istore 4, 2), (5, .iload 4, 2), (7, .aload_n 0, 1), (8, .getfield 33, 3), (11, .if_icmp .ge 46, 3), (14, .iload_n 3, 1), (15, .aload_n 0, 1), (16, .iload_n 1, 1), (17, .iload 4, 2), (19, .invokevirtual 99, 3), (22, .invokestatic 74, 3), (25, .istore 5, 2), (27, .aload_n 0, 1), (28, .iload_n 1, 1), (29, .iload 4, 2), (31, .iload 5, 2), (33, .ineg, 1), (34, .invokevirtual 95, 3), (37, .aload_n 0, 1), (38, .iconst 4, 1), (39, .iload 4, 2), (41, .iload 5, 2), (43, .invokevirtual 95, 3), (46, .iload_n 3, 1), (47, .iload 5, 2), (49, .isub, 1), (50, .istore_n 3, 1), (51, .iinc 4 1, 3), (54, .goto (-49), 3), (57, .return_, 1)]]
abbrev mdX2_moveToCentral : MD := (RX2, yX2_moveToCentral, cX2_moveToCentral, 6, none, tX2_moveToCentral)
set_option maxRecDepth 100000 in
theorem dtX2_moveToCentral : MDok mdX2_moveToCentral := by show DT cX2_moveToCentral tX2_moveToCentral; unfold DT tX2_moveToCentral; decide +kernel
def tX2_payDue : IT := [[(0, .iconst 0, 1), (1, .istore_n 3, 1), (2, .iload_n 3, 1), (3, .aload_n 0, 1), (4, .getfield 33, 3), (7, .if_icmp .ge 58, 3), (10, .iload_n 3, 1), (11, .aload_n 0, 1), (12, .getfield 22, 3), (15, .arraylength, 1), (16, .if_icmp .ge 49, 3), (19, .aload_n 0, 1), (20, .getfield 22, 3), (23, .iload_n 3, 1), (24, .iaload, 1), (25, .iload_n 2, 1), (26, .if_icmp .gt 33, 3), (29, .aload_n 0, 1), (30, .aload_n 1, 1), (31, .iload_n 3, 1), (32, .iconst 4, 1), (33, .invokevirtual 102, 3), (36, .iconst 0, 1), (37, .istore 4, 2), (39, .iload 4, 2), (41, .iconst 4, 1), (42, .if_icmp .ge 17, 3), (45, .aload_n 0, 1), (46, .aload_n 1, 1), (47, .iload_n 3, 1), (48, .iload 4, 2), (50, .invokevirtual 102, 3), (53, .iinc 4 1, 3), (56, .goto (-17), 3), (59, .iinc 3 1, 3), (62, .goto (-60), 3), (65, .return_, 1)]]
abbrev mdX2_payDue : MD := (RX2, yX2_payDue, cX2_payDue, 5, none, tX2_payDue)
set_option maxRecDepth 100000 in
theorem dtX2_payDue : MDok mdX2_payDue := by show DT cX2_payDue tX2_payDue; unfold DT tX2_payDue; decide +kernel
def tX2_payBondsOf : IT := [[(0, .aload_n 1, 1), (1, .getfield 86, 3), (4, .getfield 90, 3), (7, .aload_n 0, 1), (8, .iload_n 3, 1), (9, .iload_n 2, 1), (10, .invokevirtual 99, 3), (13, .invokestatic 74, 3), (16, .istore 4, 2), (18, .aload_n 1, 1), (19, .getfield 86, 3), (22, .dup, 1), (23, .getfield 90, 3), (26, .iload 4, 2), (28, .isub, 1), (29, .putfield 90, 3), (32, .aload_n 0, 1), (33, .iload_n 3, 1), (34, .iload_n 2, 1), (35, .iload 4, 2), (37, .ineg, 1), (38, .invokevirtual 95, 3), (41, .iload_n 3, 1), (42, .iconst 4, 1), (43, .if_icmp .eq 18, 3), (46, .aload_n 1, 1), (47, .iload_n 3, 1), (48, .invokevirtual 53, 3), (51, .dup, 1), (52, .getfield 83, 3), (55, .iload 4, 2), (57, .iadd, 1), (58, .putfield 83, 3), (61, .return_, 1)]]
abbrev mdX2_payBondsOf : MD := (RX2, yX2_payBondsOf, cX2_payBondsOf, 5, none, tX2_payBondsOf)
set_option maxRecDepth 100000 in
theorem dtX2_payBondsOf : MDok mdX2_payBondsOf := by show DT cX2_payBondsOf tX2_payBondsOf; unfold DT tX2_payBondsOf; decide +kernel
def tX3_init : IT := [[(0, .aload_n 0, 1), (1, .invokespecial 3, 3), (4, .aload_n 0, 1), (5, .new 9, 3), (8, .dup, 1), (9, .invokespecial 11, 3), (12, .putfield 12, 3), (15, .aload_n 0, 1), (16, .new 18, 3), (19, .dup, 1), (20, .invokespecial 20, 3), (23, .putfield 21, 3), (26, .aload_n 0, 1), (27, .bipush 16, 2), (29, .anewarray 25, 3), (32, .putfield 27, 3), (35, .aload_n 0, 1), (36, .iconst 4, 1), (37, .anewarray 31, 3), (40, .putfield 33, 3), (43, .aload_n 0, 1), (44, .new 25, 3), (47, .dup, 1), (48, .invokespecial 37, 3), (51, .putfield 38, 3), (54, .aload_n 0, 1), (55, .new 31, 3), (58, .dup, 1), (59, .invokespecial 42, 3), (62, .putfield 43, 3), (65, .iconst 0, 1), (66, .istore_n 1, 1), (67, .iload_n 1, 1), (68, .aload_n 0, 1), (69, .getfield 27, 3), (72, .arraylength, 1), (73, .if_icmp .ge 22, 3), (76, .aload_n 0, 1), (77, .getfield 27, 3), (80, .iload_n 1, 1), (81, .new 25, 3), (84, .dup, 1), (85, .invokespecial 37, 3), (88, .aastore, 1), (89, .iinc 1 1, 3), (92, .goto (-25), 3), (95, .iconst 0, 1), (96, .istore_n 1, 1)], [(97, .iload_n 1, 1), (98, .aload_n 0, 1), (99, .getfield 33, 3), (102, .arraylength, 1), (103, .if_icmp .ge 22, 3), (106, .aload_n 0, 1), (107, .getfield 33, 3), (110, .iload_n 1, 1), (111, .new 31, 3), (114, .dup, 1), (115, .invokespecial 42, 3), (118, .aastore, 1), (119, .iinc 1 1, 3), (122, .goto (-25), 3), (125, .return_, 1)]]
abbrev mdX3_init : MD := (RX3, yX3_init, cX3_init, 2, none, tX3_init)
set_option maxRecDepth 100000 in
theorem dtX3_init : MDok mdX3_init := by show DT cX3_init tX3_init; unfold DT tX3_init; decide +kernel
def tX3_holder : IT := [[(0, .iload_n 1, 1), (1, .ifCond .lt 21, 3), (4, .iload_n 1, 1), (5, .aload_n 0, 1), (6, .getfield 27, 3), (9, .arraylength, 1), (10, .if_icmp .ge 12, 3), (13, .aload_n 0, 1), (14, .getfield 27, 3), (17, .iload_n 1, 1), (18, .aaload, 1), (19, .goto 7, 3), (22, .aload_n 0, 1), (23, .getfield 38, 3), (26, .astore_n 2, 1), (27, .aload_n 2, 1), (28, .ifnonnull 10, 3), (31, .aload_n 0, 1), (32, .getfield 38, 3), (35, .goto 4, 3), (38, .aload_n 2, 1), (39, .areturn, 1)]]
abbrev mdX3_holder : MD := (RX3, yX3_holder, cX3_holder, 3, (some (.object "Newsmint$Holder")), tX3_holder)
set_option maxRecDepth 100000 in
theorem dtX3_holder : MDok mdX3_holder := by show DT cX3_holder tX3_holder; unfold DT tX3_holder; decide +kernel
def tX3_bank : IT := [[(0, .iload_n 1, 1), (1, .ifCond .lt 21, 3), (4, .iload_n 1, 1), (5, .aload_n 0, 1), (6, .getfield 33, 3), (9, .arraylength, 1), (10, .if_icmp .ge 12, 3), (13, .aload_n 0, 1), (14, .getfield 33, 3), (17, .iload_n 1, 1), (18, .aaload, 1), (19, .goto 7, 3), (22, .aload_n 0, 1), (23, .getfield 43, 3), (26, .astore_n 2, 1), (27, .aload_n 2, 1), (28, .ifnonnull 10, 3), (31, .aload_n 0, 1), (32, .getfield 43, 3), (35, .goto 4, 3), (38, .aload_n 2, 1), (39, .areturn, 1)]]
abbrev mdX3_bank : MD := (RX3, yX3_bank, cX3_bank, 3, (some (.object "Newsmint$Bank")), tX3_bank)
set_option maxRecDepth 100000 in
theorem dtX3_bank : MDok mdX3_bank := by show DT cX3_bank tX3_bank; unfold DT tX3_bank; decide +kernel
def tX3_change : IT := [[(0, .aload_n 0, 1), (1, .iload_n 1, 1), (2, .invokevirtual 47, 3), (5, .dup, 1), (6, .getfield 51, 3), (9, .iload_n 2, 1), (10, .iadd, 1), (11, .putfield 51, 3), (14, .aload_n 0, 1), (15, .getfield 21, 3), (18, .iload_n 1, 1), (19, .iload_n 2, 1), (20, .invokevirtual 55, 3), (23, .return_, 1)]]
abbrev mdX3_change : MD := (RX3, yX3_change, cX3_change, 3, none, tX3_change)
set_option maxRecDepth 100000 in
theorem dtX3_change : MDok mdX3_change := by show DT cX3_change tX3_change; unfold DT tX3_change; decide +kernel
def tX3_noteCentral : IT := [[(0, .aload_n 0, 1), (1, .getfield 21, 3), (4, .bipush 16, 2), (6, .iload_n 1, 1), (7, .invokevirtual 55, 3), (10, .return_, 1)]]
abbrev mdX3_noteCentral : MD := (RX3, yX3_noteCentral, cX3_noteCentral, 2, none, tX3_noteCentral)
set_option maxRecDepth 100000 in
theorem dtX3_noteCentral : MDok mdX3_noteCentral := by show DT cX3_noteCentral tX3_noteCentral; unfold DT tX3_noteCentral; decide +kernel
def tX3_accountsAt : IT := [[(0, .iconst 0, 1), (1, .istore_n 2, 1), (2, .iconst 0, 1), (3, .istore_n 3, 1), (4, .iload_n 3, 1), (5, .bipush 16, 2), (7, .if_icmp .ge 29, 3), (10, .iload_n 2, 1), (11, .aload_n 0, 1), (12, .iload_n 3, 1), (13, .invokevirtual 47, 3), (16, .getfield 59, 3), (19, .iload_n 1, 1), (20, .if_icmp .ne 7, 3), (23, .iconst 1, 1), (24, .goto 4, 3), (27, .iconst 0, 1), (28, .iadd, 1), (29, .istore_n 2, 1), (30, .iinc 3 1, 3), (33, .goto (-29), 3), (36, .iload_n 2, 1), (37, .ireturn, 1)]]
abbrev mdX3_accountsAt : MD := (RX3, yX3_accountsAt, cX3_accountsAt, 4, (some .int), tX3_accountsAt)
set_option maxRecDepth 100000 in
theorem dtX3_accountsAt : MDok mdX3_accountsAt := by show DT cX3_accountsAt tX3_accountsAt; unfold DT tX3_accountsAt; decide +kernel
def tX3_inAccountsAt : IT := [[(0, .iconst 0, 1), (1, .istore_n 2, 1), (2, .iconst 0, 1), (3, .istore_n 3, 1), (4, .iload_n 3, 1), (5, .bipush 16, 2), (7, .if_icmp .ge 37, 3), (10, .aload_n 0, 1), (11, .iload_n 3, 1), (12, .invokevirtual 47, 3), (15, .astore 4, 2), (17, .iload_n 2, 1), (18, .aload 4, 2), (20, .getfield 59, 3), (23, .iload_n 1, 1), (24, .if_icmp .ne 11, 3), (27, .aload 4, 2), (29, .getfield 51, 3), (32, .goto 4, 3), (35, .iconst 0, 1), (36, .iadd, 1), (37, .istore_n 2, 1), (38, .iinc 3 1, 3), (41, .goto (-37), 3), (44, .iload_n 2, 1), (45, .ireturn, 1)]]
abbrev mdX3_inAccountsAt : MD := (RX3, yX3_inAccountsAt, cX3_inAccountsAt, 5, (some .int), tX3_inAccountsAt)
set_option maxRecDepth 100000 in
theorem dtX3_inAccountsAt : MDok mdX3_inAccountsAt := by show DT cX3_inAccountsAt tX3_inAccountsAt; unfold DT tX3_inAccountsAt; decide +kernel
def tX3_goodNotesOfHolders : IT := [[(0, .iconst 0, 1), (1, .istore_n 1, 1), (2, .iconst 0, 1), (3, .istore_n 2, 1), (4, .iload_n 2, 1), (5, .bipush 16, 2), (7, .if_icmp .ge 27, 3), (10, .aload_n 0, 1), (11, .iload_n 2, 1), (12, .invokevirtual 47, 3), (15, .astore_n 3, 1), (16, .iload_n 1, 1), (17, .aload_n 3, 1), (18, .getfield 62, 3), (21, .aload_n 3, 1), (22, .getfield 65, 3), (25, .isub, 1), (26, .iadd, 1), (27, .istore_n 1, 1), (28, .iinc 2 1, 3), (31, .goto (-27), 3), (34, .iload_n 1, 1), (35, .ireturn, 1)]]
abbrev mdX3_goodNotesOfHolders : MD := (RX3, yX3_goodNotesOfHolders, cX3_goodNotesOfHolders, 4, (some .int), tX3_goodNotesOfHolders)
set_option maxRecDepth 100000 in
theorem dtX3_goodNotesOfHolders : MDok mdX3_goodNotesOfHolders := by show DT cX3_goodNotesOfHolders tX3_goodNotesOfHolders; unfold DT tX3_goodNotesOfHolders; decide +kernel
def tX3_banksThatStand : IT := [[(0, .iconst 0, 1), (1, .istore_n 1, 1), (2, .iconst 0, 1), (3, .istore_n 2, 1), (4, .iload_n 2, 1), (5, .iconst 4, 1), (6, .if_icmp .ge 28, 3), (9, .iload_n 1, 1), (10, .aload_n 0, 1), (11, .iload_n 2, 1), (12, .invokevirtual 68, 3), (15, .getfield 71, 3), (18, .ifCond .eq 7, 3), (21, .iconst 0, 1), (22, .goto 4, 3), (25, .iconst 1, 1), (26, .iadd, 1), (27, .istore_n 1, 1), (28, .iinc 2 1, 3), (31, .goto (-27), 3), (34, .iload_n 1, 1), (35, .ireturn, 1)]]
abbrev mdX3_banksThatStand : MD := (RX3, yX3_banksThatStand, cX3_banksThatStand, 3, (some .int), tX3_banksThatStand)
set_option maxRecDepth 100000 in
theorem dtX3_banksThatStand : MDok mdX3_banksThatStand := by show DT cX3_banksThatStand tX3_banksThatStand; unfold DT tX3_banksThatStand; decide +kernel
def tX3_lowestBankThatStands : IT := [[(0, .iconst 0, 1), (1, .istore_n 1, 1), (2, .iload_n 1, 1), (3, .iconst 4, 1), (4, .if_icmp .ge 22, 3), (7, .aload_n 0, 1), (8, .iload_n 1, 1), (9, .invokevirtual 68, 3), (12, .getfield 71, 3), (15, .ifCond .ne 5, 3), (18, .iload_n 1, 1), (19, .ireturn, 1), (20, .iinc 1 1, 3), (23, .goto (-21), 3), (26, .iconst (-1), 1), (27, .ireturn, 1)]]
abbrev mdX3_lowestBankThatStands : MD := (RX3, yX3_lowestBankThatStands, cX3_lowestBankThatStands, 2, (some .int), tX3_lowestBankThatStands)
set_option maxRecDepth 100000 in
theorem dtX3_lowestBankThatStands : MDok mdX3_lowestBankThatStands := by show DT cX3_lowestBankThatStands tX3_lowestBankThatStands; unfold DT tX3_lowestBankThatStands; decide +kernel
def tX3_bankThatLacksMost : IT := [[(0, .iconst (-1), 1), (1, .istore_n 1, 1), (2, .iconst 0, 1), (3, .istore_n 2, 1), (4, .iconst 0, 1), (5, .istore_n 3, 1), (6, .iload_n 3, 1), (7, .iconst 4, 1), (8, .if_icmp .ge 30, 3), (11, .aload_n 0, 1), (12, .iload_n 3, 1), (13, .invokevirtual 68, 3), (16, .invokevirtual 75, 3), (19, .istore 4, 2), (21, .iload 4, 2), (23, .iload_n 2, 1), (24, .if_icmp .le 8, 3), (27, .iload_n 3, 1), (28, .istore_n 1, 1), (29, .iload 4, 2), (31, .istore_n 2, 1), (32, .iinc 3 1, 3), (35, .goto (-29), 3), (38, .iload_n 1, 1), (39, .ireturn, 1)]]
abbrev mdX3_bankThatLacksMost : MD := (RX3, yX3_bankThatLacksMost, cX3_bankThatLacksMost, 5, (some .int), tX3_bankThatLacksMost)
set_option maxRecDepth 100000 in
theorem dtX3_bankThatLacksMost : MDok mdX3_bankThatLacksMost := by show DT cX3_bankThatLacksMost tX3_bankThatLacksMost; unfold DT tX3_bankThatLacksMost; decide +kernel
def tX3_canPayOwner : IT := [[(0, .aload_n 0, 1), (1, .aload_n 1, 1), (2, .getfield 79, 3), (5, .invokevirtual 47, 3), (8, .astore_n 3, 1), (9, .iload_n 2, 1), (10, .aload_n 3, 1), (11, .invokevirtual 83, 3), (14, .if_icmp .gt 33, 3), (17, .aload_n 3, 1), (18, .getfield 59, 3), (21, .aload_n 1, 1), (22, .getfield 86, 3), (25, .if_icmp .eq 18, 3), (28, .iload_n 2, 1), (29, .aload_n 0, 1), (30, .aload_n 3, 1), (31, .getfield 59, 3), (34, .invokevirtual 68, 3), (37, .getfield 89, 3), (40, .if_icmp .gt 7, 3), (43, .iconst 1, 1), (44, .goto 4, 3), (47, .iconst 0, 1), (48, .ireturn, 1)]]
abbrev mdX3_canPayOwner : MD := (RX3, yX3_canPayOwner, cX3_canPayOwner, 4, (some .boolean), tX3_canPayOwner)
set_option maxRecDepth 100000 in
theorem dtX3_canPayOwner : MDok mdX3_canPayOwner := by show DT cX3_canPayOwner tX3_canPayOwner; unfold DT tX3_canPayOwner; decide +kernel
def tX3_payOwner : IT := [[(0, .aload_n 0, 1), (1, .aload_n 1, 1), (2, .getfield 79, 3), (5, .invokevirtual 47, 3), (8, .astore_n 3, 1), (9, .aload_n 0, 1), (10, .aload_n 1, 1), (11, .getfield 79, 3), (14, .iload_n 2, 1), (15, .ineg, 1), (16, .invokevirtual 92, 3), (19, .aload_n 3, 1), (20, .getfield 59, 3), (23, .aload_n 1, 1), (24, .getfield 86, 3), (27, .if_icmp .ne 4, 3), (30, .return_, 1), (31, .aload_n 0, 1), (32, .aload_n 3, 1), (33, .getfield 59, 3), (36, .invokevirtual 68, 3), (39, .dup, 1), (40, .getfield 89, 3), (43, .iload_n 2, 1), (44, .isub, 1), (45, .putfield 89, 3), (48, .aload_n 1, 1), (49, .getfield 86, 3), (52, .iconst 4, 1), (53, .if_icmp .eq 20, 3), (56, .aload_n 0, 1), (57, .aload_n 1, 1), (58, .getfield 86, 3), (61, .invokevirtual 68, 3), (64, .dup, 1), (65, .getfield 89, 3), (68, .iload_n 2, 1), (69, .iadd, 1), (70, .putfield 89, 3), (73, .return_, 1)]]
abbrev mdX3_payOwner : MD := (RX3, yX3_payOwner, cX3_payOwner, 4, none, tX3_payOwner)
set_option maxRecDepth 100000 in
theorem dtX3_payOwner : MDok mdX3_payOwner := by show DT cX3_payOwner tX3_payOwner; unfold DT tX3_payOwner; decide +kernel
def tX3_payOut : IT := [[(0, .iconst 0, 1), (1, .istore_n 3, 1), (2, .iconst 0, 1), (3, .istore 4, 2), (5, .iconst 0, 1), (6, .istore 5, 2), (8, .iload 5, 2), (10, .bipush 16, 2), (12, .if_icmp .ge 50, 3), (15, .aload_n 0, 1), (16, .iload 5, 2), (18, .invokevirtual 47, 3), (21, .astore 6, 2), (23, .aload 6, 2), (25, .getfield 59, 3), (28, .iload_n 1, 1), (29, .if_icmp .ne 27, 3), (32, .iload_n 3, 1), (33, .aload 6, 2), (35, .invokevirtual 95, 3), (38, .iadd, 1), (39, .istore_n 3, 1), (40, .iload 4, 2), (42, .aload 6, 2), (44, .getfield 51, 3), (47, .aload 6, 2), (49, .invokevirtual 95, 3), (52, .isub, 1), (53, .iadd, 1), (54, .istore 4, 2), (56, .iinc 5 1, 3), (59, .goto (-51), 3), (62, .iconst 0, 1), (63, .iload_n 2, 1), (64, .iload_n 3, 1), (65, .isub, 1), (66, .invokestatic 98, 3), (69, .istore 5, 2), (71, .aload_n 0, 1), (72, .invokevirtual 104, 3), (75, .istore 6, 2), (77, .iconst 0, 1), (78, .istore 7, 2), (80, .iconst 0, 1), (81, .istore 8, 2), (83, .iload 8, 2), (85, .bipush 16, 2), (87, .if_icmp .ge 117, 3)], [(90, .aload_n 0, 1), (91, .iload 8, 2), (93, .invokevirtual 47, 3), (96, .astore 9, 2), (98, .aload 9, 2), (100, .getfield 59, 3), (103, .iload_n 1, 1), (104, .if_icmp .ne 94, 3), (107, .aload 9, 2), (109, .getfield 51, 3), (112, .aload 9, 2), (114, .invokevirtual 95, 3), (117, .isub, 1), (118, .istore 10, 2), (120, .aload 9, 2), (122, .invokevirtual 95, 3), (125, .iload 10, 2), (127, .iload 10, 2), (129, .iload 5, 2), (131, .iload 4, 2), (133, .invokestatic 107, 3), (136, .invokestatic 111, 3), (139, .iadd, 1), (140, .istore 11, 2), (142, .iload 7, 2), (144, .iload 11, 2), (146, .iadd, 1), (147, .istore 7, 2), (149, .aload_n 0, 1), (150, .iload 8, 2), (152, .iload 6, 2), (154, .iconst (-1), 1), (155, .if_icmp .ne 7, 3), (158, .iconst 0, 1), (159, .goto 5, 3), (162, .iload 11, 2), (164, .aload 9, 2), (166, .getfield 51, 3), (169, .isub, 1), (170, .invokevirtual 92, 3), (173, .aload 9, 2), (175, .iload 6, 2), (177, .iconst (-1), 1), (178, .if_icmp .ne 8, 3), (181, .iload 11, 2), (183, .goto 4, 3), (186, .iconst 0, 1), (187, .iconst 0, 1)], [(188, .invokevirtual 114, 3), (191, .aload 9, 2), (193, .iload 6, 2), (195, .putfield 59, 3), (198, .iinc 8 1, 3), (201, .goto (-118), 3), (204, .iload 6, 2), (206, .iconst (-1), 1), (207, .if_icmp .eq 19, 3), (210, .aload_n 0, 1), (211, .iload 6, 2), (213, .invokevirtual 68, 3), (216, .dup, 1), (217, .getfield 89, 3), (220, .iload 7, 2), (222, .iadd, 1), (223, .putfield 89, 3), (226, .iload 7, 2), (228, .ireturn, 1)]]
abbrev mdX3_payOut : MD := (RX3, yX3_payOut, cX3_payOut, 12, (some .int), tX3_payOut)
set_option maxRecDepth 100000 in
theorem dtX3_payOut : MDok mdX3_payOut := by show DT cX3_payOut tX3_payOut; unfold DT tX3_payOut; decide +kernel
def tX4_init : IT := [[(0, .aload_n 0, 1), (1, .invokespecial 1, 3), (4, .aload_n 0, 1), (5, .bipush 10, 2), (7, .putfield 7, 3), (10, .aload_n 0, 1), (11, .bipush 10, 2), (13, .putfield 13, 3), (16, .aload_n 0, 1), (17, .bipush 100, 2), (19, .putfield 16, 3), (22, .return_, 1)]]
abbrev mdX4_init : MD := (RX4, yX4_init, cX4_init, 1, none, tX4_init)
set_option maxRecDepth 100000 in
theorem dtX4_init : MDok mdX4_init := by show DT cX4_init tX4_init; unfold DT tX4_init; decide +kernel
def tX5_init : IT := [[(0, .aload_n 0, 1), (1, .invokespecial 3, 3), (4, .aload_n 0, 1), (5, .iconst (-1), 1), (6, .putfield 9, 3), (9, .aload_n 0, 1), (10, .iconst (-1), 1), (11, .putfield 15, 3), (14, .aload_n 0, 1), (15, .bipush 10, 2), (17, .putfield 18, 3), (20, .aload_n 0, 1), (21, .bipush 10, 2), (23, .putfield 21, 3), (26, .aload_n 0, 1), (27, .iconst 4, 1), (28, .newarray .int, 2), (30, .putfield 24, 3), (33, .return_, 1)]]
abbrev mdX5_init : MD := (RX5, yX5_init, cX5_init, 1, none, tX5_init)
set_option maxRecDepth 100000 in
theorem dtX5_init : MDok mdX5_init := by show DT cX5_init tX5_init; unfold DT tX5_init; decide +kernel
def tX5_free : IT := [[(0, .aload_n 0, 1), (1, .getfield 28, 3), (4, .aload_n 0, 1), (5, .getfield 31, 3), (8, .isub, 1), (9, .ireturn, 1)]]
abbrev mdX5_free : MD := (RX5, yX5_free, cX5_free, 1, (some .int), tX5_free)
set_option maxRecDepth 100000 in
theorem dtX5_free : MDok mdX5_free := by show DT cX5_free tX5_free; unfold DT tX5_free; decide +kernel
def tX5_sureOfAccount : IT := [[(0, .bipush 100, 2), (2, .aload_n 0, 1), (3, .getfield 28, 3), (6, .invokestatic 34, 3), (9, .ireturn, 1)]]
abbrev mdX5_sureOfAccount : MD := (RX5, yX5_sureOfAccount, cX5_sureOfAccount, 1, (some .int), tX5_sureOfAccount)
set_option maxRecDepth 100000 in
theorem dtX5_sureOfAccount : MDok mdX5_sureOfAccount := by show DT cX5_sureOfAccount tX5_sureOfAccount; unfold DT tX5_sureOfAccount; decide +kernel
def tX5_forgedAmong : IT := [[(0, .iload_n 1, 1), (1, .aload_n 0, 1), (2, .getfield 40, 3), (5, .aload_n 0, 1), (6, .getfield 43, 3), (9, .invokestatic 46, 3), (12, .ireturn, 1)]]
abbrev mdX5_forgedAmong : MD := (RX5, yX5_forgedAmong, cX5_forgedAmong, 2, (some .int), tX5_forgedAmong)
set_option maxRecDepth 100000 in
theorem dtX5_forgedAmong : MDok mdX5_forgedAmong := by show DT cX5_forgedAmong tX5_forgedAmong; unfold DT tX5_forgedAmong; decide +kernel
def tX5_takeNotes : IT := [[(0, .aload_n 0, 1), (1, .dup, 1), (2, .getfield 43, 3), (5, .iload_n 1, 1), (6, .iadd, 1), (7, .putfield 43, 3), (10, .aload_n 0, 1), (11, .dup, 1), (12, .getfield 40, 3), (15, .iload_n 2, 1), (16, .iadd, 1), (17, .putfield 40, 3), (20, .return_, 1)]]
abbrev mdX5_takeNotes : MD := (RX5, yX5_takeNotes, cX5_takeNotes, 3, none, tX5_takeNotes)
set_option maxRecDepth 100000 in
theorem dtX5_takeNotes : MDok mdX5_takeNotes := by show DT cX5_takeNotes tX5_takeNotes; unfold DT tX5_takeNotes; decide +kernel
def tX5_markDrawn : IT := [[(0, .iload_n 1, 1), (1, .ifCond .lt 21, 3), (4, .iload_n 1, 1), (5, .aload_n 0, 1), (6, .getfield 24, 3), (9, .arraylength, 1), (10, .if_icmp .ge 12, 3), (13, .aload_n 0, 1), (14, .getfield 24, 3), (17, .iload_n 1, 1), (18, .iload_n 2, 1), (19, .iconst 1, 1), (20, .iadd, 1), (21, .iastore, 1), (22, .return_, 1)]]
abbrev mdX5_markDrawn : MD := (RX5, yX5_markDrawn, cX5_markDrawn, 3, none, tX5_markDrawn)
set_option maxRecDepth 100000 in
theorem dtX5_markDrawn : MDok mdX5_markDrawn := by show DT cX5_markDrawn tX5_markDrawn; unfold DT tX5_markDrawn; decide +kernel
def tX5_hasDrawnSince : IT := [[(0, .iload_n 1, 1), (1, .ifCond .lt 35, 3), (4, .iload_n 1, 1), (5, .aload_n 0, 1), (6, .getfield 24, 3), (9, .arraylength, 1), (10, .if_icmp .ge 26, 3), (13, .aload_n 0, 1), (14, .getfield 24, 3), (17, .iload_n 1, 1), (18, .iaload, 1), (19, .ifCond .le 17, 3), (22, .aload_n 0, 1), (23, .getfield 24, 3), (26, .iload_n 1, 1), (27, .iaload, 1), (28, .iload_n 2, 1), (29, .if_icmp .le 7, 3), (32, .iconst 1, 1), (33, .goto 4, 3), (36, .iconst 0, 1), (37, .ireturn, 1)]]
abbrev mdX5_hasDrawnSince : MD := (RX5, yX5_hasDrawnSince, cX5_hasDrawnSince, 3, (some .boolean), tX5_hasDrawnSince)
set_option maxRecDepth 100000 in
theorem dtX5_hasDrawnSince : MDok mdX5_hasDrawnSince := by show DT cX5_hasDrawnSince tX5_hasDrawnSince; unfold DT tX5_hasDrawnSince; decide +kernel
def tX6_init : IT := [[(0, .aload_n 0, 1), (1, .invokespecial 1, 3), (4, .return_, 1)]]
abbrev mdX6_init : MD := (RX6, yX6_init, cX6_init, 1, none, tX6_init)
set_option maxRecDepth 100000 in
theorem dtX6_init : MDok mdX6_init := by show DT cX6_init tX6_init; unfold DT tX6_init; decide +kernel
def tX7_init : IT := [[(0, .aload_n 0, 1), (1, .invokespecial 3, 3), (4, .aload_n 0, 1), (5, .bipush 20, 2), (7, .anewarray 9, 3), (10, .putfield 11, 3), (13, .aload_n 0, 1), (14, .new 9, 3), (17, .dup, 1), (18, .invokespecial 17, 3), (21, .putfield 18, 3), (24, .iconst 0, 1), (25, .istore_n 1, 1), (26, .iload_n 1, 1), (27, .aload_n 0, 1), (28, .getfield 11, 3), (31, .arraylength, 1), (32, .if_icmp .ge 22, 3), (35, .aload_n 0, 1), (36, .getfield 11, 3), (39, .iload_n 1, 1), (40, .new 9, 3), (43, .dup, 1), (44, .invokespecial 17, 3), (47, .aastore, 1), (48, .iinc 1 1, 3), (51, .goto (-25), 3), (54, .return_, 1)]]
abbrev mdX7_init : MD := (RX7, yX7_init, cX7_init, 2, none, tX7_init)
set_option maxRecDepth 100000 in
theorem dtX7_init : MDok mdX7_init := by show DT cX7_init tX7_init; unfold DT tX7_init; decide +kernel
def tX7_at : IT := [[(0, .iload_n 1, 1), (1, .ifCond .lt 21, 3), (4, .iload_n 1, 1), (5, .aload_n 0, 1), (6, .getfield 11, 3), (9, .arraylength, 1), (10, .if_icmp .ge 12, 3), (13, .aload_n 0, 1), (14, .getfield 11, 3), (17, .iload_n 1, 1), (18, .aaload, 1), (19, .goto 7, 3), (22, .aload_n 0, 1), (23, .getfield 18, 3), (26, .astore_n 2, 1), (27, .aload_n 2, 1), (28, .ifnonnull 10, 3), (31, .aload_n 0, 1), (32, .getfield 18, 3), (35, .goto 4, 3), (38, .aload_n 2, 1), (39, .areturn, 1)]]
abbrev mdX7_at : MD := (RX7, yX7_at, cX7_at, 3, (some (.object "Newsmint$Loan")), tX7_at)
set_option maxRecDepth 100000 in
theorem dtX7_at : MDok mdX7_at := by show DT cX7_at tX7_at; unfold DT tX7_at; decide +kernel
def tX7_isFull : IT := [[(0, .aload_n 0, 1), (1, .getfield 22, 3), (4, .bipush 20, 2), (6, .if_icmp .lt 7, 3), (9, .iconst 1, 1), (10, .goto 4, 3), (13, .iconst 0, 1), (14, .ireturn, 1)]]
abbrev mdX7_isFull : MD := (RX7, yX7_isFull, cX7_isFull, 1, (some .boolean), tX7_isFull)
set_option maxRecDepth 100000 in
theorem dtX7_isFull : MDok mdX7_isFull := by show DT cX7_isFull tX7_isFull; unfold DT tX7_isFull; decide +kernel
def tX7_give : IT := [[(0, .aload_n 0, 1), (1, .getfield 22, 3), (4, .istore 5, 2), (6, .aload_n 0, 1), (7, .dup, 1), (8, .getfield 22, 3), (11, .iconst 1, 1), (12, .iadd, 1), (13, .putfield 22, 3), (16, .aload_n 0, 1), (17, .iload 5, 2), (19, .invokevirtual 26, 3), (22, .astore 6, 2), (24, .aload 6, 2), (26, .iload_n 2, 1), (27, .putfield 30, 3), (30, .aload 6, 2), (32, .iload_n 1, 1), (33, .putfield 33, 3), (36, .aload 6, 2), (38, .iload_n 3, 1), (39, .putfield 36, 3), (42, .aload 6, 2), (44, .iload 4, 2), (46, .putfield 39, 3), (49, .iload 5, 2), (51, .ireturn, 1)]]
abbrev mdX7_give : MD := (RX7, yX7_give, cX7_give, 7, (some .int), tX7_give)
set_option maxRecDepth 100000 in
theorem dtX7_give : MDok mdX7_give := by show DT cX7_give tX7_give; unfold DT tX7_give; decide +kernel
def tX7_leftOf : IT := [[(0, .iconst 0, 1), (1, .istore_n 2, 1), (2, .iconst 0, 1), (3, .istore_n 3, 1), (4, .iload_n 3, 1), (5, .aload_n 0, 1), (6, .getfield 22, 3), (9, .if_icmp .ge 37, 3), (12, .aload_n 0, 1), (13, .iload_n 3, 1), (14, .invokevirtual 26, 3), (17, .astore 4, 2), (19, .iload_n 2, 1), (20, .aload 4, 2), (22, .getfield 33, 3), (25, .iload_n 1, 1), (26, .if_icmp .ne 11, 3), (29, .aload 4, 2), (31, .getfield 36, 3), (34, .goto 4, 3), (37, .iconst 0, 1), (38, .iadd, 1), (39, .istore_n 2, 1), (40, .iinc 3 1, 3), (43, .goto (-39), 3), (46, .iload_n 2, 1), (47, .ireturn, 1)]]
abbrev mdX7_leftOf : MD := (RX7, yX7_leftOf, cX7_leftOf, 5, (some .int), tX7_leftOf)
set_option maxRecDepth 100000 in
theorem dtX7_leftOf : MDok mdX7_leftOf := by show DT cX7_leftOf tX7_leftOf; unfold DT tX7_leftOf; decide +kernel
def tX7_moveToCentral : IT := [[(0, .iconst 0, 1), (1, .istore_n 2, 1), (2, .iload_n 2, 1), (3, .aload_n 0, 1), (4, .getfield 22, 3), (7, .if_icmp .ge 28, 3), (10, .aload_n 0, 1), (11, .iload_n 2, 1), (12, .invokevirtual 26, 3), (15, .astore_n 3, 1), (16, .aload_n 3, 1), (17, .getfield 33, 3), (20, .iload_n 1, 1), (21, .if_icmp .ne 8, 3), (24, .aload_n 3, 1), (25, .iconst 4, 1), (26, .putfield 33, 3), (29, .iinc 2 1, 3), (32, .goto (-30), 3), (35, .return_, 1)]]
abbrev mdX7_moveToCentral : MD := (RX7, yX7_moveToCentral, cX7_moveToCentral, 4, none, tX7_moveToCentral)
set_option maxRecDepth 100000 in
theorem dtX7_moveToCentral : MDok mdX7_moveToCentral := by show DT cX7_moveToCentral tX7_moveToCentral; unfold DT tX7_moveToCentral; decide +kernel
def tX8_init : IT := [[(0, .aload_n 0, 1), (1, .invokespecial 3, 3), (4, .aload_n 0, 1), (5, .sipush 400, 3), (8, .newarray .int, 2), (10, .putfield 11, 3), (13, .aload_n 0, 1), (14, .sipush 400, 3), (17, .newarray .int, 2), (19, .putfield 15, 3), (22, .aload_n 0, 1), (23, .bipush 17, 2), (25, .newarray .int, 2), (27, .putfield 18, 3), (30, .return_, 1)]]
abbrev mdX8_init : MD := (RX8, yX8_init, cX8_init, 1, none, tX8_init)
set_option maxRecDepth 100000 in
theorem dtX8_init : MDok mdX8_init := by show DT cX8_init tX8_init; unfold DT tX8_init; decide +kernel
def tX8_note : IT := [[(0, .aload_n 0, 1), (1, .getfield 21, 3), (4, .sipush 400, 3), (7, .if_icmp .lt 77, 3), (10, .iconst 0, 1), (11, .istore_n 3, 1), (12, .iload_n 3, 1), (13, .aload_n 0, 1), (14, .getfield 11, 3), (17, .arraylength, 1), (18, .if_icmp .ge 61, 3), (21, .iload_n 3, 1), (22, .aload_n 0, 1), (23, .getfield 15, 3), (26, .arraylength, 1), (27, .if_icmp .ge 52, 3), (30, .aload_n 0, 1), (31, .getfield 11, 3), (34, .iload_n 3, 1), (35, .iaload, 1), (36, .ifCond .lt 37, 3), (39, .aload_n 0, 1), (40, .getfield 11, 3), (43, .iload_n 3, 1), (44, .iaload, 1), (45, .aload_n 0, 1), (46, .getfield 18, 3), (49, .arraylength, 1), (50, .if_icmp .ge 23, 3), (53, .aload_n 0, 1), (54, .getfield 18, 3), (57, .aload_n 0, 1), (58, .getfield 11, 3), (61, .iload_n 3, 1), (62, .iaload, 1), (63, .dup2, 1), (64, .iaload, 1), (65, .aload_n 0, 1), (66, .getfield 15, 3), (69, .iload_n 3, 1), (70, .iaload, 1), (71, .iadd, 1), (72, .iastore, 1), (73, .iinc 3 1, 3), (76, .goto (-64), 3), (79, .aload_n 0, 1), (80, .iconst 0, 1), (81, .putfield 21, 3)], [(84, .aload_n 0, 1), (85, .getfield 21, 3), (88, .ifCond .lt 57, 3), (91, .aload_n 0, 1), (92, .getfield 21, 3), (95, .aload_n 0, 1), (96, .getfield 11, 3), (99, .arraylength, 1), (100, .if_icmp .ge 45, 3), (103, .aload_n 0, 1), (104, .getfield 21, 3), (107, .aload_n 0, 1), (108, .getfield 15, 3), (111, .arraylength, 1), (112, .if_icmp .ge 33, 3), (115, .aload_n 0, 1), (116, .getfield 11, 3), (119, .aload_n 0, 1), (120, .getfield 21, 3), (123, .iload_n 1, 1), (124, .iastore, 1), (125, .aload_n 0, 1), (126, .getfield 15, 3), (129, .aload_n 0, 1), (130, .getfield 21, 3), (133, .iload_n 2, 1), (134, .iastore, 1), (135, .aload_n 0, 1), (136, .dup, 1), (137, .getfield 21, 3), (140, .iconst 1, 1), (141, .iadd, 1), (142, .putfield 21, 3), (145, .return_, 1)]]
abbrev mdX8_note : MD := (RX8, yX8_note, cX8_note, 4, none, tX8_note)
set_option maxRecDepth 100000 in
theorem dtX8_note : MDok mdX8_note := by show DT cX8_note tX8_note; unfold DT tX8_note; decide +kernel
def tX8_sumOf : IT := [[(0, .iload_n 1, 1), (1, .ifCond .lt 21, 3), (4, .iload_n 1, 1), (5, .aload_n 0, 1), (6, .getfield 18, 3), (9, .arraylength, 1), (10, .if_icmp .ge 12, 3), (13, .aload_n 0, 1), (14, .getfield 18, 3), (17, .iload_n 1, 1), (18, .iaload, 1), (19, .goto 4, 3), (22, .iconst 0, 1), (23, .istore_n 2, 1), (24, .iconst 0, 1), (25, .istore_n 3, 1), (26, .iload_n 3, 1), (27, .aload_n 0, 1), (28, .getfield 21, 3), (31, .if_icmp .ge 46, 3), (34, .iload_n 3, 1), (35, .aload_n 0, 1), (36, .getfield 11, 3), (39, .arraylength, 1), (40, .if_icmp .ge 37, 3), (43, .iload_n 3, 1), (44, .aload_n 0, 1), (45, .getfield 15, 3), (48, .arraylength, 1), (49, .if_icmp .ge 28, 3), (52, .aload_n 0, 1), (53, .getfield 11, 3), (56, .iload_n 3, 1), (57, .iaload, 1), (58, .iload_n 1, 1), (59, .if_icmp .ne 12, 3), (62, .iload_n 2, 1), (63, .aload_n 0, 1), (64, .getfield 15, 3), (67, .iload_n 3, 1), (68, .iaload, 1), (69, .iadd, 1), (70, .istore_n 2, 1), (71, .iinc 3 1, 3), (74, .goto (-48), 3), (77, .iload_n 2, 1), (78, .ireturn, 1)]]
abbrev mdX8_sumOf : MD := (RX8, yX8_sumOf, cX8_sumOf, 4, (some .int), tX8_sumOf)
set_option maxRecDepth 100000 in
theorem dtX8_sumOf : MDok mdX8_sumOf := by show DT cX8_sumOf tX8_sumOf; unfold DT tX8_sumOf; decide +kernel
def tX9_init : IT := [[(0, .aload_n 0, 1), (1, .invokespecial 1, 3), (4, .return_, 1)]]
abbrev mdX9_init : MD := (RX9, yX9_init, cX9_init, 1, none, tX9_init)
set_option maxRecDepth 100000 in
theorem dtX9_init : MDok mdX9_init := by show DT cX9_init tX9_init; unfold DT tX9_init; decide +kernel
def tX9_netFor : IT := [[(0, .aload_n 0, 1), (1, .getfield 7, 3), (4, .iload_n 1, 1), (5, .if_icmp .ne 10, 3), (8, .aload_n 0, 1), (9, .getfield 13, 3), (12, .goto 4, 3), (15, .iconst 0, 1), (16, .aload_n 0, 1), (17, .getfield 16, 3), (20, .iload_n 1, 1), (21, .if_icmp .ne 10, 3), (24, .aload_n 0, 1), (25, .getfield 13, 3), (28, .goto 4, 3), (31, .iconst 0, 1), (32, .isub, 1), (33, .ireturn, 1)]]
abbrev mdX9_netFor : MD := (RX9, yX9_netFor, cX9_netFor, 2, (some .int), tX9_netFor)
set_option maxRecDepth 100000 in
theorem dtX9_netFor : MDok mdX9_netFor := by show DT cX9_netFor tX9_netFor; unfold DT tX9_netFor; decide +kernel
def tX10_init : IT := [[(0, .aload_n 0, 1), (1, .invokespecial 3, 3), (4, .aload_n 0, 1), (5, .sipush 200, 3), (8, .anewarray 9, 3), (11, .putfield 11, 3), (14, .aload_n 0, 1), (15, .new 9, 3), (18, .dup, 1), (19, .invokespecial 17, 3), (22, .putfield 18, 3), (25, .iconst 0, 1), (26, .istore_n 1, 1), (27, .iload_n 1, 1), (28, .aload_n 0, 1), (29, .getfield 11, 3), (32, .arraylength, 1), (33, .if_icmp .ge 22, 3), (36, .aload_n 0, 1), (37, .getfield 11, 3), (40, .iload_n 1, 1), (41, .new 9, 3), (44, .dup, 1), (45, .invokespecial 17, 3), (48, .aastore, 1), (49, .iinc 1 1, 3), (52, .goto (-25), 3), (55, .return_, 1)]]
abbrev mdX10_init : MD := (RX10, yX10_init, cX10_init, 2, none, tX10_init)
set_option maxRecDepth 100000 in
theorem dtX10_init : MDok mdX10_init := by show DT cX10_init tX10_init; unfold DT tX10_init; decide +kernel
def tX10_at : IT := [[(0, .iload_n 1, 1), (1, .ifCond .lt 21, 3), (4, .iload_n 1, 1), (5, .aload_n 0, 1), (6, .getfield 11, 3), (9, .arraylength, 1), (10, .if_icmp .ge 12, 3), (13, .aload_n 0, 1), (14, .getfield 11, 3), (17, .iload_n 1, 1), (18, .aaload, 1), (19, .goto 7, 3), (22, .aload_n 0, 1), (23, .getfield 18, 3), (26, .astore_n 2, 1), (27, .aload_n 2, 1), (28, .ifnonnull 10, 3), (31, .aload_n 0, 1), (32, .getfield 18, 3), (35, .goto 4, 3), (38, .aload_n 2, 1), (39, .areturn, 1)]]
abbrev mdX10_at : MD := (RX10, yX10_at, cX10_at, 3, (some (.object "Newsmint$Payment")), tX10_at)
set_option maxRecDepth 100000 in
theorem dtX10_at : MDok mdX10_at := by show DT cX10_at tX10_at; unfold DT tX10_at; decide +kernel
def tX10_isFull : IT := [[(0, .aload_n 0, 1), (1, .getfield 22, 3), (4, .sipush 200, 3), (7, .if_icmp .lt 7, 3), (10, .iconst 1, 1), (11, .goto 4, 3), (14, .iconst 0, 1), (15, .ireturn, 1)]]
abbrev mdX10_isFull : MD := (RX10, yX10_isFull, cX10_isFull, 1, (some .boolean), tX10_isFull)
set_option maxRecDepth 100000 in
theorem dtX10_isFull : MDok mdX10_isFull := by show DT cX10_isFull tX10_isFull; unfold DT tX10_isFull; decide +kernel
def tX10_tell : IT := [[(0, .aload_n 0, 1), (1, .getfield 22, 3), (4, .istore 7, 2), (6, .aload_n 0, 1), (7, .dup, 1), (8, .getfield 22, 3), (11, .iconst 1, 1), (12, .iadd, 1), (13, .putfield 22, 3), (16, .aload_n 0, 1), (17, .iload 7, 2), (19, .invokevirtual 26, 3), (22, .astore 8, 2), (24, .aload 8, 2), (26, .iload_n 2, 1), (27, .putfield 30, 3), (30, .aload 8, 2), (32, .iload_n 3, 1), (33, .putfield 33, 3), (36, .aload 8, 2), (38, .aload_n 1, 1), (39, .iload_n 2, 1), (40, .invokevirtual 36, 3), (43, .getfield 42, 3), (46, .putfield 47, 3), (49, .aload 8, 2), (51, .aload_n 1, 1), (52, .iload_n 3, 1), (53, .invokevirtual 36, 3), (56, .getfield 42, 3), (59, .putfield 50, 3), (62, .aload 8, 2), (64, .iload 4, 2), (66, .putfield 53, 3), (69, .aload 8, 2), (71, .iload 5, 2), (73, .putfield 56, 3), (76, .aload 8, 2), (78, .iconst 0, 1), (79, .putfield 59, 3), (82, .aload_n 1, 1), (83, .iload_n 2, 1), (84, .invokevirtual 36, 3), (87, .dup, 1), (88, .getfield 62, 3), (91, .iload 4, 2), (93, .iadd, 1), (94, .putfield 62, 3)], [(97, .aload 8, 2), (99, .getfield 47, 3), (102, .aload 8, 2), (104, .getfield 50, 3), (107, .if_icmp .ne 12, 3), (110, .aload_n 0, 1), (111, .aload_n 1, 1), (112, .aload 8, 2), (114, .iload 6, 2), (116, .invokevirtual 65, 3), (119, .iload 7, 2), (121, .ireturn, 1)]]
abbrev mdX10_tell : MD := (RX10, yX10_tell, cX10_tell, 9, (some .int), tX10_tell)
set_option maxRecDepth 100000 in
theorem dtX10_tell : MDok mdX10_tell := by show DT cX10_tell tX10_tell; unfold DT tX10_tell; decide +kernel
def tX10_finish : IT := [[(0, .aload_n 1, 1), (1, .aload_n 2, 1), (2, .getfield 30, 3), (5, .invokevirtual 36, 3), (8, .dup, 1), (9, .getfield 62, 3), (12, .aload_n 2, 1), (13, .getfield 53, 3), (16, .isub, 1), (17, .putfield 62, 3), (20, .aload_n 1, 1), (21, .aload_n 2, 1), (22, .getfield 30, 3), (25, .aload_n 2, 1), (26, .getfield 53, 3), (29, .ineg, 1), (30, .invokevirtual 69, 3), (33, .aload_n 1, 1), (34, .aload_n 2, 1), (35, .getfield 33, 3), (38, .aload_n 2, 1), (39, .getfield 53, 3), (42, .invokevirtual 69, 3), (45, .aload_n 2, 1), (46, .iconst 1, 1), (47, .putfield 59, 3), (50, .aload_n 2, 1), (51, .iload_n 3, 1), (52, .putfield 73, 3), (55, .return_, 1)]]
abbrev mdX10_finish : MD := (RX10, yX10_finish, cX10_finish, 4, none, tX10_finish)
set_option maxRecDepth 100000 in
theorem dtX10_finish : MDok mdX10_finish := by show DT cX10_finish tX10_finish; unfold DT tX10_finish; decide +kernel
def tX10_clearAll : IT := [[(0, .aload_n 0, 1), (1, .aload_n 1, 1), (2, .invokevirtual 76, 3), (5, .iconst 0, 1), (6, .istore_n 3, 1), (7, .iload_n 3, 1), (8, .aload_n 0, 1), (9, .getfield 22, 3), (12, .if_icmp .ge 31, 3), (15, .aload_n 1, 1), (16, .invokevirtual 80, 3), (19, .istore 4, 2), (21, .iload 4, 2), (23, .iconst (-1), 1), (24, .if_icmp .ne 6, 3), (27, .goto 16, 3), (30, .aload_n 0, 1), (31, .aload_n 1, 1), (32, .iload 4, 2), (34, .invokevirtual 84, 3), (37, .iinc 3 1, 3), (40, .goto (-33), 3), (43, .aload_n 0, 1), (44, .aload_n 1, 1), (45, .iload_n 2, 1), (46, .invokevirtual 88, 3), (49, .ireturn, 1)]]
abbrev mdX10_clearAll : MD := (RX10, yX10_clearAll, cX10_clearAll, 5, (some .int), tX10_clearAll)
set_option maxRecDepth 100000 in
theorem dtX10_clearAll : MDok mdX10_clearAll := by show DT cX10_clearAll tX10_clearAll; unfold DT tX10_clearAll; decide +kernel
def tX10_chooseAllThatWait : IT := [[(0, .iconst 0, 1), (1, .istore_n 2, 1), (2, .iload_n 2, 1), (3, .iconst 4, 1), (4, .if_icmp .ge 18, 3), (7, .aload_n 1, 1), (8, .iload_n 2, 1), (9, .invokevirtual 92, 3), (12, .iconst 0, 1), (13, .putfield 95, 3), (16, .iinc 2 1, 3), (19, .goto (-17), 3), (22, .iconst 0, 1), (23, .istore_n 2, 1), (24, .iload_n 2, 1), (25, .aload_n 0, 1), (26, .getfield 22, 3), (29, .if_icmp .ge 78, 3), (32, .aload_n 0, 1), (33, .iload_n 2, 1), (34, .invokevirtual 26, 3), (37, .astore_n 3, 1), (38, .aload_n 3, 1), (39, .aload_n 3, 1), (40, .getfield 59, 3), (43, .ifCond .ne 7, 3), (46, .iconst 1, 1), (47, .goto 4, 3), (50, .iconst 0, 1), (51, .putfield 100, 3), (54, .aload_n 3, 1), (55, .getfield 100, 3), (58, .ifCond .eq 43, 3), (61, .aload_n 1, 1), (62, .aload_n 3, 1), (63, .getfield 47, 3), (66, .invokevirtual 92, 3), (69, .dup, 1), (70, .getfield 95, 3), (73, .aload_n 3, 1), (74, .getfield 53, 3), (77, .isub, 1), (78, .putfield 95, 3), (81, .aload_n 1, 1), (82, .aload_n 3, 1), (83, .getfield 50, 3), (86, .invokevirtual 92, 3), (89, .dup, 1)], [(90, .getfield 95, 3), (93, .aload_n 3, 1), (94, .getfield 53, 3), (97, .iadd, 1), (98, .putfield 95, 3), (101, .iinc 2 1, 3), (104, .goto (-80), 3), (107, .return_, 1)]]
abbrev mdX10_chooseAllThatWait : MD := (RX10, yX10_chooseAllThatWait, cX10_chooseAllThatWait, 4, none, tX10_chooseAllThatWait)
set_option maxRecDepth 100000 in
theorem dtX10_chooseAllThatWait : MDok mdX10_chooseAllThatWait := by show DT cX10_chooseAllThatWait tX10_chooseAllThatWait; unfold DT tX10_chooseAllThatWait; decide +kernel
def tX10_leaveOutLatestOf : IT := [[(0, .aload_n 0, 1), (1, .getfield 22, 3), (4, .iconst 1, 1), (5, .isub, 1), (6, .istore_n 3, 1), (7, .iload_n 3, 1), (8, .ifCond .lt 84, 3), (11, .aload_n 0, 1), (12, .iload_n 3, 1), (13, .invokevirtual 26, 3), (16, .astore 4, 2), (18, .aload 4, 2), (20, .getfield 100, 3), (23, .ifCond .eq 63, 3), (26, .aload 4, 2), (28, .getfield 47, 3), (31, .iload_n 2, 1), (32, .if_icmp .ne 54, 3), (35, .aload 4, 2), (37, .iconst 0, 1), (38, .putfield 100, 3), (41, .aload_n 1, 1), (42, .aload 4, 2), (44, .getfield 47, 3), (47, .invokevirtual 92, 3), (50, .dup, 1), (51, .getfield 95, 3), (54, .aload 4, 2), (56, .getfield 53, 3), (59, .iadd, 1), (60, .putfield 95, 3), (63, .aload_n 1, 1), (64, .aload 4, 2), (66, .getfield 50, 3), (69, .invokevirtual 92, 3), (72, .dup, 1), (73, .getfield 95, 3), (76, .aload 4, 2), (78, .getfield 53, 3), (81, .isub, 1), (82, .putfield 95, 3), (85, .return_, 1), (86, .iinc 3 (-1), 3), (89, .goto (-82), 3), (92, .return_, 1)]]
abbrev mdX10_leaveOutLatestOf : MD := (RX10, yX10_leaveOutLatestOf, cX10_leaveOutLatestOf, 5, none, tX10_leaveOutLatestOf)
set_option maxRecDepth 100000 in
theorem dtX10_leaveOutLatestOf : MDok mdX10_leaveOutLatestOf := by show DT cX10_leaveOutLatestOf tX10_leaveOutLatestOf; unfold DT tX10_leaveOutLatestOf; decide +kernel
def tX10_finishChosen : IT := [[(0, .iconst 0, 1), (1, .istore_n 3, 1), (2, .iload_n 3, 1), (3, .iconst 4, 1), (4, .if_icmp .ge 31, 3), (7, .aload_n 1, 1), (8, .iload_n 3, 1), (9, .invokevirtual 92, 3), (12, .astore 4, 2), (14, .aload 4, 2), (16, .dup, 1), (17, .getfield 104, 3), (20, .aload 4, 2), (22, .getfield 95, 3), (25, .iadd, 1), (26, .putfield 104, 3), (29, .iinc 3 1, 3), (32, .goto (-30), 3), (35, .iconst 0, 1), (36, .istore_n 3, 1), (37, .iconst 0, 1), (38, .istore 4, 2), (40, .iload 4, 2), (42, .aload_n 0, 1), (43, .getfield 22, 3), (46, .if_icmp .ge 36, 3), (49, .aload_n 0, 1), (50, .iload 4, 2), (52, .invokevirtual 26, 3), (55, .astore 5, 2), (57, .aload 5, 2), (59, .getfield 100, 3), (62, .ifCond .eq 14, 3), (65, .aload_n 0, 1), (66, .aload_n 1, 1), (67, .aload 5, 2), (69, .iload_n 2, 1), (70, .invokevirtual 65, 3), (73, .iinc 3 1, 3), (76, .iinc 4 1, 3), (79, .goto (-39), 3), (82, .iload_n 3, 1), (83, .ireturn, 1)]]
abbrev mdX10_finishChosen : MD := (RX10, yX10_finishChosen, cX10_finishChosen, 6, (some .int), tX10_finishChosen)
set_option maxRecDepth 100000 in
theorem dtX10_finishChosen : MDok mdX10_finishChosen := by show DT cX10_finishChosen tX10_finishChosen; unfold DT tX10_finishChosen; decide +kernel
def tX10_takeBack : IT := [[(0, .iconst 0, 1), (1, .istore_n 3, 1), (2, .iload_n 3, 1), (3, .aload_n 0, 1), (4, .getfield 22, 3), (7, .if_icmp .ge 70, 3), (10, .aload_n 0, 1), (11, .iload_n 3, 1), (12, .invokevirtual 26, 3), (15, .astore 4, 2), (17, .aload 4, 2), (19, .getfield 59, 3), (22, .ifCond .ne 49, 3), (25, .aload 4, 2), (27, .getfield 47, 3), (30, .iload_n 2, 1), (31, .if_icmp .eq 12, 3), (34, .aload 4, 2), (36, .getfield 50, 3), (39, .iload_n 2, 1), (40, .if_icmp .ne 31, 3), (43, .aload_n 1, 1), (44, .aload 4, 2), (46, .getfield 30, 3), (49, .invokevirtual 36, 3), (52, .dup, 1), (53, .getfield 62, 3), (56, .aload 4, 2), (58, .getfield 53, 3), (61, .isub, 1), (62, .putfield 62, 3), (65, .aload 4, 2), (67, .iconst 2, 1), (68, .putfield 59, 3), (71, .iinc 3 1, 3), (74, .goto (-72), 3), (77, .return_, 1)]]
abbrev mdX10_takeBack : MD := (RX10, yX10_takeBack, cX10_takeBack, 5, none, tX10_takeBack)
set_option maxRecDepth 100000 in
theorem dtX10_takeBack : MDok mdX10_takeBack := by show DT cX10_takeBack tX10_takeBack; unfold DT tX10_takeBack; decide +kernel
def tX10_oneWaitsTo : IT := [[(0, .iconst 0, 1), (1, .istore_n 2, 1), (2, .iload_n 2, 1), (3, .aload_n 0, 1), (4, .getfield 22, 3), (7, .if_icmp .ge 32, 3), (10, .aload_n 0, 1), (11, .iload_n 2, 1), (12, .invokevirtual 26, 3), (15, .astore_n 3, 1), (16, .aload_n 3, 1), (17, .getfield 59, 3), (20, .ifCond .ne 13, 3), (23, .aload_n 3, 1), (24, .getfield 33, 3), (27, .iload_n 1, 1), (28, .if_icmp .ne 5, 3), (31, .iconst 1, 1), (32, .ireturn, 1), (33, .iinc 2 1, 3), (36, .goto (-34), 3), (39, .iconst 0, 1), (40, .ireturn, 1)]]
abbrev mdX10_oneWaitsTo : MD := (RX10, yX10_oneWaitsTo, cX10_oneWaitsTo, 4, (some .boolean), tX10_oneWaitsTo)
set_option maxRecDepth 100000 in
theorem dtX10_oneWaitsTo : MDok mdX10_oneWaitsTo := by show DT cX10_oneWaitsTo tX10_oneWaitsTo; unfold DT tX10_oneWaitsTo; decide +kernel
def tX10_waitingNet : IT := [[(0, .iconst 0, 1), (1, .istore_n 2, 1), (2, .iconst 0, 1), (3, .istore_n 3, 1), (4, .iload_n 3, 1), (5, .aload_n 0, 1), (6, .getfield 22, 3), (9, .if_icmp .ge 37, 3), (12, .aload_n 0, 1), (13, .iload_n 3, 1), (14, .invokevirtual 26, 3), (17, .astore 4, 2), (19, .iload_n 2, 1), (20, .aload 4, 2), (22, .getfield 59, 3), (25, .ifCond .ne 12, 3), (28, .aload 4, 2), (30, .iload_n 1, 1), (31, .invokevirtual 107, 3), (34, .goto 4, 3), (37, .iconst 0, 1), (38, .iadd, 1), (39, .istore_n 2, 1), (40, .iinc 3 1, 3), (43, .goto (-39), 3), (46, .iload_n 2, 1), (47, .ireturn, 1)]]
abbrev mdX10_waitingNet : MD := (RX10, yX10_waitingNet, cX10_waitingNet, 5, (some .int), tX10_waitingNet)
set_option maxRecDepth 100000 in
theorem dtX10_waitingNet : MDok mdX10_waitingNet := by show DT cX10_waitingNet tX10_waitingNet; unfold DT tX10_waitingNet; decide +kernel
def tX10_goodsBoughtOn : IT := [[(0, .iconst 0, 1), (1, .istore_n 3, 1), (2, .iconst 0, 1), (3, .istore 4, 2), (5, .iload 4, 2), (7, .aload_n 0, 1), (8, .getfield 22, 3), (11, .if_icmp .ge 72, 3), (14, .aload_n 0, 1), (15, .iload 4, 2), (17, .invokevirtual 26, 3), (20, .astore 5, 2), (22, .aload 5, 2), (24, .getfield 59, 3), (27, .iconst 1, 1), (28, .if_icmp .ne 20, 3), (31, .iload_n 2, 1), (32, .ifCond .ne 12, 3), (35, .aload 5, 2), (37, .getfield 73, 3), (40, .iload_n 1, 1), (41, .if_icmp .ne 7, 3), (44, .iconst 1, 1), (45, .goto 4, 3), (48, .iconst 0, 1), (49, .istore 6, 2), (51, .iload_n 3, 1), (52, .iload 6, 2), (54, .ifCond .eq 20, 3), (57, .aload 5, 2), (59, .getfield 56, 3), (62, .iload_n 1, 1), (63, .if_icmp .ne 11, 3), (66, .aload 5, 2), (68, .getfield 53, 3), (71, .goto 4, 3), (74, .iconst 0, 1), (75, .iadd, 1), (76, .istore_n 3, 1), (77, .iinc 4 1, 3), (80, .goto (-75), 3), (83, .iload_n 3, 1), (84, .ireturn, 1)]]
abbrev mdX10_goodsBoughtOn : MD := (RX10, yX10_goodsBoughtOn, cX10_goodsBoughtOn, 7, (some .int), tX10_goodsBoughtOn)
set_option maxRecDepth 100000 in
theorem dtX10_goodsBoughtOn : MDok mdX10_goodsBoughtOn := by show DT cX10_goodsBoughtOn tX10_goodsBoughtOn; unfold DT tX10_goodsBoughtOn; decide +kernel
def tX11_init : IT := [[(0, .aload_n 0, 1), (1, .invokespecial 1, 3), (4, .aload_n 0, 1), (5, .new 7, 3), (8, .dup, 1), (9, .invokespecial 9, 3), (12, .putfield 10, 3), (15, .aload_n 0, 1), (16, .new 16, 3), (19, .dup, 1), (20, .invokespecial 18, 3), (23, .putfield 19, 3), (26, .aload_n 0, 1), (27, .new 23, 3), (30, .dup, 1), (31, .invokespecial 25, 3), (34, .putfield 26, 3), (37, .aload_n 0, 1), (38, .new 30, 3), (41, .dup, 1), (42, .invokespecial 32, 3), (45, .putfield 33, 3), (48, .return_, 1)]]
abbrev mdX11_init : MD := (RX11, yX11_init, cX11_init, 1, none, tX11_init)
set_option maxRecDepth 100000 in
theorem dtX11_init : MDok mdX11_init := by show DT cX11_init tX11_init; unfold DT tX11_init; decide +kernel
def tX11_mint : IT := [[(0, .iload_n 1, 1), (1, .invokestatic 37, 3), (4, .iload_n 2, 1), (5, .iconst 1, 1), (6, .sipush 1000, 3), (9, .invokestatic 41, 3), (12, .aload_n 0, 1), (13, .getfield 10, 3), (16, .iload_n 1, 1), (17, .invokevirtual 45, 3), (20, .astore_n 3, 1), (21, .aload_n 3, 1), (22, .iload_n 2, 1), (23, .iconst 0, 1), (24, .invokevirtual 49, 3), (27, .aload_n 0, 1), (28, .getfield 10, 3), (31, .iload_n 2, 1), (32, .ineg, 1), (33, .invokevirtual 55, 3), (36, .aload_n 3, 1), (37, .getfield 58, 3), (40, .ireturn, 1)]]
abbrev mdX11_mint : MD := (RX11, yX11_mint, cX11_mint, 4, (some .int), tX11_mint)
set_option maxRecDepth 100000 in
theorem dtX11_mint : MDok mdX11_mint := by show DT cX11_mint tX11_mint; unfold DT tX11_mint; decide +kernel
def tX11_forge : IT := [[(0, .iload_n 1, 1), (1, .invokestatic 37, 3), (4, .iload_n 2, 1), (5, .iconst 1, 1), (6, .bipush 100, 2), (8, .invokestatic 41, 3), (11, .aload_n 0, 1), (12, .getfield 10, 3), (15, .iload_n 1, 1), (16, .invokevirtual 45, 3), (19, .astore_n 3, 1), (20, .aload_n 3, 1), (21, .iload_n 2, 1), (22, .iload_n 2, 1), (23, .invokevirtual 49, 3), (26, .aload_n 3, 1), (27, .getfield 58, 3), (30, .ireturn, 1)]]
abbrev mdX11_forge : MD := (RX11, yX11_forge, cX11_forge, 4, (some .int), tX11_forge)
set_option maxRecDepth 100000 in
theorem dtX11_forge : MDok mdX11_forge := by show DT cX11_forge tX11_forge; unfold DT tX11_forge; decide +kernel
def tX11_hand : IT := [[(0, .iload_n 1, 1), (1, .invokestatic 37, 3), (4, .iload_n 2, 1), (5, .invokestatic 37, 3), (8, .iload_n 1, 1), (9, .iload_n 2, 1), (10, .if_icmp .eq 7, 3), (13, .iconst 1, 1), (14, .goto 4, 3), (17, .iconst 0, 1), (18, .invokestatic 62, 3), (21, .iload_n 3, 1), (22, .iconst 1, 1), (23, .sipush 10000, 3), (26, .invokestatic 41, 3), (29, .aload_n 0, 1), (30, .getfield 10, 3), (33, .iload_n 1, 1), (34, .invokevirtual 45, 3), (37, .astore 4, 2), (39, .aload 4, 2), (41, .getfield 58, 3), (44, .iload_n 3, 1), (45, .if_icmp .lt 7, 3), (48, .iconst 1, 1), (49, .goto 4, 3), (52, .iconst 0, 1), (53, .invokestatic 66, 3), (56, .aload 4, 2), (58, .iload_n 3, 1), (59, .invokevirtual 69, 3), (62, .istore 5, 2), (64, .aload 4, 2), (66, .iload_n 3, 1), (67, .ineg, 1), (68, .iload 5, 2), (70, .ineg, 1), (71, .invokevirtual 49, 3), (74, .aload_n 0, 1), (75, .getfield 10, 3), (78, .iload_n 2, 1), (79, .invokevirtual 45, 3), (82, .iload_n 3, 1), (83, .iload 5, 2), (85, .invokevirtual 49, 3), (88, .iload 5, 2), (90, .ireturn, 1)]]
abbrev mdX11_hand : MD := (RX11, yX11_hand, cX11_hand, 6, (some .int), tX11_hand)
set_option maxRecDepth 100000 in
theorem dtX11_hand : MDok mdX11_hand := by show DT cX11_hand tX11_hand; unfold DT tX11_hand; decide +kernel
def tX11_open : IT := [[(0, .iload_n 1, 1), (1, .invokestatic 37, 3), (4, .iload_n 2, 1), (5, .invokestatic 73, 3), (8, .aload_n 0, 1), (9, .getfield 10, 3), (12, .iload_n 1, 1), (13, .invokevirtual 45, 3), (16, .astore_n 3, 1), (17, .aload_n 3, 1), (18, .getfield 76, 3), (21, .iconst (-1), 1), (22, .if_icmp .ne 21, 3), (25, .aload_n 0, 1), (26, .getfield 10, 3), (29, .iload_n 2, 1), (30, .invokevirtual 79, 3), (33, .getfield 82, 3), (36, .ifCond .ne 7, 3), (39, .iconst 1, 1), (40, .goto 4, 3), (43, .iconst 0, 1), (44, .invokestatic 66, 3), (47, .aload_n 3, 1), (48, .iload_n 2, 1), (49, .putfield 76, 3), (52, .aload_n 0, 1), (53, .getfield 10, 3), (56, .iload_n 2, 1), (57, .invokevirtual 88, 3), (60, .ireturn, 1)]]
abbrev mdX11_open : MD := (RX11, yX11_open, cX11_open, 4, (some .int), tX11_open)
set_option maxRecDepth 100000 in
theorem dtX11_open : MDok mdX11_open := by show DT cX11_open tX11_open; unfold DT tX11_open; decide +kernel
def tX11_close : IT := [[(0, .iload_n 1, 1), (1, .invokestatic 37, 3), (4, .aload_n 0, 1), (5, .getfield 10, 3), (8, .iload_n 1, 1), (9, .invokevirtual 45, 3), (12, .astore_n 2, 1), (13, .aload_n 2, 1), (14, .getfield 76, 3), (17, .iconst (-1), 1), (18, .if_icmp .eq 25, 3), (21, .aload_n 2, 1), (22, .getfield 91, 3), (25, .ifCond .ne 18, 3), (28, .aload_n 0, 1), (29, .getfield 19, 3), (32, .iload_n 1, 1), (33, .invokevirtual 94, 3), (36, .ifCond .ne 7, 3), (39, .iconst 1, 1), (40, .goto 4, 3), (43, .iconst 0, 1), (44, .invokestatic 66, 3), (47, .aload_n 2, 1), (48, .getfield 76, 3), (51, .istore_n 3, 1), (52, .aload_n 2, 1), (53, .iconst (-1), 1), (54, .putfield 76, 3), (57, .iload_n 3, 1), (58, .ireturn, 1)]]
abbrev mdX11_close : MD := (RX11, yX11_close, cX11_close, 4, (some .int), tX11_close)
set_option maxRecDepth 100000 in
theorem dtX11_close : MDok mdX11_close := by show DT cX11_close tX11_close; unfold DT tX11_close; decide +kernel
def tX11_bring : IT := [[(0, .iload_n 1, 1), (1, .invokestatic 37, 3), (4, .iload_n 2, 1), (5, .iconst 1, 1), (6, .sipush 10000, 3), (9, .invokestatic 41, 3), (12, .aload_n 0, 1), (13, .getfield 10, 3), (16, .iload_n 1, 1), (17, .invokevirtual 45, 3), (20, .astore_n 3, 1), (21, .aload_n 3, 1), (22, .getfield 76, 3), (25, .iconst (-1), 1), (26, .if_icmp .eq 15, 3), (29, .aload_n 3, 1), (30, .getfield 58, 3), (33, .iload_n 2, 1), (34, .if_icmp .lt 7, 3), (37, .iconst 1, 1), (38, .goto 4, 3), (41, .iconst 0, 1), (42, .invokestatic 66, 3), (45, .aload_n 3, 1), (46, .iload_n 2, 1), (47, .invokevirtual 69, 3), (50, .istore 4, 2), (52, .iload_n 2, 1), (53, .iload 4, 2), (55, .isub, 1), (56, .istore 5, 2), (58, .aload_n 3, 1), (59, .iload_n 2, 1), (60, .ineg, 1), (61, .iload 4, 2), (63, .ineg, 1), (64, .invokevirtual 49, 3), (67, .aload_n 0, 1), (68, .getfield 10, 3), (71, .aload_n 3, 1), (72, .getfield 76, 3), (75, .invokevirtual 79, 3), (78, .dup, 1), (79, .getfield 98, 3), (82, .iload 5, 2), (84, .iadd, 1), (85, .putfield 98, 3), (88, .aload_n 0, 1)], [(89, .getfield 10, 3), (92, .iload_n 1, 1), (93, .iload 5, 2), (95, .invokevirtual 101, 3), (98, .iload 5, 2), (100, .ireturn, 1)]]
abbrev mdX11_bring : MD := (RX11, yX11_bring, cX11_bring, 6, (some .int), tX11_bring)
set_option maxRecDepth 100000 in
theorem dtX11_bring : MDok mdX11_bring := by show DT cX11_bring tX11_bring; unfold DT tX11_bring; decide +kernel
def tX11_draw : IT := [[(0, .iload_n 1, 1), (1, .invokestatic 37, 3), (4, .iload_n 2, 1), (5, .iconst 1, 1), (6, .sipush 10000, 3), (9, .invokestatic 41, 3), (12, .aload_n 0, 1), (13, .getfield 10, 3), (16, .iload_n 1, 1), (17, .invokevirtual 45, 3), (20, .astore_n 3, 1), (21, .aload_n 3, 1), (22, .getfield 76, 3), (25, .istore 4, 2), (27, .iload 4, 2), (29, .iconst (-1), 1), (30, .if_icmp .eq 15, 3), (33, .aload_n 3, 1), (34, .invokevirtual 104, 3), (37, .iload_n 2, 1), (38, .if_icmp .lt 7, 3), (41, .iconst 1, 1), (42, .goto 4, 3), (45, .iconst 0, 1), (46, .invokestatic 66, 3), (49, .aload_n 0, 1), (50, .iload_n 1, 1), (51, .iload_n 2, 1), (52, .invokevirtual 108, 3), (55, .istore 5, 2), (57, .iload 5, 2), (59, .iload_n 2, 1), (60, .if_icmp .ge 10, 3), (63, .aload_n 0, 1), (64, .iload 4, 2), (66, .invokevirtual 112, 3), (69, .pop, 1), (70, .iload 5, 2), (72, .ireturn, 1)]]
abbrev mdX11_draw : MD := (RX11, yX11_draw, cX11_draw, 6, (some .int), tX11_draw)
set_option maxRecDepth 100000 in
theorem dtX11_draw : MDok mdX11_draw := by show DT cX11_draw tX11_draw; unfold DT tX11_draw; decide +kernel
def tX11_pay : IT := [[(0, .iload_n 1, 1), (1, .invokestatic 37, 3), (4, .iload_n 2, 1), (5, .invokestatic 37, 3), (8, .iload_n 1, 1), (9, .iload_n 2, 1), (10, .if_icmp .eq 7, 3), (13, .iconst 1, 1), (14, .goto 4, 3), (17, .iconst 0, 1), (18, .invokestatic 62, 3), (21, .iload_n 3, 1), (22, .iconst 1, 1), (23, .sipush 10000, 3), (26, .invokestatic 41, 3), (29, .aload_n 0, 1), (30, .iload_n 1, 1), (31, .iload_n 2, 1), (32, .iload_n 3, 1), (33, .invokevirtual 115, 3), (36, .invokestatic 66, 3), (39, .aload_n 0, 1), (40, .getfield 19, 3), (43, .aload_n 0, 1), (44, .getfield 10, 3), (47, .iload_n 1, 1), (48, .iload_n 2, 1), (49, .iload_n 3, 1), (50, .iconst (-1), 1), (51, .aload_n 0, 1), (52, .getfield 119, 3), (55, .invokevirtual 122, 3), (58, .ireturn, 1)]]
abbrev mdX11_pay : MD := (RX11, yX11_pay, cX11_pay, 4, (some .int), tX11_pay)
set_option maxRecDepth 100000 in
theorem dtX11_pay : MDok mdX11_pay := by show DT cX11_pay tX11_pay; unfold DT tX11_pay; decide +kernel
def tX11_clear : IT := [[(0, .aload_n 0, 1), (1, .getfield 19, 3), (4, .aload_n 0, 1), (5, .getfield 10, 3), (8, .aload_n 0, 1), (9, .getfield 119, 3), (12, .invokevirtual 126, 3), (15, .ireturn, 1)]]
abbrev mdX11_clear : MD := (RX11, yX11_clear, cX11_clear, 1, (some .int), tX11_clear)
set_option maxRecDepth 100000 in
theorem dtX11_clear : MDok mdX11_clear := by show DT cX11_clear tX11_clear; unfold DT tX11_clear; decide +kernel
def tX11_limit : IT := [[(0, .iload_n 1, 1), (1, .invokestatic 73, 3), (4, .iload_n 2, 1), (5, .iconst 0, 1), (6, .sipush 10000, 3), (9, .invokestatic 41, 3), (12, .aload_n 0, 1), (13, .getfield 10, 3), (16, .iload_n 1, 1), (17, .invokevirtual 79, 3), (20, .astore_n 3, 1), (21, .aload_n 3, 1), (22, .getfield 130, 3), (25, .istore 4, 2), (27, .aload_n 3, 1), (28, .iload_n 2, 1), (29, .putfield 130, 3), (32, .iload 4, 2), (34, .ireturn, 1)]]
abbrev mdX11_limit : MD := (RX11, yX11_limit, cX11_limit, 5, (some .int), tX11_limit)
set_option maxRecDepth 100000 in
theorem dtX11_limit : MDok mdX11_limit := by show DT cX11_limit tX11_limit; unfold DT tX11_limit; decide +kernel
def tX11_endow : IT := [[(0, .iload_n 1, 1), (1, .invokestatic 73, 3), (4, .iload_n 2, 1), (5, .iconst 1, 1), (6, .sipush 10000, 3), (9, .invokestatic 41, 3), (12, .aload_n 0, 1), (13, .getfield 10, 3), (16, .iload_n 1, 1), (17, .invokevirtual 79, 3), (20, .astore_n 3, 1), (21, .aload_n 3, 1), (22, .getfield 82, 3), (25, .ifCond .ne 7, 3), (28, .iconst 1, 1), (29, .goto 4, 3), (32, .iconst 0, 1), (33, .invokestatic 66, 3), (36, .aload_n 3, 1), (37, .dup, 1), (38, .getfield 133, 3), (41, .iload_n 2, 1), (42, .iadd, 1), (43, .putfield 133, 3), (46, .aload_n 0, 1), (47, .getfield 10, 3), (50, .iload_n 2, 1), (51, .ineg, 1), (52, .invokevirtual 55, 3), (55, .aload_n 3, 1), (56, .getfield 133, 3), (59, .ireturn, 1)]]
abbrev mdX11_endow : MD := (RX11, yX11_endow, cX11_endow, 4, (some .int), tX11_endow)
set_option maxRecDepth 100000 in
theorem dtX11_endow : MDok mdX11_endow := by show DT cX11_endow tX11_endow; unfold DT tX11_endow; decide +kernel
def tX11_lend : IT := [[(0, .iload_n 1, 1), (1, .invokestatic 73, 3), (4, .iload_n 2, 1), (5, .invokestatic 37, 3), (8, .iload_n 3, 1), (9, .iconst 1, 1), (10, .sipush 10000, 3), (13, .invokestatic 41, 3), (16, .iload 4, 2), (18, .iconst 0, 1), (19, .bipush 100, 2), (21, .invokestatic 41, 3), (24, .aload_n 0, 1), (25, .getfield 10, 3), (28, .iload_n 2, 1), (29, .invokevirtual 45, 3), (32, .getfield 76, 3), (35, .iload_n 1, 1), (36, .if_icmp .ne 17, 3), (39, .aload_n 0, 1), (40, .getfield 26, 3), (43, .invokevirtual 136, 3), (46, .ifCond .ne 7, 3), (49, .iconst 1, 1), (50, .goto 4, 3), (53, .iconst 0, 1), (54, .invokestatic 66, 3), (57, .aload_n 0, 1), (58, .getfield 26, 3), (61, .iload_n 1, 1), (62, .invokevirtual 140, 3), (65, .iload_n 3, 1), (66, .iadd, 1), (67, .istore 5, 2), (69, .aload_n 0, 1), (70, .iload_n 1, 1), (71, .invokevirtual 143, 3), (74, .iload 5, 2), (76, .aload_n 0, 1), (77, .getfield 10, 3), (80, .getfield 146, 3), (83, .getfield 150, 3), (86, .bipush 100, 2), (88, .invokestatic 155, 3), (91, .if_icmp .lt 7, 3), (94, .iconst 1, 1), (95, .goto 4, 3), (98, .iconst 0, 1)], [(99, .invokestatic 66, 3), (102, .aload_n 0, 1), (103, .getfield 10, 3), (106, .iload_n 2, 1), (107, .iload_n 3, 1), (108, .invokevirtual 101, 3), (111, .aload_n 0, 1), (112, .getfield 26, 3), (115, .iload_n 1, 1), (116, .iload_n 2, 1), (117, .iload_n 3, 1), (118, .iload 4, 2), (120, .invokevirtual 159, 3), (123, .ireturn, 1)]]
abbrev mdX11_lend : MD := (RX11, yX11_lend, cX11_lend, 6, (some .int), tX11_lend)
set_option maxRecDepth 100000 in
theorem dtX11_lend : MDok mdX11_lend := by show DT cX11_lend tX11_lend; unfold DT tX11_lend; decide +kernel
def tX11_payBack : IT := [[(0, .aload_n 0, 1), (1, .iload_n 1, 1), (2, .invokevirtual 163, 3), (5, .iload_n 2, 1), (6, .iconst 1, 1), (7, .sipush 10000, 3), (10, .invokestatic 41, 3), (13, .aload_n 0, 1), (14, .getfield 26, 3), (17, .iload_n 1, 1), (18, .invokevirtual 166, 3), (21, .astore_n 3, 1), (22, .aload_n 3, 1), (23, .getfield 170, 3), (26, .iload_n 2, 1), (27, .if_icmp .lt 19, 3), (30, .aload_n 0, 1), (31, .getfield 10, 3), (34, .aload_n 3, 1), (35, .iload_n 2, 1), (36, .invokevirtual 175, 3), (39, .ifCond .eq 7, 3), (42, .iconst 1, 1), (43, .goto 4, 3), (46, .iconst 0, 1), (47, .invokestatic 66, 3), (50, .aload_n 0, 1), (51, .getfield 10, 3), (54, .aload_n 3, 1), (55, .iload_n 2, 1), (56, .invokevirtual 179, 3), (59, .aload_n 3, 1), (60, .dup, 1), (61, .getfield 170, 3), (64, .iload_n 2, 1), (65, .isub, 1), (66, .putfield 170, 3), (69, .aload_n 3, 1), (70, .getfield 170, 3), (73, .ireturn, 1)]]
abbrev mdX11_payBack : MD := (RX11, yX11_payBack, cX11_payBack, 4, (some .int), tX11_payBack)
set_option maxRecDepth 100000 in
theorem dtX11_payBack : MDok mdX11_payBack := by show DT cX11_payBack tX11_payBack; unfold DT tX11_payBack; decide +kernel
def tX11_window : IT := [[(0, .iload_n 1, 1), (1, .invokestatic 73, 3), (4, .iload_n 2, 1), (5, .iconst 1, 1), (6, .sipush 10000, 3), (9, .invokestatic 41, 3), (12, .aload_n 0, 1), (13, .getfield 10, 3), (16, .iload_n 1, 1), (17, .invokevirtual 79, 3), (20, .astore_n 3, 1), (21, .aload_n 3, 1), (22, .getfield 82, 3), (25, .ifCond .ne 16, 3), (28, .iload_n 2, 1), (29, .aload_n 0, 1), (30, .iload_n 1, 1), (31, .invokevirtual 183, 3), (34, .if_icmp .gt 7, 3), (37, .iconst 1, 1), (38, .goto 4, 3), (41, .iconst 0, 1), (42, .invokestatic 66, 3), (45, .aload_n 3, 1), (46, .iload_n 2, 1), (47, .invokevirtual 186, 3), (50, .aload_n 3, 1), (51, .getfield 189, 3), (54, .ireturn, 1)]]
abbrev mdX11_window : MD := (RX11, yX11_window, cX11_window, 4, (some .int), tX11_window)
set_option maxRecDepth 100000 in
theorem dtX11_window : MDok mdX11_window := by show DT cX11_window tX11_window; unfold DT tX11_window; decide +kernel
def tX11_windowBack : IT := [[(0, .iload_n 1, 1), (1, .invokestatic 73, 3), (4, .iload_n 2, 1), (5, .iconst 1, 1), (6, .sipush 10000, 3), (9, .invokestatic 41, 3), (12, .aload_n 0, 1), (13, .getfield 10, 3), (16, .iload_n 1, 1), (17, .invokevirtual 79, 3), (20, .astore_n 3, 1), (21, .aload_n 3, 1), (22, .getfield 189, 3), (25, .iload_n 2, 1), (26, .if_icmp .lt 15, 3), (29, .aload_n 3, 1), (30, .getfield 133, 3), (33, .iload_n 2, 1), (34, .if_icmp .lt 7, 3), (37, .iconst 1, 1), (38, .goto 4, 3), (41, .iconst 0, 1), (42, .invokestatic 66, 3), (45, .aload_n 3, 1), (46, .iload_n 2, 1), (47, .ineg, 1), (48, .invokevirtual 186, 3), (51, .aload_n 3, 1), (52, .getfield 189, 3), (55, .ireturn, 1)]]
abbrev mdX11_windowBack : MD := (RX11, yX11_windowBack, cX11_windowBack, 4, (some .int), tX11_windowBack)
set_option maxRecDepth 100000 in
theorem dtX11_windowBack : MDok mdX11_windowBack := by show DT cX11_windowBack tX11_windowBack; unfold DT tX11_windowBack; decide +kernel
def tX11_rules : IT := [[(0, .iload_n 1, 1), (1, .iconst 0, 1), (2, .bipush 100, 2), (4, .invokestatic 41, 3), (7, .iload_n 2, 1), (8, .iconst 0, 1), (9, .bipush 100, 2), (11, .invokestatic 41, 3), (14, .iload_n 3, 1), (15, .iconst 0, 1), (16, .bipush 100, 2), (18, .invokestatic 41, 3), (21, .aload_n 0, 1), (22, .getfield 10, 3), (25, .getfield 146, 3), (28, .astore 4, 2), (30, .aload 4, 2), (32, .getfield 192, 3), (35, .istore 5, 2), (37, .aload 4, 2), (39, .iload_n 1, 1), (40, .putfield 192, 3), (43, .aload 4, 2), (45, .iload_n 2, 1), (46, .putfield 150, 3), (49, .aload 4, 2), (51, .iload_n 3, 1), (52, .putfield 195, 3), (55, .iload 5, 2), (57, .ireturn, 1)]]
abbrev mdX11_rules : MD := (RX11, yX11_rules, cX11_rules, 6, (some .int), tX11_rules)
set_option maxRecDepth 100000 in
theorem dtX11_rules : MDok mdX11_rules := by show DT cX11_rules tX11_rules; unfold DT tX11_rules; decide +kernel
def tX11_buyBonds : IT := [[(0, .iload_n 1, 1), (1, .invokestatic 73, 3), (4, .iload_n 2, 1), (5, .iconst 1, 1), (6, .sipush 10000, 3), (9, .invokestatic 41, 3), (12, .aload_n 0, 1), (13, .getfield 33, 3), (16, .iload_n 1, 1), (17, .invokevirtual 198, 3), (20, .iload_n 2, 1), (21, .if_icmp .lt 7, 3), (24, .iconst 1, 1), (25, .goto 4, 3), (28, .iconst 0, 1), (29, .invokestatic 66, 3), (32, .aload_n 0, 1), (33, .getfield 33, 3), (36, .iload_n 1, 1), (37, .iload_n 2, 1), (38, .invokevirtual 201, 3), (41, .aload_n 0, 1), (42, .getfield 10, 3), (45, .iload_n 1, 1), (46, .invokevirtual 79, 3), (49, .dup, 1), (50, .getfield 133, 3), (53, .iload_n 2, 1), (54, .iadd, 1), (55, .putfield 133, 3), (58, .aload_n 0, 1), (59, .getfield 33, 3), (62, .iload_n 1, 1), (63, .invokevirtual 198, 3), (66, .ireturn, 1)]]
abbrev mdX11_buyBonds : MD := (RX11, yX11_buyBonds, cX11_buyBonds, 3, (some .int), tX11_buyBonds)
set_option maxRecDepth 100000 in
theorem dtX11_buyBonds : MDok mdX11_buyBonds := by show DT cX11_buyBonds tX11_buyBonds; unfold DT tX11_buyBonds; decide +kernel
def tX11_bid : IT := [[(0, .iload_n 1, 1), (1, .invokestatic 73, 3), (4, .iload_n 2, 1), (5, .bipush 50, 2), (7, .bipush 100, 2), (9, .invokestatic 41, 3), (12, .iload_n 3, 1), (13, .iconst 1, 1), (14, .sipush 1000, 3), (17, .invokestatic 41, 3), (20, .aload_n 0, 1), (21, .getfield 10, 3), (24, .iload_n 1, 1), (25, .invokevirtual 79, 3), (28, .getfield 82, 3), (31, .ifCond .ne 17, 3), (34, .aload_n 0, 1), (35, .getfield 33, 3), (38, .invokevirtual 204, 3), (41, .ifCond .ne 7, 3), (44, .iconst 1, 1), (45, .goto 4, 3), (48, .iconst 0, 1), (49, .invokestatic 66, 3), (52, .aload_n 0, 1), (53, .getfield 33, 3), (56, .iload_n 1, 1), (57, .iload_n 2, 1), (58, .iload_n 3, 1), (59, .invokevirtual 207, 3), (62, .ireturn, 1)]]
abbrev mdX11_bid : MD := (RX11, yX11_bid, cX11_bid, 4, (some .int), tX11_bid)
set_option maxRecDepth 100000 in
theorem dtX11_bid : MDok mdX11_bid := by show DT cX11_bid tX11_bid; unfold DT tX11_bid; decide +kernel
def tX11_auction : IT := [[(0, .iload_n 1, 1), (1, .iconst 1, 1), (2, .sipush 10000, 3), (5, .invokestatic 41, 3), (8, .iload_n 2, 1), (9, .iconst 1, 1), (10, .bipush 50, 2), (12, .invokestatic 41, 3), (15, .aload_n 0, 1), (16, .getfield 33, 3), (19, .invokevirtual 210, 3), (22, .ifCond .ne 7, 3), (25, .iconst 1, 1), (26, .goto 4, 3), (29, .iconst 0, 1), (30, .invokestatic 66, 3), (33, .aload_n 0, 1), (34, .getfield 33, 3), (37, .aload_n 0, 1), (38, .getfield 10, 3), (41, .iload_n 1, 1), (42, .invokevirtual 213, 3), (45, .istore_n 3, 1), (46, .aload_n 0, 1), (47, .getfield 33, 3), (50, .aload_n 0, 1), (51, .getfield 10, 3), (54, .iload_n 3, 1), (55, .aload_n 0, 1), (56, .getfield 119, 3), (59, .iload_n 2, 1), (60, .iadd, 1), (61, .invokevirtual 216, 3), (64, .iload_n 3, 1), (65, .ireturn, 1)]]
abbrev mdX11_auction : MD := (RX11, yX11_auction, cX11_auction, 4, (some .int), tX11_auction)
set_option maxRecDepth 100000 in
theorem dtX11_auction : MDok mdX11_auction := by show DT cX11_auction tX11_auction; unfold DT tX11_auction; decide +kernel
def tX11_levy : IT := [[(0, .iload_n 1, 1), (1, .invokestatic 37, 3), (4, .iload_n 2, 1), (5, .iconst 1, 1), (6, .bipush 100, 2), (8, .invokestatic 41, 3), (11, .aload_n 0, 1), (12, .getfield 10, 3), (15, .iload_n 1, 1), (16, .invokevirtual 45, 3), (19, .astore_n 3, 1), (20, .aload_n 0, 1), (21, .getfield 10, 3), (24, .aload_n 3, 1), (25, .getfield 76, 3), (28, .invokevirtual 79, 3), (31, .astore 4, 2), (33, .aload_n 3, 1), (34, .invokevirtual 104, 3), (37, .iload_n 2, 1), (38, .bipush 100, 2), (40, .invokestatic 155, 3), (43, .istore 5, 2), (45, .aload_n 3, 1), (46, .getfield 76, 3), (49, .iconst (-1), 1), (50, .if_icmp .eq 17, 3), (53, .aload 4, 2), (55, .getfield 133, 3), (58, .iload 5, 2), (60, .if_icmp .lt 7, 3), (63, .iconst 1, 1), (64, .goto 4, 3), (67, .iconst 0, 1), (68, .invokestatic 66, 3), (71, .aload_n 0, 1), (72, .getfield 10, 3), (75, .iload_n 1, 1), (76, .iload 5, 2), (78, .ineg, 1), (79, .invokevirtual 101, 3), (82, .aload 4, 2), (84, .dup, 1), (85, .getfield 133, 3), (88, .iload 5, 2), (90, .isub, 1), (91, .putfield 133, 3), (94, .aload_n 0, 1)], [(95, .getfield 10, 3), (98, .getfield 146, 3), (101, .dup, 1), (102, .getfield 220, 3), (105, .iload 5, 2), (107, .iadd, 1), (108, .putfield 220, 3), (111, .iload 5, 2), (113, .ireturn, 1)]]
abbrev mdX11_levy : MD := (RX11, yX11_levy, cX11_levy, 6, (some .int), tX11_levy)
set_option maxRecDepth 100000 in
theorem dtX11_levy : MDok mdX11_levy := by show DT cX11_levy tX11_levy; unfold DT tX11_levy; decide +kernel
def tX11_spend : IT := [[(0, .iload_n 1, 1), (1, .invokestatic 37, 3), (4, .iload_n 2, 1), (5, .iconst 1, 1), (6, .sipush 10000, 3), (9, .invokestatic 41, 3), (12, .aload_n 0, 1), (13, .getfield 10, 3), (16, .iload_n 1, 1), (17, .invokevirtual 45, 3), (20, .astore_n 3, 1), (21, .aload_n 0, 1), (22, .getfield 10, 3), (25, .getfield 146, 3), (28, .astore 4, 2), (30, .aload_n 3, 1), (31, .getfield 76, 3), (34, .iconst (-1), 1), (35, .if_icmp .eq 16, 3), (38, .aload 4, 2), (40, .getfield 220, 3), (43, .iload_n 2, 1), (44, .if_icmp .lt 7, 3), (47, .iconst 1, 1), (48, .goto 4, 3), (51, .iconst 0, 1), (52, .invokestatic 66, 3), (55, .aload 4, 2), (57, .dup, 1), (58, .getfield 220, 3), (61, .iload_n 2, 1), (62, .isub, 1), (63, .putfield 220, 3), (66, .aload_n 0, 1), (67, .getfield 10, 3), (70, .aload_n 3, 1), (71, .getfield 76, 3), (74, .invokevirtual 79, 3), (77, .dup, 1), (78, .getfield 133, 3), (81, .iload_n 2, 1), (82, .iadd, 1), (83, .putfield 133, 3), (86, .aload_n 0, 1), (87, .getfield 10, 3), (90, .iload_n 1, 1), (91, .iload_n 2, 1), (92, .invokevirtual 101, 3)], [(95, .aload 4, 2), (97, .getfield 220, 3), (100, .ireturn, 1)]]
abbrev mdX11_spend : MD := (RX11, yX11_spend, cX11_spend, 5, (some .int), tX11_spend)
set_option maxRecDepth 100000 in
theorem dtX11_spend : MDok mdX11_spend := by show DT cX11_spend tX11_spend; unfold DT tX11_spend; decide +kernel
def tX11_exchange : IT := [[(0, .iload_n 1, 1), (1, .bipush 10, 2), (3, .sipush 1000, 3), (6, .invokestatic 41, 3), (9, .aload_n 0, 1), (10, .getfield 10, 3), (13, .getfield 146, 3), (16, .getfield 223, 3), (19, .istore_n 2, 1), (20, .aload_n 0, 1), (21, .getfield 10, 3), (24, .getfield 146, 3), (27, .iload_n 1, 1), (28, .putfield 223, 3), (31, .iload_n 2, 1), (32, .ireturn, 1)]]
abbrev mdX11_exchange : MD := (RX11, yX11_exchange, cX11_exchange, 3, (some .int), tX11_exchange)
set_option maxRecDepth 100000 in
theorem dtX11_exchange : MDok mdX11_exchange := by show DT cX11_exchange tX11_exchange; unfold DT tX11_exchange; decide +kernel
def tX11_abroad : IT := [[(0, .iload_n 1, 1), (1, .invokestatic 226, 3), (4, .iload_n 2, 1), (5, .iconst 1, 1), (6, .sipush 1000, 3), (9, .invokestatic 41, 3), (12, .aload_n 0, 1), (13, .getfield 10, 3), (16, .iload_n 1, 1), (17, .invokevirtual 45, 3), (20, .astore 4, 2), (22, .aload_n 0, 1), (23, .getfield 10, 3), (26, .aload 4, 2), (28, .getfield 76, 3), (31, .invokevirtual 79, 3), (34, .astore 5, 2), (36, .aload_n 0, 1), (37, .getfield 10, 3), (40, .getfield 146, 3), (43, .astore 6, 2), (45, .iload_n 2, 1), (46, .aload 6, 2), (48, .getfield 223, 3), (51, .bipush 100, 2), (53, .invokestatic 155, 3), (56, .istore 7, 2), (58, .aload 4, 2), (60, .getfield 76, 3), (63, .iconst (-1), 1), (64, .if_icmp .eq 7, 3), (67, .iconst 1, 1), (68, .goto 4, 3), (71, .iconst 0, 1), (72, .invokestatic 66, 3), (75, .iload_n 3, 1), (76, .ifCond .ne 32, 3), (79, .aload 6, 2), (81, .getfield 229, 3), (84, .iload_n 2, 1), (85, .if_icmp .lt 27, 3), (88, .aload 4, 2), (90, .invokevirtual 104, 3), (93, .iload 7, 2), (95, .if_icmp .lt 17, 3), (98, .aload 5, 2), (100, .getfield 133, 3), (103, .iload 7, 2)], [(105, .if_icmp .lt 7, 3), (108, .iconst 1, 1), (109, .goto 4, 3), (112, .iconst 0, 1), (113, .invokestatic 66, 3), (116, .iload_n 3, 1), (117, .ifCond .eq 7, 3), (120, .iconst 1, 1), (121, .goto 4, 3), (124, .iconst (-1), 1), (125, .istore 8, 2), (127, .aload_n 0, 1), (128, .getfield 10, 3), (131, .iload_n 1, 1), (132, .iload 8, 2), (134, .iload 7, 2), (136, .imul, 1), (137, .invokevirtual 101, 3), (140, .aload 5, 2), (142, .dup, 1), (143, .getfield 133, 3), (146, .iload 8, 2), (148, .iload 7, 2), (150, .imul, 1), (151, .iadd, 1), (152, .putfield 133, 3), (155, .aload 6, 2), (157, .dup, 1), (158, .getfield 229, 3), (161, .iload 8, 2), (163, .iload_n 2, 1), (164, .imul, 1), (165, .iadd, 1), (166, .putfield 229, 3), (169, .aload 6, 2), (171, .dup, 1), (172, .getfield 232, 3), (175, .iload 8, 2), (177, .iload 7, 2), (179, .imul, 1), (180, .iadd, 1), (181, .putfield 232, 3), (184, .iload 7, 2), (186, .ireturn, 1)]]
abbrev mdX11_abroad : MD := (RX11, yX11_abroad, cX11_abroad, 9, (some .int), tX11_abroad)
set_option maxRecDepth 100000 in
theorem dtX11_abroad : MDok mdX11_abroad := by show DT cX11_abroad tX11_abroad; unfold DT tX11_abroad; decide +kernel
def tX11_hire : IT := [[(0, .iload_n 1, 1), (1, .invokestatic 235, 3), (4, .iload_n 2, 1), (5, .invokestatic 226, 3), (8, .iload_n 3, 1), (9, .iconst 1, 1), (10, .sipush 1000, 3), (13, .invokestatic 41, 3), (16, .aload_n 0, 1), (17, .getfield 10, 3), (20, .iload_n 1, 1), (21, .invokevirtual 45, 3), (24, .astore 4, 2), (26, .aload 4, 2), (28, .getfield 238, 3), (31, .istore 5, 2), (33, .aload 4, 2), (35, .iload_n 2, 1), (36, .putfield 241, 3), (39, .aload 4, 2), (41, .iload_n 3, 1), (42, .putfield 238, 3), (45, .iload 5, 2), (47, .ireturn, 1)]]
abbrev mdX11_hire : MD := (RX11, yX11_hire, cX11_hire, 6, (some .int), tX11_hire)
set_option maxRecDepth 100000 in
theorem dtX11_hire : MDok mdX11_hire := by show DT cX11_hire tX11_hire; unfold DT tX11_hire; decide +kernel
def tX11_buy : IT := [[(0, .iload_n 1, 1), (1, .invokestatic 235, 3), (4, .iload_n 2, 1), (5, .invokestatic 226, 3), (8, .iload_n 3, 1), (9, .iconst 1, 1), (10, .bipush 20, 2), (12, .invokestatic 41, 3), (15, .aload_n 0, 1), (16, .getfield 10, 3), (19, .iload_n 2, 1), (20, .invokevirtual 45, 3), (23, .astore 4, 2), (25, .aload 4, 2), (27, .getfield 244, 3), (30, .iload_n 3, 1), (31, .imul, 1), (32, .istore 5, 2), (34, .aload_n 0, 1), (35, .iload_n 1, 1), (36, .iload_n 2, 1), (37, .iload 5, 2), (39, .invokevirtual 115, 3), (42, .invokestatic 66, 3), (45, .aload 4, 2), (47, .dup, 1), (48, .getfield 247, 3), (51, .iload_n 3, 1), (52, .iadd, 1), (53, .putfield 247, 3), (56, .aload_n 0, 1), (57, .getfield 19, 3), (60, .aload_n 0, 1), (61, .getfield 10, 3), (64, .iload_n 1, 1), (65, .iload_n 2, 1), (66, .iload 5, 2), (68, .aload_n 0, 1), (69, .getfield 119, 3), (72, .aload_n 0, 1), (73, .getfield 119, 3), (76, .invokevirtual 122, 3), (79, .ireturn, 1)]]
abbrev mdX11_buy : MD := (RX11, yX11_buy, cX11_buy, 6, (some .int), tX11_buy)
set_option maxRecDepth 100000 in
theorem dtX11_buy : MDok mdX11_buy := by show DT cX11_buy tX11_buy; unfold DT tX11_buy; decide +kernel
def tX11_day : IT := [[(0, .iload_n 1, 1), (1, .iconst 1, 1), (2, .iconst 5, 1), (3, .invokestatic 41, 3), (6, .aload_n 0, 1), (7, .getfield 119, 3), (10, .sipush 200, 3), (13, .iload_n 1, 1), (14, .isub, 1), (15, .if_icmp .gt 7, 3), (18, .iconst 1, 1), (19, .goto 4, 3), (22, .iconst 0, 1), (23, .invokestatic 66, 3), (26, .iconst 0, 1), (27, .istore_n 2, 1), (28, .iload_n 2, 1), (29, .iload_n 1, 1), (30, .if_icmp .ge 13, 3), (33, .aload_n 0, 1), (34, .invokevirtual 250, 3), (37, .iinc 2 1, 3), (40, .goto (-12), 3), (43, .aload_n 0, 1), (44, .getfield 10, 3), (47, .invokevirtual 253, 3), (50, .ireturn, 1)]]
abbrev mdX11_day : MD := (RX11, yX11_day, cX11_day, 3, (some .int), tX11_day)
set_option maxRecDepth 100000 in
theorem dtX11_day : MDok mdX11_day := by show DT cX11_day tX11_day; unfold DT tX11_day; decide +kernel
def tX11_fail : IT := [[(0, .iload_n 1, 1), (1, .invokestatic 73, 3), (4, .aload_n 0, 1), (5, .getfield 10, 3), (8, .iload_n 1, 1), (9, .invokevirtual 79, 3), (12, .getfield 82, 3), (15, .ifCond .ne 7, 3), (18, .iconst 1, 1), (19, .goto 4, 3), (22, .iconst 0, 1), (23, .invokestatic 66, 3), (26, .aload_n 0, 1), (27, .iload_n 1, 1), (28, .invokevirtual 112, 3), (31, .ireturn, 1)]]
abbrev mdX11_fail : MD := (RX11, yX11_fail, cX11_fail, 2, (some .int), tX11_fail)
set_option maxRecDepth 100000 in
theorem dtX11_fail : MDok mdX11_fail := by show DT cX11_fail tX11_fail; unfold DT tX11_fail; decide +kernel
def tX11_days : IT := [[(0, .aload_n 0, 1), (1, .getfield 119, 3), (4, .ireturn, 1)]]
abbrev mdX11_days : MD := (RX11, yX11_days, cX11_days, 1, (some .int), tX11_days)
set_option maxRecDepth 100000 in
theorem dtX11_days : MDok mdX11_days := by show DT cX11_days tX11_days; unfold DT tX11_days; decide +kernel
def tX11_ofHolder : IT := [[(0, .iload_n 1, 1), (1, .invokestatic 37, 3), (4, .iload_n 2, 1), (5, .iconst 0, 1), (6, .bipush 7, 2), (8, .invokestatic 41, 3), (11, .aload_n 0, 1), (12, .getfield 10, 3), (15, .iload_n 1, 1), (16, .invokevirtual 45, 3), (19, .astore_n 3, 1), (20, .iload_n 2, 1), (21, .tableswitch 78 0 6 #[43, 48, 53, 58, 63, 68, 73], 43), (64, .aload_n 3, 1), (65, .getfield 76, 3), (68, .ireturn, 1), (69, .aload_n 3, 1), (70, .getfield 91, 3), (73, .ireturn, 1), (74, .aload_n 3, 1), (75, .invokevirtual 104, 3), (78, .ireturn, 1), (79, .aload_n 3, 1), (80, .getfield 58, 3), (83, .ireturn, 1), (84, .aload_n 3, 1), (85, .getfield 256, 3), (88, .ireturn, 1), (89, .aload_n 3, 1), (90, .getfield 241, 3), (93, .ireturn, 1), (94, .aload_n 3, 1), (95, .getfield 238, 3), (98, .ireturn, 1), (99, .iload_n 1, 1), (100, .bipush 10, 2), (102, .if_icmp .ge 10, 3), (105, .aload_n 3, 1), (106, .getfield 259, 3), (109, .goto 4, 3), (112, .iconst 0, 1), (113, .ireturn, 1)]]
abbrev mdX11_ofHolder : MD := (RX11, yX11_ofHolder, cX11_ofHolder, 4, (some .int), tX11_ofHolder)
set_option maxRecDepth 100000 in
theorem dtX11_ofHolder : MDok mdX11_ofHolder := by show DT cX11_ofHolder tX11_ofHolder; unfold DT tX11_ofHolder; decide +kernel
def tX11_accountAnew : IT := [[(0, .iload_n 1, 1), (1, .invokestatic 37, 3), (4, .aload_n 0, 1), (5, .getfield 10, 3), (8, .getfield 262, 3), (11, .iload_n 1, 1), (12, .invokevirtual 266, 3), (15, .ireturn, 1)]]
abbrev mdX11_accountAnew : MD := (RX11, yX11_accountAnew, cX11_accountAnew, 2, (some .int), tX11_accountAnew)
set_option maxRecDepth 100000 in
theorem dtX11_accountAnew : MDok mdX11_accountAnew := by show DT cX11_accountAnew tX11_accountAnew; unfold DT tX11_accountAnew; decide +kernel
def tX11_ofBank : IT := [[(0, .iload_n 1, 1), (1, .invokestatic 73, 3), (4, .iload_n 2, 1), (5, .iconst 0, 1), (6, .bipush 9, 2), (8, .invokestatic 41, 3), (11, .aload_n 0, 1), (12, .getfield 10, 3), (15, .iload_n 1, 1), (16, .invokevirtual 79, 3), (19, .astore_n 3, 1), (20, .iload_n 2, 1), (21, .tableswitch 121 0 8 #[51, 56, 61, 70, 79, 88, 93, 99, 108], 51), (72, .aload_n 3, 1), (73, .getfield 133, 3), (76, .ireturn, 1), (77, .aload_n 3, 1), (78, .getfield 98, 3), (81, .ireturn, 1), (82, .aload_n 0, 1), (83, .getfield 33, 3), (86, .iload_n 1, 1), (87, .invokevirtual 198, 3), (90, .ireturn, 1), (91, .aload_n 0, 1), (92, .getfield 26, 3), (95, .iload_n 1, 1), (96, .invokevirtual 140, 3), (99, .ireturn, 1), (100, .aload_n 0, 1), (101, .getfield 10, 3), (104, .iload_n 1, 1), (105, .invokevirtual 271, 3), (108, .ireturn, 1), (109, .aload_n 3, 1), (110, .getfield 189, 3), (113, .ireturn, 1), (114, .aload_n 0, 1), (115, .iload_n 1, 1), (116, .invokevirtual 143, 3), (119, .ireturn, 1), (120, .aload_n 0, 1), (121, .getfield 19, 3), (124, .iload_n 1, 1), (125, .invokevirtual 274, 3), (128, .ireturn, 1), (129, .aload_n 3, 1), (130, .getfield 277, 3)], [(133, .ifCond .eq 7, 3), (136, .iconst 1, 1), (137, .goto 4, 3), (140, .iconst 0, 1), (141, .ireturn, 1), (142, .aload_n 3, 1), (143, .getfield 82, 3), (146, .ifCond .eq 7, 3), (149, .iconst 1, 1), (150, .goto 4, 3), (153, .iconst 0, 1), (154, .ireturn, 1)]]
abbrev mdX11_ofBank : MD := (RX11, yX11_ofBank, cX11_ofBank, 4, (some .int), tX11_ofBank)
set_option maxRecDepth 100000 in
theorem dtX11_ofBank : MDok mdX11_ofBank := by show DT cX11_ofBank tX11_ofBank; unfold DT tX11_ofBank; decide +kernel
def tX11_ofLoan : IT := [[(0, .aload_n 0, 1), (1, .iload_n 1, 1), (2, .invokevirtual 163, 3), (5, .iload_n 2, 1), (6, .iconst 0, 1), (7, .iconst 3, 1), (8, .invokestatic 41, 3), (11, .aload_n 0, 1), (12, .getfield 26, 3), (15, .iload_n 1, 1), (16, .invokevirtual 166, 3), (19, .astore_n 3, 1), (20, .iload_n 2, 1), (21, .tableswitch 42 0 2 #[27, 32, 37], 27), (48, .aload_n 3, 1), (49, .getfield 280, 3), (52, .ireturn, 1), (53, .aload_n 3, 1), (54, .getfield 282, 3), (57, .ireturn, 1), (58, .aload_n 3, 1), (59, .getfield 170, 3), (62, .ireturn, 1), (63, .aload_n 3, 1), (64, .getfield 285, 3), (67, .ireturn, 1)]]
abbrev mdX11_ofLoan : MD := (RX11, yX11_ofLoan, cX11_ofLoan, 4, (some .int), tX11_ofLoan)
set_option maxRecDepth 100000 in
theorem dtX11_ofLoan : MDok mdX11_ofLoan := by show DT cX11_ofLoan tX11_ofLoan; unfold DT tX11_ofLoan; decide +kernel
def tX11_payment : IT := [[(0, .iload_n 1, 1), (1, .ifCond .lt 18, 3), (4, .iload_n 1, 1), (5, .aload_n 0, 1), (6, .getfield 19, 3), (9, .getfield 288, 3), (12, .if_icmp .ge 7, 3), (15, .iconst 1, 1), (16, .goto 4, 3), (19, .iconst 0, 1), (20, .invokestatic 291, 3), (23, .aload_n 0, 1), (24, .getfield 19, 3), (27, .iload_n 1, 1), (28, .invokevirtual 294, 3), (31, .getfield 297, 3), (34, .ireturn, 1)]]
abbrev mdX11_payment : MD := (RX11, yX11_payment, cX11_payment, 2, (some .int), tX11_payment)
set_option maxRecDepth 100000 in
theorem dtX11_payment : MDok mdX11_payment := by show DT cX11_payment tX11_payment; unfold DT tX11_payment; decide +kernel
def tX11_treasury : IT := [[(0, .aload_n 0, 1), (1, .getfield 10, 3), (4, .getfield 146, 3), (7, .getfield 220, 3), (10, .ireturn, 1)]]
abbrev mdX11_treasury : MD := (RX11, yX11_treasury, cX11_treasury, 1, (some .int), tX11_treasury)
set_option maxRecDepth 100000 in
theorem dtX11_treasury : MDok mdX11_treasury := by show DT cX11_treasury tX11_treasury; unfold DT tX11_treasury; decide +kernel
def tX11_owed : IT := [[(0, .iconst 0, 1), (1, .istore_n 1, 1), (2, .iconst 0, 1), (3, .istore_n 2, 1), (4, .iload_n 2, 1), (5, .iconst 5, 1), (6, .if_icmp .ge 20, 3), (9, .iload_n 1, 1), (10, .aload_n 0, 1), (11, .getfield 33, 3), (14, .iload_n 2, 1), (15, .invokevirtual 198, 3), (18, .iadd, 1), (19, .istore_n 1, 1), (20, .iinc 2 1, 3), (23, .goto (-19), 3), (26, .iload_n 1, 1), (27, .ireturn, 1)]]
abbrev mdX11_owed : MD := (RX11, yX11_owed, cX11_owed, 3, (some .int), tX11_owed)
set_option maxRecDepth 100000 in
theorem dtX11_owed : MDok mdX11_owed := by show DT cX11_owed tX11_owed; unfold DT tX11_owed; decide +kernel
def tX11_foreign : IT := [[(0, .aload_n 0, 1), (1, .getfield 10, 3), (4, .getfield 146, 3), (7, .getfield 229, 3), (10, .ireturn, 1)]]
abbrev mdX11_foreign : MD := (RX11, yX11_foreign, cX11_foreign, 1, (some .int), tX11_foreign)
set_option maxRecDepth 100000 in
theorem dtX11_foreign : MDok mdX11_foreign := by show DT cX11_foreign tX11_foreign; unfold DT tX11_foreign; decide +kernel
def tX11_central : IT := [[(0, .aload_n 0, 1), (1, .getfield 10, 3), (4, .getfield 146, 3), (7, .getfield 232, 3), (10, .aload_n 0, 1), (11, .getfield 33, 3), (14, .iconst 4, 1), (15, .invokevirtual 198, 3), (18, .iadd, 1), (19, .aload_n 0, 1), (20, .getfield 26, 3), (23, .iconst 4, 1), (24, .invokevirtual 140, 3), (27, .iadd, 1), (28, .istore_n 1, 1), (29, .aload_n 0, 1), (30, .getfield 10, 3), (33, .getfield 146, 3), (36, .getfield 220, 3), (39, .aload_n 0, 1), (40, .getfield 10, 3), (43, .invokevirtual 302, 3), (46, .iadd, 1), (47, .istore_n 2, 1), (48, .iconst 0, 1), (49, .istore_n 3, 1), (50, .iload_n 3, 1), (51, .iconst 4, 1), (52, .if_icmp .ge 41, 3), (55, .aload_n 0, 1), (56, .getfield 10, 3), (59, .iload_n 3, 1), (60, .invokevirtual 79, 3), (63, .astore 4, 2), (65, .iload_n 1, 1), (66, .aload 4, 2), (68, .getfield 189, 3), (71, .iadd, 1), (72, .istore_n 1, 1), (73, .iload_n 2, 1), (74, .aload 4, 2), (76, .getfield 133, 3), (79, .aload 4, 2), (81, .getfield 98, 3), (84, .iadd, 1), (85, .iadd, 1), (86, .istore_n 2, 1), (87, .iinc 3 1, 3)], [(90, .goto (-40), 3), (93, .iload_n 1, 1), (94, .iload_n 2, 1), (95, .isub, 1), (96, .ireturn, 1)]]
abbrev mdX11_central : MD := (RX11, yX11_central, cX11_central, 5, (some .int), tX11_central)
set_option maxRecDepth 100000 in
theorem dtX11_central : MDok mdX11_central := by show DT cX11_central tX11_central; unfold DT tX11_central; decide +kernel
def tX11_centralAnew : IT := [[(0, .aload_n 0, 1), (1, .getfield 10, 3), (4, .getfield 262, 3), (7, .bipush 16, 2), (9, .invokevirtual 266, 3), (12, .ireturn, 1)]]
abbrev mdX11_centralAnew : MD := (RX11, yX11_centralAnew, cX11_centralAnew, 1, (some .int), tX11_centralAnew)
set_option maxRecDepth 100000 in
theorem dtX11_centralAnew : MDok mdX11_centralAnew := by show DT cX11_centralAnew tX11_centralAnew; unfold DT tX11_centralAnew; decide +kernel
def tX11_money : IT := [[(0, .aload_n 0, 1), (1, .getfield 10, 3), (4, .invokevirtual 302, 3), (7, .istore_n 1, 1), (8, .iconst 0, 1), (9, .istore_n 2, 1), (10, .iload_n 2, 1), (11, .bipush 16, 2), (13, .if_icmp .ge 23, 3), (16, .iload_n 1, 1), (17, .aload_n 0, 1), (18, .getfield 10, 3), (21, .iload_n 2, 1), (22, .invokevirtual 45, 3), (25, .getfield 91, 3), (28, .iadd, 1), (29, .istore_n 1, 1), (30, .iinc 2 1, 3), (33, .goto (-23), 3), (36, .iload_n 1, 1), (37, .ireturn, 1)]]
abbrev mdX11_money : MD := (RX11, yX11_money, cX11_money, 3, (some .int), tX11_money)
set_option maxRecDepth 100000 in
theorem dtX11_money : MDok mdX11_money := by show DT cX11_money tX11_money; unfold DT tX11_money; decide +kernel
def tX11_price : IT := [[(0, .iload_n 1, 1), (1, .invokestatic 226, 3), (4, .aload_n 0, 1), (5, .getfield 10, 3), (8, .iload_n 1, 1), (9, .invokevirtual 45, 3), (12, .getfield 244, 3), (15, .ireturn, 1)]]
abbrev mdX11_price : MD := (RX11, yX11_price, cX11_price, 2, (some .int), tX11_price)
set_option maxRecDepth 100000 in
theorem dtX11_price : MDok mdX11_price := by show DT cX11_price tX11_price; unfold DT tX11_price; decide +kernel
def tX11_sales : IT := [[(0, .iload_n 1, 1), (1, .ifCond .lt 15, 3), (4, .iload_n 1, 1), (5, .aload_n 0, 1), (6, .getfield 119, 3), (9, .if_icmp .gt 7, 3), (12, .iconst 1, 1), (13, .goto 4, 3), (16, .iconst 0, 1), (17, .invokestatic 291, 3), (20, .aload_n 0, 1), (21, .getfield 19, 3), (24, .iload_n 1, 1), (25, .iload_n 2, 1), (26, .invokevirtual 305, 3), (29, .ireturn, 1)]]
abbrev mdX11_sales : MD := (RX11, yX11_sales, cX11_sales, 3, (some .int), tX11_sales)
set_option maxRecDepth 100000 in
theorem dtX11_sales : MDok mdX11_sales := by show DT cX11_sales tX11_sales; unfold DT tX11_sales; decide +kernel
def tX11_needIndex : IT := [[(0, .iload_n 0, 1), (1, .ifCond .ne 14, 3), (4, .new 309, 3), (7, .dup, 1), (8, .ldc_w 311, 3), (11, .invokespecial 313, 3), (14, .athrow, 1), (15, .return_, 1)]]
abbrev mdX11_needIndex : MD := (RX11, yX11_needIndex, cX11_needIndex, 1, none, tX11_needIndex)
set_option maxRecDepth 100000 in
theorem dtX11_needIndex : MDok mdX11_needIndex := by show DT cX11_needIndex tX11_needIndex; unfold DT tX11_needIndex; decide +kernel
def tX11_needHolder : IT := [[(0, .iload_n 0, 1), (1, .ifCond .lt 13, 3), (4, .iload_n 0, 1), (5, .bipush 16, 2), (7, .if_icmp .ge 7, 3), (10, .iconst 1, 1), (11, .goto 4, 3), (14, .iconst 0, 1), (15, .invokestatic 291, 3), (18, .return_, 1)]]
abbrev mdX11_needHolder : MD := (RX11, yX11_needHolder, cX11_needHolder, 1, none, tX11_needHolder)
set_option maxRecDepth 100000 in
theorem dtX11_needHolder : MDok mdX11_needHolder := by show DT cX11_needHolder tX11_needHolder; unfold DT tX11_needHolder; decide +kernel
def tX11_needHousehold : IT := [[(0, .iload_n 0, 1), (1, .ifCond .lt 13, 3), (4, .iload_n 0, 1), (5, .bipush 10, 2), (7, .if_icmp .ge 7, 3), (10, .iconst 1, 1), (11, .goto 4, 3), (14, .iconst 0, 1), (15, .invokestatic 291, 3), (18, .return_, 1)]]
abbrev mdX11_needHousehold : MD := (RX11, yX11_needHousehold, cX11_needHousehold, 1, none, tX11_needHousehold)
set_option maxRecDepth 100000 in
theorem dtX11_needHousehold : MDok mdX11_needHousehold := by show DT cX11_needHousehold tX11_needHousehold; unfold DT tX11_needHousehold; decide +kernel
def tX11_needFirm : IT := [[(0, .iload_n 0, 1), (1, .bipush 10, 2), (3, .if_icmp .lt 13, 3), (6, .iload_n 0, 1), (7, .bipush 16, 2), (9, .if_icmp .ge 7, 3), (12, .iconst 1, 1), (13, .goto 4, 3), (16, .iconst 0, 1), (17, .invokestatic 291, 3), (20, .return_, 1)]]
abbrev mdX11_needFirm : MD := (RX11, yX11_needFirm, cX11_needFirm, 1, none, tX11_needFirm)
set_option maxRecDepth 100000 in
theorem dtX11_needFirm : MDok mdX11_needFirm := by show DT cX11_needFirm tX11_needFirm; unfold DT tX11_needFirm; decide +kernel
def tX11_needBank : IT := [[(0, .iload_n 0, 1), (1, .ifCond .lt 12, 3), (4, .iload_n 0, 1), (5, .iconst 4, 1), (6, .if_icmp .ge 7, 3), (9, .iconst 1, 1), (10, .goto 4, 3), (13, .iconst 0, 1), (14, .invokestatic 291, 3), (17, .return_, 1)]]
abbrev mdX11_needBank : MD := (RX11, yX11_needBank, cX11_needBank, 1, none, tX11_needBank)
set_option maxRecDepth 100000 in
theorem dtX11_needBank : MDok mdX11_needBank := by show DT cX11_needBank tX11_needBank; unfold DT tX11_needBank; decide +kernel
def tX11_needLoan : IT := [[(0, .iload_n 1, 1), (1, .ifCond .lt 18, 3), (4, .iload_n 1, 1), (5, .aload_n 0, 1), (6, .getfield 26, 3), (9, .getfield 316, 3), (12, .if_icmp .ge 7, 3), (15, .iconst 1, 1), (16, .goto 4, 3), (19, .iconst 0, 1), (20, .invokestatic 291, 3), (23, .return_, 1)]]
abbrev mdX11_needLoan : MD := (RX11, yX11_needLoan, cX11_needLoan, 2, none, tX11_needLoan)
set_option maxRecDepth 100000 in
theorem dtX11_needLoan : MDok mdX11_needLoan := by show DT cX11_needLoan tX11_needLoan; unfold DT tX11_needLoan; decide +kernel
def tX11_needArgument : IT := [[(0, .iload_n 0, 1), (1, .ifCond .ne 14, 3), (4, .new 317, 3), (7, .dup, 1), (8, .ldc_w 319, 3), (11, .invokespecial 321, 3), (14, .athrow, 1), (15, .return_, 1)]]
abbrev mdX11_needArgument : MD := (RX11, yX11_needArgument, cX11_needArgument, 1, none, tX11_needArgument)
set_option maxRecDepth 100000 in
theorem dtX11_needArgument : MDok mdX11_needArgument := by show DT cX11_needArgument tX11_needArgument; unfold DT tX11_needArgument; decide +kernel
def tX11_needRange : IT := [[(0, .iload_n 0, 1), (1, .iload_n 1, 1), (2, .if_icmp .lt 12, 3), (5, .iload_n 0, 1), (6, .iload_n 2, 1), (7, .if_icmp .gt 7, 3), (10, .iconst 1, 1), (11, .goto 4, 3), (14, .iconst 0, 1), (15, .invokestatic 62, 3), (18, .return_, 1)]]
abbrev mdX11_needRange : MD := (RX11, yX11_needRange, cX11_needRange, 3, none, tX11_needRange)
set_option maxRecDepth 100000 in
theorem dtX11_needRange : MDok mdX11_needRange := by show DT cX11_needRange tX11_needRange; unfold DT tX11_needRange; decide +kernel
def tX11_needState : IT := [[(0, .iload_n 0, 1), (1, .ifCond .ne 14, 3), (4, .new 322, 3), (7, .dup, 1), (8, .ldc_w 324, 3), (11, .invokespecial 326, 3), (14, .athrow, 1), (15, .return_, 1)]]
abbrev mdX11_needState : MD := (RX11, yX11_needState, cX11_needState, 1, none, tX11_needState)
set_option maxRecDepth 100000 in
theorem dtX11_needState : MDok mdX11_needState := by show DT cX11_needState tX11_needState; unfold DT tX11_needState; decide +kernel
def tX11_canPay : IT := [[(0, .aload_n 0, 1), (1, .getfield 10, 3), (4, .iload_n 1, 1), (5, .invokevirtual 45, 3), (8, .astore 4, 2), (10, .aload 4, 2), (12, .getfield 76, 3), (15, .iconst (-1), 1), (16, .if_icmp .eq 41, 3), (19, .aload_n 0, 1), (20, .getfield 10, 3), (23, .iload_n 2, 1), (24, .invokevirtual 45, 3), (27, .getfield 76, 3), (30, .iconst (-1), 1), (31, .if_icmp .eq 26, 3), (34, .aload 4, 2), (36, .invokevirtual 104, 3), (39, .iload_n 3, 1), (40, .if_icmp .lt 17, 3), (43, .aload_n 0, 1), (44, .getfield 19, 3), (47, .invokevirtual 327, 3), (50, .ifCond .ne 7, 3), (53, .iconst 1, 1), (54, .goto 4, 3), (57, .iconst 0, 1), (58, .ireturn, 1)]]
abbrev mdX11_canPay : MD := (RX11, yX11_canPay, cX11_canPay, 5, (some .boolean), tX11_canPay)
set_option maxRecDepth 100000 in
theorem dtX11_canPay : MDok mdX11_canPay := by show DT cX11_canPay tX11_canPay; unfold DT tX11_canPay; decide +kernel
def tX11_capitalOf : IT := [[(0, .aload_n 0, 1), (1, .getfield 10, 3), (4, .iload_n 1, 1), (5, .invokevirtual 79, 3), (8, .astore_n 2, 1), (9, .aload_n 2, 1), (10, .getfield 133, 3), (13, .aload_n 2, 1), (14, .getfield 98, 3), (17, .iadd, 1), (18, .aload_n 0, 1), (19, .getfield 33, 3), (22, .iload_n 1, 1), (23, .invokevirtual 198, 3), (26, .iadd, 1), (27, .aload_n 0, 1), (28, .getfield 26, 3), (31, .iload_n 1, 1), (32, .invokevirtual 140, 3), (35, .iadd, 1), (36, .istore_n 3, 1), (37, .iload_n 3, 1), (38, .aload_n 0, 1), (39, .getfield 10, 3), (42, .iload_n 1, 1), (43, .invokevirtual 271, 3), (46, .isub, 1), (47, .aload_n 2, 1), (48, .getfield 189, 3), (51, .isub, 1), (52, .ireturn, 1)]]
abbrev mdX11_capitalOf : MD := (RX11, yX11_capitalOf, cX11_capitalOf, 4, (some .int), tX11_capitalOf)
set_option maxRecDepth 100000 in
theorem dtX11_capitalOf : MDok mdX11_capitalOf := by show DT cX11_capitalOf tX11_capitalOf; unfold DT tX11_capitalOf; decide +kernel
def tX11_roomAtWindow : IT := [[(0, .aload_n 0, 1), (1, .getfield 33, 3), (4, .iload_n 1, 1), (5, .invokevirtual 198, 3), (8, .bipush 90, 2), (10, .bipush 100, 2), (12, .invokestatic 155, 3), (15, .aload_n 0, 1), (16, .getfield 10, 3), (19, .iload_n 1, 1), (20, .invokevirtual 79, 3), (23, .getfield 189, 3), (26, .isub, 1), (27, .ireturn, 1)]]
abbrev mdX11_roomAtWindow : MD := (RX11, yX11_roomAtWindow, cX11_roomAtWindow, 2, (some .int), tX11_roomAtWindow)
set_option maxRecDepth 100000 in
theorem dtX11_roomAtWindow : MDok mdX11_roomAtWindow := by show DT cX11_roomAtWindow tX11_roomAtWindow; unfold DT tX11_roomAtWindow; decide +kernel
def tX11_share : IT := [[(0, .iload_n 2, 1), (1, .ifCond .gt 7, 3), (4, .iconst 0, 1), (5, .goto 12, 3), (8, .iload_n 0, 1), (9, .i2l, 1), (10, .iload_n 1, 1), (11, .i2l, 1), (12, .lmul, 1), (13, .iload_n 2, 1), (14, .i2l, 1), (15, .ldiv, 1), (16, .l2i, 1), (17, .ireturn, 1)]]
abbrev mdX11_share : MD := (RX11, yX11_share, cX11_share, 3, (some .int), tX11_share)
set_option maxRecDepth 100000 in
theorem dtX11_share : MDok mdX11_share := by show DT cX11_share tX11_share; unfold DT tX11_share; decide +kernel
def tX11_percentRoundedUp : IT := [[(0, .iload_n 0, 1), (1, .i2l, 1), (2, .iload_n 1, 1), (3, .i2l, 1), (4, .lmul, 1), (5, .ldc2_w 328, 3), (8, .ladd, 1), (9, .ldc2_w 330, 3), (12, .ldiv, 1), (13, .l2i, 1), (14, .ireturn, 1)]]
abbrev mdX11_percentRoundedUp : MD := (RX11, yX11_percentRoundedUp, cX11_percentRoundedUp, 2, (some .int), tX11_percentRoundedUp)
set_option maxRecDepth 100000 in
theorem dtX11_percentRoundedUp : MDok mdX11_percentRoundedUp := by show DT cX11_percentRoundedUp tX11_percentRoundedUp; unfold DT tX11_percentRoundedUp; decide +kernel
def tX11_drawNotes : IT := [[(0, .aload_n 0, 1), (1, .getfield 10, 3), (4, .iload_n 1, 1), (5, .invokevirtual 45, 3), (8, .astore_n 3, 1), (9, .aload_n 0, 1), (10, .getfield 10, 3), (13, .aload_n 3, 1), (14, .getfield 76, 3), (17, .invokevirtual 79, 3), (20, .astore 4, 2), (22, .iload_n 2, 1), (23, .aload 4, 2), (25, .getfield 98, 3), (28, .aload 4, 2), (30, .getfield 133, 3), (33, .iadd, 1), (34, .invokestatic 332, 3), (37, .istore 5, 2), (39, .iload 5, 2), (41, .aload 4, 2), (43, .getfield 98, 3), (46, .invokestatic 332, 3), (49, .istore 6, 2), (51, .aload 4, 2), (53, .dup, 1), (54, .getfield 98, 3), (57, .iload 6, 2), (59, .isub, 1), (60, .putfield 98, 3), (63, .aload 4, 2), (65, .dup, 1), (66, .getfield 133, 3), (69, .iload 5, 2), (71, .iload 6, 2), (73, .isub, 1), (74, .isub, 1), (75, .putfield 133, 3), (78, .aload_n 0, 1), (79, .getfield 10, 3), (82, .iload_n 1, 1), (83, .iload 5, 2), (85, .ineg, 1), (86, .invokevirtual 101, 3), (89, .aload_n 3, 1), (90, .iload 5, 2), (92, .iconst 0, 1), (93, .invokevirtual 49, 3)], [(96, .iload 5, 2), (98, .ifCond .le 15, 3), (101, .aload_n 3, 1), (102, .aload_n 3, 1), (103, .getfield 76, 3), (106, .aload_n 0, 1), (107, .getfield 119, 3), (110, .invokevirtual 337, 3), (113, .iload 5, 2), (115, .ireturn, 1)]]
abbrev mdX11_drawNotes : MD := (RX11, yX11_drawNotes, cX11_drawNotes, 7, (some .int), tX11_drawNotes)
set_option maxRecDepth 100000 in
theorem dtX11_drawNotes : MDok mdX11_drawNotes := by show DT cX11_drawNotes tX11_drawNotes; unfold DT tX11_drawNotes; decide +kernel
def tX11_failBank : IT := [[(0, .aload_n 0, 1), (1, .getfield 10, 3), (4, .iload_n 1, 1), (5, .invokevirtual 79, 3), (8, .astore_n 2, 1), (9, .aload_n 0, 1), (10, .getfield 19, 3), (13, .aload_n 0, 1), (14, .getfield 10, 3), (17, .iload_n 1, 1), (18, .invokevirtual 340, 3), (21, .aload_n 0, 1), (22, .getfield 33, 3), (25, .iload_n 1, 1), (26, .invokevirtual 344, 3), (29, .aload_n 0, 1), (30, .getfield 33, 3), (33, .iload_n 1, 1), (34, .invokevirtual 198, 3), (37, .istore_n 3, 1), (38, .aload_n 0, 1), (39, .getfield 26, 3), (42, .iload_n 1, 1), (43, .invokevirtual 140, 3), (46, .istore 4, 2), (48, .aload_n 2, 1), (49, .getfield 133, 3), (52, .aload_n 2, 1), (53, .getfield 98, 3), (56, .iadd, 1), (57, .istore 5, 2), (59, .iload 5, 2), (61, .iload_n 3, 1), (62, .bipush 90, 2), (64, .bipush 100, 2), (66, .invokestatic 155, 3), (69, .iadd, 1), (70, .iload 4, 2), (72, .bipush 50, 2), (74, .bipush 100, 2), (76, .invokestatic 155, 3), (79, .iadd, 1), (80, .aload_n 2, 1), (81, .getfield 189, 3), (84, .isub, 1), (85, .istore 6, 2), (87, .aload_n 0, 1), (88, .getfield 10, 3)], [(91, .iload 5, 2), (93, .iload_n 3, 1), (94, .iadd, 1), (95, .iload 4, 2), (97, .iadd, 1), (98, .aload_n 2, 1), (99, .getfield 189, 3), (102, .isub, 1), (103, .invokevirtual 55, 3), (106, .aload_n 0, 1), (107, .getfield 33, 3), (110, .iload_n 1, 1), (111, .iload_n 3, 1), (112, .invokevirtual 201, 3), (115, .aload_n 0, 1), (116, .getfield 26, 3), (119, .iload_n 1, 1), (120, .invokevirtual 347, 3), (123, .aload_n 2, 1), (124, .invokevirtual 349, 3), (127, .aload_n 0, 1), (128, .getfield 10, 3), (131, .iload_n 1, 1), (132, .iload 6, 2), (134, .invokevirtual 352, 3), (137, .istore 7, 2), (139, .aload_n 0, 1), (140, .getfield 10, 3), (143, .iload 7, 2), (145, .ineg, 1), (146, .invokevirtual 55, 3), (149, .iload 7, 2), (151, .ireturn, 1)]]
abbrev mdX11_failBank : MD := (RX11, yX11_failBank, cX11_failBank, 8, (some .int), tX11_failBank)
set_option maxRecDepth 100000 in
theorem dtX11_failBank : MDok mdX11_failBank := by show DT cX11_failBank tX11_failBank; unfold DT tX11_failBank; decide +kernel
def tX11_passDay : IT := [[(0, .aload_n 0, 1), (1, .dup, 1), (2, .getfield 119, 3), (5, .iconst 1, 1), (6, .iadd, 1), (7, .putfield 119, 3), (10, .aload_n 0, 1), (11, .invokevirtual 355, 3), (14, .aload_n 0, 1), (15, .invokevirtual 358, 3), (18, .aload_n 0, 1), (19, .invokevirtual 361, 3), (22, .aload_n 0, 1), (23, .getfield 19, 3), (26, .aload_n 0, 1), (27, .getfield 10, 3), (30, .aload_n 0, 1), (31, .getfield 119, 3), (34, .invokevirtual 126, 3), (37, .pop, 1), (38, .aload_n 0, 1), (39, .getfield 33, 3), (42, .aload_n 0, 1), (43, .getfield 10, 3), (46, .aload_n 0, 1), (47, .getfield 119, 3), (50, .invokevirtual 364, 3), (53, .aload_n 0, 1), (54, .invokevirtual 367, 3), (57, .aload_n 0, 1), (58, .invokevirtual 370, 3), (61, .aload_n 0, 1), (62, .invokevirtual 373, 3), (65, .aload_n 0, 1), (66, .invokevirtual 376, 3), (69, .aload_n 0, 1), (70, .invokevirtual 379, 3), (73, .return_, 1)]]
abbrev mdX11_passDay : MD := (RX11, yX11_passDay, cX11_passDay, 1, none, tX11_passDay)
set_option maxRecDepth 100000 in
theorem dtX11_passDay : MDok mdX11_passDay := by show DT cX11_passDay tX11_passDay; unfold DT tX11_passDay; decide +kernel
def tX11_payWages : IT := [[(0, .iconst 0, 1), (1, .istore_n 1, 1), (2, .iload_n 1, 1), (3, .bipush 10, 2), (5, .if_icmp .ge 84, 3), (8, .aload_n 0, 1), (9, .getfield 10, 3), (12, .iload_n 1, 1), (13, .invokevirtual 45, 3), (16, .astore_n 2, 1), (17, .aload_n 2, 1), (18, .getfield 241, 3), (21, .iconst (-1), 1), (22, .if_icmp .ne 6, 3), (25, .goto 58, 3), (28, .aload_n 0, 1), (29, .aload_n 2, 1), (30, .getfield 241, 3), (33, .iload_n 1, 1), (34, .aload_n 2, 1), (35, .getfield 238, 3), (38, .invokevirtual 115, 3), (41, .ifCond .eq 32, 3), (44, .aload_n 0, 1), (45, .getfield 19, 3), (48, .aload_n 0, 1), (49, .getfield 10, 3), (52, .aload_n 2, 1), (53, .getfield 241, 3), (56, .iload_n 1, 1), (57, .aload_n 2, 1), (58, .getfield 238, 3), (61, .iconst (-1), 1), (62, .aload_n 0, 1), (63, .getfield 119, 3), (66, .invokevirtual 122, 3), (69, .pop, 1), (70, .goto 13, 3), (73, .aload_n 2, 1), (74, .iconst (-1), 1), (75, .putfield 241, 3), (78, .aload_n 2, 1), (79, .iconst 0, 1), (80, .putfield 238, 3), (83, .iinc 1 1, 3), (86, .goto (-84), 3), (89, .return_, 1)]]
abbrev mdX11_payWages : MD := (RX11, yX11_payWages, cX11_payWages, 3, none, tX11_payWages)
set_option maxRecDepth 100000 in
theorem dtX11_payWages : MDok mdX11_payWages := by show DT cX11_payWages tX11_payWages; unfold DT tX11_payWages; decide +kernel
def tX11_takeInterest : IT := [[(0, .iconst 0, 1), (1, .istore_n 1, 1), (2, .iload_n 1, 1), (3, .aload_n 0, 1), (4, .getfield 26, 3), (7, .getfield 316, 3), (10, .if_icmp .ge 69, 3), (13, .aload_n 0, 1), (14, .getfield 26, 3), (17, .iload_n 1, 1), (18, .invokevirtual 166, 3), (21, .astore_n 2, 1), (22, .aload_n 2, 1), (23, .getfield 170, 3), (26, .ifCond .gt 6, 3), (29, .goto 44, 3), (32, .aload_n 2, 1), (33, .getfield 170, 3), (36, .aload_n 2, 1), (37, .getfield 382, 3), (40, .sipush 1000, 3), (43, .invokestatic 155, 3), (46, .istore_n 3, 1), (47, .aload_n 0, 1), (48, .getfield 10, 3), (51, .aload_n 2, 1), (52, .iload_n 3, 1), (53, .invokevirtual 175, 3), (56, .ifCond .eq 12, 3), (59, .aload_n 0, 1), (60, .aload_n 2, 1), (61, .iload_n 3, 1), (62, .invokevirtual 383, 3), (65, .goto 8, 3), (68, .aload_n 0, 1), (69, .aload_n 2, 1), (70, .invokevirtual 386, 3), (73, .iinc 1 1, 3), (76, .goto (-74), 3), (79, .return_, 1)]]
abbrev mdX11_takeInterest : MD := (RX11, yX11_takeInterest, cX11_takeInterest, 4, none, tX11_takeInterest)
set_option maxRecDepth 100000 in
theorem dtX11_takeInterest : MDok mdX11_takeInterest := by show DT cX11_takeInterest tX11_takeInterest; unfold DT tX11_takeInterest; decide +kernel
def tX11_takeInterestOn : IT := [[(0, .aload_n 0, 1), (1, .getfield 10, 3), (4, .aload_n 1, 1), (5, .iload_n 2, 1), (6, .invokevirtual 179, 3), (9, .aload_n 1, 1), (10, .iconst 0, 1), (11, .putfield 285, 3), (14, .aload_n 1, 1), (15, .getfield 282, 3), (18, .iconst 4, 1), (19, .if_icmp .ne 11, 3), (22, .aload_n 0, 1), (23, .getfield 10, 3), (26, .iload_n 2, 1), (27, .invokevirtual 55, 3), (30, .return_, 1)]]
abbrev mdX11_takeInterestOn : MD := (RX11, yX11_takeInterestOn, cX11_takeInterestOn, 3, none, tX11_takeInterestOn)
set_option maxRecDepth 100000 in
theorem dtX11_takeInterestOn : MDok mdX11_takeInterestOn := by show DT cX11_takeInterestOn tX11_takeInterestOn; unfold DT tX11_takeInterestOn; decide +kernel
def tX11_missInterestOn : IT := [[(0, .aload_n 1, 1), (1, .dup, 1), (2, .getfield 285, 3), (5, .iconst 1, 1), (6, .iadd, 1), (7, .putfield 285, 3), (10, .aload_n 1, 1), (11, .getfield 285, 3), (14, .iconst 3, 1), (15, .if_icmp .ge 4, 3), (18, .return_, 1), (19, .aload_n 1, 1), (20, .getfield 282, 3), (23, .iconst 4, 1), (24, .if_icmp .ne 15, 3), (27, .aload_n 0, 1), (28, .getfield 10, 3), (31, .aload_n 1, 1), (32, .getfield 170, 3), (35, .ineg, 1), (36, .invokevirtual 55, 3), (39, .aload_n 1, 1), (40, .iconst 0, 1), (41, .putfield 170, 3), (44, .return_, 1)]]
abbrev mdX11_missInterestOn : MD := (RX11, yX11_missInterestOn, cX11_missInterestOn, 2, none, tX11_missInterestOn)
set_option maxRecDepth 100000 in
theorem dtX11_missInterestOn : MDok mdX11_missInterestOn := by show DT cX11_missInterestOn tX11_missInterestOn; unfold DT tX11_missInterestOn; decide +kernel
def tX11_takeInterestOfBanks : IT := [[(0, .iconst 0, 1), (1, .istore_n 1, 1), (2, .iload_n 1, 1), (3, .iconst 4, 1), (4, .if_icmp .ge 81, 3), (7, .aload_n 0, 1), (8, .getfield 10, 3), (11, .iload_n 1, 1), (12, .invokevirtual 79, 3), (15, .astore_n 2, 1), (16, .aload_n 2, 1), (17, .getfield 189, 3), (20, .aload_n 0, 1), (21, .getfield 10, 3), (24, .getfield 146, 3), (27, .getfield 192, 3), (30, .sipush 1000, 3), (33, .invokestatic 155, 3), (36, .istore_n 3, 1), (37, .iload_n 3, 1), (38, .aload_n 2, 1), (39, .getfield 133, 3), (42, .invokestatic 332, 3), (45, .istore 4, 2), (47, .aload_n 2, 1), (48, .dup, 1), (49, .getfield 133, 3), (52, .iload 4, 2), (54, .isub, 1), (55, .putfield 133, 3), (58, .aload_n 2, 1), (59, .dup, 1), (60, .getfield 189, 3), (63, .iload_n 3, 1), (64, .iload 4, 2), (66, .isub, 1), (67, .iadd, 1), (68, .putfield 189, 3), (71, .aload_n 0, 1), (72, .getfield 10, 3), (75, .iload_n 3, 1), (76, .invokevirtual 55, 3), (79, .iinc 1 1, 3), (82, .goto (-80), 3), (85, .return_, 1)]]
abbrev mdX11_takeInterestOfBanks : MD := (RX11, yX11_takeInterestOfBanks, cX11_takeInterestOfBanks, 5, none, tX11_takeInterestOfBanks)
set_option maxRecDepth 100000 in
theorem dtX11_takeInterestOfBanks : MDok mdX11_takeInterestOfBanks := by show DT cX11_takeInterestOfBanks tX11_takeInterestOfBanks; unfold DT tX11_takeInterestOfBanks; decide +kernel
def tX11_askForReserves : IT := [[(0, .iconst 0, 1), (1, .istore_n 1, 1), (2, .iload_n 1, 1), (3, .iconst 4, 1), (4, .if_icmp .ge 91, 3), (7, .aload_n 0, 1), (8, .getfield 10, 3), (11, .iload_n 1, 1), (12, .invokevirtual 79, 3), (15, .astore_n 2, 1), (16, .aload_n 0, 1), (17, .getfield 10, 3), (20, .iload_n 1, 1), (21, .invokevirtual 271, 3), (24, .aload_n 0, 1), (25, .getfield 10, 3), (28, .getfield 146, 3), (31, .getfield 195, 3), (34, .invokestatic 390, 3), (37, .istore_n 3, 1), (38, .iload_n 3, 1), (39, .aload_n 2, 1), (40, .getfield 133, 3), (43, .isub, 1), (44, .aload_n 2, 1), (45, .getfield 98, 3), (48, .isub, 1), (49, .istore 4, 2), (51, .iconst 0, 1), (52, .iload 4, 2), (54, .aload_n 0, 1), (55, .iload_n 1, 1), (56, .invokevirtual 183, 3), (59, .invokestatic 332, 3), (62, .invokestatic 393, 3), (65, .istore 5, 2), (67, .aload_n 2, 1), (68, .iload 5, 2), (70, .invokevirtual 186, 3), (73, .aload_n 2, 1), (74, .iload 4, 2), (76, .iload 5, 2), (78, .if_icmp .le 7, 3), (81, .iconst 1, 1), (82, .goto 4, 3), (85, .iconst 0, 1), (86, .putfield 277, 3), (89, .iinc 1 1, 3)], [(92, .goto (-90), 3), (95, .return_, 1)]]
abbrev mdX11_askForReserves : MD := (RX11, yX11_askForReserves, cX11_askForReserves, 6, none, tX11_askForReserves)
set_option maxRecDepth 100000 in
theorem dtX11_askForReserves : MDok mdX11_askForReserves := by show DT cX11_askForReserves tX11_askForReserves; unfold DT tX11_askForReserves; decide +kernel
def tX11_runOnBanks : IT := [[(0, .iconst 0, 1), (1, .istore_n 1, 1), (2, .iload_n 1, 1), (3, .bipush 10, 2), (5, .if_icmp .ge 61, 3), (8, .aload_n 0, 1), (9, .getfield 10, 3), (12, .iload_n 1, 1), (13, .invokevirtual 45, 3), (16, .astore_n 2, 1), (17, .aload_n 2, 1), (18, .getfield 76, 3), (21, .istore_n 3, 1), (22, .aload_n 2, 1), (23, .invokevirtual 104, 3), (26, .istore 4, 2), (28, .iload 4, 2), (30, .ifCond .le 30, 3), (33, .aload_n 0, 1), (34, .iload_n 1, 1), (35, .iload_n 3, 1), (36, .invokevirtual 396, 3), (39, .ifCond .eq 21, 3), (42, .aload_n 0, 1), (43, .iload_n 1, 1), (44, .iload 4, 2), (46, .invokevirtual 108, 3), (49, .iload 4, 2), (51, .if_icmp .ge 9, 3), (54, .aload_n 0, 1), (55, .iload_n 3, 1), (56, .invokevirtual 112, 3), (59, .pop, 1), (60, .iinc 1 1, 3), (63, .goto (-61), 3), (66, .return_, 1)]]
abbrev mdX11_runOnBanks : MD := (RX11, yX11_runOnBanks, cX11_runOnBanks, 5, none, tX11_runOnBanks)
set_option maxRecDepth 100000 in
theorem dtX11_runOnBanks : MDok mdX11_runOnBanks := by show DT cX11_runOnBanks tX11_runOnBanks; unfold DT tX11_runOnBanks; decide +kernel
def tX11_isAfraid : IT := [[(0, .aload_n 0, 1), (1, .getfield 10, 3), (4, .iload_n 2, 1), (5, .invokevirtual 79, 3), (8, .getfield 277, 3), (11, .ifCond .ne 25, 3), (14, .aload_n 0, 1), (15, .iload_n 1, 1), (16, .iconst 1, 1), (17, .isub, 1), (18, .iload_n 2, 1), (19, .invokevirtual 400, 3), (22, .ifCond .ne 14, 3), (25, .aload_n 0, 1), (26, .iload_n 1, 1), (27, .iconst 1, 1), (28, .iadd, 1), (29, .iload_n 2, 1), (30, .invokevirtual 400, 3), (33, .ifCond .eq 7, 3), (36, .iconst 1, 1), (37, .goto 4, 3), (40, .iconst 0, 1), (41, .ireturn, 1)]]
abbrev mdX11_isAfraid : MD := (RX11, yX11_isAfraid, cX11_isAfraid, 3, (some .boolean), tX11_isAfraid)
set_option maxRecDepth 100000 in
theorem dtX11_isAfraid : MDok mdX11_isAfraid := by show DT cX11_isAfraid tX11_isAfraid; unfold DT tX11_isAfraid; decide +kernel
def tX11_hasDrawn : IT := [[(0, .iload_n 1, 1), (1, .ifCond .lt 34, 3), (4, .iload_n 1, 1), (5, .bipush 10, 2), (7, .if_icmp .ge 28, 3), (10, .aload_n 0, 1), (11, .getfield 10, 3), (14, .iload_n 1, 1), (15, .invokevirtual 45, 3), (18, .iload_n 2, 1), (19, .aload_n 0, 1), (20, .getfield 119, 3), (23, .iconst 1, 1), (24, .isub, 1), (25, .invokevirtual 403, 3), (28, .ifCond .eq 7, 3), (31, .iconst 1, 1), (32, .goto 4, 3), (35, .iconst 0, 1), (36, .ireturn, 1)]]
abbrev mdX11_hasDrawn : MD := (RX11, yX11_hasDrawn, cX11_hasDrawn, 3, (some .boolean), tX11_hasDrawn)
set_option maxRecDepth 100000 in
theorem dtX11_hasDrawn : MDok mdX11_hasDrawn := by show DT cX11_hasDrawn tX11_hasDrawn; unfold DT tX11_hasDrawn; decide +kernel
def tX11_failBanksWithoutCapital : IT := [[(0, .iconst 0, 1), (1, .istore_n 1, 1), (2, .iload_n 1, 1), (3, .iconst 4, 1), (4, .if_icmp .ge 37, 3), (7, .aload_n 0, 1), (8, .getfield 10, 3), (11, .iload_n 1, 1), (12, .invokevirtual 79, 3), (15, .getfield 82, 3), (18, .ifCond .ne 17, 3), (21, .aload_n 0, 1), (22, .iload_n 1, 1), (23, .invokevirtual 143, 3), (26, .ifCond .ge 9, 3), (29, .aload_n 0, 1), (30, .iload_n 1, 1), (31, .invokevirtual 112, 3), (34, .pop, 1), (35, .iinc 1 1, 3), (38, .goto (-36), 3), (41, .return_, 1)]]
abbrev mdX11_failBanksWithoutCapital : MD := (RX11, yX11_failBanksWithoutCapital, cX11_failBanksWithoutCapital, 2, none, tX11_failBanksWithoutCapital)
set_option maxRecDepth 100000 in
theorem dtX11_failBanksWithoutCapital : MDok mdX11_failBanksWithoutCapital := by show DT cX11_failBanksWithoutCapital tX11_failBanksWithoutCapital; unfold DT tX11_failBanksWithoutCapital; decide +kernel
def tX11_changePrices : IT := [[(0, .bipush 10, 2), (2, .istore_n 1, 1), (3, .iload_n 1, 1), (4, .bipush 16, 2), (6, .if_icmp .ge 65, 3), (9, .aload_n 0, 1), (10, .getfield 10, 3), (13, .iload_n 1, 1), (14, .invokevirtual 45, 3), (17, .astore_n 2, 1), (18, .aload_n 2, 1), (19, .getfield 247, 3), (22, .iconst 5, 1), (23, .if_icmp .lt 16, 3), (26, .aload_n 2, 1), (27, .dup, 1), (28, .getfield 244, 3), (31, .iconst 1, 1), (32, .iadd, 1), (33, .putfield 244, 3), (36, .goto 24, 3), (39, .aload_n 2, 1), (40, .getfield 247, 3), (43, .ifCond .ne 17, 3), (46, .aload_n 2, 1), (47, .iconst 1, 1), (48, .aload_n 2, 1), (49, .getfield 244, 3), (52, .iconst 1, 1), (53, .isub, 1), (54, .invokestatic 393, 3), (57, .putfield 244, 3), (60, .aload_n 2, 1), (61, .iconst 0, 1), (62, .putfield 247, 3), (65, .iinc 1 1, 3), (68, .goto (-65), 3), (71, .return_, 1)]]
abbrev mdX11_changePrices : MD := (RX11, yX11_changePrices, cX11_changePrices, 3, none, tX11_changePrices)
set_option maxRecDepth 100000 in
theorem dtX11_changePrices : MDok mdX11_changePrices := by show DT cX11_changePrices tX11_changePrices; unfold DT tX11_changePrices; decide +kernel
def tX11_changeExpectations : IT := [[(0, .iconst 0, 1), (1, .istore_n 1, 1), (2, .bipush 10, 2), (4, .istore_n 2, 1), (5, .iload_n 2, 1), (6, .bipush 16, 2), (8, .if_icmp .ge 23, 3), (11, .iload_n 1, 1), (12, .aload_n 0, 1), (13, .getfield 10, 3), (16, .iload_n 2, 1), (17, .invokevirtual 45, 3), (20, .getfield 244, 3), (23, .iadd, 1), (24, .istore_n 1, 1), (25, .iinc 2 1, 3), (28, .goto (-23), 3), (31, .iload_n 1, 1), (32, .bipush 6, 2), (34, .idiv, 1), (35, .istore_n 2, 1), (36, .iconst 0, 1), (37, .istore_n 3, 1), (38, .iload_n 3, 1), (39, .bipush 10, 2), (41, .if_icmp .ge 38, 3), (44, .aload_n 0, 1), (45, .getfield 10, 3), (48, .iload_n 3, 1), (49, .invokevirtual 45, 3), (52, .astore 4, 2), (54, .aload 4, 2), (56, .dup, 1), (57, .getfield 259, 3), (60, .iload_n 2, 1), (61, .aload 4, 2), (63, .getfield 259, 3), (66, .isub, 1), (67, .iconst 4, 1), (68, .idiv, 1), (69, .iadd, 1), (70, .putfield 259, 3), (73, .iinc 3 1, 3), (76, .goto (-38), 3), (79, .return_, 1)]]
abbrev mdX11_changeExpectations : MD := (RX11, yX11_changeExpectations, cX11_changeExpectations, 5, none, tX11_changeExpectations)
set_option maxRecDepth 100000 in
theorem dtX11_changeExpectations : MDok mdX11_changeExpectations := by show DT cX11_changeExpectations tX11_changeExpectations; unfold DT tX11_changeExpectations; decide +kernel
def tX12_init : IT := [[(0, .aload_n 0, 1), (1, .invokespecial 1, 3), (4, .aload_n 0, 1), (5, .bipush 10, 2), (7, .putfield 7, 3), (10, .aload_n 0, 1), (11, .bipush 10, 2), (13, .putfield 13, 3), (16, .aload_n 0, 1), (17, .bipush 16, 2), (19, .newarray .int, 2), (21, .putfield 16, 3), (24, .aload_n 0, 1), (25, .bipush 16, 2), (27, .newarray .int, 2), (29, .putfield 20, 3), (32, .aload_n 0, 1), (33, .bipush 16, 2), (35, .newarray .int, 2), (37, .putfield 23, 3), (40, .aload_n 0, 1), (41, .bipush 16, 2), (43, .newarray .int, 2), (45, .putfield 26, 3), (48, .aload_n 0, 1), (49, .bipush 16, 2), (51, .newarray .int, 2), (53, .putfield 29, 3), (56, .aload_n 0, 1), (57, .bipush 10, 2), (59, .newarray .int, 2), (61, .putfield 32, 3), (64, .aload_n 0, 1), (65, .bipush 10, 2), (67, .newarray .int, 2), (69, .putfield 35, 3), (72, .aload_n 0, 1), (73, .bipush 10, 2), (75, .newarray .int, 2), (77, .putfield 38, 3), (80, .aload_n 0, 1), (81, .bipush 40, 2), (83, .newarray .int, 2), (85, .putfield 41, 3), (88, .aload_n 0, 1), (89, .bipush 16, 2), (91, .newarray .int, 2), (93, .putfield 44, 3)], [(96, .aload_n 0, 1), (97, .bipush 16, 2), (99, .newarray .int, 2), (101, .putfield 47, 3), (104, .aload_n 0, 1), (105, .iconst 4, 1), (106, .newarray .int, 2), (108, .putfield 50, 3), (111, .aload_n 0, 1), (112, .iconst 4, 1), (113, .newarray .int, 2), (115, .putfield 53, 3), (118, .aload_n 0, 1), (119, .iconst 4, 1), (120, .newarray .int, 2), (122, .putfield 56, 3), (125, .aload_n 0, 1), (126, .iconst 4, 1), (127, .newarray .int, 2), (129, .putfield 59, 3), (132, .aload_n 0, 1), (133, .iconst 4, 1), (134, .newarray .boolean, 2), (136, .putfield 62, 3), (139, .aload_n 0, 1), (140, .iconst 4, 1), (141, .newarray .boolean, 2), (143, .putfield 66, 3), (146, .aload_n 0, 1), (147, .iconst 4, 1), (148, .newarray .int, 2), (150, .putfield 69, 3), (153, .aload_n 0, 1), (154, .iconst 4, 1), (155, .newarray .int, 2), (157, .putfield 72, 3), (160, .aload_n 0, 1), (161, .bipush 20, 2), (163, .newarray .int, 2), (165, .putfield 75, 3), (168, .aload_n 0, 1), (169, .bipush 20, 2), (171, .newarray .int, 2), (173, .putfield 78, 3), (176, .aload_n 0, 1), (177, .bipush 20, 2), (179, .newarray .int, 2), (181, .putfield 81, 3)], [(184, .aload_n 0, 1), (185, .bipush 20, 2), (187, .newarray .int, 2), (189, .putfield 84, 3), (192, .aload_n 0, 1), (193, .bipush 20, 2), (195, .newarray .int, 2), (197, .putfield 87, 3), (200, .aload_n 0, 1), (201, .sipush 200, 3), (204, .newarray .int, 2), (206, .putfield 90, 3), (209, .aload_n 0, 1), (210, .sipush 200, 3), (213, .newarray .int, 2), (215, .putfield 93, 3), (218, .aload_n 0, 1), (219, .sipush 200, 3), (222, .newarray .int, 2), (224, .putfield 96, 3), (227, .aload_n 0, 1), (228, .sipush 200, 3), (231, .newarray .int, 2), (233, .putfield 99, 3), (236, .aload_n 0, 1), (237, .sipush 200, 3), (240, .newarray .boolean, 2), (242, .putfield 102, 3), (245, .aload_n 0, 1), (246, .sipush 200, 3), (249, .newarray .int, 2), (251, .putfield 105, 3), (254, .aload_n 0, 1), (255, .sipush 200, 3), (258, .newarray .int, 2), (260, .putfield 108, 3), (263, .aload_n 0, 1), (264, .sipush 200, 3), (267, .newarray .boolean, 2), (269, .putfield 111, 3), (272, .aload_n 0, 1), (273, .bipush 20, 2), (275, .newarray .int, 2), (277, .putfield 114, 3), (280, .aload_n 0, 1), (281, .bipush 100, 2), (283, .newarray .int, 2), (285, .putfield 117, 3)], [(288, .aload_n 0, 1), (289, .bipush 12, 2), (291, .newarray .int, 2), (293, .putfield 120, 3), (296, .aload_n 0, 1), (297, .bipush 12, 2), (299, .newarray .int, 2), (301, .putfield 123, 3), (304, .aload_n 0, 1), (305, .bipush 12, 2), (307, .newarray .int, 2), (309, .putfield 126, 3), (312, .aload_n 0, 1), (313, .bipush 12, 2), (315, .newarray .int, 2), (317, .putfield 129, 3), (320, .aload_n 0, 1), (321, .bipush 12, 2), (323, .newarray .boolean, 2), (325, .putfield 132, 3), (328, .aload_n 0, 1), (329, .bipush 100, 2), (331, .putfield 135, 3), (334, .iconst 0, 1), (335, .istore_n 1, 1), (336, .iload_n 1, 1), (337, .bipush 16, 2), (339, .if_icmp .ge 24, 3), (342, .aload_n 0, 1), (343, .getfield 23, 3), (346, .iload_n 1, 1), (347, .iconst (-1), 1), (348, .iastore, 1), (349, .aload_n 0, 1), (350, .getfield 44, 3), (353, .iload_n 1, 1), (354, .bipush 10, 2), (356, .iastore, 1), (357, .iinc 1 1, 3), (360, .goto (-24), 3), (363, .iconst 0, 1), (364, .istore_n 1, 1), (365, .iload_n 1, 1), (366, .bipush 10, 2), (368, .if_icmp .ge 24, 3), (371, .aload_n 0, 1), (372, .getfield 32, 3), (375, .iload_n 1, 1)], [(376, .iconst (-1), 1), (377, .iastore, 1), (378, .aload_n 0, 1), (379, .getfield 38, 3), (382, .iload_n 1, 1), (383, .bipush 10, 2), (385, .iastore, 1), (386, .iinc 1 1, 3), (389, .goto (-24), 3), (392, .iconst 0, 1), (393, .istore_n 1, 1), (394, .iload_n 1, 1), (395, .bipush 40, 2), (397, .if_icmp .ge 17, 3), (400, .aload_n 0, 1), (401, .getfield 41, 3), (404, .iload_n 1, 1), (405, .bipush (-9), 2), (407, .iastore, 1), (408, .iinc 1 1, 3), (411, .goto (-17), 3), (414, .iconst 0, 1), (415, .istore_n 1, 1), (416, .iload_n 1, 1), (417, .iconst 4, 1), (418, .if_icmp .ge 18, 3), (421, .aload_n 0, 1), (422, .getfield 59, 3), (425, .iload_n 1, 1), (426, .sipush 1000, 3), (429, .iastore, 1), (430, .iinc 1 1, 3), (433, .goto (-17), 3), (436, .return_, 1)]]
abbrev mdX12_init : MD := (RX12, yX12_init, cX12_init, 2, none, tX12_init)
set_option maxRecDepth 100000 in
theorem dtX12_init : MDok mdX12_init := by show DT cX12_init tX12_init; unfold DT tX12_init; decide +kernel
def tX12_thrown : IT := [[(0, .aload_n 0, 1), (1, .getfield 138, 3), (4, .ireturn, 1)]]
abbrev mdX12_thrown : MD := (RX12, yX12_thrown, cX12_thrown, 1, (some .int), tX12_thrown)
set_option maxRecDepth 100000 in
theorem dtX12_thrown : MDok mdX12_thrown := by show DT cX12_thrown tX12_thrown; unfold DT tX12_thrown; decide +kernel
def tX12_holds : IT := [[(0, .aload_n 0, 1), (1, .iload_n 1, 1), (2, .putfield 138, 3), (5, .iload_n 1, 1), (6, .ifCond .ne 7, 3), (9, .iconst 1, 1), (10, .goto 4, 3), (13, .iconst 0, 1), (14, .ireturn, 1)]]
abbrev mdX12_holds : MD := (RX12, yX12_holds, cX12_holds, 2, (some .boolean), tX12_holds)
set_option maxRecDepth 100000 in
theorem dtX12_holds : MDok mdX12_holds := by show DT cX12_holds tX12_holds; unfold DT tX12_holds; decide +kernel
def tX12_in : IT := [[(0, .iload_n 0, 1), (1, .iload_n 1, 1), (2, .if_icmp .lt 12, 3), (5, .iload_n 0, 1), (6, .iload_n 2, 1), (7, .if_icmp .gt 7, 3), (10, .iconst 1, 1), (11, .goto 4, 3), (14, .iconst 0, 1), (15, .ireturn, 1)]]
abbrev mdX12_in : MD := (RX12, yX12_in, cX12_in, 3, (some .boolean), tX12_in)
set_option maxRecDepth 100000 in
theorem dtX12_in : MDok mdX12_in := by show DT cX12_in tX12_in; unfold DT tX12_in; decide +kernel
def tX12_isHolder : IT := [[(0, .iload_n 0, 1), (1, .iconst 0, 1), (2, .bipush 15, 2), (4, .invokestatic 141, 3), (7, .ireturn, 1)]]
abbrev mdX12_isHolder : MD := (RX12, yX12_isHolder, cX12_isHolder, 1, (some .boolean), tX12_isHolder)
set_option maxRecDepth 100000 in
theorem dtX12_isHolder : MDok mdX12_isHolder := by show DT cX12_isHolder tX12_isHolder; unfold DT tX12_isHolder; decide +kernel
def tX12_isFirm : IT := [[(0, .iload_n 0, 1), (1, .bipush 10, 2), (3, .bipush 15, 2), (5, .invokestatic 141, 3), (8, .ireturn, 1)]]
abbrev mdX12_isFirm : MD := (RX12, yX12_isFirm, cX12_isFirm, 1, (some .boolean), tX12_isFirm)
set_option maxRecDepth 100000 in
theorem dtX12_isFirm : MDok mdX12_isFirm := by show DT cX12_isFirm tX12_isFirm; unfold DT tX12_isFirm; decide +kernel
def tX12_isHousehold : IT := [[(0, .iload_n 0, 1), (1, .iconst 0, 1), (2, .bipush 9, 2), (4, .invokestatic 141, 3), (7, .ireturn, 1)]]
abbrev mdX12_isHousehold : MD := (RX12, yX12_isHousehold, cX12_isHousehold, 1, (some .boolean), tX12_isHousehold)
set_option maxRecDepth 100000 in
theorem dtX12_isHousehold : MDok mdX12_isHousehold := by show DT cX12_isHousehold tX12_isHousehold; unfold DT tX12_isHousehold; decide +kernel
def tX12_isBank : IT := [[(0, .iload_n 0, 1), (1, .iconst 0, 1), (2, .iconst 3, 1), (3, .invokestatic 141, 3), (6, .ireturn, 1)]]
abbrev mdX12_isBank : MD := (RX12, yX12_isBank, cX12_isBank, 1, (some .boolean), tX12_isBank)
set_option maxRecDepth 100000 in
theorem dtX12_isBank : MDok mdX12_isBank := by show DT cX12_isBank tX12_isBank; unfold DT tX12_isBank; decide +kernel
def tX12_least : IT := [[(0, .iload_n 0, 1), (1, .iload_n 1, 1), (2, .if_icmp .ge 7, 3), (5, .iload_n 0, 1), (6, .goto 4, 3), (9, .iload_n 1, 1), (10, .ireturn, 1)]]
abbrev mdX12_least : MD := (RX12, yX12_least, cX12_least, 2, (some .int), tX12_least)
set_option maxRecDepth 100000 in
theorem dtX12_least : MDok mdX12_least := by show DT cX12_least tX12_least; unfold DT tX12_least; decide +kernel
def tX12_most : IT := [[(0, .iload_n 0, 1), (1, .iload_n 1, 1), (2, .if_icmp .le 7, 3), (5, .iload_n 0, 1), (6, .goto 4, 3), (9, .iload_n 1, 1), (10, .ireturn, 1)]]
abbrev mdX12_most : MD := (RX12, yX12_most, cX12_most, 2, (some .int), tX12_most)
set_option maxRecDepth 100000 in
theorem dtX12_most : MDok mdX12_most := by show DT cX12_most tX12_most; unfold DT tX12_most; decide +kernel
def tX12_up : IT := [[(0, .iload_n 0, 1), (1, .iload_n 1, 1), (2, .iadd, 1), (3, .iconst 1, 1), (4, .isub, 1), (5, .iload_n 1, 1), (6, .idiv, 1), (7, .ireturn, 1)]]
abbrev mdX12_up : MD := (RX12, yX12_up, cX12_up, 2, (some .int), tX12_up)
set_option maxRecDepth 100000 in
theorem dtX12_up : MDok mdX12_up := by show DT cX12_up tX12_up; unfold DT tX12_up; decide +kernel
def tX12_free : IT := [[(0, .aload_n 0, 1), (1, .getfield 26, 3), (4, .iload_n 1, 1), (5, .iaload, 1), (6, .aload_n 0, 1), (7, .getfield 29, 3), (10, .iload_n 1, 1), (11, .iaload, 1), (12, .isub, 1), (13, .ireturn, 1)]]
abbrev mdX12_free : MD := (RX12, yX12_free, cX12_free, 2, (some .int), tX12_free)
set_option maxRecDepth 100000 in
theorem dtX12_free : MDok mdX12_free := by show DT cX12_free tX12_free; unfold DT tX12_free; decide +kernel
def tX12_hasAccount : IT := [[(0, .aload_n 0, 1), (1, .getfield 23, 3), (4, .iload_n 1, 1), (5, .iaload, 1), (6, .iconst (-1), 1), (7, .if_icmp .eq 7, 3), (10, .iconst 1, 1), (11, .goto 4, 3), (14, .iconst 0, 1), (15, .ireturn, 1)]]
abbrev mdX12_hasAccount : MD := (RX12, yX12_hasAccount, cX12_hasAccount, 2, (some .boolean), tX12_hasAccount)
set_option maxRecDepth 100000 in
theorem dtX12_hasAccount : MDok mdX12_hasAccount := by show DT cX12_hasAccount tX12_hasAccount; unfold DT tX12_hasAccount; decide +kernel
def tX12_inAccounts : IT := [[(0, .iconst 0, 1), (1, .istore_n 2, 1), (2, .iconst 0, 1), (3, .istore_n 3, 1), (4, .iload_n 3, 1), (5, .bipush 16, 2), (7, .if_icmp .ge 32, 3), (10, .iload_n 2, 1), (11, .aload_n 0, 1), (12, .getfield 23, 3), (15, .iload_n 3, 1), (16, .iaload, 1), (17, .iload_n 1, 1), (18, .if_icmp .ne 12, 3), (21, .aload_n 0, 1), (22, .getfield 26, 3), (25, .iload_n 3, 1), (26, .iaload, 1), (27, .goto 4, 3), (30, .iconst 0, 1), (31, .iadd, 1), (32, .istore_n 2, 1), (33, .iinc 3 1, 3), (36, .goto (-32), 3), (39, .iload_n 2, 1), (40, .ireturn, 1)]]
abbrev mdX12_inAccounts : MD := (RX12, yX12_inAccounts, cX12_inAccounts, 4, (some .int), tX12_inAccounts)
set_option maxRecDepth 100000 in
theorem dtX12_inAccounts : MDok mdX12_inAccounts := by show DT cX12_inAccounts tX12_inAccounts; unfold DT tX12_inAccounts; decide +kernel
def tX12_bondsOf : IT := [[(0, .iconst 0, 1), (1, .istore_n 2, 1), (2, .iconst 0, 1), (3, .istore_n 3, 1), (4, .iload_n 3, 1), (5, .aload_n 0, 1), (6, .getfield 145, 3), (9, .if_icmp .ge 22, 3), (12, .iload_n 2, 1), (13, .aload_n 0, 1), (14, .getfield 117, 3), (17, .iconst 5, 1), (18, .iload_n 3, 1), (19, .imul, 1), (20, .iload_n 1, 1), (21, .iadd, 1), (22, .iaload, 1), (23, .iadd, 1), (24, .istore_n 2, 1), (25, .iinc 3 1, 3), (28, .goto (-24), 3), (31, .iload_n 2, 1), (32, .ireturn, 1)]]
abbrev mdX12_bondsOf : MD := (RX12, yX12_bondsOf, cX12_bondsOf, 4, (some .int), tX12_bondsOf)
set_option maxRecDepth 100000 in
theorem dtX12_bondsOf : MDok mdX12_bondsOf := by show DT cX12_bondsOf tX12_bondsOf; unfold DT tX12_bondsOf; decide +kernel
def tX12_loansOf : IT := [[(0, .iconst 0, 1), (1, .istore_n 2, 1), (2, .iconst 0, 1), (3, .istore_n 3, 1), (4, .iload_n 3, 1), (5, .aload_n 0, 1), (6, .getfield 148, 3), (9, .if_icmp .ge 32, 3), (12, .iload_n 2, 1), (13, .aload_n 0, 1), (14, .getfield 78, 3), (17, .iload_n 3, 1), (18, .iaload, 1), (19, .iload_n 1, 1), (20, .if_icmp .ne 12, 3), (23, .aload_n 0, 1), (24, .getfield 81, 3), (27, .iload_n 3, 1), (28, .iaload, 1), (29, .goto 4, 3), (32, .iconst 0, 1), (33, .iadd, 1), (34, .istore_n 2, 1), (35, .iinc 3 1, 3), (38, .goto (-34), 3), (41, .iload_n 2, 1), (42, .ireturn, 1)]]
abbrev mdX12_loansOf : MD := (RX12, yX12_loansOf, cX12_loansOf, 4, (some .int), tX12_loansOf)
set_option maxRecDepth 100000 in
theorem dtX12_loansOf : MDok mdX12_loansOf := by show DT cX12_loansOf tX12_loansOf; unfold DT tX12_loansOf; decide +kernel
def tX12_capital : IT := [[(0, .aload_n 0, 1), (1, .getfield 50, 3), (4, .iload_n 1, 1), (5, .iaload, 1), (6, .aload_n 0, 1), (7, .getfield 53, 3), (10, .iload_n 1, 1), (11, .iaload, 1), (12, .iadd, 1), (13, .aload_n 0, 1), (14, .iload_n 1, 1), (15, .invokevirtual 151, 3), (18, .iadd, 1), (19, .aload_n 0, 1), (20, .iload_n 1, 1), (21, .invokevirtual 155, 3), (24, .iadd, 1), (25, .aload_n 0, 1), (26, .iload_n 1, 1), (27, .invokevirtual 158, 3), (30, .isub, 1), (31, .aload_n 0, 1), (32, .getfield 56, 3), (35, .iload_n 1, 1), (36, .iaload, 1), (37, .isub, 1), (38, .ireturn, 1)]]
abbrev mdX12_capital : MD := (RX12, yX12_capital, cX12_capital, 2, (some .int), tX12_capital)
set_option maxRecDepth 100000 in
theorem dtX12_capital : MDok mdX12_capital := by show DT cX12_capital tX12_capital; unfold DT tX12_capital; decide +kernel
def tX12_room : IT := [[(0, .bipush 90, 2), (2, .aload_n 0, 1), (3, .iload_n 1, 1), (4, .invokevirtual 151, 3), (7, .imul, 1), (8, .bipush 100, 2), (10, .idiv, 1), (11, .aload_n 0, 1), (12, .getfield 56, 3), (15, .iload_n 1, 1), (16, .iaload, 1), (17, .isub, 1), (18, .iconst 0, 1), (19, .invokestatic 161, 3), (22, .ireturn, 1)]]
abbrev mdX12_room : MD := (RX12, yX12_room, cX12_room, 2, (some .int), tX12_room)
set_option maxRecDepth 100000 in
theorem dtX12_room : MDok mdX12_room := by show DT cX12_room tX12_room; unfold DT tX12_room; decide +kernel
def tX12_centralCapital : IT := [[(0, .aload_n 0, 1), (1, .iconst 4, 1), (2, .invokevirtual 151, 3), (5, .aload_n 0, 1), (6, .iconst 4, 1), (7, .invokevirtual 155, 3), (10, .iadd, 1), (11, .aload_n 0, 1), (12, .getfield 165, 3), (15, .iadd, 1), (16, .aload_n 0, 1), (17, .getfield 168, 3), (20, .isub, 1), (21, .istore_n 1, 1), (22, .iconst 0, 1), (23, .istore_n 2, 1), (24, .iload_n 2, 1), (25, .iconst 4, 1), (26, .if_icmp .ge 32, 3), (29, .iload_n 1, 1), (30, .aload_n 0, 1), (31, .getfield 56, 3), (34, .iload_n 2, 1), (35, .iaload, 1), (36, .aload_n 0, 1), (37, .getfield 50, 3), (40, .iload_n 2, 1), (41, .iaload, 1), (42, .isub, 1), (43, .aload_n 0, 1), (44, .getfield 53, 3), (47, .iload_n 2, 1), (48, .iaload, 1), (49, .isub, 1), (50, .iadd, 1), (51, .istore_n 1, 1), (52, .iinc 2 1, 3), (55, .goto (-31), 3), (58, .iconst 0, 1), (59, .istore_n 2, 1), (60, .iload_n 2, 1), (61, .bipush 16, 2), (63, .if_icmp .ge 25, 3), (66, .iload_n 1, 1), (67, .aload_n 0, 1), (68, .getfield 16, 3), (71, .iload_n 2, 1), (72, .iaload, 1)], [(73, .aload_n 0, 1), (74, .getfield 20, 3), (77, .iload_n 2, 1), (78, .iaload, 1), (79, .isub, 1), (80, .isub, 1), (81, .istore_n 1, 1), (82, .iinc 2 1, 3), (85, .goto (-25), 3), (88, .iload_n 1, 1), (89, .ireturn, 1)]]
abbrev mdX12_centralCapital : MD := (RX12, yX12_centralCapital, cX12_centralCapital, 3, (some .int), tX12_centralCapital)
set_option maxRecDepth 100000 in
theorem dtX12_centralCapital : MDok mdX12_centralCapital := by show DT cX12_centralCapital tX12_centralCapital; unfold DT tX12_centralCapital; decide +kernel
def tX12_mint : IT := [[(0, .aload_n 0, 1), (1, .iload_n 1, 1), (2, .invokestatic 171, 3), (5, .ifCond .ne 7, 3), (8, .iconst 1, 1), (9, .goto 19, 3), (12, .iload_n 2, 1), (13, .iconst 1, 1), (14, .sipush 1000, 3), (17, .invokestatic 141, 3), (20, .ifCond .eq 7, 3), (23, .iconst 0, 1), (24, .goto 4, 3), (27, .iconst 2, 1), (28, .invokevirtual 175, 3), (31, .ifCond .ne 5, 3), (34, .iconst 0, 1), (35, .ireturn, 1), (36, .aload_n 0, 1), (37, .getfield 16, 3), (40, .iload_n 1, 1), (41, .dup2, 1), (42, .iaload, 1), (43, .iload_n 2, 1), (44, .iadd, 1), (45, .iastore, 1), (46, .aload_n 0, 1), (47, .getfield 16, 3), (50, .iload_n 1, 1), (51, .iaload, 1), (52, .ireturn, 1)]]
abbrev mdX12_mint : MD := (RX12, yX12_mint, cX12_mint, 3, (some .int), tX12_mint)
set_option maxRecDepth 100000 in
theorem dtX12_mint : MDok mdX12_mint := by show DT cX12_mint tX12_mint; unfold DT tX12_mint; decide +kernel
def tX12_forge : IT := [[(0, .aload_n 0, 1), (1, .iload_n 1, 1), (2, .invokestatic 171, 3), (5, .ifCond .ne 7, 3), (8, .iconst 1, 1), (9, .goto 18, 3), (12, .iload_n 2, 1), (13, .iconst 1, 1), (14, .bipush 100, 2), (16, .invokestatic 141, 3), (19, .ifCond .eq 7, 3), (22, .iconst 0, 1), (23, .goto 4, 3), (26, .iconst 2, 1), (27, .invokevirtual 175, 3), (30, .ifCond .ne 5, 3), (33, .iconst 0, 1), (34, .ireturn, 1), (35, .aload_n 0, 1), (36, .getfield 16, 3), (39, .iload_n 1, 1), (40, .dup2, 1), (41, .iaload, 1), (42, .iload_n 2, 1), (43, .iadd, 1), (44, .iastore, 1), (45, .aload_n 0, 1), (46, .getfield 20, 3), (49, .iload_n 1, 1), (50, .dup2, 1), (51, .iaload, 1), (52, .iload_n 2, 1), (53, .iadd, 1), (54, .iastore, 1), (55, .aload_n 0, 1), (56, .getfield 16, 3), (59, .iload_n 1, 1), (60, .iaload, 1), (61, .ireturn, 1)]]
abbrev mdX12_forge : MD := (RX12, yX12_forge, cX12_forge, 3, (some .int), tX12_forge)
set_option maxRecDepth 100000 in
theorem dtX12_forge : MDok mdX12_forge := by show DT cX12_forge tX12_forge; unfold DT tX12_forge; decide +kernel
def tX12_leave : IT := [[(0, .iload_n 2, 1), (1, .i2l, 1), (2, .aload_n 0, 1), (3, .getfield 20, 3), (6, .iload_n 1, 1), (7, .iaload, 1), (8, .i2l, 1), (9, .lmul, 1), (10, .aload_n 0, 1), (11, .getfield 16, 3), (14, .iload_n 1, 1), (15, .iaload, 1), (16, .i2l, 1), (17, .ldiv, 1), (18, .l2i, 1), (19, .istore_n 3, 1), (20, .aload_n 0, 1), (21, .getfield 16, 3), (24, .iload_n 1, 1), (25, .dup2, 1), (26, .iaload, 1), (27, .iload_n 2, 1), (28, .isub, 1), (29, .iastore, 1), (30, .aload_n 0, 1), (31, .getfield 20, 3), (34, .iload_n 1, 1), (35, .dup2, 1), (36, .iaload, 1), (37, .iload_n 3, 1), (38, .isub, 1), (39, .iastore, 1), (40, .iload_n 3, 1), (41, .ireturn, 1)]]
abbrev mdX12_leave : MD := (RX12, yX12_leave, cX12_leave, 4, (some .int), tX12_leave)
set_option maxRecDepth 100000 in
theorem dtX12_leave : MDok mdX12_leave := by show DT cX12_leave tX12_leave; unfold DT tX12_leave; decide +kernel
def tX12_hand : IT := [[(0, .iload_n 1, 1), (1, .invokestatic 171, 3), (4, .ifCond .eq 14, 3), (7, .iload_n 2, 1), (8, .invokestatic 171, 3), (11, .ifCond .eq 7, 3), (14, .iconst 1, 1), (15, .goto 4, 3), (18, .iconst 0, 1), (19, .istore 4, 2), (21, .iload 4, 2), (23, .ifCond .eq 23, 3), (26, .iload_n 1, 1), (27, .iload_n 2, 1), (28, .if_icmp .eq 18, 3), (31, .iload_n 3, 1), (32, .iconst 1, 1), (33, .sipush 10000, 3), (36, .invokestatic 141, 3), (39, .ifCond .eq 7, 3), (42, .iconst 1, 1), (43, .goto 4, 3), (46, .iconst 0, 1), (47, .istore 5, 2), (49, .aload_n 0, 1), (50, .iload 4, 2), (52, .ifCond .ne 7, 3), (55, .iconst 1, 1), (56, .goto 27, 3), (59, .iload 5, 2), (61, .ifCond .ne 7, 3), (64, .iconst 2, 1), (65, .goto 18, 3), (68, .aload_n 0, 1), (69, .getfield 16, 3), (72, .iload_n 1, 1), (73, .iaload, 1), (74, .iload_n 3, 1), (75, .if_icmp .ge 7, 3), (78, .iconst 3, 1), (79, .goto 4, 3), (82, .iconst 0, 1), (83, .invokevirtual 175, 3), (86, .ifCond .ne 5, 3), (89, .iconst 0, 1), (90, .ireturn, 1), (91, .aload_n 0, 1), (92, .iload_n 1, 1)], [(93, .iload_n 3, 1), (94, .invokevirtual 178, 3), (97, .istore 6, 2), (99, .aload_n 0, 1), (100, .getfield 16, 3), (103, .iload_n 2, 1), (104, .dup2, 1), (105, .iaload, 1), (106, .iload_n 3, 1), (107, .iadd, 1), (108, .iastore, 1), (109, .aload_n 0, 1), (110, .getfield 20, 3), (113, .iload_n 2, 1), (114, .dup2, 1), (115, .iaload, 1), (116, .iload 6, 2), (118, .iadd, 1), (119, .iastore, 1), (120, .iload 6, 2), (122, .ireturn, 1)]]
abbrev mdX12_hand : MD := (RX12, yX12_hand, cX12_hand, 7, (some .int), tX12_hand)
set_option maxRecDepth 100000 in
theorem dtX12_hand : MDok mdX12_hand := by show DT cX12_hand tX12_hand; unfold DT tX12_hand; decide +kernel
def tX12_open : IT := [[(0, .iload_n 1, 1), (1, .invokestatic 171, 3), (4, .ifCond .eq 14, 3), (7, .iload_n 2, 1), (8, .invokestatic 181, 3), (11, .ifCond .eq 7, 3), (14, .iconst 1, 1), (15, .goto 4, 3), (18, .iconst 0, 1), (19, .istore_n 3, 1), (20, .aload_n 0, 1), (21, .iload_n 3, 1), (22, .ifCond .ne 7, 3), (25, .iconst 1, 1), (26, .goto 25, 3), (29, .aload_n 0, 1), (30, .iload_n 1, 1), (31, .invokevirtual 184, 3), (34, .ifCond .ne 12, 3), (37, .aload_n 0, 1), (38, .getfield 62, 3), (41, .iload_n 2, 1), (42, .baload, 1), (43, .ifCond .eq 7, 3), (46, .iconst 2, 1), (47, .goto 4, 3), (50, .iconst 0, 1), (51, .invokevirtual 175, 3), (54, .ifCond .ne 5, 3), (57, .iconst 0, 1), (58, .ireturn, 1), (59, .aload_n 0, 1), (60, .getfield 23, 3), (63, .iload_n 1, 1), (64, .iload_n 2, 1), (65, .iastore, 1), (66, .iconst 0, 1), (67, .istore 4, 2), (69, .iconst 0, 1), (70, .istore 5, 2), (72, .iload 5, 2), (74, .bipush 16, 2), (76, .if_icmp .ge 30, 3), (79, .iload 4, 2), (81, .aload_n 0, 1), (82, .getfield 23, 3), (85, .iload 5, 2), (87, .iaload, 1)], [(88, .iload_n 2, 1), (89, .if_icmp .ne 7, 3), (92, .iconst 1, 1), (93, .goto 4, 3), (96, .iconst 0, 1), (97, .iadd, 1), (98, .istore 4, 2), (100, .iinc 5 1, 3), (103, .goto (-31), 3), (106, .iload 4, 2), (108, .ireturn, 1)]]
abbrev mdX12_open : MD := (RX12, yX12_open, cX12_open, 6, (some .int), tX12_open)
set_option maxRecDepth 100000 in
theorem dtX12_open : MDok mdX12_open := by show DT cX12_open tX12_open; unfold DT tX12_open; decide +kernel
def tX12_isAwaited : IT := [[(0, .iconst 0, 1), (1, .istore_n 2, 1), (2, .iconst 0, 1), (3, .istore_n 3, 1), (4, .iload_n 3, 1), (5, .aload_n 0, 1), (6, .getfield 187, 3), (9, .if_icmp .ge 38, 3), (12, .iload_n 2, 1), (13, .ifCond .ne 22, 3), (16, .aload_n 0, 1), (17, .getfield 99, 3), (20, .iload_n 3, 1), (21, .iaload, 1), (22, .ifCond .ne 17, 3), (25, .aload_n 0, 1), (26, .getfield 93, 3), (29, .iload_n 3, 1), (30, .iaload, 1), (31, .iload_n 1, 1), (32, .if_icmp .ne 7, 3), (35, .iconst 1, 1), (36, .goto 4, 3), (39, .iconst 0, 1), (40, .istore_n 2, 1), (41, .iinc 3 1, 3), (44, .goto (-40), 3), (47, .iload_n 2, 1), (48, .ireturn, 1)]]
abbrev mdX12_isAwaited : MD := (RX12, yX12_isAwaited, cX12_isAwaited, 4, (some .boolean), tX12_isAwaited)
set_option maxRecDepth 100000 in
theorem dtX12_isAwaited : MDok mdX12_isAwaited := by show DT cX12_isAwaited tX12_isAwaited; unfold DT tX12_isAwaited; decide +kernel
def tX12_close : IT := [[(0, .iload_n 1, 1), (1, .invokestatic 171, 3), (4, .istore_n 2, 1), (5, .aload_n 0, 1), (6, .iload_n 2, 1), (7, .ifCond .ne 7, 3), (10, .iconst 1, 1), (11, .goto 33, 3), (14, .aload_n 0, 1), (15, .iload_n 1, 1), (16, .invokevirtual 184, 3), (19, .ifCond .eq 20, 3), (22, .aload_n 0, 1), (23, .getfield 26, 3), (26, .iload_n 1, 1), (27, .iaload, 1), (28, .ifCond .gt 11, 3), (31, .aload_n 0, 1), (32, .iload_n 1, 1), (33, .invokevirtual 190, 3), (36, .ifCond .eq 7, 3), (39, .iconst 2, 1), (40, .goto 4, 3), (43, .iconst 0, 1), (44, .invokevirtual 175, 3), (47, .ifCond .ne 5, 3), (50, .iconst 0, 1), (51, .ireturn, 1), (52, .aload_n 0, 1), (53, .getfield 23, 3), (56, .iload_n 1, 1), (57, .iaload, 1), (58, .istore_n 3, 1), (59, .aload_n 0, 1), (60, .getfield 23, 3), (63, .iload_n 1, 1), (64, .iconst (-1), 1), (65, .iastore, 1), (66, .iload_n 3, 1), (67, .ireturn, 1)]]
abbrev mdX12_close : MD := (RX12, yX12_close, cX12_close, 4, (some .int), tX12_close)
set_option maxRecDepth 100000 in
theorem dtX12_close : MDok mdX12_close := by show DT cX12_close tX12_close; unfold DT tX12_close; decide +kernel
def tX12_bring : IT := [[(0, .iload_n 1, 1), (1, .invokestatic 171, 3), (4, .istore_n 3, 1), (5, .aload_n 0, 1), (6, .iload_n 3, 1), (7, .ifCond .ne 7, 3), (10, .iconst 1, 1), (11, .goto 41, 3), (14, .iload_n 2, 1), (15, .iconst 1, 1), (16, .sipush 10000, 3), (19, .invokestatic 141, 3), (22, .ifCond .ne 7, 3), (25, .iconst 2, 1), (26, .goto 26, 3), (29, .aload_n 0, 1), (30, .iload_n 1, 1), (31, .invokevirtual 184, 3), (34, .ifCond .eq 13, 3), (37, .aload_n 0, 1), (38, .getfield 16, 3), (41, .iload_n 1, 1), (42, .iaload, 1), (43, .iload_n 2, 1), (44, .if_icmp .ge 7, 3), (47, .iconst 3, 1), (48, .goto 4, 3), (51, .iconst 0, 1), (52, .invokevirtual 175, 3), (55, .ifCond .ne 5, 3), (58, .iconst 0, 1), (59, .ireturn, 1), (60, .iload_n 2, 1), (61, .aload_n 0, 1), (62, .iload_n 1, 1), (63, .iload_n 2, 1), (64, .invokevirtual 178, 3), (67, .isub, 1), (68, .istore 4, 2), (70, .aload_n 0, 1), (71, .getfield 53, 3), (74, .aload_n 0, 1), (75, .getfield 23, 3), (78, .iload_n 1, 1), (79, .iaload, 1), (80, .dup2, 1), (81, .iaload, 1), (82, .iload 4, 2)], [(84, .iadd, 1), (85, .iastore, 1), (86, .aload_n 0, 1), (87, .getfield 26, 3), (90, .iload_n 1, 1), (91, .dup2, 1), (92, .iaload, 1), (93, .iload 4, 2), (95, .iadd, 1), (96, .iastore, 1), (97, .iload 4, 2), (99, .ireturn, 1)]]
abbrev mdX12_bring : MD := (RX12, yX12_bring, cX12_bring, 5, (some .int), tX12_bring)
set_option maxRecDepth 100000 in
theorem dtX12_bring : MDok mdX12_bring := by show DT cX12_bring tX12_bring; unfold DT tX12_bring; decide +kernel
def tX12_draws : IT := [[(0, .aload_n 0, 1), (1, .getfield 23, 3), (4, .iload_n 1, 1), (5, .iaload, 1), (6, .istore_n 3, 1), (7, .aload_n 0, 1), (8, .getfield 53, 3), (11, .iload_n 3, 1), (12, .iaload, 1), (13, .iload_n 2, 1), (14, .invokestatic 193, 3), (17, .istore 4, 2), (19, .aload_n 0, 1), (20, .getfield 50, 3), (23, .iload_n 3, 1), (24, .iaload, 1), (25, .iload_n 2, 1), (26, .iload 4, 2), (28, .isub, 1), (29, .invokestatic 193, 3), (32, .istore 5, 2), (34, .iload 4, 2), (36, .iload 5, 2), (38, .iadd, 1), (39, .istore 6, 2), (41, .aload_n 0, 1), (42, .getfield 53, 3), (45, .iload_n 3, 1), (46, .dup2, 1), (47, .iaload, 1), (48, .iload 4, 2), (50, .isub, 1), (51, .iastore, 1), (52, .aload_n 0, 1), (53, .getfield 50, 3), (56, .iload_n 3, 1), (57, .dup2, 1), (58, .iaload, 1), (59, .iload 5, 2), (61, .isub, 1), (62, .iastore, 1), (63, .aload_n 0, 1), (64, .getfield 16, 3), (67, .iload_n 1, 1), (68, .dup2, 1), (69, .iaload, 1), (70, .iload 6, 2), (72, .iadd, 1)], [(73, .iastore, 1), (74, .aload_n 0, 1), (75, .getfield 26, 3), (78, .iload_n 1, 1), (79, .dup2, 1), (80, .iaload, 1), (81, .iload 6, 2), (83, .isub, 1), (84, .iastore, 1), (85, .iload 6, 2), (87, .ifCond .le 23, 3), (90, .iload_n 1, 1), (91, .bipush 10, 2), (93, .if_icmp .ge 17, 3), (96, .aload_n 0, 1), (97, .getfield 41, 3), (100, .iconst 4, 1), (101, .iload_n 1, 1), (102, .imul, 1), (103, .iload_n 3, 1), (104, .iadd, 1), (105, .aload_n 0, 1), (106, .getfield 196, 3), (109, .iastore, 1), (110, .iload 6, 2), (112, .iload_n 2, 1), (113, .if_icmp .ge 10, 3), (116, .aload_n 0, 1), (117, .iload_n 3, 1), (118, .invokevirtual 199, 3), (121, .istore 7, 2), (123, .iload 6, 2), (125, .ireturn, 1)]]
abbrev mdX12_draws : MD := (RX12, yX12_draws, cX12_draws, 8, (some .int), tX12_draws)
set_option maxRecDepth 100000 in
theorem dtX12_draws : MDok mdX12_draws := by show DT cX12_draws tX12_draws; unfold DT tX12_draws; decide +kernel
def tX12_draw : IT := [[(0, .iload_n 1, 1), (1, .invokestatic 171, 3), (4, .istore_n 3, 1), (5, .iload_n 3, 1), (6, .ifCond .eq 24, 3), (9, .aload_n 0, 1), (10, .iload_n 1, 1), (11, .invokevirtual 184, 3), (14, .ifCond .eq 16, 3), (17, .aload_n 0, 1), (18, .iload_n 1, 1), (19, .invokevirtual 202, 3), (22, .iload_n 2, 1), (23, .if_icmp .lt 7, 3), (26, .iconst 1, 1), (27, .goto 4, 3), (30, .iconst 0, 1), (31, .istore 4, 2), (33, .aload_n 0, 1), (34, .iload_n 3, 1), (35, .ifCond .ne 7, 3), (38, .iconst 1, 1), (39, .goto 28, 3), (42, .iload_n 2, 1), (43, .iconst 1, 1), (44, .sipush 10000, 3), (47, .invokestatic 141, 3), (50, .ifCond .ne 7, 3), (53, .iconst 2, 1), (54, .goto 13, 3), (57, .iload 4, 2), (59, .ifCond .eq 7, 3), (62, .iconst 0, 1), (63, .goto 4, 3), (66, .iconst 3, 1), (67, .invokevirtual 175, 3), (70, .ifCond .eq 12, 3), (73, .aload_n 0, 1), (74, .iload_n 1, 1), (75, .iload_n 2, 1), (76, .invokevirtual 205, 3), (79, .goto 4, 3), (82, .iconst 0, 1), (83, .ireturn, 1)]]
abbrev mdX12_draw : MD := (RX12, yX12_draw, cX12_draw, 5, (some .int), tX12_draw)
set_option maxRecDepth 100000 in
theorem dtX12_draw : MDok mdX12_draw := by show DT cX12_draw tX12_draw; unfold DT tX12_draw; decide +kernel
def tX12_mayPay : IT := [[(0, .aload_n 0, 1), (1, .iload_n 1, 1), (2, .invokevirtual 184, 3), (5, .ifCond .eq 34, 3), (8, .aload_n 0, 1), (9, .iload_n 2, 1), (10, .invokevirtual 184, 3), (13, .ifCond .eq 26, 3), (16, .aload_n 0, 1), (17, .iload_n 1, 1), (18, .invokevirtual 202, 3), (21, .iload_n 3, 1), (22, .if_icmp .lt 17, 3), (25, .aload_n 0, 1), (26, .getfield 187, 3), (29, .sipush 200, 3), (32, .if_icmp .ge 7, 3), (35, .iconst 1, 1), (36, .goto 4, 3), (39, .iconst 0, 1), (40, .ireturn, 1)]]
abbrev mdX12_mayPay : MD := (RX12, yX12_mayPay, cX12_mayPay, 4, (some .boolean), tX12_mayPay)
set_option maxRecDepth 100000 in
theorem dtX12_mayPay : MDok mdX12_mayPay := by show DT cX12_mayPay tX12_mayPay; unfold DT tX12_mayPay; decide +kernel
def tX12_pays : IT := [[(0, .aload_n 0, 1), (1, .getfield 187, 3), (4, .istore 5, 2), (6, .aload_n 0, 1), (7, .dup, 1), (8, .getfield 187, 3), (11, .iconst 1, 1), (12, .iadd, 1), (13, .putfield 187, 3), (16, .aload_n 0, 1), (17, .getfield 90, 3), (20, .iload 5, 2), (22, .iload_n 1, 1), (23, .iastore, 1), (24, .aload_n 0, 1), (25, .getfield 93, 3), (28, .iload 5, 2), (30, .iload_n 2, 1), (31, .iastore, 1), (32, .aload_n 0, 1), (33, .getfield 96, 3), (36, .iload 5, 2), (38, .iload_n 3, 1), (39, .iastore, 1), (40, .aload_n 0, 1), (41, .getfield 102, 3), (44, .iload 5, 2), (46, .iload 4, 2), (48, .bastore, 1), (49, .aload_n 0, 1), (50, .getfield 105, 3), (53, .iload 5, 2), (55, .aload_n 0, 1), (56, .getfield 196, 3), (59, .iastore, 1), (60, .aload_n 0, 1), (61, .getfield 99, 3), (64, .iload 5, 2), (66, .iconst 0, 1), (67, .iastore, 1), (68, .aload_n 0, 1), (69, .getfield 29, 3), (72, .iload_n 1, 1), (73, .dup2, 1), (74, .iaload, 1), (75, .iload_n 3, 1), (76, .iadd, 1), (77, .iastore, 1)], [(78, .aload_n 0, 1), (79, .getfield 23, 3), (82, .iload_n 1, 1), (83, .iaload, 1), (84, .aload_n 0, 1), (85, .getfield 23, 3), (88, .iload_n 2, 1), (89, .iaload, 1), (90, .if_icmp .ne 9, 3), (93, .aload_n 0, 1), (94, .iload 5, 2), (96, .invokevirtual 208, 3), (99, .iload 5, 2), (101, .ireturn, 1)]]
abbrev mdX12_pays : MD := (RX12, yX12_pays, cX12_pays, 6, (some .int), tX12_pays)
set_option maxRecDepth 100000 in
theorem dtX12_pays : MDok mdX12_pays := by show DT cX12_pays tX12_pays; unfold DT tX12_pays; decide +kernel
def tX12_finishes : IT := [[(0, .aload_n 0, 1), (1, .getfield 99, 3), (4, .iload_n 1, 1), (5, .iconst 1, 1), (6, .iastore, 1), (7, .aload_n 0, 1), (8, .getfield 108, 3), (11, .iload_n 1, 1), (12, .aload_n 0, 1), (13, .getfield 196, 3), (16, .iastore, 1), (17, .aload_n 0, 1), (18, .getfield 29, 3), (21, .aload_n 0, 1), (22, .getfield 90, 3), (25, .iload_n 1, 1), (26, .iaload, 1), (27, .dup2, 1), (28, .iaload, 1), (29, .aload_n 0, 1), (30, .getfield 96, 3), (33, .iload_n 1, 1), (34, .iaload, 1), (35, .isub, 1), (36, .iastore, 1), (37, .aload_n 0, 1), (38, .getfield 26, 3), (41, .aload_n 0, 1), (42, .getfield 90, 3), (45, .iload_n 1, 1), (46, .iaload, 1), (47, .dup2, 1), (48, .iaload, 1), (49, .aload_n 0, 1), (50, .getfield 96, 3), (53, .iload_n 1, 1), (54, .iaload, 1), (55, .isub, 1), (56, .iastore, 1), (57, .aload_n 0, 1), (58, .getfield 26, 3), (61, .aload_n 0, 1), (62, .getfield 93, 3), (65, .iload_n 1, 1), (66, .iaload, 1), (67, .dup2, 1), (68, .iaload, 1), (69, .aload_n 0, 1)], [(70, .getfield 96, 3), (73, .iload_n 1, 1), (74, .iaload, 1), (75, .iadd, 1), (76, .iastore, 1), (77, .return_, 1)]]
abbrev mdX12_finishes : MD := (RX12, yX12_finishes, cX12_finishes, 2, none, tX12_finishes)
set_option maxRecDepth 100000 in
theorem dtX12_finishes : MDok mdX12_finishes := by show DT cX12_finishes tX12_finishes; unfold DT tX12_finishes; decide +kernel
def tX12_pay : IT := [[(0, .iload_n 1, 1), (1, .invokestatic 171, 3), (4, .ifCond .eq 14, 3), (7, .iload_n 2, 1), (8, .invokestatic 171, 3), (11, .ifCond .eq 7, 3), (14, .iconst 1, 1), (15, .goto 4, 3), (18, .iconst 0, 1), (19, .istore 4, 2), (21, .iload 4, 2), (23, .ifCond .eq 23, 3), (26, .iload_n 1, 1), (27, .iload_n 2, 1), (28, .if_icmp .eq 18, 3), (31, .iload_n 3, 1), (32, .iconst 1, 1), (33, .sipush 10000, 3), (36, .invokestatic 141, 3), (39, .ifCond .eq 7, 3), (42, .iconst 1, 1), (43, .goto 4, 3), (46, .iconst 0, 1), (47, .istore 5, 2), (49, .aload_n 0, 1), (50, .iload 4, 2), (52, .ifCond .ne 7, 3), (55, .iconst 1, 1), (56, .goto 27, 3), (59, .iload 5, 2), (61, .ifCond .ne 7, 3), (64, .iconst 2, 1), (65, .goto 18, 3), (68, .aload_n 0, 1), (69, .iload_n 1, 1), (70, .iload_n 2, 1), (71, .iload_n 3, 1), (72, .invokevirtual 212, 3), (75, .ifCond .eq 7, 3), (78, .iconst 0, 1), (79, .goto 4, 3), (82, .iconst 3, 1), (83, .invokevirtual 175, 3), (86, .ifCond .eq 14, 3), (89, .aload_n 0, 1), (90, .iload_n 1, 1), (91, .iload_n 2, 1), (92, .iload_n 3, 1)], [(93, .iconst 0, 1), (94, .invokevirtual 215, 3), (97, .goto 4, 3), (100, .iconst 0, 1), (101, .ireturn, 1)]]
abbrev mdX12_pay : MD := (RX12, yX12_pay, cX12_pay, 6, (some .int), tX12_pay)
set_option maxRecDepth 100000 in
theorem dtX12_pay : MDok mdX12_pay := by show DT cX12_pay tX12_pay; unfold DT tX12_pay; decide +kernel
def tX12_laysNets : IT := [[(0, .iconst 0, 1), (1, .istore_n 1, 1), (2, .iload_n 1, 1), (3, .iconst 4, 1), (4, .if_icmp .ge 16, 3), (7, .aload_n 0, 1), (8, .getfield 69, 3), (11, .iload_n 1, 1), (12, .iconst 0, 1), (13, .iastore, 1), (14, .iinc 1 1, 3), (17, .goto (-15), 3), (20, .iconst 0, 1), (21, .istore_n 1, 1), (22, .iload_n 1, 1), (23, .aload_n 0, 1), (24, .getfield 187, 3), (27, .if_icmp .ge 68, 3), (30, .aload_n 0, 1), (31, .getfield 111, 3), (34, .iload_n 1, 1), (35, .baload, 1), (36, .ifCond .eq 53, 3), (39, .aload_n 0, 1), (40, .getfield 69, 3), (43, .aload_n 0, 1), (44, .getfield 23, 3), (47, .aload_n 0, 1), (48, .getfield 90, 3), (51, .iload_n 1, 1), (52, .iaload, 1), (53, .iaload, 1), (54, .dup2, 1), (55, .iaload, 1), (56, .aload_n 0, 1), (57, .getfield 96, 3), (60, .iload_n 1, 1), (61, .iaload, 1), (62, .isub, 1), (63, .iastore, 1), (64, .aload_n 0, 1), (65, .getfield 69, 3), (68, .aload_n 0, 1), (69, .getfield 23, 3), (72, .aload_n 0, 1), (73, .getfield 93, 3), (76, .iload_n 1, 1), (77, .iaload, 1)], [(78, .iaload, 1), (79, .dup2, 1), (80, .iaload, 1), (81, .aload_n 0, 1), (82, .getfield 96, 3), (85, .iload_n 1, 1), (86, .iaload, 1), (87, .iadd, 1), (88, .iastore, 1), (89, .iinc 1 1, 3), (92, .goto (-70), 3), (95, .return_, 1)]]
abbrev mdX12_laysNets : MD := (RX12, yX12_laysNets, cX12_laysNets, 2, none, tX12_laysNets)
set_option maxRecDepth 100000 in
theorem dtX12_laysNets : MDok mdX12_laysNets := by show DT cX12_laysNets tX12_laysNets; unfold DT tX12_laysNets; decide +kernel
def tX12_clears : IT := [[(0, .iconst 0, 1), (1, .istore_n 1, 1), (2, .iload_n 1, 1), (3, .aload_n 0, 1), (4, .getfield 187, 3), (7, .if_icmp .ge 29, 3), (10, .aload_n 0, 1), (11, .getfield 111, 3), (14, .iload_n 1, 1), (15, .aload_n 0, 1), (16, .getfield 99, 3), (19, .iload_n 1, 1), (20, .iaload, 1), (21, .ifCond .ne 7, 3), (24, .iconst 1, 1), (25, .goto 4, 3), (28, .iconst 0, 1), (29, .bastore, 1), (30, .iinc 1 1, 3), (33, .goto (-31), 3), (36, .aload_n 0, 1), (37, .invokevirtual 219, 3), (40, .aload_n 0, 1), (41, .invokevirtual 222, 3), (44, .istore_n 1, 1), (45, .iload_n 1, 1), (46, .iconst (-1), 1), (47, .if_icmp .eq 70, 3), (50, .iconst (-1), 1), (51, .istore_n 2, 1), (52, .iconst 0, 1), (53, .istore_n 3, 1), (54, .iload_n 3, 1), (55, .aload_n 0, 1), (56, .getfield 187, 3), (59, .if_icmp .ge 39, 3), (62, .aload_n 0, 1), (63, .getfield 111, 3), (66, .iload_n 3, 1), (67, .baload, 1), (68, .ifCond .eq 22, 3), (71, .aload_n 0, 1), (72, .getfield 23, 3), (75, .aload_n 0, 1), (76, .getfield 90, 3), (79, .iload_n 3, 1), (80, .iaload, 1), (81, .iaload, 1)], [(82, .iload_n 1, 1), (83, .if_icmp .ne 7, 3), (86, .iload_n 3, 1), (87, .goto 4, 3), (90, .iload_n 2, 1), (91, .istore_n 2, 1), (92, .iinc 3 1, 3), (95, .goto (-41), 3), (98, .aload_n 0, 1), (99, .getfield 111, 3), (102, .iload_n 2, 1), (103, .iconst 0, 1), (104, .bastore, 1), (105, .aload_n 0, 1), (106, .invokevirtual 219, 3), (109, .aload_n 0, 1), (110, .invokevirtual 222, 3), (113, .istore_n 1, 1), (114, .goto (-69), 3), (117, .iconst 0, 1), (118, .istore_n 2, 1), (119, .iload_n 2, 1), (120, .iconst 4, 1), (121, .if_icmp .ge 24, 3), (124, .aload_n 0, 1), (125, .getfield 50, 3), (128, .iload_n 2, 1), (129, .dup2, 1), (130, .iaload, 1), (131, .aload_n 0, 1), (132, .getfield 69, 3), (135, .iload_n 2, 1), (136, .iaload, 1), (137, .iadd, 1), (138, .iastore, 1), (139, .iinc 2 1, 3), (142, .goto (-23), 3), (145, .iconst 0, 1), (146, .istore_n 2, 1), (147, .iconst 0, 1), (148, .istore_n 3, 1), (149, .iload_n 3, 1), (150, .aload_n 0, 1), (151, .getfield 187, 3), (154, .if_icmp .ge 26, 3), (157, .aload_n 0, 1), (158, .getfield 111, 3), (161, .iload_n 3, 1)], [(162, .baload, 1), (163, .ifCond .eq 11, 3), (166, .aload_n 0, 1), (167, .iload_n 3, 1), (168, .invokevirtual 208, 3), (171, .iinc 2 1, 3), (174, .iinc 3 1, 3), (177, .goto (-28), 3), (180, .iload_n 2, 1), (181, .ireturn, 1)]]
abbrev mdX12_clears : MD := (RX12, yX12_clears, cX12_clears, 4, (some .int), tX12_clears)
set_option maxRecDepth 100000 in
theorem dtX12_clears : MDok mdX12_clears := by show DT cX12_clears tX12_clears; unfold DT tX12_clears; decide +kernel
def tX12_worstBank : IT := [[(0, .iconst (-1), 1), (1, .istore_n 1, 1), (2, .iconst 0, 1), (3, .istore_n 2, 1), (4, .iconst 0, 1), (5, .istore_n 3, 1), (6, .iload_n 3, 1), (7, .iconst 4, 1), (8, .if_icmp .ge 53, 3), (11, .aload_n 0, 1), (12, .getfield 69, 3), (15, .iload_n 3, 1), (16, .iaload, 1), (17, .ineg, 1), (18, .aload_n 0, 1), (19, .getfield 50, 3), (22, .iload_n 3, 1), (23, .iaload, 1), (24, .aload_n 0, 1), (25, .getfield 59, 3), (28, .iload_n 3, 1), (29, .iaload, 1), (30, .invokestatic 193, 3), (33, .isub, 1), (34, .istore 4, 2), (36, .iload 4, 2), (38, .iload_n 2, 1), (39, .if_icmp .le 7, 3), (42, .iload_n 3, 1), (43, .goto 4, 3), (46, .iload_n 1, 1), (47, .istore_n 1, 1), (48, .iload 4, 2), (50, .iload_n 2, 1), (51, .invokestatic 161, 3), (54, .istore_n 2, 1), (55, .iinc 3 1, 3), (58, .goto (-52), 3), (61, .iload_n 1, 1), (62, .ireturn, 1)]]
abbrev mdX12_worstBank : MD := (RX12, yX12_worstBank, cX12_worstBank, 5, (some .int), tX12_worstBank)
set_option maxRecDepth 100000 in
theorem dtX12_worstBank : MDok mdX12_worstBank := by show DT cX12_worstBank tX12_worstBank; unfold DT tX12_worstBank; decide +kernel
def tX12_clear : IT := [[(0, .aload_n 0, 1), (1, .iconst 0, 1), (2, .putfield 138, 3), (5, .aload_n 0, 1), (6, .invokevirtual 226, 3), (9, .ireturn, 1)]]
abbrev mdX12_clear : MD := (RX12, yX12_clear, cX12_clear, 1, (some .int), tX12_clear)
set_option maxRecDepth 100000 in
theorem dtX12_clear : MDok mdX12_clear := by show DT cX12_clear tX12_clear; unfold DT tX12_clear; decide +kernel
def tX12_limit : IT := [[(0, .aload_n 0, 1), (1, .iload_n 1, 1), (2, .invokestatic 181, 3), (5, .ifCond .ne 7, 3), (8, .iconst 1, 1), (9, .goto 19, 3), (12, .iload_n 2, 1), (13, .iconst 0, 1), (14, .sipush 10000, 3), (17, .invokestatic 141, 3), (20, .ifCond .eq 7, 3), (23, .iconst 0, 1), (24, .goto 4, 3), (27, .iconst 2, 1), (28, .invokevirtual 175, 3), (31, .ifCond .ne 5, 3), (34, .iconst 0, 1), (35, .ireturn, 1), (36, .aload_n 0, 1), (37, .getfield 59, 3), (40, .iload_n 1, 1), (41, .iaload, 1), (42, .istore_n 3, 1), (43, .aload_n 0, 1), (44, .getfield 59, 3), (47, .iload_n 1, 1), (48, .iload_n 2, 1), (49, .iastore, 1), (50, .iload_n 3, 1), (51, .ireturn, 1)]]
abbrev mdX12_limit : MD := (RX12, yX12_limit, cX12_limit, 4, (some .int), tX12_limit)
set_option maxRecDepth 100000 in
theorem dtX12_limit : MDok mdX12_limit := by show DT cX12_limit tX12_limit; unfold DT tX12_limit; decide +kernel
def tX12_endow : IT := [[(0, .iload_n 1, 1), (1, .invokestatic 181, 3), (4, .istore_n 3, 1), (5, .aload_n 0, 1), (6, .iload_n 3, 1), (7, .ifCond .ne 7, 3), (10, .iconst 1, 1), (11, .goto 32, 3), (14, .iload_n 2, 1), (15, .iconst 1, 1), (16, .sipush 10000, 3), (19, .invokestatic 141, 3), (22, .ifCond .ne 7, 3), (25, .iconst 2, 1), (26, .goto 17, 3), (29, .aload_n 0, 1), (30, .getfield 62, 3), (33, .iload_n 1, 1), (34, .baload, 1), (35, .ifCond .eq 7, 3), (38, .iconst 3, 1), (39, .goto 4, 3), (42, .iconst 0, 1), (43, .invokevirtual 175, 3), (46, .ifCond .ne 5, 3), (49, .iconst 0, 1), (50, .ireturn, 1), (51, .aload_n 0, 1), (52, .getfield 50, 3), (55, .iload_n 1, 1), (56, .dup2, 1), (57, .iaload, 1), (58, .iload_n 2, 1), (59, .iadd, 1), (60, .iastore, 1), (61, .aload_n 0, 1), (62, .getfield 50, 3), (65, .iload_n 1, 1), (66, .iaload, 1), (67, .ireturn, 1)]]
abbrev mdX12_endow : MD := (RX12, yX12_endow, cX12_endow, 4, (some .int), tX12_endow)
set_option maxRecDepth 100000 in
theorem dtX12_endow : MDok mdX12_endow := by show DT cX12_endow tX12_endow; unfold DT tX12_endow; decide +kernel
def tX12_mayLend : IT := [[(0, .aload_n 0, 1), (1, .getfield 23, 3), (4, .iload_n 2, 1), (5, .iaload, 1), (6, .iload_n 1, 1), (7, .if_icmp .ne 39, 3), (10, .aload_n 0, 1), (11, .getfield 148, 3), (14, .bipush 20, 2), (16, .if_icmp .ge 30, 3), (19, .aload_n 0, 1), (20, .iload_n 1, 1), (21, .invokevirtual 229, 3), (24, .aload_n 0, 1), (25, .iload_n 1, 1), (26, .invokevirtual 155, 3), (29, .iload_n 3, 1), (30, .iadd, 1), (31, .aload_n 0, 1), (32, .getfield 7, 3), (35, .imul, 1), (36, .bipush 100, 2), (38, .idiv, 1), (39, .if_icmp .lt 7, 3), (42, .iconst 1, 1), (43, .goto 4, 3), (46, .iconst 0, 1), (47, .ireturn, 1)]]
abbrev mdX12_mayLend : MD := (RX12, yX12_mayLend, cX12_mayLend, 4, (some .boolean), tX12_mayLend)
set_option maxRecDepth 100000 in
theorem dtX12_mayLend : MDok mdX12_mayLend := by show DT cX12_mayLend tX12_mayLend; unfold DT tX12_mayLend; decide +kernel
def tX12_lend : IT := [[(0, .iload_n 1, 1), (1, .invokestatic 181, 3), (4, .ifCond .eq 14, 3), (7, .iload_n 2, 1), (8, .invokestatic 171, 3), (11, .ifCond .eq 7, 3), (14, .iconst 1, 1), (15, .goto 4, 3), (18, .iconst 0, 1), (19, .istore 5, 2), (21, .iload 5, 2), (23, .ifCond .eq 29, 3), (26, .iload_n 3, 1), (27, .iconst 1, 1), (28, .sipush 10000, 3), (31, .invokestatic 141, 3), (34, .ifCond .eq 18, 3), (37, .iload 4, 2), (39, .iconst 0, 1), (40, .bipush 100, 2), (42, .invokestatic 141, 3), (45, .ifCond .eq 7, 3), (48, .iconst 1, 1), (49, .goto 4, 3), (52, .iconst 0, 1), (53, .istore 6, 2), (55, .aload_n 0, 1), (56, .iload 5, 2), (58, .ifCond .ne 7, 3), (61, .iconst 1, 1), (62, .goto 27, 3), (65, .iload 6, 2), (67, .ifCond .ne 7, 3), (70, .iconst 2, 1), (71, .goto 18, 3), (74, .aload_n 0, 1), (75, .iload_n 1, 1), (76, .iload_n 2, 1), (77, .iload_n 3, 1), (78, .invokevirtual 232, 3), (81, .ifCond .eq 7, 3), (84, .iconst 0, 1), (85, .goto 4, 3), (88, .iconst 3, 1), (89, .invokevirtual 175, 3), (92, .ifCond .ne 5, 3), (95, .iconst 0, 1), (96, .ireturn, 1)], [(97, .aload_n 0, 1), (98, .getfield 75, 3), (101, .aload_n 0, 1), (102, .getfield 148, 3), (105, .iload_n 2, 1), (106, .iastore, 1), (107, .aload_n 0, 1), (108, .getfield 78, 3), (111, .aload_n 0, 1), (112, .getfield 148, 3), (115, .iload_n 1, 1), (116, .iastore, 1), (117, .aload_n 0, 1), (118, .getfield 81, 3), (121, .aload_n 0, 1), (122, .getfield 148, 3), (125, .iload_n 3, 1), (126, .iastore, 1), (127, .aload_n 0, 1), (128, .getfield 84, 3), (131, .aload_n 0, 1), (132, .getfield 148, 3), (135, .iload 4, 2), (137, .iastore, 1), (138, .aload_n 0, 1), (139, .getfield 87, 3), (142, .aload_n 0, 1), (143, .getfield 148, 3), (146, .iconst 0, 1), (147, .iastore, 1), (148, .aload_n 0, 1), (149, .getfield 26, 3), (152, .iload_n 2, 1), (153, .dup2, 1), (154, .iaload, 1), (155, .iload_n 3, 1), (156, .iadd, 1), (157, .iastore, 1), (158, .aload_n 0, 1), (159, .dup, 1), (160, .getfield 148, 3), (163, .iconst 1, 1), (164, .iadd, 1), (165, .putfield 148, 3), (168, .aload_n 0, 1), (169, .getfield 148, 3), (172, .iconst 1, 1), (173, .isub, 1)], [(174, .ireturn, 1)]]
abbrev mdX12_lend : MD := (RX12, yX12_lend, cX12_lend, 7, (some .int), tX12_lend)
set_option maxRecDepth 100000 in
theorem dtX12_lend : MDok mdX12_lend := by show DT cX12_lend tX12_lend; unfold DT tX12_lend; decide +kernel
def tX12_isLoan : IT := [[(0, .iload_n 1, 1), (1, .iconst 0, 1), (2, .aload_n 0, 1), (3, .getfield 148, 3), (6, .iconst 1, 1), (7, .isub, 1), (8, .invokestatic 141, 3), (11, .ireturn, 1)]]
abbrev mdX12_isLoan : MD := (RX12, yX12_isLoan, cX12_isLoan, 2, (some .boolean), tX12_isLoan)
set_option maxRecDepth 100000 in
theorem dtX12_isLoan : MDok mdX12_isLoan := by show DT cX12_isLoan tX12_isLoan; unfold DT tX12_isLoan; decide +kernel
def tX12_canPay : IT := [[(0, .aload_n 0, 1), (1, .getfield 75, 3), (4, .iload_n 1, 1), (5, .iaload, 1), (6, .istore_n 3, 1), (7, .aload_n 0, 1), (8, .iload_n 3, 1), (9, .invokevirtual 184, 3), (12, .ifCond .eq 46, 3), (15, .aload_n 0, 1), (16, .iload_n 3, 1), (17, .invokevirtual 202, 3), (20, .iload_n 2, 1), (21, .if_icmp .lt 37, 3), (24, .aload_n 0, 1), (25, .getfield 23, 3), (28, .iload_n 3, 1), (29, .iaload, 1), (30, .aload_n 0, 1), (31, .getfield 78, 3), (34, .iload_n 1, 1), (35, .iaload, 1), (36, .if_icmp .eq 18, 3), (39, .aload_n 0, 1), (40, .getfield 50, 3), (43, .aload_n 0, 1), (44, .getfield 23, 3), (47, .iload_n 3, 1), (48, .iaload, 1), (49, .iaload, 1), (50, .iload_n 2, 1), (51, .if_icmp .lt 7, 3), (54, .iconst 1, 1), (55, .goto 4, 3), (58, .iconst 0, 1), (59, .ireturn, 1)]]
abbrev mdX12_canPay : MD := (RX12, yX12_canPay, cX12_canPay, 4, (some .boolean), tX12_canPay)
set_option maxRecDepth 100000 in
theorem dtX12_canPay : MDok mdX12_canPay := by show DT cX12_canPay tX12_canPay; unfold DT tX12_canPay; decide +kernel
def tX12_endsMoney : IT := [[(0, .aload_n 0, 1), (1, .getfield 75, 3), (4, .iload_n 1, 1), (5, .iaload, 1), (6, .istore_n 3, 1), (7, .aload_n 0, 1), (8, .getfield 78, 3), (11, .iload_n 1, 1), (12, .iaload, 1), (13, .istore 4, 2), (15, .aload_n 0, 1), (16, .getfield 26, 3), (19, .iload_n 3, 1), (20, .dup2, 1), (21, .iaload, 1), (22, .iload_n 2, 1), (23, .isub, 1), (24, .iastore, 1), (25, .aload_n 0, 1), (26, .getfield 23, 3), (29, .iload_n 3, 1), (30, .iaload, 1), (31, .iload 4, 2), (33, .if_icmp .eq 35, 3), (36, .aload_n 0, 1), (37, .getfield 50, 3), (40, .aload_n 0, 1), (41, .getfield 23, 3), (44, .iload_n 3, 1), (45, .iaload, 1), (46, .dup2, 1), (47, .iaload, 1), (48, .iload_n 2, 1), (49, .isub, 1), (50, .iastore, 1), (51, .iload 4, 2), (53, .iconst 4, 1), (54, .if_icmp .eq 14, 3), (57, .aload_n 0, 1), (58, .getfield 50, 3), (61, .iload 4, 2), (63, .dup2, 1), (64, .iaload, 1), (65, .iload_n 2, 1), (66, .iadd, 1), (67, .iastore, 1), (68, .return_, 1)]]
abbrev mdX12_endsMoney : MD := (RX12, yX12_endsMoney, cX12_endsMoney, 5, none, tX12_endsMoney)
set_option maxRecDepth 100000 in
theorem dtX12_endsMoney : MDok mdX12_endsMoney := by show DT cX12_endsMoney tX12_endsMoney; unfold DT tX12_endsMoney; decide +kernel
def tX12_payBack : IT := [[(0, .aload_n 0, 1), (1, .iload_n 1, 1), (2, .invokevirtual 235, 3), (5, .istore_n 3, 1), (6, .iload_n 3, 1), (7, .ifCond .eq 26, 3), (10, .aload_n 0, 1), (11, .getfield 81, 3), (14, .iload_n 1, 1), (15, .iaload, 1), (16, .iload_n 2, 1), (17, .if_icmp .lt 16, 3), (20, .aload_n 0, 1), (21, .iload_n 1, 1), (22, .iload_n 2, 1), (23, .invokevirtual 238, 3), (26, .ifCond .eq 7, 3), (29, .iconst 1, 1), (30, .goto 4, 3), (33, .iconst 0, 1), (34, .istore 4, 2), (36, .aload_n 0, 1), (37, .iload_n 3, 1), (38, .ifCond .ne 7, 3), (41, .iconst 1, 1), (42, .goto 28, 3), (45, .iload_n 2, 1), (46, .iconst 1, 1), (47, .sipush 10000, 3), (50, .invokestatic 141, 3), (53, .ifCond .ne 7, 3), (56, .iconst 2, 1), (57, .goto 13, 3), (60, .iload 4, 2), (62, .ifCond .eq 7, 3), (65, .iconst 0, 1), (66, .goto 4, 3), (69, .iconst 3, 1), (70, .invokevirtual 175, 3), (73, .ifCond .ne 5, 3), (76, .iconst 0, 1), (77, .ireturn, 1), (78, .aload_n 0, 1), (79, .iload_n 1, 1), (80, .iload_n 2, 1), (81, .invokevirtual 242, 3), (84, .aload_n 0, 1), (85, .getfield 81, 3)], [(88, .iload_n 1, 1), (89, .dup2, 1), (90, .iaload, 1), (91, .iload_n 2, 1), (92, .isub, 1), (93, .iastore, 1), (94, .aload_n 0, 1), (95, .getfield 81, 3), (98, .iload_n 1, 1), (99, .iaload, 1), (100, .ireturn, 1)]]
abbrev mdX12_payBack : MD := (RX12, yX12_payBack, cX12_payBack, 5, (some .int), tX12_payBack)
set_option maxRecDepth 100000 in
theorem dtX12_payBack : MDok mdX12_payBack := by show DT cX12_payBack tX12_payBack; unfold DT tX12_payBack; decide +kernel
def tX12_window : IT := [[(0, .iload_n 1, 1), (1, .invokestatic 181, 3), (4, .istore_n 3, 1), (5, .aload_n 0, 1), (6, .iload_n 3, 1), (7, .ifCond .ne 7, 3), (10, .iconst 1, 1), (11, .goto 41, 3), (14, .iload_n 2, 1), (15, .iconst 1, 1), (16, .sipush 10000, 3), (19, .invokestatic 141, 3), (22, .ifCond .ne 7, 3), (25, .iconst 2, 1), (26, .goto 26, 3), (29, .aload_n 0, 1), (30, .getfield 62, 3), (33, .iload_n 1, 1), (34, .baload, 1), (35, .ifCond .ne 12, 3), (38, .aload_n 0, 1), (39, .iload_n 1, 1), (40, .invokevirtual 246, 3), (43, .iload_n 2, 1), (44, .if_icmp .ge 7, 3), (47, .iconst 3, 1), (48, .goto 4, 3), (51, .iconst 0, 1), (52, .invokevirtual 175, 3), (55, .ifCond .ne 5, 3), (58, .iconst 0, 1), (59, .ireturn, 1), (60, .aload_n 0, 1), (61, .getfield 56, 3), (64, .iload_n 1, 1), (65, .dup2, 1), (66, .iaload, 1), (67, .iload_n 2, 1), (68, .iadd, 1), (69, .iastore, 1), (70, .aload_n 0, 1), (71, .getfield 50, 3), (74, .iload_n 1, 1), (75, .dup2, 1), (76, .iaload, 1), (77, .iload_n 2, 1), (78, .iadd, 1), (79, .iastore, 1)], [(80, .aload_n 0, 1), (81, .getfield 56, 3), (84, .iload_n 1, 1), (85, .iaload, 1), (86, .ireturn, 1)]]
abbrev mdX12_window : MD := (RX12, yX12_window, cX12_window, 4, (some .int), tX12_window)
set_option maxRecDepth 100000 in
theorem dtX12_window : MDok mdX12_window := by show DT cX12_window tX12_window; unfold DT tX12_window; decide +kernel
def tX12_windowBack : IT := [[(0, .iload_n 1, 1), (1, .invokestatic 181, 3), (4, .istore_n 3, 1), (5, .aload_n 0, 1), (6, .iload_n 3, 1), (7, .ifCond .ne 7, 3), (10, .iconst 1, 1), (11, .goto 43, 3), (14, .iload_n 2, 1), (15, .iconst 1, 1), (16, .sipush 10000, 3), (19, .invokestatic 141, 3), (22, .ifCond .ne 7, 3), (25, .iconst 2, 1), (26, .goto 28, 3), (29, .aload_n 0, 1), (30, .getfield 56, 3), (33, .iload_n 1, 1), (34, .iaload, 1), (35, .iload_n 2, 1), (36, .if_icmp .lt 13, 3), (39, .aload_n 0, 1), (40, .getfield 50, 3), (43, .iload_n 1, 1), (44, .iaload, 1), (45, .iload_n 2, 1), (46, .if_icmp .ge 7, 3), (49, .iconst 3, 1), (50, .goto 4, 3), (53, .iconst 0, 1), (54, .invokevirtual 175, 3), (57, .ifCond .ne 5, 3), (60, .iconst 0, 1), (61, .ireturn, 1), (62, .aload_n 0, 1), (63, .getfield 56, 3), (66, .iload_n 1, 1), (67, .dup2, 1), (68, .iaload, 1), (69, .iload_n 2, 1), (70, .isub, 1), (71, .iastore, 1), (72, .aload_n 0, 1), (73, .getfield 50, 3), (76, .iload_n 1, 1), (77, .dup2, 1), (78, .iaload, 1), (79, .iload_n 2, 1)], [(80, .isub, 1), (81, .iastore, 1), (82, .aload_n 0, 1), (83, .getfield 56, 3), (86, .iload_n 1, 1), (87, .iaload, 1), (88, .ireturn, 1)]]
abbrev mdX12_windowBack : MD := (RX12, yX12_windowBack, cX12_windowBack, 4, (some .int), tX12_windowBack)
set_option maxRecDepth 100000 in
theorem dtX12_windowBack : MDok mdX12_windowBack := by show DT cX12_windowBack tX12_windowBack; unfold DT tX12_windowBack; decide +kernel
def tX12_rules : IT := [[(0, .aload_n 0, 1), (1, .iload_n 1, 1), (2, .iconst 0, 1), (3, .bipush 100, 2), (5, .invokestatic 141, 3), (8, .ifCond .eq 27, 3), (11, .iload_n 2, 1), (12, .iconst 0, 1), (13, .bipush 100, 2), (15, .invokestatic 141, 3), (18, .ifCond .eq 17, 3), (21, .iload_n 3, 1), (22, .iconst 0, 1), (23, .bipush 100, 2), (25, .invokestatic 141, 3), (28, .ifCond .eq 7, 3), (31, .iconst 0, 1), (32, .goto 4, 3), (35, .iconst 1, 1), (36, .invokevirtual 175, 3), (39, .ifCond .ne 5, 3), (42, .iconst 0, 1), (43, .ireturn, 1), (44, .aload_n 0, 1), (45, .getfield 249, 3), (48, .istore 4, 2), (50, .aload_n 0, 1), (51, .iload_n 1, 1), (52, .putfield 249, 3), (55, .aload_n 0, 1), (56, .iload_n 2, 1), (57, .putfield 7, 3), (60, .aload_n 0, 1), (61, .iload_n 3, 1), (62, .putfield 13, 3), (65, .iload 4, 2), (67, .ireturn, 1)]]
abbrev mdX12_rules : MD := (RX12, yX12_rules, cX12_rules, 5, (some .int), tX12_rules)
set_option maxRecDepth 100000 in
theorem dtX12_rules : MDok mdX12_rules := by show DT cX12_rules tX12_rules; unfold DT tX12_rules; decide +kernel
def tX12_buyBonds : IT := [[(0, .iload_n 1, 1), (1, .invokestatic 181, 3), (4, .istore_n 3, 1), (5, .aload_n 0, 1), (6, .iload_n 3, 1), (7, .ifCond .ne 7, 3), (10, .iconst 1, 1), (11, .goto 32, 3), (14, .iload_n 2, 1), (15, .iconst 1, 1), (16, .sipush 10000, 3), (19, .invokestatic 141, 3), (22, .ifCond .ne 7, 3), (25, .iconst 2, 1), (26, .goto 17, 3), (29, .aload_n 0, 1), (30, .iload_n 1, 1), (31, .invokevirtual 151, 3), (34, .iload_n 2, 1), (35, .if_icmp .ge 7, 3), (38, .iconst 3, 1), (39, .goto 4, 3), (42, .iconst 0, 1), (43, .invokevirtual 175, 3), (46, .ifCond .ne 5, 3), (49, .iconst 0, 1), (50, .ireturn, 1), (51, .iload_n 2, 1), (52, .istore 4, 2), (54, .iconst 0, 1), (55, .istore 5, 2), (57, .iload 5, 2), (59, .aload_n 0, 1), (60, .getfield 145, 3), (63, .if_icmp .ge 66, 3), (66, .iload 4, 2), (68, .aload_n 0, 1), (69, .getfield 117, 3), (72, .iconst 5, 1), (73, .iload 5, 2), (75, .imul, 1), (76, .iload_n 1, 1), (77, .iadd, 1), (78, .iaload, 1), (79, .invokestatic 193, 3), (82, .istore 6, 2), (84, .aload_n 0, 1), (85, .getfield 117, 3)], [(88, .iconst 5, 1), (89, .iload 5, 2), (91, .imul, 1), (92, .iload_n 1, 1), (93, .iadd, 1), (94, .dup2, 1), (95, .iaload, 1), (96, .iload 6, 2), (98, .isub, 1), (99, .iastore, 1), (100, .aload_n 0, 1), (101, .getfield 117, 3), (104, .iconst 5, 1), (105, .iload 5, 2), (107, .imul, 1), (108, .iconst 4, 1), (109, .iadd, 1), (110, .dup2, 1), (111, .iaload, 1), (112, .iload 6, 2), (114, .iadd, 1), (115, .iastore, 1), (116, .iload 4, 2), (118, .iload 6, 2), (120, .isub, 1), (121, .istore 4, 2), (123, .iinc 5 1, 3), (126, .goto (-69), 3), (129, .aload_n 0, 1), (130, .getfield 50, 3), (133, .iload_n 1, 1), (134, .dup2, 1), (135, .iaload, 1), (136, .iload_n 2, 1), (137, .iadd, 1), (138, .iastore, 1), (139, .aload_n 0, 1), (140, .iload_n 1, 1), (141, .invokevirtual 151, 3), (144, .ireturn, 1)]]
abbrev mdX12_buyBonds : MD := (RX12, yX12_buyBonds, cX12_buyBonds, 7, (some .int), tX12_buyBonds)
set_option maxRecDepth 100000 in
theorem dtX12_buyBonds : MDok mdX12_buyBonds := by show DT cX12_buyBonds tX12_buyBonds; unfold DT tX12_buyBonds; decide +kernel
def tX12_bid : IT := [[(0, .iload_n 1, 1), (1, .invokestatic 181, 3), (4, .istore 4, 2), (6, .iload_n 2, 1), (7, .bipush 50, 2), (9, .bipush 100, 2), (11, .invokestatic 141, 3), (14, .ifCond .eq 18, 3), (17, .iload_n 3, 1), (18, .iconst 1, 1), (19, .sipush 1000, 3), (22, .invokestatic 141, 3), (25, .ifCond .eq 7, 3), (28, .iconst 1, 1), (29, .goto 4, 3), (32, .iconst 0, 1), (33, .istore 5, 2), (35, .aload_n 0, 1), (36, .iload 4, 2), (38, .ifCond .ne 7, 3), (41, .iconst 1, 1), (42, .goto 35, 3), (45, .iload 5, 2), (47, .ifCond .ne 7, 3), (50, .iconst 2, 1), (51, .goto 26, 3), (54, .aload_n 0, 1), (55, .getfield 62, 3), (58, .iload_n 1, 1), (59, .baload, 1), (60, .ifCond .ne 12, 3), (63, .aload_n 0, 1), (64, .getfield 252, 3), (67, .bipush 12, 2), (69, .if_icmp .ne 7, 3), (72, .iconst 3, 1), (73, .goto 4, 3), (76, .iconst 0, 1), (77, .invokevirtual 175, 3), (80, .ifCond .ne 5, 3), (83, .iconst 0, 1), (84, .ireturn, 1), (85, .aload_n 0, 1), (86, .getfield 120, 3), (89, .aload_n 0, 1), (90, .getfield 252, 3), (93, .iload_n 1, 1), (94, .iastore, 1)], [(95, .aload_n 0, 1), (96, .getfield 123, 3), (99, .aload_n 0, 1), (100, .getfield 252, 3), (103, .iload_n 2, 1), (104, .iastore, 1), (105, .aload_n 0, 1), (106, .getfield 126, 3), (109, .aload_n 0, 1), (110, .getfield 252, 3), (113, .iload_n 3, 1), (114, .iastore, 1), (115, .aload_n 0, 1), (116, .dup, 1), (117, .getfield 252, 3), (120, .iconst 1, 1), (121, .iadd, 1), (122, .putfield 252, 3), (125, .aload_n 0, 1), (126, .getfield 252, 3), (129, .ireturn, 1)]]
abbrev mdX12_bid : MD := (RX12, yX12_bid, cX12_bid, 6, (some .int), tX12_bid)
set_option maxRecDepth 100000 in
theorem dtX12_bid : MDok mdX12_bid := by show DT cX12_bid tX12_bid; unfold DT tX12_bid; decide +kernel
def tX12_nextBid : IT := [[(0, .iconst (-1), 1), (1, .istore_n 1, 1), (2, .iconst 0, 1), (3, .istore_n 2, 1), (4, .iload_n 2, 1), (5, .aload_n 0, 1), (6, .getfield 252, 3), (9, .if_icmp .ge 44, 3), (12, .aload_n 0, 1), (13, .getfield 132, 3), (16, .iload_n 2, 1), (17, .baload, 1), (18, .ifCond .ne 27, 3), (21, .iload_n 1, 1), (22, .iconst (-1), 1), (23, .if_icmp .eq 18, 3), (26, .aload_n 0, 1), (27, .getfield 123, 3), (30, .iload_n 2, 1), (31, .iaload, 1), (32, .aload_n 0, 1), (33, .getfield 123, 3), (36, .iload_n 1, 1), (37, .iaload, 1), (38, .if_icmp .le 7, 3), (41, .iload_n 2, 1), (42, .goto 4, 3), (45, .iload_n 1, 1), (46, .istore_n 1, 1), (47, .iinc 2 1, 3), (50, .goto (-46), 3), (53, .iload_n 1, 1), (54, .ireturn, 1)]]
abbrev mdX12_nextBid : MD := (RX12, yX12_nextBid, cX12_nextBid, 3, (some .int), tX12_nextBid)
set_option maxRecDepth 100000 in
theorem dtX12_nextBid : MDok mdX12_nextBid := by show DT cX12_nextBid tX12_nextBid; unfold DT tX12_nextBid; decide +kernel
def tX12_takesBids : IT := [[(0, .iload_n 1, 1), (1, .istore_n 2, 1), (2, .iconst (-1), 1), (3, .istore_n 3, 1), (4, .iconst 0, 1), (5, .istore 4, 2), (7, .iload 4, 2), (9, .iconst 4, 1), (10, .if_icmp .ge 17, 3), (13, .aload_n 0, 1), (14, .getfield 72, 3), (17, .iload 4, 2), (19, .iconst 0, 1), (20, .iastore, 1), (21, .iinc 4 1, 3), (24, .goto (-17), 3), (27, .iconst 0, 1), (28, .istore 4, 2), (30, .iload 4, 2), (32, .aload_n 0, 1), (33, .getfield 252, 3), (36, .if_icmp .ge 25, 3), (39, .aload_n 0, 1), (40, .getfield 132, 3), (43, .iload 4, 2), (45, .iconst 0, 1), (46, .bastore, 1), (47, .aload_n 0, 1), (48, .getfield 129, 3), (51, .iload 4, 2), (53, .iconst 0, 1), (54, .iastore, 1), (55, .iinc 4 1, 3), (58, .goto (-28), 3), (61, .aload_n 0, 1), (62, .invokevirtual 255, 3), (65, .istore 4, 2), (67, .iload 4, 2), (69, .iconst (-1), 1), (70, .if_icmp .eq 123, 3), (73, .iload_n 2, 1), (74, .ifCond .le 119, 3), (77, .iload_n 2, 1), (78, .aload_n 0, 1), (79, .getfield 126, 3), (82, .iload 4, 2), (84, .iaload, 1), (85, .invokestatic 193, 3)], [(88, .istore 5, 2), (90, .iload 5, 2), (92, .aload_n 0, 1), (93, .getfield 123, 3), (96, .iload 4, 2), (98, .iaload, 1), (99, .imul, 1), (100, .bipush 100, 2), (102, .invokestatic 258, 3), (105, .istore 6, 2), (107, .aload_n 0, 1), (108, .getfield 132, 3), (111, .iload 4, 2), (113, .iconst 1, 1), (114, .bastore, 1), (115, .aload_n 0, 1), (116, .getfield 72, 3), (119, .aload_n 0, 1), (120, .getfield 120, 3), (123, .iload 4, 2), (125, .iaload, 1), (126, .iaload, 1), (127, .iload 6, 2), (129, .iadd, 1), (130, .aload_n 0, 1), (131, .getfield 50, 3), (134, .aload_n 0, 1), (135, .getfield 120, 3), (138, .iload 4, 2), (140, .iaload, 1), (141, .iaload, 1), (142, .if_icmp .gt 42, 3), (145, .aload_n 0, 1), (146, .getfield 72, 3), (149, .aload_n 0, 1), (150, .getfield 120, 3), (153, .iload 4, 2), (155, .iaload, 1), (156, .dup2, 1), (157, .iaload, 1), (158, .iload 6, 2), (160, .iadd, 1), (161, .iastore, 1), (162, .aload_n 0, 1), (163, .getfield 129, 3), (166, .iload 4, 2), (168, .iload 5, 2), (170, .iastore, 1)], [(171, .iload_n 2, 1), (172, .iload 5, 2), (174, .isub, 1), (175, .istore_n 2, 1), (176, .aload_n 0, 1), (177, .getfield 123, 3), (180, .iload 4, 2), (182, .iaload, 1), (183, .istore_n 3, 1), (184, .aload_n 0, 1), (185, .invokevirtual 255, 3), (188, .istore 4, 2), (190, .goto (-123), 3), (193, .iload_n 3, 1), (194, .ireturn, 1)]]
abbrev mdX12_takesBids : MD := (RX12, yX12_takesBids, cX12_takesBids, 7, (some .int), tX12_takesBids)
set_option maxRecDepth 100000 in
theorem dtX12_takesBids : MDok mdX12_takesBids := by show DT cX12_takesBids tX12_takesBids; unfold DT tX12_takesBids; decide +kernel
def tX12_auction : IT := [[(0, .aload_n 0, 1), (1, .iload_n 1, 1), (2, .iconst 1, 1), (3, .sipush 10000, 3), (6, .invokestatic 141, 3), (9, .ifCond .eq 13, 3), (12, .iload_n 2, 1), (13, .iconst 1, 1), (14, .bipush 50, 2), (16, .invokestatic 141, 3), (19, .ifCond .ne 7, 3), (22, .iconst 1, 1), (23, .goto 17, 3), (26, .aload_n 0, 1), (27, .getfield 145, 3), (30, .bipush 20, 2), (32, .if_icmp .ne 7, 3), (35, .iconst 2, 1), (36, .goto 4, 3), (39, .iconst 0, 1), (40, .invokevirtual 175, 3), (43, .ifCond .ne 5, 3), (46, .iconst 0, 1), (47, .ireturn, 1), (48, .aload_n 0, 1), (49, .iload_n 1, 1), (50, .invokevirtual 261, 3), (53, .istore_n 3, 1), (54, .aload_n 0, 1), (55, .getfield 114, 3), (58, .aload_n 0, 1), (59, .getfield 145, 3), (62, .aload_n 0, 1), (63, .getfield 196, 3), (66, .iload_n 2, 1), (67, .iadd, 1), (68, .iastore, 1), (69, .iconst 0, 1), (70, .istore 4, 2), (72, .iload 4, 2), (74, .aload_n 0, 1), (75, .getfield 252, 3), (78, .if_icmp .ge 96, 3), (81, .aload_n 0, 1), (82, .getfield 129, 3), (85, .iload 4, 2), (87, .iaload, 1), (88, .ifCond .ne 7, 3)], [(91, .iconst 0, 1), (92, .goto 17, 3), (95, .aload_n 0, 1), (96, .getfield 129, 3), (99, .iload 4, 2), (101, .iaload, 1), (102, .iload_n 3, 1), (103, .imul, 1), (104, .bipush 100, 2), (106, .invokestatic 258, 3), (109, .istore 5, 2), (111, .aload_n 0, 1), (112, .getfield 50, 3), (115, .aload_n 0, 1), (116, .getfield 120, 3), (119, .iload 4, 2), (121, .iaload, 1), (122, .dup2, 1), (123, .iaload, 1), (124, .iload 5, 2), (126, .isub, 1), (127, .iastore, 1), (128, .aload_n 0, 1), (129, .dup, 1), (130, .getfield 168, 3), (133, .iload 5, 2), (135, .iadd, 1), (136, .putfield 168, 3), (139, .aload_n 0, 1), (140, .getfield 117, 3), (143, .iconst 5, 1), (144, .aload_n 0, 1), (145, .getfield 145, 3), (148, .imul, 1), (149, .aload_n 0, 1), (150, .getfield 120, 3), (153, .iload 4, 2), (155, .iaload, 1), (156, .iadd, 1), (157, .dup2, 1), (158, .iaload, 1), (159, .aload_n 0, 1), (160, .getfield 129, 3), (163, .iload 4, 2), (165, .iaload, 1), (166, .iadd, 1), (167, .iastore, 1), (168, .iinc 4 1, 3)], [(171, .goto (-99), 3), (174, .aload_n 0, 1), (175, .dup, 1), (176, .getfield 145, 3), (179, .iconst 1, 1), (180, .iadd, 1), (181, .putfield 145, 3), (184, .aload_n 0, 1), (185, .iconst 0, 1), (186, .putfield 252, 3), (189, .iload_n 3, 1), (190, .ireturn, 1)]]
abbrev mdX12_auction : MD := (RX12, yX12_auction, cX12_auction, 6, (some .int), tX12_auction)
set_option maxRecDepth 100000 in
theorem dtX12_auction : MDok mdX12_auction := by show DT cX12_auction tX12_auction; unfold DT tX12_auction; decide +kernel
def tX12_levy : IT := [[(0, .iload_n 1, 1), (1, .invokestatic 171, 3), (4, .istore_n 3, 1), (5, .iload_n 3, 1), (6, .ifCond .eq 30, 3), (9, .iload_n 2, 1), (10, .iconst 1, 1), (11, .bipush 100, 2), (13, .invokestatic 141, 3), (16, .ifCond .eq 20, 3), (19, .aload_n 0, 1), (20, .iload_n 1, 1), (21, .invokevirtual 202, 3), (24, .i2l, 1), (25, .iload_n 2, 1), (26, .i2l, 1), (27, .lmul, 1), (28, .ldc2_w 264, 3), (31, .ldiv, 1), (32, .l2i, 1), (33, .goto 4, 3), (36, .iconst 0, 1), (37, .istore 4, 2), (39, .iload_n 3, 1), (40, .ifCond .eq 31, 3), (43, .aload_n 0, 1), (44, .iload_n 1, 1), (45, .invokevirtual 184, 3), (48, .ifCond .eq 23, 3), (51, .aload_n 0, 1), (52, .getfield 50, 3), (55, .aload_n 0, 1), (56, .getfield 23, 3), (59, .iload_n 1, 1), (60, .iaload, 1), (61, .iaload, 1), (62, .iload 4, 2), (64, .if_icmp .lt 7, 3), (67, .iconst 1, 1), (68, .goto 4, 3), (71, .iconst 0, 1), (72, .istore 5, 2), (74, .aload_n 0, 1), (75, .iload_n 3, 1), (76, .ifCond .ne 7, 3), (79, .iconst 1, 1), (80, .goto 27, 3), (83, .iload_n 2, 1)], [(84, .iconst 1, 1), (85, .bipush 100, 2), (87, .invokestatic 141, 3), (90, .ifCond .ne 7, 3), (93, .iconst 2, 1), (94, .goto 13, 3), (97, .iload 5, 2), (99, .ifCond .eq 7, 3), (102, .iconst 0, 1), (103, .goto 4, 3), (106, .iconst 3, 1), (107, .invokevirtual 175, 3), (110, .ifCond .ne 5, 3), (113, .iconst 0, 1), (114, .ireturn, 1), (115, .aload_n 0, 1), (116, .getfield 26, 3), (119, .iload_n 1, 1), (120, .dup2, 1), (121, .iaload, 1), (122, .iload 4, 2), (124, .isub, 1), (125, .iastore, 1), (126, .aload_n 0, 1), (127, .getfield 50, 3), (130, .aload_n 0, 1), (131, .getfield 23, 3), (134, .iload_n 1, 1), (135, .iaload, 1), (136, .dup2, 1), (137, .iaload, 1), (138, .iload 4, 2), (140, .isub, 1), (141, .iastore, 1), (142, .aload_n 0, 1), (143, .dup, 1), (144, .getfield 168, 3), (147, .iload 4, 2), (149, .iadd, 1), (150, .putfield 168, 3), (153, .iload 4, 2), (155, .ireturn, 1)]]
abbrev mdX12_levy : MD := (RX12, yX12_levy, cX12_levy, 6, (some .int), tX12_levy)
set_option maxRecDepth 100000 in
theorem dtX12_levy : MDok mdX12_levy := by show DT cX12_levy tX12_levy; unfold DT tX12_levy; decide +kernel
def tX12_spend : IT := [[(0, .iload_n 1, 1), (1, .invokestatic 171, 3), (4, .istore_n 3, 1), (5, .aload_n 0, 1), (6, .iload_n 3, 1), (7, .ifCond .ne 7, 3), (10, .iconst 1, 1), (11, .goto 39, 3), (14, .iload_n 2, 1), (15, .iconst 1, 1), (16, .sipush 10000, 3), (19, .invokestatic 141, 3), (22, .ifCond .ne 7, 3), (25, .iconst 2, 1), (26, .goto 24, 3), (29, .aload_n 0, 1), (30, .iload_n 1, 1), (31, .invokevirtual 184, 3), (34, .ifCond .eq 11, 3), (37, .aload_n 0, 1), (38, .getfield 168, 3), (41, .iload_n 2, 1), (42, .if_icmp .ge 7, 3), (45, .iconst 3, 1), (46, .goto 4, 3), (49, .iconst 0, 1), (50, .invokevirtual 175, 3), (53, .ifCond .ne 5, 3), (56, .iconst 0, 1), (57, .ireturn, 1), (58, .aload_n 0, 1), (59, .getfield 26, 3), (62, .iload_n 1, 1), (63, .dup2, 1), (64, .iaload, 1), (65, .iload_n 2, 1), (66, .iadd, 1), (67, .iastore, 1), (68, .aload_n 0, 1), (69, .getfield 50, 3), (72, .aload_n 0, 1), (73, .getfield 23, 3), (76, .iload_n 1, 1), (77, .iaload, 1), (78, .dup2, 1), (79, .iaload, 1), (80, .iload_n 2, 1), (81, .iadd, 1)], [(82, .iastore, 1), (83, .aload_n 0, 1), (84, .dup, 1), (85, .getfield 168, 3), (88, .iload_n 2, 1), (89, .isub, 1), (90, .putfield 168, 3), (93, .aload_n 0, 1), (94, .getfield 168, 3), (97, .ireturn, 1)]]
abbrev mdX12_spend : MD := (RX12, yX12_spend, cX12_spend, 4, (some .int), tX12_spend)
set_option maxRecDepth 100000 in
theorem dtX12_spend : MDok mdX12_spend := by show DT cX12_spend tX12_spend; unfold DT tX12_spend; decide +kernel
def tX12_exchange : IT := [[(0, .aload_n 0, 1), (1, .iload_n 1, 1), (2, .bipush 10, 2), (4, .sipush 1000, 3), (7, .invokestatic 141, 3), (10, .ifCond .eq 7, 3), (13, .iconst 0, 1), (14, .goto 4, 3), (17, .iconst 1, 1), (18, .invokevirtual 175, 3), (21, .ifCond .ne 5, 3), (24, .iconst 0, 1), (25, .ireturn, 1), (26, .aload_n 0, 1), (27, .getfield 135, 3), (30, .istore_n 2, 1), (31, .aload_n 0, 1), (32, .iload_n 1, 1), (33, .putfield 135, 3), (36, .iload_n 2, 1), (37, .ireturn, 1)]]
abbrev mdX12_exchange : MD := (RX12, yX12_exchange, cX12_exchange, 3, (some .int), tX12_exchange)
set_option maxRecDepth 100000 in
theorem dtX12_exchange : MDok mdX12_exchange := by show DT cX12_exchange tX12_exchange; unfold DT tX12_exchange; decide +kernel
def tX12_abroad : IT := [[(0, .iload_n 1, 1), (1, .invokestatic 266, 3), (4, .istore 4, 2), (6, .iload 4, 2), (8, .ifCond .eq 26, 3), (11, .iload_n 2, 1), (12, .iconst 1, 1), (13, .sipush 1000, 3), (16, .invokestatic 141, 3), (19, .ifCond .eq 15, 3), (22, .iload_n 2, 1), (23, .aload_n 0, 1), (24, .getfield 135, 3), (27, .imul, 1), (28, .bipush 100, 2), (30, .idiv, 1), (31, .goto 4, 3), (34, .iconst 0, 1), (35, .istore 5, 2), (37, .iload 4, 2), (39, .ifCond .eq 53, 3), (42, .aload_n 0, 1), (43, .iload_n 1, 1), (44, .invokevirtual 184, 3), (47, .ifCond .eq 45, 3), (50, .iload_n 3, 1), (51, .ifCond .ne 37, 3), (54, .aload_n 0, 1), (55, .getfield 269, 3), (58, .iload_n 2, 1), (59, .if_icmp .lt 33, 3), (62, .aload_n 0, 1), (63, .iload_n 1, 1), (64, .invokevirtual 202, 3), (67, .iload 5, 2), (69, .if_icmp .lt 23, 3), (72, .aload_n 0, 1), (73, .getfield 50, 3), (76, .aload_n 0, 1), (77, .getfield 23, 3), (80, .iload_n 1, 1), (81, .iaload, 1), (82, .iaload, 1), (83, .iload 5, 2), (85, .if_icmp .lt 7, 3), (88, .iconst 1, 1), (89, .goto 4, 3), (92, .iconst 0, 1)], [(93, .istore 6, 2), (95, .aload_n 0, 1), (96, .iload 4, 2), (98, .ifCond .ne 7, 3), (101, .iconst 1, 1), (102, .goto 28, 3), (105, .iload_n 2, 1), (106, .iconst 1, 1), (107, .sipush 1000, 3), (110, .invokestatic 141, 3), (113, .ifCond .ne 7, 3), (116, .iconst 2, 1), (117, .goto 13, 3), (120, .iload 6, 2), (122, .ifCond .eq 7, 3), (125, .iconst 0, 1), (126, .goto 4, 3), (129, .iconst 3, 1), (130, .invokevirtual 175, 3), (133, .ifCond .ne 5, 3), (136, .iconst 0, 1), (137, .ireturn, 1), (138, .iload_n 3, 1), (139, .ifCond .eq 8, 3), (142, .iload 5, 2), (144, .goto 6, 3), (147, .iload 5, 2), (149, .ineg, 1), (150, .istore 7, 2), (152, .aload_n 0, 1), (153, .getfield 26, 3), (156, .iload_n 1, 1), (157, .dup2, 1), (158, .iaload, 1), (159, .iload 7, 2), (161, .iadd, 1), (162, .iastore, 1), (163, .aload_n 0, 1), (164, .getfield 50, 3), (167, .aload_n 0, 1), (168, .getfield 23, 3), (171, .iload_n 1, 1), (172, .iaload, 1), (173, .dup2, 1), (174, .iaload, 1), (175, .iload 7, 2), (177, .iadd, 1), (178, .iastore, 1)], [(179, .aload_n 0, 1), (180, .dup, 1), (181, .getfield 165, 3), (184, .iload 7, 2), (186, .iadd, 1), (187, .putfield 165, 3), (190, .aload_n 0, 1), (191, .dup, 1), (192, .getfield 269, 3), (195, .iload_n 3, 1), (196, .ifCond .eq 7, 3), (199, .iload_n 2, 1), (200, .goto 5, 3), (203, .iload_n 2, 1), (204, .ineg, 1), (205, .iadd, 1), (206, .putfield 269, 3), (209, .iload 5, 2), (211, .ireturn, 1)]]
abbrev mdX12_abroad : MD := (RX12, yX12_abroad, cX12_abroad, 8, (some .int), tX12_abroad)
set_option maxRecDepth 100000 in
theorem dtX12_abroad : MDok mdX12_abroad := by show DT cX12_abroad tX12_abroad; unfold DT tX12_abroad; decide +kernel
def tX12_hire : IT := [[(0, .aload_n 0, 1), (1, .iload_n 1, 1), (2, .invokestatic 272, 3), (5, .ifCond .eq 10, 3), (8, .iload_n 2, 1), (9, .invokestatic 266, 3), (12, .ifCond .ne 7, 3), (15, .iconst 1, 1), (16, .goto 19, 3), (19, .iload_n 3, 1), (20, .iconst 1, 1), (21, .sipush 1000, 3), (24, .invokestatic 141, 3), (27, .ifCond .eq 7, 3), (30, .iconst 0, 1), (31, .goto 4, 3), (34, .iconst 2, 1), (35, .invokevirtual 175, 3), (38, .ifCond .ne 5, 3), (41, .iconst 0, 1), (42, .ireturn, 1), (43, .aload_n 0, 1), (44, .getfield 35, 3), (47, .iload_n 1, 1), (48, .iaload, 1), (49, .istore 4, 2), (51, .aload_n 0, 1), (52, .getfield 32, 3), (55, .iload_n 1, 1), (56, .iload_n 2, 1), (57, .iastore, 1), (58, .aload_n 0, 1), (59, .getfield 35, 3), (62, .iload_n 1, 1), (63, .iload_n 3, 1), (64, .iastore, 1), (65, .iload 4, 2), (67, .ireturn, 1)]]
abbrev mdX12_hire : MD := (RX12, yX12_hire, cX12_hire, 5, (some .int), tX12_hire)
set_option maxRecDepth 100000 in
theorem dtX12_hire : MDok mdX12_hire := by show DT cX12_hire tX12_hire; unfold DT tX12_hire; decide +kernel
def tX12_buy : IT := [[(0, .iload_n 1, 1), (1, .invokestatic 272, 3), (4, .ifCond .eq 14, 3), (7, .iload_n 2, 1), (8, .invokestatic 266, 3), (11, .ifCond .eq 7, 3), (14, .iconst 1, 1), (15, .goto 4, 3), (18, .iconst 0, 1), (19, .istore 4, 2), (21, .iload 4, 2), (23, .ifCond .eq 17, 3), (26, .iload_n 3, 1), (27, .iconst 1, 1), (28, .bipush 20, 2), (30, .invokestatic 141, 3), (33, .ifCond .eq 7, 3), (36, .iconst 1, 1), (37, .goto 4, 3), (40, .iconst 0, 1), (41, .istore 5, 2), (43, .aload_n 0, 1), (44, .iload 4, 2), (46, .ifCond .ne 7, 3), (49, .iconst 1, 1), (50, .goto 34, 3), (53, .iload 5, 2), (55, .ifCond .ne 7, 3), (58, .iconst 2, 1), (59, .goto 25, 3), (62, .aload_n 0, 1), (63, .iload_n 1, 1), (64, .iload_n 2, 1), (65, .iload_n 3, 1), (66, .aload_n 0, 1), (67, .getfield 44, 3), (70, .iload_n 2, 1), (71, .iaload, 1), (72, .imul, 1), (73, .invokevirtual 212, 3), (76, .ifCond .eq 7, 3), (79, .iconst 0, 1), (80, .goto 4, 3), (83, .iconst 3, 1), (84, .invokevirtual 175, 3), (87, .ifCond .ne 5, 3), (90, .iconst 0, 1), (91, .ireturn, 1)], [(92, .aload_n 0, 1), (93, .getfield 47, 3), (96, .iload_n 2, 1), (97, .dup2, 1), (98, .iaload, 1), (99, .iload_n 3, 1), (100, .iadd, 1), (101, .iastore, 1), (102, .aload_n 0, 1), (103, .iload_n 1, 1), (104, .iload_n 2, 1), (105, .iload_n 3, 1), (106, .aload_n 0, 1), (107, .getfield 44, 3), (110, .iload_n 2, 1), (111, .iaload, 1), (112, .imul, 1), (113, .iconst 1, 1), (114, .invokevirtual 215, 3), (117, .ireturn, 1)]]
abbrev mdX12_buy : MD := (RX12, yX12_buy, cX12_buy, 6, (some .int), tX12_buy)
set_option maxRecDepth 100000 in
theorem dtX12_buy : MDok mdX12_buy := by show DT cX12_buy tX12_buy; unfold DT tX12_buy; decide +kernel
def tX12_paysWages : IT := [[(0, .iconst 0, 1), (1, .istore_n 1, 1), (2, .iload_n 1, 1), (3, .bipush 10, 2), (5, .if_icmp .ge 75, 3), (8, .aload_n 0, 1), (9, .getfield 32, 3), (12, .iload_n 1, 1), (13, .iaload, 1), (14, .iconst (-1), 1), (15, .if_icmp .eq 59, 3), (18, .aload_n 0, 1), (19, .aload_n 0, 1), (20, .getfield 32, 3), (23, .iload_n 1, 1), (24, .iaload, 1), (25, .iload_n 1, 1), (26, .aload_n 0, 1), (27, .getfield 35, 3), (30, .iload_n 1, 1), (31, .iaload, 1), (32, .invokevirtual 212, 3), (35, .ifCond .eq 25, 3), (38, .aload_n 0, 1), (39, .aload_n 0, 1), (40, .getfield 32, 3), (43, .iload_n 1, 1), (44, .iaload, 1), (45, .iload_n 1, 1), (46, .aload_n 0, 1), (47, .getfield 35, 3), (50, .iload_n 1, 1), (51, .iaload, 1), (52, .iconst 0, 1), (53, .invokevirtual 215, 3), (56, .istore_n 2, 1), (57, .goto 17, 3), (60, .aload_n 0, 1), (61, .getfield 32, 3), (64, .iload_n 1, 1), (65, .iconst (-1), 1), (66, .iastore, 1), (67, .aload_n 0, 1), (68, .getfield 35, 3), (71, .iload_n 1, 1), (72, .iconst 0, 1), (73, .iastore, 1), (74, .iinc 1 1, 3)], [(77, .goto (-75), 3), (80, .return_, 1)]]
abbrev mdX12_paysWages : MD := (RX12, yX12_paysWages, cX12_paysWages, 3, none, tX12_paysWages)
set_option maxRecDepth 100000 in
theorem dtX12_paysWages : MDok mdX12_paysWages := by show DT cX12_paysWages tX12_paysWages; unfold DT tX12_paysWages; decide +kernel
def tX12_takesInterest : IT := [[(0, .iconst 0, 1), (1, .istore_n 1, 1), (2, .iload_n 1, 1), (3, .aload_n 0, 1), (4, .getfield 148, 3), (7, .if_icmp .ge 117, 3), (10, .aload_n 0, 1), (11, .getfield 81, 3), (14, .iload_n 1, 1), (15, .iaload, 1), (16, .aload_n 0, 1), (17, .getfield 84, 3), (20, .iload_n 1, 1), (21, .iaload, 1), (22, .imul, 1), (23, .sipush 1000, 3), (26, .idiv, 1), (27, .istore_n 2, 1), (28, .aload_n 0, 1), (29, .getfield 81, 3), (32, .iload_n 1, 1), (33, .iaload, 1), (34, .ifCond .le 84, 3), (37, .iload_n 2, 1), (38, .ifCond .eq 12, 3), (41, .aload_n 0, 1), (42, .iload_n 1, 1), (43, .iload_n 2, 1), (44, .invokevirtual 238, 3), (47, .ifCond .eq 7, 3), (50, .iconst 1, 1), (51, .goto 4, 3), (54, .iconst 0, 1), (55, .istore_n 3, 1), (56, .aload_n 0, 1), (57, .getfield 87, 3), (60, .iload_n 1, 1), (61, .iload_n 3, 1), (62, .ifCond .eq 7, 3), (65, .iconst 0, 1), (66, .goto 11, 3), (69, .aload_n 0, 1), (70, .getfield 87, 3), (73, .iload_n 1, 1), (74, .iaload, 1), (75, .iconst 1, 1), (76, .iadd, 1), (77, .iastore, 1)], [(78, .aload_n 0, 1), (79, .getfield 81, 3), (82, .iload_n 1, 1), (83, .aload_n 0, 1), (84, .getfield 87, 3), (87, .iload_n 1, 1), (88, .iaload, 1), (89, .iconst 3, 1), (90, .if_icmp .ne 7, 3), (93, .iconst 0, 1), (94, .goto 9, 3), (97, .aload_n 0, 1), (98, .getfield 81, 3), (101, .iload_n 1, 1), (102, .iaload, 1), (103, .iastore, 1), (104, .iload_n 3, 1), (105, .ifCond .eq 13, 3), (108, .iload_n 2, 1), (109, .ifCond .le 9, 3), (112, .aload_n 0, 1), (113, .iload_n 1, 1), (114, .iload_n 2, 1), (115, .invokevirtual 242, 3), (118, .iinc 1 1, 3), (121, .goto (-119), 3), (124, .return_, 1)]]
abbrev mdX12_takesInterest : MD := (RX12, yX12_takesInterest, cX12_takesInterest, 4, none, tX12_takesInterest)
set_option maxRecDepth 100000 in
theorem dtX12_takesInterest : MDok mdX12_takesInterest := by show DT cX12_takesInterest tX12_takesInterest; unfold DT tX12_takesInterest; decide +kernel
def tX12_paysCentral : IT := [[(0, .iconst 0, 1), (1, .istore_n 1, 1), (2, .iload_n 1, 1), (3, .iconst 4, 1), (4, .if_icmp .ge 61, 3), (7, .aload_n 0, 1), (8, .getfield 56, 3), (11, .iload_n 1, 1), (12, .iaload, 1), (13, .i2l, 1), (14, .aload_n 0, 1), (15, .getfield 249, 3), (18, .i2l, 1), (19, .lmul, 1), (20, .ldc2_w 275, 3), (23, .ldiv, 1), (24, .l2i, 1), (25, .istore_n 2, 1), (26, .aload_n 0, 1), (27, .getfield 50, 3), (30, .iload_n 1, 1), (31, .iaload, 1), (32, .iload_n 2, 1), (33, .invokestatic 193, 3), (36, .istore_n 3, 1), (37, .aload_n 0, 1), (38, .getfield 50, 3), (41, .iload_n 1, 1), (42, .dup2, 1), (43, .iaload, 1), (44, .iload_n 3, 1), (45, .isub, 1), (46, .iastore, 1), (47, .aload_n 0, 1), (48, .getfield 56, 3), (51, .iload_n 1, 1), (52, .dup2, 1), (53, .iaload, 1), (54, .iload_n 2, 1), (55, .iload_n 3, 1), (56, .isub, 1), (57, .iadd, 1), (58, .iastore, 1), (59, .iinc 1 1, 3), (62, .goto (-60), 3), (65, .return_, 1)]]
abbrev mdX12_paysCentral : MD := (RX12, yX12_paysCentral, cX12_paysCentral, 4, none, tX12_paysCentral)
set_option maxRecDepth 100000 in
theorem dtX12_paysCentral : MDok mdX12_paysCentral := by show DT cX12_paysCentral tX12_paysCentral; unfold DT tX12_paysCentral; decide +kernel
def tX12_paysBonds : IT := [[(0, .iconst 0, 1), (1, .istore_n 1, 1), (2, .iload_n 1, 1), (3, .aload_n 0, 1), (4, .getfield 145, 3), (7, .if_icmp .ge 108, 3), (10, .iconst 0, 1), (11, .istore_n 2, 1), (12, .iload_n 2, 1), (13, .iconst 5, 1), (14, .if_icmp .ge 95, 3), (17, .aload_n 0, 1), (18, .getfield 114, 3), (21, .iload_n 1, 1), (22, .iaload, 1), (23, .aload_n 0, 1), (24, .getfield 196, 3), (27, .if_icmp .gt 82, 3), (30, .iload_n 2, 1), (31, .ifCond .ne 7, 3), (34, .iconst 4, 1), (35, .goto 6, 3), (38, .iload_n 2, 1), (39, .iconst 1, 1), (40, .isub, 1), (41, .istore_n 3, 1), (42, .aload_n 0, 1), (43, .getfield 168, 3), (46, .aload_n 0, 1), (47, .getfield 117, 3), (50, .iconst 5, 1), (51, .iload_n 1, 1), (52, .imul, 1), (53, .iload_n 3, 1), (54, .iadd, 1), (55, .iaload, 1), (56, .invokestatic 193, 3), (59, .istore 4, 2), (61, .aload_n 0, 1), (62, .dup, 1), (63, .getfield 168, 3), (66, .iload 4, 2), (68, .isub, 1), (69, .putfield 168, 3), (72, .aload_n 0, 1), (73, .getfield 117, 3), (76, .iconst 5, 1), (77, .iload_n 1, 1)], [(78, .imul, 1), (79, .iload_n 3, 1), (80, .iadd, 1), (81, .dup2, 1), (82, .iaload, 1), (83, .iload 4, 2), (85, .isub, 1), (86, .iastore, 1), (87, .iload_n 3, 1), (88, .iconst 4, 1), (89, .if_icmp .eq 14, 3), (92, .aload_n 0, 1), (93, .getfield 50, 3), (96, .iload_n 3, 1), (97, .dup2, 1), (98, .iaload, 1), (99, .iload 4, 2), (101, .iadd, 1), (102, .iastore, 1), (103, .iinc 2 1, 3), (106, .goto (-94), 3), (109, .iinc 1 1, 3), (112, .goto (-110), 3), (115, .return_, 1)]]
abbrev mdX12_paysBonds : MD := (RX12, yX12_paysBonds, cX12_paysBonds, 5, none, tX12_paysBonds)
set_option maxRecDepth 100000 in
theorem dtX12_paysBonds : MDok mdX12_paysBonds := by show DT cX12_paysBonds tX12_paysBonds; unfold DT tX12_paysBonds; decide +kernel
def tX12_asksReserves : IT := [[(0, .iconst 0, 1), (1, .istore_n 1, 1), (2, .iload_n 1, 1), (3, .iconst 4, 1), (4, .if_icmp .ge 101, 3), (7, .aload_n 0, 1), (8, .iload_n 1, 1), (9, .invokevirtual 158, 3), (12, .i2l, 1), (13, .aload_n 0, 1), (14, .getfield 13, 3), (17, .i2l, 1), (18, .lmul, 1), (19, .ldc2_w 277, 3), (22, .ladd, 1), (23, .ldc2_w 264, 3), (26, .ldiv, 1), (27, .l2i, 1), (28, .istore_n 2, 1), (29, .iload_n 2, 1), (30, .aload_n 0, 1), (31, .getfield 50, 3), (34, .iload_n 1, 1), (35, .iaload, 1), (36, .isub, 1), (37, .aload_n 0, 1), (38, .getfield 53, 3), (41, .iload_n 1, 1), (42, .iaload, 1), (43, .isub, 1), (44, .iconst 0, 1), (45, .invokestatic 161, 3), (48, .istore_n 3, 1), (49, .iload_n 3, 1), (50, .aload_n 0, 1), (51, .iload_n 1, 1), (52, .invokevirtual 246, 3), (55, .invokestatic 193, 3), (58, .istore 4, 2), (60, .aload_n 0, 1), (61, .getfield 56, 3), (64, .iload_n 1, 1), (65, .dup2, 1), (66, .iaload, 1), (67, .iload 4, 2), (69, .iadd, 1), (70, .iastore, 1), (71, .aload_n 0, 1)], [(72, .getfield 50, 3), (75, .iload_n 1, 1), (76, .dup2, 1), (77, .iaload, 1), (78, .iload 4, 2), (80, .iadd, 1), (81, .iastore, 1), (82, .aload_n 0, 1), (83, .getfield 66, 3), (86, .iload_n 1, 1), (87, .iload_n 3, 1), (88, .iload 4, 2), (90, .if_icmp .le 7, 3), (93, .iconst 1, 1), (94, .goto 4, 3), (97, .iconst 0, 1), (98, .bastore, 1), (99, .iinc 1 1, 3), (102, .goto (-100), 3), (105, .return_, 1)]]
abbrev mdX12_asksReserves : MD := (RX12, yX12_asksReserves, cX12_asksReserves, 5, none, tX12_asksReserves)
set_option maxRecDepth 100000 in
theorem dtX12_asksReserves : MDok mdX12_asksReserves := by show DT cX12_asksReserves tX12_asksReserves; unfold DT tX12_asksReserves; decide +kernel
def tX12_hasDrawn : IT := [[(0, .iload_n 1, 1), (1, .invokestatic 272, 3), (4, .ifCond .eq 26, 3), (7, .aload_n 0, 1), (8, .getfield 41, 3), (11, .iconst 4, 1), (12, .iload_n 1, 1), (13, .imul, 1), (14, .iload_n 2, 1), (15, .iadd, 1), (16, .iaload, 1), (17, .aload_n 0, 1), (18, .getfield 196, 3), (21, .iconst 1, 1), (22, .isub, 1), (23, .if_icmp .lt 7, 3), (26, .iconst 1, 1), (27, .goto 4, 3), (30, .iconst 0, 1), (31, .ireturn, 1)]]
abbrev mdX12_hasDrawn : MD := (RX12, yX12_hasDrawn, cX12_hasDrawn, 3, (some .boolean), tX12_hasDrawn)
set_option maxRecDepth 100000 in
theorem dtX12_hasDrawn : MDok mdX12_hasDrawn := by show DT cX12_hasDrawn tX12_hasDrawn; unfold DT tX12_hasDrawn; decide +kernel
def tX12_runs : IT := [[(0, .iconst 0, 1), (1, .istore_n 1, 1), (2, .iload_n 1, 1), (3, .bipush 10, 2), (5, .if_icmp .ge 74, 3), (8, .aload_n 0, 1), (9, .getfield 23, 3), (12, .iload_n 1, 1), (13, .iaload, 1), (14, .istore_n 2, 1), (15, .aload_n 0, 1), (16, .iload_n 1, 1), (17, .invokevirtual 184, 3), (20, .ifCond .eq 53, 3), (23, .aload_n 0, 1), (24, .iload_n 1, 1), (25, .invokevirtual 202, 3), (28, .ifCond .le 45, 3), (31, .aload_n 0, 1), (32, .getfield 66, 3), (35, .iload_n 2, 1), (36, .baload, 1), (37, .ifCond .ne 25, 3), (40, .aload_n 0, 1), (41, .iload_n 1, 1), (42, .iconst 1, 1), (43, .isub, 1), (44, .iload_n 2, 1), (45, .invokevirtual 279, 3), (48, .ifCond .ne 14, 3), (51, .aload_n 0, 1), (52, .iload_n 1, 1), (53, .iconst 1, 1), (54, .iadd, 1), (55, .iload_n 2, 1), (56, .invokevirtual 279, 3), (59, .ifCond .eq 14, 3), (62, .aload_n 0, 1), (63, .iload_n 1, 1), (64, .aload_n 0, 1), (65, .iload_n 1, 1), (66, .invokevirtual 202, 3), (69, .invokevirtual 205, 3), (72, .istore_n 3, 1), (73, .iinc 1 1, 3), (76, .goto (-74), 3), (79, .return_, 1)]]
abbrev mdX12_runs : MD := (RX12, yX12_runs, cX12_runs, 4, none, tX12_runs)
set_option maxRecDepth 100000 in
theorem dtX12_runs : MDok mdX12_runs := by show DT cX12_runs tX12_runs; unfold DT tX12_runs; decide +kernel
def tX12_changesPrices : IT := [[(0, .iconst 0, 1), (1, .istore_n 1, 1), (2, .bipush 10, 2), (4, .istore_n 2, 1), (5, .iload_n 2, 1), (6, .bipush 16, 2), (8, .if_icmp .ge 72, 3), (11, .aload_n 0, 1), (12, .getfield 44, 3), (15, .iload_n 2, 1), (16, .dup2, 1), (17, .iaload, 1), (18, .aload_n 0, 1), (19, .getfield 47, 3), (22, .iload_n 2, 1), (23, .iaload, 1), (24, .iconst 5, 1), (25, .if_icmp .lt 7, 3), (28, .iconst 1, 1), (29, .goto 27, 3), (32, .aload_n 0, 1), (33, .getfield 47, 3), (36, .iload_n 2, 1), (37, .iaload, 1), (38, .ifCond .ne 17, 3), (41, .aload_n 0, 1), (42, .getfield 44, 3), (45, .iload_n 2, 1), (46, .iaload, 1), (47, .iconst 1, 1), (48, .if_icmp .le 7, 3), (51, .iconst (-1), 1), (52, .goto 4, 3), (55, .iconst 0, 1), (56, .iadd, 1), (57, .iastore, 1), (58, .aload_n 0, 1), (59, .getfield 47, 3), (62, .iload_n 2, 1), (63, .iconst 0, 1), (64, .iastore, 1), (65, .iload_n 1, 1), (66, .aload_n 0, 1), (67, .getfield 44, 3), (70, .iload_n 2, 1), (71, .iaload, 1), (72, .iadd, 1), (73, .istore_n 1, 1)], [(74, .iinc 2 1, 3), (77, .goto (-72), 3), (80, .iconst 0, 1), (81, .istore_n 2, 1), (82, .iload_n 2, 1), (83, .bipush 10, 2), (85, .if_icmp .ge 31, 3), (88, .aload_n 0, 1), (89, .getfield 38, 3), (92, .iload_n 2, 1), (93, .dup2, 1), (94, .iaload, 1), (95, .iload_n 1, 1), (96, .bipush 6, 2), (98, .idiv, 1), (99, .aload_n 0, 1), (100, .getfield 38, 3), (103, .iload_n 2, 1), (104, .iaload, 1), (105, .isub, 1), (106, .iconst 4, 1), (107, .idiv, 1), (108, .iadd, 1), (109, .iastore, 1), (110, .iinc 2 1, 3), (113, .goto (-31), 3), (116, .return_, 1)]]
abbrev mdX12_changesPrices : MD := (RX12, yX12_changesPrices, cX12_changesPrices, 3, none, tX12_changesPrices)
set_option maxRecDepth 100000 in
theorem dtX12_changesPrices : MDok mdX12_changesPrices := by show DT cX12_changesPrices tX12_changesPrices; unfold DT tX12_changesPrices; decide +kernel
def tX12_goesBy : IT := [[(0, .aload_n 0, 1), (1, .dup, 1), (2, .getfield 196, 3), (5, .iconst 1, 1), (6, .iadd, 1), (7, .putfield 196, 3), (10, .aload_n 0, 1), (11, .invokevirtual 282, 3), (14, .aload_n 0, 1), (15, .invokevirtual 285, 3), (18, .aload_n 0, 1), (19, .invokevirtual 288, 3), (22, .aload_n 0, 1), (23, .invokevirtual 226, 3), (26, .istore_n 1, 1), (27, .aload_n 0, 1), (28, .invokevirtual 291, 3), (31, .aload_n 0, 1), (32, .invokevirtual 294, 3), (35, .aload_n 0, 1), (36, .invokevirtual 297, 3), (39, .iconst 0, 1), (40, .istore_n 2, 1), (41, .iload_n 2, 1), (42, .iconst 4, 1), (43, .if_icmp .ge 36, 3), (46, .aload_n 0, 1), (47, .getfield 62, 3), (50, .iload_n 2, 1), (51, .baload, 1), (52, .ifCond .ne 19, 3), (55, .aload_n 0, 1), (56, .iload_n 2, 1), (57, .invokevirtual 229, 3), (60, .ifCond .ge 11, 3), (63, .aload_n 0, 1), (64, .iload_n 2, 1), (65, .invokevirtual 199, 3), (68, .goto 4, 3), (71, .iconst 0, 1), (72, .istore_n 3, 1), (73, .iinc 2 1, 3), (76, .goto (-35), 3), (79, .aload_n 0, 1), (80, .invokevirtual 300, 3), (83, .return_, 1)]]
abbrev mdX12_goesBy : MD := (RX12, yX12_goesBy, cX12_goesBy, 4, none, tX12_goesBy)
set_option maxRecDepth 100000 in
theorem dtX12_goesBy : MDok mdX12_goesBy := by show DT cX12_goesBy tX12_goesBy; unfold DT tX12_goesBy; decide +kernel
def tX12_day : IT := [[(0, .aload_n 0, 1), (1, .iload_n 1, 1), (2, .iconst 1, 1), (3, .iconst 5, 1), (4, .invokestatic 141, 3), (7, .ifCond .ne 7, 3), (10, .iconst 1, 1), (11, .goto 20, 3), (14, .aload_n 0, 1), (15, .getfield 196, 3), (18, .iload_n 1, 1), (19, .iadd, 1), (20, .sipush 200, 3), (23, .if_icmp .le 7, 3), (26, .iconst 2, 1), (27, .goto 4, 3), (30, .iconst 0, 1), (31, .invokevirtual 175, 3), (34, .ifCond .ne 5, 3), (37, .iconst 0, 1), (38, .ireturn, 1), (39, .iconst 0, 1), (40, .istore_n 2, 1), (41, .iload_n 2, 1), (42, .iload_n 1, 1), (43, .if_icmp .ge 13, 3), (46, .aload_n 0, 1), (47, .invokevirtual 303, 3), (50, .iinc 2 1, 3), (53, .goto (-12), 3), (56, .iconst 0, 1), (57, .istore_n 2, 1), (58, .iconst 0, 1), (59, .istore_n 3, 1), (60, .iload_n 3, 1), (61, .iconst 4, 1), (62, .if_icmp .ge 26, 3), (65, .iload_n 2, 1), (66, .aload_n 0, 1), (67, .getfield 62, 3), (70, .iload_n 3, 1), (71, .baload, 1), (72, .ifCond .eq 7, 3), (75, .iconst 0, 1), (76, .goto 4, 3), (79, .iconst 1, 1), (80, .iadd, 1), (81, .istore_n 2, 1)], [(82, .iinc 3 1, 3), (85, .goto (-25), 3), (88, .iload_n 2, 1), (89, .ireturn, 1)]]
abbrev mdX12_day : MD := (RX12, yX12_day, cX12_day, 4, (some .int), tX12_day)
set_option maxRecDepth 100000 in
theorem dtX12_day : MDok mdX12_day := by show DT cX12_day tX12_day; unfold DT tX12_day; decide +kernel
def tX12_takesBack : IT := [[(0, .iconst 0, 1), (1, .istore_n 2, 1), (2, .iload_n 2, 1), (3, .aload_n 0, 1), (4, .getfield 187, 3), (7, .if_icmp .ge 75, 3), (10, .aload_n 0, 1), (11, .getfield 99, 3), (14, .iload_n 2, 1), (15, .iaload, 1), (16, .ifCond .ne 60, 3), (19, .aload_n 0, 1), (20, .getfield 23, 3), (23, .aload_n 0, 1), (24, .getfield 90, 3), (27, .iload_n 2, 1), (28, .iaload, 1), (29, .iaload, 1), (30, .iload_n 1, 1), (31, .if_icmp .eq 18, 3), (34, .aload_n 0, 1), (35, .getfield 23, 3), (38, .aload_n 0, 1), (39, .getfield 93, 3), (42, .iload_n 2, 1), (43, .iaload, 1), (44, .iaload, 1), (45, .iload_n 1, 1), (46, .if_icmp .ne 30, 3), (49, .aload_n 0, 1), (50, .getfield 99, 3), (53, .iload_n 2, 1), (54, .iconst 2, 1), (55, .iastore, 1), (56, .aload_n 0, 1), (57, .getfield 29, 3), (60, .aload_n 0, 1), (61, .getfield 90, 3), (64, .iload_n 2, 1), (65, .iaload, 1), (66, .dup2, 1), (67, .iaload, 1), (68, .aload_n 0, 1), (69, .getfield 96, 3), (72, .iload_n 2, 1), (73, .iaload, 1), (74, .isub, 1), (75, .iastore, 1)], [(76, .iinc 2 1, 3), (79, .goto (-77), 3), (82, .iconst 0, 1), (83, .istore_n 2, 1), (84, .iconst 0, 1), (85, .istore_n 3, 1), (86, .iload_n 3, 1), (87, .aload_n 0, 1), (88, .getfield 252, 3), (91, .if_icmp .ge 58, 3), (94, .aload_n 0, 1), (95, .getfield 120, 3), (98, .iload_n 3, 1), (99, .iaload, 1), (100, .iload_n 1, 1), (101, .if_icmp .eq 42, 3), (104, .aload_n 0, 1), (105, .getfield 120, 3), (108, .iload_n 2, 1), (109, .aload_n 0, 1), (110, .getfield 120, 3), (113, .iload_n 3, 1), (114, .iaload, 1), (115, .iastore, 1), (116, .aload_n 0, 1), (117, .getfield 123, 3), (120, .iload_n 2, 1), (121, .aload_n 0, 1), (122, .getfield 123, 3), (125, .iload_n 3, 1), (126, .iaload, 1), (127, .iastore, 1), (128, .aload_n 0, 1), (129, .getfield 126, 3), (132, .iload_n 2, 1), (133, .aload_n 0, 1), (134, .getfield 126, 3), (137, .iload_n 3, 1), (138, .iaload, 1), (139, .iastore, 1), (140, .iinc 2 1, 3), (143, .iinc 3 1, 3), (146, .goto (-60), 3), (149, .aload_n 0, 1), (150, .iload_n 2, 1), (151, .putfield 252, 3), (154, .return_, 1)]]
abbrev mdX12_takesBack : MD := (RX12, yX12_takesBack, cX12_takesBack, 4, none, tX12_takesBack)
set_option maxRecDepth 100000 in
theorem dtX12_takesBack : MDok mdX12_takesBack := by show DT cX12_takesBack tX12_takesBack; unfold DT tX12_takesBack; decide +kernel
def tX12_takesOver : IT := [[(0, .iconst 0, 1), (1, .istore_n 2, 1), (2, .iload_n 2, 1), (3, .aload_n 0, 1), (4, .getfield 145, 3), (7, .if_icmp .ge 43, 3), (10, .aload_n 0, 1), (11, .getfield 117, 3), (14, .iconst 5, 1), (15, .iload_n 2, 1), (16, .imul, 1), (17, .iconst 4, 1), (18, .iadd, 1), (19, .dup2, 1), (20, .iaload, 1), (21, .aload_n 0, 1), (22, .getfield 117, 3), (25, .iconst 5, 1), (26, .iload_n 2, 1), (27, .imul, 1), (28, .iload_n 1, 1), (29, .iadd, 1), (30, .iaload, 1), (31, .iadd, 1), (32, .iastore, 1), (33, .aload_n 0, 1), (34, .getfield 117, 3), (37, .iconst 5, 1), (38, .iload_n 2, 1), (39, .imul, 1), (40, .iload_n 1, 1), (41, .iadd, 1), (42, .iconst 0, 1), (43, .iastore, 1), (44, .iinc 2 1, 3), (47, .goto (-45), 3), (50, .iconst 0, 1), (51, .istore_n 2, 1), (52, .iload_n 2, 1), (53, .aload_n 0, 1), (54, .getfield 148, 3), (57, .if_icmp .ge 35, 3), (60, .aload_n 0, 1), (61, .getfield 78, 3), (64, .iload_n 2, 1), (65, .aload_n 0, 1), (66, .getfield 78, 3), (69, .iload_n 2, 1)], [(70, .iaload, 1), (71, .iload_n 1, 1), (72, .if_icmp .ne 7, 3), (75, .iconst 4, 1), (76, .goto 9, 3), (79, .aload_n 0, 1), (80, .getfield 78, 3), (83, .iload_n 2, 1), (84, .iaload, 1), (85, .iastore, 1), (86, .iinc 2 1, 3), (89, .goto (-37), 3), (92, .aload_n 0, 1), (93, .getfield 50, 3), (96, .iload_n 1, 1), (97, .iconst 0, 1), (98, .iastore, 1), (99, .aload_n 0, 1), (100, .getfield 53, 3), (103, .iload_n 1, 1), (104, .iconst 0, 1), (105, .iastore, 1), (106, .aload_n 0, 1), (107, .getfield 56, 3), (110, .iload_n 1, 1), (111, .iconst 0, 1), (112, .iastore, 1), (113, .aload_n 0, 1), (114, .getfield 66, 3), (117, .iload_n 1, 1), (118, .iconst 0, 1), (119, .bastore, 1), (120, .aload_n 0, 1), (121, .getfield 62, 3), (124, .iload_n 1, 1), (125, .iconst 1, 1), (126, .bastore, 1), (127, .return_, 1)]]
abbrev mdX12_takesOver : MD := (RX12, yX12_takesOver, cX12_takesOver, 3, none, tX12_takesOver)
set_option maxRecDepth 100000 in
theorem dtX12_takesOver : MDok mdX12_takesOver := by show DT cX12_takesOver tX12_takesOver; unfold DT tX12_takesOver; decide +kernel
def tX12_nextBank : IT := [[(0, .iconst 0, 1), (1, .istore_n 1, 1), (2, .iload_n 1, 1), (3, .iconst 4, 1), (4, .if_icmp .ge 20, 3), (7, .aload_n 0, 1), (8, .getfield 62, 3), (11, .iload_n 1, 1), (12, .baload, 1), (13, .ifCond .ne 5, 3), (16, .iload_n 1, 1), (17, .ireturn, 1), (18, .iinc 1 1, 3), (21, .goto (-19), 3), (24, .iconst (-1), 1), (25, .ireturn, 1)]]
abbrev mdX12_nextBank : MD := (RX12, yX12_nextBank, cX12_nextBank, 2, (some .int), tX12_nextBank)
set_option maxRecDepth 100000 in
theorem dtX12_nextBank : MDok mdX12_nextBank := by show DT cX12_nextBank tX12_nextBank; unfold DT tX12_nextBank; decide +kernel
def tX12_fails : IT := [[(0, .aload_n 0, 1), (1, .iload_n 1, 1), (2, .invokevirtual 306, 3), (5, .aload_n 0, 1), (6, .getfield 50, 3), (9, .iload_n 1, 1), (10, .iaload, 1), (11, .aload_n 0, 1), (12, .getfield 53, 3), (15, .iload_n 1, 1), (16, .iaload, 1), (17, .iadd, 1), (18, .bipush 90, 2), (20, .aload_n 0, 1), (21, .iload_n 1, 1), (22, .invokevirtual 151, 3), (25, .imul, 1), (26, .bipush 100, 2), (28, .idiv, 1), (29, .iadd, 1), (30, .bipush 50, 2), (32, .aload_n 0, 1), (33, .iload_n 1, 1), (34, .invokevirtual 155, 3), (37, .imul, 1), (38, .bipush 100, 2), (40, .idiv, 1), (41, .iadd, 1), (42, .istore_n 2, 1), (43, .iload_n 2, 1), (44, .aload_n 0, 1), (45, .getfield 56, 3), (48, .iload_n 1, 1), (49, .iaload, 1), (50, .isub, 1), (51, .iconst 0, 1), (52, .invokestatic 161, 3), (55, .istore_n 3, 1), (56, .iconst 0, 1), (57, .istore 4, 2), (59, .iconst 0, 1), (60, .istore 5, 2), (62, .iload 5, 2), (64, .bipush 16, 2), (66, .if_icmp .ge 57, 3), (69, .aload_n 0, 1), (70, .getfield 23, 3), (73, .iload 5, 2)], [(75, .iaload, 1), (76, .iload_n 1, 1), (77, .if_icmp .ne 13, 3), (80, .aload_n 0, 1), (81, .getfield 26, 3), (84, .iload 5, 2), (86, .iaload, 1), (87, .goto 4, 3), (90, .iconst 0, 1), (91, .istore 6, 2), (93, .iload_n 3, 1), (94, .iload 6, 2), (96, .bipush 100, 2), (98, .invokestatic 193, 3), (101, .isub, 1), (102, .istore_n 3, 1), (103, .iload 4, 2), (105, .iload 6, 2), (107, .bipush 100, 2), (109, .isub, 1), (110, .iconst 0, 1), (111, .invokestatic 161, 3), (114, .iadd, 1), (115, .istore 4, 2), (117, .iinc 5 1, 3), (120, .goto (-58), 3), (123, .iload_n 3, 1), (124, .iconst 0, 1), (125, .invokestatic 161, 3), (128, .istore_n 3, 1), (129, .aload_n 0, 1), (130, .iload_n 1, 1), (131, .invokevirtual 309, 3), (134, .aload_n 0, 1), (135, .invokevirtual 312, 3), (138, .istore 5, 2), (140, .iconst 0, 1), (141, .istore 6, 2), (143, .iconst 0, 1), (144, .istore 7, 2), (146, .iload 7, 2), (148, .bipush 16, 2), (150, .if_icmp .ge 137, 3), (153, .aload_n 0, 1), (154, .getfield 23, 3), (157, .iload 7, 2), (159, .iaload, 1), (160, .iload_n 1, 1)], [(161, .if_icmp .ne 120, 3), (164, .aload_n 0, 1), (165, .getfield 26, 3), (168, .iload 7, 2), (170, .iaload, 1), (171, .bipush 100, 2), (173, .isub, 1), (174, .iconst 0, 1), (175, .invokestatic 161, 3), (178, .istore 8, 2), (180, .iload 8, 2), (182, .ifCond .ne 7, 3), (185, .iconst 0, 1), (186, .goto 14, 3), (189, .iload 8, 2), (191, .i2l, 1), (192, .iload_n 3, 1), (193, .i2l, 1), (194, .lmul, 1), (195, .iload 4, 2), (197, .i2l, 1), (198, .ldiv, 1), (199, .l2i, 1), (200, .istore 9, 2), (202, .aload_n 0, 1), (203, .getfield 26, 3), (206, .iload 7, 2), (208, .iaload, 1), (209, .bipush 100, 2), (211, .invokestatic 193, 3), (214, .iload 9, 2), (216, .iload 8, 2), (218, .invokestatic 193, 3), (221, .iadd, 1), (222, .istore 10, 2), (224, .iload 6, 2), (226, .iload 10, 2), (228, .iadd, 1), (229, .istore 6, 2), (231, .aload_n 0, 1), (232, .getfield 26, 3), (235, .iload 7, 2), (237, .iload 5, 2), (239, .iconst (-1), 1), (240, .if_icmp .ne 7, 3), (243, .iconst 0, 1), (244, .goto 5, 3), (247, .iload 10, 2)], [(249, .iastore, 1), (250, .aload_n 0, 1), (251, .getfield 16, 3), (254, .iload 7, 2), (256, .dup2, 1), (257, .iaload, 1), (258, .iload 5, 2), (260, .iconst (-1), 1), (261, .if_icmp .ne 8, 3), (264, .iload 10, 2), (266, .goto 4, 3), (269, .iconst 0, 1), (270, .iadd, 1), (271, .iastore, 1), (272, .aload_n 0, 1), (273, .getfield 23, 3), (276, .iload 7, 2), (278, .iload 5, 2), (280, .iastore, 1), (281, .iinc 7 1, 3), (284, .goto (-138), 3), (287, .iload 5, 2), (289, .iconst (-1), 1), (290, .if_icmp .eq 15, 3), (293, .aload_n 0, 1), (294, .getfield 50, 3), (297, .iload 5, 2), (299, .dup2, 1), (300, .iaload, 1), (301, .iload 6, 2), (303, .iadd, 1), (304, .iastore, 1), (305, .iload 6, 2), (307, .ireturn, 1)]]
abbrev mdX12_fails : MD := (RX12, yX12_fails, cX12_fails, 11, (some .int), tX12_fails)
set_option maxRecDepth 100000 in
theorem dtX12_fails : MDok mdX12_fails := by show DT cX12_fails tX12_fails; unfold DT tX12_fails; decide +kernel
def tX12_fail : IT := [[(0, .iload_n 1, 1), (1, .invokestatic 181, 3), (4, .istore_n 2, 1), (5, .aload_n 0, 1), (6, .iload_n 2, 1), (7, .ifCond .ne 7, 3), (10, .iconst 1, 1), (11, .goto 17, 3), (14, .aload_n 0, 1), (15, .getfield 62, 3), (18, .iload_n 1, 1), (19, .baload, 1), (20, .ifCond .eq 7, 3), (23, .iconst 2, 1), (24, .goto 4, 3), (27, .iconst 0, 1), (28, .invokevirtual 175, 3), (31, .ifCond .eq 11, 3), (34, .aload_n 0, 1), (35, .iload_n 1, 1), (36, .invokevirtual 199, 3), (39, .goto 4, 3), (42, .iconst 0, 1), (43, .ireturn, 1)]]
abbrev mdX12_fail : MD := (RX12, yX12_fail, cX12_fail, 3, (some .int), tX12_fail)
set_option maxRecDepth 100000 in
theorem dtX12_fail : MDok mdX12_fail := by show DT cX12_fail tX12_fail; unfold DT tX12_fail; decide +kernel
def tX12_days : IT := [[(0, .aload_n 0, 1), (1, .iconst 0, 1), (2, .putfield 138, 3), (5, .aload_n 0, 1), (6, .getfield 196, 3), (9, .ireturn, 1)]]
abbrev mdX12_days : MD := (RX12, yX12_days, cX12_days, 1, (some .int), tX12_days)
set_option maxRecDepth 100000 in
theorem dtX12_days : MDok mdX12_days := by show DT cX12_days tX12_days; unfold DT tX12_days; decide +kernel
def tX12_ofHolder : IT := [[(0, .aload_n 0, 1), (1, .iload_n 1, 1), (2, .invokestatic 171, 3), (5, .ifCond .ne 7, 3), (8, .iconst 1, 1), (9, .goto 18, 3), (12, .iload_n 2, 1), (13, .iconst 0, 1), (14, .bipush 7, 2), (16, .invokestatic 141, 3), (19, .ifCond .eq 7, 3), (22, .iconst 0, 1), (23, .goto 4, 3), (26, .iconst 2, 1), (27, .invokevirtual 175, 3), (30, .ifCond .ne 5, 3), (33, .iconst 0, 1), (34, .ireturn, 1), (35, .iload_n 2, 1), (36, .iconst 5, 1), (37, .if_icmp .ge 64, 3), (40, .iload_n 2, 1), (41, .ifCond .ne 12, 3), (44, .aload_n 0, 1), (45, .getfield 23, 3), (48, .iload_n 1, 1), (49, .iaload, 1), (50, .goto 50, 3), (53, .iload_n 2, 1), (54, .iconst 1, 1), (55, .if_icmp .ne 12, 3), (58, .aload_n 0, 1), (59, .getfield 26, 3), (62, .iload_n 1, 1), (63, .iaload, 1), (64, .goto 36, 3), (67, .iload_n 2, 1), (68, .iconst 2, 1), (69, .if_icmp .ne 11, 3), (72, .aload_n 0, 1), (73, .iload_n 1, 1), (74, .invokevirtual 202, 3), (77, .goto 23, 3), (80, .iload_n 2, 1), (81, .iconst 3, 1), (82, .if_icmp .ne 12, 3), (85, .aload_n 0, 1), (86, .getfield 16, 3)], [(89, .iload_n 1, 1), (90, .iaload, 1), (91, .goto 9, 3), (94, .aload_n 0, 1), (95, .getfield 20, 3), (98, .iload_n 1, 1), (99, .iaload, 1), (100, .ireturn, 1), (101, .iload_n 1, 1), (102, .bipush 10, 2), (104, .if_icmp .lt 14, 3), (107, .iload_n 2, 1), (108, .iconst 5, 1), (109, .if_icmp .ne 7, 3), (112, .iconst (-1), 1), (113, .goto 4, 3), (116, .iconst 0, 1), (117, .ireturn, 1), (118, .iload_n 2, 1), (119, .iconst 5, 1), (120, .if_icmp .ne 12, 3), (123, .aload_n 0, 1), (124, .getfield 32, 3), (127, .iload_n 1, 1), (128, .iaload, 1), (129, .goto 24, 3), (132, .iload_n 2, 1), (133, .bipush 6, 2), (135, .if_icmp .ne 12, 3), (138, .aload_n 0, 1), (139, .getfield 35, 3), (142, .iload_n 1, 1), (143, .iaload, 1), (144, .goto 9, 3), (147, .aload_n 0, 1), (148, .getfield 38, 3), (151, .iload_n 1, 1), (152, .iaload, 1), (153, .ireturn, 1)]]
abbrev mdX12_ofHolder : MD := (RX12, yX12_ofHolder, cX12_ofHolder, 3, (some .int), tX12_ofHolder)
set_option maxRecDepth 100000 in
theorem dtX12_ofHolder : MDok mdX12_ofHolder := by show DT cX12_ofHolder tX12_ofHolder; unfold DT tX12_ofHolder; decide +kernel
def tX12_accountAnew : IT := [[(0, .aload_n 0, 1), (1, .iload_n 1, 1), (2, .invokestatic 171, 3), (5, .ifCond .eq 7, 3), (8, .iconst 0, 1), (9, .goto 4, 3), (12, .iconst 1, 1), (13, .invokevirtual 175, 3), (16, .ifCond .eq 12, 3), (19, .aload_n 0, 1), (20, .getfield 26, 3), (23, .iload_n 1, 1), (24, .iaload, 1), (25, .goto 4, 3), (28, .iconst 0, 1), (29, .ireturn, 1)]]
abbrev mdX12_accountAnew : MD := (RX12, yX12_accountAnew, cX12_accountAnew, 2, (some .int), tX12_accountAnew)
set_option maxRecDepth 100000 in
theorem dtX12_accountAnew : MDok mdX12_accountAnew := by show DT cX12_accountAnew tX12_accountAnew; unfold DT tX12_accountAnew; decide +kernel
def tX12_waitingNet : IT := [[(0, .iconst 0, 1), (1, .istore_n 2, 1), (2, .iconst 0, 1), (3, .istore_n 3, 1), (4, .iload_n 3, 1), (5, .aload_n 0, 1), (6, .getfield 187, 3), (9, .if_icmp .ge 74, 3), (12, .aload_n 0, 1), (13, .getfield 99, 3), (16, .iload_n 3, 1), (17, .iaload, 1), (18, .ifCond .ne 59, 3), (21, .iload_n 2, 1), (22, .aload_n 0, 1), (23, .getfield 23, 3), (26, .aload_n 0, 1), (27, .getfield 93, 3), (30, .iload_n 3, 1), (31, .iaload, 1), (32, .iaload, 1), (33, .iload_n 1, 1), (34, .if_icmp .ne 12, 3), (37, .aload_n 0, 1), (38, .getfield 96, 3), (41, .iload_n 3, 1), (42, .iaload, 1), (43, .goto 4, 3), (46, .iconst 0, 1), (47, .iadd, 1), (48, .istore_n 2, 1), (49, .iload_n 2, 1), (50, .aload_n 0, 1), (51, .getfield 23, 3), (54, .aload_n 0, 1), (55, .getfield 90, 3), (58, .iload_n 3, 1), (59, .iaload, 1), (60, .iaload, 1), (61, .iload_n 1, 1), (62, .if_icmp .ne 12, 3), (65, .aload_n 0, 1), (66, .getfield 96, 3), (69, .iload_n 3, 1), (70, .iaload, 1), (71, .goto 4, 3), (74, .iconst 0, 1), (75, .isub, 1)], [(76, .istore_n 2, 1), (77, .iinc 3 1, 3), (80, .goto (-76), 3), (83, .iload_n 2, 1), (84, .ireturn, 1)]]
abbrev mdX12_waitingNet : MD := (RX12, yX12_waitingNet, cX12_waitingNet, 4, (some .int), tX12_waitingNet)
set_option maxRecDepth 100000 in
theorem dtX12_waitingNet : MDok mdX12_waitingNet := by show DT cX12_waitingNet tX12_waitingNet; unfold DT tX12_waitingNet; decide +kernel
def tX12_ofBank : IT := [[(0, .aload_n 0, 1), (1, .iload_n 1, 1), (2, .invokestatic 181, 3), (5, .ifCond .ne 7, 3), (8, .iconst 1, 1), (9, .goto 18, 3), (12, .iload_n 2, 1), (13, .iconst 0, 1), (14, .bipush 9, 2), (16, .invokestatic 141, 3), (19, .ifCond .eq 7, 3), (22, .iconst 0, 1), (23, .goto 4, 3), (26, .iconst 2, 1), (27, .invokevirtual 175, 3), (30, .ifCond .ne 5, 3), (33, .iconst 0, 1), (34, .ireturn, 1), (35, .iload_n 2, 1), (36, .iconst 5, 1), (37, .if_icmp .ge 62, 3), (40, .iload_n 2, 1), (41, .ifCond .ne 12, 3), (44, .aload_n 0, 1), (45, .getfield 50, 3), (48, .iload_n 1, 1), (49, .iaload, 1), (50, .goto 48, 3), (53, .iload_n 2, 1), (54, .iconst 1, 1), (55, .if_icmp .ne 12, 3), (58, .aload_n 0, 1), (59, .getfield 53, 3), (62, .iload_n 1, 1), (63, .iaload, 1), (64, .goto 34, 3), (67, .iload_n 2, 1), (68, .iconst 2, 1), (69, .if_icmp .ne 11, 3), (72, .aload_n 0, 1), (73, .iload_n 1, 1), (74, .invokevirtual 151, 3), (77, .goto 21, 3), (80, .iload_n 2, 1), (81, .iconst 3, 1), (82, .if_icmp .ne 11, 3), (85, .aload_n 0, 1), (86, .iload_n 1, 1)], [(87, .invokevirtual 155, 3), (90, .goto 8, 3), (93, .aload_n 0, 1), (94, .iload_n 1, 1), (95, .invokevirtual 158, 3), (98, .ireturn, 1), (99, .iload_n 2, 1), (100, .bipush 8, 2), (102, .if_icmp .ge 37, 3), (105, .iload_n 2, 1), (106, .iconst 5, 1), (107, .if_icmp .ne 12, 3), (110, .aload_n 0, 1), (111, .getfield 56, 3), (114, .iload_n 1, 1), (115, .iaload, 1), (116, .goto 22, 3), (119, .iload_n 2, 1), (120, .bipush 6, 2), (122, .if_icmp .ne 11, 3), (125, .aload_n 0, 1), (126, .iload_n 1, 1), (127, .invokevirtual 229, 3), (130, .goto 8, 3), (133, .aload_n 0, 1), (134, .iload_n 1, 1), (135, .invokevirtual 315, 3), (138, .ireturn, 1), (139, .iload_n 2, 1), (140, .bipush 8, 2), (142, .if_icmp .ne 15, 3), (145, .aload_n 0, 1), (146, .getfield 66, 3), (149, .iload_n 1, 1), (150, .baload, 1), (151, .ifCond .eq 19, 3), (154, .goto 12, 3), (157, .aload_n 0, 1), (158, .getfield 62, 3), (161, .iload_n 1, 1), (162, .baload, 1), (163, .ifCond .eq 7, 3), (166, .iconst 1, 1), (167, .goto 4, 3), (170, .iconst 0, 1), (171, .ireturn, 1)]]
abbrev mdX12_ofBank : MD := (RX12, yX12_ofBank, cX12_ofBank, 3, (some .int), tX12_ofBank)
set_option maxRecDepth 100000 in
theorem dtX12_ofBank : MDok mdX12_ofBank := by show DT cX12_ofBank tX12_ofBank; unfold DT tX12_ofBank; decide +kernel
def tX12_ofLoan : IT := [[(0, .aload_n 0, 1), (1, .aload_n 0, 1), (2, .iload_n 1, 1), (3, .invokevirtual 235, 3), (6, .ifCond .ne 7, 3), (9, .iconst 1, 1), (10, .goto 17, 3), (13, .iload_n 2, 1), (14, .iconst 0, 1), (15, .iconst 3, 1), (16, .invokestatic 141, 3), (19, .ifCond .eq 7, 3), (22, .iconst 0, 1), (23, .goto 4, 3), (26, .iconst 2, 1), (27, .invokevirtual 175, 3), (30, .ifCond .ne 5, 3), (33, .iconst 0, 1), (34, .ireturn, 1), (35, .iload_n 2, 1), (36, .ifCond .ne 12, 3), (39, .aload_n 0, 1), (40, .getfield 75, 3), (43, .iload_n 1, 1), (44, .iaload, 1), (45, .goto 37, 3), (48, .iload_n 2, 1), (49, .iconst 1, 1), (50, .if_icmp .ne 12, 3), (53, .aload_n 0, 1), (54, .getfield 78, 3), (57, .iload_n 1, 1), (58, .iaload, 1), (59, .goto 23, 3), (62, .iload_n 2, 1), (63, .iconst 2, 1), (64, .if_icmp .ne 12, 3), (67, .aload_n 0, 1), (68, .getfield 81, 3), (71, .iload_n 1, 1), (72, .iaload, 1), (73, .goto 9, 3), (76, .aload_n 0, 1), (77, .getfield 87, 3), (80, .iload_n 1, 1), (81, .iaload, 1), (82, .ireturn, 1)]]
abbrev mdX12_ofLoan : MD := (RX12, yX12_ofLoan, cX12_ofLoan, 3, (some .int), tX12_ofLoan)
set_option maxRecDepth 100000 in
theorem dtX12_ofLoan : MDok mdX12_ofLoan := by show DT cX12_ofLoan tX12_ofLoan; unfold DT tX12_ofLoan; decide +kernel
def tX12_payment : IT := [[(0, .aload_n 0, 1), (1, .iload_n 1, 1), (2, .iconst 0, 1), (3, .aload_n 0, 1), (4, .getfield 187, 3), (7, .iconst 1, 1), (8, .isub, 1), (9, .invokestatic 141, 3), (12, .ifCond .eq 7, 3), (15, .iconst 0, 1), (16, .goto 4, 3), (19, .iconst 1, 1), (20, .invokevirtual 175, 3), (23, .ifCond .eq 12, 3), (26, .aload_n 0, 1), (27, .getfield 99, 3), (30, .iload_n 1, 1), (31, .iaload, 1), (32, .goto 4, 3), (35, .iconst 0, 1), (36, .ireturn, 1)]]
abbrev mdX12_payment : MD := (RX12, yX12_payment, cX12_payment, 2, (some .int), tX12_payment)
set_option maxRecDepth 100000 in
theorem dtX12_payment : MDok mdX12_payment := by show DT cX12_payment tX12_payment; unfold DT tX12_payment; decide +kernel
def tX12_treasury : IT := [[(0, .aload_n 0, 1), (1, .iconst 0, 1), (2, .putfield 138, 3), (5, .aload_n 0, 1), (6, .getfield 168, 3), (9, .ireturn, 1)]]
abbrev mdX12_treasury : MD := (RX12, yX12_treasury, cX12_treasury, 1, (some .int), tX12_treasury)
set_option maxRecDepth 100000 in
theorem dtX12_treasury : MDok mdX12_treasury := by show DT cX12_treasury tX12_treasury; unfold DT tX12_treasury; decide +kernel
def tX12_owed : IT := [[(0, .aload_n 0, 1), (1, .iconst 0, 1), (2, .putfield 138, 3), (5, .aload_n 0, 1), (6, .iconst 4, 1), (7, .invokevirtual 151, 3), (10, .istore_n 1, 1), (11, .iconst 0, 1), (12, .istore_n 2, 1), (13, .iload_n 2, 1), (14, .iconst 4, 1), (15, .if_icmp .ge 17, 3), (18, .iload_n 1, 1), (19, .aload_n 0, 1), (20, .iload_n 2, 1), (21, .invokevirtual 151, 3), (24, .iadd, 1), (25, .istore_n 1, 1), (26, .iinc 2 1, 3), (29, .goto (-16), 3), (32, .iload_n 1, 1), (33, .ireturn, 1)]]
abbrev mdX12_owed : MD := (RX12, yX12_owed, cX12_owed, 3, (some .int), tX12_owed)
set_option maxRecDepth 100000 in
theorem dtX12_owed : MDok mdX12_owed := by show DT cX12_owed tX12_owed; unfold DT tX12_owed; decide +kernel
def tX12_foreign : IT := [[(0, .aload_n 0, 1), (1, .iconst 0, 1), (2, .putfield 138, 3), (5, .aload_n 0, 1), (6, .getfield 269, 3), (9, .ireturn, 1)]]
abbrev mdX12_foreign : MD := (RX12, yX12_foreign, cX12_foreign, 1, (some .int), tX12_foreign)
set_option maxRecDepth 100000 in
theorem dtX12_foreign : MDok mdX12_foreign := by show DT cX12_foreign tX12_foreign; unfold DT tX12_foreign; decide +kernel
def tX12_central : IT := [[(0, .aload_n 0, 1), (1, .iconst 0, 1), (2, .putfield 138, 3), (5, .aload_n 0, 1), (6, .invokevirtual 318, 3), (9, .ireturn, 1)]]
abbrev mdX12_central : MD := (RX12, yX12_central, cX12_central, 1, (some .int), tX12_central)
set_option maxRecDepth 100000 in
theorem dtX12_central : MDok mdX12_central := by show DT cX12_central tX12_central; unfold DT tX12_central; decide +kernel
def tX12_centralAnew : IT := [[(0, .aload_n 0, 1), (1, .iconst 0, 1), (2, .putfield 138, 3), (5, .aload_n 0, 1), (6, .invokevirtual 318, 3), (9, .ireturn, 1)]]
abbrev mdX12_centralAnew : MD := (RX12, yX12_centralAnew, cX12_centralAnew, 1, (some .int), tX12_centralAnew)
set_option maxRecDepth 100000 in
theorem dtX12_centralAnew : MDok mdX12_centralAnew := by show DT cX12_centralAnew tX12_centralAnew; unfold DT tX12_centralAnew; decide +kernel
def tX12_money : IT := [[(0, .aload_n 0, 1), (1, .iconst 0, 1), (2, .putfield 138, 3), (5, .iconst 0, 1), (6, .istore_n 1, 1), (7, .iconst 0, 1), (8, .istore_n 2, 1), (9, .iload_n 2, 1), (10, .bipush 16, 2), (12, .if_icmp .ge 32, 3), (15, .iload_n 1, 1), (16, .aload_n 0, 1), (17, .getfield 26, 3), (20, .iload_n 2, 1), (21, .iaload, 1), (22, .aload_n 0, 1), (23, .getfield 16, 3), (26, .iload_n 2, 1), (27, .iaload, 1), (28, .iadd, 1), (29, .aload_n 0, 1), (30, .getfield 20, 3), (33, .iload_n 2, 1), (34, .iaload, 1), (35, .isub, 1), (36, .iadd, 1), (37, .istore_n 1, 1), (38, .iinc 2 1, 3), (41, .goto (-32), 3), (44, .iload_n 1, 1), (45, .ireturn, 1)]]
abbrev mdX12_money : MD := (RX12, yX12_money, cX12_money, 3, (some .int), tX12_money)
set_option maxRecDepth 100000 in
theorem dtX12_money : MDok mdX12_money := by show DT cX12_money tX12_money; unfold DT tX12_money; decide +kernel
def tX12_price : IT := [[(0, .aload_n 0, 1), (1, .iload_n 1, 1), (2, .invokestatic 266, 3), (5, .ifCond .eq 7, 3), (8, .iconst 0, 1), (9, .goto 4, 3), (12, .iconst 1, 1), (13, .invokevirtual 175, 3), (16, .ifCond .eq 12, 3), (19, .aload_n 0, 1), (20, .getfield 44, 3), (23, .iload_n 1, 1), (24, .iaload, 1), (25, .goto 4, 3), (28, .iconst 0, 1), (29, .ireturn, 1)]]
abbrev mdX12_price : MD := (RX12, yX12_price, cX12_price, 2, (some .int), tX12_price)
set_option maxRecDepth 100000 in
theorem dtX12_price : MDok mdX12_price := by show DT cX12_price tX12_price; unfold DT tX12_price; decide +kernel
def tX12_sales : IT := [[(0, .aload_n 0, 1), (1, .iload_n 1, 1), (2, .iconst 0, 1), (3, .aload_n 0, 1), (4, .getfield 196, 3), (7, .invokestatic 141, 3), (10, .ifCond .eq 7, 3), (13, .iconst 0, 1), (14, .goto 4, 3), (17, .iconst 1, 1), (18, .invokevirtual 175, 3), (21, .ifCond .ne 5, 3), (24, .iconst 0, 1), (25, .ireturn, 1), (26, .iconst 0, 1), (27, .istore_n 3, 1), (28, .iconst 0, 1), (29, .istore 4, 2), (31, .iload 4, 2), (33, .aload_n 0, 1), (34, .getfield 187, 3), (37, .if_icmp .ge 82, 3), (40, .aload_n 0, 1), (41, .getfield 102, 3), (44, .iload 4, 2), (46, .baload, 1), (47, .ifCond .eq 44, 3), (50, .aload_n 0, 1), (51, .getfield 99, 3), (54, .iload 4, 2), (56, .iaload, 1), (57, .iconst 1, 1), (58, .if_icmp .ne 33, 3), (61, .aload_n 0, 1), (62, .getfield 105, 3), (65, .iload 4, 2), (67, .iaload, 1), (68, .iload_n 1, 1), (69, .if_icmp .ne 22, 3), (72, .iload_n 2, 1), (73, .ifCond .ne 14, 3), (76, .aload_n 0, 1), (77, .getfield 108, 3), (80, .iload 4, 2), (82, .iaload, 1), (83, .iload_n 1, 1), (84, .if_icmp .ne 7, 3), (87, .iconst 1, 1)], [(88, .goto 4, 3), (91, .iconst 0, 1), (92, .istore 5, 2), (94, .iload_n 3, 1), (95, .iload 5, 2), (97, .ifCond .eq 13, 3), (100, .aload_n 0, 1), (101, .getfield 96, 3), (104, .iload 4, 2), (106, .iaload, 1), (107, .goto 4, 3), (110, .iconst 0, 1), (111, .iadd, 1), (112, .istore_n 3, 1), (113, .iinc 4 1, 3), (116, .goto (-85), 3), (119, .iload_n 3, 1), (120, .ireturn, 1)]]
abbrev mdX12_sales : MD := (RX12, yX12_sales, cX12_sales, 6, (some .int), tX12_sales)
set_option maxRecDepth 100000 in
theorem dtX12_sales : MDok mdX12_sales := by show DT cX12_sales tX12_sales; unfold DT tX12_sales; decide +kernel
def tL_mint : IT := [[(0, .aload_n 3, 1), (1, .iconst 0, 1), (2, .aload_n 0, 1), (3, .iload_n 1, 1), (4, .iload_n 2, 1), (5, .invokevirtual 7, 3), (8, .i2l, 1), (9, .lastore, 1), (10, .goto 11, 3), (13, .astore 4, 2), (15, .iconst 1, 1), (16, .ireturn, 1), (17, .astore 4, 2), (19, .iconst 2, 1), (20, .ireturn, 1), (21, .iconst 0, 1), (22, .ireturn, 1)]]
abbrev mdL_mint : MD := (RL, yL_mint, cL_mint, 5, (some .int), tL_mint)
set_option maxRecDepth 100000 in
theorem dtL_mint : MDok mdL_mint := by show DT cL_mint tL_mint; unfold DT tL_mint; decide +kernel
def tL_forge : IT := [[(0, .aload_n 3, 1), (1, .iconst 0, 1), (2, .aload_n 0, 1), (3, .iload_n 1, 1), (4, .iload_n 2, 1), (5, .invokevirtual 17, 3), (8, .i2l, 1), (9, .lastore, 1), (10, .goto 11, 3), (13, .astore 4, 2), (15, .iconst 1, 1), (16, .ireturn, 1), (17, .astore 4, 2), (19, .iconst 2, 1), (20, .ireturn, 1), (21, .iconst 0, 1), (22, .ireturn, 1)]]
abbrev mdL_forge : MD := (RL, yL_forge, cL_forge, 5, (some .int), tL_forge)
set_option maxRecDepth 100000 in
theorem dtL_forge : MDok mdL_forge := by show DT cL_forge tL_forge; unfold DT tL_forge; decide +kernel
def tL_hand : IT := [[(0, .aload 4, 2), (2, .iconst 0, 1), (3, .aload_n 0, 1), (4, .iload_n 1, 1), (5, .iload_n 2, 1), (6, .iload_n 3, 1), (7, .invokevirtual 20, 3), (10, .i2l, 1), (11, .lastore, 1), (12, .goto 15, 3), (15, .astore 5, 2), (17, .iconst 1, 1), (18, .ireturn, 1), (19, .astore 5, 2), (21, .iconst 2, 1), (22, .ireturn, 1), (23, .astore 5, 2), (25, .iconst 3, 1), (26, .ireturn, 1), (27, .iconst 0, 1), (28, .ireturn, 1)]]
abbrev mdL_hand : MD := (RL, yL_hand, cL_hand, 6, (some .int), tL_hand)
set_option maxRecDepth 100000 in
theorem dtL_hand : MDok mdL_hand := by show DT cL_hand tL_hand; unfold DT tL_hand; decide +kernel
def tL_open : IT := [[(0, .aload_n 3, 1), (1, .iconst 0, 1), (2, .aload_n 0, 1), (3, .iload_n 1, 1), (4, .iload_n 2, 1), (5, .invokevirtual 26, 3), (8, .i2l, 1), (9, .lastore, 1), (10, .goto 11, 3), (13, .astore 4, 2), (15, .iconst 1, 1), (16, .ireturn, 1), (17, .astore 4, 2), (19, .iconst 2, 1), (20, .ireturn, 1), (21, .iconst 0, 1), (22, .ireturn, 1)]]
abbrev mdL_open : MD := (RL, yL_open, cL_open, 5, (some .int), tL_open)
set_option maxRecDepth 100000 in
theorem dtL_open : MDok mdL_open := by show DT cL_open tL_open; unfold DT tL_open; decide +kernel
def tL_close : IT := [[(0, .aload_n 2, 1), (1, .iconst 0, 1), (2, .aload_n 0, 1), (3, .iload_n 1, 1), (4, .invokevirtual 29, 3), (7, .i2l, 1), (8, .lastore, 1), (9, .goto 9, 3), (12, .astore_n 3, 1), (13, .iconst 1, 1), (14, .ireturn, 1), (15, .astore_n 3, 1), (16, .iconst 2, 1), (17, .ireturn, 1), (18, .iconst 0, 1), (19, .ireturn, 1)]]
abbrev mdL_close : MD := (RL, yL_close, cL_close, 4, (some .int), tL_close)
set_option maxRecDepth 100000 in
theorem dtL_close : MDok mdL_close := by show DT cL_close tL_close; unfold DT tL_close; decide +kernel
def tL_bring : IT := [[(0, .aload_n 3, 1), (1, .iconst 0, 1), (2, .aload_n 0, 1), (3, .iload_n 1, 1), (4, .iload_n 2, 1), (5, .invokevirtual 33, 3), (8, .i2l, 1), (9, .lastore, 1), (10, .goto 15, 3), (13, .astore 4, 2), (15, .iconst 1, 1), (16, .ireturn, 1), (17, .astore 4, 2), (19, .iconst 2, 1), (20, .ireturn, 1), (21, .astore 4, 2), (23, .iconst 3, 1), (24, .ireturn, 1), (25, .iconst 0, 1), (26, .ireturn, 1)]]
abbrev mdL_bring : MD := (RL, yL_bring, cL_bring, 5, (some .int), tL_bring)
set_option maxRecDepth 100000 in
theorem dtL_bring : MDok mdL_bring := by show DT cL_bring tL_bring; unfold DT tL_bring; decide +kernel
def tL_draw : IT := [[(0, .aload_n 3, 1), (1, .iconst 0, 1), (2, .aload_n 0, 1), (3, .iload_n 1, 1), (4, .iload_n 2, 1), (5, .invokevirtual 36, 3), (8, .i2l, 1), (9, .lastore, 1), (10, .goto 15, 3), (13, .astore 4, 2), (15, .iconst 1, 1), (16, .ireturn, 1), (17, .astore 4, 2), (19, .iconst 2, 1), (20, .ireturn, 1), (21, .astore 4, 2), (23, .iconst 3, 1), (24, .ireturn, 1), (25, .iconst 0, 1), (26, .ireturn, 1)]]
abbrev mdL_draw : MD := (RL, yL_draw, cL_draw, 5, (some .int), tL_draw)
set_option maxRecDepth 100000 in
theorem dtL_draw : MDok mdL_draw := by show DT cL_draw tL_draw; unfold DT tL_draw; decide +kernel
def tL_pay : IT := [[(0, .aload 4, 2), (2, .iconst 0, 1), (3, .aload_n 0, 1), (4, .iload_n 1, 1), (5, .iload_n 2, 1), (6, .iload_n 3, 1), (7, .invokevirtual 39, 3), (10, .i2l, 1), (11, .lastore, 1), (12, .goto 15, 3), (15, .astore 5, 2), (17, .iconst 1, 1), (18, .ireturn, 1), (19, .astore 5, 2), (21, .iconst 2, 1), (22, .ireturn, 1), (23, .astore 5, 2), (25, .iconst 3, 1), (26, .ireturn, 1), (27, .iconst 0, 1), (28, .ireturn, 1)]]
abbrev mdL_pay : MD := (RL, yL_pay, cL_pay, 6, (some .int), tL_pay)
set_option maxRecDepth 100000 in
theorem dtL_pay : MDok mdL_pay := by show DT cL_pay tL_pay; unfold DT tL_pay; decide +kernel
def tL_limit : IT := [[(0, .aload_n 3, 1), (1, .iconst 0, 1), (2, .aload_n 0, 1), (3, .iload_n 1, 1), (4, .iload_n 2, 1), (5, .invokevirtual 42, 3), (8, .i2l, 1), (9, .lastore, 1), (10, .goto 11, 3), (13, .astore 4, 2), (15, .iconst 1, 1), (16, .ireturn, 1), (17, .astore 4, 2), (19, .iconst 2, 1), (20, .ireturn, 1), (21, .iconst 0, 1), (22, .ireturn, 1)]]
abbrev mdL_limit : MD := (RL, yL_limit, cL_limit, 5, (some .int), tL_limit)
set_option maxRecDepth 100000 in
theorem dtL_limit : MDok mdL_limit := by show DT cL_limit tL_limit; unfold DT tL_limit; decide +kernel
def tL_endow : IT := [[(0, .aload_n 3, 1), (1, .iconst 0, 1), (2, .aload_n 0, 1), (3, .iload_n 1, 1), (4, .iload_n 2, 1), (5, .invokevirtual 45, 3), (8, .i2l, 1), (9, .lastore, 1), (10, .goto 15, 3), (13, .astore 4, 2), (15, .iconst 1, 1), (16, .ireturn, 1), (17, .astore 4, 2), (19, .iconst 2, 1), (20, .ireturn, 1), (21, .astore 4, 2), (23, .iconst 3, 1), (24, .ireturn, 1), (25, .iconst 0, 1), (26, .ireturn, 1)]]
abbrev mdL_endow : MD := (RL, yL_endow, cL_endow, 5, (some .int), tL_endow)
set_option maxRecDepth 100000 in
theorem dtL_endow : MDok mdL_endow := by show DT cL_endow tL_endow; unfold DT tL_endow; decide +kernel
def tL_lend : IT := [[(0, .aload 5, 2), (2, .iconst 0, 1), (3, .aload_n 0, 1), (4, .iload_n 1, 1), (5, .iload_n 2, 1), (6, .iload_n 3, 1), (7, .iload 4, 2), (9, .invokevirtual 48, 3), (12, .i2l, 1), (13, .lastore, 1), (14, .goto 15, 3), (17, .astore 6, 2), (19, .iconst 1, 1), (20, .ireturn, 1), (21, .astore 6, 2), (23, .iconst 2, 1), (24, .ireturn, 1), (25, .astore 6, 2), (27, .iconst 3, 1), (28, .ireturn, 1), (29, .iconst 0, 1), (30, .ireturn, 1)]]
abbrev mdL_lend : MD := (RL, yL_lend, cL_lend, 7, (some .int), tL_lend)
set_option maxRecDepth 100000 in
theorem dtL_lend : MDok mdL_lend := by show DT cL_lend tL_lend; unfold DT tL_lend; decide +kernel
def tL_payBack : IT := [[(0, .aload_n 3, 1), (1, .iconst 0, 1), (2, .aload_n 0, 1), (3, .iload_n 1, 1), (4, .iload_n 2, 1), (5, .invokevirtual 52, 3), (8, .i2l, 1), (9, .lastore, 1), (10, .goto 15, 3), (13, .astore 4, 2), (15, .iconst 1, 1), (16, .ireturn, 1), (17, .astore 4, 2), (19, .iconst 2, 1), (20, .ireturn, 1), (21, .astore 4, 2), (23, .iconst 3, 1), (24, .ireturn, 1), (25, .iconst 0, 1), (26, .ireturn, 1)]]
abbrev mdL_payBack : MD := (RL, yL_payBack, cL_payBack, 5, (some .int), tL_payBack)
set_option maxRecDepth 100000 in
theorem dtL_payBack : MDok mdL_payBack := by show DT cL_payBack tL_payBack; unfold DT tL_payBack; decide +kernel
def tL_window : IT := [[(0, .aload_n 3, 1), (1, .iconst 0, 1), (2, .aload_n 0, 1), (3, .iload_n 1, 1), (4, .iload_n 2, 1), (5, .invokevirtual 55, 3), (8, .i2l, 1), (9, .lastore, 1), (10, .goto 15, 3), (13, .astore 4, 2), (15, .iconst 1, 1), (16, .ireturn, 1), (17, .astore 4, 2), (19, .iconst 2, 1), (20, .ireturn, 1), (21, .astore 4, 2), (23, .iconst 3, 1), (24, .ireturn, 1), (25, .iconst 0, 1), (26, .ireturn, 1)]]
abbrev mdL_window : MD := (RL, yL_window, cL_window, 5, (some .int), tL_window)
set_option maxRecDepth 100000 in
theorem dtL_window : MDok mdL_window := by show DT cL_window tL_window; unfold DT tL_window; decide +kernel
def tL_windowBack : IT := [[(0, .aload_n 3, 1), (1, .iconst 0, 1), (2, .aload_n 0, 1), (3, .iload_n 1, 1), (4, .iload_n 2, 1), (5, .invokevirtual 58, 3), (8, .i2l, 1), (9, .lastore, 1), (10, .goto 15, 3), (13, .astore 4, 2), (15, .iconst 1, 1), (16, .ireturn, 1), (17, .astore 4, 2), (19, .iconst 2, 1), (20, .ireturn, 1), (21, .astore 4, 2), (23, .iconst 3, 1), (24, .ireturn, 1), (25, .iconst 0, 1), (26, .ireturn, 1)]]
abbrev mdL_windowBack : MD := (RL, yL_windowBack, cL_windowBack, 5, (some .int), tL_windowBack)
set_option maxRecDepth 100000 in
theorem dtL_windowBack : MDok mdL_windowBack := by show DT cL_windowBack tL_windowBack; unfold DT tL_windowBack; decide +kernel
def tL_rules : IT := [[(0, .aload 4, 2), (2, .iconst 0, 1), (3, .aload_n 0, 1), (4, .iload_n 1, 1), (5, .iload_n 2, 1), (6, .iload_n 3, 1), (7, .invokevirtual 61, 3), (10, .i2l, 1), (11, .lastore, 1), (12, .goto 7, 3), (15, .astore 5, 2), (17, .iconst 1, 1), (18, .ireturn, 1), (19, .iconst 0, 1), (20, .ireturn, 1)]]
abbrev mdL_rules : MD := (RL, yL_rules, cL_rules, 6, (some .int), tL_rules)
set_option maxRecDepth 100000 in
theorem dtL_rules : MDok mdL_rules := by show DT cL_rules tL_rules; unfold DT tL_rules; decide +kernel
def tL_buyBonds : IT := [[(0, .aload_n 3, 1), (1, .iconst 0, 1), (2, .aload_n 0, 1), (3, .iload_n 1, 1), (4, .iload_n 2, 1), (5, .invokevirtual 64, 3), (8, .i2l, 1), (9, .lastore, 1), (10, .goto 15, 3), (13, .astore 4, 2), (15, .iconst 1, 1), (16, .ireturn, 1), (17, .astore 4, 2), (19, .iconst 2, 1), (20, .ireturn, 1), (21, .astore 4, 2), (23, .iconst 3, 1), (24, .ireturn, 1), (25, .iconst 0, 1), (26, .ireturn, 1)]]
abbrev mdL_buyBonds : MD := (RL, yL_buyBonds, cL_buyBonds, 5, (some .int), tL_buyBonds)
set_option maxRecDepth 100000 in
theorem dtL_buyBonds : MDok mdL_buyBonds := by show DT cL_buyBonds tL_buyBonds; unfold DT tL_buyBonds; decide +kernel
def tL_bid : IT := [[(0, .aload 4, 2), (2, .iconst 0, 1), (3, .aload_n 0, 1), (4, .iload_n 1, 1), (5, .iload_n 2, 1), (6, .iload_n 3, 1), (7, .invokevirtual 67, 3), (10, .i2l, 1), (11, .lastore, 1), (12, .goto 15, 3), (15, .astore 5, 2), (17, .iconst 1, 1), (18, .ireturn, 1), (19, .astore 5, 2), (21, .iconst 2, 1), (22, .ireturn, 1), (23, .astore 5, 2), (25, .iconst 3, 1), (26, .ireturn, 1), (27, .iconst 0, 1), (28, .ireturn, 1)]]
abbrev mdL_bid : MD := (RL, yL_bid, cL_bid, 6, (some .int), tL_bid)
set_option maxRecDepth 100000 in
theorem dtL_bid : MDok mdL_bid := by show DT cL_bid tL_bid; unfold DT tL_bid; decide +kernel
def tL_auction : IT := [[(0, .aload_n 3, 1), (1, .iconst 0, 1), (2, .aload_n 0, 1), (3, .iload_n 1, 1), (4, .iload_n 2, 1), (5, .invokevirtual 70, 3), (8, .i2l, 1), (9, .lastore, 1), (10, .goto 11, 3), (13, .astore 4, 2), (15, .iconst 1, 1), (16, .ireturn, 1), (17, .astore 4, 2), (19, .iconst 2, 1), (20, .ireturn, 1), (21, .iconst 0, 1), (22, .ireturn, 1)]]
abbrev mdL_auction : MD := (RL, yL_auction, cL_auction, 5, (some .int), tL_auction)
set_option maxRecDepth 100000 in
theorem dtL_auction : MDok mdL_auction := by show DT cL_auction tL_auction; unfold DT tL_auction; decide +kernel
def tL_levy : IT := [[(0, .aload_n 3, 1), (1, .iconst 0, 1), (2, .aload_n 0, 1), (3, .iload_n 1, 1), (4, .iload_n 2, 1), (5, .invokevirtual 73, 3), (8, .i2l, 1), (9, .lastore, 1), (10, .goto 15, 3), (13, .astore 4, 2), (15, .iconst 1, 1), (16, .ireturn, 1), (17, .astore 4, 2), (19, .iconst 2, 1), (20, .ireturn, 1), (21, .astore 4, 2), (23, .iconst 3, 1), (24, .ireturn, 1), (25, .iconst 0, 1), (26, .ireturn, 1)]]
abbrev mdL_levy : MD := (RL, yL_levy, cL_levy, 5, (some .int), tL_levy)
set_option maxRecDepth 100000 in
theorem dtL_levy : MDok mdL_levy := by show DT cL_levy tL_levy; unfold DT tL_levy; decide +kernel
def tL_spend : IT := [[(0, .aload_n 3, 1), (1, .iconst 0, 1), (2, .aload_n 0, 1), (3, .iload_n 1, 1), (4, .iload_n 2, 1), (5, .invokevirtual 76, 3), (8, .i2l, 1), (9, .lastore, 1), (10, .goto 15, 3), (13, .astore 4, 2), (15, .iconst 1, 1), (16, .ireturn, 1), (17, .astore 4, 2), (19, .iconst 2, 1), (20, .ireturn, 1), (21, .astore 4, 2), (23, .iconst 3, 1), (24, .ireturn, 1), (25, .iconst 0, 1), (26, .ireturn, 1)]]
abbrev mdL_spend : MD := (RL, yL_spend, cL_spend, 5, (some .int), tL_spend)
set_option maxRecDepth 100000 in
theorem dtL_spend : MDok mdL_spend := by show DT cL_spend tL_spend; unfold DT tL_spend; decide +kernel
def tL_exchange : IT := [[(0, .aload_n 2, 1), (1, .iconst 0, 1), (2, .aload_n 0, 1), (3, .iload_n 1, 1), (4, .invokevirtual 79, 3), (7, .i2l, 1), (8, .lastore, 1), (9, .goto 6, 3), (12, .astore_n 3, 1), (13, .iconst 1, 1), (14, .ireturn, 1), (15, .iconst 0, 1), (16, .ireturn, 1)]]
abbrev mdL_exchange : MD := (RL, yL_exchange, cL_exchange, 4, (some .int), tL_exchange)
set_option maxRecDepth 100000 in
theorem dtL_exchange : MDok mdL_exchange := by show DT cL_exchange tL_exchange; unfold DT tL_exchange; decide +kernel
def tL_abroad : IT := [[(0, .aload 4, 2), (2, .iconst 0, 1), (3, .aload_n 0, 1), (4, .iload_n 1, 1), (5, .iload_n 2, 1), (6, .iload_n 3, 1), (7, .invokevirtual 82, 3), (10, .i2l, 1), (11, .lastore, 1), (12, .goto 15, 3), (15, .astore 5, 2), (17, .iconst 1, 1), (18, .ireturn, 1), (19, .astore 5, 2), (21, .iconst 2, 1), (22, .ireturn, 1), (23, .astore 5, 2), (25, .iconst 3, 1), (26, .ireturn, 1), (27, .iconst 0, 1), (28, .ireturn, 1)]]
abbrev mdL_abroad : MD := (RL, yL_abroad, cL_abroad, 6, (some .int), tL_abroad)
set_option maxRecDepth 100000 in
theorem dtL_abroad : MDok mdL_abroad := by show DT cL_abroad tL_abroad; unfold DT tL_abroad; decide +kernel
def tL_hire : IT := [[(0, .aload 4, 2), (2, .iconst 0, 1), (3, .aload_n 0, 1), (4, .iload_n 1, 1), (5, .iload_n 2, 1), (6, .iload_n 3, 1), (7, .invokevirtual 86, 3), (10, .i2l, 1), (11, .lastore, 1), (12, .goto 11, 3), (15, .astore 5, 2), (17, .iconst 1, 1), (18, .ireturn, 1), (19, .astore 5, 2), (21, .iconst 2, 1), (22, .ireturn, 1), (23, .iconst 0, 1), (24, .ireturn, 1)]]
abbrev mdL_hire : MD := (RL, yL_hire, cL_hire, 6, (some .int), tL_hire)
set_option maxRecDepth 100000 in
theorem dtL_hire : MDok mdL_hire := by show DT cL_hire tL_hire; unfold DT tL_hire; decide +kernel
def tL_buy : IT := [[(0, .aload 4, 2), (2, .iconst 0, 1), (3, .aload_n 0, 1), (4, .iload_n 1, 1), (5, .iload_n 2, 1), (6, .iload_n 3, 1), (7, .invokevirtual 89, 3), (10, .i2l, 1), (11, .lastore, 1), (12, .goto 15, 3), (15, .astore 5, 2), (17, .iconst 1, 1), (18, .ireturn, 1), (19, .astore 5, 2), (21, .iconst 2, 1), (22, .ireturn, 1), (23, .astore 5, 2), (25, .iconst 3, 1), (26, .ireturn, 1), (27, .iconst 0, 1), (28, .ireturn, 1)]]
abbrev mdL_buy : MD := (RL, yL_buy, cL_buy, 6, (some .int), tL_buy)
set_option maxRecDepth 100000 in
theorem dtL_buy : MDok mdL_buy := by show DT cL_buy tL_buy; unfold DT tL_buy; decide +kernel
def tL_day : IT := [[(0, .aload_n 2, 1), (1, .iconst 0, 1), (2, .aload_n 0, 1), (3, .iload_n 1, 1), (4, .invokevirtual 92, 3), (7, .i2l, 1), (8, .lastore, 1), (9, .goto 9, 3), (12, .astore_n 3, 1), (13, .iconst 1, 1), (14, .ireturn, 1), (15, .astore_n 3, 1), (16, .iconst 2, 1), (17, .ireturn, 1), (18, .iconst 0, 1), (19, .ireturn, 1)]]
abbrev mdL_day : MD := (RL, yL_day, cL_day, 4, (some .int), tL_day)
set_option maxRecDepth 100000 in
theorem dtL_day : MDok mdL_day := by show DT cL_day tL_day; unfold DT tL_day; decide +kernel
def tL_fail : IT := [[(0, .aload_n 2, 1), (1, .iconst 0, 1), (2, .aload_n 0, 1), (3, .iload_n 1, 1), (4, .invokevirtual 95, 3), (7, .i2l, 1), (8, .lastore, 1), (9, .goto 9, 3), (12, .astore_n 3, 1), (13, .iconst 1, 1), (14, .ireturn, 1), (15, .astore_n 3, 1), (16, .iconst 2, 1), (17, .ireturn, 1), (18, .iconst 0, 1), (19, .ireturn, 1)]]
abbrev mdL_fail : MD := (RL, yL_fail, cL_fail, 4, (some .int), tL_fail)
set_option maxRecDepth 100000 in
theorem dtL_fail : MDok mdL_fail := by show DT cL_fail tL_fail; unfold DT tL_fail; decide +kernel
def tL_ofHolder : IT := [[(0, .aload_n 3, 1), (1, .iconst 0, 1), (2, .aload_n 0, 1), (3, .iload_n 1, 1), (4, .iload_n 2, 1), (5, .invokevirtual 98, 3), (8, .i2l, 1), (9, .lastore, 1), (10, .goto 11, 3), (13, .astore 4, 2), (15, .iconst 1, 1), (16, .ireturn, 1), (17, .astore 4, 2), (19, .iconst 2, 1), (20, .ireturn, 1), (21, .iconst 0, 1), (22, .ireturn, 1)]]
abbrev mdL_ofHolder : MD := (RL, yL_ofHolder, cL_ofHolder, 5, (some .int), tL_ofHolder)
set_option maxRecDepth 100000 in
theorem dtL_ofHolder : MDok mdL_ofHolder := by show DT cL_ofHolder tL_ofHolder; unfold DT tL_ofHolder; decide +kernel
def tL_accountAnew : IT := [[(0, .aload_n 2, 1), (1, .iconst 0, 1), (2, .aload_n 0, 1), (3, .iload_n 1, 1), (4, .invokevirtual 101, 3), (7, .i2l, 1), (8, .lastore, 1), (9, .goto 6, 3), (12, .astore_n 3, 1), (13, .iconst 1, 1), (14, .ireturn, 1), (15, .iconst 0, 1), (16, .ireturn, 1)]]
abbrev mdL_accountAnew : MD := (RL, yL_accountAnew, cL_accountAnew, 4, (some .int), tL_accountAnew)
set_option maxRecDepth 100000 in
theorem dtL_accountAnew : MDok mdL_accountAnew := by show DT cL_accountAnew tL_accountAnew; unfold DT tL_accountAnew; decide +kernel
def tL_ofBank : IT := [[(0, .aload_n 3, 1), (1, .iconst 0, 1), (2, .aload_n 0, 1), (3, .iload_n 1, 1), (4, .iload_n 2, 1), (5, .invokevirtual 104, 3), (8, .i2l, 1), (9, .lastore, 1), (10, .goto 11, 3), (13, .astore 4, 2), (15, .iconst 1, 1), (16, .ireturn, 1), (17, .astore 4, 2), (19, .iconst 2, 1), (20, .ireturn, 1), (21, .iconst 0, 1), (22, .ireturn, 1)]]
abbrev mdL_ofBank : MD := (RL, yL_ofBank, cL_ofBank, 5, (some .int), tL_ofBank)
set_option maxRecDepth 100000 in
theorem dtL_ofBank : MDok mdL_ofBank := by show DT cL_ofBank tL_ofBank; unfold DT tL_ofBank; decide +kernel
def tL_ofLoan : IT := [[(0, .aload_n 3, 1), (1, .iconst 0, 1), (2, .aload_n 0, 1), (3, .iload_n 1, 1), (4, .iload_n 2, 1), (5, .invokevirtual 107, 3), (8, .i2l, 1), (9, .lastore, 1), (10, .goto 11, 3), (13, .astore 4, 2), (15, .iconst 1, 1), (16, .ireturn, 1), (17, .astore 4, 2), (19, .iconst 2, 1), (20, .ireturn, 1), (21, .iconst 0, 1), (22, .ireturn, 1)]]
abbrev mdL_ofLoan : MD := (RL, yL_ofLoan, cL_ofLoan, 5, (some .int), tL_ofLoan)
set_option maxRecDepth 100000 in
theorem dtL_ofLoan : MDok mdL_ofLoan := by show DT cL_ofLoan tL_ofLoan; unfold DT tL_ofLoan; decide +kernel
def tL_payment : IT := [[(0, .aload_n 2, 1), (1, .iconst 0, 1), (2, .aload_n 0, 1), (3, .iload_n 1, 1), (4, .invokevirtual 110, 3), (7, .i2l, 1), (8, .lastore, 1), (9, .goto 6, 3), (12, .astore_n 3, 1), (13, .iconst 1, 1), (14, .ireturn, 1), (15, .iconst 0, 1), (16, .ireturn, 1)]]
abbrev mdL_payment : MD := (RL, yL_payment, cL_payment, 4, (some .int), tL_payment)
set_option maxRecDepth 100000 in
theorem dtL_payment : MDok mdL_payment := by show DT cL_payment tL_payment; unfold DT tL_payment; decide +kernel
def tL_price : IT := [[(0, .aload_n 2, 1), (1, .iconst 0, 1), (2, .aload_n 0, 1), (3, .iload_n 1, 1), (4, .invokevirtual 113, 3), (7, .i2l, 1), (8, .lastore, 1), (9, .goto 6, 3), (12, .astore_n 3, 1), (13, .iconst 1, 1), (14, .ireturn, 1), (15, .iconst 0, 1), (16, .ireturn, 1)]]
abbrev mdL_price : MD := (RL, yL_price, cL_price, 4, (some .int), tL_price)
set_option maxRecDepth 100000 in
theorem dtL_price : MDok mdL_price := by show DT cL_price tL_price; unfold DT tL_price; decide +kernel
def tL_sales : IT := [[(0, .aload_n 3, 1), (1, .iconst 0, 1), (2, .aload_n 0, 1), (3, .iload_n 1, 1), (4, .iload_n 2, 1), (5, .invokevirtual 116, 3), (8, .i2l, 1), (9, .lastore, 1), (10, .goto 7, 3), (13, .astore 4, 2), (15, .iconst 1, 1), (16, .ireturn, 1), (17, .iconst 0, 1), (18, .ireturn, 1)]]
abbrev mdL_sales : MD := (RL, yL_sales, cL_sales, 5, (some .int), tL_sales)
set_option maxRecDepth 100000 in
theorem dtL_sales : MDok mdL_sales := by show DT cL_sales tL_sales; unfold DT tL_sales; decide +kernel
