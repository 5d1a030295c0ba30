/-! the words of the tables by their places: fields, calls -/
set_option maxRecDepth 20000 in
theorem fl_X11_10 : Cond.fieldLink RX11 10 "Newsmint" "books" "LNewsmint$Books;" ∈ WSg := wsg_t (i := 359) (by decide +kernel) (by decide +kernel)
set_option maxRecDepth 20000 in
theorem fl_X11_19 : Cond.fieldLink RX11 19 "Newsmint" "payments" "LNewsmint$Payments;" ∈ WSg := wsg_t (i := 360) (by decide +kernel) (by decide +kernel)
set_option maxRecDepth 20000 in
theorem fl_X11_26 : Cond.fieldLink RX11 26 "Newsmint" "loans" "LNewsmint$Loans;" ∈ WSg := wsg_t (i := 361) (by decide +kernel) (by decide +kernel)
set_option maxRecDepth 20000 in
theorem fl_X11_33 : Cond.fieldLink RX11 33 "Newsmint" "bonds" "LNewsmint$Bonds;" ∈ WSg := wsg_t (i := 362) (by decide +kernel) (by decide +kernel)
set_option maxRecDepth 20000 in
theorem fl_X11_58 : Cond.fieldLink RX11 58 "Newsmint$Holder" "notes" "I" ∈ WSg := wsg_t (i := 96) (by decide +kernel) (by decide +kernel)
set_option maxRecDepth 20000 in
theorem fl_X11_76 : Cond.fieldLink RX11 76 "Newsmint$Holder" "bank" "I" ∈ WSg := wsg_t (i := 104) (by decide +kernel) (by decide +kernel)
set_option maxRecDepth 20000 in
theorem fl_X11_82 : Cond.fieldLink RX11 82 "Newsmint$Bank" "hasFailed" "Z" ∈ WSg := wsg_t (i := 162) (by decide +kernel) (by decide +kernel)
set_option maxRecDepth 20000 in
theorem fl_X11_91 : Cond.fieldLink RX11 91 "Newsmint$Holder" "balance" "I" ∈ WSg := wsg_t (i := 108) (by decide +kernel) (by decide +kernel)
set_option maxRecDepth 20000 in
theorem fl_X11_98 : Cond.fieldLink RX11 98 "Newsmint$Bank" "vault" "I" ∈ WSg := wsg_t (i := 154) (by decide +kernel) (by decide +kernel)
set_option maxRecDepth 20000 in
theorem fl_X11_119 : Cond.fieldLink RX11 119 "Newsmint" "today" "I" ∈ WSg := wsg_t (i := 363) (by decide +kernel) (by decide +kernel)
set_option maxRecDepth 20000 in
theorem fl_X11_130 : Cond.fieldLink RX11 130 "Newsmint$Bank" "limit" "I" ∈ WSg := wsg_t (i := 158) (by decide +kernel) (by decide +kernel)
set_option maxRecDepth 20000 in
theorem fl_X11_133 : Cond.fieldLink RX11 133 "Newsmint$Bank" "reserves" "I" ∈ WSg := wsg_t (i := 152) (by decide +kernel) (by decide +kernel)
set_option maxRecDepth 20000 in
theorem fl_X11_146 : Cond.fieldLink RX11 146 "Newsmint$Books" "central" "LNewsmint$Central;" ∈ WSg := wsg_t (i := 186) (by decide +kernel) (by decide +kernel)
set_option maxRecDepth 20000 in
theorem fl_X11_150 : Cond.fieldLink RX11 150 "Newsmint$Central" "capitalRule" "I" ∈ WSg := wsg_t (i := 43) (by decide +kernel) (by decide +kernel)
set_option maxRecDepth 20000 in
theorem fl_X11_170 : Cond.fieldLink RX11 170 "Newsmint$Loan" "left" "I" ∈ WSg := wsg_t (i := 282) (by decide +kernel) (by decide +kernel)
set_option maxRecDepth 20000 in
theorem fl_X11_189 : Cond.fieldLink RX11 189 "Newsmint$Bank" "lent" "I" ∈ WSg := wsg_t (i := 156) (by decide +kernel) (by decide +kernel)
set_option maxRecDepth 20000 in
theorem fl_X11_192 : Cond.fieldLink RX11 192 "Newsmint$Central" "rate" "I" ∈ WSg := wsg_t (i := 41) (by decide +kernel) (by decide +kernel)
set_option maxRecDepth 20000 in
theorem fl_X11_195 : Cond.fieldLink RX11 195 "Newsmint$Central" "reserveRule" "I" ∈ WSg := wsg_t (i := 45) (by decide +kernel) (by decide +kernel)
set_option maxRecDepth 20000 in
theorem fl_X11_220 : Cond.fieldLink RX11 220 "Newsmint$Central" "treasury" "I" ∈ WSg := wsg_t (i := 49) (by decide +kernel) (by decide +kernel)
set_option maxRecDepth 20000 in
theorem fl_X11_223 : Cond.fieldLink RX11 223 "Newsmint$Central" "exchangeRate" "I" ∈ WSg := wsg_t (i := 47) (by decide +kernel) (by decide +kernel)
set_option maxRecDepth 20000 in
theorem fl_X11_229 : Cond.fieldLink RX11 229 "Newsmint$Central" "foreignMoney" "I" ∈ WSg := wsg_t (i := 50) (by decide +kernel) (by decide +kernel)
set_option maxRecDepth 20000 in
theorem fl_X11_232 : Cond.fieldLink RX11 232 "Newsmint$Central" "paidForForeign" "I" ∈ WSg := wsg_t (i := 51) (by decide +kernel) (by decide +kernel)
set_option maxRecDepth 20000 in
theorem fl_X11_238 : Cond.fieldLink RX11 238 "Newsmint$Holder" "wage" "I" ∈ WSg := wsg_t (i := 113) (by decide +kernel) (by decide +kernel)
set_option maxRecDepth 20000 in
theorem fl_X11_241 : Cond.fieldLink RX11 241 "Newsmint$Holder" "firm" "I" ∈ WSg := wsg_t (i := 112) (by decide +kernel) (by decide +kernel)
set_option maxRecDepth 20000 in
theorem fl_X11_244 : Cond.fieldLink RX11 244 "Newsmint$Holder" "price" "I" ∈ WSg := wsg_t (i := 117) (by decide +kernel) (by decide +kernel)
set_option maxRecDepth 20000 in
theorem fl_X11_247 : Cond.fieldLink RX11 247 "Newsmint$Holder" "sold" "I" ∈ WSg := wsg_t (i := 118) (by decide +kernel) (by decide +kernel)
set_option maxRecDepth 20000 in
theorem fl_X11_256 : Cond.fieldLink RX11 256 "Newsmint$Holder" "forged" "I" ∈ WSg := wsg_t (i := 101) (by decide +kernel) (by decide +kernel)
set_option maxRecDepth 20000 in
theorem fl_X11_259 : Cond.fieldLink RX11 259 "Newsmint$Holder" "expects" "I" ∈ WSg := wsg_t (i := 115) (by decide +kernel) (by decide +kernel)
set_option maxRecDepth 20000 in
theorem fl_X11_262 : Cond.fieldLink RX11 262 "Newsmint$Books" "log" "LNewsmint$Log;" ∈ WSg := wsg_t (i := 188) (by decide +kernel) (by decide +kernel)
set_option maxRecDepth 20000 in
theorem fl_X11_277 : Cond.fieldLink RX11 277 "Newsmint$Bank" "isShort" "Z" ∈ WSg := wsg_t (i := 160) (by decide +kernel) (by decide +kernel)
set_option maxRecDepth 20000 in
theorem fl_X11_280 : Cond.fieldLink RX11 280 "Newsmint$Loan" "holder" "I" ∈ WSg := wsg_t (i := 277) (by decide +kernel) (by decide +kernel)
set_option maxRecDepth 20000 in
theorem fl_X11_282 : Cond.fieldLink RX11 282 "Newsmint$Loan" "owner" "I" ∈ WSg := wsg_t (i := 280) (by decide +kernel) (by decide +kernel)
set_option maxRecDepth 20000 in
theorem fl_X11_285 : Cond.fieldLink RX11 285 "Newsmint$Loan" "overdue" "I" ∈ WSg := wsg_t (i := 285) (by decide +kernel) (by decide +kernel)
set_option maxRecDepth 20000 in
theorem fl_X11_288 : Cond.fieldLink RX11 288 "Newsmint$Payments" "count" "I" ∈ WSg := wsg_t (i := 252) (by decide +kernel) (by decide +kernel)
set_option maxRecDepth 20000 in
theorem fl_X11_297 : Cond.fieldLink RX11 297 "Newsmint$Payment" "state" "I" ∈ WSg := wsg_t (i := 228) (by decide +kernel) (by decide +kernel)
set_option maxRecDepth 20000 in
theorem fl_X11_316 : Cond.fieldLink RX11 316 "Newsmint$Loans" "count" "I" ∈ WSg := wsg_t (i := 298) (by decide +kernel) (by decide +kernel)
set_option maxRecDepth 20000 in
theorem fl_X11_382 : Cond.fieldLink RX11 382 "Newsmint$Loan" "rate" "I" ∈ WSg := wsg_t (i := 284) (by decide +kernel) (by decide +kernel)
set_option maxRecDepth 20000 in
theorem fl_X0_7 : Cond.fieldLink RX0 7 "Newsmint$Bank" "limit" "I" ∈ WSg := wsg_t (i := 157) (by decide +kernel) (by decide +kernel)
set_option maxRecDepth 20000 in
theorem fl_X0_13 : Cond.fieldLink RX0 13 "Newsmint$Bank" "reserves" "I" ∈ WSg := wsg_t (i := 148) (by decide +kernel) (by decide +kernel)
set_option maxRecDepth 20000 in
theorem fl_X0_16 : Cond.fieldLink RX0 16 "Newsmint$Bank" "lent" "I" ∈ WSg := wsg_t (i := 155) (by decide +kernel) (by decide +kernel)
set_option maxRecDepth 20000 in
theorem fl_X0_19 : Cond.fieldLink RX0 19 "Newsmint$Bank" "net" "I" ∈ WSg := wsg_t (i := 164) (by decide +kernel) (by decide +kernel)
set_option maxRecDepth 20000 in
theorem fl_X0_28 : Cond.fieldLink RX0 28 "Newsmint$Bank" "vault" "I" ∈ WSg := wsg_t (i := 153) (by decide +kernel) (by decide +kernel)
set_option maxRecDepth 20000 in
theorem fl_X0_31 : Cond.fieldLink RX0 31 "Newsmint$Bank" "isShort" "Z" ∈ WSg := wsg_t (i := 159) (by decide +kernel) (by decide +kernel)
set_option maxRecDepth 20000 in
theorem fl_X0_35 : Cond.fieldLink RX0 35 "Newsmint$Bank" "hasFailed" "Z" ∈ WSg := wsg_t (i := 161) (by decide +kernel) (by decide +kernel)
set_option maxRecDepth 20000 in
theorem fl_X1_7 : Cond.fieldLink RX1 7 "Newsmint$Bid" "bank" "I" ∈ WSg := wsg_t (i := 321) (by decide +kernel) (by decide +kernel)
set_option maxRecDepth 20000 in
theorem fl_X1_13 : Cond.fieldLink RX1 13 "Newsmint$Bid" "price" "I" ∈ WSg := wsg_t (i := 323) (by decide +kernel) (by decide +kernel)
set_option maxRecDepth 20000 in
theorem fl_X1_16 : Cond.fieldLink RX1 16 "Newsmint$Bid" "number" "I" ∈ WSg := wsg_t (i := 325) (by decide +kernel) (by decide +kernel)
set_option maxRecDepth 20000 in
theorem fl_X2_11 : Cond.fieldLink RX2 11 "Newsmint$Bonds" "bids" "[LNewsmint$Bid;" ∈ WSg := wsg_t (i := 340) (by decide +kernel) (by decide +kernel)
set_option maxRecDepth 20000 in
theorem fl_X2_18 : Cond.fieldLink RX2 18 "Newsmint$Bonds" "noBid" "LNewsmint$Bid;" ∈ WSg := wsg_t (i := 341) (by decide +kernel) (by decide +kernel)
set_option maxRecDepth 20000 in
theorem fl_X2_22 : Cond.fieldLink RX2 22 "Newsmint$Bonds" "dueOn" "[I" ∈ WSg := wsg_t (i := 344) (by decide +kernel) (by decide +kernel)
set_option maxRecDepth 20000 in
theorem fl_X2_26 : Cond.fieldLink RX2 26 "Newsmint$Bonds" "numbers" "[I" ∈ WSg := wsg_t (i := 345) (by decide +kernel) (by decide +kernel)
set_option maxRecDepth 20000 in
theorem fl_X2_29 : Cond.fieldLink RX2 29 "Newsmint$Bonds" "bidCount" "I" ∈ WSg := wsg_t (i := 342) (by decide +kernel) (by decide +kernel)
set_option maxRecDepth 20000 in
theorem fl_X2_33 : Cond.fieldLink RX2 33 "Newsmint$Bonds" "auctionCount" "I" ∈ WSg := wsg_t (i := 343) (by decide +kernel) (by decide +kernel)
set_option maxRecDepth 20000 in
theorem fl_X2_40 : Cond.fieldLink RX2 40 "Newsmint$Bid" "bank" "I" ∈ WSg := wsg_t (i := 322) (by decide +kernel) (by decide +kernel)
set_option maxRecDepth 20000 in
theorem fl_X2_43 : Cond.fieldLink RX2 43 "Newsmint$Bid" "price" "I" ∈ WSg := wsg_t (i := 324) (by decide +kernel) (by decide +kernel)
set_option maxRecDepth 20000 in
theorem fl_X2_46 : Cond.fieldLink RX2 46 "Newsmint$Bid" "number" "I" ∈ WSg := wsg_t (i := 326) (by decide +kernel) (by decide +kernel)
set_option maxRecDepth 20000 in
theorem fl_X2_58 : Cond.fieldLink RX2 58 "Newsmint$Bank" "promised" "I" ∈ WSg := wsg_t (i := 166) (by decide +kernel) (by decide +kernel)
set_option maxRecDepth 20000 in
theorem fl_X2_63 : Cond.fieldLink RX2 63 "Newsmint$Bid" "wasTried" "Z" ∈ WSg := wsg_t (i := 328) (by decide +kernel) (by decide +kernel)
set_option maxRecDepth 20000 in
theorem fl_X2_67 : Cond.fieldLink RX2 67 "Newsmint$Bid" "got" "I" ∈ WSg := wsg_t (i := 327) (by decide +kernel) (by decide +kernel)
set_option maxRecDepth 20000 in
theorem fl_X2_83 : Cond.fieldLink RX2 83 "Newsmint$Bank" "reserves" "I" ∈ WSg := wsg_t (i := 149) (by decide +kernel) (by decide +kernel)
set_option maxRecDepth 20000 in
theorem fl_X2_86 : Cond.fieldLink RX2 86 "Newsmint$Books" "central" "LNewsmint$Central;" ∈ WSg := wsg_t (i := 185) (by decide +kernel) (by decide +kernel)
set_option maxRecDepth 20000 in
theorem fl_X2_90 : Cond.fieldLink RX2 90 "Newsmint$Central" "treasury" "I" ∈ WSg := wsg_t (i := 48) (by decide +kernel) (by decide +kernel)
set_option maxRecDepth 20000 in
theorem fl_X3_12 : Cond.fieldLink RX3 12 "Newsmint$Books" "central" "LNewsmint$Central;" ∈ WSg := wsg_t (i := 184) (by decide +kernel) (by decide +kernel)
set_option maxRecDepth 20000 in
theorem fl_X3_21 : Cond.fieldLink RX3 21 "Newsmint$Books" "log" "LNewsmint$Log;" ∈ WSg := wsg_t (i := 187) (by decide +kernel) (by decide +kernel)
set_option maxRecDepth 20000 in
theorem fl_X3_27 : Cond.fieldLink RX3 27 "Newsmint$Books" "holders" "[LNewsmint$Holder;" ∈ WSg := wsg_t (i := 189) (by decide +kernel) (by decide +kernel)
set_option maxRecDepth 20000 in
theorem fl_X3_33 : Cond.fieldLink RX3 33 "Newsmint$Books" "banks" "[LNewsmint$Bank;" ∈ WSg := wsg_t (i := 190) (by decide +kernel) (by decide +kernel)
set_option maxRecDepth 20000 in
theorem fl_X3_38 : Cond.fieldLink RX3 38 "Newsmint$Books" "nobody" "LNewsmint$Holder;" ∈ WSg := wsg_t (i := 191) (by decide +kernel) (by decide +kernel)
set_option maxRecDepth 20000 in
theorem fl_X3_43 : Cond.fieldLink RX3 43 "Newsmint$Books" "noBank" "LNewsmint$Bank;" ∈ WSg := wsg_t (i := 192) (by decide +kernel) (by decide +kernel)
set_option maxRecDepth 20000 in
theorem fl_X3_51 : Cond.fieldLink RX3 51 "Newsmint$Holder" "balance" "I" ∈ WSg := wsg_t (i := 107) (by decide +kernel) (by decide +kernel)
set_option maxRecDepth 20000 in
theorem fl_X3_59 : Cond.fieldLink RX3 59 "Newsmint$Holder" "bank" "I" ∈ WSg := wsg_t (i := 105) (by decide +kernel) (by decide +kernel)
set_option maxRecDepth 20000 in
theorem fl_X3_62 : Cond.fieldLink RX3 62 "Newsmint$Holder" "notes" "I" ∈ WSg := wsg_t (i := 98) (by decide +kernel) (by decide +kernel)
set_option maxRecDepth 20000 in
theorem fl_X3_65 : Cond.fieldLink RX3 65 "Newsmint$Holder" "forged" "I" ∈ WSg := wsg_t (i := 100) (by decide +kernel) (by decide +kernel)
set_option maxRecDepth 20000 in
theorem fl_X3_71 : Cond.fieldLink RX3 71 "Newsmint$Bank" "hasFailed" "Z" ∈ WSg := wsg_t (i := 163) (by decide +kernel) (by decide +kernel)
set_option maxRecDepth 20000 in
theorem fl_X3_79 : Cond.fieldLink RX3 79 "Newsmint$Loan" "holder" "I" ∈ WSg := wsg_t (i := 276) (by decide +kernel) (by decide +kernel)
set_option maxRecDepth 20000 in
theorem fl_X3_86 : Cond.fieldLink RX3 86 "Newsmint$Loan" "owner" "I" ∈ WSg := wsg_t (i := 279) (by decide +kernel) (by decide +kernel)
set_option maxRecDepth 20000 in
theorem fl_X3_89 : Cond.fieldLink RX3 89 "Newsmint$Bank" "reserves" "I" ∈ WSg := wsg_t (i := 151) (by decide +kernel) (by decide +kernel)
set_option maxRecDepth 20000 in
theorem fl_X4_7 : Cond.fieldLink RX4 7 "Newsmint$Central" "capitalRule" "I" ∈ WSg := wsg_t (i := 42) (by decide +kernel) (by decide +kernel)
set_option maxRecDepth 20000 in
theorem fl_X4_13 : Cond.fieldLink RX4 13 "Newsmint$Central" "reserveRule" "I" ∈ WSg := wsg_t (i := 44) (by decide +kernel) (by decide +kernel)
set_option maxRecDepth 20000 in
theorem fl_X4_16 : Cond.fieldLink RX4 16 "Newsmint$Central" "exchangeRate" "I" ∈ WSg := wsg_t (i := 46) (by decide +kernel) (by decide +kernel)
set_option maxRecDepth 20000 in
theorem fl_X5_9 : Cond.fieldLink RX5 9 "Newsmint$Holder" "bank" "I" ∈ WSg := wsg_t (i := 102) (by decide +kernel) (by decide +kernel)
set_option maxRecDepth 20000 in
theorem fl_X5_15 : Cond.fieldLink RX5 15 "Newsmint$Holder" "firm" "I" ∈ WSg := wsg_t (i := 111) (by decide +kernel) (by decide +kernel)
set_option maxRecDepth 20000 in
theorem fl_X5_18 : Cond.fieldLink RX5 18 "Newsmint$Holder" "expects" "I" ∈ WSg := wsg_t (i := 114) (by decide +kernel) (by decide +kernel)
set_option maxRecDepth 20000 in
theorem fl_X5_21 : Cond.fieldLink RX5 21 "Newsmint$Holder" "price" "I" ∈ WSg := wsg_t (i := 116) (by decide +kernel) (by decide +kernel)
set_option maxRecDepth 20000 in
theorem fl_X5_24 : Cond.fieldLink RX5 24 "Newsmint$Holder" "drawn" "[I" ∈ WSg := wsg_t (i := 119) (by decide +kernel) (by decide +kernel)
set_option maxRecDepth 20000 in
theorem fl_X5_28 : Cond.fieldLink RX5 28 "Newsmint$Holder" "balance" "I" ∈ WSg := wsg_t (i := 106) (by decide +kernel) (by decide +kernel)
set_option maxRecDepth 20000 in
theorem fl_X5_31 : Cond.fieldLink RX5 31 "Newsmint$Holder" "blocked" "I" ∈ WSg := wsg_t (i := 109) (by decide +kernel) (by decide +kernel)
set_option maxRecDepth 20000 in
theorem fl_X5_40 : Cond.fieldLink RX5 40 "Newsmint$Holder" "forged" "I" ∈ WSg := wsg_t (i := 99) (by decide +kernel) (by decide +kernel)
set_option maxRecDepth 20000 in
theorem fl_X5_43 : Cond.fieldLink RX5 43 "Newsmint$Holder" "notes" "I" ∈ WSg := wsg_t (i := 97) (by decide +kernel) (by decide +kernel)
set_option maxRecDepth 20000 in
theorem fl_X7_11 : Cond.fieldLink RX7 11 "Newsmint$Loans" "rows" "[LNewsmint$Loan;" ∈ WSg := wsg_t (i := 299) (by decide +kernel) (by decide +kernel)
set_option maxRecDepth 20000 in
theorem fl_X7_18 : Cond.fieldLink RX7 18 "Newsmint$Loans" "noLoan" "LNewsmint$Loan;" ∈ WSg := wsg_t (i := 300) (by decide +kernel) (by decide +kernel)
set_option maxRecDepth 20000 in
theorem fl_X7_22 : Cond.fieldLink RX7 22 "Newsmint$Loans" "count" "I" ∈ WSg := wsg_t (i := 297) (by decide +kernel) (by decide +kernel)
set_option maxRecDepth 20000 in
theorem fl_X7_30 : Cond.fieldLink RX7 30 "Newsmint$Loan" "holder" "I" ∈ WSg := wsg_t (i := 275) (by decide +kernel) (by decide +kernel)
set_option maxRecDepth 20000 in
theorem fl_X7_33 : Cond.fieldLink RX7 33 "Newsmint$Loan" "owner" "I" ∈ WSg := wsg_t (i := 278) (by decide +kernel) (by decide +kernel)
set_option maxRecDepth 20000 in
theorem fl_X7_36 : Cond.fieldLink RX7 36 "Newsmint$Loan" "left" "I" ∈ WSg := wsg_t (i := 281) (by decide +kernel) (by decide +kernel)
set_option maxRecDepth 20000 in
theorem fl_X7_39 : Cond.fieldLink RX7 39 "Newsmint$Loan" "rate" "I" ∈ WSg := wsg_t (i := 283) (by decide +kernel) (by decide +kernel)
set_option maxRecDepth 20000 in
theorem fl_X8_11 : Cond.fieldLink RX8 11 "Newsmint$Log" "owners" "[I" ∈ WSg := wsg_t (i := 73) (by decide +kernel) (by decide +kernel)
set_option maxRecDepth 20000 in
theorem fl_X8_15 : Cond.fieldLink RX8 15 "Newsmint$Log" "changes" "[I" ∈ WSg := wsg_t (i := 74) (by decide +kernel) (by decide +kernel)
set_option maxRecDepth 20000 in
theorem fl_X8_18 : Cond.fieldLink RX8 18 "Newsmint$Log" "carried" "[I" ∈ WSg := wsg_t (i := 75) (by decide +kernel) (by decide +kernel)
set_option maxRecDepth 20000 in
theorem fl_X8_21 : Cond.fieldLink RX8 21 "Newsmint$Log" "count" "I" ∈ WSg := wsg_t (i := 76) (by decide +kernel) (by decide +kernel)
set_option maxRecDepth 20000 in
theorem fl_X9_7 : Cond.fieldLink RX9 7 "Newsmint$Payment" "toBank" "I" ∈ WSg := wsg_t (i := 223) (by decide +kernel) (by decide +kernel)
set_option maxRecDepth 20000 in
theorem fl_X9_13 : Cond.fieldLink RX9 13 "Newsmint$Payment" "amount" "I" ∈ WSg := wsg_t (i := 225) (by decide +kernel) (by decide +kernel)
set_option maxRecDepth 20000 in
theorem fl_X9_16 : Cond.fieldLink RX9 16 "Newsmint$Payment" "fromBank" "I" ∈ WSg := wsg_t (i := 221) (by decide +kernel) (by decide +kernel)
set_option maxRecDepth 20000 in
theorem fl_X10_11 : Cond.fieldLink RX10 11 "Newsmint$Payments" "rows" "[LNewsmint$Payment;" ∈ WSg := wsg_t (i := 253) (by decide +kernel) (by decide +kernel)
set_option maxRecDepth 20000 in
theorem fl_X10_18 : Cond.fieldLink RX10 18 "Newsmint$Payments" "noPayment" "LNewsmint$Payment;" ∈ WSg := wsg_t (i := 254) (by decide +kernel) (by decide +kernel)
set_option maxRecDepth 20000 in
theorem fl_X10_22 : Cond.fieldLink RX10 22 "Newsmint$Payments" "count" "I" ∈ WSg := wsg_t (i := 251) (by decide +kernel) (by decide +kernel)
set_option maxRecDepth 20000 in
theorem fl_X10_30 : Cond.fieldLink RX10 30 "Newsmint$Payment" "from" "I" ∈ WSg := wsg_t (i := 219) (by decide +kernel) (by decide +kernel)
set_option maxRecDepth 20000 in
theorem fl_X10_33 : Cond.fieldLink RX10 33 "Newsmint$Payment" "to" "I" ∈ WSg := wsg_t (i := 220) (by decide +kernel) (by decide +kernel)
set_option maxRecDepth 20000 in
theorem fl_X10_42 : Cond.fieldLink RX10 42 "Newsmint$Holder" "bank" "I" ∈ WSg := wsg_t (i := 103) (by decide +kernel) (by decide +kernel)
set_option maxRecDepth 20000 in
theorem fl_X10_47 : Cond.fieldLink RX10 47 "Newsmint$Payment" "fromBank" "I" ∈ WSg := wsg_t (i := 222) (by decide +kernel) (by decide +kernel)
set_option maxRecDepth 20000 in
theorem fl_X10_50 : Cond.fieldLink RX10 50 "Newsmint$Payment" "toBank" "I" ∈ WSg := wsg_t (i := 224) (by decide +kernel) (by decide +kernel)
set_option maxRecDepth 20000 in
theorem fl_X10_53 : Cond.fieldLink RX10 53 "Newsmint$Payment" "amount" "I" ∈ WSg := wsg_t (i := 226) (by decide +kernel) (by decide +kernel)
set_option maxRecDepth 20000 in
theorem fl_X10_56 : Cond.fieldLink RX10 56 "Newsmint$Payment" "boughtOn" "I" ∈ WSg := wsg_t (i := 230) (by decide +kernel) (by decide +kernel)
set_option maxRecDepth 20000 in
theorem fl_X10_59 : Cond.fieldLink RX10 59 "Newsmint$Payment" "state" "I" ∈ WSg := wsg_t (i := 227) (by decide +kernel) (by decide +kernel)
set_option maxRecDepth 20000 in
theorem fl_X10_62 : Cond.fieldLink RX10 62 "Newsmint$Holder" "blocked" "I" ∈ WSg := wsg_t (i := 110) (by decide +kernel) (by decide +kernel)
set_option maxRecDepth 20000 in
theorem fl_X10_73 : Cond.fieldLink RX10 73 "Newsmint$Payment" "doneOn" "I" ∈ WSg := wsg_t (i := 231) (by decide +kernel) (by decide +kernel)
set_option maxRecDepth 20000 in
theorem fl_X10_95 : Cond.fieldLink RX10 95 "Newsmint$Bank" "net" "I" ∈ WSg := wsg_t (i := 165) (by decide +kernel) (by decide +kernel)
set_option maxRecDepth 20000 in
theorem fl_X10_100 : Cond.fieldLink RX10 100 "Newsmint$Payment" "isChosen" "Z" ∈ WSg := wsg_t (i := 229) (by decide +kernel) (by decide +kernel)
set_option maxRecDepth 20000 in
theorem fl_X10_104 : Cond.fieldLink RX10 104 "Newsmint$Bank" "reserves" "I" ∈ WSg := wsg_t (i := 150) (by decide +kernel) (by decide +kernel)
set_option maxRecDepth 20000 in
theorem fl_X12_7 : Cond.fieldLink RX12 7 "NewsmintModel" "capitalRule" "I" ∈ WSg := wsg_t (i := 1111) (by decide +kernel) (by decide +kernel)
set_option maxRecDepth 20000 in
theorem fl_X12_13 : Cond.fieldLink RX12 13 "NewsmintModel" "reserveRule" "I" ∈ WSg := wsg_t (i := 1112) (by decide +kernel) (by decide +kernel)
set_option maxRecDepth 20000 in
theorem fl_X12_16 : Cond.fieldLink RX12 16 "NewsmintModel" "notes" "[I" ∈ WSg := wsg_t (i := 1113) (by decide +kernel) (by decide +kernel)
set_option maxRecDepth 20000 in
theorem fl_X12_20 : Cond.fieldLink RX12 20 "NewsmintModel" "forged" "[I" ∈ WSg := wsg_t (i := 1114) (by decide +kernel) (by decide +kernel)
set_option maxRecDepth 20000 in
theorem fl_X12_23 : Cond.fieldLink RX12 23 "NewsmintModel" "bankOf" "[I" ∈ WSg := wsg_t (i := 1115) (by decide +kernel) (by decide +kernel)
set_option maxRecDepth 20000 in
theorem fl_X12_26 : Cond.fieldLink RX12 26 "NewsmintModel" "accounts" "[I" ∈ WSg := wsg_t (i := 1116) (by decide +kernel) (by decide +kernel)
set_option maxRecDepth 20000 in
theorem fl_X12_29 : Cond.fieldLink RX12 29 "NewsmintModel" "blocked" "[I" ∈ WSg := wsg_t (i := 1117) (by decide +kernel) (by decide +kernel)
set_option maxRecDepth 20000 in
theorem fl_X12_32 : Cond.fieldLink RX12 32 "NewsmintModel" "firms" "[I" ∈ WSg := wsg_t (i := 1118) (by decide +kernel) (by decide +kernel)
set_option maxRecDepth 20000 in
theorem fl_X12_35 : Cond.fieldLink RX12 35 "NewsmintModel" "wages" "[I" ∈ WSg := wsg_t (i := 1119) (by decide +kernel) (by decide +kernel)
set_option maxRecDepth 20000 in
theorem fl_X12_38 : Cond.fieldLink RX12 38 "NewsmintModel" "expects" "[I" ∈ WSg := wsg_t (i := 1120) (by decide +kernel) (by decide +kernel)
set_option maxRecDepth 20000 in
theorem fl_X12_41 : Cond.fieldLink RX12 41 "NewsmintModel" "drawn" "[I" ∈ WSg := wsg_t (i := 1121) (by decide +kernel) (by decide +kernel)
set_option maxRecDepth 20000 in
theorem fl_X12_44 : Cond.fieldLink RX12 44 "NewsmintModel" "prices" "[I" ∈ WSg := wsg_t (i := 1122) (by decide +kernel) (by decide +kernel)
set_option maxRecDepth 20000 in
theorem fl_X12_47 : Cond.fieldLink RX12 47 "NewsmintModel" "bought" "[I" ∈ WSg := wsg_t (i := 1123) (by decide +kernel) (by decide +kernel)
set_option maxRecDepth 20000 in
theorem fl_X12_50 : Cond.fieldLink RX12 50 "NewsmintModel" "reserves" "[I" ∈ WSg := wsg_t (i := 1124) (by decide +kernel) (by decide +kernel)
set_option maxRecDepth 20000 in
theorem fl_X12_53 : Cond.fieldLink RX12 53 "NewsmintModel" "vaults" "[I" ∈ WSg := wsg_t (i := 1125) (by decide +kernel) (by decide +kernel)
set_option maxRecDepth 20000 in
theorem fl_X12_56 : Cond.fieldLink RX12 56 "NewsmintModel" "lent" "[I" ∈ WSg := wsg_t (i := 1126) (by decide +kernel) (by decide +kernel)
set_option maxRecDepth 20000 in
theorem fl_X12_59 : Cond.fieldLink RX12 59 "NewsmintModel" "limits" "[I" ∈ WSg := wsg_t (i := 1127) (by decide +kernel) (by decide +kernel)
set_option maxRecDepth 20000 in
theorem fl_X12_62 : Cond.fieldLink RX12 62 "NewsmintModel" "haveFailed" "[Z" ∈ WSg := wsg_t (i := 1128) (by decide +kernel) (by decide +kernel)
set_option maxRecDepth 20000 in
theorem fl_X12_66 : Cond.fieldLink RX12 66 "NewsmintModel" "areShort" "[Z" ∈ WSg := wsg_t (i := 1129) (by decide +kernel) (by decide +kernel)
set_option maxRecDepth 20000 in
theorem fl_X12_69 : Cond.fieldLink RX12 69 "NewsmintModel" "nets" "[I" ∈ WSg := wsg_t (i := 1130) (by decide +kernel) (by decide +kernel)
set_option maxRecDepth 20000 in
theorem fl_X12_72 : Cond.fieldLink RX12 72 "NewsmintModel" "promised" "[I" ∈ WSg := wsg_t (i := 1131) (by decide +kernel) (by decide +kernel)
set_option maxRecDepth 20000 in
theorem fl_X12_75 : Cond.fieldLink RX12 75 "NewsmintModel" "loanHolders" "[I" ∈ WSg := wsg_t (i := 1133) (by decide +kernel) (by decide +kernel)
set_option maxRecDepth 20000 in
theorem fl_X12_78 : Cond.fieldLink RX12 78 "NewsmintModel" "loanBanks" "[I" ∈ WSg := wsg_t (i := 1134) (by decide +kernel) (by decide +kernel)
set_option maxRecDepth 20000 in
theorem fl_X12_81 : Cond.fieldLink RX12 81 "NewsmintModel" "loanLefts" "[I" ∈ WSg := wsg_t (i := 1135) (by decide +kernel) (by decide +kernel)
set_option maxRecDepth 20000 in
theorem fl_X12_84 : Cond.fieldLink RX12 84 "NewsmintModel" "loanRates" "[I" ∈ WSg := wsg_t (i := 1136) (by decide +kernel) (by decide +kernel)
set_option maxRecDepth 20000 in
theorem fl_X12_87 : Cond.fieldLink RX12 87 "NewsmintModel" "overdue" "[I" ∈ WSg := wsg_t (i := 1137) (by decide +kernel) (by decide +kernel)
set_option maxRecDepth 20000 in
theorem fl_X12_90 : Cond.fieldLink RX12 90 "NewsmintModel" "froms" "[I" ∈ WSg := wsg_t (i := 1139) (by decide +kernel) (by decide +kernel)
set_option maxRecDepth 20000 in
theorem fl_X12_93 : Cond.fieldLink RX12 93 "NewsmintModel" "tos" "[I" ∈ WSg := wsg_t (i := 1140) (by decide +kernel) (by decide +kernel)
set_option maxRecDepth 20000 in
theorem fl_X12_96 : Cond.fieldLink RX12 96 "NewsmintModel" "amounts" "[I" ∈ WSg := wsg_t (i := 1141) (by decide +kernel) (by decide +kernel)
set_option maxRecDepth 20000 in
theorem fl_X12_99 : Cond.fieldLink RX12 99 "NewsmintModel" "states" "[I" ∈ WSg := wsg_t (i := 1142) (by decide +kernel) (by decide +kernel)
set_option maxRecDepth 20000 in
theorem fl_X12_102 : Cond.fieldLink RX12 102 "NewsmintModel" "areGoods" "[Z" ∈ WSg := wsg_t (i := 1143) (by decide +kernel) (by decide +kernel)
set_option maxRecDepth 20000 in
theorem fl_X12_105 : Cond.fieldLink RX12 105 "NewsmintModel" "toldDays" "[I" ∈ WSg := wsg_t (i := 1144) (by decide +kernel) (by decide +kernel)
set_option maxRecDepth 20000 in
theorem fl_X12_108 : Cond.fieldLink RX12 108 "NewsmintModel" "doneDays" "[I" ∈ WSg := wsg_t (i := 1145) (by decide +kernel) (by decide +kernel)
set_option maxRecDepth 20000 in
theorem fl_X12_111 : Cond.fieldLink RX12 111 "NewsmintModel" "areChosen" "[Z" ∈ WSg := wsg_t (i := 1146) (by decide +kernel) (by decide +kernel)
set_option maxRecDepth 20000 in
theorem fl_X12_114 : Cond.fieldLink RX12 114 "NewsmintModel" "dues" "[I" ∈ WSg := wsg_t (i := 1148) (by decide +kernel) (by decide +kernel)
set_option maxRecDepth 20000 in
theorem fl_X12_117 : Cond.fieldLink RX12 117 "NewsmintModel" "bonds" "[I" ∈ WSg := wsg_t (i := 1149) (by decide +kernel) (by decide +kernel)
set_option maxRecDepth 20000 in
theorem fl_X12_120 : Cond.fieldLink RX12 120 "NewsmintModel" "bidBanks" "[I" ∈ WSg := wsg_t (i := 1151) (by decide +kernel) (by decide +kernel)
set_option maxRecDepth 20000 in
theorem fl_X12_123 : Cond.fieldLink RX12 123 "NewsmintModel" "bidPrices" "[I" ∈ WSg := wsg_t (i := 1152) (by decide +kernel) (by decide +kernel)
set_option maxRecDepth 20000 in
theorem fl_X12_126 : Cond.fieldLink RX12 126 "NewsmintModel" "bidNumbers" "[I" ∈ WSg := wsg_t (i := 1153) (by decide +kernel) (by decide +kernel)
set_option maxRecDepth 20000 in
theorem fl_X12_129 : Cond.fieldLink RX12 129 "NewsmintModel" "bidGets" "[I" ∈ WSg := wsg_t (i := 1154) (by decide +kernel) (by decide +kernel)
set_option maxRecDepth 20000 in
theorem fl_X12_132 : Cond.fieldLink RX12 132 "NewsmintModel" "areSeen" "[Z" ∈ WSg := wsg_t (i := 1155) (by decide +kernel) (by decide +kernel)
set_option maxRecDepth 20000 in
theorem fl_X12_135 : Cond.fieldLink RX12 135 "NewsmintModel" "exchange" "I" ∈ WSg := wsg_t (i := 1159) (by decide +kernel) (by decide +kernel)
set_option maxRecDepth 20000 in
theorem fl_X12_138 : Cond.fieldLink RX12 138 "NewsmintModel" "thrown" "I" ∈ WSg := wsg_t (i := 1108) (by decide +kernel) (by decide +kernel)
set_option maxRecDepth 20000 in
theorem fl_X12_145 : Cond.fieldLink RX12 145 "NewsmintModel" "auctions" "I" ∈ WSg := wsg_t (i := 1147) (by decide +kernel) (by decide +kernel)
set_option maxRecDepth 20000 in
theorem fl_X12_148 : Cond.fieldLink RX12 148 "NewsmintModel" "loans" "I" ∈ WSg := wsg_t (i := 1132) (by decide +kernel) (by decide +kernel)
set_option maxRecDepth 20000 in
theorem fl_X12_165 : Cond.fieldLink RX12 165 "NewsmintModel" "foreignCost" "I" ∈ WSg := wsg_t (i := 1158) (by decide +kernel) (by decide +kernel)
set_option maxRecDepth 20000 in
theorem fl_X12_168 : Cond.fieldLink RX12 168 "NewsmintModel" "treasury" "I" ∈ WSg := wsg_t (i := 1156) (by decide +kernel) (by decide +kernel)
set_option maxRecDepth 20000 in
theorem fl_X12_187 : Cond.fieldLink RX12 187 "NewsmintModel" "payments" "I" ∈ WSg := wsg_t (i := 1138) (by decide +kernel) (by decide +kernel)
set_option maxRecDepth 20000 in
theorem fl_X12_196 : Cond.fieldLink RX12 196 "NewsmintModel" "days" "I" ∈ WSg := wsg_t (i := 1109) (by decide +kernel) (by decide +kernel)
set_option maxRecDepth 20000 in
theorem fl_X12_249 : Cond.fieldLink RX12 249 "NewsmintModel" "rate" "I" ∈ WSg := wsg_t (i := 1110) (by decide +kernel) (by decide +kernel)
set_option maxRecDepth 20000 in
theorem fl_X12_252 : Cond.fieldLink RX12 252 "NewsmintModel" "bids" "I" ∈ WSg := wsg_t (i := 1150) (by decide +kernel) (by decide +kernel)
set_option maxRecDepth 20000 in
theorem fl_X12_269 : Cond.fieldLink RX12 269 "NewsmintModel" "foreign" "I" ∈ WSg := wsg_t (i := 1157) (by decide +kernel) (by decide +kernel)
set_option maxRecDepth 20000 in
theorem ks_X11_needHolder : Cond.static mdX11_needHolder.2.1 ∈ WSg ∧ Cond.initialized mdX11_needHolder.2.1.cls ∈ WSg ∧ Cond.code mdX11_needHolder.2.1 mdX11_needHolder.2.2.1 mdX11_needHolder.2.2.2.1 mdX11_needHolder.2.2.2.2.1 ∈ WSg ∧ mdX11_needHolder.2.1.cls ≠ "java/lang/invoke/MethodHandle" ∧ mdX11_needHolder.2.1.cls ≠ "java/lang/invoke/VarHandle" ∧ (parseMethodDescriptor mdX11_needHolder.2.1.desc).map (fun d => d.parameters.length) = some 1 := ⟨wsg_t (i := 496) (by decide +kernel) (by decide +kernel), wsg_t (i := 1) (by decide +kernel) (by decide +kernel), wsg_t (i := 497) (by decide +kernel) (by decide +kernel), by decide +kernel, by decide +kernel, by decide +kernel⟩
set_option maxRecDepth 20000 in
theorem cs_X11_37 : CS RX11 37 mdX11_needHolder 1 := ⟨wsg_t (i := 495) (by decide +kernel) (by decide +kernel), ks_X11_needHolder⟩
set_option maxRecDepth 20000 in
theorem ks_X11_needRange : Cond.static mdX11_needRange.2.1 ∈ WSg ∧ Cond.initialized mdX11_needRange.2.1.cls ∈ WSg ∧ Cond.code mdX11_needRange.2.1 mdX11_needRange.2.2.1 mdX11_needRange.2.2.2.1 mdX11_needRange.2.2.2.2.1 ∈ WSg ∧ mdX11_needRange.2.1.cls ≠ "java/lang/invoke/MethodHandle" ∧ mdX11_needRange.2.1.cls ≠ "java/lang/invoke/VarHandle" ∧ (parseMethodDescriptor mdX11_needRange.2.1.desc).map (fun d => d.parameters.length) = some 3 := ⟨wsg_t (i := 570) (by decide +kernel) (by decide +kernel), wsg_t (i := 1) (by decide +kernel) (by decide +kernel), wsg_t (i := 571) (by decide +kernel) (by decide +kernel), by decide +kernel, by decide +kernel, by decide +kernel⟩
set_option maxRecDepth 20000 in
theorem cs_X11_41 : CS RX11 41 mdX11_needRange 3 := ⟨wsg_t (i := 569) (by decide +kernel) (by decide +kernel), ks_X11_needRange⟩
set_option maxRecDepth 20000 in
theorem kv_X3_holder : Cond.instanceMethod mdX3_holder.2.1 ∈ WSg ∧ Cond.selects mdX3_holder.2.1.cls mdX3_holder.2.1 mdX3_holder.2.1 ∈ WSg ∧ Cond.initialized mdX3_holder.2.1.cls ∈ WSg ∧ Cond.code mdX3_holder.2.1 mdX3_holder.2.2.1 mdX3_holder.2.2.2.1 mdX3_holder.2.2.2.2.1 ∈ WSg ∧ mdX3_holder.2.1.cls ≠ "java/lang/invoke/MethodHandle" ∧ mdX3_holder.2.1.cls ≠ "java/lang/invoke/VarHandle" ∧ (parseMethodDescriptor mdX3_holder.2.1.desc).map (fun d => d.parameters.length) = some 1 := ⟨wsg_t (i := 420) (by decide +kernel) (by decide +kernel), wsg_t (i := 421) (by decide +kernel) (by decide +kernel), wsg_t (i := 2) (by decide +kernel) (by decide +kernel), wsg_t (i := 422) (by decide +kernel) (by decide +kernel), by decide +kernel, by decide +kernel, by decide +kernel⟩
set_option maxRecDepth 20000 in
theorem cv_X11_45 : CV RX11 45 mdX3_holder 1 := ⟨wsg_t (i := 485) (by decide +kernel) (by decide +kernel), kv_X3_holder⟩
set_option maxRecDepth 20000 in
theorem kv_X5_takeNotes : Cond.instanceMethod mdX5_takeNotes.2.1 ∈ WSg ∧ Cond.selects mdX5_takeNotes.2.1.cls mdX5_takeNotes.2.1 mdX5_takeNotes.2.1 ∈ WSg ∧ Cond.initialized mdX5_takeNotes.2.1.cls ∈ WSg ∧ Cond.code mdX5_takeNotes.2.1 mdX5_takeNotes.2.2.1 mdX5_takeNotes.2.2.2.1 mdX5_takeNotes.2.2.2.2.1 ∈ WSg ∧ mdX5_takeNotes.2.1.cls ≠ "java/lang/invoke/MethodHandle" ∧ mdX5_takeNotes.2.1.cls ≠ "java/lang/invoke/VarHandle" ∧ (parseMethodDescriptor mdX5_takeNotes.2.1.desc).map (fun d => d.parameters.length) = some 2 := ⟨wsg_t (i := 592) (by decide +kernel) (by decide +kernel), wsg_t (i := 593) (by decide +kernel) (by decide +kernel), wsg_t (i := 5) (by decide +kernel) (by decide +kernel), wsg_t (i := 594) (by decide +kernel) (by decide +kernel), by decide +kernel, by decide +kernel, by decide +kernel⟩
set_option maxRecDepth 20000 in
theorem cv_X11_49 : CV RX11 49 mdX5_takeNotes 2 := ⟨wsg_t (i := 591) (by decide +kernel) (by decide +kernel), kv_X5_takeNotes⟩
set_option maxRecDepth 20000 in
theorem kv_X3_noteCentral : Cond.instanceMethod mdX3_noteCentral.2.1 ∈ WSg ∧ Cond.selects mdX3_noteCentral.2.1.cls mdX3_noteCentral.2.1 mdX3_noteCentral.2.1 ∈ WSg ∧ Cond.initialized mdX3_noteCentral.2.1.cls ∈ WSg ∧ Cond.code mdX3_noteCentral.2.1 mdX3_noteCentral.2.2.1 mdX3_noteCentral.2.2.2.1 mdX3_noteCentral.2.2.2.2.1 ∈ WSg ∧ mdX3_noteCentral.2.1.cls ≠ "java/lang/invoke/MethodHandle" ∧ mdX3_noteCentral.2.1.cls ≠ "java/lang/invoke/VarHandle" ∧ (parseMethodDescriptor mdX3_noteCentral.2.1.desc).map (fun d => d.parameters.length) = some 1 := ⟨wsg_t (i := 596) (by decide +kernel) (by decide +kernel), wsg_t (i := 597) (by decide +kernel) (by decide +kernel), wsg_t (i := 2) (by decide +kernel) (by decide +kernel), wsg_t (i := 598) (by decide +kernel) (by decide +kernel), by decide +kernel, by decide +kernel, by decide +kernel⟩
set_option maxRecDepth 20000 in
theorem cv_X11_55 : CV RX11 55 mdX3_noteCentral 1 := ⟨wsg_t (i := 595) (by decide +kernel) (by decide +kernel), kv_X3_noteCentral⟩
set_option maxRecDepth 20000 in
theorem ks_X11_needArgument : Cond.static mdX11_needArgument.2.1 ∈ WSg ∧ Cond.initialized mdX11_needArgument.2.1.cls ∈ WSg ∧ Cond.code mdX11_needArgument.2.1 mdX11_needArgument.2.2.1 mdX11_needArgument.2.2.2.1 mdX11_needArgument.2.2.2.2.1 ∈ WSg ∧ mdX11_needArgument.2.1.cls ≠ "java/lang/invoke/MethodHandle" ∧ mdX11_needArgument.2.1.cls ≠ "java/lang/invoke/VarHandle" ∧ (parseMethodDescriptor mdX11_needArgument.2.1.desc).map (fun d => d.parameters.length) = some 1 := ⟨wsg_t (i := 573) (by decide +kernel) (by decide +kernel), wsg_t (i := 1) (by decide +kernel) (by decide +kernel), wsg_t (i := 574) (by decide +kernel) (by decide +kernel), by decide +kernel, by decide +kernel, by decide +kernel⟩
set_option maxRecDepth 20000 in
theorem cs_X11_62 : CS RX11 62 mdX11_needArgument 1 := ⟨wsg_t (i := 572) (by decide +kernel) (by decide +kernel), ks_X11_needArgument⟩
set_option maxRecDepth 20000 in
theorem ks_X11_needState : Cond.static mdX11_needState.2.1 ∈ WSg ∧ Cond.initialized mdX11_needState.2.1.cls ∈ WSg ∧ Cond.code mdX11_needState.2.1 mdX11_needState.2.2.1 mdX11_needState.2.2.2.1 mdX11_needState.2.2.2.2.1 ∈ WSg ∧ mdX11_needState.2.1.cls ≠ "java/lang/invoke/MethodHandle" ∧ mdX11_needState.2.1.cls ≠ "java/lang/invoke/VarHandle" ∧ (parseMethodDescriptor mdX11_needState.2.1.desc).map (fun d => d.parameters.length) = some 1 := ⟨wsg_t (i := 615) (by decide +kernel) (by decide +kernel), wsg_t (i := 1) (by decide +kernel) (by decide +kernel), wsg_t (i := 616) (by decide +kernel) (by decide +kernel), by decide +kernel, by decide +kernel, by decide +kernel⟩
set_option maxRecDepth 20000 in
theorem cs_X11_66 : CS RX11 66 mdX11_needState 1 := ⟨wsg_t (i := 614) (by decide +kernel) (by decide +kernel), ks_X11_needState⟩
set_option maxRecDepth 20000 in
theorem kv_X5_forgedAmong : Cond.instanceMethod mdX5_forgedAmong.2.1 ∈ WSg ∧ Cond.selects mdX5_forgedAmong.2.1.cls mdX5_forgedAmong.2.1 mdX5_forgedAmong.2.1 ∈ WSg ∧ Cond.initialized mdX5_forgedAmong.2.1.cls ∈ WSg ∧ Cond.code mdX5_forgedAmong.2.1 mdX5_forgedAmong.2.2.1 mdX5_forgedAmong.2.2.2.1 mdX5_forgedAmong.2.2.2.2.1 ∈ WSg ∧ mdX5_forgedAmong.2.1.cls ≠ "java/lang/invoke/MethodHandle" ∧ mdX5_forgedAmong.2.1.cls ≠ "java/lang/invoke/VarHandle" ∧ (parseMethodDescriptor mdX5_forgedAmong.2.1.desc).map (fun d => d.parameters.length) = some 1 := ⟨wsg_t (i := 634) (by decide +kernel) (by decide +kernel), wsg_t (i := 635) (by decide +kernel) (by decide +kernel), wsg_t (i := 5) (by decide +kernel) (by decide +kernel), wsg_t (i := 636) (by decide +kernel) (by decide +kernel), by decide +kernel, by decide +kernel, by decide +kernel⟩
set_option maxRecDepth 20000 in
theorem cv_X11_69 : CV RX11 69 mdX5_forgedAmong 1 := ⟨wsg_t (i := 633) (by decide +kernel) (by decide +kernel), kv_X5_forgedAmong⟩
set_option maxRecDepth 20000 in
theorem ks_X11_needBank : Cond.static mdX11_needBank.2.1 ∈ WSg ∧ Cond.initialized mdX11_needBank.2.1.cls ∈ WSg ∧ Cond.code mdX11_needBank.2.1 mdX11_needBank.2.2.1 mdX11_needBank.2.2.2.1 mdX11_needBank.2.2.2.2.1 ∈ WSg ∧ mdX11_needBank.2.1.cls ≠ "java/lang/invoke/MethodHandle" ∧ mdX11_needBank.2.1.cls ≠ "java/lang/invoke/VarHandle" ∧ (parseMethodDescriptor mdX11_needBank.2.1.desc).map (fun d => d.parameters.length) = some 1 := ⟨wsg_t (i := 648) (by decide +kernel) (by decide +kernel), wsg_t (i := 1) (by decide +kernel) (by decide +kernel), wsg_t (i := 649) (by decide +kernel) (by decide +kernel), by decide +kernel, by decide +kernel, by decide +kernel⟩
set_option maxRecDepth 20000 in
theorem cs_X11_73 : CS RX11 73 mdX11_needBank 1 := ⟨wsg_t (i := 647) (by decide +kernel) (by decide +kernel), ks_X11_needBank⟩
set_option maxRecDepth 20000 in
theorem kv_X3_bank : Cond.instanceMethod mdX3_bank.2.1 ∈ WSg ∧ Cond.selects mdX3_bank.2.1.cls mdX3_bank.2.1 mdX3_bank.2.1 ∈ WSg ∧ Cond.initialized mdX3_bank.2.1.cls ∈ WSg ∧ Cond.code mdX3_bank.2.1 mdX3_bank.2.2.1 mdX3_bank.2.2.2.1 mdX3_bank.2.2.2.2.1 ∈ WSg ∧ mdX3_bank.2.1.cls ≠ "java/lang/invoke/MethodHandle" ∧ mdX3_bank.2.1.cls ≠ "java/lang/invoke/VarHandle" ∧ (parseMethodDescriptor mdX3_bank.2.1.desc).map (fun d => d.parameters.length) = some 1 := ⟨wsg_t (i := 388) (by decide +kernel) (by decide +kernel), wsg_t (i := 389) (by decide +kernel) (by decide +kernel), wsg_t (i := 2) (by decide +kernel) (by decide +kernel), wsg_t (i := 390) (by decide +kernel) (by decide +kernel), by decide +kernel, by decide +kernel, by decide +kernel⟩
set_option maxRecDepth 20000 in
theorem cv_X11_79 : CV RX11 79 mdX3_bank 1 := ⟨wsg_t (i := 472) (by decide +kernel) (by decide +kernel), kv_X3_bank⟩
set_option maxRecDepth 20000 in
theorem kv_X3_accountsAt : Cond.instanceMethod mdX3_accountsAt.2.1 ∈ WSg ∧ Cond.selects mdX3_accountsAt.2.1.cls mdX3_accountsAt.2.1 mdX3_accountsAt.2.1 ∈ WSg ∧ Cond.initialized mdX3_accountsAt.2.1.cls ∈ WSg ∧ Cond.code mdX3_accountsAt.2.1 mdX3_accountsAt.2.2.1 mdX3_accountsAt.2.2.2.1 mdX3_accountsAt.2.2.2.2.1 ∈ WSg ∧ mdX3_accountsAt.2.1.cls ≠ "java/lang/invoke/MethodHandle" ∧ mdX3_accountsAt.2.1.cls ≠ "java/lang/invoke/VarHandle" ∧ (parseMethodDescriptor mdX3_accountsAt.2.1.desc).map (fun d => d.parameters.length) = some 1 := ⟨wsg_t (i := 651) (by decide +kernel) (by decide +kernel), wsg_t (i := 652) (by decide +kernel) (by decide +kernel), wsg_t (i := 2) (by decide +kernel) (by decide +kernel), wsg_t (i := 653) (by decide +kernel) (by decide +kernel), by decide +kernel, by decide +kernel, by decide +kernel⟩
set_option maxRecDepth 20000 in
theorem cv_X11_88 : CV RX11 88 mdX3_accountsAt 1 := ⟨wsg_t (i := 650) (by decide +kernel) (by decide +kernel), kv_X3_accountsAt⟩
set_option maxRecDepth 20000 in
theorem kv_X10_oneWaitsTo : Cond.instanceMethod mdX10_oneWaitsTo.2.1 ∈ WSg ∧ Cond.selects mdX10_oneWaitsTo.2.1.cls mdX10_oneWaitsTo.2.1 mdX10_oneWaitsTo.2.1 ∈ WSg ∧ Cond.initialized mdX10_oneWaitsTo.2.1.cls ∈ WSg ∧ Cond.code mdX10_oneWaitsTo.2.1 mdX10_oneWaitsTo.2.2.1 mdX10_oneWaitsTo.2.2.2.1 mdX10_oneWaitsTo.2.2.2.2.1 ∈ WSg ∧ mdX10_oneWaitsTo.2.1.cls ≠ "java/lang/invoke/MethodHandle" ∧ mdX10_oneWaitsTo.2.1.cls ≠ "java/lang/invoke/VarHandle" ∧ (parseMethodDescriptor mdX10_oneWaitsTo.2.1.desc).map (fun d => d.parameters.length) = some 1 := ⟨wsg_t (i := 662) (by decide +kernel) (by decide +kernel), wsg_t (i := 663) (by decide +kernel) (by decide +kernel), wsg_t (i := 7) (by decide +kernel) (by decide +kernel), wsg_t (i := 664) (by decide +kernel) (by decide +kernel), by decide +kernel, by decide +kernel, by decide +kernel⟩
set_option maxRecDepth 20000 in
theorem cv_X11_94 : CV RX11 94 mdX10_oneWaitsTo 1 := ⟨wsg_t (i := 661) (by decide +kernel) (by decide +kernel), kv_X10_oneWaitsTo⟩
set_option maxRecDepth 20000 in
theorem kv_X3_change : Cond.instanceMethod mdX3_change.2.1 ∈ WSg ∧ Cond.selects mdX3_change.2.1.cls mdX3_change.2.1 mdX3_change.2.1 ∈ WSg ∧ Cond.initialized mdX3_change.2.1.cls ∈ WSg ∧ Cond.code mdX3_change.2.1 mdX3_change.2.2.1 mdX3_change.2.2.2.1 mdX3_change.2.2.2.2.1 ∈ WSg ∧ mdX3_change.2.1.cls ≠ "java/lang/invoke/MethodHandle" ∧ mdX3_change.2.1.cls ≠ "java/lang/invoke/VarHandle" ∧ (parseMethodDescriptor mdX3_change.2.1.desc).map (fun d => d.parameters.length) = some 2 := ⟨wsg_t (i := 424) (by decide +kernel) (by decide +kernel), wsg_t (i := 425) (by decide +kernel) (by decide +kernel), wsg_t (i := 2) (by decide +kernel) (by decide +kernel), wsg_t (i := 426) (by decide +kernel) (by decide +kernel), by decide +kernel, by decide +kernel, by decide +kernel⟩
set_option maxRecDepth 20000 in
theorem cv_X11_101 : CV RX11 101 mdX3_change 2 := ⟨wsg_t (i := 672) (by decide +kernel) (by decide +kernel), kv_X3_change⟩
set_option maxRecDepth 20000 in
theorem kv_X5_free : Cond.instanceMethod mdX5_free.2.1 ∈ WSg ∧ Cond.selects mdX5_free.2.1.cls mdX5_free.2.1 mdX5_free.2.1 ∈ WSg ∧ Cond.initialized mdX5_free.2.1.cls ∈ WSg ∧ Cond.code mdX5_free.2.1 mdX5_free.2.2.1 mdX5_free.2.2.2.1 mdX5_free.2.2.2.2.1 ∈ WSg ∧ mdX5_free.2.1.cls ≠ "java/lang/invoke/MethodHandle" ∧ mdX5_free.2.1.cls ≠ "java/lang/invoke/VarHandle" ∧ (parseMethodDescriptor mdX5_free.2.1.desc).map (fun d => d.parameters.length) = some 0 := ⟨wsg_t (i := 681) (by decide +kernel) (by decide +kernel), wsg_t (i := 682) (by decide +kernel) (by decide +kernel), wsg_t (i := 5) (by decide +kernel) (by decide +kernel), wsg_t (i := 683) (by decide +kernel) (by decide +kernel), by decide +kernel, by decide +kernel, by decide +kernel⟩
set_option maxRecDepth 20000 in
theorem cv_X11_104 : CV RX11 104 mdX5_free 0 := ⟨wsg_t (i := 680) (by decide +kernel) (by decide +kernel), kv_X5_free⟩
set_option maxRecDepth 20000 in
theorem kv_X11_drawNotes : Cond.instanceMethod mdX11_drawNotes.2.1 ∈ WSg ∧ Cond.selects mdX11_drawNotes.2.1.cls mdX11_drawNotes.2.1 mdX11_drawNotes.2.1 ∈ WSg ∧ Cond.initialized mdX11_drawNotes.2.1.cls ∈ WSg ∧ Cond.code mdX11_drawNotes.2.1 mdX11_drawNotes.2.2.1 mdX11_drawNotes.2.2.2.1 mdX11_drawNotes.2.2.2.2.1 ∈ WSg ∧ mdX11_drawNotes.2.1.cls ≠ "java/lang/invoke/MethodHandle" ∧ mdX11_drawNotes.2.1.cls ≠ "java/lang/invoke/VarHandle" ∧ (parseMethodDescriptor mdX11_drawNotes.2.1.desc).map (fun d => d.parameters.length) = some 2 := ⟨wsg_t (i := 686) (by decide +kernel) (by decide +kernel), wsg_in (List.mem_append_left _ (List.mem_of_getElem? (i := 6) (by decide +kernel))) (by decide +kernel), wsg_t (i := 1) (by decide +kernel) (by decide +kernel), wsg_t (i := 687) (by decide +kernel) (by decide +kernel), by decide +kernel, by decide +kernel, by decide +kernel⟩
set_option maxRecDepth 20000 in
theorem cv_X11_108 : CV RX11 108 mdX11_drawNotes 2 := ⟨wsg_t (i := 684) (by decide +kernel) (by decide +kernel), kv_X11_drawNotes⟩
set_option maxRecDepth 20000 in
theorem kv_X11_failBank : Cond.instanceMethod mdX11_failBank.2.1 ∈ WSg ∧ Cond.selects mdX11_failBank.2.1.cls mdX11_failBank.2.1 mdX11_failBank.2.1 ∈ WSg ∧ Cond.initialized mdX11_failBank.2.1.cls ∈ WSg ∧ Cond.code mdX11_failBank.2.1 mdX11_failBank.2.2.1 mdX11_failBank.2.2.2.1 mdX11_failBank.2.2.2.2.1 ∈ WSg ∧ mdX11_failBank.2.1.cls ≠ "java/lang/invoke/MethodHandle" ∧ mdX11_failBank.2.1.cls ≠ "java/lang/invoke/VarHandle" ∧ (parseMethodDescriptor mdX11_failBank.2.1.desc).map (fun d => d.parameters.length) = some 1 := ⟨wsg_t (i := 695) (by decide +kernel) (by decide +kernel), wsg_in (List.mem_append_left _ (List.mem_of_getElem? (i := 7) (by decide +kernel))) (by decide +kernel), wsg_t (i := 1) (by decide +kernel) (by decide +kernel), wsg_t (i := 696) (by decide +kernel) (by decide +kernel), by decide +kernel, by decide +kernel, by decide +kernel⟩
set_option maxRecDepth 20000 in
theorem cv_X11_112 : CV RX11 112 mdX11_failBank 1 := ⟨wsg_t (i := 693) (by decide +kernel) (by decide +kernel), kv_X11_failBank⟩
set_option maxRecDepth 20000 in
theorem kv_X11_canPay : Cond.instanceMethod mdX11_canPay.2.1 ∈ WSg ∧ Cond.selects mdX11_canPay.2.1.cls mdX11_canPay.2.1 mdX11_canPay.2.1 ∈ WSg ∧ Cond.initialized mdX11_canPay.2.1.cls ∈ WSg ∧ Cond.code mdX11_canPay.2.1 mdX11_canPay.2.2.1 mdX11_canPay.2.2.2.1 mdX11_canPay.2.2.2.2.1 ∈ WSg ∧ mdX11_canPay.2.1.cls ≠ "java/lang/invoke/MethodHandle" ∧ mdX11_canPay.2.1.cls ≠ "java/lang/invoke/VarHandle" ∧ (parseMethodDescriptor mdX11_canPay.2.1.desc).map (fun d => d.parameters.length) = some 3 := ⟨wsg_t (i := 760) (by decide +kernel) (by decide +kernel), wsg_in (List.mem_append_left _ (List.mem_of_getElem? (i := 11) (by decide +kernel))) (by decide +kernel), wsg_t (i := 1) (by decide +kernel) (by decide +kernel), wsg_t (i := 761) (by decide +kernel) (by decide +kernel), by decide +kernel, by decide +kernel, by decide +kernel⟩
set_option maxRecDepth 20000 in
theorem cv_X11_115 : CV RX11 115 mdX11_canPay 3 := ⟨wsg_t (i := 758) (by decide +kernel) (by decide +kernel), kv_X11_canPay⟩
set_option maxRecDepth 20000 in
theorem kv_X10_tell : Cond.instanceMethod mdX10_tell.2.1 ∈ WSg ∧ Cond.selects mdX10_tell.2.1.cls mdX10_tell.2.1 mdX10_tell.2.1 ∈ WSg ∧ Cond.initialized mdX10_tell.2.1.cls ∈ WSg ∧ Cond.code mdX10_tell.2.1 mdX10_tell.2.2.1 mdX10_tell.2.2.2.1 mdX10_tell.2.2.2.2.1 ∈ WSg ∧ mdX10_tell.2.1.cls ≠ "java/lang/invoke/MethodHandle" ∧ mdX10_tell.2.1.cls ≠ "java/lang/invoke/VarHandle" ∧ (parseMethodDescriptor mdX10_tell.2.1.desc).map (fun d => d.parameters.length) = some 6 := ⟨wsg_t (i := 767) (by decide +kernel) (by decide +kernel), wsg_t (i := 768) (by decide +kernel) (by decide +kernel), wsg_t (i := 7) (by decide +kernel) (by decide +kernel), wsg_t (i := 769) (by decide +kernel) (by decide +kernel), by decide +kernel, by decide +kernel, by decide +kernel⟩
set_option maxRecDepth 20000 in
theorem cv_X11_122 : CV RX11 122 mdX10_tell 6 := ⟨wsg_t (i := 766) (by decide +kernel) (by decide +kernel), kv_X10_tell⟩
set_option maxRecDepth 20000 in
theorem kv_X10_clearAll : Cond.instanceMethod mdX10_clearAll.2.1 ∈ WSg ∧ Cond.selects mdX10_clearAll.2.1.cls mdX10_clearAll.2.1 mdX10_clearAll.2.1 ∈ WSg ∧ Cond.initialized mdX10_clearAll.2.1.cls ∈ WSg ∧ Cond.code mdX10_clearAll.2.1 mdX10_clearAll.2.2.1 mdX10_clearAll.2.2.2.1 mdX10_clearAll.2.2.2.2.1 ∈ WSg ∧ mdX10_clearAll.2.1.cls ≠ "java/lang/invoke/MethodHandle" ∧ mdX10_clearAll.2.1.cls ≠ "java/lang/invoke/VarHandle" ∧ (parseMethodDescriptor mdX10_clearAll.2.1.desc).map (fun d => d.parameters.length) = some 2 := ⟨wsg_t (i := 380) (by decide +kernel) (by decide +kernel), wsg_t (i := 381) (by decide +kernel) (by decide +kernel), wsg_t (i := 7) (by decide +kernel) (by decide +kernel), wsg_t (i := 382) (by decide +kernel) (by decide +kernel), by decide +kernel, by decide +kernel, by decide +kernel⟩
set_option maxRecDepth 20000 in
theorem cv_X11_126 : CV RX11 126 mdX10_clearAll 2 := ⟨wsg_t (i := 379) (by decide +kernel) (by decide +kernel), kv_X10_clearAll⟩
set_option maxRecDepth 20000 in
theorem kv_X7_isFull : Cond.instanceMethod mdX7_isFull.2.1 ∈ WSg ∧ Cond.selects mdX7_isFull.2.1.cls mdX7_isFull.2.1 mdX7_isFull.2.1 ∈ WSg ∧ Cond.initialized mdX7_isFull.2.1.cls ∈ WSg ∧ Cond.code mdX7_isFull.2.1 mdX7_isFull.2.2.1 mdX7_isFull.2.2.2.1 mdX7_isFull.2.2.2.2.1 ∈ WSg ∧ mdX7_isFull.2.1.cls ≠ "java/lang/invoke/MethodHandle" ∧ mdX7_isFull.2.1.cls ≠ "java/lang/invoke/VarHandle" ∧ (parseMethodDescriptor mdX7_isFull.2.1.desc).map (fun d => d.parameters.length) = some 0 := ⟨wsg_t (i := 792) (by decide +kernel) (by decide +kernel), wsg_t (i := 793) (by decide +kernel) (by decide +kernel), wsg_t (i := 9) (by decide +kernel) (by decide +kernel), wsg_t (i := 794) (by decide +kernel) (by decide +kernel), by decide +kernel, by decide +kernel, by decide +kernel⟩
set_option maxRecDepth 20000 in
theorem cv_X11_136 : CV RX11 136 mdX7_isFull 0 := ⟨wsg_t (i := 791) (by decide +kernel) (by decide +kernel), kv_X7_isFull⟩
set_option maxRecDepth 20000 in
theorem kv_X7_leftOf : Cond.instanceMethod mdX7_leftOf.2.1 ∈ WSg ∧ Cond.selects mdX7_leftOf.2.1.cls mdX7_leftOf.2.1 mdX7_leftOf.2.1 ∈ WSg ∧ Cond.initialized mdX7_leftOf.2.1.cls ∈ WSg ∧ Cond.code mdX7_leftOf.2.1 mdX7_leftOf.2.2.1 mdX7_leftOf.2.2.2.1 mdX7_leftOf.2.2.2.2.1 ∈ WSg ∧ mdX7_leftOf.2.1.cls ≠ "java/lang/invoke/MethodHandle" ∧ mdX7_leftOf.2.1.cls ≠ "java/lang/invoke/VarHandle" ∧ (parseMethodDescriptor mdX7_leftOf.2.1.desc).map (fun d => d.parameters.length) = some 1 := ⟨wsg_t (i := 461) (by decide +kernel) (by decide +kernel), wsg_t (i := 462) (by decide +kernel) (by decide +kernel), wsg_t (i := 9) (by decide +kernel) (by decide +kernel), wsg_t (i := 463) (by decide +kernel) (by decide +kernel), by decide +kernel, by decide +kernel, by decide +kernel⟩
set_option maxRecDepth 20000 in
theorem cv_X11_140 : CV RX11 140 mdX7_leftOf 1 := ⟨wsg_t (i := 460) (by decide +kernel) (by decide +kernel), kv_X7_leftOf⟩
set_option maxRecDepth 20000 in
theorem kv_X11_capitalOf : Cond.instanceMethod mdX11_capitalOf.2.1 ∈ WSg ∧ Cond.selects mdX11_capitalOf.2.1.cls mdX11_capitalOf.2.1 mdX11_capitalOf.2.1 ∈ WSg ∧ Cond.initialized mdX11_capitalOf.2.1.cls ∈ WSg ∧ Cond.code mdX11_capitalOf.2.1 mdX11_capitalOf.2.2.1 mdX11_capitalOf.2.2.2.1 mdX11_capitalOf.2.2.2.2.1 ∈ WSg ∧ mdX11_capitalOf.2.1.cls ≠ "java/lang/invoke/MethodHandle" ∧ mdX11_capitalOf.2.1.cls ≠ "java/lang/invoke/VarHandle" ∧ (parseMethodDescriptor mdX11_capitalOf.2.1.desc).map (fun d => d.parameters.length) = some 1 := ⟨wsg_t (i := 797) (by decide +kernel) (by decide +kernel), wsg_in (List.mem_append_left _ (List.mem_of_getElem? (i := 12) (by decide +kernel))) (by decide +kernel), wsg_t (i := 1) (by decide +kernel) (by decide +kernel), wsg_t (i := 798) (by decide +kernel) (by decide +kernel), by decide +kernel, by decide +kernel, by decide +kernel⟩
set_option maxRecDepth 20000 in
theorem cv_X11_143 : CV RX11 143 mdX11_capitalOf 1 := ⟨wsg_t (i := 795) (by decide +kernel) (by decide +kernel), kv_X11_capitalOf⟩
set_option maxRecDepth 20000 in
theorem ks_X11_share : Cond.static mdX11_share.2.1 ∈ WSg ∧ Cond.initialized mdX11_share.2.1.cls ∈ WSg ∧ Cond.code mdX11_share.2.1 mdX11_share.2.2.1 mdX11_share.2.2.2.1 mdX11_share.2.2.2.2.1 ∈ WSg ∧ mdX11_share.2.1.cls ≠ "java/lang/invoke/MethodHandle" ∧ mdX11_share.2.1.cls ≠ "java/lang/invoke/VarHandle" ∧ (parseMethodDescriptor mdX11_share.2.1.desc).map (fun d => d.parameters.length) = some 3 := ⟨wsg_t (i := 638) (by decide +kernel) (by decide +kernel), wsg_t (i := 1) (by decide +kernel) (by decide +kernel), wsg_t (i := 639) (by decide +kernel) (by decide +kernel), by decide +kernel, by decide +kernel, by decide +kernel⟩
set_option maxRecDepth 20000 in
theorem cs_X11_155 : CS RX11 155 mdX11_share 3 := ⟨wsg_t (i := 713) (by decide +kernel) (by decide +kernel), ks_X11_share⟩
set_option maxRecDepth 20000 in
theorem kv_X7_give : Cond.instanceMethod mdX7_give.2.1 ∈ WSg ∧ Cond.selects mdX7_give.2.1.cls mdX7_give.2.1 mdX7_give.2.1 ∈ WSg ∧ Cond.initialized mdX7_give.2.1.cls ∈ WSg ∧ Cond.code mdX7_give.2.1 mdX7_give.2.2.1 mdX7_give.2.2.2.1 mdX7_give.2.2.2.2.1 ∈ WSg ∧ mdX7_give.2.1.cls ≠ "java/lang/invoke/MethodHandle" ∧ mdX7_give.2.1.cls ≠ "java/lang/invoke/VarHandle" ∧ (parseMethodDescriptor mdX7_give.2.1.desc).map (fun d => d.parameters.length) = some 4 := ⟨wsg_t (i := 804) (by decide +kernel) (by decide +kernel), wsg_t (i := 805) (by decide +kernel) (by decide +kernel), wsg_t (i := 9) (by decide +kernel) (by decide +kernel), wsg_t (i := 806) (by decide +kernel) (by decide +kernel), by decide +kernel, by decide +kernel, by decide +kernel⟩
set_option maxRecDepth 20000 in
theorem cv_X11_159 : CV RX11 159 mdX7_give 4 := ⟨wsg_t (i := 803) (by decide +kernel) (by decide +kernel), kv_X7_give⟩
set_option maxRecDepth 20000 in
theorem kv_X11_needLoan : Cond.instanceMethod mdX11_needLoan.2.1 ∈ WSg ∧ Cond.selects mdX11_needLoan.2.1.cls mdX11_needLoan.2.1 mdX11_needLoan.2.1 ∈ WSg ∧ Cond.initialized mdX11_needLoan.2.1.cls ∈ WSg ∧ Cond.code mdX11_needLoan.2.1 mdX11_needLoan.2.2.1 mdX11_needLoan.2.2.2.1 mdX11_needLoan.2.2.2.2.1 ∈ WSg ∧ mdX11_needLoan.2.1.cls ≠ "java/lang/invoke/MethodHandle" ∧ mdX11_needLoan.2.1.cls ≠ "java/lang/invoke/VarHandle" ∧ (parseMethodDescriptor mdX11_needLoan.2.1.desc).map (fun d => d.parameters.length) = some 1 := ⟨wsg_t (i := 816) (by decide +kernel) (by decide +kernel), wsg_in (List.mem_append_left _ (List.mem_of_getElem? (i := 13) (by decide +kernel))) (by decide +kernel), wsg_t (i := 1) (by decide +kernel) (by decide +kernel), wsg_t (i := 817) (by decide +kernel) (by decide +kernel), by decide +kernel, by decide +kernel, by decide +kernel⟩
set_option maxRecDepth 20000 in
theorem cv_X11_163 : CV RX11 163 mdX11_needLoan 1 := ⟨wsg_t (i := 814) (by decide +kernel) (by decide +kernel), kv_X11_needLoan⟩
set_option maxRecDepth 20000 in
theorem kv_X7_at : Cond.instanceMethod mdX7_at.2.1 ∈ WSg ∧ Cond.selects mdX7_at.2.1.cls mdX7_at.2.1 mdX7_at.2.1 ∈ WSg ∧ Cond.initialized mdX7_at.2.1.cls ∈ WSg ∧ Cond.code mdX7_at.2.1 mdX7_at.2.2.1 mdX7_at.2.2.2.1 mdX7_at.2.2.2.2.1 ∈ WSg ∧ mdX7_at.2.1.cls ≠ "java/lang/invoke/MethodHandle" ∧ mdX7_at.2.1.cls ≠ "java/lang/invoke/VarHandle" ∧ (parseMethodDescriptor mdX7_at.2.1.desc).map (fun d => d.parameters.length) = some 1 := ⟨wsg_t (i := 465) (by decide +kernel) (by decide +kernel), wsg_t (i := 466) (by decide +kernel) (by decide +kernel), wsg_t (i := 9) (by decide +kernel) (by decide +kernel), wsg_t (i := 467) (by decide +kernel) (by decide +kernel), by decide +kernel, by decide +kernel, by decide +kernel⟩
set_option maxRecDepth 20000 in
theorem cv_X11_166 : CV RX11 166 mdX7_at 1 := ⟨wsg_t (i := 818) (by decide +kernel) (by decide +kernel), kv_X7_at⟩
set_option maxRecDepth 20000 in
theorem kv_X3_canPayOwner : Cond.instanceMethod mdX3_canPayOwner.2.1 ∈ WSg ∧ Cond.selects mdX3_canPayOwner.2.1.cls mdX3_canPayOwner.2.1 mdX3_canPayOwner.2.1 ∈ WSg ∧ Cond.initialized mdX3_canPayOwner.2.1.cls ∈ WSg ∧ Cond.code mdX3_canPayOwner.2.1 mdX3_canPayOwner.2.2.1 mdX3_canPayOwner.2.2.2.1 mdX3_canPayOwner.2.2.2.2.1 ∈ WSg ∧ mdX3_canPayOwner.2.1.cls ≠ "java/lang/invoke/MethodHandle" ∧ mdX3_canPayOwner.2.1.cls ≠ "java/lang/invoke/VarHandle" ∧ (parseMethodDescriptor mdX3_canPayOwner.2.1.desc).map (fun d => d.parameters.length) = some 2 := ⟨wsg_t (i := 820) (by decide +kernel) (by decide +kernel), wsg_t (i := 821) (by decide +kernel) (by decide +kernel), wsg_t (i := 2) (by decide +kernel) (by decide +kernel), wsg_t (i := 822) (by decide +kernel) (by decide +kernel), by decide +kernel, by decide +kernel, by decide +kernel⟩
set_option maxRecDepth 20000 in
theorem cv_X11_175 : CV RX11 175 mdX3_canPayOwner 2 := ⟨wsg_t (i := 819) (by decide +kernel) (by decide +kernel), kv_X3_canPayOwner⟩
set_option maxRecDepth 20000 in
theorem kv_X3_payOwner : Cond.instanceMethod mdX3_payOwner.2.1 ∈ WSg ∧ Cond.selects mdX3_payOwner.2.1.cls mdX3_payOwner.2.1 mdX3_payOwner.2.1 ∈ WSg ∧ Cond.initialized mdX3_payOwner.2.1.cls ∈ WSg ∧ Cond.code mdX3_payOwner.2.1 mdX3_payOwner.2.2.1 mdX3_payOwner.2.2.2.1 mdX3_payOwner.2.2.2.2.1 ∈ WSg ∧ mdX3_payOwner.2.1.cls ≠ "java/lang/invoke/MethodHandle" ∧ mdX3_payOwner.2.1.cls ≠ "java/lang/invoke/VarHandle" ∧ (parseMethodDescriptor mdX3_payOwner.2.1.desc).map (fun d => d.parameters.length) = some 2 := ⟨wsg_t (i := 825) (by decide +kernel) (by decide +kernel), wsg_t (i := 826) (by decide +kernel) (by decide +kernel), wsg_t (i := 2) (by decide +kernel) (by decide +kernel), wsg_t (i := 827) (by decide +kernel) (by decide +kernel), by decide +kernel, by decide +kernel, by decide +kernel⟩
set_option maxRecDepth 20000 in
theorem cv_X11_179 : CV RX11 179 mdX3_payOwner 2 := ⟨wsg_t (i := 824) (by decide +kernel) (by decide +kernel), kv_X3_payOwner⟩
set_option maxRecDepth 20000 in
theorem kv_X11_roomAtWindow : Cond.instanceMethod mdX11_roomAtWindow.2.1 ∈ WSg ∧ Cond.selects mdX11_roomAtWindow.2.1.cls mdX11_roomAtWindow.2.1 mdX11_roomAtWindow.2.1 ∈ WSg ∧ Cond.initialized mdX11_roomAtWindow.2.1.cls ∈ WSg ∧ Cond.code mdX11_roomAtWindow.2.1 mdX11_roomAtWindow.2.2.1 mdX11_roomAtWindow.2.2.2.1 mdX11_roomAtWindow.2.2.2.2.1 ∈ WSg ∧ mdX11_roomAtWindow.2.1.cls ≠ "java/lang/invoke/MethodHandle" ∧ mdX11_roomAtWindow.2.1.cls ≠ "java/lang/invoke/VarHandle" ∧ (parseMethodDescriptor mdX11_roomAtWindow.2.1.desc).map (fun d => d.parameters.length) = some 1 := ⟨wsg_t (i := 837) (by decide +kernel) (by decide +kernel), wsg_in (List.mem_append_left _ (List.mem_of_getElem? (i := 14) (by decide +kernel))) (by decide +kernel), wsg_t (i := 1) (by decide +kernel) (by decide +kernel), wsg_t (i := 838) (by decide +kernel) (by decide +kernel), by decide +kernel, by decide +kernel, by decide +kernel⟩
set_option maxRecDepth 20000 in
theorem cv_X11_183 : CV RX11 183 mdX11_roomAtWindow 1 := ⟨wsg_t (i := 835) (by decide +kernel) (by decide +kernel), kv_X11_roomAtWindow⟩
set_option maxRecDepth 20000 in
theorem kv_X0_borrow : Cond.instanceMethod mdX0_borrow.2.1 ∈ WSg ∧ Cond.selects mdX0_borrow.2.1.cls mdX0_borrow.2.1 mdX0_borrow.2.1 ∈ WSg ∧ Cond.initialized mdX0_borrow.2.1.cls ∈ WSg ∧ Cond.code mdX0_borrow.2.1 mdX0_borrow.2.2.1 mdX0_borrow.2.2.2.1 mdX0_borrow.2.2.2.2.1 ∈ WSg ∧ mdX0_borrow.2.1.cls ≠ "java/lang/invoke/MethodHandle" ∧ mdX0_borrow.2.1.cls ≠ "java/lang/invoke/VarHandle" ∧ (parseMethodDescriptor mdX0_borrow.2.1.desc).map (fun d => d.parameters.length) = some 1 := ⟨wsg_t (i := 840) (by decide +kernel) (by decide +kernel), wsg_t (i := 841) (by decide +kernel) (by decide +kernel), wsg_t (i := 6) (by decide +kernel) (by decide +kernel), wsg_t (i := 842) (by decide +kernel) (by decide +kernel), by decide +kernel, by decide +kernel, by decide +kernel⟩
set_option maxRecDepth 20000 in
theorem cv_X11_186 : CV RX11 186 mdX0_borrow 1 := ⟨wsg_t (i := 839) (by decide +kernel) (by decide +kernel), kv_X0_borrow⟩
set_option maxRecDepth 20000 in
theorem kv_X2_of : Cond.instanceMethod mdX2_of.2.1 ∈ WSg ∧ Cond.selects mdX2_of.2.1.cls mdX2_of.2.1 mdX2_of.2.1 ∈ WSg ∧ Cond.initialized mdX2_of.2.1.cls ∈ WSg ∧ Cond.code mdX2_of.2.1 mdX2_of.2.2.1 mdX2_of.2.2.2.1 mdX2_of.2.2.2.2.1 ∈ WSg ∧ mdX2_of.2.1.cls ≠ "java/lang/invoke/MethodHandle" ∧ mdX2_of.2.1.cls ≠ "java/lang/invoke/VarHandle" ∧ (parseMethodDescriptor mdX2_of.2.1.desc).map (fun d => d.parameters.length) = some 1 := ⟨wsg_t (i := 445) (by decide +kernel) (by decide +kernel), wsg_t (i := 446) (by decide +kernel) (by decide +kernel), wsg_t (i := 11) (by decide +kernel) (by decide +kernel), wsg_t (i := 447) (by decide +kernel) (by decide +kernel), by decide +kernel, by decide +kernel, by decide +kernel⟩
set_option maxRecDepth 20000 in
theorem cv_X11_198 : CV RX11 198 mdX2_of 1 := ⟨wsg_t (i := 444) (by decide +kernel) (by decide +kernel), kv_X2_of⟩
set_option maxRecDepth 20000 in
theorem kv_X2_moveToCentral : Cond.instanceMethod mdX2_moveToCentral.2.1 ∈ WSg ∧ Cond.selects mdX2_moveToCentral.2.1.cls mdX2_moveToCentral.2.1 mdX2_moveToCentral.2.1 ∈ WSg ∧ Cond.initialized mdX2_moveToCentral.2.1.cls ∈ WSg ∧ Cond.code mdX2_moveToCentral.2.1 mdX2_moveToCentral.2.2.1 mdX2_moveToCentral.2.2.2.1 mdX2_moveToCentral.2.2.2.2.1 ∈ WSg ∧ mdX2_moveToCentral.2.1.cls ≠ "java/lang/invoke/MethodHandle" ∧ mdX2_moveToCentral.2.1.cls ≠ "java/lang/invoke/VarHandle" ∧ (parseMethodDescriptor mdX2_moveToCentral.2.1.desc).map (fun d => d.parameters.length) = some 2 := ⟨wsg_t (i := 715) (by decide +kernel) (by decide +kernel), wsg_t (i := 716) (by decide +kernel) (by decide +kernel), wsg_t (i := 11) (by decide +kernel) (by decide +kernel), wsg_t (i := 717) (by decide +kernel) (by decide +kernel), by decide +kernel, by decide +kernel, by decide +kernel⟩
set_option maxRecDepth 20000 in
theorem cv_X11_201 : CV RX11 201 mdX2_moveToCentral 2 := ⟨wsg_t (i := 714) (by decide +kernel) (by decide +kernel), kv_X2_moveToCentral⟩
set_option maxRecDepth 20000 in
theorem kv_X2_bidsAreFull : Cond.instanceMethod mdX2_bidsAreFull.2.1 ∈ WSg ∧ Cond.selects mdX2_bidsAreFull.2.1.cls mdX2_bidsAreFull.2.1 mdX2_bidsAreFull.2.1 ∈ WSg ∧ Cond.initialized mdX2_bidsAreFull.2.1.cls ∈ WSg ∧ Cond.code mdX2_bidsAreFull.2.1 mdX2_bidsAreFull.2.2.1 mdX2_bidsAreFull.2.2.2.1 mdX2_bidsAreFull.2.2.2.2.1 ∈ WSg ∧ mdX2_bidsAreFull.2.1.cls ≠ "java/lang/invoke/MethodHandle" ∧ mdX2_bidsAreFull.2.1.cls ≠ "java/lang/invoke/VarHandle" ∧ (parseMethodDescriptor mdX2_bidsAreFull.2.1.desc).map (fun d => d.parameters.length) = some 0 := ⟨wsg_t (i := 872) (by decide +kernel) (by decide +kernel), wsg_t (i := 873) (by decide +kernel) (by decide +kernel), wsg_t (i := 11) (by decide +kernel) (by decide +kernel), wsg_t (i := 874) (by decide +kernel) (by decide +kernel), by decide +kernel, by decide +kernel, by decide +kernel⟩
set_option maxRecDepth 20000 in
theorem cv_X11_204 : CV RX11 204 mdX2_bidsAreFull 0 := ⟨wsg_t (i := 871) (by decide +kernel) (by decide +kernel), kv_X2_bidsAreFull⟩
set_option maxRecDepth 20000 in
theorem kv_X2_addBid : Cond.instanceMethod mdX2_addBid.2.1 ∈ WSg ∧ Cond.selects mdX2_addBid.2.1.cls mdX2_addBid.2.1 mdX2_addBid.2.1 ∈ WSg ∧ Cond.initialized mdX2_addBid.2.1.cls ∈ WSg ∧ Cond.code mdX2_addBid.2.1 mdX2_addBid.2.2.1 mdX2_addBid.2.2.2.1 mdX2_addBid.2.2.2.2.1 ∈ WSg ∧ mdX2_addBid.2.1.cls ≠ "java/lang/invoke/MethodHandle" ∧ mdX2_addBid.2.1.cls ≠ "java/lang/invoke/VarHandle" ∧ (parseMethodDescriptor mdX2_addBid.2.1.desc).map (fun d => d.parameters.length) = some 3 := ⟨wsg_t (i := 876) (by decide +kernel) (by decide +kernel), wsg_t (i := 877) (by decide +kernel) (by decide +kernel), wsg_t (i := 11) (by decide +kernel) (by decide +kernel), wsg_t (i := 878) (by decide +kernel) (by decide +kernel), by decide +kernel, by decide +kernel, by decide +kernel⟩
set_option maxRecDepth 20000 in
theorem cv_X11_207 : CV RX11 207 mdX2_addBid 3 := ⟨wsg_t (i := 875) (by decide +kernel) (by decide +kernel), kv_X2_addBid⟩
set_option maxRecDepth 20000 in
theorem kv_X2_auctionsAreFull : Cond.instanceMethod mdX2_auctionsAreFull.2.1 ∈ WSg ∧ Cond.selects mdX2_auctionsAreFull.2.1.cls mdX2_auctionsAreFull.2.1 mdX2_auctionsAreFull.2.1 ∈ WSg ∧ Cond.initialized mdX2_auctionsAreFull.2.1.cls ∈ WSg ∧ Cond.code mdX2_auctionsAreFull.2.1 mdX2_auctionsAreFull.2.2.1 mdX2_auctionsAreFull.2.2.2.1 mdX2_auctionsAreFull.2.2.2.2.1 ∈ WSg ∧ mdX2_auctionsAreFull.2.1.cls ≠ "java/lang/invoke/MethodHandle" ∧ mdX2_auctionsAreFull.2.1.cls ≠ "java/lang/invoke/VarHandle" ∧ (parseMethodDescriptor mdX2_auctionsAreFull.2.1.desc).map (fun d => d.parameters.length) = some 0 := ⟨wsg_t (i := 887) (by decide +kernel) (by decide +kernel), wsg_t (i := 888) (by decide +kernel) (by decide +kernel), wsg_t (i := 11) (by decide +kernel) (by decide +kernel), wsg_t (i := 889) (by decide +kernel) (by decide +kernel), by decide +kernel, by decide +kernel, by decide +kernel⟩
set_option maxRecDepth 20000 in
theorem cv_X11_210 : CV RX11 210 mdX2_auctionsAreFull 0 := ⟨wsg_t (i := 886) (by decide +kernel) (by decide +kernel), kv_X2_auctionsAreFull⟩
set_option maxRecDepth 20000 in
theorem kv_X2_takeBids : Cond.instanceMethod mdX2_takeBids.2.1 ∈ WSg ∧ Cond.selects mdX2_takeBids.2.1.cls mdX2_takeBids.2.1 mdX2_takeBids.2.1 ∈ WSg ∧ Cond.initialized mdX2_takeBids.2.1.cls ∈ WSg ∧ Cond.code mdX2_takeBids.2.1 mdX2_takeBids.2.2.1 mdX2_takeBids.2.2.2.1 mdX2_takeBids.2.2.2.2.1 ∈ WSg ∧ mdX2_takeBids.2.1.cls ≠ "java/lang/invoke/MethodHandle" ∧ mdX2_takeBids.2.1.cls ≠ "java/lang/invoke/VarHandle" ∧ (parseMethodDescriptor mdX2_takeBids.2.1.desc).map (fun d => d.parameters.length) = some 2 := ⟨wsg_t (i := 891) (by decide +kernel) (by decide +kernel), wsg_t (i := 892) (by decide +kernel) (by decide +kernel), wsg_t (i := 11) (by decide +kernel) (by decide +kernel), wsg_t (i := 893) (by decide +kernel) (by decide +kernel), by decide +kernel, by decide +kernel, by decide +kernel⟩
set_option maxRecDepth 20000 in
theorem cv_X11_213 : CV RX11 213 mdX2_takeBids 2 := ⟨wsg_t (i := 890) (by decide +kernel) (by decide +kernel), kv_X2_takeBids⟩
set_option maxRecDepth 20000 in
theorem kv_X2_sell : Cond.instanceMethod mdX2_sell.2.1 ∈ WSg ∧ Cond.selects mdX2_sell.2.1.cls mdX2_sell.2.1 mdX2_sell.2.1 ∈ WSg ∧ Cond.initialized mdX2_sell.2.1.cls ∈ WSg ∧ Cond.code mdX2_sell.2.1 mdX2_sell.2.2.1 mdX2_sell.2.2.2.1 mdX2_sell.2.2.2.2.1 ∈ WSg ∧ mdX2_sell.2.1.cls ≠ "java/lang/invoke/MethodHandle" ∧ mdX2_sell.2.1.cls ≠ "java/lang/invoke/VarHandle" ∧ (parseMethodDescriptor mdX2_sell.2.1.desc).map (fun d => d.parameters.length) = some 3 := ⟨wsg_t (i := 905) (by decide +kernel) (by decide +kernel), wsg_t (i := 906) (by decide +kernel) (by decide +kernel), wsg_t (i := 11) (by decide +kernel) (by decide +kernel), wsg_t (i := 907) (by decide +kernel) (by decide +kernel), by decide +kernel, by decide +kernel, by decide +kernel⟩
set_option maxRecDepth 20000 in
theorem cv_X11_216 : CV RX11 216 mdX2_sell 3 := ⟨wsg_t (i := 904) (by decide +kernel) (by decide +kernel), kv_X2_sell⟩
set_option maxRecDepth 20000 in
theorem ks_X11_needFirm : Cond.static mdX11_needFirm.2.1 ∈ WSg ∧ Cond.initialized mdX11_needFirm.2.1.cls ∈ WSg ∧ Cond.code mdX11_needFirm.2.1 mdX11_needFirm.2.2.1 mdX11_needFirm.2.2.2.1 mdX11_needFirm.2.2.2.2.1 ∈ WSg ∧ mdX11_needFirm.2.1.cls ≠ "java/lang/invoke/MethodHandle" ∧ mdX11_needFirm.2.1.cls ≠ "java/lang/invoke/VarHandle" ∧ (parseMethodDescriptor mdX11_needFirm.2.1.desc).map (fun d => d.parameters.length) = some 1 := ⟨wsg_t (i := 937) (by decide +kernel) (by decide +kernel), wsg_t (i := 1) (by decide +kernel) (by decide +kernel), wsg_t (i := 938) (by decide +kernel) (by decide +kernel), by decide +kernel, by decide +kernel, by decide +kernel⟩
set_option maxRecDepth 20000 in
theorem cs_X11_226 : CS RX11 226 mdX11_needFirm 1 := ⟨wsg_t (i := 936) (by decide +kernel) (by decide +kernel), ks_X11_needFirm⟩
set_option maxRecDepth 20000 in
theorem ks_X11_needHousehold : Cond.static mdX11_needHousehold.2.1 ∈ WSg ∧ Cond.initialized mdX11_needHousehold.2.1.cls ∈ WSg ∧ Cond.code mdX11_needHousehold.2.1 mdX11_needHousehold.2.2.1 mdX11_needHousehold.2.2.2.1 mdX11_needHousehold.2.2.2.2.1 ∈ WSg ∧ mdX11_needHousehold.2.1.cls ≠ "java/lang/invoke/MethodHandle" ∧ mdX11_needHousehold.2.1.cls ≠ "java/lang/invoke/VarHandle" ∧ (parseMethodDescriptor mdX11_needHousehold.2.1.desc).map (fun d => d.parameters.length) = some 1 := ⟨wsg_t (i := 947) (by decide +kernel) (by decide +kernel), wsg_t (i := 1) (by decide +kernel) (by decide +kernel), wsg_t (i := 948) (by decide +kernel) (by decide +kernel), by decide +kernel, by decide +kernel, by decide +kernel⟩
set_option maxRecDepth 20000 in
theorem cs_X11_235 : CS RX11 235 mdX11_needHousehold 1 := ⟨wsg_t (i := 946) (by decide +kernel) (by decide +kernel), ks_X11_needHousehold⟩
set_option maxRecDepth 20000 in
theorem kv_X11_passDay : Cond.instanceMethod mdX11_passDay.2.1 ∈ WSg ∧ Cond.selects mdX11_passDay.2.1.cls mdX11_passDay.2.1 mdX11_passDay.2.1 ∈ WSg ∧ Cond.initialized mdX11_passDay.2.1.cls ∈ WSg ∧ Cond.code mdX11_passDay.2.1 mdX11_passDay.2.2.1 mdX11_passDay.2.2.2.1 mdX11_passDay.2.2.2.2.1 ∈ WSg ∧ mdX11_passDay.2.1.cls ≠ "java/lang/invoke/MethodHandle" ∧ mdX11_passDay.2.1.cls ≠ "java/lang/invoke/VarHandle" ∧ (parseMethodDescriptor mdX11_passDay.2.1.desc).map (fun d => d.parameters.length) = some 0 := ⟨wsg_t (i := 965) (by decide +kernel) (by decide +kernel), wsg_in (List.mem_append_left _ (List.mem_of_getElem? (i := 16) (by decide +kernel))) (by decide +kernel), wsg_t (i := 1) (by decide +kernel) (by decide +kernel), wsg_t (i := 966) (by decide +kernel) (by decide +kernel), by decide +kernel, by decide +kernel, by decide +kernel⟩
set_option maxRecDepth 20000 in
theorem cv_X11_250 : CV RX11 250 mdX11_passDay 0 := ⟨wsg_t (i := 963) (by decide +kernel) (by decide +kernel), kv_X11_passDay⟩
set_option maxRecDepth 20000 in
theorem kv_X3_banksThatStand : Cond.instanceMethod mdX3_banksThatStand.2.1 ∈ WSg ∧ Cond.selects mdX3_banksThatStand.2.1.cls mdX3_banksThatStand.2.1 mdX3_banksThatStand.2.1 ∈ WSg ∧ Cond.initialized mdX3_banksThatStand.2.1.cls ∈ WSg ∧ Cond.code mdX3_banksThatStand.2.1 mdX3_banksThatStand.2.2.1 mdX3_banksThatStand.2.2.2.1 mdX3_banksThatStand.2.2.2.2.1 ∈ WSg ∧ mdX3_banksThatStand.2.1.cls ≠ "java/lang/invoke/MethodHandle" ∧ mdX3_banksThatStand.2.1.cls ≠ "java/lang/invoke/VarHandle" ∧ (parseMethodDescriptor mdX3_banksThatStand.2.1.desc).map (fun d => d.parameters.length) = some 0 := ⟨wsg_t (i := 1030) (by decide +kernel) (by decide +kernel), wsg_t (i := 1031) (by decide +kernel) (by decide +kernel), wsg_t (i := 2) (by decide +kernel) (by decide +kernel), wsg_t (i := 1032) (by decide +kernel) (by decide +kernel), by decide +kernel, by decide +kernel, by decide +kernel⟩
set_option maxRecDepth 20000 in
theorem cv_X11_253 : CV RX11 253 mdX3_banksThatStand 0 := ⟨wsg_t (i := 1029) (by decide +kernel) (by decide +kernel), kv_X3_banksThatStand⟩
set_option maxRecDepth 20000 in
theorem kv_X8_sumOf : Cond.instanceMethod mdX8_sumOf.2.1 ∈ WSg ∧ Cond.selects mdX8_sumOf.2.1.cls mdX8_sumOf.2.1 mdX8_sumOf.2.1 ∈ WSg ∧ Cond.initialized mdX8_sumOf.2.1.cls ∈ WSg ∧ Cond.code mdX8_sumOf.2.1 mdX8_sumOf.2.2.1 mdX8_sumOf.2.2.2.1 mdX8_sumOf.2.2.2.2.1 ∈ WSg ∧ mdX8_sumOf.2.1.cls ≠ "java/lang/invoke/MethodHandle" ∧ mdX8_sumOf.2.1.cls ≠ "java/lang/invoke/VarHandle" ∧ (parseMethodDescriptor mdX8_sumOf.2.1.desc).map (fun d => d.parameters.length) = some 1 := ⟨wsg_t (i := 478) (by decide +kernel) (by decide +kernel), wsg_t (i := 479) (by decide +kernel) (by decide +kernel), wsg_t (i := 4) (by decide +kernel) (by decide +kernel), wsg_t (i := 480) (by decide +kernel) (by decide +kernel), by decide +kernel, by decide +kernel, by decide +kernel⟩
set_option maxRecDepth 20000 in
theorem cv_X11_266 : CV RX11 266 mdX8_sumOf 1 := ⟨wsg_t (i := 477) (by decide +kernel) (by decide +kernel), kv_X8_sumOf⟩
set_option maxRecDepth 20000 in
theorem kv_X3_inAccountsAt : Cond.instanceMethod mdX3_inAccountsAt.2.1 ∈ WSg ∧ Cond.selects mdX3_inAccountsAt.2.1.cls mdX3_inAccountsAt.2.1 mdX3_inAccountsAt.2.1 ∈ WSg ∧ Cond.initialized mdX3_inAccountsAt.2.1.cls ∈ WSg ∧ Cond.code mdX3_inAccountsAt.2.1 mdX3_inAccountsAt.2.2.1 mdX3_inAccountsAt.2.2.2.1 mdX3_inAccountsAt.2.2.2.2.1 ∈ WSg ∧ mdX3_inAccountsAt.2.1.cls ≠ "java/lang/invoke/MethodHandle" ∧ mdX3_inAccountsAt.2.1.cls ≠ "java/lang/invoke/VarHandle" ∧ (parseMethodDescriptor mdX3_inAccountsAt.2.1.desc).map (fun d => d.parameters.length) = some 1 := ⟨wsg_t (i := 800) (by decide +kernel) (by decide +kernel), wsg_t (i := 801) (by decide +kernel) (by decide +kernel), wsg_t (i := 2) (by decide +kernel) (by decide +kernel), wsg_t (i := 802) (by decide +kernel) (by decide +kernel), by decide +kernel, by decide +kernel, by decide +kernel⟩
set_option maxRecDepth 20000 in
theorem cv_X11_271 : CV RX11 271 mdX3_inAccountsAt 1 := ⟨wsg_t (i := 799) (by decide +kernel) (by decide +kernel), kv_X3_inAccountsAt⟩
set_option maxRecDepth 20000 in
theorem kv_X10_waitingNet : Cond.instanceMethod mdX10_waitingNet.2.1 ∈ WSg ∧ Cond.selects mdX10_waitingNet.2.1.cls mdX10_waitingNet.2.1 mdX10_waitingNet.2.1 ∈ WSg ∧ Cond.initialized mdX10_waitingNet.2.1.cls ∈ WSg ∧ Cond.code mdX10_waitingNet.2.1 mdX10_waitingNet.2.2.1 mdX10_waitingNet.2.2.2.1 mdX10_waitingNet.2.2.2.2.1 ∈ WSg ∧ mdX10_waitingNet.2.1.cls ≠ "java/lang/invoke/MethodHandle" ∧ mdX10_waitingNet.2.1.cls ≠ "java/lang/invoke/VarHandle" ∧ (parseMethodDescriptor mdX10_waitingNet.2.1.desc).map (fun d => d.parameters.length) = some 1 := ⟨wsg_t (i := 1062) (by decide +kernel) (by decide +kernel), wsg_t (i := 1063) (by decide +kernel) (by decide +kernel), wsg_t (i := 7) (by decide +kernel) (by decide +kernel), wsg_t (i := 1064) (by decide +kernel) (by decide +kernel), by decide +kernel, by decide +kernel, by decide +kernel⟩
set_option maxRecDepth 20000 in
theorem cv_X11_274 : CV RX11 274 mdX10_waitingNet 1 := ⟨wsg_t (i := 1061) (by decide +kernel) (by decide +kernel), kv_X10_waitingNet⟩
set_option maxRecDepth 20000 in
theorem ks_X11_needIndex : Cond.static mdX11_needIndex.2.1 ∈ WSg ∧ Cond.initialized mdX11_needIndex.2.1.cls ∈ WSg ∧ Cond.code mdX11_needIndex.2.1 mdX11_needIndex.2.2.1 mdX11_needIndex.2.2.2.1 mdX11_needIndex.2.2.2.2.1 ∈ WSg ∧ mdX11_needIndex.2.1.cls ≠ "java/lang/invoke/MethodHandle" ∧ mdX11_needIndex.2.1.cls ≠ "java/lang/invoke/VarHandle" ∧ (parseMethodDescriptor mdX11_needIndex.2.1.desc).map (fun d => d.parameters.length) = some 1 := ⟨wsg_t (i := 499) (by decide +kernel) (by decide +kernel), wsg_t (i := 1) (by decide +kernel) (by decide +kernel), wsg_t (i := 500) (by decide +kernel) (by decide +kernel), by decide +kernel, by decide +kernel, by decide +kernel⟩
set_option maxRecDepth 20000 in
theorem cs_X11_291 : CS RX11 291 mdX11_needIndex 1 := ⟨wsg_t (i := 498) (by decide +kernel) (by decide +kernel), ks_X11_needIndex⟩
set_option maxRecDepth 20000 in
theorem kv_X10_at : Cond.instanceMethod mdX10_at.2.1 ∈ WSg ∧ Cond.selects mdX10_at.2.1.cls mdX10_at.2.1 mdX10_at.2.1 ∈ WSg ∧ Cond.initialized mdX10_at.2.1.cls ∈ WSg ∧ Cond.code mdX10_at.2.1 mdX10_at.2.2.1 mdX10_at.2.2.2.1 mdX10_at.2.2.2.2.1 ∈ WSg ∧ mdX10_at.2.1.cls ≠ "java/lang/invoke/MethodHandle" ∧ mdX10_at.2.1.cls ≠ "java/lang/invoke/VarHandle" ∧ (parseMethodDescriptor mdX10_at.2.1.desc).map (fun d => d.parameters.length) = some 1 := ⟨wsg_t (i := 392) (by decide +kernel) (by decide +kernel), wsg_t (i := 393) (by decide +kernel) (by decide +kernel), wsg_t (i := 7) (by decide +kernel) (by decide +kernel), wsg_t (i := 394) (by decide +kernel) (by decide +kernel), by decide +kernel, by decide +kernel, by decide +kernel⟩
set_option maxRecDepth 20000 in
theorem cv_X11_294 : CV RX11 294 mdX10_at 1 := ⟨wsg_t (i := 1083) (by decide +kernel) (by decide +kernel), kv_X10_at⟩
set_option maxRecDepth 20000 in
theorem kv_X3_goodNotesOfHolders : Cond.instanceMethod mdX3_goodNotesOfHolders.2.1 ∈ WSg ∧ Cond.selects mdX3_goodNotesOfHolders.2.1.cls mdX3_goodNotesOfHolders.2.1 mdX3_goodNotesOfHolders.2.1 ∈ WSg ∧ Cond.initialized mdX3_goodNotesOfHolders.2.1.cls ∈ WSg ∧ Cond.code mdX3_goodNotesOfHolders.2.1 mdX3_goodNotesOfHolders.2.2.1 mdX3_goodNotesOfHolders.2.2.2.1 mdX3_goodNotesOfHolders.2.2.2.2.1 ∈ WSg ∧ mdX3_goodNotesOfHolders.2.1.cls ≠ "java/lang/invoke/MethodHandle" ∧ mdX3_goodNotesOfHolders.2.1.cls ≠ "java/lang/invoke/VarHandle" ∧ (parseMethodDescriptor mdX3_goodNotesOfHolders.2.1.desc).map (fun d => d.parameters.length) = some 0 := ⟨wsg_t (i := 469) (by decide +kernel) (by decide +kernel), wsg_t (i := 470) (by decide +kernel) (by decide +kernel), wsg_t (i := 2) (by decide +kernel) (by decide +kernel), wsg_t (i := 471) (by decide +kernel) (by decide +kernel), by decide +kernel, by decide +kernel, by decide +kernel⟩
set_option maxRecDepth 20000 in
theorem cv_X11_302 : CV RX11 302 mdX3_goodNotesOfHolders 0 := ⟨wsg_t (i := 468) (by decide +kernel) (by decide +kernel), kv_X3_goodNotesOfHolders⟩
set_option maxRecDepth 20000 in
theorem kv_X10_goodsBoughtOn : Cond.instanceMethod mdX10_goodsBoughtOn.2.1 ∈ WSg ∧ Cond.selects mdX10_goodsBoughtOn.2.1.cls mdX10_goodsBoughtOn.2.1 mdX10_goodsBoughtOn.2.1 ∈ WSg ∧ Cond.initialized mdX10_goodsBoughtOn.2.1.cls ∈ WSg ∧ Cond.code mdX10_goodsBoughtOn.2.1 mdX10_goodsBoughtOn.2.2.1 mdX10_goodsBoughtOn.2.2.2.1 mdX10_goodsBoughtOn.2.2.2.2.1 ∈ WSg ∧ mdX10_goodsBoughtOn.2.1.cls ≠ "java/lang/invoke/MethodHandle" ∧ mdX10_goodsBoughtOn.2.1.cls ≠ "java/lang/invoke/VarHandle" ∧ (parseMethodDescriptor mdX10_goodsBoughtOn.2.1.desc).map (fun d => d.parameters.length) = some 2 := ⟨wsg_t (i := 1099) (by decide +kernel) (by decide +kernel), wsg_t (i := 1100) (by decide +kernel) (by decide +kernel), wsg_t (i := 7) (by decide +kernel) (by decide +kernel), wsg_t (i := 1101) (by decide +kernel) (by decide +kernel), by decide +kernel, by decide +kernel, by decide +kernel⟩
set_option maxRecDepth 20000 in
theorem cv_X11_305 : CV RX11 305 mdX10_goodsBoughtOn 2 := ⟨wsg_t (i := 1098) (by decide +kernel) (by decide +kernel), kv_X10_goodsBoughtOn⟩
set_option maxRecDepth 20000 in
theorem kv_X10_isFull : Cond.instanceMethod mdX10_isFull.2.1 ∈ WSg ∧ Cond.selects mdX10_isFull.2.1.cls mdX10_isFull.2.1 mdX10_isFull.2.1 ∈ WSg ∧ Cond.initialized mdX10_isFull.2.1.cls ∈ WSg ∧ Cond.code mdX10_isFull.2.1 mdX10_isFull.2.2.1 mdX10_isFull.2.2.2.1 mdX10_isFull.2.2.2.2.1 ∈ WSg ∧ mdX10_isFull.2.1.cls ≠ "java/lang/invoke/MethodHandle" ∧ mdX10_isFull.2.1.cls ≠ "java/lang/invoke/VarHandle" ∧ (parseMethodDescriptor mdX10_isFull.2.1.desc).map (fun d => d.parameters.length) = some 0 := ⟨wsg_t (i := 763) (by decide +kernel) (by decide +kernel), wsg_t (i := 764) (by decide +kernel) (by decide +kernel), wsg_t (i := 7) (by decide +kernel) (by decide +kernel), wsg_t (i := 765) (by decide +kernel) (by decide +kernel), by decide +kernel, by decide +kernel, by decide +kernel⟩
set_option maxRecDepth 20000 in
theorem cv_X11_327 : CV RX11 327 mdX10_isFull 0 := ⟨wsg_t (i := 762) (by decide +kernel) (by decide +kernel), kv_X10_isFull⟩
set_option maxRecDepth 20000 in
theorem mm_X11_332 : Cond.methodLink RX11 332 Lib.Math.min.name ∈ WSg ∧ Cond.static Lib.Math.min.name ∈ WSg ∧ Cond.initialized "java/lang/Math" ∈ WSg ∧ Cond.code Lib.Math.min.name Lib.Math.min.code 2 (some .int) ∈ WSg := ⟨wsg_t (i := 688) (by decide +kernel) (by decide +kernel), wsg_t (i := 405) (by decide +kernel) (by decide +kernel), wsg_t (i := 20) (by decide +kernel) (by decide +kernel), wsg_t (i := 406) (by decide +kernel) (by decide +kernel)⟩
set_option maxRecDepth 20000 in
theorem kv_X5_markDrawn : Cond.instanceMethod mdX5_markDrawn.2.1 ∈ WSg ∧ Cond.selects mdX5_markDrawn.2.1.cls mdX5_markDrawn.2.1 mdX5_markDrawn.2.1 ∈ WSg ∧ Cond.initialized mdX5_markDrawn.2.1.cls ∈ WSg ∧ Cond.code mdX5_markDrawn.2.1 mdX5_markDrawn.2.2.1 mdX5_markDrawn.2.2.2.1 mdX5_markDrawn.2.2.2.2.1 ∈ WSg ∧ mdX5_markDrawn.2.1.cls ≠ "java/lang/invoke/MethodHandle" ∧ mdX5_markDrawn.2.1.cls ≠ "java/lang/invoke/VarHandle" ∧ (parseMethodDescriptor mdX5_markDrawn.2.1.desc).map (fun d => d.parameters.length) = some 2 := ⟨wsg_t (i := 690) (by decide +kernel) (by decide +kernel), wsg_t (i := 691) (by decide +kernel) (by decide +kernel), wsg_t (i := 5) (by decide +kernel) (by decide +kernel), wsg_t (i := 692) (by decide +kernel) (by decide +kernel), by decide +kernel, by decide +kernel, by decide +kernel⟩
set_option maxRecDepth 20000 in
theorem cv_X11_337 : CV RX11 337 mdX5_markDrawn 2 := ⟨wsg_t (i := 689) (by decide +kernel) (by decide +kernel), kv_X5_markDrawn⟩
set_option maxRecDepth 20000 in
theorem kv_X10_takeBack : Cond.instanceMethod mdX10_takeBack.2.1 ∈ WSg ∧ Cond.selects mdX10_takeBack.2.1.cls mdX10_takeBack.2.1 mdX10_takeBack.2.1 ∈ WSg ∧ Cond.initialized mdX10_takeBack.2.1.cls ∈ WSg ∧ Cond.code mdX10_takeBack.2.1 mdX10_takeBack.2.2.1 mdX10_takeBack.2.2.2.1 mdX10_takeBack.2.2.2.2.1 ∈ WSg ∧ mdX10_takeBack.2.1.cls ≠ "java/lang/invoke/MethodHandle" ∧ mdX10_takeBack.2.1.cls ≠ "java/lang/invoke/VarHandle" ∧ (parseMethodDescriptor mdX10_takeBack.2.1.desc).map (fun d => d.parameters.length) = some 2 := ⟨wsg_t (i := 698) (by decide +kernel) (by decide +kernel), wsg_t (i := 699) (by decide +kernel) (by decide +kernel), wsg_t (i := 7) (by decide +kernel) (by decide +kernel), wsg_t (i := 700) (by decide +kernel) (by decide +kernel), by decide +kernel, by decide +kernel, by decide +kernel⟩
set_option maxRecDepth 20000 in
theorem cv_X11_340 : CV RX11 340 mdX10_takeBack 2 := ⟨wsg_t (i := 697) (by decide +kernel) (by decide +kernel), kv_X10_takeBack⟩
set_option maxRecDepth 20000 in
theorem kv_X2_dropBids : Cond.instanceMethod mdX2_dropBids.2.1 ∈ WSg ∧ Cond.selects mdX2_dropBids.2.1.cls mdX2_dropBids.2.1 mdX2_dropBids.2.1 ∈ WSg ∧ Cond.initialized mdX2_dropBids.2.1.cls ∈ WSg ∧ Cond.code mdX2_dropBids.2.1 mdX2_dropBids.2.2.1 mdX2_dropBids.2.2.2.1 mdX2_dropBids.2.2.2.2.1 ∈ WSg ∧ mdX2_dropBids.2.1.cls ≠ "java/lang/invoke/MethodHandle" ∧ mdX2_dropBids.2.1.cls ≠ "java/lang/invoke/VarHandle" ∧ (parseMethodDescriptor mdX2_dropBids.2.1.desc).map (fun d => d.parameters.length) = some 1 := ⟨wsg_t (i := 702) (by decide +kernel) (by decide +kernel), wsg_t (i := 703) (by decide +kernel) (by decide +kernel), wsg_t (i := 11) (by decide +kernel) (by decide +kernel), wsg_t (i := 704) (by decide +kernel) (by decide +kernel), by decide +kernel, by decide +kernel, by decide +kernel⟩
set_option maxRecDepth 20000 in
theorem cv_X11_344 : CV RX11 344 mdX2_dropBids 1 := ⟨wsg_t (i := 701) (by decide +kernel) (by decide +kernel), kv_X2_dropBids⟩
set_option maxRecDepth 20000 in
theorem kv_X7_moveToCentral : Cond.instanceMethod mdX7_moveToCentral.2.1 ∈ WSg ∧ Cond.selects mdX7_moveToCentral.2.1.cls mdX7_moveToCentral.2.1 mdX7_moveToCentral.2.1 ∈ WSg ∧ Cond.initialized mdX7_moveToCentral.2.1.cls ∈ WSg ∧ Cond.code mdX7_moveToCentral.2.1 mdX7_moveToCentral.2.2.1 mdX7_moveToCentral.2.2.2.1 mdX7_moveToCentral.2.2.2.2.1 ∈ WSg ∧ mdX7_moveToCentral.2.1.cls ≠ "java/lang/invoke/MethodHandle" ∧ mdX7_moveToCentral.2.1.cls ≠ "java/lang/invoke/VarHandle" ∧ (parseMethodDescriptor mdX7_moveToCentral.2.1.desc).map (fun d => d.parameters.length) = some 1 := ⟨wsg_t (i := 724) (by decide +kernel) (by decide +kernel), wsg_t (i := 725) (by decide +kernel) (by decide +kernel), wsg_t (i := 9) (by decide +kernel) (by decide +kernel), wsg_t (i := 726) (by decide +kernel) (by decide +kernel), by decide +kernel, by decide +kernel, by decide +kernel⟩
set_option maxRecDepth 20000 in
theorem cv_X11_347 : CV RX11 347 mdX7_moveToCentral 1 := ⟨wsg_t (i := 723) (by decide +kernel) (by decide +kernel), kv_X7_moveToCentral⟩
set_option maxRecDepth 20000 in
theorem kv_X0_end : Cond.instanceMethod mdX0_end.2.1 ∈ WSg ∧ Cond.selects mdX0_end.2.1.cls mdX0_end.2.1 mdX0_end.2.1 ∈ WSg ∧ Cond.initialized mdX0_end.2.1.cls ∈ WSg ∧ Cond.code mdX0_end.2.1 mdX0_end.2.2.1 mdX0_end.2.2.2.1 mdX0_end.2.2.2.2.1 ∈ WSg ∧ mdX0_end.2.1.cls ≠ "java/lang/invoke/MethodHandle" ∧ mdX0_end.2.1.cls ≠ "java/lang/invoke/VarHandle" ∧ (parseMethodDescriptor mdX0_end.2.1.desc).map (fun d => d.parameters.length) = some 0 := ⟨wsg_t (i := 728) (by decide +kernel) (by decide +kernel), wsg_t (i := 729) (by decide +kernel) (by decide +kernel), wsg_t (i := 6) (by decide +kernel) (by decide +kernel), wsg_t (i := 730) (by decide +kernel) (by decide +kernel), by decide +kernel, by decide +kernel, by decide +kernel⟩
set_option maxRecDepth 20000 in
theorem cv_X11_349 : CV RX11 349 mdX0_end 0 := ⟨wsg_t (i := 727) (by decide +kernel) (by decide +kernel), kv_X0_end⟩
set_option maxRecDepth 20000 in
theorem kv_X3_payOut : Cond.instanceMethod mdX3_payOut.2.1 ∈ WSg ∧ Cond.selects mdX3_payOut.2.1.cls mdX3_payOut.2.1 mdX3_payOut.2.1 ∈ WSg ∧ Cond.initialized mdX3_payOut.2.1.cls ∈ WSg ∧ Cond.code mdX3_payOut.2.1 mdX3_payOut.2.2.1 mdX3_payOut.2.2.2.1 mdX3_payOut.2.2.2.2.1 ∈ WSg ∧ mdX3_payOut.2.1.cls ≠ "java/lang/invoke/MethodHandle" ∧ mdX3_payOut.2.1.cls ≠ "java/lang/invoke/VarHandle" ∧ (parseMethodDescriptor mdX3_payOut.2.1.desc).map (fun d => d.parameters.length) = some 2 := ⟨wsg_t (i := 732) (by decide +kernel) (by decide +kernel), wsg_t (i := 733) (by decide +kernel) (by decide +kernel), wsg_t (i := 2) (by decide +kernel) (by decide +kernel), wsg_t (i := 734) (by decide +kernel) (by decide +kernel), by decide +kernel, by decide +kernel, by decide +kernel⟩
set_option maxRecDepth 20000 in
theorem cv_X11_352 : CV RX11 352 mdX3_payOut 2 := ⟨wsg_t (i := 731) (by decide +kernel) (by decide +kernel), kv_X3_payOut⟩
set_option maxRecDepth 20000 in
theorem kv_X11_payWages : Cond.instanceMethod mdX11_payWages.2.1 ∈ WSg ∧ Cond.selects mdX11_payWages.2.1.cls mdX11_payWages.2.1 mdX11_payWages.2.1 ∈ WSg ∧ Cond.initialized mdX11_payWages.2.1.cls ∈ WSg ∧ Cond.code mdX11_payWages.2.1 mdX11_payWages.2.2.1 mdX11_payWages.2.2.2.1 mdX11_payWages.2.2.2.2.1 ∈ WSg ∧ mdX11_payWages.2.1.cls ≠ "java/lang/invoke/MethodHandle" ∧ mdX11_payWages.2.1.cls ≠ "java/lang/invoke/VarHandle" ∧ (parseMethodDescriptor mdX11_payWages.2.1.desc).map (fun d => d.parameters.length) = some 0 := ⟨wsg_t (i := 969) (by decide +kernel) (by decide +kernel), wsg_in (List.mem_append_left _ (List.mem_of_getElem? (i := 17) (by decide +kernel))) (by decide +kernel), wsg_t (i := 1) (by decide +kernel) (by decide +kernel), wsg_t (i := 970) (by decide +kernel) (by decide +kernel), by decide +kernel, by decide +kernel, by decide +kernel⟩
set_option maxRecDepth 20000 in
theorem cv_X11_355 : CV RX11 355 mdX11_payWages 0 := ⟨wsg_t (i := 967) (by decide +kernel) (by decide +kernel), kv_X11_payWages⟩
set_option maxRecDepth 20000 in
theorem kv_X11_takeInterest : Cond.instanceMethod mdX11_takeInterest.2.1 ∈ WSg ∧ Cond.selects mdX11_takeInterest.2.1.cls mdX11_takeInterest.2.1 mdX11_takeInterest.2.1 ∈ WSg ∧ Cond.initialized mdX11_takeInterest.2.1.cls ∈ WSg ∧ Cond.code mdX11_takeInterest.2.1 mdX11_takeInterest.2.2.1 mdX11_takeInterest.2.2.2.1 mdX11_takeInterest.2.2.2.2.1 ∈ WSg ∧ mdX11_takeInterest.2.1.cls ≠ "java/lang/invoke/MethodHandle" ∧ mdX11_takeInterest.2.1.cls ≠ "java/lang/invoke/VarHandle" ∧ (parseMethodDescriptor mdX11_takeInterest.2.1.desc).map (fun d => d.parameters.length) = some 0 := ⟨wsg_t (i := 973) (by decide +kernel) (by decide +kernel), wsg_in (List.mem_append_left _ (List.mem_of_getElem? (i := 18) (by decide +kernel))) (by decide +kernel), wsg_t (i := 1) (by decide +kernel) (by decide +kernel), wsg_t (i := 974) (by decide +kernel) (by decide +kernel), by decide +kernel, by decide +kernel, by decide +kernel⟩
set_option maxRecDepth 20000 in
theorem cv_X11_358 : CV RX11 358 mdX11_takeInterest 0 := ⟨wsg_t (i := 971) (by decide +kernel) (by decide +kernel), kv_X11_takeInterest⟩
set_option maxRecDepth 20000 in
theorem kv_X11_takeInterestOfBanks : Cond.instanceMethod mdX11_takeInterestOfBanks.2.1 ∈ WSg ∧ Cond.selects mdX11_takeInterestOfBanks.2.1.cls mdX11_takeInterestOfBanks.2.1 mdX11_takeInterestOfBanks.2.1 ∈ WSg ∧ Cond.initialized mdX11_takeInterestOfBanks.2.1.cls ∈ WSg ∧ Cond.code mdX11_takeInterestOfBanks.2.1 mdX11_takeInterestOfBanks.2.2.1 mdX11_takeInterestOfBanks.2.2.2.1 mdX11_takeInterestOfBanks.2.2.2.2.1 ∈ WSg ∧ mdX11_takeInterestOfBanks.2.1.cls ≠ "java/lang/invoke/MethodHandle" ∧ mdX11_takeInterestOfBanks.2.1.cls ≠ "java/lang/invoke/VarHandle" ∧ (parseMethodDescriptor mdX11_takeInterestOfBanks.2.1.desc).map (fun d => d.parameters.length) = some 0 := ⟨wsg_t (i := 985) (by decide +kernel) (by decide +kernel), wsg_in (List.mem_append_left _ (List.mem_of_getElem? (i := 21) (by decide +kernel))) (by decide +kernel), wsg_t (i := 1) (by decide +kernel) (by decide +kernel), wsg_t (i := 986) (by decide +kernel) (by decide +kernel), by decide +kernel, by decide +kernel, by decide +kernel⟩
set_option maxRecDepth 20000 in
theorem cv_X11_361 : CV RX11 361 mdX11_takeInterestOfBanks 0 := ⟨wsg_t (i := 983) (by decide +kernel) (by decide +kernel), kv_X11_takeInterestOfBanks⟩
set_option maxRecDepth 20000 in
theorem kv_X2_payDue : Cond.instanceMethod mdX2_payDue.2.1 ∈ WSg ∧ Cond.selects mdX2_payDue.2.1.cls mdX2_payDue.2.1 mdX2_payDue.2.1 ∈ WSg ∧ Cond.initialized mdX2_payDue.2.1.cls ∈ WSg ∧ Cond.code mdX2_payDue.2.1 mdX2_payDue.2.2.1 mdX2_payDue.2.2.2.1 mdX2_payDue.2.2.2.2.1 ∈ WSg ∧ mdX2_payDue.2.1.cls ≠ "java/lang/invoke/MethodHandle" ∧ mdX2_payDue.2.1.cls ≠ "java/lang/invoke/VarHandle" ∧ (parseMethodDescriptor mdX2_payDue.2.1.desc).map (fun d => d.parameters.length) = some 2 := ⟨wsg_t (i := 988) (by decide +kernel) (by decide +kernel), wsg_t (i := 989) (by decide +kernel) (by decide +kernel), wsg_t (i := 11) (by decide +kernel) (by decide +kernel), wsg_t (i := 990) (by decide +kernel) (by decide +kernel), by decide +kernel, by decide +kernel, by decide +kernel⟩
set_option maxRecDepth 20000 in
theorem cv_X11_364 : CV RX11 364 mdX2_payDue 2 := ⟨wsg_t (i := 987) (by decide +kernel) (by decide +kernel), kv_X2_payDue⟩
set_option maxRecDepth 20000 in
theorem kv_X11_askForReserves : Cond.instanceMethod mdX11_askForReserves.2.1 ∈ WSg ∧ Cond.selects mdX11_askForReserves.2.1.cls mdX11_askForReserves.2.1 mdX11_askForReserves.2.1 ∈ WSg ∧ Cond.initialized mdX11_askForReserves.2.1.cls ∈ WSg ∧ Cond.code mdX11_askForReserves.2.1 mdX11_askForReserves.2.2.1 mdX11_askForReserves.2.2.2.1 mdX11_askForReserves.2.2.2.2.1 ∈ WSg ∧ mdX11_askForReserves.2.1.cls ≠ "java/lang/invoke/MethodHandle" ∧ mdX11_askForReserves.2.1.cls ≠ "java/lang/invoke/VarHandle" ∧ (parseMethodDescriptor mdX11_askForReserves.2.1.desc).map (fun d => d.parameters.length) = some 0 := ⟨wsg_t (i := 997) (by decide +kernel) (by decide +kernel), wsg_in (List.mem_append_left _ (List.mem_of_getElem? (i := 23) (by decide +kernel))) (by decide +kernel), wsg_t (i := 1) (by decide +kernel) (by decide +kernel), wsg_t (i := 998) (by decide +kernel) (by decide +kernel), by decide +kernel, by decide +kernel, by decide +kernel⟩
set_option maxRecDepth 20000 in
theorem cv_X11_367 : CV RX11 367 mdX11_askForReserves 0 := ⟨wsg_t (i := 995) (by decide +kernel) (by decide +kernel), kv_X11_askForReserves⟩
set_option maxRecDepth 20000 in
theorem kv_X11_runOnBanks : Cond.instanceMethod mdX11_runOnBanks.2.1 ∈ WSg ∧ Cond.selects mdX11_runOnBanks.2.1.cls mdX11_runOnBanks.2.1 mdX11_runOnBanks.2.1 ∈ WSg ∧ Cond.initialized mdX11_runOnBanks.2.1.cls ∈ WSg ∧ Cond.code mdX11_runOnBanks.2.1 mdX11_runOnBanks.2.2.1 mdX11_runOnBanks.2.2.2.1 mdX11_runOnBanks.2.2.2.2.1 ∈ WSg ∧ mdX11_runOnBanks.2.1.cls ≠ "java/lang/invoke/MethodHandle" ∧ mdX11_runOnBanks.2.1.cls ≠ "java/lang/invoke/VarHandle" ∧ (parseMethodDescriptor mdX11_runOnBanks.2.1.desc).map (fun d => d.parameters.length) = some 0 := ⟨wsg_t (i := 1003) (by decide +kernel) (by decide +kernel), wsg_in (List.mem_append_left _ (List.mem_of_getElem? (i := 24) (by decide +kernel))) (by decide +kernel), wsg_t (i := 1) (by decide +kernel) (by decide +kernel), wsg_t (i := 1004) (by decide +kernel) (by decide +kernel), by decide +kernel, by decide +kernel, by decide +kernel⟩
set_option maxRecDepth 20000 in
theorem cv_X11_370 : CV RX11 370 mdX11_runOnBanks 0 := ⟨wsg_t (i := 1001) (by decide +kernel) (by decide +kernel), kv_X11_runOnBanks⟩
set_option maxRecDepth 20000 in
theorem kv_X11_failBanksWithoutCapital : Cond.instanceMethod mdX11_failBanksWithoutCapital.2.1 ∈ WSg ∧ Cond.selects mdX11_failBanksWithoutCapital.2.1.cls mdX11_failBanksWithoutCapital.2.1 mdX11_failBanksWithoutCapital.2.1 ∈ WSg ∧ Cond.initialized mdX11_failBanksWithoutCapital.2.1.cls ∈ WSg ∧ Cond.code mdX11_failBanksWithoutCapital.2.1 mdX11_failBanksWithoutCapital.2.2.1 mdX11_failBanksWithoutCapital.2.2.2.1 mdX11_failBanksWithoutCapital.2.2.2.2.1 ∈ WSg ∧ mdX11_failBanksWithoutCapital.2.1.cls ≠ "java/lang/invoke/MethodHandle" ∧ mdX11_failBanksWithoutCapital.2.1.cls ≠ "java/lang/invoke/VarHandle" ∧ (parseMethodDescriptor mdX11_failBanksWithoutCapital.2.1.desc).map (fun d => d.parameters.length) = some 0 := ⟨wsg_t (i := 1019) (by decide +kernel) (by decide +kernel), wsg_in (List.mem_append_left _ (List.mem_of_getElem? (i := 27) (by decide +kernel))) (by decide +kernel), wsg_t (i := 1) (by decide +kernel) (by decide +kernel), wsg_t (i := 1020) (by decide +kernel) (by decide +kernel), by decide +kernel, by decide +kernel, by decide +kernel⟩
set_option maxRecDepth 20000 in
theorem cv_X11_373 : CV RX11 373 mdX11_failBanksWithoutCapital 0 := ⟨wsg_t (i := 1017) (by decide +kernel) (by decide +kernel), kv_X11_failBanksWithoutCapital⟩
set_option maxRecDepth 20000 in
theorem kv_X11_changePrices : Cond.instanceMethod mdX11_changePrices.2.1 ∈ WSg ∧ Cond.selects mdX11_changePrices.2.1.cls mdX11_changePrices.2.1 mdX11_changePrices.2.1 ∈ WSg ∧ Cond.initialized mdX11_changePrices.2.1.cls ∈ WSg ∧ Cond.code mdX11_changePrices.2.1 mdX11_changePrices.2.2.1 mdX11_changePrices.2.2.2.1 mdX11_changePrices.2.2.2.2.1 ∈ WSg ∧ mdX11_changePrices.2.1.cls ≠ "java/lang/invoke/MethodHandle" ∧ mdX11_changePrices.2.1.cls ≠ "java/lang/invoke/VarHandle" ∧ (parseMethodDescriptor mdX11_changePrices.2.1.desc).map (fun d => d.parameters.length) = some 0 := ⟨wsg_t (i := 1023) (by decide +kernel) (by decide +kernel), wsg_in (List.mem_append_left _ (List.mem_of_getElem? (i := 28) (by decide +kernel))) (by decide +kernel), wsg_t (i := 1) (by decide +kernel) (by decide +kernel), wsg_t (i := 1024) (by decide +kernel) (by decide +kernel), by decide +kernel, by decide +kernel, by decide +kernel⟩
set_option maxRecDepth 20000 in
theorem cv_X11_376 : CV RX11 376 mdX11_changePrices 0 := ⟨wsg_t (i := 1021) (by decide +kernel) (by decide +kernel), kv_X11_changePrices⟩
set_option maxRecDepth 20000 in
theorem kv_X11_changeExpectations : Cond.instanceMethod mdX11_changeExpectations.2.1 ∈ WSg ∧ Cond.selects mdX11_changeExpectations.2.1.cls mdX11_changeExpectations.2.1 mdX11_changeExpectations.2.1 ∈ WSg ∧ Cond.initialized mdX11_changeExpectations.2.1.cls ∈ WSg ∧ Cond.code mdX11_changeExpectations.2.1 mdX11_changeExpectations.2.2.1 mdX11_changeExpectations.2.2.2.1 mdX11_changeExpectations.2.2.2.2.1 ∈ WSg ∧ mdX11_changeExpectations.2.1.cls ≠ "java/lang/invoke/MethodHandle" ∧ mdX11_changeExpectations.2.1.cls ≠ "java/lang/invoke/VarHandle" ∧ (parseMethodDescriptor mdX11_changeExpectations.2.1.desc).map (fun d => d.parameters.length) = some 0 := ⟨wsg_t (i := 1027) (by decide +kernel) (by decide +kernel), wsg_in (List.mem_append_left _ (List.mem_of_getElem? (i := 29) (by decide +kernel))) (by decide +kernel), wsg_t (i := 1) (by decide +kernel) (by decide +kernel), wsg_t (i := 1028) (by decide +kernel) (by decide +kernel), by decide +kernel, by decide +kernel, by decide +kernel⟩
set_option maxRecDepth 20000 in
theorem cv_X11_379 : CV RX11 379 mdX11_changeExpectations 0 := ⟨wsg_t (i := 1025) (by decide +kernel) (by decide +kernel), kv_X11_changeExpectations⟩
set_option maxRecDepth 20000 in
theorem kv_X11_takeInterestOn : Cond.instanceMethod mdX11_takeInterestOn.2.1 ∈ WSg ∧ Cond.selects mdX11_takeInterestOn.2.1.cls mdX11_takeInterestOn.2.1 mdX11_takeInterestOn.2.1 ∈ WSg ∧ Cond.initialized mdX11_takeInterestOn.2.1.cls ∈ WSg ∧ Cond.code mdX11_takeInterestOn.2.1 mdX11_takeInterestOn.2.2.1 mdX11_takeInterestOn.2.2.2.1 mdX11_takeInterestOn.2.2.2.2.1 ∈ WSg ∧ mdX11_takeInterestOn.2.1.cls ≠ "java/lang/invoke/MethodHandle" ∧ mdX11_takeInterestOn.2.1.cls ≠ "java/lang/invoke/VarHandle" ∧ (parseMethodDescriptor mdX11_takeInterestOn.2.1.desc).map (fun d => d.parameters.length) = some 2 := ⟨wsg_t (i := 977) (by decide +kernel) (by decide +kernel), wsg_in (List.mem_append_left _ (List.mem_of_getElem? (i := 19) (by decide +kernel))) (by decide +kernel), wsg_t (i := 1) (by decide +kernel) (by decide +kernel), wsg_t (i := 978) (by decide +kernel) (by decide +kernel), by decide +kernel, by decide +kernel, by decide +kernel⟩
set_option maxRecDepth 20000 in
theorem cv_X11_383 : CV RX11 383 mdX11_takeInterestOn 2 := ⟨wsg_t (i := 975) (by decide +kernel) (by decide +kernel), kv_X11_takeInterestOn⟩
set_option maxRecDepth 20000 in
theorem kv_X11_missInterestOn : Cond.instanceMethod mdX11_missInterestOn.2.1 ∈ WSg ∧ Cond.selects mdX11_missInterestOn.2.1.cls mdX11_missInterestOn.2.1 mdX11_missInterestOn.2.1 ∈ WSg ∧ Cond.initialized mdX11_missInterestOn.2.1.cls ∈ WSg ∧ Cond.code mdX11_missInterestOn.2.1 mdX11_missInterestOn.2.2.1 mdX11_missInterestOn.2.2.2.1 mdX11_missInterestOn.2.2.2.2.1 ∈ WSg ∧ mdX11_missInterestOn.2.1.cls ≠ "java/lang/invoke/MethodHandle" ∧ mdX11_missInterestOn.2.1.cls ≠ "java/lang/invoke/VarHandle" ∧ (parseMethodDescriptor mdX11_missInterestOn.2.1.desc).map (fun d => d.parameters.length) = some 1 := ⟨wsg_t (i := 981) (by decide +kernel) (by decide +kernel), wsg_in (List.mem_append_left _ (List.mem_of_getElem? (i := 20) (by decide +kernel))) (by decide +kernel), wsg_t (i := 1) (by decide +kernel) (by decide +kernel), wsg_t (i := 982) (by decide +kernel) (by decide +kernel), by decide +kernel, by decide +kernel, by decide +kernel⟩
set_option maxRecDepth 20000 in
theorem cv_X11_386 : CV RX11 386 mdX11_missInterestOn 1 := ⟨wsg_t (i := 979) (by decide +kernel) (by decide +kernel), kv_X11_missInterestOn⟩
set_option maxRecDepth 20000 in
theorem ks_X11_percentRoundedUp : Cond.static mdX11_percentRoundedUp.2.1 ∈ WSg ∧ Cond.initialized mdX11_percentRoundedUp.2.1.cls ∈ WSg ∧ Cond.code mdX11_percentRoundedUp.2.1 mdX11_percentRoundedUp.2.2.1 mdX11_percentRoundedUp.2.2.2.1 mdX11_percentRoundedUp.2.2.2.2.1 ∈ WSg ∧ mdX11_percentRoundedUp.2.1.cls ≠ "java/lang/invoke/MethodHandle" ∧ mdX11_percentRoundedUp.2.1.cls ≠ "java/lang/invoke/VarHandle" ∧ (parseMethodDescriptor mdX11_percentRoundedUp.2.1.desc).map (fun d => d.parameters.length) = some 2 := ⟨wsg_t (i := 900) (by decide +kernel) (by decide +kernel), wsg_t (i := 1) (by decide +kernel) (by decide +kernel), wsg_t (i := 901) (by decide +kernel) (by decide +kernel), by decide +kernel, by decide +kernel, by decide +kernel⟩
set_option maxRecDepth 20000 in
theorem cs_X11_390 : CS RX11 390 mdX11_percentRoundedUp 2 := ⟨wsg_t (i := 999) (by decide +kernel) (by decide +kernel), ks_X11_percentRoundedUp⟩
set_option maxRecDepth 20000 in
theorem mm_X11_393 : Cond.methodLink RX11 393 Lib.Math.max.name ∈ WSg ∧ Cond.static Lib.Math.max.name ∈ WSg ∧ Cond.initialized "java/lang/Math" ∈ WSg ∧ Cond.code Lib.Math.max.name Lib.Math.max.code 2 (some .int) ∈ WSg := ⟨wsg_t (i := 1000) (by decide +kernel) (by decide +kernel), wsg_t (i := 741) (by decide +kernel) (by decide +kernel), wsg_t (i := 20) (by decide +kernel) (by decide +kernel), wsg_t (i := 742) (by decide +kernel) (by decide +kernel)⟩
set_option maxRecDepth 20000 in
theorem kv_X11_isAfraid : Cond.instanceMethod mdX11_isAfraid.2.1 ∈ WSg ∧ Cond.selects mdX11_isAfraid.2.1.cls mdX11_isAfraid.2.1 mdX11_isAfraid.2.1 ∈ WSg ∧ Cond.initialized mdX11_isAfraid.2.1.cls ∈ WSg ∧ Cond.code mdX11_isAfraid.2.1 mdX11_isAfraid.2.2.1 mdX11_isAfraid.2.2.2.1 mdX11_isAfraid.2.2.2.2.1 ∈ WSg ∧ mdX11_isAfraid.2.1.cls ≠ "java/lang/invoke/MethodHandle" ∧ mdX11_isAfraid.2.1.cls ≠ "java/lang/invoke/VarHandle" ∧ (parseMethodDescriptor mdX11_isAfraid.2.1.desc).map (fun d => d.parameters.length) = some 2 := ⟨wsg_t (i := 1007) (by decide +kernel) (by decide +kernel), wsg_in (List.mem_append_left _ (List.mem_of_getElem? (i := 25) (by decide +kernel))) (by decide +kernel), wsg_t (i := 1) (by decide +kernel) (by decide +kernel), wsg_t (i := 1008) (by decide +kernel) (by decide +kernel), by decide +kernel, by decide +kernel, by decide +kernel⟩
set_option maxRecDepth 20000 in
theorem cv_X11_396 : CV RX11 396 mdX11_isAfraid 2 := ⟨wsg_t (i := 1005) (by decide +kernel) (by decide +kernel), kv_X11_isAfraid⟩
set_option maxRecDepth 20000 in
theorem kv_X11_hasDrawn : Cond.instanceMethod mdX11_hasDrawn.2.1 ∈ WSg ∧ Cond.selects mdX11_hasDrawn.2.1.cls mdX11_hasDrawn.2.1 mdX11_hasDrawn.2.1 ∈ WSg ∧ Cond.initialized mdX11_hasDrawn.2.1.cls ∈ WSg ∧ Cond.code mdX11_hasDrawn.2.1 mdX11_hasDrawn.2.2.1 mdX11_hasDrawn.2.2.2.1 mdX11_hasDrawn.2.2.2.2.1 ∈ WSg ∧ mdX11_hasDrawn.2.1.cls ≠ "java/lang/invoke/MethodHandle" ∧ mdX11_hasDrawn.2.1.cls ≠ "java/lang/invoke/VarHandle" ∧ (parseMethodDescriptor mdX11_hasDrawn.2.1.desc).map (fun d => d.parameters.length) = some 2 := ⟨wsg_t (i := 1011) (by decide +kernel) (by decide +kernel), wsg_in (List.mem_append_left _ (List.mem_of_getElem? (i := 26) (by decide +kernel))) (by decide +kernel), wsg_t (i := 1) (by decide +kernel) (by decide +kernel), wsg_t (i := 1012) (by decide +kernel) (by decide +kernel), by decide +kernel, by decide +kernel, by decide +kernel⟩
set_option maxRecDepth 20000 in
theorem cv_X11_400 : CV RX11 400 mdX11_hasDrawn 2 := ⟨wsg_t (i := 1009) (by decide +kernel) (by decide +kernel), kv_X11_hasDrawn⟩
set_option maxRecDepth 20000 in
theorem kv_X5_hasDrawnSince : Cond.instanceMethod mdX5_hasDrawnSince.2.1 ∈ WSg ∧ Cond.selects mdX5_hasDrawnSince.2.1.cls mdX5_hasDrawnSince.2.1 mdX5_hasDrawnSince.2.1 ∈ WSg ∧ Cond.initialized mdX5_hasDrawnSince.2.1.cls ∈ WSg ∧ Cond.code mdX5_hasDrawnSince.2.1 mdX5_hasDrawnSince.2.2.1 mdX5_hasDrawnSince.2.2.2.1 mdX5_hasDrawnSince.2.2.2.2.1 ∈ WSg ∧ mdX5_hasDrawnSince.2.1.cls ≠ "java/lang/invoke/MethodHandle" ∧ mdX5_hasDrawnSince.2.1.cls ≠ "java/lang/invoke/VarHandle" ∧ (parseMethodDescriptor mdX5_hasDrawnSince.2.1.desc).map (fun d => d.parameters.length) = some 2 := ⟨wsg_t (i := 1014) (by decide +kernel) (by decide +kernel), wsg_t (i := 1015) (by decide +kernel) (by decide +kernel), wsg_t (i := 5) (by decide +kernel) (by decide +kernel), wsg_t (i := 1016) (by decide +kernel) (by decide +kernel), by decide +kernel, by decide +kernel, by decide +kernel⟩
set_option maxRecDepth 20000 in
theorem cv_X11_403 : CV RX11 403 mdX5_hasDrawnSince 2 := ⟨wsg_t (i := 1013) (by decide +kernel) (by decide +kernel), kv_X5_hasDrawnSince⟩
set_option maxRecDepth 20000 in
theorem mm_X0_22 : Cond.methodLink RX0 22 Lib.Math.min.name ∈ WSg ∧ Cond.static Lib.Math.min.name ∈ WSg ∧ Cond.initialized "java/lang/Math" ∈ WSg ∧ Cond.code Lib.Math.min.name Lib.Math.min.code 2 (some .int) ∈ WSg := ⟨wsg_t (i := 404) (by decide +kernel) (by decide +kernel), wsg_t (i := 405) (by decide +kernel) (by decide +kernel), wsg_t (i := 20) (by decide +kernel) (by decide +kernel), wsg_t (i := 406) (by decide +kernel) (by decide +kernel)⟩
set_option maxRecDepth 20000 in
theorem kv_X2_bidAt : Cond.instanceMethod mdX2_bidAt.2.1 ∈ WSg ∧ Cond.selects mdX2_bidAt.2.1.cls mdX2_bidAt.2.1 mdX2_bidAt.2.1 ∈ WSg ∧ Cond.initialized mdX2_bidAt.2.1.cls ∈ WSg ∧ Cond.code mdX2_bidAt.2.1 mdX2_bidAt.2.2.1 mdX2_bidAt.2.2.2.1 mdX2_bidAt.2.2.2.2.1 ∈ WSg ∧ mdX2_bidAt.2.1.cls ≠ "java/lang/invoke/MethodHandle" ∧ mdX2_bidAt.2.1.cls ≠ "java/lang/invoke/VarHandle" ∧ (parseMethodDescriptor mdX2_bidAt.2.1.desc).map (fun d => d.parameters.length) = some 1 := ⟨wsg_t (i := 707) (by decide +kernel) (by decide +kernel), wsg_in (List.mem_append_left _ (List.mem_of_getElem? (i := 8) (by decide +kernel))) (by decide +kernel), wsg_t (i := 11) (by decide +kernel) (by decide +kernel), wsg_t (i := 708) (by decide +kernel) (by decide +kernel), by decide +kernel, by decide +kernel, by decide +kernel⟩
set_option maxRecDepth 20000 in
theorem cv_X2_36 : CV RX2 36 mdX2_bidAt 1 := ⟨wsg_t (i := 705) (by decide +kernel) (by decide +kernel), kv_X2_bidAt⟩
set_option maxRecDepth 20000 in
theorem kv_X1_become : Cond.instanceMethod mdX1_become.2.1 ∈ WSg ∧ Cond.selects mdX1_become.2.1.cls mdX1_become.2.1 mdX1_become.2.1 ∈ WSg ∧ Cond.initialized mdX1_become.2.1.cls ∈ WSg ∧ Cond.code mdX1_become.2.1 mdX1_become.2.2.1 mdX1_become.2.2.2.1 mdX1_become.2.2.2.2.1 ∈ WSg ∧ mdX1_become.2.1.cls ≠ "java/lang/invoke/MethodHandle" ∧ mdX1_become.2.1.cls ≠ "java/lang/invoke/VarHandle" ∧ (parseMethodDescriptor mdX1_become.2.1.desc).map (fun d => d.parameters.length) = some 1 := ⟨wsg_t (i := 710) (by decide +kernel) (by decide +kernel), wsg_t (i := 711) (by decide +kernel) (by decide +kernel), wsg_t (i := 12) (by decide +kernel) (by decide +kernel), wsg_t (i := 712) (by decide +kernel) (by decide +kernel), by decide +kernel, by decide +kernel, by decide +kernel⟩
set_option maxRecDepth 20000 in
theorem cv_X2_49 : CV RX2 49 mdX1_become 1 := ⟨wsg_t (i := 709) (by decide +kernel) (by decide +kernel), kv_X1_become⟩
set_option maxRecDepth 20000 in
theorem cv_X2_53 : CV RX2 53 mdX3_bank 1 := ⟨wsg_t (i := 894) (by decide +kernel) (by decide +kernel), kv_X3_bank⟩
set_option maxRecDepth 20000 in
theorem kv_X2_highestBidNotTried : Cond.instanceMethod mdX2_highestBidNotTried.2.1 ∈ WSg ∧ Cond.selects mdX2_highestBidNotTried.2.1.cls mdX2_highestBidNotTried.2.1 mdX2_highestBidNotTried.2.1 ∈ WSg ∧ Cond.initialized mdX2_highestBidNotTried.2.1.cls ∈ WSg ∧ Cond.code mdX2_highestBidNotTried.2.1 mdX2_highestBidNotTried.2.2.1 mdX2_highestBidNotTried.2.2.2.1 mdX2_highestBidNotTried.2.2.2.2.1 ∈ WSg ∧ mdX2_highestBidNotTried.2.1.cls ≠ "java/lang/invoke/MethodHandle" ∧ mdX2_highestBidNotTried.2.1.cls ≠ "java/lang/invoke/VarHandle" ∧ (parseMethodDescriptor mdX2_highestBidNotTried.2.1.desc).map (fun d => d.parameters.length) = some 0 := ⟨wsg_t (i := 897) (by decide +kernel) (by decide +kernel), wsg_in (List.mem_append_left _ (List.mem_of_getElem? (i := 15) (by decide +kernel))) (by decide +kernel), wsg_t (i := 11) (by decide +kernel) (by decide +kernel), wsg_t (i := 898) (by decide +kernel) (by decide +kernel), by decide +kernel, by decide +kernel, by decide +kernel⟩
set_option maxRecDepth 20000 in
theorem cv_X2_70 : CV RX2 70 mdX2_highestBidNotTried 0 := ⟨wsg_t (i := 895) (by decide +kernel) (by decide +kernel), kv_X2_highestBidNotTried⟩
set_option maxRecDepth 20000 in
theorem mm_X2_74 : Cond.methodLink RX2 74 Lib.Math.min.name ∈ WSg ∧ Cond.static Lib.Math.min.name ∈ WSg ∧ Cond.initialized "java/lang/Math" ∈ WSg ∧ Cond.code Lib.Math.min.name Lib.Math.min.code 2 (some .int) ∈ WSg := ⟨wsg_t (i := 718) (by decide +kernel) (by decide +kernel), wsg_t (i := 405) (by decide +kernel) (by decide +kernel), wsg_t (i := 20) (by decide +kernel) (by decide +kernel), wsg_t (i := 406) (by decide +kernel) (by decide +kernel)⟩
set_option maxRecDepth 20000 in
theorem kv_X2_add : Cond.instanceMethod mdX2_add.2.1 ∈ WSg ∧ Cond.selects mdX2_add.2.1.cls mdX2_add.2.1 mdX2_add.2.1 ∈ WSg ∧ Cond.initialized mdX2_add.2.1.cls ∈ WSg ∧ Cond.code mdX2_add.2.1 mdX2_add.2.2.1 mdX2_add.2.2.2.1 mdX2_add.2.2.2.2.1 ∈ WSg ∧ mdX2_add.2.1.cls ≠ "java/lang/invoke/MethodHandle" ∧ mdX2_add.2.1.cls ≠ "java/lang/invoke/VarHandle" ∧ (parseMethodDescriptor mdX2_add.2.1.desc).map (fun d => d.parameters.length) = some 3 := ⟨wsg_t (i := 721) (by decide +kernel) (by decide +kernel), wsg_in (List.mem_append_left _ (List.mem_of_getElem? (i := 9) (by decide +kernel))) (by decide +kernel), wsg_t (i := 11) (by decide +kernel) (by decide +kernel), wsg_t (i := 722) (by decide +kernel) (by decide +kernel), by decide +kernel, by decide +kernel, by decide +kernel⟩
set_option maxRecDepth 20000 in
theorem cv_X2_95 : CV RX2 95 mdX2_add 3 := ⟨wsg_t (i := 719) (by decide +kernel) (by decide +kernel), kv_X2_add⟩
set_option maxRecDepth 20000 in
theorem kv_X2_held : Cond.instanceMethod mdX2_held.2.1 ∈ WSg ∧ Cond.selects mdX2_held.2.1.cls mdX2_held.2.1 mdX2_held.2.1 ∈ WSg ∧ Cond.initialized mdX2_held.2.1.cls ∈ WSg ∧ Cond.code mdX2_held.2.1 mdX2_held.2.2.1 mdX2_held.2.2.2.1 mdX2_held.2.2.2.2.1 ∈ WSg ∧ mdX2_held.2.1.cls ≠ "java/lang/invoke/MethodHandle" ∧ mdX2_held.2.1.cls ≠ "java/lang/invoke/VarHandle" ∧ (parseMethodDescriptor mdX2_held.2.1.desc).map (fun d => d.parameters.length) = some 2 := ⟨wsg_t (i := 450) (by decide +kernel) (by decide +kernel), wsg_in (List.mem_append_left _ (List.mem_of_getElem? (i := 4) (by decide +kernel))) (by decide +kernel), wsg_t (i := 11) (by decide +kernel) (by decide +kernel), wsg_t (i := 451) (by decide +kernel) (by decide +kernel), by decide +kernel, by decide +kernel, by decide +kernel⟩
set_option maxRecDepth 20000 in
theorem cv_X2_99 : CV RX2 99 mdX2_held 2 := ⟨wsg_t (i := 448) (by decide +kernel) (by decide +kernel), kv_X2_held⟩
set_option maxRecDepth 20000 in
theorem kv_X2_payBondsOf : Cond.instanceMethod mdX2_payBondsOf.2.1 ∈ WSg ∧ Cond.selects mdX2_payBondsOf.2.1.cls mdX2_payBondsOf.2.1 mdX2_payBondsOf.2.1 ∈ WSg ∧ Cond.initialized mdX2_payBondsOf.2.1.cls ∈ WSg ∧ Cond.code mdX2_payBondsOf.2.1 mdX2_payBondsOf.2.2.1 mdX2_payBondsOf.2.2.2.1 mdX2_payBondsOf.2.2.2.2.1 ∈ WSg ∧ mdX2_payBondsOf.2.1.cls ≠ "java/lang/invoke/MethodHandle" ∧ mdX2_payBondsOf.2.1.cls ≠ "java/lang/invoke/VarHandle" ∧ (parseMethodDescriptor mdX2_payBondsOf.2.1.desc).map (fun d => d.parameters.length) = some 3 := ⟨wsg_t (i := 993) (by decide +kernel) (by decide +kernel), wsg_in (List.mem_append_left _ (List.mem_of_getElem? (i := 22) (by decide +kernel))) (by decide +kernel), wsg_t (i := 11) (by decide +kernel) (by decide +kernel), wsg_t (i := 994) (by decide +kernel) (by decide +kernel), by decide +kernel, by decide +kernel, by decide +kernel⟩
set_option maxRecDepth 20000 in
theorem cv_X2_102 : CV RX2 102 mdX2_payBondsOf 3 := ⟨wsg_t (i := 991) (by decide +kernel) (by decide +kernel), kv_X2_payBondsOf⟩
set_option maxRecDepth 20000 in
theorem cv_X3_47 : CV RX3 47 mdX3_holder 1 := ⟨wsg_t (i := 427) (by decide +kernel) (by decide +kernel), kv_X3_holder⟩
set_option maxRecDepth 20000 in
theorem kv_X8_note : Cond.instanceMethod mdX8_note.2.1 ∈ WSg ∧ Cond.selects mdX8_note.2.1.cls mdX8_note.2.1 mdX8_note.2.1 ∈ WSg ∧ Cond.initialized mdX8_note.2.1.cls ∈ WSg ∧ Cond.code mdX8_note.2.1 mdX8_note.2.2.1 mdX8_note.2.2.2.1 mdX8_note.2.2.2.2.1 ∈ WSg ∧ mdX8_note.2.1.cls ≠ "java/lang/invoke/MethodHandle" ∧ mdX8_note.2.1.cls ≠ "java/lang/invoke/VarHandle" ∧ (parseMethodDescriptor mdX8_note.2.1.desc).map (fun d => d.parameters.length) = some 2 := ⟨wsg_t (i := 429) (by decide +kernel) (by decide +kernel), wsg_t (i := 430) (by decide +kernel) (by decide +kernel), wsg_t (i := 4) (by decide +kernel) (by decide +kernel), wsg_t (i := 431) (by decide +kernel) (by decide +kernel), by decide +kernel, by decide +kernel, by decide +kernel⟩
set_option maxRecDepth 20000 in
theorem cv_X3_55 : CV RX3 55 mdX8_note 2 := ⟨wsg_t (i := 428) (by decide +kernel) (by decide +kernel), kv_X8_note⟩
set_option maxRecDepth 20000 in
theorem cv_X3_68 : CV RX3 68 mdX3_bank 1 := ⟨wsg_t (i := 399) (by decide +kernel) (by decide +kernel), kv_X3_bank⟩
set_option maxRecDepth 20000 in
theorem kv_X0_lacks : Cond.instanceMethod mdX0_lacks.2.1 ∈ WSg ∧ Cond.selects mdX0_lacks.2.1.cls mdX0_lacks.2.1 mdX0_lacks.2.1 ∈ WSg ∧ Cond.initialized mdX0_lacks.2.1.cls ∈ WSg ∧ Cond.code mdX0_lacks.2.1 mdX0_lacks.2.2.1 mdX0_lacks.2.2.2.1 mdX0_lacks.2.2.2.2.1 ∈ WSg ∧ mdX0_lacks.2.1.cls ≠ "java/lang/invoke/MethodHandle" ∧ mdX0_lacks.2.1.cls ≠ "java/lang/invoke/VarHandle" ∧ (parseMethodDescriptor mdX0_lacks.2.1.desc).map (fun d => d.parameters.length) = some 0 := ⟨wsg_t (i := 401) (by decide +kernel) (by decide +kernel), wsg_t (i := 402) (by decide +kernel) (by decide +kernel), wsg_t (i := 6) (by decide +kernel) (by decide +kernel), wsg_t (i := 403) (by decide +kernel) (by decide +kernel), by decide +kernel, by decide +kernel, by decide +kernel⟩
set_option maxRecDepth 20000 in
theorem cv_X3_75 : CV RX3 75 mdX0_lacks 0 := ⟨wsg_t (i := 400) (by decide +kernel) (by decide +kernel), kv_X0_lacks⟩
set_option maxRecDepth 20000 in
theorem cv_X3_83 : CV RX3 83 mdX5_free 0 := ⟨wsg_t (i := 823) (by decide +kernel) (by decide +kernel), kv_X5_free⟩
set_option maxRecDepth 20000 in
theorem cv_X3_92 : CV RX3 92 mdX3_change 2 := ⟨wsg_t (i := 749) (by decide +kernel) (by decide +kernel), kv_X3_change⟩
set_option maxRecDepth 20000 in
theorem kv_X5_sureOfAccount : Cond.instanceMethod mdX5_sureOfAccount.2.1 ∈ WSg ∧ Cond.selects mdX5_sureOfAccount.2.1.cls mdX5_sureOfAccount.2.1 mdX5_sureOfAccount.2.1 ∈ WSg ∧ Cond.initialized mdX5_sureOfAccount.2.1.cls ∈ WSg ∧ Cond.code mdX5_sureOfAccount.2.1 mdX5_sureOfAccount.2.2.1 mdX5_sureOfAccount.2.2.2.1 mdX5_sureOfAccount.2.2.2.2.1 ∈ WSg ∧ mdX5_sureOfAccount.2.1.cls ≠ "java/lang/invoke/MethodHandle" ∧ mdX5_sureOfAccount.2.1.cls ≠ "java/lang/invoke/VarHandle" ∧ (parseMethodDescriptor mdX5_sureOfAccount.2.1.desc).map (fun d => d.parameters.length) = some 0 := ⟨wsg_t (i := 736) (by decide +kernel) (by decide +kernel), wsg_t (i := 737) (by decide +kernel) (by decide +kernel), wsg_t (i := 5) (by decide +kernel) (by decide +kernel), wsg_t (i := 738) (by decide +kernel) (by decide +kernel), by decide +kernel, by decide +kernel, by decide +kernel⟩
set_option maxRecDepth 20000 in
theorem cv_X3_95 : CV RX3 95 mdX5_sureOfAccount 0 := ⟨wsg_t (i := 735) (by decide +kernel) (by decide +kernel), kv_X5_sureOfAccount⟩
set_option maxRecDepth 20000 in
theorem mm_X3_98 : Cond.methodLink RX3 98 Lib.Math.max.name ∈ WSg ∧ Cond.static Lib.Math.max.name ∈ WSg ∧ Cond.initialized "java/lang/Math" ∈ WSg ∧ Cond.code Lib.Math.max.name Lib.Math.max.code 2 (some .int) ∈ WSg := ⟨wsg_t (i := 740) (by decide +kernel) (by decide +kernel), wsg_t (i := 741) (by decide +kernel) (by decide +kernel), wsg_t (i := 20) (by decide +kernel) (by decide +kernel), wsg_t (i := 742) (by decide +kernel) (by decide +kernel)⟩
set_option maxRecDepth 20000 in
theorem kv_X3_lowestBankThatStands : Cond.instanceMethod mdX3_lowestBankThatStands.2.1 ∈ WSg ∧ Cond.selects mdX3_lowestBankThatStands.2.1.cls mdX3_lowestBankThatStands.2.1 mdX3_lowestBankThatStands.2.1 ∈ WSg ∧ Cond.initialized mdX3_lowestBankThatStands.2.1.cls ∈ WSg ∧ Cond.code mdX3_lowestBankThatStands.2.1 mdX3_lowestBankThatStands.2.2.1 mdX3_lowestBankThatStands.2.2.2.1 mdX3_lowestBankThatStands.2.2.2.2.1 ∈ WSg ∧ mdX3_lowestBankThatStands.2.1.cls ≠ "java/lang/invoke/MethodHandle" ∧ mdX3_lowestBankThatStands.2.1.cls ≠ "java/lang/invoke/VarHandle" ∧ (parseMethodDescriptor mdX3_lowestBankThatStands.2.1.desc).map (fun d => d.parameters.length) = some 0 := ⟨wsg_t (i := 745) (by decide +kernel) (by decide +kernel), wsg_in (List.mem_append_left _ (List.mem_of_getElem? (i := 10) (by decide +kernel))) (by decide +kernel), wsg_t (i := 2) (by decide +kernel) (by decide +kernel), wsg_t (i := 746) (by decide +kernel) (by decide +kernel), by decide +kernel, by decide +kernel, by decide +kernel⟩
set_option maxRecDepth 20000 in
theorem cv_X3_104 : CV RX3 104 mdX3_lowestBankThatStands 0 := ⟨wsg_t (i := 743) (by decide +kernel) (by decide +kernel), kv_X3_lowestBankThatStands⟩
set_option maxRecDepth 20000 in
theorem mm_X3_111 : Cond.methodLink RX3 111 Lib.Math.min.name ∈ WSg ∧ Cond.static Lib.Math.min.name ∈ WSg ∧ Cond.initialized "java/lang/Math" ∈ WSg ∧ Cond.code Lib.Math.min.name Lib.Math.min.code 2 (some .int) ∈ WSg := ⟨wsg_t (i := 748) (by decide +kernel) (by decide +kernel), wsg_t (i := 405) (by decide +kernel) (by decide +kernel), wsg_t (i := 20) (by decide +kernel) (by decide +kernel), wsg_t (i := 406) (by decide +kernel) (by decide +kernel)⟩
set_option maxRecDepth 20000 in
theorem cv_X3_114 : CV RX3 114 mdX5_takeNotes 2 := ⟨wsg_t (i := 750) (by decide +kernel) (by decide +kernel), kv_X5_takeNotes⟩
set_option maxRecDepth 20000 in
theorem mm_X5_34 : Cond.methodLink RX5 34 Lib.Math.min.name ∈ WSg ∧ Cond.static Lib.Math.min.name ∈ WSg ∧ Cond.initialized "java/lang/Math" ∈ WSg ∧ Cond.code Lib.Math.min.name Lib.Math.min.code 2 (some .int) ∈ WSg := ⟨wsg_t (i := 739) (by decide +kernel) (by decide +kernel), wsg_t (i := 405) (by decide +kernel) (by decide +kernel), wsg_t (i := 20) (by decide +kernel) (by decide +kernel), wsg_t (i := 406) (by decide +kernel) (by decide +kernel)⟩
set_option maxRecDepth 20000 in
theorem cv_X7_26 : CV RX7 26 mdX7_at 1 := ⟨wsg_t (i := 464) (by decide +kernel) (by decide +kernel), kv_X7_at⟩
set_option maxRecDepth 20000 in
theorem cv_X10_26 : CV RX10 26 mdX10_at 1 := ⟨wsg_t (i := 391) (by decide +kernel) (by decide +kernel), kv_X10_at⟩
set_option maxRecDepth 20000 in
theorem cv_X10_36 : CV RX10 36 mdX3_holder 1 := ⟨wsg_t (i := 419) (by decide +kernel) (by decide +kernel), kv_X3_holder⟩
set_option maxRecDepth 20000 in
theorem kv_X10_finish : Cond.instanceMethod mdX10_finish.2.1 ∈ WSg ∧ Cond.selects mdX10_finish.2.1.cls mdX10_finish.2.1 mdX10_finish.2.1 ∈ WSg ∧ Cond.initialized mdX10_finish.2.1.cls ∈ WSg ∧ Cond.code mdX10_finish.2.1 mdX10_finish.2.2.1 mdX10_finish.2.2.2.1 mdX10_finish.2.2.2.2.1 ∈ WSg ∧ mdX10_finish.2.1.cls ≠ "java/lang/invoke/MethodHandle" ∧ mdX10_finish.2.1.cls ≠ "java/lang/invoke/VarHandle" ∧ (parseMethodDescriptor mdX10_finish.2.1.desc).map (fun d => d.parameters.length) = some 3 := ⟨wsg_t (i := 417) (by decide +kernel) (by decide +kernel), wsg_in (List.mem_append_left _ (List.mem_of_getElem? (i := 3) (by decide +kernel))) (by decide +kernel), wsg_t (i := 7) (by decide +kernel) (by decide +kernel), wsg_t (i := 418) (by decide +kernel) (by decide +kernel), by decide +kernel, by decide +kernel, by decide +kernel⟩
set_option maxRecDepth 20000 in
theorem cv_X10_65 : CV RX10 65 mdX10_finish 3 := ⟨wsg_t (i := 415) (by decide +kernel) (by decide +kernel), kv_X10_finish⟩
set_option maxRecDepth 20000 in
theorem cv_X10_69 : CV RX10 69 mdX3_change 2 := ⟨wsg_t (i := 423) (by decide +kernel) (by decide +kernel), kv_X3_change⟩
set_option maxRecDepth 20000 in
theorem kv_X10_chooseAllThatWait : Cond.instanceMethod mdX10_chooseAllThatWait.2.1 ∈ WSg ∧ Cond.selects mdX10_chooseAllThatWait.2.1.cls mdX10_chooseAllThatWait.2.1 mdX10_chooseAllThatWait.2.1 ∈ WSg ∧ Cond.initialized mdX10_chooseAllThatWait.2.1.cls ∈ WSg ∧ Cond.code mdX10_chooseAllThatWait.2.1 mdX10_chooseAllThatWait.2.2.1 mdX10_chooseAllThatWait.2.2.2.1 mdX10_chooseAllThatWait.2.2.2.2.1 ∈ WSg ∧ mdX10_chooseAllThatWait.2.1.cls ≠ "java/lang/invoke/MethodHandle" ∧ mdX10_chooseAllThatWait.2.1.cls ≠ "java/lang/invoke/VarHandle" ∧ (parseMethodDescriptor mdX10_chooseAllThatWait.2.1.desc).map (fun d => d.parameters.length) = some 1 := ⟨wsg_t (i := 385) (by decide +kernel) (by decide +kernel), wsg_in (List.mem_append_left _ (List.mem_of_getElem? (i := 0) (by decide +kernel))) (by decide +kernel), wsg_t (i := 7) (by decide +kernel) (by decide +kernel), wsg_t (i := 386) (by decide +kernel) (by decide +kernel), by decide +kernel, by decide +kernel, by decide +kernel⟩
set_option maxRecDepth 20000 in
theorem cv_X10_76 : CV RX10 76 mdX10_chooseAllThatWait 1 := ⟨wsg_t (i := 383) (by decide +kernel) (by decide +kernel), kv_X10_chooseAllThatWait⟩
set_option maxRecDepth 20000 in
theorem kv_X3_bankThatLacksMost : Cond.instanceMethod mdX3_bankThatLacksMost.2.1 ∈ WSg ∧ Cond.selects mdX3_bankThatLacksMost.2.1.cls mdX3_bankThatLacksMost.2.1 mdX3_bankThatLacksMost.2.1 ∈ WSg ∧ Cond.initialized mdX3_bankThatLacksMost.2.1.cls ∈ WSg ∧ Cond.code mdX3_bankThatLacksMost.2.1 mdX3_bankThatLacksMost.2.2.1 mdX3_bankThatLacksMost.2.2.2.1 mdX3_bankThatLacksMost.2.2.2.2.1 ∈ WSg ∧ mdX3_bankThatLacksMost.2.1.cls ≠ "java/lang/invoke/MethodHandle" ∧ mdX3_bankThatLacksMost.2.1.cls ≠ "java/lang/invoke/VarHandle" ∧ (parseMethodDescriptor mdX3_bankThatLacksMost.2.1.desc).map (fun d => d.parameters.length) = some 0 := ⟨wsg_t (i := 396) (by decide +kernel) (by decide +kernel), wsg_t (i := 397) (by decide +kernel) (by decide +kernel), wsg_t (i := 2) (by decide +kernel) (by decide +kernel), wsg_t (i := 398) (by decide +kernel) (by decide +kernel), by decide +kernel, by decide +kernel, by decide +kernel⟩
set_option maxRecDepth 20000 in
theorem cv_X10_80 : CV RX10 80 mdX3_bankThatLacksMost 0 := ⟨wsg_t (i := 395) (by decide +kernel) (by decide +kernel), kv_X3_bankThatLacksMost⟩
set_option maxRecDepth 20000 in
theorem kv_X10_leaveOutLatestOf : Cond.instanceMethod mdX10_leaveOutLatestOf.2.1 ∈ WSg ∧ Cond.selects mdX10_leaveOutLatestOf.2.1.cls mdX10_leaveOutLatestOf.2.1 mdX10_leaveOutLatestOf.2.1 ∈ WSg ∧ Cond.initialized mdX10_leaveOutLatestOf.2.1.cls ∈ WSg ∧ Cond.code mdX10_leaveOutLatestOf.2.1 mdX10_leaveOutLatestOf.2.2.1 mdX10_leaveOutLatestOf.2.2.2.1 mdX10_leaveOutLatestOf.2.2.2.2.1 ∈ WSg ∧ mdX10_leaveOutLatestOf.2.1.cls ≠ "java/lang/invoke/MethodHandle" ∧ mdX10_leaveOutLatestOf.2.1.cls ≠ "java/lang/invoke/VarHandle" ∧ (parseMethodDescriptor mdX10_leaveOutLatestOf.2.1.desc).map (fun d => d.parameters.length) = some 2 := ⟨wsg_t (i := 409) (by decide +kernel) (by decide +kernel), wsg_in (List.mem_append_left _ (List.mem_of_getElem? (i := 1) (by decide +kernel))) (by decide +kernel), wsg_t (i := 7) (by decide +kernel) (by decide +kernel), wsg_t (i := 410) (by decide +kernel) (by decide +kernel), by decide +kernel, by decide +kernel, by decide +kernel⟩
set_option maxRecDepth 20000 in
theorem cv_X10_84 : CV RX10 84 mdX10_leaveOutLatestOf 2 := ⟨wsg_t (i := 407) (by decide +kernel) (by decide +kernel), kv_X10_leaveOutLatestOf⟩
set_option maxRecDepth 20000 in
theorem kv_X10_finishChosen : Cond.instanceMethod mdX10_finishChosen.2.1 ∈ WSg ∧ Cond.selects mdX10_finishChosen.2.1.cls mdX10_finishChosen.2.1 mdX10_finishChosen.2.1 ∈ WSg ∧ Cond.initialized mdX10_finishChosen.2.1.cls ∈ WSg ∧ Cond.code mdX10_finishChosen.2.1 mdX10_finishChosen.2.2.1 mdX10_finishChosen.2.2.2.1 mdX10_finishChosen.2.2.2.2.1 ∈ WSg ∧ mdX10_finishChosen.2.1.cls ≠ "java/lang/invoke/MethodHandle" ∧ mdX10_finishChosen.2.1.cls ≠ "java/lang/invoke/VarHandle" ∧ (parseMethodDescriptor mdX10_finishChosen.2.1.desc).map (fun d => d.parameters.length) = some 2 := ⟨wsg_t (i := 413) (by decide +kernel) (by decide +kernel), wsg_in (List.mem_append_left _ (List.mem_of_getElem? (i := 2) (by decide +kernel))) (by decide +kernel), wsg_t (i := 7) (by decide +kernel) (by decide +kernel), wsg_t (i := 414) (by decide +kernel) (by decide +kernel), by decide +kernel, by decide +kernel, by decide +kernel⟩
set_option maxRecDepth 20000 in
theorem cv_X10_88 : CV RX10 88 mdX10_finishChosen 2 := ⟨wsg_t (i := 411) (by decide +kernel) (by decide +kernel), kv_X10_finishChosen⟩
set_option maxRecDepth 20000 in
theorem cv_X10_92 : CV RX10 92 mdX3_bank 1 := ⟨wsg_t (i := 387) (by decide +kernel) (by decide +kernel), kv_X3_bank⟩
set_option maxRecDepth 20000 in
theorem kv_X9_netFor : Cond.instanceMethod mdX9_netFor.2.1 ∈ WSg ∧ Cond.selects mdX9_netFor.2.1.cls mdX9_netFor.2.1 mdX9_netFor.2.1 ∈ WSg ∧ Cond.initialized mdX9_netFor.2.1.cls ∈ WSg ∧ Cond.code mdX9_netFor.2.1 mdX9_netFor.2.2.1 mdX9_netFor.2.2.2.1 mdX9_netFor.2.2.2.2.1 ∈ WSg ∧ mdX9_netFor.2.1.cls ≠ "java/lang/invoke/MethodHandle" ∧ mdX9_netFor.2.1.cls ≠ "java/lang/invoke/VarHandle" ∧ (parseMethodDescriptor mdX9_netFor.2.1.desc).map (fun d => d.parameters.length) = some 1 := ⟨wsg_t (i := 1066) (by decide +kernel) (by decide +kernel), wsg_t (i := 1067) (by decide +kernel) (by decide +kernel), wsg_t (i := 8) (by decide +kernel) (by decide +kernel), wsg_t (i := 1068) (by decide +kernel) (by decide +kernel), by decide +kernel, by decide +kernel, by decide +kernel⟩
set_option maxRecDepth 20000 in
theorem cv_X10_107 : CV RX10 107 mdX9_netFor 1 := ⟨wsg_t (i := 1065) (by decide +kernel) (by decide +kernel), kv_X9_netFor⟩
set_option maxRecDepth 20000 in
theorem kv_X11_mint : Cond.instanceMethod mdX11_mint.2.1 ∈ WSg ∧ Cond.selects mdX11_mint.2.1.cls mdX11_mint.2.1 mdX11_mint.2.1 ∈ WSg ∧ Cond.initialized mdX11_mint.2.1.cls ∈ WSg ∧ Cond.code mdX11_mint.2.1 mdX11_mint.2.2.1 mdX11_mint.2.2.2.1 mdX11_mint.2.2.2.2.1 ∈ WSg ∧ mdX11_mint.2.1.cls ≠ "java/lang/invoke/MethodHandle" ∧ mdX11_mint.2.1.cls ≠ "java/lang/invoke/VarHandle" ∧ (parseMethodDescriptor mdX11_mint.2.1.desc).map (fun d => d.parameters.length) = some 2 := ⟨wsg_t (i := 492) (by decide +kernel) (by decide +kernel), wsg_t (i := 493) (by decide +kernel) (by decide +kernel), wsg_t (i := 1) (by decide +kernel) (by decide +kernel), wsg_t (i := 494) (by decide +kernel) (by decide +kernel), by decide +kernel, by decide +kernel, by decide +kernel⟩
set_option maxRecDepth 20000 in
theorem cv_L_7 : CV RL 7 mdX11_mint 2 := ⟨wsg_t (i := 491) (by decide +kernel) (by decide +kernel), kv_X11_mint⟩
set_option maxRecDepth 20000 in
theorem kv_X11_forge : Cond.instanceMethod mdX11_forge.2.1 ∈ WSg ∧ Cond.selects mdX11_forge.2.1.cls mdX11_forge.2.1 mdX11_forge.2.1 ∈ WSg ∧ Cond.initialized mdX11_forge.2.1.cls ∈ WSg ∧ Cond.code mdX11_forge.2.1 mdX11_forge.2.2.1 mdX11_forge.2.2.2.1 mdX11_forge.2.2.2.2.1 ∈ WSg ∧ mdX11_forge.2.1.cls ≠ "java/lang/invoke/MethodHandle" ∧ mdX11_forge.2.1.cls ≠ "java/lang/invoke/VarHandle" ∧ (parseMethodDescriptor mdX11_forge.2.1.desc).map (fun d => d.parameters.length) = some 2 := ⟨wsg_t (i := 603) (by decide +kernel) (by decide +kernel), wsg_t (i := 604) (by decide +kernel) (by decide +kernel), wsg_t (i := 1) (by decide +kernel) (by decide +kernel), wsg_t (i := 605) (by decide +kernel) (by decide +kernel), by decide +kernel, by decide +kernel, by decide +kernel⟩
set_option maxRecDepth 20000 in
theorem cv_L_17 : CV RL 17 mdX11_forge 2 := ⟨wsg_t (i := 602) (by decide +kernel) (by decide +kernel), kv_X11_forge⟩
set_option maxRecDepth 20000 in
theorem kv_X11_hand : Cond.instanceMethod mdX11_hand.2.1 ∈ WSg ∧ Cond.selects mdX11_hand.2.1.cls mdX11_hand.2.1 mdX11_hand.2.1 ∈ WSg ∧ Cond.initialized mdX11_hand.2.1.cls ∈ WSg ∧ Cond.code mdX11_hand.2.1 mdX11_hand.2.2.1 mdX11_hand.2.2.2.1 mdX11_hand.2.2.2.2.1 ∈ WSg ∧ mdX11_hand.2.1.cls ≠ "java/lang/invoke/MethodHandle" ∧ mdX11_hand.2.1.cls ≠ "java/lang/invoke/VarHandle" ∧ (parseMethodDescriptor mdX11_hand.2.1.desc).map (fun d => d.parameters.length) = some 3 := ⟨wsg_t (i := 611) (by decide +kernel) (by decide +kernel), wsg_t (i := 612) (by decide +kernel) (by decide +kernel), wsg_t (i := 1) (by decide +kernel) (by decide +kernel), wsg_t (i := 613) (by decide +kernel) (by decide +kernel), by decide +kernel, by decide +kernel, by decide +kernel⟩
set_option maxRecDepth 20000 in
theorem cv_L_20 : CV RL 20 mdX11_hand 3 := ⟨wsg_t (i := 610) (by decide +kernel) (by decide +kernel), kv_X11_hand⟩
set_option maxRecDepth 20000 in
theorem kv_X11_open : Cond.instanceMethod mdX11_open.2.1 ∈ WSg ∧ Cond.selects mdX11_open.2.1.cls mdX11_open.2.1 mdX11_open.2.1 ∈ WSg ∧ Cond.initialized mdX11_open.2.1.cls ∈ WSg ∧ Cond.code mdX11_open.2.1 mdX11_open.2.2.1 mdX11_open.2.2.2.1 mdX11_open.2.2.2.2.1 ∈ WSg ∧ mdX11_open.2.1.cls ≠ "java/lang/invoke/MethodHandle" ∧ mdX11_open.2.1.cls ≠ "java/lang/invoke/VarHandle" ∧ (parseMethodDescriptor mdX11_open.2.1.desc).map (fun d => d.parameters.length) = some 2 := ⟨wsg_t (i := 644) (by decide +kernel) (by decide +kernel), wsg_t (i := 645) (by decide +kernel) (by decide +kernel), wsg_t (i := 1) (by decide +kernel) (by decide +kernel), wsg_t (i := 646) (by decide +kernel) (by decide +kernel), by decide +kernel, by decide +kernel, by decide +kernel⟩
set_option maxRecDepth 20000 in
theorem cv_L_26 : CV RL 26 mdX11_open 2 := ⟨wsg_t (i := 643) (by decide +kernel) (by decide +kernel), kv_X11_open⟩
set_option maxRecDepth 20000 in
theorem kv_X11_close : Cond.instanceMethod mdX11_close.2.1 ∈ WSg ∧ Cond.selects mdX11_close.2.1.cls mdX11_close.2.1 mdX11_close.2.1 ∈ WSg ∧ Cond.initialized mdX11_close.2.1.cls ∈ WSg ∧ Cond.code mdX11_close.2.1 mdX11_close.2.2.1 mdX11_close.2.2.2.1 mdX11_close.2.2.2.2.1 ∈ WSg ∧ mdX11_close.2.1.cls ≠ "java/lang/invoke/MethodHandle" ∧ mdX11_close.2.1.cls ≠ "java/lang/invoke/VarHandle" ∧ (parseMethodDescriptor mdX11_close.2.1.desc).map (fun d => d.parameters.length) = some 1 := ⟨wsg_t (i := 658) (by decide +kernel) (by decide +kernel), wsg_t (i := 659) (by decide +kernel) (by decide +kernel), wsg_t (i := 1) (by decide +kernel) (by decide +kernel), wsg_t (i := 660) (by decide +kernel) (by decide +kernel), by decide +kernel, by decide +kernel, by decide +kernel⟩
set_option maxRecDepth 20000 in
theorem cv_L_29 : CV RL 29 mdX11_close 1 := ⟨wsg_t (i := 657) (by decide +kernel) (by decide +kernel), kv_X11_close⟩
set_option maxRecDepth 20000 in
theorem kv_X11_bring : Cond.instanceMethod mdX11_bring.2.1 ∈ WSg ∧ Cond.selects mdX11_bring.2.1.cls mdX11_bring.2.1 mdX11_bring.2.1 ∈ WSg ∧ Cond.initialized mdX11_bring.2.1.cls ∈ WSg ∧ Cond.code mdX11_bring.2.1 mdX11_bring.2.2.1 mdX11_bring.2.2.2.1 mdX11_bring.2.2.2.2.1 ∈ WSg ∧ mdX11_bring.2.1.cls ≠ "java/lang/invoke/MethodHandle" ∧ mdX11_bring.2.1.cls ≠ "java/lang/invoke/VarHandle" ∧ (parseMethodDescriptor mdX11_bring.2.1.desc).map (fun d => d.parameters.length) = some 2 := ⟨wsg_t (i := 669) (by decide +kernel) (by decide +kernel), wsg_t (i := 670) (by decide +kernel) (by decide +kernel), wsg_t (i := 1) (by decide +kernel) (by decide +kernel), wsg_t (i := 671) (by decide +kernel) (by decide +kernel), by decide +kernel, by decide +kernel, by decide +kernel⟩
set_option maxRecDepth 20000 in
theorem cv_L_33 : CV RL 33 mdX11_bring 2 := ⟨wsg_t (i := 668) (by decide +kernel) (by decide +kernel), kv_X11_bring⟩
set_option maxRecDepth 20000 in
theorem kv_X11_draw : Cond.instanceMethod mdX11_draw.2.1 ∈ WSg ∧ Cond.selects mdX11_draw.2.1.cls mdX11_draw.2.1 mdX11_draw.2.1 ∈ WSg ∧ Cond.initialized mdX11_draw.2.1.cls ∈ WSg ∧ Cond.code mdX11_draw.2.1 mdX11_draw.2.2.1 mdX11_draw.2.2.2.1 mdX11_draw.2.2.2.2.1 ∈ WSg ∧ mdX11_draw.2.1.cls ≠ "java/lang/invoke/MethodHandle" ∧ mdX11_draw.2.1.cls ≠ "java/lang/invoke/VarHandle" ∧ (parseMethodDescriptor mdX11_draw.2.1.desc).map (fun d => d.parameters.length) = some 2 := ⟨wsg_t (i := 677) (by decide +kernel) (by decide +kernel), wsg_t (i := 678) (by decide +kernel) (by decide +kernel), wsg_t (i := 1) (by decide +kernel) (by decide +kernel), wsg_t (i := 679) (by decide +kernel) (by decide +kernel), by decide +kernel, by decide +kernel, by decide +kernel⟩
set_option maxRecDepth 20000 in
theorem cv_L_36 : CV RL 36 mdX11_draw 2 := ⟨wsg_t (i := 676) (by decide +kernel) (by decide +kernel), kv_X11_draw⟩
set_option maxRecDepth 20000 in
theorem kv_X11_pay : Cond.instanceMethod mdX11_pay.2.1 ∈ WSg ∧ Cond.selects mdX11_pay.2.1.cls mdX11_pay.2.1 mdX11_pay.2.1 ∈ WSg ∧ Cond.initialized mdX11_pay.2.1.cls ∈ WSg ∧ Cond.code mdX11_pay.2.1 mdX11_pay.2.2.1 mdX11_pay.2.2.2.1 mdX11_pay.2.2.2.2.1 ∈ WSg ∧ mdX11_pay.2.1.cls ≠ "java/lang/invoke/MethodHandle" ∧ mdX11_pay.2.1.cls ≠ "java/lang/invoke/VarHandle" ∧ (parseMethodDescriptor mdX11_pay.2.1.desc).map (fun d => d.parameters.length) = some 3 := ⟨wsg_t (i := 755) (by decide +kernel) (by decide +kernel), wsg_t (i := 756) (by decide +kernel) (by decide +kernel), wsg_t (i := 1) (by decide +kernel) (by decide +kernel), wsg_t (i := 757) (by decide +kernel) (by decide +kernel), by decide +kernel, by decide +kernel, by decide +kernel⟩
set_option maxRecDepth 20000 in
theorem cv_L_39 : CV RL 39 mdX11_pay 3 := ⟨wsg_t (i := 754) (by decide +kernel) (by decide +kernel), kv_X11_pay⟩
set_option maxRecDepth 20000 in
theorem kv_X11_limit : Cond.instanceMethod mdX11_limit.2.1 ∈ WSg ∧ Cond.selects mdX11_limit.2.1.cls mdX11_limit.2.1 mdX11_limit.2.1 ∈ WSg ∧ Cond.initialized mdX11_limit.2.1.cls ∈ WSg ∧ Cond.code mdX11_limit.2.1 mdX11_limit.2.2.1 mdX11_limit.2.2.2.1 mdX11_limit.2.2.2.2.1 ∈ WSg ∧ mdX11_limit.2.1.cls ≠ "java/lang/invoke/MethodHandle" ∧ mdX11_limit.2.1.cls ≠ "java/lang/invoke/VarHandle" ∧ (parseMethodDescriptor mdX11_limit.2.1.desc).map (fun d => d.parameters.length) = some 2 := ⟨wsg_t (i := 774) (by decide +kernel) (by decide +kernel), wsg_t (i := 775) (by decide +kernel) (by decide +kernel), wsg_t (i := 1) (by decide +kernel) (by decide +kernel), wsg_t (i := 776) (by decide +kernel) (by decide +kernel), by decide +kernel, by decide +kernel, by decide +kernel⟩
set_option maxRecDepth 20000 in
theorem cv_L_42 : CV RL 42 mdX11_limit 2 := ⟨wsg_t (i := 773) (by decide +kernel) (by decide +kernel), kv_X11_limit⟩
set_option maxRecDepth 20000 in
theorem kv_X11_endow : Cond.instanceMethod mdX11_endow.2.1 ∈ WSg ∧ Cond.selects mdX11_endow.2.1.cls mdX11_endow.2.1 mdX11_endow.2.1 ∈ WSg ∧ Cond.initialized mdX11_endow.2.1.cls ∈ WSg ∧ Cond.code mdX11_endow.2.1 mdX11_endow.2.2.1 mdX11_endow.2.2.2.1 mdX11_endow.2.2.2.2.1 ∈ WSg ∧ mdX11_endow.2.1.cls ≠ "java/lang/invoke/MethodHandle" ∧ mdX11_endow.2.1.cls ≠ "java/lang/invoke/VarHandle" ∧ (parseMethodDescriptor mdX11_endow.2.1.desc).map (fun d => d.parameters.length) = some 2 := ⟨wsg_t (i := 781) (by decide +kernel) (by decide +kernel), wsg_t (i := 782) (by decide +kernel) (by decide +kernel), wsg_t (i := 1) (by decide +kernel) (by decide +kernel), wsg_t (i := 783) (by decide +kernel) (by decide +kernel), by decide +kernel, by decide +kernel, by decide +kernel⟩
set_option maxRecDepth 20000 in
theorem cv_L_45 : CV RL 45 mdX11_endow 2 := ⟨wsg_t (i := 780) (by decide +kernel) (by decide +kernel), kv_X11_endow⟩
set_option maxRecDepth 20000 in
theorem kv_X11_lend : Cond.instanceMethod mdX11_lend.2.1 ∈ WSg ∧ Cond.selects mdX11_lend.2.1.cls mdX11_lend.2.1 mdX11_lend.2.1 ∈ WSg ∧ Cond.initialized mdX11_lend.2.1.cls ∈ WSg ∧ Cond.code mdX11_lend.2.1 mdX11_lend.2.2.1 mdX11_lend.2.2.2.1 mdX11_lend.2.2.2.2.1 ∈ WSg ∧ mdX11_lend.2.1.cls ≠ "java/lang/invoke/MethodHandle" ∧ mdX11_lend.2.1.cls ≠ "java/lang/invoke/VarHandle" ∧ (parseMethodDescriptor mdX11_lend.2.1.desc).map (fun d => d.parameters.length) = some 4 := ⟨wsg_t (i := 788) (by decide +kernel) (by decide +kernel), wsg_t (i := 789) (by decide +kernel) (by decide +kernel), wsg_t (i := 1) (by decide +kernel) (by decide +kernel), wsg_t (i := 790) (by decide +kernel) (by decide +kernel), by decide +kernel, by decide +kernel, by decide +kernel⟩
set_option maxRecDepth 20000 in
theorem cv_L_48 : CV RL 48 mdX11_lend 4 := ⟨wsg_t (i := 787) (by decide +kernel) (by decide +kernel), kv_X11_lend⟩
set_option maxRecDepth 20000 in
theorem kv_X11_payBack : Cond.instanceMethod mdX11_payBack.2.1 ∈ WSg ∧ Cond.selects mdX11_payBack.2.1.cls mdX11_payBack.2.1 mdX11_payBack.2.1 ∈ WSg ∧ Cond.initialized mdX11_payBack.2.1.cls ∈ WSg ∧ Cond.code mdX11_payBack.2.1 mdX11_payBack.2.2.1 mdX11_payBack.2.2.2.1 mdX11_payBack.2.2.2.2.1 ∈ WSg ∧ mdX11_payBack.2.1.cls ≠ "java/lang/invoke/MethodHandle" ∧ mdX11_payBack.2.1.cls ≠ "java/lang/invoke/VarHandle" ∧ (parseMethodDescriptor mdX11_payBack.2.1.desc).map (fun d => d.parameters.length) = some 2 := ⟨wsg_t (i := 811) (by decide +kernel) (by decide +kernel), wsg_t (i := 812) (by decide +kernel) (by decide +kernel), wsg_t (i := 1) (by decide +kernel) (by decide +kernel), wsg_t (i := 813) (by decide +kernel) (by decide +kernel), by decide +kernel, by decide +kernel, by decide +kernel⟩
set_option maxRecDepth 20000 in
theorem cv_L_52 : CV RL 52 mdX11_payBack 2 := ⟨wsg_t (i := 810) (by decide +kernel) (by decide +kernel), kv_X11_payBack⟩
set_option maxRecDepth 20000 in
theorem kv_X11_window : Cond.instanceMethod mdX11_window.2.1 ∈ WSg ∧ Cond.selects mdX11_window.2.1.cls mdX11_window.2.1 mdX11_window.2.1 ∈ WSg ∧ Cond.initialized mdX11_window.2.1.cls ∈ WSg ∧ Cond.code mdX11_window.2.1 mdX11_window.2.2.1 mdX11_window.2.2.2.1 mdX11_window.2.2.2.2.1 ∈ WSg ∧ mdX11_window.2.1.cls ≠ "java/lang/invoke/MethodHandle" ∧ mdX11_window.2.1.cls ≠ "java/lang/invoke/VarHandle" ∧ (parseMethodDescriptor mdX11_window.2.1.desc).map (fun d => d.parameters.length) = some 2 := ⟨wsg_t (i := 832) (by decide +kernel) (by decide +kernel), wsg_t (i := 833) (by decide +kernel) (by decide +kernel), wsg_t (i := 1) (by decide +kernel) (by decide +kernel), wsg_t (i := 834) (by decide +kernel) (by decide +kernel), by decide +kernel, by decide +kernel, by decide +kernel⟩
set_option maxRecDepth 20000 in
theorem cv_L_55 : CV RL 55 mdX11_window 2 := ⟨wsg_t (i := 831) (by decide +kernel) (by decide +kernel), kv_X11_window⟩
set_option maxRecDepth 20000 in
theorem kv_X11_windowBack : Cond.instanceMethod mdX11_windowBack.2.1 ∈ WSg ∧ Cond.selects mdX11_windowBack.2.1.cls mdX11_windowBack.2.1 mdX11_windowBack.2.1 ∈ WSg ∧ Cond.initialized mdX11_windowBack.2.1.cls ∈ WSg ∧ Cond.code mdX11_windowBack.2.1 mdX11_windowBack.2.2.1 mdX11_windowBack.2.2.2.1 mdX11_windowBack.2.2.2.2.1 ∈ WSg ∧ mdX11_windowBack.2.1.cls ≠ "java/lang/invoke/MethodHandle" ∧ mdX11_windowBack.2.1.cls ≠ "java/lang/invoke/VarHandle" ∧ (parseMethodDescriptor mdX11_windowBack.2.1.desc).map (fun d => d.parameters.length) = some 2 := ⟨wsg_t (i := 847) (by decide +kernel) (by decide +kernel), wsg_t (i := 848) (by decide +kernel) (by decide +kernel), wsg_t (i := 1) (by decide +kernel) (by decide +kernel), wsg_t (i := 849) (by decide +kernel) (by decide +kernel), by decide +kernel, by decide +kernel, by decide +kernel⟩
set_option maxRecDepth 20000 in
theorem cv_L_58 : CV RL 58 mdX11_windowBack 2 := ⟨wsg_t (i := 846) (by decide +kernel) (by decide +kernel), kv_X11_windowBack⟩
set_option maxRecDepth 20000 in
theorem kv_X11_rules : Cond.instanceMethod mdX11_rules.2.1 ∈ WSg ∧ Cond.selects mdX11_rules.2.1.cls mdX11_rules.2.1 mdX11_rules.2.1 ∈ WSg ∧ Cond.initialized mdX11_rules.2.1.cls ∈ WSg ∧ Cond.code mdX11_rules.2.1 mdX11_rules.2.2.1 mdX11_rules.2.2.2.1 mdX11_rules.2.2.2.2.1 ∈ WSg ∧ mdX11_rules.2.1.cls ≠ "java/lang/invoke/MethodHandle" ∧ mdX11_rules.2.1.cls ≠ "java/lang/invoke/VarHandle" ∧ (parseMethodDescriptor mdX11_rules.2.1.desc).map (fun d => d.parameters.length) = some 3 := ⟨wsg_t (i := 854) (by decide +kernel) (by decide +kernel), wsg_t (i := 855) (by decide +kernel) (by decide +kernel), wsg_t (i := 1) (by decide +kernel) (by decide +kernel), wsg_t (i := 856) (by decide +kernel) (by decide +kernel), by decide +kernel, by decide +kernel, by decide +kernel⟩
set_option maxRecDepth 20000 in
theorem cv_L_61 : CV RL 61 mdX11_rules 3 := ⟨wsg_t (i := 853) (by decide +kernel) (by decide +kernel), kv_X11_rules⟩
set_option maxRecDepth 20000 in
theorem kv_X11_buyBonds : Cond.instanceMethod mdX11_buyBonds.2.1 ∈ WSg ∧ Cond.selects mdX11_buyBonds.2.1.cls mdX11_buyBonds.2.1 mdX11_buyBonds.2.1 ∈ WSg ∧ Cond.initialized mdX11_buyBonds.2.1.cls ∈ WSg ∧ Cond.code mdX11_buyBonds.2.1 mdX11_buyBonds.2.2.1 mdX11_buyBonds.2.2.2.1 mdX11_buyBonds.2.2.2.2.1 ∈ WSg ∧ mdX11_buyBonds.2.1.cls ≠ "java/lang/invoke/MethodHandle" ∧ mdX11_buyBonds.2.1.cls ≠ "java/lang/invoke/VarHandle" ∧ (parseMethodDescriptor mdX11_buyBonds.2.1.desc).map (fun d => d.parameters.length) = some 2 := ⟨wsg_t (i := 861) (by decide +kernel) (by decide +kernel), wsg_t (i := 862) (by decide +kernel) (by decide +kernel), wsg_t (i := 1) (by decide +kernel) (by decide +kernel), wsg_t (i := 863) (by decide +kernel) (by decide +kernel), by decide +kernel, by decide +kernel, by decide +kernel⟩
set_option maxRecDepth 20000 in
theorem cv_L_64 : CV RL 64 mdX11_buyBonds 2 := ⟨wsg_t (i := 860) (by decide +kernel) (by decide +kernel), kv_X11_buyBonds⟩
set_option maxRecDepth 20000 in
theorem kv_X11_bid : Cond.instanceMethod mdX11_bid.2.1 ∈ WSg ∧ Cond.selects mdX11_bid.2.1.cls mdX11_bid.2.1 mdX11_bid.2.1 ∈ WSg ∧ Cond.initialized mdX11_bid.2.1.cls ∈ WSg ∧ Cond.code mdX11_bid.2.1 mdX11_bid.2.2.1 mdX11_bid.2.2.2.1 mdX11_bid.2.2.2.2.1 ∈ WSg ∧ mdX11_bid.2.1.cls ≠ "java/lang/invoke/MethodHandle" ∧ mdX11_bid.2.1.cls ≠ "java/lang/invoke/VarHandle" ∧ (parseMethodDescriptor mdX11_bid.2.1.desc).map (fun d => d.parameters.length) = some 3 := ⟨wsg_t (i := 868) (by decide +kernel) (by decide +kernel), wsg_t (i := 869) (by decide +kernel) (by decide +kernel), wsg_t (i := 1) (by decide +kernel) (by decide +kernel), wsg_t (i := 870) (by decide +kernel) (by decide +kernel), by decide +kernel, by decide +kernel, by decide +kernel⟩
set_option maxRecDepth 20000 in
theorem cv_L_67 : CV RL 67 mdX11_bid 3 := ⟨wsg_t (i := 867) (by decide +kernel) (by decide +kernel), kv_X11_bid⟩
set_option maxRecDepth 20000 in
theorem kv_X11_auction : Cond.instanceMethod mdX11_auction.2.1 ∈ WSg ∧ Cond.selects mdX11_auction.2.1.cls mdX11_auction.2.1 mdX11_auction.2.1 ∈ WSg ∧ Cond.initialized mdX11_auction.2.1.cls ∈ WSg ∧ Cond.code mdX11_auction.2.1 mdX11_auction.2.2.1 mdX11_auction.2.2.2.1 mdX11_auction.2.2.2.2.1 ∈ WSg ∧ mdX11_auction.2.1.cls ≠ "java/lang/invoke/MethodHandle" ∧ mdX11_auction.2.1.cls ≠ "java/lang/invoke/VarHandle" ∧ (parseMethodDescriptor mdX11_auction.2.1.desc).map (fun d => d.parameters.length) = some 2 := ⟨wsg_t (i := 883) (by decide +kernel) (by decide +kernel), wsg_t (i := 884) (by decide +kernel) (by decide +kernel), wsg_t (i := 1) (by decide +kernel) (by decide +kernel), wsg_t (i := 885) (by decide +kernel) (by decide +kernel), by decide +kernel, by decide +kernel, by decide +kernel⟩
set_option maxRecDepth 20000 in
theorem cv_L_70 : CV RL 70 mdX11_auction 2 := ⟨wsg_t (i := 882) (by decide +kernel) (by decide +kernel), kv_X11_auction⟩
set_option maxRecDepth 20000 in
theorem kv_X11_levy : Cond.instanceMethod mdX11_levy.2.1 ∈ WSg ∧ Cond.selects mdX11_levy.2.1.cls mdX11_levy.2.1 mdX11_levy.2.1 ∈ WSg ∧ Cond.initialized mdX11_levy.2.1.cls ∈ WSg ∧ Cond.code mdX11_levy.2.1 mdX11_levy.2.2.1 mdX11_levy.2.2.2.1 mdX11_levy.2.2.2.2.1 ∈ WSg ∧ mdX11_levy.2.1.cls ≠ "java/lang/invoke/MethodHandle" ∧ mdX11_levy.2.1.cls ≠ "java/lang/invoke/VarHandle" ∧ (parseMethodDescriptor mdX11_levy.2.1.desc).map (fun d => d.parameters.length) = some 2 := ⟨wsg_t (i := 912) (by decide +kernel) (by decide +kernel), wsg_t (i := 913) (by decide +kernel) (by decide +kernel), wsg_t (i := 1) (by decide +kernel) (by decide +kernel), wsg_t (i := 914) (by decide +kernel) (by decide +kernel), by decide +kernel, by decide +kernel, by decide +kernel⟩
set_option maxRecDepth 20000 in
theorem cv_L_73 : CV RL 73 mdX11_levy 2 := ⟨wsg_t (i := 911) (by decide +kernel) (by decide +kernel), kv_X11_levy⟩
set_option maxRecDepth 20000 in
theorem kv_X11_spend : Cond.instanceMethod mdX11_spend.2.1 ∈ WSg ∧ Cond.selects mdX11_spend.2.1.cls mdX11_spend.2.1 mdX11_spend.2.1 ∈ WSg ∧ Cond.initialized mdX11_spend.2.1.cls ∈ WSg ∧ Cond.code mdX11_spend.2.1 mdX11_spend.2.2.1 mdX11_spend.2.2.2.1 mdX11_spend.2.2.2.2.1 ∈ WSg ∧ mdX11_spend.2.1.cls ≠ "java/lang/invoke/MethodHandle" ∧ mdX11_spend.2.1.cls ≠ "java/lang/invoke/VarHandle" ∧ (parseMethodDescriptor mdX11_spend.2.1.desc).map (fun d => d.parameters.length) = some 2 := ⟨wsg_t (i := 919) (by decide +kernel) (by decide +kernel), wsg_t (i := 920) (by decide +kernel) (by decide +kernel), wsg_t (i := 1) (by decide +kernel) (by decide +kernel), wsg_t (i := 921) (by decide +kernel) (by decide +kernel), by decide +kernel, by decide +kernel, by decide +kernel⟩
set_option maxRecDepth 20000 in
theorem cv_L_76 : CV RL 76 mdX11_spend 2 := ⟨wsg_t (i := 918) (by decide +kernel) (by decide +kernel), kv_X11_spend⟩
set_option maxRecDepth 20000 in
theorem kv_X11_exchange : Cond.instanceMethod mdX11_exchange.2.1 ∈ WSg ∧ Cond.selects mdX11_exchange.2.1.cls mdX11_exchange.2.1 mdX11_exchange.2.1 ∈ WSg ∧ Cond.initialized mdX11_exchange.2.1.cls ∈ WSg ∧ Cond.code mdX11_exchange.2.1 mdX11_exchange.2.2.1 mdX11_exchange.2.2.2.1 mdX11_exchange.2.2.2.2.1 ∈ WSg ∧ mdX11_exchange.2.1.cls ≠ "java/lang/invoke/MethodHandle" ∧ mdX11_exchange.2.1.cls ≠ "java/lang/invoke/VarHandle" ∧ (parseMethodDescriptor mdX11_exchange.2.1.desc).map (fun d => d.parameters.length) = some 1 := ⟨wsg_t (i := 926) (by decide +kernel) (by decide +kernel), wsg_t (i := 927) (by decide +kernel) (by decide +kernel), wsg_t (i := 1) (by decide +kernel) (by decide +kernel), wsg_t (i := 928) (by decide +kernel) (by decide +kernel), by decide +kernel, by decide +kernel, by decide +kernel⟩
set_option maxRecDepth 20000 in
theorem cv_L_79 : CV RL 79 mdX11_exchange 1 := ⟨wsg_t (i := 925) (by decide +kernel) (by decide +kernel), kv_X11_exchange⟩
set_option maxRecDepth 20000 in
theorem kv_X11_abroad : Cond.instanceMethod mdX11_abroad.2.1 ∈ WSg ∧ Cond.selects mdX11_abroad.2.1.cls mdX11_abroad.2.1 mdX11_abroad.2.1 ∈ WSg ∧ Cond.initialized mdX11_abroad.2.1.cls ∈ WSg ∧ Cond.code mdX11_abroad.2.1 mdX11_abroad.2.2.1 mdX11_abroad.2.2.2.1 mdX11_abroad.2.2.2.2.1 ∈ WSg ∧ mdX11_abroad.2.1.cls ≠ "java/lang/invoke/MethodHandle" ∧ mdX11_abroad.2.1.cls ≠ "java/lang/invoke/VarHandle" ∧ (parseMethodDescriptor mdX11_abroad.2.1.desc).map (fun d => d.parameters.length) = some 3 := ⟨wsg_t (i := 933) (by decide +kernel) (by decide +kernel), wsg_t (i := 934) (by decide +kernel) (by decide +kernel), wsg_t (i := 1) (by decide +kernel) (by decide +kernel), wsg_t (i := 935) (by decide +kernel) (by decide +kernel), by decide +kernel, by decide +kernel, by decide +kernel⟩
set_option maxRecDepth 20000 in
theorem cv_L_82 : CV RL 82 mdX11_abroad 3 := ⟨wsg_t (i := 932) (by decide +kernel) (by decide +kernel), kv_X11_abroad⟩
set_option maxRecDepth 20000 in
theorem kv_X11_hire : Cond.instanceMethod mdX11_hire.2.1 ∈ WSg ∧ Cond.selects mdX11_hire.2.1.cls mdX11_hire.2.1 mdX11_hire.2.1 ∈ WSg ∧ Cond.initialized mdX11_hire.2.1.cls ∈ WSg ∧ Cond.code mdX11_hire.2.1 mdX11_hire.2.2.1 mdX11_hire.2.2.2.1 mdX11_hire.2.2.2.2.1 ∈ WSg ∧ mdX11_hire.2.1.cls ≠ "java/lang/invoke/MethodHandle" ∧ mdX11_hire.2.1.cls ≠ "java/lang/invoke/VarHandle" ∧ (parseMethodDescriptor mdX11_hire.2.1.desc).map (fun d => d.parameters.length) = some 3 := ⟨wsg_t (i := 943) (by decide +kernel) (by decide +kernel), wsg_t (i := 944) (by decide +kernel) (by decide +kernel), wsg_t (i := 1) (by decide +kernel) (by decide +kernel), wsg_t (i := 945) (by decide +kernel) (by decide +kernel), by decide +kernel, by decide +kernel, by decide +kernel⟩
set_option maxRecDepth 20000 in
theorem cv_L_86 : CV RL 86 mdX11_hire 3 := ⟨wsg_t (i := 942) (by decide +kernel) (by decide +kernel), kv_X11_hire⟩
set_option maxRecDepth 20000 in
theorem kv_X11_buy : Cond.instanceMethod mdX11_buy.2.1 ∈ WSg ∧ Cond.selects mdX11_buy.2.1.cls mdX11_buy.2.1 mdX11_buy.2.1 ∈ WSg ∧ Cond.initialized mdX11_buy.2.1.cls ∈ WSg ∧ Cond.code mdX11_buy.2.1 mdX11_buy.2.2.1 mdX11_buy.2.2.2.1 mdX11_buy.2.2.2.2.1 ∈ WSg ∧ mdX11_buy.2.1.cls ≠ "java/lang/invoke/MethodHandle" ∧ mdX11_buy.2.1.cls ≠ "java/lang/invoke/VarHandle" ∧ (parseMethodDescriptor mdX11_buy.2.1.desc).map (fun d => d.parameters.length) = some 3 := ⟨wsg_t (i := 953) (by decide +kernel) (by decide +kernel), wsg_t (i := 954) (by decide +kernel) (by decide +kernel), wsg_t (i := 1) (by decide +kernel) (by decide +kernel), wsg_t (i := 955) (by decide +kernel) (by decide +kernel), by decide +kernel, by decide +kernel, by decide +kernel⟩
set_option maxRecDepth 20000 in
theorem cv_L_89 : CV RL 89 mdX11_buy 3 := ⟨wsg_t (i := 952) (by decide +kernel) (by decide +kernel), kv_X11_buy⟩
set_option maxRecDepth 20000 in
theorem kv_X11_day : Cond.instanceMethod mdX11_day.2.1 ∈ WSg ∧ Cond.selects mdX11_day.2.1.cls mdX11_day.2.1 mdX11_day.2.1 ∈ WSg ∧ Cond.initialized mdX11_day.2.1.cls ∈ WSg ∧ Cond.code mdX11_day.2.1 mdX11_day.2.2.1 mdX11_day.2.2.2.1 mdX11_day.2.2.2.2.1 ∈ WSg ∧ mdX11_day.2.1.cls ≠ "java/lang/invoke/MethodHandle" ∧ mdX11_day.2.1.cls ≠ "java/lang/invoke/VarHandle" ∧ (parseMethodDescriptor mdX11_day.2.1.desc).map (fun d => d.parameters.length) = some 1 := ⟨wsg_t (i := 960) (by decide +kernel) (by decide +kernel), wsg_t (i := 961) (by decide +kernel) (by decide +kernel), wsg_t (i := 1) (by decide +kernel) (by decide +kernel), wsg_t (i := 962) (by decide +kernel) (by decide +kernel), by decide +kernel, by decide +kernel, by decide +kernel⟩
set_option maxRecDepth 20000 in
theorem cv_L_92 : CV RL 92 mdX11_day 1 := ⟨wsg_t (i := 959) (by decide +kernel) (by decide +kernel), kv_X11_day⟩
set_option maxRecDepth 20000 in
theorem kv_X11_fail : Cond.instanceMethod mdX11_fail.2.1 ∈ WSg ∧ Cond.selects mdX11_fail.2.1.cls mdX11_fail.2.1 mdX11_fail.2.1 ∈ WSg ∧ Cond.initialized mdX11_fail.2.1.cls ∈ WSg ∧ Cond.code mdX11_fail.2.1 mdX11_fail.2.2.1 mdX11_fail.2.2.2.1 mdX11_fail.2.2.2.2.1 ∈ WSg ∧ mdX11_fail.2.1.cls ≠ "java/lang/invoke/MethodHandle" ∧ mdX11_fail.2.1.cls ≠ "java/lang/invoke/VarHandle" ∧ (parseMethodDescriptor mdX11_fail.2.1.desc).map (fun d => d.parameters.length) = some 1 := ⟨wsg_t (i := 1037) (by decide +kernel) (by decide +kernel), wsg_t (i := 1038) (by decide +kernel) (by decide +kernel), wsg_t (i := 1) (by decide +kernel) (by decide +kernel), wsg_t (i := 1039) (by decide +kernel) (by decide +kernel), by decide +kernel, by decide +kernel, by decide +kernel⟩
set_option maxRecDepth 20000 in
theorem cv_L_95 : CV RL 95 mdX11_fail 1 := ⟨wsg_t (i := 1036) (by decide +kernel) (by decide +kernel), kv_X11_fail⟩
set_option maxRecDepth 20000 in
theorem kv_X11_ofHolder : Cond.instanceMethod mdX11_ofHolder.2.1 ∈ WSg ∧ Cond.selects mdX11_ofHolder.2.1.cls mdX11_ofHolder.2.1 mdX11_ofHolder.2.1 ∈ WSg ∧ Cond.initialized mdX11_ofHolder.2.1.cls ∈ WSg ∧ Cond.code mdX11_ofHolder.2.1 mdX11_ofHolder.2.2.1 mdX11_ofHolder.2.2.2.1 mdX11_ofHolder.2.2.2.2.1 ∈ WSg ∧ mdX11_ofHolder.2.1.cls ≠ "java/lang/invoke/MethodHandle" ∧ mdX11_ofHolder.2.1.cls ≠ "java/lang/invoke/VarHandle" ∧ (parseMethodDescriptor mdX11_ofHolder.2.1.desc).map (fun d => d.parameters.length) = some 2 := ⟨wsg_t (i := 1044) (by decide +kernel) (by decide +kernel), wsg_t (i := 1045) (by decide +kernel) (by decide +kernel), wsg_t (i := 1) (by decide +kernel) (by decide +kernel), wsg_t (i := 1046) (by decide +kernel) (by decide +kernel), by decide +kernel, by decide +kernel, by decide +kernel⟩
set_option maxRecDepth 20000 in
theorem cv_L_98 : CV RL 98 mdX11_ofHolder 2 := ⟨wsg_t (i := 1043) (by decide +kernel) (by decide +kernel), kv_X11_ofHolder⟩
set_option maxRecDepth 20000 in
theorem kv_X11_accountAnew : Cond.instanceMethod mdX11_accountAnew.2.1 ∈ WSg ∧ Cond.selects mdX11_accountAnew.2.1.cls mdX11_accountAnew.2.1 mdX11_accountAnew.2.1 ∈ WSg ∧ Cond.initialized mdX11_accountAnew.2.1.cls ∈ WSg ∧ Cond.code mdX11_accountAnew.2.1 mdX11_accountAnew.2.2.1 mdX11_accountAnew.2.2.2.1 mdX11_accountAnew.2.2.2.2.1 ∈ WSg ∧ mdX11_accountAnew.2.1.cls ≠ "java/lang/invoke/MethodHandle" ∧ mdX11_accountAnew.2.1.cls ≠ "java/lang/invoke/VarHandle" ∧ (parseMethodDescriptor mdX11_accountAnew.2.1.desc).map (fun d => d.parameters.length) = some 1 := ⟨wsg_t (i := 1051) (by decide +kernel) (by decide +kernel), wsg_t (i := 1052) (by decide +kernel) (by decide +kernel), wsg_t (i := 1) (by decide +kernel) (by decide +kernel), wsg_t (i := 1053) (by decide +kernel) (by decide +kernel), by decide +kernel, by decide +kernel, by decide +kernel⟩
set_option maxRecDepth 20000 in
theorem cv_L_101 : CV RL 101 mdX11_accountAnew 1 := ⟨wsg_t (i := 1050) (by decide +kernel) (by decide +kernel), kv_X11_accountAnew⟩
set_option maxRecDepth 20000 in
theorem kv_X11_ofBank : Cond.instanceMethod mdX11_ofBank.2.1 ∈ WSg ∧ Cond.selects mdX11_ofBank.2.1.cls mdX11_ofBank.2.1 mdX11_ofBank.2.1 ∈ WSg ∧ Cond.initialized mdX11_ofBank.2.1.cls ∈ WSg ∧ Cond.code mdX11_ofBank.2.1 mdX11_ofBank.2.2.1 mdX11_ofBank.2.2.2.1 mdX11_ofBank.2.2.2.2.1 ∈ WSg ∧ mdX11_ofBank.2.1.cls ≠ "java/lang/invoke/MethodHandle" ∧ mdX11_ofBank.2.1.cls ≠ "java/lang/invoke/VarHandle" ∧ (parseMethodDescriptor mdX11_ofBank.2.1.desc).map (fun d => d.parameters.length) = some 2 := ⟨wsg_t (i := 1058) (by decide +kernel) (by decide +kernel), wsg_t (i := 1059) (by decide +kernel) (by decide +kernel), wsg_t (i := 1) (by decide +kernel) (by decide +kernel), wsg_t (i := 1060) (by decide +kernel) (by decide +kernel), by decide +kernel, by decide +kernel, by decide +kernel⟩
set_option maxRecDepth 20000 in
theorem cv_L_104 : CV RL 104 mdX11_ofBank 2 := ⟨wsg_t (i := 1057) (by decide +kernel) (by decide +kernel), kv_X11_ofBank⟩
set_option maxRecDepth 20000 in
theorem kv_X11_ofLoan : Cond.instanceMethod mdX11_ofLoan.2.1 ∈ WSg ∧ Cond.selects mdX11_ofLoan.2.1.cls mdX11_ofLoan.2.1 mdX11_ofLoan.2.1 ∈ WSg ∧ Cond.initialized mdX11_ofLoan.2.1.cls ∈ WSg ∧ Cond.code mdX11_ofLoan.2.1 mdX11_ofLoan.2.2.1 mdX11_ofLoan.2.2.2.1 mdX11_ofLoan.2.2.2.2.1 ∈ WSg ∧ mdX11_ofLoan.2.1.cls ≠ "java/lang/invoke/MethodHandle" ∧ mdX11_ofLoan.2.1.cls ≠ "java/lang/invoke/VarHandle" ∧ (parseMethodDescriptor mdX11_ofLoan.2.1.desc).map (fun d => d.parameters.length) = some 2 := ⟨wsg_t (i := 1073) (by decide +kernel) (by decide +kernel), wsg_t (i := 1074) (by decide +kernel) (by decide +kernel), wsg_t (i := 1) (by decide +kernel) (by decide +kernel), wsg_t (i := 1075) (by decide +kernel) (by decide +kernel), by decide +kernel, by decide +kernel, by decide +kernel⟩
set_option maxRecDepth 20000 in
theorem cv_L_107 : CV RL 107 mdX11_ofLoan 2 := ⟨wsg_t (i := 1072) (by decide +kernel) (by decide +kernel), kv_X11_ofLoan⟩
set_option maxRecDepth 20000 in
theorem kv_X11_payment : Cond.instanceMethod mdX11_payment.2.1 ∈ WSg ∧ Cond.selects mdX11_payment.2.1.cls mdX11_payment.2.1 mdX11_payment.2.1 ∈ WSg ∧ Cond.initialized mdX11_payment.2.1.cls ∈ WSg ∧ Cond.code mdX11_payment.2.1 mdX11_payment.2.2.1 mdX11_payment.2.2.2.1 mdX11_payment.2.2.2.2.1 ∈ WSg ∧ mdX11_payment.2.1.cls ≠ "java/lang/invoke/MethodHandle" ∧ mdX11_payment.2.1.cls ≠ "java/lang/invoke/VarHandle" ∧ (parseMethodDescriptor mdX11_payment.2.1.desc).map (fun d => d.parameters.length) = some 1 := ⟨wsg_t (i := 1080) (by decide +kernel) (by decide +kernel), wsg_t (i := 1081) (by decide +kernel) (by decide +kernel), wsg_t (i := 1) (by decide +kernel) (by decide +kernel), wsg_t (i := 1082) (by decide +kernel) (by decide +kernel), by decide +kernel, by decide +kernel, by decide +kernel⟩
set_option maxRecDepth 20000 in
theorem cv_L_110 : CV RL 110 mdX11_payment 1 := ⟨wsg_t (i := 1079) (by decide +kernel) (by decide +kernel), kv_X11_payment⟩
set_option maxRecDepth 20000 in
theorem kv_X11_price : Cond.instanceMethod mdX11_price.2.1 ∈ WSg ∧ Cond.selects mdX11_price.2.1.cls mdX11_price.2.1 mdX11_price.2.1 ∈ WSg ∧ Cond.initialized mdX11_price.2.1.cls ∈ WSg ∧ Cond.code mdX11_price.2.1 mdX11_price.2.2.1 mdX11_price.2.2.2.1 mdX11_price.2.2.2.2.1 ∈ WSg ∧ mdX11_price.2.1.cls ≠ "java/lang/invoke/MethodHandle" ∧ mdX11_price.2.1.cls ≠ "java/lang/invoke/VarHandle" ∧ (parseMethodDescriptor mdX11_price.2.1.desc).map (fun d => d.parameters.length) = some 1 := ⟨wsg_t (i := 1088) (by decide +kernel) (by decide +kernel), wsg_t (i := 1089) (by decide +kernel) (by decide +kernel), wsg_t (i := 1) (by decide +kernel) (by decide +kernel), wsg_t (i := 1090) (by decide +kernel) (by decide +kernel), by decide +kernel, by decide +kernel, by decide +kernel⟩
set_option maxRecDepth 20000 in
theorem cv_L_113 : CV RL 113 mdX11_price 1 := ⟨wsg_t (i := 1087) (by decide +kernel) (by decide +kernel), kv_X11_price⟩
set_option maxRecDepth 20000 in
theorem kv_X11_sales : Cond.instanceMethod mdX11_sales.2.1 ∈ WSg ∧ Cond.selects mdX11_sales.2.1.cls mdX11_sales.2.1 mdX11_sales.2.1 ∈ WSg ∧ Cond.initialized mdX11_sales.2.1.cls ∈ WSg ∧ Cond.code mdX11_sales.2.1 mdX11_sales.2.2.1 mdX11_sales.2.2.2.1 mdX11_sales.2.2.2.2.1 ∈ WSg ∧ mdX11_sales.2.1.cls ≠ "java/lang/invoke/MethodHandle" ∧ mdX11_sales.2.1.cls ≠ "java/lang/invoke/VarHandle" ∧ (parseMethodDescriptor mdX11_sales.2.1.desc).map (fun d => d.parameters.length) = some 2 := ⟨wsg_t (i := 1095) (by decide +kernel) (by decide +kernel), wsg_t (i := 1096) (by decide +kernel) (by decide +kernel), wsg_t (i := 1) (by decide +kernel) (by decide +kernel), wsg_t (i := 1097) (by decide +kernel) (by decide +kernel), by decide +kernel, by decide +kernel, by decide +kernel⟩
set_option maxRecDepth 20000 in
theorem cv_L_116 : CV RL 116 mdX11_sales 2 := ⟨wsg_t (i := 1094) (by decide +kernel) (by decide +kernel), kv_X11_sales⟩
def hhL_mint : List (Nat × Nat × Nat × Nat) := [(0, 10, 13, 13), (0, 10, 17, 15)]
set_option maxRecDepth 20000 in
theorem kh_L_mint : Cond.static mdL_mint.2.1 ∈ WSg ∧ Cond.initialized mdL_mint.2.1.cls ∈ WSg ∧ Cond.codeWith mdL_mint.2.1 mdL_mint.2.2.1 mdL_mint.2.2.2.1 mdL_mint.2.2.2.2.1 hhL_mint ∈ WSg ∧ mdL_mint.2.1.cls ≠ "java/lang/invoke/MethodHandle" ∧ mdL_mint.2.1.cls ≠ "java/lang/invoke/VarHandle" ∧ (parseMethodDescriptor mdL_mint.2.1.desc).map (fun d => d.parameters.length) = some 4 := ⟨wsg_t (i := 487) (by decide +kernel) (by decide +kernel), wsg_t (i := 0) (by decide +kernel) (by decide +kernel), wsg_t (i := 488) (by decide +kernel) (by decide +kernel), by decide +kernel, by decide +kernel, by decide +kernel⟩
set_option maxRecDepth 20000 in
theorem ch_L_124 : CH RL 124 mdL_mint hhL_mint 4 := ⟨wsg_t (i := 486) (by decide +kernel) (by decide +kernel), kh_L_mint⟩
set_option maxRecDepth 20000 in
theorem kv_X12_mint : Cond.instanceMethod mdX12_mint.2.1 ∈ WSg ∧ Cond.selects mdX12_mint.2.1.cls mdX12_mint.2.1 mdX12_mint.2.1 ∈ WSg ∧ Cond.initialized mdX12_mint.2.1.cls ∈ WSg ∧ Cond.code mdX12_mint.2.1 mdX12_mint.2.2.1 mdX12_mint.2.2.2.1 mdX12_mint.2.2.2.2.1 ∈ WSg ∧ mdX12_mint.2.1.cls ≠ "java/lang/invoke/MethodHandle" ∧ mdX12_mint.2.1.cls ≠ "java/lang/invoke/VarHandle" ∧ (parseMethodDescriptor mdX12_mint.2.1.desc).map (fun d => d.parameters.length) = some 2 := ⟨wsg_t (i := 1271) (by decide +kernel) (by decide +kernel), wsg_t (i := 1272) (by decide +kernel) (by decide +kernel), wsg_t (i := 13) (by decide +kernel) (by decide +kernel), wsg_t (i := 1273) (by decide +kernel) (by decide +kernel), by decide +kernel, by decide +kernel, by decide +kernel⟩
set_option maxRecDepth 20000 in
theorem cv_L_129 : CV RL 129 mdX12_mint 2 := ⟨wsg_t (i := 1270) (by decide +kernel) (by decide +kernel), kv_X12_mint⟩
set_option maxRecDepth 20000 in
theorem kv_X12_thrown : Cond.instanceMethod mdX12_thrown.2.1 ∈ WSg ∧ Cond.selects mdX12_thrown.2.1.cls mdX12_thrown.2.1 mdX12_thrown.2.1 ∈ WSg ∧ Cond.initialized mdX12_thrown.2.1.cls ∈ WSg ∧ Cond.code mdX12_thrown.2.1 mdX12_thrown.2.2.1 mdX12_thrown.2.2.2.1 mdX12_thrown.2.2.2.2.1 ∈ WSg ∧ mdX12_thrown.2.1.cls ≠ "java/lang/invoke/MethodHandle" ∧ mdX12_thrown.2.1.cls ≠ "java/lang/invoke/VarHandle" ∧ (parseMethodDescriptor mdX12_thrown.2.1.desc).map (fun d => d.parameters.length) = some 0 := ⟨wsg_t (i := 1267) (by decide +kernel) (by decide +kernel), wsg_t (i := 1268) (by decide +kernel) (by decide +kernel), wsg_t (i := 13) (by decide +kernel) (by decide +kernel), wsg_t (i := 1269) (by decide +kernel) (by decide +kernel), by decide +kernel, by decide +kernel, by decide +kernel⟩
set_option maxRecDepth 20000 in
theorem cv_L_130 : CV RL 130 mdX12_thrown 0 := ⟨wsg_t (i := 1266) (by decide +kernel) (by decide +kernel), kv_X12_thrown⟩
def hhL_forge : List (Nat × Nat × Nat × Nat) := [(0, 10, 13, 13), (0, 10, 17, 15)]
set_option maxRecDepth 20000 in
theorem kh_L_forge : Cond.static mdL_forge.2.1 ∈ WSg ∧ Cond.initialized mdL_forge.2.1.cls ∈ WSg ∧ Cond.codeWith mdL_forge.2.1 mdL_forge.2.2.1 mdL_forge.2.2.2.1 mdL_forge.2.2.2.2.1 hhL_forge ∈ WSg ∧ mdL_forge.2.1.cls ≠ "java/lang/invoke/MethodHandle" ∧ mdL_forge.2.1.cls ≠ "java/lang/invoke/VarHandle" ∧ (parseMethodDescriptor mdL_forge.2.1.desc).map (fun d => d.parameters.length) = some 4 := ⟨wsg_t (i := 600) (by decide +kernel) (by decide +kernel), wsg_t (i := 0) (by decide +kernel) (by decide +kernel), wsg_t (i := 601) (by decide +kernel) (by decide +kernel), by decide +kernel, by decide +kernel, by decide +kernel⟩
set_option maxRecDepth 20000 in
theorem ch_L_134 : CH RL 134 mdL_forge hhL_forge 4 := ⟨wsg_t (i := 599) (by decide +kernel) (by decide +kernel), kh_L_forge⟩
set_option maxRecDepth 20000 in
theorem kv_X12_forge : Cond.instanceMethod mdX12_forge.2.1 ∈ WSg ∧ Cond.selects mdX12_forge.2.1.cls mdX12_forge.2.1 mdX12_forge.2.1 ∈ WSg ∧ Cond.initialized mdX12_forge.2.1.cls ∈ WSg ∧ Cond.code mdX12_forge.2.1 mdX12_forge.2.2.1 mdX12_forge.2.2.2.1 mdX12_forge.2.2.2.2.1 ∈ WSg ∧ mdX12_forge.2.1.cls ≠ "java/lang/invoke/MethodHandle" ∧ mdX12_forge.2.1.cls ≠ "java/lang/invoke/VarHandle" ∧ (parseMethodDescriptor mdX12_forge.2.1.desc).map (fun d => d.parameters.length) = some 2 := ⟨wsg_t (i := 1285) (by decide +kernel) (by decide +kernel), wsg_t (i := 1286) (by decide +kernel) (by decide +kernel), wsg_t (i := 13) (by decide +kernel) (by decide +kernel), wsg_t (i := 1287) (by decide +kernel) (by decide +kernel), by decide +kernel, by decide +kernel, by decide +kernel⟩
set_option maxRecDepth 20000 in
theorem cv_L_136 : CV RL 136 mdX12_forge 2 := ⟨wsg_t (i := 1284) (by decide +kernel) (by decide +kernel), kv_X12_forge⟩
def hhL_hand : List (Nat × Nat × Nat × Nat) := [(0, 12, 15, 13), (0, 12, 19, 15), (0, 12, 23, 24)]
set_option maxRecDepth 20000 in
theorem kh_L_hand : Cond.static mdL_hand.2.1 ∈ WSg ∧ Cond.initialized mdL_hand.2.1.cls ∈ WSg ∧ Cond.codeWith mdL_hand.2.1 mdL_hand.2.2.1 mdL_hand.2.2.2.1 mdL_hand.2.2.2.2.1 hhL_hand ∈ WSg ∧ mdL_hand.2.1.cls ≠ "java/lang/invoke/MethodHandle" ∧ mdL_hand.2.1.cls ≠ "java/lang/invoke/VarHandle" ∧ (parseMethodDescriptor mdL_hand.2.1.desc).map (fun d => d.parameters.length) = some 5 := ⟨wsg_t (i := 607) (by decide +kernel) (by decide +kernel), wsg_t (i := 0) (by decide +kernel) (by decide +kernel), wsg_t (i := 608) (by decide +kernel) (by decide +kernel), by decide +kernel, by decide +kernel, by decide +kernel⟩
set_option maxRecDepth 20000 in
theorem ch_L_137 : CH RL 137 mdL_hand hhL_hand 5 := ⟨wsg_t (i := 606) (by decide +kernel) (by decide +kernel), kh_L_hand⟩
set_option maxRecDepth 20000 in
theorem kv_X12_hand : Cond.instanceMethod mdX12_hand.2.1 ∈ WSg ∧ Cond.selects mdX12_hand.2.1.cls mdX12_hand.2.1 mdX12_hand.2.1 ∈ WSg ∧ Cond.initialized mdX12_hand.2.1.cls ∈ WSg ∧ Cond.code mdX12_hand.2.1 mdX12_hand.2.2.1 mdX12_hand.2.2.2.1 mdX12_hand.2.2.2.2.1 ∈ WSg ∧ mdX12_hand.2.1.cls ≠ "java/lang/invoke/MethodHandle" ∧ mdX12_hand.2.1.cls ≠ "java/lang/invoke/VarHandle" ∧ (parseMethodDescriptor mdX12_hand.2.1.desc).map (fun d => d.parameters.length) = some 3 := ⟨wsg_t (i := 1289) (by decide +kernel) (by decide +kernel), wsg_t (i := 1290) (by decide +kernel) (by decide +kernel), wsg_t (i := 13) (by decide +kernel) (by decide +kernel), wsg_t (i := 1291) (by decide +kernel) (by decide +kernel), by decide +kernel, by decide +kernel, by decide +kernel⟩
set_option maxRecDepth 20000 in
theorem cv_L_140 : CV RL 140 mdX12_hand 3 := ⟨wsg_t (i := 1288) (by decide +kernel) (by decide +kernel), kv_X12_hand⟩
def hhL_open : List (Nat × Nat × Nat × Nat) := [(0, 10, 13, 13), (0, 10, 17, 24)]
set_option maxRecDepth 20000 in
theorem kh_L_open : Cond.static mdL_open.2.1 ∈ WSg ∧ Cond.initialized mdL_open.2.1.cls ∈ WSg ∧ Cond.codeWith mdL_open.2.1 mdL_open.2.2.1 mdL_open.2.2.2.1 mdL_open.2.2.2.2.1 hhL_open ∈ WSg ∧ mdL_open.2.1.cls ≠ "java/lang/invoke/MethodHandle" ∧ mdL_open.2.1.cls ≠ "java/lang/invoke/VarHandle" ∧ (parseMethodDescriptor mdL_open.2.1.desc).map (fun d => d.parameters.length) = some 4 := ⟨wsg_t (i := 641) (by decide +kernel) (by decide +kernel), wsg_t (i := 0) (by decide +kernel) (by decide +kernel), wsg_t (i := 642) (by decide +kernel) (by decide +kernel), by decide +kernel, by decide +kernel, by decide +kernel⟩
set_option maxRecDepth 20000 in
theorem ch_L_141 : CH RL 141 mdL_open hhL_open 4 := ⟨wsg_t (i := 640) (by decide +kernel) (by decide +kernel), kh_L_open⟩
set_option maxRecDepth 20000 in
theorem kv_X12_open : Cond.instanceMethod mdX12_open.2.1 ∈ WSg ∧ Cond.selects mdX12_open.2.1.cls mdX12_open.2.1 mdX12_open.2.1 ∈ WSg ∧ Cond.initialized mdX12_open.2.1.cls ∈ WSg ∧ Cond.code mdX12_open.2.1 mdX12_open.2.2.1 mdX12_open.2.2.2.1 mdX12_open.2.2.2.2.1 ∈ WSg ∧ mdX12_open.2.1.cls ≠ "java/lang/invoke/MethodHandle" ∧ mdX12_open.2.1.cls ≠ "java/lang/invoke/VarHandle" ∧ (parseMethodDescriptor mdX12_open.2.1.desc).map (fun d => d.parameters.length) = some 2 := ⟨wsg_t (i := 1297) (by decide +kernel) (by decide +kernel), wsg_t (i := 1298) (by decide +kernel) (by decide +kernel), wsg_t (i := 13) (by decide +kernel) (by decide +kernel), wsg_t (i := 1299) (by decide +kernel) (by decide +kernel), by decide +kernel, by decide +kernel, by decide +kernel⟩
set_option maxRecDepth 20000 in
theorem cv_L_143 : CV RL 143 mdX12_open 2 := ⟨wsg_t (i := 1296) (by decide +kernel) (by decide +kernel), kv_X12_open⟩
def hhL_close : List (Nat × Nat × Nat × Nat) := [(0, 9, 12, 13), (0, 9, 15, 24)]
set_option maxRecDepth 20000 in
theorem kh_L_close : Cond.static mdL_close.2.1 ∈ WSg ∧ Cond.initialized mdL_close.2.1.cls ∈ WSg ∧ Cond.codeWith mdL_close.2.1 mdL_close.2.2.1 mdL_close.2.2.2.1 mdL_close.2.2.2.2.1 hhL_close ∈ WSg ∧ mdL_close.2.1.cls ≠ "java/lang/invoke/MethodHandle" ∧ mdL_close.2.1.cls ≠ "java/lang/invoke/VarHandle" ∧ (parseMethodDescriptor mdL_close.2.1.desc).map (fun d => d.parameters.length) = some 3 := ⟨wsg_t (i := 655) (by decide +kernel) (by decide +kernel), wsg_t (i := 0) (by decide +kernel) (by decide +kernel), wsg_t (i := 656) (by decide +kernel) (by decide +kernel), by decide +kernel, by decide +kernel, by decide +kernel⟩
set_option maxRecDepth 20000 in
theorem ch_L_144 : CH RL 144 mdL_close hhL_close 3 := ⟨wsg_t (i := 654) (by decide +kernel) (by decide +kernel), kh_L_close⟩
set_option maxRecDepth 20000 in
theorem kv_X12_close : Cond.instanceMethod mdX12_close.2.1 ∈ WSg ∧ Cond.selects mdX12_close.2.1.cls mdX12_close.2.1 mdX12_close.2.1 ∈ WSg ∧ Cond.initialized mdX12_close.2.1.cls ∈ WSg ∧ Cond.code mdX12_close.2.1 mdX12_close.2.2.1 mdX12_close.2.2.2.1 mdX12_close.2.2.2.2.1 ∈ WSg ∧ mdX12_close.2.1.cls ≠ "java/lang/invoke/MethodHandle" ∧ mdX12_close.2.1.cls ≠ "java/lang/invoke/VarHandle" ∧ (parseMethodDescriptor mdX12_close.2.1.desc).map (fun d => d.parameters.length) = some 1 := ⟨wsg_t (i := 1308) (by decide +kernel) (by decide +kernel), wsg_t (i := 1309) (by decide +kernel) (by decide +kernel), wsg_t (i := 13) (by decide +kernel) (by decide +kernel), wsg_t (i := 1310) (by decide +kernel) (by decide +kernel), by decide +kernel, by decide +kernel, by decide +kernel⟩
set_option maxRecDepth 20000 in
theorem cv_L_147 : CV RL 147 mdX12_close 1 := ⟨wsg_t (i := 1307) (by decide +kernel) (by decide +kernel), kv_X12_close⟩
def hhL_bring : List (Nat × Nat × Nat × Nat) := [(0, 10, 13, 13), (0, 10, 17, 15), (0, 10, 21, 24)]
set_option maxRecDepth 20000 in
theorem kh_L_bring : Cond.static mdL_bring.2.1 ∈ WSg ∧ Cond.initialized mdL_bring.2.1.cls ∈ WSg ∧ Cond.codeWith mdL_bring.2.1 mdL_bring.2.2.1 mdL_bring.2.2.2.1 mdL_bring.2.2.2.2.1 hhL_bring ∈ WSg ∧ mdL_bring.2.1.cls ≠ "java/lang/invoke/MethodHandle" ∧ mdL_bring.2.1.cls ≠ "java/lang/invoke/VarHandle" ∧ (parseMethodDescriptor mdL_bring.2.1.desc).map (fun d => d.parameters.length) = some 4 := ⟨wsg_t (i := 666) (by decide +kernel) (by decide +kernel), wsg_t (i := 0) (by decide +kernel) (by decide +kernel), wsg_t (i := 667) (by decide +kernel) (by decide +kernel), by decide +kernel, by decide +kernel, by decide +kernel⟩
set_option maxRecDepth 20000 in
theorem ch_L_148 : CH RL 148 mdL_bring hhL_bring 4 := ⟨wsg_t (i := 665) (by decide +kernel) (by decide +kernel), kh_L_bring⟩
set_option maxRecDepth 20000 in
theorem kv_X12_bring : Cond.instanceMethod mdX12_bring.2.1 ∈ WSg ∧ Cond.selects mdX12_bring.2.1.cls mdX12_bring.2.1 mdX12_bring.2.1 ∈ WSg ∧ Cond.initialized mdX12_bring.2.1.cls ∈ WSg ∧ Cond.code mdX12_bring.2.1 mdX12_bring.2.2.1 mdX12_bring.2.2.2.1 mdX12_bring.2.2.2.2.1 ∈ WSg ∧ mdX12_bring.2.1.cls ≠ "java/lang/invoke/MethodHandle" ∧ mdX12_bring.2.1.cls ≠ "java/lang/invoke/VarHandle" ∧ (parseMethodDescriptor mdX12_bring.2.1.desc).map (fun d => d.parameters.length) = some 2 := ⟨wsg_t (i := 1316) (by decide +kernel) (by decide +kernel), wsg_t (i := 1317) (by decide +kernel) (by decide +kernel), wsg_t (i := 13) (by decide +kernel) (by decide +kernel), wsg_t (i := 1318) (by decide +kernel) (by decide +kernel), by decide +kernel, by decide +kernel, by decide +kernel⟩
set_option maxRecDepth 20000 in
theorem cv_L_150 : CV RL 150 mdX12_bring 2 := ⟨wsg_t (i := 1315) (by decide +kernel) (by decide +kernel), kv_X12_bring⟩
def hhL_draw : List (Nat × Nat × Nat × Nat) := [(0, 10, 13, 13), (0, 10, 17, 15), (0, 10, 21, 24)]
set_option maxRecDepth 20000 in
theorem kh_L_draw : Cond.static mdL_draw.2.1 ∈ WSg ∧ Cond.initialized mdL_draw.2.1.cls ∈ WSg ∧ Cond.codeWith mdL_draw.2.1 mdL_draw.2.2.1 mdL_draw.2.2.2.1 mdL_draw.2.2.2.2.1 hhL_draw ∈ WSg ∧ mdL_draw.2.1.cls ≠ "java/lang/invoke/MethodHandle" ∧ mdL_draw.2.1.cls ≠ "java/lang/invoke/VarHandle" ∧ (parseMethodDescriptor mdL_draw.2.1.desc).map (fun d => d.parameters.length) = some 4 := ⟨wsg_t (i := 674) (by decide +kernel) (by decide +kernel), wsg_t (i := 0) (by decide +kernel) (by decide +kernel), wsg_t (i := 675) (by decide +kernel) (by decide +kernel), by decide +kernel, by decide +kernel, by decide +kernel⟩
set_option maxRecDepth 20000 in
theorem ch_L_151 : CH RL 151 mdL_draw hhL_draw 4 := ⟨wsg_t (i := 673) (by decide +kernel) (by decide +kernel), kh_L_draw⟩
set_option maxRecDepth 20000 in
theorem kv_X12_draw : Cond.instanceMethod mdX12_draw.2.1 ∈ WSg ∧ Cond.selects mdX12_draw.2.1.cls mdX12_draw.2.1 mdX12_draw.2.1 ∈ WSg ∧ Cond.initialized mdX12_draw.2.1.cls ∈ WSg ∧ Cond.code mdX12_draw.2.1 mdX12_draw.2.2.1 mdX12_draw.2.2.2.1 mdX12_draw.2.2.2.2.1 ∈ WSg ∧ mdX12_draw.2.1.cls ≠ "java/lang/invoke/MethodHandle" ∧ mdX12_draw.2.1.cls ≠ "java/lang/invoke/VarHandle" ∧ (parseMethodDescriptor mdX12_draw.2.1.desc).map (fun d => d.parameters.length) = some 2 := ⟨wsg_t (i := 1320) (by decide +kernel) (by decide +kernel), wsg_t (i := 1321) (by decide +kernel) (by decide +kernel), wsg_t (i := 13) (by decide +kernel) (by decide +kernel), wsg_t (i := 1322) (by decide +kernel) (by decide +kernel), by decide +kernel, by decide +kernel, by decide +kernel⟩
set_option maxRecDepth 20000 in
theorem cv_L_153 : CV RL 153 mdX12_draw 2 := ⟨wsg_t (i := 1319) (by decide +kernel) (by decide +kernel), kv_X12_draw⟩
def hhL_pay : List (Nat × Nat × Nat × Nat) := [(0, 12, 15, 13), (0, 12, 19, 15), (0, 12, 23, 24)]
set_option maxRecDepth 20000 in
theorem kh_L_pay : Cond.static mdL_pay.2.1 ∈ WSg ∧ Cond.initialized mdL_pay.2.1.cls ∈ WSg ∧ Cond.codeWith mdL_pay.2.1 mdL_pay.2.2.1 mdL_pay.2.2.2.1 mdL_pay.2.2.2.2.1 hhL_pay ∈ WSg ∧ mdL_pay.2.1.cls ≠ "java/lang/invoke/MethodHandle" ∧ mdL_pay.2.1.cls ≠ "java/lang/invoke/VarHandle" ∧ (parseMethodDescriptor mdL_pay.2.1.desc).map (fun d => d.parameters.length) = some 5 := ⟨wsg_t (i := 752) (by decide +kernel) (by decide +kernel), wsg_t (i := 0) (by decide +kernel) (by decide +kernel), wsg_t (i := 753) (by decide +kernel) (by decide +kernel), by decide +kernel, by decide +kernel, by decide +kernel⟩
set_option maxRecDepth 20000 in
theorem ch_L_154 : CH RL 154 mdL_pay hhL_pay 5 := ⟨wsg_t (i := 751) (by decide +kernel) (by decide +kernel), kh_L_pay⟩
set_option maxRecDepth 20000 in
theorem kv_X12_pay : Cond.instanceMethod mdX12_pay.2.1 ∈ WSg ∧ Cond.selects mdX12_pay.2.1.cls mdX12_pay.2.1 mdX12_pay.2.1 ∈ WSg ∧ Cond.initialized mdX12_pay.2.1.cls ∈ WSg ∧ Cond.code mdX12_pay.2.1 mdX12_pay.2.2.1 mdX12_pay.2.2.2.1 mdX12_pay.2.2.2.2.1 ∈ WSg ∧ mdX12_pay.2.1.cls ≠ "java/lang/invoke/MethodHandle" ∧ mdX12_pay.2.1.cls ≠ "java/lang/invoke/VarHandle" ∧ (parseMethodDescriptor mdX12_pay.2.1.desc).map (fun d => d.parameters.length) = some 3 := ⟨wsg_t (i := 1362) (by decide +kernel) (by decide +kernel), wsg_t (i := 1363) (by decide +kernel) (by decide +kernel), wsg_t (i := 13) (by decide +kernel) (by decide +kernel), wsg_t (i := 1364) (by decide +kernel) (by decide +kernel), by decide +kernel, by decide +kernel, by decide +kernel⟩
set_option maxRecDepth 20000 in
theorem cv_L_156 : CV RL 156 mdX12_pay 3 := ⟨wsg_t (i := 1361) (by decide +kernel) (by decide +kernel), kv_X12_pay⟩
set_option maxRecDepth 20000 in
theorem kv_X11_clear : Cond.instanceMethod mdX11_clear.2.1 ∈ WSg ∧ Cond.selects mdX11_clear.2.1.cls mdX11_clear.2.1 mdX11_clear.2.1 ∈ WSg ∧ Cond.initialized mdX11_clear.2.1.cls ∈ WSg ∧ Cond.code mdX11_clear.2.1 mdX11_clear.2.2.1 mdX11_clear.2.2.2.1 mdX11_clear.2.2.2.2.1 ∈ WSg ∧ mdX11_clear.2.1.cls ≠ "java/lang/invoke/MethodHandle" ∧ mdX11_clear.2.1.cls ≠ "java/lang/invoke/VarHandle" ∧ (parseMethodDescriptor mdX11_clear.2.1.desc).map (fun d => d.parameters.length) = some 0 := ⟨wsg_t (i := 376) (by decide +kernel) (by decide +kernel), wsg_t (i := 377) (by decide +kernel) (by decide +kernel), wsg_t (i := 1) (by decide +kernel) (by decide +kernel), wsg_t (i := 378) (by decide +kernel) (by decide +kernel), by decide +kernel, by decide +kernel, by decide +kernel⟩
set_option maxRecDepth 20000 in
theorem cv_L_157 : CV RL 157 mdX11_clear 0 := ⟨wsg_t (i := 375) (by decide +kernel) (by decide +kernel), kv_X11_clear⟩
set_option maxRecDepth 20000 in
theorem kv_X12_clear : Cond.instanceMethod mdX12_clear.2.1 ∈ WSg ∧ Cond.selects mdX12_clear.2.1.cls mdX12_clear.2.1 mdX12_clear.2.1 ∈ WSg ∧ Cond.initialized mdX12_clear.2.1.cls ∈ WSg ∧ Cond.code mdX12_clear.2.1 mdX12_clear.2.2.1 mdX12_clear.2.2.2.1 mdX12_clear.2.2.2.2.1 ∈ WSg ∧ mdX12_clear.2.1.cls ≠ "java/lang/invoke/MethodHandle" ∧ mdX12_clear.2.1.cls ≠ "java/lang/invoke/VarHandle" ∧ (parseMethodDescriptor mdX12_clear.2.1.desc).map (fun d => d.parameters.length) = some 0 := ⟨wsg_t (i := 1378) (by decide +kernel) (by decide +kernel), wsg_t (i := 1379) (by decide +kernel) (by decide +kernel), wsg_t (i := 13) (by decide +kernel) (by decide +kernel), wsg_t (i := 1380) (by decide +kernel) (by decide +kernel), by decide +kernel, by decide +kernel, by decide +kernel⟩
set_option maxRecDepth 20000 in
theorem cv_L_160 : CV RL 160 mdX12_clear 0 := ⟨wsg_t (i := 1377) (by decide +kernel) (by decide +kernel), kv_X12_clear⟩
def hhL_limit : List (Nat × Nat × Nat × Nat) := [(0, 10, 13, 13), (0, 10, 17, 15)]
set_option maxRecDepth 20000 in
theorem kh_L_limit : Cond.static mdL_limit.2.1 ∈ WSg ∧ Cond.initialized mdL_limit.2.1.cls ∈ WSg ∧ Cond.codeWith mdL_limit.2.1 mdL_limit.2.2.1 mdL_limit.2.2.2.1 mdL_limit.2.2.2.2.1 hhL_limit ∈ WSg ∧ mdL_limit.2.1.cls ≠ "java/lang/invoke/MethodHandle" ∧ mdL_limit.2.1.cls ≠ "java/lang/invoke/VarHandle" ∧ (parseMethodDescriptor mdL_limit.2.1.desc).map (fun d => d.parameters.length) = some 4 := ⟨wsg_t (i := 771) (by decide +kernel) (by decide +kernel), wsg_t (i := 0) (by decide +kernel) (by decide +kernel), wsg_t (i := 772) (by decide +kernel) (by decide +kernel), by decide +kernel, by decide +kernel, by decide +kernel⟩
set_option maxRecDepth 20000 in
theorem ch_L_161 : CH RL 161 mdL_limit hhL_limit 4 := ⟨wsg_t (i := 770) (by decide +kernel) (by decide +kernel), kh_L_limit⟩
set_option maxRecDepth 20000 in
theorem kv_X12_limit : Cond.instanceMethod mdX12_limit.2.1 ∈ WSg ∧ Cond.selects mdX12_limit.2.1.cls mdX12_limit.2.1 mdX12_limit.2.1 ∈ WSg ∧ Cond.initialized mdX12_limit.2.1.cls ∈ WSg ∧ Cond.code mdX12_limit.2.1 mdX12_limit.2.2.1 mdX12_limit.2.2.2.1 mdX12_limit.2.2.2.2.1 ∈ WSg ∧ mdX12_limit.2.1.cls ≠ "java/lang/invoke/MethodHandle" ∧ mdX12_limit.2.1.cls ≠ "java/lang/invoke/VarHandle" ∧ (parseMethodDescriptor mdX12_limit.2.1.desc).map (fun d => d.parameters.length) = some 2 := ⟨wsg_t (i := 1394) (by decide +kernel) (by decide +kernel), wsg_t (i := 1395) (by decide +kernel) (by decide +kernel), wsg_t (i := 13) (by decide +kernel) (by decide +kernel), wsg_t (i := 1396) (by decide +kernel) (by decide +kernel), by decide +kernel, by decide +kernel, by decide +kernel⟩
set_option maxRecDepth 20000 in
theorem cv_L_163 : CV RL 163 mdX12_limit 2 := ⟨wsg_t (i := 1393) (by decide +kernel) (by decide +kernel), kv_X12_limit⟩
def hhL_endow : List (Nat × Nat × Nat × Nat) := [(0, 10, 13, 13), (0, 10, 17, 15), (0, 10, 21, 24)]
set_option maxRecDepth 20000 in
theorem kh_L_endow : Cond.static mdL_endow.2.1 ∈ WSg ∧ Cond.initialized mdL_endow.2.1.cls ∈ WSg ∧ Cond.codeWith mdL_endow.2.1 mdL_endow.2.2.1 mdL_endow.2.2.2.1 mdL_endow.2.2.2.2.1 hhL_endow ∈ WSg ∧ mdL_endow.2.1.cls ≠ "java/lang/invoke/MethodHandle" ∧ mdL_endow.2.1.cls ≠ "java/lang/invoke/VarHandle" ∧ (parseMethodDescriptor mdL_endow.2.1.desc).map (fun d => d.parameters.length) = some 4 := ⟨wsg_t (i := 778) (by decide +kernel) (by decide +kernel), wsg_t (i := 0) (by decide +kernel) (by decide +kernel), wsg_t (i := 779) (by decide +kernel) (by decide +kernel), by decide +kernel, by decide +kernel, by decide +kernel⟩
set_option maxRecDepth 20000 in
theorem ch_L_164 : CH RL 164 mdL_endow hhL_endow 4 := ⟨wsg_t (i := 777) (by decide +kernel) (by decide +kernel), kh_L_endow⟩
set_option maxRecDepth 20000 in
theorem kv_X12_endow : Cond.instanceMethod mdX12_endow.2.1 ∈ WSg ∧ Cond.selects mdX12_endow.2.1.cls mdX12_endow.2.1 mdX12_endow.2.1 ∈ WSg ∧ Cond.initialized mdX12_endow.2.1.cls ∈ WSg ∧ Cond.code mdX12_endow.2.1 mdX12_endow.2.2.1 mdX12_endow.2.2.2.1 mdX12_endow.2.2.2.2.1 ∈ WSg ∧ mdX12_endow.2.1.cls ≠ "java/lang/invoke/MethodHandle" ∧ mdX12_endow.2.1.cls ≠ "java/lang/invoke/VarHandle" ∧ (parseMethodDescriptor mdX12_endow.2.1.desc).map (fun d => d.parameters.length) = some 2 := ⟨wsg_t (i := 1398) (by decide +kernel) (by decide +kernel), wsg_t (i := 1399) (by decide +kernel) (by decide +kernel), wsg_t (i := 13) (by decide +kernel) (by decide +kernel), wsg_t (i := 1400) (by decide +kernel) (by decide +kernel), by decide +kernel, by decide +kernel, by decide +kernel⟩
set_option maxRecDepth 20000 in
theorem cv_L_166 : CV RL 166 mdX12_endow 2 := ⟨wsg_t (i := 1397) (by decide +kernel) (by decide +kernel), kv_X12_endow⟩
def hhL_lend : List (Nat × Nat × Nat × Nat) := [(0, 14, 17, 13), (0, 14, 21, 15), (0, 14, 25, 24)]
set_option maxRecDepth 20000 in
theorem kh_L_lend : Cond.static mdL_lend.2.1 ∈ WSg ∧ Cond.initialized mdL_lend.2.1.cls ∈ WSg ∧ Cond.codeWith mdL_lend.2.1 mdL_lend.2.2.1 mdL_lend.2.2.2.1 mdL_lend.2.2.2.2.1 hhL_lend ∈ WSg ∧ mdL_lend.2.1.cls ≠ "java/lang/invoke/MethodHandle" ∧ mdL_lend.2.1.cls ≠ "java/lang/invoke/VarHandle" ∧ (parseMethodDescriptor mdL_lend.2.1.desc).map (fun d => d.parameters.length) = some 6 := ⟨wsg_t (i := 785) (by decide +kernel) (by decide +kernel), wsg_t (i := 0) (by decide +kernel) (by decide +kernel), wsg_t (i := 786) (by decide +kernel) (by decide +kernel), by decide +kernel, by decide +kernel, by decide +kernel⟩
set_option maxRecDepth 20000 in
theorem ch_L_167 : CH RL 167 mdL_lend hhL_lend 6 := ⟨wsg_t (i := 784) (by decide +kernel) (by decide +kernel), kh_L_lend⟩
set_option maxRecDepth 20000 in
theorem kv_X12_lend : Cond.instanceMethod mdX12_lend.2.1 ∈ WSg ∧ Cond.selects mdX12_lend.2.1.cls mdX12_lend.2.1 mdX12_lend.2.1 ∈ WSg ∧ Cond.initialized mdX12_lend.2.1.cls ∈ WSg ∧ Cond.code mdX12_lend.2.1 mdX12_lend.2.2.1 mdX12_lend.2.2.2.1 mdX12_lend.2.2.2.2.1 ∈ WSg ∧ mdX12_lend.2.1.cls ≠ "java/lang/invoke/MethodHandle" ∧ mdX12_lend.2.1.cls ≠ "java/lang/invoke/VarHandle" ∧ (parseMethodDescriptor mdX12_lend.2.1.desc).map (fun d => d.parameters.length) = some 4 := ⟨wsg_t (i := 1402) (by decide +kernel) (by decide +kernel), wsg_t (i := 1403) (by decide +kernel) (by decide +kernel), wsg_t (i := 13) (by decide +kernel) (by decide +kernel), wsg_t (i := 1404) (by decide +kernel) (by decide +kernel), by decide +kernel, by decide +kernel, by decide +kernel⟩
set_option maxRecDepth 20000 in
theorem cv_L_170 : CV RL 170 mdX12_lend 4 := ⟨wsg_t (i := 1401) (by decide +kernel) (by decide +kernel), kv_X12_lend⟩
def hhL_payBack : List (Nat × Nat × Nat × Nat) := [(0, 10, 13, 13), (0, 10, 17, 15), (0, 10, 21, 24)]
set_option maxRecDepth 20000 in
theorem kh_L_payBack : Cond.static mdL_payBack.2.1 ∈ WSg ∧ Cond.initialized mdL_payBack.2.1.cls ∈ WSg ∧ Cond.codeWith mdL_payBack.2.1 mdL_payBack.2.2.1 mdL_payBack.2.2.2.1 mdL_payBack.2.2.2.2.1 hhL_payBack ∈ WSg ∧ mdL_payBack.2.1.cls ≠ "java/lang/invoke/MethodHandle" ∧ mdL_payBack.2.1.cls ≠ "java/lang/invoke/VarHandle" ∧ (parseMethodDescriptor mdL_payBack.2.1.desc).map (fun d => d.parameters.length) = some 4 := ⟨wsg_t (i := 808) (by decide +kernel) (by decide +kernel), wsg_t (i := 0) (by decide +kernel) (by decide +kernel), wsg_t (i := 809) (by decide +kernel) (by decide +kernel), by decide +kernel, by decide +kernel, by decide +kernel⟩
set_option maxRecDepth 20000 in
theorem ch_L_171 : CH RL 171 mdL_payBack hhL_payBack 4 := ⟨wsg_t (i := 807) (by decide +kernel) (by decide +kernel), kh_L_payBack⟩
set_option maxRecDepth 20000 in
theorem kv_X12_payBack : Cond.instanceMethod mdX12_payBack.2.1 ∈ WSg ∧ Cond.selects mdX12_payBack.2.1.cls mdX12_payBack.2.1 mdX12_payBack.2.1 ∈ WSg ∧ Cond.initialized mdX12_payBack.2.1.cls ∈ WSg ∧ Cond.code mdX12_payBack.2.1 mdX12_payBack.2.2.1 mdX12_payBack.2.2.2.1 mdX12_payBack.2.2.2.2.1 ∈ WSg ∧ mdX12_payBack.2.1.cls ≠ "java/lang/invoke/MethodHandle" ∧ mdX12_payBack.2.1.cls ≠ "java/lang/invoke/VarHandle" ∧ (parseMethodDescriptor mdX12_payBack.2.1.desc).map (fun d => d.parameters.length) = some 2 := ⟨wsg_t (i := 1418) (by decide +kernel) (by decide +kernel), wsg_t (i := 1419) (by decide +kernel) (by decide +kernel), wsg_t (i := 13) (by decide +kernel) (by decide +kernel), wsg_t (i := 1420) (by decide +kernel) (by decide +kernel), by decide +kernel, by decide +kernel, by decide +kernel⟩
set_option maxRecDepth 20000 in
theorem cv_L_173 : CV RL 173 mdX12_payBack 2 := ⟨wsg_t (i := 1417) (by decide +kernel) (by decide +kernel), kv_X12_payBack⟩
def hhL_window : List (Nat × Nat × Nat × Nat) := [(0, 10, 13, 13), (0, 10, 17, 15), (0, 10, 21, 24)]
set_option maxRecDepth 20000 in
theorem kh_L_window : Cond.static mdL_window.2.1 ∈ WSg ∧ Cond.initialized mdL_window.2.1.cls ∈ WSg ∧ Cond.codeWith mdL_window.2.1 mdL_window.2.2.1 mdL_window.2.2.2.1 mdL_window.2.2.2.2.1 hhL_window ∈ WSg ∧ mdL_window.2.1.cls ≠ "java/lang/invoke/MethodHandle" ∧ mdL_window.2.1.cls ≠ "java/lang/invoke/VarHandle" ∧ (parseMethodDescriptor mdL_window.2.1.desc).map (fun d => d.parameters.length) = some 4 := ⟨wsg_t (i := 829) (by decide +kernel) (by decide +kernel), wsg_t (i := 0) (by decide +kernel) (by decide +kernel), wsg_t (i := 830) (by decide +kernel) (by decide +kernel), by decide +kernel, by decide +kernel, by decide +kernel⟩
set_option maxRecDepth 20000 in
theorem ch_L_174 : CH RL 174 mdL_window hhL_window 4 := ⟨wsg_t (i := 828) (by decide +kernel) (by decide +kernel), kh_L_window⟩
set_option maxRecDepth 20000 in
theorem kv_X12_window : Cond.instanceMethod mdX12_window.2.1 ∈ WSg ∧ Cond.selects mdX12_window.2.1.cls mdX12_window.2.1 mdX12_window.2.1 ∈ WSg ∧ Cond.initialized mdX12_window.2.1.cls ∈ WSg ∧ Cond.code mdX12_window.2.1 mdX12_window.2.2.1 mdX12_window.2.2.2.1 mdX12_window.2.2.2.2.1 ∈ WSg ∧ mdX12_window.2.1.cls ≠ "java/lang/invoke/MethodHandle" ∧ mdX12_window.2.1.cls ≠ "java/lang/invoke/VarHandle" ∧ (parseMethodDescriptor mdX12_window.2.1.desc).map (fun d => d.parameters.length) = some 2 := ⟨wsg_t (i := 1434) (by decide +kernel) (by decide +kernel), wsg_t (i := 1435) (by decide +kernel) (by decide +kernel), wsg_t (i := 13) (by decide +kernel) (by decide +kernel), wsg_t (i := 1436) (by decide +kernel) (by decide +kernel), by decide +kernel, by decide +kernel, by decide +kernel⟩
set_option maxRecDepth 20000 in
theorem cv_L_176 : CV RL 176 mdX12_window 2 := ⟨wsg_t (i := 1433) (by decide +kernel) (by decide +kernel), kv_X12_window⟩
def hhL_windowBack : List (Nat × Nat × Nat × Nat) := [(0, 10, 13, 13), (0, 10, 17, 15), (0, 10, 21, 24)]
set_option maxRecDepth 20000 in
theorem kh_L_windowBack : Cond.static mdL_windowBack.2.1 ∈ WSg ∧ Cond.initialized mdL_windowBack.2.1.cls ∈ WSg ∧ Cond.codeWith mdL_windowBack.2.1 mdL_windowBack.2.2.1 mdL_windowBack.2.2.2.1 mdL_windowBack.2.2.2.2.1 hhL_windowBack ∈ WSg ∧ mdL_windowBack.2.1.cls ≠ "java/lang/invoke/MethodHandle" ∧ mdL_windowBack.2.1.cls ≠ "java/lang/invoke/VarHandle" ∧ (parseMethodDescriptor mdL_windowBack.2.1.desc).map (fun d => d.parameters.length) = some 4 := ⟨wsg_t (i := 844) (by decide +kernel) (by decide +kernel), wsg_t (i := 0) (by decide +kernel) (by decide +kernel), wsg_t (i := 845) (by decide +kernel) (by decide +kernel), by decide +kernel, by decide +kernel, by decide +kernel⟩
set_option maxRecDepth 20000 in
theorem ch_L_177 : CH RL 177 mdL_windowBack hhL_windowBack 4 := ⟨wsg_t (i := 843) (by decide +kernel) (by decide +kernel), kh_L_windowBack⟩
set_option maxRecDepth 20000 in
theorem kv_X12_windowBack : Cond.instanceMethod mdX12_windowBack.2.1 ∈ WSg ∧ Cond.selects mdX12_windowBack.2.1.cls mdX12_windowBack.2.1 mdX12_windowBack.2.1 ∈ WSg ∧ Cond.initialized mdX12_windowBack.2.1.cls ∈ WSg ∧ Cond.code mdX12_windowBack.2.1 mdX12_windowBack.2.2.1 mdX12_windowBack.2.2.2.1 mdX12_windowBack.2.2.2.2.1 ∈ WSg ∧ mdX12_windowBack.2.1.cls ≠ "java/lang/invoke/MethodHandle" ∧ mdX12_windowBack.2.1.cls ≠ "java/lang/invoke/VarHandle" ∧ (parseMethodDescriptor mdX12_windowBack.2.1.desc).map (fun d => d.parameters.length) = some 2 := ⟨wsg_t (i := 1442) (by decide +kernel) (by decide +kernel), wsg_t (i := 1443) (by decide +kernel) (by decide +kernel), wsg_t (i := 13) (by decide +kernel) (by decide +kernel), wsg_t (i := 1444) (by decide +kernel) (by decide +kernel), by decide +kernel, by decide +kernel, by decide +kernel⟩
set_option maxRecDepth 20000 in
theorem cv_L_179 : CV RL 179 mdX12_windowBack 2 := ⟨wsg_t (i := 1441) (by decide +kernel) (by decide +kernel), kv_X12_windowBack⟩
def hhL_rules : List (Nat × Nat × Nat × Nat) := [(0, 12, 15, 15)]
set_option maxRecDepth 20000 in
theorem kh_L_rules : Cond.static mdL_rules.2.1 ∈ WSg ∧ Cond.initialized mdL_rules.2.1.cls ∈ WSg ∧ Cond.codeWith mdL_rules.2.1 mdL_rules.2.2.1 mdL_rules.2.2.2.1 mdL_rules.2.2.2.2.1 hhL_rules ∈ WSg ∧ mdL_rules.2.1.cls ≠ "java/lang/invoke/MethodHandle" ∧ mdL_rules.2.1.cls ≠ "java/lang/invoke/VarHandle" ∧ (parseMethodDescriptor mdL_rules.2.1.desc).map (fun d => d.parameters.length) = some 5 := ⟨wsg_t (i := 851) (by decide +kernel) (by decide +kernel), wsg_t (i := 0) (by decide +kernel) (by decide +kernel), wsg_t (i := 852) (by decide +kernel) (by decide +kernel), by decide +kernel, by decide +kernel, by decide +kernel⟩
set_option maxRecDepth 20000 in
theorem ch_L_180 : CH RL 180 mdL_rules hhL_rules 5 := ⟨wsg_t (i := 850) (by decide +kernel) (by decide +kernel), kh_L_rules⟩
set_option maxRecDepth 20000 in
theorem kv_X12_rules : Cond.instanceMethod mdX12_rules.2.1 ∈ WSg ∧ Cond.selects mdX12_rules.2.1.cls mdX12_rules.2.1 mdX12_rules.2.1 ∈ WSg ∧ Cond.initialized mdX12_rules.2.1.cls ∈ WSg ∧ Cond.code mdX12_rules.2.1 mdX12_rules.2.2.1 mdX12_rules.2.2.2.1 mdX12_rules.2.2.2.2.1 ∈ WSg ∧ mdX12_rules.2.1.cls ≠ "java/lang/invoke/MethodHandle" ∧ mdX12_rules.2.1.cls ≠ "java/lang/invoke/VarHandle" ∧ (parseMethodDescriptor mdX12_rules.2.1.desc).map (fun d => d.parameters.length) = some 3 := ⟨wsg_t (i := 1446) (by decide +kernel) (by decide +kernel), wsg_t (i := 1447) (by decide +kernel) (by decide +kernel), wsg_t (i := 13) (by decide +kernel) (by decide +kernel), wsg_t (i := 1448) (by decide +kernel) (by decide +kernel), by decide +kernel, by decide +kernel, by decide +kernel⟩
set_option maxRecDepth 20000 in
theorem cv_L_182 : CV RL 182 mdX12_rules 3 := ⟨wsg_t (i := 1445) (by decide +kernel) (by decide +kernel), kv_X12_rules⟩
def hhL_buyBonds : List (Nat × Nat × Nat × Nat) := [(0, 10, 13, 13), (0, 10, 17, 15), (0, 10, 21, 24)]
set_option maxRecDepth 20000 in
theorem kh_L_buyBonds : Cond.static mdL_buyBonds.2.1 ∈ WSg ∧ Cond.initialized mdL_buyBonds.2.1.cls ∈ WSg ∧ Cond.codeWith mdL_buyBonds.2.1 mdL_buyBonds.2.2.1 mdL_buyBonds.2.2.2.1 mdL_buyBonds.2.2.2.2.1 hhL_buyBonds ∈ WSg ∧ mdL_buyBonds.2.1.cls ≠ "java/lang/invoke/MethodHandle" ∧ mdL_buyBonds.2.1.cls ≠ "java/lang/invoke/VarHandle" ∧ (parseMethodDescriptor mdL_buyBonds.2.1.desc).map (fun d => d.parameters.length) = some 4 := ⟨wsg_t (i := 858) (by decide +kernel) (by decide +kernel), wsg_t (i := 0) (by decide +kernel) (by decide +kernel), wsg_t (i := 859) (by decide +kernel) (by decide +kernel), by decide +kernel, by decide +kernel, by decide +kernel⟩
set_option maxRecDepth 20000 in
theorem ch_L_183 : CH RL 183 mdL_buyBonds hhL_buyBonds 4 := ⟨wsg_t (i := 857) (by decide +kernel) (by decide +kernel), kh_L_buyBonds⟩
set_option maxRecDepth 20000 in
theorem kv_X12_buyBonds : Cond.instanceMethod mdX12_buyBonds.2.1 ∈ WSg ∧ Cond.selects mdX12_buyBonds.2.1.cls mdX12_buyBonds.2.1 mdX12_buyBonds.2.1 ∈ WSg ∧ Cond.initialized mdX12_buyBonds.2.1.cls ∈ WSg ∧ Cond.code mdX12_buyBonds.2.1 mdX12_buyBonds.2.2.1 mdX12_buyBonds.2.2.2.1 mdX12_buyBonds.2.2.2.2.1 ∈ WSg ∧ mdX12_buyBonds.2.1.cls ≠ "java/lang/invoke/MethodHandle" ∧ mdX12_buyBonds.2.1.cls ≠ "java/lang/invoke/VarHandle" ∧ (parseMethodDescriptor mdX12_buyBonds.2.1.desc).map (fun d => d.parameters.length) = some 2 := ⟨wsg_t (i := 1450) (by decide +kernel) (by decide +kernel), wsg_t (i := 1451) (by decide +kernel) (by decide +kernel), wsg_t (i := 13) (by decide +kernel) (by decide +kernel), wsg_t (i := 1452) (by decide +kernel) (by decide +kernel), by decide +kernel, by decide +kernel, by decide +kernel⟩
set_option maxRecDepth 20000 in
theorem cv_L_185 : CV RL 185 mdX12_buyBonds 2 := ⟨wsg_t (i := 1449) (by decide +kernel) (by decide +kernel), kv_X12_buyBonds⟩
def hhL_bid : List (Nat × Nat × Nat × Nat) := [(0, 12, 15, 13), (0, 12, 19, 15), (0, 12, 23, 24)]
set_option maxRecDepth 20000 in
theorem kh_L_bid : Cond.static mdL_bid.2.1 ∈ WSg ∧ Cond.initialized mdL_bid.2.1.cls ∈ WSg ∧ Cond.codeWith mdL_bid.2.1 mdL_bid.2.2.1 mdL_bid.2.2.2.1 mdL_bid.2.2.2.2.1 hhL_bid ∈ WSg ∧ mdL_bid.2.1.cls ≠ "java/lang/invoke/MethodHandle" ∧ mdL_bid.2.1.cls ≠ "java/lang/invoke/VarHandle" ∧ (parseMethodDescriptor mdL_bid.2.1.desc).map (fun d => d.parameters.length) = some 5 := ⟨wsg_t (i := 865) (by decide +kernel) (by decide +kernel), wsg_t (i := 0) (by decide +kernel) (by decide +kernel), wsg_t (i := 866) (by decide +kernel) (by decide +kernel), by decide +kernel, by decide +kernel, by decide +kernel⟩
set_option maxRecDepth 20000 in
theorem ch_L_186 : CH RL 186 mdL_bid hhL_bid 5 := ⟨wsg_t (i := 864) (by decide +kernel) (by decide +kernel), kh_L_bid⟩
set_option maxRecDepth 20000 in
theorem kv_X12_bid : Cond.instanceMethod mdX12_bid.2.1 ∈ WSg ∧ Cond.selects mdX12_bid.2.1.cls mdX12_bid.2.1 mdX12_bid.2.1 ∈ WSg ∧ Cond.initialized mdX12_bid.2.1.cls ∈ WSg ∧ Cond.code mdX12_bid.2.1 mdX12_bid.2.2.1 mdX12_bid.2.2.2.1 mdX12_bid.2.2.2.2.1 ∈ WSg ∧ mdX12_bid.2.1.cls ≠ "java/lang/invoke/MethodHandle" ∧ mdX12_bid.2.1.cls ≠ "java/lang/invoke/VarHandle" ∧ (parseMethodDescriptor mdX12_bid.2.1.desc).map (fun d => d.parameters.length) = some 3 := ⟨wsg_t (i := 1454) (by decide +kernel) (by decide +kernel), wsg_t (i := 1455) (by decide +kernel) (by decide +kernel), wsg_t (i := 13) (by decide +kernel) (by decide +kernel), wsg_t (i := 1456) (by decide +kernel) (by decide +kernel), by decide +kernel, by decide +kernel, by decide +kernel⟩
set_option maxRecDepth 20000 in
theorem cv_L_188 : CV RL 188 mdX12_bid 3 := ⟨wsg_t (i := 1453) (by decide +kernel) (by decide +kernel), kv_X12_bid⟩
def hhL_auction : List (Nat × Nat × Nat × Nat) := [(0, 10, 13, 15), (0, 10, 17, 24)]
set_option maxRecDepth 20000 in
theorem kh_L_auction : Cond.static mdL_auction.2.1 ∈ WSg ∧ Cond.initialized mdL_auction.2.1.cls ∈ WSg ∧ Cond.codeWith mdL_auction.2.1 mdL_auction.2.2.1 mdL_auction.2.2.2.1 mdL_auction.2.2.2.2.1 hhL_auction ∈ WSg ∧ mdL_auction.2.1.cls ≠ "java/lang/invoke/MethodHandle" ∧ mdL_auction.2.1.cls ≠ "java/lang/invoke/VarHandle" ∧ (parseMethodDescriptor mdL_auction.2.1.desc).map (fun d => d.parameters.length) = some 4 := ⟨wsg_t (i := 880) (by decide +kernel) (by decide +kernel), wsg_t (i := 0) (by decide +kernel) (by decide +kernel), wsg_t (i := 881) (by decide +kernel) (by decide +kernel), by decide +kernel, by decide +kernel, by decide +kernel⟩
set_option maxRecDepth 20000 in
theorem ch_L_189 : CH RL 189 mdL_auction hhL_auction 4 := ⟨wsg_t (i := 879) (by decide +kernel) (by decide +kernel), kh_L_auction⟩
set_option maxRecDepth 20000 in
theorem kv_X12_auction : Cond.instanceMethod mdX12_auction.2.1 ∈ WSg ∧ Cond.selects mdX12_auction.2.1.cls mdX12_auction.2.1 mdX12_auction.2.1 ∈ WSg ∧ Cond.initialized mdX12_auction.2.1.cls ∈ WSg ∧ Cond.code mdX12_auction.2.1 mdX12_auction.2.2.1 mdX12_auction.2.2.2.1 mdX12_auction.2.2.2.2.1 ∈ WSg ∧ mdX12_auction.2.1.cls ≠ "java/lang/invoke/MethodHandle" ∧ mdX12_auction.2.1.cls ≠ "java/lang/invoke/VarHandle" ∧ (parseMethodDescriptor mdX12_auction.2.1.desc).map (fun d => d.parameters.length) = some 2 := ⟨wsg_t (i := 1458) (by decide +kernel) (by decide +kernel), wsg_t (i := 1459) (by decide +kernel) (by decide +kernel), wsg_t (i := 13) (by decide +kernel) (by decide +kernel), wsg_t (i := 1460) (by decide +kernel) (by decide +kernel), by decide +kernel, by decide +kernel, by decide +kernel⟩
set_option maxRecDepth 20000 in
theorem cv_L_191 : CV RL 191 mdX12_auction 2 := ⟨wsg_t (i := 1457) (by decide +kernel) (by decide +kernel), kv_X12_auction⟩
def hhL_levy : List (Nat × Nat × Nat × Nat) := [(0, 10, 13, 13), (0, 10, 17, 15), (0, 10, 21, 24)]
set_option maxRecDepth 20000 in
theorem kh_L_levy : Cond.static mdL_levy.2.1 ∈ WSg ∧ Cond.initialized mdL_levy.2.1.cls ∈ WSg ∧ Cond.codeWith mdL_levy.2.1 mdL_levy.2.2.1 mdL_levy.2.2.2.1 mdL_levy.2.2.2.2.1 hhL_levy ∈ WSg ∧ mdL_levy.2.1.cls ≠ "java/lang/invoke/MethodHandle" ∧ mdL_levy.2.1.cls ≠ "java/lang/invoke/VarHandle" ∧ (parseMethodDescriptor mdL_levy.2.1.desc).map (fun d => d.parameters.length) = some 4 := ⟨wsg_t (i := 909) (by decide +kernel) (by decide +kernel), wsg_t (i := 0) (by decide +kernel) (by decide +kernel), wsg_t (i := 910) (by decide +kernel) (by decide +kernel), by decide +kernel, by decide +kernel, by decide +kernel⟩
set_option maxRecDepth 20000 in
theorem ch_L_192 : CH RL 192 mdL_levy hhL_levy 4 := ⟨wsg_t (i := 908) (by decide +kernel) (by decide +kernel), kh_L_levy⟩
set_option maxRecDepth 20000 in
theorem kv_X12_levy : Cond.instanceMethod mdX12_levy.2.1 ∈ WSg ∧ Cond.selects mdX12_levy.2.1.cls mdX12_levy.2.1 mdX12_levy.2.1 ∈ WSg ∧ Cond.initialized mdX12_levy.2.1.cls ∈ WSg ∧ Cond.code mdX12_levy.2.1 mdX12_levy.2.2.1 mdX12_levy.2.2.2.1 mdX12_levy.2.2.2.2.1 ∈ WSg ∧ mdX12_levy.2.1.cls ≠ "java/lang/invoke/MethodHandle" ∧ mdX12_levy.2.1.cls ≠ "java/lang/invoke/VarHandle" ∧ (parseMethodDescriptor mdX12_levy.2.1.desc).map (fun d => d.parameters.length) = some 2 := ⟨wsg_t (i := 1473) (by decide +kernel) (by decide +kernel), wsg_t (i := 1474) (by decide +kernel) (by decide +kernel), wsg_t (i := 13) (by decide +kernel) (by decide +kernel), wsg_t (i := 1475) (by decide +kernel) (by decide +kernel), by decide +kernel, by decide +kernel, by decide +kernel⟩
set_option maxRecDepth 20000 in
theorem cv_L_194 : CV RL 194 mdX12_levy 2 := ⟨wsg_t (i := 1472) (by decide +kernel) (by decide +kernel), kv_X12_levy⟩
def hhL_spend : List (Nat × Nat × Nat × Nat) := [(0, 10, 13, 13), (0, 10, 17, 15), (0, 10, 21, 24)]
set_option maxRecDepth 20000 in
theorem kh_L_spend : Cond.static mdL_spend.2.1 ∈ WSg ∧ Cond.initialized mdL_spend.2.1.cls ∈ WSg ∧ Cond.codeWith mdL_spend.2.1 mdL_spend.2.2.1 mdL_spend.2.2.2.1 mdL_spend.2.2.2.2.1 hhL_spend ∈ WSg ∧ mdL_spend.2.1.cls ≠ "java/lang/invoke/MethodHandle" ∧ mdL_spend.2.1.cls ≠ "java/lang/invoke/VarHandle" ∧ (parseMethodDescriptor mdL_spend.2.1.desc).map (fun d => d.parameters.length) = some 4 := ⟨wsg_t (i := 916) (by decide +kernel) (by decide +kernel), wsg_t (i := 0) (by decide +kernel) (by decide +kernel), wsg_t (i := 917) (by decide +kernel) (by decide +kernel), by decide +kernel, by decide +kernel, by decide +kernel⟩
set_option maxRecDepth 20000 in
theorem ch_L_195 : CH RL 195 mdL_spend hhL_spend 4 := ⟨wsg_t (i := 915) (by decide +kernel) (by decide +kernel), kh_L_spend⟩
set_option maxRecDepth 20000 in
theorem kv_X12_spend : Cond.instanceMethod mdX12_spend.2.1 ∈ WSg ∧ Cond.selects mdX12_spend.2.1.cls mdX12_spend.2.1 mdX12_spend.2.1 ∈ WSg ∧ Cond.initialized mdX12_spend.2.1.cls ∈ WSg ∧ Cond.code mdX12_spend.2.1 mdX12_spend.2.2.1 mdX12_spend.2.2.2.1 mdX12_spend.2.2.2.2.1 ∈ WSg ∧ mdX12_spend.2.1.cls ≠ "java/lang/invoke/MethodHandle" ∧ mdX12_spend.2.1.cls ≠ "java/lang/invoke/VarHandle" ∧ (parseMethodDescriptor mdX12_spend.2.1.desc).map (fun d => d.parameters.length) = some 2 := ⟨wsg_t (i := 1478) (by decide +kernel) (by decide +kernel), wsg_t (i := 1479) (by decide +kernel) (by decide +kernel), wsg_t (i := 13) (by decide +kernel) (by decide +kernel), wsg_t (i := 1480) (by decide +kernel) (by decide +kernel), by decide +kernel, by decide +kernel, by decide +kernel⟩
set_option maxRecDepth 20000 in
theorem cv_L_197 : CV RL 197 mdX12_spend 2 := ⟨wsg_t (i := 1477) (by decide +kernel) (by decide +kernel), kv_X12_spend⟩
def hhL_exchange : List (Nat × Nat × Nat × Nat) := [(0, 9, 12, 15)]
set_option maxRecDepth 20000 in
theorem kh_L_exchange : Cond.static mdL_exchange.2.1 ∈ WSg ∧ Cond.initialized mdL_exchange.2.1.cls ∈ WSg ∧ Cond.codeWith mdL_exchange.2.1 mdL_exchange.2.2.1 mdL_exchange.2.2.2.1 mdL_exchange.2.2.2.2.1 hhL_exchange ∈ WSg ∧ mdL_exchange.2.1.cls ≠ "java/lang/invoke/MethodHandle" ∧ mdL_exchange.2.1.cls ≠ "java/lang/invoke/VarHandle" ∧ (parseMethodDescriptor mdL_exchange.2.1.desc).map (fun d => d.parameters.length) = some 3 := ⟨wsg_t (i := 923) (by decide +kernel) (by decide +kernel), wsg_t (i := 0) (by decide +kernel) (by decide +kernel), wsg_t (i := 924) (by decide +kernel) (by decide +kernel), by decide +kernel, by decide +kernel, by decide +kernel⟩
set_option maxRecDepth 20000 in
theorem ch_L_198 : CH RL 198 mdL_exchange hhL_exchange 3 := ⟨wsg_t (i := 922) (by decide +kernel) (by decide +kernel), kh_L_exchange⟩
set_option maxRecDepth 20000 in
theorem kv_X12_exchange : Cond.instanceMethod mdX12_exchange.2.1 ∈ WSg ∧ Cond.selects mdX12_exchange.2.1.cls mdX12_exchange.2.1 mdX12_exchange.2.1 ∈ WSg ∧ Cond.initialized mdX12_exchange.2.1.cls ∈ WSg ∧ Cond.code mdX12_exchange.2.1 mdX12_exchange.2.2.1 mdX12_exchange.2.2.2.1 mdX12_exchange.2.2.2.2.1 ∈ WSg ∧ mdX12_exchange.2.1.cls ≠ "java/lang/invoke/MethodHandle" ∧ mdX12_exchange.2.1.cls ≠ "java/lang/invoke/VarHandle" ∧ (parseMethodDescriptor mdX12_exchange.2.1.desc).map (fun d => d.parameters.length) = some 1 := ⟨wsg_t (i := 1482) (by decide +kernel) (by decide +kernel), wsg_t (i := 1483) (by decide +kernel) (by decide +kernel), wsg_t (i := 13) (by decide +kernel) (by decide +kernel), wsg_t (i := 1484) (by decide +kernel) (by decide +kernel), by decide +kernel, by decide +kernel, by decide +kernel⟩
set_option maxRecDepth 20000 in
theorem cv_L_200 : CV RL 200 mdX12_exchange 1 := ⟨wsg_t (i := 1481) (by decide +kernel) (by decide +kernel), kv_X12_exchange⟩
def hhL_abroad : List (Nat × Nat × Nat × Nat) := [(0, 12, 15, 13), (0, 12, 19, 15), (0, 12, 23, 24)]
set_option maxRecDepth 20000 in
theorem kh_L_abroad : Cond.static mdL_abroad.2.1 ∈ WSg ∧ Cond.initialized mdL_abroad.2.1.cls ∈ WSg ∧ Cond.codeWith mdL_abroad.2.1 mdL_abroad.2.2.1 mdL_abroad.2.2.2.1 mdL_abroad.2.2.2.2.1 hhL_abroad ∈ WSg ∧ mdL_abroad.2.1.cls ≠ "java/lang/invoke/MethodHandle" ∧ mdL_abroad.2.1.cls ≠ "java/lang/invoke/VarHandle" ∧ (parseMethodDescriptor mdL_abroad.2.1.desc).map (fun d => d.parameters.length) = some 5 := ⟨wsg_t (i := 930) (by decide +kernel) (by decide +kernel), wsg_t (i := 0) (by decide +kernel) (by decide +kernel), wsg_t (i := 931) (by decide +kernel) (by decide +kernel), by decide +kernel, by decide +kernel, by decide +kernel⟩
set_option maxRecDepth 20000 in
theorem ch_L_201 : CH RL 201 mdL_abroad hhL_abroad 5 := ⟨wsg_t (i := 929) (by decide +kernel) (by decide +kernel), kh_L_abroad⟩
set_option maxRecDepth 20000 in
theorem kv_X12_abroad : Cond.instanceMethod mdX12_abroad.2.1 ∈ WSg ∧ Cond.selects mdX12_abroad.2.1.cls mdX12_abroad.2.1 mdX12_abroad.2.1 ∈ WSg ∧ Cond.initialized mdX12_abroad.2.1.cls ∈ WSg ∧ Cond.code mdX12_abroad.2.1 mdX12_abroad.2.2.1 mdX12_abroad.2.2.2.1 mdX12_abroad.2.2.2.2.1 ∈ WSg ∧ mdX12_abroad.2.1.cls ≠ "java/lang/invoke/MethodHandle" ∧ mdX12_abroad.2.1.cls ≠ "java/lang/invoke/VarHandle" ∧ (parseMethodDescriptor mdX12_abroad.2.1.desc).map (fun d => d.parameters.length) = some 3 := ⟨wsg_t (i := 1486) (by decide +kernel) (by decide +kernel), wsg_t (i := 1487) (by decide +kernel) (by decide +kernel), wsg_t (i := 13) (by decide +kernel) (by decide +kernel), wsg_t (i := 1488) (by decide +kernel) (by decide +kernel), by decide +kernel, by decide +kernel, by decide +kernel⟩
set_option maxRecDepth 20000 in
theorem cv_L_204 : CV RL 204 mdX12_abroad 3 := ⟨wsg_t (i := 1485) (by decide +kernel) (by decide +kernel), kv_X12_abroad⟩
def hhL_hire : List (Nat × Nat × Nat × Nat) := [(0, 12, 15, 13), (0, 12, 19, 15)]
set_option maxRecDepth 20000 in
theorem kh_L_hire : Cond.static mdL_hire.2.1 ∈ WSg ∧ Cond.initialized mdL_hire.2.1.cls ∈ WSg ∧ Cond.codeWith mdL_hire.2.1 mdL_hire.2.2.1 mdL_hire.2.2.2.1 mdL_hire.2.2.2.2.1 hhL_hire ∈ WSg ∧ mdL_hire.2.1.cls ≠ "java/lang/invoke/MethodHandle" ∧ mdL_hire.2.1.cls ≠ "java/lang/invoke/VarHandle" ∧ (parseMethodDescriptor mdL_hire.2.1.desc).map (fun d => d.parameters.length) = some 5 := ⟨wsg_t (i := 940) (by decide +kernel) (by decide +kernel), wsg_t (i := 0) (by decide +kernel) (by decide +kernel), wsg_t (i := 941) (by decide +kernel) (by decide +kernel), by decide +kernel, by decide +kernel, by decide +kernel⟩
set_option maxRecDepth 20000 in
theorem ch_L_205 : CH RL 205 mdL_hire hhL_hire 5 := ⟨wsg_t (i := 939) (by decide +kernel) (by decide +kernel), kh_L_hire⟩
set_option maxRecDepth 20000 in
theorem kv_X12_hire : Cond.instanceMethod mdX12_hire.2.1 ∈ WSg ∧ Cond.selects mdX12_hire.2.1.cls mdX12_hire.2.1 mdX12_hire.2.1 ∈ WSg ∧ Cond.initialized mdX12_hire.2.1.cls ∈ WSg ∧ Cond.code mdX12_hire.2.1 mdX12_hire.2.2.1 mdX12_hire.2.2.2.1 mdX12_hire.2.2.2.2.1 ∈ WSg ∧ mdX12_hire.2.1.cls ≠ "java/lang/invoke/MethodHandle" ∧ mdX12_hire.2.1.cls ≠ "java/lang/invoke/VarHandle" ∧ (parseMethodDescriptor mdX12_hire.2.1.desc).map (fun d => d.parameters.length) = some 3 := ⟨wsg_t (i := 1493) (by decide +kernel) (by decide +kernel), wsg_t (i := 1494) (by decide +kernel) (by decide +kernel), wsg_t (i := 13) (by decide +kernel) (by decide +kernel), wsg_t (i := 1495) (by decide +kernel) (by decide +kernel), by decide +kernel, by decide +kernel, by decide +kernel⟩
set_option maxRecDepth 20000 in
theorem cv_L_207 : CV RL 207 mdX12_hire 3 := ⟨wsg_t (i := 1492) (by decide +kernel) (by decide +kernel), kv_X12_hire⟩
def hhL_buy : List (Nat × Nat × Nat × Nat) := [(0, 12, 15, 13), (0, 12, 19, 15), (0, 12, 23, 24)]
set_option maxRecDepth 20000 in
theorem kh_L_buy : Cond.static mdL_buy.2.1 ∈ WSg ∧ Cond.initialized mdL_buy.2.1.cls ∈ WSg ∧ Cond.codeWith mdL_buy.2.1 mdL_buy.2.2.1 mdL_buy.2.2.2.1 mdL_buy.2.2.2.2.1 hhL_buy ∈ WSg ∧ mdL_buy.2.1.cls ≠ "java/lang/invoke/MethodHandle" ∧ mdL_buy.2.1.cls ≠ "java/lang/invoke/VarHandle" ∧ (parseMethodDescriptor mdL_buy.2.1.desc).map (fun d => d.parameters.length) = some 5 := ⟨wsg_t (i := 950) (by decide +kernel) (by decide +kernel), wsg_t (i := 0) (by decide +kernel) (by decide +kernel), wsg_t (i := 951) (by decide +kernel) (by decide +kernel), by decide +kernel, by decide +kernel, by decide +kernel⟩
set_option maxRecDepth 20000 in
theorem ch_L_208 : CH RL 208 mdL_buy hhL_buy 5 := ⟨wsg_t (i := 949) (by decide +kernel) (by decide +kernel), kh_L_buy⟩
set_option maxRecDepth 20000 in
theorem kv_X12_buy : Cond.instanceMethod mdX12_buy.2.1 ∈ WSg ∧ Cond.selects mdX12_buy.2.1.cls mdX12_buy.2.1 mdX12_buy.2.1 ∈ WSg ∧ Cond.initialized mdX12_buy.2.1.cls ∈ WSg ∧ Cond.code mdX12_buy.2.1 mdX12_buy.2.2.1 mdX12_buy.2.2.2.1 mdX12_buy.2.2.2.2.1 ∈ WSg ∧ mdX12_buy.2.1.cls ≠ "java/lang/invoke/MethodHandle" ∧ mdX12_buy.2.1.cls ≠ "java/lang/invoke/VarHandle" ∧ (parseMethodDescriptor mdX12_buy.2.1.desc).map (fun d => d.parameters.length) = some 3 := ⟨wsg_t (i := 1500) (by decide +kernel) (by decide +kernel), wsg_t (i := 1501) (by decide +kernel) (by decide +kernel), wsg_t (i := 13) (by decide +kernel) (by decide +kernel), wsg_t (i := 1502) (by decide +kernel) (by decide +kernel), by decide +kernel, by decide +kernel, by decide +kernel⟩
set_option maxRecDepth 20000 in
theorem cv_L_210 : CV RL 210 mdX12_buy 3 := ⟨wsg_t (i := 1499) (by decide +kernel) (by decide +kernel), kv_X12_buy⟩
def hhL_day : List (Nat × Nat × Nat × Nat) := [(0, 9, 12, 15), (0, 9, 15, 24)]
set_option maxRecDepth 20000 in
theorem kh_L_day : Cond.static mdL_day.2.1 ∈ WSg ∧ Cond.initialized mdL_day.2.1.cls ∈ WSg ∧ Cond.codeWith mdL_day.2.1 mdL_day.2.2.1 mdL_day.2.2.2.1 mdL_day.2.2.2.2.1 hhL_day ∈ WSg ∧ mdL_day.2.1.cls ≠ "java/lang/invoke/MethodHandle" ∧ mdL_day.2.1.cls ≠ "java/lang/invoke/VarHandle" ∧ (parseMethodDescriptor mdL_day.2.1.desc).map (fun d => d.parameters.length) = some 3 := ⟨wsg_t (i := 957) (by decide +kernel) (by decide +kernel), wsg_t (i := 0) (by decide +kernel) (by decide +kernel), wsg_t (i := 958) (by decide +kernel) (by decide +kernel), by decide +kernel, by decide +kernel, by decide +kernel⟩
set_option maxRecDepth 20000 in
theorem ch_L_211 : CH RL 211 mdL_day hhL_day 3 := ⟨wsg_t (i := 956) (by decide +kernel) (by decide +kernel), kh_L_day⟩
set_option maxRecDepth 20000 in
theorem kv_X12_day : Cond.instanceMethod mdX12_day.2.1 ∈ WSg ∧ Cond.selects mdX12_day.2.1.cls mdX12_day.2.1 mdX12_day.2.1 ∈ WSg ∧ Cond.initialized mdX12_day.2.1.cls ∈ WSg ∧ Cond.code mdX12_day.2.1 mdX12_day.2.2.1 mdX12_day.2.2.2.1 mdX12_day.2.2.2.2.1 ∈ WSg ∧ mdX12_day.2.1.cls ≠ "java/lang/invoke/MethodHandle" ∧ mdX12_day.2.1.cls ≠ "java/lang/invoke/VarHandle" ∧ (parseMethodDescriptor mdX12_day.2.1.desc).map (fun d => d.parameters.length) = some 1 := ⟨wsg_t (i := 1504) (by decide +kernel) (by decide +kernel), wsg_t (i := 1505) (by decide +kernel) (by decide +kernel), wsg_t (i := 13) (by decide +kernel) (by decide +kernel), wsg_t (i := 1506) (by decide +kernel) (by decide +kernel), by decide +kernel, by decide +kernel, by decide +kernel⟩
set_option maxRecDepth 20000 in
theorem cv_L_213 : CV RL 213 mdX12_day 1 := ⟨wsg_t (i := 1503) (by decide +kernel) (by decide +kernel), kv_X12_day⟩
def hhL_fail : List (Nat × Nat × Nat × Nat) := [(0, 9, 12, 13), (0, 9, 15, 24)]
set_option maxRecDepth 20000 in
theorem kh_L_fail : Cond.static mdL_fail.2.1 ∈ WSg ∧ Cond.initialized mdL_fail.2.1.cls ∈ WSg ∧ Cond.codeWith mdL_fail.2.1 mdL_fail.2.2.1 mdL_fail.2.2.2.1 mdL_fail.2.2.2.2.1 hhL_fail ∈ WSg ∧ mdL_fail.2.1.cls ≠ "java/lang/invoke/MethodHandle" ∧ mdL_fail.2.1.cls ≠ "java/lang/invoke/VarHandle" ∧ (parseMethodDescriptor mdL_fail.2.1.desc).map (fun d => d.parameters.length) = some 3 := ⟨wsg_t (i := 1034) (by decide +kernel) (by decide +kernel), wsg_t (i := 0) (by decide +kernel) (by decide +kernel), wsg_t (i := 1035) (by decide +kernel) (by decide +kernel), by decide +kernel, by decide +kernel, by decide +kernel⟩
set_option maxRecDepth 20000 in
theorem ch_L_214 : CH RL 214 mdL_fail hhL_fail 3 := ⟨wsg_t (i := 1033) (by decide +kernel) (by decide +kernel), kh_L_fail⟩
set_option maxRecDepth 20000 in
theorem kv_X12_fail : Cond.instanceMethod mdX12_fail.2.1 ∈ WSg ∧ Cond.selects mdX12_fail.2.1.cls mdX12_fail.2.1 mdX12_fail.2.1 ∈ WSg ∧ Cond.initialized mdX12_fail.2.1.cls ∈ WSg ∧ Cond.code mdX12_fail.2.1 mdX12_fail.2.2.1 mdX12_fail.2.2.2.1 mdX12_fail.2.2.2.2.1 ∈ WSg ∧ mdX12_fail.2.1.cls ≠ "java/lang/invoke/MethodHandle" ∧ mdX12_fail.2.1.cls ≠ "java/lang/invoke/VarHandle" ∧ (parseMethodDescriptor mdX12_fail.2.1.desc).map (fun d => d.parameters.length) = some 1 := ⟨wsg_t (i := 1546) (by decide +kernel) (by decide +kernel), wsg_t (i := 1547) (by decide +kernel) (by decide +kernel), wsg_t (i := 13) (by decide +kernel) (by decide +kernel), wsg_t (i := 1548) (by decide +kernel) (by decide +kernel), by decide +kernel, by decide +kernel, by decide +kernel⟩
set_option maxRecDepth 20000 in
theorem cv_L_216 : CV RL 216 mdX12_fail 1 := ⟨wsg_t (i := 1545) (by decide +kernel) (by decide +kernel), kv_X12_fail⟩
set_option maxRecDepth 20000 in
theorem kv_X11_days : Cond.instanceMethod mdX11_days.2.1 ∈ WSg ∧ Cond.selects mdX11_days.2.1.cls mdX11_days.2.1 mdX11_days.2.1 ∈ WSg ∧ Cond.initialized mdX11_days.2.1.cls ∈ WSg ∧ Cond.code mdX11_days.2.1 mdX11_days.2.2.1 mdX11_days.2.2.2.1 mdX11_days.2.2.2.2.1 ∈ WSg ∧ mdX11_days.2.1.cls ≠ "java/lang/invoke/MethodHandle" ∧ mdX11_days.2.1.cls ≠ "java/lang/invoke/VarHandle" ∧ (parseMethodDescriptor mdX11_days.2.1.desc).map (fun d => d.parameters.length) = some 0 := ⟨wsg_t (i := 433) (by decide +kernel) (by decide +kernel), wsg_t (i := 434) (by decide +kernel) (by decide +kernel), wsg_t (i := 1) (by decide +kernel) (by decide +kernel), wsg_t (i := 435) (by decide +kernel) (by decide +kernel), by decide +kernel, by decide +kernel, by decide +kernel⟩
set_option maxRecDepth 20000 in
theorem cv_L_217 : CV RL 217 mdX11_days 0 := ⟨wsg_t (i := 432) (by decide +kernel) (by decide +kernel), kv_X11_days⟩
set_option maxRecDepth 20000 in
theorem kv_X12_days : Cond.instanceMethod mdX12_days.2.1 ∈ WSg ∧ Cond.selects mdX12_days.2.1.cls mdX12_days.2.1 mdX12_days.2.1 ∈ WSg ∧ Cond.initialized mdX12_days.2.1.cls ∈ WSg ∧ Cond.code mdX12_days.2.1 mdX12_days.2.2.1 mdX12_days.2.2.2.1 mdX12_days.2.2.2.2.1 ∈ WSg ∧ mdX12_days.2.1.cls ≠ "java/lang/invoke/MethodHandle" ∧ mdX12_days.2.1.cls ≠ "java/lang/invoke/VarHandle" ∧ (parseMethodDescriptor mdX12_days.2.1.desc).map (fun d => d.parameters.length) = some 0 := ⟨wsg_t (i := 1550) (by decide +kernel) (by decide +kernel), wsg_t (i := 1551) (by decide +kernel) (by decide +kernel), wsg_t (i := 13) (by decide +kernel) (by decide +kernel), wsg_t (i := 1552) (by decide +kernel) (by decide +kernel), by decide +kernel, by decide +kernel, by decide +kernel⟩
set_option maxRecDepth 20000 in
theorem cv_L_220 : CV RL 220 mdX12_days 0 := ⟨wsg_t (i := 1549) (by decide +kernel) (by decide +kernel), kv_X12_days⟩
def hhL_ofHolder : List (Nat × Nat × Nat × Nat) := [(0, 10, 13, 13), (0, 10, 17, 15)]
set_option maxRecDepth 20000 in
theorem kh_L_ofHolder : Cond.static mdL_ofHolder.2.1 ∈ WSg ∧ Cond.initialized mdL_ofHolder.2.1.cls ∈ WSg ∧ Cond.codeWith mdL_ofHolder.2.1 mdL_ofHolder.2.2.1 mdL_ofHolder.2.2.2.1 mdL_ofHolder.2.2.2.2.1 hhL_ofHolder ∈ WSg ∧ mdL_ofHolder.2.1.cls ≠ "java/lang/invoke/MethodHandle" ∧ mdL_ofHolder.2.1.cls ≠ "java/lang/invoke/VarHandle" ∧ (parseMethodDescriptor mdL_ofHolder.2.1.desc).map (fun d => d.parameters.length) = some 4 := ⟨wsg_t (i := 1041) (by decide +kernel) (by decide +kernel), wsg_t (i := 0) (by decide +kernel) (by decide +kernel), wsg_t (i := 1042) (by decide +kernel) (by decide +kernel), by decide +kernel, by decide +kernel, by decide +kernel⟩
set_option maxRecDepth 20000 in
theorem ch_L_221 : CH RL 221 mdL_ofHolder hhL_ofHolder 4 := ⟨wsg_t (i := 1040) (by decide +kernel) (by decide +kernel), kh_L_ofHolder⟩
set_option maxRecDepth 20000 in
theorem kv_X12_ofHolder : Cond.instanceMethod mdX12_ofHolder.2.1 ∈ WSg ∧ Cond.selects mdX12_ofHolder.2.1.cls mdX12_ofHolder.2.1 mdX12_ofHolder.2.1 ∈ WSg ∧ Cond.initialized mdX12_ofHolder.2.1.cls ∈ WSg ∧ Cond.code mdX12_ofHolder.2.1 mdX12_ofHolder.2.2.1 mdX12_ofHolder.2.2.2.1 mdX12_ofHolder.2.2.2.2.1 ∈ WSg ∧ mdX12_ofHolder.2.1.cls ≠ "java/lang/invoke/MethodHandle" ∧ mdX12_ofHolder.2.1.cls ≠ "java/lang/invoke/VarHandle" ∧ (parseMethodDescriptor mdX12_ofHolder.2.1.desc).map (fun d => d.parameters.length) = some 2 := ⟨wsg_t (i := 1554) (by decide +kernel) (by decide +kernel), wsg_t (i := 1555) (by decide +kernel) (by decide +kernel), wsg_t (i := 13) (by decide +kernel) (by decide +kernel), wsg_t (i := 1556) (by decide +kernel) (by decide +kernel), by decide +kernel, by decide +kernel, by decide +kernel⟩
set_option maxRecDepth 20000 in
theorem cv_L_223 : CV RL 223 mdX12_ofHolder 2 := ⟨wsg_t (i := 1553) (by decide +kernel) (by decide +kernel), kv_X12_ofHolder⟩
def hhL_accountAnew : List (Nat × Nat × Nat × Nat) := [(0, 9, 12, 13)]
set_option maxRecDepth 20000 in
theorem kh_L_accountAnew : Cond.static mdL_accountAnew.2.1 ∈ WSg ∧ Cond.initialized mdL_accountAnew.2.1.cls ∈ WSg ∧ Cond.codeWith mdL_accountAnew.2.1 mdL_accountAnew.2.2.1 mdL_accountAnew.2.2.2.1 mdL_accountAnew.2.2.2.2.1 hhL_accountAnew ∈ WSg ∧ mdL_accountAnew.2.1.cls ≠ "java/lang/invoke/MethodHandle" ∧ mdL_accountAnew.2.1.cls ≠ "java/lang/invoke/VarHandle" ∧ (parseMethodDescriptor mdL_accountAnew.2.1.desc).map (fun d => d.parameters.length) = some 3 := ⟨wsg_t (i := 1048) (by decide +kernel) (by decide +kernel), wsg_t (i := 0) (by decide +kernel) (by decide +kernel), wsg_t (i := 1049) (by decide +kernel) (by decide +kernel), by decide +kernel, by decide +kernel, by decide +kernel⟩
set_option maxRecDepth 20000 in
theorem ch_L_224 : CH RL 224 mdL_accountAnew hhL_accountAnew 3 := ⟨wsg_t (i := 1047) (by decide +kernel) (by decide +kernel), kh_L_accountAnew⟩
set_option maxRecDepth 20000 in
theorem kv_X12_accountAnew : Cond.instanceMethod mdX12_accountAnew.2.1 ∈ WSg ∧ Cond.selects mdX12_accountAnew.2.1.cls mdX12_accountAnew.2.1 mdX12_accountAnew.2.1 ∈ WSg ∧ Cond.initialized mdX12_accountAnew.2.1.cls ∈ WSg ∧ Cond.code mdX12_accountAnew.2.1 mdX12_accountAnew.2.2.1 mdX12_accountAnew.2.2.2.1 mdX12_accountAnew.2.2.2.2.1 ∈ WSg ∧ mdX12_accountAnew.2.1.cls ≠ "java/lang/invoke/MethodHandle" ∧ mdX12_accountAnew.2.1.cls ≠ "java/lang/invoke/VarHandle" ∧ (parseMethodDescriptor mdX12_accountAnew.2.1.desc).map (fun d => d.parameters.length) = some 1 := ⟨wsg_t (i := 1558) (by decide +kernel) (by decide +kernel), wsg_t (i := 1559) (by decide +kernel) (by decide +kernel), wsg_t (i := 13) (by decide +kernel) (by decide +kernel), wsg_t (i := 1560) (by decide +kernel) (by decide +kernel), by decide +kernel, by decide +kernel, by decide +kernel⟩
set_option maxRecDepth 20000 in
theorem cv_L_226 : CV RL 226 mdX12_accountAnew 1 := ⟨wsg_t (i := 1557) (by decide +kernel) (by decide +kernel), kv_X12_accountAnew⟩
def hhL_ofBank : List (Nat × Nat × Nat × Nat) := [(0, 10, 13, 13), (0, 10, 17, 15)]
set_option maxRecDepth 20000 in
theorem kh_L_ofBank : Cond.static mdL_ofBank.2.1 ∈ WSg ∧ Cond.initialized mdL_ofBank.2.1.cls ∈ WSg ∧ Cond.codeWith mdL_ofBank.2.1 mdL_ofBank.2.2.1 mdL_ofBank.2.2.2.1 mdL_ofBank.2.2.2.2.1 hhL_ofBank ∈ WSg ∧ mdL_ofBank.2.1.cls ≠ "java/lang/invoke/MethodHandle" ∧ mdL_ofBank.2.1.cls ≠ "java/lang/invoke/VarHandle" ∧ (parseMethodDescriptor mdL_ofBank.2.1.desc).map (fun d => d.parameters.length) = some 4 := ⟨wsg_t (i := 1055) (by decide +kernel) (by decide +kernel), wsg_t (i := 0) (by decide +kernel) (by decide +kernel), wsg_t (i := 1056) (by decide +kernel) (by decide +kernel), by decide +kernel, by decide +kernel, by decide +kernel⟩
set_option maxRecDepth 20000 in
theorem ch_L_227 : CH RL 227 mdL_ofBank hhL_ofBank 4 := ⟨wsg_t (i := 1054) (by decide +kernel) (by decide +kernel), kh_L_ofBank⟩
set_option maxRecDepth 20000 in
theorem kv_X12_ofBank : Cond.instanceMethod mdX12_ofBank.2.1 ∈ WSg ∧ Cond.selects mdX12_ofBank.2.1.cls mdX12_ofBank.2.1 mdX12_ofBank.2.1 ∈ WSg ∧ Cond.initialized mdX12_ofBank.2.1.cls ∈ WSg ∧ Cond.code mdX12_ofBank.2.1 mdX12_ofBank.2.2.1 mdX12_ofBank.2.2.2.1 mdX12_ofBank.2.2.2.2.1 ∈ WSg ∧ mdX12_ofBank.2.1.cls ≠ "java/lang/invoke/MethodHandle" ∧ mdX12_ofBank.2.1.cls ≠ "java/lang/invoke/VarHandle" ∧ (parseMethodDescriptor mdX12_ofBank.2.1.desc).map (fun d => d.parameters.length) = some 2 := ⟨wsg_t (i := 1562) (by decide +kernel) (by decide +kernel), wsg_t (i := 1563) (by decide +kernel) (by decide +kernel), wsg_t (i := 13) (by decide +kernel) (by decide +kernel), wsg_t (i := 1564) (by decide +kernel) (by decide +kernel), by decide +kernel, by decide +kernel, by decide +kernel⟩
set_option maxRecDepth 20000 in
theorem cv_L_229 : CV RL 229 mdX12_ofBank 2 := ⟨wsg_t (i := 1561) (by decide +kernel) (by decide +kernel), kv_X12_ofBank⟩
def hhL_ofLoan : List (Nat × Nat × Nat × Nat) := [(0, 10, 13, 13), (0, 10, 17, 15)]
set_option maxRecDepth 20000 in
theorem kh_L_ofLoan : Cond.static mdL_ofLoan.2.1 ∈ WSg ∧ Cond.initialized mdL_ofLoan.2.1.cls ∈ WSg ∧ Cond.codeWith mdL_ofLoan.2.1 mdL_ofLoan.2.2.1 mdL_ofLoan.2.2.2.1 mdL_ofLoan.2.2.2.2.1 hhL_ofLoan ∈ WSg ∧ mdL_ofLoan.2.1.cls ≠ "java/lang/invoke/MethodHandle" ∧ mdL_ofLoan.2.1.cls ≠ "java/lang/invoke/VarHandle" ∧ (parseMethodDescriptor mdL_ofLoan.2.1.desc).map (fun d => d.parameters.length) = some 4 := ⟨wsg_t (i := 1070) (by decide +kernel) (by decide +kernel), wsg_t (i := 0) (by decide +kernel) (by decide +kernel), wsg_t (i := 1071) (by decide +kernel) (by decide +kernel), by decide +kernel, by decide +kernel, by decide +kernel⟩
set_option maxRecDepth 20000 in
theorem ch_L_230 : CH RL 230 mdL_ofLoan hhL_ofLoan 4 := ⟨wsg_t (i := 1069) (by decide +kernel) (by decide +kernel), kh_L_ofLoan⟩
set_option maxRecDepth 20000 in
theorem kv_X12_ofLoan : Cond.instanceMethod mdX12_ofLoan.2.1 ∈ WSg ∧ Cond.selects mdX12_ofLoan.2.1.cls mdX12_ofLoan.2.1 mdX12_ofLoan.2.1 ∈ WSg ∧ Cond.initialized mdX12_ofLoan.2.1.cls ∈ WSg ∧ Cond.code mdX12_ofLoan.2.1 mdX12_ofLoan.2.2.1 mdX12_ofLoan.2.2.2.1 mdX12_ofLoan.2.2.2.2.1 ∈ WSg ∧ mdX12_ofLoan.2.1.cls ≠ "java/lang/invoke/MethodHandle" ∧ mdX12_ofLoan.2.1.cls ≠ "java/lang/invoke/VarHandle" ∧ (parseMethodDescriptor mdX12_ofLoan.2.1.desc).map (fun d => d.parameters.length) = some 2 := ⟨wsg_t (i := 1570) (by decide +kernel) (by decide +kernel), wsg_t (i := 1571) (by decide +kernel) (by decide +kernel), wsg_t (i := 13) (by decide +kernel) (by decide +kernel), wsg_t (i := 1572) (by decide +kernel) (by decide +kernel), by decide +kernel, by decide +kernel, by decide +kernel⟩
set_option maxRecDepth 20000 in
theorem cv_L_232 : CV RL 232 mdX12_ofLoan 2 := ⟨wsg_t (i := 1569) (by decide +kernel) (by decide +kernel), kv_X12_ofLoan⟩
def hhL_payment : List (Nat × Nat × Nat × Nat) := [(0, 9, 12, 13)]
set_option maxRecDepth 20000 in
theorem kh_L_payment : Cond.static mdL_payment.2.1 ∈ WSg ∧ Cond.initialized mdL_payment.2.1.cls ∈ WSg ∧ Cond.codeWith mdL_payment.2.1 mdL_payment.2.2.1 mdL_payment.2.2.2.1 mdL_payment.2.2.2.2.1 hhL_payment ∈ WSg ∧ mdL_payment.2.1.cls ≠ "java/lang/invoke/MethodHandle" ∧ mdL_payment.2.1.cls ≠ "java/lang/invoke/VarHandle" ∧ (parseMethodDescriptor mdL_payment.2.1.desc).map (fun d => d.parameters.length) = some 3 := ⟨wsg_t (i := 1077) (by decide +kernel) (by decide +kernel), wsg_t (i := 0) (by decide +kernel) (by decide +kernel), wsg_t (i := 1078) (by decide +kernel) (by decide +kernel), by decide +kernel, by decide +kernel, by decide +kernel⟩
set_option maxRecDepth 20000 in
theorem ch_L_233 : CH RL 233 mdL_payment hhL_payment 3 := ⟨wsg_t (i := 1076) (by decide +kernel) (by decide +kernel), kh_L_payment⟩
set_option maxRecDepth 20000 in
theorem kv_X12_payment : Cond.instanceMethod mdX12_payment.2.1 ∈ WSg ∧ Cond.selects mdX12_payment.2.1.cls mdX12_payment.2.1 mdX12_payment.2.1 ∈ WSg ∧ Cond.initialized mdX12_payment.2.1.cls ∈ WSg ∧ Cond.code mdX12_payment.2.1 mdX12_payment.2.2.1 mdX12_payment.2.2.2.1 mdX12_payment.2.2.2.2.1 ∈ WSg ∧ mdX12_payment.2.1.cls ≠ "java/lang/invoke/MethodHandle" ∧ mdX12_payment.2.1.cls ≠ "java/lang/invoke/VarHandle" ∧ (parseMethodDescriptor mdX12_payment.2.1.desc).map (fun d => d.parameters.length) = some 1 := ⟨wsg_t (i := 1574) (by decide +kernel) (by decide +kernel), wsg_t (i := 1575) (by decide +kernel) (by decide +kernel), wsg_t (i := 13) (by decide +kernel) (by decide +kernel), wsg_t (i := 1576) (by decide +kernel) (by decide +kernel), by decide +kernel, by decide +kernel, by decide +kernel⟩
set_option maxRecDepth 20000 in
theorem cv_L_235 : CV RL 235 mdX12_payment 1 := ⟨wsg_t (i := 1573) (by decide +kernel) (by decide +kernel), kv_X12_payment⟩
set_option maxRecDepth 20000 in
theorem kv_X11_treasury : Cond.instanceMethod mdX11_treasury.2.1 ∈ WSg ∧ Cond.selects mdX11_treasury.2.1.cls mdX11_treasury.2.1 mdX11_treasury.2.1 ∈ WSg ∧ Cond.initialized mdX11_treasury.2.1.cls ∈ WSg ∧ Cond.code mdX11_treasury.2.1 mdX11_treasury.2.2.1 mdX11_treasury.2.2.2.1 mdX11_treasury.2.2.2.2.1 ∈ WSg ∧ mdX11_treasury.2.1.cls ≠ "java/lang/invoke/MethodHandle" ∧ mdX11_treasury.2.1.cls ≠ "java/lang/invoke/VarHandle" ∧ (parseMethodDescriptor mdX11_treasury.2.1.desc).map (fun d => d.parameters.length) = some 0 := ⟨wsg_t (i := 437) (by decide +kernel) (by decide +kernel), wsg_t (i := 438) (by decide +kernel) (by decide +kernel), wsg_t (i := 1) (by decide +kernel) (by decide +kernel), wsg_t (i := 439) (by decide +kernel) (by decide +kernel), by decide +kernel, by decide +kernel, by decide +kernel⟩
set_option maxRecDepth 20000 in
theorem cv_L_236 : CV RL 236 mdX11_treasury 0 := ⟨wsg_t (i := 436) (by decide +kernel) (by decide +kernel), kv_X11_treasury⟩
set_option maxRecDepth 20000 in
theorem kv_X12_treasury : Cond.instanceMethod mdX12_treasury.2.1 ∈ WSg ∧ Cond.selects mdX12_treasury.2.1.cls mdX12_treasury.2.1 mdX12_treasury.2.1 ∈ WSg ∧ Cond.initialized mdX12_treasury.2.1.cls ∈ WSg ∧ Cond.code mdX12_treasury.2.1 mdX12_treasury.2.2.1 mdX12_treasury.2.2.2.1 mdX12_treasury.2.2.2.2.1 ∈ WSg ∧ mdX12_treasury.2.1.cls ≠ "java/lang/invoke/MethodHandle" ∧ mdX12_treasury.2.1.cls ≠ "java/lang/invoke/VarHandle" ∧ (parseMethodDescriptor mdX12_treasury.2.1.desc).map (fun d => d.parameters.length) = some 0 := ⟨wsg_t (i := 1578) (by decide +kernel) (by decide +kernel), wsg_t (i := 1579) (by decide +kernel) (by decide +kernel), wsg_t (i := 13) (by decide +kernel) (by decide +kernel), wsg_t (i := 1580) (by decide +kernel) (by decide +kernel), by decide +kernel, by decide +kernel, by decide +kernel⟩
set_option maxRecDepth 20000 in
theorem cv_L_239 : CV RL 239 mdX12_treasury 0 := ⟨wsg_t (i := 1577) (by decide +kernel) (by decide +kernel), kv_X12_treasury⟩
set_option maxRecDepth 20000 in
theorem kv_X11_owed : Cond.instanceMethod mdX11_owed.2.1 ∈ WSg ∧ Cond.selects mdX11_owed.2.1.cls mdX11_owed.2.1 mdX11_owed.2.1 ∈ WSg ∧ Cond.initialized mdX11_owed.2.1.cls ∈ WSg ∧ Cond.code mdX11_owed.2.1 mdX11_owed.2.2.1 mdX11_owed.2.2.2.1 mdX11_owed.2.2.2.2.1 ∈ WSg ∧ mdX11_owed.2.1.cls ≠ "java/lang/invoke/MethodHandle" ∧ mdX11_owed.2.1.cls ≠ "java/lang/invoke/VarHandle" ∧ (parseMethodDescriptor mdX11_owed.2.1.desc).map (fun d => d.parameters.length) = some 0 := ⟨wsg_t (i := 441) (by decide +kernel) (by decide +kernel), wsg_t (i := 442) (by decide +kernel) (by decide +kernel), wsg_t (i := 1) (by decide +kernel) (by decide +kernel), wsg_t (i := 443) (by decide +kernel) (by decide +kernel), by decide +kernel, by decide +kernel, by decide +kernel⟩
set_option maxRecDepth 20000 in
theorem cv_L_240 : CV RL 240 mdX11_owed 0 := ⟨wsg_t (i := 440) (by decide +kernel) (by decide +kernel), kv_X11_owed⟩
set_option maxRecDepth 20000 in
theorem kv_X12_owed : Cond.instanceMethod mdX12_owed.2.1 ∈ WSg ∧ Cond.selects mdX12_owed.2.1.cls mdX12_owed.2.1 mdX12_owed.2.1 ∈ WSg ∧ Cond.initialized mdX12_owed.2.1.cls ∈ WSg ∧ Cond.code mdX12_owed.2.1 mdX12_owed.2.2.1 mdX12_owed.2.2.2.1 mdX12_owed.2.2.2.2.1 ∈ WSg ∧ mdX12_owed.2.1.cls ≠ "java/lang/invoke/MethodHandle" ∧ mdX12_owed.2.1.cls ≠ "java/lang/invoke/VarHandle" ∧ (parseMethodDescriptor mdX12_owed.2.1.desc).map (fun d => d.parameters.length) = some 0 := ⟨wsg_t (i := 1582) (by decide +kernel) (by decide +kernel), wsg_t (i := 1583) (by decide +kernel) (by decide +kernel), wsg_t (i := 13) (by decide +kernel) (by decide +kernel), wsg_t (i := 1584) (by decide +kernel) (by decide +kernel), by decide +kernel, by decide +kernel, by decide +kernel⟩
set_option maxRecDepth 20000 in
theorem cv_L_243 : CV RL 243 mdX12_owed 0 := ⟨wsg_t (i := 1581) (by decide +kernel) (by decide +kernel), kv_X12_owed⟩
set_option maxRecDepth 20000 in
theorem kv_X11_foreign : Cond.instanceMethod mdX11_foreign.2.1 ∈ WSg ∧ Cond.selects mdX11_foreign.2.1.cls mdX11_foreign.2.1 mdX11_foreign.2.1 ∈ WSg ∧ Cond.initialized mdX11_foreign.2.1.cls ∈ WSg ∧ Cond.code mdX11_foreign.2.1 mdX11_foreign.2.2.1 mdX11_foreign.2.2.2.1 mdX11_foreign.2.2.2.2.1 ∈ WSg ∧ mdX11_foreign.2.1.cls ≠ "java/lang/invoke/MethodHandle" ∧ mdX11_foreign.2.1.cls ≠ "java/lang/invoke/VarHandle" ∧ (parseMethodDescriptor mdX11_foreign.2.1.desc).map (fun d => d.parameters.length) = some 0 := ⟨wsg_t (i := 453) (by decide +kernel) (by decide +kernel), wsg_t (i := 454) (by decide +kernel) (by decide +kernel), wsg_t (i := 1) (by decide +kernel) (by decide +kernel), wsg_t (i := 455) (by decide +kernel) (by decide +kernel), by decide +kernel, by decide +kernel, by decide +kernel⟩
set_option maxRecDepth 20000 in
theorem cv_L_244 : CV RL 244 mdX11_foreign 0 := ⟨wsg_t (i := 452) (by decide +kernel) (by decide +kernel), kv_X11_foreign⟩
set_option maxRecDepth 20000 in
theorem kv_X12_foreign : Cond.instanceMethod mdX12_foreign.2.1 ∈ WSg ∧ Cond.selects mdX12_foreign.2.1.cls mdX12_foreign.2.1 mdX12_foreign.2.1 ∈ WSg ∧ Cond.initialized mdX12_foreign.2.1.cls ∈ WSg ∧ Cond.code mdX12_foreign.2.1 mdX12_foreign.2.2.1 mdX12_foreign.2.2.2.1 mdX12_foreign.2.2.2.2.1 ∈ WSg ∧ mdX12_foreign.2.1.cls ≠ "java/lang/invoke/MethodHandle" ∧ mdX12_foreign.2.1.cls ≠ "java/lang/invoke/VarHandle" ∧ (parseMethodDescriptor mdX12_foreign.2.1.desc).map (fun d => d.parameters.length) = some 0 := ⟨wsg_t (i := 1586) (by decide +kernel) (by decide +kernel), wsg_t (i := 1587) (by decide +kernel) (by decide +kernel), wsg_t (i := 13) (by decide +kernel) (by decide +kernel), wsg_t (i := 1588) (by decide +kernel) (by decide +kernel), by decide +kernel, by decide +kernel, by decide +kernel⟩
set_option maxRecDepth 20000 in
theorem cv_L_247 : CV RL 247 mdX12_foreign 0 := ⟨wsg_t (i := 1585) (by decide +kernel) (by decide +kernel), kv_X12_foreign⟩
set_option maxRecDepth 20000 in
theorem kv_X11_central : Cond.instanceMethod mdX11_central.2.1 ∈ WSg ∧ Cond.selects mdX11_central.2.1.cls mdX11_central.2.1 mdX11_central.2.1 ∈ WSg ∧ Cond.initialized mdX11_central.2.1.cls ∈ WSg ∧ Cond.code mdX11_central.2.1 mdX11_central.2.2.1 mdX11_central.2.2.2.1 mdX11_central.2.2.2.2.1 ∈ WSg ∧ mdX11_central.2.1.cls ≠ "java/lang/invoke/MethodHandle" ∧ mdX11_central.2.1.cls ≠ "java/lang/invoke/VarHandle" ∧ (parseMethodDescriptor mdX11_central.2.1.desc).map (fun d => d.parameters.length) = some 0 := ⟨wsg_t (i := 457) (by decide +kernel) (by decide +kernel), wsg_t (i := 458) (by decide +kernel) (by decide +kernel), wsg_t (i := 1) (by decide +kernel) (by decide +kernel), wsg_t (i := 459) (by decide +kernel) (by decide +kernel), by decide +kernel, by decide +kernel, by decide +kernel⟩
set_option maxRecDepth 20000 in
theorem cv_L_248 : CV RL 248 mdX11_central 0 := ⟨wsg_t (i := 456) (by decide +kernel) (by decide +kernel), kv_X11_central⟩
set_option maxRecDepth 20000 in
theorem kv_X12_central : Cond.instanceMethod mdX12_central.2.1 ∈ WSg ∧ Cond.selects mdX12_central.2.1.cls mdX12_central.2.1 mdX12_central.2.1 ∈ WSg ∧ Cond.initialized mdX12_central.2.1.cls ∈ WSg ∧ Cond.code mdX12_central.2.1 mdX12_central.2.2.1 mdX12_central.2.2.2.1 mdX12_central.2.2.2.2.1 ∈ WSg ∧ mdX12_central.2.1.cls ≠ "java/lang/invoke/MethodHandle" ∧ mdX12_central.2.1.cls ≠ "java/lang/invoke/VarHandle" ∧ (parseMethodDescriptor mdX12_central.2.1.desc).map (fun d => d.parameters.length) = some 0 := ⟨wsg_t (i := 1590) (by decide +kernel) (by decide +kernel), wsg_t (i := 1591) (by decide +kernel) (by decide +kernel), wsg_t (i := 13) (by decide +kernel) (by decide +kernel), wsg_t (i := 1592) (by decide +kernel) (by decide +kernel), by decide +kernel, by decide +kernel, by decide +kernel⟩
set_option maxRecDepth 20000 in
theorem cv_L_251 : CV RL 251 mdX12_central 0 := ⟨wsg_t (i := 1589) (by decide +kernel) (by decide +kernel), kv_X12_central⟩
set_option maxRecDepth 20000 in
theorem kv_X11_centralAnew : Cond.instanceMethod mdX11_centralAnew.2.1 ∈ WSg ∧ Cond.selects mdX11_centralAnew.2.1.cls mdX11_centralAnew.2.1 mdX11_centralAnew.2.1 ∈ WSg ∧ Cond.initialized mdX11_centralAnew.2.1.cls ∈ WSg ∧ Cond.code mdX11_centralAnew.2.1 mdX11_centralAnew.2.2.1 mdX11_centralAnew.2.2.2.1 mdX11_centralAnew.2.2.2.2.1 ∈ WSg ∧ mdX11_centralAnew.2.1.cls ≠ "java/lang/invoke/MethodHandle" ∧ mdX11_centralAnew.2.1.cls ≠ "java/lang/invoke/VarHandle" ∧ (parseMethodDescriptor mdX11_centralAnew.2.1.desc).map (fun d => d.parameters.length) = some 0 := ⟨wsg_t (i := 474) (by decide +kernel) (by decide +kernel), wsg_t (i := 475) (by decide +kernel) (by decide +kernel), wsg_t (i := 1) (by decide +kernel) (by decide +kernel), wsg_t (i := 476) (by decide +kernel) (by decide +kernel), by decide +kernel, by decide +kernel, by decide +kernel⟩
set_option maxRecDepth 20000 in
theorem cv_L_252 : CV RL 252 mdX11_centralAnew 0 := ⟨wsg_t (i := 473) (by decide +kernel) (by decide +kernel), kv_X11_centralAnew⟩
set_option maxRecDepth 20000 in
theorem kv_X12_centralAnew : Cond.instanceMethod mdX12_centralAnew.2.1 ∈ WSg ∧ Cond.selects mdX12_centralAnew.2.1.cls mdX12_centralAnew.2.1 mdX12_centralAnew.2.1 ∈ WSg ∧ Cond.initialized mdX12_centralAnew.2.1.cls ∈ WSg ∧ Cond.code mdX12_centralAnew.2.1 mdX12_centralAnew.2.2.1 mdX12_centralAnew.2.2.2.1 mdX12_centralAnew.2.2.2.2.1 ∈ WSg ∧ mdX12_centralAnew.2.1.cls ≠ "java/lang/invoke/MethodHandle" ∧ mdX12_centralAnew.2.1.cls ≠ "java/lang/invoke/VarHandle" ∧ (parseMethodDescriptor mdX12_centralAnew.2.1.desc).map (fun d => d.parameters.length) = some 0 := ⟨wsg_t (i := 1598) (by decide +kernel) (by decide +kernel), wsg_t (i := 1599) (by decide +kernel) (by decide +kernel), wsg_t (i := 13) (by decide +kernel) (by decide +kernel), wsg_t (i := 1600) (by decide +kernel) (by decide +kernel), by decide +kernel, by decide +kernel, by decide +kernel⟩
set_option maxRecDepth 20000 in
theorem cv_L_255 : CV RL 255 mdX12_centralAnew 0 := ⟨wsg_t (i := 1597) (by decide +kernel) (by decide +kernel), kv_X12_centralAnew⟩
set_option maxRecDepth 20000 in
theorem kv_X11_money : Cond.instanceMethod mdX11_money.2.1 ∈ WSg ∧ Cond.selects mdX11_money.2.1.cls mdX11_money.2.1 mdX11_money.2.1 ∈ WSg ∧ Cond.initialized mdX11_money.2.1.cls ∈ WSg ∧ Cond.code mdX11_money.2.1 mdX11_money.2.2.1 mdX11_money.2.2.2.1 mdX11_money.2.2.2.2.1 ∈ WSg ∧ mdX11_money.2.1.cls ≠ "java/lang/invoke/MethodHandle" ∧ mdX11_money.2.1.cls ≠ "java/lang/invoke/VarHandle" ∧ (parseMethodDescriptor mdX11_money.2.1.desc).map (fun d => d.parameters.length) = some 0 := ⟨wsg_t (i := 482) (by decide +kernel) (by decide +kernel), wsg_t (i := 483) (by decide +kernel) (by decide +kernel), wsg_t (i := 1) (by decide +kernel) (by decide +kernel), wsg_t (i := 484) (by decide +kernel) (by decide +kernel), by decide +kernel, by decide +kernel, by decide +kernel⟩
set_option maxRecDepth 20000 in
theorem cv_L_256 : CV RL 256 mdX11_money 0 := ⟨wsg_t (i := 481) (by decide +kernel) (by decide +kernel), kv_X11_money⟩
set_option maxRecDepth 20000 in
theorem kv_X12_money : Cond.instanceMethod mdX12_money.2.1 ∈ WSg ∧ Cond.selects mdX12_money.2.1.cls mdX12_money.2.1 mdX12_money.2.1 ∈ WSg ∧ Cond.initialized mdX12_money.2.1.cls ∈ WSg ∧ Cond.code mdX12_money.2.1 mdX12_money.2.2.1 mdX12_money.2.2.2.1 mdX12_money.2.2.2.2.1 ∈ WSg ∧ mdX12_money.2.1.cls ≠ "java/lang/invoke/MethodHandle" ∧ mdX12_money.2.1.cls ≠ "java/lang/invoke/VarHandle" ∧ (parseMethodDescriptor mdX12_money.2.1.desc).map (fun d => d.parameters.length) = some 0 := ⟨wsg_t (i := 1602) (by decide +kernel) (by decide +kernel), wsg_t (i := 1603) (by decide +kernel) (by decide +kernel), wsg_t (i := 13) (by decide +kernel) (by decide +kernel), wsg_t (i := 1604) (by decide +kernel) (by decide +kernel), by decide +kernel, by decide +kernel, by decide +kernel⟩
set_option maxRecDepth 20000 in
theorem cv_L_259 : CV RL 259 mdX12_money 0 := ⟨wsg_t (i := 1601) (by decide +kernel) (by decide +kernel), kv_X12_money⟩
def hhL_price : List (Nat × Nat × Nat × Nat) := [(0, 9, 12, 13)]
set_option maxRecDepth 20000 in
theorem kh_L_price : Cond.static mdL_price.2.1 ∈ WSg ∧ Cond.initialized mdL_price.2.1.cls ∈ WSg ∧ Cond.codeWith mdL_price.2.1 mdL_price.2.2.1 mdL_price.2.2.2.1 mdL_price.2.2.2.2.1 hhL_price ∈ WSg ∧ mdL_price.2.1.cls ≠ "java/lang/invoke/MethodHandle" ∧ mdL_price.2.1.cls ≠ "java/lang/invoke/VarHandle" ∧ (parseMethodDescriptor mdL_price.2.1.desc).map (fun d => d.parameters.length) = some 3 := ⟨wsg_t (i := 1085) (by decide +kernel) (by decide +kernel), wsg_t (i := 0) (by decide +kernel) (by decide +kernel), wsg_t (i := 1086) (by decide +kernel) (by decide +kernel), by decide +kernel, by decide +kernel, by decide +kernel⟩
set_option maxRecDepth 20000 in
theorem ch_L_260 : CH RL 260 mdL_price hhL_price 3 := ⟨wsg_t (i := 1084) (by decide +kernel) (by decide +kernel), kh_L_price⟩
set_option maxRecDepth 20000 in
theorem kv_X12_price : Cond.instanceMethod mdX12_price.2.1 ∈ WSg ∧ Cond.selects mdX12_price.2.1.cls mdX12_price.2.1 mdX12_price.2.1 ∈ WSg ∧ Cond.initialized mdX12_price.2.1.cls ∈ WSg ∧ Cond.code mdX12_price.2.1 mdX12_price.2.2.1 mdX12_price.2.2.2.1 mdX12_price.2.2.2.2.1 ∈ WSg ∧ mdX12_price.2.1.cls ≠ "java/lang/invoke/MethodHandle" ∧ mdX12_price.2.1.cls ≠ "java/lang/invoke/VarHandle" ∧ (parseMethodDescriptor mdX12_price.2.1.desc).map (fun d => d.parameters.length) = some 1 := ⟨wsg_t (i := 1606) (by decide +kernel) (by decide +kernel), wsg_t (i := 1607) (by decide +kernel) (by decide +kernel), wsg_t (i := 13) (by decide +kernel) (by decide +kernel), wsg_t (i := 1608) (by decide +kernel) (by decide +kernel), by decide +kernel, by decide +kernel, by decide +kernel⟩
set_option maxRecDepth 20000 in
theorem cv_L_262 : CV RL 262 mdX12_price 1 := ⟨wsg_t (i := 1605) (by decide +kernel) (by decide +kernel), kv_X12_price⟩
def hhL_sales : List (Nat × Nat × Nat × Nat) := [(0, 10, 13, 13)]
set_option maxRecDepth 20000 in
theorem kh_L_sales : Cond.static mdL_sales.2.1 ∈ WSg ∧ Cond.initialized mdL_sales.2.1.cls ∈ WSg ∧ Cond.codeWith mdL_sales.2.1 mdL_sales.2.2.1 mdL_sales.2.2.2.1 mdL_sales.2.2.2.2.1 hhL_sales ∈ WSg ∧ mdL_sales.2.1.cls ≠ "java/lang/invoke/MethodHandle" ∧ mdL_sales.2.1.cls ≠ "java/lang/invoke/VarHandle" ∧ (parseMethodDescriptor mdL_sales.2.1.desc).map (fun d => d.parameters.length) = some 4 := ⟨wsg_t (i := 1092) (by decide +kernel) (by decide +kernel), wsg_t (i := 0) (by decide +kernel) (by decide +kernel), wsg_t (i := 1093) (by decide +kernel) (by decide +kernel), by decide +kernel, by decide +kernel, by decide +kernel⟩
set_option maxRecDepth 20000 in
theorem ch_L_263 : CH RL 263 mdL_sales hhL_sales 4 := ⟨wsg_t (i := 1091) (by decide +kernel) (by decide +kernel), kh_L_sales⟩
set_option maxRecDepth 20000 in
theorem kv_X12_sales : Cond.instanceMethod mdX12_sales.2.1 ∈ WSg ∧ Cond.selects mdX12_sales.2.1.cls mdX12_sales.2.1 mdX12_sales.2.1 ∈ WSg ∧ Cond.initialized mdX12_sales.2.1.cls ∈ WSg ∧ Cond.code mdX12_sales.2.1 mdX12_sales.2.2.1 mdX12_sales.2.2.2.1 mdX12_sales.2.2.2.2.1 ∈ WSg ∧ mdX12_sales.2.1.cls ≠ "java/lang/invoke/MethodHandle" ∧ mdX12_sales.2.1.cls ≠ "java/lang/invoke/VarHandle" ∧ (parseMethodDescriptor mdX12_sales.2.1.desc).map (fun d => d.parameters.length) = some 2 := ⟨wsg_t (i := 1610) (by decide +kernel) (by decide +kernel), wsg_t (i := 1611) (by decide +kernel) (by decide +kernel), wsg_t (i := 13) (by decide +kernel) (by decide +kernel), wsg_t (i := 1612) (by decide +kernel) (by decide +kernel), by decide +kernel, by decide +kernel, by decide +kernel⟩
set_option maxRecDepth 20000 in
theorem cv_L_266 : CV RL 266 mdX12_sales 2 := ⟨wsg_t (i := 1609) (by decide +kernel) (by decide +kernel), kv_X12_sales⟩
set_option maxRecDepth 20000 in
theorem ks_X12_in : Cond.static mdX12_in.2.1 ∈ WSg ∧ Cond.initialized mdX12_in.2.1.cls ∈ WSg ∧ Cond.code mdX12_in.2.1 mdX12_in.2.2.1 mdX12_in.2.2.2.1 mdX12_in.2.2.2.2.1 ∈ WSg ∧ mdX12_in.2.1.cls ≠ "java/lang/invoke/MethodHandle" ∧ mdX12_in.2.1.cls ≠ "java/lang/invoke/VarHandle" ∧ (parseMethodDescriptor mdX12_in.2.1.desc).map (fun d => d.parameters.length) = some 3 := ⟨wsg_t (i := 1278) (by decide +kernel) (by decide +kernel), wsg_t (i := 13) (by decide +kernel) (by decide +kernel), wsg_t (i := 1279) (by decide +kernel) (by decide +kernel), by decide +kernel, by decide +kernel, by decide +kernel⟩
set_option maxRecDepth 20000 in
theorem cs_X12_141 : CS RX12 141 mdX12_in 3 := ⟨wsg_t (i := 1277) (by decide +kernel) (by decide +kernel), ks_X12_in⟩
set_option maxRecDepth 20000 in
theorem kv_X12_bondsOf : Cond.instanceMethod mdX12_bondsOf.2.1 ∈ WSg ∧ Cond.selects mdX12_bondsOf.2.1.cls mdX12_bondsOf.2.1 mdX12_bondsOf.2.1 ∈ WSg ∧ Cond.initialized mdX12_bondsOf.2.1.cls ∈ WSg ∧ Cond.code mdX12_bondsOf.2.1 mdX12_bondsOf.2.2.1 mdX12_bondsOf.2.2.2.1 mdX12_bondsOf.2.2.2.2.1 ∈ WSg ∧ mdX12_bondsOf.2.1.cls ≠ "java/lang/invoke/MethodHandle" ∧ mdX12_bondsOf.2.1.cls ≠ "java/lang/invoke/VarHandle" ∧ (parseMethodDescriptor mdX12_bondsOf.2.1.desc).map (fun d => d.parameters.length) = some 1 := ⟨wsg_t (i := 1344) (by decide +kernel) (by decide +kernel), wsg_in (List.mem_append_left _ (List.mem_of_getElem? (i := 38) (by decide +kernel))) (by decide +kernel), wsg_t (i := 13) (by decide +kernel) (by decide +kernel), wsg_t (i := 1345) (by decide +kernel) (by decide +kernel), by decide +kernel, by decide +kernel, by decide +kernel⟩
set_option maxRecDepth 20000 in
theorem cv_X12_151 : CV RX12 151 mdX12_bondsOf 1 := ⟨wsg_t (i := 1342) (by decide +kernel) (by decide +kernel), kv_X12_bondsOf⟩
set_option maxRecDepth 20000 in
theorem kv_X12_loansOf : Cond.instanceMethod mdX12_loansOf.2.1 ∈ WSg ∧ Cond.selects mdX12_loansOf.2.1.cls mdX12_loansOf.2.1 mdX12_loansOf.2.1 ∈ WSg ∧ Cond.initialized mdX12_loansOf.2.1.cls ∈ WSg ∧ Cond.code mdX12_loansOf.2.1 mdX12_loansOf.2.2.1 mdX12_loansOf.2.2.2.1 mdX12_loansOf.2.2.2.2.1 ∈ WSg ∧ mdX12_loansOf.2.1.cls ≠ "java/lang/invoke/MethodHandle" ∧ mdX12_loansOf.2.1.cls ≠ "java/lang/invoke/VarHandle" ∧ (parseMethodDescriptor mdX12_loansOf.2.1.desc).map (fun d => d.parameters.length) = some 1 := ⟨wsg_t (i := 1348) (by decide +kernel) (by decide +kernel), wsg_in (List.mem_append_left _ (List.mem_of_getElem? (i := 39) (by decide +kernel))) (by decide +kernel), wsg_t (i := 13) (by decide +kernel) (by decide +kernel), wsg_t (i := 1349) (by decide +kernel) (by decide +kernel), by decide +kernel, by decide +kernel, by decide +kernel⟩
set_option maxRecDepth 20000 in
theorem cv_X12_155 : CV RX12 155 mdX12_loansOf 1 := ⟨wsg_t (i := 1346) (by decide +kernel) (by decide +kernel), kv_X12_loansOf⟩
set_option maxRecDepth 20000 in
theorem kv_X12_inAccounts : Cond.instanceMethod mdX12_inAccounts.2.1 ∈ WSg ∧ Cond.selects mdX12_inAccounts.2.1.cls mdX12_inAccounts.2.1 mdX12_inAccounts.2.1 ∈ WSg ∧ Cond.initialized mdX12_inAccounts.2.1.cls ∈ WSg ∧ Cond.code mdX12_inAccounts.2.1 mdX12_inAccounts.2.2.1 mdX12_inAccounts.2.2.2.1 mdX12_inAccounts.2.2.2.2.1 ∈ WSg ∧ mdX12_inAccounts.2.1.cls ≠ "java/lang/invoke/MethodHandle" ∧ mdX12_inAccounts.2.1.cls ≠ "java/lang/invoke/VarHandle" ∧ (parseMethodDescriptor mdX12_inAccounts.2.1.desc).map (fun d => d.parameters.length) = some 1 := ⟨wsg_t (i := 1415) (by decide +kernel) (by decide +kernel), wsg_in (List.mem_append_left _ (List.mem_of_getElem? (i := 50) (by decide +kernel))) (by decide +kernel), wsg_t (i := 13) (by decide +kernel) (by decide +kernel), wsg_t (i := 1416) (by decide +kernel) (by decide +kernel), by decide +kernel, by decide +kernel, by decide +kernel⟩
set_option maxRecDepth 20000 in
theorem cv_X12_158 : CV RX12 158 mdX12_inAccounts 1 := ⟨wsg_t (i := 1413) (by decide +kernel) (by decide +kernel), kv_X12_inAccounts⟩
set_option maxRecDepth 20000 in
theorem ks_X12_most : Cond.static mdX12_most.2.1 ∈ WSg ∧ Cond.initialized mdX12_most.2.1.cls ∈ WSg ∧ Cond.code mdX12_most.2.1 mdX12_most.2.2.1 mdX12_most.2.2.2.1 mdX12_most.2.2.2.2.1 ∈ WSg ∧ mdX12_most.2.1.cls ≠ "java/lang/invoke/MethodHandle" ∧ mdX12_most.2.1.cls ≠ "java/lang/invoke/VarHandle" ∧ (parseMethodDescriptor mdX12_most.2.1.desc).map (fun d => d.parameters.length) = some 2 := ⟨wsg_t (i := 1351) (by decide +kernel) (by decide +kernel), wsg_t (i := 13) (by decide +kernel) (by decide +kernel), wsg_t (i := 1352) (by decide +kernel) (by decide +kernel), by decide +kernel, by decide +kernel, by decide +kernel⟩
set_option maxRecDepth 20000 in
theorem cs_X12_161 : CS RX12 161 mdX12_most 2 := ⟨wsg_t (i := 1350) (by decide +kernel) (by decide +kernel), ks_X12_most⟩
set_option maxRecDepth 20000 in
theorem ks_X12_isHolder : Cond.static mdX12_isHolder.2.1 ∈ WSg ∧ Cond.initialized mdX12_isHolder.2.1.cls ∈ WSg ∧ Cond.code mdX12_isHolder.2.1 mdX12_isHolder.2.2.1 mdX12_isHolder.2.2.2.1 mdX12_isHolder.2.2.2.2.1 ∈ WSg ∧ mdX12_isHolder.2.1.cls ≠ "java/lang/invoke/MethodHandle" ∧ mdX12_isHolder.2.1.cls ≠ "java/lang/invoke/VarHandle" ∧ (parseMethodDescriptor mdX12_isHolder.2.1.desc).map (fun d => d.parameters.length) = some 1 := ⟨wsg_t (i := 1275) (by decide +kernel) (by decide +kernel), wsg_t (i := 13) (by decide +kernel) (by decide +kernel), wsg_t (i := 1276) (by decide +kernel) (by decide +kernel), by decide +kernel, by decide +kernel, by decide +kernel⟩
set_option maxRecDepth 20000 in
theorem cs_X12_171 : CS RX12 171 mdX12_isHolder 1 := ⟨wsg_t (i := 1274) (by decide +kernel) (by decide +kernel), ks_X12_isHolder⟩
set_option maxRecDepth 20000 in
theorem kv_X12_holds : Cond.instanceMethod mdX12_holds.2.1 ∈ WSg ∧ Cond.selects mdX12_holds.2.1.cls mdX12_holds.2.1 mdX12_holds.2.1 ∈ WSg ∧ Cond.initialized mdX12_holds.2.1.cls ∈ WSg ∧ Cond.code mdX12_holds.2.1 mdX12_holds.2.2.1 mdX12_holds.2.2.2.1 mdX12_holds.2.2.2.2.1 ∈ WSg ∧ mdX12_holds.2.1.cls ≠ "java/lang/invoke/MethodHandle" ∧ mdX12_holds.2.1.cls ≠ "java/lang/invoke/VarHandle" ∧ (parseMethodDescriptor mdX12_holds.2.1.desc).map (fun d => d.parameters.length) = some 1 := ⟨wsg_t (i := 1282) (by decide +kernel) (by decide +kernel), wsg_in (List.mem_append_left _ (List.mem_of_getElem? (i := 30) (by decide +kernel))) (by decide +kernel), wsg_t (i := 13) (by decide +kernel) (by decide +kernel), wsg_t (i := 1283) (by decide +kernel) (by decide +kernel), by decide +kernel, by decide +kernel, by decide +kernel⟩
set_option maxRecDepth 20000 in
theorem cv_X12_175 : CV RX12 175 mdX12_holds 1 := ⟨wsg_t (i := 1280) (by decide +kernel) (by decide +kernel), kv_X12_holds⟩
set_option maxRecDepth 20000 in
theorem kv_X12_leave : Cond.instanceMethod mdX12_leave.2.1 ∈ WSg ∧ Cond.selects mdX12_leave.2.1.cls mdX12_leave.2.1 mdX12_leave.2.1 ∈ WSg ∧ Cond.initialized mdX12_leave.2.1.cls ∈ WSg ∧ Cond.code mdX12_leave.2.1 mdX12_leave.2.2.1 mdX12_leave.2.2.2.1 mdX12_leave.2.2.2.2.1 ∈ WSg ∧ mdX12_leave.2.1.cls ≠ "java/lang/invoke/MethodHandle" ∧ mdX12_leave.2.1.cls ≠ "java/lang/invoke/VarHandle" ∧ (parseMethodDescriptor mdX12_leave.2.1.desc).map (fun d => d.parameters.length) = some 2 := ⟨wsg_t (i := 1294) (by decide +kernel) (by decide +kernel), wsg_in (List.mem_append_left _ (List.mem_of_getElem? (i := 31) (by decide +kernel))) (by decide +kernel), wsg_t (i := 13) (by decide +kernel) (by decide +kernel), wsg_t (i := 1295) (by decide +kernel) (by decide +kernel), by decide +kernel, by decide +kernel, by decide +kernel⟩
set_option maxRecDepth 20000 in
theorem cv_X12_178 : CV RX12 178 mdX12_leave 2 := ⟨wsg_t (i := 1292) (by decide +kernel) (by decide +kernel), kv_X12_leave⟩
set_option maxRecDepth 20000 in
theorem ks_X12_isBank : Cond.static mdX12_isBank.2.1 ∈ WSg ∧ Cond.initialized mdX12_isBank.2.1.cls ∈ WSg ∧ Cond.code mdX12_isBank.2.1 mdX12_isBank.2.2.1 mdX12_isBank.2.2.2.1 mdX12_isBank.2.2.2.2.1 ∈ WSg ∧ mdX12_isBank.2.1.cls ≠ "java/lang/invoke/MethodHandle" ∧ mdX12_isBank.2.1.cls ≠ "java/lang/invoke/VarHandle" ∧ (parseMethodDescriptor mdX12_isBank.2.1.desc).map (fun d => d.parameters.length) = some 1 := ⟨wsg_t (i := 1301) (by decide +kernel) (by decide +kernel), wsg_t (i := 13) (by decide +kernel) (by decide +kernel), wsg_t (i := 1302) (by decide +kernel) (by decide +kernel), by decide +kernel, by decide +kernel, by decide +kernel⟩
set_option maxRecDepth 20000 in
theorem cs_X12_181 : CS RX12 181 mdX12_isBank 1 := ⟨wsg_t (i := 1300) (by decide +kernel) (by decide +kernel), ks_X12_isBank⟩
set_option maxRecDepth 20000 in
theorem kv_X12_hasAccount : Cond.instanceMethod mdX12_hasAccount.2.1 ∈ WSg ∧ Cond.selects mdX12_hasAccount.2.1.cls mdX12_hasAccount.2.1 mdX12_hasAccount.2.1 ∈ WSg ∧ Cond.initialized mdX12_hasAccount.2.1.cls ∈ WSg ∧ Cond.code mdX12_hasAccount.2.1 mdX12_hasAccount.2.2.1 mdX12_hasAccount.2.2.2.1 mdX12_hasAccount.2.2.2.2.1 ∈ WSg ∧ mdX12_hasAccount.2.1.cls ≠ "java/lang/invoke/MethodHandle" ∧ mdX12_hasAccount.2.1.cls ≠ "java/lang/invoke/VarHandle" ∧ (parseMethodDescriptor mdX12_hasAccount.2.1.desc).map (fun d => d.parameters.length) = some 1 := ⟨wsg_t (i := 1305) (by decide +kernel) (by decide +kernel), wsg_in (List.mem_append_left _ (List.mem_of_getElem? (i := 32) (by decide +kernel))) (by decide +kernel), wsg_t (i := 13) (by decide +kernel) (by decide +kernel), wsg_t (i := 1306) (by decide +kernel) (by decide +kernel), by decide +kernel, by decide +kernel, by decide +kernel⟩
set_option maxRecDepth 20000 in
theorem cv_X12_184 : CV RX12 184 mdX12_hasAccount 1 := ⟨wsg_t (i := 1303) (by decide +kernel) (by decide +kernel), kv_X12_hasAccount⟩
set_option maxRecDepth 20000 in
theorem kv_X12_isAwaited : Cond.instanceMethod mdX12_isAwaited.2.1 ∈ WSg ∧ Cond.selects mdX12_isAwaited.2.1.cls mdX12_isAwaited.2.1 mdX12_isAwaited.2.1 ∈ WSg ∧ Cond.initialized mdX12_isAwaited.2.1.cls ∈ WSg ∧ Cond.code mdX12_isAwaited.2.1 mdX12_isAwaited.2.2.1 mdX12_isAwaited.2.2.2.1 mdX12_isAwaited.2.2.2.2.1 ∈ WSg ∧ mdX12_isAwaited.2.1.cls ≠ "java/lang/invoke/MethodHandle" ∧ mdX12_isAwaited.2.1.cls ≠ "java/lang/invoke/VarHandle" ∧ (parseMethodDescriptor mdX12_isAwaited.2.1.desc).map (fun d => d.parameters.length) = some 1 := ⟨wsg_t (i := 1313) (by decide +kernel) (by decide +kernel), wsg_in (List.mem_append_left _ (List.mem_of_getElem? (i := 33) (by decide +kernel))) (by decide +kernel), wsg_t (i := 13) (by decide +kernel) (by decide +kernel), wsg_t (i := 1314) (by decide +kernel) (by decide +kernel), by decide +kernel, by decide +kernel, by decide +kernel⟩
set_option maxRecDepth 20000 in
theorem cv_X12_190 : CV RX12 190 mdX12_isAwaited 1 := ⟨wsg_t (i := 1311) (by decide +kernel) (by decide +kernel), kv_X12_isAwaited⟩
set_option maxRecDepth 20000 in
theorem ks_X12_least : Cond.static mdX12_least.2.1 ∈ WSg ∧ Cond.initialized mdX12_least.2.1.cls ∈ WSg ∧ Cond.code mdX12_least.2.1 mdX12_least.2.2.1 mdX12_least.2.2.2.1 mdX12_least.2.2.2.2.1 ∈ WSg ∧ mdX12_least.2.1.cls ≠ "java/lang/invoke/MethodHandle" ∧ mdX12_least.2.1.cls ≠ "java/lang/invoke/VarHandle" ∧ (parseMethodDescriptor mdX12_least.2.1.desc).map (fun d => d.parameters.length) = some 2 := ⟨wsg_t (i := 1332) (by decide +kernel) (by decide +kernel), wsg_t (i := 13) (by decide +kernel) (by decide +kernel), wsg_t (i := 1333) (by decide +kernel) (by decide +kernel), by decide +kernel, by decide +kernel, by decide +kernel⟩
set_option maxRecDepth 20000 in
theorem cs_X12_193 : CS RX12 193 mdX12_least 2 := ⟨wsg_t (i := 1331) (by decide +kernel) (by decide +kernel), ks_X12_least⟩
set_option maxRecDepth 20000 in
theorem kv_X12_fails : Cond.instanceMethod mdX12_fails.2.1 ∈ WSg ∧ Cond.selects mdX12_fails.2.1.cls mdX12_fails.2.1 mdX12_fails.2.1 ∈ WSg ∧ Cond.initialized mdX12_fails.2.1.cls ∈ WSg ∧ Cond.code mdX12_fails.2.1 mdX12_fails.2.2.1 mdX12_fails.2.2.2.1 mdX12_fails.2.2.2.2.1 ∈ WSg ∧ mdX12_fails.2.1.cls ≠ "java/lang/invoke/MethodHandle" ∧ mdX12_fails.2.1.cls ≠ "java/lang/invoke/VarHandle" ∧ (parseMethodDescriptor mdX12_fails.2.1.desc).map (fun d => d.parameters.length) = some 1 := ⟨wsg_t (i := 1336) (by decide +kernel) (by decide +kernel), wsg_in (List.mem_append_left _ (List.mem_of_getElem? (i := 36) (by decide +kernel))) (by decide +kernel), wsg_t (i := 13) (by decide +kernel) (by decide +kernel), wsg_t (i := 1337) (by decide +kernel) (by decide +kernel), by decide +kernel, by decide +kernel, by decide +kernel⟩
set_option maxRecDepth 20000 in
theorem cv_X12_199 : CV RX12 199 mdX12_fails 1 := ⟨wsg_t (i := 1334) (by decide +kernel) (by decide +kernel), kv_X12_fails⟩
set_option maxRecDepth 20000 in
theorem kv_X12_free : Cond.instanceMethod mdX12_free.2.1 ∈ WSg ∧ Cond.selects mdX12_free.2.1.cls mdX12_free.2.1 mdX12_free.2.1 ∈ WSg ∧ Cond.initialized mdX12_free.2.1.cls ∈ WSg ∧ Cond.code mdX12_free.2.1 mdX12_free.2.2.1 mdX12_free.2.2.2.1 mdX12_free.2.2.2.2.1 ∈ WSg ∧ mdX12_free.2.1.cls ≠ "java/lang/invoke/MethodHandle" ∧ mdX12_free.2.1.cls ≠ "java/lang/invoke/VarHandle" ∧ (parseMethodDescriptor mdX12_free.2.1.desc).map (fun d => d.parameters.length) = some 1 := ⟨wsg_t (i := 1325) (by decide +kernel) (by decide +kernel), wsg_in (List.mem_append_left _ (List.mem_of_getElem? (i := 34) (by decide +kernel))) (by decide +kernel), wsg_t (i := 13) (by decide +kernel) (by decide +kernel), wsg_t (i := 1326) (by decide +kernel) (by decide +kernel), by decide +kernel, by decide +kernel, by decide +kernel⟩
set_option maxRecDepth 20000 in
theorem cv_X12_202 : CV RX12 202 mdX12_free 1 := ⟨wsg_t (i := 1323) (by decide +kernel) (by decide +kernel), kv_X12_free⟩
set_option maxRecDepth 20000 in
theorem kv_X12_draws : Cond.instanceMethod mdX12_draws.2.1 ∈ WSg ∧ Cond.selects mdX12_draws.2.1.cls mdX12_draws.2.1 mdX12_draws.2.1 ∈ WSg ∧ Cond.initialized mdX12_draws.2.1.cls ∈ WSg ∧ Cond.code mdX12_draws.2.1 mdX12_draws.2.2.1 mdX12_draws.2.2.2.1 mdX12_draws.2.2.2.2.1 ∈ WSg ∧ mdX12_draws.2.1.cls ≠ "java/lang/invoke/MethodHandle" ∧ mdX12_draws.2.1.cls ≠ "java/lang/invoke/VarHandle" ∧ (parseMethodDescriptor mdX12_draws.2.1.desc).map (fun d => d.parameters.length) = some 2 := ⟨wsg_t (i := 1329) (by decide +kernel) (by decide +kernel), wsg_in (List.mem_append_left _ (List.mem_of_getElem? (i := 35) (by decide +kernel))) (by decide +kernel), wsg_t (i := 13) (by decide +kernel) (by decide +kernel), wsg_t (i := 1330) (by decide +kernel) (by decide +kernel), by decide +kernel, by decide +kernel, by decide +kernel⟩
set_option maxRecDepth 20000 in
theorem cv_X12_205 : CV RX12 205 mdX12_draws 2 := ⟨wsg_t (i := 1327) (by decide +kernel) (by decide +kernel), kv_X12_draws⟩
set_option maxRecDepth 20000 in
theorem kv_X12_finishes : Cond.instanceMethod mdX12_finishes.2.1 ∈ WSg ∧ Cond.selects mdX12_finishes.2.1.cls mdX12_finishes.2.1 mdX12_finishes.2.1 ∈ WSg ∧ Cond.initialized mdX12_finishes.2.1.cls ∈ WSg ∧ Cond.code mdX12_finishes.2.1 mdX12_finishes.2.2.1 mdX12_finishes.2.2.2.1 mdX12_finishes.2.2.2.2.1 ∈ WSg ∧ mdX12_finishes.2.1.cls ≠ "java/lang/invoke/MethodHandle" ∧ mdX12_finishes.2.1.cls ≠ "java/lang/invoke/VarHandle" ∧ (parseMethodDescriptor mdX12_finishes.2.1.desc).map (fun d => d.parameters.length) = some 1 := ⟨wsg_t (i := 1375) (by decide +kernel) (by decide +kernel), wsg_in (List.mem_append_left _ (List.mem_of_getElem? (i := 44) (by decide +kernel))) (by decide +kernel), wsg_t (i := 13) (by decide +kernel) (by decide +kernel), wsg_t (i := 1376) (by decide +kernel) (by decide +kernel), by decide +kernel, by decide +kernel, by decide +kernel⟩
set_option maxRecDepth 20000 in
theorem cv_X12_208 : CV RX12 208 mdX12_finishes 1 := ⟨wsg_t (i := 1373) (by decide +kernel) (by decide +kernel), kv_X12_finishes⟩
set_option maxRecDepth 20000 in
theorem kv_X12_mayPay : Cond.instanceMethod mdX12_mayPay.2.1 ∈ WSg ∧ Cond.selects mdX12_mayPay.2.1.cls mdX12_mayPay.2.1 mdX12_mayPay.2.1 ∈ WSg ∧ Cond.initialized mdX12_mayPay.2.1.cls ∈ WSg ∧ Cond.code mdX12_mayPay.2.1 mdX12_mayPay.2.2.1 mdX12_mayPay.2.2.2.1 mdX12_mayPay.2.2.2.2.1 ∈ WSg ∧ mdX12_mayPay.2.1.cls ≠ "java/lang/invoke/MethodHandle" ∧ mdX12_mayPay.2.1.cls ≠ "java/lang/invoke/VarHandle" ∧ (parseMethodDescriptor mdX12_mayPay.2.1.desc).map (fun d => d.parameters.length) = some 3 := ⟨wsg_t (i := 1367) (by decide +kernel) (by decide +kernel), wsg_in (List.mem_append_left _ (List.mem_of_getElem? (i := 42) (by decide +kernel))) (by decide +kernel), wsg_t (i := 13) (by decide +kernel) (by decide +kernel), wsg_t (i := 1368) (by decide +kernel) (by decide +kernel), by decide +kernel, by decide +kernel, by decide +kernel⟩
set_option maxRecDepth 20000 in
theorem cv_X12_212 : CV RX12 212 mdX12_mayPay 3 := ⟨wsg_t (i := 1365) (by decide +kernel) (by decide +kernel), kv_X12_mayPay⟩
set_option maxRecDepth 20000 in
theorem kv_X12_pays : Cond.instanceMethod mdX12_pays.2.1 ∈ WSg ∧ Cond.selects mdX12_pays.2.1.cls mdX12_pays.2.1 mdX12_pays.2.1 ∈ WSg ∧ Cond.initialized mdX12_pays.2.1.cls ∈ WSg ∧ Cond.code mdX12_pays.2.1 mdX12_pays.2.2.1 mdX12_pays.2.2.2.1 mdX12_pays.2.2.2.2.1 ∈ WSg ∧ mdX12_pays.2.1.cls ≠ "java/lang/invoke/MethodHandle" ∧ mdX12_pays.2.1.cls ≠ "java/lang/invoke/VarHandle" ∧ (parseMethodDescriptor mdX12_pays.2.1.desc).map (fun d => d.parameters.length) = some 4 := ⟨wsg_t (i := 1371) (by decide +kernel) (by decide +kernel), wsg_in (List.mem_append_left _ (List.mem_of_getElem? (i := 43) (by decide +kernel))) (by decide +kernel), wsg_t (i := 13) (by decide +kernel) (by decide +kernel), wsg_t (i := 1372) (by decide +kernel) (by decide +kernel), by decide +kernel, by decide +kernel, by decide +kernel⟩
set_option maxRecDepth 20000 in
theorem cv_X12_215 : CV RX12 215 mdX12_pays 4 := ⟨wsg_t (i := 1369) (by decide +kernel) (by decide +kernel), kv_X12_pays⟩
set_option maxRecDepth 20000 in
theorem kv_X12_laysNets : Cond.instanceMethod mdX12_laysNets.2.1 ∈ WSg ∧ Cond.selects mdX12_laysNets.2.1.cls mdX12_laysNets.2.1 mdX12_laysNets.2.1 ∈ WSg ∧ Cond.initialized mdX12_laysNets.2.1.cls ∈ WSg ∧ Cond.code mdX12_laysNets.2.1 mdX12_laysNets.2.2.1 mdX12_laysNets.2.2.2.1 mdX12_laysNets.2.2.2.2.1 ∈ WSg ∧ mdX12_laysNets.2.1.cls ≠ "java/lang/invoke/MethodHandle" ∧ mdX12_laysNets.2.1.cls ≠ "java/lang/invoke/VarHandle" ∧ (parseMethodDescriptor mdX12_laysNets.2.1.desc).map (fun d => d.parameters.length) = some 0 := ⟨wsg_t (i := 1387) (by decide +kernel) (by decide +kernel), wsg_in (List.mem_append_left _ (List.mem_of_getElem? (i := 46) (by decide +kernel))) (by decide +kernel), wsg_t (i := 13) (by decide +kernel) (by decide +kernel), wsg_t (i := 1388) (by decide +kernel) (by decide +kernel), by decide +kernel, by decide +kernel, by decide +kernel⟩
set_option maxRecDepth 20000 in
theorem cv_X12_219 : CV RX12 219 mdX12_laysNets 0 := ⟨wsg_t (i := 1385) (by decide +kernel) (by decide +kernel), kv_X12_laysNets⟩
set_option maxRecDepth 20000 in
theorem kv_X12_worstBank : Cond.instanceMethod mdX12_worstBank.2.1 ∈ WSg ∧ Cond.selects mdX12_worstBank.2.1.cls mdX12_worstBank.2.1 mdX12_worstBank.2.1 ∈ WSg ∧ Cond.initialized mdX12_worstBank.2.1.cls ∈ WSg ∧ Cond.code mdX12_worstBank.2.1 mdX12_worstBank.2.2.1 mdX12_worstBank.2.2.2.1 mdX12_worstBank.2.2.2.2.1 ∈ WSg ∧ mdX12_worstBank.2.1.cls ≠ "java/lang/invoke/MethodHandle" ∧ mdX12_worstBank.2.1.cls ≠ "java/lang/invoke/VarHandle" ∧ (parseMethodDescriptor mdX12_worstBank.2.1.desc).map (fun d => d.parameters.length) = some 0 := ⟨wsg_t (i := 1391) (by decide +kernel) (by decide +kernel), wsg_in (List.mem_append_left _ (List.mem_of_getElem? (i := 47) (by decide +kernel))) (by decide +kernel), wsg_t (i := 13) (by decide +kernel) (by decide +kernel), wsg_t (i := 1392) (by decide +kernel) (by decide +kernel), by decide +kernel, by decide +kernel, by decide +kernel⟩
set_option maxRecDepth 20000 in
theorem cv_X12_222 : CV RX12 222 mdX12_worstBank 0 := ⟨wsg_t (i := 1389) (by decide +kernel) (by decide +kernel), kv_X12_worstBank⟩
set_option maxRecDepth 20000 in
theorem kv_X12_clears : Cond.instanceMethod mdX12_clears.2.1 ∈ WSg ∧ Cond.selects mdX12_clears.2.1.cls mdX12_clears.2.1 mdX12_clears.2.1 ∈ WSg ∧ Cond.initialized mdX12_clears.2.1.cls ∈ WSg ∧ Cond.code mdX12_clears.2.1 mdX12_clears.2.2.1 mdX12_clears.2.2.2.1 mdX12_clears.2.2.2.2.1 ∈ WSg ∧ mdX12_clears.2.1.cls ≠ "java/lang/invoke/MethodHandle" ∧ mdX12_clears.2.1.cls ≠ "java/lang/invoke/VarHandle" ∧ (parseMethodDescriptor mdX12_clears.2.1.desc).map (fun d => d.parameters.length) = some 0 := ⟨wsg_t (i := 1383) (by decide +kernel) (by decide +kernel), wsg_in (List.mem_append_left _ (List.mem_of_getElem? (i := 45) (by decide +kernel))) (by decide +kernel), wsg_t (i := 13) (by decide +kernel) (by decide +kernel), wsg_t (i := 1384) (by decide +kernel) (by decide +kernel), by decide +kernel, by decide +kernel, by decide +kernel⟩
set_option maxRecDepth 20000 in
theorem cv_X12_226 : CV RX12 226 mdX12_clears 0 := ⟨wsg_t (i := 1381) (by decide +kernel) (by decide +kernel), kv_X12_clears⟩
set_option maxRecDepth 20000 in
theorem kv_X12_capital : Cond.instanceMethod mdX12_capital.2.1 ∈ WSg ∧ Cond.selects mdX12_capital.2.1.cls mdX12_capital.2.1 mdX12_capital.2.1 ∈ WSg ∧ Cond.initialized mdX12_capital.2.1.cls ∈ WSg ∧ Cond.code mdX12_capital.2.1 mdX12_capital.2.2.1 mdX12_capital.2.2.2.1 mdX12_capital.2.2.2.2.1 ∈ WSg ∧ mdX12_capital.2.1.cls ≠ "java/lang/invoke/MethodHandle" ∧ mdX12_capital.2.1.cls ≠ "java/lang/invoke/VarHandle" ∧ (parseMethodDescriptor mdX12_capital.2.1.desc).map (fun d => d.parameters.length) = some 1 := ⟨wsg_t (i := 1411) (by decide +kernel) (by decide +kernel), wsg_in (List.mem_append_left _ (List.mem_of_getElem? (i := 49) (by decide +kernel))) (by decide +kernel), wsg_t (i := 13) (by decide +kernel) (by decide +kernel), wsg_t (i := 1412) (by decide +kernel) (by decide +kernel), by decide +kernel, by decide +kernel, by decide +kernel⟩
set_option maxRecDepth 20000 in
theorem cv_X12_229 : CV RX12 229 mdX12_capital 1 := ⟨wsg_t (i := 1409) (by decide +kernel) (by decide +kernel), kv_X12_capital⟩
set_option maxRecDepth 20000 in
theorem kv_X12_mayLend : Cond.instanceMethod mdX12_mayLend.2.1 ∈ WSg ∧ Cond.selects mdX12_mayLend.2.1.cls mdX12_mayLend.2.1 mdX12_mayLend.2.1 ∈ WSg ∧ Cond.initialized mdX12_mayLend.2.1.cls ∈ WSg ∧ Cond.code mdX12_mayLend.2.1 mdX12_mayLend.2.2.1 mdX12_mayLend.2.2.2.1 mdX12_mayLend.2.2.2.2.1 ∈ WSg ∧ mdX12_mayLend.2.1.cls ≠ "java/lang/invoke/MethodHandle" ∧ mdX12_mayLend.2.1.cls ≠ "java/lang/invoke/VarHandle" ∧ (parseMethodDescriptor mdX12_mayLend.2.1.desc).map (fun d => d.parameters.length) = some 3 := ⟨wsg_t (i := 1407) (by decide +kernel) (by decide +kernel), wsg_in (List.mem_append_left _ (List.mem_of_getElem? (i := 48) (by decide +kernel))) (by decide +kernel), wsg_t (i := 13) (by decide +kernel) (by decide +kernel), wsg_t (i := 1408) (by decide +kernel) (by decide +kernel), by decide +kernel, by decide +kernel, by decide +kernel⟩
set_option maxRecDepth 20000 in
theorem cv_X12_232 : CV RX12 232 mdX12_mayLend 3 := ⟨wsg_t (i := 1405) (by decide +kernel) (by decide +kernel), kv_X12_mayLend⟩
set_option maxRecDepth 20000 in
theorem kv_X12_isLoan : Cond.instanceMethod mdX12_isLoan.2.1 ∈ WSg ∧ Cond.selects mdX12_isLoan.2.1.cls mdX12_isLoan.2.1 mdX12_isLoan.2.1 ∈ WSg ∧ Cond.initialized mdX12_isLoan.2.1.cls ∈ WSg ∧ Cond.code mdX12_isLoan.2.1 mdX12_isLoan.2.2.1 mdX12_isLoan.2.2.2.1 mdX12_isLoan.2.2.2.2.1 ∈ WSg ∧ mdX12_isLoan.2.1.cls ≠ "java/lang/invoke/MethodHandle" ∧ mdX12_isLoan.2.1.cls ≠ "java/lang/invoke/VarHandle" ∧ (parseMethodDescriptor mdX12_isLoan.2.1.desc).map (fun d => d.parameters.length) = some 1 := ⟨wsg_t (i := 1423) (by decide +kernel) (by decide +kernel), wsg_in (List.mem_append_left _ (List.mem_of_getElem? (i := 51) (by decide +kernel))) (by decide +kernel), wsg_t (i := 13) (by decide +kernel) (by decide +kernel), wsg_t (i := 1424) (by decide +kernel) (by decide +kernel), by decide +kernel, by decide +kernel, by decide +kernel⟩
set_option maxRecDepth 20000 in
theorem cv_X12_235 : CV RX12 235 mdX12_isLoan 1 := ⟨wsg_t (i := 1421) (by decide +kernel) (by decide +kernel), kv_X12_isLoan⟩
set_option maxRecDepth 20000 in
theorem kv_X12_canPay : Cond.instanceMethod mdX12_canPay.2.1 ∈ WSg ∧ Cond.selects mdX12_canPay.2.1.cls mdX12_canPay.2.1 mdX12_canPay.2.1 ∈ WSg ∧ Cond.initialized mdX12_canPay.2.1.cls ∈ WSg ∧ Cond.code mdX12_canPay.2.1 mdX12_canPay.2.2.1 mdX12_canPay.2.2.2.1 mdX12_canPay.2.2.2.2.1 ∈ WSg ∧ mdX12_canPay.2.1.cls ≠ "java/lang/invoke/MethodHandle" ∧ mdX12_canPay.2.1.cls ≠ "java/lang/invoke/VarHandle" ∧ (parseMethodDescriptor mdX12_canPay.2.1.desc).map (fun d => d.parameters.length) = some 2 := ⟨wsg_t (i := 1427) (by decide +kernel) (by decide +kernel), wsg_in (List.mem_append_left _ (List.mem_of_getElem? (i := 52) (by decide +kernel))) (by decide +kernel), wsg_t (i := 13) (by decide +kernel) (by decide +kernel), wsg_t (i := 1428) (by decide +kernel) (by decide +kernel), by decide +kernel, by decide +kernel, by decide +kernel⟩
set_option maxRecDepth 20000 in
theorem cv_X12_238 : CV RX12 238 mdX12_canPay 2 := ⟨wsg_t (i := 1425) (by decide +kernel) (by decide +kernel), kv_X12_canPay⟩
set_option maxRecDepth 20000 in
theorem kv_X12_endsMoney : Cond.instanceMethod mdX12_endsMoney.2.1 ∈ WSg ∧ Cond.selects mdX12_endsMoney.2.1.cls mdX12_endsMoney.2.1 mdX12_endsMoney.2.1 ∈ WSg ∧ Cond.initialized mdX12_endsMoney.2.1.cls ∈ WSg ∧ Cond.code mdX12_endsMoney.2.1 mdX12_endsMoney.2.2.1 mdX12_endsMoney.2.2.2.1 mdX12_endsMoney.2.2.2.2.1 ∈ WSg ∧ mdX12_endsMoney.2.1.cls ≠ "java/lang/invoke/MethodHandle" ∧ mdX12_endsMoney.2.1.cls ≠ "java/lang/invoke/VarHandle" ∧ (parseMethodDescriptor mdX12_endsMoney.2.1.desc).map (fun d => d.parameters.length) = some 2 := ⟨wsg_t (i := 1431) (by decide +kernel) (by decide +kernel), wsg_in (List.mem_append_left _ (List.mem_of_getElem? (i := 53) (by decide +kernel))) (by decide +kernel), wsg_t (i := 13) (by decide +kernel) (by decide +kernel), wsg_t (i := 1432) (by decide +kernel) (by decide +kernel), by decide +kernel, by decide +kernel, by decide +kernel⟩
set_option maxRecDepth 20000 in
theorem cv_X12_242 : CV RX12 242 mdX12_endsMoney 2 := ⟨wsg_t (i := 1429) (by decide +kernel) (by decide +kernel), kv_X12_endsMoney⟩
set_option maxRecDepth 20000 in
theorem kv_X12_room : Cond.instanceMethod mdX12_room.2.1 ∈ WSg ∧ Cond.selects mdX12_room.2.1.cls mdX12_room.2.1 mdX12_room.2.1 ∈ WSg ∧ Cond.initialized mdX12_room.2.1.cls ∈ WSg ∧ Cond.code mdX12_room.2.1 mdX12_room.2.2.1 mdX12_room.2.2.2.1 mdX12_room.2.2.2.2.1 ∈ WSg ∧ mdX12_room.2.1.cls ≠ "java/lang/invoke/MethodHandle" ∧ mdX12_room.2.1.cls ≠ "java/lang/invoke/VarHandle" ∧ (parseMethodDescriptor mdX12_room.2.1.desc).map (fun d => d.parameters.length) = some 1 := ⟨wsg_t (i := 1439) (by decide +kernel) (by decide +kernel), wsg_in (List.mem_append_left _ (List.mem_of_getElem? (i := 54) (by decide +kernel))) (by decide +kernel), wsg_t (i := 13) (by decide +kernel) (by decide +kernel), wsg_t (i := 1440) (by decide +kernel) (by decide +kernel), by decide +kernel, by decide +kernel, by decide +kernel⟩
set_option maxRecDepth 20000 in
theorem cv_X12_246 : CV RX12 246 mdX12_room 1 := ⟨wsg_t (i := 1437) (by decide +kernel) (by decide +kernel), kv_X12_room⟩
set_option maxRecDepth 20000 in
theorem kv_X12_nextBid : Cond.instanceMethod mdX12_nextBid.2.1 ∈ WSg ∧ Cond.selects mdX12_nextBid.2.1.cls mdX12_nextBid.2.1 mdX12_nextBid.2.1 ∈ WSg ∧ Cond.initialized mdX12_nextBid.2.1.cls ∈ WSg ∧ Cond.code mdX12_nextBid.2.1 mdX12_nextBid.2.2.1 mdX12_nextBid.2.2.2.1 mdX12_nextBid.2.2.2.2.1 ∈ WSg ∧ mdX12_nextBid.2.1.cls ≠ "java/lang/invoke/MethodHandle" ∧ mdX12_nextBid.2.1.cls ≠ "java/lang/invoke/VarHandle" ∧ (parseMethodDescriptor mdX12_nextBid.2.1.desc).map (fun d => d.parameters.length) = some 0 := ⟨wsg_t (i := 1467) (by decide +kernel) (by decide +kernel), wsg_in (List.mem_append_left _ (List.mem_of_getElem? (i := 56) (by decide +kernel))) (by decide +kernel), wsg_t (i := 13) (by decide +kernel) (by decide +kernel), wsg_t (i := 1468) (by decide +kernel) (by decide +kernel), by decide +kernel, by decide +kernel, by decide +kernel⟩
set_option maxRecDepth 20000 in
theorem cv_X12_255 : CV RX12 255 mdX12_nextBid 0 := ⟨wsg_t (i := 1465) (by decide +kernel) (by decide +kernel), kv_X12_nextBid⟩
set_option maxRecDepth 20000 in
theorem ks_X12_up : Cond.static mdX12_up.2.1 ∈ WSg ∧ Cond.initialized mdX12_up.2.1.cls ∈ WSg ∧ Cond.code mdX12_up.2.1 mdX12_up.2.2.1 mdX12_up.2.2.2.1 mdX12_up.2.2.2.2.1 ∈ WSg ∧ mdX12_up.2.1.cls ≠ "java/lang/invoke/MethodHandle" ∧ mdX12_up.2.1.cls ≠ "java/lang/invoke/VarHandle" ∧ (parseMethodDescriptor mdX12_up.2.1.desc).map (fun d => d.parameters.length) = some 2 := ⟨wsg_t (i := 1470) (by decide +kernel) (by decide +kernel), wsg_t (i := 13) (by decide +kernel) (by decide +kernel), wsg_t (i := 1471) (by decide +kernel) (by decide +kernel), by decide +kernel, by decide +kernel, by decide +kernel⟩
set_option maxRecDepth 20000 in
theorem cs_X12_258 : CS RX12 258 mdX12_up 2 := ⟨wsg_t (i := 1469) (by decide +kernel) (by decide +kernel), ks_X12_up⟩
set_option maxRecDepth 20000 in
theorem kv_X12_takesBids : Cond.instanceMethod mdX12_takesBids.2.1 ∈ WSg ∧ Cond.selects mdX12_takesBids.2.1.cls mdX12_takesBids.2.1 mdX12_takesBids.2.1 ∈ WSg ∧ Cond.initialized mdX12_takesBids.2.1.cls ∈ WSg ∧ Cond.code mdX12_takesBids.2.1 mdX12_takesBids.2.2.1 mdX12_takesBids.2.2.2.1 mdX12_takesBids.2.2.2.2.1 ∈ WSg ∧ mdX12_takesBids.2.1.cls ≠ "java/lang/invoke/MethodHandle" ∧ mdX12_takesBids.2.1.cls ≠ "java/lang/invoke/VarHandle" ∧ (parseMethodDescriptor mdX12_takesBids.2.1.desc).map (fun d => d.parameters.length) = some 1 := ⟨wsg_t (i := 1463) (by decide +kernel) (by decide +kernel), wsg_in (List.mem_append_left _ (List.mem_of_getElem? (i := 55) (by decide +kernel))) (by decide +kernel), wsg_t (i := 13) (by decide +kernel) (by decide +kernel), wsg_t (i := 1464) (by decide +kernel) (by decide +kernel), by decide +kernel, by decide +kernel, by decide +kernel⟩
set_option maxRecDepth 20000 in
theorem cv_X12_261 : CV RX12 261 mdX12_takesBids 1 := ⟨wsg_t (i := 1461) (by decide +kernel) (by decide +kernel), kv_X12_takesBids⟩
set_option maxRecDepth 20000 in
theorem ks_X12_isFirm : Cond.static mdX12_isFirm.2.1 ∈ WSg ∧ Cond.initialized mdX12_isFirm.2.1.cls ∈ WSg ∧ Cond.code mdX12_isFirm.2.1 mdX12_isFirm.2.2.1 mdX12_isFirm.2.2.2.1 mdX12_isFirm.2.2.2.2.1 ∈ WSg ∧ mdX12_isFirm.2.1.cls ≠ "java/lang/invoke/MethodHandle" ∧ mdX12_isFirm.2.1.cls ≠ "java/lang/invoke/VarHandle" ∧ (parseMethodDescriptor mdX12_isFirm.2.1.desc).map (fun d => d.parameters.length) = some 1 := ⟨wsg_t (i := 1490) (by decide +kernel) (by decide +kernel), wsg_t (i := 13) (by decide +kernel) (by decide +kernel), wsg_t (i := 1491) (by decide +kernel) (by decide +kernel), by decide +kernel, by decide +kernel, by decide +kernel⟩
set_option maxRecDepth 20000 in
theorem cs_X12_266 : CS RX12 266 mdX12_isFirm 1 := ⟨wsg_t (i := 1489) (by decide +kernel) (by decide +kernel), ks_X12_isFirm⟩
set_option maxRecDepth 20000 in
theorem ks_X12_isHousehold : Cond.static mdX12_isHousehold.2.1 ∈ WSg ∧ Cond.initialized mdX12_isHousehold.2.1.cls ∈ WSg ∧ Cond.code mdX12_isHousehold.2.1 mdX12_isHousehold.2.2.1 mdX12_isHousehold.2.2.2.1 mdX12_isHousehold.2.2.2.2.1 ∈ WSg ∧ mdX12_isHousehold.2.1.cls ≠ "java/lang/invoke/MethodHandle" ∧ mdX12_isHousehold.2.1.cls ≠ "java/lang/invoke/VarHandle" ∧ (parseMethodDescriptor mdX12_isHousehold.2.1.desc).map (fun d => d.parameters.length) = some 1 := ⟨wsg_t (i := 1497) (by decide +kernel) (by decide +kernel), wsg_t (i := 13) (by decide +kernel) (by decide +kernel), wsg_t (i := 1498) (by decide +kernel) (by decide +kernel), by decide +kernel, by decide +kernel, by decide +kernel⟩
set_option maxRecDepth 20000 in
theorem cs_X12_272 : CS RX12 272 mdX12_isHousehold 1 := ⟨wsg_t (i := 1496) (by decide +kernel) (by decide +kernel), ks_X12_isHousehold⟩
set_option maxRecDepth 20000 in
theorem kv_X12_hasDrawn : Cond.instanceMethod mdX12_hasDrawn.2.1 ∈ WSg ∧ Cond.selects mdX12_hasDrawn.2.1.cls mdX12_hasDrawn.2.1 mdX12_hasDrawn.2.1 ∈ WSg ∧ Cond.initialized mdX12_hasDrawn.2.1.cls ∈ WSg ∧ Cond.code mdX12_hasDrawn.2.1 mdX12_hasDrawn.2.2.1 mdX12_hasDrawn.2.2.2.1 mdX12_hasDrawn.2.2.2.2.1 ∈ WSg ∧ mdX12_hasDrawn.2.1.cls ≠ "java/lang/invoke/MethodHandle" ∧ mdX12_hasDrawn.2.1.cls ≠ "java/lang/invoke/VarHandle" ∧ (parseMethodDescriptor mdX12_hasDrawn.2.1.desc).map (fun d => d.parameters.length) = some 2 := ⟨wsg_t (i := 1539) (by decide +kernel) (by decide +kernel), wsg_in (List.mem_append_left _ (List.mem_of_getElem? (i := 64) (by decide +kernel))) (by decide +kernel), wsg_t (i := 13) (by decide +kernel) (by decide +kernel), wsg_t (i := 1540) (by decide +kernel) (by decide +kernel), by decide +kernel, by decide +kernel, by decide +kernel⟩
set_option maxRecDepth 20000 in
theorem cv_X12_279 : CV RX12 279 mdX12_hasDrawn 2 := ⟨wsg_t (i := 1537) (by decide +kernel) (by decide +kernel), kv_X12_hasDrawn⟩
set_option maxRecDepth 20000 in
theorem kv_X12_paysWages : Cond.instanceMethod mdX12_paysWages.2.1 ∈ WSg ∧ Cond.selects mdX12_paysWages.2.1.cls mdX12_paysWages.2.1 mdX12_paysWages.2.1 ∈ WSg ∧ Cond.initialized mdX12_paysWages.2.1.cls ∈ WSg ∧ Cond.code mdX12_paysWages.2.1 mdX12_paysWages.2.2.1 mdX12_paysWages.2.2.2.1 mdX12_paysWages.2.2.2.2.1 ∈ WSg ∧ mdX12_paysWages.2.1.cls ≠ "java/lang/invoke/MethodHandle" ∧ mdX12_paysWages.2.1.cls ≠ "java/lang/invoke/VarHandle" ∧ (parseMethodDescriptor mdX12_paysWages.2.1.desc).map (fun d => d.parameters.length) = some 0 := ⟨wsg_t (i := 1513) (by decide +kernel) (by decide +kernel), wsg_in (List.mem_append_left _ (List.mem_of_getElem? (i := 58) (by decide +kernel))) (by decide +kernel), wsg_t (i := 13) (by decide +kernel) (by decide +kernel), wsg_t (i := 1514) (by decide +kernel) (by decide +kernel), by decide +kernel, by decide +kernel, by decide +kernel⟩
set_option maxRecDepth 20000 in
theorem cv_X12_282 : CV RX12 282 mdX12_paysWages 0 := ⟨wsg_t (i := 1511) (by decide +kernel) (by decide +kernel), kv_X12_paysWages⟩
set_option maxRecDepth 20000 in
theorem kv_X12_takesInterest : Cond.instanceMethod mdX12_takesInterest.2.1 ∈ WSg ∧ Cond.selects mdX12_takesInterest.2.1.cls mdX12_takesInterest.2.1 mdX12_takesInterest.2.1 ∈ WSg ∧ Cond.initialized mdX12_takesInterest.2.1.cls ∈ WSg ∧ Cond.code mdX12_takesInterest.2.1 mdX12_takesInterest.2.2.1 mdX12_takesInterest.2.2.2.1 mdX12_takesInterest.2.2.2.2.1 ∈ WSg ∧ mdX12_takesInterest.2.1.cls ≠ "java/lang/invoke/MethodHandle" ∧ mdX12_takesInterest.2.1.cls ≠ "java/lang/invoke/VarHandle" ∧ (parseMethodDescriptor mdX12_takesInterest.2.1.desc).map (fun d => d.parameters.length) = some 0 := ⟨wsg_t (i := 1517) (by decide +kernel) (by decide +kernel), wsg_in (List.mem_append_left _ (List.mem_of_getElem? (i := 59) (by decide +kernel))) (by decide +kernel), wsg_t (i := 13) (by decide +kernel) (by decide +kernel), wsg_t (i := 1518) (by decide +kernel) (by decide +kernel), by decide +kernel, by decide +kernel, by decide +kernel⟩
set_option maxRecDepth 20000 in
theorem cv_X12_285 : CV RX12 285 mdX12_takesInterest 0 := ⟨wsg_t (i := 1515) (by decide +kernel) (by decide +kernel), kv_X12_takesInterest⟩
set_option maxRecDepth 20000 in
theorem kv_X12_paysCentral : Cond.instanceMethod mdX12_paysCentral.2.1 ∈ WSg ∧ Cond.selects mdX12_paysCentral.2.1.cls mdX12_paysCentral.2.1 mdX12_paysCentral.2.1 ∈ WSg ∧ Cond.initialized mdX12_paysCentral.2.1.cls ∈ WSg ∧ Cond.code mdX12_paysCentral.2.1 mdX12_paysCentral.2.2.1 mdX12_paysCentral.2.2.2.1 mdX12_paysCentral.2.2.2.2.1 ∈ WSg ∧ mdX12_paysCentral.2.1.cls ≠ "java/lang/invoke/MethodHandle" ∧ mdX12_paysCentral.2.1.cls ≠ "java/lang/invoke/VarHandle" ∧ (parseMethodDescriptor mdX12_paysCentral.2.1.desc).map (fun d => d.parameters.length) = some 0 := ⟨wsg_t (i := 1521) (by decide +kernel) (by decide +kernel), wsg_in (List.mem_append_left _ (List.mem_of_getElem? (i := 60) (by decide +kernel))) (by decide +kernel), wsg_t (i := 13) (by decide +kernel) (by decide +kernel), wsg_t (i := 1522) (by decide +kernel) (by decide +kernel), by decide +kernel, by decide +kernel, by decide +kernel⟩
set_option maxRecDepth 20000 in
theorem cv_X12_288 : CV RX12 288 mdX12_paysCentral 0 := ⟨wsg_t (i := 1519) (by decide +kernel) (by decide +kernel), kv_X12_paysCentral⟩
set_option maxRecDepth 20000 in
theorem kv_X12_paysBonds : Cond.instanceMethod mdX12_paysBonds.2.1 ∈ WSg ∧ Cond.selects mdX12_paysBonds.2.1.cls mdX12_paysBonds.2.1 mdX12_paysBonds.2.1 ∈ WSg ∧ Cond.initialized mdX12_paysBonds.2.1.cls ∈ WSg ∧ Cond.code mdX12_paysBonds.2.1 mdX12_paysBonds.2.2.1 mdX12_paysBonds.2.2.2.1 mdX12_paysBonds.2.2.2.2.1 ∈ WSg ∧ mdX12_paysBonds.2.1.cls ≠ "java/lang/invoke/MethodHandle" ∧ mdX12_paysBonds.2.1.cls ≠ "java/lang/invoke/VarHandle" ∧ (parseMethodDescriptor mdX12_paysBonds.2.1.desc).map (fun d => d.parameters.length) = some 0 := ⟨wsg_t (i := 1526) (by decide +kernel) (by decide +kernel), wsg_in (List.mem_append_left _ (List.mem_of_getElem? (i := 61) (by decide +kernel))) (by decide +kernel), wsg_t (i := 13) (by decide +kernel) (by decide +kernel), wsg_t (i := 1527) (by decide +kernel) (by decide +kernel), by decide +kernel, by decide +kernel, by decide +kernel⟩
set_option maxRecDepth 20000 in
theorem cv_X12_291 : CV RX12 291 mdX12_paysBonds 0 := ⟨wsg_t (i := 1524) (by decide +kernel) (by decide +kernel), kv_X12_paysBonds⟩
set_option maxRecDepth 20000 in
theorem kv_X12_asksReserves : Cond.instanceMethod mdX12_asksReserves.2.1 ∈ WSg ∧ Cond.selects mdX12_asksReserves.2.1.cls mdX12_asksReserves.2.1 mdX12_asksReserves.2.1 ∈ WSg ∧ Cond.initialized mdX12_asksReserves.2.1.cls ∈ WSg ∧ Cond.code mdX12_asksReserves.2.1 mdX12_asksReserves.2.2.1 mdX12_asksReserves.2.2.2.1 mdX12_asksReserves.2.2.2.2.1 ∈ WSg ∧ mdX12_asksReserves.2.1.cls ≠ "java/lang/invoke/MethodHandle" ∧ mdX12_asksReserves.2.1.cls ≠ "java/lang/invoke/VarHandle" ∧ (parseMethodDescriptor mdX12_asksReserves.2.1.desc).map (fun d => d.parameters.length) = some 0 := ⟨wsg_t (i := 1530) (by decide +kernel) (by decide +kernel), wsg_in (List.mem_append_left _ (List.mem_of_getElem? (i := 62) (by decide +kernel))) (by decide +kernel), wsg_t (i := 13) (by decide +kernel) (by decide +kernel), wsg_t (i := 1531) (by decide +kernel) (by decide +kernel), by decide +kernel, by decide +kernel, by decide +kernel⟩
set_option maxRecDepth 20000 in
theorem cv_X12_294 : CV RX12 294 mdX12_asksReserves 0 := ⟨wsg_t (i := 1528) (by decide +kernel) (by decide +kernel), kv_X12_asksReserves⟩
set_option maxRecDepth 20000 in
theorem kv_X12_runs : Cond.instanceMethod mdX12_runs.2.1 ∈ WSg ∧ Cond.selects mdX12_runs.2.1.cls mdX12_runs.2.1 mdX12_runs.2.1 ∈ WSg ∧ Cond.initialized mdX12_runs.2.1.cls ∈ WSg ∧ Cond.code mdX12_runs.2.1 mdX12_runs.2.2.1 mdX12_runs.2.2.2.1 mdX12_runs.2.2.2.2.1 ∈ WSg ∧ mdX12_runs.2.1.cls ≠ "java/lang/invoke/MethodHandle" ∧ mdX12_runs.2.1.cls ≠ "java/lang/invoke/VarHandle" ∧ (parseMethodDescriptor mdX12_runs.2.1.desc).map (fun d => d.parameters.length) = some 0 := ⟨wsg_t (i := 1535) (by decide +kernel) (by decide +kernel), wsg_in (List.mem_append_left _ (List.mem_of_getElem? (i := 63) (by decide +kernel))) (by decide +kernel), wsg_t (i := 13) (by decide +kernel) (by decide +kernel), wsg_t (i := 1536) (by decide +kernel) (by decide +kernel), by decide +kernel, by decide +kernel, by decide +kernel⟩
set_option maxRecDepth 20000 in
theorem cv_X12_297 : CV RX12 297 mdX12_runs 0 := ⟨wsg_t (i := 1533) (by decide +kernel) (by decide +kernel), kv_X12_runs⟩
set_option maxRecDepth 20000 in
theorem kv_X12_changesPrices : Cond.instanceMethod mdX12_changesPrices.2.1 ∈ WSg ∧ Cond.selects mdX12_changesPrices.2.1.cls mdX12_changesPrices.2.1 mdX12_changesPrices.2.1 ∈ WSg ∧ Cond.initialized mdX12_changesPrices.2.1.cls ∈ WSg ∧ Cond.code mdX12_changesPrices.2.1 mdX12_changesPrices.2.2.1 mdX12_changesPrices.2.2.2.1 mdX12_changesPrices.2.2.2.2.1 ∈ WSg ∧ mdX12_changesPrices.2.1.cls ≠ "java/lang/invoke/MethodHandle" ∧ mdX12_changesPrices.2.1.cls ≠ "java/lang/invoke/VarHandle" ∧ (parseMethodDescriptor mdX12_changesPrices.2.1.desc).map (fun d => d.parameters.length) = some 0 := ⟨wsg_t (i := 1543) (by decide +kernel) (by decide +kernel), wsg_in (List.mem_append_left _ (List.mem_of_getElem? (i := 65) (by decide +kernel))) (by decide +kernel), wsg_t (i := 13) (by decide +kernel) (by decide +kernel), wsg_t (i := 1544) (by decide +kernel) (by decide +kernel), by decide +kernel, by decide +kernel, by decide +kernel⟩
set_option maxRecDepth 20000 in
theorem cv_X12_300 : CV RX12 300 mdX12_changesPrices 0 := ⟨wsg_t (i := 1541) (by decide +kernel) (by decide +kernel), kv_X12_changesPrices⟩
set_option maxRecDepth 20000 in
theorem kv_X12_goesBy : Cond.instanceMethod mdX12_goesBy.2.1 ∈ WSg ∧ Cond.selects mdX12_goesBy.2.1.cls mdX12_goesBy.2.1 mdX12_goesBy.2.1 ∈ WSg ∧ Cond.initialized mdX12_goesBy.2.1.cls ∈ WSg ∧ Cond.code mdX12_goesBy.2.1 mdX12_goesBy.2.2.1 mdX12_goesBy.2.2.2.1 mdX12_goesBy.2.2.2.2.1 ∈ WSg ∧ mdX12_goesBy.2.1.cls ≠ "java/lang/invoke/MethodHandle" ∧ mdX12_goesBy.2.1.cls ≠ "java/lang/invoke/VarHandle" ∧ (parseMethodDescriptor mdX12_goesBy.2.1.desc).map (fun d => d.parameters.length) = some 0 := ⟨wsg_t (i := 1509) (by decide +kernel) (by decide +kernel), wsg_in (List.mem_append_left _ (List.mem_of_getElem? (i := 57) (by decide +kernel))) (by decide +kernel), wsg_t (i := 13) (by decide +kernel) (by decide +kernel), wsg_t (i := 1510) (by decide +kernel) (by decide +kernel), by decide +kernel, by decide +kernel, by decide +kernel⟩
set_option maxRecDepth 20000 in
theorem cv_X12_303 : CV RX12 303 mdX12_goesBy 0 := ⟨wsg_t (i := 1507) (by decide +kernel) (by decide +kernel), kv_X12_goesBy⟩
set_option maxRecDepth 20000 in
theorem kv_X12_takesBack : Cond.instanceMethod mdX12_takesBack.2.1 ∈ WSg ∧ Cond.selects mdX12_takesBack.2.1.cls mdX12_takesBack.2.1 mdX12_takesBack.2.1 ∈ WSg ∧ Cond.initialized mdX12_takesBack.2.1.cls ∈ WSg ∧ Cond.code mdX12_takesBack.2.1 mdX12_takesBack.2.2.1 mdX12_takesBack.2.2.2.1 mdX12_takesBack.2.2.2.2.1 ∈ WSg ∧ mdX12_takesBack.2.1.cls ≠ "java/lang/invoke/MethodHandle" ∧ mdX12_takesBack.2.1.cls ≠ "java/lang/invoke/VarHandle" ∧ (parseMethodDescriptor mdX12_takesBack.2.1.desc).map (fun d => d.parameters.length) = some 1 := ⟨wsg_t (i := 1340) (by decide +kernel) (by decide +kernel), wsg_in (List.mem_append_left _ (List.mem_of_getElem? (i := 37) (by decide +kernel))) (by decide +kernel), wsg_t (i := 13) (by decide +kernel) (by decide +kernel), wsg_t (i := 1341) (by decide +kernel) (by decide +kernel), by decide +kernel, by decide +kernel, by decide +kernel⟩
set_option maxRecDepth 20000 in
theorem cv_X12_306 : CV RX12 306 mdX12_takesBack 1 := ⟨wsg_t (i := 1338) (by decide +kernel) (by decide +kernel), kv_X12_takesBack⟩
set_option maxRecDepth 20000 in
theorem kv_X12_takesOver : Cond.instanceMethod mdX12_takesOver.2.1 ∈ WSg ∧ Cond.selects mdX12_takesOver.2.1.cls mdX12_takesOver.2.1 mdX12_takesOver.2.1 ∈ WSg ∧ Cond.initialized mdX12_takesOver.2.1.cls ∈ WSg ∧ Cond.code mdX12_takesOver.2.1 mdX12_takesOver.2.2.1 mdX12_takesOver.2.2.2.1 mdX12_takesOver.2.2.2.2.1 ∈ WSg ∧ mdX12_takesOver.2.1.cls ≠ "java/lang/invoke/MethodHandle" ∧ mdX12_takesOver.2.1.cls ≠ "java/lang/invoke/VarHandle" ∧ (parseMethodDescriptor mdX12_takesOver.2.1.desc).map (fun d => d.parameters.length) = some 1 := ⟨wsg_t (i := 1355) (by decide +kernel) (by decide +kernel), wsg_in (List.mem_append_left _ (List.mem_of_getElem? (i := 40) (by decide +kernel))) (by decide +kernel), wsg_t (i := 13) (by decide +kernel) (by decide +kernel), wsg_t (i := 1356) (by decide +kernel) (by decide +kernel), by decide +kernel, by decide +kernel, by decide +kernel⟩
set_option maxRecDepth 20000 in
theorem cv_X12_309 : CV RX12 309 mdX12_takesOver 1 := ⟨wsg_t (i := 1353) (by decide +kernel) (by decide +kernel), kv_X12_takesOver⟩
set_option maxRecDepth 20000 in
theorem kv_X12_nextBank : Cond.instanceMethod mdX12_nextBank.2.1 ∈ WSg ∧ Cond.selects mdX12_nextBank.2.1.cls mdX12_nextBank.2.1 mdX12_nextBank.2.1 ∈ WSg ∧ Cond.initialized mdX12_nextBank.2.1.cls ∈ WSg ∧ Cond.code mdX12_nextBank.2.1 mdX12_nextBank.2.2.1 mdX12_nextBank.2.2.2.1 mdX12_nextBank.2.2.2.2.1 ∈ WSg ∧ mdX12_nextBank.2.1.cls ≠ "java/lang/invoke/MethodHandle" ∧ mdX12_nextBank.2.1.cls ≠ "java/lang/invoke/VarHandle" ∧ (parseMethodDescriptor mdX12_nextBank.2.1.desc).map (fun d => d.parameters.length) = some 0 := ⟨wsg_t (i := 1359) (by decide +kernel) (by decide +kernel), wsg_in (List.mem_append_left _ (List.mem_of_getElem? (i := 41) (by decide +kernel))) (by decide +kernel), wsg_t (i := 13) (by decide +kernel) (by decide +kernel), wsg_t (i := 1360) (by decide +kernel) (by decide +kernel), by decide +kernel, by decide +kernel, by decide +kernel⟩
set_option maxRecDepth 20000 in
theorem cv_X12_312 : CV RX12 312 mdX12_nextBank 0 := ⟨wsg_t (i := 1357) (by decide +kernel) (by decide +kernel), kv_X12_nextBank⟩
set_option maxRecDepth 20000 in
theorem kv_X12_waitingNet : Cond.instanceMethod mdX12_waitingNet.2.1 ∈ WSg ∧ Cond.selects mdX12_waitingNet.2.1.cls mdX12_waitingNet.2.1 mdX12_waitingNet.2.1 ∈ WSg ∧ Cond.initialized mdX12_waitingNet.2.1.cls ∈ WSg ∧ Cond.code mdX12_waitingNet.2.1 mdX12_waitingNet.2.2.1 mdX12_waitingNet.2.2.2.1 mdX12_waitingNet.2.2.2.2.1 ∈ WSg ∧ mdX12_waitingNet.2.1.cls ≠ "java/lang/invoke/MethodHandle" ∧ mdX12_waitingNet.2.1.cls ≠ "java/lang/invoke/VarHandle" ∧ (parseMethodDescriptor mdX12_waitingNet.2.1.desc).map (fun d => d.parameters.length) = some 1 := ⟨wsg_t (i := 1567) (by decide +kernel) (by decide +kernel), wsg_in (List.mem_append_left _ (List.mem_of_getElem? (i := 66) (by decide +kernel))) (by decide +kernel), wsg_t (i := 13) (by decide +kernel) (by decide +kernel), wsg_t (i := 1568) (by decide +kernel) (by decide +kernel), by decide +kernel, by decide +kernel, by decide +kernel⟩
set_option maxRecDepth 20000 in
theorem cv_X12_315 : CV RX12 315 mdX12_waitingNet 1 := ⟨wsg_t (i := 1565) (by decide +kernel) (by decide +kernel), kv_X12_waitingNet⟩
set_option maxRecDepth 20000 in
theorem kv_X12_centralCapital : Cond.instanceMethod mdX12_centralCapital.2.1 ∈ WSg ∧ Cond.selects mdX12_centralCapital.2.1.cls mdX12_centralCapital.2.1 mdX12_centralCapital.2.1 ∈ WSg ∧ Cond.initialized mdX12_centralCapital.2.1.cls ∈ WSg ∧ Cond.code mdX12_centralCapital.2.1 mdX12_centralCapital.2.2.1 mdX12_centralCapital.2.2.2.1 mdX12_centralCapital.2.2.2.2.1 ∈ WSg ∧ mdX12_centralCapital.2.1.cls ≠ "java/lang/invoke/MethodHandle" ∧ mdX12_centralCapital.2.1.cls ≠ "java/lang/invoke/VarHandle" ∧ (parseMethodDescriptor mdX12_centralCapital.2.1.desc).map (fun d => d.parameters.length) = some 0 := ⟨wsg_t (i := 1595) (by decide +kernel) (by decide +kernel), wsg_in (List.mem_append_left _ (List.mem_of_getElem? (i := 67) (by decide +kernel))) (by decide +kernel), wsg_t (i := 13) (by decide +kernel) (by decide +kernel), wsg_t (i := 1596) (by decide +kernel) (by decide +kernel), by decide +kernel, by decide +kernel, by decide +kernel⟩
set_option maxRecDepth 20000 in
theorem cv_X12_318 : CV RX12 318 mdX12_centralCapital 0 := ⟨wsg_t (i := 1593) (by decide +kernel) (by decide +kernel), kv_X12_centralCapital⟩
set_option maxRecDepth 20000 in
theorem csn_X2_80 : CSN RX2 80 "Newsmint" mdX11_percentRoundedUp 2 := ⟨wsx_t (i := 899) (by decide +kernel) (by decide +kernel), ks_X11_percentRoundedUp⟩
set_option maxRecDepth 20000 in
theorem csn_X3_107 : CSN RX3 107 "Newsmint" mdX11_share 3 := ⟨wsx_t (i := 747) (by decide +kernel) (by decide +kernel), ks_X11_share⟩
set_option maxRecDepth 20000 in
theorem csn_X5_46 : CSN RX5 46 "Newsmint" mdX11_share 3 := ⟨wsx_t (i := 637) (by decide +kernel) (by decide +kernel), ks_X11_share⟩
set_option maxRecDepth 20000 in
theorem castW_xIdx : Cond.castable xIdx xIdx ∈ WSx := wsx_t (i := 503) (by decide +kernel) (by decide +kernel)
set_option maxRecDepth 20000 in
theorem iniW_xIdx : Cond.initialized xIdx ∈ WSg := wsg_t (i := 17) (by decide +kernel) (by decide +kernel)
set_option maxRecDepth 20000 in
theorem castW_xArg : Cond.castable xArg xArg ∈ WSx := wsx_t (i := 577) (by decide +kernel) (by decide +kernel)
set_option maxRecDepth 20000 in
theorem iniW_xArg : Cond.initialized xArg ∈ WSg := wsg_t (i := 18) (by decide +kernel) (by decide +kernel)
set_option maxRecDepth 20000 in
theorem castW_xSta : Cond.castable xSta xSta ∈ WSx := wsx_t (i := 619) (by decide +kernel) (by decide +kernel)
set_option maxRecDepth 20000 in
theorem iniW_xSta : Cond.initialized xSta ∈ WSg := wsg_t (i := 19) (by decide +kernel) (by decide +kernel)
set_option maxRecDepth 20000 in
theorem clW_X11_309 : Cond.classLink RX11 309 xIdx ∈ WSg := wsg_t (i := 501) (by decide +kernel) (by decide +kernel)
set_option maxRecDepth 20000 in
theorem clW_X11_317 : Cond.classLink RX11 317 xArg ∈ WSg := wsg_t (i := 575) (by decide +kernel) (by decide +kernel)
set_option maxRecDepth 20000 in
theorem clW_X11_322 : Cond.classLink RX11 322 xSta ∈ WSg := wsg_t (i := 617) (by decide +kernel) (by decide +kernel)
set_option maxRecDepth 20000 in
theorem clW_L_13 : Cond.classLink RL 13 xIdx ∈ WSg := wsg_t (i := 489) (by decide +kernel) (by decide +kernel)
set_option maxRecDepth 20000 in
theorem clW_L_15 : Cond.classLink RL 15 xArg ∈ WSg := wsg_t (i := 490) (by decide +kernel) (by decide +kernel)
set_option maxRecDepth 20000 in
theorem clW_L_24 : Cond.classLink RL 24 xSta ∈ WSg := wsg_t (i := 609) (by decide +kernel) (by decide +kernel)
set_option maxRecDepth 20000 in
theorem cl_X11_328 : Cond.constantLong RX11 328 (99 : Int64) ∈ WSg := wsg_t (i := 902) (by decide +kernel) (by decide +kernel)
set_option maxRecDepth 20000 in
theorem cl_X11_330 : Cond.constantLong RX11 330 (100 : Int64) ∈ WSg := wsg_t (i := 903) (by decide +kernel) (by decide +kernel)
set_option maxRecDepth 20000 in
theorem cl_X12_264 : Cond.constantLong RX12 264 (100 : Int64) ∈ WSg := wsg_t (i := 1476) (by decide +kernel) (by decide +kernel)
set_option maxRecDepth 20000 in
theorem cl_X12_275 : Cond.constantLong RX12 275 (1000 : Int64) ∈ WSg := wsg_t (i := 1523) (by decide +kernel) (by decide +kernel)
set_option maxRecDepth 20000 in
theorem cl_X12_277 : Cond.constantLong RX12 277 (99 : Int64) ∈ WSg := wsg_t (i := 1532) (by decide +kernel) (by decide +kernel)
