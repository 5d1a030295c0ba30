/-! cells that the capital of the central bank rests on -/
theorem capR_notes {R : Col} {i : Nat} {w : Int32} (hi : i < 16) : capR (upd2 R kNotes i w) = capR R - (w - R kNotes i) := by
  have e := s32_upd (f := fun k => R kNotes k - R kForged k) (g := fun k => upd2 R kNotes i w kNotes k - upd2 R kNotes i w kForged k) (j := i) 16 hi (fun a _ hne => by
    show upd2 R kNotes i w kNotes a - upd2 R kNotes i w kForged a = _
    rw [upd2_row hne]; rfl)
  have e2 : upd2 R kNotes i w kNotes i = w := upd2_eq
  have e3 : upd2 R kNotes i w kForged i = R kForged i := rfl
  have e4 : capR (upd2 R kNotes i w) = bonS R 4 + loaS R (nI 4) + R kForeignCost 0 - R kTreasury 0 + s32 (fun k => R kLent k - R kReserves k - R kVaults k) 4 - s32 (fun k => upd2 R kNotes i w kNotes k - upd2 R kNotes i w kForged k) 16 := rfl
  rw [e4, e, e2, e3]
  unfold capR
  grind
theorem capR_forged {R : Col} {i : Nat} {w : Int32} (hi : i < 16) : capR (upd2 R kForged i w) = capR R + (w - R kForged i) := by
  have e := s32_upd (f := fun k => R kNotes k - R kForged k) (g := fun k => upd2 R kForged i w kNotes k - upd2 R kForged i w kForged k) (j := i) 16 hi (fun a _ hne => by
    show upd2 R kForged i w kNotes a - upd2 R kForged i w kForged a = _
    rw [upd2_row (c' := kForged) hne]; rfl)
  have e2 : upd2 R kForged i w kForged i = w := upd2_eq
  have e3 : upd2 R kForged i w kNotes i = R kNotes i := rfl
  have e4 : capR (upd2 R kForged i w) = bonS R 4 + loaS R (nI 4) + R kForeignCost 0 - R kTreasury 0 + s32 (fun k => R kLent k - R kReserves k - R kVaults k) 4 - s32 (fun k => upd2 R kForged i w kNotes k - upd2 R kForged i w kForged k) 16 := rfl
  rw [e4, e, e2, e3]
  unfold capR
  grind
theorem capR_reserves {R : Col} {i : Nat} {w : Int32} (hi : i < 4) : capR (upd2 R kReserves i w) = capR R - (w - R kReserves i) := by
  have e := s32_upd (f := fun k => R kLent k - R kReserves k - R kVaults k) (g := fun k => upd2 R kReserves i w kLent k - upd2 R kReserves i w kReserves k - upd2 R kReserves i w kVaults k) (j := i) 4 hi (fun a _ hne => by
    show upd2 R kReserves i w kLent a - upd2 R kReserves i w kReserves a - upd2 R kReserves i w kVaults a = _
    rw [upd2_row (c' := kReserves) hne]; rfl)
  have e2 : upd2 R kReserves i w kReserves i = w := upd2_eq
  have e4 : capR (upd2 R kReserves i w) = bonS R 4 + loaS R (nI 4) + R kForeignCost 0 - R kTreasury 0 + s32 (fun k => upd2 R kReserves i w kLent k - upd2 R kReserves i w kReserves k - upd2 R kReserves i w kVaults k) 4 - s32 (fun k => R kNotes k - R kForged k) 16 := rfl
  rw [e4, e, e2]
  show _ + (_ + (R kLent i - w - R kVaults i - _)) - _ = _
  unfold capR
  grind
theorem capR_vaults {R : Col} {i : Nat} {w : Int32} (hi : i < 4) : capR (upd2 R kVaults i w) = capR R - (w - R kVaults i) := by
  have e := s32_upd (f := fun k => R kLent k - R kReserves k - R kVaults k) (g := fun k => upd2 R kVaults i w kLent k - upd2 R kVaults i w kReserves k - upd2 R kVaults i w kVaults k) (j := i) 4 hi (fun a _ hne => by
    show upd2 R kVaults i w kLent a - upd2 R kVaults i w kReserves a - upd2 R kVaults i w kVaults a = _
    rw [upd2_row (c' := kVaults) hne]; rfl)
  have e2 : upd2 R kVaults i w kVaults i = w := upd2_eq
  have e4 : capR (upd2 R kVaults i w) = bonS R 4 + loaS R (nI 4) + R kForeignCost 0 - R kTreasury 0 + s32 (fun k => upd2 R kVaults i w kLent k - upd2 R kVaults i w kReserves k - upd2 R kVaults i w kVaults k) 4 - s32 (fun k => R kNotes k - R kForged k) 16 := rfl
  rw [e4, e, e2]
  show _ + (_ + (R kLent i - R kReserves i - w - _)) - _ = _
  unfold capR
  grind
theorem capR_lent {R : Col} {i : Nat} {w : Int32} (hi : i < 4) : capR (upd2 R kLent i w) = capR R + (w - R kLent i) := by
  have e := s32_upd (f := fun k => R kLent k - R kReserves k - R kVaults k) (g := fun k => upd2 R kLent i w kLent k - upd2 R kLent i w kReserves k - upd2 R kLent i w kVaults k) (j := i) 4 hi (fun a _ hne => by
    show upd2 R kLent i w kLent a - upd2 R kLent i w kReserves a - upd2 R kLent i w kVaults a = _
    rw [upd2_row (c' := kLent) hne]; rfl)
  have e2 : upd2 R kLent i w kLent i = w := upd2_eq
  have e4 : capR (upd2 R kLent i w) = bonS R 4 + loaS R (nI 4) + R kForeignCost 0 - R kTreasury 0 + s32 (fun k => upd2 R kLent i w kLent k - upd2 R kLent i w kReserves k - upd2 R kLent i w kVaults k) 4 - s32 (fun k => R kNotes k - R kForged k) 16 := rfl
  rw [e4, e, e2]
  show _ + (_ + (w - R kReserves i - R kVaults i - _)) - _ = _
  unfold capR
  grind
theorem capR_treasury {R : Col} {w : Int32} : capR (upd2 R kTreasury 0 w) = capR R - (w - R kTreasury 0) := by
  have e4 : capR (upd2 R kTreasury 0 w) = bonS R 4 + loaS R (nI 4) + R kForeignCost 0 - w + s32 (fun k => R kLent k - R kReserves k - R kVaults k) 4 - s32 (fun k => R kNotes k - R kForged k) 16 := rfl
  rw [e4]
  unfold capR
  grind
theorem capR_fcost {R : Col} {w : Int32} : capR (upd2 R kForeignCost 0 w) = capR R + (w - R kForeignCost 0) := by
  have e4 : capR (upd2 R kForeignCost 0 w) = bonS R 4 + loaS R (nI 4) + w - R kTreasury 0 + s32 (fun k => R kLent k - R kReserves k - R kVaults k) 4 - s32 (fun k => R kNotes k - R kForged k) 16 := rfl
  rw [e4]
  unfold capR
  grind
theorem bonS_upd {R : Col} {n k o : Nat} {w : Int32} (hn : ix (R kAuctions 0) = n) (hk : k < n) (ho : o < 5) (q : Nat) (hq : q < 5) : bonS (upd2 R kBonds (5 * k + o) w) q = bonS R q + (if o = q then w - R kBonds (5 * k + o) else 0) := by
  have e4 : bonS (upd2 R kBonds (5 * k + o) w) q = s32 (fun j => upd2 R kBonds (5 * k + o) w kBonds (5 * j + q)) n := by
    show s32 _ (ix (R kAuctions 0)) = _
    rw [hn]
  have e5 : bonS R q = s32 (fun j => R kBonds (5 * j + q)) n := by
    show s32 _ (ix (R kAuctions 0)) = _
    rw [hn]
  rw [e4, e5]
  by_cases hoq : o = q
  · rw [if_pos hoq, s32_upd (f := fun j => R kBonds (5 * j + q)) (j := k) n hk (fun a _ hne => upd2_row (by omega))]
    subst hoq
    rw [upd2_eq]
  · rw [if_neg hoq, Int32.add_zero]
    exact s32_congr n (fun a _ => upd2_row (by omega))
theorem capR_bonds {R : Col} {n k o : Nat} {w : Int32} (hn : ix (R kAuctions 0) = n) (hk : k < n) (ho : o < 5) : capR (upd2 R kBonds (5 * k + o) w) = capR R + (if o = 4 then w - R kBonds (5 * k + o) else 0) := by
  have e4 : capR (upd2 R kBonds (5 * k + o) w) = bonS (upd2 R kBonds (5 * k + o) w) 4 + loaS R (nI 4) + R kForeignCost 0 - R kTreasury 0 + s32 (fun k => R kLent k - R kReserves k - R kVaults k) 4 - s32 (fun k => R kNotes k - R kForged k) 16 := rfl
  rw [e4, bonS_upd hn hk ho 4 (by omega)]
  unfold capR
  grind
theorem capR_left {R : Col} {l : Nat} {w : Int32} (hl : l < ix (R kLoans 0)) : capR (upd2 R kLoanLefts l w) = capR R + (if R kLoanBanks l = nI 4 then w - R kLoanLefts l else 0) := by
  have e4 : capR (upd2 R kLoanLefts l w) = bonS R 4 + s32 (fun j => if R kLoanBanks j = nI 4 then upd2 R kLoanLefts l w kLoanLefts j else 0) (ix (R kLoans 0)) + R kForeignCost 0 - R kTreasury 0 + s32 (fun k => R kLent k - R kReserves k - R kVaults k) 4 - s32 (fun k => R kNotes k - R kForged k) 16 := rfl
  rw [e4, s32_upd (f := fun j => if R kLoanBanks j = nI 4 then R kLoanLefts j else 0) (j := l) _ hl (fun a _ hne => by
    show (if R kLoanBanks a = nI 4 then upd2 R kLoanLefts l w kLoanLefts a else 0) = _
    rw [upd2_row hne])]
  rw [upd2_eq]
  unfold capR loaS
  by_cases q : R kLoanBanks l = nI 4
  · simp only [q, if_true]
    grind
  · simp only [q, if_false]
    grind
theorem capR_lbank {R : Col} {l : Nat} (hl : l < ix (R kLoans 0)) (hb : R kLoanBanks l ≠ nI 4) : capR (upd2 R kLoanBanks l (nI 4)) = capR R + R kLoanLefts l := by
  have e4 : capR (upd2 R kLoanBanks l (nI 4)) = bonS R 4 + s32 (fun j => if upd2 R kLoanBanks l (nI 4) kLoanBanks j = nI 4 then R kLoanLefts j else 0) (ix (R kLoans 0)) + R kForeignCost 0 - R kTreasury 0 + s32 (fun k => R kLent k - R kReserves k - R kVaults k) 4 - s32 (fun k => R kNotes k - R kForged k) 16 := rfl
  rw [e4, s32_upd (f := fun j => if R kLoanBanks j = nI 4 then R kLoanLefts j else 0) (j := l) _ hl (fun a _ hne => by
    show (if upd2 R kLoanBanks l (nI 4) kLoanBanks a = nI 4 then R kLoanLefts a else 0) = _
    rw [upd2_row hne])]
  rw [upd2_eq, if_pos rfl, if_neg hb]
  unfold capR loaS
  grind
