/-! one cell on both sides -/
theorem logSum_upd {C : Col} {k i o : Nat} {v : Int32} (hk : k < 63 ∨ 66 < k) : logSum (upd2 C k i v) o = logSum C o := by
  have e1 : upd2 C k i v kLogCount = C kLogCount := u_ne (show (66 : Nat) ≠ k by omega)
  have e2 : upd2 C k i v kLogCarried = C kLogCarried := u_ne (show (65 : Nat) ≠ k by omega)
  have e3 : upd2 C k i v kLogOwners = C kLogOwners := u_ne (show (63 : Nat) ≠ k by omega)
  have e4 : upd2 C k i v kLogChanges = C kLogChanges := u_ne (show (64 : Nat) ≠ k by omega)
  unfold logSum
  rw [e1, e2, logN_congr (C := upd2 C k i v) (D := C) _ (fun i hi => ⟨by rw [e3], by rw [e4]⟩)]
theorem LogI_upd {C : Col} {k i : Nat} {v : Int32} (hk : k < 63 ∨ 66 < k) (h : LogI C) : LogI (upd2 C k i v) := by
  have e1 : upd2 C k i v kLogCount = C kLogCount := u_ne (show (66 : Nat) ≠ k by omega)
  have e3 : upd2 C k i v kLogOwners = C kLogOwners := u_ne (show (63 : Nat) ≠ k by omega)
  unfold LogI
  rw [e1, e3]
  exact h
theorem capR_off {R : Col} {k i : Nat} {v : Int32} (h : [5, 6, 16, 17, 18, 24, 26, 27, 39, 41, 48, 50].contains k = false) : capR (upd2 R k i v) = capR R := by
  have e : ∀ c : Nat, [5, 6, 16, 17, 18, 24, 26, 27, 39, 41, 48, 50].contains c = true → upd2 R k i v c = R c := fun c hc => u_ne (fun q => by rw [q, h] at hc; cases hc)
  unfold capR bonS loaS
  rw [e kAuctions (by decide), e kBonds (by decide), e kLoans (by decide), e kLoanBanks (by decide), e kLoanLefts (by decide), e kForeignCost (by decide), e kTreasury (by decide), e kLent (by decide), e kReserves (by decide), e kVaults (by decide), e kNotes (by decide), e kForged (by decide)]
theorem zDr_off {C R : Col} {k i k2 i2 : Nat} {v w : Int32} (hk : k < 67) (hk2 : k2 ≠ 13) (h : zDr C R) : zDr (upd2 C k i v) (upd2 R k2 i2 w) := by
  intro a b ha hb
  have e1 : upd2 C k i v (kDrawnC + a) = C (kDrawnC + a) := u_ne (show 67 + a ≠ k by omega)
  have e2 : upd2 R k2 i2 w kDrawn = R kDrawn := u_ne (show (13 : Nat) ≠ k2 from fun q => hk2 q.symm)
  rw [e1, e2]
  exact h a b ha hb
theorem zDr_offC {C R : Col} {k i : Nat} {v : Int32} (hk : k < 67) (h : zDr C R) : zDr (upd2 C k i v) R := by
  intro a b ha hb
  have e1 : upd2 C k i v (kDrawnC + a) = C (kDrawnC + a) := u_ne (show 67 + a ≠ k by omega)
  rw [e1]
  exact h a b ha hb
theorem zDr_offR {C R : Col} {k2 i2 : Nat} {w : Int32} (hk2 : k2 ≠ 13) (h : zDr C R) : zDr C (upd2 R k2 i2 w) := by
  intro a b ha hb
  have e2 : upd2 R k2 i2 w kDrawn = R kDrawn := u_ne (show (13 : Nat) ≠ k2 from fun q => hk2 q.symm)
  rw [e2]
  exact h a b ha hb
def plainB (k : Nat) : Bool := [1, 2, 3, 4, 9, 12, 14, 15, 19, 20, 21, 25, 28, 29, 33, 37, 40, 42, 43, 44, 45, 49, 51].contains k
theorem Rel.plain {C R : Col} {d v w : Int32} (h : Rel C R d) (k i : Nat) (hk : plainB k = true) (hv : v = w) : Rel (upd2 C k i v) (upd2 R k i w) d := by
  obtain ⟨h1, h2, h3, h4, h5, h6, h7, h8, h9⟩ := h
  have hn : ∀ c : Nat, plainB c = false → c ≠ k := fun c hc q => by rw [q, hk] at hc; cases hc
  have hlt : k < 52 := by
    rcases Nat.lt_or_ge k 52 with q | q
    · exact q
    · refine absurd hk ?_
      unfold plainB
      simp only [List.contains_cons, List.contains_nil, Bool.or_false, Bool.or_eq_true, beq_iff_eq]
      omega
  have eC : ∀ c : Nat, plainB c = false → upd2 C k i v c = C c := fun c hc => u_ne (hn c hc)
  have eR : ∀ c : Nat, plainB c = false → upd2 R k i w c = R c := fun c hc => u_ne (hn c hc)
  refine ⟨h1.upd k i hv, LogI_upd (by omega) h2, fun a ha => ?_, ?_, zDr_off (by omega) (fun q => hn 13 (by decide) q.symm) h5, ?_, ?_, ?_, ?_⟩
  · rw [logSum_upd (by omega), eR kAccounts (by decide)]
    exact h3 a ha
  · rw [logSum_upd (by omega), h4, capR_off]
    refine Bool.eq_false_iff.mpr (fun q => ?_)
    simp only [List.contains_cons, List.contains_nil, Bool.or_false, Bool.or_eq_true, beq_iff_eq] at q
    rcases q with q | q | q | q | q | q | q | q | q | q | q | q <;> exact hn _ (by decide) q.symm
  · rw [eC kBoughtOn (by decide), eR kAreGoods (by decide), eR kToldDays (by decide), eR kPayments (by decide)]
    exact h6
  · rw [eC kFromBank (by decide), eC kToBank (by decide), eR kPayments (by decide), eR kStates (by decide), eR kFroms (by decide), eR kTos (by decide), eR kBankOf (by decide)]
    exact h7
  · rw [eC kFirms (by decide), eC kWages (by decide)]
    exact h8
  · rw [eC kReserves (by decide)]
    exact h9
/-- what only one side has -/
theorem Rel.scrC {C R : Col} {d v : Int32} (h : Rel C R d) (k i : Nat) (hk : [22, 23, 38, 46, 47].contains k = true) : Rel (upd2 C k i v) R d := by
  obtain ⟨h1, h2, h3, h4, h5, h6, h7, h8, h9⟩ := h
  have hn : ∀ c : Nat, [22, 23, 38, 46, 47].contains c = false → c ≠ k := fun c hc q => by rw [q, hk] at hc; cases hc
  have hlt : k < 52 := by
    simp only [List.contains_cons, List.contains_nil, Bool.or_false, Bool.or_eq_true, beq_iff_eq] at hk
    omega
  have hz : shN k = 0 := by
    simp only [List.contains_cons, List.contains_nil, Bool.or_false, Bool.or_eq_true, beq_iff_eq] at hk
    rcases hk with q | q | q | q | q <;> (rw [q]; decide)
  have eC : ∀ c : Nat, [22, 23, 38, 46, 47].contains c = false → upd2 C k i v c = C c := fun c hc => u_ne (hn c hc)
  refine ⟨h1.updC k i hz, LogI_upd (by omega) h2, fun a ha => (logSum_upd (by omega)).trans (h3 a ha), (logSum_upd (by omega)).trans h4, zDr_offC (by omega) h5, ?_, ?_, ?_, ?_⟩
  · rw [eC kBoughtOn (by decide)]
    exact h6
  · rw [eC kFromBank (by decide), eC kToBank (by decide)]
    exact h7
  · rw [eC kFirms (by decide), eC kWages (by decide)]
    exact h8
  · rw [eC kReserves (by decide)]
    exact h9
theorem Rel.scrR {C R : Col} {d v : Int32} (h : Rel C R d) (k i : Nat) (hk : [0, 22, 23, 38, 46, 47].contains k = true) : Rel C (upd2 R k i v) d := by
  obtain ⟨h1, h2, h3, h4, h5, h6, h7, h8, h9⟩ := h
  have hn : ∀ c : Nat, [0, 22, 23, 38, 46, 47].contains c = false → c ≠ k := fun c hc q => by rw [q, hk] at hc; cases hc
  have hz : shN k = 0 ∧ k ≠ 13 ∧ [5, 6, 16, 17, 18, 24, 26, 27, 39, 41, 48, 50].contains k = false := by
    simp only [List.contains_cons, List.contains_nil, Bool.or_false, Bool.or_eq_true, beq_iff_eq] at hk
    rcases hk with q | q | q | q | q | q <;> (rw [q]; decide)
  have eR : ∀ c : Nat, [0, 22, 23, 38, 46, 47].contains c = false → upd2 R k i v c = R c := fun c hc => u_ne (hn c hc)
  refine ⟨h1.updR k i hz.1, h2, fun a ha => ?_, ?_, zDr_offR hz.2.1 h5, ?_, ?_, h8, h9⟩
  · rw [eR kAccounts (by decide)]
    exact h3 a ha
  · rw [h4, capR_off hz.2.2]
  · rw [eR kAreGoods (by decide), eR kToldDays (by decide), eR kPayments (by decide)]
    exact h6
  · rw [eR kPayments (by decide), eR kStates (by decide), eR kFroms (by decide), eR kTos (by decide), eR kBankOf (by decide)]
    exact h7
