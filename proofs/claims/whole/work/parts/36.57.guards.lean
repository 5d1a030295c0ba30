/-! what calls ask for -/
def T0 (B : Mem) (rc : Int32) : Mem := (B.1, upd2 B.2.1 kThrown 0 rc, B.2.2)
/-- how both objects hang together after t calls -/
def St (u : Int) (A R : Col) : Prop := Rel A R 0 ∧ Num u u 171000000 R
theorem holds_eq (S : Mem) (p : Int32) : f_X12_holds S p = (if p = 0 then 1 else 0, T0 S p) := by
  unfold f_X12_holds
  rw [lt_x, lt_x]
  rfl
theorem tail_no {α : Type} {S : Mem} {c : Int32} (hc : c ≠ 0) (a : Mem → α) (F : Mem → α) : lt ((f_X12_holds S c).2) (fun S6 => lt ((f_X12_holds S c).1) (fun v7 => if v7 = 0 then a S6 else F S6)) = a (T0 S c) := by
  rw [holds_eq, lt_x, lt_x]
  show (if (if c = 0 then (1 : Int32) else 0) = 0 then _ else _) = _
  rw [if_neg hc, if_pos rfl]
theorem tail_yes {α : Type} {S : Mem} (a : Mem → α) (F : Mem → α) : lt ((f_X12_holds S 0).2) (fun S6 => lt ((f_X12_holds S 0).1) (fun v7 => if v7 = 0 then a S6 else F S6)) = F (T0 S 0) := by
  rw [holds_eq, lt_x, lt_x]
  show (if (if (0 : Int32) = 0 then (1 : Int32) else 0) = 0 then _ else _) = _
  rw [if_pos rfl, if_neg (by decide)]
theorem okt_no {S : Mem} {c : Int32} (hc : c ≠ 0) {P : Mem → Prop} : ∀ S6, (f_X12_holds S c).2 = S6 → ∀ v7, (f_X12_holds S c).1 = v7 → ¬ v7 = 0 → P S6 := by
  intro S6 _ v7 h7 h
  rw [holds_eq, if_neg hc] at h7
  exact absurd h7.symm h
theorem okt_yes {S : Mem} {P : Mem → Prop} (h : P (T0 S 0)) : ∀ S6, (f_X12_holds S 0).2 = S6 → ∀ v7, (f_X12_holds S 0).1 = v7 → ¬ v7 = 0 → P S6 := by
  intro S6 h6 v7 _ _
  rw [holds_eq] at h6
  rw [← h6]
  exact h
theorem rng_cases (p lo hi : Int32) : (lo.toInt ≤ p.toInt ∧ p.toInt ≤ hi.toInt ∧ (∀ S, ok_X11_needRange S p lo hi) ∧ ∀ S, f_X12_in S p lo hi = 1) ∨ ((∀ S, okx_X11_needRange_1 S p lo hi) ∧ ∀ S, f_X12_in S p lo hi = 0) := by
  by_cases c1 : p < lo
  · refine Or.inr ⟨fun S v e => ?_, fun S => ?_⟩
    · rw [if_pos c1] at e
      exact e.symm
    · unfold f_X12_in
      rw [if_pos c1, lt_x]
  · by_cases c2 : hi < p
    · refine Or.inr ⟨fun S v e => ?_, fun S => ?_⟩
      · rw [if_neg c1, if_pos c2] at e
        exact e.symm
      · unfold f_X12_in
        rw [if_neg c1, if_pos c2, lt_x]
    · refine Or.inl ⟨?_, ?_, fun S v e => ?_, fun S => ?_⟩
      · rw [w_lt] at c1
        omega
      · rw [w_lt] at c2
        omega
      · rw [if_neg c1, if_neg c2] at e
        rw [← e]
        exact (by decide : ¬ (1 : Int32) = 0)
      · unfold f_X12_in
        rw [if_neg c1, if_neg c2, lt_x]
theorem ind_cases (p lo hi hj : Int32) (h : hi.toInt + 1 = hj.toInt) : (lo.toInt ≤ p.toInt ∧ p.toInt ≤ hi.toInt ∧ (∀ v3 : Int32, (if p < lo then (0) else (if hj ≤ p then (0) else (1))) = v3 → ¬ v3 = 0) ∧ ∀ S, f_X12_in S p lo hi = 1) ∨ ((∀ v3 : Int32, (if p < lo then (0) else (if hj ≤ p then (0) else (1))) = v3 → v3 = 0) ∧ ∀ S, f_X12_in S p lo hi = 0) := by
  by_cases c1 : p < lo
  · refine Or.inr ⟨fun v e => ?_, fun S => ?_⟩
    · rw [if_pos c1] at e
      exact e.symm
    · unfold f_X12_in
      rw [if_pos c1, lt_x]
  · by_cases c2 : hj ≤ p
    · have c3 : hi < p := by
        rw [w_le] at c2
        rw [w_lt]
        omega
      refine Or.inr ⟨fun v e => ?_, fun S => ?_⟩
      · rw [if_neg c1, if_pos c2] at e
        exact e.symm
      · unfold f_X12_in
        rw [if_neg c1, if_pos c3, lt_x]
    · have c3 : ¬ hi < p := by
        rw [w_le] at c2
        rw [w_lt]
        omega
      refine Or.inl ⟨?_, ?_, fun v e => ?_, fun S => ?_⟩
      · rw [w_lt] at c1
        omega
      · rw [w_lt] at c3
        omega
      · rw [if_neg c1, if_neg c2] at e
        rw [← e]
        decide
      · unfold f_X12_in
        rw [if_neg c1, if_neg c3, lt_x]
theorem hol_cases (p : Int32) : (inb p 16 ∧ (∀ S, ok_X11_needHolder S p) ∧ ∀ S, f_X12_isHolder S p = 1) ∨ ((∀ S, okx_X11_needHolder_1 S p) ∧ ∀ S, f_X12_isHolder S p = 0) := by
  have e : ∀ S x, f_X12_in S p 0 (nI 15) = x → f_X12_isHolder S p = x := fun S x h => by
    unfold f_X12_isHolder
    rw [h, lt_x]
  rcases ind_cases p 0 (nI 15) (nI 16) (by decide) with ⟨h1, h2, h3, h4⟩ | ⟨h1, h2⟩
  · exact Or.inl ⟨(inb_iff (by omega)).mpr ⟨by rw [w_0] at h1; exact h1, by have : (nI 15).toInt = 15 := nI_toInt (by omega); omega⟩, fun S => h3, fun S => e S 1 (h4 S)⟩
  · exact Or.inr ⟨fun S => h1, fun S => e S 0 (h2 S)⟩
theorem bnk_cases (p : Int32) : (inb p 4 ∧ (∀ S, ok_X11_needBank S p) ∧ ∀ S, f_X12_isBank S p = 1) ∨ ((∀ S, okx_X11_needBank_1 S p) ∧ ∀ S, f_X12_isBank S p = 0) := by
  have e : ∀ S x, f_X12_in S p 0 (nI 3) = x → f_X12_isBank S p = x := fun S x h => by
    unfold f_X12_isBank
    rw [h, lt_x]
  rcases ind_cases p 0 (nI 3) (nI 4) (by decide) with ⟨h1, h2, h3, h4⟩ | ⟨h1, h2⟩
  · exact Or.inl ⟨(inb_iff (by omega)).mpr ⟨by rw [w_0] at h1; exact h1, by have : (nI 3).toInt = 3 := nI_toInt (by omega); omega⟩, fun S => h3, fun S => e S 1 (h4 S)⟩
  · exact Or.inr ⟨fun S => h1, fun S => e S 0 (h2 S)⟩
theorem hou_cases (p : Int32) : (inb p 10 ∧ (∀ S, ok_X11_needHousehold S p) ∧ ∀ S, f_X12_isHousehold S p = 1) ∨ ((∀ S, okx_X11_needHousehold_1 S p) ∧ ∀ S, f_X12_isHousehold S p = 0) := by
  have e : ∀ S x, f_X12_in S p 0 (nI 9) = x → f_X12_isHousehold S p = x := fun S x h => by
    unfold f_X12_isHousehold
    rw [h, lt_x]
  rcases ind_cases p 0 (nI 9) (nI 10) (by decide) with ⟨h1, h2, h3, h4⟩ | ⟨h1, h2⟩
  · exact Or.inl ⟨(inb_iff (by omega)).mpr ⟨by rw [w_0] at h1; exact h1, by have : (nI 9).toInt = 9 := nI_toInt (by omega); omega⟩, fun S => h3, fun S => e S 1 (h4 S)⟩
  · exact Or.inr ⟨fun S => h1, fun S => e S 0 (h2 S)⟩
theorem frm_cases (p : Int32) : (inb p 16 ∧ 10 ≤ ix p ∧ (∀ S, ok_X11_needFirm S p) ∧ ∀ S, f_X12_isFirm S p = 1) ∨ ((∀ S, okx_X11_needFirm_1 S p) ∧ ∀ S, f_X12_isFirm S p = 0) := by
  have e : ∀ S x, f_X12_in S p (nI 10) (nI 15) = x → f_X12_isFirm S p = x := fun S x h => by
    unfold f_X12_isFirm
    rw [h, lt_x]
  rcases ind_cases p (nI 10) (nI 15) (nI 16) (by decide) with ⟨h1, h2, h3, h4⟩ | ⟨h1, h2⟩
  · have e10 : (nI 10).toInt = 10 := nI_toInt (by omega)
    have e15 : (nI 15).toInt = 15 := nI_toInt (by omega)
    have hb : inb p 16 := (inb_iff (by omega)).mpr ⟨by omega, by omega⟩
    exact Or.inl ⟨hb, by have := inb_toInt hb; omega, fun S => h3, fun S => e S 1 (h4 S)⟩
  · exact Or.inr ⟨fun S => h1, fun S => e S 0 (h2 S)⟩
/-- scratch -/
def scrB (k : Nat) : Bool := [0, 22, 23, 38, 46, 47].contains k
theorem Num.scr {u v L : Int} {R R2 : Col} (n : Num u v L R) (h : ∀ k, scrB k = false → R2 k = R k) : Num u v L R2 := by
  unfold Num
  rw [h kBankOf (by decide), h kAccounts (by decide), h kBlocked (by decide), h kForged (by decide), h kNotes (by decide), h kHaveFailed (by decide), h kPayments (by decide), h kFroms (by decide), h kTos (by decide), h kStates (by decide), h kAmounts (by decide), h kReserves (by decide), h kVaults (by decide), h kLent (by decide), h kLimits (by decide), h kAreShort (by decide), h kTreasury (by decide), h kDays (by decide), h kAuctions (by decide), h kBonds (by decide), h kLoans (by decide), h kLoanHolders (by decide), h kLoanBanks (by decide), h kLoanLefts (by decide), h kLoanRates (by decide), h kOverdue (by decide), h kBids (by decide), h kBidBanks (by decide), h kBidPrices (by decide), h kBidNumbers (by decide), h kRate (by decide), h kCapitalRule (by decide), h kReserveRule (by decide), h kExchange (by decide), h kFirms (by decide), h kWages (by decide), h kPrices (by decide)]
  exact n
theorem Rel.scr {C C2 R R2 : Col} {d : Int32} (h : Rel C R d) (hC : ∀ k, scrB k = false → C2 k = C k) (hR : ∀ k, scrB k = false → R2 k = R k) : Rel C2 R2 d := by
  obtain ⟨h1, h2, h3, h4, h5, h6, h7, h8, h9⟩ := h
  have eN : ∀ o n, logN C2 o n = logN C o n := fun o n => logN_congr n (fun i _ => ⟨by rw [hC kLogOwners (by decide)], by rw [hC kLogChanges (by decide)]⟩)
  have eS : ∀ o, logSum C2 o = logSum C o := fun o => by
    unfold logSum
    rw [hC kLogCarried (by decide), hC kLogCount (by decide), eN]
  have eP : capR R2 = capR R := by
    unfold capR bonS loaS
    rw [hR kAuctions (by decide), hR kBonds (by decide), hR kLoans (by decide), hR kLoanBanks (by decide), hR kLoanLefts (by decide), hR kForeignCost (by decide), hR kTreasury (by decide), hR kLent (by decide), hR kReserves (by decide), hR kVaults (by decide), hR kNotes (by decide), hR kForged (by decide)]
  refine ⟨fun k i hi => ?_, ?_, fun i hi => ?_, ?_, fun a b ha hb => ?_, ?_, ?_, ?_, ?_⟩
  · by_cases c : scrB k = false
    · rw [hC k c, hR k c]
      exact h1 k i hi
    · exfalso
      unfold scrB at c
      simp only [List.contains_cons, List.contains_nil, Bool.or_false, Bool.not_eq_false, Bool.or_eq_true, beq_iff_eq] at c
      have : shN k = 0 := by
        rcases c with q | q | q | q | q | q <;> (rw [q]; decide)
      omega
  · unfold LogI
    rw [hC kLogCount (by decide), hC kLogOwners (by decide)]
    exact h2
  · rw [eS, hR kAccounts (by decide)]
    exact h3 i hi
  · rw [eS, eP]
    exact h4
  · have c : scrB (kDrawnC + a) = false := by
      have : a = 0 ∨ a = 1 ∨ a = 2 ∨ a = 3 ∨ a = 4 ∨ a = 5 ∨ a = 6 ∨ a = 7 ∨ a = 8 ∨ a = 9 := by omega
      rcases this with q | q | q | q | q | q | q | q | q | q <;> (rw [q]; decide)
    rw [hC (kDrawnC + a) c, hR kDrawn (by decide)]
    exact h5 a b ha hb
  · rw [hC kBoughtOn (by decide), hR kAreGoods (by decide), hR kToldDays (by decide), hR kPayments (by decide)]
    exact h6
  · rw [hC kFromBank (by decide), hC kToBank (by decide), hR kPayments (by decide), hR kStates (by decide), hR kFroms (by decide), hR kTos (by decide), hR kBankOf (by decide)]
    exact h7
  · rw [hC kFirms (by decide), hC kWages (by decide)]
    exact h8
  · rw [hC kReserves (by decide)]
    exact h9
theorem t0_off {B : Mem} {rc : Int32} (k : Nat) (h : scrB k = false) : (T0 B rc).2.1 k = B.2.1 k := u_ne (fun q => by rw [q] at h; exact absurd h (by decide))
theorem St.thr {u : Int} {A : Col} {B : Mem} (h : St u A B.2.1) (rc : Int32) : St u A (T0 B rc).2.1 := ⟨h.1.scr (fun _ _ => rfl) (fun k hk => t0_off k hk), h.2.scr (fun k hk => t0_off k hk)⟩
theorem Num.umono {u u2 v L : Int} {R : Col} (n : Num u v L R) (h : u ≤ u2) : Num u2 v L R := by
  obtain ⟨nh, nu, rest⟩ := n
  exact ⟨nh, by omega, rest⟩
theorem St.mono {u u2 : Int} {A R : Col} (h : St u A R) (hu : u ≤ u2) : St u2 A R := ⟨h.1, (h.2.umono hu).vmono hu⟩
