/-! what is chosen at the end is settled -/
theorem Num_scr {u v L : Int} {R R2 : Col} (n : Num u v L R) (h : ∀ k, k ≠ 22 → k ≠ 38 → R2 k = R k) : Num u v L R2 := by
  unfold Num
  rw [h kBankOf (by decide) (by decide), h kAccounts (by decide) (by decide), h kBlocked (by decide) (by decide), h kForged (by decide) (by decide), h kNotes (by decide) (by decide), h kHaveFailed (by decide) (by decide), h kPayments (by decide) (by decide), h kFroms (by decide) (by decide), h kTos (by decide) (by decide), h kStates (by decide) (by decide), h kAmounts (by decide) (by decide), h kReserves (by decide) (by decide), h kVaults (by decide) (by decide), h kLent (by decide) (by decide), h kLimits (by decide) (by decide), h kAreShort (by decide) (by decide), h kTreasury (by decide) (by decide), h kDays (by decide) (by decide), h kAuctions (by decide) (by decide), h kBonds (by decide) (by decide), h kLoans (by decide) (by decide), h kLoanHolders (by decide) (by decide), h kLoanBanks (by decide) (by decide), h kLoanLefts (by decide) (by decide), h kLoanRates (by decide) (by decide), h kOverdue (by decide) (by decide), h kBids (by decide) (by decide), h kBidBanks (by decide) (by decide), h kBidPrices (by decide) (by decide), h kBidNumbers (by decide) (by decide), h kRate (by decide) (by decide), h kCapitalRule (by decide) (by decide), h kReserveRule (by decide) (by decide), h kExchange (by decide) (by decide), h kFirms (by decide) (by decide), h kWages (by decide) (by decide), h kPrices (by decide) (by decide)]
  exact n
theorem Rel_scr {C C2 R R2 : Col} {d : Int32} (h : Rel C R d) (hC : ∀ k, k ≠ 22 → k ≠ 38 → C2 k = C k) (hR : ∀ k, k ≠ 22 → k ≠ 38 → R2 k = R k) : Rel C2 R2 d := by
  obtain ⟨h1, h2, h3, h4, h5, h6, h7, h8, h9⟩ := h
  have eN : ∀ o n, logN C2 o n = logN C o n := fun o n => logN_congr n (fun i _ => ⟨by rw [hC kLogOwners (by decide) (by decide)], by rw [hC kLogChanges (by decide) (by decide)]⟩)
  have eS : ∀ o, logSum C2 o = logSum C o := fun o => by
    unfold logSum
    rw [hC kLogCarried (by decide) (by decide), hC kLogCount (by decide) (by decide), eN]
  have eP : capR R2 = capR R := by
    unfold capR bonS loaS
    rw [hR kAuctions (by decide) (by decide), hR kBonds (by decide) (by decide), hR kLoans (by decide) (by decide), hR kLoanBanks (by decide) (by decide), hR kLoanLefts (by decide) (by decide), hR kForeignCost (by decide) (by decide), hR kTreasury (by decide) (by decide), hR kLent (by decide) (by decide), hR kReserves (by decide) (by decide), hR kVaults (by decide) (by decide), hR kNotes (by decide) (by decide), hR kForged (by decide) (by decide)]
  refine ⟨fun k i hi => ?_, ?_, fun i hi => ?_, ?_, fun a b ha hb => ?_, ?_, ?_, ?_, ?_⟩
  · by_cases c1 : k = 22
    · subst c1
      exact absurd hi (by decide +revert)
    · by_cases c2 : k = 38
      · subst c2
        exact absurd hi (by decide +revert)
      · rw [hC k c1 c2, hR k c1 c2]
        exact h1 k i hi
  · unfold LogI
    rw [hC kLogCount (by decide) (by decide), hC kLogOwners (by decide) (by decide)]
    exact h2
  · rw [eS, hR kAccounts (by decide) (by decide)]
    exact h3 i hi
  · rw [eS, eP]
    exact h4
  · rw [hC (kDrawnC + a) (show 67 + a ≠ 22 by omega) (show 67 + a ≠ 38 by omega), hR kDrawn (by decide) (by decide)]
    exact h5 a b ha hb
  · rw [hC kBoughtOn (by decide) (by decide), hR kAreGoods (by decide) (by decide), hR kToldDays (by decide) (by decide), hR kPayments (by decide) (by decide)]
    exact h6
  · rw [hC kFromBank (by decide) (by decide), hC kToBank (by decide) (by decide), hR kPayments (by decide) (by decide), hR kStates (by decide) (by decide), hR kFroms (by decide) (by decide), hR kTos (by decide) (by decide), hR kBankOf (by decide) (by decide)]
    exact h7
  · rw [hC kFirms (by decide) (by decide), hC kWages (by decide) (by decide)]
    exact h8
  · rw [hC kReserves (by decide) (by decide)]
    exact h9
def resR (R : Col) (ne : Row) : Nat → Col
  | 0 => R
  | b + 1 => upd2 (resR R ne b) kReserves b (R kReserves b + ne b)
theorem resR_off {R : Col} {ne : Row} {k : Nat} (hk : k ≠ 16) : ∀ m, resR R ne m k = R k := by
  intro m
  induction m with
  | zero => rfl
  | succ m ih => exact (u_ne hk).trans ih
theorem resR_ge {R : Col} {ne : Row} : ∀ m i, m ≤ i → resR R ne m kReserves i = R kReserves i := by
  intro m
  induction m with
  | zero => intro i _; rfl
  | succ m ih =>
    intro i hi
    exact (upd2_row (by omega)).trans (ih i (by omega))
theorem res_loop {x y : Mem} {d : Int32} {ne : Row} (h : Rel x.1 y.2.1 d) (hx : ∀ b, b < 4 → x.1 kNets b = ne b) (hy : ∀ b, b < 4 → y.2.1 kNets b = ne b) : Rel (iter b2_X10_finishChosen x 4).1 (resR y.2.1 ne 4) (d + s32 ne 4) ∧ (∀ k, k ≠ 16 → (iter b2_X10_finishChosen x 4).1 k = x.1 k) ∧ (iter b119_X12_clears y 4).2.1 = resR y.2.1 ne 4 := by
  have key := iter2 (f := b2_X10_finishChosen) (g := b119_X12_clears) (a := x) (b := y) (fun j X Y => Rel X.1 (resR y.2.1 ne j) (d + s32 ne j) ∧ (∀ k, k ≠ 16 → X.1 k = x.1 k) ∧ Y.2.1 = resR y.2.1 ne j) (n := 4) ⟨h.d_eq (Int32.add_zero d).symm, fun _ _ => rfl, rfl⟩ (fun j hj X Y q => by
    obtain ⟨q1, q2, q3⟩ := q
    unfold b2_X10_finishChosen b119_X12_clears
    rw [bank_nI hj, lt_x, lt_x]
    have e1 : X.1 kReserves j = y.2.1 kReserves j := (q1.sh kReserves j hj).trans (resR_ge j j (Nat.le_refl _))
    have e2 : X.1 kNets j = ne j := by rw [q2 kNets (by decide)]; exact hx j hj
    have e3 : Y.2.1 kReserves j = y.2.1 kReserves j := by rw [q3]; exact resR_ge j j (Nat.le_refl _)
    have e4 : Y.2.1 kNets j = ne j := by rw [q3, resR_off (by decide)]; exact hy j hj
    refine ⟨?_, fun k hk => (u_ne hk).trans (q2 k hk), ?_⟩
    · show Rel (upd2 X.1 kReserves j (X.1 kReserves j + X.1 kNets j)) (upd2 (resR y.2.1 ne j) kReserves j (y.2.1 kReserves j + ne j)) (d + (s32 ne j + ne j))
      rw [e1, e2]
      have r := q1.reserves (v := y.2.1 kReserves j + ne j) hj rfl
      rw [resR_ge j j (Nat.le_refl _)] at r
      exact r.d_eq (by grind)
    · show upd2 Y.2.1 kReserves j (Y.2.1 kReserves j + Y.2.1 kNets j) = upd2 (resR y.2.1 ne j) kReserves j (y.2.1 kReserves j + ne j)
      rw [e3, e4, q3]) 4 (Nat.le_refl _)
  exact key
theorem s4_pick {x : Int32} (h : inb x 4) (m : Int32) : s32 (fun b => if x = nI b then m else 0) 4 = m := by
  have h1 := h.2
  have e : ∀ b, b < 4 → ((x = nI b) ↔ ix x = b) := fun b hb => ⟨fun q => by rw [q, ix_nI (by omega)], fun q => by rw [← q]; exact h.1⟩
  show 0 + (if x = nI 0 then m else 0) + (if x = nI 1 then m else 0) + (if x = nI 2 then m else 0) + (if x = nI 3 then m else 0) = m
  simp only [e 0 (by omega), e 1 (by omega), e 2 (by omega), e 3 (by omega)]
  have hx : ix x = 0 ∨ ix x = 1 ∨ ix x = 2 ∨ ix x = 3 := by omega
  rcases hx with q | q | q | q <;> rw [q] <;> simp
theorem nS_sum {fk tk am ch : Row} : ∀ n, (∀ p, p < n → ch p ≠ 0 → inb (fk p) 4 ∧ inb (tk p) 4) → s32 (fun b => nS fk tk am ch b n) 4 = 0 := by
  intro n
  induction n with
  | zero =>
    intro _
    show (0 : Int32) + 0 + 0 + 0 + 0 = 0
    decide
  | succ n ih =>
    intro h
    have q := ih (fun p hp => h p (by omega))
    have e : s32 (fun b => nS fk tk am ch b (n + 1)) 4 = s32 (fun b => nS fk tk am ch b n) 4 + s32 (fun b => nT fk tk am ch b n) 4 := s32_add _ _ 4
    rw [e, q]
    by_cases c : ch n = 0
    · have : s32 (fun b => nT fk tk am ch b n) 4 = s32 (fun _ => 0) 4 := s32_congr 4 (fun b _ => by unfold nT; rw [if_pos c])
      rw [this]
      decide
    · obtain ⟨h1, h2⟩ := h n (by omega) c
      have e2 : s32 (fun b => nT fk tk am ch b n) 4 = s32 (fun b => if tk n = nI b then am n else 0) 4 - s32 (fun b => if fk n = nI b then am n else 0) 4 := by
        rw [← s32_sub]
        refine s32_congr 4 (fun b _ => ?_)
        unfold nT
        rw [if_neg c]
      rw [e2, s4_pick h1, s4_pick h2]
      grind
theorem resR_at {R : Col} {ne : Row} : ∀ m i, i < m → resR R ne m kReserves i = R kReserves i + ne i := by
  intro m
  induction m with
  | zero => intro i hi; omega
  | succ m ih =>
    intro i hi
    by_cases c : i = m
    · subst c
      exact upd2_eq
    · exact (upd2_row c).trans (ih i (by omega))
theorem N_res2 {u v L : Int} {R : Col} {ne : Row} {nz : Nat → Int} (nn : Num u v L R) (hb4 : ∀ b, b < 4 → (R kReserves b + ne b).toInt = (R kReserves b).toInt + nz b ∧ 0 ≤ (R kReserves b).toInt + nz b) (hz : sumI nz 4 = 0) : Num u v L (resR R ne 4) := by
  obtain ⟨nh, nu, np, nb, nv, nf, nl, nd, ns, nw, nq⟩ := nn
  refine ⟨nh, nu, np, ?_, ?_, nf, nl, nd, ns, nw, nq⟩
  · show zB L (resR R ne 4 kReserves) (R kVaults) (R kLent) (R kLimits) (R kHaveFailed) (R kAreShort)
    intro b hb
    obtain ⟨p1, p2⟩ := nb b hb
    rw [resR_at 4 b hb]
    obtain ⟨q1, q2⟩ := hb4 b hb
    exact ⟨by omega, p2⟩
  · show vS (resR R ne 4 kReserves) (R kVaults) (R kTreasury) (R kHaveFailed) (R kDays) ≤ v
    have e1 : sumI (fun b => (resR R ne 4 kReserves b).toInt + (R kVaults b).toInt - (if R kHaveFailed b = 0 then 0 else 5120000)) 4 = sumI (fun b => ((R kReserves b).toInt + (R kVaults b).toInt - (if R kHaveFailed b = 0 then 0 else 5120000)) + nz b) 4 := sumI_congr 4 (fun b hb => by
      rw [resR_at 4 b hb, (hb4 b hb).1]
      omega)
    rw [sumI_add, hz] at e1
    unfold vS at nv ⊢
    rw [e1]
    omega
theorem N_res {u v L : Int} {R : Col} {fk tk ch : Row} (nn : Num u v L R) (hu : u ≤ 5120000) (hv : v ≤ 5120000) (hw : ∀ p, p < ix (R kPayments 0) → ch p ≠ 0 → R kStates p = 0 ∧ inb (fk p) 4 ∧ inb (tk p) 4) (hworst : wN R (ix (R kPayments 0)) fk tk ch = -1) : Num u v L (resR R (fun b => nS fk tk (R kAmounts) ch b (ix (R kPayments 0))) 4) := by
  have am : ∀ p, p < ix (R kPayments 0) → ch p ≠ 0 → 0 ≤ (R kAmounts p).toInt := fun p hp hc => nn.2.2.1.am p hp (hw p hp hc).1
  have h1 := nW_le nn (fun p hp hc => (hw p hp hc).1)
  have hz := nZ_sum (am := R kAmounts) (ix (R kPayments 0)) (fun p hp hc => (hw p hp hc).2)
  have hre := fun b (hb : b < 4) => re_hi nn hv hb
  have hb4 : ∀ b, b < 4 → (R kReserves b + nS fk tk (R kAmounts) ch b (ix (R kPayments 0))).toInt = (R kReserves b).toInt + nZ fk tk (R kAmounts) ch b (ix (R kPayments 0)) ∧ 0 ≤ (R kReserves b).toInt + nZ fk tk (R kAmounts) ch b (ix (R kPayments 0)) := by
    intro b hb
    have h2 := nS_toInt (fk := fk) (tk := tk) (b := b) _ am (by omega)
    have h4 := nZ_abs (fk := fk) (tk := tk) (b := b) _ am
    obtain ⟨p1, p2, p3, p4, p5, p6, p7⟩ := nn.2.2.2.1 b hb
    have hr := hre b hb
    have lk : (lkR (R kReserves) (R kLimits) (fun b => nS fk tk (R kAmounts) ch b (ix (R kPayments 0))) b).toInt ≤ 0 := by
      rcases worst_spec (lkR (R kReserves) (R kLimits) (fun b => nS fk tk (R kAmounts) ch b (ix (R kPayments 0)))) with ⟨-, z⟩ | ⟨b2, hb2, z, -⟩
      · exact z b hb
      · have hworst : worst (lkR (R kReserves) (R kLimits) (fun b => nS fk tk (R kAmounts) ch b (ix (R kPayments 0)))) = -1 := hworst
        rw [z] at hworst
        exact absurd hworst (inb_ne (inb_nI (show b2 < 200 by omega) (by omega)))
    obtain ⟨m, m1, m2, m3, m4⟩ := lk_toInt (ne := fun b => nS fk tk (R kAmounts) ch b (ix (R kPayments 0))) p1 p5 p6 (by rw [h2]; omega) (by rw [h2]; omega)
    rw [m4, h2] at lk
    rw [w_add, h2]
    omega
  exact N_res2 (nz := fun b => nZ fk tk (R kAmounts) ch b (ix (R kPayments 0))) nn hb4 hz
