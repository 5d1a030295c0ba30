/-! an auction: one bidder pays -/
theorem capR_auct {R : Col} {a : Nat} (ha : ix (R kAuctions 0) = a) (ha20 : a < 20) (h0 : R kBonds (5 * a + 4) = 0) : capR (upd2 R kAuctions 0 (nI (a + 1))) = capR R := by
  have e4 : capR (upd2 R kAuctions 0 (nI (a + 1))) = s32 (fun k => R kBonds (5 * k + 4)) (ix (nI (a + 1))) + loaS R (nI 4) + R kForeignCost 0 - R kTreasury 0 + s32 (fun k => R kLent k - R kReserves k - R kVaults k) 4 - s32 (fun k => R kNotes k - R kForged k) 16 := rfl
  have e5 : s32 (fun k => R kBonds (5 * k + 4)) (a + 1) = s32 (fun k => R kBonds (5 * k + 4)) a + R kBonds (5 * a + 4) := rfl
  rw [e4, ix_nI (by omega), e5, h0, Int32.add_zero]
  unfold capR bonS
  rw [ha]
theorem Rel.auct {C R : Col} {d : Int32} (h : Rel C R d) {a : Nat} (ha : ix (R kAuctions 0) = a) (ha20 : a < 20) (h0 : R kBonds (5 * a + 4) = 0) : Rel (upd2 C kAuctions 0 (nI (a + 1))) (upd2 R kAuctions 0 (nI (a + 1))) d := by
  obtain ⟨h1, h2, h3, h4, h5, h6, h7, h8, h9⟩ := h
  refine ⟨h1.upd _ _ rfl, LogI_upd (by decide) h2, fun a ha => (logSum_upd (by decide)).trans (h3 a ha), ?_, zDr_off (by decide) (by decide) h5, h6, h7, h8, h9⟩
  rw [logSum_upd (by decide), h4, capR_auct ha ha20 h0]
theorem zF.auct {au bs hf : Row} (h : zF au bs hf) {a : Nat} (ha : ix (au 0) = a) (ha20 : a < 20) : zF (ru au 0 (nI (a + 1))) bs hf := by
  refine ⟨?_, fun k hk => ?_⟩
  · rw [ru_eq]
    exact inb_nI (by omega) (by omega)
  · obtain ⟨p1, p2, p3, p4⟩ := h.2 k hk
    refine ⟨p1, p2, p3, fun q => p4 ?_⟩
    rw [ru_eq, ix_nI (by omega)] at q
    omega
theorem N_auct {u v L : Int} {R : Col} (n : Num u v L R) {a : Nat} (ha : ix (R kAuctions 0) = a) (ha20 : a < 20) : Num u v L (upd2 R kAuctions 0 (nI (a + 1))) := by
  obtain ⟨nh, nu, np, nb, nv, nf, nl, nd, ns, nw, nq⟩ := n
  exact ⟨nh, nu, np, nb, nv, nf.auct ha ha20, nl, nd, ns, nw, nq⟩
theorem zF.inc {au bs hf : Row} (h : zF au bs hf) {k o : Nat} (hk : k < ix (au 0)) (ho : o < 4) (hf0 : hf o = 0) {x : Int32} (h1 : (bs (5 * k + o)).toInt ≤ x.toInt) (h2 : sumI (fun o => (bs (5 * k + o)).toInt) 5 + (x.toInt - (bs (5 * k + o)).toInt) ≤ 10000) : zF au (ru bs (5 * k + o) x) hf := by
  refine ⟨h.1, fun k' hk' => ?_⟩
  obtain ⟨p1, p2, p3, p4⟩ := h.2 k' hk'
  by_cases c : k' = k
  · subst c
    have e := sumI_upd (f := fun o => (bs (5 * k' + o)).toInt) (g := fun q => (ru bs (5 * k' + o) x (5 * k' + q)).toInt) (j := o) 5 (by omega) (fun q _ hne => by
      show (ru bs (5 * k' + o) x (5 * k' + q)).toInt = _
      rw [ru_ne (by omega)])
    refine ⟨fun q hq => ?_, ?_, fun b hb hfb => ?_, fun q => by omega⟩
    · by_cases z : q = o
      · subst z
        rw [ru_eq]
        have := p1 q hq
        omega
      · rw [ru_ne (by omega)]
        exact p1 q hq
    · rw [e, ru_eq]
      exact h2
    · rw [ru_ne (fun z => hfb ?_)]
      · exact p3 b hb hfb
      · have : b = o := by omega
        rw [this]
        exact hf0
  · have e : ∀ q, q < 5 → ru bs (5 * k + o) x (5 * k' + q) = bs (5 * k' + q) := fun q hq => ru_ne (by omega)
    refine ⟨fun q hq => ?_, ?_, fun b hb hfb => ?_, fun q o' ho' => ?_⟩
    · rw [e q hq]
      exact p1 q hq
    · rw [sumI_congr 5 (fun q hq => by rw [e q hq])]
      exact p2
    · rw [e b (by omega)]
      exact p3 b hb hfb
    · rw [e o' ho']
      exact p4 q o' ho'
def sellC (R : Col) (a b : Nat) (co g : Int32) : Col := upd2 (upd2 (upd2 R kReserves b (R kReserves b - co)) kTreasury 0 (R kTreasury 0 + co)) kBonds (5 * a + b) (R kBonds (5 * a + b) + g)
theorem sellC_off {R : Col} {a b k : Nat} {co g : Int32} (h1 : k ≠ 16) (h2 : k ≠ 41) (h3 : k ≠ 48) : sellC R a b co g k = R k := (u_ne h2).trans ((u_ne h3).trans (u_ne h1))
theorem sell_prim {u v L : Int} {C R : Col} {d : Int32} {a b : Nat} {co g : Int32} (h : Rel C R d) (nn : Num u v L R) (hv : v ≤ 5120000) (ha : a < ix (R kAuctions 0)) (hb : b < 4) (hf : R kHaveFailed b = 0) (c0 : 0 ≤ co.toInt) (c1 : co.toInt ≤ (R kReserves b).toInt) (g0 : 0 ≤ g.toInt) (g1 : sumI (fun o => (R kBonds (5 * a + o)).toInt) 5 + g.toInt ≤ 10000) : Rel (sellC C a b co g) (sellC R a b co g) d ∧ Num u v L (sellC R a b co g) := by
  obtain ⟨t1, t2, t3, t4⟩ := re_hi nn hv hb
  obtain ⟨nh, nu, np, nb, nv, nf, nl, nd, ns, nw, nq⟩ := nn
  have ha20 : a < 20 := by
    have := nf.1.2
    rw [show zF _ _ _ = zF (R kAuctions) (R kBonds) (R kHaveFailed) from rfl] at nf
    have := nf.1.2
    omega
  have p0 : 0 ≤ (R kBonds (5 * a + b)).toInt := (nf.2 a ha20).1 b (by omega)
  have pb : (R kBonds (5 * a + b)).toInt ≤ 10000 := by
    have := sumI_one (f := fun o => (R kBonds (5 * a + o)).toInt) 5 b (by omega) (fun i hi => (nf.2 a ha20).1 i hi)
    have h2 : (R kBonds (5 * a + b)).toInt ≤ sumI (fun o => (R kBonds (5 * a + o)).toInt) 5 := this
    omega
  have e1 : (R kReserves b - co).toInt = (R kReserves b).toInt - co.toInt := by
    rw [w_sub]
    omega
  have e2 : (R kTreasury 0 + co).toInt = (R kTreasury 0).toInt + co.toInt := by
    rw [w_add]
    omega
  have gs : g.toInt ≤ 10000 := by
    have := sumI_nonneg (f := fun o => (R kBonds (5 * a + o)).toInt) 5 (fun i hi => (nf.2 a ha20).1 i hi)
    omega
  have e3 : (R kBonds (5 * a + b) + g).toInt = (R kBonds (5 * a + b)).toInt + g.toInt := by
    rw [w_add]
    omega
  constructor
  · have s1 : C kReserves b = R kReserves b := h.sh kReserves b hb
    have s2 : C kTreasury 0 = R kTreasury 0 := h.sh kTreasury 0 (by decide)
    have s3 : C kBonds (5 * a + b) = R kBonds (5 * a + b) := h.sh kBonds _ (show 5 * a + b < 100 by omega)
    unfold sellC
    rw [s1, s2, s3]
    have r1 := h.reserves (v := R kReserves b - co) hb rfl
    have r2 := r1.treasury (v := R kTreasury 0 + co) rfl
    have r3 := r2.bonds (k := a) (o := b) (v := R kBonds (5 * a + b) + g) ha (by omega) rfl
    rw [if_neg (by omega), show upd2 R kReserves b (R kReserves b - co) kTreasury 0 = R kTreasury 0 from rfl] at r3
    exact r3.d_eq (by grind)
  · refine ⟨nh, nu, np, ?_, ?_, ?_, nl, nd, ?_, nw, nq⟩
    · show zB L (ru (R kReserves) b (R kReserves b - co)) (R kVaults) (R kLent) (R kLimits) (R kHaveFailed) (R kAreShort)
      intro b' hb'
      obtain ⟨p1, p2⟩ := nb b' hb'
      by_cases z : b' = b
      · subst z
        rw [ru_eq, e1]
        exact ⟨by omega, p2⟩
      · rw [ru_ne z]
        exact ⟨p1, p2⟩
    · show vS (ru (R kReserves) b (R kReserves b - co)) (R kVaults) (ru (R kTreasury) 0 (R kTreasury 0 + co)) (R kHaveFailed) (R kDays) ≤ v
      rw [vS_re hb, vS_tr, e1, e2]
      omega
    · show zF (R kAuctions) (ru (R kBonds) (5 * a + b) (R kBonds (5 * a + b) + g)) (R kHaveFailed)
      exact nf.inc ha hb hf (by omega) (by omega)
    · obtain ⟨q1, q2, q3, q4, q5, q6, q7, q8, q9, q10⟩ := ns
      exact ⟨q1, q2, q3, q4, q5, q6, q7, q8, (show 0 ≤ (R kTreasury 0 + co).toInt by omega), q10⟩
