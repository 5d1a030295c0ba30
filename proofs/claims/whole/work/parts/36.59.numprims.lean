/-! single numbers change -/
theorem N_notes {u v L : Int} {R : Col} {i : Nat} {x : Int32} (n : Num u v L R) (hi : i < 16) (hx : (R kForged i).toInt ≤ x.toInt) : Num (u + x.toInt - (R kNotes i).toInt) v L (upd2 R kNotes i x) := by
  obtain ⟨nh, nu, np, nb, nv, nf, nl, nd, ns, nw, nq⟩ := n
  refine ⟨?_, ?_, np, nb, nv, nf, nl, nd, ns, nw, nq⟩
  · show zH (R kBankOf) (R kAccounts) (R kBlocked) (R kForged) (ru (R kNotes) i x) (R kHaveFailed)
    intro j hj
    obtain ⟨a1, a2, a3, a4, a5, a6⟩ := nh j hj
    refine ⟨a1, a2, a3, a4, a5, ?_⟩
    by_cases z : j = i
    · subst z
      rw [ru_eq]
      exact hx
    · rw [ru_ne z]
      exact a6
  · show uS (R kAccounts) (ru (R kNotes) i x) ≤ _
    rw [uS_no hi]
    omega
theorem N_forged {u v L : Int} {R : Col} {i : Nat} {x : Int32} (n : Num u v L R) (h0 : 0 ≤ x.toInt) (hx : x.toInt ≤ (R kNotes i).toInt) : Num u v L (upd2 R kForged i x) := by
  obtain ⟨nh, nu, np, nb, nv, nf, nl, nd, ns, nw, nq⟩ := n
  refine ⟨?_, nu, np, nb, nv, nf, nl, nd, ns, nw, nq⟩
  show zH (R kBankOf) (R kAccounts) (R kBlocked) (ru (R kForged) i x) (R kNotes) (R kHaveFailed)
  intro j hj
  obtain ⟨a1, a2, a3, a4, a5, a6⟩ := nh j hj
  refine ⟨a1, a2, a3, a4, ?_⟩
  by_cases z : j = i
  · subst z
    rw [ru_eq]
    exact ⟨h0, hx⟩
  · rw [ru_ne z]
    exact ⟨a5, a6⟩
theorem N_acc {u v L : Int} {R : Col} {i : Nat} {x : Int32} (n : Num u v L R) (hi : i < 16) (hb : R kBankOf i ≠ -1) (hx : (R kBlocked i).toInt ≤ x.toInt) : Num (u + x.toInt - (R kAccounts i).toInt) v L (upd2 R kAccounts i x) := by
  obtain ⟨nh, nu, np, nb, nv, nf, nl, nd, ns, nw, nq⟩ := n
  refine ⟨?_, ?_, np, nb, nv, nf, nl, nd, ns, nw, nq⟩
  · show zH (R kBankOf) (ru (R kAccounts) i x) (R kBlocked) (R kForged) (R kNotes) (R kHaveFailed)
    intro j hj
    obtain ⟨a1, a2, a3, a4, a5, a6⟩ := nh j hj
    by_cases z : j = i
    · subst z
      rw [ru_eq]
      exact ⟨a1, fun q => absurd q hb, a3, hx, a5, a6⟩
    · rw [ru_ne z]
      exact ⟨a1, a2, a3, a4, a5, a6⟩
  · show uS (ru (R kAccounts) i x) (R kNotes) ≤ _
    rw [uS_ac hi]
    omega
theorem N_re {u v L : Int} {R : Col} {b : Nat} {x : Int32} (n : Num u v L R) (hb : b < 4) (hx : 0 ≤ x.toInt) : Num u (v + x.toInt - (R kReserves b).toInt) L (upd2 R kReserves b x) := by
  obtain ⟨nh, nu, np, nb, nv, nf, nl, nd, ns, nw, nq⟩ := n
  refine ⟨nh, nu, np, ?_, ?_, nf, nl, nd, ns, nw, nq⟩
  · show zB L (ru (R kReserves) b x) (R kVaults) (R kLent) (R kLimits) (R kHaveFailed) (R kAreShort)
    intro b' hb'
    obtain ⟨p1, p2⟩ := nb b' hb'
    by_cases z : b' = b
    · subst z
      rw [ru_eq]
      exact ⟨hx, p2⟩
    · rw [ru_ne z]
      exact ⟨p1, p2⟩
  · show vS (ru (R kReserves) b x) (R kVaults) (R kTreasury) (R kHaveFailed) (R kDays) ≤ _
    rw [vS_re hb]
    omega
theorem N_va {u v L : Int} {R : Col} {b : Nat} {x : Int32} (n : Num u v L R) (hb : b < 4) (hx : 0 ≤ x.toInt) : Num u (v + x.toInt - (R kVaults b).toInt) L (upd2 R kVaults b x) := by
  obtain ⟨nh, nu, np, nb, nv, nf, nl, nd, ns, nw, nq⟩ := n
  refine ⟨nh, nu, np, ?_, ?_, nf, nl, nd, ns, nw, nq⟩
  · show zB L (R kReserves) (ru (R kVaults) b x) (R kLent) (R kLimits) (R kHaveFailed) (R kAreShort)
    intro b' hb'
    obtain ⟨p1, p2, p3⟩ := nb b' hb'
    by_cases z : b' = b
    · subst z
      rw [ru_eq]
      exact ⟨p1, hx, p3⟩
    · rw [ru_ne z]
      exact ⟨p1, p2, p3⟩
  · show vS (R kReserves) (ru (R kVaults) b x) (R kTreasury) (R kHaveFailed) (R kDays) ≤ _
    rw [vS_va hb]
    omega
theorem N_le {u v L : Int} {R : Col} {b : Nat} {x : Int32} (n : Num u v L R) (h0 : 0 ≤ x.toInt) (h1 : x.toInt ≤ L) (hf : R kHaveFailed b ≠ 0 → x = 0) : Num u v L (upd2 R kLent b x) := by
  obtain ⟨nh, nu, np, nb, nv, nf, nl, nd, ns, nw, nq⟩ := n
  refine ⟨nh, nu, np, ?_, nv, nf, nl, nd, ns, nw, nq⟩
  show zB L (R kReserves) (R kVaults) (ru (R kLent) b x) (R kLimits) (R kHaveFailed) (R kAreShort)
  intro b' hb'
  obtain ⟨p1, p2, p3, p4, p5, p6, p7, p8, p9⟩ := nb b' hb'
  by_cases z : b' = b
  · subst z
    rw [ru_eq]
    exact ⟨p1, p2, h0, h1, p5, p6, p7, p8, hf⟩
  · rw [ru_ne z]
    exact ⟨p1, p2, p3, p4, p5, p6, p7, p8, p9⟩
theorem N_li {u v L : Int} {R : Col} {b : Nat} {x : Int32} (n : Num u v L R) (h0 : 0 ≤ x.toInt) (h1 : x.toInt ≤ 10000) : Num u v L (upd2 R kLimits b x) := by
  obtain ⟨nh, nu, np, nb, nv, nf, nl, nd, ns, nw, nq⟩ := n
  refine ⟨nh, nu, np, ?_, nv, nf, nl, nd, ns, nw, nq⟩
  show zB L (R kReserves) (R kVaults) (R kLent) (ru (R kLimits) b x) (R kHaveFailed) (R kAreShort)
  intro b' hb'
  obtain ⟨p1, p2, p3, p4, p5, p6, p7⟩ := nb b' hb'
  by_cases z : b' = b
  · subst z
    rw [ru_eq]
    exact ⟨p1, p2, p3, p4, h0, h1, p7⟩
  · rw [ru_ne z]
    exact ⟨p1, p2, p3, p4, p5, p6, p7⟩
theorem N_tr {u v L : Int} {R : Col} {x : Int32} (n : Num u v L R) (hx : 0 ≤ x.toInt) : Num u (v + x.toInt - (R kTreasury 0).toInt) L (upd2 R kTreasury 0 x) := by
  obtain ⟨nh, nu, np, nb, nv, nf, nl, nd, ns, nw, nq⟩ := n
  refine ⟨nh, nu, np, nb, ?_, nf, nl, nd, ?_, nw, nq⟩
  · show vS (R kReserves) (R kVaults) (ru (R kTreasury) 0 x) (R kHaveFailed) (R kDays) ≤ _
    rw [vS_tr]
    omega
  · obtain ⟨q1, q2, q3, q4, q5, q6, q7, q8, q9, q10⟩ := ns
    exact ⟨q1, q2, q3, q4, q5, q6, q7, q8, hx, q10⟩
theorem N_rules {u v L : Int} {R : Col} {x y z : Int32} (n : Num u v L R) (hx : 0 ≤ x.toInt ∧ x.toInt ≤ 100) (hy : 0 ≤ y.toInt ∧ y.toInt ≤ 100) (hz : 0 ≤ z.toInt ∧ z.toInt ≤ 100) : Num u v L (upd2 (upd2 (upd2 R kRate 0 x) kCapitalRule 0 y) kReserveRule 0 z) := by
  obtain ⟨nh, nu, np, nb, nv, nf, nl, nd, ns, nw, nq⟩ := n
  obtain ⟨q1, q2, q3, q4, q5, q6, q7, q8, q9, q10⟩ := ns
  exact ⟨nh, nu, np, nb, nv, nf, nl, nd, ⟨q1, q2, hx.1, hx.2, hy.1, hy.2, hz.1, hz.2, q9, q10⟩, nw, nq⟩
theorem N_exch {u v L : Int} {R : Col} {x : Int32} (n : Num u v L R) (hx : 10 ≤ x.toInt ∧ x.toInt ≤ 1000) : Num u v L (upd2 R kExchange 0 x) := by
  obtain ⟨nh, nu, np, nb, nv, nf, nl, nd, ns, nw, nq⟩ := n
  obtain ⟨q1, q2, q3, q4, q5, q6, q7, q8, q9, q10, q11⟩ := ns
  exact ⟨nh, nu, np, nb, nv, nf, nl, nd, ⟨q1, q2, q3, q4, q5, q6, q7, q8, q9, hx.1, hx.2⟩, nw, nq⟩
theorem N_bank {u v L : Int} {R : Col} {i : Nat} {x : Int32} (n : Num u v L R) (hx : x = -1 ∨ (inb x 4 ∧ R kHaveFailed (ix x) = 0)) (ha : R kAccounts i = 0) (hp : ∀ p, p < ix (R kPayments 0) → R kStates p = 0 → ix (R kFroms p) ≠ i ∧ ix (R kTos p) ≠ i) : Num u v L (upd2 R kBankOf i x) := by
  obtain ⟨nh, nu, np, nb, nv, nf, nl, nd, ns, nw, nq⟩ := n
  refine ⟨?_, nu, ?_, nb, nv, nf, nl, nd, ns, nw, nq⟩
  · show zH (ru (R kBankOf) i x) (R kAccounts) (R kBlocked) (R kForged) (R kNotes) (R kHaveFailed)
    intro j hj
    obtain ⟨a1, a2, a3, a4, a5, a6⟩ := nh j hj
    by_cases z : j = i
    · subst z
      rw [ru_eq]
      exact ⟨hx, fun _ => ha, a3, a4, a5, a6⟩
    · rw [ru_ne z]
      exact ⟨a1, a2, a3, a4, a5, a6⟩
  · show zP (R kPayments) (R kFroms) (R kTos) (R kStates) (R kAmounts) (ru (R kBankOf) i x) (R kBlocked)
    obtain ⟨p1, p2, p3⟩ := np
    refine ⟨p1, fun p hpp => ⟨(p2 p hpp).1, (p2 p hpp).2.1, fun h0 => ?_⟩, p3⟩
    obtain ⟨c1, c2, c3, c4⟩ := (p2 p hpp).2.2 h0
    obtain ⟨d1, d2⟩ := hp p hpp h0
    refine ⟨c1, ?_, ?_, c4⟩
    · rw [ru_ne d1]
      exact c2
    · rw [ru_ne d2]
      exact c3
