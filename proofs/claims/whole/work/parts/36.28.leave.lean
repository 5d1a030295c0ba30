/-! a payment is left out, on both sides -/
def rmC (x : Mem) (f t m : Int32) (p : Nat) : Mem := (upd2 (upd2 (upd2 x.1 kAreChosen p 0) kNets (ix f) (x.1 kNets (ix f) + m)) kNets (ix t) (upd2 (upd2 x.1 kAreChosen p 0) kNets (ix f) (x.1 kNets (ix f) + m) kNets (ix t) - m), x.2)
theorem leave_iter {C R : Col} {n : Nat} {fk tk ch : Row} {x : Mem} {w : Int32} (hb : ClB C R n fk tk) (hx : ClC C R n n fk tk ch x) (hw : ∀ p, p < n → ch p ≠ 0 → R kStates p = 0) : ∀ m, m ≤ n → (lst ch fk w m = -1 → iterD (b7_X10_leaveOutLatestOf x w) m = .inl ()) ∧ ∀ p, p < m → lst ch fk w m = nI p → iterD (b7_X10_leaveOutLatestOf x w) m = .inr (rmC x (fk p) (tk p) (R kAmounts p) p) := by
  obtain ⟨hn, hP, hPR, h4, h5, h6⟩ := hb
  obtain ⟨q1, q2, q3⟩ := hx
  intro m
  induction m with
  | zero => intro _; exact ⟨fun _ => rfl, fun p hp => by omega⟩
  | succ m ih =>
    intro hm
    have ih := ih (by omega)
    have e : lst ch fk w (m + 1) = if ch m = 0 then lst ch fk w m else if fk m = w then nI m else lst ch fk w m := rfl
    have goon : b7_X10_leaveOutLatestOf x w m = .inl () → lst ch fk w (m + 1) = lst ch fk w m → (lst ch fk w (m + 1) = -1 → iterD (b7_X10_leaveOutLatestOf x w) (m + 1) = .inl ()) ∧ ∀ p, p < m + 1 → lst ch fk w (m + 1) = nI p → iterD (b7_X10_leaveOutLatestOf x w) (m + 1) = .inr (rmC x (fk p) (tk p) (R kAmounts p) p) := by
      intro g1 g2
      rw [iterD_go g1, g2]
      refine ⟨ih.1, fun p hp hl => ?_⟩
      rcases lst_spec (ch := ch) (fk := fk) (w := w) m with ⟨z1, -⟩ | ⟨p2, z1, z2, -⟩
      · rw [z1] at hl
        exact absurd hl.symm (inb_ne (inb_nI (show p < 200 by omega) (by omega)))
      · have : p2 = p := nI_inj (by omega) (by omega) (z2.symm.trans hl)
        subst this
        exact ih.2 p2 z1 hl
    by_cases c : ch m = 0
    · refine goon ?_ (by rw [e, if_pos c])
      unfold b7_X10_leaveOutLatestOf
      rw [at10_nI (by omega), q2 m (by omega), if_pos c]
    · obtain ⟨b1, b2, b3, b4, b5, b6, b7⟩ := h5 m (by omega) (hw m (by omega) c)
      have s3 : x.1 kFromBank m = fk m := by rw [q1 kFromBank (by decide) (by decide)]; exact b1
      have s4 : x.1 kToBank m = tk m := by rw [q1 kToBank (by decide) (by decide)]; exact b2
      have s2 : x.1 kAmounts m = R kAmounts m := by rw [q1 kAmounts (by decide) (by decide)]; exact (h4 m (by omega)).1
      by_cases c2 : fk m = w
      · have g : b7_X10_leaveOutLatestOf x w m = .inr (rmC x (fk m) (tk m) (R kAmounts m) m) := by
          unfold b7_X10_leaveOutLatestOf
          rw [at10_nI (by omega), q2 m (by omega), if_neg c, s3, if_pos c2]
          have t3 : ∀ v, upd2 x.1 kAreChosen m v kFromBank m = fk m := fun v => s3
          have t5 : ∀ v, upd2 x.1 kAreChosen m v kAmounts m = R kAmounts m := fun v => s2
          have t4 : ∀ v i y, upd2 (upd2 x.1 kAreChosen m v) kNets i y kToBank m = tk m := fun v i y => s4
          have t6 : ∀ v i y, upd2 (upd2 x.1 kAreChosen m v) kNets i y kAmounts m = R kAmounts m := fun v i y => s2
          simp only [lt_x, t3, t4, t5, t6, bank_in b5, bank_in b6]
          rfl
        have e2 : lst ch fk w (m + 1) = nI m := by rw [e, if_neg c, if_pos c2]
        rw [iterD_stop g, e2]
        refine ⟨fun z => absurd z (inb_ne (inb_nI (show m < 200 by omega) (by omega))), fun p hp hl => ?_⟩
        have : m = p := nI_inj (by omega) (by omega) hl
        subst this
        rfl
      · refine goon ?_ (by rw [e, if_neg c, if_neg c2])
        unfold b7_X10_leaveOutLatestOf
        rw [at10_nI (by omega), q2 m (by omega), if_neg c, s3, if_neg c2]
theorem nS_rm {fk tk am ch : Row} {b n p : Nat} (hp : p < n) (hc : ch p ≠ 0) : nS fk tk am (ru ch p 0) b n = nS fk tk am ch b n - ((if tk p = nI b then am p else 0) - (if fk p = nI b then am p else 0)) := by
  have e := s32_upd (f := nT fk tk am ch b) (g := nT fk tk am (ru ch p 0) b) (j := p) n hp (fun a _ hne => by
    unfold nT
    rw [ru_ne hne])
  unfold nS
  rw [e]
  unfold nT
  rw [ru_eq, if_pos rfl, if_neg hc]
  grind
theorem leave_C {C R : Col} {n p : Nat} {fk tk ch : Row} {x : Mem} {w : Int32} (hb : ClB C R n fk tk) (hx : ClC C R n n fk tk ch x) (hw : ∀ p, p < n → ch p ≠ 0 → R kStates p = 0) (hp : p < n) (hl : lst ch fk w n = nI p) (hc : ch p ≠ 0) : ClC C R n n fk tk (ru ch p 0) (f_X10_leaveOutLatestOf x w) := by
  have hi := (leave_iter (w := w) hb hx hw n (Nat.le_refl _)).2 p hp hl
  obtain ⟨hn, hP, hPR, h4, h5, h6⟩ := hb
  obtain ⟨q1, q2, q3⟩ := hx
  have hP2 : x.1 kPayments 0 = nI n := by rw [q1 kPayments (by decide) (by decide)]; exact hP
  have ei : ix (nI n) = n := ix_nI (by omega)
  obtain ⟨b1, b2, b3, b4, b5, b6, b7⟩ := h5 p hp (hw p hp hc)
  unfold f_X10_leaveOutLatestOf
  rw [hP2, ei, matchE_r hi]
  unfold rmC
  refine ⟨fun k h1 h2 => ((u_ne h1).trans ((u_ne h1).trans (u_ne h2))).trans (q1 k h1 h2), fun q hq => ?_, fun b hb4 => ?_⟩
  · show upd2 x.1 kAreChosen p 0 kAreChosen q = ru ch p 0 q
    by_cases c : q = p
    · subst c
      rw [ru_eq, upd2_eq]
    · rw [ru_ne c, upd2_row c]
      exact q2 q hq
  · rw [nS_rm hp hc]
    exact net_off (D := upd2 x.1 kAreChosen p 0) (z := fun b => nS fk tk (R kAmounts) ch b n) b5 b6 (fun b hb4 => q3 b hb4) b hb4
/-- a bank that lacks has a chosen payment -/
theorem nZ_nonneg {fk tk am ch : Row} {b : Nat} : ∀ n, (∀ p, p < n → ch p ≠ 0 → fk p ≠ nI b ∧ 0 ≤ (am p).toInt) → 0 ≤ nZ fk tk am ch b n := by
  intro n h
  refine sumI_nonneg n (fun p hp => ?_)
  unfold nU
  by_cases c : ch p = 0
  · rw [if_pos c]
    omega
  · obtain ⟨h1, h2⟩ := h p hp c
    rw [if_neg c, if_neg h1]
    split <;> omega
theorem lk_toInt {re li ne : Row} {b : Nat} (hr : 0 ≤ (re b).toInt) (hl : 0 ≤ (li b).toInt) (hl2 : (li b).toInt ≤ 10000) (hn : -1000000000 ≤ (ne b).toInt) (hn2 : (ne b).toInt ≤ 1000000000) : ∃ m : Int, 0 ≤ m ∧ m ≤ 10000 ∧ m ≤ (re b).toInt ∧ (lkR re li ne b).toInt = -(ne b).toInt - m := by
  unfold lkR
  by_cases c : li b < re b
  · rw [if_pos c]
    rw [w_lt] at c
    refine ⟨(li b).toInt, hl, hl2, by omega, ?_⟩
    rw [w_sub, w_neg]
    omega
  · rw [if_neg c]
    rw [w_lt] at c
    refine ⟨(re b).toInt, hr, by omega, Int.le_refl _, ?_⟩
    rw [w_sub, w_neg]
    omega
theorem lk_has {u v L : Int} {R : Col} {fk tk ch : Row} {b : Nat} (nn : Num u v L R) (hu : u ≤ 5120000) (hw : ∀ p, p < ix (R kPayments 0) → ch p ≠ 0 → R kStates p = 0) (hb : b < 4) (hl : 0 < (lkR (R kReserves) (R kLimits) (fun b => nS fk tk (R kAmounts) ch b (ix (R kPayments 0))) b).toInt) : ∃ p, p < ix (R kPayments 0) ∧ lst ch fk (nI b) (ix (R kPayments 0)) = nI p ∧ ch p ≠ 0 := by
  rcases lst_spec (ch := ch) (fk := fk) (w := nI b) (ix (R kPayments 0)) with ⟨-, z⟩ | ⟨p, z1, z2, z3, -⟩
  · exfalso
    have am : ∀ p, p < ix (R kPayments 0) → ch p ≠ 0 → 0 ≤ (R kAmounts p).toInt := fun p hp hc => nn.2.2.1.am p hp (hw p hp hc)
    have h1 := nW_le nn hw
    have h2 := nS_toInt (fk := fk) (tk := tk) (b := b) _ am (by omega)
    have h3 := nZ_nonneg (fk := fk) (tk := tk) (am := R kAmounts) (ch := ch) (b := b) _ (fun p hp hc => ⟨z p hp hc, am p hp hc⟩)
    have h4 := nZ_abs (fk := fk) (tk := tk) (b := b) _ am
    obtain ⟨p1, p2, p3, p4, p5, p6, p7⟩ := nn.2.2.2.1 b hb
    obtain ⟨m, m1, m2, m3, m4⟩ := lk_toInt (ne := fun b => nS fk tk (R kAmounts) ch b (ix (R kPayments 0))) p1 p5 p6 (by rw [h2]; omega) (by rw [h2]; omega)
    rw [m4, h2] at hl
    omega
  · exact ⟨p, z1, z2, z3⟩
