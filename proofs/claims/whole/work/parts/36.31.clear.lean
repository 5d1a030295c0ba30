/-! clearing, both sides -/
def FL (n : Nat) (u v L : Int) (d dy : Int32) (ch : Row) (j : Nat) (X Y : Int32 × Mem) : Prop := X.1 = Y.1 ∧ Rel X.2.1 Y.2.2.1 d ∧ Num u v L Y.2.2.1 ∧ (∀ p, p < n → X.2.1 kAreChosen p = ch p ∧ Y.2.2.1 kAreChosen p = ch p) ∧ (∀ p, j ≤ p → p < n → ch p ≠ 0 → Y.2.2.1 kStates p = 0) ∧ Y.2.2.1 kPayments 0 = nI n ∧ Y.2.2.1 kDays 0 = dy
theorem fin_step {n : Nat} {u v L : Int} {d dy : Int32} {ch : Row} {j : Nat} {X Y : Int32 × Mem} (hu : u ≤ 5120000) (hn : n ≤ 200) (hj : j < n) (h : FL n u v L d dy ch j X Y) : FL n u v L d dy ch (j + 1) (b40_X10_finishChosen dy j X) (b149_X12_clears j Y) ∧ (¬ (X.2.1 kAreChosen (f_X10_at X.2 (nI j))) = 0 → ok_X10_finish X.2 (f_X10_at X.2 (nI j)) dy) ∧ (¬ (Y.2.2.1 kAreChosen j) = 0 → ok_X12_finishes Y.2 (nI j)) := by
  obtain ⟨h1, h2, h3, h4, h5, h6, h7⟩ := h
  have ei : ix (nI n) = n := ix_nI (by omega)
  obtain ⟨c1, c2⟩ := h4 j hj
  unfold b40_X10_finishChosen b149_X12_clears
  rw [at10_nI (by omega), c1, c2]
  by_cases c : ch j = 0
  · simp only [if_pos c, lt_x]
    refine ⟨⟨h1, h2, h3, h4, fun p hp => h5 p (by omega), h6, h7⟩, fun q => absurd c q, fun q => absurd c q⟩
  · simp only [if_neg c, lt_x]
    have h0 := h5 j (Nat.le_refl _) hj c
    have hp : j < ix (Y.2.2.1 kPayments 0) := by rw [h6, ei]; exact hj
    obtain ⟨f1, f2, f3⟩ := h2.finish h3 hp (dy := dy) h7.symm h0
    have f4 := N_finish h3 hu hp h0
    have f5 := finR_eq h3 hp h0
    have f6 := fin_ok12 h3 hp
    refine ⟨⟨by rw [h1], ?_, ?_, ?_, ?_, ?_, ?_⟩, fun _ => f1, fun _ => f6⟩
    · show Rel (f_X10_finish X.2 j dy).1 (f_X12_finishes Y.2 (nI j)).2.1 d
      rw [f5]
      exact f3
    · show Num u v L (f_X12_finishes Y.2 (nI j)).2.1
      rw [f5]
      exact f4
    · intro p hp2
      show (f_X10_finish X.2 j dy).1 kAreChosen p = ch p ∧ (f_X12_finishes Y.2 (nI j)).2.1 kAreChosen p = ch p
      rw [f5, f2 kAreChosen (by decide) (by decide) (by decide) (by decide) (by decide)]
      exact h4 p hp2
    · intro p hp2 hp3 hc
      show (f_X12_finishes Y.2 (nI j)).2.1 kStates p = 0
      rw [f5]
      show ru (Y.2.2.1 kStates) j 1 p = 0
      rw [ru_ne (by omega)]
      exact h5 p (by omega) hp3 hc
    · show (f_X12_finishes Y.2 (nI j)).2.1 kPayments 0 = nI n
      rw [f5]
      exact h6
    · show (f_X12_finishes Y.2 (nI j)).2.1 kDays 0 = dy
      rw [f5]
      exact h7
theorem pick_R {R : Col} {n : Nat} {B : Mem} (hB : B.2.1 = R) : ∀ m, m ≤ n → (∀ k, k ≠ 38 → (iter b2_X12_clears B m).2.1 k = R k) ∧ ∀ p, p < m → (iter b2_X12_clears B m).2.1 kAreChosen p = chW (R kStates) p := by
  refine iter1 (f := b2_X12_clears) (a := B) (fun j x => (∀ k, k ≠ 38 → x.2.1 k = R k) ∧ ∀ p, p < j → x.2.1 kAreChosen p = chW (R kStates) p) ⟨fun k _ => by rw [hB], fun p hp => by omega⟩ (fun j hj x q => ?_)
  obtain ⟨q1, q2⟩ := q
  unfold b2_X12_clears
  rw [q1 kStates (by decide)]
  have ec : (if R kStates j = 0 then (1 : Int32) else 0) = chW (R kStates) j := rfl
  rw [ec]
  simp only [lt_x]
  refine ⟨fun k hk => (u_ne hk).trans (q1 k hk), fun p hp => ?_⟩
  by_cases c : p = j
  · subst c
    exact upd2_eq
  · exact (upd2_row c).trans (q2 p (by omega))
theorem resR_congr {R R2 : Col} {ne : Row} {k : Nat} (h : R2 k = R k) (h16 : R2 16 = R 16) : ∀ m, resR R2 ne m k = resR R ne m k := by
  intro m
  induction m with
  | zero => exact h
  | succ m ih =>
    funext i
    show upd2 (resR R2 ne m) kReserves m (R2 kReserves m + ne m) k i = upd2 (resR R ne m) kReserves m (R kReserves m + ne m) k i
    rw [show R2 kReserves m = R kReserves m from congrFun h16 m]
    unfold upd2
    rw [ih]
theorem clear_ok {u v L : Int} {A B : Mem} {d dy : Int32} (h : Rel A.1 B.2.1 d) (n : Num u v L B.2.1) (hu : u ≤ 5120000) (hv : v ≤ 5120000) (hd : dy = B.2.1 kDays 0) : ok_X10_clearAll A dy ∧ ok_X12_clears B ∧ (f_X10_clearAll A dy).1 = (f_X12_clears B).1 ∧ Rel (f_X10_clearAll A dy).2.1 (f_X12_clears B).2.2.1 d ∧ Num u v L (f_X12_clears B).2.2.1 ∧ (f_X12_clears B).2.2.1 kDays 0 = B.2.1 kDays 0 := by
  have hb := base_of h n
  have hP0 : B.2.1 kPayments 0 = nI (ix (B.2.1 kPayments 0)) := n.2.2.1.1.1
  obtain ⟨m, hnn⟩ : ∃ m, ix (B.2.1 kPayments 0) = m := ⟨_, rfl⟩
  rw [hnn] at hb hP0
  revert hb
  generalize (fun p => B.2.1 kBankOf (ix (B.2.1 kFroms p))) = fk
  generalize (fun p => B.2.1 kBankOf (ix (B.2.1 kTos p))) = tk
  intro hb
  have hn := hb.1
  have ei : ix (nI m) = m := ix_nI (by omega)
  obtain ⟨c1, c2⟩ := choose_C hb (A := A) rfl
  obtain ⟨p1, p2⟩ := pick_R (B := B) (n := m) rfl m (Nat.le_refl _)
  obtain ⟨l1, l2⟩ := lays_R (ch := chW (B.2.1 kStates)) (B := iter b2_X12_clears B m) hb (fun k h1 h2 => p1 k h2) p2 (fun p hp hc => chW_ne hc)
  have lk0 : LK A.1 B.2.1 m 0 fk tk (chW (B.2.1 kStates)) (f_X10_chooseAllThatWait A) (f_X12_laysNets (iter b2_X12_clears B m)) := ⟨c1, l1, fun p hp hc => chW_ne hc, by have := cn_le (chW (B.2.1 kStates)) m; omega⟩
  have wy := worst_y l1
  obtain ⟨ch, x2, y2, e1, e2, lk, hw⟩ := lock_end n hu hnn hb lk0
  have lall := lock_all n hu hnn hb lk0
  have hwait : ∀ p, p < m → ch p ≠ 0 → B.2.1 kStates p = 0 ∧ inb (fk p) 4 ∧ inb (tk p) 4 := fun p hp hc => by
    have q := lk.2.2.1 p hp hc
    obtain ⟨-, -, -, -, b5, b6, -⟩ := hb.2.2.2.2.1 p hp q
    exact ⟨q, b5, b6⟩
  have r0 : Rel x2.1 y2.2.1 d := Rel_scr h lk.1.1 lk.2.1.1
  obtain ⟨r1, r2, r3⟩ := res_loop (ne := fun b => nS fk tk (B.2.1 kAmounts) ch b m) r0 lk.1.2.2 lk.2.1.2.2
  have n2 : Num u v L (resR B.2.1 (fun b => nS fk tk (B.2.1 kAmounts) ch b m) 4) := by
    have := N_res (fk := fk) (tk := tk) (ch := ch) n hu hv (by rw [hnn]; exact hwait) (by rw [hnn]; exact hw)
    rw [hnn] at this
    exact this
  have n3 : Num u v L (resR y2.2.1 (fun b => nS fk tk (B.2.1 kAmounts) ch b m) 4) := Num_scr n2 (fun k h1 h2 => resR_congr (lk.2.1.1 k h1 h2) (lk.2.1.1 16 (by decide) (by decide)) 4)
  rw [nS_sum m (fun p hp hc => (hwait p hp hc).2), Int32.add_zero] at r1
  rw [← r3] at r1 n3
  have r4 : ∀ k, k ≠ 16 → (iter b119_X12_clears y2 4).2.1 k = y2.2.1 k := fun k hk => by
    rw [r3]
    exact resR_off hk 4
  clear r3 n2
  have hX2P : (iter b2_X10_finishChosen x2 4).1 kPayments 0 = nI m := by
    rw [r2 kPayments (by decide), lk.1.1 kPayments (by decide) (by decide)]
    exact hb.2.1
  have hY2P : (iter b119_X12_clears y2 4).2.1 kPayments 0 = nI m := by
    rw [r4 kPayments (by decide), lk.2.1.1 kPayments (by decide) (by decide)]
    exact hb.2.2.1
  have hY2D : (iter b119_X12_clears y2 4).2.1 kDays 0 = dy := by
    rw [r4 kDays (by decide), lk.2.1.1 kDays (by decide) (by decide)]
    exact hd.symm
  have hXc : ∀ p, p < m → (iter b2_X10_finishChosen x2 4).1 kAreChosen p = ch p ∧ (iter b119_X12_clears y2 4).2.1 kAreChosen p = ch p := fun p hp => by
    rw [r2 kAreChosen (by decide), r4 kAreChosen (by decide)]
    exact ⟨lk.1.2.1 p hp, lk.2.1.2.1 p hp⟩
  have hYs : ∀ p, 0 ≤ p → p < m → ch p ≠ 0 → (iter b119_X12_clears y2 4).2.1 kStates p = 0 := fun p _ hp hc => by
    rw [r4 kStates (by decide), lk.2.1.1 kStates (by decide) (by decide)]
    exact (hwait p hp hc).1
  have eS2 : (f_X10_chooseAllThatWait A).1 kPayments 0 = nI m := by
    rw [c1.1 kPayments (by decide) (by decide)]
    exact hb.2.1
  have okF : ok_X10_finishChosen x2 dy := by
    intro σ2 e
    subst e
    rw [hX2P, ei]
    have key := iter2 (f := b40_X10_finishChosen dy) (g := b149_X12_clears) (a := ((0 : Int32), iter b2_X10_finishChosen x2 4)) (b := ((0 : Int32), iter b119_X12_clears y2 4)) (FL m u v L d dy ch) (n := m) ⟨rfl, r1, n3, hXc, hYs, hY2P, hY2D⟩ (fun j hj X Y q => (fin_step hu hn hj q).1)
    refine ⟨fun j hj σ e => ?_, fun j hj σ e => ?_⟩
    · subst e
      have q := key j hj
      rw [q.2.1.sh kPayments 0 (by decide)]
      exact q.2.2.2.2.2.1
    · subst e
      exact (fin_step hu hn hj (key j (by omega))).2.1
  have key := iter2 (f := b40_X10_finishChosen dy) (g := b149_X12_clears) (a := ((0 : Int32), iter b2_X10_finishChosen x2 4)) (b := ((0 : Int32), iter b119_X12_clears y2 4)) (FL m u v L d dy ch) (n := m) ⟨rfl, r1, n3, hXc, hYs, hY2P, hY2D⟩ (fun j hj X Y q => (fin_step hu hn hj q).1)
  have eF : f_X10_finishChosen x2 dy = ((iter (b40_X10_finishChosen dy) (0, iter b2_X10_finishChosen x2 4) m).1, (iter (b40_X10_finishChosen dy) (0, iter b2_X10_finishChosen x2 4) m).2) := by
    unfold f_X10_finishChosen
    rw [lt_x, hX2P, ei, lt_x]
  have eA : f_X10_clearAll A dy = ((f_X10_finishChosen x2 dy).1, (f_X10_finishChosen x2 dy).2) := by
    unfold f_X10_clearAll
    rw [lt_x, eS2, ei, e1, lt_x, lt_x, lt_x]
  have eB : f_X12_clears B = ((iter b149_X12_clears (0, iter b119_X12_clears y2 4) m).1, (iter b149_X12_clears (0, iter b119_X12_clears y2 4) m).2) := by
    unfold f_X12_clears
    rw [lt_x, hnn, lt_x, lt_x, wy, e2, lt_x]
    show lt (iter b119_X12_clears y2 4) _ = _
    rw [lt_x, hY2P, ei, lt_x]
  have kend := key m (Nat.le_refl _)
  refine ⟨⟨c2, ?_⟩, ⟨?_, ?_, ?_⟩, ?_, ?_, ?_, ?_⟩
  · intro S2 e
    subst e
    rw [eS2, ei]
    refine ⟨fun j hj σ e => ?_, fun j hj σ e => ?_, fun σ e => ?_⟩
    · rcases lall j hj with ⟨ch3, x3, y3, i1, -, i3⟩ | ⟨ch3, x3, y3, i1, -, -⟩
      · have := Sum.inl.inj (i1.symm.trans e)
        subst this
        rw [i3.1.1 kPayments (by decide) (by decide)]
        exact hb.2.1
      · exact absurd (i1.symm.trans e) (by simp)
    · rcases lall j (by omega) with ⟨ch3, x3, y3, i1, -, i3⟩ | ⟨ch3, x3, y3, i1, -, -⟩
      · have := Sum.inl.inj (i1.symm.trans e)
        subst this
        intro v6 _ _
        show x3.1 kPayments 0 = nI (ix (x3.1 kPayments 0))
        rw [i3.1.1 kPayments (by decide) (by decide), hb.2.1, ei]
      · exact absurd (i1.symm.trans e) (by simp)
    · rw [e1] at e
      subst e
      exact okF
  · intro j hj σ e
    subst e
    rw [hnn] at hj ⊢
    rw [(pick_R (B := B) (n := m) rfl j hj).1 kPayments (by decide)]
    exact hP0
  · intro j hj σ e
    rw [hnn] at hj
    exact ⟨by omega, fun _ _ => by omega⟩
  · intro σ2 e
    rw [hnn] at e
    subst e
    refine ⟨l2, fun S10 e10 => ?_⟩
    subst e10
    intro v11 e11
    rw [wy] at e11
    subst e11
    refine ⟨⟨_, e2⟩, fun j hj σ e c => ?_, fun σ e => ?_⟩
    · rcases Nat.lt_or_ge m j with q | q
      · exfalso
        rcases lall m (Nat.le_refl _) with ⟨ch3, x3, y3, -, i2, i3⟩ | ⟨ch3, x3, y3, -, i2, -⟩
        · have h0 := cn_0 (ch := ch3) m (by have := i3.2.2.2; omega)
          have hw3 := wN_none (fk := fk) (tk := tk) n h0
          have := iterE_stop i2 (r := (-1, y3)) (by
            unfold b45_X12_clears
            rw [hw3, if_pos rfl]) j q
          rw [this] at e
          exact absurd e (by simp)
        · have st : ∀ k, m ≤ k → iterE b45_X12_clears (wN B.2.1 m fk tk (chW (B.2.1 kStates)), f_X12_laysNets (iter b2_X12_clears B m)) k = .inr (-1, y3) := by
            intro k hk
            induction k with
            | zero =>
              have : m = 0 := by omega
              subst this
              exact i2
            | succ k ihk =>
              by_cases c : m = k + 1
              · subst c
                exact i2
              · exact iterE_in (ihk (by omega))
          rw [st j (by omega)] at e
          exact absurd e (by simp)
      · rcases lall j q with ⟨ch3, x3, y3, -, i2, i3⟩ | ⟨ch3, x3, y3, -, i2, -⟩
        · have := Sum.inl.inj (i2.symm.trans e)
          subst this
          exact (lock_step n hu hnn hb i3 c).1
        · exact absurd (i2.symm.trans e) (by simp)
    · rw [e2] at e
      subst e
      intro σ30 e30
      subst e30
      show (∀ j32 : Nat, j32 ≤ ix ((iter b119_X12_clears y2 4).2.1 kPayments 0) → ∀ σ33 : Int32 × Mem, iter b149_X12_clears (0, iter b119_X12_clears y2 4) j32 = σ33 → σ33.2.2.1 kPayments 0 = nI (ix ((iter b119_X12_clears y2 4).2.1 kPayments 0))) ∧ (∀ j32 : Nat, j32 < ix ((iter b119_X12_clears y2 4).2.1 kPayments 0) → ∀ σ33 : Int32 × Mem, iter b149_X12_clears (0, iter b119_X12_clears y2 4) j32 = σ33 → ((j32 < 200) ∧ ((¬ ((σ33.2.2.1 kAreChosen j32) = 0)) → ((ok_X12_finishes σ33.2 (nI j32))))))
      rw [hY2P, ei]
      refine ⟨fun j hj σ e => ?_, fun j hj σ e => ?_⟩
      · subst e
        exact (key j hj).2.2.2.2.2.1
      · subst e
        exact ⟨by omega, (fin_step hu hn hj (key j (by omega))).2.2⟩
  · rw [eA, eF, eB]
    exact kend.1
  · rw [eA, eF, eB]
    exact kend.2.1
  · rw [eB]
    exact kend.2.2.1
  · rw [eB, ← hd]
    exact kend.2.2.2.2.2.2
