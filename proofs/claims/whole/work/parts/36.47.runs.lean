/-! runs on banks -/
def okc_run (j1 : Nat) (σ2 : Mem) : Prop := ((∀ v3 : Int32, (f_X5_free σ2 (f_X3_holder σ2 (nI j1))) = v3 → (((¬ (v3 ≤ 0)) → ((∀ v5 : Int32, (f_X11_isAfraid σ2 (nI j1) (σ2.1 kBankOf (f_X3_holder σ2 (nI j1)))) = v5 → (((¬ (v5 = 0)) → ((ok_X11_drawNotes σ2 (nI j1) v3) ∧ (∀ S8 : Mem, ((f_X11_drawNotes σ2 (nI j1) v3).2) = S8 → ((∀ v9 : Int32, ((f_X11_drawNotes σ2 (nI j1) v3).1) = v9 → (((¬ (v3 ≤ v9)) → ((ok_X11_failBank S8 (σ2.1 kBankOf (f_X3_holder σ2 (nI j1)))))))))))))))))))
def okr_run (j1 : Nat) (σ2 : Mem) : Prop := ((ok_X12_hasAccount σ2 (nI j1)) ∧ (∀ v4 : Int32, (f_X12_hasAccount σ2 (nI j1)) = v4 → (((¬ (v4 = 0)) → ((ok_X12_free σ2 (nI j1)) ∧ (∀ v7 : Int32, (f_X12_free σ2 (nI j1)) = v7 → (((¬ (v7 ≤ 0)) → ((inb (σ2.2.1 kBankOf j1) 4) ∧ ((¬ ((σ2.2.1 kAreShort (ix (σ2.2.1 kBankOf j1))) = 0)) → ((ok_X12_free σ2 (nI j1)) ∧ (∀ v12 : Int32, (f_X12_free σ2 (nI j1)) = v12 → ((ok_X12_draws σ2 (nI j1) v12))))) ∧ (((σ2.2.1 kAreShort (ix (σ2.2.1 kBankOf j1))) = 0) → ((ok_X12_hasDrawn σ2 ((nI j1) - 1) (σ2.2.1 kBankOf j1)) ∧ (∀ v17 : Int32, (f_X12_hasDrawn σ2 ((nI j1) - 1) (σ2.2.1 kBankOf j1)) = v17 → (((¬ (v17 = 0)) → ((ok_X12_free σ2 (nI j1)) ∧ (∀ v20 : Int32, (f_X12_free σ2 (nI j1)) = v20 → ((ok_X12_draws σ2 (nI j1) v20))))) ∧ ((v17 = 0) → ((ok_X12_hasDrawn σ2 ((nI j1) + 1) (σ2.2.1 kBankOf j1)) ∧ (∀ v25 : Int32, (f_X12_hasDrawn σ2 ((nI j1) + 1) (σ2.2.1 kBankOf j1)) = v25 → (((¬ (v25 = 0)) → ((ok_X12_free σ2 (nI j1)) ∧ (∀ v28 : Int32, (f_X12_free σ2 (nI j1)) = v28 → ((ok_X12_draws σ2 (nI j1) v28))))))))))))))))))))))
theorem hasDrawn_ok {u v L : Int} {A B : Mem} {d y : Int32} {i : Int} {z : Int32} (h : Rel A.1 B.2.1 d) (n : Num u v L B.2.1) (hy : inb y 4) (hz : z.toInt = i) (hi : -1 ≤ i) (hi2 : i ≤ 10) : f_X11_hasDrawn A z y = f_X12_hasDrawn B z y ∧ ok_X12_hasDrawn B z y := by
  have hDy : A.1 kDays 0 = B.2.1 kDays 0 := h.sh kDays 0 (by decide)
  have e10 : (nI 10).toInt = 10 := nI_toInt (by omega)
  have e9 : (nI 9).toInt = 9 := nI_toInt (by omega)
  have z0 := w_0
  have z1 := w_1
  have hd := n.2.2.2.2.2.2.2.2.1
  have hd1 := hd.1
  have hd2 := hd.2.1
  have hin : ∀ j : Nat, j < 10 → z = nI j → f_X11_hasDrawn A z y = f_X12_hasDrawn B z y ∧ ok_X12_hasDrawn B z y := by
    intro j hj e
    subst e
    have hy2 := hy.2
    have ty := inb_toInt hy
    have ep : nI 4 * nI j + y = nI (4 * j + ix y) := by
      have e1 : nI 4 * nI j = nI (4 * j) := (Int32.ofNat_mul 4 j).symm
      rw [e1, ← nI_add, ← hy.1]
    constructor
    · unfold f_X11_hasDrawn f_X12_hasDrawn f_X12_isHousehold f_X12_in f_X5_hasDrawnSince
      simp only [lt_x, holder_nI (S := A) (show j < 16 by omega), hDy, ep, ix_nI (show 4 * j + ix y < 2 ^ 31 by omega)]
      have f1 : ¬ nI j < 0 := nI_pos (by omega)
      have f2 : ¬ nI 10 ≤ nI j := nI_ge hj (by omega)
      have f3 : ¬ nI 9 < nI j := by
        rw [w_lt, nI_toInt (by omega), nI_toInt (by omega)]
        omega
      have g1 : ¬ y < 0 := by
        rw [w_lt, w_0]
        omega
      have g2 : ¬ nI 4 ≤ y := by
        rw [w_le, nI_toInt (by omega)]
        omega
      simp only [if_neg f1, if_neg f2, if_neg f3, if_neg g1, if_neg g2, z10, if_false]
      have eday : (B.2.1 kDays 0 - 1).toInt = (B.2.1 kDays 0).toInt - 1 := by
        rw [w_sub, w_1]
        omega
      rcases h.2.2.2.2.1 j (ix y) hj hy2 with ⟨q1, q2⟩ | ⟨q1, q2, q3⟩
      · have g3 : (-9 : Int32) < B.2.1 kDays 0 - 1 := by
          rw [w_lt, eday]
          have : (-9 : Int32).toInt = -9 := by decide
          omega
        have g4 : (0 : Int32) ≤ 0 := by decide
        rw [q1, q2]
        simp only [if_pos g3, if_pos g4, if_true]
      · have ec : (B.2.1 kDrawn (4 * j + ix y) + 1).toInt = (B.2.1 kDrawn (4 * j + ix y)).toInt + 1 := by
          rw [w_add, w_1]
          omega
        have g3 : ¬ B.2.1 kDrawn (4 * j + ix y) + 1 ≤ 0 := by
          rw [w_le, ec, z0]
          omega
        rw [q1]
        simp only [if_neg g3]
        by_cases c : B.2.1 kDrawn (4 * j + ix y) < B.2.1 kDays 0 - 1
        · have g5 : B.2.1 kDrawn (4 * j + ix y) + 1 ≤ B.2.1 kDays 0 - 1 := by
            rw [w_lt, eday] at c
            rw [w_le, ec, eday]
            omega
          simp only [if_pos c, if_pos g5, if_true]
        · have g5 : ¬ B.2.1 kDrawn (4 * j + ix y) + 1 ≤ B.2.1 kDays 0 - 1 := by
            rw [w_lt, eday] at c
            rw [w_le, ec, eday]
            omega
          simp only [if_neg c, if_neg g5, z10, if_false]
    · intro v1 _ _
      rw [ep]
      exact inb_nI (by omega) (by omega)
  by_cases c1 : i = -1
  · have c0 : z < 0 := by
      rw [w_lt, z0]
      omega
    constructor
    · unfold f_X11_hasDrawn f_X12_hasDrawn f_X12_isHousehold f_X12_in
      simp only [lt_x, if_pos c0, if_true]
    · intro v1 e1 c
      unfold f_X12_isHousehold f_X12_in at e1
      simp only [lt_x, if_pos c0] at e1
      exact absurd e1.symm c
  · by_cases c2 : i = 10
    · have c0 : ¬ z < 0 := by
        rw [w_lt, z0]
        omega
      have c3 : nI 10 ≤ z := by
        rw [w_le, e10]
        omega
      have c4 : nI 9 < z := by
        rw [w_lt, e9]
        omega
      constructor
      · unfold f_X11_hasDrawn f_X12_hasDrawn f_X12_isHousehold f_X12_in
        simp only [lt_x, if_neg c0, if_pos c3, if_pos c4, if_true]
      · intro v1 e1 c
        unfold f_X12_isHousehold f_X12_in at e1
        simp only [lt_x, if_neg c0, if_pos c4] at e1
        exact absurd e1.symm c
    · refine hin i.toNat (by omega) (Int32.toInt_inj.mp ?_)
      rw [nI_toInt (by omega)]
      omega
theorem run_step {u v L : Int} {A B : Mem} {d : Int32} {j : Nat} (h : Rel A.1 B.2.1 d) (n : Num u v L B.2.1) (hv : v ≤ 5120000) (hu : u ≤ 5120000) (hL : 0 ≤ L) (hL2 : L ≤ 190000000) (hj : j < 10) : okc_run j A ∧ okr_run j B ∧ Rel (b2_X11_runOnBanks j A).1 (b2_X12_runs j B).2.1 d ∧ Num u v L (b2_X12_runs j B).2.1 ∧ ∀ k, [5, 7, 8, 9, 13, 16, 17, 18, 20, 21, 26, 34, 41, 42, 43, 44, 45].contains k = false → (b2_X12_runs j B).2.1 k = B.2.1 k := by
  have ix16 : inb (nI j) 16 := inb_nI (by omega) (by omega)
  have eij : ix (nI j) = j := ix_nI (by omega)
  have hBo : A.1 kBankOf j = B.2.1 kBankOf j := h.sh kBankOf j (show j < 16 by omega)
  have hAc : A.1 kAccounts j = B.2.1 kAccounts j := h.sh kAccounts j (show j < 16 by omega)
  have hBl : A.1 kBlocked j = B.2.1 kBlocked j := h.sh kBlocked j (show j < 16 by omega)
  obtain ⟨w1, w2, w3, w4, w5, w6⟩ := n.1 j (by omega)
  have ha := w_hi (B.2.1 kAccounts j)
  have ef : (B.2.1 kAccounts j - B.2.1 kBlocked j).toInt = (B.2.1 kAccounts j).toInt - (B.2.1 kBlocked j).toInt := by
    rw [w_sub]
    omega
  have hfree : f_X12_free B (nI j) = B.2.1 kAccounts j - B.2.1 kBlocked j := by
    unfold f_X12_free
    rw [eij]
  have hfreeC : f_X5_free A j = B.2.1 kAccounts j - B.2.1 kBlocked j := by
    unfold f_X5_free
    rw [hAc, hBl]
  have okfree : ok_X12_free B (nI j) := ⟨ix16, ix16⟩
  have hacc : f_X12_hasAccount B (nI j) = if B.2.1 kBankOf j = -1 then 0 else 1 := by
    unfold f_X12_hasAccount
    rw [lt_x, eij]
  have z0 := w_0
  unfold okc_run okr_run b2_X11_runOnBanks b2_X12_runs
  rw [holder_nI (S := A) (show j < 16 by omega), hfreeC, hBo, hacc, hfree]
  by_cases c0 : B.2.1 kAccounts j - B.2.1 kBlocked j ≤ 0
  · refine ⟨fun v3 e3 c => ?_, ⟨ix16, fun v4 e4 c4 => ⟨okfree, fun v7 e7 c7 => ?_⟩⟩, ?_⟩
    · subst e3
      exact absurd c0 c
    · subst e7
      exact absurd c0 c7
    · simp only [lt_x, if_pos c0, ite_self]
      exact ⟨h, n, fun _ _ => trivial⟩
  · rw [w_le, ef, z0] at c0
    have hb1 : B.2.1 kBankOf j ≠ -1 := fun q => by
      have := w2 q
      rw [this, w_0] at c0 w4
      omega
    have hb : inb (B.2.1 kBankOf j) 4 := by
      rcases w1 with q | q
      · exact absurd q hb1
      · exact q.1
    have c0' : ¬ B.2.1 kAccounts j - B.2.1 kBlocked j ≤ 0 := by
      rw [w_le, ef, z0]
      exact c0
    have hSh : A.1 kAreShort (ix (B.2.1 kBankOf j)) = B.2.1 kAreShort (ix (B.2.1 kBankOf j)) := h.sh kAreShort _ hb.2
    obtain ⟨p1, p2⟩ := hasDrawn_ok (z := nI j - 1) (i := (j : Int) - 1) h n hb (by rw [w_sub, w_1, nI_toInt (by omega)]; omega) (by omega) (by omega)
    obtain ⟨q1, q2⟩ := hasDrawn_ok (z := nI j + 1) (i := (j : Int) + 1) h n hb (by rw [w_add, w_1, nI_toInt (by omega)]; omega) (by omega) (by omega)
    obtain ⟨d1, d2, d3, d4, d5, d6, d7⟩ := draws_ok (x := nI j) (m := B.2.1 kAccounts j - B.2.1 kBlocked j) h n hv hu hL hL2 ix16 (by rw [eij]; exact hb) (by rw [ef]; omega) (by rw [eij, ef]; omega)
    rw [eij] at d2 d5
    have eaf : f_X11_isAfraid A (nI j) (B.2.1 kBankOf j) = if B.2.1 kAreShort (ix (B.2.1 kBankOf j)) = 0 then (if f_X12_hasDrawn B (nI j - 1) (B.2.1 kBankOf j) = 0 then (if f_X12_hasDrawn B (nI j + 1) (B.2.1 kBankOf j) = 0 then 0 else 1) else 1) else 1 := by
      unfold f_X11_isAfraid
      simp only [lt_x, bank_in hb, hSh, p1, q1]
    rw [if_neg hb1, eaf]
    generalize hf : B.2.1 kAccounts j - B.2.1 kBlocked j = fr at c0' d1 d2 d3 d4 d5 d6 d7 hfree ⊢
    refine ⟨fun v3 e3 _ v5 e5 _ => ?_, ⟨ix16, fun v4 e4 _ => ⟨okfree, fun v7 e7 _ => ⟨hb, fun _ => ⟨okfree, fun v12 e12 => ?_⟩, fun _ => ⟨p2, fun v17 e17 => ⟨fun _ => ⟨okfree, fun v20 e20 => ?_⟩, fun _ => ⟨q2, fun v25 e25 _ => ⟨okfree, fun v28 e28 => ?_⟩⟩⟩⟩⟩⟩⟩, ?_⟩
    · subst e3
      refine ⟨d1, fun S8 e8 v9 e9 c9 => ?_⟩
      subst e8
      subst e9
      exact d2 c9
    · subst e12
      exact d3
    · subst e20
      exact d3
    · subst e28
      exact d3
    · simp only [lt_x, if_neg c0', z10, if_false]
      have fin : Rel (if fr ≤ (f_X11_drawNotes A (nI j) fr).1 then (f_X11_drawNotes A (nI j) fr).2 else (f_X11_failBank (f_X11_drawNotes A (nI j) fr).2 (B.2.1 kBankOf j)).2).1 (f_X12_draws B (nI j) fr).2.2.1 d ∧ Num u v L (f_X12_draws B (nI j) fr).2.2.1 ∧ ∀ k, [5, 7, 8, 9, 13, 16, 17, 18, 20, 21, 26, 34, 41, 42, 43, 44, 45].contains k = false → (f_X12_draws B (nI j) fr).2.2.1 k = B.2.1 k := ⟨d5, d6, d7⟩
      by_cases s1 : B.2.1 kAreShort (ix (B.2.1 kBankOf j)) = 0
      · simp only [if_pos s1]
        by_cases s2 : f_X12_hasDrawn B (nI j - 1) (B.2.1 kBankOf j) = 0
        · simp only [if_pos s2]
          by_cases s3 : f_X12_hasDrawn B (nI j + 1) (B.2.1 kBankOf j) = 0
          · simp only [if_pos s3, if_true]
            exact ⟨h, n, fun _ _ => trivial⟩
          · simp only [if_neg s3, z10, if_false]
            exact fin
        · simp only [if_neg s2, z10, if_false]
          exact fin
      · simp only [if_neg s1, z10, if_false]
        exact fin
theorem runs_ok {u v L : Int} {A B : Mem} {d : Int32} (h : Rel A.1 B.2.1 d) (n : Num u v L B.2.1) (hv : v ≤ 5120000) (hu : u ≤ 5120000) (hL : 0 ≤ L) (hL2 : L ≤ 190000000) : ok_X11_runOnBanks A ∧ ok_X12_runs B ∧ Rel (f_X11_runOnBanks A).1 (f_X12_runs B).2.1 d ∧ Num u v L (f_X12_runs B).2.1 := by
  have key := iter2 (f := b2_X11_runOnBanks) (g := b2_X12_runs) (a := A) (b := B) (fun j x y => Rel x.1 y.2.1 d ∧ Num u v L y.2.1) (n := 10) ⟨h, n⟩ (fun j hj x y q => by
    obtain ⟨-, -, q1, q2, -⟩ := run_step q.1 q.2 hv hu hL hL2 hj
    exact ⟨q1, q2⟩)
  refine ⟨?_, ?_, ?_⟩
  · intro j hj σ e
    subst e
    obtain ⟨q1, q2⟩ := key j (by omega)
    exact (run_step q1 q2 hv hu hL hL2 hj).1
  · intro j hj σ e
    subst e
    obtain ⟨q1, q2⟩ := key j (by omega)
    exact (run_step q1 q2 hv hu hL hL2 hj).2.1
  · have q := key 10 (Nat.le_refl _)
    unfold f_X11_runOnBanks f_X12_runs
    rw [lt_x, lt_x]
    exact q
