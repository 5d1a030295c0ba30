/-! one account of a bank that fails -/
def minH (ac : Int32) : Int32 := if ac < nI 100 then ac else nI 100
def mostH (ac : Int32) : Int32 := if ac - nI 100 ≤ 0 then 0 else ac - nI 100
def quoR (w lf ab : Int32) : Int32 := if w = 0 then 0 else ((w.toInt64 * lf.toInt64) / ab.toInt64).toInt32
def paidR (ac lf ab : Int32) : Int32 := minH ac + (if quoR (mostH ac) lf ab < mostH ac then quoR (mostH ac) lf ab else mostH ac)
theorem minH_most {ac : Int32} (h0 : 0 ≤ ac.toInt) : ac - minH ac = mostH ac ∧ 0 ≤ (mostH ac).toInt ∧ (mostH ac).toInt ≤ ac.toInt ∧ 0 ≤ (minH ac).toInt ∧ (minH ac).toInt + (mostH ac).toInt = ac.toInt ∧ (minH ac).toInt ≤ 100 := by
  have hh := w_hi ac
  have h00 := w_0
  have h100 := i100_toInt
  have es : (ac - nI 100).toInt = ac.toInt - 100 := by
    rw [w_sub, h100]
    omega
  unfold minH mostH
  by_cases c2 : ac < nI 100
  · have c3 : ac - nI 100 ≤ 0 := by
      rw [w_lt, h100] at c2
      rw [w_le, es, h00]
      omega
    rw [if_pos c2, if_pos c3]
    rw [w_lt, h100] at c2
    refine ⟨by grind, by omega, by omega, by omega, by omega, by omega⟩
  · rw [if_neg c2]
    by_cases c3 : ac - nI 100 ≤ 0
    · rw [if_pos c3]
      rw [w_lt, h100] at c2
      rw [w_le, es, h00] at c3
      refine ⟨?_, by omega, by omega, by omega, by omega, by omega⟩
      apply Int32.toInt_inj.mp
      rw [es, h00]
      omega
    · rw [if_neg c3]
      rw [w_lt, h100] at c2
      refine ⟨rfl, by omega, by omega, by omega, by omega, by omega⟩
theorem share_quo {S : Mem} {w lf ab : Int32} (hw : 0 ≤ w.toInt) (hl : 0 ≤ lf.toInt) (hab : w.toInt ≤ ab.toInt) : f_X11_share S w lf ab = quoR w lf ab ∧ 0 ≤ (quoR w lf ab).toInt := by
  unfold quoR
  by_cases c : w = 0
  · rw [if_pos c, c]
    have h0 := w_0
    refine ⟨?_, by omega⟩
    by_cases c2 : 0 < ab.toInt
    · rw [share_pos c2]
      apply Int32.toInt_inj.mp
      rw [quot_toInt (by omega) hl c2 (by rw [w_0, Int.zero_mul, Int.zero_ediv]; omega), w_0, Int.zero_mul, Int.zero_ediv]
    · unfold f_X11_share
      rw [lt_x, if_neg (by rw [w_lt, w_0]; exact c2)]
  · have hw1 : 0 < w.toInt := by
      have : w.toInt ≠ 0 := fun q => c (Int32.toInt_inj.mp (q.trans w_0.symm))
      omega
    have hab1 : 0 < ab.toInt := by omega
    have hq : w.toInt * lf.toInt / ab.toInt ≤ lf.toInt := by
      have h1 : w.toInt * lf.toInt ≤ ab.toInt * lf.toInt := Int.mul_le_mul_of_nonneg_right hab hl
      have h2 := Int.ediv_le_ediv hab1 h1
      rwa [Int.mul_ediv_cancel_left _ (by omega)] at h2
    have hh := w_hi lf
    rw [if_neg c, share_pos hab1]
    refine ⟨rfl, ?_⟩
    rw [quot_toInt hw hl hab1 (by omega)]
    exact Int.ediv_nonneg (Int.mul_nonneg hw hl) (by omega)
theorem paid_bd {ac lf ab : Int32} (h0 : 0 ≤ ac.toInt) (hl : 0 ≤ lf.toInt) (hab : (mostH ac).toInt ≤ ab.toInt) : 0 ≤ (paidR ac lf ab).toInt ∧ (paidR ac lf ab).toInt ≤ ac.toInt := by
  obtain ⟨m1, m2, m3, m4, m5, m6⟩ := minH_most h0
  obtain ⟨-, q⟩ := share_quo (S := ((fun _ _ => 0), (fun _ _ => 0), 0)) m2 hl hab
  have hh := w_hi ac
  unfold paidR
  by_cases c : quoR (mostH ac) lf ab < mostH ac
  · rw [if_pos c, w_add]
    rw [w_lt] at c
    omega
  · rw [if_neg c, w_add]
    omega
def payX (R : Col) (j : Nat) (h9 p : Int32) : Col := upd2 (upd2 (upd2 R kAccounts j (if h9 = -1 then 0 else p)) kNotes j (R kNotes j + (if h9 = -1 then p else 0))) kBankOf j h9
def PL (u v L : Int) (d x h9 : Int32) (b : Nat) (B : Mem) (j : Nat) (X Y : Int32 × Mem) : Prop := X.1 = Y.1 ∧ Rel X.2.1 Y.2.2.1 (d + (if h9 = -1 then Y.1 else 0)) ∧ NumX x j u v L Y.2.2.1 ∧ (0 ≤ Y.1.toInt ∧ Y.1.toInt ≤ sumI (fun i => (B.2.1 kAccounts i).toInt) j) ∧ noneW x Y.2.2.1 (ix (Y.2.2.1 kPayments 0)) ∧ (∀ i, j ≤ i → Y.2.2.1 kAccounts i = B.2.1 kAccounts i ∧ Y.2.2.1 kBankOf i = B.2.1 kBankOf i) ∧ ∀ k, k ≠ 5 → k ≠ 7 → k ≠ 8 → Y.2.2.1 k = B.2.1 k
theorem pay_step {u v L : Int} {d lf ab h9 : Int32} {b j : Nat} {B : Mem} {σ1 σ2 : Int32 × Int32} {X Y : Int32 × Mem} (hu : u ≤ 5120000) (hb : b < 4) (hj : j < 16) (hf : B.2.1 kHaveFailed b = 1) (h9s : h9 = -1 ∨ (inb h9 4 ∧ B.2.1 kHaveFailed (ix h9) = 0)) (hl : 0 ≤ lf.toInt) (hs1 : σ1.2 = ab) (hs2 : σ2.2 = ab) (hab : B.2.1 kBankOf j = nI b → (mostH (B.2.1 kAccounts j)).toInt ≤ ab.toInt) (hB : ∀ i, i < 16 → 0 ≤ (B.2.1 kAccounts i).toInt) (hBu : sumI (fun i => (B.2.1 kAccounts i).toInt) 16 ≤ 5120000) (h : PL u v L d (nI b) h9 b B j X Y) :
    PL u v L d (nI b) h9 b B (j + 1) (b83_X3_payOut (nI b) σ1 lf h9 j X) (b146_X12_fails (nI b) σ2 lf h9 j Y) ∧ (X.2.1 kBankOf (f_X3_holder X.2 (nI j)) = nI b → ∀ v13, f_X5_sureOfAccount X.2 (f_X3_holder X.2 (nI j)) = v13 → ∀ v14, f_X5_sureOfAccount X.2 (f_X3_holder X.2 (nI j)) = v14 → ∀ v15, f_X11_share X.2 (X.2.1 kAccounts (f_X3_holder X.2 (nI j)) - v13) lf σ1.2 = v15 → ∀ v16, (if v15 < X.2.1 kAccounts (f_X3_holder X.2 (nI j)) - v13 then v15 else X.2.1 kAccounts (f_X3_holder X.2 (nI j)) - v13) = v16 → ∀ v18, (if h9 = -1 then 0 else v14 + v16) = v18 → ok_X3_change X.2 (nI j) (v18 - X.2.1 kAccounts (f_X3_holder X.2 (nI j)))) ∧ (Y.2.2.1 kBankOf j = nI b → ∀ v24, f_X12_most Y.2 (Y.2.2.1 kAccounts j - nI 100) 0 = v24 → ¬ v24 = 0 → ¬ σ2.2.toInt64 = 0) := by
  obtain ⟨h1, h2, h3, ⟨h4, h4b⟩, h5, h6, h7⟩ := h
  obtain ⟨eac, ebo⟩ := h6 j (Nat.le_refl _)
  have ib : inb (nI b) 4 := inb_nI hb (by omega)
  have ij : inb (nI j) 16 := inb_nI hj (by omega)
  have eij : ix (nI j) = j := ix_nI (by omega)
  have xac : X.2.1 kAccounts j = B.2.1 kAccounts j := (h2.sh kAccounts j hj).trans eac
  have xbo : X.2.1 kBankOf j = B.2.1 kBankOf j := (h2.sh kBankOf j hj).trans ebo
  have hac0 := hB j hj
  have esum : sumI (fun i => (B.2.1 kAccounts i).toInt) (j + 1) = sumI (fun i => (B.2.1 kAccounts i).toInt) j + (B.2.1 kAccounts j).toInt := rfl
  have hsum16 : sumI (fun i => (B.2.1 kAccounts i).toInt) (j + 1) ≤ sumI (fun i => (B.2.1 kAccounts i).toInt) 16 := by
    have mono : ∀ m, m ≤ 16 → ∀ i, i ≤ m → sumI (fun i => (B.2.1 kAccounts i).toInt) i ≤ sumI (fun i => (B.2.1 kAccounts i).toInt) m := by
      intro m
      induction m with
      | zero =>
        intro _ i hi
        have : i = 0 := by omega
        subst this
        exact Int.le_refl _
      | succ m ih =>
        intro hm i hi
        by_cases c : i = m + 1
        · subst c
          exact Int.le_refl _
        · have := ih (by omega) i (by omega)
          have hp := hB m (by omega)
          show _ ≤ sumI (fun i => (B.2.1 kAccounts i).toInt) m + (B.2.1 kAccounts m).toInt
          omega
    exact mono 16 (Nat.le_refl _) (j + 1) (by omega)
  rw [holder_nI hj, xac, xbo, eac, ebo, hs1, hs2]
  have hok : B.2.1 kBankOf j = nI b → ∀ v24, f_X12_most Y.2 (B.2.1 kAccounts j - nI 100) 0 = v24 → ¬ v24 = 0 → ¬ ab.toInt64 = 0 := by
    intro c v24 e z z2
    rw [most_eq] at e
    have e2 : mostH (B.2.1 kAccounts j) = v24 := e
    obtain ⟨-, m2, -⟩ := minH_most hac0
    have q := hab c
    have z3 := congrArg Int64.toInt z2
    rw [Int32.toInt_toInt64] at z3
    have z4 : (0 : Int64).toInt = 0 := by decide
    rw [z4] at z3
    refine z ?_
    rw [← e2]
    exact Int32.toInt_inj.mp (by rw [w_0]; omega)
  refine ⟨?_, fun c v13 _ v14 _ v15 _ v16 _ v18 _ => (h2.change ij).1, hok⟩
  unfold b83_X3_payOut b146_X12_fails f_X5_sureOfAccount
  rw [holder_nI hj, xbo, ebo]
  simp only [lt_x, xac, eac, hs1, hs2, least_eq, most_eq]
  by_cases c : B.2.1 kBankOf j = nI b
  · simp only [if_pos c]
    obtain ⟨m1, m2, m3, m4, m5, m6⟩ := minH_most hac0
    obtain ⟨q1, q2⟩ := share_quo (S := X.2) m2 hl (hab c)
    obtain ⟨p1, p2⟩ := paid_bd hac0 hl (hab c)
    have eqC : (if B.2.1 kAccounts j < nI 100 then B.2.1 kAccounts j else nI 100) = minH (B.2.1 kAccounts j) := rfl
    have eqM : (if B.2.1 kAccounts j - nI 100 ≤ 0 then 0 else B.2.1 kAccounts j - nI 100) = mostH (B.2.1 kAccounts j) := rfl
    have eqQ : (if mostH (B.2.1 kAccounts j) = 0 then 0 else (((mostH (B.2.1 kAccounts j)).toInt64 * lf.toInt64) / ab.toInt64).toInt32) = quoR (mostH (B.2.1 kAccounts j)) lf ab := rfl
    have eqP : minH (B.2.1 kAccounts j) + (if quoR (mostH (B.2.1 kAccounts j)) lf ab < mostH (B.2.1 kAccounts j) then quoR (mostH (B.2.1 kAccounts j)) lf ab else mostH (B.2.1 kAccounts j)) = paidR (B.2.1 kAccounts j) lf ab := rfl
    simp only [eqC, eqM, m1, q1, eqQ, eqP]
    revert p1 p2
    generalize paidR (B.2.1 kAccounts j) lf ab = p
    intro p1 p2
    obtain ⟨-, -, k1, r1⟩ := h2.change (v := (if h9 = -1 then 0 else p) - B.2.1 kAccounts j) ij
    rw [eij, eac] at r1
    have e0 : B.2.1 kAccounts j + ((if h9 = -1 then 0 else p) - B.2.1 kAccounts j) = (if h9 = -1 then 0 else p) := by grind
    rw [e0] at r1
    have xn : (f_X3_change X.2 (nI j) ((if h9 = -1 then 0 else p) - B.2.1 kAccounts j)).1 kNotes j = Y.2.2.1 kNotes j := (r1.sh kNotes j hj).trans rfl
    have xf : (f_X3_change X.2 (nI j) ((if h9 = -1 then 0 else p) - B.2.1 kAccounts j)).1 kForged j = Y.2.2.1 kForged j := (r1.sh kForged j hj).trans rfl
    have eT : f_X5_takeNotes (f_X3_change X.2 (nI j) ((if h9 = -1 then 0 else p) - B.2.1 kAccounts j)) j (if h9 = -1 then p else 0) 0 = (upd2 (upd2 (f_X3_change X.2 (nI j) ((if h9 = -1 then 0 else p) - B.2.1 kAccounts j)).1 kNotes j (Y.2.2.1 kNotes j + (if h9 = -1 then p else 0))) kForged j (Y.2.2.1 kForged j), (f_X3_change X.2 (nI j) ((if h9 = -1 then 0 else p) - B.2.1 kAccounts j)).2) := by
      unfold f_X5_takeNotes
      simp only [lt_x, xn]
      have : upd2 (f_X3_change X.2 (nI j) ((if h9 = -1 then 0 else p) - B.2.1 kAccounts j)).1 kNotes j (Y.2.2.1 kNotes j + (if h9 = -1 then p else 0)) kForged j = Y.2.2.1 kForged j := (upd2_ne (by decide)).trans xf
      rw [this, Int32.add_zero]
    rw [eT]
    have r2 := r1.notes (v := Y.2.2.1 kNotes j + (if h9 = -1 then p else 0)) hj rfl
    have r3 := r2.forged (v := Y.2.2.1 kForged j) (w := Y.2.2.1 kForged j) hj rfl
    rw [show upd2 (upd2 Y.2.2.1 kAccounts j (if h9 = -1 then 0 else p)) kNotes j (Y.2.2.1 kNotes j + (if h9 = -1 then p else 0)) kForged j = Y.2.2.1 kForged j from rfl, show upd2 Y.2.2.1 kAccounts j (if h9 = -1 then 0 else p) kNotes j = Y.2.2.1 kNotes j from rfl] at r3
    have e6 : upd2 (upd2 (upd2 Y.2.2.1 kAccounts j (if h9 = -1 then 0 else p)) kNotes j (Y.2.2.1 kNotes j + (if h9 = -1 then p else 0))) kForged j (Y.2.2.1 kForged j) = upd2 (upd2 Y.2.2.1 kAccounts j (if h9 = -1 then 0 else p)) kNotes j (Y.2.2.1 kNotes j + (if h9 = -1 then p else 0)) := uu_same
    rw [e6] at r3
    have np := h3.2.2.1
    have hnone : ∀ q, q < ix (Y.2.2.1 kPayments 0) → Y.2.2.1 kStates q = 0 → ix (Y.2.2.1 kFroms q) ≠ j ∧ ix (Y.2.2.1 kTos q) ≠ j := fun q hq hs => by
      obtain ⟨z1, z2⟩ := h5 q hq hs
      exact ⟨fun z => z1 (by rw [z, ebo]; exact c), fun z => z2 (by rw [z, ebo]; exact c)⟩
    have r4 := r3.bank (i := j) (v := h9) rfl hnone
    have h9x : h9 ≠ nI b := fun z => by
      rcases h9s with q | ⟨q, q3⟩
      · rw [q] at z
        exact inb_ne ib z.symm
      · rw [z, ix_nI (by omega), hf] at q3
        exact absurd q3 (by decide)
    have ehf : Y.2.2.1 kHaveFailed = B.2.1 kHaveFailed := h7 kHaveFailed (by decide) (by decide) (by decide)
    refine ⟨by rw [h1], ?_, ?_, ?_, ?_, fun i hi => ⟨?_, ?_⟩, fun k k1 k2 k3 => ((u_ne k2).trans ((u_ne k1).trans (u_ne k3))).trans (h7 k k1 k2 k3)⟩
    · refine Rel.d_eq r4 ?_
      show _ = d + (if h9 = -1 then Y.1 + p else 0)
      by_cases z : h9 = -1
      · simp only [z, if_true]
        grind
      · simp only [z, if_false]
        grind
    · obtain ⟨nh, nu, -, nb, nv, nf, nl, nd, ns, nw, nq⟩ := h3
      have un := nh j hj
      have hnh : ∀ i, i < 16 → 0 ≤ (Y.2.2.1 kAccounts i).toInt ∧ 0 ≤ (Y.2.2.1 kNotes i).toInt := fun i hi => by
        obtain ⟨-, -, w1, w2, w3, w4, -⟩ := nh i hi
        omega
      have hone := uS_one hnh hj
      have z0 := w_0
      have en : (Y.2.2.1 kNotes j + (if h9 = -1 then p else 0)).toInt = (Y.2.2.1 kNotes j).toInt + (if h9 = -1 then p.toInt else 0) := by
        rw [eac] at hone
        rw [w_add]
        split
        · omega
        · rw [w_0]
          have := w_hi (Y.2.2.1 kNotes j)
          omega
      have ea : (if h9 = -1 then (0 : Int32) else p).toInt = if h9 = -1 then 0 else p.toInt := by
        split
        · exact w_0
        · rfl
      refine ⟨?_, ?_, ?_, nb, nv, nf, nl, nd, ns, nw, nq⟩
      · show zHx (nI b) (j + 1) (ru (Y.2.2.1 kBankOf) j h9) (ru (Y.2.2.1 kAccounts) j (if h9 = -1 then 0 else p)) (Y.2.2.1 kBlocked) (Y.2.2.1 kForged) (ru (Y.2.2.1 kNotes) j (Y.2.2.1 kNotes j + (if h9 = -1 then p else 0))) (Y.2.2.1 kHaveFailed)
        intro i hi
        by_cases ci : i = j
        · subst ci
          rw [ru_eq, ru_eq, ru_eq, en, ea]
          obtain ⟨w1, w2, w3, w4, w5, w6, w7⟩ := un
          have wb : Y.2.2.1 kBlocked i = 0 := w7 (by rw [ebo]; exact c)
          refine ⟨?_, fun z => ?_, by rw [wb, w_0]; omega, by rw [wb, w_0]; split <;> omega, w5, by split <;> omega, fun z => absurd z h9x⟩
          · rcases h9s with q | ⟨q, q2⟩
            · exact Or.inl q
            · exact Or.inr ⟨q, Or.inl (by rw [ehf]; exact q2)⟩
          · rw [if_pos z]
        · rw [ru_ne ci, ru_ne ci, ru_ne ci]
          obtain ⟨w1, w2, w3⟩ := nh i hi
          refine ⟨?_, w2, w3⟩
          rcases w1 with w1 | ⟨w1, w4⟩
          · exact Or.inl w1
          · refine Or.inr ⟨w1, ?_⟩
            rcases w4 with w4 | ⟨w4, w5⟩
            · exact Or.inl w4
            · exact Or.inr ⟨w4, by omega⟩
      · show uS (ru (Y.2.2.1 kAccounts) j (if h9 = -1 then 0 else p)) (ru (Y.2.2.1 kNotes) j (Y.2.2.1 kNotes j + (if h9 = -1 then p else 0))) ≤ u
        rw [uS_ac hj, uS_no hj, en, ea, eac]
        split <;> omega
      · show zP (Y.2.2.1 kPayments) (Y.2.2.1 kFroms) (Y.2.2.1 kTos) (Y.2.2.1 kStates) (Y.2.2.1 kAmounts) (ru (Y.2.2.1 kBankOf) j h9) (Y.2.2.1 kBlocked)
        refine ⟨np.1, fun q hq => ⟨(np.2.1 q hq).1, (np.2.1 q hq).2.1, fun hs => ?_⟩, np.2.2⟩
        obtain ⟨z1, z2⟩ := hnone q hq hs
        rw [ru_ne z1, ru_ne z2]
        exact (np.2.1 q hq).2.2 hs
    · show 0 ≤ (Y.1 + p).toInt ∧ (Y.1 + p).toInt ≤ sumI (fun i => (B.2.1 kAccounts i).toInt) (j + 1)
      rw [esum] at hsum16 ⊢
      rw [w_add]
      omega
    · intro q hq hs
      obtain ⟨z1, z2⟩ := hnone q hq hs
      show ru (Y.2.2.1 kBankOf) j h9 (ix (Y.2.2.1 kFroms q)) ≠ nI b ∧ ru (Y.2.2.1 kBankOf) j h9 (ix (Y.2.2.1 kTos q)) ≠ nI b
      rw [ru_ne z1, ru_ne z2]
      exact h5 q hq hs
    · show ru (Y.2.2.1 kAccounts) j (if h9 = -1 then 0 else p) i = _
      rw [ru_ne (by omega)]
      exact (h6 i (by omega)).1
    · show ru (Y.2.2.1 kBankOf) j h9 i = _
      rw [ru_ne (by omega)]
      exact (h6 i (by omega)).2
  · simp only [if_neg c]
    refine ⟨h1, h2, ?_, ⟨h4, ?_⟩, h5, fun i hi => h6 i (by omega), h7⟩
    · obtain ⟨nh, nrest⟩ := h3
      refine ⟨fun i hi => ?_, nrest⟩
      obtain ⟨w1, w2, w3⟩ := nh i hi
      refine ⟨?_, w2, w3⟩
      rcases w1 with w1 | ⟨w1, w4⟩
      · exact Or.inl w1
      · refine Or.inr ⟨w1, ?_⟩
        rcases w4 with w4 | ⟨w4, w5⟩
        · exact Or.inl w4
        · refine Or.inr ⟨w4, ?_⟩
          by_cases z : i = j
          · subst z
            rw [ebo] at w4
            exact absurd w4 c
          · omega
    · show Y.1.toInt ≤ _
      rw [esum]
      omega
