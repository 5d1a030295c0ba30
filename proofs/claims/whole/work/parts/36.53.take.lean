/-! bids are taken: one bid -/
def okr_tk (σ13 : Int32 × Int32 × Int32 × Mem) : Prop := (((¬ (σ13.2.2.1 = (-1))) → (((¬ (σ13.1 ≤ 0)) → ((inb σ13.2.2.1 12) ∧ (∀ v18 : Int32, (f_X12_least σ13.2.2.2 σ13.1 (σ13.2.2.2.2.1 kBidNumbers (ix σ13.2.2.1))) = v18 → ((inb σ13.2.2.1 12) ∧ (ok_X12_up σ13.2.2.2 (v18 * (σ13.2.2.2.2.1 kBidPrices (ix σ13.2.2.1))) (nI 100)) ∧ (∀ v21 : Int32, (f_X12_up σ13.2.2.2 (v18 * (σ13.2.2.2.2.1 kBidPrices (ix σ13.2.2.1))) (nI 100)) = v21 → ((inb σ13.2.2.1 12) ∧ (∀ S23 : Mem, ((σ13.2.2.2.1, upd2 σ13.2.2.2.2.1 kAreSeen (ix σ13.2.2.1) 1, σ13.2.2.2.2.2)) = S23 → ((inb σ13.2.2.1 12) ∧ (inb (S23.2.1 kBidBanks (ix σ13.2.2.1)) 4) ∧ (inb σ13.2.2.1 12) ∧ (inb (S23.2.1 kBidBanks (ix σ13.2.2.1)) 4) ∧ ((¬ ((S23.2.1 kReserves (ix (S23.2.1 kBidBanks (ix σ13.2.2.1)))) < ((S23.2.1 kPromised (ix (S23.2.1 kBidBanks (ix σ13.2.2.1)))) + v21))) → ((inb σ13.2.2.1 12) ∧ (inb (S23.2.1 kBidBanks (ix σ13.2.2.1)) 4) ∧ (inb (S23.2.1 kBidBanks (ix σ13.2.2.1)) 4) ∧ (∀ S32 : Mem, ((S23.1, upd2 S23.2.1 kPromised (ix (S23.2.1 kBidBanks (ix σ13.2.2.1))) ((S23.2.1 kPromised (ix (S23.2.1 kBidBanks (ix σ13.2.2.1)))) + v21), S23.2.2)) = S32 → ((inb σ13.2.2.1 12) ∧ (∀ S34 : Mem, ((S32.1, upd2 S32.2.1 kBidGets (ix σ13.2.2.1) v18, S32.2.2)) = S34 → ((inb σ13.2.2.1 12))))))) ∧ (∀ v36 : Int32, (if (S23.2.1 kReserves (ix (S23.2.1 kBidBanks (ix σ13.2.2.1)))) < ((S23.2.1 kPromised (ix (S23.2.1 kBidBanks (ix σ13.2.2.1)))) + v21) then (σ13.1) else (lt ((S23.1, upd2 S23.2.1 kPromised (ix (S23.2.1 kBidBanks (ix σ13.2.2.1))) ((S23.2.1 kPromised (ix (S23.2.1 kBidBanks (ix σ13.2.2.1)))) + v21), S23.2.2)) (fun (S32 : Mem) => lt ((S32.1, upd2 S32.2.1 kBidGets (ix σ13.2.2.1) v18, S32.2.2)) (fun (S34 : Mem) => σ13.1 - v18)))) = v36 → ∀ v37 : Int32, (if (S23.2.1 kReserves (ix (S23.2.1 kBidBanks (ix σ13.2.2.1)))) < ((S23.2.1 kPromised (ix (S23.2.1 kBidBanks (ix σ13.2.2.1)))) + v21) then (σ13.2.1) else (lt ((S23.1, upd2 S23.2.1 kPromised (ix (S23.2.1 kBidBanks (ix σ13.2.2.1))) ((S23.2.1 kPromised (ix (S23.2.1 kBidBanks (ix σ13.2.2.1)))) + v21), S23.2.2)) (fun (S32 : Mem) => lt ((S32.1, upd2 S32.2.1 kBidGets (ix σ13.2.2.1) v18, S32.2.2)) (fun (S34 : Mem) => S34.2.1 kBidPrices (ix σ13.2.2.1))))) = v37 → ∀ S38 : Mem, (if (S23.2.1 kReserves (ix (S23.2.1 kBidBanks (ix σ13.2.2.1)))) < ((S23.2.1 kPromised (ix (S23.2.1 kBidBanks (ix σ13.2.2.1)))) + v21) then (S23) else (lt ((S23.1, upd2 S23.2.1 kPromised (ix (S23.2.1 kBidBanks (ix σ13.2.2.1))) ((S23.2.1 kPromised (ix (S23.2.1 kBidBanks (ix σ13.2.2.1)))) + v21), S23.2.2)) (fun (S32 : Mem) => lt ((S32.1, upd2 S32.2.1 kBidGets (ix σ13.2.2.1) v18, S32.2.2)) (fun (S34 : Mem) => S34)))) = S38 → ((ok_X12_nextBid S38 ))))))))))))))
def un (se : Row) : Row := fun p => if se p = 0 then 1 else 0
theorem un_ru {se : Row} {q : Nat} : un (ru se q 1) = ru (un se) q 0 := by
  funext p
  unfold un
  by_cases c : p = q
  · subst c
    rw [ru_eq, ru_eq, if_neg (by decide)]
  · rw [ru_ne c, ru_ne c]
def TI (R : Col) (n : Nat) (N : Int) (se ge pr : Row) (left least : Int32) : Prop :=
  (∀ q, q < n → 0 ≤ (ge q).toInt ∧ (ge q).toInt ≤ 1000 ∧ (se q = 0 → ge q = 0)) ∧ 0 ≤ left.toInt ∧ left.toInt + sumI (fun q => (ge q).toInt) n = N ∧
  (∀ b, b < 4 → (pr b).toInt = sumI (fun q => if R kBidBanks q = nI b then cst (ge q).toInt (R kBidPrices q).toInt else 0) n ∧ (pr b).toInt ≤ (R kReserves b).toInt) ∧
  ((least = -1 ∧ ∀ q, q < n → ge q = 0) ∨ (50 ≤ least.toInt ∧ least.toInt ≤ 100 ∧ (∀ q, q < n → se q = 0 → (R kBidPrices q).toInt ≤ least.toInt) ∧ ∀ q, q < n → ge q ≠ 0 → least.toInt ≤ (R kBidPrices q).toInt))
def TB (C R : Col) (n : Nat) (N : Int) (se ge pr : Row) (j : Nat) (X : Int32 × Int32 × Mem) (Y : Int32 × Int32 × Int32 × Mem) : Prop :=
  (∀ k, k ≠ 23 → k ≠ 46 → k ≠ 47 → X.2.2.1 k = C k) ∧ (∀ k, k ≠ 23 → k ≠ 46 → k ≠ 47 → Y.2.2.2.2.1 k = R k) ∧
  (∀ q, q < n → X.2.2.1 kAreSeen q = se q ∧ Y.2.2.2.2.1 kAreSeen q = se q ∧ X.2.2.1 kBidGets q = ge q ∧ Y.2.2.2.2.1 kBidGets q = ge q) ∧
  (∀ b, b < 4 → X.2.2.1 kPromised b = pr b ∧ Y.2.2.2.2.1 kPromised b = pr b) ∧ Y.1 = X.2.1 ∧ Y.2.1 = X.1 ∧ Y.2.2.1 = nx (hb se (R kBidPrices) n) ∧ TI R n N se ge pr X.2.1 X.1 ∧ cn (un se) n + j = n
theorem cst_0 (p : Int) : cst 0 p = 0 := by
  unfold cst
  rw [Int.zero_mul]
  rfl
theorem tk_step {u v L N : Int} {C R : Col} {d : Int32} {n j : Nat} {se ge pr : Row} {X : Int32 × Int32 × Mem} {Y : Int32 × Int32 × Int32 × Mem} (h : Rel C R d) (nn : Num u v L R) (hv : v ≤ 5120000) (hn : ix (R kBids 0) = n) (hj : j < n) (t : TB C R n N se ge pr j X Y) (hl : ¬ X.2.1 ≤ 0) :
    ok_X2_highestBidNotTried X.2.2 ∧ okr_tk Y ∧ ∃ se2 ge2 pr2 X2 Y2, b64_X2_takeBids j X = .inl X2 ∧ b67_X12_takesBids j Y = .inl Y2 ∧ TB C R n N se2 ge2 pr2 (j + 1) X2 Y2 := by
  obtain ⟨t1, t2, t3, t4, t5, t6, t7, ⟨i1, i2, i3, i4, i5⟩, t9⟩ := t
  have nd := nn.2.2.2.2.2.2.2.1
  rw [show zD _ _ _ _ _ = zD (R kBids) (R kBidBanks) (R kBidPrices) (R kBidNumbers) (R kHaveFailed) from rfl] at nd
  have hn13 := nd.1.2
  have hn12 : n ≤ 12 := by omega
  have hbids := fun q (hq : q < n) => nd.2.1 q (by omega)
  have h12 := nd.2.2
  have hxB : X.2.2.1 kBids 0 = nI n := by
    rw [t1 kBids (by decide) (by decide) (by decide), h.sh kBids 0 (by decide), ← hn]
    exact nd.1.1
  have hyB : Y.2.2.2.2.1 kBids 0 = nI n := by
    rw [t2 kBids (by decide) (by decide) (by decide), ← hn]
    exact nd.1.1
  have hxP : ∀ q, q < 13 → X.2.2.1 kBidPrices q = R kBidPrices q := fun q hq => by
    rw [t1 kBidPrices (by decide) (by decide) (by decide)]
    exact h.sh kBidPrices q hq
  have hyP : Y.2.2.2.2.1 kBidPrices = R kBidPrices := t2 kBidPrices (by decide) (by decide) (by decide)
  obtain ⟨c1, c2⟩ := hb_C (S := X.2.2) (se := se) (bp := R kBidPrices) hn12 hxB (fun q hq => (t3 q hq).1) hxP
  refine ⟨c2, ?_⟩
  have hsp := hb_spec (se := se) h12 n hn12 (fun q hq => (hbids q hq).2.2.1)
  have hq : hb se (R kBidPrices) n < n ∧ se (hb se (R kBidPrices) n) = 0 ∧ ∀ q, q < n → se q = 0 → (R kBidPrices q).toInt ≤ (R kBidPrices (hb se (R kBidPrices) n)).toInt := by
    rcases hsp with ⟨-, z⟩ | z
    · exfalso
      have : ∀ m, m ≤ n → cn (un se) m = 0 := by
        intro m
        induction m with
        | zero => intro _; rfl
        | succ m ih =>
          intro hm
          show cn (un se) m + (if un se m = 0 then 0 else 1) = 0
          rw [ih (by omega)]
          unfold un
          rw [if_neg (z m (by omega)), if_pos rfl]
      have := this n (Nat.le_refl _)
      omega
    · exact z
  have hkx : nx (hb se (R kBidPrices) n) = nI (hb se (R kBidPrices) n) := by
    unfold nx
    rw [if_neg (by omega)]
  rw [hkx] at t7
  revert hq c1 t7
  generalize hidx : hb se (R kBidPrices) n = q
  intro t7 c1 hq
  obtain ⟨q1, q2, q3⟩ := hq
  obtain ⟨b1, b2, b3, b4, b5, b6⟩ := hbids q q1
  have hk1 : ¬ nI q = -1 := inb_ne (inb_nI (show q < 200 by omega) (by omega))
  have eq : ix (nI q) = q := ix_nI (by omega)
  have hge0 : ge q = 0 := (i1 q q1).2.2 q2
  have hl0 : 0 < X.2.1.toInt := by
    rw [w_le, w_0] at hl
    omega
  have xN : X.2.2.1 kBidNumbers q = R kBidNumbers q := by
    rw [t1 kBidNumbers (by decide) (by decide) (by decide)]
    exact h.sh kBidNumbers q (show q < 12 by omega)
  have xB : X.2.2.1 kBidBanks q = R kBidBanks q := by
    rw [t1 kBidBanks (by decide) (by decide) (by decide)]
    exact h.sh kBidBanks q (show q < 12 by omega)
  have xR : X.2.2.1 kReserves (ix (R kBidBanks q)) = R kReserves (ix (R kBidBanks q)) := by
    rw [t1 kReserves (by decide) (by decide) (by decide)]
    exact h.sh kReserves _ b1.2
  have yN : Y.2.2.2.2.1 kBidNumbers q = R kBidNumbers q := by rw [t2 kBidNumbers (by decide) (by decide) (by decide)]
  have yB : Y.2.2.2.2.1 kBidBanks q = R kBidBanks q := by rw [t2 kBidBanks (by decide) (by decide) (by decide)]
  have yR : Y.2.2.2.2.1 kReserves (ix (R kBidBanks q)) = R kReserves (ix (R kBidBanks q)) := by rw [t2 kReserves (by decide) (by decide) (by decide)]
  have xPr := (t4 _ b1.2).1
  have yPr := (t4 _ b1.2).2
  have hv15 : 1 ≤ (if X.2.1 < R kBidNumbers q then X.2.1 else R kBidNumbers q).toInt ∧ (if X.2.1 < R kBidNumbers q then X.2.1 else R kBidNumbers q).toInt ≤ 1000 ∧ (if X.2.1 < R kBidNumbers q then X.2.1 else R kBidNumbers q).toInt ≤ X.2.1.toInt := by
    by_cases c : X.2.1 < R kBidNumbers q
    · rw [if_pos c]
      rw [w_lt] at c
      omega
    · rw [if_neg c]
      rw [w_lt] at c
      omega
  have hcost := fun (S S2 : Mem) => up_pct (S := S) (S2 := S2) (g := if X.2.1 < R kBidNumbers q then X.2.1 else R kBidNumbers q) (p := R kBidPrices q) (by omega) (by omega) (by omega) (by omega)
  have hct := fun (S2 : Mem) => up_toInt (S := S2) (g := if X.2.1 < R kBidNumbers q then X.2.1 else R kBidNumbers q) (p := R kBidPrices q) (by omega) (by omega) (by omega) (by omega)
  have hcb := cst_bd (g := (if X.2.1 < R kBidNumbers q then X.2.1 else R kBidNumbers q).toInt) (p := (R kBidPrices q).toInt) (by omega) (by omega) (by omega) (by omega)
  have hokr : okr_tk Y := by
    have i12 : inb (nI q) 12 := inb_nI (by omega) (by omega)
    intro _ _
    rw [t7]
    refine ⟨i12, fun v18 _ => ⟨i12, (show ¬ nI 100 = 0 by decide), fun v21 _ => ⟨i12, fun S23 e23 => ?_⟩⟩⟩
    subst e23
    rw [eq]
    show inb (nI q) 12 ∧ inb (Y.2.2.2.2.1 kBidBanks q) 4 ∧ _
    refine ⟨i12, by rw [yB]; exact b1, i12, ?_, fun _ => ⟨i12, ?_, ?_, fun S32 _ => ⟨i12, fun S34 _ => i12⟩⟩, fun v36 _ v37 _ S38 e38 => ?_⟩
    · show inb (Y.2.2.2.2.1 kBidBanks q) 4
      rw [yB]
      exact b1
    · show inb (Y.2.2.2.2.1 kBidBanks q) 4
      rw [yB]
      exact b1
    · show inb (Y.2.2.2.2.1 kBidBanks q) 4
      rw [yB]
      exact b1
    · have hh : ∀ S : Mem, (∀ k, k ≠ 23 → k ≠ 46 → k ≠ 47 → S.2.1 k = R k) → ok_X12_nextBid S := fun S hS => by
        exact (hb_R (S := S) (se := S.2.1 kAreSeen) (bp := R kBidPrices) hn12 (by rw [hS kBids (by decide) (by decide) (by decide), ← hn]; exact nd.1.1) (fun _ _ => rfl) (fun _ _ => by rw [hS kBidPrices (by decide) (by decide) (by decide)]) h12 (fun q hq => (hbids q hq).2.2.1)).2
      rw [← e38]
      split
      · exact hh _ (fun k k1 k2 k3 => (u_ne k3).trans (t2 k k1 k2 k3))
      · simp only [lt_x]
        exact hh _ (fun k k1 k2 k3 => ((u_ne k2).trans ((u_ne k1).trans (u_ne k3))).trans (t2 k k1 k2 k3))
  refine ⟨hokr, ?_⟩
  unfold b64_X2_takeBids b67_X12_takesBids
  rw [if_neg hl, c1, t7, if_neg hk1, t5, if_neg hl, eq]
  have xS : ∀ (w : Int32) (k i : Nat), k ≠ 47 → upd2 X.2.2.1 kAreSeen q w k i = X.2.2.1 k i := fun w k i hk => upd2_ne hk
  have yS : ∀ (w : Int32) (k i : Nat), k ≠ 47 → upd2 Y.2.2.2.2.1 kAreSeen q w k i = Y.2.2.2.2.1 k i := fun w k i hk => upd2_ne hk
  have xS2 : ∀ (w z : Int32) (i k : Nat), k ≠ 47 → k ≠ 23 → upd2 (upd2 X.2.2.1 kAreSeen q w) kPromised i z k = X.2.2.1 k := fun w z i k hk hk2 => (u_ne hk2).trans (u_ne hk)
  simp only [lt_x, least_eq]
  simp only [xS _ kBidNumbers _ (by decide), xS _ kBidPrices _ (by decide), xS _ kBidBanks _ (by decide), yS _ kBidBanks _ (by decide), xN, yN, xB, yB, hxP q (by omega), hyP, bank_in b1, xS _ kReserves _ (by decide), yS _ kReserves _ (by decide), xR, yR, xS _ kPromised _ (by decide), yS _ kPromised _ (by decide), xPr, yPr]
  rw [hcost _ Y.2.2.2]
  have hct := hct Y.2.2.2
  revert hct hcb hv15
  generalize (if X.2.1 < R kBidNumbers q then X.2.1 else R kBidNumbers q) = g
  intro hv15 hcb hct
  revert hct
  generalize f_X12_up Y.2.2.2 (g * R kBidPrices q) (nI 100) = co
  intro hct
  have hre := re_hi nn hv b1.2
  obtain ⟨i4a, i4b⟩ := i4 _ b1.2
  have hpr0 : 0 ≤ (pr (ix (R kBidBanks q))).toInt := by
    rw [i4a]
    refine sumI_nonneg n (fun r hr => ?_)
    obtain ⟨g1, g2, -⟩ := i1 r hr
    obtain ⟨-, -, p1, p2, -, -⟩ := hbids r hr
    have := cst_bd (g := (ge r).toInt) (p := (R kBidPrices r).toInt) g1 (by omega) (by omega) p2
    split <;> omega
  have epc : (pr (ix (R kBidBanks q)) + co).toInt = (pr (ix (R kBidBanks q))).toInt + co.toInt := by
    rw [w_add]
    omega
  have hcn : cn (un (ru se q 1)) n + (j + 1) = n := by
    rw [un_ru]
    have := cn_off (ch := un se) (q := q) (by unfold un; rw [if_pos q2]; decide) n q1
    omega
  by_cases c : R kReserves (ix (R kBidBanks q)) < pr (ix (R kBidBanks q)) + co
  · simp only [if_pos c]
    have hb2 := (hb_R (S := (Y.2.2.2.1, upd2 Y.2.2.2.2.1 kAreSeen q 1, Y.2.2.2.2.2)) (se := ru se q 1) (bp := R kBidPrices) hn12 hyB (fun r hr => by
      show ru (Y.2.2.2.2.1 kAreSeen) q 1 r = _
      by_cases z : r = q
      · subst z
        rw [ru_eq, ru_eq]
      · rw [ru_ne z, ru_ne z]
        exact (t3 r hr).2.1) (fun r hr => by rw [← hyP]; rfl) h12 (fun r hr => (hbids r hr).2.2.1)).1
    refine ⟨ru se q 1, ge, pr, _, _, rfl, rfl, fun k k1 k2 k3 => (u_ne k3).trans (t1 k k1 k2 k3), fun k k1 k2 k3 => (u_ne k3).trans (t2 k k1 k2 k3), fun r hr => ?_, fun b hb4 => t4 b hb4, rfl, t6, hb2, ⟨fun r hr => ?_, i2, i3, i4, ?_⟩, hcn⟩
    · obtain ⟨a1, a2, a3, a4⟩ := t3 r hr
      refine ⟨?_, ?_, a3, a4⟩
      · show ru (X.2.2.1 kAreSeen) q 1 r = _
        by_cases z : r = q
        · subst z
          rw [ru_eq, ru_eq]
        · rw [ru_ne z, ru_ne z]
          exact a1
      · show ru (Y.2.2.2.2.1 kAreSeen) q 1 r = _
        by_cases z : r = q
        · subst z
          rw [ru_eq, ru_eq]
        · rw [ru_ne z, ru_ne z]
          exact a2
    · obtain ⟨a1, a2, a3⟩ := i1 r hr
      refine ⟨a1, a2, fun hs => ?_⟩
      by_cases z : r = q
      · subst z
        exact hge0
      · rw [ru_ne z] at hs
        exact a3 hs
    · rcases i5 with i5 | ⟨e1, e2, e3, e4⟩
      · exact Or.inl i5
      · refine Or.inr ⟨e1, e2, fun r hr hs => ?_, e4⟩
        by_cases z : r = q
        · subst z
          rw [ru_eq] at hs
          exact absurd hs (by decide)
        · rw [ru_ne z] at hs
          exact e3 r hr hs
  · simp only [if_neg c]
    rw [w_lt, epc] at c
    have yP2 : upd2 (upd2 (upd2 Y.2.2.2.2.1 kAreSeen q 1) kPromised (ix (R kBidBanks q)) (pr (ix (R kBidBanks q)) + co)) kBidGets q g kBidPrices q = R kBidPrices q := by
      rw [← hyP]
      rfl
    have xP2 : upd2 (upd2 (upd2 X.2.2.1 kAreSeen q 1) kPromised (ix (R kBidBanks q)) (pr (ix (R kBidBanks q)) + co)) kBidGets q g kBidPrices q = R kBidPrices q := hxP q (by omega)
    simp only [yP2, xP2]
    have hb2 := (hb_R (S := (Y.2.2.2.1, upd2 (upd2 (upd2 Y.2.2.2.2.1 kAreSeen q 1) kPromised (ix (R kBidBanks q)) (pr (ix (R kBidBanks q)) + co)) kBidGets q g, Y.2.2.2.2.2)) (se := ru se q 1) (bp := R kBidPrices) hn12 hyB (fun r hr => by
      show ru (Y.2.2.2.2.1 kAreSeen) q 1 r = _
      by_cases z : r = q
      · subst z
        rw [ru_eq, ru_eq]
      · rw [ru_ne z, ru_ne z]
        exact (t3 r hr).2.1) (fun r hr => by rw [← hyP]; rfl) h12 (fun r hr => (hbids r hr).2.2.1)).1
    refine ⟨ru se q 1, ru ge q g, ru pr (ix (R kBidBanks q)) (pr (ix (R kBidBanks q)) + co), _, _, rfl, rfl, fun k k1 k2 k3 => ((u_ne k2).trans ((u_ne k1).trans (u_ne k3))).trans (t1 k k1 k2 k3), fun k k1 k2 k3 => ((u_ne k2).trans ((u_ne k1).trans (u_ne k3))).trans (t2 k k1 k2 k3), fun r hr => ?_, fun b hb4 => ?_, rfl, rfl, hb2, ⟨fun r hr => ?_, ?_, ?_, fun b hb4 => ?_, ?_⟩, hcn⟩
    · obtain ⟨a1, a2, a3, a4⟩ := t3 r hr
      show ru (X.2.2.1 kAreSeen) q 1 r = ru se q 1 r ∧ ru (Y.2.2.2.2.1 kAreSeen) q 1 r = ru se q 1 r ∧ ru (X.2.2.1 kBidGets) q g r = ru ge q g r ∧ ru (Y.2.2.2.2.1 kBidGets) q g r = ru ge q g r
      by_cases z : r = q
      · subst z
        rw [ru_eq, ru_eq, ru_eq, ru_eq, ru_eq, ru_eq]
        exact ⟨rfl, rfl, rfl, rfl⟩
      · rw [ru_ne z, ru_ne z, ru_ne z, ru_ne z, ru_ne z, ru_ne z]
        exact ⟨a1, a2, a3, a4⟩
    · obtain ⟨a1, a2⟩ := t4 b hb4
      show ru (X.2.2.1 kPromised) (ix (R kBidBanks q)) (pr (ix (R kBidBanks q)) + co) b = _ ∧ ru (Y.2.2.2.2.1 kPromised) (ix (R kBidBanks q)) (pr (ix (R kBidBanks q)) + co) b = _
      by_cases z : b = ix (R kBidBanks q)
      · subst z
        rw [ru_eq, ru_eq, ru_eq]
        exact ⟨rfl, rfl⟩
      · rw [ru_ne z, ru_ne z, ru_ne z]
        exact ⟨a1, a2⟩
    · obtain ⟨a1, a2, a3⟩ := i1 r hr
      by_cases z : r = q
      · subst z
        rw [ru_eq, ru_eq]
        exact ⟨by omega, by omega, fun hs => absurd hs (by decide)⟩
      · rw [ru_ne z, ru_ne z]
        exact ⟨a1, a2, a3⟩
    · show 0 ≤ (X.2.1 - g).toInt
      rw [w_sub]
      have := w_hi X.2.1
      omega
    · show (X.2.1 - g).toInt + sumI (fun r => (ru ge q g r).toInt) n = N
      have e := sumI_upd (f := fun r => (ge r).toInt) (g := fun r => (ru ge q g r).toInt) (j := q) n q1 (fun r _ hne => by
        show (ru ge q g r).toInt = _
        rw [ru_ne hne])
      rw [e, ru_eq, hge0, w_0, w_sub]
      have := w_hi X.2.1
      omega
    · obtain ⟨a1, a2⟩ := i4 b hb4
      have e := sumI_upd (f := fun r => if R kBidBanks r = nI b then cst (ge r).toInt (R kBidPrices r).toInt else 0) (g := fun r => if R kBidBanks r = nI b then cst (ru ge q g r).toInt (R kBidPrices r).toInt else 0) (j := q) n q1 (fun r _ hne => by
        show (if R kBidBanks r = nI b then cst (ru ge q g r).toInt (R kBidPrices r).toInt else 0) = _
        rw [ru_ne hne])
      rw [e, ru_eq, hge0, w_0, cst_0, ← hct]
      by_cases z : b = ix (R kBidBanks q)
      · have z2 : R kBidBanks q = nI b := by rw [z]; exact b1.1
        rw [if_pos z2, if_pos z2]
        subst z
        rw [ru_eq, epc]
        omega
      · have z2 : ¬ R kBidBanks q = nI b := fun z3 => z (by rw [z3, ix_nI (by omega)])
        rw [if_neg z2, if_neg z2, ru_ne z]
        omega
    · refine Or.inr ⟨b3, b4, fun r hr hs => ?_, fun r hr hg => ?_⟩
      · by_cases z : r = q
        · subst z
          exact Int.le_refl _
        · rw [ru_ne z] at hs
          exact q3 r hr hs
      · show (R kBidPrices q).toInt ≤ _
        by_cases z : r = q
        · subst z
          exact Int.le_refl _
        · rw [ru_ne z] at hg
          rcases i5 with ⟨-, i5⟩ | ⟨e1, e2, e3, e4⟩
          · exact absurd (i5 r hr) hg
          · exact Int.le_trans (e3 q q1 q2) (e4 r hr hg)
