/-! an auction: all bidders pay -/
def auA (a : Nat) (D : Int32) (C : Col) : Col := upd2 (upd2 C kDues a D) kAuctions 0 (nI (a + 1))
def auR (a : Nat) (R : Col) : Col := upd2 R kAuctions 0 (nI (a + 1))
theorem auA_sell {a b : Nat} {D co g : Int32} {C : Col} : auA a D (sellC C a b co g) = sellC (auA a D C) a b co g := by
  have e : sellC (auA a D C) a b co g = upd2 (upd2 (upd2 (auA a D C) kReserves b (C kReserves b - co)) kTreasury 0 (C kTreasury 0 + co)) kBonds (5 * a + b) (C kBonds (5 * a + b) + g) := rfl
  have cc : ∀ {k i : Nat} {x : Int32} {C : Col}, k ≠ kDues → k ≠ kAuctions → auA a D (upd2 C k i x) = upd2 (auA a D C) k i x := fun {k i x C} h1 h2 => by
    unfold auA
    rw [u_comm h1, u_comm h2]
  rw [e]
  unfold sellC
  rw [cc (by decide) (by decide), cc (by decide) (by decide), cc (by decide) (by decide)]
theorem auR_sell {a b : Nat} {co g : Int32} {C : Col} : auR a (sellC C a b co g) = sellC (auR a C) a b co g := by
  have e : sellC (auR a C) a b co g = upd2 (upd2 (upd2 (auR a C) kReserves b (C kReserves b - co)) kTreasury 0 (C kTreasury 0 + co)) kBonds (5 * a + b) (C kBonds (5 * a + b) + g) := rfl
  have cc : ∀ {k i : Nat} {x : Int32} {C : Col}, k ≠ kAuctions → auR a (upd2 C k i x) = upd2 (auR a C) k i x := fun {k i x C} h2 => by
    unfold auR
    rw [u_comm h2]
  rw [e]
  unfold sellC
  rw [cc (by decide), cc (by decide), cc (by decide)]
/-- what is known of both memories before all bidders pay -/
def SB (A B : Mem) (n a : Nat) (ge : Row) (w : Int32) : Prop := n ≤ 12 ∧ a < 20 ∧ A.1 kBids 0 = nI n ∧ B.2.1 kBids 0 = nI n ∧ A.1 kAuctions 0 = nI a ∧ B.2.1 kAuctions 0 = nI a ∧
  (∀ q, q < n → A.1 kBidGets q = ge q ∧ B.2.1 kBidGets q = ge q ∧ 0 ≤ (ge q).toInt ∧ (ge q).toInt ≤ 1000 ∧ (ge q ≠ 0 → 50 ≤ w.toInt ∧ w.toInt ≤ 100) ∧ A.1 kBidBanks q = B.2.1 kBidBanks q ∧ inb (B.2.1 kBidBanks q) 4 ∧ B.2.1 kHaveFailed (ix (B.2.1 kBidBanks q)) = 0) ∧
  sumI (fun q => (ge q).toInt) n ≤ 10000 ∧ ∀ b, b < 4 → sumI (fun q => if B.2.1 kBidBanks q = nI b then cst (ge q).toInt w.toInt else 0) n ≤ (B.2.1 kReserves b).toInt
def SI (u v L : Int) (A B : Mem) (a : Nat) (D : Int32) (ge : Row) (w : Int32) (d : Int32) (j : Nat) (X Y : Mem) : Prop :=
  Rel (auA a D X.1) (auR a Y.2.1) d ∧ Num u v L (auR a Y.2.1) ∧ (∀ k, k ≠ 16 → k ≠ 41 → k ≠ 48 → X.1 k = A.1 k) ∧ (∀ k, k ≠ 16 → k ≠ 41 → k ≠ 48 → Y.2.1 k = B.2.1 k) ∧
  (∀ b, b < 4 → (Y.2.1 kReserves b).toInt = (B.2.1 kReserves b).toInt - sumI (fun q => if B.2.1 kBidBanks q = nI b then cst (ge q).toInt w.toInt else 0) j) ∧
  sumI (fun o => (Y.2.1 kBonds (5 * a + o)).toInt) 5 = sumI (fun q => (ge q).toInt) j
def okr_se (w : Int32) (j15 : Nat) (σ16 : Mem) : Prop := (j15 < 12) ∧ ((¬ ((σ16.2.1 kBidGets j15) = 0)) → ((j15 < 12) ∧ (ok_X12_up σ16 ((σ16.2.1 kBidGets j15) * w) (nI 100)))) ∧ (∀ v23 : Int32, (if (σ16.2.1 kBidGets j15) = 0 then (0) else (lt (f_X12_up σ16 ((σ16.2.1 kBidGets j15) * w) (nI 100)) (fun (v22 : Int32) => v22))) = v23 → ((j15 < 12) ∧ (inb (σ16.2.1 kBidBanks j15) 4) ∧ (inb (σ16.2.1 kBidBanks j15) 4) ∧ (∀ S27 : Mem, ((σ16.1, upd2 σ16.2.1 kReserves (ix (σ16.2.1 kBidBanks j15)) ((σ16.2.1 kReserves (ix (σ16.2.1 kBidBanks j15))) - v23), σ16.2.2)) = S27 → ((∀ S28 : Mem, ((S27.1, upd2 S27.2.1 kTreasury 0 ((S27.2.1 kTreasury 0) + v23), S27.2.2)) = S28 → ((j15 < 12) ∧ (inb (((nI 5) * (S28.2.1 kAuctions 0)) + (S28.2.1 kBidBanks j15)) 100) ∧ (j15 < 12) ∧ (inb (((nI 5) * (S28.2.1 kAuctions 0)) + (S28.2.1 kBidBanks j15)) 100)))))))
theorem sell_step {u v L : Int} {A B : Mem} {d D w : Int32} {n a j : Nat} {ge : Row} {X Y : Mem} (hv : v ≤ 5120000) (hb : SB A B n a ge w) (hj : j < n) (h : SI u v L A B a D ge w d j X Y) : okr_se w j Y ∧ SI u v L A B a D ge w d (j + 1) (b3_X2_sell w j X) (b72_X12_auction w j Y) := by
  obtain ⟨hn, ha, -, -, hA, hB, hG, hs, hre⟩ := hb
  obtain ⟨i1, i2, i3, i4, i5, i6⟩ := h
  obtain ⟨g1, g2, g3, g4, g5, g6, g7, g8⟩ := hG j hj
  have ea : ix (nI (a + 1)) = a + 1 := ix_nI (by omega)
  obtain ⟨b, hbb, hb4⟩ : ∃ b, B.2.1 kBidBanks j = nI b ∧ b < 4 := ⟨_, g7.1, g7.2⟩
  rw [hbb, ix_nI (show b < 2147483648 by omega)] at g8
  have xA : X.1 kAuctions 0 = nI a := by rw [i3 kAuctions (by decide) (by decide) (by decide)]; exact hA
  have yA : Y.2.1 kAuctions 0 = nI a := by rw [i4 kAuctions (by decide) (by decide) (by decide)]; exact hB
  have xG : X.1 kBidGets j = ge j := by rw [i3 kBidGets (by decide) (by decide) (by decide)]; exact g1
  have yG : Y.2.1 kBidGets j = ge j := by rw [i4 kBidGets (by decide) (by decide) (by decide)]; exact g2
  have xB : X.1 kBidBanks j = nI b := by rw [i3 kBidBanks (by decide) (by decide) (by decide), g6]; exact hbb
  have yB : Y.2.1 kBidBanks j = nI b := by rw [i4 kBidBanks (by decide) (by decide) (by decide)]; exact hbb
  have yF : Y.2.1 kHaveFailed b = 0 := by rw [i4 kHaveFailed (by decide) (by decide) (by decide)]; exact g8
  have eb : ix (nI b) = b := ix_nI (by omega)
  have ok : okr_se w j Y := by
    refine ⟨by omega, fun _ => ⟨by omega, show ¬ nI 100 = 0 by decide⟩, fun v23 _ => ⟨by omega, by rw [yB]; exact inb_nI hb4 (by omega), by rw [yB]; exact inb_nI hb4 (by omega), fun S27 e27 S28 e28 => ?_⟩⟩
    have k1 : S28.2.1 kAuctions 0 = nI a := by
      rw [← e28, ← e27]
      exact yA
    have k2 : S28.2.1 kBidBanks j = nI b := by
      rw [← e28, ← e27]
      exact yB
    rw [k1, k2, place_r]
    exact ⟨by omega, inb_nI (by omega) (by omega), by omega, inb_nI (by omega) (by omega)⟩
  refine ⟨ok, ?_⟩
  by_cases c : ge j = 0
  · have e1 : b3_X2_sell w j X = X := by
      unfold b3_X2_sell
      rw [bid_nI (by omega), xG, if_pos (by rw [c, w_le]; omega), lt_x]
    have e2 : (b72_X12_auction w j Y).2.1 = Y.2.1 := by
      unfold b72_X12_auction
      rw [yG, if_pos c, lt_x, lt_x, lt_x, lt_x]
      show upd2 (upd2 (upd2 Y.2.1 kReserves _ (Y.2.1 kReserves _ - 0)) kTreasury 0 (Y.2.1 kTreasury 0 + 0)) kBonds _ (Y.2.1 kBonds _ + Y.2.1 kBidGets j) = Y.2.1
      rw [Int32.sub_zero, uu_same, Int32.add_zero, uu_same, yG, c, Int32.add_zero, uu_same]
    refine ⟨?_, ?_, ?_, ?_, fun b' hb' => ?_, ?_⟩
    · rw [e1, e2]
      exact i1
    · rw [e2]
      exact i2
    · rw [e1]
      exact i3
    · rw [e2]
      exact i4
    · rw [e2, i5 b' hb']
      show _ = _ - (sumI (fun q => if B.2.1 kBidBanks q = nI b' then cst (ge q).toInt w.toInt else 0) j + (if B.2.1 kBidBanks j = nI b' then cst (ge j).toInt w.toInt else 0))
      rw [c, w_0, cst_0]
      split <;> omega
    · rw [e2, i6]
      show _ = sumI (fun q => (ge q).toInt) j + (ge j).toInt
      rw [c, w_0]
      omega
  · obtain ⟨w1, w2⟩ := g5 c
    have gp : 0 < (ge j).toInt := by
      rcases Int.lt_or_eq_of_le g3 with q | q
      · exact q
      · exact absurd (Int32.toInt_inj.mp (q.symm.trans w_0.symm)) c
    obtain ⟨co, hco, hcx, hcy⟩ : ∃ co, co.toInt = cst (ge j).toInt w.toInt ∧ f_X11_percentRoundedUp X (ge j) w = co ∧ f_X12_up Y (ge j * w) (nI 100) = co := ⟨_, pct_toInt (S := X) (by omega) (by omega) (by omega) (by omega), rfl, (up_pct (by omega) (by omega) (by omega) (by omega)).symm⟩
    obtain ⟨c1, c2, -, -⟩ := cst_bd (g := (ge j).toInt) (p := w.toInt) (by omega) (by omega) (by omega) (by omega)
    have e1 : (b3_X2_sell w j X).1 = sellC X.1 a b co (ge j) := by
      unfold b3_X2_sell
      rw [bid_nI (by omega), xG, if_neg (by rw [w_le, w_0]; omega), hcx, xB, bank_nI hb4, lt_x, lt_x, lt_x, lt_x, lt_x]
      have k1 : ∀ z y : Int32, upd2 (upd2 X.1 kReserves b z) kTreasury 0 y kBidBanks j = nI b := fun _ _ => xB
      have k2 : ∀ z y : Int32, upd2 (upd2 X.1 kReserves b z) kTreasury 0 y kAuctions 0 = nI a := fun _ _ => xA
      have k3 : ∀ z y : Int32, upd2 (upd2 X.1 kReserves b z) kTreasury 0 y kBidGets j = ge j := fun _ _ => xG
      simp only [k1, k2, k3]
      rw [add_at ha (by omega)]
      rfl
    have e2 : (b72_X12_auction w j Y).2.1 = sellC Y.2.1 a b co (ge j) := by
      unfold b72_X12_auction
      rw [yG, if_neg c, hcy, yB, eb, lt_x, lt_x, lt_x, lt_x, lt_x]
      have k1 : ∀ z y : Int32, upd2 (upd2 Y.2.1 kReserves b z) kTreasury 0 y kBidBanks j = nI b := fun _ _ => yB
      have k2 : ∀ z y : Int32, upd2 (upd2 Y.2.1 kReserves b z) kTreasury 0 y kAuctions 0 = nI a := fun _ _ => yA
      have k3 : ∀ z y : Int32, upd2 (upd2 Y.2.1 kReserves b z) kTreasury 0 y kBidGets j = ge j := fun _ _ => yG
      simp only [k1, k2, k3]
      rw [place_r, ix_nI (by omega)]
      rfl
    have tailc := sumI_tail (f := fun q => if B.2.1 kBidBanks q = nI b then cst (ge q).toInt w.toInt else 0) n j hj (fun q hq => by
      show 0 ≤ (if B.2.1 kBidBanks q = nI b then cst (ge q).toInt w.toInt else 0)
      obtain ⟨-, -, z1, z2, -⟩ := hG q hq
      have := cst_bd (g := (ge q).toInt) (p := w.toInt) (by omega) (by omega) (by omega) (by omega)
      split <;> omega)
    have tailc : (if B.2.1 kBidBanks j = nI b then cst (ge j).toInt w.toInt else 0) ≤ _ := tailc
    rw [if_pos hbb] at tailc
    have tailg := sumI_tail (f := fun q => (ge q).toInt) n j hj (fun q hq => (hG q hq).2.2.1)
    have tailg : (ge j).toInt ≤ _ := tailg
    have hr := hre b hb4
    have hr5 := i5 b hb4
    obtain ⟨s1, s2⟩ := sell_prim (a := a) (b := b) (co := co) (g := ge j) i1 i2 hv (show a < ix (nI (a + 1)) by omega) hb4 yF (by omega) (show co.toInt ≤ (Y.2.1 kReserves b).toInt by omega) g3 (show sumI (fun o => (Y.2.1 kBonds (5 * a + o)).toInt) 5 + (ge j).toInt ≤ 10000 by omega)
    refine ⟨?_, ?_, fun k k1 k2 k3 => ?_, fun k k1 k2 k3 => ?_, fun b' hb' => ?_, ?_⟩
    · rw [e1, e2, auA_sell, auR_sell]
      exact s1
    · rw [e2, auR_sell]
      exact s2
    · rw [e1, sellC_off k1 k2 k3]
      exact i3 k k1 k2 k3
    · rw [e2, sellC_off k1 k2 k3]
      exact i4 k k1 k2 k3
    · rw [e2]
      show (ru (Y.2.1 kReserves) b (Y.2.1 kReserves b - co) b').toInt = _ - (sumI (fun q => if B.2.1 kBidBanks q = nI b' then cst (ge q).toInt w.toInt else 0) j + (if B.2.1 kBidBanks j = nI b' then cst (ge j).toInt w.toInt else 0))
      by_cases z : b' = b
      · subst z
        have := re_hi i2 hv hb4
        have t1 : (Y.2.1 kReserves b').toInt + (auR a Y.2.1 kVaults b').toInt + (auR a Y.2.1 kTreasury 0).toInt ≤ 169600000 := this.2.2.1
        rw [ru_eq, if_pos hbb, w_sub]
        omega
      · rw [ru_ne z, if_neg (fun q => z ?_), i5 b' hb']
        · omega
        · rw [hbb] at q
          rw [← ix_nI (show b' < 2147483648 by omega), ← q, eb]
    · rw [e2]
      have e3 := sumI_upd (f := fun o => (Y.2.1 kBonds (5 * a + o)).toInt) (g := fun q => (ru (Y.2.1 kBonds) (5 * a + b) (Y.2.1 kBonds (5 * a + b) + ge j) (5 * a + q)).toInt) (j := b) 5 (by omega) (fun q _ hne => by
        show (ru (Y.2.1 kBonds) (5 * a + b) _ (5 * a + q)).toInt = _
        rw [ru_ne (by omega)])
      show sumI (fun o => (ru (Y.2.1 kBonds) (5 * a + b) (Y.2.1 kBonds (5 * a + b) + ge j) (5 * a + o)).toInt) 5 = sumI (fun q => (ge q).toInt) j + (ge j).toInt
      rw [e3, ru_eq, i6]
      have nf := i2.2.2.2.2.2.1
      have nf : zF (ru (Y.2.1 kAuctions) 0 (nI (a + 1))) (Y.2.1 kBonds) (Y.2.1 kHaveFailed) := nf
      have p0 := (nf.2 a ha).1 b (by omega)
      have pb := sumI_one (f := fun o => (Y.2.1 kBonds (5 * a + o)).toInt) 5 b (by omega) (fun i hi => (nf.2 a ha).1 i hi)
      have pb : (Y.2.1 kBonds (5 * a + b)).toInt ≤ _ := pb
      have e4 : (Y.2.1 kBonds (5 * a + b) + ge j).toInt = (Y.2.1 kBonds (5 * a + b)).toInt + (ge j).toInt := by
        rw [w_add]
        omega
      rw [e4]
      omega
