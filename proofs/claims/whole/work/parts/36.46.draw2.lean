theorem draw_core {u v L : Int} {A : Mem} {R : Col} {d x m : Int32} (h : Rel A.1 R d) (n : Num u v L R) (hv : v ≤ 5120000) (hu : u ≤ 5120000) (hx : inb x 16) (hb : inb (R kBankOf (ix x)) 4) (hm0 : 0 ≤ m.toInt) (hm : m.toInt ≤ (R kAccounts (ix x)).toInt - (R kBlocked (ix x)).toInt) :
    ok_X11_drawNotes A x m ∧ (f_X11_drawNotes A x m).1 = gotV (R kVaults (ix (R kBankOf (ix x)))) m + gotR (R kReserves (ix (R kBankOf (ix x)))) (m - gotV (R kVaults (ix (R kBankOf (ix x)))) m) ∧ Rel (f_X11_drawNotes A x m).2.1 (drawR R (ix x) (ix (R kBankOf (ix x))) (gotV (R kVaults (ix (R kBankOf (ix x)))) m) (gotR (R kReserves (ix (R kBankOf (ix x)))) (m - gotV (R kVaults (ix (R kBankOf (ix x)))) m))) d ∧ Num u v L (drawR R (ix x) (ix (R kBankOf (ix x))) (gotV (R kVaults (ix (R kBankOf (ix x)))) m) (gotR (R kReserves (ix (R kBankOf (ix x)))) (m - gotV (R kVaults (ix (R kBankOf (ix x)))) m))) := by
  have hBo : A.1 kBankOf (ix x) = R kBankOf (ix x) := h.sh kBankOf _ hx.2
  have hVa : A.1 kVaults (ix (R kBankOf (ix x))) = R kVaults (ix (R kBankOf (ix x))) := h.sh kVaults _ hb.2
  have hRe : A.1 kReserves (ix (R kBankOf (ix x))) = R kReserves (ix (R kBankOf (ix x))) := h.sh kReserves _ hb.2
  have hDy : A.1 kDays 0 = R kDays 0 := h.sh kDays 0 (by decide)
  have hre := re_hi n hv hb.2
  obtain ⟨g1, g2, g3, g4, g5, g6, g7, g8⟩ := got_eq (m := m) hre.2.1 hre.1 (by omega) hm0
  have nn := N_draw (p := gotV (R kVaults (ix (R kBankOf (ix x)))) m) (q := gotR (R kReserves (ix (R kBankOf (ix x)))) (m - gotV (R kVaults (ix (R kBankOf (ix x)))) m)) n hx.2 hb.2 hb.1 g3 g4 g5 g6 (by omega) hu
  have hdy := n.2.2.2.2.2.2.2.2.1
  unfold ok_X11_drawNotes f_X11_drawNotes
  rw [holder_in hx, hBo, bank_in hb, hVa, hRe, g1]
  rw [lt_x, g2]
  revert nn g8 g3 g4 g5 g6 g7
  have g2' := g2
  revert g2'
  generalize gotV (R kVaults (ix (R kBankOf (ix x)))) m = p
  generalize gotR (R kReserves (ix (R kBankOf (ix x)))) (m - p) = q
  intro g2' g3 g4 g5 g6 g7 g8 nn
  rw [lt_x, lt_x]
  have e1 : ∀ w, upd2 A.1 kVaults (ix (R kBankOf (ix x))) w kReserves (ix (R kBankOf (ix x))) = R kReserves (ix (R kBankOf (ix x))) := fun w => hRe
  have epq : p + q - p = q := by grind
  have r1 := h.vaults (i := ix (R kBankOf (ix x))) (v := R kVaults (ix (R kBankOf (ix x))) - p) hb.2 rfl
  have r2 : Rel (upd2 (upd2 A.1 kVaults (ix (R kBankOf (ix x))) (R kVaults (ix (R kBankOf (ix x))) - p)) kReserves (ix (R kBankOf (ix x))) (R kReserves (ix (R kBankOf (ix x))) - q), A.2).1 _ _ := r1.reserves (i := ix (R kBankOf (ix x))) (v := R kReserves (ix (R kBankOf (ix x))) - q) hb.2 rfl
  rw [show upd2 R kVaults (ix (R kBankOf (ix x))) (R kVaults (ix (R kBankOf (ix x))) - p) kReserves (ix (R kBankOf (ix x))) = R kReserves (ix (R kBankOf (ix x))) from rfl] at r2
  obtain ⟨o3, -, k3, r3⟩ := r2.change (v := -(p + q)) hx
  rw [show upd2 (upd2 R kVaults (ix (R kBankOf (ix x))) (R kVaults (ix (R kBankOf (ix x))) - p)) kReserves (ix (R kBankOf (ix x))) (R kReserves (ix (R kBankOf (ix x))) - q) kAccounts (ix x) = R kAccounts (ix x) from rfl, ← Int32.sub_eq_add_neg] at r3
  rw [lt_x]
  simp only [e1, epq]
  refine ⟨?_, ?_⟩
  · intro v1 ev1 v2 ev2 S3 e3 S4 e4
    subst ev1
    rw [g2'] at ev2
    subst ev2
    subst e3
    simp only [e1, epq] at e4
    subst e4
    exact o3
  · rw [lt_x]
    revert k3 r3
    generalize f_X3_change (upd2 (upd2 A.1 kVaults (ix (R kBankOf (ix x))) (R kVaults (ix (R kBankOf (ix x))) - p)) kReserves (ix (R kBankOf (ix x))) (R kReserves (ix (R kBankOf (ix x))) - q), A.2) x (-(p + q)) = S6
    intro k3 r3
    have xn : S6.1 kNotes (ix x) = R kNotes (ix x) := r3.sh kNotes (ix x) hx.2
    have xf : S6.1 kForged (ix x) = R kForged (ix x) := r3.sh kForged (ix x) hx.2
    have r4 := r3.notes (i := ix x) (v := R kNotes (ix x) + (p + q)) hx.2 rfl
    have r5 := r4.forged (i := ix x) (v := R kForged (ix x)) (w := R kForged (ix x)) hx.2 rfl
    have eR : upd2 (upd2 (upd2 (upd2 (upd2 R kVaults (ix (R kBankOf (ix x))) (R kVaults (ix (R kBankOf (ix x))) - p)) kReserves (ix (R kBankOf (ix x))) (R kReserves (ix (R kBankOf (ix x))) - q)) kAccounts (ix x) (R kAccounts (ix x) - (p + q))) kNotes (ix x) (R kNotes (ix x) + (p + q))) kForged (ix x) (R kForged (ix x)) = drawR0 R (ix x) (ix (R kBankOf (ix x))) p q := by
      unfold drawR0
      rw [u_comm (k := kNotes) (k' := kAccounts) (by decide)]
      exact uu_same
    rw [eR] at r5
    have r6 : Rel (upd2 (upd2 S6.1 kNotes (ix x) (R kNotes (ix x) + (p + q))) kForged (ix x) (R kForged (ix x))) (drawR0 R (ix x) (ix (R kBankOf (ix x))) p q) d := r5.d_eq (by
      rw [show upd2 (upd2 (upd2 (upd2 R kVaults (ix (R kBankOf (ix x))) (R kVaults (ix (R kBankOf (ix x))) - p)) kReserves (ix (R kBankOf (ix x))) (R kReserves (ix (R kBankOf (ix x))) - q)) kAccounts (ix x) (R kAccounts (ix x) - (p + q))) kNotes (ix x) (R kNotes (ix x) + (p + q)) kForged (ix x) = R kForged (ix x) from rfl, show upd2 (upd2 (upd2 R kVaults (ix (R kBankOf (ix x))) (R kVaults (ix (R kBankOf (ix x))) - p)) kReserves (ix (R kBankOf (ix x))) (R kReserves (ix (R kBankOf (ix x))) - q)) kAccounts (ix x) (R kAccounts (ix x) - (p + q)) kNotes (ix x) = R kNotes (ix x) from rfl]
      grind)
    have eT : f_X5_takeNotes S6 (ix x) (p + q) 0 = (upd2 (upd2 S6.1 kNotes (ix x) (R kNotes (ix x) + (p + q))) kForged (ix x) (R kForged (ix x)), S6.2) := by
      unfold f_X5_takeNotes
      simp only [lt_x, xn]
      have : upd2 S6.1 kNotes (ix x) (R kNotes (ix x) + (p + q)) kForged (ix x) = R kForged (ix x) := (upd2_ne (by decide)).trans xf
      rw [this, Int32.add_zero]
    rw [eT, lt_x]
    have mBo : upd2 (upd2 S6.1 kNotes (ix x) (R kNotes (ix x) + (p + q))) kForged (ix x) (R kForged (ix x)) kBankOf (ix x) = R kBankOf (ix x) := r6.sh kBankOf (ix x) hx.2
    have mDy : upd2 (upd2 S6.1 kNotes (ix x) (R kNotes (ix x) + (p + q))) kForged (ix x) (R kForged (ix x)) kDays 0 = R kDays 0 := r6.sh kDays 0 (by decide)
    simp only [mBo, mDy]
    revert r6
    generalize upd2 (upd2 S6.1 kNotes (ix x) (R kNotes (ix x) + (p + q))) kForged (ix x) (R kForged (ix x)) = C7
    intro r6
    have eM : f_X5_markDrawn (C7, S6.2) (ix x) (R kBankOf (ix x)) (R kDays 0) = (upd2 C7 (kDrawnC + ix x) (ix (R kBankOf (ix x))) (R kDays 0 + 1), S6.2) := by
      have t := inb_toInt hb
      have t2 := hb.2
      unfold f_X5_markDrawn
      rw [lt_x, if_neg (by rw [w_lt, w_0]; omega), if_neg (by rw [w_le, nI_toInt (by omega)]; omega), lt_x]
    rw [eM]
    simp only [lt_x]
    refine ⟨trivial, ?_, nn⟩
    unfold drawR
    by_cases c : p + q ≤ 0
    · rw [if_pos c, if_pos c]
      exact r6
    · rw [if_neg c, if_neg c]
      by_cases c2 : 10 ≤ ix x
      · rw [if_pos c2]
        exact r6.drawnC c2
      · rw [if_neg c2]
        exact r6.drawn (by omega) hb.2 rfl hdy.1 hdy.2.1
theorem drawR_off {R : Col} {i b k : Nat} {p q : Int32} (hk : [5, 8, 13, 16, 17].contains k = false) : drawR R i b p q k = R k := by
  have hn : ∀ c : Nat, [5, 8, 13, 16, 17].contains c = true → k ≠ c := fun c hc q => by rw [← q, hk] at hc; cases hc
  have e0 : drawR0 R i b p q k = R k := by
    unfold drawR0
    rw [u_ne (hn 8 (by decide)), u_ne (hn 5 (by decide)), u_ne (hn 16 (by decide)), u_ne (hn 17 (by decide))]
  unfold drawR
  split
  · exact e0
  · split
    · exact e0
    · rw [u_ne (hn 13 (by decide)), e0]
/-- a draw, and the failure that it may bring -/
theorem draws_ok {u v L : Int} {A B : Mem} {d x m : Int32} (h : Rel A.1 B.2.1 d) (n : Num u v L B.2.1) (hv : v ≤ 5120000) (hu : u ≤ 5120000) (hL : 0 ≤ L) (hL2 : L ≤ 190000000) (hx : inb x 16) (hb : inb (B.2.1 kBankOf (ix x)) 4) (hm0 : 0 ≤ m.toInt) (hm : m.toInt ≤ (B.2.1 kAccounts (ix x)).toInt - (B.2.1 kBlocked (ix x)).toInt) :
    ok_X11_drawNotes A x m ∧ (¬ m ≤ (f_X11_drawNotes A x m).1 → ok_X11_failBank (f_X11_drawNotes A x m).2 (B.2.1 kBankOf (ix x))) ∧ ok_X12_draws B x m ∧ (f_X11_drawNotes A x m).1 = (f_X12_draws B x m).1 ∧ Rel (if m ≤ (f_X11_drawNotes A x m).1 then (f_X11_drawNotes A x m).2 else (f_X11_failBank (f_X11_drawNotes A x m).2 (B.2.1 kBankOf (ix x))).2).1 (f_X12_draws B x m).2.2.1 d ∧ Num u v L (f_X12_draws B x m).2.2.1 ∧ (∀ k, [5, 7, 8, 9, 13, 16, 17, 18, 20, 21, 26, 34, 41, 42, 43, 44, 45].contains k = false → (f_X12_draws B x m).2.2.1 k = B.2.1 k) := by
  obtain ⟨c1, c2, c3, c4⟩ := draw_core h n hv hu hx hb hm0 hm
  have hz : ∀ z, (nI 4 * x + B.2.1 kBankOf (ix x) = z) → z = nI (4 * ix x + ix (B.2.1 kBankOf (ix x))) := fun z hz => by
    rw [← hz]
    have e1 : nI 4 * x = nI (4 * ix x) := by
      have : nI 4 * nI (ix x) = nI (4 * ix x) := (Int32.ofNat_mul 4 (ix x)).symm
      rw [← this, ← hx.1]
    have e2 : nI (4 * ix x) + B.2.1 kBankOf (ix x) = nI (4 * ix x) + nI (ix (B.2.1 kBankOf (ix x))) := by rw [← hb.1]
    rw [e1, e2, nI_add]
  have hz := hz _ rfl
  have hx2 := hx.2
  have hb2 := hb.2
  have tx := inb_toInt hx
  have e10 : (nI 10 ≤ x) ↔ 10 ≤ ix x := by
    rw [w_le, nI_toInt (by omega)]
    omega
  have hf0 : B.2.1 kHaveFailed (ix (B.2.1 kBankOf (ix x))) = 0 := by
    rcases (n.1 _ hx.2).1 with q | ⟨-, q⟩
    · exact absurd q (inb_ne hb)
    · exact q
  have hbk : nI (ix (B.2.1 kBankOf (ix x))) = B.2.1 kBankOf (ix x) := hb.1.symm
  have offd := fun k hk => drawR_off (R := B.2.1) (i := ix x) (b := ix (B.2.1 kBankOf (ix x))) (k := k) (p := gotV (B.2.1 kVaults (ix (B.2.1 kBankOf (ix x)))) m) (q := gotR (B.2.1 kReserves (ix (B.2.1 kBankOf (ix x)))) (m - gotV (B.2.1 kVaults (ix (B.2.1 kBankOf (ix x)))) m)) hk
  generalize hp : gotV (B.2.1 kVaults (ix (B.2.1 kBankOf (ix x)))) m = p at c2 c3 c4 offd
  generalize hq : gotR (B.2.1 kReserves (ix (B.2.1 kBankOf (ix x)))) (m - p) = q at c2 c3 c4 offd
  have hB2 : ∃ B2 : Mem, B2.2.1 = drawR B.2.1 (ix x) (ix (B.2.1 kBankOf (ix x))) p q ∧ f_X12_draws B x m = (p + q, if m ≤ p + q then B2 else (f_X12_fails B2 (B.2.1 kBankOf (ix x))).2) ∧ ((¬ m ≤ p + q → ok_X12_fails B2 (B.2.1 kBankOf (ix x))) → ok_X12_draws B x m) := by
    refine ⟨(B.1, drawR B.2.1 (ix x) (ix (B.2.1 kBankOf (ix x))) p q, B.2.2), rfl, ?_, ?_⟩
    · unfold f_X12_draws
      have eV : f_X12_least B (B.2.1 kVaults (ix (B.2.1 kBankOf (ix x)))) m = p := by rw [least_eq]; exact hp
      rw [eV, lt_x]
      have eR : f_X12_least B (B.2.1 kReserves (ix (B.2.1 kBankOf (ix x)))) (m - p) = q := by rw [least_eq]; exact hq
      rw [eR, lt_x, lt_x, lt_x, lt_x, lt_x]
      have eD : (if p + q ≤ 0 then ((B.1, drawR0 B.2.1 (ix x) (ix (B.2.1 kBankOf (ix x))) p q, B.2.2) : Mem) else (if nI 10 ≤ x then (B.1, drawR0 B.2.1 (ix x) (ix (B.2.1 kBankOf (ix x))) p q, B.2.2) else (lt ((B.1, upd2 (drawR0 B.2.1 (ix x) (ix (B.2.1 kBankOf (ix x))) p q) kDrawn (ix (nI 4 * x + B.2.1 kBankOf (ix x))) (B.2.1 kDays 0), B.2.2) : Mem) (fun (S21 : Mem) => S21)))) = (B.1, drawR B.2.1 (ix x) (ix (B.2.1 kBankOf (ix x))) p q, B.2.2) := by
        unfold drawR
        rw [lt_x, hz, ix_nI (by omega)]
        by_cases z1 : p + q ≤ 0
        · rw [if_pos z1, if_pos z1]
        · rw [if_neg z1, if_neg z1]
          by_cases z2 : 10 ≤ ix x
          · rw [if_pos (e10.mpr z2), if_pos z2]
          · rw [if_neg (fun q => z2 (e10.mp q)), if_neg z2]
      have eD2 := lt_eq (f := fun (S22 : Mem) => lt (if m ≤ (p + q) then (S22) else (lt ((f_X12_fails S22 (B.2.1 kBankOf (ix x))).2) (fun (S25 : Mem) => lt ((f_X12_fails S22 (B.2.1 kBankOf (ix x))).1) (fun (v26 : Int32) => S25)))) (fun (S27 : Mem) => ((p + q, S27) : Int32 × Mem))) eD
      refine Eq.trans ?_ (eD2.trans ?_)
      · rfl
      · simp only [lt_x]
    · intro hk
      have i40 : ¬ nI 10 ≤ x → inb (nI 4 * x + B.2.1 kBankOf (ix x)) 40 := fun c => by
        rw [hz]
        have : ¬ 10 ≤ ix x := fun q => c (e10.mpr q)
        exact inb_nI (by omega) (by omega)
      unfold ok_X12_draws
      refine ⟨hx, hb, fun v3 e3 => ⟨hb, fun v5 e5 => ⟨hb, hb, fun S8 e8 => ⟨hb, hb, fun S11 e11 => ⟨hx, hx, fun S14 e14 => ⟨hx, hx, fun S17 e17 => ⟨fun _ c => i40 c, fun S22 e22 c => ?_⟩⟩⟩⟩⟩⟩⟩
      have eV : f_X12_least B (B.2.1 kVaults (ix (B.2.1 kBankOf (ix x)))) m = p := by rw [least_eq]; exact hp
      rw [eV] at e3
      subst e3
      have eR : f_X12_least B (B.2.1 kReserves (ix (B.2.1 kBankOf (ix x)))) (m - p) = q := by rw [least_eq]; exact hq
      rw [eR] at e5
      subst e5
      subst e8
      subst e11
      subst e14
      subst e17
      have eD : S22 = (B.1, drawR B.2.1 (ix x) (ix (B.2.1 kBankOf (ix x))) p q, B.2.2) := by
        rw [← e22]
        unfold drawR
        rw [lt_x, hz, ix_nI (by omega)]
        by_cases z1 : p + q ≤ 0
        · rw [if_pos z1, if_pos z1]
          rfl
        · rw [if_neg z1, if_neg z1]
          by_cases z2 : 10 ≤ ix x
          · rw [if_pos (e10.mpr z2), if_pos z2]
            rfl
          · rw [if_neg (fun q => z2 (e10.mp q)), if_neg z2]
            rfl
      rw [eD]
      exact hk c
  obtain ⟨B2, b1, b2, b3⟩ := hB2
  rw [← b1] at c3 c4 offd
  have hn8 : ∀ k : Nat, [5, 7, 8, 9, 13, 16, 17, 18, 20, 21, 26, 34, 41, 42, 43, 44, 45].contains k = false → B2.2.1 k = B.2.1 k := fun k hk => by
    refine offd k ?_
    refine Bool.eq_false_iff.mpr (fun q => ?_)
    simp only [List.contains_cons, List.contains_nil, Bool.or_false, Bool.or_eq_true, beq_iff_eq] at q
    rcases q with q | q | q | q | q <;> (subst q; exact absurd hk (by decide))
  have hf2 : B2.2.1 kHaveFailed (ix (B.2.1 kBankOf (ix x))) = 0 := by rw [offd kHaveFailed (by decide)]; exact hf0
  obtain ⟨f1, f2, f3, f4, f5, f6, -⟩ := fail_ok (A := (f_X11_drawNotes A x m).2) (B := B2) (b := ix (B.2.1 kBankOf (ix x))) c3 c4 hu hv hL hL2 hb.2 hf2
  rw [hbk] at f1 f2 f3 f4 f5 f6
  refine ⟨c1, fun _ => f1, b3 (fun _ => f2), ?_, ?_, ?_, fun k hk => ?_⟩
  · rw [c2, b2]
  · rw [c2, b2]
    by_cases c : m ≤ p + q
    · simp only [if_pos c]
      exact c3
    · simp only [if_neg c]
      exact f4
  · rw [b2]
    by_cases c : m ≤ p + q
    · simp only [if_pos c]
      exact c4
    · simp only [if_neg c]
      exact f5
  · rw [b2]
    by_cases c : m ≤ p + q
    · simp only [if_pos c]
      exact hn8 k hk
    · simp only [if_neg c]
      rw [f6 k ?_]
      · exact hn8 k hk
      · refine Bool.eq_false_iff.mpr (fun q => ?_)
        simp only [List.contains_cons, List.contains_nil, Bool.or_false, Bool.or_eq_true, beq_iff_eq] at q
        rcases q with q | q | q | q | q | q | q | q | q | q | q | q | q | q | q | q <;> (subst q; exact absurd hk (by decide))
