/-! buyBonds -/
theorem buyBonds_k {B : Mem} {p1 p2 c : Int32} (v1 : Int32) (h1 : f_X12_isBank B p1 = v1) (h8 : (if v1 = 0 then (1) else (lt (f_X12_in B p2 1 (nI 10000)) (fun (v3 : Int32) => if v3 = 0 then (nI 2) else (lt (f_X12_bondsOf B p1) (fun (v6 : Int32) => if p2 ≤ v6 then (0) else (nI 3)))))) = c) (hm : ¬ v1 = 0 → ok_X12_bondsOf B p1) (h0 : c ≠ 0) : ok_X12_buyBonds B p1 p2 ∧ f_X12_buyBonds B p1 p2 = (0, T0 B c) := by
  constructor
  · intro w1 e1
    rw [h1] at e1
    subst e1
    refine ⟨fun q _ _ _ => hm q, fun w8 e8 => ?_⟩
    rw [h8] at e8
    subst e8
    exact okt_no h0
  · unfold f_X12_buyBonds
    rw [h1, lt_x, h8, lt_x]
    exact tail_no h0 _ _
theorem buyBonds_ok {u : Int} {A B : Mem} (hu : u ≤ 5120000) (h : St u A.1 B.2.1) (p1 p2 : Int32) : (okx_X11_buyBonds_1 A p1 p2 ∧ ok_X12_buyBonds B p1 p2 ∧ f_X12_buyBonds B p1 p2 = (0, T0 B 1)) ∨ (okx_X11_buyBonds_2 A p1 p2 ∧ ok_X12_buyBonds B p1 p2 ∧ f_X12_buyBonds B p1 p2 = (0, T0 B (nI 2))) ∨ (okx_X11_buyBonds_3 A p1 p2 ∧ ok_X12_buyBonds B p1 p2 ∧ f_X12_buyBonds B p1 p2 = (0, T0 B (nI 3))) ∨ (ok_X11_buyBonds A p1 p2 ∧ ok_X12_buyBonds B p1 p2 ∧ Good (u + 10000) (f_X11_buyBonds A p1 p2) (f_X12_buyBonds B p1 p2)) := by
  rcases bnk_cases p1 with ⟨b1, b2, b3⟩ | ⟨b1, b2⟩
  · obtain ⟨b, hbb, hb⟩ : ∃ b, p1 = nI b ∧ b < 4 := ⟨_, b1.1, b1.2⟩
    subst hbb
    have eb : ix (nI b) = b := ix_nI (by omega)
    have hau : inb (B.2.1 kAuctions 0) 21 := h.2.2.2.2.2.2.1.1
    obtain ⟨w1, w2⟩ := of_C (o := b) h.1 hau (by omega)
    obtain ⟨w3, w4⟩ := of_R (B := B) (o := b) hau (by omega)
    have w6 := bonS_bd (o := b) h.2 (by omega)
    rcases rng_cases p2 1 (nI 10000) with ⟨r1, r2, r3, r4⟩ | ⟨r1, r2⟩
    · rw [w_1] at r1
      by_cases c : bonS B.2.1 b < p2
      · obtain ⟨k1, k2⟩ := buyBonds_k (p2 := p2) 1 (b3 B) (show _ = nI 3 by rw [if_neg c1, r4, l1, w3, lt_x, if_neg (by rw [w_lt] at c; rw [w_le]; omega)]) (fun _ => w4) c3
        refine Or.inr (Or.inr (Or.inl ⟨⟨b2 A, r3 A, w2, fun v4 e4 v6 e6 => ?_⟩, k1, k2⟩))
        rw [w1] at e4
        rw [← e4, if_pos c] at e6
        exact e6.symm
      · have gd : (if (1 : Int32) = 0 then (1) else (lt (f_X12_in B p2 1 (nI 10000)) (fun (v3 : Int32) => if v3 = 0 then (nI 2) else (lt (f_X12_bondsOf B (nI b)) (fun (v6 : Int32) => if p2 ≤ v6 then (0) else (nI 3)))))) = 0 := by
          rw [if_neg c1, r4, l1, w3, lt_x, if_pos (by rw [w_lt] at c; rw [w_le]; omega)]
        obtain ⟨S7, s1, s2, ⟨s3, s4⟩, -, -, s5⟩ := h.zero
        have e10k : (nI 10000).toInt = 10000 := nI_toInt (by omega)
        have e7 : bonS S7.2.1 b = bonS B.2.1 b := by
          unfold bonS
          rw [s5 kBonds (by decide), s5 kAuctions (by decide)]
        have hau7 : inb (S7.2.1 kAuctions 0) 21 := s4.2.2.2.2.2.1.1
        obtain ⟨n, hn⟩ : ∃ n, ix (S7.2.1 kAuctions 0) = n := ⟨_, rfl⟩
        have hnn : S7.2.1 kAuctions 0 = nI n := by rw [← hn]; exact hau7.1
        have hn21 : n < 21 := by rw [← hn]; exact hau7.2
        have hAn : A.1 kAuctions 0 = nI n := (s3.sh kAuctions 0 (by decide)).trans hnn
        have en : ix (nI n) = n := ix_nI (by omega)
        have c' := c
        rw [w_lt, ← e7, bonS_toInt s4 (by omega), hn] at c'
        have b0 : BB u u 171000000 S7.2.1 b p2 0 (p2, A) (p2, S7) := ⟨rfl, s3.d_eq (by show (0 : Int32) = p2 - p2; grind), s4, fun _ _ => rfl, by show 0 ≤ p2.toInt; omega, by show p2.toInt ≤ sumI _ (ix (S7.2.1 kAuctions 0)) - 0; rw [hn]; omega, fun _ _ _ => rfl⟩
        have key := iter2 (f := b5_X2_moveToCentral (nI b)) (g := b57_X12_buyBonds (nI b)) (a := (p2, A)) (b := (p2, S7)) (BB u u 171000000 S7.2.1 b p2) (n := n) b0 (fun j hj X Y q => bb_step s4 hb (by rw [hn]; exact hj) q)
        have kt : ∀ j, (iter (b57_X12_buyBonds (nI b)) (p2, S7) j).2.2.1 kThrown = S7.2.1 kThrown := fun j => by
          induction j with
          | zero => rfl
          | succ j ih => exact (gt_b57_X12_buyBonds (nI b) j _).trans ih
        have ktn := kt n
        obtain ⟨X, hX⟩ : ∃ X, iter (b5_X2_moveToCentral (nI b)) (p2, A) n = X := ⟨_, rfl⟩
        obtain ⟨Y, hY⟩ : ∃ Y, iter (b57_X12_buyBonds (nI b)) (p2, S7) n = Y := ⟨_, rfl⟩
        have kn := key n (Nat.le_refl _)
        rw [hX, hY] at kn
        rw [hY] at ktn
        obtain ⟨k1, k2, k3, k4, k5, k6, k7⟩ := kn
        rw [hn] at k6
        have x0 : X.1 = 0 := Int32.toInt_inj.mp (by rw [w_0]; omega)
        rw [x0] at k2
        have yR : Y.2.2.1 kReserves b = S7.2.1 kReserves b := congrFun (k4 kReserves (by decide)) b
        have xR : X.2.1 kReserves b = S7.2.1 kReserves b := (k2.sh kReserves b hb).trans yR
        have hre := re_hi s4 hu hb
        have er : (S7.2.1 kReserves b + p2).toInt = (S7.2.1 kReserves b).toInt + p2.toInt := by
          rw [w_add]
          omega
        have q1 := k2.reserves (i := b) (v := S7.2.1 kReserves b + p2) hb rfl
        rw [yR] at q1
        have q2 : Rel (upd2 X.2.1 kReserves b (S7.2.1 kReserves b + p2)) (upd2 Y.2.2.1 kReserves b (S7.2.1 kReserves b + p2)) 0 := q1.d_eq (by grind)
        have m1 := N_re (b := b) (x := S7.2.1 kReserves b + p2) k3 hb (by omega)
        rw [yR] at m1
        have m2 := (m1.umono (u2 := u + 10000) (by omega)).vmono (v2 := u + 10000) (by omega)
        have au9 : inb (upd2 Y.2.2.1 kReserves b (S7.2.1 kReserves b + p2) kAuctions 0) 21 := by
          show inb (Y.2.2.1 kAuctions 0) 21
          rw [k4 kAuctions (by decide)]
          exact hau7
        obtain ⟨o1, o2⟩ := of_C (A := (upd2 X.2.1 kReserves b (S7.2.1 kReserves b + p2), X.2.2)) (o := b) q2 au9 (by omega)
        obtain ⟨o3, o4⟩ := of_R (B := (Y.2.1, upd2 Y.2.2.1 kReserves b (S7.2.1 kReserves b + p2), Y.2.2.2)) (o := b) au9 (by omega)
        have mv : f_X2_moveToCentral A (nI b) p2 = X.2 := by
          unfold f_X2_moveToCentral
          rw [hAn, en, hX, lt_x]
        have eA : f_X11_buyBonds A (nI b) p2 = (bonS (upd2 Y.2.2.1 kReserves b (S7.2.1 kReserves b + p2)) b, (upd2 X.2.1 kReserves b (S7.2.1 kReserves b + p2), X.2.2)) := by
          unfold f_X11_buyBonds
          rw [lt_x, lt_x, mv, lt_x, bank_nI hb, xR, lt_x, o1, lt_x]
        have eB : f_X12_buyBonds B (nI b) p2 = (bonS (upd2 Y.2.2.1 kReserves b (S7.2.1 kReserves b + p2)) b, (Y.2.1, upd2 Y.2.2.1 kReserves b (S7.2.1 kReserves b + p2), Y.2.2.2)) := by
          unfold f_X12_buyBonds
          rw [b3, lt_x, gd, lt_x, tail_yes, s1, hn, hY, eb, lt_x, yR, lt_x, o3, lt_x]
        refine Or.inr (Or.inr (Or.inr ⟨⟨b2 A, r3 A, w2, fun v4 e4 v6 e6 => ⟨?_, ?_, fun S9 e9 S10 e10 => ?_⟩⟩, ?_, ?_⟩))
        · rw [w1] at e4
          rw [← e4, if_neg c] at e6
          rw [← e6]
          exact c1
        · intro j hj σ e
          rw [hAn, en] at hj ⊢
          rw [← e]
          have q := key j hj
          rw [q.2.1.sh kAuctions 0 (by decide), q.2.2.2.1 kAuctions (by decide)]
          exact hnn
        · rw [mv] at e9
          subst e9
          rw [bank_nI hb, xR] at e10
          rw [← e10]
          exact o2
        · intro v1 e1
          rw [b3] at e1
          subst e1
          refine ⟨fun _ _ _ _ => w4, fun v9 e9 => ?_⟩
          rw [gd] at e9
          subst e9
          refine okt_yes ?_
          rw [s1, hn]
          have pl : ∀ j o, j < 20 → o < 5 → inb (nI 5 * nI j + nI o) 100 := fun j o hj ho => by
            rw [place_r]
            exact inb_nI (by omega) (by omega)
          refine ⟨fun j hj σ e => ?_, fun j hj σ e => ⟨pl j b (by omega) (by omega), fun v16 _ => ⟨pl j b (by omega) (by omega), pl j b (by omega) (by omega), fun S19 _ => ⟨pl j 4 (by omega) (by omega), pl j 4 (by omega) (by omega)⟩⟩⟩, fun σ e => ⟨b1, b1, fun S25 e25 => ?_⟩⟩
          · rw [← e, (key j hj).2.2.2.1 kAuctions (by decide)]
            exact hnn
          · rw [hY] at e
            subst e
            rw [eb, yR] at e25
            rw [← e25]
            exact o4
        · exact (Good.mk (u := u + 10000) (x := (bonS (upd2 Y.2.2.1 kReserves b (S7.2.1 kReserves b + p2)) b, (upd2 X.2.1 kReserves b (S7.2.1 kReserves b + p2), X.2.2))) (y := (bonS (upd2 Y.2.2.1 kReserves b (S7.2.1 kReserves b + p2)) b, (Y.2.1, upd2 Y.2.2.1 kReserves b (S7.2.1 kReserves b + p2), Y.2.2.2))) ((congrFun ktn 0).trans s2) rfl q2 m2).of eA eB
    · obtain ⟨k1, k2⟩ := buyBonds_k (p2 := p2) 1 (b3 B) (show _ = nI 2 by rw [if_neg c1, r2, l0]) (fun _ => w4) c2
      exact Or.inr (Or.inl ⟨⟨b2 A, r1 A⟩, k1, k2⟩)
  · obtain ⟨k1, k2⟩ := buyBonds_k (p2 := p2) 0 (b2 B) (show _ = 1 from if_pos rfl) (fun q => absurd rfl q) c1
    exact Or.inl ⟨b1 A, k1, k2⟩
