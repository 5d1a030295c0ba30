/-! an auction -/
def Good (u : Int) (x y : Int32 × Mem) : Prop := y.2.2.1 kThrown 0 = 0 ∧ y.1 = x.1 ∧ St u x.2.1 y.2.2.1
theorem sale_ok {u v L : Int} {A B : Mem} {d w D : Int32} {n a : Nat} {ge : Row} (hr : Rel A.1 B.2.1 d) (nn : Num u v L B.2.1) (hv : v ≤ 5120000) (hb : SB A B n a ge w) : ok_X2_sell A w D ∧ (∀ j, j < n → okr_se w j (iter (b72_X12_auction w) (B.1, upd2 B.2.1 kDues a D, B.2.2) j)) ∧ (∀ j, j ≤ n → (iter (b72_X12_auction w) (B.1, upd2 B.2.1 kDues a D, B.2.2) j).2.1 kBids 0 = nI n) ∧ ∃ X Y : Mem, f_X2_sell A w D = (upd2 (auA a D X.1) kBids 0 0, (f_X2_sell A w D).2) ∧ iter (b72_X12_auction w) (B.1, upd2 B.2.1 kDues a D, B.2.2) n = Y ∧ SI u v L A (B.1, upd2 B.2.1 kDues a D, B.2.2) a D ge w d n X Y := by
  have hb0 := hb
  obtain ⟨hn, ha, bA, bB, hA, hB, hG, hs, hre⟩ := hb
  have en : ix (nI n) = n := ix_nI (by omega)
  have ea : ix (nI a) = a := ix_nI (by omega)
  have nf : zF (B.2.1 kAuctions) (B.2.1 kBonds) (B.2.1 kHaveFailed) := nn.2.2.2.2.2.1
  have z4 := (nf.2 a ha).2.2.2 (by rw [hB, ea]; exact Nat.le_refl _)
  obtain ⟨B2, hB2⟩ : ∃ z : Mem, ((B.1, upd2 B.2.1 kDues a D, B.2.2) : Mem) = z := ⟨_, rfl⟩
  have eB2 : B2.2.1 = upd2 B.2.1 kDues a D := by rw [← hB2]
  have oB2 : ∀ k, k ≠ kDues → B2.2.1 k = B.2.1 k := fun k hk => by
    rw [eB2]
    exact u_ne hk
  have hb2 : SB A B2 n a ge w := by
    refine ⟨hn, ha, bA, by rw [oB2 _ (by decide)]; exact bB, hA, by rw [oB2 _ (by decide)]; exact hB, fun q hq => ?_, hs, fun b hb4 => ?_⟩
    · rw [oB2 kBidGets (by decide), oB2 kBidBanks (by decide), oB2 kHaveFailed (by decide)]
      exact hG q hq
    · rw [oB2 kBidBanks (by decide), oB2 kReserves (by decide)]
      exact hre b hb4
  have s0 : SI u v L A B2 a D ge w d 0 A B2 := by
    refine ⟨?_, ?_, fun _ _ _ _ => rfl, fun _ _ _ _ => rfl, fun b _ => ?_, ?_⟩
    · rw [eB2]
      unfold auA auR
      exact (hr.plain kDues a (by decide) (v := D) rfl).auct (by show ix (B.2.1 kAuctions 0) = a; rw [hB, ea]) ha (z4 4 (by omega))
    · rw [eB2]
      have := N_auct nn (a := a) (by rw [hB, ea]) ha
      exact this
    · show _ = _ - (0 : Int)
      omega
    · rw [oB2 kBonds (by decide)]
      rw [sumI_congr (g := fun _ => 0) 5 (fun o ho => by rw [z4 o ho, w_0])]
      rfl
  rw [hB2]
  have key := iter2 (f := b3_X2_sell w) (g := b72_X12_auction w) (a := A) (b := B2) (SI u v L A B2 a D ge w d) (n := n) s0 (fun j hj x y q => (sell_step hv hb2 hj q).2)
  have bR : ∀ j, j ≤ n → (iter (b72_X12_auction w) B2 j).2.1 kBids 0 = nI n := fun j hj => by
    rw [(key j hj).2.2.2.1 kBids (by decide) (by decide) (by decide), oB2 kBids (by decide)]
    exact bB
  refine ⟨fun j hj σ e => ?_, fun j hj => (sell_step hv hb2 hj (key j (by omega))).1, bR, iter (b3_X2_sell w) A n, iter (b72_X12_auction w) B2 n, ?_, rfl, key n (Nat.le_refl _)⟩
  · rw [bA, en] at hj ⊢
    rw [← e, (key j hj).2.2.1 kBids (by decide) (by decide) (by decide)]
    exact bA
  · obtain ⟨X, hX⟩ : ∃ z, iter (b3_X2_sell w) A n = z := ⟨_, rfl⟩
    have kA : X.1 kAuctions 0 = nI a := by
      rw [← hX, (key n (Nat.le_refl _)).2.2.1 kAuctions (by decide) (by decide) (by decide)]
      exact hA
    have eq : f_X2_sell A w D = (upd2 (upd2 (upd2 X.1 kDues a D) kAuctions 0 (nI a + 1)) kBids 0 0, X.2) := by
      unfold f_X2_sell
      rw [bA, en, hX, lt_x, kA, if_neg (nI_pos (by omega)), if_neg (nI_ge (by omega) (by omega)), ea, lt_x, lt_x, lt_x, lt_x]
      have k2 : upd2 X.1 kDues a D kAuctions 0 = nI a := kA
      dsimp only
      rw [k2]
    rw [hX, eq, show nI a + 1 = nI (a + 1) from nI_add a 1]
    rfl
theorem auct_code {B : Mem} {p1 p2 c : Int32} (v1 : Int32) (h1 : ∀ S, f_X12_in S p1 1 (nI 10000) = v1) (hc : (if v1 = 0 then (1) else (lt (f_X12_in B p2 1 (nI 50)) (fun (v3 : Int32) => if v3 = 0 then (1) else (if (B.2.1 kAuctions 0) = (nI 20) then (nI 2) else (0))))) = c) (h0 : c ≠ 0) : ok_X12_auction B p1 p2 ∧ f_X12_auction B p1 p2 = (0, T0 B c) := by
  constructor
  · intro v e1 v6 e6
    rw [h1] at e1
    subst e1
    rw [hc] at e6
    subst e6
    exact okt_no h0
  · unfold f_X12_auction
    rw [h1, lt_x, hc, lt_x]
    exact tail_no h0 _ _
theorem auction_ok {u : Int} {A B : Mem} (hu : u ≤ 5120000) (h : St u A.1 B.2.1) (p1 p2 : Int32) : (okx_X11_auction_1 A p1 p2 ∧ ok_X12_auction B p1 p2 ∧ f_X12_auction B p1 p2 = (0, T0 B 1)) ∨ (okx_X11_auction_2 A p1 p2 ∧ ok_X12_auction B p1 p2 ∧ f_X12_auction B p1 p2 = (0, T0 B 1)) ∨ (okx_X11_auction_3 A p1 p2 ∧ ok_X12_auction B p1 p2 ∧ f_X12_auction B p1 p2 = (0, T0 B (nI 2))) ∨ (ok_X11_auction A p1 p2 ∧ ok_X12_auction B p1 p2 ∧ Good u (f_X11_auction A p1 p2) (f_X12_auction B p1 p2)) := by
  have nf : zF (B.2.1 kAuctions) (B.2.1 kBonds) (B.2.1 kHaveFailed) := h.2.2.2.2.2.2.1
  have hAu : A.1 kAuctions 0 = B.2.1 kAuctions 0 := h.1.sh kAuctions 0 (by decide)
  obtain ⟨a, hau, ha⟩ : ∃ a, B.2.1 kAuctions 0 = nI a ∧ a < 21 := ⟨_, nf.1.1, nf.1.2⟩
  rcases rng_cases p1 1 (nI 10000) with ⟨a1, a2, a3, a4⟩ | ⟨a1, a2⟩
  · rcases rng_cases p2 1 (nI 50) with ⟨b1, b2, b3, b4⟩ | ⟨b1, b2⟩
    · by_cases c : a = 20
      · have cn : (nI 20 = nI 20) := rfl
        obtain ⟨k1, k2⟩ := auct_code (B := B) (p1 := p1) (p2 := p2) (c := nI 2) 1 a4 (by rw [if_neg (by decide), b4, lt_x, if_neg (by decide), hau, c, if_pos rfl]) (by decide)
        refine Or.inr (Or.inr (Or.inl ⟨⟨a3 A, b3 A, fun v3 e3 v5 e5 => ?_⟩, k1, k2⟩))
        unfold f_X2_auctionsAreFull at e3
        rw [hAu, hau, c, if_neg (by decide), lt_x] at e3
        rw [← e3, if_neg (by decide)] at e5
        exact e5.symm
      · have ha20 : a < 20 := by omega
        have hne : ¬ nI a = nI 20 := fun q => c (by rw [← ix_nI (show a < 2147483648 by omega), q]; rfl)
        have hlt : nI a < nI 20 := by
          rw [w_lt, nI_toInt (by omega), nI_toInt (by omega)]
          omega
        refine Or.inr (Or.inr (Or.inr ?_))
        have hS : St u A.1 (T0 B 0).2.1 := h.thr 0
        obtain ⟨S7, hS7⟩ : ∃ z, T0 B 0 = z := ⟨_, rfl⟩
        have h0 : S7.2.1 kThrown 0 = 0 := by
          rw [← hS7]
          exact (upd2_eq : upd2 B.2.1 kThrown 0 0 kThrown 0 = 0)
        rw [hS7] at hS
        have hau7 : S7.2.1 kAuctions 0 = nI a := by
          rw [← hS7]
          exact hau
        obtain ⟨r, n⟩ := hS
        have nd : zD (S7.2.1 kBids) (S7.2.1 kBidBanks) (S7.2.1 kBidPrices) (S7.2.1 kBidNumbers) (S7.2.1 kHaveFailed) := n.2.2.2.2.2.2.2.1
        obtain ⟨nb, hnb, hnb13⟩ : ∃ nb, S7.2.1 kBids 0 = nI nb ∧ nb < 13 := ⟨_, nd.1.1, nd.1.2⟩
        have enb : ix (nI nb) = nb := ix_nI (by omega)
        have e1 : (1 : Int32).toInt = 1 := by decide
        have e10k : (nI 10000).toInt = 10000 := nI_toInt (by omega)
        obtain ⟨t1, t2, t3, se, ge, pr, left, t4, t5, t6, t7⟩ := take_ok (p := p1) (n := nb) r n hu (by rw [hnb, enb]) (by omega)
        obtain ⟨A8, hA8⟩ : ∃ z, (f_X2_takeBids A p1).2 = z := ⟨_, rfl⟩
        obtain ⟨B8, hB8⟩ : ∃ z, (f_X12_takesBids S7 p1).2 = z := ⟨_, rfl⟩
        obtain ⟨w, hw⟩ : ∃ z, (f_X12_takesBids S7 p1).1 = z := ⟨_, rfl⟩
        rw [hw] at t3 t7
        rw [hA8] at t4 t6
        rw [hB8] at t5 t6
        have sB : ∀ k, scrB k = false → k ≠ 23 ∧ k ≠ 46 ∧ k ≠ 47 := fun k hk => ⟨fun q => by rw [q] at hk; exact absurd hk (by decide), fun q => by rw [q] at hk; exact absurd hk (by decide), fun q => by rw [q] at hk; exact absurd hk (by decide)⟩
        have r8 : Rel A8.1 B8.2.1 0 := r.scr (fun k hk => t4 k (sB k hk).1 (sB k hk).2.1 (sB k hk).2.2) (fun k hk => t5 k (sB k hk).1 (sB k hk).2.1 (sB k hk).2.2)
        have n8 : Num u u 171000000 B8.2.1 := n.scr (fun k hk => t5 k (sB k hk).1 (sB k hk).2.1 (sB k hk).2.2)
        have c8 : ∀ k, k ≠ 23 → k ≠ 46 → k ≠ 47 → B8.2.1 k = S7.2.1 k := t5
        obtain ⟨i1, i2, i3, i4, i5⟩ := t7
        have hsb : SB A8 B8 nb a ge w := by
          refine ⟨by omega, ha20, ?_, ?_, ?_, ?_, fun q hq => ?_, by omega, fun b hb4 => ?_⟩
          · rw [r8.sh kBids 0 (by decide), c8 kBids (by decide) (by decide) (by decide)]
            exact hnb
          · rw [c8 kBids (by decide) (by decide) (by decide)]
            exact hnb
          · rw [r8.sh kAuctions 0 (by decide), c8 kAuctions (by decide) (by decide) (by decide)]
            exact hau7
          · rw [c8 kAuctions (by decide) (by decide) (by decide)]
            exact hau7
          · obtain ⟨g1, g2⟩ := t6 q hq
            obtain ⟨g3, g4, -⟩ := i1 q hq
            obtain ⟨d1, d2, -⟩ := nd.2.1 q (by rw [hnb, enb]; exact hq)
            refine ⟨g1, g2, g3, g4, fun hne => ?_, r8.sh kBidBanks q (show q < 12 by omega), ?_, ?_⟩
            · rcases i5 with ⟨-, i5⟩ | ⟨w1, w2, -⟩
              · exact absurd (i5 q hq) hne
              · exact ⟨w1, w2⟩
            · rw [c8 kBidBanks (by decide) (by decide) (by decide)]
              exact d1
            · rw [c8 kBidBanks (by decide) (by decide) (by decide), c8 kHaveFailed (by decide) (by decide) (by decide)]
              exact d2
          · obtain ⟨p1', p2'⟩ := i4 b hb4
            rw [c8 kBidBanks (by decide) (by decide) (by decide), c8 kReserves (by decide) (by decide) (by decide)]
            refine Int.le_trans ?_ p2'
            rw [p1']
            refine sumI_le nb (fun q hq => ?_)
            show (if S7.2.1 kBidBanks q = nI b then cst (ge q).toInt w.toInt else 0) ≤ (if S7.2.1 kBidBanks q = nI b then cst (ge q).toInt (S7.2.1 kBidPrices q).toInt else 0)
            split
            · by_cases z : ge q = 0
              · rw [z, w_0, cst_0, cst_0]
                exact Int.le_refl _
              · rcases i5 with ⟨-, i5⟩ | ⟨-, -, -, i6⟩
                · exact absurd (i5 q hq) z
                · exact cst_le (i1 q hq).1 (i6 q hq z)
            · exact Int.le_refl _
        have hdy : A8.1 kDays 0 = B8.2.1 kDays 0 := r8.sh kDays 0 (by decide)
        obtain ⟨s1, s2, s3, X, Y, s4, s5, s6⟩ := sale_ok (D := B8.2.1 kDays 0 + p2) r8 n8 hu hsb
        have hb8 : B8.2.1 kBids 0 = nI nb := hsb.2.2.2.1
        have ha8 : B8.2.1 kAuctions 0 = nI a := hsb.2.2.2.2.2.1
        have ea : ix (nI a) = a := ix_nI (by omega)
        have eA : f_X11_auction A p1 p2 = (w, f_X2_sell A8 w (B8.2.1 kDays 0 + p2)) := by
          unfold f_X11_auction
          rw [lt_x, lt_x, hA8, t3, lt_x, lt_x, hdy, lt_x]
        have gd : (if (1 : Int32) = 0 then (1) else (lt (f_X12_in B p2 1 (nI 50)) (fun (v3 : Int32) => if v3 = 0 then (1) else (if (B.2.1 kAuctions 0) = (nI 20) then (nI 2) else (0))))) = 0 := by
          rw [if_neg (by decide), b4, lt_x, if_neg (by decide), hau, if_neg hne]
        have yA : Y.2.1 kAuctions 0 = nI a := by
          rw [s6.2.2.2.1 kAuctions (by decide) (by decide) (by decide)]
          exact ha8
        have eB : f_X12_auction B p1 p2 = (w, (Y.1, upd2 (upd2 Y.2.1 kAuctions 0 (nI a + 1)) kBids 0 0, Y.2.2)) := by
          unfold f_X12_auction
          rw [a4, lt_x, gd, lt_x, tail_yes, hS7, hB8, hw, lt_x, lt_x, ha8, ea, lt_x]
          dsimp only
          rw [show upd2 B8.2.1 kDues a (B8.2.1 kDays 0 + p2) kBids 0 = nI nb from hb8, enb, s5, lt_x, lt_x, lt_x, yA]
        refine ⟨⟨a3 A, b3 A, fun v3 e3 v5 e5 => ⟨?_, t1, fun S8 e8 v9 e9 => ?_⟩⟩, ?_, ?_⟩
        · unfold f_X2_auctionsAreFull at e3
          rw [hAu, hau, if_pos hlt, lt_x] at e3
          rw [← e3, if_pos rfl] at e5
          rw [← e5]
          exact (by decide : ¬ (1 : Int32) = 0)
        · rw [hA8] at e8
          rw [t3] at e9
          rw [← e8, ← e9, hdy]
          exact s1
        · intro v e1 v6 e6
          rw [a4] at e1
          subst e1
          rw [gd] at e6
          subst e6
          refine okt_yes ?_
          rw [hS7]
          refine ⟨t2, fun S11 e11 v12 e12 => ?_⟩
          rw [hB8] at e11
          rw [hw] at e12
          subst e11
          subst e12
          rw [ha8]
          refine ⟨inb_nI ha20 (by omega), fun S14 e14 => ?_⟩
          rw [ea] at e14
          subst e14
          have q0 : ix (upd2 B8.2.1 kDues a (B8.2.1 kDays 0 + p2) kBids 0) = nb := by
            rw [show upd2 B8.2.1 kDues a (B8.2.1 kDays 0 + p2) kBids 0 = nI nb from hb8, enb]
          refine ⟨fun j hj σ e => ?_, fun j hj σ e => ?_⟩
          · rw [show ix (upd2 B8.2.1 kDues a (B8.2.1 kDays 0 + p2) kBids 0) = nb from q0] at hj ⊢
            rw [← e]
            exact s3 j hj
          · rw [show ix (upd2 B8.2.1 kDues a (B8.2.1 kDays 0 + p2) kBids 0) = nb from q0] at hj
            have := s2 j hj
            rw [e] at this
            exact this
        · rw [eA, eB, s4]
          obtain ⟨z1, z2, z3, z4, -⟩ := s6
          have ee : nI a + 1 = nI (a + 1) := nI_add a 1
          refine ⟨?_, rfl, ?_, ?_⟩
          · show Y.2.1 kThrown 0 = 0
            rw [z4 kThrown (by decide) (by decide) (by decide)]
            show B8.2.1 kThrown 0 = 0
            rw [c8 kThrown (by decide) (by decide) (by decide)]
            exact h0
          · show Rel (upd2 (auA a (B8.2.1 kDays 0 + p2) X.1) kBids 0 0) (upd2 (upd2 Y.2.1 kAuctions 0 (nI a + 1)) kBids 0 0) 0
            rw [ee]
            exact z1.plain kBids 0 (by decide) (v := 0) rfl
          · show Num u u 171000000 (upd2 (upd2 Y.2.1 kAuctions 0 (nI a + 1)) kBids 0 0)
            rw [ee]
            obtain ⟨nh, nu, np, nb', nv, nf', nl, nd', ns, nw, nq⟩ := z2
            have nd' : zD (Y.2.1 kBids) (Y.2.1 kBidBanks) (Y.2.1 kBidPrices) (Y.2.1 kBidNumbers) (Y.2.1 kHaveFailed) := nd'
            refine ⟨nh, nu, np, nb', nv, nf', nl, ?_, ns, nw, nq⟩
            show zD (ru (Y.2.1 kBids) 0 0) (Y.2.1 kBidBanks) (Y.2.1 kBidPrices) (Y.2.1 kBidNumbers) (Y.2.1 kHaveFailed)
            refine ⟨by rw [ru_eq]; exact inb_nI (show 0 < 13 by omega) (by omega), fun j hj => ?_, nd'.2.2⟩
            rw [ru_eq] at hj
            exact absurd hj (by rw [show ix (0 : Int32) = 0 from ix_nI (show 0 < 2147483648 by omega)]; omega)
    · obtain ⟨k1, k2⟩ := auct_code (B := B) (p1 := p1) (p2 := p2) (c := 1) 1 a4 (by rw [if_neg (by decide), b2, lt_x, if_pos rfl]) (by decide)
      exact Or.inr (Or.inl ⟨⟨a3 A, b1 A⟩, k1, k2⟩)
  · obtain ⟨k1, k2⟩ := auct_code (B := B) (p1 := p1) (p2 := p2) (c := 1) 0 a2 (by rw [if_pos rfl]) (by decide)
    exact Or.inl ⟨a1 A, k1, k2⟩
