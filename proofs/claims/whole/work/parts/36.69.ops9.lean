/-! window, bid -/
theorem window_ok {u : Int} {A B : Mem} (hu : u ≤ 5120000) (h : St u A.1 B.2.1) (p1 p2 : Int32) : (okx_X11_window_1 A p1 p2 ∧ ok_X12_window B p1 p2 ∧ f_X12_window B p1 p2 = (0, T0 B 1)) ∨ (okx_X11_window_2 A p1 p2 ∧ ok_X12_window B p1 p2 ∧ f_X12_window B p1 p2 = (0, T0 B (nI 2))) ∨ (okx_X11_window_3 A p1 p2 ∧ ok_X12_window B p1 p2 ∧ f_X12_window B p1 p2 = (0, T0 B (nI 3))) ∨ (ok_X11_window A p1 p2 ∧ ok_X12_window B p1 p2 ∧ Good (u + 10000) (f_X11_window A p1 p2) (f_X12_window B p1 p2)) := by
  rcases bnk_cases p1 with ⟨b1, b2, b3⟩ | ⟨b1, b2⟩
  · have hau : inb (B.2.1 kAuctions 0) 21 := h.2.2.2.2.2.2.1.1
    obtain ⟨w1, w2⟩ := room_C h.1 h.2 b1.2
    obtain ⟨w3, w4⟩ := room_R (B := B) hau b1.2
    rw [← b1.1] at w1 w2 w3 w4
    have w5 := roomS_toInt (b := ix p1) h.2 (by omega) b1.2
    have w6 := bonS_bd (o := ix p1) h.2 (by have := b1.2; omega)
    have okB : ok_X12_window B p1 p2 := fun v1 _ => ⟨fun _ v3 _ _ => ⟨b1, fun _ => w4⟩, fun v7 _ S8 _ v9 _ _ => ⟨b1, b1, fun _ _ => ⟨b1, b1, fun _ _ => b1⟩⟩⟩
    have sF : A.1 kHaveFailed (f_X3_bank A p1) = B.2.1 kHaveFailed (ix p1) := by
      rw [bank_in b1]
      exact h.1.sh kHaveFailed _ b1.2
    rcases rng_cases p2 1 (nI 10000) with ⟨r1, r2, r3, r4⟩ | ⟨r1, r2⟩
    · rw [w_1] at r1
      by_cases c : B.2.1 kHaveFailed (ix p1) = 0
      · have e1 : p2 ≤ (if roomS B.2.1 (ix p1) ≤ 0 then 0 else roomS B.2.1 (ix p1)) ↔ ¬ roomS B.2.1 (ix p1) < p2 := by
          by_cases z : roomS B.2.1 (ix p1) ≤ 0
          · rw [if_pos z]
            rw [w_le, w_0] at z
            rw [w_le, w_lt, w_0]
            omega
          · rw [if_neg z, w_le, w_lt]
            omega
        by_cases c' : roomS B.2.1 (ix p1) < p2
        · refine Or.inr (Or.inr (Or.inl ⟨⟨b2 A, r3 A, fun _ => w2, fun v7 e7 => ?_⟩, okB, ?_⟩))
          · rw [sF, if_pos c, w1, lt_x, if_pos c'] at e7
            exact e7.symm
          · unfold f_X12_window
            rw [b3, lt_x, if_neg c1, r4, l1, if_pos c, w3, show lt (if roomS B.2.1 (ix p1) ≤ 0 then (0 : Int32) else roomS B.2.1 (ix p1)) (fun (v8 : Int32) => if p2 ≤ v8 then (0 : Int32) else nI 3) = nI 3 by rw [lt_x, if_neg (fun q => (e1.mp q) c')], lt_x]
            exact tail_no c3 _ _
        · obtain ⟨S7, s1, s2, ⟨s3, s4⟩, -, -, s5⟩ := h.zero
          have e10k : (nI 10000).toInt = 10000 := nI_toInt (by omega)
          have c'' := c'
          rw [w_lt, w5] at c''
          have hR := (s4.2.2.2.1 (ix p1) b1.2)
          have hL := hR.2.2.1
          have sL7 : S7.2.1 kLent (ix p1) = B.2.1 kLent (ix p1) := congrFun (s5 kLent (by decide)) _
          have key := bor_ok (x := p2) hu s3 s4 b1.2 (fun q => absurd ((congrFun (s5 kHaveFailed (by decide)) (ix p1)).trans c) q) (by omega) (by omega) (by have := hR.1; omega) (by omega) (by rw [sL7]; omega)
          refine Or.inr (Or.inr (Or.inr ⟨⟨b2 A, r3 A, fun _ => w2, fun v7 e7 => ?_⟩, okB, ?_⟩))
          · rw [sF, if_pos c, w1, lt_x, if_neg c'] at e7
            rw [← e7]
            exact c1
          · have eB : f_X12_window B p1 p2 = (S7.2.1 kLent (ix p1) + p2, (S7.1, upd2 (upd2 S7.2.1 kLent (ix p1) (S7.2.1 kLent (ix p1) + p2)) kReserves (ix p1) (S7.2.1 kReserves (ix p1) + p2), S7.2.2)) := by
              unfold f_X12_window
              rw [b3, lt_x, if_neg c1, r4, l1, if_pos c, w3, show lt (if roomS B.2.1 (ix p1) ≤ 0 then (0 : Int32) else roomS B.2.1 (ix p1)) (fun (v8 : Int32) => if p2 ≤ v8 then (0 : Int32) else nI 3) = 0 by rw [lt_x, if_pos (e1.mpr c')], lt_x, tail_yes, s1, lt_x, lt_x]
              dsimp only
              rw [show ∀ x y : Int32, upd2 (upd2 S7.2.1 kLent (ix p1) x) kReserves (ix p1) y kLent (ix p1) = upd2 S7.2.1 kLent (ix p1) x kLent (ix p1) from fun _ _ => rfl, upd2_eq]
              rfl
            have eA : f_X11_window A p1 p2 = (S7.2.1 kLent (ix p1) + p2, (borC A.1 (ix p1) p2, A.2)) := by
              unfold f_X11_window
              rw [bank_in b1, bor_eq, lt_x, lt_x]
              dsimp only
              rw [show borC A.1 (ix p1) p2 kLent (ix p1) = A.1 kLent (ix p1) + p2 from upd2_eq, s3.sh kLent _ b1.2]
            rw [eA, eB]
            exact ⟨s2, rfl, key⟩
      · refine Or.inr (Or.inr (Or.inl ⟨⟨b2 A, r3 A, fun _ => w2, fun v7 e7 => ?_⟩, okB, ?_⟩))
        · rw [sF, if_neg c] at e7
          exact e7.symm
        · unfold f_X12_window
          rw [b3, lt_x, if_neg c1, r4, l1, if_neg c, lt_x]
          exact tail_no c3 _ _
    · refine Or.inr (Or.inl ⟨⟨b2 A, r1 A⟩, okB, ?_⟩)
      unfold f_X12_window
      rw [b3, lt_x, if_neg c1, r2, l0, lt_x]
      exact tail_no c2 _ _
  · refine Or.inl ⟨b1 A, ?_, ?_⟩
    · intro v1 e1
      rw [b2] at e1
      subst e1
      refine ⟨fun q => absurd rfl q, fun v7 e7 => ?_⟩
      rw [if_pos rfl] at e7
      subst e7
      exact okt_no c1
    · unfold f_X12_window
      rw [b2, lt_x, if_pos rfl, lt_x]
      exact tail_no c1 _ _
theorem bid_f {B : Mem} {p1 p2 p3 c : Int32} (v1 v2 v6 : Int32) (h1 : f_X12_isBank B p1 = v1) (h2 : f_X12_in B p2 (nI 50) (nI 100) = v2) (h6 : (if v2 = 0 then (0) else (lt (f_X12_in B p3 1 (nI 1000)) (fun (v4 : Int32) => if v4 = 0 then (0) else (1)))) = v6) (h12 : (if v1 = 0 then (1) else (if v6 = 0 then (nI 2) else (if (B.2.1 kHaveFailed (ix p1)) = 0 then (if (B.2.1 kBids 0) = (nI 12) then (nI 3) else (0)) else (nI 3)))) = c) (h0 : c ≠ 0) (hm : ¬ v1 = 0 → inb p1 4) : ok_X12_bid B p1 p2 p3 ∧ f_X12_bid B p1 p2 p3 = (0, T0 B c) := by
  constructor
  · intro w1 e1 w2 e2 w6 e6
    rw [h1] at e1
    subst e1
    rw [h2] at e2
    subst e2
    rw [h6] at e6
    subst e6
    refine ⟨fun q _ => hm q, fun w12 e12 => ?_⟩
    rw [h12] at e12
    subst e12
    exact okt_no h0
  · unfold f_X12_bid
    rw [h1, lt_x, h2, lt_x, h6, lt_x, h12, lt_x]
    exact tail_no h0 _ _
def bidR (R : Col) (n : Nat) (x y z : Int32) : Col := upd2 (upd2 (upd2 (upd2 R kBidBanks n x) kBidPrices n y) kBidNumbers n z) kBids 0 (nI (n + 1))
theorem N_bid {u v L : Int} {R : Col} {n : Nat} {x y z : Int32} (nn : Num u v L R) (hn : ix (R kBids 0) = n) (hn12 : n < 12) (hx : inb x 4) (hf : R kHaveFailed (ix x) = 0) (hy : 50 ≤ y.toInt ∧ y.toInt ≤ 100) (hz : 1 ≤ z.toInt ∧ z.toInt ≤ 1000) : Num u v L (bidR R n x y z) := by
  obtain ⟨nh, nu, np, nb, nv, nf, nl, nd, ns, nw, nq⟩ := nn
  refine ⟨nh, nu, np, nb, nv, nf, nl, ?_, ns, nw, nq⟩
  show zD (ru (R kBids) 0 (nI (n + 1))) (ru (R kBidBanks) n x) (ru (R kBidPrices) n y) (ru (R kBidNumbers) n z) (R kHaveFailed)
  obtain ⟨d1, d2, d3⟩ := nd
  refine ⟨?_, fun j hj => ?_, ?_⟩
  · rw [ru_eq]
    exact inb_nI (by omega) (by omega)
  · rw [ru_eq, ix_nI (by omega)] at hj
    by_cases e : j = n
    · subst e
      rw [ru_eq, ru_eq, ru_eq]
      exact ⟨hx, hf, hy.1, hy.2, hz.1, hz.2⟩
    · rw [ru_ne e, ru_ne e, ru_ne e]
      exact d2 j (by omega)
  · rw [ru_ne (by omega)]
    exact d3
theorem bid_ok {u : Int} {A B : Mem} (h : St u A.1 B.2.1) (p1 p2 p3 : Int32) : (okx_X11_bid_1 A p1 p2 p3 ∧ ok_X12_bid B p1 p2 p3 ∧ f_X12_bid B p1 p2 p3 = (0, T0 B 1)) ∨ (okx_X11_bid_2 A p1 p2 p3 ∧ ok_X12_bid B p1 p2 p3 ∧ f_X12_bid B p1 p2 p3 = (0, T0 B (nI 2))) ∨ (okx_X11_bid_3 A p1 p2 p3 ∧ ok_X12_bid B p1 p2 p3 ∧ f_X12_bid B p1 p2 p3 = (0, T0 B (nI 2))) ∨ (okx_X11_bid_4 A p1 p2 p3 ∧ ok_X12_bid B p1 p2 p3 ∧ f_X12_bid B p1 p2 p3 = (0, T0 B (nI 3))) ∨ (ok_X11_bid A p1 p2 p3 ∧ ok_X12_bid B p1 p2 p3 ∧ Good u (f_X11_bid A p1 p2 p3) (f_X12_bid B p1 p2 p3)) := by
  rcases bnk_cases p1 with ⟨b1, b2, b3⟩ | ⟨b1, b2⟩
  · have sF : A.1 kHaveFailed (f_X3_bank A p1) = B.2.1 kHaveFailed (ix p1) := by
      rw [bank_in b1]
      exact h.1.sh kHaveFailed _ b1.2
    have sN : A.1 kBids 0 = B.2.1 kBids 0 := h.1.sh kBids 0 (by decide)
    have nd : zD (B.2.1 kBids) (B.2.1 kBidBanks) (B.2.1 kBidPrices) (B.2.1 kBidNumbers) (B.2.1 kHaveFailed) := h.2.2.2.2.2.2.2.2.1
    obtain ⟨n, hn, hn13⟩ : ∃ n, B.2.1 kBids 0 = nI n ∧ n < 13 := ⟨_, nd.1.1, nd.1.2⟩
    rcases rng_cases p2 (nI 50) (nI 100) with ⟨q1, q2, q3, q4⟩ | ⟨q1, q2⟩
    · rcases rng_cases p3 1 (nI 1000) with ⟨r1, r2, r3, r4⟩ | ⟨r1, r2⟩
      · have h6 : (if (1 : Int32) = 0 then (0) else (lt (f_X12_in B p3 1 (nI 1000)) (fun (v4 : Int32) => if v4 = 0 then (0) else (1)))) = (1 : Int32) := by rw [if_neg c1, r4, l1]
        by_cases c : B.2.1 kHaveFailed (ix p1) = 0
        · by_cases c' : n = 12
          · obtain ⟨k1, k2⟩ := bid_f 1 1 1 (b3 B) (q4 B) h6 (show _ = nI 3 by rw [if_neg c1, if_neg c1, if_pos c, hn, c', if_pos rfl]) c3 (fun _ => b1)
            refine Or.inr (Or.inr (Or.inr (Or.inl ⟨⟨b2 A, q3 A, r3 A, fun v7 e7 => ?_⟩, k1, k2⟩)))
            unfold f_X2_bidsAreFull at e7
            rw [sF, if_pos c, sN, hn, c', if_neg (by decide), lt_x, lt_x, if_neg c1] at e7
            exact e7.symm
          · have hlt : nI n < nI 12 := by
              rw [w_lt, nI_toInt (by omega), nI_toInt (by omega)]
              omega
            have hne : ¬ nI n = nI 12 := fun q => c' (by rw [← ix_nI (show n < 2147483648 by omega), q]; rfl)
            have h12 : (if (1 : Int32) = 0 then (1) else (if (1 : Int32) = 0 then (nI 2) else (if (B.2.1 kHaveFailed (ix p1)) = 0 then (if (B.2.1 kBids 0) = (nI 12) then (nI 3) else (0)) else (nI 3)))) = 0 := by rw [if_neg c1, if_neg c1, if_pos c, hn, if_neg hne]
            obtain ⟨S7, s1, s2, ⟨s3, s4⟩, -, -, s5⟩ := h.zero
            have en : ix (nI n) = n := ix_nI (by omega)
            have ea : nI n + 1 = nI (n + 1) := nI_add n 1
            have hn7 : S7.2.1 kBids 0 = nI n := (congrFun (s5 kBids (by decide)) 0).trans hn
            have e50 : (nI 50).toInt = 50 := nI_toInt (by omega)
            have e100 : (nI 100).toInt = 100 := nI_toInt (by omega)
            have e1000 : (nI 1000).toInt = 1000 := nI_toInt (by omega)
            rw [w_1] at r1
            have eB : f_X12_bid B p1 p2 p3 = (nI (n + 1), (S7.1, bidR S7.2.1 n p1 p2 p3, S7.2.2)) := by
              unfold f_X12_bid
              rw [b3, lt_x, q4, lt_x, h6, lt_x, h12, lt_x, tail_yes, s1, hn7, en, lt_x]
              dsimp only
              rw [show upd2 S7.2.1 kBidBanks n p1 kBids 0 = nI n from hn7, en, lt_x]
              dsimp only
              rw [show upd2 (upd2 S7.2.1 kBidBanks n p1) kBidPrices n p2 kBids 0 = nI n from hn7, en, lt_x]
              dsimp only
              rw [show upd2 (upd2 (upd2 S7.2.1 kBidBanks n p1) kBidPrices n p2) kBidNumbers n p3 kBids 0 = nI n from hn7, lt_x, ea]
              dsimp only
              rw [upd2_eq]
              rfl
            have eA : f_X11_bid A p1 p2 p3 = (nI (n + 1), (bidR A.1 n p1 p2 p3, A.2)) := by
              unfold f_X11_bid f_X2_addBid
              rw [sN, hn, bid_nI (by omega)]
              simp only [lt_x]
              rw [show upd2 (upd2 (upd2 A.1 kBidBanks n p1) kBidPrices n p2) kBidNumbers n p3 kBids 0 = nI n from sN.trans hn, ea]
              unfold bidR
              rw [upd2_eq]
            have relB : Rel (bidR A.1 n p1 p2 p3) (bidR S7.2.1 n p1 p2 p3) 0 := (((s3.plain kBidBanks n (by decide) rfl).plain kBidPrices n (by decide) rfl).plain kBidNumbers n (by decide) rfl).plain kBids 0 (by decide) rfl
            have numB := N_bid (x := p1) (y := p2) (z := p3) s4 (show ix (S7.2.1 kBids 0) = n by rw [hn7, en]) (by omega) b1 ((congrFun (s5 kHaveFailed (by decide)) _).trans c) ⟨by omega, by omega⟩ ⟨r1, by omega⟩
            refine Or.inr (Or.inr (Or.inr (Or.inr ⟨⟨b2 A, q3 A, r3 A, fun v7 e7 => ?_⟩, ?_, ?_⟩)))
            · unfold f_X2_bidsAreFull at e7
              rw [sF, if_pos c, sN, hn, if_pos hlt, lt_x, lt_x, if_pos rfl] at e7
              rw [← e7]
              exact c1
            · intro w1 e1 w2 e2 w6 e6
              rw [b3] at e1
              subst e1
              rw [q4] at e2
              subst e2
              rw [h6] at e6
              subst e6
              refine ⟨fun _ _ => b1, fun w12 e12 => ?_⟩
              rw [h12] at e12
              subst e12
              refine okt_yes ?_
              rw [s1]
              have ib : inb (nI n) 12 := inb_nI (by omega) (by omega)
              refine ⟨by rw [hn7]; exact ib, fun S17 e17 => ⟨?_, fun S19 e19 => ?_⟩⟩
              · rw [← e17]
                show inb (S7.2.1 kBids 0) 12
                rw [hn7]
                exact ib
              · rw [← e19, ← e17]
                show inb (S7.2.1 kBids 0) 12
                rw [hn7]
                exact ib
            · rw [eA, eB]
              exact ⟨s2, rfl, relB, numB⟩
        · obtain ⟨k1, k2⟩ := bid_f 1 1 1 (b3 B) (q4 B) h6 (show _ = nI 3 by rw [if_neg c1, if_neg c1, if_neg c]) c3 (fun _ => b1)
          refine Or.inr (Or.inr (Or.inr (Or.inl ⟨⟨b2 A, q3 A, r3 A, fun v7 e7 => ?_⟩, k1, k2⟩)))
          rw [sF, if_neg c] at e7
          exact e7.symm
      · have h6 : (if (1 : Int32) = 0 then (0) else (lt (f_X12_in B p3 1 (nI 1000)) (fun (v4 : Int32) => if v4 = 0 then (0) else (1)))) = (0 : Int32) := by rw [if_neg c1, r2, l0]
        obtain ⟨k1, k2⟩ := bid_f 1 1 0 (b3 B) (q4 B) h6 (show _ = nI 2 by rw [if_neg c1, if_pos rfl]) c2 (fun _ => b1)
        exact Or.inr (Or.inr (Or.inl ⟨⟨b2 A, q3 A, r1 A⟩, k1, k2⟩))
    · have h6 : (if (0 : Int32) = 0 then (0) else (lt (f_X12_in B p3 1 (nI 1000)) (fun (v4 : Int32) => if v4 = 0 then (0) else (1)))) = (0 : Int32) := if_pos rfl
      obtain ⟨k1, k2⟩ := bid_f 1 0 0 (b3 B) (q2 B) h6 (show _ = nI 2 by rw [if_neg c1, if_pos rfl]) c2 (fun _ => b1)
      exact Or.inr (Or.inl ⟨⟨b2 A, q1 A⟩, k1, k2⟩)
  · obtain ⟨v2, h2⟩ : ∃ v2, f_X12_in B p2 (nI 50) (nI 100) = v2 := ⟨_, rfl⟩
    obtain ⟨v6, h6⟩ : ∃ v6 : Int32, (if v2 = 0 then (0) else (lt (f_X12_in B p3 1 (nI 1000)) (fun (v4 : Int32) => if v4 = 0 then (0) else (1)))) = v6 := ⟨_, rfl⟩
    obtain ⟨k1, k2⟩ := bid_f 0 v2 v6 (b2 B) h2 h6 (show _ = 1 from if_pos rfl) c1 (fun q => absurd rfl q)
    exact Or.inl ⟨b1 A, k1, k2⟩
