/-! bids are taken: all bids -/
theorem zp_C (A : Mem) : ∀ m, m ≤ 4 → (∀ k, k ≠ 23 → (iter b2_X2_takeBids A m).1 k = A.1 k) ∧ ∀ b, b < m → (iter b2_X2_takeBids A m).1 kPromised b = 0 := by
  refine iter1 (fun m (x : Mem) => (∀ k, k ≠ 23 → x.1 k = A.1 k) ∧ ∀ b, b < m → x.1 kPromised b = 0) ⟨fun _ _ => rfl, fun b hb => by omega⟩ (fun j hj x q => ?_)
  obtain ⟨q1, q2⟩ := q
  unfold b2_X2_takeBids
  rw [bank_nI hj, lt_x]
  refine ⟨fun k hk => (u_ne hk).trans (q1 k hk), fun b hb => ?_⟩
  show ru (x.1 kPromised) j 0 b = 0
  by_cases c : b = j
  · subst c
    rw [ru_eq]
  · rw [ru_ne c]
    exact q2 b (by omega)
theorem zp_R (A : Mem) : ∀ m, m ≤ 4 → (∀ k, k ≠ 23 → (iter b7_X12_takesBids A m).2.1 k = A.2.1 k) ∧ ∀ b, b < m → (iter b7_X12_takesBids A m).2.1 kPromised b = 0 := by
  refine iter1 (fun m (x : Mem) => (∀ k, k ≠ 23 → x.2.1 k = A.2.1 k) ∧ ∀ b, b < m → x.2.1 kPromised b = 0) ⟨fun _ _ => rfl, fun b hb => by omega⟩ (fun j hj x q => ?_)
  obtain ⟨q1, q2⟩ := q
  unfold b7_X12_takesBids
  rw [lt_x]
  refine ⟨fun k hk => (u_ne hk).trans (q1 k hk), fun b hb => ?_⟩
  show ru (x.2.1 kPromised) j 0 b = 0
  by_cases c : b = j
  · subst c
    rw [ru_eq]
  · rw [ru_ne c]
    exact q2 b (by omega)
theorem zg_C (A : Mem) {n : Nat} (hn : n ≤ 12) : ∀ m, m ≤ n → (∀ k, k ≠ 46 → k ≠ 47 → (iter b24_X2_takeBids A m).1 k = A.1 k) ∧ ∀ q, q < m → (iter b24_X2_takeBids A m).1 kAreSeen q = 0 ∧ (iter b24_X2_takeBids A m).1 kBidGets q = 0 := by
  refine iter1 (fun m (x : Mem) => (∀ k, k ≠ 46 → k ≠ 47 → x.1 k = A.1 k) ∧ ∀ q, q < m → x.1 kAreSeen q = 0 ∧ x.1 kBidGets q = 0) ⟨fun _ _ _ => rfl, fun b hb => by omega⟩ (fun j hj x q => ?_)
  obtain ⟨q1, q2⟩ := q
  unfold b24_X2_takeBids
  rw [bid_nI (by omega), lt_x, bid_nI (by omega), lt_x]
  refine ⟨fun k h1 h2 => ((u_ne h1).trans (u_ne h2)).trans (q1 k h1 h2), fun b hb => ?_⟩
  show ru (x.1 kAreSeen) j 0 b = 0 ∧ ru (x.1 kBidGets) j 0 b = 0
  by_cases c : b = j
  · subst c
    rw [ru_eq, ru_eq]
    exact ⟨rfl, rfl⟩
  · rw [ru_ne c, ru_ne c]
    exact q2 b (by omega)
theorem zg_R (A : Mem) {n : Nat} : ∀ m, m ≤ n → (∀ k, k ≠ 46 → k ≠ 47 → (iter b30_X12_takesBids A m).2.1 k = A.2.1 k) ∧ ∀ q, q < m → (iter b30_X12_takesBids A m).2.1 kAreSeen q = 0 ∧ (iter b30_X12_takesBids A m).2.1 kBidGets q = 0 := by
  refine iter1 (fun m (x : Mem) => (∀ k, k ≠ 46 → k ≠ 47 → x.2.1 k = A.2.1 k) ∧ ∀ q, q < m → x.2.1 kAreSeen q = 0 ∧ x.2.1 kBidGets q = 0) ⟨fun _ _ _ => rfl, fun b hb => by omega⟩ (fun j hj x q => ?_)
  obtain ⟨q1, q2⟩ := q
  unfold b30_X12_takesBids
  rw [lt_x, lt_x]
  refine ⟨fun k h1 h2 => ((u_ne h1).trans (u_ne h2)).trans (q1 k h1 h2), fun b hb => ?_⟩
  show ru (x.2.1 kAreSeen) j 0 b = 0 ∧ ru (x.2.1 kBidGets) j 0 b = 0
  by_cases c : b = j
  · subst c
    rw [ru_eq, ru_eq]
    exact ⟨rfl, rfl⟩
  · rw [ru_ne c, ru_ne c]
    exact q2 b (by omega)
theorem tk_all {u v L N : Int} {C R : Col} {d : Int32} {n : Nat} {se ge pr : Row} {X : Int32 × Int32 × Mem} {Y : Int32 × Int32 × Int32 × Mem} (h : Rel C R d) (nn : Num u v L R) (hv : v ≤ 5120000) (hn : ix (R kBids 0) = n) (t : TB C R n N se ge pr 0 X Y) : ∀ j, j ≤ n → (∃ se2 ge2 pr2 X2 Y2, iterE b64_X2_takeBids X j = .inl X2 ∧ iterE b67_X12_takesBids Y j = .inl Y2 ∧ TB C R n N se2 ge2 pr2 j X2 Y2) ∨ (∃ se2 ge2 pr2 X2 Y2 j2, iterE b64_X2_takeBids X j = .inr X2 ∧ iterE b67_X12_takesBids Y j = .inr Y2 ∧ TB C R n N se2 ge2 pr2 j2 X2 Y2) := by
  intro j
  induction j with
  | zero => intro _; exact Or.inl ⟨se, ge, pr, X, Y, rfl, rfl, t⟩
  | succ j ih =>
    intro hj
    rcases ih (by omega) with ⟨se2, ge2, pr2, X2, Y2, i1, i2, i3⟩ | ⟨se2, ge2, pr2, X2, Y2, j2, i1, i2, i3⟩
    · by_cases c : X2.2.1 ≤ 0
      · refine Or.inr ⟨se2, ge2, pr2, X2, Y2, j, ?_, ?_, i3⟩
        · refine iterE_stop i1 ?_ (j + 1) (by omega)
          unfold b64_X2_takeBids
          rw [if_pos c]
        · refine iterE_stop i2 ?_ (j + 1) (by omega)
          unfold b67_X12_takesBids
          have c2 : Y2.1 ≤ 0 := by rw [i3.2.2.2.2.1]; exact c
          rw [if_pos c2]
          split <;> rfl
      · obtain ⟨-, -, se3, ge3, pr3, X3, Y3, k1, k2, k3⟩ := tk_step h nn hv hn (by omega) i3 c
        exact Or.inl ⟨se3, ge3, pr3, X3, Y3, iterE_go i1 k1, iterE_go i2 k2, k3⟩
    · exact Or.inr ⟨se2, ge2, pr2, X2, Y2, j2, iterE_in i1, iterE_in i2, i3⟩
theorem tk_out {u v L N : Int} {C R : Col} {n j : Nat} {se ge pr : Row} {X : Int32 × Int32 × Mem} {Y : Int32 × Int32 × Int32 × Mem} (nn : Num u v L R) (hn : ix (R kBids 0) = n) (hj : n ≤ j) (t : TB C R n N se ge pr j X Y) : Y.2.2.1 = -1 := by
  obtain ⟨t1, t2, t3, t4, t5, t6, t7, t8, t9⟩ := t
  have nd := nn.2.2.2.2.2.2.2.1
  rw [show zD _ _ _ _ _ = zD (R kBids) (R kBidBanks) (R kBidPrices) (R kBidNumbers) (R kHaveFailed) from rfl] at nd
  have hn13 := nd.1.2
  have hn12 : n ≤ 12 := by omega
  have h0 := cn_0 (ch := un se) n (by omega)
  rcases hb_spec (se := se) nd.2.2 n hn12 (fun q hq => (nd.2.1 q (by omega)).2.2.1) with ⟨z, -⟩ | ⟨z1, z2, -⟩
  · rw [t7, z]
    rfl
  · have := h0 _ z1
    unfold un at this
    rw [if_pos z2] at this
    exact absurd this (by decide)
theorem tk_end {u v L N : Int} {C R : Col} {d : Int32} {n : Nat} {se ge pr : Row} {X : Int32 × Int32 × Mem} {Y : Int32 × Int32 × Int32 × Mem} (h : Rel C R d) (nn : Num u v L R) (hv : v ≤ 5120000) (hn : ix (R kBids 0) = n) (t : TB C R n N se ge pr 0 X Y) : ∃ se2 ge2 pr2 X2 Y2 j2, outE (iterE b64_X2_takeBids X n) = X2 ∧ (∀ m, n < m → iterE b67_X12_takesBids Y m = .inr Y2) ∧ TB C R n N se2 ge2 pr2 j2 X2 Y2 := by
  rcases tk_all h nn hv hn t n (Nat.le_refl _) with ⟨se2, ge2, pr2, X2, Y2, i1, i2, i3⟩ | ⟨se2, ge2, pr2, X2, Y2, j2, i1, i2, i3⟩
  · refine ⟨se2, ge2, pr2, X2, Y2, n, by rw [i1]; rfl, fun m hm => iterE_stop i2 ?_ m hm, i3⟩
    unfold b67_X12_takesBids
    rw [if_pos (tk_out nn hn (Nat.le_refl _) i3)]
  · refine ⟨se2, ge2, pr2, X2, Y2, j2, by rw [i1]; rfl, ?_, i3⟩
    have stay : ∀ m, n ≤ m → iterE b67_X12_takesBids Y m = .inr Y2 := by
      intro m hm
      induction m with
      | zero =>
        have : n = 0 := by omega
        subst this
        exact i2
      | succ m ihm =>
        by_cases c : n = m + 1
        · rw [← c]
          exact i2
        · exact iterE_in (ihm (by omega))
    exact fun m hm => stay m (by omega)
theorem take_ok {u v L : Int} {A B : Mem} {d p : Int32} {n : Nat} (h : Rel A.1 B.2.1 d) (nn : Num u v L B.2.1) (hv : v ≤ 5120000) (hn : ix (B.2.1 kBids 0) = n) (hp : 0 ≤ p.toInt) : ok_X2_takeBids A p ∧ ok_X12_takesBids B p ∧ (f_X2_takeBids A p).1 = (f_X12_takesBids B p).1 ∧ ∃ se ge pr left, (∀ k, k ≠ 23 → k ≠ 46 → k ≠ 47 → (f_X2_takeBids A p).2.1 k = A.1 k) ∧ (∀ k, k ≠ 23 → k ≠ 46 → k ≠ 47 → (f_X12_takesBids B p).2.2.1 k = B.2.1 k) ∧ (∀ q, q < n → (f_X2_takeBids A p).2.1 kBidGets q = ge q ∧ (f_X12_takesBids B p).2.2.1 kBidGets q = ge q) ∧ TI B.2.1 n p.toInt se ge pr left (f_X12_takesBids B p).1 := by
  have nd := nn.2.2.2.2.2.2.2.1
  rw [show zD _ _ _ _ _ = zD (B.2.1 kBids) (B.2.1 kBidBanks) (B.2.1 kBidPrices) (B.2.1 kBidNumbers) (B.2.1 kHaveFailed) from rfl] at nd
  have hn13 := nd.1.2
  have hn12 : n ≤ 12 := by omega
  have hbids := fun q (hq : q < n) => nd.2.1 q (by omega)
  have en : ix (nI n) = n := ix_nI (by omega)
  have hB : B.2.1 kBids 0 = nI n := by rw [← hn]; exact nd.1.1
  have hA : A.1 kBids 0 = nI n := (h.sh kBids 0 (by decide)).trans hB
  obtain ⟨a1, a2⟩ := zp_C A 4 (Nat.le_refl _)
  obtain ⟨b1, b2⟩ := zp_R B 4 (Nat.le_refl _)
  obtain ⟨A2, hA2⟩ : ∃ z, iter b2_X2_takeBids A 4 = z := ⟨_, rfl⟩
  obtain ⟨B2, hB2⟩ : ∃ z, iter b7_X12_takesBids B 4 = z := ⟨_, rfl⟩
  rw [hA2] at a1 a2
  rw [hB2] at b1 b2
  have cA := zg_C A2 hn12
  have cB := zg_R (n := n) B2
  obtain ⟨a3, a4⟩ := cA n (Nat.le_refl _)
  obtain ⟨b3, b4⟩ := cB n (Nat.le_refl _)
  obtain ⟨A3, hA3⟩ : ∃ z, iter b24_X2_takeBids A2 n = z := ⟨_, rfl⟩
  obtain ⟨B3, hB3⟩ : ∃ z, iter b30_X12_takesBids B2 n = z := ⟨_, rfl⟩
  rw [hA3] at a3 a4
  rw [hB3] at b3 b4
  have hA2B : A2.1 kBids 0 = nI n := by rw [a1 kBids (by decide)]; exact hA
  have hB2B : B2.2.1 kBids 0 = nI n := by rw [b1 kBids (by decide)]; exact hB
  have hA3B : A3.1 kBids 0 = nI n := by rw [a3 kBids (by decide) (by decide)]; exact hA2B
  have hB3B : B3.2.1 kBids 0 = nI n := by rw [b3 kBids (by decide) (by decide)]; exact hB2B
  have hPR : ∀ q, q < 13 → B3.2.1 kBidPrices q = B.2.1 kBidPrices q := fun q _ => by
    rw [b3 kBidPrices (by decide) (by decide), b1 kBidPrices (by decide)]
  obtain ⟨n1, n2⟩ := hb_R (S := B3) (se := fun _ => 0) (bp := B.2.1 kBidPrices) hn12 hB3B (fun q hq => (b4 q hq).1) hPR nd.2.2 (fun q hq => (hbids q hq).2.2.1)
  have s0 : ∀ f : Nat → Int, (∀ q, q < n → f q = 0) → sumI f n = 0 := fun f hf => by
    have : ∀ m, m ≤ n → sumI f m = 0 := by
      intro m
      induction m with
      | zero => intro _; rfl
      | succ m ih =>
        intro hm
        show sumI f m + f m = 0
        rw [ih (by omega), hf m (by omega)]
        rfl
    exact this n (Nat.le_refl _)
  have t0 : TB A.1 B.2.1 n p.toInt (fun _ => 0) (fun _ => 0) (fun _ => 0) 0 (-1, p, A3) (p, -1, f_X12_nextBid B3, B3) := by
    refine ⟨fun k k1 k2 k3 => (a3 k k2 k3).trans (a1 k k1), fun k k1 k2 k3 => (b3 k k2 k3).trans (b1 k k1), fun q hq => ⟨(a4 q hq).1, (b4 q hq).1, (a4 q hq).2, (b4 q hq).2⟩, fun b hb => ⟨?_, ?_⟩, rfl, rfl, n1, ⟨fun q hq => ⟨by rw [w_0]; omega, by rw [w_0]; omega, fun _ => rfl⟩, hp, ?_, fun b hb => ⟨?_, ?_⟩, Or.inl ⟨rfl, fun _ _ => rfl⟩⟩, ?_⟩
    · show A3.1 kPromised b = 0
      rw [a3 kPromised (by decide) (by decide)]
      exact a2 b hb
    · show B3.2.1 kPromised b = 0
      rw [b3 kPromised (by decide) (by decide)]
      exact b2 b hb
    · show p.toInt + sumI (fun _ => (0 : Int32).toInt) n = p.toInt
      rw [s0 _ (fun _ _ => w_0)]
      omega
    · show (0 : Int32).toInt = _
      rw [w_0]
      refine (s0 _ (fun q _ => ?_)).symm
      show (if _ then cst (0 : Int32).toInt _ else 0) = 0
      rw [w_0, cst_0]
      split <;> rfl
    · show (0 : Int32).toInt ≤ _
      rw [w_0]
      exact (nn.2.2.2.1 b hb).1
    · have : ∀ m, cn (un fun _ => 0) m = m := by
        intro m
        induction m with
        | zero => rfl
        | succ m ih =>
          show cn (un fun _ => 0) m + (if (un fun _ => 0) m = 0 then 0 else 1) = m + 1
          rw [ih]
          unfold un
          rw [if_pos rfl, if_neg (by decide)]
      rw [this]
      omega
  have hall := tk_all h nn hv hn t0
  obtain ⟨se2, ge2, pr2, X2, Y2, j2, e1, e2, e3⟩ := tk_end h nn hv hn t0
  refine ⟨?_, ?_, ?_⟩
  · intro σ2 q2
    rw [hA2] at q2
    subst q2
    rw [hA2B, en]
    refine ⟨fun j hj σ5 q5 => ?_, fun σ5 q5 => ?_⟩
    · rw [← q5, (cA j hj).1 kBids (by decide) (by decide)]
      exact hA2B
    · rw [hA3] at q5
      subst q5
      rw [hA3B, en]
      refine ⟨fun j hj σ q => ?_, fun j hj σ q hl => ?_⟩
      · rcases hall j hj with ⟨_, _, _, X3, Y3, i1, -, i3⟩ | ⟨_, _, _, X3, Y3, _, i1, -, -⟩
        · rw [i1] at q
          have q := Sum.inl.inj q
          rw [← q, i3.1 kBids (by decide) (by decide) (by decide)]
          exact hA
        · rw [i1] at q
          cases q
      · rcases hall j (by omega) with ⟨_, _, _, X3, Y3, i1, -, i3⟩ | ⟨_, _, _, X3, Y3, _, i1, -, -⟩
        · rw [i1] at q
          have q := Sum.inl.inj q
          subst q
          exact (tk_step h nn hv hn hj i3 hl).1
        · rw [i1] at q
          cases q
  · intro σ2 q2
    rw [hB2] at q2
    subst q2
    rw [hB2B, en]
    refine ⟨fun j hj σ5 q5 => ?_, fun j hj σ5 q5 => ⟨by omega, fun S8 _ => by omega⟩, fun σ5 q5 => ?_⟩
    · rw [← q5, (cB j hj).1 kBids (by decide) (by decide)]
      exact hB2B
    · rw [hB3] at q5
      subst q5
      refine ⟨n2, fun v12 q12 => ?_⟩
      subst q12
      refine ⟨⟨Y2, e2 13 (by omega)⟩, fun j hj σ q => ?_⟩
      show okr_tk σ
      by_cases c : n < j
      · rw [e2 j c] at q
        cases q
      · rcases hall j (by omega) with ⟨_, _, _, X3, Y3, -, i2, i3⟩ | ⟨_, _, _, X3, Y3, _, -, i2, -⟩
        · rw [i2] at q
          have q := Sum.inl.inj q
          subst q
          by_cases c2 : n = j
          · intro q1
            exact absurd (tk_out nn hn (by omega) i3) q1
          · by_cases c3 : X3.2.1 ≤ 0
            · intro _ q2
              rw [i3.2.2.2.2.1] at q2
              exact absurd c3 q2
            · exact (tk_step h nn hv hn (by omega) i3 c3).2.1
        · rw [i2] at q
          cases q
  · have eA : f_X2_takeBids A p = (X2.1, X2.2.2) := by
      unfold f_X2_takeBids
      rw [hA2, lt_x, hA2B, en, hA3, lt_x, hA3B, en, e1, lt_x]
    have eB : f_X12_takesBids B p = (Y2.2.1, Y2.2.2.2) := by
      unfold f_X12_takesBids
      rw [hB2, lt_x, hB2B, en, hB3, lt_x, lt_x, e2 13 (by omega), lt_x]
      rfl
    rw [eA, eB]
    obtain ⟨t1, t2, t3, t4, t5, t6, t7, t8, t9⟩ := e3
    refine ⟨t6.symm, se2, ge2, pr2, X2.2.1, t1, t2, fun q hq => (t3 q hq).2.2, ?_⟩
    show TI _ _ _ _ _ _ _ Y2.2.1
    rw [t6]
    exact t8
