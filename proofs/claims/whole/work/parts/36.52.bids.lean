/-! bids are taken: which is next -/
def hb (se bp : Row) : Nat → Nat
  | 0 => 12
  | j + 1 => if se j = 0 then (if bp j ≤ bp (hb se bp j) then hb se bp j else j) else hb se bp j
def nx (k : Nat) : Int32 := if k = 12 then -1 else nI k
theorem hb_spec {se bp : Row} (h12 : bp 12 = 0) : ∀ n, n ≤ 12 → (∀ q, q < n → 50 ≤ (bp q).toInt) → (hb se bp n = 12 ∧ ∀ q, q < n → se q ≠ 0) ∨ (hb se bp n < n ∧ se (hb se bp n) = 0 ∧ ∀ q, q < n → se q = 0 → (bp q).toInt ≤ (bp (hb se bp n)).toInt) := by
  intro n
  induction n with
  | zero => intro _ _; exact Or.inl ⟨rfl, fun q hq => by omega⟩
  | succ n ih =>
    intro hn hp
    have e : hb se bp (n + 1) = if se n = 0 then (if bp n ≤ bp (hb se bp n) then hb se bp n else n) else hb se bp n := rfl
    have hpn := hp n (by omega)
    rw [e]
    by_cases c : se n = 0
    · rw [if_pos c]
      rcases ih (by omega) (fun q hq => hp q (by omega)) with ⟨q1, q2⟩ | ⟨q1, q2, q3⟩
      · have c2 : ¬ bp n ≤ bp (hb se bp n) := by
          rw [q1, h12, w_le, w_0]
          omega
        rw [if_neg c2]
        refine Or.inr ⟨by omega, c, fun q hq hs => ?_⟩
        by_cases z : q = n
        · subst z
          exact Int.le_refl _
        · exact absurd hs (q2 q (by omega))
      · by_cases c2 : bp n ≤ bp (hb se bp n)
        · rw [if_pos c2]
          rw [w_le] at c2
          refine Or.inr ⟨by omega, q2, fun q hq hs => ?_⟩
          by_cases z : q = n
          · subst z
            exact c2
          · exact q3 q (by omega) hs
        · rw [if_neg c2]
          rw [w_le] at c2
          refine Or.inr ⟨by omega, c, fun q hq hs => ?_⟩
          by_cases z : q = n
          · subst z
            exact Int.le_refl _
          · have := q3 q (by omega) hs
            omega
    · rw [if_neg c]
      rcases ih (by omega) (fun q hq => hp q (by omega)) with ⟨q1, q2⟩ | ⟨q1, q2, q3⟩
      · refine Or.inl ⟨q1, fun q hq => ?_⟩
        by_cases z : q = n
        · subst z
          exact c
        · exact q2 q (by omega)
      · refine Or.inr ⟨by omega, q2, fun q hq hs => ?_⟩
        by_cases z : q = n
        · subst z
          exact absurd hs c
        · exact q3 q (by omega) hs
theorem hb_C {S : Mem} {se bp : Row} {n : Nat} (hn : n ≤ 12) (hc : S.1 kBids 0 = nI n) (h1 : ∀ q, q < n → S.1 kAreSeen q = se q) (h2 : ∀ q, q < 13 → S.1 kBidPrices q = bp q) : f_X2_highestBidNotTried S = hb se bp n ∧ ok_X2_highestBidNotTried S := by
  have ei : ix (nI n) = n := ix_nI (by omega)
  constructor
  · unfold f_X2_highestBidNotTried
    rw [lt_x, hc, ei]
    have key : ∀ m, m ≤ n → iter (b7_X2_highestBidNotTried S) 12 m = hb se bp m ∧ hb se bp m < 13 := by
      intro m
      induction m with
      | zero => intro _; exact ⟨rfl, show 12 < 13 by omega⟩
      | succ m ih =>
        intro hm
        obtain ⟨i1, i2⟩ := ih (by omega)
        have e : hb se bp (m + 1) = if se m = 0 then (if bp m ≤ bp (hb se bp m) then hb se bp m else m) else hb se bp m := rfl
        refine ⟨?_, ?_⟩
        · rw [iter_s, i1, e]
          unfold b7_X2_highestBidNotTried
          rw [lt_x, bid_nI (by omega), h1 m (by omega), h2 m (by omega), h2 _ i2]
        · rw [e]
          split
          · split
            · exact i2
            · omega
          · exact i2
    exact (key n (Nat.le_refl _)).1
  · intro j hj σ e
    rw [hc, ei]
theorem hb_R {S : Mem} {se bp : Row} {n : Nat} (hn : n ≤ 12) (hc : S.2.1 kBids 0 = nI n) (h1 : ∀ q, q < n → S.2.1 kAreSeen q = se q) (h2 : ∀ q, q < 13 → S.2.1 kBidPrices q = bp q) (h12 : bp 12 = 0) (hp : ∀ q, q < n → 50 ≤ (bp q).toInt) : f_X12_nextBid S = nx (hb se bp n) ∧ ok_X12_nextBid S := by
  have ei : ix (nI n) = n := ix_nI (by omega)
  have key : ∀ m, m ≤ n → iter (b4_X12_nextBid S) (-1) m = nx (hb se bp m) ∧ (hb se bp m = 12 ∨ hb se bp m < m) := by
    intro m
    induction m with
    | zero => intro _; exact ⟨rfl, Or.inl rfl⟩
    | succ m ih =>
      intro hm
      obtain ⟨i1, i2⟩ := ih (by omega)
      have e : hb se bp (m + 1) = if se m = 0 then (if bp m ≤ bp (hb se bp m) then hb se bp m else m) else hb se bp m := rfl
      have hpm := hp m (by omega)
      rw [iter_s, i1, e]
      unfold b4_X12_nextBid
      rw [lt_x, h1 m (by omega)]
      by_cases c : se m = 0
      · rw [if_pos c, if_pos c]
        rcases i2 with i2 | i2
        · have c2 : ¬ bp m ≤ bp (hb se bp m) := by
            rw [i2, h12, w_le, w_0]
            omega
          have c3 : nx (hb se bp m) = -1 := by
            rw [i2]
            rfl
          rw [if_neg c2, if_pos c3]
          refine ⟨?_, Or.inr (by omega)⟩
          unfold nx
          rw [if_neg (by omega)]
        · have e3 : nx (hb se bp m) = nI (hb se bp m) := by
            unfold nx
            rw [if_neg (by omega)]
          have c3 : ¬ nI (hb se bp m) = -1 := inb_ne (inb_nI (show hb se bp m < 200 by omega) (by omega))
          rw [e3, if_neg c3, ix_nI (by omega), h2 m (by omega), h2 _ (by omega)]
          by_cases c2 : bp m ≤ bp (hb se bp m)
          · rw [if_pos c2, if_pos c2]
            exact ⟨e3.symm, Or.inr (by omega)⟩
          · rw [if_neg c2, if_neg c2]
            refine ⟨?_, Or.inr (by omega)⟩
            unfold nx
            rw [if_neg (by omega)]
      · rw [if_neg c, if_neg c]
        exact ⟨rfl, by omega⟩
  constructor
  · unfold f_X12_nextBid
    rw [lt_x, hc, ei]
    exact (key n (Nat.le_refl _)).1
  · refine ⟨fun j hj σ e => by rw [hc, ei], fun j hj σ e => ?_⟩
    rw [hc, ei] at hj
    subst e
    refine ⟨by omega, fun _ c => ⟨by omega, ?_⟩⟩
    obtain ⟨k1, k2⟩ := key j (by omega)
    rw [k1] at c ⊢
    rcases k2 with k2 | k2
    · rw [k2] at c
      exact absurd rfl c
    · unfold nx
      rw [if_neg (by omega)]
      exact inb_nI (by omega) (by omega)
/-- what a number of bonds costs at a price -/
def cst (g p : Int) : Int := (g * p + 99) / 100
theorem cst_le {g p p2 : Int} (hg : 0 ≤ g) (hp : p ≤ p2) : cst g p ≤ cst g p2 := by
  unfold cst
  have := Int.mul_le_mul_of_nonneg_left hp hg
  omega
theorem cst_bd {g p : Int} (hg : 0 ≤ g) (hg2 : g ≤ 10000) (hp : 0 ≤ p) (hp2 : p ≤ 100) : 0 ≤ cst g p ∧ cst g p ≤ 10000 ∧ g * p ≤ 1000000 ∧ 0 ≤ g * p := by
  unfold cst
  have h1 := Int.mul_nonneg hg hp
  have h2 : g * p ≤ 10000 * 100 := Int.mul_le_mul hg2 hp2 hp (by omega)
  omega
theorem pct_toInt {S : Mem} {g p : Int32} (hg : 0 ≤ g.toInt) (hg2 : g.toInt ≤ 10000) (hp : 0 ≤ p.toInt) (hp2 : p.toInt ≤ 100) : (f_X11_percentRoundedUp S g p).toInt = cst g.toInt p.toInt := by
  obtain ⟨c1, c2, c3, c4⟩ := cst_bd hg hg2 hp hp2
  have h1 := lmul_pos hg hp
  have h99 : (99 : Int64).toInt = 99 := by decide
  have h100 : (100 : Int64).toInt = 100 := by decide
  unfold f_X11_percentRoundedUp
  have h2 : (g.toInt64 * p.toInt64 + 99).toInt = g.toInt * p.toInt + 99 := by
    rw [Int64.toInt_add, h1, h99, Int.bmod_def]
    generalize g.toInt * p.toInt = z at *
    omega
  have h3 : ((g.toInt64 * p.toInt64 + 99) / 100).toInt = cst g.toInt p.toInt := by
    rw [ldiv_pos (by omega) (by rw [h100]; omega), h2, h100]
    rfl
  rw [l2i_pos (by omega) (by omega), h3]
theorem up_toInt {S : Mem} {g p : Int32} (hg : 0 ≤ g.toInt) (hg2 : g.toInt ≤ 10000) (hp : 0 ≤ p.toInt) (hp2 : p.toInt ≤ 100) : (f_X12_up S (g * p) (nI 100)).toInt = cst g.toInt p.toInt := by
  obtain ⟨c1, c2, c3, c4⟩ := cst_bd hg hg2 hp hp2
  have h1 := imul_pos hg hp (by omega)
  have e : (g * p + nI 100 - 1).toInt = g.toInt * p.toInt + 99 := by
    rw [w_sub, w_add, h1, i100_toInt, w_1]
    generalize g.toInt * p.toInt = z at *
    omega
  unfold f_X12_up
  rw [idiv_pos (by omega) (by rw [i100_toInt]; omega), e, i100_toInt]
  rfl
theorem up_pct {S S2 : Mem} {g p : Int32} (hg : 0 ≤ g.toInt) (hg2 : g.toInt ≤ 10000) (hp : 0 ≤ p.toInt) (hp2 : p.toInt ≤ 100) : f_X11_percentRoundedUp S g p = f_X12_up S2 (g * p) (nI 100) := Int32.toInt_inj.mp ((pct_toInt hg hg2 hp hp2).trans (up_toInt hg hg2 hp hp2).symm)
