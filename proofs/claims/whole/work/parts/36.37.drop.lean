/-! a bank fails: its bids are gone -/
def okr_db (p1 : Int32) (j27 : Nat) (σ28 : Int32 × Mem) : Prop := ((j27 < 12) ∧ ((¬ ((σ28.2.2.1 kBidBanks j27) = p1)) → ((j27 < 12) ∧ (inb σ28.1 12) ∧ (∀ S34 : Mem, ((σ28.2.1, upd2 σ28.2.2.1 kBidBanks (ix σ28.1) (σ28.2.2.1 kBidBanks j27), σ28.2.2.2)) = S34 → ((j27 < 12) ∧ (inb σ28.1 12) ∧ (∀ S37 : Mem, ((S34.1, upd2 S34.2.1 kBidPrices (ix σ28.1) (S34.2.1 kBidPrices j27), S34.2.2)) = S37 → ((j27 < 12) ∧ (inb σ28.1 12))))))))
def dropR (R : Col) (c j : Nat) : Col := upd2 (upd2 (upd2 R kBidBanks c (R kBidBanks j)) kBidPrices c (R kBidPrices j)) kBidNumbers c (R kBidNumbers j)
theorem N_drop {u v L : Int} {R : Col} {c j : Nat} (n : Num u v L R) (hc : c < 12) (hj : j < ix (R kBids 0)) : Num u v L (dropR R c j) := by
  obtain ⟨nh, nu, np, nb, nv, nf, nl, nd, ns, nw, nq⟩ := n
  refine ⟨nh, nu, np, nb, nv, nf, nl, ?_, ns, nw, nq⟩
  show zD (R kBids) (ru (R kBidBanks) c (R kBidBanks j)) (ru (R kBidPrices) c (R kBidPrices j)) (ru (R kBidNumbers) c (R kBidNumbers j)) (R kHaveFailed)
  refine ⟨nd.1, fun q hq => ?_, (ru_ne (by omega)).trans nd.2.2⟩
  by_cases e : q = c
  · subst e
    rw [ru_eq, ru_eq, ru_eq]
    exact nd.2.1 j hj
  · rw [ru_ne e, ru_ne e, ru_ne e]
    exact nd.2.1 q hq
def DL (u v L : Int) (d x : Int32) (B : Mem) (j : Nat) (X Y : Int32 × Mem) : Prop := X.1 = Y.1 ∧ Rel X.2.1 Y.2.2.1 d ∧ Num u v L Y.2.2.1 ∧ (∃ c, c ≤ j ∧ Y.1 = nI c ∧ ∀ q, q < c → Y.2.2.1 kBidBanks q ≠ x) ∧ ∀ k, k ≠ 43 → k ≠ 44 → k ≠ 45 → Y.2.2.1 k = B.2.1 k
theorem db_step {u v L : Int} {B : Mem} {d x : Int32} {j : Nat} {X Y : Int32 × Mem} (hj : j < ix (B.2.1 kBids 0)) (h : DL u v L d x B j X Y) : okr_db x j Y ∧ DL u v L d x B (j + 1) (b4_X2_dropBids x j X) (b86_X12_takesBack x j Y) := by
  obtain ⟨h1, h2, h3, ⟨c, hc1, hc2, hc3⟩, h5⟩ := h
  have eB : Y.2.2.1 kBids = B.2.1 kBids := h5 kBids (by decide) (by decide) (by decide)
  have i0 := h3.2.2.2.2.2.2.2.1.1
  have hj2 : j < ix (Y.2.2.1 kBids 0) := by rw [eB]; exact hj
  have hj12 : j < 12 := by
    have := i0.2
    omega
  have hc12 : c < 12 := by omega
  have ic : inb (Y.1) 12 := by rw [hc2]; exact inb_nI hc12 (by omega)
  have eic : ix (nI c) = c := ix_nI (by omega)
  have a1 : X.2.1 kBidBanks j = Y.2.2.1 kBidBanks j := h2.sh kBidBanks j hj12
  have a2 : X.2.1 kBidPrices j = Y.2.2.1 kBidPrices j := h2.sh kBidPrices j (show j < 13 by omega)
  have a3 : X.2.1 kBidNumbers j = Y.2.2.1 kBidNumbers j := h2.sh kBidNumbers j hj12
  refine ⟨⟨hj12, fun _ => ⟨hj12, ic, fun S34 _ => ⟨hj12, ic, fun S37 _ => ⟨hj12, ic⟩⟩⟩⟩, ?_⟩
  unfold b4_X2_dropBids b86_X12_takesBack
  rw [bid_nI hj12, h1, hc2, bid_nI hc12, eic, a1]
  simp only [lt_x]
  by_cases c1 : Y.2.2.1 kBidBanks j = x
  · rw [if_pos c1, if_pos c1, if_pos c1]
    exact ⟨rfl, h2, h3, ⟨c, by omega, rfl, hc3⟩, h5⟩
  · rw [if_neg c1, if_neg c1, if_neg c1]
    have r := ((h2.plain kBidBanks c (by decide) (v := Y.2.2.1 kBidBanks j) rfl).plain kBidPrices c (by decide) (v := Y.2.2.1 kBidPrices j) rfl).plain kBidNumbers c (by decide) (v := Y.2.2.1 kBidNumbers j) rfl
    refine ⟨rfl, ?_, N_drop h3 hc12 hj2, ⟨c + 1, by omega, (nI_succ c).symm, fun q hq => ?_⟩, fun k k1 k2 k3 => ((u_ne k3).trans ((u_ne k2).trans (u_ne k1))).trans (h5 k k1 k2 k3)⟩
    · show Rel (f_X1_become X.2 c j).1 (dropR Y.2.2.1 c j) d
      have e : (f_X1_become X.2 c j).1 = upd2 (upd2 (upd2 X.2.1 kBidBanks c (Y.2.2.1 kBidBanks j)) kBidPrices c (Y.2.2.1 kBidPrices j)) kBidNumbers c (Y.2.2.1 kBidNumbers j) := by
        unfold f_X1_become
        rw [lt_x, lt_x, lt_x, ← a1, ← a2, ← a3]
        rfl
      rw [e]
      exact r
    · show ru (Y.2.2.1 kBidBanks) c (Y.2.2.1 kBidBanks j) q ≠ x
      by_cases e : q = c
      · subst e
        rw [ru_eq]
        exact c1
      · rw [ru_ne e]
        exact hc3 q (by omega)
/-- no bid is of bank x -/
def noneB (x : Int32) (R : Col) : Prop := ∀ q, q < ix (R kBids 0) → R kBidBanks q ≠ x
theorem back_ok {u v L : Int} {A B : Mem} {d x : Int32} (h : Rel A.1 B.2.1 d) (n : Num u v L B.2.1) : ok_X10_takeBack A x ∧ ok_X2_dropBids (f_X10_takeBack A x) x ∧ ok_X12_takesBack B x ∧ Rel (f_X2_dropBids (f_X10_takeBack A x) x).1 (f_X12_takesBack B x).2.1 d ∧ Num u v L (f_X12_takesBack B x).2.1 ∧ noneW x (f_X12_takesBack B x).2.1 (ix ((f_X12_takesBack B x).2.1 kPayments 0)) ∧ noneB x (f_X12_takesBack B x).2.1 ∧ ∀ k, [9, 34, 42, 43, 44, 45].contains k = false → (f_X12_takesBack B x).2.1 k = B.2.1 k := by
  obtain ⟨t1, t2, t3, t4, t5, t6, t7⟩ := tb_ok (x := x) h n
  have eP : (iter (b2_X12_takesBack x) B (ix (B.2.1 kPayments 0))).2.1 kPayments 0 = B.2.1 kPayments 0 := by rw [t7 kPayments (by decide) (by decide)]
  refine ⟨t1, ?_⟩
  have hokB : ∀ σ2 : Mem, iter (b2_X12_takesBack x) B (ix (B.2.1 kPayments 0)) = σ2 → ((∀ j27 : Nat, j27 ≤ ix (σ2.2.1 kBids 0) → ∀ σ28 : Int32 × Mem, iter (b86_X12_takesBack x) (0, σ2) j27 = σ28 → σ28.2.2.1 kBids 0 = nI (ix (σ2.2.1 kBids 0))) ∧ (∀ j27 : Nat, j27 < ix (σ2.2.1 kBids 0) → ∀ σ28 : Int32 × Mem, iter (b86_X12_takesBack x) (0, σ2) j27 = σ28 → okr_db x j27 σ28)) → ok_X12_takesBack B x := fun σ2 e hh => by
    refine ⟨fun j hj σ e2 => ?_, fun j hj σ e2 => ?_, fun σ e2 => ?_⟩
    · subst e2
      exact t3 j hj
    · subst e2
      exact t2 j hj
    · rw [← e2, e]
      exact hh
  unfold f_X12_takesBack f_X2_dropBids ok_X2_dropBids
  rw [lt_x, lt_x, lt_x]
  revert t4 t5 t6 t7 eP hokB
  generalize iter (b2_X12_takesBack x) B (ix (B.2.1 kPayments 0)) = B2
  generalize f_X10_takeBack A x = A2
  intro t4 t5 t6 t7 eP hokB
  have hc : A2.1 kBids 0 = B2.2.1 kBids 0 := t4.sh kBids 0 (by decide)
  have i0 := t5.2.2.2.2.2.2.2.1.1
  have key := iter2 (f := b4_X2_dropBids x) (g := b86_X12_takesBack x) (a := ((0 : Int32), A2)) (b := ((0 : Int32), B2)) (DL u v L d x B2) (n := ix (B2.2.1 kBids 0)) ⟨rfl, t4, t5, ⟨0, Nat.le_refl _, rfl, fun q hq => by omega⟩, fun _ _ _ _ => rfl⟩ (fun j hj X Y q => (db_step hj q).2)
  refine ⟨?_, ?_, ?_⟩
  · intro j hj σ e
    subst e
    rw [hc] at hj ⊢
    have q := key j hj
    rw [q.2.1.sh kBids 0 (by decide), q.2.2.2.2 kBids (by decide) (by decide) (by decide)]
    exact i0.1
  · refine hokB B2 rfl ⟨fun j hj σ e => ?_, fun j hj σ e => ?_⟩
    · subst e
      rw [(key j hj).2.2.2.2 kBids (by decide) (by decide) (by decide)]
      exact i0.1
    · subst e
      exact (db_step hj (key j (by omega))).1
  · rw [hc, lt_x, lt_x]
    have q := key _ (Nat.le_refl _)
    revert q
    generalize iter (b4_X2_dropBids x) (0, A2) (ix (B2.2.1 kBids 0)) = X
    generalize iter (b86_X12_takesBack x) (0, B2) (ix (B2.2.1 kBids 0)) = Y
    intro q
    obtain ⟨q1, q2, q3, ⟨c, q4, q5, q6⟩, q7⟩ := q
    have hi := i0.2
    have eic : ix (nI c) = c := ix_nI (by omega)
    have eBi : ix (upd2 Y.2.2.1 kBids 0 Y.1 kBids 0) = c := by rw [upd2_eq, q5, eic]
    have eYB : Y.2.2.1 kBids = B2.2.1 kBids := q7 kBids (by decide) (by decide) (by decide)
    have eP2 : upd2 Y.2.2.1 kBids 0 Y.1 kPayments = B2.2.1 kPayments := q7 kPayments (by decide) (by decide) (by decide)
    refine ⟨?_, ?_, ?_, ?_, ?_⟩
    · rw [q1]
      exact q2.plain kBids 0 (by decide) rfl
    · obtain ⟨nh, nu, np, nb, nv, nf, nl, nd, ns, nw, nq⟩ := q3
      refine ⟨nh, nu, np, nb, nv, nf, nl, ?_, ns, nw, nq⟩
      show zD (ru (Y.2.2.1 kBids) 0 Y.1) (Y.2.2.1 kBidBanks) (Y.2.2.1 kBidPrices) (Y.2.2.1 kBidNumbers) (Y.2.2.1 kHaveFailed)
      refine ⟨by rw [ru_eq, q5]; exact inb_nI (by omega) (by omega), fun r hr => nd.2.1 r ?_, nd.2.2⟩
      rw [ru_eq, q5, eic] at hr
      rw [eYB]
      omega
    · show noneW x (upd2 Y.2.2.1 kBids 0 Y.1) (ix (upd2 Y.2.2.1 kBids 0 Y.1 kPayments 0))
      rw [eP2, t7 kPayments (by decide) (by decide)]
      intro p hp hs
      have z := t6 p hp
      replace hs : Y.2.2.1 kStates p = 0 := hs
      show Y.2.2.1 kBankOf (ix (Y.2.2.1 kFroms p)) ≠ x ∧ Y.2.2.1 kBankOf (ix (Y.2.2.1 kTos p)) ≠ x
      rw [q7 kStates (by decide) (by decide) (by decide)] at hs
      rw [q7 kBankOf (by decide) (by decide) (by decide), q7 kFroms (by decide) (by decide) (by decide), q7 kTos (by decide) (by decide) (by decide)]
      exact z hs
    · intro r hr
      replace hr : r < ix (upd2 Y.2.2.1 kBids 0 Y.1 kBids 0) := hr
      rw [eBi] at hr
      exact q6 r hr
    · intro k hk
      have hn : ∀ c : Nat, [9, 34, 42, 43, 44, 45].contains c = true → k ≠ c := fun c hc q => by rw [← q, hk] at hc; cases hc
      show upd2 Y.2.2.1 kBids 0 Y.1 k = _
      rw [u_ne (hn 42 (by decide)), q7 k (hn 43 (by decide)) (hn 44 (by decide)) (hn 45 (by decide)), t7 k (hn 9 (by decide)) (hn 34 (by decide))]
