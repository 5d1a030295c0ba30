/-! a bank fails: its payments are taken back -/
def okr_tb (p1 : Int32) (j1 : Nat) (σ2 : Mem) : Prop := ((j1 < 200) ∧ (((σ2.2.1 kStates j1) = 0) → ((j1 < 200) ∧ (inb (σ2.2.1 kFroms j1) 16) ∧ (((σ2.2.1 kBankOf (ix (σ2.2.1 kFroms j1))) = p1) → ((j1 < 200) ∧ (∀ S10 : Mem, ((σ2.1, upd2 σ2.2.1 kStates j1 (nI 2), σ2.2.2)) = S10 → ((j1 < 200) ∧ (inb (S10.2.1 kFroms j1) 16) ∧ (j1 < 200) ∧ (inb (S10.2.1 kFroms j1) 16))))) ∧ ((¬ ((σ2.2.1 kBankOf (ix (σ2.2.1 kFroms j1))) = p1)) → ((j1 < 200) ∧ (inb (σ2.2.1 kTos j1) 16) ∧ (((σ2.2.1 kBankOf (ix (σ2.2.1 kTos j1))) = p1) → ((j1 < 200) ∧ (∀ S20 : Mem, ((σ2.1, upd2 σ2.2.1 kStates j1 (nI 2), σ2.2.2)) = S20 → ((j1 < 200) ∧ (inb (S20.2.1 kFroms j1) 16) ∧ (j1 < 200) ∧ (inb (S20.2.1 kFroms j1) 16))))))))))
def takeR (R : Col) (p : Nat) : Col := upd2 (upd2 R kStates p (nI 2)) kBlocked (ix (R kFroms p)) (R kBlocked (ix (R kFroms p)) - R kAmounts p)
theorem N_take {u v L : Int} {R : Col} {p : Nat} (n : Num u v L R) (hp : p < ix (R kPayments 0)) (h0 : R kStates p = 0) : Num u v L (takeR R p) := by
  obtain ⟨nh, nu, np, nb, nv, nf, nl, nd, ns, nw, nq⟩ := n
  have ha := ((np.2.1 p hp).1).2
  have hm := np.am p hp h0
  have hle := np.le hp h0
  have h1 := nh _ ha
  have hi := w_hi (R kAccounts (ix (R kFroms p)))
  have e1 : (R kBlocked (ix (R kFroms p)) - R kAmounts p).toInt = (R kBlocked (ix (R kFroms p))).toInt - (R kAmounts p).toInt := by
    rw [w_sub]
    omega
  have gh : zH (R kBankOf) (R kAccounts) (ru (R kBlocked) (ix (R kFroms p)) (R kBlocked (ix (R kFroms p)) - R kAmounts p)) (R kForged) (R kNotes) (R kHaveFailed) := by
    intro i hi
    obtain ⟨q1, q2, q3, q4, q5, q6⟩ := nh i hi
    by_cases c : i = ix (R kFroms p)
    · subst c
      rw [ru_eq, e1]
      exact ⟨q1, q2, by omega, by omega, q5, q6⟩
    · rw [ru_ne c]
      exact ⟨q1, q2, q3, q4, q5, q6⟩
  exact ⟨gh, nu, np.done hp h0 (by decide) e1, nb, nv, nf, nl, nd, ns, nw, nq⟩
/-- no payment that waits is of bank x, up to j -/
def noneW (x : Int32) (R : Col) (j : Nat) : Prop := ∀ p, p < j → R kStates p = 0 → R kBankOf (ix (R kFroms p)) ≠ x ∧ R kBankOf (ix (R kTos p)) ≠ x
theorem tb_step {u v L : Int} {A B : Mem} {d x : Int32} {j : Nat} (h : Rel A.1 B.2.1 d) (n : Num u v L B.2.1) (hj : j < ix (B.2.1 kPayments 0)) (hw : noneW x B.2.1 j) : okr_tb x j B ∧ Rel (b2_X10_takeBack x j A).1 (b2_X12_takesBack x j B).2.1 d ∧ Num u v L (b2_X12_takesBack x j B).2.1 ∧ noneW x (b2_X12_takesBack x j B).2.1 (j + 1) ∧ (∀ k, k ≠ 9 → k ≠ 34 → (b2_X12_takesBack x j B).2.1 k = B.2.1 k) ∧ (∀ k, k ≠ 9 → k ≠ 34 → (b2_X10_takeBack x j A).1 k = A.1 k) := by
  have hb := base_of h n
  have hn := hb.1
  have hj2 : j < 200 := by omega
  have i2 := (n.2.2.1.2.1 j hj).1
  have i3 := (n.2.2.1.2.1 j hj).2.1
  have hS : A.1 kStates j = B.2.1 kStates j := h.sh kStates j hj2
  have hF : A.1 kFroms j = B.2.1 kFroms j := h.sh kFroms j hj2
  have hM : A.1 kAmounts j = B.2.1 kAmounts j := h.sh kAmounts j hj2
  have hBl : A.1 kBlocked (ix (B.2.1 kFroms j)) = B.2.1 kBlocked (ix (B.2.1 kFroms j)) := h.sh kBlocked _ i2.2
  have ok : okr_tb x j B := by
    refine ⟨hj2, fun _ => ⟨hj2, i2, fun _ => ⟨hj2, fun S10 e => ?_⟩, fun _ => ⟨hj2, i3, fun _ => ⟨hj2, fun S20 e => ?_⟩⟩⟩⟩
    · subst e
      exact ⟨hj2, i2, hj2, i2⟩
    · subst e
      exact ⟨hj2, i2, hj2, i2⟩
  refine ⟨ok, ?_⟩
  unfold b2_X10_takeBack b2_X12_takesBack
  rw [at10_nI hj2, hS]
  by_cases c0 : B.2.1 kStates j = 0
  · obtain ⟨b1, b2, b3, b4, b5, b6, b7⟩ := hb.2.2.2.2.1 j hj c0
    rw [b1, b2, hF, hM, holder_in i2, hBl, if_pos c0, if_pos c0]
    have r1 : Rel (upd2 (upd2 A.1 kBlocked (ix (B.2.1 kFroms j)) (B.2.1 kBlocked (ix (B.2.1 kFroms j)) - B.2.1 kAmounts j)) kStates j (nI 2)) (takeR B.2.1 j) d := by
      have q := (h.plain kBlocked (ix (B.2.1 kFroms j)) (by decide) (v := B.2.1 kBlocked (ix (B.2.1 kFroms j)) - B.2.1 kAmounts j) rfl).state j (v := nI 2) rfl (by decide)
      rw [u_comm (C := B.2.1) (k := kBlocked) (k' := kStates) (by decide)] at q
      exact q
    have n1 := N_take n hj c0
    have w1 : noneW x (takeR B.2.1 j) (j + 1) := by
      intro p hp hs
      replace hs : ru (B.2.1 kStates) j (nI 2) p = 0 := hs
      by_cases c : p = j
      · subst c
        rw [ru_eq] at hs
        exact absurd hs (by decide)
      · rw [ru_ne c] at hs
        exact hw p (by omega) hs
    have off : ∀ k, k ≠ 9 → k ≠ 34 → takeR B.2.1 j k = B.2.1 k := fun k h1 h2 => (u_ne h1).trans (u_ne h2)
    have offC : ∀ k, k ≠ 9 → k ≠ 34 → upd2 (upd2 A.1 kBlocked (ix (B.2.1 kFroms j)) (B.2.1 kBlocked (ix (B.2.1 kFroms j)) - B.2.1 kAmounts j)) kStates j (nI 2) k = A.1 k := fun k h1 h2 => (u_ne h2).trans (u_ne h1)
    by_cases c1 : B.2.1 kBankOf (ix (B.2.1 kFroms j)) = x
    · rw [if_pos c1, if_pos c1]
      simp only [lt_x]
      exact ⟨r1, n1, w1, off, offC⟩
    · rw [if_neg c1, if_neg c1]
      by_cases c2 : B.2.1 kBankOf (ix (B.2.1 kTos j)) = x
      · rw [if_pos c2, if_pos c2]
        simp only [lt_x]
        exact ⟨r1, n1, w1, off, offC⟩
      · rw [if_neg c2, if_neg c2, lt_x, lt_x]
        refine ⟨h, n, fun p hp hs => ?_, fun _ _ _ => rfl, fun _ _ _ => rfl⟩
        by_cases c : p = j
        · subst c
          exact ⟨c1, c2⟩
        · exact hw p (by omega) hs
  · rw [if_neg c0, if_neg c0, lt_x, lt_x]
    refine ⟨h, n, fun p hp hs => ?_, fun _ _ _ => rfl, fun _ _ _ => rfl⟩
    by_cases c : p = j
    · subst c
      exact absurd hs c0
    · exact hw p (by omega) hs
theorem tb_ok {u v L : Int} {A B : Mem} {d x : Int32} (h : Rel A.1 B.2.1 d) (n : Num u v L B.2.1) : ok_X10_takeBack A x ∧ (∀ j, j < ix (B.2.1 kPayments 0) → okr_tb x j (iter (b2_X12_takesBack x) B j)) ∧ (∀ j, j ≤ ix (B.2.1 kPayments 0) → (iter (b2_X12_takesBack x) B j).2.1 kPayments 0 = nI (ix (B.2.1 kPayments 0))) ∧ Rel (f_X10_takeBack A x).1 (iter (b2_X12_takesBack x) B (ix (B.2.1 kPayments 0))).2.1 d ∧ Num u v L (iter (b2_X12_takesBack x) B (ix (B.2.1 kPayments 0))).2.1 ∧ noneW x (iter (b2_X12_takesBack x) B (ix (B.2.1 kPayments 0))).2.1 (ix (B.2.1 kPayments 0)) ∧ (∀ k, k ≠ 9 → k ≠ 34 → (iter (b2_X12_takesBack x) B (ix (B.2.1 kPayments 0))).2.1 k = B.2.1 k) := by
  have hc : A.1 kPayments 0 = B.2.1 kPayments 0 := h.sh kPayments 0 (by decide)
  have i0 := n.2.2.1.1
  have key := iter2 (f := b2_X10_takeBack x) (g := b2_X12_takesBack x) (a := A) (b := B) (fun j X Y => Rel X.1 Y.2.1 d ∧ Num u v L Y.2.1 ∧ noneW x Y.2.1 j ∧ ∀ k, k ≠ 9 → k ≠ 34 → Y.2.1 k = B.2.1 k) (n := ix (B.2.1 kPayments 0)) ⟨h, n, fun p hp => by omega, fun _ _ _ => rfl⟩ (fun j hj X Y q => by
    obtain ⟨-, q1, q2, q3, q4, -⟩ := tb_step q.1 q.2.1 (by rw [q.2.2.2 kPayments (by decide) (by decide)]; exact hj) q.2.2.1
    exact ⟨q1, q2, q3, fun k h1 h2 => (q4 k h1 h2).trans (q.2.2.2 k h1 h2)⟩)
  refine ⟨?_, ?_, ?_, ?_⟩
  · intro j hj σ e
    subst e
    rw [hc] at hj ⊢
    obtain ⟨q1, q2, q3, q4⟩ := key j hj
    rw [q1.sh kPayments 0 (by decide), q4 kPayments (by decide) (by decide)]
    exact i0.1
  · intro j hj
    obtain ⟨q1, q2, q3, q4⟩ := key j (by omega)
    exact (tb_step q1 q2 (by rw [q4 kPayments (by decide) (by decide)]; exact hj) q3).1
  · intro j hj
    obtain ⟨q1, q2, q3, q4⟩ := key j hj
    rw [q4 kPayments (by decide) (by decide)]
    exact i0.1
  · obtain ⟨q1, q2, q3, q4⟩ := key _ (Nat.le_refl _)
    unfold f_X10_takeBack
    rw [lt_x, hc]
    exact ⟨q1, q2, q3, q4⟩
