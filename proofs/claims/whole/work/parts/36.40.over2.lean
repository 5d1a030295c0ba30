theorem over_ok {u v L : Int} {A B : Mem} {d : Int32} {b : Nat} (h : Rel A.1 B.2.1 d) (n : Num u v L B.2.1) (hL : 0 ≤ L) (hb : b < 4) (h0 : B.2.1 kHaveFailed b = 0) (hw : noneW (nI b) B.2.1 (ix (B.2.1 kPayments 0))) (hB : noneB (nI b) B.2.1) :
    ok_X2_moveToCentral A (nI b) (bonS B.2.1 b) ∧ ok_X7_moveToCentral (f_X2_moveToCentral A (nI b) (bonS B.2.1 b)) (nI b) ∧ ok_X12_takesOver B (nI b) ∧
    Rel (f_X0_end (f_X7_moveToCentral (f_X2_moveToCentral A (nI b) (bonS B.2.1 b)) (nI b)) b).1 (f_X12_takesOver B (nI b)).2.1 (d - bonS B.2.1 b - loaS B.2.1 (nI b) - B.2.1 kReserves b - B.2.1 kVaults b + B.2.1 kLent b) ∧
    NumX (nI b) 0 u (v - 5120000) L (f_X12_takesOver B (nI b)).2.1 ∧ (∀ k, [16, 17, 18, 20, 21, 26, 41].contains k = false → (f_X12_takesOver B (nI b)).2.1 k = B.2.1 k) ∧ (∀ c, c ≠ b → (f_X12_takesOver B (nI b)).2.1 kLent c = B.2.1 kLent c ∧ (f_X12_takesOver B (nI b)).2.1 kHaveFailed c = B.2.1 kHaveFailed c) ∧ (f_X12_takesOver B (nI b)).2.1 kLent b = 0 ∧ (f_X12_takesOver B (nI b)).2.1 kHaveFailed b = 1 := by
  have ib : inb (nI b) 4 := inb_nI hb (by omega)
  have eib : ix (nI b) = b := ix_nI (by omega)
  have hc : A.1 kAuctions 0 = B.2.1 kAuctions 0 := h.sh kAuctions 0 (by decide)
  have i0 := n.2.2.2.2.2.1.1
  have i1 := n.2.2.2.2.2.2.1.1
  have key := iter2 (f := b5_X2_moveToCentral (nI b)) (g := b2_X12_takesOver (nI b)) (a := (bonS B.2.1 b, A)) (b := B) (ML u v L d b B) (n := ix (B.2.1 kAuctions 0)) ⟨by show bonS B.2.1 b = bonS B.2.1 b - 0; grind, h.d_eq (by show d = d - 0; grind), n, fun _ _ => rfl, fun _ _ => rfl, fun k hk => by omega⟩ (fun j hj X Y q => move_step n hb hj q)
  have ok1 : ok_X2_moveToCentral A (nI b) (bonS B.2.1 b) := by
    intro j hj σ e
    subst e
    rw [hc] at hj ⊢
    have q := key j hj
    rw [q.2.1.sh kAuctions 0 (by decide), q.2.2.2.1 kAuctions (by decide)]
    exact i0.1
  have ok2 : ∀ j, j ≤ ix (B.2.1 kAuctions 0) → ∀ σ, iter (b2_X12_takesOver (nI b)) B j = σ → σ.2.1 kAuctions 0 = nI (ix (B.2.1 kAuctions 0)) := by
    intro j hj σ e
    subst e
    rw [(key j hj).2.2.2.1 kAuctions (by decide)]
    exact i0.1
  have eA : f_X2_moveToCentral A (nI b) (bonS B.2.1 b) = (iter (b5_X2_moveToCentral (nI b)) (bonS B.2.1 b, A) (ix (B.2.1 kAuctions 0))).2 := by
    unfold f_X2_moveToCentral
    rw [lt_x, hc]
  have q := key _ (Nat.le_refl _)
  rw [eA]
  unfold f_X12_takesOver
  rw [lt_x]
  have hokB : ∀ σ2, iter (b2_X12_takesOver (nI b)) B (ix (B.2.1 kAuctions 0)) = σ2 → σ2.2.1 kLoans 0 = nI (ix (σ2.2.1 kLoans 0)) → ix (σ2.2.1 kLoans 0) ≤ 20 → (∀ j, j ≤ ix (σ2.2.1 kLoans 0) → (iter (b52_X12_takesOver (nI b)) σ2 j).2.1 kLoans 0 = nI (ix (σ2.2.1 kLoans 0))) → ok_X12_takesOver B (nI b) := by
    intro σ2 e hl hl2 hh
    refine ⟨ok2, fun j hj σ e2 => ?_, fun σ e2 => ?_⟩
    · have := i0.2
      exact to_ok12 (by omega) hb
    · have e3 : σ = σ2 := e2.symm.trans e
      subst e3
      refine ⟨fun j hj s es => ?_, fun j hj s es => ⟨by omega, fun _ => by omega, fun _ _ => by omega⟩, fun s es => ⟨ib, fun _ _ => ⟨ib, fun _ _ => ⟨ib, fun _ _ => ⟨ib, fun _ _ => ib⟩⟩⟩⟩⟩
      subst es
      exact hh j hj
  have hz1 : ∀ k, k < ix (B.2.1 kAuctions 0) → (iter (b2_X12_takesOver (nI b)) B (ix (B.2.1 kAuctions 0))).2.1 kBonds (5 * k + b) = 0 := q.2.2.2.2.2
  revert q hokB hz1
  generalize iter (b2_X12_takesOver (nI b)) B (ix (B.2.1 kAuctions 0)) = Y
  generalize iter (b5_X2_moveToCentral (nI b)) (bonS B.2.1 b, A) (ix (B.2.1 kAuctions 0)) = X
  intro q hokB hz1
  obtain ⟨-, q2, q3, q4, -, -⟩ := q
  have q2 : Rel X.2.1 Y.2.1 (d - bonS B.2.1 b) := q2
  have eYl : Y.2.1 kLoans = B.2.1 kLoans := q4 kLoans (by decide)
  have hcl : X.2.1 kLoans 0 = Y.2.1 kLoans 0 := q2.sh kLoans 0 (by decide)
  have key2 := iter2 (f := b2_X7_moveToCentral (nI b)) (g := b52_X12_takesOver (nI b)) (a := X.2) (b := Y) (LL u v L (d - bonS B.2.1 b) (nI b) Y) (n := ix (Y.2.1 kLoans 0)) ⟨q2.d_eq (by show _ = _ - 0; grind), q3, fun _ _ => rfl, fun _ _ => rfl⟩ (fun j hj X Y q => loan_step ib hj q)
  have i2 := q3.2.2.2.2.2.2.1.1
  refine ⟨ok1, ?_, ?_, ?_⟩
  · intro j hj σ e
    subst e
    rw [hcl] at hj ⊢
    have q := key2 j hj
    rw [q.1.sh kLoans 0 (by decide), q.2.2.1 kLoans (by decide)]
    exact i2.1
  · refine hokB Y rfl i2.1 (by have := i2.2; omega) (fun j hj => ?_)
    rw [(key2 j hj).2.2.1 kLoans (by decide)]
    exact i2.1
  · have eC : f_X7_moveToCentral X.2 (nI b) = iter (b2_X7_moveToCentral (nI b)) X.2 (ix (Y.2.1 kLoans 0)) := by
      unfold f_X7_moveToCentral
      rw [lt_x, hcl]
    have eD : ∀ S : Mem, (f_X0_end S b).1 = endB S.1 b := fun S => rfl
    rw [eC, eD, lt_x]
    have q := key2 _ (Nat.le_refl _)
    revert q
    generalize iter (b52_X12_takesOver (nI b)) Y (ix (Y.2.1 kLoans 0)) = Y3
    generalize iter (b2_X7_moveToCentral (nI b)) X.2 (ix (Y.2.1 kLoans 0)) = X3
    intro q
    obtain ⟨r1, r2, r3, -⟩ := q
    have off : ∀ k, k ≠ 41 → k ≠ 26 → Y3.2.1 k = B.2.1 k := fun k h1 h2 => (r3 k h2).trans (q4 k h1)
    have el : s32 (fun l => if Y.2.1 kLoanBanks l = nI b then Y.2.1 kLoanLefts l else 0) (ix (Y.2.1 kLoans 0)) = loaS B.2.1 (nI b) := by
      unfold loaS
      rw [eYl, q4 kLoanBanks (by decide), q4 kLoanLefts (by decide)]
    rw [el] at r1
    have re := r1.endB hb
    rw [off kReserves (by decide) (by decide), off kVaults (by decide) (by decide), off kLent (by decide) (by decide)] at re
    have eR : (lt (Y3.1, upd2 Y3.2.1 kReserves (ix (nI b)) 0, Y3.2.2) (fun (S20 : Mem) => lt ((S20.1, upd2 S20.2.1 kVaults (ix (nI b)) 0, S20.2.2)) (fun (S22 : Mem) => lt ((S22.1, upd2 S22.2.1 kLent (ix (nI b)) 0, S22.2.2)) (fun (S24 : Mem) => lt ((S24.1, upd2 S24.2.1 kAreShort (ix (nI b)) 0, S24.2.2)) (fun (S26 : Mem) => lt ((S26.1, upd2 S26.2.1 kHaveFailed (ix (nI b)) 1, S26.2.2)) (fun (S28 : Mem) => S28)))))).2.1 = endB Y3.2.1 b := by
      rw [eib]
      rfl
    rw [eR]
    refine ⟨re, ?_, fun k hk => ?_, fun c hc => ⟨?_, ?_⟩, ?_, ?_⟩
    · refine N_endB r2 hb (by rw [off kHaveFailed (by decide) (by decide)]; exact h0) hL ?_ ?_ (fun k hk => ?_)
      · intro p hp hs
        rw [off kPayments (by decide) (by decide)] at hp
        rw [off kStates (by decide) (by decide)] at hs
        rw [off kBankOf (by decide) (by decide), off kFroms (by decide) (by decide), off kTos (by decide) (by decide)]
        exact hw p hp hs
      · intro p hp
        rw [off kBids (by decide) (by decide)] at hp
        rw [off kBidBanks (by decide) (by decide)]
        exact hB p hp
      · rw [off kAuctions (by decide) (by decide)] at hk
        rw [r3 kBonds (by decide)]
        exact hz1 k hk
    · have hn : ∀ c : Nat, [16, 17, 18, 20, 21, 26, 41].contains c = true → k ≠ c := fun c hc q => by rw [← q, hk] at hc; cases hc
      unfold endB
      rw [u_ne (hn 20 (by decide)), u_ne (hn 21 (by decide)), u_ne (hn 18 (by decide)), u_ne (hn 17 (by decide)), u_ne (hn 16 (by decide))]
      exact off k (hn 41 (by decide)) (hn 26 (by decide))
    · show ru (Y3.2.1 kLent) b 0 c = _
      rw [ru_ne hc, off kLent (by decide) (by decide)]
    · show ru (Y3.2.1 kHaveFailed) b 1 c = _
      rw [ru_ne hc, off kHaveFailed (by decide) (by decide)]
    · show ru (Y3.2.1 kLent) b 0 b = 0
      exact ru_eq
    · show ru (Y3.2.1 kHaveFailed) b 1 b = 1
      exact ru_eq
