/-! a payment is done -/
def finR (R : Col) (p : Nat) : Col := upd2 (upd2 (upd2 (upd2 (upd2 R kStates p 1) kDoneDays p (R kDays 0)) kBlocked (ix (R kFroms p)) (R kBlocked (ix (R kFroms p)) - R kAmounts p)) kAccounts (ix (R kFroms p)) (R kAccounts (ix (R kFroms p)) - R kAmounts p)) kAccounts (ix (R kTos p)) (R kAccounts (ix (R kTos p)) + R kAmounts p)
theorem zP.ne {pc fr to st am bo bl : Row} (h : zP pc fr to st am bo bl) {p : Nat} (hp : p < ix (pc 0)) (h0 : st p = 0) : ix (fr p) ≠ ix (to p) := fun q => ((h.2.1 p hp).2.2 h0).2.2.2 (inb_inj (h.2.1 p hp).1 (h.2.1 p hp).2.1 q)
theorem N_finish {u v L : Int} {R : Col} {p : Nat} (n : Num u v L R) (hu : u ≤ 5120000) (hp : p < ix (R kPayments 0)) (h0 : R kStates p = 0) : Num u v L (finR R p) := by
  obtain ⟨nh, nu, np, nb, nv, nf, nl, nd, ns, nw, nq⟩ := n
  have ha := ((np.2.1 p hp).1).2
  have hb := ((np.2.1 p hp).2.1).2
  have hne := np.ne hp h0
  have hm := np.am p hp h0
  have hle := np.le hp h0
  obtain ⟨-, wa, wb, -⟩ := (np.2.1 p hp).2.2 h0
  have h1 := nh _ ha
  have h2 := nh _ hb
  have h3 := uS_two nh.pos ha hb hne
  have h5 := nh.pos _ ha
  have h6 := nh.pos _ hb
  have e1 : (R kBlocked (ix (R kFroms p)) - R kAmounts p).toInt = (R kBlocked (ix (R kFroms p))).toInt - (R kAmounts p).toInt := by
    rw [w_sub]
    omega
  have e2 : (R kAccounts (ix (R kFroms p)) - R kAmounts p).toInt = (R kAccounts (ix (R kFroms p))).toInt - (R kAmounts p).toInt := by
    rw [w_sub]
    omega
  have e3 : (R kAccounts (ix (R kTos p)) + R kAmounts p).toInt = (R kAccounts (ix (R kTos p))).toInt + (R kAmounts p).toInt := by
    rw [w_add]
    omega
  have gh : zH (R kBankOf) (ru (ru (R kAccounts) (ix (R kFroms p)) (R kAccounts (ix (R kFroms p)) - R kAmounts p)) (ix (R kTos p)) (R kAccounts (ix (R kTos p)) + R kAmounts p)) (ru (R kBlocked) (ix (R kFroms p)) (R kBlocked (ix (R kFroms p)) - R kAmounts p)) (R kForged) (R kNotes) (R kHaveFailed) := by
    intro i hi
    obtain ⟨q1, q2, q3, q4, q5, q6⟩ := nh i hi
    by_cases c1 : i = ix (R kTos p)
    · subst c1
      rw [ru_eq, ru_ne (fun z => hne z.symm), e3]
      exact ⟨q1, fun z => absurd z wb, q3, by omega, q5, q6⟩
    · rw [ru_ne c1]
      by_cases c2 : i = ix (R kFroms p)
      · subst c2
        rw [ru_eq, ru_eq, e1, e2]
        exact ⟨q1, fun z => absurd z wa, by omega, by omega, q5, q6⟩
      · rw [ru_ne c2, ru_ne c2]
        exact ⟨q1, q2, q3, q4, q5, q6⟩
  have gu : uS (ru (ru (R kAccounts) (ix (R kFroms p)) (R kAccounts (ix (R kFroms p)) - R kAmounts p)) (ix (R kTos p)) (R kAccounts (ix (R kTos p)) + R kAmounts p)) (R kNotes) ≤ u := by
    rw [uS_ac hb, uS_ac ha, ru_ne (fun z => hne z.symm), e2, e3]
    omega
  exact ⟨gh, gu, np.done hp h0 (by decide) e1, nb, nv, nf, nl, nd, ns, nw, nq⟩
theorem finR_eq {u v L : Int} {B : Mem} {p : Nat} (n : Num u v L B.2.1) (hp : p < ix (B.2.1 kPayments 0)) (h0 : B.2.1 kStates p = 0) : (f_X12_finishes B (nI p)).2.1 = finR B.2.1 p := by
  have hp2 := n.2.2.1.1.2
  have e : ix (nI p) = p := ix_nI (by omega)
  have hne := n.2.2.1.ne hp h0
  unfold f_X12_finishes
  rw [e]
  have e2 : upd2 (upd2 (upd2 (upd2 B.2.1 kStates p 1) kDoneDays p (B.2.1 kDays 0)) kBlocked (ix (B.2.1 kFroms p)) (B.2.1 kBlocked (ix (B.2.1 kFroms p)) - B.2.1 kAmounts p)) kAccounts (ix (B.2.1 kFroms p)) (B.2.1 kAccounts (ix (B.2.1 kFroms p)) - B.2.1 kAmounts p) kAccounts (ix (B.2.1 kTos p)) = B.2.1 kAccounts (ix (B.2.1 kTos p)) := upd2_row (fun z => hne z.symm)
  unfold finR
  rw [← e2]
  rfl
theorem fin_ok12 {u v L : Int} {B : Mem} {p : Nat} (n : Num u v L B.2.1) (hp : p < ix (B.2.1 kPayments 0)) : ok_X12_finishes B (nI p) := by
  have hp2 := n.2.2.1.1.2
  have e : ix (nI p) = p := ix_nI (by omega)
  have i1 : inb (nI p) 200 := inb_nI (by omega) (by omega)
  have i2 := (n.2.2.1.2.1 p hp).1
  have i3 := (n.2.2.1.2.1 p hp).2.1
  unfold ok_X12_finishes
  rw [e]
  refine ⟨i1, fun S2 e2 => ?_⟩
  subst e2
  refine ⟨i1, fun S4 e4 => ?_⟩
  subst e4
  refine ⟨i1, i2, i1, i2, fun S9 e9 => ?_⟩
  subst e9
  refine ⟨i1, i2, i1, i2, fun S14 e14 => ?_⟩
  subst e14
  exact ⟨i1, i3, i1, i3⟩
theorem Rel.finish {u v L : Int} {A : Mem} {R : Col} {d : Int32} (h : Rel A.1 R d) (n : Num u v L R) {p : Nat} (hp : p < ix (R kPayments 0)) {dy : Int32} (hd : dy = R kDays 0) (h0 : R kStates p = 0) : ok_X10_finish A p dy ∧ (∀ k, k < 63 ∨ 66 < k → k ≠ 8 → k ≠ 9 → k ≠ 34 → k ≠ 37 → (f_X10_finish A p dy).1 k = A.1 k) ∧ Rel (f_X10_finish A p dy).1 (finR R p) d := by
  have hp2 := n.2.2.1.1.2
  have hp3 : p < 200 := by omega
  have i2 := (n.2.2.1.2.1 p hp).1
  have i3 := (n.2.2.1.2.1 p hp).2.1
  have hne := n.2.2.1.ne hp h0
  have hF : A.1 kFroms p = R kFroms p := h.sh kFroms p hp3
  have hT : A.1 kTos p = R kTos p := h.sh kTos p hp3
  have hM : A.1 kAmounts p = R kAmounts p := h.sh kAmounts p hp3
  have hB : A.1 kBlocked (ix (R kFroms p)) = R kBlocked (ix (R kFroms p)) := h.sh kBlocked _ i2.2
  have r1 : Rel (upd2 A.1 kBlocked (ix (R kFroms p)) (R kBlocked (ix (R kFroms p)) - R kAmounts p), A.2).1 (upd2 R kBlocked (ix (R kFroms p)) (R kBlocked (ix (R kFroms p)) - R kAmounts p)) d := h.plain kBlocked _ (by decide) rfl
  have q1 : ((upd2 A.1 kBlocked (f_X3_holder A (A.1 kFroms p)) ((A.1 kBlocked (f_X3_holder A (A.1 kFroms p))) - (A.1 kAmounts p)), A.2) : Mem) = (upd2 A.1 kBlocked (ix (R kFroms p)) (R kBlocked (ix (R kFroms p)) - R kAmounts p), A.2) := by
    rw [hF, hM, holder_in i2, hB]
  have qF : (upd2 A.1 kBlocked (ix (R kFroms p)) (R kBlocked (ix (R kFroms p)) - R kAmounts p)) kFroms p = R kFroms p := (upd2_ne (by decide)).trans hF
  have qT : (upd2 A.1 kBlocked (ix (R kFroms p)) (R kBlocked (ix (R kFroms p)) - R kAmounts p)) kTos p = R kTos p := (upd2_ne (by decide)).trans hT
  have qM : (upd2 A.1 kBlocked (ix (R kFroms p)) (R kBlocked (ix (R kFroms p)) - R kAmounts p)) kAmounts p = R kAmounts p := (upd2_ne (by decide)).trans hM
  have qk : ∀ k, k ≠ 9 → (upd2 A.1 kBlocked (ix (R kFroms p)) (R kBlocked (ix (R kFroms p)) - R kAmounts p)) k = A.1 k := fun k hk => u_ne hk
  unfold ok_X10_finish f_X10_finish
  rw [q1, lt_x]
  revert r1 qF qT qM qk
  generalize upd2 A.1 kBlocked (ix (R kFroms p)) (R kBlocked (ix (R kFroms p)) - R kAmounts p) = C1
  intro r1 qF qT qM qk
  obtain ⟨o1, -, k1, r2⟩ := r1.change (v := -(R kAmounts p)) i2
  have q2T : (f_X3_change (C1, A.2) (R kFroms p) (-(R kAmounts p))).1 kTos p = R kTos p := by
    rw [k1 kTos (by decide) (by decide)]
    exact qT
  have q2M : (f_X3_change (C1, A.2) (R kFroms p) (-(R kAmounts p))).1 kAmounts p = R kAmounts p := by
    rw [k1 kAmounts (by decide) (by decide)]
    exact qM
  have oo : ok_X3_change (C1, A.2) (C1 kFroms p) (-(C1 kAmounts p)) := by
    rw [qF, qM]
    exact o1
  have q2 : f_X3_change (C1, A.2) (C1 kFroms p) (-(C1 kAmounts p)) = f_X3_change (C1, A.2) (R kFroms p) (-(R kAmounts p)) := by
    rw [qF, qM]
  have r2 : Rel (f_X3_change (C1, A.2) (R kFroms p) (-(R kAmounts p))).1 (upd2 (upd2 R kBlocked (ix (R kFroms p)) (R kBlocked (ix (R kFroms p)) - R kAmounts p)) kAccounts (ix (R kFroms p)) (R kAccounts (ix (R kFroms p)) + -(R kAmounts p))) d := r2
  have k1 : ∀ k, k < 63 ∨ 66 < k → k ≠ 8 → (f_X3_change (C1, A.2) (R kFroms p) (-(R kAmounts p))).1 k = C1 k := k1
  rw [lt_eq q2]
  revert r2 q2T q2M k1 q2
  generalize f_X3_change (C1, A.2) (R kFroms p) (-(R kAmounts p)) = S3
  intro q2T q2M q2 r2 k1
  obtain ⟨o3, -, k3, r3⟩ := r2.change (v := R kAmounts p) i3
  have q3 : f_X3_change S3 (S3.1 kTos p) (S3.1 kAmounts p) = f_X3_change S3 (R kTos p) (R kAmounts p) := by rw [q2T, q2M]
  have o3' : ok_X3_change S3 (S3.1 kTos p) (S3.1 kAmounts p) := by
    rw [q2T, q2M]
    exact o3
  rw [lt_eq q3]
  have e3 : upd2 (upd2 R kBlocked (ix (R kFroms p)) (R kBlocked (ix (R kFroms p)) - R kAmounts p)) kAccounts (ix (R kFroms p)) (R kAccounts (ix (R kFroms p)) + -(R kAmounts p)) kAccounts (ix (R kTos p)) = R kAccounts (ix (R kTos p)) := (upd2_row (fun z => hne z.symm)).trans (upd2_ne (by decide))
  rw [e3, ← Int32.sub_eq_add_neg] at r3
  revert r3 k3
  generalize f_X3_change S3 (R kTos p) (R kAmounts p) = S5
  intro k3 r3
  refine ⟨fun S1 e1 => ?_, fun k h1 h2 h4 h5 h6 => ?_, ?_⟩
  · subst e1
    refine ⟨oo, fun S e => ?_⟩
    rw [q2] at e
    subst e
    exact o3'
  · rw [lt_x, lt_x]
    show upd2 (upd2 S5.1 kStates p 1) kDoneDays p dy k = _
    rw [u_ne h6, u_ne h5, k3 k h1 h2, k1 k h1 h2, qk k h4]
  · rw [lt_x, lt_x]
    have r5 := (r3.state p (v := 1) rfl (by decide)).plain kDoneDays p (by decide) hd
    have e5 : finR R p = upd2 (upd2 (upd2 (upd2 (upd2 R kBlocked (ix (R kFroms p)) (R kBlocked (ix (R kFroms p)) - R kAmounts p)) kAccounts (ix (R kFroms p)) (R kAccounts (ix (R kFroms p)) - R kAmounts p)) kAccounts (ix (R kTos p)) (R kAccounts (ix (R kTos p)) + R kAmounts p)) kStates p 1) kDoneDays p (R kDays 0) := by
      unfold finR
      rw [u_comm (k := kDoneDays) (k' := kBlocked) (by decide), u_comm (k := kDoneDays) (k' := kAccounts) (by decide), u_comm (k := kDoneDays) (k' := kAccounts) (by decide), u_comm (k := kStates) (k' := kBlocked) (by decide), u_comm (k := kStates) (k' := kAccounts) (by decide), u_comm (k := kStates) (k' := kAccounts) (by decide)]
    rw [e5]
    exact r5
