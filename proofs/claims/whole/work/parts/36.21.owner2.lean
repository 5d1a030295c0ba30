theorem inb5 {x : Int32} (h : inb x 5) (h4 : x ≠ nI 4) : inb x 4 := by
  refine ⟨h.1, ?_⟩
  have h2 := h.2
  rcases Nat.lt_or_ge (ix x) 4 with q | q
  · exact q
  · exact absurd (by rw [h.1, show ix x = 4 by omega]) h4
theorem inb4_ne {x : Int32} (h : inb x 4) : x ≠ nI 4 := fun q => by
  have h2 := h.2
  rw [q, ix_nI (by omega)] at h2
  omega
theorem re_hi {u v L : Int} {R : Col} (n : Num u v L R) (hv : v ≤ 5120000) {b : Nat} (hb : b < 4) : 0 ≤ (R kReserves b).toInt ∧ 0 ≤ (R kVaults b).toInt ∧ (R kReserves b).toInt + (R kVaults b).toInt + (R kTreasury 0).toInt ≤ 169600000 ∧ 0 ≤ (R kTreasury 0).toInt := by
  obtain ⟨nh, nu, np, nb, nv, nf, nl, nd, ns, nw, nq⟩ := n
  have h1 := vS_one (dy := R kDays) (tr := R kTreasury) nb ns.2.2.2.2.2.2.2.2.1 hb
  have h2 := ns.2.1
  have h3 := nb b hb
  have h4 := ns.2.2.2.2.2.2.2.2.1
  exact ⟨h3.1, h3.2.1, by omega, h4⟩
theorem N_end {u v L : Int} {R : Col} {j : Nat} {m : Int32} (n : Num u v L R) (hv : v ≤ 5120000) (hj : j < ix (R kLoans 0)) (hm : 0 ≤ m.toInt) (hb : inb (R kBankOf (ix (R kLoanHolders j))) 4) (hf : m.toInt ≤ (R kAccounts (ix (R kLoanHolders j))).toInt - (R kBlocked (ix (R kLoanHolders j))).toInt) (hr : R kBankOf (ix (R kLoanHolders j)) = R kLoanBanks j ∨ m.toInt ≤ (R kReserves (ix (R kBankOf (ix (R kLoanHolders j))))).toInt) : Num u v L (endR R j m) := by
  have hbk := re_hi n hv hb.2
  obtain ⟨hx, hlb, -⟩ := n.2.2.2.2.2.2.1.2.1 j hj
  have hlo := fun q : R kLoanBanks j ≠ nI 4 => re_hi n hv (inb5 hlb q).2
  obtain ⟨nh, nu, np, nb, nv, nf, nl, nd, ns, nw, nq⟩ := n
  obtain ⟨q1, q2, q3, q4, q5, q6⟩ := nh _ hx.2
  have hi := w_hi (R kAccounts (ix (R kLoanHolders j)))
  have e1 : (R kAccounts (ix (R kLoanHolders j)) - m).toInt = (R kAccounts (ix (R kLoanHolders j))).toInt - m.toInt := by
    rw [w_sub]
    omega
  have gh : zH (R kBankOf) (ru (R kAccounts) (ix (R kLoanHolders j)) (R kAccounts (ix (R kLoanHolders j)) - m)) (R kBlocked) (R kForged) (R kNotes) (R kHaveFailed) := by
    intro i hi2
    obtain ⟨p1, p2, p3, p4, p5, p6⟩ := nh i hi2
    by_cases c : i = ix (R kLoanHolders j)
    · subst c
      rw [ru_eq, e1]
      exact ⟨p1, fun z => absurd z (inb_ne hb), p3, by omega, p5, p6⟩
    · rw [ru_ne c]
      exact ⟨p1, p2, p3, p4, p5, p6⟩
  have gu : uS (ru (R kAccounts) (ix (R kLoanHolders j)) (R kAccounts (ix (R kLoanHolders j)) - m)) (R kNotes) ≤ u := by
    rw [uS_ac hx.2, e1]
    omega
  unfold endR
  by_cases c1 : R kBankOf (ix (R kLoanHolders j)) = R kLoanBanks j
  · rw [if_pos c1]
    exact ⟨gh, gu, np, nb, nv, nf, nl, nd, ns, nw, nq⟩
  rw [if_neg c1]
  have hr2 : m.toInt ≤ (R kReserves (ix (R kBankOf (ix (R kLoanHolders j))))).toInt := by
    rcases hr with z | z
    · exact absurd z c1
    · exact z
  have e2 : (R kReserves (ix (R kBankOf (ix (R kLoanHolders j)))) - m).toInt = (R kReserves (ix (R kBankOf (ix (R kLoanHolders j))))).toInt - m.toInt := by
    rw [w_sub]
    omega
  have gb : zB L (ru (R kReserves) (ix (R kBankOf (ix (R kLoanHolders j)))) (R kReserves (ix (R kBankOf (ix (R kLoanHolders j)))) - m)) (R kVaults) (R kLent) (R kLimits) (R kHaveFailed) (R kAreShort) := by
    intro b hb2
    have p := nb b hb2
    by_cases c : b = ix (R kBankOf (ix (R kLoanHolders j)))
    · subst c
      rw [ru_eq, e2]
      exact ⟨by omega, p.2⟩
    · rw [ru_ne c]
      exact p
  by_cases c2 : R kLoanBanks j = nI 4
  · rw [if_pos c2]
    refine ⟨gh, gu, np, gb, ?_, nf, nl, nd, ns, nw, nq⟩
    show vS (ru (R kReserves) (ix (R kBankOf (ix (R kLoanHolders j)))) (R kReserves (ix (R kBankOf (ix (R kLoanHolders j)))) - m)) (R kVaults) (R kTreasury) (R kHaveFailed) (R kDays) ≤ v
    rw [vS_re hb.2, e2]
    omega
  · rw [if_neg c2]
    have hlb4 := inb5 hlb c2
    have hne : ix (R kLoanBanks j) ≠ ix (R kBankOf (ix (R kLoanHolders j))) := fun z => c1 (inb_inj hlb4 hb z).symm
    have hq := hlo c2
    have e3 : (R kReserves (ix (R kLoanBanks j)) + m).toInt = (R kReserves (ix (R kLoanBanks j))).toInt + m.toInt := by
      rw [w_add]
      omega
    refine ⟨gh, gu, np, ?_, ?_, nf, nl, nd, ns, nw, nq⟩
    · show zB L (ru (ru (R kReserves) (ix (R kBankOf (ix (R kLoanHolders j)))) (R kReserves (ix (R kBankOf (ix (R kLoanHolders j)))) - m)) (ix (R kLoanBanks j)) (R kReserves (ix (R kLoanBanks j)) + m)) (R kVaults) (R kLent) (R kLimits) (R kHaveFailed) (R kAreShort)
      intro b hb2
      have p := gb b hb2
      by_cases c : b = ix (R kLoanBanks j)
      · subst c
        rw [ru_eq, e3]
        exact ⟨by omega, p.2⟩
      · rw [ru_ne c]
        exact p
    · show vS (ru (ru (R kReserves) (ix (R kBankOf (ix (R kLoanHolders j)))) (R kReserves (ix (R kBankOf (ix (R kLoanHolders j)))) - m)) (ix (R kLoanBanks j)) (R kReserves (ix (R kLoanBanks j)) + m)) (R kVaults) (R kTreasury) (R kHaveFailed) (R kDays) ≤ v
      rw [vS_re hlb4.2, vS_re hb.2, ru_ne hne, e2, e3]
      omega
theorem endR_eq {u v L : Int} {B : Mem} {j : Nat} {m : Int32} (n : Num u v L B.2.1) (hj : j < ix (B.2.1 kLoans 0)) (hb : inb (B.2.1 kBankOf (ix (B.2.1 kLoanHolders j))) 4) : (f_X12_endsMoney B (nI j) m).2.1 = endR B.2.1 j m ∧ ok_X12_endsMoney B (nI j) m := by
  have hl := n.2.2.2.2.2.2.1
  have hj20 : j < 20 := by
    have := hl.1.2
    omega
  obtain ⟨hx, hlb, -⟩ := hl.2.1 j hj
  have ej : ix (nI j) = j := ix_nI (by omega)
  have i20 : inb (nI j) 20 := inb_nI hj20 (by omega)
  constructor
  · unfold f_X12_endsMoney endR
    simp only [lt_x, ej]
    rw [show upd2 B.2.1 kAccounts (ix (B.2.1 kLoanHolders j)) (B.2.1 kAccounts (ix (B.2.1 kLoanHolders j)) - m) kBankOf (ix (B.2.1 kLoanHolders j)) = B.2.1 kBankOf (ix (B.2.1 kLoanHolders j)) from rfl]
    by_cases c1 : B.2.1 kBankOf (ix (B.2.1 kLoanHolders j)) = B.2.1 kLoanBanks j
    · rw [if_pos c1, if_pos c1]
    rw [if_neg c1, if_neg c1]
    by_cases c2 : B.2.1 kLoanBanks j = nI 4
    · rw [if_pos c2, if_pos c2]
      rfl
    rw [if_neg c2, if_neg c2]
    have hne : ix (B.2.1 kLoanBanks j) ≠ ix (B.2.1 kBankOf (ix (B.2.1 kLoanHolders j))) := fun z => c1 (inb_inj (inb5 hlb c2) hb z).symm
    rw [upd2_row hne]
    rfl
  · unfold ok_X12_endsMoney
    rw [ej]
    refine ⟨i20, i20, hx, hx, ?_⟩
    intro S5 e5
    subst e5
    refine ⟨hx, fun _ => ⟨hx, hb, hb, ?_⟩⟩
    intro S11 e11 c
    exact ⟨inb5 hlb c, inb5 hlb c⟩
theorem payO_C {u v L : Int} {A : Mem} {R : Col} {d m : Int32} {j : Nat} (h : Rel A.1 R d) (n : Num u v L R) (hj : j < ix (R kLoans 0)) (hb : inb (R kBankOf (ix (R kLoanHolders j))) 4 ∨ m = 0) : ok_X3_payOwner A j m ∧ Rel (f_X3_payOwner A j m).1 (endR R j m) (d - (if R kLoanBanks j = nI 4 then m else 0)) := by
  have hl := n.2.2.2.2.2.2.1
  have hj20 : j < 20 := by
    have := hl.1.2
    omega
  obtain ⟨hx, hlb, -⟩ := hl.2.1 j hj
  have hH : A.1 kLoanHolders j = R kLoanHolders j := h.sh kLoanHolders j hj20
  obtain ⟨o1, -, k1, r1⟩ := h.change (v := -m) hx
  unfold ok_X3_payOwner f_X3_payOwner
  rw [hH]
  refine ⟨o1, ?_⟩
  rw [lt_x, holder_in hx]
  revert k1 r1
  generalize f_X3_change A (R kLoanHolders j) (-m) = S2
  intro k1 r1
  rw [← Int32.sub_eq_add_neg] at r1
  have hLb : S2.1 kLoanBanks j = R kLoanBanks j := r1.sh kLoanBanks j hj20
  have hBx : S2.1 kBankOf (ix (R kLoanHolders j)) = R kBankOf (ix (R kLoanHolders j)) := r1.sh kBankOf _ hx.2
  rw [hLb, hBx]
  by_cases c1 : R kBankOf (ix (R kLoanHolders j)) = R kLoanBanks j
  · have e : endR R j m = upd2 R kAccounts (ix (R kLoanHolders j)) (R kAccounts (ix (R kLoanHolders j)) - m) := by
      unfold endR
      rw [if_pos c1]
    rw [if_pos c1, e]
    by_cases c4 : R kLoanBanks j = nI 4
    · rcases hb with hb | hb
      · exact absurd (c1.trans c4) (inb4_ne hb)
      · rw [if_pos c4, hb]
        rw [hb] at r1
        exact r1.d_eq (by grind)
    · rw [if_neg c4]
      exact r1.d_eq (by grind)
  rw [if_neg c1]
  simp only [lt_x]
  have e4 : ∀ x : Int32, upd2 S2.1 kReserves (f_X3_bank S2 (R kBankOf (ix (R kLoanHolders j)))) x kLoanBanks j = R kLoanBanks j := fun x => (upd2_ne (by decide)).trans hLb
  rw [e4]
  rcases hb with hb | hb
  · have hRe : S2.1 kReserves (ix (R kBankOf (ix (R kLoanHolders j)))) = R kReserves (ix (R kBankOf (ix (R kLoanHolders j)))) := r1.sh kReserves _ hb.2
    rw [bank_in hb, hRe]
    have r2 := r1.reserves (i := ix (R kBankOf (ix (R kLoanHolders j)))) (v := R kReserves (ix (R kBankOf (ix (R kLoanHolders j)))) - m) (w := R kReserves (ix (R kBankOf (ix (R kLoanHolders j)))) - m) hb.2 rfl
    rw [show upd2 R kAccounts (ix (R kLoanHolders j)) (R kAccounts (ix (R kLoanHolders j)) - m) kReserves (ix (R kBankOf (ix (R kLoanHolders j)))) = R kReserves (ix (R kBankOf (ix (R kLoanHolders j)))) from rfl] at r2
    by_cases c2 : R kLoanBanks j = nI 4
    · rw [if_pos c2, if_pos c2]
      unfold endR
      rw [if_neg c1, if_pos c2]
      exact r2.d_eq (by grind)
    · rw [if_neg c2, if_neg c2]
      unfold endR
      rw [if_neg c1, if_neg c2]
      have hlb4 := inb5 hlb c2
      have hne : ix (R kLoanBanks j) ≠ ix (R kBankOf (ix (R kLoanHolders j))) := fun z => c1 (inb_inj hlb4 hb z).symm
      have hR2 : S2.1 kReserves (ix (R kLoanBanks j)) = R kReserves (ix (R kLoanBanks j)) := r1.sh kReserves _ hlb4.2
      rw [bank_in hlb4, upd2_row hne, hR2]
      have r3 := r2.reserves (i := ix (R kLoanBanks j)) (v := R kReserves (ix (R kLoanBanks j)) + m) (w := R kReserves (ix (R kLoanBanks j)) + m) hlb4.2 rfl
      rw [upd2_row hne, show upd2 R kAccounts (ix (R kLoanHolders j)) (R kAccounts (ix (R kLoanHolders j)) - m) kReserves (ix (R kLoanBanks j)) = R kReserves (ix (R kLoanBanks j)) from rfl] at r3
      exact r3.d_eq (by grind)
  · subst hb
    have e0 : ∀ x : Int32, x - 0 = x := fun x => by grind
    have e1 : ∀ x : Int32, x + 0 = x := fun x => Int32.add_zero x
    rw [endR_0]
    rw [e0, uu_same] at r1
    rw [e0, uu_same, e1]
    refine Rel.d_eq (d := d) ?_ (by split <;> grind)
    split
    · exact r1
    · rw [uu_same]
      exact r1
