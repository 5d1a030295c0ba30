/-! bonds that are due -/
theorem place_c {k o : Nat} (hk : k < 20) (ho : o < 5) : nI k * nI 5 + nI o = nI (5 * k + o) := by
  have e : nI k * nI 5 = nI (k * 5) := (Int32.ofNat_mul k 5).symm
  rw [e, nI_add, Nat.mul_comm]
theorem place_r {k o : Nat} : nI 5 * nI k + nI o = nI (5 * k + o) := by
  have e : nI 5 * nI k = nI (5 * k) := (Int32.ofNat_mul 5 k).symm
  rw [e, nI_add]
theorem held_at {S : Mem} {k o : Nat} (hk : k < 20) (ho : o < 5) : f_X2_held S (nI o) (nI k) = S.1 kBonds (5 * k + o) := by
  unfold f_X2_held
  rw [lt_x, place_c hk ho, if_neg (nI_pos (by omega)), if_neg (nI_ge (by omega) (by omega)), ix_nI (by omega)]
theorem add_at {S : Mem} {k o : Nat} {v : Int32} (hk : k < 20) (ho : o < 5) : f_X2_add S (nI o) (nI k) v = (upd2 S.1 kBonds (5 * k + o) (S.1 kBonds (5 * k + o) + v), S.2) := by
  unfold f_X2_add
  rw [lt_x, place_c hk ho, if_neg (nI_pos (by omega)), if_neg (nI_ge (by omega) (by omega)), ix_nI (by omega), lt_x]
theorem zF.dec {au bs hf : Row} (h : zF au bs hf) {k o : Nat} (hk : k < 20) (ho : o < 5) {x : Int32} (h0 : 0 ≤ x.toInt) (h1 : x.toInt ≤ (bs (5 * k + o)).toInt) : zF au (ru bs (5 * k + o) x) hf := by
  refine ⟨h.1, fun k' hk' => ?_⟩
  obtain ⟨p1, p2, p3, p4⟩ := h.2 k' hk'
  have at' : ∀ o', o' < 5 → (ru bs (5 * k + o) x (5 * k' + o') = bs (5 * k' + o')) ∨ (5 * k + o = 5 * k' + o' ∧ ru bs (5 * k + o) x (5 * k' + o') = x) := fun o' _ => by
    by_cases c : 5 * k' + o' = 5 * k + o
    · exact Or.inr ⟨c.symm, by rw [c, ru_eq]⟩
    · exact Or.inl (ru_ne c)
  have zero : ∀ o', o' < 5 → bs (5 * k' + o') = 0 → ru bs (5 * k + o) x (5 * k' + o') = 0 := fun o' ho' z => by
    rcases at' o' ho' with q | ⟨q1, q⟩
    · rw [q]
      exact z
    · rw [q]
      rw [q1, z, w_0] at h1
      exact Int32.toInt_inj.mp (by rw [w_0]; omega)
  refine ⟨fun o' ho' => ?_, Int.le_trans (sumI_le 5 (fun o' ho' => ?_)) p2, fun b hb hf' => zero b (by omega) (p3 b hb hf'), fun hn o' ho' => zero o' ho' (p4 hn o' ho')⟩
  · rcases at' o' ho' with q | ⟨q1, q⟩
    · rw [q]
      exact p1 o' ho'
    · rw [q]
      exact h0
  · rcases at' o' ho' with q | ⟨q1, q⟩
    · rw [q]
      exact Int.le_refl _
    · rw [q, ← q1]
      exact h1
theorem tr_hi {u v L : Int} {R : Col} (n : Num u v L R) (hv : v ≤ 5120000) : 0 ≤ (R kTreasury 0).toInt ∧ (R kTreasury 0).toInt ≤ 169600000 := by
  obtain ⟨h1, h2, h3, h4⟩ := re_hi n hv (show 0 < 4 by omega)
  omega
def dueR (R : Col) (k o : Nat) : Col :=
  if o = 4 then upd2 (upd2 R kTreasury 0 (R kTreasury 0 - (if R kTreasury 0 < R kBonds (5 * k + o) then R kTreasury 0 else R kBonds (5 * k + o)))) kBonds (5 * k + o) (R kBonds (5 * k + o) - (if R kTreasury 0 < R kBonds (5 * k + o) then R kTreasury 0 else R kBonds (5 * k + o)))
  else upd2 (upd2 (upd2 R kTreasury 0 (R kTreasury 0 - (if R kTreasury 0 < R kBonds (5 * k + o) then R kTreasury 0 else R kBonds (5 * k + o)))) kBonds (5 * k + o) (R kBonds (5 * k + o) - (if R kTreasury 0 < R kBonds (5 * k + o) then R kTreasury 0 else R kBonds (5 * k + o)))) kReserves o (R kReserves o + (if R kTreasury 0 < R kBonds (5 * k + o) then R kTreasury 0 else R kBonds (5 * k + o)))
theorem dueR_off {R : Col} {k o c : Nat} (h1 : c ≠ 48) (h2 : c ≠ 41) (h3 : c ≠ 16) : dueR R k o c = R c := by
  unfold dueR
  split
  · rw [u_ne h2, u_ne h1]
  · rw [u_ne h3, u_ne h2, u_ne h1]
theorem due_one {u v L : Int} {A : Mem} {R : Col} {d : Int32} {k o : Nat} (h : Rel A.1 R d) (n : Num u v L R) (hv : v ≤ 5120000) (hk : k < ix (R kAuctions 0)) (ho : o < 5) : Rel (f_X2_payBondsOf A (nI k) (nI o)).1 (dueR R k o) d ∧ Num u v L (dueR R k o) := by
  have hau := n.2.2.2.2.2.1
  have hk20 : k < 20 := by
    have := hau.1.2
    omega
  have ht := tr_hi n hv
  have hcell := (hau.2 k hk20).1 o ho
  have hA : A.1 kBonds (5 * k + o) = R kBonds (5 * k + o) := h.sh kBonds _ (show 5 * k + o < 100 by omega)
  have hT : A.1 kTreasury 0 = R kTreasury 0 := h.sh kTreasury 0 (by decide)
  have hm : 0 ≤ (if R kTreasury 0 < R kBonds (5 * k + o) then R kTreasury 0 else R kBonds (5 * k + o)).toInt ∧ (if R kTreasury 0 < R kBonds (5 * k + o) then R kTreasury 0 else R kBonds (5 * k + o)).toInt ≤ (R kTreasury 0).toInt ∧ (if R kTreasury 0 < R kBonds (5 * k + o) then R kTreasury 0 else R kBonds (5 * k + o)).toInt ≤ (R kBonds (5 * k + o)).toInt := by
    by_cases c : R kTreasury 0 < R kBonds (5 * k + o)
    · rw [if_pos c]
      rw [w_lt] at c
      omega
    · rw [if_neg c]
      rw [w_lt] at c
      omega
  unfold f_X2_payBondsOf dueR
  rw [lt_x, held_at hk20 ho, hA, hT, min_sym]
  revert hm
  generalize (if R kTreasury 0 < R kBonds (5 * k + o) then R kTreasury 0 else R kBonds (5 * k + o)) = m
  intro hm
  simp only [lt_x, add_at hk20 ho]
  have e1 : (R kTreasury 0 - m).toInt = (R kTreasury 0).toInt - m.toInt := by
    rw [w_sub]
    omega
  have e2 : (R kBonds (5 * k + o) - m).toInt = (R kBonds (5 * k + o)).toInt - m.toInt := by
    rw [w_sub]
    have := w_hi (R kBonds (5 * k + o))
    omega
  have t1 : ∀ x, upd2 A.1 kTreasury 0 x kBonds (5 * k + o) = R kBonds (5 * k + o) := fun x => hA
  simp only [t1]
  rw [← Int32.sub_eq_add_neg]
  have r1 := h.treasury (v := R kTreasury 0 - m) (w := R kTreasury 0 - m) rfl
  have r2 := r1.bonds (k := k) (o := o) (v := R kBonds (5 * k + o) - m) (w := R kBonds (5 * k + o) - m) hk ho rfl
  rw [show upd2 R kTreasury 0 (R kTreasury 0 - m) kBonds (5 * k + o) = R kBonds (5 * k + o) from rfl] at r2
  obtain ⟨nh, nu, np, nb, nv, nf, nl, nd, ns, nw, nq⟩ := n
  have gf : zF (R kAuctions) (ru (R kBonds) (5 * k + o) (R kBonds (5 * k + o) - m)) (R kHaveFailed) := nf.dec hk20 ho (by omega) (by omega)
  have gs : zS (R kDays) (R kRate) (R kCapitalRule) (R kReserveRule) (ru (R kTreasury) 0 (R kTreasury 0 - m)) (R kExchange) := by
    obtain ⟨s1, s2, s3, s4, s5, s6, s7, s8, s9, s10⟩ := ns
    exact ⟨s1, s2, s3, s4, s5, s6, s7, s8, by rw [ru_eq]; omega, s10⟩
  by_cases c4 : o = 4
  · have c4' : nI o = nI 4 := by rw [c4]
    rw [if_pos c4', if_pos c4]
    rw [if_pos c4] at r2
    refine ⟨r2.d_eq (by grind), nh, nu, np, nb, ?_, gf, nl, nd, gs, nw, nq⟩
    show vS (R kReserves) (R kVaults) (ru (R kTreasury) 0 (R kTreasury 0 - m)) (R kHaveFailed) (R kDays) ≤ v
    rw [vS_tr, e1]
    omega
  · have c4' : ¬ nI o = nI 4 := fun q => c4 (nI_inj (by omega) (by omega) q)
    have ho4 : o < 4 := by omega
    rw [if_neg c4', if_neg c4]
    rw [if_neg c4] at r2
    have hR : A.1 kReserves o = R kReserves o := h.sh kReserves o ho4
    have hre := nb o ho4
    have hre2 := vS_one (dy := R kDays) (tr := R kTreasury) nb ns.2.2.2.2.2.2.2.2.1 ho4
    have hds := ns.2.1
    have e3 : (R kReserves o + m).toInt = (R kReserves o).toInt + m.toInt := by
      rw [w_add]
      omega
    have t2 : ∀ x y, upd2 (upd2 A.1 kTreasury 0 x) kBonds (5 * k + o) y kReserves o = R kReserves o := fun x y => hR
    simp only [bank_nI ho4, t2]
    have r3 := r2.reserves (i := o) (v := R kReserves o + m) (w := R kReserves o + m) ho4 rfl
    rw [show upd2 (upd2 R kTreasury 0 (R kTreasury 0 - m)) kBonds (5 * k + o) (R kBonds (5 * k + o) - m) kReserves o = R kReserves o from rfl] at r3
    refine ⟨r3.d_eq (by grind), nh, nu, np, ?_, ?_, gf, nl, nd, gs, nw, nq⟩
    · show zB L (ru (R kReserves) o (R kReserves o + m)) (R kVaults) (R kLent) (R kLimits) (R kHaveFailed) (R kAreShort)
      intro b hb
      by_cases c : b = o
      · subst c
        rw [ru_eq, e3]
        exact ⟨by omega, hre.2⟩
      · rw [ru_ne c]
        exact nb b hb
    · show vS (ru (R kReserves) o (R kReserves o + m)) (R kVaults) (ru (R kTreasury) 0 (R kTreasury 0 - m)) (R kHaveFailed) (R kDays) ≤ v
      rw [vS_re ho4, vS_tr, e1, e3]
      omega
theorem due_R {B : Mem} {k j : Nat} (hk : k < 20) (hj : j < 5) (hd : ¬ B.2.1 kDays 0 < B.2.1 kDues k) : b12_X12_paysBonds k j B = .inl (B.1, dueR B.2.1 k (if j = 0 then 4 else j - 1), B.2.2) := by
  have e9 : (if nI j = 0 then nI 4 else nI j - 1) = nI (if j = 0 then 4 else j - 1) := by
    by_cases c : j = 0
    · rw [if_pos c, if_pos (by rw [c]; rfl)]
    · have e : nI j = nI (j - 1 + 1) := by rw [show j - 1 + 1 = j by omega]
      rw [if_neg c, if_neg (fun q => c (nI_inj (by omega) (by omega) (q.trans nI_0.symm))), e, nI_pred]
  have ho : (if j = 0 then 4 else j - 1) < 5 := by split <;> omega
  unfold b12_X12_paysBonds
  rw [if_neg hd, e9, lt_x, place_r, ix_nI (by omega), least_eq]
  revert ho
  generalize (if j = 0 then 4 else j - 1) = o
  intro ho
  simp only [lt_x]
  unfold dueR
  by_cases c4 : o = 4
  · rw [if_pos c4, if_pos (by rw [c4])]
    rfl
  · rw [if_neg c4, if_neg (fun q => c4 (nI_inj (by omega) (by omega) q)), ix_nI (by omega)]
    rfl
