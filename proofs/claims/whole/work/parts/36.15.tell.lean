/-! a payment is told -/
def tellR (R : Col) (x y m g : Int32) : Col := upd2 (upd2 (upd2 (upd2 (upd2 (upd2 (upd2 (upd2 R kPayments 0 (R kPayments 0 + 1)) kFroms (ix (R kPayments 0)) x) kTos (ix (R kPayments 0)) y) kAmounts (ix (R kPayments 0)) m) kAreGoods (ix (R kPayments 0)) g) kToldDays (ix (R kPayments 0)) (R kDays 0)) kStates (ix (R kPayments 0)) 0) kBlocked (ix x) (R kBlocked (ix x) + m)
def tellC (C : Col) (n : Nat) (x y m b fb tb bl : Int32) : Col := upd2 (upd2 (upd2 (upd2 (upd2 (upd2 (upd2 (upd2 (upd2 C kPayments 0 (nI n + 1)) kFroms n x) kTos n y) kFromBank n fb) kToBank n tb) kAmounts n m) kBoughtOn n b) kStates n 0) kBlocked (ix x) (bl + m)
def payR (R : Col) (x y m g : Int32) : Col := if R kBankOf (ix x) = R kBankOf (ix y) then finR (tellR R x y m g) (ix (R kPayments 0)) else tellR R x y m g
theorem N_tell {u v L : Int} {R : Col} {x y m g : Int32} (n : Num u v L R) (hx : inb x 16) (hy : inb y 16) (hxy : x ≠ y) (bx : R kBankOf (ix x) ≠ -1) (b2 : R kBankOf (ix y) ≠ -1) (hm : 1 ≤ m.toInt) (hf : m.toInt ≤ (R kAccounts (ix x)).toInt - (R kBlocked (ix x)).toInt) (hn : ix (R kPayments 0) < 200) : Num u v L (tellR R x y m g) ∧ ix (tellR R x y m g kPayments 0) = ix (R kPayments 0) + 1 ∧ tellR R x y m g kStates (ix (R kPayments 0)) = 0 := by
  obtain ⟨nh, nu, np, nb, nv, nf, nl, nd, ns, nw, nq⟩ := n
  have h1 := nh _ hx.2
  have i0 := np.1
  have hb2 := w_hi (R kAccounts (ix x))
  have e1 : (R kBlocked (ix x) + m).toInt = (R kBlocked (ix x)).toInt + m.toInt := by
    rw [w_add]
    omega
  have ec : R kPayments 0 + 1 = nI (ix (R kPayments 0) + 1) := by
    rw [nI_succ, ← i0.1]
  have ei : ix (R kPayments 0 + 1) = ix (R kPayments 0) + 1 := by
    rw [ec, ix_nI (by omega)]
  have eq0 : tellR R x y m g kStates (ix (R kPayments 0)) = 0 := by
    show ru (R kStates) (ix (R kPayments 0)) 0 (ix (R kPayments 0)) = 0
    exact ru_eq
  refine ⟨?_, ei, eq0⟩
  have gh : zH (R kBankOf) (R kAccounts) (ru (R kBlocked) (ix x) (R kBlocked (ix x) + m)) (R kForged) (R kNotes) (R kHaveFailed) := by
    intro i hi
    obtain ⟨q1, q2, q3, q4, q5, q6⟩ := nh i hi
    by_cases c1 : i = ix x
    · subst c1
      rw [ru_eq, e1]
      exact ⟨q1, fun z => absurd z bx, by omega, by omega, q5, q6⟩
    · rw [ru_ne c1]
      exact ⟨q1, q2, q3, q4, q5, q6⟩
  have gp : zP (ru (R kPayments) 0 (R kPayments 0 + 1)) (ru (R kFroms) (ix (R kPayments 0)) x) (ru (R kTos) (ix (R kPayments 0)) y) (ru (R kStates) (ix (R kPayments 0)) 0) (ru (R kAmounts) (ix (R kPayments 0)) m) (R kBankOf) (ru (R kBlocked) (ix x) (R kBlocked (ix x) + m)) := by
    refine ⟨?_, ?_, ?_⟩
    · rw [ru_eq, ec]
      exact inb_nI (by omega) (by omega)
    · intro p hp
      rw [ru_eq, ei] at hp
      by_cases c : p = ix (R kPayments 0)
      · subst c
        rw [ru_eq, ru_eq, ru_eq, ru_eq]
        exact ⟨hx, hy, fun _ => ⟨hm, bx, b2, hxy⟩⟩
      · rw [ru_ne c, ru_ne c, ru_ne c, ru_ne c]
        exact np.2.1 p (by omega)
    · intro a ha
      rw [ru_eq, ei]
      have ew : wB (ru (R kStates) (ix (R kPayments 0)) 0) (ru (R kFroms) (ix (R kPayments 0)) x) (ru (R kAmounts) (ix (R kPayments 0)) m) a (ix (R kPayments 0) + 1) = wB (R kStates) (R kFroms) (R kAmounts) a (ix (R kPayments 0)) + (if x = nI a then m.toInt else 0) := by
        show wB (ru (R kStates) (ix (R kPayments 0)) 0) (ru (R kFroms) (ix (R kPayments 0)) x) (ru (R kAmounts) (ix (R kPayments 0)) m) a (ix (R kPayments 0)) + (if ru (R kStates) (ix (R kPayments 0)) 0 (ix (R kPayments 0)) = 0 ∧ ru (R kFroms) (ix (R kPayments 0)) x (ix (R kPayments 0)) = nI a then (ru (R kAmounts) (ix (R kPayments 0)) m (ix (R kPayments 0))).toInt else 0) = _
        rw [ru_eq, ru_eq, ru_eq]
        have : wB (ru (R kStates) (ix (R kPayments 0)) 0) (ru (R kFroms) (ix (R kPayments 0)) x) (ru (R kAmounts) (ix (R kPayments 0)) m) a (ix (R kPayments 0)) = wB (R kStates) (R kFroms) (R kAmounts) a (ix (R kPayments 0)) := sumI_congr _ (fun p hp => by
          have c : p ≠ ix (R kPayments 0) := by omega
          simp only [ru_ne c])
        rw [this]
        by_cases z : x = nI a
        · rw [if_pos ⟨rfl, z⟩, if_pos z]
        · rw [if_neg (fun q => z q.2), if_neg z]
      rw [ew, ← np.2.2 a ha]
      by_cases c : a = ix x
      · subst c
        rw [ru_eq, e1, if_pos hx.1]
      · rw [ru_ne c, if_neg (fun z => c (by rw [z, ix_nI (by omega)]))]
        omega
  exact ⟨gh, nu, gp, nb, nv, nf, nl, nd, ns, nw, nq⟩
theorem Rel.tell {C R : Col} {d x y m b g : Int32} (h : Rel C R d) (i0 : inb (R kPayments 0) 201) (hx : inb x 16) (hy : inb y 16) (hn : ix (R kPayments 0) < 200) (hg : (g = 0 ∧ b = -1) ∨ (g = 1 ∧ b = R kDays 0)) (hd : 0 ≤ (R kDays 0).toInt) : Rel (tellC C (ix (R kPayments 0)) x y m b (R kBankOf (ix x)) (R kBankOf (ix y)) (R kBlocked (ix x))) (tellR R x y m g) d := by
  obtain ⟨h1, h2, h3, h4, h5, h6, h7, h8, h9⟩ := h
  have ec : R kPayments 0 + 1 = nI (ix (R kPayments 0) + 1) := by
    rw [nI_succ, ← i0.1]
  have ei : ix (R kPayments 0 + 1) = ix (R kPayments 0) + 1 := by
    rw [ec, ix_nI (by omega)]
  have e0 : nI (ix (R kPayments 0)) + 1 = R kPayments 0 + 1 := by rw [← i0.1]
  unfold tellC tellR
  refine ⟨?_, ?_, fun a ha => ?_, ?_, ?_, ?_, ?_, h8, h9⟩
  · exact (((((((((((h1.upd _ _ e0).upd _ _ rfl).upd _ _ rfl).updC _ _ (by decide)).updC _ _ (by decide)).upd _ _ rfl).updC _ _ (by decide)).updR _ _ (by decide)).updR _ _ (by decide)).upd _ _ rfl).upd _ _ rfl)
  · repeat refine LogI_upd (by decide) ?_
    exact h2
  · repeat rw [logSum_upd (by decide)]
    exact h3 a ha
  · repeat rw [logSum_upd (by decide)]
    repeat rw [capR_off (by decide)]
    exact h4
  · repeat refine zDr_offC (by decide) ?_
    repeat refine zDr_offR (by decide) ?_
    exact h5
  · intro p hp
    replace hp : p < ix (R kPayments 0 + 1) := hp
    rw [ei] at hp
    show (ru (R kAreGoods) (ix (R kPayments 0)) g p = 0 ∧ ru (C kBoughtOn) (ix (R kPayments 0)) b p = -1) ∨ (ru (R kAreGoods) (ix (R kPayments 0)) g p = 1 ∧ ru (C kBoughtOn) (ix (R kPayments 0)) b p = ru (R kToldDays) (ix (R kPayments 0)) (R kDays 0) p ∧ 0 ≤ (ru (R kToldDays) (ix (R kPayments 0)) (R kDays 0) p).toInt)
    by_cases c : p = ix (R kPayments 0)
    · subst c
      rw [ru_eq, ru_eq, ru_eq]
      rcases hg with q | q
      · exact Or.inl q
      · exact Or.inr ⟨q.1, q.2, hd⟩
    · rw [ru_ne c, ru_ne c, ru_ne c]
      exact h6 p (by omega)
  · intro p hp hs
    replace hp : p < ix (R kPayments 0 + 1) := hp
    rw [ei] at hp
    replace hs : ru (R kStates) (ix (R kPayments 0)) 0 p = 0 := hs
    show ru (C kFromBank) (ix (R kPayments 0)) (R kBankOf (ix x)) p = R kBankOf (ix (ru (R kFroms) (ix (R kPayments 0)) x p)) ∧ ru (C kToBank) (ix (R kPayments 0)) (R kBankOf (ix y)) p = R kBankOf (ix (ru (R kTos) (ix (R kPayments 0)) y p))
    by_cases c : p = ix (R kPayments 0)
    · subst c
      rw [ru_eq, ru_eq, ru_eq, ru_eq]
      exact ⟨rfl, rfl⟩
    · rw [ru_ne c] at hs
      rw [ru_ne c, ru_ne c, ru_ne c, ru_ne c]
      exact h7 p (by omega) hs
