/-! bonds that are due: the loops -/
def okr_due (j1 j4 : Nat) (σ5 : Mem) : Prop := ((j1 < 20) ∧ ((¬ ((σ5.2.1 kDays 0) < (σ5.2.1 kDues j1))) → ((∀ v9 : Int32, (if (nI j4) = 0 then (nI 4) else ((nI j4) - 1)) = v9 → ((inb (((nI 5) * (nI j1)) + v9) 100) ∧ (∀ v11 : Int32, (f_X12_least σ5 (σ5.2.1 kTreasury 0) (σ5.2.1 kBonds (ix (((nI 5) * (nI j1)) + v9)))) = v11 → ((∀ S12 : Mem, ((σ5.1, upd2 σ5.2.1 kTreasury 0 ((σ5.2.1 kTreasury 0) - v11), σ5.2.2)) = S12 → ((inb (((nI 5) * (nI j1)) + v9) 100) ∧ (inb (((nI 5) * (nI j1)) + v9) 100) ∧ (∀ S15 : Mem, ((S12.1, upd2 S12.2.1 kBonds (ix (((nI 5) * (nI j1)) + v9)) ((S12.2.1 kBonds (ix (((nI 5) * (nI j1)) + v9))) - v11), S12.2.2)) = S15 → (((¬ (v9 = (nI 4))) → ((inb v9 4) ∧ (inb v9 4))))))))))))))
theorem due_ok12 {u v L : Int} {B : Mem} {k j : Nat} (n : Num u v L B.2.1) (hk : k < 20) (hj : j < 5) : okr_due k j B := by
  have ho : (if j = 0 then 4 else j - 1) < 5 := by split <;> omega
  have e9 : (if nI j = 0 then nI 4 else nI j - 1) = nI (if j = 0 then 4 else j - 1) := by
    by_cases c : j = 0
    · rw [if_pos c, if_pos (by rw [c]; rfl)]
    · have e : nI j = nI (j - 1 + 1) := by rw [show j - 1 + 1 = j by omega]
      rw [if_neg c, if_neg (fun q => c (nI_inj (by omega) (by omega) (q.trans nI_0.symm))), e, nI_pred]
  refine ⟨hk, fun _ v9 e => ?_⟩
  rw [e9] at e
  subst e
  have i1 : inb (nI 5 * nI k + nI (if j = 0 then 4 else j - 1)) 100 := by
    rw [place_r]
    exact inb_nI (by omega) (by omega)
  refine ⟨i1, fun v11 _ S12 e12 => ⟨i1, i1, fun S15 e15 c => ?_⟩⟩
  have i2 : inb (nI (if j = 0 then 4 else j - 1)) 4 := inb5 (inb_nI ho (by omega)) c
  exact ⟨i2, i2⟩
theorem due_step {u v L : Int} {A B : Mem} {d dy : Int32} {k : Nat} (h : Rel A.1 B.2.1 d) (n : Num u v L B.2.1) (hv : v ≤ 5120000) (hk : k < ix (B.2.1 kAuctions 0)) (hd : dy = B.2.1 kDays 0) : (∃ X, b2_X2_payDue dy k A = .inl X ∧ Rel X.1 (b2_X12_paysBonds k B).2.1 d) ∧ Num u v L (b2_X12_paysBonds k B).2.1 ∧ (b2_X12_paysBonds k B).2.1 kAuctions 0 = B.2.1 kAuctions 0 ∧ (b2_X12_paysBonds k B).2.1 kDays 0 = B.2.1 kDays 0 ∧ ∀ j, j < 5 → ∀ σ, iterE (b12_X12_paysBonds k) B j = .inl σ → okr_due k j σ := by
  have hau := n.2.2.2.2.2.1
  have hk20 : k < 20 := by
    have := hau.1.2
    omega
  have hdu : A.1 kDues k = B.2.1 kDues k := h.sh kDues k hk20
  unfold b2_X2_payDue b2_X12_paysBonds
  rw [if_neg (nI_ge hk20 (by omega)), hdu, hd, lt_x, lt_x]
  by_cases c : B.2.1 kDays 0 < B.2.1 kDues k
  · have e0 : b12_X12_paysBonds k 0 B = .inr B := by
      unfold b12_X12_paysBonds
      rw [if_pos c]
    have e5 : ∀ m, 0 < m → iterE (b12_X12_paysBonds k) B m = .inr B := iterE_stop (j := 0) (σ := B) rfl e0
    rw [if_pos c, e5 5 (by omega)]
    refine ⟨⟨A, rfl, h⟩, n, rfl, rfl, fun j hj σ e => ?_⟩
    by_cases z : j = 0
    · subst z
      have : B = σ := Sum.inl.inj e
      subst this
      exact due_ok12 n hk20 hj
    · rw [e5 j (by omega)] at e
      exact absurd e (by simp)
  · rw [if_neg c]
    have key : ∀ j, j ≤ 4 → ∃ Y : Mem, iterE (b12_X12_paysBonds k) B (j + 1) = .inl Y ∧ Rel (iter (b39_X2_payDue k) (f_X2_payBondsOf A (nI k) (nI 4)) j).1 Y.2.1 d ∧ Num u v L Y.2.1 ∧ Y.2.1 kAuctions 0 = B.2.1 kAuctions 0 ∧ Y.2.1 kDays 0 = B.2.1 kDays 0 ∧ Y.2.1 kDues k = B.2.1 kDues k := by
      intro j
      induction j with
      | zero =>
        intro _
        obtain ⟨r1, n1⟩ := due_one (o := 4) h n hv hk (by omega)
        refine ⟨(B.1, dueR B.2.1 k 4, B.2.2), iterE_go (σ := B) rfl (due_R (j := 0) hk20 (by omega) c), r1, n1, ?_, ?_, ?_⟩
        · exact congrFun (dueR_off (R := B.2.1) (k := k) (o := 4) (c := kAuctions) (by decide) (by decide) (by decide)) 0
        · exact congrFun (dueR_off (R := B.2.1) (k := k) (o := 4) (c := kDays) (by decide) (by decide) (by decide)) 0
        · exact congrFun (dueR_off (R := B.2.1) (k := k) (o := 4) (c := kDues) (by decide) (by decide) (by decide)) k
      | succ j ih =>
        intro hj
        obtain ⟨Y, i1, i2, i3, i4, i5, i6⟩ := ih (by omega)
        obtain ⟨r1, n1⟩ := due_one (o := j) i2 i3 hv (by rw [i4]; exact hk) (by omega)
        have g := due_R (B := Y) (k := k) (j := j + 1) hk20 (by omega) (by rw [i5, i6]; exact c)
        rw [if_neg (by omega), show j + 1 - 1 = j by omega] at g
        refine ⟨(Y.1, dueR Y.2.1 k j, Y.2.2), iterE_go i1 g, ?_, n1, ?_, ?_, ?_⟩
        · rw [iter_s]
          unfold b39_X2_payDue
          rw [lt_x]
          exact r1
        · exact (congrFun (dueR_off (R := Y.2.1) (k := k) (o := j) (c := kAuctions) (by decide) (by decide) (by decide)) 0).trans i4
        · exact (congrFun (dueR_off (R := Y.2.1) (k := k) (o := j) (c := kDays) (by decide) (by decide) (by decide)) 0).trans i5
        · exact (congrFun (dueR_off (R := Y.2.1) (k := k) (o := j) (c := kDues) (by decide) (by decide) (by decide)) k).trans i6
    obtain ⟨Y, i1, i2, i3, i4, i5, i6⟩ := key 4 (by omega)
    rw [i1]
    refine ⟨⟨_, rfl, ?_⟩, i3, i4, i5, fun j hj σ e => ?_⟩
    · rw [lt_x, lt_x]
      exact i2
    · by_cases z : j = 0
      · subst z
        have : B = σ := Sum.inl.inj e
        subst this
        exact due_ok12 n hk20 hj
      · obtain ⟨Y2, k1, -, k3, -⟩ := key (j - 1) (by omega)
        rw [show j - 1 + 1 = j by omega] at k1
        have : Y2 = σ := Sum.inl.inj (k1.symm.trans e)
        subst this
        exact due_ok12 k3 hk20 hj
theorem bondsdue_ok {u v L : Int} {A B : Mem} {d dy : Int32} (h : Rel A.1 B.2.1 d) (n : Num u v L B.2.1) (hv : v ≤ 5120000) (hd : dy = B.2.1 kDays 0) : ok_X2_payDue A dy ∧ ok_X12_paysBonds B ∧ Rel (f_X2_payDue A dy).1 (f_X12_paysBonds B).2.1 d ∧ Num u v L (f_X12_paysBonds B).2.1 := by
  have hc : A.1 kAuctions 0 = B.2.1 kAuctions 0 := h.sh kAuctions 0 (by decide)
  have i0 := n.2.2.2.2.2.1.1
  have key : ∀ m, m ≤ ix (B.2.1 kAuctions 0) → ∃ X, iterE (b2_X2_payDue dy) A m = .inl X ∧ Rel X.1 (iter b2_X12_paysBonds B m).2.1 d ∧ Num u v L (iter b2_X12_paysBonds B m).2.1 ∧ (iter b2_X12_paysBonds B m).2.1 kAuctions 0 = B.2.1 kAuctions 0 ∧ (iter b2_X12_paysBonds B m).2.1 kDays 0 = B.2.1 kDays 0 := by
    intro m
    induction m with
    | zero => intro _; exact ⟨A, rfl, h, n, rfl, rfl⟩
    | succ m ih =>
      intro hm
      obtain ⟨X, i1, i2, i3, i4, i5⟩ := ih (by omega)
      obtain ⟨⟨X2, s1, s2⟩, s3, s4, s5, -⟩ := due_step (dy := dy) (k := m) i2 i3 hv (by rw [i4]; omega) (by rw [i5]; exact hd)
      refine ⟨X2, iterE_go i1 s1, ?_, ?_, ?_, ?_⟩
      · rw [iter_s]
        exact s2
      · rw [iter_s]
        exact s3
      · rw [iter_s]
        exact s4.trans i4
      · rw [iter_s]
        exact s5.trans i5
  refine ⟨⟨?_, ?_⟩, ⟨?_, ?_⟩, ?_⟩
  · intro j hj σ e
    rw [hc] at hj ⊢
    obtain ⟨X, i1, i2, i3, i4, i5⟩ := key j hj
    have : X = σ := Sum.inl.inj (i1.symm.trans e)
    subst this
    rw [i2.sh kAuctions 0 (by decide), i4]
    exact i0.1
  · intro j hj σ e _
    rw [hc] at hj
    have := i0.2
    omega
  · intro j hj σ e
    subst e
    obtain ⟨X, i1, i2, i3, i4, i5⟩ := key j hj
    rw [i4]
    exact i0.1
  · intro j hj σ e
    subst e
    obtain ⟨X, i1, i2, i3, i4, i5⟩ := key j (by omega)
    exact (due_step (dy := dy) (k := j) i2 i3 hv (by rw [i4]; omega) (by rw [i5]; exact hd)).2.2.2.2
  · obtain ⟨X, i1, i2, i3, i4, i5⟩ := key _ (Nat.le_refl _)
    unfold f_X2_payDue f_X12_paysBonds
    rw [lt_x, lt_x, hc, i1]
    exact ⟨i2, i3⟩
