/-! both loops of clearing, step by step -/
theorem iterE_in {α β : Type} {f : Nat → α → α ⊕ β} {a : α} {r : β} {j : Nat} (h : iterE f a j = .inr r) : iterE f a (j + 1) = .inr r := by
  show (match iterE f a j with | .inl x => f j x | .inr r => .inr r) = _
  rw [h]
theorem last_R {C R : Col} {n : Nat} {fk tk ch : Row} {y : Mem} {w : Int32} (hb : ClB C R n fk tk) (hy : ClR R n n fk tk ch y) (hw : ∀ p, p < n → ch p ≠ 0 → R kStates p = 0) : ∀ m, m ≤ n → iter (b54_X12_clears (w, y)) (-1) m = lst ch fk w m := by
  obtain ⟨hn, hP, hPR, h4, h5, h6⟩ := hb
  obtain ⟨q1, q2, q3⟩ := hy
  intro m
  induction m with
  | zero => intro _; rfl
  | succ m ih =>
    intro hm
    have e : lst ch fk w (m + 1) = if ch m = 0 then lst ch fk w m else if fk m = w then nI m else lst ch fk w m := rfl
    rw [iter_s, ih (by omega), e]
    unfold b54_X12_clears
    rw [lt_x]
    show (if y.2.1 kAreChosen m = 0 then _ else if y.2.1 kBankOf (ix (y.2.1 kFroms m)) = w then _ else _) = _
    rw [q2 m (by omega)]
    by_cases c : ch m = 0
    · rw [if_pos c, if_pos c]
    · obtain ⟨b1, b2, b3, b4, b5, b6, b7⟩ := h5 m (by omega) (hw m (by omega) c)
      rw [if_neg c, if_neg c, q1 kBankOf (by decide) (by decide), q1 kFroms (by decide) (by decide), b3]
def LK (C R : Col) (n j : Nat) (fk tk ch : Row) (x y : Mem) : Prop := ClC C R n n fk tk ch x ∧ ClR R n n fk tk ch y ∧ (∀ p, p < n → ch p ≠ 0 → R kStates p = 0) ∧ cn ch n + j ≤ n
def wN (R : Col) (n : Nat) (fk tk ch : Row) : Int32 := worst (lkR (R kReserves) (R kLimits) (fun b => nS fk tk (R kAmounts) ch b n))
theorem worst_x {C R : Col} {n j : Nat} {fk tk ch : Row} {x y : Mem} (hb : ClB C R n fk tk) (h : LK C R n j fk tk ch x y) : f_X3_bankThatLacksMost x = wN R n fk tk ch := by
  obtain ⟨hx, hy, -, -⟩ := h
  refine worst_C (fun b hb4 => ⟨?_, ?_, hx.2.2 b hb4⟩)
  · rw [hx.1 kReserves (by decide) (by decide)]
    exact (hb.2.2.2.2.2 b hb4).1
  · rw [hx.1 kLimits (by decide) (by decide)]
    exact (hb.2.2.2.2.2 b hb4).2
theorem worst_y {R : Col} {n : Nat} {fk tk ch : Row} {y : Mem} (hy : ClR R n n fk tk ch y) : f_X12_worstBank y = wN R n fk tk ch := by
  refine worst_R (fun b hb4 => ⟨?_, ?_, hy.2.2 b hb4⟩)
  · rw [hy.1 kReserves (by decide) (by decide)]
  · rw [hy.1 kLimits (by decide) (by decide)]
def okr_cl (n : Nat) (σ12 : Int32 × Mem) : Prop := (∀ j15 : Nat, j15 ≤ ix (σ12.2.2.1 kPayments 0) → ∀ σ16 : Int32, iter (b54_X12_clears σ12) (-1) j15 = σ16 → σ12.2.2.1 kPayments 0 = nI (ix (σ12.2.2.1 kPayments 0))) ∧ (∀ j15 : Nat, j15 < ix (σ12.2.2.1 kPayments 0) → ∀ σ16 : Int32, iter (b54_X12_clears σ12) (-1) j15 = σ16 → ((j15 < 200) ∧ ((¬ ((σ12.2.2.1 kAreChosen j15) = 0)) → ((j15 < 200) ∧ (inb (σ12.2.2.1 kFroms j15) 16))))) ∧ (∀ σ16 : Int32, iter (b54_X12_clears σ12) (-1) (ix (σ12.2.2.1 kPayments 0)) = σ16 → ((inb σ16 200) ∧ (∀ S25 : Mem, ((σ12.2.1, upd2 σ12.2.2.1 kAreChosen (ix σ16) 0, σ12.2.2.2)) = S25 → ((ok_X12_laysNets S25 )))))
theorem lock_step {u v L : Int} {C R : Col} {n j : Nat} {fk tk ch : Row} {x y : Mem} (nn : Num u v L R) (hu : u ≤ 5120000) (hnn : ix (R kPayments 0) = n) (hb : ClB C R n fk tk) (h : LK C R n j fk tk ch x y) (hw1 : wN R n fk tk ch ≠ -1) : okr_cl n (wN R n fk tk ch, y) ∧ ∃ ch2 x2 y2, b7_X10_clearAll j x = .inl x2 ∧ b45_X12_clears j (wN R n fk tk ch, y) = .inl (wN R n fk tk ch2, y2) ∧ LK C R n (j + 1) fk tk ch2 x2 y2 := by
  have hwx := worst_x hb h
  obtain ⟨hx, hy, hw, hcn⟩ := h
  obtain ⟨b, hb4, wb, wl⟩ : ∃ b, b < 4 ∧ wN R n fk tk ch = nI b ∧ 0 < (lkR (R kReserves) (R kLimits) (fun b => nS fk tk (R kAmounts) ch b n) b).toInt := by
    rcases worst_spec (lkR (R kReserves) (R kLimits) (fun b => nS fk tk (R kAmounts) ch b n)) with ⟨z, -⟩ | z
    · exact absurd z hw1
    · exact z
  obtain ⟨p, p1, p2, p3⟩ := lk_has (fk := fk) (tk := tk) (ch := ch) nn hu (by rw [hnn]; exact hw) hb4 (by rw [hnn]; exact wl)
  rw [hnn] at p1 p2
  have hn := hb.1
  have ei : ix (nI n) = n := ix_nI (by omega)
  have hyP : y.2.1 kPayments 0 = nI n := by rw [hy.1 kPayments (by decide) (by decide)]; exact hb.2.2.1
  have hwru : ∀ q, q < n → ru ch p 0 q ≠ 0 → R kStates q = 0 := fun q hq hc => by
    by_cases c : q = p
    · subst c
      rw [ru_eq] at hc
      exact absurd rfl hc
    · rw [ru_ne c] at hc
      exact hw q hq hc
  have hlast : iter (b54_X12_clears (wN R n fk tk ch, y)) (-1) n = nI p := by
    rw [last_R hb hy hw n (Nat.le_refl _), wb]
    exact p2
  have hp200 : p < 200 := by omega
  have eip : ix (nI p) = p := ix_nI (by omega)
  obtain ⟨ly1, ly2⟩ := lays_R (ch := ru ch p 0) (B := (y.1, upd2 y.2.1 kAreChosen p 0, y.2.2)) hb (fun k h1 h2 => (u_ne h2).trans (hy.1 k h1 h2)) (fun q hq => by
    show upd2 y.2.1 kAreChosen p 0 kAreChosen q = _
    by_cases c : q = p
    · subst c
      rw [ru_eq, upd2_eq]
    · rw [ru_ne c, upd2_row c]
      exact hy.2.1 q hq) hwru
  refine ⟨⟨?_, ?_, ?_⟩, ru ch p 0, f_X10_leaveOutLatestOf x (wN R n fk tk ch), f_X12_laysNets (y.1, upd2 y.2.1 kAreChosen p 0, y.2.2), ?_, ?_, ?_, ly1, hwru, ?_⟩
  · intro j15 hj15 σ16 e16
    show y.2.1 kPayments 0 = nI (ix (y.2.1 kPayments 0))
    rw [hyP, ei]
  · intro j15 hj15 σ16 e16
    replace hj15 : j15 < ix (y.2.1 kPayments 0) := hj15
    rw [hyP, ei] at hj15
    refine ⟨by omega, fun _ => ⟨by omega, ?_⟩⟩
    show inb (y.2.1 kFroms j15) 16
    rw [hy.1 kFroms (by decide) (by decide)]
    exact (hb.2.2.2.1 j15 hj15).2.2.1
  · intro σ16 e16
    replace e16 : iter (b54_X12_clears (wN R n fk tk ch, y)) (-1) (ix (y.2.1 kPayments 0)) = σ16 := e16
    rw [hyP, ei, hlast] at e16
    subst e16
    refine ⟨inb_nI hp200 (by omega), fun S25 e25 => ?_⟩
    replace e25 : ((y.1, upd2 y.2.1 kAreChosen (ix (nI p)) 0, y.2.2) : Mem) = S25 := e25
    rw [eip] at e25
    rw [← e25]
    exact ly2
  · unfold b7_X10_clearAll
    rw [hwx, lt_x, if_neg hw1, lt_x]
  · unfold b45_X12_clears
    rw [if_neg hw1]
    show lt (iter (b54_X12_clears (wN R n fk tk ch, y)) (-1) (ix (y.2.1 kPayments 0))) _ = _
    rw [hyP, ei, hlast, lt_x]
    simp only [lt_x, eip]
    rw [worst_y ly1]
  · have := leave_C (w := wN R n fk tk ch) hb hx hw p1 (by rw [wb]; exact p2) p3
    exact this
  · have := cn_off p3 n p1
    omega
theorem lock_all {u v L : Int} {C R : Col} {n : Nat} {fk tk ch : Row} {x y : Mem} (nn : Num u v L R) (hu : u ≤ 5120000) (hnn : ix (R kPayments 0) = n) (hb : ClB C R n fk tk) (h : LK C R n 0 fk tk ch x y) : ∀ j, j ≤ n → (∃ ch2 x2 y2, iterE b7_X10_clearAll x j = .inl x2 ∧ iterE b45_X12_clears (wN R n fk tk ch, y) j = .inl (wN R n fk tk ch2, y2) ∧ LK C R n j fk tk ch2 x2 y2) ∨ (∃ ch2 x2 y2, iterE b7_X10_clearAll x j = .inr x2 ∧ iterE b45_X12_clears (wN R n fk tk ch, y) j = .inr (-1, y2) ∧ LK C R n 0 fk tk ch2 x2 y2 ∧ wN R n fk tk ch2 = -1) := by
  intro j
  induction j with
  | zero => intro _; exact Or.inl ⟨ch, x, y, rfl, rfl, h⟩
  | succ j ih =>
    intro hj
    rcases ih (by omega) with ⟨ch2, x2, y2, i1, i2, i3⟩ | ⟨ch2, x2, y2, i1, i2, i3⟩
    · by_cases c : wN R n fk tk ch2 = -1
      · refine Or.inr ⟨ch2, x2, y2, ?_, ?_, ⟨i3.1, i3.2.1, i3.2.2.1, by have := i3.2.2.2; omega⟩, c⟩
        · refine iterE_stop i1 ?_ (j + 1) (by omega)
          unfold b7_X10_clearAll
          rw [worst_x hb i3, lt_x, if_pos c]
        · refine iterE_stop i2 ?_ (j + 1) (by omega)
          unfold b45_X12_clears
          rw [c, if_pos rfl]
      · obtain ⟨-, ch3, x3, y3, k1, k2, k3⟩ := lock_step nn hu hnn hb i3 c
        exact Or.inl ⟨ch3, x3, y3, iterE_go i1 k1, iterE_go i2 k2, k3⟩
    · refine Or.inr ⟨ch2, x2, y2, ?_, ?_, i3⟩
      · exact iterE_in i1
      · exact iterE_in i2
theorem wN_none {u v L : Int} {R : Col} {n : Nat} {fk tk ch : Row} (nn : Num u v L R) (h0 : ∀ p, p < n → ch p = 0) : wN R n fk tk ch = -1 := by
  rcases worst_spec (lkR (R kReserves) (R kLimits) (fun b => nS fk tk (R kAmounts) ch b n)) with ⟨z, -⟩ | ⟨b, hb4, -, z⟩
  · exact z
  · exfalso
    have e0 : nS fk tk (R kAmounts) ch b n = 0 := by
      have : ∀ m, m ≤ n → nS fk tk (R kAmounts) ch b m = 0 := by
        intro m
        induction m with
        | zero => intro _; rfl
        | succ m ih =>
          intro hm
          rw [nS_s, ih (by omega)]
          unfold nT
          rw [if_pos (h0 m (by omega))]
          rfl
      exact this n (Nat.le_refl _)
    obtain ⟨p1, p2, p3, p4, p5, p6, p7⟩ := nn.2.2.2.1 b hb4
    obtain ⟨m, m1, m2, m3, m4⟩ := lk_toInt (ne := fun b => nS fk tk (R kAmounts) ch b n) p1 p5 p6 (by rw [e0, w_0]; omega) (by rw [e0, w_0]; omega)
    rw [m4, e0, w_0] at z
    omega
/-- both come to the same end -/
theorem lock_end {u v L : Int} {C R : Col} {n : Nat} {fk tk ch : Row} {x y : Mem} (nn : Num u v L R) (hu : u ≤ 5120000) (hnn : ix (R kPayments 0) = n) (hb : ClB C R n fk tk) (h : LK C R n 0 fk tk ch x y) : ∃ ch2 x2 y2, outE (iterE b7_X10_clearAll x n) = x2 ∧ iterE b45_X12_clears (wN R n fk tk ch, y) 201 = .inr (-1, y2) ∧ LK C R n 0 fk tk ch2 x2 y2 ∧ wN R n fk tk ch2 = -1 := by
  have hn := hb.1
  rcases lock_all nn hu hnn hb h n (Nat.le_refl _) with ⟨ch2, x2, y2, i1, i2, i3⟩ | ⟨ch2, x2, y2, i1, i2, i3, i4⟩
  · have h0 := cn_0 (ch := ch2) n (by have := i3.2.2.2; omega)
    have hw := wN_none (fk := fk) (tk := tk) nn h0
    refine ⟨ch2, x2, y2, by rw [i1]; rfl, ?_, ⟨i3.1, i3.2.1, i3.2.2.1, by have := i3.2.2.2; omega⟩, hw⟩
    refine iterE_stop i2 ?_ 201 (by omega)
    unfold b45_X12_clears
    rw [hw, if_pos rfl]
  · refine ⟨ch2, x2, y2, by rw [i1]; rfl, ?_, i3, i4⟩
    have stay : ∀ m, n ≤ m → iterE b45_X12_clears (wN R n fk tk ch, y) m = .inr (-1, y2) := by
      intro m hm
      induction m with
      | zero =>
        have : n = 0 := by omega
        subst this
        exact i2
      | succ m ihm =>
        by_cases c : n = m + 1
        · subst c
          exact i2
        · exact iterE_in (ihm (by omega))
    exact stay 201 (by omega)
