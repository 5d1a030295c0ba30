/-! bonds go to the central bank -/
theorem u_rows {C : Col} {k i i' : Nat} {v w : Int32} (h : i ≠ i') : upd2 (upd2 C k i v) k i' w = upd2 (upd2 C k i' w) k i v := by
  funext a b
  unfold upd2
  by_cases h1 : a = k
  · simp only [h1, if_true]
    by_cases h2 : b = i'
    · rw [if_pos h2, if_neg (fun q => h (q.symm.trans h2)), if_pos h2]
    · rw [if_neg h2]
      by_cases h3 : b = i
      · rw [if_pos h3, if_pos h3]
      · rw [if_neg h3, if_neg h3, if_neg h2]
  · simp only [h1, if_false]
def moveR (R : Col) (k b : Nat) (m : Int32) : Col := upd2 (upd2 R kBonds (5 * k + b) (R kBonds (5 * k + b) - m)) kBonds (5 * k + 4) (R kBonds (5 * k + 4) + m)
theorem sum5_move {f g : Nat → Int} {b : Nat} {m : Int} (hb : b < 4) (h1 : g b = f b - m) (h2 : g 4 = f 4 + m) (h : ∀ o, o < 5 → o ≠ b → o ≠ 4 → g o = f o) : sumI g 5 = sumI f 5 := by
  show 0 + g 0 + g 1 + g 2 + g 3 + g 4 = 0 + f 0 + f 1 + f 2 + f 3 + f 4
  have hb' : b = 0 ∨ b = 1 ∨ b = 2 ∨ b = 3 := by omega
  rcases hb' with q | q | q | q <;> subst q
  · rw [h1, h2, h 1 (by omega) (by omega) (by omega), h 2 (by omega) (by omega) (by omega), h 3 (by omega) (by omega) (by omega)]
    omega
  · rw [h1, h2, h 0 (by omega) (by omega) (by omega), h 2 (by omega) (by omega) (by omega), h 3 (by omega) (by omega) (by omega)]
    omega
  · rw [h1, h2, h 0 (by omega) (by omega) (by omega), h 1 (by omega) (by omega) (by omega), h 3 (by omega) (by omega) (by omega)]
    omega
  · rw [h1, h2, h 0 (by omega) (by omega) (by omega), h 1 (by omega) (by omega) (by omega), h 2 (by omega) (by omega) (by omega)]
    omega
theorem zF.move {au bs hf : Row} (h : zF au bs hf) {k b : Nat} (hk : k < ix (au 0)) (hb : b < 4) {m : Int32} (h0 : 0 ≤ m.toInt) (h1 : m.toInt ≤ (bs (5 * k + b)).toInt) : zF au (ru (ru bs (5 * k + b) (bs (5 * k + b) - m)) (5 * k + 4) (bs (5 * k + 4) + m)) hf := by
  have hk20 : k < 20 := by
    have := h.1.2
    omega
  obtain ⟨c1, c2, c3, c4⟩ := h.2 k hk20
  have s4 := sumI_one (f := fun o => (bs (5 * k + o)).toInt) 5 4 (by omega) (fun i hi => c1 i hi)
  have sb := sumI_one (f := fun o => (bs (5 * k + o)).toInt) 5 b (by omega) (fun i hi => c1 i hi)
  have p4 := c1 4 (by omega)
  have pb := c1 b (by omega)
  have e1 : (bs (5 * k + b) - m).toInt = (bs (5 * k + b)).toInt - m.toInt := by
    rw [w_sub]
    omega
  have e2 : (bs (5 * k + 4) + m).toInt = (bs (5 * k + 4)).toInt + m.toInt := by
    rw [w_add]
    omega
  have at4 : ru (ru bs (5 * k + b) (bs (5 * k + b) - m)) (5 * k + 4) (bs (5 * k + 4) + m) (5 * k + 4) = bs (5 * k + 4) + m := ru_eq
  have atb : ru (ru bs (5 * k + b) (bs (5 * k + b) - m)) (5 * k + 4) (bs (5 * k + 4) + m) (5 * k + b) = bs (5 * k + b) - m := (ru_ne (by omega)).trans ru_eq
  have ato : ∀ i, i ≠ 5 * k + b → i ≠ 5 * k + 4 → ru (ru bs (5 * k + b) (bs (5 * k + b) - m)) (5 * k + 4) (bs (5 * k + 4) + m) i = bs i := fun i h1 h2 => (ru_ne h2).trans (ru_ne h1)
  revert at4 atb ato
  generalize ru (ru bs (5 * k + b) (bs (5 * k + b) - m)) (5 * k + 4) (bs (5 * k + 4) + m) = bs2
  intro at4 atb ato
  refine ⟨h.1, fun k' hk' => ?_⟩
  by_cases c : k' = k
  · subst c
    refine ⟨fun o ho => ?_, ?_, fun b' hb' hf' => ?_, fun hn => by omega⟩
    · by_cases o4 : o = 4
      · rw [o4, at4, e2]
        omega
      · by_cases ob : o = b
        · rw [ob, atb, e1]
          omega
        · rw [ato _ (by omega) (by omega)]
          exact c1 o ho
    · rw [sum5_move (f := fun o => (bs (5 * k' + o)).toInt) (m := m.toInt) hb (by show (bs2 (5 * k' + b)).toInt = _; rw [atb, e1]) (by show (bs2 (5 * k' + 4)).toInt = _; rw [at4, e2]) (fun o _ h1 h2 => by show (bs2 (5 * k' + o)).toInt = _; rw [ato _ (by omega) (by omega)])]
      exact c2
    · have z := c3 b' hb' hf'
      by_cases ob : b' = b
      · rw [ob, atb]
        rw [ob] at z
        rw [z, w_0] at h1
        have hm : m = 0 := Int32.toInt_inj.mp (by rw [w_0]; omega)
        rw [z, hm]
        rfl
      · rw [ato _ (by omega) (by omega)]
        exact z
  · obtain ⟨d1, d2, d3, d4⟩ := h.2 k' hk'
    have same : ∀ o, o < 5 → bs2 (5 * k' + o) = bs (5 * k' + o) := fun o ho => ato _ (by omega) (by omega)
    refine ⟨fun o ho => by rw [same o ho]; exact d1 o ho, ?_, fun b' hb' hf' => by rw [same b' (by omega)]; exact d3 b' hb' hf', fun hn o ho => by rw [same o ho]; exact d4 hn o ho⟩
    rw [sumI_congr (g := fun o => (bs (5 * k' + o)).toInt) 5 (fun o ho => by rw [same o ho])]
    exact d2
theorem move_one {u v L : Int} {A : Mem} {R : Col} {d m : Int32} {k b : Nat} (h : Rel A.1 R d) (n : Num u v L R) (hk : k < ix (R kAuctions 0)) (hb : b < 4) (h0 : 0 ≤ m.toInt) (h1 : m.toInt ≤ (R kBonds (5 * k + b)).toInt) : Rel (f_X2_add (f_X2_add A (nI b) (nI k) (-m)) (nI 4) (nI k) m).1 (moveR R k b m) (d - m) ∧ Num u v L (moveR R k b m) := by
  have hk20 : k < 20 := by
    have := n.2.2.2.2.2.1.1.2
    omega
  have hA : A.1 kBonds (5 * k + b) = R kBonds (5 * k + b) := h.sh kBonds _ (show 5 * k + b < 100 by omega)
  have hA4 : A.1 kBonds (5 * k + 4) = R kBonds (5 * k + 4) := h.sh kBonds _ (show 5 * k + 4 < 100 by omega)
  constructor
  · rw [add_at (o := b) hk20 (by omega), hA, ← Int32.sub_eq_add_neg, add_at (o := 4) hk20 (by omega)]
    show Rel (upd2 (upd2 A.1 kBonds (5 * k + b) (R kBonds (5 * k + b) - m)) kBonds (5 * k + 4) (upd2 A.1 kBonds (5 * k + b) (R kBonds (5 * k + b) - m) kBonds (5 * k + 4) + m)) _ _
    rw [upd2_row (by omega), hA4]
    have r1 := h.bonds (k := k) (o := b) (v := R kBonds (5 * k + b) - m) hk (by omega) rfl
    have r2 := r1.bonds (k := k) (o := 4) (v := R kBonds (5 * k + 4) + m) hk (by omega) rfl
    rw [if_neg (by omega), if_pos rfl, upd2_row (by omega)] at r2
    exact r2.d_eq (by grind)
  · obtain ⟨nh, nu, np, nb, nv, nf, nl, nd, ns, nw, nq⟩ := n
    exact ⟨nh, nu, np, nb, nv, nf.move hk hb h0 h1, nl, nd, ns, nw, nq⟩
theorem sumI_tail {f : Nat → Int} : ∀ n j, j < n → (∀ i, i < n → 0 ≤ f i) → f j ≤ sumI f n - sumI f j := by
  intro n
  induction n with
  | zero => intro j hj; omega
  | succ n ih =>
    intro j hj h
    have hn := h n (by omega)
    show f j ≤ sumI f n + f n - sumI f j
    by_cases c : j = n
    · subst c
      omega
    · have := ih j (by omega) (fun i hi => h i (by omega))
      omega
def okr_to (p1 : Int32) (j1 : Nat) (σ2 : Mem) : Prop := ((inb (((nI 5) * (nI j1)) + (nI 4)) 100) ∧ (inb (((nI 5) * (nI j1)) + p1) 100) ∧ (inb (((nI 5) * (nI j1)) + (nI 4)) 100) ∧ (∀ S7 : Mem, ((σ2.1, upd2 σ2.2.1 kBonds (ix (((nI 5) * (nI j1)) + (nI 4))) ((σ2.2.1 kBonds (ix (((nI 5) * (nI j1)) + (nI 4)))) + (σ2.2.1 kBonds (ix (((nI 5) * (nI j1)) + p1)))), σ2.2.2)) = S7 → ((inb (((nI 5) * (nI j1)) + p1) 100))))
theorem to_ok12 {B : Mem} {k b : Nat} (hk : k < 20) (hb : b < 4) : okr_to (nI b) k B := by
  have i1 : inb (nI 5 * nI k + nI 4) 100 := by
    rw [place_r]
    exact inb_nI (by omega) (by omega)
  have i2 : inb (nI 5 * nI k + nI b) 100 := by
    rw [place_r]
    exact inb_nI (by omega) (by omega)
  exact ⟨i1, i2, i1, fun _ _ => i2⟩
def ML (u v L : Int) (d : Int32) (b : Nat) (B : Mem) (j : Nat) (X : Int32 × Mem) (Y : Mem) : Prop := X.1 = bonS B.2.1 b - s32 (fun k => B.2.1 kBonds (5 * k + b)) j ∧ Rel X.2.1 Y.2.1 (d - s32 (fun k => B.2.1 kBonds (5 * k + b)) j) ∧ Num u v L Y.2.1 ∧ (∀ k, k ≠ 41 → Y.2.1 k = B.2.1 k) ∧ (∀ i, 5 * j ≤ i → Y.2.1 kBonds i = B.2.1 kBonds i) ∧ ∀ k, k < j → Y.2.1 kBonds (5 * k + b) = 0
theorem move_step {u v L : Int} {B : Mem} {d : Int32} {b j : Nat} {X : Int32 × Mem} {Y : Mem} (hn : Num u v L B.2.1) (hb : b < 4) (hj : j < ix (B.2.1 kAuctions 0)) (h : ML u v L d b B j X Y) : ML u v L d b B (j + 1) (b5_X2_moveToCentral (nI b) j X) (b2_X12_takesOver (nI b) j Y) := by
  obtain ⟨h1, h2, h3, h4, h5, h6⟩ := h
  have hj20 : j < 20 := by
    have := hn.2.2.2.2.2.1.1.2
    omega
  have hcell := fun k (hk : k < ix (B.2.1 kAuctions 0)) => ((hn.2.2.2.2.2.1.2 k (by have := hn.2.2.2.2.2.1.1.2; omega)).1 b (by omega))
  have eY : Y.2.1 kBonds (5 * j + b) = B.2.1 kBonds (5 * j + b) := h5 _ (by omega)
  have eX : X.2.1 kBonds (5 * j + b) = B.2.1 kBonds (5 * j + b) := (h2.sh kBonds _ (show 5 * j + b < 100 by omega)).trans eY
  have eau : Y.2.1 kAuctions 0 = B.2.1 kAuctions 0 := by rw [h4 kAuctions (by decide)]
  have hbd := bonS_bd (o := b) hn (by omega)
  have t1 : (bonS B.2.1 b).toInt = sumI (fun k => (B.2.1 kBonds (5 * k + b)).toInt) (ix (B.2.1 kAuctions 0)) := by
    have le : sumI (fun k => (B.2.1 kBonds (5 * k + b)).toInt) (ix (B.2.1 kAuctions 0)) ≤ sumI (fun _ => 10000) (ix (B.2.1 kAuctions 0)) := sumI_le _ (fun k hk => by
      obtain ⟨p1, p2, -, -⟩ := hn.2.2.2.2.2.1.2 k (by have := hn.2.2.2.2.2.1.1.2; omega)
      have := sumI_one (f := fun o => (B.2.1 kBonds (5 * k + o)).toInt) 5 b (by omega) (fun i hi => p1 i hi)
      show (B.2.1 kBonds (5 * k + b)).toInt ≤ 10000
      omega)
    rw [sumI_const] at le
    have := hn.2.2.2.2.2.1.1.2
    exact s32_toInt _ hcell (by omega)
  have t2 : (s32 (fun k => B.2.1 kBonds (5 * k + b)) j).toInt = sumI (fun k => (B.2.1 kBonds (5 * k + b)).toInt) j := by
    have q := sumI_tail (f := fun k => (B.2.1 kBonds (5 * k + b)).toInt) (ix (B.2.1 kAuctions 0)) j hj hcell
    have q2 := hcell j hj
    exact s32_toInt j (fun k hk => hcell k (by omega)) (by omega)
  have t3 := sumI_tail (f := fun k => (B.2.1 kBonds (5 * k + b)).toInt) (ix (B.2.1 kAuctions 0)) j hj hcell
  have t4 := hcell j hj
  have t5 := sumI_nonneg (f := fun k => (B.2.1 kBonds (5 * k + b)).toInt) j (fun k hk => hcell k (by omega))
  have t6 : (bonS B.2.1 b - s32 (fun k => B.2.1 kBonds (5 * k + b)) j).toInt = (bonS B.2.1 b).toInt - (s32 (fun k => B.2.1 kBonds (5 * k + b)) j).toInt := by
    rw [w_sub]
    omega
  have emin : (if B.2.1 kBonds (5 * j + b) < X.1 then B.2.1 kBonds (5 * j + b) else X.1) = B.2.1 kBonds (5 * j + b) := by
    by_cases c : B.2.1 kBonds (5 * j + b) < X.1
    · rw [if_pos c]
    · rw [if_neg c]
      rw [w_lt, h1, t6] at c
      apply Int32.toInt_inj.mp
      rw [h1, t6]
      omega
  obtain ⟨m1, m2⟩ := move_one (m := B.2.1 kBonds (5 * j + b)) h2 h3 (by rw [eau]; exact hj) hb t4 (by rw [eY]; exact Int.le_refl _)
  have eR : (b2_X12_takesOver (nI b) j Y).2.1 = moveR Y.2.1 j b (B.2.1 kBonds (5 * j + b)) := by
    unfold b2_X12_takesOver moveR
    rw [place_r, place_r, ix_nI (by omega), ix_nI (by omega), lt_x, lt_x, eY, u_rows (i := 5 * j + b) (by omega)]
    have : B.2.1 kBonds (5 * j + b) - B.2.1 kBonds (5 * j + b) = 0 := by grind
    rw [this]
  unfold ML
  rw [eR]
  unfold b5_X2_moveToCentral
  rw [held_at hj20 (by omega), eX, lt_x, emin]
  simp only [lt_x]
  refine ⟨?_, m1.d_eq ?_, m2, fun k hk => ((u_ne hk).trans (u_ne hk)).trans (h4 k hk), fun i hi => ?_, fun k hk => ?_⟩
  · show X.1 - B.2.1 kBonds (5 * j + b) = bonS B.2.1 b - (s32 (fun k => B.2.1 kBonds (5 * k + b)) j + B.2.1 kBonds (5 * j + b))
    rw [h1]
    grind
  · show _ = d - (s32 (fun k => B.2.1 kBonds (5 * k + b)) j + B.2.1 kBonds (5 * j + b))
    grind
  · unfold moveR
    rw [upd2_row (by omega), upd2_row (by omega)]
    exact h5 i (by omega)
  · unfold moveR
    rw [upd2_row (by omega)]
    by_cases c : k = j
    · subst c
      rw [upd2_eq, eY]
      grind
    · rw [upd2_row (by omega)]
      exact h6 k (by omega)
theorem to_step_off {B : Mem} {k b c : Nat} (hk : k < 20) (hc : c ≠ 41) : (b2_X12_takesOver (nI b) k B).2.1 c = B.2.1 c := by
  unfold b2_X12_takesOver
  rw [lt_x, lt_x]
  exact (u_ne hc).trans (u_ne hc)
