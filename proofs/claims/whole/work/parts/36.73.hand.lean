/-! hand -/
theorem hand_f {B : Mem} {p1 p2 p3 c : Int32} (v1 v5 v10 : Int32) (h1 : f_X12_isHolder B p1 = v1) (h5 : (if v1 = 0 then (0) else (lt (f_X12_isHolder B p2) (fun (v3 : Int32) => if v3 = 0 then (0) else (1)))) = v5) (h10 : (if v5 = 0 then (0) else (if p1 = p2 then (0) else (lt (f_X12_in B p3 1 (nI 10000)) (fun (v8 : Int32) => if v8 = 0 then (0) else (1))))) = v10) (h15 : (if v5 = 0 then (1) else (if v10 = 0 then (nI 2) else (if p3 ≤ (B.2.1 kNotes (ix p1)) then (0) else (nI 3)))) = c) (hc : c ≠ 0) : f_X12_hand B p1 p2 p3 = (0, T0 B c) := by
  unfold f_X12_hand
  rw [h1, lt_x, h5, lt_x, h10, lt_x, h15, lt_x]
  exact tail_no hc _ _
theorem hand_k {B : Mem} {p1 p2 p3 c : Int32} (v1 v5 v10 : Int32) (h1 : f_X12_isHolder B p1 = v1) (h5 : (if v1 = 0 then (0) else (lt (f_X12_isHolder B p2) (fun (v3 : Int32) => if v3 = 0 then (0) else (1)))) = v5) (h10 : (if v5 = 0 then (0) else (if p1 = p2 then (0) else (lt (f_X12_in B p3 1 (nI 10000)) (fun (v8 : Int32) => if v8 = 0 then (0) else (1))))) = v10) (h15 : (if v5 = 0 then (1) else (if v10 = 0 then (nI 2) else (if p3 ≤ (B.2.1 kNotes (ix p1)) then (0) else (nI 3)))) = c) (hm : ¬ v5 = 0 → inb p1 16 ∧ inb p2 16) (hp : c = 0 → ok_X12_leave (T0 B 0) p1 p3 ∧ inb p2 16) : ok_X12_hand B p1 p2 p3 := by
  intro w1 e1 w5 e5 w10 e10
  rw [h1] at e1
  subst e1
  rw [h5] at e5
  subst e5
  rw [h10] at e10
  subst e10
  refine ⟨fun q _ => (hm q).1, fun w15 e15 => ?_⟩
  rw [h15] at e15
  subst e15
  by_cases hc : c = 0
  · subst hc
    obtain ⟨q1, q2⟩ := hp rfl
    exact okt_yes ⟨q1, fun S20 _ v21 _ => ⟨q2, q2, fun S24 _ => ⟨q2, q2⟩⟩⟩
  · exact okt_no hc
theorem hand_ok {u : Int} {A B : Mem} (hu : u ≤ 5120000) (h : St u A.1 B.2.1) (p1 p2 p3 : Int32) : (okx_X11_hand_1 A p1 p2 p3 ∧ ok_X12_hand B p1 p2 p3 ∧ f_X12_hand B p1 p2 p3 = (0, T0 B 1)) ∨ (okx_X11_hand_2 A p1 p2 p3 ∧ ok_X12_hand B p1 p2 p3 ∧ f_X12_hand B p1 p2 p3 = (0, T0 B 1)) ∨ (okx_X11_hand_3 A p1 p2 p3 ∧ ok_X12_hand B p1 p2 p3 ∧ f_X12_hand B p1 p2 p3 = (0, T0 B (nI 2))) ∨ (okx_X11_hand_4 A p1 p2 p3 ∧ ok_X12_hand B p1 p2 p3 ∧ f_X12_hand B p1 p2 p3 = (0, T0 B (nI 2))) ∨ (okx_X11_hand_5 A p1 p2 p3 ∧ ok_X12_hand B p1 p2 p3 ∧ f_X12_hand B p1 p2 p3 = (0, T0 B (nI 3))) ∨ (ok_X11_hand A p1 p2 p3 ∧ ok_X12_hand B p1 p2 p3 ∧ Good u (f_X11_hand A p1 p2 p3) (f_X12_hand B p1 p2 p3)) := by
  rcases two_hol (p1 := p1) (p2 := p2) with ⟨b1, d1, b2, d2, bd⟩ | ⟨b1, b2⟩ | ⟨b1, d1, bd⟩
  · have h5 : (if (1 : Int32) = 0 then (0) else (lt (f_X12_isHolder B p2) (fun (v3 : Int32) => if v3 = 0 then (0) else (1)))) = (1 : Int32) := by rw [if_neg c1, (bd B).2, l1]
    have hm : ¬ (1 : Int32) = 0 → inb p1 16 ∧ inb p2 16 := fun _ => ⟨b1, d1⟩
    by_cases e : p1 = p2
    · have h10 : (if (1 : Int32) = 0 then (0) else (if p1 = p2 then (0) else (lt (f_X12_in B p3 1 (nI 10000)) (fun (v8 : Int32) => if v8 = 0 then (0) else (1))))) = (0 : Int32) := by rw [if_neg c1, if_pos e]
      have h15 : (if (1 : Int32) = 0 then (1) else (if (0 : Int32) = 0 then (nI 2) else (if p3 ≤ (B.2.1 kNotes (ix p1)) then (0) else (nI 3)))) = nI 2 := by rw [if_neg c1, if_pos rfl]
      refine Or.inr (Or.inr (Or.inl ⟨⟨b2 A, d2 A, fun v4 e4 => ?_⟩, hand_k 1 1 0 (bd B).1 h5 h10 h15 hm (fun q => absurd q c2), hand_f 1 1 0 (bd B).1 h5 h10 h15 c2⟩))
      rw [if_pos e] at e4
      exact e4.symm
    · have v4' : ∀ v4 : Int32, (if p1 = p2 then (0) else (1)) = v4 → ok_X11_needArgument A v4 := fun v4 e4 => by
        rw [if_neg e] at e4
        rw [← e4]
        exact c1
      rcases rng_cases p3 1 (nI 10000) with ⟨r1, r2, r3, r4⟩ | ⟨r1, r2⟩
      · have h10 : (if (1 : Int32) = 0 then (0) else (if p1 = p2 then (0) else (lt (f_X12_in B p3 1 (nI 10000)) (fun (v8 : Int32) => if v8 = 0 then (0) else (1))))) = (1 : Int32) := by rw [if_neg c1, if_neg e, r4, l1]
        have sN : A.1 kNotes (f_X3_holder A p1) = B.2.1 kNotes (ix p1) := by
          rw [holder_in b1]
          exact h.1.sh kNotes _ b1.2
        by_cases c : B.2.1 kNotes (ix p1) < p3
        · have h15 : (if (1 : Int32) = 0 then (1) else (if (1 : Int32) = 0 then (nI 2) else (if p3 ≤ (B.2.1 kNotes (ix p1)) then (0) else (nI 3)))) = nI 3 := by rw [if_neg c1, if_neg c1, if_neg (by rw [w_lt] at c; rw [w_le]; omega)]
          refine Or.inr (Or.inr (Or.inr (Or.inr (Or.inl ⟨⟨b2 A, d2 A, fun v4 e4 => ⟨v4' v4 e4, r3 A, fun v8 e8 => ?_⟩⟩, hand_k 1 1 1 (bd B).1 h5 h10 h15 hm (fun q => absurd q c3), hand_f 1 1 1 (bd B).1 h5 h10 h15 c3⟩))))
          rw [sN, if_pos c] at e8
          exact e8.symm
        · have h15 : (if (1 : Int32) = 0 then (1) else (if (1 : Int32) = 0 then (nI 2) else (if p3 ≤ (B.2.1 kNotes (ix p1)) then (0) else (nI 3)))) = 0 := by rw [if_neg c1, if_neg c1, if_pos (by rw [w_lt] at c; rw [w_le]; omega)]
          obtain ⟨S7, s1, s2, ⟨s3, s4⟩, -, -, s5⟩ := h.zero
          have e10k : (nI 10000).toInt = 10000 := nI_toInt (by omega)
          rw [w_1] at r1
          have cB := c
          rw [w_lt, ← s5 kNotes (by decide)] at c
          have hij : ix p1 ≠ ix p2 := fun q => e (by rw [b1.1, d1.1, q])
          obtain ⟨a1, a2, a3, a4, a5⟩ := has_hi s4 b1.2
          have hN : 0 < (S7.2.1 kNotes (ix p1)).toInt := by omega
          obtain ⟨g1, g2, g3, g4⟩ := lvG_bd (x := p3) (f := S7.2.1 kForged (ix p1)) (n := S7.2.1 kNotes (ix p1)) r1 (by omega) a1 a2
          obtain ⟨g, hg⟩ : ∃ g, lvG p3 (S7.2.1 kForged (ix p1)) (S7.2.1 kNotes (ix p1)) = g := ⟨_, rfl⟩
          rw [hg] at g1 g2 g3 g4
          have nx : (-p3).toInt = -p3.toInt := by
            rw [w_neg]
            omega
          have ng : (-g).toInt = -g.toInt := by
            rw [w_neg]
            omega
          have q1 := leave_rel (x := -p3) (g := -g) s3 b1.2
          have q2 := leave_rel (x := p3) (g := g) q1 d1.2
          have m1 := leave_num (x := -p3) (g := -g) s4 hu b1.2 ⟨by omega, by omega⟩ ⟨by omega, by omega⟩ (by omega) (by omega)
          have hj := has_hi s4 d1.2
          have kN : leaveR S7.2.1 (ix p1) (-p3) (-g) kNotes (ix p2) = S7.2.1 kNotes (ix p2) := by
            unfold leaveR
            exact (congrFun (u_ne (show kNotes ≠ kForged by decide)) _).trans (upd2_row (fun q => hij q.symm))
          have kF : leaveR S7.2.1 (ix p1) (-p3) (-g) kForged (ix p2) = S7.2.1 kForged (ix p2) := by
            unfold leaveR
            exact (upd2_row (fun q => hij q.symm)).trans (congrFun (u_ne (show kForged ≠ kNotes by decide)) _)
          have m2 := leave_num (x := p3) (g := g) m1 (by omega) d1.2 ⟨by omega, by omega⟩ ⟨by omega, by omega⟩ (by rw [kF]; omega) (by rw [kF, kN]; omega)
          have sN7 : A.1 kNotes (ix p1) = S7.2.1 kNotes (ix p1) := s3.sh kNotes _ b1.2
          have sF7 : A.1 kForged (ix p1) = S7.2.1 kForged (ix p1) := s3.sh kForged _ b1.2
          have eA : f_X11_hand A p1 p2 p3 = (g, (leaveR (leaveR A.1 (ix p1) (-p3) (-g)) (ix p2) p3 g, A.2)) := by
            unfold f_X11_hand
            rw [lt_x, lt_x, holder_in b1, among_C (by rw [sN7]; exact hN), sN7, sF7, hg, lt_x, take_C, lt_x, holder_in d1, take_C, lt_x]
          have eB : f_X12_hand B p1 p2 p3 = (g, (S7.1, leaveR (leaveR S7.2.1 (ix p1) (-p3) (-g)) (ix p2) p3 g, S7.2.2)) := by
            unfold f_X12_hand
            rw [(bd B).1, lt_x, h5, lt_x, h10, lt_x, h15, lt_x, tail_yes, s1, leave_R, hg, lt_x, lt_x, lt_x, lt_x]
            rfl
          refine Or.inr (Or.inr (Or.inr (Or.inr (Or.inr ⟨⟨b2 A, d2 A, fun v4 e4 => ⟨v4' v4 e4, r3 A, fun v8 e8 => ?_⟩⟩, hand_k 1 1 1 (bd B).1 h5 h10 h15 hm (fun _ => ⟨by rw [s1]; exact leave_okR b1 hN, d1⟩), ?_⟩))))
          · rw [sN, if_neg cB] at e8
            rw [← e8]
            exact c1
          · exact (Good.mk (u := u) (x := (g, (leaveR (leaveR A.1 (ix p1) (-p3) (-g)) (ix p2) p3 g, A.2))) (y := (g, (S7.1, leaveR (leaveR S7.2.1 (ix p1) (-p3) (-g)) (ix p2) p3 g, S7.2.2))) s2 rfl (q2.d_eq (by grind)) (m2.umono (by omega))).of eA eB
      · have h10 : (if (1 : Int32) = 0 then (0) else (if p1 = p2 then (0) else (lt (f_X12_in B p3 1 (nI 10000)) (fun (v8 : Int32) => if v8 = 0 then (0) else (1))))) = (0 : Int32) := by rw [if_neg c1, if_neg e, r2, l0]
        have h15 : (if (1 : Int32) = 0 then (1) else (if (0 : Int32) = 0 then (nI 2) else (if p3 ≤ (B.2.1 kNotes (ix p1)) then (0) else (nI 3)))) = nI 2 := by rw [if_neg c1, if_pos rfl]
        exact Or.inr (Or.inr (Or.inr (Or.inl ⟨⟨b2 A, d2 A, fun v4 e4 => ⟨v4' v4 e4, r1 A⟩⟩, hand_k 1 1 0 (bd B).1 h5 h10 h15 hm (fun q => absurd q c2), hand_f 1 1 0 (bd B).1 h5 h10 h15 c2⟩)))
  · have h5 : (if (0 : Int32) = 0 then (0) else (lt (f_X12_isHolder B p2) (fun (v3 : Int32) => if v3 = 0 then (0) else (1)))) = (0 : Int32) := if_pos rfl
    have h10 : (if (0 : Int32) = 0 then (0) else (if p1 = p2 then (0) else (lt (f_X12_in B p3 1 (nI 10000)) (fun (v8 : Int32) => if v8 = 0 then (0) else (1))))) = (0 : Int32) := if_pos rfl
    have h15 : (if (0 : Int32) = 0 then (1) else (if (0 : Int32) = 0 then (nI 2) else (if p3 ≤ (B.2.1 kNotes (ix p1)) then (0) else (nI 3)))) = 1 := if_pos rfl
    exact Or.inl ⟨b1 A, hand_k 0 0 0 (b2 B) h5 h10 h15 (fun q => absurd rfl q) (fun q => absurd q c1), hand_f 0 0 0 (b2 B) h5 h10 h15 c1⟩
  · have h5 : (if (1 : Int32) = 0 then (0) else (lt (f_X12_isHolder B p2) (fun (v3 : Int32) => if v3 = 0 then (0) else (1)))) = (0 : Int32) := by rw [if_neg c1, (bd B).2, l0]
    have h10 : (if (0 : Int32) = 0 then (0) else (if p1 = p2 then (0) else (lt (f_X12_in B p3 1 (nI 10000)) (fun (v8 : Int32) => if v8 = 0 then (0) else (1))))) = (0 : Int32) := if_pos rfl
    have h15 : (if (0 : Int32) = 0 then (1) else (if (0 : Int32) = 0 then (nI 2) else (if p3 ≤ (B.2.1 kNotes (ix p1)) then (0) else (nI 3)))) = 1 := if_pos rfl
    exact Or.inr (Or.inl ⟨⟨b1 A, d1 A⟩, hand_k 1 0 0 (bd B).1 h5 h10 h15 (fun q => absurd rfl q) (fun q => absurd q c1), hand_f 1 0 0 (bd B).1 h5 h10 h15 c1⟩)
