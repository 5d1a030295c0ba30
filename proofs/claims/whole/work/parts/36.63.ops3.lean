/-! clear, day, fail, hire -/
theorem tail2_no {S : Mem} {c : Int32} (hc : c ≠ 0) (F : Mem → Int32 × Mem) : lt ((f_X12_holds S c).2) (fun S6 => lt ((f_X12_holds S c).1) (fun v7 => lt (if v7 = 0 then (0) else (lt ((F S6).2) (fun (_ : Mem) => lt ((F S6).1) (fun (v11 : Int32) => v11)))) (fun v12 => lt (if v7 = 0 then (S6) else (lt ((F S6).2) (fun (S10 : Mem) => lt ((F S6).1) (fun (_ : Int32) => S10)))) (fun S13 => (v12, S13))))) = (0, T0 S c) := by
  rw [holds_eq, lt_x, lt_x]
  show lt (if (if c = 0 then (1 : Int32) else 0) = 0 then _ else _) (fun v12 => lt (if (if c = 0 then (1 : Int32) else 0) = 0 then _ else _) _) = _
  rw [if_neg hc, if_pos rfl, lt_x, if_pos rfl, lt_x]
theorem tail2_yes {S : Mem} (F : Mem → Int32 × Mem) : lt ((f_X12_holds S 0).2) (fun S6 => lt ((f_X12_holds S 0).1) (fun v7 => lt (if v7 = 0 then (0) else (lt ((F S6).2) (fun (_ : Mem) => lt ((F S6).1) (fun (v11 : Int32) => v11)))) (fun v12 => lt (if v7 = 0 then (S6) else (lt ((F S6).2) (fun (S10 : Mem) => lt ((F S6).1) (fun (_ : Int32) => S10)))) (fun S13 => (v12, S13))))) = F (T0 S 0) := by
  rw [holds_eq, lt_x, lt_x]
  show lt (if (if (0 : Int32) = 0 then (1 : Int32) else 0) = 0 then _ else _) (fun v12 => lt (if (if (0 : Int32) = 0 then (1 : Int32) else 0) = 0 then _ else _) _) = _
  rw [if_pos rfl, if_neg (by decide), lt_x, lt_x, lt_x, if_neg (by decide), lt_x, lt_x, lt_x]
theorem pr2 {α β : Type} (x : α × β) : lt x.2 (fun S => lt x.1 (fun v => (v, S))) = x := by
  rw [lt_x, lt_x]
theorem clear_eA (A : Mem) : f_X11_clear A = f_X10_clearAll A (A.1 kDays 0) := pr2 _
theorem clear_eB {B S7 : Mem} (s1 : T0 B 0 = S7) : f_X12_clear B = f_X12_clears S7 := by
  unfold f_X12_clear
  rw [show ((B.1, upd2 B.2.1 kThrown 0 0, B.2.2) : Mem) = S7 from s1, lt_x]
  generalize f_X12_clears S7 = z
  rw [lt_x, lt_x]
theorem Good.mk {u : Int} {x y : Int32 × Mem} (h1 : y.2.2.1 kThrown 0 = 0) (h2 : y.1 = x.1) (h3 : Rel x.2.1 y.2.2.1 0) (h4 : Num u u 171000000 y.2.2.1) : Good u x y := ⟨h1, h2, h3, h4⟩
theorem Good.of {u : Int} {x y x2 y2 : Int32 × Mem} (h : Good u x y) (e1 : x2 = x) (e2 : y2 = y) : Good u x2 y2 := by
  rw [e1, e2]
  exact h
theorem clear_good {u : Int} {A S7 : Mem} (hu : u ≤ 5120000) (s2 : S7.2.1 kThrown 0 = 0) (s3 : Rel A.1 S7.2.1 0) (s4 : Num u u 171000000 S7.2.1) : ok_X10_clearAll A (A.1 kDays 0) ∧ ok_X12_clears S7 ∧ Good u (f_X10_clearAll A (A.1 kDays 0)) (f_X12_clears S7) := by
  obtain ⟨k1, k2, k3, k4, k5, -⟩ := clear_ok (dy := A.1 kDays 0) s3 s4 hu hu (s3.sh kDays 0 (by decide))
  exact ⟨k1, k2, Good.mk ((congrFun (gt_X12_clears S7) 0).trans s2) k3.symm k4 k5⟩
theorem clear_op {u : Int} {A B : Mem} (hu : u ≤ 5120000) (h : St u A.1 B.2.1) : ok_X11_clear A ∧ ok_X12_clear B ∧ Good u (f_X11_clear A) (f_X12_clear B) := by
  obtain ⟨S7, s1, s2, ⟨s3, s4⟩, -⟩ := h.zero
  obtain ⟨k1, k2, k3⟩ := clear_good hu s2 s3 s4
  refine ⟨k1, fun S1 e1 => ?_, k3.of (clear_eA A) (clear_eB s1)⟩
  rw [← e1, show ((B.1, upd2 B.2.1 kThrown 0 0, B.2.2) : Mem) = S7 from s1]
  exact k2
theorem fail_op {u : Int} {A B : Mem} (hu : u ≤ 5120000) (h : St u A.1 B.2.1) (p1 : Int32) : (okx_X11_fail_1 A p1 ∧ ok_X12_fail B p1 ∧ f_X12_fail B p1 = (0, T0 B 1)) ∨ (okx_X11_fail_2 A p1 ∧ ok_X12_fail B p1 ∧ f_X12_fail B p1 = (0, T0 B (nI 2))) ∨ (ok_X11_fail A p1 ∧ ok_X12_fail B p1 ∧ Good u (f_X11_fail A p1) (f_X12_fail B p1)) := by
  rcases bnk_cases p1 with ⟨b1, b2, b3⟩ | ⟨b1, b2⟩
  · have sF : A.1 kHaveFailed (ix p1) = B.2.1 kHaveFailed (ix p1) := h.1.sh kHaveFailed _ b1.2
    by_cases c : B.2.1 kHaveFailed (ix p1) = 0
    · obtain ⟨S7, s1, s2, ⟨s3, s4⟩, -, -, s5⟩ := h.zero
      obtain ⟨k1, k2, k3, k4, k5, k6, -⟩ := fail_ok s3 s4 hu hu (by omega) (by omega) b1.2 (by rw [s5 kHaveFailed (by decide)]; exact c)
      rw [← b1.1] at k1 k2 k3 k4 k5 k6
      refine Or.inr (Or.inr ⟨⟨b2 A, fun v3 e3 => ⟨?_, k1⟩⟩, ?_, ?_⟩)
      · rw [bank_in b1, sF, if_pos c] at e3
        rw [← e3]
        exact c1
      · intro v1 e1
        refine ⟨fun _ => b1, fun v5 e5 => ?_⟩
        rw [b3] at e1
        subst e1
        rw [if_neg c1, if_pos c] at e5
        subst e5
        refine okt_yes ?_
        rw [s1]
        exact k2
      · have eB : f_X12_fail B p1 = f_X12_fails S7 p1 := by
          unfold f_X12_fail
          rw [b3, lt_x, if_neg c1, if_pos c, lt_x, tail2_yes (fun S => f_X12_fails S p1), s1]
        have eA : f_X11_fail A p1 = f_X11_failBank A p1 := by
          exact (lt_x _ _).trans (pr2 _)
        rw [eA, eB]
        exact ⟨by rw [k6 kThrown (by decide)]; exact s2, k3.symm, k4, k5⟩
    · refine Or.inr (Or.inl ⟨⟨b2 A, fun v3 e3 => ?_⟩, ?_, ?_⟩)
      · rw [bank_in b1, sF, if_neg c] at e3
        exact e3.symm
      · intro v1 e1
        refine ⟨fun _ => b1, fun v5 e5 => ?_⟩
        rw [b3] at e1
        subst e1
        rw [if_neg c1, if_neg c] at e5
        subst e5
        exact okt_no c2
      · unfold f_X12_fail
        rw [b3, lt_x, if_neg c1, if_neg c, lt_x]
        exact tail2_no c2 (fun S => f_X12_fails S p1)
  · refine Or.inl ⟨b1 A, ?_, ?_⟩
    · intro v1 e1
      rw [b2] at e1
      subst e1
      refine ⟨fun q => absurd rfl q, fun v5 e5 => ?_⟩
      rw [if_pos rfl] at e5
      subst e5
      exact okt_no c1
    · unfold f_X12_fail
      rw [b2, lt_x, if_pos rfl, lt_x]
      exact tail2_no c1 (fun S => f_X12_fails S p1)
theorem day_op {u : Int} {A B : Mem} (hu : u ≤ 5120000) (h : St u A.1 B.2.1) (p1 : Int32) : (okx_X11_day_1 A p1 ∧ ok_X12_day B p1 ∧ f_X12_day B p1 = (0, T0 B 1)) ∨ (okx_X11_day_2 A p1 ∧ ok_X12_day B p1 ∧ f_X12_day B p1 = (0, T0 B (nI 2))) ∨ (ok_X11_day A p1 ∧ ok_X12_day B p1 ∧ Good u (f_X11_day A p1) (f_X12_day B p1)) := by
  have ns := h.2.2.2.2.2.2.2.2.2.1
  have d0 : 0 ≤ (B.2.1 kDays 0).toInt := ns.1
  have d1 : (B.2.1 kDays 0).toInt ≤ 200 := ns.2.1
  have sD : A.1 kDays 0 = B.2.1 kDays 0 := h.1.sh kDays 0 (by decide)
  have e200 : (nI 200).toInt = 200 := nI_toInt (by omega)
  have e5' : (nI 5).toInt = 5 := nI_toInt (by omega)
  rcases rng_cases p1 1 (nI 5) with ⟨a1, a2, a3, a4⟩ | ⟨a1, a2⟩
  · rw [w_1] at a1
    have x1 : (B.2.1 kDays 0 + p1).toInt = (B.2.1 kDays 0).toInt + p1.toInt := by
      rw [w_add]
      omega
    have x2 : (nI 200 - p1).toInt = 200 - p1.toInt := by
      rw [w_sub]
      omega
    by_cases c : B.2.1 kDays 0 + p1 ≤ nI 200
    · have c' : ¬ nI 200 - p1 < B.2.1 kDays 0 := by
        rw [w_le] at c
        rw [w_lt]
        omega
      rw [w_le] at c
      obtain ⟨S7, s1, s2, ⟨s3, s4⟩, -, -, s5⟩ := h.zero
      have ip : inb p1 6 := (inb_iff (by omega)).mpr ⟨by omega, by omega⟩
      have it := inb_toInt ip
      have key := iter2 (f := b28_X11_day) (g := b41_X12_day) (a := A) (b := S7) (fun j x y => (Rel x.1 y.2.1 0 ∧ Num u u 171000000 y.2.1) ∧ (y.2.1 kDays 0).toInt = (B.2.1 kDays 0).toInt + j ∧ y.2.1 kThrown 0 = 0) (n := ix p1) ⟨⟨s3, s4⟩, by rw [s5 kDays (by decide)]; omega, s2⟩ (fun j hj x y q => by
        obtain ⟨⟨q1, q2⟩, q3, q4⟩ := q
        obtain ⟨-, -, k3, k4, k5⟩ := pass_ok q1 q2 hu hu (by omega)
        have kt : (f_X12_goesBy y).2.1 kThrown = y.2.1 kThrown := gt_X12_goesBy y
        unfold b28_X11_day b41_X12_day
        rw [lt_x, lt_x]
        refine ⟨⟨k3, k4⟩, ?_, by rw [kt]; exact q4⟩
        rw [k5, w_add, w_1]
        omega)
      have kk := fun j (hj : j < ix p1) => pass_ok (key j (by omega)).1.1 (key j (by omega)).1.2 hu hu (by have := (key j (by omega)).2.1; omega)
      obtain ⟨⟨r1, r2⟩, r3, r4⟩ := key (ix p1) (Nat.le_refl _)
      obtain ⟨X, hX⟩ : ∃ z, iter b28_X11_day A (ix p1) = z := ⟨_, rfl⟩
      obtain ⟨Y, hY⟩ : ∃ z, iter b41_X12_day S7 (ix p1) = z := ⟨_, rfl⟩
      rw [hX] at r1
      rw [hY] at r1 r2 r3 r4
      refine Or.inr (Or.inr ⟨⟨a3 A, fun v3 e3 => ⟨?_, fun j hj σ e => ip.1, fun j hj σ e => ?_⟩⟩, ?_, ?_⟩)
      · rw [sD, if_neg c'] at e3
        rw [← e3]
        exact c1
      · rw [← e]
        exact (kk j hj).1
      · intro v1 e1 v4 e4
        rw [a4] at e1
        subst e1
        rw [if_neg c1, if_pos (by rw [w_le]; exact c)] at e4
        subst e4
        refine okt_yes ?_
        rw [s1]
        refine ⟨fun j hj σ e => ip.1, fun j hj σ e => ?_⟩
        rw [← e]
        exact (kk j hj).2.1
      · have eB : f_X12_day B p1 = (iter (b60_X12_day Y) 0 4, Y) := by
          unfold f_X12_day
          rw [a4, lt_x, if_neg c1, if_pos (by rw [w_le]; exact c), lt_x, tail_yes, s1, hY, lt_x, lt_x]
        have eA : f_X11_day A p1 = (f_X3_banksThatStand X, X) := by
          unfold f_X11_day
          rw [hX, lt_x, lt_x, lt_x]
        rw [eA, eB]
        refine ⟨r4, ?_, r1, r2⟩
        show iter (b60_X12_day Y) 0 4 = f_X3_banksThatStand X
        unfold f_X3_banksThatStand
        rw [lt_x]
        refine iter_congr 4 (fun j hj σ => ?_)
        unfold b60_X12_day b4_X3_banksThatStand
        rw [bank_nI hj, lt_x, lt_x, r1.sh kHaveFailed j hj]
    · have c' : nI 200 - p1 < B.2.1 kDays 0 := by
        rw [w_le] at c
        rw [w_lt]
        omega
      refine Or.inr (Or.inl ⟨⟨a3 A, fun v3 e3 => ?_⟩, ?_, ?_⟩)
      · rw [sD, if_pos c'] at e3
        exact e3.symm
      · intro v1 e1 v4 e4
        rw [a4] at e1
        subst e1
        rw [if_neg c1, if_neg c] at e4
        subst e4
        exact okt_no c2
      · unfold f_X12_day
        rw [a4, lt_x, if_neg c1, if_neg c, lt_x]
        exact tail_no c2 _ _
  · refine Or.inl ⟨a1 A, ?_, ?_⟩
    · intro v1 e1 v4 e4
      rw [a2] at e1
      subst e1
      rw [if_pos rfl] at e4
      subst e4
      exact okt_no c1
    · unfold f_X12_day
      rw [a2, lt_x, if_pos rfl, lt_x]
      exact tail_no c1 _ _
theorem N_hire {u v L : Int} {R : Col} {i : Nat} {x y : Int32} (n : Num u v L R) (hx : 10 ≤ x.toInt ∧ x.toInt < 16) (hy : 1 ≤ y.toInt ∧ y.toInt ≤ 1000) : Num u v L (upd2 (upd2 R kFirms i x) kWages i y) := by
  obtain ⟨nh, nu, np, nb, nv, nf, nl, nd, ns, nw, nq⟩ := n
  refine ⟨nh, nu, np, nb, nv, nf, nl, nd, ns, ?_, nq⟩
  show zW (ru (R kFirms) i x) (ru (R kWages) i y)
  intro j hj
  by_cases z : j = i
  · subst z
    rw [ru_eq, ru_eq]
    exact Or.inr ⟨hx.1, hx.2, hy.1, hy.2⟩
  · rw [ru_ne z, ru_ne z]
    exact nw j hj
theorem hire_ok {u : Int} {A B : Mem} (h : St u A.1 B.2.1) (p1 p2 p3 : Int32) : (okx_X11_hire_1 A p1 p2 p3 ∧ ok_X12_hire B p1 p2 p3 ∧ f_X12_hire B p1 p2 p3 = (0, T0 B 1)) ∨ (okx_X11_hire_2 A p1 p2 p3 ∧ ok_X12_hire B p1 p2 p3 ∧ f_X12_hire B p1 p2 p3 = (0, T0 B 1)) ∨ (okx_X11_hire_3 A p1 p2 p3 ∧ ok_X12_hire B p1 p2 p3 ∧ f_X12_hire B p1 p2 p3 = (0, T0 B (nI 2))) ∨ (ok_X11_hire A p1 p2 p3 ∧ ok_X12_hire B p1 p2 p3 ∧ Good u (f_X11_hire A p1 p2 p3) (f_X12_hire B p1 p2 p3)) := by
  rcases hou_cases p1 with ⟨b1, b2, b3⟩ | ⟨b1, b2⟩
  · have okB : ok_X12_hire B p1 p2 p3 := fun v1 _ v7 _ S8 _ v9 _ _ => ⟨b1, b1, fun _ _ => b1⟩
    have b16 : inb p1 16 := ⟨b1.1, by have := b1.2; omega⟩
    rcases frm_cases p2 with ⟨d1, d2, d3, d4⟩ | ⟨d1, d2⟩
    · rcases rng_cases p3 1 (nI 1000) with ⟨r1, r2, r3, r4⟩ | ⟨r1, r2⟩
      · obtain ⟨S7, s1, s2, ⟨s3, s4⟩, -⟩ := h.zero
        have e1000 : (nI 1000).toInt = 1000 := nI_toInt (by omega)
        rw [w_1] at r1
        have dt := inb_toInt d1
        have dl := d1.2
        have eB : f_X12_hire B p1 p2 p3 = (S7.2.1 kWages (ix p1), (S7.1, upd2 (upd2 S7.2.1 kFirms (ix p1) p2) kWages (ix p1) p3, S7.2.2)) := by
          unfold f_X12_hire
          rw [b3, lt_x, if_neg c1, d4, l1, r4, l1, lt_x, tail_yes, s1, lt_x, lt_x]
        have eA : f_X11_hire A p1 p2 p3 = (A.1 kWages (ix p1), (upd2 (upd2 A.1 kFirms (ix p1) p2) kWages (ix p1) p3, A.2)) := by
          unfold f_X11_hire
          rw [holder_in b16, lt_x, lt_x]
        refine Or.inr (Or.inr (Or.inr ⟨⟨b2 A, d3 A, r3 A⟩, okB, ?_⟩))
        rw [eA, eB]
        exact ⟨s2, (s3.sh kWages _ b1.2).symm, (s3.firm b1.2 rfl).wage b1.2 rfl, N_hire s4 ⟨by omega, by omega⟩ ⟨r1, by omega⟩⟩
      · refine Or.inr (Or.inr (Or.inl ⟨⟨b2 A, d3 A, r1 A⟩, okB, ?_⟩))
        unfold f_X12_hire
        rw [b3, lt_x, if_neg c1, d4, l1, r2, l0, lt_x]
        exact tail_no c2 _ _
    · refine Or.inr (Or.inl ⟨⟨b2 A, d1 A⟩, okB, ?_⟩)
      unfold f_X12_hire
      rw [b3, lt_x, if_neg c1, d2, l0, lt_x]
      exact tail_no c1 _ _
  · refine Or.inl ⟨b1 A, ?_, ?_⟩
    · intro v1 e1 v7 e7
      rw [b2] at e1
      subst e1
      rw [if_pos rfl] at e7
      subst e7
      exact okt_no c1
    · unfold f_X12_hire
      rw [b2, lt_x, if_pos rfl, lt_x]
      exact tail_no c1 _ _
