/-! endow, windowBack, window, hire -/
theorem endow_ok {u : Int} {A B : Mem} (hu : u ≤ 5120000) (h : St u A.1 B.2.1) (p1 p2 : Int32) : (okx_X11_endow_1 A p1 p2 ∧ ok_X12_endow B p1 p2 ∧ f_X12_endow B p1 p2 = (0, T0 B 1)) ∨ (okx_X11_endow_2 A p1 p2 ∧ ok_X12_endow B p1 p2 ∧ f_X12_endow B p1 p2 = (0, T0 B (nI 2))) ∨ (okx_X11_endow_3 A p1 p2 ∧ ok_X12_endow B p1 p2 ∧ f_X12_endow B p1 p2 = (0, T0 B (nI 3))) ∨ (ok_X11_endow A p1 p2 ∧ ok_X12_endow B p1 p2 ∧ Good (u + 10000) (f_X11_endow A p1 p2) (f_X12_endow B p1 p2)) := by
  rcases bnk_cases p1 with ⟨b1, b2, b3⟩ | ⟨b1, b2⟩
  · have okB : ok_X12_endow B p1 p2 := fun v1 _ => ⟨fun _ v3 _ _ => b1, fun v7 _ S8 _ v9 _ _ => ⟨b1, b1, fun _ _ => b1⟩⟩
    have sF : A.1 kHaveFailed (ix p1) = B.2.1 kHaveFailed (ix p1) := h.1.sh kHaveFailed _ b1.2
    rcases rng_cases p2 1 (nI 10000) with ⟨r1, r2, r3, r4⟩ | ⟨r1, r2⟩
    · by_cases c : B.2.1 kHaveFailed (ix p1) = 0
      · obtain ⟨S7, s1, s2, ⟨s3, s4⟩, -⟩ := h.zero
        have e10k : (nI 10000).toInt = 10000 := nI_toInt (by omega)
        rw [w_1] at r1
        have hh := re_hi s4 hu b1.2
        have sR : A.1 kReserves (ix p1) = S7.2.1 kReserves (ix p1) := s3.sh kReserves _ b1.2
        have q1 := s3.reserves (v := S7.2.1 kReserves (ix p1) + p2) b1.2 rfl
        obtain ⟨q2, q3, q4, q5⟩ := Rel.noteC (A := (upd2 A.1 kReserves (ix p1) (S7.2.1 kReserves (ix p1) + p2), A.2)) q1 (-p2)
        have ex : (S7.2.1 kReserves (ix p1) + p2).toInt = (S7.2.1 kReserves (ix p1)).toInt + p2.toInt := by
          rw [w_add]
          omega
        refine Or.inr (Or.inr (Or.inr ⟨⟨b2 A, r3 A, fun v4 e4 => ⟨?_, fun S6 e6 => ?_⟩⟩, okB, ?_⟩))
        · rw [bank_in b1, sF, if_pos c] at e4
          rw [← e4]
          exact c1
        · rw [bank_in b1, sR] at e6
          rw [← e6]
          exact q2
        · have eB : f_X12_endow B p1 p2 = (S7.2.1 kReserves (ix p1) + p2, (S7.1, upd2 S7.2.1 kReserves (ix p1) (S7.2.1 kReserves (ix p1) + p2), S7.2.2)) := by
            unfold f_X12_endow
            rw [b3, lt_x, if_neg c1, r4, l1, if_pos c, lt_x, tail_yes, s1, lt_x]
            dsimp only
            rw [upd2_eq]
          have eA : f_X11_endow A p1 p2 = (S7.2.1 kReserves (ix p1) + p2, f_X3_noteCentral (upd2 A.1 kReserves (ix p1) (S7.2.1 kReserves (ix p1) + p2), A.2) (-p2)) := by
            unfold f_X11_endow
            rw [bank_in b1, sR, lt_x, lt_x, lt_x, q4 kReserves (by decide)]
            dsimp only
            rw [upd2_eq]
          rw [eA, eB]
          refine ⟨s2, rfl, q5.d_eq (by grind), ?_⟩
          have m := N_re (x := S7.2.1 kReserves (ix p1) + p2) s4 b1.2 (by omega)
          exact (m.vmono (by omega)).umono (by omega)
      · refine Or.inr (Or.inr (Or.inl ⟨⟨b2 A, r3 A, fun v4 e4 => ?_⟩, okB, ?_⟩))
        · rw [bank_in b1, sF, if_neg c] at e4
          exact e4.symm
        · unfold f_X12_endow
          rw [b3, lt_x, if_neg c1, r4, l1, if_neg c, lt_x]
          exact tail_no c3 _ _
    · refine Or.inr (Or.inl ⟨⟨b2 A, r1 A⟩, okB, ?_⟩)
      unfold f_X12_endow
      rw [b3, lt_x, if_neg c1, r2, l0, lt_x]
      exact tail_no c2 _ _
  · refine Or.inl ⟨b1 A, ?_, ?_⟩
    · intro v1 e1
      rw [b2] at e1
      subst e1
      refine ⟨fun q => absurd rfl q, fun v7 e7 => ?_⟩
      rw [if_pos rfl] at e7
      subst e7
      exact okt_no c1
    · unfold f_X12_endow
      rw [b2, lt_x, if_pos rfl, lt_x]
      exact tail_no c1 _ _
def borC (C : Col) (b : Nat) (x : Int32) : Col := upd2 (upd2 C kReserves b (C kReserves b + x)) kLent b (C kLent b + x)
theorem bor_eq {A : Mem} {b : Nat} {x : Int32} : f_X0_borrow A b x = (borC A.1 b x, A.2) := by
  unfold f_X0_borrow borC
  rw [lt_x, lt_x]
  rfl
theorem bor_ok {u : Int} {C R : Col} {b : Nat} {x : Int32} (hu : u ≤ 5120000) (s3 : Rel C R 0) (s4 : Num u u 171000000 R) (hb : b < 4) (hf : R kHaveFailed b ≠ 0 → R kLent b + x = 0) (x0 : -10000 ≤ x.toInt) (x1 : x.toInt ≤ 10000) (h1 : 0 ≤ (R kReserves b).toInt + x.toInt) (h2 : 0 ≤ (R kLent b).toInt + x.toInt) (h3 : (R kLent b).toInt + x.toInt ≤ 171000000) : St (u + 10000) (borC C b x) (upd2 (upd2 R kLent b (R kLent b + x)) kReserves b (R kReserves b + x)) := by
  have hh := re_hi s4 hu hb
  obtain ⟨p1, p2, p3, p4, p5⟩ := s4.2.2.2.1 b hb
  have sR : C kReserves b = R kReserves b := s3.sh kReserves _ hb
  have sL : C kLent b = R kLent b := s3.sh kLent _ hb
  have ex : (R kReserves b + x).toInt = (R kReserves b).toInt + x.toInt := by
    rw [w_add]
    omega
  have ey : (R kLent b + x).toInt = (R kLent b).toInt + x.toInt := by
    rw [w_add]
    omega
  rw [u_comm (show kLent ≠ kReserves by decide)]
  refine ⟨?_, ?_⟩
  · unfold borC
    rw [sR, sL]
    have q := (s3.reserves (v := R kReserves b + x) hb rfl).lent (v := R kLent b + x) hb rfl
    rw [show upd2 R kReserves b (R kReserves b + x) kLent b = R kLent b from rfl] at q
    exact q.d_eq (by grind)
  · have m := N_re (x := R kReserves b + x) s4 hb (by omega)
    have m2 := N_le (b := b) (x := R kLent b + x) m (by omega) (by omega) hf
    exact (m2.vmono (by omega)).umono (by omega)
theorem windowBack_ok {u : Int} {A B : Mem} (hu : u ≤ 5120000) (h : St u A.1 B.2.1) (p1 p2 : Int32) : (okx_X11_windowBack_1 A p1 p2 ∧ ok_X12_windowBack B p1 p2 ∧ f_X12_windowBack B p1 p2 = (0, T0 B 1)) ∨ (okx_X11_windowBack_2 A p1 p2 ∧ ok_X12_windowBack B p1 p2 ∧ f_X12_windowBack B p1 p2 = (0, T0 B (nI 2))) ∨ (okx_X11_windowBack_3 A p1 p2 ∧ ok_X12_windowBack B p1 p2 ∧ f_X12_windowBack B p1 p2 = (0, T0 B (nI 3))) ∨ (ok_X11_windowBack A p1 p2 ∧ ok_X12_windowBack B p1 p2 ∧ Good (u + 10000) (f_X11_windowBack A p1 p2) (f_X12_windowBack B p1 p2)) := by
  rcases bnk_cases p1 with ⟨b1, b2, b3⟩ | ⟨b1, b2⟩
  · have okB : ok_X12_windowBack B p1 p2 := fun v1 _ => ⟨fun _ v3 _ _ => ⟨b1, fun _ => b1⟩, fun v7 _ S8 _ v9 _ _ => ⟨b1, b1, fun _ _ => ⟨b1, b1, fun _ _ => b1⟩⟩⟩
    have sR0 : A.1 kReserves (ix p1) = B.2.1 kReserves (ix p1) := h.1.sh kReserves _ b1.2
    have sL0 : A.1 kLent (ix p1) = B.2.1 kLent (ix p1) := h.1.sh kLent _ b1.2
    rcases rng_cases p2 1 (nI 10000) with ⟨r1, r2, r3, r4⟩ | ⟨r1, r2⟩
    · by_cases c : B.2.1 kLent (ix p1) < p2
      · refine Or.inr (Or.inr (Or.inl ⟨⟨b2 A, r3 A, fun v4 e4 => ?_⟩, okB, ?_⟩))
        · rw [bank_in b1, sL0, if_pos c] at e4
          exact e4.symm
        · unfold f_X12_windowBack
          rw [b3, lt_x, if_neg c1, r4, l1, if_pos c, lt_x]
          exact tail_no c3 _ _
      · by_cases c' : B.2.1 kReserves (ix p1) < p2
        · have c'' : ¬ p2 ≤ B.2.1 kReserves (ix p1) := by
            rw [w_lt] at c'
            rw [w_le]
            omega
          refine Or.inr (Or.inr (Or.inl ⟨⟨b2 A, r3 A, fun v4 e4 => ?_⟩, okB, ?_⟩))
          · rw [bank_in b1, sL0, if_neg c, sR0, if_pos c'] at e4
            exact e4.symm
          · unfold f_X12_windowBack
            rw [b3, lt_x, if_neg c1, r4, l1, if_neg c, if_neg c'', lt_x]
            exact tail_no c3 _ _
        · have c'' : p2 ≤ B.2.1 kReserves (ix p1) := by
            rw [w_lt] at c'
            rw [w_le]
            omega
          obtain ⟨S7, s1, s2, ⟨s3, s4⟩, -, -, s5⟩ := h.zero
          have e10k : (nI 10000).toInt = 10000 := nI_toInt (by omega)
          rw [w_1] at r1
          rw [w_lt] at c
          rw [w_le] at c''
          rw [← s5 kLent (by decide)] at c
          rw [← s5 kReserves (by decide)] at c''
          have pn : (-p2).toInt = -p2.toInt := by
            rw [w_neg]
            omega
          have hZ := (s4.2.2.2.1 (ix p1) b1.2).2.2.2
          have key := bor_ok (x := -p2) hu s3 s4 b1.2 (fun q => by
            have z := hZ.2.2.2.2.2 q
            rw [z, w_0] at c
            omega) (by omega) (by omega) (by omega) (by omega) (by omega)
          refine Or.inr (Or.inr (Or.inr ⟨⟨b2 A, r3 A, fun v4 e4 => ?_⟩, okB, ?_⟩))
          · rw [bank_in b1, sL0, if_neg (by rw [w_lt, ← s5 kLent (by decide)]; exact c), sR0, if_neg c'] at e4
            rw [← e4]
            exact c1
          · have eB : f_X12_windowBack B p1 p2 = (S7.2.1 kLent (ix p1) + -p2, (S7.1, upd2 (upd2 S7.2.1 kLent (ix p1) (S7.2.1 kLent (ix p1) + -p2)) kReserves (ix p1) (S7.2.1 kReserves (ix p1) + -p2), S7.2.2)) := by
              unfold f_X12_windowBack
              rw [b3, lt_x, if_neg c1, r4, l1, if_neg (by rw [w_lt, ← s5 kLent (by decide)]; exact c), if_pos (by rw [w_le, ← s5 kReserves (by decide)]; exact c''), lt_x, tail_yes, s1, lt_x, lt_x, Int32.sub_eq_add_neg, Int32.sub_eq_add_neg]
              dsimp only
              rw [show ∀ x y : Int32, upd2 (upd2 S7.2.1 kLent (ix p1) x) kReserves (ix p1) y kLent (ix p1) = upd2 S7.2.1 kLent (ix p1) x kLent (ix p1) from fun _ _ => rfl, upd2_eq]
              rfl
            have eA : f_X11_windowBack A p1 p2 = (S7.2.1 kLent (ix p1) + -p2, (borC A.1 (ix p1) (-p2), A.2)) := by
              unfold f_X11_windowBack
              rw [bank_in b1, bor_eq, lt_x, lt_x]
              dsimp only
              rw [show borC A.1 (ix p1) (-p2) kLent (ix p1) = A.1 kLent (ix p1) + -p2 from upd2_eq, s3.sh kLent _ b1.2]
            rw [eA, eB]
            exact ⟨s2, rfl, key⟩
    · refine Or.inr (Or.inl ⟨⟨b2 A, r1 A⟩, okB, ?_⟩)
      unfold f_X12_windowBack
      rw [b3, lt_x, if_neg c1, r2, l0, lt_x]
      exact tail_no c2 _ _
  · refine Or.inl ⟨b1 A, ?_, ?_⟩
    · intro v1 e1
      rw [b2] at e1
      subst e1
      refine ⟨fun q => absurd rfl q, fun v7 e7 => ?_⟩
      rw [if_pos rfl] at e7
      subst e7
      exact okt_no c1
    · unfold f_X12_windowBack
      rw [b2, lt_x, if_pos rfl, lt_x]
      exact tail_no c1 _ _
