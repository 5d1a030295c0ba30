/-! limit, rules, exchange, mint, forge -/
theorem c1 : (1 : Int32) ≠ 0 := by decide
theorem c2 : nI 2 ≠ 0 := by decide
theorem c3 : nI 3 ≠ 0 := by decide
theorem l1 {a b : Int32} : lt (1 : Int32) (fun v => if v = 0 then a else b) = b := by
  rw [lt_x, if_neg c1]
theorem l0 {a b : Int32} : lt (0 : Int32) (fun v => if v = 0 then a else b) = a := by
  rw [lt_x, if_pos rfl]
theorem St.zero {u : Int} {A : Col} {B : Mem} (h : St u A B.2.1) : ∃ S7, T0 B 0 = S7 ∧ S7.2.1 kThrown 0 = 0 ∧ St u A S7.2.1 ∧ S7.1 = B.1 ∧ S7.2.2 = B.2.2 ∧ ∀ k, k ≠ 0 → S7.2.1 k = B.2.1 k := ⟨T0 B 0, rfl, (upd2_eq : upd2 B.2.1 kThrown 0 0 kThrown 0 = 0), h.thr 0, rfl, rfl, fun _ hk => u_ne hk⟩
theorem has_hi {u v L : Int} {R : Col} (n : Num u v L R) {i : Nat} (hi : i < 16) : 0 ≤ (R kForged i).toInt ∧ (R kForged i).toInt ≤ (R kNotes i).toInt ∧ 0 ≤ (R kBlocked i).toInt ∧ (R kBlocked i).toInt ≤ (R kAccounts i).toInt ∧ (R kAccounts i).toInt + (R kNotes i).toInt ≤ u := by
  obtain ⟨nh, nu, -⟩ := n
  obtain ⟨-, -, h1, h2, h3, h4⟩ := nh i hi
  have := uS_one (ac := R kAccounts) (no := R kNotes) nh.pos hi
  omega
theorem limit_ok {u : Int} {A B : Mem} (h : St u A.1 B.2.1) (p1 p2 : Int32) : (okx_X11_limit_1 A p1 p2 ∧ ok_X12_limit B p1 p2 ∧ f_X12_limit B p1 p2 = (0, T0 B 1)) ∨ (okx_X11_limit_2 A p1 p2 ∧ ok_X12_limit B p1 p2 ∧ f_X12_limit B p1 p2 = (0, T0 B (nI 2))) ∨ (ok_X11_limit A p1 p2 ∧ ok_X12_limit B p1 p2 ∧ Good u (f_X11_limit A p1 p2) (f_X12_limit B p1 p2)) := by
  rcases bnk_cases p1 with ⟨b1, b2, b3⟩ | ⟨b1, b2⟩
  · rcases rng_cases p2 0 (nI 10000) with ⟨r1, r2, r3, r4⟩ | ⟨r1, r2⟩
    · refine Or.inr (Or.inr ⟨⟨b2 A, r3 A⟩, ?_, ?_⟩)
      · intro v1 e1 v5 e5
        rw [b3] at e1
        subst e1
        rw [if_neg c1, r4, lt_x, if_neg c1] at e5
        subst e5
        exact okt_yes ⟨b1, b1⟩
      · obtain ⟨S7, s1, s2, ⟨s3, s4⟩, -⟩ := h.zero
        have e10k : (nI 10000).toInt = 10000 := nI_toInt (by omega)
        have eB : f_X12_limit B p1 p2 = (S7.2.1 kLimits (ix p1), (S7.1, upd2 S7.2.1 kLimits (ix p1) p2, S7.2.2)) := by
          unfold f_X12_limit
          rw [b3, lt_x, if_neg c1, r4, l1, lt_x, tail_yes, s1, lt_x]
        have eA : f_X11_limit A p1 p2 = (A.1 kLimits (ix p1), (upd2 A.1 kLimits (ix p1) p2, A.2)) := by
          unfold f_X11_limit
          rw [bank_in b1, lt_x]
        rw [eA, eB]
        rw [w_0] at r1
        exact ⟨s2, (s3.sh kLimits _ b1.2).symm, s3.plain kLimits (ix p1) (by decide) rfl, N_li s4 r1 (by omega)⟩
    · refine Or.inr (Or.inl ⟨⟨b2 A, r1 A⟩, ?_, ?_⟩)
      · intro v1 e1 v5 e5
        rw [b3] at e1
        subst e1
        rw [if_neg c1, r2, lt_x, if_pos rfl] at e5
        subst e5
        exact okt_no c2
      · unfold f_X12_limit
        rw [b3, lt_x, if_neg c1, r2, l0, lt_x]
        exact tail_no c2 _ _
  · refine Or.inl ⟨b1 A, ?_, ?_⟩
    · intro v1 e1 v5 e5
      rw [b2] at e1
      subst e1
      rw [if_pos rfl] at e5
      subst e5
      exact okt_no c1
    · unfold f_X12_limit
      rw [b2, lt_x, if_pos rfl, lt_x]
      exact tail_no c1 _ _
theorem rules_code {B : Mem} {p1 p2 p3 c : Int32} (v1 : Int32) (h1 : ∀ S, f_X12_in S p1 0 (nI 100) = v1) (hc : (if v1 = 0 then (1) else (lt (f_X12_in B p2 0 (nI 100)) (fun (v3 : Int32) => if v3 = 0 then (1) else (lt (f_X12_in B p3 0 (nI 100)) (fun (v5 : Int32) => if v5 = 0 then (1) else (0)))))) = c) (h0 : c ≠ 0) : f_X12_rules B p1 p2 p3 = (0, T0 B c) := by
  unfold f_X12_rules
  rw [h1, lt_x, hc, lt_x]
  exact tail_no h0 _ _
theorem rules_ok {u : Int} {A B : Mem} (h : St u A.1 B.2.1) (p1 p2 p3 : Int32) : (okx_X11_rules_1 A p1 p2 p3 ∧ f_X12_rules B p1 p2 p3 = (0, T0 B 1)) ∨ (okx_X11_rules_2 A p1 p2 p3 ∧ f_X12_rules B p1 p2 p3 = (0, T0 B 1)) ∨ (okx_X11_rules_3 A p1 p2 p3 ∧ f_X12_rules B p1 p2 p3 = (0, T0 B 1)) ∨ (ok_X11_rules A p1 p2 p3 ∧ Good u (f_X11_rules A p1 p2 p3) (f_X12_rules B p1 p2 p3)) := by
  have e100 : (nI 100).toInt = 100 := nI_toInt (by omega)
  rcases rng_cases p1 0 (nI 100) with ⟨a1, a2, a3, a4⟩ | ⟨a1, a2⟩
  · rcases rng_cases p2 0 (nI 100) with ⟨b1, b2, b3, b4⟩ | ⟨b1, b2⟩
    · rcases rng_cases p3 0 (nI 100) with ⟨d1, d2, d3, d4⟩ | ⟨d1, d2⟩
      · obtain ⟨S7, s1, s2, ⟨s3, s4⟩, -⟩ := h.zero
        have eB : f_X12_rules B p1 p2 p3 = (S7.2.1 kRate 0, (S7.1, upd2 (upd2 (upd2 S7.2.1 kRate 0 p1) kCapitalRule 0 p2) kReserveRule 0 p3, S7.2.2)) := by
          unfold f_X12_rules
          rw [a4, lt_x, if_neg c1, b4, l1, d4, l1, lt_x, tail_yes, s1, lt_x, lt_x, lt_x]
        have eA : f_X11_rules A p1 p2 p3 = (A.1 kRate 0, (upd2 (upd2 (upd2 A.1 kRate 0 p1) kCapitalRule 0 p2) kReserveRule 0 p3, A.2)) := by
          unfold f_X11_rules
          rw [lt_x, lt_x, lt_x]
        rw [w_0] at a1 b1 d1
        refine Or.inr (Or.inr (Or.inr ⟨⟨a3 A, b3 A, d3 A⟩, ?_⟩))
        rw [eA, eB]
        exact ⟨s2, (s3.sh kRate 0 (by decide)).symm, ((s3.plain kRate 0 (by decide) rfl).plain kCapitalRule 0 (by decide) rfl).plain kReserveRule 0 (by decide) rfl, N_rules s4 ⟨a1, by omega⟩ ⟨b1, by omega⟩ ⟨d1, by omega⟩⟩
      · exact Or.inr (Or.inr (Or.inl ⟨⟨a3 A, b3 A, d1 A⟩, rules_code 1 a4 (by rw [if_neg c1, b4, lt_x, if_neg c1, d2, lt_x, if_pos rfl]) c1⟩))
    · exact Or.inr (Or.inl ⟨⟨a3 A, b1 A⟩, rules_code 1 a4 (by rw [if_neg c1, b2, lt_x, if_pos rfl]) c1⟩)
  · exact Or.inl ⟨a1 A, rules_code 0 a2 (by rw [if_pos rfl]) c1⟩
theorem exchange_ok {u : Int} {A B : Mem} (h : St u A.1 B.2.1) (p1 : Int32) : (okx_X11_exchange_1 A p1 ∧ f_X12_exchange B p1 = (0, T0 B 1)) ∨ (ok_X11_exchange A p1 ∧ Good u (f_X11_exchange A p1) (f_X12_exchange B p1)) := by
  have e10 : (nI 10).toInt = 10 := nI_toInt (by omega)
  have e1000 : (nI 1000).toInt = 1000 := nI_toInt (by omega)
  rcases rng_cases p1 (nI 10) (nI 1000) with ⟨a1, a2, a3, a4⟩ | ⟨a1, a2⟩
  · obtain ⟨S7, s1, s2, ⟨s3, s4⟩, -⟩ := h.zero
    have eB : f_X12_exchange B p1 = (S7.2.1 kExchange 0, (S7.1, upd2 S7.2.1 kExchange 0 p1, S7.2.2)) := by
      unfold f_X12_exchange
      rw [a4, lt_x, if_neg c1, lt_x, tail_yes, s1, lt_x]
    have eA : f_X11_exchange A p1 = (A.1 kExchange 0, (upd2 A.1 kExchange 0 p1, A.2)) := by
      unfold f_X11_exchange
      rw [lt_x]
    refine Or.inr ⟨a3 A, ?_⟩
    rw [eA, eB]
    exact ⟨s2, (s3.sh kExchange 0 (by decide)).symm, s3.plain kExchange 0 (by decide) rfl, N_exch s4 ⟨by omega, by omega⟩⟩
  · refine Or.inl ⟨a1 A, ?_⟩
    unfold f_X12_exchange
    rw [a2, lt_x, if_pos rfl, lt_x]
    exact tail_no c1 _ _
theorem mint_ok {u : Int} {A B : Mem} (hu : u ≤ 5120000) (h : St u A.1 B.2.1) (p1 p2 : Int32) : (okx_X11_mint_1 A p1 p2 ∧ ok_X12_mint B p1 p2 ∧ f_X12_mint B p1 p2 = (0, T0 B 1)) ∨ (okx_X11_mint_2 A p1 p2 ∧ ok_X12_mint B p1 p2 ∧ f_X12_mint B p1 p2 = (0, T0 B (nI 2))) ∨ (ok_X11_mint A p1 p2 ∧ ok_X12_mint B p1 p2 ∧ Good (u + 10000) (f_X11_mint A p1 p2) (f_X12_mint B p1 p2)) := by
  rcases hol_cases p1 with ⟨b1, b2, b3⟩ | ⟨b1, b2⟩
  · rcases rng_cases p2 1 (nI 1000) with ⟨r1, r2, r3, r4⟩ | ⟨r1, r2⟩
    · obtain ⟨S7, s1, s2, ⟨s3, s4⟩, -⟩ := h.zero
      have e1000 : (nI 1000).toInt = 1000 := nI_toInt (by omega)
      rw [w_1] at r1
      have hh := has_hi s4 b1.2
      have sN : A.1 kNotes (ix p1) = S7.2.1 kNotes (ix p1) := s3.sh kNotes _ b1.2
      have tk : f_X5_takeNotes A (f_X3_holder A p1) p2 0 = (upd2 A.1 kNotes (ix p1) (S7.2.1 kNotes (ix p1) + p2), A.2) := by
        unfold f_X5_takeNotes
        rw [holder_in b1, lt_x, lt_x]
        dsimp only
        rw [Int32.add_zero, uu_same, sN]
      have q1 := s3.notes (v := S7.2.1 kNotes (ix p1) + p2) b1.2 rfl
      obtain ⟨q2, q3, q4, q5⟩ := Rel.noteC (A := (upd2 A.1 kNotes (ix p1) (S7.2.1 kNotes (ix p1) + p2), A.2)) q1 (-p2)
      have ex : (S7.2.1 kNotes (ix p1) + p2).toInt = (S7.2.1 kNotes (ix p1)).toInt + p2.toInt := by
        rw [w_add]
        omega
      refine Or.inr (Or.inr ⟨⟨b2 A, r3 A, fun S3 e3 => ?_⟩, ?_, ?_⟩)
      · rw [tk] at e3
        rw [← e3]
        exact q2
      · intro v1 e1 v5 e5
        rw [b3] at e1
        subst e1
        rw [if_neg c1, r4, lt_x, if_neg c1] at e5
        subst e5
        exact okt_yes ⟨b1, b1, fun S11 _ => b1⟩
      · have eB : f_X12_mint B p1 p2 = (S7.2.1 kNotes (ix p1) + p2, (S7.1, upd2 S7.2.1 kNotes (ix p1) (S7.2.1 kNotes (ix p1) + p2), S7.2.2)) := by
          unfold f_X12_mint
          rw [b3, lt_x, if_neg c1, r4, l1, lt_x, tail_yes, s1, lt_x]
          dsimp only
          rw [upd2_eq]
        have eA : f_X11_mint A p1 p2 = (S7.2.1 kNotes (ix p1) + p2, f_X3_noteCentral (upd2 A.1 kNotes (ix p1) (S7.2.1 kNotes (ix p1) + p2), A.2) (-p2)) := by
          unfold f_X11_mint
          rw [tk, lt_x, lt_x, holder_in b1, q4 kNotes (by decide)]
          dsimp only
          rw [upd2_eq]
        rw [eA, eB]
        refine ⟨s2, rfl, ?_, ?_⟩
        · exact q5.d_eq (by grind)
        · have m := N_notes (x := S7.2.1 kNotes (ix p1) + p2) s4 b1.2 (by omega)
          exact (m.umono (by omega)).vmono (by omega)
    · refine Or.inr (Or.inl ⟨⟨b2 A, r1 A⟩, ?_, ?_⟩)
      · intro v1 e1 v5 e5
        rw [b3] at e1
        subst e1
        rw [if_neg c1, r2, lt_x, if_pos rfl] at e5
        subst e5
        exact okt_no c2
      · unfold f_X12_mint
        rw [b3, lt_x, if_neg c1, r2, l0, lt_x]
        exact tail_no c2 _ _
  · refine Or.inl ⟨b1 A, ?_, ?_⟩
    · intro v1 e1 v5 e5
      rw [b2] at e1
      subst e1
      rw [if_pos rfl] at e5
      subst e5
      exact okt_no c1
    · unfold f_X12_mint
      rw [b2, lt_x, if_pos rfl, lt_x]
      exact tail_no c1 _ _
theorem forge_ok {u : Int} {A B : Mem} (hu : u ≤ 5120000) (h : St u A.1 B.2.1) (p1 p2 : Int32) : (okx_X11_forge_1 A p1 p2 ∧ ok_X12_forge B p1 p2 ∧ f_X12_forge B p1 p2 = (0, T0 B 1)) ∨ (okx_X11_forge_2 A p1 p2 ∧ ok_X12_forge B p1 p2 ∧ f_X12_forge B p1 p2 = (0, T0 B (nI 2))) ∨ (ok_X11_forge A p1 p2 ∧ ok_X12_forge B p1 p2 ∧ Good (u + 10000) (f_X11_forge A p1 p2) (f_X12_forge B p1 p2)) := by
  rcases hol_cases p1 with ⟨b1, b2, b3⟩ | ⟨b1, b2⟩
  · rcases rng_cases p2 1 (nI 100) with ⟨r1, r2, r3, r4⟩ | ⟨r1, r2⟩
    · obtain ⟨S7, s1, s2, ⟨s3, s4⟩, -⟩ := h.zero
      have e100 : (nI 100).toInt = 100 := nI_toInt (by omega)
      rw [w_1] at r1
      have hh := has_hi s4 b1.2
      have sN : A.1 kNotes (ix p1) = S7.2.1 kNotes (ix p1) := s3.sh kNotes _ b1.2
      have sF : A.1 kForged (ix p1) = S7.2.1 kForged (ix p1) := s3.sh kForged _ b1.2
      have kF : ∀ (C : Col) (x : Int32), upd2 C kNotes (ix p1) x kForged (ix p1) = C kForged (ix p1) := fun _ _ => rfl
      have kN : ∀ (C : Col) (x y : Int32), upd2 (upd2 C kNotes (ix p1) x) kForged (ix p1) y kNotes (ix p1) = x := fun _ _ _ => by
        show upd2 _ kNotes (ix p1) _ kNotes (ix p1) = _
        rw [upd2_eq]
      have eA : f_X11_forge A p1 p2 = (S7.2.1 kNotes (ix p1) + p2, (upd2 (upd2 A.1 kNotes (ix p1) (S7.2.1 kNotes (ix p1) + p2)) kForged (ix p1) (S7.2.1 kForged (ix p1) + p2), A.2)) := by
        unfold f_X11_forge f_X5_takeNotes
        rw [holder_in b1, lt_x, lt_x, lt_x]
        dsimp only
        rw [kN, kF, sN, sF]
      have ex : (S7.2.1 kNotes (ix p1) + p2).toInt = (S7.2.1 kNotes (ix p1)).toInt + p2.toInt := by
        rw [w_add]
        omega
      have ey : (S7.2.1 kForged (ix p1) + p2).toInt = (S7.2.1 kForged (ix p1)).toInt + p2.toInt := by
        rw [w_add]
        omega
      refine Or.inr (Or.inr ⟨⟨b2 A, r3 A⟩, ?_, ?_⟩)
      · intro v1 e1 v5 e5
        rw [b3] at e1
        subst e1
        rw [if_neg c1, r4, lt_x, if_neg c1] at e5
        subst e5
        exact okt_yes ⟨b1, b1, fun S11 _ => ⟨b1, b1, fun S14 _ => b1⟩⟩
      · have eB : f_X12_forge B p1 p2 = (S7.2.1 kNotes (ix p1) + p2, (S7.1, upd2 (upd2 S7.2.1 kNotes (ix p1) (S7.2.1 kNotes (ix p1) + p2)) kForged (ix p1) (S7.2.1 kForged (ix p1) + p2), S7.2.2)) := by
          unfold f_X12_forge
          rw [b3, lt_x, if_neg c1, r4, l1, lt_x, tail_yes, s1, lt_x, lt_x]
          dsimp only
          rw [kN, kF]
        rw [eA, eB]
        refine ⟨s2, rfl, ?_, ?_⟩
        · have q1 := s3.notes (v := S7.2.1 kNotes (ix p1) + p2) b1.2 rfl
          have q2 := q1.forged (v := S7.2.1 kForged (ix p1) + p2) b1.2 rfl
          rw [kF] at q2
          exact q2.d_eq (by grind)
        · have m := N_notes (x := S7.2.1 kNotes (ix p1) + p2) s4 b1.2 (by omega)
          have m2 := N_forged (i := ix p1) (x := S7.2.1 kForged (ix p1) + p2) m (by omega) (by rw [upd2_eq]; omega)
          exact (m2.umono (by omega)).vmono (by omega)
    · refine Or.inr (Or.inl ⟨⟨b2 A, r1 A⟩, ?_, ?_⟩)
      · intro v1 e1 v5 e5
        rw [b3] at e1
        subst e1
        rw [if_neg c1, r2, lt_x, if_pos rfl] at e5
        subst e5
        exact okt_no c2
      · unfold f_X12_forge
        rw [b3, lt_x, if_neg c1, r2, l0, lt_x]
        exact tail_no c2 _ _
  · refine Or.inl ⟨b1 A, ?_, ?_⟩
    · intro v1 e1 v5 e5
      rw [b2] at e1
      subst e1
      rw [if_pos rfl] at e5
      subst e5
      exact okt_no c1
    · unfold f_X12_forge
      rw [b2, lt_x, if_pos rfl, lt_x]
      exact tail_no c1 _ _
