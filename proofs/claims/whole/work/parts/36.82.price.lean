/-! queries: days, price -/
/-- what a query leaves: the answer, nothing thrown, the rest as it was -/
def Goq (u : Int) (A : Mem) (x : Int32) (y : Int32 × Mem) : Prop := y.2.2.1 kThrown 0 = 0 ∧ y.1 = x ∧ St u A.1 y.2.2.1
theorem days_q {u : Int} {A B : Mem} (h : St u A.1 B.2.1) : Goq u A (f_X11_days A) (f_X12_days B) := by
  obtain ⟨S7, s1, s2, s3, -, -, s5⟩ := h.zero
  have eB : f_X12_days B = (S7.2.1 kDays 0, S7) := by
    unfold f_X12_days
    rw [show ((B.1, upd2 B.2.1 kThrown 0 0, B.2.2) : Mem) = S7 from s1, lt_x]
  rw [eB]
  exact ⟨s2, (s3.1.sh kDays 0 (by decide)).symm, s3⟩
theorem price_q {u : Int} {A B : Mem} (h : St u A.1 B.2.1) (p1 : Int32) : (okx_X11_price_1 A p1 ∧ ok_X12_price B p1 ∧ f_X12_price B p1 = (0, T0 B 1)) ∨ (ok_X11_price A p1 ∧ ok_X12_price B p1 ∧ Goq u A (f_X11_price A p1) (f_X12_price B p1)) := by
  rcases frm_cases p1 with ⟨b1, b10, b2, b3⟩ | ⟨b1, b2⟩
  · obtain ⟨S7, s1, s2, s3, -, -, s5⟩ := h.zero
    have eB : f_X12_price B p1 = (S7.2.1 kPrices (ix p1), S7) := by
      unfold f_X12_price
      rw [b3, lt_x, if_neg c1, lt_x, holds_eq, lt_x, lt_x, s1]
      show lt (if (if (0 : Int32) = 0 then (1 : Int32) else 0) = 0 then _ else _) _ = _
      rw [if_pos rfl, if_neg c1, lt_x]
    refine Or.inr ⟨b2 A, fun v1 _ v3 _ S4 _ v5 _ _ => b1, ?_⟩
    rw [eB]
    refine ⟨s2, ?_, s3⟩
    show S7.2.1 kPrices (ix p1) = A.1 kPrices (f_X3_holder A p1)
    rw [holder_in b1]
    exact (s3.1.sh kPrices _ b1.2).symm
  · refine Or.inl ⟨b1 A, ?_, ?_⟩
    · intro v1 e1 v3 e3
      rw [b2] at e1
      subst e1
      rw [if_pos rfl] at e3
      subst e3
      exact okt_no c1
    · unfold f_X12_price
      rw [b2, lt_x, if_pos rfl, lt_x, holds_eq, lt_x, lt_x]
      show lt (if (if (1 : Int32) = 0 then (1 : Int32) else 0) = 0 then _ else _) _ = _
      rw [if_neg c1, if_pos rfl, lt_x]
