/-! queries: owed -/
theorem owed_q {u : Int} {A B : Mem} (h : St u A.1 B.2.1) : ok_X11_owed A ∧ ok_X12_owed B ∧ Goq u A (f_X11_owed A) (f_X12_owed B) := by
  obtain ⟨S7, s1, s2, s3, -, -, s5⟩ := h.zero
  have hau : inb (S7.2.1 kAuctions 0) 21 := s3.2.2.2.2.2.2.1.1
  have eC := fun (o : Nat) (ho : o < 5) => of_C (o := o) s3.1 hau ho
  have eR := fun (o : Nat) (ho : o < 5) => of_R (B := S7) (o := o) hau ho
  have eA : f_X11_owed A = 0 + s32 (fun o => bonS S7.2.1 o) 5 := by
    unfold f_X11_owed
    rw [lt_x]
    refine s32_iter 0 5 (fun j hj σ => ?_)
    unfold b4_X11_owed
    rw [lt_x, (eC j hj).1]
  have eI : iter (b13_X12_owed S7) (bonS S7.2.1 4) 4 = bonS S7.2.1 4 + s32 (fun o => bonS S7.2.1 o) 4 := by
    refine s32_iter _ 4 (fun j hj σ => ?_)
    unfold b13_X12_owed
    rw [lt_x, (eR j (by omega)).1]
  have eB : f_X12_owed B = (bonS S7.2.1 4 + s32 (fun o => bonS S7.2.1 o) 4, S7) := by
    unfold f_X12_owed
    rw [show ((B.1, upd2 B.2.1 kThrown 0 0, B.2.2) : Mem) = S7 from s1, lt_x, (eR 4 (by omega)).1, lt_x, eI, lt_x]
  refine ⟨fun j hj σ e => (eC j hj).2, fun S1 e1 => ?_, ?_⟩
  · rw [show ((B.1, upd2 B.2.1 kThrown 0 0, B.2.2) : Mem) = S7 from s1] at e1
    subst e1
    exact ⟨(eR 4 (by omega)).2, fun v3 _ j hj σ _ => (eR j (by omega)).2⟩
  · rw [eB]
    refine ⟨s2, ?_, s3⟩
    rw [eA]
    have e5 : s32 (fun o => bonS S7.2.1 o) 5 = s32 (fun o => bonS S7.2.1 o) 4 + bonS S7.2.1 4 := rfl
    rw [e5]
    show bonS S7.2.1 4 + s32 (fun o => bonS S7.2.1 o) 4 = _
    grind
