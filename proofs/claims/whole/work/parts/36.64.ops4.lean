/-! pay, buy, draw -/
theorem two_hol {p1 p2 : Int32} : (inb p1 16 ∧ inb p2 16 ∧ (∀ S, ok_X11_needHolder S p1) ∧ (∀ S, ok_X11_needHolder S p2) ∧ ∀ S, f_X12_isHolder S p1 = 1 ∧ f_X12_isHolder S p2 = 1) ∨ ((∀ S, okx_X11_needHolder_1 S p1) ∧ ∀ S, f_X12_isHolder S p1 = 0) ∨ ((∀ S, ok_X11_needHolder S p1) ∧ (∀ S, okx_X11_needHolder_1 S p2) ∧ ∀ S, f_X12_isHolder S p1 = 1 ∧ f_X12_isHolder S p2 = 0) := by
  rcases hol_cases p1 with ⟨b1, b2, b3⟩ | ⟨b1, b2⟩
  · rcases hol_cases p2 with ⟨d1, d2, d3⟩ | ⟨d1, d2⟩
    · exact Or.inl ⟨b1, d1, b2, d2, fun S => ⟨b3 S, d3 S⟩⟩
    · exact Or.inr (Or.inr ⟨b2, d1, fun S => ⟨b3 S, d2 S⟩⟩)
  · exact Or.inr (Or.inl ⟨b1, b2⟩)
theorem pay_f {B : Mem} {p1 p2 p3 c : Int32} (v1 v5 v10 : Int32) (h1 : f_X12_isHolder B p1 = v1) (h5 : (if v1 = 0 then (0) else (lt (f_X12_isHolder B p2) (fun (v3 : Int32) => if v3 = 0 then (0) else (1)))) = v5) (h10 : (if v5 = 0 then (0) else (if p1 = p2 then (0) else (lt (f_X12_in B p3 1 (nI 10000)) (fun (v8 : Int32) => if v8 = 0 then (0) else (1))))) = v10) (h16 : (if v5 = 0 then (1) else (if v10 = 0 then (nI 2) else (lt (f_X12_mayPay B p1 p2 p3) (fun (v14 : Int32) => if v14 = 0 then (nI 3) else (0))))) = c) : (c ≠ 0 → f_X12_pay B p1 p2 p3 = (0, T0 B c)) ∧ (c = 0 → f_X12_pay B p1 p2 p3 = f_X12_pays (T0 B 0) p1 p2 p3 0) := by
  constructor
  · intro hc
    unfold f_X12_pay
    rw [h1, lt_x, h5, lt_x, h10, lt_x, h16, lt_x]
    exact tail2_no hc (fun S => f_X12_pays S p1 p2 p3 0)
  · intro hc
    subst hc
    unfold f_X12_pay
    rw [h1, lt_x, h5, lt_x, h10, lt_x, h16, lt_x]
    exact tail2_yes (fun S => f_X12_pays S p1 p2 p3 0)
theorem pay_k {B : Mem} {p1 p2 p3 c : Int32} (v1 v5 v10 : Int32) (h1 : f_X12_isHolder B p1 = v1) (h5 : (if v1 = 0 then (0) else (lt (f_X12_isHolder B p2) (fun (v3 : Int32) => if v3 = 0 then (0) else (1)))) = v5) (h10 : (if v5 = 0 then (0) else (if p1 = p2 then (0) else (lt (f_X12_in B p3 1 (nI 10000)) (fun (v8 : Int32) => if v8 = 0 then (0) else (1))))) = v10) (h16 : (if v5 = 0 then (1) else (if v10 = 0 then (nI 2) else (lt (f_X12_mayPay B p1 p2 p3) (fun (v14 : Int32) => if v14 = 0 then (nI 3) else (0))))) = c) (hm : ¬ v5 = 0 → ok_X12_mayPay B p1 p2 p3) (hp : c = 0 → ok_X12_pays (T0 B 0) p1 p2 p3 0) : ok_X12_pay B p1 p2 p3 := by
  intro w1 e1 w5 e5 w10 e10
  rw [h1] at e1
  subst e1
  rw [h5] at e5
  subst e5
  rw [h10] at e10
  subst e10
  refine ⟨fun q _ => hm q, fun w16 e16 => ?_⟩
  rw [h16] at e16
  subst e16
  by_cases hc : c = 0
  · subst hc
    exact okt_yes (hp rfl)
  · exact okt_no hc
theorem pay_op {u : Int} {A B : Mem} (hu : u ≤ 5120000) (h : St u A.1 B.2.1) (p1 p2 p3 : Int32) : (okx_X11_pay_1 A p1 p2 p3 ∧ ok_X12_pay B p1 p2 p3 ∧ f_X12_pay B p1 p2 p3 = (0, T0 B 1)) ∨ (okx_X11_pay_2 A p1 p2 p3 ∧ ok_X12_pay B p1 p2 p3 ∧ f_X12_pay B p1 p2 p3 = (0, T0 B 1)) ∨ (okx_X11_pay_3 A p1 p2 p3 ∧ ok_X12_pay B p1 p2 p3 ∧ f_X12_pay B p1 p2 p3 = (0, T0 B (nI 2))) ∨ (okx_X11_pay_4 A p1 p2 p3 ∧ ok_X12_pay B p1 p2 p3 ∧ f_X12_pay B p1 p2 p3 = (0, T0 B (nI 2))) ∨ (okx_X11_pay_5 A p1 p2 p3 ∧ ok_X12_pay B p1 p2 p3 ∧ f_X12_pay B p1 p2 p3 = (0, T0 B (nI 3))) ∨ (ok_X11_pay A p1 p2 p3 ∧ ok_X12_pay B p1 p2 p3 ∧ Good u (f_X11_pay A p1 p2 p3) (f_X12_pay B p1 p2 p3)) := by
  rcases two_hol (p1 := p1) (p2 := p2) with ⟨b1, d1, b2, d2, bd⟩ | ⟨b1, b2⟩ | ⟨b1, d1, bd⟩
  · have h5 : (if (1 : Int32) = 0 then (0) else (lt (f_X12_isHolder B p2) (fun (v3 : Int32) => if v3 = 0 then (0) else (1)))) = (1 : Int32) := by rw [if_neg c1, (bd B).2, l1]
    obtain ⟨m1, m2, m3⟩ := canPay_ok (m := p3) h.1 h.2 b1 d1
    by_cases e : p1 = p2
    · have h10 : (if (1 : Int32) = 0 then (0) else (if p1 = p2 then (0) else (lt (f_X12_in B p3 1 (nI 10000)) (fun (v8 : Int32) => if v8 = 0 then (0) else (1))))) = (0 : Int32) := by rw [if_neg c1, if_pos e]
      have h16 : (if (1 : Int32) = 0 then (1) else (if (0 : Int32) = 0 then (nI 2) else (lt (f_X12_mayPay B p1 p2 p3) (fun (v14 : Int32) => if v14 = 0 then (nI 3) else (0))))) = nI 2 := by rw [if_neg c1, if_pos rfl]
      refine Or.inr (Or.inr (Or.inl ⟨⟨b2 A, d2 A, fun v4 e4 => ?_⟩, pay_k 1 1 0 (bd B).1 h5 h10 h16 (fun _ => m2) (fun q => absurd q c2), (pay_f 1 1 0 (bd B).1 h5 h10 h16).1 c2⟩))
      rw [if_pos e] at e4
      exact e4.symm
    · have v4' : ∀ v4 : Int32, (if p1 = p2 then (0) else (1)) = v4 → ok_X11_needArgument A v4 := fun v4 e4 => by
        rw [if_neg e] at e4
        rw [← e4]
        exact c1
      rcases rng_cases p3 1 (nI 10000) with ⟨r1, r2, r3, r4⟩ | ⟨r1, r2⟩
      · have h10 : (if (1 : Int32) = 0 then (0) else (if p1 = p2 then (0) else (lt (f_X12_in B p3 1 (nI 10000)) (fun (v8 : Int32) => if v8 = 0 then (0) else (1))))) = (1 : Int32) := by rw [if_neg c1, if_neg e, r4, l1]
        rcases m3 with m3 | ⟨m3, m4, m5, m6, m7⟩
        · have h16 : (if (1 : Int32) = 0 then (1) else (if (1 : Int32) = 0 then (nI 2) else (lt (f_X12_mayPay B p1 p2 p3) (fun (v14 : Int32) => if v14 = 0 then (nI 3) else (0))))) = nI 3 := by rw [if_neg c1, if_neg c1, m3, l0]
          refine Or.inr (Or.inr (Or.inr (Or.inr (Or.inl ⟨⟨b2 A, d2 A, fun v4 e4 => ⟨v4' v4 e4, r3 A, fun v7 e7 => ?_⟩⟩, pay_k 1 1 1 (bd B).1 h5 h10 h16 (fun _ => m2) (fun q => absurd q c3), (pay_f 1 1 1 (bd B).1 h5 h10 h16).1 c3⟩))))
          rw [m1, m3] at e7
          exact e7.symm
        · have h16 : (if (1 : Int32) = 0 then (1) else (if (1 : Int32) = 0 then (nI 2) else (lt (f_X12_mayPay B p1 p2 p3) (fun (v14 : Int32) => if v14 = 0 then (nI 3) else (0))))) = 0 := by rw [if_neg c1, if_neg c1, m3, l1]
          obtain ⟨S7, s1, s2, ⟨s3, s4⟩, -, -, s5⟩ := h.zero
          rw [w_1] at r1
          obtain ⟨t1, t2, t3, t4, t5, -⟩ := tell_ok (m := p3) (b := -1) (g := 0) (dy := A.1 kDays 0) s3 s4 hu b1 d1 e (by rw [s5 kBankOf (by decide)]; exact m4) (by rw [s5 kBankOf (by decide)]; exact m5) r1 (by rw [s5 kAccounts (by decide), s5 kBlocked (by decide)]; exact m6) (by rw [s5 kPayments (by decide)]; exact m7) (Or.inl ⟨rfl, rfl⟩) (s3.sh kDays 0 (by decide))
          have eB : f_X12_pay B p1 p2 p3 = f_X12_pays S7 p1 p2 p3 0 := by
            rw [(pay_f 1 1 1 (bd B).1 h5 h10 h16).2 rfl, s1]
          refine Or.inr (Or.inr (Or.inr (Or.inr (Or.inr ⟨⟨b2 A, d2 A, fun v4 e4 => ⟨v4' v4 e4, r3 A, fun v7 e7 => ⟨?_, t1⟩⟩⟩, pay_k 1 1 1 (bd B).1 h5 h10 h16 (fun _ => m2) (fun _ => by rw [s1]; exact t2), ?_⟩))))
          · rw [m1, m3] at e7
            rw [← e7]
            exact c1
          · exact (Good.mk ((congrFun (gt_X12_pays S7 p1 p2 p3 0) 0).trans s2) t3.symm t4 t5).of ((lt_x _ _).trans ((lt_x _ _).trans (pr2 _))) eB
      · have h10 : (if (1 : Int32) = 0 then (0) else (if p1 = p2 then (0) else (lt (f_X12_in B p3 1 (nI 10000)) (fun (v8 : Int32) => if v8 = 0 then (0) else (1))))) = (0 : Int32) := by rw [if_neg c1, if_neg e, r2, l0]
        have h16 : (if (1 : Int32) = 0 then (1) else (if (0 : Int32) = 0 then (nI 2) else (lt (f_X12_mayPay B p1 p2 p3) (fun (v14 : Int32) => if v14 = 0 then (nI 3) else (0))))) = nI 2 := by rw [if_neg c1, if_pos rfl]
        exact Or.inr (Or.inr (Or.inr (Or.inl ⟨⟨b2 A, d2 A, fun v4 e4 => ⟨v4' v4 e4, r1 A⟩⟩, pay_k 1 1 0 (bd B).1 h5 h10 h16 (fun _ => m2) (fun q => absurd q c2), (pay_f 1 1 0 (bd B).1 h5 h10 h16).1 c2⟩)))
  · have h5 : (if (0 : Int32) = 0 then (0) else (lt (f_X12_isHolder B p2) (fun (v3 : Int32) => if v3 = 0 then (0) else (1)))) = (0 : Int32) := if_pos rfl
    have h10 : (if (0 : Int32) = 0 then (0) else (if p1 = p2 then (0) else (lt (f_X12_in B p3 1 (nI 10000)) (fun (v8 : Int32) => if v8 = 0 then (0) else (1))))) = (0 : Int32) := if_pos rfl
    have h16 : (if (0 : Int32) = 0 then (1) else (if (0 : Int32) = 0 then (nI 2) else (lt (f_X12_mayPay B p1 p2 p3) (fun (v14 : Int32) => if v14 = 0 then (nI 3) else (0))))) = 1 := if_pos rfl
    exact Or.inl ⟨b1 A, pay_k 0 0 0 (b2 B) h5 h10 h16 (fun q => absurd rfl q) (fun q => absurd q c1), (pay_f 0 0 0 (b2 B) h5 h10 h16).1 c1⟩
  · have h5 : (if (1 : Int32) = 0 then (0) else (lt (f_X12_isHolder B p2) (fun (v3 : Int32) => if v3 = 0 then (0) else (1)))) = (0 : Int32) := by rw [if_neg c1, (bd B).2, l0]
    have h10 : (if (0 : Int32) = 0 then (0) else (if p1 = p2 then (0) else (lt (f_X12_in B p3 1 (nI 10000)) (fun (v8 : Int32) => if v8 = 0 then (0) else (1))))) = (0 : Int32) := if_pos rfl
    have h16 : (if (0 : Int32) = 0 then (1) else (if (0 : Int32) = 0 then (nI 2) else (lt (f_X12_mayPay B p1 p2 p3) (fun (v14 : Int32) => if v14 = 0 then (nI 3) else (0))))) = 1 := if_pos rfl
    exact Or.inr (Or.inl ⟨⟨b1 A, d1 A⟩, pay_k 1 0 0 (bd B).1 h5 h10 h16 (fun q => absurd rfl q) (fun q => absurd q c1), (pay_f 1 0 0 (bd B).1 h5 h10 h16).1 c1⟩)
