/-! buy, draw -/
theorem buy_f {B : Mem} {p1 p2 p3 c : Int32} (v1 v5 v9 : Int32) (h1 : f_X12_isHousehold B p1 = v1) (h5 : (if v1 = 0 then (0) else (lt (f_X12_isFirm B p2) (fun (v3 : Int32) => if v3 = 0 then (0) else (1)))) = v5) (h9 : (if v5 = 0 then (0) else (lt (f_X12_in B p3 1 (nI 20)) (fun (v7 : Int32) => if v7 = 0 then (0) else (1)))) = v9) (h16 : (if v5 = 0 then (1) else (if v9 = 0 then (nI 2) else (lt (f_X12_mayPay B p1 p2 (p3 * (B.2.1 kPrices (ix p2)))) (fun (v14 : Int32) => if v14 = 0 then (nI 3) else (0))))) = c) : (c ≠ 0 → f_X12_buy B p1 p2 p3 = (0, T0 B c)) ∧ (c = 0 → f_X12_buy B p1 p2 p3 = f_X12_pays ((T0 B 0).1, upd2 (T0 B 0).2.1 kBought (ix p2) ((T0 B 0).2.1 kBought (ix p2) + p3), (T0 B 0).2.2) p1 p2 (p3 * (upd2 (T0 B 0).2.1 kBought (ix p2) ((T0 B 0).2.1 kBought (ix p2) + p3) kPrices (ix p2))) 1) := by
  constructor
  · intro hc
    unfold f_X12_buy
    rw [h1, lt_x, h5, lt_x, h9, lt_x, h16, lt_x]
    exact tail_no hc _ _
  · intro hc
    subst hc
    unfold f_X12_buy
    rw [h1, lt_x, h5, lt_x, h9, lt_x, h16, lt_x, tail_yes, lt_x]
    exact pr2 _
theorem buy_k {B : Mem} {p1 p2 p3 c : Int32} (v1 v5 v9 : Int32) (h1 : f_X12_isHousehold B p1 = v1) (h5 : (if v1 = 0 then (0) else (lt (f_X12_isFirm B p2) (fun (v3 : Int32) => if v3 = 0 then (0) else (1)))) = v5) (h9 : (if v5 = 0 then (0) else (lt (f_X12_in B p3 1 (nI 20)) (fun (v7 : Int32) => if v7 = 0 then (0) else (1)))) = v9) (h16 : (if v5 = 0 then (1) else (if v9 = 0 then (nI 2) else (lt (f_X12_mayPay B p1 p2 (p3 * (B.2.1 kPrices (ix p2)))) (fun (v14 : Int32) => if v14 = 0 then (nI 3) else (0))))) = c) (hm : ¬ v5 = 0 → inb p2 16 ∧ ok_X12_mayPay B p1 p2 (p3 * (B.2.1 kPrices (ix p2)))) (hp : c = 0 → inb p2 16 ∧ inb p2 16 ∧ (∀ S22 : Mem, (((T0 B 0).1, upd2 (T0 B 0).2.1 kBought (ix p2) (((T0 B 0).2.1 kBought (ix p2)) + p3), (T0 B 0).2.2)) = S22 → ((inb p2 16) ∧ (ok_X12_pays S22 p1 p2 (p3 * (S22.2.1 kPrices (ix p2))) 1)))) : ok_X12_buy B p1 p2 p3 := by
  intro w1 e1 w5 e5 w9 e9
  rw [h1] at e1
  subst e1
  rw [h5] at e5
  subst e5
  rw [h9] at e9
  subst e9
  refine ⟨fun q _ => hm q, fun w16 e16 => ?_⟩
  rw [h16] at e16
  subst e16
  by_cases hc : c = 0
  · subst hc
    exact okt_yes (hp rfl)
  · exact okt_no hc
theorem buy_op {u : Int} {A B : Mem} (hu : u ≤ 5120000) (h : St u A.1 B.2.1) (p1 p2 p3 : Int32) : (okx_X11_buy_1 A p1 p2 p3 ∧ ok_X12_buy B p1 p2 p3 ∧ f_X12_buy B p1 p2 p3 = (0, T0 B 1)) ∨ (okx_X11_buy_2 A p1 p2 p3 ∧ ok_X12_buy B p1 p2 p3 ∧ f_X12_buy B p1 p2 p3 = (0, T0 B 1)) ∨ (okx_X11_buy_3 A p1 p2 p3 ∧ ok_X12_buy B p1 p2 p3 ∧ f_X12_buy B p1 p2 p3 = (0, T0 B (nI 2))) ∨ (okx_X11_buy_4 A p1 p2 p3 ∧ ok_X12_buy B p1 p2 p3 ∧ f_X12_buy B p1 p2 p3 = (0, T0 B (nI 3))) ∨ (ok_X11_buy A p1 p2 p3 ∧ ok_X12_buy B p1 p2 p3 ∧ Good u (f_X11_buy A p1 p2 p3) (f_X12_buy B p1 p2 p3)) := by
  rcases hou_cases p1 with ⟨b1, b2, b3⟩ | ⟨b1, b2⟩
  · have b16 : inb p1 16 := ⟨b1.1, by have := b1.2; omega⟩
    rcases frm_cases p2 with ⟨d1, d2, d3, d4⟩ | ⟨d1, d2⟩
    · have h5 : (if (1 : Int32) = 0 then (0) else (lt (f_X12_isFirm B p2) (fun (v3 : Int32) => if v3 = 0 then (0) else (1)))) = (1 : Int32) := by rw [if_neg c1, d4, l1]
      obtain ⟨m1, m2, m3⟩ := canPay_ok (m := p3 * (B.2.1 kPrices (ix p2))) h.1 h.2 b16 d1
      have sP : A.1 kPrices (f_X3_holder A p2) * p3 = p3 * (B.2.1 kPrices (ix p2)) := by
        rw [holder_in d1, h.1.sh kPrices _ d1.2, Int32.mul_comm]
      rcases rng_cases p3 1 (nI 20) with ⟨r1, r2, r3, r4⟩ | ⟨r1, r2⟩
      · have h9 : (if (1 : Int32) = 0 then (0) else (lt (f_X12_in B p3 1 (nI 20)) (fun (v7 : Int32) => if v7 = 0 then (0) else (1)))) = (1 : Int32) := by rw [if_neg c1, r4, l1]
        rcases m3 with m3 | ⟨m3, m4, m5, m6, m7⟩
        · have h16 : (if (1 : Int32) = 0 then (1) else (if (1 : Int32) = 0 then (nI 2) else (lt (f_X12_mayPay B p1 p2 (p3 * (B.2.1 kPrices (ix p2)))) (fun (v14 : Int32) => if v14 = 0 then (nI 3) else (0))))) = nI 3 := by rw [if_neg c1, if_neg c1, m3, l0]
          refine Or.inr (Or.inr (Or.inr (Or.inl ⟨⟨b2 A, d3 A, r3 A, fun v4 e4 => ?_⟩, buy_k 1 1 1 (b3 B) h5 h9 h16 (fun _ => ⟨d1, m2⟩) (fun q => absurd q c3), (buy_f 1 1 1 (b3 B) h5 h9 h16).1 c3⟩)))
          rw [sP, m1, m3] at e4
          exact e4.symm
        · have h16 : (if (1 : Int32) = 0 then (1) else (if (1 : Int32) = 0 then (nI 2) else (lt (f_X12_mayPay B p1 p2 (p3 * (B.2.1 kPrices (ix p2)))) (fun (v14 : Int32) => if v14 = 0 then (nI 3) else (0))))) = 0 := by rw [if_neg c1, if_neg c1, m3, l1]
          have hB := (buy_f 1 1 1 (b3 B) h5 h9 h16).2 rfl
          obtain ⟨S7, s1, s2, ⟨s3, s4⟩, -, -, s5⟩ := h.zero
          rw [s1] at hB
          rw [w_1] at r1
          have e20 : (nI 20).toInt = 20 := nI_toInt (by omega)
          obtain ⟨S8, hS8⟩ : ∃ z : Mem, ((S7.1, upd2 S7.2.1 kBought (ix p2) (S7.2.1 kBought (ix p2) + p3), S7.2.2) : Mem) = z := ⟨_, rfl⟩
          have e8 : S8.2.1 = upd2 S7.2.1 kBought (ix p2) (S7.2.1 kBought (ix p2) + p3) := by rw [← hS8]
          have o8 : ∀ k, k ≠ kBought → S8.2.1 k = S7.2.1 k := fun k hk => by
            rw [e8]
            exact u_ne hk
          have pr8 : S8.2.1 kPrices (ix p2) = B.2.1 kPrices (ix p2) := by rw [o8 kPrices (by decide), s5 kPrices (by decide)]
          have hB2 : f_X12_buy B p1 p2 p3 = f_X12_pays S8 p1 p2 (p3 * (B.2.1 kPrices (ix p2))) 1 := by
            rw [hB, hS8, show upd2 S7.2.1 kBought (ix p2) (S7.2.1 kBought (ix p2) + p3) kPrices (ix p2) = B.2.1 kPrices (ix p2) from s5 kPrices (by decide) ▸ rfl]
          obtain ⟨q1, q2⟩ := h.2.2.2.2.2.2.2.2.2.2.2 (ix p2) d2 d1.2
          have dd : (B.2.1 kDays 0).toInt ≤ 200 := h.2.2.2.2.2.2.2.2.2.1.2.1
          have hmul : 1 ≤ p3.toInt * (B.2.1 kPrices (ix p2)).toInt ∧ p3.toInt * (B.2.1 kPrices (ix p2)).toInt ≤ 20 * 210 := ⟨Int.le_trans (by omega) (Int.mul_le_mul r1 q1 (by omega) (by omega)), Int.mul_le_mul (by omega) (by omega) (by omega) (by omega)⟩
          have hm1 : 1 ≤ (p3 * (B.2.1 kPrices (ix p2))).toInt := by
            rw [imul_pos (by omega) (by omega) (by omega)]
            exact hmul.1
          have hsb : A.1 kBought (f_X3_holder A p2) = S7.2.1 kBought (ix p2) := by
            rw [holder_in d1]
            exact s3.sh kBought _ d1.2
          obtain ⟨A8, hA8⟩ : ∃ z : Mem, ((upd2 A.1 kBought (f_X3_holder A p2) (A.1 kBought (f_X3_holder A p2) + p3), A.2) : Mem) = z := ⟨_, rfl⟩
          have r8 : Rel A8.1 S8.2.1 0 := by
            rw [← hA8, e8, hsb, holder_in d1]
            exact s3.plain kBought (ix p2) (by decide) rfl
          have n8 : Num u u 171000000 S8.2.1 := by
            rw [e8]
            obtain ⟨nh, nu, np, nb, nv, nf, nl, nd, ns, nw, nq⟩ := s4
            exact ⟨nh, nu, np, nb, nv, nf, nl, nd, ns, nw, nq⟩
          have dA8 : A8.1 kDays 0 = S8.2.1 kDays 0 := r8.sh kDays 0 (by decide)
          obtain ⟨t1, t2, t3, t4, t5, -⟩ := tell_ok (m := p3 * (B.2.1 kPrices (ix p2))) (b := A8.1 kDays 0) (g := 1) (dy := A8.1 kDays 0) r8 n8 hu b16 d1 (fun q => by
            have h2 := b1.2
            rw [q] at h2
            omega) (by rw [o8 kBankOf (by decide), s5 kBankOf (by decide)]; exact m4) (by rw [o8 kBankOf (by decide), s5 kBankOf (by decide)]; exact m5) hm1 (by rw [o8 kAccounts (by decide), o8 kBlocked (by decide), s5 kAccounts (by decide), s5 kBlocked (by decide)]; exact m6) (by rw [o8 kPayments (by decide), s5 kPayments (by decide)]; exact m7) (Or.inr ⟨rfl, dA8⟩) dA8
          have eA : f_X11_buy A p1 p2 p3 = f_X10_tell A8 p1 p2 (p3 * (B.2.1 kPrices (ix p2))) (A8.1 kDays 0) (A8.1 kDays 0) := by
            rw [← sP, ← hA8]
            exact (lt_x _ _).trans ((lt_x _ _).trans (pr2 _))
          have t08 : S8.2.1 kThrown 0 = 0 := by
            rw [o8 kThrown (by decide)]
            exact s2
          refine Or.inr (Or.inr (Or.inr (Or.inr ⟨⟨b2 A, d3 A, r3 A, fun v4 e4 => ⟨?_, fun S6 e6 => ?_⟩⟩, buy_k 1 1 1 (b3 B) h5 h9 h16 (fun _ => ⟨d1, m2⟩) (fun _ => ⟨d1, d1, fun S22 e22 => ⟨d1, ?_⟩⟩), ?_⟩)))
          · rw [sP, m1, m3] at e4
            rw [← e4]
            exact c1
          · rw [hA8] at e6
            rw [← e6, sP]
            exact t1
          · rw [s1, hS8] at e22
            rw [← e22, pr8]
            exact t2
          · exact (Good.mk ((congrFun (gt_X12_pays S8 p1 p2 (p3 * (B.2.1 kPrices (ix p2))) 1) 0).trans t08) t3.symm t4 t5).of eA hB2
      · have h9 : (if (1 : Int32) = 0 then (0) else (lt (f_X12_in B p3 1 (nI 20)) (fun (v7 : Int32) => if v7 = 0 then (0) else (1)))) = (0 : Int32) := by rw [if_neg c1, r2, l0]
        have h16 : (if (1 : Int32) = 0 then (1) else (if (0 : Int32) = 0 then (nI 2) else (lt (f_X12_mayPay B p1 p2 (p3 * (B.2.1 kPrices (ix p2)))) (fun (v14 : Int32) => if v14 = 0 then (nI 3) else (0))))) = nI 2 := by rw [if_neg c1, if_pos rfl]
        exact Or.inr (Or.inr (Or.inl ⟨⟨b2 A, d3 A, r1 A⟩, buy_k 1 1 0 (b3 B) h5 h9 h16 (fun _ => ⟨d1, m2⟩) (fun q => absurd q c2), (buy_f 1 1 0 (b3 B) h5 h9 h16).1 c2⟩))
    · have h5 : (if (1 : Int32) = 0 then (0) else (lt (f_X12_isFirm B p2) (fun (v3 : Int32) => if v3 = 0 then (0) else (1)))) = (0 : Int32) := by rw [if_neg c1, d2, l0]
      have h9 : (if (0 : Int32) = 0 then (0) else (lt (f_X12_in B p3 1 (nI 20)) (fun (v7 : Int32) => if v7 = 0 then (0) else (1)))) = (0 : Int32) := if_pos rfl
      have h16 : (if (0 : Int32) = 0 then (1) else (if (0 : Int32) = 0 then (nI 2) else (lt (f_X12_mayPay B p1 p2 (p3 * (B.2.1 kPrices (ix p2)))) (fun (v14 : Int32) => if v14 = 0 then (nI 3) else (0))))) = 1 := if_pos rfl
      exact Or.inr (Or.inl ⟨⟨b2 A, d1 A⟩, buy_k 1 0 0 (b3 B) h5 h9 h16 (fun q => absurd rfl q) (fun q => absurd q c1), (buy_f 1 0 0 (b3 B) h5 h9 h16).1 c1⟩)
  · have h5 : (if (0 : Int32) = 0 then (0) else (lt (f_X12_isFirm B p2) (fun (v3 : Int32) => if v3 = 0 then (0) else (1)))) = (0 : Int32) := if_pos rfl
    have h9 : (if (0 : Int32) = 0 then (0) else (lt (f_X12_in B p3 1 (nI 20)) (fun (v7 : Int32) => if v7 = 0 then (0) else (1)))) = (0 : Int32) := if_pos rfl
    have h16 : (if (0 : Int32) = 0 then (1) else (if (0 : Int32) = 0 then (nI 2) else (lt (f_X12_mayPay B p1 p2 (p3 * (B.2.1 kPrices (ix p2)))) (fun (v14 : Int32) => if v14 = 0 then (nI 3) else (0))))) = 1 := if_pos rfl
    exact Or.inl ⟨b1 A, buy_k 0 0 0 (b2 B) h5 h9 h16 (fun q => absurd rfl q) (fun q => absurd q c1), (buy_f 0 0 0 (b2 B) h5 h9 h16).1 c1⟩
