/-! queries: accountAnew, payment, treasury, foreign, central, centralAnew, money, sales -/
theorem sum_ok {A : Mem} {x : Int32} (h : LogI A.1) : ok_X8_sumOf A x := by
  obtain ⟨⟨n, hn, hc⟩, -⟩ := h
  have en : ix (A.1 kLogCount 0) = n := by rw [hc, ix_nI (by omega)]
  have e : A.1 kLogCount 0 = nI (ix (A.1 kLogCount 0)) := by rw [en, hc]
  intro v3 _
  exact ⟨fun j hj σ _ => e, fun j hj σ _ _ _ => ⟨by omega, fun _ => by omega⟩⟩
theorem sum_go {A : Mem} {o : Nat} (h : LogI A.1) (ho : o < 17) : f_X8_sumOf A (nI o) = logSum A.1 o := by
  obtain ⟨⟨n, hn, hc⟩, -⟩ := h
  exact sumOf_eq ho hn hc
theorem accountAnew_q {u : Int} {A B : Mem} (h : St u A.1 B.2.1) (p1 : Int32) : (okx_X11_accountAnew_1 A p1 ∧ ok_X12_accountAnew B p1 ∧ f_X12_accountAnew B p1 = (0, T0 B 1)) ∨ (ok_X11_accountAnew A p1 ∧ ok_X12_accountAnew B p1 ∧ Goq u A (f_X11_accountAnew A p1) (f_X12_accountAnew B p1)) := by
  rcases hol_cases p1 with ⟨b1, b2, b3⟩ | ⟨b1, b2⟩
  · obtain ⟨S7, s1, s2, s3, -, -, s5⟩ := h.zero
    have eB : f_X12_accountAnew B p1 = (S7.2.1 kAccounts (ix p1), S7) := by
      unfold f_X12_accountAnew
      rw [b3, lt_x, if_neg c1, lt_x, holds_eq, lt_x, lt_x, s1]
      show lt (if (if (0 : Int32) = 0 then (1 : Int32) else 0) = 0 then _ else _) _ = _
      rw [if_pos rfl, if_neg c1, lt_x]
    refine Or.inr ⟨⟨b2 A, sum_ok h.1.2.1⟩, fun v1 _ v3 _ S4 _ v5 _ _ => b1, ?_⟩
    rw [eB]
    refine ⟨s2, ?_, s3⟩
    unfold f_X11_accountAnew
    have eS : f_X8_sumOf A p1 = logSum A.1 (ix p1) := by
      have := sum_go h.1.2.1 (o := ix p1) (by have := b1.2; omega)
      rw [← b1.1] at this
      exact this
    rw [lt_x, eS]
    exact (s3.1.2.2.1 (ix p1) b1.2).symm
  · refine Or.inl ⟨b1 A, ?_, ?_⟩
    · intro v1 e1 v3 e3
      rw [b2] at e1
      subst e1
      rw [if_pos rfl] at e3
      subst e3
      exact okt_no c1
    · unfold f_X12_accountAnew
      rw [b2, lt_x, if_pos rfl, lt_x, holds_eq, lt_x, lt_x]
      show lt (if (if (1 : Int32) = 0 then (1 : Int32) else 0) = 0 then _ else _) _ = _
      rw [if_neg c1, if_pos rfl, lt_x]
theorem payment_q {u : Int} {A B : Mem} (h : St u A.1 B.2.1) (p1 : Int32) : (okx_X11_payment_1 A p1 ∧ ok_X12_payment B p1 ∧ f_X12_payment B p1 = (0, T0 B 1)) ∨ (ok_X11_payment A p1 ∧ ok_X12_payment B p1 ∧ Goq u A (f_X11_payment A p1) (f_X12_payment B p1)) := by
  have sL : A.1 kPayments 0 = B.2.1 kPayments 0 := h.1.sh kPayments 0 (by decide)
  have hl : inb (B.2.1 kPayments 0) 201 := h.2.2.2.1.1
  have t := inb_toInt hl
  have t2 := hl.2
  have e1 : (B.2.1 kPayments 0 - 1).toInt + 1 = (B.2.1 kPayments 0).toInt := by
    rw [w_sub, w_1]
    omega
  rcases ind_cases p1 0 (B.2.1 kPayments 0 - 1) (B.2.1 kPayments 0) e1 with ⟨h1, h2, h3, h4⟩ | ⟨h1, h2⟩
  · rw [w_0] at h1
    have b1 : inb p1 200 := (inb_iff (by omega)).mpr ⟨h1, by omega⟩
    obtain ⟨S7, s1, s2, s3, -, -, s5⟩ := h.zero
    have eB : f_X12_payment B p1 = (S7.2.1 kStates (ix p1), S7) := by
      unfold f_X12_payment
      rw [h4, lt_x, if_neg c1, lt_x, holds_eq, lt_x, lt_x, s1]
      show lt (if (if (0 : Int32) = 0 then (1 : Int32) else 0) = 0 then _ else _) _ = _
      rw [if_pos rfl, if_neg c1, lt_x]
    refine Or.inr ⟨fun v3 e3 => ?_, fun v1 _ v3 _ S4 _ v5 _ _ => b1, ?_⟩
    · rw [sL] at e3
      exact h3 v3 e3
    rw [eB]
    refine ⟨s2, ?_, s3⟩
    unfold f_X11_payment
    rw [lt_x, at10_in b1]
    exact (s3.1.sh kStates _ b1.2).symm
  · refine Or.inl ⟨?_, ?_, ?_⟩
    · intro v3 e3
      rw [sL] at e3
      exact h1 v3 e3
    · intro v1 e1 v3 e3
      rw [h2] at e1
      subst e1
      rw [if_pos rfl] at e3
      subst e3
      exact okt_no c1
    · unfold f_X12_payment
      rw [h2, lt_x, if_pos rfl, lt_x, holds_eq, lt_x, lt_x]
      show lt (if (if (1 : Int32) = 0 then (1 : Int32) else 0) = 0 then _ else _) _ = _
      rw [if_neg c1, if_pos rfl, lt_x]
theorem treasury_q {u : Int} {A B : Mem} (h : St u A.1 B.2.1) : Goq u A (f_X11_treasury A) (f_X12_treasury B) := by
  obtain ⟨S7, s1, s2, s3, -, -, s5⟩ := h.zero
  have eB : f_X12_treasury B = (S7.2.1 kTreasury 0, S7) := by
    unfold f_X12_treasury
    rw [show ((B.1, upd2 B.2.1 kThrown 0 0, B.2.2) : Mem) = S7 from s1, lt_x]
  rw [eB]
  exact ⟨s2, (s3.1.sh kTreasury 0 (by decide)).symm, s3⟩
theorem foreign_q {u : Int} {A B : Mem} (h : St u A.1 B.2.1) : Goq u A (f_X11_foreign A) (f_X12_foreign B) := by
  obtain ⟨S7, s1, s2, s3, -, -, s5⟩ := h.zero
  have eB : f_X12_foreign B = (S7.2.1 kForeign 0, S7) := by
    unfold f_X12_foreign
    rw [show ((B.1, upd2 B.2.1 kThrown 0 0, B.2.2) : Mem) = S7 from s1, lt_x]
  rw [eB]
  exact ⟨s2, (s3.1.sh kForeign 0 (by decide)).symm, s3⟩
theorem s32_neg16 (f : Nat → Int32) : s32 (fun i => 0 - f i) 16 = 0 - s32 f 16 := by
  have h := s32_sub (fun _ => 0) f 16
  rw [h]
  rfl
theorem capR_R {B : Mem} (hau : inb (B.2.1 kAuctions 0) 21) (hlo : inb (B.2.1 kLoans 0) 21) : f_X12_centralCapital B = capR B.2.1 ∧ ok_X12_centralCapital B := by
  refine ⟨?_, (of_R hau (by omega)).2, fun v2 _ => (left_R hlo).2⟩
  unfold f_X12_centralCapital
  rw [lt_x, (of_R hau (show 4 < 5 by omega)).1, lt_x, (left_R hlo).1, lt_x, lt_x]
  have e1 : iter (b24_X12_centralCapital B) (((bonS B.2.1 4 + loaS B.2.1 (nI 4)) + (B.2.1 kForeignCost 0)) - (B.2.1 kTreasury 0)) 4 = (((bonS B.2.1 4 + loaS B.2.1 (nI 4)) + (B.2.1 kForeignCost 0)) - (B.2.1 kTreasury 0)) + s32 (fun k => B.2.1 kLent k - B.2.1 kReserves k - B.2.1 kVaults k) 4 := s32_iter _ 4 (fun j hj σ => rfl)
  rw [e1]
  have e2 : ∀ a, iter (b60_X12_centralCapital B) a 16 = a + s32 (fun k => 0 - (B.2.1 kNotes k - B.2.1 kForged k)) 16 := fun a => s32_iter a 16 (fun j hj σ => by
    unfold b60_X12_centralCapital
    grind)
  rw [e2, s32_neg16 (fun k => B.2.1 kNotes k - B.2.1 kForged k)]
  unfold capR
  grind
theorem good_C {A : Mem} {R : Col} {d : Int32} (h : Rel A.1 R d) : f_X3_goodNotesOfHolders A = s32 (fun k => R kNotes k - R kForged k) 16 := by
  unfold f_X3_goodNotesOfHolders
  rw [lt_x]
  have e : iter (b4_X3_goodNotesOfHolders A) 0 16 = 0 + s32 (fun k => R kNotes k - R kForged k) 16 := s32_iter 0 16 (fun j hj σ => by
    unfold b4_X3_goodNotesOfHolders
    rw [holder_nI hj, h.sh kNotes j (show j < 16 by omega), h.sh kForged j (show j < 16 by omega)])
  rw [e]
  grind
theorem central_C {A : Mem} {R : Col} {d : Int32} (h : Rel A.1 R d) (hau : inb (R kAuctions 0) 21) (hlo : inb (R kLoans 0) 21) : f_X11_central A = capR R ∧ ok_X11_central A := by
  refine ⟨?_, (of_C h hau (by omega)).2, fun v2 _ => (left_C h hlo).2⟩
  unfold f_X11_central
  rw [lt_x, (of_C h hau (show 4 < 5 by omega)).1, lt_x, (left_C h hlo).1, lt_x, good_C h, lt_x]
  have e : ∀ (a b : Int32) (n : Nat), n ≤ 4 → iter (b50_X11_central A) (a, b) n = (a + s32 (fun k => R kLent k) n, b + s32 (fun k => R kReserves k + R kVaults k) n) := fun a b n hn => iter1 (f := b50_X11_central A) (fun n x => x = (a + s32 (fun k => R kLent k) n, b + s32 (fun k => R kReserves k + R kVaults k) n)) (n := 4) (by
      show (a, b) = (a + 0, b + 0)
      rw [show a + 0 = a by grind, show b + 0 = b by grind]) (fun j hj x hx => by
      rw [hx]
      unfold b50_X11_central
      rw [bank_nI hj, h.sh kLent j hj, h.sh kReserves j hj, h.sh kVaults j hj]
      show _ = (a + (s32 (fun k => R kLent k) j + R kLent j), b + (s32 (fun k => R kReserves k + R kVaults k) j + (R kReserves j + R kVaults j)))
      refine Prod.ext ?_ ?_
      · show a + s32 (fun k => R kLent k) j + R kLent j = _
        grind
      · show b + s32 (fun k => R kReserves k + R kVaults k) j + (R kReserves j + R kVaults j) = _
        grind) n hn
  rw [e _ _ 4 (Nat.le_refl _), h.sh kForeignCost 0 (by decide), h.sh kTreasury 0 (by decide)]
  have e3 : s32 (fun k => R kLent k - R kReserves k - R kVaults k) 4 = s32 (fun k => R kLent k) 4 - s32 (fun k => R kReserves k + R kVaults k) 4 := by
    rw [← s32_sub]
    exact s32_congr 4 (fun i _ => by grind)
  unfold capR
  rw [e3]
  grind
theorem central_q {u : Int} {A B : Mem} (h : St u A.1 B.2.1) : ok_X11_central A ∧ ok_X12_central B ∧ Goq u A (f_X11_central A) (f_X12_central B) := by
  obtain ⟨S7, s1, s2, s3, -, -, s5⟩ := h.zero
  have hau : inb (S7.2.1 kAuctions 0) 21 := s3.2.2.2.2.2.2.1.1
  have hlo : inb (S7.2.1 kLoans 0) 21 := s3.2.2.2.2.2.2.2.1.1
  obtain ⟨q1, q2⟩ := central_C s3.1 hau hlo
  obtain ⟨q3, q4⟩ := capR_R hau hlo
  have eB : f_X12_central B = (capR S7.2.1, S7) := by
    unfold f_X12_central
    rw [show ((B.1, upd2 B.2.1 kThrown 0 0, B.2.2) : Mem) = S7 from s1, lt_x, lt_x, q3]
  refine ⟨q2, fun S1 e1 => ?_, ?_⟩
  · rw [show ((B.1, upd2 B.2.1 kThrown 0 0, B.2.2) : Mem) = S7 from s1] at e1
    subst e1
    exact q4
  · rw [eB]
    exact ⟨s2, q1.symm, s3⟩
theorem centralAnew_q {u : Int} {A B : Mem} (h : St u A.1 B.2.1) : ok_X11_centralAnew A ∧ ok_X12_centralAnew B ∧ Goq u A (f_X11_centralAnew A) (f_X12_centralAnew B) := by
  obtain ⟨S7, s1, s2, s3, -, -, s5⟩ := h.zero
  have hau : inb (S7.2.1 kAuctions 0) 21 := s3.2.2.2.2.2.2.1.1
  have hlo : inb (S7.2.1 kLoans 0) 21 := s3.2.2.2.2.2.2.2.1.1
  obtain ⟨q3, q4⟩ := capR_R hau hlo
  have eB : f_X12_centralAnew B = (capR S7.2.1, S7) := by
    unfold f_X12_centralAnew
    rw [show ((B.1, upd2 B.2.1 kThrown 0 0, B.2.2) : Mem) = S7 from s1, lt_x, lt_x, q3]
  refine ⟨sum_ok s3.1.2.1, fun S1 e1 => ?_, ?_⟩
  · rw [show ((B.1, upd2 B.2.1 kThrown 0 0, B.2.2) : Mem) = S7 from s1] at e1
    subst e1
    exact q4
  · rw [eB]
    refine ⟨s2, ?_, s3⟩
    unfold f_X11_centralAnew
    have e := s3.1.2.2.2.1
    rw [lt_x, sum_go s3.1.2.1 (by omega), e]
    show capR S7.2.1 = capR S7.2.1 + 0
    grind
theorem money_q {u : Int} {A B : Mem} (h : St u A.1 B.2.1) : Goq u A (f_X11_money A) (f_X12_money B) := by
  obtain ⟨S7, s1, s2, s3, -, -, s5⟩ := h.zero
  have e1 : iter (b9_X12_money S7) 0 16 = 0 + s32 (fun k => S7.2.1 kAccounts k + S7.2.1 kNotes k - S7.2.1 kForged k) 16 := s32_iter 0 16 (fun j hj σ => rfl)
  have eB : f_X12_money B = (0 + s32 (fun k => S7.2.1 kAccounts k + S7.2.1 kNotes k - S7.2.1 kForged k) 16, S7) := by
    unfold f_X12_money
    rw [show ((B.1, upd2 B.2.1 kThrown 0 0, B.2.2) : Mem) = S7 from s1, lt_x, e1, lt_x]
  have e2 : ∀ a, iter (b10_X11_money A) a 16 = a + s32 (fun k => S7.2.1 kAccounts k) 16 := fun a => s32_iter a 16 (fun j hj σ => by
    unfold b10_X11_money
    rw [holder_nI hj, s3.1.sh kAccounts j (show j < 16 by omega)])
  have eA : f_X11_money A = s32 (fun k => S7.2.1 kNotes k - S7.2.1 kForged k) 16 + s32 (fun k => S7.2.1 kAccounts k) 16 := by
    unfold f_X11_money
    rw [good_C s3.1, lt_x, lt_x, e2]
  rw [eB]
  refine ⟨s2, ?_, s3⟩
  rw [eA, ← s32_add]
  show 0 + s32 _ 16 = _
  rw [s32_congr (g := fun i => S7.2.1 kNotes i - S7.2.1 kForged i + S7.2.1 kAccounts i) 16 (fun i _ => by grind)]
  grind
theorem sold_row {st ag dd td cb am p1 p2 : Int32} (hp : 0 ≤ p1.toInt) (h : (ag = 0 ∧ cb = -1) ∨ (ag = 1 ∧ cb = td ∧ 0 ≤ td.toInt)) : (if (if st = 1 then (if p2 = 0 then (if dd = p1 then (1 : Int32) else 0) else 1) else 0) = 0 then (0 : Int32) else (if cb = p1 then am else 0)) = (if (if ag = 0 then (0 : Int32) else (if st = 1 then (if td = p1 then (if p2 = 0 then (if dd = p1 then (1) else (0)) else (1)) else (0)) else (0))) = 0 then 0 else am) := by
  rcases h with ⟨h1, h2⟩ | ⟨h1, h2, -⟩
  · have hne : ¬ (-1 : Int32) = p1 := by
      intro q
      rw [← q, w_m1] at hp
      omega
    rw [h1, h2, if_neg hne, if_pos rfl, if_pos rfl]
    exact ite_self _
  · rw [h1, h2, if_neg c1]
    by_cases a1 : st = 1
    · rw [if_pos a1, if_pos a1]
      by_cases a2 : td = p1
      · rw [if_pos a2, if_pos a2]
      · rw [if_neg a2, if_neg a2, if_pos rfl]
        exact ite_self _
    · rw [if_neg a1, if_neg a1, if_pos rfl, if_pos rfl]
theorem sales_k {B : Mem} {p1 p2 c : Int32} (v1 : Int32) (h1 : f_X12_in B p1 0 (B.2.1 kDays 0) = v1) (h5 : (if v1 = 0 then (1 : Int32) else (0)) = c) (hc : c ≠ 0) : ok_X12_sales B p1 p2 ∧ f_X12_sales B p1 p2 = (0, T0 B c) := by
  constructor
  · intro w1 e1 w5 e5
    rw [h1] at e1
    subst e1
    rw [h5] at e5
    subst e5
    exact okt_no hc
  · unfold f_X12_sales
    rw [h1, lt_x, h5, lt_x, tail_no hc]
theorem sales_q {u : Int} {A B : Mem} (h : St u A.1 B.2.1) (p1 p2 : Int32) : (okx_X11_sales_1 A p1 p2 ∧ ok_X12_sales B p1 p2 ∧ f_X12_sales B p1 p2 = (0, T0 B 1)) ∨ (ok_X11_sales A p1 p2 ∧ ok_X12_sales B p1 p2 ∧ Goq u A (f_X11_sales A p1 p2) (f_X12_sales B p1 p2)) := by
  have sD : A.1 kDays 0 = B.2.1 kDays 0 := h.1.sh kDays 0 (by decide)
  rcases rng_cases p1 0 (B.2.1 kDays 0) with ⟨r1, r2, r3, r4⟩ | ⟨r1, r2⟩
  · obtain ⟨S7, s1, s2, s3, -, -, s5⟩ := h.zero
    rw [w_0] at r1
    have hp : zP (S7.2.1 kPayments) (S7.2.1 kFroms) (S7.2.1 kTos) (S7.2.1 kStates) (S7.2.1 kAmounts) (S7.2.1 kBankOf) (S7.2.1 kBlocked) := s3.2.2.2.1
    have sP : A.1 kPayments 0 = S7.2.1 kPayments 0 := s3.1.sh kPayments 0 (by decide)
    have hm := hp.1.2
    have hG : zBo (A.1 kBoughtOn) (S7.2.1 kAreGoods) (S7.2.1 kToldDays) (S7.2.1 kPayments) := s3.1.2.2.2.2.2.1
    obtain ⟨F, hF1⟩ : ∃ F : Nat → Int32, F = fun j => (if (if S7.2.1 kAreGoods j = 0 then (0 : Int32) else (if S7.2.1 kStates j = 1 then (if S7.2.1 kToldDays j = p1 then (if p2 = 0 then (if S7.2.1 kDoneDays j = p1 then (1) else (0)) else (1)) else (0)) else (0))) = 0 then 0 else S7.2.1 kAmounts j) := ⟨_, rfl⟩
    have eA : f_X10_goodsBoughtOn A p1 p2 = 0 + s32 F (ix (S7.2.1 kPayments 0)) := by
      unfold f_X10_goodsBoughtOn
      rw [lt_x, sP]
      refine s32_iter 0 _ (fun j hj σ => ?_)
      have sS : A.1 kStates j = S7.2.1 kStates j := s3.1.sh kStates j (show j < 200 by omega)
      have sA : A.1 kAmounts j = S7.2.1 kAmounts j := s3.1.sh kAmounts j (show j < 200 by omega)
      have sDd : A.1 kDoneDays j = S7.2.1 kDoneDays j := s3.1.sh kDoneDays j (show j < 200 by omega)
      unfold b5_X10_goodsBoughtOn
      rw [at10_nI (show j < 200 by omega), lt_x, lt_x, sS, sA, sDd, hF1, sold_row r1 (hG j hj)]
    have eB : iter (b31_X12_sales p1 p2 S7) 0 (ix (S7.2.1 kPayments 0)) = 0 + s32 F (ix (S7.2.1 kPayments 0)) := by
      refine s32_iter 0 _ (fun j hj σ => ?_)
      unfold b31_X12_sales
      rw [lt_x, lt_x, hF1]
    have eB2 : f_X12_sales B p1 p2 = (0 + s32 F (ix (S7.2.1 kPayments 0)), S7) := by
      unfold f_X12_sales
      rw [r4, lt_x, if_neg c1, lt_x, tail_yes, s1, eB, lt_x]
    refine Or.inr ⟨fun v3 e3 => ⟨?_, fun j hj σ _ => ?_⟩, ?_, ?_⟩
    · rw [sD] at e3
      exact r3 A v3 e3
    · rw [sP]
      exact hp.1.1
    · intro w1 e1 w5 e5
      rw [r4] at e1
      subst e1
      rw [if_neg c1] at e5
      subst e5
      refine okt_yes ?_
      rw [s1]
      exact ⟨fun j hj σ _ => hp.1.1, fun j hj σ _ => ⟨by omega, fun _ => ⟨by omega, fun _ => ⟨by omega, fun _ _ => by omega⟩⟩, fun _ _ _ => by omega⟩⟩
    · rw [eB2]
      refine ⟨s2, ?_, s3⟩
      unfold f_X11_sales
      rw [lt_x, lt_x, eA]
  · refine Or.inl ⟨fun v3 e3 => ?_, sales_k 0 (r2 B) (by rw [if_pos rfl]) (by decide)⟩
    rw [sD] at e3
    exact r1 A v3 e3
