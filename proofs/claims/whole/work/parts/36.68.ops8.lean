/-! close -/
def aw (R : Col) (x : Int32) : Nat → Int32
  | 0 => 0
  | n + 1 => if aw R x n = 0 then (if R kStates n = 0 then (if R kTos n = x then 1 else 0) else 0) else 1
theorem aw_cases {R : Col} {x : Int32} : ∀ n, (aw R x n = 0 ∧ ∀ p, p < n → R kStates p = 0 → R kTos p ≠ x) ∨ aw R x n = 1 := by
  intro n
  induction n with
  | zero => exact Or.inl ⟨rfl, fun p hp => by omega⟩
  | succ n ih =>
    have e : aw R x (n + 1) = if aw R x n = 0 then (if R kStates n = 0 then (if R kTos n = x then 1 else 0) else 0) else 1 := rfl
    rw [e]
    rcases ih with ⟨i1, i2⟩ | i1
    · rw [if_pos i1]
      by_cases c : R kStates n = 0
      · by_cases c' : R kTos n = x
        · rw [if_pos c, if_pos c']
          exact Or.inr rfl
        · rw [if_pos c, if_neg c']
          refine Or.inl ⟨rfl, fun p hp h0 => ?_⟩
          by_cases z : p = n
          · subst z
            exact c'
          · exact i2 p (by omega) h0
      · rw [if_neg c]
        refine Or.inl ⟨rfl, fun p hp h0 => ?_⟩
        by_cases z : p = n
        · subst z
          exact absurd h0 c
        · exact i2 p (by omega) h0
    · rw [i1, if_neg c1]
      exact Or.inr rfl
theorem aw_R {B : Mem} {x : Int32} (i0 : inb (B.2.1 kPayments 0) 201) : f_X12_isAwaited B x = aw B.2.1 x (ix (B.2.1 kPayments 0)) ∧ ok_X12_isAwaited B x := by
  constructor
  · unfold f_X12_isAwaited
    rw [lt_x]
    have key : ∀ m, iter (b4_X12_isAwaited B x) 0 m = aw B.2.1 x m := by
      intro m
      induction m with
      | zero => rfl
      | succ m ih =>
        rw [iter_s, ih]
        unfold b4_X12_isAwaited
        rw [lt_x]
        rfl
    exact key _
  · have h2 := i0.2
    exact ⟨fun j hj σ e => i0.1, fun j hj σ e _ => ⟨by omega, fun _ => by omega⟩⟩
theorem aw_C {A : Mem} {R : Col} {d x : Int32} (h : Rel A.1 R d) (i0 : inb (R kPayments 0) 201) : f_X10_oneWaitsTo A x = aw R x (ix (R kPayments 0)) ∧ ok_X10_oneWaitsTo A x := by
  have hP : A.1 kPayments 0 = R kPayments 0 := h.sh kPayments 0 (by decide)
  have h2 := i0.2
  constructor
  · have key : ∀ m, m ≤ ix (R kPayments 0) → (aw R x m = 0 ∧ iterE (b2_X10_oneWaitsTo A x) () m = .inl ()) ∨ (aw R x m = 1 ∧ iterE (b2_X10_oneWaitsTo A x) () m = .inr 1) := by
      intro m
      induction m with
      | zero => intro _; exact Or.inl ⟨rfl, rfl⟩
      | succ m ih =>
        intro hm
        have e : aw R x (m + 1) = if aw R x m = 0 then (if R kStates m = 0 then (if R kTos m = x then 1 else 0) else 0) else 1 := rfl
        have s1 : A.1 kStates m = R kStates m := h.sh kStates m (show m < 200 by omega)
        have s2 : A.1 kTos m = R kTos m := h.sh kTos m (show m < 200 by omega)
        rcases ih (by omega) with ⟨i1, i2⟩ | ⟨i1, i2⟩
        · rw [e, if_pos i1]
          by_cases c : R kStates m = 0
          · by_cases c' : R kTos m = x
            · refine Or.inr ⟨by rw [if_pos c, if_pos c'], iterE_stop i2 ?_ (m + 1) (by omega)⟩
              unfold b2_X10_oneWaitsTo
              rw [at10_nI (by omega), s1, s2, if_pos c, if_pos c']
            · refine Or.inl ⟨by rw [if_pos c, if_neg c'], iterE_go i2 ?_⟩
              unfold b2_X10_oneWaitsTo
              rw [at10_nI (by omega), s1, s2, if_pos c, if_neg c']
          · refine Or.inl ⟨by rw [if_neg c], iterE_go i2 ?_⟩
            unfold b2_X10_oneWaitsTo
            rw [at10_nI (by omega), s1, if_neg c]
        · rw [e, i1, if_neg c1]
          exact Or.inr ⟨rfl, iterE_in i2⟩
    unfold f_X10_oneWaitsTo
    rw [hP]
    rcases key _ (Nat.le_refl _) with ⟨k1, k2⟩ | ⟨k1, k2⟩
    · rw [matchE_l k2, k1]
    · rw [matchE_r k2, k1]
  · intro j hj σ e
    rw [hP]
    exact i0.1
theorem close_f {B : Mem} {p1 c : Int32} (v1 : Int32) (h1 : f_X12_isHolder B p1 = v1) (h11 : (if v1 = 0 then (1) else (lt (f_X12_hasAccount B p1) (fun (v4 : Int32) => if v4 = 0 then (nI 2) else (if 0 < (B.2.1 kAccounts (ix p1)) then (nI 2) else (lt (f_X12_isAwaited B p1) (fun (v9 : Int32) => if v9 = 0 then (0) else (nI 2))))))) = c) : (c ≠ 0 → f_X12_close B p1 = (0, T0 B c)) ∧ (c = 0 → f_X12_close B p1 = ((T0 B 0).2.1 kBankOf (ix p1), ((T0 B 0).1, upd2 (T0 B 0).2.1 kBankOf (ix p1) (-1), (T0 B 0).2.2))) := by
  constructor
  · intro hc
    unfold f_X12_close
    rw [h1, lt_x, h11, lt_x]
    exact tail_no hc _ _
  · intro hc
    subst hc
    unfold f_X12_close
    rw [h1, lt_x, h11, lt_x, tail_yes, lt_x]
theorem close_k {B : Mem} {p1 c : Int32} (v1 : Int32) (h1 : f_X12_isHolder B p1 = v1) (h11 : (if v1 = 0 then (1) else (lt (f_X12_hasAccount B p1) (fun (v4 : Int32) => if v4 = 0 then (nI 2) else (if 0 < (B.2.1 kAccounts (ix p1)) then (nI 2) else (lt (f_X12_isAwaited B p1) (fun (v9 : Int32) => if v9 = 0 then (0) else (nI 2))))))) = c) (hm : ¬ v1 = 0 → inb p1 16) (hw : ok_X12_isAwaited B p1) (hp : c = 0 → inb p1 16) : ok_X12_close B p1 := by
  intro w1 e1
  rw [h1] at e1
  subst e1
  refine ⟨fun q => ⟨hm q, fun _ _ _ => ⟨hm q, fun _ => hw⟩⟩, fun w9 e9 => ?_⟩
  rw [h11] at e9
  subst e9
  by_cases hc : c = 0
  · subst hc
    exact okt_yes ⟨hp rfl, hp rfl⟩
  · exact okt_no hc
theorem close_op {u : Int} {A B : Mem} (h : St u A.1 B.2.1) (p1 : Int32) : (okx_X11_close_1 A p1 ∧ ok_X12_close B p1 ∧ f_X12_close B p1 = (0, T0 B 1)) ∨ (okx_X11_close_2 A p1 ∧ ok_X12_close B p1 ∧ f_X12_close B p1 = (0, T0 B (nI 2))) ∨ (ok_X11_close A p1 ∧ ok_X12_close B p1 ∧ Good u (f_X11_close A p1) (f_X12_close B p1)) := by
  have i0 : inb (B.2.1 kPayments 0) 201 := h.2.2.2.1.1
  obtain ⟨w1, w2⟩ := aw_C (x := p1) h.1 i0
  obtain ⟨w3, w4⟩ := aw_R (B := B) (x := p1) i0
  rcases hol_cases p1 with ⟨b1, b2, b3⟩ | ⟨b1, b2⟩
  · have sB : A.1 kBankOf (f_X3_holder A p1) = B.2.1 kBankOf (ix p1) := by
      rw [holder_in b1]
      exact h.1.sh kBankOf _ b1.2
    have sA : A.1 kAccounts (f_X3_holder A p1) = B.2.1 kAccounts (ix p1) := by
      rw [holder_in b1]
      exact h.1.sh kAccounts _ b1.2
    have hh := has_hi h.2 b1.2
    by_cases c : B.2.1 kBankOf (ix p1) = -1
    · have h11 : (if (1 : Int32) = 0 then (1) else (lt (f_X12_hasAccount B p1) (fun (v4 : Int32) => if v4 = 0 then (nI 2) else (if 0 < (B.2.1 kAccounts (ix p1)) then (nI 2) else (lt (f_X12_isAwaited B p1) (fun (v9 : Int32) => if v9 = 0 then (0) else (nI 2))))))) = nI 2 := by rw [if_neg c1, acct_R, if_pos c, l0]
      refine Or.inr (Or.inl ⟨⟨b2 A, fun _ _ => w2, fun v7 e7 => ?_⟩, close_k 1 (b3 B) h11 (fun _ => b1) w4 (fun _ => b1), (close_f 1 (b3 B) h11).1 c2⟩)
      rw [sB, if_pos c] at e7
      exact e7.symm
    · by_cases c' : B.2.1 kAccounts (ix p1) = 0
      · have c'' : ¬ 0 < B.2.1 kAccounts (ix p1) := by
          rw [w_lt, c', w_0]
          omega
        rcases aw_cases (R := B.2.1) (x := p1) (ix (B.2.1 kPayments 0)) with ⟨a1, a2⟩ | a1
        · have h11 : (if (1 : Int32) = 0 then (1) else (lt (f_X12_hasAccount B p1) (fun (v4 : Int32) => if v4 = 0 then (nI 2) else (if 0 < (B.2.1 kAccounts (ix p1)) then (nI 2) else (lt (f_X12_isAwaited B p1) (fun (v9 : Int32) => if v9 = 0 then (0) else (nI 2))))))) = 0 := by rw [if_neg c1, acct_R, if_neg c, l1, if_neg c'', w3, a1, l0]
          have hB := (close_f 1 (b3 B) h11).2 rfl
          obtain ⟨S7, s1, s2, ⟨s3, s4⟩, -, -, s5⟩ := h.zero
          rw [s1] at hB
          have hw : ∀ p, p < ix (B.2.1 kPayments 0) → B.2.1 kStates p = 0 → ix (B.2.1 kFroms p) ≠ ix p1 ∧ ix (B.2.1 kTos p) ≠ ix p1 := by
            intro p hp h0
            have zp : zP (B.2.1 kPayments) (B.2.1 kFroms) (B.2.1 kTos) (B.2.1 kStates) (B.2.1 kAmounts) (B.2.1 kBankOf) (B.2.1 kBlocked) := h.2.2.2.1
            refine ⟨fun q => ?_, fun q => a2 p hp h0 ?_⟩
            · have l := zp.le hp h0
              have g := ((zp.2.1 p hp).2.2 h0).1
              rw [q] at l
              rw [c', w_0] at hh
              omega
            · have t1 := (zp.2.1 p hp).2.1.1
              rw [t1, q]
              exact b1.1.symm
          have hw7 : ∀ p, p < ix (S7.2.1 kPayments 0) → S7.2.1 kStates p = 0 → ix (S7.2.1 kFroms p) ≠ ix p1 ∧ ix (S7.2.1 kTos p) ≠ ix p1 := by
            rw [s5 kPayments (by decide), s5 kStates (by decide), s5 kFroms (by decide), s5 kTos (by decide)]
            exact hw
          have q1 : Rel (upd2 A.1 kBankOf (ix p1) (-1)) (upd2 S7.2.1 kBankOf (ix p1) (-1)) 0 := s3.bank rfl hw7
          have q2 : Num u u 171000000 (upd2 S7.2.1 kBankOf (ix p1) (-1)) := N_bank s4 (Or.inl rfl) (by rw [s5 kAccounts (by decide)]; exact c') hw7
          have eA : f_X11_close A p1 = (B.2.1 kBankOf (ix p1), (upd2 A.1 kBankOf (ix p1) (-1), A.2)) := by
            unfold f_X11_close
            rw [lt_x, lt_x, sB, holder_in b1]
          refine Or.inr (Or.inr ⟨⟨b2 A, fun _ _ => w2, fun v7 e7 => ?_⟩, close_k 1 (b3 B) h11 (fun _ => b1) w4 (fun _ => b1), ?_⟩)
          · rw [sB, if_neg c, sA, if_pos c', w1, a1, l0] at e7
            rw [← e7]
            exact c1
          · exact (Good.mk (u := u) (x := (B.2.1 kBankOf (ix p1), (upd2 A.1 kBankOf (ix p1) (-1), A.2))) (y := (S7.2.1 kBankOf (ix p1), (S7.1, upd2 S7.2.1 kBankOf (ix p1) (-1), S7.2.2))) s2 (congrFun (s5 kBankOf (by decide)) _) q1 q2).of eA hB
        · have h11 : (if (1 : Int32) = 0 then (1) else (lt (f_X12_hasAccount B p1) (fun (v4 : Int32) => if v4 = 0 then (nI 2) else (if 0 < (B.2.1 kAccounts (ix p1)) then (nI 2) else (lt (f_X12_isAwaited B p1) (fun (v9 : Int32) => if v9 = 0 then (0) else (nI 2))))))) = nI 2 := by rw [if_neg c1, acct_R, if_neg c, l1, if_neg c'', w3, a1, l1]
          refine Or.inr (Or.inl ⟨⟨b2 A, fun _ _ => w2, fun v7 e7 => ?_⟩, close_k 1 (b3 B) h11 (fun _ => b1) w4 (fun _ => b1), (close_f 1 (b3 B) h11).1 c2⟩)
          rw [sB, if_neg c, sA, if_pos c', w1, a1, l1] at e7
          exact e7.symm
      · have c'' : 0 < B.2.1 kAccounts (ix p1) := by
          rw [w_lt, w_0]
          rcases Int.lt_or_eq_of_le (show 0 ≤ (B.2.1 kAccounts (ix p1)).toInt by omega) with q | q
          · exact q
          · exact absurd (Int32.toInt_inj.mp (q.symm.trans w_0.symm)) c'
        have h11 : (if (1 : Int32) = 0 then (1) else (lt (f_X12_hasAccount B p1) (fun (v4 : Int32) => if v4 = 0 then (nI 2) else (if 0 < (B.2.1 kAccounts (ix p1)) then (nI 2) else (lt (f_X12_isAwaited B p1) (fun (v9 : Int32) => if v9 = 0 then (0) else (nI 2))))))) = nI 2 := by rw [if_neg c1, acct_R, if_neg c, l1, if_pos c'']
        refine Or.inr (Or.inl ⟨⟨b2 A, fun _ _ => w2, fun v7 e7 => ?_⟩, close_k 1 (b3 B) h11 (fun _ => b1) w4 (fun _ => b1), (close_f 1 (b3 B) h11).1 c2⟩)
        rw [sB, if_neg c, sA, if_neg c'] at e7
        exact e7.symm
  · have h11 : (if (0 : Int32) = 0 then (1) else (lt (f_X12_hasAccount B p1) (fun (v4 : Int32) => if v4 = 0 then (nI 2) else (if 0 < (B.2.1 kAccounts (ix p1)) then (nI 2) else (lt (f_X12_isAwaited B p1) (fun (v9 : Int32) => if v9 = 0 then (0) else (nI 2))))))) = 1 := if_pos rfl
    exact Or.inl ⟨b1 A, close_k 0 (b2 B) h11 (fun q => absurd rfl q) w4 (fun q => absurd q c1), (close_f 0 (b2 B) h11).1 c1⟩
