/-! spend, levy -/
theorem spend_f {B : Mem} {p1 p2 c : Int32} (v1 : Int32) (h1 : f_X12_isHolder B p1 = v1) (h9 : (if v1 = 0 then (1) else (lt (f_X12_in B p2 1 (nI 10000)) (fun (v3 : Int32) => if v3 = 0 then (nI 2) else (lt (f_X12_hasAccount B p1) (fun (v6 : Int32) => if v6 = 0 then (nI 3) else (if p2 ≤ (B.2.1 kTreasury 0) then (0) else (nI 3))))))) = c) (hm : ¬ v1 = 0 → inb p1 16) (h0 : c ≠ 0) : ok_X12_spend B p1 p2 ∧ f_X12_spend B p1 p2 = (0, T0 B c) := by
  constructor
  · intro w1 e1
    rw [h1] at e1
    subst e1
    refine ⟨fun q _ _ _ => hm q, fun w9 e9 => ?_⟩
    rw [h9] at e9
    subst e9
    exact okt_no h0
  · unfold f_X12_spend
    rw [h1, lt_x, h9, lt_x]
    exact tail_no h0 _ _
theorem three_re {R : Col} {i b : Nat} {x y z : Int32} : upd2 (upd2 (upd2 R kTreasury 0 z) kReserves b y) kAccounts i x = upd2 (upd2 (upd2 R kAccounts i x) kReserves b y) kTreasury 0 z := by
  rw [u_comm (show kReserves ≠ kAccounts by decide), u_comm (show kTreasury ≠ kAccounts by decide), u_comm (show kTreasury ≠ kReserves by decide)]
/-- money moves between an account's bank and the treasury -/
theorem art_ok {u : Int} {R : Col} {i b : Nat} {x : Int32} (hu : u ≤ 5120000) (s4 : Num u u 171000000 R) (hi : i < 16) (hb : b < 4) (hbo : R kBankOf i ≠ -1) (x0 : -5120000 ≤ x.toInt) (x1 : x.toInt ≤ 10000) (h1 : (R kBlocked i).toInt ≤ (R kAccounts i).toInt + x.toInt) (h2 : 0 ≤ (R kReserves b).toInt + x.toInt) (h3 : 0 ≤ (R kTreasury 0).toInt - x.toInt) : Num (u + 10000) (u + 10000) 171000000 (upd2 (upd2 (upd2 R kAccounts i (R kAccounts i + x)) kReserves b (R kReserves b + x)) kTreasury 0 (R kTreasury 0 - x)) := by
  have hh := re_hi s4 hu hb
  have ha := has_hi s4 hi
  have e1 : (R kAccounts i + x).toInt = (R kAccounts i).toInt + x.toInt := by
    rw [w_add]
    omega
  have e2 : (R kReserves b + x).toInt = (R kReserves b).toInt + x.toInt := by
    rw [w_add]
    omega
  have e3 : (R kTreasury 0 - x).toInt = (R kTreasury 0).toInt - x.toInt := by
    rw [w_sub]
    omega
  have m1 := N_acc (x := R kAccounts i + x) s4 hi hbo (by omega)
  have m2 := N_re (b := b) (x := R kReserves b + x) m1 hb (by omega)
  have m3 := N_tr (x := R kTreasury 0 - x) m2 (by omega)
  rw [show upd2 R kAccounts i (R kAccounts i + x) kReserves b = R kReserves b from rfl, show upd2 (upd2 R kAccounts i (R kAccounts i + x)) kReserves b (R kReserves b + x) kTreasury 0 = R kTreasury 0 from rfl] at m3
  exact (m3.umono (by omega)).vmono (by omega)
theorem spend_ok {u : Int} {A B : Mem} (hu : u ≤ 5120000) (h : St u A.1 B.2.1) (p1 p2 : Int32) : (okx_X11_spend_1 A p1 p2 ∧ ok_X12_spend B p1 p2 ∧ f_X12_spend B p1 p2 = (0, T0 B 1)) ∨ (okx_X11_spend_2 A p1 p2 ∧ ok_X12_spend B p1 p2 ∧ f_X12_spend B p1 p2 = (0, T0 B (nI 2))) ∨ (okx_X11_spend_3 A p1 p2 ∧ ok_X12_spend B p1 p2 ∧ f_X12_spend B p1 p2 = (0, T0 B (nI 3))) ∨ (ok_X11_spend A p1 p2 ∧ ok_X12_spend B p1 p2 ∧ Good (u + 10000) (f_X11_spend A p1 p2) (f_X12_spend B p1 p2)) := by
  rcases hol_cases p1 with ⟨b1, b2, b3⟩ | ⟨b1, b2⟩
  · have sB : A.1 kBankOf (f_X3_holder A p1) = B.2.1 kBankOf (ix p1) := by
      rw [holder_in b1]
      exact h.1.sh kBankOf _ b1.2
    have sT : A.1 kTreasury 0 = B.2.1 kTreasury 0 := h.1.sh kTreasury 0 (by decide)
    rcases rng_cases p2 1 (nI 10000) with ⟨r1, r2, r3, r4⟩ | ⟨r1, r2⟩
    · by_cases c : B.2.1 kBankOf (ix p1) = -1
      · obtain ⟨k1, k2⟩ := spend_f (p2 := p2) 1 (b3 B) (show _ = nI 3 by rw [if_neg c1, r4, l1, acct_R, if_pos c, l0]) (fun _ => b1) c3
        refine Or.inr (Or.inr (Or.inl ⟨⟨b2 A, r3 A, fun v5 e5 => ?_⟩, k1, k2⟩))
        rw [sB, if_pos c] at e5
        exact e5.symm
      · by_cases c' : B.2.1 kTreasury 0 < p2
        · have c'' : ¬ p2 ≤ B.2.1 kTreasury 0 := by
            rw [w_lt] at c'
            rw [w_le]
            omega
          obtain ⟨k1, k2⟩ := spend_f (p2 := p2) 1 (b3 B) (show _ = nI 3 by rw [if_neg c1, r4, l1, acct_R, if_neg c, l1, if_neg c'']) (fun _ => b1) c3
          refine Or.inr (Or.inr (Or.inl ⟨⟨b2 A, r3 A, fun v5 e5 => ?_⟩, k1, k2⟩))
          rw [sB, if_neg c, sT, if_pos c'] at e5
          exact e5.symm
        · have c'' : p2 ≤ B.2.1 kTreasury 0 := by
            rw [w_lt] at c'
            rw [w_le]
            omega
          have gd : (if (1 : Int32) = 0 then (1) else (lt (f_X12_in B p2 1 (nI 10000)) (fun (v3 : Int32) => if v3 = 0 then (nI 2) else (lt (f_X12_hasAccount B p1) (fun (v6 : Int32) => if v6 = 0 then (nI 3) else (if p2 ≤ (B.2.1 kTreasury 0) then (0) else (nI 3))))))) = 0 := by rw [if_neg c1, r4, l1, acct_R, if_neg c, l1, if_pos c'']
          obtain ⟨S7, s1, s2, ⟨s3, s4⟩, -, -, s5⟩ := h.zero
          have e10k : (nI 10000).toInt = 10000 := nI_toInt (by omega)
          rw [w_1] at r1
          rw [w_le, ← s5 kTreasury (by decide)] at c''
          have hb4 : inb (S7.2.1 kBankOf (ix p1)) 4 := by
            rw [s5 kBankOf (by decide)]
            rcases (h.2.1 (ix p1) b1.2).1 with q | q
            · exact absurd q c
            · exact q.1
          obtain ⟨b, hbb, hbl⟩ : ∃ b, S7.2.1 kBankOf (ix p1) = nI b ∧ b < 4 := ⟨_, hb4.1, hb4.2⟩
          have eb : ix (nI b) = b := ix_nI (by omega)
          have hn7 : S7.2.1 kBankOf (ix p1) ≠ -1 := by
            rw [s5 kBankOf (by decide)]
            exact c
          have hx := re_hi s4 hu hbl
          have hy := has_hi s4 b1.2
          have key := art_ok (x := p2) hu s4 b1.2 hbl hn7 (by omega) (by omega) (by omega) (by omega) (by omega)
          have sB7 : A.1 kBankOf (ix p1) = nI b := (s3.sh kBankOf _ b1.2).trans hbb
          have sT7 : A.1 kTreasury 0 = S7.2.1 kTreasury 0 := s3.sh kTreasury 0 (by decide)
          have sR7 : A.1 kReserves b = S7.2.1 kReserves b := s3.sh kReserves b hbl
          have q1 := s3.treasury (v := S7.2.1 kTreasury 0 - p2) rfl
          have q2 := q1.reserves (i := b) (v := S7.2.1 kReserves b + p2) hbl rfl
          obtain ⟨q3, q4, q5, q6⟩ := Rel.change (A := (upd2 (upd2 A.1 kTreasury 0 (S7.2.1 kTreasury 0 - p2)) kReserves b (S7.2.1 kReserves b + p2), A.2)) (v := p2) q2 b1
          rw [show upd2 (upd2 S7.2.1 kTreasury 0 (S7.2.1 kTreasury 0 - p2)) kReserves b (S7.2.1 kReserves b + p2) kAccounts (ix p1) = S7.2.1 kAccounts (ix p1) from rfl, show upd2 S7.2.1 kTreasury 0 (S7.2.1 kTreasury 0 - p2) kReserves b = S7.2.1 kReserves b from rfl, three_re] at q6
          have e8 : ((upd2 (upd2 A.1 kTreasury 0 (A.1 kTreasury 0 - p2), A.2).1 kReserves (f_X3_bank (upd2 A.1 kTreasury 0 (A.1 kTreasury 0 - p2), A.2) ((upd2 A.1 kTreasury 0 (A.1 kTreasury 0 - p2), A.2).1 kBankOf (f_X3_holder A p1))) (((upd2 A.1 kTreasury 0 (A.1 kTreasury 0 - p2), A.2).1 kReserves (f_X3_bank (upd2 A.1 kTreasury 0 (A.1 kTreasury 0 - p2), A.2) ((upd2 A.1 kTreasury 0 (A.1 kTreasury 0 - p2), A.2).1 kBankOf (f_X3_holder A p1)))) + p2), (upd2 A.1 kTreasury 0 (A.1 kTreasury 0 - p2), A.2).2) : Mem) = (upd2 (upd2 A.1 kTreasury 0 (S7.2.1 kTreasury 0 - p2)) kReserves b (S7.2.1 kReserves b + p2), A.2) := by
            dsimp only
            rw [holder_in b1, show upd2 A.1 kTreasury 0 (A.1 kTreasury 0 - p2) kBankOf (ix p1) = nI b from sB7, bank_nI hbl, show upd2 A.1 kTreasury 0 (A.1 kTreasury 0 - p2) kReserves b = S7.2.1 kReserves b from sR7, sT7]
          have eA : f_X11_spend A p1 p2 = (S7.2.1 kTreasury 0 - p2, f_X3_change (upd2 (upd2 A.1 kTreasury 0 (S7.2.1 kTreasury 0 - p2)) kReserves b (S7.2.1 kReserves b + p2), A.2) p1 p2) := by
            unfold f_X11_spend
            rw [lt_x, lt_x, lt_x, e8, lt_x, q5 kTreasury (by decide) (by decide)]
            dsimp only
            rw [show upd2 (upd2 A.1 kTreasury 0 (S7.2.1 kTreasury 0 - p2)) kReserves b (S7.2.1 kReserves b + p2) kTreasury 0 = upd2 A.1 kTreasury 0 (S7.2.1 kTreasury 0 - p2) kTreasury 0 from rfl, upd2_eq]
          have eB : f_X12_spend B p1 p2 = (S7.2.1 kTreasury 0 - p2, (S7.1, upd2 (upd2 (upd2 S7.2.1 kAccounts (ix p1) (S7.2.1 kAccounts (ix p1) + p2)) kReserves b (S7.2.1 kReserves b + p2)) kTreasury 0 (S7.2.1 kTreasury 0 - p2), S7.2.2)) := by
            unfold f_X12_spend
            rw [b3, lt_x, gd, lt_x, tail_yes, s1, lt_x, lt_x, lt_x]
            dsimp only
            rw [show upd2 S7.2.1 kAccounts (ix p1) (S7.2.1 kAccounts (ix p1) + p2) kBankOf (ix p1) = nI b from hbb, eb, upd2_eq]
            rfl
          refine Or.inr (Or.inr (Or.inr ⟨⟨b2 A, r3 A, fun v5 e5 => ⟨?_, fun S7' e7 S8 e8' => ?_⟩⟩, ?_, ?_⟩))
          · rw [sB, if_neg c, sT, if_neg c'] at e5
            rw [← e5]
            exact c1
          · rw [← e8', ← e7, e8]
            exact q3
          · intro v1 e1
            rw [b3] at e1
            subst e1
            refine ⟨fun _ _ _ _ => b1, fun v9 e9 => ?_⟩
            rw [gd] at e9
            subst e9
            refine okt_yes ?_
            rw [s1]
            exact ⟨b1, b1, fun S15 e15 => by rw [← e15]; exact ⟨b1, hb4, hb4⟩⟩
          · exact (Good.mk (u := u + 10000) (x := (S7.2.1 kTreasury 0 - p2, f_X3_change (upd2 (upd2 A.1 kTreasury 0 (S7.2.1 kTreasury 0 - p2)) kReserves b (S7.2.1 kReserves b + p2), A.2) p1 p2)) (y := (S7.2.1 kTreasury 0 - p2, (S7.1, upd2 (upd2 (upd2 S7.2.1 kAccounts (ix p1) (S7.2.1 kAccounts (ix p1) + p2)) kReserves b (S7.2.1 kReserves b + p2)) kTreasury 0 (S7.2.1 kTreasury 0 - p2), S7.2.2))) s2 rfl (q6.d_eq (by grind)) key).of eA eB
    · obtain ⟨k1, k2⟩ := spend_f (p2 := p2) 1 (b3 B) (show _ = nI 2 by rw [if_neg c1, r2, l0]) (fun _ => b1) c2
      exact Or.inr (Or.inl ⟨⟨b2 A, r1 A⟩, k1, k2⟩)
  · obtain ⟨k1, k2⟩ := spend_f (p2 := p2) 0 (b2 B) (show _ = 1 from if_pos rfl) (fun q => absurd rfl q) c1
    exact Or.inl ⟨b1 A, k1, k2⟩
