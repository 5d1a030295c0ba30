/-! levy -/
theorem bank4 {u v L : Int} {R : Col} {i : Nat} (n : Num u v L R) (hi : i < 16) (c : R kBankOf i ≠ -1) : inb (R kBankOf i) 4 := by
  rcases (n.1 i hi).1 with q | q
  · exact absurd q c
  · exact q.1
theorem acct_ne {B : Mem} {p v : Int32} (e : f_X12_hasAccount B p = v) (h : ¬ v = 0) : B.2.1 kBankOf (ix p) ≠ -1 := by
  intro q
  rw [acct_R, if_pos q] at e
  exact h e.symm
def lvT (f p : Int32) : Int32 := ((f.toInt64 * p.toInt64) / 100).toInt32
theorem lvT_bd {f p : Int32} (hf : 0 ≤ f.toInt) (hp : 0 ≤ p.toInt) (hp2 : p.toInt ≤ 100) : 0 ≤ (lvT f p).toInt ∧ (lvT f p).toInt ≤ f.toInt := by
  have h1 := lmul_pos hf hp
  have h0 := Int.mul_nonneg hf hp
  have h2 := Int.mul_le_mul_of_nonneg_left hp2 hf
  have h100 : (100 : Int64).toInt = 100 := by decide
  have h3 : (f.toInt64 * p.toInt64 / 100).toInt = f.toInt * p.toInt / 100 := by
    rw [ldiv_pos (by omega) (by rw [h100]; omega), h1, h100]
  have hw := w_hi f
  unfold lvT
  generalize f.toInt * p.toInt = z at *
  rw [l2i_pos (by omega) (by omega), h3]
  omega
theorem lv_share {S : Mem} {f p : Int32} : f_X11_share S f p (nI 100) = lvT f p := by
  rw [share_pos (by rw [i100_toInt]; omega)]
  rfl
theorem levy_k {B : Mem} {p1 p2 c : Int32} (v1 v7 v15 : Int32) (h1 : f_X12_isHolder B p1 = v1) (h7 : (if v1 = 0 then (0) else (lt (f_X12_in B p2 1 (nI 100)) (fun (v3 : Int32) => if v3 = 0 then (0) else (lt (f_X12_free B p1) (fun (v6 : Int32) => ((v6.toInt64 * p2.toInt64) / 100).toInt32))))) = v7) (h15 : (if v1 = 0 then (0) else (lt (f_X12_hasAccount B p1) (fun (v10 : Int32) => if v10 = 0 then (0) else (if (B.2.1 kReserves (ix (B.2.1 kBankOf (ix p1)))) < v7 then (0) else (1))))) = v15) (h20 : (if v1 = 0 then (1) else (lt (f_X12_in B p2 1 (nI 100)) (fun (v17 : Int32) => if v17 = 0 then (nI 2) else (if v15 = 0 then (nI 3) else (0))))) = c) (hm : ¬ v1 = 0 → inb p1 16 ∧ (B.2.1 kBankOf (ix p1) ≠ -1 → inb (B.2.1 kBankOf (ix p1)) 4)) (hp : c = 0 → B.2.1 kBankOf (ix p1) ≠ -1 ∧ ¬ v1 = 0) : ok_X12_levy B p1 p2 := by
  intro w1 e1
  rw [h1] at e1
  subst e1
  refine ⟨fun q _ _ _ => ⟨(hm q).1, (hm q).1⟩, fun w7 e7 => ?_⟩
  rw [h7] at e7
  subst e7
  refine ⟨fun q => ⟨(hm q).1, fun v10 e10 q10 => ⟨(hm q).1, (hm q).2 (acct_ne e10 q10)⟩⟩, fun w15 e15 w20 e20 => ?_⟩
  rw [h15] at e15
  subst e15
  rw [h20] at e20
  subst e20
  by_cases hc : c = 0
  · subst hc
    obtain ⟨q1, q2⟩ := hp rfl
    obtain ⟨m1, m2⟩ := hm q2
    exact okt_yes ⟨m1, m1, fun S26 e26 => by rw [← e26]; exact ⟨m1, m2 q1, m2 q1⟩⟩
  · exact okt_no hc
theorem levy_f {B : Mem} {p1 p2 c : Int32} (v1 v7 v15 : Int32) (h1 : f_X12_isHolder B p1 = v1) (h7 : (if v1 = 0 then (0) else (lt (f_X12_in B p2 1 (nI 100)) (fun (v3 : Int32) => if v3 = 0 then (0) else (lt (f_X12_free B p1) (fun (v6 : Int32) => ((v6.toInt64 * p2.toInt64) / 100).toInt32))))) = v7) (h15 : (if v1 = 0 then (0) else (lt (f_X12_hasAccount B p1) (fun (v10 : Int32) => if v10 = 0 then (0) else (if (B.2.1 kReserves (ix (B.2.1 kBankOf (ix p1)))) < v7 then (0) else (1))))) = v15) (h20 : (if v1 = 0 then (1) else (lt (f_X12_in B p2 1 (nI 100)) (fun (v17 : Int32) => if v17 = 0 then (nI 2) else (if v15 = 0 then (nI 3) else (0))))) = c) (hc : c ≠ 0) : f_X12_levy B p1 p2 = (0, T0 B c) := by
  unfold f_X12_levy
  rw [h1, lt_x, h7, lt_x, h15, lt_x, h20, lt_x]
  exact tail_no hc _ _
theorem levy_ok {u : Int} {A B : Mem} (hu : u ≤ 5120000) (h : St u A.1 B.2.1) (p1 p2 : Int32) : (okx_X11_levy_1 A p1 p2 ∧ ok_X12_levy B p1 p2 ∧ f_X12_levy B p1 p2 = (0, T0 B 1)) ∨ (okx_X11_levy_2 A p1 p2 ∧ ok_X12_levy B p1 p2 ∧ f_X12_levy B p1 p2 = (0, T0 B (nI 2))) ∨ (okx_X11_levy_3 A p1 p2 ∧ ok_X12_levy B p1 p2 ∧ f_X12_levy B p1 p2 = (0, T0 B (nI 3))) ∨ (ok_X11_levy A p1 p2 ∧ ok_X12_levy B p1 p2 ∧ Good (u + 10000) (f_X11_levy A p1 p2) (f_X12_levy B p1 p2)) := by
  rcases hol_cases p1 with ⟨b1, b2, b3⟩ | ⟨b1, b2⟩
  · have sB : A.1 kBankOf (f_X3_holder A p1) = B.2.1 kBankOf (ix p1) := by
      rw [holder_in b1]
      exact h.1.sh kBankOf _ b1.2
    have hm : ¬ (1 : Int32) = 0 → inb p1 16 ∧ (B.2.1 kBankOf (ix p1) ≠ -1 → inb (B.2.1 kBankOf (ix p1)) 4) := fun _ => ⟨b1, fun c => bank4 h.2 b1.2 c⟩
    have sFr : f_X5_free A (f_X3_holder A p1) = B.2.1 kAccounts (ix p1) - B.2.1 kBlocked (ix p1) := by
      rw [holder_in b1]
      unfold f_X5_free
      rw [h.1.sh kAccounts _ b1.2, h.1.sh kBlocked _ b1.2]
    have hh := has_hi h.2 b1.2
    obtain ⟨fr, hfr⟩ : ∃ fr, B.2.1 kAccounts (ix p1) - B.2.1 kBlocked (ix p1) = fr := ⟨_, rfl⟩
    have eFr : fr.toInt = (B.2.1 kAccounts (ix p1)).toInt - (B.2.1 kBlocked (ix p1)).toInt := by
      rw [← hfr, w_sub]
      omega
    have fB : f_X12_free B p1 = fr := by
      unfold f_X12_free
      exact hfr
    rw [hfr] at sFr
    rcases rng_cases p2 1 (nI 100) with ⟨r1, r2, r3, r4⟩ | ⟨r1, r2⟩
    · have h7 : (if (1 : Int32) = 0 then (0) else (lt (f_X12_in B p2 1 (nI 100)) (fun (v3 : Int32) => if v3 = 0 then (0) else (lt (f_X12_free B p1) (fun (v6 : Int32) => ((v6.toInt64 * p2.toInt64) / 100).toInt32))))) = lvT fr p2 := by
        rw [if_neg c1, r4, l1, fB, lt_x]
        rfl
      rw [w_1] at r1
      rw [i100_toInt] at r2
      have hT := lvT_bd (f := fr) (p := p2) (by omega) (by omega) r2
      obtain ⟨t, ht⟩ : ∃ t, lvT fr p2 = t := ⟨_, rfl⟩
      have shA : f_X11_share A (f_X5_free A (f_X3_holder A p1)) p2 (nI 100) = t := by rw [sFr, lv_share, ht]
      rw [ht] at h7 hT
      by_cases c : B.2.1 kBankOf (ix p1) = -1
      · have h15 : (if (1 : Int32) = 0 then (0) else (lt (f_X12_hasAccount B p1) (fun (v10 : Int32) => if v10 = 0 then (0) else (if (B.2.1 kReserves (ix (B.2.1 kBankOf (ix p1)))) < t then (0) else (1))))) = (0 : Int32) := by rw [if_neg c1, acct_R, if_pos c, l0]
        have h20 : (if (1 : Int32) = 0 then (1) else (lt (f_X12_in B p2 1 (nI 100)) (fun (v17 : Int32) => if v17 = 0 then (nI 2) else (if (0 : Int32) = 0 then (nI 3) else (0))))) = nI 3 := by rw [if_neg c1, r4, l1, if_pos rfl]
        refine Or.inr (Or.inr (Or.inl ⟨⟨b2 A, r3 A, fun v3 e3 v4 e4 v7 e7 => ?_⟩, levy_k 1 t 0 (b3 B) h7 h15 h20 hm (fun q => absurd q c3), levy_f 1 t 0 (b3 B) h7 h15 h20 c3⟩))
        rw [sB, if_pos c] at e7
        exact e7.symm
      · have hb4 := bank4 h.2 b1.2 c
        have sR : A.1 kReserves (f_X3_bank A (A.1 kBankOf (f_X3_holder A p1))) = B.2.1 kReserves (ix (B.2.1 kBankOf (ix p1))) := by
          rw [sB, bank_in hb4]
          exact h.1.sh kReserves _ hb4.2
        by_cases c' : B.2.1 kReserves (ix (B.2.1 kBankOf (ix p1))) < t
        · have h15 : (if (1 : Int32) = 0 then (0) else (lt (f_X12_hasAccount B p1) (fun (v10 : Int32) => if v10 = 0 then (0) else (if (B.2.1 kReserves (ix (B.2.1 kBankOf (ix p1)))) < t then (0) else (1))))) = (0 : Int32) := by rw [if_neg c1, acct_R, if_neg c, l1, if_pos c']
          have h20 : (if (1 : Int32) = 0 then (1) else (lt (f_X12_in B p2 1 (nI 100)) (fun (v17 : Int32) => if v17 = 0 then (nI 2) else (if (0 : Int32) = 0 then (nI 3) else (0))))) = nI 3 := by rw [if_neg c1, r4, l1, if_pos rfl]
          refine Or.inr (Or.inr (Or.inl ⟨⟨b2 A, r3 A, fun v3 e3 v4 e4 v7 e7 => ?_⟩, levy_k 1 t 0 (b3 B) h7 h15 h20 hm (fun q => absurd q c3), levy_f 1 t 0 (b3 B) h7 h15 h20 c3⟩))
          rw [← e3, shA] at e4
          rw [sB, if_neg c, ← sB, sR, ← e4, if_pos c'] at e7
          exact e7.symm
        · have h15 : (if (1 : Int32) = 0 then (0) else (lt (f_X12_hasAccount B p1) (fun (v10 : Int32) => if v10 = 0 then (0) else (if (B.2.1 kReserves (ix (B.2.1 kBankOf (ix p1)))) < t then (0) else (1))))) = (1 : Int32) := by rw [if_neg c1, acct_R, if_neg c, l1, if_neg c']
          have h20 : (if (1 : Int32) = 0 then (1) else (lt (f_X12_in B p2 1 (nI 100)) (fun (v17 : Int32) => if v17 = 0 then (nI 2) else (if (1 : Int32) = 0 then (nI 3) else (0))))) = 0 := by rw [if_neg c1, r4, l1, if_neg c1]
          obtain ⟨S7, s1, s2, ⟨s3, s4⟩, -, -, s5⟩ := h.zero
          obtain ⟨b, hbb, hbl⟩ : ∃ b, S7.2.1 kBankOf (ix p1) = nI b ∧ b < 4 := ⟨ix (B.2.1 kBankOf (ix p1)), by rw [s5 kBankOf (by decide)]; exact hb4.1, hb4.2⟩
          have eb : ix (nI b) = b := ix_nI (by omega)
          have hbB : B.2.1 kBankOf (ix p1) = nI b := by rw [← s5 kBankOf (by decide)]; exact hbb
          have hn7 : S7.2.1 kBankOf (ix p1) ≠ -1 := by
            rw [s5 kBankOf (by decide)]
            exact c
          have c'' := c'
          rw [hbB, eb, w_lt, ← s5 kReserves (by decide)] at c''
          have tn : (-t).toInt = -t.toInt := by
            rw [w_neg]
            omega
          have sA7 := congrFun (s5 kAccounts (by decide)) (ix p1)
          have sK7 := congrFun (s5 kBlocked (by decide)) (ix p1)
          have hx := re_hi s4 hu hbl
          have key := art_ok (x := -t) hu s4 b1.2 hbl hn7 (by omega) (by omega) (by rw [sA7, sK7]; omega) (by omega) (by omega)
          have sB7 : A.1 kBankOf (ix p1) = nI b := (s3.sh kBankOf _ b1.2).trans hbb
          have sT7 : A.1 kTreasury 0 = S7.2.1 kTreasury 0 := s3.sh kTreasury 0 (by decide)
          have sR7 : A.1 kReserves b = S7.2.1 kReserves b := s3.sh kReserves b hbl
          obtain ⟨q3, q4, q5, q6⟩ := Rel.change (A := A) (v := -t) s3 b1
          obtain ⟨X, hX⟩ : ∃ X, f_X3_change A p1 (-t) = X := ⟨_, rfl⟩
          rw [hX] at q5 q6
          have q7 := q6.reserves (i := b) (v := S7.2.1 kReserves b + -t) hbl rfl
          have q8 := q7.treasury (v := S7.2.1 kTreasury 0 - -t) rfl
          rw [show upd2 S7.2.1 kAccounts (ix p1) (S7.2.1 kAccounts (ix p1) + -t) kReserves b = S7.2.1 kReserves b from rfl, show upd2 (upd2 S7.2.1 kAccounts (ix p1) (S7.2.1 kAccounts (ix p1) + -t)) kReserves b (S7.2.1 kReserves b + -t) kTreasury 0 = S7.2.1 kTreasury 0 from rfl] at q8
          have en : S7.2.1 kTreasury 0 + t = S7.2.1 kTreasury 0 - -t := by grind
          have eA : f_X11_levy A p1 p2 = (t, (upd2 (upd2 X.1 kReserves b (S7.2.1 kReserves b + -t)) kTreasury 0 (S7.2.1 kTreasury 0 - -t), X.2)) := by
            unfold f_X11_levy
            rw [lt_x, shA, lt_x, lt_x, hX, lt_x, lt_x, lt_x, holder_in b1, sB7, bank_nI hbl]
            dsimp only
            rw [q5 kReserves (by decide) (by decide), sR7, show ∀ x : Int32, upd2 X.1 kReserves b x kTreasury 0 = X.1 kTreasury 0 from fun _ => rfl, q5 kTreasury (by decide) (by decide), sT7, Int32.sub_eq_add_neg, en]
          have eB : f_X12_levy B p1 p2 = (t, (S7.1, upd2 (upd2 (upd2 S7.2.1 kAccounts (ix p1) (S7.2.1 kAccounts (ix p1) + -t)) kReserves b (S7.2.1 kReserves b + -t)) kTreasury 0 (S7.2.1 kTreasury 0 - -t), S7.2.2)) := by
            unfold f_X12_levy
            rw [b3, lt_x, h7, lt_x, h15, lt_x, h20, lt_x, tail_yes, s1, lt_x, lt_x, lt_x]
            dsimp only
            rw [show ∀ x : Int32, upd2 S7.2.1 kAccounts (ix p1) x kBankOf (ix p1) = nI b from fun _ => hbb, eb, Int32.sub_eq_add_neg, show ∀ x : Int32, upd2 S7.2.1 kAccounts (ix p1) x kReserves b = S7.2.1 kReserves b from fun _ => rfl, Int32.sub_eq_add_neg, show ∀ x y : Int32, upd2 (upd2 S7.2.1 kAccounts (ix p1) x) kReserves b y kTreasury 0 = S7.2.1 kTreasury 0 from fun _ _ => rfl, en]
          refine Or.inr (Or.inr (Or.inr ⟨⟨b2 A, r3 A, fun v3 e3 v4 e4 v7 e7 => ⟨?_, ?_⟩⟩, levy_k 1 t 1 (b3 B) h7 h15 h20 hm (fun _ => ⟨c, c1⟩), ?_⟩))
          · rw [← e3, shA] at e4
            rw [sB, if_neg c, ← sB, sR, ← e4, if_neg c'] at e7
            rw [← e7]
            exact c1
          · rw [← e3, shA] at e4
            rw [← e4]
            exact q3
          · exact (Good.mk (u := u + 10000) (x := (t, (upd2 (upd2 X.1 kReserves b (S7.2.1 kReserves b + -t)) kTreasury 0 (S7.2.1 kTreasury 0 - -t), X.2))) (y := (t, (S7.1, upd2 (upd2 (upd2 S7.2.1 kAccounts (ix p1) (S7.2.1 kAccounts (ix p1) + -t)) kReserves b (S7.2.1 kReserves b + -t)) kTreasury 0 (S7.2.1 kTreasury 0 - -t), S7.2.2))) s2 rfl (q8.d_eq (by grind)) key).of eA eB
    · obtain ⟨v15, h15⟩ : ∃ v15 : Int32, (if (1 : Int32) = 0 then (0) else (lt (f_X12_hasAccount B p1) (fun (v10 : Int32) => if v10 = 0 then (0) else (if (B.2.1 kReserves (ix (B.2.1 kBankOf (ix p1)))) < 0 then (0) else (1))))) = v15 := ⟨_, rfl⟩
      have h7 : (if (1 : Int32) = 0 then (0) else (lt (f_X12_in B p2 1 (nI 100)) (fun (v3 : Int32) => if v3 = 0 then (0) else (lt (f_X12_free B p1) (fun (v6 : Int32) => ((v6.toInt64 * p2.toInt64) / 100).toInt32))))) = 0 := by rw [if_neg c1, r2, l0]
      have h20 : (if (1 : Int32) = 0 then (1) else (lt (f_X12_in B p2 1 (nI 100)) (fun (v17 : Int32) => if v17 = 0 then (nI 2) else (if v15 = 0 then (nI 3) else (0))))) = nI 2 := by rw [if_neg c1, r2, l0]
      exact Or.inr (Or.inl ⟨⟨b2 A, r1 A⟩, levy_k 1 0 v15 (b3 B) h7 h15 h20 hm (fun q => absurd q c2), levy_f 1 0 v15 (b3 B) h7 h15 h20 c2⟩)
  · have h7 : (if (0 : Int32) = 0 then (0) else (lt (f_X12_in B p2 1 (nI 100)) (fun (v3 : Int32) => if v3 = 0 then (0) else (lt (f_X12_free B p1) (fun (v6 : Int32) => ((v6.toInt64 * p2.toInt64) / 100).toInt32))))) = 0 := if_pos rfl
    have h15 : (if (0 : Int32) = 0 then (0) else (lt (f_X12_hasAccount B p1) (fun (v10 : Int32) => if v10 = 0 then (0) else (if (B.2.1 kReserves (ix (B.2.1 kBankOf (ix p1)))) < 0 then (0) else (1))))) = (0 : Int32) := if_pos rfl
    have h20 : (if (0 : Int32) = 0 then (1) else (lt (f_X12_in B p2 1 (nI 100)) (fun (v17 : Int32) => if v17 = 0 then (nI 2) else (if (0 : Int32) = 0 then (nI 3) else (0))))) = 1 := if_pos rfl
    exact Or.inl ⟨b1 A, levy_k 0 0 0 (b2 B) h7 h15 h20 (fun q => absurd rfl q) (fun q => absurd q c1), levy_f 0 0 0 (b2 B) h7 h15 h20 c1⟩
