/-! abroad -/
def abE (p3 F p2 fr x re : Int32) : Int32 := if p3 = 0 then (if F < p2 then 0 else (if fr < x then 0 else (if re < x then 0 else 1))) else 1
theorem abE_cases {p3 F p2 fr x re : Int32} : abE p3 F p2 fr x re = 0 ∨ (abE p3 F p2 fr x re = 1 ∧ (p3 = 0 → x.toInt ≤ fr.toInt ∧ x.toInt ≤ re.toInt)) := by
  unfold abE
  by_cases c : p3 = 0
  · rw [if_pos c]
    by_cases q : F < p2
    · rw [if_pos q]
      exact Or.inl rfl
    · rw [if_neg q]
      by_cases q2 : fr < x
      · rw [if_pos q2]
        exact Or.inl rfl
      · rw [if_neg q2]
        by_cases q3 : re < x
        · rw [if_pos q3]
          exact Or.inl rfl
        · rw [if_neg q3]
          rw [w_lt] at q2 q3
          exact Or.inr ⟨rfl, fun _ => ⟨by omega, by omega⟩⟩
  · rw [if_neg c]
    exact Or.inr ⟨rfl, fun q => absurd q c⟩
theorem abroad_k {B : Mem} {p1 p2 p3 c : Int32} (v1 v5 v18 : Int32) (h1 : f_X12_isFirm B p1 = v1) (h5 : (if v1 = 0 then (0) else (lt (f_X12_in B p2 1 (nI 1000)) (fun (v3 : Int32) => if v3 = 0 then (0) else ((p2 * (B.2.1 kExchange 0)) / (nI 100))))) = v5) (h18 : (if v1 = 0 then (0) else (lt (f_X12_hasAccount B p1) (fun (v8 : Int32) => if v8 = 0 then (0) else (if p3 = 0 then (if (B.2.1 kForeign 0) < p2 then (0) else (lt (f_X12_free B p1) (fun (v13 : Int32) => if v13 < v5 then (0) else (if (B.2.1 kReserves (ix (B.2.1 kBankOf (ix p1)))) < v5 then (0) else (1))))) else (1))))) = v18) (h23 : (if v1 = 0 then (1) else (lt (f_X12_in B p2 1 (nI 1000)) (fun (v20 : Int32) => if v20 = 0 then (nI 2) else (if v18 = 0 then (nI 3) else (0))))) = c) (hm : ¬ v1 = 0 → inb p1 16 ∧ (B.2.1 kBankOf (ix p1) ≠ -1 → inb (B.2.1 kBankOf (ix p1)) 4)) (hp : c = 0 → B.2.1 kBankOf (ix p1) ≠ -1 ∧ ¬ v1 = 0) : ok_X12_abroad B p1 p2 p3 ∧ (c ≠ 0 → f_X12_abroad B p1 p2 p3 = (0, T0 B c)) := by
  constructor
  · intro w1 e1 w5 e5
    rw [h1] at e1
    subst e1
    rw [h5] at e5
    subst e5
    refine ⟨fun q => ⟨(hm q).1, fun v8 e8 q8 _ _ => ⟨⟨(hm q).1, (hm q).1⟩, fun _ _ _ => ⟨(hm q).1, (hm q).2 (acct_ne e8 q8)⟩⟩⟩, fun w18 e18 w23 e23 => ?_⟩
    rw [h18] at e18
    subst e18
    rw [h23] at e23
    subst e23
    by_cases hc : c = 0
    · subst hc
      obtain ⟨q1, q2⟩ := hp rfl
      obtain ⟨m1, m2⟩ := hm q2
      exact okt_yes (fun v28 _ => ⟨m1, m1, fun S31 e31 => by rw [← e31]; exact ⟨m1, m2 q1, m2 q1⟩⟩)
    · exact okt_no hc
  · intro hc
    unfold f_X12_abroad
    rw [h1, lt_x, h5, lt_x, h18, lt_x, h23, lt_x]
    exact tail_no hc _ _
theorem abroad_ok {u : Int} {A B : Mem} (hu : u ≤ 5120000) (h : St u A.1 B.2.1) (p1 p2 p3 : Int32) : (okx_X11_abroad_1 A p1 p2 p3 ∧ ok_X12_abroad B p1 p2 p3 ∧ f_X12_abroad B p1 p2 p3 = (0, T0 B 1)) ∨ (okx_X11_abroad_2 A p1 p2 p3 ∧ ok_X12_abroad B p1 p2 p3 ∧ f_X12_abroad B p1 p2 p3 = (0, T0 B (nI 2))) ∨ (okx_X11_abroad_3 A p1 p2 p3 ∧ ok_X12_abroad B p1 p2 p3 ∧ f_X12_abroad B p1 p2 p3 = (0, T0 B (nI 3))) ∨ (okx_X11_abroad_4 A p1 p2 p3 ∧ ok_X12_abroad B p1 p2 p3 ∧ f_X12_abroad B p1 p2 p3 = (0, T0 B (nI 3))) ∨ (ok_X11_abroad A p1 p2 p3 ∧ ok_X12_abroad B p1 p2 p3 ∧ Good (u + 10000) (f_X11_abroad A p1 p2 p3) (f_X12_abroad B p1 p2 p3)) := by
  rcases frm_cases p1 with ⟨b1, b10, b2, b3⟩ | ⟨b1, b2⟩
  · have sB : A.1 kBankOf (f_X3_holder A p1) = B.2.1 kBankOf (ix p1) := by
      rw [holder_in b1]
      exact h.1.sh kBankOf _ b1.2
    have hm : ¬ (1 : Int32) = 0 → inb p1 16 ∧ (B.2.1 kBankOf (ix p1) ≠ -1 → inb (B.2.1 kBankOf (ix p1)) 4) := fun _ => ⟨b1, fun c => bank4 h.2 b1.2 c⟩
    have hh := has_hi h.2 b1.2
    obtain ⟨fr, hfr⟩ : ∃ fr, B.2.1 kAccounts (ix p1) - B.2.1 kBlocked (ix p1) = fr := ⟨_, rfl⟩
    have eFr : fr.toInt = (B.2.1 kAccounts (ix p1)).toInt - (B.2.1 kBlocked (ix p1)).toInt := by
      rw [← hfr, w_sub]
      omega
    have sFr : f_X5_free A (f_X3_holder A p1) = fr := by
      rw [holder_in b1]
      unfold f_X5_free
      rw [h.1.sh kAccounts _ b1.2, h.1.sh kBlocked _ b1.2, hfr]
    have fB : f_X12_free B p1 = fr := hfr
    have sE : A.1 kExchange 0 = B.2.1 kExchange 0 := h.1.sh kExchange 0 (by decide)
    have sFo : A.1 kForeign 0 = B.2.1 kForeign 0 := h.1.sh kForeign 0 (by decide)
    have ns : 10 ≤ (B.2.1 kExchange 0).toInt ∧ (B.2.1 kExchange 0).toInt ≤ 1000 := h.2.2.2.2.2.2.2.2.2.1.2.2.2.2.2.2.2.2.2
    rcases rng_cases p2 1 (nI 1000) with ⟨r1, r2, r3, r4⟩ | ⟨r1, r2⟩
    · have h5 : (if (1 : Int32) = 0 then (0) else (lt (f_X12_in B p2 1 (nI 1000)) (fun (v3 : Int32) => if v3 = 0 then (0) else ((p2 * (B.2.1 kExchange 0)) / (nI 100))))) = p2 * (B.2.1 kExchange 0) / nI 100 := by rw [if_neg c1, r4, l1]
      have e1000 : (nI 1000).toInt = 1000 := nI_toInt (by omega)
      rw [w_1] at r1
      have hp0 := Int.mul_nonneg (show 0 ≤ p2.toInt by omega) (show 0 ≤ (B.2.1 kExchange 0).toInt by omega)
      have hp1 : p2.toInt * (B.2.1 kExchange 0).toInt ≤ 1000 * 1000 := Int.mul_le_mul (by omega) ns.2 (by omega) (by omega)
      obtain ⟨x1, x2⟩ := share_int (S := A) (a := p2) (p := B.2.1 kExchange 0) (w := nI 100) (by omega) (by omega) (by rw [i100_toInt]; omega) (by omega)
      rw [i100_toInt] at x2
      have shA : f_X11_share A p2 (A.1 kExchange 0) (nI 100) = p2 * (B.2.1 kExchange 0) / nI 100 := by rw [sE, x1]
      rw [x1] at x2
      obtain ⟨x, hx⟩ : ∃ x, p2 * (B.2.1 kExchange 0) / nI 100 = x := ⟨_, rfl⟩
      rw [hx] at x2 shA
      replace h5 := h5.trans hx
      have x0 : 0 ≤ x.toInt ∧ x.toInt ≤ 10000 := by
        rw [x2]
        generalize p2.toInt * (B.2.1 kExchange 0).toInt = z at *
        omega
      by_cases c : B.2.1 kBankOf (ix p1) = -1
      · obtain ⟨k1, k2⟩ := abroad_k (p3 := p3) 1 x 0 (b3 B) h5 (by rw [if_neg c1, acct_R, if_pos c, l0]) (show _ = nI 3 by rw [if_neg c1, r4, l1, if_pos rfl]) hm (fun q => absurd q c3)
        refine Or.inr (Or.inr (Or.inl ⟨⟨b2 A, r3 A, fun v3 e3 v5 e5 => ?_⟩, k1, k2 c3⟩))
        rw [sB, if_pos c] at e5
        exact e5.symm
      · have hb4 := bank4 h.2 b1.2 c
        have sR : A.1 kReserves (f_X3_bank A (A.1 kBankOf (f_X3_holder A p1))) = B.2.1 kReserves (ix (B.2.1 kBankOf (ix p1))) := by
          rw [sB, bank_in hb4]
          exact h.1.sh kReserves _ hb4.2
        have h18 : (if (1 : Int32) = 0 then (0) else (lt (f_X12_hasAccount B p1) (fun (v8 : Int32) => if v8 = 0 then (0) else (if p3 = 0 then (if (B.2.1 kForeign 0) < p2 then (0) else (lt (f_X12_free B p1) (fun (v13 : Int32) => if v13 < x then (0) else (if (B.2.1 kReserves (ix (B.2.1 kBankOf (ix p1)))) < x then (0) else (1))))) else (1))))) = abE p3 (B.2.1 kForeign 0) p2 fr x (B.2.1 kReserves (ix (B.2.1 kBankOf (ix p1)))) := by
          rw [if_neg c1, acct_R, if_neg c, l1, fB, lt_x]
          rfl
        have hA12 : ∀ v12 : Int32, (if p3 = 0 then (if (A.1 kForeign 0) < p2 then (0) else (lt (f_X5_free A (f_X3_holder A p1)) (fun (v9 : Int32) => if v9 < x then (0) else (if (A.1 kReserves (f_X3_bank A (A.1 kBankOf (f_X3_holder A p1)))) < x then (0) else (1))))) else (1)) = v12 → abE p3 (B.2.1 kForeign 0) p2 fr x (B.2.1 kReserves (ix (B.2.1 kBankOf (ix p1)))) = v12 := fun v12 e => by
          rw [sFr, lt_x, sFo, sR] at e
          exact e
        have n5 : ∀ v5 : Int32, (if (A.1 kBankOf (f_X3_holder A p1)) = (-1) then (0) else (1)) = v5 → ok_X11_needState A v5 := fun v5 e5 => by
          rw [sB, if_neg c] at e5
          rw [← e5]
          exact c1
        rcases abE_cases (p3 := p3) (F := B.2.1 kForeign 0) (p2 := p2) (fr := fr) (x := x) (re := B.2.1 kReserves (ix (B.2.1 kBankOf (ix p1)))) with z | ⟨z, zz⟩
        · rw [z] at h18 hA12
          obtain ⟨k1, k2⟩ := abroad_k (p3 := p3) 1 x 0 (b3 B) h5 h18 (show _ = nI 3 by rw [if_neg c1, r4, l1, if_pos rfl]) hm (fun q => absurd q c3)
          refine Or.inr (Or.inr (Or.inr (Or.inl ⟨⟨b2 A, r3 A, fun v3 e3 v5 e5 => ⟨n5 v5 e5, fun v12 e12 => ?_⟩⟩, k1, k2 c3⟩)))
          rw [← e3, shA] at e12
          exact (hA12 v12 e12).symm
        · rw [z] at h18 hA12
          have h23 : (if (1 : Int32) = 0 then (1) else (lt (f_X12_in B p2 1 (nI 1000)) (fun (v20 : Int32) => if v20 = 0 then (nI 2) else (if (1 : Int32) = 0 then (nI 3) else (0))))) = 0 := by rw [if_neg c1, r4, l1, if_neg c1]
          obtain ⟨k1, -⟩ := abroad_k (p3 := p3) 1 x 1 (b3 B) h5 h18 h23 hm (fun _ => ⟨c, c1⟩)
          obtain ⟨S7, s1, s2, ⟨s3, s4⟩, -, -, s5⟩ := h.zero
          obtain ⟨b, hbb, hbl⟩ : ∃ b, S7.2.1 kBankOf (ix p1) = nI b ∧ b < 4 := ⟨ix (B.2.1 kBankOf (ix p1)), by rw [s5 kBankOf (by decide)]; exact hb4.1, hb4.2⟩
          have eb : ix (nI b) = b := ix_nI (by omega)
          have hbB : B.2.1 kBankOf (ix p1) = nI b := by rw [← s5 kBankOf (by decide)]; exact hbb
          have hn7 : S7.2.1 kBankOf (ix p1) ≠ -1 := by
            rw [s5 kBankOf (by decide)]
            exact c
          rw [hbB, eb] at zz
          obtain ⟨s, hs⟩ : ∃ s : Int32, (if p3 = 0 then (-x) else (x)) = s := ⟨_, rfl⟩
          obtain ⟨r, hr⟩ : ∃ r : Int32, (if p3 = 0 then (-p2) else (p2)) = r := ⟨_, rfl⟩
          have sA7 := congrFun (s5 kAccounts (by decide)) (ix p1)
          have sK7 := congrFun (s5 kBlocked (by decide)) (ix p1)
          have sR7 := congrFun (s5 kReserves (by decide)) b
          have hxx := re_hi s4 hu hbl
          have hss : -10000 ≤ s.toInt ∧ s.toInt ≤ 10000 ∧ (B.2.1 kBlocked (ix p1)).toInt ≤ (B.2.1 kAccounts (ix p1)).toInt + s.toInt ∧ 0 ≤ (B.2.1 kReserves b).toInt + s.toInt := by
            rw [sR7] at hxx
            rw [← hs]
            by_cases w : p3 = 0
            · obtain ⟨z1, z2⟩ := zz w
              rw [if_pos w]
              have tn : (-x).toInt = -x.toInt := by
                rw [w_neg]
                omega
              omega
            · rw [if_neg w]
              omega
          have vs : ∀ v15 : Int32, (if p3 = 0 then ((-1)) else (1)) = v15 → v15 * x = s ∧ v15 * p2 = r := fun v15 e15 => by
            rw [← e15, ← hs, ← hr]
            by_cases w : p3 = 0
            · rw [if_pos w, if_pos w, if_pos w]
              constructor <;> grind
            · rw [if_neg w, if_neg w, if_neg w]
              constructor <;> grind
          obtain ⟨vs1, vs2⟩ := vs _ rfl
          obtain ⟨q3, q4, q5, q6⟩ := Rel.change (A := A) (v := s) s3 b1
          obtain ⟨X, hX⟩ : ∃ X, f_X3_change A p1 s = X := ⟨_, rfl⟩
          rw [hX] at q5 q6
          have q7 := q6.reserves (i := b) (v := S7.2.1 kReserves b + s) hbl rfl
          have q8 := q7.plain kForeign 0 (by decide) (v := S7.2.1 kForeign 0 + r) rfl
          have q9 := q8.fcost (v := S7.2.1 kForeignCost 0 + s) rfl
          rw [show ∀ z : Int32, upd2 S7.2.1 kAccounts (ix p1) z kReserves b = S7.2.1 kReserves b from fun _ => rfl, show ∀ z y w : Int32, upd2 (upd2 (upd2 S7.2.1 kAccounts (ix p1) z) kReserves b y) kForeign 0 w kForeignCost 0 = S7.2.1 kForeignCost 0 from fun _ _ _ => rfl, u_comm (show kForeign ≠ kForeignCost by decide) (C := upd2 (upd2 S7.2.1 kAccounts (ix p1) (S7.2.1 kAccounts (ix p1) + s)) kReserves b (S7.2.1 kReserves b + s))] at q9
          have ea : (S7.2.1 kAccounts (ix p1) + s).toInt = (S7.2.1 kAccounts (ix p1)).toInt + s.toInt := by
            rw [w_add, sA7]
            omega
          have er : (S7.2.1 kReserves b + s).toInt = (S7.2.1 kReserves b).toInt + s.toInt := by
            rw [w_add]
            rw [sR7] at hxx ⊢
            omega
          have m1 := N_acc (i := ix p1) (x := S7.2.1 kAccounts (ix p1) + s) s4 b1.2 hn7 (by rw [ea, sA7, sK7]; omega)
          have m2 := N_re (b := b) (x := S7.2.1 kReserves b + s) m1 hbl (by rw [er, sR7]; omega)
          rw [show ∀ z : Int32, upd2 S7.2.1 kAccounts (ix p1) z kReserves b = S7.2.1 kReserves b from fun _ => rfl] at m2
          have m3 := (m2.umono (u2 := u + 10000) (by omega)).vmono (v2 := u + 10000) (by omega)
          have sBx : A.1 kBankOf (ix p1) = nI b := (s3.sh kBankOf _ b1.2).trans hbb
          have eA : f_X11_abroad A p1 p2 p3 = (x, (upd2 (upd2 (upd2 X.1 kReserves b (S7.2.1 kReserves b + s)) kForeign 0 (S7.2.1 kForeign 0 + r)) kForeignCost 0 (S7.2.1 kForeignCost 0 + s), X.2)) := by
            unfold f_X11_abroad
            rw [shA, lt_x, lt_x, lt_x, lt_x, vs1, vs2, hX, lt_x, lt_x, lt_x, lt_x, holder_in b1, sBx, bank_nI hbl]
            dsimp only
            rw [q5 kReserves (by decide) (by decide), s3.sh kReserves b hbl, show ∀ z : Int32, upd2 X.1 kReserves b z kForeign 0 = X.1 kForeign 0 from fun _ => rfl, q5 kForeign (by decide) (by decide), s3.sh kForeign 0 (by decide), show ∀ z y : Int32, upd2 (upd2 X.1 kReserves b z) kForeign 0 y kForeignCost 0 = X.1 kForeignCost 0 from fun _ _ => rfl, q5 kForeignCost (by decide) (by decide), s3.sh kForeignCost 0 (by decide)]
          have eB : f_X12_abroad B p1 p2 p3 = (x, (S7.1, upd2 (upd2 (upd2 (upd2 S7.2.1 kAccounts (ix p1) (S7.2.1 kAccounts (ix p1) + s)) kReserves b (S7.2.1 kReserves b + s)) kForeignCost 0 (S7.2.1 kForeignCost 0 + s)) kForeign 0 (S7.2.1 kForeign 0 + r), S7.2.2)) := by
            unfold f_X12_abroad
            rw [b3, lt_x, h5, lt_x, h18, lt_x, h23, lt_x, tail_yes, s1, hs, hr, lt_x, lt_x, lt_x, lt_x, lt_x, lt_x]
            dsimp only
            rw [show ∀ z : Int32, upd2 S7.2.1 kAccounts (ix p1) z kBankOf (ix p1) = nI b from fun _ => hbb, eb]
            rfl
          refine Or.inr (Or.inr (Or.inr (Or.inr ⟨⟨b2 A, r3 A, fun v3 e3 v5 e5 => ⟨n5 v5 e5, fun v12 e12 => ⟨?_, fun v15 e15 => ?_⟩⟩⟩, k1, ?_⟩)))
          · rw [← e3, shA] at e12
            rw [← hA12 v12 e12]
            exact c1
          · rw [← e3, shA, (vs v15 e15).1]
            exact q3
          · exact (Good.mk (u := u + 10000) (x := (x, (upd2 (upd2 (upd2 X.1 kReserves b (S7.2.1 kReserves b + s)) kForeign 0 (S7.2.1 kForeign 0 + r)) kForeignCost 0 (S7.2.1 kForeignCost 0 + s), X.2))) (y := (x, (S7.1, upd2 (upd2 (upd2 (upd2 S7.2.1 kAccounts (ix p1) (S7.2.1 kAccounts (ix p1) + s)) kReserves b (S7.2.1 kReserves b + s)) kForeignCost 0 (S7.2.1 kForeignCost 0 + s)) kForeign 0 (S7.2.1 kForeign 0 + r), S7.2.2))) s2 rfl (q9.d_eq (by grind)) m3).of eA eB
    · obtain ⟨v18, h18⟩ : ∃ v18 : Int32, (if (1 : Int32) = 0 then (0) else (lt (f_X12_hasAccount B p1) (fun (v8 : Int32) => if v8 = 0 then (0) else (if p3 = 0 then (if (B.2.1 kForeign 0) < p2 then (0) else (lt (f_X12_free B p1) (fun (v13 : Int32) => if v13 < 0 then (0) else (if (B.2.1 kReserves (ix (B.2.1 kBankOf (ix p1)))) < 0 then (0) else (1))))) else (1))))) = v18 := ⟨_, rfl⟩
      obtain ⟨k1, k2⟩ := abroad_k (p3 := p3) 1 0 v18 (b3 B) (by rw [if_neg c1, r2, l0]) h18 (show _ = nI 2 by rw [if_neg c1, r2, l0]) hm (fun q => absurd q c2)
      exact Or.inr (Or.inl ⟨⟨b2 A, r1 A⟩, k1, k2 c2⟩)
  · obtain ⟨k1, k2⟩ := abroad_k (p2 := p2) (p3 := p3) 0 0 0 (b2 B) (if_pos rfl) (if_pos rfl) (show _ = 1 from if_pos rfl) (fun q => absurd rfl q) (fun q => absurd q c1)
    exact Or.inl ⟨b1 A, k1, k2 c1⟩
