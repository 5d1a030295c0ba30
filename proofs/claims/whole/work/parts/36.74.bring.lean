/-! bring -/
theorem leaveR_off {R : Col} {i k : Nat} {x g : Int32} (h1 : k ≠ kNotes) (h2 : k ≠ kForged) : leaveR R i x g k = R k := (u_ne h2).trans (u_ne h1)
theorem bring_f {B : Mem} {p1 p2 c : Int32} (v1 : Int32) (h1 : f_X12_isHolder B p1 = v1) (h10 : (if v1 = 0 then (1) else (lt (f_X12_in B p2 1 (nI 10000)) (fun (v3 : Int32) => if v3 = 0 then (nI 2) else (lt (f_X12_hasAccount B p1) (fun (v6 : Int32) => if v6 = 0 then (nI 3) else (if p2 ≤ (B.2.1 kNotes (ix p1)) then (0) else (nI 3))))))) = c) (hm : ¬ v1 = 0 → inb p1 16) (h0 : c ≠ 0) : ok_X12_bring B p1 p2 ∧ f_X12_bring B p1 p2 = (0, T0 B c) := by
  constructor
  · intro w1 e1
    rw [h1] at e1
    subst e1
    refine ⟨fun q _ _ _ => ⟨hm q, fun _ _ _ => hm q⟩, fun w9 e9 => ?_⟩
    rw [h10] at e9
    subst e9
    exact okt_no h0
  · unfold f_X12_bring
    rw [h1, lt_x, h10, lt_x]
    exact tail_no h0 _ _
theorem bring_ok {u : Int} {A B : Mem} (hu : u ≤ 5120000) (h : St u A.1 B.2.1) (p1 p2 : Int32) : (okx_X11_bring_1 A p1 p2 ∧ ok_X12_bring B p1 p2 ∧ f_X12_bring B p1 p2 = (0, T0 B 1)) ∨ (okx_X11_bring_2 A p1 p2 ∧ ok_X12_bring B p1 p2 ∧ f_X12_bring B p1 p2 = (0, T0 B (nI 2))) ∨ (okx_X11_bring_3 A p1 p2 ∧ ok_X12_bring B p1 p2 ∧ f_X12_bring B p1 p2 = (0, T0 B (nI 3))) ∨ (ok_X11_bring A p1 p2 ∧ ok_X12_bring B p1 p2 ∧ Good (u + 10000) (f_X11_bring A p1 p2) (f_X12_bring B p1 p2)) := by
  rcases hol_cases p1 with ⟨b1, b2, b3⟩ | ⟨b1, b2⟩
  · have sB : A.1 kBankOf (f_X3_holder A p1) = B.2.1 kBankOf (ix p1) := by
      rw [holder_in b1]
      exact h.1.sh kBankOf _ b1.2
    have sN : A.1 kNotes (f_X3_holder A p1) = B.2.1 kNotes (ix p1) := by
      rw [holder_in b1]
      exact h.1.sh kNotes _ b1.2
    rcases rng_cases p2 1 (nI 10000) with ⟨r1, r2, r3, r4⟩ | ⟨r1, r2⟩
    · by_cases c : B.2.1 kBankOf (ix p1) = -1
      · obtain ⟨k1, k2⟩ := bring_f (p2 := p2) 1 (b3 B) (show _ = nI 3 by rw [if_neg c1, r4, l1, acct_R, if_pos c, l0]) (fun _ => b1) c3
        refine Or.inr (Or.inr (Or.inl ⟨⟨b2 A, r3 A, fun v5 e5 => ?_⟩, k1, k2⟩))
        rw [sB, if_pos c] at e5
        exact e5.symm
      · by_cases c' : B.2.1 kNotes (ix p1) < p2
        · obtain ⟨k1, k2⟩ := bring_f (p2 := p2) 1 (b3 B) (show _ = nI 3 by rw [if_neg c1, r4, l1, acct_R, if_neg c, l1, if_neg (by rw [w_lt] at c'; rw [w_le]; omega)]) (fun _ => b1) c3
          refine Or.inr (Or.inr (Or.inl ⟨⟨b2 A, r3 A, fun v5 e5 => ?_⟩, k1, k2⟩))
          rw [sB, if_neg c, sN, if_pos c'] at e5
          exact e5.symm
        · have gd : (if (1 : Int32) = 0 then (1) else (lt (f_X12_in B p2 1 (nI 10000)) (fun (v3 : Int32) => if v3 = 0 then (nI 2) else (lt (f_X12_hasAccount B p1) (fun (v6 : Int32) => if v6 = 0 then (nI 3) else (if p2 ≤ (B.2.1 kNotes (ix p1)) then (0) else (nI 3))))))) = 0 := by rw [if_neg c1, r4, l1, acct_R, if_neg c, l1, if_pos (by rw [w_lt] at c'; rw [w_le]; omega)]
          obtain ⟨S7, s1, s2, ⟨s3, s4⟩, -, -, s5⟩ := h.zero
          have e10k : (nI 10000).toInt = 10000 := nI_toInt (by omega)
          rw [w_1] at r1
          have cB := c'
          rw [w_lt, ← s5 kNotes (by decide)] at c'
          have hb4 : inb (S7.2.1 kBankOf (ix p1)) 4 := by
            rw [s5 kBankOf (by decide)]
            exact bank4 h.2 b1.2 c
          obtain ⟨b, hbb, hbl⟩ : ∃ b, S7.2.1 kBankOf (ix p1) = nI b ∧ b < 4 := ⟨_, hb4.1, hb4.2⟩
          have eb : ix (nI b) = b := ix_nI (by omega)
          have hn7 : S7.2.1 kBankOf (ix p1) ≠ -1 := by
            rw [s5 kBankOf (by decide)]
            exact c
          obtain ⟨a1, a2, a3, a4, a5⟩ := has_hi s4 b1.2
          have hN : 0 < (S7.2.1 kNotes (ix p1)).toInt := by omega
          obtain ⟨g1, g2, g3, g4⟩ := lvG_bd (x := p2) (f := S7.2.1 kForged (ix p1)) (n := S7.2.1 kNotes (ix p1)) r1 (by omega) a1 a2
          obtain ⟨g, hg⟩ : ∃ g, lvG p2 (S7.2.1 kForged (ix p1)) (S7.2.1 kNotes (ix p1)) = g := ⟨_, rfl⟩
          rw [hg] at g1 g2 g3 g4
          have nx : (-p2).toInt = -p2.toInt := by
            rw [w_neg]
            omega
          have ng : (-g).toInt = -g.toInt := by
            rw [w_neg]
            omega
          have ey : (p2 - g).toInt = p2.toInt - g.toInt := by
            rw [w_sub]
            omega
          have q1 := leave_rel (x := -p2) (g := -g) s3 b1.2
          have m1 := leave_num (x := -p2) (g := -g) s4 hu b1.2 ⟨by omega, by omega⟩ ⟨by omega, by omega⟩ (by omega) (by omega)
          have hx := re_hi s4 hu hbl
          obtain ⟨X, hX⟩ : ∃ X, leaveR A.1 (ix p1) (-p2) (-g) = X := ⟨_, rfl⟩
          obtain ⟨Y, hY⟩ : ∃ Y, leaveR S7.2.1 (ix p1) (-p2) (-g) = Y := ⟨_, rfl⟩
          rw [hX, hY] at q1
          rw [hY] at m1
          have oY : ∀ k, k ≠ kNotes → k ≠ kForged → Y k = S7.2.1 k := fun k h1 h2 => by
            rw [← hY]
            exact leaveR_off h1 h2
          have oX : ∀ k, k ≠ kNotes → k ≠ kForged → X k = A.1 k := fun k h1 h2 => by
            rw [← hX]
            exact leaveR_off h1 h2
          have yB : Y kBankOf (ix p1) = nI b := by rw [oY kBankOf (by decide) (by decide)]; exact hbb
          have xB : X kBankOf (ix p1) = nI b := (q1.sh kBankOf _ b1.2).trans yB
          have xV : X kVaults b = Y kVaults b := q1.sh kVaults b hbl
          have q2 := q1.vaults (i := b) (v := Y kVaults b + (p2 - g)) hbl rfl
          obtain ⟨q3, q4, q5, q6⟩ := Rel.change (A := (upd2 X kVaults b (Y kVaults b + (p2 - g)), A.2)) (v := p2 - g) q2 b1
          rw [show upd2 Y kVaults b (Y kVaults b + (p2 - g)) kAccounts (ix p1) = Y kAccounts (ix p1) from rfl] at q6
          have yV := congrFun (oY kVaults (by decide) (by decide)) b
          have yA := congrFun (oY kAccounts (by decide) (by decide)) (ix p1)
          have yK := congrFun (oY kBlocked (by decide) (by decide)) (ix p1)
          have ev : (Y kVaults b + (p2 - g)).toInt = (S7.2.1 kVaults b).toInt + (p2.toInt - g.toInt) := by
            rw [w_add, ey, yV]
            omega
          have ea : (Y kAccounts (ix p1) + (p2 - g)).toInt = (S7.2.1 kAccounts (ix p1)).toInt + (p2.toInt - g.toInt) := by
            rw [w_add, ey, yA]
            omega
          have m2 := N_va (b := b) (x := Y kVaults b + (p2 - g)) m1 hbl (by omega)
          have m3 := N_acc (i := ix p1) (x := Y kAccounts (ix p1) + (p2 - g)) m2 b1.2 (show Y kBankOf (ix p1) ≠ -1 by rw [yB, ← hbb]; exact hn7) (show (Y kBlocked (ix p1)).toInt ≤ _ by rw [yK]; omega)
          rw [show upd2 Y kVaults b (Y kVaults b + (p2 - g)) kAccounts (ix p1) = Y kAccounts (ix p1) from rfl, yA, yV] at m3
          rw [yA] at ea
          rw [yV] at ev
          rw [yA, yV] at q6
          rw [yV] at q3 q5
          have m4 := (m3.umono (u2 := u + 10000) (by omega)).vmono (v2 := u + 10000) (by omega)
          have sN7 : A.1 kNotes (ix p1) = S7.2.1 kNotes (ix p1) := s3.sh kNotes _ b1.2
          have sF7 : A.1 kForged (ix p1) = S7.2.1 kForged (ix p1) := s3.sh kForged _ b1.2
          have fA : f_X5_forgedAmong A (f_X3_holder A p1) p2 = g := by rw [holder_in b1, among_C (by rw [sN7]; exact hN), sN7, sF7, hg]
          have tA : f_X5_takeNotes A (f_X3_holder A p1) (-p2) (-g) = (X, A.2) := by rw [holder_in b1, take_C, hX]
          have bA : f_X3_bank (X, A.2) (((X, A.2) : Mem).1 kBankOf (f_X3_holder A p1)) = b := by
            rw [holder_in b1]
            dsimp only
            rw [xB, bank_nI hbl]
          have eA : f_X11_bring A p1 p2 = (p2 - g, f_X3_change (upd2 X kVaults b (S7.2.1 kVaults b + (p2 - g)), A.2) p1 (p2 - g)) := by
            unfold f_X11_bring
            rw [lt_x, fA, lt_x, tA, lt_x, bA, lt_x]
            dsimp only
            rw [xV, yV, lt_x]
          have eB : f_X12_bring B p1 p2 = (p2 - g, (S7.1, upd2 (upd2 Y kVaults b (S7.2.1 kVaults b + (p2 - g))) kAccounts (ix p1) (S7.2.1 kAccounts (ix p1) + (p2 - g)), S7.2.2)) := by
            unfold f_X12_bring
            rw [b3, lt_x, gd, lt_x, tail_yes, s1, leave_R, hg, hY, lt_x, lt_x]
            dsimp only
            rw [yB, eb, yV, lt_x]
            dsimp only
            rw [show upd2 Y kVaults b (S7.2.1 kVaults b + (p2 - g)) kAccounts (ix p1) = S7.2.1 kAccounts (ix p1) from yA, lt_x]
          refine Or.inr (Or.inr (Or.inr ⟨⟨b2 A, r3 A, fun v5 e5 => ⟨?_, fun v7 e7 S8 e8 S9 e9 => ?_⟩⟩, ?_, ?_⟩))
          · rw [sB, if_neg c, sN, if_neg cB] at e5
            rw [← e5]
            exact c1
          · rw [fA] at e7
            subst e7
            rw [tA] at e8
            subst e8
            rw [bA] at e9
            rw [← e9]
            dsimp only
            rw [xV, yV]
            exact q3
          · intro v1 e1
            rw [b3] at e1
            subst e1
            refine ⟨fun _ _ _ _ => ⟨b1, fun _ _ _ => b1⟩, fun v9 e9 => ?_⟩
            rw [gd] at e9
            subst e9
            refine okt_yes ?_
            rw [s1]
            refine ⟨leave_okR b1 hN, fun S15 e15 v16 e16 => ?_⟩
            rw [leave_R, hg, hY] at e15
            rw [← e15]
            refine ⟨b1, ?_, ?_, fun S20 e20 => ⟨b1, b1⟩⟩
            · show inb (Y kBankOf (ix p1)) 4
              rw [yB]
              exact inb_nI hbl (by omega)
            · show inb (Y kBankOf (ix p1)) 4
              rw [yB]
              exact inb_nI hbl (by omega)
          · have t0 : Y kThrown 0 = 0 := by
              rw [oY kThrown (by decide) (by decide)]
              exact s2
            exact (Good.mk (u := u + 10000) (x := (p2 - g, f_X3_change (upd2 X kVaults b (S7.2.1 kVaults b + (p2 - g)), A.2) p1 (p2 - g))) (y := (p2 - g, (S7.1, upd2 (upd2 Y kVaults b (S7.2.1 kVaults b + (p2 - g))) kAccounts (ix p1) (S7.2.1 kAccounts (ix p1) + (p2 - g)), S7.2.2))) t0 rfl (q6.d_eq (by grind)) m4).of eA eB
    · obtain ⟨k1, k2⟩ := bring_f (p2 := p2) 1 (b3 B) (show _ = nI 2 by rw [if_neg c1, r2, l0]) (fun _ => b1) c2
      exact Or.inr (Or.inl ⟨⟨b2 A, r1 A⟩, k1, k2⟩)
  · obtain ⟨k1, k2⟩ := bring_f (p2 := p2) 0 (b2 B) (show _ = 1 from if_pos rfl) (fun q => absurd rfl q) c1
    exact Or.inl ⟨b1 A, k1, k2⟩
