/-! interest on loans -/
def okc_int (σ2 : Mem) (j1 : Nat) : Prop := (((0 < (σ2.1 kLoanLefts (f_X7_at σ2 (nI j1)))) → ((∀ v5 : Int32, (f_X11_share σ2 (σ2.1 kLoanLefts (f_X7_at σ2 (nI j1))) (σ2.1 kLoanRates (f_X7_at σ2 (nI j1))) (nI 1000)) = v5 → ((∀ v6 : Int32, (f_X3_canPayOwner σ2 (f_X7_at σ2 (nI j1)) v5) = v6 → (((v6 = 0) → ((ok_X11_missInterestOn σ2 (f_X7_at σ2 (nI j1))))) ∧ ((¬ (v6 = 0)) → ((ok_X11_takeInterestOn σ2 (f_X7_at σ2 (nI j1)) v5))))))))))
def okr_int (σ2 : Mem) (j1 : Nat) : Prop := ((j1 < 20) ∧ (j1 < 20) ∧ (j1 < 20) ∧ ((¬ ((σ2.2.1 kLoanLefts j1) ≤ 0)) → (((¬ ((((σ2.2.1 kLoanLefts j1) * (σ2.2.1 kLoanRates j1)) / (nI 1000)) = 0)) → ((ok_X12_canPay σ2 (nI j1) (((σ2.2.1 kLoanLefts j1) * (σ2.2.1 kLoanRates j1)) / (nI 1000))))) ∧ (∀ v12 : Int32, (if (((σ2.2.1 kLoanLefts j1) * (σ2.2.1 kLoanRates j1)) / (nI 1000)) = 0 then (1) else (lt (f_X12_canPay σ2 (nI j1) (((σ2.2.1 kLoanLefts j1) * (σ2.2.1 kLoanRates j1)) / (nI 1000))) (fun (v10 : Int32) => if v10 = 0 then (0) else (1)))) = v12 → (((v12 = 0) → ((j1 < 20))) ∧ (∀ v15 : Int32, (if v12 = 0 then ((σ2.2.1 kOverdue j1) + 1) else (0)) = v15 → ((j1 < 20) ∧ (∀ S17 : Mem, ((σ2.1, upd2 σ2.2.1 kOverdue j1 v15, σ2.2.2)) = S17 → ((j1 < 20) ∧ ((¬ ((S17.2.1 kOverdue j1) = (nI 3))) → ((j1 < 20))) ∧ (∀ v21 : Int32, (if (S17.2.1 kOverdue j1) = (nI 3) then (0) else (S17.2.1 kLoanLefts j1)) = v21 → ((j1 < 20) ∧ (∀ S23 : Mem, ((S17.1, upd2 S17.2.1 kLoanLefts j1 v21, S17.2.2)) = S23 → (((¬ (v12 = 0)) → (((¬ ((((σ2.2.1 kLoanLefts j1) * (σ2.2.1 kLoanRates j1)) / (nI 1000)) ≤ 0)) → ((ok_X12_endsMoney S23 (nI j1) (((σ2.2.1 kLoanLefts j1) * (σ2.2.1 kLoanRates j1)) / (nI 1000))))))))))))))))))))
theorem endR_comm {R : Col} {j k i : Nat} {m w : Int32} (h : [7, 8, 16, 25, 26].contains k = false) : endR (upd2 R k i w) j m = upd2 (endR R j m) k i w := by
  have hn : ∀ c : Nat, [7, 8, 16, 25, 26].contains c = true → c ≠ k := fun c hc q => by rw [q, h] at hc; cases hc
  unfold endR
  rw [u_ne (hn kBankOf (by decide)), u_ne (hn kLoanHolders (by decide)), u_ne (hn kLoanBanks (by decide)), u_ne (hn kAccounts (by decide)), u_ne (hn kReserves (by decide))]
  split
  · rw [u_comm (hn kAccounts (by decide)).symm]
  · split
    · rw [u_comm (hn kAccounts (by decide)).symm, u_comm (hn kReserves (by decide)).symm]
    · rw [u_comm (hn kAccounts (by decide)).symm, u_comm (hn kReserves (by decide)).symm, u_comm (hn kReserves (by decide)).symm]
theorem z03 : ¬ (0 : Int32) = nI 3 := by decide
theorem i3_toInt : (nI 3).toInt = 3 := nI_toInt (by omega)
theorem i1000_toInt : (nI 1000).toInt = 1000 := nI_toInt (by omega)
theorem i100_toInt : (nI 100).toInt = 100 := nI_toInt (by omega)
theorem N_over {u v L : Int} {R : Col} {j : Nat} {w x : Int32} (n : Num u v L R) (h0 : 0 ≤ w.toInt) (h3 : w.toInt ≤ 3) (x0 : 0 ≤ x.toInt) (x1 : x.toInt ≤ 10000) (hx : 0 < x.toInt → w.toInt ≤ 2) (hj : j < ix (R kLoans 0)) : Num u v L (upd2 (upd2 R kOverdue j w) kLoanLefts j x) := by
  obtain ⟨nh, nu, np, nb, nv, nf, nl, nd, ns, nw, nq⟩ := n
  refine ⟨nh, nu, np, nb, nv, nf, ?_, nd, ns, nw, nq⟩
  show zL (R kLoans) (R kLoanHolders) (R kLoanBanks) (ru (R kLoanLefts) j x) (R kLoanRates) (ru (R kOverdue) j w)
  refine ⟨nl.1, fun l hl => ?_, fun l hl h2 => ?_⟩
  · obtain ⟨p1, p2, p3, p4, p5, p6, p7, p8, p9⟩ := nl.2.1 l hl
    by_cases c : l = j
    · subst c
      rw [ru_eq, ru_eq]
      exact ⟨p1, p2, x0, x1, p5, p6, h0, h3, hx⟩
    · rw [ru_ne c, ru_ne c]
      exact ⟨p1, p2, p3, p4, p5, p6, p7, p8, p9⟩
  · rw [ru_ne (by omega)]
    exact nl.2.2 l hl h2
theorem int_step {u v L : Int} {A B : Mem} {d : Int32} {j : Nat} (h : Rel A.1 B.2.1 d) (n : Num u v L B.2.1) (hv : v ≤ 5120000) (hj : j < ix (B.2.1 kLoans 0)) : okc_int A j ∧ okr_int B j ∧ Rel (b2_X11_takeInterest j A).1 (b2_X12_takesInterest j B).2.1 d ∧ Num u v L (b2_X12_takesInterest j B).2.1 ∧ (b2_X12_takesInterest j B).2.1 kLoans 0 = B.2.1 kLoans 0 := by
  have hl := n.2.2.2.2.2.2.1
  have hj20 : j < 20 := by
    have := hl.1.2
    omega
  obtain ⟨hx, hlb, l1, l2, l3, l4, l5, l6, l7⟩ := hl.2.1 j hj
  have hL : A.1 kLoanLefts j = B.2.1 kLoanLefts j := h.sh kLoanLefts j hj20
  have hR : A.1 kLoanRates j = B.2.1 kLoanRates j := h.sh kLoanRates j hj20
  have hO : A.1 kOverdue j = B.2.1 kOverdue j := h.sh kOverdue j hj20
  have hLb : A.1 kLoanBanks j = B.2.1 kLoanBanks j := h.sh kLoanBanks j hj20
  have pb : (B.2.1 kLoanLefts j).toInt * (B.2.1 kLoanRates j).toInt ≤ 1000000 := Int.le_trans (Int.mul_le_mul l2 l4 l3 (by omega)) (by omega)
  obtain ⟨s1, s2⟩ := share_int (S := A) (w := nI 1000) l1 l3 (by rw [i1000_toInt]; omega) (by omega)
  have pos := Int.mul_nonneg l1 l3
  rw [i1000_toInt] at s2
  have s3 : 0 ≤ (f_X11_share A (B.2.1 kLoanLefts j) (B.2.1 kLoanRates j) (nI 1000)).toInt := by omega
  unfold okc_int okr_int b2_X11_takeInterest b2_X12_takesInterest
  rw [at7_nI hj20, hL, hR, ← s1]
  revert s2 s3
  generalize f_X11_share A (B.2.1 kLoanLefts j) (B.2.1 kLoanRates j) (nI 1000) = I
  intro s2 s3
  by_cases c0 : 0 < B.2.1 kLoanLefts j
  · have c0' : ¬ B.2.1 kLoanLefts j ≤ 0 := by
      rw [w_le]
      rw [w_lt] at c0
      omega
    have c0i : 0 < (B.2.1 kLoanLefts j).toInt := by
      rw [w_lt, w_0] at c0
      exact c0
    have l7 := l7 c0i
    simp only [if_pos c0, if_neg c0', lt_x]
    have key : f_X3_canPayOwner A j I = (if I = 0 then 1 else if f_X12_canPay B (nI j) I = 0 then 0 else 1) ∧ (¬ I = 0 → ok_X12_canPay B (nI j) I) ∧ (f_X3_canPayOwner A j I ≠ 0 → I ≠ 0 → inb (B.2.1 kBankOf (ix (B.2.1 kLoanHolders j))) 4 ∧ I.toInt ≤ (B.2.1 kAccounts (ix (B.2.1 kLoanHolders j))).toInt - (B.2.1 kBlocked (ix (B.2.1 kLoanHolders j))).toInt ∧ (B.2.1 kBankOf (ix (B.2.1 kLoanHolders j)) = B.2.1 kLoanBanks j ∨ I.toInt ≤ (B.2.1 kReserves (ix (B.2.1 kBankOf (ix (B.2.1 kLoanHolders j))))).toInt)) := by
      by_cases cI : I = 0
      · rw [if_pos cI, cI, canO_0 h n hj]
        exact ⟨rfl, fun q => absurd rfl q, fun _ q => absurd rfl q⟩
      · have hI : 1 ≤ I.toInt := by
          have : I.toInt ≠ 0 := fun q => cI (Int32.toInt_inj.mp (q.trans w_0.symm))
          omega
        obtain ⟨k1, k2, k3⟩ := canO_ok h n hj hI
        rw [if_neg cI, k1]
        refine ⟨?_, fun _ => k2, fun q _ => ?_⟩
        · rcases k3 with k3 | ⟨k3, -⟩
          · rw [k3, if_pos rfl]
          · rw [k3, if_neg (by decide)]
        · rcases k3 with k3 | ⟨-, k3⟩
          · exact absurd k3 q
          · exact k3
    obtain ⟨key1, key2, key3⟩ := key
    rw [← key1]
    by_cases c6 : f_X3_canPayOwner A j I = 0
    · rw [if_pos c6, if_pos c6, if_pos c6]
      have e1 : (B.2.1 kOverdue j + 1).toInt = (B.2.1 kOverdue j).toInt + 1 := by
        rw [w_add, w_1]
        omega
      have r1 : Rel (upd2 A.1 kOverdue j (B.2.1 kOverdue j + 1), A.2).1 (upd2 B.2.1 kOverdue j (B.2.1 kOverdue j + 1)) d := h.plain kOverdue j (by decide) rfl
      have e2 : upd2 B.2.1 kOverdue j (B.2.1 kOverdue j + 1) kOverdue j = B.2.1 kOverdue j + 1 := upd2_eq
      have e3 : upd2 A.1 kOverdue j (B.2.1 kOverdue j + 1) kOverdue j = B.2.1 kOverdue j + 1 := upd2_eq
      have e4 : upd2 B.2.1 kOverdue j (B.2.1 kOverdue j + 1) kLoanLefts j = B.2.1 kLoanLefts j := rfl
      have e5 : upd2 A.1 kOverdue j (B.2.1 kOverdue j + 1) kLoanLefts j = B.2.1 kLoanLefts j := hL
      have e6 : upd2 A.1 kOverdue j (B.2.1 kOverdue j + 1) kLoanBanks j = B.2.1 kLoanBanks j := hLb
      obtain ⟨o1, -, -, r2⟩ := r1.noteC (-(B.2.1 kLoanLefts j))
      refine ⟨fun _ v5 e5' v6 e6' => ⟨fun _ => ?_, fun q => ?_⟩, ⟨hj20, hj20, hj20, fun _ => ⟨key2, fun v12 e12 => ⟨fun _ => hj20, fun v15 e15 => ⟨hj20, fun S17 e17 => ⟨hj20, fun _ => hj20, fun v21 e21 => ⟨hj20, fun S23 e23 q => ?_⟩⟩⟩⟩⟩⟩, ?_⟩
      · intro S1 e1
        subst e1
        intro _ _
        show ok_X3_noteCentral (upd2 A.1 kOverdue j (A.1 kOverdue j + 1), A.2) (-(upd2 A.1 kOverdue j (A.1 kOverdue j + 1) kLoanLefts j))
        rw [hO, e5]
        exact o1
      · rw [← e5'] at e6'
        exact absurd (e6'.symm.trans c6) q
      · refine absurd ?_ q
        rw [← e12]
        exact c6
      · unfold f_X11_missInterestOn
        simp only [lt_x]
        rw [hO, e2, e3, e4, e5, e6]
        by_cases c3 : B.2.1 kOverdue j + 1 = nI 3
        · rw [if_pos c3, if_pos (by rw [c3]; exact Int32.le_refl _)]
          refine ⟨?_, ?_, rfl⟩
          · by_cases c4 : B.2.1 kLoanBanks j = nI 4
            · rw [if_pos c4]
              have r3 := r2.left (l := j) (v := 0) (w := 0) hj rfl
              rw [show upd2 B.2.1 kOverdue j (B.2.1 kOverdue j + 1) kLoanBanks j = B.2.1 kLoanBanks j from rfl, if_pos c4, e4] at r3
              exact r3.d_eq (by grind)
            · rw [if_neg c4]
              have r3 := r1.left (l := j) (v := 0) (w := 0) hj rfl
              rw [show upd2 B.2.1 kOverdue j (B.2.1 kOverdue j + 1) kLoanBanks j = B.2.1 kLoanBanks j from rfl, if_neg c4] at r3
              exact r3.d_eq (by grind)
          · exact N_over n (by omega) (by omega) (by rw [w_0]; omega) (by rw [w_0]; omega) (by rw [w_0]; omega) hj
        · rw [if_neg c3]
          have c3' : (B.2.1 kOverdue j).toInt + 1 ≠ 3 := fun q => c3 (Int32.toInt_inj.mp (by rw [e1, i3_toInt]; exact q))
          rw [if_neg (by rw [w_le, i3_toInt, e1]; omega)]
          refine ⟨?_, ?_, rfl⟩
          · have e7 : upd2 (upd2 B.2.1 kOverdue j (B.2.1 kOverdue j + 1)) kLoanLefts j (B.2.1 kLoanLefts j) = upd2 B.2.1 kOverdue j (B.2.1 kOverdue j + 1) := uu_same
            show Rel (upd2 A.1 kOverdue j (B.2.1 kOverdue j + 1)) (upd2 (upd2 B.2.1 kOverdue j (B.2.1 kOverdue j + 1)) kLoanLefts j (B.2.1 kLoanLefts j)) d
            rw [e7]
            exact r1
          · exact N_over n (by omega) (by omega) l1 l2 (by omega) hj
    · rw [if_neg c6, if_neg c6, if_neg c6]
      have hz : I = 0 ∨ inb (B.2.1 kBankOf (ix (B.2.1 kLoanHolders j))) 4 := by
        by_cases cI : I = 0
        · exact Or.inl cI
        · exact Or.inr (key3 c6 cI).1
      obtain ⟨o1, r1⟩ := payO_C (m := I) h n hj hz.symm
      have e2 : upd2 B.2.1 kOverdue j 0 kOverdue j = 0 := upd2_eq
      have e4 : upd2 B.2.1 kOverdue j 0 kLoanLefts j = B.2.1 kLoanLefts j := rfl
      have e7 : upd2 (upd2 B.2.1 kOverdue j 0) kLoanLefts j (B.2.1 kLoanLefts j) = upd2 B.2.1 kOverdue j 0 := uu_same
      have n2 : Num u v L (upd2 B.2.1 kOverdue j 0) := by
        rw [← e7]
        exact N_over n (by rw [w_0]; omega) (by rw [w_0]; omega) l1 l2 (by rw [w_0]; omega) hj
      have e9 : ∀ T : Col × Int64, f_X12_endsMoney (B.1, upd2 (upd2 B.2.1 kOverdue j 0) kLoanLefts j (B.2.1 kLoanLefts j), B.2.2) (nI j) I = f_X12_endsMoney (B.1, upd2 B.2.1 kOverdue j 0, B.2.2) (nI j) I := fun _ => by rw [e7]
      have r2 := r1.plain kOverdue j (by decide) (v := 0) rfl
      have eLb : (f_X3_payOwner A j I).1 kLoanBanks j = B.2.1 kLoanBanks j := (r1.sh kLoanBanks j hj20).trans (congrFun (endR_off (by decide) (by decide)) j)
      refine ⟨fun _ v5 e5' v6 e6' => ⟨fun q => ?_, fun _ => ?_⟩, ⟨hj20, hj20, hj20, fun _ => ⟨key2, fun v12 e12 => ⟨fun _ => hj20, fun v15 e15 => ⟨hj20, fun S17 e17 => ⟨hj20, fun _ => hj20, fun v21 e21 => ⟨hj20, fun S23 e23 q q2 => ?_⟩⟩⟩⟩⟩⟩, ?_⟩
      · rw [← e5'] at e6'
        exact absurd (e6'.trans q) c6
      · rw [← e5']
        refine ⟨o1, fun S2 e => ?_⟩
        subst e
        intro S3 e3 _
        subst e3
        exact (Rel.noteC (A := (upd2 (f_X3_payOwner A j I).1 kOverdue j 0, (f_X3_payOwner A j I).2)) r2 I).1
      · have cI : I ≠ 0 := fun z => q2 (by rw [z]; exact Int32.le_refl _)
        rw [if_neg q] at e15
        subst e15
        subst e17
        replace e21 : (if upd2 B.2.1 kOverdue j 0 kOverdue j = nI 3 then (0 : Int32) else upd2 B.2.1 kOverdue j 0 kLoanLefts j) = v21 := e21
        rw [e2, if_neg z03, e4] at e21
        subst e21
        subst e23
        show ok_X12_endsMoney (B.1, upd2 (upd2 B.2.1 kOverdue j 0) kLoanLefts j (B.2.1 kLoanLefts j), B.2.2) (nI j) I
        rw [e7]
        exact (endR_eq (B := (B.1, upd2 B.2.1 kOverdue j 0, B.2.2)) n2 hj (key3 c6 cI).1).2
      · unfold f_X11_takeInterestOn
        simp only [lt_x]
        rw [e2, if_neg z03, e4, e7]
        have e10 : upd2 (f_X3_payOwner A j I).1 kOverdue j 0 kLoanBanks j = B.2.1 kLoanBanks j := (upd2_ne (by decide)).trans eLb
        simp only [e10]
        have rr : Rel (if B.2.1 kLoanBanks j = nI 4 then f_X3_noteCentral (upd2 (f_X3_payOwner A j I).1 kOverdue j 0, (f_X3_payOwner A j I).2) I else (upd2 (f_X3_payOwner A j I).1 kOverdue j 0, (f_X3_payOwner A j I).2)).1 (upd2 (endR B.2.1 j I) kOverdue j 0) d := by
          by_cases c4 : B.2.1 kLoanBanks j = nI 4
          · rw [if_pos c4]
            rw [if_pos c4] at r2
            exact (Rel.noteC (A := (upd2 (f_X3_payOwner A j I).1 kOverdue j 0, (f_X3_payOwner A j I).2)) r2 I).2.2.2.d_eq (by grind)
          · rw [if_neg c4]
            rw [if_neg c4] at r2
            exact r2.d_eq (by grind)
        by_cases cI : I ≤ 0
        · have cI0 : I = 0 := by
            rw [w_le, w_0] at cI
            exact Int32.toInt_inj.mp (by rw [w_0]; omega)
          rw [if_pos cI]
          rw [cI0, endR_0] at rr
          rw [cI0]
          exact ⟨rr, n2, rfl⟩
        · rw [if_neg cI]
          have cI0 : I ≠ 0 := fun z => cI (by rw [z]; exact Int32.le_refl _)
          obtain ⟨w1, w2, w3⟩ := key3 c6 cI0
          obtain ⟨y1, -⟩ := endR_eq (B := (B.1, upd2 B.2.1 kOverdue j 0, B.2.2)) (m := I) n2 hj w1
          rw [y1]
          have ec : endR (upd2 B.2.1 kOverdue j 0) j I = upd2 (endR B.2.1 j I) kOverdue j 0 := endR_comm (by decide)
          have n3 := N_end n2 hv hj s3 w1 w2 w3
          refine ⟨by rw [show ((B.1, upd2 B.2.1 kOverdue j 0, B.2.2) : Mem).2.1 = upd2 B.2.1 kOverdue j 0 from rfl, ec]; exact rr, n3, ?_⟩
          exact congrFun (endR_off (by decide) (by decide)) 0
  · have c0' : B.2.1 kLoanLefts j ≤ 0 := by
      rw [w_le]
      rw [w_lt] at c0
      omega
    simp only [if_neg c0, if_pos c0', lt_x]
    exact ⟨fun q => absurd q c0, ⟨hj20, hj20, hj20, fun q => absurd c0' q⟩, h, n, trivial⟩

theorem interest_ok {u v L : Int} {A B : Mem} {d : Int32} (h : Rel A.1 B.2.1 d) (n : Num u v L B.2.1) (hv : v ≤ 5120000) : ok_X11_takeInterest A ∧ ok_X12_takesInterest B ∧ Rel (f_X11_takeInterest A).1 (f_X12_takesInterest B).2.1 d ∧ Num u v L (f_X12_takesInterest B).2.1 := by
  have hc : A.1 kLoans 0 = B.2.1 kLoans 0 := h.sh kLoans 0 (by decide)
  have i0 := n.2.2.2.2.2.2.1.1
  have key := iter2 (f := b2_X11_takeInterest) (g := b2_X12_takesInterest) (a := A) (b := B) (fun _ x y => Rel x.1 y.2.1 d ∧ Num u v L y.2.1 ∧ y.2.1 kLoans 0 = B.2.1 kLoans 0) (n := ix (B.2.1 kLoans 0)) ⟨h, n, rfl⟩ (fun j hj x y q => by
    obtain ⟨-, -, q1, q2, q3⟩ := int_step q.1 q.2.1 hv (by rw [q.2.2]; exact hj)
    exact ⟨q1, q2, q3.trans q.2.2⟩)
  refine ⟨⟨?_, ?_⟩, ⟨?_, ?_⟩, ?_⟩
  · intro j hj σ e
    subst e
    rw [hc] at hj ⊢
    obtain ⟨q1, q2, q3⟩ := key j hj
    rw [q1.sh kLoans 0 (by decide), q3]
    exact i0.1
  · intro j hj σ e
    subst e
    rw [hc] at hj
    obtain ⟨q1, q2, q3⟩ := key j (by omega)
    exact (int_step q1 q2 hv (by rw [q3]; exact hj)).1
  · intro j hj σ e
    subst e
    obtain ⟨q1, q2, q3⟩ := key j hj
    rw [q3]
    exact i0.1
  · intro j hj σ e
    subst e
    obtain ⟨q1, q2, q3⟩ := key j (by omega)
    exact (int_step q1 q2 hv (by rw [q3]; exact hj)).2.1
  · have q := key _ (Nat.le_refl _)
    unfold f_X11_takeInterest f_X12_takesInterest
    rw [lt_x, lt_x, hc]
    exact ⟨q.1, q.2.1⟩
