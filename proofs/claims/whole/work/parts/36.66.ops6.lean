/-! draw -/
theorem acct_R {B : Mem} {p : Int32} : f_X12_hasAccount B p = if B.2.1 kBankOf (ix p) = -1 then 0 else 1 := by
  unfold f_X12_hasAccount
  rw [lt_x]
theorem dr2 (x : Int32 × Mem) (p : Int32) (g : Mem → Int32 × Mem) : lt x.2 (fun S9 => lt x.1 (fun v10 => lt (if p ≤ v10 then (S9) else (lt ((g S9).2) (fun (S13 : Mem) => lt ((g S9).1) (fun (_ : Int32) => S13)))) (fun S15 => (v10, S15)))) = (x.1, if p ≤ x.1 then x.2 else (g x.2).2) := by
  simp only [lt_x]
theorem draw_f {B : Mem} {p1 p2 c : Int32} (v1 v9 : Int32) (h1 : f_X12_isHolder B p1 = v1) (h9 : (if v1 = 0 then (0) else (lt (f_X12_hasAccount B p1) (fun (v4 : Int32) => if v4 = 0 then (0) else (lt (f_X12_free B p1) (fun (v7 : Int32) => if v7 < p2 then (0) else (1)))))) = v9) (h14 : (if v1 = 0 then (1) else (lt (f_X12_in B p2 1 (nI 10000)) (fun (v11 : Int32) => if v11 = 0 then (nI 2) else (if v9 = 0 then (nI 3) else (0))))) = c) : (c ≠ 0 → f_X12_draw B p1 p2 = (0, T0 B c)) ∧ (c = 0 → f_X12_draw B p1 p2 = f_X12_draws (T0 B 0) p1 p2) := by
  constructor
  · intro hc
    unfold f_X12_draw
    rw [h1, lt_x, h9, lt_x, h14, lt_x]
    exact tail2_no hc (fun S => f_X12_draws S p1 p2)
  · intro hc
    subst hc
    unfold f_X12_draw
    rw [h1, lt_x, h9, lt_x, h14, lt_x]
    exact tail2_yes (fun S => f_X12_draws S p1 p2)
theorem draw_k {B : Mem} {p1 p2 c : Int32} (v1 v9 : Int32) (h1 : f_X12_isHolder B p1 = v1) (h9 : (if v1 = 0 then (0) else (lt (f_X12_hasAccount B p1) (fun (v4 : Int32) => if v4 = 0 then (0) else (lt (f_X12_free B p1) (fun (v7 : Int32) => if v7 < p2 then (0) else (1)))))) = v9) (h14 : (if v1 = 0 then (1) else (lt (f_X12_in B p2 1 (nI 10000)) (fun (v11 : Int32) => if v11 = 0 then (nI 2) else (if v9 = 0 then (nI 3) else (0))))) = c) (hm : ¬ v1 = 0 → inb p1 16) (hp : c = 0 → ok_X12_draws (T0 B 0) p1 p2) : ok_X12_draw B p1 p2 := by
  intro w1 e1
  rw [h1] at e1
  subst e1
  refine ⟨fun q => ⟨hm q, fun _ _ _ => ⟨hm q, hm q⟩⟩, fun w9 e9 w14 e14 => ?_⟩
  rw [h9] at e9
  subst e9
  rw [h14] at e14
  subst e14
  by_cases hc : c = 0
  · subst hc
    exact okt_yes (hp rfl)
  · exact okt_no hc
theorem draw_op {u : Int} {A B : Mem} (hu : u ≤ 5120000) (h : St u A.1 B.2.1) (p1 p2 : Int32) : (okx_X11_draw_1 A p1 p2 ∧ ok_X12_draw B p1 p2 ∧ f_X12_draw B p1 p2 = (0, T0 B 1)) ∨ (okx_X11_draw_2 A p1 p2 ∧ ok_X12_draw B p1 p2 ∧ f_X12_draw B p1 p2 = (0, T0 B (nI 2))) ∨ (okx_X11_draw_3 A p1 p2 ∧ ok_X12_draw B p1 p2 ∧ f_X12_draw B p1 p2 = (0, T0 B (nI 3))) ∨ (ok_X11_draw A p1 p2 ∧ ok_X12_draw B p1 p2 ∧ Good u (f_X11_draw A p1 p2) (f_X12_draw B p1 p2)) := by
  rcases hol_cases p1 with ⟨b1, b2, b3⟩ | ⟨b1, b2⟩
  · have sB : A.1 kBankOf (f_X3_holder A p1) = B.2.1 kBankOf (ix p1) := by
      rw [holder_in b1]
      exact h.1.sh kBankOf _ b1.2
    have sFr : f_X5_free A (f_X3_holder A p1) = B.2.1 kAccounts (ix p1) - B.2.1 kBlocked (ix p1) := by
      rw [holder_in b1]
      unfold f_X5_free
      rw [h.1.sh kAccounts _ b1.2, h.1.sh kBlocked _ b1.2]
    have hh := has_hi h.2 b1.2
    have eFr : (B.2.1 kAccounts (ix p1) - B.2.1 kBlocked (ix p1)).toInt = (B.2.1 kAccounts (ix p1)).toInt - (B.2.1 kBlocked (ix p1)).toInt := by
      rw [w_sub]
      omega
    rcases rng_cases p2 1 (nI 10000) with ⟨r1, r2, r3, r4⟩ | ⟨r1, r2⟩
    · by_cases c : B.2.1 kBankOf (ix p1) = -1
      · have h9 : (if (1 : Int32) = 0 then (0) else (lt (f_X12_hasAccount B p1) (fun (v4 : Int32) => if v4 = 0 then (0) else (lt (f_X12_free B p1) (fun (v7 : Int32) => if v7 < p2 then (0) else (1)))))) = (0 : Int32) := by rw [if_neg c1, acct_R, if_pos c, l0]
        have h14 : (if (1 : Int32) = 0 then (1) else (lt (f_X12_in B p2 1 (nI 10000)) (fun (v11 : Int32) => if v11 = 0 then (nI 2) else (if (0 : Int32) = 0 then (nI 3) else (0))))) = nI 3 := by rw [if_neg c1, r4, l1, if_pos rfl]
        refine Or.inr (Or.inr (Or.inl ⟨⟨b2 A, r3 A, fun v6 e6 => ?_⟩, draw_k 1 0 (b3 B) h9 h14 (fun _ => b1) (fun q => absurd q c3), (draw_f 1 0 (b3 B) h9 h14).1 c3⟩))
        rw [sB, if_pos c] at e6
        exact e6.symm
      · by_cases c' : B.2.1 kAccounts (ix p1) - B.2.1 kBlocked (ix p1) < p2
        · have h9 : (if (1 : Int32) = 0 then (0) else (lt (f_X12_hasAccount B p1) (fun (v4 : Int32) => if v4 = 0 then (0) else (lt (f_X12_free B p1) (fun (v7 : Int32) => if v7 < p2 then (0) else (1)))))) = (0 : Int32) := by
            rw [if_neg c1, acct_R, if_neg c, l1]
            unfold f_X12_free
            rw [lt_x, if_pos c']
          have h14 : (if (1 : Int32) = 0 then (1) else (lt (f_X12_in B p2 1 (nI 10000)) (fun (v11 : Int32) => if v11 = 0 then (nI 2) else (if (0 : Int32) = 0 then (nI 3) else (0))))) = nI 3 := by rw [if_neg c1, r4, l1, if_pos rfl]
          refine Or.inr (Or.inr (Or.inl ⟨⟨b2 A, r3 A, fun v6 e6 => ?_⟩, draw_k 1 0 (b3 B) h9 h14 (fun _ => b1) (fun q => absurd q c3), (draw_f 1 0 (b3 B) h9 h14).1 c3⟩))
          rw [sB, if_neg c, sFr, lt_x, if_pos c'] at e6
          exact e6.symm
        · have h9 : (if (1 : Int32) = 0 then (0) else (lt (f_X12_hasAccount B p1) (fun (v4 : Int32) => if v4 = 0 then (0) else (lt (f_X12_free B p1) (fun (v7 : Int32) => if v7 < p2 then (0) else (1)))))) = (1 : Int32) := by
            rw [if_neg c1, acct_R, if_neg c, l1]
            unfold f_X12_free
            rw [lt_x, if_neg c']
          have h14 : (if (1 : Int32) = 0 then (1) else (lt (f_X12_in B p2 1 (nI 10000)) (fun (v11 : Int32) => if v11 = 0 then (nI 2) else (if (1 : Int32) = 0 then (nI 3) else (0))))) = 0 := by rw [if_neg c1, r4, l1, if_neg c1]
          have hB := (draw_f 1 1 (b3 B) h9 h14).2 rfl
          obtain ⟨S7, s1, s2, ⟨s3, s4⟩, -, -, s5⟩ := h.zero
          rw [s1] at hB
          have hb4 : inb (S7.2.1 kBankOf (ix p1)) 4 := by
            rw [s5 kBankOf (by decide)]
            rcases (h.2.1 (ix p1) b1.2).1 with q | q
            · exact absurd q c
            · exact q.1
          rw [w_1] at r1
          have c'' := c'
          rw [w_lt, eFr] at c''
          obtain ⟨t1, t2, t3, t4, t5, t6, t7⟩ := draws_ok (m := p2) s3 s4 hu hu (by omega) (by omega) b1 hb4 (by omega) (by rw [s5 kAccounts (by decide), s5 kBlocked (by decide)]; omega)
          have sB7 : A.1 kBankOf (f_X3_holder A p1) = S7.2.1 kBankOf (ix p1) := by
            rw [s5 kBankOf (by decide)]
            exact sB
          have eA : f_X11_draw A p1 p2 = ((f_X11_drawNotes A p1 p2).1, if p2 ≤ (f_X11_drawNotes A p1 p2).1 then (f_X11_drawNotes A p1 p2).2 else (f_X11_failBank (f_X11_drawNotes A p1 p2).2 (A.1 kBankOf (f_X3_holder A p1))).2) := (lt_x _ _).trans (dr2 (f_X11_drawNotes A p1 p2) p2 (fun S => f_X11_failBank S (A.1 kBankOf (f_X3_holder A p1))))
          refine Or.inr (Or.inr (Or.inr ⟨⟨b2 A, r3 A, fun v6 e6 => ⟨?_, t1, fun S9 e9 v10 e10 q => ?_⟩⟩, draw_k 1 1 (b3 B) h9 h14 (fun _ => b1) (fun _ => by rw [s1]; exact t3), ?_⟩))
          · rw [sB, if_neg c, sFr, lt_x, if_neg c'] at e6
            rw [← e6]
            exact c1
          · rw [← e9, sB7]
            rw [← e10] at q
            exact t2 q
          · refine (Good.mk (x := ((f_X11_drawNotes A p1 p2).1, if p2 ≤ (f_X11_drawNotes A p1 p2).1 then (f_X11_drawNotes A p1 p2).2 else (f_X11_failBank (f_X11_drawNotes A p1 p2).2 (A.1 kBankOf (f_X3_holder A p1))).2)) ((congrFun (t7 kThrown (by decide)) 0).trans s2) t4.symm ?_ t6).of eA hB
            rw [sB7]
            exact t5
    · by_cases c9 : (if (1 : Int32) = 0 then (0) else (lt (f_X12_hasAccount B p1) (fun (v4 : Int32) => if v4 = 0 then (0) else (lt (f_X12_free B p1) (fun (v7 : Int32) => if v7 < p2 then (0) else (1)))))) = (0 : Int32)
      · have h14 : (if (1 : Int32) = 0 then (1) else (lt (f_X12_in B p2 1 (nI 10000)) (fun (v11 : Int32) => if v11 = 0 then (nI 2) else (if (0 : Int32) = 0 then (nI 3) else (0))))) = nI 2 := by rw [if_neg c1, r2, l0]
        exact Or.inr (Or.inl ⟨⟨b2 A, r1 A⟩, draw_k 1 0 (b3 B) c9 h14 (fun _ => b1) (fun q => absurd q c2), (draw_f 1 0 (b3 B) c9 h14).1 c2⟩)
      · obtain ⟨v9, h9⟩ : ∃ v9, (if (1 : Int32) = 0 then (0) else (lt (f_X12_hasAccount B p1) (fun (v4 : Int32) => if v4 = 0 then (0) else (lt (f_X12_free B p1) (fun (v7 : Int32) => if v7 < p2 then (0) else (1)))))) = (v9 : Int32) := ⟨_, rfl⟩
        have h14 : (if (1 : Int32) = 0 then (1) else (lt (f_X12_in B p2 1 (nI 10000)) (fun (v11 : Int32) => if v11 = 0 then (nI 2) else (if v9 = 0 then (nI 3) else (0))))) = nI 2 := by rw [if_neg c1, r2, l0]
        exact Or.inr (Or.inl ⟨⟨b2 A, r1 A⟩, draw_k 1 v9 (b3 B) h9 h14 (fun _ => b1) (fun q => absurd q c2), (draw_f 1 v9 (b3 B) h9 h14).1 c2⟩)
  · have h9 : (if (0 : Int32) = 0 then (0) else (lt (f_X12_hasAccount B p1) (fun (v4 : Int32) => if v4 = 0 then (0) else (lt (f_X12_free B p1) (fun (v7 : Int32) => if v7 < p2 then (0) else (1)))))) = (0 : Int32) := if_pos rfl
    have h14 : (if (0 : Int32) = 0 then (1) else (lt (f_X12_in B p2 1 (nI 10000)) (fun (v11 : Int32) => if v11 = 0 then (nI 2) else (if (0 : Int32) = 0 then (nI 3) else (0))))) = 1 := if_pos rfl
    exact Or.inl ⟨b1 A, draw_k 0 0 (b2 B) h9 h14 (fun q => absurd rfl q) (fun q => absurd q c1), (draw_f 0 0 (b2 B) h9 h14).1 c1⟩
