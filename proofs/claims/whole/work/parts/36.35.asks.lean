/-! reserves are asked for -/
theorem ask_eq (m r : Int32) : (if 0 < (if r < m then r else m) then (if r < m then r else m) else 0) = (if (if m ≤ 0 then 0 else m) < (if r ≤ 0 then 0 else r) then (if m ≤ 0 then 0 else m) else (if r ≤ 0 then 0 else r)) := by
  apply Int32.toInt_inj.mp
  have h0 := w_0
  simp only [w_le, w_lt]
  repeat' split
  all_goals try simp only [w_le, w_lt] at *
  all_goals omega
theorem ask_short (m r x : Int32) (hx : x = (if (if m ≤ 0 then 0 else m) < (if r ≤ 0 then 0 else r) then (if m ≤ 0 then 0 else m) else (if r ≤ 0 then 0 else r))) : (if m ≤ x then (0 : Int32) else 1) = if (if m ≤ 0 then 0 else m) ≤ x then 0 else 1 := by
  have h0 := w_0
  have hx0 : 0 ≤ x.toInt := by
    rw [hx]
    repeat' split
    all_goals try simp only [w_le, w_lt] at *
    all_goals omega
  by_cases c : m ≤ 0
  · rw [if_pos c]
    rw [w_le] at c
    rw [if_pos (by rw [w_le]; omega), if_pos (by rw [w_le]; omega)]
  · rw [if_neg c]
theorem ask_step {u v L : Int} {A B : Mem} {d : Int32} {j : Nat} (h : Rel A.1 B.2.1 d) (n : Num u v L B.2.1) (hu : u ≤ 5120000) (hv : v ≤ 5120000) (hL : L ≤ 190000000) (hL2 : 180000 ≤ L) (hj : j < 4) :
    ok_X11_roomAtWindow A (nI j) ∧ ok_X12_room B (nI j) ∧ Rel (b2_X11_askForReserves j A).1 (b2_X12_asksReserves j B).2.1 d ∧ Num u (v + 180000) L (b2_X12_asksReserves j B).2.1 := by
  have hau := n.2.2.2.2.2.1
  obtain ⟨k1, k2⟩ := room_C h n hj
  obtain ⟨k3, k4⟩ := room_R (B := B) hau.1 hj
  have k5 := roomS_toInt n hL hj
  have hRe : A.1 kReserves j = B.2.1 kReserves j := h.sh kReserves j hj
  have hVa : A.1 kVaults j = B.2.1 kVaults j := h.sh kVaults j hj
  have hLe : A.1 kLent j = B.2.1 kLent j := h.sh kLent j hj
  have hRr : A.1 kReserveRule 0 = B.2.1 kReserveRule 0 := h.sh kReserveRule 0 (by decide)
  have hre := re_hi n hv hj
  have hbo := bonS_bd (o := j) n (by omega)
  obtain ⟨p1, p2, p3, p4, p5, p6, p7, p8, p9⟩ := n.2.2.2.1 j hj
  refine ⟨k2, k4, ?_⟩
  unfold b2_X11_askForReserves b2_X12_asksReserves f_X0_borrow f_X11_percentRoundedUp
  rw [acc_C h, acc_R, k1, k3, bank_nI hj, hRe, hVa, hRr]
  simp only [lt_x, most_eq, least_eq, hRe, hLe]
  rw [ask_eq]
  generalize hm : ((((accS B.2.1 (nI j)).toInt64 * (B.2.1 kReserveRule 0).toInt64 + 99) / 100).toInt32 - B.2.1 kReserves j - B.2.1 kVaults j) = m
  generalize hx : (if (if m ≤ 0 then 0 else m) < (if roomS B.2.1 j ≤ 0 then 0 else roomS B.2.1 j) then (if m ≤ 0 then 0 else m) else (if roomS B.2.1 j ≤ 0 then 0 else roomS B.2.1 j)) = x
  have hx0 : 0 ≤ x.toInt ∧ (x.toInt = 0 ∨ x.toInt ≤ (roomS B.2.1 j).toInt) := by
    have h0 := w_0
    rw [← hx]
    repeat' split
    all_goals try simp only [w_le, w_lt] at *
    all_goals omega
  have eL : upd2 A.1 kReserves j (B.2.1 kReserves j + x) kLent j = B.2.1 kLent j := hLe
  have eR : upd2 B.2.1 kLent j (B.2.1 kLent j + x) kReserves j = B.2.1 kReserves j := rfl
  rw [eL, eR, ask_short m (roomS B.2.1 j) x hx.symm]
  have r1 := h.reserves (v := B.2.1 kReserves j + x) hj rfl
  have r2 := r1.lent (i := j) (v := B.2.1 kLent j + x) hj rfl
  rw [show upd2 B.2.1 kReserves j (B.2.1 kReserves j + x) kLent j = B.2.1 kLent j from rfl] at r2
  have r3 := r2.plain kAreShort j (by decide) (v := if (if m ≤ 0 then 0 else m) ≤ x then 0 else 1) rfl
  rw [u_comm (C := B.2.1) (k := kReserves) (k' := kLent) (by decide)] at r3
  have e1 : (B.2.1 kReserves j + x).toInt = (B.2.1 kReserves j).toInt + x.toInt := by
    rw [w_add]
    omega
  have e2 : (B.2.1 kLent j + x).toInt = (B.2.1 kLent j).toInt + x.toInt := by
    rw [w_add]
    omega
  refine ⟨r3.d_eq (by grind), ?_⟩
  obtain ⟨nh, nu, np, nb, nv, nf, nl, nd, ns, nw, nq⟩ := n
  refine ⟨nh, nu, np, ?_, ?_, nf, nl, nd, ns, nw, nq⟩
  · show zB L (ru (B.2.1 kReserves) j (B.2.1 kReserves j + x)) (B.2.1 kVaults) (ru (B.2.1 kLent) j (B.2.1 kLent j + x)) (B.2.1 kLimits) (B.2.1 kHaveFailed) (ru (B.2.1 kAreShort) j (if (if m ≤ 0 then 0 else m) ≤ x then 0 else 1))
    intro b hb
    by_cases c : b = j
    · subst c
      rw [ru_eq, ru_eq, ru_eq, e1, e2]
      refine ⟨by omega, p2, by omega, by omega, p5, p6, p7, ?_, fun z => ?_⟩
      · by_cases q : (if m ≤ 0 then 0 else m) ≤ x
        · rw [if_pos q]
          exact Or.inl rfl
        · rw [if_neg q]
          exact Or.inr rfl
      · have z0 := p9 z
        have zb : bonS B.2.1 b = 0 := by
          unfold bonS
          have : ∀ m, m ≤ 20 → s32 (fun k => B.2.1 kBonds (5 * k + b)) m = 0 := by
            intro m
            induction m with
            | zero => intro _; rfl
            | succ m ih =>
              intro hm
              show s32 (fun k => B.2.1 kBonds (5 * k + b)) m + B.2.1 kBonds (5 * m + b) = 0
              rw [ih (by omega), (hau.2 m (by omega)).2.2.1 b hj z]
              rfl
          have h21 := hau.1.2
          exact this _ (by omega)
        rw [zb, z0, w_0] at k5
        apply Int32.toInt_inj.mp
        rw [e2, z0, w_0]
        omega
    · rw [ru_ne c, ru_ne c, ru_ne c]
      exact nb b hb
  · show vS (ru (B.2.1 kReserves) j (B.2.1 kReserves j + x)) (B.2.1 kVaults) (B.2.1 kTreasury) (B.2.1 kHaveFailed) (B.2.1 kDays) ≤ v + 180000
    rw [vS_re hj, e1]
    omega
theorem asks_ok {u v L : Int} {A B : Mem} {d : Int32} (h : Rel A.1 B.2.1 d) (n : Num u v L B.2.1) (hu : u ≤ 5120000) (hv : v ≤ 4400000) (hL : L ≤ 190000000) (hL2 : 180000 ≤ L) : ok_X11_askForReserves A ∧ ok_X12_asksReserves B ∧ Rel (f_X11_askForReserves A).1 (f_X12_asksReserves B).2.1 d ∧ Num u (v + 720000) L (f_X12_asksReserves B).2.1 := by
  have key := iter2 (f := b2_X11_askForReserves) (g := b2_X12_asksReserves) (a := A) (b := B) (fun j x y => Rel x.1 y.2.1 d ∧ Num u (v + 180000 * j) L y.2.1) (n := 4) ⟨h, by simpa using n⟩ (fun j hj x y q => by
    obtain ⟨-, -, q1, q2⟩ := ask_step q.1 q.2 hu (by omega) hL hL2 hj
    refine ⟨q1, ?_⟩
    have e : v + 180000 * ((j + 1 : Nat) : Int) = v + 180000 * j + 180000 := by omega
    rw [e]
    exact q2)
  refine ⟨?_, ?_, ?_⟩
  · intro j hj σ e
    subst e
    obtain ⟨q1, q2⟩ := key j (by omega)
    exact fun _ _ _ _ => (ask_step q1 q2 hu (by omega) hL hL2 hj).1
  · intro j hj σ e
    subst e
    obtain ⟨q1, q2⟩ := key j (by omega)
    exact fun _ _ _ _ => (ask_step q1 q2 hu (by omega) hL hL2 hj).2.1
  · have q := key 4 (Nat.le_refl _)
    unfold f_X11_askForReserves f_X12_asksReserves
    rw [lt_x, lt_x]
    exact ⟨q.1, q.2⟩
