/-! notes leave a hand -/
theorem leave_int {p f n : Int} (h0 : 1 ≤ p) (h1 : p ≤ n) (h2 : 0 ≤ f) (h3 : f ≤ n) : 0 ≤ p * f / n ∧ p * f / n ≤ f ∧ p * f / n ≤ p ∧ p - p * f / n ≤ n - f := by
  have e := Int.mul_ediv_add_emod (p * f) n
  have r0 := Int.emod_nonneg (p * f) (show n ≠ 0 by omega)
  have r1 := Int.emod_lt_of_pos (p * f) (show 0 < n by omega)
  refine ⟨Int.ediv_nonneg (Int.mul_nonneg (by omega) h2) (by omega), ?_, ?_, ?_⟩
  · refine Int.ediv_le_of_le_mul (by omega) ?_
    have := Int.mul_le_mul_of_nonneg_left h1 h2
    rw [Int.mul_comm p f]
    exact this
  · exact Int.ediv_le_of_le_mul (by omega) (Int.mul_le_mul_of_nonneg_left h3 (by omega))
  · generalize p * f / n = q at *
    generalize p * f % n = r at *
    have h := Int.mul_nonneg (show 0 ≤ n - f by omega) (show 0 ≤ n - p by omega)
    rw [Int.sub_mul, Int.mul_sub, Int.mul_sub, Int.mul_comm f n, Int.mul_comm f p] at h
    refine Int.not_lt.mp (fun c => ?_)
    have h5 := Int.mul_le_mul_of_nonneg_left (show q ≤ p - n + f - 1 by omega) (show 0 ≤ n by omega)
    rw [Int.mul_sub, Int.mul_add, Int.mul_sub, Int.mul_one] at h5
    omega
def lvG (x f n : Int32) : Int32 := ((x.toInt64 * f.toInt64) / n.toInt64).toInt32
theorem lvG_bd {x f n : Int32} (h0 : 1 ≤ x.toInt) (h1 : x.toInt ≤ n.toInt) (h2 : 0 ≤ f.toInt) (h3 : f.toInt ≤ n.toInt) : 0 ≤ (lvG x f n).toInt ∧ (lvG x f n).toInt ≤ f.toInt ∧ (lvG x f n).toInt ≤ x.toInt ∧ x.toInt - (lvG x f n).toInt ≤ n.toInt - f.toInt := by
  obtain ⟨q1, q2, q3, q4⟩ := leave_int h0 h1 h2 h3
  have hw := w_hi x
  have e : (lvG x f n).toInt = x.toInt * f.toInt / n.toInt := quot_toInt (by omega) h2 (by omega) (by omega)
  rw [e]
  exact ⟨q1, q2, q3, q4⟩
def leaveR (R : Col) (i : Nat) (x g : Int32) : Col := upd2 (upd2 R kNotes i (R kNotes i + x)) kForged i (R kForged i + g)
theorem leave_R {S : Mem} {p x : Int32} : f_X12_leave S p x = (lvG x (S.2.1 kForged (ix p)) (S.2.1 kNotes (ix p)), (S.1, leaveR S.2.1 (ix p) (-x) (-lvG x (S.2.1 kForged (ix p)) (S.2.1 kNotes (ix p))), S.2.2)) := by
  unfold f_X12_leave
  rw [lt_x, lt_x]
  unfold leaveR lvG
  rw [← Int32.sub_eq_add_neg, ← Int32.sub_eq_add_neg]
  rfl
theorem leave_okR {S : Mem} {p x : Int32} (hp : inb p 16) (hn : 0 < (S.2.1 kNotes (ix p)).toInt) : ok_X12_leave S p x := by
  refine ⟨hp, hp, fun q => ?_, hp, hp, fun S6 _ => ⟨hp, hp⟩⟩
  have h := congrArg Int64.toInt q
  rw [Int32.toInt_toInt64] at h
  have : (0 : Int64).toInt = 0 := by decide
  omega
theorem take_C {A : Mem} {i : Nat} {x y : Int32} : f_X5_takeNotes A i x y = (leaveR A.1 i x y, A.2) := by
  unfold f_X5_takeNotes
  rw [lt_x, lt_x]
  rfl
theorem among_C {A : Mem} {i : Nat} {x : Int32} (h : 0 < (A.1 kNotes i).toInt) : f_X5_forgedAmong A i x = lvG x (A.1 kForged i) (A.1 kNotes i) := by
  unfold f_X5_forgedAmong
  rw [lt_x, share_pos h]
  rfl
theorem leave_rel {C R : Col} {d x g : Int32} {i : Nat} (h : Rel C R d) (hi : i < 16) : Rel (leaveR C i x g) (leaveR R i x g) (d + x - g) := by
  have s1 : C kNotes i = R kNotes i := h.sh kNotes i hi
  have s2 : C kForged i = R kForged i := h.sh kForged i hi
  unfold leaveR
  rw [s1, s2]
  have q1 := h.notes (v := R kNotes i + x) hi rfl
  have q2 := q1.forged (v := R kForged i + g) hi rfl
  rw [show ∀ z : Int32, upd2 R kNotes i z kForged i = R kForged i from fun _ => rfl] at q2
  exact q2.d_eq (by grind)
/-- x notes, y of them forged, come to a hand or leave it -/
theorem leave_num {u v L : Int} {R : Col} {x g : Int32} {i : Nat} (n : Num u v L R) (hu : u ≤ 5120000) (hi : i < 16) (x0 : -10000 ≤ x.toInt ∧ x.toInt ≤ 10000) (g0 : -10000 ≤ g.toInt ∧ g.toInt ≤ 10000) (h1 : 0 ≤ (R kForged i).toInt + g.toInt) (h2 : (R kForged i).toInt + g.toInt ≤ (R kNotes i).toInt + x.toInt) : Num (u + x.toInt) v L (leaveR R i x g) := by
  obtain ⟨a1, a2, a3, a4, a5⟩ := has_hi n hi
  have e1 : (R kNotes i + x).toInt = (R kNotes i).toInt + x.toInt := by
    rw [w_add]
    omega
  have e2 : (R kForged i + g).toInt = (R kForged i).toInt + g.toInt := by
    rw [w_add]
    omega
  obtain ⟨nh, nu, np, nb, nv, nf, nl, nd, ns, nw, nq⟩ := n
  refine ⟨?_, ?_, np, nb, nv, nf, nl, nd, ns, nw, nq⟩
  · show zH (R kBankOf) (R kAccounts) (R kBlocked) (ru (R kForged) i (R kForged i + g)) (ru (R kNotes) i (R kNotes i + x)) (R kHaveFailed)
    intro j hj
    obtain ⟨b1, b2, b3, b4, b5, b6⟩ := nh j hj
    refine ⟨b1, b2, b3, b4, ?_⟩
    by_cases z : j = i
    · subst z
      rw [ru_eq, ru_eq]
      exact ⟨by omega, by omega⟩
    · rw [ru_ne z, ru_ne z]
      exact ⟨b5, b6⟩
  · show uS (R kAccounts) (ru (R kNotes) i (R kNotes i + x)) ≤ _
    rw [uS_no hi, e1]
    omega
