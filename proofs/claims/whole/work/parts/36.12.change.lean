/-! what goes through the log, of both sides -/
theorem Sh.of_eq {C D R : Col} (h : Sh C R) (e : ∀ k, k < 63 ∨ 66 < k → D k = C k) : Sh D R := by
  intro k i hi
  rcases Nat.lt_or_ge k 63 with q | q
  · rw [e k (by omega)]
    exact h k i hi
  · rcases Nat.lt_or_ge 66 k with q2 | q2
    · rw [e k (by omega)]
      exact h k i hi
    · have h1 : k = 63 ∨ k = 64 ∨ k = 65 ∨ k = 66 := by omega
      exfalso
      rcases h1 with z | z | z | z <;> (subst z; exact absurd hi (by decide +revert))
/-- a line for the central bank -/
theorem Rel.noteC {A : Mem} {R : Col} {d : Int32} (h : Rel A.1 R d) (v : Int32) : ok_X3_noteCentral A v ∧ (f_X3_noteCentral A v).2 = A.2 ∧ (∀ k, k < 63 ∨ 66 < k → (f_X3_noteCentral A v).1 k = A.1 k) ∧ Rel (f_X3_noteCentral A v).1 R (d + v) := by
  obtain ⟨h1, h2, h3, h4, h5, h6, h7, h8, h9⟩ := h
  obtain ⟨n1, n2, n3, n4, n5⟩ := note_ok (S := A) (o := 16) (v := v) h2 (by omega)
  have e : f_X3_noteCentral A v = f_X8_note A (nI 16) v := by
    unfold f_X3_noteCentral
    simp only [lt_x]
  rw [e]
  refine ⟨n1, n2, n4, h1.of_eq n4, n3, fun i hi => ?_, ?_, fun a b ha hb => ?_, ?_, ?_, ?_, ?_⟩
  · rw [n5 i (by omega), if_neg (by omega), Int32.add_zero]
    exact h3 i hi
  · rw [n5 16 (by omega), if_pos rfl, h4, Int32.add_assoc]
  · rw [n4 _ (Or.inr (show 66 < 67 + a by omega))]
    exact h5 a b ha hb
  · rw [n4 kBoughtOn (by decide)]
    exact h6
  · rw [n4 kFromBank (by decide), n4 kToBank (by decide)]
    exact h7
  · rw [n4 kFirms (by decide), n4 kWages (by decide)]
    exact h8
  · rw [n4 kReserves (by decide)]
    exact h9
/-- a change of an account -/
theorem Rel.change {A : Mem} {R : Col} {d x v : Int32} (h : Rel A.1 R d) (hx : inb x 16) : ok_X3_change A x v ∧ (f_X3_change A x v).2 = A.2 ∧ (∀ k, k < 63 ∨ 66 < k → k ≠ 8 → (f_X3_change A x v).1 k = A.1 k) ∧ Rel (f_X3_change A x v).1 (upd2 R kAccounts (ix x) (R kAccounts (ix x) + v)) d := by
  obtain ⟨h1, h2, h3, h4, h5, h6, h7, h8, h9⟩ := h
  have hi := hx.2
  have hs : A.1 kAccounts (ix x) = R kAccounts (ix x) := h1 kAccounts (ix x) hi
  have e : f_X3_change A x v = f_X8_note (upd2 A.1 kAccounts (ix x) (R kAccounts (ix x) + v), A.2) (nI (ix x)) v := by
    rw [← hx.1]
    unfold f_X3_change
    simp only [lt_x]
    rw [holder_in hx, hs]
  have l2 : LogI (upd2 A.1 kAccounts (ix x) (R kAccounts (ix x) + v), A.2).1 := LogI_upd (by decide) h2
  obtain ⟨n1, n2, n3, n4, n5⟩ := note_ok (S := (upd2 A.1 kAccounts (ix x) (R kAccounts (ix x) + v), A.2)) (o := ix x) (v := v) l2 (by omega)
  have n4' : ∀ k, k < 63 ∨ 66 < k → (f_X8_note (upd2 A.1 kAccounts (ix x) (R kAccounts (ix x) + v), A.2) (nI (ix x)) v).1 k = upd2 A.1 kAccounts (ix x) (R kAccounts (ix x) + v) k := n4
  have n5' : ∀ q, q < 17 → logSum (f_X8_note (upd2 A.1 kAccounts (ix x) (R kAccounts (ix x) + v), A.2) (nI (ix x)) v).1 q = logSum A.1 q + (if q = ix x then v else 0) := fun q hq => (n5 q hq).trans (by
    show logSum (upd2 A.1 kAccounts (ix x) (R kAccounts (ix x) + v)) q + _ = _
    rw [logSum_upd (by decide)])
  rw [e]
  refine ⟨?_, n2, fun k hk hk8 => (n4' k hk).trans (u_ne hk8), (h1.upd kAccounts (ix x) rfl).of_eq n4', n3, fun i hi2 => ?_, ?_, fun a b ha hb => ?_, ?_, ?_, ?_, ?_⟩
  · intro S1 e1
    rw [holder_in hx, hs] at e1
    subst e1
    rw [← hx.1] at n1
    exact n1
  · rw [n5' i (by omega), h3 i hi2]
    by_cases q : i = ix x
    · rw [if_pos q, q, upd2_eq]
    · rw [if_neg q, upd2_row q, Int32.add_zero]
  · rw [n5' 16 (by omega), if_neg (by omega), Int32.add_zero, h4, capR_off (by decide)]
  · rw [n4' _ (Or.inr (show 66 < 67 + a by omega)), u_ne (show 67 + a ≠ 8 by omega)]
    exact h5 a b ha hb
  · rw [n4' kBoughtOn (by decide)]
    exact h6
  · rw [n4' kFromBank (by decide), n4' kToBank (by decide)]
    exact h7
  · rw [n4' kFirms (by decide), n4' kWages (by decide)]
    exact h8
  · rw [n4' kReserves (by decide)]
    exact h9
