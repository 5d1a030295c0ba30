/-! quotients -/
theorem mul_le_big {a b : Int} (ha : 0 ≤ a) (hb : 0 ≤ b) (ha2 : a ≤ 2147483647) (hb2 : b ≤ 2147483647) : 0 ≤ a * b ∧ a * b ≤ 4611686014132420609 := by
  refine ⟨Int.mul_nonneg ha hb, ?_⟩
  have := Int.mul_le_mul ha2 hb2 hb (by omega)
  omega
theorem idiv_pos {x w : Int32} (hx : 0 ≤ x.toInt) (hw : 0 < w.toInt) : (x / w).toInt = x.toInt / w.toInt := by
  rw [Int32.toInt_div, Int.tdiv_eq_ediv_of_nonneg hx, Int.bmod_def]
  have h1 := Int.ediv_le_self w.toInt hx
  have h2 := Int.ediv_nonneg hx (Int.le_of_lt hw)
  have h3 := w_hi x
  generalize x.toInt / w.toInt = z at *
  omega
theorem lmul_pos {a p : Int32} (ha : 0 ≤ a.toInt) (hp : 0 ≤ p.toInt) : (a.toInt64 * p.toInt64).toInt = a.toInt * p.toInt := by
  rw [Int64.toInt_mul, Int32.toInt_toInt64, Int32.toInt_toInt64, Int.bmod_def]
  obtain ⟨h1, h2⟩ := mul_le_big ha hp (w_hi a) (w_hi p)
  generalize a.toInt * p.toInt = z at *
  omega
theorem ldiv_pos {x w : Int64} (hx : 0 ≤ x.toInt) (hw : 0 < w.toInt) : (x / w).toInt = x.toInt / w.toInt := by
  rw [Int64.toInt_div, Int.tdiv_eq_ediv_of_nonneg hx, Int.bmod_def]
  have h1 := Int.ediv_le_self w.toInt hx
  have h2 := Int.ediv_nonneg hx (Int.le_of_lt hw)
  have h3 := Int64.toInt_lt x
  generalize x.toInt / w.toInt = z at *
  omega
theorem l2i_pos {x : Int64} (h1 : 0 ≤ x.toInt) (h2 : x.toInt ≤ 2147483647) : x.toInt32.toInt = x.toInt := by
  rw [Int64.toInt_toInt32, Int.bmod_def]
  omega
/-- a share by numbers -/
theorem quot_toInt {a p w : Int32} (ha : 0 ≤ a.toInt) (hp : 0 ≤ p.toInt) (hw : 0 < w.toInt) (hb : a.toInt * p.toInt / w.toInt ≤ 2147483647) : (((a.toInt64 * p.toInt64) / w.toInt64).toInt32).toInt = a.toInt * p.toInt / w.toInt := by
  have h1 := lmul_pos ha hp
  obtain ⟨h2, -⟩ := mul_le_big ha hp (w_hi a) (w_hi p)
  have h3 : (a.toInt64 * p.toInt64 / w.toInt64).toInt = a.toInt * p.toInt / w.toInt := by
    rw [ldiv_pos (by omega) (by rw [Int32.toInt_toInt64]; exact hw), h1, Int32.toInt_toInt64]
  have h4 : 0 ≤ a.toInt * p.toInt / w.toInt := Int.ediv_nonneg h2 (Int.le_of_lt hw)
  rw [l2i_pos (by omega) (by omega), h3]
theorem share_pos {S : Mem} {a p w : Int32} (hw : 0 < w.toInt) : f_X11_share S a p w = ((a.toInt64 * p.toInt64) / w.toInt64).toInt32 := by
  unfold f_X11_share
  rw [lt_x, if_pos (by rw [w_lt, w_0]; exact hw)]
theorem imul_pos {a p : Int32} (ha : 0 ≤ a.toInt) (hp : 0 ≤ p.toInt) (hb : a.toInt * p.toInt ≤ 2147483647) : (a * p).toInt = a.toInt * p.toInt := by
  have := Int.mul_nonneg ha hp
  exact tI_mul (by omega) hb
/-- where the product is small, the share is the quotient of ints -/
theorem share_int {S : Mem} {a p w : Int32} (ha : 0 ≤ a.toInt) (hp : 0 ≤ p.toInt) (hw : 0 < w.toInt) (hb : a.toInt * p.toInt ≤ 2147483647) : f_X11_share S a p w = (a * p) / w ∧ (f_X11_share S a p w).toInt = a.toInt * p.toInt / w.toInt := by
  have h0 := Int.mul_nonneg ha hp
  have h1 : a.toInt * p.toInt / w.toInt ≤ 2147483647 := Int.le_trans (Int.ediv_le_self _ h0) hb
  have h2 := quot_toInt ha hp hw h1
  have h3 := imul_pos ha hp hb
  rw [share_pos hw]
  refine ⟨?_, h2⟩
  apply Int32.toInt_inj.mp
  rw [h2, idiv_pos (by omega) hw, h3]
theorem quot_le {a p w : Int} (ha : 0 ≤ a) (hp : 0 ≤ p) (hpw : p ≤ w) (hw : 0 < w) : 0 ≤ a * p / w ∧ a * p / w ≤ a := by
  have h0 := Int.mul_nonneg ha hp
  refine ⟨Int.ediv_nonneg h0 (Int.le_of_lt hw), ?_⟩
  have h1 : a * p ≤ a * w := Int.mul_le_mul_of_nonneg_left hpw ha
  have h2 := Int.ediv_le_ediv hw h1
  rwa [Int.mul_ediv_cancel _ (by omega)] at h2
