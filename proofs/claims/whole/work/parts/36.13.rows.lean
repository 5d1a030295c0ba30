/-! rows with one cell anew -/
abbrev ru (f : Row) (i : Nat) (x : Int32) : Row := fun j => if j = i then x else f j
theorem ru_eq {f : Row} {i : Nat} {x : Int32} : ru f i x i = x := if_pos rfl
theorem ru_ne {f : Row} {i j : Nat} {x : Int32} (h : j ≠ i) : ru f i x j = f j := if_neg h
theorem uS_ac {ac no : Row} {i : Nat} {x : Int32} (hi : i < 16) : uS (ru ac i x) no = uS ac no + (x.toInt - (ac i).toInt) := by
  have e := sumI_upd (f := fun j => (ac j).toInt + (no j).toInt) (g := fun j => (ru ac i x j).toInt + (no j).toInt) (j := i) 16 hi (fun a _ hne => by
    show (ru ac i x a).toInt + (no a).toInt = _
    rw [ru_ne hne])
  unfold uS
  rw [e, ru_eq]
  omega
theorem uS_no {ac no : Row} {i : Nat} {x : Int32} (hi : i < 16) : uS ac (ru no i x) = uS ac no + (x.toInt - (no i).toInt) := by
  have e := sumI_upd (f := fun j => (ac j).toInt + (no j).toInt) (g := fun j => (ac j).toInt + (ru no i x j).toInt) (j := i) 16 hi (fun a _ hne => by
    show (ac a).toInt + (ru no i x a).toInt = _
    rw [ru_ne hne])
  unfold uS
  rw [e, ru_eq]
  omega
theorem vS_re {re va tr hf dy : Row} {b : Nat} {x : Int32} (hb : b < 4) : vS (ru re b x) va tr hf dy = vS re va tr hf dy + (x.toInt - (re b).toInt) := by
  have e := sumI_upd (f := fun b => (re b).toInt + (va b).toInt - (if hf b = 0 then 0 else 5120000)) (g := fun j => (ru re b x j).toInt + (va j).toInt - (if hf j = 0 then 0 else 5120000)) (j := b) 4 hb (fun a _ hne => by
    show (ru re b x a).toInt + (va a).toInt - _ = _
    rw [ru_ne hne])
  unfold vS
  rw [e, ru_eq]
  omega
theorem vS_va {re va tr hf dy : Row} {b : Nat} {x : Int32} (hb : b < 4) : vS re (ru va b x) tr hf dy = vS re va tr hf dy + (x.toInt - (va b).toInt) := by
  have e := sumI_upd (f := fun b => (re b).toInt + (va b).toInt - (if hf b = 0 then 0 else 5120000)) (g := fun j => (re j).toInt + (ru va b x j).toInt - (if hf j = 0 then 0 else 5120000)) (j := b) 4 hb (fun a _ hne => by
    show (re a).toInt + (ru va b x a).toInt - _ = _
    rw [ru_ne hne])
  unfold vS
  rw [e, ru_eq]
  omega
theorem vS_hf {re va tr hf dy : Row} {b : Nat} (hb : b < 4) (h0 : hf b = 0) : vS re va tr (ru hf b 1) dy = vS re va tr hf dy - 5120000 := by
  have e := sumI_upd (f := fun b => (re b).toInt + (va b).toInt - (if hf b = 0 then 0 else 5120000)) (g := fun j => (re j).toInt + (va j).toInt - (if ru hf b 1 j = 0 then 0 else 5120000)) (j := b) 4 hb (fun a _ hne => by
    show (re a).toInt + (va a).toInt - (if ru hf b 1 a = 0 then 0 else 5120000) = _
    rw [ru_ne hne])
  unfold vS
  rw [e, ru_eq, if_pos h0, if_neg (by decide)]
  omega
theorem vS_tr {re va tr hf dy : Row} {x : Int32} : vS re va (ru tr 0 x) hf dy = vS re va tr hf dy + (x.toInt - (tr 0).toInt) := by
  unfold vS
  rw [ru_eq]
  omega
theorem vS_dy {re va tr hf dy : Row} {x : Int32} : vS re va tr hf (ru dy 0 x) = vS re va tr hf dy - 720000 * (x.toInt - (dy 0).toInt) := by
  unfold vS
  rw [ru_eq]
  omega
/-- one account and one hand at most are all -/
theorem uS_one {ac no : Row} (h : ∀ i, i < 16 → 0 ≤ (ac i).toInt ∧ 0 ≤ (no i).toInt) {i : Nat} (hi : i < 16) : (ac i).toInt + (no i).toInt ≤ uS ac no :=
  sumI_one (f := fun j => (ac j).toInt + (no j).toInt) 16 i hi (fun j hj => by have := h j hj; show 0 ≤ (ac j).toInt + (no j).toInt; omega)
theorem uS_two {ac no : Row} (h : ∀ i, i < 16 → 0 ≤ (ac i).toInt ∧ 0 ≤ (no i).toInt) {i j : Nat} (hi : i < 16) (hj : j < 16) (hij : i ≠ j) : (ac i).toInt + (no i).toInt + ((ac j).toInt + (no j).toInt) ≤ uS ac no := by
  have e := sumI_upd (f := fun k => (ac k).toInt + (no k).toInt) (g := fun k => if k = i then 0 else (ac k).toInt + (no k).toInt) (j := i) 16 hi (fun a _ hne => if_neg hne)
  have h2 := sumI_one (f := fun k => if k = i then 0 else (ac k).toInt + (no k).toInt) 16 j hj (fun k hk => by
    show 0 ≤ (if k = i then (0 : Int) else (ac k).toInt + (no k).toInt)
    split
    · omega
    · have := h k hk; omega)
  simp only [if_true] at e
  rw [if_neg (fun q => hij q.symm)] at h2
  unfold uS
  omega
theorem uS_nonneg {ac no : Row} (h : ∀ i, i < 16 → 0 ≤ (ac i).toInt ∧ 0 ≤ (no i).toInt) : 0 ≤ uS ac no :=
  sumI_nonneg 16 (fun i hi => by have := h i hi; show 0 ≤ (ac i).toInt + (no i).toInt; omega)
theorem zH.pos {bo ac bl fo no hf : Row} (h : zH bo ac bl fo no hf) : ∀ i, i < 16 → 0 ≤ (ac i).toInt ∧ 0 ≤ (no i).toInt := fun i hi => by
  obtain ⟨-, -, h1, h2, h3, h4⟩ := h i hi
  omega
/-- sums of what banks have -/
theorem vS_one {L : Int} {re va tr le li hf sh dy : Row} (h : zB L re va le li hf sh) (ht : 0 ≤ (tr 0).toInt) {b : Nat} (hb : b < 4) : (re b).toInt + (va b).toInt + (tr 0).toInt ≤ vS re va tr hf dy + 20480000 + 720000 * (dy 0).toInt := by
  have h2 := sumI_one (f := fun b => (re b).toInt + (va b).toInt) 4 b hb (fun k hk => by
    obtain ⟨q1, q2, -⟩ := h k hk
    show 0 ≤ (re k).toInt + (va k).toInt
    omega)
  have h3 := sumI_le (f := fun b => (re b).toInt + (va b).toInt) (g := fun b => (re b).toInt + (va b).toInt - (if hf b = 0 then 0 else 5120000) + 5120000) 4 (fun k hk => by
    show (re k).toInt + (va k).toInt ≤ (re k).toInt + (va k).toInt - (if hf k = 0 then 0 else 5120000) + 5120000
    split <;> omega)
  have h4 := sumI_add (fun b => (re b).toInt + (va b).toInt - (if hf b = 0 then 0 else 5120000)) (fun _ => 5120000) 4
  have h5 := sumI_const 5120000 4
  unfold vS
  rw [h4, h5] at h3
  omega
theorem wB_nonneg {st fr am : Row} {a n : Nat} (h : ∀ p, p < n → st p = 0 → 0 ≤ (am p).toInt) : 0 ≤ wB st fr am a n :=
  sumI_nonneg n (fun p hp => by
    show 0 ≤ (if st p = 0 ∧ fr p = nI a then (am p).toInt else 0)
    split
    · next q => exact h p hp q.1
    · omega)
theorem wB_one {st fr am : Row} {a n p : Nat} (h : ∀ p, p < n → st p = 0 → 0 ≤ (am p).toInt) (hp : p < n) (h0 : st p = 0) (hf : fr p = nI a) : (am p).toInt ≤ wB st fr am a n := by
  have := sumI_one (f := fun p => if st p = 0 ∧ fr p = nI a then (am p).toInt else 0) n p hp (fun q hq => by
    show 0 ≤ (if st q = 0 ∧ fr q = nI a then (am q).toInt else 0)
    split
    · next z => exact h q hq z.1
    · omega)
  rw [if_pos ⟨h0, hf⟩] at this
  exact this
theorem wB_done {st fr am : Row} {a n p : Nat} {w : Int32} (hp : p < n) (h0 : st p = 0) (hw : w ≠ 0) : wB (ru st p w) fr am a n = wB st fr am a n - (if fr p = nI a then (am p).toInt else 0) := by
  have e := sumI_upd (f := fun p => if st p = 0 ∧ fr p = nI a then (am p).toInt else 0) (g := fun q => if ru st p w q = 0 ∧ fr q = nI a then (am q).toInt else 0) (j := p) n hp (fun q _ hne => by
    show (if ru st p w q = 0 ∧ fr q = nI a then (am q).toInt else 0) = _
    rw [ru_ne hne])
  unfold wB
  rw [e, ru_eq, if_neg (fun q => hw q.1)]
  by_cases z : fr p = nI a
  · rw [if_pos ⟨h0, z⟩, if_pos z]
    omega
  · rw [if_neg (fun q => z q.2), if_neg z]
    omega
theorem zP.am {pc fr to st am bo bl : Row} (h : zP pc fr to st am bo bl) : ∀ p, p < ix (pc 0) → st p = 0 → 0 ≤ (am p).toInt := fun p hp h0 => by
  have := ((h.2.1 p hp).2.2 h0).1
  omega
/-- what one payment blocks is blocked -/
theorem zP.le {pc fr to st am bo bl : Row} (h : zP pc fr to st am bo bl) {p : Nat} (hp : p < ix (pc 0)) (h0 : st p = 0) : (am p).toInt ≤ (bl (ix (fr p))).toInt := by
  obtain ⟨h1, h2, h3⟩ := h
  have q := (h2 p hp).1
  rw [h3 _ q.2]
  exact wB_one (zP.am ⟨h1, h2, h3⟩) hp h0 q.1
/-- a payment waits no more -/
theorem zP.done {pc fr to st am bo bl : Row} (h : zP pc fr to st am bo bl) {p : Nat} (hp : p < ix (pc 0)) (h0 : st p = 0) {w x : Int32} (hw : w ≠ 0) (hx : x.toInt = (bl (ix (fr p))).toInt - (am p).toInt) : zP pc fr to (ru st p w) am bo (ru bl (ix (fr p)) x) := by
  obtain ⟨h1, h2, h3⟩ := h
  have q := (h2 p hp).1
  refine ⟨h1, fun r hr => ⟨(h2 r hr).1, (h2 r hr).2.1, fun hs => ?_⟩, fun a ha => ?_⟩
  · by_cases e : r = p
    · subst e
      exact absurd (ru_eq.symm.trans hs) hw
    · exact (h2 r hr).2.2 ((ru_ne e).symm.trans hs)
  · rw [wB_done hp h0 hw]
    by_cases e : a = ix (fr p)
    · subst e
      rw [ru_eq, hx, if_pos q.1, h3 _ q.2]
    · rw [ru_ne e, if_neg (fun z => e ?_), h3 a ha]
      · omega
      · rw [z, ix_nI (by omega)]
