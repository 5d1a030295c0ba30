/-! telling, both sides -/
theorem pays_R {u v L : Int} {B : Mem} {x y m g : Int32} (i0 : inb (B.2.1 kPayments 0) 200) (hx : inb x 16) (hy : inb y 16) (n2 : Num u v L (tellR B.2.1 x y m g)) (hn2 : ix (tellR B.2.1 x y m g kPayments 0) = ix (B.2.1 kPayments 0) + 1) (hs2 : tellR B.2.1 x y m g kStates (ix (B.2.1 kPayments 0)) = 0) : (f_X12_pays B x y m g).1 = B.2.1 kPayments 0 ∧ (f_X12_pays B x y m g).2.2.1 = payR B.2.1 x y m g ∧ ok_X12_pays B x y m g := by
  have e : f_X12_pays B x y m g = (B.2.1 kPayments 0, if B.2.1 kBankOf (ix x) = B.2.1 kBankOf (ix y) then f_X12_finishes (B.1, tellR B.2.1 x y m g, B.2.2) (B.2.1 kPayments 0) else (B.1, tellR B.2.1 x y m g, B.2.2)) := rfl
  rw [e]
  refine ⟨rfl, ?_, ?_⟩
  · unfold payR
    by_cases c : B.2.1 kBankOf (ix x) = B.2.1 kBankOf (ix y)
    · rw [if_pos c, if_pos c]
      have q := finR_eq (B := (B.1, tellR B.2.1 x y m g, B.2.2)) (p := ix (B.2.1 kPayments 0)) n2 (by show _ < ix (tellR B.2.1 x y m g kPayments 0); omega) hs2
      rw [← i0.1] at q
      exact q
    · rw [if_neg c, if_neg c]
  · intro S1 e1
    subst e1
    refine ⟨i0, ?_⟩
    intro S3 e3
    subst e3
    refine ⟨i0, ?_⟩
    intro S5 e5
    subst e5
    refine ⟨i0, ?_⟩
    intro S7 e7
    subst e7
    refine ⟨i0, ?_⟩
    intro S9 e9
    subst e9
    refine ⟨i0, ?_⟩
    intro S11 e11
    subst e11
    refine ⟨i0, ?_⟩
    intro S13 e13
    subst e13
    refine ⟨hx, hx, ?_⟩
    intro S16 e16
    subst e16
    refine ⟨hx, hy, fun _ => ?_⟩
    have q := fin_ok12 (B := (B.1, tellR B.2.1 x y m g, B.2.2)) (p := ix (B.2.1 kPayments 0)) n2 (by show _ < ix (tellR B.2.1 x y m g kPayments 0); omega)
    rw [← i0.1] at q
    exact q
theorem tell_ok {u v L : Int} {A B : Mem} {d x y m b g dy : Int32} (h : Rel A.1 B.2.1 d) (n : Num u v L B.2.1) (hu : u ≤ 5120000) (hx : inb x 16) (hy : inb y 16) (hxy : x ≠ y) (bx : B.2.1 kBankOf (ix x) ≠ -1) (b2 : B.2.1 kBankOf (ix y) ≠ -1) (hm : 1 ≤ m.toInt) (hf : m.toInt ≤ (B.2.1 kAccounts (ix x)).toInt - (B.2.1 kBlocked (ix x)).toInt) (hn : ix (B.2.1 kPayments 0) < 200) (hg : (g = 0 ∧ b = -1) ∨ (g = 1 ∧ b = B.2.1 kDays 0)) (hd : dy = B.2.1 kDays 0) :
    ok_X10_tell A x y m b dy ∧ ok_X12_pays B x y m g ∧ (f_X10_tell A x y m b dy).1 = (f_X12_pays B x y m g).1 ∧ Rel (f_X10_tell A x y m b dy).2.1 (f_X12_pays B x y m g).2.2.1 d ∧ Num u v L (f_X12_pays B x y m g).2.2.1 ∧ (f_X12_pays B x y m g).2.2.1 = payR B.2.1 x y m g := by
  have i0 : inb (B.2.1 kPayments 0) 200 := ⟨n.2.2.1.1.1, hn⟩
  obtain ⟨n2, hn2, hs2⟩ := N_tell (m := m) (g := g) n hx hy hxy bx b2 hm hf hn
  have r2 := h.tell (m := m) (b := b) (g := g) n.2.2.1.1 hx hy hn hg n.2.2.2.2.2.2.2.2.1.1
  obtain ⟨p1, p2, p3⟩ := pays_R (g := g) i0 hx hy n2 hn2 hs2
  obtain ⟨c1, c2⟩ := tell_C (m := m) (b := b) (dy := dy) h i0 hx hy
  have r2' : Rel (tellC A.1 (ix (B.2.1 kPayments 0)) x y m b (B.2.1 kBankOf (ix x)) (B.2.1 kBankOf (ix y)) (B.2.1 kBlocked (ix x)), A.2).1 (tellR B.2.1 x y m g) d := r2
  have hd2 : dy = tellR B.2.1 x y m g kDays 0 := hd
  obtain ⟨f1, -, f3⟩ := r2'.finish n2 (p := ix (B.2.1 kPayments 0)) (by omega) hd2 hs2
  have n3 := N_finish (p := ix (B.2.1 kPayments 0)) n2 hu (by omega) hs2
  rw [c1, p1, p2]
  refine ⟨c2 (fun _ => f1), p3, rfl, ?_, ?_, rfl⟩
  · unfold payR
    by_cases c : B.2.1 kBankOf (ix x) = B.2.1 kBankOf (ix y)
    · rw [if_pos c, if_pos c]
      exact f3
    · rw [if_neg c, if_neg c]
      exact r2
  · unfold payR
    by_cases c : B.2.1 kBankOf (ix x) = B.2.1 kBankOf (ix y)
    · rw [if_pos c]
      exact n3
    · rw [if_neg c]
      exact n2
/-- what paying leaves alone -/
theorem payR_off {R : Col} {x y m g : Int32} {k : Nat} (hk : [8, 9, 30, 31, 32, 33, 34, 35, 36, 37].contains k = false) : payR R x y m g k = R k := by
  have hn : ∀ c : Nat, [8, 9, 30, 31, 32, 33, 34, 35, 36, 37].contains c = true → k ≠ c := fun c hc q => by rw [← q, hk] at hc; cases hc
  have e1 : tellR R x y m g k = R k := by
    unfold tellR
    rw [u_ne (hn 9 (by decide)), u_ne (hn 34 (by decide)), u_ne (hn 36 (by decide)), u_ne (hn 35 (by decide)), u_ne (hn 33 (by decide)), u_ne (hn 32 (by decide)), u_ne (hn 31 (by decide)), u_ne (hn 30 (by decide))]
  have e2 : ∀ (D : Col) (p : Nat), finR D p k = D k := fun D p => by
    unfold finR
    rw [u_ne (hn 8 (by decide)), u_ne (hn 8 (by decide)), u_ne (hn 9 (by decide)), u_ne (hn 37 (by decide)), u_ne (hn 34 (by decide))]
  unfold payR
  split
  · rw [e2, e1]
  · exact e1
