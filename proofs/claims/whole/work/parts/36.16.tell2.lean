/-! telling, by the methods of both sides -/
theorem tell_C {A : Mem} {R : Col} {d x y m b dy : Int32} (h : Rel A.1 R d) (i0 : inb (R kPayments 0) 200) (hx : inb x 16) (hy : inb y 16) : f_X10_tell A x y m b dy = (R kPayments 0, if R kBankOf (ix x) = R kBankOf (ix y) then f_X10_finish (tellC A.1 (ix (R kPayments 0)) x y m b (R kBankOf (ix x)) (R kBankOf (ix y)) (R kBlocked (ix x)), A.2) (ix (R kPayments 0)) dy else (tellC A.1 (ix (R kPayments 0)) x y m b (R kBankOf (ix x)) (R kBankOf (ix y)) (R kBlocked (ix x)), A.2)) ∧ ((R kBankOf (ix x) = R kBankOf (ix y) → ok_X10_finish (tellC A.1 (ix (R kPayments 0)) x y m b (R kBankOf (ix x)) (R kBankOf (ix y)) (R kBlocked (ix x)), A.2) (ix (R kPayments 0)) dy) → ok_X10_tell A x y m b dy) := by
  have hP : A.1 kPayments 0 = R kPayments 0 := h.sh kPayments 0 (by decide)
  have hBx : A.1 kBankOf (ix x) = R kBankOf (ix x) := h.sh kBankOf _ hx.2
  have hBy : A.1 kBankOf (ix y) = R kBankOf (ix y) := h.sh kBankOf _ hy.2
  have hBl : A.1 kBlocked (ix x) = R kBlocked (ix x) := h.sh kBlocked _ hx.2
  have i1 : inb (A.1 kPayments 0) 200 := by rw [hP]; exact i0
  rw [← hP, ← hBx, ← hBy, ← hBl]
  have ec : tellC A.1 (ix (A.1 kPayments 0)) x y m b (A.1 kBankOf (ix x)) (A.1 kBankOf (ix y)) (A.1 kBlocked (ix x)) = upd2 (upd2 (upd2 (upd2 (upd2 (upd2 (upd2 (upd2 (upd2 A.1 kPayments 0 (A.1 kPayments 0 + 1)) kFroms (ix (A.1 kPayments 0)) x) kTos (ix (A.1 kPayments 0)) y) kFromBank (ix (A.1 kPayments 0)) (A.1 kBankOf (ix x))) kToBank (ix (A.1 kPayments 0)) (A.1 kBankOf (ix y))) kAmounts (ix (A.1 kPayments 0)) m) kBoughtOn (ix (A.1 kPayments 0)) b) kStates (ix (A.1 kPayments 0)) 0) kBlocked (ix x) (A.1 kBlocked (ix x) + m) := by
    unfold tellC
    rw [← i1.1]
  rw [ec]
  have c1 : ∀ D : Col, upd2 (upd2 (upd2 (upd2 (upd2 D kToBank (ix (A.1 kPayments 0)) (A.1 kBankOf (ix y))) kAmounts (ix (A.1 kPayments 0)) m) kBoughtOn (ix (A.1 kPayments 0)) b) kStates (ix (A.1 kPayments 0)) 0) kBlocked (ix x) (A.1 kBlocked (ix x) + m) kToBank (ix (A.1 kPayments 0)) = A.1 kBankOf (ix y) := fun D => by
    rw [upd2_ne (by decide), upd2_ne (by decide), upd2_ne (by decide), upd2_ne (by decide), upd2_eq]
  have c2 : ∀ D : Col, upd2 (upd2 (upd2 (upd2 (upd2 (upd2 D kFromBank (ix (A.1 kPayments 0)) (A.1 kBankOf (ix x))) kToBank (ix (A.1 kPayments 0)) (A.1 kBankOf (ix y))) kAmounts (ix (A.1 kPayments 0)) m) kBoughtOn (ix (A.1 kPayments 0)) b) kStates (ix (A.1 kPayments 0)) 0) kBlocked (ix x) (A.1 kBlocked (ix x) + m) kFromBank (ix (A.1 kPayments 0)) = A.1 kBankOf (ix x) := fun D => by
    rw [upd2_ne (by decide), upd2_ne (by decide), upd2_ne (by decide), upd2_ne (by decide), upd2_ne (by decide), upd2_eq]
  constructor
  · unfold f_X10_tell
    simp only [lt_x, at10_in i1, holder_in hx, holder_in hy]
    have g1 : ∀ (C : Col) (T : Col × Int64) (P Q : Prop) [Decidable P] [Decidable Q], P = Q → ((A.1 kPayments 0, if P then f_X10_finish (C, T) (ix (A.1 kPayments 0)) dy else (C, T)) : Int32 × Mem) = (A.1 kPayments 0, if Q then f_X10_finish (C, T) (ix (A.1 kPayments 0)) dy else (C, T)) := by
      intro C T P Q i1 i2 e
      subst e
      congr
    exact g1 _ _ _ _ (by rw [← c1, ← c2]; rfl)
  · intro hok S1 e1
    subst e1
    intro S2 e2
    subst e2
    intro S3 e3
    subst e3
    intro S4 e4
    subst e4
    intro S5 e5
    subst e5
    intro S6 e6
    subst e6
    intro S7 e7
    subst e7
    intro S8 e8
    subst e8
    intro S9 e9
    subst e9
    simp only [at10_in i1, holder_in hx, holder_in hy]
    intro hc
    refine hok ?_
    rw [← c1, ← c2]
    exact hc
