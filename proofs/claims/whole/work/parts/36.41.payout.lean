/-! paying out the accounts of a bank that fails: what is sure, what is above, the heir -/
theorem Rel.bank {C R : Col} {d v w : Int32} (h : Rel C R d) {i : Nat} (hv : v = w) (hp : ∀ p, p < ix (R kPayments 0) → R kStates p = 0 → ix (R kFroms p) ≠ i ∧ ix (R kTos p) ≠ i) : Rel (upd2 C kBankOf i v) (upd2 R kBankOf i w) d := by
  obtain ⟨h1, h2, h3, h4, h5, h6, h7, h8, h9⟩ := h
  refine ⟨h1.upd _ i hv, LogI_upd (by decide) h2, fun a ha => (logSum_upd (by decide)).trans (h3 a ha), (logSum_upd (by decide)).trans (h4.trans (by rw [capR_off (by decide)])), zDr_off (by decide) (by decide) h5, h6, fun p hp2 hs => ?_, h8, h9⟩
  obtain ⟨q1, q2⟩ := hp p hp2 hs
  have q := h7 p hp2 hs
  show C kFromBank p = ru (R kBankOf) i w (ix (R kFroms p)) ∧ C kToBank p = ru (R kBankOf) i w (ix (R kTos p))
  rw [ru_ne q1, ru_ne q2]
  exact q
def nbL (hf : Row) : Nat → Int32
  | 0 => -1
  | j + 1 => if nbL hf j = -1 then (if hf j = 0 then nI j else -1) else nbL hf j
theorem nbL_spec (hf : Row) : ∀ n, n ≤ 4 → (nbL hf n = -1 ∧ ∀ b, b < n → hf b ≠ 0) ∨ ∃ b, b < n ∧ nbL hf n = nI b ∧ hf b = 0 := by
  intro n
  induction n with
  | zero => intro _; exact Or.inl ⟨rfl, fun b hb => by omega⟩
  | succ n ih =>
    intro hn
    have e : nbL hf (n + 1) = if nbL hf n = -1 then (if hf n = 0 then nI n else -1) else nbL hf n := rfl
    rw [e]
    rcases ih (by omega) with ⟨q1, q2⟩ | ⟨b, q1, q2, q3⟩
    · rw [if_pos q1]
      by_cases c : hf n = 0
      · rw [if_pos c]
        exact Or.inr ⟨n, by omega, rfl, c⟩
      · rw [if_neg c]
        refine Or.inl ⟨rfl, fun b hb => ?_⟩
        by_cases z : b = n
        · subst z
          exact c
        · exact q2 b (by omega)
    · have hne : ¬ nbL hf n = -1 := by
        rw [q2]
        exact inb_ne (inb_nI (show b < 200 by omega) (by omega))
      rw [if_neg hne]
      exact Or.inr ⟨b, by omega, q2, q3⟩
theorem nb_iter {f : Nat → Unit → Unit ⊕ Int32} {hf : Row} (h : ∀ j, j < 4 → f j () = if hf j = 0 then .inr (nI j) else .inl ()) : ∀ n, n ≤ 4 → (nbL hf n = -1 → iterE f () n = .inl ()) ∧ (nbL hf n ≠ -1 → iterE f () n = .inr (nbL hf n)) := by
  intro n
  induction n with
  | zero => intro _; exact ⟨fun _ => rfl, fun q => absurd rfl q⟩
  | succ n ih =>
    intro hn
    obtain ⟨i1, i2⟩ := ih (by omega)
    have e : nbL hf (n + 1) = if nbL hf n = -1 then (if hf n = 0 then nI n else -1) else nbL hf n := rfl
    by_cases c : nbL hf n = -1
    · rw [if_pos c] at e
      have hfn := h n (by omega)
      by_cases c2 : hf n = 0
      · rw [if_pos c2] at e hfn
        rw [e]
        exact ⟨fun q => absurd q (inb_ne (inb_nI (show n < 200 by omega) (by omega))), fun _ => iterE_stop (i1 c) hfn _ (by omega)⟩
      · rw [if_neg c2] at e hfn
        rw [e]
        exact ⟨fun _ => iterE_go (i1 c) hfn, fun q => absurd rfl q⟩
    · rw [if_neg c] at e
      rw [e]
      exact ⟨fun q => absurd q c, fun _ => iterE_in (i2 c)⟩
theorem nb_C {S : Mem} {hf : Row} (h : ∀ b, b < 4 → S.1 kHaveFailed b = hf b) : f_X3_lowestBankThatStands S = nbL hf 4 := by
  have key := nb_iter (f := b2_X3_lowestBankThatStands S) (hf := hf) (fun j hj => by
    unfold b2_X3_lowestBankThatStands
    rw [bank_nI hj, h j hj]) 4 (Nat.le_refl _)
  unfold f_X3_lowestBankThatStands
  by_cases c : nbL hf 4 = -1
  · rw [matchE_l (key.1 c), c]
  · rw [matchE_r (key.2 c)]
theorem nb_R {S : Mem} : f_X12_nextBank S = nbL (S.2.1 kHaveFailed) 4 := by
  have key := nb_iter (f := b2_X12_nextBank S) (hf := S.2.1 kHaveFailed) (fun j hj => rfl) 4 (Nat.le_refl _)
  unfold f_X12_nextBank
  by_cases c : nbL (S.2.1 kHaveFailed) 4 = -1
  · rw [matchE_l (key.1 c), c]
  · rw [matchE_r (key.2 c)]
def suR (R : Col) (x : Int32) (i : Nat) : Int32 := if R kBankOf i = x then (if R kAccounts i < nI 100 then R kAccounts i else nI 100) else 0
def abR (R : Col) (x : Int32) (i : Nat) : Int32 := if R kBankOf i = x then R kAccounts i - (if R kAccounts i < nI 100 then R kAccounts i else nI 100) else 0
theorem iter_pair {f : Nat → Int32 × Int32 → Int32 × Int32} {a b : Nat → Int32} (p q : Int32) : ∀ n, (∀ j, j < n → ∀ σ, f j σ = (σ.1 + a j, σ.2 + b j)) → iter f (p, q) n = (p + s32 a n, q + s32 b n) := by
  intro n
  induction n with
  | zero => intro _; show (p, q) = (p + 0, q + 0); rw [Int32.add_zero, Int32.add_zero]
  | succ n ih =>
    intro h
    rw [iter_s, ih (fun j hj => h j (by omega)), h n (by omega)]
    show (p + s32 a n + a n, q + s32 b n + b n) = (p + (s32 a n + a n), q + (s32 b n + b n))
    rw [Int32.add_assoc, Int32.add_assoc]
theorem iter_pairS {f : Nat → Int32 × Int32 → Int32 × Int32} {a b : Nat → Int32} (p q : Int32) : ∀ n, (∀ j, j < n → ∀ σ, f j σ = (σ.1 - a j, σ.2 + b j)) → iter f (p, q) n = (p - s32 a n, q + s32 b n) := by
  intro n
  induction n with
  | zero => intro _; show (p, q) = (p - 0, q + 0); rw [Int32.sub_zero, Int32.add_zero]
  | succ n ih =>
    intro h
    rw [iter_s, ih (fun j hj => h j (by omega)), h n (by omega)]
    show (p - s32 a n - a n, q + s32 b n + b n) = (p - (s32 a n + a n), q + (s32 b n + b n))
    rw [Int32.add_assoc]
    have : p - s32 a n - a n = p - (s32 a n + a n) := by grind
    rw [this]
theorem sums_C {A : Mem} {R : Col} {d x : Int32} (h : Rel A.1 R d) : iter (b8_X3_payOut A x) (0, 0) 16 = (s32 (suR R x) 16, s32 (abR R x) 16) := by
  rw [iter_pair (a := suR R x) (b := abR R x) 0 0 16 (fun j hj σ => by
    have e1 : A.1 kBankOf j = R kBankOf j := h.sh kBankOf j hj
    have e2 : A.1 kAccounts j = R kAccounts j := h.sh kAccounts j hj
    unfold b8_X3_payOut f_X5_sureOfAccount suR abR
    simp only [lt_x, holder_nI hj, e1, e2]
    by_cases c : R kBankOf j = x
    · simp only [c, if_true]
    · simp only [c, if_false, Int32.add_zero])]
  rw [Int32.zero_add, Int32.zero_add]
theorem sums_R {B : Mem} {x v : Int32} (hp : ∀ i, i < 16 → 0 ≤ (B.2.1 kAccounts i).toInt) : iter (b62_X12_fails x B) (v, 0) 16 = (v - s32 (suR B.2.1 x) 16, s32 (abR B.2.1 x) 16) := by
  rw [iter_pairS (a := suR B.2.1 x) (b := abR B.2.1 x) v 0 16 (fun j hj σ => by
    have h0 := hp j hj
    have hh := w_hi (B.2.1 kAccounts j)
    unfold b62_X12_fails suR abR
    simp only [lt_x, least_eq, most_eq]
    by_cases c : B.2.1 kBankOf j = x
    · simp only [c, if_true]
      by_cases c2 : B.2.1 kAccounts j < nI 100
      · have c3 : B.2.1 kAccounts j - nI 100 ≤ 0 := by
          rw [w_lt, i100_toInt] at c2
          rw [w_le, w_sub, i100_toInt, w_0]
          omega
        simp only [c2, c3, if_true]
        have : B.2.1 kAccounts j - B.2.1 kAccounts j = 0 := by grind
        rw [this]
      · by_cases c3 : B.2.1 kAccounts j - nI 100 ≤ 0
        · have : B.2.1 kAccounts j - nI 100 = 0 := by
            rw [w_lt, i100_toInt] at c2
            rw [w_le, w_sub, i100_toInt, w_0] at c3
            apply Int32.toInt_inj.mp
            rw [w_sub, i100_toInt, w_0]
            omega
          simp only [c2, c3, if_true, if_false]
          rw [this]
        · simp only [c2, c3, if_false]
    · simp only [c, if_false]
      rw [if_pos (by decide), if_pos (by decide)])]
  rw [Int32.zero_add]
