/-! the law's own rows -/
abbrev fdL_law : FD := (mdL_law, [], 12, 440, 601024, 7293034)
def LawOk (O : Om) (G : Cx) (b L : Nat) (xs : Nat → Int32) : Prop := match G with
  | (_, _, _, _, s, _, args, _, _, _) => O.1 = s.heap.size ∧ va_X b L xs s s.heap ∧ b < s.heap.size ∧ args = #[Value.ref b]
def lawQ (G : Cx) (b : Nat) : State → Prop := match G with
  | (_, _, _, _, s, _, _, below, _, _) => lw_Z below #[Value.ref b] s
section LawRows
variable {O : Om} {G : Cx} {D : FD} {k n : Nat} {Q : State → Prop} {S : Mem} {pc : Nat} {ls : List (Option AV)} {st : List AV} {b0 L : Nat} {xs : Nat → Int32}
theorem a_aloadR (a b : Nat) {f : Fin 4} {q : Addr} (hT : IA D a b pc (.aload_n f) 1) (hl : ls[(f : Nat)]? = some (some (.inl (.ref q)))) (kk : BW O G D k n Q S (pc + 1) ls (.inl (.ref q) :: st)) : BW O G D k n Q S pc ls st := by
  obtain ⟨p, l, e, R, s, m, args, below, meth, c⟩ := G
  intro hR F H locs la hP hS hL
  exact lv_aload_n F.1 F.2.1 (F.dec hT) rfl (hL.get hl) (kk hR F H locs la hP hS hL)
theorem a_slen (a b : Nat) (hs : LawOk O G b0 L xs) (hT : IA D a b pc .arraylength 1) (kk : BW O G D k n Q S (pc + 1) ls (vi (nI L) :: st)) : BW O G D k n Q S pc ls (.inl (.ref b0) :: st) := by
  obtain ⟨p, l, e, R, s, m, args, below, meth, c⟩ := G
  intro hR F H locs la hP hS hL
  obtain ⟨h1, h2, h3, -⟩ := hs
  exact va_slen F.1 F.2.1 h2 h3 (fun q : O.1 ≤ b0 => by rw [h1] at q; omega) hS (F.dec hT) (kk hR F H locs la hP hS hL)
theorem a_sld (a b : Nat) {x : Int32} (j : Nat) (hs : LawOk O G b0 L xs) (hT : IA D a b pc .iaload 1) (hx : x = nI j) (hj : j < L) (hL2 : L < 2 ^ 31) (kk : BW O G D k n Q S (pc + 1) ls (vi (xs j) :: st)) : BW O G D k n Q S pc ls (vi x :: .inl (.ref b0) :: st) := by
  obtain ⟨p, l, e, R, s, m, args, below, meth, c⟩ := G
  intro hR F H locs la hP hS hL
  obtain ⟨h1, h2, h3, -⟩ := hs
  obtain ⟨g1, g2⟩ := va_inI hx hj hL2
  refine va_sld F.1 F.2.1 h2 h3 (fun q : O.1 ≤ b0 => by rw [h1] at q; omega) hS g1 (F.dec hT) ?_
  rw [g2]
  exact kk hR F H locs la hP hS hL
theorem a_widen {k' n' : Nat} (h1 : k ≤ k') (h2 : n ≤ n') (kk : BW O G D k' n' Q S pc ls st) : BW O G D k n Q S pc ls st := by
  obtain ⟨p, l, e, R, s, m, args, below, meth, c⟩ := G
  intro hR F H locs la hP hS hL
  exact W.widen h1 h2 (kk hR F H locs la hP hS hL)
theorem a_lret (a b : Nat) (hs : LawOk O G b0 L xs) (hT : IA fdL_law a b pc .ireturn 1) (hk : k ≤ 601024) (hn : n ≤ 7293034) : BW O G fdL_law k n (lawQ G b0) S pc ls [vi 1] := by
  obtain ⟨p, l, e, R, s, m, args, below, meth, c⟩ := G
  intro hR F H locs la hP hS hL
  obtain ⟨h1, -, -, h4⟩ := hs
  have hRe : R = room_1 := hR
  subst hRe; subst h4
  refine va_forget (fun q hq => by have := hS.2.2 q hq; rw [← h1]; exact this) ?_
  refine W.widen hk hn ?_
  exact lw_ret F.1 F.2.1 F.2.2.2.2.2.1 F.2.2.2.2.2.2.1 (F.dec (D := fdL_law) hT)
end LawRows
theorem lcmp_eq {x y : Int64} (h : x = y) : lg_cmp x y = 0 := by
  subst h
  unfold lg_cmp
  simp
theorem law_end {t L : Nat} (h : L < 5 * t + 5) (hL : L ≤ 2560) (ht : 5 * t ≤ L) : nI L - nI 5 < nI (5 * t) := by
  apply Int32.lt_iff_toInt_lt.mpr
  rw [Jvm.Kit.i32_sub (by rw [nI_toInt (by omega), nI_toInt (by omega)]; omega) (by rw [nI_toInt (by omega), nI_toInt (by omega)]; omega), nI_toInt (by omega), nI_toInt (by omega), nI_toInt (by omega)]
  omega
theorem law_goon {t L : Nat} (h : 5 * t + 5 ≤ L) (hL : L ≤ 2560) : ¬ nI L - nI 5 < nI (5 * t) := by
  intro q
  have q := Int32.lt_iff_toInt_lt.mp q
  rw [Jvm.Kit.i32_sub (by rw [nI_toInt (by omega), nI_toInt (by omega)]; omega) (by rw [nI_toInt (by omega), nI_toInt (by omega)]; omega), nI_toInt (by omega), nI_toInt (by omega), nI_toInt (by omega)] at q
  omega
theorem iinc5 (t : Nat) : nI (5 * t) + Int32.ofInt 5 = nI (5 * (t + 1)) := by
  rw [show 5 * (t + 1) = 5 * t + 5 by omega, ← nI_add]
  rfl
