/-! what the printed walks say: loops as functions, indices, contracts of one answer -/
def iter {α : Type} (f : Nat → α → α) (a : α) : Nat → α
  | 0 => a
  | n + 1 => f n (iter f a n)
def iterE {α β : Type} (f : Nat → α → α ⊕ β) (a : α) : Nat → α ⊕ β
  | 0 => .inl a
  | n + 1 => match iterE f a n with
    | .inl x => f n x
    | .inr r => .inr r
def ix (x : Int32) : Nat := x.toNatClampNeg
def nn (x : Int32) : Prop := x = nI (ix x)
def inb (x : Int32) (N : Nat) : Prop := x = nI (ix x) ∧ ix x < N
theorem ix_nI {n : Nat} (h : n < 2 ^ 31) : ix (nI n) = n := nI_clamp h
theorem ix_lt (x : Int32) : ix x < 2 ^ 31 := by
  unfold ix
  rw [← Int32.toNat_toInt]
  have := Int32.toInt_lt x
  omega
theorem nn_of {x : Int32} (h : ¬ x < 0) : nn x := by
  unfold nn
  apply Int32.toInt_inj.mp
  rw [nI_toInt (ix_lt x)]
  have h1 : 0 ≤ x.toInt := by
    have h2 := mt Int32.lt_iff_toInt_lt.mpr h
    have h3 : (0 : Int32).toInt = 0 := by decide
    rw [h3] at h2
    omega
  unfold ix
  rw [← Int32.toNat_toInt]
  omega
theorem inb_of {x : Int32} {N : Nat} (h : ¬ x < 0) (h2 : ¬ nI N ≤ x) (hN : N < 2 ^ 31) : inb x N := by
  have h1 := nn_of h
  refine ⟨h1, ?_⟩
  rcases Nat.lt_or_ge (ix x) N with q | q
  · exact q
  · exact absurd (by rw [h1]; exact nI_le q (ix_lt x)) h2
theorem iinc1 (j : Nat) : nI j + Int32.ofInt 1 = nI (j + 1) := nI_1 j
theorem lit_nI (n : Nat) : (OfNat.ofNat n : Int32) = nI n := rfl
/-- one answer -/
def Is (v0 : Option AV) (S0 : Mem) : Option AV → Mem → Prop := fun v S' => v = v0 ∧ S' = S0
def cat1 (v : AV) : Bool := match v with
  | .inl (.int _) => true
  | .inr _ => true
  | _ => false
theorem cat1_ok {O : Om} {as : List AV} (h : as.all cat1 = true) : ∀ v ∈ stV O as, v.category = 1 := by
  intro v hv
  obtain ⟨w, hw, rfl⟩ := List.mem_map.mp hv
  have h1 := List.all_eq_true.mp h w hw
  unfold cat1 at h1
  split at h1
  · rfl
  · rfl
  · cases h1
theorem LV.pad {O : Om} {la : Array Slot} {nL : Nat} {ls : List (Option AV)} (h : LV O la nL ls) (k : Nat) : LV O la nL (ls ++ List.replicate k none) := by
  refine ⟨h.1, h.2.1, fun i v hv => h.2.2 i v ?_⟩
  rcases Nat.lt_or_ge i ls.length with q | q
  · rwa [List.getElem?_append_left q] at hv
  · rw [List.getElem?_append_right q, List.getElem?_replicate] at hv
    split at hv <;> cases hv
theorem AW.pad {O : Om} {G : Cx} {d : MD} {hh : List (Nat × Nat × Nat × Nat)} {k n : Nat} {Q : State → Prop} {S : Mem} {pc : Nat} {ls ls2 : List (Option AV)} {st : List AV} (j : Nat) (hl : ls ++ List.replicate j none = ls2) (h : AW O G d hh k n Q S pc ls2 st) : AW O G d hh k n Q S pc ls st := by
  obtain ⟨p, l, e, R, s, m, args, below, meth, c⟩ := G
  intro F H locs la hP hS hL
  exact h F H locs la hP hS (hl ▸ hL.pad j)
theorem Cts.of {d : MD} {fr lo : Nat} {as : List AV} {S : Mem} {P : Option AV → Mem → Prop} {ls : List (Option AV)} (hd : MDok d) (hy : plainName d.2.1.cls = true) (hown : d.2.1.cls = d.1) (hc : as.all cat1 = true) (hn : as.length ≤ d.2.2.2.1) (hls : as.map some ++ List.replicate (d.2.2.2.1 - as.length) none = ls)
    (body : ∀ (O : Om) (G : Cx), BW O G (d, [], fr, lo, 0, 0) 0 0 (QV O G 0 0 P) S 0 ls []) : Cts d fr lo as S P := fun _ hl =>
  Ct.of hl hd hy hown (fun _ => cat1_ok hc) hn (fun O G hG => AW.pad _ hls (body O G hG))
theorem Chs.of {d : MD} {hh : List (Nat × Nat × Nat × Nat)} {fr lo kc ns : Nat} {as : List AV} {S : Mem} {P : Option AV → Mem → Prop} {ls : List (Option AV)} (hd : MDok d) (hy : plainName d.2.1.cls = true) (hown : d.2.1.cls = d.1) (hc : as.all cat1 = true) (hn : as.length ≤ d.2.2.2.1) (hls : as.map some ++ List.replicate (d.2.2.2.1 - as.length) none = ls)
    (body : ∀ (O : Om) (G : Cx), BW O G (d, hh, fr, lo, kc, ns) 0 0 (QV O G kc ns P) S 0 ls []) : Chs d hh fr lo kc ns as S P := fun _ hl =>
  Ch.of hl hd hy hown (fun _ => cat1_ok hc) hn (fun O G hG => AW.pad _ hls (body O G hG))
theorem Cqs.of {d : MD} {fr lo : Nat} {as : List AV} {S : Mem} {E : String} {ls : List (Option AV)} (hd : MDok d) (hy : plainName d.2.1.cls = true) (hown : d.2.1.cls = d.1) (hc : as.all cat1 = true) (hn : as.length ≤ d.2.2.2.1) (hls : as.map some ++ List.replicate (d.2.2.2.1 - as.length) none = ls)
    (body : ∀ (O : Om) (G : Cx), BW O G (d, [], fr, lo, 1, 6) 0 0 (QX O G S E) S 0 ls []) : Cqs d fr lo as S E := fun _ hl =>
  Cq.of hl hd hy hown (fun _ => cat1_ok hc) hn (fun O G hG => AW.pad _ hls (body O G hG))
def rmB (D : FD) (k n fr lo nL kc ns : Nat) (st : List AV) : Bool := Nat.ble (fr + 1) D.2.2.1 && Nat.ble (8 + (nL + 11) + lo) D.2.2.2.1 && st.all cat1 && Nat.ble st.length 8 && Nat.ble (k + kc) D.2.2.2.2.1 && Nat.ble (n + ns) D.2.2.2.2.2
theorem cat_sum {O : Om} : ∀ {st : List AV}, st.all cat1 = true → ((stV O st).map fun v => v.category).sum = st.length := by
  intro st
  induction st with
  | nil => intro _; rfl
  | cons a r ih =>
    intro h
    simp only [List.all_cons, Bool.and_eq_true] at h
    have h1 : (toV O a).category = 1 := cat1_ok (O := O) (as := [a]) (by simp [h.1]) _ (by simp [stV])
    have h2 := ih h.2
    show (toV O a).category + ((stV O r).map fun v => v.category).sum = r.length + 1
    rw [h1, h2]
    omega
theorem rm {O : Om} {D : FD} {k n fr lo nL kc ns : Nat} {st : List AV} (h : rmB D k n fr lo nL kc ns st = true) : RmOk O D k n fr lo nL kc ns st := by
  simp only [rmB, Bool.and_eq_true] at h
  obtain ⟨⟨⟨⟨⟨h1, h2⟩, h3⟩, h4⟩, h5⟩, h6⟩ := h
  exact ⟨Nat.le_of_ble_eq_true h1, Nat.le_of_ble_eq_true h2, by rw [cat_sum h3]; exact Nat.le_of_ble_eq_true h4, Nat.le_of_ble_eq_true h5, Nat.le_of_ble_eq_true h6⟩
def mmB (D : FD) (k n : Nat) (st : List AV) : Bool := Nat.ble 1 D.2.2.1 && Nat.ble (8 + 13) D.2.2.2.1 && st.all cat1 && Nat.ble st.length 8 && Nat.ble k D.2.2.2.2.1 && Nat.ble n D.2.2.2.2.2
theorem mm {O : Om} {D : FD} {k n : Nat} {st : List AV} (h : mmB D k n st = true) : 1 ≤ D.2.2.1 ∧ 8 + 13 ≤ D.2.2.2.1 ∧ ((stV O st).map fun v => v.category).sum ≤ 8 ∧ k ≤ D.2.2.2.2.1 ∧ n ≤ D.2.2.2.2.2 := by
  simp only [mmB, Bool.and_eq_true] at h
  obtain ⟨⟨⟨⟨⟨h1, h2⟩, h3⟩, h4⟩, h5⟩, h6⟩ := h
  exact ⟨Nat.le_of_ble_eq_true h1, Nat.le_of_ble_eq_true h2, by rw [cat_sum h3]; exact Nat.le_of_ble_eq_true h4, Nat.le_of_ble_eq_true h5, Nat.le_of_ble_eq_true h6⟩
section Sugar
variable {O : Om} {G : Cx} {D : FD} {k n : Nat} {Q : State → Prop} {S S1 : Mem} {pc : Nat} {ls : List (Option AV)} {st st0 : List AV} {index fr lo : Nat} {dy : MD} {as : List AV}
theorem a_callVi (a b : Nat) {x : Int32} {q : Nat × Nat} {ci N : Nat} {fs : List Value} {T : u_T} (hC : Cts dy fr lo (.inr q :: as) S (Is (some (vi x)) S1)) (hT : IA D a b pc (.invokevirtual index) 3) (cw : CV D.1.1 index dy as.length) (hq : q.2 < cntK q.1) (he : ent O S q.1 q.2 = .inr (ci, fs)) (hc : vwCl[ci]? = some (dy.2.1.cls, T, N)) (hst : st0 = as.reverse ++ .inr q :: st) (hz : RmOk O D k n fr lo dy.2.2.2.1 0 0 st) (kk : BW O G D k n Q S1 (pc + 3) ls (vi x :: st)) : BW O G D k n Q S pc ls st0 :=
  a_callV a b hC hT cw hq he hc hst hz (fun v S' h => by obtain ⟨rfl, rfl⟩ := h; exact kk)
theorem a_callVr (a b : Nat) {r : Nat × Nat} {q : Nat × Nat} {ci N : Nat} {fs : List Value} {T : u_T} (hC : Cts dy fr lo (.inr q :: as) S (Is (some (.inr r)) S1)) (hT : IA D a b pc (.invokevirtual index) 3) (cw : CV D.1.1 index dy as.length) (hq : q.2 < cntK q.1) (he : ent O S q.1 q.2 = .inr (ci, fs)) (hc : vwCl[ci]? = some (dy.2.1.cls, T, N)) (hst : st0 = as.reverse ++ .inr q :: st) (hz : RmOk O D k n fr lo dy.2.2.2.1 0 0 st) (kk : BW O G D k n Q S1 (pc + 3) ls (.inr r :: st)) : BW O G D k n Q S pc ls st0 :=
  a_callV a b hC hT cw hq he hc hst hz (fun v S' h => by obtain ⟨rfl, rfl⟩ := h; exact kk)
theorem a_callVv (a b : Nat) {q : Nat × Nat} {ci N : Nat} {fs : List Value} {T : u_T} (hC : Cts dy fr lo (.inr q :: as) S (Is none S1)) (hT : IA D a b pc (.invokevirtual index) 3) (cw : CV D.1.1 index dy as.length) (hq : q.2 < cntK q.1) (he : ent O S q.1 q.2 = .inr (ci, fs)) (hc : vwCl[ci]? = some (dy.2.1.cls, T, N)) (hst : st0 = as.reverse ++ .inr q :: st) (hz : RmOk O D k n fr lo dy.2.2.2.1 0 0 st) (kk : BW O G D k n Q S1 (pc + 3) ls st) : BW O G D k n Q S pc ls st0 :=
  a_callV a b hC hT cw hq he hc hst hz (fun v S' h => by obtain ⟨rfl, rfl⟩ := h; exact kk)
theorem a_callSi (a b : Nat) {x : Int32} (hC : Cts dy fr lo as S (Is (some (vi x)) S1)) (hT : IA D a b pc (.invokestatic index) 3) (cw : CS D.1.1 index dy as.length) (hst : st0 = as.reverse ++ st) (hz : RmOk O D k n fr lo dy.2.2.2.1 0 0 st) (kk : BW O G D k n Q S1 (pc + 3) ls (vi x :: st)) : BW O G D k n Q S pc ls st0 :=
  a_callS a b hC hT cw hst hz (fun v S' h => by obtain ⟨rfl, rfl⟩ := h; exact kk)
theorem a_callSv (a b : Nat) (hC : Cts dy fr lo as S (Is none S1)) (hT : IA D a b pc (.invokestatic index) 3) (cw : CS D.1.1 index dy as.length) (hst : st0 = as.reverse ++ st) (hz : RmOk O D k n fr lo dy.2.2.2.1 0 0 st) (kk : BW O G D k n Q S1 (pc + 3) ls st) : BW O G D k n Q S pc ls st0 :=
  a_callS a b hC hT cw hst hz (fun v S' h => by obtain ⟨rfl, rfl⟩ := h; exact kk)
theorem a_callSNi (a b : Nat) {x : Int32} {host : String} (hC : Cts dy fr lo as S (Is (some (vi x)) S1)) (hT : IA D a b pc (.invokestatic index) 3) (cw : CSN D.1.1 index host dy as.length) (hst : st0 = as.reverse ++ st) (hz : RmOk O D k n fr lo dy.2.2.2.1 0 0 st) (kk : BW O G D k n Q S1 (pc + 3) ls (vi x :: st)) : BW O G D k n Q S pc ls st0 :=
  a_callSN a b hC hT cw hst hz (fun v S' h => by obtain ⟨rfl, rfl⟩ := h; exact kk)
end Sugar
