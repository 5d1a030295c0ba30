/-! the walk of the law's start -/
theorem e_done {O : Om} {G : Cx} {D : FD} {k n : Nat} {Q : State → Prop} {pc : Nat} {ls : List (Option AV)} {st : List AV} (kk : BW O G D k n Q S0 pc ls st) : CW O G D k n Q ([], 332) pc ls st := by
  obtain ⟨p, l, e, R, s, m, args, below, meth, c⟩ := G
  intro hR FF H locs la hP hS hL
  exact kk hR FF.1 H locs la hP.rep hS hL
theorem lw_go {O : Om} {G : Cx} {b L : Nat} {xs : Nat → Int32} (hs : LawOk O G b L xs) (hL : L ≤ 2560) : CW O G fdL_law 0 0 (lawQ G b) ([], 0) 0 [some (.inl (.ref b)), none, none, none, none, none, none] [] := by
  refine e_new (pc := 0) 0 0 (kd := 11) (i := 0) (ci := 11) (N := 5) (C := RX11) (T := TX11) (fs := [.null, .null, .null, .null, .int 0]) rfl (by decide) rfl rfl inW11 tyX11 tyX11_ok nw_L_8 bl_X11 ⟨Nat.le_of_ble_eq_true rfl, Nat.le_of_ble_eq_true rfl⟩ ?_
  refine e_dup (pc := 3) 0 1 rfl rfl ?_
  refine e_callI (pc := 4) 0 2 (fun l hl => c_X11 hl _) rfl ci_L_120 ⟨Nat.le_of_ble_eq_true rfl, Nat.le_of_ble_eq_true rfl, (by rw [cat_sum rfl]; exact Nat.le_of_ble_eq_true rfl), Nat.le_of_ble_eq_true rfl, Nat.le_of_ble_eq_true rfl⟩ ?_
  refine e_drop0 rfl ?_
  refine e_astore_n (pc := 7) 0 3 (ls2 := [some (.inl (.ref b)), some (vr 11 0), none, none, none, none, none]) rfl rfl (by decide) rfl ?_
  refine e_new (pc := 8) 0 4 (kd := 12) (i := 0) (ci := 12) (N := 52) (C := RX12) (T := TX12) (fs := [.int 0, .int 0, .int 0, .int 0, .int 0, .null, .null, .null, .null, .null, .null, .null, .null, .null, .null, .null, .null, .null, .null, .null, .null, .null, .null, .null, .int 0, .null, .null, .null, .null, .null, .int 0, .null, .null, .null, .null, .null, .null, .null, .null, .int 0, .null, .null, .int 0, .null, .null, .null, .null, .null, .int 0, .int 0, .int 0, .int 0]) rfl (by decide) rfl rfl inW12 tyX12 tyX12_ok nw_L_121 bl_X12 ⟨Nat.le_of_ble_eq_true rfl, Nat.le_of_ble_eq_true rfl⟩ ?_
  refine e_dup (pc := 11) 0 5 rfl rfl ?_
  refine e_callI (pc := 12) 0 6 (fun l hl => c_X12 hl _) rfl ci_L_123 ⟨Nat.le_of_ble_eq_true rfl, Nat.le_of_ble_eq_true rfl, (by rw [cat_sum rfl]; exact Nat.le_of_ble_eq_true rfl), Nat.le_of_ble_eq_true rfl, Nat.le_of_ble_eq_true rfl⟩ ?_
  refine e_drop0 rfl ?_
  refine e_astore_n (pc := 15) 0 7 (ls2 := [some (.inl (.ref b)), some (vr 11 0), some (vr 12 0), none, none, none, none]) rfl rfl (by decide) rfl ?_
  refine e_iconst (pc := 16) 0 8 (v := nI 1) rfl (by decide) ?_
  refine e_newl (pc := 17) 0 9 (kd := 63) (i := 0) (N := 1) (f := fun j => if j = 0 then S0.2.2 else 0) rfl (by decide) rfl ac_long (fun j _ => by show (if j = 0 then (0 : Int64) else 0) = 0; exact ite_self 0) rfl (by decide) ⟨Nat.le_of_ble_eq_true rfl, Nat.le_of_ble_eq_true rfl⟩ ?_
  refine e_drop0 rfl ?_
  refine e_astore_n (pc := 19) 0 10 (ls2 := [some (.inl (.ref b)), some (vr 11 0), some (vr 12 0), some (vr 63 0), none, none, none]) rfl rfl (by decide) rfl ?_
  refine e_iconst (pc := 20) 0 11 (v := nI (5 * 0)) rfl (by decide) ?_
  refine e_istore (pc := 21) 0 12 (ls2 := [some (.inl (.ref b)), some (vr 11 0), some (vr 12 0), some (vr 63 0), some (vi (nI (5 * 0))), none, none]) rfl (by decide) rfl ?_
  refine e_widen (k' := 400 + 0) (n' := 6000 + 6 * 0) (Nat.le_of_ble_eq_true rfl) (Nat.le_of_ble_eq_true rfl) ?_
  refine e_eqx (x' := 332) rfl ?_
  refine e_done ?_
  exact law_loop (I := II) all_steps (fun t S _ h => h.mono (by omega)) hs hL 513 0 S0 rfl (by omega) first0
theorem whole_start {p : Program} {e : Env} {s : State} {m : MethodId} {below : List Frame} {meth : Method} {c : Code} (l : Launch) (hflags : l.flags = flags0) {b L : Nat} {xs : Nat → Int32} (hL : L ≤ 2560) (C0 : lw_At p s m meth c b L xs) (hex : c.exceptionTable.toList = []) (hnm : meth.name = yL_law.name) : W p l e room_1 s m #[Value.ref b] below meth c s.heap [] 0 0 (lw_Z below #[Value.ref b] s) (entryFrame m ([Value.ref b] : List Value).toArray 7) := by
  obtain ⟨hx, hb, hr, hml, hown, hts, hX, hbl, hlocks, hgv⟩ := C0
  obtain ⟨O, h1, hA, hO, hK⟩ := lw_Om hts
  have hE := lw_E hts hgv h1
  have hlt : l.stackTraces = false := by
    unfold Launch.stackTraces
    rw [hflags]
    decide +kernel
  have F : Fx O (p, l, e, room_1, s, m, #[Value.ref b], below, meth, c) mdL_law [] := ⟨hx, hb, hml, hown, fun w hw => hts w (wsg_lw hw), hr, hlocks, dtL_law, hK, hE, hO, by rw [h1]; exact Nat.le_refl _, hlt, hex⟩
  have FF : FI O (p, l, e, room_1, s, m, #[Value.ref b], below, meth, c) fdL_law := ⟨F, hA, lw_AF hts, hnm⟩
  have hs : LawOk O (p, l, e, room_1, s, m, #[Value.ref b], below, meth, c) b L xs := ⟨h1, hX, hbl, rfl⟩
  have hP : RepN O ([], 0) s.heap := ⟨by rw [h1]; rfl, List.nodup_nil, fun q hq => (by cases hq), fun k i _ h => absurd h (Nat.not_lt_zero _)⟩
  have hLV := (LV.entry (O := O) (as := [.inl (.ref b)]) (nL := 7) (fun v hv => by rcases List.mem_singleton.mp hv with rfl; rfl) (by show 1 ≤ 7; omega)).pad 6
  rw [lg_entry_eq]
  exact lw_go hs hL rfl FF s.heap [] _ hP va_S.rf hLV
