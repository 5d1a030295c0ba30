/-! the law's cases -/
set_option maxRecDepth 100000 in
theorem case_mint {O : Om} {G : Cx} {b0 L t : Nat} {xs : Nat → Int32} {S : Mem} {I : Nat → Mem → Prop} (st : Step_mint I) (hs : LawOk O G b0 L xs) (hL : 5 * t + 5 ≤ L) (hL2 : L ≤ 2560) (hI : I t S) (kk : ∀ S2 : Mem, I (t + 1) S2 → BW O G fdL_law (400 + (t + 1)) (6000 + 6 * (t + 1)) (lawQ G b0) S2 2620 [some (.inl (.ref b0)), some (vr 11 0), some (vr 12 0), some (vr 63 0), some (vi (nI (5 * t))), none, none] []) : BW O G fdL_law (400 + t) (6000 + 6 * t) (lawQ G b0) S 216 [some (.inl (.ref b0)), some (vr 11 0), some (vr 12 0), some (vr 63 0), some (vi (nI (5 * t))), none, none] [] := by
  have ht : t < 512 := by omega
  refine a_aload_n (pc := 216) 0 25 rfl rfl ?_
  refine a_aloadR (pc := 217) 0 26 rfl rfl ?_
  refine a_iload (pc := 218) 0 27 rfl rfl ?_
  refine a_iconst (pc := 220) 0 28 (v := 1) rfl (by decide) ?_
  refine a_iadd (pc := 221) 0 29 rfl ?_
  refine a_sld (pc := 222) 0 30 (5 * t + 1) hs rfl (nI_1 _) (by omega) (by omega) ?_
  refine a_aloadR (pc := 223) 0 31 rfl rfl ?_
  refine a_iload (pc := 224) 0 32 rfl rfl ?_
  refine a_iconst (pc := 226) 0 33 (v := nI 2) rfl (by decide) ?_
  refine a_iadd (pc := 227) 0 34 rfl ?_
  refine a_sld (pc := 228) 0 35 (5 * t + 2) hs rfl (nI_add _ _) (by omega) (by omega) ?_
  refine a_aload_n (pc := 229) 0 36 rfl rfl ?_
  obtain ⟨fr, lo, kc, ns, rc, S1, ⟨z1, z2, z3, z4⟩, hC, hok, hth, hout, hI2⟩ := st t S (xs (5 * t + 1)) (xs (5 * t + 2)) ht hI
  refine a_callH (pc := 230) 0 37 hC rfl ch_L_124 rfl ⟨z1, z2, (by rw [cat_sum rfl]; decide), (by show _ ≤ 601024; omega), (by show _ ≤ 7293034; omega)⟩ (fun v9 S9 h9 => ?_)
  obtain ⟨rfl, rfl⟩ := h9
  refine a_istore (pc := 233) 0 38 (ls2 := [some (.inl (.ref b0)), some (vr 11 0), some (vr 12 0), some (vr 63 0), some (vi (nI (5 * t))), some (vi rc), none]) rfl (by decide) rfl ?_
  refine a_aload_n (pc := 235) 0 39 rfl rfl ?_
  refine a_aloadR (pc := 236) 0 40 rfl rfl ?_
  refine a_iload (pc := 237) 0 41 rfl rfl ?_
  refine a_iconst (pc := 239) 0 42 (v := 1) rfl (by decide) ?_
  refine a_iadd (pc := 240) 0 43 rfl ?_
  refine a_sld (pc := 241) 0 44 (5 * t + 1) hs rfl (nI_1 _) (by omega) (by omega) ?_
  refine a_aloadR (pc := 242) 0 45 rfl rfl ?_
  refine a_iload (pc := 243) 0 46 rfl rfl ?_
  refine a_iconst (pc := 245) 0 47 (v := nI 2) rfl (by decide) ?_
  refine a_iadd (pc := 246) 1 0 rfl ?_
  refine a_sld (pc := 247) 1 1 (5 * t + 2) hs rfl (nI_add _ _) (by omega) (by omega) ?_
  refine a_callVi (pc := 248) 1 2 (c_X12_mint (S := S9) (xs (5 * t + 1)) (xs (5 * t + 2)) hok) rfl cv_L_129 (Nat.le_of_ble_eq_true rfl) rfl rfl rfl ⟨Nat.le_of_ble_eq_true rfl, Nat.le_of_ble_eq_true rfl, (by rw [cat_sum rfl]; exact Nat.le_of_ble_eq_true rfl), (by show _ ≤ 601024; omega), (by show _ ≤ 7293034; omega)⟩ ?_
  refine a_set (fun S2 eS2 => ?_)
  refine a_seti (fun bv ebv => ?_)
  rw [eS2] at hth hout hI2
  rw [ebv] at hout
  refine a_istore (pc := 251) 1 3 (ls2 := [some (.inl (.ref b0)), some (vr 11 0), some (vr 12 0), some (vr 63 0), some (vi (nI (5 * t))), some (vi rc), some (vi bv)]) rfl (by decide) rfl ?_
  refine a_aload_n (pc := 253) 1 4 rfl rfl ?_
  refine a_callVi (pc := 254) 1 5 (c_X12_thrown (S := S2)) rfl cv_L_130 (Nat.le_of_ble_eq_true rfl) rfl rfl rfl ⟨Nat.le_of_ble_eq_true rfl, Nat.le_of_ble_eq_true rfl, (by rw [cat_sum rfl]; exact Nat.le_of_ble_eq_true rfl), (by show _ ≤ 601024; omega), (by show _ ≤ 7293034; omega)⟩ ?_
  refine a_iload (pc := 257) 1 6 rfl rfl ?_
  refine a_icmp_eq_t (pc := 259) (tgt := 264) 1 7 rfl (by decide) hth ?_
  refine a_iload (pc := 264) 1 10 rfl rfl ?_
  have E9 : BW O G fdL_law (400 + t + kc) (6000 + 6 * t + ns) (lawQ G b0) S2 281 [some (.inl (.ref b0)), some (vr 11 0), some (vr 12 0), some (vr 63 0), some (vi (nI (5 * t))), some (vi rc), some (vi bv)] [] := by
    refine a_goto (pc := 281) (tgt := 2620) 1 21 rfl (by decide) ?_
    refine a_widen (k' := 400 + (t + 1)) (n' := 6000 + 6 * (t + 1)) (by omega) (by omega) ?_
    refine a_drop (ls2 := [some (.inl (.ref b0)), some (vr 11 0), some (vr 12 0), some (vr 63 0), some (vi (nI (5 * t))), none, none]) ⟨rfl, rfl, rfl, rfl, rfl, trivial⟩ ?_
    exact kk S2 hI2
  refine a_if_ne (pc := 266) (tgt := 281) 1 11 rfl (by decide) (fun c8 => E9) (fun c8 => ?_)
  refine a_aload_n (pc := 269) 1 12 rfl rfl ?_
  refine a_iconst (pc := 270) 1 13 (v := 0) rfl (by decide) ?_
  refine a_lald (pc := 271) 1 14 rfl rfl ?_
  refine a_iload (pc := 272) 1 15 rfl rfl ?_
  refine a_i2l (pc := 274) 1 16 rfl ?_
  refine a_lcmp (pc := 275) 1 17 rfl ?_
  exact a_if_eq_t (pc := 276) (tgt := 281) 1 18 rfl (by decide) (lcmp_eq (hout c8)) E9
set_option maxRecDepth 100000 in
theorem case_forge {O : Om} {G : Cx} {b0 L t : Nat} {xs : Nat → Int32} {S : Mem} {I : Nat → Mem → Prop} (st : Step_forge I) (hs : LawOk O G b0 L xs) (hL : 5 * t + 5 ≤ L) (hL2 : L ≤ 2560) (hI : I t S) (kk : ∀ S2 : Mem, I (t + 1) S2 → BW O G fdL_law (400 + (t + 1)) (6000 + 6 * (t + 1)) (lawQ G b0) S2 2620 [some (.inl (.ref b0)), some (vr 11 0), some (vr 12 0), some (vr 63 0), some (vi (nI (5 * t))), none, none] []) : BW O G fdL_law (400 + t) (6000 + 6 * t) (lawQ G b0) S 284 [some (.inl (.ref b0)), some (vr 11 0), some (vr 12 0), some (vr 63 0), some (vi (nI (5 * t))), none, none] [] := by
  have ht : t < 512 := by omega
  refine a_aload_n (pc := 284) 1 22 rfl rfl ?_
  refine a_aloadR (pc := 285) 1 23 rfl rfl ?_
  refine a_iload (pc := 286) 1 24 rfl rfl ?_
  refine a_iconst (pc := 288) 1 25 (v := 1) rfl (by decide) ?_
  refine a_iadd (pc := 289) 1 26 rfl ?_
  refine a_sld (pc := 290) 1 27 (5 * t + 1) hs rfl (nI_1 _) (by omega) (by omega) ?_
  refine a_aloadR (pc := 291) 1 28 rfl rfl ?_
  refine a_iload (pc := 292) 1 29 rfl rfl ?_
  refine a_iconst (pc := 294) 1 30 (v := nI 2) rfl (by decide) ?_
  refine a_iadd (pc := 295) 1 31 rfl ?_
  refine a_sld (pc := 296) 1 32 (5 * t + 2) hs rfl (nI_add _ _) (by omega) (by omega) ?_
  refine a_aload_n (pc := 297) 1 33 rfl rfl ?_
  obtain ⟨fr, lo, kc, ns, rc, S1, ⟨z1, z2, z3, z4⟩, hC, hok, hth, hout, hI2⟩ := st t S (xs (5 * t + 1)) (xs (5 * t + 2)) ht hI
  refine a_callH (pc := 298) 1 34 hC rfl ch_L_134 rfl ⟨z1, z2, (by rw [cat_sum rfl]; decide), (by show _ ≤ 601024; omega), (by show _ ≤ 7293034; omega)⟩ (fun v9 S9 h9 => ?_)
  obtain ⟨rfl, rfl⟩ := h9
  refine a_istore (pc := 301) 1 35 (ls2 := [some (.inl (.ref b0)), some (vr 11 0), some (vr 12 0), some (vr 63 0), some (vi (nI (5 * t))), some (vi rc), none]) rfl (by decide) rfl ?_
  refine a_aload_n (pc := 303) 1 36 rfl rfl ?_
  refine a_aloadR (pc := 304) 1 37 rfl rfl ?_
  refine a_iload (pc := 305) 1 38 rfl rfl ?_
  refine a_iconst (pc := 307) 1 39 (v := 1) rfl (by decide) ?_
  refine a_iadd (pc := 308) 1 40 rfl ?_
  refine a_sld (pc := 309) 1 41 (5 * t + 1) hs rfl (nI_1 _) (by omega) (by omega) ?_
  refine a_aloadR (pc := 310) 1 42 rfl rfl ?_
  refine a_iload (pc := 311) 1 43 rfl rfl ?_
  refine a_iconst (pc := 313) 1 44 (v := nI 2) rfl (by decide) ?_
  refine a_iadd (pc := 314) 1 45 rfl ?_
  refine a_sld (pc := 315) 1 46 (5 * t + 2) hs rfl (nI_add _ _) (by omega) (by omega) ?_
  refine a_callVi (pc := 316) 1 47 (c_X12_forge (S := S9) (xs (5 * t + 1)) (xs (5 * t + 2)) hok) rfl cv_L_136 (Nat.le_of_ble_eq_true rfl) rfl rfl rfl ⟨Nat.le_of_ble_eq_true rfl, Nat.le_of_ble_eq_true rfl, (by rw [cat_sum rfl]; exact Nat.le_of_ble_eq_true rfl), (by show _ ≤ 601024; omega), (by show _ ≤ 7293034; omega)⟩ ?_
  refine a_set (fun S2 eS2 => ?_)
  refine a_seti (fun bv ebv => ?_)
  rw [eS2] at hth hout hI2
  rw [ebv] at hout
  refine a_istore (pc := 319) 2 0 (ls2 := [some (.inl (.ref b0)), some (vr 11 0), some (vr 12 0), some (vr 63 0), some (vi (nI (5 * t))), some (vi rc), some (vi bv)]) rfl (by decide) rfl ?_
  refine a_aload_n (pc := 321) 2 1 rfl rfl ?_
  refine a_callVi (pc := 322) 2 2 (c_X12_thrown (S := S2)) rfl cv_L_130 (Nat.le_of_ble_eq_true rfl) rfl rfl rfl ⟨Nat.le_of_ble_eq_true rfl, Nat.le_of_ble_eq_true rfl, (by rw [cat_sum rfl]; exact Nat.le_of_ble_eq_true rfl), (by show _ ≤ 601024; omega), (by show _ ≤ 7293034; omega)⟩ ?_
  refine a_iload (pc := 325) 2 3 rfl rfl ?_
  refine a_icmp_eq_t (pc := 327) (tgt := 332) 2 4 rfl (by decide) hth ?_
  refine a_iload (pc := 332) 2 7 rfl rfl ?_
  have E9 : BW O G fdL_law (400 + t + kc) (6000 + 6 * t + ns) (lawQ G b0) S2 349 [some (.inl (.ref b0)), some (vr 11 0), some (vr 12 0), some (vr 63 0), some (vi (nI (5 * t))), some (vi rc), some (vi bv)] [] := by
    refine a_goto (pc := 349) (tgt := 2620) 2 18 rfl (by decide) ?_
    refine a_widen (k' := 400 + (t + 1)) (n' := 6000 + 6 * (t + 1)) (by omega) (by omega) ?_
    refine a_drop (ls2 := [some (.inl (.ref b0)), some (vr 11 0), some (vr 12 0), some (vr 63 0), some (vi (nI (5 * t))), none, none]) ⟨rfl, rfl, rfl, rfl, rfl, trivial⟩ ?_
    exact kk S2 hI2
  refine a_if_ne (pc := 334) (tgt := 349) 2 8 rfl (by decide) (fun c8 => E9) (fun c8 => ?_)
  refine a_aload_n (pc := 337) 2 9 rfl rfl ?_
  refine a_iconst (pc := 338) 2 10 (v := 0) rfl (by decide) ?_
  refine a_lald (pc := 339) 2 11 rfl rfl ?_
  refine a_iload (pc := 340) 2 12 rfl rfl ?_
  refine a_i2l (pc := 342) 2 13 rfl ?_
  refine a_lcmp (pc := 343) 2 14 rfl ?_
  exact a_if_eq_t (pc := 344) (tgt := 349) 2 15 rfl (by decide) (lcmp_eq (hout c8)) E9
set_option maxRecDepth 100000 in
theorem case_hand {O : Om} {G : Cx} {b0 L t : Nat} {xs : Nat → Int32} {S : Mem} {I : Nat → Mem → Prop} (st : Step_hand I) (hs : LawOk O G b0 L xs) (hL : 5 * t + 5 ≤ L) (hL2 : L ≤ 2560) (hI : I t S) (kk : ∀ S2 : Mem, I (t + 1) S2 → BW O G fdL_law (400 + (t + 1)) (6000 + 6 * (t + 1)) (lawQ G b0) S2 2620 [some (.inl (.ref b0)), some (vr 11 0), some (vr 12 0), some (vr 63 0), some (vi (nI (5 * t))), none, none] []) : BW O G fdL_law (400 + t) (6000 + 6 * t) (lawQ G b0) S 352 [some (.inl (.ref b0)), some (vr 11 0), some (vr 12 0), some (vr 63 0), some (vi (nI (5 * t))), none, none] [] := by
  have ht : t < 512 := by omega
  refine a_aload_n (pc := 352) 2 19 rfl rfl ?_
  refine a_aloadR (pc := 353) 2 20 rfl rfl ?_
  refine a_iload (pc := 354) 2 21 rfl rfl ?_
  refine a_iconst (pc := 356) 2 22 (v := 1) rfl (by decide) ?_
  refine a_iadd (pc := 357) 2 23 rfl ?_
  refine a_sld (pc := 358) 2 24 (5 * t + 1) hs rfl (nI_1 _) (by omega) (by omega) ?_
  refine a_aloadR (pc := 359) 2 25 rfl rfl ?_
  refine a_iload (pc := 360) 2 26 rfl rfl ?_
  refine a_iconst (pc := 362) 2 27 (v := nI 2) rfl (by decide) ?_
  refine a_iadd (pc := 363) 2 28 rfl ?_
  refine a_sld (pc := 364) 2 29 (5 * t + 2) hs rfl (nI_add _ _) (by omega) (by omega) ?_
  refine a_aloadR (pc := 365) 2 30 rfl rfl ?_
  refine a_iload (pc := 366) 2 31 rfl rfl ?_
  refine a_iconst (pc := 368) 2 32 (v := nI 3) rfl (by decide) ?_
  refine a_iadd (pc := 369) 2 33 rfl ?_
  refine a_sld (pc := 370) 2 34 (5 * t + 3) hs rfl (nI_add _ _) (by omega) (by omega) ?_
  refine a_aload_n (pc := 371) 2 35 rfl rfl ?_
  obtain ⟨fr, lo, kc, ns, rc, S1, ⟨z1, z2, z3, z4⟩, hC, hok, hth, hout, hI2⟩ := st t S (xs (5 * t + 1)) (xs (5 * t + 2)) (xs (5 * t + 3)) ht hI
  refine a_callH (pc := 372) 2 36 hC rfl ch_L_137 rfl ⟨z1, z2, (by rw [cat_sum rfl]; decide), (by show _ ≤ 601024; omega), (by show _ ≤ 7293034; omega)⟩ (fun v9 S9 h9 => ?_)
  obtain ⟨rfl, rfl⟩ := h9
  refine a_istore (pc := 375) 2 37 (ls2 := [some (.inl (.ref b0)), some (vr 11 0), some (vr 12 0), some (vr 63 0), some (vi (nI (5 * t))), some (vi rc), none]) rfl (by decide) rfl ?_
  refine a_aload_n (pc := 377) 2 38 rfl rfl ?_
  refine a_aloadR (pc := 378) 2 39 rfl rfl ?_
  refine a_iload (pc := 379) 2 40 rfl rfl ?_
  refine a_iconst (pc := 381) 2 41 (v := 1) rfl (by decide) ?_
  refine a_iadd (pc := 382) 2 42 rfl ?_
  refine a_sld (pc := 383) 2 43 (5 * t + 1) hs rfl (nI_1 _) (by omega) (by omega) ?_
  refine a_aloadR (pc := 384) 2 44 rfl rfl ?_
  refine a_iload (pc := 385) 2 45 rfl rfl ?_
  refine a_iconst (pc := 387) 2 46 (v := nI 2) rfl (by decide) ?_
  refine a_iadd (pc := 388) 2 47 rfl ?_
  refine a_sld (pc := 389) 3 0 (5 * t + 2) hs rfl (nI_add _ _) (by omega) (by omega) ?_
  refine a_aloadR (pc := 390) 3 1 rfl rfl ?_
  refine a_iload (pc := 391) 3 2 rfl rfl ?_
  refine a_iconst (pc := 393) 3 3 (v := nI 3) rfl (by decide) ?_
  refine a_iadd (pc := 394) 3 4 rfl ?_
  refine a_sld (pc := 395) 3 5 (5 * t + 3) hs rfl (nI_add _ _) (by omega) (by omega) ?_
  refine a_callVi (pc := 396) 3 6 (c_X12_hand (S := S9) (xs (5 * t + 1)) (xs (5 * t + 2)) (xs (5 * t + 3)) hok) rfl cv_L_140 (Nat.le_of_ble_eq_true rfl) rfl rfl rfl ⟨Nat.le_of_ble_eq_true rfl, Nat.le_of_ble_eq_true rfl, (by rw [cat_sum rfl]; exact Nat.le_of_ble_eq_true rfl), (by show _ ≤ 601024; omega), (by show _ ≤ 7293034; omega)⟩ ?_
  refine a_set (fun S2 eS2 => ?_)
  refine a_seti (fun bv ebv => ?_)
  rw [eS2] at hth hout hI2
  rw [ebv] at hout
  refine a_istore (pc := 399) 3 7 (ls2 := [some (.inl (.ref b0)), some (vr 11 0), some (vr 12 0), some (vr 63 0), some (vi (nI (5 * t))), some (vi rc), some (vi bv)]) rfl (by decide) rfl ?_
  refine a_aload_n (pc := 401) 3 8 rfl rfl ?_
  refine a_callVi (pc := 402) 3 9 (c_X12_thrown (S := S2)) rfl cv_L_130 (Nat.le_of_ble_eq_true rfl) rfl rfl rfl ⟨Nat.le_of_ble_eq_true rfl, Nat.le_of_ble_eq_true rfl, (by rw [cat_sum rfl]; exact Nat.le_of_ble_eq_true rfl), (by show _ ≤ 601024; omega), (by show _ ≤ 7293034; omega)⟩ ?_
  refine a_iload (pc := 405) 3 10 rfl rfl ?_
  refine a_icmp_eq_t (pc := 407) (tgt := 412) 3 11 rfl (by decide) hth ?_
  refine a_iload (pc := 412) 3 14 rfl rfl ?_
  have E9 : BW O G fdL_law (400 + t + kc) (6000 + 6 * t + ns) (lawQ G b0) S2 429 [some (.inl (.ref b0)), some (vr 11 0), some (vr 12 0), some (vr 63 0), some (vi (nI (5 * t))), some (vi rc), some (vi bv)] [] := by
    refine a_goto (pc := 429) (tgt := 2620) 3 25 rfl (by decide) ?_
    refine a_widen (k' := 400 + (t + 1)) (n' := 6000 + 6 * (t + 1)) (by omega) (by omega) ?_
    refine a_drop (ls2 := [some (.inl (.ref b0)), some (vr 11 0), some (vr 12 0), some (vr 63 0), some (vi (nI (5 * t))), none, none]) ⟨rfl, rfl, rfl, rfl, rfl, trivial⟩ ?_
    exact kk S2 hI2
  refine a_if_ne (pc := 414) (tgt := 429) 3 15 rfl (by decide) (fun c8 => E9) (fun c8 => ?_)
  refine a_aload_n (pc := 417) 3 16 rfl rfl ?_
  refine a_iconst (pc := 418) 3 17 (v := 0) rfl (by decide) ?_
  refine a_lald (pc := 419) 3 18 rfl rfl ?_
  refine a_iload (pc := 420) 3 19 rfl rfl ?_
  refine a_i2l (pc := 422) 3 20 rfl ?_
  refine a_lcmp (pc := 423) 3 21 rfl ?_
  exact a_if_eq_t (pc := 424) (tgt := 429) 3 22 rfl (by decide) (lcmp_eq (hout c8)) E9
set_option maxRecDepth 100000 in
theorem case_open {O : Om} {G : Cx} {b0 L t : Nat} {xs : Nat → Int32} {S : Mem} {I : Nat → Mem → Prop} (st : Step_open I) (hs : LawOk O G b0 L xs) (hL : 5 * t + 5 ≤ L) (hL2 : L ≤ 2560) (hI : I t S) (kk : ∀ S2 : Mem, I (t + 1) S2 → BW O G fdL_law (400 + (t + 1)) (6000 + 6 * (t + 1)) (lawQ G b0) S2 2620 [some (.inl (.ref b0)), some (vr 11 0), some (vr 12 0), some (vr 63 0), some (vi (nI (5 * t))), none, none] []) : BW O G fdL_law (400 + t) (6000 + 6 * t) (lawQ G b0) S 432 [some (.inl (.ref b0)), some (vr 11 0), some (vr 12 0), some (vr 63 0), some (vi (nI (5 * t))), none, none] [] := by
  have ht : t < 512 := by omega
  refine a_aload_n (pc := 432) 3 26 rfl rfl ?_
  refine a_aloadR (pc := 433) 3 27 rfl rfl ?_
  refine a_iload (pc := 434) 3 28 rfl rfl ?_
  refine a_iconst (pc := 436) 3 29 (v := 1) rfl (by decide) ?_
  refine a_iadd (pc := 437) 3 30 rfl ?_
  refine a_sld (pc := 438) 3 31 (5 * t + 1) hs rfl (nI_1 _) (by omega) (by omega) ?_
  refine a_aloadR (pc := 439) 3 32 rfl rfl ?_
  refine a_iload (pc := 440) 3 33 rfl rfl ?_
  refine a_iconst (pc := 442) 3 34 (v := nI 2) rfl (by decide) ?_
  refine a_iadd (pc := 443) 3 35 rfl ?_
  refine a_sld (pc := 444) 3 36 (5 * t + 2) hs rfl (nI_add _ _) (by omega) (by omega) ?_
  refine a_aload_n (pc := 445) 3 37 rfl rfl ?_
  obtain ⟨fr, lo, kc, ns, rc, S1, ⟨z1, z2, z3, z4⟩, hC, hok, hth, hout, hI2⟩ := st t S (xs (5 * t + 1)) (xs (5 * t + 2)) ht hI
  refine a_callH (pc := 446) 3 38 hC rfl ch_L_141 rfl ⟨z1, z2, (by rw [cat_sum rfl]; decide), (by show _ ≤ 601024; omega), (by show _ ≤ 7293034; omega)⟩ (fun v9 S9 h9 => ?_)
  obtain ⟨rfl, rfl⟩ := h9
  refine a_istore (pc := 449) 3 39 (ls2 := [some (.inl (.ref b0)), some (vr 11 0), some (vr 12 0), some (vr 63 0), some (vi (nI (5 * t))), some (vi rc), none]) rfl (by decide) rfl ?_
  refine a_aload_n (pc := 451) 3 40 rfl rfl ?_
  refine a_aloadR (pc := 452) 3 41 rfl rfl ?_
  refine a_iload (pc := 453) 3 42 rfl rfl ?_
  refine a_iconst (pc := 455) 3 43 (v := 1) rfl (by decide) ?_
  refine a_iadd (pc := 456) 3 44 rfl ?_
  refine a_sld (pc := 457) 3 45 (5 * t + 1) hs rfl (nI_1 _) (by omega) (by omega) ?_
  refine a_aloadR (pc := 458) 3 46 rfl rfl ?_
  refine a_iload (pc := 459) 3 47 rfl rfl ?_
  refine a_iconst (pc := 461) 4 0 (v := nI 2) rfl (by decide) ?_
  refine a_iadd (pc := 462) 4 1 rfl ?_
  refine a_sld (pc := 463) 4 2 (5 * t + 2) hs rfl (nI_add _ _) (by omega) (by omega) ?_
  refine a_callVi (pc := 464) 4 3 (c_X12_open (S := S9) (xs (5 * t + 1)) (xs (5 * t + 2)) hok) rfl cv_L_143 (Nat.le_of_ble_eq_true rfl) rfl rfl rfl ⟨Nat.le_of_ble_eq_true rfl, Nat.le_of_ble_eq_true rfl, (by rw [cat_sum rfl]; exact Nat.le_of_ble_eq_true rfl), (by show _ ≤ 601024; omega), (by show _ ≤ 7293034; omega)⟩ ?_
  refine a_set (fun S2 eS2 => ?_)
  refine a_seti (fun bv ebv => ?_)
  rw [eS2] at hth hout hI2
  rw [ebv] at hout
  refine a_istore (pc := 467) 4 4 (ls2 := [some (.inl (.ref b0)), some (vr 11 0), some (vr 12 0), some (vr 63 0), some (vi (nI (5 * t))), some (vi rc), some (vi bv)]) rfl (by decide) rfl ?_
  refine a_aload_n (pc := 469) 4 5 rfl rfl ?_
  refine a_callVi (pc := 470) 4 6 (c_X12_thrown (S := S2)) rfl cv_L_130 (Nat.le_of_ble_eq_true rfl) rfl rfl rfl ⟨Nat.le_of_ble_eq_true rfl, Nat.le_of_ble_eq_true rfl, (by rw [cat_sum rfl]; exact Nat.le_of_ble_eq_true rfl), (by show _ ≤ 601024; omega), (by show _ ≤ 7293034; omega)⟩ ?_
  refine a_iload (pc := 473) 4 7 rfl rfl ?_
  refine a_icmp_eq_t (pc := 475) (tgt := 480) 4 8 rfl (by decide) hth ?_
  refine a_iload (pc := 480) 4 11 rfl rfl ?_
  have E9 : BW O G fdL_law (400 + t + kc) (6000 + 6 * t + ns) (lawQ G b0) S2 497 [some (.inl (.ref b0)), some (vr 11 0), some (vr 12 0), some (vr 63 0), some (vi (nI (5 * t))), some (vi rc), some (vi bv)] [] := by
    refine a_goto (pc := 497) (tgt := 2620) 4 22 rfl (by decide) ?_
    refine a_widen (k' := 400 + (t + 1)) (n' := 6000 + 6 * (t + 1)) (by omega) (by omega) ?_
    refine a_drop (ls2 := [some (.inl (.ref b0)), some (vr 11 0), some (vr 12 0), some (vr 63 0), some (vi (nI (5 * t))), none, none]) ⟨rfl, rfl, rfl, rfl, rfl, trivial⟩ ?_
    exact kk S2 hI2
  refine a_if_ne (pc := 482) (tgt := 497) 4 12 rfl (by decide) (fun c8 => E9) (fun c8 => ?_)
  refine a_aload_n (pc := 485) 4 13 rfl rfl ?_
  refine a_iconst (pc := 486) 4 14 (v := 0) rfl (by decide) ?_
  refine a_lald (pc := 487) 4 15 rfl rfl ?_
  refine a_iload (pc := 488) 4 16 rfl rfl ?_
  refine a_i2l (pc := 490) 4 17 rfl ?_
  refine a_lcmp (pc := 491) 4 18 rfl ?_
  exact a_if_eq_t (pc := 492) (tgt := 497) 4 19 rfl (by decide) (lcmp_eq (hout c8)) E9
set_option maxRecDepth 100000 in
theorem case_close {O : Om} {G : Cx} {b0 L t : Nat} {xs : Nat → Int32} {S : Mem} {I : Nat → Mem → Prop} (st : Step_close I) (hs : LawOk O G b0 L xs) (hL : 5 * t + 5 ≤ L) (hL2 : L ≤ 2560) (hI : I t S) (kk : ∀ S2 : Mem, I (t + 1) S2 → BW O G fdL_law (400 + (t + 1)) (6000 + 6 * (t + 1)) (lawQ G b0) S2 2620 [some (.inl (.ref b0)), some (vr 11 0), some (vr 12 0), some (vr 63 0), some (vi (nI (5 * t))), none, none] []) : BW O G fdL_law (400 + t) (6000 + 6 * t) (lawQ G b0) S 500 [some (.inl (.ref b0)), some (vr 11 0), some (vr 12 0), some (vr 63 0), some (vi (nI (5 * t))), none, none] [] := by
  have ht : t < 512 := by omega
  refine a_aload_n (pc := 500) 4 23 rfl rfl ?_
  refine a_aloadR (pc := 501) 4 24 rfl rfl ?_
  refine a_iload (pc := 502) 4 25 rfl rfl ?_
  refine a_iconst (pc := 504) 4 26 (v := 1) rfl (by decide) ?_
  refine a_iadd (pc := 505) 4 27 rfl ?_
  refine a_sld (pc := 506) 4 28 (5 * t + 1) hs rfl (nI_1 _) (by omega) (by omega) ?_
  refine a_aload_n (pc := 507) 4 29 rfl rfl ?_
  obtain ⟨fr, lo, kc, ns, rc, S1, ⟨z1, z2, z3, z4⟩, hC, hok, hth, hout, hI2⟩ := st t S (xs (5 * t + 1)) ht hI
  refine a_callH (pc := 508) 4 30 hC rfl ch_L_144 rfl ⟨z1, z2, (by rw [cat_sum rfl]; decide), (by show _ ≤ 601024; omega), (by show _ ≤ 7293034; omega)⟩ (fun v9 S9 h9 => ?_)
  obtain ⟨rfl, rfl⟩ := h9
  refine a_istore (pc := 511) 4 31 (ls2 := [some (.inl (.ref b0)), some (vr 11 0), some (vr 12 0), some (vr 63 0), some (vi (nI (5 * t))), some (vi rc), none]) rfl (by decide) rfl ?_
  refine a_aload_n (pc := 513) 4 32 rfl rfl ?_
  refine a_aloadR (pc := 514) 4 33 rfl rfl ?_
  refine a_iload (pc := 515) 4 34 rfl rfl ?_
  refine a_iconst (pc := 517) 4 35 (v := 1) rfl (by decide) ?_
  refine a_iadd (pc := 518) 4 36 rfl ?_
  refine a_sld (pc := 519) 4 37 (5 * t + 1) hs rfl (nI_1 _) (by omega) (by omega) ?_
  refine a_callVi (pc := 520) 4 38 (c_X12_close (S := S9) (xs (5 * t + 1)) hok) rfl cv_L_147 (Nat.le_of_ble_eq_true rfl) rfl rfl rfl ⟨Nat.le_of_ble_eq_true rfl, Nat.le_of_ble_eq_true rfl, (by rw [cat_sum rfl]; exact Nat.le_of_ble_eq_true rfl), (by show _ ≤ 601024; omega), (by show _ ≤ 7293034; omega)⟩ ?_
  refine a_set (fun S2 eS2 => ?_)
  refine a_seti (fun bv ebv => ?_)
  rw [eS2] at hth hout hI2
  rw [ebv] at hout
  refine a_istore (pc := 523) 4 39 (ls2 := [some (.inl (.ref b0)), some (vr 11 0), some (vr 12 0), some (vr 63 0), some (vi (nI (5 * t))), some (vi rc), some (vi bv)]) rfl (by decide) rfl ?_
  refine a_aload_n (pc := 525) 4 40 rfl rfl ?_
  refine a_callVi (pc := 526) 4 41 (c_X12_thrown (S := S2)) rfl cv_L_130 (Nat.le_of_ble_eq_true rfl) rfl rfl rfl ⟨Nat.le_of_ble_eq_true rfl, Nat.le_of_ble_eq_true rfl, (by rw [cat_sum rfl]; exact Nat.le_of_ble_eq_true rfl), (by show _ ≤ 601024; omega), (by show _ ≤ 7293034; omega)⟩ ?_
  refine a_iload (pc := 529) 4 42 rfl rfl ?_
  refine a_icmp_eq_t (pc := 531) (tgt := 536) 4 43 rfl (by decide) hth ?_
  refine a_iload (pc := 536) 4 46 rfl rfl ?_
  have E9 : BW O G fdL_law (400 + t + kc) (6000 + 6 * t + ns) (lawQ G b0) S2 553 [some (.inl (.ref b0)), some (vr 11 0), some (vr 12 0), some (vr 63 0), some (vi (nI (5 * t))), some (vi rc), some (vi bv)] [] := by
    refine a_goto (pc := 553) (tgt := 2620) 5 9 rfl (by decide) ?_
    refine a_widen (k' := 400 + (t + 1)) (n' := 6000 + 6 * (t + 1)) (by omega) (by omega) ?_
    refine a_drop (ls2 := [some (.inl (.ref b0)), some (vr 11 0), some (vr 12 0), some (vr 63 0), some (vi (nI (5 * t))), none, none]) ⟨rfl, rfl, rfl, rfl, rfl, trivial⟩ ?_
    exact kk S2 hI2
  refine a_if_ne (pc := 538) (tgt := 553) 4 47 rfl (by decide) (fun c8 => E9) (fun c8 => ?_)
  refine a_aload_n (pc := 541) 5 0 rfl rfl ?_
  refine a_iconst (pc := 542) 5 1 (v := 0) rfl (by decide) ?_
  refine a_lald (pc := 543) 5 2 rfl rfl ?_
  refine a_iload (pc := 544) 5 3 rfl rfl ?_
  refine a_i2l (pc := 546) 5 4 rfl ?_
  refine a_lcmp (pc := 547) 5 5 rfl ?_
  exact a_if_eq_t (pc := 548) (tgt := 553) 5 6 rfl (by decide) (lcmp_eq (hout c8)) E9
set_option maxRecDepth 100000 in
theorem case_bring {O : Om} {G : Cx} {b0 L t : Nat} {xs : Nat → Int32} {S : Mem} {I : Nat → Mem → Prop} (st : Step_bring I) (hs : LawOk O G b0 L xs) (hL : 5 * t + 5 ≤ L) (hL2 : L ≤ 2560) (hI : I t S) (kk : ∀ S2 : Mem, I (t + 1) S2 → BW O G fdL_law (400 + (t + 1)) (6000 + 6 * (t + 1)) (lawQ G b0) S2 2620 [some (.inl (.ref b0)), some (vr 11 0), some (vr 12 0), some (vr 63 0), some (vi (nI (5 * t))), none, none] []) : BW O G fdL_law (400 + t) (6000 + 6 * t) (lawQ G b0) S 556 [some (.inl (.ref b0)), some (vr 11 0), some (vr 12 0), some (vr 63 0), some (vi (nI (5 * t))), none, none] [] := by
  have ht : t < 512 := by omega
  refine a_aload_n (pc := 556) 5 10 rfl rfl ?_
  refine a_aloadR (pc := 557) 5 11 rfl rfl ?_
  refine a_iload (pc := 558) 5 12 rfl rfl ?_
  refine a_iconst (pc := 560) 5 13 (v := 1) rfl (by decide) ?_
  refine a_iadd (pc := 561) 5 14 rfl ?_
  refine a_sld (pc := 562) 5 15 (5 * t + 1) hs rfl (nI_1 _) (by omega) (by omega) ?_
  refine a_aloadR (pc := 563) 5 16 rfl rfl ?_
  refine a_iload (pc := 564) 5 17 rfl rfl ?_
  refine a_iconst (pc := 566) 5 18 (v := nI 2) rfl (by decide) ?_
  refine a_iadd (pc := 567) 5 19 rfl ?_
  refine a_sld (pc := 568) 5 20 (5 * t + 2) hs rfl (nI_add _ _) (by omega) (by omega) ?_
  refine a_aload_n (pc := 569) 5 21 rfl rfl ?_
  obtain ⟨fr, lo, kc, ns, rc, S1, ⟨z1, z2, z3, z4⟩, hC, hok, hth, hout, hI2⟩ := st t S (xs (5 * t + 1)) (xs (5 * t + 2)) ht hI
  refine a_callH (pc := 570) 5 22 hC rfl ch_L_148 rfl ⟨z1, z2, (by rw [cat_sum rfl]; decide), (by show _ ≤ 601024; omega), (by show _ ≤ 7293034; omega)⟩ (fun v9 S9 h9 => ?_)
  obtain ⟨rfl, rfl⟩ := h9
  refine a_istore (pc := 573) 5 23 (ls2 := [some (.inl (.ref b0)), some (vr 11 0), some (vr 12 0), some (vr 63 0), some (vi (nI (5 * t))), some (vi rc), none]) rfl (by decide) rfl ?_
  refine a_aload_n (pc := 575) 5 24 rfl rfl ?_
  refine a_aloadR (pc := 576) 5 25 rfl rfl ?_
  refine a_iload (pc := 577) 5 26 rfl rfl ?_
  refine a_iconst (pc := 579) 5 27 (v := 1) rfl (by decide) ?_
  refine a_iadd (pc := 580) 5 28 rfl ?_
  refine a_sld (pc := 581) 5 29 (5 * t + 1) hs rfl (nI_1 _) (by omega) (by omega) ?_
  refine a_aloadR (pc := 582) 5 30 rfl rfl ?_
  refine a_iload (pc := 583) 5 31 rfl rfl ?_
  refine a_iconst (pc := 585) 5 32 (v := nI 2) rfl (by decide) ?_
  refine a_iadd (pc := 586) 5 33 rfl ?_
  refine a_sld (pc := 587) 5 34 (5 * t + 2) hs rfl (nI_add _ _) (by omega) (by omega) ?_
  refine a_callVi (pc := 588) 5 35 (c_X12_bring (S := S9) (xs (5 * t + 1)) (xs (5 * t + 2)) hok) rfl cv_L_150 (Nat.le_of_ble_eq_true rfl) rfl rfl rfl ⟨Nat.le_of_ble_eq_true rfl, Nat.le_of_ble_eq_true rfl, (by rw [cat_sum rfl]; exact Nat.le_of_ble_eq_true rfl), (by show _ ≤ 601024; omega), (by show _ ≤ 7293034; omega)⟩ ?_
  refine a_set (fun S2 eS2 => ?_)
  refine a_seti (fun bv ebv => ?_)
  rw [eS2] at hth hout hI2
  rw [ebv] at hout
  refine a_istore (pc := 591) 5 36 (ls2 := [some (.inl (.ref b0)), some (vr 11 0), some (vr 12 0), some (vr 63 0), some (vi (nI (5 * t))), some (vi rc), some (vi bv)]) rfl (by decide) rfl ?_
  refine a_aload_n (pc := 593) 5 37 rfl rfl ?_
  refine a_callVi (pc := 594) 5 38 (c_X12_thrown (S := S2)) rfl cv_L_130 (Nat.le_of_ble_eq_true rfl) rfl rfl rfl ⟨Nat.le_of_ble_eq_true rfl, Nat.le_of_ble_eq_true rfl, (by rw [cat_sum rfl]; exact Nat.le_of_ble_eq_true rfl), (by show _ ≤ 601024; omega), (by show _ ≤ 7293034; omega)⟩ ?_
  refine a_iload (pc := 597) 5 39 rfl rfl ?_
  refine a_icmp_eq_t (pc := 599) (tgt := 604) 5 40 rfl (by decide) hth ?_
  refine a_iload (pc := 604) 5 43 rfl rfl ?_
  have E9 : BW O G fdL_law (400 + t + kc) (6000 + 6 * t + ns) (lawQ G b0) S2 621 [some (.inl (.ref b0)), some (vr 11 0), some (vr 12 0), some (vr 63 0), some (vi (nI (5 * t))), some (vi rc), some (vi bv)] [] := by
    refine a_goto (pc := 621) (tgt := 2620) 6 6 rfl (by decide) ?_
    refine a_widen (k' := 400 + (t + 1)) (n' := 6000 + 6 * (t + 1)) (by omega) (by omega) ?_
    refine a_drop (ls2 := [some (.inl (.ref b0)), some (vr 11 0), some (vr 12 0), some (vr 63 0), some (vi (nI (5 * t))), none, none]) ⟨rfl, rfl, rfl, rfl, rfl, trivial⟩ ?_
    exact kk S2 hI2
  refine a_if_ne (pc := 606) (tgt := 621) 5 44 rfl (by decide) (fun c8 => E9) (fun c8 => ?_)
  refine a_aload_n (pc := 609) 5 45 rfl rfl ?_
  refine a_iconst (pc := 610) 5 46 (v := 0) rfl (by decide) ?_
  refine a_lald (pc := 611) 5 47 rfl rfl ?_
  refine a_iload (pc := 612) 6 0 rfl rfl ?_
  refine a_i2l (pc := 614) 6 1 rfl ?_
  refine a_lcmp (pc := 615) 6 2 rfl ?_
  exact a_if_eq_t (pc := 616) (tgt := 621) 6 3 rfl (by decide) (lcmp_eq (hout c8)) E9
set_option maxRecDepth 100000 in
theorem case_draw {O : Om} {G : Cx} {b0 L t : Nat} {xs : Nat → Int32} {S : Mem} {I : Nat → Mem → Prop} (st : Step_draw I) (hs : LawOk O G b0 L xs) (hL : 5 * t + 5 ≤ L) (hL2 : L ≤ 2560) (hI : I t S) (kk : ∀ S2 : Mem, I (t + 1) S2 → BW O G fdL_law (400 + (t + 1)) (6000 + 6 * (t + 1)) (lawQ G b0) S2 2620 [some (.inl (.ref b0)), some (vr 11 0), some (vr 12 0), some (vr 63 0), some (vi (nI (5 * t))), none, none] []) : BW O G fdL_law (400 + t) (6000 + 6 * t) (lawQ G b0) S 624 [some (.inl (.ref b0)), some (vr 11 0), some (vr 12 0), some (vr 63 0), some (vi (nI (5 * t))), none, none] [] := by
  have ht : t < 512 := by omega
  refine a_aload_n (pc := 624) 6 7 rfl rfl ?_
  refine a_aloadR (pc := 625) 6 8 rfl rfl ?_
  refine a_iload (pc := 626) 6 9 rfl rfl ?_
  refine a_iconst (pc := 628) 6 10 (v := 1) rfl (by decide) ?_
  refine a_iadd (pc := 629) 6 11 rfl ?_
  refine a_sld (pc := 630) 6 12 (5 * t + 1) hs rfl (nI_1 _) (by omega) (by omega) ?_
  refine a_aloadR (pc := 631) 6 13 rfl rfl ?_
  refine a_iload (pc := 632) 6 14 rfl rfl ?_
  refine a_iconst (pc := 634) 6 15 (v := nI 2) rfl (by decide) ?_
  refine a_iadd (pc := 635) 6 16 rfl ?_
  refine a_sld (pc := 636) 6 17 (5 * t + 2) hs rfl (nI_add _ _) (by omega) (by omega) ?_
  refine a_aload_n (pc := 637) 6 18 rfl rfl ?_
  obtain ⟨fr, lo, kc, ns, rc, S1, ⟨z1, z2, z3, z4⟩, hC, hok, hth, hout, hI2⟩ := st t S (xs (5 * t + 1)) (xs (5 * t + 2)) ht hI
  refine a_callH (pc := 638) 6 19 hC rfl ch_L_151 rfl ⟨z1, z2, (by rw [cat_sum rfl]; decide), (by show _ ≤ 601024; omega), (by show _ ≤ 7293034; omega)⟩ (fun v9 S9 h9 => ?_)
  obtain ⟨rfl, rfl⟩ := h9
  refine a_istore (pc := 641) 6 20 (ls2 := [some (.inl (.ref b0)), some (vr 11 0), some (vr 12 0), some (vr 63 0), some (vi (nI (5 * t))), some (vi rc), none]) rfl (by decide) rfl ?_
  refine a_aload_n (pc := 643) 6 21 rfl rfl ?_
  refine a_aloadR (pc := 644) 6 22 rfl rfl ?_
  refine a_iload (pc := 645) 6 23 rfl rfl ?_
  refine a_iconst (pc := 647) 6 24 (v := 1) rfl (by decide) ?_
  refine a_iadd (pc := 648) 6 25 rfl ?_
  refine a_sld (pc := 649) 6 26 (5 * t + 1) hs rfl (nI_1 _) (by omega) (by omega) ?_
  refine a_aloadR (pc := 650) 6 27 rfl rfl ?_
  refine a_iload (pc := 651) 6 28 rfl rfl ?_
  refine a_iconst (pc := 653) 6 29 (v := nI 2) rfl (by decide) ?_
  refine a_iadd (pc := 654) 6 30 rfl ?_
  refine a_sld (pc := 655) 6 31 (5 * t + 2) hs rfl (nI_add _ _) (by omega) (by omega) ?_
  refine a_callVi (pc := 656) 6 32 (c_X12_draw (S := S9) (xs (5 * t + 1)) (xs (5 * t + 2)) hok) rfl cv_L_153 (Nat.le_of_ble_eq_true rfl) rfl rfl rfl ⟨Nat.le_of_ble_eq_true rfl, Nat.le_of_ble_eq_true rfl, (by rw [cat_sum rfl]; exact Nat.le_of_ble_eq_true rfl), (by show _ ≤ 601024; omega), (by show _ ≤ 7293034; omega)⟩ ?_
  refine a_set (fun S2 eS2 => ?_)
  refine a_seti (fun bv ebv => ?_)
  rw [eS2] at hth hout hI2
  rw [ebv] at hout
  refine a_istore (pc := 659) 6 33 (ls2 := [some (.inl (.ref b0)), some (vr 11 0), some (vr 12 0), some (vr 63 0), some (vi (nI (5 * t))), some (vi rc), some (vi bv)]) rfl (by decide) rfl ?_
  refine a_aload_n (pc := 661) 6 34 rfl rfl ?_
  refine a_callVi (pc := 662) 6 35 (c_X12_thrown (S := S2)) rfl cv_L_130 (Nat.le_of_ble_eq_true rfl) rfl rfl rfl ⟨Nat.le_of_ble_eq_true rfl, Nat.le_of_ble_eq_true rfl, (by rw [cat_sum rfl]; exact Nat.le_of_ble_eq_true rfl), (by show _ ≤ 601024; omega), (by show _ ≤ 7293034; omega)⟩ ?_
  refine a_iload (pc := 665) 6 36 rfl rfl ?_
  refine a_icmp_eq_t (pc := 667) (tgt := 672) 6 37 rfl (by decide) hth ?_
  refine a_iload (pc := 672) 6 40 rfl rfl ?_
  have E9 : BW O G fdL_law (400 + t + kc) (6000 + 6 * t + ns) (lawQ G b0) S2 689 [some (.inl (.ref b0)), some (vr 11 0), some (vr 12 0), some (vr 63 0), some (vi (nI (5 * t))), some (vi rc), some (vi bv)] [] := by
    refine a_goto (pc := 689) (tgt := 2620) 7 3 rfl (by decide) ?_
    refine a_widen (k' := 400 + (t + 1)) (n' := 6000 + 6 * (t + 1)) (by omega) (by omega) ?_
    refine a_drop (ls2 := [some (.inl (.ref b0)), some (vr 11 0), some (vr 12 0), some (vr 63 0), some (vi (nI (5 * t))), none, none]) ⟨rfl, rfl, rfl, rfl, rfl, trivial⟩ ?_
    exact kk S2 hI2
  refine a_if_ne (pc := 674) (tgt := 689) 6 41 rfl (by decide) (fun c8 => E9) (fun c8 => ?_)
  refine a_aload_n (pc := 677) 6 42 rfl rfl ?_
  refine a_iconst (pc := 678) 6 43 (v := 0) rfl (by decide) ?_
  refine a_lald (pc := 679) 6 44 rfl rfl ?_
  refine a_iload (pc := 680) 6 45 rfl rfl ?_
  refine a_i2l (pc := 682) 6 46 rfl ?_
  refine a_lcmp (pc := 683) 6 47 rfl ?_
  exact a_if_eq_t (pc := 684) (tgt := 689) 7 0 rfl (by decide) (lcmp_eq (hout c8)) E9
set_option maxRecDepth 100000 in
theorem case_pay {O : Om} {G : Cx} {b0 L t : Nat} {xs : Nat → Int32} {S : Mem} {I : Nat → Mem → Prop} (st : Step_pay I) (hs : LawOk O G b0 L xs) (hL : 5 * t + 5 ≤ L) (hL2 : L ≤ 2560) (hI : I t S) (kk : ∀ S2 : Mem, I (t + 1) S2 → BW O G fdL_law (400 + (t + 1)) (6000 + 6 * (t + 1)) (lawQ G b0) S2 2620 [some (.inl (.ref b0)), some (vr 11 0), some (vr 12 0), some (vr 63 0), some (vi (nI (5 * t))), none, none] []) : BW O G fdL_law (400 + t) (6000 + 6 * t) (lawQ G b0) S 692 [some (.inl (.ref b0)), some (vr 11 0), some (vr 12 0), some (vr 63 0), some (vi (nI (5 * t))), none, none] [] := by
  have ht : t < 512 := by omega
  refine a_aload_n (pc := 692) 7 4 rfl rfl ?_
  refine a_aloadR (pc := 693) 7 5 rfl rfl ?_
  refine a_iload (pc := 694) 7 6 rfl rfl ?_
  refine a_iconst (pc := 696) 7 7 (v := 1) rfl (by decide) ?_
  refine a_iadd (pc := 697) 7 8 rfl ?_
  refine a_sld (pc := 698) 7 9 (5 * t + 1) hs rfl (nI_1 _) (by omega) (by omega) ?_
  refine a_aloadR (pc := 699) 7 10 rfl rfl ?_
  refine a_iload (pc := 700) 7 11 rfl rfl ?_
  refine a_iconst (pc := 702) 7 12 (v := nI 2) rfl (by decide) ?_
  refine a_iadd (pc := 703) 7 13 rfl ?_
  refine a_sld (pc := 704) 7 14 (5 * t + 2) hs rfl (nI_add _ _) (by omega) (by omega) ?_
  refine a_aloadR (pc := 705) 7 15 rfl rfl ?_
  refine a_iload (pc := 706) 7 16 rfl rfl ?_
  refine a_iconst (pc := 708) 7 17 (v := nI 3) rfl (by decide) ?_
  refine a_iadd (pc := 709) 7 18 rfl ?_
  refine a_sld (pc := 710) 7 19 (5 * t + 3) hs rfl (nI_add _ _) (by omega) (by omega) ?_
  refine a_aload_n (pc := 711) 7 20 rfl rfl ?_
  obtain ⟨fr, lo, kc, ns, rc, S1, ⟨z1, z2, z3, z4⟩, hC, hok, hth, hout, hI2⟩ := st t S (xs (5 * t + 1)) (xs (5 * t + 2)) (xs (5 * t + 3)) ht hI
  refine a_callH (pc := 712) 7 21 hC rfl ch_L_154 rfl ⟨z1, z2, (by rw [cat_sum rfl]; decide), (by show _ ≤ 601024; omega), (by show _ ≤ 7293034; omega)⟩ (fun v9 S9 h9 => ?_)
  obtain ⟨rfl, rfl⟩ := h9
  refine a_istore (pc := 715) 7 22 (ls2 := [some (.inl (.ref b0)), some (vr 11 0), some (vr 12 0), some (vr 63 0), some (vi (nI (5 * t))), some (vi rc), none]) rfl (by decide) rfl ?_
  refine a_aload_n (pc := 717) 7 23 rfl rfl ?_
  refine a_aloadR (pc := 718) 7 24 rfl rfl ?_
  refine a_iload (pc := 719) 7 25 rfl rfl ?_
  refine a_iconst (pc := 721) 7 26 (v := 1) rfl (by decide) ?_
  refine a_iadd (pc := 722) 7 27 rfl ?_
  refine a_sld (pc := 723) 7 28 (5 * t + 1) hs rfl (nI_1 _) (by omega) (by omega) ?_
  refine a_aloadR (pc := 724) 7 29 rfl rfl ?_
  refine a_iload (pc := 725) 7 30 rfl rfl ?_
  refine a_iconst (pc := 727) 7 31 (v := nI 2) rfl (by decide) ?_
  refine a_iadd (pc := 728) 7 32 rfl ?_
  refine a_sld (pc := 729) 7 33 (5 * t + 2) hs rfl (nI_add _ _) (by omega) (by omega) ?_
  refine a_aloadR (pc := 730) 7 34 rfl rfl ?_
  refine a_iload (pc := 731) 7 35 rfl rfl ?_
  refine a_iconst (pc := 733) 7 36 (v := nI 3) rfl (by decide) ?_
  refine a_iadd (pc := 734) 7 37 rfl ?_
  refine a_sld (pc := 735) 7 38 (5 * t + 3) hs rfl (nI_add _ _) (by omega) (by omega) ?_
  refine a_callVi (pc := 736) 7 39 (c_X12_pay (S := S9) (xs (5 * t + 1)) (xs (5 * t + 2)) (xs (5 * t + 3)) hok) rfl cv_L_156 (Nat.le_of_ble_eq_true rfl) rfl rfl rfl ⟨Nat.le_of_ble_eq_true rfl, Nat.le_of_ble_eq_true rfl, (by rw [cat_sum rfl]; exact Nat.le_of_ble_eq_true rfl), (by show _ ≤ 601024; omega), (by show _ ≤ 7293034; omega)⟩ ?_
  refine a_set (fun S2 eS2 => ?_)
  refine a_seti (fun bv ebv => ?_)
  rw [eS2] at hth hout hI2
  rw [ebv] at hout
  refine a_istore (pc := 739) 7 40 (ls2 := [some (.inl (.ref b0)), some (vr 11 0), some (vr 12 0), some (vr 63 0), some (vi (nI (5 * t))), some (vi rc), some (vi bv)]) rfl (by decide) rfl ?_
  refine a_aload_n (pc := 741) 7 41 rfl rfl ?_
  refine a_callVi (pc := 742) 7 42 (c_X12_thrown (S := S2)) rfl cv_L_130 (Nat.le_of_ble_eq_true rfl) rfl rfl rfl ⟨Nat.le_of_ble_eq_true rfl, Nat.le_of_ble_eq_true rfl, (by rw [cat_sum rfl]; exact Nat.le_of_ble_eq_true rfl), (by show _ ≤ 601024; omega), (by show _ ≤ 7293034; omega)⟩ ?_
  refine a_iload (pc := 745) 7 43 rfl rfl ?_
  refine a_icmp_eq_t (pc := 747) (tgt := 752) 7 44 rfl (by decide) hth ?_
  refine a_iload (pc := 752) 7 47 rfl rfl ?_
  have E9 : BW O G fdL_law (400 + t + kc) (6000 + 6 * t + ns) (lawQ G b0) S2 769 [some (.inl (.ref b0)), some (vr 11 0), some (vr 12 0), some (vr 63 0), some (vi (nI (5 * t))), some (vi rc), some (vi bv)] [] := by
    refine a_goto (pc := 769) (tgt := 2620) 8 10 rfl (by decide) ?_
    refine a_widen (k' := 400 + (t + 1)) (n' := 6000 + 6 * (t + 1)) (by omega) (by omega) ?_
    refine a_drop (ls2 := [some (.inl (.ref b0)), some (vr 11 0), some (vr 12 0), some (vr 63 0), some (vi (nI (5 * t))), none, none]) ⟨rfl, rfl, rfl, rfl, rfl, trivial⟩ ?_
    exact kk S2 hI2
  refine a_if_ne (pc := 754) (tgt := 769) 8 0 rfl (by decide) (fun c8 => E9) (fun c8 => ?_)
  refine a_aload_n (pc := 757) 8 1 rfl rfl ?_
  refine a_iconst (pc := 758) 8 2 (v := 0) rfl (by decide) ?_
  refine a_lald (pc := 759) 8 3 rfl rfl ?_
  refine a_iload (pc := 760) 8 4 rfl rfl ?_
  refine a_i2l (pc := 762) 8 5 rfl ?_
  refine a_lcmp (pc := 763) 8 6 rfl ?_
  exact a_if_eq_t (pc := 764) (tgt := 769) 8 7 rfl (by decide) (lcmp_eq (hout c8)) E9
set_option maxRecDepth 100000 in
theorem case_clear {O : Om} {G : Cx} {b0 L t : Nat} {xs : Nat → Int32} {S : Mem} {I : Nat → Mem → Prop} (st : Step_clear I) (hs : LawOk O G b0 L xs) (hL : 5 * t + 5 ≤ L) (hL2 : L ≤ 2560) (hI : I t S) (kk : ∀ S2 : Mem, I (t + 1) S2 → BW O G fdL_law (400 + (t + 1)) (6000 + 6 * (t + 1)) (lawQ G b0) S2 2620 [some (.inl (.ref b0)), some (vr 11 0), some (vr 12 0), some (vr 63 0), some (vi (nI (5 * t))), none, none] []) : BW O G fdL_law (400 + t) (6000 + 6 * t) (lawQ G b0) S 772 [some (.inl (.ref b0)), some (vr 11 0), some (vr 12 0), some (vr 63 0), some (vi (nI (5 * t))), none, none] [] := by
  have ht : t < 512 := by omega
  obtain ⟨hok1, hok2, heq, hI2⟩ := st t S ht hI
  refine a_aload_n (pc := 772) 8 11 rfl rfl ?_
  refine a_callVi (pc := 773) 8 12 (c_X11_clear (S := S) hok1) rfl cv_L_157 (Nat.le_of_ble_eq_true rfl) rfl rfl rfl ⟨Nat.le_of_ble_eq_true rfl, Nat.le_of_ble_eq_true rfl, (by rw [cat_sum rfl]; exact Nat.le_of_ble_eq_true rfl), (by show _ ≤ 601024; omega), (by show _ ≤ 7293034; omega)⟩ ?_
  refine a_aload_n (pc := 776) 8 13 rfl rfl ?_
  refine a_callVi (pc := 777) 8 14 (c_X12_clear (S := (f_X11_clear S).2) hok2) rfl cv_L_160 (Nat.le_of_ble_eq_true rfl) rfl rfl rfl ⟨Nat.le_of_ble_eq_true rfl, Nat.le_of_ble_eq_true rfl, (by rw [cat_sum rfl]; exact Nat.le_of_ble_eq_true rfl), (by show _ ≤ 601024; omega), (by show _ ≤ 7293034; omega)⟩ ?_
  refine a_icmp_eq_t (pc := 780) (tgt := 2620) 8 15 rfl (by decide) heq ?_
  refine a_widen (k' := 400 + (t + 1)) (n' := 6000 + 6 * (t + 1)) (by omega) (by omega) ?_
  exact kk _ hI2
set_option maxRecDepth 100000 in
theorem case_limit {O : Om} {G : Cx} {b0 L t : Nat} {xs : Nat → Int32} {S : Mem} {I : Nat → Mem → Prop} (st : Step_limit I) (hs : LawOk O G b0 L xs) (hL : 5 * t + 5 ≤ L) (hL2 : L ≤ 2560) (hI : I t S) (kk : ∀ S2 : Mem, I (t + 1) S2 → BW O G fdL_law (400 + (t + 1)) (6000 + 6 * (t + 1)) (lawQ G b0) S2 2620 [some (.inl (.ref b0)), some (vr 11 0), some (vr 12 0), some (vr 63 0), some (vi (nI (5 * t))), none, none] []) : BW O G fdL_law (400 + t) (6000 + 6 * t) (lawQ G b0) S 785 [some (.inl (.ref b0)), some (vr 11 0), some (vr 12 0), some (vr 63 0), some (vi (nI (5 * t))), none, none] [] := by
  have ht : t < 512 := by omega
  refine a_aload_n (pc := 785) 8 18 rfl rfl ?_
  refine a_aloadR (pc := 786) 8 19 rfl rfl ?_
  refine a_iload (pc := 787) 8 20 rfl rfl ?_
  refine a_iconst (pc := 789) 8 21 (v := 1) rfl (by decide) ?_
  refine a_iadd (pc := 790) 8 22 rfl ?_
  refine a_sld (pc := 791) 8 23 (5 * t + 1) hs rfl (nI_1 _) (by omega) (by omega) ?_
  refine a_aloadR (pc := 792) 8 24 rfl rfl ?_
  refine a_iload (pc := 793) 8 25 rfl rfl ?_
  refine a_iconst (pc := 795) 8 26 (v := nI 2) rfl (by decide) ?_
  refine a_iadd (pc := 796) 8 27 rfl ?_
  refine a_sld (pc := 797) 8 28 (5 * t + 2) hs rfl (nI_add _ _) (by omega) (by omega) ?_
  refine a_aload_n (pc := 798) 8 29 rfl rfl ?_
  obtain ⟨fr, lo, kc, ns, rc, S1, ⟨z1, z2, z3, z4⟩, hC, hok, hth, hout, hI2⟩ := st t S (xs (5 * t + 1)) (xs (5 * t + 2)) ht hI
  refine a_callH (pc := 799) 8 30 hC rfl ch_L_161 rfl ⟨z1, z2, (by rw [cat_sum rfl]; decide), (by show _ ≤ 601024; omega), (by show _ ≤ 7293034; omega)⟩ (fun v9 S9 h9 => ?_)
  obtain ⟨rfl, rfl⟩ := h9
  refine a_istore (pc := 802) 8 31 (ls2 := [some (.inl (.ref b0)), some (vr 11 0), some (vr 12 0), some (vr 63 0), some (vi (nI (5 * t))), some (vi rc), none]) rfl (by decide) rfl ?_
  refine a_aload_n (pc := 804) 8 32 rfl rfl ?_
  refine a_aloadR (pc := 805) 8 33 rfl rfl ?_
  refine a_iload (pc := 806) 8 34 rfl rfl ?_
  refine a_iconst (pc := 808) 8 35 (v := 1) rfl (by decide) ?_
  refine a_iadd (pc := 809) 8 36 rfl ?_
  refine a_sld (pc := 810) 8 37 (5 * t + 1) hs rfl (nI_1 _) (by omega) (by omega) ?_
  refine a_aloadR (pc := 811) 8 38 rfl rfl ?_
  refine a_iload (pc := 812) 8 39 rfl rfl ?_
  refine a_iconst (pc := 814) 8 40 (v := nI 2) rfl (by decide) ?_
  refine a_iadd (pc := 815) 8 41 rfl ?_
  refine a_sld (pc := 816) 8 42 (5 * t + 2) hs rfl (nI_add _ _) (by omega) (by omega) ?_
  refine a_callVi (pc := 817) 8 43 (c_X12_limit (S := S9) (xs (5 * t + 1)) (xs (5 * t + 2)) hok) rfl cv_L_163 (Nat.le_of_ble_eq_true rfl) rfl rfl rfl ⟨Nat.le_of_ble_eq_true rfl, Nat.le_of_ble_eq_true rfl, (by rw [cat_sum rfl]; exact Nat.le_of_ble_eq_true rfl), (by show _ ≤ 601024; omega), (by show _ ≤ 7293034; omega)⟩ ?_
  refine a_set (fun S2 eS2 => ?_)
  refine a_seti (fun bv ebv => ?_)
  rw [eS2] at hth hout hI2
  rw [ebv] at hout
  refine a_istore (pc := 820) 8 44 (ls2 := [some (.inl (.ref b0)), some (vr 11 0), some (vr 12 0), some (vr 63 0), some (vi (nI (5 * t))), some (vi rc), some (vi bv)]) rfl (by decide) rfl ?_
  refine a_aload_n (pc := 822) 8 45 rfl rfl ?_
  refine a_callVi (pc := 823) 8 46 (c_X12_thrown (S := S2)) rfl cv_L_130 (Nat.le_of_ble_eq_true rfl) rfl rfl rfl ⟨Nat.le_of_ble_eq_true rfl, Nat.le_of_ble_eq_true rfl, (by rw [cat_sum rfl]; exact Nat.le_of_ble_eq_true rfl), (by show _ ≤ 601024; omega), (by show _ ≤ 7293034; omega)⟩ ?_
  refine a_iload (pc := 826) 8 47 rfl rfl ?_
  refine a_icmp_eq_t (pc := 828) (tgt := 833) 9 0 rfl (by decide) hth ?_
  refine a_iload (pc := 833) 9 3 rfl rfl ?_
  have E9 : BW O G fdL_law (400 + t + kc) (6000 + 6 * t + ns) (lawQ G b0) S2 850 [some (.inl (.ref b0)), some (vr 11 0), some (vr 12 0), some (vr 63 0), some (vi (nI (5 * t))), some (vi rc), some (vi bv)] [] := by
    refine a_goto (pc := 850) (tgt := 2620) 9 14 rfl (by decide) ?_
    refine a_widen (k' := 400 + (t + 1)) (n' := 6000 + 6 * (t + 1)) (by omega) (by omega) ?_
    refine a_drop (ls2 := [some (.inl (.ref b0)), some (vr 11 0), some (vr 12 0), some (vr 63 0), some (vi (nI (5 * t))), none, none]) ⟨rfl, rfl, rfl, rfl, rfl, trivial⟩ ?_
    exact kk S2 hI2
  refine a_if_ne (pc := 835) (tgt := 850) 9 4 rfl (by decide) (fun c8 => E9) (fun c8 => ?_)
  refine a_aload_n (pc := 838) 9 5 rfl rfl ?_
  refine a_iconst (pc := 839) 9 6 (v := 0) rfl (by decide) ?_
  refine a_lald (pc := 840) 9 7 rfl rfl ?_
  refine a_iload (pc := 841) 9 8 rfl rfl ?_
  refine a_i2l (pc := 843) 9 9 rfl ?_
  refine a_lcmp (pc := 844) 9 10 rfl ?_
  exact a_if_eq_t (pc := 845) (tgt := 850) 9 11 rfl (by decide) (lcmp_eq (hout c8)) E9
set_option maxRecDepth 100000 in
theorem case_endow {O : Om} {G : Cx} {b0 L t : Nat} {xs : Nat → Int32} {S : Mem} {I : Nat → Mem → Prop} (st : Step_endow I) (hs : LawOk O G b0 L xs) (hL : 5 * t + 5 ≤ L) (hL2 : L ≤ 2560) (hI : I t S) (kk : ∀ S2 : Mem, I (t + 1) S2 → BW O G fdL_law (400 + (t + 1)) (6000 + 6 * (t + 1)) (lawQ G b0) S2 2620 [some (.inl (.ref b0)), some (vr 11 0), some (vr 12 0), some (vr 63 0), some (vi (nI (5 * t))), none, none] []) : BW O G fdL_law (400 + t) (6000 + 6 * t) (lawQ G b0) S 853 [some (.inl (.ref b0)), some (vr 11 0), some (vr 12 0), some (vr 63 0), some (vi (nI (5 * t))), none, none] [] := by
  have ht : t < 512 := by omega
  refine a_aload_n (pc := 853) 9 15 rfl rfl ?_
  refine a_aloadR (pc := 854) 9 16 rfl rfl ?_
  refine a_iload (pc := 855) 9 17 rfl rfl ?_
  refine a_iconst (pc := 857) 9 18 (v := 1) rfl (by decide) ?_
  refine a_iadd (pc := 858) 9 19 rfl ?_
  refine a_sld (pc := 859) 9 20 (5 * t + 1) hs rfl (nI_1 _) (by omega) (by omega) ?_
  refine a_aloadR (pc := 860) 9 21 rfl rfl ?_
  refine a_iload (pc := 861) 9 22 rfl rfl ?_
  refine a_iconst (pc := 863) 9 23 (v := nI 2) rfl (by decide) ?_
  refine a_iadd (pc := 864) 9 24 rfl ?_
  refine a_sld (pc := 865) 9 25 (5 * t + 2) hs rfl (nI_add _ _) (by omega) (by omega) ?_
  refine a_aload_n (pc := 866) 9 26 rfl rfl ?_
  obtain ⟨fr, lo, kc, ns, rc, S1, ⟨z1, z2, z3, z4⟩, hC, hok, hth, hout, hI2⟩ := st t S (xs (5 * t + 1)) (xs (5 * t + 2)) ht hI
  refine a_callH (pc := 867) 9 27 hC rfl ch_L_164 rfl ⟨z1, z2, (by rw [cat_sum rfl]; decide), (by show _ ≤ 601024; omega), (by show _ ≤ 7293034; omega)⟩ (fun v9 S9 h9 => ?_)
  obtain ⟨rfl, rfl⟩ := h9
  refine a_istore (pc := 870) 9 28 (ls2 := [some (.inl (.ref b0)), some (vr 11 0), some (vr 12 0), some (vr 63 0), some (vi (nI (5 * t))), some (vi rc), none]) rfl (by decide) rfl ?_
  refine a_aload_n (pc := 872) 9 29 rfl rfl ?_
  refine a_aloadR (pc := 873) 9 30 rfl rfl ?_
  refine a_iload (pc := 874) 9 31 rfl rfl ?_
  refine a_iconst (pc := 876) 9 32 (v := 1) rfl (by decide) ?_
  refine a_iadd (pc := 877) 9 33 rfl ?_
  refine a_sld (pc := 878) 9 34 (5 * t + 1) hs rfl (nI_1 _) (by omega) (by omega) ?_
  refine a_aloadR (pc := 879) 9 35 rfl rfl ?_
  refine a_iload (pc := 880) 9 36 rfl rfl ?_
  refine a_iconst (pc := 882) 9 37 (v := nI 2) rfl (by decide) ?_
  refine a_iadd (pc := 883) 9 38 rfl ?_
  refine a_sld (pc := 884) 9 39 (5 * t + 2) hs rfl (nI_add _ _) (by omega) (by omega) ?_
  refine a_callVi (pc := 885) 9 40 (c_X12_endow (S := S9) (xs (5 * t + 1)) (xs (5 * t + 2)) hok) rfl cv_L_166 (Nat.le_of_ble_eq_true rfl) rfl rfl rfl ⟨Nat.le_of_ble_eq_true rfl, Nat.le_of_ble_eq_true rfl, (by rw [cat_sum rfl]; exact Nat.le_of_ble_eq_true rfl), (by show _ ≤ 601024; omega), (by show _ ≤ 7293034; omega)⟩ ?_
  refine a_set (fun S2 eS2 => ?_)
  refine a_seti (fun bv ebv => ?_)
  rw [eS2] at hth hout hI2
  rw [ebv] at hout
  refine a_istore (pc := 888) 9 41 (ls2 := [some (.inl (.ref b0)), some (vr 11 0), some (vr 12 0), some (vr 63 0), some (vi (nI (5 * t))), some (vi rc), some (vi bv)]) rfl (by decide) rfl ?_
  refine a_aload_n (pc := 890) 9 42 rfl rfl ?_
  refine a_callVi (pc := 891) 9 43 (c_X12_thrown (S := S2)) rfl cv_L_130 (Nat.le_of_ble_eq_true rfl) rfl rfl rfl ⟨Nat.le_of_ble_eq_true rfl, Nat.le_of_ble_eq_true rfl, (by rw [cat_sum rfl]; exact Nat.le_of_ble_eq_true rfl), (by show _ ≤ 601024; omega), (by show _ ≤ 7293034; omega)⟩ ?_
  refine a_iload (pc := 894) 9 44 rfl rfl ?_
  refine a_icmp_eq_t (pc := 896) (tgt := 901) 9 45 rfl (by decide) hth ?_
  refine a_iload (pc := 901) 10 0 rfl rfl ?_
  have E9 : BW O G fdL_law (400 + t + kc) (6000 + 6 * t + ns) (lawQ G b0) S2 918 [some (.inl (.ref b0)), some (vr 11 0), some (vr 12 0), some (vr 63 0), some (vi (nI (5 * t))), some (vi rc), some (vi bv)] [] := by
    refine a_goto (pc := 918) (tgt := 2620) 10 11 rfl (by decide) ?_
    refine a_widen (k' := 400 + (t + 1)) (n' := 6000 + 6 * (t + 1)) (by omega) (by omega) ?_
    refine a_drop (ls2 := [some (.inl (.ref b0)), some (vr 11 0), some (vr 12 0), some (vr 63 0), some (vi (nI (5 * t))), none, none]) ⟨rfl, rfl, rfl, rfl, rfl, trivial⟩ ?_
    exact kk S2 hI2
  refine a_if_ne (pc := 903) (tgt := 918) 10 1 rfl (by decide) (fun c8 => E9) (fun c8 => ?_)
  refine a_aload_n (pc := 906) 10 2 rfl rfl ?_
  refine a_iconst (pc := 907) 10 3 (v := 0) rfl (by decide) ?_
  refine a_lald (pc := 908) 10 4 rfl rfl ?_
  refine a_iload (pc := 909) 10 5 rfl rfl ?_
  refine a_i2l (pc := 911) 10 6 rfl ?_
  refine a_lcmp (pc := 912) 10 7 rfl ?_
  exact a_if_eq_t (pc := 913) (tgt := 918) 10 8 rfl (by decide) (lcmp_eq (hout c8)) E9
set_option maxRecDepth 100000 in
theorem case_lend {O : Om} {G : Cx} {b0 L t : Nat} {xs : Nat → Int32} {S : Mem} {I : Nat → Mem → Prop} (st : Step_lend I) (hs : LawOk O G b0 L xs) (hL : 5 * t + 5 ≤ L) (hL2 : L ≤ 2560) (hI : I t S) (kk : ∀ S2 : Mem, I (t + 1) S2 → BW O G fdL_law (400 + (t + 1)) (6000 + 6 * (t + 1)) (lawQ G b0) S2 2620 [some (.inl (.ref b0)), some (vr 11 0), some (vr 12 0), some (vr 63 0), some (vi (nI (5 * t))), none, none] []) : BW O G fdL_law (400 + t) (6000 + 6 * t) (lawQ G b0) S 921 [some (.inl (.ref b0)), some (vr 11 0), some (vr 12 0), some (vr 63 0), some (vi (nI (5 * t))), none, none] [] := by
  have ht : t < 512 := by omega
  refine a_aload_n (pc := 921) 10 12 rfl rfl ?_
  refine a_aloadR (pc := 922) 10 13 rfl rfl ?_
  refine a_iload (pc := 923) 10 14 rfl rfl ?_
  refine a_iconst (pc := 925) 10 15 (v := 1) rfl (by decide) ?_
  refine a_iadd (pc := 926) 10 16 rfl ?_
  refine a_sld (pc := 927) 10 17 (5 * t + 1) hs rfl (nI_1 _) (by omega) (by omega) ?_
  refine a_aloadR (pc := 928) 10 18 rfl rfl ?_
  refine a_iload (pc := 929) 10 19 rfl rfl ?_
  refine a_iconst (pc := 931) 10 20 (v := nI 2) rfl (by decide) ?_
  refine a_iadd (pc := 932) 10 21 rfl ?_
  refine a_sld (pc := 933) 10 22 (5 * t + 2) hs rfl (nI_add _ _) (by omega) (by omega) ?_
  refine a_aloadR (pc := 934) 10 23 rfl rfl ?_
  refine a_iload (pc := 935) 10 24 rfl rfl ?_
  refine a_iconst (pc := 937) 10 25 (v := nI 3) rfl (by decide) ?_
  refine a_iadd (pc := 938) 10 26 rfl ?_
  refine a_sld (pc := 939) 10 27 (5 * t + 3) hs rfl (nI_add _ _) (by omega) (by omega) ?_
  refine a_aloadR (pc := 940) 10 28 rfl rfl ?_
  refine a_iload (pc := 941) 10 29 rfl rfl ?_
  refine a_iconst (pc := 943) 10 30 (v := nI 4) rfl (by decide) ?_
  refine a_iadd (pc := 944) 10 31 rfl ?_
  refine a_sld (pc := 945) 10 32 (5 * t + 4) hs rfl (nI_add _ _) (by omega) (by omega) ?_
  refine a_aload_n (pc := 946) 10 33 rfl rfl ?_
  obtain ⟨fr, lo, kc, ns, rc, S1, ⟨z1, z2, z3, z4⟩, hC, hok, hth, hout, hI2⟩ := st t S (xs (5 * t + 1)) (xs (5 * t + 2)) (xs (5 * t + 3)) (xs (5 * t + 4)) ht hI
  refine a_callH (pc := 947) 10 34 hC rfl ch_L_167 rfl ⟨z1, z2, (by rw [cat_sum rfl]; decide), (by show _ ≤ 601024; omega), (by show _ ≤ 7293034; omega)⟩ (fun v9 S9 h9 => ?_)
  obtain ⟨rfl, rfl⟩ := h9
  refine a_istore (pc := 950) 10 35 (ls2 := [some (.inl (.ref b0)), some (vr 11 0), some (vr 12 0), some (vr 63 0), some (vi (nI (5 * t))), some (vi rc), none]) rfl (by decide) rfl ?_
  refine a_aload_n (pc := 952) 10 36 rfl rfl ?_
  refine a_aloadR (pc := 953) 10 37 rfl rfl ?_
  refine a_iload (pc := 954) 10 38 rfl rfl ?_
  refine a_iconst (pc := 956) 10 39 (v := 1) rfl (by decide) ?_
  refine a_iadd (pc := 957) 10 40 rfl ?_
  refine a_sld (pc := 958) 10 41 (5 * t + 1) hs rfl (nI_1 _) (by omega) (by omega) ?_
  refine a_aloadR (pc := 959) 10 42 rfl rfl ?_
  refine a_iload (pc := 960) 10 43 rfl rfl ?_
  refine a_iconst (pc := 962) 10 44 (v := nI 2) rfl (by decide) ?_
  refine a_iadd (pc := 963) 10 45 rfl ?_
  refine a_sld (pc := 964) 10 46 (5 * t + 2) hs rfl (nI_add _ _) (by omega) (by omega) ?_
  refine a_aloadR (pc := 965) 10 47 rfl rfl ?_
  refine a_iload (pc := 966) 11 0 rfl rfl ?_
  refine a_iconst (pc := 968) 11 1 (v := nI 3) rfl (by decide) ?_
  refine a_iadd (pc := 969) 11 2 rfl ?_
  refine a_sld (pc := 970) 11 3 (5 * t + 3) hs rfl (nI_add _ _) (by omega) (by omega) ?_
  refine a_aloadR (pc := 971) 11 4 rfl rfl ?_
  refine a_iload (pc := 972) 11 5 rfl rfl ?_
  refine a_iconst (pc := 974) 11 6 (v := nI 4) rfl (by decide) ?_
  refine a_iadd (pc := 975) 11 7 rfl ?_
  refine a_sld (pc := 976) 11 8 (5 * t + 4) hs rfl (nI_add _ _) (by omega) (by omega) ?_
  refine a_callVi (pc := 977) 11 9 (c_X12_lend (S := S9) (xs (5 * t + 1)) (xs (5 * t + 2)) (xs (5 * t + 3)) (xs (5 * t + 4)) hok) rfl cv_L_170 (Nat.le_of_ble_eq_true rfl) rfl rfl rfl ⟨Nat.le_of_ble_eq_true rfl, Nat.le_of_ble_eq_true rfl, (by rw [cat_sum rfl]; exact Nat.le_of_ble_eq_true rfl), (by show _ ≤ 601024; omega), (by show _ ≤ 7293034; omega)⟩ ?_
  refine a_set (fun S2 eS2 => ?_)
  refine a_seti (fun bv ebv => ?_)
  rw [eS2] at hth hout hI2
  rw [ebv] at hout
  refine a_istore (pc := 980) 11 10 (ls2 := [some (.inl (.ref b0)), some (vr 11 0), some (vr 12 0), some (vr 63 0), some (vi (nI (5 * t))), some (vi rc), some (vi bv)]) rfl (by decide) rfl ?_
  refine a_aload_n (pc := 982) 11 11 rfl rfl ?_
  refine a_callVi (pc := 983) 11 12 (c_X12_thrown (S := S2)) rfl cv_L_130 (Nat.le_of_ble_eq_true rfl) rfl rfl rfl ⟨Nat.le_of_ble_eq_true rfl, Nat.le_of_ble_eq_true rfl, (by rw [cat_sum rfl]; exact Nat.le_of_ble_eq_true rfl), (by show _ ≤ 601024; omega), (by show _ ≤ 7293034; omega)⟩ ?_
  refine a_iload (pc := 986) 11 13 rfl rfl ?_
  refine a_icmp_eq_t (pc := 988) (tgt := 993) 11 14 rfl (by decide) hth ?_
  refine a_iload (pc := 993) 11 17 rfl rfl ?_
  have E9 : BW O G fdL_law (400 + t + kc) (6000 + 6 * t + ns) (lawQ G b0) S2 1010 [some (.inl (.ref b0)), some (vr 11 0), some (vr 12 0), some (vr 63 0), some (vi (nI (5 * t))), some (vi rc), some (vi bv)] [] := by
    refine a_goto (pc := 1010) (tgt := 2620) 11 28 rfl (by decide) ?_
    refine a_widen (k' := 400 + (t + 1)) (n' := 6000 + 6 * (t + 1)) (by omega) (by omega) ?_
    refine a_drop (ls2 := [some (.inl (.ref b0)), some (vr 11 0), some (vr 12 0), some (vr 63 0), some (vi (nI (5 * t))), none, none]) ⟨rfl, rfl, rfl, rfl, rfl, trivial⟩ ?_
    exact kk S2 hI2
  refine a_if_ne (pc := 995) (tgt := 1010) 11 18 rfl (by decide) (fun c8 => E9) (fun c8 => ?_)
  refine a_aload_n (pc := 998) 11 19 rfl rfl ?_
  refine a_iconst (pc := 999) 11 20 (v := 0) rfl (by decide) ?_
  refine a_lald (pc := 1000) 11 21 rfl rfl ?_
  refine a_iload (pc := 1001) 11 22 rfl rfl ?_
  refine a_i2l (pc := 1003) 11 23 rfl ?_
  refine a_lcmp (pc := 1004) 11 24 rfl ?_
  exact a_if_eq_t (pc := 1005) (tgt := 1010) 11 25 rfl (by decide) (lcmp_eq (hout c8)) E9
set_option maxRecDepth 100000 in
theorem case_payBack {O : Om} {G : Cx} {b0 L t : Nat} {xs : Nat → Int32} {S : Mem} {I : Nat → Mem → Prop} (st : Step_payBack I) (hs : LawOk O G b0 L xs) (hL : 5 * t + 5 ≤ L) (hL2 : L ≤ 2560) (hI : I t S) (kk : ∀ S2 : Mem, I (t + 1) S2 → BW O G fdL_law (400 + (t + 1)) (6000 + 6 * (t + 1)) (lawQ G b0) S2 2620 [some (.inl (.ref b0)), some (vr 11 0), some (vr 12 0), some (vr 63 0), some (vi (nI (5 * t))), none, none] []) : BW O G fdL_law (400 + t) (6000 + 6 * t) (lawQ G b0) S 1013 [some (.inl (.ref b0)), some (vr 11 0), some (vr 12 0), some (vr 63 0), some (vi (nI (5 * t))), none, none] [] := by
  have ht : t < 512 := by omega
  refine a_aload_n (pc := 1013) 11 29 rfl rfl ?_
  refine a_aloadR (pc := 1014) 11 30 rfl rfl ?_
  refine a_iload (pc := 1015) 11 31 rfl rfl ?_
  refine a_iconst (pc := 1017) 11 32 (v := 1) rfl (by decide) ?_
  refine a_iadd (pc := 1018) 11 33 rfl ?_
  refine a_sld (pc := 1019) 11 34 (5 * t + 1) hs rfl (nI_1 _) (by omega) (by omega) ?_
  refine a_aloadR (pc := 1020) 11 35 rfl rfl ?_
  refine a_iload (pc := 1021) 11 36 rfl rfl ?_
  refine a_iconst (pc := 1023) 11 37 (v := nI 2) rfl (by decide) ?_
  refine a_iadd (pc := 1024) 11 38 rfl ?_
  refine a_sld (pc := 1025) 11 39 (5 * t + 2) hs rfl (nI_add _ _) (by omega) (by omega) ?_
  refine a_aload_n (pc := 1026) 11 40 rfl rfl ?_
  obtain ⟨fr, lo, kc, ns, rc, S1, ⟨z1, z2, z3, z4⟩, hC, hok, hth, hout, hI2⟩ := st t S (xs (5 * t + 1)) (xs (5 * t + 2)) ht hI
  refine a_callH (pc := 1027) 11 41 hC rfl ch_L_171 rfl ⟨z1, z2, (by rw [cat_sum rfl]; decide), (by show _ ≤ 601024; omega), (by show _ ≤ 7293034; omega)⟩ (fun v9 S9 h9 => ?_)
  obtain ⟨rfl, rfl⟩ := h9
  refine a_istore (pc := 1030) 11 42 (ls2 := [some (.inl (.ref b0)), some (vr 11 0), some (vr 12 0), some (vr 63 0), some (vi (nI (5 * t))), some (vi rc), none]) rfl (by decide) rfl ?_
  refine a_aload_n (pc := 1032) 11 43 rfl rfl ?_
  refine a_aloadR (pc := 1033) 11 44 rfl rfl ?_
  refine a_iload (pc := 1034) 11 45 rfl rfl ?_
  refine a_iconst (pc := 1036) 11 46 (v := 1) rfl (by decide) ?_
  refine a_iadd (pc := 1037) 11 47 rfl ?_
  refine a_sld (pc := 1038) 12 0 (5 * t + 1) hs rfl (nI_1 _) (by omega) (by omega) ?_
  refine a_aloadR (pc := 1039) 12 1 rfl rfl ?_
  refine a_iload (pc := 1040) 12 2 rfl rfl ?_
  refine a_iconst (pc := 1042) 12 3 (v := nI 2) rfl (by decide) ?_
  refine a_iadd (pc := 1043) 12 4 rfl ?_
  refine a_sld (pc := 1044) 12 5 (5 * t + 2) hs rfl (nI_add _ _) (by omega) (by omega) ?_
  refine a_callVi (pc := 1045) 12 6 (c_X12_payBack (S := S9) (xs (5 * t + 1)) (xs (5 * t + 2)) hok) rfl cv_L_173 (Nat.le_of_ble_eq_true rfl) rfl rfl rfl ⟨Nat.le_of_ble_eq_true rfl, Nat.le_of_ble_eq_true rfl, (by rw [cat_sum rfl]; exact Nat.le_of_ble_eq_true rfl), (by show _ ≤ 601024; omega), (by show _ ≤ 7293034; omega)⟩ ?_
  refine a_set (fun S2 eS2 => ?_)
  refine a_seti (fun bv ebv => ?_)
  rw [eS2] at hth hout hI2
  rw [ebv] at hout
  refine a_istore (pc := 1048) 12 7 (ls2 := [some (.inl (.ref b0)), some (vr 11 0), some (vr 12 0), some (vr 63 0), some (vi (nI (5 * t))), some (vi rc), some (vi bv)]) rfl (by decide) rfl ?_
  refine a_aload_n (pc := 1050) 12 8 rfl rfl ?_
  refine a_callVi (pc := 1051) 12 9 (c_X12_thrown (S := S2)) rfl cv_L_130 (Nat.le_of_ble_eq_true rfl) rfl rfl rfl ⟨Nat.le_of_ble_eq_true rfl, Nat.le_of_ble_eq_true rfl, (by rw [cat_sum rfl]; exact Nat.le_of_ble_eq_true rfl), (by show _ ≤ 601024; omega), (by show _ ≤ 7293034; omega)⟩ ?_
  refine a_iload (pc := 1054) 12 10 rfl rfl ?_
  refine a_icmp_eq_t (pc := 1056) (tgt := 1061) 12 11 rfl (by decide) hth ?_
  refine a_iload (pc := 1061) 12 14 rfl rfl ?_
  have E9 : BW O G fdL_law (400 + t + kc) (6000 + 6 * t + ns) (lawQ G b0) S2 1078 [some (.inl (.ref b0)), some (vr 11 0), some (vr 12 0), some (vr 63 0), some (vi (nI (5 * t))), some (vi rc), some (vi bv)] [] := by
    refine a_goto (pc := 1078) (tgt := 2620) 12 25 rfl (by decide) ?_
    refine a_widen (k' := 400 + (t + 1)) (n' := 6000 + 6 * (t + 1)) (by omega) (by omega) ?_
    refine a_drop (ls2 := [some (.inl (.ref b0)), some (vr 11 0), some (vr 12 0), some (vr 63 0), some (vi (nI (5 * t))), none, none]) ⟨rfl, rfl, rfl, rfl, rfl, trivial⟩ ?_
    exact kk S2 hI2
  refine a_if_ne (pc := 1063) (tgt := 1078) 12 15 rfl (by decide) (fun c8 => E9) (fun c8 => ?_)
  refine a_aload_n (pc := 1066) 12 16 rfl rfl ?_
  refine a_iconst (pc := 1067) 12 17 (v := 0) rfl (by decide) ?_
  refine a_lald (pc := 1068) 12 18 rfl rfl ?_
  refine a_iload (pc := 1069) 12 19 rfl rfl ?_
  refine a_i2l (pc := 1071) 12 20 rfl ?_
  refine a_lcmp (pc := 1072) 12 21 rfl ?_
  exact a_if_eq_t (pc := 1073) (tgt := 1078) 12 22 rfl (by decide) (lcmp_eq (hout c8)) E9
set_option maxRecDepth 100000 in
theorem case_window {O : Om} {G : Cx} {b0 L t : Nat} {xs : Nat → Int32} {S : Mem} {I : Nat → Mem → Prop} (st : Step_window I) (hs : LawOk O G b0 L xs) (hL : 5 * t + 5 ≤ L) (hL2 : L ≤ 2560) (hI : I t S) (kk : ∀ S2 : Mem, I (t + 1) S2 → BW O G fdL_law (400 + (t + 1)) (6000 + 6 * (t + 1)) (lawQ G b0) S2 2620 [some (.inl (.ref b0)), some (vr 11 0), some (vr 12 0), some (vr 63 0), some (vi (nI (5 * t))), none, none] []) : BW O G fdL_law (400 + t) (6000 + 6 * t) (lawQ G b0) S 1081 [some (.inl (.ref b0)), some (vr 11 0), some (vr 12 0), some (vr 63 0), some (vi (nI (5 * t))), none, none] [] := by
  have ht : t < 512 := by omega
  refine a_aload_n (pc := 1081) 12 26 rfl rfl ?_
  refine a_aloadR (pc := 1082) 12 27 rfl rfl ?_
  refine a_iload (pc := 1083) 12 28 rfl rfl ?_
  refine a_iconst (pc := 1085) 12 29 (v := 1) rfl (by decide) ?_
  refine a_iadd (pc := 1086) 12 30 rfl ?_
  refine a_sld (pc := 1087) 12 31 (5 * t + 1) hs rfl (nI_1 _) (by omega) (by omega) ?_
  refine a_aloadR (pc := 1088) 12 32 rfl rfl ?_
  refine a_iload (pc := 1089) 12 33 rfl rfl ?_
  refine a_iconst (pc := 1091) 12 34 (v := nI 2) rfl (by decide) ?_
  refine a_iadd (pc := 1092) 12 35 rfl ?_
  refine a_sld (pc := 1093) 12 36 (5 * t + 2) hs rfl (nI_add _ _) (by omega) (by omega) ?_
  refine a_aload_n (pc := 1094) 12 37 rfl rfl ?_
  obtain ⟨fr, lo, kc, ns, rc, S1, ⟨z1, z2, z3, z4⟩, hC, hok, hth, hout, hI2⟩ := st t S (xs (5 * t + 1)) (xs (5 * t + 2)) ht hI
  refine a_callH (pc := 1095) 12 38 hC rfl ch_L_174 rfl ⟨z1, z2, (by rw [cat_sum rfl]; decide), (by show _ ≤ 601024; omega), (by show _ ≤ 7293034; omega)⟩ (fun v9 S9 h9 => ?_)
  obtain ⟨rfl, rfl⟩ := h9
  refine a_istore (pc := 1098) 12 39 (ls2 := [some (.inl (.ref b0)), some (vr 11 0), some (vr 12 0), some (vr 63 0), some (vi (nI (5 * t))), some (vi rc), none]) rfl (by decide) rfl ?_
  refine a_aload_n (pc := 1100) 12 40 rfl rfl ?_
  refine a_aloadR (pc := 1101) 12 41 rfl rfl ?_
  refine a_iload (pc := 1102) 12 42 rfl rfl ?_
  refine a_iconst (pc := 1104) 12 43 (v := 1) rfl (by decide) ?_
  refine a_iadd (pc := 1105) 12 44 rfl ?_
  refine a_sld (pc := 1106) 12 45 (5 * t + 1) hs rfl (nI_1 _) (by omega) (by omega) ?_
  refine a_aloadR (pc := 1107) 12 46 rfl rfl ?_
  refine a_iload (pc := 1108) 12 47 rfl rfl ?_
  refine a_iconst (pc := 1110) 13 0 (v := nI 2) rfl (by decide) ?_
  refine a_iadd (pc := 1111) 13 1 rfl ?_
  refine a_sld (pc := 1112) 13 2 (5 * t + 2) hs rfl (nI_add _ _) (by omega) (by omega) ?_
  refine a_callVi (pc := 1113) 13 3 (c_X12_window (S := S9) (xs (5 * t + 1)) (xs (5 * t + 2)) hok) rfl cv_L_176 (Nat.le_of_ble_eq_true rfl) rfl rfl rfl ⟨Nat.le_of_ble_eq_true rfl, Nat.le_of_ble_eq_true rfl, (by rw [cat_sum rfl]; exact Nat.le_of_ble_eq_true rfl), (by show _ ≤ 601024; omega), (by show _ ≤ 7293034; omega)⟩ ?_
  refine a_set (fun S2 eS2 => ?_)
  refine a_seti (fun bv ebv => ?_)
  rw [eS2] at hth hout hI2
  rw [ebv] at hout
  refine a_istore (pc := 1116) 13 4 (ls2 := [some (.inl (.ref b0)), some (vr 11 0), some (vr 12 0), some (vr 63 0), some (vi (nI (5 * t))), some (vi rc), some (vi bv)]) rfl (by decide) rfl ?_
  refine a_aload_n (pc := 1118) 13 5 rfl rfl ?_
  refine a_callVi (pc := 1119) 13 6 (c_X12_thrown (S := S2)) rfl cv_L_130 (Nat.le_of_ble_eq_true rfl) rfl rfl rfl ⟨Nat.le_of_ble_eq_true rfl, Nat.le_of_ble_eq_true rfl, (by rw [cat_sum rfl]; exact Nat.le_of_ble_eq_true rfl), (by show _ ≤ 601024; omega), (by show _ ≤ 7293034; omega)⟩ ?_
  refine a_iload (pc := 1122) 13 7 rfl rfl ?_
  refine a_icmp_eq_t (pc := 1124) (tgt := 1129) 13 8 rfl (by decide) hth ?_
  refine a_iload (pc := 1129) 13 11 rfl rfl ?_
  have E9 : BW O G fdL_law (400 + t + kc) (6000 + 6 * t + ns) (lawQ G b0) S2 1146 [some (.inl (.ref b0)), some (vr 11 0), some (vr 12 0), some (vr 63 0), some (vi (nI (5 * t))), some (vi rc), some (vi bv)] [] := by
    refine a_goto (pc := 1146) (tgt := 2620) 13 22 rfl (by decide) ?_
    refine a_widen (k' := 400 + (t + 1)) (n' := 6000 + 6 * (t + 1)) (by omega) (by omega) ?_
    refine a_drop (ls2 := [some (.inl (.ref b0)), some (vr 11 0), some (vr 12 0), some (vr 63 0), some (vi (nI (5 * t))), none, none]) ⟨rfl, rfl, rfl, rfl, rfl, trivial⟩ ?_
    exact kk S2 hI2
  refine a_if_ne (pc := 1131) (tgt := 1146) 13 12 rfl (by decide) (fun c8 => E9) (fun c8 => ?_)
  refine a_aload_n (pc := 1134) 13 13 rfl rfl ?_
  refine a_iconst (pc := 1135) 13 14 (v := 0) rfl (by decide) ?_
  refine a_lald (pc := 1136) 13 15 rfl rfl ?_
  refine a_iload (pc := 1137) 13 16 rfl rfl ?_
  refine a_i2l (pc := 1139) 13 17 rfl ?_
  refine a_lcmp (pc := 1140) 13 18 rfl ?_
  exact a_if_eq_t (pc := 1141) (tgt := 1146) 13 19 rfl (by decide) (lcmp_eq (hout c8)) E9
set_option maxRecDepth 100000 in
theorem case_windowBack {O : Om} {G : Cx} {b0 L t : Nat} {xs : Nat → Int32} {S : Mem} {I : Nat → Mem → Prop} (st : Step_windowBack I) (hs : LawOk O G b0 L xs) (hL : 5 * t + 5 ≤ L) (hL2 : L ≤ 2560) (hI : I t S) (kk : ∀ S2 : Mem, I (t + 1) S2 → BW O G fdL_law (400 + (t + 1)) (6000 + 6 * (t + 1)) (lawQ G b0) S2 2620 [some (.inl (.ref b0)), some (vr 11 0), some (vr 12 0), some (vr 63 0), some (vi (nI (5 * t))), none, none] []) : BW O G fdL_law (400 + t) (6000 + 6 * t) (lawQ G b0) S 1149 [some (.inl (.ref b0)), some (vr 11 0), some (vr 12 0), some (vr 63 0), some (vi (nI (5 * t))), none, none] [] := by
  have ht : t < 512 := by omega
  refine a_aload_n (pc := 1149) 13 23 rfl rfl ?_
  refine a_aloadR (pc := 1150) 13 24 rfl rfl ?_
  refine a_iload (pc := 1151) 13 25 rfl rfl ?_
  refine a_iconst (pc := 1153) 13 26 (v := 1) rfl (by decide) ?_
  refine a_iadd (pc := 1154) 13 27 rfl ?_
  refine a_sld (pc := 1155) 13 28 (5 * t + 1) hs rfl (nI_1 _) (by omega) (by omega) ?_
  refine a_aloadR (pc := 1156) 13 29 rfl rfl ?_
  refine a_iload (pc := 1157) 13 30 rfl rfl ?_
  refine a_iconst (pc := 1159) 13 31 (v := nI 2) rfl (by decide) ?_
  refine a_iadd (pc := 1160) 13 32 rfl ?_
  refine a_sld (pc := 1161) 13 33 (5 * t + 2) hs rfl (nI_add _ _) (by omega) (by omega) ?_
  refine a_aload_n (pc := 1162) 13 34 rfl rfl ?_
  obtain ⟨fr, lo, kc, ns, rc, S1, ⟨z1, z2, z3, z4⟩, hC, hok, hth, hout, hI2⟩ := st t S (xs (5 * t + 1)) (xs (5 * t + 2)) ht hI
  refine a_callH (pc := 1163) 13 35 hC rfl ch_L_177 rfl ⟨z1, z2, (by rw [cat_sum rfl]; decide), (by show _ ≤ 601024; omega), (by show _ ≤ 7293034; omega)⟩ (fun v9 S9 h9 => ?_)
  obtain ⟨rfl, rfl⟩ := h9
  refine a_istore (pc := 1166) 13 36 (ls2 := [some (.inl (.ref b0)), some (vr 11 0), some (vr 12 0), some (vr 63 0), some (vi (nI (5 * t))), some (vi rc), none]) rfl (by decide) rfl ?_
  refine a_aload_n (pc := 1168) 13 37 rfl rfl ?_
  refine a_aloadR (pc := 1169) 13 38 rfl rfl ?_
  refine a_iload (pc := 1170) 13 39 rfl rfl ?_
  refine a_iconst (pc := 1172) 13 40 (v := 1) rfl (by decide) ?_
  refine a_iadd (pc := 1173) 13 41 rfl ?_
  refine a_sld (pc := 1174) 13 42 (5 * t + 1) hs rfl (nI_1 _) (by omega) (by omega) ?_
  refine a_aloadR (pc := 1175) 13 43 rfl rfl ?_
  refine a_iload (pc := 1176) 13 44 rfl rfl ?_
  refine a_iconst (pc := 1178) 13 45 (v := nI 2) rfl (by decide) ?_
  refine a_iadd (pc := 1179) 13 46 rfl ?_
  refine a_sld (pc := 1180) 13 47 (5 * t + 2) hs rfl (nI_add _ _) (by omega) (by omega) ?_
  refine a_callVi (pc := 1181) 14 0 (c_X12_windowBack (S := S9) (xs (5 * t + 1)) (xs (5 * t + 2)) hok) rfl cv_L_179 (Nat.le_of_ble_eq_true rfl) rfl rfl rfl ⟨Nat.le_of_ble_eq_true rfl, Nat.le_of_ble_eq_true rfl, (by rw [cat_sum rfl]; exact Nat.le_of_ble_eq_true rfl), (by show _ ≤ 601024; omega), (by show _ ≤ 7293034; omega)⟩ ?_
  refine a_set (fun S2 eS2 => ?_)
  refine a_seti (fun bv ebv => ?_)
  rw [eS2] at hth hout hI2
  rw [ebv] at hout
  refine a_istore (pc := 1184) 14 1 (ls2 := [some (.inl (.ref b0)), some (vr 11 0), some (vr 12 0), some (vr 63 0), some (vi (nI (5 * t))), some (vi rc), some (vi bv)]) rfl (by decide) rfl ?_
  refine a_aload_n (pc := 1186) 14 2 rfl rfl ?_
  refine a_callVi (pc := 1187) 14 3 (c_X12_thrown (S := S2)) rfl cv_L_130 (Nat.le_of_ble_eq_true rfl) rfl rfl rfl ⟨Nat.le_of_ble_eq_true rfl, Nat.le_of_ble_eq_true rfl, (by rw [cat_sum rfl]; exact Nat.le_of_ble_eq_true rfl), (by show _ ≤ 601024; omega), (by show _ ≤ 7293034; omega)⟩ ?_
  refine a_iload (pc := 1190) 14 4 rfl rfl ?_
  refine a_icmp_eq_t (pc := 1192) (tgt := 1197) 14 5 rfl (by decide) hth ?_
  refine a_iload (pc := 1197) 14 8 rfl rfl ?_
  have E9 : BW O G fdL_law (400 + t + kc) (6000 + 6 * t + ns) (lawQ G b0) S2 1214 [some (.inl (.ref b0)), some (vr 11 0), some (vr 12 0), some (vr 63 0), some (vi (nI (5 * t))), some (vi rc), some (vi bv)] [] := by
    refine a_goto (pc := 1214) (tgt := 2620) 14 19 rfl (by decide) ?_
    refine a_widen (k' := 400 + (t + 1)) (n' := 6000 + 6 * (t + 1)) (by omega) (by omega) ?_
    refine a_drop (ls2 := [some (.inl (.ref b0)), some (vr 11 0), some (vr 12 0), some (vr 63 0), some (vi (nI (5 * t))), none, none]) ⟨rfl, rfl, rfl, rfl, rfl, trivial⟩ ?_
    exact kk S2 hI2
  refine a_if_ne (pc := 1199) (tgt := 1214) 14 9 rfl (by decide) (fun c8 => E9) (fun c8 => ?_)
  refine a_aload_n (pc := 1202) 14 10 rfl rfl ?_
  refine a_iconst (pc := 1203) 14 11 (v := 0) rfl (by decide) ?_
  refine a_lald (pc := 1204) 14 12 rfl rfl ?_
  refine a_iload (pc := 1205) 14 13 rfl rfl ?_
  refine a_i2l (pc := 1207) 14 14 rfl ?_
  refine a_lcmp (pc := 1208) 14 15 rfl ?_
  exact a_if_eq_t (pc := 1209) (tgt := 1214) 14 16 rfl (by decide) (lcmp_eq (hout c8)) E9
set_option maxRecDepth 100000 in
theorem case_rules {O : Om} {G : Cx} {b0 L t : Nat} {xs : Nat → Int32} {S : Mem} {I : Nat → Mem → Prop} (st : Step_rules I) (hs : LawOk O G b0 L xs) (hL : 5 * t + 5 ≤ L) (hL2 : L ≤ 2560) (hI : I t S) (kk : ∀ S2 : Mem, I (t + 1) S2 → BW O G fdL_law (400 + (t + 1)) (6000 + 6 * (t + 1)) (lawQ G b0) S2 2620 [some (.inl (.ref b0)), some (vr 11 0), some (vr 12 0), some (vr 63 0), some (vi (nI (5 * t))), none, none] []) : BW O G fdL_law (400 + t) (6000 + 6 * t) (lawQ G b0) S 1217 [some (.inl (.ref b0)), some (vr 11 0), some (vr 12 0), some (vr 63 0), some (vi (nI (5 * t))), none, none] [] := by
  have ht : t < 512 := by omega
  refine a_aload_n (pc := 1217) 14 20 rfl rfl ?_
  refine a_aloadR (pc := 1218) 14 21 rfl rfl ?_
  refine a_iload (pc := 1219) 14 22 rfl rfl ?_
  refine a_iconst (pc := 1221) 14 23 (v := 1) rfl (by decide) ?_
  refine a_iadd (pc := 1222) 14 24 rfl ?_
  refine a_sld (pc := 1223) 14 25 (5 * t + 1) hs rfl (nI_1 _) (by omega) (by omega) ?_
  refine a_aloadR (pc := 1224) 14 26 rfl rfl ?_
  refine a_iload (pc := 1225) 14 27 rfl rfl ?_
  refine a_iconst (pc := 1227) 14 28 (v := nI 2) rfl (by decide) ?_
  refine a_iadd (pc := 1228) 14 29 rfl ?_
  refine a_sld (pc := 1229) 14 30 (5 * t + 2) hs rfl (nI_add _ _) (by omega) (by omega) ?_
  refine a_aloadR (pc := 1230) 14 31 rfl rfl ?_
  refine a_iload (pc := 1231) 14 32 rfl rfl ?_
  refine a_iconst (pc := 1233) 14 33 (v := nI 3) rfl (by decide) ?_
  refine a_iadd (pc := 1234) 14 34 rfl ?_
  refine a_sld (pc := 1235) 14 35 (5 * t + 3) hs rfl (nI_add _ _) (by omega) (by omega) ?_
  refine a_aload_n (pc := 1236) 14 36 rfl rfl ?_
  obtain ⟨fr, lo, kc, ns, rc, S1, ⟨z1, z2, z3, z4⟩, hC, hth, hout, hI2⟩ := st t S (xs (5 * t + 1)) (xs (5 * t + 2)) (xs (5 * t + 3)) ht hI
  refine a_callH (pc := 1237) 14 37 hC rfl ch_L_180 rfl ⟨z1, z2, (by rw [cat_sum rfl]; decide), (by show _ ≤ 601024; omega), (by show _ ≤ 7293034; omega)⟩ (fun v9 S9 h9 => ?_)
  obtain ⟨rfl, rfl⟩ := h9
  refine a_istore (pc := 1240) 14 38 (ls2 := [some (.inl (.ref b0)), some (vr 11 0), some (vr 12 0), some (vr 63 0), some (vi (nI (5 * t))), some (vi rc), none]) rfl (by decide) rfl ?_
  refine a_aload_n (pc := 1242) 14 39 rfl rfl ?_
  refine a_aloadR (pc := 1243) 14 40 rfl rfl ?_
  refine a_iload (pc := 1244) 14 41 rfl rfl ?_
  refine a_iconst (pc := 1246) 14 42 (v := 1) rfl (by decide) ?_
  refine a_iadd (pc := 1247) 14 43 rfl ?_
  refine a_sld (pc := 1248) 14 44 (5 * t + 1) hs rfl (nI_1 _) (by omega) (by omega) ?_
  refine a_aloadR (pc := 1249) 14 45 rfl rfl ?_
  refine a_iload (pc := 1250) 14 46 rfl rfl ?_
  refine a_iconst (pc := 1252) 14 47 (v := nI 2) rfl (by decide) ?_
  refine a_iadd (pc := 1253) 15 0 rfl ?_
  refine a_sld (pc := 1254) 15 1 (5 * t + 2) hs rfl (nI_add _ _) (by omega) (by omega) ?_
  refine a_aloadR (pc := 1255) 15 2 rfl rfl ?_
  refine a_iload (pc := 1256) 15 3 rfl rfl ?_
  refine a_iconst (pc := 1258) 15 4 (v := nI 3) rfl (by decide) ?_
  refine a_iadd (pc := 1259) 15 5 rfl ?_
  refine a_sld (pc := 1260) 15 6 (5 * t + 3) hs rfl (nI_add _ _) (by omega) (by omega) ?_
  refine a_callVi (pc := 1261) 15 7 (c_X12_rules (S := S9) (xs (5 * t + 1)) (xs (5 * t + 2)) (xs (5 * t + 3))) rfl cv_L_182 (Nat.le_of_ble_eq_true rfl) rfl rfl rfl ⟨Nat.le_of_ble_eq_true rfl, Nat.le_of_ble_eq_true rfl, (by rw [cat_sum rfl]; exact Nat.le_of_ble_eq_true rfl), (by show _ ≤ 601024; omega), (by show _ ≤ 7293034; omega)⟩ ?_
  refine a_set (fun S2 eS2 => ?_)
  refine a_seti (fun bv ebv => ?_)
  rw [eS2] at hth hout hI2
  rw [ebv] at hout
  refine a_istore (pc := 1264) 15 8 (ls2 := [some (.inl (.ref b0)), some (vr 11 0), some (vr 12 0), some (vr 63 0), some (vi (nI (5 * t))), some (vi rc), some (vi bv)]) rfl (by decide) rfl ?_
  refine a_aload_n (pc := 1266) 15 9 rfl rfl ?_
  refine a_callVi (pc := 1267) 15 10 (c_X12_thrown (S := S2)) rfl cv_L_130 (Nat.le_of_ble_eq_true rfl) rfl rfl rfl ⟨Nat.le_of_ble_eq_true rfl, Nat.le_of_ble_eq_true rfl, (by rw [cat_sum rfl]; exact Nat.le_of_ble_eq_true rfl), (by show _ ≤ 601024; omega), (by show _ ≤ 7293034; omega)⟩ ?_
  refine a_iload (pc := 1270) 15 11 rfl rfl ?_
  refine a_icmp_eq_t (pc := 1272) (tgt := 1277) 15 12 rfl (by decide) hth ?_
  refine a_iload (pc := 1277) 15 15 rfl rfl ?_
  have E9 : BW O G fdL_law (400 + t + kc) (6000 + 6 * t + ns) (lawQ G b0) S2 1294 [some (.inl (.ref b0)), some (vr 11 0), some (vr 12 0), some (vr 63 0), some (vi (nI (5 * t))), some (vi rc), some (vi bv)] [] := by
    refine a_goto (pc := 1294) (tgt := 2620) 15 26 rfl (by decide) ?_
    refine a_widen (k' := 400 + (t + 1)) (n' := 6000 + 6 * (t + 1)) (by omega) (by omega) ?_
    refine a_drop (ls2 := [some (.inl (.ref b0)), some (vr 11 0), some (vr 12 0), some (vr 63 0), some (vi (nI (5 * t))), none, none]) ⟨rfl, rfl, rfl, rfl, rfl, trivial⟩ ?_
    exact kk S2 hI2
  refine a_if_ne (pc := 1279) (tgt := 1294) 15 16 rfl (by decide) (fun c8 => E9) (fun c8 => ?_)
  refine a_aload_n (pc := 1282) 15 17 rfl rfl ?_
  refine a_iconst (pc := 1283) 15 18 (v := 0) rfl (by decide) ?_
  refine a_lald (pc := 1284) 15 19 rfl rfl ?_
  refine a_iload (pc := 1285) 15 20 rfl rfl ?_
  refine a_i2l (pc := 1287) 15 21 rfl ?_
  refine a_lcmp (pc := 1288) 15 22 rfl ?_
  exact a_if_eq_t (pc := 1289) (tgt := 1294) 15 23 rfl (by decide) (lcmp_eq (hout c8)) E9
set_option maxRecDepth 100000 in
theorem case_buyBonds {O : Om} {G : Cx} {b0 L t : Nat} {xs : Nat → Int32} {S : Mem} {I : Nat → Mem → Prop} (st : Step_buyBonds I) (hs : LawOk O G b0 L xs) (hL : 5 * t + 5 ≤ L) (hL2 : L ≤ 2560) (hI : I t S) (kk : ∀ S2 : Mem, I (t + 1) S2 → BW O G fdL_law (400 + (t + 1)) (6000 + 6 * (t + 1)) (lawQ G b0) S2 2620 [some (.inl (.ref b0)), some (vr 11 0), some (vr 12 0), some (vr 63 0), some (vi (nI (5 * t))), none, none] []) : BW O G fdL_law (400 + t) (6000 + 6 * t) (lawQ G b0) S 1297 [some (.inl (.ref b0)), some (vr 11 0), some (vr 12 0), some (vr 63 0), some (vi (nI (5 * t))), none, none] [] := by
  have ht : t < 512 := by omega
  refine a_aload_n (pc := 1297) 15 27 rfl rfl ?_
  refine a_aloadR (pc := 1298) 15 28 rfl rfl ?_
  refine a_iload (pc := 1299) 15 29 rfl rfl ?_
  refine a_iconst (pc := 1301) 15 30 (v := 1) rfl (by decide) ?_
  refine a_iadd (pc := 1302) 15 31 rfl ?_
  refine a_sld (pc := 1303) 15 32 (5 * t + 1) hs rfl (nI_1 _) (by omega) (by omega) ?_
  refine a_aloadR (pc := 1304) 15 33 rfl rfl ?_
  refine a_iload (pc := 1305) 15 34 rfl rfl ?_
  refine a_iconst (pc := 1307) 15 35 (v := nI 2) rfl (by decide) ?_
  refine a_iadd (pc := 1308) 15 36 rfl ?_
  refine a_sld (pc := 1309) 15 37 (5 * t + 2) hs rfl (nI_add _ _) (by omega) (by omega) ?_
  refine a_aload_n (pc := 1310) 15 38 rfl rfl ?_
  obtain ⟨fr, lo, kc, ns, rc, S1, ⟨z1, z2, z3, z4⟩, hC, hok, hth, hout, hI2⟩ := st t S (xs (5 * t + 1)) (xs (5 * t + 2)) ht hI
  refine a_callH (pc := 1311) 15 39 hC rfl ch_L_183 rfl ⟨z1, z2, (by rw [cat_sum rfl]; decide), (by show _ ≤ 601024; omega), (by show _ ≤ 7293034; omega)⟩ (fun v9 S9 h9 => ?_)
  obtain ⟨rfl, rfl⟩ := h9
  refine a_istore (pc := 1314) 15 40 (ls2 := [some (.inl (.ref b0)), some (vr 11 0), some (vr 12 0), some (vr 63 0), some (vi (nI (5 * t))), some (vi rc), none]) rfl (by decide) rfl ?_
  refine a_aload_n (pc := 1316) 15 41 rfl rfl ?_
  refine a_aloadR (pc := 1317) 15 42 rfl rfl ?_
  refine a_iload (pc := 1318) 15 43 rfl rfl ?_
  refine a_iconst (pc := 1320) 15 44 (v := 1) rfl (by decide) ?_
  refine a_iadd (pc := 1321) 15 45 rfl ?_
  refine a_sld (pc := 1322) 15 46 (5 * t + 1) hs rfl (nI_1 _) (by omega) (by omega) ?_
  refine a_aloadR (pc := 1323) 15 47 rfl rfl ?_
  refine a_iload (pc := 1324) 16 0 rfl rfl ?_
  refine a_iconst (pc := 1326) 16 1 (v := nI 2) rfl (by decide) ?_
  refine a_iadd (pc := 1327) 16 2 rfl ?_
  refine a_sld (pc := 1328) 16 3 (5 * t + 2) hs rfl (nI_add _ _) (by omega) (by omega) ?_
  refine a_callVi (pc := 1329) 16 4 (c_X12_buyBonds (S := S9) (xs (5 * t + 1)) (xs (5 * t + 2)) hok) rfl cv_L_185 (Nat.le_of_ble_eq_true rfl) rfl rfl rfl ⟨Nat.le_of_ble_eq_true rfl, Nat.le_of_ble_eq_true rfl, (by rw [cat_sum rfl]; exact Nat.le_of_ble_eq_true rfl), (by show _ ≤ 601024; omega), (by show _ ≤ 7293034; omega)⟩ ?_
  refine a_set (fun S2 eS2 => ?_)
  refine a_seti (fun bv ebv => ?_)
  rw [eS2] at hth hout hI2
  rw [ebv] at hout
  refine a_istore (pc := 1332) 16 5 (ls2 := [some (.inl (.ref b0)), some (vr 11 0), some (vr 12 0), some (vr 63 0), some (vi (nI (5 * t))), some (vi rc), some (vi bv)]) rfl (by decide) rfl ?_
  refine a_aload_n (pc := 1334) 16 6 rfl rfl ?_
  refine a_callVi (pc := 1335) 16 7 (c_X12_thrown (S := S2)) rfl cv_L_130 (Nat.le_of_ble_eq_true rfl) rfl rfl rfl ⟨Nat.le_of_ble_eq_true rfl, Nat.le_of_ble_eq_true rfl, (by rw [cat_sum rfl]; exact Nat.le_of_ble_eq_true rfl), (by show _ ≤ 601024; omega), (by show _ ≤ 7293034; omega)⟩ ?_
  refine a_iload (pc := 1338) 16 8 rfl rfl ?_
  refine a_icmp_eq_t (pc := 1340) (tgt := 1345) 16 9 rfl (by decide) hth ?_
  refine a_iload (pc := 1345) 16 12 rfl rfl ?_
  have E9 : BW O G fdL_law (400 + t + kc) (6000 + 6 * t + ns) (lawQ G b0) S2 1362 [some (.inl (.ref b0)), some (vr 11 0), some (vr 12 0), some (vr 63 0), some (vi (nI (5 * t))), some (vi rc), some (vi bv)] [] := by
    refine a_goto (pc := 1362) (tgt := 2620) 16 23 rfl (by decide) ?_
    refine a_widen (k' := 400 + (t + 1)) (n' := 6000 + 6 * (t + 1)) (by omega) (by omega) ?_
    refine a_drop (ls2 := [some (.inl (.ref b0)), some (vr 11 0), some (vr 12 0), some (vr 63 0), some (vi (nI (5 * t))), none, none]) ⟨rfl, rfl, rfl, rfl, rfl, trivial⟩ ?_
    exact kk S2 hI2
  refine a_if_ne (pc := 1347) (tgt := 1362) 16 13 rfl (by decide) (fun c8 => E9) (fun c8 => ?_)
  refine a_aload_n (pc := 1350) 16 14 rfl rfl ?_
  refine a_iconst (pc := 1351) 16 15 (v := 0) rfl (by decide) ?_
  refine a_lald (pc := 1352) 16 16 rfl rfl ?_
  refine a_iload (pc := 1353) 16 17 rfl rfl ?_
  refine a_i2l (pc := 1355) 16 18 rfl ?_
  refine a_lcmp (pc := 1356) 16 19 rfl ?_
  exact a_if_eq_t (pc := 1357) (tgt := 1362) 16 20 rfl (by decide) (lcmp_eq (hout c8)) E9
set_option maxRecDepth 100000 in
theorem case_bid {O : Om} {G : Cx} {b0 L t : Nat} {xs : Nat → Int32} {S : Mem} {I : Nat → Mem → Prop} (st : Step_bid I) (hs : LawOk O G b0 L xs) (hL : 5 * t + 5 ≤ L) (hL2 : L ≤ 2560) (hI : I t S) (kk : ∀ S2 : Mem, I (t + 1) S2 → BW O G fdL_law (400 + (t + 1)) (6000 + 6 * (t + 1)) (lawQ G b0) S2 2620 [some (.inl (.ref b0)), some (vr 11 0), some (vr 12 0), some (vr 63 0), some (vi (nI (5 * t))), none, none] []) : BW O G fdL_law (400 + t) (6000 + 6 * t) (lawQ G b0) S 1365 [some (.inl (.ref b0)), some (vr 11 0), some (vr 12 0), some (vr 63 0), some (vi (nI (5 * t))), none, none] [] := by
  have ht : t < 512 := by omega
  refine a_aload_n (pc := 1365) 16 24 rfl rfl ?_
  refine a_aloadR (pc := 1366) 16 25 rfl rfl ?_
  refine a_iload (pc := 1367) 16 26 rfl rfl ?_
  refine a_iconst (pc := 1369) 16 27 (v := 1) rfl (by decide) ?_
  refine a_iadd (pc := 1370) 16 28 rfl ?_
  refine a_sld (pc := 1371) 16 29 (5 * t + 1) hs rfl (nI_1 _) (by omega) (by omega) ?_
  refine a_aloadR (pc := 1372) 16 30 rfl rfl ?_
  refine a_iload (pc := 1373) 16 31 rfl rfl ?_
  refine a_iconst (pc := 1375) 16 32 (v := nI 2) rfl (by decide) ?_
  refine a_iadd (pc := 1376) 16 33 rfl ?_
  refine a_sld (pc := 1377) 16 34 (5 * t + 2) hs rfl (nI_add _ _) (by omega) (by omega) ?_
  refine a_aloadR (pc := 1378) 16 35 rfl rfl ?_
  refine a_iload (pc := 1379) 16 36 rfl rfl ?_
  refine a_iconst (pc := 1381) 16 37 (v := nI 3) rfl (by decide) ?_
  refine a_iadd (pc := 1382) 16 38 rfl ?_
  refine a_sld (pc := 1383) 16 39 (5 * t + 3) hs rfl (nI_add _ _) (by omega) (by omega) ?_
  refine a_aload_n (pc := 1384) 16 40 rfl rfl ?_
  obtain ⟨fr, lo, kc, ns, rc, S1, ⟨z1, z2, z3, z4⟩, hC, hok, hth, hout, hI2⟩ := st t S (xs (5 * t + 1)) (xs (5 * t + 2)) (xs (5 * t + 3)) ht hI
  refine a_callH (pc := 1385) 16 41 hC rfl ch_L_186 rfl ⟨z1, z2, (by rw [cat_sum rfl]; decide), (by show _ ≤ 601024; omega), (by show _ ≤ 7293034; omega)⟩ (fun v9 S9 h9 => ?_)
  obtain ⟨rfl, rfl⟩ := h9
  refine a_istore (pc := 1388) 16 42 (ls2 := [some (.inl (.ref b0)), some (vr 11 0), some (vr 12 0), some (vr 63 0), some (vi (nI (5 * t))), some (vi rc), none]) rfl (by decide) rfl ?_
  refine a_aload_n (pc := 1390) 16 43 rfl rfl ?_
  refine a_aloadR (pc := 1391) 16 44 rfl rfl ?_
  refine a_iload (pc := 1392) 16 45 rfl rfl ?_
  refine a_iconst (pc := 1394) 16 46 (v := 1) rfl (by decide) ?_
  refine a_iadd (pc := 1395) 16 47 rfl ?_
  refine a_sld (pc := 1396) 17 0 (5 * t + 1) hs rfl (nI_1 _) (by omega) (by omega) ?_
  refine a_aloadR (pc := 1397) 17 1 rfl rfl ?_
  refine a_iload (pc := 1398) 17 2 rfl rfl ?_
  refine a_iconst (pc := 1400) 17 3 (v := nI 2) rfl (by decide) ?_
  refine a_iadd (pc := 1401) 17 4 rfl ?_
  refine a_sld (pc := 1402) 17 5 (5 * t + 2) hs rfl (nI_add _ _) (by omega) (by omega) ?_
  refine a_aloadR (pc := 1403) 17 6 rfl rfl ?_
  refine a_iload (pc := 1404) 17 7 rfl rfl ?_
  refine a_iconst (pc := 1406) 17 8 (v := nI 3) rfl (by decide) ?_
  refine a_iadd (pc := 1407) 17 9 rfl ?_
  refine a_sld (pc := 1408) 17 10 (5 * t + 3) hs rfl (nI_add _ _) (by omega) (by omega) ?_
  refine a_callVi (pc := 1409) 17 11 (c_X12_bid (S := S9) (xs (5 * t + 1)) (xs (5 * t + 2)) (xs (5 * t + 3)) hok) rfl cv_L_188 (Nat.le_of_ble_eq_true rfl) rfl rfl rfl ⟨Nat.le_of_ble_eq_true rfl, Nat.le_of_ble_eq_true rfl, (by rw [cat_sum rfl]; exact Nat.le_of_ble_eq_true rfl), (by show _ ≤ 601024; omega), (by show _ ≤ 7293034; omega)⟩ ?_
  refine a_set (fun S2 eS2 => ?_)
  refine a_seti (fun bv ebv => ?_)
  rw [eS2] at hth hout hI2
  rw [ebv] at hout
  refine a_istore (pc := 1412) 17 12 (ls2 := [some (.inl (.ref b0)), some (vr 11 0), some (vr 12 0), some (vr 63 0), some (vi (nI (5 * t))), some (vi rc), some (vi bv)]) rfl (by decide) rfl ?_
  refine a_aload_n (pc := 1414) 17 13 rfl rfl ?_
  refine a_callVi (pc := 1415) 17 14 (c_X12_thrown (S := S2)) rfl cv_L_130 (Nat.le_of_ble_eq_true rfl) rfl rfl rfl ⟨Nat.le_of_ble_eq_true rfl, Nat.le_of_ble_eq_true rfl, (by rw [cat_sum rfl]; exact Nat.le_of_ble_eq_true rfl), (by show _ ≤ 601024; omega), (by show _ ≤ 7293034; omega)⟩ ?_
  refine a_iload (pc := 1418) 17 15 rfl rfl ?_
  refine a_icmp_eq_t (pc := 1420) (tgt := 1425) 17 16 rfl (by decide) hth ?_
  refine a_iload (pc := 1425) 17 19 rfl rfl ?_
  have E9 : BW O G fdL_law (400 + t + kc) (6000 + 6 * t + ns) (lawQ G b0) S2 1442 [some (.inl (.ref b0)), some (vr 11 0), some (vr 12 0), some (vr 63 0), some (vi (nI (5 * t))), some (vi rc), some (vi bv)] [] := by
    refine a_goto (pc := 1442) (tgt := 2620) 17 30 rfl (by decide) ?_
    refine a_widen (k' := 400 + (t + 1)) (n' := 6000 + 6 * (t + 1)) (by omega) (by omega) ?_
    refine a_drop (ls2 := [some (.inl (.ref b0)), some (vr 11 0), some (vr 12 0), some (vr 63 0), some (vi (nI (5 * t))), none, none]) ⟨rfl, rfl, rfl, rfl, rfl, trivial⟩ ?_
    exact kk S2 hI2
  refine a_if_ne (pc := 1427) (tgt := 1442) 17 20 rfl (by decide) (fun c8 => E9) (fun c8 => ?_)
  refine a_aload_n (pc := 1430) 17 21 rfl rfl ?_
  refine a_iconst (pc := 1431) 17 22 (v := 0) rfl (by decide) ?_
  refine a_lald (pc := 1432) 17 23 rfl rfl ?_
  refine a_iload (pc := 1433) 17 24 rfl rfl ?_
  refine a_i2l (pc := 1435) 17 25 rfl ?_
  refine a_lcmp (pc := 1436) 17 26 rfl ?_
  exact a_if_eq_t (pc := 1437) (tgt := 1442) 17 27 rfl (by decide) (lcmp_eq (hout c8)) E9
set_option maxRecDepth 100000 in
theorem case_auction {O : Om} {G : Cx} {b0 L t : Nat} {xs : Nat → Int32} {S : Mem} {I : Nat → Mem → Prop} (st : Step_auction I) (hs : LawOk O G b0 L xs) (hL : 5 * t + 5 ≤ L) (hL2 : L ≤ 2560) (hI : I t S) (kk : ∀ S2 : Mem, I (t + 1) S2 → BW O G fdL_law (400 + (t + 1)) (6000 + 6 * (t + 1)) (lawQ G b0) S2 2620 [some (.inl (.ref b0)), some (vr 11 0), some (vr 12 0), some (vr 63 0), some (vi (nI (5 * t))), none, none] []) : BW O G fdL_law (400 + t) (6000 + 6 * t) (lawQ G b0) S 1445 [some (.inl (.ref b0)), some (vr 11 0), some (vr 12 0), some (vr 63 0), some (vi (nI (5 * t))), none, none] [] := by
  have ht : t < 512 := by omega
  refine a_aload_n (pc := 1445) 17 31 rfl rfl ?_
  refine a_aloadR (pc := 1446) 17 32 rfl rfl ?_
  refine a_iload (pc := 1447) 17 33 rfl rfl ?_
  refine a_iconst (pc := 1449) 17 34 (v := 1) rfl (by decide) ?_
  refine a_iadd (pc := 1450) 17 35 rfl ?_
  refine a_sld (pc := 1451) 17 36 (5 * t + 1) hs rfl (nI_1 _) (by omega) (by omega) ?_
  refine a_aloadR (pc := 1452) 17 37 rfl rfl ?_
  refine a_iload (pc := 1453) 17 38 rfl rfl ?_
  refine a_iconst (pc := 1455) 17 39 (v := nI 2) rfl (by decide) ?_
  refine a_iadd (pc := 1456) 17 40 rfl ?_
  refine a_sld (pc := 1457) 17 41 (5 * t + 2) hs rfl (nI_add _ _) (by omega) (by omega) ?_
  refine a_aload_n (pc := 1458) 17 42 rfl rfl ?_
  obtain ⟨fr, lo, kc, ns, rc, S1, ⟨z1, z2, z3, z4⟩, hC, hok, hth, hout, hI2⟩ := st t S (xs (5 * t + 1)) (xs (5 * t + 2)) ht hI
  refine a_callH (pc := 1459) 17 43 hC rfl ch_L_189 rfl ⟨z1, z2, (by rw [cat_sum rfl]; decide), (by show _ ≤ 601024; omega), (by show _ ≤ 7293034; omega)⟩ (fun v9 S9 h9 => ?_)
  obtain ⟨rfl, rfl⟩ := h9
  refine a_istore (pc := 1462) 17 44 (ls2 := [some (.inl (.ref b0)), some (vr 11 0), some (vr 12 0), some (vr 63 0), some (vi (nI (5 * t))), some (vi rc), none]) rfl (by decide) rfl ?_
  refine a_aload_n (pc := 1464) 17 45 rfl rfl ?_
  refine a_aloadR (pc := 1465) 17 46 rfl rfl ?_
  refine a_iload (pc := 1466) 17 47 rfl rfl ?_
  refine a_iconst (pc := 1468) 18 0 (v := 1) rfl (by decide) ?_
  refine a_iadd (pc := 1469) 18 1 rfl ?_
  refine a_sld (pc := 1470) 18 2 (5 * t + 1) hs rfl (nI_1 _) (by omega) (by omega) ?_
  refine a_aloadR (pc := 1471) 18 3 rfl rfl ?_
  refine a_iload (pc := 1472) 18 4 rfl rfl ?_
  refine a_iconst (pc := 1474) 18 5 (v := nI 2) rfl (by decide) ?_
  refine a_iadd (pc := 1475) 18 6 rfl ?_
  refine a_sld (pc := 1476) 18 7 (5 * t + 2) hs rfl (nI_add _ _) (by omega) (by omega) ?_
  refine a_callVi (pc := 1477) 18 8 (c_X12_auction (S := S9) (xs (5 * t + 1)) (xs (5 * t + 2)) hok) rfl cv_L_191 (Nat.le_of_ble_eq_true rfl) rfl rfl rfl ⟨Nat.le_of_ble_eq_true rfl, Nat.le_of_ble_eq_true rfl, (by rw [cat_sum rfl]; exact Nat.le_of_ble_eq_true rfl), (by show _ ≤ 601024; omega), (by show _ ≤ 7293034; omega)⟩ ?_
  refine a_set (fun S2 eS2 => ?_)
  refine a_seti (fun bv ebv => ?_)
  rw [eS2] at hth hout hI2
  rw [ebv] at hout
  refine a_istore (pc := 1480) 18 9 (ls2 := [some (.inl (.ref b0)), some (vr 11 0), some (vr 12 0), some (vr 63 0), some (vi (nI (5 * t))), some (vi rc), some (vi bv)]) rfl (by decide) rfl ?_
  refine a_aload_n (pc := 1482) 18 10 rfl rfl ?_
  refine a_callVi (pc := 1483) 18 11 (c_X12_thrown (S := S2)) rfl cv_L_130 (Nat.le_of_ble_eq_true rfl) rfl rfl rfl ⟨Nat.le_of_ble_eq_true rfl, Nat.le_of_ble_eq_true rfl, (by rw [cat_sum rfl]; exact Nat.le_of_ble_eq_true rfl), (by show _ ≤ 601024; omega), (by show _ ≤ 7293034; omega)⟩ ?_
  refine a_iload (pc := 1486) 18 12 rfl rfl ?_
  refine a_icmp_eq_t (pc := 1488) (tgt := 1493) 18 13 rfl (by decide) hth ?_
  refine a_iload (pc := 1493) 18 16 rfl rfl ?_
  have E9 : BW O G fdL_law (400 + t + kc) (6000 + 6 * t + ns) (lawQ G b0) S2 1510 [some (.inl (.ref b0)), some (vr 11 0), some (vr 12 0), some (vr 63 0), some (vi (nI (5 * t))), some (vi rc), some (vi bv)] [] := by
    refine a_goto (pc := 1510) (tgt := 2620) 18 27 rfl (by decide) ?_
    refine a_widen (k' := 400 + (t + 1)) (n' := 6000 + 6 * (t + 1)) (by omega) (by omega) ?_
    refine a_drop (ls2 := [some (.inl (.ref b0)), some (vr 11 0), some (vr 12 0), some (vr 63 0), some (vi (nI (5 * t))), none, none]) ⟨rfl, rfl, rfl, rfl, rfl, trivial⟩ ?_
    exact kk S2 hI2
  refine a_if_ne (pc := 1495) (tgt := 1510) 18 17 rfl (by decide) (fun c8 => E9) (fun c8 => ?_)
  refine a_aload_n (pc := 1498) 18 18 rfl rfl ?_
  refine a_iconst (pc := 1499) 18 19 (v := 0) rfl (by decide) ?_
  refine a_lald (pc := 1500) 18 20 rfl rfl ?_
  refine a_iload (pc := 1501) 18 21 rfl rfl ?_
  refine a_i2l (pc := 1503) 18 22 rfl ?_
  refine a_lcmp (pc := 1504) 18 23 rfl ?_
  exact a_if_eq_t (pc := 1505) (tgt := 1510) 18 24 rfl (by decide) (lcmp_eq (hout c8)) E9
set_option maxRecDepth 100000 in
theorem case_levy {O : Om} {G : Cx} {b0 L t : Nat} {xs : Nat → Int32} {S : Mem} {I : Nat → Mem → Prop} (st : Step_levy I) (hs : LawOk O G b0 L xs) (hL : 5 * t + 5 ≤ L) (hL2 : L ≤ 2560) (hI : I t S) (kk : ∀ S2 : Mem, I (t + 1) S2 → BW O G fdL_law (400 + (t + 1)) (6000 + 6 * (t + 1)) (lawQ G b0) S2 2620 [some (.inl (.ref b0)), some (vr 11 0), some (vr 12 0), some (vr 63 0), some (vi (nI (5 * t))), none, none] []) : BW O G fdL_law (400 + t) (6000 + 6 * t) (lawQ G b0) S 1513 [some (.inl (.ref b0)), some (vr 11 0), some (vr 12 0), some (vr 63 0), some (vi (nI (5 * t))), none, none] [] := by
  have ht : t < 512 := by omega
  refine a_aload_n (pc := 1513) 18 28 rfl rfl ?_
  refine a_aloadR (pc := 1514) 18 29 rfl rfl ?_
  refine a_iload (pc := 1515) 18 30 rfl rfl ?_
  refine a_iconst (pc := 1517) 18 31 (v := 1) rfl (by decide) ?_
  refine a_iadd (pc := 1518) 18 32 rfl ?_
  refine a_sld (pc := 1519) 18 33 (5 * t + 1) hs rfl (nI_1 _) (by omega) (by omega) ?_
  refine a_aloadR (pc := 1520) 18 34 rfl rfl ?_
  refine a_iload (pc := 1521) 18 35 rfl rfl ?_
  refine a_iconst (pc := 1523) 18 36 (v := nI 2) rfl (by decide) ?_
  refine a_iadd (pc := 1524) 18 37 rfl ?_
  refine a_sld (pc := 1525) 18 38 (5 * t + 2) hs rfl (nI_add _ _) (by omega) (by omega) ?_
  refine a_aload_n (pc := 1526) 18 39 rfl rfl ?_
  obtain ⟨fr, lo, kc, ns, rc, S1, ⟨z1, z2, z3, z4⟩, hC, hok, hth, hout, hI2⟩ := st t S (xs (5 * t + 1)) (xs (5 * t + 2)) ht hI
  refine a_callH (pc := 1527) 18 40 hC rfl ch_L_192 rfl ⟨z1, z2, (by rw [cat_sum rfl]; decide), (by show _ ≤ 601024; omega), (by show _ ≤ 7293034; omega)⟩ (fun v9 S9 h9 => ?_)
  obtain ⟨rfl, rfl⟩ := h9
  refine a_istore (pc := 1530) 18 41 (ls2 := [some (.inl (.ref b0)), some (vr 11 0), some (vr 12 0), some (vr 63 0), some (vi (nI (5 * t))), some (vi rc), none]) rfl (by decide) rfl ?_
  refine a_aload_n (pc := 1532) 18 42 rfl rfl ?_
  refine a_aloadR (pc := 1533) 18 43 rfl rfl ?_
  refine a_iload (pc := 1534) 18 44 rfl rfl ?_
  refine a_iconst (pc := 1536) 18 45 (v := 1) rfl (by decide) ?_
  refine a_iadd (pc := 1537) 18 46 rfl ?_
  refine a_sld (pc := 1538) 18 47 (5 * t + 1) hs rfl (nI_1 _) (by omega) (by omega) ?_
  refine a_aloadR (pc := 1539) 19 0 rfl rfl ?_
  refine a_iload (pc := 1540) 19 1 rfl rfl ?_
  refine a_iconst (pc := 1542) 19 2 (v := nI 2) rfl (by decide) ?_
  refine a_iadd (pc := 1543) 19 3 rfl ?_
  refine a_sld (pc := 1544) 19 4 (5 * t + 2) hs rfl (nI_add _ _) (by omega) (by omega) ?_
  refine a_callVi (pc := 1545) 19 5 (c_X12_levy (S := S9) (xs (5 * t + 1)) (xs (5 * t + 2)) hok) rfl cv_L_194 (Nat.le_of_ble_eq_true rfl) rfl rfl rfl ⟨Nat.le_of_ble_eq_true rfl, Nat.le_of_ble_eq_true rfl, (by rw [cat_sum rfl]; exact Nat.le_of_ble_eq_true rfl), (by show _ ≤ 601024; omega), (by show _ ≤ 7293034; omega)⟩ ?_
  refine a_set (fun S2 eS2 => ?_)
  refine a_seti (fun bv ebv => ?_)
  rw [eS2] at hth hout hI2
  rw [ebv] at hout
  refine a_istore (pc := 1548) 19 6 (ls2 := [some (.inl (.ref b0)), some (vr 11 0), some (vr 12 0), some (vr 63 0), some (vi (nI (5 * t))), some (vi rc), some (vi bv)]) rfl (by decide) rfl ?_
  refine a_aload_n (pc := 1550) 19 7 rfl rfl ?_
  refine a_callVi (pc := 1551) 19 8 (c_X12_thrown (S := S2)) rfl cv_L_130 (Nat.le_of_ble_eq_true rfl) rfl rfl rfl ⟨Nat.le_of_ble_eq_true rfl, Nat.le_of_ble_eq_true rfl, (by rw [cat_sum rfl]; exact Nat.le_of_ble_eq_true rfl), (by show _ ≤ 601024; omega), (by show _ ≤ 7293034; omega)⟩ ?_
  refine a_iload (pc := 1554) 19 9 rfl rfl ?_
  refine a_icmp_eq_t (pc := 1556) (tgt := 1561) 19 10 rfl (by decide) hth ?_
  refine a_iload (pc := 1561) 19 13 rfl rfl ?_
  have E9 : BW O G fdL_law (400 + t + kc) (6000 + 6 * t + ns) (lawQ G b0) S2 1578 [some (.inl (.ref b0)), some (vr 11 0), some (vr 12 0), some (vr 63 0), some (vi (nI (5 * t))), some (vi rc), some (vi bv)] [] := by
    refine a_goto (pc := 1578) (tgt := 2620) 19 24 rfl (by decide) ?_
    refine a_widen (k' := 400 + (t + 1)) (n' := 6000 + 6 * (t + 1)) (by omega) (by omega) ?_
    refine a_drop (ls2 := [some (.inl (.ref b0)), some (vr 11 0), some (vr 12 0), some (vr 63 0), some (vi (nI (5 * t))), none, none]) ⟨rfl, rfl, rfl, rfl, rfl, trivial⟩ ?_
    exact kk S2 hI2
  refine a_if_ne (pc := 1563) (tgt := 1578) 19 14 rfl (by decide) (fun c8 => E9) (fun c8 => ?_)
  refine a_aload_n (pc := 1566) 19 15 rfl rfl ?_
  refine a_iconst (pc := 1567) 19 16 (v := 0) rfl (by decide) ?_
  refine a_lald (pc := 1568) 19 17 rfl rfl ?_
  refine a_iload (pc := 1569) 19 18 rfl rfl ?_
  refine a_i2l (pc := 1571) 19 19 rfl ?_
  refine a_lcmp (pc := 1572) 19 20 rfl ?_
  exact a_if_eq_t (pc := 1573) (tgt := 1578) 19 21 rfl (by decide) (lcmp_eq (hout c8)) E9
set_option maxRecDepth 100000 in
theorem case_spend {O : Om} {G : Cx} {b0 L t : Nat} {xs : Nat → Int32} {S : Mem} {I : Nat → Mem → Prop} (st : Step_spend I) (hs : LawOk O G b0 L xs) (hL : 5 * t + 5 ≤ L) (hL2 : L ≤ 2560) (hI : I t S) (kk : ∀ S2 : Mem, I (t + 1) S2 → BW O G fdL_law (400 + (t + 1)) (6000 + 6 * (t + 1)) (lawQ G b0) S2 2620 [some (.inl (.ref b0)), some (vr 11 0), some (vr 12 0), some (vr 63 0), some (vi (nI (5 * t))), none, none] []) : BW O G fdL_law (400 + t) (6000 + 6 * t) (lawQ G b0) S 1581 [some (.inl (.ref b0)), some (vr 11 0), some (vr 12 0), some (vr 63 0), some (vi (nI (5 * t))), none, none] [] := by
  have ht : t < 512 := by omega
  refine a_aload_n (pc := 1581) 19 25 rfl rfl ?_
  refine a_aloadR (pc := 1582) 19 26 rfl rfl ?_
  refine a_iload (pc := 1583) 19 27 rfl rfl ?_
  refine a_iconst (pc := 1585) 19 28 (v := 1) rfl (by decide) ?_
  refine a_iadd (pc := 1586) 19 29 rfl ?_
  refine a_sld (pc := 1587) 19 30 (5 * t + 1) hs rfl (nI_1 _) (by omega) (by omega) ?_
  refine a_aloadR (pc := 1588) 19 31 rfl rfl ?_
  refine a_iload (pc := 1589) 19 32 rfl rfl ?_
  refine a_iconst (pc := 1591) 19 33 (v := nI 2) rfl (by decide) ?_
  refine a_iadd (pc := 1592) 19 34 rfl ?_
  refine a_sld (pc := 1593) 19 35 (5 * t + 2) hs rfl (nI_add _ _) (by omega) (by omega) ?_
  refine a_aload_n (pc := 1594) 19 36 rfl rfl ?_
  obtain ⟨fr, lo, kc, ns, rc, S1, ⟨z1, z2, z3, z4⟩, hC, hok, hth, hout, hI2⟩ := st t S (xs (5 * t + 1)) (xs (5 * t + 2)) ht hI
  refine a_callH (pc := 1595) 19 37 hC rfl ch_L_195 rfl ⟨z1, z2, (by rw [cat_sum rfl]; decide), (by show _ ≤ 601024; omega), (by show _ ≤ 7293034; omega)⟩ (fun v9 S9 h9 => ?_)
  obtain ⟨rfl, rfl⟩ := h9
  refine a_istore (pc := 1598) 19 38 (ls2 := [some (.inl (.ref b0)), some (vr 11 0), some (vr 12 0), some (vr 63 0), some (vi (nI (5 * t))), some (vi rc), none]) rfl (by decide) rfl ?_
  refine a_aload_n (pc := 1600) 19 39 rfl rfl ?_
  refine a_aloadR (pc := 1601) 19 40 rfl rfl ?_
  refine a_iload (pc := 1602) 19 41 rfl rfl ?_
  refine a_iconst (pc := 1604) 19 42 (v := 1) rfl (by decide) ?_
  refine a_iadd (pc := 1605) 19 43 rfl ?_
  refine a_sld (pc := 1606) 19 44 (5 * t + 1) hs rfl (nI_1 _) (by omega) (by omega) ?_
  refine a_aloadR (pc := 1607) 19 45 rfl rfl ?_
  refine a_iload (pc := 1608) 19 46 rfl rfl ?_
  refine a_iconst (pc := 1610) 19 47 (v := nI 2) rfl (by decide) ?_
  refine a_iadd (pc := 1611) 20 0 rfl ?_
  refine a_sld (pc := 1612) 20 1 (5 * t + 2) hs rfl (nI_add _ _) (by omega) (by omega) ?_
  refine a_callVi (pc := 1613) 20 2 (c_X12_spend (S := S9) (xs (5 * t + 1)) (xs (5 * t + 2)) hok) rfl cv_L_197 (Nat.le_of_ble_eq_true rfl) rfl rfl rfl ⟨Nat.le_of_ble_eq_true rfl, Nat.le_of_ble_eq_true rfl, (by rw [cat_sum rfl]; exact Nat.le_of_ble_eq_true rfl), (by show _ ≤ 601024; omega), (by show _ ≤ 7293034; omega)⟩ ?_
  refine a_set (fun S2 eS2 => ?_)
  refine a_seti (fun bv ebv => ?_)
  rw [eS2] at hth hout hI2
  rw [ebv] at hout
  refine a_istore (pc := 1616) 20 3 (ls2 := [some (.inl (.ref b0)), some (vr 11 0), some (vr 12 0), some (vr 63 0), some (vi (nI (5 * t))), some (vi rc), some (vi bv)]) rfl (by decide) rfl ?_
  refine a_aload_n (pc := 1618) 20 4 rfl rfl ?_
  refine a_callVi (pc := 1619) 20 5 (c_X12_thrown (S := S2)) rfl cv_L_130 (Nat.le_of_ble_eq_true rfl) rfl rfl rfl ⟨Nat.le_of_ble_eq_true rfl, Nat.le_of_ble_eq_true rfl, (by rw [cat_sum rfl]; exact Nat.le_of_ble_eq_true rfl), (by show _ ≤ 601024; omega), (by show _ ≤ 7293034; omega)⟩ ?_
  refine a_iload (pc := 1622) 20 6 rfl rfl ?_
  refine a_icmp_eq_t (pc := 1624) (tgt := 1629) 20 7 rfl (by decide) hth ?_
  refine a_iload (pc := 1629) 20 10 rfl rfl ?_
  have E9 : BW O G fdL_law (400 + t + kc) (6000 + 6 * t + ns) (lawQ G b0) S2 1646 [some (.inl (.ref b0)), some (vr 11 0), some (vr 12 0), some (vr 63 0), some (vi (nI (5 * t))), some (vi rc), some (vi bv)] [] := by
    refine a_goto (pc := 1646) (tgt := 2620) 20 21 rfl (by decide) ?_
    refine a_widen (k' := 400 + (t + 1)) (n' := 6000 + 6 * (t + 1)) (by omega) (by omega) ?_
    refine a_drop (ls2 := [some (.inl (.ref b0)), some (vr 11 0), some (vr 12 0), some (vr 63 0), some (vi (nI (5 * t))), none, none]) ⟨rfl, rfl, rfl, rfl, rfl, trivial⟩ ?_
    exact kk S2 hI2
  refine a_if_ne (pc := 1631) (tgt := 1646) 20 11 rfl (by decide) (fun c8 => E9) (fun c8 => ?_)
  refine a_aload_n (pc := 1634) 20 12 rfl rfl ?_
  refine a_iconst (pc := 1635) 20 13 (v := 0) rfl (by decide) ?_
  refine a_lald (pc := 1636) 20 14 rfl rfl ?_
  refine a_iload (pc := 1637) 20 15 rfl rfl ?_
  refine a_i2l (pc := 1639) 20 16 rfl ?_
  refine a_lcmp (pc := 1640) 20 17 rfl ?_
  exact a_if_eq_t (pc := 1641) (tgt := 1646) 20 18 rfl (by decide) (lcmp_eq (hout c8)) E9
set_option maxRecDepth 100000 in
theorem case_exchange {O : Om} {G : Cx} {b0 L t : Nat} {xs : Nat → Int32} {S : Mem} {I : Nat → Mem → Prop} (st : Step_exchange I) (hs : LawOk O G b0 L xs) (hL : 5 * t + 5 ≤ L) (hL2 : L ≤ 2560) (hI : I t S) (kk : ∀ S2 : Mem, I (t + 1) S2 → BW O G fdL_law (400 + (t + 1)) (6000 + 6 * (t + 1)) (lawQ G b0) S2 2620 [some (.inl (.ref b0)), some (vr 11 0), some (vr 12 0), some (vr 63 0), some (vi (nI (5 * t))), none, none] []) : BW O G fdL_law (400 + t) (6000 + 6 * t) (lawQ G b0) S 1649 [some (.inl (.ref b0)), some (vr 11 0), some (vr 12 0), some (vr 63 0), some (vi (nI (5 * t))), none, none] [] := by
  have ht : t < 512 := by omega
  refine a_aload_n (pc := 1649) 20 22 rfl rfl ?_
  refine a_aloadR (pc := 1650) 20 23 rfl rfl ?_
  refine a_iload (pc := 1651) 20 24 rfl rfl ?_
  refine a_iconst (pc := 1653) 20 25 (v := 1) rfl (by decide) ?_
  refine a_iadd (pc := 1654) 20 26 rfl ?_
  refine a_sld (pc := 1655) 20 27 (5 * t + 1) hs rfl (nI_1 _) (by omega) (by omega) ?_
  refine a_aload_n (pc := 1656) 20 28 rfl rfl ?_
  obtain ⟨fr, lo, kc, ns, rc, S1, ⟨z1, z2, z3, z4⟩, hC, hth, hout, hI2⟩ := st t S (xs (5 * t + 1)) ht hI
  refine a_callH (pc := 1657) 20 29 hC rfl ch_L_198 rfl ⟨z1, z2, (by rw [cat_sum rfl]; decide), (by show _ ≤ 601024; omega), (by show _ ≤ 7293034; omega)⟩ (fun v9 S9 h9 => ?_)
  obtain ⟨rfl, rfl⟩ := h9
  refine a_istore (pc := 1660) 20 30 (ls2 := [some (.inl (.ref b0)), some (vr 11 0), some (vr 12 0), some (vr 63 0), some (vi (nI (5 * t))), some (vi rc), none]) rfl (by decide) rfl ?_
  refine a_aload_n (pc := 1662) 20 31 rfl rfl ?_
  refine a_aloadR (pc := 1663) 20 32 rfl rfl ?_
  refine a_iload (pc := 1664) 20 33 rfl rfl ?_
  refine a_iconst (pc := 1666) 20 34 (v := 1) rfl (by decide) ?_
  refine a_iadd (pc := 1667) 20 35 rfl ?_
  refine a_sld (pc := 1668) 20 36 (5 * t + 1) hs rfl (nI_1 _) (by omega) (by omega) ?_
  refine a_callVi (pc := 1669) 20 37 (c_X12_exchange (S := S9) (xs (5 * t + 1))) rfl cv_L_200 (Nat.le_of_ble_eq_true rfl) rfl rfl rfl ⟨Nat.le_of_ble_eq_true rfl, Nat.le_of_ble_eq_true rfl, (by rw [cat_sum rfl]; exact Nat.le_of_ble_eq_true rfl), (by show _ ≤ 601024; omega), (by show _ ≤ 7293034; omega)⟩ ?_
  refine a_set (fun S2 eS2 => ?_)
  refine a_seti (fun bv ebv => ?_)
  rw [eS2] at hth hout hI2
  rw [ebv] at hout
  refine a_istore (pc := 1672) 20 38 (ls2 := [some (.inl (.ref b0)), some (vr 11 0), some (vr 12 0), some (vr 63 0), some (vi (nI (5 * t))), some (vi rc), some (vi bv)]) rfl (by decide) rfl ?_
  refine a_aload_n (pc := 1674) 20 39 rfl rfl ?_
  refine a_callVi (pc := 1675) 20 40 (c_X12_thrown (S := S2)) rfl cv_L_130 (Nat.le_of_ble_eq_true rfl) rfl rfl rfl ⟨Nat.le_of_ble_eq_true rfl, Nat.le_of_ble_eq_true rfl, (by rw [cat_sum rfl]; exact Nat.le_of_ble_eq_true rfl), (by show _ ≤ 601024; omega), (by show _ ≤ 7293034; omega)⟩ ?_
  refine a_iload (pc := 1678) 20 41 rfl rfl ?_
  refine a_icmp_eq_t (pc := 1680) (tgt := 1685) 20 42 rfl (by decide) hth ?_
  refine a_iload (pc := 1685) 20 45 rfl rfl ?_
  have E9 : BW O G fdL_law (400 + t + kc) (6000 + 6 * t + ns) (lawQ G b0) S2 1702 [some (.inl (.ref b0)), some (vr 11 0), some (vr 12 0), some (vr 63 0), some (vi (nI (5 * t))), some (vi rc), some (vi bv)] [] := by
    refine a_goto (pc := 1702) (tgt := 2620) 21 8 rfl (by decide) ?_
    refine a_widen (k' := 400 + (t + 1)) (n' := 6000 + 6 * (t + 1)) (by omega) (by omega) ?_
    refine a_drop (ls2 := [some (.inl (.ref b0)), some (vr 11 0), some (vr 12 0), some (vr 63 0), some (vi (nI (5 * t))), none, none]) ⟨rfl, rfl, rfl, rfl, rfl, trivial⟩ ?_
    exact kk S2 hI2
  refine a_if_ne (pc := 1687) (tgt := 1702) 20 46 rfl (by decide) (fun c8 => E9) (fun c8 => ?_)
  refine a_aload_n (pc := 1690) 20 47 rfl rfl ?_
  refine a_iconst (pc := 1691) 21 0 (v := 0) rfl (by decide) ?_
  refine a_lald (pc := 1692) 21 1 rfl rfl ?_
  refine a_iload (pc := 1693) 21 2 rfl rfl ?_
  refine a_i2l (pc := 1695) 21 3 rfl ?_
  refine a_lcmp (pc := 1696) 21 4 rfl ?_
  exact a_if_eq_t (pc := 1697) (tgt := 1702) 21 5 rfl (by decide) (lcmp_eq (hout c8)) E9
set_option maxRecDepth 100000 in
theorem case_abroad {O : Om} {G : Cx} {b0 L t : Nat} {xs : Nat → Int32} {S : Mem} {I : Nat → Mem → Prop} (st : Step_abroad I) (hs : LawOk O G b0 L xs) (hL : 5 * t + 5 ≤ L) (hL2 : L ≤ 2560) (hI : I t S) (kk : ∀ S2 : Mem, I (t + 1) S2 → BW O G fdL_law (400 + (t + 1)) (6000 + 6 * (t + 1)) (lawQ G b0) S2 2620 [some (.inl (.ref b0)), some (vr 11 0), some (vr 12 0), some (vr 63 0), some (vi (nI (5 * t))), none, none] []) : BW O G fdL_law (400 + t) (6000 + 6 * t) (lawQ G b0) S 1705 [some (.inl (.ref b0)), some (vr 11 0), some (vr 12 0), some (vr 63 0), some (vi (nI (5 * t))), none, none] [] := by
  have ht : t < 512 := by omega
  refine a_aload_n (pc := 1705) 21 9 rfl rfl ?_
  refine a_aloadR (pc := 1706) 21 10 rfl rfl ?_
  refine a_iload (pc := 1707) 21 11 rfl rfl ?_
  refine a_iconst (pc := 1709) 21 12 (v := 1) rfl (by decide) ?_
  refine a_iadd (pc := 1710) 21 13 rfl ?_
  refine a_sld (pc := 1711) 21 14 (5 * t + 1) hs rfl (nI_1 _) (by omega) (by omega) ?_
  refine a_aloadR (pc := 1712) 21 15 rfl rfl ?_
  refine a_iload (pc := 1713) 21 16 rfl rfl ?_
  refine a_iconst (pc := 1715) 21 17 (v := nI 2) rfl (by decide) ?_
  refine a_iadd (pc := 1716) 21 18 rfl ?_
  refine a_sld (pc := 1717) 21 19 (5 * t + 2) hs rfl (nI_add _ _) (by omega) (by omega) ?_
  refine a_aloadR (pc := 1718) 21 20 rfl rfl ?_
  refine a_iload (pc := 1719) 21 21 rfl rfl ?_
  refine a_iconst (pc := 1721) 21 22 (v := nI 3) rfl (by decide) ?_
  refine a_iadd (pc := 1722) 21 23 rfl ?_
  refine a_sld (pc := 1723) 21 24 (5 * t + 3) hs rfl (nI_add _ _) (by omega) (by omega) ?_
  have J1732 : ∀ bb1 : Int32, (if xs (5 * t + 3) = 0 then 0 else 1) = bb1 → BW O G fdL_law (400 + t) (6000 + 6 * t) (lawQ G b0) S 1732 [some (.inl (.ref b0)), some (vr 11 0), some (vr 12 0), some (vr 63 0), some (vi (nI (5 * t))), none, none] [vi bb1, vi (xs (5 * t + 2)), vi (xs (5 * t + 1)), vr 11 0] := ?_
  · refine a_if_eq (pc := 1724) (tgt := 1731) 21 25 rfl (by decide) (fun c9 => ?_) (fun c9 => ?_)
    · refine a_iconst (pc := 1731) 21 28 (v := 0) rfl (by decide) ?_
      exact J1732 _ (if_pos c9)
    · refine a_iconst (pc := 1727) 21 26 (v := 1) rfl (by decide) ?_
      refine a_goto (pc := 1728) (tgt := 1732) 21 27 rfl (by decide) ?_
      exact J1732 _ (if_neg c9)
  intro bb1 ebb1
  refine a_aload_n (pc := 1732) 21 29 rfl rfl ?_
  obtain ⟨fr, lo, kc, ns, rc, S1, ⟨z1, z2, z3, z4⟩, hC, hok, hth, hout, hI2⟩ := st t S (xs (5 * t + 1)) (xs (5 * t + 2)) bb1 ht hI (by rw [← ebb1]; split; exact Or.inl rfl; exact Or.inr rfl)
  refine a_callH (pc := 1733) 21 30 hC rfl ch_L_201 rfl ⟨z1, z2, (by rw [cat_sum rfl]; decide), (by show _ ≤ 601024; omega), (by show _ ≤ 7293034; omega)⟩ (fun v9 S9 h9 => ?_)
  obtain ⟨rfl, rfl⟩ := h9
  refine a_istore (pc := 1736) 21 31 (ls2 := [some (.inl (.ref b0)), some (vr 11 0), some (vr 12 0), some (vr 63 0), some (vi (nI (5 * t))), some (vi rc), none]) rfl (by decide) rfl ?_
  refine a_aload_n (pc := 1738) 21 32 rfl rfl ?_
  refine a_aloadR (pc := 1739) 21 33 rfl rfl ?_
  refine a_iload (pc := 1740) 21 34 rfl rfl ?_
  refine a_iconst (pc := 1742) 21 35 (v := 1) rfl (by decide) ?_
  refine a_iadd (pc := 1743) 21 36 rfl ?_
  refine a_sld (pc := 1744) 21 37 (5 * t + 1) hs rfl (nI_1 _) (by omega) (by omega) ?_
  refine a_aloadR (pc := 1745) 21 38 rfl rfl ?_
  refine a_iload (pc := 1746) 21 39 rfl rfl ?_
  refine a_iconst (pc := 1748) 21 40 (v := nI 2) rfl (by decide) ?_
  refine a_iadd (pc := 1749) 21 41 rfl ?_
  refine a_sld (pc := 1750) 21 42 (5 * t + 2) hs rfl (nI_add _ _) (by omega) (by omega) ?_
  refine a_aloadR (pc := 1751) 21 43 rfl rfl ?_
  refine a_iload (pc := 1752) 21 44 rfl rfl ?_
  refine a_iconst (pc := 1754) 21 45 (v := nI 3) rfl (by decide) ?_
  refine a_iadd (pc := 1755) 21 46 rfl ?_
  refine a_sld (pc := 1756) 21 47 (5 * t + 3) hs rfl (nI_add _ _) (by omega) (by omega) ?_
  have J1765 : ∀ bb2 : Int32, (if xs (5 * t + 3) = 0 then 0 else 1) = bb2 → BW O G fdL_law (400 + t + kc) (6000 + 6 * t + ns) (lawQ G b0) S9 1765 [some (.inl (.ref b0)), some (vr 11 0), some (vr 12 0), some (vr 63 0), some (vi (nI (5 * t))), some (vi rc), none] [vi bb2, vi (xs (5 * t + 2)), vi (xs (5 * t + 1)), vr 12 0] := ?_
  · refine a_if_eq (pc := 1757) (tgt := 1764) 22 0 rfl (by decide) (fun c9 => ?_) (fun c9 => ?_)
    · refine a_iconst (pc := 1764) 22 3 (v := 0) rfl (by decide) ?_
      exact J1765 _ (if_pos c9)
    · refine a_iconst (pc := 1760) 22 1 (v := 1) rfl (by decide) ?_
      refine a_goto (pc := 1761) (tgt := 1765) 22 2 rfl (by decide) ?_
      exact J1765 _ (if_neg c9)
  intro bb2 ebb2
  have eb : bb1 = bb2 := ebb1.symm.trans ebb2
  subst eb
  refine a_callVi (pc := 1765) 22 4 (c_X12_abroad (S := S9) (xs (5 * t + 1)) (xs (5 * t + 2)) bb1 (by rw [← ebb1]; split; exact Or.inl rfl; exact Or.inr rfl) hok) rfl cv_L_204 (Nat.le_of_ble_eq_true rfl) rfl rfl rfl ⟨Nat.le_of_ble_eq_true rfl, Nat.le_of_ble_eq_true rfl, (by rw [cat_sum rfl]; exact Nat.le_of_ble_eq_true rfl), (by show _ ≤ 601024; omega), (by show _ ≤ 7293034; omega)⟩ ?_
  refine a_set (fun S2 eS2 => ?_)
  refine a_seti (fun bv ebv => ?_)
  rw [eS2] at hth hout hI2
  rw [ebv] at hout
  refine a_istore (pc := 1768) 22 5 (ls2 := [some (.inl (.ref b0)), some (vr 11 0), some (vr 12 0), some (vr 63 0), some (vi (nI (5 * t))), some (vi rc), some (vi bv)]) rfl (by decide) rfl ?_
  refine a_aload_n (pc := 1770) 22 6 rfl rfl ?_
  refine a_callVi (pc := 1771) 22 7 (c_X12_thrown (S := S2)) rfl cv_L_130 (Nat.le_of_ble_eq_true rfl) rfl rfl rfl ⟨Nat.le_of_ble_eq_true rfl, Nat.le_of_ble_eq_true rfl, (by rw [cat_sum rfl]; exact Nat.le_of_ble_eq_true rfl), (by show _ ≤ 601024; omega), (by show _ ≤ 7293034; omega)⟩ ?_
  refine a_iload (pc := 1774) 22 8 rfl rfl ?_
  refine a_icmp_eq_t (pc := 1776) (tgt := 1781) 22 9 rfl (by decide) hth ?_
  refine a_iload (pc := 1781) 22 12 rfl rfl ?_
  have E9 : BW O G fdL_law (400 + t + kc) (6000 + 6 * t + ns) (lawQ G b0) S2 1798 [some (.inl (.ref b0)), some (vr 11 0), some (vr 12 0), some (vr 63 0), some (vi (nI (5 * t))), some (vi rc), some (vi bv)] [] := by
    refine a_goto (pc := 1798) (tgt := 2620) 22 23 rfl (by decide) ?_
    refine a_widen (k' := 400 + (t + 1)) (n' := 6000 + 6 * (t + 1)) (by omega) (by omega) ?_
    refine a_drop (ls2 := [some (.inl (.ref b0)), some (vr 11 0), some (vr 12 0), some (vr 63 0), some (vi (nI (5 * t))), none, none]) ⟨rfl, rfl, rfl, rfl, rfl, trivial⟩ ?_
    exact kk S2 hI2
  refine a_if_ne (pc := 1783) (tgt := 1798) 22 13 rfl (by decide) (fun c8 => E9) (fun c8 => ?_)
  refine a_aload_n (pc := 1786) 22 14 rfl rfl ?_
  refine a_iconst (pc := 1787) 22 15 (v := 0) rfl (by decide) ?_
  refine a_lald (pc := 1788) 22 16 rfl rfl ?_
  refine a_iload (pc := 1789) 22 17 rfl rfl ?_
  refine a_i2l (pc := 1791) 22 18 rfl ?_
  refine a_lcmp (pc := 1792) 22 19 rfl ?_
  exact a_if_eq_t (pc := 1793) (tgt := 1798) 22 20 rfl (by decide) (lcmp_eq (hout c8)) E9
set_option maxRecDepth 100000 in
theorem case_hire {O : Om} {G : Cx} {b0 L t : Nat} {xs : Nat → Int32} {S : Mem} {I : Nat → Mem → Prop} (st : Step_hire I) (hs : LawOk O G b0 L xs) (hL : 5 * t + 5 ≤ L) (hL2 : L ≤ 2560) (hI : I t S) (kk : ∀ S2 : Mem, I (t + 1) S2 → BW O G fdL_law (400 + (t + 1)) (6000 + 6 * (t + 1)) (lawQ G b0) S2 2620 [some (.inl (.ref b0)), some (vr 11 0), some (vr 12 0), some (vr 63 0), some (vi (nI (5 * t))), none, none] []) : BW O G fdL_law (400 + t) (6000 + 6 * t) (lawQ G b0) S 1801 [some (.inl (.ref b0)), some (vr 11 0), some (vr 12 0), some (vr 63 0), some (vi (nI (5 * t))), none, none] [] := by
  have ht : t < 512 := by omega
  refine a_aload_n (pc := 1801) 22 24 rfl rfl ?_
  refine a_aloadR (pc := 1802) 22 25 rfl rfl ?_
  refine a_iload (pc := 1803) 22 26 rfl rfl ?_
  refine a_iconst (pc := 1805) 22 27 (v := 1) rfl (by decide) ?_
  refine a_iadd (pc := 1806) 22 28 rfl ?_
  refine a_sld (pc := 1807) 22 29 (5 * t + 1) hs rfl (nI_1 _) (by omega) (by omega) ?_
  refine a_aloadR (pc := 1808) 22 30 rfl rfl ?_
  refine a_iload (pc := 1809) 22 31 rfl rfl ?_
  refine a_iconst (pc := 1811) 22 32 (v := nI 2) rfl (by decide) ?_
  refine a_iadd (pc := 1812) 22 33 rfl ?_
  refine a_sld (pc := 1813) 22 34 (5 * t + 2) hs rfl (nI_add _ _) (by omega) (by omega) ?_
  refine a_aloadR (pc := 1814) 22 35 rfl rfl ?_
  refine a_iload (pc := 1815) 22 36 rfl rfl ?_
  refine a_iconst (pc := 1817) 22 37 (v := nI 3) rfl (by decide) ?_
  refine a_iadd (pc := 1818) 22 38 rfl ?_
  refine a_sld (pc := 1819) 22 39 (5 * t + 3) hs rfl (nI_add _ _) (by omega) (by omega) ?_
  refine a_aload_n (pc := 1820) 22 40 rfl rfl ?_
  obtain ⟨fr, lo, kc, ns, rc, S1, ⟨z1, z2, z3, z4⟩, hC, hok, hth, hout, hI2⟩ := st t S (xs (5 * t + 1)) (xs (5 * t + 2)) (xs (5 * t + 3)) ht hI
  refine a_callH (pc := 1821) 22 41 hC rfl ch_L_205 rfl ⟨z1, z2, (by rw [cat_sum rfl]; decide), (by show _ ≤ 601024; omega), (by show _ ≤ 7293034; omega)⟩ (fun v9 S9 h9 => ?_)
  obtain ⟨rfl, rfl⟩ := h9
  refine a_istore (pc := 1824) 22 42 (ls2 := [some (.inl (.ref b0)), some (vr 11 0), some (vr 12 0), some (vr 63 0), some (vi (nI (5 * t))), some (vi rc), none]) rfl (by decide) rfl ?_
  refine a_aload_n (pc := 1826) 22 43 rfl rfl ?_
  refine a_aloadR (pc := 1827) 22 44 rfl rfl ?_
  refine a_iload (pc := 1828) 22 45 rfl rfl ?_
  refine a_iconst (pc := 1830) 22 46 (v := 1) rfl (by decide) ?_
  refine a_iadd (pc := 1831) 22 47 rfl ?_
  refine a_sld (pc := 1832) 23 0 (5 * t + 1) hs rfl (nI_1 _) (by omega) (by omega) ?_
  refine a_aloadR (pc := 1833) 23 1 rfl rfl ?_
  refine a_iload (pc := 1834) 23 2 rfl rfl ?_
  refine a_iconst (pc := 1836) 23 3 (v := nI 2) rfl (by decide) ?_
  refine a_iadd (pc := 1837) 23 4 rfl ?_
  refine a_sld (pc := 1838) 23 5 (5 * t + 2) hs rfl (nI_add _ _) (by omega) (by omega) ?_
  refine a_aloadR (pc := 1839) 23 6 rfl rfl ?_
  refine a_iload (pc := 1840) 23 7 rfl rfl ?_
  refine a_iconst (pc := 1842) 23 8 (v := nI 3) rfl (by decide) ?_
  refine a_iadd (pc := 1843) 23 9 rfl ?_
  refine a_sld (pc := 1844) 23 10 (5 * t + 3) hs rfl (nI_add _ _) (by omega) (by omega) ?_
  refine a_callVi (pc := 1845) 23 11 (c_X12_hire (S := S9) (xs (5 * t + 1)) (xs (5 * t + 2)) (xs (5 * t + 3)) hok) rfl cv_L_207 (Nat.le_of_ble_eq_true rfl) rfl rfl rfl ⟨Nat.le_of_ble_eq_true rfl, Nat.le_of_ble_eq_true rfl, (by rw [cat_sum rfl]; exact Nat.le_of_ble_eq_true rfl), (by show _ ≤ 601024; omega), (by show _ ≤ 7293034; omega)⟩ ?_
  refine a_set (fun S2 eS2 => ?_)
  refine a_seti (fun bv ebv => ?_)
  rw [eS2] at hth hout hI2
  rw [ebv] at hout
  refine a_istore (pc := 1848) 23 12 (ls2 := [some (.inl (.ref b0)), some (vr 11 0), some (vr 12 0), some (vr 63 0), some (vi (nI (5 * t))), some (vi rc), some (vi bv)]) rfl (by decide) rfl ?_
  refine a_aload_n (pc := 1850) 23 13 rfl rfl ?_
  refine a_callVi (pc := 1851) 23 14 (c_X12_thrown (S := S2)) rfl cv_L_130 (Nat.le_of_ble_eq_true rfl) rfl rfl rfl ⟨Nat.le_of_ble_eq_true rfl, Nat.le_of_ble_eq_true rfl, (by rw [cat_sum rfl]; exact Nat.le_of_ble_eq_true rfl), (by show _ ≤ 601024; omega), (by show _ ≤ 7293034; omega)⟩ ?_
  refine a_iload (pc := 1854) 23 15 rfl rfl ?_
  refine a_icmp_eq_t (pc := 1856) (tgt := 1861) 23 16 rfl (by decide) hth ?_
  refine a_iload (pc := 1861) 23 19 rfl rfl ?_
  have E9 : BW O G fdL_law (400 + t + kc) (6000 + 6 * t + ns) (lawQ G b0) S2 1878 [some (.inl (.ref b0)), some (vr 11 0), some (vr 12 0), some (vr 63 0), some (vi (nI (5 * t))), some (vi rc), some (vi bv)] [] := by
    refine a_goto (pc := 1878) (tgt := 2620) 23 30 rfl (by decide) ?_
    refine a_widen (k' := 400 + (t + 1)) (n' := 6000 + 6 * (t + 1)) (by omega) (by omega) ?_
    refine a_drop (ls2 := [some (.inl (.ref b0)), some (vr 11 0), some (vr 12 0), some (vr 63 0), some (vi (nI (5 * t))), none, none]) ⟨rfl, rfl, rfl, rfl, rfl, trivial⟩ ?_
    exact kk S2 hI2
  refine a_if_ne (pc := 1863) (tgt := 1878) 23 20 rfl (by decide) (fun c8 => E9) (fun c8 => ?_)
  refine a_aload_n (pc := 1866) 23 21 rfl rfl ?_
  refine a_iconst (pc := 1867) 23 22 (v := 0) rfl (by decide) ?_
  refine a_lald (pc := 1868) 23 23 rfl rfl ?_
  refine a_iload (pc := 1869) 23 24 rfl rfl ?_
  refine a_i2l (pc := 1871) 23 25 rfl ?_
  refine a_lcmp (pc := 1872) 23 26 rfl ?_
  exact a_if_eq_t (pc := 1873) (tgt := 1878) 23 27 rfl (by decide) (lcmp_eq (hout c8)) E9
set_option maxRecDepth 100000 in
theorem case_buy {O : Om} {G : Cx} {b0 L t : Nat} {xs : Nat → Int32} {S : Mem} {I : Nat → Mem → Prop} (st : Step_buy I) (hs : LawOk O G b0 L xs) (hL : 5 * t + 5 ≤ L) (hL2 : L ≤ 2560) (hI : I t S) (kk : ∀ S2 : Mem, I (t + 1) S2 → BW O G fdL_law (400 + (t + 1)) (6000 + 6 * (t + 1)) (lawQ G b0) S2 2620 [some (.inl (.ref b0)), some (vr 11 0), some (vr 12 0), some (vr 63 0), some (vi (nI (5 * t))), none, none] []) : BW O G fdL_law (400 + t) (6000 + 6 * t) (lawQ G b0) S 1881 [some (.inl (.ref b0)), some (vr 11 0), some (vr 12 0), some (vr 63 0), some (vi (nI (5 * t))), none, none] [] := by
  have ht : t < 512 := by omega
  refine a_aload_n (pc := 1881) 23 31 rfl rfl ?_
  refine a_aloadR (pc := 1882) 23 32 rfl rfl ?_
  refine a_iload (pc := 1883) 23 33 rfl rfl ?_
  refine a_iconst (pc := 1885) 23 34 (v := 1) rfl (by decide) ?_
  refine a_iadd (pc := 1886) 23 35 rfl ?_
  refine a_sld (pc := 1887) 23 36 (5 * t + 1) hs rfl (nI_1 _) (by omega) (by omega) ?_
  refine a_aloadR (pc := 1888) 23 37 rfl rfl ?_
  refine a_iload (pc := 1889) 23 38 rfl rfl ?_
  refine a_iconst (pc := 1891) 23 39 (v := nI 2) rfl (by decide) ?_
  refine a_iadd (pc := 1892) 23 40 rfl ?_
  refine a_sld (pc := 1893) 23 41 (5 * t + 2) hs rfl (nI_add _ _) (by omega) (by omega) ?_
  refine a_aloadR (pc := 1894) 23 42 rfl rfl ?_
  refine a_iload (pc := 1895) 23 43 rfl rfl ?_
  refine a_iconst (pc := 1897) 23 44 (v := nI 3) rfl (by decide) ?_
  refine a_iadd (pc := 1898) 23 45 rfl ?_
  refine a_sld (pc := 1899) 23 46 (5 * t + 3) hs rfl (nI_add _ _) (by omega) (by omega) ?_
  refine a_aload_n (pc := 1900) 23 47 rfl rfl ?_
  obtain ⟨fr, lo, kc, ns, rc, S1, ⟨z1, z2, z3, z4⟩, hC, hok, hth, hout, hI2⟩ := st t S (xs (5 * t + 1)) (xs (5 * t + 2)) (xs (5 * t + 3)) ht hI
  refine a_callH (pc := 1901) 24 0 hC rfl ch_L_208 rfl ⟨z1, z2, (by rw [cat_sum rfl]; decide), (by show _ ≤ 601024; omega), (by show _ ≤ 7293034; omega)⟩ (fun v9 S9 h9 => ?_)
  obtain ⟨rfl, rfl⟩ := h9
  refine a_istore (pc := 1904) 24 1 (ls2 := [some (.inl (.ref b0)), some (vr 11 0), some (vr 12 0), some (vr 63 0), some (vi (nI (5 * t))), some (vi rc), none]) rfl (by decide) rfl ?_
  refine a_aload_n (pc := 1906) 24 2 rfl rfl ?_
  refine a_aloadR (pc := 1907) 24 3 rfl rfl ?_
  refine a_iload (pc := 1908) 24 4 rfl rfl ?_
  refine a_iconst (pc := 1910) 24 5 (v := 1) rfl (by decide) ?_
  refine a_iadd (pc := 1911) 24 6 rfl ?_
  refine a_sld (pc := 1912) 24 7 (5 * t + 1) hs rfl (nI_1 _) (by omega) (by omega) ?_
  refine a_aloadR (pc := 1913) 24 8 rfl rfl ?_
  refine a_iload (pc := 1914) 24 9 rfl rfl ?_
  refine a_iconst (pc := 1916) 24 10 (v := nI 2) rfl (by decide) ?_
  refine a_iadd (pc := 1917) 24 11 rfl ?_
  refine a_sld (pc := 1918) 24 12 (5 * t + 2) hs rfl (nI_add _ _) (by omega) (by omega) ?_
  refine a_aloadR (pc := 1919) 24 13 rfl rfl ?_
  refine a_iload (pc := 1920) 24 14 rfl rfl ?_
  refine a_iconst (pc := 1922) 24 15 (v := nI 3) rfl (by decide) ?_
  refine a_iadd (pc := 1923) 24 16 rfl ?_
  refine a_sld (pc := 1924) 24 17 (5 * t + 3) hs rfl (nI_add _ _) (by omega) (by omega) ?_
  refine a_callVi (pc := 1925) 24 18 (c_X12_buy (S := S9) (xs (5 * t + 1)) (xs (5 * t + 2)) (xs (5 * t + 3)) hok) rfl cv_L_210 (Nat.le_of_ble_eq_true rfl) rfl rfl rfl ⟨Nat.le_of_ble_eq_true rfl, Nat.le_of_ble_eq_true rfl, (by rw [cat_sum rfl]; exact Nat.le_of_ble_eq_true rfl), (by show _ ≤ 601024; omega), (by show _ ≤ 7293034; omega)⟩ ?_
  refine a_set (fun S2 eS2 => ?_)
  refine a_seti (fun bv ebv => ?_)
  rw [eS2] at hth hout hI2
  rw [ebv] at hout
  refine a_istore (pc := 1928) 24 19 (ls2 := [some (.inl (.ref b0)), some (vr 11 0), some (vr 12 0), some (vr 63 0), some (vi (nI (5 * t))), some (vi rc), some (vi bv)]) rfl (by decide) rfl ?_
  refine a_aload_n (pc := 1930) 24 20 rfl rfl ?_
  refine a_callVi (pc := 1931) 24 21 (c_X12_thrown (S := S2)) rfl cv_L_130 (Nat.le_of_ble_eq_true rfl) rfl rfl rfl ⟨Nat.le_of_ble_eq_true rfl, Nat.le_of_ble_eq_true rfl, (by rw [cat_sum rfl]; exact Nat.le_of_ble_eq_true rfl), (by show _ ≤ 601024; omega), (by show _ ≤ 7293034; omega)⟩ ?_
  refine a_iload (pc := 1934) 24 22 rfl rfl ?_
  refine a_icmp_eq_t (pc := 1936) (tgt := 1941) 24 23 rfl (by decide) hth ?_
  refine a_iload (pc := 1941) 24 26 rfl rfl ?_
  have E9 : BW O G fdL_law (400 + t + kc) (6000 + 6 * t + ns) (lawQ G b0) S2 1958 [some (.inl (.ref b0)), some (vr 11 0), some (vr 12 0), some (vr 63 0), some (vi (nI (5 * t))), some (vi rc), some (vi bv)] [] := by
    refine a_goto (pc := 1958) (tgt := 2620) 24 37 rfl (by decide) ?_
    refine a_widen (k' := 400 + (t + 1)) (n' := 6000 + 6 * (t + 1)) (by omega) (by omega) ?_
    refine a_drop (ls2 := [some (.inl (.ref b0)), some (vr 11 0), some (vr 12 0), some (vr 63 0), some (vi (nI (5 * t))), none, none]) ⟨rfl, rfl, rfl, rfl, rfl, trivial⟩ ?_
    exact kk S2 hI2
  refine a_if_ne (pc := 1943) (tgt := 1958) 24 27 rfl (by decide) (fun c8 => E9) (fun c8 => ?_)
  refine a_aload_n (pc := 1946) 24 28 rfl rfl ?_
  refine a_iconst (pc := 1947) 24 29 (v := 0) rfl (by decide) ?_
  refine a_lald (pc := 1948) 24 30 rfl rfl ?_
  refine a_iload (pc := 1949) 24 31 rfl rfl ?_
  refine a_i2l (pc := 1951) 24 32 rfl ?_
  refine a_lcmp (pc := 1952) 24 33 rfl ?_
  exact a_if_eq_t (pc := 1953) (tgt := 1958) 24 34 rfl (by decide) (lcmp_eq (hout c8)) E9
set_option maxRecDepth 100000 in
theorem case_day {O : Om} {G : Cx} {b0 L t : Nat} {xs : Nat → Int32} {S : Mem} {I : Nat → Mem → Prop} (st : Step_day I) (hs : LawOk O G b0 L xs) (hL : 5 * t + 5 ≤ L) (hL2 : L ≤ 2560) (hI : I t S) (kk : ∀ S2 : Mem, I (t + 1) S2 → BW O G fdL_law (400 + (t + 1)) (6000 + 6 * (t + 1)) (lawQ G b0) S2 2620 [some (.inl (.ref b0)), some (vr 11 0), some (vr 12 0), some (vr 63 0), some (vi (nI (5 * t))), none, none] []) : BW O G fdL_law (400 + t) (6000 + 6 * t) (lawQ G b0) S 1961 [some (.inl (.ref b0)), some (vr 11 0), some (vr 12 0), some (vr 63 0), some (vi (nI (5 * t))), none, none] [] := by
  have ht : t < 512 := by omega
  refine a_aload_n (pc := 1961) 24 38 rfl rfl ?_
  refine a_aloadR (pc := 1962) 24 39 rfl rfl ?_
  refine a_iload (pc := 1963) 24 40 rfl rfl ?_
  refine a_iconst (pc := 1965) 24 41 (v := 1) rfl (by decide) ?_
  refine a_iadd (pc := 1966) 24 42 rfl ?_
  refine a_sld (pc := 1967) 24 43 (5 * t + 1) hs rfl (nI_1 _) (by omega) (by omega) ?_
  refine a_aload_n (pc := 1968) 24 44 rfl rfl ?_
  obtain ⟨fr, lo, kc, ns, rc, S1, ⟨z1, z2, z3, z4⟩, hC, hok, hth, hout, hI2⟩ := st t S (xs (5 * t + 1)) ht hI
  refine a_callH (pc := 1969) 24 45 hC rfl ch_L_211 rfl ⟨z1, z2, (by rw [cat_sum rfl]; decide), (by show _ ≤ 601024; omega), (by show _ ≤ 7293034; omega)⟩ (fun v9 S9 h9 => ?_)
  obtain ⟨rfl, rfl⟩ := h9
  refine a_istore (pc := 1972) 24 46 (ls2 := [some (.inl (.ref b0)), some (vr 11 0), some (vr 12 0), some (vr 63 0), some (vi (nI (5 * t))), some (vi rc), none]) rfl (by decide) rfl ?_
  refine a_aload_n (pc := 1974) 24 47 rfl rfl ?_
  refine a_aloadR (pc := 1975) 25 0 rfl rfl ?_
  refine a_iload (pc := 1976) 25 1 rfl rfl ?_
  refine a_iconst (pc := 1978) 25 2 (v := 1) rfl (by decide) ?_
  refine a_iadd (pc := 1979) 25 3 rfl ?_
  refine a_sld (pc := 1980) 25 4 (5 * t + 1) hs rfl (nI_1 _) (by omega) (by omega) ?_
  refine a_callVi (pc := 1981) 25 5 (c_X12_day (S := S9) (xs (5 * t + 1)) hok) rfl cv_L_213 (Nat.le_of_ble_eq_true rfl) rfl rfl rfl ⟨Nat.le_of_ble_eq_true rfl, Nat.le_of_ble_eq_true rfl, (by rw [cat_sum rfl]; exact Nat.le_of_ble_eq_true rfl), (by show _ ≤ 601024; omega), (by show _ ≤ 7293034; omega)⟩ ?_
  refine a_set (fun S2 eS2 => ?_)
  refine a_seti (fun bv ebv => ?_)
  rw [eS2] at hth hout hI2
  rw [ebv] at hout
  refine a_istore (pc := 1984) 25 6 (ls2 := [some (.inl (.ref b0)), some (vr 11 0), some (vr 12 0), some (vr 63 0), some (vi (nI (5 * t))), some (vi rc), some (vi bv)]) rfl (by decide) rfl ?_
  refine a_aload_n (pc := 1986) 25 7 rfl rfl ?_
  refine a_callVi (pc := 1987) 25 8 (c_X12_thrown (S := S2)) rfl cv_L_130 (Nat.le_of_ble_eq_true rfl) rfl rfl rfl ⟨Nat.le_of_ble_eq_true rfl, Nat.le_of_ble_eq_true rfl, (by rw [cat_sum rfl]; exact Nat.le_of_ble_eq_true rfl), (by show _ ≤ 601024; omega), (by show _ ≤ 7293034; omega)⟩ ?_
  refine a_iload (pc := 1990) 25 9 rfl rfl ?_
  refine a_icmp_eq_t (pc := 1992) (tgt := 1997) 25 10 rfl (by decide) hth ?_
  refine a_iload (pc := 1997) 25 13 rfl rfl ?_
  have E9 : BW O G fdL_law (400 + t + kc) (6000 + 6 * t + ns) (lawQ G b0) S2 2014 [some (.inl (.ref b0)), some (vr 11 0), some (vr 12 0), some (vr 63 0), some (vi (nI (5 * t))), some (vi rc), some (vi bv)] [] := by
    refine a_goto (pc := 2014) (tgt := 2620) 25 24 rfl (by decide) ?_
    refine a_widen (k' := 400 + (t + 1)) (n' := 6000 + 6 * (t + 1)) (by omega) (by omega) ?_
    refine a_drop (ls2 := [some (.inl (.ref b0)), some (vr 11 0), some (vr 12 0), some (vr 63 0), some (vi (nI (5 * t))), none, none]) ⟨rfl, rfl, rfl, rfl, rfl, trivial⟩ ?_
    exact kk S2 hI2
  refine a_if_ne (pc := 1999) (tgt := 2014) 25 14 rfl (by decide) (fun c8 => E9) (fun c8 => ?_)
  refine a_aload_n (pc := 2002) 25 15 rfl rfl ?_
  refine a_iconst (pc := 2003) 25 16 (v := 0) rfl (by decide) ?_
  refine a_lald (pc := 2004) 25 17 rfl rfl ?_
  refine a_iload (pc := 2005) 25 18 rfl rfl ?_
  refine a_i2l (pc := 2007) 25 19 rfl ?_
  refine a_lcmp (pc := 2008) 25 20 rfl ?_
  exact a_if_eq_t (pc := 2009) (tgt := 2014) 25 21 rfl (by decide) (lcmp_eq (hout c8)) E9
set_option maxRecDepth 100000 in
theorem case_fail {O : Om} {G : Cx} {b0 L t : Nat} {xs : Nat → Int32} {S : Mem} {I : Nat → Mem → Prop} (st : Step_fail I) (hs : LawOk O G b0 L xs) (hL : 5 * t + 5 ≤ L) (hL2 : L ≤ 2560) (hI : I t S) (kk : ∀ S2 : Mem, I (t + 1) S2 → BW O G fdL_law (400 + (t + 1)) (6000 + 6 * (t + 1)) (lawQ G b0) S2 2620 [some (.inl (.ref b0)), some (vr 11 0), some (vr 12 0), some (vr 63 0), some (vi (nI (5 * t))), none, none] []) : BW O G fdL_law (400 + t) (6000 + 6 * t) (lawQ G b0) S 2017 [some (.inl (.ref b0)), some (vr 11 0), some (vr 12 0), some (vr 63 0), some (vi (nI (5 * t))), none, none] [] := by
  have ht : t < 512 := by omega
  refine a_aload_n (pc := 2017) 25 25 rfl rfl ?_
  refine a_aloadR (pc := 2018) 25 26 rfl rfl ?_
  refine a_iload (pc := 2019) 25 27 rfl rfl ?_
  refine a_iconst (pc := 2021) 25 28 (v := 1) rfl (by decide) ?_
  refine a_iadd (pc := 2022) 25 29 rfl ?_
  refine a_sld (pc := 2023) 25 30 (5 * t + 1) hs rfl (nI_1 _) (by omega) (by omega) ?_
  refine a_aload_n (pc := 2024) 25 31 rfl rfl ?_
  obtain ⟨fr, lo, kc, ns, rc, S1, ⟨z1, z2, z3, z4⟩, hC, hok, hth, hout, hI2⟩ := st t S (xs (5 * t + 1)) ht hI
  refine a_callH (pc := 2025) 25 32 hC rfl ch_L_214 rfl ⟨z1, z2, (by rw [cat_sum rfl]; decide), (by show _ ≤ 601024; omega), (by show _ ≤ 7293034; omega)⟩ (fun v9 S9 h9 => ?_)
  obtain ⟨rfl, rfl⟩ := h9
  refine a_istore (pc := 2028) 25 33 (ls2 := [some (.inl (.ref b0)), some (vr 11 0), some (vr 12 0), some (vr 63 0), some (vi (nI (5 * t))), some (vi rc), none]) rfl (by decide) rfl ?_
  refine a_aload_n (pc := 2030) 25 34 rfl rfl ?_
  refine a_aloadR (pc := 2031) 25 35 rfl rfl ?_
  refine a_iload (pc := 2032) 25 36 rfl rfl ?_
  refine a_iconst (pc := 2034) 25 37 (v := 1) rfl (by decide) ?_
  refine a_iadd (pc := 2035) 25 38 rfl ?_
  refine a_sld (pc := 2036) 25 39 (5 * t + 1) hs rfl (nI_1 _) (by omega) (by omega) ?_
  refine a_callVi (pc := 2037) 25 40 (c_X12_fail (S := S9) (xs (5 * t + 1)) hok) rfl cv_L_216 (Nat.le_of_ble_eq_true rfl) rfl rfl rfl ⟨Nat.le_of_ble_eq_true rfl, Nat.le_of_ble_eq_true rfl, (by rw [cat_sum rfl]; exact Nat.le_of_ble_eq_true rfl), (by show _ ≤ 601024; omega), (by show _ ≤ 7293034; omega)⟩ ?_
  refine a_set (fun S2 eS2 => ?_)
  refine a_seti (fun bv ebv => ?_)
  rw [eS2] at hth hout hI2
  rw [ebv] at hout
  refine a_istore (pc := 2040) 25 41 (ls2 := [some (.inl (.ref b0)), some (vr 11 0), some (vr 12 0), some (vr 63 0), some (vi (nI (5 * t))), some (vi rc), some (vi bv)]) rfl (by decide) rfl ?_
  refine a_aload_n (pc := 2042) 25 42 rfl rfl ?_
  refine a_callVi (pc := 2043) 25 43 (c_X12_thrown (S := S2)) rfl cv_L_130 (Nat.le_of_ble_eq_true rfl) rfl rfl rfl ⟨Nat.le_of_ble_eq_true rfl, Nat.le_of_ble_eq_true rfl, (by rw [cat_sum rfl]; exact Nat.le_of_ble_eq_true rfl), (by show _ ≤ 601024; omega), (by show _ ≤ 7293034; omega)⟩ ?_
  refine a_iload (pc := 2046) 25 44 rfl rfl ?_
  refine a_icmp_eq_t (pc := 2048) (tgt := 2053) 25 45 rfl (by decide) hth ?_
  refine a_iload (pc := 2053) 26 0 rfl rfl ?_
  have E9 : BW O G fdL_law (400 + t + kc) (6000 + 6 * t + ns) (lawQ G b0) S2 2070 [some (.inl (.ref b0)), some (vr 11 0), some (vr 12 0), some (vr 63 0), some (vi (nI (5 * t))), some (vi rc), some (vi bv)] [] := by
    refine a_goto (pc := 2070) (tgt := 2620) 26 11 rfl (by decide) ?_
    refine a_widen (k' := 400 + (t + 1)) (n' := 6000 + 6 * (t + 1)) (by omega) (by omega) ?_
    refine a_drop (ls2 := [some (.inl (.ref b0)), some (vr 11 0), some (vr 12 0), some (vr 63 0), some (vi (nI (5 * t))), none, none]) ⟨rfl, rfl, rfl, rfl, rfl, trivial⟩ ?_
    exact kk S2 hI2
  refine a_if_ne (pc := 2055) (tgt := 2070) 26 1 rfl (by decide) (fun c8 => E9) (fun c8 => ?_)
  refine a_aload_n (pc := 2058) 26 2 rfl rfl ?_
  refine a_iconst (pc := 2059) 26 3 (v := 0) rfl (by decide) ?_
  refine a_lald (pc := 2060) 26 4 rfl rfl ?_
  refine a_iload (pc := 2061) 26 5 rfl rfl ?_
  refine a_i2l (pc := 2063) 26 6 rfl ?_
  refine a_lcmp (pc := 2064) 26 7 rfl ?_
  exact a_if_eq_t (pc := 2065) (tgt := 2070) 26 8 rfl (by decide) (lcmp_eq (hout c8)) E9
set_option maxRecDepth 100000 in
theorem case_days {O : Om} {G : Cx} {b0 L t : Nat} {xs : Nat → Int32} {S : Mem} {I : Nat → Mem → Prop} (st : Step_days I) (hs : LawOk O G b0 L xs) (hL : 5 * t + 5 ≤ L) (hL2 : L ≤ 2560) (hI : I t S) (kk : ∀ S2 : Mem, I (t + 1) S2 → BW O G fdL_law (400 + (t + 1)) (6000 + 6 * (t + 1)) (lawQ G b0) S2 2620 [some (.inl (.ref b0)), some (vr 11 0), some (vr 12 0), some (vr 63 0), some (vi (nI (5 * t))), none, none] []) : BW O G fdL_law (400 + t) (6000 + 6 * t) (lawQ G b0) S 2073 [some (.inl (.ref b0)), some (vr 11 0), some (vr 12 0), some (vr 63 0), some (vi (nI (5 * t))), none, none] [] := by
  have ht : t < 512 := by omega
  obtain ⟨heq, hI2⟩ := st t S ht hI
  refine a_aload_n (pc := 2073) 26 12 rfl rfl ?_
  refine a_callVi (pc := 2074) 26 13 (c_X11_days (S := S)) rfl cv_L_217 (Nat.le_of_ble_eq_true rfl) rfl rfl rfl ⟨Nat.le_of_ble_eq_true rfl, Nat.le_of_ble_eq_true rfl, (by rw [cat_sum rfl]; exact Nat.le_of_ble_eq_true rfl), (by show _ ≤ 601024; omega), (by show _ ≤ 7293034; omega)⟩ ?_
  refine a_aload_n (pc := 2077) 26 14 rfl rfl ?_
  refine a_callVi (pc := 2078) 26 15 (c_X12_days (S := S)) rfl cv_L_220 (Nat.le_of_ble_eq_true rfl) rfl rfl rfl ⟨Nat.le_of_ble_eq_true rfl, Nat.le_of_ble_eq_true rfl, (by rw [cat_sum rfl]; exact Nat.le_of_ble_eq_true rfl), (by show _ ≤ 601024; omega), (by show _ ≤ 7293034; omega)⟩ ?_
  refine a_icmp_eq_t (pc := 2081) (tgt := 2620) 26 16 rfl (by decide) heq ?_
  refine a_widen (k' := 400 + (t + 1)) (n' := 6000 + 6 * (t + 1)) (by omega) (by omega) ?_
  exact kk _ hI2
set_option maxRecDepth 100000 in
theorem case_ofHolder {O : Om} {G : Cx} {b0 L t : Nat} {xs : Nat → Int32} {S : Mem} {I : Nat → Mem → Prop} (st : Step_ofHolder I) (hs : LawOk O G b0 L xs) (hL : 5 * t + 5 ≤ L) (hL2 : L ≤ 2560) (hI : I t S) (kk : ∀ S2 : Mem, I (t + 1) S2 → BW O G fdL_law (400 + (t + 1)) (6000 + 6 * (t + 1)) (lawQ G b0) S2 2620 [some (.inl (.ref b0)), some (vr 11 0), some (vr 12 0), some (vr 63 0), some (vi (nI (5 * t))), none, none] []) : BW O G fdL_law (400 + t) (6000 + 6 * t) (lawQ G b0) S 2086 [some (.inl (.ref b0)), some (vr 11 0), some (vr 12 0), some (vr 63 0), some (vi (nI (5 * t))), none, none] [] := by
  have ht : t < 512 := by omega
  refine a_aload_n (pc := 2086) 26 19 rfl rfl ?_
  refine a_aloadR (pc := 2087) 26 20 rfl rfl ?_
  refine a_iload (pc := 2088) 26 21 rfl rfl ?_
  refine a_iconst (pc := 2090) 26 22 (v := 1) rfl (by decide) ?_
  refine a_iadd (pc := 2091) 26 23 rfl ?_
  refine a_sld (pc := 2092) 26 24 (5 * t + 1) hs rfl (nI_1 _) (by omega) (by omega) ?_
  refine a_aloadR (pc := 2093) 26 25 rfl rfl ?_
  refine a_iload (pc := 2094) 26 26 rfl rfl ?_
  refine a_iconst (pc := 2096) 26 27 (v := nI 2) rfl (by decide) ?_
  refine a_iadd (pc := 2097) 26 28 rfl ?_
  refine a_sld (pc := 2098) 26 29 (5 * t + 2) hs rfl (nI_add _ _) (by omega) (by omega) ?_
  refine a_aload_n (pc := 2099) 26 30 rfl rfl ?_
  obtain ⟨fr, lo, kc, ns, rc, S1, ⟨z1, z2, z3, z4⟩, hC, hok, hth, hout, hI2⟩ := st t S (xs (5 * t + 1)) (xs (5 * t + 2)) ht hI
  refine a_callH (pc := 2100) 26 31 hC rfl ch_L_221 rfl ⟨z1, z2, (by rw [cat_sum rfl]; decide), (by show _ ≤ 601024; omega), (by show _ ≤ 7293034; omega)⟩ (fun v9 S9 h9 => ?_)
  obtain ⟨rfl, rfl⟩ := h9
  refine a_istore (pc := 2103) 26 32 (ls2 := [some (.inl (.ref b0)), some (vr 11 0), some (vr 12 0), some (vr 63 0), some (vi (nI (5 * t))), some (vi rc), none]) rfl (by decide) rfl ?_
  refine a_aload_n (pc := 2105) 26 33 rfl rfl ?_
  refine a_aloadR (pc := 2106) 26 34 rfl rfl ?_
  refine a_iload (pc := 2107) 26 35 rfl rfl ?_
  refine a_iconst (pc := 2109) 26 36 (v := 1) rfl (by decide) ?_
  refine a_iadd (pc := 2110) 26 37 rfl ?_
  refine a_sld (pc := 2111) 26 38 (5 * t + 1) hs rfl (nI_1 _) (by omega) (by omega) ?_
  refine a_aloadR (pc := 2112) 26 39 rfl rfl ?_
  refine a_iload (pc := 2113) 26 40 rfl rfl ?_
  refine a_iconst (pc := 2115) 26 41 (v := nI 2) rfl (by decide) ?_
  refine a_iadd (pc := 2116) 26 42 rfl ?_
  refine a_sld (pc := 2117) 26 43 (5 * t + 2) hs rfl (nI_add _ _) (by omega) (by omega) ?_
  refine a_callVi (pc := 2118) 26 44 (c_X12_ofHolder (S := S9) (xs (5 * t + 1)) (xs (5 * t + 2)) hok) rfl cv_L_223 (Nat.le_of_ble_eq_true rfl) rfl rfl rfl ⟨Nat.le_of_ble_eq_true rfl, Nat.le_of_ble_eq_true rfl, (by rw [cat_sum rfl]; exact Nat.le_of_ble_eq_true rfl), (by show _ ≤ 601024; omega), (by show _ ≤ 7293034; omega)⟩ ?_
  refine a_set (fun S2 eS2 => ?_)
  refine a_seti (fun bv ebv => ?_)
  rw [eS2] at hth hout hI2
  rw [ebv] at hout
  refine a_istore (pc := 2121) 26 45 (ls2 := [some (.inl (.ref b0)), some (vr 11 0), some (vr 12 0), some (vr 63 0), some (vi (nI (5 * t))), some (vi rc), some (vi bv)]) rfl (by decide) rfl ?_
  refine a_aload_n (pc := 2123) 26 46 rfl rfl ?_
  refine a_callVi (pc := 2124) 26 47 (c_X12_thrown (S := S2)) rfl cv_L_130 (Nat.le_of_ble_eq_true rfl) rfl rfl rfl ⟨Nat.le_of_ble_eq_true rfl, Nat.le_of_ble_eq_true rfl, (by rw [cat_sum rfl]; exact Nat.le_of_ble_eq_true rfl), (by show _ ≤ 601024; omega), (by show _ ≤ 7293034; omega)⟩ ?_
  refine a_iload (pc := 2127) 27 0 rfl rfl ?_
  refine a_icmp_eq_t (pc := 2129) (tgt := 2134) 27 1 rfl (by decide) hth ?_
  refine a_iload (pc := 2134) 27 4 rfl rfl ?_
  have E9 : BW O G fdL_law (400 + t + kc) (6000 + 6 * t + ns) (lawQ G b0) S2 2151 [some (.inl (.ref b0)), some (vr 11 0), some (vr 12 0), some (vr 63 0), some (vi (nI (5 * t))), some (vi rc), some (vi bv)] [] := by
    refine a_goto (pc := 2151) (tgt := 2620) 27 15 rfl (by decide) ?_
    refine a_widen (k' := 400 + (t + 1)) (n' := 6000 + 6 * (t + 1)) (by omega) (by omega) ?_
    refine a_drop (ls2 := [some (.inl (.ref b0)), some (vr 11 0), some (vr 12 0), some (vr 63 0), some (vi (nI (5 * t))), none, none]) ⟨rfl, rfl, rfl, rfl, rfl, trivial⟩ ?_
    exact kk S2 hI2
  refine a_if_ne (pc := 2136) (tgt := 2151) 27 5 rfl (by decide) (fun c8 => E9) (fun c8 => ?_)
  refine a_aload_n (pc := 2139) 27 6 rfl rfl ?_
  refine a_iconst (pc := 2140) 27 7 (v := 0) rfl (by decide) ?_
  refine a_lald (pc := 2141) 27 8 rfl rfl ?_
  refine a_iload (pc := 2142) 27 9 rfl rfl ?_
  refine a_i2l (pc := 2144) 27 10 rfl ?_
  refine a_lcmp (pc := 2145) 27 11 rfl ?_
  exact a_if_eq_t (pc := 2146) (tgt := 2151) 27 12 rfl (by decide) (lcmp_eq (hout c8)) E9
set_option maxRecDepth 100000 in
theorem case_accountAnew {O : Om} {G : Cx} {b0 L t : Nat} {xs : Nat → Int32} {S : Mem} {I : Nat → Mem → Prop} (st : Step_accountAnew I) (hs : LawOk O G b0 L xs) (hL : 5 * t + 5 ≤ L) (hL2 : L ≤ 2560) (hI : I t S) (kk : ∀ S2 : Mem, I (t + 1) S2 → BW O G fdL_law (400 + (t + 1)) (6000 + 6 * (t + 1)) (lawQ G b0) S2 2620 [some (.inl (.ref b0)), some (vr 11 0), some (vr 12 0), some (vr 63 0), some (vi (nI (5 * t))), none, none] []) : BW O G fdL_law (400 + t) (6000 + 6 * t) (lawQ G b0) S 2154 [some (.inl (.ref b0)), some (vr 11 0), some (vr 12 0), some (vr 63 0), some (vi (nI (5 * t))), none, none] [] := by
  have ht : t < 512 := by omega
  refine a_aload_n (pc := 2154) 27 16 rfl rfl ?_
  refine a_aloadR (pc := 2155) 27 17 rfl rfl ?_
  refine a_iload (pc := 2156) 27 18 rfl rfl ?_
  refine a_iconst (pc := 2158) 27 19 (v := 1) rfl (by decide) ?_
  refine a_iadd (pc := 2159) 27 20 rfl ?_
  refine a_sld (pc := 2160) 27 21 (5 * t + 1) hs rfl (nI_1 _) (by omega) (by omega) ?_
  refine a_aload_n (pc := 2161) 27 22 rfl rfl ?_
  obtain ⟨fr, lo, kc, ns, rc, S1, ⟨z1, z2, z3, z4⟩, hC, hok, hth, hout, hI2⟩ := st t S (xs (5 * t + 1)) ht hI
  refine a_callH (pc := 2162) 27 23 hC rfl ch_L_224 rfl ⟨z1, z2, (by rw [cat_sum rfl]; decide), (by show _ ≤ 601024; omega), (by show _ ≤ 7293034; omega)⟩ (fun v9 S9 h9 => ?_)
  obtain ⟨rfl, rfl⟩ := h9
  refine a_istore (pc := 2165) 27 24 (ls2 := [some (.inl (.ref b0)), some (vr 11 0), some (vr 12 0), some (vr 63 0), some (vi (nI (5 * t))), some (vi rc), none]) rfl (by decide) rfl ?_
  refine a_aload_n (pc := 2167) 27 25 rfl rfl ?_
  refine a_aloadR (pc := 2168) 27 26 rfl rfl ?_
  refine a_iload (pc := 2169) 27 27 rfl rfl ?_
  refine a_iconst (pc := 2171) 27 28 (v := 1) rfl (by decide) ?_
  refine a_iadd (pc := 2172) 27 29 rfl ?_
  refine a_sld (pc := 2173) 27 30 (5 * t + 1) hs rfl (nI_1 _) (by omega) (by omega) ?_
  refine a_callVi (pc := 2174) 27 31 (c_X12_accountAnew (S := S9) (xs (5 * t + 1)) hok) rfl cv_L_226 (Nat.le_of_ble_eq_true rfl) rfl rfl rfl ⟨Nat.le_of_ble_eq_true rfl, Nat.le_of_ble_eq_true rfl, (by rw [cat_sum rfl]; exact Nat.le_of_ble_eq_true rfl), (by show _ ≤ 601024; omega), (by show _ ≤ 7293034; omega)⟩ ?_
  refine a_set (fun S2 eS2 => ?_)
  refine a_seti (fun bv ebv => ?_)
  rw [eS2] at hth hout hI2
  rw [ebv] at hout
  refine a_istore (pc := 2177) 27 32 (ls2 := [some (.inl (.ref b0)), some (vr 11 0), some (vr 12 0), some (vr 63 0), some (vi (nI (5 * t))), some (vi rc), some (vi bv)]) rfl (by decide) rfl ?_
  refine a_aload_n (pc := 2179) 27 33 rfl rfl ?_
  refine a_callVi (pc := 2180) 27 34 (c_X12_thrown (S := S2)) rfl cv_L_130 (Nat.le_of_ble_eq_true rfl) rfl rfl rfl ⟨Nat.le_of_ble_eq_true rfl, Nat.le_of_ble_eq_true rfl, (by rw [cat_sum rfl]; exact Nat.le_of_ble_eq_true rfl), (by show _ ≤ 601024; omega), (by show _ ≤ 7293034; omega)⟩ ?_
  refine a_iload (pc := 2183) 27 35 rfl rfl ?_
  refine a_icmp_eq_t (pc := 2185) (tgt := 2190) 27 36 rfl (by decide) hth ?_
  refine a_iload (pc := 2190) 27 39 rfl rfl ?_
  have E9 : BW O G fdL_law (400 + t + kc) (6000 + 6 * t + ns) (lawQ G b0) S2 2207 [some (.inl (.ref b0)), some (vr 11 0), some (vr 12 0), some (vr 63 0), some (vi (nI (5 * t))), some (vi rc), some (vi bv)] [] := by
    refine a_goto (pc := 2207) (tgt := 2620) 28 2 rfl (by decide) ?_
    refine a_widen (k' := 400 + (t + 1)) (n' := 6000 + 6 * (t + 1)) (by omega) (by omega) ?_
    refine a_drop (ls2 := [some (.inl (.ref b0)), some (vr 11 0), some (vr 12 0), some (vr 63 0), some (vi (nI (5 * t))), none, none]) ⟨rfl, rfl, rfl, rfl, rfl, trivial⟩ ?_
    exact kk S2 hI2
  refine a_if_ne (pc := 2192) (tgt := 2207) 27 40 rfl (by decide) (fun c8 => E9) (fun c8 => ?_)
  refine a_aload_n (pc := 2195) 27 41 rfl rfl ?_
  refine a_iconst (pc := 2196) 27 42 (v := 0) rfl (by decide) ?_
  refine a_lald (pc := 2197) 27 43 rfl rfl ?_
  refine a_iload (pc := 2198) 27 44 rfl rfl ?_
  refine a_i2l (pc := 2200) 27 45 rfl ?_
  refine a_lcmp (pc := 2201) 27 46 rfl ?_
  exact a_if_eq_t (pc := 2202) (tgt := 2207) 27 47 rfl (by decide) (lcmp_eq (hout c8)) E9
set_option maxRecDepth 100000 in
theorem case_ofBank {O : Om} {G : Cx} {b0 L t : Nat} {xs : Nat → Int32} {S : Mem} {I : Nat → Mem → Prop} (st : Step_ofBank I) (hs : LawOk O G b0 L xs) (hL : 5 * t + 5 ≤ L) (hL2 : L ≤ 2560) (hI : I t S) (kk : ∀ S2 : Mem, I (t + 1) S2 → BW O G fdL_law (400 + (t + 1)) (6000 + 6 * (t + 1)) (lawQ G b0) S2 2620 [some (.inl (.ref b0)), some (vr 11 0), some (vr 12 0), some (vr 63 0), some (vi (nI (5 * t))), none, none] []) : BW O G fdL_law (400 + t) (6000 + 6 * t) (lawQ G b0) S 2210 [some (.inl (.ref b0)), some (vr 11 0), some (vr 12 0), some (vr 63 0), some (vi (nI (5 * t))), none, none] [] := by
  have ht : t < 512 := by omega
  refine a_aload_n (pc := 2210) 28 3 rfl rfl ?_
  refine a_aloadR (pc := 2211) 28 4 rfl rfl ?_
  refine a_iload (pc := 2212) 28 5 rfl rfl ?_
  refine a_iconst (pc := 2214) 28 6 (v := 1) rfl (by decide) ?_
  refine a_iadd (pc := 2215) 28 7 rfl ?_
  refine a_sld (pc := 2216) 28 8 (5 * t + 1) hs rfl (nI_1 _) (by omega) (by omega) ?_
  refine a_aloadR (pc := 2217) 28 9 rfl rfl ?_
  refine a_iload (pc := 2218) 28 10 rfl rfl ?_
  refine a_iconst (pc := 2220) 28 11 (v := nI 2) rfl (by decide) ?_
  refine a_iadd (pc := 2221) 28 12 rfl ?_
  refine a_sld (pc := 2222) 28 13 (5 * t + 2) hs rfl (nI_add _ _) (by omega) (by omega) ?_
  refine a_aload_n (pc := 2223) 28 14 rfl rfl ?_
  obtain ⟨fr, lo, kc, ns, rc, S1, ⟨z1, z2, z3, z4⟩, hC, hok, hth, hout, hI2⟩ := st t S (xs (5 * t + 1)) (xs (5 * t + 2)) ht hI
  refine a_callH (pc := 2224) 28 15 hC rfl ch_L_227 rfl ⟨z1, z2, (by rw [cat_sum rfl]; decide), (by show _ ≤ 601024; omega), (by show _ ≤ 7293034; omega)⟩ (fun v9 S9 h9 => ?_)
  obtain ⟨rfl, rfl⟩ := h9
  refine a_istore (pc := 2227) 28 16 (ls2 := [some (.inl (.ref b0)), some (vr 11 0), some (vr 12 0), some (vr 63 0), some (vi (nI (5 * t))), some (vi rc), none]) rfl (by decide) rfl ?_
  refine a_aload_n (pc := 2229) 28 17 rfl rfl ?_
  refine a_aloadR (pc := 2230) 28 18 rfl rfl ?_
  refine a_iload (pc := 2231) 28 19 rfl rfl ?_
  refine a_iconst (pc := 2233) 28 20 (v := 1) rfl (by decide) ?_
  refine a_iadd (pc := 2234) 28 21 rfl ?_
  refine a_sld (pc := 2235) 28 22 (5 * t + 1) hs rfl (nI_1 _) (by omega) (by omega) ?_
  refine a_aloadR (pc := 2236) 28 23 rfl rfl ?_
  refine a_iload (pc := 2237) 28 24 rfl rfl ?_
  refine a_iconst (pc := 2239) 28 25 (v := nI 2) rfl (by decide) ?_
  refine a_iadd (pc := 2240) 28 26 rfl ?_
  refine a_sld (pc := 2241) 28 27 (5 * t + 2) hs rfl (nI_add _ _) (by omega) (by omega) ?_
  refine a_callVi (pc := 2242) 28 28 (c_X12_ofBank (S := S9) (xs (5 * t + 1)) (xs (5 * t + 2)) hok) rfl cv_L_229 (Nat.le_of_ble_eq_true rfl) rfl rfl rfl ⟨Nat.le_of_ble_eq_true rfl, Nat.le_of_ble_eq_true rfl, (by rw [cat_sum rfl]; exact Nat.le_of_ble_eq_true rfl), (by show _ ≤ 601024; omega), (by show _ ≤ 7293034; omega)⟩ ?_
  refine a_set (fun S2 eS2 => ?_)
  refine a_seti (fun bv ebv => ?_)
  rw [eS2] at hth hout hI2
  rw [ebv] at hout
  refine a_istore (pc := 2245) 28 29 (ls2 := [some (.inl (.ref b0)), some (vr 11 0), some (vr 12 0), some (vr 63 0), some (vi (nI (5 * t))), some (vi rc), some (vi bv)]) rfl (by decide) rfl ?_
  refine a_aload_n (pc := 2247) 28 30 rfl rfl ?_
  refine a_callVi (pc := 2248) 28 31 (c_X12_thrown (S := S2)) rfl cv_L_130 (Nat.le_of_ble_eq_true rfl) rfl rfl rfl ⟨Nat.le_of_ble_eq_true rfl, Nat.le_of_ble_eq_true rfl, (by rw [cat_sum rfl]; exact Nat.le_of_ble_eq_true rfl), (by show _ ≤ 601024; omega), (by show _ ≤ 7293034; omega)⟩ ?_
  refine a_iload (pc := 2251) 28 32 rfl rfl ?_
  refine a_icmp_eq_t (pc := 2253) (tgt := 2258) 28 33 rfl (by decide) hth ?_
  refine a_iload (pc := 2258) 28 36 rfl rfl ?_
  have E9 : BW O G fdL_law (400 + t + kc) (6000 + 6 * t + ns) (lawQ G b0) S2 2275 [some (.inl (.ref b0)), some (vr 11 0), some (vr 12 0), some (vr 63 0), some (vi (nI (5 * t))), some (vi rc), some (vi bv)] [] := by
    refine a_goto (pc := 2275) (tgt := 2620) 28 47 rfl (by decide) ?_
    refine a_widen (k' := 400 + (t + 1)) (n' := 6000 + 6 * (t + 1)) (by omega) (by omega) ?_
    refine a_drop (ls2 := [some (.inl (.ref b0)), some (vr 11 0), some (vr 12 0), some (vr 63 0), some (vi (nI (5 * t))), none, none]) ⟨rfl, rfl, rfl, rfl, rfl, trivial⟩ ?_
    exact kk S2 hI2
  refine a_if_ne (pc := 2260) (tgt := 2275) 28 37 rfl (by decide) (fun c8 => E9) (fun c8 => ?_)
  refine a_aload_n (pc := 2263) 28 38 rfl rfl ?_
  refine a_iconst (pc := 2264) 28 39 (v := 0) rfl (by decide) ?_
  refine a_lald (pc := 2265) 28 40 rfl rfl ?_
  refine a_iload (pc := 2266) 28 41 rfl rfl ?_
  refine a_i2l (pc := 2268) 28 42 rfl ?_
  refine a_lcmp (pc := 2269) 28 43 rfl ?_
  exact a_if_eq_t (pc := 2270) (tgt := 2275) 28 44 rfl (by decide) (lcmp_eq (hout c8)) E9
set_option maxRecDepth 100000 in
theorem case_ofLoan {O : Om} {G : Cx} {b0 L t : Nat} {xs : Nat → Int32} {S : Mem} {I : Nat → Mem → Prop} (st : Step_ofLoan I) (hs : LawOk O G b0 L xs) (hL : 5 * t + 5 ≤ L) (hL2 : L ≤ 2560) (hI : I t S) (kk : ∀ S2 : Mem, I (t + 1) S2 → BW O G fdL_law (400 + (t + 1)) (6000 + 6 * (t + 1)) (lawQ G b0) S2 2620 [some (.inl (.ref b0)), some (vr 11 0), some (vr 12 0), some (vr 63 0), some (vi (nI (5 * t))), none, none] []) : BW O G fdL_law (400 + t) (6000 + 6 * t) (lawQ G b0) S 2278 [some (.inl (.ref b0)), some (vr 11 0), some (vr 12 0), some (vr 63 0), some (vi (nI (5 * t))), none, none] [] := by
  have ht : t < 512 := by omega
  refine a_aload_n (pc := 2278) 29 0 rfl rfl ?_
  refine a_aloadR (pc := 2279) 29 1 rfl rfl ?_
  refine a_iload (pc := 2280) 29 2 rfl rfl ?_
  refine a_iconst (pc := 2282) 29 3 (v := 1) rfl (by decide) ?_
  refine a_iadd (pc := 2283) 29 4 rfl ?_
  refine a_sld (pc := 2284) 29 5 (5 * t + 1) hs rfl (nI_1 _) (by omega) (by omega) ?_
  refine a_aloadR (pc := 2285) 29 6 rfl rfl ?_
  refine a_iload (pc := 2286) 29 7 rfl rfl ?_
  refine a_iconst (pc := 2288) 29 8 (v := nI 2) rfl (by decide) ?_
  refine a_iadd (pc := 2289) 29 9 rfl ?_
  refine a_sld (pc := 2290) 29 10 (5 * t + 2) hs rfl (nI_add _ _) (by omega) (by omega) ?_
  refine a_aload_n (pc := 2291) 29 11 rfl rfl ?_
  obtain ⟨fr, lo, kc, ns, rc, S1, ⟨z1, z2, z3, z4⟩, hC, hok, hth, hout, hI2⟩ := st t S (xs (5 * t + 1)) (xs (5 * t + 2)) ht hI
  refine a_callH (pc := 2292) 29 12 hC rfl ch_L_230 rfl ⟨z1, z2, (by rw [cat_sum rfl]; decide), (by show _ ≤ 601024; omega), (by show _ ≤ 7293034; omega)⟩ (fun v9 S9 h9 => ?_)
  obtain ⟨rfl, rfl⟩ := h9
  refine a_istore (pc := 2295) 29 13 (ls2 := [some (.inl (.ref b0)), some (vr 11 0), some (vr 12 0), some (vr 63 0), some (vi (nI (5 * t))), some (vi rc), none]) rfl (by decide) rfl ?_
  refine a_aload_n (pc := 2297) 29 14 rfl rfl ?_
  refine a_aloadR (pc := 2298) 29 15 rfl rfl ?_
  refine a_iload (pc := 2299) 29 16 rfl rfl ?_
  refine a_iconst (pc := 2301) 29 17 (v := 1) rfl (by decide) ?_
  refine a_iadd (pc := 2302) 29 18 rfl ?_
  refine a_sld (pc := 2303) 29 19 (5 * t + 1) hs rfl (nI_1 _) (by omega) (by omega) ?_
  refine a_aloadR (pc := 2304) 29 20 rfl rfl ?_
  refine a_iload (pc := 2305) 29 21 rfl rfl ?_
  refine a_iconst (pc := 2307) 29 22 (v := nI 2) rfl (by decide) ?_
  refine a_iadd (pc := 2308) 29 23 rfl ?_
  refine a_sld (pc := 2309) 29 24 (5 * t + 2) hs rfl (nI_add _ _) (by omega) (by omega) ?_
  refine a_callVi (pc := 2310) 29 25 (c_X12_ofLoan (S := S9) (xs (5 * t + 1)) (xs (5 * t + 2)) hok) rfl cv_L_232 (Nat.le_of_ble_eq_true rfl) rfl rfl rfl ⟨Nat.le_of_ble_eq_true rfl, Nat.le_of_ble_eq_true rfl, (by rw [cat_sum rfl]; exact Nat.le_of_ble_eq_true rfl), (by show _ ≤ 601024; omega), (by show _ ≤ 7293034; omega)⟩ ?_
  refine a_set (fun S2 eS2 => ?_)
  refine a_seti (fun bv ebv => ?_)
  rw [eS2] at hth hout hI2
  rw [ebv] at hout
  refine a_istore (pc := 2313) 29 26 (ls2 := [some (.inl (.ref b0)), some (vr 11 0), some (vr 12 0), some (vr 63 0), some (vi (nI (5 * t))), some (vi rc), some (vi bv)]) rfl (by decide) rfl ?_
  refine a_aload_n (pc := 2315) 29 27 rfl rfl ?_
  refine a_callVi (pc := 2316) 29 28 (c_X12_thrown (S := S2)) rfl cv_L_130 (Nat.le_of_ble_eq_true rfl) rfl rfl rfl ⟨Nat.le_of_ble_eq_true rfl, Nat.le_of_ble_eq_true rfl, (by rw [cat_sum rfl]; exact Nat.le_of_ble_eq_true rfl), (by show _ ≤ 601024; omega), (by show _ ≤ 7293034; omega)⟩ ?_
  refine a_iload (pc := 2319) 29 29 rfl rfl ?_
  refine a_icmp_eq_t (pc := 2321) (tgt := 2326) 29 30 rfl (by decide) hth ?_
  refine a_iload (pc := 2326) 29 33 rfl rfl ?_
  have E9 : BW O G fdL_law (400 + t + kc) (6000 + 6 * t + ns) (lawQ G b0) S2 2343 [some (.inl (.ref b0)), some (vr 11 0), some (vr 12 0), some (vr 63 0), some (vi (nI (5 * t))), some (vi rc), some (vi bv)] [] := by
    refine a_goto (pc := 2343) (tgt := 2620) 29 44 rfl (by decide) ?_
    refine a_widen (k' := 400 + (t + 1)) (n' := 6000 + 6 * (t + 1)) (by omega) (by omega) ?_
    refine a_drop (ls2 := [some (.inl (.ref b0)), some (vr 11 0), some (vr 12 0), some (vr 63 0), some (vi (nI (5 * t))), none, none]) ⟨rfl, rfl, rfl, rfl, rfl, trivial⟩ ?_
    exact kk S2 hI2
  refine a_if_ne (pc := 2328) (tgt := 2343) 29 34 rfl (by decide) (fun c8 => E9) (fun c8 => ?_)
  refine a_aload_n (pc := 2331) 29 35 rfl rfl ?_
  refine a_iconst (pc := 2332) 29 36 (v := 0) rfl (by decide) ?_
  refine a_lald (pc := 2333) 29 37 rfl rfl ?_
  refine a_iload (pc := 2334) 29 38 rfl rfl ?_
  refine a_i2l (pc := 2336) 29 39 rfl ?_
  refine a_lcmp (pc := 2337) 29 40 rfl ?_
  exact a_if_eq_t (pc := 2338) (tgt := 2343) 29 41 rfl (by decide) (lcmp_eq (hout c8)) E9
set_option maxRecDepth 100000 in
theorem case_payment {O : Om} {G : Cx} {b0 L t : Nat} {xs : Nat → Int32} {S : Mem} {I : Nat → Mem → Prop} (st : Step_payment I) (hs : LawOk O G b0 L xs) (hL : 5 * t + 5 ≤ L) (hL2 : L ≤ 2560) (hI : I t S) (kk : ∀ S2 : Mem, I (t + 1) S2 → BW O G fdL_law (400 + (t + 1)) (6000 + 6 * (t + 1)) (lawQ G b0) S2 2620 [some (.inl (.ref b0)), some (vr 11 0), some (vr 12 0), some (vr 63 0), some (vi (nI (5 * t))), none, none] []) : BW O G fdL_law (400 + t) (6000 + 6 * t) (lawQ G b0) S 2346 [some (.inl (.ref b0)), some (vr 11 0), some (vr 12 0), some (vr 63 0), some (vi (nI (5 * t))), none, none] [] := by
  have ht : t < 512 := by omega
  refine a_aload_n (pc := 2346) 29 45 rfl rfl ?_
  refine a_aloadR (pc := 2347) 29 46 rfl rfl ?_
  refine a_iload (pc := 2348) 29 47 rfl rfl ?_
  refine a_iconst (pc := 2350) 30 0 (v := 1) rfl (by decide) ?_
  refine a_iadd (pc := 2351) 30 1 rfl ?_
  refine a_sld (pc := 2352) 30 2 (5 * t + 1) hs rfl (nI_1 _) (by omega) (by omega) ?_
  refine a_aload_n (pc := 2353) 30 3 rfl rfl ?_
  obtain ⟨fr, lo, kc, ns, rc, S1, ⟨z1, z2, z3, z4⟩, hC, hok, hth, hout, hI2⟩ := st t S (xs (5 * t + 1)) ht hI
  refine a_callH (pc := 2354) 30 4 hC rfl ch_L_233 rfl ⟨z1, z2, (by rw [cat_sum rfl]; decide), (by show _ ≤ 601024; omega), (by show _ ≤ 7293034; omega)⟩ (fun v9 S9 h9 => ?_)
  obtain ⟨rfl, rfl⟩ := h9
  refine a_istore (pc := 2357) 30 5 (ls2 := [some (.inl (.ref b0)), some (vr 11 0), some (vr 12 0), some (vr 63 0), some (vi (nI (5 * t))), some (vi rc), none]) rfl (by decide) rfl ?_
  refine a_aload_n (pc := 2359) 30 6 rfl rfl ?_
  refine a_aloadR (pc := 2360) 30 7 rfl rfl ?_
  refine a_iload (pc := 2361) 30 8 rfl rfl ?_
  refine a_iconst (pc := 2363) 30 9 (v := 1) rfl (by decide) ?_
  refine a_iadd (pc := 2364) 30 10 rfl ?_
  refine a_sld (pc := 2365) 30 11 (5 * t + 1) hs rfl (nI_1 _) (by omega) (by omega) ?_
  refine a_callVi (pc := 2366) 30 12 (c_X12_payment (S := S9) (xs (5 * t + 1)) hok) rfl cv_L_235 (Nat.le_of_ble_eq_true rfl) rfl rfl rfl ⟨Nat.le_of_ble_eq_true rfl, Nat.le_of_ble_eq_true rfl, (by rw [cat_sum rfl]; exact Nat.le_of_ble_eq_true rfl), (by show _ ≤ 601024; omega), (by show _ ≤ 7293034; omega)⟩ ?_
  refine a_set (fun S2 eS2 => ?_)
  refine a_seti (fun bv ebv => ?_)
  rw [eS2] at hth hout hI2
  rw [ebv] at hout
  refine a_istore (pc := 2369) 30 13 (ls2 := [some (.inl (.ref b0)), some (vr 11 0), some (vr 12 0), some (vr 63 0), some (vi (nI (5 * t))), some (vi rc), some (vi bv)]) rfl (by decide) rfl ?_
  refine a_aload_n (pc := 2371) 30 14 rfl rfl ?_
  refine a_callVi (pc := 2372) 30 15 (c_X12_thrown (S := S2)) rfl cv_L_130 (Nat.le_of_ble_eq_true rfl) rfl rfl rfl ⟨Nat.le_of_ble_eq_true rfl, Nat.le_of_ble_eq_true rfl, (by rw [cat_sum rfl]; exact Nat.le_of_ble_eq_true rfl), (by show _ ≤ 601024; omega), (by show _ ≤ 7293034; omega)⟩ ?_
  refine a_iload (pc := 2375) 30 16 rfl rfl ?_
  refine a_icmp_eq_t (pc := 2377) (tgt := 2382) 30 17 rfl (by decide) hth ?_
  refine a_iload (pc := 2382) 30 20 rfl rfl ?_
  have E9 : BW O G fdL_law (400 + t + kc) (6000 + 6 * t + ns) (lawQ G b0) S2 2399 [some (.inl (.ref b0)), some (vr 11 0), some (vr 12 0), some (vr 63 0), some (vi (nI (5 * t))), some (vi rc), some (vi bv)] [] := by
    refine a_goto (pc := 2399) (tgt := 2620) 30 31 rfl (by decide) ?_
    refine a_widen (k' := 400 + (t + 1)) (n' := 6000 + 6 * (t + 1)) (by omega) (by omega) ?_
    refine a_drop (ls2 := [some (.inl (.ref b0)), some (vr 11 0), some (vr 12 0), some (vr 63 0), some (vi (nI (5 * t))), none, none]) ⟨rfl, rfl, rfl, rfl, rfl, trivial⟩ ?_
    exact kk S2 hI2
  refine a_if_ne (pc := 2384) (tgt := 2399) 30 21 rfl (by decide) (fun c8 => E9) (fun c8 => ?_)
  refine a_aload_n (pc := 2387) 30 22 rfl rfl ?_
  refine a_iconst (pc := 2388) 30 23 (v := 0) rfl (by decide) ?_
  refine a_lald (pc := 2389) 30 24 rfl rfl ?_
  refine a_iload (pc := 2390) 30 25 rfl rfl ?_
  refine a_i2l (pc := 2392) 30 26 rfl ?_
  refine a_lcmp (pc := 2393) 30 27 rfl ?_
  exact a_if_eq_t (pc := 2394) (tgt := 2399) 30 28 rfl (by decide) (lcmp_eq (hout c8)) E9
set_option maxRecDepth 100000 in
theorem case_treasury {O : Om} {G : Cx} {b0 L t : Nat} {xs : Nat → Int32} {S : Mem} {I : Nat → Mem → Prop} (st : Step_treasury I) (hs : LawOk O G b0 L xs) (hL : 5 * t + 5 ≤ L) (hL2 : L ≤ 2560) (hI : I t S) (kk : ∀ S2 : Mem, I (t + 1) S2 → BW O G fdL_law (400 + (t + 1)) (6000 + 6 * (t + 1)) (lawQ G b0) S2 2620 [some (.inl (.ref b0)), some (vr 11 0), some (vr 12 0), some (vr 63 0), some (vi (nI (5 * t))), none, none] []) : BW O G fdL_law (400 + t) (6000 + 6 * t) (lawQ G b0) S 2402 [some (.inl (.ref b0)), some (vr 11 0), some (vr 12 0), some (vr 63 0), some (vi (nI (5 * t))), none, none] [] := by
  have ht : t < 512 := by omega
  obtain ⟨heq, hI2⟩ := st t S ht hI
  refine a_aload_n (pc := 2402) 30 32 rfl rfl ?_
  refine a_callVi (pc := 2403) 30 33 (c_X11_treasury (S := S)) rfl cv_L_236 (Nat.le_of_ble_eq_true rfl) rfl rfl rfl ⟨Nat.le_of_ble_eq_true rfl, Nat.le_of_ble_eq_true rfl, (by rw [cat_sum rfl]; exact Nat.le_of_ble_eq_true rfl), (by show _ ≤ 601024; omega), (by show _ ≤ 7293034; omega)⟩ ?_
  refine a_aload_n (pc := 2406) 30 34 rfl rfl ?_
  refine a_callVi (pc := 2407) 30 35 (c_X12_treasury (S := S)) rfl cv_L_239 (Nat.le_of_ble_eq_true rfl) rfl rfl rfl ⟨Nat.le_of_ble_eq_true rfl, Nat.le_of_ble_eq_true rfl, (by rw [cat_sum rfl]; exact Nat.le_of_ble_eq_true rfl), (by show _ ≤ 601024; omega), (by show _ ≤ 7293034; omega)⟩ ?_
  refine a_icmp_eq_t (pc := 2410) (tgt := 2620) 30 36 rfl (by decide) heq ?_
  refine a_widen (k' := 400 + (t + 1)) (n' := 6000 + 6 * (t + 1)) (by omega) (by omega) ?_
  exact kk _ hI2
set_option maxRecDepth 100000 in
theorem case_owed {O : Om} {G : Cx} {b0 L t : Nat} {xs : Nat → Int32} {S : Mem} {I : Nat → Mem → Prop} (st : Step_owed I) (hs : LawOk O G b0 L xs) (hL : 5 * t + 5 ≤ L) (hL2 : L ≤ 2560) (hI : I t S) (kk : ∀ S2 : Mem, I (t + 1) S2 → BW O G fdL_law (400 + (t + 1)) (6000 + 6 * (t + 1)) (lawQ G b0) S2 2620 [some (.inl (.ref b0)), some (vr 11 0), some (vr 12 0), some (vr 63 0), some (vi (nI (5 * t))), none, none] []) : BW O G fdL_law (400 + t) (6000 + 6 * t) (lawQ G b0) S 2415 [some (.inl (.ref b0)), some (vr 11 0), some (vr 12 0), some (vr 63 0), some (vi (nI (5 * t))), none, none] [] := by
  have ht : t < 512 := by omega
  obtain ⟨hok1, hok2, heq, hI2⟩ := st t S ht hI
  refine a_aload_n (pc := 2415) 30 39 rfl rfl ?_
  refine a_callVi (pc := 2416) 30 40 (c_X11_owed (S := S) hok1) rfl cv_L_240 (Nat.le_of_ble_eq_true rfl) rfl rfl rfl ⟨Nat.le_of_ble_eq_true rfl, Nat.le_of_ble_eq_true rfl, (by rw [cat_sum rfl]; exact Nat.le_of_ble_eq_true rfl), (by show _ ≤ 601024; omega), (by show _ ≤ 7293034; omega)⟩ ?_
  refine a_aload_n (pc := 2419) 30 41 rfl rfl ?_
  refine a_callVi (pc := 2420) 30 42 (c_X12_owed (S := S) hok2) rfl cv_L_243 (Nat.le_of_ble_eq_true rfl) rfl rfl rfl ⟨Nat.le_of_ble_eq_true rfl, Nat.le_of_ble_eq_true rfl, (by rw [cat_sum rfl]; exact Nat.le_of_ble_eq_true rfl), (by show _ ≤ 601024; omega), (by show _ ≤ 7293034; omega)⟩ ?_
  refine a_icmp_eq_t (pc := 2423) (tgt := 2620) 30 43 rfl (by decide) heq ?_
  refine a_widen (k' := 400 + (t + 1)) (n' := 6000 + 6 * (t + 1)) (by omega) (by omega) ?_
  exact kk _ hI2
set_option maxRecDepth 100000 in
theorem case_foreign {O : Om} {G : Cx} {b0 L t : Nat} {xs : Nat → Int32} {S : Mem} {I : Nat → Mem → Prop} (st : Step_foreign I) (hs : LawOk O G b0 L xs) (hL : 5 * t + 5 ≤ L) (hL2 : L ≤ 2560) (hI : I t S) (kk : ∀ S2 : Mem, I (t + 1) S2 → BW O G fdL_law (400 + (t + 1)) (6000 + 6 * (t + 1)) (lawQ G b0) S2 2620 [some (.inl (.ref b0)), some (vr 11 0), some (vr 12 0), some (vr 63 0), some (vi (nI (5 * t))), none, none] []) : BW O G fdL_law (400 + t) (6000 + 6 * t) (lawQ G b0) S 2428 [some (.inl (.ref b0)), some (vr 11 0), some (vr 12 0), some (vr 63 0), some (vi (nI (5 * t))), none, none] [] := by
  have ht : t < 512 := by omega
  obtain ⟨heq, hI2⟩ := st t S ht hI
  refine a_aload_n (pc := 2428) 30 46 rfl rfl ?_
  refine a_callVi (pc := 2429) 30 47 (c_X11_foreign (S := S)) rfl cv_L_244 (Nat.le_of_ble_eq_true rfl) rfl rfl rfl ⟨Nat.le_of_ble_eq_true rfl, Nat.le_of_ble_eq_true rfl, (by rw [cat_sum rfl]; exact Nat.le_of_ble_eq_true rfl), (by show _ ≤ 601024; omega), (by show _ ≤ 7293034; omega)⟩ ?_
  refine a_aload_n (pc := 2432) 31 0 rfl rfl ?_
  refine a_callVi (pc := 2433) 31 1 (c_X12_foreign (S := S)) rfl cv_L_247 (Nat.le_of_ble_eq_true rfl) rfl rfl rfl ⟨Nat.le_of_ble_eq_true rfl, Nat.le_of_ble_eq_true rfl, (by rw [cat_sum rfl]; exact Nat.le_of_ble_eq_true rfl), (by show _ ≤ 601024; omega), (by show _ ≤ 7293034; omega)⟩ ?_
  refine a_icmp_eq_t (pc := 2436) (tgt := 2620) 31 2 rfl (by decide) heq ?_
  refine a_widen (k' := 400 + (t + 1)) (n' := 6000 + 6 * (t + 1)) (by omega) (by omega) ?_
  exact kk _ hI2
set_option maxRecDepth 100000 in
theorem case_central {O : Om} {G : Cx} {b0 L t : Nat} {xs : Nat → Int32} {S : Mem} {I : Nat → Mem → Prop} (st : Step_central I) (hs : LawOk O G b0 L xs) (hL : 5 * t + 5 ≤ L) (hL2 : L ≤ 2560) (hI : I t S) (kk : ∀ S2 : Mem, I (t + 1) S2 → BW O G fdL_law (400 + (t + 1)) (6000 + 6 * (t + 1)) (lawQ G b0) S2 2620 [some (.inl (.ref b0)), some (vr 11 0), some (vr 12 0), some (vr 63 0), some (vi (nI (5 * t))), none, none] []) : BW O G fdL_law (400 + t) (6000 + 6 * t) (lawQ G b0) S 2441 [some (.inl (.ref b0)), some (vr 11 0), some (vr 12 0), some (vr 63 0), some (vi (nI (5 * t))), none, none] [] := by
  have ht : t < 512 := by omega
  obtain ⟨hok1, hok2, heq, hI2⟩ := st t S ht hI
  refine a_aload_n (pc := 2441) 31 5 rfl rfl ?_
  refine a_callVi (pc := 2442) 31 6 (c_X11_central (S := S) hok1) rfl cv_L_248 (Nat.le_of_ble_eq_true rfl) rfl rfl rfl ⟨Nat.le_of_ble_eq_true rfl, Nat.le_of_ble_eq_true rfl, (by rw [cat_sum rfl]; exact Nat.le_of_ble_eq_true rfl), (by show _ ≤ 601024; omega), (by show _ ≤ 7293034; omega)⟩ ?_
  refine a_aload_n (pc := 2445) 31 7 rfl rfl ?_
  refine a_callVi (pc := 2446) 31 8 (c_X12_central (S := S) hok2) rfl cv_L_251 (Nat.le_of_ble_eq_true rfl) rfl rfl rfl ⟨Nat.le_of_ble_eq_true rfl, Nat.le_of_ble_eq_true rfl, (by rw [cat_sum rfl]; exact Nat.le_of_ble_eq_true rfl), (by show _ ≤ 601024; omega), (by show _ ≤ 7293034; omega)⟩ ?_
  refine a_icmp_eq_t (pc := 2449) (tgt := 2620) 31 9 rfl (by decide) heq ?_
  refine a_widen (k' := 400 + (t + 1)) (n' := 6000 + 6 * (t + 1)) (by omega) (by omega) ?_
  exact kk _ hI2
set_option maxRecDepth 100000 in
theorem case_centralAnew {O : Om} {G : Cx} {b0 L t : Nat} {xs : Nat → Int32} {S : Mem} {I : Nat → Mem → Prop} (st : Step_centralAnew I) (hs : LawOk O G b0 L xs) (hL : 5 * t + 5 ≤ L) (hL2 : L ≤ 2560) (hI : I t S) (kk : ∀ S2 : Mem, I (t + 1) S2 → BW O G fdL_law (400 + (t + 1)) (6000 + 6 * (t + 1)) (lawQ G b0) S2 2620 [some (.inl (.ref b0)), some (vr 11 0), some (vr 12 0), some (vr 63 0), some (vi (nI (5 * t))), none, none] []) : BW O G fdL_law (400 + t) (6000 + 6 * t) (lawQ G b0) S 2454 [some (.inl (.ref b0)), some (vr 11 0), some (vr 12 0), some (vr 63 0), some (vi (nI (5 * t))), none, none] [] := by
  have ht : t < 512 := by omega
  obtain ⟨hok1, hok2, heq, hI2⟩ := st t S ht hI
  refine a_aload_n (pc := 2454) 31 12 rfl rfl ?_
  refine a_callVi (pc := 2455) 31 13 (c_X11_centralAnew (S := S) hok1) rfl cv_L_252 (Nat.le_of_ble_eq_true rfl) rfl rfl rfl ⟨Nat.le_of_ble_eq_true rfl, Nat.le_of_ble_eq_true rfl, (by rw [cat_sum rfl]; exact Nat.le_of_ble_eq_true rfl), (by show _ ≤ 601024; omega), (by show _ ≤ 7293034; omega)⟩ ?_
  refine a_aload_n (pc := 2458) 31 14 rfl rfl ?_
  refine a_callVi (pc := 2459) 31 15 (c_X12_centralAnew (S := S) hok2) rfl cv_L_255 (Nat.le_of_ble_eq_true rfl) rfl rfl rfl ⟨Nat.le_of_ble_eq_true rfl, Nat.le_of_ble_eq_true rfl, (by rw [cat_sum rfl]; exact Nat.le_of_ble_eq_true rfl), (by show _ ≤ 601024; omega), (by show _ ≤ 7293034; omega)⟩ ?_
  refine a_icmp_eq_t (pc := 2462) (tgt := 2620) 31 16 rfl (by decide) heq ?_
  refine a_widen (k' := 400 + (t + 1)) (n' := 6000 + 6 * (t + 1)) (by omega) (by omega) ?_
  exact kk _ hI2
set_option maxRecDepth 100000 in
theorem case_money {O : Om} {G : Cx} {b0 L t : Nat} {xs : Nat → Int32} {S : Mem} {I : Nat → Mem → Prop} (st : Step_money I) (hs : LawOk O G b0 L xs) (hL : 5 * t + 5 ≤ L) (hL2 : L ≤ 2560) (hI : I t S) (kk : ∀ S2 : Mem, I (t + 1) S2 → BW O G fdL_law (400 + (t + 1)) (6000 + 6 * (t + 1)) (lawQ G b0) S2 2620 [some (.inl (.ref b0)), some (vr 11 0), some (vr 12 0), some (vr 63 0), some (vi (nI (5 * t))), none, none] []) : BW O G fdL_law (400 + t) (6000 + 6 * t) (lawQ G b0) S 2467 [some (.inl (.ref b0)), some (vr 11 0), some (vr 12 0), some (vr 63 0), some (vi (nI (5 * t))), none, none] [] := by
  have ht : t < 512 := by omega
  obtain ⟨heq, hI2⟩ := st t S ht hI
  refine a_aload_n (pc := 2467) 31 19 rfl rfl ?_
  refine a_callVi (pc := 2468) 31 20 (c_X11_money (S := S)) rfl cv_L_256 (Nat.le_of_ble_eq_true rfl) rfl rfl rfl ⟨Nat.le_of_ble_eq_true rfl, Nat.le_of_ble_eq_true rfl, (by rw [cat_sum rfl]; exact Nat.le_of_ble_eq_true rfl), (by show _ ≤ 601024; omega), (by show _ ≤ 7293034; omega)⟩ ?_
  refine a_aload_n (pc := 2471) 31 21 rfl rfl ?_
  refine a_callVi (pc := 2472) 31 22 (c_X12_money (S := S)) rfl cv_L_259 (Nat.le_of_ble_eq_true rfl) rfl rfl rfl ⟨Nat.le_of_ble_eq_true rfl, Nat.le_of_ble_eq_true rfl, (by rw [cat_sum rfl]; exact Nat.le_of_ble_eq_true rfl), (by show _ ≤ 601024; omega), (by show _ ≤ 7293034; omega)⟩ ?_
  refine a_icmp_eq_t (pc := 2475) (tgt := 2620) 31 23 rfl (by decide) heq ?_
  refine a_widen (k' := 400 + (t + 1)) (n' := 6000 + 6 * (t + 1)) (by omega) (by omega) ?_
  exact kk _ hI2
set_option maxRecDepth 100000 in
theorem case_price {O : Om} {G : Cx} {b0 L t : Nat} {xs : Nat → Int32} {S : Mem} {I : Nat → Mem → Prop} (st : Step_price I) (hs : LawOk O G b0 L xs) (hL : 5 * t + 5 ≤ L) (hL2 : L ≤ 2560) (hI : I t S) (kk : ∀ S2 : Mem, I (t + 1) S2 → BW O G fdL_law (400 + (t + 1)) (6000 + 6 * (t + 1)) (lawQ G b0) S2 2620 [some (.inl (.ref b0)), some (vr 11 0), some (vr 12 0), some (vr 63 0), some (vi (nI (5 * t))), none, none] []) : BW O G fdL_law (400 + t) (6000 + 6 * t) (lawQ G b0) S 2480 [some (.inl (.ref b0)), some (vr 11 0), some (vr 12 0), some (vr 63 0), some (vi (nI (5 * t))), none, none] [] := by
  have ht : t < 512 := by omega
  refine a_aload_n (pc := 2480) 31 26 rfl rfl ?_
  refine a_aloadR (pc := 2481) 31 27 rfl rfl ?_
  refine a_iload (pc := 2482) 31 28 rfl rfl ?_
  refine a_iconst (pc := 2484) 31 29 (v := 1) rfl (by decide) ?_
  refine a_iadd (pc := 2485) 31 30 rfl ?_
  refine a_sld (pc := 2486) 31 31 (5 * t + 1) hs rfl (nI_1 _) (by omega) (by omega) ?_
  refine a_aload_n (pc := 2487) 31 32 rfl rfl ?_
  obtain ⟨fr, lo, kc, ns, rc, S1, ⟨z1, z2, z3, z4⟩, hC, hok, hth, hout, hI2⟩ := st t S (xs (5 * t + 1)) ht hI
  refine a_callH (pc := 2488) 31 33 hC rfl ch_L_260 rfl ⟨z1, z2, (by rw [cat_sum rfl]; decide), (by show _ ≤ 601024; omega), (by show _ ≤ 7293034; omega)⟩ (fun v9 S9 h9 => ?_)
  obtain ⟨rfl, rfl⟩ := h9
  refine a_istore (pc := 2491) 31 34 (ls2 := [some (.inl (.ref b0)), some (vr 11 0), some (vr 12 0), some (vr 63 0), some (vi (nI (5 * t))), some (vi rc), none]) rfl (by decide) rfl ?_
  refine a_aload_n (pc := 2493) 31 35 rfl rfl ?_
  refine a_aloadR (pc := 2494) 31 36 rfl rfl ?_
  refine a_iload (pc := 2495) 31 37 rfl rfl ?_
  refine a_iconst (pc := 2497) 31 38 (v := 1) rfl (by decide) ?_
  refine a_iadd (pc := 2498) 31 39 rfl ?_
  refine a_sld (pc := 2499) 31 40 (5 * t + 1) hs rfl (nI_1 _) (by omega) (by omega) ?_
  refine a_callVi (pc := 2500) 31 41 (c_X12_price (S := S9) (xs (5 * t + 1)) hok) rfl cv_L_262 (Nat.le_of_ble_eq_true rfl) rfl rfl rfl ⟨Nat.le_of_ble_eq_true rfl, Nat.le_of_ble_eq_true rfl, (by rw [cat_sum rfl]; exact Nat.le_of_ble_eq_true rfl), (by show _ ≤ 601024; omega), (by show _ ≤ 7293034; omega)⟩ ?_
  refine a_set (fun S2 eS2 => ?_)
  refine a_seti (fun bv ebv => ?_)
  rw [eS2] at hth hout hI2
  rw [ebv] at hout
  refine a_istore (pc := 2503) 31 42 (ls2 := [some (.inl (.ref b0)), some (vr 11 0), some (vr 12 0), some (vr 63 0), some (vi (nI (5 * t))), some (vi rc), some (vi bv)]) rfl (by decide) rfl ?_
  refine a_aload_n (pc := 2505) 31 43 rfl rfl ?_
  refine a_callVi (pc := 2506) 31 44 (c_X12_thrown (S := S2)) rfl cv_L_130 (Nat.le_of_ble_eq_true rfl) rfl rfl rfl ⟨Nat.le_of_ble_eq_true rfl, Nat.le_of_ble_eq_true rfl, (by rw [cat_sum rfl]; exact Nat.le_of_ble_eq_true rfl), (by show _ ≤ 601024; omega), (by show _ ≤ 7293034; omega)⟩ ?_
  refine a_iload (pc := 2509) 31 45 rfl rfl ?_
  refine a_icmp_eq_t (pc := 2511) (tgt := 2516) 31 46 rfl (by decide) hth ?_
  refine a_iload (pc := 2516) 32 1 rfl rfl ?_
  have E9 : BW O G fdL_law (400 + t + kc) (6000 + 6 * t + ns) (lawQ G b0) S2 2533 [some (.inl (.ref b0)), some (vr 11 0), some (vr 12 0), some (vr 63 0), some (vi (nI (5 * t))), some (vi rc), some (vi bv)] [] := by
    refine a_goto (pc := 2533) (tgt := 2620) 32 12 rfl (by decide) ?_
    refine a_widen (k' := 400 + (t + 1)) (n' := 6000 + 6 * (t + 1)) (by omega) (by omega) ?_
    refine a_drop (ls2 := [some (.inl (.ref b0)), some (vr 11 0), some (vr 12 0), some (vr 63 0), some (vi (nI (5 * t))), none, none]) ⟨rfl, rfl, rfl, rfl, rfl, trivial⟩ ?_
    exact kk S2 hI2
  refine a_if_ne (pc := 2518) (tgt := 2533) 32 2 rfl (by decide) (fun c8 => E9) (fun c8 => ?_)
  refine a_aload_n (pc := 2521) 32 3 rfl rfl ?_
  refine a_iconst (pc := 2522) 32 4 (v := 0) rfl (by decide) ?_
  refine a_lald (pc := 2523) 32 5 rfl rfl ?_
  refine a_iload (pc := 2524) 32 6 rfl rfl ?_
  refine a_i2l (pc := 2526) 32 7 rfl ?_
  refine a_lcmp (pc := 2527) 32 8 rfl ?_
  exact a_if_eq_t (pc := 2528) (tgt := 2533) 32 9 rfl (by decide) (lcmp_eq (hout c8)) E9
set_option maxRecDepth 100000 in
theorem case_sales {O : Om} {G : Cx} {b0 L t : Nat} {xs : Nat → Int32} {S : Mem} {I : Nat → Mem → Prop} (st : Step_sales I) (hs : LawOk O G b0 L xs) (hL : 5 * t + 5 ≤ L) (hL2 : L ≤ 2560) (hI : I t S) (kk : ∀ S2 : Mem, I (t + 1) S2 → BW O G fdL_law (400 + (t + 1)) (6000 + 6 * (t + 1)) (lawQ G b0) S2 2620 [some (.inl (.ref b0)), some (vr 11 0), some (vr 12 0), some (vr 63 0), some (vi (nI (5 * t))), none, none] []) : BW O G fdL_law (400 + t) (6000 + 6 * t) (lawQ G b0) S 2536 [some (.inl (.ref b0)), some (vr 11 0), some (vr 12 0), some (vr 63 0), some (vi (nI (5 * t))), none, none] [] := by
  have ht : t < 512 := by omega
  refine a_aload_n (pc := 2536) 32 13 rfl rfl ?_
  refine a_aloadR (pc := 2537) 32 14 rfl rfl ?_
  refine a_iload (pc := 2538) 32 15 rfl rfl ?_
  refine a_iconst (pc := 2540) 32 16 (v := 1) rfl (by decide) ?_
  refine a_iadd (pc := 2541) 32 17 rfl ?_
  refine a_sld (pc := 2542) 32 18 (5 * t + 1) hs rfl (nI_1 _) (by omega) (by omega) ?_
  refine a_aloadR (pc := 2543) 32 19 rfl rfl ?_
  refine a_iload (pc := 2544) 32 20 rfl rfl ?_
  refine a_iconst (pc := 2546) 32 21 (v := nI 2) rfl (by decide) ?_
  refine a_iadd (pc := 2547) 32 22 rfl ?_
  refine a_sld (pc := 2548) 32 23 (5 * t + 2) hs rfl (nI_add _ _) (by omega) (by omega) ?_
  have J2557 : ∀ bb1 : Int32, (if xs (5 * t + 2) = 0 then 0 else 1) = bb1 → BW O G fdL_law (400 + t) (6000 + 6 * t) (lawQ G b0) S 2557 [some (.inl (.ref b0)), some (vr 11 0), some (vr 12 0), some (vr 63 0), some (vi (nI (5 * t))), none, none] [vi bb1, vi (xs (5 * t + 1)), vr 11 0] := ?_
  · refine a_if_eq (pc := 2549) (tgt := 2556) 32 24 rfl (by decide) (fun c9 => ?_) (fun c9 => ?_)
    · refine a_iconst (pc := 2556) 32 27 (v := 0) rfl (by decide) ?_
      exact J2557 _ (if_pos c9)
    · refine a_iconst (pc := 2552) 32 25 (v := 1) rfl (by decide) ?_
      refine a_goto (pc := 2553) (tgt := 2557) 32 26 rfl (by decide) ?_
      exact J2557 _ (if_neg c9)
  intro bb1 ebb1
  refine a_aload_n (pc := 2557) 32 28 rfl rfl ?_
  obtain ⟨fr, lo, kc, ns, rc, S1, ⟨z1, z2, z3, z4⟩, hC, hok, hth, hout, hI2⟩ := st t S (xs (5 * t + 1)) bb1 ht hI (by rw [← ebb1]; split; exact Or.inl rfl; exact Or.inr rfl)
  refine a_callH (pc := 2558) 32 29 hC rfl ch_L_263 rfl ⟨z1, z2, (by rw [cat_sum rfl]; decide), (by show _ ≤ 601024; omega), (by show _ ≤ 7293034; omega)⟩ (fun v9 S9 h9 => ?_)
  obtain ⟨rfl, rfl⟩ := h9
  refine a_istore (pc := 2561) 32 30 (ls2 := [some (.inl (.ref b0)), some (vr 11 0), some (vr 12 0), some (vr 63 0), some (vi (nI (5 * t))), some (vi rc), none]) rfl (by decide) rfl ?_
  refine a_aload_n (pc := 2563) 32 31 rfl rfl ?_
  refine a_aloadR (pc := 2564) 32 32 rfl rfl ?_
  refine a_iload (pc := 2565) 32 33 rfl rfl ?_
  refine a_iconst (pc := 2567) 32 34 (v := 1) rfl (by decide) ?_
  refine a_iadd (pc := 2568) 32 35 rfl ?_
  refine a_sld (pc := 2569) 32 36 (5 * t + 1) hs rfl (nI_1 _) (by omega) (by omega) ?_
  refine a_aloadR (pc := 2570) 32 37 rfl rfl ?_
  refine a_iload (pc := 2571) 32 38 rfl rfl ?_
  refine a_iconst (pc := 2573) 32 39 (v := nI 2) rfl (by decide) ?_
  refine a_iadd (pc := 2574) 32 40 rfl ?_
  refine a_sld (pc := 2575) 32 41 (5 * t + 2) hs rfl (nI_add _ _) (by omega) (by omega) ?_
  have J2584 : ∀ bb2 : Int32, (if xs (5 * t + 2) = 0 then 0 else 1) = bb2 → BW O G fdL_law (400 + t + kc) (6000 + 6 * t + ns) (lawQ G b0) S9 2584 [some (.inl (.ref b0)), some (vr 11 0), some (vr 12 0), some (vr 63 0), some (vi (nI (5 * t))), some (vi rc), none] [vi bb2, vi (xs (5 * t + 1)), vr 12 0] := ?_
  · refine a_if_eq (pc := 2576) (tgt := 2583) 32 42 rfl (by decide) (fun c9 => ?_) (fun c9 => ?_)
    · refine a_iconst (pc := 2583) 32 45 (v := 0) rfl (by decide) ?_
      exact J2584 _ (if_pos c9)
    · refine a_iconst (pc := 2579) 32 43 (v := 1) rfl (by decide) ?_
      refine a_goto (pc := 2580) (tgt := 2584) 32 44 rfl (by decide) ?_
      exact J2584 _ (if_neg c9)
  intro bb2 ebb2
  have eb : bb1 = bb2 := ebb1.symm.trans ebb2
  subst eb
  refine a_callVi (pc := 2584) 32 46 (c_X12_sales (S := S9) (xs (5 * t + 1)) bb1 (by rw [← ebb1]; split; exact Or.inl rfl; exact Or.inr rfl) hok) rfl cv_L_266 (Nat.le_of_ble_eq_true rfl) rfl rfl rfl ⟨Nat.le_of_ble_eq_true rfl, Nat.le_of_ble_eq_true rfl, (by rw [cat_sum rfl]; exact Nat.le_of_ble_eq_true rfl), (by show _ ≤ 601024; omega), (by show _ ≤ 7293034; omega)⟩ ?_
  refine a_set (fun S2 eS2 => ?_)
  refine a_seti (fun bv ebv => ?_)
  rw [eS2] at hth hout hI2
  rw [ebv] at hout
  refine a_istore (pc := 2587) 32 47 (ls2 := [some (.inl (.ref b0)), some (vr 11 0), some (vr 12 0), some (vr 63 0), some (vi (nI (5 * t))), some (vi rc), some (vi bv)]) rfl (by decide) rfl ?_
  refine a_aload_n (pc := 2589) 33 0 rfl rfl ?_
  refine a_callVi (pc := 2590) 33 1 (c_X12_thrown (S := S2)) rfl cv_L_130 (Nat.le_of_ble_eq_true rfl) rfl rfl rfl ⟨Nat.le_of_ble_eq_true rfl, Nat.le_of_ble_eq_true rfl, (by rw [cat_sum rfl]; exact Nat.le_of_ble_eq_true rfl), (by show _ ≤ 601024; omega), (by show _ ≤ 7293034; omega)⟩ ?_
  refine a_iload (pc := 2593) 33 2 rfl rfl ?_
  refine a_icmp_eq_t (pc := 2595) (tgt := 2600) 33 3 rfl (by decide) hth ?_
  refine a_iload (pc := 2600) 33 6 rfl rfl ?_
  have E9 : BW O G fdL_law (400 + t + kc) (6000 + 6 * t + ns) (lawQ G b0) S2 2617 [some (.inl (.ref b0)), some (vr 11 0), some (vr 12 0), some (vr 63 0), some (vi (nI (5 * t))), some (vi rc), some (vi bv)] [] := by
    refine a_goto (pc := 2617) (tgt := 2620) 33 17 rfl (by decide) ?_
    refine a_widen (k' := 400 + (t + 1)) (n' := 6000 + 6 * (t + 1)) (by omega) (by omega) ?_
    refine a_drop (ls2 := [some (.inl (.ref b0)), some (vr 11 0), some (vr 12 0), some (vr 63 0), some (vi (nI (5 * t))), none, none]) ⟨rfl, rfl, rfl, rfl, rfl, trivial⟩ ?_
    exact kk S2 hI2
  refine a_if_ne (pc := 2602) (tgt := 2617) 33 7 rfl (by decide) (fun c8 => E9) (fun c8 => ?_)
  refine a_aload_n (pc := 2605) 33 8 rfl rfl ?_
  refine a_iconst (pc := 2606) 33 9 (v := 0) rfl (by decide) ?_
  refine a_lald (pc := 2607) 33 10 rfl rfl ?_
  refine a_iload (pc := 2608) 33 11 rfl rfl ?_
  refine a_i2l (pc := 2610) 33 12 rfl ?_
  refine a_lcmp (pc := 2611) 33 13 rfl ?_
  exact a_if_eq_t (pc := 2612) (tgt := 2617) 33 14 rfl (by decide) (lcmp_eq (hout c8)) E9
