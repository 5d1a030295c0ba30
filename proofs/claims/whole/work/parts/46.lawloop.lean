/-! the law's loop -/
set_option maxRecDepth 100000 in
set_option maxHeartbeats 4000000 in
theorem law_loop {O : Om} {G : Cx} {b0 L : Nat} {xs : Nat → Int32} {I : Nat → Mem → Prop} (st : AllSteps I) (hd : ∀ t S, t < 512 → I t S → I (t + 1) S) (hs : LawOk O G b0 L xs) (hL2 : L ≤ 2560) : ∀ (m t : Nat) (S : Mem), t + m = 513 → 5 * t ≤ L → I t S → BW O G fdL_law (400 + t) (6000 + 6 * t) (lawQ G b0) S 23 [some (.inl (.ref b0)), some (vr 11 0), some (vr 12 0), some (vr 63 0), some (vi (nI (5 * t))), none, none] [] := by
  intro m
  induction m with
  | zero =>
    intro t S h1 h2
    omega
  | succ m ih =>
    intro t S h1 h2 hI
    refine a_iload (pc := 23) 0 13 rfl rfl ?_
    refine a_aloadR (pc := 25) 0 14 rfl rfl ?_
    refine a_slen (pc := 26) 0 15 hs rfl ?_
    refine a_iconst (pc := 27) 0 16 (v := nI 5) rfl (by decide) ?_
    refine a_isub (pc := 28) 0 17 rfl ?_
    rcases Nat.lt_or_ge L (5 * t + 5) with hlt | hge
    · refine a_icmp_gt_t (pc := 29) (tgt := 2626) 0 18 rfl (by decide) (law_end hlt hL2 h2) ?_
      refine a_iconst (pc := 2626) 33 20 (v := 1) rfl (by decide) ?_
      exact a_lret (pc := 2627) 33 21 hs rfl (by omega) (by omega)
    refine a_icmp_gt_f (pc := 29) 0 18 rfl (law_goon hge hL2) (tgt := 2626) (by decide) ?_
    have kk : ∀ S2 : Mem, I (t + 1) S2 → BW O G fdL_law (400 + (t + 1)) (6000 + 6 * (t + 1)) (lawQ G b0) S2 2620 [some (.inl (.ref b0)), some (vr 11 0), some (vr 12 0), some (vr 63 0), some (vi (nI (5 * t))), none, none] [] := by
      intro S2 hI2
      refine a_iinc (pc := 2620) 33 18 (v := nI (5 * (t + 1))) (ls2 := [some (.inl (.ref b0)), some (vr 11 0), some (vr 12 0), some (vr 63 0), some (vi (nI (5 * (t + 1)))), none, none]) rfl rfl (iinc5 t) (by decide) rfl ?_
      refine a_goto (pc := 2623) (tgt := 23) 33 19 rfl (by decide) ?_
      exact ih (t + 1) S2 (by omega) (by omega) hI2
    refine a_aloadR (pc := 32) 0 19 rfl rfl ?_
    refine a_iload (pc := 33) 0 20 rfl rfl ?_
    refine a_sld (pc := 35) 0 21 (5 * t) hs rfl rfl (by omega) (by omega) ?_
    refine a_bipush (pc := 36) 0 22 (v := nI 63) rfl (by decide) ?_
    refine a_iand (pc := 38) 0 23 rfl ?_
    refine a_seti (fun x9 e9 => ?_)
    obtain ⟨s_mint, s_forge, s_hand, s_open, s_close, s_bring, s_draw, s_pay, s_clear, s_limit, s_endow, s_lend, s_payBack, s_window, s_windowBack, s_rules, s_buyBonds, s_bid, s_auction, s_levy, s_spend, s_exchange, s_abroad, s_hire, s_buy, s_day, s_fail, s_days, s_ofHolder, s_accountAnew, s_ofBank, s_ofLoan, s_payment, s_treasury, s_owed, s_foreign, s_central, s_centralAnew, s_money, s_price, s_sales⟩ := st
    by_cases c0 : x9 = nI 0
    · refine a_tabIn (pc := 39) (tgt := 216) (off := 177) 0 24 rfl (by rw [c0]; decide) (by rw [c0]; decide) (by rw [c0]; rfl) (by decide) ?_
      exact case_mint s_mint hs hge hL2 hI kk
    by_cases c1 : x9 = nI 1
    · refine a_tabIn (pc := 39) (tgt := 284) (off := 245) 0 24 rfl (by rw [c1]; decide) (by rw [c1]; decide) (by rw [c1]; rfl) (by decide) ?_
      exact case_forge s_forge hs hge hL2 hI kk
    by_cases c2 : x9 = nI 2
    · refine a_tabIn (pc := 39) (tgt := 352) (off := 313) 0 24 rfl (by rw [c2]; decide) (by rw [c2]; decide) (by rw [c2]; rfl) (by decide) ?_
      exact case_hand s_hand hs hge hL2 hI kk
    by_cases c3 : x9 = nI 3
    · refine a_tabIn (pc := 39) (tgt := 432) (off := 393) 0 24 rfl (by rw [c3]; decide) (by rw [c3]; decide) (by rw [c3]; rfl) (by decide) ?_
      exact case_open s_open hs hge hL2 hI kk
    by_cases c4 : x9 = nI 4
    · refine a_tabIn (pc := 39) (tgt := 500) (off := 461) 0 24 rfl (by rw [c4]; decide) (by rw [c4]; decide) (by rw [c4]; rfl) (by decide) ?_
      exact case_close s_close hs hge hL2 hI kk
    by_cases c5 : x9 = nI 5
    · refine a_tabIn (pc := 39) (tgt := 556) (off := 517) 0 24 rfl (by rw [c5]; decide) (by rw [c5]; decide) (by rw [c5]; rfl) (by decide) ?_
      exact case_bring s_bring hs hge hL2 hI kk
    by_cases c6 : x9 = nI 6
    · refine a_tabIn (pc := 39) (tgt := 624) (off := 585) 0 24 rfl (by rw [c6]; decide) (by rw [c6]; decide) (by rw [c6]; rfl) (by decide) ?_
      exact case_draw s_draw hs hge hL2 hI kk
    by_cases c7 : x9 = nI 7
    · refine a_tabIn (pc := 39) (tgt := 692) (off := 653) 0 24 rfl (by rw [c7]; decide) (by rw [c7]; decide) (by rw [c7]; rfl) (by decide) ?_
      exact case_pay s_pay hs hge hL2 hI kk
    by_cases c8 : x9 = nI 8
    · refine a_tabIn (pc := 39) (tgt := 772) (off := 733) 0 24 rfl (by rw [c8]; decide) (by rw [c8]; decide) (by rw [c8]; rfl) (by decide) ?_
      exact case_clear s_clear hs hge hL2 hI kk
    by_cases c9 : x9 = nI 9
    · refine a_tabIn (pc := 39) (tgt := 785) (off := 746) 0 24 rfl (by rw [c9]; decide) (by rw [c9]; decide) (by rw [c9]; rfl) (by decide) ?_
      exact case_limit s_limit hs hge hL2 hI kk
    by_cases c10 : x9 = nI 10
    · refine a_tabIn (pc := 39) (tgt := 853) (off := 814) 0 24 rfl (by rw [c10]; decide) (by rw [c10]; decide) (by rw [c10]; rfl) (by decide) ?_
      exact case_endow s_endow hs hge hL2 hI kk
    by_cases c11 : x9 = nI 11
    · refine a_tabIn (pc := 39) (tgt := 921) (off := 882) 0 24 rfl (by rw [c11]; decide) (by rw [c11]; decide) (by rw [c11]; rfl) (by decide) ?_
      exact case_lend s_lend hs hge hL2 hI kk
    by_cases c12 : x9 = nI 12
    · refine a_tabIn (pc := 39) (tgt := 1013) (off := 974) 0 24 rfl (by rw [c12]; decide) (by rw [c12]; decide) (by rw [c12]; rfl) (by decide) ?_
      exact case_payBack s_payBack hs hge hL2 hI kk
    by_cases c13 : x9 = nI 13
    · refine a_tabIn (pc := 39) (tgt := 1081) (off := 1042) 0 24 rfl (by rw [c13]; decide) (by rw [c13]; decide) (by rw [c13]; rfl) (by decide) ?_
      exact case_window s_window hs hge hL2 hI kk
    by_cases c14 : x9 = nI 14
    · refine a_tabIn (pc := 39) (tgt := 1149) (off := 1110) 0 24 rfl (by rw [c14]; decide) (by rw [c14]; decide) (by rw [c14]; rfl) (by decide) ?_
      exact case_windowBack s_windowBack hs hge hL2 hI kk
    by_cases c15 : x9 = nI 15
    · refine a_tabIn (pc := 39) (tgt := 1217) (off := 1178) 0 24 rfl (by rw [c15]; decide) (by rw [c15]; decide) (by rw [c15]; rfl) (by decide) ?_
      exact case_rules s_rules hs hge hL2 hI kk
    by_cases c16 : x9 = nI 16
    · refine a_tabIn (pc := 39) (tgt := 1297) (off := 1258) 0 24 rfl (by rw [c16]; decide) (by rw [c16]; decide) (by rw [c16]; rfl) (by decide) ?_
      exact case_buyBonds s_buyBonds hs hge hL2 hI kk
    by_cases c17 : x9 = nI 17
    · refine a_tabIn (pc := 39) (tgt := 1365) (off := 1326) 0 24 rfl (by rw [c17]; decide) (by rw [c17]; decide) (by rw [c17]; rfl) (by decide) ?_
      exact case_bid s_bid hs hge hL2 hI kk
    by_cases c18 : x9 = nI 18
    · refine a_tabIn (pc := 39) (tgt := 1445) (off := 1406) 0 24 rfl (by rw [c18]; decide) (by rw [c18]; decide) (by rw [c18]; rfl) (by decide) ?_
      exact case_auction s_auction hs hge hL2 hI kk
    by_cases c19 : x9 = nI 19
    · refine a_tabIn (pc := 39) (tgt := 1513) (off := 1474) 0 24 rfl (by rw [c19]; decide) (by rw [c19]; decide) (by rw [c19]; rfl) (by decide) ?_
      exact case_levy s_levy hs hge hL2 hI kk
    by_cases c20 : x9 = nI 20
    · refine a_tabIn (pc := 39) (tgt := 1581) (off := 1542) 0 24 rfl (by rw [c20]; decide) (by rw [c20]; decide) (by rw [c20]; rfl) (by decide) ?_
      exact case_spend s_spend hs hge hL2 hI kk
    by_cases c21 : x9 = nI 21
    · refine a_tabIn (pc := 39) (tgt := 1649) (off := 1610) 0 24 rfl (by rw [c21]; decide) (by rw [c21]; decide) (by rw [c21]; rfl) (by decide) ?_
      exact case_exchange s_exchange hs hge hL2 hI kk
    by_cases c22 : x9 = nI 22
    · refine a_tabIn (pc := 39) (tgt := 1705) (off := 1666) 0 24 rfl (by rw [c22]; decide) (by rw [c22]; decide) (by rw [c22]; rfl) (by decide) ?_
      exact case_abroad s_abroad hs hge hL2 hI kk
    by_cases c23 : x9 = nI 23
    · refine a_tabIn (pc := 39) (tgt := 1801) (off := 1762) 0 24 rfl (by rw [c23]; decide) (by rw [c23]; decide) (by rw [c23]; rfl) (by decide) ?_
      exact case_hire s_hire hs hge hL2 hI kk
    by_cases c24 : x9 = nI 24
    · refine a_tabIn (pc := 39) (tgt := 1881) (off := 1842) 0 24 rfl (by rw [c24]; decide) (by rw [c24]; decide) (by rw [c24]; rfl) (by decide) ?_
      exact case_buy s_buy hs hge hL2 hI kk
    by_cases c25 : x9 = nI 25
    · refine a_tabIn (pc := 39) (tgt := 1961) (off := 1922) 0 24 rfl (by rw [c25]; decide) (by rw [c25]; decide) (by rw [c25]; rfl) (by decide) ?_
      exact case_day s_day hs hge hL2 hI kk
    by_cases c26 : x9 = nI 26
    · refine a_tabIn (pc := 39) (tgt := 2017) (off := 1978) 0 24 rfl (by rw [c26]; decide) (by rw [c26]; decide) (by rw [c26]; rfl) (by decide) ?_
      exact case_fail s_fail hs hge hL2 hI kk
    by_cases c27 : x9 = nI 27
    · refine a_tabIn (pc := 39) (tgt := 2073) (off := 2034) 0 24 rfl (by rw [c27]; decide) (by rw [c27]; decide) (by rw [c27]; rfl) (by decide) ?_
      exact case_days s_days hs hge hL2 hI kk
    by_cases c28 : x9 = nI 28
    · refine a_tabIn (pc := 39) (tgt := 2086) (off := 2047) 0 24 rfl (by rw [c28]; decide) (by rw [c28]; decide) (by rw [c28]; rfl) (by decide) ?_
      exact case_ofHolder s_ofHolder hs hge hL2 hI kk
    by_cases c29 : x9 = nI 29
    · refine a_tabIn (pc := 39) (tgt := 2154) (off := 2115) 0 24 rfl (by rw [c29]; decide) (by rw [c29]; decide) (by rw [c29]; rfl) (by decide) ?_
      exact case_accountAnew s_accountAnew hs hge hL2 hI kk
    by_cases c30 : x9 = nI 30
    · refine a_tabIn (pc := 39) (tgt := 2210) (off := 2171) 0 24 rfl (by rw [c30]; decide) (by rw [c30]; decide) (by rw [c30]; rfl) (by decide) ?_
      exact case_ofBank s_ofBank hs hge hL2 hI kk
    by_cases c31 : x9 = nI 31
    · refine a_tabIn (pc := 39) (tgt := 2278) (off := 2239) 0 24 rfl (by rw [c31]; decide) (by rw [c31]; decide) (by rw [c31]; rfl) (by decide) ?_
      exact case_ofLoan s_ofLoan hs hge hL2 hI kk
    by_cases c32 : x9 = nI 32
    · refine a_tabIn (pc := 39) (tgt := 2346) (off := 2307) 0 24 rfl (by rw [c32]; decide) (by rw [c32]; decide) (by rw [c32]; rfl) (by decide) ?_
      exact case_payment s_payment hs hge hL2 hI kk
    by_cases c33 : x9 = nI 33
    · refine a_tabIn (pc := 39) (tgt := 2402) (off := 2363) 0 24 rfl (by rw [c33]; decide) (by rw [c33]; decide) (by rw [c33]; rfl) (by decide) ?_
      exact case_treasury s_treasury hs hge hL2 hI kk
    by_cases c34 : x9 = nI 34
    · refine a_tabIn (pc := 39) (tgt := 2415) (off := 2376) 0 24 rfl (by rw [c34]; decide) (by rw [c34]; decide) (by rw [c34]; rfl) (by decide) ?_
      exact case_owed s_owed hs hge hL2 hI kk
    by_cases c35 : x9 = nI 35
    · refine a_tabIn (pc := 39) (tgt := 2428) (off := 2389) 0 24 rfl (by rw [c35]; decide) (by rw [c35]; decide) (by rw [c35]; rfl) (by decide) ?_
      exact case_foreign s_foreign hs hge hL2 hI kk
    by_cases c36 : x9 = nI 36
    · refine a_tabIn (pc := 39) (tgt := 2441) (off := 2402) 0 24 rfl (by rw [c36]; decide) (by rw [c36]; decide) (by rw [c36]; rfl) (by decide) ?_
      exact case_central s_central hs hge hL2 hI kk
    by_cases c37 : x9 = nI 37
    · refine a_tabIn (pc := 39) (tgt := 2454) (off := 2415) 0 24 rfl (by rw [c37]; decide) (by rw [c37]; decide) (by rw [c37]; rfl) (by decide) ?_
      exact case_centralAnew s_centralAnew hs hge hL2 hI kk
    by_cases c38 : x9 = nI 38
    · refine a_tabIn (pc := 39) (tgt := 2467) (off := 2428) 0 24 rfl (by rw [c38]; decide) (by rw [c38]; decide) (by rw [c38]; rfl) (by decide) ?_
      exact case_money s_money hs hge hL2 hI kk
    by_cases c39 : x9 = nI 39
    · refine a_tabIn (pc := 39) (tgt := 2480) (off := 2441) 0 24 rfl (by rw [c39]; decide) (by rw [c39]; decide) (by rw [c39]; rfl) (by decide) ?_
      exact case_price s_price hs hge hL2 hI kk
    by_cases c40 : x9 = nI 40
    · refine a_tabIn (pc := 39) (tgt := 2536) (off := 2497) 0 24 rfl (by rw [c40]; decide) (by rw [c40]; decide) (by rw [c40]; rfl) (by decide) ?_
      exact case_sales s_sales hs hge hL2 hI kk
    refine a_tabOut (pc := 39) (tgt := 2620) 0 24 rfl (by have := ne_toInt c0 (by decide); have := ne_toInt c1 (by decide); have := ne_toInt c2 (by decide); have := ne_toInt c3 (by decide); have := ne_toInt c4 (by decide); have := ne_toInt c5 (by decide); have := ne_toInt c6 (by decide); have := ne_toInt c7 (by decide); have := ne_toInt c8 (by decide); have := ne_toInt c9 (by decide); have := ne_toInt c10 (by decide); have := ne_toInt c11 (by decide); have := ne_toInt c12 (by decide); have := ne_toInt c13 (by decide); have := ne_toInt c14 (by decide); have := ne_toInt c15 (by decide); have := ne_toInt c16 (by decide); have := ne_toInt c17 (by decide); have := ne_toInt c18 (by decide); have := ne_toInt c19 (by decide); have := ne_toInt c20 (by decide); have := ne_toInt c21 (by decide); have := ne_toInt c22 (by decide); have := ne_toInt c23 (by decide); have := ne_toInt c24 (by decide); have := ne_toInt c25 (by decide); have := ne_toInt c26 (by decide); have := ne_toInt c27 (by decide); have := ne_toInt c28 (by decide); have := ne_toInt c29 (by decide); have := ne_toInt c30 (by decide); have := ne_toInt c31 (by decide); have := ne_toInt c32 (by decide); have := ne_toInt c33 (by decide); have := ne_toInt c34 (by decide); have := ne_toInt c35 (by decide); have := ne_toInt c36 (by decide); have := ne_toInt c37 (by decide); have := ne_toInt c38 (by decide); have := ne_toInt c39 (by decide); have := ne_toInt c40 (by decide); omega) (by decide) ?_
    refine a_widen (k' := 400 + (t + 1)) (n' := 6000 + 6 * (t + 1)) (by omega) (by omega) ?_
    exact kk S (hd t S (by omega) hI)
