/-! a call that answers does not throw; the invariant between calls -/
def II (t : Nat) (S : Mem) : Prop := St (10000 * (t : Int)) S.1 S.2.1
theorem tri {S1 : Mem} {a b : Col} {c : Int64} (h : ((a, b, c) : Mem) = S1) : S1.1 = a ∧ S1.2.1 = b ∧ S1.2.2 = c := by
  subst h
  exact ⟨rfl, rfl, rfl⟩
theorem II.hu {t : Nat} (ht : t < 512) : 10000 * (t : Int) ≤ 5120000 := by omega
theorem II.mono {t t2 : Nat} {S : Mem} (h : II t S) (h2 : t ≤ t2) : II t2 S := St.mono h (by omega)
theorem sn_go {t : Nat} {S : Mem} {c : Int32} {y : Int32 × Mem} (hy : y = (0, T0 S c)) (hc : c ≠ 0) (h : II t S) : y.2.2.1 kThrown 0 = c ∧ (c = 0 → y.2.2.2 = y.1.toInt64) ∧ II (t + 1) y.2 := by
  rw [hy]
  refine ⟨(upd2_eq : upd2 S.2.1 kThrown 0 c kThrown 0 = c), fun q => absurd q hc, ?_⟩
  exact II.mono (t := t) (St.thr h c) (by omega)
theorem sy_go {t : Nat} {u : Int} {S1 : Mem} {x y : Int32 × Mem} (h1 : S1.1 = x.2.1) (h2 : S1.2.2 = x.1.toInt64) (hy : KR y.2 S1) (hg : Good u x y) (hu : u ≤ 10000 * (t : Int) + 10000) : y.2.2.1 kThrown 0 = 0 ∧ ((0 : Int32) = 0 → y.2.2.2 = y.1.toInt64) ∧ II (t + 1) y.2 := by
  obtain ⟨a, b, c⟩ := hg
  refine ⟨a, fun _ => by rw [hy.2, h2, b], ?_⟩
  show St _ y.2.1 y.2.2.1
  rw [hy.1, h1]
  exact c.mono (by omega)
theorem sq_go {t : Nat} {u : Int} {S S1 : Mem} {x : Int32} {y : Int32 × Mem} (h1 : S1.1 = S.1) (h2 : S1.2.2 = x.toInt64) (hy : KR y.2 S1) (hg : Goq u S x y) (hu : u ≤ 10000 * (t : Int) + 10000) : y.2.2.1 kThrown 0 = 0 ∧ ((0 : Int32) = 0 → y.2.2.2 = y.1.toInt64) ∧ II (t + 1) y.2 := by
  obtain ⟨a, b, c⟩ := hg
  refine ⟨a, fun _ => by rw [hy.2, h2, b], ?_⟩
  show St _ y.2.1 y.2.2.1
  rw [hy.1, h1]
  exact c.mono (by omega)
theorem sk_go {t : Nat} {u : Int} {S : Mem} {x : Int32} {y : Int32 × Mem} (hy : KR y.2 S) (hg : Goq u S x y) (hu : u ≤ 10000 * (t : Int) + 10000) : x = y.1 ∧ II (t + 1) y.2 := by
  obtain ⟨a, b, c⟩ := hg
  refine ⟨b.symm, ?_⟩
  show St _ y.2.1 y.2.2.1
  rw [hy.1]
  exact c.mono (by omega)
theorem nb_mint_1 {S : Mem} {p1 p2 : Int32} (ho : ok_X11_mint S p1 p2) (hx : okx_X11_mint_1 S p1 p2) : False := absurd (hx _ rfl) (ho.1 _ rfl)
theorem nb_mint_2 {S : Mem} {p1 p2 : Int32} (ho : ok_X11_mint S p1 p2) (hx : okx_X11_mint_2 S p1 p2) : False := absurd (hx.2 _ rfl) (ho.2.1 _ rfl)
theorem nb_forge_1 {S : Mem} {p1 p2 : Int32} (ho : ok_X11_forge S p1 p2) (hx : okx_X11_forge_1 S p1 p2) : False := absurd (hx _ rfl) (ho.1 _ rfl)
theorem nb_forge_2 {S : Mem} {p1 p2 : Int32} (ho : ok_X11_forge S p1 p2) (hx : okx_X11_forge_2 S p1 p2) : False := absurd (hx.2 _ rfl) (ho.2 _ rfl)
theorem nb_hand_1 {S : Mem} {p1 p2 p3 : Int32} (ho : ok_X11_hand S p1 p2 p3) (hx : okx_X11_hand_1 S p1 p2 p3) : False := absurd (hx _ rfl) (ho.1 _ rfl)
theorem nb_hand_2 {S : Mem} {p1 p2 p3 : Int32} (ho : ok_X11_hand S p1 p2 p3) (hx : okx_X11_hand_2 S p1 p2 p3) : False := absurd (hx.2 _ rfl) (ho.2.1 _ rfl)
theorem nb_hand_3 {S : Mem} {p1 p2 p3 : Int32} (ho : ok_X11_hand S p1 p2 p3) (hx : okx_X11_hand_3 S p1 p2 p3) : False := absurd (hx.2.2 _ rfl) ((ho.2.2 _ rfl)).1
theorem nb_hand_4 {S : Mem} {p1 p2 p3 : Int32} (ho : ok_X11_hand S p1 p2 p3) (hx : okx_X11_hand_4 S p1 p2 p3) : False := absurd (((hx.2.2 _ rfl)).2 _ rfl) ((((ho.2.2 _ rfl)).2).1 _ rfl)
theorem nb_hand_5 {S : Mem} {p1 p2 p3 : Int32} (ho : ok_X11_hand S p1 p2 p3) (hx : okx_X11_hand_5 S p1 p2 p3) : False := absurd ((((hx.2.2 _ rfl)).2).2 _ rfl) ((((ho.2.2 _ rfl)).2).2 _ rfl)
theorem nb_open_1 {S : Mem} {p1 p2 : Int32} (ho : ok_X11_open S p1 p2) (hx : okx_X11_open_1 S p1 p2) : False := absurd (hx _ rfl) (ho.1 _ rfl)
theorem nb_open_2 {S : Mem} {p1 p2 : Int32} (ho : ok_X11_open S p1 p2) (hx : okx_X11_open_2 S p1 p2) : False := absurd (hx.2 _ rfl) (ho.2.1 _ rfl)
theorem nb_open_3 {S : Mem} {p1 p2 : Int32} (ho : ok_X11_open S p1 p2) (hx : okx_X11_open_3 S p1 p2) : False := absurd (hx.2.2 _ rfl) (ho.2.2 _ rfl)
theorem nb_close_1 {S : Mem} {p1 : Int32} (ho : ok_X11_close S p1) (hx : okx_X11_close_1 S p1) : False := absurd (hx _ rfl) (ho.1 _ rfl)
theorem nb_close_2 {S : Mem} {p1 : Int32} (ho : ok_X11_close S p1) (hx : okx_X11_close_2 S p1) : False := absurd (hx.2.2 _ rfl) (ho.2.2 _ rfl)
theorem nb_bring_1 {S : Mem} {p1 p2 : Int32} (ho : ok_X11_bring S p1 p2) (hx : okx_X11_bring_1 S p1 p2) : False := absurd (hx _ rfl) (ho.1 _ rfl)
theorem nb_bring_2 {S : Mem} {p1 p2 : Int32} (ho : ok_X11_bring S p1 p2) (hx : okx_X11_bring_2 S p1 p2) : False := absurd (hx.2 _ rfl) (ho.2.1 _ rfl)
theorem nb_bring_3 {S : Mem} {p1 p2 : Int32} (ho : ok_X11_bring S p1 p2) (hx : okx_X11_bring_3 S p1 p2) : False := absurd (hx.2.2 _ rfl) ((ho.2.2 _ rfl)).1
theorem nb_draw_1 {S : Mem} {p1 p2 : Int32} (ho : ok_X11_draw S p1 p2) (hx : okx_X11_draw_1 S p1 p2) : False := absurd (hx _ rfl) (ho.1 _ rfl)
theorem nb_draw_2 {S : Mem} {p1 p2 : Int32} (ho : ok_X11_draw S p1 p2) (hx : okx_X11_draw_2 S p1 p2) : False := absurd (hx.2 _ rfl) (ho.2.1 _ rfl)
theorem nb_draw_3 {S : Mem} {p1 p2 : Int32} (ho : ok_X11_draw S p1 p2) (hx : okx_X11_draw_3 S p1 p2) : False := absurd (hx.2.2 _ rfl) ((ho.2.2 _ rfl)).1
theorem nb_pay_1 {S : Mem} {p1 p2 p3 : Int32} (ho : ok_X11_pay S p1 p2 p3) (hx : okx_X11_pay_1 S p1 p2 p3) : False := absurd (hx _ rfl) (ho.1 _ rfl)
theorem nb_pay_2 {S : Mem} {p1 p2 p3 : Int32} (ho : ok_X11_pay S p1 p2 p3) (hx : okx_X11_pay_2 S p1 p2 p3) : False := absurd (hx.2 _ rfl) (ho.2.1 _ rfl)
theorem nb_pay_3 {S : Mem} {p1 p2 p3 : Int32} (ho : ok_X11_pay S p1 p2 p3) (hx : okx_X11_pay_3 S p1 p2 p3) : False := absurd (hx.2.2 _ rfl) ((ho.2.2 _ rfl)).1
theorem nb_pay_4 {S : Mem} {p1 p2 p3 : Int32} (ho : ok_X11_pay S p1 p2 p3) (hx : okx_X11_pay_4 S p1 p2 p3) : False := absurd (((hx.2.2 _ rfl)).2 _ rfl) ((((ho.2.2 _ rfl)).2).1 _ rfl)
theorem nb_pay_5 {S : Mem} {p1 p2 p3 : Int32} (ho : ok_X11_pay S p1 p2 p3) (hx : okx_X11_pay_5 S p1 p2 p3) : False := absurd ((((hx.2.2 _ rfl)).2).2 _ rfl) (((((ho.2.2 _ rfl)).2).2 _ rfl)).1
theorem nb_limit_1 {S : Mem} {p1 p2 : Int32} (ho : ok_X11_limit S p1 p2) (hx : okx_X11_limit_1 S p1 p2) : False := absurd (hx _ rfl) (ho.1 _ rfl)
theorem nb_limit_2 {S : Mem} {p1 p2 : Int32} (ho : ok_X11_limit S p1 p2) (hx : okx_X11_limit_2 S p1 p2) : False := absurd (hx.2 _ rfl) (ho.2 _ rfl)
theorem nb_endow_1 {S : Mem} {p1 p2 : Int32} (ho : ok_X11_endow S p1 p2) (hx : okx_X11_endow_1 S p1 p2) : False := absurd (hx _ rfl) (ho.1 _ rfl)
theorem nb_endow_2 {S : Mem} {p1 p2 : Int32} (ho : ok_X11_endow S p1 p2) (hx : okx_X11_endow_2 S p1 p2) : False := absurd (hx.2 _ rfl) (ho.2.1 _ rfl)
theorem nb_endow_3 {S : Mem} {p1 p2 : Int32} (ho : ok_X11_endow S p1 p2) (hx : okx_X11_endow_3 S p1 p2) : False := absurd (hx.2.2 _ rfl) ((ho.2.2 _ rfl)).1
theorem nb_lend_1 {S : Mem} {p1 p2 p3 p4 : Int32} (ho : ok_X11_lend S p1 p2 p3 p4) (hx : okx_X11_lend_1 S p1 p2 p3 p4) : False := absurd (hx _ rfl) (ho.1 _ rfl)
theorem nb_lend_2 {S : Mem} {p1 p2 p3 p4 : Int32} (ho : ok_X11_lend S p1 p2 p3 p4) (hx : okx_X11_lend_2 S p1 p2 p3 p4) : False := absurd (hx.2 _ rfl) (ho.2.1 _ rfl)
theorem nb_lend_3 {S : Mem} {p1 p2 p3 p4 : Int32} (ho : ok_X11_lend S p1 p2 p3 p4) (hx : okx_X11_lend_3 S p1 p2 p3 p4) : False := absurd (hx.2.2 _ rfl) (ho.2.2.1 _ rfl)
theorem nb_lend_4 {S : Mem} {p1 p2 p3 p4 : Int32} (ho : ok_X11_lend S p1 p2 p3 p4) (hx : okx_X11_lend_4 S p1 p2 p3 p4) : False := absurd (hx.2.2.2 _ rfl) (ho.2.2.2.1 _ rfl)
theorem nb_lend_5 {S : Mem} {p1 p2 p3 p4 : Int32} (ho : ok_X11_lend S p1 p2 p3 p4) (hx : okx_X11_lend_5 S p1 p2 p3 p4) : False := absurd (hx.2.2.2.2 _ rfl) ((ho.2.2.2.2 _ rfl)).1
theorem nb_lend_6 {S : Mem} {p1 p2 p3 p4 : Int32} (ho : ok_X11_lend S p1 p2 p3 p4) (hx : okx_X11_lend_6 S p1 p2 p3 p4) : False := absurd ((((((((hx.2.2.2.2 _ rfl)).2).2 _ rfl)).2 _ rfl) _ rfl) _ rfl) (((((((((ho.2.2.2.2 _ rfl)).2).2 _ rfl)).2 _ rfl) _ rfl) _ rfl)).1
theorem nb_payBack_1 {S : Mem} {p1 p2 : Int32} (ho : ok_X11_payBack S p1 p2) (hx : okx_X11_payBack_1 S p1 p2) : False := absurd (hx _ rfl) (ho.1 _ rfl)
theorem nb_payBack_2 {S : Mem} {p1 p2 : Int32} (ho : ok_X11_payBack S p1 p2) (hx : okx_X11_payBack_2 S p1 p2) : False := absurd (hx.2 _ rfl) (ho.2.1 _ rfl)
theorem nb_payBack_3 {S : Mem} {p1 p2 : Int32} (ho : ok_X11_payBack S p1 p2) (hx : okx_X11_payBack_3 S p1 p2) : False := absurd (hx.2.2 _ rfl) ((ho.2.2 _ rfl)).1
theorem nb_window_1 {S : Mem} {p1 p2 : Int32} (ho : ok_X11_window S p1 p2) (hx : okx_X11_window_1 S p1 p2) : False := absurd (hx _ rfl) (ho.1 _ rfl)
theorem nb_window_2 {S : Mem} {p1 p2 : Int32} (ho : ok_X11_window S p1 p2) (hx : okx_X11_window_2 S p1 p2) : False := absurd (hx.2 _ rfl) (ho.2.1 _ rfl)
theorem nb_window_3 {S : Mem} {p1 p2 : Int32} (ho : ok_X11_window S p1 p2) (hx : okx_X11_window_3 S p1 p2) : False := absurd (hx.2.2.2 _ rfl) (ho.2.2.2 _ rfl)
theorem nb_windowBack_1 {S : Mem} {p1 p2 : Int32} (ho : ok_X11_windowBack S p1 p2) (hx : okx_X11_windowBack_1 S p1 p2) : False := absurd (hx _ rfl) (ho.1 _ rfl)
theorem nb_windowBack_2 {S : Mem} {p1 p2 : Int32} (ho : ok_X11_windowBack S p1 p2) (hx : okx_X11_windowBack_2 S p1 p2) : False := absurd (hx.2 _ rfl) (ho.2.1 _ rfl)
theorem nb_windowBack_3 {S : Mem} {p1 p2 : Int32} (ho : ok_X11_windowBack S p1 p2) (hx : okx_X11_windowBack_3 S p1 p2) : False := absurd (hx.2.2 _ rfl) (ho.2.2 _ rfl)
theorem nb_rules_1 {S : Mem} {p1 p2 p3 : Int32} (ho : ok_X11_rules S p1 p2 p3) (hx : okx_X11_rules_1 S p1 p2 p3) : False := absurd (hx _ rfl) (ho.1 _ rfl)
theorem nb_rules_2 {S : Mem} {p1 p2 p3 : Int32} (ho : ok_X11_rules S p1 p2 p3) (hx : okx_X11_rules_2 S p1 p2 p3) : False := absurd (hx.2 _ rfl) (ho.2.1 _ rfl)
theorem nb_rules_3 {S : Mem} {p1 p2 p3 : Int32} (ho : ok_X11_rules S p1 p2 p3) (hx : okx_X11_rules_3 S p1 p2 p3) : False := absurd (hx.2.2 _ rfl) (ho.2.2 _ rfl)
theorem nb_buyBonds_1 {S : Mem} {p1 p2 : Int32} (ho : ok_X11_buyBonds S p1 p2) (hx : okx_X11_buyBonds_1 S p1 p2) : False := absurd (hx _ rfl) (ho.1 _ rfl)
theorem nb_buyBonds_2 {S : Mem} {p1 p2 : Int32} (ho : ok_X11_buyBonds S p1 p2) (hx : okx_X11_buyBonds_2 S p1 p2) : False := absurd (hx.2 _ rfl) (ho.2.1 _ rfl)
theorem nb_buyBonds_3 {S : Mem} {p1 p2 : Int32} (ho : ok_X11_buyBonds S p1 p2) (hx : okx_X11_buyBonds_3 S p1 p2) : False := absurd ((hx.2.2.2 _ rfl) _ rfl) (((ho.2.2.2 _ rfl) _ rfl)).1
theorem nb_bid_1 {S : Mem} {p1 p2 p3 : Int32} (ho : ok_X11_bid S p1 p2 p3) (hx : okx_X11_bid_1 S p1 p2 p3) : False := absurd (hx _ rfl) (ho.1 _ rfl)
theorem nb_bid_2 {S : Mem} {p1 p2 p3 : Int32} (ho : ok_X11_bid S p1 p2 p3) (hx : okx_X11_bid_2 S p1 p2 p3) : False := absurd (hx.2 _ rfl) (ho.2.1 _ rfl)
theorem nb_bid_3 {S : Mem} {p1 p2 p3 : Int32} (ho : ok_X11_bid S p1 p2 p3) (hx : okx_X11_bid_3 S p1 p2 p3) : False := absurd (hx.2.2 _ rfl) (ho.2.2.1 _ rfl)
theorem nb_bid_4 {S : Mem} {p1 p2 p3 : Int32} (ho : ok_X11_bid S p1 p2 p3) (hx : okx_X11_bid_4 S p1 p2 p3) : False := absurd (hx.2.2.2 _ rfl) (ho.2.2.2 _ rfl)
theorem nb_auction_1 {S : Mem} {p1 p2 : Int32} (ho : ok_X11_auction S p1 p2) (hx : okx_X11_auction_1 S p1 p2) : False := absurd (hx _ rfl) (ho.1 _ rfl)
theorem nb_auction_2 {S : Mem} {p1 p2 : Int32} (ho : ok_X11_auction S p1 p2) (hx : okx_X11_auction_2 S p1 p2) : False := absurd (hx.2 _ rfl) (ho.2.1 _ rfl)
theorem nb_auction_3 {S : Mem} {p1 p2 : Int32} (ho : ok_X11_auction S p1 p2) (hx : okx_X11_auction_3 S p1 p2) : False := absurd ((hx.2.2 _ rfl) _ rfl) (((ho.2.2 _ rfl) _ rfl)).1
theorem nb_levy_1 {S : Mem} {p1 p2 : Int32} (ho : ok_X11_levy S p1 p2) (hx : okx_X11_levy_1 S p1 p2) : False := absurd (hx _ rfl) (ho.1 _ rfl)
theorem nb_levy_2 {S : Mem} {p1 p2 : Int32} (ho : ok_X11_levy S p1 p2) (hx : okx_X11_levy_2 S p1 p2) : False := absurd (hx.2 _ rfl) (ho.2.1 _ rfl)
theorem nb_levy_3 {S : Mem} {p1 p2 : Int32} (ho : ok_X11_levy S p1 p2) (hx : okx_X11_levy_3 S p1 p2) : False := absurd (((hx.2.2 _ rfl) _ rfl) _ rfl) ((((ho.2.2 _ rfl) _ rfl) _ rfl)).1
theorem nb_spend_1 {S : Mem} {p1 p2 : Int32} (ho : ok_X11_spend S p1 p2) (hx : okx_X11_spend_1 S p1 p2) : False := absurd (hx _ rfl) (ho.1 _ rfl)
theorem nb_spend_2 {S : Mem} {p1 p2 : Int32} (ho : ok_X11_spend S p1 p2) (hx : okx_X11_spend_2 S p1 p2) : False := absurd (hx.2 _ rfl) (ho.2.1 _ rfl)
theorem nb_spend_3 {S : Mem} {p1 p2 : Int32} (ho : ok_X11_spend S p1 p2) (hx : okx_X11_spend_3 S p1 p2) : False := absurd (hx.2.2 _ rfl) ((ho.2.2 _ rfl)).1
theorem nb_exchange_1 {S : Mem} {p1 : Int32} (ho : ok_X11_exchange S p1) (hx : okx_X11_exchange_1 S p1) : False := absurd (hx _ rfl) (ho _ rfl)
theorem nb_abroad_1 {S : Mem} {p1 p2 p3 : Int32} (ho : ok_X11_abroad S p1 p2 p3) (hx : okx_X11_abroad_1 S p1 p2 p3) : False := absurd (hx _ rfl) (ho.1 _ rfl)
theorem nb_abroad_2 {S : Mem} {p1 p2 p3 : Int32} (ho : ok_X11_abroad S p1 p2 p3) (hx : okx_X11_abroad_2 S p1 p2 p3) : False := absurd (hx.2 _ rfl) (ho.2.1 _ rfl)
theorem nb_abroad_3 {S : Mem} {p1 p2 p3 : Int32} (ho : ok_X11_abroad S p1 p2 p3) (hx : okx_X11_abroad_3 S p1 p2 p3) : False := absurd ((hx.2.2 _ rfl) _ rfl) (((ho.2.2 _ rfl) _ rfl)).1
theorem nb_abroad_4 {S : Mem} {p1 p2 p3 : Int32} (ho : ok_X11_abroad S p1 p2 p3) (hx : okx_X11_abroad_4 S p1 p2 p3) : False := absurd ((((hx.2.2 _ rfl) _ rfl)).2 _ rfl) (((((ho.2.2 _ rfl) _ rfl)).2 _ rfl)).1
theorem nb_hire_1 {S : Mem} {p1 p2 p3 : Int32} (ho : ok_X11_hire S p1 p2 p3) (hx : okx_X11_hire_1 S p1 p2 p3) : False := absurd (hx _ rfl) (ho.1 _ rfl)
theorem nb_hire_2 {S : Mem} {p1 p2 p3 : Int32} (ho : ok_X11_hire S p1 p2 p3) (hx : okx_X11_hire_2 S p1 p2 p3) : False := absurd (hx.2 _ rfl) (ho.2.1 _ rfl)
theorem nb_hire_3 {S : Mem} {p1 p2 p3 : Int32} (ho : ok_X11_hire S p1 p2 p3) (hx : okx_X11_hire_3 S p1 p2 p3) : False := absurd (hx.2.2 _ rfl) (ho.2.2 _ rfl)
theorem nb_buy_1 {S : Mem} {p1 p2 p3 : Int32} (ho : ok_X11_buy S p1 p2 p3) (hx : okx_X11_buy_1 S p1 p2 p3) : False := absurd (hx _ rfl) (ho.1 _ rfl)
theorem nb_buy_2 {S : Mem} {p1 p2 p3 : Int32} (ho : ok_X11_buy S p1 p2 p3) (hx : okx_X11_buy_2 S p1 p2 p3) : False := absurd (hx.2 _ rfl) (ho.2.1 _ rfl)
theorem nb_buy_3 {S : Mem} {p1 p2 p3 : Int32} (ho : ok_X11_buy S p1 p2 p3) (hx : okx_X11_buy_3 S p1 p2 p3) : False := absurd (hx.2.2 _ rfl) (ho.2.2.1 _ rfl)
theorem nb_buy_4 {S : Mem} {p1 p2 p3 : Int32} (ho : ok_X11_buy S p1 p2 p3) (hx : okx_X11_buy_4 S p1 p2 p3) : False := absurd (hx.2.2.2 _ rfl) ((ho.2.2.2 _ rfl)).1
theorem nb_day_1 {S : Mem} {p1 : Int32} (ho : ok_X11_day S p1) (hx : okx_X11_day_1 S p1) : False := absurd (hx _ rfl) (ho.1 _ rfl)
theorem nb_day_2 {S : Mem} {p1 : Int32} (ho : ok_X11_day S p1) (hx : okx_X11_day_2 S p1) : False := absurd (hx.2 _ rfl) ((ho.2 _ rfl)).1
theorem nb_fail_1 {S : Mem} {p1 : Int32} (ho : ok_X11_fail S p1) (hx : okx_X11_fail_1 S p1) : False := absurd (hx _ rfl) (ho.1 _ rfl)
theorem nb_fail_2 {S : Mem} {p1 : Int32} (ho : ok_X11_fail S p1) (hx : okx_X11_fail_2 S p1) : False := absurd (hx.2 _ rfl) ((ho.2 _ rfl)).1
theorem nb_ofHolder_1 {S : Mem} {p1 p2 : Int32} (ho : ok_X11_ofHolder S p1 p2) (hx : okx_X11_ofHolder_1 S p1 p2) : False := absurd (hx _ rfl) (ho.1 _ rfl)
theorem nb_ofHolder_2 {S : Mem} {p1 p2 : Int32} (ho : ok_X11_ofHolder S p1 p2) (hx : okx_X11_ofHolder_2 S p1 p2) : False := absurd (hx.2 _ rfl) (ho.2 _ rfl)
theorem nb_accountAnew_1 {S : Mem} {p1 : Int32} (ho : ok_X11_accountAnew S p1) (hx : okx_X11_accountAnew_1 S p1) : False := absurd (hx _ rfl) (ho.1 _ rfl)
theorem nb_ofBank_1 {S : Mem} {p1 p2 : Int32} (ho : ok_X11_ofBank S p1 p2) (hx : okx_X11_ofBank_1 S p1 p2) : False := absurd (hx _ rfl) (ho.1 _ rfl)
theorem nb_ofBank_2 {S : Mem} {p1 p2 : Int32} (ho : ok_X11_ofBank S p1 p2) (hx : okx_X11_ofBank_2 S p1 p2) : False := absurd (hx.2 _ rfl) (ho.2.1 _ rfl)
theorem nb_ofLoan_1 {S : Mem} {p1 p2 : Int32} (ho : ok_X11_ofLoan S p1 p2) (hx : okx_X11_ofLoan_1 S p1 p2) : False := absurd (hx _ rfl) (ho.1 _ rfl)
theorem nb_ofLoan_2 {S : Mem} {p1 p2 : Int32} (ho : ok_X11_ofLoan S p1 p2) (hx : okx_X11_ofLoan_2 S p1 p2) : False := absurd (hx.2 _ rfl) (ho.2 _ rfl)
theorem nb_payment_1 {S : Mem} {p1 : Int32} (ho : ok_X11_payment S p1) (hx : okx_X11_payment_1 S p1) : False := absurd (hx _ rfl) (ho _ rfl)
theorem nb_price_1 {S : Mem} {p1 : Int32} (ho : ok_X11_price S p1) (hx : okx_X11_price_1 S p1) : False := absurd (hx _ rfl) (ho _ rfl)
theorem nb_sales_1 {S : Mem} {p1 p2 : Int32} (ho : ok_X11_sales S p1 p2) (hx : okx_X11_sales_1 S p1 p2) : False := absurd (hx _ rfl) ((ho _ rfl)).1
