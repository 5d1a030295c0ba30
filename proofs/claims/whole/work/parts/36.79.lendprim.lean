/-! a loan is written -/
def lonR (R : Col) (n : Nat) (b x m r : Int32) : Col := upd2 (upd2 (upd2 (upd2 (upd2 R kLoanHolders n x) kLoanBanks n b) kLoanLefts n m) kLoanRates n r) kLoans 0 (nI (n + 1))
theorem loaS_lon {R : Col} {n : Nat} {b x m r o : Int32} (hn : ix (R kLoans 0) = n) (hn20 : n < 20) (hb : b ≠ o) : loaS (lonR R n b x m r) o = loaS R o := by
  have e : loaS (lonR R n b x m r) o = s32 (fun l => if ru (R kLoanBanks) n b l = o then ru (R kLoanLefts) n m l else 0) (ix (nI (n + 1))) := rfl
  have e2 : s32 (fun l => if ru (R kLoanBanks) n b l = o then ru (R kLoanLefts) n m l else 0) (n + 1) = s32 (fun l => if ru (R kLoanBanks) n b l = o then ru (R kLoanLefts) n m l else 0) n + (if ru (R kLoanBanks) n b n = o then ru (R kLoanLefts) n m n else 0) := rfl
  rw [e, ix_nI (by omega), e2, ru_eq, if_neg hb, Int32.add_zero]
  unfold loaS
  rw [hn]
  refine s32_congr n (fun l hl => ?_)
  show (if ru (R kLoanBanks) n b l = o then ru (R kLoanLefts) n m l else 0) = _
  rw [ru_ne (by omega), ru_ne (by omega)]
theorem capR_lon {R : Col} {n : Nat} {b x m r : Int32} (hn : ix (R kLoans 0) = n) (hn20 : n < 20) (hb : b ≠ nI 4) : capR (lonR R n b x m r) = capR R := by
  have e4 : capR (lonR R n b x m r) = bonS R 4 + loaS (lonR R n b x m r) (nI 4) + R kForeignCost 0 - R kTreasury 0 + s32 (fun k => R kLent k - R kReserves k - R kVaults k) 4 - s32 (fun k => R kNotes k - R kForged k) 16 := rfl
  rw [e4, loaS_lon hn hn20 hb]
  rfl
theorem Rel.lon {C R : Col} {d : Int32} {n : Nat} {b x m r : Int32} (h : Rel C R d) (hn : ix (R kLoans 0) = n) (hn20 : n < 20) (hb : b ≠ nI 4) : Rel (lonR C n b x m r) (lonR R n b x m r) d := by
  obtain ⟨h1, h2, h3, h4, h5, h6, h7, h8, h9⟩ := h
  have eS : ∀ o, logSum (lonR C n b x m r) o = logSum C o := fun o => by
    unfold lonR
    rw [logSum_upd (by decide), logSum_upd (by decide), logSum_upd (by decide), logSum_upd (by decide), logSum_upd (by decide)]
  refine ⟨((((h1.upd _ _ rfl).upd _ _ rfl).upd _ _ rfl).upd _ _ rfl).upd _ _ rfl, LogI_upd (by decide) (LogI_upd (by decide) (LogI_upd (by decide) (LogI_upd (by decide) (LogI_upd (by decide) h2)))), fun a ha => (eS a).trans (h3 a ha), ?_, zDr_off (by decide) (by decide) (zDr_off (by decide) (by decide) (zDr_off (by decide) (by decide) (zDr_off (by decide) (by decide) (zDr_off (by decide) (by decide) h5)))), h6, h7, h8, h9⟩
  rw [eS, capR_lon hn hn20 hb]
  exact h4
theorem N_lon {u v L : Int} {R : Col} {n : Nat} {b x m r : Int32} (nn : Num u v L R) (hn : ix (R kLoans 0) = n) (hn20 : n < 20) (hb : inb b 5) (hx : inb x 16) (hm : 0 ≤ m.toInt ∧ m.toInt ≤ 10000) (hr : 0 ≤ r.toInt ∧ r.toInt ≤ 100) : Num u v L (lonR R n b x m r) := by
  obtain ⟨nh, nu, np, nb, nv, nf, nl, nd, ns, nw, nq⟩ := nn
  refine ⟨nh, nu, np, nb, nv, nf, ?_, nd, ns, nw, nq⟩
  show zL (ru (R kLoans) 0 (nI (n + 1))) (ru (R kLoanHolders) n x) (ru (R kLoanBanks) n b) (ru (R kLoanLefts) n m) (ru (R kLoanRates) n r) (R kOverdue)
  obtain ⟨l1, l2, l3⟩ := nl
  refine ⟨by rw [ru_eq]; exact inb_nI (by omega) (by omega), fun l hl => ?_, fun l hl hl2 => ?_⟩
  · rw [ru_eq, ix_nI (by omega)] at hl
    by_cases e : l = n
    · subst e
      have o0 := l3 l hn20 (by omega)
      rw [ru_eq, ru_eq, ru_eq, ru_eq, o0, w_0]
      exact ⟨hx, hb, hm.1, hm.2, hr.1, hr.2, by omega, by omega, fun _ => by omega⟩
    · rw [ru_ne e, ru_ne e, ru_ne e, ru_ne e]
      exact l2 l (by omega)
  · rw [ru_eq, ix_nI (by omega)] at hl2
    exact l3 l hl (by omega)
