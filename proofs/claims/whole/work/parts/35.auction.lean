def b72_X12_auction (v12 : Int32) (j15 : Nat) (σ16 : Mem) : Mem := lt (if (σ16.2.1 kBidGets j15) = 0 then (0) else (lt (f_X12_up σ16 ((σ16.2.1 kBidGets j15) * v12) (nI 100)) (fun (v22 : Int32) => v22))) (fun (v23 : Int32) => lt ((σ16.1, upd2 σ16.2.1 kReserves (ix (σ16.2.1 kBidBanks j15)) ((σ16.2.1 kReserves (ix (σ16.2.1 kBidBanks j15))) - v23), σ16.2.2)) (fun (S27 : Mem) => lt ((S27.1, upd2 S27.2.1 kTreasury 0 ((S27.2.1 kTreasury 0) + v23), S27.2.2)) (fun (S28 : Mem) => lt ((S28.1, upd2 S28.2.1 kBonds (ix (((nI 5) * (S28.2.1 kAuctions 0)) + (S28.2.1 kBidBanks j15))) ((S28.2.1 kBonds (ix (((nI 5) * (S28.2.1 kAuctions 0)) + (S28.2.1 kBidBanks j15)))) + (S28.2.1 kBidGets j15)), S28.2.2)) (fun (S33 : Mem) => S33))))
def f_X12_auction (S : Mem) (p1 : Int32) (p2 : Int32) : Int32 × Mem := lt (f_X12_in S p1 1 (nI 10000)) (fun (v1 : Int32) => lt (if v1 = 0 then (1) else (lt (f_X12_in S p2 1 (nI 50)) (fun (v3 : Int32) => if v3 = 0 then (1) else (if (S.2.1 kAuctions 0) = (nI 20) then (nI 2) else (0))))) (fun (v6 : Int32) => lt ((f_X12_holds S v6).2) (fun (S7 : Mem) => lt ((f_X12_holds S v6).1) (fun (v8 : Int32) => if v8 = 0 then ((0, S7)) else (lt ((f_X12_takesBids S7 p1).2) (fun (S11 : Mem) => lt ((f_X12_takesBids S7 p1).1) (fun (v12 : Int32) => lt ((S11.1, upd2 S11.2.1 kDues (ix (S11.2.1 kAuctions 0)) ((S11.2.1 kDays 0) + p2), S11.2.2)) (fun (S14 : Mem) => lt (iter (b72_X12_auction v12) S14 (ix (S14.2.1 kBids 0))) (fun (σ16 : Mem) => lt ((σ16.1, upd2 σ16.2.1 kAuctions 0 ((σ16.2.1 kAuctions 0) + 1), σ16.2.2)) (fun (S34 : Mem) => lt ((S34.1, upd2 S34.2.1 kBids 0 0, S34.2.2)) (fun (S35 : Mem) => (v12, S35))))))))))))
def ok_X12_auction (S : Mem) (p1 : Int32) (p2 : Int32) : Prop := ((∀ v1 : Int32, (f_X12_in S p1 1 (nI 10000)) = v1 → ((∀ v6 : Int32, (if v1 = 0 then (1) else (lt (f_X12_in S p2 1 (nI 50)) (fun (v3 : Int32) => if v3 = 0 then (1) else (if (S.2.1 kAuctions 0) = (nI 20) then (nI 2) else (0))))) = v6 → ((∀ S7 : Mem, ((f_X12_holds S v6).2) = S7 → ((∀ v8 : Int32, ((f_X12_holds S v6).1) = v8 → (((¬ (v8 = 0)) → ((ok_X12_takesBids S7 p1) ∧ (∀ S11 : Mem, ((f_X12_takesBids S7 p1).2) = S11 → ((∀ v12 : Int32, ((f_X12_takesBids S7 p1).1) = v12 → ((inb (S11.2.1 kAuctions 0) 20) ∧ (∀ S14 : Mem, ((S11.1, upd2 S11.2.1 kDues (ix (S11.2.1 kAuctions 0)) ((S11.2.1 kDays 0) + p2), S11.2.2)) = S14 → ((∀ j15 : Nat, j15 ≤ ix (S14.2.1 kBids 0) → ∀ σ16 : Mem, iter (b72_X12_auction v12) S14 j15 = σ16 → σ16.2.1 kBids 0 = nI (ix (S14.2.1 kBids 0))) ∧ (∀ j15 : Nat, j15 < ix (S14.2.1 kBids 0) → ∀ σ16 : Mem, iter (b72_X12_auction v12) S14 j15 = σ16 → ((j15 < 12) ∧ ((¬ ((σ16.2.1 kBidGets j15) = 0)) → ((j15 < 12) ∧ (ok_X12_up σ16 ((σ16.2.1 kBidGets j15) * v12) (nI 100)))) ∧ (∀ v23 : Int32, (if (σ16.2.1 kBidGets j15) = 0 then (0) else (lt (f_X12_up σ16 ((σ16.2.1 kBidGets j15) * v12) (nI 100)) (fun (v22 : Int32) => v22))) = v23 → ((j15 < 12) ∧ (inb (σ16.2.1 kBidBanks j15) 4) ∧ (inb (σ16.2.1 kBidBanks j15) 4) ∧ (∀ S27 : Mem, ((σ16.1, upd2 σ16.2.1 kReserves (ix (σ16.2.1 kBidBanks j15)) ((σ16.2.1 kReserves (ix (σ16.2.1 kBidBanks j15))) - v23), σ16.2.2)) = S27 → ((∀ S28 : Mem, ((S27.1, upd2 S27.2.1 kTreasury 0 ((S27.2.1 kTreasury 0) + v23), S27.2.2)) = S28 → ((j15 < 12) ∧ (inb (((nI 5) * (S28.2.1 kAuctions 0)) + (S28.2.1 kBidBanks j15)) 100) ∧ (j15 < 12) ∧ (inb (((nI 5) * (S28.2.1 kAuctions 0)) + (S28.2.1 kBidBanks j15)) 100))))))))))))))))))))))))))
abbrev fdX12_auction : FD := (mdX12_auction, [], 2, 48, 0, 0)
set_option maxRecDepth 100000 in
set_option maxHeartbeats 4000000 in
theorem w_X12_auction {O : Om} {G : Cx} {S : Mem} {PP : Option AV → Mem → Prop} (p1 : Int32) (p2 : Int32)   (h : ok_X12_auction S p1 p2) (hP : ∀ x9 S9, f_X12_auction S p1 p2 = (x9, S9) → PP (some (vi x9)) S9) : BW O G fdX12_auction 0 0 (QV O G 0 0 PP) S 0 [some (vr 12 0), some (vi p1), some (vi p2), none, none, none] [] := by
  refine a_aload_n (pc := 0) 0 0 rfl rfl ?_
  refine a_iload_n (pc := 1) 0 1 rfl rfl ?_
  refine a_iconst (pc := 2) 0 2 (v := 1) rfl (by decide) ?_
  refine a_sipush (pc := 3) 0 3 (v := nI 10000) rfl (by decide) ?_
  refine a_callSi (pc := 6) 0 4 (c_X12_in (S := S) p1 1 (nI 10000)) rfl cs_X12_141 rfl (rm rfl) ?_
  refine a_seti (fun v1 ev1 => ?_)
  have h := h v1 ev1
  have J40_35 : ∀ (v6 : Int32) (ev6 : (if v1 = 0 then (1) else (lt (f_X12_in S p2 1 (nI 50)) (fun (v3 : Int32) => if v3 = 0 then (1) else (if (S.2.1 kAuctions 0) = (nI 20) then (nI 2) else (0))))) = v6), BW O G fdX12_auction 0 0 (QV O G 0 0 PP) S 40 [some (vr 12 0), some (vi p1), some (vi p2), none, none, none] [vi v6, vr 12 0] := by
    intro v6 ev6
    have h := h v6 ev6
    refine a_callVi (pc := 40) 0 20 (c_X12_holds (S := S) v6) rfl cv_X12_175 (by decide) rfl rfl rfl (rm rfl) ?_
    refine a_set (fun S7 eS7 => ?_)
    have h := h S7 eS7
    refine a_seti (fun v8 ev8 => ?_)
    have h := h v8 ev8
    refine a_if_ne (pc := 43) (tgt := 48) 0 21 rfl (by decide) (fun c43_8 => ?_) (fun c43_8 => ?_)
    · have h := h c43_8
      refine a_aload_n (pc := 48) 0 24 rfl rfl ?_
      refine a_iload_n (pc := 49) 0 25 rfl rfl ?_
      obtain ⟨o10, h⟩ := h
      refine a_callVi (pc := 50) 0 26 (c_X12_takesBids (S := S7) p1 o10) rfl cv_X12_261 (by decide) rfl rfl rfl (rm rfl) ?_
      refine a_set (fun S11 eS11 => ?_)
      have h := h S11 eS11
      refine a_seti (fun v12 ev12 => ?_)
      have h := h v12 ev12
      refine a_istore_n (pc := 53) 0 27 (ls2 := [some (vr 12 0), some (vi p1), some (vi p2), some (vi v12), none, none]) rfl rfl (by decide) rfl ?_
      refine a_aload_n (pc := 54) 0 28 rfl rfl ?_
      refine g_12_dues (pc := 55) 0 29 rfl fl_X12_114 ?_
      refine a_aload_n (pc := 58) 0 30 rfl rfl ?_
      refine g_12_auctions (pc := 59) 0 31 rfl fl_X12_145 ?_
      refine a_aload_n (pc := 62) 0 32 rfl rfl ?_
      refine g_12_days (pc := 63) 0 33 rfl fl_X12_196 ?_
      refine a_iload_n (pc := 66) 0 34 rfl rfl ?_
      refine a_iadd (pc := 67) 0 35 rfl ?_
      obtain ⟨o13, h⟩ := h
      refine s_56 (pc := 68) 0 36 (ix (S11.2.1 kAuctions 0)) rfl o13.1 o13.2 ?_
      refine a_set (fun S14 eS14 => ?_)
      have h := h S14 eS14
      refine a_iconst (pc := 69) 0 37 (v := 0) rfl (by decide) ?_
      refine a_istore (pc := 70) 0 38 (ls2 := [some (vr 12 0), some (vi p1), some (vi p2), some (vi v12), some (vi 0), none]) rfl (by decide) rfl ?_
      obtain ⟨o17, hb_j15⟩ := h
      have nlt_j15 := ix_lt (S14.2.1 kBids 0)
      have L72_36 : ∀ (m_j15 j15 : Nat), j15 + m_j15 = ix (S14.2.1 kBids 0) → ∀ (σ16 : Mem), iter (b72_X12_auction v12) S14 j15 = σ16 → BW O G fdX12_auction 0 0 (QV O G 0 0 PP) σ16 72 [some (vr 12 0), some (vi p1), some (vi p2), some (vi v12), some (vi (nI j15)), none] [] := by
        intro m_j15
        induction m_j15 with
        | zero =>
          intro j15 hj_j15 σ16 eσ16
          have o17 := o17 j15 (by omega) σ16 eσ16
          have hn_j15 : j15 = ix (S14.2.1 kBids 0) := by omega
          rw [hn_j15] at eσ16
          refine a_iload (pc := 72) 0 39 rfl rfl ?_
          refine a_aload_n (pc := 74) 0 40 rfl rfl ?_
          refine g_12_bids (pc := 75) 0 41 rfl fl_X12_252 ?_
          refine a_icmp_ge_t (pc := 78) (tgt := 174) 0 42 rfl (by decide) (bd_t (o17) (by omega)) ?_
          refine a_aload_n (pc := 174) 2 1 rfl rfl ?_
          refine a_dup (pc := 175) 2 2 rfl rfl ?_
          refine g_12_auctions (pc := 176) 2 3 rfl fl_X12_145 ?_
          refine a_iconst (pc := 179) 2 4 (v := 1) rfl (by decide) ?_
          refine a_iadd (pc := 180) 2 5 rfl ?_
          refine p_12_auctions (pc := 181) 2 6 rfl fl_X12_145 ?_
          refine a_set (fun S34 eS34 => ?_)
          refine a_aload_n (pc := 184) 2 7 rfl rfl ?_
          refine a_iconst (pc := 185) 2 8 (v := 0) rfl (by decide) ?_
          refine p_12_bids (pc := 186) 2 9 rfl fl_X12_252 ?_
          refine a_set (fun S35 eS35 => ?_)
          refine a_iload_n (pc := 189) 2 10 rfl rfl ?_
          exact a_iret (pc := 190) 2 11 rfl rfl (hP _ _ (by unfold f_X12_auction; exact (lt_eq ev1).trans ((lt_eq ev6).trans ((lt_eq eS7).trans ((lt_eq ev8).trans ((if_neg c43_8).trans ((lt_eq eS11).trans ((lt_eq ev12).trans ((lt_eq eS14).trans ((lt_eq eσ16).trans ((lt_eq eS34).trans (lt_eq eS35))))))))))))
        | succ m_j15 ih_j15 =>
          intro j15 hj_j15 σ16 eσ16
          have o17 := o17 j15 (by omega) σ16 eσ16
          have h := hb_j15 j15 (by omega) σ16 eσ16
          refine a_iload (pc := 72) 0 39 rfl rfl ?_
          refine a_aload_n (pc := 74) 0 40 rfl rfl ?_
          refine g_12_bids (pc := 75) 0 41 rfl fl_X12_252 ?_
          refine a_icmp_ge_f (pc := 78) (tgt := 174) 0 42 rfl (bd_f (o17) (by omega)) (by decide) ?_
          refine a_aload_n (pc := 81) 0 43 rfl rfl ?_
          refine g_12_bidGets (pc := 82) 0 44 rfl fl_X12_129 ?_
          refine a_iload (pc := 85) 0 45 rfl rfl ?_
          obtain ⟨o18, h⟩ := h
          refine e_61 (pc := 87) 0 46 (j15) rfl rfl o18 ?_
          obtain ⟨hr0, h⟩ := h
          have J109_37 : ∀ (v23 : Int32) (ev23 : (if (σ16.2.1 kBidGets j15) = 0 then (0) else (lt (f_X12_up σ16 ((σ16.2.1 kBidGets j15) * v12) (nI 100)) (fun (v22 : Int32) => v22))) = v23), BW O G fdX12_auction 0 0 (QV O G 0 0 PP) σ16 109 [some (vr 12 0), some (vi p1), some (vi p2), some (vi v12), some (vi (nI j15)), none] [vi v23] := by
            intro v23 ev23
            have h := h v23 ev23
            refine a_istore (pc := 109) 1 10 (ls2 := [some (vr 12 0), some (vi p1), some (vi p2), some (vi v12), some (vi (nI j15)), some (vi v23)]) rfl (by decide) rfl ?_
            refine a_aload_n (pc := 111) 1 11 rfl rfl ?_
            refine g_12_reserves (pc := 112) 1 12 rfl fl_X12_50 ?_
            refine a_aload_n (pc := 115) 1 13 rfl rfl ?_
            refine g_12_bidBanks (pc := 116) 1 14 rfl fl_X12_120 ?_
            refine a_iload (pc := 119) 1 15 rfl rfl ?_
            obtain ⟨o24, h⟩ := h
            refine e_58 (pc := 121) 1 16 (j15) rfl rfl o24 ?_
            refine a_dup2 (pc := 122) 1 17 rfl rfl rfl ?_
            obtain ⟨o25, h⟩ := h
            refine e_35 (pc := 123) 1 18 (ix (σ16.2.1 kBidBanks j15)) rfl o25.1 o25.2 ?_
            refine a_iload (pc := 124) 1 19 rfl rfl ?_
            refine a_isub (pc := 126) 1 20 rfl ?_
            obtain ⟨o26, h⟩ := h
            refine s_35 (pc := 127) 1 21 (ix (σ16.2.1 kBidBanks j15)) rfl o26.1 o26.2 ?_
            refine a_set (fun S27 eS27 => ?_)
            have h := h S27 eS27
            refine a_aload_n (pc := 128) 1 22 rfl rfl ?_
            refine a_dup (pc := 129) 1 23 rfl rfl ?_
            refine g_12_treasury (pc := 130) 1 24 rfl fl_X12_168 ?_
            refine a_iload (pc := 133) 1 25 rfl rfl ?_
            refine a_iadd (pc := 135) 1 26 rfl ?_
            refine p_12_treasury (pc := 136) 1 27 rfl fl_X12_168 ?_
            refine a_set (fun S28 eS28 => ?_)
            have h := h S28 eS28
            refine a_aload_n (pc := 139) 1 28 rfl rfl ?_
            refine g_12_bonds (pc := 140) 1 29 rfl fl_X12_117 ?_
            refine a_iconst (pc := 143) 1 30 (v := nI 5) rfl (by decide) ?_
            refine a_aload_n (pc := 144) 1 31 rfl rfl ?_
            refine g_12_auctions (pc := 145) 1 32 rfl fl_X12_145 ?_
            refine a_imul (pc := 148) 1 33 rfl ?_
            refine a_aload_n (pc := 149) 1 34 rfl rfl ?_
            refine g_12_bidBanks (pc := 150) 1 35 rfl fl_X12_120 ?_
            refine a_iload (pc := 153) 1 36 rfl rfl ?_
            obtain ⟨o29, h⟩ := h
            refine e_58 (pc := 155) 1 37 (j15) rfl rfl o29 ?_
            refine a_iadd (pc := 156) 1 38 rfl ?_
            refine a_dup2 (pc := 157) 1 39 rfl rfl rfl ?_
            obtain ⟨o30, h⟩ := h
            refine e_57 (pc := 158) 1 40 (ix (((nI 5) * (S28.2.1 kAuctions 0)) + (S28.2.1 kBidBanks j15))) rfl o30.1 o30.2 ?_
            refine a_aload_n (pc := 159) 1 41 rfl rfl ?_
            refine g_12_bidGets (pc := 160) 1 42 rfl fl_X12_129 ?_
            refine a_iload (pc := 163) 1 43 rfl rfl ?_
            obtain ⟨o31, h⟩ := h
            refine e_61 (pc := 165) 1 44 (j15) rfl rfl o31 ?_
            refine a_iadd (pc := 166) 1 45 rfl ?_
            have o32 := h
            refine s_57 (pc := 167) 1 46 (ix (((nI 5) * (S28.2.1 kAuctions 0)) + (S28.2.1 kBidBanks j15))) rfl o32.1 o32.2 ?_
            refine a_set (fun S33 eS33 => ?_)
            refine a_iinc (pc := 168) 1 47 (v := nI (j15 + 1)) (ls2 := [some (vr 12 0), some (vi p1), some (vi p2), some (vi v12), some (vi (nI (j15 + 1))), some (vi v23)]) rfl rfl (iinc1 _) (by decide) rfl ?_
            refine a_goto (pc := 171) (tgt := 72) 2 0 rfl (by decide) ?_
            refine a_drop (ls2 := [some (vr 12 0), some (vi p1), some (vi p2), some (vi v12), some (vi (nI (j15 + 1))), none]) (⟨rfl, rfl, rfl, rfl, rfl, trivial⟩) ?_
            exact ih_j15 (j15 + 1) (by omega) S33 (by rw [iter_succ, eσ16]; unfold b72_X12_auction; exact ((lt_eq ev23).trans ((lt_eq eS27).trans ((lt_eq eS28).trans (lt_eq eS33)))))
          have h := hr0
          refine a_if_ne (pc := 88) (tgt := 95) 0 47 rfl (by decide) (fun c88_18 => ?_) (fun c88_18 => ?_)
          · have h := h c88_18
            refine a_aload_n (pc := 95) 1 2 rfl rfl ?_
            refine g_12_bidGets (pc := 96) 1 3 rfl fl_X12_129 ?_
            refine a_iload (pc := 99) 1 4 rfl rfl ?_
            obtain ⟨o20, h⟩ := h
            refine e_61 (pc := 101) 1 5 (j15) rfl rfl o20 ?_
            refine a_iload_n (pc := 102) 1 6 rfl rfl ?_
            refine a_imul (pc := 103) 1 7 rfl ?_
            refine a_bipush (pc := 104) 1 8 (v := nI 100) rfl (by decide) ?_
            have o21 := h
            refine a_callSi (pc := 106) 1 9 (c_X12_up (S := σ16) ((σ16.2.1 kBidGets j15) * v12) (nI 100) o21) rfl cs_X12_258 rfl (rm rfl) ?_
            refine a_seti (fun v22 ev22 => ?_)
            exact J109_37 _ (by exact ((if_neg c88_18).trans (lt_eq ev22)))
          · refine a_iconst (pc := 91) 1 0 (v := 0) rfl (by decide) ?_
            refine a_goto (pc := 92) (tgt := 109) 1 1 rfl (by decide) ?_
            exact J109_37 _ (by exact (if_pos c88_18))
      exact L72_36 (ix (S14.2.1 kBids 0)) 0 (by omega) S14 rfl
    · refine a_iconst (pc := 46) 0 22 (v := 0) rfl (by decide) ?_
      exact a_iret (pc := 47) 0 23 rfl rfl (hP _ _ (by unfold f_X12_auction; exact (lt_eq ev1).trans ((lt_eq ev6).trans ((lt_eq eS7).trans ((lt_eq ev8).trans (if_pos c43_8))))))
  refine a_if_eq (pc := 9) (tgt := 22) 0 5 rfl (by decide) (fun c9_1 => ?_) (fun c9_1 => ?_)
  · refine a_iconst (pc := 22) 0 11 (v := 1) rfl (by decide) ?_
    refine a_goto (pc := 23) (tgt := 40) 0 12 rfl (by decide) ?_
    exact J40_35 _ (by exact (if_pos c9_1))
  · refine a_iload_n (pc := 12) 0 6 rfl rfl ?_
    refine a_iconst (pc := 13) 0 7 (v := 1) rfl (by decide) ?_
    refine a_bipush (pc := 14) 0 8 (v := nI 50) rfl (by decide) ?_
    refine a_callSi (pc := 16) 0 9 (c_X12_in (S := S) p2 1 (nI 50)) rfl cs_X12_141 rfl (rm rfl) ?_
    refine a_seti (fun v3 ev3 => ?_)
    refine a_if_ne (pc := 19) (tgt := 26) 0 10 rfl (by decide) (fun c19_3 => ?_) (fun c19_3 => ?_)
    · refine a_aload_n (pc := 26) 0 13 rfl rfl ?_
      refine g_12_auctions (pc := 27) 0 14 rfl fl_X12_145 ?_
      refine a_bipush (pc := 30) 0 15 (v := nI 20) rfl (by decide) ?_
      refine a_icmp_ne (pc := 32) (tgt := 39) 0 16 rfl (by decide) (fun c32_4 => ?_) (fun c32_4 => ?_)
      · refine a_iconst (pc := 39) 0 19 (v := 0) rfl (by decide) ?_
        exact J40_35 _ (by exact ((if_neg c9_1).trans ((lt_eq ev3).trans ((if_neg c19_3).trans (if_neg c32_4)))))
      · refine a_iconst (pc := 35) 0 17 (v := nI 2) rfl (by decide) ?_
        refine a_goto (pc := 36) (tgt := 40) 0 18 rfl (by decide) ?_
        exact J40_35 _ (by exact ((if_neg c9_1).trans ((lt_eq ev3).trans ((if_neg c19_3).trans (if_pos c32_4)))))
    · refine a_iconst (pc := 22) 0 11 (v := 1) rfl (by decide) ?_
      refine a_goto (pc := 23) (tgt := 40) 0 12 rfl (by decide) ?_
      exact J40_35 _ (by exact ((if_neg c9_1).trans ((lt_eq ev3).trans (if_pos c19_3))))
theorem c_X12_auction {S : Mem} (p1 : Int32) (p2 : Int32)   (h : ok_X12_auction S p1 p2) : Cts mdX12_auction 2 48 [vr 12 0, vi p1, vi p2] S (Is (some (vi (f_X12_auction S p1 p2).1)) ((f_X12_auction S p1 p2).2)) := Cts.of dtX12_auction (by decide +kernel) rfl rfl (Nat.le_of_ble_eq_true rfl) rfl (fun O G => w_X12_auction p1 p2 h (fun _ _ h9 => ⟨by rw [h9], by rw [h9]⟩))
