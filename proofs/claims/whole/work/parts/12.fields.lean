/-! a row a field, an array -/
set_option maxRecDepth 20000 in
theorem inW0 : ∀ w ∈ u_ws RX0 TX0 8, w ∈ WSg := by
  intro w hw
  obtain ⟨k, hk, rfl⟩ := List.mem_map.mp hw
  have hk := List.mem_range.mp hk
  rcases (show k = 0 ∨ k = 1 ∨ k = 2 ∨ k = 3 ∨ k = 4 ∨ k = 5 ∨ k = 6 ∨ k = 7 by omega) with rfl | rfl | rfl | rfl | rfl | rfl | rfl | rfl
  · exact wsg_t (i := 167) (by decide +kernel) (by decide +kernel)
  · exact wsg_t (i := 169) (by decide +kernel) (by decide +kernel)
  · exact wsg_t (i := 171) (by decide +kernel) (by decide +kernel)
  · exact wsg_t (i := 173) (by decide +kernel) (by decide +kernel)
  · exact wsg_t (i := 175) (by decide +kernel) (by decide +kernel)
  · exact wsg_t (i := 177) (by decide +kernel) (by decide +kernel)
  · exact wsg_t (i := 179) (by decide +kernel) (by decide +kernel)
  · exact wsg_t (i := 181) (by decide +kernel) (by decide +kernel)
set_option maxRecDepth 20000 in
theorem inW1 : ∀ w ∈ u_ws RX1 TX1 5, w ∈ WSg := by
  intro w hw
  obtain ⟨k, hk, rfl⟩ := List.mem_map.mp hw
  have hk := List.mem_range.mp hk
  rcases (show k = 0 ∨ k = 1 ∨ k = 2 ∨ k = 3 ∨ k = 4 by omega) with rfl | rfl | rfl | rfl | rfl
  · exact wsg_t (i := 329) (by decide +kernel) (by decide +kernel)
  · exact wsg_t (i := 331) (by decide +kernel) (by decide +kernel)
  · exact wsg_t (i := 333) (by decide +kernel) (by decide +kernel)
  · exact wsg_t (i := 335) (by decide +kernel) (by decide +kernel)
  · exact wsg_t (i := 337) (by decide +kernel) (by decide +kernel)
set_option maxRecDepth 20000 in
theorem inW2 : ∀ w ∈ u_ws RX2 TX2 6, w ∈ WSg := by
  intro w hw
  obtain ⟨k, hk, rfl⟩ := List.mem_map.mp hw
  have hk := List.mem_range.mp hk
  rcases (show k = 0 ∨ k = 1 ∨ k = 2 ∨ k = 3 ∨ k = 4 ∨ k = 5 by omega) with rfl | rfl | rfl | rfl | rfl | rfl
  · exact wsg_t (i := 346) (by decide +kernel) (by decide +kernel)
  · exact wsg_t (i := 348) (by decide +kernel) (by decide +kernel)
  · exact wsg_t (i := 350) (by decide +kernel) (by decide +kernel)
  · exact wsg_t (i := 352) (by decide +kernel) (by decide +kernel)
  · exact wsg_t (i := 354) (by decide +kernel) (by decide +kernel)
  · exact wsg_t (i := 356) (by decide +kernel) (by decide +kernel)
set_option maxRecDepth 20000 in
theorem inW3 : ∀ w ∈ u_ws RX3 TX3 6, w ∈ WSg := by
  intro w hw
  obtain ⟨k, hk, rfl⟩ := List.mem_map.mp hw
  have hk := List.mem_range.mp hk
  rcases (show k = 0 ∨ k = 1 ∨ k = 2 ∨ k = 3 ∨ k = 4 ∨ k = 5 by omega) with rfl | rfl | rfl | rfl | rfl | rfl
  · exact wsg_t (i := 193) (by decide +kernel) (by decide +kernel)
  · exact wsg_t (i := 195) (by decide +kernel) (by decide +kernel)
  · exact wsg_t (i := 197) (by decide +kernel) (by decide +kernel)
  · exact wsg_t (i := 199) (by decide +kernel) (by decide +kernel)
  · exact wsg_t (i := 201) (by decide +kernel) (by decide +kernel)
  · exact wsg_t (i := 203) (by decide +kernel) (by decide +kernel)
set_option maxRecDepth 20000 in
theorem inW4 : ∀ w ∈ u_ws RX4 TX4 7, w ∈ WSg := by
  intro w hw
  obtain ⟨k, hk, rfl⟩ := List.mem_map.mp hw
  have hk := List.mem_range.mp hk
  rcases (show k = 0 ∨ k = 1 ∨ k = 2 ∨ k = 3 ∨ k = 4 ∨ k = 5 ∨ k = 6 by omega) with rfl | rfl | rfl | rfl | rfl | rfl | rfl
  · exact wsg_t (i := 52) (by decide +kernel) (by decide +kernel)
  · exact wsg_t (i := 54) (by decide +kernel) (by decide +kernel)
  · exact wsg_t (i := 56) (by decide +kernel) (by decide +kernel)
  · exact wsg_t (i := 58) (by decide +kernel) (by decide +kernel)
  · exact wsg_t (i := 60) (by decide +kernel) (by decide +kernel)
  · exact wsg_t (i := 62) (by decide +kernel) (by decide +kernel)
  · exact wsg_t (i := 64) (by decide +kernel) (by decide +kernel)
set_option maxRecDepth 20000 in
theorem inW5 : ∀ w ∈ u_ws RX5 TX5 11, w ∈ WSg := by
  intro w hw
  obtain ⟨k, hk, rfl⟩ := List.mem_map.mp hw
  have hk := List.mem_range.mp hk
  rcases (show k = 0 ∨ k = 1 ∨ k = 2 ∨ k = 3 ∨ k = 4 ∨ k = 5 ∨ k = 6 ∨ k = 7 ∨ k = 8 ∨ k = 9 ∨ k = 10 by omega) with rfl | rfl | rfl | rfl | rfl | rfl | rfl | rfl | rfl | rfl | rfl
  · exact wsg_t (i := 120) (by decide +kernel) (by decide +kernel)
  · exact wsg_t (i := 122) (by decide +kernel) (by decide +kernel)
  · exact wsg_t (i := 124) (by decide +kernel) (by decide +kernel)
  · exact wsg_t (i := 126) (by decide +kernel) (by decide +kernel)
  · exact wsg_t (i := 128) (by decide +kernel) (by decide +kernel)
  · exact wsg_t (i := 130) (by decide +kernel) (by decide +kernel)
  · exact wsg_t (i := 132) (by decide +kernel) (by decide +kernel)
  · exact wsg_t (i := 134) (by decide +kernel) (by decide +kernel)
  · exact wsg_t (i := 136) (by decide +kernel) (by decide +kernel)
  · exact wsg_t (i := 138) (by decide +kernel) (by decide +kernel)
  · exact wsg_t (i := 140) (by decide +kernel) (by decide +kernel)
set_option maxRecDepth 20000 in
theorem inW6 : ∀ w ∈ u_ws RX6 TX6 5, w ∈ WSg := by
  intro w hw
  obtain ⟨k, hk, rfl⟩ := List.mem_map.mp hw
  have hk := List.mem_range.mp hk
  rcases (show k = 0 ∨ k = 1 ∨ k = 2 ∨ k = 3 ∨ k = 4 by omega) with rfl | rfl | rfl | rfl | rfl
  · exact wsg_t (i := 286) (by decide +kernel) (by decide +kernel)
  · exact wsg_t (i := 288) (by decide +kernel) (by decide +kernel)
  · exact wsg_t (i := 290) (by decide +kernel) (by decide +kernel)
  · exact wsg_t (i := 292) (by decide +kernel) (by decide +kernel)
  · exact wsg_t (i := 294) (by decide +kernel) (by decide +kernel)
set_option maxRecDepth 20000 in
theorem inW7 : ∀ w ∈ u_ws RX7 TX7 3, w ∈ WSg := by
  intro w hw
  obtain ⟨k, hk, rfl⟩ := List.mem_map.mp hw
  have hk := List.mem_range.mp hk
  rcases (show k = 0 ∨ k = 1 ∨ k = 2 by omega) with rfl | rfl | rfl
  · exact wsg_t (i := 301) (by decide +kernel) (by decide +kernel)
  · exact wsg_t (i := 303) (by decide +kernel) (by decide +kernel)
  · exact wsg_t (i := 305) (by decide +kernel) (by decide +kernel)
set_option maxRecDepth 20000 in
theorem inW8 : ∀ w ∈ u_ws RX8 TX8 4, w ∈ WSg := by
  intro w hw
  obtain ⟨k, hk, rfl⟩ := List.mem_map.mp hw
  have hk := List.mem_range.mp hk
  rcases (show k = 0 ∨ k = 1 ∨ k = 2 ∨ k = 3 by omega) with rfl | rfl | rfl | rfl
  · exact wsg_t (i := 77) (by decide +kernel) (by decide +kernel)
  · exact wsg_t (i := 79) (by decide +kernel) (by decide +kernel)
  · exact wsg_t (i := 81) (by decide +kernel) (by decide +kernel)
  · exact wsg_t (i := 83) (by decide +kernel) (by decide +kernel)
set_option maxRecDepth 20000 in
theorem inW9 : ∀ w ∈ u_ws RX9 TX9 9, w ∈ WSg := by
  intro w hw
  obtain ⟨k, hk, rfl⟩ := List.mem_map.mp hw
  have hk := List.mem_range.mp hk
  rcases (show k = 0 ∨ k = 1 ∨ k = 2 ∨ k = 3 ∨ k = 4 ∨ k = 5 ∨ k = 6 ∨ k = 7 ∨ k = 8 by omega) with rfl | rfl | rfl | rfl | rfl | rfl | rfl | rfl | rfl
  · exact wsg_t (i := 232) (by decide +kernel) (by decide +kernel)
  · exact wsg_t (i := 234) (by decide +kernel) (by decide +kernel)
  · exact wsg_t (i := 236) (by decide +kernel) (by decide +kernel)
  · exact wsg_t (i := 238) (by decide +kernel) (by decide +kernel)
  · exact wsg_t (i := 240) (by decide +kernel) (by decide +kernel)
  · exact wsg_t (i := 242) (by decide +kernel) (by decide +kernel)
  · exact wsg_t (i := 244) (by decide +kernel) (by decide +kernel)
  · exact wsg_t (i := 246) (by decide +kernel) (by decide +kernel)
  · exact wsg_t (i := 248) (by decide +kernel) (by decide +kernel)
set_option maxRecDepth 20000 in
theorem inW10 : ∀ w ∈ u_ws RX10 TX10 3, w ∈ WSg := by
  intro w hw
  obtain ⟨k, hk, rfl⟩ := List.mem_map.mp hw
  have hk := List.mem_range.mp hk
  rcases (show k = 0 ∨ k = 1 ∨ k = 2 by omega) with rfl | rfl | rfl
  · exact wsg_t (i := 255) (by decide +kernel) (by decide +kernel)
  · exact wsg_t (i := 257) (by decide +kernel) (by decide +kernel)
  · exact wsg_t (i := 259) (by decide +kernel) (by decide +kernel)
set_option maxRecDepth 20000 in
theorem inW11 : ∀ w ∈ u_ws RX11 TX11 5, w ∈ WSg := by
  intro w hw
  obtain ⟨k, hk, rfl⟩ := List.mem_map.mp hw
  have hk := List.mem_range.mp hk
  rcases (show k = 0 ∨ k = 1 ∨ k = 2 ∨ k = 3 ∨ k = 4 by omega) with rfl | rfl | rfl | rfl | rfl
  · exact wsg_t (i := 364) (by decide +kernel) (by decide +kernel)
  · exact wsg_t (i := 366) (by decide +kernel) (by decide +kernel)
  · exact wsg_t (i := 368) (by decide +kernel) (by decide +kernel)
  · exact wsg_t (i := 370) (by decide +kernel) (by decide +kernel)
  · exact wsg_t (i := 372) (by decide +kernel) (by decide +kernel)
set_option maxRecDepth 20000 in
theorem inW12 : ∀ w ∈ u_ws RX12 TX12 52, w ∈ WSg := by
  intro w hw
  obtain ⟨k, hk, rfl⟩ := List.mem_map.mp hw
  have hk := List.mem_range.mp hk
  rcases (show k = 0 ∨ k = 1 ∨ k = 2 ∨ k = 3 ∨ k = 4 ∨ k = 5 ∨ k = 6 ∨ k = 7 ∨ k = 8 ∨ k = 9 ∨ k = 10 ∨ k = 11 ∨ k = 12 ∨ k = 13 ∨ k = 14 ∨ k = 15 ∨ k = 16 ∨ k = 17 ∨ k = 18 ∨ k = 19 ∨ k = 20 ∨ k = 21 ∨ k = 22 ∨ k = 23 ∨ k = 24 ∨ k = 25 ∨ k = 26 ∨ k = 27 ∨ k = 28 ∨ k = 29 ∨ k = 30 ∨ k = 31 ∨ k = 32 ∨ k = 33 ∨ k = 34 ∨ k = 35 ∨ k = 36 ∨ k = 37 ∨ k = 38 ∨ k = 39 ∨ k = 40 ∨ k = 41 ∨ k = 42 ∨ k = 43 ∨ k = 44 ∨ k = 45 ∨ k = 46 ∨ k = 47 ∨ k = 48 ∨ k = 49 ∨ k = 50 ∨ k = 51 by omega) with rfl | rfl | rfl | rfl | rfl | rfl | rfl | rfl | rfl | rfl | rfl | rfl | rfl | rfl | rfl | rfl | rfl | rfl | rfl | rfl | rfl | rfl | rfl | rfl | rfl | rfl | rfl | rfl | rfl | rfl | rfl | rfl | rfl | rfl | rfl | rfl | rfl | rfl | rfl | rfl | rfl | rfl | rfl | rfl | rfl | rfl | rfl | rfl | rfl | rfl | rfl | rfl
  · exact wsg_t (i := 1160) (by decide +kernel) (by decide +kernel)
  · exact wsg_t (i := 1162) (by decide +kernel) (by decide +kernel)
  · exact wsg_t (i := 1164) (by decide +kernel) (by decide +kernel)
  · exact wsg_t (i := 1166) (by decide +kernel) (by decide +kernel)
  · exact wsg_t (i := 1168) (by decide +kernel) (by decide +kernel)
  · exact wsg_t (i := 1170) (by decide +kernel) (by decide +kernel)
  · exact wsg_t (i := 1172) (by decide +kernel) (by decide +kernel)
  · exact wsg_t (i := 1174) (by decide +kernel) (by decide +kernel)
  · exact wsg_t (i := 1176) (by decide +kernel) (by decide +kernel)
  · exact wsg_t (i := 1178) (by decide +kernel) (by decide +kernel)
  · exact wsg_t (i := 1180) (by decide +kernel) (by decide +kernel)
  · exact wsg_t (i := 1182) (by decide +kernel) (by decide +kernel)
  · exact wsg_t (i := 1184) (by decide +kernel) (by decide +kernel)
  · exact wsg_t (i := 1186) (by decide +kernel) (by decide +kernel)
  · exact wsg_t (i := 1188) (by decide +kernel) (by decide +kernel)
  · exact wsg_t (i := 1190) (by decide +kernel) (by decide +kernel)
  · exact wsg_t (i := 1192) (by decide +kernel) (by decide +kernel)
  · exact wsg_t (i := 1194) (by decide +kernel) (by decide +kernel)
  · exact wsg_t (i := 1196) (by decide +kernel) (by decide +kernel)
  · exact wsg_t (i := 1198) (by decide +kernel) (by decide +kernel)
  · exact wsg_t (i := 1200) (by decide +kernel) (by decide +kernel)
  · exact wsg_t (i := 1202) (by decide +kernel) (by decide +kernel)
  · exact wsg_t (i := 1204) (by decide +kernel) (by decide +kernel)
  · exact wsg_t (i := 1206) (by decide +kernel) (by decide +kernel)
  · exact wsg_t (i := 1208) (by decide +kernel) (by decide +kernel)
  · exact wsg_t (i := 1210) (by decide +kernel) (by decide +kernel)
  · exact wsg_t (i := 1212) (by decide +kernel) (by decide +kernel)
  · exact wsg_t (i := 1214) (by decide +kernel) (by decide +kernel)
  · exact wsg_t (i := 1216) (by decide +kernel) (by decide +kernel)
  · exact wsg_t (i := 1218) (by decide +kernel) (by decide +kernel)
  · exact wsg_t (i := 1220) (by decide +kernel) (by decide +kernel)
  · exact wsg_t (i := 1222) (by decide +kernel) (by decide +kernel)
  · exact wsg_t (i := 1224) (by decide +kernel) (by decide +kernel)
  · exact wsg_t (i := 1226) (by decide +kernel) (by decide +kernel)
  · exact wsg_t (i := 1228) (by decide +kernel) (by decide +kernel)
  · exact wsg_t (i := 1230) (by decide +kernel) (by decide +kernel)
  · exact wsg_t (i := 1232) (by decide +kernel) (by decide +kernel)
  · exact wsg_t (i := 1234) (by decide +kernel) (by decide +kernel)
  · exact wsg_t (i := 1236) (by decide +kernel) (by decide +kernel)
  · exact wsg_t (i := 1238) (by decide +kernel) (by decide +kernel)
  · exact wsg_t (i := 1240) (by decide +kernel) (by decide +kernel)
  · exact wsg_t (i := 1242) (by decide +kernel) (by decide +kernel)
  · exact wsg_t (i := 1244) (by decide +kernel) (by decide +kernel)
  · exact wsg_t (i := 1246) (by decide +kernel) (by decide +kernel)
  · exact wsg_t (i := 1248) (by decide +kernel) (by decide +kernel)
  · exact wsg_t (i := 1250) (by decide +kernel) (by decide +kernel)
  · exact wsg_t (i := 1252) (by decide +kernel) (by decide +kernel)
  · exact wsg_t (i := 1254) (by decide +kernel) (by decide +kernel)
  · exact wsg_t (i := 1256) (by decide +kernel) (by decide +kernel)
  · exact wsg_t (i := 1258) (by decide +kernel) (by decide +kernel)
  · exact wsg_t (i := 1260) (by decide +kernel) (by decide +kernel)
  · exact wsg_t (i := 1262) (by decide +kernel) (by decide +kernel)
theorem nar_b {x : Int32} (h : x = 0 ∨ x = 1) : narrow .boolean (.int x) = .int x := by rcases h with rfl | rfl <;> rfl
theorem vnar_b {x : Int32} (h : x = 0 ∨ x = 1) : vp_nar .boolean x = x := by rcases h with rfl | rfl <;> rfl
theorem ho_C {O : Om} {S : Mem} {kd i c r : Nat} {v : Int32} (h1 : ∀ k' : Nat, k' < 64 → k' ≠ kd → ∀ c' ∈ colsC k', c' ≠ c) (h2 : c < 67) (h3 : kd < 12) (hr : r = i) : ∀ k' i', i' < cntK k' → ¬ (k' = kd ∧ i' = i) → ent O (upd2 S.1 c r v, S.2) k' i' = ent O S k' i' := by
  intro k' i' hi hne
  by_cases hk : k' = kd
  · subst hk
    exact ent_rowC h3 (fun q => hne ⟨rfl, by rw [q, hr]⟩)
  · exact ent_offC ⟨h1 k' (cntK_lt hi) hk, fun _ => by unfold kDrawnC; omega⟩
theorem ho_CA {O : Om} {S : Mem} {kd c r : Nat} {v : Int32} (h1 : ∀ k' : Nat, k' < 64 → k' ≠ kd → ∀ c' ∈ colsC k', c' ≠ c) (h2 : c < 67) (h3 : cntK kd = 1) : ∀ k' i', i' < cntK k' → ¬ (k' = kd ∧ i' = 0) → ent O (upd2 S.1 c r v, S.2) k' i' = ent O S k' i' := by
  intro k' i' hi hne
  by_cases hk : k' = kd
  · subst hk
    exact absurd ⟨rfl, by omega⟩ hne
  · exact ent_offC ⟨h1 k' (cntK_lt hi) hk, fun _ => by unfold kDrawnC; omega⟩
theorem ho_CD {O : Om} {S : Mem} {i r : Nat} {v : Int32} (hi : i < 17) : ∀ k' i', i' < cntK k' → ¬ (k' = 23 ∧ i' = i) → ent O (upd2 S.1 (kDrawnC + i) r v, S.2) k' i' = ent O S k' i' := by
  intro k' i' hi' hne
  refine ent_offC ⟨?_, fun hk => ?_⟩
  · have hc : ∀ k' : Nat, k' < 64 → ∀ c' ∈ colsC k', c' < 67 := by decide +kernel
    intro c' h9
    have := hc k' (cntK_lt hi') c' h9
    unfold kDrawnC
    omega
  · intro q
    exact hne ⟨hk, by omega⟩
theorem ho_R {O : Om} {S : Mem} {kd c r : Nat} {v : Int32} (h1 : ∀ k' : Nat, k' < 64 → k' ≠ kd → ∀ c' ∈ colsR k', c' ≠ c) (h3 : cntK kd = 1) : ∀ k' i', i' < cntK k' → ¬ (k' = kd ∧ i' = 0) → ent O (S.1, upd2 S.2.1 c r v, S.2.2) k' i' = ent O S k' i' := by
  intro k' i' hi hne
  by_cases hk : k' = kd
  · subst hk
    exact absurd ⟨rfl, by omega⟩ hne
  · exact ent_offR (h1 k' (cntK_lt hi) hk)
set_option maxRecDepth 20000 in
theorem g_0_reserves {O : Om} {G : Cx} {D : FD} {k n : Nat} {Q : State → Prop} {S : Mem} {pc : Nat} {ls : List (Option AV)} {st : List AV} (a b : Nat) {index : Nat} {i : Nat} (hT : IA D a b pc (.getfield index) 3) (hi : i < 5) (hl : Cond.fieldLink D.1.1 index "Newsmint$Bank" "reserves" "I" ∈ WSg) (kk : BW O G D k n Q S (pc + 3) ls (vi (S.1 kReserves i) :: st)) : BW O G D k n Q S pc ls (vr 0 i :: st) :=
  a_get a b (v := vi (S.1 kReserves i)) hT hi rfl rfl inW0 (by decide : 0 < 8) hl rfl rfl kk
set_option maxRecDepth 20000 in
theorem p_0_reserves {O : Om} {G : Cx} {D : FD} {k n : Nat} {Q : State → Prop} {S : Mem} {pc : Nat} {ls : List (Option AV)} {st : List AV} (a b : Nat) {index : Nat} {x : Int32} {i : Nat} (hT : IA D a b pc (.putfield index) 3) (hi : i < 5) (hl : Cond.fieldLink D.1.1 index "Newsmint$Bank" "reserves" "I" ∈ WSg) (kk : BW O G D k n Q (upd2 S.1 kReserves i x, S.2) (pc + 3) ls st) : BW O G D k n Q S pc ls (vi x :: vr 0 i :: st) := by
  refine a_put a b (ty := .int) (S' := (upd2 S.1 kReserves i x, S.2)) hT hi rfl rfl inW0 tyX0 tyX0_ok nmX0 (by decide : 0 < 8) hl rfl rfl (by decide +kernel) rfl rfl (Nat.le_of_ble_eq_true rfl) ?_ (ho_C (by decide +kernel) (by decide) (by decide) rfl) kk
  simp only [ent, upd2, if_true, List.set] <;> rfl
set_option maxRecDepth 20000 in
theorem g_0_vault {O : Om} {G : Cx} {D : FD} {k n : Nat} {Q : State → Prop} {S : Mem} {pc : Nat} {ls : List (Option AV)} {st : List AV} (a b : Nat) {index : Nat} {i : Nat} (hT : IA D a b pc (.getfield index) 3) (hi : i < 5) (hl : Cond.fieldLink D.1.1 index "Newsmint$Bank" "vault" "I" ∈ WSg) (kk : BW O G D k n Q S (pc + 3) ls (vi (S.1 kVaults i) :: st)) : BW O G D k n Q S pc ls (vr 0 i :: st) :=
  a_get a b (v := vi (S.1 kVaults i)) hT hi rfl rfl inW0 (by decide : 1 < 8) hl rfl rfl kk
set_option maxRecDepth 20000 in
theorem p_0_vault {O : Om} {G : Cx} {D : FD} {k n : Nat} {Q : State → Prop} {S : Mem} {pc : Nat} {ls : List (Option AV)} {st : List AV} (a b : Nat) {index : Nat} {x : Int32} {i : Nat} (hT : IA D a b pc (.putfield index) 3) (hi : i < 5) (hl : Cond.fieldLink D.1.1 index "Newsmint$Bank" "vault" "I" ∈ WSg) (kk : BW O G D k n Q (upd2 S.1 kVaults i x, S.2) (pc + 3) ls st) : BW O G D k n Q S pc ls (vi x :: vr 0 i :: st) := by
  refine a_put a b (ty := .int) (S' := (upd2 S.1 kVaults i x, S.2)) hT hi rfl rfl inW0 tyX0 tyX0_ok nmX0 (by decide : 1 < 8) hl rfl rfl (by decide +kernel) rfl rfl (Nat.le_of_ble_eq_true rfl) ?_ (ho_C (by decide +kernel) (by decide) (by decide) rfl) kk
  simp only [ent, upd2, if_true, List.set] <;> rfl
set_option maxRecDepth 20000 in
theorem g_0_lent {O : Om} {G : Cx} {D : FD} {k n : Nat} {Q : State → Prop} {S : Mem} {pc : Nat} {ls : List (Option AV)} {st : List AV} (a b : Nat) {index : Nat} {i : Nat} (hT : IA D a b pc (.getfield index) 3) (hi : i < 5) (hl : Cond.fieldLink D.1.1 index "Newsmint$Bank" "lent" "I" ∈ WSg) (kk : BW O G D k n Q S (pc + 3) ls (vi (S.1 kLent i) :: st)) : BW O G D k n Q S pc ls (vr 0 i :: st) :=
  a_get a b (v := vi (S.1 kLent i)) hT hi rfl rfl inW0 (by decide : 2 < 8) hl rfl rfl kk
set_option maxRecDepth 20000 in
theorem p_0_lent {O : Om} {G : Cx} {D : FD} {k n : Nat} {Q : State → Prop} {S : Mem} {pc : Nat} {ls : List (Option AV)} {st : List AV} (a b : Nat) {index : Nat} {x : Int32} {i : Nat} (hT : IA D a b pc (.putfield index) 3) (hi : i < 5) (hl : Cond.fieldLink D.1.1 index "Newsmint$Bank" "lent" "I" ∈ WSg) (kk : BW O G D k n Q (upd2 S.1 kLent i x, S.2) (pc + 3) ls st) : BW O G D k n Q S pc ls (vi x :: vr 0 i :: st) := by
  refine a_put a b (ty := .int) (S' := (upd2 S.1 kLent i x, S.2)) hT hi rfl rfl inW0 tyX0 tyX0_ok nmX0 (by decide : 2 < 8) hl rfl rfl (by decide +kernel) rfl rfl (Nat.le_of_ble_eq_true rfl) ?_ (ho_C (by decide +kernel) (by decide) (by decide) rfl) kk
  simp only [ent, upd2, if_true, List.set] <;> rfl
set_option maxRecDepth 20000 in
theorem g_0_limit {O : Om} {G : Cx} {D : FD} {k n : Nat} {Q : State → Prop} {S : Mem} {pc : Nat} {ls : List (Option AV)} {st : List AV} (a b : Nat) {index : Nat} {i : Nat} (hT : IA D a b pc (.getfield index) 3) (hi : i < 5) (hl : Cond.fieldLink D.1.1 index "Newsmint$Bank" "limit" "I" ∈ WSg) (kk : BW O G D k n Q S (pc + 3) ls (vi (S.1 kLimits i) :: st)) : BW O G D k n Q S pc ls (vr 0 i :: st) :=
  a_get a b (v := vi (S.1 kLimits i)) hT hi rfl rfl inW0 (by decide : 3 < 8) hl rfl rfl kk
set_option maxRecDepth 20000 in
theorem p_0_limit {O : Om} {G : Cx} {D : FD} {k n : Nat} {Q : State → Prop} {S : Mem} {pc : Nat} {ls : List (Option AV)} {st : List AV} (a b : Nat) {index : Nat} {x : Int32} {i : Nat} (hT : IA D a b pc (.putfield index) 3) (hi : i < 5) (hl : Cond.fieldLink D.1.1 index "Newsmint$Bank" "limit" "I" ∈ WSg) (kk : BW O G D k n Q (upd2 S.1 kLimits i x, S.2) (pc + 3) ls st) : BW O G D k n Q S pc ls (vi x :: vr 0 i :: st) := by
  refine a_put a b (ty := .int) (S' := (upd2 S.1 kLimits i x, S.2)) hT hi rfl rfl inW0 tyX0 tyX0_ok nmX0 (by decide : 3 < 8) hl rfl rfl (by decide +kernel) rfl rfl (Nat.le_of_ble_eq_true rfl) ?_ (ho_C (by decide +kernel) (by decide) (by decide) rfl) kk
  simp only [ent, upd2, if_true, List.set] <;> rfl
set_option maxRecDepth 20000 in
theorem g_0_isShort {O : Om} {G : Cx} {D : FD} {k n : Nat} {Q : State → Prop} {S : Mem} {pc : Nat} {ls : List (Option AV)} {st : List AV} (a b : Nat) {index : Nat} {i : Nat} (hT : IA D a b pc (.getfield index) 3) (hi : i < 5) (hl : Cond.fieldLink D.1.1 index "Newsmint$Bank" "isShort" "Z" ∈ WSg) (kk : BW O G D k n Q S (pc + 3) ls (vi (S.1 kAreShort i) :: st)) : BW O G D k n Q S pc ls (vr 0 i :: st) :=
  a_get a b (v := vi (S.1 kAreShort i)) hT hi rfl rfl inW0 (by decide : 4 < 8) hl rfl rfl kk
set_option maxRecDepth 20000 in
theorem p_0_isShort {O : Om} {G : Cx} {D : FD} {k n : Nat} {Q : State → Prop} {S : Mem} {pc : Nat} {ls : List (Option AV)} {st : List AV} (a b : Nat) {index : Nat} {x : Int32} {i : Nat} (hT : IA D a b pc (.putfield index) 3) (hi : i < 5) (hl : Cond.fieldLink D.1.1 index "Newsmint$Bank" "isShort" "Z" ∈ WSg) (hx : x = 0 ∨ x = 1) (kk : BW O G D k n Q (upd2 S.1 kAreShort i x, S.2) (pc + 3) ls st) : BW O G D k n Q S pc ls (vi x :: vr 0 i :: st) := by
  refine a_put a b (ty := .boolean) (S' := (upd2 S.1 kAreShort i x, S.2)) hT hi rfl rfl inW0 tyX0 tyX0_ok nmX0 (by decide : 4 < 8) hl rfl rfl (by decide +kernel) (nar_b hx) (by rcases hx with rfl | rfl <;> rfl) (Nat.le_of_ble_eq_true rfl) ?_ (ho_C (by decide +kernel) (by decide) (by decide) rfl) kk
  simp only [ent, upd2, if_true, List.set] <;> rfl
set_option maxRecDepth 20000 in
theorem g_0_hasFailed {O : Om} {G : Cx} {D : FD} {k n : Nat} {Q : State → Prop} {S : Mem} {pc : Nat} {ls : List (Option AV)} {st : List AV} (a b : Nat) {index : Nat} {i : Nat} (hT : IA D a b pc (.getfield index) 3) (hi : i < 5) (hl : Cond.fieldLink D.1.1 index "Newsmint$Bank" "hasFailed" "Z" ∈ WSg) (kk : BW O G D k n Q S (pc + 3) ls (vi (S.1 kHaveFailed i) :: st)) : BW O G D k n Q S pc ls (vr 0 i :: st) :=
  a_get a b (v := vi (S.1 kHaveFailed i)) hT hi rfl rfl inW0 (by decide : 5 < 8) hl rfl rfl kk
set_option maxRecDepth 20000 in
theorem p_0_hasFailed {O : Om} {G : Cx} {D : FD} {k n : Nat} {Q : State → Prop} {S : Mem} {pc : Nat} {ls : List (Option AV)} {st : List AV} (a b : Nat) {index : Nat} {x : Int32} {i : Nat} (hT : IA D a b pc (.putfield index) 3) (hi : i < 5) (hl : Cond.fieldLink D.1.1 index "Newsmint$Bank" "hasFailed" "Z" ∈ WSg) (hx : x = 0 ∨ x = 1) (kk : BW O G D k n Q (upd2 S.1 kHaveFailed i x, S.2) (pc + 3) ls st) : BW O G D k n Q S pc ls (vi x :: vr 0 i :: st) := by
  refine a_put a b (ty := .boolean) (S' := (upd2 S.1 kHaveFailed i x, S.2)) hT hi rfl rfl inW0 tyX0 tyX0_ok nmX0 (by decide : 5 < 8) hl rfl rfl (by decide +kernel) (nar_b hx) (by rcases hx with rfl | rfl <;> rfl) (Nat.le_of_ble_eq_true rfl) ?_ (ho_C (by decide +kernel) (by decide) (by decide) rfl) kk
  simp only [ent, upd2, if_true, List.set] <;> rfl
set_option maxRecDepth 20000 in
theorem g_0_net {O : Om} {G : Cx} {D : FD} {k n : Nat} {Q : State → Prop} {S : Mem} {pc : Nat} {ls : List (Option AV)} {st : List AV} (a b : Nat) {index : Nat} {i : Nat} (hT : IA D a b pc (.getfield index) 3) (hi : i < 5) (hl : Cond.fieldLink D.1.1 index "Newsmint$Bank" "net" "I" ∈ WSg) (kk : BW O G D k n Q S (pc + 3) ls (vi (S.1 kNets i) :: st)) : BW O G D k n Q S pc ls (vr 0 i :: st) :=
  a_get a b (v := vi (S.1 kNets i)) hT hi rfl rfl inW0 (by decide : 6 < 8) hl rfl rfl kk
set_option maxRecDepth 20000 in
theorem p_0_net {O : Om} {G : Cx} {D : FD} {k n : Nat} {Q : State → Prop} {S : Mem} {pc : Nat} {ls : List (Option AV)} {st : List AV} (a b : Nat) {index : Nat} {x : Int32} {i : Nat} (hT : IA D a b pc (.putfield index) 3) (hi : i < 5) (hl : Cond.fieldLink D.1.1 index "Newsmint$Bank" "net" "I" ∈ WSg) (kk : BW O G D k n Q (upd2 S.1 kNets i x, S.2) (pc + 3) ls st) : BW O G D k n Q S pc ls (vi x :: vr 0 i :: st) := by
  refine a_put a b (ty := .int) (S' := (upd2 S.1 kNets i x, S.2)) hT hi rfl rfl inW0 tyX0 tyX0_ok nmX0 (by decide : 6 < 8) hl rfl rfl (by decide +kernel) rfl rfl (Nat.le_of_ble_eq_true rfl) ?_ (ho_C (by decide +kernel) (by decide) (by decide) rfl) kk
  simp only [ent, upd2, if_true, List.set] <;> rfl
set_option maxRecDepth 20000 in
theorem g_0_promised {O : Om} {G : Cx} {D : FD} {k n : Nat} {Q : State → Prop} {S : Mem} {pc : Nat} {ls : List (Option AV)} {st : List AV} (a b : Nat) {index : Nat} {i : Nat} (hT : IA D a b pc (.getfield index) 3) (hi : i < 5) (hl : Cond.fieldLink D.1.1 index "Newsmint$Bank" "promised" "I" ∈ WSg) (kk : BW O G D k n Q S (pc + 3) ls (vi (S.1 kPromised i) :: st)) : BW O G D k n Q S pc ls (vr 0 i :: st) :=
  a_get a b (v := vi (S.1 kPromised i)) hT hi rfl rfl inW0 (by decide : 7 < 8) hl rfl rfl kk
set_option maxRecDepth 20000 in
theorem p_0_promised {O : Om} {G : Cx} {D : FD} {k n : Nat} {Q : State → Prop} {S : Mem} {pc : Nat} {ls : List (Option AV)} {st : List AV} (a b : Nat) {index : Nat} {x : Int32} {i : Nat} (hT : IA D a b pc (.putfield index) 3) (hi : i < 5) (hl : Cond.fieldLink D.1.1 index "Newsmint$Bank" "promised" "I" ∈ WSg) (kk : BW O G D k n Q (upd2 S.1 kPromised i x, S.2) (pc + 3) ls st) : BW O G D k n Q S pc ls (vi x :: vr 0 i :: st) := by
  refine a_put a b (ty := .int) (S' := (upd2 S.1 kPromised i x, S.2)) hT hi rfl rfl inW0 tyX0 tyX0_ok nmX0 (by decide : 7 < 8) hl rfl rfl (by decide +kernel) rfl rfl (Nat.le_of_ble_eq_true rfl) ?_ (ho_C (by decide +kernel) (by decide) (by decide) rfl) kk
  simp only [ent, upd2, if_true, List.set] <;> rfl
set_option maxRecDepth 20000 in
theorem g_1_bank {O : Om} {G : Cx} {D : FD} {k n : Nat} {Q : State → Prop} {S : Mem} {pc : Nat} {ls : List (Option AV)} {st : List AV} (a b : Nat) {index : Nat} {i : Nat} (hT : IA D a b pc (.getfield index) 3) (hi : i < 13) (hl : Cond.fieldLink D.1.1 index "Newsmint$Bid" "bank" "I" ∈ WSg) (kk : BW O G D k n Q S (pc + 3) ls (vi (S.1 kBidBanks i) :: st)) : BW O G D k n Q S pc ls (vr 1 i :: st) :=
  a_get a b (v := vi (S.1 kBidBanks i)) hT hi rfl rfl inW1 (by decide : 0 < 5) hl rfl rfl kk
set_option maxRecDepth 20000 in
theorem p_1_bank {O : Om} {G : Cx} {D : FD} {k n : Nat} {Q : State → Prop} {S : Mem} {pc : Nat} {ls : List (Option AV)} {st : List AV} (a b : Nat) {index : Nat} {x : Int32} {i : Nat} (hT : IA D a b pc (.putfield index) 3) (hi : i < 13) (hl : Cond.fieldLink D.1.1 index "Newsmint$Bid" "bank" "I" ∈ WSg) (kk : BW O G D k n Q (upd2 S.1 kBidBanks i x, S.2) (pc + 3) ls st) : BW O G D k n Q S pc ls (vi x :: vr 1 i :: st) := by
  refine a_put a b (ty := .int) (S' := (upd2 S.1 kBidBanks i x, S.2)) hT hi rfl rfl inW1 tyX1 tyX1_ok nmX1 (by decide : 0 < 5) hl rfl rfl (by decide +kernel) rfl rfl (Nat.le_of_ble_eq_true rfl) ?_ (ho_C (by decide +kernel) (by decide) (by decide) rfl) kk
  simp only [ent, upd2, if_true, List.set] <;> rfl
set_option maxRecDepth 20000 in
theorem g_1_price {O : Om} {G : Cx} {D : FD} {k n : Nat} {Q : State → Prop} {S : Mem} {pc : Nat} {ls : List (Option AV)} {st : List AV} (a b : Nat) {index : Nat} {i : Nat} (hT : IA D a b pc (.getfield index) 3) (hi : i < 13) (hl : Cond.fieldLink D.1.1 index "Newsmint$Bid" "price" "I" ∈ WSg) (kk : BW O G D k n Q S (pc + 3) ls (vi (S.1 kBidPrices i) :: st)) : BW O G D k n Q S pc ls (vr 1 i :: st) :=
  a_get a b (v := vi (S.1 kBidPrices i)) hT hi rfl rfl inW1 (by decide : 1 < 5) hl rfl rfl kk
set_option maxRecDepth 20000 in
theorem p_1_price {O : Om} {G : Cx} {D : FD} {k n : Nat} {Q : State → Prop} {S : Mem} {pc : Nat} {ls : List (Option AV)} {st : List AV} (a b : Nat) {index : Nat} {x : Int32} {i : Nat} (hT : IA D a b pc (.putfield index) 3) (hi : i < 13) (hl : Cond.fieldLink D.1.1 index "Newsmint$Bid" "price" "I" ∈ WSg) (kk : BW O G D k n Q (upd2 S.1 kBidPrices i x, S.2) (pc + 3) ls st) : BW O G D k n Q S pc ls (vi x :: vr 1 i :: st) := by
  refine a_put a b (ty := .int) (S' := (upd2 S.1 kBidPrices i x, S.2)) hT hi rfl rfl inW1 tyX1 tyX1_ok nmX1 (by decide : 1 < 5) hl rfl rfl (by decide +kernel) rfl rfl (Nat.le_of_ble_eq_true rfl) ?_ (ho_C (by decide +kernel) (by decide) (by decide) rfl) kk
  simp only [ent, upd2, if_true, List.set] <;> rfl
set_option maxRecDepth 20000 in
theorem g_1_number {O : Om} {G : Cx} {D : FD} {k n : Nat} {Q : State → Prop} {S : Mem} {pc : Nat} {ls : List (Option AV)} {st : List AV} (a b : Nat) {index : Nat} {i : Nat} (hT : IA D a b pc (.getfield index) 3) (hi : i < 13) (hl : Cond.fieldLink D.1.1 index "Newsmint$Bid" "number" "I" ∈ WSg) (kk : BW O G D k n Q S (pc + 3) ls (vi (S.1 kBidNumbers i) :: st)) : BW O G D k n Q S pc ls (vr 1 i :: st) :=
  a_get a b (v := vi (S.1 kBidNumbers i)) hT hi rfl rfl inW1 (by decide : 2 < 5) hl rfl rfl kk
set_option maxRecDepth 20000 in
theorem p_1_number {O : Om} {G : Cx} {D : FD} {k n : Nat} {Q : State → Prop} {S : Mem} {pc : Nat} {ls : List (Option AV)} {st : List AV} (a b : Nat) {index : Nat} {x : Int32} {i : Nat} (hT : IA D a b pc (.putfield index) 3) (hi : i < 13) (hl : Cond.fieldLink D.1.1 index "Newsmint$Bid" "number" "I" ∈ WSg) (kk : BW O G D k n Q (upd2 S.1 kBidNumbers i x, S.2) (pc + 3) ls st) : BW O G D k n Q S pc ls (vi x :: vr 1 i :: st) := by
  refine a_put a b (ty := .int) (S' := (upd2 S.1 kBidNumbers i x, S.2)) hT hi rfl rfl inW1 tyX1 tyX1_ok nmX1 (by decide : 2 < 5) hl rfl rfl (by decide +kernel) rfl rfl (Nat.le_of_ble_eq_true rfl) ?_ (ho_C (by decide +kernel) (by decide) (by decide) rfl) kk
  simp only [ent, upd2, if_true, List.set] <;> rfl
set_option maxRecDepth 20000 in
theorem g_1_got {O : Om} {G : Cx} {D : FD} {k n : Nat} {Q : State → Prop} {S : Mem} {pc : Nat} {ls : List (Option AV)} {st : List AV} (a b : Nat) {index : Nat} {i : Nat} (hT : IA D a b pc (.getfield index) 3) (hi : i < 13) (hl : Cond.fieldLink D.1.1 index "Newsmint$Bid" "got" "I" ∈ WSg) (kk : BW O G D k n Q S (pc + 3) ls (vi (S.1 kBidGets i) :: st)) : BW O G D k n Q S pc ls (vr 1 i :: st) :=
  a_get a b (v := vi (S.1 kBidGets i)) hT hi rfl rfl inW1 (by decide : 3 < 5) hl rfl rfl kk
set_option maxRecDepth 20000 in
theorem p_1_got {O : Om} {G : Cx} {D : FD} {k n : Nat} {Q : State → Prop} {S : Mem} {pc : Nat} {ls : List (Option AV)} {st : List AV} (a b : Nat) {index : Nat} {x : Int32} {i : Nat} (hT : IA D a b pc (.putfield index) 3) (hi : i < 13) (hl : Cond.fieldLink D.1.1 index "Newsmint$Bid" "got" "I" ∈ WSg) (kk : BW O G D k n Q (upd2 S.1 kBidGets i x, S.2) (pc + 3) ls st) : BW O G D k n Q S pc ls (vi x :: vr 1 i :: st) := by
  refine a_put a b (ty := .int) (S' := (upd2 S.1 kBidGets i x, S.2)) hT hi rfl rfl inW1 tyX1 tyX1_ok nmX1 (by decide : 3 < 5) hl rfl rfl (by decide +kernel) rfl rfl (Nat.le_of_ble_eq_true rfl) ?_ (ho_C (by decide +kernel) (by decide) (by decide) rfl) kk
  simp only [ent, upd2, if_true, List.set] <;> rfl
set_option maxRecDepth 20000 in
theorem g_1_wasTried {O : Om} {G : Cx} {D : FD} {k n : Nat} {Q : State → Prop} {S : Mem} {pc : Nat} {ls : List (Option AV)} {st : List AV} (a b : Nat) {index : Nat} {i : Nat} (hT : IA D a b pc (.getfield index) 3) (hi : i < 13) (hl : Cond.fieldLink D.1.1 index "Newsmint$Bid" "wasTried" "Z" ∈ WSg) (kk : BW O G D k n Q S (pc + 3) ls (vi (S.1 kAreSeen i) :: st)) : BW O G D k n Q S pc ls (vr 1 i :: st) :=
  a_get a b (v := vi (S.1 kAreSeen i)) hT hi rfl rfl inW1 (by decide : 4 < 5) hl rfl rfl kk
set_option maxRecDepth 20000 in
theorem p_1_wasTried {O : Om} {G : Cx} {D : FD} {k n : Nat} {Q : State → Prop} {S : Mem} {pc : Nat} {ls : List (Option AV)} {st : List AV} (a b : Nat) {index : Nat} {x : Int32} {i : Nat} (hT : IA D a b pc (.putfield index) 3) (hi : i < 13) (hl : Cond.fieldLink D.1.1 index "Newsmint$Bid" "wasTried" "Z" ∈ WSg) (hx : x = 0 ∨ x = 1) (kk : BW O G D k n Q (upd2 S.1 kAreSeen i x, S.2) (pc + 3) ls st) : BW O G D k n Q S pc ls (vi x :: vr 1 i :: st) := by
  refine a_put a b (ty := .boolean) (S' := (upd2 S.1 kAreSeen i x, S.2)) hT hi rfl rfl inW1 tyX1 tyX1_ok nmX1 (by decide : 4 < 5) hl rfl rfl (by decide +kernel) (nar_b hx) (by rcases hx with rfl | rfl <;> rfl) (Nat.le_of_ble_eq_true rfl) ?_ (ho_C (by decide +kernel) (by decide) (by decide) rfl) kk
  simp only [ent, upd2, if_true, List.set] <;> rfl
set_option maxRecDepth 20000 in
theorem g_2_bids {O : Om} {G : Cx} {D : FD} {k n : Nat} {Q : State → Prop} {S : Mem} {pc : Nat} {ls : List (Option AV)} {st : List AV} (a b : Nat) {index : Nat} (hT : IA D a b pc (.getfield index) 3) (hl : Cond.fieldLink D.1.1 index "Newsmint$Bonds" "bids" "[LNewsmint$Bid;" ∈ WSg) (kk : BW O G D k n Q S (pc + 3) ls (vr 17 0 :: st)) : BW O G D k n Q S pc ls (vr 2 0 :: st) :=
  a_get a b (v := vr 17 0) hT (by decide) rfl rfl inW2 (by decide : 0 < 6) hl rfl rfl kk
set_option maxRecDepth 20000 in
theorem g_2_noBid {O : Om} {G : Cx} {D : FD} {k n : Nat} {Q : State → Prop} {S : Mem} {pc : Nat} {ls : List (Option AV)} {st : List AV} (a b : Nat) {index : Nat} (hT : IA D a b pc (.getfield index) 3) (hl : Cond.fieldLink D.1.1 index "Newsmint$Bonds" "noBid" "LNewsmint$Bid;" ∈ WSg) (kk : BW O G D k n Q S (pc + 3) ls (vr 1 12 :: st)) : BW O G D k n Q S pc ls (vr 2 0 :: st) :=
  a_get a b (v := vr 1 12) hT (by decide) rfl rfl inW2 (by decide : 1 < 6) hl rfl rfl kk
set_option maxRecDepth 20000 in
theorem g_2_bidCount {O : Om} {G : Cx} {D : FD} {k n : Nat} {Q : State → Prop} {S : Mem} {pc : Nat} {ls : List (Option AV)} {st : List AV} (a b : Nat) {index : Nat} (hT : IA D a b pc (.getfield index) 3) (hl : Cond.fieldLink D.1.1 index "Newsmint$Bonds" "bidCount" "I" ∈ WSg) (kk : BW O G D k n Q S (pc + 3) ls (vi (S.1 kBids 0) :: st)) : BW O G D k n Q S pc ls (vr 2 0 :: st) :=
  a_get a b (v := vi (S.1 kBids 0)) hT (by decide) rfl rfl inW2 (by decide : 2 < 6) hl rfl rfl kk
set_option maxRecDepth 20000 in
theorem p_2_bidCount {O : Om} {G : Cx} {D : FD} {k n : Nat} {Q : State → Prop} {S : Mem} {pc : Nat} {ls : List (Option AV)} {st : List AV} (a b : Nat) {index : Nat} {x : Int32} (hT : IA D a b pc (.putfield index) 3) (hl : Cond.fieldLink D.1.1 index "Newsmint$Bonds" "bidCount" "I" ∈ WSg) (kk : BW O G D k n Q (upd2 S.1 kBids 0 x, S.2) (pc + 3) ls st) : BW O G D k n Q S pc ls (vi x :: vr 2 0 :: st) := by
  refine a_put a b (ty := .int) (S' := (upd2 S.1 kBids 0 x, S.2)) hT (by decide) rfl rfl inW2 tyX2 tyX2_ok nmX2 (by decide : 2 < 6) hl rfl rfl (by decide +kernel) rfl rfl (Nat.le_of_ble_eq_true rfl) ?_ (ho_C (by decide +kernel) (by decide) (by decide) rfl) kk
  simp only [ent, upd2, if_true, List.set] <;> rfl
set_option maxRecDepth 20000 in
theorem g_2_auctionCount {O : Om} {G : Cx} {D : FD} {k n : Nat} {Q : State → Prop} {S : Mem} {pc : Nat} {ls : List (Option AV)} {st : List AV} (a b : Nat) {index : Nat} (hT : IA D a b pc (.getfield index) 3) (hl : Cond.fieldLink D.1.1 index "Newsmint$Bonds" "auctionCount" "I" ∈ WSg) (kk : BW O G D k n Q S (pc + 3) ls (vi (S.1 kAuctions 0) :: st)) : BW O G D k n Q S pc ls (vr 2 0 :: st) :=
  a_get a b (v := vi (S.1 kAuctions 0)) hT (by decide) rfl rfl inW2 (by decide : 3 < 6) hl rfl rfl kk
set_option maxRecDepth 20000 in
theorem p_2_auctionCount {O : Om} {G : Cx} {D : FD} {k n : Nat} {Q : State → Prop} {S : Mem} {pc : Nat} {ls : List (Option AV)} {st : List AV} (a b : Nat) {index : Nat} {x : Int32} (hT : IA D a b pc (.putfield index) 3) (hl : Cond.fieldLink D.1.1 index "Newsmint$Bonds" "auctionCount" "I" ∈ WSg) (kk : BW O G D k n Q (upd2 S.1 kAuctions 0 x, S.2) (pc + 3) ls st) : BW O G D k n Q S pc ls (vi x :: vr 2 0 :: st) := by
  refine a_put a b (ty := .int) (S' := (upd2 S.1 kAuctions 0 x, S.2)) hT (by decide) rfl rfl inW2 tyX2 tyX2_ok nmX2 (by decide : 3 < 6) hl rfl rfl (by decide +kernel) rfl rfl (Nat.le_of_ble_eq_true rfl) ?_ (ho_C (by decide +kernel) (by decide) (by decide) rfl) kk
  simp only [ent, upd2, if_true, List.set] <;> rfl
set_option maxRecDepth 20000 in
theorem g_2_dueOn {O : Om} {G : Cx} {D : FD} {k n : Nat} {Q : State → Prop} {S : Mem} {pc : Nat} {ls : List (Option AV)} {st : List AV} (a b : Nat) {index : Nat} (hT : IA D a b pc (.getfield index) 3) (hl : Cond.fieldLink D.1.1 index "Newsmint$Bonds" "dueOn" "[I" ∈ WSg) (kk : BW O G D k n Q S (pc + 3) ls (vr 18 0 :: st)) : BW O G D k n Q S pc ls (vr 2 0 :: st) :=
  a_get a b (v := vr 18 0) hT (by decide) rfl rfl inW2 (by decide : 4 < 6) hl rfl rfl kk
set_option maxRecDepth 20000 in
theorem g_2_numbers {O : Om} {G : Cx} {D : FD} {k n : Nat} {Q : State → Prop} {S : Mem} {pc : Nat} {ls : List (Option AV)} {st : List AV} (a b : Nat) {index : Nat} (hT : IA D a b pc (.getfield index) 3) (hl : Cond.fieldLink D.1.1 index "Newsmint$Bonds" "numbers" "[I" ∈ WSg) (kk : BW O G D k n Q S (pc + 3) ls (vr 19 0 :: st)) : BW O G D k n Q S pc ls (vr 2 0 :: st) :=
  a_get a b (v := vr 19 0) hT (by decide) rfl rfl inW2 (by decide : 5 < 6) hl rfl rfl kk
set_option maxRecDepth 20000 in
theorem g_3_central {O : Om} {G : Cx} {D : FD} {k n : Nat} {Q : State → Prop} {S : Mem} {pc : Nat} {ls : List (Option AV)} {st : List AV} (a b : Nat) {index : Nat} (hT : IA D a b pc (.getfield index) 3) (hl : Cond.fieldLink D.1.1 index "Newsmint$Books" "central" "LNewsmint$Central;" ∈ WSg) (kk : BW O G D k n Q S (pc + 3) ls (vr 4 0 :: st)) : BW O G D k n Q S pc ls (vr 3 0 :: st) :=
  a_get a b (v := vr 4 0) hT (by decide) rfl rfl inW3 (by decide : 0 < 6) hl rfl rfl kk
set_option maxRecDepth 20000 in
theorem g_3_log {O : Om} {G : Cx} {D : FD} {k n : Nat} {Q : State → Prop} {S : Mem} {pc : Nat} {ls : List (Option AV)} {st : List AV} (a b : Nat) {index : Nat} (hT : IA D a b pc (.getfield index) 3) (hl : Cond.fieldLink D.1.1 index "Newsmint$Books" "log" "LNewsmint$Log;" ∈ WSg) (kk : BW O G D k n Q S (pc + 3) ls (vr 8 0 :: st)) : BW O G D k n Q S pc ls (vr 3 0 :: st) :=
  a_get a b (v := vr 8 0) hT (by decide) rfl rfl inW3 (by decide : 1 < 6) hl rfl rfl kk
set_option maxRecDepth 20000 in
theorem g_3_holders {O : Om} {G : Cx} {D : FD} {k n : Nat} {Q : State → Prop} {S : Mem} {pc : Nat} {ls : List (Option AV)} {st : List AV} (a b : Nat) {index : Nat} (hT : IA D a b pc (.getfield index) 3) (hl : Cond.fieldLink D.1.1 index "Newsmint$Books" "holders" "[LNewsmint$Holder;" ∈ WSg) (kk : BW O G D k n Q S (pc + 3) ls (vr 13 0 :: st)) : BW O G D k n Q S pc ls (vr 3 0 :: st) :=
  a_get a b (v := vr 13 0) hT (by decide) rfl rfl inW3 (by decide : 2 < 6) hl rfl rfl kk
set_option maxRecDepth 20000 in
theorem g_3_banks {O : Om} {G : Cx} {D : FD} {k n : Nat} {Q : State → Prop} {S : Mem} {pc : Nat} {ls : List (Option AV)} {st : List AV} (a b : Nat) {index : Nat} (hT : IA D a b pc (.getfield index) 3) (hl : Cond.fieldLink D.1.1 index "Newsmint$Books" "banks" "[LNewsmint$Bank;" ∈ WSg) (kk : BW O G D k n Q S (pc + 3) ls (vr 14 0 :: st)) : BW O G D k n Q S pc ls (vr 3 0 :: st) :=
  a_get a b (v := vr 14 0) hT (by decide) rfl rfl inW3 (by decide : 3 < 6) hl rfl rfl kk
set_option maxRecDepth 20000 in
theorem g_3_nobody {O : Om} {G : Cx} {D : FD} {k n : Nat} {Q : State → Prop} {S : Mem} {pc : Nat} {ls : List (Option AV)} {st : List AV} (a b : Nat) {index : Nat} (hT : IA D a b pc (.getfield index) 3) (hl : Cond.fieldLink D.1.1 index "Newsmint$Books" "nobody" "LNewsmint$Holder;" ∈ WSg) (kk : BW O G D k n Q S (pc + 3) ls (vr 5 16 :: st)) : BW O G D k n Q S pc ls (vr 3 0 :: st) :=
  a_get a b (v := vr 5 16) hT (by decide) rfl rfl inW3 (by decide : 4 < 6) hl rfl rfl kk
set_option maxRecDepth 20000 in
theorem g_3_noBank {O : Om} {G : Cx} {D : FD} {k n : Nat} {Q : State → Prop} {S : Mem} {pc : Nat} {ls : List (Option AV)} {st : List AV} (a b : Nat) {index : Nat} (hT : IA D a b pc (.getfield index) 3) (hl : Cond.fieldLink D.1.1 index "Newsmint$Books" "noBank" "LNewsmint$Bank;" ∈ WSg) (kk : BW O G D k n Q S (pc + 3) ls (vr 0 4 :: st)) : BW O G D k n Q S pc ls (vr 3 0 :: st) :=
  a_get a b (v := vr 0 4) hT (by decide) rfl rfl inW3 (by decide : 5 < 6) hl rfl rfl kk
set_option maxRecDepth 20000 in
theorem g_4_rate {O : Om} {G : Cx} {D : FD} {k n : Nat} {Q : State → Prop} {S : Mem} {pc : Nat} {ls : List (Option AV)} {st : List AV} (a b : Nat) {index : Nat} (hT : IA D a b pc (.getfield index) 3) (hl : Cond.fieldLink D.1.1 index "Newsmint$Central" "rate" "I" ∈ WSg) (kk : BW O G D k n Q S (pc + 3) ls (vi (S.1 kRate 0) :: st)) : BW O G D k n Q S pc ls (vr 4 0 :: st) :=
  a_get a b (v := vi (S.1 kRate 0)) hT (by decide) rfl rfl inW4 (by decide : 0 < 7) hl rfl rfl kk
set_option maxRecDepth 20000 in
theorem p_4_rate {O : Om} {G : Cx} {D : FD} {k n : Nat} {Q : State → Prop} {S : Mem} {pc : Nat} {ls : List (Option AV)} {st : List AV} (a b : Nat) {index : Nat} {x : Int32} (hT : IA D a b pc (.putfield index) 3) (hl : Cond.fieldLink D.1.1 index "Newsmint$Central" "rate" "I" ∈ WSg) (kk : BW O G D k n Q (upd2 S.1 kRate 0 x, S.2) (pc + 3) ls st) : BW O G D k n Q S pc ls (vi x :: vr 4 0 :: st) := by
  refine a_put a b (ty := .int) (S' := (upd2 S.1 kRate 0 x, S.2)) hT (by decide) rfl rfl inW4 tyX4 tyX4_ok nmX4 (by decide : 0 < 7) hl rfl rfl (by decide +kernel) rfl rfl (Nat.le_of_ble_eq_true rfl) ?_ (ho_C (by decide +kernel) (by decide) (by decide) rfl) kk
  simp only [ent, upd2, if_true, List.set] <;> rfl
set_option maxRecDepth 20000 in
theorem g_4_capitalRule {O : Om} {G : Cx} {D : FD} {k n : Nat} {Q : State → Prop} {S : Mem} {pc : Nat} {ls : List (Option AV)} {st : List AV} (a b : Nat) {index : Nat} (hT : IA D a b pc (.getfield index) 3) (hl : Cond.fieldLink D.1.1 index "Newsmint$Central" "capitalRule" "I" ∈ WSg) (kk : BW O G D k n Q S (pc + 3) ls (vi (S.1 kCapitalRule 0) :: st)) : BW O G D k n Q S pc ls (vr 4 0 :: st) :=
  a_get a b (v := vi (S.1 kCapitalRule 0)) hT (by decide) rfl rfl inW4 (by decide : 1 < 7) hl rfl rfl kk
set_option maxRecDepth 20000 in
theorem p_4_capitalRule {O : Om} {G : Cx} {D : FD} {k n : Nat} {Q : State → Prop} {S : Mem} {pc : Nat} {ls : List (Option AV)} {st : List AV} (a b : Nat) {index : Nat} {x : Int32} (hT : IA D a b pc (.putfield index) 3) (hl : Cond.fieldLink D.1.1 index "Newsmint$Central" "capitalRule" "I" ∈ WSg) (kk : BW O G D k n Q (upd2 S.1 kCapitalRule 0 x, S.2) (pc + 3) ls st) : BW O G D k n Q S pc ls (vi x :: vr 4 0 :: st) := by
  refine a_put a b (ty := .int) (S' := (upd2 S.1 kCapitalRule 0 x, S.2)) hT (by decide) rfl rfl inW4 tyX4 tyX4_ok nmX4 (by decide : 1 < 7) hl rfl rfl (by decide +kernel) rfl rfl (Nat.le_of_ble_eq_true rfl) ?_ (ho_C (by decide +kernel) (by decide) (by decide) rfl) kk
  simp only [ent, upd2, if_true, List.set] <;> rfl
set_option maxRecDepth 20000 in
theorem g_4_reserveRule {O : Om} {G : Cx} {D : FD} {k n : Nat} {Q : State → Prop} {S : Mem} {pc : Nat} {ls : List (Option AV)} {st : List AV} (a b : Nat) {index : Nat} (hT : IA D a b pc (.getfield index) 3) (hl : Cond.fieldLink D.1.1 index "Newsmint$Central" "reserveRule" "I" ∈ WSg) (kk : BW O G D k n Q S (pc + 3) ls (vi (S.1 kReserveRule 0) :: st)) : BW O G D k n Q S pc ls (vr 4 0 :: st) :=
  a_get a b (v := vi (S.1 kReserveRule 0)) hT (by decide) rfl rfl inW4 (by decide : 2 < 7) hl rfl rfl kk
set_option maxRecDepth 20000 in
theorem p_4_reserveRule {O : Om} {G : Cx} {D : FD} {k n : Nat} {Q : State → Prop} {S : Mem} {pc : Nat} {ls : List (Option AV)} {st : List AV} (a b : Nat) {index : Nat} {x : Int32} (hT : IA D a b pc (.putfield index) 3) (hl : Cond.fieldLink D.1.1 index "Newsmint$Central" "reserveRule" "I" ∈ WSg) (kk : BW O G D k n Q (upd2 S.1 kReserveRule 0 x, S.2) (pc + 3) ls st) : BW O G D k n Q S pc ls (vi x :: vr 4 0 :: st) := by
  refine a_put a b (ty := .int) (S' := (upd2 S.1 kReserveRule 0 x, S.2)) hT (by decide) rfl rfl inW4 tyX4 tyX4_ok nmX4 (by decide : 2 < 7) hl rfl rfl (by decide +kernel) rfl rfl (Nat.le_of_ble_eq_true rfl) ?_ (ho_C (by decide +kernel) (by decide) (by decide) rfl) kk
  simp only [ent, upd2, if_true, List.set] <;> rfl
set_option maxRecDepth 20000 in
theorem g_4_exchangeRate {O : Om} {G : Cx} {D : FD} {k n : Nat} {Q : State → Prop} {S : Mem} {pc : Nat} {ls : List (Option AV)} {st : List AV} (a b : Nat) {index : Nat} (hT : IA D a b pc (.getfield index) 3) (hl : Cond.fieldLink D.1.1 index "Newsmint$Central" "exchangeRate" "I" ∈ WSg) (kk : BW O G D k n Q S (pc + 3) ls (vi (S.1 kExchange 0) :: st)) : BW O G D k n Q S pc ls (vr 4 0 :: st) :=
  a_get a b (v := vi (S.1 kExchange 0)) hT (by decide) rfl rfl inW4 (by decide : 3 < 7) hl rfl rfl kk
set_option maxRecDepth 20000 in
theorem p_4_exchangeRate {O : Om} {G : Cx} {D : FD} {k n : Nat} {Q : State → Prop} {S : Mem} {pc : Nat} {ls : List (Option AV)} {st : List AV} (a b : Nat) {index : Nat} {x : Int32} (hT : IA D a b pc (.putfield index) 3) (hl : Cond.fieldLink D.1.1 index "Newsmint$Central" "exchangeRate" "I" ∈ WSg) (kk : BW O G D k n Q (upd2 S.1 kExchange 0 x, S.2) (pc + 3) ls st) : BW O G D k n Q S pc ls (vi x :: vr 4 0 :: st) := by
  refine a_put a b (ty := .int) (S' := (upd2 S.1 kExchange 0 x, S.2)) hT (by decide) rfl rfl inW4 tyX4 tyX4_ok nmX4 (by decide : 3 < 7) hl rfl rfl (by decide +kernel) rfl rfl (Nat.le_of_ble_eq_true rfl) ?_ (ho_C (by decide +kernel) (by decide) (by decide) rfl) kk
  simp only [ent, upd2, if_true, List.set] <;> rfl
set_option maxRecDepth 20000 in
theorem g_4_treasury {O : Om} {G : Cx} {D : FD} {k n : Nat} {Q : State → Prop} {S : Mem} {pc : Nat} {ls : List (Option AV)} {st : List AV} (a b : Nat) {index : Nat} (hT : IA D a b pc (.getfield index) 3) (hl : Cond.fieldLink D.1.1 index "Newsmint$Central" "treasury" "I" ∈ WSg) (kk : BW O G D k n Q S (pc + 3) ls (vi (S.1 kTreasury 0) :: st)) : BW O G D k n Q S pc ls (vr 4 0 :: st) :=
  a_get a b (v := vi (S.1 kTreasury 0)) hT (by decide) rfl rfl inW4 (by decide : 4 < 7) hl rfl rfl kk
set_option maxRecDepth 20000 in
theorem p_4_treasury {O : Om} {G : Cx} {D : FD} {k n : Nat} {Q : State → Prop} {S : Mem} {pc : Nat} {ls : List (Option AV)} {st : List AV} (a b : Nat) {index : Nat} {x : Int32} (hT : IA D a b pc (.putfield index) 3) (hl : Cond.fieldLink D.1.1 index "Newsmint$Central" "treasury" "I" ∈ WSg) (kk : BW O G D k n Q (upd2 S.1 kTreasury 0 x, S.2) (pc + 3) ls st) : BW O G D k n Q S pc ls (vi x :: vr 4 0 :: st) := by
  refine a_put a b (ty := .int) (S' := (upd2 S.1 kTreasury 0 x, S.2)) hT (by decide) rfl rfl inW4 tyX4 tyX4_ok nmX4 (by decide : 4 < 7) hl rfl rfl (by decide +kernel) rfl rfl (Nat.le_of_ble_eq_true rfl) ?_ (ho_C (by decide +kernel) (by decide) (by decide) rfl) kk
  simp only [ent, upd2, if_true, List.set] <;> rfl
set_option maxRecDepth 20000 in
theorem g_4_foreignMoney {O : Om} {G : Cx} {D : FD} {k n : Nat} {Q : State → Prop} {S : Mem} {pc : Nat} {ls : List (Option AV)} {st : List AV} (a b : Nat) {index : Nat} (hT : IA D a b pc (.getfield index) 3) (hl : Cond.fieldLink D.1.1 index "Newsmint$Central" "foreignMoney" "I" ∈ WSg) (kk : BW O G D k n Q S (pc + 3) ls (vi (S.1 kForeign 0) :: st)) : BW O G D k n Q S pc ls (vr 4 0 :: st) :=
  a_get a b (v := vi (S.1 kForeign 0)) hT (by decide) rfl rfl inW4 (by decide : 5 < 7) hl rfl rfl kk
set_option maxRecDepth 20000 in
theorem p_4_foreignMoney {O : Om} {G : Cx} {D : FD} {k n : Nat} {Q : State → Prop} {S : Mem} {pc : Nat} {ls : List (Option AV)} {st : List AV} (a b : Nat) {index : Nat} {x : Int32} (hT : IA D a b pc (.putfield index) 3) (hl : Cond.fieldLink D.1.1 index "Newsmint$Central" "foreignMoney" "I" ∈ WSg) (kk : BW O G D k n Q (upd2 S.1 kForeign 0 x, S.2) (pc + 3) ls st) : BW O G D k n Q S pc ls (vi x :: vr 4 0 :: st) := by
  refine a_put a b (ty := .int) (S' := (upd2 S.1 kForeign 0 x, S.2)) hT (by decide) rfl rfl inW4 tyX4 tyX4_ok nmX4 (by decide : 5 < 7) hl rfl rfl (by decide +kernel) rfl rfl (Nat.le_of_ble_eq_true rfl) ?_ (ho_C (by decide +kernel) (by decide) (by decide) rfl) kk
  simp only [ent, upd2, if_true, List.set] <;> rfl
set_option maxRecDepth 20000 in
theorem g_4_paidForForeign {O : Om} {G : Cx} {D : FD} {k n : Nat} {Q : State → Prop} {S : Mem} {pc : Nat} {ls : List (Option AV)} {st : List AV} (a b : Nat) {index : Nat} (hT : IA D a b pc (.getfield index) 3) (hl : Cond.fieldLink D.1.1 index "Newsmint$Central" "paidForForeign" "I" ∈ WSg) (kk : BW O G D k n Q S (pc + 3) ls (vi (S.1 kForeignCost 0) :: st)) : BW O G D k n Q S pc ls (vr 4 0 :: st) :=
  a_get a b (v := vi (S.1 kForeignCost 0)) hT (by decide) rfl rfl inW4 (by decide : 6 < 7) hl rfl rfl kk
set_option maxRecDepth 20000 in
theorem p_4_paidForForeign {O : Om} {G : Cx} {D : FD} {k n : Nat} {Q : State → Prop} {S : Mem} {pc : Nat} {ls : List (Option AV)} {st : List AV} (a b : Nat) {index : Nat} {x : Int32} (hT : IA D a b pc (.putfield index) 3) (hl : Cond.fieldLink D.1.1 index "Newsmint$Central" "paidForForeign" "I" ∈ WSg) (kk : BW O G D k n Q (upd2 S.1 kForeignCost 0 x, S.2) (pc + 3) ls st) : BW O G D k n Q S pc ls (vi x :: vr 4 0 :: st) := by
  refine a_put a b (ty := .int) (S' := (upd2 S.1 kForeignCost 0 x, S.2)) hT (by decide) rfl rfl inW4 tyX4 tyX4_ok nmX4 (by decide : 6 < 7) hl rfl rfl (by decide +kernel) rfl rfl (Nat.le_of_ble_eq_true rfl) ?_ (ho_C (by decide +kernel) (by decide) (by decide) rfl) kk
  simp only [ent, upd2, if_true, List.set] <;> rfl
set_option maxRecDepth 20000 in
theorem g_5_notes {O : Om} {G : Cx} {D : FD} {k n : Nat} {Q : State → Prop} {S : Mem} {pc : Nat} {ls : List (Option AV)} {st : List AV} (a b : Nat) {index : Nat} {i : Nat} (hT : IA D a b pc (.getfield index) 3) (hi : i < 17) (hl : Cond.fieldLink D.1.1 index "Newsmint$Holder" "notes" "I" ∈ WSg) (kk : BW O G D k n Q S (pc + 3) ls (vi (S.1 kNotes i) :: st)) : BW O G D k n Q S pc ls (vr 5 i :: st) :=
  a_get a b (v := vi (S.1 kNotes i)) hT hi rfl rfl inW5 (by decide : 0 < 11) hl rfl rfl kk
set_option maxRecDepth 20000 in
theorem p_5_notes {O : Om} {G : Cx} {D : FD} {k n : Nat} {Q : State → Prop} {S : Mem} {pc : Nat} {ls : List (Option AV)} {st : List AV} (a b : Nat) {index : Nat} {x : Int32} {i : Nat} (hT : IA D a b pc (.putfield index) 3) (hi : i < 17) (hl : Cond.fieldLink D.1.1 index "Newsmint$Holder" "notes" "I" ∈ WSg) (kk : BW O G D k n Q (upd2 S.1 kNotes i x, S.2) (pc + 3) ls st) : BW O G D k n Q S pc ls (vi x :: vr 5 i :: st) := by
  refine a_put a b (ty := .int) (S' := (upd2 S.1 kNotes i x, S.2)) hT hi rfl rfl inW5 tyX5 tyX5_ok nmX5 (by decide : 0 < 11) hl rfl rfl (by decide +kernel) rfl rfl (Nat.le_of_ble_eq_true rfl) ?_ (ho_C (by decide +kernel) (by decide) (by decide) rfl) kk
  simp only [ent, upd2, if_true, List.set] <;> rfl
set_option maxRecDepth 20000 in
theorem g_5_forged {O : Om} {G : Cx} {D : FD} {k n : Nat} {Q : State → Prop} {S : Mem} {pc : Nat} {ls : List (Option AV)} {st : List AV} (a b : Nat) {index : Nat} {i : Nat} (hT : IA D a b pc (.getfield index) 3) (hi : i < 17) (hl : Cond.fieldLink D.1.1 index "Newsmint$Holder" "forged" "I" ∈ WSg) (kk : BW O G D k n Q S (pc + 3) ls (vi (S.1 kForged i) :: st)) : BW O G D k n Q S pc ls (vr 5 i :: st) :=
  a_get a b (v := vi (S.1 kForged i)) hT hi rfl rfl inW5 (by decide : 1 < 11) hl rfl rfl kk
set_option maxRecDepth 20000 in
theorem p_5_forged {O : Om} {G : Cx} {D : FD} {k n : Nat} {Q : State → Prop} {S : Mem} {pc : Nat} {ls : List (Option AV)} {st : List AV} (a b : Nat) {index : Nat} {x : Int32} {i : Nat} (hT : IA D a b pc (.putfield index) 3) (hi : i < 17) (hl : Cond.fieldLink D.1.1 index "Newsmint$Holder" "forged" "I" ∈ WSg) (kk : BW O G D k n Q (upd2 S.1 kForged i x, S.2) (pc + 3) ls st) : BW O G D k n Q S pc ls (vi x :: vr 5 i :: st) := by
  refine a_put a b (ty := .int) (S' := (upd2 S.1 kForged i x, S.2)) hT hi rfl rfl inW5 tyX5 tyX5_ok nmX5 (by decide : 1 < 11) hl rfl rfl (by decide +kernel) rfl rfl (Nat.le_of_ble_eq_true rfl) ?_ (ho_C (by decide +kernel) (by decide) (by decide) rfl) kk
  simp only [ent, upd2, if_true, List.set] <;> rfl
set_option maxRecDepth 20000 in
theorem g_5_bank {O : Om} {G : Cx} {D : FD} {k n : Nat} {Q : State → Prop} {S : Mem} {pc : Nat} {ls : List (Option AV)} {st : List AV} (a b : Nat) {index : Nat} {i : Nat} (hT : IA D a b pc (.getfield index) 3) (hi : i < 17) (hl : Cond.fieldLink D.1.1 index "Newsmint$Holder" "bank" "I" ∈ WSg) (kk : BW O G D k n Q S (pc + 3) ls (vi (S.1 kBankOf i) :: st)) : BW O G D k n Q S pc ls (vr 5 i :: st) :=
  a_get a b (v := vi (S.1 kBankOf i)) hT hi rfl rfl inW5 (by decide : 2 < 11) hl rfl rfl kk
set_option maxRecDepth 20000 in
theorem p_5_bank {O : Om} {G : Cx} {D : FD} {k n : Nat} {Q : State → Prop} {S : Mem} {pc : Nat} {ls : List (Option AV)} {st : List AV} (a b : Nat) {index : Nat} {x : Int32} {i : Nat} (hT : IA D a b pc (.putfield index) 3) (hi : i < 17) (hl : Cond.fieldLink D.1.1 index "Newsmint$Holder" "bank" "I" ∈ WSg) (kk : BW O G D k n Q (upd2 S.1 kBankOf i x, S.2) (pc + 3) ls st) : BW O G D k n Q S pc ls (vi x :: vr 5 i :: st) := by
  refine a_put a b (ty := .int) (S' := (upd2 S.1 kBankOf i x, S.2)) hT hi rfl rfl inW5 tyX5 tyX5_ok nmX5 (by decide : 2 < 11) hl rfl rfl (by decide +kernel) rfl rfl (Nat.le_of_ble_eq_true rfl) ?_ (ho_C (by decide +kernel) (by decide) (by decide) rfl) kk
  simp only [ent, upd2, if_true, List.set] <;> rfl
set_option maxRecDepth 20000 in
theorem g_5_balance {O : Om} {G : Cx} {D : FD} {k n : Nat} {Q : State → Prop} {S : Mem} {pc : Nat} {ls : List (Option AV)} {st : List AV} (a b : Nat) {index : Nat} {i : Nat} (hT : IA D a b pc (.getfield index) 3) (hi : i < 17) (hl : Cond.fieldLink D.1.1 index "Newsmint$Holder" "balance" "I" ∈ WSg) (kk : BW O G D k n Q S (pc + 3) ls (vi (S.1 kAccounts i) :: st)) : BW O G D k n Q S pc ls (vr 5 i :: st) :=
  a_get a b (v := vi (S.1 kAccounts i)) hT hi rfl rfl inW5 (by decide : 3 < 11) hl rfl rfl kk
set_option maxRecDepth 20000 in
theorem p_5_balance {O : Om} {G : Cx} {D : FD} {k n : Nat} {Q : State → Prop} {S : Mem} {pc : Nat} {ls : List (Option AV)} {st : List AV} (a b : Nat) {index : Nat} {x : Int32} {i : Nat} (hT : IA D a b pc (.putfield index) 3) (hi : i < 17) (hl : Cond.fieldLink D.1.1 index "Newsmint$Holder" "balance" "I" ∈ WSg) (kk : BW O G D k n Q (upd2 S.1 kAccounts i x, S.2) (pc + 3) ls st) : BW O G D k n Q S pc ls (vi x :: vr 5 i :: st) := by
  refine a_put a b (ty := .int) (S' := (upd2 S.1 kAccounts i x, S.2)) hT hi rfl rfl inW5 tyX5 tyX5_ok nmX5 (by decide : 3 < 11) hl rfl rfl (by decide +kernel) rfl rfl (Nat.le_of_ble_eq_true rfl) ?_ (ho_C (by decide +kernel) (by decide) (by decide) rfl) kk
  simp only [ent, upd2, if_true, List.set] <;> rfl
set_option maxRecDepth 20000 in
theorem g_5_blocked {O : Om} {G : Cx} {D : FD} {k n : Nat} {Q : State → Prop} {S : Mem} {pc : Nat} {ls : List (Option AV)} {st : List AV} (a b : Nat) {index : Nat} {i : Nat} (hT : IA D a b pc (.getfield index) 3) (hi : i < 17) (hl : Cond.fieldLink D.1.1 index "Newsmint$Holder" "blocked" "I" ∈ WSg) (kk : BW O G D k n Q S (pc + 3) ls (vi (S.1 kBlocked i) :: st)) : BW O G D k n Q S pc ls (vr 5 i :: st) :=
  a_get a b (v := vi (S.1 kBlocked i)) hT hi rfl rfl inW5 (by decide : 4 < 11) hl rfl rfl kk
set_option maxRecDepth 20000 in
theorem p_5_blocked {O : Om} {G : Cx} {D : FD} {k n : Nat} {Q : State → Prop} {S : Mem} {pc : Nat} {ls : List (Option AV)} {st : List AV} (a b : Nat) {index : Nat} {x : Int32} {i : Nat} (hT : IA D a b pc (.putfield index) 3) (hi : i < 17) (hl : Cond.fieldLink D.1.1 index "Newsmint$Holder" "blocked" "I" ∈ WSg) (kk : BW O G D k n Q (upd2 S.1 kBlocked i x, S.2) (pc + 3) ls st) : BW O G D k n Q S pc ls (vi x :: vr 5 i :: st) := by
  refine a_put a b (ty := .int) (S' := (upd2 S.1 kBlocked i x, S.2)) hT hi rfl rfl inW5 tyX5 tyX5_ok nmX5 (by decide : 4 < 11) hl rfl rfl (by decide +kernel) rfl rfl (Nat.le_of_ble_eq_true rfl) ?_ (ho_C (by decide +kernel) (by decide) (by decide) rfl) kk
  simp only [ent, upd2, if_true, List.set] <;> rfl
set_option maxRecDepth 20000 in
theorem g_5_firm {O : Om} {G : Cx} {D : FD} {k n : Nat} {Q : State → Prop} {S : Mem} {pc : Nat} {ls : List (Option AV)} {st : List AV} (a b : Nat) {index : Nat} {i : Nat} (hT : IA D a b pc (.getfield index) 3) (hi : i < 17) (hl : Cond.fieldLink D.1.1 index "Newsmint$Holder" "firm" "I" ∈ WSg) (kk : BW O G D k n Q S (pc + 3) ls (vi (S.1 kFirms i) :: st)) : BW O G D k n Q S pc ls (vr 5 i :: st) :=
  a_get a b (v := vi (S.1 kFirms i)) hT hi rfl rfl inW5 (by decide : 5 < 11) hl rfl rfl kk
set_option maxRecDepth 20000 in
theorem p_5_firm {O : Om} {G : Cx} {D : FD} {k n : Nat} {Q : State → Prop} {S : Mem} {pc : Nat} {ls : List (Option AV)} {st : List AV} (a b : Nat) {index : Nat} {x : Int32} {i : Nat} (hT : IA D a b pc (.putfield index) 3) (hi : i < 17) (hl : Cond.fieldLink D.1.1 index "Newsmint$Holder" "firm" "I" ∈ WSg) (kk : BW O G D k n Q (upd2 S.1 kFirms i x, S.2) (pc + 3) ls st) : BW O G D k n Q S pc ls (vi x :: vr 5 i :: st) := by
  refine a_put a b (ty := .int) (S' := (upd2 S.1 kFirms i x, S.2)) hT hi rfl rfl inW5 tyX5 tyX5_ok nmX5 (by decide : 5 < 11) hl rfl rfl (by decide +kernel) rfl rfl (Nat.le_of_ble_eq_true rfl) ?_ (ho_C (by decide +kernel) (by decide) (by decide) rfl) kk
  simp only [ent, upd2, if_true, List.set] <;> rfl
set_option maxRecDepth 20000 in
theorem g_5_wage {O : Om} {G : Cx} {D : FD} {k n : Nat} {Q : State → Prop} {S : Mem} {pc : Nat} {ls : List (Option AV)} {st : List AV} (a b : Nat) {index : Nat} {i : Nat} (hT : IA D a b pc (.getfield index) 3) (hi : i < 17) (hl : Cond.fieldLink D.1.1 index "Newsmint$Holder" "wage" "I" ∈ WSg) (kk : BW O G D k n Q S (pc + 3) ls (vi (S.1 kWages i) :: st)) : BW O G D k n Q S pc ls (vr 5 i :: st) :=
  a_get a b (v := vi (S.1 kWages i)) hT hi rfl rfl inW5 (by decide : 6 < 11) hl rfl rfl kk
set_option maxRecDepth 20000 in
theorem p_5_wage {O : Om} {G : Cx} {D : FD} {k n : Nat} {Q : State → Prop} {S : Mem} {pc : Nat} {ls : List (Option AV)} {st : List AV} (a b : Nat) {index : Nat} {x : Int32} {i : Nat} (hT : IA D a b pc (.putfield index) 3) (hi : i < 17) (hl : Cond.fieldLink D.1.1 index "Newsmint$Holder" "wage" "I" ∈ WSg) (kk : BW O G D k n Q (upd2 S.1 kWages i x, S.2) (pc + 3) ls st) : BW O G D k n Q S pc ls (vi x :: vr 5 i :: st) := by
  refine a_put a b (ty := .int) (S' := (upd2 S.1 kWages i x, S.2)) hT hi rfl rfl inW5 tyX5 tyX5_ok nmX5 (by decide : 6 < 11) hl rfl rfl (by decide +kernel) rfl rfl (Nat.le_of_ble_eq_true rfl) ?_ (ho_C (by decide +kernel) (by decide) (by decide) rfl) kk
  simp only [ent, upd2, if_true, List.set] <;> rfl
set_option maxRecDepth 20000 in
theorem g_5_expects {O : Om} {G : Cx} {D : FD} {k n : Nat} {Q : State → Prop} {S : Mem} {pc : Nat} {ls : List (Option AV)} {st : List AV} (a b : Nat) {index : Nat} {i : Nat} (hT : IA D a b pc (.getfield index) 3) (hi : i < 17) (hl : Cond.fieldLink D.1.1 index "Newsmint$Holder" "expects" "I" ∈ WSg) (kk : BW O G D k n Q S (pc + 3) ls (vi (S.1 kExpects i) :: st)) : BW O G D k n Q S pc ls (vr 5 i :: st) :=
  a_get a b (v := vi (S.1 kExpects i)) hT hi rfl rfl inW5 (by decide : 7 < 11) hl rfl rfl kk
set_option maxRecDepth 20000 in
theorem p_5_expects {O : Om} {G : Cx} {D : FD} {k n : Nat} {Q : State → Prop} {S : Mem} {pc : Nat} {ls : List (Option AV)} {st : List AV} (a b : Nat) {index : Nat} {x : Int32} {i : Nat} (hT : IA D a b pc (.putfield index) 3) (hi : i < 17) (hl : Cond.fieldLink D.1.1 index "Newsmint$Holder" "expects" "I" ∈ WSg) (kk : BW O G D k n Q (upd2 S.1 kExpects i x, S.2) (pc + 3) ls st) : BW O G D k n Q S pc ls (vi x :: vr 5 i :: st) := by
  refine a_put a b (ty := .int) (S' := (upd2 S.1 kExpects i x, S.2)) hT hi rfl rfl inW5 tyX5 tyX5_ok nmX5 (by decide : 7 < 11) hl rfl rfl (by decide +kernel) rfl rfl (Nat.le_of_ble_eq_true rfl) ?_ (ho_C (by decide +kernel) (by decide) (by decide) rfl) kk
  simp only [ent, upd2, if_true, List.set] <;> rfl
set_option maxRecDepth 20000 in
theorem g_5_price {O : Om} {G : Cx} {D : FD} {k n : Nat} {Q : State → Prop} {S : Mem} {pc : Nat} {ls : List (Option AV)} {st : List AV} (a b : Nat) {index : Nat} {i : Nat} (hT : IA D a b pc (.getfield index) 3) (hi : i < 17) (hl : Cond.fieldLink D.1.1 index "Newsmint$Holder" "price" "I" ∈ WSg) (kk : BW O G D k n Q S (pc + 3) ls (vi (S.1 kPrices i) :: st)) : BW O G D k n Q S pc ls (vr 5 i :: st) :=
  a_get a b (v := vi (S.1 kPrices i)) hT hi rfl rfl inW5 (by decide : 8 < 11) hl rfl rfl kk
set_option maxRecDepth 20000 in
theorem p_5_price {O : Om} {G : Cx} {D : FD} {k n : Nat} {Q : State → Prop} {S : Mem} {pc : Nat} {ls : List (Option AV)} {st : List AV} (a b : Nat) {index : Nat} {x : Int32} {i : Nat} (hT : IA D a b pc (.putfield index) 3) (hi : i < 17) (hl : Cond.fieldLink D.1.1 index "Newsmint$Holder" "price" "I" ∈ WSg) (kk : BW O G D k n Q (upd2 S.1 kPrices i x, S.2) (pc + 3) ls st) : BW O G D k n Q S pc ls (vi x :: vr 5 i :: st) := by
  refine a_put a b (ty := .int) (S' := (upd2 S.1 kPrices i x, S.2)) hT hi rfl rfl inW5 tyX5 tyX5_ok nmX5 (by decide : 8 < 11) hl rfl rfl (by decide +kernel) rfl rfl (Nat.le_of_ble_eq_true rfl) ?_ (ho_C (by decide +kernel) (by decide) (by decide) rfl) kk
  simp only [ent, upd2, if_true, List.set] <;> rfl
set_option maxRecDepth 20000 in
theorem g_5_sold {O : Om} {G : Cx} {D : FD} {k n : Nat} {Q : State → Prop} {S : Mem} {pc : Nat} {ls : List (Option AV)} {st : List AV} (a b : Nat) {index : Nat} {i : Nat} (hT : IA D a b pc (.getfield index) 3) (hi : i < 17) (hl : Cond.fieldLink D.1.1 index "Newsmint$Holder" "sold" "I" ∈ WSg) (kk : BW O G D k n Q S (pc + 3) ls (vi (S.1 kBought i) :: st)) : BW O G D k n Q S pc ls (vr 5 i :: st) :=
  a_get a b (v := vi (S.1 kBought i)) hT hi rfl rfl inW5 (by decide : 9 < 11) hl rfl rfl kk
set_option maxRecDepth 20000 in
theorem p_5_sold {O : Om} {G : Cx} {D : FD} {k n : Nat} {Q : State → Prop} {S : Mem} {pc : Nat} {ls : List (Option AV)} {st : List AV} (a b : Nat) {index : Nat} {x : Int32} {i : Nat} (hT : IA D a b pc (.putfield index) 3) (hi : i < 17) (hl : Cond.fieldLink D.1.1 index "Newsmint$Holder" "sold" "I" ∈ WSg) (kk : BW O G D k n Q (upd2 S.1 kBought i x, S.2) (pc + 3) ls st) : BW O G D k n Q S pc ls (vi x :: vr 5 i :: st) := by
  refine a_put a b (ty := .int) (S' := (upd2 S.1 kBought i x, S.2)) hT hi rfl rfl inW5 tyX5 tyX5_ok nmX5 (by decide : 9 < 11) hl rfl rfl (by decide +kernel) rfl rfl (Nat.le_of_ble_eq_true rfl) ?_ (ho_C (by decide +kernel) (by decide) (by decide) rfl) kk
  simp only [ent, upd2, if_true, List.set] <;> rfl
set_option maxRecDepth 20000 in
theorem g_5_drawn {O : Om} {G : Cx} {D : FD} {k n : Nat} {Q : State → Prop} {S : Mem} {pc : Nat} {ls : List (Option AV)} {st : List AV} (a b : Nat) {index : Nat} {i : Nat} (hT : IA D a b pc (.getfield index) 3) (hi : i < 17) (hl : Cond.fieldLink D.1.1 index "Newsmint$Holder" "drawn" "[I" ∈ WSg) (kk : BW O G D k n Q S (pc + 3) ls (vr 23 i :: st)) : BW O G D k n Q S pc ls (vr 5 i :: st) :=
  a_get a b (v := vr 23 i) hT hi rfl rfl inW5 (by decide : 10 < 11) hl rfl rfl kk
set_option maxRecDepth 20000 in
theorem g_6_holder {O : Om} {G : Cx} {D : FD} {k n : Nat} {Q : State → Prop} {S : Mem} {pc : Nat} {ls : List (Option AV)} {st : List AV} (a b : Nat) {index : Nat} {i : Nat} (hT : IA D a b pc (.getfield index) 3) (hi : i < 21) (hl : Cond.fieldLink D.1.1 index "Newsmint$Loan" "holder" "I" ∈ WSg) (kk : BW O G D k n Q S (pc + 3) ls (vi (S.1 kLoanHolders i) :: st)) : BW O G D k n Q S pc ls (vr 6 i :: st) :=
  a_get a b (v := vi (S.1 kLoanHolders i)) hT hi rfl rfl inW6 (by decide : 0 < 5) hl rfl rfl kk
set_option maxRecDepth 20000 in
theorem p_6_holder {O : Om} {G : Cx} {D : FD} {k n : Nat} {Q : State → Prop} {S : Mem} {pc : Nat} {ls : List (Option AV)} {st : List AV} (a b : Nat) {index : Nat} {x : Int32} {i : Nat} (hT : IA D a b pc (.putfield index) 3) (hi : i < 21) (hl : Cond.fieldLink D.1.1 index "Newsmint$Loan" "holder" "I" ∈ WSg) (kk : BW O G D k n Q (upd2 S.1 kLoanHolders i x, S.2) (pc + 3) ls st) : BW O G D k n Q S pc ls (vi x :: vr 6 i :: st) := by
  refine a_put a b (ty := .int) (S' := (upd2 S.1 kLoanHolders i x, S.2)) hT hi rfl rfl inW6 tyX6 tyX6_ok nmX6 (by decide : 0 < 5) hl rfl rfl (by decide +kernel) rfl rfl (Nat.le_of_ble_eq_true rfl) ?_ (ho_C (by decide +kernel) (by decide) (by decide) rfl) kk
  simp only [ent, upd2, if_true, List.set] <;> rfl
set_option maxRecDepth 20000 in
theorem g_6_owner {O : Om} {G : Cx} {D : FD} {k n : Nat} {Q : State → Prop} {S : Mem} {pc : Nat} {ls : List (Option AV)} {st : List AV} (a b : Nat) {index : Nat} {i : Nat} (hT : IA D a b pc (.getfield index) 3) (hi : i < 21) (hl : Cond.fieldLink D.1.1 index "Newsmint$Loan" "owner" "I" ∈ WSg) (kk : BW O G D k n Q S (pc + 3) ls (vi (S.1 kLoanBanks i) :: st)) : BW O G D k n Q S pc ls (vr 6 i :: st) :=
  a_get a b (v := vi (S.1 kLoanBanks i)) hT hi rfl rfl inW6 (by decide : 1 < 5) hl rfl rfl kk
set_option maxRecDepth 20000 in
theorem p_6_owner {O : Om} {G : Cx} {D : FD} {k n : Nat} {Q : State → Prop} {S : Mem} {pc : Nat} {ls : List (Option AV)} {st : List AV} (a b : Nat) {index : Nat} {x : Int32} {i : Nat} (hT : IA D a b pc (.putfield index) 3) (hi : i < 21) (hl : Cond.fieldLink D.1.1 index "Newsmint$Loan" "owner" "I" ∈ WSg) (kk : BW O G D k n Q (upd2 S.1 kLoanBanks i x, S.2) (pc + 3) ls st) : BW O G D k n Q S pc ls (vi x :: vr 6 i :: st) := by
  refine a_put a b (ty := .int) (S' := (upd2 S.1 kLoanBanks i x, S.2)) hT hi rfl rfl inW6 tyX6 tyX6_ok nmX6 (by decide : 1 < 5) hl rfl rfl (by decide +kernel) rfl rfl (Nat.le_of_ble_eq_true rfl) ?_ (ho_C (by decide +kernel) (by decide) (by decide) rfl) kk
  simp only [ent, upd2, if_true, List.set] <;> rfl
set_option maxRecDepth 20000 in
theorem g_6_left {O : Om} {G : Cx} {D : FD} {k n : Nat} {Q : State → Prop} {S : Mem} {pc : Nat} {ls : List (Option AV)} {st : List AV} (a b : Nat) {index : Nat} {i : Nat} (hT : IA D a b pc (.getfield index) 3) (hi : i < 21) (hl : Cond.fieldLink D.1.1 index "Newsmint$Loan" "left" "I" ∈ WSg) (kk : BW O G D k n Q S (pc + 3) ls (vi (S.1 kLoanLefts i) :: st)) : BW O G D k n Q S pc ls (vr 6 i :: st) :=
  a_get a b (v := vi (S.1 kLoanLefts i)) hT hi rfl rfl inW6 (by decide : 2 < 5) hl rfl rfl kk
set_option maxRecDepth 20000 in
theorem p_6_left {O : Om} {G : Cx} {D : FD} {k n : Nat} {Q : State → Prop} {S : Mem} {pc : Nat} {ls : List (Option AV)} {st : List AV} (a b : Nat) {index : Nat} {x : Int32} {i : Nat} (hT : IA D a b pc (.putfield index) 3) (hi : i < 21) (hl : Cond.fieldLink D.1.1 index "Newsmint$Loan" "left" "I" ∈ WSg) (kk : BW O G D k n Q (upd2 S.1 kLoanLefts i x, S.2) (pc + 3) ls st) : BW O G D k n Q S pc ls (vi x :: vr 6 i :: st) := by
  refine a_put a b (ty := .int) (S' := (upd2 S.1 kLoanLefts i x, S.2)) hT hi rfl rfl inW6 tyX6 tyX6_ok nmX6 (by decide : 2 < 5) hl rfl rfl (by decide +kernel) rfl rfl (Nat.le_of_ble_eq_true rfl) ?_ (ho_C (by decide +kernel) (by decide) (by decide) rfl) kk
  simp only [ent, upd2, if_true, List.set] <;> rfl
set_option maxRecDepth 20000 in
theorem g_6_rate {O : Om} {G : Cx} {D : FD} {k n : Nat} {Q : State → Prop} {S : Mem} {pc : Nat} {ls : List (Option AV)} {st : List AV} (a b : Nat) {index : Nat} {i : Nat} (hT : IA D a b pc (.getfield index) 3) (hi : i < 21) (hl : Cond.fieldLink D.1.1 index "Newsmint$Loan" "rate" "I" ∈ WSg) (kk : BW O G D k n Q S (pc + 3) ls (vi (S.1 kLoanRates i) :: st)) : BW O G D k n Q S pc ls (vr 6 i :: st) :=
  a_get a b (v := vi (S.1 kLoanRates i)) hT hi rfl rfl inW6 (by decide : 3 < 5) hl rfl rfl kk
set_option maxRecDepth 20000 in
theorem p_6_rate {O : Om} {G : Cx} {D : FD} {k n : Nat} {Q : State → Prop} {S : Mem} {pc : Nat} {ls : List (Option AV)} {st : List AV} (a b : Nat) {index : Nat} {x : Int32} {i : Nat} (hT : IA D a b pc (.putfield index) 3) (hi : i < 21) (hl : Cond.fieldLink D.1.1 index "Newsmint$Loan" "rate" "I" ∈ WSg) (kk : BW O G D k n Q (upd2 S.1 kLoanRates i x, S.2) (pc + 3) ls st) : BW O G D k n Q S pc ls (vi x :: vr 6 i :: st) := by
  refine a_put a b (ty := .int) (S' := (upd2 S.1 kLoanRates i x, S.2)) hT hi rfl rfl inW6 tyX6 tyX6_ok nmX6 (by decide : 3 < 5) hl rfl rfl (by decide +kernel) rfl rfl (Nat.le_of_ble_eq_true rfl) ?_ (ho_C (by decide +kernel) (by decide) (by decide) rfl) kk
  simp only [ent, upd2, if_true, List.set] <;> rfl
set_option maxRecDepth 20000 in
theorem g_6_overdue {O : Om} {G : Cx} {D : FD} {k n : Nat} {Q : State → Prop} {S : Mem} {pc : Nat} {ls : List (Option AV)} {st : List AV} (a b : Nat) {index : Nat} {i : Nat} (hT : IA D a b pc (.getfield index) 3) (hi : i < 21) (hl : Cond.fieldLink D.1.1 index "Newsmint$Loan" "overdue" "I" ∈ WSg) (kk : BW O G D k n Q S (pc + 3) ls (vi (S.1 kOverdue i) :: st)) : BW O G D k n Q S pc ls (vr 6 i :: st) :=
  a_get a b (v := vi (S.1 kOverdue i)) hT hi rfl rfl inW6 (by decide : 4 < 5) hl rfl rfl kk
set_option maxRecDepth 20000 in
theorem p_6_overdue {O : Om} {G : Cx} {D : FD} {k n : Nat} {Q : State → Prop} {S : Mem} {pc : Nat} {ls : List (Option AV)} {st : List AV} (a b : Nat) {index : Nat} {x : Int32} {i : Nat} (hT : IA D a b pc (.putfield index) 3) (hi : i < 21) (hl : Cond.fieldLink D.1.1 index "Newsmint$Loan" "overdue" "I" ∈ WSg) (kk : BW O G D k n Q (upd2 S.1 kOverdue i x, S.2) (pc + 3) ls st) : BW O G D k n Q S pc ls (vi x :: vr 6 i :: st) := by
  refine a_put a b (ty := .int) (S' := (upd2 S.1 kOverdue i x, S.2)) hT hi rfl rfl inW6 tyX6 tyX6_ok nmX6 (by decide : 4 < 5) hl rfl rfl (by decide +kernel) rfl rfl (Nat.le_of_ble_eq_true rfl) ?_ (ho_C (by decide +kernel) (by decide) (by decide) rfl) kk
  simp only [ent, upd2, if_true, List.set] <;> rfl
set_option maxRecDepth 20000 in
theorem g_7_count {O : Om} {G : Cx} {D : FD} {k n : Nat} {Q : State → Prop} {S : Mem} {pc : Nat} {ls : List (Option AV)} {st : List AV} (a b : Nat) {index : Nat} (hT : IA D a b pc (.getfield index) 3) (hl : Cond.fieldLink D.1.1 index "Newsmint$Loans" "count" "I" ∈ WSg) (kk : BW O G D k n Q S (pc + 3) ls (vi (S.1 kLoans 0) :: st)) : BW O G D k n Q S pc ls (vr 7 0 :: st) :=
  a_get a b (v := vi (S.1 kLoans 0)) hT (by decide) rfl rfl inW7 (by decide : 0 < 3) hl rfl rfl kk
set_option maxRecDepth 20000 in
theorem p_7_count {O : Om} {G : Cx} {D : FD} {k n : Nat} {Q : State → Prop} {S : Mem} {pc : Nat} {ls : List (Option AV)} {st : List AV} (a b : Nat) {index : Nat} {x : Int32} (hT : IA D a b pc (.putfield index) 3) (hl : Cond.fieldLink D.1.1 index "Newsmint$Loans" "count" "I" ∈ WSg) (kk : BW O G D k n Q (upd2 S.1 kLoans 0 x, S.2) (pc + 3) ls st) : BW O G D k n Q S pc ls (vi x :: vr 7 0 :: st) := by
  refine a_put a b (ty := .int) (S' := (upd2 S.1 kLoans 0 x, S.2)) hT (by decide) rfl rfl inW7 tyX7 tyX7_ok nmX7 (by decide : 0 < 3) hl rfl rfl (by decide +kernel) rfl rfl (Nat.le_of_ble_eq_true rfl) ?_ (ho_C (by decide +kernel) (by decide) (by decide) rfl) kk
  simp only [ent, upd2, if_true, List.set] <;> rfl
set_option maxRecDepth 20000 in
theorem g_7_rows {O : Om} {G : Cx} {D : FD} {k n : Nat} {Q : State → Prop} {S : Mem} {pc : Nat} {ls : List (Option AV)} {st : List AV} (a b : Nat) {index : Nat} (hT : IA D a b pc (.getfield index) 3) (hl : Cond.fieldLink D.1.1 index "Newsmint$Loans" "rows" "[LNewsmint$Loan;" ∈ WSg) (kk : BW O G D k n Q S (pc + 3) ls (vr 16 0 :: st)) : BW O G D k n Q S pc ls (vr 7 0 :: st) :=
  a_get a b (v := vr 16 0) hT (by decide) rfl rfl inW7 (by decide : 1 < 3) hl rfl rfl kk
set_option maxRecDepth 20000 in
theorem g_7_noLoan {O : Om} {G : Cx} {D : FD} {k n : Nat} {Q : State → Prop} {S : Mem} {pc : Nat} {ls : List (Option AV)} {st : List AV} (a b : Nat) {index : Nat} (hT : IA D a b pc (.getfield index) 3) (hl : Cond.fieldLink D.1.1 index "Newsmint$Loans" "noLoan" "LNewsmint$Loan;" ∈ WSg) (kk : BW O G D k n Q S (pc + 3) ls (vr 6 20 :: st)) : BW O G D k n Q S pc ls (vr 7 0 :: st) :=
  a_get a b (v := vr 6 20) hT (by decide) rfl rfl inW7 (by decide : 2 < 3) hl rfl rfl kk
set_option maxRecDepth 20000 in
theorem g_8_owners {O : Om} {G : Cx} {D : FD} {k n : Nat} {Q : State → Prop} {S : Mem} {pc : Nat} {ls : List (Option AV)} {st : List AV} (a b : Nat) {index : Nat} (hT : IA D a b pc (.getfield index) 3) (hl : Cond.fieldLink D.1.1 index "Newsmint$Log" "owners" "[I" ∈ WSg) (kk : BW O G D k n Q S (pc + 3) ls (vr 20 0 :: st)) : BW O G D k n Q S pc ls (vr 8 0 :: st) :=
  a_get a b (v := vr 20 0) hT (by decide) rfl rfl inW8 (by decide : 0 < 4) hl rfl rfl kk
set_option maxRecDepth 20000 in
theorem g_8_changes {O : Om} {G : Cx} {D : FD} {k n : Nat} {Q : State → Prop} {S : Mem} {pc : Nat} {ls : List (Option AV)} {st : List AV} (a b : Nat) {index : Nat} (hT : IA D a b pc (.getfield index) 3) (hl : Cond.fieldLink D.1.1 index "Newsmint$Log" "changes" "[I" ∈ WSg) (kk : BW O G D k n Q S (pc + 3) ls (vr 21 0 :: st)) : BW O G D k n Q S pc ls (vr 8 0 :: st) :=
  a_get a b (v := vr 21 0) hT (by decide) rfl rfl inW8 (by decide : 1 < 4) hl rfl rfl kk
set_option maxRecDepth 20000 in
theorem g_8_carried {O : Om} {G : Cx} {D : FD} {k n : Nat} {Q : State → Prop} {S : Mem} {pc : Nat} {ls : List (Option AV)} {st : List AV} (a b : Nat) {index : Nat} (hT : IA D a b pc (.getfield index) 3) (hl : Cond.fieldLink D.1.1 index "Newsmint$Log" "carried" "[I" ∈ WSg) (kk : BW O G D k n Q S (pc + 3) ls (vr 22 0 :: st)) : BW O G D k n Q S pc ls (vr 8 0 :: st) :=
  a_get a b (v := vr 22 0) hT (by decide) rfl rfl inW8 (by decide : 2 < 4) hl rfl rfl kk
set_option maxRecDepth 20000 in
theorem g_8_count {O : Om} {G : Cx} {D : FD} {k n : Nat} {Q : State → Prop} {S : Mem} {pc : Nat} {ls : List (Option AV)} {st : List AV} (a b : Nat) {index : Nat} (hT : IA D a b pc (.getfield index) 3) (hl : Cond.fieldLink D.1.1 index "Newsmint$Log" "count" "I" ∈ WSg) (kk : BW O G D k n Q S (pc + 3) ls (vi (S.1 kLogCount 0) :: st)) : BW O G D k n Q S pc ls (vr 8 0 :: st) :=
  a_get a b (v := vi (S.1 kLogCount 0)) hT (by decide) rfl rfl inW8 (by decide : 3 < 4) hl rfl rfl kk
set_option maxRecDepth 20000 in
theorem p_8_count {O : Om} {G : Cx} {D : FD} {k n : Nat} {Q : State → Prop} {S : Mem} {pc : Nat} {ls : List (Option AV)} {st : List AV} (a b : Nat) {index : Nat} {x : Int32} (hT : IA D a b pc (.putfield index) 3) (hl : Cond.fieldLink D.1.1 index "Newsmint$Log" "count" "I" ∈ WSg) (kk : BW O G D k n Q (upd2 S.1 kLogCount 0 x, S.2) (pc + 3) ls st) : BW O G D k n Q S pc ls (vi x :: vr 8 0 :: st) := by
  refine a_put a b (ty := .int) (S' := (upd2 S.1 kLogCount 0 x, S.2)) hT (by decide) rfl rfl inW8 tyX8 tyX8_ok nmX8 (by decide : 3 < 4) hl rfl rfl (by decide +kernel) rfl rfl (Nat.le_of_ble_eq_true rfl) ?_ (ho_C (by decide +kernel) (by decide) (by decide) rfl) kk
  simp only [ent, upd2, if_true, List.set] <;> rfl
set_option maxRecDepth 20000 in
theorem g_9_from {O : Om} {G : Cx} {D : FD} {k n : Nat} {Q : State → Prop} {S : Mem} {pc : Nat} {ls : List (Option AV)} {st : List AV} (a b : Nat) {index : Nat} {i : Nat} (hT : IA D a b pc (.getfield index) 3) (hi : i < 201) (hl : Cond.fieldLink D.1.1 index "Newsmint$Payment" "from" "I" ∈ WSg) (kk : BW O G D k n Q S (pc + 3) ls (vi (S.1 kFroms i) :: st)) : BW O G D k n Q S pc ls (vr 9 i :: st) :=
  a_get a b (v := vi (S.1 kFroms i)) hT hi rfl rfl inW9 (by decide : 0 < 9) hl rfl rfl kk
set_option maxRecDepth 20000 in
theorem p_9_from {O : Om} {G : Cx} {D : FD} {k n : Nat} {Q : State → Prop} {S : Mem} {pc : Nat} {ls : List (Option AV)} {st : List AV} (a b : Nat) {index : Nat} {x : Int32} {i : Nat} (hT : IA D a b pc (.putfield index) 3) (hi : i < 201) (hl : Cond.fieldLink D.1.1 index "Newsmint$Payment" "from" "I" ∈ WSg) (kk : BW O G D k n Q (upd2 S.1 kFroms i x, S.2) (pc + 3) ls st) : BW O G D k n Q S pc ls (vi x :: vr 9 i :: st) := by
  refine a_put a b (ty := .int) (S' := (upd2 S.1 kFroms i x, S.2)) hT hi rfl rfl inW9 tyX9 tyX9_ok nmX9 (by decide : 0 < 9) hl rfl rfl (by decide +kernel) rfl rfl (Nat.le_of_ble_eq_true rfl) ?_ (ho_C (by decide +kernel) (by decide) (by decide) rfl) kk
  simp only [ent, upd2, if_true, List.set] <;> rfl
set_option maxRecDepth 20000 in
theorem g_9_to {O : Om} {G : Cx} {D : FD} {k n : Nat} {Q : State → Prop} {S : Mem} {pc : Nat} {ls : List (Option AV)} {st : List AV} (a b : Nat) {index : Nat} {i : Nat} (hT : IA D a b pc (.getfield index) 3) (hi : i < 201) (hl : Cond.fieldLink D.1.1 index "Newsmint$Payment" "to" "I" ∈ WSg) (kk : BW O G D k n Q S (pc + 3) ls (vi (S.1 kTos i) :: st)) : BW O G D k n Q S pc ls (vr 9 i :: st) :=
  a_get a b (v := vi (S.1 kTos i)) hT hi rfl rfl inW9 (by decide : 1 < 9) hl rfl rfl kk
set_option maxRecDepth 20000 in
theorem p_9_to {O : Om} {G : Cx} {D : FD} {k n : Nat} {Q : State → Prop} {S : Mem} {pc : Nat} {ls : List (Option AV)} {st : List AV} (a b : Nat) {index : Nat} {x : Int32} {i : Nat} (hT : IA D a b pc (.putfield index) 3) (hi : i < 201) (hl : Cond.fieldLink D.1.1 index "Newsmint$Payment" "to" "I" ∈ WSg) (kk : BW O G D k n Q (upd2 S.1 kTos i x, S.2) (pc + 3) ls st) : BW O G D k n Q S pc ls (vi x :: vr 9 i :: st) := by
  refine a_put a b (ty := .int) (S' := (upd2 S.1 kTos i x, S.2)) hT hi rfl rfl inW9 tyX9 tyX9_ok nmX9 (by decide : 1 < 9) hl rfl rfl (by decide +kernel) rfl rfl (Nat.le_of_ble_eq_true rfl) ?_ (ho_C (by decide +kernel) (by decide) (by decide) rfl) kk
  simp only [ent, upd2, if_true, List.set] <;> rfl
set_option maxRecDepth 20000 in
theorem g_9_fromBank {O : Om} {G : Cx} {D : FD} {k n : Nat} {Q : State → Prop} {S : Mem} {pc : Nat} {ls : List (Option AV)} {st : List AV} (a b : Nat) {index : Nat} {i : Nat} (hT : IA D a b pc (.getfield index) 3) (hi : i < 201) (hl : Cond.fieldLink D.1.1 index "Newsmint$Payment" "fromBank" "I" ∈ WSg) (kk : BW O G D k n Q S (pc + 3) ls (vi (S.1 kFromBank i) :: st)) : BW O G D k n Q S pc ls (vr 9 i :: st) :=
  a_get a b (v := vi (S.1 kFromBank i)) hT hi rfl rfl inW9 (by decide : 2 < 9) hl rfl rfl kk
set_option maxRecDepth 20000 in
theorem p_9_fromBank {O : Om} {G : Cx} {D : FD} {k n : Nat} {Q : State → Prop} {S : Mem} {pc : Nat} {ls : List (Option AV)} {st : List AV} (a b : Nat) {index : Nat} {x : Int32} {i : Nat} (hT : IA D a b pc (.putfield index) 3) (hi : i < 201) (hl : Cond.fieldLink D.1.1 index "Newsmint$Payment" "fromBank" "I" ∈ WSg) (kk : BW O G D k n Q (upd2 S.1 kFromBank i x, S.2) (pc + 3) ls st) : BW O G D k n Q S pc ls (vi x :: vr 9 i :: st) := by
  refine a_put a b (ty := .int) (S' := (upd2 S.1 kFromBank i x, S.2)) hT hi rfl rfl inW9 tyX9 tyX9_ok nmX9 (by decide : 2 < 9) hl rfl rfl (by decide +kernel) rfl rfl (Nat.le_of_ble_eq_true rfl) ?_ (ho_C (by decide +kernel) (by decide) (by decide) rfl) kk
  simp only [ent, upd2, if_true, List.set] <;> rfl
set_option maxRecDepth 20000 in
theorem g_9_toBank {O : Om} {G : Cx} {D : FD} {k n : Nat} {Q : State → Prop} {S : Mem} {pc : Nat} {ls : List (Option AV)} {st : List AV} (a b : Nat) {index : Nat} {i : Nat} (hT : IA D a b pc (.getfield index) 3) (hi : i < 201) (hl : Cond.fieldLink D.1.1 index "Newsmint$Payment" "toBank" "I" ∈ WSg) (kk : BW O G D k n Q S (pc + 3) ls (vi (S.1 kToBank i) :: st)) : BW O G D k n Q S pc ls (vr 9 i :: st) :=
  a_get a b (v := vi (S.1 kToBank i)) hT hi rfl rfl inW9 (by decide : 3 < 9) hl rfl rfl kk
set_option maxRecDepth 20000 in
theorem p_9_toBank {O : Om} {G : Cx} {D : FD} {k n : Nat} {Q : State → Prop} {S : Mem} {pc : Nat} {ls : List (Option AV)} {st : List AV} (a b : Nat) {index : Nat} {x : Int32} {i : Nat} (hT : IA D a b pc (.putfield index) 3) (hi : i < 201) (hl : Cond.fieldLink D.1.1 index "Newsmint$Payment" "toBank" "I" ∈ WSg) (kk : BW O G D k n Q (upd2 S.1 kToBank i x, S.2) (pc + 3) ls st) : BW O G D k n Q S pc ls (vi x :: vr 9 i :: st) := by
  refine a_put a b (ty := .int) (S' := (upd2 S.1 kToBank i x, S.2)) hT hi rfl rfl inW9 tyX9 tyX9_ok nmX9 (by decide : 3 < 9) hl rfl rfl (by decide +kernel) rfl rfl (Nat.le_of_ble_eq_true rfl) ?_ (ho_C (by decide +kernel) (by decide) (by decide) rfl) kk
  simp only [ent, upd2, if_true, List.set] <;> rfl
set_option maxRecDepth 20000 in
theorem g_9_amount {O : Om} {G : Cx} {D : FD} {k n : Nat} {Q : State → Prop} {S : Mem} {pc : Nat} {ls : List (Option AV)} {st : List AV} (a b : Nat) {index : Nat} {i : Nat} (hT : IA D a b pc (.getfield index) 3) (hi : i < 201) (hl : Cond.fieldLink D.1.1 index "Newsmint$Payment" "amount" "I" ∈ WSg) (kk : BW O G D k n Q S (pc + 3) ls (vi (S.1 kAmounts i) :: st)) : BW O G D k n Q S pc ls (vr 9 i :: st) :=
  a_get a b (v := vi (S.1 kAmounts i)) hT hi rfl rfl inW9 (by decide : 4 < 9) hl rfl rfl kk
set_option maxRecDepth 20000 in
theorem p_9_amount {O : Om} {G : Cx} {D : FD} {k n : Nat} {Q : State → Prop} {S : Mem} {pc : Nat} {ls : List (Option AV)} {st : List AV} (a b : Nat) {index : Nat} {x : Int32} {i : Nat} (hT : IA D a b pc (.putfield index) 3) (hi : i < 201) (hl : Cond.fieldLink D.1.1 index "Newsmint$Payment" "amount" "I" ∈ WSg) (kk : BW O G D k n Q (upd2 S.1 kAmounts i x, S.2) (pc + 3) ls st) : BW O G D k n Q S pc ls (vi x :: vr 9 i :: st) := by
  refine a_put a b (ty := .int) (S' := (upd2 S.1 kAmounts i x, S.2)) hT hi rfl rfl inW9 tyX9 tyX9_ok nmX9 (by decide : 4 < 9) hl rfl rfl (by decide +kernel) rfl rfl (Nat.le_of_ble_eq_true rfl) ?_ (ho_C (by decide +kernel) (by decide) (by decide) rfl) kk
  simp only [ent, upd2, if_true, List.set] <;> rfl
set_option maxRecDepth 20000 in
theorem g_9_state {O : Om} {G : Cx} {D : FD} {k n : Nat} {Q : State → Prop} {S : Mem} {pc : Nat} {ls : List (Option AV)} {st : List AV} (a b : Nat) {index : Nat} {i : Nat} (hT : IA D a b pc (.getfield index) 3) (hi : i < 201) (hl : Cond.fieldLink D.1.1 index "Newsmint$Payment" "state" "I" ∈ WSg) (kk : BW O G D k n Q S (pc + 3) ls (vi (S.1 kStates i) :: st)) : BW O G D k n Q S pc ls (vr 9 i :: st) :=
  a_get a b (v := vi (S.1 kStates i)) hT hi rfl rfl inW9 (by decide : 5 < 9) hl rfl rfl kk
set_option maxRecDepth 20000 in
theorem p_9_state {O : Om} {G : Cx} {D : FD} {k n : Nat} {Q : State → Prop} {S : Mem} {pc : Nat} {ls : List (Option AV)} {st : List AV} (a b : Nat) {index : Nat} {x : Int32} {i : Nat} (hT : IA D a b pc (.putfield index) 3) (hi : i < 201) (hl : Cond.fieldLink D.1.1 index "Newsmint$Payment" "state" "I" ∈ WSg) (kk : BW O G D k n Q (upd2 S.1 kStates i x, S.2) (pc + 3) ls st) : BW O G D k n Q S pc ls (vi x :: vr 9 i :: st) := by
  refine a_put a b (ty := .int) (S' := (upd2 S.1 kStates i x, S.2)) hT hi rfl rfl inW9 tyX9 tyX9_ok nmX9 (by decide : 5 < 9) hl rfl rfl (by decide +kernel) rfl rfl (Nat.le_of_ble_eq_true rfl) ?_ (ho_C (by decide +kernel) (by decide) (by decide) rfl) kk
  simp only [ent, upd2, if_true, List.set] <;> rfl
set_option maxRecDepth 20000 in
theorem g_9_isChosen {O : Om} {G : Cx} {D : FD} {k n : Nat} {Q : State → Prop} {S : Mem} {pc : Nat} {ls : List (Option AV)} {st : List AV} (a b : Nat) {index : Nat} {i : Nat} (hT : IA D a b pc (.getfield index) 3) (hi : i < 201) (hl : Cond.fieldLink D.1.1 index "Newsmint$Payment" "isChosen" "Z" ∈ WSg) (kk : BW O G D k n Q S (pc + 3) ls (vi (S.1 kAreChosen i) :: st)) : BW O G D k n Q S pc ls (vr 9 i :: st) :=
  a_get a b (v := vi (S.1 kAreChosen i)) hT hi rfl rfl inW9 (by decide : 6 < 9) hl rfl rfl kk
set_option maxRecDepth 20000 in
theorem p_9_isChosen {O : Om} {G : Cx} {D : FD} {k n : Nat} {Q : State → Prop} {S : Mem} {pc : Nat} {ls : List (Option AV)} {st : List AV} (a b : Nat) {index : Nat} {x : Int32} {i : Nat} (hT : IA D a b pc (.putfield index) 3) (hi : i < 201) (hl : Cond.fieldLink D.1.1 index "Newsmint$Payment" "isChosen" "Z" ∈ WSg) (hx : x = 0 ∨ x = 1) (kk : BW O G D k n Q (upd2 S.1 kAreChosen i x, S.2) (pc + 3) ls st) : BW O G D k n Q S pc ls (vi x :: vr 9 i :: st) := by
  refine a_put a b (ty := .boolean) (S' := (upd2 S.1 kAreChosen i x, S.2)) hT hi rfl rfl inW9 tyX9 tyX9_ok nmX9 (by decide : 6 < 9) hl rfl rfl (by decide +kernel) (nar_b hx) (by rcases hx with rfl | rfl <;> rfl) (Nat.le_of_ble_eq_true rfl) ?_ (ho_C (by decide +kernel) (by decide) (by decide) rfl) kk
  simp only [ent, upd2, if_true, List.set] <;> rfl
set_option maxRecDepth 20000 in
theorem g_9_boughtOn {O : Om} {G : Cx} {D : FD} {k n : Nat} {Q : State → Prop} {S : Mem} {pc : Nat} {ls : List (Option AV)} {st : List AV} (a b : Nat) {index : Nat} {i : Nat} (hT : IA D a b pc (.getfield index) 3) (hi : i < 201) (hl : Cond.fieldLink D.1.1 index "Newsmint$Payment" "boughtOn" "I" ∈ WSg) (kk : BW O G D k n Q S (pc + 3) ls (vi (S.1 kBoughtOn i) :: st)) : BW O G D k n Q S pc ls (vr 9 i :: st) :=
  a_get a b (v := vi (S.1 kBoughtOn i)) hT hi rfl rfl inW9 (by decide : 7 < 9) hl rfl rfl kk
set_option maxRecDepth 20000 in
theorem p_9_boughtOn {O : Om} {G : Cx} {D : FD} {k n : Nat} {Q : State → Prop} {S : Mem} {pc : Nat} {ls : List (Option AV)} {st : List AV} (a b : Nat) {index : Nat} {x : Int32} {i : Nat} (hT : IA D a b pc (.putfield index) 3) (hi : i < 201) (hl : Cond.fieldLink D.1.1 index "Newsmint$Payment" "boughtOn" "I" ∈ WSg) (kk : BW O G D k n Q (upd2 S.1 kBoughtOn i x, S.2) (pc + 3) ls st) : BW O G D k n Q S pc ls (vi x :: vr 9 i :: st) := by
  refine a_put a b (ty := .int) (S' := (upd2 S.1 kBoughtOn i x, S.2)) hT hi rfl rfl inW9 tyX9 tyX9_ok nmX9 (by decide : 7 < 9) hl rfl rfl (by decide +kernel) rfl rfl (Nat.le_of_ble_eq_true rfl) ?_ (ho_C (by decide +kernel) (by decide) (by decide) rfl) kk
  simp only [ent, upd2, if_true, List.set] <;> rfl
set_option maxRecDepth 20000 in
theorem g_9_doneOn {O : Om} {G : Cx} {D : FD} {k n : Nat} {Q : State → Prop} {S : Mem} {pc : Nat} {ls : List (Option AV)} {st : List AV} (a b : Nat) {index : Nat} {i : Nat} (hT : IA D a b pc (.getfield index) 3) (hi : i < 201) (hl : Cond.fieldLink D.1.1 index "Newsmint$Payment" "doneOn" "I" ∈ WSg) (kk : BW O G D k n Q S (pc + 3) ls (vi (S.1 kDoneDays i) :: st)) : BW O G D k n Q S pc ls (vr 9 i :: st) :=
  a_get a b (v := vi (S.1 kDoneDays i)) hT hi rfl rfl inW9 (by decide : 8 < 9) hl rfl rfl kk
set_option maxRecDepth 20000 in
theorem p_9_doneOn {O : Om} {G : Cx} {D : FD} {k n : Nat} {Q : State → Prop} {S : Mem} {pc : Nat} {ls : List (Option AV)} {st : List AV} (a b : Nat) {index : Nat} {x : Int32} {i : Nat} (hT : IA D a b pc (.putfield index) 3) (hi : i < 201) (hl : Cond.fieldLink D.1.1 index "Newsmint$Payment" "doneOn" "I" ∈ WSg) (kk : BW O G D k n Q (upd2 S.1 kDoneDays i x, S.2) (pc + 3) ls st) : BW O G D k n Q S pc ls (vi x :: vr 9 i :: st) := by
  refine a_put a b (ty := .int) (S' := (upd2 S.1 kDoneDays i x, S.2)) hT hi rfl rfl inW9 tyX9 tyX9_ok nmX9 (by decide : 8 < 9) hl rfl rfl (by decide +kernel) rfl rfl (Nat.le_of_ble_eq_true rfl) ?_ (ho_C (by decide +kernel) (by decide) (by decide) rfl) kk
  simp only [ent, upd2, if_true, List.set] <;> rfl
set_option maxRecDepth 20000 in
theorem g_10_count {O : Om} {G : Cx} {D : FD} {k n : Nat} {Q : State → Prop} {S : Mem} {pc : Nat} {ls : List (Option AV)} {st : List AV} (a b : Nat) {index : Nat} (hT : IA D a b pc (.getfield index) 3) (hl : Cond.fieldLink D.1.1 index "Newsmint$Payments" "count" "I" ∈ WSg) (kk : BW O G D k n Q S (pc + 3) ls (vi (S.1 kPayments 0) :: st)) : BW O G D k n Q S pc ls (vr 10 0 :: st) :=
  a_get a b (v := vi (S.1 kPayments 0)) hT (by decide) rfl rfl inW10 (by decide : 0 < 3) hl rfl rfl kk
set_option maxRecDepth 20000 in
theorem p_10_count {O : Om} {G : Cx} {D : FD} {k n : Nat} {Q : State → Prop} {S : Mem} {pc : Nat} {ls : List (Option AV)} {st : List AV} (a b : Nat) {index : Nat} {x : Int32} (hT : IA D a b pc (.putfield index) 3) (hl : Cond.fieldLink D.1.1 index "Newsmint$Payments" "count" "I" ∈ WSg) (kk : BW O G D k n Q (upd2 S.1 kPayments 0 x, S.2) (pc + 3) ls st) : BW O G D k n Q S pc ls (vi x :: vr 10 0 :: st) := by
  refine a_put a b (ty := .int) (S' := (upd2 S.1 kPayments 0 x, S.2)) hT (by decide) rfl rfl inW10 tyX10 tyX10_ok nmX10 (by decide : 0 < 3) hl rfl rfl (by decide +kernel) rfl rfl (Nat.le_of_ble_eq_true rfl) ?_ (ho_C (by decide +kernel) (by decide) (by decide) rfl) kk
  simp only [ent, upd2, if_true, List.set] <;> rfl
set_option maxRecDepth 20000 in
theorem g_10_rows {O : Om} {G : Cx} {D : FD} {k n : Nat} {Q : State → Prop} {S : Mem} {pc : Nat} {ls : List (Option AV)} {st : List AV} (a b : Nat) {index : Nat} (hT : IA D a b pc (.getfield index) 3) (hl : Cond.fieldLink D.1.1 index "Newsmint$Payments" "rows" "[LNewsmint$Payment;" ∈ WSg) (kk : BW O G D k n Q S (pc + 3) ls (vr 15 0 :: st)) : BW O G D k n Q S pc ls (vr 10 0 :: st) :=
  a_get a b (v := vr 15 0) hT (by decide) rfl rfl inW10 (by decide : 1 < 3) hl rfl rfl kk
set_option maxRecDepth 20000 in
theorem g_10_noPayment {O : Om} {G : Cx} {D : FD} {k n : Nat} {Q : State → Prop} {S : Mem} {pc : Nat} {ls : List (Option AV)} {st : List AV} (a b : Nat) {index : Nat} (hT : IA D a b pc (.getfield index) 3) (hl : Cond.fieldLink D.1.1 index "Newsmint$Payments" "noPayment" "LNewsmint$Payment;" ∈ WSg) (kk : BW O G D k n Q S (pc + 3) ls (vr 9 200 :: st)) : BW O G D k n Q S pc ls (vr 10 0 :: st) :=
  a_get a b (v := vr 9 200) hT (by decide) rfl rfl inW10 (by decide : 2 < 3) hl rfl rfl kk
set_option maxRecDepth 20000 in
theorem g_11_books {O : Om} {G : Cx} {D : FD} {k n : Nat} {Q : State → Prop} {S : Mem} {pc : Nat} {ls : List (Option AV)} {st : List AV} (a b : Nat) {index : Nat} (hT : IA D a b pc (.getfield index) 3) (hl : Cond.fieldLink D.1.1 index "Newsmint" "books" "LNewsmint$Books;" ∈ WSg) (kk : BW O G D k n Q S (pc + 3) ls (vr 3 0 :: st)) : BW O G D k n Q S pc ls (vr 11 0 :: st) :=
  a_get a b (v := vr 3 0) hT (by decide) rfl rfl inW11 (by decide : 0 < 5) hl rfl rfl kk
set_option maxRecDepth 20000 in
theorem g_11_payments {O : Om} {G : Cx} {D : FD} {k n : Nat} {Q : State → Prop} {S : Mem} {pc : Nat} {ls : List (Option AV)} {st : List AV} (a b : Nat) {index : Nat} (hT : IA D a b pc (.getfield index) 3) (hl : Cond.fieldLink D.1.1 index "Newsmint" "payments" "LNewsmint$Payments;" ∈ WSg) (kk : BW O G D k n Q S (pc + 3) ls (vr 10 0 :: st)) : BW O G D k n Q S pc ls (vr 11 0 :: st) :=
  a_get a b (v := vr 10 0) hT (by decide) rfl rfl inW11 (by decide : 1 < 5) hl rfl rfl kk
set_option maxRecDepth 20000 in
theorem g_11_loans {O : Om} {G : Cx} {D : FD} {k n : Nat} {Q : State → Prop} {S : Mem} {pc : Nat} {ls : List (Option AV)} {st : List AV} (a b : Nat) {index : Nat} (hT : IA D a b pc (.getfield index) 3) (hl : Cond.fieldLink D.1.1 index "Newsmint" "loans" "LNewsmint$Loans;" ∈ WSg) (kk : BW O G D k n Q S (pc + 3) ls (vr 7 0 :: st)) : BW O G D k n Q S pc ls (vr 11 0 :: st) :=
  a_get a b (v := vr 7 0) hT (by decide) rfl rfl inW11 (by decide : 2 < 5) hl rfl rfl kk
set_option maxRecDepth 20000 in
theorem g_11_bonds {O : Om} {G : Cx} {D : FD} {k n : Nat} {Q : State → Prop} {S : Mem} {pc : Nat} {ls : List (Option AV)} {st : List AV} (a b : Nat) {index : Nat} (hT : IA D a b pc (.getfield index) 3) (hl : Cond.fieldLink D.1.1 index "Newsmint" "bonds" "LNewsmint$Bonds;" ∈ WSg) (kk : BW O G D k n Q S (pc + 3) ls (vr 2 0 :: st)) : BW O G D k n Q S pc ls (vr 11 0 :: st) :=
  a_get a b (v := vr 2 0) hT (by decide) rfl rfl inW11 (by decide : 3 < 5) hl rfl rfl kk
set_option maxRecDepth 20000 in
theorem g_11_today {O : Om} {G : Cx} {D : FD} {k n : Nat} {Q : State → Prop} {S : Mem} {pc : Nat} {ls : List (Option AV)} {st : List AV} (a b : Nat) {index : Nat} (hT : IA D a b pc (.getfield index) 3) (hl : Cond.fieldLink D.1.1 index "Newsmint" "today" "I" ∈ WSg) (kk : BW O G D k n Q S (pc + 3) ls (vi (S.1 kDays 0) :: st)) : BW O G D k n Q S pc ls (vr 11 0 :: st) :=
  a_get a b (v := vi (S.1 kDays 0)) hT (by decide) rfl rfl inW11 (by decide : 4 < 5) hl rfl rfl kk
set_option maxRecDepth 20000 in
theorem p_11_today {O : Om} {G : Cx} {D : FD} {k n : Nat} {Q : State → Prop} {S : Mem} {pc : Nat} {ls : List (Option AV)} {st : List AV} (a b : Nat) {index : Nat} {x : Int32} (hT : IA D a b pc (.putfield index) 3) (hl : Cond.fieldLink D.1.1 index "Newsmint" "today" "I" ∈ WSg) (kk : BW O G D k n Q (upd2 S.1 kDays 0 x, S.2) (pc + 3) ls st) : BW O G D k n Q S pc ls (vi x :: vr 11 0 :: st) := by
  refine a_put a b (ty := .int) (S' := (upd2 S.1 kDays 0 x, S.2)) hT (by decide) rfl rfl inW11 tyX11 tyX11_ok nmX11 (by decide : 4 < 5) hl rfl rfl (by decide +kernel) rfl rfl (Nat.le_of_ble_eq_true rfl) ?_ (ho_C (by decide +kernel) (by decide) (by decide) rfl) kk
  simp only [ent, upd2, if_true, List.set] <;> rfl
set_option maxRecDepth 20000 in
theorem g_12_thrown {O : Om} {G : Cx} {D : FD} {k n : Nat} {Q : State → Prop} {S : Mem} {pc : Nat} {ls : List (Option AV)} {st : List AV} (a b : Nat) {index : Nat} (hT : IA D a b pc (.getfield index) 3) (hl : Cond.fieldLink D.1.1 index "NewsmintModel" "thrown" "I" ∈ WSg) (kk : BW O G D k n Q S (pc + 3) ls (vi (S.2.1 kThrown 0) :: st)) : BW O G D k n Q S pc ls (vr 12 0 :: st) :=
  a_get a b (v := vi (S.2.1 kThrown 0)) hT (by decide) rfl rfl inW12 (by decide : 0 < 52) hl rfl rfl kk
set_option maxRecDepth 20000 in
theorem p_12_thrown {O : Om} {G : Cx} {D : FD} {k n : Nat} {Q : State → Prop} {S : Mem} {pc : Nat} {ls : List (Option AV)} {st : List AV} (a b : Nat) {index : Nat} {x : Int32} (hT : IA D a b pc (.putfield index) 3) (hl : Cond.fieldLink D.1.1 index "NewsmintModel" "thrown" "I" ∈ WSg) (kk : BW O G D k n Q (S.1, upd2 S.2.1 kThrown 0 x, S.2.2) (pc + 3) ls st) : BW O G D k n Q S pc ls (vi x :: vr 12 0 :: st) := by
  refine a_put a b (ty := .int) (S' := (S.1, upd2 S.2.1 kThrown 0 x, S.2.2)) hT (by decide) rfl rfl inW12 tyX12 tyX12_ok nmX12 (by decide : 0 < 52) hl rfl rfl (by decide +kernel) rfl rfl (Nat.le_of_ble_eq_true rfl) ?_ (ho_R (by decide +kernel) rfl) kk
  simp only [ent, upd2, if_true, List.set] <;> rfl
set_option maxRecDepth 20000 in
theorem g_12_days {O : Om} {G : Cx} {D : FD} {k n : Nat} {Q : State → Prop} {S : Mem} {pc : Nat} {ls : List (Option AV)} {st : List AV} (a b : Nat) {index : Nat} (hT : IA D a b pc (.getfield index) 3) (hl : Cond.fieldLink D.1.1 index "NewsmintModel" "days" "I" ∈ WSg) (kk : BW O G D k n Q S (pc + 3) ls (vi (S.2.1 kDays 0) :: st)) : BW O G D k n Q S pc ls (vr 12 0 :: st) :=
  a_get a b (v := vi (S.2.1 kDays 0)) hT (by decide) rfl rfl inW12 (by decide : 1 < 52) hl rfl rfl kk
set_option maxRecDepth 20000 in
theorem p_12_days {O : Om} {G : Cx} {D : FD} {k n : Nat} {Q : State → Prop} {S : Mem} {pc : Nat} {ls : List (Option AV)} {st : List AV} (a b : Nat) {index : Nat} {x : Int32} (hT : IA D a b pc (.putfield index) 3) (hl : Cond.fieldLink D.1.1 index "NewsmintModel" "days" "I" ∈ WSg) (kk : BW O G D k n Q (S.1, upd2 S.2.1 kDays 0 x, S.2.2) (pc + 3) ls st) : BW O G D k n Q S pc ls (vi x :: vr 12 0 :: st) := by
  refine a_put a b (ty := .int) (S' := (S.1, upd2 S.2.1 kDays 0 x, S.2.2)) hT (by decide) rfl rfl inW12 tyX12 tyX12_ok nmX12 (by decide : 1 < 52) hl rfl rfl (by decide +kernel) rfl rfl (Nat.le_of_ble_eq_true rfl) ?_ (ho_R (by decide +kernel) rfl) kk
  simp only [ent, upd2, if_true, List.set] <;> rfl
set_option maxRecDepth 20000 in
theorem g_12_rate {O : Om} {G : Cx} {D : FD} {k n : Nat} {Q : State → Prop} {S : Mem} {pc : Nat} {ls : List (Option AV)} {st : List AV} (a b : Nat) {index : Nat} (hT : IA D a b pc (.getfield index) 3) (hl : Cond.fieldLink D.1.1 index "NewsmintModel" "rate" "I" ∈ WSg) (kk : BW O G D k n Q S (pc + 3) ls (vi (S.2.1 kRate 0) :: st)) : BW O G D k n Q S pc ls (vr 12 0 :: st) :=
  a_get a b (v := vi (S.2.1 kRate 0)) hT (by decide) rfl rfl inW12 (by decide : 2 < 52) hl rfl rfl kk
set_option maxRecDepth 20000 in
theorem p_12_rate {O : Om} {G : Cx} {D : FD} {k n : Nat} {Q : State → Prop} {S : Mem} {pc : Nat} {ls : List (Option AV)} {st : List AV} (a b : Nat) {index : Nat} {x : Int32} (hT : IA D a b pc (.putfield index) 3) (hl : Cond.fieldLink D.1.1 index "NewsmintModel" "rate" "I" ∈ WSg) (kk : BW O G D k n Q (S.1, upd2 S.2.1 kRate 0 x, S.2.2) (pc + 3) ls st) : BW O G D k n Q S pc ls (vi x :: vr 12 0 :: st) := by
  refine a_put a b (ty := .int) (S' := (S.1, upd2 S.2.1 kRate 0 x, S.2.2)) hT (by decide) rfl rfl inW12 tyX12 tyX12_ok nmX12 (by decide : 2 < 52) hl rfl rfl (by decide +kernel) rfl rfl (Nat.le_of_ble_eq_true rfl) ?_ (ho_R (by decide +kernel) rfl) kk
  simp only [ent, upd2, if_true, List.set] <;> rfl
set_option maxRecDepth 20000 in
theorem g_12_capitalRule {O : Om} {G : Cx} {D : FD} {k n : Nat} {Q : State → Prop} {S : Mem} {pc : Nat} {ls : List (Option AV)} {st : List AV} (a b : Nat) {index : Nat} (hT : IA D a b pc (.getfield index) 3) (hl : Cond.fieldLink D.1.1 index "NewsmintModel" "capitalRule" "I" ∈ WSg) (kk : BW O G D k n Q S (pc + 3) ls (vi (S.2.1 kCapitalRule 0) :: st)) : BW O G D k n Q S pc ls (vr 12 0 :: st) :=
  a_get a b (v := vi (S.2.1 kCapitalRule 0)) hT (by decide) rfl rfl inW12 (by decide : 3 < 52) hl rfl rfl kk
set_option maxRecDepth 20000 in
theorem p_12_capitalRule {O : Om} {G : Cx} {D : FD} {k n : Nat} {Q : State → Prop} {S : Mem} {pc : Nat} {ls : List (Option AV)} {st : List AV} (a b : Nat) {index : Nat} {x : Int32} (hT : IA D a b pc (.putfield index) 3) (hl : Cond.fieldLink D.1.1 index "NewsmintModel" "capitalRule" "I" ∈ WSg) (kk : BW O G D k n Q (S.1, upd2 S.2.1 kCapitalRule 0 x, S.2.2) (pc + 3) ls st) : BW O G D k n Q S pc ls (vi x :: vr 12 0 :: st) := by
  refine a_put a b (ty := .int) (S' := (S.1, upd2 S.2.1 kCapitalRule 0 x, S.2.2)) hT (by decide) rfl rfl inW12 tyX12 tyX12_ok nmX12 (by decide : 3 < 52) hl rfl rfl (by decide +kernel) rfl rfl (Nat.le_of_ble_eq_true rfl) ?_ (ho_R (by decide +kernel) rfl) kk
  simp only [ent, upd2, if_true, List.set] <;> rfl
set_option maxRecDepth 20000 in
theorem g_12_reserveRule {O : Om} {G : Cx} {D : FD} {k n : Nat} {Q : State → Prop} {S : Mem} {pc : Nat} {ls : List (Option AV)} {st : List AV} (a b : Nat) {index : Nat} (hT : IA D a b pc (.getfield index) 3) (hl : Cond.fieldLink D.1.1 index "NewsmintModel" "reserveRule" "I" ∈ WSg) (kk : BW O G D k n Q S (pc + 3) ls (vi (S.2.1 kReserveRule 0) :: st)) : BW O G D k n Q S pc ls (vr 12 0 :: st) :=
  a_get a b (v := vi (S.2.1 kReserveRule 0)) hT (by decide) rfl rfl inW12 (by decide : 4 < 52) hl rfl rfl kk
set_option maxRecDepth 20000 in
theorem p_12_reserveRule {O : Om} {G : Cx} {D : FD} {k n : Nat} {Q : State → Prop} {S : Mem} {pc : Nat} {ls : List (Option AV)} {st : List AV} (a b : Nat) {index : Nat} {x : Int32} (hT : IA D a b pc (.putfield index) 3) (hl : Cond.fieldLink D.1.1 index "NewsmintModel" "reserveRule" "I" ∈ WSg) (kk : BW O G D k n Q (S.1, upd2 S.2.1 kReserveRule 0 x, S.2.2) (pc + 3) ls st) : BW O G D k n Q S pc ls (vi x :: vr 12 0 :: st) := by
  refine a_put a b (ty := .int) (S' := (S.1, upd2 S.2.1 kReserveRule 0 x, S.2.2)) hT (by decide) rfl rfl inW12 tyX12 tyX12_ok nmX12 (by decide : 4 < 52) hl rfl rfl (by decide +kernel) rfl rfl (Nat.le_of_ble_eq_true rfl) ?_ (ho_R (by decide +kernel) rfl) kk
  simp only [ent, upd2, if_true, List.set] <;> rfl
set_option maxRecDepth 20000 in
theorem g_12_notes {O : Om} {G : Cx} {D : FD} {k n : Nat} {Q : State → Prop} {S : Mem} {pc : Nat} {ls : List (Option AV)} {st : List AV} (a b : Nat) {index : Nat} (hT : IA D a b pc (.getfield index) 3) (hl : Cond.fieldLink D.1.1 index "NewsmintModel" "notes" "[I" ∈ WSg) (kk : BW O G D k n Q S (pc + 3) ls (vr 24 0 :: st)) : BW O G D k n Q S pc ls (vr 12 0 :: st) :=
  a_get a b (v := vr 24 0) hT (by decide) rfl rfl inW12 (by decide : 5 < 52) hl rfl rfl kk
set_option maxRecDepth 20000 in
theorem g_12_forged {O : Om} {G : Cx} {D : FD} {k n : Nat} {Q : State → Prop} {S : Mem} {pc : Nat} {ls : List (Option AV)} {st : List AV} (a b : Nat) {index : Nat} (hT : IA D a b pc (.getfield index) 3) (hl : Cond.fieldLink D.1.1 index "NewsmintModel" "forged" "[I" ∈ WSg) (kk : BW O G D k n Q S (pc + 3) ls (vr 25 0 :: st)) : BW O G D k n Q S pc ls (vr 12 0 :: st) :=
  a_get a b (v := vr 25 0) hT (by decide) rfl rfl inW12 (by decide : 6 < 52) hl rfl rfl kk
set_option maxRecDepth 20000 in
theorem g_12_bankOf {O : Om} {G : Cx} {D : FD} {k n : Nat} {Q : State → Prop} {S : Mem} {pc : Nat} {ls : List (Option AV)} {st : List AV} (a b : Nat) {index : Nat} (hT : IA D a b pc (.getfield index) 3) (hl : Cond.fieldLink D.1.1 index "NewsmintModel" "bankOf" "[I" ∈ WSg) (kk : BW O G D k n Q S (pc + 3) ls (vr 26 0 :: st)) : BW O G D k n Q S pc ls (vr 12 0 :: st) :=
  a_get a b (v := vr 26 0) hT (by decide) rfl rfl inW12 (by decide : 7 < 52) hl rfl rfl kk
set_option maxRecDepth 20000 in
theorem g_12_accounts {O : Om} {G : Cx} {D : FD} {k n : Nat} {Q : State → Prop} {S : Mem} {pc : Nat} {ls : List (Option AV)} {st : List AV} (a b : Nat) {index : Nat} (hT : IA D a b pc (.getfield index) 3) (hl : Cond.fieldLink D.1.1 index "NewsmintModel" "accounts" "[I" ∈ WSg) (kk : BW O G D k n Q S (pc + 3) ls (vr 27 0 :: st)) : BW O G D k n Q S pc ls (vr 12 0 :: st) :=
  a_get a b (v := vr 27 0) hT (by decide) rfl rfl inW12 (by decide : 8 < 52) hl rfl rfl kk
set_option maxRecDepth 20000 in
theorem g_12_blocked {O : Om} {G : Cx} {D : FD} {k n : Nat} {Q : State → Prop} {S : Mem} {pc : Nat} {ls : List (Option AV)} {st : List AV} (a b : Nat) {index : Nat} (hT : IA D a b pc (.getfield index) 3) (hl : Cond.fieldLink D.1.1 index "NewsmintModel" "blocked" "[I" ∈ WSg) (kk : BW O G D k n Q S (pc + 3) ls (vr 28 0 :: st)) : BW O G D k n Q S pc ls (vr 12 0 :: st) :=
  a_get a b (v := vr 28 0) hT (by decide) rfl rfl inW12 (by decide : 9 < 52) hl rfl rfl kk
set_option maxRecDepth 20000 in
theorem g_12_firms {O : Om} {G : Cx} {D : FD} {k n : Nat} {Q : State → Prop} {S : Mem} {pc : Nat} {ls : List (Option AV)} {st : List AV} (a b : Nat) {index : Nat} (hT : IA D a b pc (.getfield index) 3) (hl : Cond.fieldLink D.1.1 index "NewsmintModel" "firms" "[I" ∈ WSg) (kk : BW O G D k n Q S (pc + 3) ls (vr 29 0 :: st)) : BW O G D k n Q S pc ls (vr 12 0 :: st) :=
  a_get a b (v := vr 29 0) hT (by decide) rfl rfl inW12 (by decide : 10 < 52) hl rfl rfl kk
set_option maxRecDepth 20000 in
theorem g_12_wages {O : Om} {G : Cx} {D : FD} {k n : Nat} {Q : State → Prop} {S : Mem} {pc : Nat} {ls : List (Option AV)} {st : List AV} (a b : Nat) {index : Nat} (hT : IA D a b pc (.getfield index) 3) (hl : Cond.fieldLink D.1.1 index "NewsmintModel" "wages" "[I" ∈ WSg) (kk : BW O G D k n Q S (pc + 3) ls (vr 30 0 :: st)) : BW O G D k n Q S pc ls (vr 12 0 :: st) :=
  a_get a b (v := vr 30 0) hT (by decide) rfl rfl inW12 (by decide : 11 < 52) hl rfl rfl kk
set_option maxRecDepth 20000 in
theorem g_12_expects {O : Om} {G : Cx} {D : FD} {k n : Nat} {Q : State → Prop} {S : Mem} {pc : Nat} {ls : List (Option AV)} {st : List AV} (a b : Nat) {index : Nat} (hT : IA D a b pc (.getfield index) 3) (hl : Cond.fieldLink D.1.1 index "NewsmintModel" "expects" "[I" ∈ WSg) (kk : BW O G D k n Q S (pc + 3) ls (vr 31 0 :: st)) : BW O G D k n Q S pc ls (vr 12 0 :: st) :=
  a_get a b (v := vr 31 0) hT (by decide) rfl rfl inW12 (by decide : 12 < 52) hl rfl rfl kk
set_option maxRecDepth 20000 in
theorem g_12_drawn {O : Om} {G : Cx} {D : FD} {k n : Nat} {Q : State → Prop} {S : Mem} {pc : Nat} {ls : List (Option AV)} {st : List AV} (a b : Nat) {index : Nat} (hT : IA D a b pc (.getfield index) 3) (hl : Cond.fieldLink D.1.1 index "NewsmintModel" "drawn" "[I" ∈ WSg) (kk : BW O G D k n Q S (pc + 3) ls (vr 32 0 :: st)) : BW O G D k n Q S pc ls (vr 12 0 :: st) :=
  a_get a b (v := vr 32 0) hT (by decide) rfl rfl inW12 (by decide : 13 < 52) hl rfl rfl kk
set_option maxRecDepth 20000 in
theorem g_12_prices {O : Om} {G : Cx} {D : FD} {k n : Nat} {Q : State → Prop} {S : Mem} {pc : Nat} {ls : List (Option AV)} {st : List AV} (a b : Nat) {index : Nat} (hT : IA D a b pc (.getfield index) 3) (hl : Cond.fieldLink D.1.1 index "NewsmintModel" "prices" "[I" ∈ WSg) (kk : BW O G D k n Q S (pc + 3) ls (vr 33 0 :: st)) : BW O G D k n Q S pc ls (vr 12 0 :: st) :=
  a_get a b (v := vr 33 0) hT (by decide) rfl rfl inW12 (by decide : 14 < 52) hl rfl rfl kk
set_option maxRecDepth 20000 in
theorem g_12_bought {O : Om} {G : Cx} {D : FD} {k n : Nat} {Q : State → Prop} {S : Mem} {pc : Nat} {ls : List (Option AV)} {st : List AV} (a b : Nat) {index : Nat} (hT : IA D a b pc (.getfield index) 3) (hl : Cond.fieldLink D.1.1 index "NewsmintModel" "bought" "[I" ∈ WSg) (kk : BW O G D k n Q S (pc + 3) ls (vr 34 0 :: st)) : BW O G D k n Q S pc ls (vr 12 0 :: st) :=
  a_get a b (v := vr 34 0) hT (by decide) rfl rfl inW12 (by decide : 15 < 52) hl rfl rfl kk
set_option maxRecDepth 20000 in
theorem g_12_reserves {O : Om} {G : Cx} {D : FD} {k n : Nat} {Q : State → Prop} {S : Mem} {pc : Nat} {ls : List (Option AV)} {st : List AV} (a b : Nat) {index : Nat} (hT : IA D a b pc (.getfield index) 3) (hl : Cond.fieldLink D.1.1 index "NewsmintModel" "reserves" "[I" ∈ WSg) (kk : BW O G D k n Q S (pc + 3) ls (vr 35 0 :: st)) : BW O G D k n Q S pc ls (vr 12 0 :: st) :=
  a_get a b (v := vr 35 0) hT (by decide) rfl rfl inW12 (by decide : 16 < 52) hl rfl rfl kk
set_option maxRecDepth 20000 in
theorem g_12_vaults {O : Om} {G : Cx} {D : FD} {k n : Nat} {Q : State → Prop} {S : Mem} {pc : Nat} {ls : List (Option AV)} {st : List AV} (a b : Nat) {index : Nat} (hT : IA D a b pc (.getfield index) 3) (hl : Cond.fieldLink D.1.1 index "NewsmintModel" "vaults" "[I" ∈ WSg) (kk : BW O G D k n Q S (pc + 3) ls (vr 36 0 :: st)) : BW O G D k n Q S pc ls (vr 12 0 :: st) :=
  a_get a b (v := vr 36 0) hT (by decide) rfl rfl inW12 (by decide : 17 < 52) hl rfl rfl kk
set_option maxRecDepth 20000 in
theorem g_12_lent {O : Om} {G : Cx} {D : FD} {k n : Nat} {Q : State → Prop} {S : Mem} {pc : Nat} {ls : List (Option AV)} {st : List AV} (a b : Nat) {index : Nat} (hT : IA D a b pc (.getfield index) 3) (hl : Cond.fieldLink D.1.1 index "NewsmintModel" "lent" "[I" ∈ WSg) (kk : BW O G D k n Q S (pc + 3) ls (vr 37 0 :: st)) : BW O G D k n Q S pc ls (vr 12 0 :: st) :=
  a_get a b (v := vr 37 0) hT (by decide) rfl rfl inW12 (by decide : 18 < 52) hl rfl rfl kk
set_option maxRecDepth 20000 in
theorem g_12_limits {O : Om} {G : Cx} {D : FD} {k n : Nat} {Q : State → Prop} {S : Mem} {pc : Nat} {ls : List (Option AV)} {st : List AV} (a b : Nat) {index : Nat} (hT : IA D a b pc (.getfield index) 3) (hl : Cond.fieldLink D.1.1 index "NewsmintModel" "limits" "[I" ∈ WSg) (kk : BW O G D k n Q S (pc + 3) ls (vr 38 0 :: st)) : BW O G D k n Q S pc ls (vr 12 0 :: st) :=
  a_get a b (v := vr 38 0) hT (by decide) rfl rfl inW12 (by decide : 19 < 52) hl rfl rfl kk
set_option maxRecDepth 20000 in
theorem g_12_haveFailed {O : Om} {G : Cx} {D : FD} {k n : Nat} {Q : State → Prop} {S : Mem} {pc : Nat} {ls : List (Option AV)} {st : List AV} (a b : Nat) {index : Nat} (hT : IA D a b pc (.getfield index) 3) (hl : Cond.fieldLink D.1.1 index "NewsmintModel" "haveFailed" "[Z" ∈ WSg) (kk : BW O G D k n Q S (pc + 3) ls (vr 39 0 :: st)) : BW O G D k n Q S pc ls (vr 12 0 :: st) :=
  a_get a b (v := vr 39 0) hT (by decide) rfl rfl inW12 (by decide : 20 < 52) hl rfl rfl kk
set_option maxRecDepth 20000 in
theorem g_12_areShort {O : Om} {G : Cx} {D : FD} {k n : Nat} {Q : State → Prop} {S : Mem} {pc : Nat} {ls : List (Option AV)} {st : List AV} (a b : Nat) {index : Nat} (hT : IA D a b pc (.getfield index) 3) (hl : Cond.fieldLink D.1.1 index "NewsmintModel" "areShort" "[Z" ∈ WSg) (kk : BW O G D k n Q S (pc + 3) ls (vr 40 0 :: st)) : BW O G D k n Q S pc ls (vr 12 0 :: st) :=
  a_get a b (v := vr 40 0) hT (by decide) rfl rfl inW12 (by decide : 21 < 52) hl rfl rfl kk
set_option maxRecDepth 20000 in
theorem g_12_nets {O : Om} {G : Cx} {D : FD} {k n : Nat} {Q : State → Prop} {S : Mem} {pc : Nat} {ls : List (Option AV)} {st : List AV} (a b : Nat) {index : Nat} (hT : IA D a b pc (.getfield index) 3) (hl : Cond.fieldLink D.1.1 index "NewsmintModel" "nets" "[I" ∈ WSg) (kk : BW O G D k n Q S (pc + 3) ls (vr 41 0 :: st)) : BW O G D k n Q S pc ls (vr 12 0 :: st) :=
  a_get a b (v := vr 41 0) hT (by decide) rfl rfl inW12 (by decide : 22 < 52) hl rfl rfl kk
set_option maxRecDepth 20000 in
theorem g_12_promised {O : Om} {G : Cx} {D : FD} {k n : Nat} {Q : State → Prop} {S : Mem} {pc : Nat} {ls : List (Option AV)} {st : List AV} (a b : Nat) {index : Nat} (hT : IA D a b pc (.getfield index) 3) (hl : Cond.fieldLink D.1.1 index "NewsmintModel" "promised" "[I" ∈ WSg) (kk : BW O G D k n Q S (pc + 3) ls (vr 42 0 :: st)) : BW O G D k n Q S pc ls (vr 12 0 :: st) :=
  a_get a b (v := vr 42 0) hT (by decide) rfl rfl inW12 (by decide : 23 < 52) hl rfl rfl kk
set_option maxRecDepth 20000 in
theorem g_12_loans {O : Om} {G : Cx} {D : FD} {k n : Nat} {Q : State → Prop} {S : Mem} {pc : Nat} {ls : List (Option AV)} {st : List AV} (a b : Nat) {index : Nat} (hT : IA D a b pc (.getfield index) 3) (hl : Cond.fieldLink D.1.1 index "NewsmintModel" "loans" "I" ∈ WSg) (kk : BW O G D k n Q S (pc + 3) ls (vi (S.2.1 kLoans 0) :: st)) : BW O G D k n Q S pc ls (vr 12 0 :: st) :=
  a_get a b (v := vi (S.2.1 kLoans 0)) hT (by decide) rfl rfl inW12 (by decide : 24 < 52) hl rfl rfl kk
set_option maxRecDepth 20000 in
theorem p_12_loans {O : Om} {G : Cx} {D : FD} {k n : Nat} {Q : State → Prop} {S : Mem} {pc : Nat} {ls : List (Option AV)} {st : List AV} (a b : Nat) {index : Nat} {x : Int32} (hT : IA D a b pc (.putfield index) 3) (hl : Cond.fieldLink D.1.1 index "NewsmintModel" "loans" "I" ∈ WSg) (kk : BW O G D k n Q (S.1, upd2 S.2.1 kLoans 0 x, S.2.2) (pc + 3) ls st) : BW O G D k n Q S pc ls (vi x :: vr 12 0 :: st) := by
  refine a_put a b (ty := .int) (S' := (S.1, upd2 S.2.1 kLoans 0 x, S.2.2)) hT (by decide) rfl rfl inW12 tyX12 tyX12_ok nmX12 (by decide : 24 < 52) hl rfl rfl (by decide +kernel) rfl rfl (Nat.le_of_ble_eq_true rfl) ?_ (ho_R (by decide +kernel) rfl) kk
  simp only [ent, upd2, if_true, List.set] <;> rfl
set_option maxRecDepth 20000 in
theorem g_12_loanHolders {O : Om} {G : Cx} {D : FD} {k n : Nat} {Q : State → Prop} {S : Mem} {pc : Nat} {ls : List (Option AV)} {st : List AV} (a b : Nat) {index : Nat} (hT : IA D a b pc (.getfield index) 3) (hl : Cond.fieldLink D.1.1 index "NewsmintModel" "loanHolders" "[I" ∈ WSg) (kk : BW O G D k n Q S (pc + 3) ls (vr 43 0 :: st)) : BW O G D k n Q S pc ls (vr 12 0 :: st) :=
  a_get a b (v := vr 43 0) hT (by decide) rfl rfl inW12 (by decide : 25 < 52) hl rfl rfl kk
set_option maxRecDepth 20000 in
theorem g_12_loanBanks {O : Om} {G : Cx} {D : FD} {k n : Nat} {Q : State → Prop} {S : Mem} {pc : Nat} {ls : List (Option AV)} {st : List AV} (a b : Nat) {index : Nat} (hT : IA D a b pc (.getfield index) 3) (hl : Cond.fieldLink D.1.1 index "NewsmintModel" "loanBanks" "[I" ∈ WSg) (kk : BW O G D k n Q S (pc + 3) ls (vr 44 0 :: st)) : BW O G D k n Q S pc ls (vr 12 0 :: st) :=
  a_get a b (v := vr 44 0) hT (by decide) rfl rfl inW12 (by decide : 26 < 52) hl rfl rfl kk
set_option maxRecDepth 20000 in
theorem g_12_loanLefts {O : Om} {G : Cx} {D : FD} {k n : Nat} {Q : State → Prop} {S : Mem} {pc : Nat} {ls : List (Option AV)} {st : List AV} (a b : Nat) {index : Nat} (hT : IA D a b pc (.getfield index) 3) (hl : Cond.fieldLink D.1.1 index "NewsmintModel" "loanLefts" "[I" ∈ WSg) (kk : BW O G D k n Q S (pc + 3) ls (vr 45 0 :: st)) : BW O G D k n Q S pc ls (vr 12 0 :: st) :=
  a_get a b (v := vr 45 0) hT (by decide) rfl rfl inW12 (by decide : 27 < 52) hl rfl rfl kk
set_option maxRecDepth 20000 in
theorem g_12_loanRates {O : Om} {G : Cx} {D : FD} {k n : Nat} {Q : State → Prop} {S : Mem} {pc : Nat} {ls : List (Option AV)} {st : List AV} (a b : Nat) {index : Nat} (hT : IA D a b pc (.getfield index) 3) (hl : Cond.fieldLink D.1.1 index "NewsmintModel" "loanRates" "[I" ∈ WSg) (kk : BW O G D k n Q S (pc + 3) ls (vr 46 0 :: st)) : BW O G D k n Q S pc ls (vr 12 0 :: st) :=
  a_get a b (v := vr 46 0) hT (by decide) rfl rfl inW12 (by decide : 28 < 52) hl rfl rfl kk
set_option maxRecDepth 20000 in
theorem g_12_overdue {O : Om} {G : Cx} {D : FD} {k n : Nat} {Q : State → Prop} {S : Mem} {pc : Nat} {ls : List (Option AV)} {st : List AV} (a b : Nat) {index : Nat} (hT : IA D a b pc (.getfield index) 3) (hl : Cond.fieldLink D.1.1 index "NewsmintModel" "overdue" "[I" ∈ WSg) (kk : BW O G D k n Q S (pc + 3) ls (vr 47 0 :: st)) : BW O G D k n Q S pc ls (vr 12 0 :: st) :=
  a_get a b (v := vr 47 0) hT (by decide) rfl rfl inW12 (by decide : 29 < 52) hl rfl rfl kk
set_option maxRecDepth 20000 in
theorem g_12_payments {O : Om} {G : Cx} {D : FD} {k n : Nat} {Q : State → Prop} {S : Mem} {pc : Nat} {ls : List (Option AV)} {st : List AV} (a b : Nat) {index : Nat} (hT : IA D a b pc (.getfield index) 3) (hl : Cond.fieldLink D.1.1 index "NewsmintModel" "payments" "I" ∈ WSg) (kk : BW O G D k n Q S (pc + 3) ls (vi (S.2.1 kPayments 0) :: st)) : BW O G D k n Q S pc ls (vr 12 0 :: st) :=
  a_get a b (v := vi (S.2.1 kPayments 0)) hT (by decide) rfl rfl inW12 (by decide : 30 < 52) hl rfl rfl kk
set_option maxRecDepth 20000 in
theorem p_12_payments {O : Om} {G : Cx} {D : FD} {k n : Nat} {Q : State → Prop} {S : Mem} {pc : Nat} {ls : List (Option AV)} {st : List AV} (a b : Nat) {index : Nat} {x : Int32} (hT : IA D a b pc (.putfield index) 3) (hl : Cond.fieldLink D.1.1 index "NewsmintModel" "payments" "I" ∈ WSg) (kk : BW O G D k n Q (S.1, upd2 S.2.1 kPayments 0 x, S.2.2) (pc + 3) ls st) : BW O G D k n Q S pc ls (vi x :: vr 12 0 :: st) := by
  refine a_put a b (ty := .int) (S' := (S.1, upd2 S.2.1 kPayments 0 x, S.2.2)) hT (by decide) rfl rfl inW12 tyX12 tyX12_ok nmX12 (by decide : 30 < 52) hl rfl rfl (by decide +kernel) rfl rfl (Nat.le_of_ble_eq_true rfl) ?_ (ho_R (by decide +kernel) rfl) kk
  simp only [ent, upd2, if_true, List.set] <;> rfl
set_option maxRecDepth 20000 in
theorem g_12_froms {O : Om} {G : Cx} {D : FD} {k n : Nat} {Q : State → Prop} {S : Mem} {pc : Nat} {ls : List (Option AV)} {st : List AV} (a b : Nat) {index : Nat} (hT : IA D a b pc (.getfield index) 3) (hl : Cond.fieldLink D.1.1 index "NewsmintModel" "froms" "[I" ∈ WSg) (kk : BW O G D k n Q S (pc + 3) ls (vr 48 0 :: st)) : BW O G D k n Q S pc ls (vr 12 0 :: st) :=
  a_get a b (v := vr 48 0) hT (by decide) rfl rfl inW12 (by decide : 31 < 52) hl rfl rfl kk
set_option maxRecDepth 20000 in
theorem g_12_tos {O : Om} {G : Cx} {D : FD} {k n : Nat} {Q : State → Prop} {S : Mem} {pc : Nat} {ls : List (Option AV)} {st : List AV} (a b : Nat) {index : Nat} (hT : IA D a b pc (.getfield index) 3) (hl : Cond.fieldLink D.1.1 index "NewsmintModel" "tos" "[I" ∈ WSg) (kk : BW O G D k n Q S (pc + 3) ls (vr 49 0 :: st)) : BW O G D k n Q S pc ls (vr 12 0 :: st) :=
  a_get a b (v := vr 49 0) hT (by decide) rfl rfl inW12 (by decide : 32 < 52) hl rfl rfl kk
set_option maxRecDepth 20000 in
theorem g_12_amounts {O : Om} {G : Cx} {D : FD} {k n : Nat} {Q : State → Prop} {S : Mem} {pc : Nat} {ls : List (Option AV)} {st : List AV} (a b : Nat) {index : Nat} (hT : IA D a b pc (.getfield index) 3) (hl : Cond.fieldLink D.1.1 index "NewsmintModel" "amounts" "[I" ∈ WSg) (kk : BW O G D k n Q S (pc + 3) ls (vr 50 0 :: st)) : BW O G D k n Q S pc ls (vr 12 0 :: st) :=
  a_get a b (v := vr 50 0) hT (by decide) rfl rfl inW12 (by decide : 33 < 52) hl rfl rfl kk
set_option maxRecDepth 20000 in
theorem g_12_states {O : Om} {G : Cx} {D : FD} {k n : Nat} {Q : State → Prop} {S : Mem} {pc : Nat} {ls : List (Option AV)} {st : List AV} (a b : Nat) {index : Nat} (hT : IA D a b pc (.getfield index) 3) (hl : Cond.fieldLink D.1.1 index "NewsmintModel" "states" "[I" ∈ WSg) (kk : BW O G D k n Q S (pc + 3) ls (vr 51 0 :: st)) : BW O G D k n Q S pc ls (vr 12 0 :: st) :=
  a_get a b (v := vr 51 0) hT (by decide) rfl rfl inW12 (by decide : 34 < 52) hl rfl rfl kk
set_option maxRecDepth 20000 in
theorem g_12_areGoods {O : Om} {G : Cx} {D : FD} {k n : Nat} {Q : State → Prop} {S : Mem} {pc : Nat} {ls : List (Option AV)} {st : List AV} (a b : Nat) {index : Nat} (hT : IA D a b pc (.getfield index) 3) (hl : Cond.fieldLink D.1.1 index "NewsmintModel" "areGoods" "[Z" ∈ WSg) (kk : BW O G D k n Q S (pc + 3) ls (vr 52 0 :: st)) : BW O G D k n Q S pc ls (vr 12 0 :: st) :=
  a_get a b (v := vr 52 0) hT (by decide) rfl rfl inW12 (by decide : 35 < 52) hl rfl rfl kk
set_option maxRecDepth 20000 in
theorem g_12_toldDays {O : Om} {G : Cx} {D : FD} {k n : Nat} {Q : State → Prop} {S : Mem} {pc : Nat} {ls : List (Option AV)} {st : List AV} (a b : Nat) {index : Nat} (hT : IA D a b pc (.getfield index) 3) (hl : Cond.fieldLink D.1.1 index "NewsmintModel" "toldDays" "[I" ∈ WSg) (kk : BW O G D k n Q S (pc + 3) ls (vr 53 0 :: st)) : BW O G D k n Q S pc ls (vr 12 0 :: st) :=
  a_get a b (v := vr 53 0) hT (by decide) rfl rfl inW12 (by decide : 36 < 52) hl rfl rfl kk
set_option maxRecDepth 20000 in
theorem g_12_doneDays {O : Om} {G : Cx} {D : FD} {k n : Nat} {Q : State → Prop} {S : Mem} {pc : Nat} {ls : List (Option AV)} {st : List AV} (a b : Nat) {index : Nat} (hT : IA D a b pc (.getfield index) 3) (hl : Cond.fieldLink D.1.1 index "NewsmintModel" "doneDays" "[I" ∈ WSg) (kk : BW O G D k n Q S (pc + 3) ls (vr 54 0 :: st)) : BW O G D k n Q S pc ls (vr 12 0 :: st) :=
  a_get a b (v := vr 54 0) hT (by decide) rfl rfl inW12 (by decide : 37 < 52) hl rfl rfl kk
set_option maxRecDepth 20000 in
theorem g_12_areChosen {O : Om} {G : Cx} {D : FD} {k n : Nat} {Q : State → Prop} {S : Mem} {pc : Nat} {ls : List (Option AV)} {st : List AV} (a b : Nat) {index : Nat} (hT : IA D a b pc (.getfield index) 3) (hl : Cond.fieldLink D.1.1 index "NewsmintModel" "areChosen" "[Z" ∈ WSg) (kk : BW O G D k n Q S (pc + 3) ls (vr 55 0 :: st)) : BW O G D k n Q S pc ls (vr 12 0 :: st) :=
  a_get a b (v := vr 55 0) hT (by decide) rfl rfl inW12 (by decide : 38 < 52) hl rfl rfl kk
set_option maxRecDepth 20000 in
theorem g_12_auctions {O : Om} {G : Cx} {D : FD} {k n : Nat} {Q : State → Prop} {S : Mem} {pc : Nat} {ls : List (Option AV)} {st : List AV} (a b : Nat) {index : Nat} (hT : IA D a b pc (.getfield index) 3) (hl : Cond.fieldLink D.1.1 index "NewsmintModel" "auctions" "I" ∈ WSg) (kk : BW O G D k n Q S (pc + 3) ls (vi (S.2.1 kAuctions 0) :: st)) : BW O G D k n Q S pc ls (vr 12 0 :: st) :=
  a_get a b (v := vi (S.2.1 kAuctions 0)) hT (by decide) rfl rfl inW12 (by decide : 39 < 52) hl rfl rfl kk
set_option maxRecDepth 20000 in
theorem p_12_auctions {O : Om} {G : Cx} {D : FD} {k n : Nat} {Q : State → Prop} {S : Mem} {pc : Nat} {ls : List (Option AV)} {st : List AV} (a b : Nat) {index : Nat} {x : Int32} (hT : IA D a b pc (.putfield index) 3) (hl : Cond.fieldLink D.1.1 index "NewsmintModel" "auctions" "I" ∈ WSg) (kk : BW O G D k n Q (S.1, upd2 S.2.1 kAuctions 0 x, S.2.2) (pc + 3) ls st) : BW O G D k n Q S pc ls (vi x :: vr 12 0 :: st) := by
  refine a_put a b (ty := .int) (S' := (S.1, upd2 S.2.1 kAuctions 0 x, S.2.2)) hT (by decide) rfl rfl inW12 tyX12 tyX12_ok nmX12 (by decide : 39 < 52) hl rfl rfl (by decide +kernel) rfl rfl (Nat.le_of_ble_eq_true rfl) ?_ (ho_R (by decide +kernel) rfl) kk
  simp only [ent, upd2, if_true, List.set] <;> rfl
set_option maxRecDepth 20000 in
theorem g_12_dues {O : Om} {G : Cx} {D : FD} {k n : Nat} {Q : State → Prop} {S : Mem} {pc : Nat} {ls : List (Option AV)} {st : List AV} (a b : Nat) {index : Nat} (hT : IA D a b pc (.getfield index) 3) (hl : Cond.fieldLink D.1.1 index "NewsmintModel" "dues" "[I" ∈ WSg) (kk : BW O G D k n Q S (pc + 3) ls (vr 56 0 :: st)) : BW O G D k n Q S pc ls (vr 12 0 :: st) :=
  a_get a b (v := vr 56 0) hT (by decide) rfl rfl inW12 (by decide : 40 < 52) hl rfl rfl kk
set_option maxRecDepth 20000 in
theorem g_12_bonds {O : Om} {G : Cx} {D : FD} {k n : Nat} {Q : State → Prop} {S : Mem} {pc : Nat} {ls : List (Option AV)} {st : List AV} (a b : Nat) {index : Nat} (hT : IA D a b pc (.getfield index) 3) (hl : Cond.fieldLink D.1.1 index "NewsmintModel" "bonds" "[I" ∈ WSg) (kk : BW O G D k n Q S (pc + 3) ls (vr 57 0 :: st)) : BW O G D k n Q S pc ls (vr 12 0 :: st) :=
  a_get a b (v := vr 57 0) hT (by decide) rfl rfl inW12 (by decide : 41 < 52) hl rfl rfl kk
set_option maxRecDepth 20000 in
theorem g_12_bids {O : Om} {G : Cx} {D : FD} {k n : Nat} {Q : State → Prop} {S : Mem} {pc : Nat} {ls : List (Option AV)} {st : List AV} (a b : Nat) {index : Nat} (hT : IA D a b pc (.getfield index) 3) (hl : Cond.fieldLink D.1.1 index "NewsmintModel" "bids" "I" ∈ WSg) (kk : BW O G D k n Q S (pc + 3) ls (vi (S.2.1 kBids 0) :: st)) : BW O G D k n Q S pc ls (vr 12 0 :: st) :=
  a_get a b (v := vi (S.2.1 kBids 0)) hT (by decide) rfl rfl inW12 (by decide : 42 < 52) hl rfl rfl kk
set_option maxRecDepth 20000 in
theorem p_12_bids {O : Om} {G : Cx} {D : FD} {k n : Nat} {Q : State → Prop} {S : Mem} {pc : Nat} {ls : List (Option AV)} {st : List AV} (a b : Nat) {index : Nat} {x : Int32} (hT : IA D a b pc (.putfield index) 3) (hl : Cond.fieldLink D.1.1 index "NewsmintModel" "bids" "I" ∈ WSg) (kk : BW O G D k n Q (S.1, upd2 S.2.1 kBids 0 x, S.2.2) (pc + 3) ls st) : BW O G D k n Q S pc ls (vi x :: vr 12 0 :: st) := by
  refine a_put a b (ty := .int) (S' := (S.1, upd2 S.2.1 kBids 0 x, S.2.2)) hT (by decide) rfl rfl inW12 tyX12 tyX12_ok nmX12 (by decide : 42 < 52) hl rfl rfl (by decide +kernel) rfl rfl (Nat.le_of_ble_eq_true rfl) ?_ (ho_R (by decide +kernel) rfl) kk
  simp only [ent, upd2, if_true, List.set] <;> rfl
set_option maxRecDepth 20000 in
theorem g_12_bidBanks {O : Om} {G : Cx} {D : FD} {k n : Nat} {Q : State → Prop} {S : Mem} {pc : Nat} {ls : List (Option AV)} {st : List AV} (a b : Nat) {index : Nat} (hT : IA D a b pc (.getfield index) 3) (hl : Cond.fieldLink D.1.1 index "NewsmintModel" "bidBanks" "[I" ∈ WSg) (kk : BW O G D k n Q S (pc + 3) ls (vr 58 0 :: st)) : BW O G D k n Q S pc ls (vr 12 0 :: st) :=
  a_get a b (v := vr 58 0) hT (by decide) rfl rfl inW12 (by decide : 43 < 52) hl rfl rfl kk
set_option maxRecDepth 20000 in
theorem g_12_bidPrices {O : Om} {G : Cx} {D : FD} {k n : Nat} {Q : State → Prop} {S : Mem} {pc : Nat} {ls : List (Option AV)} {st : List AV} (a b : Nat) {index : Nat} (hT : IA D a b pc (.getfield index) 3) (hl : Cond.fieldLink D.1.1 index "NewsmintModel" "bidPrices" "[I" ∈ WSg) (kk : BW O G D k n Q S (pc + 3) ls (vr 59 0 :: st)) : BW O G D k n Q S pc ls (vr 12 0 :: st) :=
  a_get a b (v := vr 59 0) hT (by decide) rfl rfl inW12 (by decide : 44 < 52) hl rfl rfl kk
set_option maxRecDepth 20000 in
theorem g_12_bidNumbers {O : Om} {G : Cx} {D : FD} {k n : Nat} {Q : State → Prop} {S : Mem} {pc : Nat} {ls : List (Option AV)} {st : List AV} (a b : Nat) {index : Nat} (hT : IA D a b pc (.getfield index) 3) (hl : Cond.fieldLink D.1.1 index "NewsmintModel" "bidNumbers" "[I" ∈ WSg) (kk : BW O G D k n Q S (pc + 3) ls (vr 60 0 :: st)) : BW O G D k n Q S pc ls (vr 12 0 :: st) :=
  a_get a b (v := vr 60 0) hT (by decide) rfl rfl inW12 (by decide : 45 < 52) hl rfl rfl kk
set_option maxRecDepth 20000 in
theorem g_12_bidGets {O : Om} {G : Cx} {D : FD} {k n : Nat} {Q : State → Prop} {S : Mem} {pc : Nat} {ls : List (Option AV)} {st : List AV} (a b : Nat) {index : Nat} (hT : IA D a b pc (.getfield index) 3) (hl : Cond.fieldLink D.1.1 index "NewsmintModel" "bidGets" "[I" ∈ WSg) (kk : BW O G D k n Q S (pc + 3) ls (vr 61 0 :: st)) : BW O G D k n Q S pc ls (vr 12 0 :: st) :=
  a_get a b (v := vr 61 0) hT (by decide) rfl rfl inW12 (by decide : 46 < 52) hl rfl rfl kk
set_option maxRecDepth 20000 in
theorem g_12_areSeen {O : Om} {G : Cx} {D : FD} {k n : Nat} {Q : State → Prop} {S : Mem} {pc : Nat} {ls : List (Option AV)} {st : List AV} (a b : Nat) {index : Nat} (hT : IA D a b pc (.getfield index) 3) (hl : Cond.fieldLink D.1.1 index "NewsmintModel" "areSeen" "[Z" ∈ WSg) (kk : BW O G D k n Q S (pc + 3) ls (vr 62 0 :: st)) : BW O G D k n Q S pc ls (vr 12 0 :: st) :=
  a_get a b (v := vr 62 0) hT (by decide) rfl rfl inW12 (by decide : 47 < 52) hl rfl rfl kk
set_option maxRecDepth 20000 in
theorem g_12_treasury {O : Om} {G : Cx} {D : FD} {k n : Nat} {Q : State → Prop} {S : Mem} {pc : Nat} {ls : List (Option AV)} {st : List AV} (a b : Nat) {index : Nat} (hT : IA D a b pc (.getfield index) 3) (hl : Cond.fieldLink D.1.1 index "NewsmintModel" "treasury" "I" ∈ WSg) (kk : BW O G D k n Q S (pc + 3) ls (vi (S.2.1 kTreasury 0) :: st)) : BW O G D k n Q S pc ls (vr 12 0 :: st) :=
  a_get a b (v := vi (S.2.1 kTreasury 0)) hT (by decide) rfl rfl inW12 (by decide : 48 < 52) hl rfl rfl kk
set_option maxRecDepth 20000 in
theorem p_12_treasury {O : Om} {G : Cx} {D : FD} {k n : Nat} {Q : State → Prop} {S : Mem} {pc : Nat} {ls : List (Option AV)} {st : List AV} (a b : Nat) {index : Nat} {x : Int32} (hT : IA D a b pc (.putfield index) 3) (hl : Cond.fieldLink D.1.1 index "NewsmintModel" "treasury" "I" ∈ WSg) (kk : BW O G D k n Q (S.1, upd2 S.2.1 kTreasury 0 x, S.2.2) (pc + 3) ls st) : BW O G D k n Q S pc ls (vi x :: vr 12 0 :: st) := by
  refine a_put a b (ty := .int) (S' := (S.1, upd2 S.2.1 kTreasury 0 x, S.2.2)) hT (by decide) rfl rfl inW12 tyX12 tyX12_ok nmX12 (by decide : 48 < 52) hl rfl rfl (by decide +kernel) rfl rfl (Nat.le_of_ble_eq_true rfl) ?_ (ho_R (by decide +kernel) rfl) kk
  simp only [ent, upd2, if_true, List.set] <;> rfl
set_option maxRecDepth 20000 in
theorem g_12_foreign {O : Om} {G : Cx} {D : FD} {k n : Nat} {Q : State → Prop} {S : Mem} {pc : Nat} {ls : List (Option AV)} {st : List AV} (a b : Nat) {index : Nat} (hT : IA D a b pc (.getfield index) 3) (hl : Cond.fieldLink D.1.1 index "NewsmintModel" "foreign" "I" ∈ WSg) (kk : BW O G D k n Q S (pc + 3) ls (vi (S.2.1 kForeign 0) :: st)) : BW O G D k n Q S pc ls (vr 12 0 :: st) :=
  a_get a b (v := vi (S.2.1 kForeign 0)) hT (by decide) rfl rfl inW12 (by decide : 49 < 52) hl rfl rfl kk
set_option maxRecDepth 20000 in
theorem p_12_foreign {O : Om} {G : Cx} {D : FD} {k n : Nat} {Q : State → Prop} {S : Mem} {pc : Nat} {ls : List (Option AV)} {st : List AV} (a b : Nat) {index : Nat} {x : Int32} (hT : IA D a b pc (.putfield index) 3) (hl : Cond.fieldLink D.1.1 index "NewsmintModel" "foreign" "I" ∈ WSg) (kk : BW O G D k n Q (S.1, upd2 S.2.1 kForeign 0 x, S.2.2) (pc + 3) ls st) : BW O G D k n Q S pc ls (vi x :: vr 12 0 :: st) := by
  refine a_put a b (ty := .int) (S' := (S.1, upd2 S.2.1 kForeign 0 x, S.2.2)) hT (by decide) rfl rfl inW12 tyX12 tyX12_ok nmX12 (by decide : 49 < 52) hl rfl rfl (by decide +kernel) rfl rfl (Nat.le_of_ble_eq_true rfl) ?_ (ho_R (by decide +kernel) rfl) kk
  simp only [ent, upd2, if_true, List.set] <;> rfl
set_option maxRecDepth 20000 in
theorem g_12_foreignCost {O : Om} {G : Cx} {D : FD} {k n : Nat} {Q : State → Prop} {S : Mem} {pc : Nat} {ls : List (Option AV)} {st : List AV} (a b : Nat) {index : Nat} (hT : IA D a b pc (.getfield index) 3) (hl : Cond.fieldLink D.1.1 index "NewsmintModel" "foreignCost" "I" ∈ WSg) (kk : BW O G D k n Q S (pc + 3) ls (vi (S.2.1 kForeignCost 0) :: st)) : BW O G D k n Q S pc ls (vr 12 0 :: st) :=
  a_get a b (v := vi (S.2.1 kForeignCost 0)) hT (by decide) rfl rfl inW12 (by decide : 50 < 52) hl rfl rfl kk
set_option maxRecDepth 20000 in
theorem p_12_foreignCost {O : Om} {G : Cx} {D : FD} {k n : Nat} {Q : State → Prop} {S : Mem} {pc : Nat} {ls : List (Option AV)} {st : List AV} (a b : Nat) {index : Nat} {x : Int32} (hT : IA D a b pc (.putfield index) 3) (hl : Cond.fieldLink D.1.1 index "NewsmintModel" "foreignCost" "I" ∈ WSg) (kk : BW O G D k n Q (S.1, upd2 S.2.1 kForeignCost 0 x, S.2.2) (pc + 3) ls st) : BW O G D k n Q S pc ls (vi x :: vr 12 0 :: st) := by
  refine a_put a b (ty := .int) (S' := (S.1, upd2 S.2.1 kForeignCost 0 x, S.2.2)) hT (by decide) rfl rfl inW12 tyX12 tyX12_ok nmX12 (by decide : 50 < 52) hl rfl rfl (by decide +kernel) rfl rfl (Nat.le_of_ble_eq_true rfl) ?_ (ho_R (by decide +kernel) rfl) kk
  simp only [ent, upd2, if_true, List.set] <;> rfl
set_option maxRecDepth 20000 in
theorem g_12_exchange {O : Om} {G : Cx} {D : FD} {k n : Nat} {Q : State → Prop} {S : Mem} {pc : Nat} {ls : List (Option AV)} {st : List AV} (a b : Nat) {index : Nat} (hT : IA D a b pc (.getfield index) 3) (hl : Cond.fieldLink D.1.1 index "NewsmintModel" "exchange" "I" ∈ WSg) (kk : BW O G D k n Q S (pc + 3) ls (vi (S.2.1 kExchange 0) :: st)) : BW O G D k n Q S pc ls (vr 12 0 :: st) :=
  a_get a b (v := vi (S.2.1 kExchange 0)) hT (by decide) rfl rfl inW12 (by decide : 51 < 52) hl rfl rfl kk
set_option maxRecDepth 20000 in
theorem p_12_exchange {O : Om} {G : Cx} {D : FD} {k n : Nat} {Q : State → Prop} {S : Mem} {pc : Nat} {ls : List (Option AV)} {st : List AV} (a b : Nat) {index : Nat} {x : Int32} (hT : IA D a b pc (.putfield index) 3) (hl : Cond.fieldLink D.1.1 index "NewsmintModel" "exchange" "I" ∈ WSg) (kk : BW O G D k n Q (S.1, upd2 S.2.1 kExchange 0 x, S.2.2) (pc + 3) ls st) : BW O G D k n Q S pc ls (vi x :: vr 12 0 :: st) := by
  refine a_put a b (ty := .int) (S' := (S.1, upd2 S.2.1 kExchange 0 x, S.2.2)) hT (by decide) rfl rfl inW12 tyX12 tyX12_ok nmX12 (by decide : 51 < 52) hl rfl rfl (by decide +kernel) rfl rfl (Nat.le_of_ble_eq_true rfl) ?_ (ho_R (by decide +kernel) rfl) kk
  simp only [ent, upd2, if_true, List.set] <;> rfl
set_option maxRecDepth 20000 in
theorem n_13 {O : Om} {G : Cx} {D : FD} {k n : Nat} {Q : State → Prop} {S : Mem} {pc : Nat} {ls : List (Option AV)} {st : List AV} (a b : Nat) (hT : IA D a b pc .arraylength 1) (kk : BW O G D k n Q S (pc + 1) ls (vi (nI 16) :: st)) : BW O G D k n Q S pc ls (vr 13 0 :: st) := a_alen a b (t0 := 3) hT (by decide) rfl rfl kk
set_option maxRecDepth 20000 in
theorem e_13 {O : Om} {G : Cx} {D : FD} {k n : Nat} {Q : State → Prop} {S : Mem} {pc : Nat} {ls : List (Option AV)} {st : List AV} (a b : Nat) {x : Int32} (j : Nat) (hT : IA D a b pc .aaload 1) (hx : x = nI j) (hj : j < 16) (kk : BW O G D k n Q S (pc + 1) ls (vr 5 j :: st)) : BW O G D k n Q S pc ls (vi x :: vr 13 0 :: st) := a_aald a b (t0 := 3) (N := 16) j hT (by decide) rfl rfl hx hj (by decide) kk
set_option maxRecDepth 20000 in
theorem n_14 {O : Om} {G : Cx} {D : FD} {k n : Nat} {Q : State → Prop} {S : Mem} {pc : Nat} {ls : List (Option AV)} {st : List AV} (a b : Nat) (hT : IA D a b pc .arraylength 1) (kk : BW O G D k n Q S (pc + 1) ls (vi (nI 4) :: st)) : BW O G D k n Q S pc ls (vr 14 0 :: st) := a_alen a b (t0 := 4) hT (by decide) rfl rfl kk
set_option maxRecDepth 20000 in
theorem e_14 {O : Om} {G : Cx} {D : FD} {k n : Nat} {Q : State → Prop} {S : Mem} {pc : Nat} {ls : List (Option AV)} {st : List AV} (a b : Nat) {x : Int32} (j : Nat) (hT : IA D a b pc .aaload 1) (hx : x = nI j) (hj : j < 4) (kk : BW O G D k n Q S (pc + 1) ls (vr 0 j :: st)) : BW O G D k n Q S pc ls (vi x :: vr 14 0 :: st) := a_aald a b (t0 := 4) (N := 4) j hT (by decide) rfl rfl hx hj (by decide) kk
set_option maxRecDepth 20000 in
theorem n_15 {O : Om} {G : Cx} {D : FD} {k n : Nat} {Q : State → Prop} {S : Mem} {pc : Nat} {ls : List (Option AV)} {st : List AV} (a b : Nat) (hT : IA D a b pc .arraylength 1) (kk : BW O G D k n Q S (pc + 1) ls (vi (nI 200) :: st)) : BW O G D k n Q S pc ls (vr 15 0 :: st) := a_alen a b (t0 := 5) hT (by decide) rfl rfl kk
set_option maxRecDepth 20000 in
theorem e_15 {O : Om} {G : Cx} {D : FD} {k n : Nat} {Q : State → Prop} {S : Mem} {pc : Nat} {ls : List (Option AV)} {st : List AV} (a b : Nat) {x : Int32} (j : Nat) (hT : IA D a b pc .aaload 1) (hx : x = nI j) (hj : j < 200) (kk : BW O G D k n Q S (pc + 1) ls (vr 9 j :: st)) : BW O G D k n Q S pc ls (vi x :: vr 15 0 :: st) := a_aald a b (t0 := 5) (N := 200) j hT (by decide) rfl rfl hx hj (by decide) kk
set_option maxRecDepth 20000 in
theorem n_16 {O : Om} {G : Cx} {D : FD} {k n : Nat} {Q : State → Prop} {S : Mem} {pc : Nat} {ls : List (Option AV)} {st : List AV} (a b : Nat) (hT : IA D a b pc .arraylength 1) (kk : BW O G D k n Q S (pc + 1) ls (vi (nI 20) :: st)) : BW O G D k n Q S pc ls (vr 16 0 :: st) := a_alen a b (t0 := 6) hT (by decide) rfl rfl kk
set_option maxRecDepth 20000 in
theorem e_16 {O : Om} {G : Cx} {D : FD} {k n : Nat} {Q : State → Prop} {S : Mem} {pc : Nat} {ls : List (Option AV)} {st : List AV} (a b : Nat) {x : Int32} (j : Nat) (hT : IA D a b pc .aaload 1) (hx : x = nI j) (hj : j < 20) (kk : BW O G D k n Q S (pc + 1) ls (vr 6 j :: st)) : BW O G D k n Q S pc ls (vi x :: vr 16 0 :: st) := a_aald a b (t0 := 6) (N := 20) j hT (by decide) rfl rfl hx hj (by decide) kk
set_option maxRecDepth 20000 in
theorem n_17 {O : Om} {G : Cx} {D : FD} {k n : Nat} {Q : State → Prop} {S : Mem} {pc : Nat} {ls : List (Option AV)} {st : List AV} (a b : Nat) (hT : IA D a b pc .arraylength 1) (kk : BW O G D k n Q S (pc + 1) ls (vi (nI 12) :: st)) : BW O G D k n Q S pc ls (vr 17 0 :: st) := a_alen a b (t0 := 7) hT (by decide) rfl rfl kk
set_option maxRecDepth 20000 in
theorem e_17 {O : Om} {G : Cx} {D : FD} {k n : Nat} {Q : State → Prop} {S : Mem} {pc : Nat} {ls : List (Option AV)} {st : List AV} (a b : Nat) {x : Int32} (j : Nat) (hT : IA D a b pc .aaload 1) (hx : x = nI j) (hj : j < 12) (kk : BW O G D k n Q S (pc + 1) ls (vr 1 j :: st)) : BW O G D k n Q S pc ls (vi x :: vr 17 0 :: st) := a_aald a b (t0 := 7) (N := 12) j hT (by decide) rfl rfl hx hj (by decide) kk
set_option maxRecDepth 20000 in
theorem n_18 {O : Om} {G : Cx} {D : FD} {k n : Nat} {Q : State → Prop} {S : Mem} {pc : Nat} {ls : List (Option AV)} {st : List AV} (a b : Nat) (hT : IA D a b pc .arraylength 1) (kk : BW O G D k n Q S (pc + 1) ls (vi (nI 20) :: st)) : BW O G D k n Q S pc ls (vr 18 0 :: st) := a_alen a b (t0 := 0) hT (by decide) rfl rfl kk
set_option maxRecDepth 20000 in
theorem e_18 {O : Om} {G : Cx} {D : FD} {k n : Nat} {Q : State → Prop} {S : Mem} {pc : Nat} {ls : List (Option AV)} {st : List AV} (a b : Nat) {x : Int32} (j : Nat) (hT : IA D a b pc .iaload 1) (hx : x = nI j) (hj : j < 20) (kk : BW O G D k n Q S (pc + 1) ls (vi (S.1 kDues j) :: st)) : BW O G D k n Q S pc ls (vi x :: vr 18 0 :: st) := a_iald a b (N := 20) (f := fun j => S.1 kDues j) j hT (by decide) rfl hx hj (by decide) kk
set_option maxRecDepth 20000 in
theorem s_18 {O : Om} {G : Cx} {D : FD} {k n : Nat} {Q : State → Prop} {S : Mem} {pc : Nat} {ls : List (Option AV)} {st : List AV} (a b : Nat) {x y : Int32} (j : Nat) (hT : IA D a b pc .iastore 1) (hx : x = nI j) (hj : j < 20) (kk : BW O G D k n Q (upd2 S.1 kDues j y, S.2) (pc + 1) ls st) : BW O G D k n Q S pc ls (vi y :: vi x :: vr 18 0 :: st) :=
  a_iast a b (N := 20) (f := fun j => S.1 kDues j) (S' := (upd2 S.1 kDues j y, S.2)) j hT (by decide) rfl hx hj (by decide) (by rw [upd_upd2]; rfl) (ho_CA (by decide +kernel) (by decide) rfl) kk
set_option maxRecDepth 20000 in
theorem n_19 {O : Om} {G : Cx} {D : FD} {k n : Nat} {Q : State → Prop} {S : Mem} {pc : Nat} {ls : List (Option AV)} {st : List AV} (a b : Nat) (hT : IA D a b pc .arraylength 1) (kk : BW O G D k n Q S (pc + 1) ls (vi (nI 100) :: st)) : BW O G D k n Q S pc ls (vr 19 0 :: st) := a_alen a b (t0 := 0) hT (by decide) rfl rfl kk
set_option maxRecDepth 20000 in
theorem e_19 {O : Om} {G : Cx} {D : FD} {k n : Nat} {Q : State → Prop} {S : Mem} {pc : Nat} {ls : List (Option AV)} {st : List AV} (a b : Nat) {x : Int32} (j : Nat) (hT : IA D a b pc .iaload 1) (hx : x = nI j) (hj : j < 100) (kk : BW O G D k n Q S (pc + 1) ls (vi (S.1 kBonds j) :: st)) : BW O G D k n Q S pc ls (vi x :: vr 19 0 :: st) := a_iald a b (N := 100) (f := fun j => S.1 kBonds j) j hT (by decide) rfl hx hj (by decide) kk
set_option maxRecDepth 20000 in
theorem s_19 {O : Om} {G : Cx} {D : FD} {k n : Nat} {Q : State → Prop} {S : Mem} {pc : Nat} {ls : List (Option AV)} {st : List AV} (a b : Nat) {x y : Int32} (j : Nat) (hT : IA D a b pc .iastore 1) (hx : x = nI j) (hj : j < 100) (kk : BW O G D k n Q (upd2 S.1 kBonds j y, S.2) (pc + 1) ls st) : BW O G D k n Q S pc ls (vi y :: vi x :: vr 19 0 :: st) :=
  a_iast a b (N := 100) (f := fun j => S.1 kBonds j) (S' := (upd2 S.1 kBonds j y, S.2)) j hT (by decide) rfl hx hj (by decide) (by rw [upd_upd2]; rfl) (ho_CA (by decide +kernel) (by decide) rfl) kk
set_option maxRecDepth 20000 in
theorem n_20 {O : Om} {G : Cx} {D : FD} {k n : Nat} {Q : State → Prop} {S : Mem} {pc : Nat} {ls : List (Option AV)} {st : List AV} (a b : Nat) (hT : IA D a b pc .arraylength 1) (kk : BW O G D k n Q S (pc + 1) ls (vi (nI 400) :: st)) : BW O G D k n Q S pc ls (vr 20 0 :: st) := a_alen a b (t0 := 0) hT (by decide) rfl rfl kk
set_option maxRecDepth 20000 in
theorem e_20 {O : Om} {G : Cx} {D : FD} {k n : Nat} {Q : State → Prop} {S : Mem} {pc : Nat} {ls : List (Option AV)} {st : List AV} (a b : Nat) {x : Int32} (j : Nat) (hT : IA D a b pc .iaload 1) (hx : x = nI j) (hj : j < 400) (kk : BW O G D k n Q S (pc + 1) ls (vi (S.1 kLogOwners j) :: st)) : BW O G D k n Q S pc ls (vi x :: vr 20 0 :: st) := a_iald a b (N := 400) (f := fun j => S.1 kLogOwners j) j hT (by decide) rfl hx hj (by decide) kk
set_option maxRecDepth 20000 in
theorem s_20 {O : Om} {G : Cx} {D : FD} {k n : Nat} {Q : State → Prop} {S : Mem} {pc : Nat} {ls : List (Option AV)} {st : List AV} (a b : Nat) {x y : Int32} (j : Nat) (hT : IA D a b pc .iastore 1) (hx : x = nI j) (hj : j < 400) (kk : BW O G D k n Q (upd2 S.1 kLogOwners j y, S.2) (pc + 1) ls st) : BW O G D k n Q S pc ls (vi y :: vi x :: vr 20 0 :: st) :=
  a_iast a b (N := 400) (f := fun j => S.1 kLogOwners j) (S' := (upd2 S.1 kLogOwners j y, S.2)) j hT (by decide) rfl hx hj (by decide) (by rw [upd_upd2]; rfl) (ho_CA (by decide +kernel) (by decide) rfl) kk
set_option maxRecDepth 20000 in
theorem n_21 {O : Om} {G : Cx} {D : FD} {k n : Nat} {Q : State → Prop} {S : Mem} {pc : Nat} {ls : List (Option AV)} {st : List AV} (a b : Nat) (hT : IA D a b pc .arraylength 1) (kk : BW O G D k n Q S (pc + 1) ls (vi (nI 400) :: st)) : BW O G D k n Q S pc ls (vr 21 0 :: st) := a_alen a b (t0 := 0) hT (by decide) rfl rfl kk
set_option maxRecDepth 20000 in
theorem e_21 {O : Om} {G : Cx} {D : FD} {k n : Nat} {Q : State → Prop} {S : Mem} {pc : Nat} {ls : List (Option AV)} {st : List AV} (a b : Nat) {x : Int32} (j : Nat) (hT : IA D a b pc .iaload 1) (hx : x = nI j) (hj : j < 400) (kk : BW O G D k n Q S (pc + 1) ls (vi (S.1 kLogChanges j) :: st)) : BW O G D k n Q S pc ls (vi x :: vr 21 0 :: st) := a_iald a b (N := 400) (f := fun j => S.1 kLogChanges j) j hT (by decide) rfl hx hj (by decide) kk
set_option maxRecDepth 20000 in
theorem s_21 {O : Om} {G : Cx} {D : FD} {k n : Nat} {Q : State → Prop} {S : Mem} {pc : Nat} {ls : List (Option AV)} {st : List AV} (a b : Nat) {x y : Int32} (j : Nat) (hT : IA D a b pc .iastore 1) (hx : x = nI j) (hj : j < 400) (kk : BW O G D k n Q (upd2 S.1 kLogChanges j y, S.2) (pc + 1) ls st) : BW O G D k n Q S pc ls (vi y :: vi x :: vr 21 0 :: st) :=
  a_iast a b (N := 400) (f := fun j => S.1 kLogChanges j) (S' := (upd2 S.1 kLogChanges j y, S.2)) j hT (by decide) rfl hx hj (by decide) (by rw [upd_upd2]; rfl) (ho_CA (by decide +kernel) (by decide) rfl) kk
set_option maxRecDepth 20000 in
theorem n_22 {O : Om} {G : Cx} {D : FD} {k n : Nat} {Q : State → Prop} {S : Mem} {pc : Nat} {ls : List (Option AV)} {st : List AV} (a b : Nat) (hT : IA D a b pc .arraylength 1) (kk : BW O G D k n Q S (pc + 1) ls (vi (nI 17) :: st)) : BW O G D k n Q S pc ls (vr 22 0 :: st) := a_alen a b (t0 := 0) hT (by decide) rfl rfl kk
set_option maxRecDepth 20000 in
theorem e_22 {O : Om} {G : Cx} {D : FD} {k n : Nat} {Q : State → Prop} {S : Mem} {pc : Nat} {ls : List (Option AV)} {st : List AV} (a b : Nat) {x : Int32} (j : Nat) (hT : IA D a b pc .iaload 1) (hx : x = nI j) (hj : j < 17) (kk : BW O G D k n Q S (pc + 1) ls (vi (S.1 kLogCarried j) :: st)) : BW O G D k n Q S pc ls (vi x :: vr 22 0 :: st) := a_iald a b (N := 17) (f := fun j => S.1 kLogCarried j) j hT (by decide) rfl hx hj (by decide) kk
set_option maxRecDepth 20000 in
theorem s_22 {O : Om} {G : Cx} {D : FD} {k n : Nat} {Q : State → Prop} {S : Mem} {pc : Nat} {ls : List (Option AV)} {st : List AV} (a b : Nat) {x y : Int32} (j : Nat) (hT : IA D a b pc .iastore 1) (hx : x = nI j) (hj : j < 17) (kk : BW O G D k n Q (upd2 S.1 kLogCarried j y, S.2) (pc + 1) ls st) : BW O G D k n Q S pc ls (vi y :: vi x :: vr 22 0 :: st) :=
  a_iast a b (N := 17) (f := fun j => S.1 kLogCarried j) (S' := (upd2 S.1 kLogCarried j y, S.2)) j hT (by decide) rfl hx hj (by decide) (by rw [upd_upd2]; rfl) (ho_CA (by decide +kernel) (by decide) rfl) kk
set_option maxRecDepth 20000 in
theorem n_23 {O : Om} {G : Cx} {D : FD} {k n : Nat} {Q : State → Prop} {S : Mem} {pc : Nat} {ls : List (Option AV)} {st : List AV} (a b : Nat) {i : Nat} (hT : IA D a b pc .arraylength 1) (hi : i < 17) (kk : BW O G D k n Q S (pc + 1) ls (vi (nI 4) :: st)) : BW O G D k n Q S pc ls (vr 23 i :: st) := a_alen a b (t0 := 0) hT hi rfl rfl kk
set_option maxRecDepth 20000 in
theorem e_23 {O : Om} {G : Cx} {D : FD} {k n : Nat} {Q : State → Prop} {S : Mem} {pc : Nat} {ls : List (Option AV)} {st : List AV} (a b : Nat) {i : Nat} {x : Int32} (j : Nat) (hT : IA D a b pc .iaload 1) (hi : i < 17) (hx : x = nI j) (hj : j < 4) (kk : BW O G D k n Q S (pc + 1) ls (vi (S.1 (kDrawnC + i) j) :: st)) : BW O G D k n Q S pc ls (vi x :: vr 23 i :: st) := a_iald a b (N := 4) (f := fun j => S.1 (kDrawnC + i) j) j hT hi rfl hx hj (by decide) kk
set_option maxRecDepth 20000 in
theorem s_23 {O : Om} {G : Cx} {D : FD} {k n : Nat} {Q : State → Prop} {S : Mem} {pc : Nat} {ls : List (Option AV)} {st : List AV} (a b : Nat) {i : Nat} {x y : Int32} (j : Nat) (hT : IA D a b pc .iastore 1) (hi : i < 17) (hx : x = nI j) (hj : j < 4) (kk : BW O G D k n Q (upd2 S.1 (kDrawnC + i) j y, S.2) (pc + 1) ls st) : BW O G D k n Q S pc ls (vi y :: vi x :: vr 23 i :: st) :=
  a_iast a b (N := 4) (f := fun j => S.1 (kDrawnC + i) j) (S' := (upd2 S.1 (kDrawnC + i) j y, S.2)) j hT hi rfl hx hj (by decide) (by rw [upd_upd2]; rfl) (ho_CD hi) kk
set_option maxRecDepth 20000 in
theorem n_24 {O : Om} {G : Cx} {D : FD} {k n : Nat} {Q : State → Prop} {S : Mem} {pc : Nat} {ls : List (Option AV)} {st : List AV} (a b : Nat) (hT : IA D a b pc .arraylength 1) (kk : BW O G D k n Q S (pc + 1) ls (vi (nI 16) :: st)) : BW O G D k n Q S pc ls (vr 24 0 :: st) := a_alen a b (t0 := 0) hT (by decide) rfl rfl kk
set_option maxRecDepth 20000 in
theorem e_24 {O : Om} {G : Cx} {D : FD} {k n : Nat} {Q : State → Prop} {S : Mem} {pc : Nat} {ls : List (Option AV)} {st : List AV} (a b : Nat) {x : Int32} (j : Nat) (hT : IA D a b pc .iaload 1) (hx : x = nI j) (hj : j < 16) (kk : BW O G D k n Q S (pc + 1) ls (vi (S.2.1 kNotes j) :: st)) : BW O G D k n Q S pc ls (vi x :: vr 24 0 :: st) := a_iald a b (N := 16) (f := fun j => S.2.1 kNotes j) j hT (by decide) rfl hx hj (by decide) kk
set_option maxRecDepth 20000 in
theorem s_24 {O : Om} {G : Cx} {D : FD} {k n : Nat} {Q : State → Prop} {S : Mem} {pc : Nat} {ls : List (Option AV)} {st : List AV} (a b : Nat) {x y : Int32} (j : Nat) (hT : IA D a b pc .iastore 1) (hx : x = nI j) (hj : j < 16) (kk : BW O G D k n Q (S.1, upd2 S.2.1 kNotes j y, S.2.2) (pc + 1) ls st) : BW O G D k n Q S pc ls (vi y :: vi x :: vr 24 0 :: st) :=
  a_iast a b (N := 16) (f := fun j => S.2.1 kNotes j) (S' := (S.1, upd2 S.2.1 kNotes j y, S.2.2)) j hT (by decide) rfl hx hj (by decide) (by rw [upd_upd2]; rfl) (ho_R (by decide +kernel) rfl) kk
set_option maxRecDepth 20000 in
theorem n_25 {O : Om} {G : Cx} {D : FD} {k n : Nat} {Q : State → Prop} {S : Mem} {pc : Nat} {ls : List (Option AV)} {st : List AV} (a b : Nat) (hT : IA D a b pc .arraylength 1) (kk : BW O G D k n Q S (pc + 1) ls (vi (nI 16) :: st)) : BW O G D k n Q S pc ls (vr 25 0 :: st) := a_alen a b (t0 := 0) hT (by decide) rfl rfl kk
set_option maxRecDepth 20000 in
theorem e_25 {O : Om} {G : Cx} {D : FD} {k n : Nat} {Q : State → Prop} {S : Mem} {pc : Nat} {ls : List (Option AV)} {st : List AV} (a b : Nat) {x : Int32} (j : Nat) (hT : IA D a b pc .iaload 1) (hx : x = nI j) (hj : j < 16) (kk : BW O G D k n Q S (pc + 1) ls (vi (S.2.1 kForged j) :: st)) : BW O G D k n Q S pc ls (vi x :: vr 25 0 :: st) := a_iald a b (N := 16) (f := fun j => S.2.1 kForged j) j hT (by decide) rfl hx hj (by decide) kk
set_option maxRecDepth 20000 in
theorem s_25 {O : Om} {G : Cx} {D : FD} {k n : Nat} {Q : State → Prop} {S : Mem} {pc : Nat} {ls : List (Option AV)} {st : List AV} (a b : Nat) {x y : Int32} (j : Nat) (hT : IA D a b pc .iastore 1) (hx : x = nI j) (hj : j < 16) (kk : BW O G D k n Q (S.1, upd2 S.2.1 kForged j y, S.2.2) (pc + 1) ls st) : BW O G D k n Q S pc ls (vi y :: vi x :: vr 25 0 :: st) :=
  a_iast a b (N := 16) (f := fun j => S.2.1 kForged j) (S' := (S.1, upd2 S.2.1 kForged j y, S.2.2)) j hT (by decide) rfl hx hj (by decide) (by rw [upd_upd2]; rfl) (ho_R (by decide +kernel) rfl) kk
set_option maxRecDepth 20000 in
theorem n_26 {O : Om} {G : Cx} {D : FD} {k n : Nat} {Q : State → Prop} {S : Mem} {pc : Nat} {ls : List (Option AV)} {st : List AV} (a b : Nat) (hT : IA D a b pc .arraylength 1) (kk : BW O G D k n Q S (pc + 1) ls (vi (nI 16) :: st)) : BW O G D k n Q S pc ls (vr 26 0 :: st) := a_alen a b (t0 := 0) hT (by decide) rfl rfl kk
set_option maxRecDepth 20000 in
theorem e_26 {O : Om} {G : Cx} {D : FD} {k n : Nat} {Q : State → Prop} {S : Mem} {pc : Nat} {ls : List (Option AV)} {st : List AV} (a b : Nat) {x : Int32} (j : Nat) (hT : IA D a b pc .iaload 1) (hx : x = nI j) (hj : j < 16) (kk : BW O G D k n Q S (pc + 1) ls (vi (S.2.1 kBankOf j) :: st)) : BW O G D k n Q S pc ls (vi x :: vr 26 0 :: st) := a_iald a b (N := 16) (f := fun j => S.2.1 kBankOf j) j hT (by decide) rfl hx hj (by decide) kk
set_option maxRecDepth 20000 in
theorem s_26 {O : Om} {G : Cx} {D : FD} {k n : Nat} {Q : State → Prop} {S : Mem} {pc : Nat} {ls : List (Option AV)} {st : List AV} (a b : Nat) {x y : Int32} (j : Nat) (hT : IA D a b pc .iastore 1) (hx : x = nI j) (hj : j < 16) (kk : BW O G D k n Q (S.1, upd2 S.2.1 kBankOf j y, S.2.2) (pc + 1) ls st) : BW O G D k n Q S pc ls (vi y :: vi x :: vr 26 0 :: st) :=
  a_iast a b (N := 16) (f := fun j => S.2.1 kBankOf j) (S' := (S.1, upd2 S.2.1 kBankOf j y, S.2.2)) j hT (by decide) rfl hx hj (by decide) (by rw [upd_upd2]; rfl) (ho_R (by decide +kernel) rfl) kk
set_option maxRecDepth 20000 in
theorem n_27 {O : Om} {G : Cx} {D : FD} {k n : Nat} {Q : State → Prop} {S : Mem} {pc : Nat} {ls : List (Option AV)} {st : List AV} (a b : Nat) (hT : IA D a b pc .arraylength 1) (kk : BW O G D k n Q S (pc + 1) ls (vi (nI 16) :: st)) : BW O G D k n Q S pc ls (vr 27 0 :: st) := a_alen a b (t0 := 0) hT (by decide) rfl rfl kk
set_option maxRecDepth 20000 in
theorem e_27 {O : Om} {G : Cx} {D : FD} {k n : Nat} {Q : State → Prop} {S : Mem} {pc : Nat} {ls : List (Option AV)} {st : List AV} (a b : Nat) {x : Int32} (j : Nat) (hT : IA D a b pc .iaload 1) (hx : x = nI j) (hj : j < 16) (kk : BW O G D k n Q S (pc + 1) ls (vi (S.2.1 kAccounts j) :: st)) : BW O G D k n Q S pc ls (vi x :: vr 27 0 :: st) := a_iald a b (N := 16) (f := fun j => S.2.1 kAccounts j) j hT (by decide) rfl hx hj (by decide) kk
set_option maxRecDepth 20000 in
theorem s_27 {O : Om} {G : Cx} {D : FD} {k n : Nat} {Q : State → Prop} {S : Mem} {pc : Nat} {ls : List (Option AV)} {st : List AV} (a b : Nat) {x y : Int32} (j : Nat) (hT : IA D a b pc .iastore 1) (hx : x = nI j) (hj : j < 16) (kk : BW O G D k n Q (S.1, upd2 S.2.1 kAccounts j y, S.2.2) (pc + 1) ls st) : BW O G D k n Q S pc ls (vi y :: vi x :: vr 27 0 :: st) :=
  a_iast a b (N := 16) (f := fun j => S.2.1 kAccounts j) (S' := (S.1, upd2 S.2.1 kAccounts j y, S.2.2)) j hT (by decide) rfl hx hj (by decide) (by rw [upd_upd2]; rfl) (ho_R (by decide +kernel) rfl) kk
set_option maxRecDepth 20000 in
theorem n_28 {O : Om} {G : Cx} {D : FD} {k n : Nat} {Q : State → Prop} {S : Mem} {pc : Nat} {ls : List (Option AV)} {st : List AV} (a b : Nat) (hT : IA D a b pc .arraylength 1) (kk : BW O G D k n Q S (pc + 1) ls (vi (nI 16) :: st)) : BW O G D k n Q S pc ls (vr 28 0 :: st) := a_alen a b (t0 := 0) hT (by decide) rfl rfl kk
set_option maxRecDepth 20000 in
theorem e_28 {O : Om} {G : Cx} {D : FD} {k n : Nat} {Q : State → Prop} {S : Mem} {pc : Nat} {ls : List (Option AV)} {st : List AV} (a b : Nat) {x : Int32} (j : Nat) (hT : IA D a b pc .iaload 1) (hx : x = nI j) (hj : j < 16) (kk : BW O G D k n Q S (pc + 1) ls (vi (S.2.1 kBlocked j) :: st)) : BW O G D k n Q S pc ls (vi x :: vr 28 0 :: st) := a_iald a b (N := 16) (f := fun j => S.2.1 kBlocked j) j hT (by decide) rfl hx hj (by decide) kk
set_option maxRecDepth 20000 in
theorem s_28 {O : Om} {G : Cx} {D : FD} {k n : Nat} {Q : State → Prop} {S : Mem} {pc : Nat} {ls : List (Option AV)} {st : List AV} (a b : Nat) {x y : Int32} (j : Nat) (hT : IA D a b pc .iastore 1) (hx : x = nI j) (hj : j < 16) (kk : BW O G D k n Q (S.1, upd2 S.2.1 kBlocked j y, S.2.2) (pc + 1) ls st) : BW O G D k n Q S pc ls (vi y :: vi x :: vr 28 0 :: st) :=
  a_iast a b (N := 16) (f := fun j => S.2.1 kBlocked j) (S' := (S.1, upd2 S.2.1 kBlocked j y, S.2.2)) j hT (by decide) rfl hx hj (by decide) (by rw [upd_upd2]; rfl) (ho_R (by decide +kernel) rfl) kk
set_option maxRecDepth 20000 in
theorem n_29 {O : Om} {G : Cx} {D : FD} {k n : Nat} {Q : State → Prop} {S : Mem} {pc : Nat} {ls : List (Option AV)} {st : List AV} (a b : Nat) (hT : IA D a b pc .arraylength 1) (kk : BW O G D k n Q S (pc + 1) ls (vi (nI 10) :: st)) : BW O G D k n Q S pc ls (vr 29 0 :: st) := a_alen a b (t0 := 0) hT (by decide) rfl rfl kk
set_option maxRecDepth 20000 in
theorem e_29 {O : Om} {G : Cx} {D : FD} {k n : Nat} {Q : State → Prop} {S : Mem} {pc : Nat} {ls : List (Option AV)} {st : List AV} (a b : Nat) {x : Int32} (j : Nat) (hT : IA D a b pc .iaload 1) (hx : x = nI j) (hj : j < 10) (kk : BW O G D k n Q S (pc + 1) ls (vi (S.2.1 kFirms j) :: st)) : BW O G D k n Q S pc ls (vi x :: vr 29 0 :: st) := a_iald a b (N := 10) (f := fun j => S.2.1 kFirms j) j hT (by decide) rfl hx hj (by decide) kk
set_option maxRecDepth 20000 in
theorem s_29 {O : Om} {G : Cx} {D : FD} {k n : Nat} {Q : State → Prop} {S : Mem} {pc : Nat} {ls : List (Option AV)} {st : List AV} (a b : Nat) {x y : Int32} (j : Nat) (hT : IA D a b pc .iastore 1) (hx : x = nI j) (hj : j < 10) (kk : BW O G D k n Q (S.1, upd2 S.2.1 kFirms j y, S.2.2) (pc + 1) ls st) : BW O G D k n Q S pc ls (vi y :: vi x :: vr 29 0 :: st) :=
  a_iast a b (N := 10) (f := fun j => S.2.1 kFirms j) (S' := (S.1, upd2 S.2.1 kFirms j y, S.2.2)) j hT (by decide) rfl hx hj (by decide) (by rw [upd_upd2]; rfl) (ho_R (by decide +kernel) rfl) kk
set_option maxRecDepth 20000 in
theorem n_30 {O : Om} {G : Cx} {D : FD} {k n : Nat} {Q : State → Prop} {S : Mem} {pc : Nat} {ls : List (Option AV)} {st : List AV} (a b : Nat) (hT : IA D a b pc .arraylength 1) (kk : BW O G D k n Q S (pc + 1) ls (vi (nI 10) :: st)) : BW O G D k n Q S pc ls (vr 30 0 :: st) := a_alen a b (t0 := 0) hT (by decide) rfl rfl kk
set_option maxRecDepth 20000 in
theorem e_30 {O : Om} {G : Cx} {D : FD} {k n : Nat} {Q : State → Prop} {S : Mem} {pc : Nat} {ls : List (Option AV)} {st : List AV} (a b : Nat) {x : Int32} (j : Nat) (hT : IA D a b pc .iaload 1) (hx : x = nI j) (hj : j < 10) (kk : BW O G D k n Q S (pc + 1) ls (vi (S.2.1 kWages j) :: st)) : BW O G D k n Q S pc ls (vi x :: vr 30 0 :: st) := a_iald a b (N := 10) (f := fun j => S.2.1 kWages j) j hT (by decide) rfl hx hj (by decide) kk
set_option maxRecDepth 20000 in
theorem s_30 {O : Om} {G : Cx} {D : FD} {k n : Nat} {Q : State → Prop} {S : Mem} {pc : Nat} {ls : List (Option AV)} {st : List AV} (a b : Nat) {x y : Int32} (j : Nat) (hT : IA D a b pc .iastore 1) (hx : x = nI j) (hj : j < 10) (kk : BW O G D k n Q (S.1, upd2 S.2.1 kWages j y, S.2.2) (pc + 1) ls st) : BW O G D k n Q S pc ls (vi y :: vi x :: vr 30 0 :: st) :=
  a_iast a b (N := 10) (f := fun j => S.2.1 kWages j) (S' := (S.1, upd2 S.2.1 kWages j y, S.2.2)) j hT (by decide) rfl hx hj (by decide) (by rw [upd_upd2]; rfl) (ho_R (by decide +kernel) rfl) kk
set_option maxRecDepth 20000 in
theorem n_31 {O : Om} {G : Cx} {D : FD} {k n : Nat} {Q : State → Prop} {S : Mem} {pc : Nat} {ls : List (Option AV)} {st : List AV} (a b : Nat) (hT : IA D a b pc .arraylength 1) (kk : BW O G D k n Q S (pc + 1) ls (vi (nI 10) :: st)) : BW O G D k n Q S pc ls (vr 31 0 :: st) := a_alen a b (t0 := 0) hT (by decide) rfl rfl kk
set_option maxRecDepth 20000 in
theorem e_31 {O : Om} {G : Cx} {D : FD} {k n : Nat} {Q : State → Prop} {S : Mem} {pc : Nat} {ls : List (Option AV)} {st : List AV} (a b : Nat) {x : Int32} (j : Nat) (hT : IA D a b pc .iaload 1) (hx : x = nI j) (hj : j < 10) (kk : BW O G D k n Q S (pc + 1) ls (vi (S.2.1 kExpects j) :: st)) : BW O G D k n Q S pc ls (vi x :: vr 31 0 :: st) := a_iald a b (N := 10) (f := fun j => S.2.1 kExpects j) j hT (by decide) rfl hx hj (by decide) kk
set_option maxRecDepth 20000 in
theorem s_31 {O : Om} {G : Cx} {D : FD} {k n : Nat} {Q : State → Prop} {S : Mem} {pc : Nat} {ls : List (Option AV)} {st : List AV} (a b : Nat) {x y : Int32} (j : Nat) (hT : IA D a b pc .iastore 1) (hx : x = nI j) (hj : j < 10) (kk : BW O G D k n Q (S.1, upd2 S.2.1 kExpects j y, S.2.2) (pc + 1) ls st) : BW O G D k n Q S pc ls (vi y :: vi x :: vr 31 0 :: st) :=
  a_iast a b (N := 10) (f := fun j => S.2.1 kExpects j) (S' := (S.1, upd2 S.2.1 kExpects j y, S.2.2)) j hT (by decide) rfl hx hj (by decide) (by rw [upd_upd2]; rfl) (ho_R (by decide +kernel) rfl) kk
set_option maxRecDepth 20000 in
theorem n_32 {O : Om} {G : Cx} {D : FD} {k n : Nat} {Q : State → Prop} {S : Mem} {pc : Nat} {ls : List (Option AV)} {st : List AV} (a b : Nat) (hT : IA D a b pc .arraylength 1) (kk : BW O G D k n Q S (pc + 1) ls (vi (nI 40) :: st)) : BW O G D k n Q S pc ls (vr 32 0 :: st) := a_alen a b (t0 := 0) hT (by decide) rfl rfl kk
set_option maxRecDepth 20000 in
theorem e_32 {O : Om} {G : Cx} {D : FD} {k n : Nat} {Q : State → Prop} {S : Mem} {pc : Nat} {ls : List (Option AV)} {st : List AV} (a b : Nat) {x : Int32} (j : Nat) (hT : IA D a b pc .iaload 1) (hx : x = nI j) (hj : j < 40) (kk : BW O G D k n Q S (pc + 1) ls (vi (S.2.1 kDrawn j) :: st)) : BW O G D k n Q S pc ls (vi x :: vr 32 0 :: st) := a_iald a b (N := 40) (f := fun j => S.2.1 kDrawn j) j hT (by decide) rfl hx hj (by decide) kk
set_option maxRecDepth 20000 in
theorem s_32 {O : Om} {G : Cx} {D : FD} {k n : Nat} {Q : State → Prop} {S : Mem} {pc : Nat} {ls : List (Option AV)} {st : List AV} (a b : Nat) {x y : Int32} (j : Nat) (hT : IA D a b pc .iastore 1) (hx : x = nI j) (hj : j < 40) (kk : BW O G D k n Q (S.1, upd2 S.2.1 kDrawn j y, S.2.2) (pc + 1) ls st) : BW O G D k n Q S pc ls (vi y :: vi x :: vr 32 0 :: st) :=
  a_iast a b (N := 40) (f := fun j => S.2.1 kDrawn j) (S' := (S.1, upd2 S.2.1 kDrawn j y, S.2.2)) j hT (by decide) rfl hx hj (by decide) (by rw [upd_upd2]; rfl) (ho_R (by decide +kernel) rfl) kk
set_option maxRecDepth 20000 in
theorem n_33 {O : Om} {G : Cx} {D : FD} {k n : Nat} {Q : State → Prop} {S : Mem} {pc : Nat} {ls : List (Option AV)} {st : List AV} (a b : Nat) (hT : IA D a b pc .arraylength 1) (kk : BW O G D k n Q S (pc + 1) ls (vi (nI 16) :: st)) : BW O G D k n Q S pc ls (vr 33 0 :: st) := a_alen a b (t0 := 0) hT (by decide) rfl rfl kk
set_option maxRecDepth 20000 in
theorem e_33 {O : Om} {G : Cx} {D : FD} {k n : Nat} {Q : State → Prop} {S : Mem} {pc : Nat} {ls : List (Option AV)} {st : List AV} (a b : Nat) {x : Int32} (j : Nat) (hT : IA D a b pc .iaload 1) (hx : x = nI j) (hj : j < 16) (kk : BW O G D k n Q S (pc + 1) ls (vi (S.2.1 kPrices j) :: st)) : BW O G D k n Q S pc ls (vi x :: vr 33 0 :: st) := a_iald a b (N := 16) (f := fun j => S.2.1 kPrices j) j hT (by decide) rfl hx hj (by decide) kk
set_option maxRecDepth 20000 in
theorem s_33 {O : Om} {G : Cx} {D : FD} {k n : Nat} {Q : State → Prop} {S : Mem} {pc : Nat} {ls : List (Option AV)} {st : List AV} (a b : Nat) {x y : Int32} (j : Nat) (hT : IA D a b pc .iastore 1) (hx : x = nI j) (hj : j < 16) (kk : BW O G D k n Q (S.1, upd2 S.2.1 kPrices j y, S.2.2) (pc + 1) ls st) : BW O G D k n Q S pc ls (vi y :: vi x :: vr 33 0 :: st) :=
  a_iast a b (N := 16) (f := fun j => S.2.1 kPrices j) (S' := (S.1, upd2 S.2.1 kPrices j y, S.2.2)) j hT (by decide) rfl hx hj (by decide) (by rw [upd_upd2]; rfl) (ho_R (by decide +kernel) rfl) kk
set_option maxRecDepth 20000 in
theorem n_34 {O : Om} {G : Cx} {D : FD} {k n : Nat} {Q : State → Prop} {S : Mem} {pc : Nat} {ls : List (Option AV)} {st : List AV} (a b : Nat) (hT : IA D a b pc .arraylength 1) (kk : BW O G D k n Q S (pc + 1) ls (vi (nI 16) :: st)) : BW O G D k n Q S pc ls (vr 34 0 :: st) := a_alen a b (t0 := 0) hT (by decide) rfl rfl kk
set_option maxRecDepth 20000 in
theorem e_34 {O : Om} {G : Cx} {D : FD} {k n : Nat} {Q : State → Prop} {S : Mem} {pc : Nat} {ls : List (Option AV)} {st : List AV} (a b : Nat) {x : Int32} (j : Nat) (hT : IA D a b pc .iaload 1) (hx : x = nI j) (hj : j < 16) (kk : BW O G D k n Q S (pc + 1) ls (vi (S.2.1 kBought j) :: st)) : BW O G D k n Q S pc ls (vi x :: vr 34 0 :: st) := a_iald a b (N := 16) (f := fun j => S.2.1 kBought j) j hT (by decide) rfl hx hj (by decide) kk
set_option maxRecDepth 20000 in
theorem s_34 {O : Om} {G : Cx} {D : FD} {k n : Nat} {Q : State → Prop} {S : Mem} {pc : Nat} {ls : List (Option AV)} {st : List AV} (a b : Nat) {x y : Int32} (j : Nat) (hT : IA D a b pc .iastore 1) (hx : x = nI j) (hj : j < 16) (kk : BW O G D k n Q (S.1, upd2 S.2.1 kBought j y, S.2.2) (pc + 1) ls st) : BW O G D k n Q S pc ls (vi y :: vi x :: vr 34 0 :: st) :=
  a_iast a b (N := 16) (f := fun j => S.2.1 kBought j) (S' := (S.1, upd2 S.2.1 kBought j y, S.2.2)) j hT (by decide) rfl hx hj (by decide) (by rw [upd_upd2]; rfl) (ho_R (by decide +kernel) rfl) kk
set_option maxRecDepth 20000 in
theorem n_35 {O : Om} {G : Cx} {D : FD} {k n : Nat} {Q : State → Prop} {S : Mem} {pc : Nat} {ls : List (Option AV)} {st : List AV} (a b : Nat) (hT : IA D a b pc .arraylength 1) (kk : BW O G D k n Q S (pc + 1) ls (vi (nI 4) :: st)) : BW O G D k n Q S pc ls (vr 35 0 :: st) := a_alen a b (t0 := 0) hT (by decide) rfl rfl kk
set_option maxRecDepth 20000 in
theorem e_35 {O : Om} {G : Cx} {D : FD} {k n : Nat} {Q : State → Prop} {S : Mem} {pc : Nat} {ls : List (Option AV)} {st : List AV} (a b : Nat) {x : Int32} (j : Nat) (hT : IA D a b pc .iaload 1) (hx : x = nI j) (hj : j < 4) (kk : BW O G D k n Q S (pc + 1) ls (vi (S.2.1 kReserves j) :: st)) : BW O G D k n Q S pc ls (vi x :: vr 35 0 :: st) := a_iald a b (N := 4) (f := fun j => S.2.1 kReserves j) j hT (by decide) rfl hx hj (by decide) kk
set_option maxRecDepth 20000 in
theorem s_35 {O : Om} {G : Cx} {D : FD} {k n : Nat} {Q : State → Prop} {S : Mem} {pc : Nat} {ls : List (Option AV)} {st : List AV} (a b : Nat) {x y : Int32} (j : Nat) (hT : IA D a b pc .iastore 1) (hx : x = nI j) (hj : j < 4) (kk : BW O G D k n Q (S.1, upd2 S.2.1 kReserves j y, S.2.2) (pc + 1) ls st) : BW O G D k n Q S pc ls (vi y :: vi x :: vr 35 0 :: st) :=
  a_iast a b (N := 4) (f := fun j => S.2.1 kReserves j) (S' := (S.1, upd2 S.2.1 kReserves j y, S.2.2)) j hT (by decide) rfl hx hj (by decide) (by rw [upd_upd2]; rfl) (ho_R (by decide +kernel) rfl) kk
set_option maxRecDepth 20000 in
theorem n_36 {O : Om} {G : Cx} {D : FD} {k n : Nat} {Q : State → Prop} {S : Mem} {pc : Nat} {ls : List (Option AV)} {st : List AV} (a b : Nat) (hT : IA D a b pc .arraylength 1) (kk : BW O G D k n Q S (pc + 1) ls (vi (nI 4) :: st)) : BW O G D k n Q S pc ls (vr 36 0 :: st) := a_alen a b (t0 := 0) hT (by decide) rfl rfl kk
set_option maxRecDepth 20000 in
theorem e_36 {O : Om} {G : Cx} {D : FD} {k n : Nat} {Q : State → Prop} {S : Mem} {pc : Nat} {ls : List (Option AV)} {st : List AV} (a b : Nat) {x : Int32} (j : Nat) (hT : IA D a b pc .iaload 1) (hx : x = nI j) (hj : j < 4) (kk : BW O G D k n Q S (pc + 1) ls (vi (S.2.1 kVaults j) :: st)) : BW O G D k n Q S pc ls (vi x :: vr 36 0 :: st) := a_iald a b (N := 4) (f := fun j => S.2.1 kVaults j) j hT (by decide) rfl hx hj (by decide) kk
set_option maxRecDepth 20000 in
theorem s_36 {O : Om} {G : Cx} {D : FD} {k n : Nat} {Q : State → Prop} {S : Mem} {pc : Nat} {ls : List (Option AV)} {st : List AV} (a b : Nat) {x y : Int32} (j : Nat) (hT : IA D a b pc .iastore 1) (hx : x = nI j) (hj : j < 4) (kk : BW O G D k n Q (S.1, upd2 S.2.1 kVaults j y, S.2.2) (pc + 1) ls st) : BW O G D k n Q S pc ls (vi y :: vi x :: vr 36 0 :: st) :=
  a_iast a b (N := 4) (f := fun j => S.2.1 kVaults j) (S' := (S.1, upd2 S.2.1 kVaults j y, S.2.2)) j hT (by decide) rfl hx hj (by decide) (by rw [upd_upd2]; rfl) (ho_R (by decide +kernel) rfl) kk
set_option maxRecDepth 20000 in
theorem n_37 {O : Om} {G : Cx} {D : FD} {k n : Nat} {Q : State → Prop} {S : Mem} {pc : Nat} {ls : List (Option AV)} {st : List AV} (a b : Nat) (hT : IA D a b pc .arraylength 1) (kk : BW O G D k n Q S (pc + 1) ls (vi (nI 4) :: st)) : BW O G D k n Q S pc ls (vr 37 0 :: st) := a_alen a b (t0 := 0) hT (by decide) rfl rfl kk
set_option maxRecDepth 20000 in
theorem e_37 {O : Om} {G : Cx} {D : FD} {k n : Nat} {Q : State → Prop} {S : Mem} {pc : Nat} {ls : List (Option AV)} {st : List AV} (a b : Nat) {x : Int32} (j : Nat) (hT : IA D a b pc .iaload 1) (hx : x = nI j) (hj : j < 4) (kk : BW O G D k n Q S (pc + 1) ls (vi (S.2.1 kLent j) :: st)) : BW O G D k n Q S pc ls (vi x :: vr 37 0 :: st) := a_iald a b (N := 4) (f := fun j => S.2.1 kLent j) j hT (by decide) rfl hx hj (by decide) kk
set_option maxRecDepth 20000 in
theorem s_37 {O : Om} {G : Cx} {D : FD} {k n : Nat} {Q : State → Prop} {S : Mem} {pc : Nat} {ls : List (Option AV)} {st : List AV} (a b : Nat) {x y : Int32} (j : Nat) (hT : IA D a b pc .iastore 1) (hx : x = nI j) (hj : j < 4) (kk : BW O G D k n Q (S.1, upd2 S.2.1 kLent j y, S.2.2) (pc + 1) ls st) : BW O G D k n Q S pc ls (vi y :: vi x :: vr 37 0 :: st) :=
  a_iast a b (N := 4) (f := fun j => S.2.1 kLent j) (S' := (S.1, upd2 S.2.1 kLent j y, S.2.2)) j hT (by decide) rfl hx hj (by decide) (by rw [upd_upd2]; rfl) (ho_R (by decide +kernel) rfl) kk
set_option maxRecDepth 20000 in
theorem n_38 {O : Om} {G : Cx} {D : FD} {k n : Nat} {Q : State → Prop} {S : Mem} {pc : Nat} {ls : List (Option AV)} {st : List AV} (a b : Nat) (hT : IA D a b pc .arraylength 1) (kk : BW O G D k n Q S (pc + 1) ls (vi (nI 4) :: st)) : BW O G D k n Q S pc ls (vr 38 0 :: st) := a_alen a b (t0 := 0) hT (by decide) rfl rfl kk
set_option maxRecDepth 20000 in
theorem e_38 {O : Om} {G : Cx} {D : FD} {k n : Nat} {Q : State → Prop} {S : Mem} {pc : Nat} {ls : List (Option AV)} {st : List AV} (a b : Nat) {x : Int32} (j : Nat) (hT : IA D a b pc .iaload 1) (hx : x = nI j) (hj : j < 4) (kk : BW O G D k n Q S (pc + 1) ls (vi (S.2.1 kLimits j) :: st)) : BW O G D k n Q S pc ls (vi x :: vr 38 0 :: st) := a_iald a b (N := 4) (f := fun j => S.2.1 kLimits j) j hT (by decide) rfl hx hj (by decide) kk
set_option maxRecDepth 20000 in
theorem s_38 {O : Om} {G : Cx} {D : FD} {k n : Nat} {Q : State → Prop} {S : Mem} {pc : Nat} {ls : List (Option AV)} {st : List AV} (a b : Nat) {x y : Int32} (j : Nat) (hT : IA D a b pc .iastore 1) (hx : x = nI j) (hj : j < 4) (kk : BW O G D k n Q (S.1, upd2 S.2.1 kLimits j y, S.2.2) (pc + 1) ls st) : BW O G D k n Q S pc ls (vi y :: vi x :: vr 38 0 :: st) :=
  a_iast a b (N := 4) (f := fun j => S.2.1 kLimits j) (S' := (S.1, upd2 S.2.1 kLimits j y, S.2.2)) j hT (by decide) rfl hx hj (by decide) (by rw [upd_upd2]; rfl) (ho_R (by decide +kernel) rfl) kk
set_option maxRecDepth 20000 in
theorem n_39 {O : Om} {G : Cx} {D : FD} {k n : Nat} {Q : State → Prop} {S : Mem} {pc : Nat} {ls : List (Option AV)} {st : List AV} (a b : Nat) (hT : IA D a b pc .arraylength 1) (kk : BW O G D k n Q S (pc + 1) ls (vi (nI 4) :: st)) : BW O G D k n Q S pc ls (vr 39 0 :: st) := a_alen a b (t0 := 1) hT (by decide) rfl rfl kk
set_option maxRecDepth 20000 in
theorem e_39 {O : Om} {G : Cx} {D : FD} {k n : Nat} {Q : State → Prop} {S : Mem} {pc : Nat} {ls : List (Option AV)} {st : List AV} (a b : Nat) {x : Int32} (j : Nat) (hT : IA D a b pc .baload 1) (hx : x = nI j) (hj : j < 4) (kk : BW O G D k n Q S (pc + 1) ls (vi (S.2.1 kHaveFailed j) :: st)) : BW O G D k n Q S pc ls (vi x :: vr 39 0 :: st) := a_zald a b (N := 4) (f := fun j => S.2.1 kHaveFailed j) j hT (by decide) rfl hx hj (by decide) kk
set_option maxRecDepth 20000 in
theorem s_39 {O : Om} {G : Cx} {D : FD} {k n : Nat} {Q : State → Prop} {S : Mem} {pc : Nat} {ls : List (Option AV)} {st : List AV} (a b : Nat) {x y : Int32} (j : Nat) (hT : IA D a b pc .bastore 1) (hx : x = nI j) (hj : j < 4) (hy : y = 0 ∨ y = 1) (kk : BW O G D k n Q (S.1, upd2 S.2.1 kHaveFailed j y, S.2.2) (pc + 1) ls st) : BW O G D k n Q S pc ls (vi y :: vi x :: vr 39 0 :: st) :=
  a_zast a b (N := 4) (f := fun j => S.2.1 kHaveFailed j) (S' := (S.1, upd2 S.2.1 kHaveFailed j y, S.2.2)) j hT (by decide) rfl hx hj (by decide) (vnar_b hy) (by rw [upd_upd2]; rfl) (ho_R (by decide +kernel) rfl) kk
set_option maxRecDepth 20000 in
theorem n_40 {O : Om} {G : Cx} {D : FD} {k n : Nat} {Q : State → Prop} {S : Mem} {pc : Nat} {ls : List (Option AV)} {st : List AV} (a b : Nat) (hT : IA D a b pc .arraylength 1) (kk : BW O G D k n Q S (pc + 1) ls (vi (nI 4) :: st)) : BW O G D k n Q S pc ls (vr 40 0 :: st) := a_alen a b (t0 := 1) hT (by decide) rfl rfl kk
set_option maxRecDepth 20000 in
theorem e_40 {O : Om} {G : Cx} {D : FD} {k n : Nat} {Q : State → Prop} {S : Mem} {pc : Nat} {ls : List (Option AV)} {st : List AV} (a b : Nat) {x : Int32} (j : Nat) (hT : IA D a b pc .baload 1) (hx : x = nI j) (hj : j < 4) (kk : BW O G D k n Q S (pc + 1) ls (vi (S.2.1 kAreShort j) :: st)) : BW O G D k n Q S pc ls (vi x :: vr 40 0 :: st) := a_zald a b (N := 4) (f := fun j => S.2.1 kAreShort j) j hT (by decide) rfl hx hj (by decide) kk
set_option maxRecDepth 20000 in
theorem s_40 {O : Om} {G : Cx} {D : FD} {k n : Nat} {Q : State → Prop} {S : Mem} {pc : Nat} {ls : List (Option AV)} {st : List AV} (a b : Nat) {x y : Int32} (j : Nat) (hT : IA D a b pc .bastore 1) (hx : x = nI j) (hj : j < 4) (hy : y = 0 ∨ y = 1) (kk : BW O G D k n Q (S.1, upd2 S.2.1 kAreShort j y, S.2.2) (pc + 1) ls st) : BW O G D k n Q S pc ls (vi y :: vi x :: vr 40 0 :: st) :=
  a_zast a b (N := 4) (f := fun j => S.2.1 kAreShort j) (S' := (S.1, upd2 S.2.1 kAreShort j y, S.2.2)) j hT (by decide) rfl hx hj (by decide) (vnar_b hy) (by rw [upd_upd2]; rfl) (ho_R (by decide +kernel) rfl) kk
set_option maxRecDepth 20000 in
theorem n_41 {O : Om} {G : Cx} {D : FD} {k n : Nat} {Q : State → Prop} {S : Mem} {pc : Nat} {ls : List (Option AV)} {st : List AV} (a b : Nat) (hT : IA D a b pc .arraylength 1) (kk : BW O G D k n Q S (pc + 1) ls (vi (nI 4) :: st)) : BW O G D k n Q S pc ls (vr 41 0 :: st) := a_alen a b (t0 := 0) hT (by decide) rfl rfl kk
set_option maxRecDepth 20000 in
theorem e_41 {O : Om} {G : Cx} {D : FD} {k n : Nat} {Q : State → Prop} {S : Mem} {pc : Nat} {ls : List (Option AV)} {st : List AV} (a b : Nat) {x : Int32} (j : Nat) (hT : IA D a b pc .iaload 1) (hx : x = nI j) (hj : j < 4) (kk : BW O G D k n Q S (pc + 1) ls (vi (S.2.1 kNets j) :: st)) : BW O G D k n Q S pc ls (vi x :: vr 41 0 :: st) := a_iald a b (N := 4) (f := fun j => S.2.1 kNets j) j hT (by decide) rfl hx hj (by decide) kk
set_option maxRecDepth 20000 in
theorem s_41 {O : Om} {G : Cx} {D : FD} {k n : Nat} {Q : State → Prop} {S : Mem} {pc : Nat} {ls : List (Option AV)} {st : List AV} (a b : Nat) {x y : Int32} (j : Nat) (hT : IA D a b pc .iastore 1) (hx : x = nI j) (hj : j < 4) (kk : BW O G D k n Q (S.1, upd2 S.2.1 kNets j y, S.2.2) (pc + 1) ls st) : BW O G D k n Q S pc ls (vi y :: vi x :: vr 41 0 :: st) :=
  a_iast a b (N := 4) (f := fun j => S.2.1 kNets j) (S' := (S.1, upd2 S.2.1 kNets j y, S.2.2)) j hT (by decide) rfl hx hj (by decide) (by rw [upd_upd2]; rfl) (ho_R (by decide +kernel) rfl) kk
set_option maxRecDepth 20000 in
theorem n_42 {O : Om} {G : Cx} {D : FD} {k n : Nat} {Q : State → Prop} {S : Mem} {pc : Nat} {ls : List (Option AV)} {st : List AV} (a b : Nat) (hT : IA D a b pc .arraylength 1) (kk : BW O G D k n Q S (pc + 1) ls (vi (nI 4) :: st)) : BW O G D k n Q S pc ls (vr 42 0 :: st) := a_alen a b (t0 := 0) hT (by decide) rfl rfl kk
set_option maxRecDepth 20000 in
theorem e_42 {O : Om} {G : Cx} {D : FD} {k n : Nat} {Q : State → Prop} {S : Mem} {pc : Nat} {ls : List (Option AV)} {st : List AV} (a b : Nat) {x : Int32} (j : Nat) (hT : IA D a b pc .iaload 1) (hx : x = nI j) (hj : j < 4) (kk : BW O G D k n Q S (pc + 1) ls (vi (S.2.1 kPromised j) :: st)) : BW O G D k n Q S pc ls (vi x :: vr 42 0 :: st) := a_iald a b (N := 4) (f := fun j => S.2.1 kPromised j) j hT (by decide) rfl hx hj (by decide) kk
set_option maxRecDepth 20000 in
theorem s_42 {O : Om} {G : Cx} {D : FD} {k n : Nat} {Q : State → Prop} {S : Mem} {pc : Nat} {ls : List (Option AV)} {st : List AV} (a b : Nat) {x y : Int32} (j : Nat) (hT : IA D a b pc .iastore 1) (hx : x = nI j) (hj : j < 4) (kk : BW O G D k n Q (S.1, upd2 S.2.1 kPromised j y, S.2.2) (pc + 1) ls st) : BW O G D k n Q S pc ls (vi y :: vi x :: vr 42 0 :: st) :=
  a_iast a b (N := 4) (f := fun j => S.2.1 kPromised j) (S' := (S.1, upd2 S.2.1 kPromised j y, S.2.2)) j hT (by decide) rfl hx hj (by decide) (by rw [upd_upd2]; rfl) (ho_R (by decide +kernel) rfl) kk
set_option maxRecDepth 20000 in
theorem n_43 {O : Om} {G : Cx} {D : FD} {k n : Nat} {Q : State → Prop} {S : Mem} {pc : Nat} {ls : List (Option AV)} {st : List AV} (a b : Nat) (hT : IA D a b pc .arraylength 1) (kk : BW O G D k n Q S (pc + 1) ls (vi (nI 20) :: st)) : BW O G D k n Q S pc ls (vr 43 0 :: st) := a_alen a b (t0 := 0) hT (by decide) rfl rfl kk
set_option maxRecDepth 20000 in
theorem e_43 {O : Om} {G : Cx} {D : FD} {k n : Nat} {Q : State → Prop} {S : Mem} {pc : Nat} {ls : List (Option AV)} {st : List AV} (a b : Nat) {x : Int32} (j : Nat) (hT : IA D a b pc .iaload 1) (hx : x = nI j) (hj : j < 20) (kk : BW O G D k n Q S (pc + 1) ls (vi (S.2.1 kLoanHolders j) :: st)) : BW O G D k n Q S pc ls (vi x :: vr 43 0 :: st) := a_iald a b (N := 20) (f := fun j => S.2.1 kLoanHolders j) j hT (by decide) rfl hx hj (by decide) kk
set_option maxRecDepth 20000 in
theorem s_43 {O : Om} {G : Cx} {D : FD} {k n : Nat} {Q : State → Prop} {S : Mem} {pc : Nat} {ls : List (Option AV)} {st : List AV} (a b : Nat) {x y : Int32} (j : Nat) (hT : IA D a b pc .iastore 1) (hx : x = nI j) (hj : j < 20) (kk : BW O G D k n Q (S.1, upd2 S.2.1 kLoanHolders j y, S.2.2) (pc + 1) ls st) : BW O G D k n Q S pc ls (vi y :: vi x :: vr 43 0 :: st) :=
  a_iast a b (N := 20) (f := fun j => S.2.1 kLoanHolders j) (S' := (S.1, upd2 S.2.1 kLoanHolders j y, S.2.2)) j hT (by decide) rfl hx hj (by decide) (by rw [upd_upd2]; rfl) (ho_R (by decide +kernel) rfl) kk
set_option maxRecDepth 20000 in
theorem n_44 {O : Om} {G : Cx} {D : FD} {k n : Nat} {Q : State → Prop} {S : Mem} {pc : Nat} {ls : List (Option AV)} {st : List AV} (a b : Nat) (hT : IA D a b pc .arraylength 1) (kk : BW O G D k n Q S (pc + 1) ls (vi (nI 20) :: st)) : BW O G D k n Q S pc ls (vr 44 0 :: st) := a_alen a b (t0 := 0) hT (by decide) rfl rfl kk
set_option maxRecDepth 20000 in
theorem e_44 {O : Om} {G : Cx} {D : FD} {k n : Nat} {Q : State → Prop} {S : Mem} {pc : Nat} {ls : List (Option AV)} {st : List AV} (a b : Nat) {x : Int32} (j : Nat) (hT : IA D a b pc .iaload 1) (hx : x = nI j) (hj : j < 20) (kk : BW O G D k n Q S (pc + 1) ls (vi (S.2.1 kLoanBanks j) :: st)) : BW O G D k n Q S pc ls (vi x :: vr 44 0 :: st) := a_iald a b (N := 20) (f := fun j => S.2.1 kLoanBanks j) j hT (by decide) rfl hx hj (by decide) kk
set_option maxRecDepth 20000 in
theorem s_44 {O : Om} {G : Cx} {D : FD} {k n : Nat} {Q : State → Prop} {S : Mem} {pc : Nat} {ls : List (Option AV)} {st : List AV} (a b : Nat) {x y : Int32} (j : Nat) (hT : IA D a b pc .iastore 1) (hx : x = nI j) (hj : j < 20) (kk : BW O G D k n Q (S.1, upd2 S.2.1 kLoanBanks j y, S.2.2) (pc + 1) ls st) : BW O G D k n Q S pc ls (vi y :: vi x :: vr 44 0 :: st) :=
  a_iast a b (N := 20) (f := fun j => S.2.1 kLoanBanks j) (S' := (S.1, upd2 S.2.1 kLoanBanks j y, S.2.2)) j hT (by decide) rfl hx hj (by decide) (by rw [upd_upd2]; rfl) (ho_R (by decide +kernel) rfl) kk
set_option maxRecDepth 20000 in
theorem n_45 {O : Om} {G : Cx} {D : FD} {k n : Nat} {Q : State → Prop} {S : Mem} {pc : Nat} {ls : List (Option AV)} {st : List AV} (a b : Nat) (hT : IA D a b pc .arraylength 1) (kk : BW O G D k n Q S (pc + 1) ls (vi (nI 20) :: st)) : BW O G D k n Q S pc ls (vr 45 0 :: st) := a_alen a b (t0 := 0) hT (by decide) rfl rfl kk
set_option maxRecDepth 20000 in
theorem e_45 {O : Om} {G : Cx} {D : FD} {k n : Nat} {Q : State → Prop} {S : Mem} {pc : Nat} {ls : List (Option AV)} {st : List AV} (a b : Nat) {x : Int32} (j : Nat) (hT : IA D a b pc .iaload 1) (hx : x = nI j) (hj : j < 20) (kk : BW O G D k n Q S (pc + 1) ls (vi (S.2.1 kLoanLefts j) :: st)) : BW O G D k n Q S pc ls (vi x :: vr 45 0 :: st) := a_iald a b (N := 20) (f := fun j => S.2.1 kLoanLefts j) j hT (by decide) rfl hx hj (by decide) kk
set_option maxRecDepth 20000 in
theorem s_45 {O : Om} {G : Cx} {D : FD} {k n : Nat} {Q : State → Prop} {S : Mem} {pc : Nat} {ls : List (Option AV)} {st : List AV} (a b : Nat) {x y : Int32} (j : Nat) (hT : IA D a b pc .iastore 1) (hx : x = nI j) (hj : j < 20) (kk : BW O G D k n Q (S.1, upd2 S.2.1 kLoanLefts j y, S.2.2) (pc + 1) ls st) : BW O G D k n Q S pc ls (vi y :: vi x :: vr 45 0 :: st) :=
  a_iast a b (N := 20) (f := fun j => S.2.1 kLoanLefts j) (S' := (S.1, upd2 S.2.1 kLoanLefts j y, S.2.2)) j hT (by decide) rfl hx hj (by decide) (by rw [upd_upd2]; rfl) (ho_R (by decide +kernel) rfl) kk
set_option maxRecDepth 20000 in
theorem n_46 {O : Om} {G : Cx} {D : FD} {k n : Nat} {Q : State → Prop} {S : Mem} {pc : Nat} {ls : List (Option AV)} {st : List AV} (a b : Nat) (hT : IA D a b pc .arraylength 1) (kk : BW O G D k n Q S (pc + 1) ls (vi (nI 20) :: st)) : BW O G D k n Q S pc ls (vr 46 0 :: st) := a_alen a b (t0 := 0) hT (by decide) rfl rfl kk
set_option maxRecDepth 20000 in
theorem e_46 {O : Om} {G : Cx} {D : FD} {k n : Nat} {Q : State → Prop} {S : Mem} {pc : Nat} {ls : List (Option AV)} {st : List AV} (a b : Nat) {x : Int32} (j : Nat) (hT : IA D a b pc .iaload 1) (hx : x = nI j) (hj : j < 20) (kk : BW O G D k n Q S (pc + 1) ls (vi (S.2.1 kLoanRates j) :: st)) : BW O G D k n Q S pc ls (vi x :: vr 46 0 :: st) := a_iald a b (N := 20) (f := fun j => S.2.1 kLoanRates j) j hT (by decide) rfl hx hj (by decide) kk
set_option maxRecDepth 20000 in
theorem s_46 {O : Om} {G : Cx} {D : FD} {k n : Nat} {Q : State → Prop} {S : Mem} {pc : Nat} {ls : List (Option AV)} {st : List AV} (a b : Nat) {x y : Int32} (j : Nat) (hT : IA D a b pc .iastore 1) (hx : x = nI j) (hj : j < 20) (kk : BW O G D k n Q (S.1, upd2 S.2.1 kLoanRates j y, S.2.2) (pc + 1) ls st) : BW O G D k n Q S pc ls (vi y :: vi x :: vr 46 0 :: st) :=
  a_iast a b (N := 20) (f := fun j => S.2.1 kLoanRates j) (S' := (S.1, upd2 S.2.1 kLoanRates j y, S.2.2)) j hT (by decide) rfl hx hj (by decide) (by rw [upd_upd2]; rfl) (ho_R (by decide +kernel) rfl) kk
set_option maxRecDepth 20000 in
theorem n_47 {O : Om} {G : Cx} {D : FD} {k n : Nat} {Q : State → Prop} {S : Mem} {pc : Nat} {ls : List (Option AV)} {st : List AV} (a b : Nat) (hT : IA D a b pc .arraylength 1) (kk : BW O G D k n Q S (pc + 1) ls (vi (nI 20) :: st)) : BW O G D k n Q S pc ls (vr 47 0 :: st) := a_alen a b (t0 := 0) hT (by decide) rfl rfl kk
set_option maxRecDepth 20000 in
theorem e_47 {O : Om} {G : Cx} {D : FD} {k n : Nat} {Q : State → Prop} {S : Mem} {pc : Nat} {ls : List (Option AV)} {st : List AV} (a b : Nat) {x : Int32} (j : Nat) (hT : IA D a b pc .iaload 1) (hx : x = nI j) (hj : j < 20) (kk : BW O G D k n Q S (pc + 1) ls (vi (S.2.1 kOverdue j) :: st)) : BW O G D k n Q S pc ls (vi x :: vr 47 0 :: st) := a_iald a b (N := 20) (f := fun j => S.2.1 kOverdue j) j hT (by decide) rfl hx hj (by decide) kk
set_option maxRecDepth 20000 in
theorem s_47 {O : Om} {G : Cx} {D : FD} {k n : Nat} {Q : State → Prop} {S : Mem} {pc : Nat} {ls : List (Option AV)} {st : List AV} (a b : Nat) {x y : Int32} (j : Nat) (hT : IA D a b pc .iastore 1) (hx : x = nI j) (hj : j < 20) (kk : BW O G D k n Q (S.1, upd2 S.2.1 kOverdue j y, S.2.2) (pc + 1) ls st) : BW O G D k n Q S pc ls (vi y :: vi x :: vr 47 0 :: st) :=
  a_iast a b (N := 20) (f := fun j => S.2.1 kOverdue j) (S' := (S.1, upd2 S.2.1 kOverdue j y, S.2.2)) j hT (by decide) rfl hx hj (by decide) (by rw [upd_upd2]; rfl) (ho_R (by decide +kernel) rfl) kk
set_option maxRecDepth 20000 in
theorem n_48 {O : Om} {G : Cx} {D : FD} {k n : Nat} {Q : State → Prop} {S : Mem} {pc : Nat} {ls : List (Option AV)} {st : List AV} (a b : Nat) (hT : IA D a b pc .arraylength 1) (kk : BW O G D k n Q S (pc + 1) ls (vi (nI 200) :: st)) : BW O G D k n Q S pc ls (vr 48 0 :: st) := a_alen a b (t0 := 0) hT (by decide) rfl rfl kk
set_option maxRecDepth 20000 in
theorem e_48 {O : Om} {G : Cx} {D : FD} {k n : Nat} {Q : State → Prop} {S : Mem} {pc : Nat} {ls : List (Option AV)} {st : List AV} (a b : Nat) {x : Int32} (j : Nat) (hT : IA D a b pc .iaload 1) (hx : x = nI j) (hj : j < 200) (kk : BW O G D k n Q S (pc + 1) ls (vi (S.2.1 kFroms j) :: st)) : BW O G D k n Q S pc ls (vi x :: vr 48 0 :: st) := a_iald a b (N := 200) (f := fun j => S.2.1 kFroms j) j hT (by decide) rfl hx hj (by decide) kk
set_option maxRecDepth 20000 in
theorem s_48 {O : Om} {G : Cx} {D : FD} {k n : Nat} {Q : State → Prop} {S : Mem} {pc : Nat} {ls : List (Option AV)} {st : List AV} (a b : Nat) {x y : Int32} (j : Nat) (hT : IA D a b pc .iastore 1) (hx : x = nI j) (hj : j < 200) (kk : BW O G D k n Q (S.1, upd2 S.2.1 kFroms j y, S.2.2) (pc + 1) ls st) : BW O G D k n Q S pc ls (vi y :: vi x :: vr 48 0 :: st) :=
  a_iast a b (N := 200) (f := fun j => S.2.1 kFroms j) (S' := (S.1, upd2 S.2.1 kFroms j y, S.2.2)) j hT (by decide) rfl hx hj (by decide) (by rw [upd_upd2]; rfl) (ho_R (by decide +kernel) rfl) kk
set_option maxRecDepth 20000 in
theorem n_49 {O : Om} {G : Cx} {D : FD} {k n : Nat} {Q : State → Prop} {S : Mem} {pc : Nat} {ls : List (Option AV)} {st : List AV} (a b : Nat) (hT : IA D a b pc .arraylength 1) (kk : BW O G D k n Q S (pc + 1) ls (vi (nI 200) :: st)) : BW O G D k n Q S pc ls (vr 49 0 :: st) := a_alen a b (t0 := 0) hT (by decide) rfl rfl kk
set_option maxRecDepth 20000 in
theorem e_49 {O : Om} {G : Cx} {D : FD} {k n : Nat} {Q : State → Prop} {S : Mem} {pc : Nat} {ls : List (Option AV)} {st : List AV} (a b : Nat) {x : Int32} (j : Nat) (hT : IA D a b pc .iaload 1) (hx : x = nI j) (hj : j < 200) (kk : BW O G D k n Q S (pc + 1) ls (vi (S.2.1 kTos j) :: st)) : BW O G D k n Q S pc ls (vi x :: vr 49 0 :: st) := a_iald a b (N := 200) (f := fun j => S.2.1 kTos j) j hT (by decide) rfl hx hj (by decide) kk
set_option maxRecDepth 20000 in
theorem s_49 {O : Om} {G : Cx} {D : FD} {k n : Nat} {Q : State → Prop} {S : Mem} {pc : Nat} {ls : List (Option AV)} {st : List AV} (a b : Nat) {x y : Int32} (j : Nat) (hT : IA D a b pc .iastore 1) (hx : x = nI j) (hj : j < 200) (kk : BW O G D k n Q (S.1, upd2 S.2.1 kTos j y, S.2.2) (pc + 1) ls st) : BW O G D k n Q S pc ls (vi y :: vi x :: vr 49 0 :: st) :=
  a_iast a b (N := 200) (f := fun j => S.2.1 kTos j) (S' := (S.1, upd2 S.2.1 kTos j y, S.2.2)) j hT (by decide) rfl hx hj (by decide) (by rw [upd_upd2]; rfl) (ho_R (by decide +kernel) rfl) kk
set_option maxRecDepth 20000 in
theorem n_50 {O : Om} {G : Cx} {D : FD} {k n : Nat} {Q : State → Prop} {S : Mem} {pc : Nat} {ls : List (Option AV)} {st : List AV} (a b : Nat) (hT : IA D a b pc .arraylength 1) (kk : BW O G D k n Q S (pc + 1) ls (vi (nI 200) :: st)) : BW O G D k n Q S pc ls (vr 50 0 :: st) := a_alen a b (t0 := 0) hT (by decide) rfl rfl kk
set_option maxRecDepth 20000 in
theorem e_50 {O : Om} {G : Cx} {D : FD} {k n : Nat} {Q : State → Prop} {S : Mem} {pc : Nat} {ls : List (Option AV)} {st : List AV} (a b : Nat) {x : Int32} (j : Nat) (hT : IA D a b pc .iaload 1) (hx : x = nI j) (hj : j < 200) (kk : BW O G D k n Q S (pc + 1) ls (vi (S.2.1 kAmounts j) :: st)) : BW O G D k n Q S pc ls (vi x :: vr 50 0 :: st) := a_iald a b (N := 200) (f := fun j => S.2.1 kAmounts j) j hT (by decide) rfl hx hj (by decide) kk
set_option maxRecDepth 20000 in
theorem s_50 {O : Om} {G : Cx} {D : FD} {k n : Nat} {Q : State → Prop} {S : Mem} {pc : Nat} {ls : List (Option AV)} {st : List AV} (a b : Nat) {x y : Int32} (j : Nat) (hT : IA D a b pc .iastore 1) (hx : x = nI j) (hj : j < 200) (kk : BW O G D k n Q (S.1, upd2 S.2.1 kAmounts j y, S.2.2) (pc + 1) ls st) : BW O G D k n Q S pc ls (vi y :: vi x :: vr 50 0 :: st) :=
  a_iast a b (N := 200) (f := fun j => S.2.1 kAmounts j) (S' := (S.1, upd2 S.2.1 kAmounts j y, S.2.2)) j hT (by decide) rfl hx hj (by decide) (by rw [upd_upd2]; rfl) (ho_R (by decide +kernel) rfl) kk
set_option maxRecDepth 20000 in
theorem n_51 {O : Om} {G : Cx} {D : FD} {k n : Nat} {Q : State → Prop} {S : Mem} {pc : Nat} {ls : List (Option AV)} {st : List AV} (a b : Nat) (hT : IA D a b pc .arraylength 1) (kk : BW O G D k n Q S (pc + 1) ls (vi (nI 200) :: st)) : BW O G D k n Q S pc ls (vr 51 0 :: st) := a_alen a b (t0 := 0) hT (by decide) rfl rfl kk
set_option maxRecDepth 20000 in
theorem e_51 {O : Om} {G : Cx} {D : FD} {k n : Nat} {Q : State → Prop} {S : Mem} {pc : Nat} {ls : List (Option AV)} {st : List AV} (a b : Nat) {x : Int32} (j : Nat) (hT : IA D a b pc .iaload 1) (hx : x = nI j) (hj : j < 200) (kk : BW O G D k n Q S (pc + 1) ls (vi (S.2.1 kStates j) :: st)) : BW O G D k n Q S pc ls (vi x :: vr 51 0 :: st) := a_iald a b (N := 200) (f := fun j => S.2.1 kStates j) j hT (by decide) rfl hx hj (by decide) kk
set_option maxRecDepth 20000 in
theorem s_51 {O : Om} {G : Cx} {D : FD} {k n : Nat} {Q : State → Prop} {S : Mem} {pc : Nat} {ls : List (Option AV)} {st : List AV} (a b : Nat) {x y : Int32} (j : Nat) (hT : IA D a b pc .iastore 1) (hx : x = nI j) (hj : j < 200) (kk : BW O G D k n Q (S.1, upd2 S.2.1 kStates j y, S.2.2) (pc + 1) ls st) : BW O G D k n Q S pc ls (vi y :: vi x :: vr 51 0 :: st) :=
  a_iast a b (N := 200) (f := fun j => S.2.1 kStates j) (S' := (S.1, upd2 S.2.1 kStates j y, S.2.2)) j hT (by decide) rfl hx hj (by decide) (by rw [upd_upd2]; rfl) (ho_R (by decide +kernel) rfl) kk
set_option maxRecDepth 20000 in
theorem n_52 {O : Om} {G : Cx} {D : FD} {k n : Nat} {Q : State → Prop} {S : Mem} {pc : Nat} {ls : List (Option AV)} {st : List AV} (a b : Nat) (hT : IA D a b pc .arraylength 1) (kk : BW O G D k n Q S (pc + 1) ls (vi (nI 200) :: st)) : BW O G D k n Q S pc ls (vr 52 0 :: st) := a_alen a b (t0 := 1) hT (by decide) rfl rfl kk
set_option maxRecDepth 20000 in
theorem e_52 {O : Om} {G : Cx} {D : FD} {k n : Nat} {Q : State → Prop} {S : Mem} {pc : Nat} {ls : List (Option AV)} {st : List AV} (a b : Nat) {x : Int32} (j : Nat) (hT : IA D a b pc .baload 1) (hx : x = nI j) (hj : j < 200) (kk : BW O G D k n Q S (pc + 1) ls (vi (S.2.1 kAreGoods j) :: st)) : BW O G D k n Q S pc ls (vi x :: vr 52 0 :: st) := a_zald a b (N := 200) (f := fun j => S.2.1 kAreGoods j) j hT (by decide) rfl hx hj (by decide) kk
set_option maxRecDepth 20000 in
theorem s_52 {O : Om} {G : Cx} {D : FD} {k n : Nat} {Q : State → Prop} {S : Mem} {pc : Nat} {ls : List (Option AV)} {st : List AV} (a b : Nat) {x y : Int32} (j : Nat) (hT : IA D a b pc .bastore 1) (hx : x = nI j) (hj : j < 200) (hy : y = 0 ∨ y = 1) (kk : BW O G D k n Q (S.1, upd2 S.2.1 kAreGoods j y, S.2.2) (pc + 1) ls st) : BW O G D k n Q S pc ls (vi y :: vi x :: vr 52 0 :: st) :=
  a_zast a b (N := 200) (f := fun j => S.2.1 kAreGoods j) (S' := (S.1, upd2 S.2.1 kAreGoods j y, S.2.2)) j hT (by decide) rfl hx hj (by decide) (vnar_b hy) (by rw [upd_upd2]; rfl) (ho_R (by decide +kernel) rfl) kk
set_option maxRecDepth 20000 in
theorem n_53 {O : Om} {G : Cx} {D : FD} {k n : Nat} {Q : State → Prop} {S : Mem} {pc : Nat} {ls : List (Option AV)} {st : List AV} (a b : Nat) (hT : IA D a b pc .arraylength 1) (kk : BW O G D k n Q S (pc + 1) ls (vi (nI 200) :: st)) : BW O G D k n Q S pc ls (vr 53 0 :: st) := a_alen a b (t0 := 0) hT (by decide) rfl rfl kk
set_option maxRecDepth 20000 in
theorem e_53 {O : Om} {G : Cx} {D : FD} {k n : Nat} {Q : State → Prop} {S : Mem} {pc : Nat} {ls : List (Option AV)} {st : List AV} (a b : Nat) {x : Int32} (j : Nat) (hT : IA D a b pc .iaload 1) (hx : x = nI j) (hj : j < 200) (kk : BW O G D k n Q S (pc + 1) ls (vi (S.2.1 kToldDays j) :: st)) : BW O G D k n Q S pc ls (vi x :: vr 53 0 :: st) := a_iald a b (N := 200) (f := fun j => S.2.1 kToldDays j) j hT (by decide) rfl hx hj (by decide) kk
set_option maxRecDepth 20000 in
theorem s_53 {O : Om} {G : Cx} {D : FD} {k n : Nat} {Q : State → Prop} {S : Mem} {pc : Nat} {ls : List (Option AV)} {st : List AV} (a b : Nat) {x y : Int32} (j : Nat) (hT : IA D a b pc .iastore 1) (hx : x = nI j) (hj : j < 200) (kk : BW O G D k n Q (S.1, upd2 S.2.1 kToldDays j y, S.2.2) (pc + 1) ls st) : BW O G D k n Q S pc ls (vi y :: vi x :: vr 53 0 :: st) :=
  a_iast a b (N := 200) (f := fun j => S.2.1 kToldDays j) (S' := (S.1, upd2 S.2.1 kToldDays j y, S.2.2)) j hT (by decide) rfl hx hj (by decide) (by rw [upd_upd2]; rfl) (ho_R (by decide +kernel) rfl) kk
set_option maxRecDepth 20000 in
theorem n_54 {O : Om} {G : Cx} {D : FD} {k n : Nat} {Q : State → Prop} {S : Mem} {pc : Nat} {ls : List (Option AV)} {st : List AV} (a b : Nat) (hT : IA D a b pc .arraylength 1) (kk : BW O G D k n Q S (pc + 1) ls (vi (nI 200) :: st)) : BW O G D k n Q S pc ls (vr 54 0 :: st) := a_alen a b (t0 := 0) hT (by decide) rfl rfl kk
set_option maxRecDepth 20000 in
theorem e_54 {O : Om} {G : Cx} {D : FD} {k n : Nat} {Q : State → Prop} {S : Mem} {pc : Nat} {ls : List (Option AV)} {st : List AV} (a b : Nat) {x : Int32} (j : Nat) (hT : IA D a b pc .iaload 1) (hx : x = nI j) (hj : j < 200) (kk : BW O G D k n Q S (pc + 1) ls (vi (S.2.1 kDoneDays j) :: st)) : BW O G D k n Q S pc ls (vi x :: vr 54 0 :: st) := a_iald a b (N := 200) (f := fun j => S.2.1 kDoneDays j) j hT (by decide) rfl hx hj (by decide) kk
set_option maxRecDepth 20000 in
theorem s_54 {O : Om} {G : Cx} {D : FD} {k n : Nat} {Q : State → Prop} {S : Mem} {pc : Nat} {ls : List (Option AV)} {st : List AV} (a b : Nat) {x y : Int32} (j : Nat) (hT : IA D a b pc .iastore 1) (hx : x = nI j) (hj : j < 200) (kk : BW O G D k n Q (S.1, upd2 S.2.1 kDoneDays j y, S.2.2) (pc + 1) ls st) : BW O G D k n Q S pc ls (vi y :: vi x :: vr 54 0 :: st) :=
  a_iast a b (N := 200) (f := fun j => S.2.1 kDoneDays j) (S' := (S.1, upd2 S.2.1 kDoneDays j y, S.2.2)) j hT (by decide) rfl hx hj (by decide) (by rw [upd_upd2]; rfl) (ho_R (by decide +kernel) rfl) kk
set_option maxRecDepth 20000 in
theorem n_55 {O : Om} {G : Cx} {D : FD} {k n : Nat} {Q : State → Prop} {S : Mem} {pc : Nat} {ls : List (Option AV)} {st : List AV} (a b : Nat) (hT : IA D a b pc .arraylength 1) (kk : BW O G D k n Q S (pc + 1) ls (vi (nI 200) :: st)) : BW O G D k n Q S pc ls (vr 55 0 :: st) := a_alen a b (t0 := 1) hT (by decide) rfl rfl kk
set_option maxRecDepth 20000 in
theorem e_55 {O : Om} {G : Cx} {D : FD} {k n : Nat} {Q : State → Prop} {S : Mem} {pc : Nat} {ls : List (Option AV)} {st : List AV} (a b : Nat) {x : Int32} (j : Nat) (hT : IA D a b pc .baload 1) (hx : x = nI j) (hj : j < 200) (kk : BW O G D k n Q S (pc + 1) ls (vi (S.2.1 kAreChosen j) :: st)) : BW O G D k n Q S pc ls (vi x :: vr 55 0 :: st) := a_zald a b (N := 200) (f := fun j => S.2.1 kAreChosen j) j hT (by decide) rfl hx hj (by decide) kk
set_option maxRecDepth 20000 in
theorem s_55 {O : Om} {G : Cx} {D : FD} {k n : Nat} {Q : State → Prop} {S : Mem} {pc : Nat} {ls : List (Option AV)} {st : List AV} (a b : Nat) {x y : Int32} (j : Nat) (hT : IA D a b pc .bastore 1) (hx : x = nI j) (hj : j < 200) (hy : y = 0 ∨ y = 1) (kk : BW O G D k n Q (S.1, upd2 S.2.1 kAreChosen j y, S.2.2) (pc + 1) ls st) : BW O G D k n Q S pc ls (vi y :: vi x :: vr 55 0 :: st) :=
  a_zast a b (N := 200) (f := fun j => S.2.1 kAreChosen j) (S' := (S.1, upd2 S.2.1 kAreChosen j y, S.2.2)) j hT (by decide) rfl hx hj (by decide) (vnar_b hy) (by rw [upd_upd2]; rfl) (ho_R (by decide +kernel) rfl) kk
set_option maxRecDepth 20000 in
theorem n_56 {O : Om} {G : Cx} {D : FD} {k n : Nat} {Q : State → Prop} {S : Mem} {pc : Nat} {ls : List (Option AV)} {st : List AV} (a b : Nat) (hT : IA D a b pc .arraylength 1) (kk : BW O G D k n Q S (pc + 1) ls (vi (nI 20) :: st)) : BW O G D k n Q S pc ls (vr 56 0 :: st) := a_alen a b (t0 := 0) hT (by decide) rfl rfl kk
set_option maxRecDepth 20000 in
theorem e_56 {O : Om} {G : Cx} {D : FD} {k n : Nat} {Q : State → Prop} {S : Mem} {pc : Nat} {ls : List (Option AV)} {st : List AV} (a b : Nat) {x : Int32} (j : Nat) (hT : IA D a b pc .iaload 1) (hx : x = nI j) (hj : j < 20) (kk : BW O G D k n Q S (pc + 1) ls (vi (S.2.1 kDues j) :: st)) : BW O G D k n Q S pc ls (vi x :: vr 56 0 :: st) := a_iald a b (N := 20) (f := fun j => S.2.1 kDues j) j hT (by decide) rfl hx hj (by decide) kk
set_option maxRecDepth 20000 in
theorem s_56 {O : Om} {G : Cx} {D : FD} {k n : Nat} {Q : State → Prop} {S : Mem} {pc : Nat} {ls : List (Option AV)} {st : List AV} (a b : Nat) {x y : Int32} (j : Nat) (hT : IA D a b pc .iastore 1) (hx : x = nI j) (hj : j < 20) (kk : BW O G D k n Q (S.1, upd2 S.2.1 kDues j y, S.2.2) (pc + 1) ls st) : BW O G D k n Q S pc ls (vi y :: vi x :: vr 56 0 :: st) :=
  a_iast a b (N := 20) (f := fun j => S.2.1 kDues j) (S' := (S.1, upd2 S.2.1 kDues j y, S.2.2)) j hT (by decide) rfl hx hj (by decide) (by rw [upd_upd2]; rfl) (ho_R (by decide +kernel) rfl) kk
set_option maxRecDepth 20000 in
theorem n_57 {O : Om} {G : Cx} {D : FD} {k n : Nat} {Q : State → Prop} {S : Mem} {pc : Nat} {ls : List (Option AV)} {st : List AV} (a b : Nat) (hT : IA D a b pc .arraylength 1) (kk : BW O G D k n Q S (pc + 1) ls (vi (nI 100) :: st)) : BW O G D k n Q S pc ls (vr 57 0 :: st) := a_alen a b (t0 := 0) hT (by decide) rfl rfl kk
set_option maxRecDepth 20000 in
theorem e_57 {O : Om} {G : Cx} {D : FD} {k n : Nat} {Q : State → Prop} {S : Mem} {pc : Nat} {ls : List (Option AV)} {st : List AV} (a b : Nat) {x : Int32} (j : Nat) (hT : IA D a b pc .iaload 1) (hx : x = nI j) (hj : j < 100) (kk : BW O G D k n Q S (pc + 1) ls (vi (S.2.1 kBonds j) :: st)) : BW O G D k n Q S pc ls (vi x :: vr 57 0 :: st) := a_iald a b (N := 100) (f := fun j => S.2.1 kBonds j) j hT (by decide) rfl hx hj (by decide) kk
set_option maxRecDepth 20000 in
theorem s_57 {O : Om} {G : Cx} {D : FD} {k n : Nat} {Q : State → Prop} {S : Mem} {pc : Nat} {ls : List (Option AV)} {st : List AV} (a b : Nat) {x y : Int32} (j : Nat) (hT : IA D a b pc .iastore 1) (hx : x = nI j) (hj : j < 100) (kk : BW O G D k n Q (S.1, upd2 S.2.1 kBonds j y, S.2.2) (pc + 1) ls st) : BW O G D k n Q S pc ls (vi y :: vi x :: vr 57 0 :: st) :=
  a_iast a b (N := 100) (f := fun j => S.2.1 kBonds j) (S' := (S.1, upd2 S.2.1 kBonds j y, S.2.2)) j hT (by decide) rfl hx hj (by decide) (by rw [upd_upd2]; rfl) (ho_R (by decide +kernel) rfl) kk
set_option maxRecDepth 20000 in
theorem n_58 {O : Om} {G : Cx} {D : FD} {k n : Nat} {Q : State → Prop} {S : Mem} {pc : Nat} {ls : List (Option AV)} {st : List AV} (a b : Nat) (hT : IA D a b pc .arraylength 1) (kk : BW O G D k n Q S (pc + 1) ls (vi (nI 12) :: st)) : BW O G D k n Q S pc ls (vr 58 0 :: st) := a_alen a b (t0 := 0) hT (by decide) rfl rfl kk
set_option maxRecDepth 20000 in
theorem e_58 {O : Om} {G : Cx} {D : FD} {k n : Nat} {Q : State → Prop} {S : Mem} {pc : Nat} {ls : List (Option AV)} {st : List AV} (a b : Nat) {x : Int32} (j : Nat) (hT : IA D a b pc .iaload 1) (hx : x = nI j) (hj : j < 12) (kk : BW O G D k n Q S (pc + 1) ls (vi (S.2.1 kBidBanks j) :: st)) : BW O G D k n Q S pc ls (vi x :: vr 58 0 :: st) := a_iald a b (N := 12) (f := fun j => S.2.1 kBidBanks j) j hT (by decide) rfl hx hj (by decide) kk
set_option maxRecDepth 20000 in
theorem s_58 {O : Om} {G : Cx} {D : FD} {k n : Nat} {Q : State → Prop} {S : Mem} {pc : Nat} {ls : List (Option AV)} {st : List AV} (a b : Nat) {x y : Int32} (j : Nat) (hT : IA D a b pc .iastore 1) (hx : x = nI j) (hj : j < 12) (kk : BW O G D k n Q (S.1, upd2 S.2.1 kBidBanks j y, S.2.2) (pc + 1) ls st) : BW O G D k n Q S pc ls (vi y :: vi x :: vr 58 0 :: st) :=
  a_iast a b (N := 12) (f := fun j => S.2.1 kBidBanks j) (S' := (S.1, upd2 S.2.1 kBidBanks j y, S.2.2)) j hT (by decide) rfl hx hj (by decide) (by rw [upd_upd2]; rfl) (ho_R (by decide +kernel) rfl) kk
set_option maxRecDepth 20000 in
theorem n_59 {O : Om} {G : Cx} {D : FD} {k n : Nat} {Q : State → Prop} {S : Mem} {pc : Nat} {ls : List (Option AV)} {st : List AV} (a b : Nat) (hT : IA D a b pc .arraylength 1) (kk : BW O G D k n Q S (pc + 1) ls (vi (nI 12) :: st)) : BW O G D k n Q S pc ls (vr 59 0 :: st) := a_alen a b (t0 := 0) hT (by decide) rfl rfl kk
set_option maxRecDepth 20000 in
theorem e_59 {O : Om} {G : Cx} {D : FD} {k n : Nat} {Q : State → Prop} {S : Mem} {pc : Nat} {ls : List (Option AV)} {st : List AV} (a b : Nat) {x : Int32} (j : Nat) (hT : IA D a b pc .iaload 1) (hx : x = nI j) (hj : j < 12) (kk : BW O G D k n Q S (pc + 1) ls (vi (S.2.1 kBidPrices j) :: st)) : BW O G D k n Q S pc ls (vi x :: vr 59 0 :: st) := a_iald a b (N := 12) (f := fun j => S.2.1 kBidPrices j) j hT (by decide) rfl hx hj (by decide) kk
set_option maxRecDepth 20000 in
theorem s_59 {O : Om} {G : Cx} {D : FD} {k n : Nat} {Q : State → Prop} {S : Mem} {pc : Nat} {ls : List (Option AV)} {st : List AV} (a b : Nat) {x y : Int32} (j : Nat) (hT : IA D a b pc .iastore 1) (hx : x = nI j) (hj : j < 12) (kk : BW O G D k n Q (S.1, upd2 S.2.1 kBidPrices j y, S.2.2) (pc + 1) ls st) : BW O G D k n Q S pc ls (vi y :: vi x :: vr 59 0 :: st) :=
  a_iast a b (N := 12) (f := fun j => S.2.1 kBidPrices j) (S' := (S.1, upd2 S.2.1 kBidPrices j y, S.2.2)) j hT (by decide) rfl hx hj (by decide) (by rw [upd_upd2]; rfl) (ho_R (by decide +kernel) rfl) kk
set_option maxRecDepth 20000 in
theorem n_60 {O : Om} {G : Cx} {D : FD} {k n : Nat} {Q : State → Prop} {S : Mem} {pc : Nat} {ls : List (Option AV)} {st : List AV} (a b : Nat) (hT : IA D a b pc .arraylength 1) (kk : BW O G D k n Q S (pc + 1) ls (vi (nI 12) :: st)) : BW O G D k n Q S pc ls (vr 60 0 :: st) := a_alen a b (t0 := 0) hT (by decide) rfl rfl kk
set_option maxRecDepth 20000 in
theorem e_60 {O : Om} {G : Cx} {D : FD} {k n : Nat} {Q : State → Prop} {S : Mem} {pc : Nat} {ls : List (Option AV)} {st : List AV} (a b : Nat) {x : Int32} (j : Nat) (hT : IA D a b pc .iaload 1) (hx : x = nI j) (hj : j < 12) (kk : BW O G D k n Q S (pc + 1) ls (vi (S.2.1 kBidNumbers j) :: st)) : BW O G D k n Q S pc ls (vi x :: vr 60 0 :: st) := a_iald a b (N := 12) (f := fun j => S.2.1 kBidNumbers j) j hT (by decide) rfl hx hj (by decide) kk
set_option maxRecDepth 20000 in
theorem s_60 {O : Om} {G : Cx} {D : FD} {k n : Nat} {Q : State → Prop} {S : Mem} {pc : Nat} {ls : List (Option AV)} {st : List AV} (a b : Nat) {x y : Int32} (j : Nat) (hT : IA D a b pc .iastore 1) (hx : x = nI j) (hj : j < 12) (kk : BW O G D k n Q (S.1, upd2 S.2.1 kBidNumbers j y, S.2.2) (pc + 1) ls st) : BW O G D k n Q S pc ls (vi y :: vi x :: vr 60 0 :: st) :=
  a_iast a b (N := 12) (f := fun j => S.2.1 kBidNumbers j) (S' := (S.1, upd2 S.2.1 kBidNumbers j y, S.2.2)) j hT (by decide) rfl hx hj (by decide) (by rw [upd_upd2]; rfl) (ho_R (by decide +kernel) rfl) kk
set_option maxRecDepth 20000 in
theorem n_61 {O : Om} {G : Cx} {D : FD} {k n : Nat} {Q : State → Prop} {S : Mem} {pc : Nat} {ls : List (Option AV)} {st : List AV} (a b : Nat) (hT : IA D a b pc .arraylength 1) (kk : BW O G D k n Q S (pc + 1) ls (vi (nI 12) :: st)) : BW O G D k n Q S pc ls (vr 61 0 :: st) := a_alen a b (t0 := 0) hT (by decide) rfl rfl kk
set_option maxRecDepth 20000 in
theorem e_61 {O : Om} {G : Cx} {D : FD} {k n : Nat} {Q : State → Prop} {S : Mem} {pc : Nat} {ls : List (Option AV)} {st : List AV} (a b : Nat) {x : Int32} (j : Nat) (hT : IA D a b pc .iaload 1) (hx : x = nI j) (hj : j < 12) (kk : BW O G D k n Q S (pc + 1) ls (vi (S.2.1 kBidGets j) :: st)) : BW O G D k n Q S pc ls (vi x :: vr 61 0 :: st) := a_iald a b (N := 12) (f := fun j => S.2.1 kBidGets j) j hT (by decide) rfl hx hj (by decide) kk
set_option maxRecDepth 20000 in
theorem s_61 {O : Om} {G : Cx} {D : FD} {k n : Nat} {Q : State → Prop} {S : Mem} {pc : Nat} {ls : List (Option AV)} {st : List AV} (a b : Nat) {x y : Int32} (j : Nat) (hT : IA D a b pc .iastore 1) (hx : x = nI j) (hj : j < 12) (kk : BW O G D k n Q (S.1, upd2 S.2.1 kBidGets j y, S.2.2) (pc + 1) ls st) : BW O G D k n Q S pc ls (vi y :: vi x :: vr 61 0 :: st) :=
  a_iast a b (N := 12) (f := fun j => S.2.1 kBidGets j) (S' := (S.1, upd2 S.2.1 kBidGets j y, S.2.2)) j hT (by decide) rfl hx hj (by decide) (by rw [upd_upd2]; rfl) (ho_R (by decide +kernel) rfl) kk
set_option maxRecDepth 20000 in
theorem n_62 {O : Om} {G : Cx} {D : FD} {k n : Nat} {Q : State → Prop} {S : Mem} {pc : Nat} {ls : List (Option AV)} {st : List AV} (a b : Nat) (hT : IA D a b pc .arraylength 1) (kk : BW O G D k n Q S (pc + 1) ls (vi (nI 12) :: st)) : BW O G D k n Q S pc ls (vr 62 0 :: st) := a_alen a b (t0 := 1) hT (by decide) rfl rfl kk
set_option maxRecDepth 20000 in
theorem e_62 {O : Om} {G : Cx} {D : FD} {k n : Nat} {Q : State → Prop} {S : Mem} {pc : Nat} {ls : List (Option AV)} {st : List AV} (a b : Nat) {x : Int32} (j : Nat) (hT : IA D a b pc .baload 1) (hx : x = nI j) (hj : j < 12) (kk : BW O G D k n Q S (pc + 1) ls (vi (S.2.1 kAreSeen j) :: st)) : BW O G D k n Q S pc ls (vi x :: vr 62 0 :: st) := a_zald a b (N := 12) (f := fun j => S.2.1 kAreSeen j) j hT (by decide) rfl hx hj (by decide) kk
set_option maxRecDepth 20000 in
theorem s_62 {O : Om} {G : Cx} {D : FD} {k n : Nat} {Q : State → Prop} {S : Mem} {pc : Nat} {ls : List (Option AV)} {st : List AV} (a b : Nat) {x y : Int32} (j : Nat) (hT : IA D a b pc .bastore 1) (hx : x = nI j) (hj : j < 12) (hy : y = 0 ∨ y = 1) (kk : BW O G D k n Q (S.1, upd2 S.2.1 kAreSeen j y, S.2.2) (pc + 1) ls st) : BW O G D k n Q S pc ls (vi y :: vi x :: vr 62 0 :: st) :=
  a_zast a b (N := 12) (f := fun j => S.2.1 kAreSeen j) (S' := (S.1, upd2 S.2.1 kAreSeen j y, S.2.2)) j hT (by decide) rfl hx hj (by decide) (vnar_b hy) (by rw [upd_upd2]; rfl) (ho_R (by decide +kernel) rfl) kk
