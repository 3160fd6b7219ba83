/-! link tables, method records: by program -/
theorem uw_X0 : ∀ w ∈ u_ws RX0 TX0 3, w ∈ Gw := by
  have h : (u_ws RX0 TX0 3).all (fun w => decide (w ∈ lw_tbl) && goodWord w) = true := by decide +kernel
  intro w hw
  have h1 := List.all_eq_true.mp h w hw
  simp only [Bool.and_eq_true, decide_eq_true_eq] at h1
  exact List.mem_filter.mpr h1
theorem okd_4 : okd 4 RX0 TX0 3 := by
  refine ⟨_, tyX0, rfl, rfl, rfl, uw_X0, tyX0_ok, nmX0, by decide +kernel, ?_⟩
  intro j hj f hf
  have h : ∀ j, j < 3 → (match kd 4 with | .inl o => (match nth o.2 j with | some f => (match f.1 with | 0 => decide (tyX0 j = .int) && !(TX0 j).2.2.2 | 1 => decide (tyX0 j = .long) && !(TX0 j).2.2.2 | 2 => decide (tyX0 j = .boolean) && !(TX0 j).2.2.2 | _ => true) | none => true) | .inr _ => true) = true := by decide +kernel
  have h1 := h j hj
  have h2 : nth (match kd 4 with | .inl o => o.2 | .inr _ => []) j = some f := hf
  simp only [kd] at h1 h2
  rw [h2] at h1
  obtain ⟨t, a, b⟩ := f
  match t, h1 with
  | 0, h1 => simpa [shp] using h1
  | 1, h1 => simpa [shp] using h1
  | 2, h1 => simpa [shp] using h1
  | _ + 3, _ => trivial
theorem uw_X1 : ∀ w ∈ u_ws RX1 TX1 7, w ∈ Gw := by
  have h : (u_ws RX1 TX1 7).all (fun w => decide (w ∈ lw_tbl) && goodWord w) = true := by decide +kernel
  intro w hw
  have h1 := List.all_eq_true.mp h w hw
  simp only [Bool.and_eq_true, decide_eq_true_eq] at h1
  exact List.mem_filter.mpr h1
theorem okd_3 : okd 3 RX1 TX1 7 := by
  refine ⟨_, tyX1, rfl, rfl, rfl, uw_X1, tyX1_ok, nmX1, by decide +kernel, ?_⟩
  intro j hj f hf
  have h : ∀ j, j < 7 → (match kd 3 with | .inl o => (match nth o.2 j with | some f => (match f.1 with | 0 => decide (tyX1 j = .int) && !(TX1 j).2.2.2 | 1 => decide (tyX1 j = .long) && !(TX1 j).2.2.2 | 2 => decide (tyX1 j = .boolean) && !(TX1 j).2.2.2 | _ => true) | none => true) | .inr _ => true) = true := by decide +kernel
  have h1 := h j hj
  have h2 : nth (match kd 3 with | .inl o => o.2 | .inr _ => []) j = some f := hf
  simp only [kd] at h1 h2
  rw [h2] at h1
  obtain ⟨t, a, b⟩ := f
  match t, h1 with
  | 0, h1 => simpa [shp] using h1
  | 1, h1 => simpa [shp] using h1
  | 2, h1 => simpa [shp] using h1
  | _ + 3, _ => trivial
theorem uw_X2 : ∀ w ∈ u_ws RX2 TX2 5, w ∈ Gw := by
  have h : (u_ws RX2 TX2 5).all (fun w => decide (w ∈ lw_tbl) && goodWord w) = true := by decide +kernel
  intro w hw
  have h1 := List.all_eq_true.mp h w hw
  simp only [Bool.and_eq_true, decide_eq_true_eq] at h1
  exact List.mem_filter.mpr h1
theorem okd_2 : okd 2 RX2 TX2 5 := by
  refine ⟨_, tyX2, rfl, rfl, rfl, uw_X2, tyX2_ok, nmX2, by decide +kernel, ?_⟩
  intro j hj f hf
  have h : ∀ j, j < 5 → (match kd 2 with | .inl o => (match nth o.2 j with | some f => (match f.1 with | 0 => decide (tyX2 j = .int) && !(TX2 j).2.2.2 | 1 => decide (tyX2 j = .long) && !(TX2 j).2.2.2 | 2 => decide (tyX2 j = .boolean) && !(TX2 j).2.2.2 | _ => true) | none => true) | .inr _ => true) = true := by decide +kernel
  have h1 := h j hj
  have h2 : nth (match kd 2 with | .inl o => o.2 | .inr _ => []) j = some f := hf
  simp only [kd] at h1 h2
  rw [h2] at h1
  obtain ⟨t, a, b⟩ := f
  match t, h1 with
  | 0, h1 => simpa [shp] using h1
  | 1, h1 => simpa [shp] using h1
  | 2, h1 => simpa [shp] using h1
  | _ + 3, _ => trivial
theorem uw_X3 : ∀ w ∈ u_ws RX3 TX3 13, w ∈ Gw := by
  have h : (u_ws RX3 TX3 13).all (fun w => decide (w ∈ lw_tbl) && goodWord w) = true := by decide +kernel
  intro w hw
  have h1 := List.all_eq_true.mp h w hw
  simp only [Bool.and_eq_true, decide_eq_true_eq] at h1
  exact List.mem_filter.mpr h1
theorem okd_1 : okd 1 RX3 TX3 13 := by
  refine ⟨_, tyX3, rfl, rfl, rfl, uw_X3, tyX3_ok, nmX3, by decide +kernel, ?_⟩
  intro j hj f hf
  have h : ∀ j, j < 13 → (match kd 1 with | .inl o => (match nth o.2 j with | some f => (match f.1 with | 0 => decide (tyX3 j = .int) && !(TX3 j).2.2.2 | 1 => decide (tyX3 j = .long) && !(TX3 j).2.2.2 | 2 => decide (tyX3 j = .boolean) && !(TX3 j).2.2.2 | _ => true) | none => true) | .inr _ => true) = true := by decide +kernel
  have h1 := h j hj
  have h2 : nth (match kd 1 with | .inl o => o.2 | .inr _ => []) j = some f := hf
  simp only [kd] at h1 h2
  rw [h2] at h1
  obtain ⟨t, a, b⟩ := f
  match t, h1 with
  | 0, h1 => simpa [shp] using h1
  | 1, h1 => simpa [shp] using h1
  | 2, h1 => simpa [shp] using h1
  | _ + 3, _ => trivial
theorem uw_X4 : ∀ w ∈ u_ws RX4 TX4 11, w ∈ Gw := by
  have h : (u_ws RX4 TX4 11).all (fun w => decide (w ∈ lw_tbl) && goodWord w) = true := by decide +kernel
  intro w hw
  have h1 := List.all_eq_true.mp h w hw
  simp only [Bool.and_eq_true, decide_eq_true_eq] at h1
  exact List.mem_filter.mpr h1
theorem okd_0 : okd 0 RX4 TX4 11 := by
  refine ⟨_, tyX4, rfl, rfl, rfl, uw_X4, tyX4_ok, nmX4, by decide +kernel, ?_⟩
  intro j hj f hf
  have h : ∀ j, j < 11 → (match kd 0 with | .inl o => (match nth o.2 j with | some f => (match f.1 with | 0 => decide (tyX4 j = .int) && !(TX4 j).2.2.2 | 1 => decide (tyX4 j = .long) && !(TX4 j).2.2.2 | 2 => decide (tyX4 j = .boolean) && !(TX4 j).2.2.2 | _ => true) | none => true) | .inr _ => true) = true := by decide +kernel
  have h1 := h j hj
  have h2 : nth (match kd 0 with | .inl o => o.2 | .inr _ => []) j = some f := hf
  simp only [kd] at h1 h2
  rw [h2] at h1
  obtain ⟨t, a, b⟩ := f
  match t, h1 with
  | 0, h1 => simpa [shp] using h1
  | 1, h1 => simpa [shp] using h1
  | 2, h1 => simpa [shp] using h1
  | _ + 3, _ => trivial
theorem uw_X5 : ∀ w ∈ u_ws RX5 TX5 19, w ∈ Gw := by
  have h : (u_ws RX5 TX5 19).all (fun w => decide (w ∈ lw_tbl) && goodWord w) = true := by decide +kernel
  intro w hw
  have h1 := List.all_eq_true.mp h w hw
  simp only [Bool.and_eq_true, decide_eq_true_eq] at h1
  exact List.mem_filter.mpr h1
theorem okd_5 : okd 5 RX5 TX5 19 := by
  refine ⟨_, tyX5, rfl, rfl, rfl, uw_X5, tyX5_ok, nmX5, by decide +kernel, ?_⟩
  intro j hj f hf
  have h : ∀ j, j < 19 → (match kd 5 with | .inl o => (match nth o.2 j with | some f => (match f.1 with | 0 => decide (tyX5 j = .int) && !(TX5 j).2.2.2 | 1 => decide (tyX5 j = .long) && !(TX5 j).2.2.2 | 2 => decide (tyX5 j = .boolean) && !(TX5 j).2.2.2 | _ => true) | none => true) | .inr _ => true) = true := by decide +kernel
  have h1 := h j hj
  have h2 : nth (match kd 5 with | .inl o => o.2 | .inr _ => []) j = some f := hf
  simp only [kd] at h1 h2
  rw [h2] at h1
  obtain ⟨t, a, b⟩ := f
  match t, h1 with
  | 0, h1 => simpa [shp] using h1
  | 1, h1 => simpa [shp] using h1
  | 2, h1 => simpa [shp] using h1
  | _ + 3, _ => trivial
def K_X0 : LKS := ([(9, 4, 0), (15, 4, 1), (18, 4, 2)], [], [], [], [], [])
theorem K_X0_ok : lkok RX0 K_X0 := ⟨List.forall_mem_cons.mpr ⟨⟨_, _, _, okd_4, by decide, gw_227⟩, List.forall_mem_cons.mpr ⟨⟨_, _, _, okd_4, by decide, gw_229⟩, List.forall_mem_cons.mpr ⟨⟨_, _, _, okd_4, by decide, gw_231⟩, fun _ h => absurd h List.not_mem_nil⟩⟩⟩, fun _ h => absurd h List.not_mem_nil, fun _ h => absurd h List.not_mem_nil, fun _ h => absurd h List.not_mem_nil, fun _ h => absurd h List.not_mem_nil, fun _ h => absurd h List.not_mem_nil⟩
def K_X1 : LKS := ([(96, 1, 1), (79, 1, 4), (114, 1, 12), (9, 3, 0), (15, 3, 1), (19, 3, 2), (22, 3, 3), (25, 3, 4), (28, 3, 5), (31, 3, 6)], [], [], [(41, vX 22), (51, vX 24), (53, vX 26), (58, vX 28), (70, vX 30), (75, vX 32), (77, vX 34), (81, vX 36), (132, vX 12), (134, vX 14), (136, vX 16), (138, vX 18), (140, vX 20), (142, vX 10), (117, vX 38), (119, vX 40)], [], [])
theorem K_X1_ok : lkok RX1 K_X1 := ⟨List.forall_mem_cons.mpr ⟨⟨_, _, _, okd_1, by decide, gw_139⟩, List.forall_mem_cons.mpr ⟨⟨_, _, _, okd_1, by decide, gw_145⟩, List.forall_mem_cons.mpr ⟨⟨_, _, _, okd_1, by decide, gw_160⟩, List.forall_mem_cons.mpr ⟨⟨_, _, _, okd_3, by decide, gw_195⟩, List.forall_mem_cons.mpr ⟨⟨_, _, _, okd_3, by decide, gw_196⟩, List.forall_mem_cons.mpr ⟨⟨_, _, _, okd_3, by decide, gw_198⟩, List.forall_mem_cons.mpr ⟨⟨_, _, _, okd_3, by decide, gw_200⟩, List.forall_mem_cons.mpr ⟨⟨_, _, _, okd_3, by decide, gw_201⟩, List.forall_mem_cons.mpr ⟨⟨_, _, _, okd_3, by decide, gw_202⟩, List.forall_mem_cons.mpr ⟨⟨_, _, _, okd_3, by decide, gw_203⟩, fun _ h => absurd h List.not_mem_nil⟩⟩⟩⟩⟩⟩⟩⟩⟩⟩, fun _ h => absurd h List.not_mem_nil, fun _ h => absurd h List.not_mem_nil, List.forall_mem_cons.mpr ⟨⟨("SleepWard$Text", 41, "shut", 22), List.mem_of_getElem? (i := 6) rfl, rfl, rfl, rfl, by decide⟩, List.forall_mem_cons.mpr ⟨⟨("SleepWard$Text", 51, "open", 24), List.mem_of_getElem? (i := 7) rfl, rfl, rfl, rfl, by decide⟩, List.forall_mem_cons.mpr ⟨⟨("SleepWard$Text", 53, "height", 26), List.mem_of_getElem? (i := 8) rfl, rfl, rfl, rfl, by decide⟩, List.forall_mem_cons.mpr ⟨⟨("SleepWard$Text", 58, "lamp", 28), List.mem_of_getElem? (i := 9) rfl, rfl, rfl, rfl, by decide⟩, List.forall_mem_cons.mpr ⟨⟨("SleepWard$Text", 70, "river", 30), List.mem_of_getElem? (i := 10) rfl, rfl, rfl, rfl, by decide⟩, List.forall_mem_cons.mpr ⟨⟨("SleepWard$Text", 75, "dry", 32), List.mem_of_getElem? (i := 11) rfl, rfl, rfl, rfl, by decide⟩, List.forall_mem_cons.mpr ⟨⟨("SleepWard$Text", 77, "moon", 34), List.mem_of_getElem? (i := 12) rfl, rfl, rfl, rfl, by decide⟩, List.forall_mem_cons.mpr ⟨⟨("SleepWard$Text", 81, "rounds", 36), List.mem_of_getElem? (i := 13) rfl, rfl, rfl, rfl, by decide⟩, List.forall_mem_cons.mpr ⟨⟨("SleepWard$Text", 132, "sloper", 12), List.mem_of_getElem? (i := 1) rfl, rfl, rfl, rfl, by decide⟩, List.forall_mem_cons.mpr ⟨⟨("SleepWard$Text", 134, "lamper", 14), List.mem_of_getElem? (i := 2) rfl, rfl, rfl, rfl, by decide⟩, List.forall_mem_cons.mpr ⟨⟨("SleepWard$Text", 136, "homer", 16), List.mem_of_getElem? (i := 3) rfl, rfl, rfl, rfl, by decide⟩, List.forall_mem_cons.mpr ⟨⟨("SleepWard$Text", 138, "wanderer", 18), List.mem_of_getElem? (i := 4) rfl, rfl, rfl, rfl, by decide⟩, List.forall_mem_cons.mpr ⟨⟨("SleepWard$Text", 140, "mooner", 20), List.mem_of_getElem? (i := 5) rfl, rfl, rfl, rfl, by decide⟩, List.forall_mem_cons.mpr ⟨⟨("SleepWard$Text", 142, "walker", 10), List.mem_of_getElem? (i := 0) rfl, rfl, rfl, rfl, by decide⟩, List.forall_mem_cons.mpr ⟨⟨("SleepWard$Text", 117, "at", 38), List.mem_of_getElem? (i := 14) rfl, rfl, rfl, rfl, by decide⟩, List.forall_mem_cons.mpr ⟨⟨("SleepWard$Text", 119, "way", 40), List.mem_of_getElem? (i := 15) rfl, rfl, rfl, rfl, by decide⟩, fun _ h => absurd h List.not_mem_nil⟩⟩⟩⟩⟩⟩⟩⟩⟩⟩⟩⟩⟩⟩⟩⟩, fun _ h => absurd h List.not_mem_nil, fun _ h => absurd h List.not_mem_nil⟩
def K_X2 : LKS := ([(9, 2, 0), (15, 2, 1), (18, 2, 2), (21, 2, 3), (24, 2, 4)], [], [], [], [], [])
theorem K_X2_ok : lkok RX2 K_X2 := ⟨List.forall_mem_cons.mpr ⟨⟨_, _, _, okd_2, by decide, gw_108⟩, List.forall_mem_cons.mpr ⟨⟨_, _, _, okd_2, by decide, gw_111⟩, List.forall_mem_cons.mpr ⟨⟨_, _, _, okd_2, by decide, gw_114⟩, List.forall_mem_cons.mpr ⟨⟨_, _, _, okd_2, by decide, gw_117⟩, List.forall_mem_cons.mpr ⟨⟨_, _, _, okd_2, by decide, gw_120⟩, fun _ h => absurd h List.not_mem_nil⟩⟩⟩⟩⟩, fun _ h => absurd h List.not_mem_nil, fun _ h => absurd h List.not_mem_nil, fun _ h => absurd h List.not_mem_nil, fun _ h => absurd h List.not_mem_nil, fun _ h => absurd h List.not_mem_nil⟩
def K_X3 : LKS := ([(100, 2, 0), (103, 2, 1), (106, 2, 2), (109, 2, 3), (112, 2, 4), (9, 1, 0), (15, 1, 1), (19, 1, 2), (23, 1, 3), (26, 1, 4), (29, 1, 5), (32, 1, 6), (35, 1, 7), (38, 1, 8), (41, 1, 9), (44, 1, 10), (49, 1, 11), (53, 1, 12)], [(138, (1103515245))], [(92, (-1))], [], [], [])
theorem K_X3_ok : lkok RX3 K_X3 := ⟨List.forall_mem_cons.mpr ⟨⟨_, _, _, okd_2, by decide, gw_110⟩, List.forall_mem_cons.mpr ⟨⟨_, _, _, okd_2, by decide, gw_113⟩, List.forall_mem_cons.mpr ⟨⟨_, _, _, okd_2, by decide, gw_116⟩, List.forall_mem_cons.mpr ⟨⟨_, _, _, okd_2, by decide, gw_119⟩, List.forall_mem_cons.mpr ⟨⟨_, _, _, okd_2, by decide, gw_122⟩, List.forall_mem_cons.mpr ⟨⟨_, _, _, okd_1, by decide, gw_135⟩, List.forall_mem_cons.mpr ⟨⟨_, _, _, okd_1, by decide, gw_137⟩, List.forall_mem_cons.mpr ⟨⟨_, _, _, okd_1, by decide, gw_140⟩, List.forall_mem_cons.mpr ⟨⟨_, _, _, okd_1, by decide, gw_142⟩, List.forall_mem_cons.mpr ⟨⟨_, _, _, okd_1, by decide, gw_144⟩, List.forall_mem_cons.mpr ⟨⟨_, _, _, okd_1, by decide, gw_147⟩, List.forall_mem_cons.mpr ⟨⟨_, _, _, okd_1, by decide, gw_149⟩, List.forall_mem_cons.mpr ⟨⟨_, _, _, okd_1, by decide, gw_151⟩, List.forall_mem_cons.mpr ⟨⟨_, _, _, okd_1, by decide, gw_153⟩, List.forall_mem_cons.mpr ⟨⟨_, _, _, okd_1, by decide, gw_154⟩, List.forall_mem_cons.mpr ⟨⟨_, _, _, okd_1, by decide, gw_156⟩, List.forall_mem_cons.mpr ⟨⟨_, _, _, okd_1, by decide, gw_157⟩, List.forall_mem_cons.mpr ⟨⟨_, _, _, okd_1, by decide, gw_159⟩, fun _ h => absurd h List.not_mem_nil⟩⟩⟩⟩⟩⟩⟩⟩⟩⟩⟩⟩⟩⟩⟩⟩⟩⟩, List.forall_mem_cons.mpr ⟨gw_450, fun _ h => absurd h List.not_mem_nil⟩, List.forall_mem_cons.mpr ⟨gw_310, fun _ h => absurd h List.not_mem_nil⟩, fun _ h => absurd h List.not_mem_nil, fun _ h => absurd h List.not_mem_nil, fun _ h => absurd h List.not_mem_nil⟩
def K_X4 : LKS := ([(135, 2, 0), (140, 2, 1), (143, 2, 2), (146, 2, 3), (149, 2, 4), (281, 1, 0), (82, 1, 1), (214, 1, 2), (289, 1, 3), (101, 1, 4), (178, 1, 5), (160, 1, 6), (181, 1, 7), (104, 1, 9), (131, 1, 11), (121, 1, 12), (235, 3, 1), (245, 3, 2), (267, 4, 0), (254, 4, 1), (260, 4, 2), (12, 0, 0), (16, 0, 1), (19, 0, 2), (22, 0, 3), (29, 0, 4), (35, 0, 5), (39, 0, 6), (43, 0, 7), (47, 0, 8), (50, 0, 9), (53, 0, 10)], [(62, (-1000000001)), (107, (-1000000002)), (159, (-1000000003)), (170, (-1000000005)), (197, (-1000000004)), (205, (-1000000007)), (259, (-1000000006))], [(298, (255)), (309, (12)), (279, (9))], [], [(292, vX 2)], [])
theorem K_X4_ok : lkok RX4 K_X4 := ⟨List.forall_mem_cons.mpr ⟨⟨_, _, _, okd_2, by decide, gw_109⟩, List.forall_mem_cons.mpr ⟨⟨_, _, _, okd_2, by decide, gw_112⟩, List.forall_mem_cons.mpr ⟨⟨_, _, _, okd_2, by decide, gw_115⟩, List.forall_mem_cons.mpr ⟨⟨_, _, _, okd_2, by decide, gw_118⟩, List.forall_mem_cons.mpr ⟨⟨_, _, _, okd_2, by decide, gw_121⟩, List.forall_mem_cons.mpr ⟨⟨_, _, _, okd_1, by decide, gw_136⟩, List.forall_mem_cons.mpr ⟨⟨_, _, _, okd_1, by decide, gw_138⟩, List.forall_mem_cons.mpr ⟨⟨_, _, _, okd_1, by decide, gw_141⟩, List.forall_mem_cons.mpr ⟨⟨_, _, _, okd_1, by decide, gw_143⟩, List.forall_mem_cons.mpr ⟨⟨_, _, _, okd_1, by decide, gw_146⟩, List.forall_mem_cons.mpr ⟨⟨_, _, _, okd_1, by decide, gw_148⟩, List.forall_mem_cons.mpr ⟨⟨_, _, _, okd_1, by decide, gw_150⟩, List.forall_mem_cons.mpr ⟨⟨_, _, _, okd_1, by decide, gw_152⟩, List.forall_mem_cons.mpr ⟨⟨_, _, _, okd_1, by decide, gw_155⟩, List.forall_mem_cons.mpr ⟨⟨_, _, _, okd_1, by decide, gw_158⟩, List.forall_mem_cons.mpr ⟨⟨_, _, _, okd_1, by decide, gw_161⟩, List.forall_mem_cons.mpr ⟨⟨_, _, _, okd_3, by decide, gw_197⟩, List.forall_mem_cons.mpr ⟨⟨_, _, _, okd_3, by decide, gw_199⟩, List.forall_mem_cons.mpr ⟨⟨_, _, _, okd_4, by decide, gw_228⟩, List.forall_mem_cons.mpr ⟨⟨_, _, _, okd_4, by decide, gw_230⟩, List.forall_mem_cons.mpr ⟨⟨_, _, _, okd_4, by decide, gw_232⟩, List.forall_mem_cons.mpr ⟨⟨_, _, _, okd_0, by decide, gw_241⟩, List.forall_mem_cons.mpr ⟨⟨_, _, _, okd_0, by decide, gw_242⟩, List.forall_mem_cons.mpr ⟨⟨_, _, _, okd_0, by decide, gw_243⟩, List.forall_mem_cons.mpr ⟨⟨_, _, _, okd_0, by decide, gw_244⟩, List.forall_mem_cons.mpr ⟨⟨_, _, _, okd_0, by decide, gw_245⟩, List.forall_mem_cons.mpr ⟨⟨_, _, _, okd_0, by decide, gw_246⟩, List.forall_mem_cons.mpr ⟨⟨_, _, _, okd_0, by decide, gw_247⟩, List.forall_mem_cons.mpr ⟨⟨_, _, _, okd_0, by decide, gw_248⟩, List.forall_mem_cons.mpr ⟨⟨_, _, _, okd_0, by decide, gw_249⟩, List.forall_mem_cons.mpr ⟨⟨_, _, _, okd_0, by decide, gw_250⟩, List.forall_mem_cons.mpr ⟨⟨_, _, _, okd_0, by decide, gw_251⟩, fun _ h => absurd h List.not_mem_nil⟩⟩⟩⟩⟩⟩⟩⟩⟩⟩⟩⟩⟩⟩⟩⟩⟩⟩⟩⟩⟩⟩⟩⟩⟩⟩⟩⟩⟩⟩⟩⟩, List.forall_mem_cons.mpr ⟨gw_297, List.forall_mem_cons.mpr ⟨gw_359, List.forall_mem_cons.mpr ⟨gw_419, List.forall_mem_cons.mpr ⟨gw_459, List.forall_mem_cons.mpr ⟨gw_513, List.forall_mem_cons.mpr ⟨gw_539, List.forall_mem_cons.mpr ⟨gw_756, fun _ h => absurd h List.not_mem_nil⟩⟩⟩⟩⟩⟩⟩, List.forall_mem_cons.mpr ⟨gw_560, List.forall_mem_cons.mpr ⟨gw_585, List.forall_mem_cons.mpr ⟨gw_773, fun _ h => absurd h List.not_mem_nil⟩⟩⟩, fun _ h => absurd h List.not_mem_nil, List.forall_mem_cons.mpr ⟨Or.inl ⟨gw_417, rfl⟩, fun _ h => absurd h List.not_mem_nil⟩, fun _ h => absurd h List.not_mem_nil⟩
def K_X5 : LKS := ([(9, 5, 0), (13, 5, 1), (16, 5, 2), (19, 5, 3), (323, 5, 4), (22, 5, 5), (25, 5, 6), (28, 5, 7), (31, 5, 8), (35, 5, 9), (38, 5, 10), (189, 5, 11), (193, 5, 12), (199, 5, 13), (245, 5, 14), (41, 5, 15), (44, 5, 16), (47, 5, 17), (50, 5, 18)], [(53, (-1000000001)), (54, (1103515245))], [(183, (12)), (233, (99999)), (235, (10)), (237, (48)), (321, (9))], [(248, vX 50), (250, vX 52), (252, vX 54), (254, vX 56), (256, vX 58), (258, vX 60), (263, vX 78), (268, vX 80), (283, vX 62), (288, vX 64), (290, vX 66), (295, vX 68), (300, vX 70), (302, vX 72), (304, vX 74), (306, vX 76)], [], [])
theorem K_X5_ok : lkok RX5 K_X5 := ⟨List.forall_mem_cons.mpr ⟨⟨_, _, _, okd_5, by decide, gw_814⟩, List.forall_mem_cons.mpr ⟨⟨_, _, _, okd_5, by decide, gw_815⟩, List.forall_mem_cons.mpr ⟨⟨_, _, _, okd_5, by decide, gw_816⟩, List.forall_mem_cons.mpr ⟨⟨_, _, _, okd_5, by decide, gw_817⟩, List.forall_mem_cons.mpr ⟨⟨_, _, _, okd_5, by decide, gw_818⟩, List.forall_mem_cons.mpr ⟨⟨_, _, _, okd_5, by decide, gw_819⟩, List.forall_mem_cons.mpr ⟨⟨_, _, _, okd_5, by decide, gw_820⟩, List.forall_mem_cons.mpr ⟨⟨_, _, _, okd_5, by decide, gw_821⟩, List.forall_mem_cons.mpr ⟨⟨_, _, _, okd_5, by decide, gw_822⟩, List.forall_mem_cons.mpr ⟨⟨_, _, _, okd_5, by decide, gw_823⟩, List.forall_mem_cons.mpr ⟨⟨_, _, _, okd_5, by decide, gw_824⟩, List.forall_mem_cons.mpr ⟨⟨_, _, _, okd_5, by decide, gw_825⟩, List.forall_mem_cons.mpr ⟨⟨_, _, _, okd_5, by decide, gw_826⟩, List.forall_mem_cons.mpr ⟨⟨_, _, _, okd_5, by decide, gw_827⟩, List.forall_mem_cons.mpr ⟨⟨_, _, _, okd_5, by decide, gw_828⟩, List.forall_mem_cons.mpr ⟨⟨_, _, _, okd_5, by decide, gw_829⟩, List.forall_mem_cons.mpr ⟨⟨_, _, _, okd_5, by decide, gw_830⟩, List.forall_mem_cons.mpr ⟨⟨_, _, _, okd_5, by decide, gw_831⟩, List.forall_mem_cons.mpr ⟨⟨_, _, _, okd_5, by decide, gw_832⟩, fun _ h => absurd h List.not_mem_nil⟩⟩⟩⟩⟩⟩⟩⟩⟩⟩⟩⟩⟩⟩⟩⟩⟩⟩⟩, List.forall_mem_cons.mpr ⟨gw_899, List.forall_mem_cons.mpr ⟨gw_1021, fun _ h => absurd h List.not_mem_nil⟩⟩, List.forall_mem_cons.mpr ⟨gw_1140, List.forall_mem_cons.mpr ⟨gw_1215, List.forall_mem_cons.mpr ⟨gw_1216, List.forall_mem_cons.mpr ⟨gw_1217, List.forall_mem_cons.mpr ⟨gw_1274, fun _ h => absurd h List.not_mem_nil⟩⟩⟩⟩⟩, List.forall_mem_cons.mpr ⟨⟨("SleepWardModel", 248, "walker", 50), List.mem_of_getElem? (i := 16) rfl, rfl, rfl, rfl, by decide⟩, List.forall_mem_cons.mpr ⟨⟨("SleepWardModel", 250, "sloper", 52), List.mem_of_getElem? (i := 17) rfl, rfl, rfl, rfl, by decide⟩, List.forall_mem_cons.mpr ⟨⟨("SleepWardModel", 252, "lamper", 54), List.mem_of_getElem? (i := 18) rfl, rfl, rfl, rfl, by decide⟩, List.forall_mem_cons.mpr ⟨⟨("SleepWardModel", 254, "homer", 56), List.mem_of_getElem? (i := 19) rfl, rfl, rfl, rfl, by decide⟩, List.forall_mem_cons.mpr ⟨⟨("SleepWardModel", 256, "wanderer", 58), List.mem_of_getElem? (i := 20) rfl, rfl, rfl, rfl, by decide⟩, List.forall_mem_cons.mpr ⟨⟨("SleepWardModel", 258, "mooner", 60), List.mem_of_getElem? (i := 21) rfl, rfl, rfl, rfl, by decide⟩, List.forall_mem_cons.mpr ⟨⟨("SleepWardModel", 263, "at", 78), List.mem_of_getElem? (i := 30) rfl, rfl, rfl, rfl, by decide⟩, List.forall_mem_cons.mpr ⟨⟨("SleepWardModel", 268, "way", 80), List.mem_of_getElem? (i := 31) rfl, rfl, rfl, rfl, by decide⟩, List.forall_mem_cons.mpr ⟨⟨("SleepWardModel", 283, "shut", 62), List.mem_of_getElem? (i := 22) rfl, rfl, rfl, rfl, by decide⟩, List.forall_mem_cons.mpr ⟨⟨("SleepWardModel", 288, "open", 64), List.mem_of_getElem? (i := 23) rfl, rfl, rfl, rfl, by decide⟩, List.forall_mem_cons.mpr ⟨⟨("SleepWardModel", 290, "height", 66), List.mem_of_getElem? (i := 24) rfl, rfl, rfl, rfl, by decide⟩, List.forall_mem_cons.mpr ⟨⟨("SleepWardModel", 295, "lamp", 68), List.mem_of_getElem? (i := 25) rfl, rfl, rfl, rfl, by decide⟩, List.forall_mem_cons.mpr ⟨⟨("SleepWardModel", 300, "river", 70), List.mem_of_getElem? (i := 26) rfl, rfl, rfl, rfl, by decide⟩, List.forall_mem_cons.mpr ⟨⟨("SleepWardModel", 302, "dry", 72), List.mem_of_getElem? (i := 27) rfl, rfl, rfl, rfl, by decide⟩, List.forall_mem_cons.mpr ⟨⟨("SleepWardModel", 304, "moon", 74), List.mem_of_getElem? (i := 28) rfl, rfl, rfl, rfl, by decide⟩, List.forall_mem_cons.mpr ⟨⟨("SleepWardModel", 306, "rounds", 76), List.mem_of_getElem? (i := 29) rfl, rfl, rfl, rfl, by decide⟩, fun _ h => absurd h List.not_mem_nil⟩⟩⟩⟩⟩⟩⟩⟩⟩⟩⟩⟩⟩⟩⟩⟩, fun _ h => absurd h List.not_mem_nil, fun _ h => absurd h List.not_mem_nil⟩
def K_L : LKS := ([], [], [(156, (4294967295))], [], [], [])
theorem K_L_ok : lkok RL K_L := ⟨fun _ h => absurd h List.not_mem_nil, fun _ h => absurd h List.not_mem_nil, List.forall_mem_cons.mpr ⟨gw_1307, fun _ h => absurd h List.not_mem_nil⟩, fun _ h => absurd h List.not_mem_nil, fun _ h => absurd h List.not_mem_nil, fun _ h => absurd h List.not_mem_nil⟩
def K_J0 : LKS := ([], [], [], [], [(38, vI 1), (1053, vX 0)], [(9, 0), (15, 1)])
theorem K_J0_ok : lkok RJ0 K_J0 := ⟨fun _ h => absurd h List.not_mem_nil, fun _ h => absurd h List.not_mem_nil, fun _ h => absurd h List.not_mem_nil, fun _ h => absurd h List.not_mem_nil, List.forall_mem_cons.mpr ⟨Or.inr (Or.inl ⟨gw_643, rfl⟩), List.forall_mem_cons.mpr ⟨Or.inr (Or.inr ⟨gw_659, rfl⟩), fun _ h => absurd h List.not_mem_nil⟩⟩, List.forall_mem_cons.mpr ⟨Or.inl ⟨rfl, gw_1308⟩, List.forall_mem_cons.mpr ⟨Or.inr ⟨rfl, gw_1309⟩, fun _ h => absurd h List.not_mem_nil⟩⟩⟩
def K_J1 : LKS := ([], [], [], [], [], [])
theorem K_J1_ok : lkok RJ1 K_J1 := ⟨fun _ h => absurd h List.not_mem_nil, fun _ h => absurd h List.not_mem_nil, fun _ h => absurd h List.not_mem_nil, fun _ h => absurd h List.not_mem_nil, fun _ h => absurd h List.not_mem_nil, fun _ h => absurd h List.not_mem_nil⟩
def K_J2 : LKS := ([], [], [], [], [], [])
theorem K_J2_ok : lkok RJ2 K_J2 := ⟨fun _ h => absurd h List.not_mem_nil, fun _ h => absurd h List.not_mem_nil, fun _ h => absurd h List.not_mem_nil, fun _ h => absurd h List.not_mem_nil, fun _ h => absurd h List.not_mem_nil, fun _ h => absurd h List.not_mem_nil⟩
def K_J3 : LKS := ([], [], [], [], [], [])
theorem K_J3_ok : lkok RJ3 K_J3 := ⟨fun _ h => absurd h List.not_mem_nil, fun _ h => absurd h List.not_mem_nil, fun _ h => absurd h List.not_mem_nil, fun _ h => absurd h List.not_mem_nil, fun _ h => absurd h List.not_mem_nil, fun _ h => absurd h List.not_mem_nil⟩
def K_J6 : LKS := ([], [(265, (1431655765)), (266, (858993459)), (267, (252645135))], [], [], [], [])
theorem K_J6_ok : lkok RJ6 K_J6 := ⟨fun _ h => absurd h List.not_mem_nil, List.forall_mem_cons.mpr ⟨gw_447, List.forall_mem_cons.mpr ⟨gw_448, List.forall_mem_cons.mpr ⟨gw_449, fun _ h => absurd h List.not_mem_nil⟩⟩⟩, fun _ h => absurd h List.not_mem_nil, fun _ h => absurd h List.not_mem_nil, fun _ h => absurd h List.not_mem_nil, fun _ h => absurd h List.not_mem_nil⟩
def K_J7 : LKS := ([], [], [], [], [], [])
theorem K_J7_ok : lkok RJ7 K_J7 := ⟨fun _ h => absurd h List.not_mem_nil, fun _ h => absurd h List.not_mem_nil, fun _ h => absurd h List.not_mem_nil, fun _ h => absurd h List.not_mem_nil, fun _ h => absurd h List.not_mem_nil, fun _ h => absurd h List.not_mem_nil⟩
def K_J13 : LKS := ([], [], [(314, (6148914691236517205)), (316, (3689348814741910323)), (318, (1085102592571150095))], [], [], [])
theorem K_J13_ok : lkok RJ13 K_J13 := ⟨fun _ h => absurd h List.not_mem_nil, fun _ h => absurd h List.not_mem_nil, List.forall_mem_cons.mpr ⟨gw_801, List.forall_mem_cons.mpr ⟨gw_802, List.forall_mem_cons.mpr ⟨gw_803, fun _ h => absurd h List.not_mem_nil⟩⟩⟩, fun _ h => absurd h List.not_mem_nil, fun _ h => absurd h List.not_mem_nil, fun _ h => absurd h List.not_mem_nil⟩
def M_X0_isMissing : MR := (yX0_isMissing, cX0_isMissing, 1, (some .boolean), 0, 0)
def M_J7_fill_d0a16 : MR := (yJ7_fill_d0a16, cJ7_fill_d0a16, 5, none, 0, 0)
def M_X0_clear : MR := (yX0_clear, cX0_clear, 3, none, 1, 24)
def M_X0_putNumber : MR := (yX0_putNumber, cX0_putNumber, 4, none, 0, 0)
def M_X0_hasRun : MR := (yX0_hasRun, cX0_hasRun, 3, (some .boolean), 0, 0)
def M_X1_addByte : MR := (yX1_addByte, cX1_addByte, 2, none, 0, 0)
def M_X1_isLetter : MR := (yX1_isLetter, cX1_isLetter, 1, (some .boolean), 0, 0)
def M_X1_isDigit : MR := (yX1_isDigit, cX1_isDigit, 1, (some .boolean), 0, 0)
def M_X1_nextToken : MR := (yX1_nextToken, cX1_nextToken, 1, none, 1, 21)
def M_J0_coder_7d493 : MR := (yJ0_coder_7d493, cJ0_coder_7d493, 1, (some .byte), 0, 0)
def M_J0_length_8abf5 : MR := (yJ0_length_8abf5, cJ0_length_8abf5, 1, (some .int), 1, 20)
def M_J0_isLatin1_aae02 : MR := (yJ0_isLatin1_aae02, cJ0_isLatin1_aae02, 1, (some .boolean), 0, 0)
def M_J3_checkIndex_8e157 : MR := (yJ3_checkIndex_8e157, cJ3_checkIndex_8e157, 3, (some .int), 0, 0)
def M_J0_checkIndex_df160 : MR := (yJ0_checkIndex_df160, cJ0_checkIndex_df160, 2, none, 1, 22)
def M_J1_charAt_3b067 : MR := (yJ1_charAt_3b067, cJ1_charAt_3b067, 2, (some .char), 2, 43)
def M_J2_length_9d52b : MR := (yJ2_length_9d52b, cJ2_length_9d52b, 1, (some .int), 0, 0)
def M_J2_checkIndex_2214a : MR := (yJ2_checkIndex_2214a, cJ2_checkIndex_2214a, 2, none, 2, 43)
def M_J2_getChar_3b067 : MR := (yJ2_getChar_3b067, cJ2_getChar_3b067, 2, (some .char), 1, 20)
def M_J2_charAt_3b067 : MR := (yJ2_charAt_3b067, cJ2_charAt_3b067, 2, (some .char), 3, 64)
def M_J0_charAt_5068e : MR := (yJ0_charAt_5068e, cJ0_charAt_5068e, 2, (some .char), 4, 85)
def M_X1_isWord : MR := (yX1_isWord, cX1_isWord, 3, (some .boolean), 5, 106)
def M_X1_takesWord : MR := (yX1_takesWord, cX1_takesWord, 2, (some .boolean), 6, 128)
def M_X1_takeNumber : MR := (yX1_takeNumber, cX1_takeNumber, 3, (some .int), 2, 41)
def M_X4_isWithin : MR := (yX4_isWithin, cX4_isWithin, 3, (some .boolean), 0, 0)
def M_X4_isSquare : MR := (yX4_isSquare, cX4_isSquare, 1, (some .boolean), 1, 22)
def M_X3_squareBeside : MR := (yX3_squareBeside, cX3_squareBeside, 2, (some .int), 0, 0)
def M_X3_doorBetween : MR := (yX3_doorBetween, cX3_doorBetween, 4, (some .int), 2, 42)
def M_X3_isShut : MR := (yX3_isShut, cX3_isShut, 2, (some .boolean), 0, 0)
def M_X3_putDoor : MR := (yX3_putDoor, cX3_putDoor, 4, (some .boolean), 1, 21)
def M_X1_readDoor : MR := (yX1_readDoor, cX1_readDoor, 5, none, 3, 65)
def M_X1_readHeight : MR := (yX1_readHeight, cX1_readHeight, 4, none, 3, 63)
def M_X3_hasLamp : MR := (yX3_hasLamp, cX3_hasLamp, 2, (some .boolean), 0, 0)
def M_X3_putLamp : MR := (yX3_putLamp, cX3_putLamp, 4, (some .boolean), 1, 21)
def M_X3_isRiver : MR := (yX3_isRiver, cX3_isRiver, 2, (some .boolean), 0, 0)
def M_X3_putRiver : MR := (yX3_putRiver, cX3_putRiver, 4, (some .boolean), 1, 21)
def M_X1_readRiver : MR := (yX1_readRiver, cX1_readRiver, 4, none, 3, 63)
def M_X3_emptyRounds : MR := (yX3_emptyRounds, cX3_emptyRounds, 1, none, 0, 0)
def M_X3_addRound : MR := (yX3_addRound, cX3_addRound, 2, none, 0, 0)
def M_X1_readRounds : MR := (yX1_readRounds, cX1_readRounds, 4, none, 3, 63)
def M_X1_nameOf : MR := (yX1_nameOf, cX1_nameOf, 1, (some (.object "java/lang/String")), 0, 0)
def M_X1_kindOfWord : MR := (yX1_kindOfWord, cX1_kindOfWord, 2, (some .int), 6, 128)
def M_X3_addWalker : MR := (yX3_addWalker, cX3_addWalker, 5, none, 0, 0)
def M_X1_readWalker : MR := (yX1_readWalker, cX1_readWalker, 5, none, 7, 149)
def M_X1_readItem : MR := (yX1_readItem, cX1_readItem, 3, none, 8, 173)
def M_X1_readItems : MR := (yX1_readItems, cX1_readItems, 3, (some .int), 9, 195)
def M_X2_takeFrom : MR := (yX2_takeFrom, cX2_takeFrom, 2, none, 0, 0)
def M_J7_fill_53178 : MR := (yJ7_fill_53178, cJ7_fill_53178, 4, none, 0, 0)
def M_X3_takeFrom : MR := (yX3_takeFrom, cX3_takeFrom, 3, none, 1, 26)
def M_X3_walkersAt : MR := (yX3_walkersAt, cX3_walkersAt, 5, (some .int), 0, 0)
def M_X3_awakeCount : MR := (yX3_awakeCount, cX3_awakeCount, 3, (some .int), 0, 0)
def M_X3_riverCount : MR := (yX3_riverCount, cX3_riverCount, 3, (some .int), 1, 21)
def M_X3_homeCount : MR := (yX3_homeCount, cX3_homeCount, 3, (some .int), 0, 0)
def M_X3_waysFrom : MR := (yX3_waysFrom, cX3_waysFrom, 3, (some .int), 1, 21)
def M_X3_plainStep : MR := (yX3_plainStep, cX3_plainStep, 4, (some .int), 0, 0)
def M_X3_slopeStep : MR := (yX3_slopeStep, cX3_slopeStep, 7, (some .int), 1, 23)
def M_X3_lampStep : MR := (yX3_lampStep, cX3_lampStep, 6, (some .int), 1, 23)
def M_J6_bitCount_0f7a4 : MR := (yJ6_bitCount_0f7a4, cJ6_bitCount_0f7a4, 1, (some .int), 0, 0)
def M_X3_drawnStep : MR := (yX3_drawnStep, cX3_drawnStep, 5, (some .int), 1, 20)
def M_X3_stepOf : MR := (yX3_stepOf, cX3_stepOf, 3, (some .int), 2, 49)
def M_X3_goMinute : MR := (yX3_goMinute, cX3_goMinute, 6, (some .int), 3, 71)
def M_X3_goMinutes : MR := (yX3_goMinutes, cX3_goMinutes, 4, (some .int), 4, 96)
def M_X4_tell : MR := (yX4_tell, cX4_tell, 3, (some .int), 1, 22)
def M_X4_door : MR := (yX4_door, cX4_door, 5, (some .int), 3, 65)
def M_X4_isOpen : MR := (yX4_isOpen, cX4_isOpen, 4, (some .int), 3, 65)
def M_X4_height : MR := (yX4_height, cX4_height, 4, (some .int), 2, 44)
def M_X4_mark : MR := (yX4_mark, cX4_mark, 5, (some .int), 2, 44)
def M_X4_squareOf : MR := (yX4_squareOf, cX4_squareOf, 3, (some .int), 2, 44)
def M_X4_moon : MR := (yX4_moon, cX4_moon, 3, (some .int), 2, 44)
def M_X4_round : MR := (yX4_round, cX4_round, 2, (some .int), 2, 44)
def M_X4_rest : MR := (yX4_rest, cX4_rest, 2, (some .int), 1, 20)
def M_X4_isKind : MR := (yX4_isKind, cX4_isKind, 1, (some .boolean), 1, 22)
def M_X4_isWay : MR := (yX4_isWay, cX4_isWay, 1, (some .boolean), 1, 22)
def M_X4_walker : MR := (yX4_walker, cX4_walker, 4, (some .int), 2, 44)
def M_X4_isWalker : MR := (yX4_isWalker, cX4_isWalker, 2, (some .boolean), 1, 22)
def M_X4_of : MR := (yX4_of, cX4_of, 4, (some .int), 2, 44)
def M_X4_set : MR := (yX4_set, cX4_set, 6, (some .int), 2, 44)
def M_X4_wake : MR := (yX4_wake, cX4_wake, 5, (some .int), 2, 44)
def M_X4_turn : MR := (yX4_turn, cX4_turn, 5, (some .int), 2, 44)
def M_X4_isUnder : MR := (yX4_isUnder, cX4_isUnder, 4, (some .boolean), 2, 42)
def M_X4_as : MR := (yX4_as, cX4_as, 4, (some .int), 3, 65)
def M_X4_step : MR := (yX4_step, cX4_step, 4, (some .int), 3, 71)
def M_X4_isTooLate : MR := (yX4_isTooLate, cX4_isTooLate, 2, (some .boolean), 0, 0)
def M_X4_minutes : MR := (yX4_minutes, cX4_minutes, 2, (some .int), 5, 119)
def M_X4_bed : MR := (yX4_bed, cX4_bed, 4, (some .int), 1, 22)
def M_X4_seed : MR := (yX4_seed, cX4_seed, 3, (some .int), 0, 0)
def M_X4_now : MR := (yX4_now, cX4_now, 2, (some .int), 2, 44)
def M_X4_on : MR := (yX4_on, cX4_on, 3, (some .int), 5, 119)
def M_X4_river : MR := (yX4_river, cX4_river, 4, (some .int), 4, 96)
def M_X4_meet : MR := (yX4_meet, cX4_meet, 4, (some .int), 4, 96)
def M_X4_home : MR := (yX4_home, cX4_home, 4, (some .int), 4, 96)
def M_X4_isSafe : MR := (yX4_isSafe, cX4_isSafe, 5, (some .boolean), 4, 96)
def M_X4_safe : MR := (yX4_safe, cX4_safe, 2, (some .int), 5, 120)
def M_X4_findBanks : MR := (yX4_findBanks, cX4_findBanks, 6, (some .int), 1, 21)
def M_X4_doorsOf : MR := (yX4_doorsOf, cX4_doorsOf, 6, (some .long), 0, 0)
def M_X4_leastBars : MR := (yX4_leastBars, cX4_leastBars, 5, (some .int), 5, 120)
def M_X4_barred : MR := (yX4_barred, cX4_barred, 5, (some .int), 6, 144)
def M_X4_placesWithLamps : MR := (yX4_placesWithLamps, cX4_placesWithLamps, 6, (some .long), 5, 119)
def M_X4_countOthers : MR := (yX4_countOthers, cX4_countOthers, 6, (some .int), 0, 0)
def M_X4_lamp : MR := (yX4_lamp, cX4_lamp, 8, (some .int), 6, 144)
def M_X4_watch : MR := (yX4_watch, cX4_watch, 6, (some .int), 5, 119)
def M_X4_loop : MR := (yX4_loop, cX4_loop, 7, (some .int), 2, 44)
def M_X4_spreadFrom : MR := (yX4_spreadFrom, cX4_spreadFrom, 7, none, 2, 43)
def M_X4_spreadOdds : MR := (yX4_spreadOdds, cX4_spreadOdds, 5, none, 3, 69)
def M_X4_odds : MR := (yX4_odds, cX4_odds, 4, (some .long), 4, 93)
def M_X4_likeliest : MR := (yX4_likeliest, cX4_likeliest, 5, (some .int), 4, 93)
def M_X4_feed : MR := (yX4_feed, cX4_feed, 4, (some .int), 2, 44)
def M_X4_wipe : MR := (yX4_wipe, cX4_wipe, 2, (some .int), 0, 0)
def M_X4_ward : MR := (yX4_ward, cX4_ward, 2, (some .int), 10, 217)
def M_X4_isSheet : MR := (yX4_isSheet, cX4_isSheet, 1, (some .boolean), 1, 22)
def M_X4_sheet : MR := (yX4_sheet, cX4_sheet, 4, (some .int), 2, 46)
def M_X4_write : MR := (yX4_write, cX4_write, 8, (some .long), 2, 44)
def M_X4_copy : MR := (yX4_copy, cX4_copy, 8, (some .int), 2, 44)
def M_X4_lays : MR := (yX4_lays, cX4_lays, 7, (some .int), 2, 44)
def M_X4_track : MR := (yX4_track, cX4_track, 5, (some .int), 4, 96)
def M_X4_whose : MR := (yX4_whose, cX4_whose, 5, (some .int), 4, 96)
def M_X4_image : MR := (yX4_image, cX4_image, 1, (some .int), 2, 48)
def M_X4_undo : MR := (yX4_undo, cX4_undo, 1, (some .int), 2, 48)
def M_X4_tear : MR := (yX4_tear, cX4_tear, 2, (some .int), 0, 0)
def M_J13_bitCount_95d88 : MR := (yJ13_bitCount_95d88, cJ13_bitCount_95d88, 2, (some .int), 0, 0)
def M_X4_count : MR := (yX4_count, cX4_count, 2, (some .int), 2, 44)
def M_X4_status : MR := (yX4_status, cX4_status, 2, (some .int), 2, 44)
def M_X5_in : MR := (yX5_in, cX5_in, 3, (some .boolean), 0, 0)
def M_X5_no : MR := (yX5_no, cX5_no, 2, (some .int), 0, 0)
def M_X5_lay : MR := (yX5_lay, cX5_lay, 3, none, 0, 0)
def M_X5_draw : MR := (yX5_draw, cX5_draw, 1, (some .int), 0, 0)
def M_X5_isSquare : MR := (yX5_isSquare, cX5_isSquare, 1, (some .boolean), 1, 22)
def M_X5_isWay : MR := (yX5_isWay, cX5_isWay, 1, (some .boolean), 1, 22)
def M_X5_isWalker : MR := (yX5_isWalker, cX5_isWalker, 2, (some .boolean), 1, 22)
def M_X5_has : MR := (yX5_has, cX5_has, 3, (some .int), 0, 0)
def M_X5_gets : MR := (yX5_gets, cX5_gets, 5, (some .int), 1, 22)
def M_X5_puts : MR := (yX5_puts, cX5_puts, 4, (some .int), 0, 0)
def M_X5_beside : MR := (yX5_beside, cX5_beside, 2, (some .int), 0, 0)
def M_X5_doorAt : MR := (yX5_doorAt, cX5_doorAt, 2, (some .int), 0, 0)
def M_X5_wayTo : MR := (yX5_wayTo, cX5_wayTo, 3, (some .int), 1, 21)
def M_X5_may : MR := (yX5_may, cX5_may, 3, (some .boolean), 1, 21)
def M_X5_doorOf : MR := (yX5_doorOf, cX5_doorOf, 4, (some .int), 2, 43)
def M_X5_door : MR := (yX5_door, cX5_door, 6, (some .int), 3, 66)
def M_X5_isOpen : MR := (yX5_isOpen, cX5_isOpen, 4, (some .int), 3, 66)
def M_X5_height : MR := (yX5_height, cX5_height, 3, (some .int), 2, 42)
def M_X5_mark : MR := (yX5_mark, cX5_mark, 5, (some .int), 2, 42)
def M_X5_walkersAt : MR := (yX5_walkersAt, cX5_walkersAt, 4, (some .int), 1, 22)
def M_X5_squareOf : MR := (yX5_squareOf, cX5_squareOf, 3, (some .int), 2, 45)
def M_X5_moon : MR := (yX5_moon, cX5_moon, 2, (some .int), 1, 23)
def M_X5_round : MR := (yX5_round, cX5_round, 2, (some .int), 2, 42)
def M_X5_rest : MR := (yX5_rest, cX5_rest, 1, (some .int), 1, 23)
def M_X5_isKind : MR := (yX5_isKind, cX5_isKind, 1, (some .boolean), 1, 22)
def M_X5_adds : MR := (yX5_adds, cX5_adds, 5, none, 2, 46)
def M_X5_walker : MR := (yX5_walker, cX5_walker, 4, (some .int), 3, 70)
def M_X5_waysFrom : MR := (yX5_waysFrom, cX5_waysFrom, 4, (some .int), 2, 43)
def M_X5_of : MR := (yX5_of, cX5_of, 3, (some .int), 3, 66)
def M_X5_set : MR := (yX5_set, cX5_set, 4, (some .int), 2, 46)
def M_X5_wake : MR := (yX5_wake, cX5_wake, 4, (some .int), 2, 46)
def M_X5_turn : MR := (yX5_turn, cX5_turn, 3, (some .int), 2, 46)
def M_X5_isUnder : MR := (yX5_isUnder, cX5_isUnder, 2, (some .boolean), 0, 0)
def M_X5_as : MR := (yX5_as, cX5_as, 3, (some .int), 2, 43)
def M_X5_turned : MR := (yX5_turned, cX5_turned, 6, (some .int), 2, 43)
def M_X5_lampStep : MR := (yX5_lampStep, cX5_lampStep, 4, (some .int), 3, 68)
def M_X5_slopeStep : MR := (yX5_slopeStep, cX5_slopeStep, 6, (some .int), 3, 68)
def M_X5_ones : MR := (yX5_ones, cX5_ones, 3, (some .int), 0, 0)
def M_X5_wanderStep : MR := (yX5_wanderStep, cX5_wanderStep, 5, (some .int), 3, 66)
def M_X5_stepOf : MR := (yX5_stepOf, cX5_stepOf, 4, (some .int), 4, 93)
def M_X5_step : MR := (yX5_step, cX5_step, 4, (some .int), 5, 116)
def M_X5_isIn : MR := (yX5_isIn, cX5_isIn, 2, (some .boolean), 1, 22)
def M_X5_goes : MR := (yX5_goes, cX5_goes, 2, (some .boolean), 2, 43)
def M_X5_minute : MR := (yX5_minute, cX5_minute, 3, none, 5, 116)
def M_X5_go : MR := (yX5_go, cX5_go, 3, none, 6, 138)
def M_X5_inRiver : MR := (yX5_inRiver, cX5_inRiver, 3, (some .int), 2, 43)
def M_X5_isLate : MR := (yX5_isLate, cX5_isLate, 2, (some .boolean), 0, 0)
def M_X5_minutes : MR := (yX5_minutes, cX5_minutes, 3, (some .int), 7, 160)
def M_X5_homeMany : MR := (yX5_homeMany, cX5_homeMany, 3, (some .int), 1, 22)
def M_X5_bed : MR := (yX5_bed, cX5_bed, 3, (some .int), 2, 46)
def M_X5_seed : MR := (yX5_seed, cX5_seed, 2, (some .int), 1, 23)
def M_X5_awake : MR := (yX5_awake, cX5_awake, 3, (some .int), 1, 22)
def M_X5_now : MR := (yX5_now, cX5_now, 2, (some .int), 3, 65)
def M_X5_on : MR := (yX5_on, cX5_on, 4, (some .int), 7, 160)
def M_X5_is : MR := (yX5_is, cX5_is, 4, (some .boolean), 2, 43)
def M_X5_soonest : MR := (yX5_soonest, cX5_soonest, 6, (some .int), 6, 138)
def M_X5_river : MR := (yX5_river, cX5_river, 2, (some .int), 7, 163)
def M_X5_meet : MR := (yX5_meet, cX5_meet, 3, (some .int), 7, 163)
def M_X5_home : MR := (yX5_home, cX5_home, 2, (some .int), 7, 163)
def M_X5_isSafe : MR := (yX5_isSafe, cX5_isSafe, 5, (some .boolean), 6, 138)
def M_X5_safe : MR := (yX5_safe, cX5_safe, 2, (some .int), 7, 162)
def M_X5_banks : MR := (yX5_banks, cX5_banks, 5, (some .int), 2, 43)
def M_X5_isSafeBy : MR := (yX5_isSafeBy, cX5_isSafeBy, 6, (some .boolean), 7, 162)
def M_X5_barred : MR := (yX5_barred, cX5_barred, 6, (some .int), 8, 187)
def M_X5_lamp : MR := (yX5_lamp, cX5_lamp, 7, (some .int), 7, 160)
def M_X5_watch : MR := (yX5_watch, cX5_watch, 5, (some .int), 7, 160)
def M_X5_loop : MR := (yX5_loop, cX5_loop, 6, (some .int), 3, 68)
def M_X5_spreads : MR := (yX5_spreads, cX5_spreads, 7, none, 3, 66)
def M_X5_odds : MR := (yX5_odds, cX5_odds, 4, (some .long), 4, 92)
def M_X5_likeliest : MR := (yX5_likeliest, cX5_likeliest, 5, (some .int), 4, 92)
def M_X5_feed : MR := (yX5_feed, cX5_feed, 4, (some .int), 1, 22)
def M_X5_wipe : MR := (yX5_wipe, cX5_wipe, 2, (some .int), 0, 0)
def M_X5_byteAt : MR := (yX5_byteAt, cX5_byteAt, 2, (some .int), 0, 0)
def M_X5_blanks : MR := (yX5_blanks, cX5_blanks, 1, none, 1, 21)
def M_X5_fails : MR := (yX5_fails, cX5_fails, 1, (some .boolean), 0, 0)
def M_X5_isLetter : MR := (yX5_isLetter, cX5_isLetter, 1, (some .boolean), 1, 22)
def M_X5_isDigit : MR := (yX5_isDigit, cX5_isDigit, 1, (some .boolean), 1, 22)
def M_X5_wordEnd : MR := (yX5_wordEnd, cX5_wordEnd, 2, (some .int), 2, 42)
def M_X5_isWord : MR := (yX5_isWord, cX5_isWord, 4, (some .boolean), 5, 106)
def M_X5_may_ : MR := (yX5_may_, cX5_may_, 3, (some .boolean), 6, 129)
def M_X5_must : MR := (yX5_must, cX5_must, 2, (some .boolean), 7, 151)
def M_X5_number : MR := (yX5_number, cX5_number, 6, (some .boolean), 2, 42)
def M_X5_isNumber : MR := (yX5_isNumber, cX5_isNumber, 1, (some .boolean), 2, 42)
def M_X5_kindName : MR := (yX5_kindName, cX5_kindName, 1, (some (.object "java/lang/String")), 0, 0)
def M_X5_doorTold : MR := (yX5_doorTold, cX5_doorTold, 5, (some .boolean), 3, 67)
def M_X5_heightTold : MR := (yX5_heightTold, cX5_heightTold, 2, (some .boolean), 3, 67)
def M_X5_markTold : MR := (yX5_markTold, cX5_markTold, 3, (some .boolean), 3, 67)
def M_X5_walkerTold : MR := (yX5_walkerTold, cX5_walkerTold, 4, (some .boolean), 8, 172)
def M_X5_roundsTold : MR := (yX5_roundsTold, cX5_roundsTold, 1, (some .boolean), 3, 67)
def M_X5_item : MR := (yX5_item, cX5_item, 2, (some .boolean), 9, 195)
def M_X5_ward : MR := (yX5_ward, cX5_ward, 3, (some .int), 10, 216)
def M_X5_isSheet : MR := (yX5_isSheet, cX5_isSheet, 1, (some .boolean), 1, 22)
def M_X5_sheet : MR := (yX5_sheet, cX5_sheet, 5, (some .int), 2, 42)
def M_X5_writes : MR := (yX5_writes, cX5_writes, 5, none, 0, 0)
def M_X5_write : MR := (yX5_write, cX5_write, 7, (some .long), 2, 42)
def M_X5_copy : MR := (yX5_copy, cX5_copy, 7, (some .int), 2, 42)
def M_X5_lays : MR := (yX5_lays, cX5_lays, 6, (some .int), 2, 42)
def M_X5_track : MR := (yX5_track, cX5_track, 4, (some .int), 6, 138)
def M_X5_whose : MR := (yX5_whose, cX5_whose, 5, (some .int), 6, 138)
def M_X5_image : MR := (yX5_image, cX5_image, 1, (some .int), 1, 22)
def M_X5_undo : MR := (yX5_undo, cX5_undo, 1, (some .int), 1, 22)
def M_X5_tear : MR := (yX5_tear, cX5_tear, 2, (some .int), 0, 0)
def M_X5_sumOf : MR := (yX5_sumOf, cX5_sumOf, 5, (some .int), 0, 0)
def M_X5_count : MR := (yX5_count, cX5_count, 2, (some .int), 1, 24)
def M_X5_status : MR := (yX5_status, cX5_status, 4, (some .int), 1, 22)
