def turB (f : Nat → Int32) (q : Nat) (l : Bool) (w : Nat) : Bool := mayB f q w && (!l || decide (f (44 + bsd q w) = nI 1))
def sp_X5_turned : SP := spP d_M_III (fun x _ => vp_in x.1 25 ∧ vp_in x.2.1 4) (fun x hp => vI (trnV (turB (hp.1 53) x.1.toNatClampNeg (decide (¬ x.2.2 = 0))) x.2.1.toNatClampNeg))
theorem may_bsd {f : Nat → Int32} {q w : Nat} (h : mayB f q w = true) : bsd q w ≠ 99 := by
  unfold mayB at h
  rw [Bool.and_eq_true] at h
  intro h2
  rw [h2] at h
  exact absurd h.1 (by decide)
theorem bsV_may {q w : Nat} (h : bsd q w ≠ 99) : bsV q w = nI (bsd q w) := by unfold bsV; rw [if_neg h]
def E_X5_turned : EN := [(103, false, 3, sp_X5_may), (63, true, 2, sp_X5_beside)]
set_option maxRecDepth 100000 in
set_option maxHeartbeats 4000000 in
theorem c_X5_turned : Ctr M_X5_turned sp_X5_turned := by
  refine ctr_of (own := RX5) M_X5_turned sp_X5_turned (P := P_X5_turned) (K := K_X5) (E := E_X5_turned) (by decide) rfl pk_X5_turned K_X5_ok (List.forall_mem_cons.mpr ⟨sc_X5_may gw_970 (by decide) (by decide), List.forall_mem_cons.mpr ⟨sc_X5_beside gw_889 (by decide) (by decide), fun _ h => absurd h List.not_mem_nil⟩⟩) (fun as hp Q h => by obtain ⟨x, hx, -⟩ := spP_e h; rw [d_M_III_e hx]; exact Nat.le_of_ble_eq_true rfl) ?_
  intro Q G hQi hG as hp h
  obtain ⟨x, hx, hpre, hQ⟩ := spP_e h
  rw [d_M_III_e hx]
  clear h hx
  obtain ⟨q, y, l⟩ := x
  try dsimp only at hpre hQ ⊢
  obtain ⟨hq0, hy0⟩ := hpre
  obtain ⟨q, hq, rfl⟩ := vp_in_of hq0 (by omega)
  obtain ⟨y, hy, rfl⟩ := vp_in_of hy0 (by omega)
  have eq : (nI q).toNatClampNeg = q := nI_clamp (by omega)
  have ey : (nI y).toNatClampNeg = y := nI_clamp (by omega)
  rw [eq, ey] at hQ
  have key := for_up (P := fun k => Q (some (vI (ff (wayB (turB (hp.1 53) q (decide (¬ l = 0))) y) (-1) (4 - k) k))) hp → G 3 [(4, vI (nI k)), (0, vR 5 52), (1, vI (nI q)), (2, vI (nI y)), (3, vI l)] [] hp) 4 (by
    intro hQ
    refine run hG [3] 60 ?_
    exact And.intro (fun h1 => hQ) (fun h1 => absurd (nI_le (Nat.le_refl _) (by omega)) h1)) (by
    intro k hk ih hQ
    have e4 : 4 - k = (4 - (k + 1)) + 1 := by omega
    rw [e4] at hQ
    have ew : nI y + nI k - (nI y + nI k) / nI 4 * nI 4 = nI ((y + k) % 4) := by rw [nI_add]; exact nI_rem (by omega) (by omega) (by omega)
    have hw4 : (y + k) % 4 < 4 := Nat.mod_lt _ (by omega)
    generalize hwe : (y + k) % 4 = w at ew hw4
    have ewi : (nI w).toNatClampNeg = w := nI_clamp (by omega)
    have hin4 : vp_in (nI y + nI k - (nI y + nI k) / nI 4 * nI 4) 4 := by rw [ew]; exact vp_in_nI hw4 (by omega)
    have next : turB (hp.1 53) q (decide (¬ l = 0)) w = false → ∀ v, G 3 [(4, vI (nI k + nI 1)), (5, v), (0, vR 5 52), (1, vI (nI q)), (2, vI (nI y)), (3, vI l)] [] hp := by
      intro hf v
      refine cl_lv hG [(4, vI (nI k + nI 1)), (0, vR 5 52), (1, vI (nI q)), (2, vI (nI y)), (3, vI l)] ⟨rfl, rfl, rfl, rfl, rfl, trivial⟩ ?_
      rw [nI_s]
      apply ih
      rw [ff_n (by unfold wayB; rw [hwe, hf, if_neg (by decide)])] at hQ
      exact hQ
    have done : turB (hp.1 53) q (decide (¬ l = 0)) w = true → Q (some (vI (nI y + nI k - (nI y + nI k) / nI 4 * nI 4))) hp := by
      intro hf
      rw [ff_s (by unfold wayB; rw [hwe, hf, if_pos rfl])] at hQ
      rw [ew]
      exact hQ
    refine run hG [3] 60 ?_
    refine And.intro (fun h1 => absurd h1 (nI_ge hk (by omega))) (fun h1 => ?_)
    refine And.intro (by decide) ?_
    refine And.intro ⟨hq0, hin4⟩ ?_
    refine And.intro (fun h2 => ?_) (fun h2 => ?_)
    · have h2 : mayB (hp.1 53) (nI q).toNatClampNeg (nI y + nI k - (nI y + nI k) / nI 4 * nI 4).toNatClampNeg = false := bB_0.mp h2
      rw [eq, ew, ewi] at h2
      refine cl_use hG (next (by unfold turB; rw [h2]; rfl) (vI (nI y + nI k - (nI y + nI k) / nI 4 * nI 4))) ⟨rfl, rfl, rfl, rfl, rfl, rfl, trivial⟩
    · have h2 : mayB (hp.1 53) (nI q).toNatClampNeg (nI y + nI k - (nI y + nI k) / nI 4 * nI 4).toNatClampNeg = true := bB_1.mp h2
      rw [eq, ew, ewi] at h2
      have hb := may_bsd h2
      have hb25 : bsd q w < 25 := by rcases bsd_lt q hq w hw4 with h | h <;> omega
      refine And.intro (fun h3 => ?_) (fun h3 => ?_)
      · exact done (by unfold turB; rw [h2, decide_eq_false (fun h => h h3)]; rfl)
      · refine And.intro ⟨hq0, hin4⟩ ?_
        have ei : nI 44 + bsV (nI q).toNatClampNeg (nI y + nI k - (nI y + nI k) / nI 4 * nI 4).toNatClampNeg = nI (44 + bsd q w) := by rw [eq, ew, ewi, bsV_may hb, nI_add]
        refine And.intro (show vp_in (nI 44 + bsV (nI q).toNatClampNeg (nI y + nI k - (nI y + nI k) / nI 4 * nI 4).toNatClampNeg) 184 by rw [ei]; exact vp_in_nI (by omega) (by omega)) ?_
        refine And.intro (fun h4 => ?_) (fun h4 => ?_)
        · have h4 : ¬ hp.1 53 (nI 44 + bsV (nI q).toNatClampNeg (nI y + nI k - (nI y + nI k) / nI 4 * nI 4).toNatClampNeg).toNatClampNeg = nI 1 := h4
          rw [ei, nI_clamp (by omega)] at h4
          refine cl_use hG (next (by unfold turB; rw [h2, decide_eq_true h3, decide_eq_false h4]; rfl) (vI (nI y + nI k - (nI y + nI k) / nI 4 * nI 4))) ⟨rfl, rfl, rfl, rfl, rfl, rfl, trivial⟩
        · have h4 : hp.1 53 (nI 44 + bsV (nI q).toNatClampNeg (nI y + nI k - (nI y + nI k) / nI 4 * nI 4).toNatClampNeg).toNatClampNeg = nI 1 := h4
          rw [ei, nI_clamp (by omega)] at h4
          exact done (by unfold turB; rw [h2, decide_eq_true h4]; simp)) 0 (by omega) hQ
  refine run hG [3] 60 ?_
  exact cl_use hG key ⟨rfl, rfl, rfl, rfl, rfl, trivial⟩
theorem sc_X5_turned {own : String} {F L idx : Nat} (h1 : Cond.methodLink own idx yX5_turned ∈ Gw) (hF : 3 ≤ F) (hL : 68 ≤ L) : SC own F L (idx, false, 4, sp_X5_turned) := SC_V spP_mono c_X5_turned okd_5 (fun as hp K h => by obtain ⟨x, hx, -⟩ := spP_e h; exact ⟨_, _, d_M_III_e hx⟩) h1 gw_1003 gw_32 gw_75 gw_1004 (by decide +kernel) hF hL
def lmpV (f : Nat → Int32) (q y : Nat) : Int32 := if 0 ≤ trnV (turB f q true) y then trnV (turB f q true) y else trnV (turB f q false) y
def sp_X5_lampStep : SP := spP d_M_II (fun x _ => vp_in x.1 25 ∧ vp_in x.2 4) (fun x hp => vI (lmpV (hp.1 53) x.1.toNatClampNeg x.2.toNatClampNeg))
def E_X5_lampStep : EN := [(116, false, 4, sp_X5_turned)]
set_option maxRecDepth 100000 in
set_option maxHeartbeats 4000000 in
theorem c_X5_lampStep : Ctr M_X5_lampStep sp_X5_lampStep := by
  refine ctr_of (own := RX5) M_X5_lampStep sp_X5_lampStep (P := P_X5_lampStep) (K := K_X5) (E := E_X5_lampStep) (by decide) rfl pk_X5_lampStep K_X5_ok (List.forall_mem_cons.mpr ⟨sc_X5_turned gw_1001 (by decide) (by decide), fun _ h => absurd h List.not_mem_nil⟩) (fun as hp Q h => by obtain ⟨x, hx, -⟩ := spP_e h; rw [d_M_II_e hx]; exact Nat.le_of_ble_eq_true rfl) ?_
  intro Q G hQi hG as hp h
  obtain ⟨x, hx, hpre, hQ⟩ := spP_e h
  rw [d_M_II_e hx]
  clear h hx
  obtain ⟨q, y⟩ := x
  try dsimp only at hpre hQ ⊢
  refine run hG [] 60 ?_
  refine And.intro hpre ?_
  unfold lmpV at hQ
  refine And.intro (fun h1 => ?_) (fun h1 => ?_)
  · have h1 : 0 ≤ trnV (turB (hp.1 53) q.toNatClampNeg true) y.toNatClampNeg := h1
    rw [if_pos h1] at hQ
    exact hQ
  · have h1 : ¬ 0 ≤ trnV (turB (hp.1 53) q.toNatClampNeg true) y.toNatClampNeg := h1
    rw [if_neg h1] at hQ
    exact And.intro hpre hQ
theorem sc_X5_lampStep {own : String} {F L idx : Nat} (h1 : Cond.methodLink own idx yX5_lampStep ∈ Gw) (hF : 4 ≤ F) (hL : 91 ≤ L) : SC own F L (idx, false, 3, sp_X5_lampStep) := SC_V spP_mono c_X5_lampStep okd_5 (fun as hp K h => by obtain ⟨x, hx, -⟩ := spP_e h; exact ⟨_, _, d_M_II_e hx⟩) h1 gw_1011 gw_34 gw_75 gw_1012 (by decide +kernel) hF hL
/-- the way down, and how low -/
def slpG (c : Nat → Bool) (h : Nat → Int32) (w : Nat) (p : Int32 × Int32) : Int32 × Int32 := if c w = true ∧ ¬ p.2 ≤ h w then (nI w, h w) else p
def slp (c : Nat → Bool) (h : Nat → Int32) (z : Int32) : Nat → Int32 × Int32
  | 0 => (-1, z)
  | n + 1 => slpG c h n (slp c h z n)
def slpC (f : Nat → Int32) (q : Nat) : Int32 := (slp (mayB f q) (fun w => f (19 + bsd q w)) (f (19 + q)) 4).1
def slpV (f : Nat → Int32) (q y : Nat) : Int32 := if 0 ≤ slpC f q then slpC f q else trnV (turB f q false) y
def sp_X5_slopeStep : SP := spP d_M_II (fun x _ => vp_in x.1 25 ∧ vp_in x.2 4) (fun x hp => vI (slpV (hp.1 53) x.1.toNatClampNeg x.2.toNatClampNeg))
def E_X5_slopeStep : EN := [(103, false, 3, sp_X5_may), (63, true, 2, sp_X5_beside), (116, false, 4, sp_X5_turned)]
set_option maxRecDepth 100000 in
set_option maxHeartbeats 4000000 in
theorem c_X5_slopeStep : Ctr M_X5_slopeStep sp_X5_slopeStep := by
  refine ctr_of (own := RX5) M_X5_slopeStep sp_X5_slopeStep (P := P_X5_slopeStep) (K := K_X5) (E := E_X5_slopeStep) (by decide) rfl pk_X5_slopeStep K_X5_ok (List.forall_mem_cons.mpr ⟨sc_X5_may gw_970 (by decide) (by decide), List.forall_mem_cons.mpr ⟨sc_X5_beside gw_889 (by decide) (by decide), List.forall_mem_cons.mpr ⟨sc_X5_turned gw_1001 (by decide) (by decide), fun _ h => absurd h List.not_mem_nil⟩⟩⟩) (fun as hp Q h => by obtain ⟨x, hx, -⟩ := spP_e h; rw [d_M_II_e hx]; exact Nat.le_of_ble_eq_true rfl) ?_
  intro Q G hQi hG as hp h
  obtain ⟨x, hx, hpre, hQ⟩ := spP_e h
  rw [d_M_II_e hx]
  clear h hx
  obtain ⟨q, y⟩ := x
  try dsimp only at hpre hQ ⊢
  obtain ⟨hq0, hy0⟩ := hpre
  obtain ⟨q, hq, rfl⟩ := vp_in_of hq0 (by omega)
  have eq : (nI q).toNatClampNeg = q := nI_clamp (by omega)
  rw [eq] at hQ
  have key := for_up (P := fun k => G 16 [(5, vI (nI k)), (4, vI (slp (mayB (hp.1 53) q) (fun w => hp.1 53 (19 + bsd q w)) (hp.1 53 (19 + q)) k).2), (3, vI (slp (mayB (hp.1 53) q) (fun w => hp.1 53 (19 + bsd q w)) (hp.1 53 (19 + q)) k).1), (0, vR 5 52), (1, vI (nI q)), (2, vI y)] [] hp) 4 (by
    refine run hG [16] 60 ?_
    refine And.intro (fun h1 => ?_) (fun h1 => absurd (nI_le (Nat.le_refl _) (by omega)) h1)
    unfold slpV at hQ
    refine And.intro (fun h2 => ?_) (fun h2 => ?_)
    · have h2 : 0 ≤ slpC (hp.1 53) q := h2
      rw [if_pos h2] at hQ
      exact hQ
    · have h2 : ¬ 0 ≤ slpC (hp.1 53) q := h2
      rw [if_neg h2] at hQ
      refine And.intro ⟨hq0, hy0⟩ ?_
      rw [← eq] at hQ
      exact hQ) (by
    intro k hk ih
    generalize hp0 : slp (mayB (hp.1 53) q) (fun w => hp.1 53 (19 + bsd q w)) (hp.1 53 (19 + q)) k = p
    have ip : slp (mayB (hp.1 53) q) (fun w => hp.1 53 (19 + bsd q w)) (hp.1 53 (19 + q)) (k + 1) = slpG (mayB (hp.1 53) q) (fun w => hp.1 53 (19 + bsd q w)) k p := by rw [← hp0]; rfl
    rw [ip] at ih
    have ek : (nI k).toNatClampNeg = k := nI_clamp (by omega)
    refine run hG [16] 60 ?_
    refine And.intro (fun h1 => absurd h1 (nI_ge hk (by omega))) (fun h1 => ?_)
    refine And.intro ⟨hq0, vp_in_nI (by omega) (by omega)⟩ ?_
    refine And.intro (fun h2 => ?_) (fun h2 => ?_)
    · have h2 : mayB (hp.1 53) (nI q).toNatClampNeg (nI k).toNatClampNeg = false := bB_0.mp h2
      rw [eq, ek] at h2
      have e : slpG (mayB (hp.1 53) q) (fun w => hp.1 53 (19 + bsd q w)) k p = p := by unfold slpG; rw [if_neg (by rw [h2]; simp)]
      rw [e] at ih
      refine cl_lv hG [(5, vI (nI k + nI 1)), (4, vI p.2), (3, vI p.1), (0, vR 5 52), (1, vI (nI q)), (2, vI y)] ⟨rfl, rfl, rfl, rfl, rfl, rfl, trivial⟩ ?_
      rw [nI_s]
      exact ih
    · have h2 : mayB (hp.1 53) (nI q).toNatClampNeg (nI k).toNatClampNeg = true := bB_1.mp h2
      rw [eq, ek] at h2
      have hb := may_bsd h2
      have hb25 : bsd q k < 25 := by rcases bsd_lt q hq k hk with h | h <;> omega
      have ei : nI 19 + bsV (nI q).toNatClampNeg (nI k).toNatClampNeg = nI (19 + bsd q k) := by rw [eq, ek, bsV_may hb, nI_add]
      have hin : vp_in (nI 19 + bsV (nI q).toNatClampNeg (nI k).toNatClampNeg) 184 := by rw [ei]; exact vp_in_nI (by omega) (by omega)
      have er : hp.1 53 (nI 19 + bsV (nI q).toNatClampNeg (nI k).toNatClampNeg).toNatClampNeg = hp.1 53 (19 + bsd q k) := by rw [ei, nI_clamp (by omega)]
      refine And.intro ⟨hq0, vp_in_nI (by omega) (by omega)⟩ ?_
      refine And.intro hin ?_
      refine And.intro (fun h3 => ?_) (fun h3 => ?_)
      · have h3 : p.2 ≤ hp.1 53 (nI 19 + bsV (nI q).toNatClampNeg (nI k).toNatClampNeg).toNatClampNeg := h3
        rw [er] at h3
        have e : slpG (mayB (hp.1 53) q) (fun w => hp.1 53 (19 + bsd q w)) k p = p := by unfold slpG; rw [if_neg (fun h => h.2 h3)]
        rw [e] at ih
        refine cl_lv hG [(5, vI (nI k + nI 1)), (4, vI p.2), (3, vI p.1), (0, vR 5 52), (1, vI (nI q)), (2, vI y)] ⟨rfl, rfl, rfl, rfl, rfl, rfl, trivial⟩ ?_
        rw [nI_s]
        exact ih
      · have h3 : ¬ p.2 ≤ hp.1 53 (nI 19 + bsV (nI q).toNatClampNeg (nI k).toNatClampNeg).toNatClampNeg := h3
        rw [er] at h3
        have e : slpG (mayB (hp.1 53) q) (fun w => hp.1 53 (19 + bsd q w)) k p = (nI k, hp.1 53 (19 + bsd q k)) := by unfold slpG; rw [if_pos ⟨h2, h3⟩]
        rw [e] at ih
        refine And.intro ⟨hq0, vp_in_nI (by omega) (by omega)⟩ ?_
        refine And.intro hin ?_
        refine cl_lv hG [(5, vI (nI k + nI 1)), (4, vI (hp.1 53 (nI 19 + bsV (nI q).toNatClampNeg (nI k).toNatClampNeg).toNatClampNeg)), (3, vI (nI k)), (0, vR 5 52), (1, vI (nI q)), (2, vI y)] ⟨rfl, rfl, rfl, rfl, rfl, rfl, trivial⟩ ?_
        rw [nI_s, er]
        exact ih) 0 (by omega)
  refine run hG [16] 60 ?_
  have ei : nI 19 + nI q = nI (19 + q) := nI_add _ _
  refine And.intro (show vp_in (nI 19 + nI q) 184 by rw [ei]; exact vp_in_nI (by omega) (by omega)) ?_
  refine cl_lv hG [(5, vI (nI 0)), (4, vI (hp.1 53 (nI 19 + nI q).toNatClampNeg)), (3, vI (-1)), (0, vR 5 52), (1, vI (nI q)), (2, vI y)] ⟨rfl, rfl, rfl, rfl, rfl, rfl, trivial⟩ ?_
  rw [ei, nI_clamp (by omega)]
  exact key
theorem sc_X5_slopeStep {own : String} {F L idx : Nat} (h1 : Cond.methodLink own idx yX5_slopeStep ∈ Gw) (hF : 4 ≤ F) (hL : 93 ≤ L) : SC own F L (idx, false, 3, sp_X5_slopeStep) := SC_V spP_mono c_X5_slopeStep okd_5 (fun as hp K h => by obtain ⟨x, hx, -⟩ := spP_e h; exact ⟨_, _, d_M_II_e hx⟩) h1 gw_1007 gw_33 gw_75 gw_1008 (by decide +kernel) hF hL
def onesG (s : Int32) (k : Nat) (n : Int32) : Int32 := n + (s >>> (nI k &&& 31) &&& nI 1)
def onesV (s : Int32) : Int32 := fold (onesG s) (nI 0) 12
def sp_X5_ones : SP := spP d_S_I (fun _ _ => True) (fun x _ => vI (onesV x))
def E_X5_ones : EN := []
set_option maxRecDepth 100000 in
set_option maxHeartbeats 4000000 in
theorem c_X5_ones : Ctr M_X5_ones sp_X5_ones := by
  refine ctr_of (own := RX5) M_X5_ones sp_X5_ones (P := P_X5_ones) (K := K_X5) (E := E_X5_ones) (by decide) rfl pk_X5_ones K_X5_ok (fun _ h => absurd h List.not_mem_nil) (fun as hp Q h => by obtain ⟨x, hx, -⟩ := spP_e h; rw [d_S_I_e hx]; exact Nat.le_of_ble_eq_true rfl) ?_
  intro Q G hQi hG as hp h
  obtain ⟨x, hx, hpre, hQ⟩ := spP_e h
  rw [d_S_I_e hx]
  clear h hx
  have key := for_up (P := fun k => G 4 [(2, vI (nI k)), (1, vI (fold (onesG x) (nI 0) k)), (0, vI x)] [] hp) 12 (by
    refine run hG [4] 60 ?_
    exact And.intro (fun h1 => hQ) (fun h1 => absurd (nI_le (Nat.le_refl _) (by omega)) h1)) (by
    intro k hk ih
    refine run hG [4] 60 ?_
    refine And.intro (fun h1 => absurd h1 (nI_ge hk (by omega))) (fun h1 => ?_)
    refine cl_lv hG [(2, vI (nI k + nI 1)), (1, vI (onesG x k (fold (onesG x) (nI 0) k))), (0, vI x)] ⟨rfl, rfl, rfl, trivial⟩ ?_
    rw [nI_s]
    exact ih) 0 (by omega)
  refine run hG [4] 60 ?_
  exact cl_use hG key ⟨rfl, rfl, rfl, trivial⟩
theorem sc_X5_ones {own : String} {F L idx : Nat} (h1 : Cond.methodLink own idx yX5_ones ∈ Gw) (hF : 1 ≤ F) (hL : 22 ≤ L) : SC own F L (idx, true, 1, sp_X5_ones) := SC_S spP_mono c_X5_ones h1 gw_1023 gw_75 gw_1024 (by decide +kernel) hF hL
