/-! steps -/
theorem tur_f (f : Nat → Int32) (q : Nat) : turB f q false = mayB f q := by
  funext w
  unfold turB
  rw [Bool.not_false, Bool.true_or, Bool.and_true]
theorem trn_cg {c d : Nat → Bool} {y : Nat} (h : ∀ j, j < 4 → c j = d j) : trnV c y = trnV d y := by
  unfold trnV
  refine ff_congr (fun j _ _ => ?_)
  unfold wayB
  rw [h _ (Nat.mod_lt _ (by omega))]
theorem ws_bI (c : Nat → Bool) {j : Nat} (h : j < 4) : bI (waysC c) j = if c j = true then nI 1 else nI 0 := ws_bit c h
theorem trn_ws (c : Nat → Bool) (y : Nat) : trnV (fun j => decide (bI (waysC c) j = nI 1)) y = trnV c y := by
  refine trn_cg (fun j hj => ?_)
  show decide (bI (waysC c) j = nI 1) = c j
  rw [ws_bI c hj]
  cases c j <;> decide
theorem trn_dec : ∀ y, y < 4 → ∀ b0 b1 b2 b3 : Bool, (0 ≤ trnV (fun w => if w = 0 then b0 else if w = 1 then b1 else if w = 2 then b2 else b3) y) ↔ ¬ waysC (fun w => if w = 0 then b0 else if w = 1 then b1 else if w = 2 then b2 else b3) = 0 := by decide +kernel
theorem four (c : Nat → Bool) : ∀ j, j < 4 → c j = (fun w => if w = 0 then c 0 else if w = 1 then c 1 else if w = 2 then c 2 else c 3) j := by
  intro j hj
  rcases (show j = 0 ∨ j = 1 ∨ j = 2 ∨ j = 3 by omega) with rfl | rfl | rfl | rfl <;> rfl
theorem trn_ge (c : Nat → Bool) {y : Nat} (hy : y < 4) : (0 ≤ trnV c y) ↔ ¬ waysC c = 0 := by
  rw [trn_cg (four c), waysC_congr (four c)]
  exact trn_dec y hy _ _ _ _
theorem sb_may {q w : Nat} (h : bsd q w ≠ 99) : sbV q w = nI (bsd q w) := if_neg h
def sp_X3_slopeStep : SP := spP d_W_KI (fun x hp => vp_in (hp.1 x.2.1 2) 25 ∧ vp_in (hp.1 x.2.1 3) 4 ∧ x.2.2 = waysC (mayB (rw_ hp x.1) (hp.1 x.2.1 2).toNatClampNeg)) (fun x hp => vI (slpV (rw_ hp x.1) (hp.1 x.2.1 2).toNatClampNeg (hp.1 x.2.1 3).toNatClampNeg))
def E_X3_slopeStep : EN := [(86, true, 2, sp_X3_squareBeside), (130, true, 2, sp_X3_plainStep)]
set_option maxRecDepth 100000 in
set_option maxHeartbeats 4000000 in
theorem c_X3_slopeStep : Ctr M_X3_slopeStep sp_X3_slopeStep := by
  refine ctr_of (own := RX3) M_X3_slopeStep sp_X3_slopeStep (P := P_X3_slopeStep) (K := K_X3) (E := E_X3_slopeStep) (by decide) rfl pk_X3_slopeStep K_X3_ok (List.forall_mem_cons.mpr ⟨sc_X3_squareBeside gw_294 (by decide) (by decide), List.forall_mem_cons.mpr ⟨sc_X3_plainStep gw_433 (by decide) (by decide), fun _ h => absurd h List.not_mem_nil⟩⟩) (fun as hp Q h => by obtain ⟨x, hx, -⟩ := spP_e h; rw [d_W_KI_e hx]; exact Nat.le_of_ble_eq_true rfl) ?_
  intro Q G hQi hG as hp h
  obtain ⟨x, hx, hpre, hQ⟩ := spP_e h
  rw [d_W_KI_e hx]
  clear h hx
  obtain ⟨w, o, s⟩ := x
  try dsimp only at hpre hQ ⊢
  obtain ⟨hq0, hy0, hs⟩ := hpre
  have hs : s = waysC (mayB (rw_ hp w) (hp.1 o 2).toNatClampNeg) := hs
  obtain ⟨q, hq, eq⟩ := vp_in_of hq0 (by omega)
  have eqn : (hp.1 o 2).toNatClampNeg = q := by rw [eq, nI_clamp (by omega)]
  rw [eqn] at hQ hs
  have hbit := fun j (hj : j < 4) => ws_bI (mayB (rw_ hp w) q) hj
  rw [← hs] at hbit
  unfold slpV slpC at hQ
  have hh : ∀ j, j < 25 → rw_ hp w (19 + j) = hp.1 (w + 1) j := fun j hj => rw_ht hp w hj
  generalize rw_ hp w = f at hQ hs hbit hh
  have key := for_up (P := fun k => G 16 [(5, vI (nI k)), (4, vI (slp (mayB f q) (fun w => f (19 + bsd q w)) (f (19 + q)) k).2), (3, vI (slp (mayB f q) (fun w => f (19 + bsd q w)) (f (19 + q)) k).1), (0, vR 1 w), (1, vR 2 o), (2, vI s)] [] hp) 4 (by
    generalize slp (mayB f q) (fun w => f (19 + bsd q w)) (f (19 + q)) 4 = p at hQ
    refine run hG [16] 60 ?_
    refine And.intro (fun h1 => ?_) (fun h1 => absurd (nI_le (Nat.le_refl _) (by omega)) h1)
    refine And.intro (fun h2 => ?_) (fun h2 => ?_)
    · have h2 : p.1 < 0 := h2
      rw [if_neg (Int32.not_le.mpr h2), tur_f, ← trn_ws, ← hs] at hQ
      refine And.intro hy0 ?_
      exact hQ
    · have h2 : ¬ p.1 < 0 := h2
      rw [if_pos (Int32.not_lt.mp h2)] at hQ
      exact hQ) (by
    intro k hk ih
    have ih : G 16 [(5, vI (nI (k + 1))), (4, vI (slpG (mayB f q) (fun w => f (19 + bsd q w)) k (slp (mayB f q) (fun w => f (19 + bsd q w)) (f (19 + q)) k)).2), (3, vI (slpG (mayB f q) (fun w => f (19 + bsd q w)) k (slp (mayB f q) (fun w => f (19 + bsd q w)) (f (19 + q)) k)).1), (0, vR 1 w), (1, vR 2 o), (2, vI s)] [] hp := ih
    generalize slp (mayB f q) (fun w => f (19 + bsd q w)) (f (19 + q)) k = p at ih
    have ek : (nI k).toNatClampNeg = k := nI_clamp (by omega)
    have skip : ¬ (mayB f q k = true ∧ ¬ p.2 ≤ f (19 + bsd q k)) → G 16 [(5, vI (nI k + nI 1)), (4, vI p.2), (3, vI p.1), (0, vR 1 w), (1, vR 2 o), (2, vI s)] [] hp := fun h => by
      unfold slpG at ih
      rw [if_neg h] at ih
      rw [nI_s]
      exact ih
    refine run hG [16] 60 ?_
    refine And.intro (fun h1 => absurd h1 (nI_ge hk (by omega))) (fun h1 => ?_)
    refine And.intro (fun h2 => ?_) (fun h2 => ?_)
    · have h2 : bI s k = 0 := h2
      have hc : mayB f q k = false := by
        rw [hbit k hk] at h2
        cases h : mayB f q k with
        | false => rfl
        | true => rw [h] at h2; exact absurd h2 (by decide)
      refine And.intro (fun h3 => ?_) (fun h3 => absurd (by decide) h3)
      exact cl_use hG (skip (fun h => by rw [hc] at h; exact absurd h.1 (by decide))) ⟨rfl, rfl, rfl, rfl, rfl, rfl, trivial⟩
    · have h2 : ¬ bI s k = 0 := h2
      have hc : mayB f q k = true := by
        rw [hbit k hk] at h2
        cases h : mayB f q k with
        | true => rfl
        | false => rw [h] at h2; exact absurd (by decide) h2
      have hb := may_bsd hc
      have hb25 : bsd q k < 25 := by rcases bsd_lt q hq k hk with h | h <;> omega
      have ev : sbV (hp.1 o 2).toNatClampNeg (nI k).toNatClampNeg = nI (bsd q k) := by rw [eqn, ek, sb_may hb]
      have hin : vp_in (sbV (hp.1 o 2).toNatClampNeg (nI k).toNatClampNeg) 25 := by rw [ev]; exact vp_in_nI hb25 (by omega)
      have eh : hp.1 (w + 1) (sbV (hp.1 o 2).toNatClampNeg (nI k).toNatClampNeg).toNatClampNeg = f (19 + bsd q k) := by rw [ev, nI_clamp (by omega), hh _ hb25]
      refine And.intro ⟨hq0, vp_in_nI (by omega) (by omega)⟩ ?_
      refine And.intro (fun h3 => ?_) (fun h3 => ?_)
      · have h3 : sbV (hp.1 o 2).toNatClampNeg (nI k).toNatClampNeg < 0 := h3
        rw [ev] at h3
        exact absurd h3 (nI_pos (by omega))
      refine And.intro hin ?_
      refine And.intro (fun h4 => ?_) (fun h4 => ?_)
      · have h4 : p.2 ≤ hp.1 (w + 1) (sbV (hp.1 o 2).toNatClampNeg (nI k).toNatClampNeg).toNatClampNeg := h4
        rw [eh] at h4
        exact cl_use hG (skip (fun h => h.2 h4)) ⟨rfl, rfl, rfl, rfl, rfl, rfl, trivial⟩
      · have h4 : ¬ p.2 ≤ hp.1 (w + 1) (sbV (hp.1 o 2).toNatClampNeg (nI k).toNatClampNeg).toNatClampNeg := h4
        rw [eh] at h4
        refine And.intro hin ?_
        unfold slpG at ih
        rw [if_pos ⟨hc, h4⟩] at ih
        refine cl_lv hG [(5, vI (nI k + nI 1)), (4, vI (hp.1 (w + 1) (sbV (hp.1 o 2).toNatClampNeg (nI k).toNatClampNeg).toNatClampNeg)), (3, vI (nI k)), (0, vR 1 w), (1, vR 2 o), (2, vI s)] ⟨rfl, rfl, rfl, rfl, rfl, rfl, trivial⟩ ?_
        rw [nI_s, eh]
        exact ih) 0 (by omega)
  have k7 : G 16 [(5, vI (nI 0)), (4, vI (f (19 + q))), (3, vI (-1)), (0, vR 1 w), (1, vR 2 o), (2, vI s)] [] hp := key
  refine run hG [16] 60 ?_
  refine And.intro hq0 ?_
  refine cl_lv hG [(5, vI (nI 0)), (4, vI (hp.1 (w + 1) (hp.1 o 2).toNatClampNeg)), (3, vI (-1)), (0, vR 1 w), (1, vR 2 o), (2, vI s)] ⟨rfl, rfl, rfl, rfl, rfl, rfl, trivial⟩ ?_
  rw [eqn, ← hh q hq]
  exact k7
theorem sc_X3_slopeStep {own : String} {F L idx : Nat} (h1 : Cond.methodLink own idx yX3_slopeStep ∈ Gw) (hF : 2 ≤ F) (hL : 49 ≤ L) : SC own F L (idx, false, 3, sp_X3_slopeStep) := SC_V spP_mono c_X3_slopeStep okd_1 (fun as hp K h => by obtain ⟨x, hx, -⟩ := spP_e h; exact ⟨_, _, d_W_KI_e hx⟩) h1 gw_430 gw_431 gw_70 gw_432 (by decide +kernel) hF hL
def sp_X3_lampStep : SP := spP d_W_KI (fun x hp => vp_in (hp.1 x.2.1 2) 25 ∧ vp_in (hp.1 x.2.1 3) 4 ∧ x.2.2 = waysC (mayB (rw_ hp x.1) (hp.1 x.2.1 2).toNatClampNeg)) (fun x hp => vI (lmpV (rw_ hp x.1) (hp.1 x.2.1 2).toNatClampNeg (hp.1 x.2.1 3).toNatClampNeg))
def E_X3_lampStep : EN := [(86, true, 2, sp_X3_squareBeside), (94, false, 2, sp_X3_hasLamp), (130, true, 2, sp_X3_plainStep)]
set_option maxRecDepth 100000 in
set_option maxHeartbeats 4000000 in
theorem c_X3_lampStep : Ctr M_X3_lampStep sp_X3_lampStep := by
  refine ctr_of (own := RX3) M_X3_lampStep sp_X3_lampStep (P := P_X3_lampStep) (K := K_X3) (E := E_X3_lampStep) (by decide) rfl pk_X3_lampStep K_X3_ok (List.forall_mem_cons.mpr ⟨sc_X3_squareBeside gw_294 (by decide) (by decide), List.forall_mem_cons.mpr ⟨sc_X3_hasLamp gw_329 (by decide) (by decide), List.forall_mem_cons.mpr ⟨sc_X3_plainStep gw_433 (by decide) (by decide), fun _ h => absurd h List.not_mem_nil⟩⟩⟩) (fun as hp Q h => by obtain ⟨x, hx, -⟩ := spP_e h; rw [d_W_KI_e hx]; exact Nat.le_of_ble_eq_true rfl) ?_
  intro Q G hQi hG as hp h
  obtain ⟨x, hx, hpre, hQ⟩ := spP_e h
  rw [d_W_KI_e hx]
  clear h hx
  obtain ⟨w, o, s⟩ := x
  try dsimp only at hpre hQ ⊢
  obtain ⟨hq0, hy0, hs⟩ := hpre
  have hs : s = waysC (mayB (rw_ hp w) (hp.1 o 2).toNatClampNeg) := hs
  obtain ⟨q, hq, eq⟩ := vp_in_of hq0 (by omega)
  have eqn : (hp.1 o 2).toNatClampNeg = q := by rw [eq, nI_clamp (by omega)]
  rw [eqn] at hQ hs
  have hbit := fun j (hj : j < 4) => ws_bI (mayB (rw_ hp w) q) hj
  rw [← hs] at hbit
  unfold lmpV at hQ
  have hh : ∀ j, j < 25 → rw_ hp w (44 + j) = bI (hp.1 w 2) j := fun j hj => rw_lm hp w hj
  generalize rw_ hp w = f at hQ hs hbit hh
  have hy4 := ix_lt hy0
  have key := for_up (P := fun k => G 5 [(4, vI (nI k)), (3, vI (fold (waysG (turB f q true)) (nI 0) k)), (0, vR 1 w), (1, vR 2 o), (2, vI s)] [] hp) 4 (by
    have htg := trn_ge (turB f q true) hy4
    have hws := trn_ws (turB f q true) (hp.1 o 3).toNatClampNeg
    have hwm := trn_ws (mayB f q) (hp.1 o 3).toNatClampNeg
    have e4 : fold (waysG (turB f q true)) (nI 0) 4 = waysC (turB f q true) := rfl
    rw [e4]
    generalize waysC (turB f q true) = l at htg hws
    rw [← hs] at hwm
    refine run hG [5] 60 ?_
    refine And.intro (fun h1 => ?_) (fun h1 => absurd (nI_le (Nat.le_refl _) (by omega)) h1)
    refine And.intro (fun h2 => ?_) (fun h2 => ?_)
    · have h2 : l = 0 := h2
      rw [if_neg (fun h => (htg.mp h) h2), tur_f, ← hwm] at hQ
      exact And.intro hy0 hQ
    · have h2 : ¬ l = 0 := h2
      rw [if_pos (htg.mpr h2), ← hws] at hQ
      exact And.intro hy0 hQ) (by
    intro k hk ih
    have ih : G 5 [(4, vI (nI (k + 1))), (3, vI (fold (waysG (turB f q true)) (nI 0) k ||| (if turB f q true k = true then nI 1 <<< (nI k &&& 31) else nI 0))), (0, vR 1 w), (1, vR 2 o), (2, vI s)] [] hp := ih
    generalize fold (waysG (turB f q true)) (nI 0) k = l at ih
    have ek : (nI k).toNatClampNeg = k := nI_clamp (by omega)
    have skip : turB f q true k = false → G 5 [(4, vI (nI k + nI 1)), (3, vI l), (0, vR 1 w), (1, vR 2 o), (2, vI s)] [] hp := fun h => by
      rw [h, if_neg (by decide), or_0] at ih
      rw [nI_s]
      exact ih
    refine run hG [5] 60 ?_
    refine And.intro (fun h1 => absurd h1 (nI_ge hk (by omega))) (fun h1 => ?_)
    refine And.intro (fun h2 => ?_) (fun h2 => ?_)
    · have h2 : bI s k = 0 := h2
      have hc : mayB f q k = false := by
        rw [hbit k hk] at h2
        cases h : mayB f q k with
        | false => rfl
        | true => rw [h] at h2; exact absurd h2 (by decide)
      refine And.intro (fun h3 => ?_) (fun h3 => absurd (by decide) h3)
      exact cl_use hG (skip (by unfold turB; rw [hc]; rfl)) ⟨rfl, rfl, rfl, rfl, rfl, trivial⟩
    · have h2 : ¬ bI s k = 0 := h2
      have hc : mayB f q k = true := by
        rw [hbit k hk] at h2
        cases h : mayB f q k with
        | true => rfl
        | false => rw [h] at h2; exact absurd (by decide) h2
      have hb := may_bsd hc
      have hb25 : bsd q k < 25 := by rcases bsd_lt q hq k hk with h | h <;> omega
      have ev : sbV (hp.1 o 2).toNatClampNeg (nI k).toNatClampNeg = nI (bsd q k) := by rw [eqn, ek, sb_may hb]
      have hin : vp_in (sbV (hp.1 o 2).toNatClampNeg (nI k).toNatClampNeg) 25 := by rw [ev]; exact vp_in_nI hb25 (by omega)
      have eh : bI (hp.1 w 2) (sbV (hp.1 o 2).toNatClampNeg (nI k).toNatClampNeg).toNatClampNeg = f (44 + bsd q k) := by rw [ev, nI_clamp (by omega), hh _ hb25]
      have h01 := bI_01 (hp.1 w 2) (d := bsd q k) (by omega)
      rw [← hh _ hb25] at h01
      refine And.intro ⟨hq0, vp_in_nI (by omega) (by omega)⟩ ?_
      refine And.intro (fun h3 => ?_) (fun h3 => ?_)
      · have h3 : sbV (hp.1 o 2).toNatClampNeg (nI k).toNatClampNeg < 0 := h3
        rw [ev] at h3
        exact absurd h3 (nI_pos (by omega))
      refine And.intro hin ?_
      refine And.intro (fun h4 => ?_) (fun h4 => ?_)
      · have h4 : bI (hp.1 w 2) (sbV (hp.1 o 2).toNatClampNeg (nI k).toNatClampNeg).toNatClampNeg = 0 := h4
        rw [eh] at h4
        refine cl_use hG (skip ?_) ⟨rfl, rfl, rfl, rfl, rfl, trivial⟩
        unfold turB
        rw [hc, h4]
        rfl
      · have h4 : ¬ bI (hp.1 w 2) (sbV (hp.1 o 2).toNatClampNeg (nI k).toNatClampNeg).toNatClampNeg = 0 := h4
        rw [eh] at h4
        have h5 := h01.resolve_left h4
        have ht : turB f q true k = true := by
          unfold turB
          rw [hc, h5]
          rfl
        rw [ht, if_pos rfl] at ih
        refine cl_lv hG [(4, vI (nI k + nI 1)), (3, vI (l ||| nI 1 <<< (nI k &&& 31))), (0, vR 1 w), (1, vR 2 o), (2, vI s)] ⟨rfl, rfl, rfl, rfl, rfl, trivial⟩ ?_
        rw [nI_s]
        exact ih) 0 (by omega)
  refine run hG [5] 60 ?_
  exact cl_use hG key ⟨rfl, rfl, rfl, rfl, rfl, trivial⟩
theorem sc_X3_lampStep {own : String} {F L idx : Nat} (h1 : Cond.methodLink own idx yX3_lampStep ∈ Gw) (hF : 2 ≤ F) (hL : 48 ≤ L) : SC own F L (idx, false, 3, sp_X3_lampStep) := SC_V spP_mono c_X3_lampStep okd_1 (fun as hp K h => by obtain ⟨x, hx, -⟩ := spP_e h; exact ⟨_, _, d_W_KI_e hx⟩) h1 gw_437 gw_438 gw_70 gw_439 (by decide +kernel) hF hL
