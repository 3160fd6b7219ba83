theorem may_99 {f : Nat → Int32} {q j : Nat} (h : bsd q j = 99) : mayB f q j = false := by
  unfold mayB
  rw [h]
  rfl
theorem may_dr {f : Nat → Int32} {q j : Nat} (h : bsd q j ≠ 99) : mayB f q j = decide (f (dr q j) = 0) := by
  unfold mayB
  have : (bsd q j == 99) = false := by
    cases hb : (bsd q j == 99) with
    | false => rfl
    | true => exact absurd (of_decide_eq_true hb) h
  rw [this]
  rfl
theorem or_0 (x : Int32) : x ||| nI 0 = x := by
  apply Int32.toBitVec_inj.mp
  rw [Int32.toBitVec_or]
  exact BitVec.or_zero
def sp_X3_waysFrom : SP := spP d_W_I (fun x _ => vp_in x.2 25) (fun x hp => vI (waysC (mayB (rw_ hp x.1) x.2.toNatClampNeg)))
def E_X3_waysFrom : EN := [(89, false, 2, sp_X3_isShut)]
set_option maxRecDepth 100000 in
set_option maxHeartbeats 4000000 in
theorem c_X3_waysFrom : Ctr M_X3_waysFrom sp_X3_waysFrom := by
  refine ctr_of (own := RX3) M_X3_waysFrom sp_X3_waysFrom (P := P_X3_waysFrom) (K := K_X3) (E := E_X3_waysFrom) (by decide) rfl pk_X3_waysFrom K_X3_ok (List.forall_mem_cons.mpr ⟨sc_X3_isShut gw_306 (by decide) (by decide), fun _ h => absurd h List.not_mem_nil⟩) (fun as hp Q h => by obtain ⟨x, hx, -⟩ := spP_e h; rw [d_W_I_e hx]; exact Nat.le_of_ble_eq_true rfl) ?_
  intro Q G hQi hG as hp h
  obtain ⟨x, hx, hpre, hQ⟩ := spP_e h
  rw [d_W_I_e hx]
  clear h hx
  obtain ⟨w, q⟩ := x
  try dsimp only at hpre hQ ⊢
  obtain ⟨q, hq, rfl⟩ := vp_in_of hpre (by omega)
  rw [nI_clamp (by omega)] at hQ
  unfold waysC at hQ
  have er : nI q - nI q / nI 5 * nI 5 = nI (q % 5) := nI_rem (by omega) (by omega) (by omega)
  have hc : ∀ j, fold (waysG (mayB (rw_ hp w) q)) (nI 0) (j + 1) = fold (waysG (mayB (rw_ hp w) q)) (nI 0) j ||| (if mayB (rw_ hp w) q j = true then nI 1 <<< (nI j &&& 31) else nI 0) := fun j => rfl
  have k91 : G 91 [(2, vI (fold (waysG (mayB (rw_ hp w) q)) (nI 0) 4)), (0, vR 1 w), (1, vI (nI q))] [] hp := by
    refine run hG [] 60 ?_
    exact hQ
  have k68 : G 68 [(2, vI (fold (waysG (mayB (rw_ hp w) q)) (nI 0) 3)), (0, vR 1 w), (1, vI (nI q))] [] hp := by
    have hcj := hc 3
    generalize fold (waysG (mayB (rw_ hp w) q)) (nI 0) 3 = s at hcj
    have skip : mayB (rw_ hp w) q 3 = false → G 91 [(2, vI s), (0, vR 1 w), (1, vI (nI q))] [] hp := fun h => by
      rw [h, if_neg (by decide), or_0] at hcj
      rw [hcj] at k91
      exact k91
    refine run hG [91] 60 ?_
    refine And.intro (by decide) ?_
    refine And.intro (fun h1 => ?_) (fun h1 => ?_)
    · have h1 : nI q - nI q / nI 5 * nI 5 ≤ nI 0 := h1
      rw [er, nI_leI (by omega) (by omega)] at h1
      exact cl_use hG (skip (may_99 (show bsd q 3 = 99 from if_pos (by omega)))) ⟨rfl, rfl, rfl, trivial⟩
    · have h1 : ¬ nI q - nI q / nI 5 * nI 5 ≤ nI 0 := h1
      rw [er, nI_leI (by omega) (by omega)] at h1
      have hb : bsd q 3 ≠ 99 := by
        have : bsd q 3 = q - 1 := if_neg (by omega)
        omega
      have ed : nI 2 * (nI q - nI 1) = nI (2 * (q - 1)) := by rw [pk_sub (by omega), pk_mul]
      have edr : rw_ hp w (dr q 3) = bJ (hp.2 w 0) (2 * (q - 1)) := by
        have := rw_dr hp w (d := 2 * (q - 1)) (by omega)
        rw [← this]
        congr 1
        show 94 + q - 1 = _
        unfold drI
        rw [if_pos (by omega)]
        omega
      have hin : vp_in (nI 2 * (nI q - nI 1)) 50 := by rw [ed]; exact vp_in_nI (by omega) (by omega)
      have ev : bJ (hp.2 w 0) (nI 2 * (nI q - nI 1)).toNatClampNeg = rw_ hp w (dr q 3) := by rw [ed, nI_clamp (by omega), edr]
      refine And.intro hin ?_
      refine And.intro (fun h2 => ?_) (fun h2 => ?_)
      · have h2 : ¬ bJ (hp.2 w 0) (nI 2 * (nI q - nI 1)).toNatClampNeg = 0 := h2
        rw [ev] at h2
        refine cl_use hG (skip ?_) ⟨rfl, rfl, rfl, trivial⟩
        rw [may_dr hb, decide_eq_false h2]
      · have h2 : bJ (hp.2 w 0) (nI 2 * (nI q - nI 1)).toNatClampNeg = 0 := h2
        rw [ev] at h2
        rw [may_dr hb, decide_eq_true h2, if_pos rfl, show nI 1 <<< (nI 3 &&& 31) = nI 8 by decide] at hcj
        rw [hcj] at k91
        exact cl_use hG k91 ⟨rfl, rfl, rfl, trivial⟩
  have k46 : G 46 [(2, vI (fold (waysG (mayB (rw_ hp w) q)) (nI 0) 2)), (0, vR 1 w), (1, vI (nI q))] [] hp := by
    have hcj := hc 2
    generalize fold (waysG (mayB (rw_ hp w) q)) (nI 0) 2 = s at hcj
    have skip : mayB (rw_ hp w) q 2 = false → G 68 [(2, vI s), (0, vR 1 w), (1, vI (nI q))] [] hp := fun h => by
      rw [h, if_neg (by decide), or_0] at hcj
      rw [hcj] at k68
      exact k68
    refine run hG [68] 60 ?_
    refine And.intro (fun h1 => ?_) (fun h1 => ?_)
    · have h1 : nI 20 ≤ nI q := h1
      rw [nI_leI (by omega) (by omega)] at h1
      exact cl_use hG (skip (may_99 (show bsd q 2 = 99 from if_pos (by omega)))) ⟨rfl, rfl, rfl, trivial⟩
    · have h1 : ¬ nI 20 ≤ nI q := h1
      rw [nI_leI (by omega) (by omega)] at h1
      have hb : bsd q 2 ≠ 99 := by
        have : bsd q 2 = q + 5 := if_neg (by omega)
        omega
      have ed : nI 2 * nI q + nI 1 = nI (2 * q + 1) := by rw [pk_mul, nI_add]
      have edr : rw_ hp w (dr q 2) = bJ (hp.2 w 0) (2 * q + 1) := by
        have := rw_dr hp w (d := 2 * q + 1) (by omega)
        rw [← this]
        congr 1
        show 119 + q = _
        unfold drI
        rw [if_neg (by omega)]
        omega
      have hin : vp_in (nI 2 * nI q + nI 1) 50 := by rw [ed]; exact vp_in_nI (by omega) (by omega)
      have ev : bJ (hp.2 w 0) (nI 2 * nI q + nI 1).toNatClampNeg = rw_ hp w (dr q 2) := by rw [ed, nI_clamp (by omega), edr]
      refine And.intro hin ?_
      refine And.intro (fun h2 => ?_) (fun h2 => ?_)
      · have h2 : ¬ bJ (hp.2 w 0) (nI 2 * nI q + nI 1).toNatClampNeg = 0 := h2
        rw [ev] at h2
        refine cl_use hG (skip ?_) ⟨rfl, rfl, rfl, trivial⟩
        rw [may_dr hb, decide_eq_false h2]
      · have h2 : bJ (hp.2 w 0) (nI 2 * nI q + nI 1).toNatClampNeg = 0 := h2
        rw [ev] at h2
        rw [may_dr hb, decide_eq_true h2, if_pos rfl, show nI 1 <<< (nI 2 &&& 31) = nI 4 by decide] at hcj
        rw [hcj] at k68
        exact cl_use hG k68 ⟨rfl, rfl, rfl, trivial⟩
  have k25 : G 25 [(2, vI (fold (waysG (mayB (rw_ hp w) q)) (nI 0) 1)), (0, vR 1 w), (1, vI (nI q))] [] hp := by
    have hcj := hc 1
    generalize fold (waysG (mayB (rw_ hp w) q)) (nI 0) 1 = s at hcj
    have skip : mayB (rw_ hp w) q 1 = false → G 46 [(2, vI s), (0, vR 1 w), (1, vI (nI q))] [] hp := fun h => by
      rw [h, if_neg (by decide), or_0] at hcj
      rw [hcj] at k46
      exact k46
    refine run hG [46] 60 ?_
    refine And.intro (by decide) ?_
    refine And.intro (fun h1 => ?_) (fun h1 => ?_)
    · have h1 : nI 4 ≤ nI q - nI q / nI 5 * nI 5 := h1
      rw [er, nI_leI (by omega) (by omega)] at h1
      exact cl_use hG (skip (may_99 (show bsd q 1 = 99 from if_pos (by omega)))) ⟨rfl, rfl, rfl, trivial⟩
    · have h1 : ¬ nI 4 ≤ nI q - nI q / nI 5 * nI 5 := h1
      rw [er, nI_leI (by omega) (by omega)] at h1
      have hb : bsd q 1 ≠ 99 := by
        have : bsd q 1 = q + 1 := if_neg (by omega)
        omega
      have ed : nI 2 * nI q = nI (2 * q) := by rw [pk_mul]
      have edr : rw_ hp w (dr q 1) = bJ (hp.2 w 0) (2 * q) := by
        have := rw_dr hp w (d := 2 * q) (by omega)
        rw [← this]
        congr 1
        show 94 + q = _
        unfold drI
        rw [if_pos (by omega)]
        omega
      have hin : vp_in (nI 2 * nI q) 50 := by rw [ed]; exact vp_in_nI (by omega) (by omega)
      have ev : bJ (hp.2 w 0) (nI 2 * nI q).toNatClampNeg = rw_ hp w (dr q 1) := by rw [ed, nI_clamp (by omega), edr]
      refine And.intro hin ?_
      refine And.intro (fun h2 => ?_) (fun h2 => ?_)
      · have h2 : ¬ bJ (hp.2 w 0) (nI 2 * nI q).toNatClampNeg = 0 := h2
        rw [ev] at h2
        refine cl_use hG (skip ?_) ⟨rfl, rfl, rfl, trivial⟩
        rw [may_dr hb, decide_eq_false h2]
      · have h2 : bJ (hp.2 w 0) (nI 2 * nI q).toNatClampNeg = 0 := h2
        rw [ev] at h2
        rw [may_dr hb, decide_eq_true h2, if_pos rfl, show nI 1 <<< (nI 1 &&& 31) = nI 2 by decide] at hcj
        rw [hcj] at k46
        exact cl_use hG k46 ⟨rfl, rfl, rfl, trivial⟩
  have k2 : G 2 [(2, vI (fold (waysG (mayB (rw_ hp w) q)) (nI 0) 0)), (0, vR 1 w), (1, vI (nI q))] [] hp := by
    have hcj := hc 0
    generalize fold (waysG (mayB (rw_ hp w) q)) (nI 0) 0 = s at hcj
    have skip : mayB (rw_ hp w) q 0 = false → G 25 [(2, vI s), (0, vR 1 w), (1, vI (nI q))] [] hp := fun h => by
      rw [h, if_neg (by decide), or_0] at hcj
      rw [hcj] at k25
      exact k25
    refine run hG [25] 60 ?_
    refine And.intro (fun h1 => ?_) (fun h1 => ?_)
    · have h1 : nI q < nI 5 := h1
      rw [nI_ltI (by omega) (by omega)] at h1
      exact cl_use hG (skip (may_99 (show bsd q 0 = 99 from if_neg (by omega)))) ⟨rfl, rfl, rfl, trivial⟩
    · have h1 : ¬ nI q < nI 5 := h1
      rw [nI_ltI (by omega) (by omega)] at h1
      have hb : bsd q 0 ≠ 99 := by
        have : bsd q 0 = q - 5 := if_pos (by omega)
        omega
      have ed : nI 2 * (nI q - nI 5) + nI 1 = nI (2 * (q - 5) + 1) := by rw [pk_sub (by omega), pk_mul, nI_add]
      have edr : rw_ hp w (dr q 0) = bJ (hp.2 w 0) (2 * (q - 5) + 1) := by
        have := rw_dr hp w (d := 2 * (q - 5) + 1) (by omega)
        rw [← this]
        congr 1
        show 119 + q - 5 = _
        unfold drI
        rw [if_neg (by omega)]
        omega
      have hin : vp_in (nI 2 * (nI q - nI 5) + nI 1) 50 := by rw [ed]; exact vp_in_nI (by omega) (by omega)
      have ev : bJ (hp.2 w 0) (nI 2 * (nI q - nI 5) + nI 1).toNatClampNeg = rw_ hp w (dr q 0) := by rw [ed, nI_clamp (by omega), edr]
      refine And.intro hin ?_
      refine And.intro (fun h2 => ?_) (fun h2 => ?_)
      · have h2 : ¬ bJ (hp.2 w 0) (nI 2 * (nI q - nI 5) + nI 1).toNatClampNeg = 0 := h2
        rw [ev] at h2
        refine cl_use hG (skip ?_) ⟨rfl, rfl, rfl, trivial⟩
        rw [may_dr hb, decide_eq_false h2]
      · have h2 : bJ (hp.2 w 0) (nI 2 * (nI q - nI 5) + nI 1).toNatClampNeg = 0 := h2
        rw [ev] at h2
        rw [may_dr hb, decide_eq_true h2, if_pos rfl, show nI 1 <<< (nI 0 &&& 31) = nI 1 by decide] at hcj
        rw [hcj] at k25
        exact cl_use hG k25 ⟨rfl, rfl, rfl, trivial⟩
  refine run hG [2] 60 ?_
  exact cl_use hG k2 ⟨rfl, rfl, rfl, trivial⟩
theorem sc_X3_waysFrom {own : String} {F L idx : Nat} (h1 : Cond.methodLink own idx yX3_waysFrom ∈ Gw) (hF : 2 ≤ F) (hL : 43 ≤ L) : SC own F L (idx, false, 2, sp_X3_waysFrom) := SC_V spP_mono c_X3_waysFrom okd_1 (fun as hp K h => by obtain ⟨x, hx, -⟩ := spP_e h; exact ⟨_, _, d_W_I_e hx⟩) h1 gw_395 gw_396 gw_70 gw_397 (by decide +kernel) hF hL
