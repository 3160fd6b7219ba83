/-! the odds of the class -/
theorem sp_ones (f : Nat → Int32) (q : Nat) : pop32 (spM f q) = onesV (spM f q) := by
  unfold spM
  split
  · decide
  · rw [pop_ws, ones_rc]
theorem rL_rI_row (hp : HP) (c : Nat) (g : Nat → Int64) (h : c < 1 ∨ 13 ≤ c) : rw_ (rL hp c g) 1 = rw_ hp 1 := rw_cg (fun d a b => ⟨rfl, rL_ne _ _ (by omega)⟩)
def sp_X4_spreadFrom : SP := spH d_C_I (fun x _ => vp_in x 25) (fun _ _ => none) (fun x hp => rL hp 50 (spW (rw_ hp 1) (hp.2 49) x.toNatClampNeg (spA (rw_ hp 1) (hp.2 49) x.toNatClampNeg (hp.2 50)) 4))
def E_X4_spreadFrom : EN := [(94, false, 2, sp_X3_isRiver), (152, false, 2, sp_X3_waysFrom), (209, true, 1, sp_J6_bitCount_0f7a4), (228, true, 2, sp_X3_squareBeside)]
set_option maxRecDepth 100000 in
set_option maxHeartbeats 4000000 in
theorem c_X4_spreadFrom : Ctr M_X4_spreadFrom sp_X4_spreadFrom := by
  refine ctr_of (own := RX4) M_X4_spreadFrom sp_X4_spreadFrom (P := P_X4_spreadFrom) (K := K_X4) (E := E_X4_spreadFrom) (by decide) rfl pk_X4_spreadFrom K_X4_ok (List.forall_mem_cons.mpr ⟨sc_X3_isRiver gw_346 (by decide) (by decide), List.forall_mem_cons.mpr ⟨sc_X3_waysFrom gw_394 (by decide) (by decide), List.forall_mem_cons.mpr ⟨sc_J6_bitCount_0f7a4 gw_544 (by decide) (by decide), List.forall_mem_cons.mpr ⟨sc_X3_squareBeside gw_538 (by decide) (by decide), fun _ h => absurd h List.not_mem_nil⟩⟩⟩⟩) (fun as hp Q h => by obtain ⟨x, hx, -⟩ := spH_e h; rw [d_C_I_e hx]; exact Nat.le_of_ble_eq_true rfl) ?_
  intro Q G hQi hG as hp h
  obtain ⟨x, hx, hpre, hQ⟩ := spH_e h
  rw [d_C_I_e hx]
  clear h hx
  obtain ⟨q, hq, rfl⟩ := vp_in_of hpre (by omega)
  have eq : (nI q).toNatClampNeg = q := nI_clamp (by omega)
  rw [eq] at hQ
  have eriv : rw_ hp 1 (69 + q) = bI (hp.1 1 3) q := rw_rv hp 1 hq
  have h01 := bI_01 (hp.1 1 3) (d := q) (by omega)
  have sp := sp_ones (rw_ hp 1) q
  have hbit : ∀ w, w < 4 → spM (rw_ hp 1) q >>> (nI w &&& 31) &&& nI 1 = nI 1 → mayB (rw_ hp 1) q w = true ∧ ¬ onesV (spM (rw_ hp 1) q) = 0 := fun w hw h => spM_bit hw h
  have rest : G 24 [(2, vI (spM (rw_ hp 1) q)), (1, vI (nI q)), (0, vR 0 0)] [] hp := by
    unfold spA at hQ
    generalize hM : spM (rw_ hp 1) q = M at hQ sp hbit
    by_cases hM0 : M = 0
    · rw [if_pos hM0] at hQ
      have eW : ∀ nx w, w ≤ 4 → spW (rw_ hp 1) (hp.2 49) q nx w = nx := by
        intro nx w
        induction w with
        | zero => exact fun _ => rfl
        | succ w ih =>
          intro hw
          show spB (rw_ hp 1) (hp.2 49) q w (spW (rw_ hp 1) (hp.2 49) q nx w) = nx
          rw [ih (by omega)]
          unfold spB
          rw [hM, hM0, if_neg]
          rcases (show w = 0 ∨ w = 1 ∨ w = 2 ∨ w = 3 by omega) with h | h | h | h <;> subst h <;> decide
      rw [eW _ 4 (Nat.le_refl _)] at hQ
      subst hM0
      refine run hG [] 60 ?_
      refine And.intro (fun h => absurd rfl h) (fun _ => ?_)
      refine And.intro (vp_in_nI hq (by omega)) ?_
      refine And.intro (vp_in_nI hq (by omega)) ?_
      refine And.intro (vp_in_nI hq (by omega)) ?_
      refine q_n hQ ?_
      show uL hp 50 (nI q).toNatClampNeg (hp.2 50 (nI q).toNatClampNeg + 12 * hp.2 49 (nI q).toNatClampNeg) = _
      rw [eq]
      rfl
    · rw [if_neg hM0, show vp_updL (hp.2 50) q (hp.2 50 q + lN 0) = hp.2 50 by
        funext j
        rw [upL_at]
        split
        · next h => rw [h]; exact Int64.add_zero _
        · rfl] at hQ
      have h1 : ¬ onesV M = 0 := by
        have hw := hM
        unfold spM at hw
        split at hw
        · exact absurd hw.symm hM0
        · rw [← hw, ones_rc]
          intro h
          have h4 : rc (mayB (rw_ hp 1) q) 4 0 ≤ 4 := by
            simp only [rc]
            repeat' split
            all_goals omega
          rw [show (0 : Int32) = nI 0 from rfl, nI_eq (by omega) (by omega)] at h
          have hz : waysC (mayB (rw_ hp 1) q) = nI 0 := by
            rw [waysC_nI]
            simp only [rc] at h
            unfold wsN
            generalize mayB (rw_ hp 1) q 0 = b0 at h ⊢
            generalize mayB (rw_ hp 1) q 1 = b1 at h ⊢
            generalize mayB (rw_ hp 1) q 2 = b2 at h ⊢
            generalize mayB (rw_ hp 1) q 3 = b3 at h ⊢
            revert h
            revert b0 b1 b2 b3
            decide
          exact hM0 (by rw [← hw, hz]; rfl)
      rw [← sp] at h1
      have key := for_up (P := fun w => G 67 [(5, vI (nI w)), (3, vL ((nI 12 / pop32 M).toInt64 * hp.2 49 q)), (2, vI M), (1, vI (nI q)), (0, vR 0 0)] [] (rL hp 50 (spW (rw_ hp 1) (hp.2 49) q (hp.2 50) w))) 4 (by
        refine run hG [67] 60 ?_
        exact And.intro (fun _ => hQ) (fun h => absurd (show nI 4 ≤ nI 4 by decide) h)) (by
        intro w hw ih
        have eS : spW (rw_ hp 1) (hp.2 49) q (hp.2 50) (w + 1) = (if M >>> (nI w &&& 31) &&& nI 1 = nI 1 then vp_updL (spW (rw_ hp 1) (hp.2 49) q (hp.2 50) w) (bsd q w) (spW (rw_ hp 1) (hp.2 49) q (hp.2 50) w (bsd q w) + (nI 12 / onesV M).toInt64 * hp.2 49 q) else spW (rw_ hp 1) (hp.2 49) q (hp.2 50) w) := by
          show spB (rw_ hp 1) (hp.2 49) q w _ = _
          unfold spB
          rw [hM]
        rw [eS, ← sp] at ih
        show G 67 [(5, vI (nI w)), (3, vL ((nI 12 / pop32 M).toInt64 * hp.2 49 q)), (2, vI M), (1, vI (nI q)), (0, vR 0 0)] [] (rL hp 50 (spW (rw_ hp 1) (hp.2 49) q (hp.2 50) w))
        generalize spW (rw_ hp 1) (hp.2 49) q (hp.2 50) w = nx at ih
        generalize (nI 12 / pop32 M).toInt64 * hp.2 49 q = sh at ih
        have ew : (nI w).toNatClampNeg = w := nI_clamp (by omega)
        refine run hG [67] 60 ?_
        refine And.intro (fun h => absurd (show nI 4 ≤ nI w from h) (nI_ge hw (by omega))) (fun _ => ?_)
        have b01 := bI_01 M (d := w) (by omega)
        refine And.intro (fun h2 => ?_) (fun h2 => ?_)
        · have h2 : bI M w = nI 0 := h2
          rw [if_neg (show ¬ M >>> (nI w &&& 31) &&& nI 1 = nI 1 from fun h => absurd (h2.symm.trans h) (by decide))] at ih
          refine And.intro (fun _ => ?_) (fun h => absurd (show (-1 : Int32) < 0 by decide) h)
          refine cl_lv hG [(5, vI (nI w + nI 1)), (3, vL sh), (2, vI M), (1, vI (nI q)), (0, vR 0 0)] ⟨rfl, rfl, rfl, rfl, rfl, trivial⟩ ?_
          rw [nI_s]
          exact ih
        · have h2 : bI M w = nI 1 := b01.resolve_left h2
          rw [if_pos (show M >>> (nI w &&& 31) &&& nI 1 = nI 1 from h2)] at ih
          have hb := may_bsd (hbit w hw h2).1
          have h25 : bsd q w < 25 := by rcases bsd_lt q hq w hw with h | h <;> omega
          have es : sbV (nI q).toNatClampNeg (nI w).toNatClampNeg = nI (bsd q w) := by rw [eq, ew, sb_may hb]
          refine And.intro ⟨vp_in_nI hq (by omega), vp_in_nI hw (by omega)⟩ ?_
          refine And.intro (fun h => absurd (show sbV (nI q).toNatClampNeg (nI w).toNatClampNeg < 0 from h) (by rw [es]; exact Int32.not_lt.mpr (nI_nn (by omega)))) (fun _ => ?_)
          refine And.intro (show vp_in (sbV (nI q).toNatClampNeg (nI w).toNatClampNeg) 25 by rw [es]; exact vp_in_nI h25 (by omega)) ?_
          refine And.intro (show vp_in (sbV (nI q).toNatClampNeg (nI w).toNatClampNeg) 25 by rw [es]; exact vp_in_nI h25 (by omega)) ?_
          refine cl_lv hG [(5, vI (nI w + nI 1)), (3, vL sh), (2, vI M), (1, vI (nI q)), (0, vR 0 0)] ⟨rfl, rfl, rfl, rfl, rfl, trivial⟩ ?_
          show G 67 _ [] (uL (rL hp 50 nx) 50 (sbV (nI q).toNatClampNeg (nI w).toNatClampNeg).toNatClampNeg ((rL hp 50 nx).2 50 (sbV (nI q).toNatClampNeg (nI w).toNatClampNeg).toNatClampNeg + sh))
          rw [nI_s, es, nI_clamp (by omega), uL_rL, rL_eq]
          exact ih) 0 (by omega)
      have k0 : G 67 [(5, vI (nI 0)), (3, vL ((nI 12 / pop32 M).toInt64 * hp.2 49 q)), (2, vI M), (1, vI (nI q)), (0, vR 0 0)] [] (rL hp 50 (hp.2 50)) := key
      rw [rL_self] at k0
      refine run hG [67] 60 ?_
      refine And.intro (fun _ => ?_) (fun h => absurd h (fun h => h1 (by rw [show M = 0 from h]; decide)))
      refine And.intro trivial ?_
      refine And.intro h1 ?_
      refine And.intro (vp_in_nI hq (by omega)) ?_
      refine cl_lv hG [(5, vI (nI 0)), (3, vL ((nI 12 / pop32 M).toInt64 * hp.2 49 (nI q).toNatClampNeg)), (2, vI M), (1, vI (nI q)), (0, vR 0 0)] ⟨rfl, rfl, rfl, rfl, rfl, trivial⟩ ?_
      rw [eq]
      exact k0
  unfold spM at rest
  rw [eriv] at rest
  refine run hG [24] 60 ?_
  refine And.intro (vp_in_nI hq (by omega)) ?_
  refine And.intro (fun h => ?_) (fun h => ?_)
  · have h : bI (hp.1 1 3) (nI q).toNatClampNeg = nI 0 := h
    rw [eq] at h
    rw [if_neg (by rw [h]; decide)] at rest
    refine And.intro (vp_in_nI hq (by omega)) ?_
    refine cl_lv hG [(2, vI (waysC (mayB (rw_ hp 1) (nI q).toNatClampNeg))), (1, vI (nI q)), (0, vR 0 0)] ⟨rfl, rfl, rfl, trivial⟩ ?_
    rw [eq]
    exact rest
  · have h : ¬ bI (hp.1 1 3) (nI q).toNatClampNeg = nI 0 := h
    rw [eq] at h
    rw [if_pos (h01.resolve_left h)] at rest
    exact cl_use hG rest ⟨rfl, rfl, rfl, trivial⟩
theorem sc_X4_spreadFrom {own : String} {F L idx : Nat} (h1 : Cond.methodLink own idx yX4_spreadFrom ∈ Gw) (hF : 3 ≤ F) (hL : 69 ≤ L) : SC own F L (idx, false, 2, sp_X4_spreadFrom) := SC_V spH_mono c_X4_spreadFrom okd_0 (fun as hp K h => by obtain ⟨x, hx, -⟩ := spH_e h; exact ⟨_, _, d_C_I_e hx⟩) h1 gw_583 gw_9 gw_69 gw_584 (by decide +kernel) hF hL
