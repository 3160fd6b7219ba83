def sp_X4_loop : SP := spF d_C_I (fun _ hp => RX hp) (fun x hp v hq => PO (F_loop x) hp v hq)
def E_X4_loop : EN := [(128, false, 2, sp_X4_isWalker), (63, false, 2, sp_X4_tell), (94, false, 2, sp_X3_isRiver), (152, false, 2, sp_X3_waysFrom), (225, true, 2, sp_X3_plainStep), (228, true, 2, sp_X3_squareBeside)]
set_option maxRecDepth 100000 in
set_option maxHeartbeats 4000000 in
theorem c_X4_loop : Ctr M_X4_loop sp_X4_loop := by
  refine ctr_of (own := RX4) M_X4_loop sp_X4_loop (P := P_X4_loop) (K := K_X4) (E := E_X4_loop) (by decide) rfl pk_X4_loop K_X4_ok (List.forall_mem_cons.mpr ⟨sc_X4_isWalker gw_390 (by decide) (by decide), List.forall_mem_cons.mpr ⟨sc_X4_tell gw_298 (by decide) (by decide), List.forall_mem_cons.mpr ⟨sc_X3_isRiver gw_346 (by decide) (by decide), List.forall_mem_cons.mpr ⟨sc_X3_waysFrom gw_394 (by decide) (by decide), List.forall_mem_cons.mpr ⟨sc_X3_plainStep gw_569 (by decide) (by decide), List.forall_mem_cons.mpr ⟨sc_X3_squareBeside gw_538 (by decide) (by decide), fun _ h => absurd h List.not_mem_nil⟩⟩⟩⟩⟩⟩) (fun as hp Q h => by obtain ⟨x, hx, -⟩ := spF_e h; rw [d_C_I_e hx]; exact Nat.le_of_ble_eq_true rfl) ?_
  intro Q G hQi hG as hp h
  obtain ⟨x, hx, hpre, hQ⟩ := spF_e h
  rw [d_C_I_e hx]
  clear h hx
  obtain ⟨m0, h0⟩ := hpre
  refine run hG [60] 60 ?_
  refine And.intro ⟨m0, h0⟩ ?_
  refine And.intro (fun h1 => ?_) (fun h1 => at_no hQ 0 (by omega) (by decide) (qc_r hp) (fun mp h => ⟨mp, qm_r mp, if_neg (by rw [h.mn, bB_0.mp h1]; decide)⟩))
  have h1 : inB x (mN (rw_ hp 1)) = true := bB_1.mp h1
  obtain ⟨h8, hl, hl8⟩ := h0.w8 h1
  obtain ⟨k0, k1, k2, k3, k4⟩ := h0.ok hl
  obtain ⟨pl, hpl, epl⟩ := vp_in_of k2 (by omega)
  obtain ⟨wy, hwy, ewy⟩ := vp_in_of k3 (by omega)
  have hwc := h0.wc
  have e2 : rw_ hp 1 (144 + 5 * x.toNatClampNeg + 2) = nI pl := by rw [rw_wk hp 1 hl8 (by omega)]; exact epl
  have e3 : rw_ hp 1 (144 + 5 * x.toNatClampNeg + 3) = nI wy := by rw [rw_wk hp 1 hl8 (by omega)]; exact ewy
  have ep : plc (rw_ hp 1) x.toNatClampNeg = pl := by unfold plc; rw [e2, nI_clamp (by omega)]
  have ew : wyO (rw_ hp 1) x.toNatClampNeg = wy := by unfold wyO; rw [e3, nI_clamp (by omega)]
  have hbit := inR_bit hwc hl
  have hF : ∀ mp, RC hp mp → F_loop x mp = (if hp.1 (5 + x.toNatClampNeg) 0 = 0 ∧ goB (rw_ hp 1) x.toNatClampNeg = true then lpR mp (fst_ (fun n => decide (lpI (rw_ hp 1) (pl, wy) n = (pl, wy))) 500 1) else noP mp 4) := fun mp h => by
    have em : inB x (mN (mp.1 53)) = true := by rw [h.mn]; exact h1
    have hlm : x.toNatClampNeg < mN (mp.1 53) := by rw [h.mn]; exact hl
    unfold F_loop
    rw [if_pos em, show mp.1 53 (144 + 5 * x.toNatClampNeg) = hp.1 (5 + x.toNatClampNeg) 0 from h.wx h1 (j := 0) (by omega), ← h.ag.gob h.wf hlm]
    have ep2 : plc (mp.1 53) x.toNatClampNeg = pl := by rw [← ep]; unfold plc; rw [h.ag.wk hlm (by omega)]
    have ew2 : wyO (mp.1 53) x.toNatClampNeg = wy := by rw [← ew]; unfold wyO; rw [h.ag.wk hlm (by omega)]
    have el : lpN (mp.1 53) x.toNatClampNeg = fst_ (fun n => decide (lpI (rw_ hp 1) (pl, wy) n = (pl, wy))) 500 1 := by
      unfold lpN
      refine fst_cg _ _ (fun j _ _ => ?_)
      unfold lpP
      rw [ep2, ew2, ag_lpI h.ag ⟨hpl, hwy⟩]
    rw [el]
  have hst : ¬ (hp.1 (5 + x.toNatClampNeg) 0 = 0 ∧ goB (rw_ hp 1) x.toNatClampNeg = true) → ∀ mp, RC hp mp → ∃ mq, qm mp mq ∧ F_loop x mp = noP mq 4 := fun hn mp h => ⟨mp, qm_r mp, by rw [hF mp h, if_neg hn]⟩
  have hgo : goB (rw_ hp 1) x.toNatClampNeg = (decide (hp.1 (5 + x.toNatClampNeg) 4 = 0) && !inR (rw_ hp 1) x.toNatClampNeg) := by
    unfold goB
    rw [rw_wk hp 1 hl8 (by omega)]
  refine And.intro h8 ?_
  refine And.intro (fun h2 => at_no hQ 4 (by omega) (by decide) (qc_r hp) (hst (fun h => h2 h.1))) (fun h2 => ?_)
  have h2 : hp.1 (5 + x.toNatClampNeg) 0 = 0 := h2
  refine And.intro (fun h3 => at_no hQ 4 (by omega) (by decide) (qc_r hp) (hst (fun h => ?_))) (fun h3 => ?_)
  · rw [hgo] at h
    exact h3 (of_decide_eq_true (and_tt h.2).1)
  have h3 : hp.1 (5 + x.toNatClampNeg) 4 = 0 := h3
  refine And.intro hbit.1 ?_
  refine And.intro (fun h4 => ?_) (fun h4 => at_no hQ 4 (by omega) (by decide) (qc_r hp) (hst (fun h => ?_)))
  case refine_2 =>
    have h4 : ¬ bI (hp.1 1 3) (hp.1 (1 + 4 + x.toNatClampNeg) 2).toNatClampNeg = 0 := h4
    rw [hbit.2] at h4
    rw [hgo] at h
    have := (and_tt h.2).2
    rw [if_neg (fun h5 => by rw [h5] at this; exact absurd this (by decide))] at h4
    exact h4 rfl
  have h4 : bI (hp.1 1 3) (hp.1 (1 + 4 + x.toNatClampNeg) 2).toNatClampNeg = 0 := h4
  have hnr : inR (rw_ hp 1) x.toNatClampNeg = false := by
    rw [hbit.2] at h4
    cases hb : inR (rw_ hp 1) x.toNatClampNeg with
    | false => rfl
    | true => rw [hb, if_pos rfl] at h4; exact absurd h4 (by decide)
  have hF : ∀ mp, RC hp mp → F_loop x mp = lpR mp (fst_ (fun n => decide (lpI (rw_ hp 1) (pl, wy) n = (pl, wy))) 500 1) := fun mp h => by
    rw [hF mp h, if_pos ⟨h2, by rw [hgo, decide_eq_true h3, hnr]; rfl⟩]
  have hyes : ∀ k, 1 ≤ k → k ≤ 500 → lpI (rw_ hp 1) (pl, wy) k = (pl, wy) → (∀ j, 1 ≤ j → j < k → ¬ lpI (rw_ hp 1) (pl, wy) j = (pl, wy)) → Q (some (vI (nI k))) hp := fun k a b c d => at_v hQ (fun mp h => by
    rw [hF mp h, fst_at (k := k) (decide_eq_true c) _ _ a (by omega) (fun j h1 h2 => decide_eq_false (d j h1 h2))]
    exact if_pos b)
  have hnoF : (∀ j, 1 ≤ j → j ≤ 500 → ¬ lpI (rw_ hp 1) (pl, wy) j = (pl, wy)) → ∀ mp, RC hp mp → ∃ mq, qm mp mq ∧ F_loop x mp = noP mq 3 := fun d mp h => ⟨mp, qm_r mp, by
    rw [hF mp h, fst_none 500 1 (fun j h1 h2 => decide_eq_false (d j h1 (by omega)))]
    exact if_neg (by omega)⟩
  have hrow : ∀ q, q < 25 → rw_ hp 1 (69 + q) = bI (hp.1 1 3) q := fun q hq => rw_rv hp 1 hq
  have hst0 : ¬ rw_ hp 1 (69 + pl) = nI 1 := by
    unfold inR at hnr
    rw [ep] at hnr
    exact of_decide_eq_false hnr
  clear hF hst hgo
  generalize hff : rw_ hp 1 = f at hyes hnoF hrow hst0
  have key := for_up (P := fun k => (∀ j, 1 ≤ j → j ≤ k → ¬ lpI f (pl, wy) j = (pl, wy)) → ¬ f (69 + (lpI f (pl, wy) k).1) = nI 1 → G 74 [(5, vI (nI (k + 1))), (4, vI (nI (lpI f (pl, wy) k).2)), (3, vI (nI (lpI f (pl, wy) k).1)), (2, vR 2 (5 + x.toNatClampNeg)), (0, vR 0 0)] [] hp) 500 (by
    intro hj hr
    refine run hG [74] 60 ?_
    refine And.intro (fun _ => ?_) (fun h => absurd (show nI 500 < nI 501 by decide) h)
    exact at_no hQ 3 (by omega) (by decide) (qc_r hp) (hnoF hj)) (by
    intro k hk ih hj hr
    have hok := lpI_ok (f := f) (p := (pl, wy)) ⟨hpl, hwy⟩ k
    have hokn := lpI_ok (f := f) (p := (pl, wy)) ⟨hpl, hwy⟩ (k + 1)
    have eT : lpI f (pl, wy) (k + 1) = lpT f (lpI f (pl, wy) k) := rfl
    -- from the check on
    have chk : ∀ v6 : Int32, G 113 [(6, vI v6), (5, vI (nI (k + 1))), (4, vI (nI (lpI f (pl, wy) (k + 1)).2)), (3, vI (nI (lpI f (pl, wy) (k + 1)).1)), (2, vR 2 (5 + x.toNatClampNeg)), (0, vR 0 0)] [] hp := by
      intro v6
      have goOn : ¬ lpI f (pl, wy) (k + 1) = (pl, wy) → G 133 [(6, vI v6), (5, vI (nI (k + 1))), (4, vI (nI (lpI f (pl, wy) (k + 1)).2)), (3, vI (nI (lpI f (pl, wy) (k + 1)).1)), (2, vR 2 (5 + x.toNatClampNeg)), (0, vR 0 0)] [] hp := by
        intro hne
        have hj2 : ∀ j, 1 ≤ j → j ≤ k + 1 → ¬ lpI f (pl, wy) j = (pl, wy) := fun j a b => by
          by_cases e : j = k + 1
          · rw [e]; exact hne
          · exact hj j a (by omega)
        have ec : (nI (lpI f (pl, wy) (k + 1)).1).toNatClampNeg = (lpI f (pl, wy) (k + 1)).1 := nI_clamp (by omega)
        have e01 := bI_01 (hp.1 1 3) (d := (lpI f (pl, wy) (k + 1)).1) (by omega)
        refine run hG [74] 60 ?_
        refine And.intro (vp_in_nI hokn.1 (by omega)) ?_
        refine And.intro (fun h5 => ?_) (fun h5 => ?_)
        · have h5 : bI (hp.1 1 3) (nI (lpI f (pl, wy) (k + 1)).1).toNatClampNeg = nI 0 := h5
          rw [ec, ← hrow _ hokn.1] at h5
          refine cl_lv hG [(5, vI (nI (k + 1) + nI 1)), (4, vI (nI (lpI f (pl, wy) (k + 1)).2)), (3, vI (nI (lpI f (pl, wy) (k + 1)).1)), (2, vR 2 (5 + x.toNatClampNeg)), (0, vR 0 0)] ⟨rfl, rfl, rfl, rfl, rfl, trivial⟩ ?_
          rw [nI_s]
          exact ih hj2 (by rw [h5]; decide)
        · have h5 : ¬ bI (hp.1 1 3) (nI (lpI f (pl, wy) (k + 1)).1).toNatClampNeg = nI 0 := h5
          rw [ec] at h5
          have h6 : f (69 + (lpI f (pl, wy) (k + 1)).1) = nI 1 := by rw [hrow _ hokn.1]; exact e01.resolve_left h5
          refine at_no hQ 3 (by omega) (by decide) (qc_r hp) (hnoF (fun j a b => ?_))
          by_cases e : j ≤ k + 1
          · exact hj2 j a e
          · have := lp_stay h6 (j - (k + 1))
            rw [show k + 1 + (j - (k + 1)) = j by omega] at this
            rw [this]
            exact hne
      generalize hP : lpI f (pl, wy) (k + 1) = P at hokn goOn
      refine run hG [133] 60 ?_
      refine And.intro (fun h5 => ?_) (fun h5 => ?_)
      · have h5 : ¬ nI P.1 = hp.1 (5 + x.toNatClampNeg) 2 := h5
        rw [epl, nI_eq (by omega) (by omega)] at h5
        exact cl_use hG (goOn (fun e => h5 (by rw [e]))) ⟨rfl, rfl, rfl, rfl, rfl, rfl, trivial⟩
      · have h5 : nI P.1 = hp.1 (5 + x.toNatClampNeg) 2 := h5
        rw [epl, nI_eq (by omega) (by omega)] at h5
        refine And.intro (fun h6 => ?_) (fun h6 => ?_)
        · have h6 : ¬ nI P.2 = hp.1 (5 + x.toNatClampNeg) 3 := h6
          rw [ewy, nI_eq (by omega) (by omega)] at h6
          exact cl_use hG (goOn (fun e => h6 (by rw [e]))) ⟨rfl, rfl, rfl, rfl, rfl, rfl, trivial⟩
        · have h6 : nI P.2 = hp.1 (5 + x.toNatClampNeg) 3 := h6
          rw [ewy, nI_eq (by omega) (by omega)] at h6
          exact hyes (k + 1) (by omega) (by omega) (by rw [hP]; exact Prod.ext h5 h6) (fun j a b => hj j a (by omega))
    rw [eT] at chk
    generalize lpI f (pl, wy) k = p at hr hok chk
    have c1 : (nI p.1).toNatClampNeg = p.1 := nI_clamp (by omega)
    have c2 : (nI p.2).toNatClampNeg = p.2 := nI_clamp (by omega)
    have eW : lpW f p = trnV (mayB f p.1) p.2 := by unfold lpW; rw [if_neg hr, tur_f]
    have hok2 := lpW_ok f p
    unfold lpT at chk
    refine run hG [97] 60 ?_
    refine And.intro (fun h => absurd (show nI 500 < nI (k + 1) from h) (by rw [nI_ltI (by omega) (by omega)]; omega)) (fun _ => ?_)
    refine And.intro (vp_in_nI hok.1 (by omega)) ?_
    refine And.intro (vp_in_nI hok.2 (by omega)) ?_
    refine cl_lv hG [(6, vI (trnV (fun j => decide (bI (waysC (mayB (rw_ hp 1) (nI p.1).toNatClampNeg)) j = nI 1)) (nI p.2).toNatClampNeg)), (5, vI (nI (k + 1))), (4, vI (nI p.2)), (3, vI (nI p.1)), (2, vR 2 (5 + x.toNatClampNeg)), (0, vR 0 0)] ⟨rfl, rfl, rfl, rfl, rfl, rfl, trivial⟩ ?_
    rw [c1, c2, trn_ws, hff, ← eW]
    rcases hok2.neg with ⟨hneg, -⟩ | ⟨j, hj4, ej, hmay, hnn⟩
    · rw [if_neg (fun h => absurd hneg (Int32.not_lt.mpr h))] at chk
      refine run hG [113] 60 ?_
      refine And.intro (fun _ => ?_) (fun h => absurd hneg h)
      exact cl_use hG (chk (lpW f p)) ⟨rfl, rfl, rfl, rfl, rfl, rfl, trivial⟩
    · rw [ej, if_pos (nI_nn (by omega)), nI_clamp (by omega)] at chk
      rw [ej]
      have cj : (nI j).toNatClampNeg = j := nI_clamp (by omega)
      refine run hG [113] 60 ?_
      refine And.intro (fun h => absurd h (by rw [← ej]; exact hnn)) (fun _ => ?_)
      refine And.intro ⟨vp_in_nI hok.1 (by omega), vp_in_nI hj4 (by omega)⟩ ?_
      refine cl_lv hG [(6, vI (nI j)), (5, vI (nI (k + 1))), (4, vI (nI j)), (3, vI (sbV (nI p.1).toNatClampNeg (nI j).toNatClampNeg)), (2, vR 2 (5 + x.toNatClampNeg)), (0, vR 0 0)] ⟨rfl, rfl, rfl, rfl, rfl, rfl, trivial⟩ ?_
      rw [c1, cj, sb_may (may_bsd hmay)]
      exact chk (nI j)) 0 (by omega)
  have k0 : G 74 [(5, vI (nI 1)), (4, vI (nI wy)), (3, vI (nI pl)), (2, vR 2 (5 + x.toNatClampNeg)), (0, vR 0 0)] [] hp := key (fun j a b => absurd a (by omega)) hst0
  refine run hG [74] 60 ?_
  refine cl_lv hG [(5, vI (nI 1)), (4, vI (hp.1 (5 + x.toNatClampNeg) 3)), (3, vI (hp.1 (5 + x.toNatClampNeg) 2)), (2, vR 2 (5 + x.toNatClampNeg)), (0, vR 0 0)] ⟨rfl, rfl, rfl, rfl, rfl, trivial⟩ ?_
  rw [epl, ewy]
  exact k0
theorem sc_X4_loop {own : String} {F L idx : Nat} (h1 : Cond.methodLink own idx yX4_loop ∈ Gw) (hF : 3 ≤ F) (hL : 70 ≤ L) : SC own F L (idx, false, 2, sp_X4_loop) := SC_V spF_mono c_X4_loop okd_0 (fun as hp K h => by obtain ⟨x, hx, -⟩ := spF_e h; exact ⟨_, _, d_C_I_e hx⟩) h1 gw_566 gw_567 gw_69 gw_568 (by decide +kernel) hF hL
