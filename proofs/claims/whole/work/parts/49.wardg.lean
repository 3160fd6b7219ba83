def sp_X3_stepOf : SP := spH d_W_K (fun x hp => ∃ i, i < 8 ∧ x.2 = x.1 + 4 + i ∧ wkOK (rw_ hp x.1) i) (fun x hp => some (vI (stF (rw_ hp x.1) (x.2 - x.1 - 4)).1)) (fun x hp => uI hp x.1 6 ((stF (rw_ hp x.1) (x.2 - x.1 - 4)).2 1))
def E_X3_stepOf : EN := [(116, false, 2, sp_X3_waysFrom), (120, false, 3, sp_X3_slopeStep), (124, false, 3, sp_X3_lampStep), (127, false, 2, sp_X3_drawnStep), (130, true, 2, sp_X3_plainStep)]
set_option maxRecDepth 100000 in
set_option maxHeartbeats 4000000 in
theorem c_X3_stepOf : Ctr M_X3_stepOf sp_X3_stepOf := by
  refine ctr_of (own := RX3) M_X3_stepOf sp_X3_stepOf (P := P_X3_stepOf) (K := K_X3) (E := E_X3_stepOf) (by decide) rfl pk_X3_stepOf K_X3_ok (List.forall_mem_cons.mpr ⟨sc_X3_waysFrom gw_428 (by decide) (by decide), List.forall_mem_cons.mpr ⟨sc_X3_slopeStep gw_429 (by decide) (by decide), List.forall_mem_cons.mpr ⟨sc_X3_lampStep gw_436 (by decide) (by decide), List.forall_mem_cons.mpr ⟨sc_X3_drawnStep gw_440 (by decide) (by decide), List.forall_mem_cons.mpr ⟨sc_X3_plainStep gw_433 (by decide) (by decide), fun _ h => absurd h List.not_mem_nil⟩⟩⟩⟩⟩) (fun as hp Q h => by obtain ⟨x, hx, -⟩ := spH_e h; rw [d_W_K_e hx]; exact Nat.le_of_ble_eq_true rfl) ?_
  intro Q G hQi hG as hp h
  obtain ⟨x, hx, hpre, hQ⟩ := spH_e h
  rw [d_W_K_e hx]
  clear h hx
  obtain ⟨w, o⟩ := x
  try dsimp only at hpre hQ ⊢
  obtain ⟨i, hi, ho, hok⟩ := hpre
  have ho : o = w + 4 + i := ho
  subst ho
  rw [show w + 4 + i - w - 4 = i by omega] at hQ
  obtain ⟨k0, k1, k2, k3, k4⟩ := hok
  have e0 : rw_ hp w (144 + 5 * i) = hp.1 (w + 4 + i) 0 := rw_wk hp w hi (j := 0) (by omega)
  have e1 : rw_ hp w (144 + 5 * i + 1) = hp.1 (w + 4 + i) 1 := rw_wk hp w hi (by omega)
  have e2 : rw_ hp w (144 + 5 * i + 2) = hp.1 (w + 4 + i) 2 := rw_wk hp w hi (by omega)
  have e3 : rw_ hp w (144 + 5 * i + 3) = hp.1 (w + 4 + i) 3 := rw_wk hp w hi (by omega)
  have f0 : rw_ hp w 0 = hp.1 w 5 := rw_lo hp w (by omega)
  have f1 : rw_ hp w 1 = hp.1 w 6 := rw_lo hp w (by omega)
  have f2 : rw_ hp w 2 = hp.1 w 4 := rw_lo hp w (by omega)
  have ep : plc (rw_ hp w) i = (hp.1 (w + 4 + i) 2).toNatClampNeg := by unfold plc; rw [e2]
  have ey : wyO (rw_ hp w) i = (hp.1 (w + 4 + i) 3).toNatClampNeg := by unfold wyO; rw [e3]
  rw [e2] at k2
  rw [e3] at k3
  obtain ⟨st, hS⟩ : ∃ st, st = stF (rw_ hp w) i := ⟨_, rfl⟩
  rw [← hS] at hQ
  have fin : ∀ y : Int32, st = (y, rw_ hp w) → Q (some (vI y)) hp := by
    intro y e
    rw [e] at hQ
    have hQ : Q (some (vI y)) (uI hp w 6 (rw_ hp w 1)) := hQ
    rw [f1, uI_id rfl] at hQ
    exact hQ
  have sT : ∀ s y, trnV (turB (rw_ hp w) (plc (rw_ hp w) i) false) (wyO (rw_ hp w) i) = y → s = waysC (mayB (rw_ hp w) (hp.1 (w + 4 + i) 2).toNatClampNeg) → trnV (fun j => decide (bI s j = nI 1)) (hp.1 (w + 4 + i) 3).toNatClampNeg = y := by
    intro s y e hs
    rw [← e, ep, ey, tur_f, hs, trn_ws]
  unfold stF at hS
  rw [e0, e1, e2, f0, f2] at hS
  rw [e0] at k0
  have kk := vp_in_iff.mp k0
  have tI : ∀ j : Nat, j < 6 → (hp.1 (w + 4 + i) 0).toInt = (j : Int) → hp.1 (w + 4 + i) 0 = nI j := fun j hj h => eq_toInt (by omega) h
  refine run hG [] 60 ?_
  refine And.intro k2 ?_
  refine And.intro (fun hz => ?_) (And.intro (fun hz => ?_) (And.intro (fun hz => ?_) (And.intro (fun hz => ?_) (And.intro (fun hz => ?_) (fun hz => ?_)))))
  · have e := tI 1 (by omega) hz
    rw [if_neg (by rw [e]; decide), if_pos e] at hS
    refine And.intro ⟨k2, k3, rfl⟩ ?_
    exact fin _ (by rw [hS, ep, ey])
  · have e := tI 2 (by omega) hz
    rw [if_neg (by rw [e]; decide), if_neg (by rw [e]; decide), if_pos e] at hS
    refine And.intro ⟨k2, k3, rfl⟩ ?_
    exact fin _ (by rw [hS, ep, ey])
  · have e := tI 3 (by omega) hz
    rw [if_neg (by rw [e]; decide), if_neg (by rw [e]; decide), if_neg (by rw [e]; decide), if_pos e] at hS
    refine And.intro (fun h1 => ?_) (fun h1 => ?_)
    · have h1 : ¬ hp.1 (w + 4 + i) 2 = hp.1 (w + 4 + i) 1 := h1
      rw [if_neg (fun h => h1 h.1)] at hS
      refine And.intro ⟨k2, k3, rfl⟩ ?_
      exact fin _ (by rw [hS, ep, ey])
    · have h1 : hp.1 (w + 4 + i) 2 = hp.1 (w + 4 + i) 1 := h1
      refine And.intro (fun h2 => ?_) (fun h2 => ?_)
      · have h2 : hp.1 w 5 = 0 := h2
        rw [if_neg (fun h => h.2 h2)] at hS
        refine And.intro ⟨k2, k3, rfl⟩ ?_
        exact fin _ (by rw [hS, ep, ey])
      · have h2 : ¬ hp.1 w 5 = 0 := h2
        rw [if_pos ⟨h1, h2⟩] at hS
        exact fin _ hS
  · have e := tI 4 (by omega) hz
    rw [if_neg (by rw [e]; decide), if_neg (by rw [e]; decide), if_neg (by rw [e]; decide), if_neg (by rw [e]; decide), if_pos e, ep] at hS
    rw [hS] at hQ
    unfold wndF at hQ
    refine And.intro ⟨_, rfl⟩ ?_
    intro v hq hpost
    have hpost := hpost _ rfl
    by_cases hr : rc (mayB (rw_ hp w) (hp.1 (w + 4 + i) 2).toNatClampNeg) 4 0 = 0
    · obtain ⟨rfl, rfl⟩ := hpost.1 hr
      rw [if_pos hr] at hQ
      have hQ : Q (some (vI (-1))) (uI hq w 6 (rw_ hq w 1)) := hQ
      rw [f1, uI_id rfl] at hQ
      exact hQ
    · obtain ⟨rfl, rfl⟩ := hpost.2 hr
      rw [if_neg hr] at hQ
      have hQ : Q (some (vI (nI (wndN (mayB (rw_ hp w) (hp.1 (w + 4 + i) 2).toNatClampNeg) (drV (rw_ hp w 1)))))) (uI hp w 6 (upd (rw_ hp w) 1 (drV (rw_ hp w 1)) 1)) := hQ
      rw [pk_us, f1] at hQ
      exact hQ
  · have e := tI 5 (by omega) hz
    rw [if_neg (by rw [e]; decide), if_neg (by rw [e]; decide), if_neg (by rw [e]; decide), if_neg (by rw [e]; decide), if_neg (by rw [e]; decide)] at hS
    refine And.intro (fun h1 => ?_) (fun h1 => ?_)
    · have h1 : ¬ hp.1 w 4 = nI 4 := h1
      rw [if_neg h1] at hS
      refine And.intro (fun h2 => ?_) (fun h2 => ?_)
      · have h2 : nI 60 * hp.1 w 4 ≤ hp.1 w 5 := h2
        rw [if_pos h2] at hS
        exact fin _ hS
      · have h2 : ¬ nI 60 * hp.1 w 4 ≤ hp.1 w 5 := h2
        rw [if_neg h2] at hS
        refine And.intro k3 ?_
        exact fin _ (by rw [hS]; exact Prod.ext (sT _ _ rfl rfl).symm rfl)
    · have h1 : hp.1 w 4 = nI 4 := h1
      rw [if_pos h1] at hS
      refine And.intro ⟨k2, k3, rfl⟩ ?_
      exact fin _ (by rw [hS, ep, ey])
  · have e := tI 0 (by omega) (by omega)
    rw [if_pos e] at hS
    refine And.intro k3 ?_
    exact fin _ (by rw [hS]; exact Prod.ext (sT _ _ rfl rfl).symm rfl)
theorem sc_X3_stepOf {own : String} {F L idx : Nat} (h1 : Cond.methodLink own idx yX3_stepOf ∈ Gw) (hF : 3 ≤ F) (hL : 71 ≤ L) : SC own F L (idx, false, 2, sp_X3_stepOf) := SC_V spH_mono c_X3_stepOf okd_1 (fun as hp K h => by obtain ⟨x, hx, -⟩ := spH_e h; exact ⟨_, _, d_W_K_e hx⟩) h1 gw_425 gw_426 gw_70 gw_427 (by decide +kernel) hF hL
