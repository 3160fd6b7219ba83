def sp_X4_meet : SP := spF d_C_II (fun _ hp => RX hp) (fun x hp v hq => PO (F_meet x.1 x.2) hp v hq)
def E_X4_meet : EN := [(128, false, 2, sp_X4_isWalker), (63, false, 2, sp_X4_tell), (167, false, 2, sp_X4_isTooLate), (190, false, 2, sp_X3_takeFrom), (194, false, 1, sp_X3_goMinute)]
set_option maxRecDepth 100000 in
set_option maxHeartbeats 4000000 in
theorem c_X4_meet : Ctr M_X4_meet sp_X4_meet := by
  refine ctr_of (own := RX4) M_X4_meet sp_X4_meet (P := P_X4_meet) (K := K_X4) (E := E_X4_meet) (by decide) rfl pk_X4_meet K_X4_ok (List.forall_mem_cons.mpr ⟨sc_X4_isWalker gw_390 (by decide) (by decide), List.forall_mem_cons.mpr ⟨sc_X4_tell gw_298 (by decide) (by decide), List.forall_mem_cons.mpr ⟨sc_X4_isTooLate gw_455 (by decide) (by decide), List.forall_mem_cons.mpr ⟨sc_X3_takeFrom gw_497 (by decide) (by decide), List.forall_mem_cons.mpr ⟨sc_X3_goMinute gw_512 (by decide) (by decide), fun _ h => absurd h List.not_mem_nil⟩⟩⟩⟩⟩) (fun as hp Q h => by obtain ⟨x, hx, -⟩ := spF_e h; rw [d_C_II_e hx]; exact Nat.le_of_ble_eq_true rfl) ?_
  intro Q G hQi hG as hp h
  obtain ⟨x, hx, hpre, hQ⟩ := spF_e h
  rw [d_C_II_e hx]
  clear h hx
  obtain ⟨x, y⟩ := x
  try dsimp only at hpre hQ ⊢
  obtain ⟨m0, h0⟩ := hpre
  have no : ¬ (inB x (mN (rw_ hp 1)) = true ∧ inB y (mN (rw_ hp 1)) = true ∧ ¬ x = y) → ∀ mp, RC hp mp → ∃ mq, qm mp mq ∧ F_meet x y mp = noP mq 0 := fun h mp h2 => ⟨mp, qm_r mp, if_neg (by rw [h2.mn]; exact h)⟩
  refine run hG [56] 60 ?_
  refine And.intro ⟨m0, h0⟩ ?_
  refine And.intro (fun h1 => at_no hQ 0 (by omega) (by decide) (qc_r hp) (no (fun h => by rw [bB_0.mp h1] at h; exact absurd h.1 (by decide)))) (fun h1 => ?_)
  have h1 : inB x (mN (rw_ hp 1)) = true := bB_1.mp h1
  obtain ⟨h8, hl, hl8⟩ := h0.w8 h1
  refine And.intro ⟨m0, h0⟩ ?_
  refine And.intro (fun h1 => at_no hQ 0 (by omega) (by decide) (qc_r hp) (no (fun h => by rw [bB_0.mp h1] at h; exact absurd h.2.1 (by decide)))) (fun h1y => ?_)
  have h1y : inB y (mN (rw_ hp 1)) = true := bB_1.mp h1y
  obtain ⟨h8y, hly, hl8y⟩ := h0.w8 h1y
  refine And.intro (fun hxy => ?_) (fun hxy => at_no hQ 0 (by omega) (by decide) (qc_r hp) (no (fun h => h.2.2 hxy)))
  have hxy : ¬ x = y := hxy
  have hS : ∀ mp, RC hp mp → F_meet x y mp = F_soon (nI 1) x y mp := fun mp h => if_pos (by rw [h.mn]; exact ⟨h1, h1y, hxy⟩)
  refine And.intro trivial ?_
  refine And.intro (fun h3 => ?_) (fun h3 => ?_)
  · have h3 : ltB (rw_ hp 1) (nI 500) = false := bB_0.mp h3
    have h3m : ∀ mp, RC hp mp → ltB (mp.1 53) (nI 500) = false := fun mp h => by rw [← ltB_ag h.ag, h3]
    refine And.intro ⟨Or.inr (by decide), h0.wc⟩ ?_
    rintro v hq ⟨rfl, ha, hf, -⟩
    have hfq : frm 13 hp hq := hf
    have ha : ag (rw_ hp 1) (rw_ hq 13) := ha
    have hwq := (rc_ah h0 ha).wf h0.wf
    have hmq : mN (rw_ hq 13) = mN (rw_ hp 1) := ha.mn
    have sn : ∀ mp, RC hp mp → ∀ n, snP (mp.1 53) (nI 1) x.toNatClampNeg y.toNatClampNeg n = decide (goF (rw_ hq 13) n (144 + 5 * x.toNatClampNeg + 2) = goF (rw_ hq 13) n (144 + 5 * y.toNatClampNeg + 2)) := fun mp h n => ((rc_ah h ha).sn h.wf (by rw [h.mn]; exact hl) (by rw [h.mn]; exact hly) (nI 1) n).symm
    generalize hgg : rw_ hq 13 = g at hwq hmq sn
    have key := for_up (P := fun k => ∀ H : HP, frm 13 hp H → rw_ H 13 = goF g k → (∀ j, j < k → decide (goF g j (144 + 5 * x.toNatClampNeg + 2) = goF g j (144 + 5 * y.toNatClampNeg + 2)) = false) → G 58 [(3, vI (nI k)), (2, vI y), (1, vI x), (0, vR 0 0)] [] H) 501 (by
      intro H hfr e hb
      refine run hG [58] 60 ?_
      refine And.intro (fun h4 => ?_) (fun h4 => absurd (show nI 500 < nI 501 by decide) h4)
      exact at_no hQ 3 (by omega) (by decide) (qc_13 hfr) (fun mp h => ⟨rI mp 55 (mp.1 53), qm_c _ (Or.inl rfl), by rw [hS mp h, soon_no (h3m mp h) (fun j _ hj => by rw [sn mp h]; exact hb j (by omega))]⟩)) (by
      intro k hk ih H hfr e hb
      have hg := hwq.go k
      have hw2 : WF (rw_ H 13) := by rw [e]; exact hg.1
      have hi : x.toNatClampNeg < mN (rw_ H 13) := by rw [e, hg.2, hmq]; exact hl
      have ex := rw_wk H 13 (i := x.toNatClampNeg) (j := 2) hl8 (by omega)
      have ey := rw_wk H 13 (i := y.toNatClampNeg) (j := 2) hl8y (by omega)
      rw [e] at ex ey
      refine run hG [58] 60 ?_
      refine And.intro (fun h4 => absurd (show nI 500 < nI k from h4) (by rw [nI_ltI (by omega) (by omega)]; omega)) (fun h4 => ?_)
      refine And.intro h8 ?_
      refine And.intro h8y ?_
      refine And.intro (fun h5 => ?_) (fun h5 => ?_)
      · have h5 : ¬ H.1 (13 + 4 + x.toNatClampNeg) 2 = H.1 (13 + 4 + y.toNatClampNeg) 2 := h5
        rw [← ex, ← ey] at h5
        refine And.intro hw2 ?_
        rintro v hr ⟨rfl, e2, hf2⟩
        have e2 : rw_ hr 13 = minF (rw_ H 13) := e2
        refine cl_lv hG [(3, vI (nI k + nI 1)), (2, vI y), (1, vI x), (0, vR 0 0)] ⟨rfl, rfl, rfl, rfl, trivial⟩ ?_
        rw [nI_s]
        refine ih hr (frm_t hfr hf2.1) (by rw [e2, e]; rfl) (fun j hj => ?_)
        by_cases ej : j = k
        · subst ej
          exact decide_eq_false h5
        · exact hb j (by omega)
      · have h5 : H.1 (13 + 4 + x.toNatClampNeg) 2 = H.1 (13 + 4 + y.toNatClampNeg) 2 := h5
        rw [← ex, ← ey] at h5
        exact at_q hQ (qc_13 hfr) (fun mp h => ⟨rI mp 55 (mp.1 53), qm_c _ (Or.inl rfl), by rw [hS mp h, soon_at (n := k) (h3m mp h) (by omega) (fun h => absurd h (by decide)) (by rw [sn mp h]; exact decide_eq_true h5) (fun j _ hj => by rw [sn mp h]; exact hb j hj)]⟩)) 0 (by omega)
    refine run hG [58] 60 ?_
    exact cl_use hG (key hq hfq hgg (fun j hj => absurd hj (by omega))) ⟨rfl, rfl, rfl, rfl, trivial⟩
  · have h3 : ltB (rw_ hp 1) (nI 500) = true := bB_1.mp h3
    exact at_no hQ 4 (by omega) (by decide) (qc_r hp) (fun mp h => ⟨mp, qm_r mp, by rw [hS mp h, soon_lt (by rw [← ltB_ag h.ag, h3])]⟩)
theorem sc_X4_meet {own : String} {F L idx : Nat} (h1 : Cond.methodLink own idx yX4_meet ∈ Gw) (hF : 5 ≤ F) (hL : 119 ≤ L) : SC own F L (idx, false, 3, sp_X4_meet) := SC_V spF_mono c_X4_meet okd_0 (fun as hp K h => by obtain ⟨x, hx, -⟩ := spF_e h; exact ⟨_, _, d_C_II_e hx⟩) h1 gw_515 gw_516 gw_69 gw_517 (by decide +kernel) hF hL
def sp_X4_home : SP := spF d_C_I (fun _ hp => RX hp) (fun x hp v hq => PO (F_home x) hp v hq)
def E_X4_home : EN := [(128, false, 2, sp_X4_isWalker), (63, false, 2, sp_X4_tell), (167, false, 2, sp_X4_isTooLate), (190, false, 2, sp_X3_takeFrom), (194, false, 1, sp_X3_goMinute)]
set_option maxRecDepth 100000 in
set_option maxHeartbeats 4000000 in
theorem c_X4_home : Ctr M_X4_home sp_X4_home := by
  refine ctr_of (own := RX4) M_X4_home sp_X4_home (P := P_X4_home) (K := K_X4) (E := E_X4_home) (by decide) rfl pk_X4_home K_X4_ok (List.forall_mem_cons.mpr ⟨sc_X4_isWalker gw_390 (by decide) (by decide), List.forall_mem_cons.mpr ⟨sc_X4_tell gw_298 (by decide) (by decide), List.forall_mem_cons.mpr ⟨sc_X4_isTooLate gw_455 (by decide) (by decide), List.forall_mem_cons.mpr ⟨sc_X3_takeFrom gw_497 (by decide) (by decide), List.forall_mem_cons.mpr ⟨sc_X3_goMinute gw_512 (by decide) (by decide), fun _ h => absurd h List.not_mem_nil⟩⟩⟩⟩⟩) (fun as hp Q h => by obtain ⟨x, hx, -⟩ := spF_e h; rw [d_C_I_e hx]; exact Nat.le_of_ble_eq_true rfl) ?_
  intro Q G hQi hG as hp h
  obtain ⟨x, hx, hpre, hQ⟩ := spF_e h
  rw [d_C_I_e hx]
  clear h hx
  try dsimp only at hpre hQ ⊢
  obtain ⟨m0, h0⟩ := hpre
  refine run hG [43] 60 ?_
  refine And.intro ⟨m0, h0⟩ ?_
  refine And.intro (fun h1 => ?_) (fun h1 => at_no hQ 0 (by omega) (by decide) (qc_r hp) (fun mp h => ⟨mp, qm_r mp, if_neg (by rw [h.mn, bB_0.mp h1]; decide)⟩))
  have h1 : inB x (mN (rw_ hp 1)) = true := bB_1.mp h1
  obtain ⟨h8, hl, hl8⟩ := h0.w8 h1
  have hS : ∀ mp, RC hp mp → F_home x mp = F_soon (nI 2) x x mp := fun mp h => if_pos (by rw [h.mn]; exact h1)
  refine And.intro trivial ?_
  refine And.intro (fun h3 => ?_) (fun h3 => ?_)
  · have h3 : ltB (rw_ hp 1) (nI 500) = false := bB_0.mp h3
    have h3m : ∀ mp, RC hp mp → ltB (mp.1 53) (nI 500) = false := fun mp h => by rw [← ltB_ag h.ag, h3]
    refine And.intro ⟨Or.inr (by decide), h0.wc⟩ ?_
    rintro v hq ⟨rfl, ha, hf, -⟩
    have hfq : frm 13 hp hq := hf
    have ha : ag (rw_ hp 1) (rw_ hq 13) := ha
    have hwq := (rc_ah h0 ha).wf h0.wf
    have hmq : mN (rw_ hq 13) = mN (rw_ hp 1) := ha.mn
    have sn : ∀ mp, RC hp mp → ∀ n, snP (mp.1 53) (nI 2) x.toNatClampNeg x.toNatClampNeg n = decide (goF (rw_ hq 13) n (144 + 5 * x.toNatClampNeg + 2) = goF (rw_ hq 13) n (144 + 5 * x.toNatClampNeg + 1)) := fun mp h n => ((rc_ah h ha).sn h.wf (by rw [h.mn]; exact hl) (by rw [h.mn]; exact hl) (nI 2) n).symm
    generalize hgg : rw_ hq 13 = g at hwq hmq sn
    have key := for_up (P := fun k => ∀ H : HP, frm 13 hp H → rw_ H 13 = goF g k → (∀ j, 1 ≤ j → j ≤ k → decide (goF g j (144 + 5 * x.toNatClampNeg + 2) = goF g j (144 + 5 * x.toNatClampNeg + 1)) = false) → G 55 [(3, vI (nI (k + 1))), (2, vR 2 (13 + 4 + x.toNatClampNeg)), (1, vI x), (0, vR 0 0)] [] H) 500 (by
      intro H hfr e hb
      refine run hG [55] 60 ?_
      refine And.intro (fun h4 => ?_) (fun h4 => absurd (show nI 500 < nI 501 by decide) h4)
      exact at_no hQ 3 (by omega) (by decide) (qc_13 hfr) (fun mp h => ⟨rI mp 55 (mp.1 53), qm_c _ (Or.inl rfl), by rw [hS mp h, soon_no (h3m mp h) (fun j h1 hj => by rw [sn mp h]; exact hb j (h1 rfl) hj)]⟩)) (by
      intro k hk ih H hfr e hb
      have hg := hwq.go k
      have hw2 : WF (rw_ H 13) := by rw [e]; exact hg.1
      refine run hG [55] 60 ?_
      refine And.intro (fun h4 => absurd (show nI 500 < nI (k + 1) from h4) (by rw [nI_ltI (by omega) (by omega)]; omega)) (fun h4 => ?_)
      refine And.intro hw2 ?_
      rintro v hr ⟨rfl, e2, hf2⟩
      have e2 : rw_ hr 13 = minF (rw_ H 13) := e2
      have e3 : rw_ hr 13 = goF g (k + 1) := by rw [e2, e]; rfl
      have ex := rw_wk hr 13 (i := x.toNatClampNeg) (j := 2) hl8 (by omega)
      have ey := rw_wk hr 13 (i := x.toNatClampNeg) (j := 1) hl8 (by omega)
      rw [e3] at ex ey
      refine And.intro (fun h5 => ?_) (fun h5 => ?_)
      · have h5 : ¬ hr.1 (13 + 4 + x.toNatClampNeg) 2 = hr.1 (13 + 4 + x.toNatClampNeg) 1 := h5
        rw [← ex, ← ey] at h5
        refine cl_lv hG [(3, vI (nI (k + 1) + nI 1)), (2, vR 2 (13 + 4 + x.toNatClampNeg)), (1, vI x), (0, vR 0 0)] ⟨rfl, rfl, rfl, rfl, trivial⟩ ?_
        rw [nI_s]
        refine ih hr (frm_t hfr hf2.1) e3 (fun j hj1 hj => ?_)
        by_cases ej : j = k + 1
        · subst ej
          exact decide_eq_false h5
        · exact hb j hj1 (by omega)
      · have h5 : hr.1 (13 + 4 + x.toNatClampNeg) 2 = hr.1 (13 + 4 + x.toNatClampNeg) 1 := h5
        rw [← ex, ← ey] at h5
        exact at_q hQ (qc_13 (frm_t hfr hf2.1)) (fun mp h => ⟨rI mp 55 (mp.1 53), qm_c _ (Or.inl rfl), by rw [hS mp h, soon_at (n := k + 1) (h3m mp h) (by omega) (fun _ => by omega) (by rw [sn mp h]; exact decide_eq_true h5) (fun j h1 hj => by rw [sn mp h]; exact hb j (h1 rfl) (by omega))]⟩)) 0 (by omega)
    refine run hG [55] 60 ?_
    refine And.intro h8 ?_
    exact cl_use hG (key hq hfq hgg (fun j h1 hj => absurd hj (by omega))) ⟨rfl, rfl, rfl, rfl, trivial⟩
  · have h3 : ltB (rw_ hp 1) (nI 500) = true := bB_1.mp h3
    exact at_no hQ 4 (by omega) (by decide) (qc_r hp) (fun mp h => ⟨mp, qm_r mp, by rw [hS mp h, soon_lt (by rw [← ltB_ag h.ag, h3])]⟩)
theorem sc_X4_home {own : String} {F L idx : Nat} (h1 : Cond.methodLink own idx yX4_home ∈ Gw) (hF : 5 ≤ F) (hL : 119 ≤ L) : SC own F L (idx, false, 2, sp_X4_home) := SC_V spF_mono c_X4_home okd_0 (fun as hp K h => by obtain ⟨x, hx, -⟩ := spF_e h; exact ⟨_, _, d_C_I_e hx⟩) h1 gw_519 gw_520 gw_69 gw_521 (by decide +kernel) hF hL
