def sp_X4_whose : SP := spF d_C_I (fun _ hp => RX hp) (fun x hp v hq => PO (F_whose x) hp v hq)
def E_X4_whose : EN := [(248, true, 1, sp_X4_isSheet), (63, false, 2, sp_X4_tell), (255, false, 1, sp_X0_isMissing), (167, false, 2, sp_X4_isTooLate), (190, false, 2, sp_X3_takeFrom), (97, false, 2, sp_X3_walkersAt), (194, false, 1, sp_X3_goMinute)]
set_option maxRecDepth 100000 in
set_option maxHeartbeats 4000000 in
theorem c_X4_whose : Ctr M_X4_whose sp_X4_whose := by
  refine ctr_of (own := RX4) M_X4_whose sp_X4_whose (P := P_X4_whose) (K := K_X4) (E := E_X4_whose) (by decide) rfl pk_X4_whose K_X4_ok (List.forall_mem_cons.mpr ⟨sc_X4_isSheet gw_740 (by decide) (by decide), List.forall_mem_cons.mpr ⟨sc_X4_tell gw_298 (by decide) (by decide), List.forall_mem_cons.mpr ⟨sc_X0_isMissing gw_752 (by decide) (by decide), List.forall_mem_cons.mpr ⟨sc_X4_isTooLate gw_455 (by decide) (by decide), List.forall_mem_cons.mpr ⟨sc_X3_takeFrom gw_497 (by decide) (by decide), List.forall_mem_cons.mpr ⟨sc_X3_walkersAt gw_347 (by decide) (by decide), List.forall_mem_cons.mpr ⟨sc_X3_goMinute gw_512 (by decide) (by decide), fun _ h => absurd h List.not_mem_nil⟩⟩⟩⟩⟩⟩⟩) (fun as hp Q h => by obtain ⟨x, hx, -⟩ := spF_e h; rw [d_C_I_e hx]; exact Nat.le_of_ble_eq_true rfl) ?_
  intro Q G hQi hG as hp h
  obtain ⟨x, hx, hpre, hQ⟩ := spF_e h
  rw [d_C_I_e hx]
  clear h hx
  obtain ⟨m0, h0⟩ := hpre
  refine run hG [76] 60 ?_
  refine And.intro trivial ?_
  refine And.intro (fun h1 => ?_) (fun h1 => at_no hQ 0 (by omega) (by decide) (qc_r hp) (fun mp h => ⟨mp, qm_r mp, if_neg (by rw [bB_0.mp h1]; decide)⟩))
  have h1 : inB x 4 = true := bB_1.mp h1
  have hS := ix_lt (inB_t.mp h1)
  have hF : ∀ mp, RC hp mp → F_whose x mp = (if hp.1 (40 + x.toNatClampNeg) 0 = 0 then noP mp 5 else (if ltB (rw_ hp 1) (nI 500) = true then noP mp 4 else whR (mp.1 53) (nI 0) (rI mp 55 (mp.1 53)) (fst_ (whP (whM (mp.1 53) (mp.2 65) x.toNatClampNeg (hp.1 (40 + x.toNatClampNeg) 1).toNatClampNeg)) (mN (rw_ hp 1)) 0))) := fun mp h => by
    unfold F_whose
    rw [if_pos h1, h.bits hS, (h.ln hS).1, h.mn, ← ltB_ag h.ag]
  obtain ⟨l1, l2, l3⟩ := h0.ln hS
  generalize lnN m0 x.toNatClampNeg = l at l1 l2 l3
  rw [← l1] at hF
  refine And.intro (inB_t.mp h1) ?_
  refine And.intro trivial ?_
  refine And.intro (fun h2 => ?_) (fun h2 => at_no hQ 5 (by omega) (by decide) (qc_r hp) (fun mp h => ⟨mp, qm_r mp, by rw [hF mp h, if_pos (of_decide_eq_true (bB_1.mp h2))]⟩))
  have h2 : ¬ hp.1 (40 + x.toNatClampNeg) 0 = 0 := of_decide_eq_false (bB_0.mp h2)
  refine And.intro trivial ?_
  refine And.intro (fun h4 => ?_) (fun h4 => at_no hQ 4 (by omega) (by decide) (qc_r hp) (fun mp h => ⟨mp, qm_r mp, by rw [hF mp h, if_neg h2, if_pos (show ltB (rw_ hp 1) (nI 500) = true from bB_1.mp h4)]⟩))
  have h4 : ltB (rw_ hp 1) (nI 500) = false := bB_0.mp h4
  have hn := h0.c12
  refine And.intro ⟨Or.inr (by decide), h0.wc⟩ ?_
  rintro v hq ⟨rfl, ha, hf, -⟩
  have ha : ag (rw_ hp 1) (rw_ hq 13) := ha
  have hf : frm 13 hp hq := hf
  have hwq := (rc_ah h0 ha).wf h0.wf
  have hmq : mN (rw_ hq 13) = mN (rw_ hp 1) := ha.mn
  have hpl : ∀ mp, RC hp mp → ∀ i k, k < mN (rw_ hp 1) → goF (rw_ hq 13) i (144 + 5 * k + 2) = goF (mp.1 53) i (144 + 5 * k + 2) := fun mp h i k hk => ((rc_ah h ha).go h.wf i).wk (by rw [(h.wf.go i).2, h.mn]; exact hk) (by omega)
  have h6 : ∀ mp, RC hp mp → mp.1 53 6 = nI (mN (rw_ hp 1)) := fun mp h => by rw [h.lo (by omega), rw_6, hn.2]
  have hmm : ∀ mp, RC hp mp → mN (mp.1 53) = mN (rw_ hp 1) := fun mp h => h.mn
  have hcc : ∀ mp, RC hp mp → ∀ j, j < 40 → hp.2 (40 + x.toNatClampNeg + 4) j = mp.2 65 (40 * x.toNatClampNeg + j) := fun mp h j hj => by
    rw [show 40 + x.toNatClampNeg + 4 = 44 + x.toNatClampNeg by omega]
    exact (h.sh hS).2.2.2.2 j hj
  generalize x.toNatClampNeg = S at hF hS l3 h2 hcc
  generalize hgg : rw_ hq 13 = g at hwq hmq hpl
  generalize mN (rw_ hp 1) = n at hn hmq hpl h6 hmm hF
  have hb : ∀ mp, RC hp mp → ∀ k, k < n → bI (wc g (hp.2 (40 + S + 4)) n l) k = bI (whM (mp.1 53) (mp.2 65) S l) k := fun mp h => wc_wh hn.1 (h6 mp h) (hpl mp h) l (fun j hj => hcc mp h j (by omega))
  have second : ∀ H, frm 13 hp H → G 119 [(3, vI (wc g (hp.2 (40 + S + 4)) n l)), (2, vR 4 (40 + S)), (0, vR 0 0)] [] H := by
    intro H hfr
    have e12 : H.1 1 12 = nI n := by rw [(hfr 1 (by omega)).1]; exact hn.2
    generalize wc g (hp.2 (40 + S + 4)) n l = M at hb
    have hw : ∀ mp, RC hp mp → ∀ k, k < n → whP (whM (mp.1 53) (mp.2 65) S l) k = decide (¬ bI M k = 0) := fun mp h k hk => by
      unfold whP
      rw [hb mp h k hk]
      rfl
    have key := for_up (P := fun k => (∀ j, j < k → bI M j = 0) → G 122 [(4, vI (nI k)), (3, vI M), (2, vR 4 (40 + S)), (0, vR 0 0)] [] H) n (by
      intro hj
      refine run hG [122] 60 ?_
      refine And.intro (fun _ => ?_) (fun h => absurd (show H.1 1 12 ≤ nI n by rw [e12]; exact nI_le (Nat.le_refl _) (by omega)) h)
      refine at_no hQ 3 (by omega) (by decide) (qc_13 hfr) (fun mp h => ⟨rI mp 55 (mp.1 53), qm_c _ (Or.inl rfl), ?_⟩)
      rw [hF mp h, if_neg h2, if_neg (by rw [h4]; decide), fst_none n 0 (fun j _ hj2 => by rw [hw mp h j (by omega)]; exact decide_eq_false (fun h => h (hj j (by omega))))]
      unfold whR
      rw [if_neg (by rw [hmm mp h]; omega)]) (by
      intro k hk ih hj
      refine run hG [122] 60 ?_
      refine And.intro (fun h => ?_) (fun _ => ?_)
      · have h : H.1 1 12 ≤ nI k := h
        rw [e12] at h
        exact absurd h (nI_ge hk (by omega))
      refine And.intro (fun h5 => ?_) (fun h5 => ?_)
      · have h5 : bI M k = 0 := h5
        refine cl_lv hG [(4, vI (nI k + nI 1)), (3, vI M), (2, vR 4 (40 + S)), (0, vR 0 0)] ⟨rfl, rfl, rfl, rfl, trivial⟩ ?_
        rw [nI_s]
        refine ih (fun j hj2 => ?_)
        by_cases e : j = k
        · rw [e]; exact h5
        · exact hj j (by omega)
      · have h5 : ¬ bI M k = 0 := h5
        refine at_q hQ (qc_13 hfr) (fun mp h => ⟨rI mp 55 (mp.1 53), qm_c _ (Or.inl rfl), ?_⟩)
        rw [hF mp h, if_neg h2, if_neg (by rw [h4]; decide), fst_at (k := k) (by rw [hw mp h k hk]; exact decide_eq_true h5) n 0 (by omega) (by omega) (fun j _ hj2 => by rw [hw mp h j (by omega)]; exact decide_eq_false (fun h => h (hj j hj2)))]
        unfold whR
        rw [if_pos (by rw [hmm mp h]; exact hk)]) 0 (by omega)
    refine run hG [122] 60 ?_
    exact cl_use hG (key (fun j hj => absurd hj (by omega))) ⟨rfl, rfl, rfl, rfl, trivial⟩
  have key := for_up (P := fun k => ∀ H, frm 13 hp H → rw_ H 13 = goF g k → G 79 [(4, vI (nI k)), (3, vI (wc g (hp.2 (40 + S + 4)) n k)), (2, vR 4 (40 + S)), (0, vR 0 0)] [] H) l (by
    intro H hfr e
    have e1 : H.1 (40 + S) 1 = nI l := by rw [(hfr (40 + S) (by omega)).1]; exact l3
    refine run hG [79, 119] 60 ?_
    refine And.intro (fun _ => ?_) (fun h => absurd (show H.1 (40 + S) 1 ≤ nI l by rw [e1]; exact nI_le (Nat.le_refl _) (by omega)) h)
    exact cl_use hG (second H hfr) ⟨rfl, rfl, rfl, trivial⟩) (by
    intro k hk ih H hfr e
    have ih : ∀ H, frm 13 hp H → rw_ H 13 = goF g (k + 1) → G 79 [(4, vI (nI (k + 1))), (3, vI (wc g (hp.2 (40 + S + 4)) n k &&& waN (goF g k) (hp.2 (40 + S + 4) k) n)), (2, vR 4 (40 + S)), (0, vR 0 0)] [] H := ih
    generalize wc g (hp.2 (40 + S + 4)) n k = M at ih
    have e1 : H.1 (40 + S) 1 = nI l := by rw [(hfr (40 + S) (by omega)).1]; exact l3
    have e2 : H.2 (40 + S + 4) = hp.2 (40 + S + 4) := (hfr (40 + S + 4) (by omega)).2
    have ek : (nI k).toNatClampNeg = k := nI_clamp (by omega)
    have hg := hwq.go k
    have hw2 : WF (rw_ H 13) := by rw [e]; exact hg.1
    have hm2 : mN (rw_ H 13) = n := by rw [e, hg.2, hmq]
    refine run hG [104] 60 ?_
    refine And.intro (fun h => ?_) (fun _ => ?_)
    · have h : H.1 (40 + S) 1 ≤ nI k := h
      rw [e1] at h
      exact absurd h (nI_ge hk (by omega))
    refine And.intro (vp_in_nI (by omega) (by omega)) ?_
    refine And.intro hw2.many ?_
    show G 104 _ [vI (M &&& waN (rw_ H 13) (H.2 (40 + S + 4) (nI k).toNatClampNeg) (mN (rw_ H 13)))] H
    rw [e2, ek, hm2, e]
    refine run hG [79] 60 ?_
    refine And.intro hw2 ?_
    rintro v hr ⟨rfl, e3, hf3⟩
    have e3 : rw_ hr 13 = minF (rw_ H 13) := e3
    refine cl_lv hG [(4, vI (nI k + nI 1)), (3, vI (M &&& waN (goF g k) (hp.2 (40 + S + 4) k) n)), (2, vR 4 (40 + S)), (0, vR 0 0)] ⟨rfl, rfl, rfl, rfl, trivial⟩ ?_
    rw [nI_s]
    exact ih hr (frm_t hfr hf3.1) (by rw [e3, e]; rfl)) 0 (by omega)
  have k0 : G 79 [(4, vI (nI 0)), (3, vI (nI 1 <<< (nI n &&& 31) - nI 1)), (2, vR 4 (40 + S)), (0, vR 0 0)] [] hq := key hq hf hgg
  refine run hG [79] 60 ?_
  refine cl_lv hG [(4, vI (nI 0)), (3, vI (nI 1 <<< (hp.1 1 12 &&& 31) - nI 1)), (2, vR 4 (40 + S)), (0, vR 0 0)] ⟨rfl, rfl, rfl, rfl, trivial⟩ ?_
  rw [hn.2]
  exact k0
theorem sc_X4_whose {own : String} {F L idx : Nat} (h1 : Cond.methodLink own idx yX4_whose ∈ Gw) (hF : 5 ≤ F) (hL : 120 ≤ L) : SC own F L (idx, false, 2, sp_X4_whose) := SC_V spF_mono c_X4_whose okd_0 (fun as hp K h => by obtain ⟨x, hx, -⟩ := spF_e h; exact ⟨_, _, d_C_I_e hx⟩) h1 gw_779 gw_780 gw_69 gw_781 (by decide +kernel) hF hL
