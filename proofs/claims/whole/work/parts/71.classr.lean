/-! what lies ahead -/
theorem qm_c {mp : HP} {c : Nat} (g : Nat → Int32) (hc : c = 55 ∨ c = 56 ∨ c = 58 ∨ c = 59) : qm mp (rI mp c g) := by
  have e : ∀ d, d ≠ c → (rI mp c g).1 d = mp.1 d := fun d h => rI_ne _ _ h
  refine ⟨e _ (by omega), e _ (by omega), e _ (by omega), e _ (by omega), e _ (by omega), e _ (by omega), rfl, by rw [e _ (by omega)], by rw [e _ (by omega)]⟩
theorem qm_t {mp mq mr : HP} (h : qm mp mq) (h2 : qm mq mr) : qm mp mr := by
  obtain ⟨a1, a2, a3, a4, a5, a6, a7, a8, a9⟩ := h
  obtain ⟨b1, b2, b3, b4, b5, b6, b7, b8, b9⟩ := h2
  exact ⟨b1.trans a1, b2.trans a2, b3.trans a3, b4.trans a4, b5.trans a5, b6.trans a6, b7.trans a7, b8.trans a8, b9.trans a9⟩
theorem rc_ah {hp hq mp : HP} (h : RC hp mp) (ha : ag (rw_ hp 1) (rw_ hq 13)) : ag (mp.1 53) (rw_ hq 13) := h.ag.trans ha
def sp_X4_on : SP := spF d_C_II (fun _ hp => RX hp) (fun x hp v hq => PO (F_on x.1 x.2) hp v hq)
def E_X4_on : EN := [(128, false, 2, sp_X4_isWalker), (78, true, 3, sp_X4_isWithin), (63, false, 2, sp_X4_tell), (167, false, 2, sp_X4_isTooLate), (190, false, 2, sp_X3_takeFrom), (171, false, 2, sp_X3_goMinutes)]
set_option maxRecDepth 100000 in
set_option maxHeartbeats 4000000 in
theorem c_X4_on : Ctr M_X4_on sp_X4_on := by
  refine ctr_of (own := RX4) M_X4_on sp_X4_on (P := P_X4_on) (K := K_X4) (E := E_X4_on) (by decide) rfl pk_X4_on K_X4_ok (List.forall_mem_cons.mpr ⟨sc_X4_isWalker gw_390 (by decide) (by decide), List.forall_mem_cons.mpr ⟨sc_X4_isWithin gw_285 (by decide) (by decide), List.forall_mem_cons.mpr ⟨sc_X4_tell gw_298 (by decide) (by decide), List.forall_mem_cons.mpr ⟨sc_X4_isTooLate gw_455 (by decide) (by decide), List.forall_mem_cons.mpr ⟨sc_X3_takeFrom gw_497 (by decide) (by decide), List.forall_mem_cons.mpr ⟨sc_X3_goMinutes gw_460 (by decide) (by decide), fun _ h => absurd h List.not_mem_nil⟩⟩⟩⟩⟩⟩) (fun as hp Q h => by obtain ⟨x, hx, -⟩ := spF_e h; rw [d_C_II_e hx]; exact Nat.le_of_ble_eq_true rfl) ?_
  intro Q G hQi hG as hp h
  obtain ⟨x, hx, hpre, hQ⟩ := spF_e h
  rw [d_C_II_e hx]
  clear h hx
  obtain ⟨w, n⟩ := x
  try dsimp only at hpre hQ ⊢
  obtain ⟨m0, h0⟩ := hpre
  have no : ¬ (inB w (mN (rw_ hp 1)) = true ∧ inB n 501 = true) → ∀ mp, RC hp mp → ∃ mq, qm mp mq ∧ F_on w n mp = noP mq 0 := fun h mp h2 => ⟨mp, qm_r mp, if_neg (by rw [h2.mn]; exact h)⟩
  refine run hG [] 60 ?_
  refine And.intro ⟨m0, h0⟩ ?_
  refine And.intro (fun h1 => at_no hQ 0 (by omega) (by decide) (qc_r hp) (no (fun h => by rw [bB_0.mp h1] at h; exact absurd h.1 (by decide)))) (fun h1 => ?_)
  have h1 : inB w (mN (rw_ hp 1)) = true := bB_1.mp h1
  obtain ⟨h8, hl, hl8⟩ := h0.w8 h1
  refine And.intro trivial ?_
  refine And.intro (fun h2 => ?_) (fun h2 => at_no hQ 0 (by omega) (by decide) (qc_r hp) (no (fun h => by rw [← in_b (by omega), show (decide (nI 0 ≤ n) && decide (n ≤ nI 500)) = false from bB_0.mp h2] at h; exact absurd h.2 (by decide))))
  have h2 : inB n 501 = true := (in_b (by omega)).symm.trans (bB_1.mp h2)
  have hc : ∀ mp, RC hp mp → inB w (mN (mp.1 53)) = true ∧ inB n 501 = true := fun mp h => ⟨by rw [h.mn]; exact h1, h2⟩
  refine And.intro trivial ?_
  refine And.intro (fun h3 => ?_) (fun h3 => ?_)
  · have h3 : ltB (rw_ hp 1) n = false := bB_0.mp h3
    refine And.intro ⟨Or.inr (by decide), h0.wc⟩ ?_
    rintro v hq ⟨rfl, ha, hf, -⟩
    refine And.intro ⟨(rc_ah h0 ha).wf h0.wf, in_mono (inB_t.mp h2) (by omega)⟩ ?_
    rintro v hr ⟨rfl, e2, hf2⟩
    have e2 : rw_ hr 13 = goF (rw_ hq 13) n.toNatClampNeg := e2
    refine And.intro h8 ?_
    show Q (some (vI (hr.1 (13 + 4 + w.toNatClampNeg) 2))) hr
    rw [← rw_wk hr 13 hl8 (by omega), e2]
    refine at_q hQ (qc_13 (frm_t hf hf2.1)) (fun mp h => ⟨rI mp 55 (mp.1 53), qm_c _ (Or.inl rfl), ?_⟩)
    unfold F_on
    rw [if_pos (hc mp h), if_neg (by rw [← ltB_ag h.ag, h3]; decide), ((rc_ah h ha).go h.wf n.toNatClampNeg).wk (by rw [(h.wf.go _).2, h.mn]; exact hl) (by omega)]
  · have h3 : ltB (rw_ hp 1) n = true := bB_1.mp h3
    refine at_no hQ 4 (by omega) (by decide) (qc_r hp) (fun mp h => ⟨mp, qm_r mp, ?_⟩)
    unfold F_on
    rw [if_pos (hc mp h), if_pos (by rw [← ltB_ag h.ag, h3])]
theorem sc_X4_on {own : String} {F L idx : Nat} (h1 : Cond.methodLink own idx yX4_on ∈ Gw) (hF : 6 ≤ F) (hL : 141 ≤ L) : SC own F L (idx, false, 3, sp_X4_on) := SC_V spF_mono c_X4_on okd_0 (fun as hp K h => by obtain ⟨x, hx, -⟩ := spF_e h; exact ⟨_, _, d_C_II_e hx⟩) h1 gw_494 gw_495 gw_69 gw_496 (by decide +kernel) hF hL
theorem fst_at {p : Nat → Bool} {k : Nat} (hk : p k = true) : ∀ n a, a ≤ k → k ≤ a + n → (∀ j, a ≤ j → j < k → p j = false) → fst_ p n a = k
  | 0, a, h1, h2, _ => by unfold fst_; omega
  | n + 1, a, h1, h2, h => by
    unfold fst_
    by_cases e : a = k
    · subst e
      rw [if_pos hk]
    · rw [if_neg (by rw [h a (by omega) (by omega)]; decide)]
      exact fst_at hk n (a + 1) (by omega) (by omega) (fun j h3 h4 => h j (by omega) h4)
theorem soon_lt {k w o : Int32} {mp : HP} (h : ltB (mp.1 53) (nI 500) = true) : F_soon k w o mp = noP mp 4 := by
  unfold F_soon
  rw [if_pos h]
theorem soon_at {k w o : Int32} {mp : HP} {n : Nat} (h : ltB (mp.1 53) (nI 500) = false) (hn : n ≤ 500) (ha : k = nI 2 → 1 ≤ n) (hp : snP (mp.1 53) k w.toNatClampNeg o.toNatClampNeg n = true) (hb : ∀ j, (k = nI 2 → 1 ≤ j) → j < n → snP (mp.1 53) k w.toNatClampNeg o.toNatClampNeg j = false) : F_soon k w o mp = (nI n, rI mp 55 (mp.1 53)) := by
  unfold F_soon
  rw [if_neg (by rw [h]; decide)]
  have e : snN (mp.1 53) k w.toNatClampNeg o.toNatClampNeg = n := by
    unfold snN
    split
    · next h2 =>
      have := ha h2
      exact fst_at hp _ _ (by omega) (by omega) (fun j h3 h4 => hb j (fun _ => h3) h4)
    · next h2 => exact fst_at hp _ _ (by omega) (by omega) (fun j h3 h4 => hb j (fun h => absurd h h2) h4)
  unfold snR
  rw [e, if_pos hp]
theorem soon_no {k w o : Int32} {mp : HP} (h : ltB (mp.1 53) (nI 500) = false) (hb : ∀ j, (k = nI 2 → 1 ≤ j) → j ≤ 500 → snP (mp.1 53) k w.toNatClampNeg o.toNatClampNeg j = false) : F_soon k w o mp = noP (rI mp 55 (mp.1 53)) 3 := by
  unfold F_soon
  rw [if_neg (by rw [h]; decide)]
  unfold snR
  rw [if_neg]
  unfold snN
  split
  · have := fst_le (snP (mp.1 53) k w.toNatClampNeg o.toNatClampNeg) 499 1
    rw [hb _ (fun _ => this.1) (by omega)]
    decide
  · next h2 =>
    have := fst_le (snP (mp.1 53) k w.toNatClampNeg o.toNatClampNeg) 500 0
    rw [hb _ (fun h => absurd h h2) (by omega)]
    decide
theorem ag_isB {f g : Nat → Int32} (h : ag f g) (hf : WF f) {w o : Nat} (hw : w < mN f) (ho : o < mN f) (k : Int32) : isB g k w o = isB f k w o := by
  unfold isB
  rw [h.inr hf hw, h.wk hw (by omega), h.wk ho (by omega), h.wk hw (by omega)]
theorem ag.sn {f g : Nat → Int32} (h : ag f g) (hf : WF f) {w o : Nat} (hw : w < mN f) (ho : o < mN f) (k : Int32) (n : Nat) : snP g k w o n = snP f k w o n := by
  unfold snP
  have hg := hf.go n
  exact ag_isB (h.go hf n) hg.1 (by rw [hg.2]; exact hw) (by rw [hg.2]; exact ho) k
theorem inR_bit {hp : HP} {w i : Nat} (hf : WF (rw_ hp w)) (hi : i < mN (rw_ hp w)) : vp_in (hp.1 (w + 4 + i) 2) 25 ∧ bI (hp.1 w 3) (hp.1 (w + 4 + i) 2).toNatClampNeg = (if inR (rw_ hp w) i = true then nI 1 else nI 0) := by
  have hm := many_wc hf.many
  have e := rw_wk hp w (i := i) (j := 2) (by omega) (by omega)
  have h := (hf.wk (w := i) hi).2.2.1
  rw [e] at h
  refine ⟨h, ?_⟩
  have h25 := ix_lt h
  have e2 := rw_rv hp w h25
  have h01 := bI_01 (hp.1 w 3) (d := (hp.1 (w + 4 + i) 2).toNatClampNeg) (by omega)
  unfold inR plc
  rw [e, e2]
  rcases h01 with h0 | h0 <;> rw [h0] <;> decide
def sp_X4_river : SP := spF d_C_I (fun _ hp => RX hp) (fun x hp v hq => PO (F_river x) hp v hq)
def E_X4_river : EN := [(128, false, 2, sp_X4_isWalker), (63, false, 2, sp_X4_tell), (167, false, 2, sp_X4_isTooLate), (190, false, 2, sp_X3_takeFrom), (94, false, 2, sp_X3_isRiver), (194, false, 1, sp_X3_goMinute)]
set_option maxRecDepth 100000 in
set_option maxHeartbeats 4000000 in
theorem c_X4_river : Ctr M_X4_river sp_X4_river := by
  refine ctr_of (own := RX4) M_X4_river sp_X4_river (P := P_X4_river) (K := K_X4) (E := E_X4_river) (by decide) rfl pk_X4_river K_X4_ok (List.forall_mem_cons.mpr ⟨sc_X4_isWalker gw_390 (by decide) (by decide), List.forall_mem_cons.mpr ⟨sc_X4_tell gw_298 (by decide) (by decide), List.forall_mem_cons.mpr ⟨sc_X4_isTooLate gw_455 (by decide) (by decide), List.forall_mem_cons.mpr ⟨sc_X3_takeFrom gw_497 (by decide) (by decide), List.forall_mem_cons.mpr ⟨sc_X3_isRiver gw_346 (by decide) (by decide), List.forall_mem_cons.mpr ⟨sc_X3_goMinute gw_512 (by decide) (by decide), fun _ h => absurd h List.not_mem_nil⟩⟩⟩⟩⟩⟩) (fun as hp Q h => by obtain ⟨x, hx, -⟩ := spF_e h; rw [d_C_I_e hx]; exact Nat.le_of_ble_eq_true rfl) ?_
  intro Q G hQi hG as hp h
  obtain ⟨x, hx, hpre, hQ⟩ := spF_e h
  rw [d_C_I_e hx]
  clear h hx
  try dsimp only at hpre hQ ⊢
  obtain ⟨m0, h0⟩ := hpre
  refine run hG [43] 60 ?_
  refine And.intro ⟨m0, h0⟩ ?_
  refine And.intro (fun h1 => ?_) (fun h1 => at_no hQ 0 (by omega) (by decide) (qc_r hp) (fun mp h => ⟨mp, qm_r mp, if_neg (by rw [h.mn, bB_0.mp h1]; decide)⟩))
  have h1 : inB x (mN (rw_ hp 1)) = true := bB_1.mp h1
  obtain ⟨h8, hl, hl8⟩ := h0.w8 h1
  have hS : ∀ mp, RC hp mp → F_river x mp = F_soon (nI 0) x x mp := fun mp h => if_pos (by rw [h.mn]; exact h1)
  refine And.intro trivial ?_
  refine And.intro (fun h3 => ?_) (fun h3 => ?_)
  · have h3 : ltB (rw_ hp 1) (nI 500) = false := bB_0.mp h3
    have h3m : ∀ mp, RC hp mp → ltB (mp.1 53) (nI 500) = false := fun mp h => by rw [← ltB_ag h.ag, h3]
    refine And.intro ⟨Or.inr (by decide), h0.wc⟩ ?_
    rintro v hq ⟨rfl, ha, hf, -⟩
    have hfq : frm 13 hp hq := hf
    have ha : ag (rw_ hp 1) (rw_ hq 13) := ha
    have hwq := (rc_ah h0 ha).wf h0.wf
    have hmq : mN (rw_ hq 13) = mN (rw_ hp 1) := ha.mn
    have sn : ∀ mp, RC hp mp → ∀ n, snP (mp.1 53) (nI 0) x.toNatClampNeg x.toNatClampNeg n = inR (goF (rw_ hq 13) n) x.toNatClampNeg := fun mp h n => ((rc_ah h ha).sn h.wf (by rw [h.mn]; exact hl) (by rw [h.mn]; exact hl) (nI 0) n).symm
    generalize hgg : rw_ hq 13 = g at hwq hmq sn
    have key := for_up (P := fun k => ∀ H : HP, frm 13 hp H → rw_ H 13 = goF g k → (∀ j, j < k → inR (goF g j) x.toNatClampNeg = false) → G 55 [(3, vI (nI k)), (2, vR 2 (13 + 4 + x.toNatClampNeg)), (1, vI x), (0, vR 0 0)] [] H) 501 (by
      intro H hfr e hb
      refine run hG [55] 60 ?_
      refine And.intro (fun h4 => ?_) (fun h4 => absurd (show nI 500 < nI 501 by decide) h4)
      exact at_no hQ 3 (by omega) (by decide) (qc_13 hfr) (fun mp h => ⟨rI mp 55 (mp.1 53), qm_c _ (Or.inl rfl), by rw [hS mp h, soon_no (h3m mp h) (fun j _ hj => by rw [sn mp h]; exact hb j (by omega))]⟩)) (by
      intro k hk ih H hfr e hb
      have hg := hwq.go k
      have hw2 : WF (rw_ H 13) := by rw [e]; exact hg.1
      have hi : x.toNatClampNeg < mN (rw_ H 13) := by rw [e, hg.2, hmq]; exact hl
      have hbit := inR_bit hw2 hi
      rw [e] at hbit
      refine run hG [55] 60 ?_
      refine And.intro (fun h4 => absurd (show nI 500 < nI k from h4) (by rw [nI_ltI (by omega) (by omega)]; omega)) (fun h4 => ?_)
      refine And.intro hbit.1 ?_
      refine And.intro (fun h5 => ?_) (fun h5 => ?_)
      · have h5 : bI (H.1 13 3) (H.1 (13 + 4 + x.toNatClampNeg) 2).toNatClampNeg = 0 := h5
        rw [hbit.2] at h5
        refine And.intro hw2 ?_
        rintro v hr ⟨rfl, e2, hf2⟩
        have e2 : rw_ hr 13 = minF (rw_ H 13) := e2
        refine cl_lv hG [(3, vI (nI k + nI 1)), (2, vR 2 (13 + 4 + x.toNatClampNeg)), (1, vI x), (0, vR 0 0)] ⟨rfl, rfl, rfl, rfl, trivial⟩ ?_
        rw [nI_s]
        refine ih hr (frm_t hfr hf2.1) (by rw [e2, e]; rfl) (fun j hj => ?_)
        by_cases ej : j = k
        · subst ej
          cases hb2 : inR (goF g j) x.toNatClampNeg with
          | false => rfl
          | true => rw [hb2, if_pos rfl] at h5; exact absurd h5 (by decide)
        · exact hb j (by omega)
      · have h5 : ¬ bI (H.1 13 3) (H.1 (13 + 4 + x.toNatClampNeg) 2).toNatClampNeg = 0 := h5
        rw [hbit.2] at h5
        have h6 : inR (goF g k) x.toNatClampNeg = true := by
          cases hb2 : inR (goF g k) x.toNatClampNeg with
          | true => rfl
          | false => rw [hb2, if_neg (by decide)] at h5; exact absurd rfl h5
        exact at_q hQ (qc_13 hfr) (fun mp h => ⟨rI mp 55 (mp.1 53), qm_c _ (Or.inl rfl), by rw [hS mp h, soon_at (n := k) (h3m mp h) (by omega) (fun h => absurd h (by decide)) (by rw [sn mp h]; exact h6) (fun j _ hj => by rw [sn mp h]; exact hb j hj)]⟩)) 0 (by omega)
    refine run hG [55] 60 ?_
    refine And.intro h8 ?_
    exact cl_use hG (key hq hfq hgg (fun j hj => absurd hj (by omega))) ⟨rfl, rfl, rfl, rfl, trivial⟩
  · have h3 : ltB (rw_ hp 1) (nI 500) = true := bB_1.mp h3
    exact at_no hQ 4 (by omega) (by decide) (qc_r hp) (fun mp h => ⟨mp, qm_r mp, by rw [hS mp h, soon_lt (by rw [← ltB_ag h.ag, h3])]⟩)
theorem sc_X4_river {own : String} {F L idx : Nat} (h1 : Cond.methodLink own idx yX4_river ∈ Gw) (hF : 5 ≤ F) (hL : 119 ≤ L) : SC own F L (idx, false, 2, sp_X4_river) := SC_V spF_mono c_X4_river okd_0 (fun as hp K h => by obtain ⟨x, hx, -⟩ := spF_e h; exact ⟨_, _, d_C_I_e hx⟩) h1 gw_509 gw_510 gw_69 gw_511 (by decide +kernel) hF hL
