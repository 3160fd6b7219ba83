theorem gm_mono (f : Nat → Int32) (a : Nat) : ∀ d, gm f a ≤ gm f (a + d)
  | 0 => Nat.le_refl _
  | d + 1 => by
    show gm f a ≤ gm f (a + d) + cm (goF f (a + d)) (mN f)
    have := gm_mono f a d
    omega
theorem cnt_f : ∀ m, cnt (fun _ => false) m = 0
  | 0 => rfl
  | m + 1 => by show cnt _ m + 0 = 0; rw [cnt_f m]
theorem rv_gm {f : Nat → Int32} (h : WF f) (k : Nat) : rvV (goF f k) = rvV f ↔ gm f k = 0 := by
  have hg := h.go k
  have h8 := mN_lt h
  rw [gm_cnt h k]
  refine ⟨fun e => ?_, fun e => ?_⟩
  · rw [cnt_cg (q := fun _ => false) _ (fun w hw => ?_), cnt_f]
    have b1 := rvV_bit hg.1 (k := w) (by omega)
    have b2 := rvV_bit h (k := w) (by omega)
    rw [e, b2, hg.2] at b1
    cases ha : inR (goF f k) w <;> cases hb : inR f w <;> simp [ha, hb, hw] at b1 ⊢
    exact absurd b1 (by decide)
  · have h0 := cnt_0 _ e
    show fold (irG (goF f k)) (nI 0) (mN (goF f k)) = fold (irG f) (nI 0) (mN f)
    rw [hg.2]
    refine fold_cg _ (fun w s hw => ?_)
    unfold irG
    have hw0 := h0 w hw
    have e2 : inR (goF f k) w = inR f w := by
      cases hb : inR f w with
      | true => exact inR_go h hw hb k
      | false =>
        cases ha : inR (goF f k) w with
        | false => rfl
        | true => simp [hw, ha, hb] at hw0
    rw [e2]
theorem sf_gm {f : Nat → Int32} (h : WF f) (n : Nat) : sfB f n = decide (gm f n = 0) := by
  have hp : ∀ k, sfP f k = decide (¬ gm f k = 0) := fun k => by
    unfold sfP
    exact decide_eq_decide.mpr (not_congr (rv_gm h k))
  have hl := fst_le (sfP f) n 0
  unfold sfB
  by_cases e : gm f n = 0
  · have : gm f (fst_ (sfP f) n 0) = 0 := by
      have := gm_mono f (fst_ (sfP f) n 0) (n - fst_ (sfP f) n 0)
      rw [show fst_ (sfP f) n 0 + (n - fst_ (sfP f) n 0) = n by omega] at this
      omega
    rw [hp, this, decide_eq_true e]
    rfl
  · rw [decide_eq_false e]
    have : sfP f (fst_ (sfP f) n 0) = true := by
      by_cases e2 : fst_ (sfP f) n 0 < 0 + n
      · exact fst_t n 0 e2
      · rw [show fst_ (sfP f) n 0 = n by omega, hp]
        exact decide_eq_true e
    rw [this]
    rfl
/-- more doors shut -/
def orF (f : Nat → Int32) (x : Int64) : Nat → Int32 := fun k => if 94 ≤ k ∧ k < 119 ∧ bJ x (2 * (k - 94)) = nI 1 then nI 1 else if 119 ≤ k ∧ k < 144 ∧ bJ x (2 * (k - 119) + 1) = nI 1 then nI 1 else f k
theorem orF_o {f : Nat → Int32} {x : Int64} {k : Nat} (h : k < 94 ∨ 144 ≤ k) : orF f x k = f k := by
  unfold orF
  rw [if_neg (by omega), if_neg (by omega)]
theorem ag_or {f g : Nat → Int32} (h : ag f g) (x : Int64) : ag (orF f x) (orF g x) := by
  have em : mN (orF f x) = mN f := by unfold mN; rw [orF_o (by omega)]
  refine ⟨by rw [orF_o (by omega), orF_o (by omega)]; exact h.1, fun k hk => ?_⟩
  rw [em] at hk
  unfold orF
  rw [h.2 k hk]
theorem WF_or {f : Nat → Int32} (h : WF f) (x : Int64) : WF (orF f x) := by
  obtain ⟨⟨n, hn, e6, hw⟩, hfl, r, hr, e5, hrd, h4⟩ := h
  refine ⟨⟨n, hn, by rw [orF_o (by omega)]; exact e6, fun w hw2 => wk_same (hw w hw2) (fun j _ => orF_o (by omega))⟩, fun k h1 h2 => ?_, r, hr, by rw [orF_o (by omega)]; exact e5, fun k hk => by rw [orF_o (by omega)]; exact hrd k hk, by rw [orF_o (by omega)]; exact h4⟩
  unfold orF
  split
  · exact vp_in_nI (by omega) (by omega)
  · split
    · exact vp_in_nI (by omega) (by omega)
    · exact hfl k h1 h2
theorem bJ_orr (x y : Int64) {d : Nat} (hd : d < 64) : bJ (x ||| y) d = if bJ y d = nI 1 then nI 1 else bJ x d := by
  rw [bJ_eq _ hd, bJ_eq _ hd, bJ_eq _ hd, Int64.toBitVec_or, BitVec.getLsbD_or]
  cases x.toBitVec.getLsbD d <;> cases y.toBitVec.getLsbD d <;> decide
theorem rw_or (H : HP) (w : Nat) (x : Int64) : rw_ (uL H w 0 (H.2 w 0 ||| x)) w = orF (rw_ H w) x := by
  funext k
  unfold orF rw_
  have e1 : (uL H w 0 (H.2 w 0 ||| x)).1 = H.1 := rfl
  have e2 : (uL H w 0 (H.2 w 0 ||| x)).2 w 0 = H.2 w 0 ||| x := by rw [uL_r, rL_eq, upL_at, if_pos rfl]
  rw [e1, e2]
  by_cases h7 : k < 7
  · rw [if_pos h7, if_neg (by omega), if_neg (by omega), if_pos h7]
  by_cases h19 : k < 19
  · rw [if_neg h7, if_pos h19, if_neg (by omega), if_neg (by omega), if_neg h7, if_pos h19]
  by_cases h44 : k < 44
  · rw [if_neg h7, if_neg h19, if_pos h44, if_neg (by omega), if_neg (by omega), if_neg h7, if_neg h19, if_pos h44]
  by_cases h69 : k < 69
  · rw [if_neg h7, if_neg h19, if_neg h44, if_pos h69, if_neg (by omega), if_neg (by omega), if_neg h7, if_neg h19, if_neg h44, if_pos h69]
  by_cases h94 : k < 94
  · rw [if_neg h7, if_neg h19, if_neg h44, if_neg h69, if_pos h94, if_neg (by omega), if_neg (by omega), if_neg h7, if_neg h19, if_neg h44, if_neg h69, if_pos h94]
  by_cases h119 : k < 119
  · rw [if_neg h7, if_neg h19, if_neg h44, if_neg h69, if_neg h94, if_pos h119, bJ_orr _ _ (by omega)]
    by_cases hb : bJ x (2 * (k - 94)) = nI 1
    · rw [if_pos hb, if_pos ⟨by omega, h119, hb⟩]
    · rw [if_neg hb, if_neg (fun h => hb h.2.2), if_neg (by omega), if_neg h7, if_neg h19, if_neg h44, if_neg h69, if_neg h94, if_pos h119]
  by_cases h144 : k < 144
  · rw [if_neg h7, if_neg h19, if_neg h44, if_neg h69, if_neg h94, if_neg h119, if_pos h144, bJ_orr _ _ (by omega), if_neg (c := 94 ≤ k ∧ k < 119 ∧ bJ x (2 * (k - 94)) = nI 1) (by omega)]
    by_cases hb : bJ x (2 * (k - 119) + 1) = nI 1
    · rw [if_pos hb, if_pos ⟨by omega, h144, hb⟩]
    · rw [if_neg hb, if_neg (fun h => hb h.2.2), if_neg h7, if_neg h19, if_neg h44, if_neg h69, if_neg h94, if_neg h119, if_pos h144]
  · rw [if_neg (c := 94 ≤ k ∧ k < 119 ∧ bJ x (2 * (k - 94)) = nI 1) (by omega), if_neg (c := 119 ≤ k ∧ k < 144 ∧ bJ x (2 * (k - 119) + 1) = nI 1) (by omega)]
    simp only [if_neg h7, if_neg h19, if_neg h44, if_neg h69, if_neg h94, if_neg h119, if_neg h144]
theorem or_zero (f : Nat → Int32) : orF f (lN 0) = f := by
  funext k
  have e : ∀ d, bJ (lN 0) d = nI 0 := fun d => by
    unfold bJ sJ
    rw [if_pos]
    apply Int64.toBitVec_inj.mp
    rw [Int64.toBitVec_and]
    show ((0 : UInt64) >>> _).toBitVec &&& _ = _
    rw [UInt64.zero_shiftRight]
    rfl
  unfold orF
  rw [if_neg (fun h => absurd (h.2.2.symm.trans (e _)) (by decide)), if_neg (fun h => absurd (h.2.2.symm.trans (e _)) (by decide))]
def sp_X4_isSafe : SP := spF d_C_JI (fun x hp => RX hp ∧ vp_in x.2 1000) (fun x hp v hq => v = some (vI (bB (decide (gm (orF (rw_ hp 1) x.1) x.2.toNatClampNeg = 0)))) ∧ frm 13 hp hq)
def E_X4_isSafe : EN := [(190, false, 2, sp_X3_takeFrom), (194, false, 1, sp_X3_goMinute)]
set_option maxRecDepth 100000 in
set_option maxHeartbeats 4000000 in
theorem c_X4_isSafe : Ctr M_X4_isSafe sp_X4_isSafe := by
  refine ctr_of (own := RX4) M_X4_isSafe sp_X4_isSafe (P := P_X4_isSafe) (K := K_X4) (E := E_X4_isSafe) (by decide) rfl pk_X4_isSafe K_X4_ok (List.forall_mem_cons.mpr ⟨sc_X3_takeFrom gw_497 (by decide) (by decide), List.forall_mem_cons.mpr ⟨sc_X3_goMinute gw_512 (by decide) (by decide), fun _ h => absurd h List.not_mem_nil⟩⟩) (fun as hp Q h => by obtain ⟨x, hx, -⟩ := spF_e h; rw [d_C_JI_e hx]; exact Nat.le_of_ble_eq_true rfl) ?_
  intro Q G hQi hG as hp h
  obtain ⟨x, hx, hpre, hQ⟩ := spF_e h
  rw [d_C_JI_e hx]
  clear h hx
  obtain ⟨L, n⟩ := x
  try dsimp only at hpre hQ ⊢
  obtain ⟨⟨m0, h0⟩, hn⟩ := hpre
  obtain ⟨n, hn, rfl⟩ := vp_in_of hn (by omega)
  rw [nI_clamp (by omega)] at hQ
  refine run hG [11] 60 ?_
  refine And.intro ⟨Or.inr (by decide), h0.wc⟩ ?_
  rintro v hq ⟨rfl, ha, hf, -⟩
  have ha : ag (rw_ hp 1) (rw_ hq 13) := ha
  have hf : frm 13 hp hq := hf
  have hag := ag_or ha L
  have hwf := WF_or h0.wc L
  have hQ : ∀ b hr, frm 13 hp hr → decide (gm (orF (rw_ hq 13) L) n = 0) = b → Q (some (vI (bB b))) hr := fun b hr h e => hQ _ _ ⟨by rw [← e, gm_ag hag hwf], h⟩
  have hwg := hag.wf hwf
  generalize hgg : orF (rw_ hq 13) L = g at hQ hwg
  have key := for_up (P := fun k => ∀ H : HP, frm 13 hp H → rw_ H 13 = goF g k → gm g k = 0 → G 27 [(4, vI (nI k)), (3, vI (nI n)), (0, vR 0 0)] [] H) n (by
    intro H hfr e hz
    refine run hG [27] 60 ?_
    exact And.intro (fun h1 => And.intro (Or.inr rfl) (hQ true H hfr (decide_eq_true hz))) (fun h1 => absurd (show nI n ≤ nI n from nI_le (Nat.le_refl _) (by omega)) h1)) (by
    intro k hk ih H hfr e hz
    have hw2 : WF (rw_ H 13) := by rw [e]; exact (hwg.go k).1
    have hm2 : mN (rw_ H 13) = mN g := by rw [e]; exact (hwg.go k).2
    have hc := cm_le (rw_ H 13) (mN (rw_ H 13))
    have h8 := mN_lt hw2
    have hs : gm g (k + 1) = cm (rw_ H 13) (mN (rw_ H 13)) := by
      show gm g k + cm (goF g k) (mN g) = _
      rw [hz, hm2, e, Nat.zero_add]
    refine run hG [27] 60 ?_
    refine And.intro (fun h1 => absurd (show nI n ≤ nI k from h1) (nI_ge hk (by omega))) (fun h1 => ?_)
    refine And.intro hw2 ?_
    rintro v hr ⟨rfl, e2, hf2⟩
    have e2 : rw_ hr 13 = minF (rw_ H 13) := e2
    have hfr2 := frm_t hfr hf2.1
    refine And.intro (fun h2 => ?_) (fun h2 => ?_)
    · have h2 : nI (cm (rw_ H 13) (mN (rw_ H 13))) ≤ nI 0 := h2
      rw [nI_leI (by omega) (by omega)] at h2
      refine cl_lv hG [(4, vI (nI k + nI 1)), (3, vI (nI n)), (0, vR 0 0)] ⟨rfl, rfl, rfl, trivial⟩ ?_
      rw [nI_s]
      exact ih hr hfr2 (by rw [e2, e]; rfl) (by omega)
    · have h2 : ¬ nI (cm (rw_ H 13) (mN (rw_ H 13))) ≤ nI 0 := h2
      rw [nI_leI (by omega) (by omega)] at h2
      refine And.intro (Or.inl rfl) (hQ false hr hfr2 (decide_eq_false ?_))
      have := gm_mono g (k + 1) (n - (k + 1))
      rw [show k + 1 + (n - (k + 1)) = n by omega] at this
      omega) 0 (by omega)
  refine run hG [27] 60 ?_
  refine cl_lv hG [(4, vI (nI 0)), (3, vI (nI n)), (0, vR 0 0)] ⟨rfl, rfl, rfl, trivial⟩ ?_
  show G 27 _ [] (uL hq 13 0 (hq.2 13 0 ||| L))
  exact key _ (frm_uL hf (by omega) (by omega)) (by rw [rw_or, hgg]; rfl) rfl
theorem sc_X4_isSafe {own : String} {F L idx : Nat} (h1 : Cond.methodLink own idx yX4_isSafe ∈ Gw) (hF : 5 ≤ F) (hL : 120 ≤ L) : SC own F L (idx, false, 3, sp_X4_isSafe) := SC_V spF_mono c_X4_isSafe okd_0 (fun as hp K h => by obtain ⟨x, hx, -⟩ := spF_e h; exact ⟨_, _, d_C_JI_e hx⟩) h1 gw_528 gw_3 gw_69 gw_529 (by decide +kernel) hF hL
def sp_X4_safe : SP := spF d_C_I (fun _ hp => RX hp) (fun x hp v hq => PO (F_safe x) hp v hq)
def E_X4_safe : EN := [(78, true, 3, sp_X4_isWithin), (63, false, 2, sp_X4_tell), (167, false, 2, sp_X4_isTooLate), (198, false, 3, sp_X4_isSafe)]
set_option maxRecDepth 100000 in
set_option maxHeartbeats 4000000 in
theorem c_X4_safe : Ctr M_X4_safe sp_X4_safe := by
  refine ctr_of (own := RX4) M_X4_safe sp_X4_safe (P := P_X4_safe) (K := K_X4) (E := E_X4_safe) (by decide) rfl pk_X4_safe K_X4_ok (List.forall_mem_cons.mpr ⟨sc_X4_isWithin gw_285 (by decide) (by decide), List.forall_mem_cons.mpr ⟨sc_X4_tell gw_298 (by decide) (by decide), List.forall_mem_cons.mpr ⟨sc_X4_isTooLate gw_455 (by decide) (by decide), List.forall_mem_cons.mpr ⟨sc_X4_isSafe gw_526 (by decide) (by decide), fun _ h => absurd h List.not_mem_nil⟩⟩⟩⟩) (fun as hp Q h => by obtain ⟨x, hx, -⟩ := spF_e h; rw [d_C_I_e hx]; exact Nat.le_of_ble_eq_true rfl) ?_
  intro Q G hQi hG as hp h
  obtain ⟨x, hx, hpre, hQ⟩ := spF_e h
  rw [d_C_I_e hx]
  clear h hx
  obtain ⟨m0, h0⟩ := hpre
  refine run hG [] 60 ?_
  refine And.intro trivial ?_
  refine And.intro (fun h1 => ?_) (fun h1 => at_no hQ 0 (by omega) (by decide) (qc_r hp) (fun mp h => ⟨mp, qm_r mp, if_neg (and_f (bB_0.mp h1))⟩))
  have h1 : nI 1 ≤ x ∧ x ≤ nI 500 := and_t.mp (bB_1.mp h1)
  refine And.intro trivial ?_
  refine And.intro (fun h2 => ?_) (fun h2 => ?_)
  · have h2 : ltB (rw_ hp 1) x = false := bB_0.mp h2
    refine And.intro ⟨⟨m0, h0⟩, in_k h1 (by omega) (by omega) (by omega)⟩ ?_
    rintro v hq ⟨rfl, hf⟩
    have hf : frm 13 hp hq := hf
    have val : ∀ mp, RC hp mp → F_safe x mp = (bB (decide (gm (orF (rw_ hp 1) (lN 0)) x.toNatClampNeg = 0)), rI mp 55 (mp.1 53)) := fun mp h => by
      unfold F_safe
      rw [if_pos h1, if_neg (by rw [← ltB_ag h.ag, h2]; decide), sf_gm h.wf, or_zero, gm_ag h.ag h.wf]
    refine And.intro (fun h3 => ?_) (fun h3 => ?_)
    · have h3 : decide (gm (orF (rw_ hp 1) (lN 0)) x.toNatClampNeg = 0) = false := bB_0.mp h3
      exact at_q hQ (qc_13 hf) (fun mp h => ⟨rI mp 55 (mp.1 53), qm_c _ (Or.inl rfl), by rw [val mp h, h3]; rfl⟩)
    · have h3 : decide (gm (orF (rw_ hp 1) (lN 0)) x.toNatClampNeg = 0) = true := bB_1.mp h3
      exact at_q hQ (qc_13 hf) (fun mp h => ⟨rI mp 55 (mp.1 53), qm_c _ (Or.inl rfl), by rw [val mp h, h3]; rfl⟩)
  · have h2 : ltB (rw_ hp 1) x = true := bB_1.mp h2
    refine at_no hQ 4 (by omega) (by decide) (qc_r hp) (fun mp h => ⟨mp, qm_r mp, ?_⟩)
    unfold F_safe
    rw [if_pos h1, if_pos (by rw [← ltB_ag h.ag, h2])]
theorem sc_X4_safe {own : String} {F L idx : Nat} (h1 : Cond.methodLink own idx yX4_safe ∈ Gw) (hF : 6 ≤ F) (hL : 141 ≤ L) : SC own F L (idx, false, 2, sp_X4_safe) := SC_V spF_mono c_X4_safe okd_0 (fun as hp K h => by obtain ⟨x, hx, -⟩ := spF_e h; exact ⟨_, _, d_C_I_e hx⟩) h1 gw_523 gw_524 gw_69 gw_525 (by decide +kernel) hF hL
