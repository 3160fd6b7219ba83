def tr2 (g : Nat → Int32) (c : Nat → Int64) (b : Int32) (w : Nat) : Nat → (Nat → Int64)
  | 0 => c
  | k + 1 => vp_updL (tr2 g c b w k) k (ptV b (goF g k (144 + 5 * w + 2)).toInt64)
theorem tr_in {f g : Nat → Int32} {c C : Nat → Int64} {b : Int32} {s w : Nat} (hg : ∀ k, goF g k (144 + 5 * w + 2) = goF f k (144 + 5 * w + 2)) (hc : ∀ j, j < 40 → c j = C (40 * s + j)) (hb : btB b = true) (h0 : ¬ b = 0) : ∀ n, n ≤ 40 → ∀ j, j < 40 → tr2 g c b w n j = trR f C b s w n (40 * s + j)
  | 0, _, j, hj => hc j hj
  | n + 1, hn, j, hj => by
    show vp_updL (tr2 g c b w n) n _ j = vp_updL (trR f C b s w n) (40 * s + n) _ (40 * s + j)
    rw [upL_at, upL_at]
    by_cases e : j = n
    · rw [if_pos e, if_pos (by omega), hg n, pt_ct hb h0]
    · rw [if_neg e, if_neg (by omega)]
      exact tr_in hg hc hb h0 n (by omega) j hj
theorem tr_out {f : Nat → Int32} {C : Nat → Int64} {b : Int32} {s w : Nat} : ∀ n, n ≤ 40 → ∀ k, (k < 40 * s ∨ 40 * s + 40 ≤ k) → trR f C b s w n k = C k
  | 0, _, k, hk => rfl
  | n + 1, hn, k, hk => by
    show vp_updL (trR f C b s w n) (40 * s + n) _ k = _
    rw [upL_at, if_neg (by omega)]
    exact tr_out n (by omega) k hk
theorem qm_65 (mp : HP) (f : Nat → Int32) (u : Nat → Int64) : qm (rL mp 65 u) (rL (rI mp 55 f) 65 u) := by
  have e : ∀ c, c ≠ 55 → (rI mp 55 f).1 c = mp.1 c := fun c h => rI_ne _ _ h
  refine ⟨e 53 (by omega), e 54 (by omega), e 57 (by omega), e 62 (by omega), e 63 (by omega), e 64 (by omega), by rw [rL_eq, rL_eq], ?_, ?_⟩
  · show (rI mp 55 f).1 52 4 = mp.1 52 4
    rw [e 52 (by omega)]
  · show (rI mp 55 f).1 52 11 = mp.1 52 11
    rw [e 52 (by omega)]
def sp_X4_track : SP := spF d_C_II (fun _ hp => RX hp) (fun x hp v hq => PO (F_track x.1 x.2) hp v hq)
def E_X4_track : EN := [(248, true, 1, sp_X4_isSheet), (63, false, 2, sp_X4_tell), (255, false, 1, sp_X0_isMissing), (128, false, 2, sp_X4_isWalker), (167, false, 2, sp_X4_isTooLate), (190, false, 2, sp_X3_takeFrom), (263, false, 3, sp_X0_putNumber), (194, false, 1, sp_X3_goMinute)]
set_option maxRecDepth 100000 in
set_option maxHeartbeats 4000000 in
theorem c_X4_track : Ctr M_X4_track sp_X4_track := by
  refine ctr_of (own := RX4) M_X4_track sp_X4_track (P := P_X4_track) (K := K_X4) (E := E_X4_track) (by decide) rfl pk_X4_track K_X4_ok (List.forall_mem_cons.mpr ⟨sc_X4_isSheet gw_740 (by decide) (by decide), List.forall_mem_cons.mpr ⟨sc_X4_tell gw_298 (by decide) (by decide), List.forall_mem_cons.mpr ⟨sc_X0_isMissing gw_752 (by decide) (by decide), List.forall_mem_cons.mpr ⟨sc_X4_isWalker gw_390 (by decide) (by decide), List.forall_mem_cons.mpr ⟨sc_X4_isTooLate gw_455 (by decide) (by decide), List.forall_mem_cons.mpr ⟨sc_X3_takeFrom gw_497 (by decide) (by decide), List.forall_mem_cons.mpr ⟨sc_X0_putNumber gw_757 (by decide) (by decide), List.forall_mem_cons.mpr ⟨sc_X3_goMinute gw_512 (by decide) (by decide), fun _ h => absurd h List.not_mem_nil⟩⟩⟩⟩⟩⟩⟩⟩) (fun as hp Q h => by obtain ⟨x, hx, -⟩ := spF_e h; rw [d_C_II_e hx]; exact Nat.le_of_ble_eq_true rfl) ?_
  intro Q G hQi hG as hp h
  obtain ⟨x, hx, hpre, hQ⟩ := spF_e h
  rw [d_C_II_e hx]
  clear h hx
  obtain ⟨s, w⟩ := x
  try dsimp only at hpre hQ ⊢
  obtain ⟨m0, h0⟩ := hpre
  refine run hG [79] 60 ?_
  refine And.intro trivial ?_
  refine And.intro (fun h1 => ?_) (fun h1 => at_no hQ 0 (by omega) (by decide) (qc_r hp) (fun mp h => ⟨mp, qm_r mp, if_neg (by rw [bB_0.mp h1]; decide)⟩))
  have h1 : inB s 4 = true := bB_1.mp h1
  have hS := ix_lt (inB_t.mp h1)
  have hF : ∀ mp, RC hp mp → F_track s w mp = (if hp.1 (40 + s.toNatClampNeg) 0 = 0 then noP mp 5 else (if inB w (mN (rw_ hp 1)) = true then (if ltB (rw_ hp 1) (nI 500) = true then noP mp 4 else (hp.1 (40 + s.toNatClampNeg) 1, rL (rI mp 55 (mp.1 53)) 65 (trR (mp.1 53) (mp.2 65) (hp.1 (40 + s.toNatClampNeg) 0) s.toNatClampNeg w.toNatClampNeg (hp.1 (40 + s.toNatClampNeg) 1).toNatClampNeg))) else noP mp 0)) := fun mp h => by
    unfold F_track
    rw [if_pos h1, h.bits hS, (h.ln hS).1, h.len hS, h.mn, ← ltB_ag h.ag]
  obtain ⟨l1, l2, l3⟩ := h0.ln hS
  generalize lnN m0 s.toNatClampNeg = l at l1 l2 l3
  rw [← l1] at hF
  refine And.intro (inB_t.mp h1) ?_
  refine And.intro trivial ?_
  refine And.intro (fun h2 => ?_) (fun h2 => at_no hQ 5 (by omega) (by decide) (qc_r hp) (fun mp h => ⟨mp, qm_r mp, by rw [hF mp h, if_pos (of_decide_eq_true (bB_1.mp h2))]⟩))
  have h2 : ¬ hp.1 (40 + s.toNatClampNeg) 0 = 0 := of_decide_eq_false (bB_0.mp h2)
  refine And.intro ⟨m0, h0⟩ ?_
  refine And.intro (fun h3 => ?_) (fun h3 => at_no hQ 0 (by omega) (by decide) (qc_r hp) (fun mp h => ⟨mp, qm_r mp, by rw [hF mp h, if_neg h2, if_neg (by rw [bB_0.mp h3]; decide)]⟩))
  have h3 : inB w (mN (rw_ hp 1)) = true := bB_1.mp h3
  obtain ⟨h8, hl, hl8⟩ := h0.w8 h3
  refine And.intro trivial ?_
  refine And.intro (fun h4 => ?_) (fun h4 => at_no hQ 4 (by omega) (by decide) (qc_r hp) (fun mp h => ⟨mp, qm_r mp, by rw [hF mp h, if_neg h2, if_pos h3, if_pos (show ltB (rw_ hp 1) (nI 500) = true from bB_1.mp h4)]⟩))
  have h4 : ltB (rw_ hp 1) (nI 500) = false := bB_0.mp h4
  refine And.intro ⟨Or.inr (by decide), h0.wc⟩ ?_
  rintro v hq ⟨rfl, ha, hf, -⟩
  have ha : ag (rw_ hp 1) (rw_ hq 13) := ha
  have hf : frm 13 hp hq := hf
  have hwq := (rc_ah h0 ha).wf h0.wf
  have hpl : ∀ mp, RC hp mp → ∀ k, goF (rw_ hq 13) k (144 + 5 * w.toNatClampNeg + 2) = goF (mp.1 53) k (144 + 5 * w.toNatClampNeg + 2) := fun mp h k => ((rc_ah h ha).go h.wf k).wk (by rw [(h.wf.go k).2, h.mn]; exact hl) (by omega)
  have hcc : ∀ mp, RC hp mp → (∀ j, j < 40 → hp.2 (44 + s.toNatClampNeg) j = mp.2 65 (40 * s.toNatClampNeg + j)) ∧ btB (hp.1 (40 + s.toNatClampNeg) 0) = true := fun mp h => ⟨(h.sh hS).2.2.2.2, by rw [(h.sh hS).1]; exact (h.sh hS).2.2.2.1⟩
  generalize s.toNatClampNeg = S at hF hS l3 h2 hcc
  generalize hgg : rw_ hq 13 = g at hwq hpl
  generalize hbb : hp.1 (40 + S) 0 = b at hF h2 hcc
  have e44 : 40 + S + 4 = 44 + S := by omega
  have key := for_up (P := fun k => ∀ H, frm 13 (rL hp (44 + S) (tr2 g (hp.2 (44 + S)) b w.toNatClampNeg k)) H → rw_ H 13 = goF g k → G 82 [(4, vI (nI k)), (3, vR 4 (40 + S)), (2, vI w), (0, vR 0 0)] [] H) l (by
    intro H hfr e
    have e1 : H.1 (40 + S) 1 = nI l := by rw [(hfr (40 + S) (by omega)).1]; exact l3
    refine run hG [82] 60 ?_
    refine And.intro (fun _ => ?_) (fun h => absurd (show H.1 (40 + S) 1 ≤ nI l by rw [e1]; exact nI_le (Nat.le_refl _) (by omega)) h)
    refine hQ _ _ ⟨fun c hc => ⟨(hfr c (by omega)).1, by rw [(hfr c (by omega)).2, rL_ne _ _ (by omega)]⟩, fun mp h => ?_⟩
    rw [hF mp h, if_neg h2, if_pos h3, if_neg (by rw [h4]; decide)]
    refine ⟨by rw [e1, l3], ?_⟩
    exact (h.num hS (tr_in (hpl mp h) (hcc mp h).1 (hcc mp h).2 h2 l l2) (fun k _ hk => tr_out l l2 k hk)).q (qc_13 hfr) (qm_65 _ _ _)) (by
    intro k hk ih H hfr e
    have e1 : H.1 (40 + S) 1 = nI l := by rw [(hfr (40 + S) (by omega)).1]; exact l3
    have e0 : H.1 (40 + S) 0 = b := by rw [(hfr (40 + S) (by omega)).1]; exact hbb
    have e2 : H.2 (44 + S) = tr2 g (hp.2 (44 + S)) b w.toNatClampNeg k := by rw [(hfr (44 + S) (by omega)).2, rL_eq]
    have ek : (nI k).toNatClampNeg = k := nI_clamp (by omega)
    have ep : H.1 (13 + 4 + w.toNatClampNeg) 2 = goF g k (144 + 5 * w.toNatClampNeg + 2) := by rw [← rw_wk H 13 hl8 (by omega), e]
    refine run hG [110] 60 ?_
    refine And.intro (fun h => ?_) (fun _ => ?_)
    · have h : H.1 (40 + S) 1 ≤ nI k := h
      rw [e1] at h
      exact absurd h (nI_ge hk (by omega))
    refine And.intro h8 ?_
    refine And.intro (vp_in_nI (by omega) (by omega)) ?_
    show G 110 _ [] (uL H (40 + S + 4) (nI k).toNatClampNeg (ptV (H.1 (40 + S) 0) (H.1 (13 + 4 + w.toNatClampNeg) 2).toInt64))
    rw [e44, ek, e0, ep, uL_r, e2]
    have hfr2 : frm 13 (rL hp (44 + S) (tr2 g (hp.2 (44 + S)) b w.toNatClampNeg (k + 1))) (rL H (44 + S) (vp_updL (tr2 g (hp.2 (44 + S)) b w.toNatClampNeg k) k (ptV b (goF g k (144 + 5 * w.toNatClampNeg + 2)).toInt64))) := fun c hc => by
      refine ⟨(hfr c hc).1, ?_⟩
      by_cases ec : c = 44 + S
      · rw [ec, rL_eq, rL_eq]
        rfl
      · rw [rL_ne _ _ ec, rL_ne _ _ ec, (hfr c hc).2, rL_ne _ _ ec]
    have erow : rw_ (rL H (44 + S) (vp_updL (tr2 g (hp.2 (44 + S)) b w.toNatClampNeg k) k (ptV b (goF g k (144 + 5 * w.toNatClampNeg + 2)).toInt64))) 13 = goF g k := by
      rw [← e]
      exact rw_cg (fun c a b => ⟨rfl, rL_ne _ _ (by omega)⟩)
    generalize rL H (44 + S) (vp_updL (tr2 g (hp.2 (44 + S)) b w.toNatClampNeg k) k (ptV b (goF g k (144 + 5 * w.toNatClampNeg + 2)).toInt64)) = H2 at hfr2 erow
    refine run hG [82] 60 ?_
    refine And.intro (show WF (rw_ H2 13) by rw [erow]; exact (hwq.go k).1) ?_
    rintro v hr ⟨rfl, e3, hf3⟩
    have e3 : rw_ hr 13 = minF (rw_ H2 13) := e3
    refine cl_lv hG [(4, vI (nI k + nI 1)), (3, vR 4 (40 + S)), (2, vI w), (0, vR 0 0)] ⟨rfl, rfl, rfl, rfl, trivial⟩ ?_
    rw [nI_s]
    exact ih hr (frm_t hfr2 hf3.1) (by rw [e3, erow]; rfl)) 0 (by omega)
  refine run hG [82] 60 ?_
  refine cl_use hG (key hq (fun c hc => ⟨(hf c hc).1, ?_⟩) hgg) ⟨rfl, rfl, rfl, rfl, trivial⟩
  rw [(hf c hc).2]
  show hp.2 c = (rL hp (44 + S) (hp.2 (44 + S))).2 c
  rw [rL_self]
theorem sc_X4_track {own : String} {F L idx : Nat} (h1 : Cond.methodLink own idx yX4_track ∈ Gw) (hF : 5 ≤ F) (hL : 120 ≤ L) : SC own F L (idx, false, 3, sp_X4_track) := SC_V spF_mono c_X4_track okd_0 (fun as hp K h => by obtain ⟨x, hx, -⟩ := spF_e h; exact ⟨_, _, d_C_II_e hx⟩) h1 gw_775 gw_776 gw_69 gw_777 (by decide +kernel) hF hL
theorem bI_and (x y : Int32) {d : Nat} (hd : d < 32) : bI (x &&& y) d = if bI y d = nI 1 then bI x d else nI 0 := by
  rw [bI_eq _ hd, bI_eq _ hd, bI_eq _ hd, Int32.toBitVec_and, BitVec.getLsbD_and]
  cases x.toBitVec.getLsbD d <;> cases y.toBitVec.getLsbD d <;> decide
theorem wa_bit (g : Nat → Int32) (v : Int64) {n k : Nat} (hn : n ≤ 8) (hk : k < 25) : bI (waN g v n) k = if k < n ∧ decide ((g (144 + 5 * k + 2)).toInt64 = v) = true then nI 1 else nI 0 := by
  rw [← bI_set (fun w => decide ((g (144 + 5 * w + 2)).toInt64 = v)) hk n (by omega)]
  unfold waN
  rw [fold_cg n (fun w s _ => ?_)]
  by_cases h : (g (144 + 5 * w + 2)).toInt64 = v
  · rw [if_pos h, if_pos (decide_eq_true h)]
  · rw [if_neg h, if_neg (fun h2 => h (of_decide_eq_true h2)), or_0]
theorem bI_m1 {d : Nat} (hd : d < 32) : bI (-1) d = nI 1 := by
  rw [bI_eq _ hd, if_pos]
  have : (-1 : Int32).toBitVec = BitVec.allOnes 32 := by decide
  rw [this, BitVec.getLsbD_allOnes]
  exact decide_eq_true hd
theorem wh_bit (f : Nat → Int32) (c : Nat → Int64) (s i : Nat) (m : Int32) {k : Nat} (hk : k < 25) : ∀ n, n ≤ 8 → bI (fold (whG f c s i) m n) k = if k < n ∧ ¬ c (40 * s + i) = (goF f i (144 + 5 * k + 2)).toInt64 then nI 0 else bI m k
  | 0, _ => by rw [if_neg (by omega)]; rfl
  | n + 1, hn => by
    show bI (fold (whG f c s i) m n &&& (if c (40 * s + i) = (goF f i (144 + 5 * n + 2)).toInt64 then -1 else nI 1 <<< (nI n &&& 31) ^^^ -1)) k = _
    have ih := wh_bit f c s i m hk n (by omega)
    by_cases h : c (40 * s + i) = (goF f i (144 + 5 * n + 2)).toInt64
    · rw [if_pos h, bI_and _ _ (by omega), bI_m1 (by omega), if_pos rfl, ih]
      by_cases e : k < n ∧ ¬ c (40 * s + i) = (goF f i (144 + 5 * k + 2)).toInt64
      · rw [if_pos e, if_pos ⟨by omega, e.2⟩]
      · rw [if_neg e, if_neg (fun h2 => e ⟨?_, h2.2⟩)]
        by_cases ek : k = n
        · subst ek
          exact absurd h h2.2
        · omega
    · rw [if_neg h, bI_an _ (by omega) hk, ih]
      by_cases ek : k = n
      · subst ek
        rw [if_pos rfl, if_pos ⟨by omega, h⟩]
      · rw [if_neg ek]
        by_cases e : k < n ∧ ¬ c (40 * s + i) = (goF f i (144 + 5 * k + 2)).toInt64
        · rw [if_pos e, if_pos ⟨by omega, e.2⟩]
        · rw [if_neg e, if_neg (fun h2 => e ⟨by omega, h2.2⟩)]
def wc (g : Nat → Int32) (c : Nat → Int64) (n : Nat) : Nat → Int32
  | 0 => nI 1 <<< (nI n &&& 31) - nI 1
  | i + 1 => wc g c n i &&& waN (goF g i) (c i) n
theorem wc_wh {f g : Nat → Int32} {c C : Nat → Int64} {s n : Nat} (hn : n ≤ 8) (h6 : f 6 = nI n) (hg : ∀ i k, k < n → goF g i (144 + 5 * k + 2) = goF f i (144 + 5 * k + 2)) : ∀ l, (∀ j, j < l → c j = C (40 * s + j)) → ∀ k, k < n → bI (wc g c n l) k = bI (whM f C s l) k
  | 0, _, k, hk => by
    show bI (nI 1 <<< (nI n &&& 31) - nI 1) k = bI (nI 1 <<< (f 6 &&& 31) - nI 1) k
    rw [h6]
  | l + 1, hc, k, hk => by
    have hm : mN f = n := by unfold mN; rw [h6, nI_clamp (by omega)]
    show bI (wc g c n l &&& waN (goF g l) (c l) n) k = bI (fold (whG f C s l) (whM f C s l) (mN f)) k
    rw [hm, bI_and _ _ (by omega), wa_bit _ _ hn (by omega), wh_bit _ _ _ _ _ (by omega) n hn, wc_wh hn h6 hg l (fun j hj => hc j (by omega)) k hk, hc l (by omega), hg l k hk]
    by_cases e : C (40 * s + l) = (goF f l (144 + 5 * k + 2)).toInt64
    · rw [if_pos (c := k < n ∧ decide ((goF f l (144 + 5 * k + 2)).toInt64 = C (40 * s + l)) = true) ⟨hk, decide_eq_true e.symm⟩, if_pos rfl, if_neg (fun h => h.2 e)]
    · rw [if_neg (c := k < n ∧ decide ((goF f l (144 + 5 * k + 2)).toInt64 = C (40 * s + l)) = true) (fun h => e (of_decide_eq_true h.2).symm), if_neg (by decide), if_pos ⟨hk, e⟩]
