def sp_X4_doorsOf : SP := spP d_C_II (fun x _ => ∃ m, m ≤ 12 ∧ x.2 = nI m) (fun x hp => vL (dsV (hp.1 48) x.1 x.2.toNatClampNeg))
def E_X4_doorsOf : EN := []
set_option maxRecDepth 100000 in
set_option maxHeartbeats 4000000 in
theorem c_X4_doorsOf : Ctr M_X4_doorsOf sp_X4_doorsOf := by
  refine ctr_of (own := RX4) M_X4_doorsOf sp_X4_doorsOf (P := P_X4_doorsOf) (K := K_X4) (E := E_X4_doorsOf) (by decide) rfl pk_X4_doorsOf K_X4_ok (fun _ h => absurd h List.not_mem_nil) (fun as hp Q h => by obtain ⟨x, hx, -⟩ := spP_e h; rw [d_C_II_e hx]; exact Nat.le_of_ble_eq_true rfl) ?_
  intro Q G hQi hG as hp h
  obtain ⟨x, hx, hpre, hQ⟩ := spP_e h
  rw [d_C_II_e hx]
  clear h hx
  obtain ⟨s, m⟩ := x
  try dsimp only at hpre hQ ⊢
  obtain ⟨m, hm, rfl⟩ := hpre
  rw [nI_clamp (by omega)] at hQ
  have key := for_up (P := fun k => G 5 [(5, vI (nI k)), (3, vL (dsV (hp.1 48) s k)), (2, vI (nI m)), (1, vI s), (0, vR 0 0)] [] hp) m (by
    refine run hG [5] 60 ?_
    exact And.intro (fun h1 => hQ) (fun h1 => absurd (show nI m ≤ nI m from nI_le (Nat.le_refl _) (by omega)) h1)) (by
    intro k hk ih
    have ih : G 5 [(5, vI (nI (k + 1))), (3, vL (if bI s k = 0 then dsV (hp.1 48) s k else dsV (hp.1 48) s k ||| lN 1 <<< ((hp.1 48 k).toInt64 &&& 63))), (2, vI (nI m)), (1, vI s), (0, vR 0 0)] [] hp := ih
    show G 5 [(5, vI (nI k)), (3, vL (dsV (hp.1 48) s k)), (2, vI (nI m)), (1, vI s), (0, vR 0 0)] [] hp
    generalize dsV (hp.1 48) s k = y at ih
    have ek : (nI k).toNatClampNeg = k := nI_clamp (by omega)
    refine run hG [5] 60 ?_
    refine And.intro (fun h1 => absurd (show nI m ≤ nI k from h1) (nI_ge hk (by omega))) (fun h1 => ?_)
    refine And.intro (fun h2 => ?_) (fun h2 => ?_)
    · rw [if_pos (show bI s k = 0 from h2)] at ih
      refine cl_lv hG [(5, vI (nI k + nI 1)), (3, vL y), (2, vI (nI m)), (1, vI s), (0, vR 0 0)] ⟨rfl, rfl, rfl, rfl, rfl, trivial⟩ ?_
      rw [nI_s]
      exact ih
    · rw [if_neg (show ¬ bI s k = 0 from h2)] at ih
      refine And.intro (vp_in_nI (by omega) (by omega)) ?_
      refine cl_lv hG [(5, vI (nI k + nI 1)), (3, vL (y ||| lN 1 <<< ((hp.1 48 (nI k).toNatClampNeg).toInt64 &&& 63))), (2, vI (nI m)), (1, vI s), (0, vR 0 0)] ⟨rfl, rfl, rfl, rfl, rfl, trivial⟩ ?_
      rw [nI_s, ek]
      exact ih) 0 (by omega)
  refine run hG [5] 60 ?_
  exact cl_use hG key ⟨rfl, rfl, rfl, rfl, rfl, trivial⟩
theorem sc_X4_doorsOf {own : String} {F L idx : Nat} (h1 : Cond.methodLink own idx yX4_doorsOf ∈ Gw) (hF : 1 ≤ F) (hL : 25 ≤ L) : SC own F L (idx, false, 3, sp_X4_doorsOf) := SC_V spP_mono c_X4_doorsOf okd_0 (fun as hp K h => by obtain ⟨x, hx, -⟩ := spP_e h; exact ⟨_, _, d_C_II_e hx⟩) h1 gw_547 gw_6 gw_69 gw_548 (by decide +kernel) hF hL
def lbI (f c : Nat → Int32) (m n size : Nat) : Nat → Bool := fun set => decide (pop32 (nI set) = nI size) && decide (gm (orF f (dsV c (nI set) m)) n = 0)
def lbS (f c : Nat → Int32) (m n size : Nat) : Nat := fst_ (lbI f c m n size) (2 ^ m) 0
def lbF (f c : Nat → Int32) (m n : Nat) : Nat := fst_ (fun size => decide (lbS f c m n size < 2 ^ m)) (m + 1) 0
def lbV (f c : Nat → Int32) (m n : Nat) : Int32 := if lbF f c m n ≤ m then nI (lbS f c m n (lbF f c m n)) else -1
theorem fst_none {p : Nat → Bool} : ∀ n a, (∀ j, a ≤ j → j < a + n → p j = false) → fst_ p n a = a + n
  | 0, a, _ => rfl
  | n + 1, a, h => by
    unfold fst_
    rw [if_neg (by rw [h a (by omega) (by omega)]; decide), fst_none n (a + 1) (fun j h1 h2 => h j (by omega) (by omega))]
    omega
theorem fst_cg {p q : Nat → Bool} : ∀ n a, (∀ j, a ≤ j → j < a + n → p j = q j) → fst_ p n a = fst_ q n a
  | 0, a, _ => rfl
  | n + 1, a, h => by
    unfold fst_
    rw [h a (by omega) (by omega), fst_cg n (a + 1) (fun j h1 h2 => h j (by omega) (by omega))]
def sp_X4_leastBars : SP := spF d_C_II (fun x hp => RX hp ∧ (∃ m, m ≤ 12 ∧ x.1 = nI m) ∧ vp_in x.2 1000) (fun x hp v hq => frm 13 hp hq ∧ v = some (vI (lbV (rw_ hp 1) (hp.1 48) x.1.toNatClampNeg x.2.toNatClampNeg)))
def E_X4_leastBars : EN := [(209, true, 1, sp_J6_bitCount_0f7a4), (295, false, 3, sp_X4_doorsOf), (198, false, 3, sp_X4_isSafe)]
set_option maxRecDepth 100000 in
set_option maxHeartbeats 4000000 in
theorem c_X4_leastBars : Ctr M_X4_leastBars sp_X4_leastBars := by
  refine ctr_of (own := RX4) M_X4_leastBars sp_X4_leastBars (P := P_X4_leastBars) (K := K_X4) (E := E_X4_leastBars) (by decide) rfl pk_X4_leastBars K_X4_ok (List.forall_mem_cons.mpr ⟨sc_J6_bitCount_0f7a4 gw_544 (by decide) (by decide), List.forall_mem_cons.mpr ⟨sc_X4_doorsOf gw_545 (by decide) (by decide), List.forall_mem_cons.mpr ⟨sc_X4_isSafe gw_526 (by decide) (by decide), fun _ h => absurd h List.not_mem_nil⟩⟩⟩) (fun as hp Q h => by obtain ⟨x, hx, -⟩ := spF_e h; rw [d_C_II_e hx]; exact Nat.le_of_ble_eq_true rfl) ?_
  intro Q G hQi hG as hp h
  obtain ⟨x, hx, hpre, hQ⟩ := spF_e h
  rw [d_C_II_e hx]
  clear h hx
  obtain ⟨m, n⟩ := x
  try dsimp only at hpre hQ ⊢
  obtain ⟨⟨m0, h0⟩, ⟨m, hm, rfl⟩, hn⟩ := hpre
  obtain ⟨n, hn, rfl⟩ := vp_in_of hn (by omega)
  rw [nI_clamp (by omega), nI_clamp (by omega)] at hQ
  have p12 := pow12 m (by omega)
  have s12 := shl12 m (by omega)
  have hRX : ∀ H, frm 13 hp H → RX H := fun H h => ⟨m0, h0.q (qc_13 h) (qm_r m0)⟩
  have e1 : ∀ H, frm 13 hp H → rw_ H 1 = rw_ hp 1 := fun H h => rw_cg (fun c a b => h c (by omega))
  have e2 : ∀ H, frm 13 hp H → H.1 48 = hp.1 48 := fun H h => (h 48 (by omega)).1
  have hQ : ∀ hq, frm 13 hp hq → ∀ v, lbV (rw_ hp 1) (hp.1 48) m n = v → Q (some (vI v)) hq := fun hq h v e => hQ _ _ ⟨h, by rw [e]⟩
  generalize rw_ hp 1 = f at hQ e1
  generalize hp.1 48 = c at hQ e2
  have outer := for_up (P := fun z => ∀ H, frm 13 hp H → (∀ y, y < z → ¬ lbS f c m n y < 2 ^ m) → G 2 [(3, vI (nI z)), (2, vI (nI n)), (1, vI (nI m)), (0, vR 0 0)] [] H) (m + 1) (by
    intro H hfr hz
    refine run hG [2] 60 ?_
    refine And.intro (fun h1 => hQ H hfr _ ?_) (fun h1 => absurd (show nI m < nI (m + 1) from (nI_ltI (by omega) (by omega)).mpr (by omega)) h1)
    unfold lbV
    rw [if_neg]
    unfold lbF
    rw [fst_none (m + 1) 0 (fun j _ hj => decide_eq_false (hz j (by omega)))]
    omega) (by
    intro z hz ih H hfr hy
    have inner := for_up (P := fun t => ∀ H, frm 13 hp H → (∀ j, j < t → lbI f c m n z j = false) → G 10 [(4, vI (nI t)), (3, vI (nI z)), (2, vI (nI n)), (1, vI (nI m)), (0, vR 0 0)] [] H) (2 ^ m) (by
      intro H hfr ht
      refine run hG [2, 10] 60 ?_
      refine And.intro (fun h1 => ?_) (fun h1 => ?_)
      · refine cl_lv hG [(3, vI (nI z + nI 1)), (2, vI (nI n)), (1, vI (nI m)), (0, vR 0 0)] ⟨rfl, rfl, rfl, rfl, trivial⟩ ?_
        rw [nI_s]
        refine ih H hfr (fun y hy2 => ?_)
        by_cases e : y = z
        · subst e
          unfold lbS
          rw [fst_none (2 ^ m) 0 (fun j _ hj => ht j (by omega))]
          omega
        · exact hy y (by omega)
      · have h1 : ¬ nI 1 <<< (nI m &&& 31) ≤ nI (2 ^ m) := h1
        rw [s12] at h1
        exact absurd (nI_le (Nat.le_refl _) (by omega)) h1) (by
      intro t ht ih2 H hfr hj
      have nxt : ∀ H, frm 13 hp H → lbI f c m n z t = false → G 10 [(4, vI (nI t + nI 1)), (3, vI (nI z)), (2, vI (nI n)), (1, vI (nI m)), (0, vR 0 0)] [] H := fun H h hb => by
        rw [nI_s]
        refine ih2 H h (fun j hj2 => ?_)
        by_cases e : j = t
        · subst e; exact hb
        · exact hj j (by omega)
      refine run hG [10] 60 ?_
      refine And.intro (fun h1 => ?_) (fun h1 => ?_)
      · have h1 : nI 1 <<< (nI m &&& 31) ≤ nI t := h1
        rw [s12] at h1
        exact absurd h1 (nI_ge ht (by omega))
      refine And.intro trivial ?_
      refine And.intro (fun h2 => ?_) (fun h2 => ?_)
      · have h2 : ¬ pop32 (nI t) = nI z := h2
        exact cl_use hG (nxt H hfr (by unfold lbI; rw [decide_eq_false h2]; rfl)) ⟨rfl, rfl, rfl, rfl, rfl, trivial⟩
      · have h2 : pop32 (nI t) = nI z := h2
        refine And.intro ⟨m, hm, rfl⟩ ?_
        refine And.intro ⟨hRX H hfr, hn⟩ ?_
        rintro v hr ⟨rfl, hf⟩
        have hf : frm 13 H hr := hf
        refine And.intro (fun h3 => ?_) (fun h3 => ?_)
        · have h3 : decide (gm (orF (rw_ H 1) (dsV (H.1 48) (nI t) (nI m).toNatClampNeg)) (nI n).toNatClampNeg = 0) = false := bB_0.mp h3
          rw [e1 H hfr, e2 H hfr, nI_clamp (by omega), nI_clamp (by omega)] at h3
          exact cl_use hG (nxt hr (frm_t hfr hf) (by unfold lbI; rw [h3, Bool.and_false])) ⟨rfl, rfl, rfl, rfl, rfl, trivial⟩
        · have h3 : decide (gm (orF (rw_ H 1) (dsV (H.1 48) (nI t) (nI m).toNatClampNeg)) (nI n).toNatClampNeg = 0) = true := bB_1.mp h3
          rw [e1 H hfr, e2 H hfr, nI_clamp (by omega), nI_clamp (by omega)] at h3
          refine hQ hr (frm_t hfr hf) _ ?_
          have eS : lbS f c m n z = t := by
            unfold lbS
            exact fst_at (by unfold lbI; rw [h3, decide_eq_true h2]; rfl) _ _ (by omega) (by omega) (fun j _ h => hj j h)
          have eF : lbF f c m n = z := by
            unfold lbF
            exact fst_at (by rw [eS]; exact decide_eq_true ht) _ _ (by omega) (by omega) (fun j _ h => decide_eq_false (hy j h))
          unfold lbV
          rw [eF, eS, if_pos (by omega)]) 0 (Nat.zero_le _)
    refine run hG [10] 60 ?_
    refine And.intro (fun h1 => absurd (show nI m < nI z from h1) (by rw [nI_ltI (by omega) (by omega)]; omega)) (fun h1 => ?_)
    exact cl_use hG (inner H hfr (fun j hj => absurd hj (by omega))) ⟨rfl, rfl, rfl, rfl, rfl, trivial⟩) 0 (by omega)
  refine run hG [2] 60 ?_
  exact cl_use hG (outer hp (frm_r 13 hp) (fun y hy => absurd hy (by omega))) ⟨rfl, rfl, rfl, rfl, trivial⟩
theorem sc_X4_leastBars {own : String} {F L idx : Nat} (h1 : Cond.methodLink own idx yX4_leastBars ∈ Gw) (hF : 6 ≤ F) (hL : 144 ≤ L) : SC own F L (idx, false, 3, sp_X4_leastBars) := SC_V spF_mono c_X4_leastBars okd_0 (fun as hp K h => by obtain ⟨x, hx, -⟩ := spF_e h; exact ⟨_, _, d_C_II_e hx⟩) h1 gw_542 gw_5 gw_69 gw_543 (by decide +kernel) hF hL
theorem ag.bk {f g : Nat → Int32} (h : ag f g) {d : Nat} (hd : d < 50) : bkB g d = bkB f d := by
  unfold bkB
  rw [h.may (by omega), h.lo (by omega)]
  by_cases hm : mayB f (d / 2) (d % 2 + 1) = true
  · have h25 : bsd (d / 2) (d % 2 + 1) < 25 := by
      rcases bsd_lt (d / 2) (by omega) (d % 2 + 1) (by omega) with e | e
      · exact absurd e (may_bsd hm)
      · exact e
    rw [h.lo (by omega)]
  · rw [Bool.eq_false_iff.mpr hm]
    rfl
theorem ag.bkn {f g : Nat → Int32} (h : ag f g) : ∀ d, d ≤ 50 → bkN g d = bkN f d
  | 0, _ => rfl
  | d + 1, hd => by
    show bkN g d + _ = bkN f d + _
    rw [ag.bkn h d (by omega), h.bk (by omega)]
theorem ag.cb {f g : Nat → Int32} (h : ag f g) (u : Nat → Int32) : ∀ d, d ≤ 50 → cbR g u d = cbR f u d
  | 0, _ => rfl
  | d + 1, hd => by
    show (if bkB g d = true then upd (cbR g u d) (bkN g d) (nI d) else cbR g u d) = (if bkB f d = true then upd (cbR f u d) (bkN f d) (nI d) else cbR f u d)
    rw [ag.cb h u d (by omega), h.bkn d (by omega), h.bk (by omega)]
theorem lb_br {f g b c : Nat → Int32} {m n : Nat} (h : ag f g) (hf : WF f) (hb : bnk f b c m) (hbo : bkOK f b m) : ∀ size, lbS g c m n size = brS f b m n size := fun size => by
  unfold lbS brS
  have p12 : 2 ^ m ≤ 4096 := by
    have := hb.1
    exact Nat.pow_le_pow_right (n := 2) (by omega) (show m ≤ 12 from this)
  refine fst_cg _ _ (fun j _ hj => ?_)
  unfold lbI brI
  rw [pop12 (by omega), sf_gm (WF_setB hf hbo (nI j) (Nat.le_refl m)).1, hb.set (nI j), gm_ag (ag_or h _) (WF_or hf _)]
theorem lb_brF {f g b c : Nat → Int32} {m n : Nat} (h : ag f g) (hf : WF f) (hb : bnk f b c m) (hbo : bkOK f b m) : lbF g c m n = brF f b m n := by
  unfold lbF brF
  refine fst_cg _ _ (fun j _ hj => ?_)
  unfold brO
  rw [lb_br h hf hb hbo]
def sp_X4_barred : SP := spF d_C_II (fun _ hp => RX hp) (fun x hp v hq => PO (F_barred x.1 x.2) hp v hq)
def E_X4_barred : EN := [(78, true, 3, sp_X4_isWithin), (63, false, 2, sp_X4_tell), (167, false, 2, sp_X4_isTooLate), (202, false, 1, sp_X4_findBanks), (206, false, 3, sp_X4_leastBars), (209, true, 1, sp_J6_bitCount_0f7a4)]
set_option maxRecDepth 100000 in
set_option maxHeartbeats 4000000 in
theorem c_X4_barred : Ctr M_X4_barred sp_X4_barred := by
  refine ctr_of (own := RX4) M_X4_barred sp_X4_barred (P := P_X4_barred) (K := K_X4) (E := E_X4_barred) (by decide) rfl pk_X4_barred K_X4_ok (List.forall_mem_cons.mpr ⟨sc_X4_isWithin gw_285 (by decide) (by decide), List.forall_mem_cons.mpr ⟨sc_X4_tell gw_298 (by decide) (by decide), List.forall_mem_cons.mpr ⟨sc_X4_isTooLate gw_455 (by decide) (by decide), List.forall_mem_cons.mpr ⟨sc_X4_findBanks gw_534 (by decide) (by decide), List.forall_mem_cons.mpr ⟨sc_X4_leastBars gw_540 (by decide) (by decide), List.forall_mem_cons.mpr ⟨sc_J6_bitCount_0f7a4 gw_544 (by decide) (by decide), fun _ h => absurd h List.not_mem_nil⟩⟩⟩⟩⟩⟩) (fun as hp Q h => by obtain ⟨x, hx, -⟩ := spF_e h; rw [d_C_II_e hx]; exact Nat.le_of_ble_eq_true rfl) ?_
  intro Q G hQi hG as hp h
  obtain ⟨x, hx, hpre, hQ⟩ := spF_e h
  rw [d_C_II_e hx]
  clear h hx
  obtain ⟨n, k⟩ := x
  try dsimp only at hpre hQ ⊢
  obtain ⟨m0, h0⟩ := hpre
  have no : ¬ ((nI 1 ≤ n ∧ n ≤ nI 120) ∧ inB k 2 = true) → ∀ mp, RC hp mp → ∃ mq, qm mp mq ∧ F_barred n k mp = noP mq 0 := fun h mp h2 => ⟨mp, qm_r mp, if_neg h⟩
  refine run hG [45] 60 ?_
  refine And.intro trivial ?_
  refine And.intro (fun h1 => at_no hQ 0 (by omega) (by decide) (qc_r hp) (no (fun h => and_f (bB_0.mp h1) h.1))) (fun h1 => ?_)
  have h1 : nI 1 ≤ n ∧ n ≤ nI 120 := and_t.mp (bB_1.mp h1)
  refine And.intro trivial ?_
  refine And.intro (fun h2 => ?_) (fun h2 => at_no hQ 0 (by omega) (by decide) (qc_r hp) (no (fun h => by rw [← in_b (by omega), show (decide (nI 0 ≤ k) && decide (k ≤ nI 1)) = false from bB_0.mp h2] at h; exact absurd h.2 (by decide))))
  have h2 : inB k 2 = true := (in_b (by omega)).symm.trans (bB_1.mp h2)
  refine And.intro trivial ?_
  refine And.intro (fun h3 => ?_) (fun h3 => ?_)
  · have h3 : ltB (rw_ hp 1) n = false := bB_0.mp h3
    have val : ∀ mp, RC hp mp → F_barred n k mp = (if bkN (rw_ hp 1) 50 ≤ 12 then (if brF (mp.1 53) (bkR (mp.1 53) (mp.1 58) 50) (bkN (rw_ hp 1) 50) n.toNatClampNeg ≤ bkN (rw_ hp 1) 50 then (brV (mp.1 53) (bkR (mp.1 53) (mp.1 58) 50) (bkN (rw_ hp 1) 50) n.toNatClampNeg k, rI mp 58 (bkR (mp.1 53) (mp.1 58) 50)) else noP (rI mp 58 (bkR (mp.1 53) (mp.1 58) 50)) 3) else noP (rI mp 58 (bkR (mp.1 53) (mp.1 58) 50)) 6) := fun mp h => by
      unfold F_barred
      rw [if_pos ⟨h1, h2⟩, if_neg (by rw [← ltB_ag h.ag, h3]; decide), h.ag.bkn 50 (Nat.le_refl _)]
    have tie : ∀ mp, RC hp mp → bkN (rw_ hp 1) 50 ≤ 12 → bnk (mp.1 53) (bkR (mp.1 53) (mp.1 58) 50) (cbR (rw_ hp 1) (hp.1 48) 50) (bkN (rw_ hp 1) 50) ∧ bkOK (mp.1 53) (bkR (mp.1 53) (mp.1 58) 50) (bkN (rw_ hp 1) 50) := fun mp h h12 => by
      rw [h.ag.cb _ 50 (Nat.le_refl _), h.ag.bkn 50 (Nat.le_refl _)]
      rw [h.ag.bkn 50 (Nat.le_refl _)] at h12
      exact ⟨bnk_of h12, bk_ok h12⟩
    have m40 := bkN_40 (rw_ hp 1) (d := 50) (Nat.le_refl _)
    have q48 : qc hp (rI hp 48 (cbR (rw_ hp 1) (hp.1 48) 50)) := fun c hc => ⟨rI_ne _ _ (by omega), rfl⟩
    have er : rw_ (rI hp 48 (cbR (rw_ hp 1) (hp.1 48) 50)) 1 = rw_ hp 1 := rw_cg (fun c a b => q48 c (by omega))
    refine And.intro trivial ?_
    show G 45 _ [vI (nI (bkN (rw_ hp 1) 50))] (rI hp 48 (cbR (rw_ hp 1) (hp.1 48) 50))
    have e48 : (rI hp 48 (cbR (rw_ hp 1) (hp.1 48) 50)).1 48 = cbR (rw_ hp 1) (hp.1 48) 50 := rI_eq _ _ _
    generalize cbR (rw_ hp 1) (hp.1 48) 50 = cc at tie q48 er e48
    generalize hm : bkN (rw_ hp 1) 50 = m at val tie m40
    have em : (nI m).toNatClampNeg = m := nI_clamp (by omega)
    have hRX : RX (rI hp 48 cc) := ⟨m0, h0.q q48 (qm_r m0)⟩
    refine run hG [65] 60 ?_
    refine And.intro (fun h4 => ?_) (fun h4 => ?_)
    · have h4 : nI m ≤ nI 12 := h4
      rw [nI_leI (by omega) (by omega)] at h4
      refine And.intro ⟨hRX, ⟨m, h4, rfl⟩, in_k h1 (by omega) (by omega) (by omega)⟩ ?_
      rintro v hq ⟨hf, rfl⟩
      have hf : frm 13 (rI hp 48 cc) hq := hf
      have hqc : qc hp hq := qc_t q48 (qc_13 hf)
      show G 65 _ [vI (lbV (rw_ (rI hp 48 cc) 1) ((rI hp 48 cc).1 48) (nI m).toNatClampNeg n.toNatClampNeg)] hq
      rw [er, e48, em]
      have lb : ∀ mp, RC hp mp → ∀ size, lbS (rw_ hp 1) cc m n.toNatClampNeg size = brS (mp.1 53) (bkR (mp.1 53) (mp.1 58) 50) m n.toNatClampNeg size := fun mp h => lb_br h.ag h.wf (tie mp h h4).1 (tie mp h h4).2
      have lbf : ∀ mp, RC hp mp → lbF (rw_ hp 1) cc m n.toNatClampNeg = brF (mp.1 53) (bkR (mp.1 53) (mp.1 58) 50) m n.toNatClampNeg := fun mp h => lb_brF h.ag h.wf (tie mp h h4).1 (tie mp h h4).2
      have p12 := pow12 m (by omega)
      by_cases hF : lbF (rw_ hp 1) cc m n.toNatClampNeg ≤ m
      · have hS : lbS (rw_ hp 1) cc m n.toNatClampNeg (lbF (rw_ hp 1) cc m n.toNatClampNeg) < 2 ^ m := by
          have := fst_t (p := fun size => decide (lbS (rw_ hp 1) cc m n.toNatClampNeg size < 2 ^ m)) (m + 1) 0 (by have := hF; unfold lbF at this; omega)
          exact of_decide_eq_true this
        have hI : lbI (rw_ hp 1) cc m n.toNatClampNeg (lbF (rw_ hp 1) cc m n.toNatClampNeg) (lbS (rw_ hp 1) cc m n.toNatClampNeg (lbF (rw_ hp 1) cc m n.toNatClampNeg)) = true := by
          have hS2 := hS
          unfold lbS at hS2 ⊢
          exact fst_t (2 ^ m) 0 (by omega)
        have hP : pop32 (nI (lbS (rw_ hp 1) cc m n.toNatClampNeg (lbF (rw_ hp 1) cc m n.toNatClampNeg))) = nI (lbF (rw_ hp 1) cc m n.toNatClampNeg) := of_decide_eq_true (and_tt hI).1
        have eV : lbV (rw_ hp 1) cc m n.toNatClampNeg = nI (lbS (rw_ hp 1) cc m n.toNatClampNeg (lbF (rw_ hp 1) cc m n.toNatClampNeg)) := if_pos hF
        have fin : ∀ mp, RC hp mp → F_barred n k mp = (if k = 0 then nI (lbF (rw_ hp 1) cc m n.toNatClampNeg) else nI (lbS (rw_ hp 1) cc m n.toNatClampNeg (lbF (rw_ hp 1) cc m n.toNatClampNeg)), rI mp 58 (bkR (mp.1 53) (mp.1 58) 50)) := fun mp h => by
          rw [val mp h, if_pos h4, ← lbf mp h, if_pos hF]
          unfold brV
          rw [← lbf mp h, ← lb mp h]
        rw [eV]
        generalize lbS (rw_ hp 1) cc m n.toNatClampNeg (lbF (rw_ hp 1) cc m n.toNatClampNeg) = S at hS hP fin
        refine run hG [] 60 ?_
        refine And.intro (fun h5 => ?_) (fun h5 => absurd (nI_nn (by omega)) h5)
        refine And.intro (fun h6 => ?_) (fun h6 => ?_)
        · have h6 : ¬ k = 0 := h6
          exact at_q hQ hqc (fun mp h => ⟨rI mp 58 (bkR (mp.1 53) (mp.1 58) 50), qm_c _ (Or.inr (Or.inr (Or.inl rfl))), by rw [fin mp h, if_neg h6]⟩)
        · have h6 : k = 0 := h6
          refine And.intro trivial ?_
          refine at_q hQ hqc (fun mp h => ⟨rI mp 58 (bkR (mp.1 53) (mp.1 58) 50), qm_c _ (Or.inr (Or.inr (Or.inl rfl))), ?_⟩)
          rw [fin mp h, if_pos h6, ← hP]
      · rw [show lbV (rw_ hp 1) cc m n.toNatClampNeg = -1 from if_neg hF]
        refine run hG [] 60 ?_
        refine And.intro (fun h5 => absurd h5 (by decide)) (fun h5 => ?_)
        refine at_no hQ 3 (by omega) (by decide) hqc (fun mp h => ⟨rI mp 58 (bkR (mp.1 53) (mp.1 58) 50), qm_c _ (Or.inr (Or.inr (Or.inl rfl))), ?_⟩)
        rw [val mp h, if_pos h4, ← lbf mp h, if_neg hF]
    · have h4 : ¬ nI m ≤ nI 12 := h4
      rw [nI_leI (by omega) (by omega)] at h4
      refine at_no hQ 6 (by omega) (by decide) q48 (fun mp h => ⟨rI mp 58 (bkR (mp.1 53) (mp.1 58) 50), qm_c _ (Or.inr (Or.inr (Or.inl rfl))), ?_⟩)
      rw [val mp h, if_neg h4]
  · have h3 : ltB (rw_ hp 1) n = true := bB_1.mp h3
    refine at_no hQ 4 (by omega) (by decide) (qc_r hp) (fun mp h => ⟨mp, qm_r mp, ?_⟩)
    unfold F_barred
    rw [if_pos ⟨h1, h2⟩, if_pos (by rw [← ltB_ag h.ag, h3])]
theorem sc_X4_barred {own : String} {F L idx : Nat} (h1 : Cond.methodLink own idx yX4_barred ∈ Gw) (hF : 7 ≤ F) (hL : 168 ≤ L) : SC own F L (idx, false, 3, sp_X4_barred) := SC_V spF_mono c_X4_barred okd_0 (fun as hp K h => by obtain ⟨x, hx, -⟩ := spF_e h; exact ⟨_, _, d_C_II_e hx⟩) h1 gw_531 gw_532 gw_69 gw_533 (by decide +kernel) hF hL
