/-! one more lamp -/
def rl (f : Nat → Int32) (L : Int32) : Nat → Int32 := fun k => if 44 ≤ k ∧ k < 69 then bI L (k - 44) else f k
theorem rl_o {f : Nat → Int32} {L : Int32} {k : Nat} (h : k < 44 ∨ 69 ≤ k) : rl f L k = f k := if_neg (by omega)
theorem rw_rl (H : HP) (w : Nat) (L : Int32) : rw_ (uI H w 2 L) w = rl (rw_ H w) L := by
  funext k
  have e2 : (uI H w 2 L).2 = H.2 := rfl
  have e3 : (uI H w 2 L).1 w 3 = H.1 w 3 := uI_oth _ _ _ (by omega)
  unfold rl
  by_cases h4 : 44 ≤ k ∧ k < 69
  · rw [if_pos h4]
    have := rw_lm (uI H w 2 L) w (j := k - 44) (by omega)
    rw [show 44 + (k - 44) = k by omega, uI_same] at this
    exact this
  · rw [if_neg h4]
    unfold rw_
    rw [e2, e3, uI_row _ _ _ (show w + 1 ≠ w by omega), uI_row _ _ _ (show w + 2 ≠ w by omega), uI_row _ _ _ (show w + 4 + (k - 144) / 5 ≠ w by omega)]
    by_cases h7 : k < 7
    · rw [if_pos h7, if_pos h7, uI_oth]
      rcases (show k = 0 ∨ k = 1 ∨ k = 2 ∨ k = 3 ∨ k = 4 ∨ k = 5 ∨ k = 6 by omega) with h | h | h | h | h | h | h <;> subst h <;> decide
    rw [if_neg h7, if_neg h7]
    by_cases h44 : k < 44
    · simp only [if_pos h44]
    · have h69 : ¬ k < 69 := by omega
      simp only [if_neg h44, if_neg h69]
theorem ag_rl {f g : Nat → Int32} (h : ag f g) (L : Int32) : ag (rl f L) (rl g L) := by
  have em : mN (rl f L) = mN f := by unfold mN; rw [rl_o (by omega)]
  refine ⟨by rw [rl_o (by omega), rl_o (by omega)]; exact h.1, fun k hk => ?_⟩
  rw [em] at hk
  unfold rl
  rw [h.2 k hk]
theorem WF_rl {f : Nat → Int32} (h : WF f) (L : Int32) : WF (rl f L) ∧ mN (rl f L) = mN f := by
  have em : mN (rl f L) = mN f := by unfold mN; rw [rl_o (by omega)]
  obtain ⟨⟨n, hn, e6, hw⟩, hfl, r, hr, e5, hrd, h4⟩ := h
  refine ⟨⟨⟨n, hn, by rw [rl_o (by omega)]; exact e6, fun w hw2 => wk_same (hw w hw2) (fun j _ => rl_o (by omega))⟩, fun k h1 h2 => ?_, r, hr, by rw [rl_o (by omega)]; exact e5, fun k hk => by rw [rl_o (by omega)]; exact hrd k hk, by rw [rl_o (by omega)]; exact h4⟩, em⟩
  unfold rl
  split
  · rcases bI_01 L (d := k - 44) (by omega) with e | e <;> rw [e] <;> exact vp_in_nI (by omega) (by omega)
  · exact hfl k h1 h2
theorem rl_same (hp : HP) (w : Nat) : rl (rw_ hp w) (hp.1 w 2) = rw_ hp w := by
  funext k
  unfold rl
  split
  · next h => rw [← rw_lm hp w (j := k - 44) (by omega), show 44 + (k - 44) = k by omega]
  · rfl
theorem rl_one (hp : HP) (w : Nat) {q : Nat} (hq : q < 25) : rl (rw_ hp w) (hp.1 w 2 ||| nI 1 <<< (nI q &&& 31)) = upd (rw_ hp w) (44 + q) (nI 1) := by
  funext k
  rw [upd_at]
  unfold rl
  by_cases h : 44 ≤ k ∧ k < 69
  · rw [if_pos h, bI_or _ hq (by omega)]
    by_cases e : k - 44 = q
    · rw [if_pos e, if_pos (by omega)]
    · rw [if_neg e, if_neg (by omega), ← rw_lm hp w (j := k - 44) (by omega), show 44 + (k - 44) = k by omega]
  · rw [if_neg h, if_neg (by omega)]
def plV (g : Nat → Int32) : Nat → Int64
  | 0 => lN 0
  | k + 1 => plV g k ||| (g (144 + 5 * k + 2)).toInt64 <<< ((nI 8 * nI k).toInt64 &&& 63)
theorem plV_cg {f g : Nat → Int32} : ∀ m, (∀ k, k < m → g (144 + 5 * k + 2) = f (144 + 5 * k + 2)) → plV g m = plV f m
  | 0, _ => rfl
  | m + 1, h => by
    show plV g m ||| _ = plV f m ||| _
    rw [plV_cg m (fun k hk => h k (by omega)), h m (by omega)]
def sp_X4_placesWithLamps : SP := spF d_C_II (fun x hp => RX hp ∧ vp_in x.2 1000) (fun x hp v hq => v = some (vL (plV (goF (rl (rw_ hp 1) x.1) x.2.toNatClampNeg) (mN (rw_ hp 1)))) ∧ frm 13 hp hq)
def E_X4_placesWithLamps : EN := [(190, false, 2, sp_X3_takeFrom), (171, false, 2, sp_X3_goMinutes)]
set_option maxRecDepth 100000 in
set_option maxHeartbeats 4000000 in
theorem c_X4_placesWithLamps : Ctr M_X4_placesWithLamps sp_X4_placesWithLamps := by
  refine ctr_of (own := RX4) M_X4_placesWithLamps sp_X4_placesWithLamps (P := P_X4_placesWithLamps) (K := K_X4) (E := E_X4_placesWithLamps) (by decide) rfl pk_X4_placesWithLamps K_X4_ok (List.forall_mem_cons.mpr ⟨sc_X3_takeFrom gw_497 (by decide) (by decide), List.forall_mem_cons.mpr ⟨sc_X3_goMinutes gw_460 (by decide) (by decide), fun _ h => absurd h List.not_mem_nil⟩⟩) (fun as hp Q h => by obtain ⟨x, hx, -⟩ := spF_e h; rw [d_C_II_e hx]; exact Nat.le_of_ble_eq_true rfl) ?_
  intro Q G hQi hG as hp h
  obtain ⟨x, hx, hpre, hQ⟩ := spF_e h
  rw [d_C_II_e hx]
  clear h hx
  obtain ⟨L, n⟩ := x
  try dsimp only at hpre hQ ⊢
  obtain ⟨⟨m0, h0⟩, hn⟩ := hpre
  refine run hG [11] 60 ?_
  refine And.intro ⟨Or.inr (by decide), h0.wc⟩ ?_
  rintro v hq ⟨rfl, ha, hf, -⟩
  have ha : ag (rw_ hp 1) (rw_ hq 13) := ha
  have hf : frm 13 hp hq := hf
  have hag := ag_rl ha L
  have hwf := WF_rl h0.wc L
  have hwg := hag.wf hwf.1
  refine run hG [27] 60 ?_
  refine And.intro ⟨show WF (rw_ (uI hq 13 2 L) 13) by rw [rw_rl]; exact hwg, hn⟩ ?_
  rintro v hr ⟨rfl, e2, hf2⟩
  have e2 : rw_ hr 13 = goF (rw_ (uI hq 13 2 L) 13) n.toNatClampNeg := e2
  rw [rw_rl] at e2
  have hfr : frm 13 hp hr := frm_t (frm_u hf (by omega) (by omega)) hf2.1
  have hg := hwf.1.go n.toNatClampNeg
  have hag2 := hag.go hwf.1 n.toNatClampNeg
  rw [← e2] at hag2
  have hm : mN (rw_ hr 13) = mN (rw_ hp 1) := by rw [hag2.mn, hg.2, hwf.2]
  have hwr : WF (rw_ hr 13) := hag2.wf hg.1
  have hm2 := many_wc hwr.many
  rw [hm] at hm2
  have hpl : plV (goF (rl (rw_ hp 1) L) n.toNatClampNeg) (mN (rw_ hp 1)) = plV (rw_ hr 13) (mN (rw_ hp 1)) := (plV_cg _ (fun k hk => hag2.wk (by rw [hg.2, hwf.2]; exact hk) (by omega))).symm
  have hQ : Q (some (vL (plV (rw_ hr 13) (mN (rw_ hp 1))))) hr := hQ _ _ ⟨by rw [hpl], hfr⟩
  have hwk : ∀ k, k < mN (rw_ hp 1) → rw_ hr 13 (144 + 5 * k + 2) = hr.1 (13 + 4 + k) 2 := fun k hk => rw_wk hr 13 (by omega) (by omega)
  generalize mN (rw_ hp 1) = m at hm2 hQ hwk
  have key := for_up (P := fun k => G 33 [(5, vI (nI k)), (3, vL (plV (rw_ hr 13) k)), (0, vR 0 0)] [] hr) m (by
    refine run hG [33] 60 ?_
    exact And.intro (fun h1 => hQ) (fun h1 => absurd (show hr.1 13 12 ≤ nI m by rw [hm2.2]; exact nI_le (Nat.le_refl _) (by omega)) h1)) (by
    intro k hk ih
    have ih : G 33 [(5, vI (nI (k + 1))), (3, vL (plV (rw_ hr 13) k ||| (rw_ hr 13 (144 + 5 * k + 2)).toInt64 <<< ((nI 8 * nI k).toInt64 &&& 63))), (0, vR 0 0)] [] hr := ih
    show G 33 [(5, vI (nI k)), (3, vL (plV (rw_ hr 13) k)), (0, vR 0 0)] [] hr
    rw [hwk k hk] at ih
    generalize plV (rw_ hr 13) k = y at ih
    have ek : (nI k).toNatClampNeg = k := nI_clamp (by omega)
    refine run hG [33] 60 ?_
    refine And.intro (fun h1 => ?_) (fun h1 => ?_)
    · have h1 : hr.1 13 12 ≤ nI k := h1
      rw [hm2.2] at h1
      exact absurd h1 (nI_ge hk (by omega))
    refine And.intro (vp_in_nI (by omega) (by omega)) ?_
    refine cl_lv hG [(5, vI (nI k + nI 1)), (3, vL (y ||| (hr.1 (13 + 4 + (nI k).toNatClampNeg) 2).toInt64 <<< ((nI 8 * nI k).toInt64 &&& 63))), (0, vR 0 0)] ⟨rfl, rfl, rfl, trivial⟩ ?_
    rw [nI_s, ek]
    exact ih) 0 (by omega)
  refine run hG [33] 60 ?_
  exact cl_use hG key ⟨rfl, rfl, rfl, trivial⟩
theorem sc_X4_placesWithLamps {own : String} {F L idx : Nat} (h1 : Cond.methodLink own idx yX4_placesWithLamps ∈ Gw) (hF : 6 ≤ F) (hL : 144 ≤ L) : SC own F L (idx, false, 3, sp_X4_placesWithLamps) := SC_V spF_mono c_X4_placesWithLamps okd_0 (fun as hp K h => by obtain ⟨x, hx, -⟩ := spF_e h; exact ⟨_, _, d_C_II_e hx⟩) h1 gw_555 gw_7 gw_69 gw_556 (by decide +kernel) hF hL
def bt8 (x : Int64) (k : Nat) : Int64 := (x.toUInt64 >>> ((nI 8 * nI k).toInt64.toUInt64 &&& Int64.toUInt64 63)).toInt64 &&& 255
def coV (a b : Int64) : Nat → Int32
  | 0 => nI 0
  | k + 1 => if bt8 (a ^^^ b) k = lN 0 then coV a b k else coV a b k + nI 1
def sp_X4_countOthers : SP := spP d_S_JJ (fun _ _ => True) (fun x _ => vI (coV x.1 x.2 8))
def E_X4_countOthers : EN := []
set_option maxRecDepth 100000 in
set_option maxHeartbeats 4000000 in
theorem c_X4_countOthers : Ctr M_X4_countOthers sp_X4_countOthers := by
  refine ctr_of (own := RX4) M_X4_countOthers sp_X4_countOthers (P := P_X4_countOthers) (K := K_X4) (E := E_X4_countOthers) (by decide) rfl pk_X4_countOthers K_X4_ok (fun _ h => absurd h List.not_mem_nil) (fun as hp Q h => by obtain ⟨x, hx, -⟩ := spP_e h; rw [d_S_JJ_e hx]; exact Nat.le_of_ble_eq_true rfl) ?_
  intro Q G hQi hG as hp h
  obtain ⟨x, hx, hpre, hQ⟩ := spP_e h
  rw [d_S_JJ_e hx]
  clear h hx
  obtain ⟨a, b⟩ := x
  try dsimp only at hpre hQ ⊢
  have key := for_up (P := fun k => G 6 [(5, vI (nI k)), (4, vI (coV a b k)), (0, vL a), (2, vL b)] [] hp) 8 (by
    refine run hG [6] 60 ?_
    exact And.intro (fun h1 => hQ) (fun h1 => absurd (show nI 8 ≤ nI 8 by decide) h1)) (by
    intro k hk ih
    have ih : G 6 [(5, vI (nI (k + 1))), (4, vI (if bt8 (a ^^^ b) k = lN 0 then coV a b k else coV a b k + nI 1)), (0, vL a), (2, vL b)] [] hp := ih
    show G 6 [(5, vI (nI k)), (4, vI (coV a b k)), (0, vL a), (2, vL b)] [] hp
    generalize coV a b k = y at ih
    refine run hG [6] 60 ?_
    refine And.intro (fun h1 => absurd (show nI 8 ≤ nI k from h1) (nI_ge hk (by omega))) (fun h1 => ?_)
    refine And.intro (fun h2 => ?_) (fun h2 => ?_)
    · have h2 : lg_cmp (bt8 (a ^^^ b) k) (lN 0) = 0 := h2
      rw [lg_cmp_eq] at h2
      rw [if_pos h2] at ih
      refine cl_lv hG [(5, vI (nI k + nI 1)), (4, vI y), (0, vL a), (2, vL b)] ⟨rfl, rfl, rfl, rfl, trivial⟩ ?_
      rw [nI_s]
      exact ih
    · have h2 : ¬ lg_cmp (bt8 (a ^^^ b) k) (lN 0) = 0 := h2
      rw [lg_cmp_eq] at h2
      rw [if_neg h2] at ih
      refine cl_lv hG [(5, vI (nI k + nI 1)), (4, vI (y + nI 1)), (0, vL a), (2, vL b)] ⟨rfl, rfl, rfl, rfl, trivial⟩ ?_
      rw [nI_s]
      exact ih) 0 (by omega)
  refine run hG [6] 60 ?_
  exact cl_use hG key ⟨rfl, rfl, rfl, rfl, trivial⟩
theorem sc_X4_countOthers {own : String} {F L idx : Nat} (h1 : Cond.methodLink own idx yX4_countOthers ∈ Gw) (hF : 1 ≤ F) (hL : 25 ≤ L) : SC own F L (idx, true, 2, sp_X4_countOthers) := SC_S spP_mono c_X4_countOthers h1 gw_558 gw_69 gw_559 (by decide +kernel) hF hL
