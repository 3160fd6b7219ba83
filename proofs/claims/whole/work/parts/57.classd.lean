def sp_J7_fill_d0a16 : SP := spH d_S_LJ (fun x _ => (x.1.1 = 11 ∨ x.1.1 = 13) ∧ kc x.1.2 = x.1.1) (fun _ _ => none) (fun x hp => rL hp x.1.2 (fun _ => x.2))
def E_J7_fill_d0a16 : EN := []
set_option maxRecDepth 100000 in
set_option maxHeartbeats 4000000 in
theorem c_J7_fill_d0a16 : Ctr M_J7_fill_d0a16 sp_J7_fill_d0a16 := by
  refine ctr_of (own := RJ7) M_J7_fill_d0a16 sp_J7_fill_d0a16 (P := P_J7_fill_d0a16) (K := K_J7) (E := E_J7_fill_d0a16) (by decide) rfl pk_J7_fill_d0a16 K_J7_ok (fun _ h => absurd h List.not_mem_nil) (fun as hp Q h => by obtain ⟨x, hx, -⟩ := spH_e h; rw [d_S_LJ_e hx]; exact Nat.le_of_ble_eq_true rfl) ?_
  intro Q G hQi hG as hp h
  obtain ⟨x, hx, hpre, hQ⟩ := spH_e h
  rw [d_S_LJ_e hx]
  clear h hx
  obtain ⟨⟨k, c⟩, v⟩ := x
  obtain ⟨hk, hc⟩ := hpre
  have hk : k = 11 ∨ k = 13 := hk
  have hc : kc c = k := hc
  have hQ : Q none (rL hp c (fun _ => v)) := hQ
  rcases hk with e | e
  · subst e
    have hl : lenc c = 40 := by unfold lenc; rw [hc]; rfl
    have key := for_up (P := fun k => G 6 [(4, vI (nI 40)), (3, vI (nI k)), (0, vR 11 c), (1, vL v)] [] (rL hp c (filL (fun _ => v) (hp.2 c) k))) 40 (by
      refine run hG [6] 60 ?_
      refine And.intro (fun h1 => ?_) (fun h1 => absurd (nI_le (Nat.le_refl _) (by omega)) h1)
      exact hQi _ _ _ (heq_L heq.rfl (fun j hj => (filL_all j (by omega)).symm)) hQ) (by
      intro k hk ih
      rw [← filL_s] at ih
      refine run hG [6] 60 ?_
      refine And.intro (fun h1 => absurd h1 (nI_ge hk (by omega))) (fun h1 => ?_)
      refine And.intro (vp_in_nI hk (by omega)) ?_
      refine cl_lv hG [(4, vI (nI 40)), (3, vI (nI k + nI 1)), (0, vR 11 c), (1, vL v)] ⟨rfl, rfl, rfl, rfl, trivial⟩ ?_
      rw [nI_s]
      show G 6 _ [] (uL (rL hp c (filL (fun _ => v) (hp.2 c) k)) c (nI k).toNatClampNeg v)
      rw [uL_rL, nI_clamp (by omega)]
      exact ih) 0 (by omega)
    rw [filL_0, rL_self] at key
    refine run hG [6] 60 ?_
    exact cl_use hG key ⟨rfl, rfl, rfl, rfl, trivial⟩
  · subst e
    have hl : lenc c = 25 := by unfold lenc; rw [hc]; rfl
    have key := for_up (P := fun k => G 6 [(4, vI (nI 25)), (3, vI (nI k)), (0, vR 13 c), (1, vL v)] [] (rL hp c (filL (fun _ => v) (hp.2 c) k))) 25 (by
      refine run hG [6] 60 ?_
      refine And.intro (fun h1 => ?_) (fun h1 => absurd (nI_le (Nat.le_refl _) (by omega)) h1)
      exact hQi _ _ _ (heq_L heq.rfl (fun j hj => (filL_all j (by omega)).symm)) hQ) (by
      intro k hk ih
      rw [← filL_s] at ih
      refine run hG [6] 60 ?_
      refine And.intro (fun h1 => absurd h1 (nI_ge hk (by omega))) (fun h1 => ?_)
      refine And.intro (vp_in_nI hk (by omega)) ?_
      refine cl_lv hG [(4, vI (nI 25)), (3, vI (nI k + nI 1)), (0, vR 13 c), (1, vL v)] ⟨rfl, rfl, rfl, rfl, trivial⟩ ?_
      rw [nI_s]
      show G 6 _ [] (uL (rL hp c (filL (fun _ => v) (hp.2 c) k)) c (nI k).toNatClampNeg v)
      rw [uL_rL, nI_clamp (by omega)]
      exact ih) 0 (by omega)
    rw [filL_0, rL_self] at key
    refine run hG [6] 60 ?_
    exact cl_use hG key ⟨rfl, rfl, rfl, rfl, trivial⟩
theorem sc_J7_fill_d0a16 {own : String} {F L idx : Nat} (h1 : Cond.methodLink own idx yJ7_fill_d0a16 ∈ Gw) (hF : 1 ≤ F) (hL : 24 ≤ L) : SC own F L (idx, true, 2, sp_J7_fill_d0a16) := SC_S spH_mono c_J7_fill_d0a16 h1 gw_579 gw_71 gw_580 (by decide +kernel) hF hL
def sp_X0_isMissing : SP := spP d_H (fun _ _ => True) (fun c hp => vI (bB (decide (hp.1 c 0 = 0))))
def E_X0_isMissing : EN := []
set_option maxRecDepth 100000 in
set_option maxHeartbeats 4000000 in
theorem c_X0_isMissing : Ctr M_X0_isMissing sp_X0_isMissing := by
  refine ctr_of (own := RX0) M_X0_isMissing sp_X0_isMissing (P := P_X0_isMissing) (K := K_X0) (E := E_X0_isMissing) (by decide) rfl pk_X0_isMissing K_X0_ok (fun _ h => absurd h List.not_mem_nil) (fun as hp Q h => by obtain ⟨x, hx, -⟩ := spP_e h; rw [d_H_e hx]; exact Nat.le_of_ble_eq_true rfl) ?_
  intro Q G hQi hG as hp h
  obtain ⟨x, hx, hpre, hQ⟩ := spP_e h
  rw [d_H_e hx]
  clear h hx
  refine run hG [] 60 ?_
  refine And.intro (fun h1 => ?_) (fun h1 => ?_)
  · have h1 : ¬ hp.1 x 0 = 0 := h1
    exact q_b hQ (by rw [decide_eq_false h1]; rfl)
  · have h1 : hp.1 x 0 = 0 := h1
    exact q_b hQ (by rw [decide_eq_true h1]; rfl)
theorem sc_X0_isMissing {own : String} {F L idx : Nat} (h1 : Cond.methodLink own idx yX0_isMissing ∈ Gw) (hF : 1 ≤ F) (hL : 20 ≤ L) : SC own F L (idx, false, 1, sp_X0_isMissing) := SC_V spP_mono c_X0_isMissing okd_4 (fun as hp K h => by obtain ⟨x, hx, -⟩ := spP_e h; exact ⟨_, _, d_H_e hx⟩) h1 gw_753 gw_754 gw_74 gw_755 (by decide +kernel) hF hL
def sp_X0_hasRun : SP := spP d_H_II (fun _ _ => True) (fun x hp => vI (bB (decide (0 ≤ x.2.1 ∧ 0 ≤ x.2.2 ∧ x.2.2 ≤ hp.1 x.1 1 ∧ x.2.1 ≤ hp.1 x.1 1 - x.2.2))))
def E_X0_hasRun : EN := []
set_option maxRecDepth 100000 in
set_option maxHeartbeats 4000000 in
theorem c_X0_hasRun : Ctr M_X0_hasRun sp_X0_hasRun := by
  refine ctr_of (own := RX0) M_X0_hasRun sp_X0_hasRun (P := P_X0_hasRun) (K := K_X0) (E := E_X0_hasRun) (by decide) rfl pk_X0_hasRun K_X0_ok (fun _ h => absurd h List.not_mem_nil) (fun as hp Q h => by obtain ⟨x, hx, -⟩ := spP_e h; rw [d_H_II_e hx]; exact Nat.le_of_ble_eq_true rfl) ?_
  intro Q G hQi hG as hp h
  obtain ⟨x, hx, hpre, hQ⟩ := spP_e h
  rw [d_H_II_e hx]
  clear h hx
  obtain ⟨c, a, n⟩ := x
  try dsimp only at hpre hQ ⊢
  have no : ¬ (0 ≤ a ∧ 0 ≤ n ∧ n ≤ hp.1 c 1 ∧ a ≤ hp.1 c 1 - n) → ((nI 0 : Int32) = 0 ∨ (nI 0 : Int32) = 1) ∧ Q (some (vI (nI 0))) hp := fun h => q_b hQ (by rw [decide_eq_false h]; rfl)
  refine run hG [] 60 ?_
  refine And.intro (fun h1 => no (fun h => Int32.not_lt.mpr h.1 h1)) (fun h1 => ?_)
  refine And.intro (fun h2 => no (fun h => Int32.not_lt.mpr h.2.1 h2)) (fun h2 => ?_)
  refine And.intro (fun h3 => no (fun h => Int32.not_lt.mpr h.2.2.1 h3)) (fun h3 => ?_)
  refine And.intro (fun h4 => no (fun h => Int32.not_lt.mpr h.2.2.2 h4)) (fun h4 => ?_)
  exact q_b hQ (by rw [decide_eq_true ⟨Int32.not_lt.mp h1, Int32.not_lt.mp h2, Int32.not_lt.mp h3, Int32.not_lt.mp h4⟩]; rfl)
theorem sc_X0_hasRun {own : String} {F L idx : Nat} (h1 : Cond.methodLink own idx yX0_hasRun ∈ Gw) (hF : 1 ≤ F) (hL : 22 ≤ L) : SC own F L (idx, false, 3, sp_X0_hasRun) := SC_V spP_mono c_X0_hasRun okd_4 (fun as hp K h => by obtain ⟨x, hx, -⟩ := spP_e h; exact ⟨_, _, d_H_II_e hx⟩) h1 gw_766 gw_767 gw_74 gw_768 (by decide +kernel) hF hL
def sp_X0_clear : SP := spH d_H_II (fun x _ => kc (x.1 + 4) = 11) (fun _ _ => none) (fun x hp => rL (uI (uI hp x.1 0 x.2.1) x.1 1 (if x.2.1 = 0 then nI 0 else x.2.2)) (x.1 + 4) (fun _ => lN 0))
def E_X0_clear : EN := [(22, true, 2, sp_J7_fill_d0a16)]
set_option maxRecDepth 100000 in
set_option maxHeartbeats 4000000 in
theorem c_X0_clear : Ctr M_X0_clear sp_X0_clear := by
  refine ctr_of (own := RX0) M_X0_clear sp_X0_clear (P := P_X0_clear) (K := K_X0) (E := E_X0_clear) (by decide) rfl pk_X0_clear K_X0_ok (List.forall_mem_cons.mpr ⟨sc_J7_fill_d0a16 gw_747 (by decide) (by decide), fun _ h => absurd h List.not_mem_nil⟩) (fun as hp Q h => by obtain ⟨x, hx, -⟩ := spH_e h; rw [d_H_II_e hx]; exact Nat.le_of_ble_eq_true rfl) ?_
  intro Q G hQi hG as hp h
  obtain ⟨x, hx, hpre, hQ⟩ := spH_e h
  rw [d_H_II_e hx]
  clear h hx
  obtain ⟨c, b, n⟩ := x
  try dsimp only at hpre hQ ⊢
  refine run hG [] 60 ?_
  refine And.intro (fun h1 => ?_) (fun h1 => ?_)
  · have h1 : ¬ b = 0 := h1
    rw [if_neg h1] at hQ
    exact And.intro ⟨Or.inl rfl, hpre⟩ hQ
  · have h1 : b = 0 := h1
    rw [if_pos h1] at hQ
    exact And.intro ⟨Or.inl rfl, hpre⟩ hQ
theorem sc_X0_clear {own : String} {F L idx : Nat} (h1 : Cond.methodLink own idx yX0_clear ∈ Gw) (hF : 2 ≤ F) (hL : 46 ≤ L) : SC own F L (idx, false, 3, sp_X0_clear) := SC_V spH_mono c_X0_clear okd_4 (fun as hp K h => by obtain ⟨x, hx, -⟩ := spH_e h; exact ⟨_, _, d_H_II_e hx⟩) h1 gw_744 gw_745 gw_74 gw_746 (by decide +kernel) hF hL
def ptV (b : Int32) (v : Int64) : Int64 := v <<< ((nI 64 - b).toInt64 &&& 63) >>> ((nI 64 - b).toInt64 &&& 63)
def sp_X0_putNumber : SP := spH d_H_IJ (fun x _ => vp_in x.2.1 40) (fun _ _ => none) (fun x hp => uL hp (x.1 + 4) x.2.1.toNatClampNeg (ptV (hp.1 x.1 0) x.2.2))
def E_X0_putNumber : EN := []
set_option maxRecDepth 100000 in
set_option maxHeartbeats 4000000 in
theorem c_X0_putNumber : Ctr M_X0_putNumber sp_X0_putNumber := by
  refine ctr_of (own := RX0) M_X0_putNumber sp_X0_putNumber (P := P_X0_putNumber) (K := K_X0) (E := E_X0_putNumber) (by decide) rfl pk_X0_putNumber K_X0_ok (fun _ h => absurd h List.not_mem_nil) (fun as hp Q h => by obtain ⟨x, hx, -⟩ := spH_e h; rw [d_H_IJ_e hx]; exact Nat.le_of_ble_eq_true rfl) ?_
  intro Q G hQi hG as hp h
  obtain ⟨x, hx, hpre, hQ⟩ := spH_e h
  rw [d_H_IJ_e hx]
  clear h hx
  obtain ⟨c, i, v⟩ := x
  try dsimp only at hpre hQ ⊢
  refine run hG [] 60 ?_
  exact And.intro hpre hQ
theorem sc_X0_putNumber {own : String} {F L idx : Nat} (h1 : Cond.methodLink own idx yX0_putNumber ∈ Gw) (hF : 1 ≤ F) (hL : 23 ≤ L) : SC own F L (idx, false, 3, sp_X0_putNumber) := SC_V spH_mono c_X0_putNumber okd_4 (fun as hp K h => by obtain ⟨x, hx, -⟩ := spH_e h; exact ⟨_, _, d_H_IJ_e hx⟩) h1 gw_758 gw_759 gw_74 gw_760 (by decide +kernel) hF hL
