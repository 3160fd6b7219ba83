theorem nI_ne1 {n : Nat} (h : n < 2 ^ 31) : ¬ nI n = -1 := fun e => not_nn (e ▸ nI_nn h)
theorem kab_s : ∀ a, a < 6 → kab (nI a).toNatClampNeg = kab a := by decide +kernel
theorem und_s : ∀ a, a < 6 → ∀ k, k < 6 → undB (nI a) (nI k) = (decide (nI a = nI k) || (if kab a = -1 then false else undB (kab a) (nI k))) := by decide +kernel
theorem kab_in : ∀ a, a < 6 → kab a = -1 ∨ ∃ b, b < a ∧ kab a = nI b := by
  intro a ha
  rcases (show a = 0 ∨ a = 1 ∨ a = 2 ∨ a = 3 ∨ a = 4 ∨ a = 5 by omega) with h | h | h | h | h | h <;> subst h
  · exact Or.inl rfl
  · exact Or.inr ⟨0, by omega, rfl⟩
  · exact Or.inr ⟨0, by omega, rfl⟩
  · exact Or.inr ⟨1, by omega, rfl⟩
  · exact Or.inr ⟨0, by omega, rfl⟩
  · exact Or.inr ⟨2, by omega, rfl⟩
def sp_X4_isUnder : SP := spP d_S_II (fun x _ => vp_in x.1 6 ∧ vp_in x.2 6) (fun x _ => vI (bB (undB x.1 x.2)))
def E_X4_isUnder : EN := [(115, true, 1, sp_X4_isKind)]
set_option maxRecDepth 100000 in
set_option maxHeartbeats 4000000 in
theorem c_X4_isUnder : Ctr M_X4_isUnder sp_X4_isUnder := by
  refine ctr_of (own := RX4) M_X4_isUnder sp_X4_isUnder (P := P_X4_isUnder) (K := K_X4) (E := E_X4_isUnder) (by decide) rfl pk_X4_isUnder K_X4_ok (List.forall_mem_cons.mpr ⟨sc_X4_isKind gw_376 (by decide) (by decide), fun _ h => absurd h List.not_mem_nil⟩) (fun as hp Q h => by obtain ⟨x, hx, -⟩ := spP_e h; rw [d_S_II_e hx]; exact Nat.le_of_ble_eq_true rfl) ?_
  intro Q G hQi hG as hp h
  obtain ⟨x, hx, hpre, hQ⟩ := spP_e h
  rw [d_S_II_e hx]
  clear h hx
  obtain ⟨a, k⟩ := x
  try dsimp only at hpre hQ ⊢
  obtain ⟨a, ha, rfl⟩ := vp_in_of hpre.1 (by omega)
  obtain ⟨k, hk, rfl⟩ := vp_in_of hpre.2 (by omega)
  have key : ∀ n a, a < n → n ≤ 6 → ∀ l, l + n ≤ 6 → Q (some (vI (bB (undB (nI a) (nI k))))) hp → G 4 [(2, vI (nI a)), (3, vI (nI l)), (1, vI (nI k))] [] hp := by
    intro n
    induction n with
    | zero => exact fun a ha => absurd ha (by omega)
    | succ n ih =>
      intro a ha hn l hl hq
      rw [und_s a (by omega) k hk] at hq
      refine run hG [4] 60 ?_
      refine And.intro (fun h1 => ?_) (fun h1 => ?_)
      · have h1 : nI 6 ≤ nI l := h1
        exact absurd h1 (nI_ge (by omega) (by omega))
      refine And.intro trivial ?_
      refine And.intro (fun h2 => ?_) (fun h2 => ?_)
      · have h2 : bB (inB (nI a) 6) = 0 := h2
        rw [inB_t.mpr (vp_in_nI (show a < 6 by omega) (by omega))] at h2
        exact absurd h2 (by decide)
      refine And.intro (fun h3 => ?_) (fun h3 => ?_)
      · have h3 : ¬ nI a = nI k := h3
        rw [decide_eq_false h3, Bool.false_or] at hq
        refine And.intro (vp_in_nI (by omega) (by omega)) ?_
        refine cl_lv hG [(2, vI (kab (nI a).toNatClampNeg)), (3, vI (nI l + nI 1)), (1, vI (nI k))] ⟨rfl, rfl, rfl, trivial⟩ ?_
        rw [kab_s a (by omega), nI_s]
        rcases kab_in a (by omega) with e | ⟨b, hb, e⟩
        · rw [if_pos e] at hq
          rw [e]
          refine run hG [] 60 ?_
          refine And.intro (fun h1 => And.intro (Or.inl rfl) hq) (fun h1 => ?_)
          refine And.intro trivial ?_
          exact And.intro (fun h2 => And.intro (Or.inl rfl) hq) (fun h2 => absurd (show bB (inB (-1) 6) = 0 by decide) h2)
        · rw [if_neg (by rw [e]; exact nI_ne1 (by omega)), e] at hq
          rw [e]
          exact ih b (by omega) (by omega) (l + 1) (by omega) hq
      · have h3 : nI a = nI k := h3
        rw [decide_eq_true h3, Bool.true_or] at hq
        exact And.intro (Or.inr rfl) hq
  refine run hG [4] 60 ?_
  exact cl_use hG (key 6 a ha (by omega) 0 (by omega) hQ) ⟨rfl, rfl, rfl, trivial⟩
theorem sc_X4_isUnder {own : String} {F L idx : Nat} (h1 : Cond.methodLink own idx yX4_isUnder ∈ Gw) (hF : 3 ≤ F) (hL : 65 ≤ L) : SC own F L (idx, true, 2, sp_X4_isUnder) := SC_S spP_mono c_X4_isUnder h1 gw_415 gw_69 gw_416 (by decide +kernel) hF hL
def sp_X4_as : SP := spF d_C_II (fun _ hp => RX hp) (fun x hp v hq => PO (F_as x.1 x.2) hp v hq)
def E_X4_as : EN := [(128, false, 2, sp_X4_isWalker), (115, true, 1, sp_X4_isKind), (63, false, 2, sp_X4_tell), (155, true, 2, sp_X4_isUnder)]
set_option maxRecDepth 100000 in
set_option maxHeartbeats 4000000 in
theorem c_X4_as : Ctr M_X4_as sp_X4_as := by
  refine ctr_of (own := RX4) M_X4_as sp_X4_as (P := P_X4_as) (K := K_X4) (E := E_X4_as) (by decide) rfl pk_X4_as K_X4_ok (List.forall_mem_cons.mpr ⟨sc_X4_isWalker gw_390 (by decide) (by decide), List.forall_mem_cons.mpr ⟨sc_X4_isKind gw_376 (by decide) (by decide), List.forall_mem_cons.mpr ⟨sc_X4_tell gw_298 (by decide) (by decide), List.forall_mem_cons.mpr ⟨sc_X4_isUnder gw_414 (by decide) (by decide), fun _ h => absurd h List.not_mem_nil⟩⟩⟩⟩) (fun as hp Q h => by obtain ⟨x, hx, -⟩ := spF_e h; rw [d_C_II_e hx]; exact Nat.le_of_ble_eq_true rfl) ?_
  intro Q G hQi hG as hp h
  obtain ⟨x, hx, hpre, hQ⟩ := spF_e h
  rw [d_C_II_e hx]
  clear h hx
  obtain ⟨w, k⟩ := x
  try dsimp only at hpre hQ ⊢
  obtain ⟨m0, h0⟩ := hpre
  have no : ¬ (inB w (mN (rw_ hp 1)) = true ∧ inB k 6 = true) → ∀ mp, RC hp mp → ∃ mq, qm mp mq ∧ F_as w k mp = noP mq 0 := fun h mp h2 => ⟨mp, qm_r mp, if_neg (by rw [h2.mn]; exact h)⟩
  refine run hG [] 60 ?_
  refine And.intro ⟨m0, h0⟩ ?_
  refine And.intro (fun h1 => at_no hQ 0 (by omega) (by decide) (qc_r hp) (no (fun h => by rw [bB_0.mp h1] at h; exact absurd h.1 (by decide)))) (fun h1 => ?_)
  have h1 : inB w (mN (rw_ hp 1)) = true := bB_1.mp h1
  refine And.intro trivial ?_
  refine And.intro (fun h2 => ?_) (fun h2 => at_no hQ 0 (by omega) (by decide) (qc_r hp) (no (fun h => by rw [bB_0.mp h2] at h; exact absurd h.2 (by decide))))
  have h2 : inB k 6 = true := bB_1.mp h2
  have hc : ∀ mp, RC hp mp → inB w (mN (mp.1 53)) = true ∧ inB k 6 = true := fun mp h => ⟨by rw [h.mn]; exact h1, h2⟩
  obtain ⟨h8, hl, hl8⟩ := h0.w8 h1
  refine And.intro h8 ?_
  refine And.intro ⟨(h0.ok hl).1, inB_t.mp h2⟩ ?_
  refine And.intro (fun h3 => ?_) (fun h3 => ?_)
  · have h3 : undB (hp.1 (5 + w.toNatClampNeg) 0) k = true := bB_1.mp h3
    refine at_v hQ (fun mp h => ?_)
    unfold F_as
    rw [if_pos (hc mp h), h.wx h1 (by omega), if_pos h3, h.wx h1 (by omega)]
  · have h3 : undB (hp.1 (5 + w.toNatClampNeg) 0) k = false := bB_0.mp h3
    refine at_no hQ 2 (by omega) (by decide) (qc_r hp) (fun mp h => ⟨mp, qm_r mp, ?_⟩)
    unfold F_as
    rw [if_pos (hc mp h), h.wx h1 (by omega), if_neg (by rw [h3]; decide)]
theorem sc_X4_as {own : String} {F L idx : Nat} (h1 : Cond.methodLink own idx yX4_as ∈ Gw) (hF : 4 ≤ F) (hL : 88 ≤ L) : SC own F L (idx, false, 3, sp_X4_as) := SC_V spF_mono c_X4_as okd_0 (fun as hp K h => by obtain ⟨x, hx, -⟩ := spF_e h; exact ⟨_, _, d_C_II_e hx⟩) h1 gw_411 gw_412 gw_69 gw_413 (by decide +kernel) hF hL
def sp_X4_step : SP := spF d_C_I (fun _ hp => RX hp) (fun x hp v hq => PO (F_step x) hp v hq)
def E_X4_step : EN := [(128, false, 2, sp_X4_isWalker), (63, false, 2, sp_X4_tell), (163, false, 2, sp_X3_stepOf)]
set_option maxRecDepth 100000 in
set_option maxHeartbeats 4000000 in
theorem c_X4_step : Ctr M_X4_step sp_X4_step := by
  refine ctr_of (own := RX4) M_X4_step sp_X4_step (P := P_X4_step) (K := K_X4) (E := E_X4_step) (by decide) rfl pk_X4_step K_X4_ok (List.forall_mem_cons.mpr ⟨sc_X4_isWalker gw_390 (by decide) (by decide), List.forall_mem_cons.mpr ⟨sc_X4_tell gw_298 (by decide) (by decide), List.forall_mem_cons.mpr ⟨sc_X3_stepOf gw_424 (by decide) (by decide), fun _ h => absurd h List.not_mem_nil⟩⟩⟩) (fun as hp Q h => by obtain ⟨x, hx, -⟩ := spF_e h; rw [d_C_I_e hx]; exact Nat.le_of_ble_eq_true rfl) ?_
  intro Q G hQi hG as hp h
  obtain ⟨x, hx, hpre, hQ⟩ := spF_e h
  rw [d_C_I_e hx]
  clear h hx
  obtain ⟨m0, h0⟩ := hpre
  refine run hG [] 60 ?_
  refine And.intro ⟨m0, h0⟩ ?_
  refine And.intro (fun h1 => ?_) (fun h1 => at_no hQ 0 (by omega) (by decide) (qc_r hp) (fun mp h => ⟨mp, qm_r mp, if_neg (by rw [h.mn, bB_0.mp h1]; decide)⟩))
  have h1 : inB x (mN (rw_ hp 1)) = true := bB_1.mp h1
  obtain ⟨h8, hl, hl8⟩ := h0.w8 h1
  refine And.intro h8 ?_
  refine And.intro ⟨x.toNatClampNeg, hl8, rfl, h0.wc.wk hl⟩ ?_
  have e : 5 + x.toNatClampNeg - 1 - 4 = x.toNatClampNeg := by omega
  show Q (some (vI (stF (rw_ hp 1) (5 + x.toNatClampNeg - 1 - 4)).1)) (uI (uI hp 1 6 ((stF (rw_ hp 1) (5 + x.toNatClampNeg - 1 - 4)).2 1)) 1 6 (hp.1 1 6))
  rw [e, uI_uI, uI_id rfl]
  refine at_q hQ (qc_r hp) (fun mp h => ⟨mp, qm_r mp, ?_⟩)
  · unfold F_step
    rw [if_pos (by rw [h.mn]; exact h1)]
    refine Prod.ext (h.ag.st h.wf (by rw [h.mn]; exact hl)).1.symm ?_
    show rI mp 53 (upd (stF (mp.1 53) x.toNatClampNeg).2 1 (mp.1 53 1)) = mp
    rw [show upd (stF (mp.1 53) x.toNatClampNeg).2 1 (mp.1 53 1) = mp.1 53 by
      funext j
      rw [upd_at]
      split
      · next h => rw [h]
      · next h => exact st_row _ _ h]
    exact rI_self mp 53
theorem sc_X4_step {own : String} {F L idx : Nat} (h1 : Cond.methodLink own idx yX4_step ∈ Gw) (hF : 4 ≤ F) (hL : 94 ≤ L) : SC own F L (idx, false, 2, sp_X4_step) := SC_V spF_mono c_X4_step okd_0 (fun as hp K h => by obtain ⟨x, hx, -⟩ := spF_e h; exact ⟨_, _, d_C_I_e hx⟩) h1 gw_421 gw_422 gw_69 gw_423 (by decide +kernel) hF hL
