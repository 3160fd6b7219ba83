def gm (f : Nat → Int32) : Nat → Nat
  | 0 => 0
  | n + 1 => gm f n + cm (goF f n) (mN f)
theorem gm_le {f : Nat → Int32} (h : WF f) : ∀ n, gm f n ≤ 8 * n
  | 0 => Nat.le_refl _
  | n + 1 => by
    have h1 := gm_le h n
    have h2 := cm_le (goF f n) (mN f)
    have h3 := mN_lt h
    show gm f n + cm (goF f n) (mN f) ≤ 8 * (n + 1)
    omega
def sp_X3_goMinutes : SP := spF d_W_I (fun x hp => WF (rw_ hp x.1) ∧ vp_in x.2 1000) (fun x hp v hq => v = some (vI (nI (gm (rw_ hp x.1) x.2.toNatClampNeg))) ∧ rw_ hq x.1 = goF (rw_ hp x.1) x.2.toNatClampNeg ∧ frs x.1 hp hq)
def E_X3_goMinutes : EN := [(139, false, 1, sp_X3_goMinute)]
set_option maxRecDepth 100000 in
set_option maxHeartbeats 4000000 in
theorem c_X3_goMinutes : Ctr M_X3_goMinutes sp_X3_goMinutes := by
  refine ctr_of (own := RX3) M_X3_goMinutes sp_X3_goMinutes (P := P_X3_goMinutes) (K := K_X3) (E := E_X3_goMinutes) (by decide) rfl pk_X3_goMinutes K_X3_ok (List.forall_mem_cons.mpr ⟨sc_X3_goMinute gw_464 (by decide) (by decide), fun _ h => absurd h List.not_mem_nil⟩) (fun as hp Q h => by obtain ⟨x, hx, -⟩ := spF_e h; rw [d_W_I_e hx]; exact Nat.le_of_ble_eq_true rfl) ?_
  intro Q G hQi hG as hp h
  obtain ⟨x, hx, hpre, hQ⟩ := spF_e h
  rw [d_W_I_e hx]
  clear h hx
  obtain ⟨w, n⟩ := x
  try dsimp only at hpre hQ ⊢
  obtain ⟨hw0, hn⟩ := hpre
  obtain ⟨n, hn9, rfl⟩ := vp_in_of hn (by omega)
  rw [nI_clamp (by omega)] at hQ
  have hQ : ∀ v hq, (v = some (vI (nI (gm (rw_ hp w) n))) ∧ rw_ hq w = goF (rw_ hp w) n ∧ frs w hp hq) → Q v hq := hQ
  have hw0 : WF (rw_ hp w) := hw0
  generalize hf : rw_ hp w = f at hw0 hQ
  have key := for_up (P := fun k => ∀ H : HP, rw_ H w = goF f k → frs w hp H → G 4 [(3, vI (nI k)), (2, vI (nI (gm f k))), (0, vR 1 w), (1, vI (nI n))] [] H) n (by
    intro H e hfr
    refine run hG [4] 60 ?_
    exact And.intro (fun h1 => hQ _ _ ⟨rfl, e, hfr⟩) (fun h1 => absurd (nI_le (Nat.le_refl _) (by omega)) h1)) (by
    intro k hk ih H e hfr
    have hg := hw0.go k
    refine run hG [4] 60 ?_
    refine And.intro (fun h1 => absurd h1 (nI_ge hk (by omega))) (fun h1 => ?_)
    refine And.intro (show WF (rw_ H w) by rw [e]; exact hg.1) ?_
    rintro v hq ⟨rfl, e2, hfr2⟩
    have e2 : rw_ hq w = minF (rw_ H w) := e2
    have hfr2 : frs w H hq := hfr2
    have k9 := ih hq (by rw [e2, e]; rfl) (frs_t hfr hfr2)
    refine cl_lv hG [(3, vI (nI k + nI 1)), (2, vI (nI (gm f k) + nI (cm (rw_ H w) (mN (rw_ H w))))), (0, vR 1 w), (1, vI (nI n))] ⟨rfl, rfl, rfl, rfl, trivial⟩ ?_
    rw [nI_s, nI_add, e, hg.2]
    exact k9) 0 (by omega)
  have k0 := key hp hf (frs_r w hp)
  refine run hG [4] 60 ?_
  exact cl_use hG k0 ⟨rfl, rfl, rfl, rfl, trivial⟩
theorem sc_X3_goMinutes {own : String} {F L idx : Nat} (h1 : Cond.methodLink own idx yX3_goMinutes ∈ Gw) (hF : 5 ≤ F) (hL : 119 ≤ L) : SC own F L (idx, false, 2, sp_X3_goMinutes) := SC_V spF_mono c_X3_goMinutes okd_1 (fun as hp K h => by obtain ⟨x, hx, -⟩ := spF_e h; exact ⟨_, _, d_W_I_e hx⟩) h1 gw_461 gw_462 gw_70 gw_463 (by decide +kernel) hF hL
theorem many_wc {hp : HP} {w : Nat} (h : many (rw_ hp w)) : mN (rw_ hp w) ≤ 8 ∧ hp.1 w 12 = nI (mN (rw_ hp w)) := by
  obtain ⟨n, hn, e⟩ := h
  unfold mN
  rw [e, nI_clamp (by omega), ← rw_6, e]
  exact ⟨hn, rfl⟩
def sp_X3_awakeCount : SP := spP d_W (fun w hp => WF (rw_ hp w)) (fun w hp => vI (awV (rw_ hp w)))
def E_X3_awakeCount : EN := []
set_option maxRecDepth 100000 in
set_option maxHeartbeats 4000000 in
theorem c_X3_awakeCount : Ctr M_X3_awakeCount sp_X3_awakeCount := by
  refine ctr_of (own := RX3) M_X3_awakeCount sp_X3_awakeCount (P := P_X3_awakeCount) (K := K_X3) (E := E_X3_awakeCount) (by decide) rfl pk_X3_awakeCount K_X3_ok (fun _ h => absurd h List.not_mem_nil) (fun as hp Q h => by obtain ⟨x, hx, -⟩ := spP_e h; rw [d_W_e hx]; exact Nat.le_of_ble_eq_true rfl) ?_
  intro Q G hQi hG as hp h
  obtain ⟨x, hx, hpre, hQ⟩ := spP_e h
  rw [d_W_e hx]
  clear h hx
  have hw0 : WF (rw_ hp x) := hpre
  have hm := many_wc hw0.many
  unfold awV at hQ
  have hwk : ∀ i, i < mN (rw_ hp x) → rw_ hp x (144 + 5 * i + 4) = hp.1 (x + 4 + i) 4 ∧ (hp.1 (x + 4 + i) 4 = nI 0 ∨ hp.1 (x + 4 + i) 4 = nI 1) := fun i hi => by
    have e := rw_wk hp x (i := i) (j := 4) (by omega) (by omega)
    have h := (hw0.wk (w := i) hi).2.2.2.2
    rw [e] at h
    obtain ⟨a, ha, ea⟩ := vp_in_of h (by omega)
    refine ⟨e, ?_⟩
    rcases (show a = 0 ∨ a = 1 by omega) with h0 | h0 <;> subst h0
    · exact Or.inl ea
    · exact Or.inr ea
  generalize rw_ hp x = f at hQ hm hwk
  have key := for_up (P := fun k => G 4 [(2, vI (nI k)), (1, vI (fold (fun w s => s + f (144 + 5 * w + 4)) (nI 0) k)), (0, vR 1 x)] [] hp) (mN f) (by
    refine run hG [4] 60 ?_
    exact And.intro (fun h1 => hQ) (fun h1 => absurd (show hp.1 x 12 ≤ nI (mN f) by rw [hm.2]; exact nI_le (Nat.le_refl _) (by omega)) h1)) (by
    intro k hk ih
    have ih : G 4 [(2, vI (nI (k + 1))), (1, vI (fold (fun w s => s + f (144 + 5 * w + 4)) (nI 0) k + f (144 + 5 * k + 4))), (0, vR 1 x)] [] hp := ih
    generalize fold (fun w s => s + f (144 + 5 * w + 4)) (nI 0) k = s at ih
    have ek : (nI k).toNatClampNeg = k := nI_clamp (by omega)
    have eo : x + 3 + 1 + (nI k).toNatClampNeg = x + 4 + k := by rw [ek]
    have hk4 := hwk k hk
    rw [hk4.1] at ih
    refine run hG [4] 60 ?_
    refine And.intro (fun h1 => ?_) (fun h1 => ?_)
    · have h1 : hp.1 x 12 ≤ nI k := h1
      rw [hm.2] at h1
      exact absurd h1 (nI_ge hk (by omega))
    refine And.intro (vp_in_nI (by omega) (by omega)) ?_
    refine And.intro (fun h2 => ?_) (fun h2 => ?_)
    · have h2 : hp.1 (x + 3 + 1 + (nI k).toNatClampNeg) 4 = 0 := h2
      rw [eo] at h2
      rw [h2] at ih
      refine cl_lv hG [(2, vI (nI k + nI 1)), (1, vI (s + nI 0)), (0, vR 1 x)] ⟨rfl, rfl, rfl, trivial⟩ ?_
      rw [nI_s]
      exact ih
    · have h2 : ¬ hp.1 (x + 3 + 1 + (nI k).toNatClampNeg) 4 = 0 := h2
      rw [eo] at h2
      rw [hk4.2.resolve_left h2] at ih
      refine cl_lv hG [(2, vI (nI k + nI 1)), (1, vI (s + nI 1)), (0, vR 1 x)] ⟨rfl, rfl, rfl, trivial⟩ ?_
      rw [nI_s]
      exact ih) 0 (by omega)
  refine run hG [4] 60 ?_
  exact cl_use hG key ⟨rfl, rfl, rfl, trivial⟩
theorem sc_X3_awakeCount {own : String} {F L idx : Nat} (h1 : Cond.methodLink own idx yX3_awakeCount ∈ Gw) (hF : 1 ≤ F) (hL : 22 ≤ L) : SC own F L (idx, false, 1, sp_X3_awakeCount) := SC_V spP_mono c_X3_awakeCount okd_1 (fun as hp K h => by obtain ⟨x, hx, -⟩ := spP_e h; exact ⟨_, _, d_W_e hx⟩) h1 gw_486 gw_487 gw_70 gw_488 (by decide +kernel) hF hL
def sp_X3_homeCount : SP := spP d_W (fun w hp => WF (rw_ hp w)) (fun w hp => vI (hmV (rw_ hp w)))
def E_X3_homeCount : EN := []
set_option maxRecDepth 100000 in
set_option maxHeartbeats 4000000 in
theorem c_X3_homeCount : Ctr M_X3_homeCount sp_X3_homeCount := by
  refine ctr_of (own := RX3) M_X3_homeCount sp_X3_homeCount (P := P_X3_homeCount) (K := K_X3) (E := E_X3_homeCount) (by decide) rfl pk_X3_homeCount K_X3_ok (fun _ h => absurd h List.not_mem_nil) (fun as hp Q h => by obtain ⟨x, hx, -⟩ := spP_e h; rw [d_W_e hx]; exact Nat.le_of_ble_eq_true rfl) ?_
  intro Q G hQi hG as hp h
  obtain ⟨x, hx, hpre, hQ⟩ := spP_e h
  rw [d_W_e hx]
  clear h hx
  have hw0 : WF (rw_ hp x) := hpre
  have hm := many_wc hw0.many
  unfold hmV at hQ
  have hwk : ∀ i, i < mN (rw_ hp x) → rw_ hp x (144 + 5 * i + 2) = hp.1 (x + 4 + i) 2 ∧ rw_ hp x (144 + 5 * i + 1) = hp.1 (x + 4 + i) 1 := fun i hi => ⟨rw_wk hp x (by omega) (by omega), rw_wk hp x (by omega) (by omega)⟩
  generalize rw_ hp x = f at hQ hm hwk
  have key := for_up (P := fun k => G 4 [(2, vI (nI k)), (1, vI (fold (hmG f) (nI 0) k)), (0, vR 1 x)] [] hp) (mN f) (by
    refine run hG [4] 60 ?_
    exact And.intro (fun h1 => hQ) (fun h1 => absurd (show hp.1 x 12 ≤ nI (mN f) by rw [hm.2]; exact nI_le (Nat.le_refl _) (by omega)) h1)) (by
    intro k hk ih
    have ih : G 4 [(2, vI (nI (k + 1))), (1, vI (fold (hmG f) (nI 0) k + (if f (144 + 5 * k + 2) = f (144 + 5 * k + 1) then nI 1 else nI 0))), (0, vR 1 x)] [] hp := ih
    generalize fold (hmG f) (nI 0) k = s at ih
    have ek : (nI k).toNatClampNeg = k := nI_clamp (by omega)
    have eo : x + 3 + 1 + (nI k).toNatClampNeg = x + 4 + k := by rw [ek]
    have hk4 := hwk k hk
    rw [hk4.1, hk4.2] at ih
    refine run hG [4] 60 ?_
    refine And.intro (fun h1 => ?_) (fun h1 => ?_)
    · have h1 : hp.1 x 12 ≤ nI k := h1
      rw [hm.2] at h1
      exact absurd h1 (nI_ge hk (by omega))
    refine And.intro (vp_in_nI (by omega) (by omega)) ?_
    refine And.intro (vp_in_nI (by omega) (by omega)) ?_
    refine And.intro (fun h2 => ?_) (fun h2 => ?_)
    · have h2 : ¬ hp.1 (x + 3 + 1 + (nI k).toNatClampNeg) 2 = hp.1 (x + 3 + 1 + (nI k).toNatClampNeg) 1 := h2
      rw [eo] at h2
      rw [if_neg h2] at ih
      refine cl_lv hG [(2, vI (nI k + nI 1)), (1, vI (s + nI 0)), (0, vR 1 x)] ⟨rfl, rfl, rfl, trivial⟩ ?_
      rw [nI_s]
      exact ih
    · have h2 : hp.1 (x + 3 + 1 + (nI k).toNatClampNeg) 2 = hp.1 (x + 3 + 1 + (nI k).toNatClampNeg) 1 := h2
      rw [eo] at h2
      rw [if_pos h2] at ih
      refine cl_lv hG [(2, vI (nI k + nI 1)), (1, vI (s + nI 1)), (0, vR 1 x)] ⟨rfl, rfl, rfl, trivial⟩ ?_
      rw [nI_s]
      exact ih) 0 (by omega)
  refine run hG [4] 60 ?_
  exact cl_use hG key ⟨rfl, rfl, rfl, trivial⟩
theorem sc_X3_homeCount {own : String} {F L idx : Nat} (h1 : Cond.methodLink own idx yX3_homeCount ∈ Gw) (hF : 1 ≤ F) (hL : 22 ≤ L) : SC own F L (idx, false, 1, sp_X3_homeCount) := SC_V spP_mono c_X3_homeCount okd_1 (fun as hp K h => by obtain ⟨x, hx, -⟩ := spP_e h; exact ⟨_, _, d_W_e hx⟩) h1 gw_474 gw_475 gw_70 gw_476 (by decide +kernel) hF hL
