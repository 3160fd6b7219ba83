def rvN (f : Nat → Int32) : Int32 := fold (fun w s => s + (if inR f w = true then nI 1 else nI 0)) (nI 0) (mN f)
def sp_X3_riverCount : SP := spP d_W (fun w hp => WF (rw_ hp w)) (fun w hp => vI (rvN (rw_ hp w)))
def E_X3_riverCount : EN := [(97, false, 2, sp_X3_isRiver)]
set_option maxRecDepth 100000 in
set_option maxHeartbeats 4000000 in
theorem c_X3_riverCount : Ctr M_X3_riverCount sp_X3_riverCount := by
  refine ctr_of (own := RX3) M_X3_riverCount sp_X3_riverCount (P := P_X3_riverCount) (K := K_X3) (E := E_X3_riverCount) (by decide) rfl pk_X3_riverCount K_X3_ok (List.forall_mem_cons.mpr ⟨sc_X3_isRiver gw_337 (by decide) (by decide), fun _ h => absurd h List.not_mem_nil⟩) (fun as hp Q h => by obtain ⟨x, hx, -⟩ := spP_e h; rw [d_W_e hx]; exact Nat.le_of_ble_eq_true rfl) ?_
  intro Q G hQi hG as hp h
  obtain ⟨x, hx, hpre, hQ⟩ := spP_e h
  rw [d_W_e hx]
  clear h hx
  have hw0 : WF (rw_ hp x) := hpre
  have hm := many_wc hw0.many
  unfold rvN at hQ
  have hwk : ∀ i, i < mN (rw_ hp x) → vp_in (hp.1 (x + 4 + i) 2) 25 ∧ bI (hp.1 x 3) (hp.1 (x + 4 + i) 2).toNatClampNeg = (if inR (rw_ hp x) i = true then nI 1 else nI 0) := fun i hi => by
    have e := rw_wk hp x (i := i) (j := 2) (by omega) (by omega)
    have h := (hw0.wk (w := i) hi).2.2.1
    rw [e] at h
    refine ⟨h, ?_⟩
    have h25 := ix_lt h
    have e2 := rw_rv hp x h25
    have h01 := bI_01 (hp.1 x 3) (d := (hp.1 (x + 4 + i) 2).toNatClampNeg) (by omega)
    unfold inR plc
    rw [e, e2]
    rcases h01 with h0 | h0 <;> rw [h0] <;> decide
  generalize rw_ hp x = f at hQ hm hwk
  have key := for_up (P := fun k => G 4 [(2, vI (nI k)), (1, vI (fold (fun w s => s + (if inR f w = true then nI 1 else nI 0)) (nI 0) k)), (0, vR 1 x)] [] hp) (mN f) (by
    refine run hG [4] 60 ?_
    exact And.intro (fun h1 => hQ) (fun h1 => absurd (show hp.1 x 12 ≤ nI (mN f) by rw [hm.2]; exact nI_le (Nat.le_refl _) (by omega)) h1)) (by
    intro k hk ih
    have ih : G 4 [(2, vI (nI (k + 1))), (1, vI (fold (fun w s => s + (if inR f w = true then nI 1 else nI 0)) (nI 0) k + (if inR f k = true then nI 1 else nI 0))), (0, vR 1 x)] [] hp := ih
    generalize fold (fun w s => s + (if inR f w = true then nI 1 else nI 0)) (nI 0) k = s at ih
    have ek : (nI k).toNatClampNeg = k := nI_clamp (by omega)
    have eo : x + 3 + 1 + (nI k).toNatClampNeg = x + 4 + k := by rw [ek]
    have hk4 := hwk k hk
    rw [← hk4.2] at ih
    have h01 := bI_01 (hp.1 x 3) (d := (hp.1 (x + 4 + k) 2).toNatClampNeg) (by have := ix_lt hk4.1; omega)
    refine run hG [4] 60 ?_
    refine And.intro (fun h1 => ?_) (fun h1 => ?_)
    · have h1 : hp.1 x 12 ≤ nI k := h1
      rw [hm.2] at h1
      exact absurd h1 (nI_ge hk (by omega))
    refine And.intro (vp_in_nI (by omega) (by omega)) ?_
    refine And.intro (show vp_in (hp.1 (x + 3 + 1 + (nI k).toNatClampNeg) 2) 25 by rw [eo]; exact hk4.1) ?_
    refine And.intro (fun h2 => ?_) (fun h2 => ?_)
    · have h2 : bI (hp.1 x 3) (hp.1 (x + 3 + 1 + (nI k).toNatClampNeg) 2).toNatClampNeg = 0 := h2
      rw [eo] at h2
      rw [h2] at ih
      refine cl_lv hG [(2, vI (nI k + nI 1)), (1, vI (s + nI 0)), (0, vR 1 x)] ⟨rfl, rfl, rfl, trivial⟩ ?_
      rw [nI_s]
      exact ih
    · have h2 : ¬ bI (hp.1 x 3) (hp.1 (x + 3 + 1 + (nI k).toNatClampNeg) 2).toNatClampNeg = 0 := h2
      rw [eo] at h2
      rw [h01.resolve_left h2] at ih
      refine cl_lv hG [(2, vI (nI k + nI 1)), (1, vI (s + nI 1)), (0, vR 1 x)] ⟨rfl, rfl, rfl, trivial⟩ ?_
      rw [nI_s]
      exact ih) 0 (by omega)
  refine run hG [4] 60 ?_
  exact cl_use hG key ⟨rfl, rfl, rfl, trivial⟩
theorem sc_X3_riverCount {own : String} {F L idx : Nat} (h1 : Cond.methodLink own idx yX3_riverCount ∈ Gw) (hF : 2 ≤ F) (hL : 43 ≤ L) : SC own F L (idx, false, 1, sp_X3_riverCount) := SC_V spP_mono c_X3_riverCount okd_1 (fun as hp K h => by obtain ⟨x, hx, -⟩ := spP_e h; exact ⟨_, _, d_W_e hx⟩) h1 gw_490 gw_491 gw_70 gw_492 (by decide +kernel) hF hL
def waN (f : Nat → Int32) (v : Int64) : Nat → Int32 := fold (fun w s => if (f (144 + 5 * w + 2)).toInt64 = v then s ||| nI 1 <<< (nI w &&& 31) else s) (nI 0)
def sp_X3_walkersAt : SP := spP d_W_J (fun x hp => many (rw_ hp x.1)) (fun x hp => vI (waN (rw_ hp x.1) x.2 (mN (rw_ hp x.1))))
def E_X3_walkersAt : EN := []
set_option maxRecDepth 100000 in
set_option maxHeartbeats 4000000 in
theorem c_X3_walkersAt : Ctr M_X3_walkersAt sp_X3_walkersAt := by
  refine ctr_of (own := RX3) M_X3_walkersAt sp_X3_walkersAt (P := P_X3_walkersAt) (K := K_X3) (E := E_X3_walkersAt) (by decide) rfl pk_X3_walkersAt K_X3_ok (fun _ h => absurd h List.not_mem_nil) (fun as hp Q h => by obtain ⟨x, hx, -⟩ := spP_e h; rw [d_W_J_e hx]; exact Nat.le_of_ble_eq_true rfl) ?_
  intro Q G hQi hG as hp h
  obtain ⟨x, hx, hpre, hQ⟩ := spP_e h
  rw [d_W_J_e hx]
  clear h hx
  obtain ⟨w, v⟩ := x
  try dsimp only at hpre hQ ⊢
  have hm := many_wc (hp := hp) (w := w) hpre
  have hwk : ∀ i, i < mN (rw_ hp w) → rw_ hp w (144 + 5 * i + 2) = hp.1 (w + 4 + i) 2 := fun i hi => rw_wk hp w (by omega) (by omega)
  generalize rw_ hp w = f at hQ hm hwk
  have key := for_up (P := fun k => G 5 [(4, vI (nI k)), (3, vI (waN f v k)), (0, vR 1 w), (1, vL v)] [] hp) (mN f) (by
    refine run hG [5] 60 ?_
    exact And.intro (fun h1 => hQ) (fun h1 => absurd (show hp.1 w 12 ≤ nI (mN f) by rw [hm.2]; exact nI_le (Nat.le_refl _) (by omega)) h1)) (by
    intro k hk ih
    have ih : G 5 [(4, vI (nI (k + 1))), (3, vI (if (f (144 + 5 * k + 2)).toInt64 = v then waN f v k ||| nI 1 <<< (nI k &&& 31) else waN f v k)), (0, vR 1 w), (1, vL v)] [] hp := ih
    generalize waN f v k = s at ih
    have ek : (nI k).toNatClampNeg = k := nI_clamp (by omega)
    have eo : w + 3 + 1 + (nI k).toNatClampNeg = w + 4 + k := by rw [ek]
    rw [hwk k hk] at ih
    refine run hG [5] 60 ?_
    refine And.intro (fun h1 => ?_) (fun h1 => ?_)
    · have h1 : hp.1 w 12 ≤ nI k := h1
      rw [hm.2] at h1
      exact absurd h1 (nI_ge hk (by omega))
    refine And.intro (vp_in_nI (by omega) (by omega)) ?_
    refine And.intro (fun h2 => ?_) (fun h2 => ?_)
    · have h2 : ¬ lg_cmp (hp.1 (w + 3 + 1 + (nI k).toNatClampNeg) 2).toInt64 v = 0 := h2
      rw [lg_cmp_eq, eo] at h2
      rw [if_neg h2] at ih
      refine cl_lv hG [(4, vI (nI k + nI 1)), (3, vI s), (0, vR 1 w), (1, vL v)] ⟨rfl, rfl, rfl, rfl, trivial⟩ ?_
      rw [nI_s]
      exact ih
    · have h2 : lg_cmp (hp.1 (w + 3 + 1 + (nI k).toNatClampNeg) 2).toInt64 v = 0 := h2
      rw [lg_cmp_eq, eo] at h2
      rw [if_pos h2] at ih
      refine cl_lv hG [(4, vI (nI k + nI 1)), (3, vI (s ||| nI 1 <<< (nI k &&& 31))), (0, vR 1 w), (1, vL v)] ⟨rfl, rfl, rfl, rfl, trivial⟩ ?_
      rw [nI_s]
      exact ih) 0 (by omega)
  refine run hG [5] 60 ?_
  exact cl_use hG key ⟨rfl, rfl, rfl, rfl, trivial⟩
theorem sc_X3_walkersAt {own : String} {F L idx : Nat} (h1 : Cond.methodLink own idx yX3_walkersAt ∈ Gw) (hF : 1 ≤ F) (hL : 24 ≤ L) : SC own F L (idx, false, 2, sp_X3_walkersAt) := SC_V spP_mono c_X3_walkersAt okd_1 (fun as hp K h => by obtain ⟨x, hx, -⟩ := spP_e h; exact ⟨_, _, d_W_J_e hx⟩) h1 gw_348 gw_349 gw_70 gw_350 (by decide +kernel) hF hL
