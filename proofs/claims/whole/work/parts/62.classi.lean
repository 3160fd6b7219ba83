def sp_X1_nameOf : SP := spP d_S_I (fun x _ => vp_in x 6) (fun x _ => vX (2 * x.toNatClampNeg + 10))
def E_X1_nameOf : EN := []
set_option maxRecDepth 100000 in
set_option maxHeartbeats 4000000 in
theorem c_X1_nameOf : Ctr M_X1_nameOf sp_X1_nameOf := by
  refine ctr_of (own := RX1) M_X1_nameOf sp_X1_nameOf (P := P_X1_nameOf) (K := K_X1) (E := E_X1_nameOf) (by decide) rfl pk_X1_nameOf K_X1_ok (fun _ h => absurd h List.not_mem_nil) (fun as hp Q h => by obtain ⟨x, hx, -⟩ := spP_e h; rw [d_S_I_e hx]; exact Nat.le_of_ble_eq_true rfl) ?_
  intro Q G hQi hG as hp h
  obtain ⟨x, hx, hpre, hQ⟩ := spP_e h
  rw [d_S_I_e hx]
  clear h hx
  obtain ⟨k, hk, rfl⟩ := vp_in_of hpre (by omega)
  rw [nI_clamp (by omega)] at hQ
  have et : (nI k).toInt = (k : Int) := nI_toInt (by omega)
  refine run hG [] 60 ?_
  refine And.intro (fun hz => ?_) (And.intro (fun hz => ?_) (And.intro (fun hz => ?_) (And.intro (fun hz => ?_) (And.intro (fun hz => ?_) (fun hz => ?_)))))
  · have e : k = 1 := by rw [et] at hz; omega
    subst e
    exact hQ
  · have e : k = 2 := by rw [et] at hz; omega
    subst e
    exact hQ
  · have e : k = 3 := by rw [et] at hz; omega
    subst e
    exact hQ
  · have e : k = 4 := by rw [et] at hz; omega
    subst e
    exact hQ
  · have e : k = 5 := by rw [et] at hz; omega
    subst e
    exact hQ
  · have e : k = 0 := by rw [et] at hz; omega
    subst e
    exact hQ
theorem sc_X1_nameOf {own : String} {F L idx : Nat} (h1 : Cond.methodLink own idx yX1_nameOf ∈ Gw) (hF : 1 ≤ F) (hL : 20 ≤ L) : SC own F L (idx, true, 1, sp_X1_nameOf) := SC_S spP_mono c_X1_nameOf h1 gw_725 gw_73 gw_726 (by decide +kernel) hF hL
def kwO (B o : Nat → Int32) : Nat := fst_ (fun k => w2 B o (2 * k)) 6 0
def sp_X1_kindOfWord : SP := spP d_T (fun _ hp => ∃ n h, TXS n h (hp.1 38) (hp.1 37)) (fun _ hp => vI (if kwO (hp.1 38) (hp.1 37) < 6 then nI (kwO (hp.1 38) (hp.1 37)) else -1))
def E_X1_kindOfWord : EN := [(125, true, 1, sp_X1_nameOf), (129, false, 2, sp_X1_isWord)]
set_option maxRecDepth 100000 in
set_option maxHeartbeats 4000000 in
theorem c_X1_kindOfWord : Ctr M_X1_kindOfWord sp_X1_kindOfWord := by
  refine ctr_of (own := RX1) M_X1_kindOfWord sp_X1_kindOfWord (P := P_X1_kindOfWord) (K := K_X1) (E := E_X1_kindOfWord) (by decide) rfl pk_X1_kindOfWord K_X1_ok (List.forall_mem_cons.mpr ⟨sc_X1_nameOf gw_724 (by decide) (by decide), List.forall_mem_cons.mpr ⟨sc_X1_isWord gw_631 (by decide) (by decide), fun _ h => absurd h List.not_mem_nil⟩⟩) (fun as hp Q h => by obtain ⟨x, hx, -⟩ := spP_e h; rw [d_T_e hx]; exact Nat.le_of_ble_eq_true rfl) ?_
  intro Q G hQi hG as hp h
  obtain ⟨x, hx, hpre, hQ⟩ := spP_e h
  rw [d_T_e hx]
  clear h hx
  obtain ⟨n, h, ht⟩ := hpre
  obtain ⟨s, e, hse, hen, e4, e5⟩ := ht.pos
  have hn := ht.1
  have key := for_up (P := fun k => kwO (hp.1 38) (hp.1 37) = fst_ (fun k => w2 (hp.1 38) (hp.1 37) (2 * k)) (6 - k) k → G 2 [(1, vI (nI k)), (0, vR 3 37)] [] hp) 6 (by
    intro hk
    have hk : kwO (hp.1 38) (hp.1 37) = 6 := hk
    rw [hk, if_neg (by omega)] at hQ
    refine run hG [2] 60 ?_
    exact And.intro (fun h1 => hQ) (fun h1 => absurd (nI_le (Nat.le_refl _) (by omega)) h1)) (by
    intro k hk ih hkw
    rw [show 6 - k = (6 - (k + 1)) + 1 by omega] at hkw
    have hkw : kwO (hp.1 38) (hp.1 37) = if w2 (hp.1 38) (hp.1 37) (2 * k) = true then k else fst_ (fun k => w2 (hp.1 38) (hp.1 37) (2 * k)) (6 - (k + 1)) (k + 1) := hkw
    have ek : (nI k).toNatClampNeg = k := nI_clamp (by omega)
    refine run hG [2] 60 ?_
    refine And.intro (fun h1 => absurd h1 (nI_ge hk (by omega))) (fun h1 => ?_)
    refine And.intro (vp_in_nI hk (by omega)) ?_
    refine And.intro ⟨show txok (2 * (nI k).toNatClampNeg) by rw [ek]; exact ⟨by omega, Or.inl (by omega)⟩, s, e, hse, by omega, e4, e5⟩ ?_
    refine And.intro (fun h2 => ?_) (fun h2 => ?_)
    · have h2 : w2 (hp.1 38) (hp.1 37) (2 * (nI k).toNatClampNeg) = false := bB_0.mp h2
      rw [ek] at h2
      rw [h2, if_neg (by decide)] at hkw
      refine cl_lv hG [(1, vI (nI k + nI 1)), (0, vR 3 37)] ⟨rfl, rfl, trivial⟩ ?_
      rw [nI_s]
      exact ih hkw
    · have h2 : w2 (hp.1 38) (hp.1 37) (2 * (nI k).toNatClampNeg) = true := bB_1.mp h2
      rw [ek] at h2
      rw [h2, if_pos rfl] at hkw
      rw [hkw, if_pos hk] at hQ
      exact hQ) 0 (by omega) rfl
  refine run hG [2] 60 ?_
  exact cl_use hG key ⟨rfl, rfl, trivial⟩
theorem sc_X1_kindOfWord {own : String} {F L idx : Nat} (h1 : Cond.methodLink own idx yX1_kindOfWord ∈ Gw) (hF : 7 ≤ F) (hL : 149 ≤ L) : SC own F L (idx, false, 1, sp_X1_kindOfWord) := SC_V spP_mono c_X1_kindOfWord okd_3 (fun as hp K h => by obtain ⟨x, hx, -⟩ := spP_e h; exact ⟨_, _, d_T_e hx⟩) h1 gw_722 gw_20 gw_73 gw_723 (by decide +kernel) hF hL
