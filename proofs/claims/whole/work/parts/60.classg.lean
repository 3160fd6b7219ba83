def mt2 (B : Nat → Int32) (s m : Nat) : Nat → Bool
  | 0 => true
  | k + 1 => mt2 B s m k && decide (B (s + k) = tx_b m k)
theorem mt2_f {B : Nat → Int32} {s m k : Nat} (h : mt2 B s m k = false) : ∀ j, mt2 B s m (k + j) = false
  | 0 => h
  | j + 1 => by
    show (mt2 B s m (k + j) && _) = false
    rw [mt2_f h j]
    rfl
def w2 (B o : Nat → Int32) (m : Nat) : Bool := decide (o 3 = nI 1) && (decide ((o 5).toNatClampNeg = (o 4).toNatClampNeg + tx_n m) && mt2 B (o 4).toNatClampNeg m (tx_n m))
def sp_X1_isWord : SP := spP d_T_X (fun m hp => txok m ∧ ∃ s e, s ≤ e ∧ e ≤ 120 ∧ hp.1 37 4 = nI s ∧ hp.1 37 5 = nI e) (fun m hp => vI (bB (w2 (hp.1 38) (hp.1 37) m)))
def E_X1_isWord : EN := [(144, false, 1, sp_J0_length_8abf5), (148, false, 2, sp_J0_charAt_5068e)]
set_option maxRecDepth 100000 in
set_option maxHeartbeats 4000000 in
theorem c_X1_isWord : Ctr M_X1_isWord sp_X1_isWord := by
  refine ctr_of (own := RX1) M_X1_isWord sp_X1_isWord (P := P_X1_isWord) (K := K_X1) (E := E_X1_isWord) (by decide) rfl pk_X1_isWord K_X1_ok (List.forall_mem_cons.mpr ⟨sc_J0_length_8abf5 gw_635 (by decide) (by decide), List.forall_mem_cons.mpr ⟨sc_J0_charAt_5068e gw_645 (by decide) (by decide), fun _ h => absurd h List.not_mem_nil⟩⟩) (fun as hp Q h => by obtain ⟨x, hx, -⟩ := spP_e h; rw [d_T_X_e hx]; exact Nat.le_of_ble_eq_true rfl) ?_
  intro Q G hQi hG as hp h
  obtain ⟨x, hx, hpre, hQ⟩ := spP_e h
  rw [d_T_X_e hx]
  clear h hx
  obtain ⟨htx, s, e, hse, he, e4, e5⟩ := hpre
  have hlen := tx_lt x
  unfold w2 at hQ
  rw [e4, e5, nI_clamp (by omega), nI_clamp (by omega)] at hQ
  generalize hB : hp.1 38 = B at hQ
  refine run hG [28] 60 ?_
  refine And.intro (fun h1 => ?_) (fun h1 => ?_)
  · have h1 : ¬ hp.1 37 3 = nI 1 := h1
    exact q_b hQ (by rw [decide_eq_false h1]; rfl)
  have h1 : hp.1 37 3 = nI 1 := h1
  rw [decide_eq_true h1, Bool.true_and] at hQ
  refine And.intro htx ?_
  have es : hp.1 37 5 - hp.1 37 4 = nI (e - s) := by rw [e4, e5]; exact pk_sub hse
  refine And.intro (fun h2 => ?_) (fun h2 => ?_)
  case refine_2 =>
    have h2 : ¬ hp.1 37 5 - hp.1 37 4 = nI (tx_n x) := h2
    rw [es, nI_ne (by omega) (by omega)] at h2
    exact q_b hQ (by rw [decide_eq_false (p := e = s + tx_n x) (by omega)]; rfl)
  have h2 : hp.1 37 5 - hp.1 37 4 = nI (tx_n x) := h2
  rw [es, nI_eq (by omega) (by omega)] at h2
  rw [decide_eq_true (p := e = s + tx_n x) (by omega), Bool.true_and] at hQ
  have key := for_up (P := fun k => mt2 B s x k = true → G 28 [(2, vI (nI k)), (0, vR 3 37), (1, vX (x + 10))] [] hp) (tx_n x) (by
    intro hm
    rw [hm] at hQ
    refine run hG [28] 60 ?_
    refine And.intro htx ?_
    exact And.intro (fun h3 => And.intro (Or.inr rfl) hQ) (fun h3 => absurd (nI_le (Nat.le_refl _) (by omega)) h3)) (by
    intro k hk ih hm
    have ih : (mt2 B s x k && decide (B (s + k) = tx_b x k)) = true → _ := ih
    rw [hm, Bool.true_and] at ih
    have ei : hp.1 37 4 + nI k = nI (s + k) := by rw [e4, nI_add]
    have eb : hp.1 38 (hp.1 37 4 + nI k).toNatClampNeg = B (s + k) := by rw [ei, nI_clamp (by omega), hB]
    refine run hG [28] 60 ?_
    refine And.intro htx ?_
    refine And.intro (fun h3 => absurd h3 (nI_ge hk (by omega))) (fun h3 => ?_)
    refine And.intro (show vp_in (hp.1 37 4 + nI k) 120 by rw [ei]; exact vp_in_nI (by omega) (by omega)) ?_
    refine And.intro ⟨htx, show vp_in (nI k) (tx_n x) from vp_in_nI hk (by omega)⟩ ?_
    refine And.intro (fun h4 => ?_) (fun h4 => ?_)
    · have h4 : hp.1 38 (hp.1 37 4 + nI k).toNatClampNeg = tx_b x (nI k).toNatClampNeg := h4
      rw [eb, nI_clamp (by omega)] at h4
      have k9 := ih (decide_eq_true h4)
      rw [← nI_s] at k9
      exact cl_use hG k9 ⟨rfl, rfl, rfl, trivial⟩
    · have h4 : ¬ hp.1 38 (hp.1 37 4 + nI k).toNatClampNeg = tx_b x (nI k).toNatClampNeg := h4
      rw [eb, nI_clamp (by omega)] at h4
      have hf : mt2 B s x (k + 1) = false := by
        show (mt2 B s x k && decide (B (s + k) = tx_b x k)) = false
        rw [decide_eq_false h4, Bool.and_false]
      have hff := mt2_f hf (tx_n x - (k + 1))
      rw [show k + 1 + (tx_n x - (k + 1)) = tx_n x by omega] at hff
      rw [hff] at hQ
      exact And.intro (Or.inl rfl) hQ) 0 (by omega) rfl
  exact cl_use hG key ⟨rfl, rfl, rfl, trivial⟩
theorem sc_X1_isWord {own : String} {F L idx : Nat} (h1 : Cond.methodLink own idx yX1_isWord ∈ Gw) (hF : 6 ≤ F) (hL : 128 ≤ L) : SC own F L (idx, false, 2, sp_X1_isWord) := SC_V spP_mono c_X1_isWord okd_3 (fun as hp K h => by obtain ⟨x, hx, -⟩ := spP_e h; exact ⟨_, _, d_T_X_e hx⟩) h1 gw_633 gw_13 gw_73 gw_634 (by decide +kernel) hF hL
