def mtc (t : Nat → Int32) (n s m : Nat) : Nat → Bool
  | 0 => true
  | k + 1 => mtc t n s m k && decide (byt t n (s + k) = tx_b m k)
theorem mtc_f {t : Nat → Int32} {n s m k : Nat} (h : mtc t n s m k = false) : ∀ j, mtc t n s m (k + j) = false
  | 0 => h
  | j + 1 => by
    show (mtc t n s m (k + j) && _) = false
    rw [mtc_f h j]
    rfl
def wrd (t : Nat → Int32) (n s m : Nat) : Bool := decide (skp lrB t n s = s + tx_n m) && mtc t n s m (tx_n m)
def tB (hp : HP) : Nat := skp blB (hp.1 62) (tN hp) (tH hp)
theorem TS.to {hp : HP} (h : TS hp) {k : Nat} (hk : k ≤ tN hp) : TS (uI hp 52 12 (nI k)) ∧ tN (uI hp 52 12 (nI k)) = tN hp ∧ tH (uI hp 52 12 (nI k)) = k := by
  have h1 := h.n
  have e : tN (uI hp 52 12 (nI k)) = tN hp := by unfold tN; rw [uI_oth _ _ _ (by omega)]
  refine ⟨⟨tN hp, k, h1.1, hk, by rw [uI_oth _ _ _ (by omega)]; exact h1.2.2.1, uI_same _ _ _ _⟩, e, ?_⟩
  unfold tH
  rw [uI_same, nI_clamp (by omega)]
theorem TS.b {hp : HP} (h : TS hp) : tH hp ≤ tB hp ∧ tB hp ≤ tN hp := skp_le blB _ h.n.2.1
def sp_X5_isWord : SP := spH d_M_X (fun m hp => TS hp ∧ txok m) (fun m hp => some (vI (bB (wrd (hp.1 62) (tN hp) (tB hp) m)))) (fun _ hp => uI hp 52 12 (nI (tB hp)))
def E_X5_isWord : EN := [(205, false, 1, sp_X5_blanks), (208, false, 1, sp_X5_wordEnd), (211, false, 1, sp_J0_length_8abf5), (196, false, 2, sp_X5_byteAt), (216, false, 2, sp_J0_charAt_5068e)]
set_option maxRecDepth 100000 in
set_option maxHeartbeats 4000000 in
theorem c_X5_isWord : Ctr M_X5_isWord sp_X5_isWord := by
  refine ctr_of (own := RX5) M_X5_isWord sp_X5_isWord (P := P_X5_isWord) (K := K_X5) (E := E_X5_isWord) (by decide) rfl pk_X5_isWord K_X5_ok (List.forall_mem_cons.mpr ⟨sc_X5_blanks gw_1174 (by decide) (by decide), List.forall_mem_cons.mpr ⟨sc_X5_wordEnd gw_1182 (by decide) (by decide), List.forall_mem_cons.mpr ⟨sc_J0_length_8abf5 gw_1189 (by decide) (by decide), List.forall_mem_cons.mpr ⟨sc_X5_byteAt gw_1178 (by decide) (by decide), List.forall_mem_cons.mpr ⟨sc_J0_charAt_5068e gw_1190 (by decide) (by decide), fun _ h => absurd h List.not_mem_nil⟩⟩⟩⟩⟩) (fun as hp Q h => by obtain ⟨x, hx, -⟩ := spH_e h; rw [d_M_X_e hx]; exact Nat.le_of_ble_eq_true rfl) ?_
  intro Q G hQi hG as hp h
  obtain ⟨x, hx, hpre, hQ⟩ := spH_e h
  rw [d_M_X_e hx]
  clear h hx
  obtain ⟨hts, htx⟩ := hpre
  have hb := hts.b
  have h0 := hts.to hb.2
  have h1 := hts.n
  have hlen := tx_lt x
  have eT : (uI hp 52 12 (nI (tB hp))).1 62 = hp.1 62 := uI_row _ _ _ (by omega)
  have e12 : (uI hp 52 12 (nI (tB hp))).1 52 12 = nI (tB hp) := uI_same _ _ _ _
  have e11 : ∃ n, n ≤ 120 ∧ (uI hp 52 12 (nI (tB hp))).1 52 11 = nI n := ⟨tN hp, h1.1, by rw [uI_oth _ _ _ (by omega)]; exact h1.2.2.1⟩
  generalize hH : uI hp 52 12 (nI (tB hp)) = H at hQ h0 eT e12 e11
  generalize ht : hp.1 62 = t at hQ eT
  generalize hn : tN hp = n at hQ h0 hb h1
  generalize hs : tB hp = s at hQ h0 hb e12
  -- the end of the loop
  have out : ∀ b k, (b = true → k = tx_n x) → b = (decide (skp lrB t n s = s + tx_n x) && mtc t n s x k) → k ≤ tx_n x → G 28 [(3, vI (nI k)), (2, vI (bB b)), (0, vR 5 52), (1, vX (x + 10))] [] H := by
    intro b k hk hb2 hkl
    have eb : b = wrd t n s x := by
      cases b with
      | true =>
        rw [hk rfl] at hb2
        exact hb2
      | false =>
        unfold wrd
        cases h3 : decide (skp lrB t n s = s + tx_n x) with
        | false => rfl
        | true =>
          rw [h3] at hb2
          have h4 : mtc t n s x k = false := hb2.symm
          have := mtc_f h4 (tx_n x - k)
          rw [show k + (tx_n x - k) = tx_n x by omega] at this
          rw [this]
          rfl
    refine run hG [28] 60 ?_
    refine And.intro htx ?_
    refine And.intro (fun h3 => ?_) (fun h3 => ?_)
    · exact q_b hQ (by rw [eb])
    · refine And.intro (fun h4 => ?_) (fun h4 => ?_)
      · exact q_b hQ (by rw [eb])
      · have h5 := bB_1.mp h4
        exact absurd (show nI (tx_n x) ≤ nI k by rw [hk h5]; exact nI_le (Nat.le_refl _) (by omega)) h3
  have key := for_up (P := fun k => G 28 [(3, vI (nI k)), (2, vI (bB (decide (skp lrB t n s = s + tx_n x) && mtc t n s x k))), (0, vR 5 52), (1, vX (x + 10))] [] H) (tx_n x) (out _ _ (fun _ => rfl) rfl (Nat.le_refl _)) (by
    intro k hk ih
    cases hb2 : (decide (skp lrB t n s = s + tx_n x) && mtc t n s x k) with
    | false => exact out _ _ (fun h => absurd h (by decide)) hb2.symm (by omega)
    | true =>
      have ha := Bool.and_eq_true_iff.mp hb2
      have ih : G 28 [(3, vI (nI (k + 1))), (2, vI (bB (decide (skp lrB t n s = s + tx_n x) && (mtc t n s x k && decide (byt t n (s + k) = tx_b x k))))), (0, vR 5 52), (1, vX (x + 10))] [] H := ih
      rw [ha.1, ha.2, Bool.true_and, Bool.true_and] at ih
      have e9 : byt (H.1 62) (tN H) (H.1 52 12 + nI k).toNatClampNeg = byt t n (s + k) := by rw [eT, h0.2.1, e12, nI_add, nI_clamp (by omega)]
      refine run hG [28] 60 ?_
      refine And.intro htx ?_
      refine And.intro (fun h3 => absurd h3 (nI_ge hk (by omega))) (fun h3 => ?_)
      refine And.intro (fun h4 => absurd h4 (by decide)) (fun h4 => ?_)
      refine And.intro ⟨show vp_in (H.1 52 12 + nI k) 1000 by rw [e12, nI_add]; exact vp_in_nI (by omega) (by omega), e11⟩ ?_
      refine And.intro ⟨htx, show vp_in (nI k) (tx_n x) from vp_in_nI hk (by omega)⟩ ?_
      refine And.intro (fun h5 => ?_) (fun h5 => ?_)
      · have h5 : ¬ byt (H.1 62) (tN H) (H.1 52 12 + nI k).toNatClampNeg = tx_b x (nI k).toNatClampNeg := h5
        rw [e9, nI_clamp (by omega)] at h5
        rw [decide_eq_false h5] at ih
        refine cl_lv hG [(3, vI (nI k + nI 1)), (2, vI (nI 0)), (0, vR 5 52), (1, vX (x + 10))] ⟨rfl, rfl, rfl, rfl, trivial⟩ ?_
        rw [nI_s]
        exact ih
      · have h5 : byt (H.1 62) (tN H) (H.1 52 12 + nI k).toNatClampNeg = tx_b x (nI k).toNatClampNeg := h5
        rw [e9, nI_clamp (by omega)] at h5
        rw [decide_eq_true h5] at ih
        refine cl_lv hG [(3, vI (nI k + nI 1)), (2, vI (nI 1)), (0, vR 5 52), (1, vX (x + 10))] ⟨rfl, rfl, rfl, rfl, trivial⟩ ?_
        rw [nI_s]
        exact ih) 0 (by omega)
  have hle := skp_le lrB t hb.2
  have k0 : ∀ b, b = decide (skp lrB t n s = s + tx_n x) → G 28 [(3, vI (nI 0)), (2, vI (bB b)), (0, vR 5 52), (1, vX (x + 10))] [] H := by
    intro b e
    rw [show (decide (skp lrB t n s = s + tx_n x) && mtc t n s x 0) = b by rw [e]; exact Bool.and_true _] at key
    exact key
  have e8 : nI (skp lrB (H.1 62) (tN H) (tH H)) - H.1 52 12 = nI (skp lrB t n s - s) := by
    rw [eT, h0.2.1, h0.2.2, e12]
    exact pk_sub (by omega)
  refine run hG [28] 60 ?_
  refine And.intro hts ?_
  subst hH hs hn ht
  refine And.intro h0.1 ?_
  refine And.intro htx ?_
  refine And.intro (fun h3 => ?_) (fun h3 => ?_)
  · have h3 : ¬ nI (skp lrB ((uI hp 52 12 (nI (tB hp))).1 62) (tN (uI hp 52 12 (nI (tB hp)))) (tH (uI hp 52 12 (nI (tB hp))))) - (uI hp 52 12 (nI (tB hp))).1 52 12 = nI (tx_n x) := h3
    rw [e8, nI_ne (by omega) (by omega)] at h3
    exact cl_use hG (k0 false (decide_eq_false (by omega)).symm) ⟨rfl, rfl, rfl, rfl, trivial⟩
  · have h3 : nI (skp lrB ((uI hp 52 12 (nI (tB hp))).1 62) (tN (uI hp 52 12 (nI (tB hp)))) (tH (uI hp 52 12 (nI (tB hp))))) - (uI hp 52 12 (nI (tB hp))).1 52 12 = nI (tx_n x) := h3
    rw [e8, nI_eq (by omega) (by omega)] at h3
    exact cl_use hG (k0 true (decide_eq_true (by omega)).symm) ⟨rfl, rfl, rfl, rfl, trivial⟩
theorem sc_X5_isWord {own : String} {F L idx : Nat} (h1 : Cond.methodLink own idx yX5_isWord ∈ Gw) (hF : 6 ≤ F) (hL : 129 ≤ L) : SC own F L (idx, false, 2, sp_X5_isWord) := SC_V spH_mono c_X5_isWord okd_5 (fun as hp K h => by obtain ⟨x, hx, -⟩ := spH_e h; exact ⟨_, _, d_M_X_e hx⟩) h1 gw_1172 gw_52 gw_75 gw_1173 (by decide +kernel) hF hL
