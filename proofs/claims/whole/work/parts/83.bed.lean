theorem bd_mn (f : Nat → Int32) (n : Nat) : mN (foldR bdG f n) = mN f := by
  unfold mN
  rw [bd6]
theorem ag.bd {f g : Nat → Int32} (h : ag f g) : ∀ n, n ≤ mN f → ag (foldR bdG f n) (foldR bdG g n)
  | 0, _ => h
  | n + 1, hn => by
    show ag (bdG (foldR bdG f n) n) (bdG (foldR bdG g n) n)
    have ih := ag.bd h n (by omega)
    unfold bdG
    exact (ih.up (by omega) (ih.wk (by rw [bd_mn]; omega) (by omega))).up (by omega) rfl
theorem WS.bd {f : Nat → Int32} (h : WS f) : ∀ n, n ≤ mN f → WS (foldR bdG f n)
  | 0, _ => h
  | n + 1, hn => by
    show WS (bdG (foldR bdG f n) n)
    have ih := WS.bd h n (by omega)
    have em : mN (foldR bdG f n) = mN f := bd_mn f n
    unfold bdG
    have hw := (ih.1.wk (show n < mN (foldR bdG f n) by omega)).2.1
    have h1 := ih.wk (i := n) (j := 2) (by omega) (by omega) (v := foldR bdG f n (144 + 5 * n + 1)) hw
    have em2 : mN (upd (foldR bdG f n) (144 + 5 * n + 2) (foldR bdG f n (144 + 5 * n + 1))) = mN f := by
      rw [← em]
      unfold mN
      rw [upd_at, if_neg (by omega)]
    exact h1.wk (i := n) (j := 4) (by rw [em2]; omega) (by omega) (show vp_in (nI 0) 2 from vp_in_nI (by omega) (by omega))
def sp_X4_bed : SP := spF d_C (fun _ hp => RX hp) (fun _ hp v hq => PO F_bed hp v hq)
def E_X4_bed : EN := [(174, false, 1, sp_X3_homeCount)]
set_option maxRecDepth 100000 in
set_option maxHeartbeats 4000000 in
theorem c_X4_bed : Ctr M_X4_bed sp_X4_bed := by
  refine ctr_of (own := RX4) M_X4_bed sp_X4_bed (P := P_X4_bed) (K := K_X4) (E := E_X4_bed) (by decide) rfl pk_X4_bed K_X4_ok (List.forall_mem_cons.mpr ⟨sc_X3_homeCount gw_473 (by decide) (by decide), fun _ h => absurd h List.not_mem_nil⟩) (fun as hp Q h => by obtain ⟨x, hx, -⟩ := spF_e h; rw [d_C_e hx]; exact Nat.le_of_ble_eq_true rfl) ?_
  intro Q G hQi hG as hp h
  obtain ⟨x, hx, hpre, hQ⟩ := spF_e h
  rw [d_C_e hx]
  clear h hx
  obtain ⟨m0, h0⟩ := hpre
  have hc := h0.c12
  have hw0 : ∀ k, k < mN (rw_ hp 1) → vp_in (rw_ hp 1 (144 + 5 * k + 1)) 25 := fun k hk => (h0.wc.wk hk).2.1
  have fin : ∀ H, frs 1 hp H → rw_ H 1 = foldR bdG (upd (rw_ hp 1) 0 (nI 0)) (mN (rw_ hp 1)) → Q (some (vI (hp.1 1 12 - hmV (rw_ hp 1)))) H := fun H hfr e => by
    refine at_w hQ hfr.1 (fun hz => hiz_e hz hfr.2.1 hfr.2.2.1 hfr.2.2.2) (fun mp h => ⟨bdF (mp.1 53), ?_, ?_, ?_⟩)
    · unfold F_bed
      rw [← h.ag.hm, ← h.ag.1, rw_6]
    · rw [e]
      unfold bdF
      rw [h.mn]
      exact (h.ag.up (k := 0) (by omega) rfl).bd _ (by have := h.mn; unfold mN at this ⊢; rw [upd_at, if_neg (by omega)]; omega)
    · unfold bdF
      exact (h.ws.free (d := 0) (by omega) (nI 0)).bd _ (by unfold mN; rw [upd_at, if_neg (by omega)]; omega)
  generalize hff : rw_ hp 1 = f at fin hc hw0
  generalize hn : mN f = n at fin hc hw0
  have key := for_up (P := fun k => ∀ H, frs 1 hp H → rw_ H 1 = foldR bdG (upd f 0 (nI 0)) k → G 26 [(2, vI (nI k)), (1, vI (hp.1 1 12 - hmV f)), (0, vR 0 0)] [] H) n (by
    intro H hfr e
    have e12 : H.1 1 12 = nI n := by rw [← rw_6, e, bd6, upd_at, if_neg (by omega), ← hff, rw_6, hc.2]
    refine run hG [26] 60 ?_
    exact And.intro (fun _ => fin H hfr e) (fun h => absurd (show H.1 1 12 ≤ nI n by rw [e12]; exact nI_le (Nat.le_refl _) (by omega)) h)) (by
    intro k hk ih H hfr e
    have ih : ∀ H, frs 1 hp H → rw_ H 1 = bdG (foldR bdG (upd f 0 (nI 0)) k) k → G 26 [(2, vI (nI (k + 1))), (1, vI (hp.1 1 12 - hmV f)), (0, vR 0 0)] [] H := ih
    have e12 : H.1 1 12 = nI n := by rw [← rw_6, e, bd6, upd_at, if_neg (by omega), ← hff, rw_6, hc.2]
    have ek : (nI k).toNatClampNeg = k := nI_clamp (by omega)
    have e1 : rw_ H 1 (144 + 5 * k + 1) = H.1 (5 + k) 1 := rw_wk H 1 (by omega) (by omega)
    rw [← e] at ih
    refine run hG [26] 60 ?_
    refine And.intro (fun h => ?_) (fun _ => ?_)
    · have h : H.1 1 12 ≤ nI k := h
      rw [e12] at h
      exact absurd h (nI_ge hk (by omega))
    refine And.intro (vp_in_nI (by omega) (by omega)) ?_
    refine And.intro (Or.inl rfl) ?_
    refine cl_lv hG [(2, vI (nI k + nI 1)), (1, vI (hp.1 1 12 - hmV f)), (0, vR 0 0)] ⟨rfl, rfl, rfl, trivial⟩ ?_
    show G 26 _ [] (uI (uI H (5 + (nI k).toNatClampNeg) 2 (H.1 (5 + (nI k).toNatClampNeg) 1)) (5 + (nI k).toNatClampNeg) 4 (nI 0))
    rw [nI_s, ek]
    refine ih _ (frs_u (frs_u hfr (by omega) (by omega) (by omega)) (by omega) (by omega) (by omega)) ?_
    rw [w1_wk _ _ (by omega) (by omega), w1_wk _ _ (by omega) (by omega), ← e1]
    rfl) 0 (by omega)
  refine run hG [26] 60 ?_
  refine And.intro (show WF (rw_ hp 1) from h0.wc) ?_
  refine cl_lv hG [(2, vI (nI 0)), (1, vI (hp.1 1 12 - hmV (rw_ hp 1))), (0, vR 0 0)] ⟨rfl, rfl, rfl, trivial⟩ ?_
  show G 26 _ [] (uI hp 1 5 (nI 0))
  rw [hff]
  exact key _ (frs_u (frs_r 1 hp) (by omega) (by omega) (by omega)) (by rw [ru_0, hff]; rfl)
theorem sc_X4_bed {own : String} {F L idx : Nat} (h1 : Cond.methodLink own idx yX4_bed ∈ Gw) (hF : 2 ≤ F) (hL : 45 ≤ L) : SC own F L (idx, false, 1, sp_X4_bed) := SC_V spF_mono c_X4_bed okd_0 (fun as hp K h => by obtain ⟨x, hx, -⟩ := spF_e h; exact ⟨_, _, d_C_e hx⟩) h1 gw_470 gw_471 gw_69 gw_472 (by decide +kernel) hF hL
theorem rb_byte (x : Int32) : rb x.toInt8.toInt32 (x &&& nI 255) := by
  have hN : (x &&& nI 255).toBitVec.toNat = x.toBitVec.toNat % 256 := by
    rw [Int32.toBitVec_and, BitVec.toNat_and]
    exact Nat.and_two_pow_sub_one_eq_mod _ 8
  have hl : x.toBitVec.toNat < 2 ^ 32 := x.toBitVec.isLt
  have ht : (x &&& nI 255).toInt = ((x.toBitVec.toNat % 256 : Nat) : Int) := by
    show (x &&& nI 255).toBitVec.toInt = _
    rw [BitVec.toInt_eq_toNat_cond, hN, if_pos (by omega)]
  have hx : x.toInt = (x.toBitVec.toNat : Int) ∨ x.toInt = (x.toBitVec.toNat : Int) - 2 ^ 32 := by
    show x.toBitVec.toInt = _ ∨ x.toBitVec.toInt = _
    rw [BitVec.toInt_eq_toNat_cond]
    split
    · exact Or.inl rfl
    · exact Or.inr rfl
  have hb : x.toInt8.toInt32.toInt = x.toInt.bmod 256 := by
    rw [Int8.toInt_toInt32, Int32.toInt_toInt8]
  unfold rb
  by_cases h : x.toBitVec.toNat % 256 < 128
  · left
    refine Int32.toInt_inj.mp ?_
    rw [hb, ht]
    unfold Int.bmod
    dsimp only
    split <;> omega
  · right
    refine ⟨Int32.lt_iff_toInt_lt.mpr ?_, Int32.le_iff_toInt_le.mpr ?_⟩
    · rw [hb]
      unfold Int.bmod
      dsimp only
      rw [show (0 : Int32).toInt = 0 from rfl]
      split <;> omega
    · rw [ht, nI_toInt (by omega)]
      omega
def cfR (t : Nat → Int32) (T : Nat) (b : Int32) (n : Nat) : Nat → (Nat → Int32)
  | 0 => t
  | k + 1 => upd (cfR t T b n k) (T + k) (b >>> (nI 8 * nI (n - 1 - k) &&& 31)).toInt8.toInt32
theorem cf_rb {t u : Nat → Int32} {T : Nat} {b : Int32} {n : Nat} (h : ∀ j, j < T → rb (t j) (u j)) : ∀ k j, j < T + k → rb (cfR t T b n k j) (fdR u T b n k j)
  | 0, j, hj => h j hj
  | k + 1, j, hj => by
    show rb (upd (cfR t T b n k) (T + k) _ j) (upd (fdR u T b n k) (T + k) _ j)
    rw [upd_at, upd_at]
    by_cases e : j = T + k
    · rw [if_pos e, if_pos e]
      exact rb_byte _
    · rw [if_neg e, if_neg e]
      exact cf_rb h k j (by omega)
def sp_X4_feed : SP := spF d_C_II (fun _ hp => RX hp) (fun x hp v hq => PO (F_feed x.1 x.2) hp v hq)
def E_X4_feed : EN := [(78, true, 3, sp_X4_isWithin), (63, false, 2, sp_X4_tell), (238, false, 2, sp_X1_addByte)]
set_option maxRecDepth 100000 in
set_option maxHeartbeats 4000000 in
theorem c_X4_feed : Ctr M_X4_feed sp_X4_feed := by
  refine ctr_of (own := RX4) M_X4_feed sp_X4_feed (P := P_X4_feed) (K := K_X4) (E := E_X4_feed) (by decide) rfl pk_X4_feed K_X4_ok (List.forall_mem_cons.mpr ⟨sc_X4_isWithin gw_285 (by decide) (by decide), List.forall_mem_cons.mpr ⟨sc_X4_tell gw_298 (by decide) (by decide), List.forall_mem_cons.mpr ⟨sc_X1_addByte gw_595 (by decide) (by decide), fun _ h => absurd h List.not_mem_nil⟩⟩⟩) (fun as hp Q h => by obtain ⟨x, hx, -⟩ := spF_e h; rw [d_C_II_e hx]; exact Nat.le_of_ble_eq_true rfl) ?_
  intro Q G hQi hG as hp h
  obtain ⟨x, hx, hpre, hQ⟩ := spF_e h
  rw [d_C_II_e hx]
  clear h hx
  obtain ⟨b, n⟩ := x
  try dsimp only at hpre hQ ⊢
  obtain ⟨m0, h0⟩ := hpre
  obtain ⟨T, hT, -, e1, -⟩ := h0.2.2.2.1
  have eM : ∀ mp, RC hp mp → mp.1 52 11 = nI T := fun mp h => by
    obtain ⟨U, hU, t1, t2, -⟩ := h.2.2.2.1
    rw [t1, ← t2, e1]
  refine run hG [41] 60 ?_
  refine And.intro trivial ?_
  refine And.intro (fun h1 => ?_) (fun h1 => at_no hQ 0 (by omega) (by decide) (qc_r hp) (fun mp h => ⟨mp, qm_r mp, if_neg (and_f (bB_0.mp h1))⟩))
  have h1 : nI 1 ≤ n ∧ n ≤ nI 4 := and_t.mp (bB_1.mp h1)
  have h1' := h1
  obtain ⟨n, hn1, hn2, rfl⟩ := in_nI (by omega) (by omega) h1
  have en : (nI n).toNatClampNeg = n := nI_clamp (by omega)
  have eT : (nI T).toNatClampNeg = T := nI_clamp (by omega)
  refine And.intro (fun h2 => ?_) (fun h2 => ?_)
  · have h2 : hp.1 37 1 + nI n ≤ nI 120 := h2
    rw [e1, nI_add, nI_leI (by omega) (by omega)] at h2
    have val : ∀ mp, RC hp mp → F_feed b (nI n) mp = (nI (T + n), rI (rI mp 62 (fdR (mp.1 62) T b n n)) 52 (upd (mp.1 52) 11 (nI (T + n)))) := fun mp h => by
      unfold F_feed
      rw [if_pos h1', eM mp h, nI_add, if_pos (nI_le h2 (by omega)), en, eT]
    have key := for_up (P := fun k => G 41 [(3, vI (if k < n then nI (n - 1 - k) else -1)), (1, vI b), (0, vR 0 0)] [] (rI (rI hp 38 (cfR (hp.1 38) T b n k)) 37 (upd (hp.1 37) 1 (nI (T + k))))) n (by
      rw [if_neg (by omega)]
      refine run hG [41] 60 ?_
      refine And.intro (fun _ => ?_) (fun h => absurd (show (-1 : Int32) < 0 by decide) h)
      generalize hH : rI (rI hp 38 (cfR (hp.1 38) T b n n)) 37 (upd (hp.1 37) 1 (nI (T + n))) = H
      have er : ∀ c, c ≠ 37 → c ≠ 38 → H.1 c = hp.1 c := fun c a d => by rw [← hH, rI_ne _ _ a, rI_ne _ _ d]
      have e37 : H.1 37 1 = nI (T + n) := by rw [← hH, rI_eq, upd_at, if_pos rfl]
      have e38 : H.1 38 = cfR (hp.1 38) T b n n := by rw [← hH, rI_ne _ _ (by omega), rI_eq]
      have eL : H.2 = hp.2 := by rw [← hH]; rfl
      refine hQ _ _ ⟨fun c hc => ⟨er c (by omega) (by omega), by rw [eL]⟩, fun mp h => ?_⟩
      rw [val mp h]
      refine ⟨congrArg some (congrArg vI e37), ?_⟩
      obtain ⟨k1, k2, k3, k4, k5⟩ := h
      have em : ∀ c, c ≠ 52 → c ≠ 62 → (rI (rI mp 62 (fdR (mp.1 62) T b n n)) 52 (upd (mp.1 52) 11 (nI (T + n)))).1 c = mp.1 c := fun c a d => by rw [rI_ne _ _ a, rI_ne _ _ d]
      obtain ⟨U, hU, t1, t2, t3⟩ := k4
      have eU : U = T := (nI_eq (by omega) (by omega)).mp (t2.symm.trans e1)
      subst eU
      refine ⟨k1.c (fun c a d => ⟨er c (by omega) (by omega), by rw [eL]⟩) (em 53 (by omega) (by omega)), k2.c (by rw [er 0 (by omega) (by omega)]) (fun c a d => ⟨er c (by omega) (by omega), by rw [eL]⟩) (by rw [rI_eq, upd_at, if_neg (by omega)]) (em 54 (by omega) (by omega)), k3.c (er 51 (by omega) (by omega)) (by rw [er 0 (by omega) (by omega)]) (em 57 (by omega) (by omega)), ⟨U + n, h2, by rw [rI_eq, upd_at, if_pos rfl], e37, fun j hj => ?_⟩, k5.c (fun s hs => er _ (by omega) (by omega)) (fun s hs => by rw [eL]) (em 63 (by omega) (by omega)) (em 64 (by omega) (by omega)) rfl⟩
      rw [e38, rI_ne _ _ (by omega), rI_eq]
      exact cf_rb t3 n j hj) (by
      intro k hk ih
      rw [if_pos hk]
      have nx : nI (n - 1 - k) + -1 = (if k + 1 < n then nI (n - 1 - (k + 1)) else -1) := by
        by_cases h : k + 1 < n
        · rw [if_pos h, add_m1, nI_m1 (by omega), show n - 1 - k - 1 = n - 1 - (k + 1) by omega]
        · rw [if_neg h, show n - 1 - k = 0 by omega]
          decide
      rw [← nx] at ih
      have ih : G 41 [(3, vI (nI (n - 1 - k) + -1)), (1, vI b), (0, vR 0 0)] [] (rI (rI hp 38 (upd (cfR (hp.1 38) T b n k) (T + k) (b >>> (nI 8 * nI (n - 1 - k) &&& 31)).toInt8.toInt32)) 37 (upd (hp.1 37) 1 (nI (T + k + 1)))) := ih
      generalize cfR (hp.1 38) T b n k = B at ih
      have e37 : (rI (rI hp 38 B) 37 (upd (hp.1 37) 1 (nI (T + k)))).1 37 1 = nI (T + k) := by rw [rI_eq, upd_at, if_pos rfl]
      refine run hG [41] 60 ?_
      refine And.intro (fun h => absurd h (Int32.not_lt.mpr (nI_nn (by omega)))) (fun _ => ?_)
      refine And.intro (show vp_in ((rI (rI hp 38 B) 37 (upd (hp.1 37) 1 (nI (T + k)))).1 37 1) 120 by rw [e37]; exact vp_in_nI (by omega) (by omega)) ?_
      refine cl_lv hG [(3, vI (nI (n - 1 - k) + -1)), (1, vI b), (0, vR 0 0)] ⟨rfl, rfl, rfl, trivial⟩ ?_
      show G 41 _ [] (uI (uI (rI (rI hp 38 B) 37 (upd (hp.1 37) 1 (nI (T + k)))) 38 ((rI (rI hp 38 B) 37 (upd (hp.1 37) 1 (nI (T + k)))).1 37 1).toNatClampNeg (b >>> (nI 8 * nI (n - 1 - k) &&& 31)).toInt8.toInt32) 37 1 ((rI (rI hp 38 B) 37 (upd (hp.1 37) 1 (nI (T + k)))).1 37 1 + nI 1))
      rw [e37, nI_clamp (by omega), nI_s, rI_comm _ _ _ (show 38 ≠ 37 by omega), uI_rI, rI_comm _ _ _ (show 37 ≠ 38 by omega), uI_rI, upd_upd]
      exact ih) 0 (by omega)
    have k0 : G 41 [(3, vI (if 0 < n then nI (n - 1 - 0) else -1)), (1, vI b), (0, vR 0 0)] [] (rI (rI hp 38 (hp.1 38)) 37 (upd (hp.1 37) 1 (nI T))) := key
    rw [rI_self, ← e1, upd_self, rI_self, if_pos (by omega)] at k0
    refine cl_lv hG [(3, vI (nI n - nI 1)), (1, vI b), (0, vR 0 0)] ⟨rfl, rfl, rfl, trivial⟩ ?_
    rw [nI_m1 (by omega)]
    exact k0
  · have h2 : ¬ hp.1 37 1 + nI n ≤ nI 120 := h2
    refine at_no hQ 1 (by omega) (by decide) (qc_r hp) (fun mp h => ⟨mp, qm_r mp, ?_⟩)
    unfold F_feed
    rw [if_pos h1', if_neg (by rw [eM mp h, ← e1]; exact h2)]
theorem sc_X4_feed {own : String} {F L idx : Nat} (h1 : Cond.methodLink own idx yX4_feed ∈ Gw) (hF : 3 ≤ F) (hL : 67 ≤ L) : SC own F L (idx, false, 3, sp_X4_feed) := SC_V spF_mono c_X4_feed okd_0 (fun as hp K h => by obtain ⟨x, hx, -⟩ := spF_e h; exact ⟨_, _, d_C_II_e hx⟩) h1 gw_592 gw_593 gw_69 gw_594 (by decide +kernel) hF hL
