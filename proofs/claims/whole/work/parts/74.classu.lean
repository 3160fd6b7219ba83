/-! which doors must be shut -/
def drB (d : Nat) : Bool := decide (bsd (d / 2) (d % 2 + 1) ≠ 99)
theorem drB_40 : cnt drB 50 = 40 := by decide +kernel
theorem cnt_mono (p : Nat → Bool) (n : Nat) : ∀ d, cnt p n ≤ cnt p (n + d)
  | 0 => Nat.le_refl _
  | d + 1 => by
    have := cnt_mono p n d
    show _ ≤ cnt p (n + d) + _
    omega
theorem bkN_c (f : Nat → Int32) : ∀ d, bkN f d ≤ cnt drB d
  | 0 => Nat.le_refl _
  | d + 1 => by
    have := bkN_c f d
    show bkN f d + (if bkB f d = true then 1 else 0) ≤ cnt drB d + (if drB d = true then 1 else 0)
    by_cases h : bkB f d = true
    · have h2 : drB d = true := by
        unfold bkB at h
        exact decide_eq_true (may_bsd (and_tt h).1)
      rw [if_pos h, if_pos h2]
      omega
    · rw [if_neg h]
      omega
theorem bkN_40 (f : Nat → Int32) {d : Nat} (hd : d ≤ 50) : bkN f d ≤ 40 := by
  have h1 := bkN_c f d
  have h2 := cnt_mono drB d (50 - d)
  rw [show d + (50 - d) = 50 by omega, drB_40] at h2
  omega
theorem dr_drI {d : Nat} : dr (d / 2) (d % 2 + 1) = drI d := by
  unfold drI
  rcases (show d % 2 = 0 ∨ d % 2 = 1 by omega) with h | h
  · rw [if_pos h, h]
    rfl
  · rw [if_neg (by omega), h]
    rfl
def cbR (f r : Nat → Int32) : Nat → (Nat → Int32)
  | 0 => r
  | d + 1 => if bkB f d = true then upd (cbR f r d) (bkN f d) (nI d) else cbR f r d
theorem cbR_at (f r u : Nat → Int32) : ∀ D k, k < bkN f D → ∃ d, d < D ∧ bkB f d = true ∧ bkN f d = k ∧ bkR f r D k = nI (drI d) ∧ cbR f u D k = nI d
  | 0, k, h => absurd h (Nat.not_lt_zero _)
  | D + 1, k, h => by
    have hN : bkN f (D + 1) = bkN f D + (if bkB f D = true then 1 else 0) := rfl
    have hR : bkR f r (D + 1) = if bkB f D = true then upd (bkR f r D) (bkN f D) (nI (dr (D / 2) (D % 2 + 1))) else bkR f r D := rfl
    have hC : cbR f u (D + 1) = if bkB f D = true then upd (cbR f u D) (bkN f D) (nI D) else cbR f u D := rfl
    by_cases hb : bkB f D = true
    · rw [if_pos hb] at hN hR hC
      rw [hR, hC]
      by_cases hk : k = bkN f D
      · exact ⟨D, by omega, hb, hk.symm, by rw [hk, pk_us, dr_drI], by rw [hk, pk_us]⟩
      · obtain ⟨d, h1, h2, h3, h4, h5⟩ := cbR_at f r u D k (by omega)
        exact ⟨d, by omega, h2, h3, by rw [pk_un hk]; exact h4, by rw [pk_un hk]; exact h5⟩
    · rw [if_neg hb] at hN hR hC
      rw [hR, hC]
      obtain ⟨d, h1, h2, h3, h4, h5⟩ := cbR_at f r u D k (by omega)
      exact ⟨d, by omega, h2, h3, h4, h5⟩
/-- m banks, by the reference's row and by the class's -/
def bnk (f b c : Nat → Int32) (m : Nat) : Prop := m ≤ 12 ∧ ∃ D : Nat → Nat, ∀ k, k < m → D k < 50 ∧ b k = nI (drI (D k)) ∧ c k = nI (D k) ∧ f (drI (D k)) = nI 0 ∧ ∀ j, j < k → D j ≠ D k
theorem bnk_of {f r u : Nat → Int32} (h : bkN f 50 ≤ 12) : bnk f (bkR f r 50) (cbR f u 50) (bkN f 50) := by
  refine ⟨h, fun k => (cbR f u 50 k).toNatClampNeg, fun k hk => ?_⟩
  obtain ⟨d, h1, h2, h3, h4, h5⟩ := cbR_at f r u 50 k hk
  have e : (cbR f u 50 k).toNatClampNeg = d := by rw [h5, nI_clamp (by omega)]
  dsimp only
  rw [e]
  refine ⟨h1, h4, h5, ?_, fun j hj => ?_⟩
  · unfold bkB mayB at h2
    rw [Bool.and_eq_true, Bool.and_eq_true, decide_eq_true_iff, dr_drI] at h2
    exact h2.1.2
  · obtain ⟨d2, g1, g2, g3, g4, g5⟩ := cbR_at f r u 50 j (by omega)
    rw [g5, nI_clamp (by omega)]
    intro e2
    rw [e2, h3] at g3
    omega
def dsV (b : Nat → Int32) (s : Int32) : Nat → Int64
  | 0 => lN 0
  | k + 1 => if bI s k = 0 then dsV b s k else dsV b s k ||| lN 1 <<< ((b k).toInt64 &&& 63)
theorem bJ_zero (d : Nat) : bJ (lN 0) d = nI 0 := by
  unfold bJ sJ
  rw [if_pos]
  apply Int64.toBitVec_inj.mp
  rw [Int64.toBitVec_and]
  show ((0 : UInt64) >>> _).toBitVec &&& _ = _
  rw [UInt64.zero_shiftRight]
  rfl
theorem ds_bit {c : Nat → Int32} {D : Nat → Nat} (s : Int32) {d : Nat} (hd : d < 50) : ∀ m, (∀ k, k < m → D k < 50 ∧ c k = nI (D k)) → (∀ k, k < m → D k ≠ d) → bJ (dsV c s m) d = nI 0
  | 0, _, _ => bJ_zero d
  | m + 1, h, hn => by
    have ih := ds_bit s hd m (fun k hk => h k (by omega)) (fun k hk => hn k (by omega))
    show bJ (if bI s m = 0 then dsV c s m else dsV c s m ||| lN 1 <<< ((c m).toInt64 &&& 63)) d = nI 0
    split
    · exact ih
    · rw [(h m (by omega)).2, bJ_or _ (h m (by omega)).1 hd, if_neg (fun e => hn m (by omega) e.symm)]
      exact ih
theorem orF_at {f : Nat → Int32} {x : Int64} {d : Nat} (hd : d < 50) : orF f x (drI d) = if bJ x d = nI 1 then nI 1 else f (drI d) := by
  rcases (show d % 2 = 0 ∨ d % 2 = 1 by omega) with h | h
  · have e : drI d = 94 + d / 2 := if_pos h
    unfold orF
    rw [e, show 2 * (94 + d / 2 - 94) = d by omega]
    by_cases hb : bJ x d = nI 1
    · rw [if_pos hb, if_pos ⟨by omega, by omega, hb⟩]
    · rw [if_neg hb, if_neg (fun h => hb h.2.2), if_neg (fun h => by omega)]
  · have e : drI d = 119 + d / 2 := if_neg (by omega)
    unfold orF
    rw [e, if_neg (fun h => by omega), show 2 * (119 + d / 2 - 119) + 1 = d by omega]
    by_cases hb : bJ x d = nI 1
    · rw [if_pos hb, if_pos ⟨by omega, by omega, hb⟩]
    · rw [if_neg hb, if_neg (fun h => hb h.2.2)]
theorem drI_inv {k : Nat} (h1 : 94 ≤ k) (h2 : k < 144) : ∃ d, d < 50 ∧ drI d = k := by
  by_cases h : k < 119
  · exact ⟨2 * (k - 94), by omega, by unfold drI; rw [if_pos (by omega)]; omega⟩
  · exact ⟨2 * (k - 119) + 1, by omega, by unfold drI; rw [if_neg (by omega)]; omega⟩
theorem drI_inj {a b : Nat} (ha : a < 50) (hb : b < 50) (h : drI a = drI b) : a = b := by
  unfold drI at h
  split at h <;> split at h <;> omega
theorem orF_or (f : Nat → Int32) (x : Int64) {q : Nat} (hq : q < 50) : orF f (x ||| lN 1 <<< ((nI q).toInt64 &&& 63)) = upd (orF f x) (drI q) (nI 1) := by
  funext k
  rw [upd_at]
  by_cases hk : 94 ≤ k ∧ k < 144
  · obtain ⟨d, hd, rfl⟩ := drI_inv hk.1 hk.2
    rw [orF_at hd, orF_at hd, bJ_or _ hq hd]
    by_cases e : d = q
    · subst e
      rw [if_pos rfl, if_pos rfl, if_pos rfl]
    · rw [if_neg e, if_neg (fun h => e (drI_inj hd hq h))]
  · have := drI_in hq
    rw [orF_o (by omega), orF_o (by omega), if_neg (by omega)]
theorem set_or {f b c : Nat → Int32} {D : Nat → Nat} (s : Int32) : ∀ m, m ≤ 12 → (∀ k, k < m → D k < 50 ∧ b k = nI (drI (D k)) ∧ c k = nI (D k) ∧ f (drI (D k)) = nI 0 ∧ ∀ j, j < k → D j ≠ D k) → setB f b s m = orF f (dsV c s m)
  | 0, _, _ => (or_zero f).symm
  | m + 1, hm, h => by
    obtain ⟨h1, h2, h3, h4, h5⟩ := h m (by omega)
    have hd := drI_in h1
    show upd (setB f b s m) (b m).toNatClampNeg (bI s m) = orF f (if bI s m = 0 then dsV c s m else dsV c s m ||| lN 1 <<< ((c m).toInt64 &&& 63))
    rw [set_or s m (by omega) (fun k hk => h k (by omega)), h2, nI_clamp (by omega)]
    rcases bI_01 s (d := m) (by omega) with e | e
    · rw [if_pos (show bI s m = 0 from e), e]
      funext k
      rw [upd_at]
      split
      · next hk =>
        rw [hk, orF_at h1, ds_bit s h1 m (fun k hk => ⟨(h k (by omega)).1, (h k (by omega)).2.2.1⟩) h5, h4]
        decide
      · rfl
    · rw [if_neg (by rw [e]; decide), e, h3, orF_or _ _ h1]
theorem bnk.set {f b c : Nat → Int32} {m : Nat} (h : bnk f b c m) (s : Int32) : setB f b s m = orF f (dsV c s m) := by
  obtain ⟨hm, D, hD⟩ := h
  exact set_or s m hm hD
def sp_X4_findBanks : SP := spH d_C (fun _ _ => True) (fun _ hp => some (vI (nI (bkN (rw_ hp 1) 50)))) (fun _ hp => rI hp 48 (cbR (rw_ hp 1) (hp.1 48) 50))
def E_X4_findBanks : EN := [(228, true, 2, sp_X3_squareBeside), (71, false, 2, sp_X3_isShut), (94, false, 2, sp_X3_isRiver)]
set_option maxRecDepth 100000 in
set_option maxHeartbeats 4000000 in
theorem c_X4_findBanks : Ctr M_X4_findBanks sp_X4_findBanks := by
  refine ctr_of (own := RX4) M_X4_findBanks sp_X4_findBanks (P := P_X4_findBanks) (K := K_X4) (E := E_X4_findBanks) (by decide) rfl pk_X4_findBanks K_X4_ok (List.forall_mem_cons.mpr ⟨sc_X3_squareBeside gw_538 (by decide) (by decide), List.forall_mem_cons.mpr ⟨sc_X3_isShut gw_315 (by decide) (by decide), List.forall_mem_cons.mpr ⟨sc_X3_isRiver gw_346 (by decide) (by decide), fun _ h => absurd h List.not_mem_nil⟩⟩⟩) (fun as hp Q h => by obtain ⟨x, hx, -⟩ := spH_e h; rw [d_C_e hx]; exact Nat.le_of_ble_eq_true rfl) ?_
  intro Q G hQi hG as hp h
  obtain ⟨x, hx, hpre, hQ⟩ := spH_e h
  rw [d_C_e hx]
  clear h hx
  have hrow : ∀ d, d < 50 → rw_ hp 1 (drI d) = bJ (hp.2 1 0) d := fun d hd => rw_dr hp 1 hd
  have hriv : ∀ q, q < 25 → rw_ hp 1 (69 + q) = bI (hp.1 1 3) q := fun q hq => rw_rv hp 1 hq
  generalize rw_ hp 1 = f at hQ hrow hriv
  generalize hr : hp.1 48 = r at hQ
  have ef : ∀ g, (rI hp 48 g).1 1 = hp.1 1 := fun g => rI_ne _ _ (by omega)
  have key := for_up (P := fun d => G 4 [(2, vI (nI d)), (1, vI (nI (bkN f d))), (0, vR 0 0)] [] (rI hp 48 (cbR f r d))) 50 (by
    refine run hG [4] 60 ?_
    exact And.intro (fun h1 => hQ) (fun h1 => absurd (show nI 50 ≤ nI 50 by decide) h1)) (by
    intro d hd ih
    have eN : bkN f (d + 1) = bkN f d + (if bkB f d = true then 1 else 0) := rfl
    have eR : cbR f r (d + 1) = if bkB f d = true then upd (cbR f r d) (bkN f d) (nI d) else cbR f r d := rfl
    have h40 := bkN_40 f (d := d + 1) (by omega)
    have eB : bkB f d = ((!(bsd (d / 2) (d % 2 + 1) == 99) && decide (f (drI d) = 0)) && decide (¬ f (69 + d / 2) = f (69 + bsd (d / 2) (d % 2 + 1)))) := by unfold bkB mayB; rw [dr_drI]
    have hq : d / 2 < 25 := by omega
    show G 4 [(2, vI (nI d)), (1, vI (nI (bkN f d))), (0, vR 0 0)] [] (rI hp 48 (cbR f r d))
    generalize cbR f r d = g at eR
    generalize bkN f d = m at eN eR
    have ediv : nI d / nI 2 = nI (d / 2) := pk_div (by omega) (by omega) (by omega)
    have erem : nI d - nI d / nI 2 * nI 2 = nI (d % 2) := nI_rem (by omega) (by omega) (by omega)
    have eqc : (nI (d / 2)).toNatClampNeg = d / 2 := nI_clamp (by omega)
    have edc : (nI d).toNatClampNeg = d := nI_clamp (by omega)
    -- the end of a turn, with the answer
    have no : bkB f d = false → ∀ v4 : Int32, G 72 [(4, vI v4), (3, vI (nI (d / 2))), (2, vI (nI d)), (1, vI (nI m)), (0, vR 0 0)] [vI (nI 0)] (rI hp 48 g) := by
      intro hb v4
      rw [if_neg (by rw [hb]; decide)] at eN eR
      rw [eN, eR] at ih
      refine run hG [4] 60 ?_
      refine And.intro (fun h => ?_) (fun h => absurd rfl h)
      refine cl_lv hG [(2, vI (nI d + nI 1)), (1, vI (nI m)), (0, vR 0 0)] ⟨rfl, rfl, rfl, trivial⟩ ?_
      rw [nI_s]
      exact ih
    have yes : bkB f d = true → ∀ v4 : Int32, G 72 [(4, vI v4), (3, vI (nI (d / 2))), (2, vI (nI d)), (1, vI (nI m)), (0, vR 0 0)] [vI (nI 1)] (rI hp 48 g) := by
      intro hb v4
      rw [if_pos hb] at eN eR
      rw [eN, eR] at ih
      have hm : m < 40 := by omega
      have emc : (nI m).toNatClampNeg = m := nI_clamp (by omega)
      refine run hG [4] 60 ?_
      refine And.intro (fun h => absurd h (by decide)) (fun h => ?_)
      refine And.intro (fun h => absurd (show nI 40 ≤ nI m from h) (nI_ge hm (by omega))) (fun h => ?_)
      refine And.intro (vp_in_nI hm (by omega)) ?_
      refine cl_lv hG [(2, vI (nI d + nI 1)), (1, vI (nI m + nI 1)), (0, vR 0 0)] ⟨rfl, rfl, rfl, trivial⟩ ?_
      show G 4 _ [] (uI (rI hp 48 g) 48 (nI m).toNatClampNeg (nI d))
      rw [nI_s, nI_s, emc, uI_rI]
      exact ih
    have rest : ∀ y, y = d % 2 + 1 → G 26 [(3, vI (nI (d / 2))), (2, vI (nI d)), (1, vI (nI m)), (0, vR 0 0)] [vI (nI y), vI (nI (d / 2))] (rI hp 48 g) := by
      intro y hy
      have hy4 : y < 4 := by omega
      have eyc : (nI y).toNatClampNeg = y := nI_clamp (by omega)
      rw [← hy] at eB
      refine run hG [31] 60 ?_
      refine And.intro ⟨vp_in_nI hq (by omega), vp_in_nI hy4 (by omega)⟩ ?_
      refine cl_lv hG [(4, vI (sbV (nI (d / 2)).toNatClampNeg (nI y).toNatClampNeg)), (3, vI (nI (d / 2))), (2, vI (nI d)), (1, vI (nI m)), (0, vR 0 0)] ⟨rfl, rfl, rfl, rfl, rfl, trivial⟩ ?_
      rw [eqc, eyc]
      by_cases h99 : bsd (d / 2) y = 99
      · rw [show sbV (d / 2) y = -1 from if_pos h99]
        have hb : bkB f d = false := by rw [eB, h99]; rfl
        refine run hG [72] 60 ?_
        exact And.intro (fun h => cl_use hG (no hb (-1)) ⟨rfl, rfl, rfl, rfl, rfl, trivial⟩) (fun h => absurd (show (-1 : Int32) < 0 by decide) h)
      · have h25 : bsd (d / 2) y < 25 := by rcases bsd_lt _ hq y hy4 with h | h <;> omega
        rw [sb_may h99]
        have ebc : (nI (bsd (d / 2) y)).toNatClampNeg = bsd (d / 2) y := nI_clamp (by omega)
        have eB2 : bkB f d = (decide (f (drI d) = 0) && decide (¬ f (69 + d / 2) = f (69 + bsd (d / 2) y))) := by
          rw [eB, beq_false_of_ne h99]
          rfl
        rw [hrow d hd, hriv _ hq, hriv _ h25] at eB2
        generalize bsd (d / 2) y = u at h25 ebc eB2
        refine run hG [72] 60 ?_
        refine And.intro (fun h => absurd h (by rw [show ((0 : Int32)) = nI 0 from rfl]; exact fun h => absurd ((nI_ltI (by omega) (by omega)).mp h) (by omega))) (fun h => ?_)
        refine And.intro (vp_in_nI hd (by omega)) ?_
        refine And.intro (fun h1 => ?_) (fun h1 => ?_)
        · have h1 : ¬ bJ (hp.2 1 0) (nI d).toNatClampNeg = 0 := h1
          rw [edc] at h1
          exact cl_use hG (no (by rw [eB2, decide_eq_false h1]; rfl) (nI u)) ⟨rfl, rfl, rfl, rfl, rfl, trivial⟩
        · have h1 : bJ (hp.2 1 0) (nI d).toNatClampNeg = 0 := h1
          rw [edc] at h1
          rw [decide_eq_true h1, Bool.true_and] at eB2
          refine And.intro (vp_in_nI hq (by omega)) ?_
          refine And.intro (vp_in_nI h25 (by omega)) ?_
          refine And.intro (fun h2 => ?_) (fun h2 => ?_)
          · have h2 : bI ((rI hp 48 g).1 1 3) (nI (d / 2)).toNatClampNeg = bI ((rI hp 48 g).1 1 3) (nI u).toNatClampNeg := h2
            rw [ef, eqc, ebc] at h2
            exact cl_use hG (no (by rw [eB2]; exact decide_eq_false (fun h => h h2)) (nI u)) ⟨rfl, rfl, rfl, rfl, rfl, trivial⟩
          · have h2 : ¬ bI ((rI hp 48 g).1 1 3) (nI (d / 2)).toNatClampNeg = bI ((rI hp 48 g).1 1 3) (nI u).toNatClampNeg := h2
            rw [ef, eqc, ebc] at h2
            exact cl_use hG (yes (by rw [eB2]; exact decide_eq_true h2) (nI u)) ⟨rfl, rfl, rfl, rfl, rfl, trivial⟩
    refine run hG [14, 26] 60 ?_
    refine And.intro (fun h => absurd (show nI 50 ≤ nI d from h) (nI_ge hd (by omega))) (fun h => ?_)
    refine And.intro (by decide) ?_
    refine cl_lv hG [(3, vI (nI d / nI 2)), (2, vI (nI d)), (1, vI (nI m)), (0, vR 0 0)] ⟨rfl, rfl, rfl, rfl, trivial⟩ ?_
    rw [ediv]
    refine run hG [26] 60 ?_
    refine And.intro (by decide) ?_
    refine And.intro (fun h => ?_) (fun h => ?_)
    · have h : ¬ nI d - nI d / nI 2 * nI 2 = nI 0 := h
      rw [erem, nI_eq (by omega) (by omega)] at h
      exact cl_use hG (rest 2 (by omega)) ⟨rfl, rfl, rfl, rfl, trivial⟩
    · have h : nI d - nI d / nI 2 * nI 2 = nI 0 := h
      rw [erem, nI_eq (by omega) (by omega)] at h
      exact cl_use hG (rest 1 (by omega)) ⟨rfl, rfl, rfl, rfl, trivial⟩) 0 (by omega)
  refine run hG [4] 60 ?_
  have k0 : G 4 [(2, vI (nI 0)), (1, vI (nI 0)), (0, vR 0 0)] [] (rI hp 48 r) := key
  rw [rI_id hr] at k0
  exact cl_use hG k0 ⟨rfl, rfl, rfl, trivial⟩
theorem sc_X4_findBanks {own : String} {F L idx : Nat} (h1 : Cond.methodLink own idx yX4_findBanks ∈ Gw) (hF : 2 ≤ F) (hL : 46 ≤ L) : SC own F L (idx, false, 1, sp_X4_findBanks) := SC_V spH_mono c_X4_findBanks okd_0 (fun as hp K h => by obtain ⟨x, hx, -⟩ := spH_e h; exact ⟨_, _, d_C_e hx⟩) h1 gw_536 gw_4 gw_69 gw_537 (by decide +kernel) hF hL
