/-! the sheets -/
theorem sx (v : Int64) {k : Nat} (b : Int32) (hk : k < 64) (hb : (nI 64 - b) = nI k) : (ptV b v).toInt = (Int.bmod ((v.toBitVec.toNat : Int) * 2 ^ k) (2 ^ 64)) / 2 ^ k := by
  unfold ptV
  rw [hb]
  show (v <<< ((nI k).toInt64 &&& 63) >>> ((nI k).toInt64 &&& 63)).toBitVec.toInt = _
  rw [Int64.toBitVec_shiftRight, BitVec.sshiftRight_eq', sm64 k hk, sl_bv v hk, BitVec.toInt_sshiftRight, BitVec.toInt_shiftLeft, Int.shiftRight_eq_div_pow]
  rw [Nat.shiftLeft_eq]
  push_cast
  rfl
theorem i64_cond (v : Int64) : ((2 * v.toBitVec.toNat < 2 ^ 64 ∧ v.toInt = (v.toBitVec.toNat : Int)) ∨ (2 ^ 64 ≤ 2 * v.toBitVec.toNat ∧ v.toInt = (v.toBitVec.toNat : Int) - 2 ^ 64)) ∧ v.toBitVec.toNat < 2 ^ 64 := by
  refine ⟨?_, v.toBitVec.isLt⟩
  show (_ ∧ v.toBitVec.toInt = _) ∨ (_ ∧ v.toBitVec.toInt = _)
  rw [BitVec.toInt_eq_toNat_cond]
  split
  · next h => exact Or.inl ⟨h, rfl⟩
  · next h => exact Or.inr ⟨by omega, rfl⟩
theorem pt_ct {b : Int32} (hb : btB b = true) (h0 : ¬ b = 0) (v : Int64) : ptV b v = ctV b v := by
  have hb := of_decide_eq_true hb
  have hc := i64_cond v
  refine Int64.toInt_inj.mp ?_
  rcases hb with h | h | h | h
  · exact absurd h h0
  · subst h
    rw [sx v (k := 56) (nI 8) (by omega) (by decide)]
    unfold ctV
    rw [if_pos rfl, Int32.toInt_toInt64, Int8.toInt_toInt32, Int32.toInt_toInt8, Int64.toInt_toInt32]
    unfold Int.bmod
    dsimp only
    split <;> split <;> split <;> omega
  · subst h
    rw [sx v (k := 48) (nI 16) (by omega) (by decide)]
    unfold ctV
    rw [if_neg (by decide), if_pos rfl, Int32.toInt_toInt64, Int16.toInt_toInt32, Int32.toInt_toInt16, Int64.toInt_toInt32]
    unfold Int.bmod
    dsimp only
    split <;> split <;> split <;> omega
  · subst h
    rw [sx v (k := 0) (nI 64) (by omega) (by decide)]
    unfold ctV
    rw [if_neg (by decide), if_neg (by decide)]
    simp only [Int.pow_zero, Int.mul_one, Int.ediv_one]
    unfold Int.bmod
    dsimp only
    split <;> omega
theorem RC.sh {hp mp : HP} (h : RC hp mp) {s : Nat} (hs : s < 4) : hp.1 (40 + s) 0 = mp.1 63 s ∧ hp.1 (40 + s) 1 = mp.1 64 s ∧ (∃ l, l ≤ 40 ∧ mp.1 64 s = nI l) ∧ btB (mp.1 63 s) = true ∧ ∀ j, j < 40 → hp.2 (44 + s) j = mp.2 65 (40 * s + j) := h.2.2.2.2 s hs
theorem RC.ln {hp mp : HP} (h : RC hp mp) {s : Nat} (hs : s < 4) : lnN mp s = (hp.1 (40 + s) 1).toNatClampNeg ∧ lnN mp s ≤ 40 ∧ hp.1 (40 + s) 1 = nI (lnN mp s) := by
  obtain ⟨-, h2, ⟨l, hl, el⟩, -, -⟩ := h.sh hs
  unfold lnN
  rw [h2, el, nI_clamp (by omega)]
  exact ⟨rfl, hl, rfl⟩
theorem RC.num {hp mp : HP} (h : RC hp mp) {s : Nat} (hs : s < 4) {g u : Nat → Int64} (h1 : ∀ j, j < 40 → g j = u (40 * s + j)) (h2 : ∀ k, k < 160 → (k < 40 * s ∨ 40 * s + 40 ≤ k) → u k = mp.2 65 k) : RC (rL hp (44 + s) g) (rL mp 65 u) := by
  obtain ⟨k1, k2, k3, k4, k5⟩ := h
  refine ⟨k1.c (fun c a b => ⟨rfl, rL_ne _ _ (by omega)⟩) rfl, k2.c rfl (fun c a b => ⟨rfl, rL_ne _ _ (by omega)⟩) rfl rfl, k3.c rfl rfl rfl, k4.c rfl rfl rfl rfl, fun t ht => ?_⟩
  obtain ⟨a1, a2, a3, a4, a5⟩ := k5 t ht
  refine ⟨a1, a2, a3, a4, fun j hj => ?_⟩
  rw [rL_eq]
  by_cases e : t = s
  · subst e
    rw [rL_eq]
    exact h1 j hj
  · rw [rL_ne _ _ (by omega), h2 _ (by omega) (by omega)]
    exact a5 j hj
theorem kc_sh {s : Nat} (hs : s < 4) : kc (44 + s) = 11 := by
  rcases (show s = 0 ∨ s = 1 ∨ s = 2 ∨ s = 3 by omega) with h | h | h | h <;> subst h <;> rfl
def sp_X4_sheet : SP := spF d_C_III (fun _ hp => RX hp) (fun x hp v hq => PO (F_sheet x.1 x.2.1 x.2.2) hp v hq)
def E_X4_sheet : EN := [(248, true, 1, sp_X4_isSheet), (63, false, 2, sp_X4_tell), (251, false, 3, sp_X0_clear)]
set_option maxRecDepth 100000 in
set_option maxHeartbeats 4000000 in
theorem c_X4_sheet : Ctr M_X4_sheet sp_X4_sheet := by
  refine ctr_of (own := RX4) M_X4_sheet sp_X4_sheet (P := P_X4_sheet) (K := K_X4) (E := E_X4_sheet) (by decide) rfl pk_X4_sheet K_X4_ok (List.forall_mem_cons.mpr ⟨sc_X4_isSheet gw_740 (by decide) (by decide), List.forall_mem_cons.mpr ⟨sc_X4_tell gw_298 (by decide) (by decide), List.forall_mem_cons.mpr ⟨sc_X0_clear gw_743 (by decide) (by decide), fun _ h => absurd h List.not_mem_nil⟩⟩⟩) (fun as hp Q h => by obtain ⟨x, hx, -⟩ := spF_e h; rw [d_C_III_e hx]; exact Nat.le_of_ble_eq_true rfl) ?_
  intro Q G hQi hG as hp h
  obtain ⟨x, hx, hpre, hQ⟩ := spF_e h
  rw [d_C_III_e hx]
  clear h hx
  obtain ⟨s, b, n⟩ := x
  try dsimp only at hpre hQ ⊢
  obtain ⟨m0, h0⟩ := hpre
  have no : ¬ (inB s 4 = true ∧ btB b = true) → ∀ mp, RC hp mp → ∃ mq, qm mp mq ∧ F_sheet s b n mp = noP mq 0 := fun h mp h2 => ⟨mp, qm_r mp, if_neg h⟩
  refine run hG [36] 60 ?_
  refine And.intro trivial ?_
  refine And.intro (fun h1 => at_no hQ 0 (by omega) (by decide) (qc_r hp) (no (fun h => by rw [bB_0.mp h1] at h; exact absurd h.1 (by decide)))) (fun h1 => ?_)
  have h1 : inB s 4 = true := bB_1.mp h1
  have rest : btB b = true → G 36 [(0, vR 0 0), (1, vI s), (2, vI b), (3, vI n)] [] hp := fun hb => by
    have hF : ∀ mp, RC hp mp → F_sheet s b n mp = (if 0 ≤ n then (if n ≤ nI 40 then (if b = 0 then nI 0 else n, shH s.toNatClampNeg b n mp) else noP mp 0) else noP mp 6) := fun mp h => if_pos ⟨h1, hb⟩
    have hS := ix_lt (inB_t.mp h1)
    refine run hG [] 60 ?_
    refine And.intro (fun h2 => ?_) (fun h2 => at_no hQ 6 (by omega) (by decide) (qc_r hp) (fun mp h => ⟨mp, qm_r mp, by rw [hF mp h, if_neg h2]⟩))
    refine And.intro (fun h3 => ?_) (fun h3 => at_no hQ 0 (by omega) (by decide) (qc_r hp) (fun mp h => ⟨mp, qm_r mp, by rw [hF mp h, if_pos h2, if_neg h3]⟩))
    have h3 : n ≤ nI 40 := h3
    refine And.intro (inB_t.mp h1) ?_
    have e44 : 40 + s.toNatClampNeg + 4 = 44 + s.toNatClampNeg := by omega
    refine And.intro (show kc (40 + s.toNatClampNeg + 4) = 11 by rw [e44]; exact kc_sh hS) ?_
    refine And.intro (inB_t.mp h1) ?_
    show Q (some (vI ((rL (uI (uI hp (40 + s.toNatClampNeg) 0 b) (40 + s.toNatClampNeg) 1 (if b = 0 then nI 0 else n)) (40 + s.toNatClampNeg + 4) (fun _ => lN 0)).1 (40 + s.toNatClampNeg) 1))) (rL (uI (uI hp (40 + s.toNatClampNeg) 0 b) (40 + s.toNatClampNeg) 1 (if b = 0 then nI 0 else n)) (40 + s.toNatClampNeg + 4) (fun _ => lN 0))
    rw [e44]
    clear e44
    generalize hH : rL (uI (uI hp (40 + s.toNatClampNeg) 0 b) (40 + s.toNatClampNeg) 1 (if b = 0 then nI 0 else n)) (44 + s.toNatClampNeg) (fun _ => lN 0) = H
    generalize s.toNatClampNeg = S at hF hS hH
    have er : ∀ c, c ≠ 40 + S → H.1 c = hp.1 c := fun c a => by
      rw [← hH]
      show (uI (uI hp (40 + S) 0 b) (40 + S) 1 (if b = 0 then nI 0 else n)).1 c = _
      rw [uI_row _ _ _ a, uI_row _ _ _ a]
    have eL : ∀ c, c ≠ 44 + S → H.2 c = hp.2 c := fun c a => by rw [← hH, rL_ne _ _ a]; rfl
    have e0 : H.1 (40 + S) 0 = b := by
      rw [← hH]
      show (uI (uI hp (40 + S) 0 b) (40 + S) 1 (if b = 0 then nI 0 else n)).1 (40 + S) 0 = _
      rw [uI_oth _ _ _ (by omega), uI_same]
    have e1 : H.1 (40 + S) 1 = (if b = 0 then nI 0 else n) := by
      rw [← hH]
      exact uI_same _ _ _ _
    have e2 : H.2 (44 + S) = fun _ => lN 0 := by rw [← hH, rL_eq]
    have hl : ∃ l, l ≤ 40 ∧ (if b = 0 then nI 0 else n) = nI l := by
      by_cases hb0 : b = 0
      · exact ⟨0, by omega, if_pos hb0⟩
      · rw [if_neg hb0]
        obtain ⟨m, _, hm, e⟩ := in_nI (a := 0) (b := 40) (by omega) (by omega) ⟨h2, h3⟩
        exact ⟨m, hm, e⟩
    show Q (some (vI (H.1 (40 + S) 1))) H
    refine hQ _ _ ⟨fun c hc => ⟨er c (by omega), eL c (by omega)⟩, fun mp h => ?_⟩
    rw [hF mp h, if_pos h2, if_pos h3]
    refine ⟨by rw [e1], ?_⟩
    obtain ⟨k1, k2, k3, k4, k5⟩ := h
    have em : ∀ c, c ≠ 63 → c ≠ 64 → (shH S b n mp).1 c = mp.1 c := fun c a d => by
      show (rI (rI mp 63 (upd (mp.1 63) S b)) 64 (upd (mp.1 64) S (if b = 0 then nI 0 else n))).1 c = _
      rw [rI_ne _ _ d, rI_ne _ _ a]
    have m63 : (shH S b n mp).1 63 = upd (mp.1 63) S b := by
      show (rI (rI mp 63 (upd (mp.1 63) S b)) 64 (upd (mp.1 64) S (if b = 0 then nI 0 else n))).1 63 = _
      rw [rI_ne _ _ (by omega), rI_eq]
    have m64 : (shH S b n mp).1 64 = upd (mp.1 64) S (if b = 0 then nI 0 else n) := by
      show (rI (rI mp 63 (upd (mp.1 63) S b)) 64 (upd (mp.1 64) S (if b = 0 then nI 0 else n))).1 64 = _
      rw [rI_eq]
    have m65 : (shH S b n mp).2 65 = filA (fun _ => lN 0) (mp.2 65) (40 * S) 40 := rL_eq _ _ _
    refine ⟨k1.c (fun c a b => ⟨er c (by omega), eL c (by omega)⟩) (em 53 (by omega) (by omega)), k2.c (by rw [er 0 (by omega)]) (fun c a b => ⟨er c (by omega), eL c (by omega)⟩) (by rw [em 52 (by omega) (by omega)]) (em 54 (by omega) (by omega)), k3.c (er 51 (by omega)) (by rw [er 0 (by omega)]) (em 57 (by omega) (by omega)), k4.c (by rw [er 37 (by omega)]) (er 38 (by omega)) (by rw [em 52 (by omega) (by omega)]) (em 62 (by omega) (by omega)), fun t ht => ?_⟩
    obtain ⟨a1, a2, a3, a4, a5⟩ := k5 t ht
    rw [m63, m64, m65]
    by_cases e : t = S
    · subst e
      rw [upd_at, if_pos rfl, upd_at, if_pos rfl, e0, e1, e2]
      refine ⟨rfl, rfl, hl, hb, fun j hj => ?_⟩
      unfold filA
      rw [if_pos (by omega)]
    · rw [upd_at, if_neg e, upd_at, if_neg e, er _ (by omega), eL _ (by omega)]
      refine ⟨a1, a2, a3, a4, fun j hj => ?_⟩
      unfold filA
      rw [if_neg (by omega)]
      exact a5 j hj
  refine And.intro (fun h2 => cl_use hG (rest (decide_eq_true (Or.inl h2))) ⟨rfl, rfl, rfl, rfl, trivial⟩) (fun h2 => ?_)
  refine And.intro (fun h3 => cl_use hG (rest (decide_eq_true (Or.inr (Or.inl h3)))) ⟨rfl, rfl, rfl, rfl, trivial⟩) (fun h3 => ?_)
  refine And.intro (fun h4 => cl_use hG (rest (decide_eq_true (Or.inr (Or.inr (Or.inl h4))))) ⟨rfl, rfl, rfl, rfl, trivial⟩) (fun h4 => ?_)
  refine And.intro (fun h5 => cl_use hG (rest (decide_eq_true (Or.inr (Or.inr (Or.inr h5))))) ⟨rfl, rfl, rfl, rfl, trivial⟩) (fun h5 => ?_)
  exact at_no hQ 0 (by omega) (by decide) (qc_r hp) (no (fun h => by
    rcases of_decide_eq_true h.2 with h | h | h | h
    · exact h2 h
    · exact h3 h
    · exact h4 h
    · exact h5 h))
theorem sc_X4_sheet {own : String} {F L idx : Nat} (h1 : Cond.methodLink own idx yX4_sheet ∈ Gw) (hF : 3 ≤ F) (hL : 69 ≤ L) : SC own F L (idx, false, 4, sp_X4_sheet) := SC_V spF_mono c_X4_sheet okd_0 (fun as hp K h => by obtain ⟨x, hx, -⟩ := spF_e h; exact ⟨_, _, d_C_III_e hx⟩) h1 gw_737 gw_738 gw_69 gw_739 (by decide +kernel) hF hL
def sp_X4_write : SP := spF d_C_IIJ (fun _ hp => RX hp) (fun x hp v hq => PJ (F_write x.1 x.2.1 x.2.2) hp v hq)
def E_X4_write : EN := [(248, true, 1, sp_X4_isSheet), (63, false, 2, sp_X4_tell), (255, false, 1, sp_X0_isMissing), (78, true, 3, sp_X4_isWithin), (263, false, 3, sp_X0_putNumber)]
set_option maxRecDepth 100000 in
set_option maxHeartbeats 4000000 in
theorem c_X4_write : Ctr M_X4_write sp_X4_write := by
  refine ctr_of (own := RX4) M_X4_write sp_X4_write (P := P_X4_write) (K := K_X4) (E := E_X4_write) (by decide) rfl pk_X4_write K_X4_ok (List.forall_mem_cons.mpr ⟨sc_X4_isSheet gw_740 (by decide) (by decide), List.forall_mem_cons.mpr ⟨sc_X4_tell gw_298 (by decide) (by decide), List.forall_mem_cons.mpr ⟨sc_X0_isMissing gw_752 (by decide) (by decide), List.forall_mem_cons.mpr ⟨sc_X4_isWithin gw_285 (by decide) (by decide), List.forall_mem_cons.mpr ⟨sc_X0_putNumber gw_757 (by decide) (by decide), fun _ h => absurd h List.not_mem_nil⟩⟩⟩⟩⟩) (fun as hp Q h => by obtain ⟨x, hx, -⟩ := spF_e h; rw [d_C_IIJ_e hx]; exact Nat.le_of_ble_eq_true rfl) ?_
  intro Q G hQi hG as hp h
  obtain ⟨x, hx, hpre, hQ⟩ := spF_e h
  rw [d_C_IIJ_e hx]
  clear h hx
  obtain ⟨s, i, v⟩ := x
  try dsimp only at hpre hQ ⊢
  obtain ⟨m0, h0⟩ := hpre
  refine run hG [] 60 ?_
  refine And.intro trivial ?_
  refine And.intro (fun h1 => ?_) (fun h1 => at_noL hQ 0 (by omega) (by decide) (qc_r hp) (fun mp h => ⟨mp, qm_r mp, if_neg (by rw [bB_0.mp h1]; decide)⟩))
  have h1 : inB s 4 = true := bB_1.mp h1
  have hS := ix_lt (inB_t.mp h1)
  have hF : ∀ mp, RC hp mp → F_write s i v mp = (if hp.1 (40 + s.toNatClampNeg) 0 = 0 then noL mp 5 else (if inB i (hp.1 (40 + s.toNatClampNeg) 1).toNatClampNeg = true then (mp.2 65 (40 * s.toNatClampNeg + i.toNatClampNeg), uL mp 65 (40 * s.toNatClampNeg + i.toNatClampNeg) (ctV (hp.1 (40 + s.toNatClampNeg) 0) v)) else noL mp 0)) := fun mp h => by
    unfold F_write
    rw [if_pos h1, ← (h.sh hS).1, (h.ln hS).1]
  obtain ⟨l1, l2, l3⟩ := h0.ln hS
  generalize hl : lnN m0 s.toNatClampNeg = l at l1 l2 l3
  have el : (hp.1 (40 + s.toNatClampNeg) 1).toNatClampNeg = l := by rw [l3, nI_clamp (by omega)]
  rw [el] at hF
  refine And.intro (inB_t.mp h1) ?_
  refine And.intro trivial ?_
  refine And.intro (fun h2 => ?_) (fun h2 => at_noL hQ 5 (by omega) (by decide) (qc_r hp) (fun mp h => ⟨mp, qm_r mp, by rw [hF mp h, if_pos (of_decide_eq_true (bB_1.mp h2))]⟩))
  have h2 : ¬ hp.1 (40 + s.toNatClampNeg) 0 = 0 := of_decide_eq_false (bB_0.mp h2)
  refine And.intro trivial ?_
  refine And.intro (fun h3 => ?_) (fun h3 => ?_)
  · have h3 : (decide (nI 0 ≤ i) && decide (i ≤ hp.1 (40 + s.toNatClampNeg) 1 - nI 1)) = true := bB_1.mp h3
    rw [l3, len_b l2] at h3
    have hi := ix_lt (inB_t.mp h3)
    have h40 : vp_in i 40 := in_mono (inB_t.mp h3) l2
    refine And.intro h40 ?_
    refine And.intro h40 ?_
    show Q (some (vL (hp.2 (40 + s.toNatClampNeg + 4) i.toNatClampNeg))) (uL hp (40 + s.toNatClampNeg + 4) i.toNatClampNeg (ptV (hp.1 (40 + s.toNatClampNeg) 0) v))
    rw [show 40 + s.toNatClampNeg + 4 = 44 + s.toNatClampNeg by omega]
    refine hQ _ _ ⟨fun c hc => ⟨rfl, by rw [uL_r, rL_ne _ _ (by omega)]⟩, fun mp h => ?_⟩
    rw [hF mp h, if_neg h2, if_pos h3]
    obtain ⟨a1, a2, a3, a4, a5⟩ := h.sh hS
    refine ⟨by rw [a5 _ (by omega)], ?_⟩
    rw [pt_ct (by rw [a1]; exact a4) h2]
    refine h.num hS (fun j hj => ?_) (fun k hk1 hk2 => ?_)
    · rw [upL_at, upL_at]
      by_cases e : j = i.toNatClampNeg
      · rw [if_pos e, if_pos (by omega)]
      · rw [if_neg e, if_neg (by omega)]
        exact a5 j hj
    · rw [upL_at, if_neg (by omega)]
  · have h3 : (decide (nI 0 ≤ i) && decide (i ≤ hp.1 (40 + s.toNatClampNeg) 1 - nI 1)) = false := bB_0.mp h3
    rw [l3, len_b l2] at h3
    exact at_noL hQ 0 (by omega) (by decide) (qc_r hp) (fun mp h => ⟨mp, qm_r mp, by rw [hF mp h, if_neg h2, if_neg (by rw [h3]; decide)]⟩)
theorem sc_X4_write {own : String} {F L idx : Nat} (h1 : Cond.methodLink own idx yX4_write ∈ Gw) (hF : 3 ≤ F) (hL : 71 ≤ L) : SC own F L (idx, false, 4, sp_X4_write) := SC_V spF_mono c_X4_write okd_0 (fun as hp K h => by obtain ⟨x, hx, -⟩ := spF_e h; exact ⟨_, _, d_C_IIJ_e hx⟩) h1 gw_749 gw_750 gw_69 gw_751 (by decide +kernel) hF hL
