/-! bits of the ward's numbers -/
theorem sh32 : ∀ d, d < 32 → ((nI d &&& 31).toBitVec.smod 32).toNat = d := by decide +kernel
theorem bI_eq (x : Int32) {d : Nat} (h : d < 32) : bI x d = if x.toBitVec.getLsbD d = true then nI 1 else nI 0 := by
  unfold bI
  apply Int32.toBitVec_inj.mp
  rw [Int32.toBitVec_and, Int32.toBitVec_shiftRight, BitVec.sshiftRight_eq', sh32 d h]
  have e1 : (nI 1).toBitVec = 1#32 := rfl
  rw [e1, BitVec.and_one_eq_setWidth_ofBool_getLsbD, BitVec.getLsbD_sshiftRight]
  have e2 : (!decide (32 ≤ 0) && if d + 0 < 32 then x.toBitVec.getLsbD (d + 0) else x.toBitVec.msb) = x.toBitVec.getLsbD d := by
    rw [if_pos (by omega), Nat.add_zero]
    rfl
  rw [e2]
  cases x.toBitVec.getLsbD d <;> rfl
theorem shl32 : ∀ q, q < 32 → (nI 1 <<< (nI q &&& 31)).toBitVec = 1#32 <<< q := by decide +kernel
theorem one_shl {q d : Nat} (hq : q < 32) (hd : d < 32) : (1#32 <<< q).getLsbD d = decide (d = q) := by
  rw [BitVec.getLsbD_shiftLeft, BitVec.getLsbD_one]
  rw [Bool.eq_iff_iff]
  simp only [Bool.and_eq_true, decide_eq_true_iff, Bool.not_eq_true', decide_eq_false_iff_not]
  omega
theorem bI_or (x : Int32) {q d : Nat} (hq : q < 25) (hd : d < 25) : bI (x ||| nI 1 <<< (nI q &&& 31)) d = if d = q then nI 1 else bI x d := by
  rw [bI_eq _ (by omega), bI_eq _ (by omega), Int32.toBitVec_or, BitVec.getLsbD_or, shl32 q (by omega), one_shl (by omega) (by omega)]
  by_cases h : d = q
  · rw [if_pos h, decide_eq_true h, Bool.or_true, if_pos rfl]
  · rw [if_neg h, decide_eq_false h, Bool.or_false]
theorem bI_an (x : Int32) {q d : Nat} (hq : q < 25) (hd : d < 25) : bI (x &&& (nI 1 <<< (nI q &&& 31) ^^^ -1)) d = if d = q then nI 0 else bI x d := by
  have e1 : (-1 : Int32).toBitVec.getLsbD d = true := by
    have : (-1 : Int32).toBitVec = BitVec.allOnes 32 := by decide
    rw [this, BitVec.getLsbD_allOnes]
    exact decide_eq_true (by omega)
  rw [bI_eq _ (by omega), bI_eq _ (by omega), Int32.toBitVec_and, BitVec.getLsbD_and, Int32.toBitVec_xor, BitVec.getLsbD_xor, shl32 q (by omega), one_shl (by omega) (by omega), e1]
  by_cases h : d = q
  · rw [if_pos h, decide_eq_true h]
    cases x.toBitVec.getLsbD d <;> rfl
  · rw [if_neg h, decide_eq_false h]
    cases x.toBitVec.getLsbD d <;> rfl
theorem su64 : ∀ d, d < 64 → ((nI d).toInt64.toUInt64 &&& Int64.toUInt64 63).toNat % 64 = d := by decide +kernel
theorem sJ_bv (x : Int64) {d : Nat} (h : d < 64) : (sJ x d).toBitVec = (if x.toBitVec.getLsbD d = true then 1#64 else 0#64) := by
  unfold sJ
  have e1 : (lN 1).toBitVec = 1#64 := rfl
  have e2 : ((x.toUInt64 >>> ((nI d).toInt64.toUInt64 &&& Int64.toUInt64 63)).toInt64).toBitVec = x.toBitVec >>> d := by
    show (x.toUInt64 >>> ((nI d).toInt64.toUInt64 &&& Int64.toUInt64 63)).toBitVec = _
    apply BitVec.eq_of_toNat_eq
    show (x.toUInt64 >>> ((nI d).toInt64.toUInt64 &&& Int64.toUInt64 63)).toNat = _
    rw [UInt64.toNat_shiftRight, su64 d h, BitVec.toNat_ushiftRight]
    rfl
  rw [Int64.toBitVec_and, e1, e2, BitVec.and_one_eq_setWidth_ofBool_getLsbD, BitVec.getLsbD_ushiftRight, Nat.add_zero]
  cases x.toBitVec.getLsbD d <;> rfl
theorem bJ_eq (x : Int64) {d : Nat} (h : d < 64) : bJ x d = if x.toBitVec.getLsbD d = true then nI 1 else nI 0 := by
  unfold bJ
  have e := sJ_bv x h
  cases hb : x.toBitVec.getLsbD d with
  | true =>
    rw [hb, if_pos rfl] at e
    have h3 : ¬ sJ x d = lN 0 := fun h2 => by
      rw [h2] at e
      exact absurd e (by decide)
    rw [if_neg h3]
    rfl
  | false =>
    rw [hb, if_neg (by decide)] at e
    have h3 : sJ x d = lN 0 := Int64.toBitVec_inj.mp (e.trans rfl)
    rw [if_pos h3]
    rfl
theorem shl64 : ∀ q, q < 64 → (lN 1 <<< ((nI q).toInt64 &&& 63)).toBitVec = 1#64 <<< q := by decide +kernel
theorem one_shl64 {q d : Nat} (hq : q < 64) (hd : d < 64) : (1#64 <<< q).getLsbD d = decide (d = q) := by
  rw [BitVec.getLsbD_shiftLeft, BitVec.getLsbD_one]
  rw [Bool.eq_iff_iff]
  simp only [Bool.and_eq_true, decide_eq_true_iff, Bool.not_eq_true', decide_eq_false_iff_not]
  omega
theorem bJ_or (x : Int64) {q d : Nat} (hq : q < 50) (hd : d < 50) : bJ (x ||| lN 1 <<< ((nI q).toInt64 &&& 63)) d = if d = q then nI 1 else bJ x d := by
  rw [bJ_eq _ (by omega), bJ_eq _ (by omega), Int64.toBitVec_or, BitVec.getLsbD_or, shl64 q (by omega), one_shl64 (by omega) (by omega)]
  by_cases h : d = q
  · rw [if_pos h, decide_eq_true h, Bool.or_true, if_pos rfl]
  · rw [if_neg h, decide_eq_false h, Bool.or_false]
theorem bJ_an (x : Int64) {q d : Nat} (hq : q < 50) (hd : d < 50) : bJ (x &&& (lN 1 <<< ((nI q).toInt64 &&& 63) ^^^ -1)) d = if d = q then nI 0 else bJ x d := by
  have e1 : (-1 : Int64).toBitVec.getLsbD d = true := by
    have : (-1 : Int64).toBitVec = BitVec.allOnes 64 := by decide
    rw [this, BitVec.getLsbD_allOnes]
    exact decide_eq_true (by omega)
  rw [bJ_eq _ (by omega), bJ_eq _ (by omega), Int64.toBitVec_and, BitVec.getLsbD_and, Int64.toBitVec_xor, BitVec.getLsbD_xor, shl64 q (by omega), one_shl64 (by omega) (by omega), e1]
  by_cases h : d = q
  · rw [if_pos h, decide_eq_true h]
    cases x.toBitVec.getLsbD d <;> rfl
  · rw [if_neg h, decide_eq_false h]
    cases x.toBitVec.getLsbD d <;> rfl
theorem bI_01 (x : Int32) {d : Nat} (h : d < 32) : bI x d = nI 0 ∨ bI x d = nI 1 := by
  rw [bI_eq x h]
  split
  · exact Or.inr rfl
  · exact Or.inl rfl
theorem bJ_01 (x : Int64) (d : Nat) : bJ x d = nI 0 ∨ bJ x d = nI 1 := by
  unfold bJ
  split
  · exact Or.inl rfl
  · exact Or.inr rfl
/-! the ward's small methods -/
def sbV (q w : Nat) : Int32 := if bsd q w = 99 then -1 else nI (bsd q w)
def sp_X3_squareBeside : SP := spP d_S_II (fun x _ => vp_in x.1 25 ∧ vp_in x.2 4) (fun x _ => vI (sbV x.1.toNatClampNeg x.2.toNatClampNeg))
theorem nI_sbb {a b : Nat} (h : b ≤ a) : nI a - nI b = nI (a - b) := pk_sub h
def E_X3_squareBeside : EN := []
set_option maxRecDepth 100000 in
set_option maxHeartbeats 4000000 in
theorem c_X3_squareBeside : Ctr M_X3_squareBeside sp_X3_squareBeside := by
  refine ctr_of (own := RX3) M_X3_squareBeside sp_X3_squareBeside (P := P_X3_squareBeside) (K := K_X3) (E := E_X3_squareBeside) (by decide) rfl pk_X3_squareBeside K_X3_ok (fun _ h => absurd h List.not_mem_nil) (fun as hp Q h => by obtain ⟨x, hx, -⟩ := spP_e h; rw [d_S_II_e hx]; exact Nat.le_of_ble_eq_true rfl) ?_
  intro Q G hQi hG as hp h
  obtain ⟨x, hx, hpre, hQ⟩ := spP_e h
  rw [d_S_II_e hx]
  clear h hx
  obtain ⟨q, w⟩ := x
  try dsimp only at hpre hQ ⊢
  obtain ⟨q, hq, rfl⟩ := vp_in_of hpre.1 (by omega)
  obtain ⟨w, hw, rfl⟩ := vp_in_of hpre.2 (by omega)
  rw [nI_clamp (by omega), nI_clamp (by omega)] at hQ
  have et : (nI w).toInt = (w : Int) := nI_toInt (by omega)
  have er : nI q - nI q / nI 5 * nI 5 = nI (q % 5) := nI_rem (by omega) (by omega) (by omega)
  unfold sbV at hQ
  refine run hG [] 60 ?_
  refine And.intro (fun hz => ?_) (And.intro (fun hz => ?_) (And.intro (fun hz => ?_) (fun hz => ?_)))
  · have e : w = 0 := by rw [et] at hz; omega
    subst e
    refine And.intro (fun h1 => ?_) (fun h1 => ?_)
    · have h1 : nI q < nI 5 := h1
      rw [nI_ltI (by omega) (by omega)] at h1
      rw [if_pos (show bsd q 0 = 99 from if_neg (by omega))] at hQ
      exact hQ
    · have h1 : ¬ nI q < nI 5 := h1
      rw [nI_ltI (by omega) (by omega)] at h1
      have e9 : bsd q 0 = q - 5 := if_pos (by omega)
      rw [if_neg (by omega), e9] at hQ
      exact q_i hQ (nI_sbb (by omega))
  · have e : w = 1 := by rw [et] at hz; omega
    subst e
    refine And.intro (by decide) ?_
    refine And.intro (fun h1 => ?_) (fun h1 => ?_)
    · have h1 : nI 4 ≤ nI q - nI q / nI 5 * nI 5 := h1
      rw [er, nI_leI (by omega) (by omega)] at h1
      rw [if_pos (show bsd q 1 = 99 from if_pos (by omega))] at hQ
      exact hQ
    · have h1 : ¬ nI 4 ≤ nI q - nI q / nI 5 * nI 5 := h1
      rw [er, nI_leI (by omega) (by omega)] at h1
      have e9 : bsd q 1 = q + 1 := if_neg (by omega)
      rw [if_neg (by omega), e9] at hQ
      exact q_i hQ (nI_s q)
  · have e : w = 2 := by rw [et] at hz; omega
    subst e
    refine And.intro (fun h1 => ?_) (fun h1 => ?_)
    · have h1 : nI 20 ≤ nI q := h1
      rw [nI_leI (by omega) (by omega)] at h1
      rw [if_pos (show bsd q 2 = 99 from if_pos (by omega))] at hQ
      exact hQ
    · have h1 : ¬ nI 20 ≤ nI q := h1
      rw [nI_leI (by omega) (by omega)] at h1
      have e9 : bsd q 2 = q + 5 := if_neg (by omega)
      rw [if_neg (by omega), e9] at hQ
      exact q_i hQ (nI_add q 5)
  · have e : w = 3 := by rw [et] at hz; omega
    subst e
    refine And.intro (by decide) ?_
    refine And.intro (fun h1 => ?_) (fun h1 => ?_)
    · have h1 : nI q - nI q / nI 5 * nI 5 ≤ nI 0 := h1
      rw [er, nI_leI (by omega) (by omega)] at h1
      rw [if_pos (show bsd q 3 = 99 from if_pos (by omega))] at hQ
      exact hQ
    · have h1 : ¬ nI q - nI q / nI 5 * nI 5 ≤ nI 0 := h1
      rw [er, nI_leI (by omega) (by omega)] at h1
      have e9 : bsd q 3 = q - 1 := if_neg (by omega)
      rw [if_neg (by omega), e9] at hQ
      exact q_i hQ (nI_sbb (by omega))
theorem sc_X3_squareBeside {own : String} {F L idx : Nat} (h1 : Cond.methodLink own idx yX3_squareBeside ∈ Gw) (hF : 1 ≤ F) (hL : 21 ≤ L) : SC own F L (idx, true, 2, sp_X3_squareBeside) := SC_S spP_mono c_X3_squareBeside h1 gw_295 gw_70 gw_296 (by decide +kernel) hF hL
