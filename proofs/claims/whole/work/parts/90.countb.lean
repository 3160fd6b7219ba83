def tm (x : Int32) : Nat := x.toBitVec.toNat
theorem tm_lt (x : Int32) : tm x < 2 ^ 32 := x.toBitVec.isLt
theorem su32 : ∀ d, d < 32 → ((nI d).toUInt32 &&& Int32.toUInt32 31).toNat % 32 = d := by decide +kernel
theorem tm_us (x : Int32) {k : Nat} (h : k < 32) : tm (us32 x k) = tm x / 2 ^ k := by
  unfold tm us32
  show (x.toUInt32 >>> ((nI k).toUInt32 &&& Int32.toUInt32 31)).toNat = _
  rw [UInt32.toNat_shiftRight, su32 k h, Nat.shiftRight_eq_div_pow]
  rfl
theorem tm_and (x y : Int32) : tm (x &&& y) = tm x &&& tm y := by
  unfold tm
  rw [Int32.toBitVec_and, BitVec.toNat_and]
theorem tm_sub (x y : Int32) (h : tm y ≤ tm x) : tm (x - y) = tm x - tm y := by
  have h1 := tm_lt x
  have h2 := tm_lt y
  unfold tm at *
  rw [Int32.toBitVec_sub, BitVec.toNat_sub]
  omega
theorem tm_add (x y : Int32) (h : tm x + tm y < 2 ^ 32) : tm (x + y) = tm x + tm y := by
  unfold tm at *
  rw [Int32.toBitVec_add, BitVec.toNat_add]
  omega
theorem pop32_S (x : Int32) : ∃ z, tm z = sS 4 (tm x) ∧ pop32 x = pcE (pcD z) &&& nI 63 := by
  refine ⟨pcC (pcB (pcA x)), ?_, rfl⟩
  have hA : tm (pcA x) = sA 4 (tm x) := by
    unfold pcA sA
    have e : tm (us32 x 1 &&& 1431655765) = (tm x / 2 &&& m5 4) := by
      rw [tm_and, tm_us x (by omega)]
      rfl
    rw [tm_sub _ _ (by rw [e]; have := and_le_l (tm x / 2) (m5 4); omega), e]
  have hB : tm (pcB (pcA x)) = sB 4 (tm (pcA x)) := by
    generalize pcA x = y
    unfold pcB sB
    have e1 : tm (y &&& 858993459) = (tm y &&& m3 4) := by rw [tm_and]; rfl
    have e2 : tm (us32 y 2 &&& 858993459) = (tm y / 4 &&& m3 4) := by
      rw [tm_and, tm_us y (by omega)]
      rfl
    have b1 := and_le_r (tm y) (m3 4)
    have b2 := and_le_r (tm y / 4) (m3 4)
    have b3 : m3 4 = 858993459 := rfl
    rw [tm_add _ _ (by rw [e1, e2]; omega), e1, e2]
  have hle : tm (pcB (pcA x)) ≤ 2 * 858993459 := by
    rw [hB]
    unfold sB
    have b1 := and_le_r (tm (pcA x)) (m3 4)
    have b2 := and_le_r (tm (pcA x) / 4) (m3 4)
    have b3 : m3 4 = 858993459 := rfl
    omega
  have hC : tm (pcC (pcB (pcA x))) = sC 4 (tm (pcB (pcA x))) := by
    generalize pcB (pcA x) = y at hle
    unfold pcC sC
    have e1 : tm (us32 y 4) = tm y / 16 := tm_us y (by omega)
    rw [tm_and, tm_add _ _ (by rw [e1]; omega), e1]
    rfl
  rw [hC, hB, hA]
  rfl
theorem stb4 {y z p m : Nat} (e : y = 256 * z + p) (h : p ≤ 8) (hz : z < 9 * m) : y < 9 * (256 * m) := by omega
theorem stm6 {y z p : Nat} (e : y = 256 * z + p) (h : p ≤ 32) : y % 64 = p := by omega
theorem c_as4 (a b c d : Nat) : a + b + (c + d) = a + (b + (c + d)) := by omega
theorem sum4 {x y1 y2 y3 p0 p1 p2 p3 : Nat} (e0 : x = 256 * y1 + p0) (e1 : y1 = 256 * y2 + p1) (e2 : y2 = 256 * y3 + p2) (e3 : y3 = 256 * 0 + p3) (a0 : p0 ≤ 8) (a1 : p1 ≤ 8) (a2 : p2 ≤ 8) (a3 : p3 ≤ 8) :
    x + x / 256 < 2 ^ 32 ∧ (x + x / 256) + (x + x / 256) / 65536 < 2 ^ 32 ∧ ((x + x / 256) + (x + x / 256) / 65536) % 64 = p0 + (p1 + (p2 + p3)) := by
  have b3 : y3 < 9 * 1 := by clear e0 e1 e2; omega
  have b2 := stb4 e2 a2 b3
  have b1 := stb4 e1 a1 b2
  have b0 := stb4 e0 a0 b1
  have z0 : (0 : Nat) = 256 * 0 + 0 := rfl
  have q0 := st1 e0 a0
  have w0 := stw e0 e1
  have w1 := stw e1 e2
  have w2 := stw e2 e3
  have r0 := st2 w0 w1 (Nat.add_le_add a0 a1) (Nat.add_le_add a1 a2)
  have v0 := stv w0 w2
  have l0 : x + y1 < 2 ^ 32 ∧ (x + y1) + (y2 + y3) < 2 ^ 32 := by
    clear e0 e1 e2 e3 q0 w0 w1 w2 r0 v0
    omega
  rw [q0, r0]
  refine ⟨l0.1, l0.2, ?_⟩
  have := stm6 v0 (c32 a0 a1 a2 a3)
  rw [this]
  exact c_as4 _ _ _ _
theorem pop32_cnt (x : Int32) : pop32 x = nI (cnt (fun i => (tm x).testBit i) 32) := by
  obtain ⟨z, hz, hp⟩ := pop32_S x
  rw [hp]
  clear hp
  have e : cnt (fun i => (tm x).testBit i) 32 = sS 1 (tm x % 256) + (sS 1 (tm x / 256 % 256) + (sS 1 (tm x / 256 / 256 % 256) + sS 1 (tm x / 256 / 256 / 256 % 256))) := by
    rw [show 32 = 8 * (3 + 1) from rfl, cnt_8s, show 8 * 3 = 8 * (2 + 1) from rfl, cnt_8s, show 8 * 2 = 8 * (1 + 1) from rfl, cnt_8s, show 8 * 1 = 8 * (0 + 1) from rfl, cnt_8s]
    rfl
  have e7 := sS_x 0 (tm x / 256 / 256 / 256)
  rw [sS_0] at e7
  have l8 : ∀ b, sS 1 (b % 256) ≤ 8 := fun b => s8_le (Nat.mod_lt _ (by decide))
  have h := sum4 (hz.trans (sS_x 3 (tm x))) (sS_x 2 _) (sS_x 1 _) e7 (l8 _) (l8 _) (l8 _) (l8 _)
  have hm : cnt (fun i => (tm x).testBit i) 32 < 2 ^ 31 := Nat.lt_of_le_of_lt (cnt_le _ 32) (by decide)
  rw [← e] at h
  obtain ⟨h1, h2, h3⟩ := h
  have d1 : tm (pcD z) = tm z + tm z / 256 := by
    unfold pcD
    have e1 : tm (us32 z 8) = tm z / 256 := tm_us z (by decide)
    rw [tm_add _ _ (by rw [e1]; exact h1), e1]
  rw [← d1] at h2 h3
  have d2 : tm (pcE (pcD z)) = tm (pcD z) + tm (pcD z) / 65536 := by
    unfold pcE
    have e1 : tm (us32 (pcD z) 16) = tm (pcD z) / 65536 := tm_us (pcD z) (by decide)
    rw [tm_add _ _ (by rw [e1]; exact h2), e1]
  rw [← d2] at h3
  generalize pcE (pcD z) = z3 at h3
  apply Int32.toBitVec_inj.mp
  apply BitVec.eq_of_toNat_eq
  rw [Int32.toBitVec_and, BitVec.toNat_and, show (nI 63).toBitVec.toNat = 2 ^ 6 - 1 from rfl, Nat.and_two_pow_sub_one_eq_mod, nI_tn hm, ← h3]
  rfl
theorem cnt_2 (p : Nat → Bool) : ∀ n, cnt p (2 * n) = cnt (fun j => p (2 * j)) n + cnt (fun j => p (2 * j + 1)) n
  | 0 => rfl
  | n + 1 => by
    show cnt p (2 * n) + (if p (2 * n) = true then 1 else 0) + (if p (2 * n + 1) = true then 1 else 0) = cnt _ n + (if p (2 * n) = true then 1 else 0) + (cnt _ n + (if p (2 * n + 1) = true then 1 else 0))
    rw [cnt_2 p n]
    omega
theorem sm_cnt (f : Nat → Int32) (a : Nat) (p : Nat → Bool) : ∀ n, (∀ k, k < n → f (a + k) = if p k = true then nI 1 else nI 0) → smV f a n = nI (cnt p n)
  | 0, _ => rfl
  | n + 1, h => by
    show smV f a n + f (a + n) = nI (cnt p n + (if p n = true then 1 else 0))
    rw [sm_cnt f a p n (fun k hk => h k (by omega)), h n (by omega)]
    split
    · rw [nI_s]
    · show nI _ + nI 0 = nI (_ + 0)
      rw [nI_add]
theorem pop_sh {x : Int64} (hz : ∀ d, 50 ≤ d → d < 64 → bJ x d = nI 0) : pop64 x = nI (cnt (fun i => (tn x).testBit i) 50) := by
  rw [pop64_cnt, show 64 = 50 + 14 from rfl, cnt_ext (fun k hk => ?_)]
  by_cases h : k < 64
  · have := hz k hk h
    rw [bJ_eq _ h] at this
    cases hb : x.toBitVec.getLsbD k with
    | false => exact hb
    | true => rw [hb, if_pos rfl] at this; exact absurd this (by decide)
  · exact Nat.testBit_lt_two_pow (Nat.lt_of_lt_of_le (tn_lt x) (Nat.pow_le_pow_right (by decide) (by omega)))
theorem pop_i {x : Int32} (hz : ∀ d, 25 ≤ d → d < 32 → bI x d = nI 0) : pop32 x = nI (cnt (fun i => (tm x).testBit i) 25) := by
  rw [pop32_cnt, show 32 = 25 + 7 from rfl, cnt_ext (fun k hk => ?_)]
  by_cases h : k < 32
  · have := hz k hk h
    rw [bI_eq _ h] at this
    cases hb : x.toBitVec.getLsbD k with
    | false => exact hb
    | true => rw [hb, if_pos rfl] at this; exact absurd this (by decide)
  · exact Nat.testBit_lt_two_pow (Nat.lt_of_lt_of_le (tm_lt x) (Nat.pow_le_pow_right (by decide) (by omega)))
def sp_X4_count : SP := spF d_C_I (fun _ hp => RX hp) (fun x hp v hq => PO (F_count x) hp v hq)
def E_X4_count : EN := [(285, true, 1, sp_J13_bitCount_95d88), (209, true, 1, sp_J6_bitCount_0f7a4), (63, false, 2, sp_X4_tell)]
set_option maxRecDepth 100000 in
set_option maxHeartbeats 4000000 in
theorem c_X4_count : Ctr M_X4_count sp_X4_count := by
  refine ctr_of (own := RX4) M_X4_count sp_X4_count (P := P_X4_count) (K := K_X4) (E := E_X4_count) (by decide) rfl pk_X4_count K_X4_ok (List.forall_mem_cons.mpr ⟨sc_J13_bitCount_95d88 gw_798 (by decide) (by decide), List.forall_mem_cons.mpr ⟨sc_J6_bitCount_0f7a4 gw_544 (by decide) (by decide), List.forall_mem_cons.mpr ⟨sc_X4_tell gw_298 (by decide) (by decide), fun _ h => absurd h List.not_mem_nil⟩⟩⟩) (fun as hp Q h => by obtain ⟨x, hx, -⟩ := spF_e h; rw [d_C_I_e hx]; exact Nat.le_of_ble_eq_true rfl) ?_
  intro Q G hQi hG as hp h
  obtain ⟨x, hx, hpre, hQ⟩ := spF_e h
  rw [d_C_I_e hx]
  clear h hx
  obtain ⟨m0, h0⟩ := hpre
  have hz := h0.1.2.2
  have tI : ∀ j : Nat, j < 8 → x.toInt = (j : Int) → x = nI j := fun j hj h => eq_toInt (by omega) h
  have ne : ∀ j : Nat, j < 8 → x.toInt ≠ (j : Int) → ¬ x = nI j := fun j hj h => ne_toInt (by omega) h
  unfold F_count at hQ
  refine run hG [] 60 ?_
  refine And.intro (fun hz => ?_) (And.intro (fun hz => ?_) (And.intro (fun hz => ?_) (And.intro (fun hz => ?_) (And.intro (fun hz => ?_) (And.intro (fun hz => ?_) (And.intro (fun hz => ?_) (fun hz => ?_)))))))
  · have e := tI 0 (by omega) hz
    subst e
    exact at_v hQ (fun mp h => by rw [if_pos rfl, h.lo (by omega), rw_6])
  · have e := tI 1 (by omega) hz
    subst e
    refine And.intro trivial ?_
    refine at_v hQ (fun mp h => ?_)
    rw [if_neg (by decide), if_pos rfl, sm_cnt (mp.1 53) 94 (fun j => (tn (hp.2 1 0)).testBit (2 * j)) 25 (fun k hk => ?_), sm_cnt (mp.1 53) 119 (fun j => (tn (hp.2 1 0)).testBit (2 * j + 1)) 25 (fun k hk => ?_), pop_sh (h0.1.2.2).1, show 50 = 2 * 25 from rfl, cnt_2, nI_add]
    · rw [h.lo (by omega), rw_d2 hp 1 hk, bJ_eq _ (by omega)]
      rfl
    · rw [h.lo (by omega), rw_d1 hp 1 hk, bJ_eq _ (by omega)]
      rfl
  · have e := tI 2 (by omega) hz
    subst e
    refine And.intro trivial ?_
    refine at_v hQ (fun mp h => ?_)
    rw [if_neg (by decide), if_neg (by decide), if_pos rfl, sm_cnt (mp.1 53) 44 (fun j => (tm (hp.1 1 2)).testBit j) 25 (fun k hk => ?_), pop_i (fun d a b => ((h0.1.2.2).2 d a b).1)]
    rw [h.lo (by omega), rw_lm hp 1 hk, bI_eq _ (by omega)]
    rfl
  · have e := tI 3 (by omega) hz
    subst e
    refine And.intro trivial ?_
    refine at_v hQ (fun mp h => ?_)
    rw [if_neg (by decide), if_neg (by decide), if_neg (by decide), if_pos rfl, sm_cnt (mp.1 53) 69 (fun j => (tm (hp.1 1 3)).testBit j) 25 (fun k hk => ?_), pop_i (fun d a b => ((h0.1.2.2).2 d a b).2)]
    rw [h.lo (by omega), rw_rv hp 1 hk, bI_eq _ (by omega)]
    rfl
  · have e := tI 4 (by omega) hz
    subst e
    exact at_v hQ (fun mp h => by rw [if_neg (by decide), if_neg (by decide), if_neg (by decide), if_neg (by decide), if_pos rfl, h.lo (by omega), rw_5])
  · have e := tI 5 (by omega) hz
    subst e
    refine at_v hQ (fun mp h => ?_)
    obtain ⟨T, hT, t1, t2, -⟩ := h.2.2.2.1
    rw [if_neg (by decide), if_neg (by decide), if_neg (by decide), if_neg (by decide), if_neg (by decide), if_pos rfl, t1, ← t2]
  · have e := tI 6 (by omega) hz
    subst e
    exact at_v hQ (fun mp h => by rw [if_neg (by decide), if_neg (by decide), if_neg (by decide), if_neg (by decide), if_neg (by decide), if_neg (by decide), if_pos rfl, h.lo (by omega), rw_1])
  · exact at_no hQ 0 (by omega) (by decide) (qc_r hp) (fun mp h => ⟨mp, qm_r mp, by rw [if_neg (ne 0 (by omega) (by omega)), if_neg (ne 1 (by omega) (by omega)), if_neg (ne 2 (by omega) (by omega)), if_neg (ne 3 (by omega) (by omega)), if_neg (ne 4 (by omega) (by omega)), if_neg (ne 5 (by omega) (by omega)), if_neg (ne 6 (by omega) (by omega))]⟩)
theorem sc_X4_count {own : String} {F L idx : Nat} (h1 : Cond.methodLink own idx yX4_count ∈ Gw) (hF : 3 ≤ F) (hL : 65 ≤ L) : SC own F L (idx, false, 2, sp_X4_count) := SC_V spF_mono c_X4_count okd_0 (fun as hp K h => by obtain ⟨x, hx, -⟩ := spF_e h; exact ⟨_, _, d_C_I_e hx⟩) h1 gw_795 gw_796 gw_69 gw_797 (by decide +kernel) hF hL
