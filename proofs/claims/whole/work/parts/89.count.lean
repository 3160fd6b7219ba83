def tn (x : Int64) : Nat := x.toBitVec.toNat
theorem tn_lt (x : Int64) : tn x < 2 ^ 64 := x.toBitVec.isLt
theorem tn_us (x : Int64) {k : Nat} (h : k < 64) : tn (us64 x k) = tn x / 2 ^ k := by
  unfold tn us64
  rw [us_bv x h, BitVec.toNat_ushiftRight, Nat.shiftRight_eq_div_pow]
theorem tn_and (x y : Int64) : tn (x &&& y) = tn x &&& tn y := by
  unfold tn
  rw [Int64.toBitVec_and, BitVec.toNat_and]
theorem tn_sub (x y : Int64) (h : tn y ≤ tn x) : tn (x - y) = tn x - tn y := by
  have h1 := tn_lt x
  have h2 := tn_lt y
  unfold tn at *
  rw [Int64.toBitVec_sub, BitVec.toNat_sub]
  omega
theorem tn_add (x y : Int64) (h : tn x + tn y < 2 ^ 64) : tn (x + y) = tn x + tn y := by
  unfold tn at *
  rw [Int64.toBitVec_add, BitVec.toNat_add]
  omega
theorem and_le_r (a b : Nat) : a &&& b ≤ b := Nat.and_le_right
theorem and_le_l (a b : Nat) : a &&& b ≤ a := Nat.and_le_left
theorem pop64_S (x : Int64) : ∃ z, tn z = sS 8 (tn x) ∧ pop64 x = (pdD (pdD (pdD z 8) 16) 32).toInt32 &&& nI 127 := by
  refine ⟨pdC (pdB (pdA x)), ?_, rfl⟩
  have hA : tn (pdA x) = sA 8 (tn x) := by
    unfold pdA sA
    have e : tn (us64 x 1 &&& 6148914691236517205) = (tn x / 2 &&& m5 8) := by
      rw [tn_and, tn_us x (by omega)]
      rfl
    rw [tn_sub _ _ (by rw [e]; have := and_le_l (tn x / 2) (m5 8); omega), e]
  have hB : tn (pdB (pdA x)) = sB 8 (tn (pdA x)) := by
    generalize pdA x = y
    unfold pdB sB
    have e1 : tn (y &&& 3689348814741910323) = (tn y &&& m3 8) := by rw [tn_and]; rfl
    have e2 : tn (us64 y 2 &&& 3689348814741910323) = (tn y / 4 &&& m3 8) := by
      rw [tn_and, tn_us y (by omega)]
      rfl
    have b1 := and_le_r (tn y) (m3 8)
    have b2 := and_le_r (tn y / 4) (m3 8)
    have b3 : m3 8 = 3689348814741910323 := rfl
    rw [tn_add _ _ (by rw [e1, e2]; omega), e1, e2]
  have hle : tn (pdB (pdA x)) ≤ 2 * 3689348814741910323 := by
    rw [hB]
    unfold sB
    have b1 := and_le_r (tn (pdA x)) (m3 8)
    have b2 := and_le_r (tn (pdA x) / 4) (m3 8)
    have b3 : m3 8 = 3689348814741910323 := rfl
    omega
  have hC : tn (pdC (pdB (pdA x))) = sC 8 (tn (pdB (pdA x))) := by
    generalize pdB (pdA x) = y at hle
    unfold pdC sC
    have e1 : tn (us64 y 4) = tn y / 16 := tn_us y (by omega)
    rw [tn_and, tn_add _ _ (by rw [e1]; omega), e1]
    rfl
  rw [hC, hB, hA]
  rfl
theorem st1 {y z p : Nat} (e : y = 256 * z + p) (h : p ≤ 8) : y / 256 = z := by omega
theorem stw {y z u p q : Nat} (e : y = 256 * z + p) (f : z = 256 * u + q) : y + z = 256 * (z + u) + (p + q) := by omega
theorem st2 {y z u p q : Nat} (e : y = 256 * z + p) (f : z = 256 * u + q) (hp : p ≤ 16) (hq : q ≤ 16) : y / 65536 = u := by omega
theorem stv {y z u v p q : Nat} (e : y = 256 * z + p) (f : u = 256 * v + q) : y + u = 256 * (z + v) + (p + q) := by omega
theorem st4 {y z : Nat} {p : Nat} (e : y = 4294967296 * z + p) (h : p < 4294967296) : y / 4294967296 = z := by omega
theorem st8 {a b c d e p q r s : Nat} (h1 : a = 256 * b + p) (h2 : b = 256 * c + q) (h3 : c = 256 * d + r) (h4 : d = 256 * e + s) (a1 : p ≤ 32) (a2 : q ≤ 32) (a3 : r ≤ 32) (a4 : s ≤ 32) : a / 4294967296 = e := by omega
theorem stm {y z p : Nat} (e : y = 256 * z + p) (h : p ≤ 64) : y % 128 = p := by omega
theorem stb {y z p m : Nat} (e : y = 256 * z + p) (h : p ≤ 8) (hz : z < 9 * m) : y < 9 * (256 * m) := by omega
theorem c32 {a b c d : Nat} (h1 : a ≤ 8) (h2 : b ≤ 8) (h3 : c ≤ 8) (h4 : d ≤ 8) : a + b + (c + d) ≤ 32 := by omega
theorem c64 {a b : Nat} (h1 : a ≤ 32) (h2 : b ≤ 32) : a + b ≤ 64 := by omega
theorem c_as (a b c d e f g h : Nat) : a + b + (c + d) + (e + f + (g + h)) = a + (b + (c + (d + (e + (f + (g + h)))))) := by omega
theorem m128 (x : Nat) : x % 2 ^ 32 % 2 ^ 7 = x % 128 := by omega
/-- the sum of eight bytes -/
theorem sum8 {x y1 y2 y3 y4 y5 y6 y7 p0 p1 p2 p3 p4 p5 p6 p7 : Nat} (e0 : x = 256 * y1 + p0) (e1 : y1 = 256 * y2 + p1) (e2 : y2 = 256 * y3 + p2) (e3 : y3 = 256 * y4 + p3) (e4 : y4 = 256 * y5 + p4) (e5 : y5 = 256 * y6 + p5) (e6 : y6 = 256 * y7 + p6) (e7 : y7 = 256 * 0 + p7) (a0 : p0 ≤ 8) (a1 : p1 ≤ 8) (a2 : p2 ≤ 8) (a3 : p3 ≤ 8) (a4 : p4 ≤ 8) (a5 : p5 ≤ 8) (a6 : p6 ≤ 8) (a7 : p7 ≤ 8) :
    x + x / 256 < 2 ^ 64 ∧ (x + x / 256) + (x + x / 256) / 65536 < 2 ^ 64 ∧ ((x + x / 256) + (x + x / 256) / 65536) + ((x + x / 256) + (x + x / 256) / 65536) / 4294967296 < 2 ^ 64 ∧ (((x + x / 256) + (x + x / 256) / 65536) + ((x + x / 256) + (x + x / 256) / 65536) / 4294967296) % 128 = p0 + (p1 + (p2 + (p3 + (p4 + (p5 + (p6 + p7)))))) := by
  have b7 : y7 < 9 * 1 := by clear e0 e1 e2 e3 e4 e5 e6; omega
  have b6 := stb e6 a6 b7
  have b5 := stb e5 a5 b6
  have b4 := stb e4 a4 b5
  have b3 := stb e3 a3 b4
  have b2 := stb e2 a2 b3
  have b1 := stb e1 a1 b2
  have b0 := stb e0 a0 b1
  have z0 : (0 : Nat) = 256 * 0 + 0 := rfl
  have q0 := st1 e0 a0
  have w0 := stw e0 e1
  have w1 := stw e1 e2
  have w2 := stw e2 e3
  have w3 := stw e3 e4
  have w4 := stw e4 e5
  have w5 := stw e5 e6
  have w6 := stw e6 e7
  have w7 := stw e7 z0
  have r0 := st2 w0 w1 (Nat.add_le_add a0 a1) (Nat.add_le_add a1 a2)
  have v0 := stv w0 w2
  have v1 := stv w1 w3
  have v2 := stv w2 w4
  have v3 := stv w3 w5
  have v4 := stv w4 w6
  have v5 := stv w5 w7
  have t0 := st8 v0 v1 v2 v3 (c32 a0 a1 a2 a3) (c32 a1 a2 a3 a4) (c32 a2 a3 a4 a5) (c32 a3 a4 a5 a6)
  have u0 := stv v0 v4
  have l0 : x + y1 < 2 ^ 64 ∧ (x + y1) + (y2 + y3) < 2 ^ 64 ∧ (x + y1 + (y2 + y3)) + (y4 + y5 + (y6 + y7)) < 2 ^ 64 := by
    clear e0 e1 e2 e3 e4 e5 e6 e7 q0 w0 w1 w2 w3 w4 w5 w6 w7 r0 v0 v1 v2 v3 v4 v5 t0 u0
    omega
  rw [q0, r0, t0]
  refine ⟨l0.1, l0.2.1, l0.2.2, ?_⟩
  have := stm u0 (c64 (c32 a0 a1 a2 a3) (c32 a4 a5 a6 a7))
  rw [this]
  exact c_as _ _ _ _ _ _ _ _
theorem nI_tn {m : Nat} (h : m < 2 ^ 31) : (nI m).toBitVec.toNat = m := by
  have h1 := nI_toInt h
  have h2 : (nI m).toBitVec.toInt = _ := h1
  rw [BitVec.toInt_eq_toNat_cond] at h2
  split at h2 <;> omega
theorem tn_D (z : Int64) {k K : Nat} (hk : k < 64) (hK : 2 ^ k = K) (h : tn z + tn z / K < 2 ^ 64) : tn (pdD z k) = tn z + tn z / K := by
  unfold pdD
  have e1 : tn (us64 z k) = tn z / K := by rw [tn_us z hk, hK]
  rw [tn_add _ _ (by rw [e1]; exact h), e1]
theorem pop64_end {z : Int64} {m : Nat} (hm : m < 2 ^ 31) (h1 : tn z + tn z / 256 < 2 ^ 64) (h2 : (tn z + tn z / 256) + (tn z + tn z / 256) / 65536 < 2 ^ 64) (h3 : ((tn z + tn z / 256) + (tn z + tn z / 256) / 65536) + ((tn z + tn z / 256) + (tn z + tn z / 256) / 65536) / 4294967296 < 2 ^ 64) (h4 : (((tn z + tn z / 256) + (tn z + tn z / 256) / 65536) + ((tn z + tn z / 256) + (tn z + tn z / 256) / 65536) / 4294967296) % 128 = m) : (pdD (pdD (pdD z 8) 16) 32).toInt32 &&& nI 127 = nI m := by
  have d1 : tn (pdD z 8) = tn z + tn z / 256 := tn_D z (by decide) rfl h1
  rw [← d1] at h2 h3 h4
  have d2 : tn (pdD (pdD z 8) 16) = tn (pdD z 8) + tn (pdD z 8) / 65536 := tn_D _ (by decide) rfl h2
  rw [← d2] at h3 h4
  have d3 : tn (pdD (pdD (pdD z 8) 16) 32) = tn (pdD (pdD z 8) 16) + tn (pdD (pdD z 8) 16) / 4294967296 := tn_D _ (by decide) rfl h3
  rw [← d3] at h4
  generalize pdD (pdD (pdD z 8) 16) 32 = z3 at h4
  apply Int32.toBitVec_inj.mp
  apply BitVec.eq_of_toNat_eq
  rw [Int32.toBitVec_and, BitVec.toNat_and]
  have e4 : z3.toInt32.toBitVec.toNat = tn z3 % 2 ^ 32 := by
    rw [Int64.toBitVec_toInt32, BitVec.signExtend_eq_setWidth_of_le _ (by decide), BitVec.toNat_setWidth]
    rfl
  rw [e4, show (nI 127).toBitVec.toNat = 2 ^ 7 - 1 from rfl, Nat.and_two_pow_sub_one_eq_mod, nI_tn hm, ← h4]
  exact m128 _
theorem pop64_cnt (x : Int64) : pop64 x = nI (cnt (fun i => (tn x).testBit i) 64) := by
  obtain ⟨z, hz, hp⟩ := pop64_S x
  rw [hp]
  clear hp
  have e : cnt (fun i => (tn x).testBit i) 64 = sS 1 (tn x % 256) + (sS 1 (tn x / 256 % 256) + (sS 1 (tn x / 256 / 256 % 256) + (sS 1 (tn x / 256 / 256 / 256 % 256) + (sS 1 (tn x / 256 / 256 / 256 / 256 % 256) + (sS 1 (tn x / 256 / 256 / 256 / 256 / 256 % 256) + (sS 1 (tn x / 256 / 256 / 256 / 256 / 256 / 256 % 256) + sS 1 (tn x / 256 / 256 / 256 / 256 / 256 / 256 / 256 % 256))))))) := by
    rw [show 64 = 8 * (7 + 1) from rfl, cnt_8s, show 8 * 7 = 8 * (6 + 1) from rfl, cnt_8s, show 8 * 6 = 8 * (5 + 1) from rfl, cnt_8s, show 8 * 5 = 8 * (4 + 1) from rfl, cnt_8s, show 8 * 4 = 8 * (3 + 1) from rfl, cnt_8s, show 8 * 3 = 8 * (2 + 1) from rfl, cnt_8s, show 8 * 2 = 8 * (1 + 1) from rfl, cnt_8s, show 8 * 1 = 8 * (0 + 1) from rfl, cnt_8s]
    rfl
  have e7 := sS_x 0 (tn x / 256 / 256 / 256 / 256 / 256 / 256 / 256)
  rw [sS_0] at e7
  have l8 : ∀ b, sS 1 (b % 256) ≤ 8 := fun b => s8_le (Nat.mod_lt _ (by decide))
  have h := sum8 (hz.trans (sS_x 7 (tn x))) (sS_x 6 _) (sS_x 5 _) (sS_x 4 _) (sS_x 3 _) (sS_x 2 _) (sS_x 1 _) e7 (l8 _) (l8 _) (l8 _) (l8 _) (l8 _) (l8 _) (l8 _) (l8 _)
  rw [e]
  refine pop64_end ?_ h.1 h.2.1 h.2.2.1 h.2.2.2
  have := cnt_le (fun i => (tn x).testBit i) 64
  rw [e] at this
  exact Nat.lt_of_le_of_lt this (by decide)
