/-! how many bits: the sums of the JDK's bitCount are sums of bytes -/
def m5 : Nat → Nat
  | 0 => 0
  | n + 1 => 256 * m5 n + 85
def m3 : Nat → Nat
  | 0 => 0
  | n + 1 => 256 * m3 n + 51
def mF : Nat → Nat
  | 0 => 0
  | n + 1 => 256 * mF n + 15
theorem land8 (a d : Nat) {c e : Nat} (hc : c < 256) (he : e < 256) : (256 * a + c) &&& (256 * d + e) = 256 * (a &&& d) + (c &&& e) := by
  apply Nat.eq_of_testBit_eq
  intro i
  have h8 : (256 : Nat) = 2 ^ 8 := rfl
  have hce : c &&& e < 2 ^ 8 := Nat.and_lt_two_pow c he
  rw [Nat.testBit_and, h8, Nat.testBit_two_pow_mul_add a hc, Nat.testBit_two_pow_mul_add d he, Nat.testBit_two_pow_mul_add (a &&& d) hce, Nat.testBit_and, Nat.testBit_and]
  split <;> rfl
def sA (n x : Nat) : Nat := x - (x / 2 &&& m5 n)
def sB (n x : Nat) : Nat := (x &&& m3 n) + (x / 4 &&& m3 n)
def sC (n x : Nat) : Nat := (x + x / 16) &&& mF n
theorem bA : ∀ r, r < 2 → ∀ b, b < 256 → (128 * r + b / 2) &&& 85 = (b / 2 &&& 85) := by decide +kernel
theorem bB4 : ∀ r, r < 4 → ∀ b, b < 256 → (64 * r + b / 4) &&& 51 = (b / 4 &&& 51) := by decide +kernel
theorem bS : ∀ b, b < 256 → sA 1 b < 256 ∧ sB 1 (sA 1 b) ≤ 68 ∧ sB 1 (sA 1 b) % 16 ≤ 4 := by decide +kernel
theorem sA_s (n y : Nat) {b : Nat} (hb : b < 256) : sA (n + 1) (256 * y + b) = 256 * sA n y + sA 1 b := by
  unfold sA
  have e : (256 * y + b) / 2 = 256 * (y / 2) + (128 * (y % 2) + b / 2) := by omega
  rw [show m5 (n + 1) = 256 * m5 n + 85 from rfl, show m5 1 = 85 from rfl, e, land8 _ _ (by omega) (by omega), bA _ (Nat.mod_lt _ (by omega)) b hb]
  have h1 : (y / 2 &&& m5 n) ≤ y / 2 := Nat.and_le_left
  have h2 : (b / 2 &&& 85) ≤ b / 2 := Nat.and_le_left
  omega
theorem sB_s (n y : Nat) {b : Nat} (hb : b < 256) : sB (n + 1) (256 * y + b) = 256 * sB n y + sB 1 b := by
  unfold sB
  have e : (256 * y + b) / 4 = 256 * (y / 4) + (64 * (y % 4) + b / 4) := by omega
  rw [show m3 (n + 1) = 256 * m3 n + 51 from rfl, show m3 1 = 51 from rfl, e, land8 _ _ hb (by omega), land8 _ _ (by omega) (by omega), bB4 _ (Nat.mod_lt _ (by omega)) b hb]
  omega
theorem and15 (c : Nat) : c &&& 15 = c % 16 := Nat.and_two_pow_sub_one_eq_mod c 4
theorem sC_s (n y : Nat) {b : Nat} (hb : b ≤ 68) (hy : y % 16 ≤ 4) : sC (n + 1) (256 * y + b) = 256 * sC n y + sC 1 b := by
  unfold sC
  have e : 256 * y + b + (256 * y + b) / 16 = 256 * (y + y / 16) + (b + b / 16 + 16 * (y % 16)) := by omega
  rw [show mF (n + 1) = 256 * mF n + 15 from rfl, show mF 1 = 15 from rfl, e, land8 _ _ (by omega) (by omega), and15, and15]
  omega
theorem sB_lo : ∀ n x, sB n (sA n x) % 16 ≤ 4
  | 0, x => by
    have : sB 0 (sA 0 x) = 0 := by
      show ((sA 0 x) &&& 0) + ((sA 0 x) / 4 &&& 0) = 0
      rw [Nat.and_zero, Nat.and_zero]
    rw [this]
    omega
  | n + 1, x => by
    have hb : x % 256 < 256 := Nat.mod_lt _ (by omega)
    have h := bS _ hb
    rw [show x = 256 * (x / 256) + x % 256 by omega, sA_s _ _ hb, sB_s _ _ h.1]
    omega
def sS (n x : Nat) : Nat := sC n (sB n (sA n x))
theorem sS_s (n y : Nat) {b : Nat} (hb : b < 256) : sS (n + 1) (256 * y + b) = 256 * sS n y + sS 1 b := by
  have h := bS b hb
  unfold sS
  rw [sA_s _ _ hb, sB_s _ _ h.1, sC_s _ _ h.2.1 (sB_lo n y)]
theorem pop8 : ∀ b, b < 256 → sS 1 b = cnt (fun i => b.testBit i) 8 := by decide +kernel
theorem cnt_add (p : Nat → Bool) (a : Nat) : ∀ b, cnt p (a + b) = cnt p a + cnt (fun j => p (a + j)) b
  | 0 => rfl
  | b + 1 => by
    show cnt p (a + b) + (if p (a + b) = true then 1 else 0) = cnt p a + (cnt (fun j => p (a + j)) b + (if p (a + b) = true then 1 else 0))
    rw [cnt_add p a b]
    omega
theorem cnt_b (x : Nat) : cnt (fun i => x.testBit i) 8 = sS 1 (x % 256) := by
  rw [pop8 _ (Nat.mod_lt _ (by omega))]
  refine cnt_cg _ (fun k hk => ?_)
  rw [show (256 : Nat) = 2 ^ 8 from rfl, Nat.testBit_mod_two_pow, decide_eq_true hk, Bool.true_and]
theorem tb_256 (x i : Nat) : x.testBit (8 + i) = (x / 256).testBit i := by
  rw [show (256 : Nat) = 2 ^ 8 from rfl, Nat.testBit_div_two_pow, Nat.add_comm]
theorem cnt_8s (x n : Nat) : cnt (fun i => x.testBit i) (8 * (n + 1)) = sS 1 (x % 256) + cnt (fun i => (x / 256).testBit i) (8 * n) := by
  rw [show 8 * (n + 1) = 8 + 8 * n by omega, cnt_add, cnt_b]
  congr 1
  exact cnt_cg _ (fun k _ => tb_256 x k)
theorem s8_le {b : Nat} (h : b < 256) : sS 1 b ≤ 8 := by
  rw [pop8 b h]
  exact cnt_le _ 8
theorem sS_0 (x : Nat) : sS 0 x = 0 := Nat.and_zero _
theorem sS_x (n x : Nat) : sS (n + 1) x = 256 * sS n (x / 256) + sS 1 (x % 256) := by
  have := sS_s n (x / 256) (b := x % 256) (Nat.mod_lt _ (by omega))
  rw [show 256 * (x / 256) + x % 256 = x by omega] at this
  exact this
