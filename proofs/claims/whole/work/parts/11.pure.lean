/-! plain functions of the ward, over the reference's row -/
def bB (b : Bool) : Int32 := if b then 1 else 0
def inB (x : Int32) (n : Nat) : Bool := decide (¬ (x < 0 ∨ n ≤ x.toNatClampNeg))
theorem inB_t {x : Int32} {n : Nat} : inB x n = true ↔ vp_in x n := decide_eq_true_iff
theorem inB_f {x : Int32} {n : Nat} : inB x n = false ↔ ¬ vp_in x n := by unfold inB vp_in; exact decide_eq_false_iff_not
theorem bB_0 {b : Bool} : bB b = 0 ↔ b = false := by cases b <;> decide
theorem bB_1 {b : Bool} : ¬ bB b = 0 ↔ b = true := by cases b <;> decide
theorem bB_01 (b : Bool) : bB b = 0 ∨ bB b = 1 := by cases b <;> decide
theorem nI_lt31 {n N : Nat} (h : n < N) (hN : N < 2 ^ 31) : n < 2 ^ 31 := Nat.lt_trans h hN
theorem in_iff {v : Int32} {n : Nat} (hn : n + 1 < 2 ^ 31) : (nI 0 ≤ v ∧ v ≤ nI n) ↔ vp_in v (n + 1) := by
  rw [vp_in_iff, Int32.le_iff_toInt_le, Int32.le_iff_toInt_le, nI_toInt (by omega), nI_toInt (by omega)]
  omega
theorem in_b {v : Int32} {n : Nat} (hn : n + 1 < 2 ^ 31) : (decide (nI 0 ≤ v) && decide (v ≤ nI n)) = inB v (n + 1) := by
  rw [Bool.eq_iff_iff, inB_t, ← in_iff hn, Bool.and_eq_true, decide_eq_true_iff, decide_eq_true_iff]
theorem q_i {Q : QP} {x y : Int32} {hp : HP} (h : Q (some (vI x)) hp) (e : y = x) : Q (some (vI y)) hp := e ▸ h
theorem q_l {Q : QP} {x y : Int64} {hp : HP} (h : Q (some (vL x)) hp) (e : y = x) : Q (some (vL y)) hp := e ▸ h
theorem q_b {Q : QP} {b : Bool} {y : Int32} {hp : HP} (h : Q (some (vI (bB b))) hp) (e : y = bB b) : (y = 0 ∨ y = 1) ∧ Q (some (vI y)) hp := by
  subst e
  exact ⟨bB_01 b, h⟩
theorem q_ih {Q : QP} {x y : Int32} {hp hq : HP} (h : Q (some (vI x)) hp) (e : y = x) (e2 : hq = hp) : Q (some (vI y)) hq := by
  subst e e2
  exact h
theorem q_n {Q : QP} {hp hq : HP} (h : Q none hp) (e2 : hq = hp) : Q none hq := e2 ▸ h
theorem nI_ix {n : Nat} (h : n < 2 ^ 31) : (nI n).toNatClampNeg = n := nI_clamp h
/-- the square in a way (99: none), and where its door stands in the row -/
def bsd (q w : Nat) : Nat := match w with
  | 0 => if 5 ≤ q then q - 5 else 99
  | 1 => if q % 5 = 4 then 99 else q + 1
  | 2 => if 19 < q then 99 else q + 5
  | _ => if q % 5 = 0 then 99 else q - 1
def bsV (q w : Nat) : Int32 := if bsd q w = 99 then (if w = 0 then nI q - nI 5 else -1) else nI (bsd q w)
def dr (q w : Nat) : Nat := match w with
  | 0 => 119 + q - 5
  | 1 => 94 + q
  | 2 => 119 + q
  | _ => 94 + q - 1
def mayB (f : Nat → Int32) (q w : Nat) : Bool := !(bsd q w == 99) && decide (f (dr q w) = 0)
def wyt (a b : Nat) : Nat := if bsd a 3 = b then 3 else if bsd a 2 = b then 2 else if bsd a 1 = b then 1 else if bsd a 0 = b then 0 else 4
def wyV (a b : Nat) : Int32 := if wyt a b = 4 then -1 else nI (wyt a b)
theorem bsd_lt : ∀ q, q < 25 → ∀ w, w < 4 → bsd q w = 99 ∨ bsd q w < 25 := by decide +kernel
theorem bsV_neg : ∀ q, q < 25 → ∀ w, w < 4 → (bsV q w < 0 ↔ bsd q w = 99) := by decide +kernel
theorem dr_lt {q w : Nat} (hq : q < 25) : dr q w < 184 := by
  unfold dr
  split <;> omega
theorem rI_rI (hp : HP) (c : Nat) (f g : Nat → Int32) : rI (rI hp c f) c g = rI hp c g := by
  refine Prod.ext ?_ rfl
  funext d
  by_cases h : d = c
  · subst h; rw [rI_eq, rI_eq]
  · rw [rI_ne _ _ h, rI_ne _ _ h, rI_ne _ _ h]
theorem rI_self (hp : HP) (c : Nat) : rI hp c (hp.1 c) = hp := by
  refine Prod.ext ?_ rfl
  funext d
  by_cases h : d = c
  · subst h; rw [rI_eq]
  · rw [rI_ne _ _ h]
theorem rL_rL (hp : HP) (c : Nat) (f g : Nat → Int64) : rL (rL hp c f) c g = rL hp c g := by
  refine Prod.ext rfl ?_
  funext d
  by_cases h : d = c
  · subst h; rw [rL_eq, rL_eq]
  · rw [rL_ne _ _ h, rL_ne _ _ h, rL_ne _ _ h]
theorem rL_self (hp : HP) (c : Nat) : rL hp c (hp.2 c) = hp := by
  refine Prod.ext rfl ?_
  funext d
  by_cases h : d = c
  · subst h; rw [rL_eq]
  · rw [rL_ne _ _ h]
theorem rI_comm (hp : HP) {c d : Nat} (f g : Nat → Int32) (h : c ≠ d) : rI (rI hp c f) d g = rI (rI hp d g) c f := by
  refine Prod.ext ?_ rfl
  funext e
  by_cases h1 : e = d
  · subst h1
    rw [rI_eq, rI_ne _ _ (Ne.symm h), rI_eq]
  · by_cases h2 : e = c
    · subst h2
      rw [rI_ne _ _ h1, rI_eq, rI_eq]
    · rw [rI_ne _ _ h1, rI_ne _ _ h2, rI_ne _ _ h2, rI_ne _ _ h1]
theorem uI_r (hp : HP) (c k : Nat) (v : Int32) : uI hp c k v = rI hp c (upd (hp.1 c) k v) := rfl
theorem uI_rI (hp : HP) (c k : Nat) (f : Nat → Int32) (v : Int32) : uI (rI hp c f) c k v = rI hp c (upd f k v) := by rw [uI_r, rI_eq, rI_rI]
theorem upd_at (f : Nat → Int32) (k : Nat) (v : Int32) (j : Nat) : upd f k v j = if j = k then v else f j := rfl
theorem upL_at (f : Nat → Int64) (k : Nat) (v : Int64) (j : Nat) : vp_updL f k v j = if j = k then v else f j := rfl
theorem for_up {P : Nat → Prop} (N : Nat) (hx : P N) (hs : ∀ k, k < N → P (k + 1) → P k) : ∀ k, k ≤ N → P k := by
  have h : ∀ n k, k + n = N → P k := by
    intro n
    induction n with
    | zero => intro k hk; rw [show k = N by omega]; exact hx
    | succ n ih => intro k hk; exact hs k (by omega) (ih (k + 1) (by omega))
  exact fun k hk => h (N - k) k (by omega)
def fold (g : Nat → Int32 → Int32) (z : Int32) : Nat → Int32
  | 0 => z
  | n + 1 => g n (fold g z n)
/-- the first that a function tells, from k on, of n -/
def ff (v : Nat → Option Int32) (d : Int32) : Nat → Nat → Int32
  | 0, _ => d
  | n + 1, k => match v k with
    | some r => r
    | none => ff v d n (k + 1)
theorem ff_s {v : Nat → Option Int32} {d : Int32} {n k : Nat} {r : Int32} (h : v k = some r) : ff v d (n + 1) k = r := by
  unfold ff; rw [h]
theorem ff_n {v : Nat → Option Int32} {d : Int32} {n k : Nat} (h : v k = none) : ff v d (n + 1) k = ff v d n (k + 1) := by
  show (match v k with | some r => r | none => ff v d n (k + 1)) = _
  rw [h]
theorem ff_congr {v u : Nat → Option Int32} {d : Int32} : ∀ {n k : Nat}, (∀ j, k ≤ j → j < k + n → v j = u j) → ff v d n k = ff u d n k
  | 0, _, _ => rfl
  | n + 1, k, h => by
    unfold ff
    rw [h k (Nat.le_refl k) (by omega)]
    split
    · rfl
    · exact ff_congr (fun j h1 h2 => h j (by omega) (by omega))
theorem nI_s (k : Nat) : nI k + nI 1 = nI (k + 1) := nI_add k 1
theorem nI_rem {a d : Nat} (ha : a < 2 ^ 31) (h0 : 0 < d) (hd : d < 2 ^ 31) : nI a - nI a / nI d * nI d = nI (a % d) := pk_rem ha h0 hd
theorem nI_ne {a b : Nat} (ha : a < 2 ^ 31) (hb : b < 2 ^ 31) : ¬ nI a = nI b ↔ a ≠ b := by rw [nI_eq ha hb]
def wayB (c : Nat → Bool) (way k : Nat) : Option Int32 := if c ((way + k) % 4) then some (nI ((way + k) % 4)) else none
def trnV (c : Nat → Bool) (way : Nat) : Int32 := ff (wayB c way) (-1) 4 0
