/-! a ward's cells, seen as a row -/
theorem uI_at (hp : HP) (c k : Nat) (v : Int32) (d j : Nat) : (uI hp c k v).1 d j = if d = c ∧ j = k then v else hp.1 d j := by
  by_cases h : d = c
  · subst h
    by_cases h2 : j = k
    · subst h2
      rw [uI_same, if_pos ⟨rfl, rfl⟩]
    · rw [uI_oth _ _ _ h2, if_neg (fun h => h2 h.2)]
  · rw [uI_row _ _ _ h, if_neg (fun h2 => h h2.1)]
def bI (x : Int32) (d : Nat) : Int32 := x >>> (nI d &&& 31) &&& nI 1
def sJ (x : Int64) (d : Nat) : Int64 := (x.toUInt64 >>> ((nI d).toInt64.toUInt64 &&& Int64.toUInt64 63)).toInt64 &&& lN 1
def bJ (x : Int64) (d : Nat) : Int32 := if sJ x d = lN 0 then nI 0 else nI 1
def rw_ (hp : HP) (w : Nat) : Nat → Int32 := fun k =>
  if k < 7 then hp.1 w (([5, 6, 4, 7, 10, 9, 12] : List Nat).getD k 0)
  else if k < 19 then hp.1 (w + 2) (k - 7)
  else if k < 44 then hp.1 (w + 1) (k - 19)
  else if k < 69 then bI (hp.1 w 2) (k - 44)
  else if k < 94 then bI (hp.1 w 3) (k - 69)
  else if k < 119 then bJ (hp.2 w 0) (2 * (k - 94))
  else if k < 144 then bJ (hp.2 w 0) (2 * (k - 119) + 1)
  else if k < 184 then hp.1 (w + 4 + (k - 144) / 5) ((k - 144) % 5)
  else 0
theorem rw_lo (hp : HP) (w : Nat) {k : Nat} (h : k < 7) : rw_ hp w k = hp.1 w (([5, 6, 4, 7, 10, 9, 12] : List Nat).getD k 0) := if_pos h
theorem rw_rd (hp : HP) (w : Nat) {j : Nat} (h : j < 12) : rw_ hp w (7 + j) = hp.1 (w + 2) j := by
  unfold rw_
  rw [if_neg (by omega), if_pos (by omega), show 7 + j - 7 = j by omega]
theorem rw_ht (hp : HP) (w : Nat) {j : Nat} (h : j < 25) : rw_ hp w (19 + j) = hp.1 (w + 1) j := by
  unfold rw_
  rw [if_neg (by omega), if_neg (by omega), if_pos (by omega), show 19 + j - 19 = j by omega]
theorem rw_lm (hp : HP) (w : Nat) {j : Nat} (h : j < 25) : rw_ hp w (44 + j) = bI (hp.1 w 2) j := by
  unfold rw_
  rw [if_neg (by omega), if_neg (by omega), if_neg (by omega), if_pos (by omega), show 44 + j - 44 = j by omega]
theorem rw_rv (hp : HP) (w : Nat) {j : Nat} (h : j < 25) : rw_ hp w (69 + j) = bI (hp.1 w 3) j := by
  unfold rw_
  rw [if_neg (by omega), if_neg (by omega), if_neg (by omega), if_neg (by omega), if_pos (by omega), show 69 + j - 69 = j by omega]
theorem rw_d1 (hp : HP) (w : Nat) {j : Nat} (h : j < 25) : rw_ hp w (94 + j) = bJ (hp.2 w 0) (2 * j) := by
  unfold rw_
  rw [if_neg (by omega), if_neg (by omega), if_neg (by omega), if_neg (by omega), if_neg (by omega), if_pos (by omega), show 94 + j - 94 = j by omega]
theorem rw_d2 (hp : HP) (w : Nat) {j : Nat} (h : j < 25) : rw_ hp w (119 + j) = bJ (hp.2 w 0) (2 * j + 1) := by
  unfold rw_
  rw [if_neg (by omega), if_neg (by omega), if_neg (by omega), if_neg (by omega), if_neg (by omega), if_neg (by omega), if_pos (by omega), show 119 + j - 119 = j by omega]
theorem rw_wk (hp : HP) (w : Nat) {i j : Nat} (h : i < 8) (hj : j < 5) : rw_ hp w (144 + 5 * i + j) = hp.1 (w + 4 + i) j := by
  unfold rw_
  rw [if_neg (by omega), if_neg (by omega), if_neg (by omega), if_neg (by omega), if_neg (by omega), if_neg (by omega), if_neg (by omega), if_pos (by omega), show (144 + 5 * i + j - 144) / 5 = i by omega, show (144 + 5 * i + j - 144) % 5 = j by omega]
/-- every place of the row is one of these -/
theorem rw_ext {f g : Nat → Int32} (h0 : ∀ k, k < 7 → f k = g k) (h1 : ∀ j, j < 12 → f (7 + j) = g (7 + j)) (h2 : ∀ j, j < 25 → f (19 + j) = g (19 + j)) (h3 : ∀ j, j < 25 → f (44 + j) = g (44 + j)) (h4 : ∀ j, j < 25 → f (69 + j) = g (69 + j)) (h5 : ∀ j, j < 25 → f (94 + j) = g (94 + j)) (h6 : ∀ j, j < 25 → f (119 + j) = g (119 + j)) (h7 : ∀ i j, i < 8 → j < 5 → f (144 + 5 * i + j) = g (144 + 5 * i + j)) (h8 : ∀ k, 184 ≤ k → f k = g k) : f = g := by
  funext k
  by_cases a0 : k < 7
  · exact h0 k a0
  by_cases a1 : k < 19
  · have := h1 (k - 7) (by omega); rw [show 7 + (k - 7) = k by omega] at this; exact this
  by_cases a2 : k < 44
  · have := h2 (k - 19) (by omega); rw [show 19 + (k - 19) = k by omega] at this; exact this
  by_cases a3 : k < 69
  · have := h3 (k - 44) (by omega); rw [show 44 + (k - 44) = k by omega] at this; exact this
  by_cases a4 : k < 94
  · have := h4 (k - 69) (by omega); rw [show 69 + (k - 69) = k by omega] at this; exact this
  by_cases a5 : k < 119
  · have := h5 (k - 94) (by omega); rw [show 94 + (k - 94) = k by omega] at this; exact this
  by_cases a6 : k < 144
  · have := h6 (k - 119) (by omega); rw [show 119 + (k - 119) = k by omega] at this; exact this
  by_cases a7 : k < 184
  · have := h7 ((k - 144) / 5) ((k - 144) % 5) (by omega) (by omega)
    rw [show 144 + 5 * ((k - 144) / 5) + (k - 144) % 5 = k by omega] at this
    exact this
  · exact h8 k (by omega)
theorem rw_hi (hp : HP) (w : Nat) {k : Nat} (h : 184 ≤ k) : rw_ hp w k = 0 := by
  unfold rw_
  rw [if_neg (by omega), if_neg (by omega), if_neg (by omega), if_neg (by omega), if_neg (by omega), if_neg (by omega), if_neg (by omega), if_neg (by omega)]
/-- the places of the plain fields -/
theorem rw_u0 (hp : HP) (w : Nat) {j d : Nat} (v : Int32) (hd : d < 7) (hj : ([5, 6, 4, 7, 10, 9, 12] : List Nat).getD d 0 = j) : rw_ (uI hp w j v) w = upd (rw_ hp w) d v := by
  have hj23 : j ≠ 2 ∧ j ≠ 3 := by
    rcases (show d = 0 ∨ d = 1 ∨ d = 2 ∨ d = 3 ∨ d = 4 ∨ d = 5 ∨ d = 6 by omega) with e | e | e | e | e | e | e <;> subst e <;> subst hj <;> decide
  refine rw_ext (fun k hk => ?_) (fun i hi => ?_) (fun i hi => ?_) (fun i hi => ?_) (fun i hi => ?_) (fun i hi => ?_) (fun i hi => ?_) (fun i k hi hk => ?_) (fun k hk => ?_)
  · rw [rw_lo _ _ hk, upd_at, uI_at, rw_lo _ _ hk]
    by_cases hkd : k = d
    · subst hkd
      rw [if_pos ⟨rfl, hj⟩, if_pos rfl]
    · rw [if_neg hkd, if_neg]
      rintro ⟨-, h⟩
      rw [← hj] at h
      rcases (show k = 0 ∨ k = 1 ∨ k = 2 ∨ k = 3 ∨ k = 4 ∨ k = 5 ∨ k = 6 by omega) with e | e | e | e | e | e | e <;> rcases (show d = 0 ∨ d = 1 ∨ d = 2 ∨ d = 3 ∨ d = 4 ∨ d = 5 ∨ d = 6 by omega) with e2 | e2 | e2 | e2 | e2 | e2 | e2 <;> subst e <;> subst e2 <;> first | exact hkd rfl | exact absurd h (by decide)
  · rw [rw_rd _ _ hi, upd_at, if_neg (by omega), uI_at, if_neg (by omega), rw_rd _ _ hi]
  · rw [rw_ht _ _ hi, upd_at, if_neg (by omega), uI_at, if_neg (by omega), rw_ht _ _ hi]
  · rw [rw_lm _ _ hi, upd_at, if_neg (by omega), uI_at, if_neg (by omega), rw_lm _ _ hi]
  · rw [rw_rv _ _ hi, upd_at, if_neg (by omega), uI_at, if_neg (by omega), rw_rv _ _ hi]
  · rw [rw_d1 _ _ hi, upd_at, if_neg (by omega), rw_d1 _ _ hi]; rfl
  · rw [rw_d2 _ _ hi, upd_at, if_neg (by omega), rw_d2 _ _ hi]; rfl
  · rw [rw_wk _ _ hi hk, upd_at, if_neg (by omega), uI_at, if_neg (by omega), rw_wk _ _ hi hk]
  · rw [rw_hi _ _ hk, upd_at, if_neg (by omega), rw_hi _ _ hk]
theorem rw_u1 (hp : HP) (w : Nat) {j : Nat} (v : Int32) (hj : j < 25) : rw_ (uI hp (w + 1) j v) w = upd (rw_ hp w) (19 + j) v := by
  refine rw_ext (fun k hk => ?_) (fun i hi => ?_) (fun i hi => ?_) (fun i hi => ?_) (fun i hi => ?_) (fun i hi => ?_) (fun i hi => ?_) (fun i k hi hk => ?_) (fun k hk => ?_)
  · rw [rw_lo _ _ hk, upd_at, if_neg (by omega), uI_at, if_neg (by omega), rw_lo _ _ hk]
  · rw [rw_rd _ _ hi, upd_at, if_neg (by omega), uI_at, if_neg (by omega), rw_rd _ _ hi]
  · rw [rw_ht _ _ hi, upd_at, uI_at, rw_ht _ _ hi]
    by_cases h : i = j
    · rw [if_pos ⟨rfl, h⟩, if_pos (by omega)]
    · rw [if_neg (by omega), if_neg (by omega)]
  · rw [rw_lm _ _ hi, upd_at, if_neg (by omega), uI_at, if_neg (by omega), rw_lm _ _ hi]
  · rw [rw_rv _ _ hi, upd_at, if_neg (by omega), uI_at, if_neg (by omega), rw_rv _ _ hi]
  · rw [rw_d1 _ _ hi, upd_at, if_neg (by omega), rw_d1 _ _ hi]; rfl
  · rw [rw_d2 _ _ hi, upd_at, if_neg (by omega), rw_d2 _ _ hi]; rfl
  · rw [rw_wk _ _ hi hk, upd_at, if_neg (by omega), uI_at, if_neg (by omega), rw_wk _ _ hi hk]
  · rw [rw_hi _ _ hk, upd_at, if_neg (by omega), rw_hi _ _ hk]
theorem rw_u2 (hp : HP) (w : Nat) {j : Nat} (v : Int32) (hj : j < 12) : rw_ (uI hp (w + 2) j v) w = upd (rw_ hp w) (7 + j) v := by
  refine rw_ext (fun k hk => ?_) (fun i hi => ?_) (fun i hi => ?_) (fun i hi => ?_) (fun i hi => ?_) (fun i hi => ?_) (fun i hi => ?_) (fun i k hi hk => ?_) (fun k hk => ?_)
  · rw [rw_lo _ _ hk, upd_at, if_neg (by omega), uI_at, if_neg (by omega), rw_lo _ _ hk]
  · rw [rw_rd _ _ hi, upd_at, uI_at, rw_rd _ _ hi]
    by_cases h : i = j
    · rw [if_pos ⟨rfl, h⟩, if_pos (by omega)]
    · rw [if_neg (by omega), if_neg (by omega)]
  · rw [rw_ht _ _ hi, upd_at, if_neg (by omega), uI_at, if_neg (by omega), rw_ht _ _ hi]
  · rw [rw_lm _ _ hi, upd_at, if_neg (by omega), uI_at, if_neg (by omega), rw_lm _ _ hi]
  · rw [rw_rv _ _ hi, upd_at, if_neg (by omega), uI_at, if_neg (by omega), rw_rv _ _ hi]
  · rw [rw_d1 _ _ hi, upd_at, if_neg (by omega), rw_d1 _ _ hi]; rfl
  · rw [rw_d2 _ _ hi, upd_at, if_neg (by omega), rw_d2 _ _ hi]; rfl
  · rw [rw_wk _ _ hi hk, upd_at, if_neg (by omega), uI_at, if_neg (by omega), rw_wk _ _ hi hk]
  · rw [rw_hi _ _ hk, upd_at, if_neg (by omega), rw_hi _ _ hk]
theorem rw_u4 (hp : HP) (w : Nat) {a b : Nat} (v : Int32) (ha : a < 8) (hb : b < 5) : rw_ (uI hp (w + 4 + a) b v) w = upd (rw_ hp w) (144 + 5 * a + b) v := by
  refine rw_ext (fun k hk => ?_) (fun i hi => ?_) (fun i hi => ?_) (fun i hi => ?_) (fun i hi => ?_) (fun i hi => ?_) (fun i hi => ?_) (fun i k hi hk => ?_) (fun k hk => ?_)
  · rw [rw_lo _ _ hk, upd_at, if_neg (by omega), uI_at, if_neg (by omega), rw_lo _ _ hk]
  · rw [rw_rd _ _ hi, upd_at, if_neg (by omega), uI_at, if_neg (by omega), rw_rd _ _ hi]
  · rw [rw_ht _ _ hi, upd_at, if_neg (by omega), uI_at, if_neg (by omega), rw_ht _ _ hi]
  · rw [rw_lm _ _ hi, upd_at, if_neg (by omega), uI_at, if_neg (by omega), rw_lm _ _ hi]
  · rw [rw_rv _ _ hi, upd_at, if_neg (by omega), uI_at, if_neg (by omega), rw_rv _ _ hi]
  · rw [rw_d1 _ _ hi, upd_at, if_neg (by omega), rw_d1 _ _ hi]; rfl
  · rw [rw_d2 _ _ hi, upd_at, if_neg (by omega), rw_d2 _ _ hi]; rfl
  · rw [rw_wk _ _ hi hk, upd_at, uI_at, rw_wk _ _ hi hk]
    by_cases h : i = a ∧ k = b
    · obtain ⟨h1, h2⟩ := h
      subst h1 h2
      rw [if_pos ⟨rfl, rfl⟩, if_pos rfl]
    · rw [if_neg (by omega), if_neg (by omega)]
  · rw [rw_hi _ _ hk, upd_at, if_neg (by omega), rw_hi _ _ hk]
/-- the bits -/
theorem rw_ulm (hp : HP) (w : Nat) {j : Nat} (x v : Int32) (hj : j < 25) (hx : ∀ d, d < 25 → bI x d = if d = j then v else bI (hp.1 w 2) d) : rw_ (uI hp w 2 x) w = upd (rw_ hp w) (44 + j) v := by
  refine rw_ext (fun k hk => ?_) (fun i hi => ?_) (fun i hi => ?_) (fun i hi => ?_) (fun i hi => ?_) (fun i hi => ?_) (fun i hi => ?_) (fun i k hi hk => ?_) (fun k hk => ?_)
  · rw [rw_lo _ _ hk, upd_at, if_neg (by omega), uI_at, if_neg, rw_lo _ _ hk]
    rintro ⟨-, h⟩
    rcases (show k = 0 ∨ k = 1 ∨ k = 2 ∨ k = 3 ∨ k = 4 ∨ k = 5 ∨ k = 6 by omega) with e | e | e | e | e | e | e <;> subst e <;> exact absurd h (by decide)
  · rw [rw_rd _ _ hi, upd_at, if_neg (by omega), uI_at, if_neg (by omega), rw_rd _ _ hi]
  · rw [rw_ht _ _ hi, upd_at, if_neg (by omega), uI_at, if_neg (by omega), rw_ht _ _ hi]
  · rw [rw_lm _ _ hi, upd_at, uI_same, rw_lm _ _ hi, hx i hi]
    by_cases h : i = j
    · rw [if_pos h, if_pos (by omega)]
    · rw [if_neg h, if_neg (by omega)]
  · rw [rw_rv _ _ hi, upd_at, if_neg (by omega), uI_at, if_neg (by omega), rw_rv _ _ hi]
  · rw [rw_d1 _ _ hi, upd_at, if_neg (by omega), rw_d1 _ _ hi]; rfl
  · rw [rw_d2 _ _ hi, upd_at, if_neg (by omega), rw_d2 _ _ hi]; rfl
  · rw [rw_wk _ _ hi hk, upd_at, if_neg (by omega), uI_at, if_neg (by omega), rw_wk _ _ hi hk]
  · rw [rw_hi _ _ hk, upd_at, if_neg (by omega), rw_hi _ _ hk]
theorem rw_urv (hp : HP) (w : Nat) {j : Nat} (x v : Int32) (hj : j < 25) (hx : ∀ d, d < 25 → bI x d = if d = j then v else bI (hp.1 w 3) d) : rw_ (uI hp w 3 x) w = upd (rw_ hp w) (69 + j) v := by
  refine rw_ext (fun k hk => ?_) (fun i hi => ?_) (fun i hi => ?_) (fun i hi => ?_) (fun i hi => ?_) (fun i hi => ?_) (fun i hi => ?_) (fun i k hi hk => ?_) (fun k hk => ?_)
  · rw [rw_lo _ _ hk, upd_at, if_neg (by omega), uI_at, if_neg, rw_lo _ _ hk]
    rintro ⟨-, h⟩
    rcases (show k = 0 ∨ k = 1 ∨ k = 2 ∨ k = 3 ∨ k = 4 ∨ k = 5 ∨ k = 6 by omega) with e | e | e | e | e | e | e <;> subst e <;> exact absurd h (by decide)
  · rw [rw_rd _ _ hi, upd_at, if_neg (by omega), uI_at, if_neg (by omega), rw_rd _ _ hi]
  · rw [rw_ht _ _ hi, upd_at, if_neg (by omega), uI_at, if_neg (by omega), rw_ht _ _ hi]
  · rw [rw_lm _ _ hi, upd_at, if_neg (by omega), uI_at, if_neg (by omega), rw_lm _ _ hi]
  · rw [rw_rv _ _ hi, upd_at, uI_same, rw_rv _ _ hi, hx i hi]
    by_cases h : i = j
    · rw [if_pos h, if_pos (by omega)]
    · rw [if_neg h, if_neg (by omega)]
  · rw [rw_d1 _ _ hi, upd_at, if_neg (by omega), rw_d1 _ _ hi]; rfl
  · rw [rw_d2 _ _ hi, upd_at, if_neg (by omega), rw_d2 _ _ hi]; rfl
  · rw [rw_wk _ _ hi hk, upd_at, if_neg (by omega), uI_at, if_neg (by omega), rw_wk _ _ hi hk]
  · rw [rw_hi _ _ hk, upd_at, if_neg (by omega), rw_hi _ _ hk]
/-- the door's place in the row -/
def drI (d : Nat) : Nat := if d % 2 = 0 then 94 + d / 2 else 119 + d / 2
theorem rw_dr (hp : HP) (w : Nat) {d : Nat} (h : d < 50) : rw_ hp w (drI d) = bJ (hp.2 w 0) d := by
  unfold drI
  split
  · rw [rw_d1 _ _ (by omega), show 2 * (d / 2) = d by omega]
  · rw [rw_d2 _ _ (by omega), show 2 * (d / 2) + 1 = d by omega]
theorem rw_ush (hp : HP) (w : Nat) {j : Nat} (x : Int64) (v : Int32) (hj : j < 50) (hx : ∀ d, d < 50 → bJ x d = if d = j then v else bJ (hp.2 w 0) d) : rw_ (uL hp w 0 x) w = upd (rw_ hp w) (drI j) v := by
  have hr : 94 ≤ drI j ∧ drI j < 144 := by unfold drI; split <;> omega
  have e0 : (uL hp w 0 x).2 w 0 = x := by rw [uL_r, rL_eq, upL_at, if_pos rfl]
  refine rw_ext (fun k hk => ?_) (fun i hi => ?_) (fun i hi => ?_) (fun i hi => ?_) (fun i hi => ?_) (fun i hi => ?_) (fun i hi => ?_) (fun i k hi hk => ?_) (fun k hk => ?_)
  · rw [rw_lo _ _ hk, upd_at, if_neg (by omega), rw_lo _ _ hk]; rfl
  · rw [rw_rd _ _ hi, upd_at, if_neg (by omega), rw_rd _ _ hi]; rfl
  · rw [rw_ht _ _ hi, upd_at, if_neg (by omega), rw_ht _ _ hi]; rfl
  · rw [rw_lm _ _ hi, upd_at, if_neg (by omega), rw_lm _ _ hi]; rfl
  · rw [rw_rv _ _ hi, upd_at, if_neg (by omega), rw_rv _ _ hi]; rfl
  · rw [rw_d1 _ _ hi, upd_at, rw_d1 _ _ hi, e0, hx _ (by omega)]
    by_cases h : 2 * i = j
    · rw [if_pos h, if_pos (by unfold drI; split <;> omega)]
    · rw [if_neg h, if_neg (by unfold drI; split <;> omega)]
  · rw [rw_d2 _ _ hi, upd_at, rw_d2 _ _ hi, e0, hx _ (by omega)]
    by_cases h : 2 * i + 1 = j
    · rw [if_pos h, if_pos (by unfold drI; split <;> omega)]
    · rw [if_neg h, if_neg (by unfold drI; split <;> omega)]
  · rw [rw_wk _ _ hi hk, upd_at, if_neg (by omega), rw_wk _ _ hi hk]; rfl
  · rw [rw_hi _ _ hk, upd_at, if_neg (by omega), rw_hi _ _ hk]
