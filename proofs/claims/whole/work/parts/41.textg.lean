/-! what stays true of a ward's row -/
def WS (f : Nat → Int32) : Prop := WF f ∧ (f 4 = -1 ∨ vp_in (f 4) (f 5).toNatClampNeg)
theorem WS.of {f g : Nat → Int32} (h : WS f) (hk : ∀ k, keyI k → g k = f k) (hw : ∀ w, w < mN f → wkOK g w) : WS g := by
  refine ⟨h.1.of hk hw, ?_⟩
  rw [hk 4 (by unfold keyI; omega), hk 5 (by unfold keyI; omega)]
  exact h.2
theorem wk_same {f g : Nat → Int32} {w : Nat} (h : wkOK f w) (e : ∀ j, j < 5 → g (144 + 5 * w + j) = f (144 + 5 * w + j)) : wkOK g w := by
  unfold wkOK at h ⊢
  have e0 : g (144 + 5 * w) = f (144 + 5 * w) := e 0 (by omega)
  rw [e0, e 1 (by omega), e 2 (by omega), e 3 (by omega), e 4 (by omega)]
  exact h
theorem WS.free {f : Nat → Int32} (h : WS f) {d : Nat} (hd : d < 4 ∨ (19 ≤ d ∧ d < 44)) (v : Int32) : WS (upd f d v) :=
  h.of (fun k hk => pk_un (by unfold keyI at hk; omega)) (fun w hw => wk_same (h.1.wk hw) (fun j hj => pk_un (by omega)))
theorem WS.flag {f : Nat → Int32} (h : WS f) {d : Nat} {v : Int32} (h1 : 44 ≤ d) (h2 : d < 144) (hv : vp_in v 2) : WS (upd f d v) := by
  refine ⟨(h.1.flag h1 h2 hv).1, ?_⟩
  rw [pk_un (by omega), pk_un (by omega)]
  exact h.2
theorem WS.rst {f : Nat → Int32} (h : WS f) : WS (rstF f) := by
  have h8 := mN_lt h.1
  have hwk := fun u hu => h.1.wk (w := u) hu
  obtain ⟨⟨⟨n, hn, e6, hws⟩, hfl, r, hr, e5, hrs, h4⟩, h9⟩ := h
  have ne : ∀ k, k ≠ 4 → k ≠ 5 → rstF f k = f k := fun k a b => by unfold rstF; rw [pk_un b, pk_un a]
  have e4 : rstF f 4 = -1 := by unfold rstF; rw [pk_un (by omega), upd_at, if_pos rfl]
  refine ⟨⟨⟨n, hn, by rw [ne _ (by omega) (by omega)]; exact e6, fun w hw => wk_same (hws w hw) (fun j hj => ne _ (by omega) (by omega))⟩, fun k a b => by rw [ne _ (by omega) (by omega)]; exact hfl k a b, 0, by omega, by unfold rstF; rw [upd_at, if_pos rfl], fun k hk => absurd hk (by omega), Or.inl rfl⟩, Or.inl e4⟩
theorem WS.rnd {f : Nat → Int32} (h : WS f) {c V : Nat} (hc : c < 12) (e : f 5 = nI c) (hV : V < 25) : WS (upd (upd f (7 + c) (nI V)) 5 (nI (c + 1))) := by
  obtain ⟨⟨⟨n, hn, e6, hws⟩, hfl, r, hr, e5, hrs, h4⟩, h9⟩ := h
  have hcr : r = c := by
    rw [e] at e5
    exact ((nI_eq (by omega) (by omega)).mp e5).symm
  subst hcr
  have ne : ∀ k, k ≠ 7 + r → k ≠ 5 → upd (upd f (7 + r) (nI V)) 5 (nI (r + 1)) k = f k := fun k a b => by rw [pk_un b, pk_un a]
  have e51 : upd (upd f (7 + r) (nI V)) 5 (nI (r + 1)) 5 = nI (r + 1) := by rw [upd_at, if_pos rfl]
  have h41 : f 4 = -1 ∨ vp_in (f 4) (r + 1) := by
    rw [e, nI_clamp (by omega)] at h9
    exact h9.imp id (fun h => in_mono h (by omega))
  refine ⟨⟨⟨n, hn, by rw [ne _ (by omega) (by omega)]; exact e6, fun w hw => wk_same (hws w hw) (fun j hj => ne _ (by omega) (by omega))⟩, fun k a b => by rw [ne _ (by omega) (by omega)]; exact hfl k a b, r + 1, by omega, e51, fun k hk => ?_, Or.inr (by rw [ne _ (by omega) (by omega)]; exact h41)⟩, ?_⟩
  · by_cases hkr : k = r
    · subst hkr
      rw [pk_un (by omega), upd_at, if_pos rfl]
      exact vp_in_nI hV (by omega)
    · rw [ne _ (by omega) (by omega)]
      exact hrs k (by omega)
  · rw [e51, ne _ (by omega) (by omega), nI_clamp (by omega)]
    exact h41
theorem WS.add {f : Nat → Int32} (h : WS f) {k q w : Int32} {c : Nat} (hc : c < 8) (e : f 6 = nI c) (hk : vp_in k 6) (hq : vp_in q 25) (hw : vp_in w 4) : WS (addF f k q w) := by
  obtain ⟨⟨⟨n, hn, e6, hws⟩, hfl, r, hr, e5, hrs, h4⟩, h9⟩ := h
  have hcn : n = c := by
    rw [e] at e6
    exact ((nI_eq (by omega) (by omega)).mp e6).symm
  subst hcn
  have h61 := add6 (f := f) (k := k) (q := q) (w := w) e hc
  have ne : ∀ j, j ≠ 6 → (j < 144 + 5 * n ∨ 144 + 5 * n + 5 ≤ j) → addF f k q w j = f j := fun j a b => by
    unfold addF
    rw [e, nI_clamp (by omega), pk_un (by omega), pk_un (by omega), pk_un (by omega), pk_un (by omega), pk_un (by omega), pk_un a]
  have a0 : addF f k q w (144 + 5 * n) = k := by
    unfold addF
    rw [e, nI_clamp (by omega), pk_un (by omega), pk_un (by omega), pk_un (by omega), pk_un (by omega), upd_at, if_pos (by omega)]
  have a1 : addF f k q w (144 + 5 * n + 1) = q := by
    unfold addF
    rw [e, nI_clamp (by omega), pk_un (by omega), pk_un (by omega), pk_un (by omega), upd_at, if_pos rfl]
  have a2 : addF f k q w (144 + 5 * n + 2) = q := by
    unfold addF
    rw [e, nI_clamp (by omega), pk_un (by omega), pk_un (by omega), upd_at, if_pos rfl]
  have a3 : addF f k q w (144 + 5 * n + 3) = w := by
    unfold addF
    rw [e, nI_clamp (by omega), pk_un (by omega), upd_at, if_pos rfl]
  have a4 : addF f k q w (144 + 5 * n + 4) = nI 0 := by
    unfold addF
    rw [e, nI_clamp (by omega), upd_at, if_pos rfl]
  refine ⟨⟨⟨n + 1, by omega, h61, fun u hu => ?_⟩, fun j a b => by rw [ne _ (by omega) (by omega)]; exact hfl j a b, r, hr, by rw [ne _ (by omega) (by omega)]; exact e5, fun j hj => by rw [ne _ (by omega) (by omega)]; exact hrs j hj, by rw [ne _ (by omega) (by omega)]; exact h4⟩, by rw [ne _ (by omega) (by omega), ne _ (by omega) (by omega)]; exact h9⟩
  by_cases hun : u = n
  · subst hun
    unfold wkOK
    rw [a0, a1, a2, a3, a4]
    exact ⟨hk, hq, hq, hw, vp_in_nI (by omega) (by omega)⟩
  · exact wk_same (hws u (by omega)) (fun j hj => ne _ (by omega) (by omega))
/-! what reading keeps -/
def okR (b n : Nat) (r : Sum Nat (Nat × (Nat → Int32))) : Prop := match r with
  | .inl s => s ≤ n
  | .inr p => b ≤ p.1 ∧ p.1 ≤ n ∧ WS p.2
theorem okR.mono {a b n : Nat} {r : Sum Nat (Nat × (Nat → Int32))} (h : okR b n r) (hab : a ≤ b) : okR a n r := by
  cases r with
  | inl s => exact h
  | inr p => exact ⟨Nat.le_trans hab h.1, h.2⟩
theorem pMark_ok {t : Nat → Int32} {n a h : Nat} {v : Int32} {f : Nat → Int32} (hf : WS f) (hh : h ≤ n) (ha : a = 44 ∨ a = 69) (hv : vp_in v 2) : okR h n (pMark t n a v h f) := by
  unfold pMark
  have hb := bk_le t hh
  have hl := pn_le t hh
  cases hc : pnB t n 24 h with
  | false => exact hb.2
  | true =>
    have := pnB_v hc
    exact ⟨by show h ≤ pnE t n h; omega, hl.2, hf.flag (by omega) (by omega) hv⟩
theorem pMoon_ok {t : Nat → Int32} {n h : Nat} {f : Nat → Int32} (hf : WS f) (hh : h ≤ n) : okR h n (pMoon t n h f) := by
  unfold pMoon
  have hb := bk_le t hh
  have hl := pn_le t hh
  cases hc : pnB t n 4 h with
  | false => exact hb.2
  | true => exact ⟨by show h ≤ pnE t n h; omega, hl.2, hf.free (by omega) _⟩
theorem pHeight_ok {t : Nat → Int32} {n h : Nat} {f : Nat → Int32} (hf : WS f) (hh : h ≤ n) : okR h n (pHeight t n h f) := by
  unfold pHeight
  have hb := bk_le t hh
  have hl := pn_le t hh
  cases hc : pnB t n 24 h with
  | false => exact hb.2
  | true =>
    have hV := pnB_v hc
    have hb2 := bk_le t hl.2
    have hl2 := pn_le t hl.2
    rw [if_pos rfl]
    cases hc2 : pnB t n 9 (pnE t n h) with
    | false => exact hb2.2
    | true => exact ⟨by show h ≤ pnE t n (pnE t n h); omega, hl2.2, hf.free (by omega) _⟩
theorem dr_door : ∀ a, a < 25 → ∀ b, b < 25 → wyt a b = 4 ∨ (94 ≤ dr a (wyt a b) ∧ dr a (wyt a b) < 144) := by decide +kernel
theorem pDoor_ok {t : Nat → Int32} {n h : Nat} {v : Int32} {f : Nat → Int32} (hf : WS f) (hh : h ≤ n) (hv : vp_in v 2) : okR h n (pDoor t n v h f) := by
  unfold pDoor
  have hb := bk_le t hh
  have hl := pn_le t hh
  cases hc : pnB t n 24 h with
  | false => exact hb.2
  | true =>
    have hV := pnB_v hc
    have hb2 := bk_le t hl.2
    have hl2 := pn_le t hl.2
    rw [if_pos rfl]
    cases hc2 : pnB t n 24 (pnE t n h) with
    | false => exact hb2.2
    | true =>
      have hV2 := pnB_v hc2
      rw [if_pos rfl]
      rcases dr_door (pnV t n h) (by omega) (pnV t n (pnE t n h)) (by omega) with h4 | h4
      · rw [if_pos h4]
        exact hb2.2
      · by_cases h5 : wyt (pnV t n h) (pnV t n (pnE t n h)) = 4
        · rw [if_pos h5]
          exact hb2.2
        · rw [if_neg h5]
          exact ⟨by show h ≤ pnE t n (pnE t n h); omega, hl2.2, hf.flag (by omega) h4.2 hv⟩
theorem wd_le (t : Nat → Int32) {n h : Nat} (m : Nat) (hh : h ≤ n) : h ≤ wdK t n m h ∧ wdK t n m h ≤ n := by
  have hb := bk_le t hh
  have hw := skp_le lrB t hb.2
  unfold wdK
  cases h1 : wd t n m h with
  | false =>
    rw [if_neg (by decide)]
    omega
  | true =>
    rw [if_pos rfl]
    unfold wd wrd at h1
    have := of_decide_eq_true (Bool.and_eq_true_iff.mp h1).1
    omega
theorem pWalker_ok {t : Nat → Int32} {n h : Nat} {k : Int32} {f : Nat → Int32} (hf : WS f) (hh : h ≤ n) (hk : vp_in k 6) {c : Nat} (hc8 : c < 8) (e6 : f 6 = nI c) : okR h n (pWalker t n k h f) := by
  unfold pWalker
  have h1 := wd_le t 68 hh
  cases hc : wd t n 68 h with
  | false => exact (bk_le t hh).2
  | true =>
    rw [if_pos rfl]
    generalize wdK t n 68 h = a at h1
    have hb2 := bk_le t h1.2
    have hl2 := pn_le t h1.2
    cases hc2 : pnB t n 24 a with
    | false => exact hb2.2
    | true =>
      have hV := pnB_v hc2
      rw [if_pos rfl]
      generalize pnV t n a = V at hV
      generalize pnE t n a = E at hl2
      unfold pWay
      have h3 := wd_le t 70 hl2.2
      cases hc3 : wd t n 70 E with
      | false => exact ⟨by show h ≤ wdK t n 70 E; omega, h3.2, hf.add hc8 e6 hk (vp_in_nI (by omega) (by omega)) (vp_in_nI (by omega) (by omega))⟩
      | true =>
        rw [if_pos rfl]
        generalize wdK t n 70 E = b at h3
        have hb4 := bk_le t h3.2
        have hl4 := pn_le t h3.2
        cases hc4 : pnB t n 3 b with
        | false => exact hb4.2
        | true =>
          have hV4 := pnB_v hc4
          exact ⟨by show h ≤ pnE t n b; omega, hl4.2, hf.add hc8 e6 hk (vp_in_nI (by omega) (by omega)) (vp_in_nI (by omega) (by omega))⟩
theorem rds_ok {t : Nat → Int32} {n : Nat} : ∀ (m c h : Nat) (f : Nat → Int32), WS f → h ≤ n → c ≤ 12 → f 5 = nI c → okR h n (rds t n m c h f)
  | 0, _, _, _, _, hh, _, _ => hh
  | m + 1, c, h, f, hf, hh, hc, e5 => by
    unfold rds
    by_cases h12 : c = 12
    · rw [if_pos h12]
      exact hh
    · rw [if_neg h12]
      have hb := bk_le t hh
      have hl := pn_le t hh
      cases hc2 : pnB t n 24 h with
      | false => exact hb.2
      | true =>
        have hV := pnB_v hc2
        rw [if_pos rfl]
        have hb2 := bk_le t hl.2
        have hf2 := hf.rnd (c := c) (V := pnV t n h) (by omega) e5 (by omega)
        cases hd : dgB (byt t n (bk t n (pnE t n h))) with
        | true =>
          rw [if_pos rfl]
          exact (rds_ok m (c + 1) _ _ hf2 hb2.2 (by omega) (by rw [upd_at, if_pos rfl])).mono (by omega)
        | false => exact ⟨by show h ≤ bk t n (pnE t n h); omega, hb2.2, hf2⟩
theorem tx_pos : ∀ i, i < 16 → 2 ≤ (tx_s.getD i []).length := by decide +kernel
theorem wrd_le {t : Nat → Int32} {n b m : Nat} (hb : b ≤ n) (h : wrd t n b m = true) : b + tx_n m ≤ n := by
  have hw := skp_le lrB t hb
  unfold wrd at h
  have := of_decide_eq_true (Bool.and_eq_true_iff.mp h).1
  omega
theorem fst_t {p : Nat → Bool} : ∀ n k, fst_ p n k < k + n → p (fst_ p n k) = true
  | 0, k, h => by unfold fst_ at h; omega
  | n + 1, k, h => by
    unfold fst_ at h ⊢
    cases hp : p k with
    | true =>
      rw [if_pos rfl]
      exact hp
    | false =>
      rw [hp, if_neg (by decide)] at h
      rw [if_neg (by decide)]
      exact fst_t n (k + 1) (by omega)
theorem pIt_ok {t : Nat → Int32} {n b : Nat} {f : Nat → Int32} (hf : WS f) (hb : b ≤ n) : okR (b + 2) n (pIt t n b f) := by
  have c0 : vp_in (nI 0) 2 := vp_in_nI (by omega) (by omega)
  have c1 : vp_in (nI 1) 2 := vp_in_nI (by omega) (by omega)
  unfold pIt
  by_cases hk : kwN t n b < 6
  · rw [if_pos hk]
    by_cases h8 : f 6 = nI 8
    · rw [if_pos h8]
      exact hb
    · rw [if_neg h8]
      obtain ⟨c, hc, e⟩ := hf.1.many
      have hc8 : c < 8 := by
        rcases Nat.lt_or_ge c 8 with h | h
        · exact h
        · exact absurd (by rw [e, show c = 8 by omega]) h8
      have hw : wrd t n b (40 + 2 * kwN t n b) = true := fst_t (p := fun k => wrd t n b (40 + 2 * k)) 6 0 (by show kwN t n b < 0 + 6; omega)
      have hl := wrd_le hb hw
      have h2 : 2 ≤ tx_n (40 + 2 * kwN t n b) := tx_pos (tx_i (40 + 2 * kwN t n b)) (by unfold tx_i; omega)
      exact (pWalker_ok hf hl (vp_in_nI hk (by omega)) hc8 e).mono (by omega)
  · rw [if_neg hk]
    unfold pWds
    have h2 : ∀ m, 52 ≤ m → m < 72 → 2 ≤ tx_n m := fun m h1 h2 => tx_pos (tx_i m) (by unfold tx_i; omega)
    have step : ∀ m (r s : Sum Nat (Nat × (Nat → Int32))), 52 ≤ m → m < 72 → (b + tx_n m ≤ n → okR (b + tx_n m) n r) → okR (b + 2) n s → okR (b + 2) n (if wrd t n b m = true then r else s) := by
      intro m r s h1 h3 hr hs
      cases hw : wrd t n b m with
      | true =>
        rw [if_pos rfl]
        have := h2 m h1 h3
        exact (hr (wrd_le hb hw)).mono (by omega)
      | false =>
        rw [if_neg (by decide)]
        exact hs
    refine step _ _ _ (by omega) (by omega) (fun h => pDoor_ok hf h c1) ?_
    refine step _ _ _ (by omega) (by omega) (fun h => pDoor_ok hf h c0) ?_
    refine step _ _ _ (by omega) (by omega) (fun h => pHeight_ok hf h) ?_
    refine step _ _ _ (by omega) (by omega) (fun h => pMark_ok hf h (by omega) c1) ?_
    refine step _ _ _ (by omega) (by omega) (fun h => pMark_ok hf h (by omega) c1) ?_
    refine step _ _ _ (by omega) (by omega) (fun h => pMark_ok hf h (by omega) c0) ?_
    refine step _ _ _ (by omega) (by omega) (fun h => pMoon_ok hf h) ?_
    refine step _ _ _ (by omega) (by omega) (fun h => ?_) hb
    exact rds_ok 13 0 _ _ hf.rst h (by omega) (by unfold rstF; rw [upd_at, if_pos rfl])
