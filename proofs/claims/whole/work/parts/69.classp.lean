/-! who is in the river, and how many came into it -/
theorem mv_row (f : Nat → Int32) (w : Nat) {k : Nat} (h1 : k ≠ 1) (h2 : k ≠ 144 + 5 * w + 2) (h3 : k ≠ 144 + 5 * w + 3) : mvF f w k = f k := by
  unfold mvF
  split
  · split
    · exact st_row f w h1
    · rw [upd_at, if_neg h2, upd_at, if_neg h3]
      exact st_row f w h1
  · rfl
theorem wk_row (f : Nat → Int32) (w : Nat) {k : Nat} (h : k ≠ 144 + 5 * w + 4) : wkF f w k = f k := by
  unfold wkF
  split
  · rw [upd_at, if_neg h]
  · rfl
theorem rd_row (f : Nat → Int32) {k : Nat} (h : k ≠ 3) (h2 : k ≠ 4) : rdF f k = f k := by
  unfold rdF
  split
  · rfl
  · rw [upd_at, if_neg h, upd_at, if_neg h2]
theorem mvs_row (f : Nat → Int32) {k : Nat} (h1 : k ≠ 1) : ∀ n, (∀ w, w < n → k ≠ 144 + 5 * w + 2 ∧ k ≠ 144 + 5 * w + 3) → foldR mvF f n k = f k
  | 0, _ => rfl
  | n + 1, h => by
    show mvF (foldR mvF f n) n k = f k
    rw [mv_row _ _ h1 (h n (by omega)).1 (h n (by omega)).2]
    exact mvs_row f h1 n (fun w hw => h w (by omega))
theorem wks_row (f : Nat → Int32) {k : Nat} : ∀ n, (∀ w, w < n → k ≠ 144 + 5 * w + 4) → foldR wkF f n k = f k
  | 0, _ => rfl
  | n + 1, h => by
    show wkF (foldR wkF f n) n k = f k
    rw [wk_row _ _ (h n (by omega))]
    exact wks_row f n (fun w hw => h w (by omega))
theorem mvs_from (f : Nat → Int32) (w : Nat) : ∀ d, foldR mvF f (w + 1 + d) (144 + 5 * w + 2) = foldR mvF f (w + 1) (144 + 5 * w + 2)
  | 0 => rfl
  | d + 1 => by
    show mvF (foldR mvF f (w + 1 + d)) (w + 1 + d) (144 + 5 * w + 2) = _
    rw [mv_row _ _ (by omega) (by omega) (by omega)]
    exact mvs_from f w d
theorem min_row (f : Nat → Int32) {k : Nat} (h : 5 ≤ k) (h4 : ∀ w, k ≠ 144 + 5 * w + 4) : minF f k = foldR mvF f (mN f) k := by
  show tkF (rdF (foldR wkF (foldR mvF f (mN f)) (mN f))) k = _
  unfold tkF
  rw [upd_at, if_neg (by omega), rd_row _ (by omega) (by omega), wks_row _ _ (fun w _ => h4 w)]
theorem inR_cg {f g : Nat → Int32} {w : Nat} (hp : vp_in (f (144 + 5 * w + 2)) 25) (e : g (144 + 5 * w + 2) = f (144 + 5 * w + 2)) (hr : ∀ k, 69 ≤ k → k < 94 → g k = f k) : inR g w = inR f w := by
  have h := ix_lt hp
  unfold inR plc
  rw [e, hr _ (by omega) (by omega)]
theorem min_rv (f : Nat → Int32) {k : Nat} (h : 7 ≤ k) (h2 : k < 144) : minF f k = f k := by
  rw [min_row f (by omega) (fun w => by omega), mvs_row f (by omega) _ (fun w _ => by omega)]
theorem wfs {f : Nat → Int32} (h : WF f) {n : Nat} (hn : n ≤ mN f) : WF (foldR mvF f n) ∧ mN (foldR mvF f n) = mN f := WF.foldR (fun _ _ a b => WF.mv a b) h n hn
theorem inR_pre {f : Nat → Int32} (h : WF f) {w : Nat} (hw : w < mN f) : inR (foldR mvF f w) w = inR f w :=
  inR_cg (h.wk hw).2.2.1 (mvs_row f (by omega) w (fun v hv => by omega)) (fun k a b => mvs_row f (by omega) w (fun v hv => by omega))
theorem inR_min {f : Nat → Int32} (h : WF f) {w : Nat} (hw : w < mN f) : inR (minF f) w = inR (mvF (foldR mvF f w) w) w := by
  have h2 : WF (foldR mvF f (w + 1)) := (wfs h (n := w + 1) hw).1
  have h3 : mN (foldR mvF f (w + 1)) = mN f := (wfs h (n := w + 1) hw).2
  refine inR_cg (f := foldR mvF f (w + 1)) (h2.wk (show w < mN (foldR mvF f (w + 1)) by rw [h3]; exact hw)).2.2.1 ?_ (fun k a b => ?_)
  · rw [min_row f (by omega) (fun v => by omega), show mN f = w + 1 + (mN f - (w + 1)) by omega]
    exact mvs_from f w _
  · rw [min_rv f (by omega) (by omega), mvs_row f (by omega) _ (fun v hv => by omega)]
theorem inR_stay {f : Nat → Int32} (h : WF f) {w : Nat} (hw : w < mN f) (hr : inR f w = true) : inR (minF f) w = true := by
  rw [inR_min h hw]
  have hp := inR_pre h hw
  have hg : goB (foldR mvF f w) w = false := by unfold goB; rw [hp, hr, Bool.not_true, Bool.and_false]
  have e : ∀ g : Nat → Int32, goB g w = false → mvF g w = g := fun g hg => by unfold mvF; rw [hg]; rfl
  rw [e _ hg, hp, hr]
def cnt (p : Nat → Bool) : Nat → Nat
  | 0 => 0
  | n + 1 => cnt p n + (if p n = true then 1 else 0)
theorem cnt_cg {p q : Nat → Bool} : ∀ n, (∀ k, k < n → p k = q k) → cnt p n = cnt q n
  | 0, _ => rfl
  | n + 1, h => by
    show cnt p n + _ = cnt q n + _
    rw [cnt_cg n (fun k hk => h k (by omega)), h n (by omega)]
theorem cnt_le (p : Nat → Bool) : ∀ n, cnt p n ≤ n
  | 0 => Nat.le_refl _
  | n + 1 => by
    have := cnt_le p n
    show cnt p n + _ ≤ _
    split <;> omega
theorem cnt_ext {p : Nat → Bool} {n : Nat} (h : ∀ k, n ≤ k → p k = false) : ∀ d, cnt p (n + d) = cnt p n
  | 0 => rfl
  | d + 1 => by
    show cnt p (n + d) + (if p (n + d) = true then 1 else 0) = _
    rw [cnt_ext h d, if_neg (by rw [h _ (by omega)]; decide)]
    rfl
theorem cnt_0 {p : Nat → Bool} : ∀ n, cnt p n = 0 → ∀ k, k < n → p k = false
  | 0, _, k, hk => by omega
  | n + 1, h, k, hk => by
    have h : cnt p n + (if p n = true then 1 else 0) = 0 := h
    have h1 : cnt p n = 0 := by omega
    have h2 : (if p n = true then 1 else 0) = 0 := by omega
    by_cases e : k = n
    · subst e
      cases hb : p k with
      | false => rfl
      | true => rw [if_pos hb] at h2; omega
    · exact cnt_0 n h1 k (by omega)
theorem cm_cnt {f : Nat → Int32} (h : WF f) : ∀ n, n ≤ mN f → cm f n = cnt (fun w => inR (minF f) w && !inR f w) n
  | 0, _ => rfl
  | n + 1, hn => by
    show cm f n + (if cmB (foldR mvF f n) n = true then 1 else 0) = cnt _ n + (if (inR (minF f) n && !inR f n) = true then 1 else 0)
    rw [cm_cnt h n (by omega), inR_min h hn, ← inR_pre h hn]
    rfl
theorem inR_go {f : Nat → Int32} (h : WF f) {w : Nat} (hw : w < mN f) (hr : inR f w = true) : ∀ n, inR (goF f n) w = true
  | 0 => hr
  | n + 1 => inR_stay (h.go n).1 (by rw [(h.go n).2]; exact hw) (inR_go h hw hr n)
theorem cnt_3 {p q r : Nat → Bool} (h1 : ∀ k, r k = true → q k = true) (h2 : ∀ k, q k = true → p k = true) : ∀ n, cnt (fun w => p w && !r w) n = cnt (fun w => q w && !r w) n + cnt (fun w => p w && !q w) n
  | 0 => rfl
  | n + 1 => by
    show cnt _ n + (if (p n && !r n) = true then 1 else 0) = cnt _ n + (if (q n && !r n) = true then 1 else 0) + (cnt _ n + (if (p n && !q n) = true then 1 else 0))
    rw [cnt_3 h1 h2 n]
    have a := h1 n
    have b := h2 n
    cases hp : p n <;> cases hq : q n <;> cases hr : r n <;> simp_all <;> omega
theorem and_tt {a b : Bool} (h : (a && b) = true) : a = true ∧ b = true := Bool.and_eq_true_iff.mp h
theorem tt_and {a b : Bool} (h : a = true) (h2 : b = true) : (a && b) = true := by rw [h, h2]; rfl
theorem gm_cnt {f : Nat → Int32} (h : WF f) : ∀ n, gm f n = cnt (fun w => decide (w < mN f) && (inR (goF f n) w && !inR f w)) (mN f)
  | 0 => by
    rw [cnt_cg (q := fun _ => false) _ (fun k _ => by show (decide _ && (inR f k && !inR f k)) = false; cases inR f k <;> simp)]
    have : ∀ m, cnt (fun _ => false) m = 0 := by
      intro m
      induction m with
      | zero => rfl
      | succ m ih => show cnt _ m + 0 = 0; rw [ih]
    rw [this]
    rfl
  | n + 1 => by
    show gm f n + cm (goF f n) (mN f) = _
    have hg := h.go n
    rw [gm_cnt h n, cm_cnt hg.1 _ (by rw [hg.2]; exact Nat.le_refl _)]
    have key := cnt_3 (p := fun w => decide (w < mN f) && inR (goF f (n + 1)) w) (q := fun w => decide (w < mN f) && inR (goF f n) w) (r := fun w => decide (w < mN f) && inR f w) (fun k hk => by
      have hk := and_tt hk
      exact tt_and hk.1 (inR_go h (of_decide_eq_true hk.1) hk.2 n)) (fun k hk => by
      have hk := and_tt hk
      exact tt_and hk.1 (inR_stay hg.1 (by rw [hg.2]; exact of_decide_eq_true hk.1) hk.2)) (mN f)
    have sim : ∀ a b : Nat → Bool, cnt (fun w => (decide (w < mN f) && a w) && !(decide (w < mN f) && b w)) (mN f) = cnt (fun w => decide (w < mN f) && (a w && !b w)) (mN f) := fun a b => cnt_cg _ (fun k hk => by
      rw [decide_eq_true hk]
      simp)
    rw [sim, sim, sim] at key
    rw [key, cnt_cg (p := fun w => inR (minF (goF f n)) w && !inR (goF f n) w) (q := fun w => decide (w < mN f) && (inR (goF f (n + 1)) w && !inR (goF f n) w)) (mN f) (fun k hk => by rw [decide_eq_true hk, Bool.true_and]; rfl)]
