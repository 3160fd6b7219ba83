/-! a minute -/
def foldR (g : (Nat → Int32) → Nat → (Nat → Int32)) (f : Nat → Int32) : Nat → (Nat → Int32)
  | 0 => f
  | n + 1 => g (foldR g f n) n
def mvF (f : Nat → Int32) (w : Nat) : Nat → Int32 := if goB f w = true then (if (stF f w).1 < 0 then (stF f w).2 else upd (upd (stF f w).2 (144 + 5 * w + 3) (stF f w).1) (144 + 5 * w + 2) (bsV (plc f w) (stF f w).1.toNatClampNeg)) else f
def wkF (f : Nat → Int32) (w : Nat) : Nat → Int32 := if goB f w = true ∧ f (144 + 5 * w + 2) = f 3 then upd f (144 + 5 * w + 4) (nI 1) else f
def rdF (f : Nat → Int32) : Nat → Int32 := if f 5 ≤ 0 then f else upd (upd f 4 (f 4 + nI 1 - (f 4 + nI 1) / f 5 * f 5)) 3 (f (7 + (f 4 + nI 1 - (f 4 + nI 1) / f 5 * f 5).toNatClampNeg))
def tkF (f : Nat → Int32) : Nat → Int32 := upd f 0 (f 0 + nI 1)
def minF (f : Nat → Int32) : Nat → Int32 := tkF (rdF (foldR wkF (foldR mvF f (mN f)) (mN f)))
/-- what counts of a row for its walls -/
def keyI (k : Nat) : Prop := k = 4 ∨ k = 5 ∨ k = 6 ∨ (7 ≤ k ∧ k < 19) ∨ (44 ≤ k ∧ k < 144)
theorem WF.of {f g : Nat → Int32} (h : WF f) (hk : ∀ k, keyI k → g k = f k) (hw : ∀ w, w < mN f → wkOK g w) : WF g := by
  obtain ⟨⟨n, hn, e, h1⟩, h2, r, hr, e5, h3, h4⟩ := h
  have em : mN f = n := by unfold mN; rw [e, nI_clamp (by omega)]
  refine ⟨⟨n, hn, by rw [hk 6 (by unfold keyI; omega)]; exact e, fun w h => hw w (by omega)⟩, fun k a b => by rw [hk k (by unfold keyI; omega)]; exact h2 k a b, r, hr, by rw [hk 5 (by unfold keyI; omega)]; exact e5, fun k h => by rw [hk (7 + k) (by unfold keyI; omega)]; exact h3 k h, by rw [hk 4 (by unfold keyI; omega)]; exact h4⟩
theorem mN_lt {f : Nat → Int32} (h : WF f) : mN f ≤ 8 := by
  obtain ⟨n, hn, e⟩ := h.many
  unfold mN
  rw [e, nI_clamp (by omega)]
  exact hn
theorem mN_eq {f : Nat → Int32} (h : WF f) : f 6 = nI (mN f) := by
  obtain ⟨n, hn, e⟩ := h.many
  unfold mN
  rw [e, nI_clamp (by omega)]
theorem wkOK_upd {f : Nat → Int32} {k v : Nat → Int32} {w u j : Nat} {x : Int32} (h : wkOK f w) (hx : w ≠ u) (hj : j < 5) : wkOK (upd f (144 + 5 * u + j) x) w := by
  unfold wkOK at h ⊢
  rw [pk_un (by omega), pk_un (by omega), pk_un (by omega), pk_un (by omega), pk_un (by omega)]
  exact h
theorem WF.mv {f : Nat → Int32} (h : WF f) {w : Nat} (hw : w < mN f) : WF (mvF f w) ∧ mN (mvF f w) = mN f := by
  unfold mvF
  split
  · have hok := st_ok f w
    have hwk := h.wk hw
    obtain ⟨q, hq, eq⟩ := vp_in_of hwk.2.2.1 (by omega)
    have epl : plc f w = q := by unfold plc; rw [eq, nI_clamp (by omega)]
    have h8 := mN_lt h
    have hrow : ∀ k, keyI k → (stF f w).2 k = f k := fun k hk => st_row f w (by unfold keyI at hk; omega)
    have hrw : ∀ u, wkOK f u → wkOK (stF f w).2 u := by
      intro u hu
      unfold wkOK at hu ⊢
      rw [st_row f w (by omega), st_row f w (by omega), st_row f w (by omega), st_row f w (by omega), st_row f w (by omega)]
      exact hu
    split
    · refine ⟨h.of hrow (fun u hu => hrw u (h.wk hu)), ?_⟩
      unfold mN
      rw [hrow 6 (by unfold keyI; omega)]
    · next hneg =>
      rcases hok.neg with ⟨hn, -⟩ | ⟨j, hj, ej, hm, -⟩
      · exact absurd hn hneg
      · have hb := may_bsd hm
        rw [epl] at hb
        have hb25 : bsd q j < 25 := by rcases bsd_lt q hq j hj with h | h <;> omega
        rw [ej, nI_clamp (by omega), epl, bsV_may hb]
        refine ⟨h.of (fun k hk => ?_) (fun u hu => ?_), ?_⟩
        · rw [pk_un (by unfold keyI at hk; omega), pk_un (by unfold keyI at hk; omega)]
          exact hrow k hk
        · by_cases huw : u = w
          · subst huw
            have hu2 := hrw u hwk
            unfold wkOK at hu2 ⊢
            rw [pk_un (by omega), pk_un (by omega), pk_un (by omega), pk_un (by omega), pk_us, pk_un (by omega), pk_us, pk_un (by omega), pk_un (by omega)]
            exact ⟨hu2.1, hu2.2.1, vp_in_nI hb25 (by omega), vp_in_nI hj (by omega), hu2.2.2.2.2⟩
          · exact wkOK_upd (k := f) (v := f) (wkOK_upd (k := f) (v := f) (hrw u (h.wk hu)) huw (by omega)) huw (by omega)
        · unfold mN
          rw [pk_un (by omega), pk_un (by omega), hrow 6 (by unfold keyI; omega)]
  · exact ⟨h, rfl⟩
theorem WF.wkf {f : Nat → Int32} (h : WF f) {w : Nat} (hw : w < mN f) : WF (wkF f w) ∧ mN (wkF f w) = mN f := by
  unfold wkF
  have h8 := mN_lt h
  split
  · refine ⟨h.of (fun k hk => pk_un (by unfold keyI at hk; omega)) (fun u hu => ?_), ?_⟩
    · by_cases huw : u = w
      · subst huw
        have hu2 := h.wk hu
        unfold wkOK at hu2 ⊢
        rw [pk_un (by omega), pk_un (by omega), pk_un (by omega), pk_un (by omega), pk_us]
        exact ⟨hu2.1, hu2.2.1, hu2.2.2.1, hu2.2.2.2.1, vp_in_nI (by omega) (by omega)⟩
      · exact wkOK_upd (k := f) (v := f) (h.wk hu) huw (by omega)
    · unfold mN
      rw [pk_un (by omega)]
  · exact ⟨h, rfl⟩
theorem WF.foldR {g : (Nat → Int32) → Nat → (Nat → Int32)} (hg : ∀ f w, WF f → w < mN f → WF (g f w) ∧ mN (g f w) = mN f) {f : Nat → Int32} (h : WF f) : ∀ n, n ≤ mN f → WF (foldR g f n) ∧ mN (foldR g f n) = mN f
  | 0, _ => ⟨h, rfl⟩
  | n + 1, hn => by
    have ih := WF.foldR hg h n (by omega)
    have := hg _ n ih.1 (by rw [ih.2]; omega)
    exact ⟨this.1, this.2.trans ih.2⟩
theorem rd_val {f : Nat → Int32} {r : Nat} (hr : r ≤ 12) (h0 : 0 < r) (e5 : f 5 = nI r) (h4 : f 4 = -1 ∨ vp_in (f 4) r) : ∃ l, l < r ∧ f 4 + nI 1 - (f 4 + nI 1) / f 5 * f 5 = nI l ∧ (f 4 = -1 → l = 0) ∧ (∀ j, f 4 = nI j → j < r → l = if j + 1 < r then j + 1 else 0) := by
  rw [e5]
  rcases h4 with h4 | h4
  · refine ⟨0, h0, ?_, fun _ => rfl, fun j hj hjr => ?_⟩
    · rw [h4, show (-1 : Int32) + nI 1 = nI 0 by decide]
      exact (nI_rem (by omega) h0 (by omega)).trans (by rw [Nat.zero_mod])
    · rw [h4] at hj
      have := congrArg Int32.toInt hj
      rw [nI_toInt (by omega)] at this
      exact absurd this (by rw [show (-1 : Int32).toInt = -1 by decide]; omega)
  · obtain ⟨j, hj, ej⟩ := vp_in_of h4 (by omega)
    refine ⟨(j + 1) % r, Nat.mod_lt _ h0, ?_, fun h => ?_, fun i hi hir => ?_⟩
    · rw [ej, nI_s]
      exact nI_rem (by omega) h0 (by omega)
    · rw [ej] at h
      have := congrArg Int32.toInt h
      rw [nI_toInt (by omega)] at this
      exact absurd this (by rw [show (-1 : Int32).toInt = -1 by decide]; omega)
    · have hij : i = j := by
        rw [ej] at hi
        exact ((nI_eq (by omega) (by omega)).mp hi).symm
      subst hij
      by_cases h : i + 1 < r
      · rw [if_pos h, Nat.mod_eq_of_lt h]
      · rw [if_neg h, show i + 1 = r by omega, Nat.mod_self]
theorem WF.rd {f : Nat → Int32} (h : WF f) : WF (rdF f) ∧ mN (rdF f) = mN f := by
  unfold rdF
  split
  · exact ⟨h, rfl⟩
  · next h0 =>
    have h8 := mN_lt h
    have hwk := fun u hu => h.wk (w := u) hu
    obtain ⟨hm, hfl, r, hr, e5, hrs, h4⟩ := h
    have hr0 : 0 < r := by
      rcases Nat.eq_zero_or_pos r with h | h
      · exact absurd (by rw [e5, h]; decide) h0
      · exact h
    obtain ⟨l, hl, el, -⟩ := rd_val hr hr0 e5 (h4.resolve_left (by omega))
    rw [el]
    obtain ⟨n, hn, e6, hws⟩ := hm
    have em : mN f = n := by unfold mN; rw [e6, nI_clamp (by omega)]
    refine ⟨⟨⟨n, hn, by rw [pk_un (by omega), pk_un (by omega)]; exact e6, fun w hw => ?_⟩, fun k a b => by rw [pk_un (by omega), pk_un (by omega)]; exact hfl k a b, r, hr, by rw [pk_un (by omega), pk_un (by omega)]; exact e5, fun k hk => by rw [pk_un (by omega), pk_un (by omega)]; exact hrs k hk, Or.inr (Or.inr (by rw [pk_un (by omega), pk_us]; exact vp_in_nI hl (by omega)))⟩, ?_⟩
    · have := hws w hw
      unfold wkOK at this ⊢
      rw [pk_un (by omega), pk_un (by omega), pk_un (by omega), pk_un (by omega), pk_un (by omega), pk_un (by omega), pk_un (by omega), pk_un (by omega), pk_un (by omega), pk_un (by omega)]
      exact this
    · unfold mN
      rw [pk_un (by omega), pk_un (by omega)]
theorem WF.tk {f : Nat → Int32} (h : WF f) : WF (tkF f) ∧ mN (tkF f) = mN f := by
  unfold tkF
  have h8 := mN_lt h
  refine ⟨h.of (fun k hk => pk_un (by unfold keyI at hk; omega)) (fun u hu => ?_), ?_⟩
  · have := h.wk hu
    unfold wkOK at this ⊢
    rw [pk_un (by omega), pk_un (by omega), pk_un (by omega), pk_un (by omega), pk_un (by omega)]
    exact this
  · unfold mN
    rw [pk_un (by omega)]
theorem WF.min {f : Nat → Int32} (h : WF f) : WF (minF f) ∧ mN (minF f) = mN f := by
  have h1 := h.foldR (g := mvF) (fun f w hf hw => hf.mv hw) (mN f) (Nat.le_refl _)
  have h2 := h1.1.foldR (g := wkF) (fun f w hf hw => hf.wkf hw) (mN f) (by rw [h1.2]; exact Nat.le_refl _)
  have h3 := h2.1.rd
  have h4 := h3.1.tk
  exact ⟨h4.1, h4.2.trans (h3.2.trans (h2.2.trans h1.2))⟩
def sp_X5_minute : SP := spH d_M (fun _ hp => WF (hp.1 53)) (fun _ _ => none) (fun _ hp => rI hp 53 (minF (hp.1 53)))
def E_X5_minute : EN := [(142, false, 2, sp_X5_goes), (136, false, 2, sp_X5_stepOf), (89, false, 4, sp_X5_gets), (59, false, 3, sp_X5_has), (63, true, 2, sp_X5_beside)]
set_option maxRecDepth 100000 in
set_option maxHeartbeats 4000000 in
theorem c_X5_minute : Ctr M_X5_minute sp_X5_minute := by
  refine ctr_of (own := RX5) M_X5_minute sp_X5_minute (P := P_X5_minute) (K := K_X5) (E := E_X5_minute) (by decide) rfl pk_X5_minute K_X5_ok (List.forall_mem_cons.mpr ⟨sc_X5_goes gw_1049 (by decide) (by decide), List.forall_mem_cons.mpr ⟨sc_X5_stepOf gw_997 (by decide) (by decide), List.forall_mem_cons.mpr ⟨sc_X5_gets gw_954 (by decide) (by decide), List.forall_mem_cons.mpr ⟨sc_X5_has gw_924 (by decide) (by decide), List.forall_mem_cons.mpr ⟨sc_X5_beside gw_889 (by decide) (by decide), fun _ h => absurd h List.not_mem_nil⟩⟩⟩⟩⟩) (fun as hp Q h => by obtain ⟨x, hx, -⟩ := spH_e h; rw [d_M_e hx]; exact Nat.le_of_ble_eq_true rfl) ?_
  intro Q G hQi hG as hp h
  obtain ⟨x, hx, hpre, hQ⟩ := spH_e h
  rw [d_M_e hx]
  clear h hx
  generalize hf : hp.1 53 = f at hpre hQ
  have h8 := mN_lt hpre
  have h1 := fun n hn => hpre.foldR (g := mvF) (fun f w hf hw => hf.mv hw) n hn
  have hf1 := h1 (mN f) (Nat.le_refl _)
  have h2 := fun n hn => hf1.1.foldR (g := wkF) (fun f w hf hw => hf.wkf hw) n hn
  have end3 : G 116 [(0, vR 5 52)] [] (rI hp 53 (foldR wkF (foldR mvF f (mN f)) (mN f))) := by
    have hf2 := h2 (mN f) (by rw [hf1.2]; exact Nat.le_refl _)
    unfold minF at hQ
    generalize foldR wkF (foldR mvF f (mN f)) (mN f) = g at hf2 hQ
    have last : ∀ g', Q none (rI hp 53 (tkF g')) → G 166 [(0, vR 5 52)] [] (rI hp 53 g') := by
      intro g' hQ
      refine run hG [] 60 ?_
      refine And.intro (vp_in_nI (by omega) (by omega)) ?_
      refine And.intro (vp_in_nI (by omega) (by omega)) ?_
      refine q_n hQ ?_
      show uI (rI hp 53 g') 53 0 ((rI hp 53 g').1 53 0 + nI 1) = _
      rw [uI_rI, rI_eq]
      rfl
    refine run hG [166] 60 ?_
    refine And.intro (vp_in_nI (by omega) (by omega)) ?_
    refine And.intro (fun h5 => ?_) (fun h5 => ?_)
    · have h5 : (rI hp 53 g).1 53 5 ≤ 0 := h5
      rw [rI_eq] at h5
      refine last g ?_
      have e : rdF g = g := if_pos h5
      rw [e] at hQ
      exact hQ
    · have h5 : ¬ (rI hp 53 g).1 53 5 ≤ 0 := h5
      rw [rI_eq] at h5
      obtain ⟨-, -, r, hr, e5, hrs, h4⟩ := hf2.1
      have hr0 : 0 < r := by
        rcases Nat.eq_zero_or_pos r with h | h
        · exact absurd (by rw [e5, h]; decide) h5
        · exact h
      obtain ⟨l, hl, el, -⟩ := rd_val hr hr0 e5 (h4.resolve_left (by omega))
      have e9 : rdF g = upd (upd g 4 (nI l)) 3 (g (7 + l)) := by
        unfold rdF
        rw [if_neg h5, el, nI_clamp (by omega)]
      rw [e9] at hQ
      have i4 : vp_in (nI 4) 184 := vp_in_nI (by omega) (by omega)
      refine And.intro i4 ?_
      refine And.intro (vp_in_nI (by omega) (by omega)) ?_
      refine And.intro ?_ ?_
      · show ¬ (rI hp 53 g).1 53 5 = 0
        rw [rI_eq, e5]
        exact nI_ne0 hr0 (by omega)
      have ev : (rI hp 53 g).1 53 4 + nI 1 - ((rI hp 53 g).1 53 4 + nI 1) / (rI hp 53 g).1 53 5 * (rI hp 53 g).1 53 5 = nI l := by rw [rI_eq]; exact el
      have eh : uI (rI hp 53 g) 53 4 ((rI hp 53 g).1 53 4 + nI 1 - ((rI hp 53 g).1 53 4 + nI 1) / (rI hp 53 g).1 53 5 * (rI hp 53 g).1 53 5) = rI hp 53 (upd g 4 (nI l)) := by rw [ev, uI_rI]
      refine And.intro i4 ?_
      refine And.intro i4 ?_
      have e7 : (nI 7 + (uI (rI hp 53 g) 53 4 ((rI hp 53 g).1 53 4 + nI 1 - ((rI hp 53 g).1 53 4 + nI 1) / (rI hp 53 g).1 53 5 * (rI hp 53 g).1 53 5)).1 53 4) = nI (7 + l) := by rw [eh, rI_eq, pk_us, nI_add]
      refine And.intro (show vp_in (nI 7 + (uI (rI hp 53 g) 53 4 ((rI hp 53 g).1 53 4 + nI 1 - ((rI hp 53 g).1 53 4 + nI 1) / (rI hp 53 g).1 53 5 * (rI hp 53 g).1 53 5)).1 53 4) 184 by rw [e7]; exact vp_in_nI (by omega) (by omega)) ?_
      refine And.intro (vp_in_nI (by omega) (by omega)) ?_
      have eh2 : uI (uI (rI hp 53 g) 53 4 ((rI hp 53 g).1 53 4 + nI 1 - ((rI hp 53 g).1 53 4 + nI 1) / (rI hp 53 g).1 53 5 * (rI hp 53 g).1 53 5)) 53 3 ((uI (rI hp 53 g) 53 4 ((rI hp 53 g).1 53 4 + nI 1 - ((rI hp 53 g).1 53 4 + nI 1) / (rI hp 53 g).1 53 5 * (rI hp 53 g).1 53 5)).1 53 (nI 7 + (uI (rI hp 53 g) 53 4 ((rI hp 53 g).1 53 4 + nI 1 - ((rI hp 53 g).1 53 4 + nI 1) / (rI hp 53 g).1 53 5 * (rI hp 53 g).1 53 5)).1 53 4).toNatClampNeg) = rI hp 53 (upd (upd g 4 (nI l)) 3 (g (7 + l))) := by
        rw [e7, nI_clamp (by omega), eh, uI_rI, rI_eq, pk_un (by omega)]
      have k9 := last (upd (upd g 4 (nI l)) 3 (g (7 + l))) hQ
      rw [← eh2] at k9
      exact k9
  have key2 := for_up (P := fun k => G 68 [(1, vI (nI k)), (0, vR 5 52)] [] (rI hp 53 (foldR wkF (foldR mvF f (mN f)) k))) (mN f) (by
    have hg := h2 (mN f) (by rw [hf1.2]; exact Nat.le_refl _)
    have e6 : (rI hp 53 (foldR wkF (foldR mvF f (mN f)) (mN f))).1 53 (nI 6).toNatClampNeg = nI (mN f) := by
      rw [rI_eq]
      have := mN_eq hg.1
      rw [hg.2, hf1.2] at this
      exact this
    refine run hG [68, 116] 60 ?_
    refine And.intro (vp_in_nI (by omega) (by omega)) ?_
    refine And.intro (fun h => ?_) (fun h => absurd ?_ h)
    · exact cl_use hG end3 ⟨rfl, trivial⟩
    · show (rI hp 53 (foldR wkF (foldR mvF f (mN f)) (mN f))).1 53 (nI 6).toNatClampNeg ≤ nI (mN f)
      rw [e6]
      exact nI_le (Nat.le_refl _) (by omega)) (by
    intro k hk ih
    have hg := h2 k (by rw [hf1.2]; omega)
    have hmg : mN (foldR wkF (foldR mvF f (mN f)) k) = mN f := hg.2.trans hf1.2
    have ih : G 68 [(1, vI (nI (k + 1))), (0, vR 5 52)] [] (rI hp 53 (wkF (foldR wkF (foldR mvF f (mN f)) k) k)) := ih
    show G 68 [(1, vI (nI k)), (0, vR 5 52)] [] (rI hp 53 (foldR wkF (foldR mvF f (mN f)) k))
    generalize foldR wkF (foldR mvF f (mN f)) k = g at hg hmg ih
    have eg : (rI hp 53 g).1 53 = g := rI_eq hp 53 g
    have e6 : (rI hp 53 g).1 53 (nI 6).toNatClampNeg = nI (mN f) := by rw [eg, ← hmg]; exact mN_eq hg.1
    have hwk := hg.1.wk (w := k) (by rw [show (g 6).toNatClampNeg = mN g from rfl, hmg]; exact hk)
    have ek : (nI k).toNatClampNeg = k := nI_clamp (by omega)
    have hk8 : vp_in (nI k) 8 := vp_in_nI (by omega) (by omega)
    refine run hG [68, 116] 60 ?_
    refine And.intro (vp_in_nI (by omega) (by omega)) ?_
    refine And.intro (fun h => absurd ?_ (nI_ge hk (by omega))) (fun h => ?_)
    · have h : (rI hp 53 g).1 53 (nI 6).toNatClampNeg ≤ nI k := h
      rw [e6] at h
      exact h
    have nxt : ∀ hq, hq = rI hp 53 (wkF g k) → G 68 [(1, vI (nI k + nI 1)), (0, vR 5 52)] [] hq := by
      intro hq e
      rw [e, nI_s]
      exact ih
    refine And.intro ⟨hk8, show vp_in ((rI hp 53 g).1 53 (144 + 5 * (nI k).toNatClampNeg + 2)) 25 by rw [eg, ek]; exact hwk.2.2.1⟩ ?_
    refine And.intro (fun h3 => ?_) (fun h3 => ?_)
    · have h3 : goB ((rI hp 53 g).1 53) (nI k).toNatClampNeg = false := bB_0.mp h3
      rw [eg, ek] at h3
      exact cl_use hG (nxt _ (by unfold wkF; rw [if_neg (by rw [h3]; simp)])) ⟨rfl, rfl, trivial⟩
    · have h3 : goB ((rI hp 53 g).1 53) (nI k).toNatClampNeg = true := bB_1.mp h3
      rw [eg, ek] at h3
      refine And.intro ⟨hk8, vp_in_nI (by omega) (by omega)⟩ ?_
      refine And.intro (vp_in_nI (by omega) (by omega)) ?_
      refine And.intro (fun h4 => ?_) (fun h4 => ?_)
      · have h4 : ¬ (rI hp 53 g).1 53 (144 + 5 * (nI k).toNatClampNeg + 2) = (rI hp 53 g).1 53 3 := h4
        rw [eg, ek] at h4
        exact cl_use hG (nxt _ (by unfold wkF; rw [if_neg (fun h => h4 h.2)])) ⟨rfl, rfl, trivial⟩
      · have h4 : (rI hp 53 g).1 53 (144 + 5 * (nI k).toNatClampNeg + 2) = (rI hp 53 g).1 53 3 := h4
        rw [eg, ek] at h4
        refine And.intro ⟨hk8, vp_in_nI (by omega) (by omega)⟩ ?_
        refine cl_use hG (nxt _ ?_) ⟨rfl, rfl, trivial⟩
        show uI (rI hp 53 g) 53 (144 + 5 * (nI k).toNatClampNeg + 4) (nI 1) = _
        rw [uI_rI, ek]
        unfold wkF
        rw [if_pos ⟨h3, h4⟩]) 0 (by omega)
  have key1 := for_up (P := fun k => G 2 [(1, vI (nI k)), (0, vR 5 52)] [] (rI hp 53 (foldR mvF f k))) (mN f) (by
    have e6 : (rI hp 53 (foldR mvF f (mN f))).1 53 (nI 6).toNatClampNeg = nI (mN f) := by
      rw [rI_eq]
      have := mN_eq hf1.1
      rw [hf1.2] at this
      exact this
    refine run hG [2, 68] 60 ?_
    refine And.intro (vp_in_nI (by omega) (by omega)) ?_
    refine And.intro (fun h => ?_) (fun h => absurd ?_ h)
    · exact cl_use hG key2 ⟨rfl, rfl, trivial⟩
    · show (rI hp 53 (foldR mvF f (mN f))).1 53 (nI 6).toNatClampNeg ≤ nI (mN f)
      rw [e6]
      exact nI_le (Nat.le_refl _) (by omega)) (by
    intro k hk ih
    have hg := h1 k (by omega)
    have ih : G 2 [(1, vI (nI (k + 1))), (0, vR 5 52)] [] (rI hp 53 (mvF (foldR mvF f k) k)) := ih
    show G 2 [(1, vI (nI k)), (0, vR 5 52)] [] (rI hp 53 (foldR mvF f k))
    generalize foldR mvF f k = g at hg ih
    have hmg : mN g = mN f := hg.2
    have eg : (rI hp 53 g).1 53 = g := rI_eq hp 53 g
    have e6 : (rI hp 53 g).1 53 (nI 6).toNatClampNeg = nI (mN f) := by rw [eg, ← hmg]; exact mN_eq hg.1
    have hwk := hg.1.wk (w := k) (by rw [show (g 6).toNatClampNeg = mN g from rfl, hmg]; exact hk)
    have ek : (nI k).toNatClampNeg = k := nI_clamp (by omega)
    have hk8 : vp_in (nI k) 8 := vp_in_nI (by omega) (by omega)
    refine run hG [2, 68] 60 ?_
    refine And.intro (vp_in_nI (by omega) (by omega)) ?_
    refine And.intro (fun h => absurd ?_ (nI_ge hk (by omega))) (fun h => ?_)
    · have h : (rI hp 53 g).1 53 (nI 6).toNatClampNeg ≤ nI k := h
      rw [e6] at h
      exact h
    have nxt : ∀ hq, hq = rI hp 53 (mvF g k) → G 2 [(1, vI (nI k + nI 1)), (0, vR 5 52)] [] hq := by
      intro hq e
      rw [e, nI_s]
      exact ih
    refine And.intro ⟨hk8, show vp_in ((rI hp 53 g).1 53 (144 + 5 * (nI k).toNatClampNeg + 2)) 25 by rw [eg, ek]; exact hwk.2.2.1⟩ ?_
    refine And.intro (fun h3 => ?_) (fun h3 => ?_)
    · have h3 : goB ((rI hp 53 g).1 53) (nI k).toNatClampNeg = false := bB_0.mp h3
      rw [eg, ek] at h3
      refine And.intro (fun h4 => ?_) (fun h4 => absurd (by decide) h4)
      exact cl_use hG (nxt _ (by unfold mvF; rw [if_neg (by rw [h3]; decide)])) ⟨rfl, rfl, trivial⟩
    · have h3 : goB ((rI hp 53 g).1 53) (nI k).toNatClampNeg = true := bB_1.mp h3
      rw [eg, ek] at h3
      have em : mvF g k = if (stF g k).1 < 0 then (stF g k).2 else upd (upd (stF g k).2 (144 + 5 * k + 3) (stF g k).1) (144 + 5 * k + 2) (bsV (plc g k) (stF g k).1.toNatClampNeg) := by unfold mvF; rw [if_pos h3]
      refine And.intro ⟨hk8, show wkOK ((rI hp 53 g).1 53) (nI k).toNatClampNeg by rw [eg, ek]; exact hwk⟩ ?_
      have es : stF ((rI hp 53 g).1 53) (nI k).toNatClampNeg = stF g k := by rw [eg, ek]
      have eh : rI (rI hp 53 g) 53 (stF ((rI hp 53 g).1 53) (nI k).toNatClampNeg).2 = rI hp 53 (stF g k).2 := by rw [es, rI_rI]
      refine And.intro (fun h4 => ?_) (fun h4 => ?_)
      · have h4 : (stF ((rI hp 53 g).1 53) (nI k).toNatClampNeg).1 < 0 := h4
        rw [es] at h4
        rw [if_pos h4] at em
        exact cl_use hG (nxt (rI (rI hp 53 g) 53 (stF ((rI hp 53 g).1 53) (nI k).toNatClampNeg).2) (by rw [eh, em])) ⟨rfl, rfl, trivial⟩
      · have h4 : ¬ (stF ((rI hp 53 g).1 53) (nI k).toNatClampNeg).1 < 0 := h4
        rw [es] at h4
        rw [if_neg h4] at em
        rcases (st_ok g k).neg with ⟨hn, -⟩ | ⟨j, hj, ej, hm, -⟩
        · exact absurd hn h4
        have hv4 : vp_in (stF ((rI hp 53 g).1 53) (nI k).toNatClampNeg).1 4 := by rw [es, ej]; exact vp_in_nI hj (by omega)
        refine And.intro ⟨hk8, vp_in_nI (by omega) (by omega)⟩ ?_
        refine And.intro ⟨hk8, vp_in_nI (by omega) (by omega)⟩ ?_
        have hr1 : ∀ _ : Nat, (uI (rI (rI hp 53 g) 53 (stF ((rI hp 53 g).1 53) (nI k).toNatClampNeg).2) 53 (144 + 5 * (nI k).toNatClampNeg + 3) (stF ((rI hp 53 g).1 53) (nI k).toNatClampNeg).1) = rI hp 53 (upd (stF g k).2 (144 + 5 * k + 3) (stF g k).1) := by
          intro _
          rw [eh, es, uI_rI, ek]
        have hr2 : (uI (rI (rI hp 53 g) 53 (stF ((rI hp 53 g).1 53) (nI k).toNatClampNeg).2) 53 (144 + 5 * (nI k).toNatClampNeg + 3) (stF ((rI hp 53 g).1 53) (nI k).toNatClampNeg).1).1 53 (144 + 5 * (nI k).toNatClampNeg + 2) = g (144 + 5 * k + 2) := by
          rw [hr1 0, rI_eq, ek, pk_un (by omega), st_row g k (by omega)]
        refine And.intro ⟨?_, hv4⟩ ?_
        · show vp_in ((uI (rI (rI hp 53 g) 53 (stF ((rI hp 53 g).1 53) (nI k).toNatClampNeg).2) 53 (144 + 5 * (nI k).toNatClampNeg + 3) (stF ((rI hp 53 g).1 53) (nI k).toNatClampNeg).1).1 53 (144 + 5 * (nI k).toNatClampNeg + 2)) 25
          rw [hr2]
          exact hwk.2.2.1
        refine And.intro ⟨hk8, vp_in_nI (by omega) (by omega)⟩ ?_
        refine cl_use hG (nxt _ ?_) ⟨rfl, rfl, trivial⟩
        show uI (uI (rI (rI hp 53 g) 53 (stF ((rI hp 53 g).1 53) (nI k).toNatClampNeg).2) 53 (144 + 5 * (nI k).toNatClampNeg + 3) (stF ((rI hp 53 g).1 53) (nI k).toNatClampNeg).1) 53 (144 + 5 * (nI k).toNatClampNeg + 2) (bsV ((uI (rI (rI hp 53 g) 53 (stF ((rI hp 53 g).1 53) (nI k).toNatClampNeg).2) 53 (144 + 5 * (nI k).toNatClampNeg + 3) (stF ((rI hp 53 g).1 53) (nI k).toNatClampNeg).1).1 53 (144 + 5 * (nI k).toNatClampNeg + 2)).toNatClampNeg (stF ((rI hp 53 g).1 53) (nI k).toNatClampNeg).1.toNatClampNeg) = _
        rw [hr2, hr1 0, uI_rI, es, ek, em]
        rfl) 0 (by omega)
  have key1 : G 2 [(1, vI (nI 0)), (0, vR 5 52)] [] (rI hp 53 f) := key1
  rw [← hf, rI_self] at key1
  refine run hG [2] 60 ?_
  exact cl_use hG key1 ⟨rfl, rfl, trivial⟩
theorem sc_X5_minute {own : String} {F L idx : Nat} (h1 : Cond.methodLink own idx yX5_minute ∈ Gw) (hF : 6 ≤ F) (hL : 138 ≤ L) : SC own F L (idx, false, 1, sp_X5_minute) := SC_V spH_mono c_X5_minute okd_5 (fun as hp K h => by obtain ⟨x, hx, -⟩ := spH_e h; exact ⟨_, _, d_M_e hx⟩) h1 gw_1047 gw_41 gw_75 gw_1048 (by decide +kernel) hF hL
def goF (f : Nat → Int32) : Nat → (Nat → Int32)
  | 0 => f
  | n + 1 => minF (goF f n)
theorem WF.go {f : Nat → Int32} (h : WF f) : ∀ n, WF (goF f n) ∧ mN (goF f n) = mN f
  | 0 => ⟨h, rfl⟩
  | n + 1 => by
    have ih := WF.go h n
    have := ih.1.min
    exact ⟨this.1, this.2.trans ih.2⟩
def sp_X5_go : SP := spH d_M_I (fun x hp => WF (hp.1 53) ∧ vp_in x 1000) (fun _ _ => none) (fun x hp => rI hp 53 (goF (hp.1 53) x.toNatClampNeg))
def E_X5_go : EN := [(145, false, 1, sp_X5_minute)]
set_option maxRecDepth 100000 in
set_option maxHeartbeats 4000000 in
theorem c_X5_go : Ctr M_X5_go sp_X5_go := by
  refine ctr_of (own := RX5) M_X5_go sp_X5_go (P := P_X5_go) (K := K_X5) (E := E_X5_go) (by decide) rfl pk_X5_go K_X5_ok (List.forall_mem_cons.mpr ⟨sc_X5_minute gw_1045 (by decide) (by decide), fun _ h => absurd h List.not_mem_nil⟩) (fun as hp Q h => by obtain ⟨x, hx, -⟩ := spH_e h; rw [d_M_I_e hx]; exact Nat.le_of_ble_eq_true rfl) ?_
  intro Q G hQi hG as hp h
  obtain ⟨x, hx, hpre, hQ⟩ := spH_e h
  rw [d_M_I_e hx]
  clear h hx
  obtain ⟨hwf, hx⟩ := hpre
  obtain ⟨n, hn, rfl⟩ := vp_in_of hx (by omega)
  rw [nI_clamp (by omega)] at hQ
  generalize hf : hp.1 53 = f at hwf hQ
  have key := for_up (P := fun k => G 2 [(2, vI (nI k)), (0, vR 5 52), (1, vI (nI n))] [] (rI hp 53 (goF f k))) n (by
    refine run hG [2] 60 ?_
    exact And.intro (fun h1 => hQ) (fun h1 => absurd (nI_le (Nat.le_refl _) (by omega)) h1)) (by
    intro k hk ih
    refine run hG [2] 60 ?_
    refine And.intro (fun h1 => absurd h1 (nI_ge hk (by omega))) (fun h1 => ?_)
    refine And.intro (show WF ((rI hp 53 (goF f k)).1 53) by rw [rI_eq]; exact (hwf.go k).1) ?_
    refine cl_lv hG [(2, vI (nI k + nI 1)), (0, vR 5 52), (1, vI (nI n))] ⟨rfl, rfl, rfl, trivial⟩ ?_
    rw [nI_s]
    show G 2 _ [] (rI (rI hp 53 (goF f k)) 53 (minF ((rI hp 53 (goF f k)).1 53)))
    rw [rI_rI, rI_eq]
    exact ih) 0 (by omega)
  have key : G 2 [(2, vI (nI 0)), (0, vR 5 52), (1, vI (nI n))] [] (rI hp 53 f) := key
  rw [← hf, rI_self] at key
  refine run hG [2] 60 ?_
  exact cl_use hG key ⟨rfl, rfl, rfl, trivial⟩
theorem sc_X5_go {own : String} {F L idx : Nat} (h1 : Cond.methodLink own idx yX5_go ∈ Gw) (hF : 7 ≤ F) (hL : 160 ≤ L) : SC own F L (idx, false, 2, sp_X5_go) := SC_V spH_mono c_X5_go okd_5 (fun as hp K h => by obtain ⟨x, hx, -⟩ := spH_e h; exact ⟨_, _, d_M_I_e hx⟩) h1 gw_1043 gw_40 gw_75 gw_1044 (by decide +kernel) hF hL
