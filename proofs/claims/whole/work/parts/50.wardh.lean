/-! a minute of the class's ward -/
def frm (w : Nat) (hp hq : HP) : Prop := ∀ c, (c < w ∨ w + 12 ≤ c) → hq.1 c = hp.1 c ∧ hq.2 c = hp.2 c
theorem frm_r (w : Nat) (hp : HP) : frm w hp hp := fun _ _ => ⟨rfl, rfl⟩
theorem frm_t {w : Nat} {hp hq hr : HP} (h : frm w hp hq) (h2 : frm w hq hr) : frm w hp hr := fun c hc => ⟨(h2 c hc).1.trans (h c hc).1, (h2 c hc).2.trans (h c hc).2⟩
theorem frm_u {w : Nat} {hp hq : HP} (h : frm w hp hq) {c k : Nat} {v : Int32} (hc : w ≤ c) (hc2 : c < w + 12) : frm w hp (uI hq c k v) := fun d hd => ⟨(uI_row _ _ _ (by omega)).trans (h d hd).1, (h d hd).2⟩
theorem frm_uL {w : Nat} {hp hq : HP} (h : frm w hp hq) {c k : Nat} {v : Int64} (hc : w ≤ c) (hc2 : c < w + 12) : frm w hp (uL hq c k v) := fun d hd => ⟨(h d hd).1, by rw [uL_r, rL_ne _ _ (by omega)]; exact (h d hd).2⟩
/-- besides, the ward's numbers of bits are what they were -/
def frs (w : Nat) (hp hq : HP) : Prop := frm w hp hq ∧ hq.2 w 0 = hp.2 w 0 ∧ hq.1 w 2 = hp.1 w 2 ∧ hq.1 w 3 = hp.1 w 3
theorem frs_r (w : Nat) (hp : HP) : frs w hp hp := ⟨frm_r w hp, rfl, rfl, rfl⟩
theorem frs_t {w : Nat} {hp hq hr : HP} (h : frs w hp hq) (h2 : frs w hq hr) : frs w hp hr := ⟨frm_t h.1 h2.1, h2.2.1.trans h.2.1, h2.2.2.1.trans h.2.2.1, h2.2.2.2.trans h.2.2.2⟩
theorem frs_u {w : Nat} {hp hq : HP} (h : frs w hp hq) {c k : Nat} {v : Int32} (hc : w ≤ c) (hc2 : c < w + 12) (hk : c ≠ w ∨ (k ≠ 2 ∧ k ≠ 3)) : frs w hp (uI hq c k v) := ⟨frm_u h.1 hc hc2, h.2.1, by rw [uI_at, if_neg (by omega)]; exact h.2.2.1, by rw [uI_at, if_neg (by omega)]; exact h.2.2.2⟩
theorem rw_0 (hp : HP) (w : Nat) : rw_ hp w 0 = hp.1 w 5 := rw_lo hp w (k := 0) (by omega)
theorem ru_0 (hp : HP) (w : Nat) (v : Int32) : rw_ (uI hp w 5 v) w = upd (rw_ hp w) 0 v := rw_u0 hp w v (d := 0) (by omega) rfl
theorem rw_1 (hp : HP) (w : Nat) : rw_ hp w 1 = hp.1 w 6 := rw_lo hp w (k := 1) (by omega)
theorem ru_1 (hp : HP) (w : Nat) (v : Int32) : rw_ (uI hp w 6 v) w = upd (rw_ hp w) 1 v := rw_u0 hp w v (d := 1) (by omega) rfl
theorem rw_2 (hp : HP) (w : Nat) : rw_ hp w 2 = hp.1 w 4 := rw_lo hp w (k := 2) (by omega)
theorem ru_2 (hp : HP) (w : Nat) (v : Int32) : rw_ (uI hp w 4 v) w = upd (rw_ hp w) 2 v := rw_u0 hp w v (d := 2) (by omega) rfl
theorem rw_3 (hp : HP) (w : Nat) : rw_ hp w 3 = hp.1 w 7 := rw_lo hp w (k := 3) (by omega)
theorem ru_3 (hp : HP) (w : Nat) (v : Int32) : rw_ (uI hp w 7 v) w = upd (rw_ hp w) 3 v := rw_u0 hp w v (d := 3) (by omega) rfl
theorem rw_4 (hp : HP) (w : Nat) : rw_ hp w 4 = hp.1 w 10 := rw_lo hp w (k := 4) (by omega)
theorem ru_4 (hp : HP) (w : Nat) (v : Int32) : rw_ (uI hp w 10 v) w = upd (rw_ hp w) 4 v := rw_u0 hp w v (d := 4) (by omega) rfl
theorem rw_5 (hp : HP) (w : Nat) : rw_ hp w 5 = hp.1 w 9 := rw_lo hp w (k := 5) (by omega)
theorem ru_5 (hp : HP) (w : Nat) (v : Int32) : rw_ (uI hp w 9 v) w = upd (rw_ hp w) 5 v := rw_u0 hp w v (d := 5) (by omega) rfl
theorem rw_6 (hp : HP) (w : Nat) : rw_ hp w 6 = hp.1 w 12 := rw_lo hp w (k := 6) (by omega)
theorem ru_6 (hp : HP) (w : Nat) (v : Int32) : rw_ (uI hp w 12 v) w = upd (rw_ hp w) 6 v := rw_u0 hp w v (d := 6) (by omega) rfl
def cmB (g : Nat → Int32) (k : Nat) : Bool := inR (mvF g k) k && !inR g k
def cm (f : Nat → Int32) : Nat → Nat
  | 0 => 0
  | k + 1 => cm f k + (if cmB (foldR mvF f k) k = true then 1 else 0)
theorem cm_le (f : Nat → Int32) : ∀ k, cm f k ≤ k
  | 0 => Nat.le_refl _
  | k + 1 => by
    have := cm_le f k
    show cm f k + (if cmB (foldR mvF f k) k = true then 1 else 0) ≤ k + 1
    split <;> omega
theorem st_r1 (g : Nat → Int32) (k : Nat) : upd g 1 ((stF g k).2 1) = (stF g k).2 := by
  funext j
  rw [upd_at]
  split
  · next h => rw [h]
  · next h => exact (st_row g k h).symm
def sp_X3_goMinute : SP := spF d_W (fun w hp => WF (rw_ hp w)) (fun w hp v hq => v = some (vI (nI (cm (rw_ hp w) (mN (rw_ hp w))))) ∧ rw_ hq w = minF (rw_ hp w) ∧ frs w hp hq)
def E_X3_goMinute : EN := [(97, false, 2, sp_X3_isRiver), (143, false, 2, sp_X3_stepOf), (86, true, 2, sp_X3_squareBeside)]
set_option maxRecDepth 100000 in
set_option maxHeartbeats 4000000 in
theorem c_X3_goMinute : Ctr M_X3_goMinute sp_X3_goMinute := by
  refine ctr_of (own := RX3) M_X3_goMinute sp_X3_goMinute (P := P_X3_goMinute) (K := K_X3) (E := E_X3_goMinute) (by decide) rfl pk_X3_goMinute K_X3_ok (List.forall_mem_cons.mpr ⟨sc_X3_isRiver gw_337 (by decide) (by decide), List.forall_mem_cons.mpr ⟨sc_X3_stepOf gw_468 (by decide) (by decide), List.forall_mem_cons.mpr ⟨sc_X3_squareBeside gw_294 (by decide) (by decide), fun _ h => absurd h List.not_mem_nil⟩⟩⟩) (fun as hp Q h => by obtain ⟨x, hx, -⟩ := spF_e h; rw [d_W_e hx]; exact Nat.le_of_ble_eq_true rfl) ?_
  intro Q G hQi hG as hp h
  obtain ⟨x, hx, hpre, hQ⟩ := spF_e h
  rw [d_W_e hx]
  clear h hx
  have hw0 : WF (rw_ hp x) := hpre
  have hQ : ∀ v hq, (v = some (vI (nI (cm (rw_ hp x) (mN (rw_ hp x))))) ∧ rw_ hq x = minF (rw_ hp x) ∧ frs x hp hq) → Q v hq := hQ
  generalize x = w at hw0 hQ
  generalize hf : rw_ hp w = f at hw0 hQ
  have h8 := mN_lt hw0
  have hA := fun n hn => hw0.foldR (g := mvF) (fun f w hf hw => hf.mv hw) n hn
  have hA1 := hA (mN f) (Nat.le_refl _)
  have hB := fun n (hn : n ≤ mN f) => hA1.1.foldR (g := wkF) (fun f w hf hw => hf.wkf hw) n (by rw [hA1.2]; exact hn)
  unfold minF at hQ
  have hcm := cm_le f (mN f)
  generalize hfa : foldR mvF f (mN f) = fa at hA1 hB hQ
  have hB1 := hB (mN f) (Nat.le_refl _)
  generalize hfb : foldR wkF fa (mN f) = fb at hB1 hQ
  -- the minute's number
  have k205 : ∀ H : HP, rw_ H w = rdF fb → frs w hp H → G 205 [(1, vI (nI (cm f (mN f)))), (0, vR 1 w)] [] H := by
    intro H e hfr
    have e0 : H.1 w 5 = rdF fb 0 := by rw [← e, rw_0]
    refine run hG [] 60 ?_
    refine hQ _ _ ⟨rfl, ?_, frs_u hfr (by omega) (by omega) (by omega)⟩
    show rw_ (uI H w 5 (H.1 w 5 + nI 1)) w = _
    rw [ru_0, e, e0]
    rfl
  -- the rounds
  have k158 : ∀ H : HP, rw_ H w = fb → frs w hp H → G 158 [(1, vI (nI (cm f (mN f)))), (0, vR 1 w)] [] H := by
    intro H e hfr
    have e5 : H.1 w 9 = fb 5 := by rw [← e, rw_5]
    have e4 : H.1 w 10 = fb 4 := by rw [← e, rw_4]
    refine run hG [205, 189] 60 ?_
    refine And.intro (fun h1 => ?_) (fun h1 => ?_)
    · have h1 : H.1 w 9 ≤ 0 := h1
      rw [e5] at h1
      exact cl_use hG (k205 H (by rw [e]; unfold rdF; rw [if_pos h1]) hfr) ⟨rfl, rfl, trivial⟩
    · have h1 : ¬ H.1 w 9 ≤ 0 := h1
      rw [e5] at h1
      obtain ⟨-, -, r, hr, er5, hrs, h4⟩ := hB1.1
      have hr0 : 0 < r := by
        rcases Nat.eq_zero_or_pos r with h | h
        · exact absurd (by rw [er5, h]; decide) h1
        · exact h
      have h4' := h4.resolve_left (by omega)
      obtain ⟨l, hl, el, el1, el2⟩ := rd_val hr hr0 er5 h4'
      have hrd : rdF fb = upd (upd fb 4 (nI l)) 3 (fb (7 + l)) := by
        unfold rdF
        rw [if_neg h1, el, nI_clamp (by omega)]
      have k189 : ∀ y, y = nI l → G 189 [(1, vI (nI (cm f (mN f)))), (0, vR 1 w)] [vI y, vR 1 w] H := by
        intro y hy
        subst hy
        have eL : (uI H w 10 (nI l)).1 w 10 = nI l := uI_same _ _ _ _
        refine run hG [205] 60 ?_
        refine And.intro (show vp_in ((uI H w 10 (nI l)).1 w 10) 12 by rw [eL]; exact vp_in_nI (by omega) (by omega)) ?_
        refine cl_use hG (k205 _ ?_ (frs_u (frs_u hfr (by omega) (by omega) (by omega)) (by omega) (by omega) (by omega))) ⟨rfl, rfl, trivial⟩
        show rw_ (uI (uI H w 10 (nI l)) w 7 ((uI H w 10 (nI l)).1 (w + 2) ((uI H w 10 (nI l)).1 w 10).toNatClampNeg)) w = rdF fb
        rw [ru_3, ru_4, e, eL, nI_clamp (by omega), uI_row _ _ _ (by omega), hrd]
        rw [show H.1 (w + 2) l = fb (7 + l) by rw [← e]; exact (rw_rd H w (by omega)).symm]
      have e4l : fb 4 = -1 ∨ ∃ j, j < r ∧ fb 4 = nI j := by
        rcases h4' with h | h
        · exact Or.inl h
        · obtain ⟨j, hj, ej⟩ := vp_in_of h (by omega)
          exact Or.inr ⟨j, hj, ej⟩
      refine And.intro (fun h2 => ?_) (fun h2 => ?_)
      · have h2 : H.1 w 9 ≤ H.1 w 10 + nI 1 := h2
        rw [e5, e4, er5] at h2
        refine cl_use hG (k189 (nI 0) ?_) ⟨rfl, rfl, trivial⟩
        rcases e4l with h | ⟨j, hj, ej⟩
        · rw [el1 h]
        · rw [ej, nI_s, nI_leI (by omega) (by omega)] at h2
          rw [el2 j ej hj, if_neg (by omega)]
      · have h2 : ¬ H.1 w 9 ≤ H.1 w 10 + nI 1 := h2
        rw [e5, e4, er5] at h2
        refine cl_use hG (k189 (H.1 w 10 + nI 1) ?_) ⟨rfl, rfl, trivial⟩
        rw [e4]
        rcases e4l with h | ⟨j, hj, ej⟩
        · rw [h, el1 h]
          decide
        · rw [ej, nI_s, nI_leI (by omega) (by omega)] at h2
          rw [el2 j ej hj, if_pos (by omega), ej, nI_s]
  -- who wakes
  have wake := for_up (P := fun k => ∀ H : HP, rw_ H w = foldR wkF fa k → frs w hp H → G 110 [(2, vI (nI k)), (1, vI (nI (cm f (mN f)))), (0, vR 1 w)] [] H) (mN f) (by
    intro H e hfr
    rw [hfb] at e
    have e6 : H.1 w 12 = nI (mN f) := by
      have h := mN_eq hB1.1
      rw [hB1.2, hA1.2] at h
      rw [← h, ← e, rw_6]
    refine run hG [110, 158] 60 ?_
    refine And.intro (fun h1 => ?_) (fun h1 => absurd (show H.1 w 12 ≤ nI (mN f) by rw [e6]; exact nI_le (Nat.le_refl _) (by omega)) h1)
    exact cl_use hG (k158 H e hfr) ⟨rfl, rfl, trivial⟩) (by
    intro k hk ih H e hfr
    have hBk := hB k (by omega)
    have ih : ∀ H : HP, rw_ H w = wkF (foldR wkF fa k) k → frs w hp H → G 110 [(2, vI (nI (k + 1))), (1, vI (nI (cm f (mN f)))), (0, vR 1 w)] [] H := ih
    generalize foldR wkF fa k = g at e hBk ih
    have hmg : mN g = mN f := hBk.2.trans hA1.2
    have e6 : H.1 w 12 = nI (mN f) := by
      have h := mN_eq hBk.1
      rw [hmg] at h
      rw [← h, ← e, rw_6]
    have hwk := hBk.1.wk (w := k) (by show k < mN g; omega)
    have ek : (nI k).toNatClampNeg = k := nI_clamp (by omega)
    have ep : H.1 (w + 3 + 1 + (nI k).toNatClampNeg) 2 = g (144 + 5 * k + 2) := by rw [ek, ← e, rw_wk H w (by omega) (by omega)]
    have e3 : H.1 w 7 = g 3 := by rw [← e, rw_3]
    have skip : wkF g k = g → G 110 [(2, vI (nI k + nI 1)), (1, vI (nI (cm f (mN f)))), (0, vR 1 w)] [] H := fun h => by
      rw [nI_s]
      exact ih H (by rw [h]; exact e) hfr
    refine run hG [110, 158] 60 ?_
    refine And.intro (fun h1 => ?_) (fun h1 => ?_)
    · have h1 : H.1 w 12 ≤ nI k := h1
      rw [e6] at h1
      exact absurd h1 (nI_ge hk (by omega))
    refine And.intro (vp_in_nI (by omega) (by omega)) ?_
    refine And.intro (fun h2 => ?_) (fun h2 => ?_)
    · have h2 : ¬ H.1 (w + 3 + 1 + (nI k).toNatClampNeg) 2 = H.1 w 7 := h2
      rw [ep, e3] at h2
      exact cl_use hG (skip (by unfold wkF; exact if_neg (fun h => h2 h.2))) ⟨rfl, rfl, rfl, trivial⟩
    · have h2 : H.1 (w + 3 + 1 + (nI k).toNatClampNeg) 2 = H.1 w 7 := h2
      rw [ep, e3] at h2
      have h25 : vp_in (g 3) 25 := h2 ▸ hwk.2.2.1
      refine And.intro (show vp_in (H.1 w 7) 25 by rw [e3]; exact h25) ?_
      have erv : bI (H.1 w 3) (H.1 w 7).toNatClampNeg = g (69 + plc g k) := by
        unfold plc
        rw [e3, h2, ← rw_rv H w (ix_lt h25), e]
      have hin : inR g k = decide (g (69 + plc g k) = nI 1) := rfl
      have h01 := bI_01 (H.1 w 3) (d := (H.1 w 7).toNatClampNeg) (by rw [e3]; have := ix_lt h25; omega)
      rw [erv] at h01
      refine And.intro (fun h3 => ?_) (fun h3 => ?_)
      · have h3 : ¬ bI (H.1 w 3) (H.1 w 7).toNatClampNeg = 0 := h3
        rw [erv] at h3
        refine cl_use hG (skip ?_) ⟨rfl, rfl, rfl, trivial⟩
        unfold wkF goB
        rw [hin, h01.resolve_left h3]
        exact if_neg (fun h => by have := (Bool.and_eq_true_iff.mp h.1).2; exact absurd this (by decide))
      · have h3 : bI (H.1 w 3) (H.1 w 7).toNatClampNeg = 0 := h3
        rw [erv] at h3
        refine And.intro (Or.inr rfl) ?_
        refine cl_lv hG [(2, vI (nI k + nI 1)), (1, vI (nI (cm f (mN f)))), (0, vR 1 w)] ⟨rfl, rfl, rfl, trivial⟩ ?_
        rw [nI_s]
        refine ih _ ?_ (frs_u hfr (by omega) (by rw [ek]; omega) (by omega))
        show rw_ (uI H (w + 3 + 1 + (nI k).toNatClampNeg) 4 (nI 1)) w = _
        rw [ek, show w + 3 + 1 + k = w + 4 + k by omega, rw_u4 H w _ (by omega) (by omega), e]
        unfold wkF goB
        rw [hin, h3]
        obtain ⟨a, ha, ea⟩ := vp_in_of hwk.2.2.2.2 (by omega)
        rcases (show a = 0 ∨ a = 1 by omega) with h0 | h0
        · subst h0
          rw [if_pos ⟨by rw [ea]; decide, h2⟩]
        · subst h0
          rw [if_neg (fun h => by have := (Bool.and_eq_true_iff.mp h.1).1; rw [ea] at this; exact absurd this (by decide)), ← ea, upd_self]) 0 (by omega)
  -- who goes
  have go := for_up (P := fun k => ∀ H : HP, rw_ H w = foldR mvF f k → frs w hp H → G 4 [(2, vI (nI k)), (1, vI (nI (cm f k))), (0, vR 1 w)] [] H) (mN f) (by
    intro H e hfr
    rw [hfa] at e
    have e6 : H.1 w 12 = nI (mN f) := by
      have h := mN_eq hA1.1
      rw [hA1.2] at h
      rw [← h, ← e, rw_6]
    have k9 := wake H e hfr
    refine run hG [4, 110] 60 ?_
    refine And.intro (fun h1 => ?_) (fun h1 => absurd (show H.1 w 12 ≤ nI (mN f) by rw [e6]; exact nI_le (Nat.le_refl _) (by omega)) h1)
    exact cl_use hG k9 ⟨rfl, rfl, rfl, trivial⟩) (by
    intro k hk ih H e hfr
    have hAk := hA k (by omega)
    have ih : ∀ H : HP, rw_ H w = mvF (foldR mvF f k) k → frs w hp H → G 4 [(2, vI (nI (k + 1))), (1, vI (nI (cm f k + (if cmB (foldR mvF f k) k = true then 1 else 0)))), (0, vR 1 w)] [] H := ih
    have hck := cm_le f k
    generalize foldR mvF f k = g at e hAk ih
    generalize cm f k = c at ih hck
    have hmg : mN g = mN f := hAk.2
    have e6 : H.1 w 12 = nI (mN f) := by
      have h := mN_eq hAk.1
      rw [hmg] at h
      rw [← h, ← e, rw_6]
    have hwk := hAk.1.wk (w := k) (by show k < mN g; omega)
    have ek : (nI k).toNatClampNeg = k := nI_clamp (by omega)
    have eo : w + 3 + 1 + (nI k).toNatClampNeg = w + 4 + k := by rw [ek]
    have ep : H.1 (w + 4 + k) 2 = g (144 + 5 * k + 2) := by rw [← e, rw_wk H w (by omega) (by omega)]
    have ea : H.1 (w + 4 + k) 4 = g (144 + 5 * k + 4) := by rw [← e, rw_wk H w (by omega) (by omega)]
    obtain ⟨q, hq, eq⟩ := vp_in_of hwk.2.2.1 (by omega)
    have hpl : plc g k = q := by unfold plc; rw [eq, nI_clamp (by omega)]
    have hin : inR g k = decide (g (69 + q) = nI 1) := by unfold inR; rw [hpl]
    -- none goes
    have stay : ∀ H1 : HP, ∀ v4 v5, rw_ H1 w = mvF g k → frs w hp H1 → cmB g k = false → G 102 [(5, vI v5), (4, vI v4), (3, vR 2 (w + 4 + k)), (2, vI (nI k)), (1, vI (nI c)), (0, vR 1 w)] [] H1 := by
      intro H1 v4 v5 e1 hfr1 hcm
      have k9 := ih H1 e1 hfr1
      rw [hcm, if_neg (by decide), Nat.add_zero, ← nI_s] at k9
      refine run hG [4] 60 ?_
      exact cl_use hG k9 ⟨rfl, rfl, rfl, trivial⟩
    have neg46 : ∀ H1 : HP, ∀ y : Int32, y < 0 → rw_ H1 w = mvF g k → frs w hp H1 → cmB g k = false → G 46 [(3, vR 2 (w + 4 + k)), (2, vI (nI k)), (1, vI (nI c)), (0, vR 1 w)] [vI y] H1 := by
      intro H1 y hy e1 hfr1 hcm
      have k9 := stay H1 y (-1) e1 hfr1 hcm
      refine run hG [102] 60 ?_
      refine And.intro (fun h1 => ?_) (fun h1 => absurd hy h1)
      refine And.intro (fun h2 => ?_) (fun h2 => absurd (by decide) h2)
      exact cl_use hG k9 ⟨rfl, rfl, rfl, rfl, rfl, rfl, trivial⟩
    have same : goB g k = false → mvF g k = g ∧ cmB g k = false := by
      intro h
      have h1 : mvF g k = g := by unfold mvF; rw [h, if_neg (by decide)]
      refine ⟨h1, ?_⟩
      unfold cmB
      rw [h1]
      cases inR g k <;> rfl
    have none46 : goB g k = false → G 46 [(3, vR 2 (w + 4 + k)), (2, vI (nI k)), (1, vI (nI c)), (0, vR 1 w)] [vI (-1)] H := fun h =>
      neg46 H (-1) (by decide) (by rw [(same h).1]; exact e) hfr (same h).2
    refine run hG [4, 19, 46, 108] 60 ?_
    refine And.intro (fun h1 => ?_) (fun h1 => ?_)
    · have h1 : H.1 w 12 ≤ nI k := h1
      rw [e6] at h1
      exact absurd h1 (nI_ge hk (by omega))
    refine And.intro (vp_in_nI (by omega) (by omega)) ?_
    refine cl_lv hG [(3, vR 2 (w + 3 + 1 + (nI k).toNatClampNeg)), (2, vI (nI k)), (1, vI (nI c)), (0, vR 1 w)] ⟨rfl, rfl, rfl, rfl, trivial⟩ ?_
    rw [eo]
    refine run hG [4, 46] 60 ?_
    refine And.intro (fun h2 => ?_) (fun h2 => ?_)
    · have h2 : ¬ H.1 (w + 4 + k) 4 = 0 := h2
      rw [ea] at h2
      exact cl_use hG (none46 (by unfold goB; rw [decide_eq_false h2]; rfl)) ⟨rfl, rfl, rfl, rfl, trivial⟩
    have h2 : H.1 (w + 4 + k) 4 = 0 := h2
    rw [ea] at h2
    refine And.intro (show vp_in (H.1 (w + 4 + k) 2) 25 by rw [ep]; exact hwk.2.2.1) ?_
    have erv : bI (H.1 w 3) (H.1 (w + 4 + k) 2).toNatClampNeg = g (69 + q) := by rw [ep, eq, nI_clamp (by omega), ← rw_rv H w hq, e]
    have h01 := bI_01 (H.1 w 3) (d := q) (by omega)
    rw [← rw_rv H w hq, e] at h01
    refine And.intro (fun h3 => ?_) (fun h3 => ?_)
    case refine_2 =>
      have h3 : ¬ bI (H.1 w 3) (H.1 (w + 4 + k) 2).toNatClampNeg = 0 := h3
      rw [erv] at h3
      refine cl_use hG (none46 ?_) ⟨rfl, rfl, rfl, rfl, trivial⟩
      unfold goB
      rw [hin, h01.resolve_left h3, Bool.and_comm]
      rfl
    have h3 : bI (H.1 w 3) (H.1 (w + 4 + k) 2).toNatClampNeg = 0 := h3
    rw [erv] at h3
    have hinf : inR g k = false := by rw [hin, h3]; decide
    have hgo : goB g k = true := by unfold goB; rw [hinf, decide_eq_true h2]; rfl
    refine And.intro ⟨k, by omega, rfl, show wkOK (rw_ H w) k by rw [e]; exact hwk⟩ ?_
    refine cl_lv hG [(3, vR 2 (w + 4 + k)), (2, vI (nI k)), (1, vI (nI c)), (0, vR 1 w)] ⟨rfl, rfl, rfl, rfl, trivial⟩ ?_
    show G 46 _ [vI (stF (rw_ H w) (w + 4 + k - w - 4)).1] (uI H w 6 ((stF (rw_ H w) (w + 4 + k - w - 4)).2 1))
    rw [show w + 4 + k - w - 4 = k by omega, e]
    have e1 : rw_ (uI H w 6 ((stF g k).2 1)) w = (stF g k).2 := by rw [ru_1, e, st_r1]
    have hfr1 : frs w hp (uI H w 6 ((stF g k).2 1)) := frs_u hfr (by omega) (by omega) (by omega)
    have ep1 : (uI H w 6 ((stF g k).2 1)).1 (w + 4 + k) 2 = nI q := by rw [uI_row _ _ _ (by omega), ep, eq]
    have er1 : (uI H w 6 ((stF g k).2 1)).1 w 3 = H.1 w 3 := uI_oth _ _ _ (by omega)
    generalize uI H w 6 ((stF g k).2 1) = H1 at e1 hfr1 ep1 er1
    have hmv : mvF g k = if (stF g k).1 < 0 then (stF g k).2 else upd (upd (stF g k).2 (144 + 5 * k + 3) (stF g k).1) (144 + 5 * k + 2) (bsV (plc g k) (stF g k).1.toNatClampNeg) := by
      unfold mvF
      rw [hgo, if_pos rfl]
    rcases (st_ok g k).neg with ⟨hneg, -⟩ | ⟨j, hj, ej, hm, hnn⟩
    · rw [if_pos hneg] at hmv
      refine neg46 H1 _ hneg (by rw [hmv]; exact e1) hfr1 ?_
      unfold cmB inR plc
      rw [hmv, st_row g k (by omega), st_row g k (by omega)]
      have : decide (g (69 + (g (144 + 5 * k + 2)).toNatClampNeg) = nI 1) = false := hinf
      rw [this]
      rfl
    · rw [if_neg hnn, ej, nI_clamp (by omega), hpl] at hmv
      rw [hpl] at hm
      have hb := may_bsd hm
      have hb25 : bsd q j < 25 := by rcases bsd_lt q hq j hj with h | h <;> omega
      rw [bsV_may hb] at hmv
      rw [ej]
      have ev : sbV (H1.1 (w + 4 + k) 2).toNatClampNeg (nI j).toNatClampNeg = nI (bsd q j) := by rw [ep1, nI_clamp (by omega), nI_clamp (by omega), sb_may hb]
      have e2 : rw_ (uI (uI H1 (w + 4 + k) 3 (nI j)) (w + 4 + k) 2 (nI (bsd q j))) w = mvF g k := by rw [rw_u4 _ w _ (by omega) (by omega), rw_u4 _ w _ (by omega) (by omega), e1, hmv]
      have hfr2 : frs w hp (uI (uI H1 (w + 4 + k) 3 (nI j)) (w + 4 + k) 2 (nI (bsd q j))) := frs_u (frs_u hfr1 (by omega) (by omega) (by omega)) (by omega) (by omega) (by omega)
      have er2 : (uI (uI H1 (w + 4 + k) 3 (nI j)) (w + 4 + k) 2 (nI (bsd q j))).1 w 3 = H.1 w 3 := by rw [uI_row _ _ _ (by omega), uI_row _ _ _ (by omega), er1]
      have hcmB : cmB g k = decide (g (69 + bsd q j) = nI 1) := by
        unfold cmB
        rw [hinf]
        have e9 : mvF g k (144 + 5 * k + 2) = nI (bsd q j) := by rw [hmv, pk_us]
        show (decide (mvF g k (69 + (mvF g k (144 + 5 * k + 2)).toNatClampNeg) = nI 1) && !false) = _
        rw [e9, nI_clamp (by omega), hmv, pk_un (by omega), pk_un (by omega), st_row g k (by omega)]
        exact Bool.and_true _
      have k9 := ih _ e2 hfr2
      rw [hcmB] at k9
      have h01b := bI_01 (H.1 w 3) (d := bsd q j) (by omega)
      have erb : bI (H.1 w 3) (bsd q j) = g (69 + bsd q j) := by rw [← rw_rv H w hb25, e]
      rw [erb] at h01b
      refine run hG [66] 60 ?_
      refine And.intro (fun h4 => absurd h4 (nI_pos (by omega))) (fun h4 => ?_)
      refine And.intro ⟨show vp_in (H1.1 (w + 4 + k) 2) 25 by rw [ep1]; exact vp_in_nI hq (by omega), vp_in_nI hj (by omega)⟩ ?_
      refine cl_lv hG [(4, vI (nI j)), (3, vR 2 (w + 4 + k)), (2, vI (nI k)), (1, vI (nI c)), (0, vR 1 w)] ⟨rfl, rfl, rfl, rfl, rfl, trivial⟩ ?_
      show G 66 _ [vI (sbV (H1.1 (w + 4 + k) 2).toNatClampNeg (nI j).toNatClampNeg)] H1
      rw [ev]
      have eri : bI ((uI (uI H1 (w + 4 + k) 3 (nI j)) (w + 4 + k) 2 (nI (bsd q j))).1 w 3) (nI (bsd q j)).toNatClampNeg = g (69 + bsd q j) := by rw [er2, nI_clamp (by omega), erb]
      refine run hG [4] 60 ?_
      refine And.intro (fun h4 => absurd h4 (nI_pos (by omega))) (fun h4 => ?_)
      refine And.intro (vp_in_nI hb25 (by omega)) ?_
      refine And.intro (fun h5 => ?_) (fun h5 => ?_)
      · have h5 : bI ((uI (uI H1 (w + 4 + k) 3 (nI j)) (w + 4 + k) 2 (nI (bsd q j))).1 w 3) (nI (bsd q j)).toNatClampNeg = 0 := h5
        rw [eri] at h5
        rw [h5, show decide ((0 : Int32) = nI 1) = false by decide, if_neg (by decide)] at k9
        refine cl_lv hG [(2, vI (nI k + nI 1)), (1, vI (nI c + nI 0)), (0, vR 1 w)] ⟨rfl, rfl, rfl, trivial⟩ ?_
        rw [nI_s, nI_add]
        exact k9
      · have h5 : ¬ bI ((uI (uI H1 (w + 4 + k) 3 (nI j)) (w + 4 + k) 2 (nI (bsd q j))).1 w 3) (nI (bsd q j)).toNatClampNeg = 0 := h5
        rw [eri] at h5
        rw [h01b.resolve_left h5, show decide (nI 1 = nI 1) = true by decide, if_pos rfl] at k9
        refine cl_lv hG [(2, vI (nI k + nI 1)), (1, vI (nI c + nI 1)), (0, vR 1 w)] ⟨rfl, rfl, rfl, trivial⟩ ?_
        rw [nI_s, nI_s]
        exact k9) 0 (by omega)
  have k0 := go hp hf (frs_r w hp)
  refine run hG [4] 60 ?_
  exact cl_use hG k0 ⟨rfl, rfl, rfl, trivial⟩
theorem sc_X3_goMinute {own : String} {F L idx : Nat} (h1 : Cond.methodLink own idx yX3_goMinute ∈ Gw) (hF : 4 ≤ F) (hL : 96 ≤ L) : SC own F L (idx, false, 1, sp_X3_goMinute) := SC_V spF_mono c_X3_goMinute okd_1 (fun as hp K h => by obtain ⟨x, hx, -⟩ := spF_e h; exact ⟨_, _, d_W_e hx⟩) h1 gw_465 gw_466 gw_70 gw_467 (by decide +kernel) hF hL
