/-! a walker's step -/
def plc (f : Nat → Int32) (w : Nat) : Nat := (f (144 + 5 * w + 2)).toNatClampNeg
def wyO (f : Nat → Int32) (w : Nat) : Nat := (f (144 + 5 * w + 3)).toNatClampNeg
def stF (f : Nat → Int32) (w : Nat) : Int32 × (Nat → Int32) :=
  if f (144 + 5 * w) = nI 0 then (trnV (turB f (plc f w) false) (wyO f w), f)
  else if f (144 + 5 * w) = nI 1 then (slpV f (plc f w) (wyO f w), f)
  else if f (144 + 5 * w) = nI 2 then (lmpV f (plc f w) (wyO f w), f)
  else if f (144 + 5 * w) = nI 3 then (if f (144 + 5 * w + 2) = f (144 + 5 * w + 1) ∧ ¬ f 0 = 0 then -1 else slpV f (plc f w) (wyO f w), f)
  else if f (144 + 5 * w) = nI 4 then wndF f (plc f w)
  else (if f 2 = nI 4 then lmpV f (plc f w) (wyO f w) else if nI 60 * f 2 ≤ f 0 then -1 else trnV (turB f (plc f w) false) (wyO f w), f)
def sp_X5_stepOf : SP := spH d_M_I (fun x hp => vp_in x 8 ∧ wkOK (hp.1 53) x.toNatClampNeg) (fun x hp => some (vI (stF (hp.1 53) x.toNatClampNeg).1)) (fun x hp => rI hp 53 (stF (hp.1 53) x.toNatClampNeg).2)
def E_X5_stepOf : EN := [(59, false, 3, sp_X5_has), (116, false, 4, sp_X5_turned), (127, false, 3, sp_X5_slopeStep), (130, false, 3, sp_X5_lampStep), (133, false, 2, sp_X5_wanderStep)]
set_option maxRecDepth 100000 in
set_option maxHeartbeats 4000000 in
theorem c_X5_stepOf : Ctr M_X5_stepOf sp_X5_stepOf := by
  refine ctr_of (own := RX5) M_X5_stepOf sp_X5_stepOf (P := P_X5_stepOf) (K := K_X5) (E := E_X5_stepOf) (by decide) rfl pk_X5_stepOf K_X5_ok (List.forall_mem_cons.mpr ⟨sc_X5_has gw_924 (by decide) (by decide), List.forall_mem_cons.mpr ⟨sc_X5_turned gw_1001 (by decide) (by decide), List.forall_mem_cons.mpr ⟨sc_X5_slopeStep gw_1005 (by decide) (by decide), List.forall_mem_cons.mpr ⟨sc_X5_lampStep gw_1009 (by decide) (by decide), List.forall_mem_cons.mpr ⟨sc_X5_wanderStep gw_1013 (by decide) (by decide), fun _ h => absurd h List.not_mem_nil⟩⟩⟩⟩⟩) (fun as hp Q h => by obtain ⟨x, hx, -⟩ := spH_e h; rw [d_M_I_e hx]; exact Nat.le_of_ble_eq_true rfl) ?_
  intro Q G hQi hG as hp h
  obtain ⟨x, hx, hpre, hQ⟩ := spH_e h
  rw [d_M_I_e hx]
  clear h hx
  obtain ⟨hw8, h0, h1, h2, h3, h4⟩ := hpre
  have fin : ∀ y : Int32, stF (hp.1 53) x.toNatClampNeg = (y, hp.1 53) → Q (some (vI y)) hp := by
    intro y e
    rw [e] at hQ
    have hQ : Q (some (vI y)) (rI hp 53 (hp.1 53)) := hQ
    rw [rI_self] at hQ
    exact hQ
  obtain ⟨k, hk, ek⟩ := vp_in_of h0 (by omega)
  have hki : (nI k).toInt = k := nI_toInt (by omega)
  have c2 : vp_in (nI 2) 5 := vp_in_nI (by omega) (by omega)
  refine run hG [] 60 ?_
  refine And.intro ⟨hw8, c2⟩ ?_
  refine And.intro ⟨hw8, vp_in_nI (by omega) (by omega)⟩ ?_
  refine And.intro ⟨hw8, vp_in_nI (by omega) (by omega)⟩ ?_
  have sw : ∀ j : Nat, j < 6 → (hp.1 53 (144 + 5 * x.toNatClampNeg + (nI 0).toNatClampNeg)).toInt = (j : Int) → hp.1 53 (144 + 5 * x.toNatClampNeg) = nI j := by
    intro j hj h
    have h : (hp.1 53 (144 + 5 * x.toNatClampNeg)).toInt = (j : Int) := h
    rw [ek, hki] at h
    rw [ek]
    congr 1
    omega
  refine And.intro (fun hz => ?_) (And.intro (fun hz => ?_) (And.intro (fun hz => ?_) (And.intro (fun hz => ?_) (And.intro (fun hz => ?_) (fun hz => ?_)))))
  · have e := sw 0 (by omega) hz
    refine And.intro ⟨h2, h3⟩ (fin _ ?_)
    unfold stF
    rw [if_pos e]
    rfl
  · have e := sw 1 (by omega) hz
    refine And.intro ⟨h2, h3⟩ (fin _ ?_)
    unfold stF
    rw [if_neg (by rw [e]; decide), if_pos e]
    rfl
  · have e := sw 2 (by omega) hz
    refine And.intro ⟨h2, h3⟩ (fin _ ?_)
    unfold stF
    rw [if_neg (by rw [e]; decide), if_neg (by rw [e]; decide), if_pos e]
    rfl
  · have e := sw 3 (by omega) hz
    have e9 : stF (hp.1 53) x.toNatClampNeg = (if hp.1 53 (144 + 5 * x.toNatClampNeg + 2) = hp.1 53 (144 + 5 * x.toNatClampNeg + 1) ∧ ¬ hp.1 53 0 = 0 then -1 else slpV (hp.1 53) (plc (hp.1 53) x.toNatClampNeg) (wyO (hp.1 53) x.toNatClampNeg), hp.1 53) := by
      unfold stF
      rw [if_neg (by rw [e]; decide), if_neg (by rw [e]; decide), if_neg (by rw [e]; decide), if_pos e]
    refine And.intro ⟨hw8, vp_in_nI (by omega) (by omega)⟩ ?_
    refine And.intro (fun h5 => ?_) (fun h5 => ?_)
    · have h5 : ¬ hp.1 53 (144 + 5 * x.toNatClampNeg + 2) = hp.1 53 (144 + 5 * x.toNatClampNeg + 1) := h5
      refine And.intro ⟨h2, h3⟩ (fin _ ?_)
      rw [e9, if_neg (fun h => h5 h.1)]
      rfl
    · have h5 : hp.1 53 (144 + 5 * x.toNatClampNeg + 2) = hp.1 53 (144 + 5 * x.toNatClampNeg + 1) := h5
      refine And.intro (vp_in_nI (by omega) (by omega)) ?_
      refine And.intro (fun h6 => ?_) (fun h6 => ?_)
      · have h6 : hp.1 53 0 = 0 := h6
        refine And.intro ⟨h2, h3⟩ (fin _ ?_)
        rw [e9, if_neg (fun h => h.2 h6)]
        rfl
      · have h6 : ¬ hp.1 53 0 = 0 := h6
        refine fin _ ?_
        rw [e9, if_pos ⟨h5, h6⟩]
  · have e := sw 4 (by omega) hz
    refine And.intro h2 ?_
    have e9 : stF (hp.1 53) x.toNatClampNeg = wndF (hp.1 53) (plc (hp.1 53) x.toNatClampNeg) := by
      unfold stF
      rw [if_neg (by rw [e]; decide), if_neg (by rw [e]; decide), if_neg (by rw [e]; decide), if_neg (by rw [e]; decide), if_pos e]
    rw [e9] at hQ
    exact hQ
  · have e : hp.1 53 (144 + 5 * x.toNatClampNeg) = nI 5 := by
      have hz : (hp.1 53 (144 + 5 * x.toNatClampNeg)).toInt < 0 ∨ 4 < (hp.1 53 (144 + 5 * x.toNatClampNeg)).toInt := hz
      rw [ek, hki] at hz
      rw [ek]
      congr 1
      omega
    have e9 : stF (hp.1 53) x.toNatClampNeg = (if hp.1 53 2 = nI 4 then lmpV (hp.1 53) (plc (hp.1 53) x.toNatClampNeg) (wyO (hp.1 53) x.toNatClampNeg) else if nI 60 * hp.1 53 2 ≤ hp.1 53 0 then -1 else trnV (turB (hp.1 53) (plc (hp.1 53) x.toNatClampNeg) false) (wyO (hp.1 53) x.toNatClampNeg), hp.1 53) := by
      unfold stF
      rw [if_neg (by rw [e]; decide), if_neg (by rw [e]; decide), if_neg (by rw [e]; decide), if_neg (by rw [e]; decide), if_neg (by rw [e]; decide)]
    refine And.intro (vp_in_nI (by omega) (by omega)) ?_
    refine And.intro (fun h5 => ?_) (fun h5 => ?_)
    · have h5 : ¬ hp.1 53 2 = nI 4 := h5
      rw [if_neg h5] at e9
      refine And.intro (vp_in_nI (by omega) (by omega)) ?_
      refine And.intro (vp_in_nI (by omega) (by omega)) ?_
      refine And.intro (fun h6 => ?_) (fun h6 => ?_)
      · have h6 : nI 60 * hp.1 53 2 ≤ hp.1 53 0 := h6
        rw [if_pos h6] at e9
        exact fin _ e9
      · have h6 : ¬ nI 60 * hp.1 53 2 ≤ hp.1 53 0 := h6
        rw [if_neg h6] at e9
        exact And.intro ⟨h2, h3⟩ (fin _ e9)
    · have h5 : hp.1 53 2 = nI 4 := h5
      rw [if_pos h5] at e9
      exact And.intro ⟨h2, h3⟩ (fin _ e9)
theorem sc_X5_stepOf {own : String} {F L idx : Nat} (h1 : Cond.methodLink own idx yX5_stepOf ∈ Gw) (hF : 5 ≤ F) (hL : 116 ≤ L) : SC own F L (idx, false, 2, sp_X5_stepOf) := SC_V spH_mono c_X5_stepOf okd_5 (fun as hp K h => by obtain ⟨x, hx, -⟩ := spH_e h; exact ⟨_, _, d_M_I_e hx⟩) h1 gw_999 gw_31 gw_75 gw_1000 (by decide +kernel) hF hL
/-! what a step is: none, or a way that may be gone -/
def wayOK (c : Nat → Bool) (v : Int32) : Prop := v = -1 ∨ ∃ j, j < 4 ∧ v = nI j ∧ c j = true
theorem ff_ok {v : Nat → Option Int32} {d : Int32} {p : Int32 → Prop} (hd : p d) : ∀ {n k : Nat}, (∀ j r, v j = some r → p r) → p (ff v d n k)
  | 0, _, _ => hd
  | n + 1, k, h => by
    unfold ff
    split
    · next r hr => exact h k r hr
    · exact ff_ok hd h
theorem trn_ok (c : Nat → Bool) (y : Nat) : wayOK c (trnV c y) := by
  unfold trnV
  refine ff_ok (p := wayOK c) (Or.inl rfl) ?_
  intro j r h
  unfold wayB at h
  split at h
  · next hc =>
    cases h
    exact Or.inr ⟨(y + j) % 4, Nat.mod_lt _ (by omega), rfl, hc⟩
  · cases h
theorem tur_may {f : Nat → Int32} {q w : Nat} {l : Bool} (h : turB f q l w = true) : mayB f q w = true := by
  unfold turB at h
  rw [Bool.and_eq_true] at h
  exact h.1
theorem wayOK.mono {c d : Nat → Bool} {v : Int32} (h : wayOK c v) (hcd : ∀ j, c j = true → d j = true) : wayOK d v := by
  rcases h with h | ⟨j, h1, h2, h3⟩
  · exact Or.inl h
  · exact Or.inr ⟨j, h1, h2, hcd j h3⟩
theorem lmp_ok (f : Nat → Int32) (q y : Nat) : wayOK (mayB f q) (lmpV f q y) := by
  unfold lmpV
  split
  · exact (trn_ok _ y).mono (fun j h => tur_may h)
  · exact (trn_ok _ y).mono (fun j h => tur_may h)
theorem slp_ok (c : Nat → Bool) (h : Nat → Int32) (z : Int32) : ∀ n, n ≤ 4 → wayOK c (slp c h z n).1
  | 0, _ => Or.inl rfl
  | n + 1, hn => by
    show wayOK c (slpG c h n (slp c h z n)).1
    unfold slpG
    split
    · next hc => exact Or.inr ⟨n, by omega, rfl, hc.1⟩
    · exact slp_ok c h z n (by omega)
theorem slpV_ok (f : Nat → Int32) (q y : Nat) : wayOK (mayB f q) (slpV f q y) := by
  unfold slpV
  split
  · exact slp_ok _ _ _ 4 (by omega)
  · exact (trn_ok _ y).mono (fun j h => tur_may h)
theorem pw_ok (c : Nat → Bool) : ∀ n w l, l < rc c n w → pw c n w l < w + n ∧ c (pw c n w l) = true
  | 0, w, l, h => absurd h (Nat.not_lt_zero _)
  | n + 1, w, l, h => by
    have h : l < (if c w = true then 1 else 0) + rc c n (w + 1) := h
    show (if c w = true ∧ l = 0 then w else pw c n (w + 1) (l - (if c w = true then 1 else 0))) < w + (n + 1) ∧ c (if c w = true ∧ l = 0 then w else pw c n (w + 1) (l - (if c w = true then 1 else 0))) = true
    by_cases hc : c w = true ∧ l = 0
    · rw [if_pos hc]
      exact ⟨by omega, hc.1⟩
    · rw [if_neg hc]
      have hl : l - (if c w = true then 1 else 0) < rc c n (w + 1) := by
        by_cases hw : c w = true
        · rw [if_pos hw] at h ⊢
          have : l ≠ 0 := fun h0 => hc ⟨hw, h0⟩
          omega
        · rw [if_neg hw] at h ⊢
          omega
      have := pw_ok c n (w + 1) _ hl
      exact ⟨by omega, this.2⟩
theorem wnd_ok (f : Nat → Int32) (q : Nat) : wayOK (mayB f q) (wndF f q).1 := by
  unfold wndF
  split
  · exact Or.inl rfl
  · next h =>
    have := pw_ok (mayB f q) 4 0 _ (Nat.mod_lt (shV (drV (f 1))).toNatClampNeg (Nat.pos_of_ne_zero h))
    exact Or.inr ⟨wndN (mayB f q) (drV (f 1)), by unfold wndN; omega, rfl, this.2⟩
theorem st_ok (f : Nat → Int32) (w : Nat) : wayOK (mayB f (plc f w)) (stF f w).1 := by
  unfold stF
  split
  · exact (trn_ok _ _).mono (fun j h => tur_may h)
  · split
    · exact slpV_ok _ _ _
    · split
      · exact lmp_ok _ _ _
      · split
        · dsimp only
          split
          · exact Or.inl rfl
          · exact slpV_ok _ _ _
        · split
          · exact wnd_ok _ _
          · dsimp only
            split
            · exact lmp_ok _ _ _
            · split
              · exact Or.inl rfl
              · exact (trn_ok _ _).mono (fun j h => tur_may h)
theorem st_row (f : Nat → Int32) (w : Nat) {k : Nat} (hk : k ≠ 1) : (stF f w).2 k = f k := by
  unfold stF
  split
  · rfl
  · split
    · rfl
    · split
      · rfl
      · split
        · rfl
        · split
          · unfold wndF
            split
            · rfl
            · exact pk_un hk
          · rfl
theorem wayOK.neg {c : Nat → Bool} {v : Int32} (h : wayOK c v) : (v < 0 ∧ v = -1) ∨ ∃ j, j < 4 ∧ v = nI j ∧ c j = true ∧ ¬ v < 0 := by
  rcases h with h | ⟨j, h1, h2, h3⟩
  · exact Or.inl ⟨by rw [h]; decide, h⟩
  · exact Or.inr ⟨j, h1, h2, h3, by rw [h2]; exact nI_pos (by omega)⟩
def F_step (w : Int32) (hp : HP) : Int32 × HP := if inB w (mN (hp.1 53)) = true then ((stF (hp.1 53) w.toNatClampNeg).1, rI hp 53 (upd (stF (hp.1 53) w.toNatClampNeg).2 1 (hp.1 53 1))) else noP hp 0
def sp_X5_step : SP := spH d_M_I (fun _ hp => WF (hp.1 53)) (fun x hp => some (vI (F_step x hp).1)) (fun x hp => (F_step x hp).2)
def E_X5_step : EN := [(107, false, 2, sp_X5_isWalker), (79, false, 2, sp_X5_no), (136, false, 2, sp_X5_stepOf)]
set_option maxRecDepth 100000 in
set_option maxHeartbeats 4000000 in
theorem c_X5_step : Ctr M_X5_step sp_X5_step := by
  refine ctr_of (own := RX5) M_X5_step sp_X5_step (P := P_X5_step) (K := K_X5) (E := E_X5_step) (by decide) rfl pk_X5_step K_X5_ok (List.forall_mem_cons.mpr ⟨sc_X5_isWalker gw_962 (by decide) (by decide), List.forall_mem_cons.mpr ⟨sc_X5_no gw_895 (by decide) (by decide), List.forall_mem_cons.mpr ⟨sc_X5_stepOf gw_997 (by decide) (by decide), fun _ h => absurd h List.not_mem_nil⟩⟩⟩) (fun as hp Q h => by obtain ⟨x, hx, -⟩ := spH_e h; rw [d_M_I_e hx]; exact Nat.le_of_ble_eq_true rfl) ?_
  intro Q G hQi hG as hp h
  obtain ⟨x, hx, hpre, hQ⟩ := spH_e h
  rw [d_M_I_e hx]
  clear h hx
  refine run hG [] 60 ?_
  refine And.intro hpre.many ?_
  refine And.intro (fun h1 => ?_) (fun h1 => ?_)
  · have h1 : inB x (mN (hp.1 53)) = true := bB_1.mp h1
    have hF : F_step x hp = _ := if_pos h1
    rw [hF] at hQ
    refine And.intro (vp_in_nI (by omega) (by omega)) ?_
    refine And.intro ⟨in8 hpre.many h1, hpre.wk (ix_lt (inB_t.mp h1))⟩ ?_
    refine And.intro (vp_in_nI (by omega) (by omega)) ?_
    refine q_ih hQ rfl ?_
    show uI (rI hp 53 (stF (hp.1 53) x.toNatClampNeg).2) 53 1 (hp.1 53 1) = _
    rw [uI_rI]
  · have h1 : inB x (mN (hp.1 53)) = false := bB_0.mp h1
    have hF : F_step x hp = noP hp 0 := if_neg (by rw [h1]; decide)
    rw [hF] at hQ
    exact And.intro (vp_in_nI (by omega) (by omega)) hQ
theorem sc_X5_step {own : String} {F L idx : Nat} (h1 : Cond.methodLink own idx yX5_step ∈ Gw) (hF : 6 ≤ F) (hL : 139 ≤ L) : SC own F L (idx, false, 2, sp_X5_step) := SC_V spH_mono c_X5_step okd_5 (fun as hp K h => by obtain ⟨x, hx, -⟩ := spH_e h; exact ⟨_, _, d_M_I_e hx⟩) h1 gw_994 gw_995 gw_75 gw_996 (by decide +kernel) hF hL
def inR (f : Nat → Int32) (w : Nat) : Bool := decide (f (69 + plc f w) = nI 1)
def goB (f : Nat → Int32) (w : Nat) : Bool := decide (f (144 + 5 * w + 4) = 0) && !inR f w
def sp_X5_isIn : SP := spP d_M_I (fun x hp => vp_in x 8 ∧ vp_in (hp.1 53 (144 + 5 * x.toNatClampNeg + 2)) 25) (fun x hp => vI (bB (inR (hp.1 53) x.toNatClampNeg)))
def E_X5_isIn : EN := [(59, false, 3, sp_X5_has)]
set_option maxRecDepth 100000 in
set_option maxHeartbeats 4000000 in
theorem c_X5_isIn : Ctr M_X5_isIn sp_X5_isIn := by
  refine ctr_of (own := RX5) M_X5_isIn sp_X5_isIn (P := P_X5_isIn) (K := K_X5) (E := E_X5_isIn) (by decide) rfl pk_X5_isIn K_X5_ok (List.forall_mem_cons.mpr ⟨sc_X5_has gw_924 (by decide) (by decide), fun _ h => absurd h List.not_mem_nil⟩) (fun as hp Q h => by obtain ⟨x, hx, -⟩ := spP_e h; rw [d_M_I_e hx]; exact Nat.le_of_ble_eq_true rfl) ?_
  intro Q G hQi hG as hp h
  obtain ⟨x, hx, hpre, hQ⟩ := spP_e h
  rw [d_M_I_e hx]
  clear h hx
  refine run hG [] 60 ?_
  refine And.intro ⟨hpre.1, vp_in_nI (by omega) (by omega)⟩ ?_
  have ha := add_ix (k := 69) hpre.2 (by omega)
  refine And.intro (ha.2 184 (by omega)) ?_
  refine And.intro (fun h1 => ?_) (fun h1 => ?_)
  · have h1 : ¬ hp.1 53 (nI 69 + hp.1 53 (144 + 5 * x.toNatClampNeg + 2)).toNatClampNeg = nI 1 := h1
    rw [ha.1] at h1
    exact q_b hQ (by unfold inR plc; rw [decide_eq_false h1]; rfl)
  · have h1 : hp.1 53 (nI 69 + hp.1 53 (144 + 5 * x.toNatClampNeg + 2)).toNatClampNeg = nI 1 := h1
    rw [ha.1] at h1
    exact q_b hQ (by unfold inR plc; rw [decide_eq_true h1]; rfl)
theorem sc_X5_isIn {own : String} {F L idx : Nat} (h1 : Cond.methodLink own idx yX5_isIn ∈ Gw) (hF : 2 ≤ F) (hL : 43 ≤ L) : SC own F L (idx, false, 2, sp_X5_isIn) := SC_V spP_mono c_X5_isIn okd_5 (fun as hp K h => by obtain ⟨x, hx, -⟩ := spP_e h; exact ⟨_, _, d_M_I_e hx⟩) h1 gw_1039 gw_39 gw_75 gw_1040 (by decide +kernel) hF hL
def sp_X5_goes : SP := spP d_M_I (fun x hp => vp_in x 8 ∧ vp_in (hp.1 53 (144 + 5 * x.toNatClampNeg + 2)) 25) (fun x hp => vI (bB (goB (hp.1 53) x.toNatClampNeg)))
def E_X5_goes : EN := [(59, false, 3, sp_X5_has), (139, false, 2, sp_X5_isIn)]
set_option maxRecDepth 100000 in
set_option maxHeartbeats 4000000 in
theorem c_X5_goes : Ctr M_X5_goes sp_X5_goes := by
  refine ctr_of (own := RX5) M_X5_goes sp_X5_goes (P := P_X5_goes) (K := K_X5) (E := E_X5_goes) (by decide) rfl pk_X5_goes K_X5_ok (List.forall_mem_cons.mpr ⟨sc_X5_has gw_924 (by decide) (by decide), List.forall_mem_cons.mpr ⟨sc_X5_isIn gw_1037 (by decide) (by decide), fun _ h => absurd h List.not_mem_nil⟩⟩) (fun as hp Q h => by obtain ⟨x, hx, -⟩ := spP_e h; rw [d_M_I_e hx]; exact Nat.le_of_ble_eq_true rfl) ?_
  intro Q G hQi hG as hp h
  obtain ⟨x, hx, hpre, hQ⟩ := spP_e h
  rw [d_M_I_e hx]
  clear h hx
  refine run hG [] 60 ?_
  refine And.intro ⟨hpre.1, vp_in_nI (by omega) (by omega)⟩ ?_
  refine And.intro (fun h1 => ?_) (fun h1 => ?_)
  · have h1 : ¬ hp.1 53 (144 + 5 * x.toNatClampNeg + 4) = 0 := h1
    exact q_b hQ (by unfold goB; rw [decide_eq_false h1]; rfl)
  · have h1 : hp.1 53 (144 + 5 * x.toNatClampNeg + 4) = 0 := h1
    refine And.intro hpre ?_
    refine And.intro (fun h2 => ?_) (fun h2 => ?_)
    · have h2 : inR (hp.1 53) x.toNatClampNeg = true := bB_1.mp h2
      exact q_b hQ (by unfold goB; rw [h2, decide_eq_true h1]; rfl)
    · have h2 : inR (hp.1 53) x.toNatClampNeg = false := bB_0.mp h2
      exact q_b hQ (by unfold goB; rw [h2, decide_eq_true h1]; rfl)
theorem sc_X5_goes {own : String} {F L idx : Nat} (h1 : Cond.methodLink own idx yX5_goes ∈ Gw) (hF : 3 ≤ F) (hL : 64 ≤ L) : SC own F L (idx, false, 2, sp_X5_goes) := SC_V spP_mono c_X5_goes okd_5 (fun as hp K h => by obtain ⟨x, hx, -⟩ := spP_e h; exact ⟨_, _, d_M_I_e hx⟩) h1 gw_1051 gw_42 gw_75 gw_1052 (by decide +kernel) hF hL
