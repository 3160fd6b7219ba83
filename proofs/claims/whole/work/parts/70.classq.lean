theorem bI_set (b : Nat → Bool) {k : Nat} (hk : k < 25) : ∀ n, n ≤ 25 → bI (fold (fun w s => s ||| (if b w = true then nI 1 <<< (nI w &&& 31) else nI 0)) (nI 0) n) k = if k < n ∧ b k = true then nI 1 else nI 0
  | 0, _ => by
    rw [if_neg (by omega)]
    show bI (nI 0) k = nI 0
    rw [bI_eq _ (by omega)]
    exact if_neg (by show ¬ (0#32).getLsbD k = true; rw [BitVec.getLsbD_zero]; decide)
  | n + 1, hn => by
    show bI (fold _ (nI 0) n ||| (if b n = true then nI 1 <<< (nI n &&& 31) else nI 0)) k = _
    have ih := bI_set b hk n (by omega)
    by_cases hb : b n = true
    · rw [if_pos hb, bI_or _ (by omega) hk, ih]
      by_cases e : k = n
      · subst e
        rw [if_pos rfl, if_pos ⟨by omega, hb⟩]
      · rw [if_neg e]
        by_cases h2 : k < n ∧ b k = true
        · rw [if_pos h2, if_pos ⟨by omega, h2.2⟩]
        · rw [if_neg h2, if_neg (fun h => h2 ⟨by omega, h.2⟩)]
    · rw [if_neg hb, or_0, ih]
      by_cases h2 : k < n ∧ b k = true
      · rw [if_pos h2, if_pos ⟨by omega, h2.2⟩]
      · rw [if_neg h2, if_neg (fun h => h2 ⟨?_, h.2⟩)]
        by_cases e : k = n
        · subst e
          exact absurd h.2 hb
        · omega
theorem bI_no (x y : Int32) {d : Nat} (hd : d < 25) : bI (x &&& (y ^^^ -1)) d = if bI x d = nI 1 ∧ bI y d = nI 0 then nI 1 else nI 0 := by
  have e1 : (-1 : Int32).toBitVec.getLsbD d = true := by
    have : (-1 : Int32).toBitVec = BitVec.allOnes 32 := by decide
    rw [this, BitVec.getLsbD_allOnes]
    exact decide_eq_true (by omega)
  rw [bI_eq _ (by omega), bI_eq _ (by omega), bI_eq _ (by omega), Int32.toBitVec_and, BitVec.getLsbD_and, Int32.toBitVec_xor, BitVec.getLsbD_xor, e1]
  cases x.toBitVec.getLsbD d <;> cases y.toBitVec.getLsbD d <;> decide
theorem ones_fold (s : Int32) (p : Nat → Bool) (h : ∀ k, k < 12 → bI s k = if p k = true then nI 1 else nI 0) : ∀ n, n ≤ 12 → fold (onesG s) (nI 0) n = nI (cnt p n)
  | 0, _ => rfl
  | n + 1, hn => by
    show fold (onesG s) (nI 0) n + bI s n = nI (cnt p n + (if p n = true then 1 else 0))
    rw [ones_fold s p h n (by omega), h n (by omega)]
    split
    · rw [nI_s]
    · show nI (cnt p n) + nI 0 = nI (cnt p n + 0)
      rw [nI_add]
theorem ones_cnt {s : Int32} {p : Nat → Bool} {n : Nat} (hn : n ≤ 12) (h : ∀ k, k < 12 → bI s k = if k < n ∧ p k = true then nI 1 else nI 0) : onesV s = nI (cnt p n) := by
  unfold onesV
  rw [ones_fold s (fun k => decide (k < n) && p k) (fun k hk => by
    rw [h k hk]
    by_cases e : k < n ∧ p k = true
    · rw [if_pos e, if_pos (tt_and (decide_eq_true e.1) e.2)]
    · rw [if_neg e, if_neg (fun h => e ⟨of_decide_eq_true (and_tt h).1, (and_tt h).2⟩)]) 12 (Nat.le_refl _), show 12 = n + (12 - n) by omega, cnt_ext (fun k hk => by rw [decide_eq_false (by omega)]; rfl), cnt_cg (q := p) n (fun k hk => by rw [decide_eq_true hk]; rfl)]
theorem rvV_bit {f : Nat → Int32} (hf : WF f) {k : Nat} (hk : k < 25) : bI (rvV f) k = if k < mN f ∧ inR f k = true then nI 1 else nI 0 := bI_set (inR f) hk (mN f) (by have := mN_lt hf; omega)
theorem ones_rv {f : Nat → Int32} (h : WF f) : onesV (rvV f) = nI (cnt (inR f) (mN f)) := ones_cnt (by have := mN_lt h; omega) (fun k hk => rvV_bit h (by omega))
theorem rvN_cnt (f : Nat → Int32) : ∀ n, fold (fun w s => s + (if inR f w = true then nI 1 else nI 0)) (nI 0) n = nI (cnt (inR f) n)
  | 0 => rfl
  | n + 1 => by
    show fold _ (nI 0) n + (if inR f n = true then nI 1 else nI 0) = nI (cnt (inR f) n + (if inR f n = true then 1 else 0))
    rw [rvN_cnt f n]
    split
    · rw [nI_s]
    · show nI _ + nI 0 = nI (_ + 0)
      rw [nI_add]
theorem rvN_ag {f g : Nat → Int32} (h : ag f g) (hf : WF f) : rvN g = onesV (rvV f) := by
  unfold rvN
  rw [ones_rv hf, rvN_cnt, h.mn, cnt_cg _ (fun k hk => h.inr hf hk)]
theorem mt_cnt {f : Nat → Int32} (h : WF f) (n : Nat) : mtV f (goF f n) = nI (gm f n) := by
  have hg := h.go n
  unfold mtV
  rw [gm_cnt h n, ones_cnt (n := mN f) (p := fun w => inR (goF f n) w && !inR f w) (by have := mN_lt h; omega) (fun k hk => ?_)]
  · rw [cnt_cg _ (fun k hk => by show (inR (goF f n) k && !inR f k) = (decide (k < mN f) && (inR (goF f n) k && !inR f k)); rw [decide_eq_true hk]; rfl)]
  · rw [bI_no _ _ (by omega), rvV_bit hg.1 (by omega), rvV_bit h (by omega), hg.2]
    by_cases hk : k < mN f
    · cases ha : inR (goF f n) k <;> cases hb : inR f k <;> simp [hk] <;> decide
    · simp [hk]
      exact fun h => h.symm
theorem gm_ag {f g : Nat → Int32} (h : ag f g) (hf : WF f) : ∀ n, gm g n = gm f n
  | 0 => rfl
  | n + 1 => by
    show gm g n + cm (goF g n) (mN g) = gm f n + cm (goF f n) (mN f)
    have hg := hf.go n
    rw [gm_ag h hf n, h.mn, (h.go hf n).cms hg.1 _ (by rw [hg.2]; exact Nat.le_refl _)]
theorem fold_cg {g h : Nat → Int32 → Int32} {z : Int32} : ∀ n, (∀ k s, k < n → g k s = h k s) → fold g z n = fold h z n
  | 0, _ => rfl
  | n + 1, e => by
    show g n (fold g z n) = h n (fold h z n)
    rw [fold_cg n (fun k s hk => e k s (by omega)), e n _ (by omega)]
theorem ag.aw {f g : Nat → Int32} (h : ag f g) : awV g = awV f := by
  unfold awV
  rw [h.mn]
  exact fold_cg _ (fun k s hk => by rw [h.wk hk (by omega)])
theorem ag.hm {f g : Nat → Int32} (h : ag f g) : hmV g = hmV f := by
  unfold hmV
  rw [h.mn]
  exact fold_cg _ (fun k s hk => by unfold hmG; rw [h.wk hk (by omega), h.wk hk (by omega)])
theorem WS.min {f : Nat → Int32} (h : WS f) : WS (minF f) := by
  refine ⟨h.1.min.1, ?_⟩
  have e5 : minF f 5 = f 5 := by rw [min_row f (by omega) (fun w => by omega), mvs_row f (by omega) _ (fun w _ => by omega)]
  rw [e5]
  show tkF (rdF (foldR wkF (foldR mvF f (mN f)) (mN f))) 4 = -1 ∨ vp_in (tkF (rdF (foldR wkF (foldR mvF f (mN f)) (mN f))) 4) (f 5).toNatClampNeg
  have e : ∀ g : Nat → Int32, tkF g 4 = g 4 := fun g => by unfold tkF; rw [upd_at, if_neg (by omega)]
  rw [e]
  have x4 : foldR wkF (foldR mvF f (mN f)) (mN f) 4 = f 4 := by rw [wks_row _ _ (fun w _ => by omega), mvs_row f (by omega) _ (fun w _ => by omega)]
  have x5 : foldR wkF (foldR mvF f (mN f)) (mN f) 5 = f 5 := by rw [wks_row _ _ (fun w _ => by omega), mvs_row f (by omega) _ (fun w _ => by omega)]
  generalize foldR wkF (foldR mvF f (mN f)) (mN f) = X at x4 x5
  obtain ⟨r, hr, e5f, -, -⟩ := h.1.2.2
  have h2 := h.2
  unfold rdF
  split
  · rw [x4]
    exact h2
  · next hn =>
    rw [upd_at, if_neg (by omega), upd_at, if_pos rfl]
    rw [x5] at hn ⊢
    have h0 : 0 < r := by
      rcases Nat.eq_zero_or_pos r with e | e
      · rw [e5f, e] at hn
        exact absurd (by decide) hn
      · exact e
    rw [e5f, nI_clamp (by omega)] at h2
    obtain ⟨l, hl, el, -, -⟩ := rd_val hr h0 e5f h2
    rw [x4, el, e5f, nI_clamp (by omega)]
    exact Or.inr (vp_in_nI hl (by omega))
theorem WS.go {f : Nat → Int32} (h : WS f) : ∀ n, WS (goF f n)
  | 0 => h
  | n + 1 => (WS.go h n).min
theorem ltB_ag {f g : Nat → Int32} (h : ag f g) (n : Int32) : ltB g n = ltB f n := by
  unfold ltB
  rw [h.lo (by omega)]
def sp_X4_minutes : SP := spF d_C_I (fun _ hp => RX hp) (fun x hp v hq => PO (F_minutes x) hp v hq)
def E_X4_minutes : EN := [(78, true, 3, sp_X4_isWithin), (63, false, 2, sp_X4_tell), (167, false, 2, sp_X4_isTooLate), (171, false, 2, sp_X3_goMinutes)]
set_option maxRecDepth 100000 in
set_option maxHeartbeats 4000000 in
theorem c_X4_minutes : Ctr M_X4_minutes sp_X4_minutes := by
  refine ctr_of (own := RX4) M_X4_minutes sp_X4_minutes (P := P_X4_minutes) (K := K_X4) (E := E_X4_minutes) (by decide) rfl pk_X4_minutes K_X4_ok (List.forall_mem_cons.mpr ⟨sc_X4_isWithin gw_285 (by decide) (by decide), List.forall_mem_cons.mpr ⟨sc_X4_tell gw_298 (by decide) (by decide), List.forall_mem_cons.mpr ⟨sc_X4_isTooLate gw_455 (by decide) (by decide), List.forall_mem_cons.mpr ⟨sc_X3_goMinutes gw_460 (by decide) (by decide), fun _ h => absurd h List.not_mem_nil⟩⟩⟩⟩) (fun as hp Q h => by obtain ⟨x, hx, -⟩ := spF_e h; rw [d_C_I_e hx]; exact Nat.le_of_ble_eq_true rfl) ?_
  intro Q G hQi hG as hp h
  obtain ⟨x, hx, hpre, hQ⟩ := spF_e h
  rw [d_C_I_e hx]
  clear h hx
  obtain ⟨m0, h0⟩ := hpre
  refine run hG [] 60 ?_
  refine And.intro trivial ?_
  refine And.intro (fun h1 => ?_) (fun h1 => at_no hQ 0 (by omega) (by decide) (qc_r hp) (fun mp h => ⟨mp, qm_r mp, if_neg (and_f (bB_0.mp h1))⟩))
  have h1 : nI 1 ≤ x ∧ x ≤ nI 500 := and_t.mp (bB_1.mp h1)
  refine And.intro trivial ?_
  refine And.intro (fun h2 => ?_) (fun h2 => ?_)
  · have h2 : ltB (rw_ hp 1) x = false := bB_0.mp h2
    refine And.intro ⟨h0.wc, in_k h1 (by omega) (by omega) (by omega)⟩ ?_
    rintro v hq ⟨rfl, e2, hf⟩
    refine at_w hQ hf.1 (fun hz => hiz_e hz hf.2.1 hf.2.2.1 hf.2.2.2) (fun mp h => ⟨goF (mp.1 53) x.toNatClampNeg, ?_, ?_, h.ws.go _⟩)
    · unfold F_minutes
      rw [if_pos h1, if_neg (by rw [← ltB_ag h.ag, h2]; decide), mt_cnt h.wf, gm_ag h.ag h.wf]
    · have e2 : rw_ hq 1 = goF (rw_ hp 1) x.toNatClampNeg := e2
      rw [e2]
      exact h.ag.go h.wf _
  · have h2 : ltB (rw_ hp 1) x = true := bB_1.mp h2
    refine at_no hQ 4 (by omega) (by decide) (qc_r hp) (fun mp h => ⟨mp, qm_r mp, ?_⟩)
    unfold F_minutes
    rw [if_pos h1, if_pos (by rw [← ltB_ag h.ag, h2])]
theorem sc_X4_minutes {own : String} {F L idx : Nat} (h1 : Cond.methodLink own idx yX4_minutes ∈ Gw) (hF : 6 ≤ F) (hL : 140 ≤ L) : SC own F L (idx, false, 2, sp_X4_minutes) := SC_V spF_mono c_X4_minutes okd_0 (fun as hp K h => by obtain ⟨x, hx, -⟩ := spF_e h; exact ⟨_, _, d_C_I_e hx⟩) h1 gw_452 gw_453 gw_69 gw_454 (by decide +kernel) hF hL
def sp_X4_now : SP := spF d_C_I (fun _ hp => RX hp) (fun x hp v hq => PO (F_now x) hp v hq)
def E_X4_now : EN := [(184, false, 1, sp_X3_awakeCount), (187, false, 1, sp_X3_riverCount), (174, false, 1, sp_X3_homeCount), (63, false, 2, sp_X4_tell)]
set_option maxRecDepth 100000 in
set_option maxHeartbeats 4000000 in
theorem c_X4_now : Ctr M_X4_now sp_X4_now := by
  refine ctr_of (own := RX4) M_X4_now sp_X4_now (P := P_X4_now) (K := K_X4) (E := E_X4_now) (by decide) rfl pk_X4_now K_X4_ok (List.forall_mem_cons.mpr ⟨sc_X3_awakeCount gw_485 (by decide) (by decide), List.forall_mem_cons.mpr ⟨sc_X3_riverCount gw_489 (by decide) (by decide), List.forall_mem_cons.mpr ⟨sc_X3_homeCount gw_473 (by decide) (by decide), List.forall_mem_cons.mpr ⟨sc_X4_tell gw_298 (by decide) (by decide), fun _ h => absurd h List.not_mem_nil⟩⟩⟩⟩) (fun as hp Q h => by obtain ⟨x, hx, -⟩ := spF_e h; rw [d_C_I_e hx]; exact Nat.le_of_ble_eq_true rfl) ?_
  intro Q G hQi hG as hp h
  obtain ⟨x, hx, hpre, hQ⟩ := spF_e h
  rw [d_C_I_e hx]
  clear h hx
  obtain ⟨m0, h0⟩ := hpre
  have tI : ∀ j : Nat, j < 7 → x.toInt = (j : Int) → x = nI j := fun j hj h => eq_toInt (by omega) h
  have ne : ∀ j : Nat, j < 7 → x.toInt ≠ (j : Int) → ¬ x = nI j := fun j hj h => ne_toInt (by omega) h
  unfold F_now at hQ
  refine run hG [] 60 ?_
  refine And.intro (fun hz => ?_) (And.intro (fun hz => ?_) (And.intro (fun hz => ?_) (And.intro (fun hz => ?_) (And.intro (fun hz => ?_) (And.intro (fun hz => ?_) (fun hz => ?_))))))
  · have e := tI 0 (by omega) hz
    subst e
    exact at_v hQ (fun mp h => by rw [if_pos rfl, h.lo (by omega), rw_0])
  · have e := tI 1 (by omega) hz
    subst e
    exact at_v hQ (fun mp h => by rw [if_neg (by decide), if_pos rfl, h.lo (by omega), rw_2])
  · have e := tI 2 (by omega) hz
    subst e
    exact at_v hQ (fun mp h => by rw [if_neg (by decide), if_neg (by decide), if_pos rfl, h.lo (by omega), rw_3])
  · have e := tI 3 (by omega) hz
    subst e
    refine And.intro h0.wc ?_
    exact at_v hQ (fun mp h => by rw [if_neg (by decide), if_neg (by decide), if_neg (by decide), if_pos rfl, ← h.ag.aw])
  · have e := tI 4 (by omega) hz
    subst e
    refine And.intro h0.wc ?_
    exact at_v hQ (fun mp h => by rw [if_neg (by decide), if_neg (by decide), if_neg (by decide), if_neg (by decide), if_pos rfl, ← rvN_ag h.ag h.wf])
  · have e := tI 5 (by omega) hz
    subst e
    refine And.intro h0.wc ?_
    exact at_v hQ (fun mp h => by rw [if_neg (by decide), if_neg (by decide), if_neg (by decide), if_neg (by decide), if_neg (by decide), if_pos rfl, ← h.ag.hm])
  · exact at_no hQ 0 (by omega) (by decide) (qc_r hp) (fun mp h => ⟨mp, qm_r mp, by rw [if_neg (ne 0 (by omega) (by omega)), if_neg (ne 1 (by omega) (by omega)), if_neg (ne 2 (by omega) (by omega)), if_neg (ne 3 (by omega) (by omega)), if_neg (ne 4 (by omega) (by omega)), if_neg (ne 5 (by omega) (by omega))]⟩)
theorem sc_X4_now {own : String} {F L idx : Nat} (h1 : Cond.methodLink own idx yX4_now ∈ Gw) (hF : 3 ≤ F) (hL : 65 ≤ L) : SC own F L (idx, false, 2, sp_X4_now) := SC_V spF_mono c_X4_now okd_0 (fun as hp K h => by obtain ⟨x, hx, -⟩ := spF_e h; exact ⟨_, _, d_C_I_e hx⟩) h1 gw_482 gw_483 gw_69 gw_484 (by decide +kernel) hF hL
