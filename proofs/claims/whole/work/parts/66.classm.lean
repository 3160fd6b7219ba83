theorem i64_inj {a b : Int32} : a.toInt64 = b.toInt64 ↔ a = b := by
  refine ⟨fun h => ?_, fun h => by rw [h]⟩
  have h := congrArg Int64.toInt h
  rw [Int32.toInt_toInt64, Int32.toInt_toInt64] at h
  exact Int32.toInt_inj.mp h
theorem wa_ws {f g : Nat → Int32} (h : ag f g) (q : Int32) : ∀ n, n ≤ mN f → waN g q.toInt64 n = fold (wsG f q) (nI 0) n
  | 0, _ => rfl
  | n + 1, hn => by
    show (if (g (144 + 5 * n + 2)).toInt64 = q.toInt64 then waN g q.toInt64 n ||| nI 1 <<< (nI n &&& 31) else waN g q.toInt64 n) = fold (wsG f q) (nI 0) n ||| (if f (144 + 5 * n + 2) = q then nI 1 <<< (nI n &&& 31) else nI 0)
    rw [wa_ws h q n (by omega), h.wk (by omega) (by omega)]
    by_cases e : f (144 + 5 * n + 2) = q
    · rw [if_pos e, if_pos (by rw [e])]
    · rw [if_neg e, if_neg (fun h => e (i64_inj.mp h)), or_0]
theorem RC.rd {hp mp : HP} (h : RC hp mp) : ∃ r, r ≤ 12 ∧ hp.1 1 9 = nI r ∧ mp.1 53 5 = nI r := by
  obtain ⟨r, h1, h2, -⟩ := h.wf.2.2
  refine ⟨r, h1, ?_, h2⟩
  rw [← rw_5, ← h.lo (by omega), h2]
theorem in_f {x : Int32} {n : Nat} (h : x.toInt < 0 ∨ (n : Int) ≤ x.toInt) : inB x n = false := by
  cases hb : inB x n with
  | false => rfl
  | true =>
    have := vp_in_iff.mp (inB_t.mp hb)
    omega
def sp_X4_squareOf : SP := spF d_C_II (fun _ hp => RX hp) (fun x hp v hq => PO (F_squareOf x.1 x.2) hp v hq)
def E_X4_squareOf : EN := [(75, true, 1, sp_X4_isSquare), (63, false, 2, sp_X4_tell), (91, false, 2, sp_X3_hasLamp), (94, false, 2, sp_X3_isRiver), (97, false, 2, sp_X3_walkersAt)]
set_option maxRecDepth 100000 in
set_option maxHeartbeats 4000000 in
theorem c_X4_squareOf : Ctr M_X4_squareOf sp_X4_squareOf := by
  refine ctr_of (own := RX4) M_X4_squareOf sp_X4_squareOf (P := P_X4_squareOf) (K := K_X4) (E := E_X4_squareOf) (by decide) rfl pk_X4_squareOf K_X4_ok (List.forall_mem_cons.mpr ⟨sc_X4_isSquare gw_320 (by decide) (by decide), List.forall_mem_cons.mpr ⟨sc_X4_tell gw_298 (by decide) (by decide), List.forall_mem_cons.mpr ⟨sc_X3_hasLamp gw_345 (by decide) (by decide), List.forall_mem_cons.mpr ⟨sc_X3_isRiver gw_346 (by decide) (by decide), List.forall_mem_cons.mpr ⟨sc_X3_walkersAt gw_347 (by decide) (by decide), fun _ h => absurd h List.not_mem_nil⟩⟩⟩⟩⟩) (fun as hp Q h => by obtain ⟨x, hx, -⟩ := spF_e h; rw [d_C_II_e hx]; exact Nat.le_of_ble_eq_true rfl) ?_
  intro Q G hQi hG as hp h
  obtain ⟨x, hx, hpre, hQ⟩ := spF_e h
  rw [d_C_II_e hx]
  clear h hx
  obtain ⟨q, w⟩ := x
  try dsimp only at hpre hQ ⊢
  obtain ⟨m0, h0⟩ := hpre
  have no : ¬ (inB q 25 = true ∧ inB w 4 = true) → ∀ mp, RC hp mp → ∃ mq, qm mp mq ∧ F_squareOf q w mp = noP mq 0 := fun h mp _ => ⟨mp, qm_r mp, if_neg h⟩
  refine run hG [] 60 ?_
  refine And.intro trivial ?_
  refine And.intro (fun h1 => ?_) (fun h1 => at_no hQ 0 (by omega) (by decide) (qc_r hp) (no (fun h => by rw [bB_0.mp h1] at h; exact absurd h.1 (by decide))))
  have h1 : inB q 25 = true := bB_1.mp h1
  have hq := ix_lt (inB_t.mp h1)
  have yes : ∀ j, j < 4 → w.toInt = ((j : Nat) : Int) → ∀ y, (∀ mp, RC hp mp → sqV (mp.1 53) q (nI j) = y) → Q (some (vI y)) hp := fun j hj e y hy => at_v hQ (fun mp h => by
    have e := eq_toInt (by omega) e
    unfold F_squareOf
    rw [e, if_pos ⟨h1, inB_t.mpr (vp_in_nI hj (by omega))⟩, hy mp h])
  refine And.intro (fun hz => ?_) (And.intro (fun hz => ?_) (And.intro (fun hz => ?_) (And.intro (fun hz => ?_) (fun hz => ?_))))
  · refine And.intro (inB_t.mp h1) ?_
    refine yes 0 (by omega) hz _ (fun mp h => ?_)
    show mp.1 53 (19 + q.toNatClampNeg) = hp.1 2 q.toNatClampNeg
    rw [h.lo (by omega), rw_ht hp 1 hq]
  · refine And.intro (inB_t.mp h1) ?_
    refine And.intro (fun h2 => ?_) (fun h2 => ?_)
    · refine yes 1 (by omega) hz _ (fun mp h => ?_)
      show mp.1 53 (44 + q.toNatClampNeg) = _
      rw [h.lo (by omega), rw_lm hp 1 hq]
      exact h2
    · refine yes 1 (by omega) hz _ (fun mp h => ?_)
      show mp.1 53 (44 + q.toNatClampNeg) = _
      rw [h.lo (by omega), rw_lm hp 1 hq]
      exact (bI_01 _ (by omega)).resolve_left h2
  · refine And.intro (inB_t.mp h1) ?_
    refine And.intro (fun h2 => ?_) (fun h2 => ?_)
    · refine yes 2 (by omega) hz _ (fun mp h => ?_)
      show mp.1 53 (69 + q.toNatClampNeg) = _
      rw [h.lo (by omega), rw_rv hp 1 hq]
      exact h2
    · refine yes 2 (by omega) hz _ (fun mp h => ?_)
      show mp.1 53 (69 + q.toNatClampNeg) = _
      rw [h.lo (by omega), rw_rv hp 1 hq]
      exact (bI_01 _ (by omega)).resolve_left h2
  · refine And.intro h0.wc.many ?_
    refine yes 3 (by omega) hz _ (fun mp h => ?_)
    show wsA (mp.1 53) q = waN (rw_ hp 1) q.toInt64 (mN (rw_ hp 1))
    rw [← h.mn, wa_ws h.ag q _ (Nat.le_refl _)]
    rfl
  · exact at_no hQ 0 (by omega) (by decide) (qc_r hp) (no (fun h => by rw [in_f (x := w) (n := 4) (by omega)] at h; exact absurd h.2 (by decide)))
theorem sc_X4_squareOf {own : String} {F L idx : Nat} (h1 : Cond.methodLink own idx yX4_squareOf ∈ Gw) (hF : 3 ≤ F) (hL : 66 ≤ L) : SC own F L (idx, false, 3, sp_X4_squareOf) := SC_V spF_mono c_X4_squareOf okd_0 (fun as hp K h => by obtain ⟨x, hx, -⟩ := spF_e h; exact ⟨_, _, d_C_II_e hx⟩) h1 gw_342 gw_343 gw_69 gw_344 (by decide +kernel) hF hL
def sp_X4_round : SP := spF d_C_I (fun _ hp => RX hp) (fun x hp v hq => PO (F_round x) hp v hq)
def E_X4_round : EN := [(75, true, 1, sp_X4_isSquare), (63, false, 2, sp_X4_tell), (108, false, 2, sp_X3_addRound)]
set_option maxRecDepth 100000 in
set_option maxHeartbeats 4000000 in
theorem c_X4_round : Ctr M_X4_round sp_X4_round := by
  refine ctr_of (own := RX4) M_X4_round sp_X4_round (P := P_X4_round) (K := K_X4) (E := E_X4_round) (by decide) rfl pk_X4_round K_X4_ok (List.forall_mem_cons.mpr ⟨sc_X4_isSquare gw_320 (by decide) (by decide), List.forall_mem_cons.mpr ⟨sc_X4_tell gw_298 (by decide) (by decide), List.forall_mem_cons.mpr ⟨sc_X3_addRound gw_360 (by decide) (by decide), fun _ h => absurd h List.not_mem_nil⟩⟩⟩) (fun as hp Q h => by obtain ⟨x, hx, -⟩ := spF_e h; rw [d_C_I_e hx]; exact Nat.le_of_ble_eq_true rfl) ?_
  intro Q G hQi hG as hp h
  obtain ⟨x, hx, hpre, hQ⟩ := spF_e h
  rw [d_C_I_e hx]
  clear h hx
  obtain ⟨m0, h0⟩ := hpre
  obtain ⟨r, hr, e9, -⟩ := h0.rd
  have e5 : ∀ mp, RC hp mp → mp.1 53 5 = nI r := fun mp h => by rw [h.lo (by omega), rw_5, e9]
  refine run hG [] 60 ?_
  refine And.intro trivial ?_
  refine And.intro (fun h1 => ?_) (fun h1 => at_no hQ 0 (by omega) (by decide) (qc_r hp) (fun mp h => ⟨mp, qm_r mp, if_neg (by rw [bB_0.mp h1]; decide)⟩))
  have h1 : inB x 25 = true := bB_1.mp h1
  obtain ⟨V, hV, rfl⟩ := vp_in_of (inB_t.mp h1) (by omega)
  refine And.intro (fun h2 => ?_) (fun h2 => ?_)
  · have h2 : hp.1 1 9 < nI 12 := h2
    rw [e9, nI_ltI (by omega) (by omega)] at h2
    refine And.intro (show vp_in (hp.1 1 9) 12 by rw [e9]; exact vp_in_nI h2 (by omega)) ?_
    have er : (nI r).toNatClampNeg = r := nI_clamp (by omega)
    show Q (some (vI ((uI (uI hp 3 (hp.1 1 9).toNatClampNeg (nI V)) 1 9 (hp.1 1 9 + nI 1)).1 1 9))) (uI (uI hp 3 (hp.1 1 9).toNatClampNeg (nI V)) 1 9 (hp.1 1 9 + nI 1))
    rw [uI_same, e9, er, nI_s]
    refine at_w hQ (frm_u (frm_u (frm_r 1 hp) (by omega) (by omega)) (by omega) (by omega)) (fun hz => hiz_u (hiz_u hz (by omega)) (by omega)) (fun mp h => ⟨upd (upd (mp.1 53) (7 + r) (nI V)) 5 (nI (r + 1)), ?_, ?_, h.ws.rnd h2 (e5 mp h) hV⟩)
    · unfold F_round
      rw [if_pos h1, if_neg (by rw [e5 mp h, nI_eq (by omega) (by omega)]; omega), e5 mp h, er, nI_s]
    · rw [ru_5, w1_rd _ _ h2]
      exact (h.ag.up (by omega) rfl).up (by omega) rfl
  · have h2 : ¬ hp.1 1 9 < nI 12 := h2
    rw [e9, nI_ltI (by omega) (by omega)] at h2
    refine at_no hQ 1 (by omega) (by decide) (qc_r hp) (fun mp h => ⟨mp, qm_r mp, ?_⟩)
    unfold F_round
    rw [if_pos h1, if_pos (by rw [e5 mp h, show r = 12 by omega])]
theorem sc_X4_round {own : String} {F L idx : Nat} (h1 : Cond.methodLink own idx yX4_round ∈ Gw) (hF : 3 ≤ F) (hL : 65 ≤ L) : SC own F L (idx, false, 2, sp_X4_round) := SC_V spF_mono c_X4_round okd_0 (fun as hp K h => by obtain ⟨x, hx, -⟩ := spF_e h; exact ⟨_, _, d_C_I_e hx⟩) h1 gw_356 gw_357 gw_69 gw_358 (by decide +kernel) hF hL
theorem ag.add {f g : Nat → Int32} (h : ag f g) {c : Nat} (hc : c < 8) (e : f 6 = nI c) (k q w : Int32) : ag (addF f k q w) (upd (upd (upd (upd (upd (upd g (144 + 5 * c + 0) k) (144 + 5 * c + 1) q) (144 + 5 * c + 2) q) (144 + 5 * c + 3) w) (144 + 5 * c + 4) (nI 0)) 6 (nI c + nI 1)) := by
  have ec : (f 6).toNatClampNeg = c := by rw [e, nI_clamp (by omega)]
  have e6 : addF f k q w 6 = nI (c + 1) := add6 e hc
  refine ⟨by rw [e6, upd_at, if_pos rfl, nI_s], fun j hj => ?_⟩
  have hm : mN (addF f k q w) = c + 1 := by unfold mN; rw [e6, nI_clamp (by omega)]
  rw [hm] at hj
  by_cases hj6 : j = 6
  · subst hj6
    rw [e6, upd_at, if_pos rfl, nI_s]
  unfold addF
  rw [ec]
  simp only [upd_at, if_neg hj6]
  by_cases h0 : j < 144 + 5 * c
  · have hm2 : mN f = c := ec
    rw [if_neg (by omega), if_neg (by omega), if_neg (by omega), if_neg (by omega), if_neg (by omega), if_neg (by omega), if_neg (by omega), if_neg (by omega), if_neg (by omega), if_neg (by omega)]
    exact h.2 j (by rw [hm2]; exact h0)
  · rcases (show j = 144 + 5 * c + 0 ∨ j = 144 + 5 * c + 1 ∨ j = 144 + 5 * c + 2 ∨ j = 144 + 5 * c + 3 ∨ j = 144 + 5 * c + 4 by omega) with h | h | h | h | h <;> subst h <;> simp
theorem frm_ad {hp : HP} {c : Nat} (hc : c < 8) (k q y : Int32) : frm 1 hp (adH hp 1 c k q y) := by
  unfold adH
  exact frm_u (frm_u (frm_u (frm_u (frm_u (frm_u (frm_r 1 hp) (by omega) (by omega)) (by omega) (by omega)) (by omega) (by omega)) (by omega) (by omega)) (by omega) (by omega)) (by omega) (by omega)
theorem hiz_ad {w : Nat} {hp : HP} {c : Nat} (h : hiz w hp) (k q y : Int32) : hiz w (adH hp w c k q y) := by
  unfold adH
  exact hiz_u (hiz_u (hiz_u (hiz_u (hiz_u (hiz_u h (by omega)) (by omega)) (by omega)) (by omega)) (by omega)) (by omega)
theorem rw_ad {hp : HP} {w c : Nat} (hc : c < 8) (k q y : Int32) : rw_ (adH hp w c k q y) w = upd (upd (upd (upd (upd (upd (rw_ hp w) (144 + 5 * c + 0) k) (144 + 5 * c + 1) q) (144 + 5 * c + 2) q) (144 + 5 * c + 3) y) (144 + 5 * c + 4) (nI 0)) 6 (nI c + nI 1) := by
  unfold adH
  rw [ru_6, rw_u4 _ _ _ hc (by omega), rw_u4 _ _ _ hc (by omega), rw_u4 _ _ _ hc (by omega), rw_u4 _ _ _ hc (by omega), rw_u4 _ _ _ hc (by omega)]
theorem nI_1s (c : Nat) : nI c + nI 1 - nI 1 = nI c := by rw [Int32.add_sub_cancel]
def sp_X4_walker : SP := spF d_C_III (fun _ hp => RX hp) (fun x hp v hq => PO (F_walker x.1 x.2.1 x.2.2) hp v hq)
def E_X4_walker : EN := [(115, true, 1, sp_X4_isKind), (75, true, 1, sp_X4_isSquare), (118, true, 1, sp_X4_isWay), (63, false, 2, sp_X4_tell), (124, false, 4, sp_X3_addWalker)]
set_option maxRecDepth 100000 in
set_option maxHeartbeats 4000000 in
theorem c_X4_walker : Ctr M_X4_walker sp_X4_walker := by
  refine ctr_of (own := RX4) M_X4_walker sp_X4_walker (P := P_X4_walker) (K := K_X4) (E := E_X4_walker) (by decide) rfl pk_X4_walker K_X4_ok (List.forall_mem_cons.mpr ⟨sc_X4_isKind gw_376 (by decide) (by decide), List.forall_mem_cons.mpr ⟨sc_X4_isSquare gw_320 (by decide) (by decide), List.forall_mem_cons.mpr ⟨sc_X4_isWay gw_379 (by decide) (by decide), List.forall_mem_cons.mpr ⟨sc_X4_tell gw_298 (by decide) (by decide), List.forall_mem_cons.mpr ⟨sc_X3_addWalker gw_382 (by decide) (by decide), fun _ h => absurd h List.not_mem_nil⟩⟩⟩⟩⟩) (fun as hp Q h => by obtain ⟨x, hx, -⟩ := spF_e h; rw [d_C_III_e hx]; exact Nat.le_of_ble_eq_true rfl) ?_
  intro Q G hQi hG as hp h
  obtain ⟨x, hx, hpre, hQ⟩ := spF_e h
  rw [d_C_III_e hx]
  clear h hx
  obtain ⟨k, q, w⟩ := x
  try dsimp only at hpre hQ ⊢
  obtain ⟨m0, h0⟩ := hpre
  have h12 := h0.c12
  generalize mN (rw_ hp 1) = c at h12
  have e6 : ∀ mp, RC hp mp → mp.1 53 6 = nI c := fun mp h => by rw [h.lo (by omega), rw_6, h12.2]
  have no : ¬ (inB k 6 = true ∧ inB q 25 = true ∧ inB w 4 = true) → ∀ mp, RC hp mp → ∃ mq, qm mp mq ∧ F_walker k q w mp = noP mq 0 := fun h mp _ => ⟨mp, qm_r mp, if_neg h⟩
  refine run hG [] 60 ?_
  refine And.intro trivial ?_
  refine And.intro (fun h1 => at_no hQ 0 (by omega) (by decide) (qc_r hp) (no (fun h => by rw [bB_0.mp h1] at h; exact absurd h.1 (by decide)))) (fun h1 => ?_)
  have h1 : inB k 6 = true := bB_1.mp h1
  refine And.intro trivial ?_
  refine And.intro (fun h2 => at_no hQ 0 (by omega) (by decide) (qc_r hp) (no (fun h => by rw [bB_0.mp h2] at h; exact absurd h.2.1 (by decide)))) (fun h2 => ?_)
  have h2 : inB q 25 = true := bB_1.mp h2
  refine And.intro trivial ?_
  refine And.intro (fun h3 => ?_) (fun h3 => at_no hQ 0 (by omega) (by decide) (qc_r hp) (no (fun h => by rw [bB_0.mp h3] at h; exact absurd h.2.2 (by decide))))
  have h3 : inB w 4 = true := bB_1.mp h3
  refine And.intro (fun h4 => ?_) (fun h4 => ?_)
  · have h4 : hp.1 1 12 < nI 8 := h4
    rw [h12.2, nI_ltI (by omega) (by omega)] at h4
    refine And.intro (show vp_in (hp.1 1 12) 8 by rw [h12.2]; exact vp_in_nI h4 (by omega)) ?_
    have er : (nI c).toNatClampNeg = c := nI_clamp (by omega)
    show Q (some (vI ((adH hp 1 (hp.1 1 12).toNatClampNeg k q w).1 1 12 - nI 1))) (adH hp 1 (hp.1 1 12).toNatClampNeg k q w)
    rw [h12.2, er, show (adH hp 1 c k q w).1 1 12 = nI c + nI 1 from uI_same _ _ _ _, nI_1s]
    refine at_w hQ (frm_ad h4 k q w) (fun hz => hiz_ad hz k q w) (fun mp h => ⟨addF (mp.1 53) k q w, ?_, ?_, h.ws.add h4 (e6 mp h) (inB_t.mp h1) (inB_t.mp h2) (inB_t.mp h3)⟩)
    · unfold F_walker
      rw [if_pos ⟨h1, h2, h3⟩, if_neg (by rw [e6 mp h, nI_eq (by omega) (by omega)]; omega), e6 mp h]
    · rw [rw_ad h4]
      exact h.ag.add h4 (e6 mp h) k q w
  · have h4 : ¬ hp.1 1 12 < nI 8 := h4
    rw [h12.2, nI_ltI (by omega) (by omega)] at h4
    refine at_no hQ 1 (by omega) (by decide) (qc_r hp) (fun mp h => ⟨mp, qm_r mp, ?_⟩)
    unfold F_walker
    rw [if_pos ⟨h1, h2, h3⟩, if_pos (by rw [e6 mp h, show c = 8 by omega])]
theorem sc_X4_walker {own : String} {F L idx : Nat} (h1 : Cond.methodLink own idx yX4_walker ∈ Gw) (hF : 3 ≤ F) (hL : 67 ≤ L) : SC own F L (idx, false, 4, sp_X4_walker) := SC_V spF_mono c_X4_walker okd_0 (fun as hp K h => by obtain ⟨x, hx, -⟩ := spF_e h; exact ⟨_, _, d_C_III_e hx⟩) h1 gw_373 gw_374 gw_69 gw_375 (by decide +kernel) hF hL
