theorem R1.c {hp hq mp mq : HP} (h : R1 hp mp) (hc : ∀ c, 1 ≤ c → c < 13 → hq.1 c = hp.1 c ∧ hq.2 c = hp.2 c) (hm : mq.1 53 = mp.1 53) : R1 hq mq := by
  unfold R1 at h ⊢
  rw [hm, rw_cg (w := 1) (fun c a b => hc c (by omega) (by omega)), hiz_c (hc 1 (by omega) (by omega)).1 (hc 1 (by omega) (by omega)).2]
  exact h
theorem R2.c {hp hq mp mq : HP} (h : R2 hp mp) (h0 : hq.1 0 3 = hp.1 0 3) (hc : ∀ c, 25 ≤ c → c < 37 → hq.1 c = hp.1 c ∧ hq.2 c = hp.2 c) (m4 : mq.1 52 4 = mp.1 52 4) (m54 : mq.1 54 = mp.1 54) : R2 hq mq := by
  unfold R2 at h ⊢
  rw [m4, m54, h0, rw_cg (w := 25) (fun c a b => hc c (by omega) (by omega)), hiz_c (hc 25 (by omega) (by omega)).1 (hc 25 (by omega) (by omega)).2]
  exact h
theorem R3.c {hp hq mp mq : HP} (h : R3 hp mp) (h51 : hq.1 51 = hp.1 51) (h10 : hq.1 0 10 = hp.1 0 10) (m57 : mq.1 57 = mp.1 57) : R3 hq mq := by
  unfold R3 at h ⊢
  rw [h51, h10, m57]
  exact h
theorem R4.c {hp hq mp mq : HP} (h : R4 hp mp) (h37 : hq.1 37 1 = hp.1 37 1) (h38 : hq.1 38 = hp.1 38) (m11 : mq.1 52 11 = mp.1 52 11) (m62 : mq.1 62 = mp.1 62) : R4 hq mq := by
  unfold R4 at h ⊢
  rw [h37, h38, m11, m62]
  exact h
theorem R5.c {hp hq mp mq : HP} (h : R5 hp mp) (hI : ∀ s, s < 4 → hq.1 (40 + s) = hp.1 (40 + s)) (hL : ∀ s, s < 4 → hq.2 (44 + s) = hp.2 (44 + s)) (m63 : mq.1 63 = mp.1 63) (m64 : mq.1 64 = mp.1 64) (m65 : mq.2 65 = mp.2 65) : R5 hq mq := by
  unfold R5 at h ⊢
  rw [m63, m64, m65]
  intro s hs
  rw [hI s hs, hL s hs]
  exact h s hs
def sp_X4_image : SP := spF d_C (fun _ hp => RX hp) (fun _ hp v hq => PO F_image hp v hq)
def E_X4_image : EN := [(190, false, 2, sp_X3_takeFrom)]
set_option maxRecDepth 100000 in
set_option maxHeartbeats 4000000 in
theorem c_X4_image : Ctr M_X4_image sp_X4_image := by
  refine ctr_of (own := RX4) M_X4_image sp_X4_image (P := P_X4_image) (K := K_X4) (E := E_X4_image) (by decide) rfl pk_X4_image K_X4_ok (List.forall_mem_cons.mpr ⟨sc_X3_takeFrom gw_497 (by decide) (by decide), fun _ h => absurd h List.not_mem_nil⟩) (fun as hp Q h => by obtain ⟨x, hx, -⟩ := spF_e h; rw [d_C_e hx]; exact Nat.le_of_ble_eq_true rfl) ?_
  intro Q G hQi hG as hp h
  obtain ⟨x, hx, hpre, hQ⟩ := spF_e h
  rw [d_C_e hx]
  clear h hx
  obtain ⟨m0, h0⟩ := hpre
  refine run hG [] 60 ?_
  refine And.intro ⟨Or.inr (by decide), h0.wc⟩ ?_
  rintro v hq ⟨rfl, ha, hf, hb⟩
  have ha : ag (rw_ hp 1) (rw_ hq 25) := ha
  have hf : frm 25 hp hq := hf
  have hb : hq.2 25 0 = hp.2 1 0 ∧ hq.1 25 2 = hp.1 1 2 ∧ hq.1 25 3 = hp.1 1 3 := hb
  refine And.intro (Or.inr rfl) ?_
  show Q (some (vI (nI 1))) (uI hq 0 3 (nI 1))
  have er : ∀ c, c ≠ 0 → (uI hq 0 3 (nI 1)).1 c = hq.1 c := fun c h => uI_row _ _ _ h
  refine hQ _ _ ⟨fun c hc => ⟨by rw [er c (by omega)]; exact (hf c (by omega)).1, (hf c (by omega)).2⟩, fun mp h => ⟨rfl, ?_⟩⟩
  have em : ∀ c, c ≠ 52 → c ≠ 54 → (F_image mp).2.1 c = mp.1 c := fun c h1 h2 => by
    show (uI (rI mp 54 (mp.1 53)) 52 4 (nI 1)).1 c = _
    rw [uI_row _ _ _ h1, rI_ne _ _ h2]
  have e52 : ∀ k, k ≠ 4 → (F_image mp).2.1 52 k = mp.1 52 k := fun k hk => by
    show (uI (rI mp 54 (mp.1 53)) 52 4 (nI 1)).1 52 k = _
    rw [uI_oth _ _ _ hk, rI_ne _ _ (by omega)]
  have e4 : (F_image mp).2.1 52 4 = nI 1 := uI_same _ _ _ _
  have e54 : (F_image mp).2.1 54 = mp.1 53 := by
    show (uI (rI mp 54 (mp.1 53)) 52 4 (nI 1)).1 54 = _
    rw [uI_row _ _ _ (by omega), rI_eq]
  obtain ⟨h1, h2, h3, h4, h5⟩ := h
  refine ⟨h1.c (fun c a b => ⟨by rw [er c (by omega)]; exact (hf c (by omega)).1, (hf c (by omega)).2⟩) (em 53 (by omega) (by omega)), ?_, h3.c (by rw [er _ (by omega)]; exact (hf 51 (by omega)).1) (by rw [uI_oth _ _ _ (by omega), (hf 0 (by omega)).1]) (em 57 (by omega) (by omega)), h4.c (by rw [er _ (by omega), (hf 37 (by omega)).1]) (by rw [er _ (by omega)]; exact (hf 38 (by omega)).1) (e52 11 (by omega)) (em 62 (by omega) (by omega)), h5.c (fun s hs => by rw [er _ (by omega)]; exact (hf (40 + s) (by omega)).1) (fun s hs => (hf (44 + s) (by omega)).2) (em 63 (by omega) (by omega)) (em 64 (by omega) (by omega)) rfl⟩
  have eR : rw_ (uI hq 0 3 (nI 1)) 25 = rw_ hq 25 := rw_cg (fun c a b => ⟨er c (by omega), rfl⟩)
  refine ⟨by rw [uI_same, e4], Or.inr ⟨e4, ?_, by rw [e54]; exact h1.2.1, hiz_e h1.2.2 hb.1 (by rw [er _ (by omega)]; exact hb.2.1) (by rw [er _ (by omega)]; exact hb.2.2)⟩⟩
  rw [e54, eR]
  exact h1.1.trans ha
theorem sc_X4_image {own : String} {F L idx : Nat} (h1 : Cond.methodLink own idx yX4_image ∈ Gw) (hF : 3 ≤ F) (hL : 68 ≤ L) : SC own F L (idx, false, 1, sp_X4_image) := SC_V spF_mono c_X4_image okd_0 (fun as hp K h => by obtain ⟨x, hx, -⟩ := spF_e h; exact ⟨_, _, d_C_e hx⟩) h1 gw_783 gw_784 gw_69 gw_785 (by decide +kernel) hF hL
def sp_X4_undo : SP := spF d_C (fun _ hp => RX hp) (fun _ hp v hq => PO F_undo hp v hq)
def E_X4_undo : EN := [(63, false, 2, sp_X4_tell), (190, false, 2, sp_X3_takeFrom)]
set_option maxRecDepth 100000 in
set_option maxHeartbeats 4000000 in
theorem c_X4_undo : Ctr M_X4_undo sp_X4_undo := by
  refine ctr_of (own := RX4) M_X4_undo sp_X4_undo (P := P_X4_undo) (K := K_X4) (E := E_X4_undo) (by decide) rfl pk_X4_undo K_X4_ok (List.forall_mem_cons.mpr ⟨sc_X4_tell gw_298 (by decide) (by decide), List.forall_mem_cons.mpr ⟨sc_X3_takeFrom gw_497 (by decide) (by decide), fun _ h => absurd h List.not_mem_nil⟩⟩) (fun as hp Q h => by obtain ⟨x, hx, -⟩ := spF_e h; rw [d_C_e hx]; exact Nat.le_of_ble_eq_true rfl) ?_
  intro Q G hQi hG as hp h
  obtain ⟨x, hx, hpre, hQ⟩ := spF_e h
  rw [d_C_e hx]
  clear h hx
  obtain ⟨m0, h0⟩ := hpre
  refine run hG [] 60 ?_
  refine And.intro (fun h1 => ?_) (fun h1 => ?_)
  · have h1 : ¬ hp.1 0 3 = 0 := h1
    have kp : ∀ mp, RC hp mp → ¬ mp.1 52 4 = 0 ∧ ag (mp.1 54) (rw_ hp 25) ∧ WS (mp.1 54) ∧ hiz 25 hp := fun mp h => by
      obtain ⟨e, h2⟩ := h.2.1
      rw [e] at h1
      rcases h2 with h2 | h2
      · exact absurd h2 h1
      · exact ⟨h1, h2.2⟩
    obtain ⟨_, ha0, hw0, hz0⟩ := kp m0 h0
    refine And.intro ⟨Or.inl (by decide), ha0.wf hw0.1⟩ ?_
    rintro v hq ⟨rfl, ha, hf, hb⟩
    have ha : ag (rw_ hp 25) (rw_ hq 1) := ha
    have hf : frm 1 hp hq := hf
    refine at_w hQ hf (fun _ => hiz_e hz0 hb.1 hb.2.1 hb.2.2) (fun mp h => ⟨mp.1 54, ?_, (kp mp h).2.1.trans ha, (kp mp h).2.2.1⟩)
    unfold F_undo
    rw [if_neg (kp mp h).1, ← (kp mp h).2.1.1, ← ha.1, rw_6]
  · have h1 : hp.1 0 3 = 0 := h1
    refine at_no hQ 3 (by omega) (by decide) (qc_r hp) (fun mp h => ⟨mp, qm_r mp, if_pos ?_⟩)
    rw [← h.2.1.1]
    exact h1
theorem sc_X4_undo {own : String} {F L idx : Nat} (h1 : Cond.methodLink own idx yX4_undo ∈ Gw) (hF : 3 ≤ F) (hL : 68 ≤ L) : SC own F L (idx, false, 1, sp_X4_undo) := SC_V spF_mono c_X4_undo okd_0 (fun as hp K h => by obtain ⟨x, hx, -⟩ := spF_e h; exact ⟨_, _, d_C_e hx⟩) h1 gw_787 gw_788 gw_69 gw_789 (by decide +kernel) hF hL
def sp_X4_tear : SP := spF d_C (fun _ hp => RX hp) (fun _ hp v hq => PO F_tear hp v hq)
def E_X4_tear : EN := []
set_option maxRecDepth 100000 in
set_option maxHeartbeats 4000000 in
theorem c_X4_tear : Ctr M_X4_tear sp_X4_tear := by
  refine ctr_of (own := RX4) M_X4_tear sp_X4_tear (P := P_X4_tear) (K := K_X4) (E := E_X4_tear) (by decide) rfl pk_X4_tear K_X4_ok (fun _ h => absurd h List.not_mem_nil) (fun as hp Q h => by obtain ⟨x, hx, -⟩ := spF_e h; rw [d_C_e hx]; exact Nat.le_of_ble_eq_true rfl) ?_
  intro Q G hQi hG as hp h
  obtain ⟨x, hx, hpre, hQ⟩ := spF_e h
  rw [d_C_e hx]
  clear h hx
  obtain ⟨m0, h0⟩ := hpre
  have fin : ∀ y, (if hp.1 0 3 = 0 then nI 0 else nI 1) = y → Q (some (vI y)) (uI hp 0 3 (nI 0)) := fun y hy => by
    have er : ∀ c, c ≠ 0 → (uI hp 0 3 (nI 0)).1 c = hp.1 c := fun c h => uI_row _ _ _ h
    refine hQ _ _ ⟨fun c hc => ⟨er c (by omega), rfl⟩, fun mp h => ?_⟩
    obtain ⟨h1, h2, h3, h4, h5⟩ := h
    have em : ∀ c, c ≠ 52 → (F_tear mp).2.1 c = mp.1 c := fun c h1 => uI_row _ _ _ h1
    have e52 : ∀ k, k ≠ 4 → (F_tear mp).2.1 52 k = mp.1 52 k := fun k hk => uI_oth _ _ _ hk
    have e4 : (F_tear mp).2.1 52 4 = nI 0 := uI_same _ _ _ _
    refine ⟨by rw [← hy, h2.1]; rfl, h1.c (fun c a b => ⟨er c (by omega), rfl⟩) (em 53 (by omega)), ⟨by rw [uI_same, e4], Or.inl e4⟩, h3.c (er _ (by omega)) (uI_oth _ _ _ (by omega)) (em 57 (by omega)), h4.c (by rw [er _ (by omega)]) (er _ (by omega)) (e52 11 (by omega)) (em 62 (by omega)), h5.c (fun s hs => er _ (by omega)) (fun s hs => rfl) (em 63 (by omega)) (em 64 (by omega)) rfl⟩
  refine run hG [] 60 ?_
  refine And.intro (fun h1 => ?_) (fun h1 => ?_)
  · exact And.intro (Or.inl rfl) (fin _ (if_pos h1))
  · exact And.intro (Or.inl rfl) (fin _ (if_neg h1))
theorem sc_X4_tear {own : String} {F L idx : Nat} (h1 : Cond.methodLink own idx yX4_tear ∈ Gw) (hF : 1 ≤ F) (hL : 21 ≤ L) : SC own F L (idx, false, 1, sp_X4_tear) := SC_V spF_mono c_X4_tear okd_0 (fun as hp K h => by obtain ⟨x, hx, -⟩ := spF_e h; exact ⟨_, _, d_C_e hx⟩) h1 gw_791 gw_792 gw_69 gw_793 (by decide +kernel) hF hL
theorem st_at (r : Nat → Int32) (j : Nat) : ∀ n, fold (fun k s => s + (if k = j then r k else nI 0)) (nI 0) n = if j < n then r j else nI 0
  | 0 => by rw [if_neg (by omega)]; rfl
  | n + 1 => by
    show fold _ (nI 0) n + (if n = j then r n else nI 0) = _
    rw [st_at r j n]
    by_cases h : n = j
    · subst h
      rw [if_neg (by omega), if_pos rfl, if_pos (by omega)]
      exact Int32.zero_add _
    · rw [if_neg h]
      by_cases h2 : j < n
      · rw [if_pos h2, if_pos (by omega)]
        exact Int32.add_zero _
      · rw [if_neg h2, if_neg (by omega)]
        rfl
def sp_X4_status : SP := spF d_C_I (fun _ hp => RX hp) (fun x hp v hq => PO (F_status x) hp v hq)
def E_X4_status : EN := [(78, true, 3, sp_X4_isWithin), (63, false, 2, sp_X4_tell)]
set_option maxRecDepth 100000 in
set_option maxHeartbeats 4000000 in
theorem c_X4_status : Ctr M_X4_status sp_X4_status := by
  refine ctr_of (own := RX4) M_X4_status sp_X4_status (P := P_X4_status) (K := K_X4) (E := E_X4_status) (by decide) rfl pk_X4_status K_X4_ok (List.forall_mem_cons.mpr ⟨sc_X4_isWithin gw_285 (by decide) (by decide), List.forall_mem_cons.mpr ⟨sc_X4_tell gw_298 (by decide) (by decide), fun _ h => absurd h List.not_mem_nil⟩⟩) (fun as hp Q h => by obtain ⟨x, hx, -⟩ := spF_e h; rw [d_C_I_e hx]; exact Nat.le_of_ble_eq_true rfl) ?_
  intro Q G hQi hG as hp h
  obtain ⟨x, hx, hpre, hQ⟩ := spF_e h
  rw [d_C_I_e hx]
  clear h hx
  obtain ⟨m0, h0⟩ := hpre
  refine run hG [] 60 ?_
  refine And.intro (fun h1 => ?_) (fun h1 => ?_)
  · have h1 : ¬ x = -1 := h1
    refine And.intro trivial ?_
    refine And.intro (fun h2 => ?_) (fun h2 => at_no hQ 0 (by omega) (by decide) (qc_r hp) (fun mp h => ⟨mp, qm_r mp, if_neg (fun h3 => ?_)⟩))
    · have h2 : inB x 7 = true := (in_b (by omega)).symm.trans (bB_1.mp h2)
      refine And.intro (inB_t.mp h2) ?_
      obtain ⟨j, hj, rfl⟩ := vp_in_of (inB_t.mp h2) (by omega)
      show Q (some (vI (hp.1 51 (nI j).toNatClampNeg))) hp
      rw [nI_clamp (by omega)]
      refine at_v hQ (fun mp h => ?_)
      unfold F_status
      rw [if_pos ⟨Int32.le_trans (by decide) (nI_nn (by omega)), nI_le (by omega) (by omega)⟩]
      unfold stV
      rw [fold_cg (h := fun k s => s + (if k = j then mp.1 57 k else nI 0)) 7 (fun k s hk => ?_), st_at, if_pos hj, h.2.2.1.1 j hj]
      by_cases e : k = j
      · rw [if_pos (Or.inr (by rw [e])), if_pos e]
      · rw [if_neg (fun h => h.elim h1 (fun h => e ((nI_eq (by omega) (by omega)).mp h.symm))), if_neg e]
    · have h2 : ¬ (nI 0 ≤ x ∧ x ≤ nI 6) := and_f (bB_0.mp h2)
      refine h2 ⟨?_, h3.2⟩
      have a := Int32.le_iff_toInt_le.mp h3.1
      have b : x.toInt ≠ (-1 : Int32).toInt := fun e => h1 (Int32.toInt_inj.mp e)
      refine Int32.le_iff_toInt_le.mpr ?_
      rw [show (-1 : Int32).toInt = -1 from by decide] at a b
      rw [show (nI 0).toInt = 0 from by decide]
      omega
  · have h1 : x = -1 := h1
    subst h1
    refine at_v hQ (fun mp h => ?_)
    unfold F_status
    rw [if_pos (by decide), h.2.2.1.2]
    unfold stV tot
    rw [fold_cg (g := fun k s => s + (if (-1 : Int32) = -1 ∨ (-1 : Int32) = nI k then mp.1 57 k else nI 0)) (h := fun k s => s + mp.1 57 k) 7 (fun k s hk => by rw [if_pos (Or.inl rfl)])]
theorem sc_X4_status {own : String} {F L idx : Nat} (h1 : Cond.methodLink own idx yX4_status ∈ Gw) (hF : 3 ≤ F) (hL : 65 ≤ L) : SC own F L (idx, false, 2, sp_X4_status) := SC_V spF_mono c_X4_status okd_0 (fun as hp K h => by obtain ⟨x, hx, -⟩ := spF_e h; exact ⟨_, _, d_C_I_e hx⟩) h1 gw_805 gw_806 gw_69 gw_807 (by decide +kernel) hF hL
def sp_X4_wipe : SP := spF d_C (fun _ hp => RX hp) (fun _ hp v hq => PO F_wipe hp v hq)
def E_X4_wipe : EN := []
set_option maxRecDepth 100000 in
set_option maxHeartbeats 4000000 in
theorem c_X4_wipe : Ctr M_X4_wipe sp_X4_wipe := by
  refine ctr_of (own := RX4) M_X4_wipe sp_X4_wipe (P := P_X4_wipe) (K := K_X4) (E := E_X4_wipe) (by decide) rfl pk_X4_wipe K_X4_ok (fun _ h => absurd h List.not_mem_nil) (fun as hp Q h => by obtain ⟨x, hx, -⟩ := spF_e h; rw [d_C_e hx]; exact Nat.le_of_ble_eq_true rfl) ?_
  intro Q G hQi hG as hp h
  obtain ⟨x, hx, hpre, hQ⟩ := spF_e h
  rw [d_C_e hx]
  clear h hx
  obtain ⟨m0, h0⟩ := hpre
  refine run hG [] 60 ?_
  have er : ∀ c, c ≠ 37 → (uI hp 37 1 (nI 0)).1 c = hp.1 c := fun c h => uI_row _ _ _ h
  refine hQ _ _ ⟨fun c hc => ⟨er c (by omega), rfl⟩, fun mp h => ?_⟩
  obtain ⟨h1, h2, h3, h4, h5⟩ := h
  have em : ∀ c, c ≠ 52 → (F_wipe mp).2.1 c = mp.1 c := fun c h1 => uI_row _ _ _ h1
  have e52 : ∀ k, k ≠ 11 → (F_wipe mp).2.1 52 k = mp.1 52 k := fun k hk => uI_oth _ _ _ hk
  obtain ⟨T, hT, t1, t2, t3⟩ := h4
  refine ⟨?_, h1.c (fun c a b => ⟨er c (by omega), rfl⟩) (em 53 (by omega)), h2.c (by rw [er _ (by omega)]) (fun c a b => ⟨er c (by omega), rfl⟩) (e52 4 (by omega)) (em 54 (by omega)), h3.c (er _ (by omega)) (by rw [er _ (by omega)]) (em 57 (by omega)), ⟨0, by omega, uI_same _ _ _ _, uI_same _ _ _ _, fun j hj => absurd hj (by omega)⟩, h5.c (fun s hs => er _ (by omega)) (fun s hs => rfl) (em 63 (by omega)) (em 64 (by omega)) rfl⟩
  show some (vI (hp.1 37 1)) = some (vI (mp.1 52 11))
  rw [t1, t2]
theorem sc_X4_wipe {own : String} {F L idx : Nat} (h1 : Cond.methodLink own idx yX4_wipe ∈ Gw) (hF : 1 ≤ F) (hL : 21 ≤ L) : SC own F L (idx, false, 1, sp_X4_wipe) := SC_V spF_mono c_X4_wipe okd_0 (fun as hp K h => by obtain ⟨x, hx, -⟩ := spF_e h; exact ⟨_, _, d_C_e hx⟩) h1 gw_600 gw_601 gw_69 gw_602 (by decide +kernel) hF hL
