def G_ward (hp : HP) : Int32 × HP := ((F_ward hp).1, ob hp (F_ward hp).2 (upd (hp.1 52) 11 (nI 0)))
theorem rc_tx {hp hs mp : HP} (h : RC hp mp) (hc : ∀ c, (c = 0 ∨ (25 ≤ c ∧ c < 37) ∨ c = 38 ∨ (40 ≤ c ∧ c < 48) ∨ c = 51) → hs.1 c = hp.1 c ∧ hs.2 c = hp.2 c) (e1 : hs.1 37 1 = nI 0) {g : Nat → Int32} (ha : ag g (rw_ hs 1)) (hw : WS g) (hz : hiz 1 hs) : RC hs (ob mp g (upd (mp.1 52) 11 (nI 0))) := by
  obtain ⟨h1, h2, h3, h4, h5⟩ := h
  refine ⟨?_, h2.c (by rw [(hc 0 (by omega)).1]) (fun c a b => hc c (by omega)) (by rw [ob_52, upd_at, if_neg (by omega)]) (ob_c _ _ _ (by omega) (by omega)), h3.c (hc 51 (by omega)).1 (by rw [(hc 0 (by omega)).1]) (ob_c _ _ _ (by omega) (by omega)), ⟨0, by omega, by rw [ob_52, upd_at, if_pos rfl], e1, fun j hj => absurd hj (by omega)⟩, h5.c (fun s hs => (hc (40 + s) (by omega)).1) (fun s hs => (hc (44 + s) (by omega)).2) (ob_c _ _ _ (by omega) (by omega)) (ob_c _ _ _ (by omega) (by omega)) rfl⟩
  unfold R1
  rw [ob_53]
  exact ⟨ha, hw, hz⟩
def sp_X4_ward : SP := spF d_C (fun _ hp => RX hp) (fun _ hp v hq => PO G_ward hp v hq)
def E_X4_ward : EN := [(190, false, 2, sp_X3_takeFrom), (241, false, 2, sp_X1_readItems)]
set_option maxRecDepth 100000 in
set_option maxHeartbeats 4000000 in
theorem c_X4_ward : Ctr M_X4_ward sp_X4_ward := by
  refine ctr_of (own := RX4) M_X4_ward sp_X4_ward (P := P_X4_ward) (K := K_X4) (E := E_X4_ward) (by decide) rfl pk_X4_ward K_X4_ok (List.forall_mem_cons.mpr ⟨sc_X3_takeFrom gw_497 (by decide) (by decide), List.forall_mem_cons.mpr ⟨sc_X1_readItems gw_607 (by decide) (by decide), fun _ h => absurd h List.not_mem_nil⟩⟩) (fun as hp Q h => by obtain ⟨x, hx, -⟩ := spF_e h; rw [d_C_e hx]; exact Nat.le_of_ble_eq_true rfl) ?_
  intro Q G hQi hG as hp h
  obtain ⟨x, hx, hpre, hQ⟩ := spF_e h
  rw [d_C_e hx]
  clear h hx
  obtain ⟨m0, h0⟩ := hpre
  obtain ⟨T, hT, -, e1, -⟩ := h0.2.2.2.1
  have eM : ∀ mp, RC hp mp → tN mp = T ∧ rbs (hp.1 38) (mp.1 62) T := fun mp h => by
    obtain ⟨U, hU, t1, t2, t3⟩ := h.2.2.2.1
    have eU : U = T := (nI_eq (by omega) (by omega)).mp (t2.symm.trans e1)
    subst eU
    exact ⟨by unfold tN; rw [t1, nI_clamp (by omega)], t3⟩
  refine run hG [11] 60 ?_
  refine And.intro ⟨Or.inr (by decide), h0.wc⟩ ?_
  rintro v hq ⟨rfl, ha, hf, hb⟩
  have ha : ag (rw_ hp 1) (rw_ hq 13) := ha
  have hf : frm 13 hp hq := hf
  have hb : hq.2 13 0 = hp.2 1 0 ∧ hq.1 13 2 = hp.1 1 2 ∧ hq.1 13 3 = hp.1 1 3 := hb
  have hWS : WS (rw_ hq 13) := ag_ws (rc_ah h0 ha) h0.ws
  have e37 : hq.1 37 = hp.1 37 := (hf 37 (by omega)).1
  have e38 : hq.1 38 = hp.1 38 := (hf 38 (by omega)).1
  have enN : nN hq = T := by unfold nN; rw [e37, e1, nI_clamp (by omega)]
  have hz13 : hiz 1 hp → hiz 13 hq := fun hz => hiz_e hz hb.1 hb.2.1 hb.2.2
  have hrel : ∀ mp, RC hp mp → relS (pWard (mp.1 62) T (mp.1 53)) (pWard (hp.1 38) T (rw_ hq 13)) ∧ okW (pWard (mp.1 62) T (mp.1 53)) := fun mp h => by
    rw [rbs_ward (eM mp h).2]
    exact ⟨rel_its _ _ _ _ _ (rc_ah h ha) h.ws (Nat.zero_le _), ok_its _ _ _ _ h.ws (Nat.zero_le _)⟩
  have hokC : okW (pWard (hp.1 38) T (rw_ hq 13)) := ok_its _ _ _ _ hWS (Nat.zero_le _)
  refine run hG [22] 60 ?_
  refine And.intro ⟨by decide, ⟨T, hT, by rw [e37]; exact e1⟩, hWS⟩ ?_
  intro v hr h3
  have h3 : td3 13 hq (pWard (hq.1 38) (nN hq) (rw_ hq 13)) v hr := h3
  rw [e38, enN] at h3
  obtain ⟨hfr, h3⟩ := h3
  have cells : ∀ c, (c < 13 ∨ (25 ≤ c ∧ c ≠ 37)) → hr.1 c = hp.1 c ∧ hr.2 c = hp.2 c := fun c hc => ⟨(hfr.1 c (by omega) (by omega)).1.trans (hf c (by omega)).1, (hfr.1 c (by omega) (by omega)).2.trans (hf c (by omega)).2⟩
  have cell37 : hr.2 37 = hp.2 37 := hfr.2.1.trans (hf 37 (by omega)).2
  have er : ∀ c, c ≠ 37 → (uI hr 37 1 (nI 0)).1 c = hr.1 c := fun c hc => uI_row _ _ _ hc
  generalize pWard (hp.1 38) T (rw_ hq 13) = R at h3 hrel hokC
  cases R with
  | inl s =>
    obtain ⟨hs, rfl, h2⟩ := h3
    refine run hG [] 60 ?_
    have e2 : (uI hr 37 1 (nI 0)).1 37 2 = nI s := by rw [uI_oth _ _ _ (by omega)]; exact h2
    refine And.intro (fun h => absurd (show (uI hr 37 1 (nI 0)).1 37 2 < 0 from h) (by rw [e2]; exact Int32.not_lt.mpr (nI_nn (by omega)))) (fun _ => ?_)
    show Q (some (vI (-1 - (uI hr 37 1 (nI 0)).1 37 2))) (uI hr 37 1 (nI 0))
    rw [e2]
    have hcs : ∀ c, (c < 13 ∨ (25 ≤ c ∧ c ≠ 37)) → (uI hr 37 1 (nI 0)).1 c = hp.1 c ∧ (uI hr 37 1 (nI 0)).2 c = hp.2 c := fun c hc => ⟨(er c (by omega)).trans (cells c hc).1, (cells c hc).2⟩
    refine hQ _ _ ⟨fun c hc => hcs c (by omega), fun mp h => ?_⟩
    have hx := (hrel mp h).1
    have eF : F_ward mp = (-1 - nI s, mp.1 53) := by
      unfold F_ward
      rw [(eM mp h).1]
      cases hp2 : pWard (mp.1 62) T (mp.1 53) with
      | inl a => rw [hp2] at hx; rw [show a = s from hx]; rfl
      | inr a => rw [hp2] at hx; exact hx.elim
    unfold G_ward
    rw [eF]
    refine ⟨rfl, rc_tx h (fun c hc => hcs c (by omega)) (uI_same _ _ _ _) ?_ h.ws ?_⟩
    · rw [rw_cg (hp := hp) (w := 1) (fun c a b => hcs c (by omega))]
      exact h.ag
    · rw [hiz_c (hcs 1 (by omega)).1 (hcs 1 (by omega)).2]
      exact h.1.2.2
  | inr p =>
    obtain ⟨rfl, h2, hrow⟩ := h3
    have hokC : WS p.2 := hokC
    have erow : rw_ (uI hr 37 1 (nI 0)) 13 = p.2 := by
      rw [← hrow]
      exact rw_cg (fun c a b => ⟨er c (by omega), rfl⟩)
    refine run hG [62] 60 ?_
    have e2 : (uI hr 37 1 (nI 0)).1 37 2 = -1 := by rw [uI_oth _ _ _ (by omega)]; exact h2
    refine And.intro (fun _ => ?_) (fun h => absurd (show (uI hr 37 1 (nI 0)).1 37 2 < 0 by rw [e2]; decide) h)
    refine And.intro ⟨Or.inl (by decide), show WF (rw_ (uI hr 37 1 (nI 0)) 13) by rw [erow]; exact hokC.1⟩ ?_
    rintro v hs ⟨rfl, ha2, hf2, hb2⟩
    have ha2 : ag (rw_ (uI hr 37 1 (nI 0)) 13) (rw_ hs 1) := ha2
    have hf2 : frm 1 (uI hr 37 1 (nI 0)) hs := hf2
    have hb2 : hs.2 1 0 = (uI hr 37 1 (nI 0)).2 13 0 ∧ hs.1 1 2 = (uI hr 37 1 (nI 0)).1 13 2 ∧ hs.1 1 3 = (uI hr 37 1 (nI 0)).1 13 3 := hb2
    rw [erow] at ha2
    have hzs : hiz 1 hp → hiz 1 hs := fun hz => hiz_e (hfr.2.2.2 (hz13 hz)) hb2.1 (by rw [hb2.2.1, er 13 (by omega)]) (by rw [hb2.2.2, er 13 (by omega)])
    have hcs : ∀ c, (c < 1 ∨ (25 ≤ c ∧ c ≠ 37)) → hs.1 c = hp.1 c ∧ hs.2 c = hp.2 c := fun c hc => ⟨(hf2 c (by omega)).1.trans ((er c (by omega)).trans (cells c (by omega)).1), (hf2 c (by omega)).2.trans (cells c (by omega)).2⟩
    refine run hG [] 60 ?_
    refine hQ _ _ ⟨fun c hc => hcs c (by omega), fun mp h => ?_⟩
    have hx := hrel mp h
    obtain ⟨q, hq1, hq2, hq3, hq4⟩ : ∃ q, pWard (mp.1 62) T (mp.1 53) = .inr q ∧ q.1 = p.1 ∧ ag q.2 p.2 ∧ WS q.2 := by
      cases hp2 : pWard (mp.1 62) T (mp.1 53) with
      | inl a => rw [hp2] at hx; exact hx.1.elim
      | inr a => rw [hp2] at hx; exact ⟨a, rfl, hx.1.1, hx.1.2, hx.2⟩
    have eF : F_ward mp = (nI p.1, q.2) := by
      unfold F_ward
      rw [(eM mp h).1, hq1, ← hq2]
      rfl
    unfold G_ward
    rw [eF]
    exact ⟨rfl, rc_tx h (fun c hc => hcs c (by omega)) (by rw [(hf2 37 (by omega)).1]; exact uI_same _ _ _ _) (hq3.trans ha2) hq4 (hzs h.1.2.2)⟩
theorem sc_X4_ward {own : String} {F L idx : Nat} (h1 : Cond.methodLink own idx yX4_ward ∈ Gw) (hF : 11 ≤ F) (hL : 238 ≤ L) : SC own F L (idx, false, 1, sp_X4_ward) := SC_V spF_mono c_X4_ward okd_0 (fun as hp K h => by obtain ⟨x, hx, -⟩ := spF_e h; exact ⟨_, _, d_C_e hx⟩) h1 gw_604 gw_605 gw_69 gw_606 (by decide +kernel) hF hL
