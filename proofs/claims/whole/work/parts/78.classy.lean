/-! without rounds nothing reads where they stood -/
theorem u4 (f : Nat → Int32) (c : Int32) {k : Nat} (h : k ≠ 4) : upd f 4 c k = f k := by rw [upd_at, if_neg h]
theorem u4_may (f : Nat → Int32) (c : Int32) (q : Nat) : mayB (upd f 4 c) q = mayB f q := by
  funext w
  unfold mayB
  rw [u4 f c (by unfold dr; split <;> omega)]
theorem u4_tur (f : Nat → Int32) (c : Int32) (q : Nat) (l : Bool) : turB (upd f 4 c) q l = turB f q l := by
  funext w
  unfold turB
  rw [u4_may, u4 f c (by omega)]
theorem u4_lmp (f : Nat → Int32) (c : Int32) (q y : Nat) : lmpV (upd f 4 c) q y = lmpV f q y := by
  unfold lmpV
  rw [u4_tur, u4_tur]
theorem u4_slp (f : Nat → Int32) (c : Int32) (q y : Nat) : slpV (upd f 4 c) q y = slpV f q y := by
  have e : slpC (upd f 4 c) q = slpC f q := by
    unfold slpC
    rw [u4_may, u4 f c (by omega), show (fun w => upd f 4 c (19 + bsd q w)) = (fun w => f (19 + bsd q w)) from funext fun w => u4 f c (by omega)]
  unfold slpV
  rw [e, u4_tur]
theorem u4_wnd (f : Nat → Int32) (c : Int32) (q : Nat) : wndF (upd f 4 c) q = ((wndF f q).1, upd (wndF f q).2 4 c) := by
  unfold wndF
  rw [u4_may, u4 f c (by omega)]
  split
  · rfl
  · rw [upd_comm f _ _ (by omega)]
theorem u4_plc (f : Nat → Int32) (c : Int32) (w : Nat) : plc (upd f 4 c) w = plc f w := by unfold plc; rw [u4 f c (by omega)]
theorem u4_wyO (f : Nat → Int32) (c : Int32) (w : Nat) : wyO (upd f 4 c) w = wyO f w := by unfold wyO; rw [u4 f c (by omega)]
theorem u4_st (f : Nat → Int32) (c : Int32) (w : Nat) : stF (upd f 4 c) w = ((stF f w).1, upd (stF f w).2 4 c) := by
  unfold stF
  rw [u4_plc, u4_wyO, u4_tur, u4_slp, u4_lmp, u4_wnd, u4 f c (show 144 + 5 * w ≠ 4 by omega), u4 f c (show 144 + 5 * w + 2 ≠ 4 by omega), u4 f c (show 144 + 5 * w + 1 ≠ 4 by omega), u4 f c (show 0 ≠ 4 by omega), u4 f c (show 2 ≠ 4 by omega)]
  split
  · rfl
  split
  · rfl
  split
  · rfl
  split
  · rfl
  split
  · rfl
  · rfl
theorem u4_inR (f : Nat → Int32) (c : Int32) (w : Nat) : inR (upd f 4 c) w = inR f w := by
  unfold inR
  rw [u4_plc, u4 f c (by omega)]
theorem u4_goB (f : Nat → Int32) (c : Int32) (w : Nat) : goB (upd f 4 c) w = goB f w := by
  unfold goB
  rw [u4_inR, u4 f c (by omega)]
theorem u4_mv (f : Nat → Int32) (c : Int32) (w : Nat) : mvF (upd f 4 c) w = upd (mvF f w) 4 c := by
  unfold mvF
  rw [u4_goB, u4_st, u4_plc]
  split
  · dsimp only
    split
    · rfl
    · rw [upd_comm _ _ _ (show 4 ≠ 144 + 5 * w + 3 by omega), upd_comm _ _ _ (show 4 ≠ 144 + 5 * w + 2 by omega)]
  · rfl
theorem u4_wk (f : Nat → Int32) (c : Int32) (w : Nat) : wkF (upd f 4 c) w = upd (wkF f w) 4 c := by
  unfold wkF
  rw [u4_goB, u4 f c (show 144 + 5 * w + 2 ≠ 4 by omega), u4 f c (show 3 ≠ 4 by omega)]
  split
  · rw [upd_comm _ _ _ (show 4 ≠ 144 + 5 * w + 4 by omega)]
  · rfl
theorem u4_fold {G : (Nat → Int32) → Nat → (Nat → Int32)} (h : ∀ f c w, G (upd f 4 c) w = upd (G f w) 4 c) (f : Nat → Int32) (c : Int32) : ∀ n, foldR G (upd f 4 c) n = upd (foldR G f n) 4 c
  | 0 => rfl
  | n + 1 => by
    show G (foldR G (upd f 4 c) n) n = upd (G (foldR G f n) n) 4 c
    rw [u4_fold h f c n, h]
theorem min_5 (f : Nat → Int32) : minF f 5 = f 5 := by rw [min_row f (by omega) (fun w => by omega), mvs_row f (by omega) _ (fun w _ => by omega)]
theorem u4_min (f : Nat → Int32) (c : Int32) (h : f 5 = nI 0) : minF (upd f 4 c) = upd (minF f) 4 c := by
  have e : mN (upd f 4 c) = mN f := by unfold mN; rw [u4 f c (by omega)]
  show tkF (rdF (foldR wkF (foldR mvF (upd f 4 c) (mN (upd f 4 c))) (mN (upd f 4 c)))) = upd (tkF (rdF (foldR wkF (foldR mvF f (mN f)) (mN f)))) 4 c
  rw [e, u4_fold u4_mv, u4_fold u4_wk]
  have x5 : foldR wkF (foldR mvF f (mN f)) (mN f) 5 = nI 0 := by rw [wks_row _ _ (fun w _ => by omega), mvs_row f (by omega) _ (fun w _ => by omega), h]
  generalize foldR wkF (foldR mvF f (mN f)) (mN f) = X at x5
  have r : ∀ g : Nat → Int32, g 5 = nI 0 → rdF g = g := fun g hg => by unfold rdF; rw [hg]; exact if_pos (by decide)
  rw [r _ (by rw [u4 X c (by omega)]; exact x5), r X x5]
  unfold tkF
  rw [u4 X c (by omega), upd_comm _ _ _ (show 4 ≠ 0 by omega)]
theorem u4_go (f : Nat → Int32) (c : Int32) (h : f 5 = nI 0) : ∀ n, goF (upd f 4 c) n = upd (goF f n) 4 c ∧ goF f n 5 = nI 0
  | 0 => ⟨rfl, h⟩
  | n + 1 => by
    have ih := u4_go f c h n
    show minF (goF (upd f 4 c) n) = upd (minF (goF f n)) 4 c ∧ minF (goF f n) 5 = nI 0
    rw [ih.1, u4_min _ _ ih.2, min_5]
    exact ⟨rfl, ih.2⟩
theorem u4_aw (f : Nat → Int32) (c : Int32) : awV (upd f 4 c) = awV f := by
  have e : mN (upd f 4 c) = mN f := by unfold mN; rw [u4 f c (by omega)]
  unfold awV
  rw [e]
  exact fold_cg _ (fun k s _ => by rw [u4 f c (by omega)])
theorem WF_4 {f : Nat → Int32} (h : WF f) : WF (upd f 4 (-1)) := by
  obtain ⟨⟨n, hn, e6, hw⟩, hfl, r, hr, e5, hrd, h4⟩ := h
  exact ⟨⟨n, hn, by rw [u4 f _ (by omega)]; exact e6, fun w hw2 => wk_same (hw w hw2) (fun j _ => u4 f _ (by omega))⟩, fun k h1 h2 => by rw [u4 f _ (by omega)]; exact hfl k h1 h2, r, hr, by rw [u4 f _ (by omega)]; exact e5, fun k hk => by rw [u4 f _ (by omega)]; exact hrd k hk, Or.inr (Or.inl (by rw [upd_at, if_pos rfl]))⟩
def sp_X4_watch : SP := spF d_C_I (fun _ hp => RX hp) (fun x hp v hq => PO (F_watch x) hp v hq)
def E_X4_watch : EN := [(78, true, 3, sp_X4_isWithin), (63, false, 2, sp_X4_tell), (167, false, 2, sp_X4_isTooLate), (190, false, 2, sp_X3_takeFrom), (112, false, 1, sp_X3_emptyRounds), (171, false, 2, sp_X3_goMinutes), (184, false, 1, sp_X3_awakeCount)]
set_option maxRecDepth 100000 in
set_option maxHeartbeats 4000000 in
theorem c_X4_watch : Ctr M_X4_watch sp_X4_watch := by
  refine ctr_of (own := RX4) M_X4_watch sp_X4_watch (P := P_X4_watch) (K := K_X4) (E := E_X4_watch) (by decide) rfl pk_X4_watch K_X4_ok (List.forall_mem_cons.mpr ⟨sc_X4_isWithin gw_285 (by decide) (by decide), List.forall_mem_cons.mpr ⟨sc_X4_tell gw_298 (by decide) (by decide), List.forall_mem_cons.mpr ⟨sc_X4_isTooLate gw_455 (by decide) (by decide), List.forall_mem_cons.mpr ⟨sc_X3_takeFrom gw_497 (by decide) (by decide), List.forall_mem_cons.mpr ⟨sc_X3_emptyRounds gw_368 (by decide) (by decide), List.forall_mem_cons.mpr ⟨sc_X3_goMinutes gw_460 (by decide) (by decide), List.forall_mem_cons.mpr ⟨sc_X3_awakeCount gw_485 (by decide) (by decide), fun _ h => absurd h List.not_mem_nil⟩⟩⟩⟩⟩⟩⟩) (fun as hp Q h => by obtain ⟨x, hx, -⟩ := spF_e h; rw [d_C_I_e hx]; exact Nat.le_of_ble_eq_true rfl) ?_
  intro Q G hQi hG as hp h
  obtain ⟨x, hx, hpre, hQ⟩ := spF_e h
  rw [d_C_I_e hx]
  clear h hx
  obtain ⟨m0, h0⟩ := hpre
  refine run hG [39] 60 ?_
  refine And.intro trivial ?_
  refine And.intro (fun h1 => ?_) (fun h1 => at_no hQ 0 (by omega) (by decide) (qc_r hp) (fun mp h => ⟨mp, qm_r mp, if_neg (and_f (bB_0.mp h1))⟩))
  have h1 : nI 1 ≤ x ∧ x ≤ nI 120 := and_t.mp (bB_1.mp h1)
  have hn : vp_in x 1000 := in_k h1 (by omega) (by omega) (by omega)
  refine And.intro trivial ?_
  refine And.intro (fun h2 => ?_) (fun h2 => ?_)
  · have h2 : ltB (rw_ hp 1) x = false := bB_0.mp h2
    have e1 : ∀ H, frm 13 hp H → rw_ H 1 = rw_ hp 1 := fun H h => rw_cg (fun c a b => h c (by omega))
    have val : ∀ mp, RC hp mp → F_watch x mp = ((bst (wtX (rw_ hp 1) x.toNatClampNeg) (nI 0) (-1) 25).1, rI mp 56 (mp.1 53)) := fun mp h => by
      unfold F_watch
      rw [if_pos h1, if_neg (by rw [← ltB_ag h.ag, h2]; decide), bst_cg (u := wtX (mp.1 53) x.toNatClampNeg) (v := wtX (rw_ hp 1) x.toNatClampNeg) 25 (fun k hk => ?_)]
      unfold wtX wtF
      rw [(((h.ag.up (k := 3) (by omega) (u := nI k) rfl).up (k := 5) (by omega) (u := nI 0) rfl).go (h.wf.wt (nI k)).1 x.toNatClampNeg).aw]
    have hwc := h0.wc
    generalize hff : rw_ hp 1 = f at e1 val hwc
    generalize hN : x.toNatClampNeg = N at val
    have key := for_up (P := fun q => ∀ H, frm 13 hp H → G 39 [(4, vI (nI q)), (3, vI (bst (wtX f N) (nI 0) (-1) q).2), (2, vI (bst (wtX f N) (nI 0) (-1) q).1), (1, vI x), (0, vR 0 0)] [] H) 25 (by
      intro H hfr
      refine run hG [39] 60 ?_
      refine And.intro (fun _ => ?_) (fun h => absurd (show nI 25 ≤ nI 25 by decide) h)
      exact at_q hQ (qc_13 hfr) (fun mp h => ⟨rI mp 56 (mp.1 53), qm_c _ (Or.inr (Or.inl rfl)), val mp h⟩)) (by
      intro q hq2 ih H hfr
      have eS : bst (wtX f N) (nI 0) (-1) (q + 1) = (if awV (wtF f N q) ≤ (bst (wtX f N) (nI 0) (-1) q).2 then bst (wtX f N) (nI 0) (-1) q else (nI q, awV (wtF f N q))) := rfl
      rw [eS] at ih
      generalize bst (wtX f N) (nI 0) (-1) q = b at ih
      refine run hG [57] 60 ?_
      refine And.intro (fun h => absurd (show nI 25 ≤ nI q from h) (nI_ge hq2 (by omega))) (fun _ => ?_)
      refine And.intro ⟨Or.inr (by decide), show WF (rw_ H 1) by rw [e1 H hfr]; exact hwc⟩ ?_
      rintro v hr ⟨rfl, ha, hf, -⟩
      have ha : ag (rw_ H 1) (rw_ hr 13) := ha
      have hf : frm 13 H hr := hf
      rw [e1 H hfr] at ha
      have hwt := hwc.wt (nI q)
      have ha2 := (ha.up (k := 3) (by omega) (u := nI q) rfl).up (k := 5) (by omega) (u := nI 0) rfl
      have erow : rw_ (uI (uI (uI hr 13 9 (nI 0)) 13 10 (-1)) 13 7 (nI q)) 13 = upd (upd (upd (rw_ hr 13) 3 (nI q)) 5 (nI 0)) 4 (-1) := by
        rw [ru_3, ru_4, ru_5, upd_comm _ _ _ (show 4 ≠ 3 by omega), upd_comm _ _ _ (show 5 ≠ 3 by omega)]
      refine run hG [81] 60 ?_
      refine And.intro trivial ?_
      refine And.intro ⟨show WF (rw_ (uI (uI (uI hr 13 9 (nI 0)) 13 10 (-1)) 13 7 (nI q)) 13) by rw [erow]; exact WF_4 (ha2.wf hwt.1), hn⟩ ?_
      rintro v hs ⟨rfl, e2, hf2⟩
      have e2 : rw_ hs 13 = goF (rw_ (uI (uI (uI hr 13 9 (nI 0)) 13 10 (-1)) 13 7 (nI q)) 13) x.toNatClampNeg := e2
      have hfr2 : frm 13 hp hs := frm_t (frm_u (frm_u (frm_u (frm_t hfr hf) (by omega) (by omega)) (by omega) (by omega)) (by omega) (by omega)) hf2.1
      have hws : WF (rw_ hs 13) := by
        rw [e2, erow]
        exact ((WF_4 (ha2.wf hwt.1)).go _).1
      have eaw : awV (rw_ hs 13) = awV (wtF f N q) := by
        rw [e2, erow, hN, (u4_go _ _ (by rw [upd_at, if_pos rfl]) N).1, u4_aw, (ha2.go hwt.1 N).aw]
        rfl
      refine run hG [91] 60 ?_
      refine And.intro hws ?_
      refine cl_lv hG [(5, vI (awV (rw_ hs 13))), (4, vI (nI q)), (3, vI b.2), (2, vI b.1), (1, vI x), (0, vR 0 0)] ⟨rfl, rfl, rfl, rfl, rfl, rfl, trivial⟩ ?_
      rw [eaw]
      refine run hG [39] 60 ?_
      refine And.intro (fun h4 => ?_) (fun h4 => ?_)
      · have h4 : awV (wtF f N q) ≤ b.2 := h4
        rw [if_pos h4] at ih
        refine cl_lv hG [(4, vI (nI q + nI 1)), (3, vI b.2), (2, vI b.1), (1, vI x), (0, vR 0 0)] ⟨rfl, rfl, rfl, rfl, rfl, trivial⟩ ?_
        rw [nI_s]
        exact ih hs hfr2
      · have h4 : ¬ awV (wtF f N q) ≤ b.2 := h4
        rw [if_neg h4] at ih
        refine cl_lv hG [(4, vI (nI q + nI 1)), (3, vI (awV (wtF f N q))), (2, vI (nI q)), (1, vI x), (0, vR 0 0)] ⟨rfl, rfl, rfl, rfl, rfl, trivial⟩ ?_
        rw [nI_s]
        exact ih hs hfr2) 0 (by omega)
    exact cl_use hG (key hp (frm_r 13 hp)) ⟨rfl, rfl, rfl, rfl, rfl, trivial⟩
  · have h2 : ltB (rw_ hp 1) x = true := bB_1.mp h2
    refine at_no hQ 4 (by omega) (by decide) (qc_r hp) (fun mp h => ⟨mp, qm_r mp, ?_⟩)
    unfold F_watch
    rw [if_pos h1, if_pos (by rw [← ltB_ag h.ag, h2])]
theorem sc_X4_watch {own : String} {F L idx : Nat} (h1 : Cond.methodLink own idx yX4_watch ∈ Gw) (hF : 6 ≤ F) (hL : 144 ≤ L) : SC own F L (idx, false, 2, sp_X4_watch) := SC_V spF_mono c_X4_watch okd_0 (fun as hp K h => by obtain ⟨x, hx, -⟩ := spF_e h; exact ⟨_, _, d_C_I_e hx⟩) h1 gw_562 gw_563 gw_69 gw_564 (by decide +kernel) hF hL
theorem ag_lpT {f g : Nat → Int32} (h : ag f g) {p : Nat × Nat} (hp : p.1 < 25) : lpT g p = lpT f p := by
  have e : lpW g p = lpW f p := by
    unfold lpW
    rw [h.lo (by omega), h.tur hp]
  unfold lpT
  rw [e]
theorem ag_lpI {f g : Nat → Int32} (h : ag f g) {p : Nat × Nat} (hp : p.1 < 25 ∧ p.2 < 4) : ∀ n, lpI g p n = lpI f p n
  | 0 => rfl
  | n + 1 => by
    show lpT g (lpI g p n) = lpT f (lpI f p n)
    rw [ag_lpI h hp n, ag_lpT h (lpI_ok hp n).1]
theorem lp_stay {f : Nat → Int32} {p : Nat × Nat} {k : Nat} (h : f (69 + (lpI f p k).1) = nI 1) : ∀ d, lpI f p (k + d) = lpI f p k
  | 0 => rfl
  | d + 1 => by
    show lpT f (lpI f p (k + d)) = _
    rw [lp_stay h d]
    unfold lpT lpW
    rw [if_pos h, if_neg not_nn]
