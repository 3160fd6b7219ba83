/-! watch and loop -/
def wtF (f : Nat → Int32) (n q : Nat) : Nat → Int32 := goF (upd (upd f 3 (nI q)) 5 (nI 0)) n
def wtX (f : Nat → Int32) (n : Nat) : Nat → Option Int32 := fun q => some (awV (wtF f n q))
def F_watch (n : Int32) (hp : HP) : Int32 × HP := if nI 1 ≤ n ∧ n ≤ nI 120 then (if ltB (hp.1 53) n = true then noP hp 4 else ((bst (wtX (hp.1 53) n.toNatClampNeg) (nI 0) (-1) 25).1, rI hp 56 (hp.1 53))) else noP hp 0
theorem WF.wt {f : Nat → Int32} (h : WF f) (v : Int32) : WF (upd (upd f 3 v) 5 (nI 0)) ∧ mN (upd (upd f 3 v) 5 (nI 0)) = mN f := by
  obtain ⟨⟨n, hn, e6, hws⟩, hfl, r, hr, e5, hrs, h4⟩ := h
  have ne : ∀ k, k ≠ 3 → k ≠ 5 → upd (upd f 3 v) 5 (nI 0) k = f k := fun k a b => by rw [pk_un b, pk_un a]
  refine ⟨⟨⟨n, hn, by rw [ne _ (by omega) (by omega)]; exact e6, fun w hw => ?_⟩, fun k a b => by rw [ne _ (by omega) (by omega)]; exact hfl k a b, 0, by omega, by rw [upd_at, if_pos rfl], fun k hk => absurd hk (by omega), Or.inl rfl⟩, ?_⟩
  · have := hws w hw
    unfold wkOK at this ⊢
    rw [ne _ (by omega) (by omega), ne _ (by omega) (by omega), ne _ (by omega) (by omega), ne _ (by omega) (by omega), ne _ (by omega) (by omega)]
    exact this
  · unfold mN
    rw [ne _ (by omega) (by omega)]
def sp_X5_watch : SP := spH d_M_I (fun _ hp => WF (hp.1 53)) (fun x hp => some (vI (F_watch x hp).1)) (fun x hp => (F_watch x hp).2)
def E_X5_watch : EN := [(55, true, 3, sp_X5_in), (79, false, 2, sp_X5_no), (148, false, 2, sp_X5_isLate), (164, true, 2, sp_X5_lay), (154, false, 2, sp_X5_go), (161, false, 1, sp_X5_awake)]
set_option maxRecDepth 100000 in
set_option maxHeartbeats 4000000 in
theorem c_X5_watch : Ctr M_X5_watch sp_X5_watch := by
  refine ctr_of (own := RX5) M_X5_watch sp_X5_watch (P := P_X5_watch) (K := K_X5) (E := E_X5_watch) (by decide) rfl pk_X5_watch K_X5_ok (List.forall_mem_cons.mpr ⟨sc_X5_in gw_883 (by decide) (by decide), List.forall_mem_cons.mpr ⟨sc_X5_no gw_895 (by decide) (by decide), List.forall_mem_cons.mpr ⟨sc_X5_isLate gw_1029 (by decide) (by decide), List.forall_mem_cons.mpr ⟨sc_X5_lay gw_1077 (by decide) (by decide), List.forall_mem_cons.mpr ⟨sc_X5_go gw_1041 (by decide) (by decide), List.forall_mem_cons.mpr ⟨sc_X5_awake gw_1069 (by decide) (by decide), fun _ h => absurd h List.not_mem_nil⟩⟩⟩⟩⟩⟩) (fun as hp Q h => by obtain ⟨x, hx, -⟩ := spH_e h; rw [d_M_I_e hx]; exact Nat.le_of_ble_eq_true rfl) ?_
  intro Q G hQi hG as hp h
  obtain ⟨x, hx, hpre, hQ⟩ := spH_e h
  rw [d_M_I_e hx]
  clear h hx
  refine run hG [48] 60 ?_
  refine And.intro trivial ?_
  refine And.intro (fun h1 => ?_) (fun h1 => ?_)
  case refine_2 => exact And.intro (vp_in_nI (by omega) (by omega)) (q_F hQ (if_neg (and_f (bB_0.mp h1))))
  have h1 := and_t.mp (bB_1.mp h1)
  have hF : F_watch x hp = _ := if_pos h1
  refine And.intro trivial ?_
  refine And.intro (fun h3 => ?_) (fun h3 => ?_)
  case refine_2 =>
    have h3 : ltB (hp.1 53) x = true := bB_1.mp h3
    rw [if_pos h3] at hF
    exact And.intro (vp_in_nI (by omega) (by omega)) (q_F hQ hF)
  have h3 : ltB (hp.1 53) x = false := bB_0.mp h3
  rw [if_neg (by rw [h3]; decide)] at hF
  have hn1 : vp_in x 1000 := in_k h1 (by omega) (by omega) (by omega)
  refine And.intro ⟨rfl, rfl, by decide⟩ ?_
  generalize hf : hp.1 53 = f at hpre hF h3
  generalize hnn : x.toNatClampNeg = n at hF
  generalize hH : rI hp 56 f = H at hF
  have eH53 : H.1 53 = f := by rw [← hH, rI_ne _ _ (by omega)]; exact hf
  have eH56 : H.1 56 = f := by rw [← hH, rI_eq]
  have eback : ∀ y, rI (rI H 53 y) 53 ((rI H 53 y).1 56) = H := fun y => by
    rw [rI_rI, rI_ne _ _ (by omega), eH56]
    exact rI_id eH53
  have key := for_up (P := fun q => ∀ y, G 48 [(4, vI (nI q)), (3, vI (bst (wtX f n) (nI 0) (-1) q).2), (2, vI (bst (wtX f n) (nI 0) (-1) q).1), (0, vR 5 52), (1, vI x)] [] (rI H 53 y)) 25 (by
    intro y
    refine run hG [48] 60 ?_
    refine And.intro (fun h4 => ?_) (fun h4 => absurd (nI_le (Nat.le_refl _) (by omega)) h4)
    refine And.intro ⟨rfl, rfl, by decide⟩ ?_
    show Q (some (vI (bst (wtX f n) (nI 0) (-1) 25).1)) (rI (rI H 53 y) 53 ((rI H 53 y).1 56))
    rw [eback]
    exact q_F hQ hF) (by
    intro q hq ih y
    have ebs : bst (wtX f n) (nI 0) (-1) (q + 1) = if awV (wtF f n q) ≤ (bst (wtX f n) (nI 0) (-1) q).2 then bst (wtX f n) (nI 0) (-1) q else (nI q, awV (wtF f n q)) := rfl
    rw [ebs] at ih
    generalize bst (wtX f n) (nI 0) (-1) q = p at ih
    have hw := hpre.wt (nI q)
    have hgo := hw.1.go n
    have eh : rI (uI (uI (rI (rI H 53 y) 53 ((rI H 53 y).1 56)) 53 (nI 3).toNatClampNeg (nI q)) 53 (nI 5).toNatClampNeg (nI 0)) 53 (goF ((uI (uI (rI (rI H 53 y) 53 ((rI H 53 y).1 56)) 53 (nI 3).toNatClampNeg (nI q)) 53 (nI 5).toNatClampNeg (nI 0)).1 53) x.toNatClampNeg) = rI H 53 (wtF f n q) := by
      rw [eback, uI_r H, uI_rI, rI_eq, eH53, rI_rI, hnn]
      rfl
    have eU : (uI (uI (rI (rI H 53 y) 53 ((rI H 53 y).1 56)) 53 (nI 3).toNatClampNeg (nI q)) 53 (nI 5).toNatClampNeg (nI 0)).1 53 = upd (upd f 3 (nI q)) 5 (nI 0) := by
      rw [eback, uI_r H, uI_rI, rI_eq, eH53]
      rfl
    generalize hU : uI (uI (rI (rI H 53 y) 53 ((rI H 53 y).1 56)) 53 (nI 3).toNatClampNeg (nI q)) 53 (nI 5).toNatClampNeg (nI 0) = U at eh eU
    refine run hG [48] 60 ?_
    refine And.intro (fun h4 => absurd h4 (nI_ge hq (by omega))) (fun h4 => ?_)
    refine And.intro ⟨rfl, rfl, by decide⟩ ?_
    refine And.intro (vp_in_nI (by omega) (by omega)) ?_
    refine And.intro (vp_in_nI (by omega) (by omega)) ?_
    refine And.intro ⟨show WF ((uI (uI (rI (rI H 53 y) 53 ((rI H 53 y).1 56)) 53 (nI 3).toNatClampNeg (nI q)) 53 (nI 5).toNatClampNeg (nI 0)).1 53) by rw [hU, eU]; exact hw.1, hn1⟩ ?_
    have mny : many ((rI U 53 (goF (U.1 53) x.toNatClampNeg)).1 53) := by rw [eh, rI_eq]; exact hgo.1.many
    have eaw : awV ((rI U 53 (goF (U.1 53) x.toNatClampNeg)).1 53) = awV (wtF f n q) := by rw [eh, rI_eq]
    rw [← hU] at mny eaw eh
    refine And.intro mny ?_
    refine And.intro (fun h5 => ?_) (fun h5 => ?_)
    · have h5 : awV _ ≤ p.2 := h5
      rw [eaw] at h5
      rw [if_pos h5] at ih
      refine And.intro mny ?_
      refine And.intro (fun h6 => ?_) (fun h6 => absurd h5 (by have h6 : ¬ awV _ ≤ p.2 := h6; rw [eaw] at h6; exact h6))
      refine cl_lv hG [(4, vI (nI q + nI 1)), (3, vI p.2), (2, vI p.1), (0, vR 5 52), (1, vI x)] ⟨rfl, rfl, rfl, rfl, rfl, trivial⟩ ?_
      rw [nI_s]
      have i9 := ih (wtF f n q)
      rw [← eh] at i9
      exact i9
    · have h5 : ¬ awV _ ≤ p.2 := h5
      rw [eaw] at h5
      rw [if_neg h5] at ih
      refine And.intro mny ?_
      refine And.intro (fun h6 => absurd (by have h6 : awV _ ≤ p.2 := h6; rw [eaw] at h6; exact h6) h5) (fun h6 => ?_)
      refine And.intro mny ?_
      have i9 := ih (wtF f n q)
      rw [← eaw, ← eh] at i9
      refine cl_lv hG [(4, vI (nI q + nI 1)), (3, _), (2, vI (nI q)), (0, vR 5 52), (1, vI x)] ⟨rfl, rfl, rfl, rfl, rfl, trivial⟩ ?_
      rw [nI_s]
      exact i9) 0 (by omega)
  have k9 := key f
  rw [rI_id eH53, ← hH, ← hf] at k9
  exact cl_use hG k9 ⟨rfl, rfl, rfl, rfl, rfl, trivial⟩
theorem sc_X5_watch {own : String} {F L idx : Nat} (h1 : Cond.methodLink own idx yX5_watch ∈ Gw) (hF : 8 ≤ F) (hL : 184 ≤ L) : SC own F L (idx, false, 2, sp_X5_watch) := SC_V spH_mono c_X5_watch okd_5 (fun as hp K h => by obtain ⟨x, hx, -⟩ := spH_e h; exact ⟨_, _, d_M_I_e hx⟩) h1 gw_1125 gw_1126 gw_75 gw_1127 (by decide +kernel) hF hL
def lpW (f : Nat → Int32) (p : Nat × Nat) : Int32 := if f (69 + p.1) = nI 1 then -1 else trnV (turB f p.1 false) p.2
def lpT (f : Nat → Int32) (p : Nat × Nat) : Nat × Nat := if 0 ≤ lpW f p then (bsd p.1 (lpW f p).toNatClampNeg, (lpW f p).toNatClampNeg) else p
def lpI (f : Nat → Int32) (p : Nat × Nat) : Nat → Nat × Nat
  | 0 => p
  | n + 1 => lpT f (lpI f p n)
theorem lpW_ok (f : Nat → Int32) (p : Nat × Nat) : wayOK (mayB f p.1) (lpW f p) := by
  unfold lpW
  split
  · exact Or.inl rfl
  · exact (trn_ok _ _).mono (fun j h => tur_may h)
theorem nI_nn {j : Nat} (h : j < 2 ^ 31) : (0 : Int32) ≤ nI j := by
  rw [Int32.le_iff_toInt_le, nI_toInt h]
  have : (0 : Int32).toInt = 0 := rfl
  omega
theorem not_nn : ¬ (0 : Int32) ≤ -1 := by decide
theorem lpT_ok {f : Nat → Int32} {p : Nat × Nat} (h : p.1 < 25 ∧ p.2 < 4) : (lpT f p).1 < 25 ∧ (lpT f p).2 < 4 := by
  unfold lpT
  rcases lpW_ok f p with e | ⟨j, hj, e, hm⟩
  · rw [e, if_neg not_nn]
    exact h
  · rw [e, if_pos (nI_nn (by omega)), nI_clamp (by omega)]
    have hb := may_bsd hm
    refine ⟨?_, hj⟩
    rcases bsd_lt p.1 h.1 j hj with h2 | h2
    · exact absurd h2 hb
    · exact h2
theorem lpI_ok {f : Nat → Int32} {p : Nat × Nat} (h : p.1 < 25 ∧ p.2 < 4) : ∀ n, (lpI f p n).1 < 25 ∧ (lpI f p n).2 < 4
  | 0 => h
  | n + 1 => lpT_ok (lpI_ok h n)
def lpP (f : Nat → Int32) (w : Nat) : Nat → Bool := fun n => decide (lpI f (plc f w, wyO f w) n = (plc f w, wyO f w))
def lpN (f : Nat → Int32) (w : Nat) : Nat := fst_ (lpP f w) 500 1
def lpR (hp : HP) (n : Nat) : Int32 × HP := if n ≤ 500 then (nI n, hp) else noP hp 3
def F_loop (w : Int32) (hp : HP) : Int32 × HP := if inB w (mN (hp.1 53)) = true then (if hp.1 53 (144 + 5 * w.toNatClampNeg) = 0 ∧ goB (hp.1 53) w.toNatClampNeg = true then lpR hp (lpN (hp.1 53) w.toNatClampNeg) else noP hp 4) else noP hp 0
def sp_X5_loop : SP := spH d_M_I (fun _ hp => WF (hp.1 53)) (fun x hp => some (vI (F_loop x hp).1)) (fun x hp => (F_loop x hp).2)
def E_X5_loop : EN := [(107, false, 2, sp_X5_isWalker), (79, false, 2, sp_X5_no), (59, false, 3, sp_X5_has), (142, false, 2, sp_X5_goes), (116, false, 4, sp_X5_turned), (63, true, 2, sp_X5_beside)]
set_option maxRecDepth 100000 in
set_option maxHeartbeats 4000000 in
theorem c_X5_loop : Ctr M_X5_loop sp_X5_loop := by
  refine ctr_of (own := RX5) M_X5_loop sp_X5_loop (P := P_X5_loop) (K := K_X5) (E := E_X5_loop) (by decide) rfl pk_X5_loop K_X5_ok (List.forall_mem_cons.mpr ⟨sc_X5_isWalker gw_962 (by decide) (by decide), List.forall_mem_cons.mpr ⟨sc_X5_no gw_895 (by decide) (by decide), List.forall_mem_cons.mpr ⟨sc_X5_has gw_924 (by decide) (by decide), List.forall_mem_cons.mpr ⟨sc_X5_goes gw_1049 (by decide) (by decide), List.forall_mem_cons.mpr ⟨sc_X5_turned gw_1001 (by decide) (by decide), List.forall_mem_cons.mpr ⟨sc_X5_beside gw_889 (by decide) (by decide), fun _ h => absurd h List.not_mem_nil⟩⟩⟩⟩⟩⟩) (fun as hp Q h => by obtain ⟨x, hx, -⟩ := spH_e h; rw [d_M_I_e hx]; exact Nat.le_of_ble_eq_true rfl) ?_
  intro Q G hQi hG as hp h
  obtain ⟨x, hx, hpre, hQ⟩ := spH_e h
  rw [d_M_I_e hx]
  clear h hx
  refine run hG [54] 60 ?_
  refine And.intro hpre.many ?_
  refine And.intro (fun h1 => ?_) (fun h1 => ?_)
  case refine_2 =>
    have h1 : inB x (mN (hp.1 53)) = false := bB_0.mp h1
    exact And.intro (vp_in_nI (by omega) (by omega)) (q_F hQ (if_neg (by rw [h1]; decide)))
  have h1 : inB x (mN (hp.1 53)) = true := bB_1.mp h1
  have hF : F_loop x hp = _ := if_pos h1
  have hx8 := in8 hpre.many h1
  have hw := hpre.wk (ix_lt (inB_t.mp h1))
  have c1 : ∀ j, j < 5 → vp_in (nI j) 5 := fun j hj => vp_in_nI hj (by omega)
  refine And.intro ⟨hx8, c1 0 (by omega)⟩ ?_
  refine And.intro (fun h2 => ?_) (fun h2 => ?_)
  case refine_1 =>
    have h2 : ¬ hp.1 53 (144 + 5 * x.toNatClampNeg) = 0 := h2
    rw [if_neg (fun h => h2 h.1)] at hF
    exact And.intro (vp_in_nI (by omega) (by omega)) (q_F hQ hF)
  have h2 : hp.1 53 (144 + 5 * x.toNatClampNeg) = 0 := h2
  refine And.intro ⟨hx8, hw.2.2.1⟩ ?_
  refine And.intro (fun h3 => ?_) (fun h3 => ?_)
  case refine_2 =>
    have h3 : goB (hp.1 53) x.toNatClampNeg = false := bB_0.mp h3
    rw [if_neg (fun h => by rw [h3] at h; exact absurd h.2 (by decide))] at hF
    exact And.intro (vp_in_nI (by omega) (by omega)) (q_F hQ hF)
  have h3 : goB (hp.1 53) x.toNatClampNeg = true := bB_1.mp h3
  rw [if_pos ⟨h2, h3⟩] at hF
  rw [hF] at hQ
  refine And.intro ⟨hx8, c1 2 (by omega)⟩ ?_
  refine And.intro ⟨hx8, c1 3 (by omega)⟩ ?_
  generalize hf : hp.1 53 = f at hQ hw
  generalize hwn : x.toNatClampNeg = w at hQ hw
  have e2 : hp.1 53 (144 + 5 * x.toNatClampNeg + (nI 2).toNatClampNeg) = nI (plc f w) := by
    rw [hf, hwn]
    exact ix_nI hw.2.2.1 (by omega)
  have e3 : hp.1 53 (144 + 5 * x.toNatClampNeg + (nI 3).toNatClampNeg) = nI (wyO f w) := by
    rw [hf, hwn]
    exact ix_nI hw.2.2.2.1 (by omega)
  have hp0 : plc f w < 25 ∧ wyO f w < 4 := ⟨ix_lt hw.2.2.1, ix_lt hw.2.2.2.1⟩
  unfold lpN at hQ
  have eP : ∀ n, lpP f w n = decide (lpI f (plc f w, wyO f w) n = (plc f w, wyO f w)) := fun _ => rfl
  generalize plc f w = q0 at e2 hp0 eP
  generalize wyO f w = y0 at e3 hp0 eP
  have key := for_up (P := fun m => Q (some (vI (lpR hp (fst_ (lpP f w) (500 - m) (m + 1))).1)) (lpR hp (fst_ (lpP f w) (500 - m) (m + 1))).2 → G 54 [(4, vI (nI (m + 1))), (3, vI (nI (lpI f (q0, y0) m).2)), (2, vI (nI (lpI f (q0, y0) m).1)), (0, vR 5 52), (1, vI x)] [] hp) 500 (by
    intro hQ
    have hQ : Q (some (vI (lpR hp 501).1)) (lpR hp 501).2 := hQ
    refine run hG [54] 60 ?_
    refine And.intro (fun h4 => ?_) (fun h4 => absurd (by decide) h4)
    exact And.intro (vp_in_nI (by omega) (by omega)) hQ) (by
    intro m hm ih hQ
    have e4 : 500 - m = (500 - (m + 1)) + 1 := by omega
    rw [e4] at hQ
    have hok := lpI_ok (f := f) (p := (q0, y0)) hp0 m
    have hok1 := lpI_ok (f := f) (p := (q0, y0)) hp0 (m + 1)
    have eI : lpI f (q0, y0) (m + 1) = lpT f (lpI f (q0, y0) m) := rfl
    have eP := eP (m + 1)
    generalize lpI f (q0, y0) (m + 1) = p1 at eI ih hok1 eP
    generalize lpI f (q0, y0) m = p at eI hok
    obtain ⟨q, y⟩ := p
    have hok : q < 25 ∧ y < 4 := hok
    have e69 : nI 69 + nI q = nI (69 + q) := nI_add _ _
    -- back at the start, or on
    have done : ∀ v5, (p1 = (q0, y0) → Q (some (vI (nI (m + 1)))) hp) ∧ (¬ p1 = (q0, y0) → G 54 [(4, vI (nI (m + 1) + nI 1)), (3, vI (nI p1.2)), (2, vI (nI p1.1)), (5, v5), (0, vR 5 52), (1, vI x)] [] hp) := by
      intro v5
      refine ⟨fun h => ?_, fun h => ?_⟩
      · have e9 : fst_ (lpP f w) (500 - (m + 1) + 1) (m + 1) = m + 1 := by
          show (if lpP f w (m + 1) = true then m + 1 else _) = _
          rw [eP, if_pos (decide_eq_true h)]
        rw [e9] at hQ
        refine q_F hQ ?_
        unfold lpR
        rw [if_pos (by omega)]
      · have e9 : fst_ (lpP f w) (500 - (m + 1) + 1) (m + 1) = fst_ (lpP f w) (500 - (m + 1)) (m + 1 + 1) := by
          show (if lpP f w (m + 1) = true then m + 1 else _) = _
          rw [eP, if_neg (by rw [decide_eq_false h]; decide)]
        rw [e9] at hQ
        rw [nI_s]
        exact cl_use hG (ih hQ) ⟨rfl, rfl, rfl, rfl, rfl, trivial⟩
    have tail : ∀ v5, vp_in x 8 ∧ vp_in (nI 2) 5 := fun _ => ⟨hx8, c1 2 (by omega)⟩
    have stay : lpW f (q, y) = -1 → p1 = (q, y) := fun h => by rw [eI]; unfold lpT; rw [h, if_neg not_nn]
    have ne1 : ∀ {a b c d : Nat}, a < 2 ^ 31 → c < 2 ^ 31 → ¬ nI a = nI c → ¬ (a, b) = (c, d) := fun ha hc h e => h (by cases e; rfl)
    have ne2 : ∀ {a b c d : Nat}, ¬ nI b = nI d → ¬ (a, b) = (c, d) := fun h e => h (by cases e; rfl)
    have ey : ∀ {a b c d : Nat}, a < 100 → b < 100 → c < 100 → d < 100 → nI a = nI c → nI b = nI d → (a, b) = (c, d) := fun ha hb hc hd h1 h2 => by
      rw [(nI_eq (by omega) (by omega)).mp h1, (nI_eq (by omega) (by omega)).mp h2]
    refine run hG [54] 60 ?_
    refine And.intro (fun h4 => absurd h4 (Int32.not_lt.mpr (nI_le (by omega) (by omega)))) (fun h4 => ?_)
    refine And.intro (show vp_in (nI 69 + nI q) 184 by rw [e69]; exact vp_in_nI (by omega) (by omega)) ?_
    refine And.intro (fun h5 => ?_) (fun h5 => ?_)
    · have h5 : ¬ hp.1 53 (nI 69 + nI q).toNatClampNeg = nI 1 := h5
      rw [e69, nI_clamp (by omega), hf] at h5
      refine And.intro ⟨vp_in_nI (by omega) (by omega), vp_in_nI (by omega) (by omega)⟩ ?_
      have eW : trnV (turB (hp.1 53) (nI q).toNatClampNeg (decide (¬ nI 0 = 0))) (nI y).toNatClampNeg = lpW f (q, y) := by
        rw [nI_clamp (by omega), nI_clamp (by omega), hf]
        unfold lpW
        rw [if_neg h5]
        rfl
      rcases lpW_ok f (q, y) with h6 | ⟨j, hj, h6, hmj⟩
      · have hs := stay h6
        subst hs
        have eW1 : trnV (turB (hp.1 53) (nI q).toNatClampNeg (decide (¬ nI 0 = 0))) (nI y).toNatClampNeg = -1 := eW.trans h6
        have nn : ¬ 0 ≤ trnV (turB (hp.1 53) (nI q).toNatClampNeg (decide (¬ nI 0 = 0))) (nI y).toNatClampNeg := by rw [eW1]; exact not_nn
        refine And.intro (fun h7 => absurd h7 nn) (fun h7 => ?_)
        refine And.intro (fun h8 => absurd h8 nn) (fun h8 => ?_)
        refine And.intro ⟨hx8, c1 2 (by omega)⟩ ?_
        refine And.intro (fun h9 => ?_) (fun h9 => ?_)
        · have h9 : ¬ nI q = hp.1 53 (144 + 5 * x.toNatClampNeg + (nI 2).toNatClampNeg) := h9
          rw [e2] at h9
          exact cl_use hG ((done _).2 (ne1 (by omega) (by omega) h9)) ⟨rfl, rfl, rfl, rfl, rfl, rfl, trivial⟩
        · have h9 : nI q = hp.1 53 (144 + 5 * x.toNatClampNeg + (nI 2).toNatClampNeg) := h9
          rw [e2] at h9
          refine And.intro ⟨hx8, c1 3 (by omega)⟩ ?_
          refine And.intro (fun h10 => ?_) (fun h10 => ?_)
          · have h10 : ¬ nI y = hp.1 53 (144 + 5 * x.toNatClampNeg + (nI 3).toNatClampNeg) := h10
            rw [e3] at h10
            exact cl_use hG ((done _).2 (ne2 h10)) ⟨rfl, rfl, rfl, rfl, rfl, rfl, trivial⟩
          · have h10 : nI y = hp.1 53 (144 + 5 * x.toNatClampNeg + (nI 3).toNatClampNeg) := h10
            rw [e3] at h10
            exact (done (vI 0)).1 (ey (by omega) (by omega) (by omega) (by omega) h9 h10)
      · have hb := may_bsd hmj
        have hp1 : p1 = (bsd q j, j) := by
          rw [eI]
          unfold lpT
          rw [h6, if_pos (nI_nn (by omega)), nI_clamp (by omega)]
        subst hp1
        have eW1 : trnV (turB (hp.1 53) (nI q).toNatClampNeg (decide (¬ nI 0 = 0))) (nI y).toNatClampNeg = nI j := eW.trans h6
        have nn : 0 ≤ trnV (turB (hp.1 53) (nI q).toNatClampNeg (decide (¬ nI 0 = 0))) (nI y).toNatClampNeg := by rw [eW1]; exact nI_nn (by omega)
        have eB : bsV (nI q).toNatClampNeg (trnV (turB (hp.1 53) (nI q).toNatClampNeg (decide (¬ nI 0 = 0))) (nI y).toNatClampNeg).toNatClampNeg = nI (bsd q j) := by
          rw [eW1, nI_clamp (by omega), nI_clamp (by omega), bsV_may hb]
        have hok1 : bsd q j < 25 ∧ j < 4 := hok1
        refine And.intro (fun h7 => ?_) (fun h7 => absurd nn h7)
        refine And.intro ⟨vp_in_nI (by omega) (by omega), show vp_in (trnV (turB (hp.1 53) (nI q).toNatClampNeg (decide (¬ nI 0 = 0))) (nI y).toNatClampNeg) 4 by rw [eW1]; exact vp_in_nI hj (by omega)⟩ ?_
        refine And.intro (fun h8 => ?_) (fun h8 => absurd nn h8)
        refine And.intro ⟨hx8, c1 2 (by omega)⟩ ?_
        have go : ∀ v, v = nI (bsd q j) → ∀ u, u = nI j → ¬ (bsd q j, j) = (q0, y0) → G 54 [(4, vI (nI (m + 1) + nI 1)), (3, vI u), (2, vI v), (5, vI u), (0, vR 5 52), (1, vI x)] [] hp := by
          intro v hv u hu hne
          subst hv hu
          exact (done _).2 hne
        refine And.intro (fun h9 => ?_) (fun h9 => ?_)
        · have h9 : ¬ bsV (nI q).toNatClampNeg (trnV (turB (hp.1 53) (nI q).toNatClampNeg (decide (¬ nI 0 = 0))) (nI y).toNatClampNeg).toNatClampNeg = hp.1 53 (144 + 5 * x.toNatClampNeg + (nI 2).toNatClampNeg) := h9
          rw [e2, eB] at h9
          exact cl_use hG (go _ eB _ eW1 (ne1 (by omega) (by omega) h9)) ⟨rfl, rfl, rfl, rfl, rfl, rfl, trivial⟩
        · have h9 : bsV (nI q).toNatClampNeg (trnV (turB (hp.1 53) (nI q).toNatClampNeg (decide (¬ nI 0 = 0))) (nI y).toNatClampNeg).toNatClampNeg = hp.1 53 (144 + 5 * x.toNatClampNeg + (nI 2).toNatClampNeg) := h9
          rw [e2, eB] at h9
          refine And.intro ⟨hx8, c1 3 (by omega)⟩ ?_
          refine And.intro (fun h10 => ?_) (fun h10 => ?_)
          · have h10 : ¬ trnV (turB (hp.1 53) (nI q).toNatClampNeg (decide (¬ nI 0 = 0))) (nI y).toNatClampNeg = hp.1 53 (144 + 5 * x.toNatClampNeg + (nI 3).toNatClampNeg) := h10
            rw [e3, eW1] at h10
            exact cl_use hG (go _ eB _ eW1 (ne2 h10)) ⟨rfl, rfl, rfl, rfl, rfl, rfl, trivial⟩
          · have h10 : trnV (turB (hp.1 53) (nI q).toNatClampNeg (decide (¬ nI 0 = 0))) (nI y).toNatClampNeg = hp.1 53 (144 + 5 * x.toNatClampNeg + (nI 3).toNatClampNeg) := h10
            rw [e3, eW1] at h10
            exact (done (vI 0)).1 (ey (by omega) (by omega) (by omega) (by omega) h9 h10)
    · have h5 : hp.1 53 (nI 69 + nI q).toNatClampNeg = nI 1 := h5
      rw [e69, nI_clamp (by omega), hf] at h5
      have hs := stay (by unfold lpW; exact if_pos h5)
      subst hs
      refine And.intro (fun h7 => absurd h7 not_nn) (fun h7 => ?_)
      refine And.intro (fun h8 => absurd h8 not_nn) (fun h8 => ?_)
      refine And.intro ⟨hx8, c1 2 (by omega)⟩ ?_
      refine And.intro (fun h9 => ?_) (fun h9 => ?_)
      · have h9 : ¬ nI q = hp.1 53 (144 + 5 * x.toNatClampNeg + (nI 2).toNatClampNeg) := h9
        rw [e2] at h9
        exact cl_use hG ((done _).2 (ne1 (by omega) (by omega) h9)) ⟨rfl, rfl, rfl, rfl, rfl, rfl, trivial⟩
      · have h9 : nI q = hp.1 53 (144 + 5 * x.toNatClampNeg + (nI 2).toNatClampNeg) := h9
        rw [e2] at h9
        refine And.intro ⟨hx8, c1 3 (by omega)⟩ ?_
        refine And.intro (fun h10 => ?_) (fun h10 => ?_)
        · have h10 : ¬ nI y = hp.1 53 (144 + 5 * x.toNatClampNeg + (nI 3).toNatClampNeg) := h10
          rw [e3] at h10
          exact cl_use hG ((done _).2 (ne2 h10)) ⟨rfl, rfl, rfl, rfl, rfl, rfl, trivial⟩
        · have h10 : nI y = hp.1 53 (144 + 5 * x.toNatClampNeg + (nI 3).toNatClampNeg) := h10
          rw [e3] at h10
          exact (done (vI 0)).1 (ey (by omega) (by omega) (by omega) (by omega) h9 h10)) 0 (by omega) hQ
  have k7 : G 54 [(4, vI (nI 1)), (3, vI (nI y0)), (2, vI (nI q0)), (0, vR 5 52), (1, vI x)] [] hp := key
  rw [← e2, ← e3] at k7
  subst hf hwn
  exact cl_use hG k7 ⟨rfl, rfl, rfl, rfl, rfl, trivial⟩
theorem sc_X5_loop {own : String} {F L idx : Nat} (h1 : Cond.methodLink own idx yX5_loop ∈ Gw) (hF : 4 ≤ F) (hL : 93 ≤ L) : SC own F L (idx, false, 2, sp_X5_loop) := SC_V spH_mono c_X5_loop okd_5 (fun as hp K h => by obtain ⟨x, hx, -⟩ := spH_e h; exact ⟨_, _, d_M_I_e hx⟩) h1 gw_1129 gw_1130 gw_75 gw_1131 (by decide +kernel) hF hL
