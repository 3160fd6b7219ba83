def trR (f : Nat → Int32) (c : Nat → Int64) (b : Int32) (s w : Nat) : Nat → (Nat → Int64)
  | 0 => c
  | k + 1 => vp_updL (trR f c b s w k) (40 * s + k) (ctV b (goF f k (144 + 5 * w + 2)).toInt64)
def F_track (s w : Int32) (hp : HP) : Int32 × HP := if inB s 4 = true then (if hp.1 63 s.toNatClampNeg = 0 then noP hp 5 else (if inB w (mN (hp.1 53)) = true then (if ltB (hp.1 53) (nI 500) = true then noP hp 4 else (hp.1 64 s.toNatClampNeg, rL (rI hp 55 (hp.1 53)) 65 (trR (hp.1 53) (hp.2 65) (hp.1 63 s.toNatClampNeg) s.toNatClampNeg w.toNatClampNeg (lnN hp s.toNatClampNeg)))) else noP hp 0)) else noP hp 0
def sp_X5_track : SP := spH d_M_II (fun _ hp => WF (hp.1 53) ∧ lnOK hp) (fun x hp => some (vI (F_track x.1 x.2 hp).1)) (fun x hp => (F_track x.1 x.2 hp).2)
def E_X5_track : EN := [(314, true, 1, sp_X5_isSheet), (79, false, 2, sp_X5_no), (107, false, 2, sp_X5_isWalker), (148, false, 2, sp_X5_isLate), (164, true, 2, sp_X5_lay), (59, false, 3, sp_X5_has), (317, false, 4, sp_X5_writes), (145, false, 1, sp_X5_minute)]
set_option maxRecDepth 100000 in
set_option maxHeartbeats 4000000 in
theorem c_X5_track : Ctr M_X5_track sp_X5_track := by
  refine ctr_of (own := RX5) M_X5_track sp_X5_track (P := P_X5_track) (K := K_X5) (E := E_X5_track) (by decide) rfl pk_X5_track K_X5_ok (List.forall_mem_cons.mpr ⟨sc_X5_isSheet gw_1255 (by decide) (by decide), List.forall_mem_cons.mpr ⟨sc_X5_no gw_895 (by decide) (by decide), List.forall_mem_cons.mpr ⟨sc_X5_isWalker gw_962 (by decide) (by decide), List.forall_mem_cons.mpr ⟨sc_X5_isLate gw_1029 (by decide) (by decide), List.forall_mem_cons.mpr ⟨sc_X5_lay gw_1077 (by decide) (by decide), List.forall_mem_cons.mpr ⟨sc_X5_has gw_924 (by decide) (by decide), List.forall_mem_cons.mpr ⟨sc_X5_writes gw_1262 (by decide) (by decide), List.forall_mem_cons.mpr ⟨sc_X5_minute gw_1045 (by decide) (by decide), fun _ h => absurd h List.not_mem_nil⟩⟩⟩⟩⟩⟩⟩⟩) (fun as hp Q h => by obtain ⟨x, hx, -⟩ := spH_e h; rw [d_M_II_e hx]; exact Nat.le_of_ble_eq_true rfl) ?_
  intro Q G hQi hG as hp h
  obtain ⟨x, hx, hpre, hQ⟩ := spH_e h
  rw [d_M_II_e hx]
  clear h hx
  obtain ⟨s, w⟩ := x
  try dsimp only at hpre hQ ⊢
  obtain ⟨hwf, hln⟩ := hpre
  refine run hG [71] 60 ?_
  refine And.intro trivial ?_
  refine And.intro (fun h1 => ?_) (fun h1 => ?_)
  case refine_2 =>
    have h1 : inB s 4 = false := bB_0.mp h1
    exact And.intro (vp_in_nI (by omega) (by omega)) (q_F hQ (if_neg (by rw [h1]; decide)))
  have h1 : inB s 4 = true := bB_1.mp h1
  have hF : F_track s w hp = _ := if_pos h1
  have hs := inB_t.mp h1
  have hl := hln.at (ix_lt hs)
  refine And.intro hs ?_
  refine And.intro (fun h2 => ?_) (fun h2 => ?_)
  case refine_2 =>
    have h2 : hp.1 63 s.toNatClampNeg = 0 := h2
    rw [if_pos h2] at hF
    exact And.intro (vp_in_nI (by omega) (by omega)) (q_F hQ hF)
  have h2 : ¬ hp.1 63 s.toNatClampNeg = 0 := h2
  rw [if_neg h2] at hF
  refine And.intro hwf.many ?_
  refine And.intro (fun h3 => ?_) (fun h3 => ?_)
  case refine_2 =>
    have h3 : inB w (mN (hp.1 53)) = false := bB_0.mp h3
    rw [if_neg (by rw [h3]; decide)] at hF
    exact And.intro (vp_in_nI (by omega) (by omega)) (q_F hQ hF)
  have h3 : inB w (mN (hp.1 53)) = true := bB_1.mp h3
  rw [if_pos h3] at hF
  have hw8 := in8 hwf.many h3
  refine And.intro trivial ?_
  refine And.intro (fun h4 => ?_) (fun h4 => ?_)
  case refine_2 =>
    have h4 : ltB (hp.1 53) (nI 500) = true := bB_1.mp h4
    rw [if_pos h4] at hF
    exact And.intro (vp_in_nI (by omega) (by omega)) (q_F hQ hF)
  have h4 : ltB (hp.1 53) (nI 500) = false := bB_0.mp h4
  rw [if_neg (by rw [h4]; decide)] at hF
  refine And.intro ⟨rfl, rfl, by decide⟩ ?_
  obtain ⟨S, hS, rfl⟩ := vp_in_of hs (by omega)
  have eS : (nI S).toNatClampNeg = S := nI_clamp (by omega)
  rw [eS] at hF hl
  generalize hf : hp.1 53 = f at hF hwf
  generalize hC : hp.2 65 = C at hF
  generalize hb : hp.1 63 S = b at hF
  generalize hlS : lnN hp S = l at hF hl
  have hl1 := hl.1
  generalize hwn : w.toNatClampNeg = W at hF
  have key := for_up (P := fun k => G 71 [(3, vI (nI k)), (0, vR 5 52), (1, vI (nI S)), (2, vI w)] [] (rL (rI (rI hp 55 f) 53 (goF f k)) 65 (trR f C b S W k))) l (by
    refine run hG [71] 60 ?_
    refine And.intro hs ?_
    have e64 : ∀ g a r, (rL (rI (rI hp 55 f) 53 g) 65 r).1 64 a = hp.1 64 a := fun g a r => by show (rI (rI hp 55 f) 53 g).1 64 a = _; rw [rI_ne _ _ (by omega), rI_ne _ _ (by omega)]
    refine And.intro (fun h5 => ?_) (fun h5 => absurd (show (rL (rI (rI hp 55 f) 53 (goF f l)) 65 (trR f C b S W l)).1 64 (nI S).toNatClampNeg ≤ nI l by rw [e64, eS, hl.2]; exact nI_le (Nat.le_refl _) (by omega)) h5)
    refine And.intro ⟨rfl, rfl, by decide⟩ ?_
    refine And.intro hs ?_
    refine q_F hQ ?_
    rw [hF]
    have eH : rI (rL (rI (rI hp 55 f) 53 (goF f l)) 65 (trR f C b S W l)) 53 ((rL (rI (rI hp 55 f) 53 (goF f l)) 65 (trR f C b S W l)).1 55) = rL (rI hp 55 f) 65 (trR f C b S W l) := by
      refine Prod.ext ?_ rfl
      show (rI (rI (rI hp 55 f) 53 (goF f l)) 53 ((rI (rI hp 55 f) 53 (goF f l)).1 55)).1 = (rI hp 55 f).1
      rw [rI_ne _ _ (by omega), rI_eq, rI_rI, ← hf, rI_comm hp _ _ (by omega), rI_self]
    refine Prod.ext ?_ eH.symm
    show hp.1 64 S = (rI (rL (rI (rI hp 55 f) 53 (goF f l)) 65 (trR f C b S W l)) 53 ((rL (rI (rI hp 55 f) 53 (goF f l)) 65 (trR f C b S W l)).1 55)).1 64 (nI S).toNatClampNeg
    rw [eH, eS]
    show hp.1 64 S = (rI hp 55 f).1 64 S
    rw [rI_ne _ _ (by omega)]) (by
    intro k hk ih
    have ek : (nI k).toNatClampNeg = k := nI_clamp (by omega)
    have ih : G 71 [(3, vI (nI (k + 1))), (0, vR 5 52), (1, vI (nI S)), (2, vI w)] [] (rL (rI (rI hp 55 f) 53 (minF (goF f k))) 65 (vp_updL (trR f C b S W k) (40 * S + k) (ctV b (goF f k (144 + 5 * W + 2)).toInt64))) := ih
    generalize trR f C b S W k = r at ih
    have hg := (hwf.go k).1
    generalize goF f k = g at ih hg
    have e64 : (rL (rI (rI hp 55 f) 53 g) 65 r).1 64 (nI S).toNatClampNeg = nI l := by
      show (rI (rI hp 55 f) 53 g).1 64 _ = _
      rw [rI_ne _ _ (by omega), rI_ne _ _ (by omega), eS, hl.2]
    have e63 : (rL (rI (rI hp 55 f) 53 g) 65 r).1 63 (nI S).toNatClampNeg = b := by
      show (rI (rI hp 55 f) 53 g).1 63 _ = _
      rw [rI_ne _ _ (by omega), rI_ne _ _ (by omega), eS, hb]
    have e53 : (rL (rI (rI hp 55 f) 53 g) 65 r).1 53 (144 + 5 * w.toNatClampNeg + (nI 2).toNatClampNeg) = g (144 + 5 * W + 2) := by
      show (rI (rI hp 55 f) 53 g).1 53 _ = _
      rw [rI_eq, hwn]
      rfl
    refine run hG [71] 60 ?_
    refine And.intro hs ?_
    refine And.intro (fun h5 => ?_) (fun h5 => ?_)
    · have h5 : (rL (rI (rI hp 55 f) 53 g) 65 r).1 64 (nI S).toNatClampNeg ≤ nI k := h5
      rw [e64] at h5
      exact absurd h5 (nI_ge hk (by omega))
    refine And.intro ⟨hw8, vp_in_nI (by omega) (by omega)⟩ ?_
    refine And.intro ⟨hs, vp_in_nI (by omega) (by omega)⟩ ?_
    have eU : uL (rL (rI (rI hp 55 f) 53 g) 65 r) 65 (40 * (nI S).toNatClampNeg + (nI k).toNatClampNeg) (ctV ((rL (rI (rI hp 55 f) 53 g) 65 r).1 63 (nI S).toNatClampNeg) ((rL (rI (rI hp 55 f) 53 g) 65 r).1 53 (144 + 5 * w.toNatClampNeg + (nI 2).toNatClampNeg)).toInt64) = rL (rI (rI hp 55 f) 53 g) 65 (vp_updL r (40 * S + k) (ctV b (g (144 + 5 * W + 2)).toInt64)) := by
      rw [uL_rL, e63, e53, eS, ek]
    have wf9 : WF ((uL (rL (rI (rI hp 55 f) 53 g) 65 r) 65 (40 * (nI S).toNatClampNeg + (nI k).toNatClampNeg) (ctV ((rL (rI (rI hp 55 f) 53 g) 65 r).1 63 (nI S).toNatClampNeg) ((rL (rI (rI hp 55 f) 53 g) 65 r).1 53 (144 + 5 * w.toNatClampNeg + (nI 2).toNatClampNeg)).toInt64)).1 53) := by
      show WF ((rI (rI hp 55 f) 53 g).1 53)
      rw [rI_eq]
      exact hg
    refine And.intro wf9 ?_
    refine cl_lv hG [(3, vI (nI k + nI 1)), (0, vR 5 52), (1, vI (nI S)), (2, vI w)] ⟨rfl, rfl, rfl, rfl, trivial⟩ ?_
    rw [nI_s]
    show G 71 _ [] (rI (uL (rL (rI (rI hp 55 f) 53 g) 65 r) 65 (40 * (nI S).toNatClampNeg + (nI k).toNatClampNeg) (ctV ((rL (rI (rI hp 55 f) 53 g) 65 r).1 63 (nI S).toNatClampNeg) ((rL (rI (rI hp 55 f) 53 g) 65 r).1 53 (144 + 5 * w.toNatClampNeg + (nI 2).toNatClampNeg)).toInt64)) 53 (minF ((uL (rL (rI (rI hp 55 f) 53 g) 65 r) 65 (40 * (nI S).toNatClampNeg + (nI k).toNatClampNeg) (ctV ((rL (rI (rI hp 55 f) 53 g) 65 r).1 63 (nI S).toNatClampNeg) ((rL (rI (rI hp 55 f) 53 g) 65 r).1 53 (144 + 5 * w.toNatClampNeg + (nI 2).toNatClampNeg)).toInt64)).1 53)))
    rw [eU]
    have e9 : rI (rL (rI (rI hp 55 f) 53 g) 65 (vp_updL r (40 * S + k) (ctV b (g (144 + 5 * W + 2)).toInt64))) 53 (minF ((rL (rI (rI hp 55 f) 53 g) 65 (vp_updL r (40 * S + k) (ctV b (g (144 + 5 * W + 2)).toInt64))).1 53)) = rL (rI (rI hp 55 f) 53 (minF g)) 65 (vp_updL r (40 * S + k) (ctV b (g (144 + 5 * W + 2)).toInt64)) := by
      refine Prod.ext ?_ rfl
      show (rI (rI (rI hp 55 f) 53 g) 53 (minF ((rI (rI hp 55 f) 53 g).1 53))).1 = _
      rw [rI_eq, rI_rI]
      rfl
    rw [e9]
    exact ih) 0 (by omega)
  have k7 : G 71 [(3, vI (nI 0)), (0, vR 5 52), (1, vI (nI S)), (2, vI w)] [] (rL (rI (rI hp 55 f) 53 f) 65 C) := key
  rw [rI_id (show (rI hp 55 f).1 53 = f by rw [rI_ne _ _ (by omega)]; exact hf), rL_id (show (rI hp 55 f).2 65 = C from hC)] at k7
  subst hf
  exact cl_use hG k7 ⟨rfl, rfl, rfl, rfl, trivial⟩
theorem sc_X5_track {own : String} {F L idx : Nat} (h1 : Cond.methodLink own idx yX5_track ∈ Gw) (hF : 7 ≤ F) (hL : 161 ≤ L) : SC own F L (idx, false, 3, sp_X5_track) := SC_V spH_mono c_X5_track okd_5 (fun as hp K h => by obtain ⟨x, hx, -⟩ := spH_e h; exact ⟨_, _, d_M_II_e hx⟩) h1 gw_1276 gw_1277 gw_75 gw_1278 (by decide +kernel) hF hL
