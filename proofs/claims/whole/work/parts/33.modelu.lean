def whG (f : Nat → Int32) (c : Nat → Int64) (s i w : Nat) (m : Int32) : Int32 := m &&& (if c (40 * s + i) = (goF f i (144 + 5 * w + 2)).toInt64 then -1 else nI 1 <<< (nI w &&& 31) ^^^ -1)
def whM (f : Nat → Int32) (c : Nat → Int64) (s : Nat) : Nat → Int32
  | 0 => nI 1 <<< (f 6 &&& 31) - nI 1
  | i + 1 => fold (whG f c s i) (whM f c s i) (mN f)
def whP (m : Int32) : Nat → Bool := fun w => decide (¬ (m >>> (nI w &&& 31) &&& nI 1) = 0)
def whR (f : Nat → Int32) (m : Int32) (hp : HP) (w : Nat) : Int32 × HP := if w < mN f then (nI w, hp) else noP hp 3
def F_whose (s : Int32) (hp : HP) : Int32 × HP := if inB s 4 = true then (if hp.1 63 s.toNatClampNeg = 0 then noP hp 5 else (if ltB (hp.1 53) (nI 500) = true then noP hp 4 else whR (hp.1 53) (nI 0) (rI hp 55 (hp.1 53)) (fst_ (whP (whM (hp.1 53) (hp.2 65) s.toNatClampNeg (lnN hp s.toNatClampNeg))) (mN (hp.1 53)) 0))) else noP hp 0
def sp_X5_whose : SP := spH d_M_I (fun _ hp => WF (hp.1 53) ∧ lnOK hp) (fun x hp => some (vI (F_whose x hp).1)) (fun x hp => (F_whose x hp).2)
def E_X5_whose : EN := [(314, true, 1, sp_X5_isSheet), (79, false, 2, sp_X5_no), (148, false, 2, sp_X5_isLate), (164, true, 2, sp_X5_lay), (59, false, 3, sp_X5_has), (145, false, 1, sp_X5_minute)]
set_option maxRecDepth 100000 in
set_option maxHeartbeats 4000000 in
theorem c_X5_whose : Ctr M_X5_whose sp_X5_whose := by
  refine ctr_of (own := RX5) M_X5_whose sp_X5_whose (P := P_X5_whose) (K := K_X5) (E := E_X5_whose) (by decide) rfl pk_X5_whose K_X5_ok (List.forall_mem_cons.mpr ⟨sc_X5_isSheet gw_1255 (by decide) (by decide), List.forall_mem_cons.mpr ⟨sc_X5_no gw_895 (by decide) (by decide), List.forall_mem_cons.mpr ⟨sc_X5_isLate gw_1029 (by decide) (by decide), List.forall_mem_cons.mpr ⟨sc_X5_lay gw_1077 (by decide) (by decide), List.forall_mem_cons.mpr ⟨sc_X5_has gw_924 (by decide) (by decide), List.forall_mem_cons.mpr ⟨sc_X5_minute gw_1045 (by decide) (by decide), fun _ h => absurd h List.not_mem_nil⟩⟩⟩⟩⟩⟩) (fun as hp Q h => by obtain ⟨x, hx, -⟩ := spH_e h; rw [d_M_I_e hx]; exact Nat.le_of_ble_eq_true rfl) ?_
  intro Q G hQi hG as hp h
  obtain ⟨x, hx, hpre, hQ⟩ := spH_e h
  rw [d_M_I_e hx]
  clear h hx
  obtain ⟨hwf, hln⟩ := hpre
  refine run hG [69] 60 ?_
  refine And.intro trivial ?_
  refine And.intro (fun h1 => ?_) (fun h1 => ?_)
  case refine_2 =>
    have h1 : inB x 4 = false := bB_0.mp h1
    exact And.intro (vp_in_nI (by omega) (by omega)) (q_F hQ (if_neg (by rw [h1]; decide)))
  have h1 : inB x 4 = true := bB_1.mp h1
  have hF : F_whose x hp = _ := if_pos h1
  have hs := inB_t.mp h1
  have hl := hln.at (ix_lt hs)
  refine And.intro hs ?_
  refine And.intro (fun h2 => ?_) (fun h2 => ?_)
  case refine_2 =>
    have h2 : hp.1 63 x.toNatClampNeg = 0 := h2
    rw [if_pos h2] at hF
    exact And.intro (vp_in_nI (by omega) (by omega)) (q_F hQ hF)
  have h2 : ¬ hp.1 63 x.toNatClampNeg = 0 := h2
  rw [if_neg h2] at hF
  refine And.intro trivial ?_
  refine And.intro (fun h4 => ?_) (fun h4 => ?_)
  case refine_2 =>
    have h4 : ltB (hp.1 53) (nI 500) = true := bB_1.mp h4
    rw [if_pos h4] at hF
    exact And.intro (vp_in_nI (by omega) (by omega)) (q_F hQ hF)
  have h4 : ltB (hp.1 53) (nI 500) = false := bB_0.mp h4
  rw [if_neg (by rw [h4]; decide)] at hF
  refine And.intro ⟨rfl, rfl, by decide⟩ ?_
  refine And.intro (vp_in_nI (by omega) (by omega)) ?_
  obtain ⟨S, hS, rfl⟩ := vp_in_of hs (by omega)
  have eS : (nI S).toNatClampNeg = S := nI_clamp (by omega)
  rw [eS] at hF hl
  generalize hf : hp.1 53 = f at hF hwf
  generalize hC : hp.2 65 = C at hF
  generalize hlS : lnN hp S = l at hF hl
  have hl1 := hl.1
  have h8 := mN_lt hwf
  have e6f : f 6 = nI (mN f) := mN_eq hwf
  have e6g : ∀ k, goF f k 6 = nI (mN f) := fun k => by
    have := mN_eq (hwf.go k).1
    rw [(hwf.go k).2] at this
    exact this
  -- the search at the end
  have srch := for_up (P := fun w => Q (some (vI (whR f (nI 0) (rI hp 55 f) (fst_ (whP (whM f C S l)) (mN f - w) w)).1)) (whR f (nI 0) (rI hp 55 f) (fst_ (whP (whM f C S l)) (mN f - w) w)).2 → G 159 [(3, vI (nI w)), (2, vI (whM f C S l)), (0, vR 5 52), (1, vI (nI S))] [] (rI hp 55 f)) (mN f) (by
    intro hQ
    have e6 : (rI hp 55 f).1 53 (nI 6).toNatClampNeg = nI (mN f) := by rw [rI_ne _ _ (by omega), hf]; exact e6f
    rw [Nat.sub_self] at hQ
    have hQ : Q (some (vI (whR f (nI 0) (rI hp 55 f) (mN f)).1)) (whR f (nI 0) (rI hp 55 f) (mN f)).2 := hQ
    have nle : ¬ ¬ (rI hp 55 f).1 53 (nI 6).toNatClampNeg ≤ nI (mN f) := fun h => h (by rw [e6]; exact nI_le (Nat.le_refl _) (by omega))
    have fin := q_F hQ (if_neg (by omega))
    refine run hG [159] 60 ?_
    refine And.intro (vp_in_nI (by omega) (by omega)) ?_
    refine And.intro (fun h5 => ?_) (fun h5 => absurd h5 nle)
    refine And.intro (vp_in_nI (by omega) (by omega)) ?_
    refine And.intro (fun h6 => ?_) (fun h6 => absurd h6 nle)
    exact And.intro (vp_in_nI (by omega) (by omega)) fin) (by
    intro w hw ih hQ
    have e6 : (rI hp 55 f).1 53 (nI 6).toNatClampNeg = nI (mN f) := by rw [rI_ne _ _ (by omega), hf]; exact e6f
    have nlt : ¬ (rI hp 55 f).1 53 (nI 6).toNatClampNeg ≤ nI w := by rw [e6]; exact nI_ge hw (by omega)
    have em : mN f - w = (mN f - (w + 1)) + 1 := by omega
    rw [em] at hQ
    refine run hG [159] 60 ?_
    refine And.intro (vp_in_nI (by omega) (by omega)) ?_
    refine And.intro (fun h5 => absurd h5 nlt) (fun h5 => ?_)
    refine And.intro (fun h6 => ?_) (fun h6 => ?_)
    · have h6 : ¬ (whM f C S l >>> (nI w &&& 31) &&& nI 1) = 0 := h6
      refine And.intro (vp_in_nI (by omega) (by omega)) ?_
      refine And.intro (fun h7 => absurd h7 nlt) (fun h7 => ?_)
      have e9 : fst_ (whP (whM f C S l)) (mN f - (w + 1) + 1) w = w := by
        show (if whP (whM f C S l) w = true then w else _) = _
        exact if_pos (decide_eq_true h6)
      rw [e9] at hQ
      exact q_F hQ (if_pos hw)
    · have h6 : (whM f C S l >>> (nI w &&& 31) &&& nI 1) = 0 := h6
      have e9 : fst_ (whP (whM f C S l)) (mN f - (w + 1) + 1) w = fst_ (whP (whM f C S l)) (mN f - (w + 1)) (w + 1) := by
        show (if whP (whM f C S l) w = true then w else _) = _
        rw [if_neg (by unfold whP; rw [decide_eq_false (fun h => h h6)]; decide)]
      rw [e9] at hQ
      refine cl_lv hG [(3, vI (nI w + nI 1)), (2, vI (whM f C S l)), (0, vR 5 52), (1, vI (nI S))] ⟨rfl, rfl, rfl, rfl, trivial⟩ ?_
      rw [nI_s]
      exact ih hQ) 0 (by omega) (by rw [hF] at hQ; exact hQ)
  have outer := for_up (P := fun i => G 69 [(3, vI (nI i)), (2, vI (whM f C S i)), (0, vR 5 52), (1, vI (nI S))] [] (rI (rI hp 55 f) 53 (goF f i))) l (by
    have e64 : (rI (rI hp 55 f) 53 (goF f l)).1 64 (nI S).toNatClampNeg = nI l := by rw [rI_ne _ _ (by omega), rI_ne _ _ (by omega), eS, hl.2]
    refine run hG [69, 159] 60 ?_
    refine And.intro hs ?_
    refine And.intro (fun h5 => ?_) (fun h5 => absurd (show (rI (rI hp 55 f) 53 (goF f l)).1 64 (nI S).toNatClampNeg ≤ nI l by rw [e64]; exact nI_le (Nat.le_refl _) (by omega)) h5)
    refine And.intro ⟨rfl, rfl, by decide⟩ ?_
    refine cl_lv hG [(3, vI (nI 0)), (2, vI (whM f C S l)), (0, vR 5 52), (1, vI (nI S))] ⟨rfl, rfl, rfl, rfl, trivial⟩ ?_
    show G 159 _ [] (rI (rI (rI hp 55 f) 53 (goF f l)) 53 ((rI (rI hp 55 f) 53 (goF f l)).1 55))
    rw [rI_ne _ _ (by omega), rI_eq, rI_rI, rI_id (show (rI hp 55 f).1 53 = f by rw [rI_ne _ _ (by omega)]; exact hf)]
    exact srch) (by
    intro i hi ih
    have ih : G 69 [(3, vI (nI (i + 1))), (2, vI (fold (whG f C S i) (whM f C S i) (mN f))), (0, vR 5 52), (1, vI (nI S))] [] (rI (rI hp 55 f) 53 (minF (goF f i))) := ih
    generalize whM f C S i = M at ih
    have e40 : nI 40 * nI S + nI i = nI (40 * S + i) := sh_ix
    have hg := hwf.go i
    have e6 : (rI (rI hp 55 f) 53 (goF f i)).1 53 (nI 6).toNatClampNeg = nI (mN f) := by rw [rI_eq]; exact e6g i
    have inner := for_up (P := fun w => G 82 [(4, vI (nI w)), (3, vI (nI i)), (2, vI (fold (whG f C S i) M w)), (0, vR 5 52), (1, vI (nI S))] [] (rI (rI hp 55 f) 53 (goF f i))) (mN f) (by
      refine run hG [69, 82] 60 ?_
      refine And.intro (vp_in_nI (by omega) (by omega)) ?_
      refine And.intro (fun h5 => ?_) (fun h5 => absurd (show (rI (rI hp 55 f) 53 (goF f i)).1 53 (nI 6).toNatClampNeg ≤ nI (mN f) by rw [e6]; exact nI_le (Nat.le_refl _) (by omega)) h5)
      refine And.intro (show WF ((rI (rI hp 55 f) 53 (goF f i)).1 53) by rw [rI_eq]; exact hg.1) ?_
      refine cl_lv hG [(3, vI (nI i + nI 1)), (2, vI (fold (whG f C S i) M (mN f))), (0, vR 5 52), (1, vI (nI S))] ⟨rfl, rfl, rfl, rfl, trivial⟩ ?_
      rw [nI_s]
      show G 69 _ [] (rI (rI (rI hp 55 f) 53 (goF f i)) 53 (minF ((rI (rI hp 55 f) 53 (goF f i)).1 53)))
      rw [rI_eq, rI_rI]
      exact ih) (by
      intro w hw ih
      have ih : G 82 [(4, vI (nI (w + 1))), (3, vI (nI i)), (2, vI (fold (whG f C S i) M w &&& (if C (40 * S + i) = (goF f i (144 + 5 * w + 2)).toInt64 then -1 else nI 1 <<< (nI w &&& 31) ^^^ -1))), (0, vR 5 52), (1, vI (nI S))] [] (rI (rI hp 55 f) 53 (goF f i)) := ih
      generalize fold (whG f C S i) M w = m at ih
      have eC : (rI (rI hp 55 f) 53 (goF f i)).2 65 (nI 40 * nI S + nI i).toNatClampNeg = C (40 * S + i) := by rw [e40, nI_clamp (by omega), ← hC]; rfl
      have eP : (rI (rI hp 55 f) 53 (goF f i)).1 53 (144 + 5 * (nI w).toNatClampNeg + (nI 2).toNatClampNeg) = goF f i (144 + 5 * w + 2) := by rw [rI_eq, nI_clamp (by omega)]; rfl
      refine run hG [69, 82] 60 ?_
      refine And.intro (vp_in_nI (by omega) (by omega)) ?_
      refine And.intro (fun h5 => ?_) (fun h5 => ?_)
      · have h5 : (rI (rI hp 55 f) 53 (goF f i)).1 53 (nI 6).toNatClampNeg ≤ nI w := h5
        rw [e6] at h5
        exact absurd h5 (nI_ge hw (by omega))
      refine And.intro (show vp_in (nI 40 * nI S + nI i) 160 by rw [e40]; exact vp_in_nI (by omega) (by omega)) ?_
      refine And.intro ⟨vp_in_nI (by omega) (by omega), vp_in_nI (by omega) (by omega)⟩ ?_
      refine And.intro (fun h6 => ?_) (fun h6 => ?_)
      · have h6 : ¬ lg_cmp ((rI (rI hp 55 f) 53 (goF f i)).2 65 (nI 40 * nI S + nI i).toNatClampNeg) ((rI (rI hp 55 f) 53 (goF f i)).1 53 (144 + 5 * (nI w).toNatClampNeg + (nI 2).toNatClampNeg)).toInt64 = 0 := h6
        rw [lg_cmp_eq, eC, eP] at h6
        rw [if_neg h6] at ih
        refine cl_lv hG [(4, vI (nI w + nI 1)), (3, vI (nI i)), (2, vI (m &&& (nI 1 <<< (nI w &&& 31) ^^^ -1))), (0, vR 5 52), (1, vI (nI S))] ⟨rfl, rfl, rfl, rfl, rfl, trivial⟩ ?_
        rw [nI_s]
        exact ih
      · have h6 : lg_cmp ((rI (rI hp 55 f) 53 (goF f i)).2 65 (nI 40 * nI S + nI i).toNatClampNeg) ((rI (rI hp 55 f) 53 (goF f i)).1 53 (144 + 5 * (nI w).toNatClampNeg + (nI 2).toNatClampNeg)).toInt64 = 0 := h6
        rw [lg_cmp_eq, eC, eP] at h6
        rw [if_pos h6] at ih
        refine cl_lv hG [(4, vI (nI w + nI 1)), (3, vI (nI i)), (2, vI (m &&& -1)), (0, vR 5 52), (1, vI (nI S))] ⟨rfl, rfl, rfl, rfl, rfl, trivial⟩ ?_
        rw [nI_s]
        exact ih) 0 (by omega)
    refine run hG [69, 82] 60 ?_
    refine And.intro hs ?_
    refine And.intro (fun h5 => ?_) (fun h5 => ?_)
    · have h5 : (rI (rI hp 55 f) 53 (goF f i)).1 64 (nI S).toNatClampNeg ≤ nI i := h5
      rw [rI_ne _ _ (by omega), rI_ne _ _ (by omega), eS, hl.2] at h5
      exact absurd h5 (nI_ge hi (by omega))
    exact cl_use hG inner ⟨rfl, rfl, rfl, rfl, rfl, trivial⟩) 0 (by omega)
  have k7 : G 69 [(3, vI (nI 0)), (2, vI (nI 1 <<< (f 6 &&& 31) - nI 1)), (0, vR 5 52), (1, vI (nI S))] [] (rI (rI hp 55 f) 53 f) := outer
  rw [rI_id (show (rI hp 55 f).1 53 = f by rw [rI_ne _ _ (by omega)]; exact hf)] at k7
  subst hf
  exact cl_use hG k7 ⟨rfl, rfl, rfl, rfl, trivial⟩
theorem sc_X5_whose {own : String} {F L idx : Nat} (h1 : Cond.methodLink own idx yX5_whose ∈ Gw) (hF : 7 ≤ F) (hL : 162 ≤ L) : SC own F L (idx, false, 2, sp_X5_whose) := SC_V spH_mono c_X5_whose okd_5 (fun as hp K h => by obtain ⟨x, hx, -⟩ := spH_e h; exact ⟨_, _, d_M_I_e hx⟩) h1 gw_1280 gw_1281 gw_75 gw_1282 (by decide +kernel) hF hL
