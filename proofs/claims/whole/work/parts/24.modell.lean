theorem noP_r (hp : HP) (k : Nat) {c : Nat} (g : Nat → Int32) (hc : c ≠ 57) : noP (rI hp c g) k = ((noP hp k).1, rI (noP hp k).2 c g) := by
  unfold noP
  refine Prod.ext rfl ?_
  show uI (rI hp c g) 57 _ ((rI hp c g).1 57 _ + nI 1) = rI (uI hp 57 _ _) c g
  rw [rI_ne _ _ (Ne.symm hc), uI_r, uI_r, rI_ne _ _ (Ne.symm hc), rI_comm hp _ _ hc]
theorem rI_id {hp : HP} {c : Nat} {f : Nat → Int32} (h : hp.1 c = f) : rI hp c f = hp := by rw [← h, rI_self]
/-- a pair of the best and how much, over 25 squares -/
def bst (v : Nat → Option Int32) (b m : Int32) : Nat → Int32 × Int32
  | 0 => (b, m)
  | q + 1 => match v q with
    | some x => if x ≤ (bst v b m q).2 then bst v b m q else (nI q, x)
    | none => bst v b m q
def lmC (f : Nat → Int32) (n q : Nat) : Int32 := fold (fun w s => s + (if goF (upd f (44 + q) (nI 1)) n (144 + 5 * w + 2) = goF f n (144 + 5 * w + 2) then nI 0 else nI 1)) (nI 0) (mN f)
def lmX (f : Nat → Int32) (n q : Nat) : Option Int32 := if f (44 + q) = 0 then some (lmC f n q) else none
def F_lamp (n : Int32) (hp : HP) : Int32 × HP := if nI 1 ≤ n ∧ n ≤ nI 120 then (if ltB (hp.1 53) n = true then noP hp 4 else (if 0 ≤ (bst (lmX (hp.1 53) n.toNatClampNeg) (-1) (nI 0) 25).1 then ((bst (lmX (hp.1 53) n.toNatClampNeg) (-1) (nI 0) 25).1, rI hp 56 (hp.1 53)) else noP (rI hp 56 (hp.1 53)) 3)) else noP hp 0
def sp_X5_lamp : SP := spF d_M_I (fun _ hp => WF (hp.1 53)) (fun x hp v hq => v = some (vI (F_lamp x hp).1) ∧ ∃ g, hq = rI (F_lamp x hp).2 59 g)
def E_X5_lamp : EN := [(55, true, 3, sp_X5_in), (79, false, 2, sp_X5_no), (148, false, 2, sp_X5_isLate), (164, true, 2, sp_X5_lay), (154, false, 2, sp_X5_go), (59, false, 3, sp_X5_has)]
set_option maxRecDepth 100000 in
set_option maxHeartbeats 4000000 in
theorem c_X5_lamp : Ctr M_X5_lamp sp_X5_lamp := by
  refine ctr_of (own := RX5) M_X5_lamp sp_X5_lamp (P := P_X5_lamp) (K := K_X5) (E := E_X5_lamp) (by decide) rfl pk_X5_lamp K_X5_ok (List.forall_mem_cons.mpr ⟨sc_X5_in gw_883 (by decide) (by decide), List.forall_mem_cons.mpr ⟨sc_X5_no gw_895 (by decide) (by decide), List.forall_mem_cons.mpr ⟨sc_X5_isLate gw_1029 (by decide) (by decide), List.forall_mem_cons.mpr ⟨sc_X5_lay gw_1077 (by decide) (by decide), List.forall_mem_cons.mpr ⟨sc_X5_go gw_1041 (by decide) (by decide), List.forall_mem_cons.mpr ⟨sc_X5_has gw_924 (by decide) (by decide), fun _ h => absurd h List.not_mem_nil⟩⟩⟩⟩⟩⟩) (fun as hp Q h => by obtain ⟨x, hx, -⟩ := spF_e h; rw [d_M_I_e hx]; exact Nat.le_of_ble_eq_true rfl) ?_
  intro Q G hQi hG as hp h
  obtain ⟨x, hx, hpre, hQ⟩ := spF_e h
  rw [d_M_I_e hx]
  clear h hx
  have fin : ∀ p, F_lamp x hp = p → Q (some (vI p.1)) p.2 := fun p e => hQ _ _ ⟨by rw [e], p.2 |>.1 59, by rw [e, rI_self]⟩
  have fin2 : ∀ p g, F_lamp x hp = p → Q (some (vI p.1)) (rI p.2 59 g) := fun p g e => hQ _ _ ⟨by rw [e], g, by rw [e]⟩
  refine run hG [48] 60 ?_
  refine And.intro trivial ?_
  refine And.intro (fun h1 => ?_) (fun h1 => ?_)
  case refine_2 => exact And.intro (vp_in_nI (by omega) (by omega)) (fin _ (if_neg (and_f (bB_0.mp h1))))
  have h1 := and_t.mp (bB_1.mp h1)
  have hF : F_lamp x hp = _ := if_pos h1
  refine And.intro trivial ?_
  refine And.intro (fun h3 => ?_) (fun h3 => ?_)
  case refine_2 =>
    have h3 : ltB (hp.1 53) x = true := bB_1.mp h3
    rw [if_pos h3] at hF
    exact And.intro (vp_in_nI (by omega) (by omega)) (fin _ hF)
  have h3 : ltB (hp.1 53) x = false := bB_0.mp h3
  rw [if_neg (by rw [h3]; decide)] at hF
  have hn1 : vp_in x 1000 := in_k h1 (by omega) (by omega) (by omega)
  refine And.intro ⟨rfl, rfl, by decide⟩ ?_
  have e1 : (rI hp 56 (hp.1 53)).1 53 = hp.1 53 := rI_ne _ _ (by omega)
  refine And.intro ⟨show WF ((rI hp 56 (hp.1 53)).1 53) by rw [e1]; exact hpre, hn1⟩ ?_
  generalize hf : hp.1 53 = f at hpre hF e1 h3
  generalize hnn : x.toNatClampNeg = n at hF
  have h8 := mN_lt hpre
  have hgo := hpre.go n
  generalize hH : rI hp 56 f = H at hF
  have eH53 : H.1 53 = f := by rw [← hH, rI_ne _ _ (by omega)]; exact hf
  have eH56 : H.1 56 = f := by rw [← hH, rI_eq]
  -- the last part
  have fin84 : ∀ P y, G 84 [(4, vI (nI 25)), (3, vI (bst (lmX f n) (-1) (nI 0) 25).2), (2, vI (bst (lmX f n) (-1) (nI 0) 25).1), (0, vR 5 52), (1, vI x)] [] (rI (rI H 59 P) 53 y) := by
    intro P y
    have eback : rI (rI (rI H 59 P) 53 y) 53 ((rI (rI H 59 P) 53 y).1 56) = rI H 59 P := by
      rw [rI_rI, rI_ne _ _ (by omega), rI_ne _ _ (by omega), eH56]
      exact rI_id (by rw [rI_ne _ _ (by omega)]; exact eH53)
    refine run hG [84] 60 ?_
    refine And.intro (fun h4 => ?_) (fun h4 => absurd (nI_le (Nat.le_refl _) (by omega)) h4)
    refine And.intro ⟨rfl, rfl, by decide⟩ ?_
    refine And.intro (fun h5 => ?_) (fun h5 => ?_)
    · rw [if_pos h5] at hF
      have f9 := fin2 _ P hF
      rw [← eback] at f9
      exact f9
    · rw [if_neg h5] at hF
      refine And.intro (vp_in_nI (by omega) (by omega)) ?_
      have f9 := fin2 _ P hF
      rw [show rI (noP H 3).2 59 P = (noP (rI H 59 P) 3).2 by rw [noP_r _ _ _ (by omega)], ← eback] at f9
      exact f9
  have main : ∀ P, (∀ w, w < mN f → P w = goF f n (144 + 5 * w + 2)) → ∀ y, G 84 [(4, vI (nI 0)), (3, vI (nI 0)), (2, vI (-1)), (0, vR 5 52), (1, vI x)] [] (rI (rI H 59 P) 53 y) := by
    intro P hPw
    have k9 := for_up (P := fun q => ∀ y, G 84 [(4, vI (nI q)), (3, vI (bst (lmX f n) (-1) (nI 0) q).2), (2, vI (bst (lmX f n) (-1) (nI 0) q).1), (0, vR 5 52), (1, vI x)] [] (rI (rI H 59 P) 53 y)) 25 (fun y => fin84 P y) (by
      intro q hq ih y
      have ebs : bst (lmX f n) (-1) (nI 0) (q + 1) = (match lmX f n q with | some x => if x ≤ (bst (lmX f n) (-1) (nI 0) q).2 then bst (lmX f n) (-1) (nI 0) q else (nI q, x) | none => bst (lmX f n) (-1) (nI 0) q) := rfl
      rw [ebs] at ih
      generalize bst (lmX f n) (-1) (nI 0) q = p at ih
      have eq : (nI q).toNatClampNeg = q := nI_clamp (by omega)
      have eback : rI (rI (rI H 59 P) 53 y) 53 ((rI (rI H 59 P) 53 y).1 56) = rI (rI H 59 P) 53 f := by
        rw [rI_rI, rI_ne _ _ (by omega), rI_ne _ _ (by omega), eH56]
      generalize hB : rI (rI (rI H 59 P) 53 y) 53 ((rI (rI H 59 P) 53 y).1 56) = B at eback
      have eB53 : B.1 53 = f := by rw [eback, rI_eq]
      have e44 : (nI 44 + nI q) = nI (44 + q) := nI_add _ _
      have i44 : vp_in (nI 44 + nI q) 184 := by rw [e44]; exact vp_in_nI (by omega) (by omega)
      refine run hG [84, 137] 60 ?_
      refine And.intro (fun h4 => absurd h4 (nI_ge hq (by omega))) (fun h4 => ?_)
      refine And.intro ⟨rfl, rfl, by decide⟩ ?_
      refine And.intro i44 ?_
      refine And.intro (fun h5 => ?_) (fun h5 => ?_)
      · have h5 : ¬ (rI (rI (rI H 59 P) 53 y) 53 ((rI (rI H 59 P) 53 y).1 56)).1 53 (nI 44 + nI q).toNatClampNeg = 0 := h5
        rw [hB, eB53, e44, nI_clamp (by omega)] at h5
        have ex : lmX f n q = none := by unfold lmX; rw [if_neg h5]
        rw [ex] at ih
        have k8 := ih f
        refine cl_lv hG [(4, vI (nI q + nI 1)), (3, vI p.2), (2, vI p.1), (0, vR 5 52), (1, vI x)] ⟨rfl, rfl, rfl, rfl, rfl, trivial⟩ ?_
        rw [nI_s]
        show G 84 _ [] (rI (rI (rI H 59 P) 53 y) 53 ((rI (rI H 59 P) 53 y).1 56))
        rw [hB, eback]
        exact k8
      · have h5 : (rI (rI (rI H 59 P) 53 y) 53 ((rI (rI H 59 P) 53 y).1 56)).1 53 (nI 44 + nI q).toNatClampNeg = 0 := h5
        rw [hB, eB53, e44, nI_clamp (by omega)] at h5
        have ex : lmX f n q = some (lmC f n q) := by unfold lmX; rw [if_pos h5]
        rw [ex] at ih
        have ih : ∀ y, G 84 [(4, vI (nI (q + 1))), (3, vI (if lmC f n q ≤ p.2 then p else (nI q, lmC f n q)).2), (2, vI (if lmC f n q ≤ p.2 then p else (nI q, lmC f n q)).1), (0, vR 5 52), (1, vI x)] [] (rI (rI H 59 P) 53 y) := ih
        refine And.intro i44 ?_
        have hWl := hpre.flag (d := 44 + q) (v := nI 1) (by omega) (by omega) (vp_in_nI (by omega) (by omega))
        have eU : uI (rI (rI (rI H 59 P) 53 y) 53 ((rI (rI H 59 P) 53 y).1 56)) 53 (nI 44 + nI q).toNatClampNeg (nI 1) = rI (rI H 59 P) 53 (upd f (44 + q) (nI 1)) := by
          rw [hB, eback, e44, nI_clamp (by omega), uI_rI]
        generalize hU : uI (rI (rI (rI H 59 P) 53 y) 53 ((rI (rI H 59 P) 53 y).1 56)) 53 (nI 44 + nI q).toNatClampNeg (nI 1) = U at eU
        have eU53 : U.1 53 = upd f (44 + q) (nI 1) := by rw [eU, rI_eq]
        refine And.intro ⟨show WF (U.1 53) by rw [eU53]; exact hWl.1, hn1⟩ ?_
        have hgl := hWl.1.go n
        have eV : rI U 53 (goF (U.1 53) x.toNatClampNeg) = rI (rI H 59 P) 53 (goF (upd f (44 + q) (nI 1)) n) := by rw [eU53, eU, rI_rI, hnn]
        have cnt := for_up (P := fun w => G 137 [(6, vI (nI w)), (5, vI (fold (fun w s => s + (if goF (upd f (44 + q) (nI 1)) n (144 + 5 * w + 2) = goF f n (144 + 5 * w + 2) then nI 0 else nI 1)) (nI 0) w)), (4, vI (nI q)), (3, vI p.2), (2, vI p.1), (0, vR 5 52), (1, vI x)] [] (rI (rI H 59 P) 53 (goF (upd f (44 + q) (nI 1)) n))) (mN f) (by
          have e6 : (rI (rI H 59 P) 53 (goF (upd f (44 + q) (nI 1)) n)).1 53 (nI 6).toNatClampNeg = nI (mN f) := by
            rw [rI_eq]
            have := mN_eq hgl.1
            rw [hgl.2, hWl.2] at this
            exact this
          have ih9 := ih (goF (upd f (44 + q) (nI 1)) n)
          refine run hG [84, 137] 60 ?_
          refine And.intro (vp_in_nI (by omega) (by omega)) ?_
          refine And.intro (fun h6 => ?_) (fun h6 => absurd (show (rI (rI H 59 P) 53 (goF (upd f (44 + q) (nI 1)) n)).1 53 (nI 6).toNatClampNeg ≤ nI (mN f) by rw [e6]; exact nI_le (Nat.le_refl _) (by omega)) h6)
          refine And.intro (fun h7 => ?_) (fun h7 => ?_)
          · have h7 : lmC f n q ≤ p.2 := h7
            rw [if_pos h7] at ih9
            refine And.intro (fun h8 => ?_) (fun h8 => absurd h7 h8)
            refine cl_lv hG [(4, vI (nI q + nI 1)), (3, vI p.2), (2, vI p.1), (0, vR 5 52), (1, vI x)] ⟨rfl, rfl, rfl, rfl, rfl, trivial⟩ ?_
            rw [nI_s]
            exact ih9
          · have h7 : ¬ lmC f n q ≤ p.2 := h7
            rw [if_neg h7] at ih9
            refine And.intro (fun h8 => absurd h8 h7) (fun h8 => ?_)
            refine cl_lv hG [(4, vI (nI q + nI 1)), (3, vI (lmC f n q)), (2, vI (nI q)), (0, vR 5 52), (1, vI x)] ⟨rfl, rfl, rfl, rfl, rfl, trivial⟩ ?_
            rw [nI_s]
            exact ih9) (by
          intro w hw ih2
          have ew : (nI w).toNatClampNeg = w := nI_clamp (by omega)
          have e6 : (rI (rI H 59 P) 53 (goF (upd f (44 + q) (nI 1)) n)).1 53 (nI 6).toNatClampNeg = nI (mN f) := by
            rw [rI_eq]
            have := mN_eq hgl.1
            rw [hgl.2, hWl.2] at this
            exact this
          have ea : (rI (rI H 59 P) 53 (goF (upd f (44 + q) (nI 1)) n)).1 53 (144 + 5 * (nI w).toNatClampNeg + (nI 2).toNatClampNeg) = goF (upd f (44 + q) (nI 1)) n (144 + 5 * w + 2) := by rw [rI_eq, ew]; rfl
          have eb : (rI (rI H 59 P) 53 (goF (upd f (44 + q) (nI 1)) n)).1 59 (nI w).toNatClampNeg = goF f n (144 + 5 * w + 2) := by rw [rI_ne _ _ (by omega), rI_eq, ew]; exact hPw w hw
          refine run hG [84, 137] 60 ?_
          refine And.intro (vp_in_nI (by omega) (by omega)) ?_
          refine And.intro (fun h6 => absurd (show nI (mN f) ≤ nI w by have h6 : (rI (rI H 59 P) 53 (goF (upd f (44 + q) (nI 1)) n)).1 53 (nI 6).toNatClampNeg ≤ nI w := h6; rw [e6] at h6; exact h6) (nI_ge hw (by omega))) (fun h6 => ?_)
          refine And.intro ⟨vp_in_nI (by omega) (by omega), vp_in_nI (by omega) (by omega)⟩ ?_
          refine And.intro (vp_in_nI (by omega) (by omega)) ?_
          have ih2 : G 137 [(6, vI (nI (w + 1))), (5, vI (fold (fun w s => s + (if goF (upd f (44 + q) (nI 1)) n (144 + 5 * w + 2) = goF f n (144 + 5 * w + 2) then nI 0 else nI 1)) (nI 0) w + (if goF (upd f (44 + q) (nI 1)) n (144 + 5 * w + 2) = goF f n (144 + 5 * w + 2) then nI 0 else nI 1))), (4, vI (nI q)), (3, vI p.2), (2, vI p.1), (0, vR 5 52), (1, vI x)] [] (rI (rI H 59 P) 53 (goF (upd f (44 + q) (nI 1)) n)) := ih2
          generalize fold (fun w s => s + (if goF (upd f (44 + q) (nI 1)) n (144 + 5 * w + 2) = goF f n (144 + 5 * w + 2) then nI 0 else nI 1)) (nI 0) w = c at ih2
          refine And.intro (fun h7 => ?_) (fun h7 => ?_)
          · have h7 : (rI (rI H 59 P) 53 (goF (upd f (44 + q) (nI 1)) n)).1 53 (144 + 5 * (nI w).toNatClampNeg + (nI 2).toNatClampNeg) = (rI (rI H 59 P) 53 (goF (upd f (44 + q) (nI 1)) n)).1 59 (nI w).toNatClampNeg := h7
            rw [ea, eb] at h7
            rw [if_pos h7] at ih2
            refine cl_lv hG [(6, vI (nI w + nI 1)), (5, vI (c + nI 0)), (4, vI (nI q)), (3, vI p.2), (2, vI p.1), (0, vR 5 52), (1, vI x)] ⟨rfl, rfl, rfl, rfl, rfl, rfl, rfl, trivial⟩ ?_
            rw [nI_s]
            exact ih2
          · have h7 : ¬ (rI (rI H 59 P) 53 (goF (upd f (44 + q) (nI 1)) n)).1 53 (144 + 5 * (nI w).toNatClampNeg + (nI 2).toNatClampNeg) = (rI (rI H 59 P) 53 (goF (upd f (44 + q) (nI 1)) n)).1 59 (nI w).toNatClampNeg := h7
            rw [ea, eb] at h7
            rw [if_neg h7] at ih2
            refine cl_lv hG [(6, vI (nI w + nI 1)), (5, vI (c + nI 1)), (4, vI (nI q)), (3, vI p.2), (2, vI p.1), (0, vR 5 52), (1, vI x)] ⟨rfl, rfl, rfl, rfl, rfl, rfl, rfl, trivial⟩ ?_
            rw [nI_s]
            exact ih2) 0 (by omega)
        rw [← eV] at cnt
        exact cl_use hG cnt ⟨rfl, rfl, rfl, rfl, rfl, rfl, rfl, trivial⟩) 0 (by omega)
    exact k9
  -- the places
  have pls := for_up (P := fun k => G 48 [(2, vI (nI k)), (0, vR 5 52), (1, vI x)] [] (rI (rI H 59 (fun j => if j < k then goF f n (144 + 5 * j + 2) else H.1 59 j)) 53 (goF f n))) (mN f) (by
    have e6 : (rI (rI H 59 (fun j => if j < mN f then goF f n (144 + 5 * j + 2) else H.1 59 j)) 53 (goF f n)).1 53 (nI 6).toNatClampNeg = nI (mN f) := by
      rw [rI_eq]
      have := mN_eq hgo.1
      rw [hgo.2] at this
      exact this
    have k7 := main (fun j => if j < mN f then goF f n (144 + 5 * j + 2) else H.1 59 j) (fun w hw => if_pos hw) (goF f n)
    refine run hG [48, 84] 60 ?_
    refine And.intro (vp_in_nI (by omega) (by omega)) ?_
    refine And.intro (fun h6 => ?_) (fun h6 => absurd (show (rI (rI H 59 (fun j => if j < mN f then goF f n (144 + 5 * j + 2) else H.1 59 j)) 53 (goF f n)).1 53 (nI 6).toNatClampNeg ≤ nI (mN f) by rw [e6]; exact nI_le (Nat.le_refl _) (by omega)) h6)
    exact cl_use hG k7 ⟨rfl, rfl, rfl, rfl, rfl, trivial⟩) (by
    intro k hk ih
    have ek : (nI k).toNatClampNeg = k := nI_clamp (by omega)
    have e6 : (rI (rI H 59 (fun j => if j < k then goF f n (144 + 5 * j + 2) else H.1 59 j)) 53 (goF f n)).1 53 (nI 6).toNatClampNeg = nI (mN f) := by
      rw [rI_eq]
      have := mN_eq hgo.1
      rw [hgo.2] at this
      exact this
    refine run hG [48, 84] 60 ?_
    refine And.intro (vp_in_nI (by omega) (by omega)) ?_
    refine And.intro (fun h6 => absurd (show nI (mN f) ≤ nI k by have h6 : (rI (rI H 59 (fun j => if j < k then goF f n (144 + 5 * j + 2) else H.1 59 j)) 53 (goF f n)).1 53 (nI 6).toNatClampNeg ≤ nI k := h6; rw [e6] at h6; exact h6) (nI_ge hk (by omega))) (fun h6 => ?_)
    refine And.intro ⟨vp_in_nI (by omega) (by omega), vp_in_nI (by omega) (by omega)⟩ ?_
    refine And.intro (vp_in_nI (by omega) (by omega)) ?_
    refine cl_lv hG [(2, vI (nI k + nI 1)), (0, vR 5 52), (1, vI x)] ⟨rfl, rfl, rfl, trivial⟩ ?_
    rw [nI_s]
    show G 48 _ [] (uI (rI (rI H 59 (fun j => if j < k then goF f n (144 + 5 * j + 2) else H.1 59 j)) 53 (goF f n)) 59 (nI k).toNatClampNeg ((rI (rI H 59 (fun j => if j < k then goF f n (144 + 5 * j + 2) else H.1 59 j)) 53 (goF f n)).1 53 (144 + 5 * (nI k).toNatClampNeg + 2)))
    rw [rI_eq, ek, uI_r, rI_ne _ _ (by omega), rI_eq, rI_comm _ _ _ (by omega), rI_rI]
    have e : upd (fun j => if j < k then goF f n (144 + 5 * j + 2) else H.1 59 j) k (goF f n (144 + 5 * k + 2)) = (fun j => if j < k + 1 then goF f n (144 + 5 * j + 2) else H.1 59 j) := by
      funext j
      rw [upd_at]
      by_cases h2 : j = k
      · subst h2
        rw [if_pos rfl, if_pos (by omega)]
      · rw [if_neg h2]
        by_cases h3 : j < k
        · rw [if_pos h3, if_pos (by omega)]
        · rw [if_neg h3, if_neg (by omega)]
    rw [e]
    exact ih) 0 (by omega)
  have e0 : rI H 59 (fun j => if j < 0 then goF f n (144 + 5 * j + 2) else H.1 59 j) = H := rI_id (by funext j; rw [if_neg (by omega)])
  rw [e0] at pls
  refine cl_lv hG [(2, vI (nI 0)), (0, vR 5 52), (1, vI x)] ⟨rfl, rfl, rfl, trivial⟩ ?_
  show G 48 _ [] (rI (rI hp 56 (hp.1 53)) 53 (goF ((rI hp 56 (hp.1 53)).1 53) x.toNatClampNeg))
  rw [hf, e1, hH, hnn]
  exact pls
theorem sc_X5_lamp {own : String} {F L idx : Nat} (h1 : Cond.methodLink own idx yX5_lamp ∈ Gw) (hF : 8 ≤ F) (hL : 186 ≤ L) : SC own F L (idx, false, 2, sp_X5_lamp) := SC_V spF_mono c_X5_lamp okd_5 (fun as hp K h => by obtain ⟨x, hx, -⟩ := spF_e h; exact ⟨_, _, d_M_I_e hx⟩) h1 gw_1121 gw_1122 gw_75 gw_1123 (by decide +kernel) hF hL
