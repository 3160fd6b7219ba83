def onV (i : Int32) : Int32 := if i = 0 then nI 0 else nI 1
def mkN (q w : Int32) : Nat := (if w = 0 then 44 else 69) + q.toNatClampNeg
def F_mark (q w i : Int32) (hp : HP) : Int32 × HP := if inB q 25 = true ∧ inB w 2 = true then (neV (hp.1 53 (mkN q w)) (onV i), uI hp 53 (mkN q w) (onV i)) else noP hp 0
def sp_X5_mark : SP := spH d_M_III (fun _ _ => True) (fun x hp => some (vI (F_mark x.1 x.2.1 x.2.2 hp).1)) (fun x hp => (F_mark x.1 x.2.1 x.2.2 hp).2)
def E_X5_mark : EN := [(69, true, 1, sp_X5_isSquare), (55, true, 3, sp_X5_in), (79, false, 2, sp_X5_no), (83, false, 3, sp_X5_puts)]
set_option maxRecDepth 100000 in
set_option maxHeartbeats 4000000 in
theorem c_X5_mark : Ctr M_X5_mark sp_X5_mark := by
  refine ctr_of (own := RX5) M_X5_mark sp_X5_mark (P := P_X5_mark) (K := K_X5) (E := E_X5_mark) (by decide) rfl pk_X5_mark K_X5_ok (List.forall_mem_cons.mpr ⟨sc_X5_isSquare gw_880 (by decide) (by decide), List.forall_mem_cons.mpr ⟨sc_X5_in gw_883 (by decide) (by decide), List.forall_mem_cons.mpr ⟨sc_X5_no gw_895 (by decide) (by decide), List.forall_mem_cons.mpr ⟨sc_X5_puts gw_900 (by decide) (by decide), fun _ h => absurd h List.not_mem_nil⟩⟩⟩⟩) (fun as hp Q h => by obtain ⟨x, hx, -⟩ := spH_e h; rw [d_M_III_e hx]; exact Nat.le_of_ble_eq_true rfl) ?_
  intro Q G hQi hG as hp h
  obtain ⟨x, hx, hpre, hQ⟩ := spH_e h
  rw [d_M_III_e hx]
  clear h hx
  obtain ⟨q, w, i⟩ := x
  try dsimp only at hpre hQ ⊢
  have ib : (decide (nI 0 ≤ w) && decide (w ≤ nI 1)) = inB w 2 := in_b (by omega)
  have no : ¬ (inB q 25 = true ∧ inB w 2 = true) → Q (some (vI (noP hp 0).1)) (noP hp 0).2 := fun h => by
    have hF : F_mark q w i hp = noP hp 0 := if_neg h
    rw [hF] at hQ
    exact hQ
  refine run hG [22] 60 ?_
  refine And.intro trivial ?_
  refine And.intro (fun h1 => ?_) (fun h1 => ?_)
  · refine And.intro (vp_in_nI (by omega) (by omega)) (no (fun h => ?_))
    rw [bB_0.mp h1] at h
    exact absurd h.1 (by decide)
  · refine And.intro trivial ?_
    refine And.intro (fun h2 => ?_) (fun h2 => ?_)
    · have h1 : inB q 25 = true := bB_1.mp h1
      have h2 : inB w 2 = true := ib ▸ bB_1.mp h2
      have hF : F_mark q w i hp = _ := if_pos ⟨h1, h2⟩
      rw [hF] at hQ
      have key : ∀ v, v = onV i → G 31 [(0, vR 5 52), (1, vI q), (2, vI w)] [vI v] hp := by
        intro v hv
        rw [← hv] at hQ
        refine run hG [] 60 ?_
        have last : ∀ k, (if w = 0 then 44 else 69) = k → k < 100 → (vp_in (nI k + q) 184 ∧ (¬ hp.1 53 (nI k + q).toNatClampNeg = v → Q (some (vI (nI 1))) (uI hp 53 (nI k + q).toNatClampNeg v)) ∧ (hp.1 53 (nI k + q).toNatClampNeg = v → Q (some (vI (nI 0))) (uI hp 53 (nI k + q).toNatClampNeg v))) := by
          intro k hk hk2
          have ha := add_ix (k := k) (inB_t.mp h1) (by omega)
          have em : mkN q w = k + q.toNatClampNeg := by unfold mkN; rw [hk]
          rw [em] at hQ
          rw [ha.1]
          refine ⟨ha.2 184 (by omega), fun h3 => ?_, fun h3 => ?_⟩
          · unfold neV at hQ
            rw [if_neg h3] at hQ
            exact hQ
          · unfold neV at hQ
            rw [if_pos h3] at hQ
            exact hQ
        refine And.intro (fun h3 => ?_) (fun h3 => ?_)
        · exact last 69 (if_neg h3) (by omega)
        · exact last 44 (if_pos h3) (by omega)
      refine run hG [31] 60 ?_
      refine And.intro (fun h3 => ?_) (fun h3 => ?_)
      · exact cl_use hG (key _ (if_pos h3).symm) ⟨rfl, rfl, rfl, trivial⟩
      · exact cl_use hG (key _ (if_neg h3).symm) ⟨rfl, rfl, rfl, trivial⟩
    · refine And.intro (vp_in_nI (by omega) (by omega)) (no (fun h => ?_))
      rw [← ib, show (decide (nI 0 ≤ w) && decide (w ≤ nI 1)) = false from bB_0.mp h2] at h
      exact absurd h.2 (by decide)
theorem sc_X5_mark {own : String} {F L idx : Nat} (h1 : Cond.methodLink own idx yX5_mark ∈ Gw) (hF : 3 ≤ F) (hL : 66 ≤ L) : SC own F L (idx, false, 4, sp_X5_mark) := SC_V spH_mono c_X5_mark okd_5 (fun as hp K h => by obtain ⟨x, hx, -⟩ := spH_e h; exact ⟨_, _, d_M_III_e hx⟩) h1 gw_913 gw_914 gw_75 gw_915 (by decide +kernel) hF hL
def wsG (f : Nat → Int32) (q : Int32) (w : Nat) (s : Int32) : Int32 := s ||| (if f (144 + 5 * w + 2) = q then nI 1 <<< (nI w &&& 31) else nI 0)
def wsA (f : Nat → Int32) (q : Int32) : Int32 := fold (wsG f q) (nI 0) (f 6).toNatClampNeg
def sp_X5_walkersAt : SP := spP d_M_I (fun _ hp => many (hp.1 53)) (fun x hp => vI (wsA (hp.1 53) x))
def E_X5_walkersAt : EN := [(59, false, 3, sp_X5_has)]
set_option maxRecDepth 100000 in
set_option maxHeartbeats 4000000 in
theorem c_X5_walkersAt : Ctr M_X5_walkersAt sp_X5_walkersAt := by
  refine ctr_of (own := RX5) M_X5_walkersAt sp_X5_walkersAt (P := P_X5_walkersAt) (K := K_X5) (E := E_X5_walkersAt) (by decide) rfl pk_X5_walkersAt K_X5_ok (List.forall_mem_cons.mpr ⟨sc_X5_has gw_924 (by decide) (by decide), fun _ h => absurd h List.not_mem_nil⟩) (fun as hp Q h => by obtain ⟨x, hx, -⟩ := spP_e h; rw [d_M_I_e hx]; exact Nat.le_of_ble_eq_true rfl) ?_
  intro Q G hQi hG as hp h
  obtain ⟨x, hx, hpre, hQ⟩ := spP_e h
  rw [d_M_I_e hx]
  clear h hx
  obtain ⟨n, hn, e6⟩ := hpre
  have eA : wsA (hp.1 53) x = fold (wsG (hp.1 53) x) (nI 0) n := by unfold wsA; rw [e6, nI_clamp (by omega)]
  rw [eA] at hQ
  have e62 : hp.1 53 (nI 6).toNatClampNeg = nI n := e6
  have key := for_up (P := fun k => G 4 [(3, vI (nI k)), (2, vI (fold (wsG (hp.1 53) x) (nI 0) k)), (0, vR 5 52), (1, vI x)] [] hp) n (by
    refine run hG [4] 60 ?_
    refine And.intro (vp_in_nI (by omega) (by omega)) ?_
    refine And.intro (fun h1 => hQ) (fun h1 => absurd ?_ h1)
    show hp.1 53 (nI 6).toNatClampNeg ≤ nI n
    rw [e62]
    exact nI_le (Nat.le_refl _) (by omega)) (by
    intro k hk ih
    refine run hG [4] 60 ?_
    refine And.intro (vp_in_nI (by omega) (by omega)) ?_
    refine And.intro (fun h1 => absurd ?_ (nI_ge hk (by omega))) (fun h1 => ?_)
    · have h1 : hp.1 53 (nI 6).toNatClampNeg ≤ nI k := h1
      rw [e62] at h1
      exact h1
    refine And.intro ⟨vp_in_nI (by omega) (by omega), vp_in_nI (by omega) (by omega)⟩ ?_
    have ei : 144 + 5 * (nI k).toNatClampNeg + (nI 2).toNatClampNeg = 144 + 5 * k + 2 := by rw [nI_clamp (by omega), nI_clamp (by omega)]
    refine And.intro (fun h2 => ?_) (fun h2 => ?_)
    · have h2 : ¬ hp.1 53 (144 + 5 * (nI k).toNatClampNeg + (nI 2).toNatClampNeg) = x := h2
      rw [ei] at h2
      refine cl_lv hG [(3, vI (nI k + nI 1)), (2, vI (fold (wsG (hp.1 53) x) (nI 0) k ||| nI 0)), (0, vR 5 52), (1, vI x)] ⟨rfl, rfl, rfl, rfl, trivial⟩ ?_
      rw [nI_s]
      have ef : fold (wsG (hp.1 53) x) (nI 0) (k + 1) = fold (wsG (hp.1 53) x) (nI 0) k ||| nI 0 := by
        show wsG (hp.1 53) x k _ = _
        unfold wsG
        rw [if_neg h2]
      rw [← ef]
      exact ih
    · have h2 : hp.1 53 (144 + 5 * (nI k).toNatClampNeg + (nI 2).toNatClampNeg) = x := h2
      rw [ei] at h2
      refine cl_lv hG [(3, vI (nI k + nI 1)), (2, vI (fold (wsG (hp.1 53) x) (nI 0) k ||| nI 1 <<< (nI k &&& 31))), (0, vR 5 52), (1, vI x)] ⟨rfl, rfl, rfl, rfl, trivial⟩ ?_
      rw [nI_s]
      have ef : fold (wsG (hp.1 53) x) (nI 0) (k + 1) = fold (wsG (hp.1 53) x) (nI 0) k ||| nI 1 <<< (nI k &&& 31) := by
        show wsG (hp.1 53) x k _ = _
        unfold wsG
        rw [if_pos h2]
      rw [← ef]
      exact ih) 0 (by omega)
  refine run hG [4] 60 ?_
  exact cl_use hG key ⟨rfl, rfl, rfl, rfl, trivial⟩
theorem sc_X5_walkersAt {own : String} {F L idx : Nat} (h1 : Cond.methodLink own idx yX5_walkersAt ∈ Gw) (hF : 2 ≤ F) (hL : 45 ≤ L) : SC own F L (idx, false, 2, sp_X5_walkersAt) := SC_V spP_mono c_X5_walkersAt okd_5 (fun as hp K h => by obtain ⟨x, hx, -⟩ := spP_e h; exact ⟨_, _, d_M_I_e hx⟩) h1 gw_922 gw_24 gw_75 gw_923 (by decide +kernel) hF hL
def sqV (f : Nat → Int32) (q w : Int32) : Int32 := if w = 0 then f (19 + q.toNatClampNeg) else if w = nI 1 then f (44 + q.toNatClampNeg) else if w = nI 2 then f (69 + q.toNatClampNeg) else wsA f q
def F_squareOf (q w : Int32) (hp : HP) : Int32 × HP := if inB q 25 = true ∧ inB w 4 = true then (sqV (hp.1 53) q w, hp) else noP hp 0
def sp_X5_squareOf : SP := spH d_M_II (fun _ hp => many (hp.1 53)) (fun x hp => some (vI (F_squareOf x.1 x.2 hp).1)) (fun x hp => (F_squareOf x.1 x.2 hp).2)
def E_X5_squareOf : EN := [(69, true, 1, sp_X5_isSquare), (55, true, 3, sp_X5_in), (79, false, 2, sp_X5_no), (86, false, 2, sp_X5_walkersAt)]
set_option maxRecDepth 100000 in
set_option maxHeartbeats 4000000 in
theorem c_X5_squareOf : Ctr M_X5_squareOf sp_X5_squareOf := by
  refine ctr_of (own := RX5) M_X5_squareOf sp_X5_squareOf (P := P_X5_squareOf) (K := K_X5) (E := E_X5_squareOf) (by decide) rfl pk_X5_squareOf K_X5_ok (List.forall_mem_cons.mpr ⟨sc_X5_isSquare gw_880 (by decide) (by decide), List.forall_mem_cons.mpr ⟨sc_X5_in gw_883 (by decide) (by decide), List.forall_mem_cons.mpr ⟨sc_X5_no gw_895 (by decide) (by decide), List.forall_mem_cons.mpr ⟨sc_X5_walkersAt gw_920 (by decide) (by decide), fun _ h => absurd h List.not_mem_nil⟩⟩⟩⟩) (fun as hp Q h => by obtain ⟨x, hx, -⟩ := spH_e h; rw [d_M_II_e hx]; exact Nat.le_of_ble_eq_true rfl) ?_
  intro Q G hQi hG as hp h
  obtain ⟨x, hx, hpre, hQ⟩ := spH_e h
  rw [d_M_II_e hx]
  clear h hx
  obtain ⟨q, w⟩ := x
  try dsimp only at hpre hQ ⊢
  have ib : (decide (nI 0 ≤ w) && decide (w ≤ nI 3)) = inB w 4 := in_b (by omega)
  have no : ¬ (inB q 25 = true ∧ inB w 4 = true) → Q (some (vI (noP hp 0).1)) (noP hp 0).2 := fun h => by
    have hF : F_squareOf q w hp = noP hp 0 := if_neg h
    rw [hF] at hQ
    exact hQ
  refine run hG [] 60 ?_
  refine And.intro trivial ?_
  refine And.intro (fun h1 => ?_) (fun h1 => ?_)
  · refine And.intro (vp_in_nI (by omega) (by omega)) (no (fun h => ?_))
    rw [bB_0.mp h1] at h
    exact absurd h.1 (by decide)
  · refine And.intro trivial ?_
    refine And.intro (fun h2 => ?_) (fun h2 => ?_)
    · have h1 : inB q 25 = true := bB_1.mp h1
      have h2 : inB w 4 = true := ib ▸ bB_1.mp h2
      have hF : F_squareOf q w hp = _ := if_pos ⟨h1, h2⟩
      rw [hF] at hQ
      have ha := fun k (hk : k < 100) => add_ix (k := k) (inB_t.mp h1) (by omega)
      unfold sqV at hQ
      refine And.intro (fun h3 => ?_) (fun h3 => ?_)
      · rw [if_neg h3] at hQ
        refine And.intro (fun h4 => ?_) (fun h4 => ?_)
        · rw [if_neg h4] at hQ
          refine And.intro (fun h5 => ?_) (fun h5 => ?_)
          · rw [if_neg h5] at hQ
            exact And.intro hpre hQ
          · rw [if_pos h5, ← (ha 69 (by omega)).1] at hQ
            exact And.intro ((ha 69 (by omega)).2 184 (by omega)) hQ
        · rw [if_pos h4, ← (ha 44 (by omega)).1] at hQ
          exact And.intro ((ha 44 (by omega)).2 184 (by omega)) hQ
      · rw [if_pos h3, ← (ha 19 (by omega)).1] at hQ
        exact And.intro ((ha 19 (by omega)).2 184 (by omega)) hQ
    · refine And.intro (vp_in_nI (by omega) (by omega)) (no (fun h => ?_))
      rw [← ib, show (decide (nI 0 ≤ w) && decide (w ≤ nI 3)) = false from bB_0.mp h2] at h
      exact absurd h.2 (by decide)
theorem sc_X5_squareOf {own : String} {F L idx : Nat} (h1 : Cond.methodLink own idx yX5_squareOf ∈ Gw) (hF : 3 ≤ F) (hL : 67 ≤ L) : SC own F L (idx, false, 3, sp_X5_squareOf) := SC_V spH_mono c_X5_squareOf okd_5 (fun as hp K h => by obtain ⟨x, hx, -⟩ := spH_e h; exact ⟨_, _, d_M_II_e hx⟩) h1 gw_917 gw_918 gw_75 gw_919 (by decide +kernel) hF hL
def F_moon (v : Int32) (hp : HP) : Int32 × HP := if inB v 5 = true then (hp.1 53 (nI 2).toNatClampNeg, uI hp 53 (nI 2).toNatClampNeg v) else noP hp 0
def sp_X5_moon : SP := spH d_M_I (fun _ _ => True) (fun x hp => some (vI (F_moon x hp).1)) (fun x hp => (F_moon x hp).2)
def E_X5_moon : EN := [(55, true, 3, sp_X5_in), (83, false, 3, sp_X5_puts), (79, false, 2, sp_X5_no)]
set_option maxRecDepth 100000 in
set_option maxHeartbeats 4000000 in
theorem c_X5_moon : Ctr M_X5_moon sp_X5_moon := by
  refine ctr_of (own := RX5) M_X5_moon sp_X5_moon (P := P_X5_moon) (K := K_X5) (E := E_X5_moon) (by decide) rfl pk_X5_moon K_X5_ok (List.forall_mem_cons.mpr ⟨sc_X5_in gw_883 (by decide) (by decide), List.forall_mem_cons.mpr ⟨sc_X5_puts gw_900 (by decide) (by decide), List.forall_mem_cons.mpr ⟨sc_X5_no gw_895 (by decide) (by decide), fun _ h => absurd h List.not_mem_nil⟩⟩⟩) (fun as hp Q h => by obtain ⟨x, hx, -⟩ := spH_e h; rw [d_M_I_e hx]; exact Nat.le_of_ble_eq_true rfl) ?_
  intro Q G hQi hG as hp h
  obtain ⟨x, hx, hpre, hQ⟩ := spH_e h
  rw [d_M_I_e hx]
  clear h hx
  have ib : (decide (nI 0 ≤ x) && decide (x ≤ nI 4)) = inB x 5 := in_b (by omega)
  refine run hG [] 60 ?_
  refine And.intro trivial ?_
  refine And.intro (fun h1 => ?_) (fun h1 => ?_)
  · have h1 : inB x 5 = false := ib ▸ bB_0.mp h1
    have hF : F_moon x hp = noP hp 0 := if_neg (by rw [h1]; decide)
    rw [hF] at hQ
    exact And.intro (vp_in_nI (by omega) (by omega)) hQ
  · have h1 : inB x 5 = true := ib ▸ bB_1.mp h1
    have hF : F_moon x hp = _ := if_pos h1
    rw [hF] at hQ
    exact And.intro (vp_in_nI (by omega) (by omega)) hQ
theorem sc_X5_moon {own : String} {F L idx : Nat} (h1 : Cond.methodLink own idx yX5_moon ∈ Gw) (hF : 2 ≤ F) (hL : 44 ≤ L) : SC own F L (idx, false, 2, sp_X5_moon) := SC_V spH_mono c_X5_moon okd_5 (fun as hp K h => by obtain ⟨x, hx, -⟩ := spH_e h; exact ⟨_, _, d_M_I_e hx⟩) h1 gw_929 gw_930 gw_75 gw_931 (by decide +kernel) hF hL
def rnd (f : Nat → Int32) : Prop := ∃ r, r ≤ 12 ∧ f 5 = nI r
def F_round (q : Int32) (hp : HP) : Int32 × HP := if inB q 25 = true then (if hp.1 53 5 = nI 12 then noP hp 1 else (hp.1 53 5 + nI 1, rI hp 53 (upd (upd (hp.1 53) (7 + (hp.1 53 5).toNatClampNeg) q) 5 (hp.1 53 5 + nI 1)))) else noP hp 0
def sp_X5_round : SP := spH d_M_I (fun _ hp => rnd (hp.1 53)) (fun x hp => some (vI (F_round x hp).1)) (fun x hp => (F_round x hp).2)
def E_X5_round : EN := [(69, true, 1, sp_X5_isSquare), (79, false, 2, sp_X5_no)]
set_option maxRecDepth 100000 in
set_option maxHeartbeats 4000000 in
theorem c_X5_round : Ctr M_X5_round sp_X5_round := by
  refine ctr_of (own := RX5) M_X5_round sp_X5_round (P := P_X5_round) (K := K_X5) (E := E_X5_round) (by decide) rfl pk_X5_round K_X5_ok (List.forall_mem_cons.mpr ⟨sc_X5_isSquare gw_880 (by decide) (by decide), List.forall_mem_cons.mpr ⟨sc_X5_no gw_895 (by decide) (by decide), fun _ h => absurd h List.not_mem_nil⟩⟩) (fun as hp Q h => by obtain ⟨x, hx, -⟩ := spH_e h; rw [d_M_I_e hx]; exact Nat.le_of_ble_eq_true rfl) ?_
  intro Q G hQi hG as hp h
  obtain ⟨x, hx, hpre, hQ⟩ := spH_e h
  rw [d_M_I_e hx]
  clear h hx
  obtain ⟨r, hr, e5⟩ := hpre
  have c5 : (nI 5).toNatClampNeg = 5 := rfl
  refine run hG [] 80 ?_
  refine And.intro trivial ?_
  refine And.intro (fun h1 => ?_) (fun h1 => ?_)
  · have h1 : inB x 25 = true := bB_1.mp h1
    have hF : F_round x hp = _ := if_pos h1
    rw [hF] at hQ
    refine And.intro (vp_in_nI (by omega) (by omega)) ?_
    refine And.intro (fun h2 => ?_) (fun h2 => ?_)
    · have h2 : ¬ hp.1 53 5 = nI 12 := h2
      rw [if_neg h2] at hQ
      have hr2 : r < 12 := by
        rcases Nat.lt_or_ge r 12 with h | h
        · exact h
        · exact absurd (by rw [e5, show r = 12 by omega]) h2
      rw [e5, nI_clamp (by omega)] at hQ
      have ei : (nI 7 + hp.1 53 5) = nI (7 + r) := by rw [e5, nI_add]
      refine And.intro (vp_in_nI (by omega) (by omega)) ?_
      refine And.intro (show vp_in (nI 7 + hp.1 53 5) 184 by rw [ei]; exact vp_in_nI (by omega) (by omega)) ?_
      refine And.intro (vp_in_nI (by omega) (by omega)) ?_
      refine And.intro (vp_in_nI (by omega) (by omega)) ?_
      refine And.intro (vp_in_nI (by omega) (by omega)) ?_
      have h0 : uI (uI hp 53 (nI 7 + hp.1 53 5).toNatClampNeg x) 53 5 ((uI hp 53 (nI 7 + hp.1 53 5).toNatClampNeg x).1 53 5 + nI 1) = rI hp 53 (upd (upd (hp.1 53) (7 + r) x) 5 (nI r + nI 1)) := by
        rw [ei, nI_clamp (by omega), uI_r hp, uI_rI, rI_eq, pk_un (by omega), e5]
      refine q_ih hQ ?_ h0
      show (uI (uI hp 53 (nI 7 + hp.1 53 5).toNatClampNeg x) 53 5 ((uI hp 53 (nI 7 + hp.1 53 5).toNatClampNeg x).1 53 5 + nI 1)).1 53 5 = _
      rw [h0, rI_eq, pk_us]
    · have h2 : hp.1 53 5 = nI 12 := h2
      rw [if_pos h2] at hQ
      exact And.intro (vp_in_nI (by omega) (by omega)) hQ
  · have h1 : inB x 25 = false := bB_0.mp h1
    have hF : F_round x hp = noP hp 0 := if_neg (by rw [h1]; decide)
    rw [hF] at hQ
    exact And.intro (vp_in_nI (by omega) (by omega)) hQ
theorem sc_X5_round {own : String} {F L idx : Nat} (h1 : Cond.methodLink own idx yX5_round ∈ Gw) (hF : 3 ≤ F) (hL : 63 ≤ L) : SC own F L (idx, false, 2, sp_X5_round) := SC_V spH_mono c_X5_round okd_5 (fun as hp K h => by obtain ⟨x, hx, -⟩ := spH_e h; exact ⟨_, _, d_M_I_e hx⟩) h1 gw_933 gw_934 gw_75 gw_935 (by decide +kernel) hF hL
def rstF (f : Nat → Int32) : Nat → Int32 := upd (upd f 4 (-1)) 5 (nI 0)
def sp_X5_rest : SP := spH d_M (fun _ _ => True) (fun _ hp => some (vI (hp.1 53 5))) (fun _ hp => rI hp 53 (rstF (hp.1 53)))
def E_X5_rest : EN := [(83, false, 3, sp_X5_puts)]
set_option maxRecDepth 100000 in
set_option maxHeartbeats 4000000 in
theorem c_X5_rest : Ctr M_X5_rest sp_X5_rest := by
  refine ctr_of (own := RX5) M_X5_rest sp_X5_rest (P := P_X5_rest) (K := K_X5) (E := E_X5_rest) (by decide) rfl pk_X5_rest K_X5_ok (List.forall_mem_cons.mpr ⟨sc_X5_puts gw_900 (by decide) (by decide), fun _ h => absurd h List.not_mem_nil⟩) (fun as hp Q h => by obtain ⟨x, hx, -⟩ := spH_e h; rw [d_M_e hx]; exact Nat.le_of_ble_eq_true rfl) ?_
  intro Q G hQi hG as hp h
  obtain ⟨x, hx, hpre, hQ⟩ := spH_e h
  rw [d_M_e hx]
  clear h hx
  refine run hG [] 80 ?_
  refine And.intro (vp_in_nI (by omega) (by omega)) ?_
  refine And.intro (vp_in_nI (by omega) (by omega)) ?_
  refine q_ih hQ ?_ ?_
  · show (uI hp 53 4 (-1)).1 53 5 = _
    rw [uI_r, rI_eq, pk_un (by omega)]
  · show uI (uI hp 53 4 (-1)) 53 5 (nI 0) = _
    rw [uI_r hp, uI_rI]
    rfl
theorem sc_X5_rest {own : String} {F L idx : Nat} (h1 : Cond.methodLink own idx yX5_rest ∈ Gw) (hF : 2 ≤ F) (hL : 43 ≤ L) : SC own F L (idx, false, 1, sp_X5_rest) := SC_V spH_mono c_X5_rest okd_5 (fun as hp K h => by obtain ⟨x, hx, -⟩ := spH_e h; exact ⟨_, _, d_M_e hx⟩) h1 gw_937 gw_938 gw_75 gw_939 (by decide +kernel) hF hL
