def addF (f : Nat → Int32) (k q w : Int32) : Nat → Int32 := upd (upd (upd (upd (upd (upd f 6 (f 6 + nI 1)) (144 + 5 * (f 6).toNatClampNeg + 0) k) (144 + 5 * (f 6).toNatClampNeg + 1) q) (144 + 5 * (f 6).toNatClampNeg + 2) q) (144 + 5 * (f 6).toNatClampNeg + 3) w) (144 + 5 * (f 6).toNatClampNeg + 4) (nI 0)
def sp_X5_adds : SP := spH d_M_III (fun _ hp => ∃ n, n < 8 ∧ hp.1 53 6 = nI n) (fun _ _ => none) (fun x hp => rI hp 53 (addF (hp.1 53) x.1 x.2.1 x.2.2))
def E_X5_adds : EN := [(89, false, 4, sp_X5_gets)]
set_option maxRecDepth 100000 in
set_option maxHeartbeats 4000000 in
theorem c_X5_adds : Ctr M_X5_adds sp_X5_adds := by
  refine ctr_of (own := RX5) M_X5_adds sp_X5_adds (P := P_X5_adds) (K := K_X5) (E := E_X5_adds) (by decide) rfl pk_X5_adds K_X5_ok (List.forall_mem_cons.mpr ⟨sc_X5_gets gw_954 (by decide) (by decide), fun _ h => absurd h List.not_mem_nil⟩) (fun as hp Q h => by obtain ⟨x, hx, -⟩ := spH_e h; rw [d_M_III_e hx]; exact Nat.le_of_ble_eq_true rfl) ?_
  intro Q G hQi hG as hp h
  obtain ⟨x, hx, hpre, hQ⟩ := spH_e h
  rw [d_M_III_e hx]
  clear h hx
  obtain ⟨k, q, w⟩ := x
  try dsimp only at hpre hQ ⊢
  obtain ⟨n, hn, e6⟩ := hpre
  refine run hG [] 80 ?_
  refine And.intro (vp_in_nI (by omega) (by omega)) ?_
  refine And.intro (vp_in_nI (by omega) (by omega)) ?_
  refine And.intro (vp_in_nI (by omega) (by omega)) ?_
  have e62 : hp.1 53 (nI 6).toNatClampNeg = nI n := e6
  have hin : vp_in (hp.1 53 (nI 6).toNatClampNeg) 8 := by rw [e62]; exact vp_in_nI hn (by omega)
  refine And.intro ⟨hin, vp_in_nI (by omega) (by omega)⟩ ?_
  refine And.intro ⟨hin, vp_in_nI (by omega) (by omega)⟩ ?_
  refine And.intro ⟨hin, vp_in_nI (by omega) (by omega)⟩ ?_
  refine And.intro ⟨hin, vp_in_nI (by omega) (by omega)⟩ ?_
  refine And.intro ⟨hin, vp_in_nI (by omega) (by omega)⟩ ?_
  refine q_n hQ ?_
  dsimp only
  rw [uI_r hp, uI_rI, uI_rI, uI_rI, uI_rI, uI_rI]
  rfl
theorem sc_X5_adds {own : String} {F L idx : Nat} (h1 : Cond.methodLink own idx yX5_adds ∈ Gw) (hF : 3 ≤ F) (hL : 70 ≤ L) : SC own F L (idx, false, 4, sp_X5_adds) := SC_V spH_mono c_X5_adds okd_5 (fun as hp K h => by obtain ⟨x, hx, -⟩ := spH_e h; exact ⟨_, _, d_M_III_e hx⟩) h1 gw_952 gw_26 gw_75 gw_953 (by decide +kernel) hF hL
def F_walker (k q w : Int32) (hp : HP) : Int32 × HP := if inB k 6 = true ∧ inB q 25 = true ∧ inB w 4 = true then (if hp.1 53 6 = nI 8 then noP hp 1 else (hp.1 53 6, rI hp 53 (addF (hp.1 53) k q w))) else noP hp 0
def sp_X5_walker : SP := spH d_M_III (fun _ hp => many (hp.1 53)) (fun x hp => some (vI (F_walker x.1 x.2.1 x.2.2 hp).1)) (fun x hp => (F_walker x.1 x.2.1 x.2.2 hp).2)
theorem add6 {f : Nat → Int32} {k q w : Int32} {n : Nat} (e : f 6 = nI n) (hn : n < 8) : addF f k q w 6 = nI (n + 1) := by
  unfold addF
  rw [e, nI_clamp (by omega), pk_un (by omega), pk_un (by omega), pk_un (by omega), pk_un (by omega), pk_un (by omega), pk_us, nI_s]
def E_X5_walker : EN := [(93, true, 1, sp_X5_isKind), (69, true, 1, sp_X5_isSquare), (96, true, 1, sp_X5_isWay), (79, false, 2, sp_X5_no), (99, false, 4, sp_X5_adds)]
set_option maxRecDepth 100000 in
set_option maxHeartbeats 4000000 in
theorem c_X5_walker : Ctr M_X5_walker sp_X5_walker := by
  refine ctr_of (own := RX5) M_X5_walker sp_X5_walker (P := P_X5_walker) (K := K_X5) (E := E_X5_walker) (by decide) rfl pk_X5_walker K_X5_ok (List.forall_mem_cons.mpr ⟨sc_X5_isKind gw_944 (by decide) (by decide), List.forall_mem_cons.mpr ⟨sc_X5_isSquare gw_880 (by decide) (by decide), List.forall_mem_cons.mpr ⟨sc_X5_isWay gw_947 (by decide) (by decide), List.forall_mem_cons.mpr ⟨sc_X5_no gw_895 (by decide) (by decide), List.forall_mem_cons.mpr ⟨sc_X5_adds gw_950 (by decide) (by decide), fun _ h => absurd h List.not_mem_nil⟩⟩⟩⟩⟩) (fun as hp Q h => by obtain ⟨x, hx, -⟩ := spH_e h; rw [d_M_III_e hx]; exact Nat.le_of_ble_eq_true rfl) ?_
  intro Q G hQi hG as hp h
  obtain ⟨x, hx, hpre, hQ⟩ := spH_e h
  rw [d_M_III_e hx]
  clear h hx
  obtain ⟨k, q, w⟩ := x
  try dsimp only at hpre hQ ⊢
  obtain ⟨n, hn, e6⟩ := hpre
  have no : ¬ (inB k 6 = true ∧ inB q 25 = true ∧ inB w 4 = true) → Q (some (vI (noP hp 0).1)) (noP hp 0).2 := fun h => by
    have hF : F_walker k q w hp = noP hp 0 := if_neg h
    rw [hF] at hQ
    exact hQ
  refine run hG [] 80 ?_
  refine And.intro trivial ?_
  refine And.intro (fun h1 => ?_) (fun h1 => ?_)
  · refine And.intro (vp_in_nI (by omega) (by omega)) (no (fun h => ?_))
    rw [bB_0.mp h1] at h
    exact absurd h.1 (by decide)
  · refine And.intro trivial ?_
    refine And.intro (fun h2 => ?_) (fun h2 => ?_)
    · refine And.intro (vp_in_nI (by omega) (by omega)) (no (fun h => ?_))
      rw [bB_0.mp h2] at h
      exact absurd h.2.1 (by decide)
    · refine And.intro trivial ?_
      refine And.intro (fun h3 => ?_) (fun h3 => ?_)
      · have hF : F_walker k q w hp = _ := if_pos ⟨bB_1.mp h1, bB_1.mp h2, bB_1.mp h3⟩
        rw [hF] at hQ
        refine And.intro (vp_in_nI (by omega) (by omega)) ?_
        refine And.intro (fun h4 => ?_) (fun h4 => ?_)
        · have h4 : ¬ hp.1 53 6 = nI 8 := h4
          rw [if_neg h4] at hQ
          have hn2 : n < 8 := by
            rcases Nat.lt_or_ge n 8 with h | h
            · exact h
            · exact absurd (by rw [e6, show n = 8 by omega]) h4
          refine And.intro ⟨n, hn2, e6⟩ ?_
          refine And.intro (vp_in_nI (by omega) (by omega)) ?_
          refine q_i hQ ?_
          show (rI hp 53 (addF (hp.1 53) k q w)).1 53 6 - nI 1 = _
          rw [rI_eq, add6 e6 hn2, e6]
          exact nI_pred n
        · have h4 : hp.1 53 6 = nI 8 := h4
          rw [if_pos h4] at hQ
          exact And.intro (vp_in_nI (by omega) (by omega)) hQ
      · refine And.intro (vp_in_nI (by omega) (by omega)) (no (fun h => ?_))
        rw [bB_0.mp h3] at h
        exact absurd h.2.2 (by decide)
theorem sc_X5_walker {own : String} {F L idx : Nat} (h1 : Cond.methodLink own idx yX5_walker ∈ Gw) (hF : 4 ≤ F) (hL : 93 ≤ L) : SC own F L (idx, false, 4, sp_X5_walker) := SC_V spH_mono c_X5_walker okd_5 (fun as hp K h => by obtain ⟨x, hx, -⟩ := spH_e h; exact ⟨_, _, d_M_III_e hx⟩) h1 gw_941 gw_942 gw_75 gw_943 (by decide +kernel) hF hL
def waysG (c : Nat → Bool) (w : Nat) (s : Int32) : Int32 := s ||| (if c w = true then nI 1 <<< (nI w &&& 31) else nI 0)
def waysC (c : Nat → Bool) : Int32 := fold (waysG c) (nI 0) 4
def sp_X5_waysFrom : SP := spP d_M_I (fun x _ => vp_in x 25) (fun x hp => vI (waysC (mayB (hp.1 53) x.toNatClampNeg)))
def E_X5_waysFrom : EN := [(103, false, 3, sp_X5_may)]
set_option maxRecDepth 100000 in
set_option maxHeartbeats 4000000 in
theorem c_X5_waysFrom : Ctr M_X5_waysFrom sp_X5_waysFrom := by
  refine ctr_of (own := RX5) M_X5_waysFrom sp_X5_waysFrom (P := P_X5_waysFrom) (K := K_X5) (E := E_X5_waysFrom) (by decide) rfl pk_X5_waysFrom K_X5_ok (List.forall_mem_cons.mpr ⟨sc_X5_may gw_970 (by decide) (by decide), fun _ h => absurd h List.not_mem_nil⟩) (fun as hp Q h => by obtain ⟨x, hx, -⟩ := spP_e h; rw [d_M_I_e hx]; exact Nat.le_of_ble_eq_true rfl) ?_
  intro Q G hQi hG as hp h
  obtain ⟨x, hx, hpre, hQ⟩ := spP_e h
  rw [d_M_I_e hx]
  clear h hx
  have key := for_up (P := fun k => G 4 [(3, vI (nI k)), (2, vI (fold (waysG (mayB (hp.1 53) x.toNatClampNeg)) (nI 0) k)), (0, vR 5 52), (1, vI x)] [] hp) 4 (by
    refine run hG [4] 60 ?_
    exact And.intro (fun h1 => hQ) (fun h1 => absurd (nI_le (Nat.le_refl _) (by omega)) h1)) (by
    intro k hk ih
    refine run hG [4] 60 ?_
    refine And.intro (fun h1 => absurd h1 (nI_ge hk (by omega))) (fun h1 => ?_)
    refine And.intro ⟨hpre, vp_in_nI (by omega) (by omega)⟩ ?_
    have ek : (nI k).toNatClampNeg = k := nI_clamp (by omega)
    refine And.intro (fun h2 => ?_) (fun h2 => ?_)
    · have h2 : mayB (hp.1 53) x.toNatClampNeg (nI k).toNatClampNeg = false := bB_0.mp h2
      rw [ek] at h2
      refine cl_lv hG [(3, vI (nI k + nI 1)), (2, vI (fold (waysG (mayB (hp.1 53) x.toNatClampNeg)) (nI 0) k ||| nI 0)), (0, vR 5 52), (1, vI x)] ⟨rfl, rfl, rfl, rfl, trivial⟩ ?_
      rw [nI_s]
      have ef : fold (waysG (mayB (hp.1 53) x.toNatClampNeg)) (nI 0) (k + 1) = fold (waysG (mayB (hp.1 53) x.toNatClampNeg)) (nI 0) k ||| nI 0 := by
        show waysG _ k _ = _
        unfold waysG
        rw [h2, if_neg (by decide)]
      rw [← ef]
      exact ih
    · have h2 : mayB (hp.1 53) x.toNatClampNeg (nI k).toNatClampNeg = true := bB_1.mp h2
      rw [ek] at h2
      refine cl_lv hG [(3, vI (nI k + nI 1)), (2, vI (fold (waysG (mayB (hp.1 53) x.toNatClampNeg)) (nI 0) k ||| nI 1 <<< (nI k &&& 31))), (0, vR 5 52), (1, vI x)] ⟨rfl, rfl, rfl, rfl, trivial⟩ ?_
      rw [nI_s]
      have ef : fold (waysG (mayB (hp.1 53) x.toNatClampNeg)) (nI 0) (k + 1) = fold (waysG (mayB (hp.1 53) x.toNatClampNeg)) (nI 0) k ||| nI 1 <<< (nI k &&& 31) := by
        show waysG _ k _ = _
        unfold waysG
        rw [h2, if_pos rfl]
      rw [← ef]
      exact ih) 0 (by omega)
  refine run hG [4] 60 ?_
  exact cl_use hG key ⟨rfl, rfl, rfl, rfl, trivial⟩
theorem sc_X5_waysFrom {own : String} {F L idx : Nat} (h1 : Cond.methodLink own idx yX5_waysFrom ∈ Gw) (hF : 3 ≤ F) (hL : 66 ≤ L) : SC own F L (idx, false, 2, sp_X5_waysFrom) := SC_V spP_mono c_X5_waysFrom okd_5 (fun as hp K h => by obtain ⟨x, hx, -⟩ := spP_e h; exact ⟨_, _, d_M_I_e hx⟩) h1 gw_968 gw_29 gw_75 gw_969 (by decide +kernel) hF hL
def mN (f : Nat → Int32) : Nat := (f 6).toNatClampNeg
def wx (w : Int32) (k : Nat) : Nat := 144 + 5 * w.toNatClampNeg + k
def ofV (f : Nat → Int32) (w k : Int32) : Int32 := if k = nI 5 then waysC (mayB f (f (wx w 2)).toNatClampNeg) else f (wx w k.toNatClampNeg)
def F_of (w k : Int32) (hp : HP) : Int32 × HP := if inB w (mN (hp.1 53)) = true ∧ inB k 6 = true then (ofV (hp.1 53) w k, hp) else noP hp 0
theorem in8 {f : Nat → Int32} {w : Int32} (h : many f) (hw : inB w (mN f) = true) : vp_in w 8 := by
  obtain ⟨n, hn, e⟩ := h
  unfold mN at hw
  rw [e, nI_clamp (by omega)] at hw
  have := vp_in_iff.mp (inB_t.mp hw)
  exact vp_in_iff.mpr (by omega)
def sp_X5_of : SP := spH d_M_II (fun _ hp => WF (hp.1 53)) (fun x hp => some (vI (F_of x.1 x.2 hp).1)) (fun x hp => (F_of x.1 x.2 hp).2)
def E_X5_of : EN := [(107, false, 2, sp_X5_isWalker), (55, true, 3, sp_X5_in), (79, false, 2, sp_X5_no), (59, false, 3, sp_X5_has), (110, false, 2, sp_X5_waysFrom)]
set_option maxRecDepth 100000 in
set_option maxHeartbeats 4000000 in
theorem c_X5_of : Ctr M_X5_of sp_X5_of := by
  refine ctr_of (own := RX5) M_X5_of sp_X5_of (P := P_X5_of) (K := K_X5) (E := E_X5_of) (by decide) rfl pk_X5_of K_X5_ok (List.forall_mem_cons.mpr ⟨sc_X5_isWalker gw_962 (by decide) (by decide), List.forall_mem_cons.mpr ⟨sc_X5_in gw_883 (by decide) (by decide), List.forall_mem_cons.mpr ⟨sc_X5_no gw_895 (by decide) (by decide), List.forall_mem_cons.mpr ⟨sc_X5_has gw_924 (by decide) (by decide), List.forall_mem_cons.mpr ⟨sc_X5_waysFrom gw_966 (by decide) (by decide), fun _ h => absurd h List.not_mem_nil⟩⟩⟩⟩⟩) (fun as hp Q h => by obtain ⟨x, hx, -⟩ := spH_e h; rw [d_M_II_e hx]; exact Nat.le_of_ble_eq_true rfl) ?_
  intro Q G hQi hG as hp h
  obtain ⟨x, hx, hpre, hQ⟩ := spH_e h
  rw [d_M_II_e hx]
  clear h hx
  obtain ⟨w, k⟩ := x
  try dsimp only at hpre hQ ⊢
  have hm := hpre.many
  have ib : (decide (nI 0 ≤ k) && decide (k ≤ nI 5)) = inB k 6 := in_b (by omega)
  have no : ¬ (inB w (mN (hp.1 53)) = true ∧ inB k 6 = true) → Q (some (vI (noP hp 0).1)) (noP hp 0).2 := fun h => by
    have hF : F_of w k hp = noP hp 0 := if_neg h
    rw [hF] at hQ
    exact hQ
  refine run hG [] 80 ?_
  refine And.intro hm ?_
  refine And.intro (fun h1 => ?_) (fun h1 => ?_)
  · refine And.intro (vp_in_nI (by omega) (by omega)) (no (fun h => ?_))
    rw [show inB w (mN (hp.1 53)) = false from bB_0.mp h1] at h
    exact absurd h.1 (by decide)
  · refine And.intro trivial ?_
    have h1 : inB w (mN (hp.1 53)) = true := bB_1.mp h1
    have hw8 := in8 hm h1
    refine And.intro (fun h2 => ?_) (fun h2 => ?_)
    · have h2 : inB k 6 = true := ib ▸ bB_1.mp h2
      have hF : F_of w k hp = _ := if_pos ⟨h1, h2⟩
      rw [hF] at hQ
      unfold ofV at hQ
      refine And.intro (fun h3 => ?_) (fun h3 => ?_)
      · rw [if_neg h3] at hQ
        have hk5 : vp_in k 5 := by
          obtain ⟨j, hj, ej⟩ := vp_in_of (inB_t.mp h2) (by omega)
          rw [ej] at h3 ⊢
          exact vp_in_nI (by rcases Nat.lt_or_ge j 5 with h | h; exact h; exact absurd (by rw [show j = 5 by omega]) h3) (by omega)
        exact And.intro ⟨hw8, hk5⟩ hQ
      · rw [if_pos h3] at hQ
        refine And.intro ⟨hw8, vp_in_nI (by omega) (by omega)⟩ ?_
        have hk := (hpre.wk (ix_lt (inB_t.mp h1))).2.2.1
        exact And.intro hk hQ
    · refine And.intro (vp_in_nI (by omega) (by omega)) (no (fun h => ?_))
      rw [← ib, show (decide (nI 0 ≤ k) && decide (k ≤ nI 5)) = false from bB_0.mp h2] at h
      exact absurd h.2 (by decide)
theorem sc_X5_of {own : String} {F L idx : Nat} (h1 : Cond.methodLink own idx yX5_of ∈ Gw) (hF : 4 ≤ F) (hL : 88 ≤ L) : SC own F L (idx, false, 3, sp_X5_of) := SC_V spH_mono c_X5_of okd_5 (fun as hp K h => by obtain ⟨x, hx, -⟩ := spH_e h; exact ⟨_, _, d_M_II_e hx⟩) h1 gw_959 gw_960 gw_75 gw_961 (by decide +kernel) hF hL
def F_set (w k v : Int32) (hp : HP) : Int32 × HP := if inB w (mN (hp.1 53)) = true ∧ (nI 1 ≤ k ∧ k ≤ nI 3) ∧ inB v (if k = nI 3 then 4 else 25) = true then (hp.1 53 (wx w k.toNatClampNeg), uI hp 53 (wx w k.toNatClampNeg) v) else noP hp 0
def sp_X5_set : SP := spH d_M_III (fun _ hp => many (hp.1 53)) (fun x hp => some (vI (F_set x.1 x.2.1 x.2.2 hp).1)) (fun x hp => (F_set x.1 x.2.1 x.2.2 hp).2)
theorem in13 {k : Int32} (h : nI 1 ≤ k ∧ k ≤ nI 3) : vp_in k 5 := by
  rw [Int32.le_iff_toInt_le, Int32.le_iff_toInt_le, nI_toInt (by omega), nI_toInt (by omega)] at h
  exact vp_in_iff.mpr (by omega)
def E_X5_set : EN := [(107, false, 2, sp_X5_isWalker), (55, true, 3, sp_X5_in), (96, true, 1, sp_X5_isWay), (69, true, 1, sp_X5_isSquare), (79, false, 2, sp_X5_no), (89, false, 4, sp_X5_gets)]
set_option maxRecDepth 100000 in
set_option maxHeartbeats 4000000 in
theorem c_X5_set : Ctr M_X5_set sp_X5_set := by
  refine ctr_of (own := RX5) M_X5_set sp_X5_set (P := P_X5_set) (K := K_X5) (E := E_X5_set) (by decide) rfl pk_X5_set K_X5_ok (List.forall_mem_cons.mpr ⟨sc_X5_isWalker gw_962 (by decide) (by decide), List.forall_mem_cons.mpr ⟨sc_X5_in gw_883 (by decide) (by decide), List.forall_mem_cons.mpr ⟨sc_X5_isWay gw_947 (by decide) (by decide), List.forall_mem_cons.mpr ⟨sc_X5_isSquare gw_880 (by decide) (by decide), List.forall_mem_cons.mpr ⟨sc_X5_no gw_895 (by decide) (by decide), List.forall_mem_cons.mpr ⟨sc_X5_gets gw_954 (by decide) (by decide), fun _ h => absurd h List.not_mem_nil⟩⟩⟩⟩⟩⟩) (fun as hp Q h => by obtain ⟨x, hx, -⟩ := spH_e h; rw [d_M_III_e hx]; exact Nat.le_of_ble_eq_true rfl) ?_
  intro Q G hQi hG as hp h
  obtain ⟨x, hx, hpre, hQ⟩ := spH_e h
  rw [d_M_III_e hx]
  clear h hx
  obtain ⟨w, k, v⟩ := x
  try dsimp only at hpre hQ ⊢
  have no : ¬ (inB w (mN (hp.1 53)) = true ∧ (nI 1 ≤ k ∧ k ≤ nI 3) ∧ inB v (if k = nI 3 then 4 else 25) = true) → Q (some (vI (noP hp 0).1)) (noP hp 0).2 := fun h => by
    have hF : F_set w k v hp = noP hp 0 := if_neg h
    rw [hF] at hQ
    exact hQ
  refine run hG [] 80 ?_
  refine And.intro hpre ?_
  refine And.intro (fun h1 => ?_) (fun h1 => ?_)
  · refine And.intro (vp_in_nI (by omega) (by omega)) (no (fun h => ?_))
    rw [show inB w (mN (hp.1 53)) = false from bB_0.mp h1] at h
    exact absurd h.1 (by decide)
  · refine And.intro trivial ?_
    have h1 : inB w (mN (hp.1 53)) = true := bB_1.mp h1
    have hw8 := in8 hpre h1
    refine And.intro (fun h2 => ?_) (fun h2 => ?_)
    · have h2 : (decide (nI 1 ≤ k) && decide (k ≤ nI 3)) = false := bB_0.mp h2
      refine And.intro (vp_in_nI (by omega) (by omega)) (no (fun h => ?_))
      rw [decide_eq_true h.2.1.1, decide_eq_true h.2.1.2] at h2
      exact absurd h2 (by decide)
    · have h2 : (decide (nI 1 ≤ k) && decide (k ≤ nI 3)) = true := bB_1.mp h2
      rw [Bool.and_eq_true, decide_eq_true_iff, decide_eq_true_iff] at h2
      have yes : inB v (if k = nI 3 then 4 else 25) = true → (vp_in w 8 ∧ vp_in k 5) ∧ Q (some (vI (hp.1 53 (wx w k.toNatClampNeg)))) (uI hp 53 (wx w k.toNatClampNeg) v) := fun h => by
        have hF : F_set w k v hp = _ := if_pos ⟨h1, h2, h⟩
        rw [hF] at hQ
        exact ⟨⟨hw8, in13 h2⟩, hQ⟩
      refine And.intro (fun h3 => ?_) (fun h3 => ?_)
      · rw [if_neg h3] at yes no
        refine And.intro trivial ?_
        refine And.intro (fun h4 => yes (bB_1.mp h4)) (fun h4 => ?_)
        refine And.intro (vp_in_nI (by omega) (by omega)) (no (fun h => ?_))
        rw [show inB v 25 = false from bB_0.mp h4] at h
        exact absurd h.2.2 (by decide)
      · rw [if_pos h3] at yes no
        refine And.intro trivial ?_
        refine And.intro (fun h4 => ?_) (fun h4 => yes (bB_1.mp h4))
        refine And.intro (vp_in_nI (by omega) (by omega)) (no (fun h => ?_))
        rw [show inB v 4 = false from bB_0.mp h4] at h
        exact absurd h.2.2 (by decide)
theorem sc_X5_set {own : String} {F L idx : Nat} (h1 : Cond.methodLink own idx yX5_set ∈ Gw) (hF : 3 ≤ F) (hL : 69 ≤ L) : SC own F L (idx, false, 4, sp_X5_set) := SC_V spH_mono c_X5_set okd_5 (fun as hp K h => by obtain ⟨x, hx, -⟩ := spH_e h; exact ⟨_, _, d_M_III_e hx⟩) h1 gw_975 gw_976 gw_75 gw_977 (by decide +kernel) hF hL
def F_wake (w i : Int32) (hp : HP) : Int32 × HP := if inB w (mN (hp.1 53)) = true then (neV (hp.1 53 (wx w 4)) (onV i), uI hp 53 (wx w 4) (onV i)) else noP hp 0
def sp_X5_wake : SP := spH d_M_II (fun _ hp => many (hp.1 53)) (fun x hp => some (vI (F_wake x.1 x.2 hp).1)) (fun x hp => (F_wake x.1 x.2 hp).2)
def E_X5_wake : EN := [(107, false, 2, sp_X5_isWalker), (79, false, 2, sp_X5_no), (89, false, 4, sp_X5_gets)]
set_option maxRecDepth 100000 in
set_option maxHeartbeats 4000000 in
theorem c_X5_wake : Ctr M_X5_wake sp_X5_wake := by
  refine ctr_of (own := RX5) M_X5_wake sp_X5_wake (P := P_X5_wake) (K := K_X5) (E := E_X5_wake) (by decide) rfl pk_X5_wake K_X5_ok (List.forall_mem_cons.mpr ⟨sc_X5_isWalker gw_962 (by decide) (by decide), List.forall_mem_cons.mpr ⟨sc_X5_no gw_895 (by decide) (by decide), List.forall_mem_cons.mpr ⟨sc_X5_gets gw_954 (by decide) (by decide), fun _ h => absurd h List.not_mem_nil⟩⟩⟩) (fun as hp Q h => by obtain ⟨x, hx, -⟩ := spH_e h; rw [d_M_II_e hx]; exact Nat.le_of_ble_eq_true rfl) ?_
  intro Q G hQi hG as hp h
  obtain ⟨x, hx, hpre, hQ⟩ := spH_e h
  rw [d_M_II_e hx]
  clear h hx
  obtain ⟨w, i⟩ := x
  try dsimp only at hpre hQ ⊢
  refine run hG [] 80 ?_
  refine And.intro hpre ?_
  refine And.intro (fun h1 => ?_) (fun h1 => ?_)
  · have h1 : inB w (mN (hp.1 53)) = true := bB_1.mp h1
    have hw8 := in8 hpre h1
    have hF : F_wake w i hp = _ := if_pos h1
    rw [hF] at hQ
    have fin : ∀ v, v = onV i → (vp_in w 8 ∧ vp_in (nI 4) 5) ∧ (¬ hp.1 53 (wx w 4) = v → Q (some (vI (nI 1))) (uI hp 53 (wx w 4) v)) ∧ (hp.1 53 (wx w 4) = v → Q (some (vI (nI 0))) (uI hp 53 (wx w 4) v)) := by
      intro v hv
      rw [← hv] at hQ
      refine ⟨⟨hw8, vp_in_nI (by omega) (by omega)⟩, fun h => ?_, fun h => ?_⟩
      · unfold neV at hQ
        rw [if_neg h] at hQ
        exact hQ
      · unfold neV at hQ
        rw [if_pos h] at hQ
        exact hQ
    refine And.intro (fun h2 => ?_) (fun h2 => ?_)
    · exact fin (nI 0) (if_pos h2).symm
    · exact fin (nI 1) (if_neg h2).symm
  · have hF : F_wake w i hp = noP hp 0 := if_neg (by rw [show inB w (mN (hp.1 53)) = false from bB_0.mp h1]; decide)
    rw [hF] at hQ
    exact And.intro (vp_in_nI (by omega) (by omega)) hQ
theorem sc_X5_wake {own : String} {F L idx : Nat} (h1 : Cond.methodLink own idx yX5_wake ∈ Gw) (hF : 3 ≤ F) (hL : 69 ≤ L) : SC own F L (idx, false, 3, sp_X5_wake) := SC_V spH_mono c_X5_wake okd_5 (fun as hp K h => by obtain ⟨x, hx, -⟩ := spH_e h; exact ⟨_, _, d_M_II_e hx⟩) h1 gw_979 gw_980 gw_75 gw_981 (by decide +kernel) hF hL
def F_turn (w k : Int32) (hp : HP) : Int32 × HP := if inB w (mN (hp.1 53)) = true ∧ inB k 6 = true then (hp.1 53 (wx w 0), uI hp 53 (wx w 0) k) else noP hp 0
def sp_X5_turn : SP := spH d_M_II (fun _ hp => many (hp.1 53)) (fun x hp => some (vI (F_turn x.1 x.2 hp).1)) (fun x hp => (F_turn x.1 x.2 hp).2)
def E_X5_turn : EN := [(107, false, 2, sp_X5_isWalker), (93, true, 1, sp_X5_isKind), (89, false, 4, sp_X5_gets), (79, false, 2, sp_X5_no)]
set_option maxRecDepth 100000 in
set_option maxHeartbeats 4000000 in
theorem c_X5_turn : Ctr M_X5_turn sp_X5_turn := by
  refine ctr_of (own := RX5) M_X5_turn sp_X5_turn (P := P_X5_turn) (K := K_X5) (E := E_X5_turn) (by decide) rfl pk_X5_turn K_X5_ok (List.forall_mem_cons.mpr ⟨sc_X5_isWalker gw_962 (by decide) (by decide), List.forall_mem_cons.mpr ⟨sc_X5_isKind gw_944 (by decide) (by decide), List.forall_mem_cons.mpr ⟨sc_X5_gets gw_954 (by decide) (by decide), List.forall_mem_cons.mpr ⟨sc_X5_no gw_895 (by decide) (by decide), fun _ h => absurd h List.not_mem_nil⟩⟩⟩⟩) (fun as hp Q h => by obtain ⟨x, hx, -⟩ := spH_e h; rw [d_M_II_e hx]; exact Nat.le_of_ble_eq_true rfl) ?_
  intro Q G hQi hG as hp h
  obtain ⟨x, hx, hpre, hQ⟩ := spH_e h
  rw [d_M_II_e hx]
  clear h hx
  obtain ⟨w, k⟩ := x
  try dsimp only at hpre hQ ⊢
  have no : ¬ (inB w (mN (hp.1 53)) = true ∧ inB k 6 = true) → Q (some (vI (noP hp 0).1)) (noP hp 0).2 := fun h => by
    have hF : F_turn w k hp = noP hp 0 := if_neg h
    rw [hF] at hQ
    exact hQ
  refine run hG [] 80 ?_
  refine And.intro hpre ?_
  refine And.intro (fun h1 => ?_) (fun h1 => ?_)
  · refine And.intro (vp_in_nI (by omega) (by omega)) (no (fun h => ?_))
    rw [show inB w (mN (hp.1 53)) = false from bB_0.mp h1] at h
    exact absurd h.1 (by decide)
  · refine And.intro trivial ?_
    have h1 : inB w (mN (hp.1 53)) = true := bB_1.mp h1
    refine And.intro (fun h2 => ?_) (fun h2 => ?_)
    · refine And.intro (vp_in_nI (by omega) (by omega)) (no (fun h => ?_))
      rw [show inB k 6 = false from bB_0.mp h2] at h
      exact absurd h.2 (by decide)
    · have hF : F_turn w k hp = _ := if_pos ⟨h1, bB_1.mp h2⟩
      rw [hF] at hQ
      exact And.intro ⟨in8 hpre h1, vp_in_nI (by omega) (by omega)⟩ hQ
theorem sc_X5_turn {own : String} {F L idx : Nat} (h1 : Cond.methodLink own idx yX5_turn ∈ Gw) (hF : 3 ≤ F) (hL : 68 ≤ L) : SC own F L (idx, false, 3, sp_X5_turn) := SC_V spH_mono c_X5_turn okd_5 (fun as hp K h => by obtain ⟨x, hx, -⟩ := spH_e h; exact ⟨_, _, d_M_II_e hx⟩) h1 gw_983 gw_984 gw_75 gw_985 (by decide +kernel) hF hL
def undB (o k : Int32) : Bool := if k = nI 0 then true else if k = nI 1 then decide (o = nI 1) || decide (o = nI 3) else if k = nI 2 then decide (o = nI 2) || decide (o = nI 5) else decide (o = k)
def sp_X5_isUnder : SP := spP d_S_II (fun x _ => vp_in x.2 6) (fun x _ => vI (bB (undB x.1 x.2)))
def E_X5_isUnder : EN := []
set_option maxRecDepth 100000 in
set_option maxHeartbeats 4000000 in
theorem c_X5_isUnder : Ctr M_X5_isUnder sp_X5_isUnder := by
  refine ctr_of (own := RX5) M_X5_isUnder sp_X5_isUnder (P := P_X5_isUnder) (K := K_X5) (E := E_X5_isUnder) (by decide) rfl pk_X5_isUnder K_X5_ok (fun _ h => absurd h List.not_mem_nil) (fun as hp Q h => by obtain ⟨x, hx, -⟩ := spP_e h; rw [d_S_II_e hx]; exact Nat.le_of_ble_eq_true rfl) ?_
  intro Q G hQi hG as hp h
  obtain ⟨x, hx, hpre, hQ⟩ := spP_e h
  rw [d_S_II_e hx]
  clear h hx
  obtain ⟨o, k⟩ := x
  try dsimp only at hpre hQ ⊢
  obtain ⟨j, hj, rfl⟩ := vp_in_of hpre (by omega)
  have hi : (nI j).toInt = j := nI_toInt (by omega)
  refine run hG [] 80 ?_
  refine And.intro (fun h0 => ?_) (And.intro (fun h0 => ?_) (And.intro (fun h0 => ?_) (fun h0 => ?_)))
  · have e : j = 0 := by rw [hi] at h0; omega
    subst e
    exact q_b hQ (by unfold undB; rw [if_pos rfl]; rfl)
  · have e : j = 1 := by rw [hi] at h0; omega
    subst e
    have eu : undB o (nI 1) = (decide (o = nI 1) || decide (o = nI 3)) := by unfold undB; rw [if_neg (by decide), if_pos rfl]
    rw [eu] at hQ
    refine And.intro (fun h1 => ?_) (fun h1 => And.intro (fun h2 => ?_) (fun h2 => ?_))
    · exact q_b hQ (by simp [h1, bB, nI])
    · exact q_b hQ (by rw [decide_eq_false h1, decide_eq_false h2]; rfl)
    · exact q_b hQ (by rw [decide_eq_false h1, decide_eq_true h2]; rfl)
  · have e : j = 2 := by rw [hi] at h0; omega
    subst e
    have eu : undB o (nI 2) = (decide (o = nI 2) || decide (o = nI 5)) := by unfold undB; rw [if_neg (by decide), if_neg (by decide), if_pos rfl]
    rw [eu] at hQ
    refine And.intro (fun h1 => ?_) (fun h1 => And.intro (fun h2 => ?_) (fun h2 => ?_))
    · exact q_b hQ (by simp [h1, bB, nI])
    · exact q_b hQ (by rw [decide_eq_false h1, decide_eq_false h2]; rfl)
    · exact q_b hQ (by rw [decide_eq_false h1, decide_eq_true h2]; rfl)
  · have e : 3 ≤ j := by rw [hi] at h0; omega
    have eu : undB o (nI j) = decide (o = nI j) := by
      unfold undB
      rw [if_neg (by rw [nI_eq (by omega) (by omega)]; omega), if_neg (by rw [nI_eq (by omega) (by omega)]; omega), if_neg (by rw [nI_eq (by omega) (by omega)]; omega)]
    rw [eu] at hQ
    refine And.intro (fun h1 => ?_) (fun h1 => ?_)
    · exact q_b hQ (by rw [decide_eq_false h1]; rfl)
    · have h1 : o = nI j := h1
      exact q_b hQ (by simp [h1, bB, nI])
theorem sc_X5_isUnder {own : String} {F L idx : Nat} (h1 : Cond.methodLink own idx yX5_isUnder ∈ Gw) (hF : 1 ≤ F) (hL : 21 ≤ L) : SC own F L (idx, true, 2, sp_X5_isUnder) := SC_S spP_mono c_X5_isUnder h1 gw_991 gw_75 gw_992 (by decide +kernel) hF hL
def F_as (w k : Int32) (hp : HP) : Int32 × HP := if inB w (mN (hp.1 53)) = true ∧ inB k 6 = true then (if undB (hp.1 53 (wx w 0)) k = true then (hp.1 53 (wx w 2), hp) else noP hp 2) else noP hp 0
def sp_X5_as : SP := spH d_M_II (fun _ hp => many (hp.1 53)) (fun x hp => some (vI (F_as x.1 x.2 hp).1)) (fun x hp => (F_as x.1 x.2 hp).2)
def E_X5_as : EN := [(107, false, 2, sp_X5_isWalker), (93, true, 1, sp_X5_isKind), (79, false, 2, sp_X5_no), (59, false, 3, sp_X5_has), (113, true, 2, sp_X5_isUnder)]
set_option maxRecDepth 100000 in
set_option maxHeartbeats 4000000 in
theorem c_X5_as : Ctr M_X5_as sp_X5_as := by
  refine ctr_of (own := RX5) M_X5_as sp_X5_as (P := P_X5_as) (K := K_X5) (E := E_X5_as) (by decide) rfl pk_X5_as K_X5_ok (List.forall_mem_cons.mpr ⟨sc_X5_isWalker gw_962 (by decide) (by decide), List.forall_mem_cons.mpr ⟨sc_X5_isKind gw_944 (by decide) (by decide), List.forall_mem_cons.mpr ⟨sc_X5_no gw_895 (by decide) (by decide), List.forall_mem_cons.mpr ⟨sc_X5_has gw_924 (by decide) (by decide), List.forall_mem_cons.mpr ⟨sc_X5_isUnder gw_990 (by decide) (by decide), fun _ h => absurd h List.not_mem_nil⟩⟩⟩⟩⟩) (fun as hp Q h => by obtain ⟨x, hx, -⟩ := spH_e h; rw [d_M_II_e hx]; exact Nat.le_of_ble_eq_true rfl) ?_
  intro Q G hQi hG as hp h
  obtain ⟨x, hx, hpre, hQ⟩ := spH_e h
  rw [d_M_II_e hx]
  clear h hx
  obtain ⟨w, k⟩ := x
  try dsimp only at hpre hQ ⊢
  have no : ¬ (inB w (mN (hp.1 53)) = true ∧ inB k 6 = true) → Q (some (vI (noP hp 0).1)) (noP hp 0).2 := fun h => by
    have hF : F_as w k hp = noP hp 0 := if_neg h
    rw [hF] at hQ
    exact hQ
  refine run hG [] 80 ?_
  refine And.intro hpre ?_
  refine And.intro (fun h1 => ?_) (fun h1 => ?_)
  · refine And.intro (vp_in_nI (by omega) (by omega)) (no (fun h => ?_))
    rw [show inB w (mN (hp.1 53)) = false from bB_0.mp h1] at h
    exact absurd h.1 (by decide)
  · refine And.intro trivial ?_
    have h1 : inB w (mN (hp.1 53)) = true := bB_1.mp h1
    have hw8 := in8 hpre h1
    refine And.intro (fun h2 => ?_) (fun h2 => ?_)
    · have hF : F_as w k hp = _ := if_pos ⟨h1, bB_1.mp h2⟩
      rw [hF] at hQ
      refine And.intro ⟨hw8, vp_in_nI (by omega) (by omega)⟩ ?_
      refine And.intro (inB_t.mp (bB_1.mp h2)) ?_
      refine And.intro (fun h3 => ?_) (fun h3 => ?_)
      · have h3 : undB (hp.1 53 (wx w 0)) k = false := bB_0.mp h3
        rw [if_neg (by rw [h3]; decide)] at hQ
        exact And.intro (vp_in_nI (by omega) (by omega)) hQ
      · have h3 : undB (hp.1 53 (wx w 0)) k = true := bB_1.mp h3
        rw [if_pos h3] at hQ
        exact And.intro ⟨hw8, vp_in_nI (by omega) (by omega)⟩ hQ
    · refine And.intro (vp_in_nI (by omega) (by omega)) (no (fun h => ?_))
      rw [show inB k 6 = false from bB_0.mp h2] at h
      exact absurd h.2 (by decide)
theorem sc_X5_as {own : String} {F L idx : Nat} (h1 : Cond.methodLink own idx yX5_as ∈ Gw) (hF : 3 ≤ F) (hL : 65 ≤ L) : SC own F L (idx, false, 3, sp_X5_as) := SC_V spH_mono c_X5_as okd_5 (fun as hp K h => by obtain ⟨x, hx, -⟩ := spH_e h; exact ⟨_, _, d_M_II_e hx⟩) h1 gw_987 gw_988 gw_75 gw_989 (by decide +kernel) hF hL
