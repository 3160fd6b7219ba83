def ctV (b : Int32) (v : Int64) : Int64 := if b = nI 8 then v.toInt32.toInt8.toInt32.toInt64 else if b = nI 16 then v.toInt32.toInt16.toInt32.toInt64 else v
def sp_X5_writes : SP := spH d_M_IIJ (fun x _ => vp_in x.1 4 ∧ vp_in x.2.1 40) (fun _ _ => none) (fun x hp => uL hp 65 (40 * x.1.toNatClampNeg + x.2.1.toNatClampNeg) (ctV (hp.1 63 x.1.toNatClampNeg) x.2.2))
def E_X5_writes : EN := []
set_option maxRecDepth 100000 in
set_option maxHeartbeats 4000000 in
theorem c_X5_writes : Ctr M_X5_writes sp_X5_writes := by
  refine ctr_of (own := RX5) M_X5_writes sp_X5_writes (P := P_X5_writes) (K := K_X5) (E := E_X5_writes) (by decide) rfl pk_X5_writes K_X5_ok (fun _ h => absurd h List.not_mem_nil) (fun as hp Q h => by obtain ⟨x, hx, -⟩ := spH_e h; rw [d_M_IIJ_e hx]; exact Nat.le_of_ble_eq_true rfl) ?_
  intro Q G hQi hG as hp h
  obtain ⟨x, hx, hpre, hQ⟩ := spH_e h
  rw [d_M_IIJ_e hx]
  clear h hx
  obtain ⟨s, i, v⟩ := x
  try dsimp only at hpre hQ ⊢
  obtain ⟨hs, hi⟩ := hpre
  obtain ⟨S, hS, rfl⟩ := vp_in_of hs (by omega)
  obtain ⟨I, hI, rfl⟩ := vp_in_of hi (by omega)
  have eS : (nI S).toNatClampNeg = S := nI_clamp (by omega)
  rw [eS, nI_clamp (show I < 2 ^ 31 by omega)] at hQ
  have e : nI 40 * nI S + nI I = nI (40 * S + I) := sh_ix
  have hin : vp_in (nI 40 * nI S + nI I) 160 := by rw [e]; exact vp_in_nI (by omega) (by omega)
  have fin : ∀ y, y = ctV (hp.1 63 S) v → Q none (uL hp 65 (nI 40 * nI S + nI I).toNatClampNeg y) := fun y hy => by
    rw [e, nI_clamp (by omega), hy]
    exact hQ
  refine run hG [] 60 ?_
  refine And.intro hs ?_
  refine And.intro (fun h1 => ?_) (fun h1 => ?_)
  · have h1 : ¬ hp.1 63 (nI S).toNatClampNeg = nI 8 := h1
    rw [eS] at h1
    refine And.intro hs ?_
    refine And.intro (fun h2 => ?_) (fun h2 => ?_)
    · have h2 : ¬ hp.1 63 (nI S).toNatClampNeg = nI 16 := h2
      rw [eS] at h2
      refine And.intro hin ?_
      exact fin _ (by unfold ctV; rw [if_neg h1, if_neg h2])
    · have h2 : hp.1 63 (nI S).toNatClampNeg = nI 16 := h2
      rw [eS] at h2
      refine And.intro hin ?_
      exact fin _ (by unfold ctV; rw [if_neg h1, if_pos h2])
  · have h1 : hp.1 63 (nI S).toNatClampNeg = nI 8 := h1
    rw [eS] at h1
    refine And.intro hin ?_
    exact fin _ (by unfold ctV; rw [if_pos h1])
theorem sc_X5_writes {own : String} {F L idx : Nat} (h1 : Cond.methodLink own idx yX5_writes ∈ Gw) (hF : 1 ≤ F) (hL : 24 ≤ L) : SC own F L (idx, false, 4, sp_X5_writes) := SC_V spH_mono c_X5_writes okd_5 (fun as hp K h => by obtain ⟨x, hx, -⟩ := spH_e h; exact ⟨_, _, d_M_IIJ_e hx⟩) h1 gw_1264 gw_66 gw_75 gw_1265 (by decide +kernel) hF hL
/-- how long the sheets are -/
def lnOK (hp : HP) : Prop := ∀ s, s < 4 → ∃ l, l ≤ 40 ∧ hp.1 64 s = nI l
def lnN (hp : HP) (s : Nat) : Nat := (hp.1 64 s).toNatClampNeg
theorem lnOK.at {hp : HP} (h : lnOK hp) {s : Nat} (hs : s < 4) : lnN hp s ≤ 40 ∧ hp.1 64 s = nI (lnN hp s) := by
  obtain ⟨l, hl, e⟩ := h s hs
  unfold lnN
  rw [e, nI_clamp (by omega)]
  exact ⟨hl, rfl⟩
theorem len_b {v : Int32} {n : Nat} (hn : n ≤ 40) : (decide (nI 0 ≤ v) && decide (v ≤ nI n - nI 1)) = inB v n := by
  cases n with
  | zero =>
    have h1 : inB v 0 = false := inB_f.mpr (fun h => absurd (ix_lt h) (by omega))
    rw [h1, nI_neg1]
    cases h2 : (decide (nI 0 ≤ v) && decide (v ≤ -1)) with
    | false => rfl
    | true =>
      have h3 := and_t.mp h2
      have a := Int32.le_iff_toInt_le.mp h3.1
      have b := Int32.le_iff_toInt_le.mp h3.2
      have e0 : (nI 0).toInt = 0 := rfl
      have e1 : (-1 : Int32).toInt = -1 := rfl
      omega
  | succ n =>
    rw [nI_m1 (show 0 < n + 1 by omega), Nat.add_sub_cancel]
    exact in_b (by omega)
def F_write (s i : Int32) (v : Int64) (hp : HP) : Int64 × HP := if inB s 4 = true then (if hp.1 63 s.toNatClampNeg = 0 then noL hp 5 else (if inB i (lnN hp s.toNatClampNeg) = true then (hp.2 65 (40 * s.toNatClampNeg + i.toNatClampNeg), uL hp 65 (40 * s.toNatClampNeg + i.toNatClampNeg) (ctV (hp.1 63 s.toNatClampNeg) v)) else noL hp 0)) else noL hp 0
theorem q_FL {Q : QP} {p : Int64 × HP} {y : Int64} {hq : HP} (h : Q (some (vL p.1)) p.2) (e : p = (y, hq)) : Q (some (vL y)) hq := by
  subst e
  exact h
def sp_X5_write : SP := spH d_M_IIJ (fun _ hp => lnOK hp) (fun x hp => some (vL (F_write x.1 x.2.1 x.2.2 hp).1)) (fun x hp => (F_write x.1 x.2.1 x.2.2 hp).2)
def E_X5_write : EN := [(314, true, 1, sp_X5_isSheet), (79, false, 2, sp_X5_no), (55, true, 3, sp_X5_in), (317, false, 4, sp_X5_writes)]
set_option maxRecDepth 100000 in
set_option maxHeartbeats 4000000 in
theorem c_X5_write : Ctr M_X5_write sp_X5_write := by
  refine ctr_of (own := RX5) M_X5_write sp_X5_write (P := P_X5_write) (K := K_X5) (E := E_X5_write) (by decide) rfl pk_X5_write K_X5_ok (List.forall_mem_cons.mpr ⟨sc_X5_isSheet gw_1255 (by decide) (by decide), List.forall_mem_cons.mpr ⟨sc_X5_no gw_895 (by decide) (by decide), List.forall_mem_cons.mpr ⟨sc_X5_in gw_883 (by decide) (by decide), List.forall_mem_cons.mpr ⟨sc_X5_writes gw_1262 (by decide) (by decide), fun _ h => absurd h List.not_mem_nil⟩⟩⟩⟩) (fun as hp Q h => by obtain ⟨x, hx, -⟩ := spH_e h; rw [d_M_IIJ_e hx]; exact Nat.le_of_ble_eq_true rfl) ?_
  intro Q G hQi hG as hp h
  obtain ⟨x, hx, hpre, hQ⟩ := spH_e h
  rw [d_M_IIJ_e hx]
  clear h hx
  obtain ⟨s, i, v⟩ := x
  try dsimp only at hpre hQ ⊢
  refine run hG [] 60 ?_
  refine And.intro trivial ?_
  refine And.intro (fun h1 => ?_) (fun h1 => ?_)
  case refine_2 =>
    have h1 : inB s 4 = false := bB_0.mp h1
    exact And.intro (vp_in_nI (by omega) (by omega)) (q_FL hQ (if_neg (by rw [h1]; decide)))
  have h1 : inB s 4 = true := bB_1.mp h1
  have hF : F_write s i v hp = _ := if_pos h1
  have hs := inB_t.mp h1
  have hl := hpre.at (ix_lt hs)
  refine And.intro hs ?_
  refine And.intro (fun h2 => ?_) (fun h2 => ?_)
  case refine_2 =>
    have h2 : hp.1 63 s.toNatClampNeg = 0 := h2
    rw [if_pos h2] at hF
    exact And.intro (vp_in_nI (by omega) (by omega)) (q_FL hQ hF)
  have h2 : ¬ hp.1 63 s.toNatClampNeg = 0 := h2
  rw [if_neg h2] at hF
  refine And.intro hs ?_
  refine And.intro trivial ?_
  have eb : (decide (nI 0 ≤ i) && decide (i ≤ hp.1 64 s.toNatClampNeg - nI 1)) = inB i (lnN hp s.toNatClampNeg) := by
    rw [hl.2]
    exact len_b hl.1
  refine And.intro (fun h3 => ?_) (fun h3 => ?_)
  case refine_2 =>
    have h3 : (decide (nI 0 ≤ i) && decide (i ≤ hp.1 64 s.toNatClampNeg - nI 1)) = false := bB_0.mp h3
    rw [eb] at h3
    rw [if_neg (by rw [h3]; decide)] at hF
    exact And.intro (vp_in_nI (by omega) (by omega)) (q_FL hQ hF)
  have h3 : (decide (nI 0 ≤ i) && decide (i ≤ hp.1 64 s.toNatClampNeg - nI 1)) = true := bB_1.mp h3
  rw [eb] at h3
  rw [if_pos h3] at hF
  have hi := in_mono (inB_t.mp h3) hl.1
  have ei : nI 40 * s + i = nI (40 * s.toNatClampNeg + i.toNatClampNeg) := by
    have := ix_nI hs (by omega)
    have h := ix_nI hi (by omega)
    rw [← sh_ix, ← this, ← h]
  have hsx := ix_lt hs
  have hix := ix_lt hi
  refine And.intro (show vp_in (nI 40 * s + i) 160 by rw [ei]; exact vp_in_nI (by omega) (by omega)) ?_
  refine And.intro ⟨hs, hi⟩ ?_
  refine q_FL hQ ?_
  rw [hF]
  refine Prod.ext ?_ rfl
  show hp.2 65 (40 * s.toNatClampNeg + i.toNatClampNeg) = hp.2 65 (nI 40 * s + i).toNatClampNeg
  rw [ei, nI_clamp (by omega)]
theorem sc_X5_write {own : String} {F L idx : Nat} (h1 : Cond.methodLink own idx yX5_write ∈ Gw) (hF : 3 ≤ F) (hL : 68 ≤ L) : SC own F L (idx, false, 4, sp_X5_write) := SC_V spH_mono c_X5_write okd_5 (fun as hp K h => by obtain ⟨x, hx, -⟩ := spH_e h; exact ⟨_, _, d_M_IIJ_e hx⟩) h1 gw_1259 gw_1260 gw_75 gw_1261 (by decide +kernel) hF hL
/-- heights laid from a sheet -/
def lyI (c : Nat → Int64) (s k : Nat) : Bool := decide (lN 0 ≤ c (40 * s + k)) && decide (c (40 * s + k) ≤ 9)
def lyF (f : Nat → Int32) (c : Nat → Int64) (s : Nat) : Nat → Int32 × (Nat → Int32)
  | 0 => (nI 0, f)
  | k + 1 => if lyI c s k = true then ((lyF f c s k).1 + nI 1, upd (lyF f c s k).2 (19 + k) (c (40 * s + k)).toInt32) else lyF f c s k
def lyN (l : Nat) : Nat := if l ≤ 25 then l else 25
def F_lays (s : Int32) (hp : HP) : Int32 × HP := if inB s 4 = true then (if hp.1 63 s.toNatClampNeg = 0 then noP hp 5 else ((lyF (hp.1 53) (hp.2 65) s.toNatClampNeg (lyN (lnN hp s.toNatClampNeg))).1, rI hp 53 (lyF (hp.1 53) (hp.2 65) s.toNatClampNeg (lyN (lnN hp s.toNatClampNeg))).2)) else noP hp 0
def sp_X5_lays : SP := spH d_M_I (fun _ hp => lnOK hp) (fun x hp => some (vI (F_lays x hp).1)) (fun x hp => (F_lays x hp).2)
def E_X5_lays : EN := [(314, true, 1, sp_X5_isSheet), (79, false, 2, sp_X5_no)]
set_option maxRecDepth 100000 in
set_option maxHeartbeats 4000000 in
theorem c_X5_lays : Ctr M_X5_lays sp_X5_lays := by
  refine ctr_of (own := RX5) M_X5_lays sp_X5_lays (P := P_X5_lays) (K := K_X5) (E := E_X5_lays) (by decide) rfl pk_X5_lays K_X5_ok (List.forall_mem_cons.mpr ⟨sc_X5_isSheet gw_1255 (by decide) (by decide), List.forall_mem_cons.mpr ⟨sc_X5_no gw_895 (by decide) (by decide), fun _ h => absurd h List.not_mem_nil⟩⟩) (fun as hp Q h => by obtain ⟨x, hx, -⟩ := spH_e h; rw [d_M_I_e hx]; exact Nat.le_of_ble_eq_true rfl) ?_
  intro Q G hQi hG as hp h
  obtain ⟨x, hx, hpre, hQ⟩ := spH_e h
  rw [d_M_I_e hx]
  clear h hx
  refine run hG [32] 60 ?_
  refine And.intro trivial ?_
  refine And.intro (fun h1 => ?_) (fun h1 => ?_)
  case refine_2 =>
    have h1 : inB x 4 = false := bB_0.mp h1
    exact And.intro (vp_in_nI (by omega) (by omega)) (q_F hQ (if_neg (by rw [h1]; decide)))
  have h1 : inB x 4 = true := bB_1.mp h1
  have hF : F_lays x hp = _ := if_pos h1
  have hs := inB_t.mp h1
  have hl := hpre.at (ix_lt hs)
  refine And.intro hs ?_
  refine And.intro (fun h2 => ?_) (fun h2 => ?_)
  case refine_2 =>
    have h2 : hp.1 63 x.toNatClampNeg = 0 := h2
    rw [if_pos h2] at hF
    exact And.intro (vp_in_nI (by omega) (by omega)) (q_F hQ hF)
  have h2 : ¬ hp.1 63 x.toNatClampNeg = 0 := h2
  rw [if_neg h2] at hF
  obtain ⟨S, hS, rfl⟩ := vp_in_of hs (by omega)
  have eS : (nI S).toNatClampNeg = S := nI_clamp (by omega)
  rw [eS] at hF hl
  generalize hC : hp.2 65 = C at hF
  generalize lnN hp S = l at hF hl
  have hN : lyN l ≤ l ∧ lyN l ≤ 25 ∧ (lyN l = l ∨ lyN l = 25) := by unfold lyN; split <;> omega
  generalize lyN l = N at hF hN
  have e64 : ∀ g, (rI hp 53 g).1 64 (nI S).toNatClampNeg = nI l := fun g => by rw [rI_ne _ _ (by omega), eS, hl.2]
  have key := for_up (P := fun k => G 32 [(3, vI (nI k)), (2, vI (lyF (hp.1 53) C S k).1), (0, vR 5 52), (1, vI (nI S))] [] (rI hp 53 (lyF (hp.1 53) C S k).2)) N (by
    refine run hG [32] 60 ?_
    refine And.intro hs ?_
    refine And.intro (fun h3 => q_F hQ hF) (fun h3 => ?_)
    have h3 : ¬ (rI hp 53 (lyF (hp.1 53) C S N).2).1 64 (nI S).toNatClampNeg ≤ nI N := h3
    rw [e64] at h3
    refine And.intro (fun h4 => q_F hQ hF) (fun h4 => ?_)
    rcases hN.2.2 with h5 | h5
    · exact absurd (nI_le (by omega) (by omega)) h3
    · exact absurd (nI_le (by omega) (by omega)) h4) (by
    intro k hk ih
    have eF : lyF (hp.1 53) C S (k + 1) = if lyI C S k = true then ((lyF (hp.1 53) C S k).1 + nI 1, upd (lyF (hp.1 53) C S k).2 (19 + k) (C (40 * S + k)).toInt32) else lyF (hp.1 53) C S k := rfl
    rw [eF] at ih
    generalize lyF (hp.1 53) C S k = p at ih
    have e40 : nI 40 * nI S + nI k = nI (40 * S + k) := sh_ix
    have eC : (rI hp 53 p.2).2 65 (nI 40 * nI S + nI k).toNatClampNeg = C (40 * S + k) := by rw [e40, nI_clamp (by omega), ← hC]; rfl
    have e19 : nI 19 + nI k = nI (19 + k) := nI_add _ _
    have skip : lyI C S k = false → G 32 [(3, vI (nI k + nI 1)), (2, vI p.1), (0, vR 5 52), (1, vI (nI S))] [] (rI hp 53 p.2) := fun h => by
      rw [h, if_neg (by decide)] at ih
      rw [nI_s]
      exact ih
    refine run hG [32] 60 ?_
    refine And.intro hs ?_
    refine And.intro (fun h3 => ?_) (fun h3 => ?_)
    · have h3 : (rI hp 53 p.2).1 64 (nI S).toNatClampNeg ≤ nI k := h3
      rw [e64] at h3
      exact absurd h3 (nI_ge (by omega) (by omega))
    refine And.intro (fun h4 => absurd h4 (nI_ge (by omega) (by omega))) (fun h4 => ?_)
    refine And.intro (show vp_in (nI 40 * nI S + nI k) 160 by rw [e40]; exact vp_in_nI (by omega) (by omega)) ?_
    refine And.intro (fun h5 => ?_) (fun h5 => ?_)
    · have h5 : lg_cmp ((rI hp 53 p.2).2 65 (nI 40 * nI S + nI k).toNatClampNeg) (lN 0) < 0 := h5
      rw [lg_cmp_lt, eC] at h5
      refine cl_use hG (skip ?_) ⟨rfl, rfl, rfl, rfl, trivial⟩
      unfold lyI
      rw [decide_eq_false (fun h => Int64.not_lt.mpr h h5)]
      rfl
    · have h5 : ¬ lg_cmp ((rI hp 53 p.2).2 65 (nI 40 * nI S + nI k).toNatClampNeg) (lN 0) < 0 := h5
      rw [lg_cmp_lt, eC] at h5
      refine And.intro (fun h6 => ?_) (fun h6 => ?_)
      · have h6 : 0 < lg_cmp ((rI hp 53 p.2).2 65 (nI 40 * nI S + nI k).toNatClampNeg) 9 := h6
        rw [lg_cmp_gt, eC] at h6
        refine cl_use hG (skip ?_) ⟨rfl, rfl, rfl, rfl, trivial⟩
        unfold lyI
        rw [decide_eq_false (p := C (40 * S + k) ≤ 9) (fun h => Int64.not_lt.mpr h h6), Bool.and_false]
      · have h6 : ¬ 0 < lg_cmp ((rI hp 53 p.2).2 65 (nI 40 * nI S + nI k).toNatClampNeg) 9 := h6
        rw [lg_cmp_gt, eC] at h6
        refine And.intro (show vp_in (nI 19 + nI k) 184 by rw [e19]; exact vp_in_nI (by omega) (by omega)) ?_
        rw [if_pos (show lyI C S k = true by unfold lyI; rw [decide_eq_true (Int64.not_lt.mp h5), decide_eq_true (Int64.not_lt.mp h6)]; rfl)] at ih
        refine cl_lv hG [(3, vI (nI k + nI 1)), (2, vI (p.1 + nI 1)), (0, vR 5 52), (1, vI (nI S))] ⟨rfl, rfl, rfl, rfl, trivial⟩ ?_
        rw [nI_s]
        show G 32 _ [] (uI (rI hp 53 p.2) 53 (nI 19 + nI k).toNatClampNeg ((rI hp 53 p.2).2 65 (nI 40 * nI S + nI k).toNatClampNeg).toInt32)
        rw [eC, e19, nI_clamp (by omega), uI_rI]
        exact ih) 0 (by omega)
  have k7 : G 32 [(3, vI (nI 0)), (2, vI (nI 0)), (0, vR 5 52), (1, vI (nI S))] [] (rI hp 53 (hp.1 53)) := key
  rw [rI_self] at k7
  exact cl_use hG k7 ⟨rfl, rfl, rfl, rfl, trivial⟩
theorem sc_X5_lays {own : String} {F L idx : Nat} (h1 : Cond.methodLink own idx yX5_lays ∈ Gw) (hF : 3 ≤ F) (hL : 67 ≤ L) : SC own F L (idx, false, 2, sp_X5_lays) := SC_V spH_mono c_X5_lays okd_5 (fun as hp K h => by obtain ⟨x, hx, -⟩ := spH_e h; exact ⟨_, _, d_M_I_e hx⟩) h1 gw_1271 gw_1272 gw_75 gw_1273 (by decide +kernel) hF hL
