def dbM (a b : Nat) : Nat := if bsd (if b < a then b else a) 1 = (if a < b then b else a) then 2 * (if b < a then b else a) else if bsd (if b < a then b else a) 2 = (if a < b then b else a) then 2 * (if b < a then b else a) + 1 else 99
def dbN (a b : Int32) : Nat := if inB a 25 = true ∧ inB b 25 = true then dbM a.toNatClampNeg b.toNatClampNeg else 99
theorem dbM_ok : ∀ a, a < 25 → ∀ b, b < 25 → (dbM a b = 99 ∧ wyt a b = 4) ∨ (dbM a b < 50 ∧ wyt a b < 4 ∧ drI (dbM a b) = dr a (wyt a b)) := by decide +kernel
theorem dbN_ok (a b : Int32) : (dbN a b = 99 ∧ doN a b = 999) ∨ (dbN a b < 50 ∧ doN a b ≠ 999 ∧ drI (dbN a b) = doN a b) := by
  unfold dbN doN
  by_cases h : inB a 25 = true ∧ inB b 25 = true
  · rw [if_pos h]
    have ha := ix_lt (inB_t.mp h.1)
    have hb := ix_lt (inB_t.mp h.2)
    have hd := dr_lt (q := a.toNatClampNeg) (w := wyt a.toNatClampNeg b.toNatClampNeg) ha
    rcases dbM_ok _ ha _ hb with ⟨h1, h2⟩ | ⟨h1, h2, h3⟩
    · exact Or.inl ⟨h1, if_neg (fun h => by omega)⟩
    · rw [if_pos ⟨h.1, h.2, h2⟩]
      exact Or.inr ⟨h1, by omega, h3⟩
  · rw [if_neg h, if_neg (fun h2 => h ⟨h2.1, h2.2.1⟩)]
    exact Or.inl ⟨rfl, rfl⟩
def sp_X3_doorBetween : SP := spP d_S_II (fun _ _ => True) (fun x _ => vI (if dbN x.1 x.2 = 99 then -1 else nI (dbN x.1 x.2)))
theorem sb_eq : ∀ q, q < 25 → ∀ w, w < 4 → ∀ t, t < 25 → (sbV q w = nI t ↔ bsd q w = t) := by decide +kernel
def E_X3_doorBetween : EN := [(73, true, 1, sp_X4_isSquare), (77, true, 2, sp_min), (83, true, 2, sp_max), (86, true, 2, sp_X3_squareBeside)]
set_option maxRecDepth 100000 in
set_option maxHeartbeats 4000000 in
theorem c_X3_doorBetween : Ctr M_X3_doorBetween sp_X3_doorBetween := by
  refine ctr_of (own := RX3) M_X3_doorBetween sp_X3_doorBetween (P := P_X3_doorBetween) (K := K_X3) (E := E_X3_doorBetween) (by decide) rfl pk_X3_doorBetween K_X3_ok (List.forall_mem_cons.mpr ⟨sn_X4_isSquare (by decide) (by decide), List.forall_mem_cons.mpr ⟨SC_min (gw_at 288 (by decide +kernel) rfl) (gw_at 289 (by decide +kernel) rfl) (gw_at 76 (by decide +kernel) rfl) (gw_at 290 (by decide +kernel) rfl) (by decide) (by decide), List.forall_mem_cons.mpr ⟨SC_max (gw_at 291 (by decide +kernel) rfl) (gw_at 292 (by decide +kernel) rfl) (gw_at 76 (by decide +kernel) rfl) (gw_at 293 (by decide +kernel) rfl) (by decide) (by decide), List.forall_mem_cons.mpr ⟨sc_X3_squareBeside gw_294 (by decide) (by decide), fun _ h => absurd h List.not_mem_nil⟩⟩⟩⟩) (fun as hp Q h => by obtain ⟨x, hx, -⟩ := spP_e h; rw [d_S_II_e hx]; exact Nat.le_of_ble_eq_true rfl) ?_
  intro Q G hQi hG as hp h
  obtain ⟨x, hx, hpre, hQ⟩ := spP_e h
  rw [d_S_II_e hx]
  clear h hx
  obtain ⟨a, b⟩ := x
  try dsimp only at hpre hQ ⊢
  have no : ¬ (inB a 25 = true ∧ inB b 25 = true) → Q (some (vI (-1))) hp := fun h => by
    have e : dbN a b = 99 := if_neg h
    rw [if_pos e] at hQ
    exact hQ
  refine run hG [28] 60 ?_
  refine And.intro trivial ?_
  refine And.intro (fun h1 => no (fun h => by rw [bB_0.mp h1] at h; exact absurd h.1 (by decide))) (fun h1 => ?_)
  have h1 : inB a 25 = true := bB_1.mp h1
  refine And.intro trivial ?_
  refine And.intro (fun h2 => ?_) (fun h2 => no (fun h => by rw [bB_0.mp h2] at h; exact absurd h.2 (by decide)))
  have h2 : inB b 25 = true := bB_1.mp h2
  have eN : dbN a b = dbM a.toNatClampNeg b.toNatClampNeg := if_pos ⟨h1, h2⟩
  rw [eN] at hQ
  obtain ⟨A, hA, rfl⟩ := vp_in_of (inB_t.mp h1) (by omega)
  obtain ⟨B, hB, rfl⟩ := vp_in_of (inB_t.mp h2) (by omega)
  rw [nI_clamp (by omega), nI_clamp (by omega)] at hQ
  unfold dbM at hQ
  have elo : (if nI B < nI A then nI B else nI A) = nI (if B < A then B else A) := by
    by_cases h : B < A
    · rw [if_pos h, if_pos ((nI_ltI (by omega) (by omega)).mpr h)]
    · rw [if_neg h, if_neg (fun h3 => h ((nI_ltI (by omega) (by omega)).mp h3))]
  have ehi : (if nI A < nI B then nI B else nI A) = nI (if A < B then B else A) := by
    by_cases h : A < B
    · rw [if_pos h, if_pos ((nI_ltI (by omega) (by omega)).mpr h)]
    · rw [if_neg h, if_neg (fun h3 => h ((nI_ltI (by omega) (by omega)).mp h3))]
  have hlo : (if B < A then B else A) < 25 := by split <;> omega
  have hhi : (if A < B then B else A) < 25 := by split <;> omega
  generalize (if B < A then B else A) = L at hQ elo hlo
  generalize (if A < B then B else A) = U at hQ ehi hhi
  refine cl_lv hG [(3, vI (if nI A < nI B then nI B else nI A)), (2, vI (if nI B < nI A then nI B else nI A))] ⟨rfl, rfl, trivial⟩ ?_
  rw [elo, ehi]
  have eL : (nI L).toNatClampNeg = L := nI_clamp (by omega)
  refine run hG [] 60 ?_
  refine And.intro ⟨vp_in_nI hlo (by omega), vp_in_nI (by omega) (by omega)⟩ ?_
  refine And.intro (fun h3 => ?_) (fun h3 => ?_)
  · have h3 : ¬ sbV (nI L).toNatClampNeg 1 = nI U := h3
    rw [eL, sb_eq L hlo 1 (by omega) U hhi] at h3
    rw [if_neg h3] at hQ
    refine And.intro ⟨vp_in_nI hlo (by omega), vp_in_nI (by omega) (by omega)⟩ ?_
    refine And.intro (fun h4 => ?_) (fun h4 => ?_)
    · have h4 : ¬ sbV (nI L).toNatClampNeg 2 = nI U := h4
      rw [eL, sb_eq L hlo 2 (by omega) U hhi] at h4
      rw [if_neg h4, if_pos rfl] at hQ
      exact hQ
    · have h4 : sbV (nI L).toNatClampNeg 2 = nI U := h4
      rw [eL, sb_eq L hlo 2 (by omega) U hhi] at h4
      rw [if_pos h4, if_neg (by omega)] at hQ
      exact q_i hQ (by rw [pk_mul, nI_s])
  · have h3 : sbV (nI L).toNatClampNeg 1 = nI U := h3
    rw [eL, sb_eq L hlo 1 (by omega) U hhi] at h3
    rw [if_pos h3, if_neg (by omega)] at hQ
    exact q_i hQ (pk_mul _ _)
theorem sc_X3_doorBetween {own : String} {F L idx : Nat} (h1 : Cond.methodLink own idx yX3_doorBetween ∈ Gw) (hF : 3 ≤ F) (hL : 65 ≤ L) : SC own F L (idx, true, 2, sp_X3_doorBetween) := SC_S spP_mono c_X3_doorBetween h1 gw_280 gw_70 gw_281 (by decide +kernel) hF hL
def sp_X4_tell : SP := spH d_C_I (fun x _ => ∃ k, k < 7 ∧ x = -1000000001 - nI k) (fun x _ => some (vI x)) (fun x hp => uI (uI hp 51 (-1000000001 - x).toNatClampNeg (hp.1 51 (-1000000001 - x).toNatClampNeg + nI 1)) 0 10 (hp.1 0 10 + nI 1))
theorem tell_k : ∀ k, k < 7 → (-1000000001 : Int32) - (-1000000001 - nI k) = nI k := by decide +kernel
def E_X4_tell : EN := [(78, true, 3, sp_X4_isWithin)]
set_option maxRecDepth 100000 in
set_option maxHeartbeats 4000000 in
theorem c_X4_tell : Ctr M_X4_tell sp_X4_tell := by
  refine ctr_of (own := RX4) M_X4_tell sp_X4_tell (P := P_X4_tell) (K := K_X4) (E := E_X4_tell) (by decide) rfl pk_X4_tell K_X4_ok (List.forall_mem_cons.mpr ⟨sc_X4_isWithin gw_285 (by decide) (by decide), fun _ h => absurd h List.not_mem_nil⟩) (fun as hp Q h => by obtain ⟨x, hx, -⟩ := spH_e h; rw [d_C_I_e hx]; exact Nat.le_of_ble_eq_true rfl) ?_
  intro Q G hQi hG as hp h
  obtain ⟨x, hx, hpre, hQ⟩ := spH_e h
  rw [d_C_I_e hx]
  clear h hx
  obtain ⟨k, hk, hx⟩ := hpre
  have hx : x = -1000000001 - nI k := hx
  have e : (-1000000001 : Int32) - x = nI k := by rw [hx]; exact tell_k k hk
  refine run hG [] 60 ?_
  refine And.intro trivial ?_
  refine And.intro (fun h1 => ?_) (fun h1 => ?_)
  · have h1 : (decide (nI 0 ≤ (-1000000001 : Int32) - x) && decide ((-1000000001 : Int32) - x ≤ nI 6)) = false := bB_0.mp h1
    rw [e, in_b (by omega)] at h1
    rw [inB_t.mpr (vp_in_nI hk (by omega))] at h1
    cases h1
  · refine And.intro (show vp_in ((-1000000001 : Int32) - x) 7 by rw [e]; exact vp_in_nI hk (by omega)) ?_
    refine And.intro (show vp_in ((-1000000001 : Int32) - x) 7 by rw [e]; exact vp_in_nI hk (by omega)) ?_
    refine q_ih hQ rfl ?_
    show uI (uI hp 51 ((-1000000001 : Int32) - x).toNatClampNeg (hp.1 51 ((-1000000001 : Int32) - x).toNatClampNeg + nI 1)) 0 10 ((uI hp 51 ((-1000000001 : Int32) - x).toNatClampNeg (hp.1 51 ((-1000000001 : Int32) - x).toNatClampNeg + nI 1)).1 0 10 + nI 1) = _
    rw [uI_row _ _ _ (by omega)]
theorem sc_X4_tell {own : String} {F L idx : Nat} (h1 : Cond.methodLink own idx yX4_tell ∈ Gw) (hF : 2 ≤ F) (hL : 44 ≤ L) : SC own F L (idx, false, 2, sp_X4_tell) := SC_V spH_mono c_X4_tell okd_0 (fun as hp K h => by obtain ⟨x, hx, -⟩ := spH_e h; exact ⟨_, _, d_C_I_e hx⟩) h1 gw_300 gw_0 gw_69 gw_301 (by decide +kernel) hF hL
