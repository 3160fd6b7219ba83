/-! sheets -/
def filA (g o : Nat → Int64) (a k : Nat) : Nat → Int64 := fun j => if a ≤ j ∧ j < a + k then g j else o j
theorem filA_0 (g o : Nat → Int64) (a : Nat) : filA g o a 0 = o := by funext j; exact if_neg (by omega)
theorem filA_s (g o : Nat → Int64) (a k : Nat) : vp_updL (filA g o a k) (a + k) (g (a + k)) = filA g o a (k + 1) := by
  funext j
  rw [upL_at]
  unfold filA
  by_cases h2 : j = a + k
  · subst h2
    rw [if_pos rfl, if_pos (by omega)]
  · rw [if_neg h2]
    by_cases h3 : a ≤ j ∧ j < a + k
    · rw [if_pos h3, if_pos (by omega)]
    · rw [if_neg h3, if_neg (by omega)]
theorem sh_ix {s i : Nat} : nI 40 * nI s + nI i = nI (40 * s + i) := by rw [pk_mul, nI_add]
def btB (b : Int32) : Bool := decide (b = 0 ∨ b = nI 8 ∨ b = nI 16 ∨ b = nI 64)
def shH (s : Nat) (b n : Int32) (hp : HP) : HP := rL (rI (rI hp 63 (upd (hp.1 63) s b)) 64 (upd (hp.1 64) s (if b = 0 then nI 0 else n))) 65 (filA (fun _ => lN 0) (hp.2 65) (40 * s) 40)
def F_sheet (s b n : Int32) (hp : HP) : Int32 × HP := if inB s 4 = true ∧ btB b = true then (if 0 ≤ n then (if n ≤ nI 40 then (if b = 0 then nI 0 else n, shH s.toNatClampNeg b n hp) else noP hp 0) else noP hp 6) else noP hp 0
def sp_X5_sheet : SP := spH d_M_III (fun _ _ => True) (fun x hp => some (vI (F_sheet x.1 x.2.1 x.2.2 hp).1)) (fun x hp => (F_sheet x.1 x.2.1 x.2.2 hp).2)
def E_X5_sheet : EN := [(314, true, 1, sp_X5_isSheet), (79, false, 2, sp_X5_no)]
set_option maxRecDepth 100000 in
set_option maxHeartbeats 4000000 in
theorem c_X5_sheet : Ctr M_X5_sheet sp_X5_sheet := by
  refine ctr_of (own := RX5) M_X5_sheet sp_X5_sheet (P := P_X5_sheet) (K := K_X5) (E := E_X5_sheet) (by decide) rfl pk_X5_sheet K_X5_ok (List.forall_mem_cons.mpr ⟨sc_X5_isSheet gw_1255 (by decide) (by decide), List.forall_mem_cons.mpr ⟨sc_X5_no gw_895 (by decide) (by decide), fun _ h => absurd h List.not_mem_nil⟩⟩) (fun as hp Q h => by obtain ⟨x, hx, -⟩ := spH_e h; rw [d_M_III_e hx]; exact Nat.le_of_ble_eq_true rfl) ?_
  intro Q G hQi hG as hp h
  obtain ⟨x, hx, hpre, hQ⟩ := spH_e h
  rw [d_M_III_e hx]
  clear h hx
  obtain ⟨s, b, n⟩ := x
  try dsimp only at hpre hQ ⊢
  have no : ¬ (inB s 4 = true ∧ btB b = true) → Q (some (vI (noP hp 0).1)) (noP hp 0).2 := fun h => q_F hQ (if_neg h)
  refine run hG [35] 60 ?_
  refine And.intro trivial ?_
  refine And.intro (fun h1 => ?_) (fun h1 => ?_)
  case refine_1 =>
    have h1 : inB s 4 = false := bB_0.mp h1
    exact And.intro (vp_in_nI (by omega) (by omega)) (no (fun h => by rw [h1] at h; exact absurd h.1 (by decide)))
  have h1 : inB s 4 = true := bB_1.mp h1
  have hs := inB_t.mp h1
  obtain ⟨S, hS, rfl⟩ := vp_in_of hs (by omega)
  have on : btB b = true → G 35 [(0, vR 5 52), (1, vI (nI S)), (2, vI b), (3, vI n)] [] hp := by
    intro hb
    have hF : F_sheet (nI S) b n hp = _ := if_pos ⟨h1, hb⟩
    refine run hG [35, 83] 60 ?_
    refine And.intro (fun h2 => ?_) (fun h2 => ?_)
    case refine_2 =>
      rw [if_neg h2] at hF
      exact And.intro (vp_in_nI (by omega) (by omega)) (q_F hQ hF)
    rw [if_pos h2] at hF
    refine And.intro (fun h3 => ?_) (fun h3 => ?_)
    case refine_2 =>
      rw [if_neg h3] at hF
      exact And.intro (vp_in_nI (by omega) (by omega)) (q_F hQ hF)
    rw [if_pos h3] at hF
    refine And.intro hs ?_
    have zer : ∀ v, v = (if b = 0 then nI 0 else n) → G 83 [(4, vI (nI 0)), (0, vR 5 52), (1, vI (nI S)), (2, vI b), (3, vI n)] [] (uI (uI hp 63 (nI S).toNatClampNeg b) 64 (nI S).toNatClampNeg v) := by
      intro v hv
      rw [nI_clamp (by omega)] at hF
      unfold shH at hF
      rw [← hv] at hF
      have eH : uI (uI hp 63 (nI S).toNatClampNeg b) 64 (nI S).toNatClampNeg v = rI (rI hp 63 (upd (hp.1 63) S b)) 64 (upd (hp.1 64) S v) := by
        rw [nI_clamp (by omega), uI_r, uI_r, rI_ne _ _ (by omega)]
      rw [eH]
      generalize hH : rI (rI hp 63 (upd (hp.1 63) S b)) 64 (upd (hp.1 64) S v) = H at hF
      have e64 : H.1 64 S = v := by rw [← hH, rI_eq, upd_at, if_pos rfl]
      have e65 : H.2 65 = hp.2 65 := by rw [← hH]; rfl
      have key := for_up (P := fun k => G 83 [(4, vI (nI k)), (0, vR 5 52), (1, vI (nI S)), (2, vI b), (3, vI n)] [] (rL H 65 (filA (fun _ => lN 0) (hp.2 65) (40 * S) k))) 40 (by
        refine run hG [83] 60 ?_
        refine And.intro (fun h4 => ?_) (fun h4 => absurd (nI_le (Nat.le_refl _) (by omega)) h4)
        refine And.intro hs ?_
        refine q_F hQ ?_
        rw [hF]
        refine Prod.ext ?_ rfl
        show v = H.1 64 (nI S).toNatClampNeg
        rw [nI_clamp (by omega), e64]) (by
        intro k hk ih
        rw [← filA_s] at ih
        refine run hG [83] 60 ?_
        refine And.intro (fun h4 => absurd h4 (nI_ge hk (by omega))) (fun h4 => ?_)
        refine And.intro (show vp_in (nI 40 * nI S + nI k) 160 by rw [sh_ix]; exact vp_in_nI (by omega) (by omega)) ?_
        refine cl_lv hG [(4, vI (nI k + nI 1)), (0, vR 5 52), (1, vI (nI S)), (2, vI b), (3, vI n)] ⟨rfl, rfl, rfl, rfl, rfl, trivial⟩ ?_
        rw [nI_s]
        show G 83 _ [] (uL (rL H 65 (filA (fun _ => lN 0) (hp.2 65) (40 * S) k)) 65 (nI 40 * nI S + nI k).toNatClampNeg (lN 0))
        rw [sh_ix, nI_clamp (by omega), uL_rL]
        exact ih) 0 (by omega)
      rw [filA_0, rL_id e65] at key
      exact key
    refine And.intro (fun h4 => ?_) (fun h4 => ?_)
    · refine And.intro hs ?_
      exact cl_use hG (zer _ (if_neg h4).symm) ⟨rfl, rfl, rfl, rfl, rfl, trivial⟩
    · refine And.intro hs ?_
      exact cl_use hG (zer _ (if_pos h4).symm) ⟨rfl, rfl, rfl, rfl, rfl, trivial⟩
  have on2 : (b = 0 ∨ b = nI 8 ∨ b = nI 16 ∨ b = nI 64) → G 35 (lva 0 [vR 5 52, vI (nI S), vI b, vI n]) [] hp := fun h => on (decide_eq_true h)
  refine And.intro (fun h2 => on2 (Or.inl h2)) (fun h2 => ?_)
  refine And.intro (fun h3 => on2 (Or.inr (Or.inl h3))) (fun h3 => ?_)
  refine And.intro (fun h4 => on2 (Or.inr (Or.inr (Or.inl h4)))) (fun h4 => ?_)
  refine And.intro (fun h5 => on2 (Or.inr (Or.inr (Or.inr h5)))) (fun h5 => ?_)
  refine And.intro (vp_in_nI (by omega) (by omega)) (no (fun h => ?_))
  exact (of_decide_eq_true h.2).elim h2 (fun h => h.elim h3 (fun h => h.elim h4 h5))
theorem sc_X5_sheet {own : String} {F L idx : Nat} (h1 : Cond.methodLink own idx yX5_sheet ∈ Gw) (hF : 3 ≤ F) (hL : 66 ≤ L) : SC own F L (idx, false, 4, sp_X5_sheet) := SC_V spH_mono c_X5_sheet okd_5 (fun as hp K h => by obtain ⟨x, hx, -⟩ := spH_e h; exact ⟨_, _, d_M_III_e hx⟩) h1 gw_1252 gw_1253 gw_75 gw_1254 (by decide +kernel) hF hL
