def sp_X5_in : SP := spP d_S_III (fun _ _ => True) (fun x _ => vI (bB (decide (x.2.1 ≤ x.1) && decide (x.1 ≤ x.2.2))))
def E_X5_in : EN := []
set_option maxRecDepth 100000 in
set_option maxHeartbeats 4000000 in
theorem c_X5_in : Ctr M_X5_in sp_X5_in := by
  refine ctr_of (own := RX5) M_X5_in sp_X5_in (P := P_X5_in) (K := K_X5) (E := E_X5_in) (by decide) rfl pk_X5_in K_X5_ok (fun _ h => absurd h List.not_mem_nil) (fun as hp Q h => by obtain ⟨x, hx, -⟩ := spP_e h; rw [d_S_III_e hx]; exact Nat.le_of_ble_eq_true rfl) ?_
  intro Q G hQi hG as hp h
  obtain ⟨x, hx, hpre, hQ⟩ := spP_e h
  rw [d_S_III_e hx]
  clear h hx
  obtain ⟨v, a, b⟩ := x
  try dsimp only at hpre hQ ⊢
  refine run hG [] 20 ?_
  refine And.intro (fun h1 => ?_) (fun h1 => ?_)
  · refine q_b hQ ?_
    have : ¬ a ≤ v := Int32.not_le.mpr h1
    simp [this, bB, nI]
  · refine And.intro (fun h2 => ?_) (fun h2 => ?_)
    · refine q_b hQ ?_
      have : ¬ v ≤ b := Int32.not_le.mpr h2
      simp [this, bB, nI]
    · refine q_b hQ ?_
      have h1 : a ≤ v := Int32.not_lt.mp h1
      have h2 : v ≤ b := Int32.not_lt.mp h2
      simp [h1, h2, bB, nI]
theorem sc_X5_in {own : String} {F L idx : Nat} (h1 : Cond.methodLink own idx yX5_in ∈ Gw) (hF : 1 ≤ F) (hL : 22 ≤ L) : SC own F L (idx, true, 3, sp_X5_in) := SC_S spP_mono c_X5_in h1 gw_884 gw_75 gw_885 (by decide +kernel) hF hL
def sp_X5_no : SP := spH d_M_I (fun x _ => vp_in x 7) (fun x _ => some (vI (-1000000001 - x))) (fun x hp => uI hp 57 x.toNatClampNeg (hp.1 57 x.toNatClampNeg + nI 1))
def E_X5_no : EN := []
set_option maxRecDepth 100000 in
set_option maxHeartbeats 4000000 in
theorem c_X5_no : Ctr M_X5_no sp_X5_no := by
  refine ctr_of (own := RX5) M_X5_no sp_X5_no (P := P_X5_no) (K := K_X5) (E := E_X5_no) (by decide) rfl pk_X5_no K_X5_ok (fun _ h => absurd h List.not_mem_nil) (fun as hp Q h => by obtain ⟨x, hx, -⟩ := spH_e h; rw [d_M_I_e hx]; exact Nat.le_of_ble_eq_true rfl) ?_
  intro Q G hQi hG as hp h
  obtain ⟨x, hx, hpre, hQ⟩ := spH_e h
  rw [d_M_I_e hx]
  clear h hx
  refine run hG [] 20 ?_
  refine And.intro hpre ?_
  refine And.intro hpre ?_
  exact hQ
theorem sc_X5_no {own : String} {F L idx : Nat} (h1 : Cond.methodLink own idx yX5_no ∈ Gw) (hF : 1 ≤ F) (hL : 21 ≤ L) : SC own F L (idx, false, 2, sp_X5_no) := SC_V spH_mono c_X5_no okd_5 (fun as hp K h => by obtain ⟨x, hx, -⟩ := spH_e h; exact ⟨_, _, d_M_I_e hx⟩) h1 gw_897 gw_22 gw_75 gw_898 (by decide +kernel) hF hL
def sp_X5_isSquare : SP := spP d_S_I (fun _ _ => True) (fun x _ => vI (bB (inB x 25)))
def E_X5_isSquare : EN := [(55, true, 3, sp_X5_in)]
set_option maxRecDepth 100000 in
set_option maxHeartbeats 4000000 in
theorem c_X5_isSquare : Ctr M_X5_isSquare sp_X5_isSquare := by
  refine ctr_of (own := RX5) M_X5_isSquare sp_X5_isSquare (P := P_X5_isSquare) (K := K_X5) (E := E_X5_isSquare) (by decide) rfl pk_X5_isSquare K_X5_ok (List.forall_mem_cons.mpr ⟨sc_X5_in gw_883 (by decide) (by decide), fun _ h => absurd h List.not_mem_nil⟩) (fun as hp Q h => by obtain ⟨x, hx, -⟩ := spP_e h; rw [d_S_I_e hx]; exact Nat.le_of_ble_eq_true rfl) ?_
  intro Q G hQi hG as hp h
  obtain ⟨x, hx, hpre, hQ⟩ := spP_e h
  rw [d_S_I_e hx]
  clear h hx
  refine run hG [] 20 ?_
  refine And.intro trivial ?_
  exact q_b hQ (congrArg bB (in_b (n := 24) (by omega)))
theorem sc_X5_isSquare {own : String} {F L idx : Nat} (h1 : Cond.methodLink own idx yX5_isSquare ∈ Gw) (hF : 2 ≤ F) (hL : 42 ≤ L) : SC own F L (idx, true, 1, sp_X5_isSquare) := SC_S spP_mono c_X5_isSquare h1 gw_881 gw_75 gw_882 (by decide +kernel) hF hL
def sp_X5_isWay : SP := spP d_S_I (fun _ _ => True) (fun x _ => vI (bB (inB x 4)))
def E_X5_isWay : EN := [(55, true, 3, sp_X5_in)]
set_option maxRecDepth 100000 in
set_option maxHeartbeats 4000000 in
theorem c_X5_isWay : Ctr M_X5_isWay sp_X5_isWay := by
  refine ctr_of (own := RX5) M_X5_isWay sp_X5_isWay (P := P_X5_isWay) (K := K_X5) (E := E_X5_isWay) (by decide) rfl pk_X5_isWay K_X5_ok (List.forall_mem_cons.mpr ⟨sc_X5_in gw_883 (by decide) (by decide), fun _ h => absurd h List.not_mem_nil⟩) (fun as hp Q h => by obtain ⟨x, hx, -⟩ := spP_e h; rw [d_S_I_e hx]; exact Nat.le_of_ble_eq_true rfl) ?_
  intro Q G hQi hG as hp h
  obtain ⟨x, hx, hpre, hQ⟩ := spP_e h
  rw [d_S_I_e hx]
  clear h hx
  refine run hG [] 20 ?_
  refine And.intro trivial ?_
  exact q_b hQ (congrArg bB (in_b (n := 3) (by omega)))
theorem sc_X5_isWay {own : String} {F L idx : Nat} (h1 : Cond.methodLink own idx yX5_isWay ∈ Gw) (hF : 2 ≤ F) (hL : 42 ≤ L) : SC own F L (idx, true, 1, sp_X5_isWay) := SC_S spP_mono c_X5_isWay h1 gw_948 gw_75 gw_949 (by decide +kernel) hF hL
def sp_X5_isKind : SP := spP d_S_I (fun _ _ => True) (fun x _ => vI (bB (inB x 6)))
def E_X5_isKind : EN := [(55, true, 3, sp_X5_in)]
set_option maxRecDepth 100000 in
set_option maxHeartbeats 4000000 in
theorem c_X5_isKind : Ctr M_X5_isKind sp_X5_isKind := by
  refine ctr_of (own := RX5) M_X5_isKind sp_X5_isKind (P := P_X5_isKind) (K := K_X5) (E := E_X5_isKind) (by decide) rfl pk_X5_isKind K_X5_ok (List.forall_mem_cons.mpr ⟨sc_X5_in gw_883 (by decide) (by decide), fun _ h => absurd h List.not_mem_nil⟩) (fun as hp Q h => by obtain ⟨x, hx, -⟩ := spP_e h; rw [d_S_I_e hx]; exact Nat.le_of_ble_eq_true rfl) ?_
  intro Q G hQi hG as hp h
  obtain ⟨x, hx, hpre, hQ⟩ := spP_e h
  rw [d_S_I_e hx]
  clear h hx
  refine run hG [] 20 ?_
  refine And.intro trivial ?_
  exact q_b hQ (congrArg bB (in_b (n := 5) (by omega)))
theorem sc_X5_isKind {own : String} {F L idx : Nat} (h1 : Cond.methodLink own idx yX5_isKind ∈ Gw) (hF : 2 ≤ F) (hL : 42 ≤ L) : SC own F L (idx, true, 1, sp_X5_isKind) := SC_S spP_mono c_X5_isKind h1 gw_945 gw_75 gw_946 (by decide +kernel) hF hL
def sp_X5_isSheet : SP := spP d_S_I (fun _ _ => True) (fun x _ => vI (bB (inB x 4)))
def E_X5_isSheet : EN := [(55, true, 3, sp_X5_in)]
set_option maxRecDepth 100000 in
set_option maxHeartbeats 4000000 in
theorem c_X5_isSheet : Ctr M_X5_isSheet sp_X5_isSheet := by
  refine ctr_of (own := RX5) M_X5_isSheet sp_X5_isSheet (P := P_X5_isSheet) (K := K_X5) (E := E_X5_isSheet) (by decide) rfl pk_X5_isSheet K_X5_ok (List.forall_mem_cons.mpr ⟨sc_X5_in gw_883 (by decide) (by decide), fun _ h => absurd h List.not_mem_nil⟩) (fun as hp Q h => by obtain ⟨x, hx, -⟩ := spP_e h; rw [d_S_I_e hx]; exact Nat.le_of_ble_eq_true rfl) ?_
  intro Q G hQi hG as hp h
  obtain ⟨x, hx, hpre, hQ⟩ := spP_e h
  rw [d_S_I_e hx]
  clear h hx
  refine run hG [] 20 ?_
  refine And.intro trivial ?_
  exact q_b hQ (congrArg bB (in_b (n := 3) (by omega)))
theorem sc_X5_isSheet {own : String} {F L idx : Nat} (h1 : Cond.methodLink own idx yX5_isSheet ∈ Gw) (hF : 2 ≤ F) (hL : 42 ≤ L) : SC own F L (idx, true, 1, sp_X5_isSheet) := SC_S spP_mono c_X5_isSheet h1 gw_1256 gw_75 gw_1257 (by decide +kernel) hF hL
def sp_X5_has : SP := spP d_M_II (fun x _ => vp_in x.1 8 ∧ vp_in x.2 5) (fun x hp => vI (hp.1 53 (144 + 5 * x.1.toNatClampNeg + x.2.toNatClampNeg)))
theorem has_ix {w k : Nat} (hw : w < 8) (hk : k < 5) : nI 144 + nI 5 * nI w + nI k = nI (144 + 5 * w + k) := by rw [pk_mul, nI_add, nI_add]
def E_X5_has : EN := []
set_option maxRecDepth 100000 in
set_option maxHeartbeats 4000000 in
theorem c_X5_has : Ctr M_X5_has sp_X5_has := by
  refine ctr_of (own := RX5) M_X5_has sp_X5_has (P := P_X5_has) (K := K_X5) (E := E_X5_has) (by decide) rfl pk_X5_has K_X5_ok (fun _ h => absurd h List.not_mem_nil) (fun as hp Q h => by obtain ⟨x, hx, -⟩ := spP_e h; rw [d_M_II_e hx]; exact Nat.le_of_ble_eq_true rfl) ?_
  intro Q G hQi hG as hp h
  obtain ⟨x, hx, hpre, hQ⟩ := spP_e h
  rw [d_M_II_e hx]
  clear h hx
  obtain ⟨w, k⟩ := x
  try dsimp only at hpre hQ ⊢
  obtain ⟨hw0, hk0⟩ := hpre
  obtain ⟨w, hw, rfl⟩ := vp_in_of hw0 (by omega)
  obtain ⟨k, hk, rfl⟩ := vp_in_of hk0 (by omega)
  rw [nI_clamp (by omega), nI_clamp (by omega)] at hQ
  refine run hG [] 20 ?_
  refine And.intro ?_ ?_
  · rw [has_ix hw hk]
    exact vp_in_nI (by omega) (by omega)
  · refine q_i hQ ?_
    rw [has_ix hw hk, nI_clamp (by omega)]
theorem sc_X5_has {own : String} {F L idx : Nat} (h1 : Cond.methodLink own idx yX5_has ∈ Gw) (hF : 1 ≤ F) (hL : 22 ≤ L) : SC own F L (idx, false, 3, sp_X5_has) := SC_V spP_mono c_X5_has okd_5 (fun as hp K h => by obtain ⟨x, hx, -⟩ := spP_e h; exact ⟨_, _, d_M_II_e hx⟩) h1 gw_926 gw_25 gw_75 gw_927 (by decide +kernel) hF hL
def sp_X5_gets : SP := spH d_M_III (fun x _ => vp_in x.1 8 ∧ vp_in x.2.1 5) (fun x hp => some (vI (hp.1 53 (144 + 5 * x.1.toNatClampNeg + x.2.1.toNatClampNeg)))) (fun x hp => uI hp 53 (144 + 5 * x.1.toNatClampNeg + x.2.1.toNatClampNeg) x.2.2)
def E_X5_gets : EN := [(59, false, 3, sp_X5_has)]
set_option maxRecDepth 100000 in
set_option maxHeartbeats 4000000 in
theorem c_X5_gets : Ctr M_X5_gets sp_X5_gets := by
  refine ctr_of (own := RX5) M_X5_gets sp_X5_gets (P := P_X5_gets) (K := K_X5) (E := E_X5_gets) (by decide) rfl pk_X5_gets K_X5_ok (List.forall_mem_cons.mpr ⟨sc_X5_has gw_924 (by decide) (by decide), fun _ h => absurd h List.not_mem_nil⟩) (fun as hp Q h => by obtain ⟨x, hx, -⟩ := spH_e h; rw [d_M_III_e hx]; exact Nat.le_of_ble_eq_true rfl) ?_
  intro Q G hQi hG as hp h
  obtain ⟨x, hx, hpre, hQ⟩ := spH_e h
  rw [d_M_III_e hx]
  clear h hx
  obtain ⟨w, k, v⟩ := x
  try dsimp only at hpre hQ ⊢
  obtain ⟨hw0, hk0⟩ := hpre
  refine run hG [] 20 ?_
  refine And.intro ⟨hw0, hk0⟩ ?_
  obtain ⟨w, hw, rfl⟩ := vp_in_of hw0 (by omega)
  obtain ⟨k, hk, rfl⟩ := vp_in_of hk0 (by omega)
  rw [nI_clamp (by omega), nI_clamp (by omega)] at hQ
  refine And.intro ?_ ?_
  · rw [has_ix hw hk]
    exact vp_in_nI (by omega) (by omega)
  · refine q_ih hQ ?_ ?_
    · rw [nI_clamp (by omega), nI_clamp (by omega)]
    · rw [has_ix hw hk, nI_clamp (by omega)]
theorem sc_X5_gets {own : String} {F L idx : Nat} (h1 : Cond.methodLink own idx yX5_gets ∈ Gw) (hF : 2 ≤ F) (hL : 46 ≤ L) : SC own F L (idx, false, 4, sp_X5_gets) := SC_V spH_mono c_X5_gets okd_5 (fun as hp K h => by obtain ⟨x, hx, -⟩ := spH_e h; exact ⟨_, _, d_M_III_e hx⟩) h1 gw_956 gw_27 gw_75 gw_957 (by decide +kernel) hF hL
def sp_X5_puts : SP := spH d_M_II (fun x _ => vp_in x.1 184) (fun x hp => some (vI (hp.1 53 x.1.toNatClampNeg))) (fun x hp => uI hp 53 x.1.toNatClampNeg x.2)
def E_X5_puts : EN := []
set_option maxRecDepth 100000 in
set_option maxHeartbeats 4000000 in
theorem c_X5_puts : Ctr M_X5_puts sp_X5_puts := by
  refine ctr_of (own := RX5) M_X5_puts sp_X5_puts (P := P_X5_puts) (K := K_X5) (E := E_X5_puts) (by decide) rfl pk_X5_puts K_X5_ok (fun _ h => absurd h List.not_mem_nil) (fun as hp Q h => by obtain ⟨x, hx, -⟩ := spH_e h; rw [d_M_II_e hx]; exact Nat.le_of_ble_eq_true rfl) ?_
  intro Q G hQi hG as hp h
  obtain ⟨x, hx, hpre, hQ⟩ := spH_e h
  rw [d_M_II_e hx]
  clear h hx
  obtain ⟨a, v⟩ := x
  try dsimp only at hpre hQ ⊢
  refine run hG [] 20 ?_
  refine And.intro hpre ?_
  refine And.intro hpre ?_
  exact hQ
theorem sc_X5_puts {own : String} {F L idx : Nat} (h1 : Cond.methodLink own idx yX5_puts ∈ Gw) (hF : 1 ≤ F) (hL : 23 ≤ L) : SC own F L (idx, false, 3, sp_X5_puts) := SC_V spH_mono c_X5_puts okd_5 (fun as hp K h => by obtain ⟨x, hx, -⟩ := spH_e h; exact ⟨_, _, d_M_II_e hx⟩) h1 gw_902 gw_23 gw_75 gw_903 (by decide +kernel) hF hL
def sp_X5_lay : SP := spH d_S_AA (fun x _ => kc x.1 = 15 ∧ kc x.2 = 15 ∧ x.1 ≠ x.2) (fun _ _ => none) (fun x hp => rI hp x.2 (hp.1 x.1))
def E_X5_lay : EN := []
set_option maxRecDepth 100000 in
set_option maxHeartbeats 4000000 in
theorem c_X5_lay : Ctr M_X5_lay sp_X5_lay := by
  refine ctr_of (own := RX5) M_X5_lay sp_X5_lay (P := P_X5_lay) (K := K_X5) (E := E_X5_lay) (by decide) rfl pk_X5_lay K_X5_ok (fun _ h => absurd h List.not_mem_nil) (fun as hp Q h => by obtain ⟨x, hx, -⟩ := spH_e h; rw [d_S_AA_e hx]; exact Nat.le_of_ble_eq_true rfl) ?_
  intro Q G hQi hG as hp h
  obtain ⟨x, hx, hpre, hQ⟩ := spH_e h
  rw [d_S_AA_e hx]
  clear h hx
  obtain ⟨a, b⟩ := x
  try dsimp only at hpre hQ ⊢
  obtain ⟨ka, kb, hab⟩ := hpre
  have key := for_up (P := fun k => G 2 [(2, vI (nI k)), (0, vR 15 a), (1, vR 15 b)] [] (rI hp b (fun j => if j < k then hp.1 a j else hp.1 b j))) 184 (by
    refine run hG [2] 20 ?_
    refine And.intro (fun h1 => ?_) (fun h1 => absurd (nI_le (Nat.le_refl _) (by omega)) h1)
    refine hQi _ _ _ ?_ hQ
    intro c hc j hj
    refine ⟨?_, rfl⟩
    by_cases hcb : c = b
    · subst hcb
      rw [rI_eq, rI_eq]
      have hl : lenc c = 184 := by unfold lenc; rw [kb]; rfl
      rw [if_pos (by omega)]
    · rw [rI_ne _ _ hcb, rI_ne _ _ hcb]) (by
    intro k hk ih
    refine run hG [2] 20 ?_
    refine And.intro (fun h1 => absurd h1 (nI_ge hk (by omega))) (fun h1 => ?_)
    refine And.intro (vp_in_nI (by omega) (by omega)) ?_
    refine And.intro (vp_in_nI (by omega) (by omega)) ?_
    refine cl_lv hG [(2, vI (nI k + nI 1)), (0, vR 15 a), (1, vR 15 b)] ⟨rfl, rfl, rfl, trivial⟩ ?_
    rw [nI_s, uI_rI, rI_ne _ _ hab, nI_clamp (by omega)]
    have e : upd (fun j => if j < k then hp.1 a j else hp.1 b j) k (hp.1 a k) = (fun j => if j < k + 1 then hp.1 a j else hp.1 b j) := by
      funext j
      rw [upd_at]
      by_cases h2 : j = k
      · subst h2
        rw [if_pos rfl, if_pos (by omega)]
      · rw [if_neg h2]
        by_cases h3 : j < k
        · rw [if_pos h3, if_pos (by omega)]
        · rw [if_neg h3, if_neg (by omega)]
    rw [e]
    exact ih) 0 (by omega)
  refine run hG [2] 20 ?_
  have e : (fun j => if j < 0 then hp.1 a j else hp.1 b j) = hp.1 b := by funext j; rw [if_neg (by omega)]
  rw [e, rI_self] at key
  exact cl_use hG key ⟨rfl, rfl, rfl, trivial⟩
theorem sc_X5_lay {own : String} {F L idx : Nat} (h1 : Cond.methodLink own idx yX5_lay ∈ Gw) (hF : 1 ≤ F) (hL : 22 ≤ L) : SC own F L (idx, true, 2, sp_X5_lay) := SC_S spH_mono c_X5_lay h1 gw_1078 gw_75 gw_1079 (by decide +kernel) hF hL
def sp_X5_draw : SP := spH d_M (fun _ _ => True) (fun _ hp => some (vI (((hp.1 53 1 * 1103515245 + nI 12345).toUInt32 >>> ((nI 8).toUInt32 &&& Int32.toUInt32 31)).toInt32))) (fun _ hp => uI hp 53 1 (hp.1 53 1 * 1103515245 + nI 12345))
def E_X5_draw : EN := []
set_option maxRecDepth 100000 in
set_option maxHeartbeats 4000000 in
theorem c_X5_draw : Ctr M_X5_draw sp_X5_draw := by
  refine ctr_of (own := RX5) M_X5_draw sp_X5_draw (P := P_X5_draw) (K := K_X5) (E := E_X5_draw) (by decide) rfl pk_X5_draw K_X5_ok (fun _ h => absurd h List.not_mem_nil) (fun as hp Q h => by obtain ⟨x, hx, -⟩ := spH_e h; rw [d_M_e hx]; exact Nat.le_of_ble_eq_true rfl) ?_
  intro Q G hQi hG as hp h
  obtain ⟨x, hx, hpre, hQ⟩ := spH_e h
  rw [d_M_e hx]
  clear h hx
  refine run hG [] 40 ?_
  refine And.intro (vp_in_nI (by omega) (by omega)) ?_
  refine And.intro (vp_in_nI (by omega) (by omega)) ?_
  refine And.intro (vp_in_nI (by omega) (by omega)) ?_
  refine q_ih hQ ?_ ?_
  · show (((uI hp 53 (nI 1).toNatClampNeg _).1 53 _).toUInt32 >>> _).toInt32 = _
    rw [uI_r, rI_eq, nI_clamp (by omega), pk_us]
  · rw [nI_clamp (by omega)]
theorem sc_X5_draw {own : String} {F L idx : Nat} (h1 : Cond.methodLink own idx yX5_draw ∈ Gw) (hF : 1 ≤ F) (hL : 20 ≤ L) : SC own F L (idx, false, 1, sp_X5_draw) := SC_V spH_mono c_X5_draw okd_5 (fun as hp K h => by obtain ⟨x, hx, -⟩ := spH_e h; exact ⟨_, _, d_M_e hx⟩) h1 gw_1019 gw_36 gw_75 gw_1020 (by decide +kernel) hF hL
def sp_X5_isWalker : SP := spP d_M_I (fun _ hp => ∃ n, n ≤ 8 ∧ hp.1 53 6 = nI n) (fun x hp => vI (bB (inB x (hp.1 53 6).toNatClampNeg)))
theorem wk_b {v : Int32} {n : Nat} (hn : n ≤ 8) : (decide (nI 0 ≤ v) && decide (v ≤ nI n - nI 1)) = inB v n := by
  cases n with
  | zero =>
    rw [Bool.eq_iff_iff, inB_t, vp_in_iff, Bool.and_eq_true, decide_eq_true_iff, decide_eq_true_iff, Int32.le_iff_toInt_le, Int32.le_iff_toInt_le]
    have : (nI 0 - nI 1).toInt = -1 := by decide
    have h2 : (nI 0).toInt = 0 := by decide
    rw [this, h2]
    omega
  | succ n => rw [show nI (n + 1) - nI 1 = nI n from nI_pred n]; exact in_b (by omega)
def E_X5_isWalker : EN := [(55, true, 3, sp_X5_in)]
set_option maxRecDepth 100000 in
set_option maxHeartbeats 4000000 in
theorem c_X5_isWalker : Ctr M_X5_isWalker sp_X5_isWalker := by
  refine ctr_of (own := RX5) M_X5_isWalker sp_X5_isWalker (P := P_X5_isWalker) (K := K_X5) (E := E_X5_isWalker) (by decide) rfl pk_X5_isWalker K_X5_ok (List.forall_mem_cons.mpr ⟨sc_X5_in gw_883 (by decide) (by decide), fun _ h => absurd h List.not_mem_nil⟩) (fun as hp Q h => by obtain ⟨x, hx, -⟩ := spP_e h; rw [d_M_I_e hx]; exact Nat.le_of_ble_eq_true rfl) ?_
  intro Q G hQi hG as hp h
  obtain ⟨x, hx, hpre, hQ⟩ := spP_e h
  rw [d_M_I_e hx]
  clear h hx
  obtain ⟨n, hn, e⟩ := hpre
  refine run hG [] 40 ?_
  refine And.intro (vp_in_nI (by omega) (by omega)) ?_
  refine And.intro trivial ?_
  refine q_b hQ ?_
  show bB (decide (nI 0 ≤ x) && decide (x ≤ hp.1 53 (nI 6).toNatClampNeg - nI 1)) = _
  rw [nI_clamp (by omega), e, wk_b hn, nI_clamp (by omega)]
theorem sc_X5_isWalker {own : String} {F L idx : Nat} (h1 : Cond.methodLink own idx yX5_isWalker ∈ Gw) (hF : 2 ≤ F) (hL : 43 ≤ L) : SC own F L (idx, false, 2, sp_X5_isWalker) := SC_V spP_mono c_X5_isWalker okd_5 (fun as hp K h => by obtain ⟨x, hx, -⟩ := spP_e h; exact ⟨_, _, d_M_I_e hx⟩) h1 gw_964 gw_28 gw_75 gw_965 (by decide +kernel) hF hL
def sp_X5_beside : SP := spP d_S_II (fun x _ => vp_in x.1 25 ∧ vp_in x.2 4) (fun x _ => vI (bsV x.1.toNatClampNeg x.2.toNatClampNeg))
def E_X5_beside : EN := []
set_option maxRecDepth 100000 in
set_option maxHeartbeats 4000000 in
theorem c_X5_beside : Ctr M_X5_beside sp_X5_beside := by
  refine ctr_of (own := RX5) M_X5_beside sp_X5_beside (P := P_X5_beside) (K := K_X5) (E := E_X5_beside) (by decide) rfl pk_X5_beside K_X5_ok (fun _ h => absurd h List.not_mem_nil) (fun as hp Q h => by obtain ⟨x, hx, -⟩ := spP_e h; rw [d_S_II_e hx]; exact Nat.le_of_ble_eq_true rfl) ?_
  intro Q G hQi hG as hp h
  obtain ⟨x, hx, hpre, hQ⟩ := spP_e h
  rw [d_S_II_e hx]
  clear h hx
  obtain ⟨q, w⟩ := x
  try dsimp only at hpre hQ ⊢
  obtain ⟨hq0, hw0⟩ := hpre
  obtain ⟨q, hq, rfl⟩ := vp_in_of hq0 (by omega)
  obtain ⟨w, hw, rfl⟩ := vp_in_of hw0 (by omega)
  rw [nI_clamp (by omega), nI_clamp (by omega)] at hQ
  refine run hG [] 40 ?_
  have hwi : (nI w).toInt = w := nI_toInt (by omega)
  have fin : ∀ y : Int32, y = bsV q w → Q (some (vI y)) hp := fun y e => e ▸ hQ
  have t0 : ∀ q, q < 25 → nI q - nI 5 = bsV q 0 := by decide +kernel
  have t1 : ∀ q, q < 25 → (nI q - nI q / nI 5 * nI 5 = nI 4 → (-1 : Int32) = bsV q 1) ∧ (¬ nI q - nI q / nI 5 * nI 5 = nI 4 → nI q + nI 1 = bsV q 1) := by decide +kernel
  have t2 : ∀ q, q < 25 → (nI q ≤ nI 19 → nI q + nI 5 = bsV q 2) ∧ (¬ nI q ≤ nI 19 → (-1 : Int32) = bsV q 2) := by decide +kernel
  have t3 : ∀ q, q < 25 → (nI q - nI q / nI 5 * nI 5 = 0 → (-1 : Int32) = bsV q 3) ∧ (¬ nI q - nI q / nI 5 * nI 5 = 0 → nI q - nI 1 = bsV q 3) := by decide +kernel
  refine And.intro (fun h0 => ?_) (And.intro (fun h0 => ?_) (And.intro (fun h0 => ?_) (fun h0 => ?_)))
  · have e : w = 0 := by rw [hwi] at h0; omega
    subst e
    exact fin _ (t0 q hq)
  · have e : w = 1 := by rw [hwi] at h0; omega
    subst e
    refine And.intro (by decide) (And.intro (fun h1 => fin _ ((t1 q hq).2 h1)) (fun h1 => fin _ ((t1 q hq).1 h1)))
  · have e : w = 2 := by rw [hwi] at h0; omega
    subst e
    refine And.intro (fun h1 => fin _ ((t2 q hq).1 h1)) (fun h1 => fin _ ((t2 q hq).2 h1))
  · have e : w = 3 := by rw [hwi] at h0; omega
    subst e
    refine And.intro (by decide) (And.intro (fun h1 => fin _ ((t3 q hq).2 h1)) (fun h1 => fin _ ((t3 q hq).1 h1)))
theorem sc_X5_beside {own : String} {F L idx : Nat} (h1 : Cond.methodLink own idx yX5_beside ∈ Gw) (hF : 1 ≤ F) (hL : 21 ≤ L) : SC own F L (idx, true, 2, sp_X5_beside) := SC_S spP_mono c_X5_beside h1 gw_890 gw_75 gw_891 (by decide +kernel) hF hL
def sp_X5_doorAt : SP := spP d_S_II (fun x _ => vp_in x.1 25 ∧ vp_in x.2 4) (fun x _ => vI (nI (dr x.1.toNatClampNeg x.2.toNatClampNeg)))
def E_X5_doorAt : EN := []
set_option maxRecDepth 100000 in
set_option maxHeartbeats 4000000 in
theorem c_X5_doorAt : Ctr M_X5_doorAt sp_X5_doorAt := by
  refine ctr_of (own := RX5) M_X5_doorAt sp_X5_doorAt (P := P_X5_doorAt) (K := K_X5) (E := E_X5_doorAt) (by decide) rfl pk_X5_doorAt K_X5_ok (fun _ h => absurd h List.not_mem_nil) (fun as hp Q h => by obtain ⟨x, hx, -⟩ := spP_e h; rw [d_S_II_e hx]; exact Nat.le_of_ble_eq_true rfl) ?_
  intro Q G hQi hG as hp h
  obtain ⟨x, hx, hpre, hQ⟩ := spP_e h
  rw [d_S_II_e hx]
  clear h hx
  obtain ⟨q, w⟩ := x
  try dsimp only at hpre hQ ⊢
  obtain ⟨hq0, hw0⟩ := hpre
  obtain ⟨q, hq, rfl⟩ := vp_in_of hq0 (by omega)
  obtain ⟨w, hw, rfl⟩ := vp_in_of hw0 (by omega)
  rw [nI_clamp (by omega), nI_clamp (by omega)] at hQ
  have hwi : (nI w).toInt = w := nI_toInt (by omega)
  have fin : ∀ y : Int32, y = nI (dr q w) → Q (some (vI y)) hp := fun y e => e ▸ hQ
  refine run hG [] 40 ?_
  refine And.intro (fun h0 => ?_) (And.intro (fun h0 => ?_) (And.intro (fun h0 => ?_) (fun h0 => ?_)))
  · have e : w = 0 := by rw [hwi] at h0; omega
    subst e
    exact fin _ (by rw [nI_add, pk_sub (by omega)]; rfl)
  · have e : w = 1 := by rw [hwi] at h0; omega
    subst e
    exact fin _ (by rw [nI_add]; rfl)
  · have e : w = 2 := by rw [hwi] at h0; omega
    subst e
    exact fin _ (by rw [nI_add]; rfl)
  · have e : w = 3 := by rw [hwi] at h0; omega
    subst e
    exact fin _ (by rw [nI_add, pk_sub (by omega)]; rfl)
theorem sc_X5_doorAt {own : String} {F L idx : Nat} (h1 : Cond.methodLink own idx yX5_doorAt ∈ Gw) (hF : 1 ≤ F) (hL : 21 ≤ L) : SC own F L (idx, true, 2, sp_X5_doorAt) := SC_S spP_mono c_X5_doorAt h1 gw_893 gw_75 gw_894 (by decide +kernel) hF hL
def sp_X5_wayTo : SP := spP d_S_II (fun x _ => vp_in x.1 25 ∧ vp_in x.2 25) (fun x _ => vI (wyV x.1.toNatClampNeg x.2.toNatClampNeg))
theorem bsV_eq : ∀ q, q < 25 → ∀ w, w < 4 → ∀ t, t < 25 → (bsV q w = nI t ↔ bsd q w = t) := by decide +kernel
def E_X5_wayTo : EN := [(63, true, 2, sp_X5_beside)]
set_option maxRecDepth 100000 in
set_option maxHeartbeats 4000000 in
theorem c_X5_wayTo : Ctr M_X5_wayTo sp_X5_wayTo := by
  refine ctr_of (own := RX5) M_X5_wayTo sp_X5_wayTo (P := P_X5_wayTo) (K := K_X5) (E := E_X5_wayTo) (by decide) rfl pk_X5_wayTo K_X5_ok (List.forall_mem_cons.mpr ⟨sc_X5_beside gw_889 (by decide) (by decide), fun _ h => absurd h List.not_mem_nil⟩) (fun as hp Q h => by obtain ⟨x, hx, -⟩ := spP_e h; rw [d_S_II_e hx]; exact Nat.le_of_ble_eq_true rfl) ?_
  intro Q G hQi hG as hp h
  obtain ⟨x, hx, hpre, hQ⟩ := spP_e h
  rw [d_S_II_e hx]
  clear h hx
  obtain ⟨a, b⟩ := x
  try dsimp only at hpre hQ ⊢
  obtain ⟨ha0, hb0⟩ := hpre
  obtain ⟨a, ha, rfl⟩ := vp_in_of ha0 (by omega)
  obtain ⟨b, hb, rfl⟩ := vp_in_of hb0 (by omega)
  rw [nI_clamp (by omega), nI_clamp (by omega)] at hQ
  have fin : ∀ y : Int32, y = wyV a b → Q (some (vI y)) hp := fun y e => e ▸ hQ
  have ev : ∀ w, w < 4 → bsV (nI a).toNatClampNeg (nI w).toNatClampNeg = bsV a w := fun w hw => by rw [nI_clamp (by omega), nI_clamp (by omega)]
  have step : ∀ w, w < 4 → (bsd a w = b → nI w = wyV a b) → (bsd a w ≠ b → G 2 [(0, vI (nI a)), (1, vI (nI b)), (2, vI (nI w + (-1)))] [] hp) → G 2 [(0, vI (nI a)), (1, vI (nI b)), (2, vI (nI w))] [] hp := by
    intro w hw h1 h2
    refine run hG [2] 40 ?_
    refine And.intro (fun h => absurd h (nI_pos (by omega))) (fun h => ?_)
    refine And.intro ⟨ha0, vp_in_nI hw (by omega)⟩ ?_
    refine And.intro (fun h3 => ?_) (fun h3 => ?_)
    · refine fin _ (h1 ?_)
      have h3 : bsV (nI a).toNatClampNeg (nI w).toNatClampNeg = nI b := h3
      rw [ev w hw] at h3
      exact (bsV_eq a ha w hw b hb).mp h3
    · refine cl_use hG (h2 ?_) ⟨rfl, rfl, rfl, trivial⟩
      have h3 : ¬ bsV (nI a).toNatClampNeg (nI w).toNatClampNeg = nI b := h3
      rw [ev w hw] at h3
      exact fun h4 => h3 ((bsV_eq a ha w hw b hb).mpr h4)
  refine run hG [2] 40 ?_
  refine cl_lv hG [(0, vI (nI a)), (1, vI (nI b)), (2, vI (nI 3))] ⟨rfl, rfl, rfl, trivial⟩ ?_
  refine step 3 (by omega) (fun h => by simp [wyV, wyt, h]) (fun n3 => ?_)
  rw [pk_m1]
  refine step 2 (by omega) (fun h => by simp [wyV, wyt, h, n3]) (fun n2 => ?_)
  rw [pk_m1]
  refine step 1 (by omega) (fun h => by simp [wyV, wyt, h, n3, n2]) (fun n1 => ?_)
  rw [pk_m1]
  refine step 0 (by omega) (fun h => by simp [wyV, wyt, h, n3, n2, n1]) (fun n0 => ?_)
  refine run hG [2] 40 ?_
  refine And.intro (fun h => ?_) (fun h => absurd (by decide) h)
  exact fin _ (by simp [wyV, wyt, n3, n2, n1, n0]; decide)
theorem sc_X5_wayTo {own : String} {F L idx : Nat} (h1 : Cond.methodLink own idx yX5_wayTo ∈ Gw) (hF : 2 ≤ F) (hL : 43 ≤ L) : SC own F L (idx, true, 2, sp_X5_wayTo) := SC_S spP_mono c_X5_wayTo h1 gw_887 gw_75 gw_888 (by decide +kernel) hF hL
def sp_X5_may : SP := spP d_M_II (fun x _ => vp_in x.1 25 ∧ vp_in x.2 4) (fun x hp => vI (bB (mayB (hp.1 53) x.1.toNatClampNeg x.2.toNatClampNeg)))
def E_X5_may : EN := [(63, true, 2, sp_X5_beside), (66, true, 2, sp_X5_doorAt)]
set_option maxRecDepth 100000 in
set_option maxHeartbeats 4000000 in
theorem c_X5_may : Ctr M_X5_may sp_X5_may := by
  refine ctr_of (own := RX5) M_X5_may sp_X5_may (P := P_X5_may) (K := K_X5) (E := E_X5_may) (by decide) rfl pk_X5_may K_X5_ok (List.forall_mem_cons.mpr ⟨sc_X5_beside gw_889 (by decide) (by decide), List.forall_mem_cons.mpr ⟨sc_X5_doorAt gw_892 (by decide) (by decide), fun _ h => absurd h List.not_mem_nil⟩⟩) (fun as hp Q h => by obtain ⟨x, hx, -⟩ := spP_e h; rw [d_M_II_e hx]; exact Nat.le_of_ble_eq_true rfl) ?_
  intro Q G hQi hG as hp h
  obtain ⟨x, hx, hpre, hQ⟩ := spP_e h
  rw [d_M_II_e hx]
  clear h hx
  obtain ⟨q, w⟩ := x
  try dsimp only at hpre hQ ⊢
  obtain ⟨hq0, hw0⟩ := hpre
  obtain ⟨q, hq, rfl⟩ := vp_in_of hq0 (by omega)
  obtain ⟨w, hw, rfl⟩ := vp_in_of hw0 (by omega)
  rw [nI_clamp (by omega), nI_clamp (by omega)] at hQ
  have ev : bsV (nI q).toNatClampNeg (nI w).toNatClampNeg = bsV q w := by rw [nI_clamp (by omega), nI_clamp (by omega)]
  have ed : dr (nI q).toNatClampNeg (nI w).toNatClampNeg = dr q w := by rw [nI_clamp (by omega), nI_clamp (by omega)]
  refine run hG [] 40 ?_
  refine And.intro ⟨hq0, hw0⟩ ?_
  refine And.intro (fun h => ?_) (fun h => ?_)
  · have h : bsV (nI q).toNatClampNeg (nI w).toNatClampNeg < 0 := h
    rw [ev, bsV_neg q hq w hw] at h
    exact q_b hQ (by simp [mayB, h, bB, nI])
  · have h : ¬ bsV (nI q).toNatClampNeg (nI w).toNatClampNeg < 0 := h
    rw [ev, bsV_neg q hq w hw] at h
    refine And.intro ⟨hq0, hw0⟩ ?_
    refine And.intro ?_ ?_
    · show vp_in (nI (dr (nI q).toNatClampNeg (nI w).toNatClampNeg)) 184
      rw [ed]
      exact vp_in_nI (dr_lt hq) (by omega)
    · have el : (nI (dr (nI q).toNatClampNeg (nI w).toNatClampNeg)).toNatClampNeg = dr q w := by rw [ed]; exact nI_clamp (by have := dr_lt (w := w) hq; omega)
      refine And.intro (fun h2 => ?_) (fun h2 => ?_)
      · have h2 : ¬ hp.1 53 (nI (dr (nI q).toNatClampNeg (nI w).toNatClampNeg)).toNatClampNeg = 0 := h2
        rw [el] at h2
        exact q_b hQ (by simp [mayB, h2, bB, nI])
      · have h2 : hp.1 53 (nI (dr (nI q).toNatClampNeg (nI w).toNatClampNeg)).toNatClampNeg = 0 := h2
        rw [el] at h2
        exact q_b hQ (by simp [mayB, h, h2, bB, nI])
theorem sc_X5_may {own : String} {F L idx : Nat} (h1 : Cond.methodLink own idx yX5_may ∈ Gw) (hF : 2 ≤ F) (hL : 43 ≤ L) : SC own F L (idx, false, 3, sp_X5_may) := SC_V spP_mono c_X5_may okd_5 (fun as hp K h => by obtain ⟨x, hx, -⟩ := spP_e h; exact ⟨_, _, d_M_II_e hx⟩) h1 gw_972 gw_30 gw_75 gw_973 (by decide +kernel) hF hL
