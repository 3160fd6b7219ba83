/-! the class's small tests -/
def sp_X4_isWithin : SP := spP d_S_III (fun _ _ => True) (fun x _ => vI (bB (decide (x.2.1 ≤ x.1) && decide (x.1 ≤ x.2.2))))
def E_X4_isWithin : EN := []
set_option maxRecDepth 100000 in
set_option maxHeartbeats 4000000 in
theorem c_X4_isWithin : Ctr M_X4_isWithin sp_X4_isWithin := by
  refine ctr_of (own := RX4) M_X4_isWithin sp_X4_isWithin (P := P_X4_isWithin) (K := K_X4) (E := E_X4_isWithin) (by decide) rfl pk_X4_isWithin K_X4_ok (fun _ h => absurd h List.not_mem_nil) (fun as hp Q h => by obtain ⟨x, hx, -⟩ := spP_e h; rw [d_S_III_e hx]; exact Nat.le_of_ble_eq_true rfl) ?_
  intro Q G hQi hG as hp h
  obtain ⟨x, hx, hpre, hQ⟩ := spP_e h
  rw [d_S_III_e hx]
  clear h hx
  obtain ⟨v, a, b⟩ := x
  try dsimp only at hpre hQ ⊢
  refine run hG [] 60 ?_
  refine And.intro (fun h1 => ?_) (fun h1 => ?_)
  · have h1 : v < a := h1
    exact q_b hQ (by rw [decide_eq_false (fun h => Int32.not_lt.mpr h h1)]; rfl)
  · have h1 : ¬ v < a := h1
    refine And.intro (fun h2 => ?_) (fun h2 => ?_)
    · have h2 : b < v := h2
      exact q_b hQ (by rw [decide_eq_false (p := v ≤ b) (fun h => Int32.not_lt.mpr h h2), Bool.and_false]; rfl)
    · have h2 : ¬ b < v := h2
      exact q_b hQ (by rw [decide_eq_true (Int32.not_lt.mp h1), decide_eq_true (Int32.not_lt.mp h2)]; rfl)
theorem sc_X4_isWithin {own : String} {F L idx : Nat} (h1 : Cond.methodLink own idx yX4_isWithin ∈ Gw) (hF : 1 ≤ F) (hL : 22 ≤ L) : SC own F L (idx, true, 3, sp_X4_isWithin) := SC_S spP_mono c_X4_isWithin h1 gw_286 gw_69 gw_287 (by decide +kernel) hF hL
def sp_X4_isSquare : SP := spP d_S_I (fun _ _ => True) (fun x _ => vI (bB (inB x 25)))
def E_X4_isSquare : EN := [(78, true, 3, sp_X4_isWithin)]
set_option maxRecDepth 100000 in
set_option maxHeartbeats 4000000 in
theorem c_X4_isSquare : Ctr M_X4_isSquare sp_X4_isSquare := by
  refine ctr_of (own := RX4) M_X4_isSquare sp_X4_isSquare (P := P_X4_isSquare) (K := K_X4) (E := E_X4_isSquare) (by decide) rfl pk_X4_isSquare K_X4_ok (List.forall_mem_cons.mpr ⟨sc_X4_isWithin gw_285 (by decide) (by decide), fun _ h => absurd h List.not_mem_nil⟩) (fun as hp Q h => by obtain ⟨x, hx, -⟩ := spP_e h; rw [d_S_I_e hx]; exact Nat.le_of_ble_eq_true rfl) ?_
  intro Q G hQi hG as hp h
  obtain ⟨x, hx, hpre, hQ⟩ := spP_e h
  rw [d_S_I_e hx]
  clear h hx
  refine run hG [] 60 ?_
  refine And.intro trivial ?_
  exact q_b hQ (by rw [← in_b (v := x) (n := 24) (by omega)])
theorem sc_X4_isSquare {own : String} {F L idx : Nat} (h1 : Cond.methodLink own idx yX4_isSquare ∈ Gw) (hF : 2 ≤ F) (hL : 42 ≤ L) : SC own F L (idx, true, 1, sp_X4_isSquare) := SC_S spP_mono c_X4_isSquare h1 gw_283 gw_69 gw_284 (by decide +kernel) hF hL
theorem sn_X4_isSquare {F L : Nat} (hF : 2 ≤ F) (hL : 42 ≤ L) : SC RX3 F L (73, true, 1, sp_X4_isSquare) := SC_N rfl spP_mono c_X4_isSquare gw_283 gw_69 gw_284 (by decide +kernel) hF hL
def sp_X4_isKind : SP := spP d_S_I (fun _ _ => True) (fun x _ => vI (bB (inB x 6)))
def E_X4_isKind : EN := [(78, true, 3, sp_X4_isWithin)]
set_option maxRecDepth 100000 in
set_option maxHeartbeats 4000000 in
theorem c_X4_isKind : Ctr M_X4_isKind sp_X4_isKind := by
  refine ctr_of (own := RX4) M_X4_isKind sp_X4_isKind (P := P_X4_isKind) (K := K_X4) (E := E_X4_isKind) (by decide) rfl pk_X4_isKind K_X4_ok (List.forall_mem_cons.mpr ⟨sc_X4_isWithin gw_285 (by decide) (by decide), fun _ h => absurd h List.not_mem_nil⟩) (fun as hp Q h => by obtain ⟨x, hx, -⟩ := spP_e h; rw [d_S_I_e hx]; exact Nat.le_of_ble_eq_true rfl) ?_
  intro Q G hQi hG as hp h
  obtain ⟨x, hx, hpre, hQ⟩ := spP_e h
  rw [d_S_I_e hx]
  clear h hx
  refine run hG [] 60 ?_
  refine And.intro trivial ?_
  exact q_b hQ (by rw [← in_b (v := x) (n := 5) (by omega)])
theorem sc_X4_isKind {own : String} {F L idx : Nat} (h1 : Cond.methodLink own idx yX4_isKind ∈ Gw) (hF : 2 ≤ F) (hL : 42 ≤ L) : SC own F L (idx, true, 1, sp_X4_isKind) := SC_S spP_mono c_X4_isKind h1 gw_377 gw_69 gw_378 (by decide +kernel) hF hL
def sp_X4_isWay : SP := spP d_S_I (fun _ _ => True) (fun x _ => vI (bB (inB x 4)))
def E_X4_isWay : EN := [(78, true, 3, sp_X4_isWithin)]
set_option maxRecDepth 100000 in
set_option maxHeartbeats 4000000 in
theorem c_X4_isWay : Ctr M_X4_isWay sp_X4_isWay := by
  refine ctr_of (own := RX4) M_X4_isWay sp_X4_isWay (P := P_X4_isWay) (K := K_X4) (E := E_X4_isWay) (by decide) rfl pk_X4_isWay K_X4_ok (List.forall_mem_cons.mpr ⟨sc_X4_isWithin gw_285 (by decide) (by decide), fun _ h => absurd h List.not_mem_nil⟩) (fun as hp Q h => by obtain ⟨x, hx, -⟩ := spP_e h; rw [d_S_I_e hx]; exact Nat.le_of_ble_eq_true rfl) ?_
  intro Q G hQi hG as hp h
  obtain ⟨x, hx, hpre, hQ⟩ := spP_e h
  rw [d_S_I_e hx]
  clear h hx
  refine run hG [] 60 ?_
  refine And.intro trivial ?_
  exact q_b hQ (by rw [← in_b (v := x) (n := 3) (by omega)])
theorem sc_X4_isWay {own : String} {F L idx : Nat} (h1 : Cond.methodLink own idx yX4_isWay ∈ Gw) (hF : 2 ≤ F) (hL : 42 ≤ L) : SC own F L (idx, true, 1, sp_X4_isWay) := SC_S spP_mono c_X4_isWay h1 gw_380 gw_69 gw_381 (by decide +kernel) hF hL
def sp_X4_isSheet : SP := spP d_S_I (fun _ _ => True) (fun x _ => vI (bB (inB x 4)))
def E_X4_isSheet : EN := [(78, true, 3, sp_X4_isWithin)]
set_option maxRecDepth 100000 in
set_option maxHeartbeats 4000000 in
theorem c_X4_isSheet : Ctr M_X4_isSheet sp_X4_isSheet := by
  refine ctr_of (own := RX4) M_X4_isSheet sp_X4_isSheet (P := P_X4_isSheet) (K := K_X4) (E := E_X4_isSheet) (by decide) rfl pk_X4_isSheet K_X4_ok (List.forall_mem_cons.mpr ⟨sc_X4_isWithin gw_285 (by decide) (by decide), fun _ h => absurd h List.not_mem_nil⟩) (fun as hp Q h => by obtain ⟨x, hx, -⟩ := spP_e h; rw [d_S_I_e hx]; exact Nat.le_of_ble_eq_true rfl) ?_
  intro Q G hQi hG as hp h
  obtain ⟨x, hx, hpre, hQ⟩ := spP_e h
  rw [d_S_I_e hx]
  clear h hx
  refine run hG [] 60 ?_
  refine And.intro trivial ?_
  exact q_b hQ (by rw [← in_b (v := x) (n := 3) (by omega)])
theorem sc_X4_isSheet {own : String} {F L idx : Nat} (h1 : Cond.methodLink own idx yX4_isSheet ∈ Gw) (hF : 2 ≤ F) (hL : 42 ≤ L) : SC own F L (idx, true, 1, sp_X4_isSheet) := SC_S spP_mono c_X4_isSheet h1 gw_741 gw_69 gw_742 (by decide +kernel) hF hL
