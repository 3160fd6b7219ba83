/-! the class's text -/
def sp_X1_isLetter : SP := spP d_S_I (fun _ _ => True) (fun x _ => vI (bB (lrB x)))
def E_X1_isLetter : EN := []
set_option maxRecDepth 100000 in
set_option maxHeartbeats 4000000 in
theorem c_X1_isLetter : Ctr M_X1_isLetter sp_X1_isLetter := by
  refine ctr_of (own := RX1) M_X1_isLetter sp_X1_isLetter (P := P_X1_isLetter) (K := K_X1) (E := E_X1_isLetter) (by decide) rfl pk_X1_isLetter K_X1_ok (fun _ h => absurd h List.not_mem_nil) (fun as hp Q h => by obtain ⟨x, hx, -⟩ := spP_e h; rw [d_S_I_e hx]; exact Nat.le_of_ble_eq_true rfl) ?_
  intro Q G hQi hG as hp h
  obtain ⟨x, hx, hpre, hQ⟩ := spP_e h
  rw [d_S_I_e hx]
  clear h hx
  unfold lrB at hQ
  refine run hG [] 60 ?_
  refine And.intro (fun h1 => ?_) (fun h1 => ?_)
  · have h1 : x < nI 97 := h1
    exact q_b hQ (by rw [decide_eq_false (fun h => Int32.not_lt.mpr h h1)]; rfl)
  · have h1 : ¬ x < nI 97 := h1
    refine And.intro (fun h2 => ?_) (fun h2 => ?_)
    · have h2 : nI 122 < x := h2
      exact q_b hQ (by rw [decide_eq_false (p := x ≤ nI 122) (fun h => Int32.not_lt.mpr h h2), Bool.and_false]; rfl)
    · have h2 : ¬ nI 122 < x := h2
      exact q_b hQ (by rw [decide_eq_true (Int32.not_lt.mp h1), decide_eq_true (Int32.not_lt.mp h2)]; rfl)
theorem sc_X1_isLetter {own : String} {F L idx : Nat} (h1 : Cond.methodLink own idx yX1_isLetter ∈ Gw) (hF : 1 ≤ F) (hL : 20 ≤ L) : SC own F L (idx, true, 1, sp_X1_isLetter) := SC_S spP_mono c_X1_isLetter h1 gw_616 gw_73 gw_617 (by decide +kernel) hF hL
def sp_X1_isDigit : SP := spP d_S_I (fun _ _ => True) (fun x _ => vI (bB (dgB x)))
def E_X1_isDigit : EN := []
set_option maxRecDepth 100000 in
set_option maxHeartbeats 4000000 in
theorem c_X1_isDigit : Ctr M_X1_isDigit sp_X1_isDigit := by
  refine ctr_of (own := RX1) M_X1_isDigit sp_X1_isDigit (P := P_X1_isDigit) (K := K_X1) (E := E_X1_isDigit) (by decide) rfl pk_X1_isDigit K_X1_ok (fun _ h => absurd h List.not_mem_nil) (fun as hp Q h => by obtain ⟨x, hx, -⟩ := spP_e h; rw [d_S_I_e hx]; exact Nat.le_of_ble_eq_true rfl) ?_
  intro Q G hQi hG as hp h
  obtain ⟨x, hx, hpre, hQ⟩ := spP_e h
  rw [d_S_I_e hx]
  clear h hx
  unfold dgB at hQ
  refine run hG [] 60 ?_
  refine And.intro (fun h1 => ?_) (fun h1 => ?_)
  · have h1 : x < nI 48 := h1
    exact q_b hQ (by rw [decide_eq_false (fun h => Int32.not_lt.mpr h h1)]; rfl)
  · have h1 : ¬ x < nI 48 := h1
    refine And.intro (fun h2 => ?_) (fun h2 => ?_)
    · have h2 : nI 57 < x := h2
      exact q_b hQ (by rw [decide_eq_false (p := x ≤ nI 57) (fun h => Int32.not_lt.mpr h h2), Bool.and_false]; rfl)
    · have h2 : ¬ nI 57 < x := h2
      exact q_b hQ (by rw [decide_eq_true (Int32.not_lt.mp h1), decide_eq_true (Int32.not_lt.mp h2)]; rfl)
theorem sc_X1_isDigit {own : String} {F L idx : Nat} (h1 : Cond.methodLink own idx yX1_isDigit ∈ Gw) (hF : 1 ≤ F) (hL : 20 ≤ L) : SC own F L (idx, true, 1, sp_X1_isDigit) := SC_S spP_mono c_X1_isDigit h1 gw_619 gw_73 gw_620 (by decide +kernel) hF hL
theorem b8_8 (x : Int32) : x.toInt8.toInt32.toInt8.toInt32 = x.toInt8.toInt32 := by
  have : x.toInt8.toInt32.toInt8 = x.toInt8 := by simp
  rw [this]
def sp_X1_addByte : SP := spH d_T_I (fun _ hp => vp_in (hp.1 37 1) 120) (fun _ _ => none) (fun x hp => uI (uI hp 38 (hp.1 37 1).toNatClampNeg x.toInt8.toInt32) 37 1 (hp.1 37 1 + nI 1))
def E_X1_addByte : EN := []
set_option maxRecDepth 100000 in
set_option maxHeartbeats 4000000 in
theorem c_X1_addByte : Ctr M_X1_addByte sp_X1_addByte := by
  refine ctr_of (own := RX1) M_X1_addByte sp_X1_addByte (P := P_X1_addByte) (K := K_X1) (E := E_X1_addByte) (by decide) rfl pk_X1_addByte K_X1_ok (fun _ h => absurd h List.not_mem_nil) (fun as hp Q h => by obtain ⟨x, hx, -⟩ := spH_e h; rw [d_T_I_e hx]; exact Nat.le_of_ble_eq_true rfl) ?_
  intro Q G hQi hG as hp h
  obtain ⟨x, hx, hpre, hQ⟩ := spH_e h
  rw [d_T_I_e hx]
  clear h hx
  refine run hG [] 60 ?_
  refine And.intro hpre ?_
  refine q_n hQ ?_
  show uI (uI hp 38 (hp.1 37 1).toNatClampNeg x.toInt8.toInt32.toInt8.toInt32) 37 1 ((uI hp 38 (hp.1 37 1).toNatClampNeg x.toInt8.toInt32.toInt8.toInt32).1 37 1 + nI 1) = _
  rw [uI_row _ _ _ (by omega), b8_8]
theorem sc_X1_addByte {own : String} {F L idx : Nat} (h1 : Cond.methodLink own idx yX1_addByte ∈ Gw) (hF : 1 ≤ F) (hL : 21 ≤ L) : SC own F L (idx, false, 2, sp_X1_addByte) := SC_V spH_mono c_X1_addByte okd_3 (fun as hp K h => by obtain ⟨x, hx, -⟩ := spH_e h; exact ⟨_, _, d_T_I_e hx⟩) h1 gw_596 gw_597 gw_73 gw_598 (by decide +kernel) hF hL
