/-! what the JDK does for words -/
theorem tx_chr : ∀ i, i < 20 → ∀ j, j < ((tx_s.getD i []).length) → ((((tx_s.getD i []).getD j 0) &&& nI 255).toUInt32 % 65536).toInt32 = (tx_s.getD i []).getD j 0 := by decide +kernel
theorem tx_chr2 : ∀ i, i < 20 → ∀ j, j < ((tx_s.getD i []).length) → ((((tx_s.getD i []).getD j 0)).toUInt32 % 65536).toInt32 = (tx_s.getD i []).getD j 0 := by decide +kernel
theorem tx_len : ∀ i, i < 20 → ((tx_s.getD i []).length) < 9 := by decide +kernel
theorem tx_c (m : Nat) {j : Nat} (h : j < tx_n m) : ((tx_b m j &&& nI 255).toUInt32 % 65536).toInt32 = tx_b m j := tx_chr (tx_i m) (Nat.mod_lt _ (by omega)) j h
theorem tx_c2 (m : Nat) {j : Nat} (h : j < tx_n m) : narrow .char (.int (tx_b m j)) = .int (tx_b m j) := congrArg _ (tx_chr2 (tx_i m) (Nat.mod_lt _ (by omega)) j h)
theorem q_c {Q : QP} {m j : Nat} {y : Int32} {hp : HP} (h : Q (some (vI (tx_b m j))) hp) (hj : j < tx_n m) (e : y = tx_b m j) : narrow .char (.int y) = .int y ∧ Q (some (vI y)) hp := by
  subst e
  exact ⟨tx_c2 m hj, h⟩
theorem tx_lt (m : Nat) : tx_n m < 9 := tx_len (tx_i m) (Nat.mod_lt _ (by omega))
def sp_J0_coder_7d493 : SP := spP d_X (fun m _ => txok m) (fun _ _ => vI 0)
def E_J0_coder_7d493 : EN := []
set_option maxRecDepth 100000 in
set_option maxHeartbeats 4000000 in
theorem c_J0_coder_7d493 : Ctr M_J0_coder_7d493 sp_J0_coder_7d493 := by
  refine ctr_of (own := RJ0) M_J0_coder_7d493 sp_J0_coder_7d493 (P := P_J0_coder_7d493) (K := K_J0) (E := E_J0_coder_7d493) (by decide) rfl pk_J0_coder_7d493 K_J0_ok (fun _ h => absurd h List.not_mem_nil) (fun as hp Q h => by obtain ⟨x, hx, -⟩ := spP_e h; rw [d_X_e hx]; exact Nat.le_of_ble_eq_true rfl) ?_
  intro Q G hQi hG as hp h
  obtain ⟨x, hx, hpre, hQ⟩ := spP_e h
  rw [d_X_e hx]
  clear h hx
  refine run hG [] 60 ?_
  refine And.intro (fun h1 => absurd h1 (by decide)) (fun h1 => ?_)
  exact And.intro hpre (And.intro rfl hQ)
theorem sc_J0_coder_7d493 {own : String} {F L idx : Nat} (h1 : Cond.methodLink own idx yJ0_coder_7d493 ∈ Gw) (hF : 1 ≤ F) (hL : 20 ≤ L) : SC own F L (idx, false, 1, sp_J0_coder_7d493) := SC_X rfl spP_mono c_J0_coder_7d493 (fun as hp K h => by obtain ⟨x, hx, hpre, -⟩ := spP_e h; exact ⟨_, _, hpre, d_X_e hx⟩) h1 gw_640 gw_641 gw_79 gw_642 (by decide +kernel) hF hL
def sp_J0_length_8abf5 : SP := spP d_X (fun m _ => txok m) (fun m _ => vI (nI (tx_n m)))
theorem shr0 (x : Int32) : x >>> ((0 : Int32) &&& 31) = x := by
  apply Int32.toBitVec_inj.mp
  simp
def E_J0_length_8abf5 : EN := [(335, false, 1, sp_J0_coder_7d493)]
set_option maxRecDepth 100000 in
set_option maxHeartbeats 4000000 in
theorem c_J0_length_8abf5 : Ctr M_J0_length_8abf5 sp_J0_length_8abf5 := by
  refine ctr_of (own := RJ0) M_J0_length_8abf5 sp_J0_length_8abf5 (P := P_J0_length_8abf5) (K := K_J0) (E := E_J0_length_8abf5) (by decide) rfl pk_J0_length_8abf5 K_J0_ok (List.forall_mem_cons.mpr ⟨sc_J0_coder_7d493 gw_639 (by decide) (by decide), fun _ h => absurd h List.not_mem_nil⟩) (fun as hp Q h => by obtain ⟨x, hx, -⟩ := spP_e h; rw [d_X_e hx]; exact Nat.le_of_ble_eq_true rfl) ?_
  intro Q G hQi hG as hp h
  obtain ⟨x, hx, hpre, hQ⟩ := spP_e h
  rw [d_X_e hx]
  clear h hx
  refine run hG [] 60 ?_
  refine And.intro hpre ?_
  refine And.intro hpre ?_
  refine And.intro hpre ?_
  exact q_i hQ (shr0 _)
theorem sc_J0_length_8abf5 {own : String} {F L idx : Nat} (h1 : Cond.methodLink own idx yJ0_length_8abf5 ∈ Gw) (hF : 2 ≤ F) (hL : 40 ≤ L) : SC own F L (idx, false, 1, sp_J0_length_8abf5) := SC_X rfl spP_mono c_J0_length_8abf5 (fun as hp K h => by obtain ⟨x, hx, hpre, -⟩ := spP_e h; exact ⟨_, _, hpre, d_X_e hx⟩) h1 gw_636 gw_637 gw_79 gw_638 (by decide +kernel) hF hL
def sp_J0_isLatin1_aae02 : SP := spP d_X (fun m _ => txok m) (fun _ _ => vI (nI 1))
def E_J0_isLatin1_aae02 : EN := []
set_option maxRecDepth 100000 in
set_option maxHeartbeats 4000000 in
theorem c_J0_isLatin1_aae02 : Ctr M_J0_isLatin1_aae02 sp_J0_isLatin1_aae02 := by
  refine ctr_of (own := RJ0) M_J0_isLatin1_aae02 sp_J0_isLatin1_aae02 (P := P_J0_isLatin1_aae02) (K := K_J0) (E := E_J0_isLatin1_aae02) (by decide) rfl pk_J0_isLatin1_aae02 K_J0_ok (fun _ h => absurd h List.not_mem_nil) (fun as hp Q h => by obtain ⟨x, hx, -⟩ := spP_e h; rw [d_X_e hx]; exact Nat.le_of_ble_eq_true rfl) ?_
  intro Q G hQi hG as hp h
  obtain ⟨x, hx, hpre, hQ⟩ := spP_e h
  rw [d_X_e hx]
  clear h hx
  refine run hG [] 60 ?_
  refine And.intro (fun h1 => absurd h1 (by decide)) (fun h1 => ?_)
  refine And.intro hpre ?_
  refine And.intro (fun h1 => absurd rfl h1) (fun h1 => ?_)
  exact And.intro (Or.inr rfl) hQ
theorem sc_J0_isLatin1_aae02 {own : String} {F L idx : Nat} (h1 : Cond.methodLink own idx yJ0_isLatin1_aae02 ∈ Gw) (hF : 1 ≤ F) (hL : 20 ≤ L) : SC own F L (idx, false, 1, sp_J0_isLatin1_aae02) := SC_X rfl spP_mono c_J0_isLatin1_aae02 (fun as hp K h => by obtain ⟨x, hx, hpre, -⟩ := spP_e h; exact ⟨_, _, hpre, d_X_e hx⟩) h1 gw_650 gw_651 gw_79 gw_652 (by decide +kernel) hF hL
def sp_J3_checkIndex_8e157 : SP := spP d_S_IIF (fun x _ => 0 ≤ x.1 ∧ x.1 < x.2) (fun x _ => vI x.1)
def E_J3_checkIndex_8e157 : EN := []
set_option maxRecDepth 100000 in
set_option maxHeartbeats 4000000 in
theorem c_J3_checkIndex_8e157 : Ctr M_J3_checkIndex_8e157 sp_J3_checkIndex_8e157 := by
  refine ctr_of (own := RJ3) M_J3_checkIndex_8e157 sp_J3_checkIndex_8e157 (P := P_J3_checkIndex_8e157) (K := K_J3) (E := E_J3_checkIndex_8e157) (by decide) rfl pk_J3_checkIndex_8e157 K_J3_ok (fun _ h => absurd h List.not_mem_nil) (fun as hp Q h => by obtain ⟨x, hx, -⟩ := spP_e h; rw [d_S_IIF_e hx]; exact Nat.le_of_ble_eq_true rfl) ?_
  intro Q G hQi hG as hp h
  obtain ⟨x, hx, hpre, hQ⟩ := spP_e h
  rw [d_S_IIF_e hx]
  clear h hx
  obtain ⟨i, n⟩ := x
  try dsimp only at hpre hQ ⊢
  refine run hG [9] 60 ?_
  refine And.intro (fun h1 => absurd h1 (Int32.not_lt.mpr hpre.1)) (fun h1 => ?_)
  exact And.intro (fun h2 => hQ) (fun h2 => absurd hpre.2 h2)
theorem sc_J3_checkIndex_8e157 {own : String} {F L idx : Nat} (h1 : Cond.methodLink own idx yJ3_checkIndex_8e157 ∈ Gw) (hF : 1 ≤ F) (hL : 22 ≤ L) : SC own F L (idx, true, 3, sp_J3_checkIndex_8e157) := SC_S spP_mono c_J3_checkIndex_8e157 h1 gw_662 gw_81 gw_663 (by decide +kernel) hF hL
def sp_J0_checkIndex_df160 : SP := spH d_S_II (fun x _ => 0 ≤ x.1 ∧ x.1 < x.2) (fun _ _ => none) (fun _ hp => hp)
def E_J0_checkIndex_df160 : EN := [(1059, true, 3, sp_J3_checkIndex_8e157)]
set_option maxRecDepth 100000 in
set_option maxHeartbeats 4000000 in
theorem c_J0_checkIndex_df160 : Ctr M_J0_checkIndex_df160 sp_J0_checkIndex_df160 := by
  refine ctr_of (own := RJ0) M_J0_checkIndex_df160 sp_J0_checkIndex_df160 (P := P_J0_checkIndex_df160) (K := K_J0) (E := E_J0_checkIndex_df160) (by decide) rfl pk_J0_checkIndex_df160 K_J0_ok (List.forall_mem_cons.mpr ⟨sc_J3_checkIndex_8e157 gw_661 (by decide) (by decide), fun _ h => absurd h List.not_mem_nil⟩) (fun as hp Q h => by obtain ⟨x, hx, -⟩ := spH_e h; rw [d_S_II_e hx]; exact Nat.le_of_ble_eq_true rfl) ?_
  intro Q G hQi hG as hp h
  obtain ⟨x, hx, hpre, hQ⟩ := spH_e h
  rw [d_S_II_e hx]
  clear h hx
  obtain ⟨i, n⟩ := x
  try dsimp only at hpre hQ ⊢
  refine run hG [] 60 ?_
  exact And.intro hpre hQ
theorem sc_J0_checkIndex_df160 {own : String} {F L idx : Nat} (h1 : Cond.methodLink own idx yJ0_checkIndex_df160 ∈ Gw) (hF : 2 ≤ F) (hL : 43 ≤ L) : SC own F L (idx, true, 2, sp_J0_checkIndex_df160) := SC_S spH_mono c_J0_checkIndex_df160 h1 gw_657 gw_79 gw_658 (by decide +kernel) hF hL
def sp_J1_charAt_3b067 : SP := spP d_S_BI (fun x _ => txok x.1 ∧ vp_in x.2 (tx_n x.1)) (fun x _ => vI (tx_b x.1 x.2.toNatClampNeg))
def E_J1_charAt_3b067 : EN := [(9, true, 2, sp_J0_checkIndex_df160)]
set_option maxRecDepth 100000 in
set_option maxHeartbeats 4000000 in
theorem c_J1_charAt_3b067 : Ctr M_J1_charAt_3b067 sp_J1_charAt_3b067 := by
  refine ctr_of (own := RJ1) M_J1_charAt_3b067 sp_J1_charAt_3b067 (P := P_J1_charAt_3b067) (K := K_J1) (E := E_J1_charAt_3b067) (by decide) rfl pk_J1_charAt_3b067 K_J1_ok (List.forall_mem_cons.mpr ⟨sc_J0_checkIndex_df160 gw_656 (by decide) (by decide), fun _ h => absurd h List.not_mem_nil⟩) (fun as hp Q h => by obtain ⟨x, hx, -⟩ := spP_e h; rw [d_S_BI_e hx]; exact Nat.le_of_ble_eq_true rfl) ?_
  intro Q G hQi hG as hp h
  obtain ⟨x, hx, hpre, hQ⟩ := spP_e h
  rw [d_S_BI_e hx]
  clear h hx
  obtain ⟨m, i⟩ := x
  try dsimp only at hpre hQ ⊢
  have h9 := tx_lt m
  obtain ⟨j, hj, rfl⟩ := vp_in_of hpre.2 (by omega)
  refine run hG [] 60 ?_
  refine And.intro hpre.1 ?_
  refine And.intro ⟨nI_nn (by omega), ?_⟩ ?_
  · show nI j < nI (tx_n m)
    rw [Int32.lt_iff_toInt_lt, nI_toInt (by omega), nI_toInt (by omega)]
    omega
  refine And.intro ⟨hpre.1, hpre.2⟩ ?_
  exact q_c hQ (by rw [nI_clamp (by omega)]; exact hj) (tx_c m (by rw [nI_clamp (by omega)]; exact hj))
theorem sc_J1_charAt_3b067 {own : String} {F L idx : Nat} (h1 : Cond.methodLink own idx yJ1_charAt_3b067 ∈ Gw) (hF : 3 ≤ F) (hL : 64 ≤ L) : SC own F L (idx, true, 2, sp_J1_charAt_3b067) := SC_S spP_mono c_J1_charAt_3b067 h1 gw_654 gw_80 gw_655 (by decide +kernel) hF hL
def sp_J0_charAt_5068e : SP := spP d_X_I (fun x _ => txok x.1 ∧ vp_in x.2 (tx_n x.1)) (fun x _ => vI (tx_b x.1 x.2.toNatClampNeg))
def E_J0_charAt_5068e : EN := [(492, false, 1, sp_J0_isLatin1_aae02), (495, true, 2, sp_J1_charAt_3b067)]
set_option maxRecDepth 100000 in
set_option maxHeartbeats 4000000 in
theorem c_J0_charAt_5068e : Ctr M_J0_charAt_5068e sp_J0_charAt_5068e := by
  refine ctr_of (own := RJ0) M_J0_charAt_5068e sp_J0_charAt_5068e (P := P_J0_charAt_5068e) (K := K_J0) (E := E_J0_charAt_5068e) (by decide) rfl pk_J0_charAt_5068e K_J0_ok (List.forall_mem_cons.mpr ⟨sc_J0_isLatin1_aae02 gw_649 (by decide) (by decide), List.forall_mem_cons.mpr ⟨sc_J1_charAt_3b067 gw_653 (by decide) (by decide), fun _ h => absurd h List.not_mem_nil⟩⟩) (fun as hp Q h => by obtain ⟨x, hx, -⟩ := spP_e h; rw [d_X_I_e hx]; exact Nat.le_of_ble_eq_true rfl) ?_
  intro Q G hQi hG as hp h
  obtain ⟨x, hx, hpre, hQ⟩ := spP_e h
  rw [d_X_I_e hx]
  clear h hx
  obtain ⟨m, i⟩ := x
  try dsimp only at hpre hQ ⊢
  refine run hG [16] 60 ?_
  refine And.intro hpre.1 ?_
  refine And.intro (fun h1 => absurd h1 (by decide)) (fun h1 => ?_)
  refine And.intro hpre.1 ?_
  refine And.intro hpre ?_
  exact q_c hQ (ix_lt hpre.2) rfl
theorem sc_J0_charAt_5068e {own : String} {F L idx : Nat} (h1 : Cond.methodLink own idx yJ0_charAt_5068e ∈ Gw) (hF : 5 ≤ F) (hL : 106 ≤ L) : SC own F L (idx, false, 2, sp_J0_charAt_5068e) := SC_X rfl spP_mono c_J0_charAt_5068e (fun as hp K h => by obtain ⟨x, hx, hpre, -⟩ := spP_e h; exact ⟨_, _, hpre.1, d_X_I_e hx⟩) h1 gw_646 gw_647 gw_79 gw_648 (by decide +kernel) hF hL
