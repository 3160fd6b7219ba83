def tapOK (hp : HP) : Prop := ∃ T, T ≤ 120 ∧ hp.1 52 11 = nI T
def fdR (t : Nat → Int32) (T : Nat) (b : Int32) (n : Nat) : Nat → (Nat → Int32)
  | 0 => t
  | k + 1 => upd (fdR t T b n k) (T + k) (b >>> (nI 8 * nI (n - 1 - k) &&& 31) &&& nI 255)
def F_feed (b n : Int32) (hp : HP) : Int32 × HP := if nI 1 ≤ n ∧ n ≤ nI 4 then (if hp.1 52 11 + n ≤ nI 120 then (hp.1 52 11 + n, rI (rI hp 62 (fdR (hp.1 62) (hp.1 52 11).toNatClampNeg b n.toNatClampNeg n.toNatClampNeg)) 52 (upd (hp.1 52) 11 (hp.1 52 11 + n))) else noP hp 1) else noP hp 0
theorem nI_m1 {m : Nat} (h : 0 < m) : nI m - nI 1 = nI (m - 1) := by
  have := nI_pred (m - 1)
  rw [show m - 1 + 1 = m by omega] at this
  exact this
theorem nI_neg1 : nI 0 - nI 1 = -1 := by decide
theorem add_m1 (x : Int32) : x + -1 = x - nI 1 := by rw [Int32.sub_eq_add_neg]; rfl
theorem upd_upd (f : Nat → Int32) (k : Nat) (a b : Int32) : upd (upd f k a) k b = upd f k b := by
  funext j
  rw [upd_at, upd_at, upd_at]
  split
  · rfl
  · rfl
theorem upd_self (f : Nat → Int32) (k : Nat) : upd f k (f k) = f := by
  funext j
  rw [upd_at]
  split
  · next h => rw [h]
  · rfl
theorem in_nI {x : Int32} {a b : Nat} (hb : b + 1 < 2 ^ 31) (ha : a < 2 ^ 31) (h : nI a ≤ x ∧ x ≤ nI b) : ∃ m, a ≤ m ∧ m ≤ b ∧ x = nI m := by
  obtain ⟨m, hm, rfl⟩ := vp_in_of (in_k h (Nat.lt_succ_self b) (by omega) ha) (by omega)
  refine ⟨m, ?_, by omega, rfl⟩
  have := h.1
  rw [Int32.le_iff_toInt_le, nI_toInt ha, nI_toInt (by omega)] at this
  omega
def sp_X5_feed : SP := spH d_M_II (fun _ hp => tapOK hp) (fun x hp => some (vI (F_feed x.1 x.2 hp).1)) (fun x hp => (F_feed x.1 x.2 hp).2)
def E_X5_feed : EN := [(55, true, 3, sp_X5_in), (79, false, 2, sp_X5_no)]
set_option maxRecDepth 100000 in
set_option maxHeartbeats 4000000 in
theorem c_X5_feed : Ctr M_X5_feed sp_X5_feed := by
  refine ctr_of (own := RX5) M_X5_feed sp_X5_feed (P := P_X5_feed) (K := K_X5) (E := E_X5_feed) (by decide) rfl pk_X5_feed K_X5_ok (List.forall_mem_cons.mpr ⟨sc_X5_in gw_883 (by decide) (by decide), List.forall_mem_cons.mpr ⟨sc_X5_no gw_895 (by decide) (by decide), fun _ h => absurd h List.not_mem_nil⟩⟩) (fun as hp Q h => by obtain ⟨x, hx, -⟩ := spH_e h; rw [d_M_II_e hx]; exact Nat.le_of_ble_eq_true rfl) ?_
  intro Q G hQi hG as hp h
  obtain ⟨x, hx, hpre, hQ⟩ := spH_e h
  rw [d_M_II_e hx]
  clear h hx
  obtain ⟨b, n⟩ := x
  try dsimp only at hpre hQ ⊢
  obtain ⟨T, hT, eT⟩ := hpre
  refine run hG [36] 60 ?_
  refine And.intro trivial ?_
  refine And.intro (fun h1 => ?_) (fun h1 => ?_)
  case refine_2 => exact And.intro (vp_in_nI (by omega) (by omega)) (q_F hQ (if_neg (and_f (bB_0.mp h1))))
  have h1 := and_t.mp (bB_1.mp h1)
  have hF : F_feed b n hp = _ := if_pos h1
  refine And.intro (fun h2 => ?_) (fun h2 => ?_)
  case refine_2 =>
    have h2 : ¬ hp.1 52 11 + n ≤ nI 120 := h2
    rw [if_neg h2] at hF
    exact And.intro (vp_in_nI (by omega) (by omega)) (q_F hQ hF)
  have h2 : hp.1 52 11 + n ≤ nI 120 := h2
  rw [if_pos h2] at hF
  obtain ⟨m, hm1, hm4, rfl⟩ := in_nI (by omega) (by omega) h1
  rw [eT, nI_add] at h2
  have h2 : T + m ≤ 120 := by
    rw [Int32.le_iff_toInt_le, nI_toInt (by omega), nI_toInt (by omega)] at h2
    omega
  rw [eT, nI_add, nI_clamp (by omega), nI_clamp (by omega)] at hF
  have key := for_up (P := fun k => G 36 [(3, vI (nI (m - k) - nI 1)), (0, vR 5 52), (1, vI b), (2, vI (nI m))] [] (rI (rI hp 62 (fdR (hp.1 62) T b m k)) 52 (upd (hp.1 52) 11 (nI (T + k))))) m (by
    rw [Nat.sub_self]
    refine run hG [36] 60 ?_
    refine And.intro (fun h3 => ?_) (fun h3 => absurd (by decide) h3)
    refine q_F hQ ?_
    rw [hF]
    refine Prod.ext ?_ rfl
    show nI (T + m) = (rI (rI hp 62 (fdR (hp.1 62) T b m m)) 52 (upd (hp.1 52) 11 (nI (T + m)))).1 52 11
    rw [rI_eq, upd_at, if_pos rfl]) (by
    intro k hk ih
    have ek : (rI (rI hp 62 (fdR (hp.1 62) T b m k)) 52 (upd (hp.1 52) 11 (nI (T + k)))).1 52 11 = nI (T + k) := by rw [rI_eq, upd_at, if_pos rfl]
    have e1 : nI (m - k) - nI 1 = nI (m - 1 - k) := by rw [nI_m1 (by omega), show m - k - 1 = m - 1 - k by omega]
    rw [e1]
    have u62 : ∀ g o j v, uI (rI (rI hp 62 g) 52 o) 62 j v = rI (rI hp 62 (upd g j v)) 52 o := fun g o j v => by rw [uI_r, rI_ne _ _ (by omega), rI_eq, rI_comm _ _ _ (by omega), rI_rI]
    refine run hG [36] 60 ?_
    refine And.intro (fun h3 => absurd h3 (nI_pos (by omega))) (fun h3 => ?_)
    refine And.intro (show vp_in ((rI (rI hp 62 (fdR (hp.1 62) T b m k)) 52 (upd (hp.1 52) 11 (nI (T + k)))).1 52 11) 120 by rw [ek]; exact vp_in_nI (by omega) (by omega)) ?_
    refine cl_lv hG [(3, vI (nI (m - 1 - k) + -1)), (0, vR 5 52), (1, vI b), (2, vI (nI m))] ⟨rfl, rfl, rfl, rfl, trivial⟩ ?_
    rw [show nI (m - 1 - k) + -1 = nI (m - (k + 1)) - nI 1 by rw [add_m1, show m - 1 - k = m - (k + 1) by omega]]
    show G 36 _ [] (uI (uI (rI (rI hp 62 (fdR (hp.1 62) T b m k)) 52 (upd (hp.1 52) 11 (nI (T + k)))) 62 ((rI (rI hp 62 (fdR (hp.1 62) T b m k)) 52 (upd (hp.1 52) 11 (nI (T + k)))).1 52 11).toNatClampNeg (b >>> (nI 8 * nI (m - 1 - k) &&& 31) &&& nI 255)) 52 11 ((uI (rI (rI hp 62 (fdR (hp.1 62) T b m k)) 52 (upd (hp.1 52) 11 (nI (T + k)))) 62 ((rI (rI hp 62 (fdR (hp.1 62) T b m k)) 52 (upd (hp.1 52) 11 (nI (T + k)))).1 52 11).toNatClampNeg (b >>> (nI 8 * nI (m - 1 - k) &&& 31) &&& nI 255)).1 52 11 + nI 1))
    rw [ek, nI_clamp (by omega), u62, uI_rI, rI_eq, upd_upd, upd_at, if_pos rfl, nI_s]
    exact ih) 0 (by omega)
  have k7 : G 36 [(3, vI (nI m - nI 1)), (0, vR 5 52), (1, vI b), (2, vI (nI m))] [] (rI (rI hp 62 (hp.1 62)) 52 (upd (hp.1 52) 11 (nI T))) := key
  rw [rI_self, rI_id (show hp.1 52 = upd (hp.1 52) 11 (nI T) by rw [← eT, upd_self])] at k7
  exact cl_use hG k7 ⟨rfl, rfl, rfl, rfl, trivial⟩
theorem sc_X5_feed {own : String} {F L idx : Nat} (h1 : Cond.methodLink own idx yX5_feed ∈ Gw) (hF : 2 ≤ F) (hL : 45 ≤ L) : SC own F L (idx, false, 3, sp_X5_feed) := SC_V spH_mono c_X5_feed okd_5 (fun as hp K h => by obtain ⟨x, hx, -⟩ := spH_e h; exact ⟨_, _, d_M_II_e hx⟩) h1 gw_1146 gw_1147 gw_75 gw_1148 (by decide +kernel) hF hL
def smV (f : Nat → Int32) (a n : Nat) : Int32 := fold (fun k s => s + f (a + k)) (nI 0) n
def sp_X5_sumOf : SP := spP d_M_II (fun x _ => ∃ a n, a + n ≤ 184 ∧ x.1 = nI a ∧ x.2 = nI n) (fun x hp => vI (smV (hp.1 53) x.1.toNatClampNeg x.2.toNatClampNeg))
def E_X5_sumOf : EN := []
set_option maxRecDepth 100000 in
set_option maxHeartbeats 4000000 in
theorem c_X5_sumOf : Ctr M_X5_sumOf sp_X5_sumOf := by
  refine ctr_of (own := RX5) M_X5_sumOf sp_X5_sumOf (P := P_X5_sumOf) (K := K_X5) (E := E_X5_sumOf) (by decide) rfl pk_X5_sumOf K_X5_ok (fun _ h => absurd h List.not_mem_nil) (fun as hp Q h => by obtain ⟨x, hx, -⟩ := spP_e h; rw [d_M_II_e hx]; exact Nat.le_of_ble_eq_true rfl) ?_
  intro Q G hQi hG as hp h
  obtain ⟨x, hx, hpre, hQ⟩ := spP_e h
  rw [d_M_II_e hx]
  clear h hx
  obtain ⟨a, n⟩ := x
  try dsimp only at hpre hQ ⊢
  obtain ⟨a, n, han, rfl, rfl⟩ := hpre
  rw [nI_clamp (by omega), nI_clamp (by omega)] at hQ
  have key := for_up (P := fun k => G 5 [(4, vI (nI k)), (3, vI (smV (hp.1 53) a k)), (0, vR 5 52), (1, vI (nI a)), (2, vI (nI n))] [] hp) n (by
    refine run hG [5] 60 ?_
    exact And.intro (fun h1 => hQ) (fun h1 => absurd (nI_le (Nat.le_refl _) (by omega)) h1)) (by
    intro k hk ih
    have e : nI a + nI k = nI (a + k) := nI_add _ _
    have e2 : smV (hp.1 53) a (k + 1) = smV (hp.1 53) a k + hp.1 53 (nI a + nI k).toNatClampNeg := by rw [e, nI_clamp (by omega)]; rfl
    rw [e2] at ih
    refine run hG [5] 60 ?_
    refine And.intro (fun h1 => absurd h1 (nI_ge hk (by omega))) (fun h1 => ?_)
    refine And.intro (show vp_in (nI a + nI k) 184 by rw [e]; exact vp_in_nI (by omega) (by omega)) ?_
    refine cl_lv hG [(4, vI (nI k + nI 1)), (3, _), (0, vR 5 52), (1, vI (nI a)), (2, vI (nI n))] ⟨rfl, rfl, rfl, rfl, rfl, trivial⟩ ?_
    rw [nI_s]
    exact ih) 0 (by omega)
  refine run hG [5] 60 ?_
  exact cl_use hG key ⟨rfl, rfl, rfl, rfl, rfl, trivial⟩
theorem sc_X5_sumOf {own : String} {F L idx : Nat} (h1 : Cond.methodLink own idx yX5_sumOf ∈ Gw) (hF : 1 ≤ F) (hL : 24 ≤ L) : SC own F L (idx, false, 3, sp_X5_sumOf) := SC_V spP_mono c_X5_sumOf okd_5 (fun as hp K h => by obtain ⟨x, hx, -⟩ := spP_e h; exact ⟨_, _, d_M_II_e hx⟩) h1 gw_1301 gw_67 gw_75 gw_1302 (by decide +kernel) hF hL
def F_count (k : Int32) (hp : HP) : Int32 × HP := if k = nI 0 then (hp.1 53 6, hp) else if k = nI 1 then (smV (hp.1 53) 94 25 + smV (hp.1 53) 119 25, hp) else if k = nI 2 then (smV (hp.1 53) 44 25, hp) else if k = nI 3 then (smV (hp.1 53) 69 25, hp) else if k = nI 4 then (hp.1 53 5, hp) else if k = nI 5 then (hp.1 52 11, hp) else if k = nI 6 then (hp.1 53 1, hp) else noP hp 0
def sp_X5_count : SP := spH d_M_I (fun _ _ => True) (fun x hp => some (vI (F_count x hp).1)) (fun x hp => (F_count x hp).2)
def E_X5_count : EN := [(327, false, 3, sp_X5_sumOf), (79, false, 2, sp_X5_no)]
set_option maxRecDepth 100000 in
set_option maxHeartbeats 4000000 in
theorem c_X5_count : Ctr M_X5_count sp_X5_count := by
  refine ctr_of (own := RX5) M_X5_count sp_X5_count (P := P_X5_count) (K := K_X5) (E := E_X5_count) (by decide) rfl pk_X5_count K_X5_ok (List.forall_mem_cons.mpr ⟨sc_X5_sumOf gw_1299 (by decide) (by decide), List.forall_mem_cons.mpr ⟨sc_X5_no gw_895 (by decide) (by decide), fun _ h => absurd h List.not_mem_nil⟩⟩) (fun as hp Q h => by obtain ⟨x, hx, -⟩ := spH_e h; rw [d_M_I_e hx]; exact Nat.le_of_ble_eq_true rfl) ?_
  intro Q G hQi hG as hp h
  obtain ⟨x, hx, hpre, hQ⟩ := spH_e h
  rw [d_M_I_e hx]
  clear h hx
  unfold F_count at hQ
  refine run hG [] 60 ?_
  refine And.intro (fun hz => ?_) (And.intro (fun hz => ?_) (And.intro (fun hz => ?_) (And.intro (fun hz => ?_) (And.intro (fun hz => ?_) (And.intro (fun hz => ?_) (And.intro (fun hz => ?_) (fun hz => ?_)))))))
  · have e : x = nI 0 := eq_toInt (by omega) hz
    rw [if_pos e] at hQ
    exact And.intro (vp_in_nI (by omega) (by omega)) hQ
  · have e : x = nI 1 := eq_toInt (by omega) hz
    rw [if_neg (by rw [e]; decide), if_pos e] at hQ
    exact And.intro ⟨94, 25, by omega, rfl, rfl⟩ (And.intro ⟨119, 25, by omega, rfl, rfl⟩ hQ)
  · have e : x = nI 2 := eq_toInt (by omega) hz
    rw [if_neg (by rw [e]; decide), if_neg (by rw [e]; decide), if_pos e] at hQ
    exact And.intro ⟨44, 25, by omega, rfl, rfl⟩ hQ
  · have e : x = nI 3 := eq_toInt (by omega) hz
    rw [if_neg (by rw [e]; decide), if_neg (by rw [e]; decide), if_neg (by rw [e]; decide), if_pos e] at hQ
    exact And.intro ⟨69, 25, by omega, rfl, rfl⟩ hQ
  · have e : x = nI 4 := eq_toInt (by omega) hz
    rw [if_neg (by rw [e]; decide), if_neg (by rw [e]; decide), if_neg (by rw [e]; decide), if_neg (by rw [e]; decide), if_pos e] at hQ
    exact And.intro (vp_in_nI (by omega) (by omega)) hQ
  · have e : x = nI 5 := eq_toInt (by omega) hz
    rw [if_neg (by rw [e]; decide), if_neg (by rw [e]; decide), if_neg (by rw [e]; decide), if_neg (by rw [e]; decide), if_neg (by rw [e]; decide), if_pos e] at hQ
    exact hQ
  · have e : x = nI 6 := eq_toInt (by omega) hz
    rw [if_neg (by rw [e]; decide), if_neg (by rw [e]; decide), if_neg (by rw [e]; decide), if_neg (by rw [e]; decide), if_neg (by rw [e]; decide), if_neg (by rw [e]; decide), if_pos e] at hQ
    exact And.intro (vp_in_nI (by omega) (by omega)) hQ
  · have ne : ∀ j : Nat, j < 7 → ¬ x = nI j := fun j hj => ne_toInt (by omega) (by omega)
    rw [if_neg (ne 0 (by omega)), if_neg (ne 1 (by omega)), if_neg (ne 2 (by omega)), if_neg (ne 3 (by omega)), if_neg (ne 4 (by omega)), if_neg (ne 5 (by omega)), if_neg (ne 6 (by omega))] at hQ
    exact And.intro (vp_in_nI (by omega) (by omega)) hQ
theorem sc_X5_count {own : String} {F L idx : Nat} (h1 : Cond.methodLink own idx yX5_count ∈ Gw) (hF : 2 ≤ F) (hL : 45 ≤ L) : SC own F L (idx, false, 2, sp_X5_count) := SC_V spH_mono c_X5_count okd_5 (fun as hp K h => by obtain ⟨x, hx, -⟩ := spH_e h; exact ⟨_, _, d_M_I_e hx⟩) h1 gw_1296 gw_1297 gw_75 gw_1298 (by decide +kernel) hF hL
def stV (r : Nat → Int32) (x : Int32) : Int32 := fold (fun k s => s + (if x = -1 ∨ x = nI k then r k else nI 0)) (nI 0) 7
def F_status (x : Int32) (hp : HP) : Int32 × HP := if (-1 : Int32) ≤ x ∧ x ≤ nI 6 then (stV (hp.1 57) x, hp) else noP hp 0
def sp_X5_status : SP := spH d_M_I (fun _ _ => True) (fun x hp => some (vI (F_status x hp).1)) (fun x hp => (F_status x hp).2)
def E_X5_status : EN := [(55, true, 3, sp_X5_in), (79, false, 2, sp_X5_no)]
set_option maxRecDepth 100000 in
set_option maxHeartbeats 4000000 in
theorem c_X5_status : Ctr M_X5_status sp_X5_status := by
  refine ctr_of (own := RX5) M_X5_status sp_X5_status (P := P_X5_status) (K := K_X5) (E := E_X5_status) (by decide) rfl pk_X5_status K_X5_ok (List.forall_mem_cons.mpr ⟨sc_X5_in gw_883 (by decide) (by decide), List.forall_mem_cons.mpr ⟨sc_X5_no gw_895 (by decide) (by decide), fun _ h => absurd h List.not_mem_nil⟩⟩) (fun as hp Q h => by obtain ⟨x, hx, -⟩ := spH_e h; rw [d_M_I_e hx]; exact Nat.le_of_ble_eq_true rfl) ?_
  intro Q G hQi hG as hp h
  obtain ⟨x, hx, hpre, hQ⟩ := spH_e h
  rw [d_M_I_e hx]
  clear h hx
  refine run hG [20] 60 ?_
  refine And.intro trivial ?_
  refine And.intro (fun h1 => ?_) (fun h1 => ?_)
  case refine_2 => exact And.intro (vp_in_nI (by omega) (by omega)) (q_F hQ (if_neg (and_f (bB_0.mp h1))))
  have h1 := and_t.mp (bB_1.mp h1)
  have hF : F_status x hp = _ := if_pos h1
  have key := for_up (P := fun k => G 20 [(3, vI (nI k)), (2, vI (fold (fun k s => s + (if x = -1 ∨ x = nI k then hp.1 57 k else nI 0)) (nI 0) k)), (0, vR 5 52), (1, vI x)] [] hp) 7 (by
    refine run hG [20] 60 ?_
    exact And.intro (fun h1 => q_F hQ hF) (fun h1 => absurd (nI_le (Nat.le_refl _) (by omega)) h1)) (by
    intro k hk ih
    have ih : G 20 [(3, vI (nI (k + 1))), (2, vI (fold (fun k s => s + (if x = -1 ∨ x = nI k then hp.1 57 k else nI 0)) (nI 0) k + (if x = -1 ∨ x = nI k then hp.1 57 k else nI 0))), (0, vR 5 52), (1, vI x)] [] hp := ih
    generalize fold (fun k s => s + (if x = -1 ∨ x = nI k then hp.1 57 k else nI 0)) (nI 0) k = s at ih
    have yes : (x = -1 ∨ x = nI k) → G 20 [(3, vI (nI k + nI 1)), (2, vI (s + hp.1 57 (nI k).toNatClampNeg)), (0, vR 5 52), (1, vI x)] [] hp := fun h => by
      rw [if_pos h] at ih
      rw [nI_s, nI_clamp (by omega)]
      exact ih
    refine run hG [20] 60 ?_
    refine And.intro (fun h1 => absurd h1 (nI_ge hk (by omega))) (fun h1 => ?_)
    refine And.intro (fun h2 => ?_) (fun h2 => ?_)
    · refine And.intro (vp_in_nI (by omega) (by omega)) ?_
      exact cl_use hG (yes (Or.inl h2)) ⟨rfl, rfl, rfl, rfl, trivial⟩
    · refine And.intro (fun h3 => ?_) (fun h3 => ?_)
      · rw [if_neg (fun h => h.elim h2 h3), ← nI_s] at ih
        exact cl_use hG ih ⟨rfl, rfl, rfl, rfl, trivial⟩
      · refine And.intro (vp_in_nI (by omega) (by omega)) ?_
        exact cl_use hG (yes (Or.inr h3)) ⟨rfl, rfl, rfl, rfl, trivial⟩) 0 (by omega)
  exact cl_use hG key ⟨rfl, rfl, rfl, rfl, trivial⟩
theorem sc_X5_status {own : String} {F L idx : Nat} (h1 : Cond.methodLink own idx yX5_status ∈ Gw) (hF : 2 ≤ F) (hL : 45 ≤ L) : SC own F L (idx, false, 2, sp_X5_status) := SC_V spH_mono c_X5_status okd_5 (fun as hp K h => by obtain ⟨x, hx, -⟩ := spH_e h; exact ⟨_, _, d_M_I_e hx⟩) h1 gw_1304 gw_1305 gw_75 gw_1306 (by decide +kernel) hF hL
