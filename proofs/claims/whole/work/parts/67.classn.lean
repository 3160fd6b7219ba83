theorem RC.wx {hp mp : HP} (h : RC hp mp) {w : Int32} (hw : inB w (mN (rw_ hp 1)) = true) {j : Nat} (hj : j < 5) : mp.1 53 (wx w j) = hp.1 (5 + w.toNatClampNeg) j := h.wk (ix_lt (inB_t.mp hw)) hj
theorem RC.w8 {hp mp : HP} (h : RC hp mp) {w : Int32} (hw : inB w (mN (rw_ hp 1)) = true) : vp_in w 8 ∧ w.toNatClampNeg < mN (rw_ hp 1) ∧ w.toNatClampNeg < 8 := by
  have h8 := h.c12.1
  have hl := ix_lt (inB_t.mp hw)
  exact ⟨in_mono (inB_t.mp hw) h8, hl, by omega⟩
theorem v2_01 {x : Int32} (h : vp_in x 2) : x = nI 0 ∨ x = nI 1 := by
  obtain ⟨a, ha, rfl⟩ := vp_in_of h (by omega)
  rcases (show a = 0 ∨ a = 1 by omega) with e | e <;> subst e
  · exact Or.inl rfl
  · exact Or.inr rfl
def sp_X4_of : SP := spF d_C_II (fun _ hp => RX hp) (fun x hp v hq => PO (F_of x.1 x.2) hp v hq)
def E_X4_of : EN := [(128, false, 2, sp_X4_isWalker), (63, false, 2, sp_X4_tell), (152, false, 2, sp_X3_waysFrom)]
set_option maxRecDepth 100000 in
set_option maxHeartbeats 4000000 in
theorem c_X4_of : Ctr M_X4_of sp_X4_of := by
  refine ctr_of (own := RX4) M_X4_of sp_X4_of (P := P_X4_of) (K := K_X4) (E := E_X4_of) (by decide) rfl pk_X4_of K_X4_ok (List.forall_mem_cons.mpr ⟨sc_X4_isWalker gw_390 (by decide) (by decide), List.forall_mem_cons.mpr ⟨sc_X4_tell gw_298 (by decide) (by decide), List.forall_mem_cons.mpr ⟨sc_X3_waysFrom gw_394 (by decide) (by decide), fun _ h => absurd h List.not_mem_nil⟩⟩⟩) (fun as hp Q h => by obtain ⟨x, hx, -⟩ := spF_e h; rw [d_C_II_e hx]; exact Nat.le_of_ble_eq_true rfl) ?_
  intro Q G hQi hG as hp h
  obtain ⟨x, hx, hpre, hQ⟩ := spF_e h
  rw [d_C_II_e hx]
  clear h hx
  obtain ⟨w, k⟩ := x
  try dsimp only at hpre hQ ⊢
  obtain ⟨m0, h0⟩ := hpre
  have no : ¬ (inB w (mN (rw_ hp 1)) = true ∧ inB k 6 = true) → ∀ mp, RC hp mp → ∃ mq, qm mp mq ∧ F_of w k mp = noP mq 0 := fun h mp h2 => ⟨mp, qm_r mp, if_neg (by rw [h2.mn]; exact h)⟩
  refine run hG [] 60 ?_
  refine And.intro ⟨m0, h0⟩ ?_
  refine And.intro (fun h1 => ?_) (fun h1 => at_no hQ 0 (by omega) (by decide) (qc_r hp) (no (fun h => by rw [bB_0.mp h1] at h; exact absurd h.1 (by decide))))
  have h1 : inB w (mN (rw_ hp 1)) = true := bB_1.mp h1
  obtain ⟨h8, hl, hl8⟩ := h0.w8 h1
  have yes : ∀ j, j < 6 → k.toInt = ((j : Nat) : Int) → ∀ y, (∀ mp, RC hp mp → ofV (mp.1 53) w (nI j) = y) → Q (some (vI y)) hp := fun j hj e y hy => at_v hQ (fun mp h => by
    have e := eq_toInt (by omega) e
    unfold F_of
    rw [e, if_pos ⟨by rw [h.mn]; exact h1, inB_t.mpr (vp_in_nI hj (by omega))⟩, hy mp h])
  refine And.intro h8 ?_
  refine And.intro (fun hz => ?_) (And.intro (fun hz => ?_) (And.intro (fun hz => ?_) (And.intro (fun hz => ?_) (And.intro (fun hz => ?_) (And.intro (fun hz => ?_) (fun hz => ?_))))))
  · exact yes 0 (by omega) hz _ (fun mp h => h.wx h1 (j := 0) (by omega))
  · exact yes 1 (by omega) hz _ (fun mp h => h.wx h1 (j := 1) (by omega))
  · exact yes 2 (by omega) hz _ (fun mp h => h.wx h1 (j := 2) (by omega))
  · exact yes 3 (by omega) hz _ (fun mp h => h.wx h1 (j := 3) (by omega))
  · have h01 := v2_01 (h0.ok hl).2.2.2.2
    refine And.intro (fun h2 => ?_) (fun h2 => ?_)
    · have h2 : hp.1 (5 + w.toNatClampNeg) 4 = 0 := h2
      exact yes 4 (by omega) hz _ (fun mp h => (h.wx h1 (j := 4) (by omega)).trans h2)
    · have h2 : ¬ hp.1 (5 + w.toNatClampNeg) 4 = 0 := h2
      exact yes 4 (by omega) hz _ (fun mp h => (h.wx h1 (j := 4) (by omega)).trans (h01.resolve_left h2))
  · have hp2 := (h0.ok hl).2.2.1
    refine And.intro hp2 ?_
    refine yes 5 (by omega) hz _ (fun mp h => ?_)
    show waysC (mayB (mp.1 53) (mp.1 53 (wx w 2)).toNatClampNeg) = waysC (mayB (rw_ hp 1) (hp.1 (5 + w.toNatClampNeg) 2).toNatClampNeg)
    rw [h.wx h1 (by omega), h.ag.may (ix_lt hp2)]
  · exact at_no hQ 0 (by omega) (by decide) (qc_r hp) (no (fun h => by rw [in_f (x := k) (n := 6) (by omega)] at h; exact absurd h.2 (by decide)))
theorem sc_X4_of {own : String} {F L idx : Nat} (h1 : Cond.methodLink own idx yX4_of ∈ Gw) (hF : 3 ≤ F) (hL : 67 ≤ L) : SC own F L (idx, false, 3, sp_X4_of) := SC_V spF_mono c_X4_of okd_0 (fun as hp K h => by obtain ⟨x, hx, -⟩ := spF_e h; exact ⟨_, _, d_C_II_e hx⟩) h1 gw_387 gw_388 gw_69 gw_389 (by decide +kernel) hF hL
theorem WS.wk {f : Nat → Int32} (h : WS f) {i j : Nat} (hi : i < mN f) (hj : j < 5) {v : Int32} (hv : vp_in v (([6, 25, 25, 4, 2] : List Nat).getD j 0)) : WS (upd f (144 + 5 * i + j) v) := by
  refine h.of (fun k hk => ?_) (fun w hw => ?_)
  · unfold keyI at hk
    rw [upd_at, if_neg (by omega)]
  · have hw0 := h.1.wk (w := w) hw
    by_cases e : w = i
    · subst e
      unfold wkOK at hw0 ⊢
      simp only [upd_at]
      rcases (show j = 0 ∨ j = 1 ∨ j = 2 ∨ j = 3 ∨ j = 4 by omega) with e | e | e | e | e <;> subst e
      · rw [if_pos (by omega), if_neg (by omega), if_neg (by omega), if_neg (by omega), if_neg (by omega)]
        exact ⟨hv, hw0.2⟩
      · rw [if_neg (by omega), if_pos rfl, if_neg (by omega), if_neg (by omega), if_neg (by omega)]
        exact ⟨hw0.1, hv, hw0.2.2⟩
      · rw [if_neg (by omega), if_neg (by omega), if_pos rfl, if_neg (by omega), if_neg (by omega)]
        exact ⟨hw0.1, hw0.2.1, hv, hw0.2.2.2⟩
      · rw [if_neg (by omega), if_neg (by omega), if_neg (by omega), if_pos rfl, if_neg (by omega)]
        exact ⟨hw0.1, hw0.2.1, hw0.2.2.1, hv, hw0.2.2.2.2⟩
      · rw [if_neg (by omega), if_neg (by omega), if_neg (by omega), if_neg (by omega), if_pos rfl]
        exact ⟨hw0.1, hw0.2.1, hw0.2.2.1, hw0.2.2.2.1, hv⟩
    · exact wk_same hw0 (fun j2 hj2 => by rw [upd_at, if_neg (by omega)])
theorem at_wk {Q : QP} {F : HP → Int32 × HP} {hp m0 : HP} {v u : Int32} (hQ : ∀ v hq, PO F hp v hq → Q v hq) (h0 : RC hp m0) {w : Int32} (hw : inB w (mN (rw_ hp 1)) = true) {j : Nat} (hj : j < 5) (hu : vp_in u (([6, 25, 25, 4, 2] : List Nat).getD j 0)) (e : ∀ mp, RC hp mp → F mp = (v, uI mp 53 (wx w j) u)) : Q (some (vI v)) (uI hp (5 + w.toNatClampNeg) j u) := by
  obtain ⟨-, hl, hl8⟩ := h0.w8 hw
  refine at_w hQ (frm_u (frm_r 1 hp) (by omega) (by omega)) (fun hz => hiz_u hz (by omega)) (fun mp h => ⟨_, e mp h, ?_, h.ws.wk (by rw [h.mn]; exact hl) hj hu⟩)
  rw [w1_wk _ _ hl8 hj]
  exact h.ag.up (by unfold wx; omega) rfl
def sp_X4_turn : SP := spF d_C_II (fun _ hp => RX hp) (fun x hp v hq => PO (F_turn x.1 x.2) hp v hq)
def E_X4_turn : EN := [(128, false, 2, sp_X4_isWalker), (115, true, 1, sp_X4_isKind), (63, false, 2, sp_X4_tell)]
set_option maxRecDepth 100000 in
set_option maxHeartbeats 4000000 in
theorem c_X4_turn : Ctr M_X4_turn sp_X4_turn := by
  refine ctr_of (own := RX4) M_X4_turn sp_X4_turn (P := P_X4_turn) (K := K_X4) (E := E_X4_turn) (by decide) rfl pk_X4_turn K_X4_ok (List.forall_mem_cons.mpr ⟨sc_X4_isWalker gw_390 (by decide) (by decide), List.forall_mem_cons.mpr ⟨sc_X4_isKind gw_376 (by decide) (by decide), List.forall_mem_cons.mpr ⟨sc_X4_tell gw_298 (by decide) (by decide), fun _ h => absurd h List.not_mem_nil⟩⟩⟩) (fun as hp Q h => by obtain ⟨x, hx, -⟩ := spF_e h; rw [d_C_II_e hx]; exact Nat.le_of_ble_eq_true rfl) ?_
  intro Q G hQi hG as hp h
  obtain ⟨x, hx, hpre, hQ⟩ := spF_e h
  rw [d_C_II_e hx]
  clear h hx
  obtain ⟨w, k⟩ := x
  try dsimp only at hpre hQ ⊢
  obtain ⟨m0, h0⟩ := hpre
  have no : ¬ (inB w (mN (rw_ hp 1)) = true ∧ inB k 6 = true) → ∀ mp, RC hp mp → ∃ mq, qm mp mq ∧ F_turn w k mp = noP mq 0 := fun h mp h2 => ⟨mp, qm_r mp, if_neg (by rw [h2.mn]; exact h)⟩
  refine run hG [] 60 ?_
  refine And.intro ⟨m0, h0⟩ ?_
  refine And.intro (fun h1 => at_no hQ 0 (by omega) (by decide) (qc_r hp) (no (fun h => by rw [bB_0.mp h1] at h; exact absurd h.1 (by decide)))) (fun h1 => ?_)
  have h1 : inB w (mN (rw_ hp 1)) = true := bB_1.mp h1
  refine And.intro trivial ?_
  refine And.intro (fun h2 => ?_) (fun h2 => at_no hQ 0 (by omega) (by decide) (qc_r hp) (no (fun h => by rw [bB_0.mp h2] at h; exact absurd h.2 (by decide))))
  have h2 : inB k 6 = true := bB_1.mp h2
  refine And.intro (h0.w8 h1).1 ?_
  refine at_wk hQ h0 h1 (j := 0) (by omega) (inB_t.mp h2) (fun mp h => ?_)
  unfold F_turn
  rw [if_pos ⟨by rw [h.mn]; exact h1, h2⟩, h.wx h1 (by omega)]
theorem sc_X4_turn {own : String} {F L idx : Nat} (h1 : Cond.methodLink own idx yX4_turn ∈ Gw) (hF : 3 ≤ F) (hL : 68 ≤ L) : SC own F L (idx, false, 3, sp_X4_turn) := SC_V spF_mono c_X4_turn okd_0 (fun as hp K h => by obtain ⟨x, hx, -⟩ := spF_e h; exact ⟨_, _, d_C_II_e hx⟩) h1 gw_407 gw_408 gw_69 gw_409 (by decide +kernel) hF hL
def sp_X4_wake : SP := spF d_C_II (fun x hp => (x.2 = 0 ∨ x.2 = 1) ∧ RX hp) (fun x hp v hq => PO (F_wake x.1 x.2) hp v hq)
def E_X4_wake : EN := [(128, false, 2, sp_X4_isWalker), (63, false, 2, sp_X4_tell)]
set_option maxRecDepth 100000 in
set_option maxHeartbeats 4000000 in
theorem c_X4_wake : Ctr M_X4_wake sp_X4_wake := by
  refine ctr_of (own := RX4) M_X4_wake sp_X4_wake (P := P_X4_wake) (K := K_X4) (E := E_X4_wake) (by decide) rfl pk_X4_wake K_X4_ok (List.forall_mem_cons.mpr ⟨sc_X4_isWalker gw_390 (by decide) (by decide), List.forall_mem_cons.mpr ⟨sc_X4_tell gw_298 (by decide) (by decide), fun _ h => absurd h List.not_mem_nil⟩⟩) (fun as hp Q h => by obtain ⟨x, hx, -⟩ := spF_e h; rw [d_C_II_e hx]; exact Nat.le_of_ble_eq_true rfl) ?_
  intro Q G hQi hG as hp h
  obtain ⟨x, hx, hpre, hQ⟩ := spF_e h
  rw [d_C_II_e hx]
  clear h hx
  obtain ⟨w, o⟩ := x
  try dsimp only at hpre hQ ⊢
  obtain ⟨ho, m0, h0⟩ := hpre
  refine run hG [38] 60 ?_
  refine And.intro ⟨m0, h0⟩ ?_
  refine And.intro (fun h1 => ?_) (fun h1 => at_no hQ 0 (by omega) (by decide) (qc_r hp) (fun mp h => ⟨mp, qm_r mp, if_neg (by rw [h.mn, bB_0.mp h1]; decide)⟩))
  have h1 : inB w (mN (rw_ hp 1)) = true := bB_1.mp h1
  have h1m : ∀ mp, RC hp mp → inB w (mN (mp.1 53)) = true := fun mp h => by rw [h.mn]; exact h1
  have eo : onV o = o := by rcases ho with rfl | rfl <;> rfl
  have o2 : vp_in o 2 := by rw [← eo]; exact onV_2 o
  have fin : ∀ y, neV (hp.1 (5 + w.toNatClampNeg) 4) o = y → Q (some (vI y)) (uI hp (5 + w.toNatClampNeg) 4 o) := fun y hy => by
    refine at_wk hQ h0 h1 (j := 4) (by omega) o2 (fun mp h => ?_)
    unfold F_wake
    rw [if_pos (h1m mp h), h.wx h1 (by omega), eo, hy]
  refine And.intro (h0.w8 h1).1 ?_
  refine And.intro (fun h2 => ?_) (fun h2 => ?_)
  · have h2 : hp.1 (5 + w.toNatClampNeg) 4 = o := h2
    refine run hG [] 60 ?_
    refine And.intro ho ?_
    exact And.intro (fun _ => fin _ (if_pos h2)) (fun h => absurd rfl h)
  · have h2 : ¬ hp.1 (5 + w.toNatClampNeg) 4 = o := h2
    refine run hG [] 60 ?_
    refine And.intro ho ?_
    exact And.intro (fun h => absurd h (by decide)) (fun _ => fin _ (if_neg h2))
theorem sc_X4_wake {own : String} {F L idx : Nat} (h1 : Cond.methodLink own idx yX4_wake ∈ Gw) (hF : 3 ≤ F) (hL : 68 ≤ L) : SC own F L (idx, false, 3, sp_X4_wake) := SC_V spF_mono c_X4_wake okd_0 (fun as hp K h => by obtain ⟨x, hx, -⟩ := spF_e h; exact ⟨_, _, d_C_II_e hx⟩) h1 gw_403 gw_404 gw_69 gw_405 (by decide +kernel) hF hL
def sp_X4_set : SP := spF d_C_III (fun _ hp => RX hp) (fun x hp v hq => PO (F_set x.1 x.2.1 x.2.2) hp v hq)
def E_X4_set : EN := [(128, false, 2, sp_X4_isWalker), (78, true, 3, sp_X4_isWithin), (63, false, 2, sp_X4_tell), (118, true, 1, sp_X4_isWay), (75, true, 1, sp_X4_isSquare)]
set_option maxRecDepth 100000 in
set_option maxHeartbeats 4000000 in
theorem c_X4_set : Ctr M_X4_set sp_X4_set := by
  refine ctr_of (own := RX4) M_X4_set sp_X4_set (P := P_X4_set) (K := K_X4) (E := E_X4_set) (by decide) rfl pk_X4_set K_X4_ok (List.forall_mem_cons.mpr ⟨sc_X4_isWalker gw_390 (by decide) (by decide), List.forall_mem_cons.mpr ⟨sc_X4_isWithin gw_285 (by decide) (by decide), List.forall_mem_cons.mpr ⟨sc_X4_tell gw_298 (by decide) (by decide), List.forall_mem_cons.mpr ⟨sc_X4_isWay gw_379 (by decide) (by decide), List.forall_mem_cons.mpr ⟨sc_X4_isSquare gw_320 (by decide) (by decide), fun _ h => absurd h List.not_mem_nil⟩⟩⟩⟩⟩) (fun as hp Q h => by obtain ⟨x, hx, -⟩ := spF_e h; rw [d_C_III_e hx]; exact Nat.le_of_ble_eq_true rfl) ?_
  intro Q G hQi hG as hp h
  obtain ⟨x, hx, hpre, hQ⟩ := spF_e h
  rw [d_C_III_e hx]
  clear h hx
  obtain ⟨w, k, v⟩ := x
  try dsimp only at hpre hQ ⊢
  obtain ⟨m0, h0⟩ := hpre
  have no : ¬ (inB w (mN (rw_ hp 1)) = true ∧ (nI 1 ≤ k ∧ k ≤ nI 3) ∧ inB v (if k = nI 3 then 4 else 25) = true) → ∀ mp, RC hp mp → ∃ mq, qm mp mq ∧ F_set w k v mp = noP mq 0 := fun h mp h2 => ⟨mp, qm_r mp, if_neg (by rw [h2.mn]; exact h)⟩
  refine run hG [53] 60 ?_
  refine And.intro ⟨m0, h0⟩ ?_
  refine And.intro (fun h1 => at_no hQ 0 (by omega) (by decide) (qc_r hp) (no (fun h => by rw [bB_0.mp h1] at h; exact absurd h.1 (by decide)))) (fun h1 => ?_)
  have h1 : inB w (mN (rw_ hp 1)) = true := bB_1.mp h1
  refine And.intro trivial ?_
  refine And.intro (fun h2 => ?_) (fun h2 => at_no hQ 0 (by omega) (by decide) (qc_r hp) (no (fun h => absurd h.2.1 (and_f (bB_0.mp h2)))))
  have h2 : nI 1 ≤ k ∧ k ≤ nI 3 := and_t.mp (bB_1.mp h2)
  have key : inB v (if k = nI 3 then 4 else 25) = true → G 53 [(0, vR 0 0), (1, vI w), (2, vI k), (3, vI v)] [] hp := fun h3 => by
    have val : ∀ mp, RC hp mp → F_set w k v mp = (mp.1 53 (wx w k.toNatClampNeg), uI mp 53 (wx w k.toNatClampNeg) v) := fun mp h => if_pos ⟨by rw [h.mn]; exact h1, h2, h3⟩
    obtain ⟨j, hj1, hj2, rfl⟩ := in_nI (by omega) (by omega) h2
    have ej : (nI j).toNatClampNeg = j := nI_clamp (by omega)
    rw [ej] at val
    refine run hG [] 60 ?_
    refine And.intro (h0.w8 h1).1 ?_
    refine And.intro (fun h4 => ?_) (fun h4 => ?_)
    · have h4 : ¬ nI j = nI 1 := h4
      rw [nI_eq (by omega) (by omega)] at h4
      refine And.intro (fun h5 => ?_) (fun h5 => ?_)
      · have h5 : ¬ nI j = nI 2 := h5
        rw [nI_eq (by omega) (by omega)] at h5
        have e : j = 3 := by omega
        subst e
        exact at_wk hQ h0 h1 (j := 3) (by omega) (inB_t.mp h3) (fun mp h => by rw [val mp h, h.wx h1 (by omega)])
      · have h5 : nI j = nI 2 := h5
        rw [nI_eq (by omega) (by omega)] at h5
        subst h5
        exact at_wk hQ h0 h1 (j := 2) (by omega) (inB_t.mp h3) (fun mp h => by rw [val mp h, h.wx h1 (by omega)])
    · have h4 : nI j = nI 1 := h4
      rw [nI_eq (by omega) (by omega)] at h4
      subst h4
      exact at_wk hQ h0 h1 (j := 1) (by omega) (inB_t.mp h3) (fun mp h => by rw [val mp h, h.wx h1 (by omega)])
  refine And.intro (fun h3 => ?_) (fun h3 => ?_)
  · have h3 : ¬ k = nI 3 := h3
    rw [if_neg h3] at key no
    refine And.intro trivial ?_
    exact And.intro (fun h4 => cl_use hG (key (bB_1.mp h4)) ⟨rfl, rfl, rfl, rfl, trivial⟩) (fun h4 => at_no hQ 0 (by omega) (by decide) (qc_r hp) (no (fun h => by rw [bB_0.mp h4] at h; exact absurd h.2.2 (by decide))))
  · have h3 : k = nI 3 := h3
    rw [if_pos h3] at key no
    refine And.intro trivial ?_
    exact And.intro (fun h4 => cl_use hG (key (bB_1.mp h4)) ⟨rfl, rfl, rfl, rfl, trivial⟩) (fun h4 => at_no hQ 0 (by omega) (by decide) (qc_r hp) (no (fun h => by rw [bB_0.mp h4] at h; exact absurd h.2.2 (by decide))))
theorem sc_X4_set {own : String} {F L idx : Nat} (h1 : Cond.methodLink own idx yX4_set ∈ Gw) (hF : 3 ≤ F) (hL : 69 ≤ L) : SC own F L (idx, false, 4, sp_X4_set) := SC_V spF_mono c_X4_set okd_0 (fun as hp K h => by obtain ⟨x, hx, -⟩ := spF_e h; exact ⟨_, _, d_C_III_e hx⟩) h1 gw_399 gw_400 gw_69 gw_401 (by decide +kernel) hF hL
