theorem w1_ht (hp : HP) {j : Nat} (v : Int32) (hj : j < 25) : rw_ (uI hp 2 j v) 1 = upd (rw_ hp 1) (19 + j) v := rw_u1 hp 1 v hj
theorem w1_rd (hp : HP) {j : Nat} (v : Int32) (hj : j < 12) : rw_ (uI hp 3 j v) 1 = upd (rw_ hp 1) (7 + j) v := rw_u2 hp 1 v hj
theorem w1_wk (hp : HP) {a b : Nat} (v : Int32) (ha : a < 8) (hb : b < 5) : rw_ (uI hp (5 + a) b v) 1 = upd (rw_ hp 1) (144 + 5 * a + b) v := rw_u4 hp 1 v ha hb
theorem if_01 {p : Prop} [Decidable p] : ¬ (if p then nI 1 else nI 0) = 0 → (if p then nI 1 else nI 0) = nI 1 := by
  split
  · exact fun _ => rfl
  · exact fun h => absurd rfl h
theorem if_10 {p : Prop} [Decidable p] : ¬ (if p then nI 0 else nI 1) = 0 → (if p then nI 0 else nI 1) = nI 1 := by
  split
  · exact fun h => absurd rfl h
  · exact fun _ => rfl
theorem door_v {x o : Int32} (hx : x = nI 0 ∨ x = nI 1) (ho : o = 0 ∨ o = 1) : neV x (opV o) = if x = o then nI 1 else nI 0 := by
  rcases hx with rfl | rfl <;> rcases ho with rfl | rfl <;> decide
theorem mark_v {x o : Int32} (ho : o = 0 ∨ o = 1) : neV x (onV o) = if x = o then nI 0 else nI 1 := by
  rcases ho with rfl | rfl <;> rfl
theorem drI_in {d : Nat} (h : d < 50) : 94 ≤ drI d ∧ drI d < 144 := by
  unfold drI
  split <;> omega
theorem opV_2 (o : Int32) : vp_in (opV o) 2 := by
  unfold opV
  split <;> exact vp_in_nI (by omega) (by omega)
theorem onV_2 (o : Int32) : vp_in (onV o) 2 := by
  unfold onV
  split <;> exact vp_in_nI (by omega) (by omega)
def sp_X4_door : SP := spF d_C_III (fun x hp => (x.2.2 = 0 ∨ x.2.2 = 1) ∧ RX hp) (fun x hp v hq => PO (F_door x.1 x.2.1 x.2.2) hp v hq)
def E_X4_door : EN := [(58, true, 2, sp_X3_doorBetween), (63, false, 2, sp_X4_tell), (67, false, 3, sp_X3_putDoor)]
set_option maxRecDepth 100000 in
set_option maxHeartbeats 4000000 in
theorem c_X4_door : Ctr M_X4_door sp_X4_door := by
  refine ctr_of (own := RX4) M_X4_door sp_X4_door (P := P_X4_door) (K := K_X4) (E := E_X4_door) (by decide) rfl pk_X4_door K_X4_ok (List.forall_mem_cons.mpr ⟨sc_X3_doorBetween gw_279 (by decide) (by decide), List.forall_mem_cons.mpr ⟨sc_X4_tell gw_298 (by decide) (by decide), List.forall_mem_cons.mpr ⟨sc_X3_putDoor gw_302 (by decide) (by decide), fun _ h => absurd h List.not_mem_nil⟩⟩⟩) (fun as hp Q h => by obtain ⟨x, hx, -⟩ := spF_e h; rw [d_C_III_e hx]; exact Nat.le_of_ble_eq_true rfl) ?_
  intro Q G hQi hG as hp h
  obtain ⟨x, hx, hpre, hQ⟩ := spF_e h
  rw [d_C_III_e hx]
  clear h hx
  obtain ⟨a, b, o⟩ := x
  try dsimp only at hpre hQ ⊢
  obtain ⟨ho, m0, h0⟩ := hpre
  refine run hG [7] 60 ?_
  refine And.intro trivial ?_
  refine cl_lv hG [(4, vI (if dbN a b = 99 then -1 else nI (dbN a b))), (0, vR 0 0), (3, vI o)] ⟨rfl, rfl, rfl, trivial⟩ ?_
  rcases dbN_ok a b with ⟨e1, e2⟩ | ⟨e1, e2, e3⟩
  · rw [if_pos e1]
    refine run hG [] 60 ?_
    exact And.intro (fun h1 => absurd h1 (by decide)) (fun h1 => at_no hQ 0 (by omega) (by decide) (qc_r hp) (fun mp h => ⟨mp, qm_r mp, if_pos e2⟩))
  · rw [if_neg (by omega)]
    have hd := drI_in e1
    generalize dbN a b = d at e1 e3 hd
    have val : ∀ mp, RC hp mp → F_door a b o mp = (if bJ (hp.2 1 0) d = o then nI 1 else nI 0, rI mp 53 (upd (mp.1 53) (doN a b) (opV o))) := fun mp h => by
      unfold F_door
      rw [if_neg e2, h.lo (by omega), ← e3, rw_dr hp 1 e1, door_v (bJ_01 _ _) ho]
      rfl
    have fin : ∀ y, (if bJ (hp.2 1 0) d = o then nI 1 else nI 0) = y → Q (some (vI y)) (uL hp 1 0 (shP (hp.2 1 0) d o)) := fun y hy => by
      refine at_w hQ (frm_uL (frm_r 1 hp) (by omega) (by omega)) (fun hz => hiz_sh hz e1 o) (fun mp h => ⟨_, by rw [val mp h, hy], ?_, ?_⟩)
      · rw [rw_ush hp 1 _ _ e1 (fun j hj => shP_bit _ _ e1 hj), e3]
        exact h.ag.up (by omega) rfl
      · exact h.ws.flag (by omega) (by omega) (opV_2 o)
    have ek : (nI d).toNatClampNeg = d := nI_clamp (by omega)
    rw [← ek] at fin
    refine run hG [] 60 ?_
    refine And.intro (fun h1 => ?_) (fun h1 => absurd (nI_nn (by omega)) h1)
    refine And.intro (vp_in_nI e1 (by omega)) ?_
    exact And.intro (fun h2 => fin _ h2) (fun h2 => fin _ (if_01 h2))
theorem sc_X4_door {own : String} {F L idx : Nat} (h1 : Cond.methodLink own idx yX4_door ∈ Gw) (hF : 4 ≤ F) (hL : 89 ≤ L) : SC own F L (idx, false, 4, sp_X4_door) := SC_V spF_mono c_X4_door okd_0 (fun as hp K h => by obtain ⟨x, hx, -⟩ := spF_e h; exact ⟨_, _, d_C_III_e hx⟩) h1 gw_276 gw_277 gw_69 gw_278 (by decide +kernel) hF hL
def sp_X4_isOpen : SP := spF d_C_II (fun _ hp => RX hp) (fun x hp v hq => PO (F_isOpen x.1 x.2) hp v hq)
def E_X4_isOpen : EN := [(58, true, 2, sp_X3_doorBetween), (63, false, 2, sp_X4_tell), (71, false, 2, sp_X3_isShut)]
set_option maxRecDepth 100000 in
set_option maxHeartbeats 4000000 in
theorem c_X4_isOpen : Ctr M_X4_isOpen sp_X4_isOpen := by
  refine ctr_of (own := RX4) M_X4_isOpen sp_X4_isOpen (P := P_X4_isOpen) (K := K_X4) (E := E_X4_isOpen) (by decide) rfl pk_X4_isOpen K_X4_ok (List.forall_mem_cons.mpr ⟨sc_X3_doorBetween gw_279 (by decide) (by decide), List.forall_mem_cons.mpr ⟨sc_X4_tell gw_298 (by decide) (by decide), List.forall_mem_cons.mpr ⟨sc_X3_isShut gw_315 (by decide) (by decide), fun _ h => absurd h List.not_mem_nil⟩⟩⟩) (fun as hp Q h => by obtain ⟨x, hx, -⟩ := spF_e h; rw [d_C_II_e hx]; exact Nat.le_of_ble_eq_true rfl) ?_
  intro Q G hQi hG as hp h
  obtain ⟨x, hx, hpre, hQ⟩ := spF_e h
  rw [d_C_II_e hx]
  clear h hx
  obtain ⟨a, b⟩ := x
  try dsimp only at hpre hQ ⊢
  obtain ⟨m0, h0⟩ := hpre
  refine run hG [6] 60 ?_
  refine And.intro trivial ?_
  refine cl_lv hG [(3, vI (if dbN a b = 99 then -1 else nI (dbN a b))), (0, vR 0 0)] ⟨rfl, rfl, trivial⟩ ?_
  rcases dbN_ok a b with ⟨e1, e2⟩ | ⟨e1, e2, e3⟩
  · rw [if_pos e1]
    refine run hG [] 60 ?_
    exact And.intro (fun h1 => absurd h1 (by decide)) (fun h1 => at_no hQ 0 (by omega) (by decide) (qc_r hp) (fun mp h => ⟨mp, qm_r mp, if_pos e2⟩))
  · rw [if_neg (by omega)]
    have hd := drI_in e1
    generalize dbN a b = d at e1 e3 hd
    have val : ∀ mp, RC hp mp → F_isOpen a b mp = (nI 1 - bJ (hp.2 1 0) d, mp) := fun mp h => by
      unfold F_isOpen
      rw [if_neg e2, h.lo (by omega), ← e3, rw_dr hp 1 e1]
    have ek : (nI d).toNatClampNeg = d := nI_clamp (by omega)
    rw [← ek] at val
    refine run hG [] 60 ?_
    refine And.intro (fun h1 => ?_) (fun h1 => absurd (nI_nn (by omega)) h1)
    refine And.intro (vp_in_nI e1 (by omega)) ?_
    refine And.intro (fun h2 => at_v hQ (fun mp h => ?_)) (fun h2 => at_v hQ (fun mp h => ?_))
    · rw [val mp h, show bJ (hp.2 1 0) (nI d).toNatClampNeg = 0 from h2]
      rfl
    · rw [val mp h, (bJ_01 (hp.2 1 0) (nI d).toNatClampNeg).resolve_left h2]
      rfl
theorem sc_X4_isOpen {own : String} {F L idx : Nat} (h1 : Cond.methodLink own idx yX4_isOpen ∈ Gw) (hF : 4 ≤ F) (hL : 88 ≤ L) : SC own F L (idx, false, 3, sp_X4_isOpen) := SC_V spF_mono c_X4_isOpen okd_0 (fun as hp K h => by obtain ⟨x, hx, -⟩ := spF_e h; exact ⟨_, _, d_C_II_e hx⟩) h1 gw_312 gw_313 gw_69 gw_314 (by decide +kernel) hF hL
def sp_X4_height : SP := spF d_C_II (fun _ hp => RX hp) (fun x hp v hq => PO (F_height x.1 x.2) hp v hq)
def E_X4_height : EN := [(75, true, 1, sp_X4_isSquare), (78, true, 3, sp_X4_isWithin), (63, false, 2, sp_X4_tell)]
set_option maxRecDepth 100000 in
set_option maxHeartbeats 4000000 in
theorem c_X4_height : Ctr M_X4_height sp_X4_height := by
  refine ctr_of (own := RX4) M_X4_height sp_X4_height (P := P_X4_height) (K := K_X4) (E := E_X4_height) (by decide) rfl pk_X4_height K_X4_ok (List.forall_mem_cons.mpr ⟨sc_X4_isSquare gw_320 (by decide) (by decide), List.forall_mem_cons.mpr ⟨sc_X4_isWithin gw_285 (by decide) (by decide), List.forall_mem_cons.mpr ⟨sc_X4_tell gw_298 (by decide) (by decide), fun _ h => absurd h List.not_mem_nil⟩⟩⟩) (fun as hp Q h => by obtain ⟨x, hx, -⟩ := spF_e h; rw [d_C_II_e hx]; exact Nat.le_of_ble_eq_true rfl) ?_
  intro Q G hQi hG as hp h
  obtain ⟨x, hx, hpre, hQ⟩ := spF_e h
  rw [d_C_II_e hx]
  clear h hx
  obtain ⟨q, v⟩ := x
  try dsimp only at hpre hQ ⊢
  obtain ⟨m0, h0⟩ := hpre
  have no : ¬ (inB q 25 = true ∧ inB v 10 = true) → ∀ mp, RC hp mp → ∃ mq, qm mp mq ∧ F_height q v mp = noP mq 0 := fun h mp _ => ⟨mp, qm_r mp, if_neg h⟩
  refine run hG [] 60 ?_
  refine And.intro trivial ?_
  refine And.intro (fun h1 => at_no hQ 0 (by omega) (by decide) (qc_r hp) (no (fun h => by rw [bB_0.mp h1] at h; exact absurd h.1 (by decide)))) (fun h1 => ?_)
  have h1 : inB q 25 = true := bB_1.mp h1
  refine And.intro trivial ?_
  refine And.intro (fun h2 => ?_) (fun h2 => at_no hQ 0 (by omega) (by decide) (qc_r hp) (no (fun h => ?_)))
  · have h2 : inB v 10 = true := (in_b (by omega)).symm.trans (bB_1.mp h2)
    have hq := ix_lt (inB_t.mp h1)
    refine And.intro (inB_t.mp h1) ?_
    refine And.intro (inB_t.mp h1) ?_
    refine at_w hQ (frm_u (frm_r 1 hp) (by omega) (by omega)) (fun hz => hiz_u hz (by omega)) (fun mp h => ⟨upd (mp.1 53) (19 + q.toNatClampNeg) v, ?_, ?_, h.ws.free (by omega) v⟩)
    · unfold F_height
      rw [if_pos ⟨h1, h2⟩, h.lo (by omega), rw_ht hp 1 hq]
      rfl
    · show ag _ (rw_ (uI hp 2 q.toNatClampNeg v) 1)
      rw [w1_ht _ _ hq]
      exact h.ag.up (by omega) rfl
  · have h2 : inB v 10 = false := (in_b (by omega)).symm.trans (bB_0.mp h2)
    rw [h2] at h
    exact absurd h.2 (by decide)
theorem sc_X4_height {own : String} {F L idx : Nat} (h1 : Cond.methodLink own idx yX4_height ∈ Gw) (hF : 3 ≤ F) (hL : 67 ≤ L) : SC own F L (idx, false, 3, sp_X4_height) := SC_V spF_mono c_X4_height okd_0 (fun as hp K h => by obtain ⟨x, hx, -⟩ := spF_e h; exact ⟨_, _, d_C_II_e hx⟩) h1 gw_317 gw_318 gw_69 gw_319 (by decide +kernel) hF hL
def sp_X4_mark : SP := spF d_C_III (fun x hp => (x.2.2 = 0 ∨ x.2.2 = 1) ∧ RX hp) (fun x hp v hq => PO (F_mark x.1 x.2.1 x.2.2) hp v hq)
def E_X4_mark : EN := [(75, true, 1, sp_X4_isSquare), (78, true, 3, sp_X4_isWithin), (63, false, 2, sp_X4_tell), (85, false, 3, sp_X3_putLamp), (88, false, 3, sp_X3_putRiver)]
set_option maxRecDepth 100000 in
set_option maxHeartbeats 4000000 in
theorem c_X4_mark : Ctr M_X4_mark sp_X4_mark := by
  refine ctr_of (own := RX4) M_X4_mark sp_X4_mark (P := P_X4_mark) (K := K_X4) (E := E_X4_mark) (by decide) rfl pk_X4_mark K_X4_ok (List.forall_mem_cons.mpr ⟨sc_X4_isSquare gw_320 (by decide) (by decide), List.forall_mem_cons.mpr ⟨sc_X4_isWithin gw_285 (by decide) (by decide), List.forall_mem_cons.mpr ⟨sc_X4_tell gw_298 (by decide) (by decide), List.forall_mem_cons.mpr ⟨sc_X3_putLamp gw_325 (by decide) (by decide), List.forall_mem_cons.mpr ⟨sc_X3_putRiver gw_333 (by decide) (by decide), fun _ h => absurd h List.not_mem_nil⟩⟩⟩⟩⟩) (fun as hp Q h => by obtain ⟨x, hx, -⟩ := spF_e h; rw [d_C_III_e hx]; exact Nat.le_of_ble_eq_true rfl) ?_
  intro Q G hQi hG as hp h
  obtain ⟨x, hx, hpre, hQ⟩ := spF_e h
  rw [d_C_III_e hx]
  clear h hx
  obtain ⟨q, w, o⟩ := x
  try dsimp only at hpre hQ ⊢
  obtain ⟨ho, m0, h0⟩ := hpre
  have no : ¬ (inB q 25 = true ∧ inB w 2 = true) → ∀ mp, RC hp mp → ∃ mq, qm mp mq ∧ F_mark q w o mp = noP mq 0 := fun h mp _ => ⟨mp, qm_r mp, if_neg h⟩
  have fo : fl01 o = onV o := rfl
  refine run hG [48] 60 ?_
  refine And.intro trivial ?_
  refine And.intro (fun h1 => at_no hQ 0 (by omega) (by decide) (qc_r hp) (no (fun h => by rw [bB_0.mp h1] at h; exact absurd h.1 (by decide)))) (fun h1 => ?_)
  have h1 : inB q 25 = true := bB_1.mp h1
  refine And.intro trivial ?_
  refine And.intro (fun h2 => ?_) (fun h2 => at_no hQ 0 (by omega) (by decide) (qc_r hp) (no (fun h => ?_)))
  · have h2 : inB w 2 = true := (in_b (by omega)).symm.trans (bB_1.mp h2)
    have hq := ix_lt (inB_t.mp h1)
    refine And.intro (fun h3 => ?_) (fun h3 => ?_)
    · have h3 : ¬ w = 0 := h3
      have em : mkN q w = 69 + q.toNatClampNeg := by unfold mkN; rw [if_neg h3]
      have fin : ∀ y, (if bI (hp.1 1 3) q.toNatClampNeg = o then nI 0 else nI 1) = y → Q (some (vI y)) (uI hp 1 3 (bitP (hp.1 1 3) q.toNatClampNeg o)) := fun y hy => by
        refine at_w hQ (frm_u (frm_r 1 hp) (by omega) (by omega)) (fun hz => hiz_rv hz hq o) (fun mp h => ⟨upd (mp.1 53) (69 + q.toNatClampNeg) (onV o), ?_, ?_, h.ws.flag (by omega) (by omega) (onV_2 o)⟩)
        · unfold F_mark
          rw [if_pos ⟨h1, h2⟩, em, h.lo (by omega), rw_rv hp 1 hq, mark_v ho, hy]
          rfl
        · rw [rw_urv hp 1 _ _ hq (fun j hj => bitP_bit _ _ hq hj), fo]
          exact h.ag.up (by omega) rfl
      refine And.intro (inB_t.mp h1) ?_
      refine run hG [] 60 ?_
      exact And.intro (fun h2 => fin _ h2) (fun h2 => fin _ (if_10 h2))
    · have h3 : w = 0 := h3
      have em : mkN q w = 44 + q.toNatClampNeg := by unfold mkN; rw [if_pos h3]
      have fin : ∀ y, (if bI (hp.1 1 2) q.toNatClampNeg = o then nI 0 else nI 1) = y → Q (some (vI y)) (uI hp 1 2 (bitP (hp.1 1 2) q.toNatClampNeg o)) := fun y hy => by
        refine at_w hQ (frm_u (frm_r 1 hp) (by omega) (by omega)) (fun hz => hiz_lm hz hq o) (fun mp h => ⟨upd (mp.1 53) (44 + q.toNatClampNeg) (onV o), ?_, ?_, h.ws.flag (by omega) (by omega) (onV_2 o)⟩)
        · unfold F_mark
          rw [if_pos ⟨h1, h2⟩, em, h.lo (by omega), rw_lm hp 1 hq, mark_v ho, hy]
          rfl
        · rw [rw_ulm hp 1 _ _ hq (fun j hj => bitP_bit _ _ hq hj), fo]
          exact h.ag.up (by omega) rfl
      refine And.intro (inB_t.mp h1) ?_
      refine run hG [] 60 ?_
      exact And.intro (fun h2 => fin _ h2) (fun h2 => fin _ (if_10 h2))
  · have h2 : inB w 2 = false := (in_b (by omega)).symm.trans (bB_0.mp h2)
    rw [h2] at h
    exact absurd h.2 (by decide)
theorem sc_X4_mark {own : String} {F L idx : Nat} (h1 : Cond.methodLink own idx yX4_mark ∈ Gw) (hF : 3 ≤ F) (hL : 68 ≤ L) : SC own F L (idx, false, 4, sp_X4_mark) := SC_V spF_mono c_X4_mark okd_0 (fun as hp K h => by obtain ⟨x, hx, -⟩ := spF_e h; exact ⟨_, _, d_C_III_e hx⟩) h1 gw_322 gw_323 gw_69 gw_324 (by decide +kernel) hF hL
def sp_X4_moon : SP := spF d_C_I (fun _ hp => RX hp) (fun x hp v hq => PO (F_moon x) hp v hq)
def E_X4_moon : EN := [(78, true, 3, sp_X4_isWithin), (63, false, 2, sp_X4_tell)]
set_option maxRecDepth 100000 in
set_option maxHeartbeats 4000000 in
theorem c_X4_moon : Ctr M_X4_moon sp_X4_moon := by
  refine ctr_of (own := RX4) M_X4_moon sp_X4_moon (P := P_X4_moon) (K := K_X4) (E := E_X4_moon) (by decide) rfl pk_X4_moon K_X4_ok (List.forall_mem_cons.mpr ⟨sc_X4_isWithin gw_285 (by decide) (by decide), List.forall_mem_cons.mpr ⟨sc_X4_tell gw_298 (by decide) (by decide), fun _ h => absurd h List.not_mem_nil⟩⟩) (fun as hp Q h => by obtain ⟨x, hx, -⟩ := spF_e h; rw [d_C_I_e hx]; exact Nat.le_of_ble_eq_true rfl) ?_
  intro Q G hQi hG as hp h
  obtain ⟨x, hx, hpre, hQ⟩ := spF_e h
  rw [d_C_I_e hx]
  clear h hx
  obtain ⟨m0, h0⟩ := hpre
  refine run hG [] 60 ?_
  refine And.intro trivial ?_
  refine And.intro (fun h2 => ?_) (fun h2 => at_no hQ 0 (by omega) (by decide) (qc_r hp) (fun mp h => ⟨mp, qm_r mp, if_neg (fun h => ?_)⟩))
  · have h2 : inB x 5 = true := (in_b (by omega)).symm.trans (bB_1.mp h2)
    refine at_w hQ (frm_u (frm_r 1 hp) (by omega) (by omega)) (fun hz => hiz_u hz (by omega)) (fun mp h => ⟨upd (mp.1 53) 2 x, ?_, ?_, h.ws.free (by omega) x⟩)
    · unfold F_moon
      rw [if_pos h2, show (nI 2).toNatClampNeg = 2 from rfl, h.lo (by omega), rw_2]
      rfl
    · show ag _ (rw_ (uI hp 1 4 x) 1)
      rw [ru_2]
      exact h.ag.up (by omega) rfl
  · have h2 : inB x 5 = false := (in_b (by omega)).symm.trans (bB_0.mp h2)
    rw [h2] at h
    exact absurd h (by decide)
theorem sc_X4_moon {own : String} {F L idx : Nat} (h1 : Cond.methodLink own idx yX4_moon ∈ Gw) (hF : 3 ≤ F) (hL : 66 ≤ L) : SC own F L (idx, false, 2, sp_X4_moon) := SC_V spF_mono c_X4_moon okd_0 (fun as hp K h => by obtain ⟨x, hx, -⟩ := spF_e h; exact ⟨_, _, d_C_I_e hx⟩) h1 gw_352 gw_353 gw_69 gw_354 (by decide +kernel) hF hL
def sp_X4_seed : SP := spF d_C_I (fun _ hp => RX hp) (fun x hp v hq => PO (F_seed x) hp v hq)
def E_X4_seed : EN := []
set_option maxRecDepth 100000 in
set_option maxHeartbeats 4000000 in
theorem c_X4_seed : Ctr M_X4_seed sp_X4_seed := by
  refine ctr_of (own := RX4) M_X4_seed sp_X4_seed (P := P_X4_seed) (K := K_X4) (E := E_X4_seed) (by decide) rfl pk_X4_seed K_X4_ok (fun _ h => absurd h List.not_mem_nil) (fun as hp Q h => by obtain ⟨x, hx, -⟩ := spF_e h; rw [d_C_I_e hx]; exact Nat.le_of_ble_eq_true rfl) ?_
  intro Q G hQi hG as hp h
  obtain ⟨x, hx, hpre, hQ⟩ := spF_e h
  rw [d_C_I_e hx]
  clear h hx
  obtain ⟨m0, h0⟩ := hpre
  refine run hG [] 60 ?_
  refine at_w hQ (frm_u (frm_r 1 hp) (by omega) (by omega)) (fun hz => hiz_u hz (by omega)) (fun mp h => ⟨upd (mp.1 53) 1 x, ?_, ?_, h.ws.free (by omega) x⟩)
  · unfold F_seed
    rw [show (nI 1).toNatClampNeg = 1 from rfl, h.lo (by omega), rw_1]
    rfl
  · show ag _ (rw_ (uI hp 1 6 x) 1)
    rw [ru_1]
    exact h.ag.up (by omega) rfl
theorem sc_X4_seed {own : String} {F L idx : Nat} (h1 : Cond.methodLink own idx yX4_seed ∈ Gw) (hF : 1 ≤ F) (hL : 22 ≤ L) : SC own F L (idx, false, 2, sp_X4_seed) := SC_V spF_mono c_X4_seed okd_0 (fun as hp K h => by obtain ⟨x, hx, -⟩ := spF_e h; exact ⟨_, _, d_C_I_e hx⟩) h1 gw_478 gw_479 gw_69 gw_480 (by decide +kernel) hF hL
def F_rest (hp : HP) : Int32 × HP := (hp.1 53 5, rI hp 53 (rstF (hp.1 53)))
theorem ag.rst {f g : Nat → Int32} (h : ag f g) : ag (rstF f) (upd (upd g 5 (nI 0)) 4 (-1)) := by
  unfold rstF
  rw [upd_comm g _ _ (by omega)]
  exact (h.up (by omega) rfl).up (by omega) rfl
def sp_X4_rest : SP := spF d_C (fun _ hp => RX hp) (fun _ hp v hq => PO F_rest hp v hq)
def E_X4_rest : EN := [(112, false, 1, sp_X3_emptyRounds)]
set_option maxRecDepth 100000 in
set_option maxHeartbeats 4000000 in
theorem c_X4_rest : Ctr M_X4_rest sp_X4_rest := by
  refine ctr_of (own := RX4) M_X4_rest sp_X4_rest (P := P_X4_rest) (K := K_X4) (E := E_X4_rest) (by decide) rfl pk_X4_rest K_X4_ok (List.forall_mem_cons.mpr ⟨sc_X3_emptyRounds gw_368 (by decide) (by decide), fun _ h => absurd h List.not_mem_nil⟩) (fun as hp Q h => by obtain ⟨x, hx, -⟩ := spF_e h; rw [d_C_e hx]; exact Nat.le_of_ble_eq_true rfl) ?_
  intro Q G hQi hG as hp h
  obtain ⟨x, hx, hpre, hQ⟩ := spF_e h
  rw [d_C_e hx]
  clear h hx
  obtain ⟨m0, h0⟩ := hpre
  refine run hG [] 60 ?_
  refine And.intro trivial ?_
  refine at_w hQ (frm_u (frm_u (frm_r 1 hp) (by omega) (by omega)) (by omega) (by omega)) (fun hz => hiz_u (hiz_u hz (by omega)) (by omega)) (fun mp h => ⟨rstF (mp.1 53), ?_, ?_, h.ws.rst⟩)
  · unfold F_rest
    rw [h.lo (by omega), rw_5]
  · show ag _ (rw_ (uI (uI hp 1 9 (nI 0)) 1 10 (-1)) 1)
    rw [ru_4, ru_5]
    exact h.ag.rst
theorem sc_X4_rest {own : String} {F L idx : Nat} (h1 : Cond.methodLink own idx yX4_rest ∈ Gw) (hF : 2 ≤ F) (hL : 41 ≤ L) : SC own F L (idx, false, 1, sp_X4_rest) := SC_V spF_mono c_X4_rest okd_0 (fun as hp K h => by obtain ⟨x, hx, -⟩ := spF_e h; exact ⟨_, _, d_C_e hx⟩) h1 gw_365 gw_366 gw_69 gw_367 (by decide +kernel) hF hL
