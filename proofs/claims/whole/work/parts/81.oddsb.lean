theorem spQ_cg {f : Nat → Int32} {p e : Nat → Int64} (h : ∀ j, j < 25 → e j = p j) : ∀ q, q ≤ 25 → spQ f e q = spQ f p q
  | 0, _ => rfl
  | q + 1, hq => by
    show spW f e q (spA f e q (spQ f e q)) 4 = spW f p q (spA f p q (spQ f p q)) 4
    have hW : ∀ nx w, spW f e q nx w = spW f p q nx w := by
      intro nx w
      induction w with
      | zero => rfl
      | succ w ih =>
        show spB f e q w (spW f e q nx w) = spB f p q w (spW f p q nx w)
        rw [ih]
        unfold spB
        rw [h q (by omega)]
    rw [hW, spQ_cg h q (by omega)]
    unfold spA
    rw [h q (by omega)]
theorem ag_spM {f g : Nat → Int32} (h : ag f g) {q : Nat} (hq : q < 25) : spM g q = spM f q := by
  unfold spM
  rw [h.lo (by omega), h.may hq]
theorem spQ_ag {f g : Nat → Int32} (h : ag f g) (p : Nat → Int64) : ∀ q, q ≤ 25 → spQ g p q = spQ f p q
  | 0, _ => rfl
  | q + 1, hq => by
    show spW g p q (spA g p q (spQ g p q)) 4 = spW f p q (spA f p q (spQ f p q)) 4
    have hW : ∀ nx w, spW g p q nx w = spW f p q nx w := by
      intro nx w
      induction w with
      | zero => rfl
      | succ w ih =>
        show spB g p q w (spW g p q nx w) = spB f p q w (spW f p q nx w)
        rw [ih]
        unfold spB
        rw [ag_spM h (by omega)]
    rw [hW, spQ_ag h p q (by omega)]
    unfold spA
    rw [ag_spM h (by omega)]
theorem spd_ag {f g : Nat → Int32} (h : ag f g) (a : Int32) : ∀ n, spd g a n = spd f a n
  | 0 => rfl
  | n + 1 => by
    show spQ g (spd g a n) 25 = spQ f (spd f a n) 25
    rw [spd_ag h a n, spQ_ag h _ 25 (Nat.le_refl _)]
def od (hp : HP) (g e : Nat → Int64) : HP := rL (rL hp 50 g) 49 e
theorem od_49 (hp : HP) (g e : Nat → Int64) : (od hp g e).2 49 = e := rL_eq _ _ _
theorem od_50 (hp : HP) (g e : Nat → Int64) : (od hp g e).2 50 = g := by unfold od; rw [rL_ne _ _ (by omega), rL_eq]
theorem od_r50 (hp : HP) (g e u : Nat → Int64) : rL (od hp g e) 50 u = od hp u e := by
  unfold od
  rw [rL_comm _ _ _ (by omega), rL_rL]
theorem od_r49 (hp : HP) (g e u : Nat → Int64) : rL (od hp g e) 49 u = od hp g u := by
  unfold od
  rw [rL_rL]
theorem od_self (hp : HP) : od hp (hp.2 50) (hp.2 49) = hp := by
  unfold od
  rw [rL_self, rL_self]
theorem od_row (hp : HP) (g e : Nat → Int64) : rw_ (od hp g e) 1 = rw_ hp 1 := by
  unfold od
  rw [rL_rI_row _ _ _ (by omega), rL_rI_row _ _ _ (by omega)]
theorem od_qc (hp : HP) (g e : Nat → Int64) : qc hp (od hp g e) := fun c hc => ⟨rfl, by unfold od; rw [rL_ne _ _ (by omega), rL_ne _ _ (by omega)]⟩
def sp_X4_spreadOdds : SP := spF d_C_II (fun x _ => vp_in x.1 25 ∧ vp_in x.2 1000) (fun x hp v hq => v = none ∧ ∃ g e, hq = od hp g e ∧ ∀ j, j < 25 → e j = spd (rw_ hp 1) x.1 x.2.toNatClampNeg j)
def E_X4_spreadOdds : EN := [(300, true, 2, sp_J7_fill_d0a16), (306, false, 2, sp_X4_spreadFrom), (273, true, 5, sp_acopy)]
set_option maxRecDepth 100000 in
set_option maxHeartbeats 4000000 in
theorem c_X4_spreadOdds : Ctr M_X4_spreadOdds sp_X4_spreadOdds := by
  refine ctr_of (own := RX4) M_X4_spreadOdds sp_X4_spreadOdds (P := P_X4_spreadOdds) (K := K_X4) (E := E_X4_spreadOdds) (by decide) rfl pk_X4_spreadOdds K_X4_ok (List.forall_mem_cons.mpr ⟨sc_J7_fill_d0a16 gw_578 (by decide) (by decide), List.forall_mem_cons.mpr ⟨sc_X4_spreadFrom gw_581 (by decide) (by decide), List.forall_mem_cons.mpr ⟨SC_acopy (gw_at 586 (by decide +kernel) rfl) (gw_at 503 (by decide +kernel) rfl) (gw_at 502 (by decide +kernel) rfl) (gw_at 78 (by decide +kernel) rfl) (by decide) (by decide), fun _ h => absurd h List.not_mem_nil⟩⟩⟩) (fun as hp Q h => by obtain ⟨x, hx, -⟩ := spF_e h; rw [d_C_II_e hx]; exact Nat.le_of_ble_eq_true rfl) ?_
  intro Q G hQi hG as hp h
  obtain ⟨x, hx, hpre, hQ⟩ := spF_e h
  rw [d_C_II_e hx]
  clear h hx
  obtain ⟨a, n⟩ := x
  try dsimp only at hpre hQ ⊢
  obtain ⟨a, ha, rfl⟩ := vp_in_of hpre.1 (by omega)
  obtain ⟨n, hn, rfl⟩ := vp_in_of hpre.2 (by omega)
  rw [nI_clamp (show n < 2 ^ 31 by omega)] at hQ
  have ea : (nI a).toNatClampNeg = a := nI_clamp (by omega)
  have hQ : ∀ g e, (∀ j, j < 25 → e j = spd (rw_ hp 1) (nI a) n j) → Q none (od hp g e) := fun g e h => hQ _ _ ⟨rfl, g, e, rfl, h⟩
  have rr : ∀ g e, rw_ (od hp g e) 1 = rw_ hp 1 := fun g e => od_row hp g e
  generalize rw_ hp 1 = f at hQ rr
  have key := for_up (P := fun i => ∀ g e, (∀ j, j < 25 → e j = spd f (nI a) i j) → G 17 [(3, vI (nI i)), (2, vI (nI n)), (0, vR 0 0)] [] (od hp g e)) n (by
    intro g e h
    refine run hG [17] 60 ?_
    exact And.intro (fun _ => hQ g e h) (fun h => absurd (show nI n ≤ nI n from nI_le (Nat.le_refl _) (by omega)) h)) (by
    intro i hi ih g e h
    have inner := for_up (P := fun q => G 33 [(4, vI (nI q)), (3, vI (nI i)), (2, vI (nI n)), (0, vR 0 0)] [] (od hp (spQ f e q) e)) 25 (by
      refine run hG [17, 33] 60 ?_
      refine And.intro (fun _ => ?_) (fun h => absurd (show nI 25 ≤ nI 25 by decide) h)
      refine Or.inr (And.intro ⟨by decide, by decide, by decide, by decide, by decide⟩ ?_)
      refine cl_lv hG [(3, vI (nI i + nI 1)), (2, vI (nI n)), (0, vR 0 0)] ⟨rfl, rfl, rfl, trivial⟩ ?_
      show G 17 _ [] (rL (od hp (spQ f e 25) e) 49 (va_cpy ((od hp (spQ f e 25) e).2 50) ((od hp (spQ f e 25) e).2 49) 0 0 25))
      rw [nI_s, od_r49, od_50, od_49]
      refine ih _ _ (fun j hj => ?_)
      unfold va_cpy
      rw [if_pos (by omega), show 0 + (j - 0) = j by omega, spQ_cg h 25 (Nat.le_refl _)]
      rfl) (by
      intro q hq ih2
      have ih2 : G 33 [(4, vI (nI (q + 1))), (3, vI (nI i)), (2, vI (nI n)), (0, vR 0 0)] [] (od hp (spW f e q (spA f e q (spQ f e q)) 4) e) := ih2
      have eq : (nI q).toNatClampNeg = q := nI_clamp (by omega)
      refine run hG [33] 60 ?_
      refine And.intro (fun h => absurd (show nI 25 ≤ nI q from h) (nI_ge hq (by omega))) (fun _ => ?_)
      refine And.intro (vp_in_nI hq (by omega)) ?_
      refine cl_lv hG [(4, vI (nI q + nI 1)), (3, vI (nI i)), (2, vI (nI n)), (0, vR 0 0)] ⟨rfl, rfl, rfl, rfl, trivial⟩ ?_
      show G 33 _ [] (rL (od hp (spQ f e q) e) 50 (spW (rw_ (od hp (spQ f e q) e) 1) ((od hp (spQ f e q) e).2 49) (nI q).toNatClampNeg (spA (rw_ (od hp (spQ f e q) e) 1) ((od hp (spQ f e q) e).2 49) (nI q).toNatClampNeg ((od hp (spQ f e q) e).2 50)) 4))
      rw [nI_s, od_r50, rr, od_49, od_50, eq]
      exact ih2) 0 (by omega)
    refine run hG [33] 60 ?_
    refine And.intro (fun h => absurd (show nI n ≤ nI i from h) (nI_ge hi (by omega))) (fun _ => ?_)
    refine And.intro ⟨Or.inr rfl, rfl⟩ ?_
    refine cl_lv hG [(4, vI (nI 0)), (3, vI (nI i)), (2, vI (nI n)), (0, vR 0 0)] ⟨rfl, rfl, rfl, rfl, trivial⟩ ?_
    show G 33 _ [] (rL (od hp g e) 50 (fun _ => lN 0))
    rw [od_r50]
    exact inner) 0 (by omega)
  refine run hG [17] 60 ?_
  refine And.intro ⟨Or.inr rfl, rfl⟩ ?_
  refine And.intro (vp_in_nI ha (by omega)) ?_
  refine cl_lv hG [(3, vI (nI 0)), (2, vI (nI n)), (0, vR 0 0)] ⟨rfl, rfl, rfl, trivial⟩ ?_
  show G 17 _ [] (uL (rL hp 49 (fun _ => lN 0)) 49 (nI a).toNatClampNeg (lN 1))
  rw [uL_rL, ea, ← od_self hp, od_r49]
  refine key _ _ (fun j hj => ?_)
  show (if j = a then lN 1 else lN 0) = (if nI j = nI a then lN 1 else lN 0)
  by_cases e : j = a
  · rw [if_pos e, if_pos (by rw [e])]
  · rw [if_neg e, if_neg (fun h => e ((nI_eq (by omega) (by omega)).mp h))]
theorem sc_X4_spreadOdds {own : String} {F L idx : Nat} (h1 : Cond.methodLink own idx yX4_spreadOdds ∈ Gw) (hF : 4 ≤ F) (hL : 93 ≤ L) : SC own F L (idx, false, 3, sp_X4_spreadOdds) := SC_V spF_mono c_X4_spreadOdds okd_0 (fun as hp K h => by obtain ⟨x, hx, -⟩ := spF_e h; exact ⟨_, _, d_C_II_e hx⟩) h1 gw_576 gw_8 gw_69 gw_577 (by decide +kernel) hF hL
theorem at_qL {Q : QP} {F : HP → Int64 × HP} {hp hq : HP} {v : Int64} (hQ : ∀ v hq, PJ F hp v hq → Q v hq) (hqc : qc hp hq) (e : ∀ mp, RC hp mp → ∃ mq, qm mp mq ∧ F mp = (v, mq)) : Q (some (vL v)) hq := by
  refine hQ _ _ ⟨qc_mdl hqc, fun mp h => ?_⟩
  obtain ⟨mq, h1, h2⟩ := e mp h
  rw [h2]
  exact ⟨rfl, h.q hqc h1⟩
def sp_X4_odds : SP := spF d_C_III (fun _ hp => RX hp) (fun x hp v hq => PJ (F_odds x.1 x.2.1 x.2.2) hp v hq)
def E_X4_odds : EN := [(128, false, 2, sp_X4_isWalker), (75, true, 1, sp_X4_isSquare), (78, true, 3, sp_X4_isWithin), (63, false, 2, sp_X4_tell), (231, false, 3, sp_X4_spreadOdds)]
set_option maxRecDepth 100000 in
set_option maxHeartbeats 4000000 in
theorem c_X4_odds : Ctr M_X4_odds sp_X4_odds := by
  refine ctr_of (own := RX4) M_X4_odds sp_X4_odds (P := P_X4_odds) (K := K_X4) (E := E_X4_odds) (by decide) rfl pk_X4_odds K_X4_ok (List.forall_mem_cons.mpr ⟨sc_X4_isWalker gw_390 (by decide) (by decide), List.forall_mem_cons.mpr ⟨sc_X4_isSquare gw_320 (by decide) (by decide), List.forall_mem_cons.mpr ⟨sc_X4_isWithin gw_285 (by decide) (by decide), List.forall_mem_cons.mpr ⟨sc_X4_tell gw_298 (by decide) (by decide), List.forall_mem_cons.mpr ⟨sc_X4_spreadOdds gw_574 (by decide) (by decide), fun _ h => absurd h List.not_mem_nil⟩⟩⟩⟩⟩) (fun as hp Q h => by obtain ⟨x, hx, -⟩ := spF_e h; rw [d_C_III_e hx]; exact Nat.le_of_ble_eq_true rfl) ?_
  intro Q G hQi hG as hp h
  obtain ⟨x, hx, hpre, hQ⟩ := spF_e h
  rw [d_C_III_e hx]
  clear h hx
  obtain ⟨w, q, n⟩ := x
  try dsimp only at hpre hQ ⊢
  obtain ⟨m0, h0⟩ := hpre
  have no : ¬ (inB w (mN (rw_ hp 1)) = true ∧ inB q 25 = true ∧ inB n 16 = true) → ∀ mp, RC hp mp → ∃ mq, qm mp mq ∧ F_odds w q n mp = noL mq 0 := fun h mp h2 => ⟨mp, qm_r mp, if_neg (by rw [h2.mn]; exact h)⟩
  refine run hG [] 60 ?_
  refine And.intro ⟨m0, h0⟩ ?_
  refine And.intro (fun h1 => at_noL hQ 0 (by omega) (by decide) (qc_r hp) (no (fun h => by rw [bB_0.mp h1] at h; exact absurd h.1 (by decide)))) (fun h1 => ?_)
  have h1 : inB w (mN (rw_ hp 1)) = true := bB_1.mp h1
  obtain ⟨h8, hl, hl8⟩ := h0.w8 h1
  refine And.intro trivial ?_
  refine And.intro (fun h2 => at_noL hQ 0 (by omega) (by decide) (qc_r hp) (no (fun h => by rw [bB_0.mp h2] at h; exact absurd h.2.1 (by decide)))) (fun h2 => ?_)
  have h2 : inB q 25 = true := bB_1.mp h2
  refine And.intro trivial ?_
  refine And.intro (fun h3 => ?_) (fun h3 => at_noL hQ 0 (by omega) (by decide) (qc_r hp) (no (fun h => by have h5 := h.2.2; rw [← in_b (by omega), show (decide (nI 0 ≤ n) && decide (n ≤ nI 15)) = false from bB_0.mp h3] at h5; exact absurd h5 (by decide))))
  have h3 : inB n 16 = true := (in_b (by omega)).symm.trans (bB_1.mp h3)
  have hc : ∀ mp, RC hp mp → inB w (mN (mp.1 53)) = true ∧ inB q 25 = true ∧ inB n 16 = true := fun mp h => ⟨by rw [h.mn]; exact h1, h2, h3⟩
  have hk0 : ∀ mp, RC hp mp → mp.1 53 (144 + 5 * w.toNatClampNeg) = hp.1 (5 + w.toNatClampNeg) 0 := fun mp h => h.wx h1 (j := 0) (by omega)
  have hk2 : ∀ mp, RC hp mp → mp.1 53 (144 + 5 * w.toNatClampNeg + 2) = hp.1 (5 + w.toNatClampNeg) 2 := fun mp h => h.wx h1 (j := 2) (by omega)
  refine And.intro h8 ?_
  refine And.intro (fun h4 => ?_) (fun h4 => ?_)
  · have h4 : hp.1 (5 + w.toNatClampNeg) 0 = nI 4 := h4
    refine And.intro h8 ?_
    refine And.intro ⟨(h0.ok hl).2.2.1, in_mono (inB_t.mp h3) (by omega)⟩ ?_
    rintro v hq ⟨rfl, g, e, rfl, he⟩
    refine And.intro (inB_t.mp h2) ?_
    refine at_qL hQ (od_qc hp g e) (fun mp h => ⟨mp, qm_r mp, ?_⟩)
    unfold F_odds
    rw [if_pos (hc mp h), if_pos (by rw [hk0 mp h]; exact h4), hk2 mp h, ← spd_ag h.ag, od_49]
    exact Prod.ext (he _ (ix_lt (inB_t.mp h2))).symm rfl
  · have h4 : ¬ hp.1 (5 + w.toNatClampNeg) 0 = nI 4 := h4
    refine at_noL hQ 4 (by omega) (by decide) (qc_r hp) (fun mp h => ⟨mp, qm_r mp, ?_⟩)
    unfold F_odds
    rw [if_pos (hc mp h), if_neg (by rw [hk0 mp h]; exact h4)]
theorem sc_X4_odds {own : String} {F L idx : Nat} (h1 : Cond.methodLink own idx yX4_odds ∈ Gw) (hF : 5 ≤ F) (hL : 116 ≤ L) : SC own F L (idx, false, 4, sp_X4_odds) := SC_V spF_mono c_X4_odds okd_0 (fun as hp K h => by obtain ⟨x, hx, -⟩ := spF_e h; exact ⟨_, _, d_C_III_e hx⟩) h1 gw_571 gw_572 gw_69 gw_573 (by decide +kernel) hF hL
theorem lkB_cg {p e : Nat → Int64} : ∀ k, (∀ j, j ≤ k → e j = p j) → lkB e k = lkB p k
  | 0, _ => rfl
  | k + 1, h => by
    show (if e (k + 1) ≤ e (lkB e k) then lkB e k else k + 1) = (if p (k + 1) ≤ p (lkB p k) then lkB p k else k + 1)
    have hl := lkB_le p k
    rw [lkB_cg k (fun j hj => h j (by omega)), h (k + 1) (Nat.le_refl _), h (lkB p k) (by omega)]
def sp_X4_likeliest : SP := spF d_C_II (fun _ hp => RX hp) (fun x hp v hq => PO (F_likely x.1 x.2) hp v hq)
def E_X4_likeliest : EN := [(128, false, 2, sp_X4_isWalker), (78, true, 3, sp_X4_isWithin), (63, false, 2, sp_X4_tell), (231, false, 3, sp_X4_spreadOdds)]
set_option maxRecDepth 100000 in
set_option maxHeartbeats 4000000 in
theorem c_X4_likeliest : Ctr M_X4_likeliest sp_X4_likeliest := by
  refine ctr_of (own := RX4) M_X4_likeliest sp_X4_likeliest (P := P_X4_likeliest) (K := K_X4) (E := E_X4_likeliest) (by decide) rfl pk_X4_likeliest K_X4_ok (List.forall_mem_cons.mpr ⟨sc_X4_isWalker gw_390 (by decide) (by decide), List.forall_mem_cons.mpr ⟨sc_X4_isWithin gw_285 (by decide) (by decide), List.forall_mem_cons.mpr ⟨sc_X4_tell gw_298 (by decide) (by decide), List.forall_mem_cons.mpr ⟨sc_X4_spreadOdds gw_574 (by decide) (by decide), fun _ h => absurd h List.not_mem_nil⟩⟩⟩⟩) (fun as hp Q h => by obtain ⟨x, hx, -⟩ := spF_e h; rw [d_C_II_e hx]; exact Nat.le_of_ble_eq_true rfl) ?_
  intro Q G hQi hG as hp h
  obtain ⟨x, hx, hpre, hQ⟩ := spF_e h
  rw [d_C_II_e hx]
  clear h hx
  obtain ⟨w, n⟩ := x
  try dsimp only at hpre hQ ⊢
  obtain ⟨m0, h0⟩ := hpre
  have no : ¬ (inB w (mN (rw_ hp 1)) = true ∧ inB n 16 = true) → ∀ mp, RC hp mp → ∃ mq, qm mp mq ∧ F_likely w n mp = noP mq 0 := fun h mp h2 => ⟨mp, qm_r mp, if_neg (by rw [h2.mn]; exact h)⟩
  refine run hG [65] 60 ?_
  refine And.intro ⟨m0, h0⟩ ?_
  refine And.intro (fun h1 => at_no hQ 0 (by omega) (by decide) (qc_r hp) (no (fun h => by rw [bB_0.mp h1] at h; exact absurd h.1 (by decide)))) (fun h1 => ?_)
  have h1 : inB w (mN (rw_ hp 1)) = true := bB_1.mp h1
  obtain ⟨h8, hl, hl8⟩ := h0.w8 h1
  refine And.intro trivial ?_
  refine And.intro (fun h3 => ?_) (fun h3 => at_no hQ 0 (by omega) (by decide) (qc_r hp) (no (fun h => by rw [← in_b (by omega), show (decide (nI 0 ≤ n) && decide (n ≤ nI 15)) = false from bB_0.mp h3] at h; exact absurd h.2 (by decide))))
  have h3 : inB n 16 = true := (in_b (by omega)).symm.trans (bB_1.mp h3)
  have hc : ∀ mp, RC hp mp → inB w (mN (mp.1 53)) = true ∧ inB n 16 = true := fun mp h => ⟨by rw [h.mn]; exact h1, h3⟩
  have hk0 : ∀ mp, RC hp mp → mp.1 53 (144 + 5 * w.toNatClampNeg) = hp.1 (5 + w.toNatClampNeg) 0 := fun mp h => h.wx h1 (j := 0) (by omega)
  have hk2 : ∀ mp, RC hp mp → mp.1 53 (144 + 5 * w.toNatClampNeg + 2) = hp.1 (5 + w.toNatClampNeg) 2 := fun mp h => h.wx h1 (j := 2) (by omega)
  refine And.intro h8 ?_
  refine And.intro (fun h4 => ?_) (fun h4 => ?_)
  · have h4 : hp.1 (5 + w.toNatClampNeg) 0 = nI 4 := h4
    refine And.intro h8 ?_
    refine And.intro ⟨(h0.ok hl).2.2.1, in_mono (inB_t.mp h3) (by omega)⟩ ?_
    rintro v hq ⟨rfl, g, e, rfl, he⟩
    have he : ∀ j, j < 25 → e j = spd (rw_ hp 1) (hp.1 (5 + w.toNatClampNeg) 2) n.toNatClampNeg j := he
    have val : ∀ mp, RC hp mp → F_likely w n mp = (nI (lkB e 24), mp) := fun mp h => by
      unfold F_likely
      rw [if_pos (hc mp h), if_pos (by rw [hk0 mp h]; exact h4), hk2 mp h, ← spd_ag h.ag, lkB_cg (p := spd (rw_ hp 1) (hp.1 (5 + w.toNatClampNeg) 2) n.toNatClampNeg) (e := e) 24 (fun j hj => he j (by omega))]
    have hE := od_49 hp g e
    have hqc := od_qc hp g e
    generalize od hp g e = H at hE hqc
    have key := for_up (P := fun k => G 70 [(4, vI (nI (k + 1))), (3, vI (nI (lkB e k))), (0, vR 0 0)] [] H) 24 (by
      refine run hG [70] 60 ?_
      refine And.intro (fun _ => ?_) (fun h => absurd (show nI 25 ≤ nI 25 by decide) h)
      exact at_q hQ hqc (fun mp h => ⟨mp, qm_r mp, val mp h⟩)) (by
      intro k hk ih
      have ih : G 70 [(4, vI (nI (k + 1 + 1))), (3, vI (nI (if e (k + 1) ≤ e (lkB e k) then lkB e k else k + 1))), (0, vR 0 0)] [] H := ih
      have hlb := lkB_le e k
      show G 70 [(4, vI (nI (k + 1))), (3, vI (nI (lkB e k))), (0, vR 0 0)] [] H
      generalize lkB e k = b at ih hlb
      have e1 : (nI (k + 1)).toNatClampNeg = k + 1 := nI_clamp (by omega)
      have e2 : (nI b).toNatClampNeg = b := nI_clamp (by omega)
      refine run hG [70] 60 ?_
      refine And.intro (fun h => absurd (show nI 25 ≤ nI (k + 1) from h) (nI_ge (by omega) (by omega))) (fun _ => ?_)
      refine And.intro (vp_in_nI (by omega) (by omega)) ?_
      refine And.intro (vp_in_nI (by omega) (by omega)) ?_
      refine And.intro (fun h5 => ?_) (fun h5 => ?_)
      · have h5 : lg_cmp (H.2 49 (nI (k + 1)).toNatClampNeg) (H.2 49 (nI b).toNatClampNeg) ≤ 0 := h5
        rw [lg_cmp_le, hE, e1, e2] at h5
        rw [if_pos h5] at ih
        refine cl_lv hG [(4, vI (nI (k + 1) + nI 1)), (3, vI (nI b)), (0, vR 0 0)] ⟨rfl, rfl, rfl, trivial⟩ ?_
        rw [nI_s]
        exact ih
      · have h5 : ¬ lg_cmp (H.2 49 (nI (k + 1)).toNatClampNeg) (H.2 49 (nI b).toNatClampNeg) ≤ 0 := h5
        rw [lg_cmp_le, hE, e1, e2] at h5
        rw [if_neg h5] at ih
        refine cl_lv hG [(4, vI (nI (k + 1) + nI 1)), (3, vI (nI (k + 1))), (0, vR 0 0)] ⟨rfl, rfl, rfl, trivial⟩ ?_
        rw [nI_s]
        exact ih) 0 (by omega)
    refine run hG [70] 60 ?_
    exact cl_use hG key ⟨rfl, rfl, rfl, trivial⟩
  · have h4 : ¬ hp.1 (5 + w.toNatClampNeg) 0 = nI 4 := h4
    refine at_no hQ 4 (by omega) (by decide) (qc_r hp) (fun mp h => ⟨mp, qm_r mp, ?_⟩)
    unfold F_likely
    rw [if_pos (hc mp h), if_neg (by rw [hk0 mp h]; exact h4)]
theorem sc_X4_likeliest {own : String} {F L idx : Nat} (h1 : Cond.methodLink own idx yX4_likeliest ∈ Gw) (hF : 5 ≤ F) (hL : 117 ≤ L) : SC own F L (idx, false, 3, sp_X4_likeliest) := SC_V spF_mono c_X4_likeliest okd_0 (fun as hp K h => by obtain ⟨x, hx, -⟩ := spF_e h; exact ⟨_, _, d_C_II_e hx⟩) h1 gw_588 gw_589 gw_69 gw_590 (by decide +kernel) hF hL
