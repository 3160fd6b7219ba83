def noL (hp : HP) (k : Nat) : Int64 × HP := ((noP hp k).1.toInt64, (noP hp k).2)
def F_odds (w q n : Int32) (hp : HP) : Int64 × HP := if inB w (mN (hp.1 53)) = true ∧ inB q 25 = true ∧ inB n 16 = true then (if hp.1 53 (144 + 5 * w.toNatClampNeg) = nI 4 then (spd (hp.1 53) (hp.1 53 (144 + 5 * w.toNatClampNeg + 2)) n.toNatClampNeg q.toNatClampNeg, hp) else noL hp 4) else noL hp 0
def sp_X5_odds : SP := spF d_M_III (fun _ hp => WF (hp.1 53)) (fun x hp v hq => v = some (vL (F_odds x.1 x.2.1 x.2.2 hp).1) ∧ ∃ g e, hq = rL (rL (F_odds x.1 x.2.1 x.2.2 hp).2 61 g) 60 e)
theorem rL_id {hp : HP} {c : Nat} {f : Nat → Int64} (h : hp.2 c = f) : rL hp c f = hp := by rw [← h, rL_self]
theorem rL_2 (hp : HP) : hp = rL (rL hp 61 (hp.2 61)) 60 (hp.2 60) := by
  rw [rL_self, rL_self]
def E_X5_odds : EN := [(107, false, 2, sp_X5_isWalker), (69, true, 1, sp_X5_isSquare), (55, true, 3, sp_X5_in), (79, false, 2, sp_X5_no), (59, false, 3, sp_X5_has), (185, false, 3, sp_X5_spreads)]
set_option maxRecDepth 100000 in
set_option maxHeartbeats 4000000 in
theorem c_X5_odds : Ctr M_X5_odds sp_X5_odds := by
  refine ctr_of (own := RX5) M_X5_odds sp_X5_odds (P := P_X5_odds) (K := K_X5) (E := E_X5_odds) (by decide) rfl pk_X5_odds K_X5_ok (List.forall_mem_cons.mpr ⟨sc_X5_isWalker gw_962 (by decide) (by decide), List.forall_mem_cons.mpr ⟨sc_X5_isSquare gw_880 (by decide) (by decide), List.forall_mem_cons.mpr ⟨sc_X5_in gw_883 (by decide) (by decide), List.forall_mem_cons.mpr ⟨sc_X5_no gw_895 (by decide) (by decide), List.forall_mem_cons.mpr ⟨sc_X5_has gw_924 (by decide) (by decide), List.forall_mem_cons.mpr ⟨sc_X5_spreads gw_1136 (by decide) (by decide), fun _ h => absurd h List.not_mem_nil⟩⟩⟩⟩⟩⟩) (fun as hp Q h => by obtain ⟨x, hx, -⟩ := spF_e h; rw [d_M_III_e hx]; exact Nat.le_of_ble_eq_true rfl) ?_
  intro Q G hQi hG as hp h
  obtain ⟨x, hx, hpre, hQ⟩ := spF_e h
  rw [d_M_III_e hx]
  clear h hx
  obtain ⟨w, q, n⟩ := x
  try dsimp only at hpre hQ ⊢
  have fin : ∀ p, F_odds w q n hp = p → Q (some (vL p.1)) p.2 := fun p e => hQ _ _ ⟨by rw [e], _, _, by rw [e]; exact rL_2 _⟩
  have c1 : ∀ j, j < 5 → vp_in (nI j) 5 := fun j hj => vp_in_nI hj (by omega)
  refine run hG [] 60 ?_
  refine And.intro hpre.many ?_
  refine And.intro (fun h1 => ?_) (fun h1 => ?_)
  case refine_1 =>
    have h1 : inB w (mN (hp.1 53)) = false := bB_0.mp h1
    exact And.intro (vp_in_nI (by omega) (by omega)) (fin (noL hp 0) (if_neg (fun h => by rw [h1] at h; exact absurd h.1 (by decide))))
  have h1 : inB w (mN (hp.1 53)) = true := bB_1.mp h1
  refine And.intro trivial ?_
  refine And.intro (fun h2 => ?_) (fun h2 => ?_)
  case refine_1 =>
    have h2 : inB q 25 = false := bB_0.mp h2
    exact And.intro (vp_in_nI (by omega) (by omega)) (fin (noL hp 0) (if_neg (fun h => by rw [h2] at h; exact absurd h.2.1 (by decide))))
  have h2 : inB q 25 = true := bB_1.mp h2
  refine And.intro trivial ?_
  refine And.intro (fun h3 => ?_) (fun h3 => ?_)
  case refine_2 =>
    have h3 := bB_0.mp h3
    rw [in_b (by omega)] at h3
    exact And.intro (vp_in_nI (by omega) (by omega)) (fin (noL hp 0) (if_neg (fun h => by rw [h3] at h; exact absurd h.2.2 (by decide))))
  have h3 := bB_1.mp h3
  rw [in_b (by omega)] at h3
  have h3 : inB n 16 = true := h3
  have hF : F_odds w q n hp = _ := if_pos ⟨h1, h2, h3⟩
  have hx8 := in8 hpre.many h1
  refine And.intro ⟨hx8, c1 0 (by omega)⟩ ?_
  refine And.intro (fun h4 => ?_) (fun h4 => ?_)
  · have h4 : hp.1 53 (144 + 5 * w.toNatClampNeg) = nI 4 := h4
    rw [if_pos h4] at hF
    refine And.intro ⟨hx8, c1 2 (by omega)⟩ ?_
    refine And.intro (in_mono (inB_t.mp h3) (by omega)) ?_
    rintro v hq ⟨rfl, g, rfl⟩
    refine And.intro (inB_t.mp h2) ?_
    refine hQ _ _ ⟨?_, g, spd (hp.1 53) (hp.1 53 (144 + 5 * w.toNatClampNeg + 2)) n.toNatClampNeg, by rw [hF]; rfl⟩
    rw [hF]
    show some (vL ((rL (rL hp 61 g) 60 _).2 60 q.toNatClampNeg)) = _
    rw [rL_eq]
    rfl
  · have h4 : ¬ hp.1 53 (144 + 5 * w.toNatClampNeg) = nI 4 := h4
    rw [if_neg h4] at hF
    exact And.intro (vp_in_nI (by omega) (by omega)) (fin _ hF)
theorem sc_X5_odds {own : String} {F L idx : Nat} (h1 : Cond.methodLink own idx yX5_odds ∈ Gw) (hF : 5 ≤ F) (hL : 115 ≤ L) : SC own F L (idx, false, 4, sp_X5_odds) := SC_V spF_mono c_X5_odds okd_5 (fun as hp K h => by obtain ⟨x, hx, -⟩ := spF_e h; exact ⟨_, _, d_M_III_e hx⟩) h1 gw_1133 gw_1134 gw_75 gw_1135 (by decide +kernel) hF hL
def lkB (p : Nat → Int64) : Nat → Nat
  | 0 => 0
  | k + 1 => if p (k + 1) ≤ p (lkB p k) then lkB p k else k + 1
theorem lkB_le (p : Nat → Int64) : ∀ k, lkB p k ≤ k
  | 0 => Nat.le_refl _
  | k + 1 => by
    unfold lkB
    split
    · exact Nat.le_succ_of_le (lkB_le p k)
    · exact Nat.le_refl _
def F_likely (w n : Int32) (hp : HP) : Int32 × HP := if inB w (mN (hp.1 53)) = true ∧ inB n 16 = true then (if hp.1 53 (144 + 5 * w.toNatClampNeg) = nI 4 then (nI (lkB (spd (hp.1 53) (hp.1 53 (144 + 5 * w.toNatClampNeg + 2)) n.toNatClampNeg) 24), hp) else noP hp 4) else noP hp 0
def sp_X5_likeliest : SP := spF d_M_II (fun _ hp => WF (hp.1 53)) (fun x hp v hq => v = some (vI (F_likely x.1 x.2 hp).1) ∧ ∃ g e, hq = rL (rL (F_likely x.1 x.2 hp).2 61 g) 60 e)
def E_X5_likeliest : EN := [(107, false, 2, sp_X5_isWalker), (55, true, 3, sp_X5_in), (79, false, 2, sp_X5_no), (59, false, 3, sp_X5_has), (185, false, 3, sp_X5_spreads)]
set_option maxRecDepth 100000 in
set_option maxHeartbeats 4000000 in
theorem c_X5_likeliest : Ctr M_X5_likeliest sp_X5_likeliest := by
  refine ctr_of (own := RX5) M_X5_likeliest sp_X5_likeliest (P := P_X5_likeliest) (K := K_X5) (E := E_X5_likeliest) (by decide) rfl pk_X5_likeliest K_X5_ok (List.forall_mem_cons.mpr ⟨sc_X5_isWalker gw_962 (by decide) (by decide), List.forall_mem_cons.mpr ⟨sc_X5_in gw_883 (by decide) (by decide), List.forall_mem_cons.mpr ⟨sc_X5_no gw_895 (by decide) (by decide), List.forall_mem_cons.mpr ⟨sc_X5_has gw_924 (by decide) (by decide), List.forall_mem_cons.mpr ⟨sc_X5_spreads gw_1136 (by decide) (by decide), fun _ h => absurd h List.not_mem_nil⟩⟩⟩⟩⟩) (fun as hp Q h => by obtain ⟨x, hx, -⟩ := spF_e h; rw [d_M_II_e hx]; exact Nat.le_of_ble_eq_true rfl) ?_
  intro Q G hQi hG as hp h
  obtain ⟨x, hx, hpre, hQ⟩ := spF_e h
  rw [d_M_II_e hx]
  clear h hx
  obtain ⟨w, n⟩ := x
  try dsimp only at hpre hQ ⊢
  have fin : ∀ p, F_likely w n hp = p → Q (some (vI p.1)) p.2 := fun p e => hQ _ _ ⟨by rw [e], _, _, by rw [e]; exact rL_2 _⟩
  have c1 : ∀ j, j < 5 → vp_in (nI j) 5 := fun j hj => vp_in_nI hj (by omega)
  refine run hG [56] 60 ?_
  refine And.intro hpre.many ?_
  refine And.intro (fun h1 => ?_) (fun h1 => ?_)
  case refine_1 =>
    have h1 : inB w (mN (hp.1 53)) = false := bB_0.mp h1
    exact And.intro (vp_in_nI (by omega) (by omega)) (fin _ (if_neg (fun h => by rw [h1] at h; exact absurd h.1 (by decide))))
  have h1 : inB w (mN (hp.1 53)) = true := bB_1.mp h1
  refine And.intro trivial ?_
  refine And.intro (fun h3 => ?_) (fun h3 => ?_)
  case refine_2 =>
    have h3 := bB_0.mp h3
    rw [in_b (by omega)] at h3
    exact And.intro (vp_in_nI (by omega) (by omega)) (fin _ (if_neg (fun h => by rw [h3] at h; exact absurd h.2 (by decide))))
  have h3 := bB_1.mp h3
  rw [in_b (by omega)] at h3
  have h3 : inB n 16 = true := h3
  have hF : F_likely w n hp = _ := if_pos ⟨h1, h3⟩
  have hx8 := in8 hpre.many h1
  refine And.intro ⟨hx8, c1 0 (by omega)⟩ ?_
  refine And.intro (fun h4 => ?_) (fun h4 => ?_)
  · have h4 : hp.1 53 (144 + 5 * w.toNatClampNeg) = nI 4 := h4
    rw [if_pos h4] at hF
    refine And.intro ⟨hx8, c1 2 (by omega)⟩ ?_
    refine And.intro (in_mono (inB_t.mp h3) (by omega)) ?_
    rintro v hq ⟨rfl, g, rfl⟩
    have hF : F_likely w n hp = (nI (lkB (spd (hp.1 53) (hp.1 53 (144 + 5 * w.toNatClampNeg + (nI 2).toNatClampNeg)) n.toNatClampNeg) 24), hp) := hF
    generalize hsp : spd (hp.1 53) (hp.1 53 (144 + 5 * w.toNatClampNeg + (nI 2).toNatClampNeg)) n.toNatClampNeg = p at hF
    have key := for_up (P := fun k => G 56 [(4, vI (nI (k + 1))), (3, vI (nI (lkB p k))), (0, vR 5 52), (1, vI w), (2, vI n)] [] (rL (rL hp 61 g) 60 p)) 24 (by
      refine run hG [56] 60 ?_
      refine And.intro (fun h1 => ?_) (fun h1 => absurd (by decide) h1)
      exact hQ _ _ ⟨by rw [hF], g, p, by rw [hF]⟩) (by
      intro k hk ih
      have hl := lkB_le p k
      have eb : lkB p (k + 1) = if p (k + 1) ≤ p (lkB p k) then lkB p k else k + 1 := rfl
      rw [eb] at ih
      generalize lkB p k = b at ih hl
      refine run hG [56] 60 ?_
      refine And.intro (fun h1 => absurd h1 (nI_ge (by omega) (by omega))) (fun h1 => ?_)
      refine And.intro (vp_in_nI (by omega) (by omega)) ?_
      refine And.intro (vp_in_nI (by omega) (by omega)) ?_
      refine And.intro (fun h5 => ?_) (fun h5 => ?_)
      · have h5 : lg_cmp ((rL (rL hp 61 g) 60 p).2 60 (nI (k + 1)).toNatClampNeg) ((rL (rL hp 61 g) 60 p).2 60 (nI b).toNatClampNeg) ≤ 0 := h5
        rw [lg_cmp_le, rL_eq, nI_clamp (by omega), nI_clamp (by omega)] at h5
        rw [if_pos h5] at ih
        refine cl_lv hG [(4, vI (nI (k + 1) + nI 1)), (3, vI (nI b)), (0, vR 5 52), (1, vI w), (2, vI n)] ⟨rfl, rfl, rfl, rfl, rfl, trivial⟩ ?_
        rw [nI_s]
        exact ih
      · have h5 : ¬ lg_cmp ((rL (rL hp 61 g) 60 p).2 60 (nI (k + 1)).toNatClampNeg) ((rL (rL hp 61 g) 60 p).2 60 (nI b).toNatClampNeg) ≤ 0 := h5
        rw [lg_cmp_le, rL_eq, nI_clamp (by omega), nI_clamp (by omega)] at h5
        rw [if_neg h5] at ih
        refine cl_lv hG [(4, vI (nI (k + 1) + nI 1)), (3, vI (nI (k + 1))), (0, vR 5 52), (1, vI w), (2, vI n)] ⟨rfl, rfl, rfl, rfl, rfl, trivial⟩ ?_
        rw [nI_s]
        exact ih) 0 (by omega)
    have k8 : G 56 [(4, vI (nI 1)), (3, vI (nI 0)), (0, vR 5 52), (1, vI w), (2, vI n)] [] (rL (rL hp 61 g) 60 p) := key
    exact cl_use hG k8 ⟨rfl, rfl, rfl, rfl, rfl, trivial⟩
  · have h4 : ¬ hp.1 53 (144 + 5 * w.toNatClampNeg) = nI 4 := h4
    rw [if_neg h4] at hF
    exact And.intro (vp_in_nI (by omega) (by omega)) (fin _ hF)
theorem sc_X5_likeliest {own : String} {F L idx : Nat} (h1 : Cond.methodLink own idx yX5_likeliest ∈ Gw) (hF : 5 ≤ F) (hL : 116 ≤ L) : SC own F L (idx, false, 3, sp_X5_likeliest) := SC_V spF_mono c_X5_likeliest okd_5 (fun as hp K h => by obtain ⟨x, hx, -⟩ := spF_e h; exact ⟨_, _, d_M_II_e hx⟩) h1 gw_1142 gw_1143 gw_75 gw_1144 (by decide +kernel) hF hL
def F_wipe (hp : HP) : Int32 × HP := (hp.1 52 11, uI hp 52 11 (nI 0))
def sp_X5_wipe : SP := spH d_M (fun _ _ => True) (fun _ hp => some (vI (F_wipe hp).1)) (fun _ hp => (F_wipe hp).2)
def E_X5_wipe : EN := []
set_option maxRecDepth 100000 in
set_option maxHeartbeats 4000000 in
theorem c_X5_wipe : Ctr M_X5_wipe sp_X5_wipe := by
  refine ctr_of (own := RX5) M_X5_wipe sp_X5_wipe (P := P_X5_wipe) (K := K_X5) (E := E_X5_wipe) (by decide) rfl pk_X5_wipe K_X5_ok (fun _ h => absurd h List.not_mem_nil) (fun as hp Q h => by obtain ⟨x, hx, -⟩ := spH_e h; rw [d_M_e hx]; exact Nat.le_of_ble_eq_true rfl) ?_
  intro Q G hQi hG as hp h
  obtain ⟨x, hx, hpre, hQ⟩ := spH_e h
  rw [d_M_e hx]
  clear h hx
  refine run hG [] 60 ?_
  exact hQ
theorem sc_X5_wipe {own : String} {F L idx : Nat} (h1 : Cond.methodLink own idx yX5_wipe ∈ Gw) (hF : 1 ≤ F) (hL : 21 ≤ L) : SC own F L (idx, false, 1, sp_X5_wipe) := SC_V spH_mono c_X5_wipe okd_5 (fun as hp K h => by obtain ⟨x, hx, -⟩ := spH_e h; exact ⟨_, _, d_M_e hx⟩) h1 gw_1150 gw_1151 gw_75 gw_1152 (by decide +kernel) hF hL
def F_image (hp : HP) : Int32 × HP := (nI 1, uI (rI hp 54 (hp.1 53)) 52 4 (nI 1))
def sp_X5_image : SP := spH d_M (fun _ _ => True) (fun _ hp => some (vI (F_image hp).1)) (fun _ hp => (F_image hp).2)
def E_X5_image : EN := [(164, true, 2, sp_X5_lay)]
set_option maxRecDepth 100000 in
set_option maxHeartbeats 4000000 in
theorem c_X5_image : Ctr M_X5_image sp_X5_image := by
  refine ctr_of (own := RX5) M_X5_image sp_X5_image (P := P_X5_image) (K := K_X5) (E := E_X5_image) (by decide) rfl pk_X5_image K_X5_ok (List.forall_mem_cons.mpr ⟨sc_X5_lay gw_1077 (by decide) (by decide), fun _ h => absurd h List.not_mem_nil⟩) (fun as hp Q h => by obtain ⟨x, hx, -⟩ := spH_e h; rw [d_M_e hx]; exact Nat.le_of_ble_eq_true rfl) ?_
  intro Q G hQi hG as hp h
  obtain ⟨x, hx, hpre, hQ⟩ := spH_e h
  rw [d_M_e hx]
  clear h hx
  refine run hG [] 60 ?_
  refine And.intro ⟨rfl, rfl, by decide⟩ ?_
  exact And.intro (Or.inr rfl) hQ
theorem sc_X5_image {own : String} {F L idx : Nat} (h1 : Cond.methodLink own idx yX5_image ∈ Gw) (hF : 2 ≤ F) (hL : 42 ≤ L) : SC own F L (idx, false, 1, sp_X5_image) := SC_V spH_mono c_X5_image okd_5 (fun as hp K h => by obtain ⟨x, hx, -⟩ := spH_e h; exact ⟨_, _, d_M_e hx⟩) h1 gw_1284 gw_1285 gw_75 gw_1286 (by decide +kernel) hF hL
def F_undo (hp : HP) : Int32 × HP := if hp.1 52 4 = 0 then noP hp 3 else (hp.1 54 6, rI hp 53 (hp.1 54))
def sp_X5_undo : SP := spH d_M (fun _ _ => True) (fun _ hp => some (vI (F_undo hp).1)) (fun _ hp => (F_undo hp).2)
def E_X5_undo : EN := [(79, false, 2, sp_X5_no), (164, true, 2, sp_X5_lay)]
set_option maxRecDepth 100000 in
set_option maxHeartbeats 4000000 in
theorem c_X5_undo : Ctr M_X5_undo sp_X5_undo := by
  refine ctr_of (own := RX5) M_X5_undo sp_X5_undo (P := P_X5_undo) (K := K_X5) (E := E_X5_undo) (by decide) rfl pk_X5_undo K_X5_ok (List.forall_mem_cons.mpr ⟨sc_X5_no gw_895 (by decide) (by decide), List.forall_mem_cons.mpr ⟨sc_X5_lay gw_1077 (by decide) (by decide), fun _ h => absurd h List.not_mem_nil⟩⟩) (fun as hp Q h => by obtain ⟨x, hx, -⟩ := spH_e h; rw [d_M_e hx]; exact Nat.le_of_ble_eq_true rfl) ?_
  intro Q G hQi hG as hp h
  obtain ⟨x, hx, hpre, hQ⟩ := spH_e h
  rw [d_M_e hx]
  clear h hx
  refine run hG [] 60 ?_
  refine And.intro (fun h1 => ?_) (fun h1 => ?_)
  · have h1 : ¬ hp.1 52 4 = 0 := h1
    refine And.intro ⟨rfl, rfl, by decide⟩ ?_
    refine And.intro (vp_in_nI (by omega) (by omega)) ?_
    refine q_F hQ ?_
    unfold F_undo
    rw [if_neg h1]
    refine Prod.ext ?_ rfl
    show hp.1 54 6 = (rI hp 53 (hp.1 54)).1 53 6
    rw [rI_eq]
  · have h1 : hp.1 52 4 = 0 := h1
    refine And.intro (vp_in_nI (by omega) (by omega)) ?_
    refine q_F hQ ?_
    unfold F_undo
    rw [if_pos h1]
    rfl
theorem sc_X5_undo {own : String} {F L idx : Nat} (h1 : Cond.methodLink own idx yX5_undo ∈ Gw) (hF : 2 ≤ F) (hL : 42 ≤ L) : SC own F L (idx, false, 1, sp_X5_undo) := SC_V spH_mono c_X5_undo okd_5 (fun as hp K h => by obtain ⟨x, hx, -⟩ := spH_e h; exact ⟨_, _, d_M_e hx⟩) h1 gw_1288 gw_1289 gw_75 gw_1290 (by decide +kernel) hF hL
def F_tear (hp : HP) : Int32 × HP := (if hp.1 52 4 = 0 then nI 0 else nI 1, uI hp 52 4 (nI 0))
def sp_X5_tear : SP := spH d_M (fun _ _ => True) (fun _ hp => some (vI (F_tear hp).1)) (fun _ hp => (F_tear hp).2)
def E_X5_tear : EN := []
set_option maxRecDepth 100000 in
set_option maxHeartbeats 4000000 in
theorem c_X5_tear : Ctr M_X5_tear sp_X5_tear := by
  refine ctr_of (own := RX5) M_X5_tear sp_X5_tear (P := P_X5_tear) (K := K_X5) (E := E_X5_tear) (by decide) rfl pk_X5_tear K_X5_ok (fun _ h => absurd h List.not_mem_nil) (fun as hp Q h => by obtain ⟨x, hx, -⟩ := spH_e h; rw [d_M_e hx]; exact Nat.le_of_ble_eq_true rfl) ?_
  intro Q G hQi hG as hp h
  obtain ⟨x, hx, hpre, hQ⟩ := spH_e h
  rw [d_M_e hx]
  clear h hx
  refine run hG [] 60 ?_
  refine And.intro (fun h1 => ?_) (fun h1 => ?_)
  · have h1 : hp.1 52 4 = 0 := h1
    refine And.intro (Or.inl rfl) ?_
    refine q_F hQ ?_
    unfold F_tear
    rw [if_pos h1]
  · have h1 : ¬ hp.1 52 4 = 0 := h1
    refine And.intro (Or.inl rfl) ?_
    refine q_F hQ ?_
    unfold F_tear
    rw [if_neg h1]
theorem sc_X5_tear {own : String} {F L idx : Nat} (h1 : Cond.methodLink own idx yX5_tear ∈ Gw) (hF : 1 ≤ F) (hL : 21 ≤ L) : SC own F L (idx, false, 1, sp_X5_tear) := SC_V spH_mono c_X5_tear okd_5 (fun as hp K h => by obtain ⟨x, hx, -⟩ := spH_e h; exact ⟨_, _, d_M_e hx⟩) h1 gw_1292 gw_1293 gw_75 gw_1294 (by decide +kernel) hF hL
