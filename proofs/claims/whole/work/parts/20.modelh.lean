def irG (f : Nat → Int32) (w : Nat) (s : Int32) : Int32 := s ||| (if inR f w = true then nI 1 <<< (nI w &&& 31) else nI 0)
def rvV (f : Nat → Int32) : Int32 := fold (irG f) (nI 0) (mN f)
def sp_X5_inRiver : SP := spP d_M (fun _ hp => WF (hp.1 53)) (fun _ hp => vI (rvV (hp.1 53)))
def E_X5_inRiver : EN := [(139, false, 2, sp_X5_isIn)]
set_option maxRecDepth 100000 in
set_option maxHeartbeats 4000000 in
theorem c_X5_inRiver : Ctr M_X5_inRiver sp_X5_inRiver := by
  refine ctr_of (own := RX5) M_X5_inRiver sp_X5_inRiver (P := P_X5_inRiver) (K := K_X5) (E := E_X5_inRiver) (by decide) rfl pk_X5_inRiver K_X5_ok (List.forall_mem_cons.mpr ⟨sc_X5_isIn gw_1037 (by decide) (by decide), fun _ h => absurd h List.not_mem_nil⟩) (fun as hp Q h => by obtain ⟨x, hx, -⟩ := spP_e h; rw [d_M_e hx]; exact Nat.le_of_ble_eq_true rfl) ?_
  intro Q G hQi hG as hp h
  obtain ⟨x, hx, hpre, hQ⟩ := spP_e h
  rw [d_M_e hx]
  clear h hx
  generalize hf : hp.1 53 = f at hpre hQ
  have h8 := mN_lt hpre
  have e6 : hp.1 53 (nI 6).toNatClampNeg = nI (mN f) := by rw [hf]; exact mN_eq hpre
  have key := for_up (P := fun k => G 4 [(2, vI (nI k)), (1, vI (fold (irG f) (nI 0) k)), (0, vR 5 52)] [] hp) (mN f) (by
    refine run hG [4] 60 ?_
    refine And.intro (vp_in_nI (by omega) (by omega)) ?_
    refine And.intro (fun h1 => hQ) (fun h1 => absurd ?_ h1)
    show hp.1 53 (nI 6).toNatClampNeg ≤ nI (mN f)
    rw [e6]
    exact nI_le (Nat.le_refl _) (by omega)) (by
    intro k hk ih
    have ek : (nI k).toNatClampNeg = k := nI_clamp (by omega)
    have hwk := hpre.wk (w := k) hk
    refine run hG [4] 60 ?_
    refine And.intro (vp_in_nI (by omega) (by omega)) ?_
    refine And.intro (fun h1 => absurd ?_ (nI_ge hk (by omega))) (fun h1 => ?_)
    · have h1 : hp.1 53 (nI 6).toNatClampNeg ≤ nI k := h1
      rw [e6] at h1
      exact h1
    refine And.intro ⟨vp_in_nI (by omega) (by omega), show vp_in (hp.1 53 (144 + 5 * (nI k).toNatClampNeg + 2)) 25 by rw [hf, ek]; exact hwk.2.2.1⟩ ?_
    refine And.intro (fun h2 => ?_) (fun h2 => ?_)
    · have h2 : inR (hp.1 53) (nI k).toNatClampNeg = false := bB_0.mp h2
      rw [hf, ek] at h2
      refine cl_lv hG [(2, vI (nI k + nI 1)), (1, vI (fold (irG f) (nI 0) k ||| nI 0)), (0, vR 5 52)] ⟨rfl, rfl, rfl, trivial⟩ ?_
      rw [nI_s, show fold (irG f) (nI 0) k ||| nI 0 = fold (irG f) (nI 0) (k + 1) by show _ = irG f k _; unfold irG; rw [h2, if_neg (by decide)]]
      exact ih
    · have h2 : inR (hp.1 53) (nI k).toNatClampNeg = true := bB_1.mp h2
      rw [hf, ek] at h2
      refine cl_lv hG [(2, vI (nI k + nI 1)), (1, vI (fold (irG f) (nI 0) k ||| nI 1 <<< (nI k &&& 31))), (0, vR 5 52)] ⟨rfl, rfl, rfl, trivial⟩ ?_
      rw [nI_s, show fold (irG f) (nI 0) k ||| nI 1 <<< (nI k &&& 31) = fold (irG f) (nI 0) (k + 1) by show _ = irG f k _; unfold irG; rw [h2, if_pos rfl]]
      exact ih) 0 (by omega)
  refine run hG [4] 60 ?_
  exact cl_use hG key ⟨rfl, rfl, rfl, trivial⟩
theorem sc_X5_inRiver {own : String} {F L idx : Nat} (h1 : Cond.methodLink own idx yX5_inRiver ∈ Gw) (hF : 3 ≤ F) (hL : 65 ≤ L) : SC own F L (idx, false, 1, sp_X5_inRiver) := SC_V spP_mono c_X5_inRiver okd_5 (fun as hp K h => by obtain ⟨x, hx, -⟩ := spP_e h; exact ⟨_, _, d_M_e hx⟩) h1 gw_1035 gw_38 gw_75 gw_1036 (by decide +kernel) hF hL
def ltB (f : Nat → Int32) (n : Int32) : Bool := decide (¬ f 0 + n ≤ nI 9999)
def sp_X5_isLate : SP := spP d_M_I (fun _ _ => True) (fun x hp => vI (bB (ltB (hp.1 53) x)))
def E_X5_isLate : EN := []
set_option maxRecDepth 100000 in
set_option maxHeartbeats 4000000 in
theorem c_X5_isLate : Ctr M_X5_isLate sp_X5_isLate := by
  refine ctr_of (own := RX5) M_X5_isLate sp_X5_isLate (P := P_X5_isLate) (K := K_X5) (E := E_X5_isLate) (by decide) rfl pk_X5_isLate K_X5_ok (fun _ h => absurd h List.not_mem_nil) (fun as hp Q h => by obtain ⟨x, hx, -⟩ := spP_e h; rw [d_M_I_e hx]; exact Nat.le_of_ble_eq_true rfl) ?_
  intro Q G hQi hG as hp h
  obtain ⟨x, hx, hpre, hQ⟩ := spP_e h
  rw [d_M_I_e hx]
  clear h hx
  refine run hG [] 60 ?_
  refine And.intro (vp_in_nI (by omega) (by omega)) ?_
  refine And.intro (fun h1 => ?_) (fun h1 => ?_)
  · have h1 : hp.1 53 0 + x ≤ nI 9999 := h1
    exact q_b hQ (by unfold ltB; rw [decide_eq_false (fun h => h h1)]; rfl)
  · have h1 : ¬ hp.1 53 0 + x ≤ nI 9999 := h1
    exact q_b hQ (by unfold ltB; rw [decide_eq_true h1]; rfl)
theorem sc_X5_isLate {own : String} {F L idx : Nat} (h1 : Cond.methodLink own idx yX5_isLate ∈ Gw) (hF : 1 ≤ F) (hL : 21 ≤ L) : SC own F L (idx, false, 2, sp_X5_isLate) := SC_V spP_mono c_X5_isLate okd_5 (fun as hp K h => by obtain ⟨x, hx, -⟩ := spP_e h; exact ⟨_, _, d_M_I_e hx⟩) h1 gw_1031 gw_37 gw_75 gw_1032 (by decide +kernel) hF hL
def mtV (f g : Nat → Int32) : Int32 := onesV (rvV g &&& (rvV f ^^^ -1))
def F_minutes (n : Int32) (hp : HP) : Int32 × HP := if nI 1 ≤ n ∧ n ≤ nI 500 then (if ltB (hp.1 53) n = true then noP hp 4 else (mtV (hp.1 53) (goF (hp.1 53) n.toNatClampNeg), rI hp 53 (goF (hp.1 53) n.toNatClampNeg))) else noP hp 0
theorem in_k {v : Int32} {a b N : Nat} (h : nI a ≤ v ∧ v ≤ nI b) (hb : b < N) (hN : N < 2 ^ 31) (ha : a < 2 ^ 31) : vp_in v N := by
  rw [Int32.le_iff_toInt_le, Int32.le_iff_toInt_le, nI_toInt ha, nI_toInt (by omega)] at h
  exact vp_in_iff.mpr (by omega)
theorem and_t {a b : Prop} [Decidable a] [Decidable b] : (decide a && decide b) = true ↔ a ∧ b := by rw [Bool.and_eq_true, decide_eq_true_iff, decide_eq_true_iff]
theorem and_f {a b : Prop} [Decidable a] [Decidable b] (h : (decide a && decide b) = false) : ¬ (a ∧ b) := fun h2 => by
  rw [and_t.mpr h2] at h
  cases h
def sp_X5_minutes : SP := spH d_M_I (fun _ hp => WF (hp.1 53)) (fun x hp => some (vI (F_minutes x hp).1)) (fun x hp => (F_minutes x hp).2)
def E_X5_minutes : EN := [(55, true, 3, sp_X5_in), (79, false, 2, sp_X5_no), (148, false, 2, sp_X5_isLate), (151, false, 1, sp_X5_inRiver), (154, false, 2, sp_X5_go), (124, true, 1, sp_X5_ones)]
set_option maxRecDepth 100000 in
set_option maxHeartbeats 4000000 in
theorem c_X5_minutes : Ctr M_X5_minutes sp_X5_minutes := by
  refine ctr_of (own := RX5) M_X5_minutes sp_X5_minutes (P := P_X5_minutes) (K := K_X5) (E := E_X5_minutes) (by decide) rfl pk_X5_minutes K_X5_ok (List.forall_mem_cons.mpr ⟨sc_X5_in gw_883 (by decide) (by decide), List.forall_mem_cons.mpr ⟨sc_X5_no gw_895 (by decide) (by decide), List.forall_mem_cons.mpr ⟨sc_X5_isLate gw_1029 (by decide) (by decide), List.forall_mem_cons.mpr ⟨sc_X5_inRiver gw_1033 (by decide) (by decide), List.forall_mem_cons.mpr ⟨sc_X5_go gw_1041 (by decide) (by decide), List.forall_mem_cons.mpr ⟨sc_X5_ones gw_1022 (by decide) (by decide), fun _ h => absurd h List.not_mem_nil⟩⟩⟩⟩⟩⟩) (fun as hp Q h => by obtain ⟨x, hx, -⟩ := spH_e h; rw [d_M_I_e hx]; exact Nat.le_of_ble_eq_true rfl) ?_
  intro Q G hQi hG as hp h
  obtain ⟨x, hx, hpre, hQ⟩ := spH_e h
  rw [d_M_I_e hx]
  clear h hx
  refine run hG [] 60 ?_
  refine And.intro trivial ?_
  refine And.intro (fun h1 => ?_) (fun h1 => ?_)
  · have h1 := and_t.mp (bB_1.mp h1)
    have hF : F_minutes x hp = _ := if_pos h1
    rw [hF] at hQ
    refine And.intro trivial ?_
    refine And.intro (fun h2 => ?_) (fun h2 => ?_)
    · have h2 : ltB (hp.1 53) x = false := bB_0.mp h2
      rw [if_neg (by rw [h2]; decide)] at hQ
      refine And.intro hpre ?_
      refine And.intro ⟨hpre, in_k h1 (by omega) (by omega) (by omega)⟩ ?_
      refine And.intro (show WF ((rI hp 53 (goF (hp.1 53) x.toNatClampNeg)).1 53) by rw [rI_eq]; exact (hpre.go _).1) ?_
      refine And.intro trivial ?_
      refine q_i hQ ?_
      show onesV (rvV ((rI hp 53 (goF (hp.1 53) x.toNatClampNeg)).1 53) &&& (rvV (hp.1 53) ^^^ -1)) = _
      rw [rI_eq]
      rfl
    · have h2 : ltB (hp.1 53) x = true := bB_1.mp h2
      rw [if_pos h2] at hQ
      exact And.intro (vp_in_nI (by omega) (by omega)) hQ
  · have h1 := and_f (bB_0.mp h1)
    have hF : F_minutes x hp = noP hp 0 := if_neg h1
    rw [hF] at hQ
    exact And.intro (vp_in_nI (by omega) (by omega)) hQ
theorem sc_X5_minutes {own : String} {F L idx : Nat} (h1 : Cond.methodLink own idx yX5_minutes ∈ Gw) (hF : 8 ≤ F) (hL : 182 ≤ L) : SC own F L (idx, false, 2, sp_X5_minutes) := SC_V spH_mono c_X5_minutes okd_5 (fun as hp K h => by obtain ⟨x, hx, -⟩ := spH_e h; exact ⟨_, _, d_M_I_e hx⟩) h1 gw_1026 gw_1027 gw_75 gw_1028 (by decide +kernel) hF hL
def hmG (f : Nat → Int32) (w : Nat) (s : Int32) : Int32 := s + (if f (144 + 5 * w + 2) = f (144 + 5 * w + 1) then nI 1 else nI 0)
def hmV (f : Nat → Int32) : Int32 := fold (hmG f) (nI 0) (mN f)
def sp_X5_homeMany : SP := spP d_M (fun _ hp => many (hp.1 53)) (fun _ hp => vI (hmV (hp.1 53)))
def E_X5_homeMany : EN := [(59, false, 3, sp_X5_has)]
set_option maxRecDepth 100000 in
set_option maxHeartbeats 4000000 in
theorem c_X5_homeMany : Ctr M_X5_homeMany sp_X5_homeMany := by
  refine ctr_of (own := RX5) M_X5_homeMany sp_X5_homeMany (P := P_X5_homeMany) (K := K_X5) (E := E_X5_homeMany) (by decide) rfl pk_X5_homeMany K_X5_ok (List.forall_mem_cons.mpr ⟨sc_X5_has gw_924 (by decide) (by decide), fun _ h => absurd h List.not_mem_nil⟩) (fun as hp Q h => by obtain ⟨x, hx, -⟩ := spP_e h; rw [d_M_e hx]; exact Nat.le_of_ble_eq_true rfl) ?_
  intro Q G hQi hG as hp h
  obtain ⟨x, hx, hpre, hQ⟩ := spP_e h
  rw [d_M_e hx]
  clear h hx
  obtain ⟨n, hn, e0⟩ := hpre
  have em : mN (hp.1 53) = n := by unfold mN; rw [e0, nI_clamp (by omega)]
  unfold hmV at hQ
  rw [em] at hQ
  have e6 : hp.1 53 (nI 6).toNatClampNeg = nI n := e0
  have key := for_up (P := fun k => G 4 [(2, vI (nI k)), (1, vI (fold (hmG (hp.1 53)) (nI 0) k)), (0, vR 5 52)] [] hp) n (by
    refine run hG [4] 60 ?_
    refine And.intro (vp_in_nI (by omega) (by omega)) ?_
    refine And.intro (fun h1 => hQ) (fun h1 => absurd ?_ h1)
    show hp.1 53 (nI 6).toNatClampNeg ≤ nI n
    rw [e6]
    exact nI_le (Nat.le_refl _) (by omega)) (by
    intro k hk ih
    have ek : (nI k).toNatClampNeg = k := nI_clamp (by omega)
    refine run hG [4] 60 ?_
    refine And.intro (vp_in_nI (by omega) (by omega)) ?_
    refine And.intro (fun h1 => absurd ?_ (nI_ge hk (by omega))) (fun h1 => ?_)
    · have h1 : hp.1 53 (nI 6).toNatClampNeg ≤ nI k := h1
      rw [e6] at h1
      exact h1
    refine And.intro ⟨vp_in_nI (by omega) (by omega), vp_in_nI (by omega) (by omega)⟩ ?_
    refine And.intro ⟨vp_in_nI (by omega) (by omega), vp_in_nI (by omega) (by omega)⟩ ?_
    refine And.intro (fun h2 => ?_) (fun h2 => ?_)
    · have h2 : ¬ hp.1 53 (144 + 5 * (nI k).toNatClampNeg + 2) = hp.1 53 (144 + 5 * (nI k).toNatClampNeg + 1) := h2
      rw [ek] at h2
      refine cl_lv hG [(2, vI (nI k + nI 1)), (1, vI (fold (hmG (hp.1 53)) (nI 0) k + nI 0)), (0, vR 5 52)] ⟨rfl, rfl, rfl, trivial⟩ ?_
      rw [nI_s, show fold (hmG (hp.1 53)) (nI 0) k + nI 0 = fold (hmG (hp.1 53)) (nI 0) (k + 1) by show _ = hmG (hp.1 53) k _; unfold hmG; rw [if_neg h2]]
      exact ih
    · have h2 : hp.1 53 (144 + 5 * (nI k).toNatClampNeg + 2) = hp.1 53 (144 + 5 * (nI k).toNatClampNeg + 1) := h2
      rw [ek] at h2
      refine cl_lv hG [(2, vI (nI k + nI 1)), (1, vI (fold (hmG (hp.1 53)) (nI 0) k + nI 1)), (0, vR 5 52)] ⟨rfl, rfl, rfl, trivial⟩ ?_
      rw [nI_s, show fold (hmG (hp.1 53)) (nI 0) k + nI 1 = fold (hmG (hp.1 53)) (nI 0) (k + 1) by show _ = hmG (hp.1 53) k _; unfold hmG; rw [if_pos h2]]
      exact ih) 0 (by omega)
  refine run hG [4] 60 ?_
  exact cl_use hG key ⟨rfl, rfl, rfl, trivial⟩
theorem sc_X5_homeMany {own : String} {F L idx : Nat} (h1 : Cond.methodLink own idx yX5_homeMany ∈ Gw) (hF : 2 ≤ F) (hL : 44 ≤ L) : SC own F L (idx, false, 1, sp_X5_homeMany) := SC_V spP_mono c_X5_homeMany okd_5 (fun as hp K h => by obtain ⟨x, hx, -⟩ := spP_e h; exact ⟨_, _, d_M_e hx⟩) h1 gw_1059 gw_43 gw_75 gw_1060 (by decide +kernel) hF hL
def awV (f : Nat → Int32) : Int32 := fold (fun w s => s + f (144 + 5 * w + 4)) (nI 0) (mN f)
def sp_X5_awake : SP := spP d_M (fun _ hp => many (hp.1 53)) (fun _ hp => vI (awV (hp.1 53)))
def E_X5_awake : EN := [(59, false, 3, sp_X5_has)]
set_option maxRecDepth 100000 in
set_option maxHeartbeats 4000000 in
theorem c_X5_awake : Ctr M_X5_awake sp_X5_awake := by
  refine ctr_of (own := RX5) M_X5_awake sp_X5_awake (P := P_X5_awake) (K := K_X5) (E := E_X5_awake) (by decide) rfl pk_X5_awake K_X5_ok (List.forall_mem_cons.mpr ⟨sc_X5_has gw_924 (by decide) (by decide), fun _ h => absurd h List.not_mem_nil⟩) (fun as hp Q h => by obtain ⟨x, hx, -⟩ := spP_e h; rw [d_M_e hx]; exact Nat.le_of_ble_eq_true rfl) ?_
  intro Q G hQi hG as hp h
  obtain ⟨x, hx, hpre, hQ⟩ := spP_e h
  rw [d_M_e hx]
  clear h hx
  obtain ⟨n, hn, e0⟩ := hpre
  have em : mN (hp.1 53) = n := by unfold mN; rw [e0, nI_clamp (by omega)]
  unfold awV at hQ
  rw [em] at hQ
  have e6 : hp.1 53 (nI 6).toNatClampNeg = nI n := e0
  have key := for_up (P := fun k => G 4 [(2, vI (nI k)), (1, vI (fold (fun w s => s + hp.1 53 (144 + 5 * w + 4)) (nI 0) k)), (0, vR 5 52)] [] hp) n (by
    refine run hG [4] 60 ?_
    refine And.intro (vp_in_nI (by omega) (by omega)) ?_
    refine And.intro (fun h1 => hQ) (fun h1 => absurd ?_ h1)
    show hp.1 53 (nI 6).toNatClampNeg ≤ nI n
    rw [e6]
    exact nI_le (Nat.le_refl _) (by omega)) (by
    intro k hk ih
    have ek : (nI k).toNatClampNeg = k := nI_clamp (by omega)
    refine run hG [4] 60 ?_
    refine And.intro (vp_in_nI (by omega) (by omega)) ?_
    refine And.intro (fun h1 => absurd ?_ (nI_ge hk (by omega))) (fun h1 => ?_)
    · have h1 : hp.1 53 (nI 6).toNatClampNeg ≤ nI k := h1
      rw [e6] at h1
      exact h1
    refine And.intro ⟨vp_in_nI (by omega) (by omega), vp_in_nI (by omega) (by omega)⟩ ?_
    refine cl_lv hG [(2, vI (nI k + nI 1)), (1, vI (fold (fun w s => s + hp.1 53 (144 + 5 * w + 4)) (nI 0) k + hp.1 53 (144 + 5 * (nI k).toNatClampNeg + 4))), (0, vR 5 52)] ⟨rfl, rfl, rfl, trivial⟩ ?_
    rw [nI_s, ek]
    exact ih) 0 (by omega)
  refine run hG [4] 60 ?_
  exact cl_use hG key ⟨rfl, rfl, rfl, trivial⟩
theorem sc_X5_awake {own : String} {F L idx : Nat} (h1 : Cond.methodLink own idx yX5_awake ∈ Gw) (hF : 2 ≤ F) (hL : 44 ≤ L) : SC own F L (idx, false, 1, sp_X5_awake) := SC_V spP_mono c_X5_awake okd_5 (fun as hp K h => by obtain ⟨x, hx, -⟩ := spP_e h; exact ⟨_, _, d_M_e hx⟩) h1 gw_1071 gw_44 gw_75 gw_1072 (by decide +kernel) hF hL
def bdG (g : Nat → Int32) (w : Nat) : Nat → Int32 := upd (upd g (144 + 5 * w + 2) (g (144 + 5 * w + 1))) (144 + 5 * w + 4) (nI 0)
def bdF (f : Nat → Int32) : Nat → Int32 := foldR bdG (upd f 0 (nI 0)) (mN f)
theorem bd6 (f : Nat → Int32) : ∀ n, foldR bdG f n 6 = f 6
  | 0 => rfl
  | n + 1 => by
    show bdG (foldR bdG f n) n 6 = _
    unfold bdG
    rw [pk_un (by omega), pk_un (by omega)]
    exact bd6 f n
def F_bed (hp : HP) : Int32 × HP := (hp.1 53 6 - hmV (hp.1 53), rI hp 53 (bdF (hp.1 53)))
def sp_X5_bed : SP := spH d_M (fun _ hp => many (hp.1 53)) (fun _ hp => some (vI (F_bed hp).1)) (fun _ hp => (F_bed hp).2)
def E_X5_bed : EN := [(158, false, 1, sp_X5_homeMany), (59, false, 3, sp_X5_has), (89, false, 4, sp_X5_gets)]
set_option maxRecDepth 100000 in
set_option maxHeartbeats 4000000 in
theorem c_X5_bed : Ctr M_X5_bed sp_X5_bed := by
  refine ctr_of (own := RX5) M_X5_bed sp_X5_bed (P := P_X5_bed) (K := K_X5) (E := E_X5_bed) (by decide) rfl pk_X5_bed K_X5_ok (List.forall_mem_cons.mpr ⟨sc_X5_homeMany gw_1057 (by decide) (by decide), List.forall_mem_cons.mpr ⟨sc_X5_has gw_924 (by decide) (by decide), List.forall_mem_cons.mpr ⟨sc_X5_gets gw_954 (by decide) (by decide), fun _ h => absurd h List.not_mem_nil⟩⟩⟩) (fun as hp Q h => by obtain ⟨x, hx, -⟩ := spH_e h; rw [d_M_e hx]; exact Nat.le_of_ble_eq_true rfl) ?_
  intro Q G hQi hG as hp h
  obtain ⟨x, hx, hpre, hQ⟩ := spH_e h
  rw [d_M_e hx]
  clear h hx
  have hm := hpre
  obtain ⟨n, hn, e0⟩ := hpre
  have em : mN (hp.1 53) = n := by unfold mN; rw [e0, nI_clamp (by omega)]
  unfold F_bed bdF at hQ
  rw [em] at hQ
  have key := for_up (P := fun k => G 22 [(2, vI (nI k)), (1, vI (hp.1 53 6 - hmV (hp.1 53))), (0, vR 5 52)] [] (rI hp 53 (foldR bdG (upd (hp.1 53) 0 (nI 0)) k))) n (by
    have e6 : (rI hp 53 (foldR bdG (upd (hp.1 53) 0 (nI 0)) n)).1 53 (nI 6).toNatClampNeg = nI n := by
      rw [rI_eq, show (nI 6).toNatClampNeg = 6 from rfl, bd6, pk_un (by omega)]
      exact e0
    refine run hG [22] 60 ?_
    refine And.intro (vp_in_nI (by omega) (by omega)) ?_
    refine And.intro (fun h1 => hQ) (fun h1 => absurd ?_ h1)
    show (rI hp 53 (foldR bdG (upd (hp.1 53) 0 (nI 0)) n)).1 53 (nI 6).toNatClampNeg ≤ nI n
    rw [e6]
    exact nI_le (Nat.le_refl _) (by omega)) (by
    intro k hk ih
    have ek : (nI k).toNatClampNeg = k := nI_clamp (by omega)
    have ih : G 22 [(2, vI (nI (k + 1))), (1, vI (hp.1 53 6 - hmV (hp.1 53))), (0, vR 5 52)] [] (rI hp 53 (bdG (foldR bdG (upd (hp.1 53) 0 (nI 0)) k) k)) := ih
    have e60 : foldR bdG (upd (hp.1 53) 0 (nI 0)) k 6 = nI n := by rw [bd6, pk_un (by omega)]; exact e0
    show G 22 [(2, vI (nI k)), (1, vI (hp.1 53 6 - hmV (hp.1 53))), (0, vR 5 52)] [] (rI hp 53 (foldR bdG (upd (hp.1 53) 0 (nI 0)) k))
    generalize foldR bdG (upd (hp.1 53) 0 (nI 0)) k = g at ih e60
    have e6 : (rI hp 53 g).1 53 (nI 6).toNatClampNeg = nI n := by rw [rI_eq]; exact e60
    refine run hG [22] 60 ?_
    refine And.intro (vp_in_nI (by omega) (by omega)) ?_
    refine And.intro (fun h1 => absurd ?_ (nI_ge hk (by omega))) (fun h1 => ?_)
    · have h1 : (rI hp 53 g).1 53 (nI 6).toNatClampNeg ≤ nI k := h1
      rw [e6] at h1
      exact h1
    refine And.intro ⟨vp_in_nI (by omega) (by omega), vp_in_nI (by omega) (by omega)⟩ ?_
    refine And.intro ⟨vp_in_nI (by omega) (by omega), vp_in_nI (by omega) (by omega)⟩ ?_
    refine And.intro ⟨vp_in_nI (by omega) (by omega), vp_in_nI (by omega) (by omega)⟩ ?_
    refine cl_lv hG [(2, vI (nI k + nI 1)), (1, vI (hp.1 53 6 - hmV (hp.1 53))), (0, vR 5 52)] ⟨rfl, rfl, rfl, trivial⟩ ?_
    rw [nI_s]
    show G 22 _ [] (uI (uI (rI hp 53 g) 53 (144 + 5 * (nI k).toNatClampNeg + 2) ((rI hp 53 g).1 53 (144 + 5 * (nI k).toNatClampNeg + 1))) 53 (144 + 5 * (nI k).toNatClampNeg + 4) (nI 0))
    rw [uI_rI, uI_rI, rI_eq, ek]
    exact ih) 0 (by omega)
  refine run hG [22] 60 ?_
  refine And.intro (vp_in_nI (by omega) (by omega)) ?_
  refine And.intro hm ?_
  refine And.intro (vp_in_nI (by omega) (by omega)) ?_
  exact cl_use hG key ⟨rfl, rfl, rfl, trivial⟩
theorem sc_X5_bed {own : String} {F L idx : Nat} (h1 : Cond.methodLink own idx yX5_bed ∈ Gw) (hF : 3 ≤ F) (hL : 68 ≤ L) : SC own F L (idx, false, 1, sp_X5_bed) := SC_V spH_mono c_X5_bed okd_5 (fun as hp K h => by obtain ⟨x, hx, -⟩ := spH_e h; exact ⟨_, _, d_M_e hx⟩) h1 gw_1054 gw_1055 gw_75 gw_1056 (by decide +kernel) hF hL
def F_seed (v : Int32) (hp : HP) : Int32 × HP := (hp.1 53 (nI 1).toNatClampNeg, uI hp 53 (nI 1).toNatClampNeg v)
def sp_X5_seed : SP := spH d_M_I (fun _ _ => True) (fun x hp => some (vI (F_seed x hp).1)) (fun x hp => (F_seed x hp).2)
def E_X5_seed : EN := [(83, false, 3, sp_X5_puts)]
set_option maxRecDepth 100000 in
set_option maxHeartbeats 4000000 in
theorem c_X5_seed : Ctr M_X5_seed sp_X5_seed := by
  refine ctr_of (own := RX5) M_X5_seed sp_X5_seed (P := P_X5_seed) (K := K_X5) (E := E_X5_seed) (by decide) rfl pk_X5_seed K_X5_ok (List.forall_mem_cons.mpr ⟨sc_X5_puts gw_900 (by decide) (by decide), fun _ h => absurd h List.not_mem_nil⟩) (fun as hp Q h => by obtain ⟨x, hx, -⟩ := spH_e h; rw [d_M_I_e hx]; exact Nat.le_of_ble_eq_true rfl) ?_
  intro Q G hQi hG as hp h
  obtain ⟨x, hx, hpre, hQ⟩ := spH_e h
  rw [d_M_I_e hx]
  clear h hx
  refine run hG [] 60 ?_
  exact And.intro (vp_in_nI (by omega) (by omega)) hQ
theorem sc_X5_seed {own : String} {F L idx : Nat} (h1 : Cond.methodLink own idx yX5_seed ∈ Gw) (hF : 2 ≤ F) (hL : 44 ≤ L) : SC own F L (idx, false, 2, sp_X5_seed) := SC_V spH_mono c_X5_seed okd_5 (fun as hp K h => by obtain ⟨x, hx, -⟩ := spH_e h; exact ⟨_, _, d_M_I_e hx⟩) h1 gw_1062 gw_1063 gw_75 gw_1064 (by decide +kernel) hF hL
def F_now (k : Int32) (hp : HP) : Int32 × HP := if k = nI 0 then (hp.1 53 0, hp) else if k = nI 1 then (hp.1 53 2, hp) else if k = nI 2 then (hp.1 53 3, hp) else if k = nI 3 then (awV (hp.1 53), hp) else if k = nI 4 then (onesV (rvV (hp.1 53)), hp) else if k = nI 5 then (hmV (hp.1 53), hp) else noP hp 0
def sp_X5_now : SP := spH d_M_I (fun _ hp => WF (hp.1 53)) (fun x hp => some (vI (F_now x hp).1)) (fun x hp => (F_now x hp).2)
theorem eq_toInt {x : Int32} {n : Nat} (hn : n < 2 ^ 31) (h : x.toInt = (n : Int)) : x = nI n := by
  apply Int32.toInt_inj.mp
  rw [h, nI_toInt hn]
theorem ne_toInt {x : Int32} {n : Nat} (hn : n < 2 ^ 31) (h : x.toInt ≠ (n : Int)) : ¬ x = nI n := fun e => h (by rw [e, nI_toInt hn])
def E_X5_now : EN := [(161, false, 1, sp_X5_awake), (151, false, 1, sp_X5_inRiver), (124, true, 1, sp_X5_ones), (158, false, 1, sp_X5_homeMany), (79, false, 2, sp_X5_no)]
set_option maxRecDepth 100000 in
set_option maxHeartbeats 4000000 in
theorem c_X5_now : Ctr M_X5_now sp_X5_now := by
  refine ctr_of (own := RX5) M_X5_now sp_X5_now (P := P_X5_now) (K := K_X5) (E := E_X5_now) (by decide) rfl pk_X5_now K_X5_ok (List.forall_mem_cons.mpr ⟨sc_X5_awake gw_1069 (by decide) (by decide), List.forall_mem_cons.mpr ⟨sc_X5_inRiver gw_1033 (by decide) (by decide), List.forall_mem_cons.mpr ⟨sc_X5_ones gw_1022 (by decide) (by decide), List.forall_mem_cons.mpr ⟨sc_X5_homeMany gw_1057 (by decide) (by decide), List.forall_mem_cons.mpr ⟨sc_X5_no gw_895 (by decide) (by decide), fun _ h => absurd h List.not_mem_nil⟩⟩⟩⟩⟩) (fun as hp Q h => by obtain ⟨x, hx, -⟩ := spH_e h; rw [d_M_I_e hx]; exact Nat.le_of_ble_eq_true rfl) ?_
  intro Q G hQi hG as hp h
  obtain ⟨x, hx, hpre, hQ⟩ := spH_e h
  rw [d_M_I_e hx]
  clear h hx
  unfold F_now at hQ
  refine run hG [] 60 ?_
  refine And.intro (fun hz => ?_) (And.intro (fun hz => ?_) (And.intro (fun hz => ?_) (And.intro (fun hz => ?_) (And.intro (fun hz => ?_) (And.intro (fun hz => ?_) (fun hz => ?_))))))
  · have e : x = nI 0 := eq_toInt (by omega) hz
    rw [if_pos e] at hQ
    exact And.intro (vp_in_nI (by omega) (by omega)) hQ
  · have e : x = nI 1 := eq_toInt (by omega) hz
    rw [if_neg (by rw [e]; decide), if_pos e] at hQ
    exact And.intro (vp_in_nI (by omega) (by omega)) hQ
  · have e : x = nI 2 := eq_toInt (by omega) hz
    rw [if_neg (by rw [e]; decide), if_neg (by rw [e]; decide), if_pos e] at hQ
    exact And.intro (vp_in_nI (by omega) (by omega)) hQ
  · have e : x = nI 3 := eq_toInt (by omega) hz
    rw [if_neg (by rw [e]; decide), if_neg (by rw [e]; decide), if_neg (by rw [e]; decide), if_pos e] at hQ
    exact And.intro hpre.many hQ
  · have e : x = nI 4 := eq_toInt (by omega) hz
    rw [if_neg (by rw [e]; decide), if_neg (by rw [e]; decide), if_neg (by rw [e]; decide), if_neg (by rw [e]; decide), if_pos e] at hQ
    exact And.intro hpre (And.intro trivial hQ)
  · have e : x = nI 5 := eq_toInt (by omega) hz
    rw [if_neg (by rw [e]; decide), if_neg (by rw [e]; decide), if_neg (by rw [e]; decide), if_neg (by rw [e]; decide), if_neg (by rw [e]; decide), if_pos e] at hQ
    exact And.intro hpre.many hQ
  · have ne : ∀ j : Nat, j < 6 → ¬ x = nI j := fun j hj => ne_toInt (by omega) (by omega)
    rw [if_neg (ne 0 (by omega)), if_neg (ne 1 (by omega)), if_neg (ne 2 (by omega)), if_neg (ne 3 (by omega)), if_neg (ne 4 (by omega)), if_neg (ne 5 (by omega))] at hQ
    exact And.intro (vp_in_nI (by omega) (by omega)) hQ
theorem sc_X5_now {own : String} {F L idx : Nat} (h1 : Cond.methodLink own idx yX5_now ∈ Gw) (hF : 4 ≤ F) (hL : 86 ≤ L) : SC own F L (idx, false, 2, sp_X5_now) := SC_V spH_mono c_X5_now okd_5 (fun as hp K h => by obtain ⟨x, hx, -⟩ := spH_e h; exact ⟨_, _, d_M_I_e hx⟩) h1 gw_1066 gw_1067 gw_75 gw_1068 (by decide +kernel) hF hL
theorem lay2 (hp : HP) (g : Nat → Int32) : rI (rI (rI hp 55 (hp.1 53)) 53 g) 53 (hp.1 53) = rI hp 55 (hp.1 53) := by
  rw [rI_rI, rI_comm hp _ _ (by omega), rI_self]
def F_on (w n : Int32) (hp : HP) : Int32 × HP := if inB w (mN (hp.1 53)) = true ∧ inB n 501 = true then (if ltB (hp.1 53) n = true then noP hp 4 else (goF (hp.1 53) n.toNatClampNeg (144 + 5 * w.toNatClampNeg + 2), rI hp 55 (hp.1 53))) else noP hp 0
def sp_X5_on : SP := spH d_M_II (fun _ hp => WF (hp.1 53)) (fun x hp => some (vI (F_on x.1 x.2 hp).1)) (fun x hp => (F_on x.1 x.2 hp).2)
def E_X5_on : EN := [(107, false, 2, sp_X5_isWalker), (55, true, 3, sp_X5_in), (79, false, 2, sp_X5_no), (148, false, 2, sp_X5_isLate), (164, true, 2, sp_X5_lay), (154, false, 2, sp_X5_go), (59, false, 3, sp_X5_has)]
set_option maxRecDepth 100000 in
set_option maxHeartbeats 4000000 in
theorem c_X5_on : Ctr M_X5_on sp_X5_on := by
  refine ctr_of (own := RX5) M_X5_on sp_X5_on (P := P_X5_on) (K := K_X5) (E := E_X5_on) (by decide) rfl pk_X5_on K_X5_ok (List.forall_mem_cons.mpr ⟨sc_X5_isWalker gw_962 (by decide) (by decide), List.forall_mem_cons.mpr ⟨sc_X5_in gw_883 (by decide) (by decide), List.forall_mem_cons.mpr ⟨sc_X5_no gw_895 (by decide) (by decide), List.forall_mem_cons.mpr ⟨sc_X5_isLate gw_1029 (by decide) (by decide), List.forall_mem_cons.mpr ⟨sc_X5_lay gw_1077 (by decide) (by decide), List.forall_mem_cons.mpr ⟨sc_X5_go gw_1041 (by decide) (by decide), List.forall_mem_cons.mpr ⟨sc_X5_has gw_924 (by decide) (by decide), fun _ h => absurd h List.not_mem_nil⟩⟩⟩⟩⟩⟩⟩) (fun as hp Q h => by obtain ⟨x, hx, -⟩ := spH_e h; rw [d_M_II_e hx]; exact Nat.le_of_ble_eq_true rfl) ?_
  intro Q G hQi hG as hp h
  obtain ⟨x, hx, hpre, hQ⟩ := spH_e h
  rw [d_M_II_e hx]
  clear h hx
  obtain ⟨w, n⟩ := x
  try dsimp only at hpre hQ ⊢
  have ib : (decide (nI 0 ≤ n) && decide (n ≤ nI 500)) = inB n 501 := in_b (by omega)
  have no : ¬ (inB w (mN (hp.1 53)) = true ∧ inB n 501 = true) → Q (some (vI (noP hp 0).1)) (noP hp 0).2 := fun h => by
    have hF : F_on w n hp = noP hp 0 := if_neg h
    rw [hF] at hQ
    exact hQ
  refine run hG [] 60 ?_
  refine And.intro hpre.many ?_
  refine And.intro (fun h1 => ?_) (fun h1 => ?_)
  · refine And.intro (vp_in_nI (by omega) (by omega)) (no (fun h => ?_))
    rw [show inB w (mN (hp.1 53)) = false from bB_0.mp h1] at h
    exact absurd h.1 (by decide)
  · have h1 : inB w (mN (hp.1 53)) = true := bB_1.mp h1
    have hw8 := in8 hpre.many h1
    refine And.intro trivial ?_
    refine And.intro (fun h2 => ?_) (fun h2 => ?_)
    · have h2 : inB n 501 = true := ib ▸ bB_1.mp h2
      have hF : F_on w n hp = _ := if_pos ⟨h1, h2⟩
      rw [hF] at hQ
      refine And.intro trivial ?_
      refine And.intro (fun h3 => ?_) (fun h3 => ?_)
      · have h3 : ltB (hp.1 53) n = false := bB_0.mp h3
        rw [if_neg (by rw [h3]; decide)] at hQ
        have hn : vp_in n 1000 := vp_in_iff.mpr (by have := vp_in_iff.mp (inB_t.mp h2); omega)
        refine And.intro ⟨rfl, rfl, by decide⟩ ?_
        refine And.intro ⟨hpre, hn⟩ ?_
        refine And.intro ⟨hw8, vp_in_nI (by omega) (by omega)⟩ ?_
        refine And.intro ⟨rfl, rfl, by decide⟩ ?_
        refine q_ih hQ ?_ ?_
        · show (rI (rI hp 55 (hp.1 53)) 53 (goF (hp.1 53) n.toNatClampNeg)).1 53 (144 + 5 * w.toNatClampNeg + 2) = _
          rw [rI_eq]
        · exact lay2 hp _
      · have h3 : ltB (hp.1 53) n = true := bB_1.mp h3
        rw [if_pos h3] at hQ
        exact And.intro (vp_in_nI (by omega) (by omega)) hQ
    · refine And.intro (vp_in_nI (by omega) (by omega)) (no (fun h => ?_))
      rw [← ib, show (decide (nI 0 ≤ n) && decide (n ≤ nI 500)) = false from bB_0.mp h2] at h
      exact absurd h.2 (by decide)
theorem sc_X5_on {own : String} {F L idx : Nat} (h1 : Cond.methodLink own idx yX5_on ∈ Gw) (hF : 8 ≤ F) (hL : 183 ≤ L) : SC own F L (idx, false, 3, sp_X5_on) := SC_V spH_mono c_X5_on okd_5 (fun as hp K h => by obtain ⟨x, hx, -⟩ := spH_e h; exact ⟨_, _, d_M_II_e hx⟩) h1 gw_1074 gw_1075 gw_75 gw_1076 (by decide +kernel) hF hL
