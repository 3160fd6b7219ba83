theorem RC.bits {hp mp : HP} (h : RC hp mp) {s : Nat} (hs : s < 4) : mp.1 63 s = hp.1 (40 + s) 0 := (h.sh hs).1.symm
theorem RC.len {hp mp : HP} (h : RC hp mp) {s : Nat} (hs : s < 4) : mp.1 64 s = hp.1 (40 + s) 1 := (h.sh hs).2.1.symm
def sp_X4_copy : SP := spF d_C_IIIII (fun _ hp => RX hp) (fun x hp v hq => PO (F_copy x.1 x.2.1 x.2.2.1 x.2.2.2.1 x.2.2.2.2) hp v hq)
def E_X4_copy : EN := [(248, true, 1, sp_X4_isSheet), (63, false, 2, sp_X4_tell), (255, false, 1, sp_X0_isMissing), (270, false, 3, sp_X0_hasRun), (273, true, 5, sp_acopy)]
set_option maxRecDepth 100000 in
set_option maxHeartbeats 4000000 in
theorem c_X4_copy : Ctr M_X4_copy sp_X4_copy := by
  refine ctr_of (own := RX4) M_X4_copy sp_X4_copy (P := P_X4_copy) (K := K_X4) (E := E_X4_copy) (by decide) rfl pk_X4_copy K_X4_ok (List.forall_mem_cons.mpr ⟨sc_X4_isSheet gw_740 (by decide) (by decide), List.forall_mem_cons.mpr ⟨sc_X4_tell gw_298 (by decide) (by decide), List.forall_mem_cons.mpr ⟨sc_X0_isMissing gw_752 (by decide) (by decide), List.forall_mem_cons.mpr ⟨sc_X0_hasRun gw_765 (by decide) (by decide), List.forall_mem_cons.mpr ⟨SC_acopy (gw_at 586 (by decide +kernel) rfl) (gw_at 503 (by decide +kernel) rfl) (gw_at 502 (by decide +kernel) rfl) (gw_at 78 (by decide +kernel) rfl) (by decide) (by decide), fun _ h => absurd h List.not_mem_nil⟩⟩⟩⟩⟩) (fun as hp Q h => by obtain ⟨x, hx, -⟩ := spF_e h; rw [d_C_IIIII_e hx]; exact Nat.le_of_ble_eq_true rfl) ?_
  intro Q G hQi hG as hp h
  obtain ⟨x, hx, hpre, hQ⟩ := spF_e h
  rw [d_C_IIIII_e hx]
  clear h hx
  obtain ⟨s, u, t, v, n⟩ := x
  try dsimp only at hpre hQ ⊢
  obtain ⟨m0, h0⟩ := hpre
  have no : ¬ (inB s 4 = true ∧ inB t 4 = true) → ∀ mp, RC hp mp → ∃ mq, qm mp mq ∧ F_copy s u t v n mp = noP mq 0 := fun h mp h2 => ⟨mp, qm_r mp, if_neg h⟩
  refine run hG [] 60 ?_
  refine And.intro trivial ?_
  refine And.intro (fun h1 => at_no hQ 0 (by omega) (by decide) (qc_r hp) (no (fun h => by rw [bB_0.mp h1] at h; exact absurd h.1 (by decide)))) (fun h1 => ?_)
  have h1 : inB s 4 = true := bB_1.mp h1
  refine And.intro trivial ?_
  refine And.intro (fun h2 => ?_) (fun h2 => at_no hQ 0 (by omega) (by decide) (qc_r hp) (no (fun h => by rw [bB_0.mp h2] at h; exact absurd h.2 (by decide))))
  have h2 : inB t 4 = true := bB_1.mp h2
  have hS := ix_lt (inB_t.mp h1)
  have hT := ix_lt (inB_t.mp h2)
  have hF : ∀ mp, RC hp mp → F_copy s u t v n mp = (if hp.1 (40 + s.toNatClampNeg) 0 = 0 ∨ hp.1 (40 + t.toNatClampNeg) 0 = 0 then noP mp 5 else (if hp.1 (40 + s.toNatClampNeg) 0 = hp.1 (40 + t.toNatClampNeg) 0 then (if 0 ≤ n ∧ 0 ≤ u ∧ 0 ≤ v ∧ u ≤ hp.1 (40 + s.toNatClampNeg) 1 - n ∧ v ≤ hp.1 (40 + t.toNatClampNeg) 1 - n then (n, rL mp 65 (cpR (mp.2 65) (40 * s.toNatClampNeg + u.toNatClampNeg) (40 * t.toNatClampNeg + v.toNatClampNeg) n.toNatClampNeg)) else noP mp 0) else noP mp 2)) := fun mp h => by
    unfold F_copy
    rw [if_pos ⟨h1, h2⟩, h.bits hS, h.bits hT, h.len hS, h.len hT]
  obtain ⟨-, ls2, ls3⟩ := h0.ln hS
  obtain ⟨-, lt2, lt3⟩ := h0.ln hT
  generalize lnN m0 s.toNatClampNeg = ls at ls2 ls3
  generalize lnN m0 t.toNatClampNeg = lt at lt2 lt3
  refine And.intro (inB_t.mp h1) ?_
  refine And.intro (inB_t.mp h2) ?_
  refine And.intro trivial ?_
  refine And.intro (fun h3 => at_no hQ 5 (by omega) (by decide) (qc_r hp) (fun mp h => ⟨mp, qm_r mp, by rw [hF mp h, if_pos (Or.inl (of_decide_eq_true (bB_1.mp h3)))]⟩)) (fun h3 => ?_)
  have h3 : ¬ hp.1 (40 + s.toNatClampNeg) 0 = 0 := of_decide_eq_false (bB_0.mp h3)
  refine And.intro trivial ?_
  refine And.intro (fun h4 => ?_) (fun h4 => at_no hQ 5 (by omega) (by decide) (qc_r hp) (fun mp h => ⟨mp, qm_r mp, by rw [hF mp h, if_pos (Or.inr (of_decide_eq_true (bB_1.mp h4)))]⟩))
  have h4 : ¬ hp.1 (40 + t.toNatClampNeg) 0 = 0 := of_decide_eq_false (bB_0.mp h4)
  have h34 : ¬ (hp.1 (40 + s.toNatClampNeg) 0 = 0 ∨ hp.1 (40 + t.toNatClampNeg) 0 = 0) := fun h => h.elim h3 h4
  refine And.intro (fun h5 => ?_) (fun h5 => at_no hQ 2 (by omega) (by decide) (qc_r hp) (fun mp h => ⟨mp, qm_r mp, by rw [hF mp h, if_neg h34, if_neg h5]⟩))
  have h5 : hp.1 (40 + s.toNatClampNeg) 0 = hp.1 (40 + t.toNatClampNeg) 0 := h5
  have run_le : ∀ {w : Int32} {l : Nat}, l ≤ 40 → 0 ≤ w → 0 ≤ n → w ≤ nI l - n → n ≤ nI l := fun {w l} hl a b c => by
    obtain ⟨x, y, hxy, e1, e2⟩ := run_in hl a b c
    rw [e2]
    exact nI_le (by omega) (by omega)
  have bad : ¬ (0 ≤ n ∧ 0 ≤ u ∧ 0 ≤ v ∧ u ≤ hp.1 (40 + s.toNatClampNeg) 1 - n ∧ v ≤ hp.1 (40 + t.toNatClampNeg) 1 - n) → ∀ mp, RC hp mp → ∃ mq, qm mp mq ∧ F_copy s u t v n mp = noP mq 0 := fun hb mp h => ⟨mp, qm_r mp, by rw [hF mp h, if_neg h34, if_pos h5, if_neg hb]⟩
  refine And.intro trivial ?_
  refine And.intro (fun h6 => at_no hQ 0 (by omega) (by decide) (qc_r hp) (bad (fun hc => of_decide_eq_false (bB_0.mp h6) ⟨hc.2.1, hc.1, ?_, hc.2.2.2.1⟩))) (fun h6 => ?_)
  · have := hc.2.2.2.1
    rw [ls3] at this
    show n ≤ hp.1 (40 + s.toNatClampNeg) 1
    rw [ls3]
    exact run_le ls2 hc.2.1 hc.1 this
  have h6 : 0 ≤ u ∧ 0 ≤ n ∧ n ≤ hp.1 (40 + s.toNatClampNeg) 1 ∧ u ≤ hp.1 (40 + s.toNatClampNeg) 1 - n := of_decide_eq_true (bB_1.mp h6)
  refine And.intro trivial ?_
  refine And.intro (fun h7 => ?_) (fun h7 => at_no hQ 0 (by omega) (by decide) (qc_r hp) (bad (fun hc => of_decide_eq_false (bB_0.mp h7) ⟨hc.2.2.1, hc.1, ?_, hc.2.2.2.2⟩)))
  case refine_2 =>
    have := hc.2.2.2.2
    rw [lt3] at this
    show n ≤ hp.1 (40 + t.toNatClampNeg) 1
    rw [lt3]
    exact run_le lt2 hc.2.2.1 hc.1 this
  have h7 : 0 ≤ v ∧ 0 ≤ n ∧ n ≤ hp.1 (40 + t.toNatClampNeg) 1 ∧ v ≤ hp.1 (40 + t.toNatClampNeg) 1 - n := of_decide_eq_true (bB_1.mp h7)
  have ok : 0 ≤ n ∧ 0 ≤ u ∧ 0 ≤ v ∧ u ≤ hp.1 (40 + s.toNatClampNeg) 1 - n ∧ v ≤ hp.1 (40 + t.toNatClampNeg) 1 - n := ⟨h6.2.1, h6.1, h7.1, h6.2.2.2, h7.2.2.2⟩
  have ok1 := ok.2.2.2.1
  have ok2 := ok.2.2.2.2
  rw [ls3] at ok1
  rw [lt3] at ok2
  obtain ⟨a, b, hab, ea, eb⟩ := run_in ls2 h6.1 h6.2.1 ok1
  obtain ⟨c, d, hcd, ec, ed⟩ := run_in lt2 h7.1 h6.2.1 ok2
  have ebd : b = d := (nI_eq (by omega) (by omega)).mp (eb.symm.trans ed)
  subst ebd
  have ca : u.toNatClampNeg = a := by rw [ea, nI_clamp (by omega)]
  have cb : n.toNatClampNeg = b := by rw [eb, nI_clamp (by omega)]
  have cc : v.toNatClampNeg = c := by rw [ec, nI_clamp (by omega)]
  refine Or.inr (And.intro ⟨Int32.not_lt.mpr h6.1, Int32.not_lt.mpr h7.1, Int32.not_lt.mpr h6.2.1, by rw [ca, cb]; omega, by rw [cc, cb]; omega⟩ ?_)
  show Q (some (vI n)) (rL hp (40 + t.toNatClampNeg + 4) (va_cpy (hp.2 (40 + s.toNatClampNeg + 4)) (hp.2 (40 + t.toNatClampNeg + 4)) u.toNatClampNeg v.toNatClampNeg n.toNatClampNeg))
  rw [show 40 + t.toNatClampNeg + 4 = 44 + t.toNatClampNeg by omega, show 40 + s.toNatClampNeg + 4 = 44 + s.toNatClampNeg by omega, ca, cb, cc]
  refine hQ _ _ ⟨fun e he => ⟨rfl, by rw [rL_ne _ _ (by omega)]⟩, fun mp h => ?_⟩
  rw [hF mp h, if_neg h34, if_pos h5, if_pos ok, ca, cb, cc]
  refine ⟨rfl, h.num hT (fun j hj => ?_) (fun k hk1 hk2 => ?_)⟩
  · unfold cpR filA va_cpy
    by_cases e : c ≤ j ∧ j < c + b
    · rw [if_pos e, if_pos (by omega), (h.sh hS).2.2.2.2 _ (by omega)]
      dsimp only
      rw [show 40 * s.toNatClampNeg + a + (40 * t.toNatClampNeg + j - (40 * t.toNatClampNeg + c)) = 40 * s.toNatClampNeg + (a + (j - c)) by omega]
    · rw [if_neg e, if_neg (by omega), (h.sh hT).2.2.2.2 _ hj]
  · unfold cpR filA
    rw [if_neg (by omega)]
theorem sc_X4_copy {own : String} {F L idx : Nat} (h1 : Cond.methodLink own idx yX4_copy ∈ Gw) (hF : 3 ≤ F) (hL : 71 ≤ L) : SC own F L (idx, false, 6, sp_X4_copy) := SC_V spF_mono c_X4_copy okd_0 (fun as hp K h => by obtain ⟨x, hx, -⟩ := spF_e h; exact ⟨_, _, d_C_IIIII_e hx⟩) h1 gw_762 gw_763 gw_69 gw_764 (by decide +kernel) hF hL
theorem ly_ag {f g : Nat → Int32} {C D : Nat → Int64} {s : Nat} (h : ag f g) : ∀ n, n ≤ 25 → (∀ k, k < n → C (40 * s + k) = D (40 * s + k)) → (lyF g C s n).1 = (lyF f D s n).1 ∧ ag (lyF f D s n).2 (lyF g C s n).2
  | 0, _, _ => ⟨rfl, h⟩
  | n + 1, hn, hc => by
    have ih := ly_ag h n (by omega) (fun k hk => hc k (by omega))
    have eI : lyI C s n = lyI D s n := by unfold lyI; rw [hc n (by omega)]
    unfold lyF
    rw [eI]
    split
    · exact ⟨by dsimp only; rw [ih.1], ih.2.up (by omega) (by rw [hc n (by omega)])⟩
    · exact ih
theorem ly_ws {f : Nat → Int32} {D : Nat → Int64} {s : Nat} (h : WS f) : ∀ n, n ≤ 25 → WS (lyF f D s n).2
  | 0, _ => h
  | n + 1, hn => by
    have ih := ly_ws (D := D) (s := s) h n (by omega)
    unfold lyF
    split
    · exact ih.free (by omega) _
    · exact ih
def sp_X4_lays : SP := spF d_C_I (fun _ hp => RX hp) (fun x hp v hq => PO (F_lays x) hp v hq)
def E_X4_lays : EN := [(248, true, 1, sp_X4_isSheet), (63, false, 2, sp_X4_tell), (255, false, 1, sp_X0_isMissing)]
set_option maxRecDepth 100000 in
set_option maxHeartbeats 4000000 in
theorem c_X4_lays : Ctr M_X4_lays sp_X4_lays := by
  refine ctr_of (own := RX4) M_X4_lays sp_X4_lays (P := P_X4_lays) (K := K_X4) (E := E_X4_lays) (by decide) rfl pk_X4_lays K_X4_ok (List.forall_mem_cons.mpr ⟨sc_X4_isSheet gw_740 (by decide) (by decide), List.forall_mem_cons.mpr ⟨sc_X4_tell gw_298 (by decide) (by decide), List.forall_mem_cons.mpr ⟨sc_X0_isMissing gw_752 (by decide) (by decide), fun _ h => absurd h List.not_mem_nil⟩⟩⟩) (fun as hp Q h => by obtain ⟨x, hx, -⟩ := spF_e h; rw [d_C_I_e hx]; exact Nat.le_of_ble_eq_true rfl) ?_
  intro Q G hQi hG as hp h
  obtain ⟨x, hx, hpre, hQ⟩ := spF_e h
  rw [d_C_I_e hx]
  clear h hx
  obtain ⟨m0, h0⟩ := hpre
  refine run hG [36] 60 ?_
  refine And.intro trivial ?_
  refine And.intro (fun h1 => ?_) (fun h1 => at_no hQ 0 (by omega) (by decide) (qc_r hp) (fun mp h => ⟨mp, qm_r mp, if_neg (by rw [bB_0.mp h1]; decide)⟩))
  have h1 : inB x 4 = true := bB_1.mp h1
  have hS := ix_lt (inB_t.mp h1)
  have hF : ∀ mp, RC hp mp → F_lays x mp = (if hp.1 (40 + x.toNatClampNeg) 0 = 0 then noP mp 5 else ((lyF (mp.1 53) (mp.2 65) x.toNatClampNeg (lyN (hp.1 (40 + x.toNatClampNeg) 1).toNatClampNeg)).1, rI mp 53 (lyF (mp.1 53) (mp.2 65) x.toNatClampNeg (lyN (hp.1 (40 + x.toNatClampNeg) 1).toNatClampNeg)).2)) := fun mp h => by
    unfold F_lays
    rw [if_pos h1, h.bits hS, (h.ln hS).1]
  obtain ⟨l1, l2, l3⟩ := h0.ln hS
  generalize lnN m0 x.toNatClampNeg = l at l1 l2 l3
  rw [← l1] at hF
  refine And.intro (inB_t.mp h1) ?_
  refine And.intro trivial ?_
  refine And.intro (fun h2 => ?_) (fun h2 => at_no hQ 5 (by omega) (by decide) (qc_r hp) (fun mp h => ⟨mp, qm_r mp, by rw [hF mp h, if_pos (of_decide_eq_true (bB_1.mp h2))]⟩))
  have h2 : ¬ hp.1 (40 + x.toNatClampNeg) 0 = 0 := of_decide_eq_false (bB_0.mp h2)
  have hnum : ∀ mp, RC hp mp → ∀ j, j < 40 → hp.2 (40 + x.toNatClampNeg + 4) j = mp.2 65 (40 * x.toNatClampNeg + j) := fun mp h j hj => by
    rw [show 40 + x.toNatClampNeg + 4 = 44 + x.toNatClampNeg by omega]
    exact (h.sh hS).2.2.2.2 j hj
  generalize x.toNatClampNeg = S at hF hS l3 h2 hnum
  have hN : lyN l ≤ 25 ∧ lyN l ≤ l := by
    unfold lyN
    split <;> omega
  have fin : ∀ H, frs 1 hp H → rw_ H 1 = (lyF (rw_ hp 1) (fun k => hp.2 (40 + S + 4) (k - 40 * S)) S (lyN l)).2 → Q (some (vI (lyF (rw_ hp 1) (fun k => hp.2 (40 + S + 4) (k - 40 * S)) S (lyN l)).1)) H := fun H hfr e => by
    have tie : ∀ mp, RC hp mp → _ := fun mp (h : RC hp mp) => ly_ag (C := fun k => hp.2 (40 + S + 4) (k - 40 * S)) (D := mp.2 65) (s := S) h.ag (lyN l) hN.1 (fun k hk => by
      rw [show 40 * S + k - 40 * S = k by omega]
      exact hnum mp h k (by omega))
    refine at_w hQ hfr.1 (fun hz => hiz_e hz hfr.2.1 hfr.2.2.1 hfr.2.2.2) (fun mp h => ⟨(lyF (mp.1 53) (mp.2 65) S (lyN l)).2, ?_, by rw [e]; exact (tie mp h).2, ly_ws h.ws _ hN.1⟩)
    rw [hF mp h, if_neg h2, (tie mp h).1]
  generalize hff : rw_ hp 1 = f at fin
  generalize hC : (fun k => hp.2 (40 + S + 4) (k - 40 * S)) = C at fin
  have hCk : ∀ k, C (40 * S + k) = hp.2 (40 + S + 4) k := fun k => by rw [← hC]; dsimp only; rw [show 40 * S + k - 40 * S = k by omega]
  have key := for_up (P := fun k => ∀ H, frs 1 hp H → rw_ H 1 = (lyF f C S k).2 → G 41 [(4, vI (nI k)), (3, vI (lyF f C S k).1), (2, vR 4 (40 + S)), (0, vR 0 0)] [] H) (lyN l) (by
    intro H hfr e
    have e1 : H.1 (40 + S) 1 = nI l := by rw [(hfr.1 (40 + S) (by omega)).1]; exact l3
    refine run hG [41] 60 ?_
    refine And.intro (fun _ => fin H hfr e) (fun h3 => ?_)
    have h3 : ¬ H.1 (40 + S) 1 ≤ nI (lyN l) := h3
    rw [e1, nI_leI (by omega) (by omega)] at h3
    refine And.intro (fun _ => fin H hfr e) (fun h4 => ?_)
    have h4 : ¬ nI 25 ≤ nI (lyN l) := h4
    rw [nI_leI (by omega) (by omega)] at h4
    by_cases hl : l ≤ 25
    · rw [show lyN l = l from if_pos hl] at h3
      omega
    · rw [show lyN l = 25 from if_neg hl] at h4
      omega) (by
    intro k hk ih H hfr e
    have eF : lyF f C S (k + 1) = if lyI C S k = true then ((lyF f C S k).1 + nI 1, upd (lyF f C S k).2 (19 + k) (C (40 * S + k)).toInt32) else lyF f C S k := rfl
    rw [eF] at ih
    generalize lyF f C S k = p at ih e
    have e1 : H.1 (40 + S) 1 = nI l := by rw [(hfr.1 (40 + S) (by omega)).1]; exact l3
    have e2 : H.2 (40 + S + 4) = hp.2 (40 + S + 4) := (hfr.1 (40 + S + 4) (by omega)).2
    have ek : (nI k).toNatClampNeg = k := nI_clamp (by omega)
    have skip : lyI C S k = false → ∀ v, G 41 [(5, vL v), (4, vI (nI k + nI 1)), (3, vI p.1), (2, vR 4 (40 + S)), (0, vR 0 0)] [] H := by
      intro hb v
      rw [if_neg (by rw [hb]; decide)] at ih
      refine cl_lv hG [(4, vI (nI k + nI 1)), (3, vI p.1), (2, vR 4 (40 + S)), (0, vR 0 0)] ⟨rfl, rfl, rfl, rfl, trivial⟩ ?_
      rw [nI_s]
      exact ih H hfr e
    refine run hG [41, 66] 60 ?_
    refine And.intro (fun h3 => ?_) (fun _ => ?_)
    · have h3 : H.1 (40 + S) 1 ≤ nI k := h3
      rw [e1] at h3
      exact absurd h3 (nI_ge (by omega) (by omega))
    refine And.intro (fun h4 => absurd (show nI 25 ≤ nI k from h4) (nI_ge (by omega) (by omega))) (fun _ => ?_)
    refine And.intro (vp_in_nI (by omega) (by omega)) ?_
    refine cl_lv hG [(5, vL (H.2 (40 + S + 4) (nI k).toNatClampNeg)), (4, vI (nI k)), (3, vI p.1), (2, vR 4 (40 + S)), (0, vR 0 0)] ⟨rfl, rfl, rfl, rfl, rfl, trivial⟩ ?_
    rw [e2, ek, ← hCk k]
    generalize hv : C (40 * S + k) = v at ih
    refine run hG [41] 60 ?_
    refine And.intro (fun h5 => ?_) (fun h5 => ?_)
    · have h5 : lg_cmp v (lN 0) < 0 := h5
      rw [lg_cmp_lt] at h5
      refine cl_use hG (skip ?_ v) ⟨rfl, rfl, rfl, rfl, rfl, trivial⟩
      unfold lyI
      rw [hv, decide_eq_false (fun h => Int64.not_lt.mpr h h5)]
      rfl
    · have h5 : ¬ lg_cmp v (lN 0) < 0 := h5
      rw [lg_cmp_lt] at h5
      refine And.intro (fun h6 => ?_) (fun h6 => ?_)
      · have h6 : 0 < lg_cmp v 9 := h6
        rw [lg_cmp_gt] at h6
        refine cl_use hG (skip ?_ v) ⟨rfl, rfl, rfl, rfl, rfl, trivial⟩
        unfold lyI
        rw [hv, decide_eq_false (p := v ≤ 9) (fun h => Int64.not_lt.mpr h h6), Bool.and_false]
      · have h6 : ¬ 0 < lg_cmp v 9 := h6
        rw [lg_cmp_gt] at h6
        rw [if_pos (show lyI C S k = true by unfold lyI; rw [hv, decide_eq_true (Int64.not_lt.mp h5), decide_eq_true (Int64.not_lt.mp h6)]; rfl)] at ih
        refine And.intro (vp_in_nI (by omega) (by omega)) ?_
        refine cl_lv hG [(4, vI (nI k + nI 1)), (3, vI (p.1 + nI 1)), (2, vR 4 (40 + S)), (0, vR 0 0)] ⟨rfl, rfl, rfl, rfl, trivial⟩ ?_
        show G 41 _ [] (uI H 2 (nI k).toNatClampNeg v.toInt32)
        rw [nI_s, ek]
        exact ih _ (frs_u hfr (by omega) (by omega) (by omega)) (by rw [w1_ht _ _ (by omega), e])) 0 (by omega)
  refine run hG [41] 60 ?_
  exact cl_use hG (key hp (frs_r 1 hp) hff) ⟨rfl, rfl, rfl, rfl, trivial⟩
theorem sc_X4_lays {own : String} {F L idx : Nat} (h1 : Cond.methodLink own idx yX4_lays ∈ Gw) (hF : 3 ≤ F) (hL : 70 ≤ L) : SC own F L (idx, false, 2, sp_X4_lays) := SC_V spF_mono c_X4_lays okd_0 (fun as hp K h => by obtain ⟨x, hx, -⟩ := spF_e h; exact ⟨_, _, d_C_I_e hx⟩) h1 gw_770 gw_771 gw_69 gw_772 (by decide +kernel) hF hL
