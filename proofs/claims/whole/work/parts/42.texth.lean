/-! the whole text -/
def pIts (t : Nat → Int32) (n : Nat) : Nat → Nat → Nat → (Nat → Int32) → Sum Nat (Nat × (Nat → Int32))
  | 0, _, h, _ => .inl h
  | m + 1, c, h, f => match pIt t n (bk t n h) f with
    | .inl s => .inl s
    | .inr p => if byt t n (bk t n p.1) = nI 59 then pIts t n m (c + 1) (bk t n p.1 + 1) p.2 else if bk t n p.1 < n then .inl (bk t n p.1) else .inr (c + 1, p.2)
def pWard (t : Nat → Int32) (n : Nat) (f : Nat → Int32) : Sum Nat (Nat × (Nat → Int32)) := pIts t n (n + 1) 0 0 f
def wdR (r : Sum Nat (Nat × (Nat → Int32))) (f : Nat → Int32) : Int32 × (Nat → Int32) := match r with
  | .inl s => (-1 - nI s, f)
  | .inr p => (nI p.1, p.2)
def sm9 (o p : Nat → Int32) : Prop := ∀ k, k ≠ 11 → k ≠ 12 → k ≠ 13 → k ≠ 14 → p k = o k
def F_ward (hp : HP) : Int32 × (Nat → Int32) := wdR (pWard (hp.1 62) (tN hp) (hp.1 53)) (hp.1 53)
def sp_X5_ward : SP := spF d_M (fun _ hp => tapOK hp ∧ WS (hp.1 53)) (fun _ hp v hq => v = some (vI (F_ward hp).1) ∧ ∃ o, hq = ob (rI hp 56 (hp.1 53)) (F_ward hp).2 o ∧ o 11 = nI 0 ∧ sm9 (hp.1 52) o)
theorem ob_r56 (hp : HP) (g o f : Nat → Int32) : ob (rI hp 56 f) g o = rI (ob hp g o) 56 f := by
  unfold ob
  rw [rI_comm hp _ _ (by omega), rI_comm _ _ _ (by omega)]
def E_X5_ward : EN := [(164, true, 2, sp_X5_lay), (311, false, 1, sp_X5_item), (205, false, 1, sp_X5_blanks), (196, false, 2, sp_X5_byteAt), (226, false, 1, sp_X5_fails)]
set_option maxRecDepth 100000 in
set_option maxHeartbeats 4000000 in
theorem c_X5_ward : Ctr M_X5_ward sp_X5_ward := by
  refine ctr_of (own := RX5) M_X5_ward sp_X5_ward (P := P_X5_ward) (K := K_X5) (E := E_X5_ward) (by decide) rfl pk_X5_ward K_X5_ok (List.forall_mem_cons.mpr ⟨sc_X5_lay gw_1077 (by decide) (by decide), List.forall_mem_cons.mpr ⟨sc_X5_item gw_1157 (by decide) (by decide), List.forall_mem_cons.mpr ⟨sc_X5_blanks gw_1174 (by decide) (by decide), List.forall_mem_cons.mpr ⟨sc_X5_byteAt gw_1178 (by decide) (by decide), List.forall_mem_cons.mpr ⟨sc_X5_fails gw_1191 (by decide) (by decide), fun _ h => absurd h List.not_mem_nil⟩⟩⟩⟩⟩) (fun as hp Q h => by obtain ⟨x, hx, -⟩ := spF_e h; rw [d_M_e hx]; exact Nat.le_of_ble_eq_true rfl) ?_
  intro Q G hQi hG as hp h
  obtain ⟨x, hx, hpre, hQ⟩ := spF_e h
  rw [d_M_e hx]
  clear h hx
  obtain ⟨hT, hW⟩ := hpre
  unfold F_ward pWard at hQ
  have hn : tN hp ≤ 120 ∧ hp.1 52 11 = nI (tN hp) := by
    obtain ⟨T, hT, e⟩ := hT
    unfold tN
    rw [e, nI_clamp (by omega)]
    exact ⟨hT, rfl⟩
  generalize tN hp = n at hQ hn
  obtain ⟨hn, e11⟩ := hn
  generalize hf : hp.1 53 = f at hQ hW
  generalize ht : hp.1 62 = t at hQ
  -- the base: what stood, laid by
  generalize hb0 : rI hp 56 f = hb at hQ
  have hb53 : hb.1 53 = f := by rw [← hb0, rI_ne _ _ (by omega)]; exact hf
  have hb56 : hb.1 56 = f := by rw [← hb0, rI_eq]
  have hb62 : hb.1 62 = t := by rw [← hb0, rI_ne _ _ (by omega)]; exact ht
  have hb52 : hb.1 52 = hp.1 52 := by rw [← hb0, rI_ne _ _ (by omega)]
  -- the end
  have fend : ∀ g o c l2 s, sm52 (hb.1 52) o → o 13 = nI s → s < 2 ^ 30 → (∀ v hq, v = some (vI (-1 - nI s)) ∧ (∃ o, hq = ob hb f o ∧ o 11 = nI 0 ∧ sm9 (hp.1 52) o) → Q v hq) → G 106 [(2, l2), (1, vI c), (0, vR 5 52)] [] (ob hb g o) := by
    intro g o c l2 s hs e13 hs30 hQ
    have e13' : (uI (ob hb g o) 52 11 (nI 0)).1 52 13 = nI s := by rw [ob_u52, ob_52, pk_un (by omega)]; exact e13
    have e9 : rI (uI (ob hb g o) 52 11 (nI 0)) 53 ((uI (ob hb g o) 52 11 (nI 0)).1 56) = ob hb f (upd o 11 (nI 0)) := by rw [ob_u52, ob_r53, ob_c _ _ _ (by omega) (by omega), hb56]
    refine run hG [] 60 ?_
    refine And.intro (fun h1 => ?_) (fun h1 => ?_)
    · have h1 : (uI (ob hb g o) 52 11 (nI 0)).1 52 13 < 0 := h1
      rw [e13'] at h1
      exact absurd h1 (nI_pos (by omega))
    refine And.intro ⟨rfl, rfl, by decide⟩ ?_
    refine hQ _ _ ⟨?_, upd o 11 (nI 0), e9, by rw [upd_at, if_pos rfl], fun k a b c d => by rw [pk_un a, hs k b c d, hb52]⟩
    show some (vI (-1 - (rI (uI (ob hb g o) 52 11 (nI 0)) 53 ((uI (ob hb g o) 52 11 (nI 0)).1 56)).1 52 13)) = _
    rw [e9, ob_52, pk_un (by omega), e13]
  have fok : ∀ g o c l2, sm52 (hb.1 52) o → o 13 = -1 → (∀ v hq, v = some (vI c) ∧ (∃ o, hq = ob hb g o ∧ o 11 = nI 0 ∧ sm9 (hp.1 52) o) → Q v hq) → G 106 [(2, l2), (1, vI c), (0, vR 5 52)] [] (ob hb g o) := by
    intro g o c l2 hs e13 hQ
    have e13' : (uI (ob hb g o) 52 11 (nI 0)).1 52 13 = -1 := by rw [ob_u52, ob_52, pk_un (by omega)]; exact e13
    refine run hG [] 60 ?_
    refine And.intro (fun h1 => ?_) (fun h1 => ?_)
    · refine hQ _ _ ⟨rfl, upd o 11 (nI 0), ob_u52 _ _ _ _ _, by rw [upd_at, if_pos rfl], fun k a b c d => by rw [pk_un a, hs k b c d, hb52]⟩
    · have h1 : ¬ (uI (ob hb g o) 52 11 (nI 0)).1 52 13 < 0 := h1
      rw [e13'] at h1
      exact absurd (by decide) h1
  have f83 : ∀ g o c l2 s, sm52 (hb.1 52) o → o 13 = nI s → s < 2 ^ 30 → (∀ v hq, v = some (vI (-1 - nI s)) ∧ (∃ o, hq = ob hb f o ∧ o 11 = nI 0 ∧ sm9 (hp.1 52) o) → Q v hq) → G 83 [(2, l2), (1, vI c), (0, vR 5 52)] [] (ob hb g o) := by
    intro g o c l2 s hs e13 hs30 hQ
    have k9 := fend g o c l2 s hs e13 hs30 hQ
    refine run hG [106] 60 ?_
    refine And.intro (fun h1 => ?_) (fun h1 => ?_)
    · exact cl_use hG k9 ⟨rfl, rfl, rfl, trivial⟩
    · have h1 : ¬ 0 ≤ (ob hb g o).1 52 13 := h1
      rw [ob_52, e13] at h1
      exact absurd (nI_nn (by omega)) h1
  have z25 : ∀ g o c h, OX hb n h o → (h < n → ∀ v hq, v = some (vI (-1 - nI h)) ∧ (∃ o, hq = ob hb f o ∧ o 11 = nI 0 ∧ sm9 (hp.1 52) o) → Q v hq) → (¬ h < n → ∀ v hq, v = some (vI c) ∧ (∃ o, hq = ob hb g o ∧ o 11 = nI 0 ∧ sm9 (hp.1 52) o) → Q v hq) → G 25 [(2, vI (nI 0)), (1, vI c), (0, vR 5 52)] [] (ob hb g o) := by
    intro g o c h hX hQ1 hQ2
    have hh := hX.1.2.1
    have e13 : (ob hb g o).1 52 13 = -1 := by rw [ob_52]; exact hX.1.2.2.2.2
    have e12 : (ob hb g o).1 52 12 = nI h := by rw [ob_52]; exact hX.1.2.2.2.1
    have e11 : (ob hb g o).1 52 11 = nI n := by rw [ob_52]; exact hX.1.2.2.1
    refine run hG [106] 60 ?_
    refine And.intro (fun h1 => ?_) (fun h1 => absurd (by decide) h1)
    refine And.intro (fun h2 => ?_) (fun h2 => ?_)
    · have h2 : 0 ≤ (ob hb g o).1 52 13 := h2
      rw [e13] at h2
      exact absurd h2 not_nn
    refine And.intro (fun h3 => ?_) (fun h3 => ?_)
    · have h3 : (ob hb g o).1 52 11 ≤ (ob hb g o).1 52 12 := h3
      rw [e11, e12, Int32.le_iff_toInt_le, nI_toInt (by omega), nI_toInt (by omega)] at h3
      exact cl_use hG (fok g o c _ hX.2 hX.1.2.2.2.2 (hQ2 (by omega))) ⟨rfl, rfl, rfl, trivial⟩
    · have h3 : ¬ (ob hb g o).1 52 11 ≤ (ob hb g o).1 52 12 := h3
      rw [e11, e12, Int32.le_iff_toInt_le, nI_toInt (by omega), nI_toInt (by omega)] at h3
      refine And.intro trivial ?_
      have e9 : uI (ob hb g o) 52 13 (if 0 ≤ (ob hb g o).1 52 13 then (ob hb g o).1 52 13 else (ob hb g o).1 52 12) = ob hb g (upd o 13 (nI h)) := by rw [e13, if_neg not_nn, e12, ob_u52]
      have k9 := fend g (upd o 13 (nI h)) c (vI (nI 0)) h (sm_u hX.2 (by omega) _) (by rw [upd_at, if_pos rfl]) (by omega) (hQ1 (by omega))
      rw [← e9] at k9
      exact cl_use hG k9 ⟨rfl, rfl, rfl, trivial⟩
  have lp : ∀ m c h g o, n < h + m → OX hb n h o → WS g → c + m = n + 1 → (∀ v hq, v = some (vI (wdR (pIts t n m c h g) f).1) ∧ (∃ o, hq = ob hb (wdR (pIts t n m c h g) f).2 o ∧ o 11 = nI 0 ∧ sm9 (hp.1 52) o) → Q v hq) → G 25 [(2, vI (nI 1)), (1, vI (nI c)), (0, vR 5 52)] [] (ob hb g o) := by
    intro m
    induction m with
    | zero =>
      intro c h g o hm hX
      have := hX.1.2.1
      exfalso
      omega
    | succ m ih =>
      intro c h g o hm hX hWg hcm hQ
      have hts := hX.1.ts hb g
      have hbl := bk_le t hX.1.2.1
      have hok := pIt_ok (t := t) hWg hbl.2
      unfold pIts at hQ
      refine run hG [25, 33] 60 ?_
      refine And.intro (fun h1 => absurd h1 (by decide)) (fun h1 => ?_)
      refine And.intro ⟨hX.pre g, show many ((ob hb g o).1 53) by rw [ob_53]; exact hWg.1.many⟩ ?_
      intro v hq hto
      have hto : told (ob hb g o) (pIt ((ob hb g o).1 62) (tN (ob hb g o)) (bk ((ob hb g o).1 62) (tN (ob hb g o)) (tH (ob hb g o))) ((ob hb g o).1 53)) v hq := hto
      rw [hts.2.1, hts.2.2.1, hts.2.2.2.2, ob_53, hb62] at hto
      cases hr : pIt t n (bk t n h) g with
      | inl s =>
        rw [hr] at hto hQ hok
        obtain ⟨rfl, g1, o1, rfl, h1, h2⟩ := hto
        rw [ob_52] at h1
        have hQ : ∀ v hq, v = some (vI (-1 - nI s)) ∧ (∃ o, hq = ob hb f o ∧ o 11 = nI 0 ∧ sm9 (hp.1 52) o) → Q v hq := hQ
        have hsn : s ≤ n := hok
        refine cl_lv hG [(2, vI (nI 1)), (1, vI (nI c)), (0, vR 5 52)] ⟨rfl, rfl, rfl, trivial⟩ ?_
        show G 33 _ [vI (nI 0)] (ob (ob hb g o) g1 o1)
        rw [ob_ob]
        have k9 := f83 g1 o1 (nI c) (vI (nI 1)) s (sm_t hX.2 h1) h2 (by omega) hQ
        refine run hG [83] 60 ?_
        refine And.intro (fun h3 => ?_) (fun h3 => absurd (by decide) h3)
        exact cl_use hG k9 ⟨rfl, rfl, rfl, trivial⟩
      | inr p =>
        rw [hr] at hto hQ hok
        obtain ⟨k, f1⟩ := p
        obtain ⟨rfl, o1, rfl, h1, h2, h3⟩ := hto
        rw [ob_52] at h1
        have hok : bk t n h + 2 ≤ k ∧ k ≤ n ∧ WS f1 := hok
        have h2 : o1 12 = nI k := h2
        have hX1 : OX hb n k o1 := ⟨⟨hn, hok.2.1, by rw [h1 11 (by omega) (by omega) (by omega)]; exact hX.1.2.2.1, h2, h3⟩, sm_t hX.2 h1⟩
        have hQ : ∀ v hq, v = some (vI (wdR (if byt t n (bk t n k) = nI 59 then pIts t n m (c + 1) (bk t n k + 1) f1 else if bk t n k < n then .inl (bk t n k) else .inr (c + 1, f1)) f).1) ∧ (∃ o, hq = ob hb (wdR (if byt t n (bk t n k) = nI 59 then pIts t n m (c + 1) (bk t n k + 1) f1 else if bk t n k < n then .inl (bk t n k) else .inr (c + 1, f1)) f).2 o ∧ o 11 = nI 0 ∧ sm9 (hp.1 52) o) → Q v hq := hQ
        refine cl_lv hG [(2, vI (nI 1)), (1, vI (nI c)), (0, vR 5 52)] ⟨rfl, rfl, rfl, trivial⟩ ?_
        show G 33 _ [vI (nI 1)] (ob (ob hb g o) f1 o1)
        rw [ob_ob]
        have hts1 := hX1.1.ts hb f1
        have htb1 := hX1.1.tb hb f1
        rw [hb62] at htb1
        have hbk := bk_le t hX1.1.2.1
        have hX2 := hX1.to hbk.2
        have e122 : upd o1 12 (nI (bk t n k)) 12 = nI (bk t n k) := by rw [upd_at, if_pos rfl]
        generalize hB1 : bk t n k = B1 at hQ htb1 hbk hX2 e122
        refine run hG [43, 83] 60 ?_
        refine And.intro (fun h3 => absurd h3 (by decide)) (fun h3 => ?_)
        refine And.intro hts1.1 ?_
        refine cl_lv hG [(1, vI (nI c + nI 1)), (2, vI (nI 1)), (0, vR 5 52)] ⟨rfl, rfl, rfl, trivial⟩ ?_
        show G 43 _ [] (uI (ob hb f1 o1) 52 12 (nI (tB (ob hb f1 o1))))
        rw [htb1, ob_u52, nI_s]
        generalize upd o1 12 (nI B1) = o2 at hX2 e122
        have hts2 := hX2.1.ts hb f1
        have e12 : (ob hb f1 o2).1 52 12 = nI B1 := by rw [ob_52]; exact e122
        have e9 : byt ((ob hb f1 o2).1 62) (tN (ob hb f1 o2)) ((ob hb f1 o2).1 52 12).toNatClampNeg = byt t n B1 := by rw [hts2.2.1, hts2.2.2.2.2, hb62, e12, nI_clamp (by omega)]
        refine run hG [25] 60 ?_
        refine And.intro ⟨show vp_in ((ob hb f1 o2).1 52 12) 1000 by rw [e12]; exact vp_in_nI (by omega) (by omega), n, hn, show (ob hb f1 o2).1 52 11 = nI n by rw [ob_52]; exact hX2.1.2.2.1⟩ ?_
        refine And.intro (fun h4 => ?_) (fun h4 => ?_)
        · have h4 : ¬ byt ((ob hb f1 o2).1 62) (tN (ob hb f1 o2)) ((ob hb f1 o2).1 52 12).toNatClampNeg = nI 59 := h4
          rw [e9] at h4
          rw [if_neg h4] at hQ
          refine And.intro (fun h5 => ?_) (fun h5 => absurd (by decide) h5)
          have e8 : uI (ob hb f1 o2) 52 12 ((ob hb f1 o2).1 52 12 + nI 0) = ob hb f1 (upd o2 12 (nI B1)) := by rw [e12, nI_add, ob_u52]; rfl
          have k9 := z25 f1 (upd o2 12 (nI B1)) (nI (c + 1)) B1 (hX2.to hbk.2) (fun h => by rw [if_pos h] at hQ; exact hQ) (fun h => by rw [if_neg h] at hQ; exact hQ)
          rw [← e8] at k9
          exact cl_use hG k9 ⟨rfl, rfl, rfl, trivial⟩
        · have h4 : byt ((ob hb f1 o2).1 62) (tN (ob hb f1 o2)) ((ob hb f1 o2).1 52 12).toNatClampNeg = nI 59 := h4
          rw [e9] at h4
          rw [if_pos h4] at hQ
          have hlt : B1 < n := by
            have := byt_in (p := fun x => decide (x = nI 59)) (by decide) (decide_eq_true h4)
            exact this.1
          refine And.intro (fun h5 => absurd h5 (by decide)) (fun h5 => ?_)
          have e8 : uI (ob hb f1 o2) 52 12 ((ob hb f1 o2).1 52 12 + nI 1) = ob hb f1 (upd o2 12 (nI (B1 + 1))) := by rw [e12, nI_s, ob_u52]
          have k9 := ih (c + 1) (B1 + 1) f1 (upd o2 12 (nI (B1 + 1))) (by omega) (hX2.to (by omega)) hok.2.2 (by omega) hQ
          rw [← e8] at k9
          exact cl_use hG k9 ⟨rfl, rfl, rfl, trivial⟩
  have hX0 : OX hb n 0 (upd (upd (hp.1 52) 12 (nI 0)) 13 (-1)) := by
    refine ⟨⟨hn, Nat.zero_le _, by rw [pk_un (by omega), pk_un (by omega)]; exact e11, by rw [pk_un (by omega), upd_at, if_pos rfl], by rw [upd_at, if_pos rfl]⟩, ?_⟩
    rw [hb52]
    exact sm_u (sm_u (sm_r _) (by omega) _) (by omega) _
  have k0 := lp (n + 1) 0 0 f _ (by omega) hX0 hW (by omega) hQ
  have eH : rI (uI (uI hp 52 12 (nI 0)) 52 13 (-1)) 56 ((uI (uI hp 52 12 (nI 0)) 52 13 (-1)).1 53) = ob hb f (upd (upd (hp.1 52) 12 (nI 0)) 13 (-1)) := by
    rw [uI_row _ _ _ (by omega), uI_row _ _ _ (by omega), hf, ← hb0, ob_r56, uI_r hp, uI_rI]
    unfold ob
    rw [rI_id hf]
  rw [← eH] at k0
  refine run hG [25] 60 ?_
  refine And.intro ⟨rfl, rfl, by decide⟩ ?_
  exact cl_use hG k0 ⟨rfl, rfl, rfl, trivial⟩
theorem sc_X5_ward {own : String} {F L idx : Nat} (h1 : Cond.methodLink own idx yX5_ward ∈ Gw) (hF : 11 ≤ F) (hL : 238 ≤ L) : SC own F L (idx, false, 1, sp_X5_ward) := SC_V spF_mono c_X5_ward okd_5 (fun as hp K h => by obtain ⟨x, hx, -⟩ := spF_e h; exact ⟨_, _, d_M_e hx⟩) h1 gw_1154 gw_1155 gw_75 gw_1156 (by decide +kernel) hF hL
