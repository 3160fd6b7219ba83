theorem TXS.dig {n h : Nat} {B o : Nat → Int32} (ht : TXS n h B o) (hd : dgB (byt B n (bk B n h)) = true) : bk B n h < n ∧ dgB (B (bk B n h)) = true := by
  have hi := byt_in (p := dgB) (by decide) hd
  rw [hi.2] at hd
  exact ⟨hi.1, hd⟩
def sp_X1_readRounds : SP := spF d_T_W (fun x hp => TX x hp) (fun x hp v hq => v = none ∧ td2 x hp (pRounds (hp.1 38) (nN hp) (hN hp) (rw_ hp x)) hq)
def E_X1_readRounds : EN := [(103, false, 1, sp_X3_emptyRounds), (60, false, 2, sp_X1_takeNumber), (106, false, 2, sp_X3_addRound)]
set_option maxRecDepth 100000 in
set_option maxHeartbeats 4000000 in
theorem c_X1_readRounds : Ctr M_X1_readRounds sp_X1_readRounds := by
  refine ctr_of (own := RX1) M_X1_readRounds sp_X1_readRounds (P := P_X1_readRounds) (K := K_X1) (E := E_X1_readRounds) (by decide) rfl pk_X1_readRounds K_X1_ok (List.forall_mem_cons.mpr ⟨sc_X3_emptyRounds gw_714 (by decide) (by decide), List.forall_mem_cons.mpr ⟨sc_X1_takeNumber gw_687 (by decide) (by decide), List.forall_mem_cons.mpr ⟨sc_X3_addRound gw_715 (by decide) (by decide), fun _ h => absurd h List.not_mem_nil⟩⟩⟩) (fun as hp Q h => by obtain ⟨x, hx, -⟩ := spF_e h; rw [d_T_W_e hx]; exact Nat.le_of_ble_eq_true rfl) ?_
  intro Q G hQi hG as hp h
  obtain ⟨x, hx, hpre, hQ⟩ := spF_e h
  rw [d_T_W_e hx]
  clear h hx
  obtain ⟨hw, ht, hf⟩ := hpre
  have hw : x + 12 ≤ 37 := hw
  have hQ : ∀ hq, td2 x hp (pRounds (hp.1 38) (nN hp) (hN hp) (rw_ hp x)) hq → Q none hq := fun hq h => hQ _ _ ⟨rfl, h⟩
  unfold pRounds at hQ
  generalize hR : rds (hp.1 38) (nN hp) 13 0 (hN hp) (rstF (rw_ hp x)) = R at hQ
  have key := for_up (P := fun c => ∀ H g h, c < 12 → FR x hp H → H.1 37 2 = -1 → TXS (nN hp) h (hp.1 38) (H.1 37) → rw_ H x = g → g 5 = nI c → rds (hp.1 38) (nN hp) (13 - c) c h g = R → G 24 [(2, vI (nI c)), (1, vR 1 x), (0, vR 3 37)] [] H) 12 (by
    intro H g h hc
    omega) (by
    intro c hc ih H g h _ hfr h2 htx hg h5 hr
    have hB := hfr.b hw
    rw [show 13 - c = (12 - c) + 1 by omega] at hr
    unfold rds at hr
    rw [if_neg (by omega)] at hr
    have htH : TXS (nN hp) h (H.1 38) (H.1 37) := by rw [hB]; exact htx
    refine run hG [30] 60 ?_
    refine And.intro ⟨_, _, htH⟩ ?_
    intro v hq hP
    rcases tk_num htH (m := 24) (by omega) hP with ⟨hb, rfl, hX, hx2⟩ | ⟨hb, rfl, hv, hX, hx2, ht2⟩
    · rw [hB] at hb hx2
      rw [if_neg (by rw [hb]; decide)] at hr
      refine run hG [] 60 ?_
      refine And.intro (fun h => absurd h (by decide)) (fun _ => hQ hq ⟨FR_t hfr (hX.fr hw), ?_⟩)
      rw [← hr]
      exact Or.inl hx2
    · rw [hB] at hb hv ht2 ⊢
      rw [if_pos hb] at hr
      generalize pnV (hp.1 38) (nN hp) h = V at hr hv
      have htb := ht2.tb
      generalize hE : pnE (hp.1 38) (nN hp) h = E at hr ht2 htb
      have e9 : hq.1 x 9 = nI c := by rw [hX.1 x (by omega), ← rw_5, hg, h5]
      have ec : (nI c).toNatClampNeg = c := nI_clamp (by omega)
      refine run hG [6] 60 ?_
      refine And.intro (fun _ => ?_) (fun h => absurd (nI_nn (by omega)) h)
      refine And.intro (show vp_in (hq.1 x 9) 12 by rw [e9]; exact vp_in_nI hc (by omega)) ?_
      refine cl_lv hG [(2, vI (nI c + nI 1)), (1, vR 1 x), (0, vR 3 37)] ⟨rfl, rfl, rfl, trivial⟩ ?_
      show G 6 _ [] (uI (uI hq (x + 2) (hq.1 x 9).toNatClampNeg (nI V)) x 9 (hq.1 x 9 + nI 1))
      rw [e9, ec, nI_s]
      have hfr2 : FR x hp (uI (uI hq (x + 2) c (nI V)) x 9 (nI (c + 1))) := FR_t (FR_t hfr (hX.fr hw)) (FR_w hw (frm_u (frm_u (frm_r x hq) (by omega) (by omega)) (by omega) (by omega)) (fun hz => hiz_u (hiz_u hz (by omega)) (by omega)))
      have e37 : (uI (uI hq (x + 2) c (nI V)) x 9 (nI (c + 1))).1 37 = hq.1 37 := by rw [uI_row _ _ _ (by omega), uI_row _ _ _ (by omega)]
      have erow : rw_ (uI (uI hq (x + 2) c (nI V)) x 9 (nI (c + 1))) x = upd (upd g (7 + c) (nI V)) 5 (nI (c + 1)) := by
        rw [ru_5, rw_u2 _ _ _ hc, hX.row hw, hg]
      generalize uI (uI hq (x + 2) c (nI V)) x 9 (nI (c + 1)) = H2 at hfr2 e37 erow
      have h22 : H2.1 37 2 = -1 := by rw [e37, hx2]; exact h2
      rw [← e37] at ht2 htb
      have hisn := htb.isn
      rw [bk_bk _ ht2.2.1] at hisn
      -- it ends here
      have fin : (dgB (byt (hp.1 38) (nN hp) (bk (hp.1 38) (nN hp) E)) = true → c + 1 = 12) → Q none H2 := fun hd => by
        refine hQ H2 ⟨hfr2, ?_⟩
        rw [← hr]
        cases hdd : dgB (byt (hp.1 38) (nN hp) (bk (hp.1 38) (nN hp) E)) with
        | false =>
          rw [if_neg (by decide)]
          exact ⟨h22, htb, erow⟩
        | true =>
          have hc12 := hd hdd
          rw [if_pos rfl, hc12, show 12 - c = 0 + 1 by omega]
          unfold rds
          rw [if_pos rfl]
          have hk := ht2.dig hdd
          exact Or.inr ⟨h22, E, ht2, rfl, hk.1, hk.2⟩
      by_cases hc12 : c + 1 = 12
      · refine run hG [] 60 ?_
        refine And.intro (fun _ => fin (fun _ => hc12)) (fun h => absurd (show nI 12 ≤ nI (c + 1) by rw [hc12]; decide) h)
      · refine run hG [24] 60 ?_
        refine And.intro (fun h => absurd (show nI 12 ≤ nI (c + 1) from h) (nI_ge (by omega) (by omega))) (fun _ => ?_)
        refine And.intro (fun h => ?_) (fun _ => ?_)
        · have h : nI (c + 1) = nI 0 := h
          rw [nI_eq (by omega) (by omega)] at h
          omega
        refine And.intro (fun h3 => ?_) (fun h3 => ?_)
        · have h3 : ¬ H2.1 37 3 = nI 2 := h3
          refine fin (fun hd => absurd (hisn.1.mpr hd) h3)
        · have h3 : H2.1 37 3 = nI 2 := h3
          have hd := hisn.1.mp h3
          rw [if_pos hd, show 12 - c = 13 - (c + 1) by omega] at hr
          exact cl_use hG (ih H2 _ _ (by omega) hfr2 h22 htb erow (by rw [upd_at, if_pos rfl]) hr) ⟨rfl, rfl, rfl, trivial⟩) 0 (by omega)
  refine run hG [24] 60 ?_
  refine And.intro trivial ?_
  refine And.intro (fun h => absurd (show nI 12 ≤ nI 0 from h) (by decide)) (fun _ => ?_)
  refine And.intro (fun _ => ?_) (fun h => absurd rfl h)
  refine cl_lv hG [(2, vI (nI 0)), (1, vR 1 x), (0, vR 3 37)] ⟨rfl, rfl, rfl, trivial⟩ ?_
  show G 24 _ [] (uI (uI hp x 9 (nI 0)) x 10 (-1))
  have e37 : (uI (uI hp x 9 (nI 0)) x 10 (-1)).1 37 = hp.1 37 := by rw [uI_row _ _ _ (by omega), uI_row _ _ _ (by omega)]
  refine key _ (rstF (rw_ hp x)) (hN hp) (by omega) (FR_w hw (frm_u (frm_u (frm_r x hp) (by omega) (by omega)) (by omega) (by omega)) (fun hz => hiz_u (hiz_u hz (by omega)) (by omega))) (by rw [e37]; exact hf) (by rw [e37]; exact ht) ?_ ?_ hR
  · rw [ru_4, ru_5]
    unfold rstF
    rw [upd_comm _ _ _ (by omega)]
  · unfold rstF
    rw [upd_at, if_pos rfl]
theorem sc_X1_readRounds {own : String} {F L idx : Nat} (h1 : Cond.methodLink own idx yX1_readRounds ∈ Gw) (hF : 4 ≤ F) (hL : 86 ≤ L) : SC own F L (idx, false, 2, sp_X1_readRounds) := SC_V spF_mono c_X1_readRounds okd_3 (fun as hp K h => by obtain ⟨x, hx, -⟩ := spF_e h; exact ⟨_, _, d_T_W_e hx⟩) h1 gw_712 gw_18 gw_73 gw_713 (by decide +kernel) hF hL
theorem add_eq {f : Nat → Int32} {c : Nat} (hc : c < 8) (e : f 6 = nI c) (k q y : Int32) : upd (upd (upd (upd (upd (upd f (144 + 5 * c + 0) k) (144 + 5 * c + 1) q) (144 + 5 * c + 2) q) (144 + 5 * c + 3) y) (144 + 5 * c + 4) (nI 0)) 6 (nI c + nI 1) = addF f k q y := by
  unfold addF
  rw [e, nI_clamp (by omega), upd_comm _ _ _ (show 144 + 5 * c + 4 ≠ 6 by omega), upd_comm _ _ _ (show 144 + 5 * c + 3 ≠ 6 by omega), upd_comm _ _ _ (show 144 + 5 * c + 2 ≠ 6 by omega), upd_comm _ _ _ (show 144 + 5 * c + 1 ≠ 6 by omega), upd_comm _ _ _ (show 144 + 5 * c + 0 ≠ 6 by omega)]
theorem frm_adw {hp : HP} {w c : Nat} (hc : c < 8) (k q y : Int32) : frm w hp (adH hp w c k q y) := by
  unfold adH
  exact frm_u (frm_u (frm_u (frm_u (frm_u (frm_u (frm_r w hp) (by omega) (by omega)) (by omega) (by omega)) (by omega) (by omega)) (by omega) (by omega)) (by omega) (by omega)) (by omega) (by omega)
theorem kw_eq {n h : Nat} {B o : Nat → Int32} (ht : TXS n h B o) : kwO B o = kwN B n (bk B n h) := by
  unfold kwO kwN
  refine fst_cg _ _ (fun j _ hj => ?_)
  rw [wrd40]
  exact ht.word ⟨by omega, Or.inl (by omega)⟩
def pWk (t : Nat → Int32) (n b : Nat) (f : Nat → Int32) : Sum Nat (Nat × (Nat → Int32)) := if kwN t n b < 6 then (if f 6 = nI 8 then .inl b else pWalker t n (nI (kwN t n b)) (b + tx_n (40 + 2 * kwN t n b)) f) else .inl b
theorem wd40 (t : Nat → Int32) (n m h : Nat) : wd t n (40 + m) h = wd t n m h := wrd40 t n _ m
theorem wdK40 (t : Nat → Int32) (n m h : Nat) : wdK t n (40 + m) h = wdK t n m h := by
  unfold wdK
  rw [wd40, tx40n]
theorem TX.hb {w : Nat} {hp : HP} (h : TX w hp) : bk (hp.1 38) (nN hp) (hN hp) = hN hp := by
  have hl := h.2.1.le
  have e := congrArg Int32.toNatClampNeg h.2.1.s4
  rw [nI_clamp (by omega)] at e
  exact e.symm
def sp_X1_readWalker : SP := spF d_T_W (fun x hp => TX x hp ∧ many (rw_ hp x)) (fun x hp v hq => v = none ∧ td2 x hp (pWk (hp.1 38) (nN hp) (hN hp) (rw_ hp x)) hq)
def E_X1_readWalker : EN := [(110, false, 1, sp_X1_kindOfWord), (34, false, 1, sp_X1_nextToken), (43, false, 2, sp_X1_takesWord), (60, false, 2, sp_X1_takeNumber), (121, false, 4, sp_X3_addWalker)]
set_option maxRecDepth 100000 in
set_option maxHeartbeats 4000000 in
theorem c_X1_readWalker : Ctr M_X1_readWalker sp_X1_readWalker := by
  refine ctr_of (own := RX1) M_X1_readWalker sp_X1_readWalker (P := P_X1_readWalker) (K := K_X1) (E := E_X1_readWalker) (by decide) rfl pk_X1_readWalker K_X1_ok (List.forall_mem_cons.mpr ⟨sc_X1_kindOfWord gw_720 (by decide) (by decide), List.forall_mem_cons.mpr ⟨sc_X1_nextToken gw_611 (by decide) (by decide), List.forall_mem_cons.mpr ⟨sc_X1_takesWord gw_627 (by decide) (by decide), List.forall_mem_cons.mpr ⟨sc_X1_takeNumber gw_687 (by decide) (by decide), List.forall_mem_cons.mpr ⟨sc_X3_addWalker gw_735 (by decide) (by decide), fun _ h => absurd h List.not_mem_nil⟩⟩⟩⟩⟩) (fun as hp Q h => by obtain ⟨x, hx, -⟩ := spF_e h; rw [d_T_W_e hx]; exact Nat.le_of_ble_eq_true rfl) ?_
  intro Q G hQi hG as hp h
  obtain ⟨x, hx, hpre, hQ⟩ := spF_e h
  rw [d_T_W_e hx]
  clear h hx
  obtain ⟨hT, hmany⟩ := hpre
  have hT : TX x hp := hT
  have hbk := hT.hb
  obtain ⟨hw, ht, hf⟩ := hT
  have hmany : many (rw_ hp x) := hmany
  have hm := many_wc hmany
  have hQ : ∀ hq, td2 x hp (pWk (hp.1 38) (nN hp) (hN hp) (rw_ hp x)) hq → Q none hq := fun hq h => hQ _ _ ⟨rfl, h⟩
  have hl := ht.le
  have hkw := kw_eq ht
  rw [hbk] at hkw
  have e6 : rw_ hp x 6 = nI (mN (rw_ hp x)) := by rw [rw_6, hm.2]
  have hs4 := ht.s4
  rw [hbk] at hs4
  unfold pWk at hQ
  rw [e6] at hQ
  have fault : (∀ hq, td2 x hp (.inl (hN hp)) hq → Q none hq) → Q none (uI hp 37 2 (hp.1 37 4)) := fun h => by
    refine h _ ⟨X37.fr ⟨fun c hc => uI_row _ _ _ hc, rfl, uI_oth _ _ _ (by omega)⟩ hw, Or.inl ?_⟩
    rw [uI_same, hs4]
  refine run hG [5] 60 ?_
  refine And.intro ⟨_, _, ht⟩ ?_
  refine cl_lv hG [(2, vI (if kwO (hp.1 38) (hp.1 37) < 6 then nI (kwO (hp.1 38) (hp.1 37)) else -1)), (1, vR 1 x), (0, vR 3 37)] ⟨rfl, rfl, rfl, trivial⟩ ?_
  rw [hkw]
  by_cases hK : kwN (hp.1 38) (nN hp) (hN hp) < 6
  · rw [if_pos hK]
    rw [if_pos hK] at hQ
    have hwd : wd (hp.1 38) (nN hp) (2 * kwN (hp.1 38) (nN hp) (hN hp)) (hN hp) = true := by
      unfold wd
      rw [hbk, ← wrd40]
      have := fst_t (p := fun k => wrd (hp.1 38) (nN hp) (hN hp) (40 + 2 * k)) 6 0 (by unfold kwN at hK; omega)
      exact this
    have htk : txok (2 * kwN (hp.1 38) (nN hp) (hN hp)) := ⟨by omega, Or.inl (by omega)⟩
    have hend := ht.wend htk hwd
    have hE : wdK (hp.1 38) (nN hp) (2 * kwN (hp.1 38) (nN hp) (hN hp)) (hN hp) = hN hp + tx_n (40 + 2 * kwN (hp.1 38) (nN hp) (hN hp)) := by
      unfold wdK
      rw [hwd, if_pos rfl, hbk, tx40n]
    rw [hE] at hend
    generalize hN hp + tx_n (40 + 2 * kwN (hp.1 38) (nN hp) (hN hp)) = h1 at hend hQ
    generalize kwN (hp.1 38) (nN hp) (hN hp) = K at hK hQ
    clear hE hwd htk hkw
    generalize hc : mN (rw_ hp x) = c at hm hQ e6
    by_cases hc8 : c = 8
    · rw [if_pos (by rw [hc8])] at hQ
      refine run hG [] 60 ?_
      refine And.intro (fun h => absurd h (Int32.not_lt.mpr (nI_nn (by omega)))) (fun _ => ?_)
      refine And.intro (fun h => ?_) (fun _ => fault hQ)
      have h : hp.1 x 12 < nI 8 := h
      rw [hm.2, nI_ltI (by omega) (by omega)] at h
      omega
    · rw [if_neg (by rw [nI_eq (by omega) (by omega)]; exact hc8)] at hQ
      refine run hG [31] 60 ?_
      refine And.intro (fun h => absurd h (Int32.not_lt.mpr (nI_nn (by omega)))) (fun _ => ?_)
      refine And.intro (fun _ => ?_) (fun h => ?_)
      case refine_2 =>
        have h : ¬ hp.1 x 12 < nI 8 := h
        rw [hm.2, nI_ltI (by omega) (by omega)] at h
        omega
      refine And.intro ⟨nN hp, h1, ht.1, hend.2, ht.2.2.1, hend.1⟩ ?_
      rintro v hq ⟨rfl, hP⟩
      obtain ⟨hX1, f1, ht1⟩ := nx_tok ht hend.1 hend.2 hP
      have ht1' : TXS (nN hp) h1 (hq.1 38) (hq.1 37) := by rw [hX1.b]; exact ht1
      unfold pWalker at hQ
      rw [show (68 : Nat) = 40 + 28 from rfl, wd40, wdK40] at hQ
      refine run hG [37] 60 ?_
      refine And.intro ⟨⟨by decide, Or.inl (by decide)⟩, _, _, ht1'⟩ ?_
      intro v hq2 hP2
      rcases tk_word ht1' (m := 28) ⟨by decide, Or.inl (by decide)⟩ hP2 with ⟨hb, rfl, rfl⟩ | ⟨hb, rfl, hX2, f2, ht2⟩
      · rw [hX1.b] at hb
        rw [if_neg (by rw [hb]; decide)] at hQ
        refine run hG [] 60 ?_
        refine And.intro (fun h => absurd (show nI 0 = 0 from rfl) h) (fun _ => ?_)
        refine hQ _ ⟨FR_t (hX1.fr hw) (X37.fr ⟨fun c hc => uI_row _ _ _ hc, rfl, uI_oth _ _ _ (by omega)⟩ hw), Or.inl ?_⟩
        show (uI hq2 37 2 (hq2.1 37 4)).1 37 2 = _
        rw [uI_same, ht1.s4]
      · rw [hX1.b] at hb ht2
        rw [if_pos hb] at hQ
        generalize wdK (hp.1 38) (nN hp) 28 h1 = h2 at hQ ht2
        have hX12 := X37_t hX1 hX2
        have ht2' : TXS (nN hp) h2 (hq2.1 38) (hq2.1 37) := by rw [hX12.b]; exact ht2
        refine run hG [55] 60 ?_
        refine And.intro (fun _ => ?_) (fun h => absurd h (by decide))
        refine And.intro ⟨_, _, ht2'⟩ ?_
        intro v hq3 hP3
        rcases tk_num ht2' (m := 24) (by omega) hP3 with ⟨hb3, rfl, hX3, f3⟩ | ⟨hb3, rfl, hv3, hX3, f3, ht3⟩
        · rw [hX12.b] at hb3 f3
          rw [if_neg (by rw [hb3]; decide)] at hQ
          refine run hG [] 60 ?_
          exact And.intro (fun h => absurd h (by decide)) (fun _ => hQ hq3 ⟨FR_t (hX12.fr hw) (hX3.fr hw), Or.inl f3⟩)
        · rw [hX12.b] at hb3 ht3 hv3 ⊢
          rw [if_pos hb3] at hQ
          generalize pnV (hp.1 38) (nN hp) h2 = V at hQ hv3
          generalize pnE (hp.1 38) (nN hp) h2 = h3 at hQ ht3
          have hX13 := X37_t hX12 hX3
          have ht3' : TXS (nN hp) h3 (hq3.1 38) (hq3.1 37) := by rw [hX13.b]; exact ht3
          have f13 : hq3.1 37 2 = -1 := ((f3.trans f2).trans f1).trans hf
          unfold pWay at hQ
          rw [show (70 : Nat) = 40 + 30 from rfl, wd40, wdK40] at hQ
          -- the walker comes
          have adds : ∀ H (W : Nat) k, X37 hp H → H.1 37 2 = -1 → TXS (nN hp) k (hp.1 38) (H.1 37) → W < 4 → (∀ hq, td2 x hp (.inr (k, addF (rw_ hp x) (nI K) (nI V) (nI W))) hq → Q none hq) → G 81 [(4, vI (nI W)), (3, vI (nI V)), (2, vI (nI K)), (1, vR 1 x), (0, vR 3 37)] [] H := by
            intro H W k hX hf2 htk hW hq4
            have e12 : H.1 x 12 = nI c := by rw [hX.1 x (by omega)]; exact hm.2
            have ec : (nI c).toNatClampNeg = c := nI_clamp (by omega)
            refine run hG [] 60 ?_
            refine And.intro (fun h => absurd h (Int32.not_lt.mpr (nI_nn (by omega)))) (fun _ => ?_)
            refine And.intro (show vp_in (H.1 x 12) 8 by rw [e12]; exact vp_in_nI (by omega) (by omega)) ?_
            show Q none (adH H x (H.1 x 12).toNatClampNeg (nI K) (nI V) (nI W))
            rw [e12, ec]
            have hfm := frm_adw (hp := H) (w := x) (c := c) (by omega) (nI K) (nI V) (nI W)
            refine hq4 _ ⟨FR_t (hX.fr hw) (FR_w hw hfm (fun hz => hiz_ad hz _ _ _)), ?_⟩
            dsimp only
            rw [(hfm 37 (by omega)).1, rw_ad (by omega), hX.row hw, add_eq (by omega) e6]
            exact ⟨hf2, htk, rfl⟩
          refine run hG [67] 60 ?_
          refine And.intro (fun _ => ?_) (fun h => absurd (nI_nn (by omega)) h)
          refine And.intro ⟨⟨by decide, Or.inl (by decide)⟩, _, _, ht3'⟩ ?_
          intro v hq4 hP4
          rcases tk_word ht3' (m := 30) ⟨by decide, Or.inl (by decide)⟩ hP4 with ⟨hb4, rfl, rfl⟩ | ⟨hb4, rfl, hX4, f4, ht4⟩
          · rw [hX13.b] at hb4
            have hK3 : wdK (hp.1 38) (nN hp) 30 h3 = bk (hp.1 38) (nN hp) h3 := by
              unfold wdK
              rw [hb4]
              rfl
            rw [if_neg (by rw [hb4]; decide), hK3] at hQ
            refine run hG [81] 60 ?_
            refine And.intro (fun _ => ?_) (fun h => absurd (show nI 0 = 0 from rfl) h)
            exact cl_use hG (adds hq4 0 _ hX13 f13 ht3.tb (by omega) hQ) ⟨rfl, rfl, rfl, rfl, rfl, trivial⟩
          · rw [hX13.b] at hb4 ht4
            rw [if_pos hb4] at hQ
            generalize wdK (hp.1 38) (nN hp) 30 h3 = h4 at hQ ht4
            have hX14 := X37_t hX13 hX4
            have ht4' : TXS (nN hp) h4 (hq4.1 38) (hq4.1 37) := by rw [hX14.b]; exact ht4
            refine run hG [79] 60 ?_
            refine And.intro (fun h => absurd h (by decide)) (fun _ => ?_)
            refine And.intro ⟨_, _, ht4'⟩ ?_
            intro v hq5 hP5
            rcases tk_num ht4' (m := 3) (by omega) hP5 with ⟨hb5, rfl, hX5, f5⟩ | ⟨hb5, rfl, hv5, hX5, f5, ht5⟩
            · rw [hX14.b] at hb5 f5
              rw [if_neg (by rw [hb5]; decide)] at hQ
              refine run hG [] 60 ?_
              exact And.intro (fun _ => hQ hq5 ⟨FR_t (hX14.fr hw) (hX5.fr hw), Or.inl f5⟩) (fun h => absurd (show (-1 : Int32) < 0 by decide) h)
            · rw [hX14.b] at hb5 ht5 hv5 ⊢
              rw [if_pos hb5] at hQ
              generalize pnV (hp.1 38) (nN hp) h4 = W at hQ hv5
              refine run hG [81] 60 ?_
              exact cl_use hG (adds hq5 W _ (X37_t hX14 hX5) ((f5.trans f4).trans f13) ht5 (by omega) hQ) ⟨rfl, rfl, rfl, rfl, rfl, trivial⟩
  · rw [if_neg hK]
    rw [if_neg hK] at hQ
    refine run hG [] 60 ?_
    exact And.intro (fun _ => fault hQ) (fun h => absurd (show (-1 : Int32) < 0 by decide) h)
theorem sc_X1_readWalker {own : String} {F L idx : Nat} (h1 : Cond.methodLink own idx yX1_readWalker ∈ Gw) (hF : 8 ≤ F) (hL : 173 ≤ L) : SC own F L (idx, false, 2, sp_X1_readWalker) := SC_V spF_mono c_X1_readWalker okd_3 (fun as hp K h => by obtain ⟨x, hx, -⟩ := spF_e h; exact ⟨_, _, d_T_W_e hx⟩) h1 gw_718 gw_19 gw_73 gw_719 (by decide +kernel) hF hL
