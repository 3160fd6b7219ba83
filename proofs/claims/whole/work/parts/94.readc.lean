theorem tx_dif : ∀ i, i < 16 → ∀ j, j < 16 → (tx_s.getD i []).length = (tx_s.getD j []).length → (∀ k, k < 9 → k < (tx_s.getD i []).length → (tx_s.getD i []).getD k 0 = (tx_s.getD j []).getD k 0) → i = j := by decide +kernel
theorem mtc_at {t : Nat → Int32} {n s m : Nat} : ∀ k, mtc t n s m k = true → ∀ j, j < k → byt t n (s + j) = tx_b m j
  | 0, _, j, hj => by omega
  | k + 1, h, j, hj => by
    have h : (mtc t n s m k && decide (byt t n (s + k) = tx_b m k)) = true := h
    have h := and_tt h
    by_cases e : j = k
    · rw [e]; exact of_decide_eq_true h.2
    · exact mtc_at k h.1 j (by omega)
theorem wrd_one {t : Nat → Int32} {n s a b : Nat} (ha : wrd t n s a = true) (hb : wrd t n s b = true) (h1 : tx_i a < 16) (h2 : tx_i b < 16) : tx_i a = tx_i b := by
  unfold wrd at ha hb
  have ha := and_tt ha
  have hb := and_tt hb
  have e : tx_n a = tx_n b := by
    have x := of_decide_eq_true ha.1
    have y := of_decide_eq_true hb.1
    omega
  refine tx_dif _ h1 _ h2 e (fun k _ hk => ?_)
  have x := mtc_at _ ha.2 k hk
  have y := mtc_at _ hb.2 k (by rw [← e]; exact hk)
  exact x.symm.trans y
theorem kw_no {t : Nat → Int32} {n b m : Nat} (h : wrd t n b m = true) (h1 : 12 ≤ m) (h2 : m < 32) : ¬ kwN t n b < 6 := by
  intro hk
  have := fst_t (p := fun k => wrd t n b (40 + 2 * k)) 6 0 (by unfold kwN at hk; omega)
  have hw : wrd t n b (40 + 2 * kwN t n b) = true := this
  rw [wrd40] at hw
  have := wrd_one h hw (by unfold tx_i; omega) (by unfold tx_i; omega)
  unfold tx_i at this
  omega
def sp_X1_readItem : SP := spF d_T_W (fun x hp => TX x hp ∧ many (rw_ hp x)) (fun x hp v hq => v = none ∧ td2 x hp (pIt (hp.1 38) (nN hp) (hN hp) (rw_ hp x)) hq)
def E_X1_readItem : EN := [(43, false, 2, sp_X1_takesWord), (47, false, 3, sp_X1_readDoor), (55, false, 2, sp_X1_readHeight), (60, false, 2, sp_X1_takeNumber), (64, false, 3, sp_X3_putLamp), (72, false, 3, sp_X1_readRiver), (83, false, 2, sp_X1_readRounds), (86, false, 2, sp_X1_readWalker)]
set_option maxRecDepth 100000 in
set_option maxHeartbeats 4000000 in
theorem c_X1_readItem : Ctr M_X1_readItem sp_X1_readItem := by
  refine ctr_of (own := RX1) M_X1_readItem sp_X1_readItem (P := P_X1_readItem) (K := K_X1) (E := E_X1_readItem) (by decide) rfl pk_X1_readItem K_X1_ok (List.forall_mem_cons.mpr ⟨sc_X1_takesWord gw_627 (by decide) (by decide), List.forall_mem_cons.mpr ⟨sc_X1_readDoor gw_683 (by decide) (by decide), List.forall_mem_cons.mpr ⟨sc_X1_readHeight gw_695 (by decide) (by decide), List.forall_mem_cons.mpr ⟨sc_X1_takeNumber gw_687 (by decide) (by decide), List.forall_mem_cons.mpr ⟨sc_X3_putLamp gw_700 (by decide) (by decide), List.forall_mem_cons.mpr ⟨sc_X1_readRiver gw_702 (by decide) (by decide), List.forall_mem_cons.mpr ⟨sc_X1_readRounds gw_710 (by decide) (by decide), List.forall_mem_cons.mpr ⟨sc_X1_readWalker gw_716 (by decide) (by decide), fun _ h => absurd h List.not_mem_nil⟩⟩⟩⟩⟩⟩⟩⟩) (fun as hp Q h => by obtain ⟨x, hx, -⟩ := spF_e h; rw [d_T_W_e hx]; exact Nat.le_of_ble_eq_true rfl) ?_
  intro Q G hQi hG as hp h
  obtain ⟨x, hx, hpre, hQ⟩ := spF_e h
  rw [d_T_W_e hx]
  clear h hx
  obtain ⟨hT, hmany⟩ := hpre
  have hT : TX x hp := hT
  have hbk := hT.hb
  have hTT := hT
  obtain ⟨hw, ht, hf⟩ := hT
  have hmany : many (rw_ hp x) := hmany
  have hl := ht.le
  have hQ : ∀ hq, td2 x hp (pIt (hp.1 38) (nN hp) (hN hp) (rw_ hp x)) hq → Q none hq := fun hq h => hQ _ _ ⟨rfl, h⟩
  have hwd : ∀ m, wd (hp.1 38) (nN hp) m (hN hp) = wrd (hp.1 38) (nN hp) (hN hp) (40 + m) := fun m => by
    unfold wd
    rw [hbk, wrd40]
  have hwk : ∀ m, wd (hp.1 38) (nN hp) m (hN hp) = true → wdK (hp.1 38) (nN hp) m (hN hp) = hN hp + tx_n (40 + m) := fun m h => by
    unfold wdK
    rw [h, if_pos rfl, hbk, tx40n]
  have ok : ∀ m, m % 2 = 0 → m < 32 → txok m := fun m h h2 => ⟨h, Or.inl h2⟩
  have hkw : ∀ m, 12 ≤ m → m < 32 → wd (hp.1 38) (nN hp) m (hN hp) = true → ¬ kwN (hp.1 38) (nN hp) (hN hp) < 6 := fun m h1 h2 h => kw_no (m := m) (by rw [hwd m, wrd40] at h; exact h) h1 h2
  refine run hG [6] 60 ?_
  refine And.intro ⟨ok 12 (by omega) (by omega), _, _, ht⟩ ?_
  intro v0 hq0 hP0
  rcases tk_word ht (m := 12) (ok 12 (by omega) (by omega)) hP0 with ⟨b0, rfl, e0⟩ | ⟨b0, rfl, hX, f2, ht2⟩
  case inr =>
    have hE := hwk 12 b0
    have hle := (ht.wend (ok 12 (by omega) (by omega)) b0).2
    have hK := hkw 12 (by omega) (by omega) b0
    have eP : pIt (hp.1 38) (nN hp) (hN hp) (rw_ hp x) = pDoor (hp.1 38) (nN hp) (nI 1) (hN hp + tx_n (40 + 12)) (rw_ hp x) := by
      unfold pIt pWds
      rw [if_neg hK, if_pos (show wrd (hp.1 38) (nN hp) (hN hp) 52 = true by have := hwd 12; rw [b0] at this; exact this.symm)]
    rw [eP] at hQ
    rw [hE] at ht2 hle
    have ht3 : TXS (nN hp) (hN hp + tx_n (40 + 12)) (hq0.1 38) (hq0.1 37) := by rw [hX.b]; exact ht2
    have hT2 := TX.of hw ht3 (f2.trans hf)
    refine run hG [] 60 ?_
    refine And.intro (fun h => absurd h (by decide)) (fun _ => ?_)
    refine And.intro hT2.1 ?_
    rintro v hr ⟨rfl, h3⟩
    dsimp only at h3
    rw [hT2.2.1, hT2.2.2, hX.b, hX.row hw, pDoor_bk _ hle] at h3
    exact hQ hr (td2_t hw (hX.fr hw) h3)
  rw [e0]
  clear hP0 e0 hq0
  refine run hG [24] 60 ?_
  refine And.intro (fun _ => ?_) (fun h => absurd (show nI 0 = 0 from rfl) h)
  refine And.intro ⟨ok 14 (by omega) (by omega), _, _, ht⟩ ?_
  intro v1 hq1 hP1
  rcases tk_word ht (m := 14) (ok 14 (by omega) (by omega)) hP1 with ⟨b1, rfl, e1⟩ | ⟨b1, rfl, hX, f2, ht2⟩
  case inr =>
    have hE := hwk 14 b1
    have hle := (ht.wend (ok 14 (by omega) (by omega)) b1).2
    have hK := hkw 14 (by omega) (by omega) b1
    have eP : pIt (hp.1 38) (nN hp) (hN hp) (rw_ hp x) = pDoor (hp.1 38) (nN hp) (nI 0) (hN hp + tx_n (40 + 14)) (rw_ hp x) := by
      unfold pIt pWds
      rw [if_neg hK, if_neg (c := wrd (hp.1 38) (nN hp) (hN hp) 52 = true) (by have := hwd 12; rw [b0] at this; rw [← this]; decide), if_pos (show wrd (hp.1 38) (nN hp) (hN hp) 54 = true by have := hwd 14; rw [b1] at this; exact this.symm)]
    rw [eP] at hQ
    rw [hE] at ht2 hle
    have ht3 : TXS (nN hp) (hN hp + tx_n (40 + 14)) (hq1.1 38) (hq1.1 37) := by rw [hX.b]; exact ht2
    have hT2 := TX.of hw ht3 (f2.trans hf)
    refine run hG [] 60 ?_
    refine And.intro (fun h => absurd h (by decide)) (fun _ => ?_)
    refine And.intro hT2.1 ?_
    rintro v hr ⟨rfl, h3⟩
    dsimp only at h3
    rw [hT2.2.1, hT2.2.2, hX.b, hX.row hw, pDoor_bk _ hle] at h3
    exact hQ hr (td2_t hw (hX.fr hw) h3)
  rw [e1]
  clear hP1 e1 hq1
  refine run hG [42] 60 ?_
  refine And.intro (fun _ => ?_) (fun h => absurd (show nI 0 = 0 from rfl) h)
  refine And.intro ⟨ok 16 (by omega) (by omega), _, _, ht⟩ ?_
  intro v2 hq2 hP2
  rcases tk_word ht (m := 16) (ok 16 (by omega) (by omega)) hP2 with ⟨b2, rfl, e2⟩ | ⟨b2, rfl, hX, f2, ht2⟩
  case inr =>
    have hE := hwk 16 b2
    have hle := (ht.wend (ok 16 (by omega) (by omega)) b2).2
    have hK := hkw 16 (by omega) (by omega) b2
    have eP : pIt (hp.1 38) (nN hp) (hN hp) (rw_ hp x) = pHeight (hp.1 38) (nN hp) (hN hp + tx_n (40 + 16)) (rw_ hp x) := by
      unfold pIt pWds
      rw [if_neg hK, if_neg (c := wrd (hp.1 38) (nN hp) (hN hp) 52 = true) (by have := hwd 12; rw [b0] at this; rw [← this]; decide), if_neg (c := wrd (hp.1 38) (nN hp) (hN hp) 54 = true) (by have := hwd 14; rw [b1] at this; rw [← this]; decide), if_pos (show wrd (hp.1 38) (nN hp) (hN hp) 56 = true by have := hwd 16; rw [b2] at this; exact this.symm)]
    rw [eP] at hQ
    rw [hE] at ht2 hle
    have ht3 : TXS (nN hp) (hN hp + tx_n (40 + 16)) (hq2.1 38) (hq2.1 37) := by rw [hX.b]; exact ht2
    have hT2 := TX.of hw ht3 (f2.trans hf)
    refine run hG [] 60 ?_
    refine And.intro (fun h => absurd h (by decide)) (fun _ => ?_)
    refine And.intro hT2.1 ?_
    rintro v hr ⟨rfl, h3⟩
    dsimp only at h3
    rw [hT2.2.1, hT2.2.2, hX.b, hX.row hw, pHeight_bk _ hle] at h3
    exact hQ hr (td2_t hw (hX.fr hw) h3)
  rw [e2]
  clear hP2 e2 hq2
  refine run hG [59] 60 ?_
  refine And.intro (fun _ => ?_) (fun h => absurd (show nI 0 = 0 from rfl) h)
  refine And.intro ⟨ok 18 (by omega) (by omega), _, _, ht⟩ ?_
  intro v3 hq3 hP3
  rcases tk_word ht (m := 18) (ok 18 (by omega) (by omega)) hP3 with ⟨b3, rfl, e3⟩ | ⟨b3, rfl, hX, f2, ht2⟩
  case inr =>
    have hE := hwk 18 b3
    have hle := (ht.wend (ok 18 (by omega) (by omega)) b3).2
    have hK := hkw 18 (by omega) (by omega) b3
    have eP : pIt (hp.1 38) (nN hp) (hN hp) (rw_ hp x) = pMark (hp.1 38) (nN hp) 44 (nI 1) (hN hp + tx_n (40 + 18)) (rw_ hp x) := by
      unfold pIt pWds
      rw [if_neg hK, if_neg (c := wrd (hp.1 38) (nN hp) (hN hp) 52 = true) (by have := hwd 12; rw [b0] at this; rw [← this]; decide), if_neg (c := wrd (hp.1 38) (nN hp) (hN hp) 54 = true) (by have := hwd 14; rw [b1] at this; rw [← this]; decide), if_neg (c := wrd (hp.1 38) (nN hp) (hN hp) 56 = true) (by have := hwd 16; rw [b2] at this; rw [← this]; decide), if_pos (show wrd (hp.1 38) (nN hp) (hN hp) 58 = true by have := hwd 18; rw [b3] at this; exact this.symm)]
    rw [eP] at hQ
    rw [hE] at ht2 hle
    have ht3 : TXS (nN hp) (hN hp + tx_n (40 + 18)) (hq3.1 38) (hq3.1 37) := by rw [hX.b]; exact ht2
    have hT2 := TX.of hw ht3 (f2.trans hf)
    refine run hG [] 60 ?_
    refine And.intro (fun h => absurd h (by decide)) (fun _ => ?_)
    refine And.intro ⟨_, _, ht3⟩ ?_
    intro v hr h3
    unfold pMark at hQ
    rcases tk_num ht3 (m := 24) (by omega) h3 with ⟨hb, rfl, hX2, f3⟩ | ⟨hb, rfl, hv, hX2, f3, ht4⟩
    · rw [hX.b] at hb f3
      rw [if_neg (by rw [hb]; decide)] at hQ
      exact And.intro (fun _ => hQ hr ⟨FR_t (hX.fr hw) (hX2.fr hw), Or.inl f3⟩) (fun h => absurd (show (-1 : Int32) < 0 by decide) h)
    · rw [hX.b] at hb hv ht4 ⊢
      rw [if_pos hb] at hQ
      generalize pnV (hp.1 38) (nN hp) (hN hp + tx_n (40 + 18)) = V at hQ hv
      have ev : (nI V).toNatClampNeg = V := nI_clamp (by omega)
      refine And.intro (fun h => absurd h (Int32.not_lt.mpr (nI_nn (by omega)))) (fun _ => ?_)
      refine And.intro (vp_in_nI (by omega) (by omega)) ?_
      show Q none (uI hr x 2 (bitP (hr.1 x 2) (nI V).toNatClampNeg (nI 1)))
      rw [ev]
      have er : (uI hr x 2 (bitP (hr.1 x 2) V (nI 1))).1 37 = hr.1 37 := uI_row _ _ _ (by omega)
      refine hQ _ ⟨FR_t (FR_t (hX.fr hw) (hX2.fr hw)) (FR_w hw (frm_u (frm_r x hr) (by omega) (by omega)) (fun hz => hiz_lm hz (by omega) (nI 1))), ?_⟩
      dsimp only
      rw [er, rw_ulm hr x _ _ (show V < 25 by omega) (fun j hj => bitP_bit _ _ (by omega) hj), hX2.row hw, hX.row hw]
      exact ⟨(f3.trans f2).trans hf, ht4, rfl⟩
  rw [e3]
  clear hP3 e3 hq3
  refine run hG [89] 60 ?_
  refine And.intro (fun _ => ?_) (fun h => absurd (show nI 0 = 0 from rfl) h)
  refine And.intro ⟨ok 20 (by omega) (by omega), _, _, ht⟩ ?_
  intro v4 hq4 hP4
  rcases tk_word ht (m := 20) (ok 20 (by omega) (by omega)) hP4 with ⟨b4, rfl, e4⟩ | ⟨b4, rfl, hX, f2, ht2⟩
  case inr =>
    have hE := hwk 20 b4
    have hle := (ht.wend (ok 20 (by omega) (by omega)) b4).2
    have hK := hkw 20 (by omega) (by omega) b4
    have eP : pIt (hp.1 38) (nN hp) (hN hp) (rw_ hp x) = pMark (hp.1 38) (nN hp) 69 (nI 1) (hN hp + tx_n (40 + 20)) (rw_ hp x) := by
      unfold pIt pWds
      rw [if_neg hK, if_neg (c := wrd (hp.1 38) (nN hp) (hN hp) 52 = true) (by have := hwd 12; rw [b0] at this; rw [← this]; decide), if_neg (c := wrd (hp.1 38) (nN hp) (hN hp) 54 = true) (by have := hwd 14; rw [b1] at this; rw [← this]; decide), if_neg (c := wrd (hp.1 38) (nN hp) (hN hp) 56 = true) (by have := hwd 16; rw [b2] at this; rw [← this]; decide), if_neg (c := wrd (hp.1 38) (nN hp) (hN hp) 58 = true) (by have := hwd 18; rw [b3] at this; rw [← this]; decide), if_pos (show wrd (hp.1 38) (nN hp) (hN hp) 60 = true by have := hwd 20; rw [b4] at this; exact this.symm)]
    rw [eP] at hQ
    rw [hE] at ht2 hle
    have ht3 : TXS (nN hp) (hN hp + tx_n (40 + 20)) (hq4.1 38) (hq4.1 37) := by rw [hX.b]; exact ht2
    have hT2 := TX.of hw ht3 (f2.trans hf)
    refine run hG [] 60 ?_
    refine And.intro (fun h => absurd h (by decide)) (fun _ => ?_)
    refine And.intro hT2.1 ?_
    rintro v hr ⟨rfl, h3⟩
    dsimp only at h3
    rw [hT2.2.1, hT2.2.2, hX.b, hX.row hw, pMark_bk _ hle] at h3
    exact hQ hr (td2_t hw (hX.fr hw) h3)
  rw [e4]
  clear hP4 e4 hq4
  refine run hG [107] 60 ?_
  refine And.intro (fun _ => ?_) (fun h => absurd (show nI 0 = 0 from rfl) h)
  refine And.intro ⟨ok 22 (by omega) (by omega), _, _, ht⟩ ?_
  intro v5 hq5 hP5
  rcases tk_word ht (m := 22) (ok 22 (by omega) (by omega)) hP5 with ⟨b5, rfl, e5⟩ | ⟨b5, rfl, hX, f2, ht2⟩
  case inr =>
    have hE := hwk 22 b5
    have hle := (ht.wend (ok 22 (by omega) (by omega)) b5).2
    have hK := hkw 22 (by omega) (by omega) b5
    have eP : pIt (hp.1 38) (nN hp) (hN hp) (rw_ hp x) = pMark (hp.1 38) (nN hp) 69 (nI 0) (hN hp + tx_n (40 + 22)) (rw_ hp x) := by
      unfold pIt pWds
      rw [if_neg hK, if_neg (c := wrd (hp.1 38) (nN hp) (hN hp) 52 = true) (by have := hwd 12; rw [b0] at this; rw [← this]; decide), if_neg (c := wrd (hp.1 38) (nN hp) (hN hp) 54 = true) (by have := hwd 14; rw [b1] at this; rw [← this]; decide), if_neg (c := wrd (hp.1 38) (nN hp) (hN hp) 56 = true) (by have := hwd 16; rw [b2] at this; rw [← this]; decide), if_neg (c := wrd (hp.1 38) (nN hp) (hN hp) 58 = true) (by have := hwd 18; rw [b3] at this; rw [← this]; decide), if_neg (c := wrd (hp.1 38) (nN hp) (hN hp) 60 = true) (by have := hwd 20; rw [b4] at this; rw [← this]; decide), if_pos (show wrd (hp.1 38) (nN hp) (hN hp) 62 = true by have := hwd 22; rw [b5] at this; exact this.symm)]
    rw [eP] at hQ
    rw [hE] at ht2 hle
    have ht3 : TXS (nN hp) (hN hp + tx_n (40 + 22)) (hq5.1 38) (hq5.1 37) := by rw [hX.b]; exact ht2
    have hT2 := TX.of hw ht3 (f2.trans hf)
    refine run hG [] 60 ?_
    refine And.intro (fun h => absurd h (by decide)) (fun _ => ?_)
    refine And.intro hT2.1 ?_
    rintro v hr ⟨rfl, h3⟩
    dsimp only at h3
    rw [hT2.2.1, hT2.2.2, hX.b, hX.row hw, pMark_bk _ hle] at h3
    exact hQ hr (td2_t hw (hX.fr hw) h3)
  rw [e5]
  clear hP5 e5 hq5
  refine run hG [125] 60 ?_
  refine And.intro (fun _ => ?_) (fun h => absurd (show nI 0 = 0 from rfl) h)
  refine And.intro ⟨ok 24 (by omega) (by omega), _, _, ht⟩ ?_
  intro v6 hq6 hP6
  rcases tk_word ht (m := 24) (ok 24 (by omega) (by omega)) hP6 with ⟨b6, rfl, e6⟩ | ⟨b6, rfl, hX, f2, ht2⟩
  case inr =>
    have hE := hwk 24 b6
    have hle := (ht.wend (ok 24 (by omega) (by omega)) b6).2
    have hK := hkw 24 (by omega) (by omega) b6
    have eP : pIt (hp.1 38) (nN hp) (hN hp) (rw_ hp x) = pMoon (hp.1 38) (nN hp) (hN hp + tx_n (40 + 24)) (rw_ hp x) := by
      unfold pIt pWds
      rw [if_neg hK, if_neg (c := wrd (hp.1 38) (nN hp) (hN hp) 52 = true) (by have := hwd 12; rw [b0] at this; rw [← this]; decide), if_neg (c := wrd (hp.1 38) (nN hp) (hN hp) 54 = true) (by have := hwd 14; rw [b1] at this; rw [← this]; decide), if_neg (c := wrd (hp.1 38) (nN hp) (hN hp) 56 = true) (by have := hwd 16; rw [b2] at this; rw [← this]; decide), if_neg (c := wrd (hp.1 38) (nN hp) (hN hp) 58 = true) (by have := hwd 18; rw [b3] at this; rw [← this]; decide), if_neg (c := wrd (hp.1 38) (nN hp) (hN hp) 60 = true) (by have := hwd 20; rw [b4] at this; rw [← this]; decide), if_neg (c := wrd (hp.1 38) (nN hp) (hN hp) 62 = true) (by have := hwd 22; rw [b5] at this; rw [← this]; decide), if_pos (show wrd (hp.1 38) (nN hp) (hN hp) 64 = true by have := hwd 24; rw [b6] at this; exact this.symm)]
    rw [eP] at hQ
    rw [hE] at ht2 hle
    have ht3 : TXS (nN hp) (hN hp + tx_n (40 + 24)) (hq6.1 38) (hq6.1 37) := by rw [hX.b]; exact ht2
    have hT2 := TX.of hw ht3 (f2.trans hf)
    refine run hG [] 60 ?_
    refine And.intro (fun h => absurd h (by decide)) (fun _ => ?_)
    refine And.intro ⟨_, _, ht3⟩ ?_
    intro v hr h3
    unfold pMoon at hQ
    rcases tk_num ht3 (m := 4) (by omega) h3 with ⟨hb, rfl, hX2, f3⟩ | ⟨hb, rfl, hv, hX2, f3, ht4⟩
    · rw [hX.b] at hb f3
      rw [if_neg (by rw [hb]; decide)] at hQ
      exact And.intro (fun _ => hQ hr ⟨FR_t (hX.fr hw) (hX2.fr hw), Or.inl f3⟩) (fun h => absurd (show (-1 : Int32) < 0 by decide) h)
    · rw [hX.b] at hb hv ht4 ⊢
      rw [if_pos hb] at hQ
      generalize pnV (hp.1 38) (nN hp) (hN hp + tx_n (40 + 24)) = V at hQ hv
      refine And.intro (fun h => absurd h (Int32.not_lt.mpr (nI_nn (by omega)))) (fun _ => ?_)
      show Q none (uI hr x 4 (nI V))
      have er : (uI hr x 4 (nI V)).1 37 = hr.1 37 := uI_row _ _ _ (by omega)
      refine hQ _ ⟨FR_t (FR_t (hX.fr hw) (hX2.fr hw)) (FR_w hw (frm_u (frm_r x hr) (by omega) (by omega)) (fun hz => hiz_u hz (by omega))), ?_⟩
      dsimp only
      rw [er, ru_2, hX2.row hw, hX.row hw]
      exact ⟨(f3.trans f2).trans hf, ht4, rfl⟩
  rw [e6]
  clear hP6 e6 hq6
  refine run hG [152] 60 ?_
  refine And.intro (fun _ => ?_) (fun h => absurd (show nI 0 = 0 from rfl) h)
  refine And.intro ⟨ok 26 (by omega) (by omega), _, _, ht⟩ ?_
  intro v7 hq7 hP7
  rcases tk_word ht (m := 26) (ok 26 (by omega) (by omega)) hP7 with ⟨b7, rfl, e7⟩ | ⟨b7, rfl, hX, f2, ht2⟩
  case inr =>
    have hE := hwk 26 b7
    have hle := (ht.wend (ok 26 (by omega) (by omega)) b7).2
    have hK := hkw 26 (by omega) (by omega) b7
    have eP : pIt (hp.1 38) (nN hp) (hN hp) (rw_ hp x) = pRounds (hp.1 38) (nN hp) (hN hp + tx_n (40 + 26)) (rw_ hp x) := by
      unfold pIt pWds
      rw [if_neg hK, if_neg (c := wrd (hp.1 38) (nN hp) (hN hp) 52 = true) (by have := hwd 12; rw [b0] at this; rw [← this]; decide), if_neg (c := wrd (hp.1 38) (nN hp) (hN hp) 54 = true) (by have := hwd 14; rw [b1] at this; rw [← this]; decide), if_neg (c := wrd (hp.1 38) (nN hp) (hN hp) 56 = true) (by have := hwd 16; rw [b2] at this; rw [← this]; decide), if_neg (c := wrd (hp.1 38) (nN hp) (hN hp) 58 = true) (by have := hwd 18; rw [b3] at this; rw [← this]; decide), if_neg (c := wrd (hp.1 38) (nN hp) (hN hp) 60 = true) (by have := hwd 20; rw [b4] at this; rw [← this]; decide), if_neg (c := wrd (hp.1 38) (nN hp) (hN hp) 62 = true) (by have := hwd 22; rw [b5] at this; rw [← this]; decide), if_neg (c := wrd (hp.1 38) (nN hp) (hN hp) 64 = true) (by have := hwd 24; rw [b6] at this; rw [← this]; decide), if_pos (show wrd (hp.1 38) (nN hp) (hN hp) 66 = true by have := hwd 26; rw [b7] at this; exact this.symm)]
    rw [eP] at hQ
    rw [hE] at ht2 hle
    have ht3 : TXS (nN hp) (hN hp + tx_n (40 + 26)) (hq7.1 38) (hq7.1 37) := by rw [hX.b]; exact ht2
    have hT2 := TX.of hw ht3 (f2.trans hf)
    refine run hG [] 60 ?_
    refine And.intro (fun h => absurd h (by decide)) (fun _ => ?_)
    refine And.intro hT2.1 ?_
    rintro v hr ⟨rfl, h3⟩
    dsimp only at h3
    rw [hT2.2.1, hT2.2.2, hX.b, hX.row hw, pRounds_bk _ hle] at h3
    exact hQ hr (td2_t hw (hX.fr hw) h3)
  rw [e7]
  clear hP7 e7 hq7
  have eP : pIt (hp.1 38) (nN hp) (hN hp) (rw_ hp x) = pWk (hp.1 38) (nN hp) (hN hp) (rw_ hp x) := by
    unfold pIt pWk pWds
    rw [if_neg (c := wrd (hp.1 38) (nN hp) (hN hp) 52 = true) (by have := hwd 12; rw [b0] at this; rw [← this]; decide), if_neg (c := wrd (hp.1 38) (nN hp) (hN hp) 54 = true) (by have := hwd 14; rw [b1] at this; rw [← this]; decide), if_neg (c := wrd (hp.1 38) (nN hp) (hN hp) 56 = true) (by have := hwd 16; rw [b2] at this; rw [← this]; decide), if_neg (c := wrd (hp.1 38) (nN hp) (hN hp) 58 = true) (by have := hwd 18; rw [b3] at this; rw [← this]; decide), if_neg (c := wrd (hp.1 38) (nN hp) (hN hp) 60 = true) (by have := hwd 20; rw [b4] at this; rw [← this]; decide), if_neg (c := wrd (hp.1 38) (nN hp) (hN hp) 62 = true) (by have := hwd 22; rw [b5] at this; rw [← this]; decide), if_neg (c := wrd (hp.1 38) (nN hp) (hN hp) 64 = true) (by have := hwd 24; rw [b6] at this; rw [← this]; decide), if_neg (c := wrd (hp.1 38) (nN hp) (hN hp) 66 = true) (by have := hwd 26; rw [b7] at this; rw [← this]; decide)]
  rw [eP] at hQ
  refine run hG [] 60 ?_
  refine And.intro (fun _ => ?_) (fun h => absurd (show nI 0 = 0 from rfl) h)
  refine And.intro ⟨hTT, hmany⟩ ?_
  rintro v hr ⟨rfl, h3⟩
  exact hQ hr h3
theorem sc_X1_readItem {own : String} {F L idx : Nat} (h1 : Cond.methodLink own idx yX1_readItem ∈ Gw) (hF : 9 ≤ F) (hL : 195 ≤ L) : SC own F L (idx, false, 2, sp_X1_readItem) := SC_V spF_mono c_X1_readItem okd_3 (fun as hp K h => by obtain ⟨x, hx, -⟩ := spF_e h; exact ⟨_, _, d_T_W_e hx⟩) h1 gw_624 gw_11 gw_73 gw_625 (by decide +kernel) hF hL
