def nN (hp : HP) : Nat := (hp.1 37 1).toNatClampNeg
def hN (hp : HP) : Nat := (hp.1 37 4).toNatClampNeg
def TX (w : Nat) (hp : HP) : Prop := w + 12 ≤ 37 ∧ TXS (nN hp) (hN hp) (hp.1 38) (hp.1 37) ∧ hp.1 37 2 = -1
/-- nothing but the reader's own fields -/
def X37 (hp hq : HP) : Prop := (∀ c, c ≠ 37 → hq.1 c = hp.1 c) ∧ hq.2 = hp.2 ∧ hq.1 37 1 = hp.1 37 1
def FR (w : Nat) (hp hq : HP) : Prop := (∀ c, c ≠ 37 → (c < w ∨ w + 12 ≤ c) → hq.1 c = hp.1 c ∧ hq.2 c = hp.2 c) ∧ hq.2 37 = hp.2 37 ∧ hq.1 37 1 = hp.1 37 1 ∧ (hiz w hp → hiz w hq)
def td2 (w : Nat) (hp : HP) (r : Sum Nat (Nat × (Nat → Int32))) (hq : HP) : Prop := FR w hp hq ∧ match r with
  | .inl s => hq.1 37 2 = nI s ∨ (hq.1 37 2 = -1 ∧ ∃ k, TXS (nN hp) k (hp.1 38) (hq.1 37) ∧ bk (hp.1 38) (nN hp) k = s ∧ s < nN hp ∧ dgB (hp.1 38 s) = true)
  | .inr p => hq.1 37 2 = -1 ∧ TXS (nN hp) p.1 (hp.1 38) (hq.1 37) ∧ rw_ hq w = p.2
theorem X37_r (hp : HP) : X37 hp hp := ⟨fun _ _ => rfl, rfl, rfl⟩
theorem X37_t {hp hq hr : HP} (h : X37 hp hq) (h2 : X37 hq hr) : X37 hp hr := ⟨fun c hc => (h2.1 c hc).trans (h.1 c hc), h2.2.1.trans h.2.1, h2.2.2.trans h.2.2⟩
theorem X37.fr {hp hq : HP} (h : X37 hp hq) {w : Nat} (hw : w + 12 ≤ 37) : FR w hp hq := ⟨fun c hc _ => ⟨h.1 c hc, by rw [h.2.1]⟩, by rw [h.2.1], h.2.2, fun hz => by rw [hiz_c (h.1 w (by omega)) (by rw [h.2.1])]; exact hz⟩
theorem X37.row {hp hq : HP} (h : X37 hp hq) {w : Nat} (hw : w + 12 ≤ 37) : rw_ hq w = rw_ hp w := rw_cg (fun c a b => ⟨h.1 c (by omega), by rw [h.2.1]⟩)
theorem X37.b {hp hq : HP} (h : X37 hp hq) : hq.1 38 = hp.1 38 := h.1 38 (by omega)
theorem X37.n {hp hq : HP} (h : X37 hp hq) : nN hq = nN hp := by unfold nN; rw [h.2.2]
theorem FR_t {w : Nat} {hp hq hr : HP} (h : FR w hp hq) (h2 : FR w hq hr) : FR w hp hr := ⟨fun c hc hd => ⟨(h2.1 c hc hd).1.trans (h.1 c hc hd).1, (h2.1 c hc hd).2.trans (h.1 c hc hd).2⟩, h2.2.1.trans h.2.1, h2.2.2.1.trans h.2.2.1, fun hz => h2.2.2.2 (h.2.2.2 hz)⟩
theorem FR_w {w : Nat} {hp hq : HP} (hw : w + 12 ≤ 37) (h : frm w hp hq) (hz : hiz w hp → hiz w hq) : FR w hp hq := ⟨fun c _ hd => h c hd, (h 37 (by omega)).2, by rw [(h 37 (by omega)).1], hz⟩
theorem FR.b {w : Nat} {hp hq : HP} (h : FR w hp hq) (hw : w + 12 ≤ 37) : hq.1 38 = hp.1 38 := (h.1 38 (by omega) (by omega)).1
theorem FR.n {w : Nat} {hp hq : HP} (h : FR w hp hq) : nN hq = nN hp := by unfold nN; rw [h.2.2.1]
theorem td2_t {w : Nat} {hp hq hr : HP} {r : Sum Nat (Nat × (Nat → Int32))} (hw : w + 12 ≤ 37) (h : FR w hp hq) (h2 : td2 w hq r hr) : td2 w hp r hr := by
  refine ⟨FR_t h h2.1, ?_⟩
  have h3 := h2.2
  cases r with
  | inl s =>
    dsimp only at h3 ⊢
    rw [h.n, h.b hw] at h3
    exact h3
  | inr p =>
    dsimp only at h3 ⊢
    rw [h.n, h.b hw] at h3
    exact h3
theorem rI_X37 (hp : HP) {o : Nat → Int32} (h : o 1 = hp.1 37 1) : X37 hp (rI hp 37 o) := ⟨fun c hc => rI_ne _ _ hc, rfl, by rw [rI_eq]; exact h⟩
theorem tk_num {hp hq : HP} {n h m : Nat} {v : Option AV} (ht : TXS n h (hp.1 38) (hp.1 37)) (hm : m < 10000) (hP : (¬ (hp.1 37 3 = nI 2 ∧ hp.1 37 6 ≤ nI m) → v = some (vI (-1)) ∧ hq = uI hp 37 2 (hp.1 37 4)) ∧ ((hp.1 37 3 = nI 2 ∧ hp.1 37 6 ≤ nI m) → v = some (vI (hp.1 37 6)) ∧ ∃ o, hq = rI hp 37 o ∧ sm3 (hp.1 37) o ∧ TKN (hp.1 38) (hp.1 37 1).toNatClampNeg (hp.1 37 5).toNatClampNeg o)) :
    (pnB (hp.1 38) n m h = false ∧ v = some (vI (-1)) ∧ X37 hp hq ∧ hq.1 37 2 = nI (bk (hp.1 38) n h)) ∨ (pnB (hp.1 38) n m h = true ∧ v = some (vI (nI (pnV (hp.1 38) n h))) ∧ pnV (hp.1 38) n h ≤ m ∧ X37 hp hq ∧ hq.1 37 2 = hp.1 37 2 ∧ TXS n (pnE (hp.1 38) n h) (hp.1 38) (hq.1 37)) := by
  have hN := ht.num hm
  cases hb : pnB (hp.1 38) n m h with
  | false =>
    obtain ⟨e1, e2⟩ := hP.1 (hN.2 hb)
    refine Or.inl ⟨rfl, e1, ?_, ?_⟩
    · rw [e2]
      exact rI_X37 hp (by rw [upd_at, if_neg (by omega)])
    · rw [e2, uI_same, ht.s4]
  | true =>
    obtain ⟨k1, k2, k3, k4⟩ := hN.1 hb
    obtain ⟨e1, o, e2, e3, e4⟩ := hP.2 ⟨k1, by rw [k2]; exact nI_le k3 (by omega)⟩
    have hle := pn_le (hp.1 38) ht.2.1
    have hn := ht.1
    rw [ht.2.2.1, k4, nI_clamp (by omega), nI_clamp (by omega)] at e4
    refine Or.inr ⟨rfl, by rw [e1, k2], k3, ?_, ?_, ?_⟩
    · rw [e2]
      exact rI_X37 hp e3.1
    · rw [e2, rI_eq]
      exact e3.2
    · rw [e2, rI_eq]
      exact ⟨hn, hle.2, by rw [e3.1]; exact ht.2.2.1, e4⟩
theorem nx_tok {hp hq : HP} {n h e : Nat} (ht : TXS n h (hp.1 38) (hp.1 37)) (he : hp.1 37 5 = nI e) (hle : e ≤ n) (hP : ∃ o, hq = rI hp 37 o ∧ sm3 (hp.1 37) o ∧ TKN (hp.1 38) (hp.1 37 1).toNatClampNeg (hp.1 37 5).toNatClampNeg o) : X37 hp hq ∧ hq.1 37 2 = hp.1 37 2 ∧ TXS n e (hp.1 38) (hq.1 37) := by
  obtain ⟨o, e2, e3, e4⟩ := hP
  have hn := ht.1
  rw [ht.2.2.1, he, nI_clamp (by omega), nI_clamp (by omega)] at e4
  refine ⟨by rw [e2]; exact rI_X37 hp e3.1, by rw [e2, rI_eq]; exact e3.2, ?_⟩
  rw [e2, rI_eq]
  exact ⟨hn, hle, by rw [e3.1]; exact ht.2.2.1, e4⟩
theorem tk_word {hp hq : HP} {n h m : Nat} {v : Option AV} (ht : TXS n h (hp.1 38) (hp.1 37)) (hm : txok m) (hP : v = some (vI (bB (w2 (hp.1 38) (hp.1 37) m))) ∧ (w2 (hp.1 38) (hp.1 37) m = false → hq = hp) ∧ (w2 (hp.1 38) (hp.1 37) m = true → ∃ o, hq = rI hp 37 o ∧ sm3 (hp.1 37) o ∧ TKN (hp.1 38) (hp.1 37 1).toNatClampNeg (hp.1 37 5).toNatClampNeg o)) :
    (wd (hp.1 38) n m h = false ∧ v = some (vI (nI 0)) ∧ hq = hp) ∨ (wd (hp.1 38) n m h = true ∧ v = some (vI (nI 1)) ∧ X37 hp hq ∧ hq.1 37 2 = hp.1 37 2 ∧ TXS n (wdK (hp.1 38) n m h) (hp.1 38) (hq.1 37)) := by
  have e : w2 (hp.1 38) (hp.1 37) m = wd (hp.1 38) n m h := ht.word hm
  rw [e] at hP
  cases hb : wd (hp.1 38) n m h with
  | false =>
    rw [hb] at hP
    exact Or.inl ⟨rfl, hP.1, hP.2.1 rfl⟩
  | true =>
    rw [hb] at hP
    obtain ⟨k1, k2⟩ := ht.wend hm hb
    obtain ⟨x1, x2, x3⟩ := nx_tok ht k1 k2 (hP.2.2 rfl)
    exact Or.inr ⟨rfl, hP.1, x1, x2, x3⟩
theorem TX.of {w n h : Nat} {hp : HP} (hw : w + 12 ≤ 37) (ht : TXS n h (hp.1 38) (hp.1 37)) (hf : hp.1 37 2 = -1) : TX w hp ∧ nN hp = n ∧ hN hp = bk (hp.1 38) n h := by
  have hl := ht.le
  have e1 : nN hp = n := by unfold nN; rw [ht.2.2.1, nI_clamp (by omega)]
  have e2 : hN hp = bk (hp.1 38) n h := by unfold hN; rw [ht.s4, nI_clamp (by omega)]
  refine ⟨⟨hw, ?_, hf⟩, e1, e2⟩
  rw [e1, e2]
  exact ht.tb
theorem pDoor_bk (t : Nat → Int32) {n h : Nat} (hh : h ≤ n) (v : Int32) (f : Nat → Int32) : pDoor t n v (bk t n h) f = pDoor t n v h f := by
  unfold pDoor
  rw [(pn_bk t hh 24).1, (pn_bk t hh 24).2.1, (pn_bk t hh 24).2.2, bk_bk t hh]
theorem pHeight_bk (t : Nat → Int32) {n h : Nat} (hh : h ≤ n) (f : Nat → Int32) : pHeight t n (bk t n h) f = pHeight t n h f := by
  unfold pHeight
  rw [(pn_bk t hh 24).1, (pn_bk t hh 24).2.1, (pn_bk t hh 24).2.2, bk_bk t hh]
theorem pMark_bk (t : Nat → Int32) {n h : Nat} (hh : h ≤ n) (a : Nat) (v : Int32) (f : Nat → Int32) : pMark t n a v (bk t n h) f = pMark t n a v h f := by
  unfold pMark
  rw [(pn_bk t hh 24).1, (pn_bk t hh 24).2.1, (pn_bk t hh 24).2.2, bk_bk t hh]
theorem pRounds_bk (t : Nat → Int32) {n h : Nat} (hh : h ≤ n) (f : Nat → Int32) : pRounds t n (bk t n h) f = pRounds t n h f := by
  unfold pRounds rds
  rw [(pn_bk t hh 24).1, (pn_bk t hh 24).2.1, (pn_bk t hh 24).2.2, bk_bk t hh, if_neg (show ¬ (0 : Nat) = 12 by decide), if_neg (show ¬ (0 : Nat) = 12 by decide)]
def sp_X1_readRiver : SP := spF d_T_WI (fun x hp => TX x.1 hp) (fun x hp v hq => v = none ∧ td2 x.1 hp (pMark (hp.1 38) (nN hp) 69 (fl01 x.2) (hN hp) (rw_ hp x.1)) hq)
def E_X1_readRiver : EN := [(60, false, 2, sp_X1_takeNumber), (100, false, 3, sp_X3_putRiver)]
set_option maxRecDepth 100000 in
set_option maxHeartbeats 4000000 in
theorem c_X1_readRiver : Ctr M_X1_readRiver sp_X1_readRiver := by
  refine ctr_of (own := RX1) M_X1_readRiver sp_X1_readRiver (P := P_X1_readRiver) (K := K_X1) (E := E_X1_readRiver) (by decide) rfl pk_X1_readRiver K_X1_ok (List.forall_mem_cons.mpr ⟨sc_X1_takeNumber gw_687 (by decide) (by decide), List.forall_mem_cons.mpr ⟨sc_X3_putRiver gw_706 (by decide) (by decide), fun _ h => absurd h List.not_mem_nil⟩⟩) (fun as hp Q h => by obtain ⟨x, hx, -⟩ := spF_e h; rw [d_T_WI_e hx]; exact Nat.le_of_ble_eq_true rfl) ?_
  intro Q G hQi hG as hp h
  obtain ⟨x, hx, hpre, hQ⟩ := spF_e h
  rw [d_T_WI_e hx]
  clear h hx
  obtain ⟨w, o⟩ := x
  try dsimp only at hpre hQ ⊢
  obtain ⟨hw, ht, hf⟩ := hpre
  have hw : w + 12 ≤ 37 := hw
  have hQ : ∀ hq, td2 w hp (pMark (hp.1 38) (nN hp) 69 (fl01 o) (hN hp) (rw_ hp w)) hq → Q none hq := fun hq h => hQ _ _ ⟨rfl, h⟩
  have hnN : nN hp = nN hp := rfl
  unfold pMark at hQ
  refine run hG [6] 60 ?_
  refine And.intro ⟨_, _, ht⟩ ?_
  intro v hq hP
  rcases tk_num ht (m := 24) (by omega) hP with ⟨hb, rfl, hX, h2⟩ | ⟨hb, rfl, hv, hX, h2, ht2⟩
  · rw [if_neg (by rw [hb]; decide)] at hQ
    refine run hG [] 60 ?_
    exact And.intro (fun _ => hQ hq ⟨hX.fr hw, Or.inl h2⟩) (fun h => absurd (show (-1 : Int32) < 0 by decide) h)
  · rw [if_pos hb] at hQ
    have ev : (nI (pnV (hp.1 38) (nN hp) (hN hp))).toNatClampNeg = pnV (hp.1 38) (nN hp) (hN hp) := nI_clamp (by omega)
    refine run hG [] 60 ?_
    refine And.intro (fun h => absurd h (Int32.not_lt.mpr (nI_nn (by omega)))) (fun _ => ?_)
    refine And.intro (vp_in_nI (by omega) (by omega)) ?_
    show Q none (uI hq w 3 (bitP (hq.1 w 3) (nI (pnV (hp.1 38) (nN hp) (hN hp))).toNatClampNeg o))
    rw [ev]
    generalize pnV (hp.1 38) (nN hp) (hN hp) = V at hQ hv
    have er : (uI hq w 3 (bitP (hq.1 w 3) V o)).1 37 = hq.1 37 := uI_row _ _ _ (by omega)
    refine hQ _ ⟨FR_t (hX.fr hw) (FR_w hw (frm_u (frm_r w hq) (by omega) (by omega)) (fun hz => hiz_rv hz (by omega) o)), ?_⟩
    dsimp only
    rw [er, rw_urv hq w _ _ (show V < 25 by omega) (fun j hj => bitP_bit _ _ (by omega) hj), hX.row hw]
    exact ⟨h2.trans hf, ht2, rfl⟩
theorem sc_X1_readRiver {own : String} {F L idx : Nat} (h1 : Cond.methodLink own idx yX1_readRiver ∈ Gw) (hF : 4 ≤ F) (hL : 86 ≤ L) : SC own F L (idx, false, 3, sp_X1_readRiver) := SC_V spF_mono c_X1_readRiver okd_3 (fun as hp K h => by obtain ⟨x, hx, -⟩ := spF_e h; exact ⟨_, _, d_T_WI_e hx⟩) h1 gw_704 gw_17 gw_73 gw_705 (by decide +kernel) hF hL
def sp_X1_readHeight : SP := spF d_T_W (fun x hp => TX x hp) (fun x hp v hq => v = none ∧ td2 x hp (pHeight (hp.1 38) (nN hp) (hN hp) (rw_ hp x)) hq)
def E_X1_readHeight : EN := [(60, false, 2, sp_X1_takeNumber)]
set_option maxRecDepth 100000 in
set_option maxHeartbeats 4000000 in
theorem c_X1_readHeight : Ctr M_X1_readHeight sp_X1_readHeight := by
  refine ctr_of (own := RX1) M_X1_readHeight sp_X1_readHeight (P := P_X1_readHeight) (K := K_X1) (E := E_X1_readHeight) (by decide) rfl pk_X1_readHeight K_X1_ok (List.forall_mem_cons.mpr ⟨sc_X1_takeNumber gw_687 (by decide) (by decide), fun _ h => absurd h List.not_mem_nil⟩) (fun as hp Q h => by obtain ⟨x, hx, -⟩ := spF_e h; rw [d_T_W_e hx]; exact Nat.le_of_ble_eq_true rfl) ?_
  intro Q G hQi hG as hp h
  obtain ⟨x, hx, hpre, hQ⟩ := spF_e h
  rw [d_T_W_e hx]
  clear h hx
  obtain ⟨hw, ht, hf⟩ := hpre
  have hw : x + 12 ≤ 37 := hw
  have hQ : ∀ hq, td2 x hp (pHeight (hp.1 38) (nN hp) (hN hp) (rw_ hp x)) hq → Q none hq := fun hq h => hQ _ _ ⟨rfl, h⟩
  unfold pHeight at hQ
  refine run hG [6] 60 ?_
  refine And.intro ⟨_, _, ht⟩ ?_
  intro v hq hP
  rcases tk_num ht (m := 24) (by omega) hP with ⟨hb, rfl, hX, h2⟩ | ⟨hb, rfl, hv, hX, h2, ht2⟩
  · rw [if_neg (by rw [hb]; decide)] at hQ
    refine run hG [] 60 ?_
    exact And.intro (fun h => absurd h (by decide)) (fun _ => hQ hq ⟨hX.fr hw, Or.inl h2⟩)
  · rw [if_pos hb] at hQ
    generalize hV : pnV (hp.1 38) (nN hp) (hN hp) = V at hQ hv
    refine run hG [18] 60 ?_
    refine And.intro (fun _ => ?_) (fun h => absurd (nI_nn (by omega)) h)
    rw [← hX.b] at ht2
    refine And.intro ⟨_, _, ht2⟩ ?_
    intro v hr hP2
    rcases tk_num ht2 (m := 9) (by omega) hP2 with ⟨hb2, rfl, hX2, h22⟩ | ⟨hb2, rfl, hv2, hX2, h22, ht3⟩
    · rw [hX.b] at hb2 h22
      rw [if_neg (by rw [hb2]; decide)] at hQ
      refine run hG [] 60 ?_
      exact And.intro (fun _ => hQ hr ⟨FR_t (hX.fr hw) (hX2.fr hw), Or.inl h22⟩) (fun h => absurd (show (-1 : Int32) < 0 by decide) h)
    · rw [hX.b] at hb2 ht3 hv2
      rw [if_pos hb2] at hQ
      rw [hX.b]
      generalize pnV (hp.1 38) (nN hp) (pnE (hp.1 38) (nN hp) (hN hp)) = U at hQ hv2
      have ev : (nI V).toNatClampNeg = V := nI_clamp (by omega)
      refine run hG [] 60 ?_
      refine And.intro (fun h => absurd h (Int32.not_lt.mpr (nI_nn (by omega)))) (fun _ => ?_)
      refine And.intro (vp_in_nI (by omega) (by omega)) ?_
      show Q none (uI hr (x + 1) (nI V).toNatClampNeg (nI U))
      rw [ev]
      have er : (uI hr (x + 1) V (nI U)).1 37 = hr.1 37 := uI_row _ _ _ (by omega)
      refine hQ _ ⟨FR_t (FR_t (hX.fr hw) (hX2.fr hw)) (FR_w hw (frm_u (frm_r x hr) (by omega) (by omega)) (fun hz => hiz_u hz (by omega))), ?_⟩
      dsimp only
      rw [er, rw_u1 hr x _ (by omega), hX2.row hw, hX.row hw]
      exact ⟨(h22.trans h2).trans hf, ht3, rfl⟩
theorem sc_X1_readHeight {own : String} {F L idx : Nat} (h1 : Cond.methodLink own idx yX1_readHeight ∈ Gw) (hF : 4 ≤ F) (hL : 86 ≤ L) : SC own F L (idx, false, 2, sp_X1_readHeight) := SC_V spF_mono c_X1_readHeight okd_3 (fun as hp K h => by obtain ⟨x, hx, -⟩ := spF_e h; exact ⟨_, _, d_T_W_e hx⟩) h1 gw_697 gw_16 gw_73 gw_698 (by decide +kernel) hF hL
def sp_X1_readDoor : SP := spF d_T_WI (fun x hp => TX x.1 hp) (fun x hp v hq => v = none ∧ td2 x.1 hp (pDoor (hp.1 38) (nN hp) (opV x.2) (hN hp) (rw_ hp x.1)) hq)
def E_X1_readDoor : EN := [(60, false, 2, sp_X1_takeNumber), (89, true, 2, sp_X3_doorBetween), (34, false, 1, sp_X1_nextToken), (93, false, 3, sp_X3_putDoor)]
set_option maxRecDepth 100000 in
set_option maxHeartbeats 4000000 in
theorem c_X1_readDoor : Ctr M_X1_readDoor sp_X1_readDoor := by
  refine ctr_of (own := RX1) M_X1_readDoor sp_X1_readDoor (P := P_X1_readDoor) (K := K_X1) (E := E_X1_readDoor) (by decide) rfl pk_X1_readDoor K_X1_ok (List.forall_mem_cons.mpr ⟨sc_X1_takeNumber gw_687 (by decide) (by decide), List.forall_mem_cons.mpr ⟨sc_X3_doorBetween gw_691 (by decide) (by decide), List.forall_mem_cons.mpr ⟨sc_X1_nextToken gw_611 (by decide) (by decide), List.forall_mem_cons.mpr ⟨sc_X3_putDoor gw_692 (by decide) (by decide), fun _ h => absurd h List.not_mem_nil⟩⟩⟩⟩) (fun as hp Q h => by obtain ⟨x, hx, -⟩ := spF_e h; rw [d_T_WI_e hx]; exact Nat.le_of_ble_eq_true rfl) ?_
  intro Q G hQi hG as hp h
  obtain ⟨x, hx, hpre, hQ⟩ := spF_e h
  rw [d_T_WI_e hx]
  clear h hx
  obtain ⟨w, o⟩ := x
  try dsimp only at hpre hQ ⊢
  obtain ⟨hw, ht, hf⟩ := hpre
  have hw : w + 12 ≤ 37 := hw
  have hQ : ∀ hq, td2 w hp (pDoor (hp.1 38) (nN hp) (opV o) (hN hp) (rw_ hp w)) hq → Q none hq := fun hq h => hQ _ _ ⟨rfl, h⟩
  unfold pDoor at hQ
  refine run hG [6] 60 ?_
  refine And.intro ⟨_, _, ht⟩ ?_
  intro v hq hP
  rcases tk_num ht (m := 24) (by omega) hP with ⟨hb, rfl, hX, h2⟩ | ⟨hb, rfl, hv, hX, h2, ht2⟩
  · rw [if_neg (by rw [hb]; decide)] at hQ
    refine run hG [] 60 ?_
    exact And.intro (fun h => absurd h (by decide)) (fun _ => hQ hq ⟨hX.fr hw, Or.inl h2⟩)
  · rw [if_pos hb] at hQ
    generalize hV : pnV (hp.1 38) (nN hp) (hN hp) = V at hQ hv
    generalize hE : pnE (hp.1 38) (nN hp) (hN hp) = E at hQ ht2
    have hle := ht2.le
    -- a fault at the second number
    have bad : (∀ hr, td2 w hp (.inl (bk (hp.1 38) (nN hp) E)) hr → Q none hr) → ∀ v4 : Int32, v4 = -1 → G 34 [(4, vI v4), (3, vI (nI V)), (2, vI o), (1, vR 1 w), (0, vR 3 37)] [] hq := by
      intro hq2 v4 e
      subst e
      refine run hG [] 60 ?_
      refine And.intro (fun h => absurd h (by decide)) (fun _ => ?_)
      refine hq2 _ ⟨FR_t (hX.fr hw) (X37.fr ⟨fun c hc => uI_row _ _ _ hc, rfl, uI_oth _ _ _ (by omega)⟩ hw), Or.inl ?_⟩
      show (uI hq 37 2 (hq.1 37 4)).1 37 2 = _
      rw [uI_same, ht2.s4]
    have hnum := ht2.num (m := 24) (by omega)
    have hisn := ht2.isn
    refine run hG [12] 60 ?_
    refine And.intro (fun _ => ?_) (fun h => absurd (nI_nn (by omega)) h)
    refine cl_lv hG [(3, vI (nI V)), (2, vI o), (1, vR 1 w), (0, vR 3 37)] ⟨rfl, rfl, rfl, rfl, trivial⟩ ?_
    refine run hG [34] 60 ?_
    refine And.intro (fun h3 => ?_) (fun h3 => ?_)
    · have h3 : ¬ hq.1 37 3 = nI 2 := h3
      have hb2 : pnB (hp.1 38) (nN hp) 24 E = false := by
        cases hb2 : pnB (hp.1 38) (nN hp) 24 E with
        | false => rfl
        | true => exact absurd (hnum.1 hb2).1 h3
      rw [if_neg (by rw [hb2]; decide)] at hQ
      exact cl_use hG (bad hQ (-1) rfl) ⟨rfl, rfl, rfl, rfl, rfl, trivial⟩
    · have h3 : hq.1 37 3 = nI 2 := h3
      have h6 := hisn.2 h3
      refine And.intro trivial ?_
      refine cl_lv hG [(4, vI (if dbN (nI V) (hq.1 37 6) = 99 then -1 else nI (dbN (nI V) (hq.1 37 6)))), (3, vI (nI V)), (2, vI o), (1, vR 1 w), (0, vR 3 37)] ⟨rfl, rfl, rfl, rfl, rfl, trivial⟩ ?_
      have hVin : inB (nI V) 25 = true := inB_t.mpr (vp_in_nI (by omega) (by omega))
      cases hb2 : pnB (hp.1 38) (nN hp) 24 E with
      | false =>
        rw [if_neg (by rw [hb2]; decide)] at hQ
        have h99 : dbN (nI V) (hq.1 37 6) = 99 := by
          unfold dbN
          rw [if_neg]
          intro h
          have := hnum.2 hb2
          refine this ⟨h3, ?_⟩
          obtain ⟨y, hy, ey⟩ := vp_in_of (inB_t.mp h.2) (by omega)
          rw [ey]
          exact nI_le (by omega) (by omega)
        rw [if_pos h99]
        exact bad hQ (-1) rfl
      | true =>
        rw [if_pos hb2] at hQ
        obtain ⟨k1, k2, k3, k4⟩ := hnum.1 hb2
        generalize hU : pnV (hp.1 38) (nN hp) E = U at hQ k2 k3
        rw [k2]
        have eD : dbN (nI V) (nI U) = dbM V U := by
          unfold dbN
          rw [if_pos ⟨hVin, inB_t.mpr (vp_in_nI (by omega) (by omega))⟩, nI_clamp (by omega), nI_clamp (by omega)]
        rw [eD]
        rcases dbM_ok V (by omega) U (by omega) with ⟨e1, e2⟩ | ⟨e1, e2, e3⟩
        · rw [if_pos e2] at hQ
          rw [if_pos e1]
          exact bad hQ (-1) rfl
        · rw [if_neg (by omega), ← e3] at hQ
          rw [if_neg (by omega)]
          generalize dbM V U = d at e1 hQ
          have ed : (nI d).toNatClampNeg = d := nI_clamp (by omega)
          have hE2 := pn_le (hp.1 38) (show E ≤ nN hp from ht2.2.1)
          have k4 : hq.1 37 5 = nI (pnE (hp.1 38) (nN hp) E) := k4
          rw [← hX.b] at ht2
          refine run hG [52] 60 ?_
          refine And.intro (fun _ => ?_) (fun h => absurd (nI_nn (by omega)) h)
          refine And.intro ⟨nN hp, pnE (hp.1 38) (nN hp) E, ht2.1, hE2.2, ht2.2.2.1, k4⟩ ?_
          rintro v hr ⟨rfl, hP2⟩
          obtain ⟨hX2, h22, ht3⟩ := nx_tok ht2 k4 hE2.2 hP2
          rw [hX.b] at ht3
          refine run hG [] 60 ?_
          refine And.intro (vp_in_nI e1 (by omega)) ?_
          show Q none (uL hr w 0 (shP (hr.2 w 0) (nI d).toNatClampNeg o))
          rw [ed]
          refine hQ _ ⟨FR_t (FR_t (hX.fr hw) (hX2.fr hw)) (FR_w hw (frm_uL (frm_r w hr) (by omega) (by omega)) (fun hz => hiz_sh hz e1 o)), ?_⟩
          dsimp only
          rw [rw_ush hr w _ _ e1 (fun j hj => shP_bit _ _ e1 hj), hX2.row hw, hX.row hw]
          exact ⟨(h22.trans h2).trans hf, ht3, rfl⟩
theorem sc_X1_readDoor {own : String} {F L idx : Nat} (h1 : Cond.methodLink own idx yX1_readDoor ∈ Gw) (hF : 4 ≤ F) (hL : 89 ≤ L) : SC own F L (idx, false, 3, sp_X1_readDoor) := SC_V spF_mono c_X1_readDoor okd_3 (fun as hp K h => by obtain ⟨x, hx, -⟩ := spF_e h; exact ⟨_, _, d_T_WI_e hx⟩) h1 gw_685 gw_14 gw_73 gw_686 (by decide +kernel) hF hL
