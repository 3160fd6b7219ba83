/-! the class's cells of one heap beside the reference's cells of another -/
theorem rw_cg {hp hq : HP} {w : Nat} (h : ∀ c, w ≤ c → c < w + 12 → hq.1 c = hp.1 c ∧ hq.2 c = hp.2 c) : rw_ hq w = rw_ hp w := by
  funext k
  unfold rw_
  rw [(h w (by omega) (by omega)).1, (h w (by omega) (by omega)).2, (h (w + 1) (by omega) (by omega)).1, (h (w + 2) (by omega) (by omega)).1]
  by_cases h8 : k < 184
  · rw [(h (w + 4 + (k - 144) / 5) (by omega) (by omega)).1]
  · simp only [if_neg h8]
def tot (r : Nat → Int32) : Int32 := fold (fun k s => s + r k) (nI 0) 7
theorem tot_up (r : Nat → Int32) {k : Nat} (hk : k < 7) : tot (upd r k (r k + nI 1)) = tot r + nI 1 := by
  show nI 0 + upd r k (r k + nI 1) 0 + upd r k (r k + nI 1) 1 + upd r k (r k + nI 1) 2 + upd r k (r k + nI 1) 3 + upd r k (r k + nI 1) 4 + upd r k (r k + nI 1) 5 + upd r k (r k + nI 1) 6 = nI 0 + r 0 + r 1 + r 2 + r 3 + r 4 + r 5 + r 6 + nI 1
  rcases (show k = 0 ∨ k = 1 ∨ k = 2 ∨ k = 3 ∨ k = 4 ∨ k = 5 ∨ k = 6 by omega) with h | h | h | h | h | h | h <;> subst h <;> simp only [upd_at, if_pos, if_neg, reduceIte, Nat.reduceEqDiff] <;> ac_rfl
/-- a byte of the class's, and one of the reference's -/
def rb (b t : Int32) : Prop := b = t ∨ (b < 0 ∧ nI 128 ≤ t)
/-- no bit stands where no door, lamp or river is -/
def hiz (w : Nat) (hp : HP) : Prop := (∀ d, 50 ≤ d → d < 64 → bJ (hp.2 w 0) d = nI 0) ∧ ∀ d, 25 ≤ d → d < 32 → bI (hp.1 w 2) d = nI 0 ∧ bI (hp.1 w 3) d = nI 0
theorem hiz_e {w u : Nat} {hp hq : HP} (h : hiz w hp) (e1 : hq.2 u 0 = hp.2 w 0) (e2 : hq.1 u 2 = hp.1 w 2) (e3 : hq.1 u 3 = hp.1 w 3) : hiz u hq := by
  unfold hiz at h ⊢
  rw [e1, e2, e3]
  exact h
theorem hiz_u {w : Nat} {hp : HP} (h : hiz w hp) {c k : Nat} {v : Int32} (hk : c ≠ w ∨ (k ≠ 2 ∧ k ≠ 3)) : hiz w (uI hp c k v) := hiz_e h rfl (by rw [uI_at, if_neg (by omega)]) (by rw [uI_at, if_neg (by omega)])
theorem shP_hi (x : Int64) {q d : Nat} (o : Int32) (hq : q < 50) (h1 : 50 ≤ d) (h2 : d < 64) : bJ (shP x q o) d = bJ x d := by
  have e1 : (-1 : Int64).toBitVec.getLsbD d = true := by
    have : (-1 : Int64).toBitVec = BitVec.allOnes 64 := by decide
    rw [this, BitVec.getLsbD_allOnes]
    exact decide_eq_true (by omega)
  unfold shP
  split
  · rw [bJ_eq _ (by omega), bJ_eq _ (by omega), Int64.toBitVec_or, BitVec.getLsbD_or, shl64 q (by omega), one_shl64 (by omega) (by omega), decide_eq_false (by omega), Bool.or_false]
  · rw [bJ_eq _ (by omega), bJ_eq _ (by omega), Int64.toBitVec_and, BitVec.getLsbD_and, Int64.toBitVec_xor, BitVec.getLsbD_xor, shl64 q (by omega), one_shl64 (by omega) (by omega), e1, decide_eq_false (by omega)]
    cases x.toBitVec.getLsbD d <;> rfl
theorem bitP_hi (x : Int32) {q d : Nat} (o : Int32) (hq : q < 25) (h1 : 25 ≤ d) (h2 : d < 32) : bI (bitP x q o) d = bI x d := by
  have e1 : (-1 : Int32).toBitVec.getLsbD d = true := by
    have : (-1 : Int32).toBitVec = BitVec.allOnes 32 := by decide
    rw [this, BitVec.getLsbD_allOnes]
    exact decide_eq_true (by omega)
  unfold bitP
  split
  · rw [bI_eq _ (by omega), bI_eq _ (by omega), Int32.toBitVec_and, BitVec.getLsbD_and, Int32.toBitVec_xor, BitVec.getLsbD_xor, shl32 q (by omega), one_shl (by omega) (by omega), e1, decide_eq_false (by omega)]
    cases x.toBitVec.getLsbD d <;> rfl
  · rw [bI_eq _ (by omega), bI_eq _ (by omega), Int32.toBitVec_or, BitVec.getLsbD_or, shl32 q (by omega), one_shl (by omega) (by omega), decide_eq_false (by omega), Bool.or_false]
theorem hiz_sh {w : Nat} {hp : HP} (h : hiz w hp) {q : Nat} (hq : q < 50) (o : Int32) : hiz w (uL hp w 0 (shP (hp.2 w 0) q o)) := by
  refine ⟨fun d h1 h2 => ?_, h.2⟩
  rw [uL_r, rL_eq, upL_at, if_pos rfl, shP_hi _ _ hq h1 h2]
  exact h.1 d h1 h2
theorem hiz_lm {w : Nat} {hp : HP} (h : hiz w hp) {q : Nat} (hq : q < 25) (o : Int32) : hiz w (uI hp w 2 (bitP (hp.1 w 2) q o)) := by
  refine ⟨h.1, fun d h1 h2 => ?_⟩
  rw [uI_same, uI_oth _ _ _ (by omega), bitP_hi _ _ hq h1 h2]
  exact h.2 d h1 h2
theorem hiz_rv {w : Nat} {hp : HP} (h : hiz w hp) {q : Nat} (hq : q < 25) (o : Int32) : hiz w (uI hp w 3 (bitP (hp.1 w 3) q o)) := by
  refine ⟨h.1, fun d h1 h2 => ?_⟩
  rw [uI_same, uI_oth _ _ _ (by omega), bitP_hi _ _ hq h1 h2]
  exact h.2 d h1 h2
theorem hiz_c {w : Nat} {hp hq : HP} (h1 : hq.1 w = hp.1 w) (h2 : hq.2 w = hp.2 w) : hiz w hq = hiz w hp := by
  unfold hiz
  rw [h1, h2]
def R1 (hp mp : HP) : Prop := ag (mp.1 53) (rw_ hp 1) ∧ WS (mp.1 53) ∧ hiz 1 hp
def R2 (hp mp : HP) : Prop := hp.1 0 3 = mp.1 52 4 ∧ (mp.1 52 4 = nI 0 ∨ (mp.1 52 4 = nI 1 ∧ ag (mp.1 54) (rw_ hp 25) ∧ WS (mp.1 54) ∧ hiz 25 hp))
def R3 (hp mp : HP) : Prop := (∀ k, k < 7 → hp.1 51 k = mp.1 57 k) ∧ hp.1 0 10 = tot (mp.1 57)
def R4 (hp mp : HP) : Prop := ∃ T, T ≤ 120 ∧ mp.1 52 11 = nI T ∧ hp.1 37 1 = nI T ∧ ∀ j, j < T → rb (hp.1 38 j) (mp.1 62 j)
def R5 (hp mp : HP) : Prop := ∀ s, s < 4 → hp.1 (40 + s) 0 = mp.1 63 s ∧ hp.1 (40 + s) 1 = mp.1 64 s ∧ (∃ l, l ≤ 40 ∧ mp.1 64 s = nI l) ∧ btB (mp.1 63 s) = true ∧ ∀ j, j < 40 → hp.2 (44 + s) j = mp.2 65 (40 * s + j)
def RC (hp mp : HP) : Prop := R1 hp mp ∧ R2 hp mp ∧ R3 hp mp ∧ R4 hp mp ∧ R5 hp mp
def RX (hp : HP) : Prop := ∃ mp, RC hp mp
/-- only what lies ahead, and the scratch rows, may differ -/
def qc (hp hq : HP) : Prop := ∀ c, (c < 13 ∨ (25 ≤ c ∧ c < 48) ∨ 51 ≤ c) → hq.1 c = hp.1 c ∧ hq.2 c = hp.2 c
def qm (mp mq : HP) : Prop := mq.1 53 = mp.1 53 ∧ mq.1 54 = mp.1 54 ∧ mq.1 57 = mp.1 57 ∧ mq.1 62 = mp.1 62 ∧ mq.1 63 = mp.1 63 ∧ mq.1 64 = mp.1 64 ∧ mq.2 65 = mp.2 65 ∧ mq.1 52 4 = mp.1 52 4 ∧ mq.1 52 11 = mp.1 52 11
theorem qc_r (hp : HP) : qc hp hp := fun _ _ => ⟨rfl, rfl⟩
theorem qc_t {hp hq hr : HP} (h : qc hp hq) (h2 : qc hq hr) : qc hp hr := fun c hc => ⟨(h2 c hc).1.trans (h c hc).1, (h2 c hc).2.trans (h c hc).2⟩
theorem qm_r (mp : HP) : qm mp mp := ⟨rfl, rfl, rfl, rfl, rfl, rfl, rfl, rfl, rfl⟩
theorem qc_13 {hp hq : HP} (h : frm 13 hp hq) : qc hp hq := fun c hc => h c (by omega)
theorem RC.q {hp hq mp mq : HP} (h : RC hp mp) (hc : qc hp hq) (hm : qm mp mq) : RC hq mq := by
  obtain ⟨h1, h2, h3, h4, h5⟩ := h
  obtain ⟨m1, m2, m3, m4, m5, m6, m7, m8, m9⟩ := hm
  refine ⟨?_, ?_, ?_, ?_, ?_⟩
  · unfold R1 at h1 ⊢
    rw [m1, rw_cg (w := 1) (fun c a b => hc c (by omega)), hiz_c (hc 1 (by omega)).1 (hc 1 (by omega)).2]
    exact h1
  · unfold R2 at h2 ⊢
    rw [m8, m2, rw_cg (w := 25) (fun c a b => hc c (by omega)), (hc 0 (by omega)).1, hiz_c (hc 25 (by omega)).1 (hc 25 (by omega)).2]
    exact h2
  · unfold R3 at h3 ⊢
    rw [m3, (hc 0 (by omega)).1, (hc 51 (by omega)).1]
    exact h3
  · unfold R4 at h4 ⊢
    rw [m9, m4, (hc 37 (by omega)).1, (hc 38 (by omega)).1]
    exact h4
  · unfold R5 at h5 ⊢
    rw [m5, m6, m7]
    intro s hs
    rw [(hc (40 + s) (by omega)).1, (hc (44 + s) (by omega)).2]
    exact h5 s hs
theorem RC.no {hp mp : HP} (h : RC hp mp) {k : Nat} (hk : k < 7) : RC (uI (uI hp 51 k (hp.1 51 k + nI 1)) 0 10 (hp.1 0 10 + nI 1)) (noP mp k).2 := by
  obtain ⟨h1, h2, h3, h4, h5⟩ := h
  have ek : (nI k).toNatClampNeg = k := nI_clamp (by omega)
  have e : (noP mp k).2 = uI mp 57 k (mp.1 57 k + nI 1) := by unfold noP; rw [ek]
  rw [e]
  generalize hq : uI (uI hp 51 k (hp.1 51 k + nI 1)) 0 10 (hp.1 0 10 + nI 1) = H
  have er : ∀ c, c ≠ 0 → c ≠ 51 → H.1 c = hp.1 c := fun c a b => by rw [← hq, uI_row _ _ _ a, uI_row _ _ _ b]
  have eL : H.2 = hp.2 := by rw [← hq]; rfl
  have em : ∀ c, c ≠ 57 → (uI mp 57 k (mp.1 57 k + nI 1)).1 c = mp.1 c := fun c a => uI_row _ _ _ a
  refine ⟨?_, ?_, ?_, ?_, ?_⟩
  · unfold R1 at h1 ⊢
    rw [em 53 (by omega), rw_cg (hp := hp) (w := 1) (fun c a b => ⟨er c (by omega) (by omega), by rw [eL]⟩), hiz_c (hp := hp) (er 1 (by omega) (by omega)) (by rw [eL])]
    exact h1
  · unfold R2 at h2 ⊢
    rw [em 52 (by omega), em 54 (by omega), rw_cg (hp := hp) (w := 25) (fun c a b => ⟨er c (by omega) (by omega), by rw [eL]⟩), hiz_c (hp := hp) (er 25 (by omega) (by omega)) (by rw [eL])]
    refine ⟨?_, h2.2⟩
    rw [← hq, uI_oth _ _ _ (by omega), uI_row _ _ _ (by omega)]
    exact h2.1
  · unfold R3 at h3 ⊢
    refine ⟨fun j hj => ?_, ?_⟩
    · rw [← hq, uI_row _ _ _ (by omega), uI_at, uI_at]
      by_cases hjk : j = k
      · rw [if_pos ⟨rfl, hjk⟩, if_pos ⟨rfl, hjk⟩, h3.1 k hk]
      · rw [if_neg (fun h => hjk h.2), if_neg (fun h => hjk h.2), h3.1 j hj]
    · rw [← hq, uI_same, uI_r, rI_eq, tot_up _ hk, h3.2]
  · unfold R4 at h4 ⊢
    rw [em 52 (by omega), em 62 (by omega), er 37 (by omega) (by omega), er 38 (by omega) (by omega)]
    exact h4
  · unfold R5 at h5 ⊢
    rw [em 63 (by omega), em 64 (by omega)]
    intro s hs
    rw [er (40 + s) (by omega) (by omega), eL]
    exact h5 s hs
def mdl (hp hq : HP) : Prop := ∀ c, 52 ≤ c → hq.1 c = hp.1 c ∧ hq.2 c = hp.2 c
theorem qc_mdl {hp hq : HP} (h : qc hp hq) : mdl hp hq := fun c hc => h c (by omega)
/-- what a call of the class's does, beside the reference's -/
def PO (F : HP → Int32 × HP) (hp : HP) (v : Option AV) (hq : HP) : Prop := mdl hp hq ∧ ∀ mp, RC hp mp → v = some (vI (F mp).1) ∧ RC hq (F mp).2
def PJ (F : HP → Int64 × HP) (hp : HP) (v : Option AV) (hq : HP) : Prop := mdl hp hq ∧ ∀ mp, RC hp mp → v = some (vL (F mp).1) ∧ RC hq (F mp).2
theorem mdl_t {hp hq hr : HP} (h : mdl hp hq) (h2 : mdl hq hr) : mdl hp hr := fun c hc => ⟨(h2 c hc).1.trans (h c hc).1, (h2 c hc).2.trans (h c hc).2⟩
def tlH (hq : HP) (c : Int32) : HP := uI (uI hq 51 (-1000000001 - c).toNatClampNeg (hq.1 51 (-1000000001 - c).toNatClampNeg + nI 1)) 0 10 (hq.1 0 10 + nI 1)
theorem mdl_no {hp hq : HP} (h : mdl hp hq) (c : Int32) : mdl hp (tlH hq c) := fun d hd => by
  unfold tlH
  refine ⟨?_, (h d hd).2⟩
  rw [uI_row _ _ _ (by omega), uI_row _ _ _ (by omega)]
  exact (h d hd).1
theorem tl_RC {hp mp : HP} (h : RC hp mp) {c : Int32} {k : Nat} (hk : k < 7) (ec : c = -1000000001 - nI k) : RC (tlH hp c) (noP mp k).2 := by
  unfold tlH
  rw [ec, tell_k k hk, nI_clamp (by omega)]
  exact h.no hk
theorem at_no {Q : QP} {F : HP → Int32 × HP} {hp hq : HP} {c : Int32} (hQ : ∀ v hq, PO F hp v hq → Q v hq) (k : Nat) (hk : k < 7) (ec : c = -1000000001 - nI k) (hqc : qc hp hq) (e : ∀ mp, RC hp mp → ∃ mq, qm mp mq ∧ F mp = noP mq k) :
    (∃ k, k < 7 ∧ c = -1000000001 - nI k) ∧ Q (some (vI c)) (uI (uI hq 51 (-1000000001 - c).toNatClampNeg (hq.1 51 (-1000000001 - c).toNatClampNeg + nI 1)) 0 10 (hq.1 0 10 + nI 1)) := by
  refine ⟨⟨k, hk, ec⟩, hQ _ _ ⟨mdl_no (qc_mdl hqc) c, fun mp h => ?_⟩⟩
  obtain ⟨mq, h1, h2⟩ := e mp h
  rw [h2]
  exact ⟨by rw [ec]; rfl, tl_RC (h.q hqc h1) hk ec⟩
theorem at_noL {Q : QP} {F : HP → Int64 × HP} {hp hq : HP} {c : Int32} (hQ : ∀ v hq, PJ F hp v hq → Q v hq) (k : Nat) (hk : k < 7) (ec : c = -1000000001 - nI k) (hqc : qc hp hq) (e : ∀ mp, RC hp mp → ∃ mq, qm mp mq ∧ F mp = noL mq k) :
    (∃ k, k < 7 ∧ c = -1000000001 - nI k) ∧ Q (some (vL c.toInt64)) (uI (uI hq 51 (-1000000001 - c).toNatClampNeg (hq.1 51 (-1000000001 - c).toNatClampNeg + nI 1)) 0 10 (hq.1 0 10 + nI 1)) := by
  refine ⟨⟨k, hk, ec⟩, hQ _ _ ⟨mdl_no (qc_mdl hqc) c, fun mp h => ?_⟩⟩
  obtain ⟨mq, h1, h2⟩ := e mp h
  rw [h2]
  exact ⟨by rw [ec]; rfl, tl_RC (h.q hqc h1) hk ec⟩
theorem at_q {Q : QP} {F : HP → Int32 × HP} {hp hq : HP} {v : Int32} (hQ : ∀ v hq, PO F hp v hq → Q v hq) (hqc : qc hp hq) (e : ∀ mp, RC hp mp → ∃ mq, qm mp mq ∧ F mp = (v, mq)) : Q (some (vI v)) hq := by
  refine hQ _ _ ⟨qc_mdl hqc, fun mp h => ?_⟩
  obtain ⟨mq, h1, h2⟩ := e mp h
  rw [h2]
  exact ⟨rfl, h.q hqc h1⟩
theorem at_v {Q : QP} {F : HP → Int32 × HP} {hp : HP} {v : Int32} (hQ : ∀ v hq, PO F hp v hq → Q v hq) (e : ∀ mp, RC hp mp → F mp = (v, mp)) : Q (some (vI v)) hp := at_q hQ (qc_r hp) (fun mp h => ⟨mp, qm_r mp, e mp h⟩)
theorem RC.w {hp hq mp : HP} (h : RC hp mp) (hf : frm 1 hp hq) (hz : hiz 1 hq) {g : Nat → Int32} (ha : ag g (rw_ hq 1)) (hw : WS g) : RC hq (rI mp 53 g) := by
  obtain ⟨h1, h2, h3, h4, h5⟩ := h
  have em : ∀ c, c ≠ 53 → (rI mp 53 g).1 c = mp.1 c := fun c a => rI_ne _ _ a
  refine ⟨?_, ?_, ?_, ?_, ?_⟩
  · unfold R1
    rw [rI_eq]
    exact ⟨ha, hw, hz⟩
  · unfold R2 at h2 ⊢
    rw [em 52 (by omega), em 54 (by omega), rw_cg (w := 25) (fun c a b => hf c (by omega)), (hf 0 (by omega)).1, hiz_c (hf 25 (by omega)).1 (hf 25 (by omega)).2]
    exact h2
  · unfold R3 at h3 ⊢
    rw [em 57 (by omega), (hf 0 (by omega)).1, (hf 51 (by omega)).1]
    exact h3
  · unfold R4 at h4 ⊢
    rw [em 52 (by omega), em 62 (by omega), (hf 37 (by omega)).1, (hf 38 (by omega)).1]
    exact h4
  · unfold R5 at h5 ⊢
    rw [em 63 (by omega), em 64 (by omega)]
    intro s hs
    rw [(hf (40 + s) (by omega)).1, (hf (44 + s) (by omega)).2]
    exact h5 s hs
theorem at_w {Q : QP} {F : HP → Int32 × HP} {hp hq : HP} {v : Int32} (hQ : ∀ v hq, PO F hp v hq → Q v hq) (hf : frm 1 hp hq) (hz : hiz 1 hp → hiz 1 hq) (e : ∀ mp, RC hp mp → ∃ g, F mp = (v, rI mp 53 g) ∧ ag g (rw_ hq 1) ∧ WS g) : Q (some (vI v)) hq := by
  refine hQ _ _ ⟨fun c hc => hf c (by omega), fun mp h => ?_⟩
  obtain ⟨g, h1, h2, h3⟩ := e mp h
  rw [h1]
  exact ⟨rfl, h.w hf (hz h.1.2.2) h2 h3⟩
/-! what the relation tells of the ward -/
theorem RC.ag {hp mp : HP} (h : RC hp mp) : ag (mp.1 53) (rw_ hp 1) := h.1.1
theorem RC.ws {hp mp : HP} (h : RC hp mp) : WS (mp.1 53) := h.1.2.1
theorem RC.wf {hp mp : HP} (h : RC hp mp) : WF (mp.1 53) := h.1.2.1.1
theorem RC.wc {hp mp : HP} (h : RC hp mp) : WF (rw_ hp 1) := h.ag.wf h.wf
theorem RC.mn {hp mp : HP} (h : RC hp mp) : mN (mp.1 53) = mN (rw_ hp 1) := h.ag.mn.symm
theorem RC.c12 {hp mp : HP} (h : RC hp mp) : mN (rw_ hp 1) ≤ 8 ∧ hp.1 1 12 = nI (mN (rw_ hp 1)) := many_wc h.wc.many
theorem RC.lo {hp mp : HP} (h : RC hp mp) {k : Nat} (hk : k < 144) : mp.1 53 k = rw_ hp 1 k := (h.ag.lo hk).symm
theorem RC.wk {hp mp : HP} (h : RC hp mp) {i j : Nat} (hi : i < mN (rw_ hp 1)) (hj : j < 5) : mp.1 53 (144 + 5 * i + j) = hp.1 (5 + i) j := by
  have := h.c12.1
  rw [← h.ag.wk (by rw [h.mn]; exact hi) hj, rw_wk hp 1 (by omega) hj]
theorem RC.ok {hp mp : HP} (h : RC hp mp) {i : Nat} (hi : i < mN (rw_ hp 1)) : vp_in (hp.1 (5 + i) 0) 6 ∧ vp_in (hp.1 (5 + i) 1) 25 ∧ vp_in (hp.1 (5 + i) 2) 25 ∧ vp_in (hp.1 (5 + i) 3) 4 ∧ vp_in (hp.1 (5 + i) 4) 2 := by
  have := h.c12.1
  have k := h.wc.wk (w := i) hi
  unfold wkOK at k
  rw [show 144 + 5 * i = 144 + 5 * i + 0 by omega, rw_wk hp 1 (by omega) (by omega), show 144 + 5 * i + 0 = 144 + 5 * i by omega, rw_wk hp 1 (by omega) (by omega), rw_wk hp 1 (by omega) (by omega), rw_wk hp 1 (by omega) (by omega), rw_wk hp 1 (by omega) (by omega)] at k
  exact k
def sp_X4_isWalker : SP := spP d_C_I (fun _ hp => RX hp) (fun x hp => vI (bB (inB x (mN (rw_ hp 1)))))
def E_X4_isWalker : EN := [(78, true, 3, sp_X4_isWithin)]
set_option maxRecDepth 100000 in
set_option maxHeartbeats 4000000 in
theorem c_X4_isWalker : Ctr M_X4_isWalker sp_X4_isWalker := by
  refine ctr_of (own := RX4) M_X4_isWalker sp_X4_isWalker (P := P_X4_isWalker) (K := K_X4) (E := E_X4_isWalker) (by decide) rfl pk_X4_isWalker K_X4_ok (List.forall_mem_cons.mpr ⟨sc_X4_isWithin gw_285 (by decide) (by decide), fun _ h => absurd h List.not_mem_nil⟩) (fun as hp Q h => by obtain ⟨x, hx, -⟩ := spP_e h; rw [d_C_I_e hx]; exact Nat.le_of_ble_eq_true rfl) ?_
  intro Q G hQi hG as hp h
  obtain ⟨x, hx, hpre, hQ⟩ := spP_e h
  rw [d_C_I_e hx]
  clear h hx
  obtain ⟨m0, h0⟩ := hpre
  have h := h0.c12
  refine run hG [] 60 ?_
  refine And.intro trivial ?_
  refine q_b hQ ?_
  show bB (decide (nI 0 ≤ x) && decide (x ≤ hp.1 1 12 - nI 1)) = _
  rw [h.2, wk_b h.1]
theorem sc_X4_isWalker {own : String} {F L idx : Nat} (h1 : Cond.methodLink own idx yX4_isWalker ∈ Gw) (hF : 2 ≤ F) (hL : 43 ≤ L) : SC own F L (idx, false, 2, sp_X4_isWalker) := SC_V spP_mono c_X4_isWalker okd_0 (fun as hp K h => by obtain ⟨x, hx, -⟩ := spP_e h; exact ⟨_, _, d_C_I_e hx⟩) h1 gw_392 gw_1 gw_69 gw_393 (by decide +kernel) hF hL
def sp_X4_isTooLate : SP := spP d_C_I (fun _ _ => True) (fun x hp => vI (bB (ltB (rw_ hp 1) x)))
def E_X4_isTooLate : EN := []
set_option maxRecDepth 100000 in
set_option maxHeartbeats 4000000 in
theorem c_X4_isTooLate : Ctr M_X4_isTooLate sp_X4_isTooLate := by
  refine ctr_of (own := RX4) M_X4_isTooLate sp_X4_isTooLate (P := P_X4_isTooLate) (K := K_X4) (E := E_X4_isTooLate) (by decide) rfl pk_X4_isTooLate K_X4_ok (fun _ h => absurd h List.not_mem_nil) (fun as hp Q h => by obtain ⟨x, hx, -⟩ := spP_e h; rw [d_C_I_e hx]; exact Nat.le_of_ble_eq_true rfl) ?_
  intro Q G hQi hG as hp h
  obtain ⟨x, hx, hpre, hQ⟩ := spP_e h
  rw [d_C_I_e hx]
  clear h hx
  have e : rw_ hp 1 0 = hp.1 1 5 := rw_0 hp 1
  unfold ltB at hQ
  rw [e] at hQ
  refine run hG [] 60 ?_
  refine And.intro (fun h1 => ?_) (fun h1 => ?_)
  · have h1 : hp.1 1 5 + x ≤ nI 9999 := h1
    rw [decide_eq_false (fun h => h h1)] at hQ
    exact And.intro (Or.inl rfl) hQ
  · have h1 : ¬ hp.1 1 5 + x ≤ nI 9999 := h1
    rw [decide_eq_true h1] at hQ
    exact And.intro (Or.inr rfl) hQ
theorem sc_X4_isTooLate {own : String} {F L idx : Nat} (h1 : Cond.methodLink own idx yX4_isTooLate ∈ Gw) (hF : 1 ≤ F) (hL : 21 ≤ L) : SC own F L (idx, false, 2, sp_X4_isTooLate) := SC_V spP_mono c_X4_isTooLate okd_0 (fun as hp K h => by obtain ⟨x, hx, -⟩ := spP_e h; exact ⟨_, _, d_C_I_e hx⟩) h1 gw_457 gw_2 gw_69 gw_458 (by decide +kernel) hF hL
