/-- where the class's reader stands: n bytes, the next token begins behind h -/
def TXS (n h : Nat) (B o : Nat → Int32) : Prop := n ≤ 120 ∧ h ≤ n ∧ o 1 = nI n ∧ TKN B n h o
theorem TXS.pos {n h : Nat} {B o : Nat → Int32} (ht : TXS n h B o) : ∃ s e, s ≤ e ∧ e ≤ n ∧ o 4 = nI s ∧ o 5 = nI e := by
  obtain ⟨hn, hh, o1, t4, t0, t1, t2, t3⟩ := ht
  have hb := bk_le B hh
  generalize bk B n h = S at t4 t0 t1 t2 t3 hb
  rcases Nat.lt_or_ge S n with hS | hS
  · cases hl : lrB (B S) with
    | true =>
      have := skp_le lrB B hb.2
      exact ⟨S, _, this.1, this.2, t4, (t1 hS hl).2⟩
    | false =>
      cases hd : dgB (B S) with
      | true =>
        have := skp_le dgB B hb.2
        exact ⟨S, _, this.1, this.2, t4, (t2 hS hl hd).2.1⟩
      | false => exact ⟨S, S + 1, by omega, by omega, t4, (t3 hS hl hd).2⟩
  · exact ⟨S, S, Nat.le_refl _, hb.2, t4, (t0 hS).2⟩
def sp_X1_takesWord : SP := spF d_T_X (fun m hp => txok m ∧ ∃ n h, TXS n h (hp.1 38) (hp.1 37)) (fun m hp v hq => v = some (vI (bB (w2 (hp.1 38) (hp.1 37) m))) ∧ (w2 (hp.1 38) (hp.1 37) m = false → hq = hp) ∧ (w2 (hp.1 38) (hp.1 37) m = true → ∃ o, hq = rI hp 37 o ∧ sm3 (hp.1 37) o ∧ TKN (hp.1 38) (hp.1 37 1).toNatClampNeg (hp.1 37 5).toNatClampNeg o))
def E_X1_takesWord : EN := [(129, false, 2, sp_X1_isWord), (34, false, 1, sp_X1_nextToken)]
set_option maxRecDepth 100000 in
set_option maxHeartbeats 4000000 in
theorem c_X1_takesWord : Ctr M_X1_takesWord sp_X1_takesWord := by
  refine ctr_of (own := RX1) M_X1_takesWord sp_X1_takesWord (P := P_X1_takesWord) (K := K_X1) (E := E_X1_takesWord) (by decide) rfl pk_X1_takesWord K_X1_ok (List.forall_mem_cons.mpr ⟨sc_X1_isWord gw_631 (by decide) (by decide), List.forall_mem_cons.mpr ⟨sc_X1_nextToken gw_611 (by decide) (by decide), fun _ h => absurd h List.not_mem_nil⟩⟩) (fun as hp Q h => by obtain ⟨x, hx, -⟩ := spF_e h; rw [d_T_X_e hx]; exact Nat.le_of_ble_eq_true rfl) ?_
  intro Q G hQi hG as hp h
  obtain ⟨x, hx, hpre, hQ⟩ := spF_e h
  rw [d_T_X_e hx]
  clear h hx
  obtain ⟨htx, n, h, ht⟩ := hpre
  obtain ⟨s, e, hse, hen, e4, e5⟩ := ht.pos
  have hn := ht.1
  refine run hG [] 60 ?_
  refine And.intro ⟨htx, s, e, hse, by omega, e4, e5⟩ ?_
  refine And.intro (fun h1 => ?_) (fun h1 => ?_)
  · have h1 : w2 (hp.1 38) (hp.1 37) x = true := bB_1.mp h1
    refine And.intro ⟨n, e, hn, hen, ht.2.2.1, e5⟩ ?_
    rintro v hq ⟨rfl, o, rfl, h3, h4⟩
    exact And.intro (Or.inr rfl) (hQ _ _ ⟨by rw [h1]; rfl, fun h => absurd h (by rw [h1]; decide), fun _ => ⟨o, rfl, h3, h4⟩⟩)
  · have h1 : w2 (hp.1 38) (hp.1 37) x = false := bB_0.mp h1
    exact And.intro (Or.inl rfl) (hQ _ _ ⟨by rw [h1]; rfl, fun _ => rfl, fun h => absurd h (by rw [h1]; decide)⟩)
theorem sc_X1_takesWord {own : String} {F L idx : Nat} (h1 : Cond.methodLink own idx yX1_takesWord ∈ Gw) (hF : 7 ≤ F) (hL : 149 ≤ L) : SC own F L (idx, false, 2, sp_X1_takesWord) := SC_V spF_mono c_X1_takesWord okd_3 (fun as hp K h => by obtain ⟨x, hx, -⟩ := spF_e h; exact ⟨_, _, d_T_X_e hx⟩) h1 gw_629 gw_12 gw_73 gw_630 (by decide +kernel) hF hL
def sp_X1_takeNumber : SP := spF d_T_I (fun _ hp => ∃ n h, TXS n h (hp.1 38) (hp.1 37)) (fun x hp v hq => (¬ (hp.1 37 3 = nI 2 ∧ hp.1 37 6 ≤ x) → v = some (vI (-1)) ∧ hq = uI hp 37 2 (hp.1 37 4)) ∧ ((hp.1 37 3 = nI 2 ∧ hp.1 37 6 ≤ x) → v = some (vI (hp.1 37 6)) ∧ ∃ o, hq = rI hp 37 o ∧ sm3 (hp.1 37) o ∧ TKN (hp.1 38) (hp.1 37 1).toNatClampNeg (hp.1 37 5).toNatClampNeg o))
def E_X1_takeNumber : EN := [(34, false, 1, sp_X1_nextToken)]
set_option maxRecDepth 100000 in
set_option maxHeartbeats 4000000 in
theorem c_X1_takeNumber : Ctr M_X1_takeNumber sp_X1_takeNumber := by
  refine ctr_of (own := RX1) M_X1_takeNumber sp_X1_takeNumber (P := P_X1_takeNumber) (K := K_X1) (E := E_X1_takeNumber) (by decide) rfl pk_X1_takeNumber K_X1_ok (List.forall_mem_cons.mpr ⟨sc_X1_nextToken gw_611 (by decide) (by decide), fun _ h => absurd h List.not_mem_nil⟩) (fun as hp Q h => by obtain ⟨x, hx, -⟩ := spF_e h; rw [d_T_I_e hx]; exact Nat.le_of_ble_eq_true rfl) ?_
  intro Q G hQi hG as hp h
  obtain ⟨x, hx, hpre, hQ⟩ := spF_e h
  rw [d_T_I_e hx]
  clear h hx
  obtain ⟨n, h, ht⟩ := hpre
  obtain ⟨s, e, hse, hen, e4, e5⟩ := ht.pos
  have hn := ht.1
  refine run hG [] 60 ?_
  refine And.intro (fun h1 => ?_) (fun h1 => ?_)
  · have h1 : ¬ hp.1 37 3 = nI 2 := h1
    exact hQ _ _ ⟨fun _ => ⟨rfl, rfl⟩, fun h => absurd h.1 h1⟩
  · have h1 : hp.1 37 3 = nI 2 := h1
    refine And.intro (fun h2 => ?_) (fun h2 => ?_)
    · have h2 : hp.1 37 6 ≤ x := h2
      refine And.intro ⟨n, e, hn, hen, ht.2.2.1, e5⟩ ?_
      rintro v hq ⟨rfl, o, rfl, h3, h4⟩
      exact hQ _ _ ⟨fun h => absurd ⟨h1, h2⟩ h, fun _ => ⟨rfl, o, rfl, h3, h4⟩⟩
    · have h2 : ¬ hp.1 37 6 ≤ x := h2
      exact hQ _ _ ⟨fun _ => ⟨rfl, rfl⟩, fun h => absurd h.2 h2⟩
theorem sc_X1_takeNumber {own : String} {F L idx : Nat} (h1 : Cond.methodLink own idx yX1_takeNumber ∈ Gw) (hF : 3 ≤ F) (hL : 63 ≤ L) : SC own F L (idx, false, 2, sp_X1_takeNumber) := SC_V spF_mono c_X1_takeNumber okd_3 (fun as hp K h => by obtain ⟨x, hx, -⟩ := spF_e h; exact ⟨_, _, d_T_I_e hx⟩) h1 gw_689 gw_15 gw_73 gw_690 (by decide +kernel) hF hL
