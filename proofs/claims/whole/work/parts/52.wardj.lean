/-! a ward taken over -/
def ag (f g : Nat → Int32) : Prop := g 6 = f 6 ∧ ∀ k, k < 144 + 5 * mN f → g k = f k
def sp_X2_takeFrom : SP := spH d_K_K (fun x hp => x.1 ≠ x.2 ∧ (hp.1 x.2 4 = 0 ∨ hp.1 x.2 4 = 1)) (fun _ _ => none) (fun x hp => uI (uI (uI (uI (uI hp x.1 0 (hp.1 x.2 0)) x.1 1 (hp.1 x.2 1)) x.1 2 (hp.1 x.2 2)) x.1 3 (hp.1 x.2 3)) x.1 4 (hp.1 x.2 4))
def E_X2_takeFrom : EN := []
set_option maxRecDepth 100000 in
set_option maxHeartbeats 4000000 in
theorem c_X2_takeFrom : Ctr M_X2_takeFrom sp_X2_takeFrom := by
  refine ctr_of (own := RX2) M_X2_takeFrom sp_X2_takeFrom (P := P_X2_takeFrom) (K := K_X2) (E := E_X2_takeFrom) (by decide) rfl pk_X2_takeFrom K_X2_ok (fun _ h => absurd h List.not_mem_nil) (fun as hp Q h => by obtain ⟨x, hx, -⟩ := spH_e h; rw [d_K_K_e hx]; exact Nat.le_of_ble_eq_true rfl) ?_
  intro Q G hQi hG as hp h
  obtain ⟨x, hx, hpre, hQ⟩ := spH_e h
  rw [d_K_K_e hx]
  clear h hx
  obtain ⟨a, b⟩ := x
  try dsimp only at hpre hQ ⊢
  have hab : b ≠ a := fun h => hpre.1 h.symm
  have h4 : hp.1 b 4 = 0 ∨ hp.1 b 4 = 1 := hpre.2
  have er : ∀ (H : HP) k v, (uI H a k v).1 b = H.1 b := fun H k v => uI_row _ _ _ hab
  refine run hG [] 60 ?_
  refine And.intro ?_ ?_
  · show (uI (uI (uI (uI hp a 0 _) a 1 _) a 2 _) a 3 _).1 b 4 = 0 ∨ (uI (uI (uI (uI hp a 0 _) a 1 _) a 2 _) a 3 _).1 b 4 = 1
    rw [er, er, er, er]
    exact h4
  · refine q_n hQ ?_
    show uI (uI (uI (uI (uI hp a 0 (hp.1 b 0)) a 1 ((uI hp a 0 (hp.1 b 0)).1 b 1)) a 2 _) a 3 _) a 4 _ = _
    simp only [er]
theorem sc_X2_takeFrom {own : String} {F L idx : Nat} (h1 : Cond.methodLink own idx yX2_takeFrom ∈ Gw) (hF : 1 ≤ F) (hL : 21 ≤ L) : SC own F L (idx, false, 2, sp_X2_takeFrom) := SC_V spH_mono c_X2_takeFrom okd_2 (fun as hp K h => by obtain ⟨x, hx, -⟩ := spH_e h; exact ⟨_, _, d_K_K_e hx⟩) h1 gw_505 gw_506 gw_72 gw_507 (by decide +kernel) hF hL
def sp_X3_takeFrom : SP := spF d_W_W (fun x hp => (x.1 + 12 ≤ x.2 ∨ x.2 + 12 ≤ x.1) ∧ WF (rw_ hp x.2)) (fun x hp v hq => v = none ∧ ag (rw_ hp x.2) (rw_ hq x.1) ∧ frm x.1 hp hq ∧ hq.2 x.1 0 = hp.2 x.2 0 ∧ hq.1 x.1 2 = hp.1 x.2 2 ∧ hq.1 x.1 3 = hp.1 x.2 3)
def E_X3_takeFrom : EN := [(63, true, 5, sp_acopy), (69, false, 2, sp_X2_takeFrom)]
set_option maxRecDepth 100000 in
set_option maxHeartbeats 4000000 in
theorem c_X3_takeFrom : Ctr M_X3_takeFrom sp_X3_takeFrom := by
  refine ctr_of (own := RX3) M_X3_takeFrom sp_X3_takeFrom (P := P_X3_takeFrom) (K := K_X3) (E := E_X3_takeFrom) (by decide) rfl pk_X3_takeFrom K_X3_ok (List.forall_mem_cons.mpr ⟨SC_acopy (gw_at 501 (by decide +kernel) rfl) (gw_at 503 (by decide +kernel) rfl) (gw_at 502 (by decide +kernel) rfl) (gw_at 78 (by decide +kernel) rfl) (by decide) (by decide), List.forall_mem_cons.mpr ⟨sc_X2_takeFrom gw_504 (by decide) (by decide), fun _ h => absurd h List.not_mem_nil⟩⟩) (fun as hp Q h => by obtain ⟨x, hx, -⟩ := spF_e h; rw [d_W_W_e hx]; exact Nat.le_of_ble_eq_true rfl) ?_
  intro Q G hQi hG as hp h
  obtain ⟨x, hx, hpre, hQ⟩ := spF_e h
  rw [d_W_W_e hx]
  clear h hx
  obtain ⟨w, s⟩ := x
  try dsimp only at hpre hQ ⊢
  obtain ⟨hws, hwf⟩ := hpre
  have hws : w + 12 ≤ s ∨ s + 12 ≤ w := hws
  have hwf : WF (rw_ hp s) := hwf
  have hm := many_wc hwf.many
  have hQ : ∀ hq, ag (rw_ hp s) (rw_ hq w) → frm w hp hq → (hq.2 w 0 = hp.2 s 0 ∧ hq.1 w 2 = hp.1 s 2 ∧ hq.1 w 3 = hp.1 s 3) → Q none hq := fun hq a b c => hQ _ _ ⟨rfl, a, b, c⟩
  have src : ∀ H : HP, frm w hp H → ∀ j, j < 12 → H.1 (s + j) = hp.1 (s + j) ∧ H.2 (s + j) = hp.2 (s + j) := fun H h j hj => h (s + j) (by omega)
  have src0 : ∀ H : HP, frm w hp H → H.1 s = hp.1 s ∧ H.2 s = hp.2 s := fun H h => src H h 0 (by omega)
  have haw : ∀ i, i < mN (rw_ hp s) → hp.1 (s + 4 + i) 4 = 0 ∨ hp.1 (s + 4 + i) 4 = 1 := fun i hi => by
    have e := rw_wk hp s (i := i) (j := 4) (by omega) (by omega)
    have h := (hwf.wk (w := i) hi).2.2.2.2
    rw [e] at h
    obtain ⟨a, ha, ea⟩ := vp_in_of h (by omega)
    rcases (show a = 0 ∨ a = 1 by omega) with h0 | h0 <;> subst h0
    · exact Or.inl ea
    · exact Or.inr ea
  have hmn := hm.1
  generalize hn : mN (rw_ hp s) = n at hm haw hmn
  -- the walkers
  have lp := for_up (P := fun k => ∀ H : HP, frm w hp H → H.2 w 0 = hp.2 s 0 → (∀ j, j < 25 → H.1 (w + 1) j = hp.1 (s + 1) j) → (∀ j, j < 12 → H.1 (w + 2) j = hp.1 (s + 2) j) → (∀ j, j < 13 → j = 2 ∨ j = 3 ∨ j = 4 ∨ j = 5 ∨ j = 6 ∨ j = 7 ∨ j = 9 ∨ j = 10 ∨ j = 12 → H.1 w j = hp.1 s j) → (∀ i j, i < k → j < 5 → H.1 (w + 4 + i) j = hp.1 (s + 4 + i) j) → G 112 [(2, vI (nI k)), (0, vR 1 w), (1, vR 1 s)] [] H) n (by
    intro H hfr f0 f1 f2 f3 f4
    have e12 : H.1 w 12 = nI n := by rw [f3 12 (by omega) (by omega), hm.2]
    refine run hG [112] 60 ?_
    refine And.intro (fun h1 => ?_) (fun h1 => absurd (show H.1 w 12 ≤ nI n by rw [e12]; exact nI_le (Nat.le_refl _) (by omega)) h1)
    refine hQ H ⟨by rw [rw_6, rw_6, f3 12 (by omega) (by omega)], fun k hk => ?_⟩ hfr ⟨f0, f3 2 (by omega) (by omega), f3 3 (by omega) (by omega)⟩
    rw [hn] at hk
    by_cases a0 : k < 7
    · rw [rw_lo _ _ a0, rw_lo _ _ a0]
      rcases (show k = 0 ∨ k = 1 ∨ k = 2 ∨ k = 3 ∨ k = 4 ∨ k = 5 ∨ k = 6 by omega) with e | e | e | e | e | e | e <;> subst e <;> exact f3 _ (by decide) (by decide)
    by_cases a1 : k < 19
    · rw [show k = 7 + (k - 7) by omega, rw_rd _ _ (by omega), rw_rd _ _ (by omega)]
      exact f2 _ (by omega)
    by_cases a2 : k < 44
    · rw [show k = 19 + (k - 19) by omega, rw_ht _ _ (by omega), rw_ht _ _ (by omega)]
      exact f1 _ (by omega)
    by_cases a3 : k < 69
    · rw [show k = 44 + (k - 44) by omega, rw_lm _ _ (by omega), rw_lm _ _ (by omega), f3 2 (by omega) (by omega)]
    by_cases a4 : k < 94
    · rw [show k = 69 + (k - 69) by omega, rw_rv _ _ (by omega), rw_rv _ _ (by omega), f3 3 (by omega) (by omega)]
    by_cases a5 : k < 119
    · rw [show k = 94 + (k - 94) by omega, rw_d1 _ _ (by omega), rw_d1 _ _ (by omega), f0]
    by_cases a6 : k < 144
    · rw [show k = 119 + (k - 119) by omega, rw_d2 _ _ (by omega), rw_d2 _ _ (by omega), f0]
    · rw [show k = 144 + 5 * ((k - 144) / 5) + (k - 144) % 5 by omega, rw_wk _ _ (by omega) (by omega), rw_wk _ _ (by omega) (by omega)]
      exact f4 _ _ (by omega) (by omega)) (by
    intro k hk ih H hfr f0 f1 f2 f3 f4
    have e12 : H.1 w 12 = nI n := by rw [f3 12 (by omega) (by omega), hm.2]
    have ek : (nI k).toNatClampNeg = k := nI_clamp (by omega)
    have eo : w + 3 + 1 + (nI k).toNatClampNeg = w + 4 + k := by rw [ek]
    have es : s + 3 + 1 + (nI k).toNatClampNeg = s + 4 + k := by rw [ek]
    have eS : H.1 (s + 4 + k) = hp.1 (s + 4 + k) := (hfr (s + 4 + k) (by omega)).1
    refine run hG [112, 135] 60 ?_
    refine And.intro (fun h1 => ?_) (fun h1 => ?_)
    · have h1 : H.1 w 12 ≤ nI k := h1
      rw [e12] at h1
      exact absurd h1 (nI_ge hk (by omega))
    refine And.intro (vp_in_nI (by omega) (by omega)) ?_
    refine And.intro (vp_in_nI (by omega) (by omega)) ?_
    refine And.intro ⟨show w + 3 + 1 + (nI k).toNatClampNeg ≠ s + 3 + 1 + (nI k).toNatClampNeg by omega, show H.1 (s + 3 + 1 + (nI k).toNatClampNeg) 4 = 0 ∨ H.1 (s + 3 + 1 + (nI k).toNatClampNeg) 4 = 1 by rw [es, eS]; exact haw k hk⟩ ?_
    refine cl_lv hG [(2, vI (nI k)), (0, vR 1 w), (1, vR 1 s)] ⟨rfl, rfl, rfl, trivial⟩ ?_
    show G 135 _ [] (uI (uI (uI (uI (uI H (w + 3 + 1 + (nI k).toNatClampNeg) 0 (H.1 (s + 3 + 1 + (nI k).toNatClampNeg) 0)) (w + 3 + 1 + (nI k).toNatClampNeg) 1 (H.1 (s + 3 + 1 + (nI k).toNatClampNeg) 1)) (w + 3 + 1 + (nI k).toNatClampNeg) 2 (H.1 (s + 3 + 1 + (nI k).toNatClampNeg) 2)) (w + 3 + 1 + (nI k).toNatClampNeg) 3 (H.1 (s + 3 + 1 + (nI k).toNatClampNeg) 3)) (w + 3 + 1 + (nI k).toNatClampNeg) 4 (H.1 (s + 3 + 1 + (nI k).toNatClampNeg) 4))
    rw [eo, es, eS]
    generalize hH1 : uI (uI (uI (uI (uI H (w + 4 + k) 0 (hp.1 (s + 4 + k) 0)) (w + 4 + k) 1 (hp.1 (s + 4 + k) 1)) (w + 4 + k) 2 (hp.1 (s + 4 + k) 2)) (w + 4 + k) 3 (hp.1 (s + 4 + k) 3)) (w + 4 + k) 4 (hp.1 (s + 4 + k) 4) = H1
    have hoth : ∀ c, c ≠ w + 4 + k → H1.1 c = H.1 c := fun c hc => by rw [← hH1, uI_row _ _ _ hc, uI_row _ _ _ hc, uI_row _ _ _ hc, uI_row _ _ _ hc, uI_row _ _ _ hc]
    have hL : H1.2 = H.2 := by rw [← hH1]; rfl
    have hown : ∀ j, j < 5 → H1.1 (w + 4 + k) j = hp.1 (s + 4 + k) j := fun j hj => by
      rw [← hH1]
      rcases (show j = 0 ∨ j = 1 ∨ j = 2 ∨ j = 3 ∨ j = 4 by omega) with e | e | e | e | e <;> subst e <;> simp [uI_at]
    have hfr1 : frm w hp H1 := by
      rw [← hH1]
      exact frm_u (frm_u (frm_u (frm_u (frm_u hfr (by omega) (by omega)) (by omega) (by omega)) (by omega) (by omega)) (by omega) (by omega)) (by omega) (by omega)
    have k9 := ih H1 hfr1 (by rw [hL]; exact f0) (fun j hj => by rw [hoth _ (by omega)]; exact f1 j hj) (fun j hj => by rw [hoth _ (by omega)]; exact f2 j hj) (fun j hj h => by rw [hoth _ (by omega)]; exact f3 j hj h) (fun i j hi hj => by
      by_cases hik : i = k
      · subst hik
        exact hown j hj
      · rw [hoth _ (by omega)]
        exact f4 i j (by omega) hj)
    refine run hG [112] 60 ?_
    refine cl_lv hG [(2, vI (nI k + nI 1)), (0, vR 1 w), (1, vR 1 s)] ⟨rfl, rfl, rfl, trivial⟩ ?_
    rw [nI_s]
    exact k9) 0 (by omega)
  have hne : s ≠ w := by omega
  have er : ∀ (H : HP) k v, (uI H w k v).1 s = H.1 s := fun H k v => uI_row _ _ _ hne
  have er1 : ∀ (H : HP) k v c, c ≠ w → (uI H w k v).1 c = H.1 c := fun H k v c hc => uI_row _ _ _ hc
  have k86 : ∀ H : HP, frm w hp H → H.2 w 0 = hp.2 s 0 → (∀ j, j < 25 → H.1 (w + 1) j = hp.1 (s + 1) j) → (∀ j, j < 12 → H.1 (w + 2) j = hp.1 (s + 2) j) → (∀ j, j < 13 → j = 2 ∨ j = 3 ∨ j = 4 ∨ j = 5 ∨ j = 6 ∨ j = 7 → H.1 w j = hp.1 s j) → G 86 [(0, vR 1 w), (1, vR 1 s)] [] H := by
    intro H hfr f0 f1 f2 f3
    have eS := (src0 H hfr).1
    refine run hG [112] 60 ?_
    refine cl_lv hG [(2, vI (nI 0)), (0, vR 1 w), (1, vR 1 s)] ⟨rfl, rfl, rfl, trivial⟩ ?_
    show G 112 _ [] (uI (uI (uI H w 9 (H.1 s 9)) w 10 ((uI H w 9 (H.1 s 9)).1 s 10)) w 12 ((uI (uI H w 9 (H.1 s 9)) w 10 ((uI H w 9 (H.1 s 9)).1 s 10)).1 s 12))
    rw [er, er, er, eS]
    refine lp _ (frm_u (frm_u (frm_u hfr (by omega) (by omega)) (by omega) (by omega)) (by omega) (by omega)) f0 (fun j hj => by rw [er1 _ _ _ _ (by omega), er1 _ _ _ _ (by omega), er1 _ _ _ _ (by omega)]; exact f1 j hj) (fun j hj => by rw [er1 _ _ _ _ (by omega), er1 _ _ _ _ (by omega), er1 _ _ _ _ (by omega)]; exact f2 j hj) (fun j hj h => ?_) (fun i j hi => absurd hi (by omega))
    rw [uI_at, uI_at, uI_at]
    by_cases h12 : j = 12
    · subst h12
      rw [if_pos ⟨rfl, rfl⟩]
    rw [if_neg (fun h => h12 h.2)]
    by_cases h10 : j = 10
    · subst h10
      rw [if_pos ⟨rfl, rfl⟩]
    rw [if_neg (fun h => h10 h.2)]
    by_cases h9 : j = 9
    · subst h9
      rw [if_pos ⟨rfl, rfl⟩]
    rw [if_neg (fun h => h9 h.2)]
    exact f3 j hj (by omega)
  have k71 : ∀ H : HP, frm w hp H → H.2 w 0 = hp.2 s 0 → (∀ j, j < 25 → H.1 (w + 1) j = hp.1 (s + 1) j) → (∀ j, j < 13 → j = 2 ∨ j = 3 ∨ j = 4 ∨ j = 5 ∨ j = 6 ∨ j = 7 → H.1 w j = hp.1 s j) → G 71 [(0, vR 1 w), (1, vR 1 s)] [] H := by
    intro H hfr f0 f1 f3
    have eS := (hfr (s + 2) (by omega)).1
    refine run hG [86] 60 ?_
    refine Or.inl (And.intro ⟨by decide, by decide, by decide, by decide, by decide⟩ ?_)
    refine cl_lv hG [(0, vR 1 w), (1, vR 1 s)] ⟨rfl, rfl, trivial⟩ ?_
    show G 86 _ [] (rI H (w + 2) (va_cpy (H.1 (s + 2)) (H.1 (w + 2)) 0 0 12))
    refine k86 _ (fun c hc => ⟨by rw [rI_ne _ _ (by omega)]; exact (hfr c hc).1, (hfr c hc).2⟩) f0 (fun j hj => by rw [rI_ne _ _ (by omega)]; exact f1 j hj) (fun j hj => ?_) (fun j hj h => by rw [rI_ne _ _ (by omega)]; exact f3 j hj h)
    rw [rI_eq]
    unfold va_cpy
    rw [if_pos (by omega), eS, show 0 + (j - 0) = j by omega]
  have k23 : ∀ H : HP, frm w hp H → H.2 w 0 = hp.2 s 0 → (∀ j, j < 25 → H.1 (w + 1) j = hp.1 (s + 1) j) → G 23 [(0, vR 1 w), (1, vR 1 s)] [] H := by
    intro H hfr f0 f1
    have eS := (src0 H hfr).1
    have puts : ∀ H2 : HP, frm w hp H2 → H2.2 w 0 = hp.2 s 0 → (∀ j, j < 25 → H2.1 (w + 1) j = hp.1 (s + 1) j) → ∀ k, frm w hp (uI H2 w k (H2.1 s k)) ∧ (uI H2 w k (H2.1 s k)).2 w 0 = hp.2 s 0 ∧ (∀ j, j < 25 → (uI H2 w k (H2.1 s k)).1 (w + 1) j = hp.1 (s + 1) j) ∧ (uI H2 w k (H2.1 s k)).1 w k = hp.1 s k ∧ (∀ j, H2.1 w j = hp.1 s j → (uI H2 w k (H2.1 s k)).1 w j = hp.1 s j) := by
      intro H2 h1 h2 h3 k
      have eS2 := (src0 H2 h1).1
      refine ⟨frm_u h1 (by omega) (by omega), h2, fun j hj => by rw [er1 _ _ _ _ (by omega)]; exact h3 j hj, by rw [uI_same, eS2], fun j hj => ?_⟩
      rw [uI_at, eS2]
      split
      · next h => rw [h.2]
      · exact hj
    have p2 := puts H hfr f0 f1 2
    have p3 := puts _ p2.1 p2.2.1 p2.2.2.1 3
    have p4 := puts _ p3.1 p3.2.1 p3.2.2.1 4
    have p5 := puts _ p4.1 p4.2.1 p4.2.2.1 5
    have p6 := puts _ p5.1 p5.2.1 p5.2.2.1 6
    have p7 := puts _ p6.1 p6.2.1 p6.2.2.1 7
    refine run hG [71] 60 ?_
    refine cl_use hG (k71 _ p7.1 p7.2.1 p7.2.2.1 (fun j hj h => ?_)) ⟨rfl, rfl, trivial⟩
    rcases h with h | h | h | h | h | h <;> subst h
    · exact p7.2.2.2.2 _ (p6.2.2.2.2 _ (p5.2.2.2.2 _ (p4.2.2.2.2 _ (p3.2.2.2.2 _ p2.2.2.2.1))))
    · exact p7.2.2.2.2 _ (p6.2.2.2.2 _ (p5.2.2.2.2 _ (p4.2.2.2.2 _ p3.2.2.2.1)))
    · exact p7.2.2.2.2 _ (p6.2.2.2.2 _ (p5.2.2.2.2 _ p4.2.2.2.1))
    · exact p7.2.2.2.2 _ (p6.2.2.2.2 _ p5.2.2.2.1)
    · exact p7.2.2.2.2 _ p6.2.2.2.1
    · exact p7.2.2.2.1
  have k8 : ∀ H : HP, frm w hp H → H.2 w 0 = hp.2 s 0 → G 8 [(0, vR 1 w), (1, vR 1 s)] [] H := by
    intro H hfr f0
    have eS := (hfr (s + 1) (by omega)).1
    refine run hG [23] 60 ?_
    refine Or.inl (And.intro ⟨by decide, by decide, by decide, by decide, by decide⟩ ?_)
    refine cl_lv hG [(0, vR 1 w), (1, vR 1 s)] ⟨rfl, rfl, trivial⟩ ?_
    show G 23 _ [] (rI H (w + 1) (va_cpy (H.1 (s + 1)) (H.1 (w + 1)) 0 0 25))
    refine k23 _ (fun c hc => ⟨by rw [rI_ne _ _ (by omega)]; exact (hfr c hc).1, (hfr c hc).2⟩) f0 (fun j hj => ?_)
    rw [rI_eq]
    unfold va_cpy
    rw [if_pos (by omega), eS, show 0 + (j - 0) = j by omega]
  refine run hG [8] 60 ?_
  refine cl_lv hG [(0, vR 1 w), (1, vR 1 s)] ⟨rfl, rfl, trivial⟩ ?_
  show G 8 _ [] (uL hp w 0 (hp.2 s 0))
  refine k8 _ (frm_uL (frm_r w hp) (by omega) (by omega)) ?_
  rw [uL_r, rL_eq, upL_at, if_pos rfl]
theorem sc_X3_takeFrom {own : String} {F L idx : Nat} (h1 : Cond.methodLink own idx yX3_takeFrom ∈ Gw) (hF : 2 ≤ F) (hL : 48 ≤ L) : SC own F L (idx, false, 2, sp_X3_takeFrom) := SC_V spF_mono c_X3_takeFrom okd_1 (fun as hp K h => by obtain ⟨x, hx, -⟩ := spF_e h; exact ⟨_, _, d_W_W_e hx⟩) h1 gw_498 gw_499 gw_70 gw_500 (by decide +kernel) hF hL
