/-- what reading the whole text leaves -/
def td3 (w : Nat) (hp : HP) (r : Sum Nat (Nat × (Nat → Int32))) (v : Option AV) (hq : HP) : Prop := FR w hp hq ∧ match r with
  | .inl s => s ≤ 120 ∧ v = some (vI (nI 0)) ∧ hq.1 37 2 = nI s
  | .inr p => v = some (vI (nI p.1)) ∧ hq.1 37 2 = -1 ∧ rw_ hq w = p.2
theorem WS.many {f : Nat → Int32} (h : WS f) : many f := h.1.many
def sp_X1_readItems : SP := spF d_T_W (fun x hp => x + 12 ≤ 37 ∧ (∃ n, n ≤ 120 ∧ hp.1 37 1 = nI n) ∧ WS (rw_ hp x)) (fun x hp v hq => td3 x hp (pWard (hp.1 38) (nN hp) (rw_ hp x)) v hq)
def E_X1_readItems : EN := [(34, false, 1, sp_X1_nextToken), (37, false, 2, sp_X1_readItem)]
set_option maxRecDepth 100000 in
set_option maxHeartbeats 4000000 in
theorem c_X1_readItems : Ctr M_X1_readItems sp_X1_readItems := by
  refine ctr_of (own := RX1) M_X1_readItems sp_X1_readItems (P := P_X1_readItems) (K := K_X1) (E := E_X1_readItems) (by decide) rfl pk_X1_readItems K_X1_ok (List.forall_mem_cons.mpr ⟨sc_X1_nextToken gw_611 (by decide) (by decide), List.forall_mem_cons.mpr ⟨sc_X1_readItem gw_622 (by decide) (by decide), fun _ h => absurd h List.not_mem_nil⟩⟩) (fun as hp Q h => by obtain ⟨x, hx, -⟩ := spF_e h; rw [d_T_W_e hx]; exact Nat.le_of_ble_eq_true rfl) ?_
  intro Q G hQi hG as hp h
  obtain ⟨x, hx, hpre, hQ⟩ := spF_e h
  rw [d_T_W_e hx]
  clear h hx
  obtain ⟨hw, ⟨n, hn, e1⟩, hS⟩ := hpre
  have hw : x + 12 ≤ 37 := hw
  have hS : WS (rw_ hp x) := hS
  have enN : nN hp = n := by unfold nN; rw [e1, nI_clamp (by omega)]
  rw [enN] at hQ
  unfold pWard at hQ
  generalize hR : pIts (hp.1 38) n (n + 1) 0 0 (rw_ hp x) = R at hQ
  have key : ∀ m c h H g, FR x hp H → H.1 37 2 = -1 → TXS n h (hp.1 38) (H.1 37) → rw_ H x = g → WS g → 3 * c ≤ h → n - h < m → pIts (hp.1 38) n m c h g = R → G 16 [(2, vI (nI (c + 1))), (1, vR 1 x), (0, vR 3 37)] [] H := by
    intro m
    induction m with
    | zero => intro c h H g _ _ _ _ _ _ hm; omega
    | succ m ih =>
      intro c h H g hfr h2 ht hg hWS h3c hm hr
      have hB := hfr.b hw
      have hh := ht.2.1
      have hbl := bk_le (hp.1 38) hh
      have htH : TXS n h (H.1 38) (H.1 37) := by rw [hB]; exact ht
      have hT := TX.of hw htH h2
      have hok := pIt_ok (t := hp.1 38) hWS hbl.2
      unfold pIts at hr
      refine run hG [27] 60 ?_
      refine And.intro (fun h => absurd (show nI 120 < nI (c + 1) from h) (by rw [nI_ltI (by omega) (by omega)]; omega)) (fun _ => ?_)
      refine And.intro ⟨hT.1, show many (rw_ H x) by rw [hg]; exact hWS.many⟩ ?_
      rintro v hq ⟨rfl, hP⟩
      dsimp only at hP
      rw [hT.2.1, hT.2.2, hB, hg] at hP
      have hP := td2_t hw hfr hP
      obtain ⟨hfq, hP⟩ := hP
      generalize pIt (hp.1 38) n (bk (hp.1 38) n h) g = r at hr hok hP
      -- a fault where the next token begins
      have stop : ∀ k, hq.1 37 2 = -1 → TXS n k (hp.1 38) (hq.1 37) → bk (hp.1 38) n k < n → ¬ hp.1 38 (bk (hp.1 38) n k) = nI 59 → R = .inl (bk (hp.1 38) n k) → G 27 [(2, vI (nI (c + 1))), (1, vR 1 x), (0, vR 3 37)] [] hq := by
        intro k hf2 htk hk h59 hRk
        obtain ⟨j, hj, hj0, hj3, e3⟩ : ∃ j, j < 10 ∧ j ≠ 0 ∧ j ≠ 3 ∧ hq.1 37 3 = nI j := by
          obtain ⟨_, _, _, t4, t0, t1, t2, t3⟩ := htk
          cases hl : lrB (hp.1 38 (bk (hp.1 38) n k)) with
          | true => exact ⟨1, by omega, by omega, by omega, (t1 hk hl).1⟩
          | false =>
            cases hd : dgB (hp.1 38 (bk (hp.1 38) n k)) with
            | true => exact ⟨2, by omega, by omega, by omega, (t2 hk hl hd).1⟩
            | false =>
              have t := (t3 hk hl hd).1
              rw [if_neg h59] at t
              exact ⟨4, by omega, by omega, by omega, t⟩
        refine run hG [] 60 ?_
        refine And.intro (fun _ => ?_) (fun h => absurd (show hq.1 37 2 < 0 by rw [hf2]; decide) h)
        refine And.intro (fun _ => ?_) (fun h => ?_)
        case refine_2 =>
          have h : hq.1 37 3 = nI 0 := h
          rw [e3, nI_eq (by omega) (by omega)] at h
          omega
        refine And.intro (fun h => ?_) (fun _ => ?_)
        · have h : hq.1 37 3 = nI 3 := h
          rw [e3, nI_eq (by omega) (by omega)] at h
          omega
        refine hQ _ _ ⟨FR_t hfq (X37.fr ⟨fun c hc => uI_row _ _ _ hc, rfl, uI_oth _ _ _ (by omega)⟩ hw), ?_⟩
        rw [hRk]
        refine ⟨by omega, rfl, ?_⟩
        show (uI hq 37 2 (hq.1 37 4)).1 37 2 = _
        rw [uI_same, htk.s4]
      cases r with
      | inl s =>
        dsimp only at hr hP
        have hsn : s ≤ n := hok
        rcases hP with hP | ⟨hP, k, hk1, hk2, hk3, hk4⟩
        · refine run hG [] 60 ?_
          refine And.intro (fun h => ?_) (fun _ => ?_)
          · have h : hq.1 37 2 < 0 := h
            rw [hP] at h
            exact absurd h (Int32.not_lt.mpr (nI_nn (by omega)))
          · refine hQ _ _ ⟨hfq, ?_⟩
            rw [← hr]
            exact ⟨by omega, rfl, hP⟩
        · rw [enN] at hk1 hk2 hk3
          refine cl_use hG (stop k hP hk1 (by rw [hk2]; exact hk3) ?_ (by rw [hk2]; exact hr.symm)) ⟨rfl, rfl, rfl, trivial⟩
          rw [hk2]
          intro e
          rw [e] at hk4
          exact absurd hk4 (by decide)
      | inr p =>
        dsimp only at hr hP
        rw [enN] at hP
        obtain ⟨hf2, htp, hrow⟩ := hP
        obtain ⟨hp1, hp2, hp3⟩ := hok
        have hbp := bk_le (hp.1 38) hp2
        by_cases h59 : byt (hp.1 38) n (bk (hp.1 38) n p.1) = nI 59
        · rw [if_pos h59] at hr
          have hlt : bk (hp.1 38) n p.1 < n := by
            rcases Nat.lt_or_ge (bk (hp.1 38) n p.1) n with h | h
            · exact h
            · rw [show byt (hp.1 38) n (bk (hp.1 38) n p.1) = -1 from if_pos h] at h59
              exact absurd h59 (by decide)
          rw [byt_lt hlt] at h59
          have hl : lrB (hp.1 38 (bk (hp.1 38) n p.1)) = false := by rw [h59]; decide
          have hd : dgB (hp.1 38 (bk (hp.1 38) n p.1)) = false := by rw [h59]; decide
          have t3 := htp.2.2.2.2.2.2.2 hlt hl hd
          rw [if_pos h59] at t3
          have htq : TXS n p.1 (hq.1 38) (hq.1 37) := by rw [hfq.b hw]; exact htp
          refine run hG [67] 60 ?_
          refine And.intro (fun _ => ?_) (fun h => absurd (show hq.1 37 2 < 0 by rw [hf2]; decide) h)
          refine And.intro (fun _ => ?_) (fun h => ?_)
          case refine_2 =>
            have h : hq.1 37 3 = nI 0 := h
            rw [t3.1] at h
            exact absurd h (by decide)
          refine And.intro (fun _ => ?_) (fun h => absurd (show hq.1 37 3 = nI 3 from t3.1) h)
          refine And.intro ⟨n, bk (hp.1 38) n p.1 + 1, hn, hlt, htq.2.2.1, t3.2⟩ ?_
          rintro v hr2 ⟨rfl, hP2⟩
          obtain ⟨hX, f3, ht3⟩ := nx_tok htq t3.2 hlt hP2
          rw [hfq.b hw] at ht3
          refine run hG [16] 60 ?_
          refine cl_lv hG [(2, vI (nI (c + 1) + nI 1)), (1, vR 1 x), (0, vR 3 37)] ⟨rfl, rfl, rfl, trivial⟩ ?_
          rw [nI_s]
          exact ih (c + 1) _ hr2 p.2 (FR_t hfq (hX.fr hw)) (f3.trans hf2) ht3 (by rw [hX.row hw]; exact hrow) hp3 (by omega) (by omega) hr
        · rw [if_neg h59] at hr
          by_cases hlt : bk (hp.1 38) n p.1 < n
          · rw [if_pos hlt] at hr
            rw [byt_lt hlt] at h59
            exact cl_use hG (stop p.1 hf2 htp hlt h59 hr.symm) ⟨rfl, rfl, rfl, trivial⟩
          · rw [if_neg hlt] at hr
            have t0 := htp.2.2.2.2.1 (by omega)
            refine run hG [] 60 ?_
            refine And.intro (fun _ => ?_) (fun h => absurd (show hq.1 37 2 < 0 by rw [hf2]; decide) h)
            refine And.intro (fun h => absurd (show hq.1 37 3 = nI 0 from t0.1) h) (fun _ => ?_)
            refine hQ _ _ ⟨hfq, ?_⟩
            rw [← hr]
            exact ⟨rfl, hf2, hrow⟩
  have hX0 : X37 hp (uI (uI hp 37 2 (-1)) 37 5 (nI 0)) := ⟨fun c hc => by rw [uI_row _ _ _ hc, uI_row _ _ _ hc], rfl, by rw [uI_oth _ _ _ (by omega), uI_oth _ _ _ (by omega)]⟩
  refine run hG [14] 60 ?_
  refine And.intro ⟨n, 0, hn, by omega, hX0.2.2.trans e1, uI_same _ _ _ _⟩ ?_
  rintro v hq ⟨rfl, o, e2, e3, e4⟩
  have e2 : hq = rI (uI (uI hp 37 2 (-1)) 37 5 (nI 0)) 37 o := e2
  have e3 : sm3 ((uI (uI hp 37 2 (-1)) 37 5 (nI 0)).1 37) o := e3
  have e4 : TKN ((uI (uI hp 37 2 (-1)) 37 5 (nI 0)).1 38) ((uI (uI hp 37 2 (-1)) 37 5 (nI 0)).1 37 1).toNatClampNeg ((uI (uI hp 37 2 (-1)) 37 5 (nI 0)).1 37 5).toNatClampNeg o := e4
  rw [hX0.b, hX0.2.2, e1, nI_clamp (by omega), uI_same] at e4
  have o1 : o 1 = nI n := by rw [e3.1, hX0.2.2, e1]
  have o2 : o 2 = -1 := by rw [e3.2, uI_oth _ _ _ (by omega), uI_same]
  have hXq : X37 hp hq := X37_t hX0 (by rw [e2]; exact rI_X37 _ e3.1)
  have eo : hq.1 37 = o := by rw [e2, rI_eq]
  refine run hG [16] 60 ?_
  refine cl_use hG (key (n + 1) 0 0 hq (rw_ hp x) (hXq.fr hw) (by rw [eo]; exact o2) ?_ (hXq.row hw) hS (by omega) (by omega) hR) ⟨rfl, rfl, rfl, trivial⟩
  rw [eo]
  exact ⟨hn, by omega, o1, e4⟩
theorem sc_X1_readItems {own : String} {F L idx : Nat} (h1 : Cond.methodLink own idx yX1_readItems ∈ Gw) (hF : 10 ≤ F) (hL : 217 ≤ L) : SC own F L (idx, false, 2, sp_X1_readItems) := SC_V spF_mono c_X1_readItems okd_3 (fun as hp K h => by obtain ⟨x, hx, -⟩ := spF_e h; exact ⟨_, _, d_T_W_e hx⟩) h1 gw_608 gw_609 gw_73 gw_610 (by decide +kernel) hF hL
