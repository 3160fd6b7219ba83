/-! the one who wanders -/
def rc (c : Nat → Bool) : Nat → Nat → Nat
  | 0, _ => 0
  | n + 1, w => (if c w = true then 1 else 0) + rc c n (w + 1)
def pw (c : Nat → Bool) : Nat → Nat → Nat → Nat
  | 0, w, _ => w
  | n + 1, w, l => if c w = true ∧ l = 0 then w else pw c n (w + 1) (l - (if c w = true then 1 else 0))
def drV (z : Int32) : Int32 := z * 1103515245 + nI 12345
def shV (z : Int32) : Int32 := (z.toUInt32 >>> ((nI 8).toUInt32 &&& Int32.toUInt32 31)).toInt32
theorem fold4 (g : Nat → Int32 → Int32) (z : Int32) : fold g z 4 = g 3 (g 2 (g 1 (g 0 z))) := rfl
theorem ws_val : ∀ b0 b1 b2 b3 : Bool, waysC (fun w => if w = 0 then b0 else if w = 1 then b1 else if w = 2 then b2 else b3) = nI ((if b0 then 1 else 0) + (if b1 then 2 else 0) + (if b2 then 4 else 0) + (if b3 then 8 else 0)) := by decide +kernel
theorem waysC_congr {c d : Nat → Bool} (h : ∀ w, w < 4 → c w = d w) : waysC c = waysC d := by
  unfold waysC
  rw [fold4, fold4]
  unfold waysG
  rw [h 0 (by omega), h 1 (by omega), h 2 (by omega), h 3 (by omega)]
def wsN (c : Nat → Bool) : Nat := (if c 0 then 1 else 0) + (if c 1 then 2 else 0) + (if c 2 then 4 else 0) + (if c 3 then 8 else 0)
theorem waysC_nI (c : Nat → Bool) : waysC c = nI (wsN c) := by
  rw [← waysC_congr (c := fun w => if w = 0 then c 0 else if w = 1 then c 1 else if w = 2 then c 2 else c 3) (d := c) (fun w hw => by
    rcases (show w = 0 ∨ w = 1 ∨ w = 2 ∨ w = 3 by omega) with rfl | rfl | rfl | rfl <;> rfl), ws_val]
  rfl
theorem wsN_lt (c : Nat → Bool) : wsN c < 16 := by
  unfold wsN
  cases c 0 <;> cases c 1 <;> cases c 2 <;> cases c 3 <;> decide
theorem bit16 : ∀ s, s < 16 → ∀ w, w < 4 → (nI s >>> (nI w &&& 31)) &&& nI 1 = nI (s / 2 ^ w % 2) := by decide +kernel
theorem ws_bit (c : Nat → Bool) {w : Nat} (hw : w < 4) : (waysC c >>> (nI w &&& 31)) &&& nI 1 = (if c w = true then nI 1 else nI 0) := by
  rw [waysC_nI, bit16 _ (wsN_lt c) w hw]
  unfold wsN
  rcases (show w = 0 ∨ w = 1 ∨ w = 2 ∨ w = 3 by omega) with rfl | rfl | rfl | rfl <;> cases c 0 <;> cases c 1 <;> cases c 2 <;> cases c 3 <;> decide
theorem ones16 : ∀ s, s < 16 → onesV (nI s) = nI (s % 2 + s / 2 % 2 + s / 4 % 2 + s / 8 % 2) := by decide +kernel
theorem ones_rc (c : Nat → Bool) : onesV (waysC c) = nI (rc c 4 0) := by
  rw [waysC_nI, ones16 _ (wsN_lt c)]
  show _ = nI ((if c 0 = true then 1 else 0) + ((if c 1 = true then 1 else 0) + ((if c 2 = true then 1 else 0) + ((if c 3 = true then 1 else 0) + 0))))
  unfold wsN
  cases c 0 <;> cases c 1 <;> cases c 2 <;> cases c 3 <;> decide
theorem ws_0 (c : Nat → Bool) : waysC c = 0 ↔ rc c 4 0 = 0 := by
  rw [waysC_nI]
  show _ ↔ (if c 0 = true then 1 else 0) + ((if c 1 = true then 1 else 0) + ((if c 2 = true then 1 else 0) + ((if c 3 = true then 1 else 0) + 0))) = 0
  unfold wsN
  cases c 0 <;> cases c 1 <;> cases c 2 <;> cases c 3 <;> decide
theorem rc_le (c : Nat → Bool) : rc c 4 0 ≤ 4 := by
  show (if c 0 = true then 1 else 0) + ((if c 1 = true then 1 else 0) + ((if c 2 = true then 1 else 0) + ((if c 3 = true then 1 else 0) + 0))) ≤ 4
  cases c 0 <;> cases c 1 <;> cases c 2 <;> cases c 3 <;> decide
theorem sh_pos (z : Int32) : ∃ e, e < 2 ^ 24 ∧ shV z = nI e := by
  refine ⟨(z.toUInt32 >>> ((nI 8).toUInt32 &&& Int32.toUInt32 31)).toNat, ?_, ?_⟩
  · rw [UInt32.toNat_shiftRight]
    have : ((nI 8).toUInt32 &&& Int32.toUInt32 31).toNat % 32 = 8 := by decide
    rw [this, Nat.shiftRight_eq_div_pow]
    have := z.toUInt32.toNat_lt
    omega
  · unfold shV nI
    generalize z.toUInt32 >>> ((Int32.ofNat 8).toUInt32 &&& Int32.toUInt32 31) = u
    apply Int32.toBitVec_inj.mp
    simp
def wndN (c : Nat → Bool) (z : Int32) : Nat := pw c 4 0 ((shV z).toNatClampNeg % rc c 4 0)
def wndF (f : Nat → Int32) (q : Nat) : Int32 × (Nat → Int32) := if rc (mayB f q) 4 0 = 0 then (-1, f) else (nI (wndN (mayB f q) (drV (f 1))), upd f 1 (drV (f 1)))
def sp_X5_wanderStep : SP := spH d_M_I (fun x _ => vp_in x 25) (fun x hp => some (vI (wndF (hp.1 53) x.toNatClampNeg).1)) (fun x hp => rI hp 53 (wndF (hp.1 53) x.toNatClampNeg).2)
def E_X5_wanderStep : EN := [(110, false, 2, sp_X5_waysFrom), (120, false, 1, sp_X5_draw), (124, true, 1, sp_X5_ones)]
set_option maxRecDepth 100000 in
set_option maxHeartbeats 4000000 in
theorem c_X5_wanderStep : Ctr M_X5_wanderStep sp_X5_wanderStep := by
  refine ctr_of (own := RX5) M_X5_wanderStep sp_X5_wanderStep (P := P_X5_wanderStep) (K := K_X5) (E := E_X5_wanderStep) (by decide) rfl pk_X5_wanderStep K_X5_ok (List.forall_mem_cons.mpr ⟨sc_X5_waysFrom gw_966 (by decide) (by decide), List.forall_mem_cons.mpr ⟨sc_X5_draw gw_1017 (by decide) (by decide), List.forall_mem_cons.mpr ⟨sc_X5_ones gw_1022 (by decide) (by decide), fun _ h => absurd h List.not_mem_nil⟩⟩⟩) (fun as hp Q h => by obtain ⟨x, hx, -⟩ := spH_e h; rw [d_M_I_e hx]; exact Nat.le_of_ble_eq_true rfl) ?_
  intro Q G hQi hG as hp h
  obtain ⟨x, hx, hpre, hQ⟩ := spH_e h
  rw [d_M_I_e hx]
  clear h hx
  generalize hc : mayB (hp.1 53) x.toNatClampNeg = c
  unfold wndF at hQ
  rw [hc] at hQ
  refine run hG [25] 60 ?_
  refine And.intro hpre ?_
  refine And.intro (fun h1 => ?_) (fun h1 => ?_)
  · have h1 : ¬ waysC (mayB (hp.1 53) x.toNatClampNeg) = 0 := h1
    rw [hc, ws_0] at h1
    rw [if_neg h1] at hQ
    refine And.intro trivial ?_
    refine And.intro trivial ?_
    obtain ⟨e, he, eS⟩ := sh_pos (drV (hp.1 53 1))
    have eo : onesV (waysC (mayB (hp.1 53) x.toNatClampNeg)) = nI (rc c 4 0) := by rw [hc]; exact ones_rc c
    have h4 := rc_le c
    refine And.intro ?_ ?_
    · show ¬ onesV (waysC (mayB (hp.1 53) x.toNatClampNeg)) = 0
      rw [eo]
      exact nI_ne0 (by omega) (by omega)
    · have hr : shV (drV (hp.1 53 1)) - shV (drV (hp.1 53 1)) / onesV (waysC (mayB (hp.1 53) x.toNatClampNeg)) * onesV (waysC (mayB (hp.1 53) x.toNatClampNeg)) = nI (e % rc c 4 0) := by
        rw [eo, eS]
        exact nI_rem (by omega) (by omega) (by omega)
      have hN : wndN c (drV (hp.1 53 1)) = pw c 4 0 (e % rc c 4 0) := by unfold wndN; rw [eS, nI_clamp (by omega)]
      rw [hN] at hQ
      have hlt : e % rc c 4 0 < rc c 4 0 := Nat.mod_lt _ (by omega)
      generalize e % rc c 4 0 = l at hr hQ hlt
      have hQ : Q (some (vI (nI (pw c 4 0 l)))) (uI hp 53 1 (drV (hp.1 53 1))) := hQ
      have key : ∀ hz n w l, w + n = 4 → l < rc c n w → Q (some (vI (nI (pw c n w l)))) hz → G 25 [(4, vI (nI w)), (3, vI (nI l)), (2, vI (waysC c))] [] hz := by
        intro hz n
        induction n with
        | zero => intro w l hw hl; exact absurd hl (Nat.not_lt_zero _)
        | succ n ih =>
          intro w l hw hl hQ
          have hb := ws_bit c (w := w) (by omega)
          have nxt : ∀ d, (if c w = true then nI 1 else nI 0) = nI d → (if c w = true then 1 else 0) = d → d ≤ l → ¬ (c w = true ∧ l = 0) → ∀ b, b = nI d → G 25 [(4, vI (nI w + nI 1)), (3, vI (nI l - b)), (2, vI (waysC c))] [] hz := by
            intro d _ hd hdl hn b eb
            rw [eb, nI_s, pk_sub hdl]
            refine ih (w + 1) (l - d) (by omega) ?_ ?_
            · have hl : l < (if c w = true then 1 else 0) + rc c n (w + 1) := hl
              rw [hd] at hl
              omega
            · have e9 : pw c (n + 1) w l = pw c n (w + 1) (l - d) := by
                show (if c w = true ∧ l = 0 then w else pw c n (w + 1) (l - (if c w = true then 1 else 0))) = _
                rw [if_neg hn, hd]
              rw [e9] at hQ
              exact hQ
          refine run hG [25] 60 ?_
          refine And.intro (fun h2 => ?_) (fun h2 => ?_)
          · have h2 : waysC c >>> (nI w &&& 31) &&& nI 1 = 0 := h2
            have hf : c w = false := by
              cases hcw : c w with
              | false => rfl
              | true => rw [hb, hcw, if_pos rfl] at h2; exact absurd h2 (by decide)
            refine cl_use hG (nxt 0 (by rw [hf]; rfl) (by rw [hf]; rfl) (by omega) (by rw [hf]; simp) (waysC c >>> (nI w &&& 31) &&& nI 1) (by rw [hb, hf]; rfl)) ⟨rfl, rfl, rfl, trivial⟩
          · have h2 : ¬ waysC c >>> (nI w &&& 31) &&& nI 1 = 0 := h2
            have hf : c w = true := by
              cases hcw : c w with
              | true => rfl
              | false => rw [hb, hcw, if_neg (by decide)] at h2; exact absurd (by decide) h2
            refine And.intro (fun h3 => ?_) (fun h3 => ?_)
            · have h3 : nI l ≤ 0 := h3
              have hl4 : rc c (n + 1) w < 2 ^ 31 := by
                have : ∀ n w, rc c n w ≤ n := by
                  intro n
                  induction n with
                  | zero => intro w; exact Nat.le_refl _
                  | succ n ih =>
                    intro w
                    have := ih (w + 1)
                    show (if c w = true then 1 else 0) + rc c n (w + 1) ≤ n + 1
                    split <;> omega
                have := this (n + 1) w
                omega
              have hl0 : l = 0 := by
                rcases Nat.eq_zero_or_pos l with h | h
                · exact h
                · exact absurd h3 (nI_nle h (by omega))
              have e9 : pw c (n + 1) w l = w := by
                show (if c w = true ∧ l = 0 then w else pw c n (w + 1) (l - (if c w = true then 1 else 0))) = _
                rw [if_pos ⟨hf, hl0⟩]
              rw [e9] at hQ
              exact hQ
            · have h3 : ¬ nI l ≤ 0 := h3
              have hl0 : l ≠ 0 := by
                intro h
                subst h
                exact h3 (by decide)
              refine cl_use hG (nxt 1 (by rw [hf]; rfl) (by rw [hf]; rfl) (by omega) (fun h => hl0 h.2) (waysC c >>> (nI w &&& 31) &&& nI 1) (by rw [hb, hf]; rfl)) ⟨rfl, rfl, rfl, trivial⟩
      refine cl_lv hG [(4, vI (nI 0)), (3, vI (shV (drV (hp.1 53 1)) - shV (drV (hp.1 53 1)) / onesV (waysC (mayB (hp.1 53) x.toNatClampNeg)) * onesV (waysC (mayB (hp.1 53) x.toNatClampNeg)))), (2, vI (waysC (mayB (hp.1 53) x.toNatClampNeg)))] ⟨rfl, rfl, rfl, trivial⟩ ?_
      rw [hr, hc]
      exact key _ 4 0 l rfl hlt hQ
  · have h1 : waysC (mayB (hp.1 53) x.toNatClampNeg) = 0 := h1
    rw [hc, ws_0] at h1
    rw [if_pos h1] at hQ
    have hQ : Q (some (vI (-1))) (rI hp 53 (hp.1 53)) := hQ
    rw [rI_self] at hQ
    exact hQ
theorem sc_X5_wanderStep {own : String} {F L idx : Nat} (h1 : Cond.methodLink own idx yX5_wanderStep ∈ Gw) (hF : 4 ≤ F) (hL : 90 ≤ L) : SC own F L (idx, false, 2, sp_X5_wanderStep) := SC_V spH_mono c_X5_wanderStep okd_5 (fun as hp K h => by obtain ⟨x, hx, -⟩ := spH_e h; exact ⟨_, _, d_M_I_e hx⟩) h1 gw_1015 gw_35 gw_75 gw_1016 (by decide +kernel) hF hL
