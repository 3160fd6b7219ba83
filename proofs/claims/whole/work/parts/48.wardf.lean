/-! the JDK's count of bits -/
def us32 (x : Int32) (n : Nat) : Int32 := (x.toUInt32 >>> ((nI n).toUInt32 &&& Int32.toUInt32 31)).toInt32
def pcA (x : Int32) : Int32 := x - (us32 x 1 &&& 1431655765)
def pcB (x : Int32) : Int32 := (x &&& 858993459) + (us32 x 2 &&& 858993459)
def pcC (x : Int32) : Int32 := (x + us32 x 4) &&& 252645135
def pcD (x : Int32) : Int32 := x + us32 x 8
def pcE (x : Int32) : Int32 := x + us32 x 16
def pop32 (x : Int32) : Int32 := pcE (pcD (pcC (pcB (pcA x)))) &&& nI 63
def sp_J6_bitCount_0f7a4 : SP := spP d_S_I (fun _ _ => True) (fun x _ => vI (pop32 x))
def E_J6_bitCount_0f7a4 : EN := []
set_option maxRecDepth 100000 in
set_option maxHeartbeats 4000000 in
theorem c_J6_bitCount_0f7a4 : Ctr M_J6_bitCount_0f7a4 sp_J6_bitCount_0f7a4 := by
  refine ctr_of (own := RJ6) M_J6_bitCount_0f7a4 sp_J6_bitCount_0f7a4 (P := P_J6_bitCount_0f7a4) (K := K_J6) (E := E_J6_bitCount_0f7a4) (by decide) rfl pk_J6_bitCount_0f7a4 K_J6_ok (fun _ h => absurd h List.not_mem_nil) (fun as hp Q h => by obtain ⟨x, hx, -⟩ := spP_e h; rw [d_S_I_e hx]; exact Nat.le_of_ble_eq_true rfl) ?_
  intro Q G hQi hG as hp h
  obtain ⟨x, hx, hpre, hQ⟩ := spP_e h
  rw [d_S_I_e hx]
  clear h hx
  refine run hG [] 60 ?_
  exact hQ
theorem sc_J6_bitCount_0f7a4 {own : String} {F L idx : Nat} (h1 : Cond.methodLink own idx yJ6_bitCount_0f7a4 ∈ Gw) (hF : 1 ≤ F) (hL : 20 ≤ L) : SC own F L (idx, true, 1, sp_J6_bitCount_0f7a4) := SC_S spP_mono c_J6_bitCount_0f7a4 h1 gw_445 gw_77 gw_446 (by decide +kernel) hF hL
def us64 (x : Int64) (n : Nat) : Int64 := (x.toUInt64 >>> ((nI n).toInt64.toUInt64 &&& Int64.toUInt64 63)).toInt64
def pdA (x : Int64) : Int64 := x - (us64 x 1 &&& 6148914691236517205)
def pdB (x : Int64) : Int64 := (x &&& 3689348814741910323) + (us64 x 2 &&& 3689348814741910323)
def pdC (x : Int64) : Int64 := (x + us64 x 4) &&& 1085102592571150095
def pdD (x : Int64) (n : Nat) : Int64 := x + us64 x n
def pop64 (x : Int64) : Int32 := (pdD (pdD (pdD (pdC (pdB (pdA x))) 8) 16) 32).toInt32 &&& nI 127
def sp_J13_bitCount_95d88 : SP := spP d_S_J (fun _ _ => True) (fun x _ => vI (pop64 x))
def E_J13_bitCount_95d88 : EN := []
set_option maxRecDepth 100000 in
set_option maxHeartbeats 4000000 in
theorem c_J13_bitCount_95d88 : Ctr M_J13_bitCount_95d88 sp_J13_bitCount_95d88 := by
  refine ctr_of (own := RJ13) M_J13_bitCount_95d88 sp_J13_bitCount_95d88 (P := P_J13_bitCount_95d88) (K := K_J13) (E := E_J13_bitCount_95d88) (by decide) rfl pk_J13_bitCount_95d88 K_J13_ok (fun _ h => absurd h List.not_mem_nil) (fun as hp Q h => by obtain ⟨x, hx, -⟩ := spP_e h; rw [d_S_J_e hx]; exact Nat.le_of_ble_eq_true rfl) ?_
  intro Q G hQi hG as hp h
  obtain ⟨x, hx, hpre, hQ⟩ := spP_e h
  rw [d_S_J_e hx]
  clear h hx
  refine run hG [] 60 ?_
  exact hQ
theorem sc_J13_bitCount_95d88 {own : String} {F L idx : Nat} (h1 : Cond.methodLink own idx yJ13_bitCount_95d88 ∈ Gw) (hF : 1 ≤ F) (hL : 21 ≤ L) : SC own F L (idx, true, 1, sp_J13_bitCount_95d88) := SC_S spP_mono c_J13_bitCount_95d88 h1 gw_799 gw_83 gw_800 (by decide +kernel) hF hL
theorem pop16 : ∀ s, s < 16 → pop32 (nI s) = onesV (nI s) := by decide +kernel
theorem pop_ws (c : Nat → Bool) : pop32 (waysC c) = nI (rc c 4 0) := by
  rw [← ones_rc, waysC_nI]
  exact pop16 _ (wsN_lt c)
def sp_X3_drawnStep : SP := spF d_W_I (fun x _ => ∃ c, x.2 = waysC c) (fun x hp v hq => ∀ c, x.2 = waysC c → (rc c 4 0 = 0 → v = some (vI (-1)) ∧ hq = hp) ∧ (rc c 4 0 ≠ 0 → v = some (vI (nI (wndN c (drV (hp.1 x.1 6))))) ∧ hq = uI hp x.1 6 (drV (hp.1 x.1 6))))
theorem wsN_inj {c d : Nat → Bool} (h : waysC c = waysC d) : ∀ j, j < 4 → c j = d j := by
  intro j hj
  have e1 := ws_bI c hj
  have e2 := ws_bI d hj
  rw [h, e2] at e1
  cases hc : c j <;> cases hd : d j <;> rw [hc, hd] at e1 <;> first | rfl | exact absurd e1 (by decide)
theorem rc_cg {c d : Nat → Bool} (h : ∀ j, j < 4 → c j = d j) : rc c 4 0 = rc d 4 0 := by
  show (if c 0 = true then 1 else 0) + ((if c 1 = true then 1 else 0) + ((if c 2 = true then 1 else 0) + ((if c 3 = true then 1 else 0) + 0))) = (if d 0 = true then 1 else 0) + ((if d 1 = true then 1 else 0) + ((if d 2 = true then 1 else 0) + ((if d 3 = true then 1 else 0) + 0)))
  rw [h 0 (by omega), h 1 (by omega), h 2 (by omega), h 3 (by omega)]
theorem pw_cg {c d : Nat → Bool} : ∀ n w l, (∀ j, w ≤ j → j < w + n → c j = d j) → pw c n w l = pw d n w l
  | 0, _, _, _ => rfl
  | n + 1, w, l, h => by
    unfold pw
    rw [h w (Nat.le_refl _) (by omega)]
    split
    · rfl
    · exact pw_cg n (w + 1) _ (fun j h1 h2 => h j (by omega) (by omega))
def E_X3_drawnStep : EN := [(133, true, 1, sp_J6_bitCount_0f7a4)]
set_option maxRecDepth 100000 in
set_option maxHeartbeats 4000000 in
theorem c_X3_drawnStep : Ctr M_X3_drawnStep sp_X3_drawnStep := by
  refine ctr_of (own := RX3) M_X3_drawnStep sp_X3_drawnStep (P := P_X3_drawnStep) (K := K_X3) (E := E_X3_drawnStep) (by decide) rfl pk_X3_drawnStep K_X3_ok (List.forall_mem_cons.mpr ⟨sc_J6_bitCount_0f7a4 gw_444 (by decide) (by decide), fun _ h => absurd h List.not_mem_nil⟩) (fun as hp Q h => by obtain ⟨x, hx, -⟩ := spF_e h; rw [d_W_I_e hx]; exact Nat.le_of_ble_eq_true rfl) ?_
  intro Q G hQi hG as hp h
  obtain ⟨x, hx, hpre, hQ⟩ := spF_e h
  rw [d_W_I_e hx]
  clear h hx
  obtain ⟨w, s⟩ := x
  try dsimp only at hpre hQ ⊢
  obtain ⟨c, hs⟩ := hpre
  have hs : s = waysC c := hs
  have hpop : pop32 s = nI (rc c 4 0) := by rw [hs]; exact pop_ws c
  have hbit := fun j (hj : j < 4) => ws_bI c hj
  rw [← hs] at hbit
  have hrc := rc_le c
  have hQ : ∀ v hq, ((rc c 4 0 = 0 → v = some (vI (-1)) ∧ hq = hp) ∧ (rc c 4 0 ≠ 0 → v = some (vI (nI (wndN c (drV (hp.1 w 6))))) ∧ hq = uI hp w 6 (drV (hp.1 w 6)))) → Q v hq := by
    intro v hq h
    refine hQ v hq (fun d hd => ?_)
    have hd : s = waysC d := hd
    have hcd := wsN_inj (hs.symm.trans hd)
    have e1 := rc_cg hcd
    have e2 : ∀ z, wndN c z = wndN d z := fun z => by
      unfold wndN
      rw [e1]
      exact pw_cg 4 0 _ (fun j _ h => hcd j (by omega))
    rw [← e1, ← e2]
    exact h
  refine run hG [39] 60 ?_
  refine And.intro trivial ?_
  refine And.intro (fun h1 => ?_) (fun h1 => ?_)
  case refine_2 =>
    have h1 : pop32 s = 0 := h1
    rw [hpop] at h1
    have h0 : rc c 4 0 = 0 := (nI_eq (by omega) (by omega)).mp h1
    exact hQ _ _ ⟨fun _ => ⟨rfl, rfl⟩, fun h => absurd h0 h⟩
  have h1 : ¬ pop32 s = 0 := h1
  have h0 : rc c 4 0 ≠ 0 := fun h => h1 (by rw [hpop, h]; rfl)
  obtain ⟨e, he, ee⟩ := sh_pos (drV (hp.1 w 6))
  have eH6 : (uI hp w 6 (drV (hp.1 w 6))).1 w 6 = drV (hp.1 w 6) := uI_same _ _ _ _
  refine And.intro h1 ?_
  have hr : shV ((uI hp w 6 (drV (hp.1 w 6))).1 w 6) - shV ((uI hp w 6 (drV (hp.1 w 6))).1 w 6) / pop32 s * pop32 s = nI (e % rc c 4 0) := by
    rw [eH6, ee, hpop]
    exact nI_rem (by omega) (by omega) (by omega)
  have eW : wndN c (drV (hp.1 w 6)) = pw c 4 0 (e % rc c 4 0) := by unfold wndN; rw [ee, nI_clamp (by omega)]
  rw [eW] at hQ
  have hlt : e % rc c 4 0 < rc c 4 0 := Nat.mod_lt _ (by omega)
  generalize hH : uI hp w 6 (drV (hp.1 w 6)) = H at hQ hr
  have lp : ∀ m k l, k + m = 4 → l < rc c m k → pw c m k l = pw c 4 0 (e % rc c 4 0) → ∀ v2 : Int32, G 39 [(4, vI (nI k)), (3, vI (nI l)), (2, vI v2), (0, vR 1 w), (1, vI s)] [] H := by
    intro m
    induction m with
    | zero =>
      intro k l _ hl
      exact absurd hl (Nat.not_lt_zero _)
    | succ m ih =>
      intro k l hkm hl hpw v2
      have hl : l < (if c k = true then 1 else 0) + rc c m (k + 1) := hl
      have hpw : (if c k = true ∧ l = 0 then k else pw c m (k + 1) (l - (if c k = true then 1 else 0))) = pw c 4 0 (e % rc c 4 0) := hpw
      have hl5 : l < 5 := by
        have h9 : ∀ n a, rc c n a ≤ n := by
          intro n
          induction n with
          | zero => intro a; exact Nat.le_refl _
          | succ n ih =>
            intro a
            have := ih (a + 1)
            show (if c a = true then 1 else 0) + rc c n (a + 1) ≤ n + 1
            split <;> omega
        have := h9 m (k + 1)
        split at hl <;> omega
      refine run hG [39] 60 ?_
      refine And.intro (fun h2 => absurd h2 (nI_ge (by omega) (by omega))) (fun h2 => ?_)
      refine And.intro (fun h3 => ?_) (fun h3 => ?_)
      · have h3 : bI s k = 0 := h3
        have hc : ¬ c k = true := by
          intro h
          rw [hbit k (by omega), h] at h3
          exact absurd h3 (by decide)
        rw [if_neg hc] at hl
        rw [if_neg (fun h => hc h.1), if_neg hc] at hpw
        have k9 := ih (k + 1) l (by omega) (by omega) hpw v2
        rw [← nI_s] at k9
        exact cl_use hG k9 ⟨rfl, rfl, rfl, rfl, rfl, trivial⟩
      · have h3 : ¬ bI s k = 0 := h3
        have hc : c k = true := by
          rw [hbit k (by omega)] at h3
          cases h : c k with
          | true => rfl
          | false => rw [h] at h3; exact absurd (by decide) h3
        rw [if_pos hc] at hl
        refine And.intro (fun h4 => ?_) (fun h4 => ?_)
        · have h4 : ¬ nI l = 0 := h4
          have hl0 : l ≠ 0 := fun h => h4 (by rw [h]; rfl)
          rw [if_neg (fun h => hl0 h.2), if_pos hc] at hpw
          have k9 := ih (k + 1) (l - 1) (by omega) (by omega) hpw v2
          have e3 : nI l + -1 = nI (l - 1) := by rw [add_m1, nI_m1 (by omega)]
          refine cl_lv hG [(4, vI (nI k + nI 1)), (3, vI (nI l + -1)), (2, vI v2), (0, vR 1 w), (1, vI s)] ⟨rfl, rfl, rfl, rfl, rfl, trivial⟩ ?_
          rw [nI_s, e3]
          exact k9
        · have h4 : nI l = 0 := h4
          have hl0 : l = 0 := (nI_eq (a := l) (b := 0) (by omega) (by omega)).mp h4
          rw [if_pos ⟨hc, hl0⟩] at hpw
          refine hQ _ _ ⟨fun h => absurd h h0, fun _ => ⟨by rw [hpw], rfl⟩⟩
  have k9 := lp 4 0 (e % rc c 4 0) rfl hlt rfl (pop32 s)
  rw [← hr] at k9
  subst hH
  exact cl_use hG k9 ⟨rfl, rfl, rfl, rfl, rfl, trivial⟩
theorem sc_X3_drawnStep {own : String} {F L idx : Nat} (h1 : Cond.methodLink own idx yX3_drawnStep ∈ Gw) (hF : 2 ≤ F) (hL : 44 ≤ L) : SC own F L (idx, false, 2, sp_X3_drawnStep) := SC_V spF_mono c_X3_drawnStep okd_1 (fun as hp K h => by obtain ⟨x, hx, -⟩ := spF_e h; exact ⟨_, _, d_W_I_e hx⟩) h1 gw_441 gw_442 gw_70 gw_443 (by decide +kernel) hF hL
