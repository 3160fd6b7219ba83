/-! the next token -/
def mn4 (a : Nat) : Nat := if a < 10000 then a else 10000
theorem mn4_s (a d : Nat) : mn4 (10 * a + d) = mn4 (10 * mn4 a + d) := by
  unfold mn4
  by_cases h : a < 10000
  · rw [if_pos h]
  · rw [if_neg h, if_neg (by omega), if_neg (by omega)]
/-- what is told of the token that begins behind e -/
def TKN (B : Nat → Int32) (n e : Nat) (o : Nat → Int32) : Prop :=
  o 4 = nI (bk B n e) ∧
  (n ≤ bk B n e → o 3 = nI 0 ∧ o 5 = nI (bk B n e)) ∧
  (bk B n e < n → lrB (B (bk B n e)) = true → o 3 = nI 1 ∧ o 5 = nI (skp lrB B n (bk B n e))) ∧
  (bk B n e < n → lrB (B (bk B n e)) = false → dgB (B (bk B n e)) = true → o 3 = nI 2 ∧ o 5 = nI (skp dgB B n (bk B n e)) ∧ o 6 = nI (mn4 (nv B (bk B n e) (skp dgB B n (bk B n e) - bk B n e)))) ∧
  (bk B n e < n → lrB (B (bk B n e)) = false → dgB (B (bk B n e)) = false → o 3 = (if B (bk B n e) = nI 59 then nI 3 else nI 4) ∧ o 5 = nI (bk B n e + 1))
def sm3 (o p : Nat → Int32) : Prop := p 1 = o 1 ∧ p 2 = o 2
theorem byt_lt {B : Nat → Int32} {n k : Nat} (h : k < n) : byt B n k = B k := if_neg (by omega)
def sp_X1_nextToken : SP := spF d_T (fun _ hp => ∃ n e, n ≤ 120 ∧ e ≤ n ∧ hp.1 37 1 = nI n ∧ hp.1 37 5 = nI e) (fun _ hp v hq => v = none ∧ ∃ o, hq = rI hp 37 o ∧ sm3 (hp.1 37) o ∧ TKN (hp.1 38) (hp.1 37 1).toNatClampNeg (hp.1 37 5).toNatClampNeg o)
def E_X1_nextToken : EN := [(152, true, 1, sp_X1_isLetter), (156, true, 1, sp_X1_isDigit), (159, true, 2, sp_min)]
set_option maxRecDepth 100000 in
set_option maxHeartbeats 4000000 in
theorem c_X1_nextToken : Ctr M_X1_nextToken sp_X1_nextToken := by
  refine ctr_of (own := RX1) M_X1_nextToken sp_X1_nextToken (P := P_X1_nextToken) (K := K_X1) (E := E_X1_nextToken) (by decide) rfl pk_X1_nextToken K_X1_ok (List.forall_mem_cons.mpr ⟨sc_X1_isLetter gw_615 (by decide) (by decide), List.forall_mem_cons.mpr ⟨sc_X1_isDigit gw_618 (by decide) (by decide), List.forall_mem_cons.mpr ⟨SC_min (gw_at 621 (by decide +kernel) rfl) (gw_at 289 (by decide +kernel) rfl) (gw_at 76 (by decide +kernel) rfl) (gw_at 290 (by decide +kernel) rfl) (by decide) (by decide), fun _ h => absurd h List.not_mem_nil⟩⟩⟩) (fun as hp Q h => by obtain ⟨x, hx, -⟩ := spF_e h; rw [d_T_e hx]; exact Nat.le_of_ble_eq_true rfl) ?_
  intro Q G hQi hG as hp h
  obtain ⟨x, hx, hpre, hQ⟩ := spF_e h
  rw [d_T_e hx]
  clear h hx
  obtain ⟨n, e, hn, he, e1, e5⟩ := hpre
  have hQ : ∀ o, sm3 (hp.1 37) o → TKN (hp.1 38) n e o → Q none (rI hp 37 o) := fun o h1 h2 => hQ _ _ ⟨rfl, o, rfl, h1, by rw [e1, e5, nI_clamp (by omega), nI_clamp (by omega)]; exact h2⟩
  have hB : ∀ o, (rI hp 37 o).1 38 = hp.1 38 := fun o => rI_ne _ _ (by omega)
  generalize hp.1 38 = B at hQ hB
  have hbl := bk_le B he
  generalize hS : bk B n e = S at hbl
  unfold TKN at hQ
  rw [hS] at hQ
  have h37 : ∀ o, (rI hp 37 o).1 37 = o := fun o => rI_eq _ _ _
  have u37 : ∀ o k v, uI (rI hp 37 o) 37 k v = rI hp 37 (upd o k v) := fun o k v => uI_rI _ _ _ _ _
  -- letters
  have lets := for_up (P := fun k => S ≤ k → S < n → lrB (B S) = true → skp lrB B n S = skp lrB B n k → ∀ o, sm3 (hp.1 37) o → o 4 = nI S → o 3 = nI 1 → o 5 = nI k → G 98 [(0, vR 3 37)] [] (rI hp 37 o)) n (by
    intro hk hSn hl hs o ho o4 o3 o5
    rw [skp_n (h := n) (by rw [byt_n]; decide)] at hs
    refine run hG [98, 259] 60 ?_
    refine And.intro (fun h1 => ?_) (fun h1 => ?_)
    · refine run hG [] 60 ?_
      exact hQ o ho ⟨o4, fun h => absurd h (by omega), fun _ _ => ⟨o3, by rw [hs]; exact o5⟩, fun _ h => absurd h (by rw [hl]; decide), fun _ h => absurd h (by rw [hl]; decide)⟩
    · have h1 : ¬ (rI hp 37 o).1 37 1 ≤ (rI hp 37 o).1 37 5 := h1
      rw [h37, ho.1, e1, o5] at h1
      exact absurd (nI_le (Nat.le_refl _) (by omega)) h1) (by
    intro k hk ih hSk hSn hl hs o ho o4 o3 o5
    have ek : ((rI hp 37 o).1 37 5).toNatClampNeg = k := by rw [h37, o5, nI_clamp (by omega)]
    refine run hG [98, 259] 60 ?_
    refine And.intro (fun h1 => ?_) (fun h1 => ?_)
    · have h1 : (rI hp 37 o).1 37 1 ≤ (rI hp 37 o).1 37 5 := h1
      rw [h37, ho.1, e1, o5] at h1
      exact absurd h1 (nI_ge hk (by omega))
    refine And.intro (show vp_in ((rI hp 37 o).1 37 5) 120 by rw [h37, o5]; exact vp_in_nI (by omega) (by omega)) ?_
    refine And.intro trivial ?_
    refine And.intro (fun h2 => ?_) (fun h2 => ?_)
    · have h2 : lrB ((rI hp 37 o).1 38 ((rI hp 37 o).1 37 5).toNatClampNeg) = false := bB_0.mp h2
      rw [hB, ek] at h2
      rw [skp_n (h := k) (by rw [byt_lt hk]; exact h2)] at hs
      refine run hG [] 60 ?_
      exact hQ o ho ⟨o4, fun h => absurd h (by omega), fun _ _ => ⟨o3, by rw [hs]; exact o5⟩, fun _ h => absurd h (by rw [hl]; decide), fun _ h => absurd h (by rw [hl]; decide)⟩
    · have h2 : lrB ((rI hp 37 o).1 38 ((rI hp 37 o).1 37 5).toNatClampNeg) = true := bB_1.mp h2
      rw [hB, ek] at h2
      rw [skp_s (h := k) hk (by rw [byt_lt hk]; exact h2)] at hs
      have eU : uI (rI hp 37 o) 37 5 ((rI hp 37 o).1 37 5 + nI 1) = rI hp 37 (upd o 5 (nI (k + 1))) := by rw [h37, o5, nI_s, u37]
      have k9 := ih (by omega) hSn hl hs (upd o 5 (nI (k + 1))) ⟨by rw [pk_un (by omega)]; exact ho.1, by rw [pk_un (by omega)]; exact ho.2⟩ (by rw [pk_un (by omega)]; exact o4) (by rw [pk_un (by omega)]; exact o3) pk_us
      rw [← eU] at k9
      exact cl_use hG k9 ⟨rfl, trivial⟩)
  -- digits
  have digs := for_up (P := fun k => S ≤ k → S < n → lrB (B S) = false → dgB (B S) = true → skp dgB B n S = skp dgB B n k → ∀ o, sm3 (hp.1 37) o → o 4 = nI S → o 3 = nI 2 → o 5 = nI k → o 6 = nI (mn4 (nv B S (k - S))) → G 157 [(0, vR 3 37)] [] (rI hp 37 o)) n (by
    intro hk hSn hl hd hs o ho o4 o3 o5 o6
    rw [skp_n (h := n) (by rw [byt_n]; decide)] at hs
    refine run hG [157, 259] 60 ?_
    refine And.intro (fun h1 => ?_) (fun h1 => ?_)
    · refine run hG [] 60 ?_
      exact hQ o ho ⟨o4, fun h => absurd h (by omega), fun _ h => absurd h (by rw [hl]; decide), fun _ _ _ => ⟨o3, by rw [hs]; exact o5, by rw [hs]; exact o6⟩, fun _ _ h => absurd h (by rw [hd]; decide)⟩
    · have h1 : ¬ (rI hp 37 o).1 37 1 ≤ (rI hp 37 o).1 37 5 := h1
      rw [h37, ho.1, e1, o5] at h1
      exact absurd (nI_le (Nat.le_refl _) (by omega)) h1) (by
    intro k hk ih hSk hSn hl hd hs o ho o4 o3 o5 o6
    have ek : ((rI hp 37 o).1 37 5).toNatClampNeg = k := by rw [h37, o5, nI_clamp (by omega)]
    have hin : vp_in ((rI hp 37 o).1 37 5) 120 := by rw [h37, o5]; exact vp_in_nI (by omega) (by omega)
    refine run hG [157, 259] 60 ?_
    refine And.intro (fun h1 => ?_) (fun h1 => ?_)
    · have h1 : (rI hp 37 o).1 37 1 ≤ (rI hp 37 o).1 37 5 := h1
      rw [h37, ho.1, e1, o5] at h1
      exact absurd h1 (nI_ge hk (by omega))
    refine And.intro hin ?_
    refine And.intro trivial ?_
    refine And.intro (fun h2 => ?_) (fun h2 => ?_)
    · have h2 : dgB ((rI hp 37 o).1 38 ((rI hp 37 o).1 37 5).toNatClampNeg) = false := bB_0.mp h2
      rw [hB, ek] at h2
      rw [skp_n (h := k) (by rw [byt_lt hk]; exact h2)] at hs
      refine run hG [] 60 ?_
      exact hQ o ho ⟨o4, fun h => absurd h (by omega), fun _ h => absurd h (by rw [hl]; decide), fun _ _ _ => ⟨o3, by rw [hs]; exact o5, by rw [hs]; exact o6⟩, fun _ _ h => absurd h (by rw [hd]; decide)⟩
    · have h2 : dgB ((rI hp 37 o).1 38 ((rI hp 37 o).1 37 5).toNatClampNeg) = true := bB_1.mp h2
      rw [hB, ek] at h2
      rw [skp_s (h := k) hk (by rw [byt_lt hk]; exact h2)] at hs
      obtain ⟨d, hd1, hd2, hd3⟩ := dg_of h2
      refine And.intro hin ?_
      have ha : mn4 (nv B S (k - S)) ≤ 10000 := by unfold mn4; split <;> omega
      have env : nv B S (k + 1 - S) = 10 * nv B S (k - S) + (d - 48) := by
        rw [show k + 1 - S = (k - S) + 1 by omega]
        show 10 * nv B S (k - S) + ((B (S + (k - S))).toNatClampNeg - 48) = _
        rw [show S + (k - S) = k by omega, hd3, nI_clamp (by omega)]
      have ih := ih (by omega) hSn hl hd hs
      rw [env, mn4_s] at ih
      generalize mn4 (nv B S (k - S)) = a at o6 ih ha
      have ey : (rI hp 37 o).1 37 6 * nI 10 + (rI hp 37 o).1 38 ((rI hp 37 o).1 37 5).toNatClampNeg - nI 48 = nI (10 * a + (d - 48)) := by
        rw [h37, o6, hB, o5, nI_clamp (by omega), hd3, pk_mul, nI_add, pk_sub (by omega)]
        congr 1
        omega
      have em : (if (rI hp 37 o).1 37 6 * nI 10 + (rI hp 37 o).1 38 ((rI hp 37 o).1 37 5).toNatClampNeg - nI 48 < nI 10000 then (rI hp 37 o).1 37 6 * nI 10 + (rI hp 37 o).1 38 ((rI hp 37 o).1 37 5).toNatClampNeg - nI 48 else nI 10000) = nI (mn4 (10 * a + (d - 48))) := by
        rw [ey]
        unfold mn4
        by_cases h : 10 * a + (d - 48) < 10000
        · rw [if_pos h, if_pos ((nI_ltI (by omega) (by omega)).mpr h)]
        · rw [if_neg h, if_neg (fun h3 => h ((nI_ltI (by omega) (by omega)).mp h3))]
      have eU : uI (uI (rI hp 37 o) 37 6 (if (rI hp 37 o).1 37 6 * nI 10 + (rI hp 37 o).1 38 ((rI hp 37 o).1 37 5).toNatClampNeg - nI 48 < nI 10000 then (rI hp 37 o).1 37 6 * nI 10 + (rI hp 37 o).1 38 ((rI hp 37 o).1 37 5).toNatClampNeg - nI 48 else nI 10000)) 37 5 ((uI (rI hp 37 o) 37 6 (if (rI hp 37 o).1 37 6 * nI 10 + (rI hp 37 o).1 38 ((rI hp 37 o).1 37 5).toNatClampNeg - nI 48 < nI 10000 then (rI hp 37 o).1 37 6 * nI 10 + (rI hp 37 o).1 38 ((rI hp 37 o).1 37 5).toNatClampNeg - nI 48 else nI 10000)).1 37 5 + nI 1) = rI hp 37 (upd (upd o 6 (nI (mn4 (10 * a + (d - 48))))) 5 (nI (k + 1))) := by
        rw [em, u37, h37, pk_un (by omega), o5, nI_s, u37]
      have k9 := ih (upd (upd o 6 (nI (mn4 (10 * a + (d - 48))))) 5 (nI (k + 1))) ⟨by rw [pk_un (by omega), pk_un (by omega)]; exact ho.1, by rw [pk_un (by omega), pk_un (by omega)]; exact ho.2⟩ (by rw [pk_un (by omega), pk_un (by omega)]; exact o4) (by rw [pk_un (by omega), pk_un (by omega)]; exact o3) pk_us (by rw [pk_un (by omega), pk_us])
      rw [← eU] at k9
      exact cl_use hG k9 ⟨rfl, trivial⟩)
  -- what it is
  have k46 : ∀ o, sm3 (hp.1 37) o → o 4 = nI S → G 46 [(0, vR 3 37)] [] (rI hp 37 o) := by
    intro o ho o4
    have eU : uI (uI (rI hp 37 o) 37 5 ((rI hp 37 o).1 37 4)) 37 6 (nI 0) = rI hp 37 (upd (upd o 5 (nI S)) 6 (nI 0)) := by rw [h37, o4, u37, u37]
    have ho1 : sm3 (hp.1 37) (upd (upd o 5 (nI S)) 6 (nI 0)) := ⟨by rw [pk_un (by omega), pk_un (by omega)]; exact ho.1, by rw [pk_un (by omega), pk_un (by omega)]; exact ho.2⟩
    have o41 : upd (upd o 5 (nI S)) 6 (nI 0) 4 = nI S := by rw [pk_un (by omega), pk_un (by omega)]; exact o4
    have o51 : upd (upd o 5 (nI S)) 6 (nI 0) 5 = nI S := by rw [pk_un (by omega), pk_us]
    have o61 : upd (upd o 5 (nI S)) 6 (nI 0) 6 = nI 0 := pk_us
    refine run hG [59] 60 ?_
    refine cl_lv hG [(0, vR 3 37)] ⟨rfl, trivial⟩ ?_
    show G 59 _ [] (uI (uI (rI hp 37 o) 37 5 ((rI hp 37 o).1 37 4)) 37 6 (nI 0))
    rw [eU]
    generalize upd (upd o 5 (nI S)) 6 (nI 0) = p at ho1 o41 o51 o61
    have up : ∀ v, sm3 (hp.1 37) (upd p 3 v) ∧ upd p 3 v 4 = nI S ∧ upd p 3 v 5 = nI S ∧ upd p 3 v 6 = nI 0 ∧ upd p 3 v 3 = v := fun v => ⟨⟨by rw [pk_un (by omega)]; exact ho1.1, by rw [pk_un (by omega)]; exact ho1.2⟩, by rw [pk_un (by omega)]; exact o41, by rw [pk_un (by omega)]; exact o51, by rw [pk_un (by omega)]; exact o61, pk_us⟩
    have hS4 : (rI hp 37 p).1 37 4 = nI S := by rw [h37]; exact o41
    have hS1 : (rI hp 37 p).1 37 1 = nI n := by rw [h37, ho1.1, e1]
    refine run hG [78, 259] 60 ?_
    refine And.intro (fun h1 => ?_) (fun h1 => ?_)
    case refine_2 =>
      have h1 : ¬ (rI hp 37 p).1 37 4 < (rI hp 37 p).1 37 1 := h1
      rw [hS4, hS1, nI_ltI (by omega) (by omega)] at h1
      refine cl_lv hG [(0, vR 3 37)] ⟨rfl, trivial⟩ ?_
      show G 259 _ [] (uI (rI hp 37 p) 37 3 (nI 0))
      rw [u37]
      have hu := up (nI 0)
      refine run hG [] 60 ?_
      exact hQ _ hu.1 ⟨hu.2.1, fun _ => ⟨hu.2.2.2.2, hu.2.2.1⟩, fun h => absurd h h1, fun h => absurd h h1, fun h => absurd h h1⟩
    have h1 : (rI hp 37 p).1 37 4 < (rI hp 37 p).1 37 1 := h1
    rw [hS4, hS1, nI_ltI (by omega) (by omega)] at h1
    have hin : vp_in ((rI hp 37 p).1 37 4) 120 := by rw [hS4]; exact vp_in_nI (by omega) (by omega)
    have eb : (rI hp 37 p).1 38 ((rI hp 37 p).1 37 4).toNatClampNeg = B S := by rw [hB, hS4, nI_clamp (by omega)]
    refine cl_lv hG [(0, vR 3 37)] ⟨rfl, trivial⟩ ?_
    refine run hG [98, 137] 60 ?_
    refine And.intro hin ?_
    refine And.intro trivial ?_
    refine And.intro (fun h2 => ?_) (fun h2 => ?_)
    case refine_2 =>
      have h2 : lrB ((rI hp 37 p).1 38 ((rI hp 37 p).1 37 4).toNatClampNeg) = true := bB_1.mp h2
      rw [eb] at h2
      have hu := up (nI 1)
      have k9 := lets S hbl.2 (Nat.le_refl _) h1 h2 rfl _ hu.1 hu.2.1 hu.2.2.2.2 hu.2.2.1
      rw [← u37] at k9
      exact cl_use hG k9 ⟨rfl, trivial⟩
    have h2 : lrB ((rI hp 37 p).1 38 ((rI hp 37 p).1 37 4).toNatClampNeg) = false := bB_0.mp h2
    rw [eb] at h2
    refine cl_lv hG [(0, vR 3 37)] ⟨rfl, trivial⟩ ?_
    refine run hG [157, 226] 60 ?_
    refine And.intro hin ?_
    refine And.intro trivial ?_
    refine And.intro (fun h3 => ?_) (fun h3 => ?_)
    case refine_2 =>
      have h3 : dgB ((rI hp 37 p).1 38 ((rI hp 37 p).1 37 4).toNatClampNeg) = true := bB_1.mp h3
      rw [eb] at h3
      have hu := up (nI 2)
      have k9 := digs S hbl.2 (Nat.le_refl _) h1 h2 h3 rfl _ hu.1 hu.2.1 hu.2.2.2.2 hu.2.2.1 (by rw [Nat.sub_self]; exact hu.2.2.2.1)
      rw [← u37] at k9
      exact cl_use hG k9 ⟨rfl, trivial⟩
    have h3 : dgB ((rI hp 37 p).1 38 ((rI hp 37 p).1 37 4).toNatClampNeg) = false := bB_0.mp h3
    rw [eb] at h3
    have fin : ∀ v, v = (if B S = nI 59 then nI 3 else nI 4) → Q none (uI (uI (rI hp 37 p) 37 3 v) 37 5 ((uI (rI hp 37 p) 37 3 v).1 37 5 + nI 1)) := by
      intro v hv
      have hu := up v
      rw [u37, h37, hu.2.2.1, nI_s, u37]
      exact hQ _ ⟨by rw [pk_un (by omega)]; exact hu.1.1, by rw [pk_un (by omega)]; exact hu.1.2⟩ ⟨by rw [pk_un (by omega)]; exact hu.2.1, fun h => absurd h1 (by omega), fun _ h => absurd h (by rw [h2]; decide), fun _ _ h => absurd h (by rw [h3]; decide), fun _ _ _ => ⟨by rw [pk_un (by omega), hu.2.2.2.2, hv], pk_us⟩⟩
    refine cl_lv hG [(0, vR 3 37)] ⟨rfl, trivial⟩ ?_
    refine run hG [] 60 ?_
    refine And.intro hin ?_
    refine And.intro (fun h4 => ?_) (fun h4 => ?_)
    · have h4 : ¬ (rI hp 37 p).1 38 ((rI hp 37 p).1 37 4).toNatClampNeg = nI 59 := h4
      rw [eb] at h4
      exact fin _ (if_neg h4).symm
    · have h4 : (rI hp 37 p).1 38 ((rI hp 37 p).1 37 4).toNatClampNeg = nI 59 := h4
      rw [eb] at h4
      exact fin _ (if_pos h4).symm
  -- blanks
  have blks := for_up (P := fun k => skp blB B n e = skp blB B n k → ∀ o, sm3 (hp.1 37) o → o 4 = nI k → G 8 [(0, vR 3 37)] [] (rI hp 37 o)) n (by
    intro hs o ho o4
    rw [skp_n (h := n) (by rw [byt_n]; decide)] at hs
    have hSn : S = n := hS.symm.trans hs
    have k9 := k46 o ho (by rw [hSn]; exact o4)
    refine run hG [46] 60 ?_
    refine And.intro (fun h1 => ?_) (fun h1 => ?_)
    · exact cl_use hG k9 ⟨rfl, trivial⟩
    · have h1 : ¬ (rI hp 37 o).1 37 1 ≤ (rI hp 37 o).1 37 4 := h1
      rw [h37, ho.1, e1, o4] at h1
      exact absurd (nI_le (Nat.le_refl _) (by omega)) h1) (by
    intro k hk ih hs o ho o4
    have ek : ((rI hp 37 o).1 37 4).toNatClampNeg = k := by rw [h37, o4, nI_clamp (by omega)]
    refine run hG [8, 46] 60 ?_
    refine And.intro (fun h1 => ?_) (fun h1 => ?_)
    · have h1 : (rI hp 37 o).1 37 1 ≤ (rI hp 37 o).1 37 4 := h1
      rw [h37, ho.1, e1, o4] at h1
      exact absurd h1 (nI_ge hk (by omega))
    refine And.intro (show vp_in ((rI hp 37 o).1 37 4) 120 by rw [h37, o4]; exact vp_in_nI (by omega) (by omega)) ?_
    refine And.intro (fun h2 => ?_) (fun h2 => ?_)
    · have h2 : ¬ (rI hp 37 o).1 38 ((rI hp 37 o).1 37 4).toNatClampNeg = nI 32 := h2
      rw [hB, ek] at h2
      rw [skp_n (h := k) (by rw [byt_lt hk]; exact decide_eq_false h2)] at hs
      have hSk : S = k := hS.symm.trans hs
      exact cl_use hG (k46 o ho (by rw [hSk]; exact o4)) ⟨rfl, trivial⟩
    · have h2 : (rI hp 37 o).1 38 ((rI hp 37 o).1 37 4).toNatClampNeg = nI 32 := h2
      rw [hB, ek] at h2
      rw [skp_s (h := k) hk (by rw [byt_lt hk]; exact decide_eq_true h2)] at hs
      have eU : uI (rI hp 37 o) 37 4 ((rI hp 37 o).1 37 4 + nI 1) = rI hp 37 (upd o 4 (nI (k + 1))) := by rw [h37, o4, nI_s, u37]
      have k9 := ih hs (upd o 4 (nI (k + 1))) ⟨by rw [pk_un (by omega)]; exact ho.1, by rw [pk_un (by omega)]; exact ho.2⟩ pk_us
      rw [← eU] at k9
      exact cl_use hG k9 ⟨rfl, trivial⟩)
  refine run hG [8] 60 ?_
  refine cl_lv hG [(0, vR 3 37)] ⟨rfl, trivial⟩ ?_
  show G 8 _ [] (uI hp 37 4 (hp.1 37 5))
  rw [uI_r, e5]
  exact blks e he rfl _ ⟨pk_un (by omega), pk_un (by omega)⟩ pk_us
theorem sc_X1_nextToken {own : String} {F L idx : Nat} (h1 : Cond.methodLink own idx yX1_nextToken ∈ Gw) (hF : 2 ≤ F) (hL : 41 ≤ L) : SC own F L (idx, false, 1, sp_X1_nextToken) := SC_V spF_mono c_X1_nextToken okd_3 (fun as hp K h => by obtain ⟨x, hx, -⟩ := spF_e h; exact ⟨_, _, d_T_e hx⟩) h1 gw_613 gw_10 gw_73 gw_614 (by decide +kernel) hF hL
