def mayK (hp : HP) (m : Nat) : Nat := tB hp + (if wrd (hp.1 62) (tN hp) (tB hp) m = true then tx_n m else 0)
theorem mayK_le {hp : HP} (h : TS hp) (m : Nat) : tB hp ≤ mayK hp m ∧ mayK hp m ≤ tN hp := by
  have hb := h.b
  have hw := skp_le lrB (hp.1 62) hb.2
  unfold mayK
  cases h1 : wrd (hp.1 62) (tN hp) (tB hp) m with
  | false =>
    rw [if_neg (by decide)]
    omega
  | true =>
    rw [if_pos rfl]
    unfold wrd at h1
    have := of_decide_eq_true (Bool.and_eq_true_iff.mp h1).1
    omega
def sp_X5_may_ : SP := spH d_M_X (fun m hp => TS hp ∧ txok m ∧ hp.1 52 13 = -1) (fun m hp => some (vI (bB (wrd (hp.1 62) (tN hp) (tB hp) m)))) (fun m hp => uI hp 52 12 (nI (mayK hp m)))
def E_X5_may_ : EN := [(220, false, 2, sp_X5_isWord), (211, false, 1, sp_J0_length_8abf5)]
set_option maxRecDepth 100000 in
set_option maxHeartbeats 4000000 in
theorem c_X5_may_ : Ctr M_X5_may_ sp_X5_may_ := by
  refine ctr_of (own := RX5) M_X5_may_ sp_X5_may_ (P := P_X5_may_) (K := K_X5) (E := E_X5_may_) (by decide) rfl pk_X5_may_ K_X5_ok (List.forall_mem_cons.mpr ⟨sc_X5_isWord gw_1170 (by decide) (by decide), List.forall_mem_cons.mpr ⟨sc_J0_length_8abf5 gw_1189 (by decide) (by decide), fun _ h => absurd h List.not_mem_nil⟩⟩) (fun as hp Q h => by obtain ⟨x, hx, -⟩ := spH_e h; rw [d_M_X_e hx]; exact Nat.le_of_ble_eq_true rfl) ?_
  intro Q G hQi hG as hp h
  obtain ⟨x, hx, hpre, hQ⟩ := spH_e h
  rw [d_M_X_e hx]
  clear h hx
  obtain ⟨hts, htx, hfl⟩ := hpre
  unfold mayK at hQ
  have e12 : (uI hp 52 12 (nI (tB hp))).1 52 12 = nI (tB hp) := uI_same _ _ _ _
  refine run hG [] 60 ?_
  refine And.intro (fun h1 => ?_) (fun h1 => ?_)
  · have h1 : 0 ≤ hp.1 52 13 := h1
    rw [hfl] at h1
    exact absurd h1 not_nn
  refine And.intro ⟨hts, htx⟩ ?_
  refine And.intro (fun h2 => ?_) (fun h2 => ?_)
  · have h2 : wrd (hp.1 62) (tN hp) (tB hp) x = false := bB_0.mp h2
    refine And.intro (fun h3 => ?_) (fun h3 => absurd (by decide) h3)
    rw [h2, if_neg (by decide)] at hQ
    refine And.intro (Or.inl rfl) ?_
    refine q_ih hQ rfl ?_
    show uI (uI hp 52 12 (nI (tB hp))) 52 12 ((uI hp 52 12 (nI (tB hp))).1 52 12 + nI 0) = _
    rw [e12, uI_uI, nI_add]
  · have h2 : wrd (hp.1 62) (tN hp) (tB hp) x = true := bB_1.mp h2
    refine And.intro (fun h3 => absurd h3 (by decide)) (fun h3 => ?_)
    refine And.intro htx ?_
    rw [h2, if_pos rfl] at hQ
    refine And.intro (Or.inr rfl) ?_
    refine q_ih hQ rfl ?_
    show uI (uI hp 52 12 (nI (tB hp))) 52 12 ((uI hp 52 12 (nI (tB hp))).1 52 12 + nI (tx_n x)) = _
    rw [e12, uI_uI, nI_add]
theorem sc_X5_may_ {own : String} {F L idx : Nat} (h1 : Cond.methodLink own idx yX5_may_ ∈ Gw) (hF : 7 ≤ F) (hL : 151 ≤ L) : SC own F L (idx, false, 2, sp_X5_may_) := SC_V spH_mono c_X5_may_ okd_5 (fun as hp K h => by obtain ⟨x, hx, -⟩ := spH_e h; exact ⟨_, _, d_M_X_e hx⟩) h1 gw_1197 gw_57 gw_75 gw_1198 (by decide +kernel) hF hL
def fltH (hp : HP) (s : Nat) : HP := uI (uI hp 52 12 (nI s)) 52 13 (nI s)
def mustH (hp : HP) (m : Nat) : HP := if wrd (hp.1 62) (tN hp) (tB hp) m = true then uI hp 52 12 (nI (mayK hp m)) else fltH hp (tB hp)
theorem flt_eq {hp : HP} {s : Nat} (h : hp.1 52 13 = -1) : uI (uI hp 52 12 (nI s)) 52 13 (if 0 ≤ (uI hp 52 12 (nI s)).1 52 13 then (uI hp 52 12 (nI s)).1 52 13 else (uI hp 52 12 (nI s)).1 52 12) = fltH hp s := by
  rw [uI_oth _ _ _ (by omega), h, if_neg not_nn, uI_same]
  rfl
def sp_X5_must : SP := spH d_M_X (fun m hp => TS hp ∧ txok m ∧ hp.1 52 13 = -1) (fun m hp => some (vI (bB (wrd (hp.1 62) (tN hp) (tB hp) m)))) (fun m hp => mustH hp m)
def E_X5_must : EN := [(224, false, 2, sp_X5_may_), (226, false, 1, sp_X5_fails)]
set_option maxRecDepth 100000 in
set_option maxHeartbeats 4000000 in
theorem c_X5_must : Ctr M_X5_must sp_X5_must := by
  refine ctr_of (own := RX5) M_X5_must sp_X5_must (P := P_X5_must) (K := K_X5) (E := E_X5_must) (by decide) rfl pk_X5_must K_X5_ok (List.forall_mem_cons.mpr ⟨sc_X5_may_ gw_1195 (by decide) (by decide), List.forall_mem_cons.mpr ⟨sc_X5_fails gw_1191 (by decide) (by decide), fun _ h => absurd h List.not_mem_nil⟩⟩) (fun as hp Q h => by obtain ⟨x, hx, -⟩ := spH_e h; rw [d_M_X_e hx]; exact Nat.le_of_ble_eq_true rfl) ?_
  intro Q G hQi hG as hp h
  obtain ⟨x, hx, hpre, hQ⟩ := spH_e h
  rw [d_M_X_e hx]
  clear h hx
  unfold mustH at hQ
  refine run hG [] 60 ?_
  refine And.intro hpre ?_
  refine And.intro (fun h2 => ?_) (fun h2 => ?_)
  · have h2 : wrd (hp.1 62) (tN hp) (tB hp) x = true := bB_1.mp h2
    rw [h2, if_pos rfl] at hQ
    exact And.intro (Or.inr rfl) hQ
  · have h2 : wrd (hp.1 62) (tN hp) (tB hp) x = false := bB_0.mp h2
    rw [h2, if_neg (by decide)] at hQ
    refine And.intro trivial ?_
    refine And.intro (fun h3 => ?_) (fun h3 => absurd (by decide) h3)
    refine And.intro (Or.inl rfl) ?_
    refine q_ih hQ rfl ?_
    have ek : mayK hp x = tB hp := by unfold mayK; rw [h2, if_neg (by decide)]; rfl
    show uI (uI hp 52 12 (nI (mayK hp x))) 52 13 (if 0 ≤ (uI hp 52 12 (nI (mayK hp x))).1 52 13 then (uI hp 52 12 (nI (mayK hp x))).1 52 13 else (uI hp 52 12 (nI (mayK hp x))).1 52 12) = _
    rw [ek]
    exact flt_eq hpre.2.2
theorem sc_X5_must {own : String} {F L idx : Nat} (h1 : Cond.methodLink own idx yX5_must ∈ Gw) (hF : 8 ≤ F) (hL : 172 ≤ L) : SC own F L (idx, false, 2, sp_X5_must) := SC_V spH_mono c_X5_must okd_5 (fun as hp K h => by obtain ⟨x, hx, -⟩ := spH_e h; exact ⟨_, _, d_M_X_e hx⟩) h1 gw_1206 gw_59 gw_75 gw_1207 (by decide +kernel) hF hL
def sp_X5_isNumber : SP := spH d_M (fun _ hp => TS hp ∧ hp.1 52 13 = -1) (fun _ hp => some (vI (bB (dgB (byt (hp.1 62) (tN hp) (tB hp)))))) (fun _ hp => uI hp 52 12 (nI (tB hp)))
def E_X5_isNumber : EN := [(205, false, 1, sp_X5_blanks), (196, false, 2, sp_X5_byteAt), (230, true, 1, sp_X5_isDigit)]
set_option maxRecDepth 100000 in
set_option maxHeartbeats 4000000 in
theorem c_X5_isNumber : Ctr M_X5_isNumber sp_X5_isNumber := by
  refine ctr_of (own := RX5) M_X5_isNumber sp_X5_isNumber (P := P_X5_isNumber) (K := K_X5) (E := E_X5_isNumber) (by decide) rfl pk_X5_isNumber K_X5_ok (List.forall_mem_cons.mpr ⟨sc_X5_blanks gw_1174 (by decide) (by decide), List.forall_mem_cons.mpr ⟨sc_X5_byteAt gw_1178 (by decide) (by decide), List.forall_mem_cons.mpr ⟨sc_X5_isDigit gw_1212 (by decide) (by decide), fun _ h => absurd h List.not_mem_nil⟩⟩⟩) (fun as hp Q h => by obtain ⟨x, hx, -⟩ := spH_e h; rw [d_M_e hx]; exact Nat.le_of_ble_eq_true rfl) ?_
  intro Q G hQi hG as hp h
  obtain ⟨x, hx, hpre, hQ⟩ := spH_e h
  rw [d_M_e hx]
  clear h hx
  have hn := hpre.1.n
  have hb := hpre.1.b
  have h0 := hpre.1.to hb.2
  have e12 : (uI hp 52 12 (nI (tB hp))).1 52 12 = nI (tB hp) := uI_same _ _ _ _
  have e9 : byt ((uI hp 52 12 (nI (tB hp))).1 62) (tN (uI hp 52 12 (nI (tB hp)))) ((uI hp 52 12 (nI (tB hp))).1 52 12).toNatClampNeg = byt (hp.1 62) (tN hp) (tB hp) := by
    rw [uI_row _ _ _ (by omega), h0.2.1, e12, nI_clamp (by omega)]
  refine run hG [] 60 ?_
  refine And.intro hpre.1 ?_
  refine And.intro (fun h1 => ?_) (fun h1 => ?_)
  · have h1 : 0 ≤ (uI hp 52 12 (nI (tB hp))).1 52 13 := h1
    rw [uI_oth _ _ _ (by omega), hpre.2] at h1
    exact absurd h1 not_nn
  refine And.intro ⟨show vp_in ((uI hp 52 12 (nI (tB hp))).1 52 12) 1000 by rw [e12]; exact vp_in_nI (by omega) (by omega), tN hp, hn.1, show (uI hp 52 12 (nI (tB hp))).1 52 11 = _ by rw [uI_oth _ _ _ (by omega)]; exact hn.2.2.1⟩ ?_
  refine And.intro trivial ?_
  refine And.intro (fun h2 => ?_) (fun h2 => ?_)
  · have h2 : dgB (byt ((uI hp 52 12 (nI (tB hp))).1 62) (tN (uI hp 52 12 (nI (tB hp)))) ((uI hp 52 12 (nI (tB hp))).1 52 12).toNatClampNeg) = false := bB_0.mp h2
    rw [e9] at h2
    rw [h2] at hQ
    exact And.intro (Or.inl rfl) hQ
  · have h2 : dgB (byt ((uI hp 52 12 (nI (tB hp))).1 62) (tN (uI hp 52 12 (nI (tB hp)))) ((uI hp 52 12 (nI (tB hp))).1 52 12).toNatClampNeg) = true := bB_1.mp h2
    rw [e9] at h2
    rw [h2] at hQ
    exact And.intro (Or.inr rfl) hQ
theorem sc_X5_isNumber {own : String} {F L idx : Nat} (h1 : Cond.methodLink own idx yX5_isNumber ∈ Gw) (hF : 3 ≤ F) (hL : 62 ≤ L) : SC own F L (idx, false, 1, sp_X5_isNumber) := SC_V spH_mono c_X5_isNumber okd_5 (fun as hp K h => by obtain ⟨x, hx, -⟩ := spH_e h; exact ⟨_, _, d_M_e hx⟩) h1 gw_1249 gw_65 gw_75 gw_1250 (by decide +kernel) hF hL
/-! numbers -/
def nv (t : Nat → Int32) (s : Nat) : Nat → Nat
  | 0 => 0
  | k + 1 => 10 * nv t s k + ((t (s + k)).toNatClampNeg - 48)
theorem num_s {v : Int64} {b : Int32} {a d : Nat} (ha : a ≤ 99999) (hv : v.toInt = a) (hb : b.toInt = d) (h1 : 48 ≤ d) (h2 : d ≤ 57) : (10 * v + b.toInt64 - 48).toInt = ((10 * a + (d - 48) : Nat) : Int) := by
  rw [Int64.toInt_sub, Int64.toInt_add, Int64.toInt_mul, Int32.toInt_toInt64, hv, hb]
  have e1 : (10 : Int64).toInt = 10 := rfl
  have e2 : (48 : Int64).toInt = 48 := rfl
  rw [e1, e2]
  rw [Int.bmod_eq_of_le (n := (10 * (a : Int))) (by omega) (by omega)]
  rw [Int.bmod_eq_of_le (n := (10 * (a : Int) + d)) (by omega) (by omega)]
  rw [Int.bmod_eq_of_le (by omega) (by omega)]
  omega
theorem dg_of {x : Int32} (h : dgB x = true) : ∃ d : Nat, 48 ≤ d ∧ d ≤ 57 ∧ x = nI d := in_nI (by omega) (by omega) (and_t.mp h)
theorem byt_in {p : Int32 → Bool} {t : Nat → Int32} {n k : Nat} (h1 : p (-1) = false) (h : p (byt t n k) = true) : k < n ∧ byt t n k = t k := by
  unfold byt at h ⊢
  by_cases hk : n ≤ k
  · rw [if_pos hk, h1] at h
    cases h
  · rw [if_neg hk]
    exact ⟨by omega, rfl⟩
def mn5 (a : Nat) : Nat := if a < 99999 then a else 99999
theorem mn5_s (a d : Nat) : mn5 (10 * a + d) = mn5 (10 * mn5 a + d) := by
  unfold mn5
  by_cases h : a < 99999
  · rw [if_pos h]
  · rw [if_neg h, if_neg (by omega), if_neg (by omega)]
def nuE (hp : HP) : Nat := skp dgB (hp.1 62) (tN hp) (tB hp)
def nuV (hp : HP) : Nat := nv (hp.1 62) (tB hp) (nuE hp - tB hp)
def nuB (hp : HP) (m : Nat) : Bool := dgB (byt (hp.1 62) (tN hp) (tB hp)) && decide (nuV hp ≤ m)
def nuH (hp : HP) (m : Nat) : HP := if nuB hp m = true then uI (uI hp 52 12 (nI (nuE hp))) 52 14 (nI (nuV hp)) else fltH hp (tB hp)
def sp_X5_number : SP := spH d_M_II (fun x hp => TS hp ∧ hp.1 52 13 = -1 ∧ x.1 = nI 0 ∧ vp_in x.2 1000) (fun x hp => some (vI (bB (nuB hp x.2.toNatClampNeg)))) (fun x hp => nuH hp x.2.toNatClampNeg)
def E_X5_number : EN := [(205, false, 1, sp_X5_blanks), (196, false, 2, sp_X5_byteAt), (230, true, 1, sp_X5_isDigit), (226, false, 1, sp_X5_fails), (239, true, 2, sp_minL)]
set_option maxRecDepth 100000 in
set_option maxHeartbeats 4000000 in
theorem c_X5_number : Ctr M_X5_number sp_X5_number := by
  refine ctr_of (own := RX5) M_X5_number sp_X5_number (P := P_X5_number) (K := K_X5) (E := E_X5_number) (by decide) rfl pk_X5_number K_X5_ok (List.forall_mem_cons.mpr ⟨sc_X5_blanks gw_1174 (by decide) (by decide), List.forall_mem_cons.mpr ⟨sc_X5_byteAt gw_1178 (by decide) (by decide), List.forall_mem_cons.mpr ⟨sc_X5_isDigit gw_1212 (by decide) (by decide), List.forall_mem_cons.mpr ⟨sc_X5_fails gw_1191 (by decide) (by decide), List.forall_mem_cons.mpr ⟨SC_minL (gw_at 1218 (by decide +kernel) rfl) (gw_at 1219 (by decide +kernel) rfl) (gw_at 76 (by decide +kernel) rfl) (gw_at 1220 (by decide +kernel) rfl) (by decide) (by decide), fun _ h => absurd h List.not_mem_nil⟩⟩⟩⟩⟩) (fun as hp Q h => by obtain ⟨x, hx, -⟩ := spH_e h; rw [d_M_II_e hx]; exact Nat.le_of_ble_eq_true rfl) ?_
  intro Q G hQi hG as hp h
  obtain ⟨x, hx, hpre, hQ⟩ := spH_e h
  rw [d_M_II_e hx]
  clear h hx
  obtain ⟨lo, m⟩ := x
  try dsimp only at hpre hQ ⊢
  obtain ⟨hts, hfl, hlo, hm⟩ := hpre
  obtain ⟨M, hM, rfl⟩ := vp_in_of hm (by omega)
  have hlo : lo = nI 0 := hlo
  subst hlo
  have eM : (nI M).toNatClampNeg = M := nI_clamp (by omega)
  rw [eM] at hQ
  have hn := hts.n
  have hb := hts.b
  have h0 := hts.to hb.2
  have e12 : (uI hp 52 12 (nI (tB hp))).1 52 12 = nI (tB hp) := uI_same _ _ _ _
  have e11 : ∃ n, n ≤ 120 ∧ (uI hp 52 12 (nI (tB hp))).1 52 11 = nI n := ⟨tN hp, hn.1, by rw [uI_oth _ _ _ (by omega)]; exact hn.2.2.1⟩
  have eby : ∀ k, k ≤ 120 → byt ((uI hp 52 12 (nI (tB hp))).1 62) (tN (uI hp 52 12 (nI (tB hp)))) (nI k).toNatClampNeg = byt (hp.1 62) (tN hp) k := fun k hk => by
    rw [uI_row _ _ _ (by omega), h0.2.1, nI_clamp (by omega)]
  have bad : nuB hp M = false → ((nI 0 : Int32) = 0 ∨ (nI 0 : Int32) = 1) ∧ Q (some (vI (nI 0))) (uI (uI hp 52 12 (nI (tB hp))) 52 13 (if 0 ≤ (uI hp 52 12 (nI (tB hp))).1 52 13 then (uI hp 52 12 (nI (tB hp))).1 52 13 else (uI hp 52 12 (nI (tB hp))).1 52 12)) := by
    intro h
    refine ⟨Or.inl rfl, ?_⟩
    rw [flt_eq hfl]
    unfold nuH at hQ
    rw [h, if_neg (by decide)] at hQ
    exact hQ
  have e13 : ¬ 0 ≤ (uI hp 52 12 (nI (tB hp))).1 52 13 := by rw [uI_oth _ _ _ (by omega), hfl]; exact not_nn
  refine run hG [38] 60 ?_
  refine And.intro hts ?_
  refine And.intro (fun h1 => absurd h1 e13) (fun h1 => ?_)
  refine And.intro ⟨show vp_in ((uI hp 52 12 (nI (tB hp))).1 52 12) 1000 by rw [e12]; exact vp_in_nI (by omega) (by omega), e11⟩ ?_
  refine And.intro trivial ?_
  have e9 : byt ((uI hp 52 12 (nI (tB hp))).1 62) (tN (uI hp 52 12 (nI (tB hp)))) ((uI hp 52 12 (nI (tB hp))).1 52 12).toNatClampNeg = byt (hp.1 62) (tN hp) (tB hp) := by rw [e12]; exact eby _ (by omega)
  refine And.intro (fun h2 => ?_) (fun h2 => ?_)
  case refine_2 =>
    have h2 : dgB (byt ((uI hp 52 12 (nI (tB hp))).1 62) (tN (uI hp 52 12 (nI (tB hp)))) ((uI hp 52 12 (nI (tB hp))).1 52 12).toNatClampNeg) = false := bB_0.mp h2
    rw [e9] at h2
    exact And.intro trivial (bad (by unfold nuB; rw [h2]; rfl))
  have h2 : dgB (byt ((uI hp 52 12 (nI (tB hp))).1 62) (tN (uI hp 52 12 (nI (tB hp)))) ((uI hp 52 12 (nI (tB hp))).1 52 12).toNatClampNeg) = true := bB_1.mp h2
  rw [e9] at h2
  have hEn := skp_le dgB (hp.1 62) hb.2
  have hE : tB hp ≤ nuE hp ∧ nuE hp ≤ tN hp := hEn
  -- the end
  have fin : ∀ v : Int64, v.toInt = (mn5 (nuV hp) : Nat) → dgB (byt (hp.1 62) (tN hp) (nuE hp)) = false → G 38 [(5, vI (nI (nuE hp))), (3, vL v), (0, vR 5 52), (1, vI (nI 0)), (2, vI (nI M))] [] (uI hp 52 12 (nI (tB hp))) := by
    intro v hv hnd
    refine run hG [38] 60 ?_
    refine And.intro ⟨vp_in_nI (by omega) (by omega), e11⟩ ?_
    refine And.intro trivial ?_
    refine And.intro (fun h3 => ?_) (fun h3 => ?_)
    case refine_2 =>
      have h3 : dgB (byt ((uI hp 52 12 (nI (tB hp))).1 62) (tN (uI hp 52 12 (nI (tB hp)))) (nI (nuE hp)).toNatClampNeg) = true := bB_1.mp h3
      rw [eby _ (by omega), hnd] at h3
      cases h3
    have e0 : (nI 0).toInt64.toInt = 0 := rfl
    have eM64 : (nI M).toInt64.toInt = M := by rw [Int32.toInt_toInt64, nI_toInt (by omega)]
    refine And.intro (fun h4 => ?_) (fun h4 => ?_)
    · have h4 : lg_cmp v (nI 0).toInt64 < 0 := h4
      rw [lg_cmp_lt, Int64.lt_iff_toInt_lt, hv, e0] at h4
      omega
    refine And.intro (fun h5 => ?_) (fun h5 => ?_)
    · have h5 : lg_cmp v (nI M).toInt64 ≤ 0 := h5
      rw [lg_cmp_le, Int64.le_iff_toInt_le, hv, eM64] at h5
      have h6 : mn5 (nuV hp) = nuV hp := by
        unfold mn5 at h5 ⊢
        split at h5
        · next h => rw [if_pos h]
        · omega
      rw [h6] at h5 hv
      have hyes : nuB hp M = true := by
        unfold nuB
        rw [h2, decide_eq_true (by omega)]
        rfl
      unfold nuH at hQ
      rw [hyes, if_pos rfl] at hQ
      refine And.intro (Or.inr rfl) ?_
      refine q_ih hQ rfl ?_
      show uI (uI (uI hp 52 12 (nI (tB hp))) 52 12 (nI (nuE hp))) 52 14 v.toInt32 = _
      rw [uI_uI]
      congr 1
      apply Int32.toInt_inj.mp
      rw [nI_toInt (by omega), ← hv, ← Int32.toInt_toInt64, lg_i2l_l2i (by omega) (by omega)]
    · have h5 : ¬ lg_cmp v (nI M).toInt64 ≤ 0 := h5
      rw [lg_cmp_le, Int64.le_iff_toInt_le, hv, eM64] at h5
      refine And.intro trivial (bad ?_)
      unfold nuB
      have : mn5 (nuV hp) ≤ nuV hp := by unfold mn5; split <;> omega
      rw [decide_eq_false (p := nuV hp ≤ M) (by omega), Bool.and_false]
  have key := for_up (P := fun k => skp dgB (hp.1 62) (tN hp) (tB hp) = skp dgB (hp.1 62) (tN hp) k → tB hp ≤ k → ∀ v : Int64, v.toInt = (mn5 (nv (hp.1 62) (tB hp) (k - tB hp)) : Nat) → G 38 [(5, vI (nI k)), (3, vL v), (0, vR 5 52), (1, vI (nI 0)), (2, vI (nI M))] [] (uI hp 52 12 (nI (tB hp)))) (tN hp) (by
    intro hs hk v hv
    have hnd : dgB (byt (hp.1 62) (tN hp) (tN hp)) = false := by rw [byt_n]; decide
    rw [skp_n (h := tN hp) hnd] at hs
    have hs : nuE hp = tN hp := hs
    unfold nuV at fin
    rw [hs] at fin
    exact fin v hv hnd) (by
    intro k hk ih hs hbk v hv
    cases hd : dgB (byt (hp.1 62) (tN hp) k) with
    | false =>
      rw [skp_n (h := k) hd] at hs
      have hs : nuE hp = k := hs
      unfold nuV at fin
      rw [hs] at fin
      exact fin v hv hd
    | true =>
      rw [skp_s (h := k) hk hd] at hs
      have ih := ih hs (by omega)
      obtain ⟨d, hd1, hd2, hd3⟩ := dg_of hd
      have hbt := byt_in (p := dgB) (by decide) hd
      have etk : (hp.1 62 k).toNatClampNeg = d := by rw [← hbt.2, hd3, nI_clamp (by omega)]
      have env : nv (hp.1 62) (tB hp) (k + 1 - tB hp) = 10 * nv (hp.1 62) (tB hp) (k - tB hp) + (d - 48) := by
        rw [show k + 1 - tB hp = (k - tB hp) + 1 by omega]
        show 10 * nv (hp.1 62) (tB hp) (k - tB hp) + ((hp.1 62 (tB hp + (k - tB hp))).toNatClampNeg - 48) = _
        rw [show tB hp + (k - tB hp) = k by omega, etk]
      rw [env, mn5_s] at ih
      generalize nv (hp.1 62) (tB hp) (k - tB hp) = a at hv ih
      have ha : mn5 a ≤ 99999 := by unfold mn5; split <;> omega
      generalize mn5 a = a5 at hv ih ha
      refine run hG [38] 60 ?_
      refine And.intro ⟨vp_in_nI (by omega) (by omega), e11⟩ ?_
      refine And.intro trivial ?_
      refine And.intro (fun h3 => ?_) (fun h3 => ?_)
      · have h3 : dgB (byt ((uI hp 52 12 (nI (tB hp))).1 62) (tN (uI hp 52 12 (nI (tB hp)))) (nI k).toNatClampNeg) = false := bB_0.mp h3
        rw [eby _ (by omega), hd] at h3
        cases h3
      refine And.intro ⟨vp_in_nI (by omega) (by omega), e11⟩ ?_
      have ebv : (byt ((uI hp 52 12 (nI (tB hp))).1 62) (tN (uI hp 52 12 (nI (tB hp)))) (nI k).toNatClampNeg).toInt = d := by rw [eby _ (by omega), hd3, nI_toInt (by omega)]
      have ens := num_s ha hv ebv hd1 hd2
      generalize hy : 10 * v + (byt ((uI hp 52 12 (nI (tB hp))).1 62) (tN (uI hp 52 12 (nI (tB hp)))) (nI k).toNatClampNeg).toInt64 - 48 = y at ens
      have k8 := ih (if y < 99999 then y else 99999) (by
        have e5 : (99999 : Int64).toInt = 99999 := rfl
        by_cases hlt : y < 99999
        · rw [if_pos hlt, ens]
          rw [Int64.lt_iff_toInt_lt, ens, e5] at hlt
          unfold mn5
          rw [if_pos (by omega)]
        · rw [if_neg hlt, e5]
          rw [Int64.lt_iff_toInt_lt, ens, e5] at hlt
          unfold mn5
          rw [if_neg (by omega)]
          rfl)
      rw [← hy] at k8
      refine cl_lv hG [(5, vI (nI k + nI 1)), (3, _), (0, vR 5 52), (1, vI (nI 0)), (2, vI (nI M))] ⟨rfl, rfl, rfl, rfl, rfl, trivial⟩ ?_
      rw [nI_s]
      exact k8) (tB hp) hb.2 rfl (Nat.le_refl _) (lN 0) (by rw [Nat.sub_self]; rfl)
  rw [← e12] at key
  exact cl_use hG key ⟨rfl, rfl, rfl, rfl, rfl, trivial⟩
theorem sc_X5_number {own : String} {F L idx : Nat} (h1 : Cond.methodLink own idx yX5_number ∈ Gw) (hF : 3 ≤ F) (hL : 67 ≤ L) : SC own F L (idx, false, 3, sp_X5_number) := SC_V spH_mono c_X5_number okd_5 (fun as hp K h => by obtain ⟨x, hx, -⟩ := spH_e h; exact ⟨_, _, d_M_II_e hx⟩) h1 gw_1210 gw_60 gw_75 gw_1211 (by decide +kernel) hF hL
