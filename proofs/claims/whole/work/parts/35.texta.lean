/-! the text, as the reference reads it -/
theorem uI_same (hp : HP) (c k : Nat) (v : Int32) : (uI hp c k v).1 c k = v := by rw [uI_r, rI_eq, upd_at, if_pos rfl]
theorem uI_oth (hp : HP) (c : Nat) {k j : Nat} (v : Int32) (h : j ≠ k) : (uI hp c k v).1 c j = hp.1 c j := by rw [uI_r, rI_eq, upd_at, if_neg h]
theorem uI_row (hp : HP) {c d : Nat} (k : Nat) (v : Int32) (h : d ≠ c) : (uI hp c k v).1 d = hp.1 d := by rw [uI_r, rI_ne _ _ h]
theorem uI_uI (hp : HP) (c k : Nat) (a b : Int32) : uI (uI hp c k a) c k b = uI hp c k b := by rw [uI_r hp, uI_rI, upd_upd, ← uI_r]
theorem uI_id {hp : HP} {c k : Nat} {v : Int32} (h : hp.1 c k = v) : uI hp c k v = hp := by rw [uI_r, ← h, upd_self, rI_self]
theorem upd_comm (f : Nat → Int32) {i j : Nat} (a b : Int32) (h : i ≠ j) : upd (upd f i a) j b = upd (upd f j b) i a := by
  funext k
  rw [upd_at, upd_at, upd_at, upd_at]
  by_cases h1 : k = j
  · subst h1
    rw [if_pos rfl, if_neg (Ne.symm h), if_pos rfl]
  · rw [if_neg h1, if_neg h1]
theorem uI_comm (hp : HP) (c : Nat) {i j : Nat} (a b : Int32) (h : i ≠ j) : uI (uI hp c i a) c j b = uI (uI hp c j b) c i a := by
  rw [uI_r hp, uI_rI, uI_r hp, uI_rI, upd_comm _ _ _ h]
def tN (hp : HP) : Nat := (hp.1 52 11).toNatClampNeg
def tH (hp : HP) : Nat := (hp.1 52 12).toNatClampNeg
def TS (hp : HP) : Prop := ∃ n h, n ≤ 120 ∧ h ≤ n ∧ hp.1 52 11 = nI n ∧ hp.1 52 12 = nI h
theorem TS.n {hp : HP} (h : TS hp) : tN hp ≤ 120 ∧ tH hp ≤ tN hp ∧ hp.1 52 11 = nI (tN hp) ∧ hp.1 52 12 = nI (tH hp) := by
  obtain ⟨n, k, hn, hk, e1, e2⟩ := h
  unfold tN tH
  rw [e1, e2, nI_clamp (by omega), nI_clamp (by omega)]
  exact ⟨hn, hk, rfl, rfl⟩
def byt (t : Nat → Int32) (n k : Nat) : Int32 := if n ≤ k then -1 else t k
def sp_X5_byteAt : SP := spP d_M_I (fun x hp => vp_in x 1000 ∧ ∃ n, n ≤ 120 ∧ hp.1 52 11 = nI n) (fun x hp => vI (byt (hp.1 62) (tN hp) x.toNatClampNeg))
def E_X5_byteAt : EN := []
set_option maxRecDepth 100000 in
set_option maxHeartbeats 4000000 in
theorem c_X5_byteAt : Ctr M_X5_byteAt sp_X5_byteAt := by
  refine ctr_of (own := RX5) M_X5_byteAt sp_X5_byteAt (P := P_X5_byteAt) (K := K_X5) (E := E_X5_byteAt) (by decide) rfl pk_X5_byteAt K_X5_ok (fun _ h => absurd h List.not_mem_nil) (fun as hp Q h => by obtain ⟨x, hx, -⟩ := spP_e h; rw [d_M_I_e hx]; exact Nat.le_of_ble_eq_true rfl) ?_
  intro Q G hQi hG as hp h
  obtain ⟨x, hx, hpre, hQ⟩ := spP_e h
  rw [d_M_I_e hx]
  clear h hx
  obtain ⟨hx, n, hn, e⟩ := hpre
  obtain ⟨k, hk, rfl⟩ := vp_in_of hx (by omega)
  unfold byt tN at hQ
  rw [e, nI_clamp (by omega), nI_clamp (by omega)] at hQ
  refine run hG [] 60 ?_
  refine And.intro (fun h1 => ?_) (fun h1 => ?_)
  · have h1 : hp.1 52 11 ≤ nI k := h1
    rw [e] at h1
    have : n ≤ k := by
      rw [Int32.le_iff_toInt_le, nI_toInt (by omega), nI_toInt (by omega)] at h1
      omega
    rw [if_pos this] at hQ
    exact hQ
  · have h1 : ¬ hp.1 52 11 ≤ nI k := h1
    rw [e] at h1
    have : ¬ n ≤ k := fun h => h1 (nI_le h (by omega))
    rw [if_neg this] at hQ
    refine And.intro (vp_in_nI (by omega) (by omega)) ?_
    exact q_i hQ (by show hp.1 62 (nI k).toNatClampNeg = _; rw [nI_clamp (by omega)])
theorem sc_X5_byteAt {own : String} {F L idx : Nat} (h1 : Cond.methodLink own idx yX5_byteAt ∈ Gw) (hF : 1 ≤ F) (hL : 21 ≤ L) : SC own F L (idx, false, 2, sp_X5_byteAt) := SC_V spP_mono c_X5_byteAt okd_5 (fun as hp K h => by obtain ⟨x, hx, -⟩ := spP_e h; exact ⟨_, _, d_M_I_e hx⟩) h1 gw_1180 gw_54 gw_75 gw_1181 (by decide +kernel) hF hL
def skp (p : Int32 → Bool) (t : Nat → Int32) (n h : Nat) : Nat := fst_ (fun k => !(p (byt t n k))) (n - h) h
theorem skp_le (p : Int32 → Bool) (t : Nat → Int32) {n h : Nat} (hh : h ≤ n) : h ≤ skp p t n h ∧ skp p t n h ≤ n := by
  have := fst_le (fun k => !(p (byt t n k))) (n - h) h
  unfold skp
  omega
theorem skp_s {p : Int32 → Bool} {t : Nat → Int32} {n h : Nat} (hh : h < n) (hp : p (byt t n h) = true) : skp p t n h = skp p t n (h + 1) := by
  unfold skp
  rw [show n - h = (n - (h + 1)) + 1 by omega]
  show (if (!(p (byt t n h))) = true then h else _) = _
  rw [hp, if_neg (by decide)]
theorem skp_n {p : Int32 → Bool} {t : Nat → Int32} {n h : Nat} (hp : p (byt t n h) = false) : skp p t n h = h := by
  unfold skp
  cases hm : n - h with
  | zero => rfl
  | succ m =>
    show (if (!(p (byt t n h))) = true then h else _) = _
    rw [hp, if_pos (by decide)]
theorem byt_n (t : Nat → Int32) (n : Nat) : byt t n n = -1 := if_pos (Nat.le_refl _)
def blB (x : Int32) : Bool := decide (x = nI 32)
def lrB (x : Int32) : Bool := decide (nI 97 ≤ x) && decide (x ≤ nI 122)
def dgB (x : Int32) : Bool := decide (nI 48 ≤ x) && decide (x ≤ nI 57)
def sp_X5_blanks : SP := spH d_M (fun _ hp => TS hp) (fun _ _ => none) (fun _ hp => uI hp 52 12 (nI (skp blB (hp.1 62) (tN hp) (tH hp))))
def E_X5_blanks : EN := [(196, false, 2, sp_X5_byteAt)]
set_option maxRecDepth 100000 in
set_option maxHeartbeats 4000000 in
theorem c_X5_blanks : Ctr M_X5_blanks sp_X5_blanks := by
  refine ctr_of (own := RX5) M_X5_blanks sp_X5_blanks (P := P_X5_blanks) (K := K_X5) (E := E_X5_blanks) (by decide) rfl pk_X5_blanks K_X5_ok (List.forall_mem_cons.mpr ⟨sc_X5_byteAt gw_1178 (by decide) (by decide), fun _ h => absurd h List.not_mem_nil⟩) (fun as hp Q h => by obtain ⟨x, hx, -⟩ := spH_e h; rw [d_M_e hx]; exact Nat.le_of_ble_eq_true rfl) ?_
  intro Q G hQi hG as hp h
  obtain ⟨x, hx, hpre, hQ⟩ := spH_e h
  rw [d_M_e hx]
  clear h hx
  obtain ⟨hn, hh, e11, e12⟩ := hpre.n
  generalize ht : hp.1 62 = t at hQ
  generalize tN hp = n at hQ hn hh e11
  generalize tH hp = h at hQ hh e12
  have key := for_up (P := fun k => skp blB t n h = skp blB t n k → G 0 [(0, vR 5 52)] [] (uI hp 52 12 (nI k))) n (by
    intro hs
    rw [skp_n (h := n) (by rw [byt_n]; decide)] at hs
    rw [hs] at hQ
    have eN : tN (uI hp 52 12 (nI n)) = n := by unfold tN; rw [uI_oth _ _ _ (by omega), e11, nI_clamp (by omega)]
    have e9 : byt ((uI hp 52 12 (nI n)).1 62) (tN (uI hp 52 12 (nI n))) ((uI hp 52 12 (nI n)).1 52 12).toNatClampNeg = -1 := by
      rw [eN, uI_same, nI_clamp (by omega), byt_n]
    refine run hG [0] 60 ?_
    refine And.intro ⟨show vp_in ((uI hp 52 12 (nI n)).1 52 12) 1000 by rw [uI_same]; exact vp_in_nI (by omega) (by omega), n, hn, by rw [uI_oth _ _ _ (by omega)]; exact e11⟩ ?_
    refine And.intro (fun h1 => hQ) (fun h1 => ?_)
    have h1 : byt ((uI hp 52 12 (nI n)).1 62) (tN (uI hp 52 12 (nI n))) ((uI hp 52 12 (nI n)).1 52 12).toNatClampNeg = nI 32 := h1
    rw [e9] at h1
    exact absurd h1 (by decide)) (by
    intro k hk ih hs
    have eN : tN (uI hp 52 12 (nI k)) = n := by unfold tN; rw [uI_oth _ _ _ (by omega), e11, nI_clamp (by omega)]
    have e9 : byt ((uI hp 52 12 (nI k)).1 62) (tN (uI hp 52 12 (nI k))) ((uI hp 52 12 (nI k)).1 52 12).toNatClampNeg = byt t n k := by
      rw [eN, uI_same, nI_clamp (by omega), uI_row _ _ _ (by omega), ht]
    refine run hG [0] 60 ?_
    refine And.intro ⟨show vp_in ((uI hp 52 12 (nI k)).1 52 12) 1000 by rw [uI_same]; exact vp_in_nI (by omega) (by omega), n, hn, by rw [uI_oth _ _ _ (by omega)]; exact e11⟩ ?_
    refine And.intro (fun h1 => ?_) (fun h1 => ?_)
    · have h1 : ¬ byt ((uI hp 52 12 (nI k)).1 62) (tN (uI hp 52 12 (nI k))) ((uI hp 52 12 (nI k)).1 52 12).toNatClampNeg = nI 32 := h1
      rw [e9] at h1
      rw [skp_n (h := k) (decide_eq_false h1)] at hs
      rw [hs] at hQ
      exact hQ
    · have h1 : byt ((uI hp 52 12 (nI k)).1 62) (tN (uI hp 52 12 (nI k))) ((uI hp 52 12 (nI k)).1 52 12).toNatClampNeg = nI 32 := h1
      rw [e9] at h1
      rw [skp_s (h := k) hk (decide_eq_true h1)] at hs
      have k9 := ih hs
      show G 0 _ [] (uI (uI hp 52 12 (nI k)) 52 12 ((uI hp 52 12 (nI k)).1 52 12 + nI 1))
      rw [uI_same, uI_uI, nI_s]
      exact cl_use hG k9 ⟨rfl, trivial⟩) h hh rfl
  rw [uI_id e12] at key
  exact cl_use hG key ⟨rfl, trivial⟩
theorem sc_X5_blanks {own : String} {F L idx : Nat} (h1 : Cond.methodLink own idx yX5_blanks ∈ Gw) (hF : 2 ≤ F) (hL : 41 ≤ L) : SC own F L (idx, false, 1, sp_X5_blanks) := SC_V spH_mono c_X5_blanks okd_5 (fun as hp K h => by obtain ⟨x, hx, -⟩ := spH_e h; exact ⟨_, _, d_M_e hx⟩) h1 gw_1176 gw_53 gw_75 gw_1177 (by decide +kernel) hF hL
def sp_X5_fails : SP := spH d_M (fun _ _ => True) (fun _ _ => some (vI (nI 0))) (fun _ hp => uI hp 52 13 (if 0 ≤ hp.1 52 13 then hp.1 52 13 else hp.1 52 12))
def E_X5_fails : EN := []
set_option maxRecDepth 100000 in
set_option maxHeartbeats 4000000 in
theorem c_X5_fails : Ctr M_X5_fails sp_X5_fails := by
  refine ctr_of (own := RX5) M_X5_fails sp_X5_fails (P := P_X5_fails) (K := K_X5) (E := E_X5_fails) (by decide) rfl pk_X5_fails K_X5_ok (fun _ h => absurd h List.not_mem_nil) (fun as hp Q h => by obtain ⟨x, hx, -⟩ := spH_e h; rw [d_M_e hx]; exact Nat.le_of_ble_eq_true rfl) ?_
  intro Q G hQi hG as hp h
  obtain ⟨x, hx, hpre, hQ⟩ := spH_e h
  rw [d_M_e hx]
  clear h hx
  refine run hG [] 60 ?_
  refine And.intro (fun h1 => ?_) (fun h1 => ?_)
  · have h1 : 0 ≤ hp.1 52 13 := h1
    rw [if_pos h1] at hQ
    exact And.intro (Or.inl rfl) hQ
  · have h1 : ¬ 0 ≤ hp.1 52 13 := h1
    rw [if_neg h1] at hQ
    exact And.intro (Or.inl rfl) hQ
theorem sc_X5_fails {own : String} {F L idx : Nat} (h1 : Cond.methodLink own idx yX5_fails ∈ Gw) (hF : 1 ≤ F) (hL : 20 ≤ L) : SC own F L (idx, false, 1, sp_X5_fails) := SC_V spH_mono c_X5_fails okd_5 (fun as hp K h => by obtain ⟨x, hx, -⟩ := spH_e h; exact ⟨_, _, d_M_e hx⟩) h1 gw_1193 gw_56 gw_75 gw_1194 (by decide +kernel) hF hL
def sp_X5_isLetter : SP := spP d_S_I (fun _ _ => True) (fun x _ => vI (bB (lrB x)))
def E_X5_isLetter : EN := [(55, true, 3, sp_X5_in)]
set_option maxRecDepth 100000 in
set_option maxHeartbeats 4000000 in
theorem c_X5_isLetter : Ctr M_X5_isLetter sp_X5_isLetter := by
  refine ctr_of (own := RX5) M_X5_isLetter sp_X5_isLetter (P := P_X5_isLetter) (K := K_X5) (E := E_X5_isLetter) (by decide) rfl pk_X5_isLetter K_X5_ok (List.forall_mem_cons.mpr ⟨sc_X5_in gw_883 (by decide) (by decide), fun _ h => absurd h List.not_mem_nil⟩) (fun as hp Q h => by obtain ⟨x, hx, -⟩ := spP_e h; rw [d_S_I_e hx]; exact Nat.le_of_ble_eq_true rfl) ?_
  intro Q G hQi hG as hp h
  obtain ⟨x, hx, hpre, hQ⟩ := spP_e h
  rw [d_S_I_e hx]
  clear h hx
  refine run hG [] 60 ?_
  refine And.intro trivial ?_
  exact q_b hQ rfl
theorem sc_X5_isLetter {own : String} {F L idx : Nat} (h1 : Cond.methodLink own idx yX5_isLetter ∈ Gw) (hF : 2 ≤ F) (hL : 42 ≤ L) : SC own F L (idx, true, 1, sp_X5_isLetter) := SC_S spP_mono c_X5_isLetter h1 gw_1187 gw_75 gw_1188 (by decide +kernel) hF hL
def sp_X5_isDigit : SP := spP d_S_I (fun _ _ => True) (fun x _ => vI (bB (dgB x)))
def E_X5_isDigit : EN := [(55, true, 3, sp_X5_in)]
set_option maxRecDepth 100000 in
set_option maxHeartbeats 4000000 in
theorem c_X5_isDigit : Ctr M_X5_isDigit sp_X5_isDigit := by
  refine ctr_of (own := RX5) M_X5_isDigit sp_X5_isDigit (P := P_X5_isDigit) (K := K_X5) (E := E_X5_isDigit) (by decide) rfl pk_X5_isDigit K_X5_ok (List.forall_mem_cons.mpr ⟨sc_X5_in gw_883 (by decide) (by decide), fun _ h => absurd h List.not_mem_nil⟩) (fun as hp Q h => by obtain ⟨x, hx, -⟩ := spP_e h; rw [d_S_I_e hx]; exact Nat.le_of_ble_eq_true rfl) ?_
  intro Q G hQi hG as hp h
  obtain ⟨x, hx, hpre, hQ⟩ := spP_e h
  rw [d_S_I_e hx]
  clear h hx
  refine run hG [] 60 ?_
  refine And.intro trivial ?_
  exact q_b hQ rfl
theorem sc_X5_isDigit {own : String} {F L idx : Nat} (h1 : Cond.methodLink own idx yX5_isDigit ∈ Gw) (hF : 2 ≤ F) (hL : 42 ≤ L) : SC own F L (idx, true, 1, sp_X5_isDigit) := SC_S spP_mono c_X5_isDigit h1 gw_1213 gw_75 gw_1214 (by decide +kernel) hF hL
def sp_X5_wordEnd : SP := spP d_M (fun _ hp => TS hp) (fun _ hp => vI (nI (skp lrB (hp.1 62) (tN hp) (tH hp))))
def E_X5_wordEnd : EN := [(196, false, 2, sp_X5_byteAt), (202, true, 1, sp_X5_isLetter)]
set_option maxRecDepth 100000 in
set_option maxHeartbeats 4000000 in
theorem c_X5_wordEnd : Ctr M_X5_wordEnd sp_X5_wordEnd := by
  refine ctr_of (own := RX5) M_X5_wordEnd sp_X5_wordEnd (P := P_X5_wordEnd) (K := K_X5) (E := E_X5_wordEnd) (by decide) rfl pk_X5_wordEnd K_X5_ok (List.forall_mem_cons.mpr ⟨sc_X5_byteAt gw_1178 (by decide) (by decide), List.forall_mem_cons.mpr ⟨sc_X5_isLetter gw_1186 (by decide) (by decide), fun _ h => absurd h List.not_mem_nil⟩⟩) (fun as hp Q h => by obtain ⟨x, hx, -⟩ := spP_e h; rw [d_M_e hx]; exact Nat.le_of_ble_eq_true rfl) ?_
  intro Q G hQi hG as hp h
  obtain ⟨x, hx, hpre, hQ⟩ := spP_e h
  rw [d_M_e hx]
  clear h hx
  obtain ⟨hn, hh, e11, e12⟩ := hpre.n
  have hb : ∀ k, k ≤ 120 → vp_in (nI k) 1000 ∧ ∃ n, n ≤ 120 ∧ hp.1 52 11 = nI n := fun k hk => ⟨vp_in_nI (by omega) (by omega), _, hn, e11⟩
  generalize ht : hp.1 62 = t at hQ
  generalize hnn : tN hp = n at hQ hn hh e11
  generalize tH hp = h at hQ hh e12
  have key := for_up (P := fun k => skp lrB t n h = skp lrB t n k → G 5 [(1, vI (nI k)), (0, vR 5 52)] [] hp) n (by
    intro hs
    rw [skp_n (h := n) (by rw [byt_n]; decide)] at hs
    rw [hs] at hQ
    have e9 : lrB (byt (hp.1 62) (tN hp) (nI n).toNatClampNeg) = false := by rw [hnn, nI_clamp (by omega), byt_n]; decide
    refine run hG [5] 60 ?_
    refine And.intro (hb n hn) ?_
    refine And.intro trivial ?_
    refine And.intro (fun h1 => hQ) (fun h1 => ?_)
    have h1 : lrB (byt (hp.1 62) (tN hp) (nI n).toNatClampNeg) = true := bB_1.mp h1
    rw [e9] at h1
    exact absurd h1 (by decide)) (by
    intro k hk ih hs
    have e9 : byt (hp.1 62) (tN hp) (nI k).toNatClampNeg = byt t n k := by rw [hnn, nI_clamp (by omega), ht]
    refine run hG [5] 60 ?_
    refine And.intro (hb k (by omega)) ?_
    refine And.intro trivial ?_
    refine And.intro (fun h1 => ?_) (fun h1 => ?_)
    · have h1 : lrB (byt (hp.1 62) (tN hp) (nI k).toNatClampNeg) = false := bB_0.mp h1
      rw [e9] at h1
      rw [skp_n (h := k) h1] at hs
      rw [hs] at hQ
      exact hQ
    · have h1 : lrB (byt (hp.1 62) (tN hp) (nI k).toNatClampNeg) = true := bB_1.mp h1
      rw [e9] at h1
      rw [skp_s (h := k) hk h1] at hs
      refine cl_lv hG [(1, vI (nI k + nI 1)), (0, vR 5 52)] ⟨rfl, rfl, trivial⟩ ?_
      rw [nI_s]
      exact ih hs) h hh rfl
  refine run hG [5] 60 ?_
  rw [← e12] at key
  exact cl_use hG key ⟨rfl, rfl, trivial⟩
theorem sc_X5_wordEnd {own : String} {F L idx : Nat} (h1 : Cond.methodLink own idx yX5_wordEnd ∈ Gw) (hF : 3 ≤ F) (hL : 63 ≤ L) : SC own F L (idx, false, 1, sp_X5_wordEnd) := SC_V spP_mono c_X5_wordEnd okd_5 (fun as hp K h => by obtain ⟨x, hx, -⟩ := spP_e h; exact ⟨_, _, d_M_e hx⟩) h1 gw_1184 gw_55 gw_75 gw_1185 (by decide +kernel) hF hL
