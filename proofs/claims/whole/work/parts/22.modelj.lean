/-! doors between the river and what is dry -/
def bkB (f : Nat → Int32) (d : Nat) : Bool := mayB f (d / 2) (d % 2 + 1) && decide (¬ f (69 + d / 2) = f (69 + bsd (d / 2) (d % 2 + 1)))
def bkN (f : Nat → Int32) : Nat → Nat
  | 0 => 0
  | d + 1 => bkN f d + (if bkB f d = true then 1 else 0)
def bkR (f r : Nat → Int32) : Nat → (Nat → Int32)
  | 0 => r
  | d + 1 => if bkB f d = true then upd (bkR f r d) (bkN f d) (nI (dr (d / 2) (d % 2 + 1))) else bkR f r d
theorem bkN_le (f : Nat → Int32) : ∀ d, bkN f d ≤ d
  | 0 => Nat.le_refl _
  | d + 1 => by
    have := bkN_le f d
    show bkN f d + (if bkB f d = true then 1 else 0) ≤ d + 1
    split <;> omega
def sp_X5_banks : SP := spH d_M (fun _ _ => True) (fun _ hp => some (vI (nI (bkN (hp.1 53) 50)))) (fun _ hp => rI hp 58 (bkR (hp.1 53) (hp.1 58) 50))
def E_X5_banks : EN := [(63, true, 2, sp_X5_beside), (103, false, 3, sp_X5_may), (66, true, 2, sp_X5_doorAt)]
set_option maxRecDepth 100000 in
set_option maxHeartbeats 4000000 in
theorem c_X5_banks : Ctr M_X5_banks sp_X5_banks := by
  refine ctr_of (own := RX5) M_X5_banks sp_X5_banks (P := P_X5_banks) (K := K_X5) (E := E_X5_banks) (by decide) rfl pk_X5_banks K_X5_ok (List.forall_mem_cons.mpr ⟨sc_X5_beside gw_889 (by decide) (by decide), List.forall_mem_cons.mpr ⟨sc_X5_may gw_970 (by decide) (by decide), List.forall_mem_cons.mpr ⟨sc_X5_doorAt gw_892 (by decide) (by decide), fun _ h => absurd h List.not_mem_nil⟩⟩⟩) (fun as hp Q h => by obtain ⟨x, hx, -⟩ := spH_e h; rw [d_M_e hx]; exact Nat.le_of_ble_eq_true rfl) ?_
  intro Q G hQi hG as hp h
  obtain ⟨x, hx, hpre, hQ⟩ := spH_e h
  rw [d_M_e hx]
  clear h hx
  generalize hf : hp.1 53 = f at hQ
  generalize hr : hp.1 58 = r at hQ
  have ef : ∀ g, (rI hp 58 g).1 53 = f := fun g => by rw [rI_ne _ _ (by omega)]; exact hf
  have inner : ∀ q, q < 25 → ∀ y, y < 2 → G 12 [(3, vI (nI (y + 2))), (2, vI (nI q)), (1, vI (nI (bkN f (2 * q + y + 1)))), (0, vR 5 52)] [] (rI hp 58 (bkR f r (2 * q + y + 1))) → G 12 [(3, vI (nI (y + 1))), (2, vI (nI q)), (1, vI (nI (bkN f (2 * q + y)))), (0, vR 5 52)] [] (rI hp 58 (bkR f r (2 * q + y))) := by
    intro q hq y hy hn
    have eq : (nI q).toNatClampNeg = q := nI_clamp (by omega)
    have ey : (nI (y + 1)).toNatClampNeg = y + 1 := nI_clamp (by omega)
    have hq0 : vp_in (nI q) 25 := vp_in_nI hq (by omega)
    have hy0 : vp_in (nI (y + 1)) 4 := vp_in_nI (by omega) (by omega)
    have d2 : (2 * q + y) / 2 = q := by omega
    have d3 : (2 * q + y) % 2 + 1 = y + 1 := by omega
    have hle := bkN_le f (2 * q + y)
    have eN : bkN f (2 * q + y + 1) = bkN f (2 * q + y) + (if bkB f (2 * q + y) = true then 1 else 0) := rfl
    have eR : bkR f r (2 * q + y + 1) = if bkB f (2 * q + y) = true then upd (bkR f r (2 * q + y)) (bkN f (2 * q + y)) (nI (dr ((2 * q + y) / 2) ((2 * q + y) % 2 + 1))) else bkR f r (2 * q + y) := rfl
    have eB : bkB f (2 * q + y) = (mayB f q (y + 1) && decide (¬ f (69 + q) = f (69 + bsd q (y + 1)))) := by unfold bkB; rw [d2, d3]
    rw [d2, d3] at eR
    generalize bkR f r (2 * q + y) = g at eR ⊢
    generalize bkN f (2 * q + y) = m at eN eR hle ⊢
    have no : bkB f (2 * q + y) = false → ∀ v, G 12 [(3, vI (nI (y + 1) + nI 1)), (4, v), (2, vI (nI q)), (1, vI (nI m)), (0, vR 5 52)] [] (rI hp 58 g) := by
      intro hb v
      rw [hb, if_neg (by decide)] at eN eR
      rw [eN, eR] at hn
      rw [nI_s]
      exact cl_use hG hn ⟨rfl, rfl, rfl, rfl, trivial⟩
    refine run hG [4, 12] 60 ?_
    refine And.intro (fun h1 => absurd h1 (nI_ge (by omega) (by omega))) (fun h1 => ?_)
    refine And.intro ⟨hq0, hy0⟩ ?_
    have ev : bsV (nI q).toNatClampNeg (nI (y + 1)).toNatClampNeg = bsV q (y + 1) := by rw [eq, ey]
    refine And.intro (fun h2 => ?_) (fun h2 => ?_)
    · have h2 : bsV (nI q).toNatClampNeg (nI (y + 1)).toNatClampNeg < 0 := h2
      rw [ev, bsV_neg q hq _ (by omega)] at h2
      refine cl_use hG (no ?_ (vI (bsV (nI q).toNatClampNeg (nI (y + 1)).toNatClampNeg))) ⟨rfl, rfl, rfl, rfl, rfl, trivial⟩
      rw [eB]
      unfold mayB
      rw [h2]
      rfl
    · refine And.intro ⟨hq0, hy0⟩ ?_
      refine And.intro (fun h3 => ?_) (fun h3 => ?_)
      · have h3 : mayB ((rI hp 58 g).1 53) (nI q).toNatClampNeg (nI (y + 1)).toNatClampNeg = false := bB_0.mp h3
        rw [ef, eq, ey] at h3
        refine cl_use hG (no ?_ (vI (bsV (nI q).toNatClampNeg (nI (y + 1)).toNatClampNeg))) ⟨rfl, rfl, rfl, rfl, rfl, trivial⟩
        rw [eB, h3]
        rfl
      · have h3 : mayB ((rI hp 58 g).1 53) (nI q).toNatClampNeg (nI (y + 1)).toNatClampNeg = true := bB_1.mp h3
        rw [ef, eq, ey] at h3
        have hb := may_bsd h3
        have hb25 : bsd q (y + 1) < 25 := by rcases bsd_lt q hq (y + 1) (by omega) with h | h <;> omega
        have e1 : nI 69 + nI q = nI (69 + q) := nI_add _ _
        have e2 : nI 69 + bsV (nI q).toNatClampNeg (nI (y + 1)).toNatClampNeg = nI (69 + bsd q (y + 1)) := by rw [ev, bsV_may hb, nI_add]
        refine And.intro (show vp_in (nI 69 + nI q) 184 by rw [e1]; exact vp_in_nI (by omega) (by omega)) ?_
        refine And.intro (show vp_in (nI 69 + bsV (nI q).toNatClampNeg (nI (y + 1)).toNatClampNeg) 184 by rw [e2]; exact vp_in_nI (by omega) (by omega)) ?_
        refine And.intro (fun h4 => ?_) (fun h4 => ?_)
        · have h4 : (rI hp 58 g).1 53 (nI 69 + nI q).toNatClampNeg = (rI hp 58 g).1 53 (nI 69 + bsV (nI q).toNatClampNeg (nI (y + 1)).toNatClampNeg).toNatClampNeg := h4
          rw [ef, e1, e2, nI_clamp (by omega), nI_clamp (by omega)] at h4
          refine cl_use hG (no ?_ (vI (bsV (nI q).toNatClampNeg (nI (y + 1)).toNatClampNeg))) ⟨rfl, rfl, rfl, rfl, rfl, trivial⟩
          rw [eB, h3, decide_eq_false (fun h => h h4)]
          rfl
        · have h4 : ¬ (rI hp 58 g).1 53 (nI 69 + nI q).toNatClampNeg = (rI hp 58 g).1 53 (nI 69 + bsV (nI q).toNatClampNeg (nI (y + 1)).toNatClampNeg).toNatClampNeg := h4
          rw [ef, e1, e2, nI_clamp (by omega), nI_clamp (by omega)] at h4
          have hyes : bkB f (2 * q + y) = true := by rw [eB, h3, decide_eq_true h4]; rfl
          rw [hyes, if_pos rfl] at eN eR
          refine And.intro ⟨hq0, hy0⟩ ?_
          refine And.intro (vp_in_nI (by omega) (by omega)) ?_
          refine cl_lv hG [(3, vI (nI (y + 1) + nI 1)), (2, vI (nI q)), (1, vI (nI m + nI 1)), (0, vR 5 52)] ⟨rfl, rfl, rfl, rfl, trivial⟩ ?_
          rw [nI_s, nI_s, ← eN]
          show G 12 _ [] (uI (rI hp 58 g) 58 (nI m).toNatClampNeg (nI (dr (nI q).toNatClampNeg (nI (y + 1)).toNatClampNeg)))
          rw [uI_rI, nI_clamp (by omega), eq, ey, ← eR]
          exact hn
  have key := for_up (P := fun q => G 4 [(2, vI (nI q)), (1, vI (nI (bkN f (2 * q)))), (0, vR 5 52)] [] (rI hp 58 (bkR f r (2 * q)))) 25 (by
    refine run hG [4] 60 ?_
    exact And.intro (fun h1 => hQ) (fun h1 => absurd (nI_le (Nat.le_refl _) (by omega)) h1)) (by
    intro q hq ih
    refine run hG [4, 12] 60 ?_
    refine And.intro (fun h1 => absurd h1 (nI_ge hq (by omega))) (fun h1 => ?_)
    refine cl_lv hG [(3, vI (nI (0 + 1))), (2, vI (nI q)), (1, vI (nI (bkN f (2 * q)))), (0, vR 5 52)] ⟨rfl, rfl, rfl, rfl, trivial⟩ ?_
    refine inner q hq 0 (by omega) ?_
    refine inner q hq 1 (by omega) ?_
    refine run hG [4, 12] 60 ?_
    refine And.intro (fun h1 => ?_) (fun h1 => absurd (nI_le (Nat.le_refl _) (by omega)) h1)
    refine cl_lv hG [(2, vI (nI q + nI 1)), (1, vI (nI (bkN f (2 * (q + 1))))), (0, vR 5 52)] ⟨rfl, rfl, rfl, trivial⟩ ?_
    rw [nI_s]
    exact ih) 0 (by omega)
  have key : G 4 [(2, vI (nI 0)), (1, vI (nI 0)), (0, vR 5 52)] [] (rI hp 58 r) := key
  rw [← hr, rI_self] at key
  refine run hG [4] 60 ?_
  exact cl_use hG key ⟨rfl, rfl, rfl, trivial⟩
theorem sc_X5_banks {own : String} {F L idx : Nat} (h1 : Cond.methodLink own idx yX5_banks ∈ Gw) (hF : 3 ≤ F) (hL : 67 ≤ L) : SC own F L (idx, false, 1, sp_X5_banks) := SC_V spH_mono c_X5_banks okd_5 (fun as hp K h => by obtain ⟨x, hx, -⟩ := spH_e h; exact ⟨_, _, d_M_e hx⟩) h1 gw_1114 gw_48 gw_75 gw_1115 (by decide +kernel) hF hL
/-- the doors of a set shut, or open again -/
def setB (f b : Nat → Int32) (s : Int32) : Nat → (Nat → Int32)
  | 0 => f
  | k + 1 => upd (setB f b s k) (b k).toNatClampNeg (s >>> (nI k &&& 31) &&& nI 1)
def opnB (f b : Nat → Int32) : Nat → (Nat → Int32)
  | 0 => f
  | k + 1 => upd (opnB f b k) (b k).toNatClampNeg (nI 0)
def bkOK (f b : Nat → Int32) (m : Nat) : Prop := m ≤ 12 ∧ ∀ k, k < m → ∃ d, 94 ≤ d ∧ d < 144 ∧ b k = nI d ∧ f d = nI 0
theorem setB_out {f b : Nat → Int32} {s : Int32} {d : Nat} : ∀ {m : Nat}, (∀ k, k < m → (b k).toNatClampNeg ≠ d) → setB f b s m d = f d
  | 0, _ => rfl
  | m + 1, h => by
    show upd (setB f b s m) (b m).toNatClampNeg _ d = _
    rw [pk_un (Ne.symm (h m (by omega)))]
    exact setB_out (fun k hk => h k (by omega))
theorem opn_set {f b : Nat → Int32} {s : Int32} {M : Nat} (h : bkOK f b M) : ∀ {m : Nat}, M ≤ m → m ≤ M → opnB (setB f b s M) b m = f := by
  intro m h1 h2
  have e : m = M := by omega
  subst e
  funext d
  have key : ∀ n, n ≤ m → opnB (setB f b s m) b n d = if ∃ k, k < n ∧ (b k).toNatClampNeg = d then nI 0 else setB f b s m d := by
    intro n
    induction n with
    | zero =>
      intro _
      rw [if_neg (fun ⟨k, hk, _⟩ => Nat.not_lt_zero k hk)]
      rfl
    | succ n ih =>
      intro hn
      show upd (opnB (setB f b s m) b n) (b n).toNatClampNeg (nI 0) d = _
      rw [upd_at]
      by_cases hd : d = (b n).toNatClampNeg
      · rw [if_pos hd, if_pos ⟨n, by omega, hd.symm⟩]
      · rw [if_neg hd, ih (by omega)]
        by_cases hex : ∃ k, k < n ∧ (b k).toNatClampNeg = d
        · obtain ⟨k, hk, e⟩ := hex
          rw [if_pos ⟨k, hk, e⟩, if_pos ⟨k, by omega, e⟩]
        · have hex2 : ¬ ∃ k, k < n + 1 ∧ (b k).toNatClampNeg = d := by
            rintro ⟨k, hk, e⟩
            rcases Nat.lt_or_ge k n with h3 | h3
            · exact hex ⟨k, h3, e⟩
            · have : k = n := by omega
              subst this
              exact hd e.symm
          rw [if_neg hex, if_neg hex2]
  rw [key m (Nat.le_refl _)]
  by_cases hex : ∃ k, k < m ∧ (b k).toNatClampNeg = d
  · rw [if_pos hex]
    obtain ⟨k, hk, e⟩ := hex
    obtain ⟨d2, h3, h4, h5, h6⟩ := h.2 k hk
    rw [h5, nI_clamp (by omega)] at e
    rw [← e, h6]
  · rw [if_neg hex, setB_out (fun k hk e => hex ⟨k, hk, e⟩)]
theorem bit1 (s : Int32) (k : Nat) (hk : k < 32) : vp_in (s >>> (nI k &&& 31) &&& nI 1) 2 := by
  generalize s >>> (nI k &&& 31) = t
  have h : (t &&& nI 1).toBitVec = t.toBitVec &&& 1#32 := rfl
  have h2 : (t &&& nI 1).toBitVec.toNat < 2 := by
    rw [h, BitVec.toNat_and]
    have : t.toBitVec.toNat &&& (1#32).toNat ≤ (1#32).toNat := Nat.and_le_right
    have e : (1#32).toNat = 1 := rfl
    omega
  rw [vp_in_iff]
  have h3 : (t &&& nI 1).toInt = ((t &&& nI 1).toBitVec.toNat : Int) := by
    show (t &&& nI 1).toBitVec.toInt = _
    rw [BitVec.toInt_eq_toNat_cond, if_pos (by omega)]
  omega
theorem WF.flag {f : Nat → Int32} (h : WF f) {d : Nat} {v : Int32} (h1 : 44 ≤ d) (h2 : d < 144) (hv : vp_in v 2) : WF (upd f d v) ∧ mN (upd f d v) = mN f := by
  have h8 := mN_lt h
  have hwk := fun u hu => h.wk (w := u) hu
  obtain ⟨⟨n, hn, e6, hws⟩, hfl, r, hr, e5, hrs, h4⟩ := h
  refine ⟨⟨⟨n, hn, by rw [pk_un (by omega)]; exact e6, fun w hw => ?_⟩, fun k a b => ?_, r, hr, by rw [pk_un (by omega)]; exact e5, fun k hk => by rw [pk_un (by omega)]; exact hrs k hk, by rw [pk_un (by omega)]; exact h4⟩, ?_⟩
  · have := hws w hw
    unfold wkOK at this ⊢
    rw [pk_un (by omega), pk_un (by omega), pk_un (by omega), pk_un (by omega), pk_un (by omega)]
    exact this
  · rw [upd_at]
    split
    · exact hv
    · exact hfl k a b
  · unfold mN
    rw [pk_un (by omega)]
theorem WF_setB {f b : Nat → Int32} {M : Nat} (h : WF f) (hb : bkOK f b M) (s : Int32) : ∀ {m : Nat}, m ≤ M → WF (setB f b s m) ∧ mN (setB f b s m) = mN f
  | 0, _ => ⟨h, rfl⟩
  | m + 1, hm => by
    have ih := WF_setB h hb s (m := m) (by omega)
    obtain ⟨d, h3, h4, h5, -⟩ := hb.2 m (by omega)
    have hM := hb.1
    have := ih.1.flag (d := (b m).toNatClampNeg) (v := s >>> (nI m &&& 31) &&& nI 1) (by rw [h5, nI_clamp (by omega)]; omega) (by rw [h5, nI_clamp (by omega)]; omega) (bit1 s m (by omega))
    exact ⟨this.1, this.2.trans ih.2⟩
def sp_X5_isSafeBy : SP := spH d_M_III (fun x hp => WF (hp.1 53) ∧ vp_in x.2.1 13 ∧ bkOK (hp.1 53) (hp.1 58) x.2.1.toNatClampNeg ∧ vp_in x.2.2 1000) (fun x hp => some (vI (bB (sfB (setB (hp.1 53) (hp.1 58) x.1 x.2.1.toNatClampNeg) x.2.2.toNatClampNeg)))) (fun x hp => rI hp 55 (setB (hp.1 53) (hp.1 58) x.1 x.2.1.toNatClampNeg))
def E_X5_isSafeBy : EN := [(174, false, 2, sp_X5_isSafe)]
set_option maxRecDepth 100000 in
set_option maxHeartbeats 4000000 in
theorem c_X5_isSafeBy : Ctr M_X5_isSafeBy sp_X5_isSafeBy := by
  refine ctr_of (own := RX5) M_X5_isSafeBy sp_X5_isSafeBy (P := P_X5_isSafeBy) (K := K_X5) (E := E_X5_isSafeBy) (by decide) rfl pk_X5_isSafeBy K_X5_ok (List.forall_mem_cons.mpr ⟨sc_X5_isSafe gw_1104 (by decide) (by decide), fun _ h => absurd h List.not_mem_nil⟩) (fun as hp Q h => by obtain ⟨x, hx, -⟩ := spH_e h; rw [d_M_III_e hx]; exact Nat.le_of_ble_eq_true rfl) ?_
  intro Q G hQi hG as hp h
  obtain ⟨x, hx, hpre, hQ⟩ := spH_e h
  rw [d_M_III_e hx]
  clear h hx
  obtain ⟨s, m, n⟩ := x
  try dsimp only at hpre hQ ⊢
  obtain ⟨hwf, hm0, hbk, hn⟩ := hpre
  obtain ⟨m, hm, rfl⟩ := vp_in_of hm0 (by omega)
  rw [nI_clamp (by omega)] at hQ hbk
  generalize hf : hp.1 53 = f at hwf hbk hQ
  generalize hb : hp.1 58 = b at hbk hQ
  have bk58 : ∀ g c, c ≠ 58 → (rI hp c g).1 58 = b := fun g c hc => by rw [rI_ne _ _ (Ne.symm hc)]; exact hb
  have hin : ∀ k, k < m → vp_in (b k) 184 := fun k hk => by
    obtain ⟨d, h3, h4, h5, -⟩ := hbk.2 k hk
    rw [h5]
    exact vp_in_nI (by omega) (by omega)
  have hwa := fun k (hk : k ≤ m) => WF_setB hwf hbk s (m := k) hk
  generalize hz : setB f b s m = z at hQ
  have open_ := for_up (P := fun k => G 43 [(5, vI (nI k)), (4, vI (bB (sfB z n.toNatClampNeg))), (0, vR 5 52), (1, vI s), (2, vI (nI m)), (3, vI n)] [] (rI (rI hp 55 z) 53 (opnB z b k))) m (by
    refine run hG [43] 60 ?_
    refine And.intro (fun h1 => ?_) (fun h1 => absurd (nI_le (Nat.le_refl _) (by omega)) h1)
    refine q_bh hQ rfl ?_
    have e : opnB z b m = f := by rw [← hz]; exact opn_set hbk (Nat.le_refl _) (Nat.le_refl _)
    rw [e, ← hf, rI_comm hp _ _ (by omega), rI_self]) (by
    intro k hk ih
    have ek : (nI k).toNatClampNeg = k := nI_clamp (by omega)
    have e58 : (rI (rI hp 55 z) 53 (opnB z b k)).1 58 (nI k).toNatClampNeg = b k := by rw [rI_ne _ _ (by omega), bk58 _ _ (by omega), ek]
    refine run hG [43] 60 ?_
    refine And.intro (fun h1 => absurd h1 (nI_ge hk (by omega))) (fun h1 => ?_)
    have h12 := hbk.1
    refine And.intro (vp_in_nI (by omega) (by omega)) ?_
    refine And.intro (show vp_in ((rI (rI hp 55 z) 53 (opnB z b k)).1 58 (nI k).toNatClampNeg) 184 by rw [e58]; exact hin k hk) ?_
    refine cl_lv hG [(5, vI (nI k + nI 1)), (4, vI (bB (sfB z n.toNatClampNeg))), (0, vR 5 52), (1, vI s), (2, vI (nI m)), (3, vI n)] ⟨rfl, rfl, rfl, rfl, rfl, rfl, trivial⟩ ?_
    rw [nI_s]
    show G 43 _ [] (uI (rI (rI hp 55 z) 53 (opnB z b k)) 53 ((rI (rI hp 55 z) 53 (opnB z b k)).1 58 (nI k).toNatClampNeg).toNatClampNeg (nI 0))
    rw [e58, uI_rI]
    exact ih) 0 (by omega)
  have open_ : G 43 [(5, vI (nI 0)), (4, vI (bB (sfB z n.toNatClampNeg))), (0, vR 5 52), (1, vI s), (2, vI (nI m)), (3, vI n)] [] (rI (rI hp 55 z) 53 z) := open_
  have shut := for_up (P := fun k => G 3 [(4, vI (nI k)), (0, vR 5 52), (1, vI s), (2, vI (nI m)), (3, vI n)] [] (rI hp 53 (setB f b s k))) m (by
    refine run hG [3, 43] 60 ?_
    refine And.intro (fun h1 => ?_) (fun h1 => absurd (nI_le (Nat.le_refl _) (by omega)) h1)
    have e1 : (rI hp 53 (setB f b s m)).1 53 = z := by rw [rI_eq, hz]
    refine And.intro ⟨show WF ((rI hp 53 (setB f b s m)).1 53) by rw [rI_eq]; exact (hwa m (Nat.le_refl _)).1, hn⟩ ?_
    refine cl_lv hG [(5, vI (nI 0)), (4, vI (bB (sfB ((rI hp 53 (setB f b s m)).1 53) n.toNatClampNeg))), (0, vR 5 52), (1, vI s), (2, vI (nI m)), (3, vI n)] ⟨rfl, rfl, rfl, rfl, rfl, rfl, trivial⟩ ?_
    show G 43 _ [] (rI (rI hp 53 (setB f b s m)) 55 ((rI hp 53 (setB f b s m)).1 53))
    rw [e1, hz, rI_comm hp _ _ (by omega)]
    exact open_) (by
    intro k hk ih
    have ek : (nI k).toNatClampNeg = k := nI_clamp (by omega)
    have e58 : (rI hp 53 (setB f b s k)).1 58 (nI k).toNatClampNeg = b k := by rw [bk58 _ _ (by omega), ek]
    refine run hG [3, 43] 60 ?_
    refine And.intro (fun h1 => absurd h1 (nI_ge hk (by omega))) (fun h1 => ?_)
    have h12 := hbk.1
    refine And.intro (vp_in_nI (by omega) (by omega)) ?_
    refine And.intro (show vp_in ((rI hp 53 (setB f b s k)).1 58 (nI k).toNatClampNeg) 184 by rw [e58]; exact hin k hk) ?_
    refine cl_lv hG [(4, vI (nI k + nI 1)), (0, vR 5 52), (1, vI s), (2, vI (nI m)), (3, vI n)] ⟨rfl, rfl, rfl, rfl, rfl, trivial⟩ ?_
    rw [nI_s]
    show G 3 _ [] (uI (rI hp 53 (setB f b s k)) 53 ((rI hp 53 (setB f b s k)).1 58 (nI k).toNatClampNeg).toNatClampNeg (s >>> (nI k &&& 31) &&& nI 1))
    rw [e58, uI_rI]
    exact ih) 0 (by omega)
  have shut : G 3 [(4, vI (nI 0)), (0, vR 5 52), (1, vI s), (2, vI (nI m)), (3, vI n)] [] (rI hp 53 f) := shut
  rw [← hf, rI_self] at shut
  refine run hG [3] 60 ?_
  exact cl_use hG shut ⟨rfl, rfl, rfl, rfl, rfl, trivial⟩
theorem sc_X5_isSafeBy {own : String} {F L idx : Nat} (h1 : Cond.methodLink own idx yX5_isSafeBy ∈ Gw) (hF : 8 ≤ F) (hL : 187 ≤ L) : SC own F L (idx, false, 4, sp_X5_isSafeBy) := SC_V spH_mono c_X5_isSafeBy okd_5 (fun as hp K h => by obtain ⟨x, hx, -⟩ := spH_e h; exact ⟨_, _, d_M_III_e hx⟩) h1 gw_1118 gw_49 gw_75 gw_1119 (by decide +kernel) hF hL
