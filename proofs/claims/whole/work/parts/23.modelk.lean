theorem bkR_at (f r : Nat → Int32) : ∀ D k, k < bkN f D → ∃ d, d < D ∧ bkB f d = true ∧ bkN f d = k ∧ bkR f r D k = nI (dr (d / 2) (d % 2 + 1))
  | 0, k, h => absurd h (Nat.not_lt_zero _)
  | D + 1, k, h => by
    have hN : bkN f (D + 1) = bkN f D + (if bkB f D = true then 1 else 0) := rfl
    have hR : bkR f r (D + 1) = if bkB f D = true then upd (bkR f r D) (bkN f D) (nI (dr (D / 2) (D % 2 + 1))) else bkR f r D := rfl
    by_cases hb : bkB f D = true
    · rw [if_pos hb] at hN hR
      rw [hR]
      by_cases hk : k = bkN f D
      · exact ⟨D, by omega, hb, hk.symm, by rw [hk, pk_us]⟩
      · obtain ⟨d, h1, h2, h3, h4⟩ := bkR_at f r D k (by omega)
        exact ⟨d, by omega, h2, h3, by rw [pk_un hk]; exact h4⟩
    · rw [if_neg hb] at hN hR
      rw [hR]
      obtain ⟨d, h1, h2, h3, h4⟩ := bkR_at f r D k (by omega)
      exact ⟨d, by omega, h2, h3, h4⟩
theorem dr12 {q y : Nat} (hq : q < 25) (hy : y = 1 ∨ y = 2) : 94 ≤ dr q y ∧ dr q y < 144 := by
  rcases hy with rfl | rfl
  · show 94 ≤ 94 + q ∧ 94 + q < 144
    omega
  · show 94 ≤ 119 + q ∧ 119 + q < 144
    omega
theorem bk_ok {f r : Nat → Int32} (h : bkN f 50 ≤ 12) : bkOK f (bkR f r 50) (bkN f 50) := by
  refine ⟨h, fun k hk => ?_⟩
  obtain ⟨d, h1, h2, h3, h4⟩ := bkR_at f r 50 k hk
  have hd := dr12 (q := d / 2) (y := d % 2 + 1) (by omega) (by omega)
  refine ⟨_, hd.1, hd.2, h4, ?_⟩
  unfold bkB mayB at h2
  rw [Bool.and_eq_true, Bool.and_eq_true, decide_eq_true_iff] at h2
  exact h2.1.2
def brI (f b : Nat → Int32) (m n size : Nat) : Nat → Bool := fun set => decide (onesV (nI set) = nI size) && sfB (setB f b (nI set) m) n
def brS (f b : Nat → Int32) (m n size : Nat) : Nat := fst_ (brI f b m n size) (2 ^ m) 0
def brO (f b : Nat → Int32) (m n : Nat) : Nat → Bool := fun size => decide (brS f b m n size < 2 ^ m)
def brF (f b : Nat → Int32) (m n : Nat) : Nat := fst_ (brO f b m n) (m + 1) 0
def brV (f b : Nat → Int32) (m n : Nat) (k : Int32) : Int32 := if k = 0 then nI (brF f b m n) else nI (brS f b m n (brF f b m n))
def F_barred (n k : Int32) (hp : HP) : Int32 × HP := if (nI 1 ≤ n ∧ n ≤ nI 120) ∧ inB k 2 = true then (if ltB (hp.1 53) n = true then noP hp 4 else
  (if bkN (hp.1 53) 50 ≤ 12 then (if brF (hp.1 53) (bkR (hp.1 53) (hp.1 58) 50) (bkN (hp.1 53) 50) n.toNatClampNeg ≤ bkN (hp.1 53) 50 then (brV (hp.1 53) (bkR (hp.1 53) (hp.1 58) 50) (bkN (hp.1 53) 50) n.toNatClampNeg k, rI hp 58 (bkR (hp.1 53) (hp.1 58) 50)) else noP (rI hp 58 (bkR (hp.1 53) (hp.1 58) 50)) 3)
   else noP (rI hp 58 (bkR (hp.1 53) (hp.1 58) 50)) 6)) else noP hp 0
def sp_X5_barred : SP := spF d_M_II (fun _ hp => WF (hp.1 53)) (fun x hp v hq => v = some (vI (F_barred x.1 x.2 hp).1) ∧ ∃ g, hq = rI (F_barred x.1 x.2 hp).2 55 g)
theorem shl12 : ∀ m, m < 13 → nI 1 <<< (nI m &&& 31) = nI (2 ^ m) := by decide +kernel
theorem pow12 : ∀ m, m < 13 → 2 ^ m < 10000 := by decide +kernel
theorem noP_55 (hp : HP) (k : Nat) (g : Nat → Int32) : noP (rI hp 55 g) k = ((noP hp k).1, rI (noP hp k).2 55 g) := by
  unfold noP
  refine Prod.ext rfl ?_
  show uI (rI hp 55 g) 57 _ ((rI hp 55 g).1 57 _ + nI 1) = rI (uI hp 57 _ _) 55 g
  rw [rI_ne _ _ (by omega), uI_r, uI_r, rI_ne _ _ (by omega), rI_comm hp _ _ (by omega)]
def E_X5_barred : EN := [(55, true, 3, sp_X5_in), (79, false, 2, sp_X5_no), (148, false, 2, sp_X5_isLate), (177, false, 1, sp_X5_banks), (124, true, 1, sp_X5_ones), (180, false, 4, sp_X5_isSafeBy)]
set_option maxRecDepth 100000 in
set_option maxHeartbeats 4000000 in
theorem c_X5_barred : Ctr M_X5_barred sp_X5_barred := by
  refine ctr_of (own := RX5) M_X5_barred sp_X5_barred (P := P_X5_barred) (K := K_X5) (E := E_X5_barred) (by decide) rfl pk_X5_barred K_X5_ok (List.forall_mem_cons.mpr ⟨sc_X5_in gw_883 (by decide) (by decide), List.forall_mem_cons.mpr ⟨sc_X5_no gw_895 (by decide) (by decide), List.forall_mem_cons.mpr ⟨sc_X5_isLate gw_1029 (by decide) (by decide), List.forall_mem_cons.mpr ⟨sc_X5_banks gw_1112 (by decide) (by decide), List.forall_mem_cons.mpr ⟨sc_X5_ones gw_1022 (by decide) (by decide), List.forall_mem_cons.mpr ⟨sc_X5_isSafeBy gw_1116 (by decide) (by decide), fun _ h => absurd h List.not_mem_nil⟩⟩⟩⟩⟩⟩) (fun as hp Q h => by obtain ⟨x, hx, -⟩ := spF_e h; rw [d_M_II_e hx]; exact Nat.le_of_ble_eq_true rfl) ?_
  intro Q G hQi hG as hp h
  obtain ⟨x, hx, hpre, hQ⟩ := spF_e h
  rw [d_M_II_e hx]
  clear h hx
  obtain ⟨n, k⟩ := x
  try dsimp only at hpre hQ ⊢
  have ib : (decide (nI 0 ≤ k) && decide (k ≤ nI 1)) = inB k 2 := in_b (by omega)
  have fin : ∀ p, F_barred n k hp = p → Q (some (vI p.1)) p.2 := fun p e => hQ _ _ ⟨by rw [e], p.2 |>.1 55, by rw [e, rI_self]⟩
  have fin2 : ∀ p g, F_barred n k hp = p → Q (some (vI p.1)) (rI p.2 55 g) := fun p g e => hQ _ _ ⟨by rw [e], g, by rw [e]⟩
  have no : ¬ ((nI 1 ≤ n ∧ n ≤ nI 120) ∧ inB k 2 = true) → Q (some (vI (noP hp 0).1)) (noP hp 0).2 := fun h => fin _ (if_neg h)
  refine run hG [60] 60 ?_
  refine And.intro trivial ?_
  refine And.intro (fun h1 => ?_) (fun h1 => ?_)
  · exact And.intro (vp_in_nI (by omega) (by omega)) (no (fun h => and_f (bB_0.mp h1) h.1))
  have h1 := and_t.mp (bB_1.mp h1)
  refine And.intro trivial ?_
  refine And.intro (fun h2 => ?_) (fun h2 => ?_)
  case refine_2 =>
    refine And.intro (vp_in_nI (by omega) (by omega)) (no (fun h => ?_))
    rw [← ib, show (decide (nI 0 ≤ k) && decide (k ≤ nI 1)) = false from bB_0.mp h2] at h
    exact absurd h.2 (by decide)
  have h2 : inB k 2 = true := ib ▸ bB_1.mp h2
  have hF : F_barred n k hp = _ := if_pos ⟨h1, h2⟩
  refine And.intro trivial ?_
  refine And.intro (fun h3 => ?_) (fun h3 => ?_)
  case refine_2 =>
    have h3 : ltB (hp.1 53) n = true := bB_1.mp h3
    rw [if_pos h3] at hF
    exact And.intro (vp_in_nI (by omega) (by omega)) (fin _ hF)
  have h3 : ltB (hp.1 53) n = false := bB_0.mp h3
  rw [if_neg (by rw [h3]; decide)] at hF
  refine And.intro trivial ?_
  have hle := bkN_le (hp.1 53) 50
  generalize hf : hp.1 53 = f at hpre hF hle
  generalize hb : bkR f (hp.1 58) 50 = b at hF
  have hbe : bkR (hp.1 53) (hp.1 58) 50 = b := by rw [hf]; exact hb
  have eN : bkN (hp.1 53) 50 = bkN f 50 := by rw [hf]
  refine And.intro (fun h4 => ?_) (fun h4 => ?_)
  case refine_2 =>
    have h4 : ¬ nI (bkN (hp.1 53) 50) ≤ nI 12 := h4
    rw [eN, nI_leI (by omega) (by omega)] at h4
    rw [if_neg h4] at hF
    refine And.intro (vp_in_nI (by omega) (by omega)) ?_
    rw [← hbe] at hF
    exact fin _ hF
  have h4 : nI (bkN (hp.1 53) 50) ≤ nI 12 := h4
  rw [eN, nI_leI (by omega) (by omega)] at h4
  rw [if_pos h4] at hF
  have hbk : bkOK f b (bkN f 50) := by rw [← hb]; exact bk_ok h4
  generalize bkN f 50 = m at hF h4 hbk eN
  have hp12 := pow12 m (by omega)
  have hs12 := shl12 m (by omega)
  have hn1 : vp_in n 1000 := in_k h1 (by omega) (by omega) (by omega)
  generalize hh : rI hp 58 b = h58 at hF
  have e53 : ∀ g, (rI h58 55 g).1 53 = f := fun g => by rw [rI_ne _ _ (by omega), ← hh, rI_ne _ _ (by omega)]; exact hf
  have e58 : ∀ g, (rI h58 55 g).1 58 = b := fun g => by rw [rI_ne _ _ (by omega), ← hh, rI_eq]
  have em : (nI m).toNatClampNeg = m := nI_clamp (by omega)
  have outer : ∀ size, size ≤ m + 1 → brF f b m n.toNatClampNeg = fst_ (brO f b m n.toNatClampNeg) (m + 1 - size) size → ∀ g, G 60 [(4, vI (nI size)), (3, vI (nI m)), (0, vR 5 52), (1, vI n), (2, vI k)] [] (rI h58 55 g) := by
    refine for_up (P := fun size => brF f b m n.toNatClampNeg = fst_ (brO f b m n.toNatClampNeg) (m + 1 - size) size → ∀ g, G 60 [(4, vI (nI size)), (3, vI (nI m)), (0, vR 5 52), (1, vI n), (2, vI k)] [] (rI h58 55 g)) (m + 1) ?_ ?_
    · intro ho g
      rw [Nat.sub_self] at ho
      have ho : brF f b m n.toNatClampNeg = m + 1 := ho
      rw [if_neg (by omega)] at hF
      refine run hG [60] 60 ?_
      refine And.intro (fun h5 => ?_) (fun h5 => absurd (nI_lt (by omega) (by omega)) h5)
      refine And.intro (vp_in_nI (by omega) (by omega)) ?_
      have := fin2 _ g hF
      rw [show rI (noP h58 3).2 55 g = (noP (rI h58 55 g) 3).2 by rw [noP_55]] at this
      exact this
    · intro size hs ih ho
      have e9 : m + 1 - size = (m + 1 - (size + 1)) + 1 := by omega
      rw [e9] at ho
      have ho : brF f b m n.toNatClampNeg = if brO f b m n.toNatClampNeg size = true then size else fst_ (brO f b m n.toNatClampNeg) (m + 1 - (size + 1)) (size + 1) := ho
      have inner : ∀ set, set ≤ 2 ^ m → brS f b m n.toNatClampNeg size = fst_ (brI f b m n.toNatClampNeg size) (2 ^ m - set) set → ∀ g, G 69 [(5, vI (nI set)), (4, vI (nI size)), (3, vI (nI m)), (0, vR 5 52), (1, vI n), (2, vI k)] [] (rI h58 55 g) := by
        refine for_up (P := fun set => brS f b m n.toNatClampNeg size = fst_ (brI f b m n.toNatClampNeg size) (2 ^ m - set) set → ∀ g, G 69 [(5, vI (nI set)), (4, vI (nI size)), (3, vI (nI m)), (0, vR 5 52), (1, vI n), (2, vI k)] [] (rI h58 55 g)) (2 ^ m) ?_ ?_
        · intro hS g
          rw [Nat.sub_self] at hS
          have hS : brS f b m n.toNatClampNeg size = 2 ^ m := hS
          have hO : brO f b m n.toNatClampNeg size = false := decide_eq_false (by omega)
          rw [if_neg (by rw [hO]; decide)] at ho
          refine run hG [60, 69] 60 ?_
          refine And.intro (fun h5 => ?_) (fun h5 => absurd ?_ h5)
          · refine cl_lv hG [(4, vI (nI size + nI 1)), (3, vI (nI m)), (0, vR 5 52), (1, vI n), (2, vI k)] ⟨rfl, rfl, rfl, rfl, rfl, trivial⟩ ?_
            rw [nI_s]
            exact ih ho g
          · show nI 1 <<< (nI m &&& 31) ≤ nI (2 ^ m)
            rw [hs12]
            exact nI_le (Nat.le_refl _) (by omega)
        · intro set hset ih2 hS g
          have e8 : 2 ^ m - set = (2 ^ m - (set + 1)) + 1 := by omega
          rw [e8] at hS
          have hS : brS f b m n.toNatClampNeg size = if brI f b m n.toNatClampNeg size set = true then set else fst_ (brI f b m n.toNatClampNeg size) (2 ^ m - (set + 1)) (set + 1) := hS
          have nxt : brI f b m n.toNatClampNeg size set = false → ∀ g, G 69 [(5, vI (nI set + nI 1)), (4, vI (nI size)), (3, vI (nI m)), (0, vR 5 52), (1, vI n), (2, vI k)] [] (rI h58 55 g) := by
            intro hI g
            rw [if_neg (by rw [hI]; decide)] at hS
            rw [nI_s]
            exact ih2 hS g
          refine run hG [60, 69] 60 ?_
          refine And.intro (fun h5 => absurd ?_ (nI_ge hset (by omega))) (fun h5 => ?_)
          · have h5 : nI 1 <<< (nI m &&& 31) ≤ nI set := h5
            rw [hs12] at h5
            exact h5
          refine And.intro trivial ?_
          refine And.intro (fun h6 => ?_) (fun h6 => ?_)
          · have h6 : ¬ onesV (nI set) = nI size := h6
            exact cl_use hG (nxt (by unfold brI; rw [decide_eq_false h6]; rfl) g) ⟨rfl, rfl, rfl, rfl, rfl, rfl, trivial⟩
          · have h6 : onesV (nI set) = nI size := h6
            have esb : setB ((rI h58 55 g).1 53) ((rI h58 55 g).1 58) (nI set) (nI m).toNatClampNeg = setB f b (nI set) m := by rw [e53, e58, em]
            refine And.intro ⟨show WF ((rI h58 55 g).1 53) by rw [e53]; exact hpre, vp_in_nI (by omega) (by omega), show bkOK ((rI h58 55 g).1 53) ((rI h58 55 g).1 58) (nI m).toNatClampNeg by rw [e53, e58, em]; exact hbk, hn1⟩ ?_
            have eh : rI (rI h58 55 g) 55 (setB ((rI h58 55 g).1 53) ((rI h58 55 g).1 58) (nI set) (nI m).toNatClampNeg) = rI h58 55 (setB f b (nI set) m) := by rw [esb, rI_rI]
            refine And.intro (fun h7 => ?_) (fun h7 => ?_)
            · have h7 : sfB (setB ((rI h58 55 g).1 53) ((rI h58 55 g).1 58) (nI set) (nI m).toNatClampNeg) n.toNatClampNeg = false := bB_0.mp h7
              rw [esb] at h7
              have k9 := nxt (by unfold brI; rw [h7, decide_eq_true h6]; rfl) (setB f b (nI set) m)
              rw [← eh] at k9
              exact cl_use hG k9 ⟨rfl, rfl, rfl, rfl, rfl, rfl, trivial⟩
            · have h7 : sfB (setB ((rI h58 55 g).1 53) ((rI h58 55 g).1 58) (nI set) (nI m).toNatClampNeg) n.toNatClampNeg = true := bB_1.mp h7
              rw [esb] at h7
              have hI : brI f b m n.toNatClampNeg size set = true := by unfold brI; rw [h7, decide_eq_true h6]; rfl
              rw [if_pos hI] at hS
              have hO : brO f b m n.toNatClampNeg size = true := decide_eq_true (by omega)
              rw [if_pos hO] at ho
              rw [if_pos (by omega)] at hF
              have f9 := fin2 _ (setB f b (nI set) m) hF
              unfold brV at f9
              rw [ho, hS, ← eh] at f9
              refine And.intro (fun h8 => ?_) (fun h8 => ?_)
              · rw [if_neg h8] at f9
                exact f9
              · rw [if_pos h8] at f9
                exact f9
      intro g
      refine run hG [60, 69] 60 ?_
      refine And.intro (fun h5 => absurd h5 (nI_nlt (by omega) (by omega))) (fun h5 => ?_)
      exact cl_use hG (inner 0 (Nat.zero_le _) rfl g) ⟨rfl, rfl, rfl, rfl, rfl, rfl, trivial⟩
  have k0 := outer 0 (by omega) rfl (h58.1 55)
  rw [rI_self] at k0
  have ebank : rI hp 58 (bkR (hp.1 53) (hp.1 58) 50) = h58 := by rw [hbe]; exact hh
  refine cl_lv hG [(4, vI (nI 0)), (3, vI (nI (bkN (hp.1 53) 50))), (0, vR 5 52), (1, vI n), (2, vI k)] ⟨rfl, rfl, rfl, rfl, rfl, trivial⟩ ?_
  show G 60 _ [] (rI hp 58 (bkR (hp.1 53) (hp.1 58) 50))
  rw [ebank, eN]
  exact k0
theorem sc_X5_barred {own : String} {F L idx : Nat} (h1 : Cond.methodLink own idx yX5_barred ∈ Gw) (hF : 9 ≤ F) (hL : 212 ≤ L) : SC own F L (idx, false, 3, sp_X5_barred) := SC_V spF_mono c_X5_barred okd_5 (fun as hp K h => by obtain ⟨x, hx, -⟩ := spF_e h; exact ⟨_, _, d_M_II_e hx⟩) h1 gw_1109 gw_1110 gw_75 gw_1111 (by decide +kernel) hF hL
