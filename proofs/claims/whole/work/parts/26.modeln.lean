/-! rows filled from the left, and rows that are the same as far as they go -/
def filL (g o : Nat → Int64) (k : Nat) : Nat → Int64 := fun j => if j < k then g j else o j
def filI (g o : Nat → Int32) (k : Nat) : Nat → Int32 := fun j => if j < k then g j else o j
theorem filL_0 (g o : Nat → Int64) : filL g o 0 = o := by funext j; exact if_neg (by omega)
theorem filI_0 (g o : Nat → Int32) : filI g o 0 = o := by funext j; exact if_neg (by omega)
theorem filL_s (g o : Nat → Int64) (k : Nat) : vp_updL (filL g o k) k (g k) = filL g o (k + 1) := by
  funext j
  rw [upL_at]
  unfold filL
  by_cases h2 : j = k
  · subst h2
    rw [if_pos rfl, if_pos (by omega)]
  · rw [if_neg h2]
    by_cases h3 : j < k
    · rw [if_pos h3, if_pos (by omega)]
    · rw [if_neg h3, if_neg (by omega)]
theorem filI_s (g o : Nat → Int32) (k : Nat) : upd (filI g o k) k (g k) = filI g o (k + 1) := by
  funext j
  rw [upd_at]
  unfold filI
  by_cases h2 : j = k
  · subst h2
    rw [if_pos rfl, if_pos (by omega)]
  · rw [if_neg h2]
    by_cases h3 : j < k
    · rw [if_pos h3, if_pos (by omega)]
    · rw [if_neg h3, if_neg (by omega)]
theorem heq_L {hp hq : HP} (h : heq hp hq) {c : Nat} {f g : Nat → Int64} (e : ∀ j, j < lenc c → f j = g j) : heq (rL hp c f) (rL hq c g) := by
  intro d hd j hj
  refine ⟨(h d hd j hj).1, ?_⟩
  by_cases hdc : d = c
  · subst hdc
    rw [rL_eq, rL_eq]
    exact e j hj
  · rw [rL_ne _ _ hdc, rL_ne _ _ hdc]
    exact (h d hd j hj).2
theorem heq_I {hp hq : HP} (h : heq hp hq) {c : Nat} {f g : Nat → Int32} (e : ∀ j, j < lenc c → f j = g j) : heq (rI hp c f) (rI hq c g) := by
  intro d hd j hj
  refine ⟨?_, (h d hd j hj).2⟩
  by_cases hdc : d = c
  · subst hdc
    rw [rI_eq, rI_eq]
    exact e j hj
  · rw [rI_ne _ _ hdc, rI_ne _ _ hdc]
    exact (h d hd j hj).1
theorem filL_all {g o : Nat → Int64} {n : Nat} : ∀ j, j < n → filL g o n j = g j := fun _ h => if_pos h
theorem filI_all {g o : Nat → Int32} {n : Nat} : ∀ j, j < n → filI g o n j = g j := fun _ h => if_pos h
theorem rL_comm (hp : HP) {c d : Nat} (f g : Nat → Int64) (h : c ≠ d) : rL (rL hp c f) d g = rL (rL hp d g) c f := by
  refine Prod.ext rfl ?_
  funext e
  by_cases h1 : e = d
  · subst h1
    rw [rL_eq, rL_ne _ _ (Ne.symm h), rL_eq]
  · by_cases h2 : e = c
    · subst h2
      rw [rL_ne _ _ h1, rL_eq, rL_eq]
    · rw [rL_ne _ _ h1, rL_ne _ _ h2, rL_ne _ _ h2, rL_ne _ _ h1]
theorem uL_r (hp : HP) (c k : Nat) (v : Int64) : uL hp c k v = rL hp c (vp_updL (hp.2 c) k v) := rfl
theorem uL_rL (hp : HP) (c k : Nat) (f : Nat → Int64) (v : Int64) : uL (rL hp c f) c k v = rL hp c (vp_updL f k v) := by rw [uL_r, rL_eq, rL_rL]
/-! the odds -/
def spM (f : Nat → Int32) (q : Nat) : Int32 := if f (69 + q) = nI 1 then nI 0 else waysC (mayB f q)
def spA (f : Nat → Int32) (p : Nat → Int64) (q : Nat) (nx : Nat → Int64) : Nat → Int64 := vp_updL nx q (nx q + (if spM f q = 0 then 12 * p q else lN 0))
def spB (f : Nat → Int32) (p : Nat → Int64) (q w : Nat) (nx : Nat → Int64) : Nat → Int64 := if spM f q >>> (nI w &&& 31) &&& nI 1 = nI 1 then vp_updL nx (bsd q w) (nx (bsd q w) + (nI 12 / onesV (spM f q)).toInt64 * p q) else nx
def spW (f : Nat → Int32) (p : Nat → Int64) (q : Nat) (nx : Nat → Int64) : Nat → (Nat → Int64)
  | 0 => nx
  | w + 1 => spB f p q w (spW f p q nx w)
def spQ (f : Nat → Int32) (p : Nat → Int64) : Nat → (Nat → Int64)
  | 0 => fun _ => lN 0
  | q + 1 => spW f p q (spA f p q (spQ f p q)) 4
def spO (a : Int32) : Nat → Int64 := fun j => if nI j = a then lN 1 else lN 0
def spd (f : Nat → Int32) (a : Int32) : Nat → (Nat → Int64)
  | 0 => spO a
  | n + 1 => spQ f (spd f a n) 25
theorem ways_bit (c : Nat → Bool) {w : Nat} (hw : w < 4) (h : waysC c >>> (nI w &&& 31) &&& nI 1 = nI 1) : c w = true := by
  have hw' : w = 0 ∨ w = 1 ∨ w = 2 ∨ w = 3 := by omega
  unfold waysC at h
  simp only [fold, waysG] at h
  cases h0 : c 0 <;> cases h1 : c 1 <;> cases h2 : c 2 <;> cases h3 : c 3 <;> rcases hw' with e | e | e | e <;> subst e <;> first | assumption | (rw [h0, h1, h2, h3] at h; exact absurd h (by decide))
theorem spM_bit {f : Nat → Int32} {q w : Nat} (hw : w < 4) (h : spM f q >>> (nI w &&& 31) &&& nI 1 = nI 1) : mayB f q w = true ∧ ¬ onesV (spM f q) = 0 := by
  unfold spM at h ⊢
  by_cases h1 : f (69 + q) = nI 1
  · rw [if_pos h1] at h
    have hw' : w = 0 ∨ w = 1 ∨ w = 2 ∨ w = 3 := by omega
    rcases hw' with e | e | e | e <;> subst e <;> exact absurd h (by decide)
  · rw [if_neg h1] at h ⊢
    have hc := ways_bit _ hw h
    refine ⟨hc, ?_⟩
    rw [ones_rc]
    have : 0 < rc (mayB f q) 4 0 := by
      have hw' : w = 0 ∨ w = 1 ∨ w = 2 ∨ w = 3 := by omega
      simp only [rc]
      rcases hw' with e | e | e | e <;> subst e <;> rw [hc, if_pos rfl] <;> omega
    have h4 : rc (mayB f q) 4 0 ≤ 4 := by
      simp only [rc]
      repeat' split
      all_goals omega
    intro h0
    have := (nI_eq (a := rc (mayB f q) 4 0) (b := 0) (by omega) (by omega)).mp h0
    omega
def sp_X5_spreads : SP := spF d_M_II (fun x _ => vp_in x.2 1000) (fun x hp v hq => v = none ∧ ∃ g, hq = rL (rL hp 61 g) 60 (spd (hp.1 53) x.1 x.2.toNatClampNeg))
def E_X5_spreads : EN := [(110, false, 2, sp_X5_waysFrom), (63, true, 2, sp_X5_beside), (124, true, 1, sp_X5_ones)]
set_option maxRecDepth 100000 in
set_option maxHeartbeats 4000000 in
theorem c_X5_spreads : Ctr M_X5_spreads sp_X5_spreads := by
  refine ctr_of (own := RX5) M_X5_spreads sp_X5_spreads (P := P_X5_spreads) (K := K_X5) (E := E_X5_spreads) (by decide) rfl pk_X5_spreads K_X5_ok (List.forall_mem_cons.mpr ⟨sc_X5_waysFrom gw_966 (by decide) (by decide), List.forall_mem_cons.mpr ⟨sc_X5_beside gw_889 (by decide) (by decide), List.forall_mem_cons.mpr ⟨sc_X5_ones gw_1022 (by decide) (by decide), fun _ h => absurd h List.not_mem_nil⟩⟩⟩) (fun as hp Q h => by obtain ⟨x, hx, -⟩ := spF_e h; rw [d_M_II_e hx]; exact Nat.le_of_ble_eq_true rfl) ?_
  intro Q G hQi hG as hp h
  obtain ⟨x, hx, hpre, hQ⟩ := spF_e h
  rw [d_M_II_e hx]
  clear h hx
  obtain ⟨a, n⟩ := x
  try dsimp only at hpre hQ ⊢
  obtain ⟨N, hN, rfl⟩ := vp_in_of hpre (by omega)
  rw [nI_clamp (by omega)] at hQ
  have ef : ∀ g p, (rL (rL hp 61 g) 60 p).1 53 = hp.1 53 := fun g p => rfl
  generalize hf : hp.1 53 = f at hQ ef
  have e61 : ∀ g p, (rL (rL hp 61 g) 60 p).2 61 = g := fun g p => by rw [rL_ne _ _ (by omega), rL_eq]
  have e60 : ∀ g p, (rL (rL hp 61 g) 60 p).2 60 = p := fun g p => rL_eq _ _ _
  have u61 : ∀ g p k v, uL (rL (rL hp 61 g) 60 p) 61 k v = rL (rL hp 61 (vp_updL g k v)) 60 p := fun g p k v => by rw [uL_r, e61, rL_comm _ _ _ (by omega), rL_rL]
  have u60 : ∀ g p k v, uL (rL (rL hp 61 g) 60 p) 60 k v = rL (rL hp 61 g) 60 (vp_updL p k v) := fun g p k v => by rw [uL_rL]
  have min := for_up (P := fun n => ∀ g, G 32 [(3, vI (nI n)), (0, vR 5 52), (1, vI a), (2, vI (nI N))] [] (rL (rL hp 61 g) 60 (spd f a n))) N (by
    intro g
    refine run hG [32] 60 ?_
    refine And.intro (fun h1 => ?_) (fun h1 => absurd (nI_le (Nat.le_refl _) (by omega)) h1)
    exact hQ _ _ ⟨rfl, g, rfl⟩) (by
    intro n hn ih g
    have ih : ∀ g, G 32 [(3, vI (nI (n + 1))), (0, vR 5 52), (1, vI a), (2, vI (nI N))] [] (rL (rL hp 61 g) 60 (spQ f (spd f a n) 25)) := ih
    generalize spd f a n = p at ih
    -- the copy
    have cpy := for_up (P := fun k => G 194 [(4, vI (nI k)), (3, vI (nI n)), (0, vR 5 52), (1, vI a), (2, vI (nI N))] [] (rL (rL hp 61 (spQ f p 25)) 60 (filL (spQ f p 25) p k))) 25 (by
      refine run hG [194, 32] 60 ?_
      refine And.intro (fun h1 => ?_) (fun h1 => absurd (nI_le (Nat.le_refl _) (by omega)) h1)
      refine cl_lv hG [(3, vI (nI n + nI 1)), (0, vR 5 52), (1, vI a), (2, vI (nI N))] ⟨rfl, rfl, rfl, rfl, trivial⟩ ?_
      rw [nI_s]
      exact cl_hp hG (heq_L heq.rfl (fun j hj => (filL_all j hj).symm)) (ih _)) (by
      intro k hk ih
      refine run hG [194, 32] 60 ?_
      refine And.intro (fun h1 => absurd h1 (nI_ge hk (by omega))) (fun h1 => ?_)
      refine And.intro (vp_in_nI (by omega) (by omega)) ?_
      refine And.intro (vp_in_nI (by omega) (by omega)) ?_
      refine cl_lv hG [(4, vI (nI k + nI 1)), (3, vI (nI n)), (0, vR 5 52), (1, vI a), (2, vI (nI N))] ⟨rfl, rfl, rfl, rfl, rfl, trivial⟩ ?_
      rw [nI_s]
      show G 194 _ [] (uL (rL (rL hp 61 (spQ f p 25)) 60 (filL (spQ f p 25) p k)) 60 (nI k).toNatClampNeg ((rL (rL hp 61 (spQ f p 25)) 60 (filL (spQ f p 25) p k)).2 61 (nI k).toNatClampNeg))
      rw [e61, u60, nI_clamp (by omega), filL_s]
      exact ih) 0 (by omega)
    rw [filL_0] at cpy
    have sqs := for_up (P := fun q => G 64 [(4, vI (nI q)), (3, vI (nI n)), (0, vR 5 52), (1, vI a), (2, vI (nI N))] [] (rL (rL hp 61 (spQ f p q)) 60 p)) 25 (by
      refine run hG [194, 64] 60 ?_
      refine And.intro (fun h1 => ?_) (fun h1 => absurd (nI_le (Nat.le_refl _) (by omega)) h1)
      exact cl_use hG cpy ⟨rfl, rfl, rfl, rfl, rfl, trivial⟩) (by
      intro q hq ih
      have ih : G 64 [(4, vI (nI (q + 1))), (3, vI (nI n)), (0, vR 5 52), (1, vI a), (2, vI (nI N))] [] (rL (rL hp 61 (spW f p q (spA f p q (spQ f p q)) 4)) 60 p) := ih
      generalize hnx : spA f p q (spQ f p q) = nx at ih
      have eq : (nI q).toNatClampNeg = q := nI_clamp (by omega)
      have wys := for_up (P := fun w => G 130 [(6, vI (nI w)), (5, vI (spM f q)), (4, vI (nI q)), (3, vI (nI n)), (0, vR 5 52), (1, vI a), (2, vI (nI N))] [] (rL (rL hp 61 (spW f p q nx w)) 60 p)) 4 (by
        refine run hG [130, 64] 60 ?_
        refine And.intro (fun h1 => ?_) (fun h1 => absurd (nI_le (Nat.le_refl _) (by omega)) h1)
        refine cl_lv hG [(4, vI (nI q + nI 1)), (3, vI (nI n)), (0, vR 5 52), (1, vI a), (2, vI (nI N))] ⟨rfl, rfl, rfl, rfl, rfl, trivial⟩ ?_
        rw [nI_s]
        exact ih) (by
        intro w hw ih
        have ih : G 130 [(6, vI (nI (w + 1))), (5, vI (spM f q)), (4, vI (nI q)), (3, vI (nI n)), (0, vR 5 52), (1, vI a), (2, vI (nI N))] [] (rL (rL hp 61 (spB f p q w (spW f p q nx w))) 60 p) := ih
        generalize spW f p q nx w = ny at ih
        unfold spB at ih
        have ew : (nI w).toNatClampNeg = w := nI_clamp (by omega)
        refine run hG [130, 64] 60 ?_
        refine And.intro (fun h1 => absurd h1 (nI_ge hw (by omega))) (fun h1 => ?_)
        refine And.intro (fun h2 => ?_) (fun h2 => ?_)
        · have h2 : ¬ spM f q >>> (nI w &&& 31) &&& nI 1 = nI 1 := h2
          rw [if_neg h2] at ih
          refine cl_lv hG [(6, vI (nI w + nI 1)), (5, vI (spM f q)), (4, vI (nI q)), (3, vI (nI n)), (0, vR 5 52), (1, vI a), (2, vI (nI N))] ⟨rfl, rfl, rfl, rfl, rfl, rfl, rfl, trivial⟩ ?_
          rw [nI_s]
          exact ih
        · have h2 : spM f q >>> (nI w &&& 31) &&& nI 1 = nI 1 := h2
          rw [if_pos h2] at ih
          have hb := spM_bit hw h2
          have hb9 := may_bsd hb.1
          have hb25 : bsd q w < 25 := by rcases bsd_lt q hq w hw with h | h <;> omega
          have ev : bsV (nI q).toNatClampNeg (nI w).toNatClampNeg = nI (bsd q w) := by rw [eq, ew, bsV_may hb9]
          have iv : vp_in (bsV (nI q).toNatClampNeg (nI w).toNatClampNeg) 25 := by rw [ev]; exact vp_in_nI hb25 (by omega)
          refine And.intro ⟨vp_in_nI (by omega) (by omega), vp_in_nI (by omega) (by omega)⟩ ?_
          refine And.intro iv ?_
          refine And.intro trivial ?_
          refine And.intro hb.2 ?_
          refine And.intro (vp_in_nI (by omega) (by omega)) ?_
          refine And.intro iv ?_
          refine cl_lv hG [(6, vI (nI w + nI 1)), (5, vI (spM f q)), (4, vI (nI q)), (3, vI (nI n)), (0, vR 5 52), (1, vI a), (2, vI (nI N))] ⟨rfl, rfl, rfl, rfl, rfl, rfl, rfl, trivial⟩ ?_
          rw [nI_s]
          show G 130 _ [] (uL (rL (rL hp 61 ny) 60 p) 61 (bsV (nI q).toNatClampNeg (nI w).toNatClampNeg).toNatClampNeg ((rL (rL hp 61 ny) 60 p).2 61 (bsV (nI q).toNatClampNeg (nI w).toNatClampNeg).toNatClampNeg + (nI 12 / onesV (spM f q)).toInt64 * (rL (rL hp 61 ny) 60 p).2 60 (nI q).toNatClampNeg))
          rw [u61, e61, e60, ev, nI_clamp (by omega), eq]
          exact ih) 0 (by omega)
      have wys : G 130 [(6, vI (nI 0)), (5, vI (spM f q)), (4, vI (nI q)), (3, vI (nI n)), (0, vR 5 52), (1, vI a), (2, vI (nI N))] [] (rL (rL hp 61 nx) 60 p) := wys
      have e69 : nI 69 + nI q = nI (69 + q) := nI_add _ _
      have i25 : vp_in (nI q) 25 := vp_in_nI hq (by omega)
      unfold spA at hnx
      have fin : ∀ v m, m = spM f q → (spQ f p q) q + (if spM f q = 0 then 12 * p q else lN 0) = v → G 130 [(6, vI (nI 0)), (5, vI m), (4, vI (nI q)), (3, vI (nI n)), (0, vR 5 52), (1, vI a), (2, vI (nI N))] [] (uL (rL (rL hp 61 (spQ f p q)) 60 p) 61 (nI q).toNatClampNeg v) := by
        intro v m hm hv
        rw [u61, eq, ← hv, hnx, hm]
        exact wys
      refine run hG [64, 130] 60 ?_
      refine And.intro (fun h1 => absurd h1 (nI_ge hq (by omega))) (fun h1 => ?_)
      refine And.intro (show vp_in (nI 69 + nI q) 184 by rw [e69]; exact vp_in_nI (by omega) (by omega)) ?_
      refine And.intro (fun h2 => ?_) (fun h2 => ?_)
      · have h2 : ¬ (rL (rL hp 61 (spQ f p q)) 60 p).1 53 (nI 69 + nI q).toNatClampNeg = nI 1 := h2
        rw [ef, e69, nI_clamp (by omega)] at h2
        refine And.intro i25 ?_
        have em : waysC (mayB ((rL (rL hp 61 (spQ f p q)) 60 p).1 53) (nI q).toNatClampNeg) = spM f q := by
          rw [ef, eq]
          unfold spM
          rw [if_neg h2]
        refine And.intro i25 ?_
        refine And.intro (fun h3 => ?_) (fun h3 => ?_)
        · have h3 : ¬ waysC (mayB ((rL (rL hp 61 (spQ f p q)) 60 p).1 53) (nI q).toNatClampNeg) = 0 := h3
          refine And.intro i25 ?_
          refine cl_use hG (fin _ _ em ?_) ⟨rfl, rfl, rfl, rfl, rfl, rfl, rfl, trivial⟩
          rw [em] at h3
          rw [if_neg h3, e61, eq]
          rfl
        · have h3 : waysC (mayB ((rL (rL hp 61 (spQ f p q)) 60 p).1 53) (nI q).toNatClampNeg) = 0 := h3
          refine And.intro i25 ?_
          refine And.intro i25 ?_
          refine cl_use hG (fin _ _ em ?_) ⟨rfl, rfl, rfl, rfl, rfl, rfl, rfl, trivial⟩
          rw [em] at h3
          rw [if_pos h3, e61, eq, e60]
      · have h2 : (rL (rL hp 61 (spQ f p q)) 60 p).1 53 (nI 69 + nI q).toNatClampNeg = nI 1 := h2
        rw [ef, e69, nI_clamp (by omega)] at h2
        have em : nI 0 = spM f q := by
          unfold spM
          rw [if_pos h2]
        refine And.intro i25 ?_
        refine And.intro (fun h3 => absurd (by decide) h3) (fun h3 => ?_)
        refine And.intro i25 ?_
        refine And.intro i25 ?_
        refine cl_use hG (fin _ _ em ?_) ⟨rfl, rfl, rfl, rfl, rfl, rfl, rfl, trivial⟩
        rw [if_pos (show spM f q = 0 from em.symm), e61, eq, e60]) 0 (by omega)
    have sqs : G 64 [(4, vI (nI 0)), (3, vI (nI n)), (0, vR 5 52), (1, vI a), (2, vI (nI N))] [] (rL (rL hp 61 (fun _ => lN 0)) 60 p) := sqs
    have zer := for_up (P := fun k => G 40 [(4, vI (nI k)), (3, vI (nI n)), (0, vR 5 52), (1, vI a), (2, vI (nI N))] [] (rL (rL hp 61 (filL (fun _ => lN 0) g k)) 60 p)) 25 (by
      refine run hG [40, 64] 60 ?_
      refine And.intro (fun h1 => ?_) (fun h1 => absurd (nI_le (Nat.le_refl _) (by omega)) h1)
      refine cl_lv hG [(4, vI (nI 0)), (3, vI (nI n)), (0, vR 5 52), (1, vI a), (2, vI (nI N))] ⟨rfl, rfl, rfl, rfl, rfl, trivial⟩ ?_
      exact cl_hp hG (heq_L (heq_L heq.rfl (fun j hj => (filL_all j hj).symm)) (fun _ _ => rfl)) sqs) (by
      intro k hk ih
      refine run hG [40, 64] 60 ?_
      refine And.intro (fun h1 => absurd h1 (nI_ge hk (by omega))) (fun h1 => ?_)
      refine And.intro (vp_in_nI (by omega) (by omega)) ?_
      refine cl_lv hG [(4, vI (nI k + nI 1)), (3, vI (nI n)), (0, vR 5 52), (1, vI a), (2, vI (nI N))] ⟨rfl, rfl, rfl, rfl, rfl, trivial⟩ ?_
      rw [nI_s]
      show G 40 _ [] (uL (rL (rL hp 61 (filL (fun _ => lN 0) g k)) 60 p) 61 (nI k).toNatClampNeg (lN 0))
      rw [u61, nI_clamp (by omega)]
      rw [← filL_s] at ih
      exact ih) 0 (by omega)
    rw [filL_0] at zer
    refine run hG [32, 40] 60 ?_
    refine And.intro (fun h1 => absurd h1 (nI_ge hn (by omega))) (fun h1 => ?_)
    exact cl_use hG zer ⟨rfl, rfl, rfl, rfl, rfl, trivial⟩) 0 (by omega)
  have min : ∀ g, G 32 [(3, vI (nI 0)), (0, vR 5 52), (1, vI a), (2, vI (nI N))] [] (rL (rL hp 61 g) 60 (spO a)) := min
  have ini := for_up (P := fun k => G 2 [(3, vI (nI k)), (0, vR 5 52), (1, vI a), (2, vI (nI N))] [] (rL (rL hp 61 (hp.2 61)) 60 (filL (spO a) (hp.2 60) k))) 25 (by
    refine run hG [2, 32] 60 ?_
    refine And.intro (fun h1 => ?_) (fun h1 => absurd (nI_le (Nat.le_refl _) (by omega)) h1)
    refine cl_lv hG [(3, vI (nI 0)), (0, vR 5 52), (1, vI a), (2, vI (nI N))] ⟨rfl, rfl, rfl, rfl, trivial⟩ ?_
    exact cl_hp hG (heq_L heq.rfl (fun j hj => (filL_all j hj).symm)) (min _)) (by
    intro k hk ih
    rw [← filL_s] at ih
    refine run hG [2, 32] 60 ?_
    refine And.intro (fun h1 => absurd h1 (nI_ge hk (by omega))) (fun h1 => ?_)
    refine And.intro (fun h2 => ?_) (fun h2 => ?_)
    · have h2 : ¬ nI k = a := h2
      refine And.intro (vp_in_nI (by omega) (by omega)) ?_
      refine cl_lv hG [(3, vI (nI k + nI 1)), (0, vR 5 52), (1, vI a), (2, vI (nI N))] ⟨rfl, rfl, rfl, rfl, trivial⟩ ?_
      rw [nI_s]
      show G 2 _ [] (uL (rL (rL hp 61 (hp.2 61)) 60 (filL (spO a) (hp.2 60) k)) 60 (nI k).toNatClampNeg (lN 0))
      rw [u60, nI_clamp (by omega)]
      rw [show spO a k = lN 0 from if_neg h2] at ih
      exact ih
    · have h2 : nI k = a := h2
      refine And.intro (vp_in_nI (by omega) (by omega)) ?_
      refine cl_lv hG [(3, vI (nI k + nI 1)), (0, vR 5 52), (1, vI a), (2, vI (nI N))] ⟨rfl, rfl, rfl, rfl, trivial⟩ ?_
      rw [nI_s]
      show G 2 _ [] (uL (rL (rL hp 61 (hp.2 61)) 60 (filL (spO a) (hp.2 60) k)) 60 (nI k).toNatClampNeg (lN 1))
      rw [u60, nI_clamp (by omega)]
      rw [show spO a k = lN 1 from if_pos h2] at ih
      exact ih) 0 (by omega)
  rw [filL_0, rL_self, rL_self] at ini
  refine run hG [2] 60 ?_
  exact cl_use hG ini ⟨rfl, rfl, rfl, rfl, trivial⟩
theorem sc_X5_spreads {own : String} {F L idx : Nat} (h1 : Cond.methodLink own idx yX5_spreads ∈ Gw) (hF : 4 ≤ F) (hL : 92 ≤ L) : SC own F L (idx, false, 3, sp_X5_spreads) := SC_V spF_mono c_X5_spreads okd_5 (fun as hp K h => by obtain ⟨x, hx, -⟩ := spF_e h; exact ⟨_, _, d_M_II_e hx⟩) h1 gw_1138 gw_50 gw_75 gw_1139 (by decide +kernel) hF hL
