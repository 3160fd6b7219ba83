theorem mt_eq {B : Nat → Int32} {n s m : Nat} : ∀ k, s + k ≤ n → mt2 B s m k = mtc B n s m k
  | 0, _ => rfl
  | k + 1, h => by
    show (mt2 B s m k && decide (B (s + k) = tx_b m k)) = (mtc B n s m k && decide (byt B n (s + k) = tx_b m k))
    rw [mt_eq (n := n) k (by omega), byt_lt (by omega)]
theorem tx_2 {m : Nat} (h : txok m) : 2 ≤ tx_n m := tx_pos (tx_i m) (by unfold tx_i; have := h.2; omega)
theorem TXS.word {n h m : Nat} {B o : Nat → Int32} (ht : TXS n h B o) (hm : txok m) : w2 B o m = wrd B n (bk B n h) m := by
  obtain ⟨hn, hh, o1, t4, t0, t1, t2, t3⟩ := ht
  have hb := bk_le B hh
  have h2 := tx_2 hm
  have hl9 := tx_lt m
  unfold w2 wrd
  generalize bk B n h = S at t4 t0 t1 t2 t3 hb
  have no : ∀ k, o 3 = nI k → k ≠ 1 → k < 10 → lrB (byt B n S) = false → (decide (o 3 = nI 1) && (decide ((o 5).toNatClampNeg = (o 4).toNatClampNeg + tx_n m) && mt2 B (o 4).toNatClampNeg m (tx_n m))) = (decide (skp lrB B n S = S + tx_n m) && mtc B n S m (tx_n m)) := by
    intro k h3 hk hk10 hl
    rw [skp_n hl, decide_eq_false (p := S = S + tx_n m) (by omega), h3, decide_eq_false (p := nI k = nI 1) (fun h => hk ((nI_eq (by omega) (by omega)).mp h))]
    rfl
  rcases Nat.lt_or_ge S n with hS | hS
  · cases hl : lrB (B S) with
    | true =>
      have t := t1 hS hl
      have hs := skp_le lrB B hb.2
      rw [t.1, t.2, t4, nI_clamp (by omega), nI_clamp (by omega), decide_eq_true rfl, Bool.true_and]
      by_cases he : skp lrB B n S = S + tx_n m
      · rw [mt_eq (n := n) (tx_n m) (by omega)]
      · rw [decide_eq_false he]
        rfl
    | false =>
      have hl2 : lrB (byt B n S) = false := by rw [byt_lt hS]; exact hl
      cases hd : dgB (B S) with
      | true => exact no 2 (t2 hS hl hd).1 (by omega) (by omega) hl2
      | false =>
        have t := (t3 hS hl hd).1
        by_cases h59 : B S = nI 59
        · rw [if_pos h59] at t
          exact no 3 t (by omega) (by omega) hl2
        · rw [if_neg h59] at t
          exact no 4 t (by omega) (by omega) hl2
  · have e : S = n := by omega
    exact no 0 (t0 hS).1 (by omega) (by omega) (by rw [e, byt_n]; decide)
