/-! the class's reader, step by step -/
theorem tx40 (m : Nat) : tx_i (40 + m) = tx_i m := by unfold tx_i; omega
theorem tx40n (m : Nat) : tx_n (40 + m) = tx_n m := by unfold tx_n; rw [tx40]
theorem mtc40 (t : Nat → Int32) (n s m : Nat) : ∀ k, mtc t n s (40 + m) k = mtc t n s m k
  | 0 => rfl
  | k + 1 => by
    show (mtc t n s (40 + m) k && decide (byt t n (s + k) = tx_b (40 + m) k)) = (mtc t n s m k && decide (byt t n (s + k) = tx_b m k))
    rw [mtc40 t n s m k, show tx_b (40 + m) k = tx_b m k by unfold tx_b; rw [tx40]]
theorem wrd40 (t : Nat → Int32) (n s m : Nat) : wrd t n s (40 + m) = wrd t n s m := by
  unfold wrd
  rw [tx40n, mtc40]
theorem lr_dg {x : Int32} (h : lrB x = true) : dgB x = false := by
  have h1 := and_t.mp h
  unfold dgB
  rw [decide_eq_false (p := x ≤ nI 57), Bool.and_false]
  intro h2
  exact absurd (Int32.le_trans h1.1 h2) (by decide)
theorem TXS.s4 {n h : Nat} {B o : Nat → Int32} (ht : TXS n h B o) : o 4 = nI (bk B n h) := ht.2.2.2.1
theorem TXS.le {n h : Nat} {B o : Nat → Int32} (ht : TXS n h B o) : bk B n h ≤ n ∧ n ≤ 120 := ⟨(bk_le B ht.2.1).2, ht.1⟩
theorem TXS.tb {n h : Nat} {B o : Nat → Int32} (ht : TXS n h B o) : TXS n (bk B n h) B o := by
  obtain ⟨hn, hh, o1, t⟩ := ht
  refine ⟨hn, (bk_le B hh).2, o1, ?_⟩
  unfold TKN at t ⊢
  rw [bk_bk B hh]
  exact t
/-- the number that stands next -/
theorem TXS.num {n h : Nat} {B o : Nat → Int32} (ht : TXS n h B o) {m : Nat} (hm : m < 10000) : (pnB B n m h = true → o 3 = nI 2 ∧ o 6 = nI (pnV B n h) ∧ pnV B n h ≤ m ∧ o 5 = nI (pnE B n h)) ∧ (pnB B n m h = false → ¬ (o 3 = nI 2 ∧ o 6 ≤ nI m)) := by
  obtain ⟨hn, hh, o1, t4, t0, t1, t2, t3⟩ := ht
  have hb := bk_le B hh
  have key : dgB (byt B n (bk B n h)) = true → o 3 = nI 2 ∧ o 5 = nI (pnE B n h) ∧ o 6 = nI (mn4 (pnV B n h)) := fun hd => by
    have hi := byt_in (p := dgB) (by decide) hd
    rw [hi.2] at hd
    have hl : lrB (B (bk B n h)) = false := by
      cases hb2 : lrB (B (bk B n h)) with
      | false => rfl
      | true => rw [lr_dg hb2] at hd; cases hd
    exact t2 hi.1 hl hd
  refine ⟨fun h1 => ?_, fun h1 h2 => ?_⟩
  · have h1 := and_tt h1
    have k := key h1.1
    have hv := of_decide_eq_true h1.2
    refine ⟨k.1, ?_, hv, k.2.1⟩
    rw [k.2.2]
    unfold mn4
    rw [if_pos (by omega)]
  · have hd : dgB (byt B n (bk B n h)) = true := by
      have no : ∀ k, o 3 = nI k → k < 10 → k ≠ 2 → False := fun k h3 hk hk2 => hk2 ((nI_eq (by omega) (by omega)).mp (h3.symm.trans h2.1))
      rcases Nat.lt_or_ge (bk B n h) n with hS | hS
      · rw [byt_lt hS]
        cases hl : lrB (B (bk B n h)) with
        | true => exact (no 1 (t1 hS hl).1 (by omega) (by omega)).elim
        | false =>
          cases hdd : dgB (B (bk B n h)) with
          | true => rfl
          | false =>
            have t := (t3 hS hl hdd).1
            by_cases h59 : B (bk B n h) = nI 59
            · rw [if_pos h59] at t
              exact (no 3 t (by omega) (by omega)).elim
            · rw [if_neg h59] at t
              exact (no 4 t (by omega) (by omega)).elim
      · exact (no 0 (t0 hS).1 (by omega) (by omega)).elim
    have k := key hd
    unfold pnB at h1
    rw [hd, Bool.true_and] at h1
    have hv := of_decide_eq_false h1
    have h6 := h2.2
    rw [k.2.2] at h6
    have hmn : mn4 (pnV B n h) ≤ 10000 ∧ m < mn4 (pnV B n h) := by
      unfold mn4
      split <;> omega
    rw [nI_leI (by omega) (by omega)] at h6
    omega
theorem TXS.isn {n h : Nat} {B o : Nat → Int32} (ht : TXS n h B o) : (o 3 = nI 2 ↔ dgB (byt B n (bk B n h)) = true) ∧ (o 3 = nI 2 → o 6 = nI (mn4 (pnV B n h)) ∧ o 5 = nI (pnE B n h)) := by
  obtain ⟨hn, hh, o1, t4, t0, t1, t2, t3⟩ := ht
  have key : dgB (byt B n (bk B n h)) = true → o 3 = nI 2 ∧ o 5 = nI (pnE B n h) ∧ o 6 = nI (mn4 (pnV B n h)) := fun hd => by
    have hi := byt_in (p := dgB) (by decide) hd
    rw [hi.2] at hd
    have hl : lrB (B (bk B n h)) = false := by
      cases hb2 : lrB (B (bk B n h)) with
      | false => rfl
      | true => rw [lr_dg hb2] at hd; cases hd
    exact t2 hi.1 hl hd
  have back : o 3 = nI 2 → dgB (byt B n (bk B n h)) = true := fun h2 => by
    have no : ∀ k, o 3 = nI k → k < 10 → k ≠ 2 → False := fun k h3 hk hk2 => hk2 ((nI_eq (by omega) (by omega)).mp (h3.symm.trans h2))
    rcases Nat.lt_or_ge (bk B n h) n with hS | hS
    · rw [byt_lt hS]
      cases hl : lrB (B (bk B n h)) with
      | true => exact (no 1 (t1 hS hl).1 (by omega) (by omega)).elim
      | false =>
        cases hdd : dgB (B (bk B n h)) with
        | true => rfl
        | false =>
          have t := (t3 hS hl hdd).1
          by_cases h59 : B (bk B n h) = nI 59
          · rw [if_pos h59] at t
            exact (no 3 t (by omega) (by omega)).elim
          · rw [if_neg h59] at t
            exact (no 4 t (by omega) (by omega)).elim
    · exact (no 0 (t0 hS).1 (by omega) (by omega)).elim
  exact ⟨⟨back, fun h => (key h).1⟩, fun h => ⟨(key (back h)).2.2, (key (back h)).2.1⟩⟩
/-- where a word ends -/
theorem TXS.wend {n h m : Nat} {B o : Nat → Int32} (ht : TXS n h B o) (hm : txok m) (hw : wd B n m h = true) : o 5 = nI (wdK B n m h) ∧ wdK B n m h ≤ n := by
  obtain ⟨hn, hh, o1, t4, t0, t1, t2, t3⟩ := ht
  have hb := bk_le B hh
  have h2 := tx_2 hm
  have hw2 : wrd B n (bk B n h) m = true := hw
  have hk : wdK B n m h = bk B n h + tx_n m := by unfold wdK; rw [hw, if_pos rfl]
  have hs : skp lrB B n (bk B n h) = bk B n h + tx_n m := by
    unfold wrd at hw2
    exact of_decide_eq_true (and_tt hw2).1
  have hle := skp_le lrB B hb.2
  have hS : bk B n h < n := by omega
  have hl : lrB (B (bk B n h)) = true := by
    cases hl : lrB (B (bk B n h)) with
    | true => rfl
    | false =>
      have : skp lrB B n (bk B n h) = bk B n h := skp_n (by rw [byt_lt hS]; exact hl)
      omega
  rw [hk, ← hs]
  exact ⟨(t1 hS hl).2, hle.2⟩
