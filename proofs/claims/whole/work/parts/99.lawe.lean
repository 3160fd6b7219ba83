theorem nI_sb6 {L : Nat} (h : L < 2 ^ 31) : (nI L - nI 6).toInt = (L : Int) - 6 := by
  rw [Int32.toInt_sub, nI_toInt h, nI_toInt (by decide)]
  exact Int.bmod_eq_of_le (by omega) (by omega)
set_option maxRecDepth 100000 in
set_option maxHeartbeats 8000000 in
theorem law_loop {L : Nat} (hL : L ≤ 384) {xs : Nat → Int32} {G : GP} (hG : Cl P_L_law K_L E_L_law 4 (some .boolean) (some (L, xs)) LQ G) : ∀ m i, L + 6 - i < m → i ≤ L → ∀ hp, RC hp hp → G 18 [(0, vX 1), (1, vR 0 0), (2, vR 5 52), (3, vI (nI i))] [] hp := by
  intro m
  induction m with
  | zero => intro i h; omega
  | succ m ih =>
    intro i hm hi hp h
    refine run hG [1556, 224, 283, 316, 349, 408, 441, 464, 487, 500, 543, 576, 619, 668, 701, 734, 757, 780, 793, 816, 839, 872, 895, 928, 951, 974, 1007, 1030, 1053, 1076, 1120, 1153, 1186, 1199, 1212, 1255, 1329, 1392, 1415, 1448, 1471, 1484, 1497, 1510, 1533] 60 ?_
    refine And.intro (fun hz => ?_) (fun hz => ?_)
    · exact And.intro (Or.inr rfl) rfl
    · have h6 : i + 6 ≤ L := by
        have h2 : ¬ (nI L - nI 6).toInt < (nI i).toInt := fun a => hz (Int32.lt_iff_toInt_lt.mpr a)
        rw [nI_sb6 (by omega), nI_toInt (by omega)] at h2
        omega
      have hix : ∀ j, j < 6 → vp_in (nI i + nI j) L := fun j hj => by
        rw [nI_add]
        exact vp_in_nI (by omega) (by omega)
      have nxt : ∀ hp, RC hp hp → G 1556 [(0, vX 1), (1, vR 0 0), (2, vR 5 52), (3, vI (nI i))] [] hp := fun hq h2 => by
        refine run hG [18] 60 ?_
        refine cl_use hG (ih (i + 6) (by omega) h6 hq h2) ⟨rfl, rfl, rfl, ?_, trivial⟩
        exact congrArg (fun x => some (vI x)) (nI_add i 6)
      refine And.intro (vp_in_nI (by omega) (by omega)) ?_
      refine And.intro (fun _ => cl_use hG (lc_0 hG hix nxt hp h) ⟨rfl, rfl, rfl, rfl, trivial⟩) ?_
      refine And.intro (fun _ => cl_use hG (lc_1 hG hix nxt hp h) ⟨rfl, rfl, rfl, rfl, trivial⟩) ?_
      refine And.intro (fun _ => cl_use hG (lc_2 hG hix nxt hp h) ⟨rfl, rfl, rfl, rfl, trivial⟩) ?_
      refine And.intro (fun _ => cl_use hG (lc_3 hG hix nxt hp h) ⟨rfl, rfl, rfl, rfl, trivial⟩) ?_
      refine And.intro (fun _ => cl_use hG (lc_4 hG hix nxt hp h) ⟨rfl, rfl, rfl, rfl, trivial⟩) ?_
      refine And.intro (fun _ => cl_use hG (lc_5 hG hix nxt hp h) ⟨rfl, rfl, rfl, rfl, trivial⟩) ?_
      refine And.intro (fun _ => cl_use hG (lc_6 hG hix nxt hp h) ⟨rfl, rfl, rfl, rfl, trivial⟩) ?_
      refine And.intro (fun _ => cl_use hG (lc_7 hG hix nxt hp h) ⟨rfl, rfl, rfl, rfl, trivial⟩) ?_
      refine And.intro (fun _ => cl_use hG (lc_8 hG hix nxt hp h) ⟨rfl, rfl, rfl, rfl, trivial⟩) ?_
      refine And.intro (fun _ => cl_use hG (lc_9 hG hix nxt hp h) ⟨rfl, rfl, rfl, rfl, trivial⟩) ?_
      refine And.intro (fun _ => cl_use hG (lc_10 hG hix nxt hp h) ⟨rfl, rfl, rfl, rfl, trivial⟩) ?_
      refine And.intro (fun _ => cl_use hG (lc_11 hG hix nxt hp h) ⟨rfl, rfl, rfl, rfl, trivial⟩) ?_
      refine And.intro (fun _ => cl_use hG (lc_12 hG hix nxt hp h) ⟨rfl, rfl, rfl, rfl, trivial⟩) ?_
      refine And.intro (fun _ => cl_use hG (lc_13 hG hix nxt hp h) ⟨rfl, rfl, rfl, rfl, trivial⟩) ?_
      refine And.intro (fun _ => cl_use hG (lc_14 hG hix nxt hp h) ⟨rfl, rfl, rfl, rfl, trivial⟩) ?_
      refine And.intro (fun _ => cl_use hG (lc_15 hG hix nxt hp h) ⟨rfl, rfl, rfl, rfl, trivial⟩) ?_
      refine And.intro (fun _ => cl_use hG (lc_16 hG hix nxt hp h) ⟨rfl, rfl, rfl, rfl, trivial⟩) ?_
      refine And.intro (fun _ => cl_use hG (lc_17 hG hix nxt hp h) ⟨rfl, rfl, rfl, rfl, trivial⟩) ?_
      refine And.intro (fun _ => cl_use hG (lc_18 hG hix nxt hp h) ⟨rfl, rfl, rfl, rfl, trivial⟩) ?_
      refine And.intro (fun _ => cl_use hG (lc_19 hG hix nxt hp h) ⟨rfl, rfl, rfl, rfl, trivial⟩) ?_
      refine And.intro (fun _ => cl_use hG (lc_20 hG hix nxt hp h) ⟨rfl, rfl, rfl, rfl, trivial⟩) ?_
      refine And.intro (fun _ => cl_use hG (lc_21 hG hix nxt hp h) ⟨rfl, rfl, rfl, rfl, trivial⟩) ?_
      refine And.intro (fun _ => cl_use hG (lc_22 hG hix nxt hp h) ⟨rfl, rfl, rfl, rfl, trivial⟩) ?_
      refine And.intro (fun _ => cl_use hG (lc_23 hG hix nxt hp h) ⟨rfl, rfl, rfl, rfl, trivial⟩) ?_
      refine And.intro (fun _ => cl_use hG (lc_24 hG hix nxt hp h) ⟨rfl, rfl, rfl, rfl, trivial⟩) ?_
      refine And.intro (fun _ => cl_use hG (lc_25 hG hix nxt hp h) ⟨rfl, rfl, rfl, rfl, trivial⟩) ?_
      refine And.intro (fun _ => cl_use hG (lc_26 hG hix nxt hp h) ⟨rfl, rfl, rfl, rfl, trivial⟩) ?_
      refine And.intro (fun _ => cl_use hG (lc_27 hG hix nxt hp h) ⟨rfl, rfl, rfl, rfl, trivial⟩) ?_
      refine And.intro (fun _ => cl_use hG (lc_28 hG hix nxt hp h) ⟨rfl, rfl, rfl, rfl, trivial⟩) ?_
      refine And.intro (fun _ => cl_use hG (lc_29 hG hix nxt hp h) ⟨rfl, rfl, rfl, rfl, trivial⟩) ?_
      refine And.intro (fun _ => cl_use hG (lc_30 hG hix nxt hp h) ⟨rfl, rfl, rfl, rfl, trivial⟩) ?_
      refine And.intro (fun _ => cl_use hG (lc_31 hG hix nxt hp h) ⟨rfl, rfl, rfl, rfl, trivial⟩) ?_
      refine And.intro (fun _ => cl_use hG (lc_32 hG hix nxt hp h) ⟨rfl, rfl, rfl, rfl, trivial⟩) ?_
      refine And.intro (fun _ => cl_use hG (lc_33 hG hix nxt hp h) ⟨rfl, rfl, rfl, rfl, trivial⟩) ?_
      refine And.intro (fun _ => cl_use hG (lc_34 hG hix nxt hp h) ⟨rfl, rfl, rfl, rfl, trivial⟩) ?_
      refine And.intro (fun _ => cl_use hG (lc_35 hG hix nxt hp h) ⟨rfl, rfl, rfl, rfl, trivial⟩) ?_
      refine And.intro (fun _ => cl_use hG (lc_36 hG hix nxt hp h) ⟨rfl, rfl, rfl, rfl, trivial⟩) ?_
      refine And.intro (fun _ => cl_use hG (lc_37 hG hix nxt hp h) ⟨rfl, rfl, rfl, rfl, trivial⟩) ?_
      refine And.intro (fun _ => cl_use hG (lc_38 hG hix nxt hp h) ⟨rfl, rfl, rfl, rfl, trivial⟩) ?_
      refine And.intro (fun _ => cl_use hG (lc_39 hG hix nxt hp h) ⟨rfl, rfl, rfl, rfl, trivial⟩) ?_
      refine And.intro (fun _ => cl_use hG (lc_40 hG hix nxt hp h) ⟨rfl, rfl, rfl, rfl, trivial⟩) ?_
      refine And.intro (fun _ => cl_use hG (lc_41 hG hix nxt hp h) ⟨rfl, rfl, rfl, rfl, trivial⟩) ?_
      refine And.intro (fun _ => cl_use hG (lc_42 hG hix nxt hp h) ⟨rfl, rfl, rfl, rfl, trivial⟩) ?_
      refine And.intro (fun _ => cl_use hG (lc_43 hG hix nxt hp h) ⟨rfl, rfl, rfl, rfl, trivial⟩) ?_
      exact fun _ => cl_use hG (nxt hp h) ⟨rfl, rfl, rfl, rfl, trivial⟩
