theorem us_bv (x : Int64) {d : Nat} (h : d < 64) : ((x.toUInt64 >>> ((nI d).toInt64.toUInt64 &&& Int64.toUInt64 63)).toInt64).toBitVec = x.toBitVec >>> d := by
  show (x.toUInt64 >>> ((nI d).toInt64.toUInt64 &&& Int64.toUInt64 63)).toBitVec = _
  apply BitVec.eq_of_toNat_eq
  show (x.toUInt64 >>> ((nI d).toInt64.toUInt64 &&& Int64.toUInt64 63)).toNat = _
  rw [UInt64.toNat_shiftRight, su64 d h, BitVec.toNat_ushiftRight]
  rfl
theorem sm64 : ∀ d, d < 64 → (((nI d).toInt64 &&& 63).toBitVec.smod 64).toNat = d := by decide +kernel
theorem sl_bv (x : Int64) {d : Nat} (h : d < 64) : (x <<< ((nI d).toInt64 &&& 63)).toBitVec = x.toBitVec <<< d := by
  rw [Int64.toBitVec_shiftLeft, BitVec.shiftLeft_eq', sm64 d h]
theorem bt8_0 (x : Int64) {k : Nat} (hk : k < 8) : bt8 x k = lN 0 ↔ ∀ j, j < 8 → x.toBitVec.getLsbD (8 * k + j) = false := by
  unfold bt8
  rw [pk_mul]
  have e : ∀ i, i < 64 → ((x.toUInt64 >>> ((nI (8 * k)).toInt64.toUInt64 &&& Int64.toUInt64 63)).toInt64 &&& 255).toBitVec.getLsbD i = (x.toBitVec.getLsbD (8 * k + i) && decide (i < 8)) := fun i hi => by
    rw [Int64.toBitVec_and, BitVec.getLsbD_and, us_bv x (by omega), BitVec.getLsbD_ushiftRight]
    congr 1
    have : ∀ i, i < 64 → (255 : Int64).toBitVec.getLsbD i = decide (i < 8) := by decide +kernel
    exact this i hi
  refine ⟨fun h j hj => ?_, fun h => ?_⟩
  · have := e j (by omega)
    rw [h, decide_eq_true hj, Bool.and_true] at this
    rw [← this]
    show (0#64).getLsbD j = false
    exact BitVec.getLsbD_zero
  · apply Int64.toBitVec_inj.mp
    refine BitVec.eq_of_getLsbD_eq (fun i hi => ?_)
    rw [e i hi]
    show _ = (0#64).getLsbD i
    rw [BitVec.getLsbD_zero]
    by_cases h8 : i < 8
    · rw [h i h8]
      rfl
    · rw [decide_eq_false h8, Bool.and_false]
theorem n25_bv : ∀ p, p < 25 → ∀ i, i < 64 → (nI p).toInt64.toBitVec.getLsbD i = p.testBit i := by decide +kernel
theorem t25 : ∀ p, p < 25 → ∀ i, i < 64 → 8 ≤ i → p.testBit i = false := by decide +kernel
theorem pl_bit {g : Nat → Int32} : ∀ m, m ≤ 8 → (∀ k, k < m → vp_in (g (144 + 5 * k + 2)) 25) → ∀ k, k < 8 → ∀ j, j < 8 → (plV g m).toBitVec.getLsbD (8 * k + j) = (decide (k < m) && (g (144 + 5 * k + 2)).toNatClampNeg.testBit j)
  | 0, _, _, k, hk, j, hj => by
    rw [decide_eq_false (by omega), Bool.false_and]
    show (0#64).getLsbD _ = false
    exact BitVec.getLsbD_zero
  | m + 1, hm, h, k, hk, j, hj => by
    have ih := pl_bit m (by omega) (fun k hk => h k (by omega)) k hk j hj
    obtain ⟨p, hp, e⟩ := vp_in_of (h m (by omega)) (by omega)
    show (plV g m ||| (g (144 + 5 * m + 2)).toInt64 <<< ((nI 8 * nI m).toInt64 &&& 63)).toBitVec.getLsbD (8 * k + j) = _
    rw [Int64.toBitVec_or, BitVec.getLsbD_or, ih, pk_mul, sl_bv _ (by omega), BitVec.getLsbD_shiftLeft, e, decide_eq_true (show 8 * k + j < 64 by omega), Bool.true_and]
    by_cases e1 : k < m
    · rw [decide_eq_true e1, decide_eq_true (show k < m + 1 by omega), decide_eq_true (show 8 * k + j < 8 * m by omega)]
      simp
    · rw [decide_eq_false e1, decide_eq_false (show ¬ 8 * k + j < 8 * m by omega), Bool.false_and, Bool.false_or, Bool.not_false, Bool.true_and, n25_bv p hp _ (by omega)]
      by_cases e2 : k = m
      · subst e2
        rw [decide_eq_true (by omega), e, nI_clamp (by omega), show 8 * k + j - 8 * k = j by omega, Bool.true_and]
      · rw [decide_eq_false (by omega), Bool.false_and]
        exact t25 p hp _ (by omega) (by omega)
theorem tb25 : ∀ p, p < 25 → ∀ q, q < 25 → (∀ j, j < 8 → p.testBit j = q.testBit j) → p = q := by decide +kernel
theorem co_cnt {f g : Nat → Int32} {m : Nat} (hm : m ≤ 8) (hf : ∀ k, k < m → vp_in (f (144 + 5 * k + 2)) 25) (hg : ∀ k, k < m → vp_in (g (144 + 5 * k + 2)) 25) : ∀ n, n ≤ 8 → coV (plV f m) (plV g m) n = nI (cnt (fun k => decide (k < m) && decide (¬ g (144 + 5 * k + 2) = f (144 + 5 * k + 2))) n)
  | 0, _ => rfl
  | n + 1, hn => by
    show (if bt8 (plV f m ^^^ plV g m) n = lN 0 then coV (plV f m) (plV g m) n else coV (plV f m) (plV g m) n + nI 1) = nI (cnt _ n + (if (decide (n < m) && decide (¬ g (144 + 5 * n + 2) = f (144 + 5 * n + 2))) = true then 1 else 0))
    rw [co_cnt hm hf hg n (by omega)]
    have key : bt8 (plV f m ^^^ plV g m) n = lN 0 ↔ (decide (n < m) && decide (¬ g (144 + 5 * n + 2) = f (144 + 5 * n + 2))) = false := by
      rw [bt8_0 _ (by omega)]
      have e : ∀ j, j < 8 → (plV f m ^^^ plV g m).toBitVec.getLsbD (8 * n + j) = ((decide (n < m) && (f (144 + 5 * n + 2)).toNatClampNeg.testBit j) ^^ (decide (n < m) && (g (144 + 5 * n + 2)).toNatClampNeg.testBit j)) := fun j hj => by
        rw [Int64.toBitVec_xor, BitVec.getLsbD_xor, pl_bit m hm hf n (by omega) j hj, pl_bit m hm hg n (by omega) j hj]
      by_cases h : n < m
      · rw [decide_eq_true h, Bool.true_and]
        simp only [decide_eq_true h, Bool.true_and] at e
        obtain ⟨p, hp, ep⟩ := vp_in_of (hf n h) (by omega)
        obtain ⟨q, hq, eq⟩ := vp_in_of (hg n h) (by omega)
        rw [ep, eq, nI_clamp (by omega), nI_clamp (by omega)] at e
        rw [ep, eq]
        refine ⟨fun h2 => ?_, fun h2 j hj => ?_⟩
        · have := tb25 p hp q hq (fun j hj => by
            have h3 := e j hj
            rw [h2 j hj] at h3
            revert h3
            cases p.testBit j <;> cases q.testBit j <;> decide)
          rw [this]
          exact decide_eq_false (fun h => h rfl)
        · have h3 : nI q = nI p := Decidable.not_not.mp (of_decide_eq_false h2)
          rw [nI_eq (by omega) (by omega)] at h3
          rw [e j hj, h3, Bool.xor_self]
      · rw [decide_eq_false h, Bool.false_and]
        simp only [decide_eq_false h, Bool.false_and] at e
        exact ⟨fun _ => rfl, fun _ j hj => by rw [e j hj]; rfl⟩
    by_cases h : (decide (n < m) && decide (¬ g (144 + 5 * n + 2) = f (144 + 5 * n + 2))) = true
    · rw [if_pos h, if_neg (fun h2 => by rw [key.mp h2] at h; exact absurd h (by decide)), nI_s]
    · rw [if_neg h, if_pos (key.mpr (Bool.eq_false_iff.mpr h))]
      rfl
theorem lm_cnt (f g : Nat → Int32) : ∀ m, fold (fun w s => s + (if g (144 + 5 * w + 2) = f (144 + 5 * w + 2) then nI 0 else nI 1)) (nI 0) m = nI (cnt (fun k => decide (¬ g (144 + 5 * k + 2) = f (144 + 5 * k + 2))) m)
  | 0 => rfl
  | m + 1 => by
    show fold _ (nI 0) m + (if g (144 + 5 * m + 2) = f (144 + 5 * m + 2) then nI 0 else nI 1) = nI (cnt _ m + (if decide (¬ g (144 + 5 * m + 2) = f (144 + 5 * m + 2)) = true then 1 else 0))
    rw [lm_cnt f g m]
    by_cases h : g (144 + 5 * m + 2) = f (144 + 5 * m + 2)
    · rw [if_pos h, if_neg (show ¬ decide (¬ g (144 + 5 * m + 2) = f (144 + 5 * m + 2)) = true from fun h2 => (of_decide_eq_true h2 : ¬ _) h), nI_add]
    · rw [if_neg h, if_pos (decide_eq_true h), nI_s]
theorem co_lm {f : Nat → Int32} (hf : WF f) {q : Nat} (hq : q < 25) (n : Nat) : coV (plV (goF f n) (mN f)) (plV (goF (upd f (44 + q) (nI 1)) n) (mN f)) 8 = lmC f n q := by
  have hu := hf.flag (d := 44 + q) (v := nI 1) (by omega) (by omega) (vp_in_nI (by omega) (by omega))
  have h1 := hf.go n
  have h2 := hu.1.go n
  have h8 := mN_lt hf
  unfold lmC
  rw [co_cnt h8 (fun k hk => (h1.1.wk (show k < mN (goF f n) by rw [h1.2]; exact hk)).2.2.1) (fun k hk => (h2.1.wk (show k < mN (goF (upd f (44 + q) (nI 1)) n) by rw [h2.2, hu.2]; exact hk)).2.2.1) 8 (Nat.le_refl _), lm_cnt, show 8 = mN f + (8 - mN f) by omega, cnt_ext (fun k hk => by rw [decide_eq_false (by omega)]; rfl)]
  rw [cnt_cg _ (fun k hk => by rw [decide_eq_true hk, Bool.true_and])]
theorem ag.lm {f g : Nat → Int32} (h : ag f g) (hf : WF f) {q : Nat} (hq : q < 25) (n : Nat) : lmX g n q = lmX f n q := by
  have hu := hf.flag (d := 44 + q) (v := nI 1) (by omega) (by omega) (vp_in_nI (by omega) (by omega))
  have a1 := h.go hf n
  have a2 := (h.up (k := 44 + q) (by omega) (u := nI 1) rfl).go hu.1 n
  have h1 := hf.go n
  have h2 := hu.1.go n
  unfold lmX lmC
  rw [h.lo (by omega), h.mn, fold_cg _ (fun w s hw => ?_)]
  rw [a1.wk (by rw [h1.2]; exact hw) (by omega), a2.wk (by rw [h2.2, hu.2]; exact hw) (by omega)]
theorem bst_cg {u v : Nat → Option Int32} {b m : Int32} : ∀ n, (∀ k, k < n → u k = v k) → bst u b m n = bst v b m n
  | 0, _ => rfl
  | n + 1, h => by
    unfold bst
    rw [h n (by omega), bst_cg n (fun k hk => h k (by omega))]
def sp_X4_lamp : SP := spF d_C_I (fun _ hp => RX hp) (fun x hp v hq => PO (F_lamp x) hp v hq)
def E_X4_lamp : EN := [(78, true, 3, sp_X4_isWithin), (63, false, 2, sp_X4_tell), (167, false, 2, sp_X4_isTooLate), (217, false, 3, sp_X4_placesWithLamps), (91, false, 2, sp_X3_hasLamp), (221, true, 2, sp_X4_countOthers)]
set_option maxRecDepth 100000 in
set_option maxHeartbeats 4000000 in
theorem c_X4_lamp : Ctr M_X4_lamp sp_X4_lamp := by
  refine ctr_of (own := RX4) M_X4_lamp sp_X4_lamp (P := P_X4_lamp) (K := K_X4) (E := E_X4_lamp) (by decide) rfl pk_X4_lamp K_X4_ok (List.forall_mem_cons.mpr ⟨sc_X4_isWithin gw_285 (by decide) (by decide), List.forall_mem_cons.mpr ⟨sc_X4_tell gw_298 (by decide) (by decide), List.forall_mem_cons.mpr ⟨sc_X4_isTooLate gw_455 (by decide) (by decide), List.forall_mem_cons.mpr ⟨sc_X4_placesWithLamps gw_553 (by decide) (by decide), List.forall_mem_cons.mpr ⟨sc_X3_hasLamp gw_345 (by decide) (by decide), List.forall_mem_cons.mpr ⟨sc_X4_countOthers gw_557 (by decide) (by decide), fun _ h => absurd h List.not_mem_nil⟩⟩⟩⟩⟩⟩) (fun as hp Q h => by obtain ⟨x, hx, -⟩ := spF_e h; rw [d_C_I_e hx]; exact Nat.le_of_ble_eq_true rfl) ?_
  intro Q G hQi hG as hp h
  obtain ⟨x, hx, hpre, hQ⟩ := spF_e h
  rw [d_C_I_e hx]
  clear h hx
  obtain ⟨m0, h0⟩ := hpre
  refine run hG [44] 60 ?_
  refine And.intro trivial ?_
  refine And.intro (fun h1 => ?_) (fun h1 => at_no hQ 0 (by omega) (by decide) (qc_r hp) (fun mp h => ⟨mp, qm_r mp, if_neg (and_f (bB_0.mp h1))⟩))
  have h1 : nI 1 ≤ x ∧ x ≤ nI 120 := and_t.mp (bB_1.mp h1)
  have hn : vp_in x 1000 := in_k h1 (by omega) (by omega) (by omega)
  refine And.intro trivial ?_
  refine And.intro (fun h2 => ?_) (fun h2 => ?_)
  · have h2 : ltB (rw_ hp 1) x = false := bB_0.mp h2
    have hRX : ∀ H, frm 13 hp H → RX H := fun H h => ⟨m0, h0.q (qc_13 h) (qm_r m0)⟩
    have e1 : ∀ H, frm 13 hp H → rw_ H 1 = rw_ hp 1 := fun H h => rw_cg (fun c a b => h c (by omega))
    have eb : ∀ H, frm 13 hp H → H.1 1 = hp.1 1 := fun H h => (h 1 (by omega)).1
    have val : ∀ mp, RC hp mp → F_lamp x mp = (if 0 ≤ (bst (lmX (rw_ hp 1) x.toNatClampNeg) (-1) (nI 0) 25).1 then ((bst (lmX (rw_ hp 1) x.toNatClampNeg) (-1) (nI 0) 25).1, rI mp 56 (mp.1 53)) else noP (rI mp 56 (mp.1 53)) 3) := fun mp h => by
      unfold F_lamp
      rw [if_pos h1, if_neg (by rw [← ltB_ag h.ag, h2]; decide), bst_cg (u := lmX (mp.1 53) x.toNatClampNeg) (v := lmX (rw_ hp 1) x.toNatClampNeg) 25 (fun k hk => (h.ag.lm h.wf hk _).symm)]
    have hwc := h0.wc
    have hlm : ∀ q, q < 25 → rw_ hp 1 (44 + q) = bI (hp.1 1 2) q := fun q hq => rw_lm hp 1 hq
    have hone : ∀ q, q < 25 → rl (rw_ hp 1) (hp.1 1 2 ||| nI 1 <<< (nI q &&& 31)) = upd (rw_ hp 1) (44 + q) (nI 1) := fun q hq => rl_one hp 1 hq
    have hsame : rl (rw_ hp 1) (hp.1 1 2) = rw_ hp 1 := rl_same hp 1
    refine And.intro ⟨⟨m0, h0⟩, hn⟩ ?_
    rintro v hq ⟨rfl, hf⟩
    have hf : frm 13 hp hq := hf
    show G 44 _ [vL (plV (goF (rl (rw_ hp 1) (hp.1 1 2)) x.toNatClampNeg) (mN (rw_ hp 1)))] hq
    rw [hsame]
    generalize rw_ hp 1 = f at e1 val hwc hlm hone
    generalize hN : x.toNatClampNeg = N at val
    have key := for_up (P := fun q => ∀ H, frm 13 hp H → G 54 [(6, vI (nI q)), (5, vI (bst (lmX f N) (-1) (nI 0) q).2), (4, vI (bst (lmX f N) (-1) (nI 0) q).1), (2, vL (plV (goF f N) (mN f))), (1, vI x), (0, vR 0 0)] [] H) 25 (by
      intro H hfr
      refine run hG [54] 60 ?_
      refine And.intro (fun _ => ?_) (fun h => absurd (show nI 25 ≤ nI 25 by decide) h)
      refine And.intro (fun h3 => ?_) (fun h3 => ?_)
      · exact at_q hQ (qc_13 hfr) (fun mp h => ⟨rI mp 56 (mp.1 53), qm_c _ (Or.inr (Or.inl rfl)), by rw [val mp h, if_pos h3]⟩)
      · exact at_no hQ 3 (by omega) (by decide) (qc_13 hfr) (fun mp h => ⟨rI mp 56 (mp.1 53), qm_c _ (Or.inr (Or.inl rfl)), by rw [val mp h, if_neg h3]⟩)) (by
      intro q hq2 ih H hfr
      have eq : (nI q).toNatClampNeg = q := nI_clamp (by omega)
      have eS : bst (lmX f N) (-1) (nI 0) (q + 1) = (match lmX f N q with
        | some y => if y ≤ (bst (lmX f N) (-1) (nI 0) q).2 then bst (lmX f N) (-1) (nI 0) q else (nI q, y)
        | none => bst (lmX f N) (-1) (nI 0) q) := rfl
      rw [eS] at ih
      generalize bst (lmX f N) (-1) (nI 0) q = b at ih
      have h01 := bI_01 (hp.1 1 2) (d := q) (by omega)
      refine run hG [54, 96] 60 ?_
      refine And.intro (fun h => absurd (show nI 25 ≤ nI q from h) (nI_ge hq2 (by omega))) (fun _ => ?_)
      refine And.intro (vp_in_nI hq2 (by omega)) ?_
      refine And.intro (fun h3 => ?_) (fun h3 => ?_)
      · have h3 : ¬ bI (H.1 1 2) (nI q).toNatClampNeg = 0 := h3
        rw [eb H hfr, eq] at h3
        rw [show lmX f N q = none from if_neg (by rw [hlm q hq2]; exact h3)] at ih
        refine cl_lv hG [(6, vI (nI q + nI 1)), (5, vI b.2), (4, vI b.1), (2, vL (plV (goF f N) (mN f))), (1, vI x), (0, vR 0 0)] ⟨rfl, rfl, rfl, rfl, rfl, rfl, trivial⟩ ?_
        rw [nI_s]
        exact ih H hfr
      · have h3 : bI (H.1 1 2) (nI q).toNatClampNeg = 0 := h3
        rw [eb H hfr, eq] at h3
        rw [show lmX f N q = some (lmC f N q) from if_pos (by rw [hlm q hq2]; exact h3)] at ih
        dsimp only at ih
        refine And.intro ⟨hRX H hfr, hn⟩ ?_
        rintro v hr ⟨rfl, hf2⟩
        have hf2 : frm 13 H hr := hf2
        have hfr2 := frm_t hfr hf2
        refine And.intro trivial ?_
        refine cl_lv hG [(7, vI (coV (plV (goF f N) (mN f)) (plV (goF (rl (rw_ H 1) (H.1 1 2 ||| nI 1 <<< (nI q &&& 31))) x.toNatClampNeg) (mN (rw_ H 1))) 8)), (6, vI (nI q)), (5, vI b.2), (4, vI b.1), (2, vL (plV (goF f N) (mN f))), (1, vI x), (0, vR 0 0)] ⟨rfl, rfl, rfl, rfl, rfl, rfl, rfl, trivial⟩ ?_
        rw [e1 H hfr, eb H hfr, hone q hq2, hN, co_lm hwc hq2]
        refine run hG [54] 60 ?_
        refine And.intro (fun h4 => ?_) (fun h4 => ?_)
        · have h4 : lmC f N q ≤ b.2 := h4
          rw [if_pos h4] at ih
          refine cl_lv hG [(6, vI (nI q + nI 1)), (5, vI b.2), (4, vI b.1), (2, vL (plV (goF f N) (mN f))), (1, vI x), (0, vR 0 0)] ⟨rfl, rfl, rfl, rfl, rfl, rfl, trivial⟩ ?_
          rw [nI_s]
          exact ih hr hfr2
        · have h4 : ¬ lmC f N q ≤ b.2 := h4
          rw [if_neg h4] at ih
          refine cl_lv hG [(6, vI (nI q + nI 1)), (5, vI (lmC f N q)), (4, vI (nI q)), (2, vL (plV (goF f N) (mN f))), (1, vI x), (0, vR 0 0)] ⟨rfl, rfl, rfl, rfl, rfl, rfl, trivial⟩ ?_
          rw [nI_s]
          exact ih hr hfr2) 0 (by omega)
    refine run hG [54] 60 ?_
    exact cl_use hG (key hq hf) ⟨rfl, rfl, rfl, rfl, rfl, rfl, trivial⟩
  · have h2 : ltB (rw_ hp 1) x = true := bB_1.mp h2
    refine at_no hQ 4 (by omega) (by decide) (qc_r hp) (fun mp h => ⟨mp, qm_r mp, ?_⟩)
    unfold F_lamp
    rw [if_pos h1, if_pos (by rw [← ltB_ag h.ag, h2])]
theorem sc_X4_lamp {own : String} {F L idx : Nat} (h1 : Cond.methodLink own idx yX4_lamp ∈ Gw) (hF : 7 ≤ F) (hL : 171 ≤ L) : SC own F L (idx, false, 2, sp_X4_lamp) := SC_V spF_mono c_X4_lamp okd_0 (fun as hp K h => by obtain ⟨x, hx, -⟩ := spF_e h; exact ⟨_, _, d_C_I_e hx⟩) h1 gw_550 gw_551 gw_69 gw_552 (by decide +kernel) hF hL
