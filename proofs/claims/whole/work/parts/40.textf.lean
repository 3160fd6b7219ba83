theorem OX.pre {hp : HP} {n h : Nat} {o : Nat → Int32} (h0 : OX hp n h o) (g : Nat → Int32) : OS (tN (ob hp g o)) (tH (ob hp g o)) ((ob hp g o).1 52) := by
  have := h0.1.ts hp g
  rw [this.2.1, this.2.2.1, ob_52]
  exact h0.1
theorem told_fin {hp hq : HP} {Q : QP} {n h : Nat} {o g : Nat → Int32} {v : Option AV} {r : Sum Nat (Nat × (Nat → Int32))} (h0 : OX hp n h o) (ht : told (ob hp g o) r v hq) (hQ : ∀ v hq, told hp r v hq → Q v hq) : ∃ y : Int32, v = some (vI y) ∧ (y = 0 ∨ y = 1) ∧ Q (some (vI y)) hq := by
  cases r with
  | inl s =>
    obtain ⟨rfl, g1, o1, e, h1, h2⟩ := ht
    refine ⟨nI 0, rfl, Or.inl rfl, hQ _ _ ⟨rfl, g1, o1, by rw [e, ob_ob], ?_, h2⟩⟩
    rw [ob_52] at h1
    exact sm_t h0.2 h1
  | inr p =>
    obtain ⟨rfl, o1, e, h1, h2, h3⟩ := ht
    refine ⟨nI 1, rfl, Or.inr rfl, hQ _ _ ⟨rfl, o1, by rw [e, ob_ob], ?_, h2, h3⟩⟩
    rw [ob_52] at h1
    exact sm_t h0.2 h1
def pMoon (t : Nat → Int32) (n h : Nat) (f : Nat → Int32) : Sum Nat (Nat × (Nat → Int32)) := if pnB t n 4 h = true then .inr (pnE t n h, upd f 2 (nI (pnV t n h))) else .inl (bk t n h)
def kwN (t : Nat → Int32) (n b : Nat) : Nat := fst_ (fun k => wrd t n b (40 + 2 * k)) 6 0
def pWds (t : Nat → Int32) (n b : Nat) (f : Nat → Int32) : Sum Nat (Nat × (Nat → Int32)) := if wrd t n b 52 = true then pDoor t n (nI 1) (b + tx_n 52) f else if wrd t n b 54 = true then pDoor t n (nI 0) (b + tx_n 54) f else if wrd t n b 56 = true then pHeight t n (b + tx_n 56) f else if wrd t n b 58 = true then pMark t n 44 (nI 1) (b + tx_n 58) f else if wrd t n b 60 = true then pMark t n 69 (nI 1) (b + tx_n 60) f else if wrd t n b 62 = true then pMark t n 69 (nI 0) (b + tx_n 62) f else if wrd t n b 64 = true then pMoon t n (b + tx_n 64) f else if wrd t n b 66 = true then pRounds t n (b + tx_n 66) f else .inl b
def pIt (t : Nat → Int32) (n b : Nat) (f : Nat → Int32) : Sum Nat (Nat × (Nat → Int32)) := if kwN t n b < 6 then (if f 6 = nI 8 then .inl b else pWalker t n (nI (kwN t n b)) (b + tx_n (40 + 2 * kwN t n b)) f) else pWds t n b f
def sp_X5_item : SP := spF d_M (fun _ hp => OS (tN hp) (tH hp) (hp.1 52) ∧ many (hp.1 53)) (fun _ hp v hq => told hp (pIt (hp.1 62) (tN hp) (bk (hp.1 62) (tN hp) (tH hp)) (hp.1 53)) v hq)
def E_X5_item : EN := [(276, true, 1, sp_X5_kindName), (220, false, 2, sp_X5_isWord), (226, false, 1, sp_X5_fails), (224, false, 2, sp_X5_may_), (280, false, 2, sp_X5_walkerTold), (285, false, 2, sp_X5_doorTold), (292, false, 1, sp_X5_heightTold), (297, false, 3, sp_X5_markTold), (260, false, 3, sp_X5_number), (265, false, 2, sp_X5_must), (308, false, 1, sp_X5_roundsTold)]
set_option maxRecDepth 100000 in
set_option maxHeartbeats 4000000 in
theorem c_X5_item : Ctr M_X5_item sp_X5_item := by
  refine ctr_of (own := RX5) M_X5_item sp_X5_item (P := P_X5_item) (K := K_X5) (E := E_X5_item) (by decide) rfl pk_X5_item K_X5_ok (List.forall_mem_cons.mpr ⟨sc_X5_kindName gw_1161 (by decide) (by decide), List.forall_mem_cons.mpr ⟨sc_X5_isWord gw_1170 (by decide) (by decide), List.forall_mem_cons.mpr ⟨sc_X5_fails gw_1191 (by decide) (by decide), List.forall_mem_cons.mpr ⟨sc_X5_may_ gw_1195 (by decide) (by decide), List.forall_mem_cons.mpr ⟨sc_X5_walkerTold gw_1199 (by decide) (by decide), List.forall_mem_cons.mpr ⟨sc_X5_doorTold gw_1223 (by decide) (by decide), List.forall_mem_cons.mpr ⟨sc_X5_heightTold gw_1229 (by decide) (by decide), List.forall_mem_cons.mpr ⟨sc_X5_markTold gw_1234 (by decide) (by decide), List.forall_mem_cons.mpr ⟨sc_X5_number gw_1208 (by decide) (by decide), List.forall_mem_cons.mpr ⟨sc_X5_must gw_1204 (by decide) (by decide), List.forall_mem_cons.mpr ⟨sc_X5_roundsTold gw_1242 (by decide) (by decide), fun _ h => absurd h List.not_mem_nil⟩⟩⟩⟩⟩⟩⟩⟩⟩⟩⟩) (fun as hp Q h => by obtain ⟨x, hx, -⟩ := spF_e h; rw [d_M_e hx]; exact Nat.le_of_ble_eq_true rfl) ?_
  intro Q G hQi hG as hp h
  obtain ⟨x, hx, hpre, hQ⟩ := spF_e h
  rw [d_M_e hx]
  clear h hx
  obtain ⟨hO, h6⟩ := hpre
  have hX := OX.self hO
  have hid := ob_id hp
  generalize hp.1 52 = o at hX hid
  generalize hp.1 53 = g at hQ hid h6
  generalize tN hp = n at hX hQ
  generalize tH hp = h at hX hQ
  have hB := (bk_le (hp.1 62) hX.1.2.1).2
  generalize hbk : bk (hp.1 62) n h = B at hQ hB
  -- a word is tried at B
  have wk : ∀ m h1 o1, OX hp n h1 o1 → bk (hp.1 62) n h1 = B → wd (hp.1 62) n m h1 = wrd (hp.1 62) n B m ∧ wdK (hp.1 62) n m h1 = B + (if wrd (hp.1 62) n B m = true then tx_n m else 0) ∧ B + (if wrd (hp.1 62) n B m = true then tx_n m else 0) ≤ n := by
    intro m h1 o1 hX1 e1
    have hw := hX1.1.wds hp g m
    have e2 : wd (hp.1 62) n m h1 = wrd (hp.1 62) n B m := by unfold wd; rw [e1]
    have e3 : wdK (hp.1 62) n m h1 = B + (if wrd (hp.1 62) n B m = true then tx_n m else 0) := by unfold wdK; rw [e2, e1]
    rw [e3] at hw
    exact ⟨e2, e3, hw.2.2.1⟩
  have eBB : bk (hp.1 62) n B = B := by rw [← hbk]; exact bk_bk _ hX.1.2.1

  have w193 : (∀ v hq, told hp (if wrd (hp.1 62) n B 66 = true then pRounds (hp.1 62) n (B + tx_n 66) g else .inl B) v hq → Q v hq) → ∀ h1 o1, OX hp n h1 o1 → bk (hp.1 62) n h1 = B → G 193 [(1, vI (nI 6)), (0, vR 5 52)] [] (ob hp g o1) := by
    intro hQ h1 o1 hX1 e1
    have hts := hX1.1.ts hp g
    have hws := hX1.1.wds hp g 66
    have hwk := wk 66 h1 o1 hX1 e1
    have hms := hX1.1.mst hp g 66
    refine run hG [200] 60 ?_
    refine And.intro ⟨hts.1, show txok 66 from tx_ok rfl (by omega), hts.2.2.2.1⟩ ?_
    refine cl_lv hG [(1, vI (nI 6)), (0, vR 5 52)] ⟨rfl, rfl, trivial⟩ ?_
    show G 200 _ [vI (bB (wrd ((ob hp g o1).1 62) (tN (ob hp g o1)) (tB (ob hp g o1)) 66))] (mustH (ob hp g o1) 66)
    rw [hws.1, hms, hwk.1, hwk.2.1, e1]
    have hX2 := hX1.to hwk.2.2
    cases hw : wrd (hp.1 62) n B 66 with
    | false =>
      rw [hw, if_neg (by decide)] at hQ
      rw [if_neg (by decide)]
      refine run hG [] 60 ?_
      refine And.intro (fun h2 => ?_) (fun h2 => absurd (by decide) h2)
      exact And.intro (Or.inl rfl) (told_no hQ rfl (hX1.flt _ _) (by rw [upd_at, if_pos rfl]))
    | true =>
      rw [hw, if_pos rfl] at hQ hX2
      rw [if_pos rfl, if_pos rfl]
      generalize upd o1 12 (nI (B + tx_n 66)) = o2 at hX2
      have hts2 := hX2.1.ts hp g
      refine run hG [] 60 ?_
      refine And.intro (fun h2 => absurd h2 (by decide)) (fun h2 => ?_)
      refine And.intro (hX2.pre g) ?_
      intro v hq ht
      have ht : told (ob hp g o2) (pRounds ((ob hp g o2).1 62) (tN (ob hp g o2)) (tH (ob hp g o2)) ((ob hp g o2).1 53)) v hq := ht
      rw [hts2.2.1, hts2.2.2.1, hts2.2.2.2.2, ob_53] at ht
      obtain ⟨y, rfl, hy, hq9⟩ := told_fin hX2 ht hQ
      refine And.intro (fun h3 => ?_) (fun h3 => ?_)
      · have h3 : y = 0 := h3
        subst h3
        exact And.intro (Or.inl rfl) hq9
      · have h3 : ¬ y = 0 := h3
        have hy1 : y = 1 := hy.resolve_left h3
        subst hy1
        exact And.intro (Or.inr rfl) hq9
  have w160 : (∀ v hq, told hp (if wrd (hp.1 62) n B 64 = true then pMoon (hp.1 62) n (B + tx_n 64) g else if wrd (hp.1 62) n B 66 = true then pRounds (hp.1 62) n (B + tx_n 66) g else .inl B) v hq → Q v hq) → ∀ h1 o1, OX hp n h1 o1 → bk (hp.1 62) n h1 = B → G 160 [(1, vI (nI 6)), (0, vR 5 52)] [] (ob hp g o1) := by
    intro hQ h1 o1 hX1 e1
    have hts := hX1.1.ts hp g
    have hws := hX1.1.wds hp g 64
    have hwk := wk 64 h1 o1 hX1 e1
    have hma := hX1.1.may hp g 64
    refine run hG [167] 60 ?_
    refine And.intro ⟨hts.1, show txok 64 from tx_ok rfl (by omega), hts.2.2.2.1⟩ ?_
    refine cl_lv hG [(1, vI (nI 6)), (0, vR 5 52)] ⟨rfl, rfl, trivial⟩ ?_
    show G 167 _ [vI (bB (wrd ((ob hp g o1).1 62) (tN (ob hp g o1)) (tB (ob hp g o1)) 64))] (uI (ob hp g o1) 52 12 (nI (mayK (ob hp g o1) 64)))
    rw [hws.1, hma, hwk.1, hwk.2.1]
    have hX2 := hX1.to hwk.2.2
    cases hw : wrd (hp.1 62) n B 64 with
    | false =>
      rw [hw, if_neg (by decide)] at hQ hX2
      rw [if_neg (by decide)]
      have k9 := w193 hQ _ _ hX2 eBB
      refine run hG [193] 60 ?_
      refine And.intro (fun h2 => ?_) (fun h2 => absurd (by decide) h2)
      exact cl_use hG k9 ⟨rfl, rfl, trivial⟩
    | true =>
      rw [hw, if_pos rfl] at hQ hX2
      rw [if_pos rfl]
      generalize upd o1 12 (nI (B + tx_n 64)) = o2 at hX2
      have hts2 := hX2.1.ts hp g
      have hnu2 := hX2.1.nu hp g 4
      have hle2 := pn_le (hp.1 62) hX2.1.2.1
      refine run hG [176] 60 ?_
      refine And.intro (fun h2 => absurd h2 (by decide)) (fun h2 => ?_)
      refine And.intro ⟨hts2.1, hts2.2.2.2.1, rfl, vp_in_nI (by omega) (by omega)⟩ ?_
      refine cl_lv hG [(1, vI (nI 6)), (0, vR 5 52)] ⟨rfl, rfl, trivial⟩ ?_
      show G 176 _ [vI (bB (nuB (ob hp g o2) 4))] (nuH (ob hp g o2) 4)
      rw [hnu2.1, hnu2.2]
      unfold pMoon at hQ
      cases hb : pnB (hp.1 62) n 4 (B + tx_n 64) with
      | false =>
        rw [if_neg (by decide)]
        rw [hb, if_neg (by decide)] at hQ
        refine run hG [] 60 ?_
        refine And.intro (fun h1 => absurd (by decide) h1) (fun h1 => ?_)
        exact And.intro (Or.inl rfl) (told_no hQ rfl (hX2.flt _ _) (by rw [upd_at, if_pos rfl]))
      | true =>
        rw [if_pos rfl]
        rw [hb, if_pos rfl] at hQ
        generalize pnV (hp.1 62) n (B + tx_n 64) = V at hQ
        generalize pnE (hp.1 62) n (B + tx_n 64) = E at hQ hle2
        have hX3 := hX2.num hle2.2 (nI V)
        have e14 := v14 hp g (upd o2 12 (nI E)) (nI V)
        generalize upd (upd o2 12 (nI E)) 14 (nI V) = o3 at hX3 e14
        refine run hG [] 60 ?_
        refine And.intro (fun h1 => ?_) (fun h1 => absurd h1 (by decide))
        refine And.intro (vp_in_nI (by omega) (by omega)) ?_
        refine And.intro (Or.inr rfl) (told_ok (o := o3) hQ ?_ hX3.2 hX3.1.2.2.2.1 hX3.1.2.2.2.2)
        show uI (ob hp g o3) 53 2 ((ob hp g o3).1 52 14) = _
        rw [e14, ob_u53]
  have w142 : (∀ v hq, told hp (if wrd (hp.1 62) n B 62 = true then pMark (hp.1 62) n 69 (nI 0) (B + tx_n 62) g else if wrd (hp.1 62) n B 64 = true then pMoon (hp.1 62) n (B + tx_n 64) g else if wrd (hp.1 62) n B 66 = true then pRounds (hp.1 62) n (B + tx_n 66) g else .inl B) v hq → Q v hq) → ∀ h1 o1, OX hp n h1 o1 → bk (hp.1 62) n h1 = B → G 142 [(1, vI (nI 6)), (0, vR 5 52)] [] (ob hp g o1) := by
    intro hQ h1 o1 hX1 e1
    have hts := hX1.1.ts hp g
    have hws := hX1.1.wds hp g 62
    have hwk := wk 62 h1 o1 hX1 e1
    have hma := hX1.1.may hp g 62
    refine run hG [149] 60 ?_
    refine And.intro ⟨hts.1, show txok 62 from tx_ok rfl (by omega), hts.2.2.2.1⟩ ?_
    refine cl_lv hG [(1, vI (nI 6)), (0, vR 5 52)] ⟨rfl, rfl, trivial⟩ ?_
    show G 149 _ [vI (bB (wrd ((ob hp g o1).1 62) (tN (ob hp g o1)) (tB (ob hp g o1)) 62))] (uI (ob hp g o1) 52 12 (nI (mayK (ob hp g o1) 62)))
    rw [hws.1, hma, hwk.1, hwk.2.1]
    have hX2 := hX1.to hwk.2.2
    cases hw : wrd (hp.1 62) n B 62 with
    | false =>
      rw [hw, if_neg (by decide)] at hQ hX2
      rw [if_neg (by decide)]
      have k9 := w160 hQ _ _ hX2 eBB
      refine run hG [160] 60 ?_
      refine And.intro (fun h2 => ?_) (fun h2 => absurd (by decide) h2)
      exact cl_use hG k9 ⟨rfl, rfl, trivial⟩
    | true =>
      rw [hw, if_pos rfl] at hQ hX2
      rw [if_pos rfl]
      generalize upd o1 12 (nI (B + tx_n 62)) = o2 at hX2
      have hts2 := hX2.1.ts hp g
      refine run hG [] 60 ?_
      refine And.intro (fun h2 => absurd h2 (by decide)) (fun h2 => ?_)
      refine And.intro ⟨hX2.pre g, vp_in_nI (by omega) (by omega)⟩ ?_
      intro v hq ht
      have ht : told (ob hp g o2) (pMark ((ob hp g o2).1 62) (tN (ob hp g o2)) 69 (nI 0) (tH (ob hp g o2)) ((ob hp g o2).1 53)) v hq := ht
      rw [hts2.2.1, hts2.2.2.1, hts2.2.2.2.2, ob_53] at ht
      obtain ⟨y, rfl, hy, hq9⟩ := told_fin hX2 ht hQ
      exact And.intro hy hq9
  have w124 : (∀ v hq, told hp (if wrd (hp.1 62) n B 60 = true then pMark (hp.1 62) n 69 (nI 1) (B + tx_n 60) g else if wrd (hp.1 62) n B 62 = true then pMark (hp.1 62) n 69 (nI 0) (B + tx_n 62) g else if wrd (hp.1 62) n B 64 = true then pMoon (hp.1 62) n (B + tx_n 64) g else if wrd (hp.1 62) n B 66 = true then pRounds (hp.1 62) n (B + tx_n 66) g else .inl B) v hq → Q v hq) → ∀ h1 o1, OX hp n h1 o1 → bk (hp.1 62) n h1 = B → G 124 [(1, vI (nI 6)), (0, vR 5 52)] [] (ob hp g o1) := by
    intro hQ h1 o1 hX1 e1
    have hts := hX1.1.ts hp g
    have hws := hX1.1.wds hp g 60
    have hwk := wk 60 h1 o1 hX1 e1
    have hma := hX1.1.may hp g 60
    refine run hG [131] 60 ?_
    refine And.intro ⟨hts.1, show txok 60 from tx_ok rfl (by omega), hts.2.2.2.1⟩ ?_
    refine cl_lv hG [(1, vI (nI 6)), (0, vR 5 52)] ⟨rfl, rfl, trivial⟩ ?_
    show G 131 _ [vI (bB (wrd ((ob hp g o1).1 62) (tN (ob hp g o1)) (tB (ob hp g o1)) 60))] (uI (ob hp g o1) 52 12 (nI (mayK (ob hp g o1) 60)))
    rw [hws.1, hma, hwk.1, hwk.2.1]
    have hX2 := hX1.to hwk.2.2
    cases hw : wrd (hp.1 62) n B 60 with
    | false =>
      rw [hw, if_neg (by decide)] at hQ hX2
      rw [if_neg (by decide)]
      have k9 := w142 hQ _ _ hX2 eBB
      refine run hG [142] 60 ?_
      refine And.intro (fun h2 => ?_) (fun h2 => absurd (by decide) h2)
      exact cl_use hG k9 ⟨rfl, rfl, trivial⟩
    | true =>
      rw [hw, if_pos rfl] at hQ hX2
      rw [if_pos rfl]
      generalize upd o1 12 (nI (B + tx_n 60)) = o2 at hX2
      have hts2 := hX2.1.ts hp g
      refine run hG [] 60 ?_
      refine And.intro (fun h2 => absurd h2 (by decide)) (fun h2 => ?_)
      refine And.intro ⟨hX2.pre g, vp_in_nI (by omega) (by omega)⟩ ?_
      intro v hq ht
      have ht : told (ob hp g o2) (pMark ((ob hp g o2).1 62) (tN (ob hp g o2)) 69 (nI 1) (tH (ob hp g o2)) ((ob hp g o2).1 53)) v hq := ht
      rw [hts2.2.1, hts2.2.2.1, hts2.2.2.2.2, ob_53] at ht
      obtain ⟨y, rfl, hy, hq9⟩ := told_fin hX2 ht hQ
      exact And.intro hy hq9
  have w106 : (∀ v hq, told hp (if wrd (hp.1 62) n B 58 = true then pMark (hp.1 62) n 44 (nI 1) (B + tx_n 58) g else if wrd (hp.1 62) n B 60 = true then pMark (hp.1 62) n 69 (nI 1) (B + tx_n 60) g else if wrd (hp.1 62) n B 62 = true then pMark (hp.1 62) n 69 (nI 0) (B + tx_n 62) g else if wrd (hp.1 62) n B 64 = true then pMoon (hp.1 62) n (B + tx_n 64) g else if wrd (hp.1 62) n B 66 = true then pRounds (hp.1 62) n (B + tx_n 66) g else .inl B) v hq → Q v hq) → ∀ h1 o1, OX hp n h1 o1 → bk (hp.1 62) n h1 = B → G 106 [(1, vI (nI 6)), (0, vR 5 52)] [] (ob hp g o1) := by
    intro hQ h1 o1 hX1 e1
    have hts := hX1.1.ts hp g
    have hws := hX1.1.wds hp g 58
    have hwk := wk 58 h1 o1 hX1 e1
    have hma := hX1.1.may hp g 58
    refine run hG [113] 60 ?_
    refine And.intro ⟨hts.1, show txok 58 from tx_ok rfl (by omega), hts.2.2.2.1⟩ ?_
    refine cl_lv hG [(1, vI (nI 6)), (0, vR 5 52)] ⟨rfl, rfl, trivial⟩ ?_
    show G 113 _ [vI (bB (wrd ((ob hp g o1).1 62) (tN (ob hp g o1)) (tB (ob hp g o1)) 58))] (uI (ob hp g o1) 52 12 (nI (mayK (ob hp g o1) 58)))
    rw [hws.1, hma, hwk.1, hwk.2.1]
    have hX2 := hX1.to hwk.2.2
    cases hw : wrd (hp.1 62) n B 58 with
    | false =>
      rw [hw, if_neg (by decide)] at hQ hX2
      rw [if_neg (by decide)]
      have k9 := w124 hQ _ _ hX2 eBB
      refine run hG [124] 60 ?_
      refine And.intro (fun h2 => ?_) (fun h2 => absurd (by decide) h2)
      exact cl_use hG k9 ⟨rfl, rfl, trivial⟩
    | true =>
      rw [hw, if_pos rfl] at hQ hX2
      rw [if_pos rfl]
      generalize upd o1 12 (nI (B + tx_n 58)) = o2 at hX2
      have hts2 := hX2.1.ts hp g
      refine run hG [] 60 ?_
      refine And.intro (fun h2 => absurd h2 (by decide)) (fun h2 => ?_)
      refine And.intro ⟨hX2.pre g, vp_in_nI (by omega) (by omega)⟩ ?_
      intro v hq ht
      have ht : told (ob hp g o2) (pMark ((ob hp g o2).1 62) (tN (ob hp g o2)) 44 (nI 1) (tH (ob hp g o2)) ((ob hp g o2).1 53)) v hq := ht
      rw [hts2.2.1, hts2.2.2.1, hts2.2.2.2.2, ob_53] at ht
      obtain ⟨y, rfl, hy, hq9⟩ := told_fin hX2 ht hQ
      exact And.intro hy hq9
  have w91 : (∀ v hq, told hp (if wrd (hp.1 62) n B 56 = true then pHeight (hp.1 62) n (B + tx_n 56) g else if wrd (hp.1 62) n B 58 = true then pMark (hp.1 62) n 44 (nI 1) (B + tx_n 58) g else if wrd (hp.1 62) n B 60 = true then pMark (hp.1 62) n 69 (nI 1) (B + tx_n 60) g else if wrd (hp.1 62) n B 62 = true then pMark (hp.1 62) n 69 (nI 0) (B + tx_n 62) g else if wrd (hp.1 62) n B 64 = true then pMoon (hp.1 62) n (B + tx_n 64) g else if wrd (hp.1 62) n B 66 = true then pRounds (hp.1 62) n (B + tx_n 66) g else .inl B) v hq → Q v hq) → ∀ h1 o1, OX hp n h1 o1 → bk (hp.1 62) n h1 = B → G 91 [(1, vI (nI 6)), (0, vR 5 52)] [] (ob hp g o1) := by
    intro hQ h1 o1 hX1 e1
    have hts := hX1.1.ts hp g
    have hws := hX1.1.wds hp g 56
    have hwk := wk 56 h1 o1 hX1 e1
    have hma := hX1.1.may hp g 56
    refine run hG [98] 60 ?_
    refine And.intro ⟨hts.1, show txok 56 from tx_ok rfl (by omega), hts.2.2.2.1⟩ ?_
    refine cl_lv hG [(1, vI (nI 6)), (0, vR 5 52)] ⟨rfl, rfl, trivial⟩ ?_
    show G 98 _ [vI (bB (wrd ((ob hp g o1).1 62) (tN (ob hp g o1)) (tB (ob hp g o1)) 56))] (uI (ob hp g o1) 52 12 (nI (mayK (ob hp g o1) 56)))
    rw [hws.1, hma, hwk.1, hwk.2.1]
    have hX2 := hX1.to hwk.2.2
    cases hw : wrd (hp.1 62) n B 56 with
    | false =>
      rw [hw, if_neg (by decide)] at hQ hX2
      rw [if_neg (by decide)]
      have k9 := w106 hQ _ _ hX2 eBB
      refine run hG [106] 60 ?_
      refine And.intro (fun h2 => ?_) (fun h2 => absurd (by decide) h2)
      exact cl_use hG k9 ⟨rfl, rfl, trivial⟩
    | true =>
      rw [hw, if_pos rfl] at hQ hX2
      rw [if_pos rfl]
      generalize upd o1 12 (nI (B + tx_n 56)) = o2 at hX2
      have hts2 := hX2.1.ts hp g
      refine run hG [] 60 ?_
      refine And.intro (fun h2 => absurd h2 (by decide)) (fun h2 => ?_)
      refine And.intro (hX2.pre g) ?_
      intro v hq ht
      have ht : told (ob hp g o2) (pHeight ((ob hp g o2).1 62) (tN (ob hp g o2)) (tH (ob hp g o2)) ((ob hp g o2).1 53)) v hq := ht
      rw [hts2.2.1, hts2.2.2.1, hts2.2.2.2.2, ob_53] at ht
      obtain ⟨y, rfl, hy, hq9⟩ := told_fin hX2 ht hQ
      exact And.intro hy hq9
  have w75 : (∀ v hq, told hp (if wrd (hp.1 62) n B 54 = true then pDoor (hp.1 62) n (nI 0) (B + tx_n 54) g else if wrd (hp.1 62) n B 56 = true then pHeight (hp.1 62) n (B + tx_n 56) g else if wrd (hp.1 62) n B 58 = true then pMark (hp.1 62) n 44 (nI 1) (B + tx_n 58) g else if wrd (hp.1 62) n B 60 = true then pMark (hp.1 62) n 69 (nI 1) (B + tx_n 60) g else if wrd (hp.1 62) n B 62 = true then pMark (hp.1 62) n 69 (nI 0) (B + tx_n 62) g else if wrd (hp.1 62) n B 64 = true then pMoon (hp.1 62) n (B + tx_n 64) g else if wrd (hp.1 62) n B 66 = true then pRounds (hp.1 62) n (B + tx_n 66) g else .inl B) v hq → Q v hq) → ∀ h1 o1, OX hp n h1 o1 → bk (hp.1 62) n h1 = B → G 75 [(1, vI (nI 6)), (0, vR 5 52)] [] (ob hp g o1) := by
    intro hQ h1 o1 hX1 e1
    have hts := hX1.1.ts hp g
    have hws := hX1.1.wds hp g 54
    have hwk := wk 54 h1 o1 hX1 e1
    have hma := hX1.1.may hp g 54
    refine run hG [82] 60 ?_
    refine And.intro ⟨hts.1, show txok 54 from tx_ok rfl (by omega), hts.2.2.2.1⟩ ?_
    refine cl_lv hG [(1, vI (nI 6)), (0, vR 5 52)] ⟨rfl, rfl, trivial⟩ ?_
    show G 82 _ [vI (bB (wrd ((ob hp g o1).1 62) (tN (ob hp g o1)) (tB (ob hp g o1)) 54))] (uI (ob hp g o1) 52 12 (nI (mayK (ob hp g o1) 54)))
    rw [hws.1, hma, hwk.1, hwk.2.1]
    have hX2 := hX1.to hwk.2.2
    cases hw : wrd (hp.1 62) n B 54 with
    | false =>
      rw [hw, if_neg (by decide)] at hQ hX2
      rw [if_neg (by decide)]
      have k9 := w91 hQ _ _ hX2 eBB
      refine run hG [91] 60 ?_
      refine And.intro (fun h2 => ?_) (fun h2 => absurd (by decide) h2)
      exact cl_use hG k9 ⟨rfl, rfl, trivial⟩
    | true =>
      rw [hw, if_pos rfl] at hQ hX2
      rw [if_pos rfl]
      generalize upd o1 12 (nI (B + tx_n 54)) = o2 at hX2
      have hts2 := hX2.1.ts hp g
      refine run hG [] 60 ?_
      refine And.intro (fun h2 => absurd h2 (by decide)) (fun h2 => ?_)
      refine And.intro (hX2.pre g) ?_
      intro v hq ht
      have ht : told (ob hp g o2) (pDoor ((ob hp g o2).1 62) (tN (ob hp g o2)) (nI 0) (tH (ob hp g o2)) ((ob hp g o2).1 53)) v hq := ht
      rw [hts2.2.1, hts2.2.2.1, hts2.2.2.2.2, ob_53] at ht
      obtain ⟨y, rfl, hy, hq9⟩ := told_fin hX2 ht hQ
      exact And.intro hy hq9
  have w59 : (∀ v hq, told hp (if wrd (hp.1 62) n B 52 = true then pDoor (hp.1 62) n (nI 1) (B + tx_n 52) g else if wrd (hp.1 62) n B 54 = true then pDoor (hp.1 62) n (nI 0) (B + tx_n 54) g else if wrd (hp.1 62) n B 56 = true then pHeight (hp.1 62) n (B + tx_n 56) g else if wrd (hp.1 62) n B 58 = true then pMark (hp.1 62) n 44 (nI 1) (B + tx_n 58) g else if wrd (hp.1 62) n B 60 = true then pMark (hp.1 62) n 69 (nI 1) (B + tx_n 60) g else if wrd (hp.1 62) n B 62 = true then pMark (hp.1 62) n 69 (nI 0) (B + tx_n 62) g else if wrd (hp.1 62) n B 64 = true then pMoon (hp.1 62) n (B + tx_n 64) g else if wrd (hp.1 62) n B 66 = true then pRounds (hp.1 62) n (B + tx_n 66) g else .inl B) v hq → Q v hq) → ∀ h1 o1, OX hp n h1 o1 → bk (hp.1 62) n h1 = B → G 59 [(1, vI (nI 6)), (0, vR 5 52)] [] (ob hp g o1) := by
    intro hQ h1 o1 hX1 e1
    have hts := hX1.1.ts hp g
    have hws := hX1.1.wds hp g 52
    have hwk := wk 52 h1 o1 hX1 e1
    have hma := hX1.1.may hp g 52
    refine run hG [66] 60 ?_
    refine And.intro ⟨hts.1, show txok 52 from tx_ok rfl (by omega), hts.2.2.2.1⟩ ?_
    refine cl_lv hG [(1, vI (nI 6)), (0, vR 5 52)] ⟨rfl, rfl, trivial⟩ ?_
    show G 66 _ [vI (bB (wrd ((ob hp g o1).1 62) (tN (ob hp g o1)) (tB (ob hp g o1)) 52))] (uI (ob hp g o1) 52 12 (nI (mayK (ob hp g o1) 52)))
    rw [hws.1, hma, hwk.1, hwk.2.1]
    have hX2 := hX1.to hwk.2.2
    cases hw : wrd (hp.1 62) n B 52 with
    | false =>
      rw [hw, if_neg (by decide)] at hQ hX2
      rw [if_neg (by decide)]
      have k9 := w75 hQ _ _ hX2 eBB
      refine run hG [75] 60 ?_
      refine And.intro (fun h2 => ?_) (fun h2 => absurd (by decide) h2)
      exact cl_use hG k9 ⟨rfl, rfl, trivial⟩
    | true =>
      rw [hw, if_pos rfl] at hQ hX2
      rw [if_pos rfl]
      generalize upd o1 12 (nI (B + tx_n 52)) = o2 at hX2
      have hts2 := hX2.1.ts hp g
      refine run hG [] 60 ?_
      refine And.intro (fun h2 => absurd h2 (by decide)) (fun h2 => ?_)
      refine And.intro (hX2.pre g) ?_
      intro v hq ht
      have ht : told (ob hp g o2) (pDoor ((ob hp g o2).1 62) (tN (ob hp g o2)) (nI 1) (tH (ob hp g o2)) ((ob hp g o2).1 53)) v hq := ht
      rw [hts2.2.1, hts2.2.2.1, hts2.2.2.2.2, ob_53] at ht
      obtain ⟨y, rfl, hy, hq9⟩ := told_fin hX2 ht hQ
      exact And.intro hy hq9
  unfold pIt at hQ
  -- the kinds
  have key := for_up (P := fun k => kwN (hp.1 62) n B = fst_ (fun k => wrd (hp.1 62) n B (40 + 2 * k)) (6 - k) k → ∀ h1 o1, OX hp n h1 o1 → bk (hp.1 62) n h1 = B → G 2 [(1, vI (nI k)), (0, vR 5 52)] [] (ob hp g o1)) 6 (by
    intro hk h1 o1 hX1 e1
    have hk : kwN (hp.1 62) n B = 6 := hk
    rw [hk, if_neg (by omega)] at hQ
    have k9 := w59 hQ h1 o1 hX1 e1
    refine run hG [2, 59] 60 ?_
    refine And.intro (fun h2 => ?_) (fun h2 => absurd (nI_le (Nat.le_refl _) (by omega)) h2)
    exact cl_use hG k9 ⟨rfl, rfl, trivial⟩) (by
    intro k hk ih hkw h1 o1 hX1 e1
    have ek : (nI k).toNatClampNeg = k := nI_clamp (by omega)
    rw [show 6 - k = (6 - (k + 1)) + 1 by omega] at hkw
    have hkw : kwN (hp.1 62) n B = if wrd (hp.1 62) n B (40 + 2 * k) = true then k else fst_ (fun k => wrd (hp.1 62) n B (40 + 2 * k)) (6 - (k + 1)) (k + 1) := hkw
    have hts := hX1.1.ts hp g
    have hws := hX1.1.wds hp g (40 + 2 * k)
    have hwk := wk (40 + 2 * k) h1 o1 hX1 e1
    have htb := hX1.1.tb hp g
    have htx : txok (40 + 2 * (nI k).toNatClampNeg) := by rw [ek]; exact tx_ok (by omega) (by omega)
    refine run hG [2, 16] 60 ?_
    refine And.intro (fun h2 => absurd h2 (nI_ge hk (by omega))) (fun h2 => ?_)
    refine And.intro (vp_in_nI (by omega) (by omega)) ?_
    refine And.intro ⟨hts.1, htx⟩ ?_
    refine cl_lv hG [(1, vI (nI k)), (0, vR 5 52)] ⟨rfl, rfl, trivial⟩ ?_
    show G 16 _ [vI (bB (wrd ((ob hp g o1).1 62) (tN (ob hp g o1)) (tB (ob hp g o1)) (40 + 2 * (nI k).toNatClampNeg)))] (uI (ob hp g o1) 52 12 (nI (tB (ob hp g o1))))
    rw [ek, hws.1, hwk.1, htb, e1, ob_u52]
    have hX2 := hX1.to hB
    have e12 : upd o1 12 (nI B) 12 = nI B := by rw [upd_at, if_pos rfl]
    generalize upd o1 12 (nI B) = o2 at hX2 e12
    have hts2 := hX2.1.ts hp g
    have hws2 := hX2.1.wds hp g (40 + 2 * k)
    have hwk2 := wk (40 + 2 * k) B o2 hX2 eBB
    have hma2 := hX2.1.may hp g (40 + 2 * k)
    have hX3 := hX2.to hwk2.2.2
    -- the second try, at 36
    have at44 : G 44 [(1, vI (nI k)), (0, vR 5 52)] [vI (bB (wrd (hp.1 62) n B (40 + 2 * k)))] (ob hp g (upd o2 12 (nI (B + (if wrd (hp.1 62) n B (40 + 2 * k) = true then tx_n (40 + 2 * k) else 0))))) → G 36 [(1, vI (nI k)), (0, vR 5 52)] [] (ob hp g o2) := by
      intro k9
      refine run hG [44] 60 ?_
      refine And.intro (vp_in_nI (by omega) (by omega)) ?_
      refine And.intro ⟨hts2.1, htx, hts2.2.2.2.1⟩ ?_
      refine cl_lv hG [(1, vI (nI k)), (0, vR 5 52)] ⟨rfl, rfl, trivial⟩ ?_
      show G 44 _ [vI (bB (wrd ((ob hp g o2).1 62) (tN (ob hp g o2)) (tB (ob hp g o2)) (40 + 2 * (nI k).toNatClampNeg)))] (uI (ob hp g o2) 52 12 (nI (mayK (ob hp g o2) (40 + 2 * (nI k).toNatClampNeg))))
      rw [ek, hws2.1, hma2, hwk2.1, hwk2.2.1]
      exact k9
    cases hw : wrd (hp.1 62) n B (40 + 2 * k) with
    | false =>
      rw [hw, if_neg (by decide)] at hkw hX3 at44
      refine run hG [36] 60 ?_
      refine And.intro (fun h2 => ?_) (fun h2 => absurd (by decide) h2)
      refine cl_use hG (at44 ?_) ⟨rfl, rfl, trivial⟩
      have k9 := ih hkw _ _ hX3 eBB
      refine run hG [2] 60 ?_
      refine And.intro (fun h2 => ?_) (fun h2 => absurd (by decide) h2)
      refine cl_lv hG [(1, vI (nI k + nI 1)), (0, vR 5 52)] ⟨rfl, rfl, trivial⟩ ?_
      rw [nI_s]
      exact k9
    | true =>
      rw [hw, if_pos rfl] at hkw hX3 at44
      rw [hkw, if_pos hk] at hQ
      refine run hG [36] 60 ?_
      refine And.intro (fun h2 => absurd h2 (by decide)) (fun h2 => ?_)
      refine And.intro (vp_in_nI (by omega) (by omega)) ?_
      have e6 : (ob hp g o2).1 53 (nI 6).toNatClampNeg = g 6 := by rw [ob_53]; rfl
      refine And.intro (fun h3 => ?_) (fun h3 => ?_)
      · have h3 : ¬ (ob hp g o2).1 53 (nI 6).toNatClampNeg = nI 8 := h3
        rw [e6] at h3
        rw [if_neg h3] at hQ
        refine cl_use hG (at44 ?_) ⟨rfl, rfl, trivial⟩
        generalize upd o2 12 (nI (B + tx_n (40 + 2 * k))) = o3 at hX3
        have hts3 := hX3.1.ts hp g
        have h63 : ∃ c, c < 8 ∧ (ob hp g o3).1 53 6 = nI c := by
          obtain ⟨c, hc, e⟩ := h6
          refine ⟨c, ?_, by rw [ob_53]; exact e⟩
          rcases Nat.lt_or_ge c 8 with h | h
          · exact h
          · exact absurd (by rw [e, show c = 8 by omega]) h3
        refine run hG [2] 60 ?_
        refine And.intro (fun h2 => absurd h2 (by decide)) (fun h2 => ?_)
        refine And.intro ⟨hX3.pre g, h63⟩ ?_
        intro v hq ht
        have ht : told (ob hp g o3) (pWalker ((ob hp g o3).1 62) (tN (ob hp g o3)) (nI k) (tH (ob hp g o3)) ((ob hp g o3).1 53)) v hq := ht
        rw [hts3.2.1, hts3.2.2.1, hts3.2.2.2.2, ob_53] at ht
        obtain ⟨y, rfl, hy, hq9⟩ := told_fin hX3 ht hQ
        exact And.intro hy hq9
      · have h3 : (ob hp g o2).1 53 (nI 6).toNatClampNeg = nI 8 := h3
        rw [e6] at h3
        rw [if_pos h3] at hQ
        refine And.intro trivial ?_
        refine And.intro (Or.inl rfl) (told_no (g := g) (o := upd o2 13 (nI B)) hQ ?_ (sm_u hX2.2 (by omega) _) (by rw [upd_at, if_pos rfl]))
        show uI (ob hp g o2) 52 13 (if 0 ≤ (ob hp g o2).1 52 13 then (ob hp g o2).1 52 13 else (ob hp g o2).1 52 12) = _
        rw [hts2.2.2.2.1, if_neg not_nn, ob_52, e12, ob_u52]) 0 (by omega) rfl h o hX hbk
  rw [← hid]
  refine run hG [2] 60 ?_
  exact cl_use hG key ⟨rfl, rfl, trivial⟩
theorem sc_X5_item {own : String} {F L idx : Nat} (h1 : Cond.methodLink own idx yX5_item ∈ Gw) (hF : 10 ≤ F) (hL : 216 ≤ L) : SC own F L (idx, false, 1, sp_X5_item) := SC_V spF_mono c_X5_item okd_5 (fun as hp K h => by obtain ⟨x, hx, -⟩ := spF_e h; exact ⟨_, _, d_M_e hx⟩) h1 gw_1159 gw_51 gw_75 gw_1160 (by decide +kernel) hF hL
