theorem tx_ok {m : Nat} (h : m % 2 = 0) (h2 : 40 ≤ m ∧ m < 72) : txok m := ⟨h, Or.inr h2⟩
theorem OS.mst {n h : Nat} {o : Nat → Int32} (hO : OS n h o) (hp : HP) (g : Nat → Int32) (m : Nat) : mustH (ob hp g o) m = if wd (hp.1 62) n m h = true then ob hp g (upd o 12 (nI (wdK (hp.1 62) n m h))) else ob hp g (upd (upd o 12 (nI (bk (hp.1 62) n h))) 13 (nI (bk (hp.1 62) n h))) := by
  have h1 := hO.wds hp g m
  have h2 := hO.tb hp g
  unfold mustH fltH
  rw [h1.1, h1.2.1, h2, ob_u52, ob_u52, ob_u52]
theorem OS.may {n h : Nat} {o : Nat → Int32} (hO : OS n h o) (hp : HP) (g : Nat → Int32) (m : Nat) : uI (ob hp g o) 52 12 (nI (mayK (ob hp g o) m)) = ob hp g (upd o 12 (nI (wdK (hp.1 62) n m h))) := by
  rw [(hO.wds hp g m).2.1, ob_u52]
def pWay (t : Nat → Int32) (n : Nat) (k q : Int32) (h : Nat) (f : Nat → Int32) : Sum Nat (Nat × (Nat → Int32)) := if wd t n 70 h = true then (if pnB t n 3 (wdK t n 70 h) = true then .inr (pnE t n (wdK t n 70 h), addF f k q (nI (pnV t n (wdK t n 70 h)))) else .inl (bk t n (wdK t n 70 h))) else .inr (wdK t n 70 h, addF f k q (nI 0))
def pWalker (t : Nat → Int32) (n : Nat) (k : Int32) (h : Nat) (f : Nat → Int32) : Sum Nat (Nat × (Nat → Int32)) := if wd t n 68 h = true then (if pnB t n 24 (wdK t n 68 h) = true then pWay t n k (nI (pnV t n (wdK t n 68 h))) (pnE t n (wdK t n 68 h)) f else .inl (bk t n (wdK t n 68 h))) else .inl (bk t n h)
def sp_X5_walkerTold : SP := spF d_M_I (fun _ hp => OS (tN hp) (tH hp) (hp.1 52) ∧ ∃ c, c < 8 ∧ hp.1 53 6 = nI c) (fun x hp v hq => told hp (pWalker (hp.1 62) (tN hp) x (tH hp) (hp.1 53)) v hq)
def E_X5_walkerTold : EN := [(265, false, 2, sp_X5_must), (260, false, 3, sp_X5_number), (224, false, 2, sp_X5_may_), (99, false, 4, sp_X5_adds)]
set_option maxRecDepth 100000 in
set_option maxHeartbeats 4000000 in
theorem c_X5_walkerTold : Ctr M_X5_walkerTold sp_X5_walkerTold := by
  refine ctr_of (own := RX5) M_X5_walkerTold sp_X5_walkerTold (P := P_X5_walkerTold) (K := K_X5) (E := E_X5_walkerTold) (by decide) rfl pk_X5_walkerTold K_X5_ok (List.forall_mem_cons.mpr ⟨sc_X5_must gw_1204 (by decide) (by decide), List.forall_mem_cons.mpr ⟨sc_X5_number gw_1208 (by decide) (by decide), List.forall_mem_cons.mpr ⟨sc_X5_may_ gw_1195 (by decide) (by decide), List.forall_mem_cons.mpr ⟨sc_X5_adds gw_950 (by decide) (by decide), fun _ h => absurd h List.not_mem_nil⟩⟩⟩⟩) (fun as hp Q h => by obtain ⟨x, hx, -⟩ := spF_e h; rw [d_M_I_e hx]; exact Nat.le_of_ble_eq_true rfl) ?_
  intro Q G hQi hG as hp h
  obtain ⟨x, hx, hpre, hQ⟩ := spF_e h
  rw [d_M_I_e hx]
  clear h hx
  obtain ⟨hO, h6⟩ := hpre
  have hX := OX.self hO
  have hid := ob_id hp
  generalize hp.1 52 = o at hX hid
  generalize hp.1 53 = g at hQ hid h6
  generalize tN hp = n at hX hQ
  generalize tH hp = h at hX hQ
  have hts := hX.1.ts hp g
  have hws := hX.1.wds hp g 68
  have hms := hX.1.mst hp g 68
  rw [← hid]
  refine run hG [7] 60 ?_
  refine And.intro ⟨hts.1, show txok 68 from tx_ok rfl (by omega), hts.2.2.2.1⟩ ?_
  refine cl_lv hG [(0, vR 5 52), (1, vI x)] ⟨rfl, rfl, trivial⟩ ?_
  show G 7 _ [vI (bB (wrd ((ob hp g o).1 62) (tN (ob hp g o)) (tB (ob hp g o)) 68))] (mustH (ob hp g o) 68)
  rw [hws.1, hms]
  unfold pWalker at hQ
  cases hb : wd (hp.1 62) n 68 h with
  | false =>
    rw [if_neg (by decide)]
    rw [hb, if_neg (by decide)] at hQ
    refine run hG [] 60 ?_
    refine And.intro (fun h1 => ?_) (fun h1 => absurd (by decide) h1)
    exact And.intro (Or.inl rfl) (told_no hQ rfl (hX.flt _ _) (by rw [upd_at, if_pos rfl]))
  | true =>
    rw [if_pos rfl]
    rw [hb, if_pos rfl] at hQ
    have hX1 := hX.to hws.2.2.1
    generalize wdK (hp.1 62) n 68 h = a1 at hX1 hQ
    generalize upd o 12 (nI a1) = o1 at hX1
    have hts1 := hX1.1.ts hp g
    have hnu1 := hX1.1.nu hp g 24
    have hle1 := pn_le (hp.1 62) hX1.1.2.1
    refine run hG [17] 60 ?_
    refine And.intro (fun h1 => absurd h1 (by decide)) (fun h1 => ?_)
    refine And.intro ⟨hts1.1, hts1.2.2.2.1, rfl, vp_in_nI (by omega) (by omega)⟩ ?_
    refine cl_lv hG [(0, vR 5 52), (1, vI x)] ⟨rfl, rfl, trivial⟩ ?_
    show G 17 _ [vI (bB (nuB (ob hp g o1) 24))] (nuH (ob hp g o1) 24)
    rw [hnu1.1, hnu1.2]
    cases hb1 : pnB (hp.1 62) n 24 a1 with
    | false =>
      rw [if_neg (by decide)]
      rw [hb1, if_neg (by decide)] at hQ
      refine run hG [] 60 ?_
      refine And.intro (fun h1 => absurd (by decide) h1) (fun h1 => ?_)
      exact And.intro (Or.inl rfl) (told_no hQ rfl (hX1.flt _ _) (by rw [upd_at, if_pos rfl]))
    | true =>
      rw [if_pos rfl]
      rw [hb1, if_pos rfl] at hQ
      generalize pnV (hp.1 62) n a1 = V at hQ
      generalize pnE (hp.1 62) n a1 = E at hQ hle1
      have hX2 := hX1.num hle1.2 (nI V)
      have e14 := v14 hp g (upd o1 12 (nI E)) (nI V)
      generalize upd (upd o1 12 (nI E)) 14 (nI V) = o2 at hX2 e14
      have hts2 := hX2.1.ts hp g
      have hws2 := hX2.1.wds hp g 70
      have hma2 := hX2.1.may hp g 70
      -- the end: a walker more
      have fin : ∀ y k o9, OX hp n k o9 → (∀ v hq, told hp (.inr (k, addF g x (nI V) y)) v hq → Q v hq) → G 55 [(3, vI y), (2, vI (nI V)), (0, vR 5 52), (1, vI x)] [] (ob hp g o9) := by
        intro y k o9 hX9 hQ9
        refine run hG [] 60 ?_
        refine And.intro (show ∃ n, n < 8 ∧ (ob hp g o9).1 53 6 = nI n by rw [ob_53]; exact h6) ?_
        refine And.intro (Or.inr rfl) (told_ok (o := o9) hQ9 ?_ hX9.2 hX9.1.2.2.2.1 hX9.1.2.2.2.2)
        show rI (ob hp g o9) 53 (addF ((ob hp g o9).1 53) x (nI V) y) = _
        rw [ob_53, ob_r53]
      refine run hG [36] 60 ?_
      refine And.intro (fun h1 => ?_) (fun h1 => absurd h1 (by decide))
      refine And.intro ⟨hts2.1, show txok 70 from tx_ok rfl (by omega), hts2.2.2.2.1⟩ ?_
      refine cl_lv hG [(3, vI (nI 0)), (2, vI ((ob hp g o2).1 52 14)), (0, vR 5 52), (1, vI x)] ⟨rfl, rfl, rfl, rfl, trivial⟩ ?_
      show G 36 _ [vI (bB (wrd ((ob hp g o2).1 62) (tN (ob hp g o2)) (tB (ob hp g o2)) 70))] (uI (ob hp g o2) 52 12 (nI (mayK (ob hp g o2) 70)))
      rw [hws2.1, hma2, e14]
      unfold pWay at hQ
      cases hb2 : wd (hp.1 62) n 70 E with
      | false =>
        rw [hb2, if_neg (by decide)] at hQ
        have hX3 := hX2.to hws2.2.2.1
        have f9 := fin _ _ _ hX3 hQ
        refine run hG [55] 60 ?_
        refine And.intro (fun h1 => ?_) (fun h1 => absurd (by decide) h1)
        exact cl_use hG f9 ⟨rfl, rfl, rfl, rfl, trivial⟩
      | true =>
        rw [hb2, if_pos rfl] at hQ
        have hX3 := hX2.to hws2.2.2.1
        generalize wdK (hp.1 62) n 70 E = h3 at hX3 hQ
        generalize upd o2 12 (nI h3) = o3 at hX3
        have hts3 := hX3.1.ts hp g
        have hnu3 := hX3.1.nu hp g 3
        have hle3 := pn_le (hp.1 62) hX3.1.2.1
        refine run hG [45] 60 ?_
        refine And.intro (fun h1 => absurd h1 (by decide)) (fun h1 => ?_)
        refine And.intro ⟨hts3.1, hts3.2.2.2.1, rfl, vp_in_nI (by omega) (by omega)⟩ ?_
        refine cl_lv hG [(3, vI (nI 0)), (2, vI (nI V)), (0, vR 5 52), (1, vI x)] ⟨rfl, rfl, rfl, rfl, trivial⟩ ?_
        show G 45 _ [vI (bB (nuB (ob hp g o3) 3))] (nuH (ob hp g o3) 3)
        rw [hnu3.1, hnu3.2]
        cases hb3 : pnB (hp.1 62) n 3 h3 with
        | false =>
          rw [if_neg (by decide)]
          rw [hb3, if_neg (by decide)] at hQ
          refine run hG [] 60 ?_
          refine And.intro (fun h1 => absurd (by decide) h1) (fun h1 => ?_)
          exact And.intro (Or.inl rfl) (told_no hQ rfl (hX3.flt _ _) (by rw [upd_at, if_pos rfl]))
        | true =>
          rw [if_pos rfl]
          rw [hb3, if_pos rfl] at hQ
          generalize pnV (hp.1 62) n h3 = V3 at hQ
          generalize pnE (hp.1 62) n h3 = E3 at hQ hle3
          have hX4 := hX3.num hle3.2 (nI V3)
          have e144 := v14 hp g (upd o3 12 (nI E3)) (nI V3)
          have f9 := fin _ _ _ hX4 hQ
          rw [← e144] at f9
          refine run hG [55] 60 ?_
          refine And.intro (fun h1 => ?_) (fun h1 => absurd h1 (by decide))
          exact cl_use hG f9 ⟨rfl, rfl, rfl, rfl, trivial⟩
theorem sc_X5_walkerTold {own : String} {F L idx : Nat} (h1 : Cond.methodLink own idx yX5_walkerTold ∈ Gw) (hF : 9 ≤ F) (hL : 195 ≤ L) : SC own F L (idx, false, 2, sp_X5_walkerTold) := SC_V spF_mono c_X5_walkerTold okd_5 (fun as hp K h => by obtain ⟨x, hx, -⟩ := spF_e h; exact ⟨_, _, d_M_I_e hx⟩) h1 gw_1201 gw_58 gw_75 gw_1202 (by decide +kernel) hF hL
def rds (t : Nat → Int32) (n : Nat) : Nat → Nat → Nat → (Nat → Int32) → Sum Nat (Nat × (Nat → Int32))
  | 0, _, h, _ => .inl h
  | m + 1, c, h, f => if c = 12 then .inl h else if pnB t n 24 h = true then (if dgB (byt t n (bk t n (pnE t n h))) = true then rds t n m (c + 1) (bk t n (pnE t n h)) (upd (upd f (7 + c) (nI (pnV t n h))) 5 (nI (c + 1))) else .inr (bk t n (pnE t n h), upd (upd f (7 + c) (nI (pnV t n h))) 5 (nI (c + 1)))) else .inl (bk t n h)
def pRounds (t : Nat → Int32) (n h : Nat) (f : Nat → Int32) : Sum Nat (Nat × (Nat → Int32)) := rds t n 13 0 h (rstF f)
def sp_X5_roundsTold : SP := spF d_M (fun _ hp => OS (tN hp) (tH hp) (hp.1 52)) (fun _ hp v hq => told hp (pRounds (hp.1 62) (tN hp) (tH hp) (hp.1 53)) v hq)
def E_X5_roundsTold : EN := [(270, false, 1, sp_X5_rest), (226, false, 1, sp_X5_fails), (260, false, 3, sp_X5_number), (273, false, 1, sp_X5_isNumber)]
set_option maxRecDepth 100000 in
set_option maxHeartbeats 4000000 in
theorem c_X5_roundsTold : Ctr M_X5_roundsTold sp_X5_roundsTold := by
  refine ctr_of (own := RX5) M_X5_roundsTold sp_X5_roundsTold (P := P_X5_roundsTold) (K := K_X5) (E := E_X5_roundsTold) (by decide) rfl pk_X5_roundsTold K_X5_ok (List.forall_mem_cons.mpr ⟨sc_X5_rest gw_1246 (by decide) (by decide), List.forall_mem_cons.mpr ⟨sc_X5_fails gw_1191 (by decide) (by decide), List.forall_mem_cons.mpr ⟨sc_X5_number gw_1208 (by decide) (by decide), List.forall_mem_cons.mpr ⟨sc_X5_isNumber gw_1247 (by decide) (by decide), fun _ h => absurd h List.not_mem_nil⟩⟩⟩⟩) (fun as hp Q h => by obtain ⟨x, hx, -⟩ := spF_e h; rw [d_M_e hx]; exact Nat.le_of_ble_eq_true rfl) ?_
  intro Q G hQi hG as hp h
  obtain ⟨x, hx, hpre, hQ⟩ := spF_e h
  rw [d_M_e hx]
  clear h hx
  have hX := OX.self hpre
  have hid := ob_id hp
  generalize hp.1 52 = o at hX hid
  generalize hp.1 53 = g at hQ hid
  generalize tN hp = n at hX hQ
  generalize tH hp = h at hX hQ
  unfold pRounds at hQ
  have lp : ∀ m c h g o, c + m = 13 → c ≤ 12 → OX hp n h o → g 5 = nI c → (∀ v hq, told hp (rds (hp.1 62) n m c h g) v hq → Q v hq) → G 5 [(0, vR 5 52)] [] (ob hp g o) := by
    intro m
    induction m with
    | zero =>
      intro c h g o hc hc2 hX h5 hQ
      have e5 : (ob hp g o).1 53 (nI 5).toNatClampNeg = nI c := by rw [ob_53]; exact h5
      have hQ : ∀ v hq, told hp (.inl h) v hq → Q v hq := hQ
      exfalso
      omega
    | succ m ih =>
      intro c h g o hc hc2 hX h5 hQ
      have e5 : (ob hp g o).1 53 (nI 5).toNatClampNeg = nI c := by rw [ob_53]; exact h5
      unfold rds at hQ
      have hts := hX.1.ts hp g
      have hnu := hX.1.nu hp g 24
      have hle := pn_le (hp.1 62) hX.1.2.1
      refine run hG [5, 28] 60 ?_
      refine And.intro (vp_in_nI (by omega) (by omega)) ?_
      refine And.intro (fun h1 => ?_) (fun h1 => ?_)
      case refine_2 =>
        have h1 : (ob hp g o).1 53 (nI 5).toNatClampNeg = nI 12 := h1
        rw [e5, nI_eq (by omega) (by omega)] at h1
        rw [if_pos h1] at hQ
        refine And.intro trivial ?_
        refine And.intro (Or.inl rfl) (told_no (g := g) (o := upd o 13 (nI h)) hQ ?_ (sm_u hX.2 (by omega) _) (by rw [upd_at, if_pos rfl]))
        show uI (ob hp g o) 52 13 (if 0 ≤ (ob hp g o).1 52 13 then (ob hp g o).1 52 13 else (ob hp g o).1 52 12) = _
        rw [hts.2.2.2.1, if_neg not_nn, ob_52, hX.1.2.2.2.1, ob_u52]
      have h1 : ¬ (ob hp g o).1 53 (nI 5).toNatClampNeg = nI 12 := h1
      rw [e5, nI_ne (by omega) (by omega)] at h1
      rw [if_neg h1] at hQ
      refine And.intro ⟨hts.1, hts.2.2.2.1, rfl, vp_in_nI (by omega) (by omega)⟩ ?_
      refine cl_lv hG [(0, vR 5 52)] ⟨rfl, trivial⟩ ?_
      show G 28 _ [vI (bB (nuB (ob hp g o) 24))] (nuH (ob hp g o) 24)
      rw [hnu.1, hnu.2]
      cases hb : pnB (hp.1 62) n 24 h with
      | false =>
        rw [if_neg (by decide)]
        rw [hb, if_neg (by decide)] at hQ
        refine run hG [5] 60 ?_
        refine And.intro (fun h1 => absurd (by decide) h1) (fun h1 => ?_)
        exact And.intro (Or.inl rfl) (told_no hQ rfl (hX.flt _ _) (by rw [upd_at, if_pos rfl]))
      | true =>
        rw [if_pos rfl]
        rw [hb, if_pos rfl] at hQ
        generalize pnV (hp.1 62) n h = V at hQ
        generalize pnE (hp.1 62) n h = E at hQ hle
        have hX1 := hX.num hle.2 (nI V)
        have e14 := v14 hp g (upd o 12 (nI E)) (nI V)
        generalize upd (upd o 12 (nI E)) 14 (nI V) = o1 at hX1 e14
        have e51 : (ob hp g o1).1 53 (nI 5).toNatClampNeg = nI c := by rw [ob_53]; exact h5
        have ei : nI 7 + (ob hp g o1).1 53 (nI 5).toNatClampNeg = nI (7 + c) := by rw [e51, nI_add]
        have eU : uI (uI (ob hp g o1) 53 (nI 7 + (ob hp g o1).1 53 (nI 5).toNatClampNeg).toNatClampNeg ((ob hp g o1).1 52 14)) 53 (nI 5).toNatClampNeg ((uI (ob hp g o1) 53 (nI 7 + (ob hp g o1).1 53 (nI 5).toNatClampNeg).toNatClampNeg ((ob hp g o1).1 52 14)).1 53 (nI 5).toNatClampNeg + nI 1) = ob hp (upd (upd g (7 + c) (nI V)) 5 (nI (c + 1))) o1 := by
          rw [ei, nI_clamp (by omega), e14, ob_u53, ob_53, show (nI 5).toNatClampNeg = 5 from rfl, pk_un (by omega), h5, nI_s, ob_u53]
        generalize hg1 : upd (upd g (7 + c) (nI V)) 5 (nI (c + 1)) = g1 at eU hQ
        have h51 : g1 5 = nI (c + 1) := by rw [← hg1, upd_at, if_pos rfl]
        have hts1 := hX1.1.ts hp g1
        have htb1 := hX1.1.tb hp g1
        have hbl := bk_le (hp.1 62) hX1.1.2.1
        have hX2 := hX1.to hbl.2
        refine run hG [5, 61] 60 ?_
        refine And.intro (fun h1 => ?_) (fun h1 => absurd h1 (by decide))
        refine And.intro (vp_in_nI (by omega) (by omega)) ?_
        refine And.intro (show vp_in (nI 7 + (ob hp g o1).1 53 (nI 5).toNatClampNeg) 184 by rw [ei]; exact vp_in_nI (by omega) (by omega)) ?_
        refine And.intro (vp_in_nI (by omega) (by omega)) ?_
        refine And.intro (vp_in_nI (by omega) (by omega)) ?_
        refine cl_lv hG [(0, vR 5 52)] ⟨rfl, trivial⟩ ?_
        show G 61 _ [] (uI (uI (ob hp g o1) 53 (nI 7 + (ob hp g o1).1 53 (nI 5).toNatClampNeg).toNatClampNeg ((ob hp g o1).1 52 14)) 53 (nI 5).toNatClampNeg ((uI (ob hp g o1) 53 (nI 7 + (ob hp g o1).1 53 (nI 5).toNatClampNeg).toNatClampNeg ((ob hp g o1).1 52 14)).1 53 (nI 5).toNatClampNeg + nI 1))
        rw [eU]
        refine run hG [5, 65] 60 ?_
        refine And.intro ⟨hts1.1, hts1.2.2.2.1⟩ ?_
        refine cl_lv hG [(0, vR 5 52)] ⟨rfl, trivial⟩ ?_
        show G 65 _ [vI (bB (dgB (byt ((ob hp g1 o1).1 62) (tN (ob hp g1 o1)) (tB (ob hp g1 o1)))))] (uI (ob hp g1 o1) 52 12 (nI (tB (ob hp g1 o1))))
        rw [htb1, hts1.2.1, hts1.2.2.2.2, ob_u52]
        cases hd : dgB (byt (hp.1 62) n (bk (hp.1 62) n E)) with
        | true =>
          rw [hd, if_pos rfl] at hQ
          have k9 := ih (c + 1) _ g1 _ (by omega) (by omega) hX2 h51 hQ
          refine run hG [5] 60 ?_
          refine And.intro (fun h1 => ?_) (fun h1 => absurd h1 (by decide))
          exact cl_use hG k9 ⟨rfl, trivial⟩
        | false =>
          rw [hd, if_neg (by decide)] at hQ
          refine run hG [5] 60 ?_
          refine And.intro (fun h1 => absurd (by decide) h1) (fun h1 => ?_)
          exact And.intro (Or.inr rfl) (told_ok hQ rfl hX2.2 hX2.1.2.2.2.1 hX2.1.2.2.2.2)
  rw [← hid]
  refine run hG [5] 60 ?_
  refine And.intro trivial ?_
  refine cl_lv hG [(0, vR 5 52)] ⟨rfl, trivial⟩ ?_
  show G 5 _ [] (rI (ob hp g o) 53 (rstF ((ob hp g o).1 53)))
  rw [ob_53, ob_r53]
  refine lp 13 0 h (rstF g) o rfl (by omega) hX ?_ hQ
  unfold rstF
  rw [upd_at, if_pos rfl]
theorem sc_X5_roundsTold {own : String} {F L idx : Nat} (h1 : Cond.methodLink own idx yX5_roundsTold ∈ Gw) (hF : 4 ≤ F) (hL : 87 ≤ L) : SC own F L (idx, false, 1, sp_X5_roundsTold) := SC_V spF_mono c_X5_roundsTold okd_5 (fun as hp K h => by obtain ⟨x, hx, -⟩ := spF_e h; exact ⟨_, _, d_M_e hx⟩) h1 gw_1244 gw_64 gw_75 gw_1245 (by decide +kernel) hF hL
