def sp_X5_kindName : SP := spP d_S_I (fun x _ => vp_in x 6) (fun x _ => vX (40 + 2 * x.toNatClampNeg + 10))
def E_X5_kindName : EN := []
set_option maxRecDepth 100000 in
set_option maxHeartbeats 4000000 in
theorem c_X5_kindName : Ctr M_X5_kindName sp_X5_kindName := by
  refine ctr_of (own := RX5) M_X5_kindName sp_X5_kindName (P := P_X5_kindName) (K := K_X5) (E := E_X5_kindName) (by decide) rfl pk_X5_kindName K_X5_ok (fun _ h => absurd h List.not_mem_nil) (fun as hp Q h => by obtain ⟨x, hx, -⟩ := spP_e h; rw [d_S_I_e hx]; exact Nat.le_of_ble_eq_true rfl) ?_
  intro Q G hQi hG as hp h
  obtain ⟨x, hx, hpre, hQ⟩ := spP_e h
  rw [d_S_I_e hx]
  clear h hx
  obtain ⟨k, hk, rfl⟩ := vp_in_of hpre (by omega)
  rw [nI_clamp (by omega)] at hQ
  have et : (nI k).toInt = (k : Int) := nI_toInt (by omega)
  refine run hG [] 60 ?_
  refine And.intro (fun hz => ?_) (And.intro (fun hz => ?_) (And.intro (fun hz => ?_) (And.intro (fun hz => ?_) (And.intro (fun hz => ?_) (fun hz => ?_)))))
  · have e : k = 0 := by rw [et] at hz; omega
    subst e
    exact hQ
  · have e : k = 1 := by rw [et] at hz; omega
    subst e
    exact hQ
  · have e : k = 2 := by rw [et] at hz; omega
    subst e
    exact hQ
  · have e : k = 3 := by rw [et] at hz; omega
    subst e
    exact hQ
  · have e : k = 4 := by rw [et] at hz; omega
    subst e
    exact hQ
  · have e : k = 5 := by rw [et] at hz; omega
    subst e
    exact hQ
theorem sc_X5_kindName {own : String} {F L idx : Nat} (h1 : Cond.methodLink own idx yX5_kindName ∈ Gw) (hF : 1 ≤ F) (hL : 20 ≤ L) : SC own F L (idx, true, 1, sp_X5_kindName) := SC_S spP_mono c_X5_kindName h1 gw_1162 gw_75 gw_1163 (by decide +kernel) hF hL
/-! heaps that differ in the row and in the object only -/
def ob (hp : HP) (g o : Nat → Int32) : HP := rI (rI hp 53 g) 52 o
theorem ob_52 (hp : HP) (g o : Nat → Int32) : (ob hp g o).1 52 = o := rI_eq _ _ _
theorem ob_53 (hp : HP) (g o : Nat → Int32) : (ob hp g o).1 53 = g := by unfold ob; rw [rI_ne _ _ (by omega), rI_eq]
theorem ob_c (hp : HP) (g o : Nat → Int32) {c : Nat} (h : c ≠ 52) (h2 : c ≠ 53) : (ob hp g o).1 c = hp.1 c := by unfold ob; rw [rI_ne _ _ h, rI_ne _ _ h2]
theorem ob_u52 (hp : HP) (g o : Nat → Int32) (k : Nat) (v : Int32) : uI (ob hp g o) 52 k v = ob hp g (upd o k v) := by unfold ob; rw [uI_rI]
theorem ob_u53 (hp : HP) (g o : Nat → Int32) (k : Nat) (v : Int32) : uI (ob hp g o) 53 k v = ob hp (upd g k v) o := by
  rw [uI_r, ob_53]
  unfold ob
  rw [rI_comm _ _ _ (by omega), rI_rI]
theorem ob_r53 (hp : HP) (g o f : Nat → Int32) : rI (ob hp g o) 53 f = ob hp f o := by
  unfold ob
  rw [rI_comm _ _ _ (by omega), rI_rI]
theorem ob_ob (hp : HP) (g o f p : Nat → Int32) : ob (ob hp g o) f p = ob hp f p := by
  unfold ob
  rw [rI_comm (rI hp 53 g) _ _ (by omega), rI_rI, rI_rI]
theorem ob_id (hp : HP) : ob hp (hp.1 53) (hp.1 52) = hp := by unfold ob; rw [rI_self, rI_self]
/-- how far the reading is, as the object tells it -/
def OS (n h : Nat) (o : Nat → Int32) : Prop := n ≤ 120 ∧ h ≤ n ∧ o 11 = nI n ∧ o 12 = nI h ∧ o 13 = -1
theorem OS.ts {n h : Nat} {o : Nat → Int32} (hO : OS n h o) (hp : HP) (g : Nat → Int32) : TS (ob hp g o) ∧ tN (ob hp g o) = n ∧ tH (ob hp g o) = h ∧ (ob hp g o).1 52 13 = -1 ∧ (ob hp g o).1 62 = hp.1 62 := by
  obtain ⟨h1, h2, e1, e2, e3⟩ := hO
  refine ⟨⟨n, h, h1, h2, by rw [ob_52]; exact e1, by rw [ob_52]; exact e2⟩, ?_, ?_, by rw [ob_52]; exact e3, ob_c _ _ _ (by omega) (by omega)⟩
  · unfold tN
    rw [ob_52, e1, nI_clamp (by omega)]
  · unfold tH
    rw [ob_52, e2, nI_clamp (by omega)]
theorem OS.to {n h k : Nat} {o : Nat → Int32} (hO : OS n h o) (hk : k ≤ n) : OS n k (upd o 12 (nI k)) := by
  obtain ⟨h1, h2, e1, e2, e3⟩ := hO
  exact ⟨h1, hk, by rw [pk_un (by omega)]; exact e1, by rw [upd_at, if_pos rfl], by rw [pk_un (by omega)]; exact e3⟩
theorem OS.val {n h : Nat} {o : Nat → Int32} (hO : OS n h o) (v : Int32) : OS n h (upd o 14 v) := by
  obtain ⟨h1, h2, e1, e2, e3⟩ := hO
  exact ⟨h1, h2, by rw [pk_un (by omega)]; exact e1, by rw [pk_un (by omega)]; exact e2, by rw [pk_un (by omega)]; exact e3⟩
def bk (t : Nat → Int32) (n h : Nat) : Nat := skp blB t n h
def pnE (t : Nat → Int32) (n h : Nat) : Nat := skp dgB t n (bk t n h)
def pnV (t : Nat → Int32) (n h : Nat) : Nat := nv t (bk t n h) (pnE t n h - bk t n h)
def pnB (t : Nat → Int32) (n m h : Nat) : Bool := dgB (byt t n (bk t n h)) && decide (pnV t n h ≤ m)
theorem bk_le (t : Nat → Int32) {n h : Nat} (hh : h ≤ n) : h ≤ bk t n h ∧ bk t n h ≤ n := skp_le blB t hh
theorem pn_le (t : Nat → Int32) {n h : Nat} (hh : h ≤ n) : bk t n h ≤ pnE t n h ∧ pnE t n h ≤ n := skp_le dgB t (bk_le t hh).2
theorem OS.tb {n h : Nat} {o : Nat → Int32} (hO : OS n h o) (hp : HP) (g : Nat → Int32) : tB (ob hp g o) = bk (hp.1 62) n h := by
  have := hO.ts hp g
  unfold tB
  rw [this.2.1, this.2.2.1, this.2.2.2.2]
  rfl
theorem OS.nu {n h : Nat} {o : Nat → Int32} (hO : OS n h o) (hp : HP) (g : Nat → Int32) (m : Nat) : nuB (ob hp g o) m = pnB (hp.1 62) n m h ∧ nuH (ob hp g o) m = if pnB (hp.1 62) n m h = true then ob hp g (upd (upd o 12 (nI (pnE (hp.1 62) n h))) 14 (nI (pnV (hp.1 62) n h))) else ob hp g (upd (upd o 12 (nI (bk (hp.1 62) n h))) 13 (nI (bk (hp.1 62) n h))) := by
  have h0 := hO.ts hp g
  have h1 := hO.tb hp g
  have e1 : nuE (ob hp g o) = pnE (hp.1 62) n h := by unfold nuE; rw [h0.2.1, h0.2.2.2.2, h1]; rfl
  have e2 : nuV (ob hp g o) = pnV (hp.1 62) n h := by unfold nuV; rw [e1, h0.2.2.2.2, h1]; rfl
  have e3 : nuB (ob hp g o) m = pnB (hp.1 62) n m h := by unfold nuB; rw [e2, h0.2.2.2.2, h1, h0.2.1]; rfl
  refine ⟨e3, ?_⟩
  unfold nuH fltH
  rw [e3, e1, e2, h1, ob_u52, ob_u52, ob_u52, ob_u52]
def wd (t : Nat → Int32) (n m h : Nat) : Bool := wrd t n (bk t n h) m
def wdK (t : Nat → Int32) (n m h : Nat) : Nat := bk t n h + (if wd t n m h = true then tx_n m else 0)
theorem OS.wds {n h : Nat} {o : Nat → Int32} (hO : OS n h o) (hp : HP) (g : Nat → Int32) (m : Nat) : wrd ((ob hp g o).1 62) (tN (ob hp g o)) (tB (ob hp g o)) m = wd (hp.1 62) n m h ∧ mayK (ob hp g o) m = wdK (hp.1 62) n m h ∧ wdK (hp.1 62) n m h ≤ n ∧ bk (hp.1 62) n h ≤ wdK (hp.1 62) n m h := by
  have h0 := hO.ts hp g
  have h1 := hO.tb hp g
  have e1 : wrd ((ob hp g o).1 62) (tN (ob hp g o)) (tB (ob hp g o)) m = wd (hp.1 62) n m h := by rw [h0.2.1, h0.2.2.2.2, h1]; rfl
  have e2 : mayK (ob hp g o) m = wdK (hp.1 62) n m h := by unfold mayK; rw [e1, h1]; rfl
  have := mayK_le h0.1 m
  rw [e2, h1, h0.2.1] at this
  exact ⟨e1, e2, this.2, this.1⟩
/-! what an item tells: where it goes wrong, or where it ends and the row -/
def sm52 (o p : Nat → Int32) : Prop := ∀ k, k ≠ 12 → k ≠ 13 → k ≠ 14 → p k = o k
def told (hp : HP) (r : Sum Nat (Nat × (Nat → Int32))) (v : Option AV) (hq : HP) : Prop := match r with
  | .inl s => v = some (vI (nI 0)) ∧ ∃ g o, hq = ob hp g o ∧ sm52 (hp.1 52) o ∧ o 13 = nI s
  | .inr p => v = some (vI (nI 1)) ∧ ∃ o, hq = ob hp p.2 o ∧ sm52 (hp.1 52) o ∧ o 12 = nI p.1 ∧ o 13 = -1
theorem sm_u {o p : Nat → Int32} (h : sm52 o p) {k : Nat} (hk : k = 12 ∨ k = 13 ∨ k = 14) (v : Int32) : sm52 o (upd p k v) := fun j h1 h2 h3 => by
  rw [pk_un (by omega)]
  exact h j h1 h2 h3
theorem sm_r (o : Nat → Int32) : sm52 o o := fun _ _ _ _ => rfl
theorem sm_t {o p q : Nat → Int32} (h : sm52 o p) (h2 : sm52 p q) : sm52 o q := fun j a b c => (h2 j a b c).trans (h j a b c)
def pMark (t : Nat → Int32) (n a : Nat) (v : Int32) (h : Nat) (f : Nat → Int32) : Sum Nat (Nat × (Nat → Int32)) := if pnB t n 24 h = true then .inr (pnE t n h, upd f (a + pnV t n h) v) else .inl (bk t n h)
theorem pnB_v {t : Nat → Int32} {n m h : Nat} (hb : pnB t n m h = true) : pnV t n h ≤ m := of_decide_eq_true (Bool.and_eq_true_iff.mp hb).2
theorem told_ok {hp hq : HP} {Q : QP} {k : Nat} {f o : Nat → Int32} (hQ : ∀ v hq, told hp (.inr (k, f)) v hq → Q v hq) (e : hq = ob hp f o) (h1 : sm52 (hp.1 52) o) (h2 : o 12 = nI k) (h3 : o 13 = -1) : Q (some (vI (nI 1))) hq := hQ _ _ ⟨rfl, o, e, h1, h2, h3⟩
theorem told_no {hp hq : HP} {Q : QP} {s : Nat} {g o : Nat → Int32} (hQ : ∀ v hq, told hp (.inl s) v hq → Q v hq) (e : hq = ob hp g o) (h1 : sm52 (hp.1 52) o) (h3 : o 13 = nI s) : Q (some (vI (nI 0))) hq := hQ _ _ ⟨rfl, g, o, e, h1, h3⟩
/-- how far, and from where -/
def OX (hp : HP) (n h : Nat) (o : Nat → Int32) : Prop := OS n h o ∧ sm52 (hp.1 52) o
theorem OX.num {hp : HP} {n h : Nat} {o : Nat → Int32} (h0 : OX hp n h o) {e : Nat} (he : e ≤ n) (v : Int32) : OX hp n e (upd (upd o 12 (nI e)) 14 v) := ⟨(h0.1.to he).val v, sm_u (sm_u h0.2 (by omega) _) (by omega) _⟩
theorem OX.to {hp : HP} {n h : Nat} {o : Nat → Int32} (h0 : OX hp n h o) {e : Nat} (he : e ≤ n) : OX hp n e (upd o 12 (nI e)) := ⟨h0.1.to he, sm_u h0.2 (by omega) _⟩
theorem OX.flt {hp : HP} {n h : Nat} {o : Nat → Int32} (h0 : OX hp n h o) (a b : Int32) : sm52 (hp.1 52) (upd (upd o 12 a) 13 b) := sm_u (sm_u h0.2 (by omega) _) (by omega) _
theorem v14 (hp : HP) (g o : Nat → Int32) (v : Int32) : (ob hp g (upd o 14 v)).1 52 14 = v := by rw [ob_52, upd_at, if_pos rfl]
theorem OX.self {hp : HP} (h : OS (tN hp) (tH hp) (hp.1 52)) : OX hp (tN hp) (tH hp) (hp.1 52) := ⟨h, sm_r _⟩
def sp_X5_markTold : SP := spF d_M_II (fun x hp => OS (tN hp) (tH hp) (hp.1 52) ∧ vp_in x.1 100) (fun x hp v hq => told hp (pMark (hp.1 62) (tN hp) x.1.toNatClampNeg x.2 (tH hp) (hp.1 53)) v hq)
def E_X5_markTold : EN := [(260, false, 3, sp_X5_number)]
set_option maxRecDepth 100000 in
set_option maxHeartbeats 4000000 in
theorem c_X5_markTold : Ctr M_X5_markTold sp_X5_markTold := by
  refine ctr_of (own := RX5) M_X5_markTold sp_X5_markTold (P := P_X5_markTold) (K := K_X5) (E := E_X5_markTold) (by decide) rfl pk_X5_markTold K_X5_ok (List.forall_mem_cons.mpr ⟨sc_X5_number gw_1208 (by decide) (by decide), fun _ h => absurd h List.not_mem_nil⟩) (fun as hp Q h => by obtain ⟨x, hx, -⟩ := spF_e h; rw [d_M_II_e hx]; exact Nat.le_of_ble_eq_true rfl) ?_
  intro Q G hQi hG as hp h
  obtain ⟨x, hx, hpre, hQ⟩ := spF_e h
  rw [d_M_II_e hx]
  clear h hx
  obtain ⟨a, v⟩ := x
  try dsimp only at hpre hQ ⊢
  obtain ⟨hO, ha⟩ := hpre
  obtain ⟨A, hA, rfl⟩ := vp_in_of ha (by omega)
  rw [nI_clamp (by omega)] at hQ
  have hX := OX.self hO
  have hid := ob_id hp
  generalize hp.1 52 = o at hX hid
  generalize hp.1 53 = g at hQ hid
  generalize tN hp = n at hX hQ
  generalize tH hp = h at hX hQ
  have hts := hX.1.ts hp g
  have hnu := hX.1.nu hp g 24
  have hle := pn_le (hp.1 62) hX.1.2.1
  rw [← hid]
  refine run hG [7] 60 ?_
  refine And.intro ⟨hts.1, hts.2.2.2.1, rfl, vp_in_nI (by omega) (by omega)⟩ ?_
  refine cl_lv hG [(0, vR 5 52), (1, vI (nI A)), (2, vI v)] ⟨rfl, rfl, rfl, trivial⟩ ?_
  show G 7 _ [vI (bB (nuB (ob hp g o) 24))] (nuH (ob hp g o) 24)
  rw [hnu.1, hnu.2]
  unfold pMark at hQ
  cases hb : pnB (hp.1 62) n 24 h with
  | false =>
    rw [if_neg (by decide)]
    rw [hb, if_neg (by decide)] at hQ
    refine run hG [] 60 ?_
    refine And.intro (fun h1 => absurd (by decide) h1) (fun h1 => ?_)
    exact And.intro (Or.inl rfl) (told_no hQ rfl (hX.flt _ _) (by rw [upd_at, if_pos rfl]))
  | true =>
    have hv := pnB_v hb
    rw [if_pos rfl]
    rw [hb, if_pos rfl] at hQ
    generalize pnV (hp.1 62) n h = V at hQ hv
    generalize pnE (hp.1 62) n h = E at hQ hle
    have hX1 := hX.num hle.2 (nI V)
    have e14 := v14 hp g (upd o 12 (nI E)) (nI V)
    generalize upd (upd o 12 (nI E)) 14 (nI V) = o1 at hX1 e14
    have ei : nI A + (ob hp g o1).1 52 14 = nI (A + V) := by rw [e14, nI_add]
    refine run hG [] 60 ?_
    refine And.intro (fun h1 => ?_) (fun h1 => absurd h1 (by decide))
    refine And.intro (show vp_in (nI A + (ob hp g o1).1 52 14) 184 by rw [ei]; exact vp_in_nI (by omega) (by omega)) ?_
    refine And.intro (Or.inr rfl) (told_ok (o := o1) hQ ?_ hX1.2 hX1.1.2.2.2.1 hX1.1.2.2.2.2)
    show uI (ob hp g o1) 53 (nI A + (ob hp g o1).1 52 14).toNatClampNeg v = _
    rw [ei, nI_clamp (by omega), ob_u53]
theorem sc_X5_markTold {own : String} {F L idx : Nat} (h1 : Cond.methodLink own idx yX5_markTold ∈ Gw) (hF : 4 ≤ F) (hL : 89 ≤ L) : SC own F L (idx, false, 3, sp_X5_markTold) := SC_V spF_mono c_X5_markTold okd_5 (fun as hp K h => by obtain ⟨x, hx, -⟩ := spF_e h; exact ⟨_, _, d_M_II_e hx⟩) h1 gw_1236 gw_63 gw_75 gw_1237 (by decide +kernel) hF hL
def pHeight (t : Nat → Int32) (n h : Nat) (f : Nat → Int32) : Sum Nat (Nat × (Nat → Int32)) := if pnB t n 24 h = true then (if pnB t n 9 (pnE t n h) = true then .inr (pnE t n (pnE t n h), upd f (19 + pnV t n h) (nI (pnV t n (pnE t n h)))) else .inl (bk t n (pnE t n h))) else .inl (bk t n h)
def sp_X5_heightTold : SP := spF d_M (fun _ hp => OS (tN hp) (tH hp) (hp.1 52)) (fun _ hp v hq => told hp (pHeight (hp.1 62) (tN hp) (tH hp) (hp.1 53)) v hq)
def E_X5_heightTold : EN := [(260, false, 3, sp_X5_number)]
set_option maxRecDepth 100000 in
set_option maxHeartbeats 4000000 in
theorem c_X5_heightTold : Ctr M_X5_heightTold sp_X5_heightTold := by
  refine ctr_of (own := RX5) M_X5_heightTold sp_X5_heightTold (P := P_X5_heightTold) (K := K_X5) (E := E_X5_heightTold) (by decide) rfl pk_X5_heightTold K_X5_ok (List.forall_mem_cons.mpr ⟨sc_X5_number gw_1208 (by decide) (by decide), fun _ h => absurd h List.not_mem_nil⟩) (fun as hp Q h => by obtain ⟨x, hx, -⟩ := spF_e h; rw [d_M_e hx]; exact Nat.le_of_ble_eq_true rfl) ?_
  intro Q G hQi hG as hp h
  obtain ⟨x, hx, hpre, hQ⟩ := spF_e h
  rw [d_M_e hx]
  clear h hx
  have hX := OX.self hpre
  have hid := ob_id hp
  generalize hp.1 52 = o at hX hid
  generalize hp.1 53 = g at hQ hid
  generalize tN hp = n at hX hQ
  generalize tH hp = h at hX hQ
  have hts := hX.1.ts hp g
  have hnu := hX.1.nu hp g 24
  have hle := pn_le (hp.1 62) hX.1.2.1
  rw [← hid]
  refine run hG [7] 60 ?_
  refine And.intro ⟨hts.1, hts.2.2.2.1, rfl, vp_in_nI (by omega) (by omega)⟩ ?_
  refine cl_lv hG [(0, vR 5 52)] ⟨rfl, trivial⟩ ?_
  show G 7 _ [vI (bB (nuB (ob hp g o) 24))] (nuH (ob hp g o) 24)
  rw [hnu.1, hnu.2]
  unfold pHeight at hQ
  cases hb : pnB (hp.1 62) n 24 h with
  | false =>
    rw [if_neg (by decide)]
    rw [hb, if_neg (by decide)] at hQ
    refine run hG [] 60 ?_
    refine And.intro (fun h1 => absurd (by decide) h1) (fun h1 => ?_)
    exact And.intro (Or.inl rfl) (told_no hQ rfl (hX.flt _ _) (by rw [upd_at, if_pos rfl]))
  | true =>
    have hv := pnB_v hb
    rw [if_pos rfl]
    rw [hb, if_pos rfl] at hQ
    generalize pnV (hp.1 62) n h = V at hQ hv
    generalize pnE (hp.1 62) n h = E at hQ hle
    have hX1 := hX.num hle.2 (nI V)
    have e14 := v14 hp g (upd o 12 (nI E)) (nI V)
    generalize upd (upd o 12 (nI E)) 14 (nI V) = o1 at hX1 e14
    have hts1 := hX1.1.ts hp g
    have hnu1 := hX1.1.nu hp g 9
    have hle1 := pn_le (hp.1 62) hX1.1.2.1
    refine run hG [24] 60 ?_
    refine And.intro (fun h1 => ?_) (fun h1 => absurd h1 (by decide))
    refine And.intro ⟨hts1.1, hts1.2.2.2.1, rfl, vp_in_nI (by omega) (by omega)⟩ ?_
    refine cl_lv hG [(1, vI ((ob hp g o1).1 52 14)), (0, vR 5 52)] ⟨rfl, rfl, trivial⟩ ?_
    show G 24 _ [vI (bB (nuB (ob hp g o1) 9))] (nuH (ob hp g o1) 9)
    rw [hnu1.1, hnu1.2, e14]
    cases hb1 : pnB (hp.1 62) n 9 E with
    | false =>
      rw [if_neg (by decide)]
      rw [hb1, if_neg (by decide)] at hQ
      refine run hG [] 60 ?_
      refine And.intro (fun h1 => absurd (by decide) h1) (fun h1 => ?_)
      exact And.intro (Or.inl rfl) (told_no hQ rfl (hX1.flt _ _) (by rw [upd_at, if_pos rfl]))
    | true =>
      rw [if_pos rfl]
      rw [hb1, if_pos rfl] at hQ
      generalize pnV (hp.1 62) n E = V1 at hQ
      generalize pnE (hp.1 62) n E = E1 at hQ hle1
      have hX2 := hX1.num hle1.2 (nI V1)
      have e142 := v14 hp g (upd o1 12 (nI E1)) (nI V1)
      generalize upd (upd o1 12 (nI E1)) 14 (nI V1) = o2 at hX2 e142
      have ei : nI 19 + nI V = nI (19 + V) := nI_add _ _
      refine run hG [] 60 ?_
      refine And.intro (fun h1 => ?_) (fun h1 => absurd h1 (by decide))
      refine And.intro (show vp_in (nI 19 + nI V) 184 by rw [ei]; exact vp_in_nI (by omega) (by omega)) ?_
      refine And.intro (Or.inr rfl) (told_ok (o := o2) hQ ?_ hX2.2 hX2.1.2.2.2.1 hX2.1.2.2.2.2)
      show uI (ob hp g o2) 53 (nI 19 + nI V).toNatClampNeg ((ob hp g o2).1 52 14) = _
      rw [ei, nI_clamp (by omega), ob_u53, e142]
theorem sc_X5_heightTold {own : String} {F L idx : Nat} (h1 : Cond.methodLink own idx yX5_heightTold ∈ Gw) (hF : 4 ≤ F) (hL : 88 ≤ L) : SC own F L (idx, false, 1, sp_X5_heightTold) := SC_V spF_mono c_X5_heightTold okd_5 (fun as hp K h => by obtain ⟨x, hx, -⟩ := spF_e h; exact ⟨_, _, d_M_e hx⟩) h1 gw_1231 gw_62 gw_75 gw_1232 (by decide +kernel) hF hL
def pDoor (t : Nat → Int32) (n : Nat) (v : Int32) (h : Nat) (f : Nat → Int32) : Sum Nat (Nat × (Nat → Int32)) := if pnB t n 24 h = true then (if pnB t n 24 (pnE t n h) = true then (if wyt (pnV t n h) (pnV t n (pnE t n h)) = 4 then .inl (bk t n (pnE t n h)) else .inr (pnE t n (pnE t n h), upd f (dr (pnV t n h) (wyt (pnV t n h) (pnV t n (pnE t n h)))) v)) else .inl (bk t n (pnE t n h))) else .inl (bk t n h)
theorem bk_bk (t : Nat → Int32) {n h : Nat} (hh : h ≤ n) : bk t n (bk t n h) = bk t n h := by
  have key := for_up (P := fun k => bk t n (bk t n k) = bk t n k) n (by
    have : bk t n n = n := skp_n (by rw [byt_n]; decide)
    rw [this, this]) (by
    intro k hk ih
    cases hb : blB (byt t n k) with
    | true =>
      have : bk t n k = bk t n (k + 1) := skp_s hk hb
      rw [this]
      exact ih
    | false =>
      have : bk t n k = k := skp_n hb
      rw [this, this]) h hh
  exact key
theorem pn_bk (t : Nat → Int32) {n h : Nat} (hh : h ≤ n) (m : Nat) : pnB t n m (bk t n h) = pnB t n m h ∧ pnE t n (bk t n h) = pnE t n h ∧ pnV t n (bk t n h) = pnV t n h := by
  have e := bk_bk t hh
  unfold pnB pnV pnE
  rw [e]
  exact ⟨rfl, rfl, rfl⟩
def sp_X5_doorTold : SP := spF d_M_I (fun _ hp => OS (tN hp) (tH hp) (hp.1 52)) (fun x hp v hq => told hp (pDoor (hp.1 62) (tN hp) x (tH hp) (hp.1 53)) v hq)
def E_X5_doorTold : EN := [(260, false, 3, sp_X5_number), (205, false, 1, sp_X5_blanks), (73, true, 2, sp_X5_wayTo), (226, false, 1, sp_X5_fails), (66, true, 2, sp_X5_doorAt)]
set_option maxRecDepth 100000 in
set_option maxHeartbeats 4000000 in
theorem c_X5_doorTold : Ctr M_X5_doorTold sp_X5_doorTold := by
  refine ctr_of (own := RX5) M_X5_doorTold sp_X5_doorTold (P := P_X5_doorTold) (K := K_X5) (E := E_X5_doorTold) (by decide) rfl pk_X5_doorTold K_X5_ok (List.forall_mem_cons.mpr ⟨sc_X5_number gw_1208 (by decide) (by decide), List.forall_mem_cons.mpr ⟨sc_X5_blanks gw_1174 (by decide) (by decide), List.forall_mem_cons.mpr ⟨sc_X5_wayTo gw_886 (by decide) (by decide), List.forall_mem_cons.mpr ⟨sc_X5_fails gw_1191 (by decide) (by decide), List.forall_mem_cons.mpr ⟨sc_X5_doorAt gw_892 (by decide) (by decide), fun _ h => absurd h List.not_mem_nil⟩⟩⟩⟩⟩) (fun as hp Q h => by obtain ⟨x, hx, -⟩ := spF_e h; rw [d_M_I_e hx]; exact Nat.le_of_ble_eq_true rfl) ?_
  intro Q G hQi hG as hp h
  obtain ⟨x, hx, hpre, hQ⟩ := spF_e h
  rw [d_M_I_e hx]
  clear h hx
  have hX := OX.self hpre
  have hid := ob_id hp
  generalize hp.1 52 = o at hX hid
  generalize hp.1 53 = g at hQ hid
  generalize tN hp = n at hX hQ
  generalize tH hp = h at hX hQ
  have hts := hX.1.ts hp g
  have hnu := hX.1.nu hp g 24
  have hle := pn_le (hp.1 62) hX.1.2.1
  rw [← hid]
  refine run hG [7] 60 ?_
  refine And.intro ⟨hts.1, hts.2.2.2.1, rfl, vp_in_nI (by omega) (by omega)⟩ ?_
  refine cl_lv hG [(0, vR 5 52), (1, vI x)] ⟨rfl, rfl, trivial⟩ ?_
  show G 7 _ [vI (bB (nuB (ob hp g o) 24))] (nuH (ob hp g o) 24)
  rw [hnu.1, hnu.2]
  unfold pDoor at hQ
  cases hb : pnB (hp.1 62) n 24 h with
  | false =>
    rw [if_neg (by decide)]
    rw [hb, if_neg (by decide)] at hQ
    refine run hG [] 60 ?_
    refine And.intro (fun h1 => absurd (by decide) h1) (fun h1 => ?_)
    exact And.intro (Or.inl rfl) (told_no hQ rfl (hX.flt _ _) (by rw [upd_at, if_pos rfl]))
  | true =>
    have hv := pnB_v hb
    rw [if_pos rfl]
    rw [hb, if_pos rfl] at hQ
    generalize pnV (hp.1 62) n h = V at hQ hv
    generalize pnE (hp.1 62) n h = E at hQ hle
    have hX1 := hX.num hle.2 (nI V)
    have e14 := v14 hp g (upd o 12 (nI E)) (nI V)
    generalize upd (upd o 12 (nI E)) 14 (nI V) = o1 at hX1 e14
    have hts1 := hX1.1.ts hp g
    have htb := hX1.1.tb hp g
    refine run hG [21] 60 ?_
    refine And.intro (fun h1 => ?_) (fun h1 => absurd h1 (by decide))
    refine And.intro hts1.1 ?_
    refine cl_lv hG [(2, vI ((ob hp g o1).1 52 14)), (0, vR 5 52), (1, vI x)] ⟨rfl, rfl, rfl, trivial⟩ ?_
    show G 21 _ [] (uI (ob hp g o1) 52 12 (nI (tB (ob hp g o1))))
    rw [htb, ob_u52, e14]
    have hbl := bk_le (hp.1 62) hX1.1.2.1
    have hX2 := hX1.to hbl.2
    have hpb := pn_bk (hp.1 62) hX1.1.2.1 24
    have hbb := bk_bk (hp.1 62) hX1.1.2.1
    rw [← hpb.1, ← hpb.2.1, ← hpb.2.2] at hQ
    have e12 : (ob hp g (upd o1 12 (nI (bk (hp.1 62) n E)))).1 52 12 = nI (bk (hp.1 62) n E) := by rw [ob_52, upd_at, if_pos rfl]
    generalize upd o1 12 (nI (bk (hp.1 62) n E)) = o2 at hX2 e12
    generalize bk (hp.1 62) n E = B at hX2 hQ hbb e12 hbl
    have hts2 := hX2.1.ts hp g
    have hnu2 := hX2.1.nu hp g 24
    have hle2 := pn_le (hp.1 62) hX2.1.2.1
    refine run hG [33] 60 ?_
    refine And.intro ⟨hts2.1, hts2.2.2.2.1, rfl, vp_in_nI (by omega) (by omega)⟩ ?_
    refine cl_lv hG [(3, vI ((ob hp g o2).1 52 12)), (2, vI (nI V)), (0, vR 5 52), (1, vI x)] ⟨rfl, rfl, rfl, rfl, trivial⟩ ?_
    show G 33 _ [vI (bB (nuB (ob hp g o2) 24))] (nuH (ob hp g o2) 24)
    rw [hnu2.1, hnu2.2, e12]
    cases hb1 : pnB (hp.1 62) n 24 B with
    | false =>
      rw [if_neg (by decide)]
      rw [hb1, if_neg (by decide)] at hQ
      refine run hG [] 60 ?_
      refine And.intro (fun h1 => absurd (by decide) h1) (fun h1 => ?_)
      exact And.intro (Or.inl rfl) (told_no hQ rfl (hX2.flt _ _) (by rw [upd_at, if_pos rfl, hbb]))
    | true =>
      have hv1 := pnB_v hb1
      rw [if_pos rfl]
      rw [hb1, if_pos rfl] at hQ
      generalize pnV (hp.1 62) n B = V1 at hQ hv1
      generalize pnE (hp.1 62) n B = E1 at hQ hle2
      have hX3 := hX2.num hle2.2 (nI V1)
      have e142 := v14 hp g (upd o2 12 (nI E1)) (nI V1)
      generalize upd (upd o2 12 (nI E1)) 14 (nI V1) = o3 at hX3 e142
      have ew : wyV (nI V).toNatClampNeg ((ob hp g o3).1 52 14).toNatClampNeg = wyV V V1 := by rw [e142, nI_clamp (by omega), nI_clamp (by omega)]
      refine run hG [48] 60 ?_
      refine And.intro (fun h1 => ?_) (fun h1 => absurd h1 (by decide))
      refine And.intro ⟨vp_in_nI (by omega) (by omega), show vp_in ((ob hp g o3).1 52 14) 25 by rw [e142]; exact vp_in_nI (by omega) (by omega)⟩ ?_
      refine cl_lv hG [(4, vI (wyV (nI V).toNatClampNeg ((ob hp g o3).1 52 14).toNatClampNeg)), (3, vI (nI B)), (2, vI (nI V)), (0, vR 5 52), (1, vI x)] ⟨rfl, rfl, rfl, rfl, rfl, trivial⟩ ?_
      rw [ew]
      unfold wyV
      have hw4 := wyt_le V V1
      by_cases h4 : wyt V V1 = 4
      · rw [if_pos h4]
        rw [if_pos h4] at hQ
        refine run hG [] 60 ?_
        refine And.intro (fun h5 => absurd h5 not_nn) (fun h5 => ?_)
        refine And.intro trivial ?_
        refine And.intro (Or.inl rfl) (told_no (g := g) (o := upd (upd o3 12 (nI B)) 13 (nI B)) hQ ?_ (hX3.flt _ _) (by rw [upd_at, if_pos rfl]))
        show uI (uI (ob hp g o3) 52 12 (nI B)) 52 13 (if 0 ≤ (uI (ob hp g o3) 52 12 (nI B)).1 52 13 then (uI (ob hp g o3) 52 12 (nI B)).1 52 13 else (uI (ob hp g o3) 52 12 (nI B)).1 52 12) = _
        rw [flt_eq (by rw [ob_52]; exact hX3.1.2.2.2.2)]
        unfold fltH
        rw [ob_u52, ob_u52]
      · rw [if_neg h4]
        rw [if_neg h4] at hQ
        generalize wyt V V1 = w at hQ h4 hw4
        have hdl := dr_lt (q := V) (w := w) (by omega)
        refine run hG [] 60 ?_
        refine And.intro (fun h5 => ?_) (fun h5 => absurd (nI_nn (by omega)) h5)
        refine And.intro ⟨vp_in_nI (by omega) (by omega), vp_in_nI (by omega) (by omega)⟩ ?_
        have ed : nI (dr (nI V).toNatClampNeg (nI w).toNatClampNeg) = nI (dr V w) := by rw [nI_clamp (by omega), nI_clamp (by omega)]
        refine And.intro (show vp_in (nI (dr (nI V).toNatClampNeg (nI w).toNatClampNeg)) 184 by rw [ed]; exact vp_in_nI hdl (by omega)) ?_
        refine And.intro (Or.inr rfl) (told_ok (o := o3) hQ ?_ hX3.2 hX3.1.2.2.2.1 hX3.1.2.2.2.2)
        show uI (ob hp g o3) 53 (nI (dr (nI V).toNatClampNeg (nI w).toNatClampNeg)).toNatClampNeg x = _
        rw [ed, nI_clamp (by omega), ob_u53]
theorem sc_X5_doorTold {own : String} {F L idx : Nat} (h1 : Cond.methodLink own idx yX5_doorTold ∈ Gw) (hF : 4 ≤ F) (hL : 91 ≤ L) : SC own F L (idx, false, 2, sp_X5_doorTold) := SC_V spF_mono c_X5_doorTold okd_5 (fun as hp K h => by obtain ⟨x, hx, -⟩ := spF_e h; exact ⟨_, _, d_M_I_e hx⟩) h1 gw_1225 gw_61 gw_75 gw_1226 (by decide +kernel) hF hL
