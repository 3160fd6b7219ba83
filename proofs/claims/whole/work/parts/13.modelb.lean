def noP (hp : HP) (k : Nat) : Int32 × HP := (-1000000001 - nI k, uI hp 57 (nI k).toNatClampNeg (hp.1 57 (nI k).toNatClampNeg + nI 1))
theorem q_F {Q : QP} {p : Int32 × HP} {y : Int32} {hq : HP} (h : Q (some (vI p.1)) p.2) (e : p = (y, hq)) : Q (some (vI y)) hq := by
  subst e
  exact h
def many (f : Nat → Int32) : Prop := ∃ n, n ≤ 8 ∧ f 6 = nI n
def wkOK (f : Nat → Int32) (w : Nat) : Prop := vp_in (f (144 + 5 * w)) 6 ∧ vp_in (f (144 + 5 * w + 1)) 25 ∧ vp_in (f (144 + 5 * w + 2)) 25 ∧ vp_in (f (144 + 5 * w + 3)) 4 ∧ vp_in (f (144 + 5 * w + 4)) 2
def WF (f : Nat → Int32) : Prop := (∃ n, n ≤ 8 ∧ f 6 = nI n ∧ ∀ w, w < n → wkOK f w) ∧ (∀ k, 44 ≤ k → k < 144 → vp_in (f k) 2) ∧ ∃ r, r ≤ 12 ∧ f 5 = nI r ∧ (∀ k, k < r → vp_in (f (7 + k)) 25) ∧ (r = 0 ∨ f 4 = -1 ∨ vp_in (f 4) r)
theorem WF.many {f : Nat → Int32} (h : WF f) : many f := by
  obtain ⟨⟨n, hn, e, -⟩, -⟩ := h
  exact ⟨n, hn, e⟩
theorem WF.wk {f : Nat → Int32} (h : WF f) {w : Nat} (hw : w < (f 6).toNatClampNeg) : wkOK f w := by
  obtain ⟨⟨n, hn, e, h1⟩, -⟩ := h
  rw [e, nI_clamp (by omega)] at hw
  exact h1 w hw
def doN (a b : Int32) : Nat := if inB a 25 = true ∧ inB b 25 = true ∧ wyt a.toNatClampNeg b.toNatClampNeg < 4 then dr a.toNatClampNeg (wyt a.toNatClampNeg b.toNatClampNeg) else 999
theorem wyt_le (a b : Nat) : wyt a b ≤ 4 := by
  unfold wyt
  split
  · omega
  · split
    · omega
    · split
      · omega
      · split <;> omega
theorem doN_lt (a b : Int32) : doN a b = 999 ∨ doN a b < 184 := by
  unfold doN
  split
  · next h =>
    obtain ⟨a2, ha, e⟩ := vp_in_of (inB_t.mp h.1) (by omega)
    refine Or.inr ?_
    rw [e, nI_clamp (by omega)]
    exact dr_lt ha
  · exact Or.inl rfl
def sp_X5_doorOf : SP := spP d_M_II (fun _ _ => True) (fun x _ => vI (if doN x.1 x.2 = 999 then -1 else nI (doN x.1 x.2)))
def E_X5_doorOf : EN := [(69, true, 1, sp_X5_isSquare), (73, true, 2, sp_X5_wayTo), (66, true, 2, sp_X5_doorAt)]
set_option maxRecDepth 100000 in
set_option maxHeartbeats 4000000 in
theorem c_X5_doorOf : Ctr M_X5_doorOf sp_X5_doorOf := by
  refine ctr_of (own := RX5) M_X5_doorOf sp_X5_doorOf (P := P_X5_doorOf) (K := K_X5) (E := E_X5_doorOf) (by decide) rfl pk_X5_doorOf K_X5_ok (List.forall_mem_cons.mpr ⟨sc_X5_isSquare gw_880 (by decide) (by decide), List.forall_mem_cons.mpr ⟨sc_X5_wayTo gw_886 (by decide) (by decide), List.forall_mem_cons.mpr ⟨sc_X5_doorAt gw_892 (by decide) (by decide), fun _ h => absurd h List.not_mem_nil⟩⟩⟩) (fun as hp Q h => by obtain ⟨x, hx, -⟩ := spP_e h; rw [d_M_II_e hx]; exact Nat.le_of_ble_eq_true rfl) ?_
  intro Q G hQi hG as hp h
  obtain ⟨x, hx, hpre, hQ⟩ := spP_e h
  rw [d_M_II_e hx]
  clear h hx
  obtain ⟨a, b⟩ := x
  try dsimp only at hpre hQ ⊢
  have fin : ∀ y : Int32, y = (if doN a b = 999 then -1 else nI (doN a b)) → Q (some (vI y)) hp := fun y e => e ▸ hQ
  refine run hG [] 60 ?_
  refine And.intro trivial ?_
  refine And.intro (fun h1 => ?_) (fun h1 => ?_)
  · have h1 : inB a 25 = false := bB_0.mp h1
    refine And.intro (fun h => absurd h (by decide)) (fun h => fin _ ?_)
    simp [doN, h1]
  · have h1 : inB a 25 = true := bB_1.mp h1
    refine And.intro trivial ?_
    refine And.intro (fun h2 => ?_) (fun h2 => ?_)
    · have h2 : inB b 25 = false := bB_0.mp h2
      refine And.intro (fun h => absurd h (by decide)) (fun h => fin _ ?_)
      simp [doN, h2]
    · have h2 : inB b 25 = true := bB_1.mp h2
      refine And.intro ⟨inB_t.mp h1, inB_t.mp h2⟩ ?_
      obtain ⟨n, hn, ea⟩ := vp_in_of (inB_t.mp h1) (by omega)
      have el : a.toNatClampNeg = n := by rw [ea, nI_clamp (by omega)]
      have hw := wyt_le a.toNatClampNeg b.toNatClampNeg
      refine And.intro (fun h => ?_) (fun h => ?_)
      · have h : 0 ≤ wyV a.toNatClampNeg b.toNatClampNeg := h
        have h3 : wyt a.toNatClampNeg b.toNatClampNeg ≠ 4 := by
          intro h4
          unfold wyV at h
          rw [if_pos h4] at h
          exact absurd h (by decide)
        have ew : wyV a.toNatClampNeg b.toNatClampNeg = nI (wyt a.toNatClampNeg b.toNatClampNeg) := by unfold wyV; rw [if_neg h3]
        refine And.intro ⟨inB_t.mp h1, ?_⟩ (fin _ ?_)
        · show vp_in (wyV a.toNatClampNeg b.toNatClampNeg) 4
          rw [ew]
          exact vp_in_nI (by omega) (by omega)
        · show nI (dr a.toNatClampNeg (wyV a.toNatClampNeg b.toNatClampNeg).toNatClampNeg) = _
          rw [ew, nI_clamp (by omega)]
          have hd := dr_lt (q := a.toNatClampNeg) (w := wyt a.toNatClampNeg b.toNatClampNeg) (by omega)
          have e9 : doN a b = dr a.toNatClampNeg (wyt a.toNatClampNeg b.toNatClampNeg) := by
            unfold doN
            rw [if_pos ⟨h1, h2, by omega⟩]
          rw [e9, if_neg (by omega)]
      · have h : ¬ 0 ≤ wyV a.toNatClampNeg b.toNatClampNeg := h
        have h3 : wyt a.toNatClampNeg b.toNatClampNeg = 4 := by
          false_or_by_contra
          rename_i h4
          apply h
          unfold wyV
          rw [if_neg h4]
          exact nI_pos' (by omega)
        refine fin _ ?_
        have e9 : doN a b = 999 := by
          unfold doN
          rw [if_neg (by omega)]
        rw [e9, if_pos rfl]
theorem sc_X5_doorOf {own : String} {F L idx : Nat} (h1 : Cond.methodLink own idx yX5_doorOf ∈ Gw) (hF : 3 ≤ F) (hL : 66 ≤ L) : SC own F L (idx, false, 3, sp_X5_doorOf) := SC_V spP_mono c_X5_doorOf okd_5 (fun as hp K h => by obtain ⟨x, hx, -⟩ := spP_e h; exact ⟨_, _, d_M_II_e hx⟩) h1 gw_878 gw_21 gw_75 gw_879 (by decide +kernel) hF hL
def opV (o : Int32) : Int32 := if o = 0 then nI 1 else nI 0
def neV (x y : Int32) : Int32 := if x = y then nI 0 else nI 1
def F_door (a b o : Int32) (hp : HP) : Int32 × HP := if doN a b = 999 then noP hp 0 else (neV (hp.1 53 (doN a b)) (opV o), uI hp 53 (doN a b) (opV o))
def sp_X5_door : SP := spH d_M_III (fun _ _ => True) (fun x hp => some (vI (F_door x.1 x.2.1 x.2.2 hp).1)) (fun x hp => (F_door x.1 x.2.1 x.2.2 hp).2)
theorem dv_neg {a b : Int32} : (0 ≤ (if doN a b = 999 then (-1 : Int32) else nI (doN a b))) ↔ doN a b ≠ 999 := by
  rcases doN_lt a b with h | h
  · rw [if_pos h]
    exact ⟨fun h2 => absurd h2 (by decide), fun h2 => absurd h h2⟩
  · rw [if_neg (by omega)]
    exact ⟨fun _ => by omega, fun _ => nI_pos' (by omega)⟩
def E_X5_door : EN := [(76, false, 3, sp_X5_doorOf), (79, false, 2, sp_X5_no), (83, false, 3, sp_X5_puts)]
set_option maxRecDepth 100000 in
set_option maxHeartbeats 4000000 in
theorem c_X5_door : Ctr M_X5_door sp_X5_door := by
  refine ctr_of (own := RX5) M_X5_door sp_X5_door (P := P_X5_door) (K := K_X5) (E := E_X5_door) (by decide) rfl pk_X5_door K_X5_ok (List.forall_mem_cons.mpr ⟨sc_X5_doorOf gw_876 (by decide) (by decide), List.forall_mem_cons.mpr ⟨sc_X5_no gw_895 (by decide) (by decide), List.forall_mem_cons.mpr ⟨sc_X5_puts gw_900 (by decide) (by decide), fun _ h => absurd h List.not_mem_nil⟩⟩⟩) (fun as hp Q h => by obtain ⟨x, hx, -⟩ := spH_e h; rw [d_M_III_e hx]; exact Nat.le_of_ble_eq_true rfl) ?_
  intro Q G hQi hG as hp h
  obtain ⟨x, hx, hpre, hQ⟩ := spH_e h
  rw [d_M_III_e hx]
  clear h hx
  obtain ⟨a, b, o⟩ := x
  try dsimp only at hpre hQ ⊢
  refine run hG [] 60 ?_
  refine And.intro trivial ?_
  refine And.intro (fun h1 => ?_) (fun h1 => ?_)
  · have h1 : doN a b ≠ 999 := dv_neg.mp h1
    have hlt : doN a b < 184 := by rcases doN_lt a b with h | h <;> omega
    have ev : (if doN a b = 999 then (-1 : Int32) else nI (doN a b)) = nI (doN a b) := if_neg h1
    have hF : F_door a b o hp = (neV (hp.1 53 (doN a b)) (opV o), uI hp 53 (doN a b) (opV o)) := if_neg h1
    rw [hF] at hQ
    have hin : vp_in (if doN a b = 999 then (-1 : Int32) else nI (doN a b)) 184 := by rw [ev]; exact vp_in_nI hlt (by omega)
    refine And.intro (fun h2 => ?_) (fun h2 => ?_)
    · have eo : opV o = nI 1 := if_pos h2
      rw [eo] at hQ
      refine And.intro hin ?_
      refine And.intro (fun h3 => ?_) (fun h3 => ?_)
      · have h3 : ¬ hp.1 53 (if doN a b = 999 then (-1 : Int32) else nI (doN a b)).toNatClampNeg = nI 1 := h3
        refine q_ih hQ ?_ ?_
        · rw [ev, nI_clamp (by omega)] at h3
          unfold neV
          rw [if_neg h3]
        · dsimp only
          rw [ev, nI_clamp (by omega)]
      · have h3 : hp.1 53 (if doN a b = 999 then (-1 : Int32) else nI (doN a b)).toNatClampNeg = nI 1 := h3
        refine q_ih hQ ?_ ?_
        · rw [ev, nI_clamp (by omega)] at h3
          unfold neV
          rw [if_pos h3]
        · dsimp only
          rw [ev, nI_clamp (by omega)]
    · have eo : opV o = nI 0 := if_neg h2
      rw [eo] at hQ
      refine And.intro hin ?_
      refine And.intro (fun h3 => ?_) (fun h3 => ?_)
      · have h3 : ¬ hp.1 53 (if doN a b = 999 then (-1 : Int32) else nI (doN a b)).toNatClampNeg = nI 0 := h3
        refine q_ih hQ ?_ ?_
        · rw [ev, nI_clamp (by omega)] at h3
          unfold neV
          rw [if_neg h3]
        · dsimp only
          rw [ev, nI_clamp (by omega)]
      · have h3 : hp.1 53 (if doN a b = 999 then (-1 : Int32) else nI (doN a b)).toNatClampNeg = nI 0 := h3
        refine q_ih hQ ?_ ?_
        · rw [ev, nI_clamp (by omega)] at h3
          unfold neV
          rw [if_pos h3]
        · dsimp only
          rw [ev, nI_clamp (by omega)]
  · have h1 : doN a b = 999 := by
      false_or_by_contra
      rename_i h2
      exact h1 (dv_neg.mpr h2)
    have hF : F_door a b o hp = noP hp 0 := if_pos h1
    rw [hF] at hQ
    refine And.intro (vp_in_nI (by omega) (by omega)) ?_
    exact hQ
theorem sc_X5_door {own : String} {F L idx : Nat} (h1 : Cond.methodLink own idx yX5_door ∈ Gw) (hF : 4 ≤ F) (hL : 91 ≤ L) : SC own F L (idx, false, 4, sp_X5_door) := SC_V spH_mono c_X5_door okd_5 (fun as hp K h => by obtain ⟨x, hx, -⟩ := spH_e h; exact ⟨_, _, d_M_III_e hx⟩) h1 gw_873 gw_874 gw_75 gw_875 (by decide +kernel) hF hL
def F_isOpen (a b : Int32) (hp : HP) : Int32 × HP := if doN a b = 999 then noP hp 0 else (nI 1 - hp.1 53 (doN a b), hp)
def sp_X5_isOpen : SP := spH d_M_II (fun _ _ => True) (fun x hp => some (vI (F_isOpen x.1 x.2 hp).1)) (fun x hp => (F_isOpen x.1 x.2 hp).2)
def E_X5_isOpen : EN := [(76, false, 3, sp_X5_doorOf), (79, false, 2, sp_X5_no)]
set_option maxRecDepth 100000 in
set_option maxHeartbeats 4000000 in
theorem c_X5_isOpen : Ctr M_X5_isOpen sp_X5_isOpen := by
  refine ctr_of (own := RX5) M_X5_isOpen sp_X5_isOpen (P := P_X5_isOpen) (K := K_X5) (E := E_X5_isOpen) (by decide) rfl pk_X5_isOpen K_X5_ok (List.forall_mem_cons.mpr ⟨sc_X5_doorOf gw_876 (by decide) (by decide), List.forall_mem_cons.mpr ⟨sc_X5_no gw_895 (by decide) (by decide), fun _ h => absurd h List.not_mem_nil⟩⟩) (fun as hp Q h => by obtain ⟨x, hx, -⟩ := spH_e h; rw [d_M_II_e hx]; exact Nat.le_of_ble_eq_true rfl) ?_
  intro Q G hQi hG as hp h
  obtain ⟨x, hx, hpre, hQ⟩ := spH_e h
  rw [d_M_II_e hx]
  clear h hx
  obtain ⟨a, b⟩ := x
  try dsimp only at hpre hQ ⊢
  refine run hG [] 60 ?_
  refine And.intro trivial ?_
  refine And.intro (fun h1 => ?_) (fun h1 => ?_)
  · have h1 : doN a b ≠ 999 := dv_neg.mp h1
    have hlt : doN a b < 184 := by rcases doN_lt a b with h | h <;> omega
    have ev : (if doN a b = 999 then (-1 : Int32) else nI (doN a b)) = nI (doN a b) := if_neg h1
    have hF : F_isOpen a b hp = (nI 1 - hp.1 53 (doN a b), hp) := if_neg h1
    rw [hF] at hQ
    refine And.intro ?_ (q_i hQ ?_)
    · show vp_in (if doN a b = 999 then (-1 : Int32) else nI (doN a b)) 184
      rw [ev]
      exact vp_in_nI hlt (by omega)
    · show nI 1 - hp.1 53 (if doN a b = 999 then (-1 : Int32) else nI (doN a b)).toNatClampNeg = _
      rw [ev, nI_clamp (by omega)]
  · have h1 : doN a b = 999 := by
      false_or_by_contra
      rename_i h2
      exact h1 (dv_neg.mpr h2)
    have hF : F_isOpen a b hp = noP hp 0 := if_pos h1
    rw [hF] at hQ
    refine And.intro (vp_in_nI (by omega) (by omega)) ?_
    exact hQ
theorem sc_X5_isOpen {own : String} {F L idx : Nat} (h1 : Cond.methodLink own idx yX5_isOpen ∈ Gw) (hF : 4 ≤ F) (hL : 89 ≤ L) : SC own F L (idx, false, 3, sp_X5_isOpen) := SC_V spH_mono c_X5_isOpen okd_5 (fun as hp K h => by obtain ⟨x, hx, -⟩ := spH_e h; exact ⟨_, _, d_M_II_e hx⟩) h1 gw_905 gw_906 gw_75 gw_907 (by decide +kernel) hF hL
def F_height (q v : Int32) (hp : HP) : Int32 × HP := if inB q 25 = true ∧ inB v 10 = true then (hp.1 53 (19 + q.toNatClampNeg), uI hp 53 (19 + q.toNatClampNeg) v) else noP hp 0
def sp_X5_height : SP := spH d_M_II (fun _ _ => True) (fun x hp => some (vI (F_height x.1 x.2 hp).1)) (fun x hp => (F_height x.1 x.2 hp).2)
theorem ix_lt {x : Int32} {n : Nat} (h : vp_in x n) : x.toNatClampNeg < n := by
  have := (not_or.mp h).2
  omega
theorem ix_nI {x : Int32} {n : Nat} (h : vp_in x n) (hn : n < 2 ^ 31) : x = nI x.toNatClampNeg := by
  obtain ⟨j, hj, e⟩ := vp_in_of h hn
  rw [e, nI_clamp (by omega)]
theorem add_ix {k n : Nat} {x : Int32} (h : vp_in x n) (hn : k + n < 2 ^ 31) : (nI k + x).toNatClampNeg = k + x.toNatClampNeg ∧ ∀ N, k + n ≤ N → vp_in (nI k + x) N := by
  obtain ⟨j, hj, rfl⟩ := vp_in_of h (by omega)
  rw [nI_add, nI_clamp (by omega), nI_clamp (by omega)]
  refine ⟨rfl, fun N hN => ?_⟩
  unfold vp_in
  rw [nI_clamp (by omega)]
  exact not_or.mpr ⟨nI_pos (by omega), by omega⟩
def E_X5_height : EN := [(69, true, 1, sp_X5_isSquare), (55, true, 3, sp_X5_in), (83, false, 3, sp_X5_puts), (79, false, 2, sp_X5_no)]
set_option maxRecDepth 100000 in
set_option maxHeartbeats 4000000 in
theorem c_X5_height : Ctr M_X5_height sp_X5_height := by
  refine ctr_of (own := RX5) M_X5_height sp_X5_height (P := P_X5_height) (K := K_X5) (E := E_X5_height) (by decide) rfl pk_X5_height K_X5_ok (List.forall_mem_cons.mpr ⟨sc_X5_isSquare gw_880 (by decide) (by decide), List.forall_mem_cons.mpr ⟨sc_X5_in gw_883 (by decide) (by decide), List.forall_mem_cons.mpr ⟨sc_X5_puts gw_900 (by decide) (by decide), List.forall_mem_cons.mpr ⟨sc_X5_no gw_895 (by decide) (by decide), fun _ h => absurd h List.not_mem_nil⟩⟩⟩⟩) (fun as hp Q h => by obtain ⟨x, hx, -⟩ := spH_e h; rw [d_M_II_e hx]; exact Nat.le_of_ble_eq_true rfl) ?_
  intro Q G hQi hG as hp h
  obtain ⟨x, hx, hpre, hQ⟩ := spH_e h
  rw [d_M_II_e hx]
  clear h hx
  obtain ⟨q, v⟩ := x
  try dsimp only at hpre hQ ⊢
  have ib : (decide (nI 0 ≤ v) && decide (v ≤ nI 9)) = inB v 10 := in_b (by omega)
  have no : ¬ (inB q 25 = true ∧ inB v 10 = true) → Q (some (vI (noP hp 0).1)) (noP hp 0).2 := fun h => by
    have hF : F_height q v hp = noP hp 0 := if_neg h
    rw [hF] at hQ
    exact hQ
  refine run hG [] 60 ?_
  refine And.intro trivial ?_
  refine And.intro (fun h1 => ?_) (fun h1 => ?_)
  · refine And.intro (vp_in_nI (by omega) (by omega)) (no (fun h => ?_))
    rw [bB_0.mp h1] at h
    exact absurd h.1 (by decide)
  · refine And.intro trivial ?_
    refine And.intro (fun h2 => ?_) (fun h2 => ?_)
    · refine And.intro (vp_in_nI (by omega) (by omega)) (no (fun h => ?_))
      rw [← ib, bB_0.mp h2] at h
      exact absurd h.2 (by decide)
    · have h1 : inB q 25 = true := bB_1.mp h1
      have h2 : inB v 10 = true := ib ▸ bB_1.mp h2
      have hF : F_height q v hp = _ := if_pos ⟨h1, h2⟩
      rw [hF] at hQ
      have ha := add_ix (k := 19) (inB_t.mp h1) (by omega)
      refine And.intro (ha.2 184 (by omega)) (q_ih hQ ?_ ?_)
      · show hp.1 53 (nI 19 + q).toNatClampNeg = _
        rw [ha.1]
      · dsimp only
        rw [ha.1]
theorem sc_X5_height {own : String} {F L idx : Nat} (h1 : Cond.methodLink own idx yX5_height ∈ Gw) (hF : 3 ≤ F) (hL : 64 ≤ L) : SC own F L (idx, false, 3, sp_X5_height) := SC_V spH_mono c_X5_height okd_5 (fun as hp K h => by obtain ⟨x, hx, -⟩ := spH_e h; exact ⟨_, _, d_M_II_e hx⟩) h1 gw_909 gw_910 gw_75 gw_911 (by decide +kernel) hF hL
