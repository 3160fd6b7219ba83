def isB (f : Nat → Int32) (k : Int32) (w o : Nat) : Bool := if k = 0 then inR f w else if k = nI 1 then decide (f (144 + 5 * w + 2) = f (144 + 5 * o + 2)) else decide (f (144 + 5 * w + 2) = f (144 + 5 * w + 1))
def sp_X5_is : SP := spP d_M_III (fun x hp => vp_in x.2.1 8 ∧ vp_in x.2.2 8 ∧ vp_in (hp.1 53 (144 + 5 * x.2.1.toNatClampNeg + 2)) 25) (fun x hp => vI (bB (isB (hp.1 53) x.1 x.2.1.toNatClampNeg x.2.2.toNatClampNeg)))
def E_X5_is : EN := [(139, false, 2, sp_X5_isIn), (59, false, 3, sp_X5_has)]
set_option maxRecDepth 100000 in
set_option maxHeartbeats 4000000 in
theorem c_X5_is : Ctr M_X5_is sp_X5_is := by
  refine ctr_of (own := RX5) M_X5_is sp_X5_is (P := P_X5_is) (K := K_X5) (E := E_X5_is) (by decide) rfl pk_X5_is K_X5_ok (List.forall_mem_cons.mpr ⟨sc_X5_isIn gw_1037 (by decide) (by decide), List.forall_mem_cons.mpr ⟨sc_X5_has gw_924 (by decide) (by decide), fun _ h => absurd h List.not_mem_nil⟩⟩) (fun as hp Q h => by obtain ⟨x, hx, -⟩ := spP_e h; rw [d_M_III_e hx]; exact Nat.le_of_ble_eq_true rfl) ?_
  intro Q G hQi hG as hp h
  obtain ⟨x, hx, hpre, hQ⟩ := spP_e h
  rw [d_M_III_e hx]
  clear h hx
  obtain ⟨k, w, o⟩ := x
  try dsimp only at hpre hQ ⊢
  obtain ⟨hw, ho, hpl⟩ := hpre
  unfold isB at hQ
  have c1 : ∀ j, j < 5 → vp_in (nI j) 5 := fun j hj => vp_in_nI hj (by omega)
  refine run hG [] 60 ?_
  refine And.intro (fun h1 => ?_) (fun h1 => ?_)
  · rw [if_neg h1] at hQ
    refine And.intro (fun h2 => ?_) (fun h2 => ?_)
    · rw [if_neg h2] at hQ
      refine And.intro ⟨hw, c1 2 (by omega)⟩ ?_
      refine And.intro ⟨hw, c1 1 (by omega)⟩ ?_
      refine And.intro (fun h3 => ?_) (fun h3 => ?_)
      · have h3 : ¬ hp.1 53 (144 + 5 * w.toNatClampNeg + 2) = hp.1 53 (144 + 5 * w.toNatClampNeg + 1) := h3
        exact q_b hQ (by rw [decide_eq_false h3]; rfl)
      · have h3 : hp.1 53 (144 + 5 * w.toNatClampNeg + 2) = hp.1 53 (144 + 5 * w.toNatClampNeg + 1) := h3
        exact q_b hQ (by rw [decide_eq_true h3]; rfl)
    · rw [if_pos h2] at hQ
      refine And.intro ⟨hw, c1 2 (by omega)⟩ ?_
      refine And.intro ⟨ho, c1 2 (by omega)⟩ ?_
      refine And.intro (fun h3 => ?_) (fun h3 => ?_)
      · have h3 : ¬ hp.1 53 (144 + 5 * w.toNatClampNeg + 2) = hp.1 53 (144 + 5 * o.toNatClampNeg + 2) := h3
        exact q_b hQ (by rw [decide_eq_false h3]; rfl)
      · have h3 : hp.1 53 (144 + 5 * w.toNatClampNeg + 2) = hp.1 53 (144 + 5 * o.toNatClampNeg + 2) := h3
        exact q_b hQ (by rw [decide_eq_true h3]; rfl)
  · rw [if_pos h1] at hQ
    refine And.intro ⟨hw, hpl⟩ ?_
    exact q_b hQ rfl
theorem sc_X5_is {own : String} {F L idx : Nat} (h1 : Cond.methodLink own idx yX5_is ∈ Gw) (hF : 3 ≤ F) (hL : 66 ≤ L) : SC own F L (idx, false, 4, sp_X5_is) := SC_V spP_mono c_X5_is okd_5 (fun as hp K h => by obtain ⟨x, hx, -⟩ := spP_e h; exact ⟨_, _, d_M_III_e hx⟩) h1 gw_1090 gw_46 gw_75 gw_1091 (by decide +kernel) hF hL
/-- the first from k on, of n, for which it holds; else the end -/
def fst_ (p : Nat → Bool) : Nat → Nat → Nat
  | 0, k => k
  | n + 1, k => if p k = true then k else fst_ p n (k + 1)
theorem fst_le (p : Nat → Bool) : ∀ n k, k ≤ fst_ p n k ∧ fst_ p n k ≤ k + n
  | 0, k => ⟨Nat.le_refl _, Nat.le_refl _⟩
  | n + 1, k => by
    unfold fst_
    split
    · exact ⟨Nat.le_refl _, by omega⟩
    · have := fst_le p n (k + 1)
      omega
def snP (f : Nat → Int32) (k : Int32) (w o : Nat) : Nat → Bool := fun n => isB (goF f n) k w o
def snN (f : Nat → Int32) (k : Int32) (w o : Nat) : Nat := if k = nI 2 then fst_ (snP f k w o) 499 1 else fst_ (snP f k w o) 500 0
def snR (f : Nat → Int32) (k : Int32) (w o : Nat) (hp : HP) (n : Nat) : Int32 × HP := if snP f k w o n = true then (nI n, rI hp 55 f) else noP (rI hp 55 f) 3
def F_soon (k w o : Int32) (hp : HP) : Int32 × HP := if ltB (hp.1 53) (nI 500) = true then noP hp 4 else snR (hp.1 53) k w.toNatClampNeg o.toNatClampNeg hp (snN (hp.1 53) k w.toNatClampNeg o.toNatClampNeg)
def sp_X5_soonest : SP := spH d_M_III (fun x hp => WF (hp.1 53) ∧ vp_in x.2.1 (mN (hp.1 53)) ∧ vp_in x.2.2 (mN (hp.1 53))) (fun x hp => some (vI (F_soon x.1 x.2.1 x.2.2 hp).1)) (fun x hp => (F_soon x.1 x.2.1 x.2.2 hp).2)
theorem in_mono {x : Int32} {a b : Nat} (h : vp_in x a) (hab : a ≤ b) : vp_in x b := by
  have := vp_in_iff.mp h
  exact vp_in_iff.mpr (by omega)
def E_X5_soonest : EN := [(148, false, 2, sp_X5_isLate), (79, false, 2, sp_X5_no), (164, true, 2, sp_X5_lay), (145, false, 1, sp_X5_minute), (168, false, 4, sp_X5_is)]
set_option maxRecDepth 100000 in
set_option maxHeartbeats 4000000 in
theorem c_X5_soonest : Ctr M_X5_soonest sp_X5_soonest := by
  refine ctr_of (own := RX5) M_X5_soonest sp_X5_soonest (P := P_X5_soonest) (K := K_X5) (E := E_X5_soonest) (by decide) rfl pk_X5_soonest K_X5_ok (List.forall_mem_cons.mpr ⟨sc_X5_isLate gw_1029 (by decide) (by decide), List.forall_mem_cons.mpr ⟨sc_X5_no gw_895 (by decide) (by decide), List.forall_mem_cons.mpr ⟨sc_X5_lay gw_1077 (by decide) (by decide), List.forall_mem_cons.mpr ⟨sc_X5_minute gw_1045 (by decide) (by decide), List.forall_mem_cons.mpr ⟨sc_X5_is gw_1088 (by decide) (by decide), fun _ h => absurd h List.not_mem_nil⟩⟩⟩⟩⟩) (fun as hp Q h => by obtain ⟨x, hx, -⟩ := spH_e h; rw [d_M_III_e hx]; exact Nat.le_of_ble_eq_true rfl) ?_
  intro Q G hQi hG as hp h
  obtain ⟨x, hx, hpre, hQ⟩ := spH_e h
  rw [d_M_III_e hx]
  clear h hx
  obtain ⟨k, w, o⟩ := x
  try dsimp only at hpre hQ ⊢
  obtain ⟨hwf, hw, ho⟩ := hpre
  have h8 := mN_lt hwf
  have hw8 := in_mono hw h8
  have ho8 := in_mono ho h8
  unfold F_soon at hQ
  generalize hf : hp.1 53 = f at hwf hw ho hQ h8
  have plk : ∀ n, vp_in (goF f n (144 + 5 * w.toNatClampNeg + 2)) 25 := fun n => by
    have hg := hwf.go n
    exact (hg.1.wk (w := w.toNatClampNeg) (by rw [show (goF f n 6).toNatClampNeg = mN (goF f n) from rfl, hg.2]; exact ix_lt hw)).2.2.1
  have eheap : ∀ n, rI (rI (rI hp 55 f) 53 (goF f n)) 53 f = rI hp 55 f := fun n => by rw [← hf]; exact lay2 hp _
  have ea : ∀ n, (rI (rI hp 55 f) 53 (goF f n)).1 53 = goF f n := fun n => rI_eq _ _ _
  have ea5 : ∀ n, (rI (rI hp 55 f) 53 (goF f n)).1 55 = f := fun n => by rw [rI_ne _ _ (by omega), rI_eq]
  have end70 : ∀ n, n ≤ 500 → Q (some (vI (snR f k w.toNatClampNeg o.toNatClampNeg hp n).1)) (snR f k w.toNatClampNeg o.toNatClampNeg hp n).2 → G 70 [(4, vI (nI n)), (0, vR 5 52), (1, vI k), (2, vI w), (3, vI o)] [] (rI (rI hp 55 f) 53 (goF f n)) := by
    intro n hn hQ
    unfold snR snP at hQ
    refine run hG [42, 70] 60 ?_
    refine And.intro ⟨hw8, ho8, show vp_in ((rI (rI hp 55 f) 53 (goF f n)).1 53 (144 + 5 * w.toNatClampNeg + 2)) 25 by rw [ea]; exact plk n⟩ ?_
    refine And.intro ⟨rfl, rfl, by decide⟩ ?_
    have eh : rI (rI (rI hp 55 f) 53 (goF f n)) 53 ((rI (rI hp 55 f) 53 (goF f n)).1 55) = rI hp 55 f := by rw [ea5, eheap]
    refine And.intro (fun h1 => ?_) (fun h1 => ?_)
    · have h1 : isB ((rI (rI hp 55 f) 53 (goF f n)).1 53) k w.toNatClampNeg o.toNatClampNeg = false := bB_0.mp h1
      rw [ea] at h1
      rw [if_neg (by rw [h1]; decide)] at hQ
      refine And.intro (vp_in_nI (by omega) (by omega)) ?_
      rw [← eh] at hQ
      exact hQ
    · have h1 : isB ((rI (rI hp 55 f) 53 (goF f n)).1 53) k w.toNatClampNeg o.toNatClampNeg = true := bB_1.mp h1
      rw [ea] at h1
      rw [if_pos h1, ← eh] at hQ
      exact hQ
  have key : ∀ k0, k0 ≤ 500 → Q (some (vI (snR f k w.toNatClampNeg o.toNatClampNeg hp (fst_ (snP f k w.toNatClampNeg o.toNatClampNeg) (500 - k0) k0)).1)) (snR f k w.toNatClampNeg o.toNatClampNeg hp (fst_ (snP f k w.toNatClampNeg o.toNatClampNeg) (500 - k0) k0)).2 → G 42 [(4, vI (nI k0)), (0, vR 5 52), (1, vI k), (2, vI w), (3, vI o)] [] (rI (rI hp 55 f) 53 (goF f k0)) := by
    refine for_up (P := fun n => Q (some (vI (snR f k w.toNatClampNeg o.toNatClampNeg hp (fst_ (snP f k w.toNatClampNeg o.toNatClampNeg) (500 - n) n)).1)) (snR f k w.toNatClampNeg o.toNatClampNeg hp (fst_ (snP f k w.toNatClampNeg o.toNatClampNeg) (500 - n) n)).2 → G 42 [(4, vI (nI n)), (0, vR 5 52), (1, vI k), (2, vI w), (3, vI o)] [] (rI (rI hp 55 f) 53 (goF f n))) 500 ?_ ?_
    · intro hQ
      have e5 := end70 500 (by omega) hQ
      refine run hG [42, 70] 60 ?_
      exact And.intro (fun h1 => e5) (fun h1 => absurd (nI_le (Nat.le_refl _) (by omega)) h1)
    · intro n hn ih hQ
      have e4 : 500 - n = (500 - (n + 1)) + 1 := by omega
      rw [e4] at hQ
      refine run hG [42, 70] 60 ?_
      refine And.intro (fun h1 => absurd h1 (nI_ge hn (by omega))) (fun h1 => ?_)
      refine And.intro ⟨hw8, ho8, show vp_in ((rI (rI hp 55 f) 53 (goF f n)).1 53 (144 + 5 * w.toNatClampNeg + 2)) 25 by rw [ea]; exact plk n⟩ ?_
      refine And.intro (fun h2 => ?_) (fun h2 => ?_)
      · have h2 : isB ((rI (rI hp 55 f) 53 (goF f n)).1 53) k w.toNatClampNeg o.toNatClampNeg = true := bB_1.mp h2
        rw [ea] at h2
        refine end70 n (by omega) ?_
        have e9 : fst_ (snP f k w.toNatClampNeg o.toNatClampNeg) (500 - (n + 1) + 1) n = n := by
          unfold fst_
          rw [if_pos (show snP f k w.toNatClampNeg o.toNatClampNeg n = true from h2)]
        rw [e9] at hQ
        exact hQ
      · have h2 : isB ((rI (rI hp 55 f) 53 (goF f n)).1 53) k w.toNatClampNeg o.toNatClampNeg = false := bB_0.mp h2
        rw [ea] at h2
        have e9 : fst_ (snP f k w.toNatClampNeg o.toNatClampNeg) (500 - (n + 1) + 1) n = fst_ (snP f k w.toNatClampNeg o.toNatClampNeg) (500 - (n + 1)) (n + 1) := by
          show (if snP f k w.toNatClampNeg o.toNatClampNeg n = true then n else _) = _
          rw [if_neg (by rw [show snP f k w.toNatClampNeg o.toNatClampNeg n = false from h2]; decide)]
        rw [e9] at hQ
        have ih := ih hQ
        refine And.intro (show WF ((rI (rI hp 55 f) 53 (goF f n)).1 53) by rw [ea]; exact (hwf.go n).1) ?_
        refine cl_lv hG [(4, vI (nI n + nI 1)), (0, vR 5 52), (1, vI k), (2, vI w), (3, vI o)] ⟨rfl, rfl, rfl, rfl, rfl, trivial⟩ ?_
        rw [nI_s]
        show G 42 _ [] (rI (rI (rI hp 55 f) 53 (goF f n)) 53 (minF ((rI (rI hp 55 f) 53 (goF f n)).1 53)))
        rw [ea, rI_rI]
        exact ih
  refine run hG [42] 60 ?_
  refine And.intro trivial ?_
  refine And.intro (fun h1 => ?_) (fun h1 => ?_)
  · have h1 : ltB (hp.1 53) (nI 500) = false := bB_0.mp h1
    rw [hf] at h1
    rw [if_neg (by rw [h1]; decide)] at hQ
    refine And.intro ⟨rfl, rfl, by decide⟩ ?_
    unfold snN at hQ
    have e0 : rI hp 55 (hp.1 53) = rI (rI hp 55 f) 53 f := by rw [← hf, rI_comm hp _ _ (by omega), rI_self]
    refine And.intro (fun h2 => ?_) (fun h2 => ?_)
    · rw [if_neg h2] at hQ
      have k9 : G 42 [(4, vI (nI 0)), (0, vR 5 52), (1, vI k), (2, vI w), (3, vI o)] [] (rI (rI hp 55 f) 53 f) := key 0 (by omega) hQ
      rw [← e0] at k9
      exact cl_use hG k9 ⟨rfl, rfl, rfl, rfl, rfl, trivial⟩
    · rw [if_pos h2] at hQ
      have k9 : G 42 [(4, vI (nI 1)), (0, vR 5 52), (1, vI k), (2, vI w), (3, vI o)] [] (rI (rI hp 55 f) 53 (minF f)) := key 1 (by omega) hQ
      have e1 : (rI hp 55 (hp.1 53)).1 53 = f := by rw [rI_ne _ _ (by omega)]; exact hf
      refine And.intro (show WF ((rI hp 55 (hp.1 53)).1 53) by rw [e1]; exact hwf) ?_
      refine cl_lv hG [(4, vI (nI 0 + nI 1)), (0, vR 5 52), (1, vI k), (2, vI w), (3, vI o)] ⟨rfl, rfl, rfl, rfl, rfl, trivial⟩ ?_
      rw [nI_s]
      show G 42 _ [] (rI (rI hp 55 (hp.1 53)) 53 (minF ((rI hp 55 (hp.1 53)).1 53)))
      rw [e1, hf]
      exact k9
  · have h1 : ltB (hp.1 53) (nI 500) = true := bB_1.mp h1
    rw [hf] at h1
    rw [if_pos h1] at hQ
    exact And.intro (vp_in_nI (by omega) (by omega)) hQ
theorem sc_X5_soonest {own : String} {F L idx : Nat} (h1 : Cond.methodLink own idx yX5_soonest ∈ Gw) (hF : 7 ≤ F) (hL : 163 ≤ L) : SC own F L (idx, false, 4, sp_X5_soonest) := SC_V spH_mono c_X5_soonest okd_5 (fun as hp K h => by obtain ⟨x, hx, -⟩ := spH_e h; exact ⟨_, _, d_M_III_e hx⟩) h1 gw_1086 gw_45 gw_75 gw_1087 (by decide +kernel) hF hL
def F_river (w : Int32) (hp : HP) : Int32 × HP := if inB w (mN (hp.1 53)) = true then F_soon (nI 0) w w hp else noP hp 0
def sp_X5_river : SP := spH d_M_I (fun _ hp => WF (hp.1 53)) (fun x hp => some (vI (F_river x hp).1)) (fun x hp => (F_river x hp).2)
def E_X5_river : EN := [(107, false, 2, sp_X5_isWalker), (171, false, 4, sp_X5_soonest), (79, false, 2, sp_X5_no)]
set_option maxRecDepth 100000 in
set_option maxHeartbeats 4000000 in
theorem c_X5_river : Ctr M_X5_river sp_X5_river := by
  refine ctr_of (own := RX5) M_X5_river sp_X5_river (P := P_X5_river) (K := K_X5) (E := E_X5_river) (by decide) rfl pk_X5_river K_X5_ok (List.forall_mem_cons.mpr ⟨sc_X5_isWalker gw_962 (by decide) (by decide), List.forall_mem_cons.mpr ⟨sc_X5_soonest gw_1084 (by decide) (by decide), List.forall_mem_cons.mpr ⟨sc_X5_no gw_895 (by decide) (by decide), fun _ h => absurd h List.not_mem_nil⟩⟩⟩) (fun as hp Q h => by obtain ⟨x, hx, -⟩ := spH_e h; rw [d_M_I_e hx]; exact Nat.le_of_ble_eq_true rfl) ?_
  intro Q G hQi hG as hp h
  obtain ⟨x, hx, hpre, hQ⟩ := spH_e h
  rw [d_M_I_e hx]
  clear h hx
  unfold F_river at hQ
  refine run hG [] 60 ?_
  refine And.intro hpre.many ?_
  refine And.intro (fun h1 => ?_) (fun h1 => ?_)
  · rw [if_neg (by rw [show inB x (mN (hp.1 53)) = false from bB_0.mp h1]; decide)] at hQ
    exact And.intro (vp_in_nI (by omega) (by omega)) hQ
  · have h1 : inB x (mN (hp.1 53)) = true := bB_1.mp h1
    rw [if_pos h1] at hQ
    exact And.intro ⟨hpre, inB_t.mp h1, inB_t.mp h1⟩ hQ
theorem sc_X5_river {own : String} {F L idx : Nat} (h1 : Cond.methodLink own idx yX5_river ∈ Gw) (hF : 8 ≤ F) (hL : 184 ≤ L) : SC own F L (idx, false, 2, sp_X5_river) := SC_V spH_mono c_X5_river okd_5 (fun as hp K h => by obtain ⟨x, hx, -⟩ := spH_e h; exact ⟨_, _, d_M_I_e hx⟩) h1 gw_1081 gw_1082 gw_75 gw_1083 (by decide +kernel) hF hL
def F_home (w : Int32) (hp : HP) : Int32 × HP := if inB w (mN (hp.1 53)) = true then F_soon (nI 2) w w hp else noP hp 0
def sp_X5_home : SP := spH d_M_I (fun _ hp => WF (hp.1 53)) (fun x hp => some (vI (F_home x hp).1)) (fun x hp => (F_home x hp).2)
def E_X5_home : EN := [(107, false, 2, sp_X5_isWalker), (171, false, 4, sp_X5_soonest), (79, false, 2, sp_X5_no)]
set_option maxRecDepth 100000 in
set_option maxHeartbeats 4000000 in
theorem c_X5_home : Ctr M_X5_home sp_X5_home := by
  refine ctr_of (own := RX5) M_X5_home sp_X5_home (P := P_X5_home) (K := K_X5) (E := E_X5_home) (by decide) rfl pk_X5_home K_X5_ok (List.forall_mem_cons.mpr ⟨sc_X5_isWalker gw_962 (by decide) (by decide), List.forall_mem_cons.mpr ⟨sc_X5_soonest gw_1084 (by decide) (by decide), List.forall_mem_cons.mpr ⟨sc_X5_no gw_895 (by decide) (by decide), fun _ h => absurd h List.not_mem_nil⟩⟩⟩) (fun as hp Q h => by obtain ⟨x, hx, -⟩ := spH_e h; rw [d_M_I_e hx]; exact Nat.le_of_ble_eq_true rfl) ?_
  intro Q G hQi hG as hp h
  obtain ⟨x, hx, hpre, hQ⟩ := spH_e h
  rw [d_M_I_e hx]
  clear h hx
  unfold F_home at hQ
  refine run hG [] 60 ?_
  refine And.intro hpre.many ?_
  refine And.intro (fun h1 => ?_) (fun h1 => ?_)
  · rw [if_neg (by rw [show inB x (mN (hp.1 53)) = false from bB_0.mp h1]; decide)] at hQ
    exact And.intro (vp_in_nI (by omega) (by omega)) hQ
  · have h1 : inB x (mN (hp.1 53)) = true := bB_1.mp h1
    rw [if_pos h1] at hQ
    exact And.intro ⟨hpre, inB_t.mp h1, inB_t.mp h1⟩ hQ
theorem sc_X5_home {own : String} {F L idx : Nat} (h1 : Cond.methodLink own idx yX5_home ∈ Gw) (hF : 8 ≤ F) (hL : 184 ≤ L) : SC own F L (idx, false, 2, sp_X5_home) := SC_V spH_mono c_X5_home okd_5 (fun as hp K h => by obtain ⟨x, hx, -⟩ := spH_e h; exact ⟨_, _, d_M_I_e hx⟩) h1 gw_1097 gw_1098 gw_75 gw_1099 (by decide +kernel) hF hL
def F_meet (w o : Int32) (hp : HP) : Int32 × HP := if inB w (mN (hp.1 53)) = true ∧ inB o (mN (hp.1 53)) = true ∧ ¬ w = o then F_soon (nI 1) w o hp else noP hp 0
def sp_X5_meet : SP := spH d_M_II (fun _ hp => WF (hp.1 53)) (fun x hp => some (vI (F_meet x.1 x.2 hp).1)) (fun x hp => (F_meet x.1 x.2 hp).2)
def E_X5_meet : EN := [(107, false, 2, sp_X5_isWalker), (171, false, 4, sp_X5_soonest), (79, false, 2, sp_X5_no)]
set_option maxRecDepth 100000 in
set_option maxHeartbeats 4000000 in
theorem c_X5_meet : Ctr M_X5_meet sp_X5_meet := by
  refine ctr_of (own := RX5) M_X5_meet sp_X5_meet (P := P_X5_meet) (K := K_X5) (E := E_X5_meet) (by decide) rfl pk_X5_meet K_X5_ok (List.forall_mem_cons.mpr ⟨sc_X5_isWalker gw_962 (by decide) (by decide), List.forall_mem_cons.mpr ⟨sc_X5_soonest gw_1084 (by decide) (by decide), List.forall_mem_cons.mpr ⟨sc_X5_no gw_895 (by decide) (by decide), fun _ h => absurd h List.not_mem_nil⟩⟩⟩) (fun as hp Q h => by obtain ⟨x, hx, -⟩ := spH_e h; rw [d_M_II_e hx]; exact Nat.le_of_ble_eq_true rfl) ?_
  intro Q G hQi hG as hp h
  obtain ⟨x, hx, hpre, hQ⟩ := spH_e h
  rw [d_M_II_e hx]
  clear h hx
  obtain ⟨w, o⟩ := x
  try dsimp only at hpre hQ ⊢
  unfold F_meet at hQ
  have no : ¬ (inB w (mN (hp.1 53)) = true ∧ inB o (mN (hp.1 53)) = true ∧ ¬ w = o) → Q (some (vI (noP hp 0).1)) (noP hp 0).2 := fun h => by
    rw [if_neg h] at hQ
    exact hQ
  refine run hG [] 60 ?_
  refine And.intro hpre.many ?_
  refine And.intro (fun h1 => ?_) (fun h1 => ?_)
  · refine And.intro (vp_in_nI (by omega) (by omega)) (no (fun h => ?_))
    rw [show inB w (mN (hp.1 53)) = false from bB_0.mp h1] at h
    exact absurd h.1 (by decide)
  · have h1 : inB w (mN (hp.1 53)) = true := bB_1.mp h1
    refine And.intro hpre.many ?_
    refine And.intro (fun h2 => ?_) (fun h2 => ?_)
    · refine And.intro (vp_in_nI (by omega) (by omega)) (no (fun h => ?_))
      rw [show inB o (mN (hp.1 53)) = false from bB_0.mp h2] at h
      exact absurd h.2.1 (by decide)
    · have h2 : inB o (mN (hp.1 53)) = true := bB_1.mp h2
      refine And.intro (fun h3 => ?_) (fun h3 => ?_)
      · exact And.intro (vp_in_nI (by omega) (by omega)) (no (fun h => h.2.2 h3))
      · rw [if_pos ⟨h1, h2, h3⟩] at hQ
        exact And.intro ⟨hpre, inB_t.mp h1, inB_t.mp h2⟩ hQ
theorem sc_X5_meet {own : String} {F L idx : Nat} (h1 : Cond.methodLink own idx yX5_meet ∈ Gw) (hF : 8 ≤ F) (hL : 185 ≤ L) : SC own F L (idx, false, 3, sp_X5_meet) := SC_V spH_mono c_X5_meet okd_5 (fun as hp K h => by obtain ⟨x, hx, -⟩ := spH_e h; exact ⟨_, _, d_M_II_e hx⟩) h1 gw_1093 gw_1094 gw_75 gw_1095 (by decide +kernel) hF hL
def sfP (f : Nat → Int32) : Nat → Bool := fun n => decide (¬ rvV (goF f n) = rvV f)
def sfB (f : Nat → Int32) (n : Nat) : Bool := !(sfP f (fst_ (sfP f) n 0))
def sp_X5_isSafe : SP := spH d_M_I (fun x hp => WF (hp.1 53) ∧ vp_in x 1000) (fun x hp => some (vI (bB (sfB (hp.1 53) x.toNatClampNeg)))) (fun _ hp => rI hp 55 (hp.1 53))
theorem q_bh {Q : QP} {b : Bool} {y : Int32} {hp hq : HP} (h : Q (some (vI (bB b))) hp) (e : y = bB b) (e2 : hq = hp) : (y = 0 ∨ y = 1) ∧ Q (some (vI y)) hq := by
  subst e e2
  exact ⟨bB_01 b, h⟩
def E_X5_isSafe : EN := [(164, true, 2, sp_X5_lay), (151, false, 1, sp_X5_inRiver), (145, false, 1, sp_X5_minute)]
set_option maxRecDepth 100000 in
set_option maxHeartbeats 4000000 in
theorem c_X5_isSafe : Ctr M_X5_isSafe sp_X5_isSafe := by
  refine ctr_of (own := RX5) M_X5_isSafe sp_X5_isSafe (P := P_X5_isSafe) (K := K_X5) (E := E_X5_isSafe) (by decide) rfl pk_X5_isSafe K_X5_ok (List.forall_mem_cons.mpr ⟨sc_X5_lay gw_1077 (by decide) (by decide), List.forall_mem_cons.mpr ⟨sc_X5_inRiver gw_1033 (by decide) (by decide), List.forall_mem_cons.mpr ⟨sc_X5_minute gw_1045 (by decide) (by decide), fun _ h => absurd h List.not_mem_nil⟩⟩⟩) (fun as hp Q h => by obtain ⟨x, hx, -⟩ := spH_e h; rw [d_M_I_e hx]; exact Nat.le_of_ble_eq_true rfl) ?_
  intro Q G hQi hG as hp h
  obtain ⟨x, hx, hpre, hQ⟩ := spH_e h
  rw [d_M_I_e hx]
  clear h hx
  obtain ⟨hwf, hx⟩ := hpre
  obtain ⟨n, hn, rfl⟩ := vp_in_of hx (by omega)
  rw [nI_clamp (by omega)] at hQ
  unfold sfB at hQ
  generalize hf : hp.1 53 = f at hwf hQ
  have ea : ∀ n, (rI (rI hp 55 f) 53 (goF f n)).1 53 = goF f n := fun n => rI_eq _ _ _
  have eh : ∀ n, rI (rI (rI hp 55 f) 53 (goF f n)) 53 ((rI (rI hp 55 f) 53 (goF f n)).1 55) = rI hp 55 f := fun n => by rw [rI_ne _ _ (by omega), rI_eq, ← hf, lay2]
  have wfa : ∀ n, WF ((rI (rI hp 55 f) 53 (goF f n)).1 53) := fun n => by rw [ea]; exact (hwf.go n).1
  have end41 : ∀ k, Q (some (vI (bB (!(sfP f k))))) (rI hp 55 f) → G 41 [(3, vI (nI k)), (2, vI (rvV f)), (0, vR 5 52), (1, vI (nI n))] [] (rI (rI hp 55 f) 53 (goF f k)) := by
    intro k hQ
    unfold sfP at hQ
    refine run hG [18, 41] 60 ?_
    refine And.intro (wfa k) ?_
    refine And.intro (fun h1 => ?_) (fun h1 => ?_)
    · have h1 : ¬ rvV ((rI (rI hp 55 f) 53 (goF f k)).1 53) = rvV f := h1
      rw [ea] at h1
      refine And.intro ⟨rfl, rfl, by decide⟩ ?_
      exact q_bh hQ (by rw [decide_eq_true h1]; rfl) (eh k)
    · have h1 : rvV ((rI (rI hp 55 f) 53 (goF f k)).1 53) = rvV f := h1
      rw [ea] at h1
      refine And.intro ⟨rfl, rfl, by decide⟩ ?_
      exact q_bh hQ (by rw [decide_eq_false (fun h => h h1)]; rfl) (eh k)
  have key := for_up (P := fun k => Q (some (vI (bB (!(sfP f (fst_ (sfP f) (n - k) k)))))) (rI hp 55 f) → G 18 [(3, vI (nI k)), (2, vI (rvV f)), (0, vR 5 52), (1, vI (nI n))] [] (rI (rI hp 55 f) 53 (goF f k))) n (by
    intro hQ
    rw [Nat.sub_self] at hQ
    have e5 := end41 n hQ
    refine run hG [18, 41] 60 ?_
    exact And.intro (fun h1 => e5) (fun h1 => absurd (nI_le (Nat.le_refl _) (by omega)) h1)) (by
    intro k hk ih hQ
    have e4 : n - k = (n - (k + 1)) + 1 := by omega
    rw [e4] at hQ
    refine run hG [18, 41] 60 ?_
    refine And.intro (fun h1 => absurd h1 (nI_ge hk (by omega))) (fun h1 => ?_)
    refine And.intro (wfa k) ?_
    refine And.intro (fun h2 => ?_) (fun h2 => ?_)
    · have h2 : ¬ rvV ((rI (rI hp 55 f) 53 (goF f k)).1 53) = rvV f := h2
      rw [ea] at h2
      have hp2 : sfP f k = true := decide_eq_true h2
      refine end41 k ?_
      have e9 : fst_ (sfP f) (n - (k + 1) + 1) k = k := by
        unfold fst_
        rw [if_pos hp2]
      rw [e9] at hQ
      exact hQ
    · have h2 : rvV ((rI (rI hp 55 f) 53 (goF f k)).1 53) = rvV f := h2
      rw [ea] at h2
      have hp2 : sfP f k = false := decide_eq_false (fun h => h h2)
      have e9 : fst_ (sfP f) (n - (k + 1) + 1) k = fst_ (sfP f) (n - (k + 1)) (k + 1) := by
        show (if sfP f k = true then k else _) = _
        rw [if_neg (by rw [hp2]; decide)]
      rw [e9] at hQ
      have ih := ih hQ
      refine And.intro (wfa k) ?_
      refine cl_lv hG [(3, vI (nI k + nI 1)), (2, vI (rvV f)), (0, vR 5 52), (1, vI (nI n))] ⟨rfl, rfl, rfl, rfl, trivial⟩ ?_
      rw [nI_s]
      show G 18 _ [] (rI (rI (rI hp 55 f) 53 (goF f k)) 53 (minF ((rI (rI hp 55 f) 53 (goF f k)).1 53)))
      rw [ea, rI_rI]
      exact ih) 0 (by omega) hQ
  have key : G 18 [(3, vI (nI 0)), (2, vI (rvV f)), (0, vR 5 52), (1, vI (nI n))] [] (rI (rI hp 55 f) 53 f) := key
  have e0 : rI hp 55 (hp.1 53) = rI (rI hp 55 f) 53 f := by rw [← hf, rI_comm hp _ _ (by omega), rI_self]
  have e1 : (rI hp 55 (hp.1 53)).1 53 = f := by rw [rI_ne _ _ (by omega)]; exact hf
  refine run hG [18] 60 ?_
  refine And.intro ⟨rfl, rfl, by decide⟩ ?_
  refine And.intro (show WF ((rI hp 55 (hp.1 53)).1 53) by rw [e1]; exact hwf) ?_
  refine cl_lv hG [(3, vI (nI 0)), (2, vI (rvV ((rI hp 55 (hp.1 53)).1 53))), (0, vR 5 52), (1, vI (nI n))] ⟨rfl, rfl, rfl, rfl, trivial⟩ ?_
  show G 18 _ [] (rI hp 55 (hp.1 53))
  rw [e1, e0]
  exact key
theorem sc_X5_isSafe {own : String} {F L idx : Nat} (h1 : Cond.methodLink own idx yX5_isSafe ∈ Gw) (hF : 7 ≤ F) (hL : 162 ≤ L) : SC own F L (idx, false, 2, sp_X5_isSafe) := SC_V spH_mono c_X5_isSafe okd_5 (fun as hp K h => by obtain ⟨x, hx, -⟩ := spH_e h; exact ⟨_, _, d_M_I_e hx⟩) h1 gw_1106 gw_47 gw_75 gw_1107 (by decide +kernel) hF hL
def F_safe (n : Int32) (hp : HP) : Int32 × HP := if nI 1 ≤ n ∧ n ≤ nI 500 then (if ltB (hp.1 53) n = true then noP hp 4 else (bB (sfB (hp.1 53) n.toNatClampNeg), rI hp 55 (hp.1 53))) else noP hp 0
def sp_X5_safe : SP := spH d_M_I (fun _ hp => WF (hp.1 53)) (fun x hp => some (vI (F_safe x hp).1)) (fun x hp => (F_safe x hp).2)
def E_X5_safe : EN := [(55, true, 3, sp_X5_in), (79, false, 2, sp_X5_no), (148, false, 2, sp_X5_isLate), (174, false, 2, sp_X5_isSafe)]
set_option maxRecDepth 100000 in
set_option maxHeartbeats 4000000 in
theorem c_X5_safe : Ctr M_X5_safe sp_X5_safe := by
  refine ctr_of (own := RX5) M_X5_safe sp_X5_safe (P := P_X5_safe) (K := K_X5) (E := E_X5_safe) (by decide) rfl pk_X5_safe K_X5_ok (List.forall_mem_cons.mpr ⟨sc_X5_in gw_883 (by decide) (by decide), List.forall_mem_cons.mpr ⟨sc_X5_no gw_895 (by decide) (by decide), List.forall_mem_cons.mpr ⟨sc_X5_isLate gw_1029 (by decide) (by decide), List.forall_mem_cons.mpr ⟨sc_X5_isSafe gw_1104 (by decide) (by decide), fun _ h => absurd h List.not_mem_nil⟩⟩⟩⟩) (fun as hp Q h => by obtain ⟨x, hx, -⟩ := spH_e h; rw [d_M_I_e hx]; exact Nat.le_of_ble_eq_true rfl) ?_
  intro Q G hQi hG as hp h
  obtain ⟨x, hx, hpre, hQ⟩ := spH_e h
  rw [d_M_I_e hx]
  clear h hx
  unfold F_safe at hQ
  refine run hG [] 60 ?_
  refine And.intro trivial ?_
  refine And.intro (fun h1 => ?_) (fun h1 => ?_)
  · have h1 := and_t.mp (bB_1.mp h1)
    rw [if_pos h1] at hQ
    refine And.intro trivial ?_
    refine And.intro (fun h2 => ?_) (fun h2 => ?_)
    · have h2 : ltB (hp.1 53) x = false := bB_0.mp h2
      rw [if_neg (by rw [h2]; decide)] at hQ
      refine And.intro ⟨hpre, in_k h1 (by omega) (by omega) (by omega)⟩ ?_
      refine And.intro (fun h3 => ?_) (fun h3 => ?_)
      · have h3 : sfB (hp.1 53) x.toNatClampNeg = false := bB_0.mp h3
        rw [h3] at hQ
        exact hQ
      · have h3 : sfB (hp.1 53) x.toNatClampNeg = true := bB_1.mp h3
        rw [h3] at hQ
        exact hQ
    · have h2 : ltB (hp.1 53) x = true := bB_1.mp h2
      rw [if_pos h2] at hQ
      exact And.intro (vp_in_nI (by omega) (by omega)) hQ
  · have h1 := and_f (bB_0.mp h1)
    rw [if_neg h1] at hQ
    exact And.intro (vp_in_nI (by omega) (by omega)) hQ
theorem sc_X5_safe {own : String} {F L idx : Nat} (h1 : Cond.methodLink own idx yX5_safe ∈ Gw) (hF : 8 ≤ F) (hL : 183 ≤ L) : SC own F L (idx, false, 2, sp_X5_safe) := SC_V spH_mono c_X5_safe okd_5 (fun as hp K h => by obtain ⟨x, hx, -⟩ := spH_e h; exact ⟨_, _, d_M_I_e hx⟩) h1 gw_1101 gw_1102 gw_75 gw_1103 (by decide +kernel) hF hL
