def cpR (c : Nat → Int64) (a b n : Nat) : Nat → Int64 := filA (fun j => c (a + (j - b))) c b n
def cpC (s u t v n : Int32) (hp : HP) : Prop := 0 ≤ n ∧ 0 ≤ u ∧ 0 ≤ v ∧ u ≤ hp.1 64 s.toNatClampNeg - n ∧ v ≤ hp.1 64 t.toNatClampNeg - n
def F_copy (s u t v n : Int32) (hp : HP) : Int32 × HP := if inB s 4 = true ∧ inB t 4 = true then (if hp.1 63 s.toNatClampNeg = 0 ∨ hp.1 63 t.toNatClampNeg = 0 then noP hp 5 else (if hp.1 63 s.toNatClampNeg = hp.1 63 t.toNatClampNeg then (if 0 ≤ n ∧ 0 ≤ u ∧ 0 ≤ v ∧ u ≤ hp.1 64 s.toNatClampNeg - n ∧ v ≤ hp.1 64 t.toNatClampNeg - n then (n, rL hp 65 (cpR (hp.2 65) (40 * s.toNatClampNeg + u.toNatClampNeg) (40 * t.toNatClampNeg + v.toNatClampNeg) n.toNatClampNeg)) else noP hp 0) else noP hp 2)) else noP hp 0
theorem run_in {u n : Int32} {l : Nat} (hl : l ≤ 40) (hu : 0 ≤ u) (hn : 0 ≤ n) (h : u ≤ nI l - n) : ∃ a b, a + b ≤ l ∧ u = nI a ∧ n = nI b := by
  have h1 := Int32.le_iff_toInt_le.mp hu
  have h2 := Int32.le_iff_toInt_le.mp hn
  have h3 := Int32.le_iff_toInt_le.mp h
  have e0 : (0 : Int32).toInt = 0 := rfl
  have e1 : (nI l - n).toInt = (l : Int) - n.toInt := by
    rw [Int32.toInt_sub, nI_toInt (by omega)]
    have h4 := n.toInt_lt
    rw [Int.bmod_eq_of_le (by omega) (by omega)]
  rw [e1] at h3
  have a : vp_in u 41 := vp_in_iff.mpr (by omega)
  have b : vp_in n 41 := vp_in_iff.mpr (by omega)
  obtain ⟨i, hi, rfl⟩ := vp_in_of a (by omega)
  obtain ⟨j, hj, rfl⟩ := vp_in_of b (by omega)
  rw [nI_toInt (by omega), nI_toInt (by omega)] at h3
  exact ⟨i, j, by omega, rfl, rfl⟩
def sp_X5_copy : SP := spF d_M_IIIII (fun _ hp => lnOK hp) (fun x hp v hq => v = some (vI (F_copy x.1 x.2.1 x.2.2.1 x.2.2.2.1 x.2.2.2.2 hp).1) ∧ ∃ g, hq = rL (F_copy x.1 x.2.1 x.2.2.1 x.2.2.2.1 x.2.2.2.2 hp).2 66 g)
def E_X5_copy : EN := [(314, true, 1, sp_X5_isSheet), (79, false, 2, sp_X5_no)]
set_option maxRecDepth 100000 in
set_option maxHeartbeats 4000000 in
theorem c_X5_copy : Ctr M_X5_copy sp_X5_copy := by
  refine ctr_of (own := RX5) M_X5_copy sp_X5_copy (P := P_X5_copy) (K := K_X5) (E := E_X5_copy) (by decide) rfl pk_X5_copy K_X5_ok (List.forall_mem_cons.mpr ⟨sc_X5_isSheet gw_1255 (by decide) (by decide), List.forall_mem_cons.mpr ⟨sc_X5_no gw_895 (by decide) (by decide), fun _ h => absurd h List.not_mem_nil⟩⟩) (fun as hp Q h => by obtain ⟨x, hx, -⟩ := spF_e h; rw [d_M_IIIII_e hx]; exact Nat.le_of_ble_eq_true rfl) ?_
  intro Q G hQi hG as hp h
  obtain ⟨x, hx, hpre, hQ⟩ := spF_e h
  rw [d_M_IIIII_e hx]
  clear h hx
  obtain ⟨s, u, t, v, n⟩ := x
  try dsimp only at hpre hQ ⊢
  have fin : ∀ p, F_copy s u t v n hp = p → Q (some (vI p.1)) p.2 := fun p e => hQ _ _ ⟨by rw [e], p.2.2 66, by rw [e, rL_self]⟩
  refine run hG [115, 152] 60 ?_
  refine And.intro trivial ?_
  refine And.intro (fun h1 => ?_) (fun h1 => ?_)
  case refine_1 =>
    have h1 : inB s 4 = false := bB_0.mp h1
    exact And.intro (vp_in_nI (by omega) (by omega)) (fin _ (if_neg (fun h => by rw [h1] at h; exact absurd h.1 (by decide))))
  have h1 : inB s 4 = true := bB_1.mp h1
  refine And.intro trivial ?_
  refine And.intro (fun h2 => ?_) (fun h2 => ?_)
  case refine_2 =>
    have h2 : inB t 4 = false := bB_0.mp h2
    exact And.intro (vp_in_nI (by omega) (by omega)) (fin _ (if_neg (fun h => by rw [h2] at h; exact absurd h.2 (by decide))))
  have h2 : inB t 4 = true := bB_1.mp h2
  have hF : F_copy s u t v n hp = _ := if_pos ⟨h1, h2⟩
  have hs := inB_t.mp h1
  have ht := inB_t.mp h2
  have ls := hpre.at (ix_lt hs)
  have lt := hpre.at (ix_lt ht)
  refine And.intro hs ?_
  refine And.intro (fun h3 => ?_) (fun h3 => ?_)
  case refine_1 =>
    have h3 : hp.1 63 s.toNatClampNeg = 0 := h3
    rw [if_pos (Or.inl h3)] at hF
    exact And.intro (vp_in_nI (by omega) (by omega)) (fin _ hF)
  have h3 : ¬ hp.1 63 s.toNatClampNeg = 0 := h3
  refine And.intro ht ?_
  refine And.intro (fun h4 => ?_) (fun h4 => ?_)
  case refine_2 =>
    have h4 : hp.1 63 t.toNatClampNeg = 0 := h4
    rw [if_pos (Or.inr h4)] at hF
    exact And.intro (vp_in_nI (by omega) (by omega)) (fin _ hF)
  have h4 : ¬ hp.1 63 t.toNatClampNeg = 0 := h4
  rw [if_neg (fun h => h.elim h3 h4)] at hF
  refine And.intro hs ?_
  refine And.intro ht ?_
  refine And.intro (fun h5 => ?_) (fun h5 => ?_)
  case refine_2 =>
    have h5 : ¬ hp.1 63 s.toNatClampNeg = hp.1 63 t.toNatClampNeg := h5
    rw [if_neg h5] at hF
    exact And.intro (vp_in_nI (by omega) (by omega)) (fin _ hF)
  have h5 : hp.1 63 s.toNatClampNeg = hp.1 63 t.toNatClampNeg := h5
  rw [if_pos h5] at hF
  have no : ¬ (0 ≤ n ∧ 0 ≤ u ∧ 0 ≤ v ∧ u ≤ hp.1 64 s.toNatClampNeg - n ∧ v ≤ hp.1 64 t.toNatClampNeg - n) → Q (some (vI (noP hp 0).1)) (noP hp 0).2 := fun h => by
    rw [if_neg h] at hF
    exact fin _ hF
  refine And.intro (fun h6 => And.intro (vp_in_nI (by omega) (by omega)) (no (fun h => Int32.not_lt.mpr h.1 h6))) (fun h6 => ?_)
  refine And.intro (fun h7 => And.intro (vp_in_nI (by omega) (by omega)) (no (fun h => Int32.not_lt.mpr h.2.1 h7))) (fun h7 => ?_)
  refine And.intro (fun h8 => And.intro (vp_in_nI (by omega) (by omega)) (no (fun h => Int32.not_lt.mpr h.2.2.1 h8))) (fun h8 => ?_)
  refine And.intro hs ?_
  refine And.intro (fun h9 => And.intro (vp_in_nI (by omega) (by omega)) (no (fun h => Int32.not_lt.mpr h.2.2.2.1 h9))) (fun h9 => ?_)
  refine And.intro ht ?_
  refine And.intro (fun h10 => ?_) (fun h10 => And.intro (vp_in_nI (by omega) (by omega)) (no (fun h => h10 h.2.2.2.2)))
  have h6 : 0 ≤ n := Int32.not_lt.mp h6
  have h7 : 0 ≤ u := Int32.not_lt.mp h7
  have h8 : 0 ≤ v := Int32.not_lt.mp h8
  have h9 : u ≤ hp.1 64 s.toNatClampNeg - n := Int32.not_lt.mp h9
  have h10 : v ≤ hp.1 64 t.toNatClampNeg - n := h10
  rw [if_pos ⟨h6, h7, h8, h9, h10⟩] at hF
  rw [ls.2] at h9
  rw [lt.2] at h10
  obtain ⟨U, N, hUN, eU, eN⟩ := run_in ls.1 h7 h6 h9
  obtain ⟨V, N2, hVN, eV, eN2⟩ := run_in lt.1 h8 h6 h10
  have ls1 := ls.1
  have lt1 := lt.1
  have eNN : N = N2 := (nI_eq (by omega) (by omega)).mp (eN.symm.trans eN2)
  subst eNN
  obtain ⟨S, hS, eS⟩ := vp_in_of hs (by omega)
  obtain ⟨T, hT, eT⟩ := vp_in_of ht (by omega)
  have eSx : s.toNatClampNeg = S := by rw [eS, nI_clamp (by omega)]
  have eTx : t.toNatClampNeg = T := by rw [eT, nI_clamp (by omega)]
  rw [eSx, eTx, show u.toNatClampNeg = U by rw [eU, nI_clamp (by omega)], show v.toNatClampNeg = V by rw [eV, nI_clamp (by omega)], show n.toNatClampNeg = N by rw [eN, nI_clamp (by omega)]] at hF
  have eA : ∀ k, nI 40 * s + u + nI k = nI (40 * S + U + k) := fun k => by rw [eS, eU, sh_ix, nI_add]
  have eB : ∀ k, nI 40 * t + v + nI k = nI (40 * T + V + k) := fun k => by rw [eT, eV, sh_ix, nI_add]
  generalize hA : 40 * S + U = A at hF eA
  generalize hB : 40 * T + V = B at hF eB
  generalize hC : hp.2 65 = C at hF
  have lay := for_up (P := fun k => G 152 [(6, vI (nI k)), (0, vR 5 52), (1, vI s), (2, vI u), (3, vI t), (4, vI v), (5, vI n)] [] (rL (rL hp 66 (filL (fun j => C (A + j)) (hp.2 66) N)) 65 (filA (fun j => C (A + (j - B))) C B k))) N (by
    refine run hG [152] 60 ?_
    refine And.intro (fun h => ?_) (fun h => absurd (show n ≤ nI N by rw [eN]; exact nI_le (Nat.le_refl _) (by omega)) h)
    refine hQ _ _ ⟨by rw [hF], filL (fun j => C (A + j)) (hp.2 66) N, ?_⟩
    rw [hF]
    exact rL_comm _ _ _ (by omega)) (by
    intro k hk ih
    rw [← filA_s] at ih
    have e2 : (rL (rL hp 66 (filL (fun j => C (A + j)) (hp.2 66) N)) 65 (filA (fun j => C (A + (j - B))) C B k)).2 66 (nI k).toNatClampNeg = C (A + (B + k - B)) := by
      rw [rL_ne _ _ (by omega), rL_eq, nI_clamp (by omega), filL_all k hk, show B + k - B = k by omega]
    refine run hG [152] 60 ?_
    refine And.intro (fun h => absurd (show nI N ≤ nI k by rw [← eN]; exact h) (nI_ge hk (by omega))) (fun h => ?_)
    refine And.intro (vp_in_nI (by omega) (by omega)) ?_
    refine And.intro (show vp_in (nI 40 * t + v + nI k) 160 by rw [eB]; exact vp_in_nI (by omega) (by omega)) ?_
    refine cl_lv hG [(6, vI (nI k + nI 1)), (0, vR 5 52), (1, vI s), (2, vI u), (3, vI t), (4, vI v), (5, vI n)] ⟨rfl, rfl, rfl, rfl, rfl, rfl, rfl, trivial⟩ ?_
    rw [nI_s]
    show G 152 _ [] (uL (rL (rL hp 66 (filL (fun j => C (A + j)) (hp.2 66) N)) 65 (filA (fun j => C (A + (j - B))) C B k)) 65 (nI 40 * t + v + nI k).toNatClampNeg ((rL (rL hp 66 (filL (fun j => C (A + j)) (hp.2 66) N)) 65 (filA (fun j => C (A + (j - B))) C B k)).2 66 (nI k).toNatClampNeg))
    rw [e2, eB, nI_clamp (by omega), uL_rL]
    exact ih) 0 (by omega)
  rw [filA_0, rL_id (show (rL hp 66 (filL (fun j => C (A + j)) (hp.2 66) N)).2 65 = C by rw [rL_ne _ _ (by omega)]; exact hC)] at lay
  have get := for_up (P := fun k => G 115 [(6, vI (nI k)), (0, vR 5 52), (1, vI s), (2, vI u), (3, vI t), (4, vI v), (5, vI n)] [] (rL hp 66 (filL (fun j => C (A + j)) (hp.2 66) k))) N (by
    refine run hG [115, 152] 60 ?_
    refine And.intro (fun h => ?_) (fun h => absurd (show n ≤ nI N by rw [eN]; exact nI_le (Nat.le_refl _) (by omega)) h)
    exact cl_use hG lay ⟨rfl, rfl, rfl, rfl, rfl, rfl, rfl, trivial⟩) (by
    intro k hk ih
    rw [← filL_s] at ih
    refine run hG [115, 152] 60 ?_
    refine And.intro (fun h => absurd (show nI N ≤ nI k by rw [← eN]; exact h) (nI_ge hk (by omega))) (fun h => ?_)
    refine And.intro (show vp_in (nI 40 * s + u + nI k) 160 by rw [eA]; exact vp_in_nI (by omega) (by omega)) ?_
    refine And.intro (vp_in_nI (by omega) (by omega)) ?_
    refine cl_lv hG [(6, vI (nI k + nI 1)), (0, vR 5 52), (1, vI s), (2, vI u), (3, vI t), (4, vI v), (5, vI n)] ⟨rfl, rfl, rfl, rfl, rfl, rfl, rfl, trivial⟩ ?_
    rw [nI_s]
    show G 115 _ [] (uL (rL hp 66 (filL (fun j => C (A + j)) (hp.2 66) k)) 66 (nI k).toNatClampNeg ((rL hp 66 (filL (fun j => C (A + j)) (hp.2 66) k)).2 65 (nI 40 * s + u + nI k).toNatClampNeg))
    rw [rL_ne _ _ (by omega), hC, eA, nI_clamp (by omega), nI_clamp (by omega), uL_rL]
    exact ih) 0 (by omega)
  rw [filL_0, rL_self] at get
  exact cl_use hG get ⟨rfl, rfl, rfl, rfl, rfl, rfl, rfl, trivial⟩
theorem sc_X5_copy {own : String} {F L idx : Nat} (h1 : Cond.methodLink own idx yX5_copy ∈ Gw) (hF : 3 ≤ F) (hL : 68 ≤ L) : SC own F L (idx, false, 6, sp_X5_copy) := SC_V spF_mono c_X5_copy okd_5 (fun as hp K h => by obtain ⟨x, hx, -⟩ := spF_e h; exact ⟨_, _, d_M_IIIII_e hx⟩) h1 gw_1267 gw_1268 gw_75 gw_1269 (by decide +kernel) hF hL
