/-! a ward taken over -/
def ag (f g : Nat → Int32) : Prop := g 6 = f 6 ∧ ∀ k, k < 144 + 5 * mN f → g k = f k
def sp_X2_takeFrom : SP := spH d_K_K (fun x hp => x.1 ≠ x.2 ∧ (hp.1 x.2 4 = 0 ∨ hp.1 x.2 4 = 1)) (fun _ _ => none) (fun x hp => uI (uI (uI (uI (uI hp x.1 0 (hp.1 x.2 0)) x.1 1 (hp.1 x.2 1)) x.1 2 (hp.1 x.2 2)) x.1 3 (hp.1 x.2 3)) x.1 4 (hp.1 x.2 4))
def E_X2_takeFrom : EN := []
set_option maxRecDepth 100000 in
set_option maxHeartbeats 4000000 in
theorem c_X2_takeFrom : Ctr M_X2_takeFrom sp_X2_takeFrom := by
  refine ctr_of (own := RX2) M_X2_takeFrom sp_X2_takeFrom (P := P_X2_takeFrom) (K := K_X2) (E := E_X2_takeFrom) (by decide) rfl pk_X2_takeFrom K_X2_ok (fun _ h => absurd h List.not_mem_nil) (fun as hp Q h => by obtain ⟨x, hx, -⟩ := spH_e h; rw [d_K_K_e hx]; exact Nat.le_of_ble_eq_true rfl) ?_
  intro Q G hQi hG as hp h
  obtain ⟨x, hx, hpre, hQ⟩ := spH_e h
  rw [d_K_K_e hx]
  clear h hx
  obtain ⟨a, b⟩ := x
  try dsimp only at hpre hQ ⊢
  have hab : b ≠ a := fun h => hpre.1 h.symm
  have h4 : hp.1 b 4 = 0 ∨ hp.1 b 4 = 1 := hpre.2
  have er : ∀ (H : HP) k v, (uI H a k v).1 b = H.1 b := fun H k v => uI_row _ _ _ hab
  refine run hG [] 60 ?_
  refine And.intro ?_ ?_
  · show (uI (uI (uI (uI hp a 0 _) a 1 _) a 2 _) a 3 _).1 b 4 = 0 ∨ (uI (uI (uI (uI hp a 0 _) a 1 _) a 2 _) a 3 _).1 b 4 = 1
    rw [er, er, er, er]
    exact h4
  · refine q_n hQ ?_
    show uI (uI (uI (uI (uI hp a 0 (hp.1 b 0)) a 1 ((uI hp a 0 (hp.1 b 0)).1 b 1)) a 2 _) a 3 _) a 4 _ = _
    simp only [er]
theorem sc_X2_takeFrom {own : String} {F L idx : Nat} (h1 : Cond.methodLink own idx yX2_takeFrom ∈ Gw) (hF : 1 ≤ F) (hL : 21 ≤ L) : SC own F L (idx, false, 2, sp_X2_takeFrom) := SC_V spH_mono c_X2_takeFrom okd_2 (fun as hp K h => by obtain ⟨x, hx, -⟩ := spH_e h; exact ⟨_, _, d_K_K_e hx⟩) h1 gw_505 gw_506 gw_72 gw_507 (by decide +kernel) hF hL
