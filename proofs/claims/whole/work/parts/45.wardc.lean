def sp_X3_isShut : SP := spP d_W_I (fun x _ => vp_in x.2 50) (fun x hp => vI (bJ (hp.2 x.1 0) x.2.toNatClampNeg))
def E_X3_isShut : EN := []
set_option maxRecDepth 100000 in
set_option maxHeartbeats 4000000 in
theorem c_X3_isShut : Ctr M_X3_isShut sp_X3_isShut := by
  refine ctr_of (own := RX3) M_X3_isShut sp_X3_isShut (P := P_X3_isShut) (K := K_X3) (E := E_X3_isShut) (by decide) rfl pk_X3_isShut K_X3_ok (fun _ h => absurd h List.not_mem_nil) (fun as hp Q h => by obtain ⟨x, hx, -⟩ := spP_e h; rw [d_W_I_e hx]; exact Nat.le_of_ble_eq_true rfl) ?_
  intro Q G hQi hG as hp h
  obtain ⟨x, hx, hpre, hQ⟩ := spP_e h
  rw [d_W_I_e hx]
  clear h hx
  obtain ⟨w, d⟩ := x
  try dsimp only at hpre hQ ⊢
  obtain ⟨d, hd, rfl⟩ := vp_in_of hpre (by omega)
  rw [nI_clamp (by omega)] at hQ
  unfold bJ at hQ
  refine run hG [] 60 ?_
  refine And.intro (fun h1 => ?_) (fun h1 => ?_)
  · have h1 : lg_cmp (sJ (hp.2 w 0) d) (lN 0) = 0 := h1
    rw [lg_cmp_eq] at h1
    rw [if_pos h1] at hQ
    exact And.intro (Or.inl rfl) hQ
  · have h1 : ¬ lg_cmp (sJ (hp.2 w 0) d) (lN 0) = 0 := h1
    rw [lg_cmp_eq] at h1
    rw [if_neg h1] at hQ
    exact And.intro (Or.inr rfl) hQ
theorem sc_X3_isShut {own : String} {F L idx : Nat} (h1 : Cond.methodLink own idx yX3_isShut ∈ Gw) (hF : 1 ≤ F) (hL : 21 ≤ L) : SC own F L (idx, false, 2, sp_X3_isShut) := SC_V spP_mono c_X3_isShut okd_1 (fun as hp K h => by obtain ⟨x, hx, -⟩ := spP_e h; exact ⟨_, _, d_W_I_e hx⟩) h1 gw_307 gw_308 gw_70 gw_309 (by decide +kernel) hF hL
def shP (x : Int64) (d : Nat) (o : Int32) : Int64 := if o = 0 then x ||| lN 1 <<< ((nI d).toInt64 &&& 63) else x &&& (lN 1 <<< ((nI d).toInt64 &&& 63) ^^^ -1)
theorem shP_bit (x : Int64) {q d : Nat} (o : Int32) (hq : q < 50) (hd : d < 50) : bJ (shP x q o) d = if d = q then opV o else bJ x d := by
  unfold shP opV
  by_cases h : o = 0
  · rw [if_pos h, if_pos h, bJ_or x hq hd]
  · rw [if_neg h, if_neg h, bJ_an x hq hd]
def sp_X3_putDoor : SP := spH d_W_II (fun x _ => vp_in x.2.1 50) (fun x hp => some (vI (if bJ (hp.2 x.1 0) x.2.1.toNatClampNeg = x.2.2 then nI 1 else nI 0))) (fun x hp => uL hp x.1 0 (shP (hp.2 x.1 0) x.2.1.toNatClampNeg x.2.2))
def E_X3_putDoor : EN := [(89, false, 2, sp_X3_isShut)]
set_option maxRecDepth 100000 in
set_option maxHeartbeats 4000000 in
theorem c_X3_putDoor : Ctr M_X3_putDoor sp_X3_putDoor := by
  refine ctr_of (own := RX3) M_X3_putDoor sp_X3_putDoor (P := P_X3_putDoor) (K := K_X3) (E := E_X3_putDoor) (by decide) rfl pk_X3_putDoor K_X3_ok (List.forall_mem_cons.mpr ⟨sc_X3_isShut gw_306 (by decide) (by decide), fun _ h => absurd h List.not_mem_nil⟩) (fun as hp Q h => by obtain ⟨x, hx, -⟩ := spH_e h; rw [d_W_II_e hx]; exact Nat.le_of_ble_eq_true rfl) ?_
  intro Q G hQi hG as hp h
  obtain ⟨x, hx, hpre, hQ⟩ := spH_e h
  rw [d_W_II_e hx]
  clear h hx
  obtain ⟨w, d, o⟩ := x
  try dsimp only at hpre hQ ⊢
  have hd0 := hpre
  obtain ⟨d, hd, rfl⟩ := vp_in_of hpre (by omega)
  rw [nI_clamp (by omega)] at hQ
  have ed : (nI d).toNatClampNeg = d := nI_clamp (by omega)
  unfold shP at hQ
  refine run hG [] 60 ?_
  refine And.intro hd0 ?_
  refine And.intro (fun h1 => ?_) (fun h1 => ?_)
  · have h1 : ¬ bJ (hp.2 w 0) (nI d).toNatClampNeg = o := h1
    rw [ed] at h1
    rw [if_neg h1] at hQ
    refine And.intro (fun h2 => ?_) (fun h2 => ?_)
    · rw [if_pos h2] at hQ
      exact And.intro (Or.inl rfl) hQ
    · rw [if_neg h2] at hQ
      exact And.intro (Or.inl rfl) hQ
  · have h1 : bJ (hp.2 w 0) (nI d).toNatClampNeg = o := h1
    rw [ed] at h1
    rw [if_pos h1] at hQ
    refine And.intro (fun h2 => ?_) (fun h2 => ?_)
    · rw [if_pos h2] at hQ
      exact And.intro (Or.inr rfl) hQ
    · rw [if_neg h2] at hQ
      exact And.intro (Or.inr rfl) hQ
theorem sc_X3_putDoor {own : String} {F L idx : Nat} (h1 : Cond.methodLink own idx yX3_putDoor ∈ Gw) (hF : 2 ≤ F) (hL : 44 ≤ L) : SC own F L (idx, false, 3, sp_X3_putDoor) := SC_V spH_mono c_X3_putDoor okd_1 (fun as hp K h => by obtain ⟨x, hx, -⟩ := spH_e h; exact ⟨_, _, d_W_II_e hx⟩) h1 gw_303 gw_304 gw_70 gw_305 (by decide +kernel) hF hL
def bitP (x : Int32) (d : Nat) (o : Int32) : Int32 := if o = 0 then x &&& (nI 1 <<< (nI d &&& 31) ^^^ -1) else x ||| nI 1 <<< (nI d &&& 31)
def fl01 (o : Int32) : Int32 := if o = 0 then nI 0 else nI 1
theorem bitP_bit (x : Int32) {q d : Nat} (o : Int32) (hq : q < 25) (hd : d < 25) : bI (bitP x q o) d = if d = q then fl01 o else bI x d := by
  unfold bitP fl01
  by_cases h : o = 0
  · rw [if_pos h, if_pos h, bI_an x hq hd]
  · rw [if_neg h, if_neg h, bI_or x hq hd]
def sp_X3_hasLamp : SP := spP d_W_I (fun x _ => vp_in x.2 25) (fun x hp => vI (bI (hp.1 x.1 2) x.2.toNatClampNeg))
def E_X3_hasLamp : EN := []
set_option maxRecDepth 100000 in
set_option maxHeartbeats 4000000 in
theorem c_X3_hasLamp : Ctr M_X3_hasLamp sp_X3_hasLamp := by
  refine ctr_of (own := RX3) M_X3_hasLamp sp_X3_hasLamp (P := P_X3_hasLamp) (K := K_X3) (E := E_X3_hasLamp) (by decide) rfl pk_X3_hasLamp K_X3_ok (fun _ h => absurd h List.not_mem_nil) (fun as hp Q h => by obtain ⟨x, hx, -⟩ := spP_e h; rw [d_W_I_e hx]; exact Nat.le_of_ble_eq_true rfl) ?_
  intro Q G hQi hG as hp h
  obtain ⟨x, hx, hpre, hQ⟩ := spP_e h
  rw [d_W_I_e hx]
  clear h hx
  obtain ⟨w, d⟩ := x
  try dsimp only at hpre hQ ⊢
  obtain ⟨d, hd, rfl⟩ := vp_in_of hpre (by omega)
  rw [nI_clamp (by omega)] at hQ
  have h01 := bI_01 (hp.1 w 2) (d := d) (by omega)
  refine run hG [] 60 ?_
  refine And.intro (fun h1 => ?_) (fun h1 => ?_)
  · have h1 : bI (hp.1 w 2) d = 0 := h1
    rw [h1] at hQ
    exact And.intro (Or.inl rfl) hQ
  · have h1 : ¬ bI (hp.1 w 2) d = 0 := h1
    rw [h01.resolve_left h1] at hQ
    exact And.intro (Or.inr rfl) hQ
theorem sc_X3_hasLamp {own : String} {F L idx : Nat} (h1 : Cond.methodLink own idx yX3_hasLamp ∈ Gw) (hF : 1 ≤ F) (hL : 21 ≤ L) : SC own F L (idx, false, 2, sp_X3_hasLamp) := SC_V spP_mono c_X3_hasLamp okd_1 (fun as hp K h => by obtain ⟨x, hx, -⟩ := spP_e h; exact ⟨_, _, d_W_I_e hx⟩) h1 gw_330 gw_331 gw_70 gw_332 (by decide +kernel) hF hL
def sp_X3_putLamp : SP := spH d_W_II (fun x _ => vp_in x.2.1 25) (fun x hp => some (vI (if bI (hp.1 x.1 2) x.2.1.toNatClampNeg = x.2.2 then nI 0 else nI 1))) (fun x hp => uI hp x.1 2 (bitP (hp.1 x.1 2) x.2.1.toNatClampNeg x.2.2))
def E_X3_putLamp : EN := [(94, false, 2, sp_X3_hasLamp)]
set_option maxRecDepth 100000 in
set_option maxHeartbeats 4000000 in
theorem c_X3_putLamp : Ctr M_X3_putLamp sp_X3_putLamp := by
  refine ctr_of (own := RX3) M_X3_putLamp sp_X3_putLamp (P := P_X3_putLamp) (K := K_X3) (E := E_X3_putLamp) (by decide) rfl pk_X3_putLamp K_X3_ok (List.forall_mem_cons.mpr ⟨sc_X3_hasLamp gw_329 (by decide) (by decide), fun _ h => absurd h List.not_mem_nil⟩) (fun as hp Q h => by obtain ⟨x, hx, -⟩ := spH_e h; rw [d_W_II_e hx]; exact Nat.le_of_ble_eq_true rfl) ?_
  intro Q G hQi hG as hp h
  obtain ⟨x, hx, hpre, hQ⟩ := spH_e h
  rw [d_W_II_e hx]
  clear h hx
  obtain ⟨w, d, o⟩ := x
  try dsimp only at hpre hQ ⊢
  have hd0 := hpre
  obtain ⟨d, hd, rfl⟩ := vp_in_of hpre (by omega)
  rw [nI_clamp (by omega)] at hQ
  have ed : (nI d).toNatClampNeg = d := nI_clamp (by omega)
  unfold bitP at hQ
  refine run hG [] 60 ?_
  refine And.intro hd0 ?_
  refine And.intro (fun h1 => ?_) (fun h1 => ?_)
  · have h1 : bI (hp.1 w 2) (nI d).toNatClampNeg = o := h1
    rw [ed] at h1
    rw [if_pos h1] at hQ
    refine And.intro (fun h2 => ?_) (fun h2 => ?_)
    · rw [if_pos h2] at hQ
      exact And.intro (Or.inl rfl) hQ
    · rw [if_neg h2] at hQ
      exact And.intro (Or.inl rfl) hQ
  · have h1 : ¬ bI (hp.1 w 2) (nI d).toNatClampNeg = o := h1
    rw [ed] at h1
    rw [if_neg h1] at hQ
    refine And.intro (fun h2 => ?_) (fun h2 => ?_)
    · rw [if_pos h2] at hQ
      exact And.intro (Or.inr rfl) hQ
    · rw [if_neg h2] at hQ
      exact And.intro (Or.inr rfl) hQ
theorem sc_X3_putLamp {own : String} {F L idx : Nat} (h1 : Cond.methodLink own idx yX3_putLamp ∈ Gw) (hF : 2 ≤ F) (hL : 44 ≤ L) : SC own F L (idx, false, 3, sp_X3_putLamp) := SC_V spH_mono c_X3_putLamp okd_1 (fun as hp K h => by obtain ⟨x, hx, -⟩ := spH_e h; exact ⟨_, _, d_W_II_e hx⟩) h1 gw_326 gw_327 gw_70 gw_328 (by decide +kernel) hF hL
def sp_X3_isRiver : SP := spP d_W_I (fun x _ => vp_in x.2 25) (fun x hp => vI (bI (hp.1 x.1 3) x.2.toNatClampNeg))
def E_X3_isRiver : EN := []
set_option maxRecDepth 100000 in
set_option maxHeartbeats 4000000 in
theorem c_X3_isRiver : Ctr M_X3_isRiver sp_X3_isRiver := by
  refine ctr_of (own := RX3) M_X3_isRiver sp_X3_isRiver (P := P_X3_isRiver) (K := K_X3) (E := E_X3_isRiver) (by decide) rfl pk_X3_isRiver K_X3_ok (fun _ h => absurd h List.not_mem_nil) (fun as hp Q h => by obtain ⟨x, hx, -⟩ := spP_e h; rw [d_W_I_e hx]; exact Nat.le_of_ble_eq_true rfl) ?_
  intro Q G hQi hG as hp h
  obtain ⟨x, hx, hpre, hQ⟩ := spP_e h
  rw [d_W_I_e hx]
  clear h hx
  obtain ⟨w, d⟩ := x
  try dsimp only at hpre hQ ⊢
  obtain ⟨d, hd, rfl⟩ := vp_in_of hpre (by omega)
  rw [nI_clamp (by omega)] at hQ
  have h01 := bI_01 (hp.1 w 3) (d := d) (by omega)
  refine run hG [] 60 ?_
  refine And.intro (fun h1 => ?_) (fun h1 => ?_)
  · have h1 : bI (hp.1 w 3) d = 0 := h1
    rw [h1] at hQ
    exact And.intro (Or.inl rfl) hQ
  · have h1 : ¬ bI (hp.1 w 3) d = 0 := h1
    rw [h01.resolve_left h1] at hQ
    exact And.intro (Or.inr rfl) hQ
theorem sc_X3_isRiver {own : String} {F L idx : Nat} (h1 : Cond.methodLink own idx yX3_isRiver ∈ Gw) (hF : 1 ≤ F) (hL : 21 ≤ L) : SC own F L (idx, false, 2, sp_X3_isRiver) := SC_V spP_mono c_X3_isRiver okd_1 (fun as hp K h => by obtain ⟨x, hx, -⟩ := spP_e h; exact ⟨_, _, d_W_I_e hx⟩) h1 gw_338 gw_339 gw_70 gw_340 (by decide +kernel) hF hL
def sp_X3_putRiver : SP := spH d_W_II (fun x _ => vp_in x.2.1 25) (fun x hp => some (vI (if bI (hp.1 x.1 3) x.2.1.toNatClampNeg = x.2.2 then nI 0 else nI 1))) (fun x hp => uI hp x.1 3 (bitP (hp.1 x.1 3) x.2.1.toNatClampNeg x.2.2))
def E_X3_putRiver : EN := [(97, false, 2, sp_X3_isRiver)]
set_option maxRecDepth 100000 in
set_option maxHeartbeats 4000000 in
theorem c_X3_putRiver : Ctr M_X3_putRiver sp_X3_putRiver := by
  refine ctr_of (own := RX3) M_X3_putRiver sp_X3_putRiver (P := P_X3_putRiver) (K := K_X3) (E := E_X3_putRiver) (by decide) rfl pk_X3_putRiver K_X3_ok (List.forall_mem_cons.mpr ⟨sc_X3_isRiver gw_337 (by decide) (by decide), fun _ h => absurd h List.not_mem_nil⟩) (fun as hp Q h => by obtain ⟨x, hx, -⟩ := spH_e h; rw [d_W_II_e hx]; exact Nat.le_of_ble_eq_true rfl) ?_
  intro Q G hQi hG as hp h
  obtain ⟨x, hx, hpre, hQ⟩ := spH_e h
  rw [d_W_II_e hx]
  clear h hx
  obtain ⟨w, d, o⟩ := x
  try dsimp only at hpre hQ ⊢
  have hd0 := hpre
  obtain ⟨d, hd, rfl⟩ := vp_in_of hpre (by omega)
  rw [nI_clamp (by omega)] at hQ
  have ed : (nI d).toNatClampNeg = d := nI_clamp (by omega)
  unfold bitP at hQ
  refine run hG [] 60 ?_
  refine And.intro hd0 ?_
  refine And.intro (fun h1 => ?_) (fun h1 => ?_)
  · have h1 : bI (hp.1 w 3) (nI d).toNatClampNeg = o := h1
    rw [ed] at h1
    rw [if_pos h1] at hQ
    refine And.intro (fun h2 => ?_) (fun h2 => ?_)
    · rw [if_pos h2] at hQ
      exact And.intro (Or.inl rfl) hQ
    · rw [if_neg h2] at hQ
      exact And.intro (Or.inl rfl) hQ
  · have h1 : ¬ bI (hp.1 w 3) (nI d).toNatClampNeg = o := h1
    rw [ed] at h1
    rw [if_neg h1] at hQ
    refine And.intro (fun h2 => ?_) (fun h2 => ?_)
    · rw [if_pos h2] at hQ
      exact And.intro (Or.inr rfl) hQ
    · rw [if_neg h2] at hQ
      exact And.intro (Or.inr rfl) hQ
theorem sc_X3_putRiver {own : String} {F L idx : Nat} (h1 : Cond.methodLink own idx yX3_putRiver ∈ Gw) (hF : 2 ≤ F) (hL : 44 ≤ L) : SC own F L (idx, false, 3, sp_X3_putRiver) := SC_V spH_mono c_X3_putRiver okd_1 (fun as hp K h => by obtain ⟨x, hx, -⟩ := spH_e h; exact ⟨_, _, d_W_II_e hx⟩) h1 gw_334 gw_335 gw_70 gw_336 (by decide +kernel) hF hL
def sp_X3_emptyRounds : SP := spH d_W (fun _ _ => True) (fun _ _ => none) (fun w hp => uI (uI hp w 9 (nI 0)) w 10 (-1))
def E_X3_emptyRounds : EN := []
set_option maxRecDepth 100000 in
set_option maxHeartbeats 4000000 in
theorem c_X3_emptyRounds : Ctr M_X3_emptyRounds sp_X3_emptyRounds := by
  refine ctr_of (own := RX3) M_X3_emptyRounds sp_X3_emptyRounds (P := P_X3_emptyRounds) (K := K_X3) (E := E_X3_emptyRounds) (by decide) rfl pk_X3_emptyRounds K_X3_ok (fun _ h => absurd h List.not_mem_nil) (fun as hp Q h => by obtain ⟨x, hx, -⟩ := spH_e h; rw [d_W_e hx]; exact Nat.le_of_ble_eq_true rfl) ?_
  intro Q G hQi hG as hp h
  obtain ⟨x, hx, hpre, hQ⟩ := spH_e h
  rw [d_W_e hx]
  clear h hx
  refine run hG [] 60 ?_
  exact hQ
theorem sc_X3_emptyRounds {own : String} {F L idx : Nat} (h1 : Cond.methodLink own idx yX3_emptyRounds ∈ Gw) (hF : 1 ≤ F) (hL : 20 ≤ L) : SC own F L (idx, false, 1, sp_X3_emptyRounds) := SC_V spH_mono c_X3_emptyRounds okd_1 (fun as hp K h => by obtain ⟨x, hx, -⟩ := spH_e h; exact ⟨_, _, d_W_e hx⟩) h1 gw_369 gw_370 gw_70 gw_371 (by decide +kernel) hF hL
def sp_X3_addRound : SP := spH d_W_I (fun x hp => vp_in (hp.1 x.1 9) 12) (fun _ _ => none) (fun x hp => uI (uI hp (x.1 + 2) (hp.1 x.1 9).toNatClampNeg x.2) x.1 9 (hp.1 x.1 9 + nI 1))
def E_X3_addRound : EN := []
set_option maxRecDepth 100000 in
set_option maxHeartbeats 4000000 in
theorem c_X3_addRound : Ctr M_X3_addRound sp_X3_addRound := by
  refine ctr_of (own := RX3) M_X3_addRound sp_X3_addRound (P := P_X3_addRound) (K := K_X3) (E := E_X3_addRound) (by decide) rfl pk_X3_addRound K_X3_ok (fun _ h => absurd h List.not_mem_nil) (fun as hp Q h => by obtain ⟨x, hx, -⟩ := spH_e h; rw [d_W_I_e hx]; exact Nat.le_of_ble_eq_true rfl) ?_
  intro Q G hQi hG as hp h
  obtain ⟨x, hx, hpre, hQ⟩ := spH_e h
  rw [d_W_I_e hx]
  clear h hx
  obtain ⟨w, q⟩ := x
  try dsimp only at hpre hQ ⊢
  refine run hG [] 60 ?_
  refine And.intro hpre ?_
  refine q_n hQ ?_
  show uI (uI hp (w + 2) (hp.1 w 9).toNatClampNeg q) w 9 ((uI hp (w + 2) (hp.1 w 9).toNatClampNeg q).1 w 9 + nI 1) = _
  rw [uI_row _ _ _ (by omega)]
theorem sc_X3_addRound {own : String} {F L idx : Nat} (h1 : Cond.methodLink own idx yX3_addRound ∈ Gw) (hF : 1 ≤ F) (hL : 21 ≤ L) : SC own F L (idx, false, 2, sp_X3_addRound) := SC_V spH_mono c_X3_addRound okd_1 (fun as hp K h => by obtain ⟨x, hx, -⟩ := spH_e h; exact ⟨_, _, d_W_I_e hx⟩) h1 gw_361 gw_362 gw_70 gw_363 (by decide +kernel) hF hL
def adH (hp : HP) (w c : Nat) (k q y : Int32) : HP := uI (uI (uI (uI (uI (uI hp (w + 4 + c) 0 k) (w + 4 + c) 1 q) (w + 4 + c) 2 q) (w + 4 + c) 3 y) (w + 4 + c) 4 (nI 0)) w 12 (nI c + nI 1)
def sp_X3_addWalker : SP := spH d_W_III (fun x hp => vp_in (hp.1 x.1 12) 8) (fun _ _ => none) (fun x hp => adH hp x.1 (hp.1 x.1 12).toNatClampNeg x.2.1 x.2.2.1 x.2.2.2)
def E_X3_addWalker : EN := []
set_option maxRecDepth 100000 in
set_option maxHeartbeats 4000000 in
theorem c_X3_addWalker : Ctr M_X3_addWalker sp_X3_addWalker := by
  refine ctr_of (own := RX3) M_X3_addWalker sp_X3_addWalker (P := P_X3_addWalker) (K := K_X3) (E := E_X3_addWalker) (by decide) rfl pk_X3_addWalker K_X3_ok (fun _ h => absurd h List.not_mem_nil) (fun as hp Q h => by obtain ⟨x, hx, -⟩ := spH_e h; rw [d_W_III_e hx]; exact Nat.le_of_ble_eq_true rfl) ?_
  intro Q G hQi hG as hp h
  obtain ⟨x, hx, hpre, hQ⟩ := spH_e h
  rw [d_W_III_e hx]
  clear h hx
  obtain ⟨w, k, q, y⟩ := x
  try dsimp only at hpre hQ ⊢
  obtain ⟨c, hc, e⟩ := vp_in_of hpre (by omega)
  rw [e, nI_clamp (by omega)] at hQ
  have ec : (hp.1 w 12).toNatClampNeg = c := by rw [e, nI_clamp (by omega)]
  unfold adH at hQ
  refine run hG [] 90 ?_
  refine And.intro hpre ?_
  refine And.intro (Or.inl rfl) ?_
  refine q_n hQ ?_
  show uI (uI (uI (uI (uI (uI hp (w + 3 + 1 + (hp.1 w 12).toNatClampNeg) 0 k) (w + 3 + 1 + (hp.1 w 12).toNatClampNeg) 1 q) (w + 3 + 1 + (hp.1 w 12).toNatClampNeg) 2 q) (w + 3 + 1 + (hp.1 w 12).toNatClampNeg) 3 y) (w + 3 + 1 + (hp.1 w 12).toNatClampNeg) 4 (nI 0)) w 12 ((uI (uI (uI (uI (uI hp (w + 3 + 1 + (hp.1 w 12).toNatClampNeg) 0 k) (w + 3 + 1 + (hp.1 w 12).toNatClampNeg) 1 q) (w + 3 + 1 + (hp.1 w 12).toNatClampNeg) 2 q) (w + 3 + 1 + (hp.1 w 12).toNatClampNeg) 3 y) (w + 3 + 1 + (hp.1 w 12).toNatClampNeg) 4 (nI 0)).1 w 12 + nI 1) = _
  rw [ec, uI_row _ _ _ (by omega), uI_row _ _ _ (by omega), uI_row _ _ _ (by omega), uI_row _ _ _ (by omega), uI_row _ _ _ (by omega), e]
theorem sc_X3_addWalker {own : String} {F L idx : Nat} (h1 : Cond.methodLink own idx yX3_addWalker ∈ Gw) (hF : 1 ≤ F) (hL : 24 ≤ L) : SC own F L (idx, false, 4, sp_X3_addWalker) := SC_V spH_mono c_X3_addWalker okd_1 (fun as hp K h => by obtain ⟨x, hx, -⟩ := spH_e h; exact ⟨_, _, d_W_III_e hx⟩) h1 gw_383 gw_384 gw_70 gw_385 (by decide +kernel) hF hL
def sp_X3_plainStep : SP := spP d_S_II (fun x _ => vp_in x.1 4) (fun x _ => vI (trnV (fun j => decide (bI x.2 j = nI 1)) x.1.toNatClampNeg))
def E_X3_plainStep : EN := []
set_option maxRecDepth 100000 in
set_option maxHeartbeats 4000000 in
theorem c_X3_plainStep : Ctr M_X3_plainStep sp_X3_plainStep := by
  refine ctr_of (own := RX3) M_X3_plainStep sp_X3_plainStep (P := P_X3_plainStep) (K := K_X3) (E := E_X3_plainStep) (by decide) rfl pk_X3_plainStep K_X3_ok (fun _ h => absurd h List.not_mem_nil) (fun as hp Q h => by obtain ⟨x, hx, -⟩ := spP_e h; rw [d_S_II_e hx]; exact Nat.le_of_ble_eq_true rfl) ?_
  intro Q G hQi hG as hp h
  obtain ⟨x, hx, hpre, hQ⟩ := spP_e h
  rw [d_S_II_e hx]
  clear h hx
  obtain ⟨y, s⟩ := x
  try dsimp only at hpre hQ ⊢
  have hy0 : vp_in y 4 := hpre
  obtain ⟨y, hy, rfl⟩ := vp_in_of hy0 (by omega)
  rw [nI_clamp (by omega)] at hQ
  unfold trnV at hQ
  have key := for_up (P := fun k => Q (some (vI (ff (wayB (fun j => decide (bI s j = nI 1)) y) (-1) (4 - k) k))) hp → G 2 [(2, vI (nI k)), (0, vI (nI y)), (1, vI s)] [] hp) 4 (by
    intro hQ
    refine run hG [2] 60 ?_
    exact And.intro (fun h1 => hQ) (fun h1 => absurd (nI_le (Nat.le_refl _) (by omega)) h1)) (by
    intro k hk ih hQ
    have e4 : 4 - k = (4 - (k + 1)) + 1 := by omega
    rw [e4] at hQ
    have ew : nI y + nI k - (nI y + nI k) / nI 4 * nI 4 = nI ((y + k) % 4) := by rw [nI_add]; exact nI_rem (by omega) (by omega) (by omega)
    have hw4 : (y + k) % 4 < 4 := Nat.mod_lt _ (by omega)
    generalize hwe : (y + k) % 4 = w at ew hw4
    have h01 := bI_01 s (d := w) (by omega)
    refine run hG [2] 60 ?_
    refine And.intro (fun h1 => absurd h1 (nI_ge hk (by omega))) (fun h1 => ?_)
    refine And.intro (by decide) ?_
    refine And.intro (fun h2 => ?_) (fun h2 => ?_)
    · have h2 : (s >>> ((nI y + nI k - (nI y + nI k) / nI 4 * nI 4) &&& 31) &&& nI 1) = 0 := h2
      rw [ew] at h2
      have h2 : bI s w = nI 0 := h2
      rw [ff_n (by unfold wayB; rw [hwe]; exact if_neg (by rw [decide_eq_true_iff, h2]; decide))] at hQ
      refine cl_lv hG [(2, vI (nI k + nI 1)), (0, vI (nI y)), (1, vI s)] ⟨rfl, rfl, rfl, trivial⟩ ?_
      rw [nI_s]
      exact ih hQ
    · have h2 : ¬ (s >>> ((nI y + nI k - (nI y + nI k) / nI 4 * nI 4) &&& 31) &&& nI 1) = 0 := h2
      rw [ew] at h2
      have h2 : ¬ bI s w = nI 0 := h2
      have h3 := h01.resolve_left h2
      rw [ff_s (r := nI w) (by unfold wayB; rw [hwe]; exact if_pos (decide_eq_true h3))] at hQ
      exact q_i hQ ew) 0 (by omega) hQ
  refine run hG [2] 60 ?_
  exact cl_use hG key ⟨rfl, rfl, rfl, trivial⟩
theorem sc_X3_plainStep {own : String} {F L idx : Nat} (h1 : Cond.methodLink own idx yX3_plainStep ∈ Gw) (hF : 1 ≤ F) (hL : 23 ≤ L) : SC own F L (idx, true, 2, sp_X3_plainStep) := SC_S spP_mono c_X3_plainStep h1 gw_434 gw_70 gw_435 (by decide +kernel) hF hL
