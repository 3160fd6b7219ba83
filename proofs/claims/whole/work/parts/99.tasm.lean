/-! the two objects as they are made -/
def zr0 : Nat → Int32 := fun _ => nI 0
def wd0 : Nat → Int32 := fun j => ([nI 0, nI 0, nI 0, nI 0, nI 0, nI 0, nI 1, nI 0, nI 0, nI 0, -1, nI 0, nI 0] : List Int32).getD j 0
def ht0 : Nat → Int32 := fun _ => nI 5
def tx0 : Nat → Int32 := fun j => ([nI 0, nI 0, -1, nI 0, nI 0, nI 0, nI 0] : List Int32).getD j 0
def md0 : Nat → Int32 := h5F (upd (upd (fun _ => nI 0) 1 (nI 1)) 4 (-1)) 25
def rows0 : List (Nat → Int32) := [zr0, wd0, ht0, zr0, zr0, zr0, zr0, zr0, zr0, zr0, zr0, zr0, zr0, wd0, ht0, zr0, zr0, zr0, zr0, zr0, zr0, zr0, zr0, zr0, zr0, wd0, ht0, zr0, zr0, zr0, zr0, zr0, zr0, zr0, zr0, zr0, zr0, tx0, zr0, zr0, zr0, zr0, zr0, zr0, zr0, zr0, zr0, zr0, zr0, zr0, zr0, zr0, zr0, md0, zr0, zr0, zr0, zr0, zr0, zr0, zr0, zr0, zr0, zr0, zr0, zr0, zr0]
def hp0 : HP := (fun c => rows0.getD c zr0, fun _ _ => lN 0)
theorem rw0 : ∀ k, k < 184 → rw_ hp0 1 k = md0 k := by decide +kernel
theorem wf0 : WS md0 := by
  refine ⟨⟨⟨0, by omega, rfl, fun w h => absurd h (by omega)⟩, ?_, 0, by omega, rfl, fun k h => absurd h (by omega), Or.inl rfl⟩, Or.inl rfl⟩
  intro k h1 h2
  have e : md0 k = nI 0 := by
    show h5F (upd (upd (fun _ => nI 0) 1 (nI 1)) 4 (-1)) 25 k = nI 0
    unfold h5F
    rw [if_neg (by omega), upd_at, if_neg (by omega), upd_at, if_neg (by omega)]
  rw [e]
  exact vp_in_nI (by omega) (by omega)
theorem hz1 : ∀ d, d < 64 → bJ (hp0.2 1 0) d = nI 0 := by decide +kernel
theorem hz2 : ∀ d, d < 32 → bI (hp0.1 1 2) d = nI 0 ∧ bI (hp0.1 1 3) d = nI 0 := by decide +kernel
theorem hz0 : hiz 1 hp0 := ⟨fun d _ h => hz1 d h, fun d _ h => hz2 d h⟩
theorem rc0 : RC hp0 hp0 := by
  refine ⟨⟨⟨rw0 6 (by omega), fun k hk => ?_⟩, wf0, hz0⟩, ⟨rfl, Or.inl rfl⟩, ⟨fun k hk => rfl, by decide +kernel⟩, ⟨0, by omega, rfl, rfl, fun j hj => absurd hj (by omega)⟩, fun s hs => ?_⟩
  · have h6 : mN (hp0.1 53) = 0 := by decide +kernel
    rw [h6] at hk
    exact rw0 k (by omega)
  · rcases (show s = 0 ∨ s = 1 ∨ s = 2 ∨ s = 3 by omega) with h | h | h | h <;> subst h <;> exact ⟨rfl, rfl, ⟨0, by omega, rfl⟩, by decide +kernel, fun j hj => rfl⟩
theorem ab_of {D : va_G} {ad : Nat → Nat} {cy : Nat → ClassId} {hp : HP} {H : Heap} (h : ∀ c, c < 67 → va_at D vwCl (ad c, ab_ent ad cy hp (kc c) c) H) : va_P D vwCl (ab_w ad cy hp) H := by
  intro k q hq
  unfold ab_w at hq
  rw [List.getElem?_map] at hq
  by_cases hk : k < 67
  · rw [List.getElem?_range hk] at hq
    cases hq
    exact h k hk
  · rw [List.getElem?_eq_none (by rw [List.length_range]; omega)] at hq
    cases hq
theorem inj_of {A : Nat → Prop} {ws : va_W} {ad : Nat → Nat} {pl : List Nat} (hD : va_D A ws) (hl : ws.map (·.1) = pl.map ad) (hp : ∀ c, c < 67 → ∃ i, i < 67 ∧ pl[i]? = some c) : ab_inj ad ∧ ∀ q, ab_A ad q → A q := by
  have key : ∀ c, c < 67 → ∃ (i : Nat) (x : Nat × va_E), pl[i]? = some c ∧ ws[i]? = some x ∧ x.1 = ad c := by
    intro c hc
    obtain ⟨i, -, hi⟩ := hp c hc
    have h1 : (ws.map (·.1))[i]? = some (ad c) := by rw [hl, List.getElem?_map, hi]; rfl
    rw [List.getElem?_map] at h1
    cases hx : ws[i]? with
    | none => rw [hx] at h1; cases h1
    | some x => rw [hx] at h1; exact ⟨i, x, hi, hx, Option.some.inj h1⟩
  refine ⟨fun i j hi hj e => ?_, fun q hq => ?_⟩
  · obtain ⟨i1, x, h0, h1, h2⟩ := key i hi
    obtain ⟨j1, y, g0, h3, h4⟩ := key j hj
    have e2 := hD.1 i1 j1 x y h1 h3 (by rw [h2, h4, e])
    rw [e2, g0] at h0
    exact (Option.some.inj h0).symm
  · obtain ⟨c, hc, rfl⟩ := hq
    obtain ⟨i, x, -, h1, h2⟩ := key c hc
    rw [← h2]
    exact hD.2 i x h1
theorem va_pl1 {D : va_G} {cl : List vw_C} {q : Nat × va_E} {ws : va_W} {H : Heap} (h : va_P D cl (q :: ws) H) : va_at D cl q H ∧ va_P D cl ws H := ⟨h 0 q rfl, fun k p hk => h (k + 1) p hk⟩
def pl0 : List Nat := (0 :: 1 :: 3 :: 4 :: 2 :: 5 :: 6 :: 7 :: 8 :: 9 :: 10 :: 11 :: 12 :: 13 :: 15 :: 16 :: 14 :: 17 :: 18 :: 19 :: 20 :: 21 :: 22 :: 23 :: 24 :: 25 :: 27 :: 28 :: 26 :: 29 :: 30 :: 31 :: 32 :: 33 :: 34 :: 35 :: 36 :: 37 :: 38 :: 39 :: 48 :: 49 :: 50 :: 51 :: 40 :: 44 :: 41 :: 45 :: 42 :: 46 :: 43 :: 47 :: 52 :: 53 :: 54 :: 55 :: 56 :: 57 :: 58 :: 59 :: 60 :: 61 :: 62 :: 63 :: 64 :: 65 :: 66 :: [])
theorem pl0_ok : ∀ c, c < 67 → ∃ i, i < 67 ∧ pl0[i]? = some c := by decide +kernel
set_option maxRecDepth 100000 in
set_option maxHeartbeats 8000000 in
theorem asmD {A : Nat → Prop} {ad : Nat → Nat} {cy : Nat → ClassId} (hD : va_D A (((ad 0), .inr (4, [.ref (ad 1), .ref (ad 13), .ref (ad 25), .int (nI 0), .ref (ad 37), .ref (ad 39), .ref (ad 48), .ref (ad 49), .ref (ad 50), .ref (ad 51), .int (nI 0)])) :: ((ad 1), .inr (3, [.long (lN 0), .ref (ad 2), .int (nI 0), .int (nI 0), .int (nI 0), .int (nI 0), .int (nI 1), .int (nI 0), .ref (ad 3), .int (nI 0), .int (-1), .ref (ad 4), .int (nI 0)])) :: ((ad 3), .inl ((cy 0), 12, .inl (fun _ => nI 0))) :: ((ad 4), .inl ((cy 3), 8, .inr (.inr (.inr (.inr (va_up (va_up (va_up (va_up (va_up (va_up (va_up (va_up (fun _ => none) 0 (some (ad 5))) 1 (some (ad 6))) 2 (some (ad 7))) 3 (some (ad 8))) 4 (some (ad 9))) 5 (some (ad 10))) 6 (some (ad 11))) 7 (some (ad 12)))))))) :: ((ad 2), .inl ((cy 0), 25, .inl (fun _ => nI 5))) :: ((ad 5), .inr (2, [.int (nI 0), .int (nI 0), .int (nI 0), .int (nI 0), .int (nI 0)])) :: ((ad 6), .inr (2, [.int (nI 0), .int (nI 0), .int (nI 0), .int (nI 0), .int (nI 0)])) :: ((ad 7), .inr (2, [.int (nI 0), .int (nI 0), .int (nI 0), .int (nI 0), .int (nI 0)])) :: ((ad 8), .inr (2, [.int (nI 0), .int (nI 0), .int (nI 0), .int (nI 0), .int (nI 0)])) :: ((ad 9), .inr (2, [.int (nI 0), .int (nI 0), .int (nI 0), .int (nI 0), .int (nI 0)])) :: ((ad 10), .inr (2, [.int (nI 0), .int (nI 0), .int (nI 0), .int (nI 0), .int (nI 0)])) :: ((ad 11), .inr (2, [.int (nI 0), .int (nI 0), .int (nI 0), .int (nI 0), .int (nI 0)])) :: ((ad 12), .inr (2, [.int (nI 0), .int (nI 0), .int (nI 0), .int (nI 0), .int (nI 0)])) :: ((ad 13), .inr (3, [.long (lN 0), .ref (ad 14), .int (nI 0), .int (nI 0), .int (nI 0), .int (nI 0), .int (nI 1), .int (nI 0), .ref (ad 15), .int (nI 0), .int (-1), .ref (ad 16), .int (nI 0)])) :: ((ad 15), .inl ((cy 0), 12, .inl (fun _ => nI 0))) :: ((ad 16), .inl ((cy 3), 8, .inr (.inr (.inr (.inr (va_up (va_up (va_up (va_up (va_up (va_up (va_up (va_up (fun _ => none) 0 (some (ad 17))) 1 (some (ad 18))) 2 (some (ad 19))) 3 (some (ad 20))) 4 (some (ad 21))) 5 (some (ad 22))) 6 (some (ad 23))) 7 (some (ad 24)))))))) :: ((ad 14), .inl ((cy 0), 25, .inl (fun _ => nI 5))) :: ((ad 17), .inr (2, [.int (nI 0), .int (nI 0), .int (nI 0), .int (nI 0), .int (nI 0)])) :: ((ad 18), .inr (2, [.int (nI 0), .int (nI 0), .int (nI 0), .int (nI 0), .int (nI 0)])) :: ((ad 19), .inr (2, [.int (nI 0), .int (nI 0), .int (nI 0), .int (nI 0), .int (nI 0)])) :: ((ad 20), .inr (2, [.int (nI 0), .int (nI 0), .int (nI 0), .int (nI 0), .int (nI 0)])) :: ((ad 21), .inr (2, [.int (nI 0), .int (nI 0), .int (nI 0), .int (nI 0), .int (nI 0)])) :: ((ad 22), .inr (2, [.int (nI 0), .int (nI 0), .int (nI 0), .int (nI 0), .int (nI 0)])) :: ((ad 23), .inr (2, [.int (nI 0), .int (nI 0), .int (nI 0), .int (nI 0), .int (nI 0)])) :: ((ad 24), .inr (2, [.int (nI 0), .int (nI 0), .int (nI 0), .int (nI 0), .int (nI 0)])) :: ((ad 25), .inr (3, [.long (lN 0), .ref (ad 26), .int (nI 0), .int (nI 0), .int (nI 0), .int (nI 0), .int (nI 1), .int (nI 0), .ref (ad 27), .int (nI 0), .int (-1), .ref (ad 28), .int (nI 0)])) :: ((ad 27), .inl ((cy 0), 12, .inl (fun _ => nI 0))) :: ((ad 28), .inl ((cy 3), 8, .inr (.inr (.inr (.inr (va_up (va_up (va_up (va_up (va_up (va_up (va_up (va_up (fun _ => none) 0 (some (ad 29))) 1 (some (ad 30))) 2 (some (ad 31))) 3 (some (ad 32))) 4 (some (ad 33))) 5 (some (ad 34))) 6 (some (ad 35))) 7 (some (ad 36)))))))) :: ((ad 26), .inl ((cy 0), 25, .inl (fun _ => nI 5))) :: ((ad 29), .inr (2, [.int (nI 0), .int (nI 0), .int (nI 0), .int (nI 0), .int (nI 0)])) :: ((ad 30), .inr (2, [.int (nI 0), .int (nI 0), .int (nI 0), .int (nI 0), .int (nI 0)])) :: ((ad 31), .inr (2, [.int (nI 0), .int (nI 0), .int (nI 0), .int (nI 0), .int (nI 0)])) :: ((ad 32), .inr (2, [.int (nI 0), .int (nI 0), .int (nI 0), .int (nI 0), .int (nI 0)])) :: ((ad 33), .inr (2, [.int (nI 0), .int (nI 0), .int (nI 0), .int (nI 0), .int (nI 0)])) :: ((ad 34), .inr (2, [.int (nI 0), .int (nI 0), .int (nI 0), .int (nI 0), .int (nI 0)])) :: ((ad 35), .inr (2, [.int (nI 0), .int (nI 0), .int (nI 0), .int (nI 0), .int (nI 0)])) :: ((ad 36), .inr (2, [.int (nI 0), .int (nI 0), .int (nI 0), .int (nI 0), .int (nI 0)])) :: ((ad 37), .inr (1, [.ref (ad 38), .int (nI 0), .int (-1), .int (nI 0), .int (nI 0), .int (nI 0), .int (nI 0)])) :: ((ad 38), .inl ((cy 2), 120, .inl (fun _ => nI 0))) :: ((ad 39), .inl ((cy 4), 4, .inr (.inr (.inr (.inr (va_up (va_up (va_up (va_up (fun _ => none) 0 (some (ad 40))) 1 (some (ad 41))) 2 (some (ad 42))) 3 (some (ad 43)))))))) :: ((ad 48), .inl ((cy 0), 40, .inl (fun _ => nI 0))) :: ((ad 49), .inl ((cy 1), 25, .inr (.inl (fun _ => lN 0)))) :: ((ad 50), .inl ((cy 1), 25, .inr (.inl (fun _ => lN 0)))) :: ((ad 51), .inl ((cy 0), 7, .inl (fun _ => nI 0))) :: ((ad 40), .inr (0, [.int (nI 0), .int (nI 0), .ref (ad 44)])) :: ((ad 44), .inl ((cy 1), 40, .inr (.inl (fun _ => lN 0)))) :: ((ad 41), .inr (0, [.int (nI 0), .int (nI 0), .ref (ad 45)])) :: ((ad 45), .inl ((cy 1), 40, .inr (.inl (fun _ => lN 0)))) :: ((ad 42), .inr (0, [.int (nI 0), .int (nI 0), .ref (ad 46)])) :: ((ad 46), .inl ((cy 1), 40, .inr (.inl (fun _ => lN 0)))) :: ((ad 43), .inr (0, [.int (nI 0), .int (nI 0), .ref (ad 47)])) :: ((ad 47), .inl ((cy 1), 40, .inr (.inl (fun _ => lN 0)))) :: ((ad 52), .inr (5, [.ref (ad 53), .ref (ad 54), .ref (ad 55), .ref (ad 56), .int (nI 0), .ref (ad 57), .ref (ad 58), .ref (ad 59), .ref (ad 60), .ref (ad 61), .ref (ad 62), .int (nI 0), .int (nI 0), .int (nI 0), .int (nI 0), .ref (ad 63), .ref (ad 64), .ref (ad 65), .ref (ad 66)])) :: ((ad 53), .inl ((cy 0), 184, .inl (h5F (upd (upd (fun _ => nI 0) 1 (nI 1)) 4 (-1)) 25))) :: ((ad 54), .inl ((cy 0), 184, .inl (fun _ => nI 0))) :: ((ad 55), .inl ((cy 0), 184, .inl (fun _ => nI 0))) :: ((ad 56), .inl ((cy 0), 184, .inl (fun _ => nI 0))) :: ((ad 57), .inl ((cy 0), 7, .inl (fun _ => nI 0))) :: ((ad 58), .inl ((cy 0), 50, .inl (fun _ => nI 0))) :: ((ad 59), .inl ((cy 0), 8, .inl (fun _ => nI 0))) :: ((ad 60), .inl ((cy 1), 25, .inr (.inl (fun _ => lN 0)))) :: ((ad 61), .inl ((cy 1), 25, .inr (.inl (fun _ => lN 0)))) :: ((ad 62), .inl ((cy 0), 120, .inl (fun _ => nI 0))) :: ((ad 63), .inl ((cy 0), 4, .inl (fun _ => nI 0))) :: ((ad 64), .inl ((cy 0), 4, .inl (fun _ => nI 0))) :: ((ad 65), .inl ((cy 1), 160, .inr (.inl (fun _ => lN 0)))) :: ((ad 66), .inl ((cy 1), 40, .inr (.inl (fun _ => lN 0)))) :: [])) : ab_inj ad ∧ ∀ q, ab_A ad q → A q := inj_of (pl := pl0) hD rfl pl0_ok
set_option maxRecDepth 100000 in
theorem as_0 {D : va_G} {ad : Nat → Nat} {cy : Nat → ClassId} {H : Heap} (h : va_at D vwCl ((ad 0), .inr (4, [.ref (ad 1), .ref (ad 13), .ref (ad 25), .int (nI 0), .ref (ad 37), .ref (ad 39), .ref (ad 48), .ref (ad 49), .ref (ad 50), .ref (ad 51), .int (nI 0)])) H) : va_at D vwCl (ad 0, ab_ent ad cy hp0 (kc 0) 0) H := h
set_option maxRecDepth 100000 in
theorem as_1 {D : va_G} {ad : Nat → Nat} {cy : Nat → ClassId} {H : Heap} (h : va_at D vwCl ((ad 1), .inr (3, [.long (lN 0), .ref (ad 2), .int (nI 0), .int (nI 0), .int (nI 0), .int (nI 0), .int (nI 1), .int (nI 0), .ref (ad 3), .int (nI 0), .int (-1), .ref (ad 4), .int (nI 0)])) H) : va_at D vwCl (ad 1, ab_ent ad cy hp0 (kc 1) 1) H := h
set_option maxRecDepth 100000 in
theorem as_2 {D : va_G} {ad : Nat → Nat} {cy : Nat → ClassId} {H : Heap} (h : va_at D vwCl ((ad 2), .inl ((cy 0), 25, .inl (fun _ => nI 5))) H) : va_at D vwCl (ad 2, ab_ent ad cy hp0 (kc 2) 2) H := h
set_option maxRecDepth 100000 in
theorem as_3 {D : va_G} {ad : Nat → Nat} {cy : Nat → ClassId} {H : Heap} (h : va_at D vwCl ((ad 3), .inl ((cy 0), 12, .inl (fun _ => nI 0))) H) : va_at D vwCl (ad 3, ab_ent ad cy hp0 (kc 3) 3) H := h
set_option maxRecDepth 100000 in
theorem as_4 {D : va_G} {ad : Nat → Nat} {cy : Nat → ClassId} {H : Heap} (h : va_at D vwCl ((ad 4), .inl ((cy 3), 8, .inr (.inr (.inr (.inr (va_up (va_up (va_up (va_up (va_up (va_up (va_up (va_up (fun _ => none) 0 (some (ad 5))) 1 (some (ad 6))) 2 (some (ad 7))) 3 (some (ad 8))) 4 (some (ad 9))) 5 (some (ad 10))) 6 (some (ad 11))) 7 (some (ad 12)))))))) H) : va_at D vwCl (ad 4, ab_ent ad cy hp0 (kc 4) 4) H := by
  have h : H[ad 4]? = some (arrV ((cy 3)) 8 (fun j => va_rf (va_up (va_up (va_up (va_up (va_up (va_up (va_up (va_up (fun _ => none) 0 (some (ad 5))) 1 (some (ad 6))) 2 (some (ad 7))) 3 (some (ad 8))) 4 (some (ad 9))) 5 (some (ad 10))) 6 (some (ad 11))) 7 (some (ad 12)) j))) := h
  show H[ad 4]? = some (arrV ((cy 3)) 8 (fun j => va_rf (some (ad (4 + 1 + j)))))
  rw [h]
  refine congrArg some (arrV_congr _ 8 (fun j hj => ?_))
  rcases (show j = 0 ∨ j = 1 ∨ j = 2 ∨ j = 3 ∨ j = 4 ∨ j = 5 ∨ j = 6 ∨ j = 7 by omega) with h | h | h | h | h | h | h | h <;> subst h <;> rfl
set_option maxRecDepth 100000 in
theorem as_5 {D : va_G} {ad : Nat → Nat} {cy : Nat → ClassId} {H : Heap} (h : va_at D vwCl ((ad 5), .inr (2, [.int (nI 0), .int (nI 0), .int (nI 0), .int (nI 0), .int (nI 0)])) H) : va_at D vwCl (ad 5, ab_ent ad cy hp0 (kc 5) 5) H := h
set_option maxRecDepth 100000 in
theorem as_6 {D : va_G} {ad : Nat → Nat} {cy : Nat → ClassId} {H : Heap} (h : va_at D vwCl ((ad 6), .inr (2, [.int (nI 0), .int (nI 0), .int (nI 0), .int (nI 0), .int (nI 0)])) H) : va_at D vwCl (ad 6, ab_ent ad cy hp0 (kc 6) 6) H := h
set_option maxRecDepth 100000 in
theorem as_7 {D : va_G} {ad : Nat → Nat} {cy : Nat → ClassId} {H : Heap} (h : va_at D vwCl ((ad 7), .inr (2, [.int (nI 0), .int (nI 0), .int (nI 0), .int (nI 0), .int (nI 0)])) H) : va_at D vwCl (ad 7, ab_ent ad cy hp0 (kc 7) 7) H := h
set_option maxRecDepth 100000 in
theorem as_8 {D : va_G} {ad : Nat → Nat} {cy : Nat → ClassId} {H : Heap} (h : va_at D vwCl ((ad 8), .inr (2, [.int (nI 0), .int (nI 0), .int (nI 0), .int (nI 0), .int (nI 0)])) H) : va_at D vwCl (ad 8, ab_ent ad cy hp0 (kc 8) 8) H := h
set_option maxRecDepth 100000 in
theorem as_9 {D : va_G} {ad : Nat → Nat} {cy : Nat → ClassId} {H : Heap} (h : va_at D vwCl ((ad 9), .inr (2, [.int (nI 0), .int (nI 0), .int (nI 0), .int (nI 0), .int (nI 0)])) H) : va_at D vwCl (ad 9, ab_ent ad cy hp0 (kc 9) 9) H := h
set_option maxRecDepth 100000 in
theorem as_10 {D : va_G} {ad : Nat → Nat} {cy : Nat → ClassId} {H : Heap} (h : va_at D vwCl ((ad 10), .inr (2, [.int (nI 0), .int (nI 0), .int (nI 0), .int (nI 0), .int (nI 0)])) H) : va_at D vwCl (ad 10, ab_ent ad cy hp0 (kc 10) 10) H := h
set_option maxRecDepth 100000 in
theorem as_11 {D : va_G} {ad : Nat → Nat} {cy : Nat → ClassId} {H : Heap} (h : va_at D vwCl ((ad 11), .inr (2, [.int (nI 0), .int (nI 0), .int (nI 0), .int (nI 0), .int (nI 0)])) H) : va_at D vwCl (ad 11, ab_ent ad cy hp0 (kc 11) 11) H := h
set_option maxRecDepth 100000 in
theorem as_12 {D : va_G} {ad : Nat → Nat} {cy : Nat → ClassId} {H : Heap} (h : va_at D vwCl ((ad 12), .inr (2, [.int (nI 0), .int (nI 0), .int (nI 0), .int (nI 0), .int (nI 0)])) H) : va_at D vwCl (ad 12, ab_ent ad cy hp0 (kc 12) 12) H := h
set_option maxRecDepth 100000 in
theorem as_13 {D : va_G} {ad : Nat → Nat} {cy : Nat → ClassId} {H : Heap} (h : va_at D vwCl ((ad 13), .inr (3, [.long (lN 0), .ref (ad 14), .int (nI 0), .int (nI 0), .int (nI 0), .int (nI 0), .int (nI 1), .int (nI 0), .ref (ad 15), .int (nI 0), .int (-1), .ref (ad 16), .int (nI 0)])) H) : va_at D vwCl (ad 13, ab_ent ad cy hp0 (kc 13) 13) H := h
set_option maxRecDepth 100000 in
theorem as_14 {D : va_G} {ad : Nat → Nat} {cy : Nat → ClassId} {H : Heap} (h : va_at D vwCl ((ad 14), .inl ((cy 0), 25, .inl (fun _ => nI 5))) H) : va_at D vwCl (ad 14, ab_ent ad cy hp0 (kc 14) 14) H := h
set_option maxRecDepth 100000 in
theorem as_15 {D : va_G} {ad : Nat → Nat} {cy : Nat → ClassId} {H : Heap} (h : va_at D vwCl ((ad 15), .inl ((cy 0), 12, .inl (fun _ => nI 0))) H) : va_at D vwCl (ad 15, ab_ent ad cy hp0 (kc 15) 15) H := h
set_option maxRecDepth 100000 in
theorem as_16 {D : va_G} {ad : Nat → Nat} {cy : Nat → ClassId} {H : Heap} (h : va_at D vwCl ((ad 16), .inl ((cy 3), 8, .inr (.inr (.inr (.inr (va_up (va_up (va_up (va_up (va_up (va_up (va_up (va_up (fun _ => none) 0 (some (ad 17))) 1 (some (ad 18))) 2 (some (ad 19))) 3 (some (ad 20))) 4 (some (ad 21))) 5 (some (ad 22))) 6 (some (ad 23))) 7 (some (ad 24)))))))) H) : va_at D vwCl (ad 16, ab_ent ad cy hp0 (kc 16) 16) H := by
  have h : H[ad 16]? = some (arrV ((cy 3)) 8 (fun j => va_rf (va_up (va_up (va_up (va_up (va_up (va_up (va_up (va_up (fun _ => none) 0 (some (ad 17))) 1 (some (ad 18))) 2 (some (ad 19))) 3 (some (ad 20))) 4 (some (ad 21))) 5 (some (ad 22))) 6 (some (ad 23))) 7 (some (ad 24)) j))) := h
  show H[ad 16]? = some (arrV ((cy 3)) 8 (fun j => va_rf (some (ad (16 + 1 + j)))))
  rw [h]
  refine congrArg some (arrV_congr _ 8 (fun j hj => ?_))
  rcases (show j = 0 ∨ j = 1 ∨ j = 2 ∨ j = 3 ∨ j = 4 ∨ j = 5 ∨ j = 6 ∨ j = 7 by omega) with h | h | h | h | h | h | h | h <;> subst h <;> rfl
set_option maxRecDepth 100000 in
theorem as_17 {D : va_G} {ad : Nat → Nat} {cy : Nat → ClassId} {H : Heap} (h : va_at D vwCl ((ad 17), .inr (2, [.int (nI 0), .int (nI 0), .int (nI 0), .int (nI 0), .int (nI 0)])) H) : va_at D vwCl (ad 17, ab_ent ad cy hp0 (kc 17) 17) H := h
set_option maxRecDepth 100000 in
theorem as_18 {D : va_G} {ad : Nat → Nat} {cy : Nat → ClassId} {H : Heap} (h : va_at D vwCl ((ad 18), .inr (2, [.int (nI 0), .int (nI 0), .int (nI 0), .int (nI 0), .int (nI 0)])) H) : va_at D vwCl (ad 18, ab_ent ad cy hp0 (kc 18) 18) H := h
set_option maxRecDepth 100000 in
theorem as_19 {D : va_G} {ad : Nat → Nat} {cy : Nat → ClassId} {H : Heap} (h : va_at D vwCl ((ad 19), .inr (2, [.int (nI 0), .int (nI 0), .int (nI 0), .int (nI 0), .int (nI 0)])) H) : va_at D vwCl (ad 19, ab_ent ad cy hp0 (kc 19) 19) H := h
set_option maxRecDepth 100000 in
theorem as_20 {D : va_G} {ad : Nat → Nat} {cy : Nat → ClassId} {H : Heap} (h : va_at D vwCl ((ad 20), .inr (2, [.int (nI 0), .int (nI 0), .int (nI 0), .int (nI 0), .int (nI 0)])) H) : va_at D vwCl (ad 20, ab_ent ad cy hp0 (kc 20) 20) H := h
set_option maxRecDepth 100000 in
theorem as_21 {D : va_G} {ad : Nat → Nat} {cy : Nat → ClassId} {H : Heap} (h : va_at D vwCl ((ad 21), .inr (2, [.int (nI 0), .int (nI 0), .int (nI 0), .int (nI 0), .int (nI 0)])) H) : va_at D vwCl (ad 21, ab_ent ad cy hp0 (kc 21) 21) H := h
set_option maxRecDepth 100000 in
theorem as_22 {D : va_G} {ad : Nat → Nat} {cy : Nat → ClassId} {H : Heap} (h : va_at D vwCl ((ad 22), .inr (2, [.int (nI 0), .int (nI 0), .int (nI 0), .int (nI 0), .int (nI 0)])) H) : va_at D vwCl (ad 22, ab_ent ad cy hp0 (kc 22) 22) H := h
set_option maxRecDepth 100000 in
theorem as_23 {D : va_G} {ad : Nat → Nat} {cy : Nat → ClassId} {H : Heap} (h : va_at D vwCl ((ad 23), .inr (2, [.int (nI 0), .int (nI 0), .int (nI 0), .int (nI 0), .int (nI 0)])) H) : va_at D vwCl (ad 23, ab_ent ad cy hp0 (kc 23) 23) H := h
set_option maxRecDepth 100000 in
theorem as_24 {D : va_G} {ad : Nat → Nat} {cy : Nat → ClassId} {H : Heap} (h : va_at D vwCl ((ad 24), .inr (2, [.int (nI 0), .int (nI 0), .int (nI 0), .int (nI 0), .int (nI 0)])) H) : va_at D vwCl (ad 24, ab_ent ad cy hp0 (kc 24) 24) H := h
set_option maxRecDepth 100000 in
theorem as_25 {D : va_G} {ad : Nat → Nat} {cy : Nat → ClassId} {H : Heap} (h : va_at D vwCl ((ad 25), .inr (3, [.long (lN 0), .ref (ad 26), .int (nI 0), .int (nI 0), .int (nI 0), .int (nI 0), .int (nI 1), .int (nI 0), .ref (ad 27), .int (nI 0), .int (-1), .ref (ad 28), .int (nI 0)])) H) : va_at D vwCl (ad 25, ab_ent ad cy hp0 (kc 25) 25) H := h
set_option maxRecDepth 100000 in
theorem as_26 {D : va_G} {ad : Nat → Nat} {cy : Nat → ClassId} {H : Heap} (h : va_at D vwCl ((ad 26), .inl ((cy 0), 25, .inl (fun _ => nI 5))) H) : va_at D vwCl (ad 26, ab_ent ad cy hp0 (kc 26) 26) H := h
set_option maxRecDepth 100000 in
theorem as_27 {D : va_G} {ad : Nat → Nat} {cy : Nat → ClassId} {H : Heap} (h : va_at D vwCl ((ad 27), .inl ((cy 0), 12, .inl (fun _ => nI 0))) H) : va_at D vwCl (ad 27, ab_ent ad cy hp0 (kc 27) 27) H := h
set_option maxRecDepth 100000 in
theorem as_28 {D : va_G} {ad : Nat → Nat} {cy : Nat → ClassId} {H : Heap} (h : va_at D vwCl ((ad 28), .inl ((cy 3), 8, .inr (.inr (.inr (.inr (va_up (va_up (va_up (va_up (va_up (va_up (va_up (va_up (fun _ => none) 0 (some (ad 29))) 1 (some (ad 30))) 2 (some (ad 31))) 3 (some (ad 32))) 4 (some (ad 33))) 5 (some (ad 34))) 6 (some (ad 35))) 7 (some (ad 36)))))))) H) : va_at D vwCl (ad 28, ab_ent ad cy hp0 (kc 28) 28) H := by
  have h : H[ad 28]? = some (arrV ((cy 3)) 8 (fun j => va_rf (va_up (va_up (va_up (va_up (va_up (va_up (va_up (va_up (fun _ => none) 0 (some (ad 29))) 1 (some (ad 30))) 2 (some (ad 31))) 3 (some (ad 32))) 4 (some (ad 33))) 5 (some (ad 34))) 6 (some (ad 35))) 7 (some (ad 36)) j))) := h
  show H[ad 28]? = some (arrV ((cy 3)) 8 (fun j => va_rf (some (ad (28 + 1 + j)))))
  rw [h]
  refine congrArg some (arrV_congr _ 8 (fun j hj => ?_))
  rcases (show j = 0 ∨ j = 1 ∨ j = 2 ∨ j = 3 ∨ j = 4 ∨ j = 5 ∨ j = 6 ∨ j = 7 by omega) with h | h | h | h | h | h | h | h <;> subst h <;> rfl
set_option maxRecDepth 100000 in
theorem as_29 {D : va_G} {ad : Nat → Nat} {cy : Nat → ClassId} {H : Heap} (h : va_at D vwCl ((ad 29), .inr (2, [.int (nI 0), .int (nI 0), .int (nI 0), .int (nI 0), .int (nI 0)])) H) : va_at D vwCl (ad 29, ab_ent ad cy hp0 (kc 29) 29) H := h
set_option maxRecDepth 100000 in
theorem as_30 {D : va_G} {ad : Nat → Nat} {cy : Nat → ClassId} {H : Heap} (h : va_at D vwCl ((ad 30), .inr (2, [.int (nI 0), .int (nI 0), .int (nI 0), .int (nI 0), .int (nI 0)])) H) : va_at D vwCl (ad 30, ab_ent ad cy hp0 (kc 30) 30) H := h
set_option maxRecDepth 100000 in
theorem as_31 {D : va_G} {ad : Nat → Nat} {cy : Nat → ClassId} {H : Heap} (h : va_at D vwCl ((ad 31), .inr (2, [.int (nI 0), .int (nI 0), .int (nI 0), .int (nI 0), .int (nI 0)])) H) : va_at D vwCl (ad 31, ab_ent ad cy hp0 (kc 31) 31) H := h
set_option maxRecDepth 100000 in
theorem as_32 {D : va_G} {ad : Nat → Nat} {cy : Nat → ClassId} {H : Heap} (h : va_at D vwCl ((ad 32), .inr (2, [.int (nI 0), .int (nI 0), .int (nI 0), .int (nI 0), .int (nI 0)])) H) : va_at D vwCl (ad 32, ab_ent ad cy hp0 (kc 32) 32) H := h
set_option maxRecDepth 100000 in
theorem as_33 {D : va_G} {ad : Nat → Nat} {cy : Nat → ClassId} {H : Heap} (h : va_at D vwCl ((ad 33), .inr (2, [.int (nI 0), .int (nI 0), .int (nI 0), .int (nI 0), .int (nI 0)])) H) : va_at D vwCl (ad 33, ab_ent ad cy hp0 (kc 33) 33) H := h
set_option maxRecDepth 100000 in
theorem as_34 {D : va_G} {ad : Nat → Nat} {cy : Nat → ClassId} {H : Heap} (h : va_at D vwCl ((ad 34), .inr (2, [.int (nI 0), .int (nI 0), .int (nI 0), .int (nI 0), .int (nI 0)])) H) : va_at D vwCl (ad 34, ab_ent ad cy hp0 (kc 34) 34) H := h
set_option maxRecDepth 100000 in
theorem as_35 {D : va_G} {ad : Nat → Nat} {cy : Nat → ClassId} {H : Heap} (h : va_at D vwCl ((ad 35), .inr (2, [.int (nI 0), .int (nI 0), .int (nI 0), .int (nI 0), .int (nI 0)])) H) : va_at D vwCl (ad 35, ab_ent ad cy hp0 (kc 35) 35) H := h
set_option maxRecDepth 100000 in
theorem as_36 {D : va_G} {ad : Nat → Nat} {cy : Nat → ClassId} {H : Heap} (h : va_at D vwCl ((ad 36), .inr (2, [.int (nI 0), .int (nI 0), .int (nI 0), .int (nI 0), .int (nI 0)])) H) : va_at D vwCl (ad 36, ab_ent ad cy hp0 (kc 36) 36) H := h
set_option maxRecDepth 100000 in
theorem as_37 {D : va_G} {ad : Nat → Nat} {cy : Nat → ClassId} {H : Heap} (h : va_at D vwCl ((ad 37), .inr (1, [.ref (ad 38), .int (nI 0), .int (-1), .int (nI 0), .int (nI 0), .int (nI 0), .int (nI 0)])) H) : va_at D vwCl (ad 37, ab_ent ad cy hp0 (kc 37) 37) H := h
set_option maxRecDepth 100000 in
theorem as_38 {D : va_G} {ad : Nat → Nat} {cy : Nat → ClassId} {H : Heap} (h : va_at D vwCl ((ad 38), .inl ((cy 2), 120, .inl (fun _ => nI 0))) H) : va_at D vwCl (ad 38, ab_ent ad cy hp0 (kc 38) 38) H := h
set_option maxRecDepth 100000 in
theorem as_39 {D : va_G} {ad : Nat → Nat} {cy : Nat → ClassId} {H : Heap} (h : va_at D vwCl ((ad 39), .inl ((cy 4), 4, .inr (.inr (.inr (.inr (va_up (va_up (va_up (va_up (fun _ => none) 0 (some (ad 40))) 1 (some (ad 41))) 2 (some (ad 42))) 3 (some (ad 43)))))))) H) : va_at D vwCl (ad 39, ab_ent ad cy hp0 (kc 39) 39) H := by
  have h : H[ad 39]? = some (arrV ((cy 4)) 4 (fun j => va_rf (va_up (va_up (va_up (va_up (fun _ => none) 0 (some (ad 40))) 1 (some (ad 41))) 2 (some (ad 42))) 3 (some (ad 43)) j))) := h
  show H[ad 39]? = some (arrV ((cy 4)) 4 (fun j => va_rf (some (ad (39 + 1 + j)))))
  rw [h]
  refine congrArg some (arrV_congr _ 4 (fun j hj => ?_))
  rcases (show j = 0 ∨ j = 1 ∨ j = 2 ∨ j = 3 by omega) with h | h | h | h <;> subst h <;> rfl
set_option maxRecDepth 100000 in
theorem as_40 {D : va_G} {ad : Nat → Nat} {cy : Nat → ClassId} {H : Heap} (h : va_at D vwCl ((ad 40), .inr (0, [.int (nI 0), .int (nI 0), .ref (ad 44)])) H) : va_at D vwCl (ad 40, ab_ent ad cy hp0 (kc 40) 40) H := h
set_option maxRecDepth 100000 in
theorem as_41 {D : va_G} {ad : Nat → Nat} {cy : Nat → ClassId} {H : Heap} (h : va_at D vwCl ((ad 41), .inr (0, [.int (nI 0), .int (nI 0), .ref (ad 45)])) H) : va_at D vwCl (ad 41, ab_ent ad cy hp0 (kc 41) 41) H := h
set_option maxRecDepth 100000 in
theorem as_42 {D : va_G} {ad : Nat → Nat} {cy : Nat → ClassId} {H : Heap} (h : va_at D vwCl ((ad 42), .inr (0, [.int (nI 0), .int (nI 0), .ref (ad 46)])) H) : va_at D vwCl (ad 42, ab_ent ad cy hp0 (kc 42) 42) H := h
set_option maxRecDepth 100000 in
theorem as_43 {D : va_G} {ad : Nat → Nat} {cy : Nat → ClassId} {H : Heap} (h : va_at D vwCl ((ad 43), .inr (0, [.int (nI 0), .int (nI 0), .ref (ad 47)])) H) : va_at D vwCl (ad 43, ab_ent ad cy hp0 (kc 43) 43) H := h
set_option maxRecDepth 100000 in
theorem as_44 {D : va_G} {ad : Nat → Nat} {cy : Nat → ClassId} {H : Heap} (h : va_at D vwCl ((ad 44), .inl ((cy 1), 40, .inr (.inl (fun _ => lN 0)))) H) : va_at D vwCl (ad 44, ab_ent ad cy hp0 (kc 44) 44) H := h
set_option maxRecDepth 100000 in
theorem as_45 {D : va_G} {ad : Nat → Nat} {cy : Nat → ClassId} {H : Heap} (h : va_at D vwCl ((ad 45), .inl ((cy 1), 40, .inr (.inl (fun _ => lN 0)))) H) : va_at D vwCl (ad 45, ab_ent ad cy hp0 (kc 45) 45) H := h
set_option maxRecDepth 100000 in
theorem as_46 {D : va_G} {ad : Nat → Nat} {cy : Nat → ClassId} {H : Heap} (h : va_at D vwCl ((ad 46), .inl ((cy 1), 40, .inr (.inl (fun _ => lN 0)))) H) : va_at D vwCl (ad 46, ab_ent ad cy hp0 (kc 46) 46) H := h
set_option maxRecDepth 100000 in
theorem as_47 {D : va_G} {ad : Nat → Nat} {cy : Nat → ClassId} {H : Heap} (h : va_at D vwCl ((ad 47), .inl ((cy 1), 40, .inr (.inl (fun _ => lN 0)))) H) : va_at D vwCl (ad 47, ab_ent ad cy hp0 (kc 47) 47) H := h
set_option maxRecDepth 100000 in
theorem as_48 {D : va_G} {ad : Nat → Nat} {cy : Nat → ClassId} {H : Heap} (h : va_at D vwCl ((ad 48), .inl ((cy 0), 40, .inl (fun _ => nI 0))) H) : va_at D vwCl (ad 48, ab_ent ad cy hp0 (kc 48) 48) H := h
set_option maxRecDepth 100000 in
theorem as_49 {D : va_G} {ad : Nat → Nat} {cy : Nat → ClassId} {H : Heap} (h : va_at D vwCl ((ad 49), .inl ((cy 1), 25, .inr (.inl (fun _ => lN 0)))) H) : va_at D vwCl (ad 49, ab_ent ad cy hp0 (kc 49) 49) H := h
set_option maxRecDepth 100000 in
theorem as_50 {D : va_G} {ad : Nat → Nat} {cy : Nat → ClassId} {H : Heap} (h : va_at D vwCl ((ad 50), .inl ((cy 1), 25, .inr (.inl (fun _ => lN 0)))) H) : va_at D vwCl (ad 50, ab_ent ad cy hp0 (kc 50) 50) H := h
set_option maxRecDepth 100000 in
theorem as_51 {D : va_G} {ad : Nat → Nat} {cy : Nat → ClassId} {H : Heap} (h : va_at D vwCl ((ad 51), .inl ((cy 0), 7, .inl (fun _ => nI 0))) H) : va_at D vwCl (ad 51, ab_ent ad cy hp0 (kc 51) 51) H := h
set_option maxRecDepth 100000 in
theorem as_52 {D : va_G} {ad : Nat → Nat} {cy : Nat → ClassId} {H : Heap} (h : va_at D vwCl ((ad 52), .inr (5, [.ref (ad 53), .ref (ad 54), .ref (ad 55), .ref (ad 56), .int (nI 0), .ref (ad 57), .ref (ad 58), .ref (ad 59), .ref (ad 60), .ref (ad 61), .ref (ad 62), .int (nI 0), .int (nI 0), .int (nI 0), .int (nI 0), .ref (ad 63), .ref (ad 64), .ref (ad 65), .ref (ad 66)])) H) : va_at D vwCl (ad 52, ab_ent ad cy hp0 (kc 52) 52) H := h
set_option maxRecDepth 100000 in
theorem as_53 {D : va_G} {ad : Nat → Nat} {cy : Nat → ClassId} {H : Heap} (h : va_at D vwCl ((ad 53), .inl ((cy 0), 184, .inl (h5F (upd (upd (fun _ => nI 0) 1 (nI 1)) 4 (-1)) 25))) H) : va_at D vwCl (ad 53, ab_ent ad cy hp0 (kc 53) 53) H := h
set_option maxRecDepth 100000 in
theorem as_54 {D : va_G} {ad : Nat → Nat} {cy : Nat → ClassId} {H : Heap} (h : va_at D vwCl ((ad 54), .inl ((cy 0), 184, .inl (fun _ => nI 0))) H) : va_at D vwCl (ad 54, ab_ent ad cy hp0 (kc 54) 54) H := h
set_option maxRecDepth 100000 in
theorem as_55 {D : va_G} {ad : Nat → Nat} {cy : Nat → ClassId} {H : Heap} (h : va_at D vwCl ((ad 55), .inl ((cy 0), 184, .inl (fun _ => nI 0))) H) : va_at D vwCl (ad 55, ab_ent ad cy hp0 (kc 55) 55) H := h
set_option maxRecDepth 100000 in
theorem as_56 {D : va_G} {ad : Nat → Nat} {cy : Nat → ClassId} {H : Heap} (h : va_at D vwCl ((ad 56), .inl ((cy 0), 184, .inl (fun _ => nI 0))) H) : va_at D vwCl (ad 56, ab_ent ad cy hp0 (kc 56) 56) H := h
set_option maxRecDepth 100000 in
theorem as_57 {D : va_G} {ad : Nat → Nat} {cy : Nat → ClassId} {H : Heap} (h : va_at D vwCl ((ad 57), .inl ((cy 0), 7, .inl (fun _ => nI 0))) H) : va_at D vwCl (ad 57, ab_ent ad cy hp0 (kc 57) 57) H := h
set_option maxRecDepth 100000 in
theorem as_58 {D : va_G} {ad : Nat → Nat} {cy : Nat → ClassId} {H : Heap} (h : va_at D vwCl ((ad 58), .inl ((cy 0), 50, .inl (fun _ => nI 0))) H) : va_at D vwCl (ad 58, ab_ent ad cy hp0 (kc 58) 58) H := h
set_option maxRecDepth 100000 in
theorem as_59 {D : va_G} {ad : Nat → Nat} {cy : Nat → ClassId} {H : Heap} (h : va_at D vwCl ((ad 59), .inl ((cy 0), 8, .inl (fun _ => nI 0))) H) : va_at D vwCl (ad 59, ab_ent ad cy hp0 (kc 59) 59) H := h
set_option maxRecDepth 100000 in
theorem as_60 {D : va_G} {ad : Nat → Nat} {cy : Nat → ClassId} {H : Heap} (h : va_at D vwCl ((ad 60), .inl ((cy 1), 25, .inr (.inl (fun _ => lN 0)))) H) : va_at D vwCl (ad 60, ab_ent ad cy hp0 (kc 60) 60) H := h
set_option maxRecDepth 100000 in
theorem as_61 {D : va_G} {ad : Nat → Nat} {cy : Nat → ClassId} {H : Heap} (h : va_at D vwCl ((ad 61), .inl ((cy 1), 25, .inr (.inl (fun _ => lN 0)))) H) : va_at D vwCl (ad 61, ab_ent ad cy hp0 (kc 61) 61) H := h
set_option maxRecDepth 100000 in
theorem as_62 {D : va_G} {ad : Nat → Nat} {cy : Nat → ClassId} {H : Heap} (h : va_at D vwCl ((ad 62), .inl ((cy 0), 120, .inl (fun _ => nI 0))) H) : va_at D vwCl (ad 62, ab_ent ad cy hp0 (kc 62) 62) H := h
set_option maxRecDepth 100000 in
theorem as_63 {D : va_G} {ad : Nat → Nat} {cy : Nat → ClassId} {H : Heap} (h : va_at D vwCl ((ad 63), .inl ((cy 0), 4, .inl (fun _ => nI 0))) H) : va_at D vwCl (ad 63, ab_ent ad cy hp0 (kc 63) 63) H := h
set_option maxRecDepth 100000 in
theorem as_64 {D : va_G} {ad : Nat → Nat} {cy : Nat → ClassId} {H : Heap} (h : va_at D vwCl ((ad 64), .inl ((cy 0), 4, .inl (fun _ => nI 0))) H) : va_at D vwCl (ad 64, ab_ent ad cy hp0 (kc 64) 64) H := h
set_option maxRecDepth 100000 in
theorem as_65 {D : va_G} {ad : Nat → Nat} {cy : Nat → ClassId} {H : Heap} (h : va_at D vwCl ((ad 65), .inl ((cy 1), 160, .inr (.inl (fun _ => lN 0)))) H) : va_at D vwCl (ad 65, ab_ent ad cy hp0 (kc 65) 65) H := h
set_option maxRecDepth 100000 in
theorem as_66 {D : va_G} {ad : Nat → Nat} {cy : Nat → ClassId} {H : Heap} (h : va_at D vwCl ((ad 66), .inl ((cy 1), 40, .inr (.inl (fun _ => lN 0)))) H) : va_at D vwCl (ad 66, ab_ent ad cy hp0 (kc 66) 66) H := h
set_option maxRecDepth 100000 in
set_option maxHeartbeats 8000000 in
theorem asmP {D : va_G} {H : Heap} {ad : Nat → Nat} {cy : Nat → ClassId} (hP : va_P D vwCl (((ad 0), .inr (4, [.ref (ad 1), .ref (ad 13), .ref (ad 25), .int (nI 0), .ref (ad 37), .ref (ad 39), .ref (ad 48), .ref (ad 49), .ref (ad 50), .ref (ad 51), .int (nI 0)])) :: ((ad 1), .inr (3, [.long (lN 0), .ref (ad 2), .int (nI 0), .int (nI 0), .int (nI 0), .int (nI 0), .int (nI 1), .int (nI 0), .ref (ad 3), .int (nI 0), .int (-1), .ref (ad 4), .int (nI 0)])) :: ((ad 3), .inl ((cy 0), 12, .inl (fun _ => nI 0))) :: ((ad 4), .inl ((cy 3), 8, .inr (.inr (.inr (.inr (va_up (va_up (va_up (va_up (va_up (va_up (va_up (va_up (fun _ => none) 0 (some (ad 5))) 1 (some (ad 6))) 2 (some (ad 7))) 3 (some (ad 8))) 4 (some (ad 9))) 5 (some (ad 10))) 6 (some (ad 11))) 7 (some (ad 12)))))))) :: ((ad 2), .inl ((cy 0), 25, .inl (fun _ => nI 5))) :: ((ad 5), .inr (2, [.int (nI 0), .int (nI 0), .int (nI 0), .int (nI 0), .int (nI 0)])) :: ((ad 6), .inr (2, [.int (nI 0), .int (nI 0), .int (nI 0), .int (nI 0), .int (nI 0)])) :: ((ad 7), .inr (2, [.int (nI 0), .int (nI 0), .int (nI 0), .int (nI 0), .int (nI 0)])) :: ((ad 8), .inr (2, [.int (nI 0), .int (nI 0), .int (nI 0), .int (nI 0), .int (nI 0)])) :: ((ad 9), .inr (2, [.int (nI 0), .int (nI 0), .int (nI 0), .int (nI 0), .int (nI 0)])) :: ((ad 10), .inr (2, [.int (nI 0), .int (nI 0), .int (nI 0), .int (nI 0), .int (nI 0)])) :: ((ad 11), .inr (2, [.int (nI 0), .int (nI 0), .int (nI 0), .int (nI 0), .int (nI 0)])) :: ((ad 12), .inr (2, [.int (nI 0), .int (nI 0), .int (nI 0), .int (nI 0), .int (nI 0)])) :: ((ad 13), .inr (3, [.long (lN 0), .ref (ad 14), .int (nI 0), .int (nI 0), .int (nI 0), .int (nI 0), .int (nI 1), .int (nI 0), .ref (ad 15), .int (nI 0), .int (-1), .ref (ad 16), .int (nI 0)])) :: ((ad 15), .inl ((cy 0), 12, .inl (fun _ => nI 0))) :: ((ad 16), .inl ((cy 3), 8, .inr (.inr (.inr (.inr (va_up (va_up (va_up (va_up (va_up (va_up (va_up (va_up (fun _ => none) 0 (some (ad 17))) 1 (some (ad 18))) 2 (some (ad 19))) 3 (some (ad 20))) 4 (some (ad 21))) 5 (some (ad 22))) 6 (some (ad 23))) 7 (some (ad 24)))))))) :: ((ad 14), .inl ((cy 0), 25, .inl (fun _ => nI 5))) :: ((ad 17), .inr (2, [.int (nI 0), .int (nI 0), .int (nI 0), .int (nI 0), .int (nI 0)])) :: ((ad 18), .inr (2, [.int (nI 0), .int (nI 0), .int (nI 0), .int (nI 0), .int (nI 0)])) :: ((ad 19), .inr (2, [.int (nI 0), .int (nI 0), .int (nI 0), .int (nI 0), .int (nI 0)])) :: ((ad 20), .inr (2, [.int (nI 0), .int (nI 0), .int (nI 0), .int (nI 0), .int (nI 0)])) :: ((ad 21), .inr (2, [.int (nI 0), .int (nI 0), .int (nI 0), .int (nI 0), .int (nI 0)])) :: ((ad 22), .inr (2, [.int (nI 0), .int (nI 0), .int (nI 0), .int (nI 0), .int (nI 0)])) :: ((ad 23), .inr (2, [.int (nI 0), .int (nI 0), .int (nI 0), .int (nI 0), .int (nI 0)])) :: ((ad 24), .inr (2, [.int (nI 0), .int (nI 0), .int (nI 0), .int (nI 0), .int (nI 0)])) :: ((ad 25), .inr (3, [.long (lN 0), .ref (ad 26), .int (nI 0), .int (nI 0), .int (nI 0), .int (nI 0), .int (nI 1), .int (nI 0), .ref (ad 27), .int (nI 0), .int (-1), .ref (ad 28), .int (nI 0)])) :: ((ad 27), .inl ((cy 0), 12, .inl (fun _ => nI 0))) :: ((ad 28), .inl ((cy 3), 8, .inr (.inr (.inr (.inr (va_up (va_up (va_up (va_up (va_up (va_up (va_up (va_up (fun _ => none) 0 (some (ad 29))) 1 (some (ad 30))) 2 (some (ad 31))) 3 (some (ad 32))) 4 (some (ad 33))) 5 (some (ad 34))) 6 (some (ad 35))) 7 (some (ad 36)))))))) :: ((ad 26), .inl ((cy 0), 25, .inl (fun _ => nI 5))) :: ((ad 29), .inr (2, [.int (nI 0), .int (nI 0), .int (nI 0), .int (nI 0), .int (nI 0)])) :: ((ad 30), .inr (2, [.int (nI 0), .int (nI 0), .int (nI 0), .int (nI 0), .int (nI 0)])) :: ((ad 31), .inr (2, [.int (nI 0), .int (nI 0), .int (nI 0), .int (nI 0), .int (nI 0)])) :: ((ad 32), .inr (2, [.int (nI 0), .int (nI 0), .int (nI 0), .int (nI 0), .int (nI 0)])) :: ((ad 33), .inr (2, [.int (nI 0), .int (nI 0), .int (nI 0), .int (nI 0), .int (nI 0)])) :: ((ad 34), .inr (2, [.int (nI 0), .int (nI 0), .int (nI 0), .int (nI 0), .int (nI 0)])) :: ((ad 35), .inr (2, [.int (nI 0), .int (nI 0), .int (nI 0), .int (nI 0), .int (nI 0)])) :: ((ad 36), .inr (2, [.int (nI 0), .int (nI 0), .int (nI 0), .int (nI 0), .int (nI 0)])) :: ((ad 37), .inr (1, [.ref (ad 38), .int (nI 0), .int (-1), .int (nI 0), .int (nI 0), .int (nI 0), .int (nI 0)])) :: ((ad 38), .inl ((cy 2), 120, .inl (fun _ => nI 0))) :: ((ad 39), .inl ((cy 4), 4, .inr (.inr (.inr (.inr (va_up (va_up (va_up (va_up (fun _ => none) 0 (some (ad 40))) 1 (some (ad 41))) 2 (some (ad 42))) 3 (some (ad 43)))))))) :: ((ad 48), .inl ((cy 0), 40, .inl (fun _ => nI 0))) :: ((ad 49), .inl ((cy 1), 25, .inr (.inl (fun _ => lN 0)))) :: ((ad 50), .inl ((cy 1), 25, .inr (.inl (fun _ => lN 0)))) :: ((ad 51), .inl ((cy 0), 7, .inl (fun _ => nI 0))) :: ((ad 40), .inr (0, [.int (nI 0), .int (nI 0), .ref (ad 44)])) :: ((ad 44), .inl ((cy 1), 40, .inr (.inl (fun _ => lN 0)))) :: ((ad 41), .inr (0, [.int (nI 0), .int (nI 0), .ref (ad 45)])) :: ((ad 45), .inl ((cy 1), 40, .inr (.inl (fun _ => lN 0)))) :: ((ad 42), .inr (0, [.int (nI 0), .int (nI 0), .ref (ad 46)])) :: ((ad 46), .inl ((cy 1), 40, .inr (.inl (fun _ => lN 0)))) :: ((ad 43), .inr (0, [.int (nI 0), .int (nI 0), .ref (ad 47)])) :: ((ad 47), .inl ((cy 1), 40, .inr (.inl (fun _ => lN 0)))) :: ((ad 52), .inr (5, [.ref (ad 53), .ref (ad 54), .ref (ad 55), .ref (ad 56), .int (nI 0), .ref (ad 57), .ref (ad 58), .ref (ad 59), .ref (ad 60), .ref (ad 61), .ref (ad 62), .int (nI 0), .int (nI 0), .int (nI 0), .int (nI 0), .ref (ad 63), .ref (ad 64), .ref (ad 65), .ref (ad 66)])) :: ((ad 53), .inl ((cy 0), 184, .inl (h5F (upd (upd (fun _ => nI 0) 1 (nI 1)) 4 (-1)) 25))) :: ((ad 54), .inl ((cy 0), 184, .inl (fun _ => nI 0))) :: ((ad 55), .inl ((cy 0), 184, .inl (fun _ => nI 0))) :: ((ad 56), .inl ((cy 0), 184, .inl (fun _ => nI 0))) :: ((ad 57), .inl ((cy 0), 7, .inl (fun _ => nI 0))) :: ((ad 58), .inl ((cy 0), 50, .inl (fun _ => nI 0))) :: ((ad 59), .inl ((cy 0), 8, .inl (fun _ => nI 0))) :: ((ad 60), .inl ((cy 1), 25, .inr (.inl (fun _ => lN 0)))) :: ((ad 61), .inl ((cy 1), 25, .inr (.inl (fun _ => lN 0)))) :: ((ad 62), .inl ((cy 0), 120, .inl (fun _ => nI 0))) :: ((ad 63), .inl ((cy 0), 4, .inl (fun _ => nI 0))) :: ((ad 64), .inl ((cy 0), 4, .inl (fun _ => nI 0))) :: ((ad 65), .inl ((cy 1), 160, .inr (.inl (fun _ => lN 0)))) :: ((ad 66), .inl ((cy 1), 40, .inr (.inl (fun _ => lN 0)))) :: []) H) : va_P D vwCl (ab_w ad cy hp0) H := by
  obtain ⟨h0, hP⟩ := va_pl1 hP
  obtain ⟨h1, hP⟩ := va_pl1 hP
  obtain ⟨h3, hP⟩ := va_pl1 hP
  obtain ⟨h4, hP⟩ := va_pl1 hP
  obtain ⟨h2, hP⟩ := va_pl1 hP
  obtain ⟨h5, hP⟩ := va_pl1 hP
  obtain ⟨h6, hP⟩ := va_pl1 hP
  obtain ⟨h7, hP⟩ := va_pl1 hP
  obtain ⟨h8, hP⟩ := va_pl1 hP
  obtain ⟨h9, hP⟩ := va_pl1 hP
  obtain ⟨h10, hP⟩ := va_pl1 hP
  obtain ⟨h11, hP⟩ := va_pl1 hP
  obtain ⟨h12, hP⟩ := va_pl1 hP
  obtain ⟨h13, hP⟩ := va_pl1 hP
  obtain ⟨h15, hP⟩ := va_pl1 hP
  obtain ⟨h16, hP⟩ := va_pl1 hP
  obtain ⟨h14, hP⟩ := va_pl1 hP
  obtain ⟨h17, hP⟩ := va_pl1 hP
  obtain ⟨h18, hP⟩ := va_pl1 hP
  obtain ⟨h19, hP⟩ := va_pl1 hP
  obtain ⟨h20, hP⟩ := va_pl1 hP
  obtain ⟨h21, hP⟩ := va_pl1 hP
  obtain ⟨h22, hP⟩ := va_pl1 hP
  obtain ⟨h23, hP⟩ := va_pl1 hP
  obtain ⟨h24, hP⟩ := va_pl1 hP
  obtain ⟨h25, hP⟩ := va_pl1 hP
  obtain ⟨h27, hP⟩ := va_pl1 hP
  obtain ⟨h28, hP⟩ := va_pl1 hP
  obtain ⟨h26, hP⟩ := va_pl1 hP
  obtain ⟨h29, hP⟩ := va_pl1 hP
  obtain ⟨h30, hP⟩ := va_pl1 hP
  obtain ⟨h31, hP⟩ := va_pl1 hP
  obtain ⟨h32, hP⟩ := va_pl1 hP
  obtain ⟨h33, hP⟩ := va_pl1 hP
  obtain ⟨h34, hP⟩ := va_pl1 hP
  obtain ⟨h35, hP⟩ := va_pl1 hP
  obtain ⟨h36, hP⟩ := va_pl1 hP
  obtain ⟨h37, hP⟩ := va_pl1 hP
  obtain ⟨h38, hP⟩ := va_pl1 hP
  obtain ⟨h39, hP⟩ := va_pl1 hP
  obtain ⟨h48, hP⟩ := va_pl1 hP
  obtain ⟨h49, hP⟩ := va_pl1 hP
  obtain ⟨h50, hP⟩ := va_pl1 hP
  obtain ⟨h51, hP⟩ := va_pl1 hP
  obtain ⟨h40, hP⟩ := va_pl1 hP
  obtain ⟨h44, hP⟩ := va_pl1 hP
  obtain ⟨h41, hP⟩ := va_pl1 hP
  obtain ⟨h45, hP⟩ := va_pl1 hP
  obtain ⟨h42, hP⟩ := va_pl1 hP
  obtain ⟨h46, hP⟩ := va_pl1 hP
  obtain ⟨h43, hP⟩ := va_pl1 hP
  obtain ⟨h47, hP⟩ := va_pl1 hP
  obtain ⟨h52, hP⟩ := va_pl1 hP
  obtain ⟨h53, hP⟩ := va_pl1 hP
  obtain ⟨h54, hP⟩ := va_pl1 hP
  obtain ⟨h55, hP⟩ := va_pl1 hP
  obtain ⟨h56, hP⟩ := va_pl1 hP
  obtain ⟨h57, hP⟩ := va_pl1 hP
  obtain ⟨h58, hP⟩ := va_pl1 hP
  obtain ⟨h59, hP⟩ := va_pl1 hP
  obtain ⟨h60, hP⟩ := va_pl1 hP
  obtain ⟨h61, hP⟩ := va_pl1 hP
  obtain ⟨h62, hP⟩ := va_pl1 hP
  obtain ⟨h63, hP⟩ := va_pl1 hP
  obtain ⟨h64, hP⟩ := va_pl1 hP
  obtain ⟨h65, hP⟩ := va_pl1 hP
  obtain ⟨h66, hP⟩ := va_pl1 hP
  refine ab_of (fun c hc => ?_)
  match c, hc with
  | 0, _ => exact as_0 h0
  | 1, _ => exact as_1 h1
  | 2, _ => exact as_2 h2
  | 3, _ => exact as_3 h3
  | 4, _ => exact as_4 h4
  | 5, _ => exact as_5 h5
  | 6, _ => exact as_6 h6
  | 7, _ => exact as_7 h7
  | 8, _ => exact as_8 h8
  | 9, _ => exact as_9 h9
  | 10, _ => exact as_10 h10
  | 11, _ => exact as_11 h11
  | 12, _ => exact as_12 h12
  | 13, _ => exact as_13 h13
  | 14, _ => exact as_14 h14
  | 15, _ => exact as_15 h15
  | 16, _ => exact as_16 h16
  | 17, _ => exact as_17 h17
  | 18, _ => exact as_18 h18
  | 19, _ => exact as_19 h19
  | 20, _ => exact as_20 h20
  | 21, _ => exact as_21 h21
  | 22, _ => exact as_22 h22
  | 23, _ => exact as_23 h23
  | 24, _ => exact as_24 h24
  | 25, _ => exact as_25 h25
  | 26, _ => exact as_26 h26
  | 27, _ => exact as_27 h27
  | 28, _ => exact as_28 h28
  | 29, _ => exact as_29 h29
  | 30, _ => exact as_30 h30
  | 31, _ => exact as_31 h31
  | 32, _ => exact as_32 h32
  | 33, _ => exact as_33 h33
  | 34, _ => exact as_34 h34
  | 35, _ => exact as_35 h35
  | 36, _ => exact as_36 h36
  | 37, _ => exact as_37 h37
  | 38, _ => exact as_38 h38
  | 39, _ => exact as_39 h39
  | 40, _ => exact as_40 h40
  | 41, _ => exact as_41 h41
  | 42, _ => exact as_42 h42
  | 43, _ => exact as_43 h43
  | 44, _ => exact as_44 h44
  | 45, _ => exact as_45 h45
  | 46, _ => exact as_46 h46
  | 47, _ => exact as_47 h47
  | 48, _ => exact as_48 h48
  | 49, _ => exact as_49 h49
  | 50, _ => exact as_50 h50
  | 51, _ => exact as_51 h51
  | 52, _ => exact as_52 h52
  | 53, _ => exact as_53 h53
  | 54, _ => exact as_54 h54
  | 55, _ => exact as_55 h55
  | 56, _ => exact as_56 h56
  | 57, _ => exact as_57 h57
  | 58, _ => exact as_58 h58
  | 59, _ => exact as_59 h59
  | 60, _ => exact as_60 h60
  | 61, _ => exact as_61 h61
  | 62, _ => exact as_62 h62
  | 63, _ => exact as_63 h63
  | 64, _ => exact as_64 h64
  | 65, _ => exact as_65 h65
  | 66, _ => exact as_66 h66
  | n + 67, h => exact absurd h (by omega)
