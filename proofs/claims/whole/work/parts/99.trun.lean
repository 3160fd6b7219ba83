/-! from the two objects on: the law's loop -/
set_option maxRecDepth 100000 in
set_option maxHeartbeats 4000000 in
theorem law_run {p : Program} {l : Launch} {e : Env} {s : State} {m : MethodId} {below : List Frame} {meth : Method} {c : Code} {b L : Nat} {xs : Nat → Int32} (hL : L ≤ 384) (C0 : lw_At p s m meth c b L xs) {D : va_G} {ad : Nat → Nat} {cy : Nat → ClassId} {ex : Nat → Nat} {fm : Value} (hK : va_K D vwCl (ab_ty cy) s) (hinj : ab_inj ad) (hsub : ∀ q, ab_A ad q → s.heap.size ≤ q) (hfm : fm.category = 1) (hXT : XT ex fm (fun q : Nat => s.heap.size ≤ q) s s.heap) (hex : ex 1 = b) {H : Heap} {locs : List Loc} {ls : Array Slot} (hP : va_P D vwCl (ab_w ad cy hp0) H) (hS : va_S (fun q : Nat => s.heap.size ≤ q) s.heap H locs) (hl : lv_has ls 4 [(0, .ref b), (1, .ref (ad 0)), (2, .ref (ad 52))]) : W p l e room_1 s m #[Value.ref b] below meth c H locs 67 1903 (lw_Z below #[Value.ref b] s) (F0 m 16 ls []) := by
  obtain ⟨hx, hb, hr, hml, hown, hts, hX, hbl, hlocks, hgv⟩ := id C0
  subst hex
  have hC : CX p room_1 s m #[Value.ref (ex 1)] c cL_law RL 4 67 1903 D ad cy ex fm (fun q : Nat => s.heap.size ≤ q) (some (L, xs)) := ⟨hx, hb, hml, hown, fun w hw => hts w (List.mem_filter.mp hw).1, hK, hinj, hsub, hXT, hfm, ⟨by decide, by decide⟩, fun q hq => by cases hq; exact ⟨hX, hbl, Nat.not_le.mpr hbl⟩⟩
  have hR : RTN (OK p l e room_1 s m #[Value.ref (ex 1)] below meth c 4 67 1903 (lw_Z below #[Value.ref (ex 1)] s) D ad cy ex fm (fun q : Nat => s.heap.size ≤ q)) cL_law (some .boolean) LQ := by
    refine ⟨fun pc lv x hp hd h hv hs H locs ls hP hS hl => ?_, fun pc lv x hp hd h hv hs H locs ls hP hS hl => ?_, fun pc lv k hp hd h hv hs H locs ls hP hS hl => ?_, fun pc lv hp hd h hv hs H locs ls hP hS hl => ?_⟩
    · have h1 : x = nI 1 := by
        have h2 : LQ (some (vI x)) hp := h.2
        have h3 : some (vI x) = some (vI (nI 1)) := h2
        exact Sum.inl.inj (Option.some.inj h3)
      subst h1
      refine va_forget (fun q hq => hS.2.2 q hq) ?_
      refine W.widen (k := 600000) (n := 7302249) (by decide) (by decide) ?_
      exact lw_ret hx hb hr hlocks hd
    · exact absurd h id
    · cases k with
      | zero => exact absurd h id
      | succ k => exact absurd h id
    · exact absurd h id
  have hG : Cl P_L_law K_L E_L_law 4 (some .boolean) (some (L, xs)) LQ (OK p l e room_1 s m #[Value.ref (ex 1)] below meth c 4 67 1903 (lw_Z below #[Value.ref (ex 1)] s) D ad cy ex fm (fun q : Nat => s.heap.size ≤ q)) :=
    ⟨fun q hq => (E_L_ok q hq).1, fun pc lv st hp h => ok_stp hC pk_L_law K_L_ok E_L_ok (by decide) (by decide) hR h, fun pc lv st hp hq he h => OK_inv he h, fun pc lv lw st hp h hk => OK_lv h hk⟩
  have key : OK p l e room_1 s m #[Value.ref (ex 1)] below meth c 4 67 1903 (lw_Z below #[Value.ref (ex 1)] s) D ad cy ex fm (fun q : Nat => s.heap.size ≤ q) 16 [(0, vX 1), (1, vR 0 0), (2, vR 5 52)] [] hp0 := by
    refine run hG [18] 60 ?_
    exact cl_use hG (law_loop hL hG (L + 7) 0 (by omega) (by omega) hp0 rc0) ⟨rfl, rfl, rfl, rfl, trivial⟩
  refine key (fun q hq => ?_) (fun q hq => by cases hq) H locs ls hP hS hl
  rcases List.mem_cons.mp hq with rfl | hq
  · trivial
  · rcases List.mem_cons.mp hq with rfl | hq
    · exact ⟨by decide, by decide⟩
    · rcases List.mem_cons.mp hq with rfl | hq
      · exact ⟨by decide, by decide⟩
      · cases hq
