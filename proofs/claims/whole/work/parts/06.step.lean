/-! one step of the machine, over the kit's rows -/
section
variable {p : Program} {l : Launch} {e : Env} {R : Room} {s : State} {m : MethodId} {args : Array Value} {below : List Frame} {meth : Method} {c : Code} {cells slots : Nat} {Qs : State → Prop} {cc : ByteArray} {own : String} {nL : Nat} {D : va_G} {ad : Nat → Nat} {cy : Nat → ClassId} {ex : Nat → Nat} {fm : Value} {A : Nat → Prop} {sc : Option (Nat × (Nat → Int32))}
theorem ab_ldcSw {H : Heap} {locs : List Loc} {ls : Array Slot} {pc : Nat} {rest : List Value} (hexec : p.tables.exec = Jvm.exec) (hb : c.code = cc) {own tx : String} {index q : Nat} (hown : s.vm.findClass own = some m.cls) (hZ : vk_R own index tx q s) (hdg : decode cc pc = .ok (.ldc_w index, 3))
    (k : W p l e R s m args below meth c H locs cells slots Qs (F0 m (pc + 3) ls (.ref q :: rest))) : W p l e R s m args below meth c H locs cells slots Qs (F0 m pc ls rest) := by
  intro T hT X
  obtain ⟨t, a1, b1⟩ := k T hT X
  refine ⟨t, ?_, b1⟩
  have hdg2 : decode c.code (F0 m pc ls rest).pc = .ok (.ldc_w index, 3) := by rw [hb]; exact hdg
  obtain ⟨k, cf, i, a', hk, hcf, hcp, -, hr, hev'⟩ := Cond.stringRef_spec (args := #[]) hown hZ.1
  cases hZ.2.symm.trans hev'
  obtain ⟨k', hk', he⟩ := X.warmed.alike.2.2 _ _ hk
  have hr' : k'.resolved[index]? = some (some (.string q)) := by
    rcases X.warmed.entry hk hk' index with h | ⟨h, -⟩
    · rw [h]; exact hr
    · rw [hr] at h; cases h
  jvm_step X.here [hexec, hdg2, ldc_w.wp_string (e := e) (s := T) (f := F0 m pc ls rest) X.here.top hk' (by rw [he]; exact hcf) hcp hr']
  exact a1
theorem ac_eq {x : Int32} {tg : List Nat} {d : Int} (h : Int32.ofInt d = cs tg d) : x + Int32.ofInt d = ac tg x d := by
  unfold cs at h
  unfold ac
  split at h
  · rw [h]
  · rw [h]
  · rfl
theorem ab_K {hp : HP} {A : Nat → Prop} (hi : ab_inj ad) (hA : ∀ q, ab_A ad q → A q) : va_D A (ab_w ad cy hp) := ab_w_D hi (fun c hc => hA _ ⟨c, hc, rfl⟩)
/-- the world behind a write to a cell -/
theorem ab_put {hp hq : HP} {H : Heap} {c : Nat} {x : va_E} (hc : c < 67) (h : ∀ d, d ≠ c → hq.1 d = hp.1 d ∧ hq.2 d = hp.2 d) (hx : ab_ent ad cy hq (kc c) c = x) (hP : va_P D vwCl ((ab_w ad cy hp).set c (ad c, x)) H) : va_P D vwCl (ab_w ad cy hq) H := by
  rw [← ab_w_set ad cy hc h, hx]
  exact hP
theorem ab_obj {hp : HP} {k q : Nat} {o : Nat × List (Nat × Nat × Nat)} (hv : vld (vR k q)) (ho : kd k = .inl o) : (ab_w ad cy hp)[q]? = some (ad q, .inr (o.1, ab_fs ad hp q 0 o.2)) := by
  rw [ab_w_get ad cy hp hv.1, show kc q = k from hv.2]
  unfold ab_ent
  rw [ho]
theorem ab_row {hp : HP} {k q : Nat} {a : Nat × Nat × Nat × Nat} (hv : vld (vR k q)) (ho : kd k = .inr a) : (ab_w ad cy hp)[q]? = some (ad q, ab_ar ad cy hp q a) := by
  rw [ab_w_get ad cy hp hv.1, show kc q = k from hv.2]
  unfold ab_ent
  rw [ho]
theorem ab_ar0 {hp : HP} {q : Nat} {a : Nat × Nat × Nat × Nat} (h : a.1 = 0) : ab_ar ad cy hp q a = .inl (cy 0, a.2.1, .inl (hp.1 q)) := by
  unfold ab_ar
  obtain ⟨t, n, k, d⟩ := a
  dsimp only at h
  subst h
  rfl
theorem ab_ar1 {hp : HP} {q : Nat} {a : Nat × Nat × Nat × Nat} (h : a.1 = 1) : ab_ar ad cy hp q a = .inl (cy 1, a.2.1, .inr (.inl (hp.2 q))) := by
  unfold ab_ar
  obtain ⟨t, n, k, d⟩ := a
  dsimp only at h
  subst h
  rfl
theorem ab_ar2 {hp : HP} {q : Nat} {a : Nat × Nat × Nat × Nat} (h : a.1 = 2) : ab_ar ad cy hp q a = .inl (cy 2, a.2.1, .inl (hp.1 q)) := by
  unfold ab_ar
  obtain ⟨t, n, k, d⟩ := a
  dsimp only at h
  subst h
  rfl
theorem ab_ar3 {hp : HP} {q : Nat} {a : Nat × Nat × Nat × Nat} (h : a.1 = 3 ∨ a.1 = 4) : ab_ar ad cy hp q a = .inl (cy a.1, a.2.1, .inr (.inr (.inr (.inr (fun j => some (ad (q + a.2.2.2 + j))))))) := by
  unfold ab_ar
  obtain ⟨t, n, k, d⟩ := a
  rcases h with h | h <;> (dsimp only at h; subst h; rfl)
theorem ab_arX {hp : HP} {q : Nat} (a : Nat × Nat × Nat × Nat) (h : a.1 < 5) : ∃ x : vp_A, ab_ar ad cy hp q a = .inl (cy a.1, x) ∧ x.1 = a.2.1 ∧ ∃ ty, (ab_ty cy)[a.1]? = some (cy a.1, ty) := by
  unfold ab_ar
  obtain ⟨t, n, k, d⟩ := a
  match t, h with
  | 0, _ => exact ⟨_, rfl, rfl, _, rfl⟩
  | 1, _ => exact ⟨_, rfl, rfl, _, rfl⟩
  | 2, _ => exact ⟨_, rfl, rfl, _, rfl⟩
  | 3, _ => exact ⟨_, rfl, rfl, _, rfl⟩
  | 4, _ => exact ⟨_, rfl, rfl, _, rfl⟩
theorem kd_tag : ∀ c, c < 67 → ∀ a, kd (kc c) = .inr a → a.1 < 5 := by
  have h : ∀ c, c < 67 → (match kd (kc c) with | .inl _ => true | .inr a => decide (a.1 < 5)) = true := by decide +kernel
  intro c hc a ha
  have h1 := h c hc
  rw [ha] at h1
  exact of_decide_eq_true h1
theorem ok_iload (hC : CX p R s m args c cc own nL cells slots D ad cy ex fm A sc) {pc : Nat} {lv : LV} {st : List AV} {hp : HP} {n : Nat} (hd : decode cc pc = .ok (.iload n, 2)) (h : ldI lv n fun v => OK p l e R s m args below meth c nL cells slots Qs D ad cy ex fm A (pc + 2) lv (v :: st) hp) : OK p l e R s m args below meth c nL cells slots Qs D ad cy ex fm A pc lv st hp := by
  intro hv hs H locs ls hP hS hl
  obtain ⟨x, hm, hz⟩ := ldI_e h
  exact lv_iload hC.1 hC.2.1 hd (lvm_at hl hm) (hz hv (vs_cn trivial hs) H locs ls hP hS hl)
theorem ok_iload_n (hC : CX p R s m args c cc own nL cells slots D ad cy ex fm A sc) {pc : Nat} {lv : LV} {st : List AV} {hp : HP} {n : Fin 4} (hd : decode cc pc = .ok (.iload_n n, 1)) (h : ldI lv n.val fun v => OK p l e R s m args below meth c nL cells slots Qs D ad cy ex fm A (pc + 1) lv (v :: st) hp) : OK p l e R s m args below meth c nL cells slots Qs D ad cy ex fm A pc lv st hp := by
  intro hv hs H locs ls hP hS hl
  obtain ⟨x, hm, hz⟩ := ldI_e h
  exact lv_iload_n hC.1 hC.2.1 hd rfl (lvm_at hl hm) (hz hv (vs_cn trivial hs) H locs ls hP hS hl)
theorem ok_lload (hC : CX p R s m args c cc own nL cells slots D ad cy ex fm A sc) {pc : Nat} {lv : LV} {st : List AV} {hp : HP} {n : Nat} (hd : decode cc pc = .ok (.lload n, 2)) (h : ldL lv n fun v => OK p l e R s m args below meth c nL cells slots Qs D ad cy ex fm A (pc + 2) lv (v :: st) hp) : OK p l e R s m args below meth c nL cells slots Qs D ad cy ex fm A pc lv st hp := by
  intro hv hs H locs ls hP hS hl
  obtain ⟨x, hm, hz⟩ := ldL_e h
  exact lv_lload hC.1 hC.2.1 hd (lvm_at hl hm) (hz hv (vs_cn trivial hs) H locs ls hP hS hl)
theorem ok_lload_n (hC : CX p R s m args c cc own nL cells slots D ad cy ex fm A sc) {pc : Nat} {lv : LV} {st : List AV} {hp : HP} {n : Fin 4} (hd : decode cc pc = .ok (.lload_n n, 1)) (h : ldL lv n.val fun v => OK p l e R s m args below meth c nL cells slots Qs D ad cy ex fm A (pc + 1) lv (v :: st) hp) : OK p l e R s m args below meth c nL cells slots Qs D ad cy ex fm A pc lv st hp := by
  intro hv hs H locs ls hP hS hl
  obtain ⟨x, hm, hz⟩ := ldL_e h
  exact lv_lload_n hC.1 hC.2.1 hd rfl (lvm_at hl hm) (hz hv (vs_cn trivial hs) H locs ls hP hS hl)
theorem ok_aload (hC : CX p R s m args c cc own nL cells slots D ad cy ex fm A sc) {pc : Nat} {lv : LV} {st : List AV} {hp : HP} {n : Nat} (hd : decode cc pc = .ok (.aload n, 2)) (h : ldA lv n fun v => OK p l e R s m args below meth c nL cells slots Qs D ad cy ex fm A (pc + 2) lv (v :: st) hp) : OK p l e R s m args below meth c nL cells slots Qs D ad cy ex fm A pc lv st hp := by
  intro hv hs H locs ls hP hS hl
  rcases ldA_e h with ⟨a, b, hm, hz⟩ | ⟨k, hm, hz⟩
  · exact lv_aload hC.1 hC.2.1 hd (lvm_at hl hm) (hz hv (vs_cn (hv _ hm) hs) H locs ls hP hS hl)
  · exact lv_aload hC.1 hC.2.1 hd (lvm_at hl hm) (hz hv (vs_cn trivial hs) H locs ls hP hS hl)
theorem ok_aload_n (hC : CX p R s m args c cc own nL cells slots D ad cy ex fm A sc) {pc : Nat} {lv : LV} {st : List AV} {hp : HP} {n : Fin 4} (hd : decode cc pc = .ok (.aload_n n, 1)) (h : ldA lv n.val fun v => OK p l e R s m args below meth c nL cells slots Qs D ad cy ex fm A (pc + 1) lv (v :: st) hp) : OK p l e R s m args below meth c nL cells slots Qs D ad cy ex fm A pc lv st hp := by
  intro hv hs H locs ls hP hS hl
  rcases ldA_e h with ⟨a, b, hm, hz⟩ | ⟨k, hm, hz⟩
  · exact lv_aload_n hC.1 hC.2.1 hd rfl (lvm_at hl hm) (hz hv (vs_cn (hv _ hm) hs) H locs ls hP hS hl)
  · exact lv_aload_n hC.1 hC.2.1 hd rfl (lvm_at hl hm) (hz hv (vs_cn trivial hs) H locs ls hP hS hl)
theorem ok_istore (hC : CX p R s m args c cc own nL cells slots D ad cy ex fm A sc) {pc : Nat} {lv : LV} {st : List AV} {hp : HP} {n : Nat} (hd : decode cc pc = .ok (.istore n, 2)) (h : pI st fun x r => nb (n) nL (OK p l e R s m args below meth c nL cells slots Qs D ad cy ex fm A (pc + 2) ((n, vI x) :: lvd (n) false lv) r hp)) : OK p l e R s m args below meth c nL cells slots Qs D ad cy ex fm A pc lv st hp := by
  intro hv hs H locs ls hP hS hl
  obtain ⟨x, r, rfl, hz⟩ := pI_e h
  obtain ⟨hn, hzz⟩ := nb_e hz
  exact lv_istore hC.1 hC.2.1 hd hl hn rfl (fun ls2 hl2 => hzz (vl_cn trivial hv) (vs_tl hs) H locs ls2 hP hS (lvm_st1 hC.2.2.2.2.2.2.2.2.2.1 rfl hl2))
theorem ok_istore_n (hC : CX p R s m args c cc own nL cells slots D ad cy ex fm A sc) {pc : Nat} {lv : LV} {st : List AV} {hp : HP} {n : Fin 4} (hd : decode cc pc = .ok (.istore_n n, 1)) (h : pI st fun x r => nb (n.val) nL (OK p l e R s m args below meth c nL cells slots Qs D ad cy ex fm A (pc + 1) ((n.val, vI x) :: lvd (n.val) false lv) r hp)) : OK p l e R s m args below meth c nL cells slots Qs D ad cy ex fm A pc lv st hp := by
  intro hv hs H locs ls hP hS hl
  obtain ⟨x, r, rfl, hz⟩ := pI_e h
  obtain ⟨hn, hzz⟩ := nb_e hz
  exact lv_istore_n hC.1 hC.2.1 hd rfl hl hn rfl (fun ls2 hl2 => hzz (vl_cn trivial hv) (vs_tl hs) H locs ls2 hP hS (lvm_st1 hC.2.2.2.2.2.2.2.2.2.1 rfl hl2))
theorem ok_lstore (hC : CX p R s m args c cc own nL cells slots D ad cy ex fm A sc) {pc : Nat} {lv : LV} {st : List AV} {hp : HP} {n : Nat} (hd : decode cc pc = .ok (.lstore n, 2)) (h : pL st fun x r => nb (n + 1) nL (OK p l e R s m args below meth c nL cells slots Qs D ad cy ex fm A (pc + 2) ((n, vL x) :: lvd (n) true lv) r hp)) : OK p l e R s m args below meth c nL cells slots Qs D ad cy ex fm A pc lv st hp := by
  intro hv hs H locs ls hP hS hl
  obtain ⟨x, r, rfl, hz⟩ := pL_e h
  obtain ⟨hn, hzz⟩ := nb_e hz
  exact lv_lstore hC.1 hC.2.1 hd hl hn rfl (fun ls2 hl2 => hzz (vl_cn trivial hv) (vs_tl hs) H locs ls2 hP hS (lvm_st2 hC.2.2.2.2.2.2.2.2.2.1 rfl hl2))
theorem ok_lstore_n (hC : CX p R s m args c cc own nL cells slots D ad cy ex fm A sc) {pc : Nat} {lv : LV} {st : List AV} {hp : HP} {n : Fin 4} (hd : decode cc pc = .ok (.lstore_n n, 1)) (h : pL st fun x r => nb (n.val + 1) nL (OK p l e R s m args below meth c nL cells slots Qs D ad cy ex fm A (pc + 1) ((n.val, vL x) :: lvd (n.val) true lv) r hp)) : OK p l e R s m args below meth c nL cells slots Qs D ad cy ex fm A pc lv st hp := by
  intro hv hs H locs ls hP hS hl
  obtain ⟨x, r, rfl, hz⟩ := pL_e h
  obtain ⟨hn, hzz⟩ := nb_e hz
  exact lv_lstore_n hC.1 hC.2.1 hd rfl hl hn rfl (fun ls2 hl2 => hzz (vl_cn trivial hv) (vs_tl hs) H locs ls2 hP hS (lvm_st2 hC.2.2.2.2.2.2.2.2.2.1 rfl hl2))
theorem ok_astore (hC : CX p R s m args c cc own nL cells slots D ad cy ex fm A sc) {pc : Nat} {lv : LV} {st : List AV} {hp : HP} {n : Nat} (hd : decode cc pc = .ok (.astore n, 2)) (h : pA st (fun k c2 r => nb (n) nL (OK p l e R s m args below meth c nL cells slots Qs D ad cy ex fm A (pc + 2) ((n, vR k c2) :: lvd (n) false lv) r hp)) (fun k r => match k with | k + 1 => nb (n) nL (OK p l e R s m args below meth c nL cells slots Qs D ad cy ex fm A (pc + 2) ((n, vX (k + 1)) :: lvd (n) false lv) r hp) | 0 => False)) : OK p l e R s m args below meth c nL cells slots Qs D ad cy ex fm A pc lv st hp := by
  intro hv hs H locs ls hP hS hl
  rcases pA_e h with ⟨a, b, r, rfl, hz⟩ | ⟨k, r, rfl, hz⟩
  · obtain ⟨hn, hzz⟩ := nb_e hz
    exact lv_astore hC.1 hC.2.1 hd hl hn rfl (fun ls2 hl2 => hzz (vl_cn (vs_hd hs) hv) (vs_tl hs) H locs ls2 hP hS (lvm_st1 hC.2.2.2.2.2.2.2.2.2.1 rfl hl2))
  · match k, hz with
    | 0, hz => exact hz.elim
    | k + 1, hz =>
      obtain ⟨hn, hzzz⟩ := nb_e hz
      exact lv_astore hC.1 hC.2.1 hd hl hn rfl (fun ls2 hl2 => hzzz (vl_cn trivial hv) (vs_tl hs) H locs ls2 hP hS (lvm_st1 hC.2.2.2.2.2.2.2.2.2.1 rfl hl2))
theorem ok_astore_n (hC : CX p R s m args c cc own nL cells slots D ad cy ex fm A sc) {pc : Nat} {lv : LV} {st : List AV} {hp : HP} {n : Fin 4} (hd : decode cc pc = .ok (.astore_n n, 1)) (h : pA st (fun k c2 r => nb (n.val) nL (OK p l e R s m args below meth c nL cells slots Qs D ad cy ex fm A (pc + 1) ((n.val, vR k c2) :: lvd (n.val) false lv) r hp)) (fun k r => match k with | k + 1 => nb (n.val) nL (OK p l e R s m args below meth c nL cells slots Qs D ad cy ex fm A (pc + 1) ((n.val, vX (k + 1)) :: lvd (n.val) false lv) r hp) | 0 => False)) : OK p l e R s m args below meth c nL cells slots Qs D ad cy ex fm A pc lv st hp := by
  intro hv hs H locs ls hP hS hl
  rcases pA_e h with ⟨a, b, r, rfl, hz⟩ | ⟨k, r, rfl, hz⟩
  · obtain ⟨hn, hzz⟩ := nb_e hz
    exact lv_astore_n hC.1 hC.2.1 hd rfl hl hn rfl (fun ls2 hl2 => hzz (vl_cn (vs_hd hs) hv) (vs_tl hs) H locs ls2 hP hS (lvm_st1 hC.2.2.2.2.2.2.2.2.2.1 rfl hl2))
  · match k, hz with
    | 0, hz => exact hz.elim
    | k + 1, hz =>
      obtain ⟨hn, hzzz⟩ := nb_e hz
      exact lv_astore_n hC.1 hC.2.1 hd rfl hl hn rfl (fun ls2 hl2 => hzzz (vl_cn trivial hv) (vs_tl hs) H locs ls2 hP hS (lvm_st1 hC.2.2.2.2.2.2.2.2.2.1 rfl hl2))
theorem ok_iinc (hC : CX p R s m args c cc own nL cells slots D ad cy ex fm A sc) {pc : Nat} {lv : LV} {st : List AV} {hp : HP} {n : Nat} {d : Int} {tg : List Nat} (hd : decode cc pc = .ok (.iinc n d, 3)) (hkc : Int32.ofInt d = cs tg d) (h : ldI lv n fun v => pI [v] fun x _ => acK tg x d fun y => nb n nL (OK p l e R s m args below meth c nL cells slots Qs D ad cy ex fm A (pc + 3) ((n, vI y) :: lvd n false lv) st hp)) : OK p l e R s m args below meth c nL cells slots Qs D ad cy ex fm A pc lv st hp := by
  intro hv hs H locs ls hP hS hl
  obtain ⟨x, hm, hz⟩ := ldI_e h
  obtain ⟨x2, r2, e2, hzz⟩ := pI_e hz
  cases e2
  have hzzz : _ := acK_e hzz
  obtain ⟨hn, hzzzz⟩ := nb_e hzzz
  obtain ⟨k, hk⟩ := List.getElem?_of_mem (List.mem_map.mpr ⟨(n, vI x), hm, rfl⟩ : (n, Value.int x) ∈ lvm ad ex fm lv)
  exact lv_iinc hC.1 hC.2.1 hd hl hk (ac_eq hkc) hn rfl (fun ls2 hl2 => hzzzz (vl_cn trivial hv) hs H locs ls2 hP hS (lvm_st1 hC.2.2.2.2.2.2.2.2.2.1 rfl hl2))
theorem ok_iconst (hC : CX p R s m args c cc own nL cells slots D ad cy ex fm A sc) {pc : Nat} {lv : LV} {st : List AV} {hp : HP} {d : Int} {tg : List Nat} (hd : decode cc pc = .ok (.iconst d, 1)) (hk : Int32.ofInt d = cs tg d) (h : csK tg d fun x => OK p l e R s m args below meth c nL cells slots Qs D ad cy ex fm A (pc + 1) lv (vI x :: st) hp) : OK p l e R s m args below meth c nL cells slots Qs D ad cy ex fm A pc lv st hp := by
  intro hv hs H locs ls hP hS hl
  have hz : _ := csK_e h
  exact lv_iconst hC.1 hC.2.1 hd hk (hz hv (vs_cn trivial hs) H locs ls hP hS hl)
theorem ok_bipush (hC : CX p R s m args c cc own nL cells slots D ad cy ex fm A sc) {pc : Nat} {lv : LV} {st : List AV} {hp : HP} {d : Int} {tg : List Nat} (hd : decode cc pc = .ok (.bipush d, 2)) (hk : (Int8.ofInt d).toInt32 = cs tg d) (h : csK tg d fun x => OK p l e R s m args below meth c nL cells slots Qs D ad cy ex fm A (pc + 2) lv (vI x :: st) hp) : OK p l e R s m args below meth c nL cells slots Qs D ad cy ex fm A pc lv st hp := by
  intro hv hs H locs ls hP hS hl
  have hz : _ := csK_e h
  exact lv_bipush hC.1 hC.2.1 hd hk (hz hv (vs_cn trivial hs) H locs ls hP hS hl)
theorem ok_sipush (hC : CX p R s m args c cc own nL cells slots D ad cy ex fm A sc) {pc : Nat} {lv : LV} {st : List AV} {hp : HP} {d : Int} {tg : List Nat} (hd : decode cc pc = .ok (.sipush d, 3)) (hk : (Int16.ofInt d).toInt32 = cs tg d) (h : csK tg d fun x => OK p l e R s m args below meth c nL cells slots Qs D ad cy ex fm A (pc + 3) lv (vI x :: st) hp) : OK p l e R s m args below meth c nL cells slots Qs D ad cy ex fm A pc lv st hp := by
  intro hv hs H locs ls hP hS hl
  have hz : _ := csK_e h
  exact lv_sipush hC.1 hC.2.1 hd hk (hz hv (vs_cn trivial hs) H locs ls hP hS hl)
theorem ok_lconst (hC : CX p R s m args c cc own nL cells slots D ad cy ex fm A sc) {pc : Nat} {lv : LV} {st : List AV} {hp : HP} {n : Fin 2} (hd : decode cc pc = .ok (.lconst n, 1)) (h : OK p l e R s m args below meth c nL cells slots Qs D ad cy ex fm A (pc + 1) lv (vL (lN n.val) :: st) hp) : OK p l e R s m args below meth c nL cells slots Qs D ad cy ex fm A pc lv st hp := by
  intro hv hs H locs ls hP hS hl
  exact lv_lconst hC.1 hC.2.1 hd rfl (h hv (vs_cn trivial hs) H locs ls hP hS hl)
theorem ok_ldc (hC : CX p R s m args c cc own nL cells slots D ad cy ex fm A sc) {pc : Nat} {lv : LV} {st : List AV} {hp : HP} {n : Nat} {K : LKS} (hK : lkok own K) (hd : decode cc pc = .ok (.ldc n, 2)) (h : match lk K.2.1 n with | some x => OK p l e R s m args below meth c nL cells slots Qs D ad cy ex fm A (pc + 2) lv (vI x :: st) hp | none => (match lk K.2.2.2.1 n with | some v => OK p l e R s m args below meth c nL cells slots Qs D ad cy ex fm A (pc + 2) lv (v :: st) hp | none => False)) : OK p l e R s m args below meth c nL cells slots Qs D ad cy ex fm A pc lv st hp := by
  intro hv hs H locs ls hP hS hl
  split at h
  · next x hx => exact lv_ldc hC.1 hC.2.1 hC.2.2.2.1 (hC.2.2.2.2.1 _ (hK.2.1 _ (lk_mem hx))) hd (h hv (vs_cn trivial hs) H locs ls hP hS hl)
  · split at h
    · next v hx =>
      obtain ⟨t, ht, h1, h2, h3, h4⟩ := hK.2.2.2.1 _ (lk_mem hx)
      obtain ⟨o, ix, tx, q⟩ := t
      dsimp only at h1 h2 h3 h4
      subst h1 h2 h3
      have hR := hC.2.2.2.2.2.2.2.2.1.2.2.2.2.1 _ ht
      dsimp only at hR
      rw [show q = q - 1 + 1 by omega] at hR
      exact va_ldcS hC.1 hC.2.1 hC.2.2.2.1 hR hd (h hv (vs_cn trivial hs) H locs ls hP hS hl)
    · exact h.elim
theorem ok_ldc_w (hC : CX p R s m args c cc own nL cells slots D ad cy ex fm A sc) {pc : Nat} {lv : LV} {st : List AV} {hp : HP} {n : Nat} {K : LKS} (hK : lkok own K) (hd : decode cc pc = .ok (.ldc_w n, 3)) (h : match lk K.2.1 n with | some x => OK p l e R s m args below meth c nL cells slots Qs D ad cy ex fm A (pc + 3) lv (vI x :: st) hp | none => (match lk K.2.2.2.1 n with | some v => OK p l e R s m args below meth c nL cells slots Qs D ad cy ex fm A (pc + 3) lv (v :: st) hp | none => False)) : OK p l e R s m args below meth c nL cells slots Qs D ad cy ex fm A pc lv st hp := by
  intro hv hs H locs ls hP hS hl
  split at h
  · next x hx => exact lv_ldcw hC.1 hC.2.1 hC.2.2.2.1 (hC.2.2.2.2.1 _ (hK.2.1 _ (lk_mem hx))) hd (h hv (vs_cn trivial hs) H locs ls hP hS hl)
  · split at h
    · next v hx =>
      obtain ⟨t, ht, h1, h2, h3, h4⟩ := hK.2.2.2.1 _ (lk_mem hx)
      obtain ⟨o, ix, tx, q⟩ := t
      dsimp only at h1 h2 h3 h4
      subst h1 h2 h3
      have hR := hC.2.2.2.2.2.2.2.2.1.2.2.2.2.1 _ ht
      dsimp only at hR
      rw [show q = q - 1 + 1 by omega] at hR
      exact ab_ldcSw hC.1 hC.2.1 hC.2.2.2.1 hR hd (h hv (vs_cn trivial hs) H locs ls hP hS hl)
    · exact h.elim
theorem ok_ldc2_w (hC : CX p R s m args c cc own nL cells slots D ad cy ex fm A sc) {pc : Nat} {lv : LV} {st : List AV} {hp : HP} {n : Nat} {K : LKS} (hK : lkok own K) (hd : decode cc pc = .ok (.ldc2_w n, 3)) (h : match lk K.2.2.1 n with | some x => OK p l e R s m args below meth c nL cells slots Qs D ad cy ex fm A (pc + 3) lv (vL x :: st) hp | none => False) : OK p l e R s m args below meth c nL cells slots Qs D ad cy ex fm A pc lv st hp := by
  intro hv hs H locs ls hP hS hl
  split at h
  · next x hx => exact lv_ldc2 hC.1 hC.2.1 hC.2.2.2.1 (hC.2.2.2.2.1 _ (hK.2.2.1 _ (lk_mem hx))) hd (h hv (vs_cn trivial hs) H locs ls hP hS hl)
  · exact h.elim
theorem ok_getstatic (hC : CX p R s m args c cc own nL cells slots D ad cy ex fm A sc) {pc : Nat} {lv : LV} {st : List AV} {hp : HP} {n : Nat} {K : LKS} (hK : lkok own K) (hd : decode cc pc = .ok (.getstatic n, 3)) (h : match lk K.2.2.2.2.1 n with | some v => OK p l e R s m args below meth c nL cells slots Qs D ad cy ex fm A (pc + 3) lv (v :: st) hp | none => False) : OK p l e R s m args below meth c nL cells slots Qs D ad cy ex fm A pc lv st hp := by
  intro hv hs H locs ls hP hS hl
  split at h
  · next v hx =>
    have hX := hC.2.2.2.2.2.2.2.2.1
    rcases hK.2.2.2.2.1 _ (lk_mem hx) with ⟨hl1, he⟩ | ⟨hl1, he⟩ | ⟨hl1, he⟩
    · dsimp only at he hl1
      subst he
      exact va_gets hC.1 hC.2.1 hX.1.2 hS hC.2.2.2.1 (hC.2.2.2.2.1 _ hl1) (fun _ h9 => h9) hd (h hv (vs_cn trivial hs) H locs ls hP hS hl)
    · dsimp only at he hl1
      subst he
      exact va_gets hC.1 hC.2.1 hX.2.1 hS hC.2.2.2.1 (hC.2.2.2.2.1 _ hl1) (fun _ h9 => h9) hd (h hv (vs_cn trivial hs) H locs ls hP hS hl)
    · dsimp only at he hl1
      subst he
      exact va_gets hC.1 hC.2.1 hX.2.2.1 hS hC.2.2.2.1 (hC.2.2.2.2.1 _ hl1) (fun _ h9 => h9) hd (h hv (vs_cn trivial hs) H locs ls hP hS hl)
  · exact h.elim
theorem ok_iadd (hC : CX p R s m args c cc own nL cells slots D ad cy ex fm A sc) {pc : Nat} {lv : LV} {st : List AV} {hp : HP} (hd : decode cc pc = .ok (.iadd, 1)) (h : pI st fun y r => pI r fun x r => OK p l e R s m args below meth c nL cells slots Qs D ad cy ex fm A (pc + 1) lv (vI (x + y) :: r) hp) : OK p l e R s m args below meth c nL cells slots Qs D ad cy ex fm A pc lv st hp := by
  intro hv hs H locs ls hP hS hl
  obtain ⟨y, r, rfl, hz⟩ := pI_e h
  obtain ⟨x, r, rfl, hzz⟩ := pI_e hz
  exact lv_iadd hC.1 hC.2.1 hd (hzz hv (vs_cn trivial (vs_tl (vs_tl hs))) H locs ls hP hS hl)
theorem ok_isub (hC : CX p R s m args c cc own nL cells slots D ad cy ex fm A sc) {pc : Nat} {lv : LV} {st : List AV} {hp : HP} (hd : decode cc pc = .ok (.isub, 1)) (h : pI st fun y r => pI r fun x r => OK p l e R s m args below meth c nL cells slots Qs D ad cy ex fm A (pc + 1) lv (vI (x - y) :: r) hp) : OK p l e R s m args below meth c nL cells slots Qs D ad cy ex fm A pc lv st hp := by
  intro hv hs H locs ls hP hS hl
  obtain ⟨y, r, rfl, hz⟩ := pI_e h
  obtain ⟨x, r, rfl, hzz⟩ := pI_e hz
  exact lv_isub hC.1 hC.2.1 hd (hzz hv (vs_cn trivial (vs_tl (vs_tl hs))) H locs ls hP hS hl)
theorem ok_imul (hC : CX p R s m args c cc own nL cells slots D ad cy ex fm A sc) {pc : Nat} {lv : LV} {st : List AV} {hp : HP} (hd : decode cc pc = .ok (.imul, 1)) (h : pI st fun y r => pI r fun x r => OK p l e R s m args below meth c nL cells slots Qs D ad cy ex fm A (pc + 1) lv (vI (x * y) :: r) hp) : OK p l e R s m args below meth c nL cells slots Qs D ad cy ex fm A pc lv st hp := by
  intro hv hs H locs ls hP hS hl
  obtain ⟨y, r, rfl, hz⟩ := pI_e h
  obtain ⟨x, r, rfl, hzz⟩ := pI_e hz
  exact lv_imul hC.1 hC.2.1 hd (hzz hv (vs_cn trivial (vs_tl (vs_tl hs))) H locs ls hP hS hl)
theorem ok_iand (hC : CX p R s m args c cc own nL cells slots D ad cy ex fm A sc) {pc : Nat} {lv : LV} {st : List AV} {hp : HP} (hd : decode cc pc = .ok (.iand, 1)) (h : pI st fun y r => pI r fun x r => OK p l e R s m args below meth c nL cells slots Qs D ad cy ex fm A (pc + 1) lv (vI (x &&& y) :: r) hp) : OK p l e R s m args below meth c nL cells slots Qs D ad cy ex fm A pc lv st hp := by
  intro hv hs H locs ls hP hS hl
  obtain ⟨y, r, rfl, hz⟩ := pI_e h
  obtain ⟨x, r, rfl, hzz⟩ := pI_e hz
  exact lv_iand hC.1 hC.2.1 hd (hzz hv (vs_cn trivial (vs_tl (vs_tl hs))) H locs ls hP hS hl)
theorem ok_ior (hC : CX p R s m args c cc own nL cells slots D ad cy ex fm A sc) {pc : Nat} {lv : LV} {st : List AV} {hp : HP} (hd : decode cc pc = .ok (.ior, 1)) (h : pI st fun y r => pI r fun x r => OK p l e R s m args below meth c nL cells slots Qs D ad cy ex fm A (pc + 1) lv (vI (x ||| y) :: r) hp) : OK p l e R s m args below meth c nL cells slots Qs D ad cy ex fm A pc lv st hp := by
  intro hv hs H locs ls hP hS hl
  obtain ⟨y, r, rfl, hz⟩ := pI_e h
  obtain ⟨x, r, rfl, hzz⟩ := pI_e hz
  exact lv_ior hC.1 hC.2.1 hd (hzz hv (vs_cn trivial (vs_tl (vs_tl hs))) H locs ls hP hS hl)
theorem ok_ixor (hC : CX p R s m args c cc own nL cells slots D ad cy ex fm A sc) {pc : Nat} {lv : LV} {st : List AV} {hp : HP} (hd : decode cc pc = .ok (.ixor, 1)) (h : pI st fun y r => pI r fun x r => OK p l e R s m args below meth c nL cells slots Qs D ad cy ex fm A (pc + 1) lv (vI (x ^^^ y) :: r) hp) : OK p l e R s m args below meth c nL cells slots Qs D ad cy ex fm A pc lv st hp := by
  intro hv hs H locs ls hP hS hl
  obtain ⟨y, r, rfl, hz⟩ := pI_e h
  obtain ⟨x, r, rfl, hzz⟩ := pI_e hz
  exact lv_ixor hC.1 hC.2.1 hd (hzz hv (vs_cn trivial (vs_tl (vs_tl hs))) H locs ls hP hS hl)
theorem ok_ishl (hC : CX p R s m args c cc own nL cells slots D ad cy ex fm A sc) {pc : Nat} {lv : LV} {st : List AV} {hp : HP} (hd : decode cc pc = .ok (.ishl, 1)) (h : pI st fun y r => pI r fun x r => OK p l e R s m args below meth c nL cells slots Qs D ad cy ex fm A (pc + 1) lv (vI (x <<< (y &&& 31)) :: r) hp) : OK p l e R s m args below meth c nL cells slots Qs D ad cy ex fm A pc lv st hp := by
  intro hv hs H locs ls hP hS hl
  obtain ⟨y, r, rfl, hz⟩ := pI_e h
  obtain ⟨x, r, rfl, hzz⟩ := pI_e hz
  exact lv_ishl hC.1 hC.2.1 hd (hzz hv (vs_cn trivial (vs_tl (vs_tl hs))) H locs ls hP hS hl)
theorem ok_ishr (hC : CX p R s m args c cc own nL cells slots D ad cy ex fm A sc) {pc : Nat} {lv : LV} {st : List AV} {hp : HP} (hd : decode cc pc = .ok (.ishr, 1)) (h : pI st fun y r => pI r fun x r => OK p l e R s m args below meth c nL cells slots Qs D ad cy ex fm A (pc + 1) lv (vI (x >>> (y &&& 31)) :: r) hp) : OK p l e R s m args below meth c nL cells slots Qs D ad cy ex fm A pc lv st hp := by
  intro hv hs H locs ls hP hS hl
  obtain ⟨y, r, rfl, hz⟩ := pI_e h
  obtain ⟨x, r, rfl, hzz⟩ := pI_e hz
  exact lv_ishr hC.1 hC.2.1 hd (hzz hv (vs_cn trivial (vs_tl (vs_tl hs))) H locs ls hP hS hl)
theorem ok_iushr (hC : CX p R s m args c cc own nL cells slots D ad cy ex fm A sc) {pc : Nat} {lv : LV} {st : List AV} {hp : HP} (hd : decode cc pc = .ok (.iushr, 1)) (h : pI st fun y r => pI r fun x r => OK p l e R s m args below meth c nL cells slots Qs D ad cy ex fm A (pc + 1) lv (vI ((x.toUInt32 >>> (y.toUInt32 &&& Int32.toUInt32 31)).toInt32) :: r) hp) : OK p l e R s m args below meth c nL cells slots Qs D ad cy ex fm A pc lv st hp := by
  intro hv hs H locs ls hP hS hl
  obtain ⟨y, r, rfl, hz⟩ := pI_e h
  obtain ⟨x, r, rfl, hzz⟩ := pI_e hz
  exact lv_iushr hC.1 hC.2.1 hd rfl (hzz hv (vs_cn trivial (vs_tl (vs_tl hs))) H locs ls hP hS hl)
theorem ok_idiv (hC : CX p R s m args c cc own nL cells slots D ad cy ex fm A sc) {pc : Nat} {lv : LV} {st : List AV} {hp : HP} (hd : decode cc pc = .ok (.idiv, 1)) (h : pI st fun y r => pI r fun x r => ¬ y = 0 ∧ OK p l e R s m args below meth c nL cells slots Qs D ad cy ex fm A (pc + 1) lv (vI (x / y) :: r) hp) : OK p l e R s m args below meth c nL cells slots Qs D ad cy ex fm A pc lv st hp := by
  intro hv hs H locs ls hP hS hl
  obtain ⟨y, r, rfl, hz⟩ := pI_e h
  obtain ⟨x, r, rfl, hne, hzz⟩ := pI_e hz
  exact lv_idiv hC.1 hC.2.1 hd hne (hzz hv (vs_cn trivial (vs_tl (vs_tl hs))) H locs ls hP hS hl)
theorem ok_irem (hC : CX p R s m args c cc own nL cells slots D ad cy ex fm A sc) {pc : Nat} {lv : LV} {st : List AV} {hp : HP} (hd : decode cc pc = .ok (.irem, 1)) (h : pI st fun y r => pI r fun x r => ¬ y = 0 ∧ OK p l e R s m args below meth c nL cells slots Qs D ad cy ex fm A (pc + 1) lv (vI (x - x / y * y) :: r) hp) : OK p l e R s m args below meth c nL cells slots Qs D ad cy ex fm A pc lv st hp := by
  intro hv hs H locs ls hP hS hl
  obtain ⟨y, r, rfl, hz⟩ := pI_e h
  obtain ⟨x, r, rfl, hne, hzz⟩ := pI_e hz
  exact lv_irem hC.1 hC.2.1 hd hne (hzz hv (vs_cn trivial (vs_tl (vs_tl hs))) H locs ls hP hS hl)
theorem ok_ladd (hC : CX p R s m args c cc own nL cells slots D ad cy ex fm A sc) {pc : Nat} {lv : LV} {st : List AV} {hp : HP} (hd : decode cc pc = .ok (.ladd, 1)) (h : pL st fun y r => pL r fun x r => OK p l e R s m args below meth c nL cells slots Qs D ad cy ex fm A (pc + 1) lv (vL (x + y) :: r) hp) : OK p l e R s m args below meth c nL cells slots Qs D ad cy ex fm A pc lv st hp := by
  intro hv hs H locs ls hP hS hl
  obtain ⟨y, r, rfl, hz⟩ := pL_e h
  obtain ⟨x, r, rfl, hzz⟩ := pL_e hz
  exact lv_ladd hC.1 hC.2.1 hd (hzz hv (vs_cn trivial (vs_tl (vs_tl hs))) H locs ls hP hS hl)
theorem ok_lsub (hC : CX p R s m args c cc own nL cells slots D ad cy ex fm A sc) {pc : Nat} {lv : LV} {st : List AV} {hp : HP} (hd : decode cc pc = .ok (.lsub, 1)) (h : pL st fun y r => pL r fun x r => OK p l e R s m args below meth c nL cells slots Qs D ad cy ex fm A (pc + 1) lv (vL (x - y) :: r) hp) : OK p l e R s m args below meth c nL cells slots Qs D ad cy ex fm A pc lv st hp := by
  intro hv hs H locs ls hP hS hl
  obtain ⟨y, r, rfl, hz⟩ := pL_e h
  obtain ⟨x, r, rfl, hzz⟩ := pL_e hz
  exact lv_lsub hC.1 hC.2.1 hd (hzz hv (vs_cn trivial (vs_tl (vs_tl hs))) H locs ls hP hS hl)
theorem ok_lmul (hC : CX p R s m args c cc own nL cells slots D ad cy ex fm A sc) {pc : Nat} {lv : LV} {st : List AV} {hp : HP} (hd : decode cc pc = .ok (.lmul, 1)) (h : pL st fun y r => pL r fun x r => OK p l e R s m args below meth c nL cells slots Qs D ad cy ex fm A (pc + 1) lv (vL (x * y) :: r) hp) : OK p l e R s m args below meth c nL cells slots Qs D ad cy ex fm A pc lv st hp := by
  intro hv hs H locs ls hP hS hl
  obtain ⟨y, r, rfl, hz⟩ := pL_e h
  obtain ⟨x, r, rfl, hzz⟩ := pL_e hz
  exact lv_lmul hC.1 hC.2.1 hd (hzz hv (vs_cn trivial (vs_tl (vs_tl hs))) H locs ls hP hS hl)
theorem ok_land (hC : CX p R s m args c cc own nL cells slots D ad cy ex fm A sc) {pc : Nat} {lv : LV} {st : List AV} {hp : HP} (hd : decode cc pc = .ok (.land, 1)) (h : pL st fun y r => pL r fun x r => OK p l e R s m args below meth c nL cells slots Qs D ad cy ex fm A (pc + 1) lv (vL (x &&& y) :: r) hp) : OK p l e R s m args below meth c nL cells slots Qs D ad cy ex fm A pc lv st hp := by
  intro hv hs H locs ls hP hS hl
  obtain ⟨y, r, rfl, hz⟩ := pL_e h
  obtain ⟨x, r, rfl, hzz⟩ := pL_e hz
  exact lv_land hC.1 hC.2.1 hd (hzz hv (vs_cn trivial (vs_tl (vs_tl hs))) H locs ls hP hS hl)
theorem ok_lor (hC : CX p R s m args c cc own nL cells slots D ad cy ex fm A sc) {pc : Nat} {lv : LV} {st : List AV} {hp : HP} (hd : decode cc pc = .ok (.lor, 1)) (h : pL st fun y r => pL r fun x r => OK p l e R s m args below meth c nL cells slots Qs D ad cy ex fm A (pc + 1) lv (vL (x ||| y) :: r) hp) : OK p l e R s m args below meth c nL cells slots Qs D ad cy ex fm A pc lv st hp := by
  intro hv hs H locs ls hP hS hl
  obtain ⟨y, r, rfl, hz⟩ := pL_e h
  obtain ⟨x, r, rfl, hzz⟩ := pL_e hz
  exact lv_lor hC.1 hC.2.1 hd (hzz hv (vs_cn trivial (vs_tl (vs_tl hs))) H locs ls hP hS hl)
theorem ok_lxor (hC : CX p R s m args c cc own nL cells slots D ad cy ex fm A sc) {pc : Nat} {lv : LV} {st : List AV} {hp : HP} (hd : decode cc pc = .ok (.lxor, 1)) (h : pL st fun y r => pL r fun x r => OK p l e R s m args below meth c nL cells slots Qs D ad cy ex fm A (pc + 1) lv (vL (x ^^^ y) :: r) hp) : OK p l e R s m args below meth c nL cells slots Qs D ad cy ex fm A pc lv st hp := by
  intro hv hs H locs ls hP hS hl
  obtain ⟨y, r, rfl, hz⟩ := pL_e h
  obtain ⟨x, r, rfl, hzz⟩ := pL_e hz
  exact lv_lxor hC.1 hC.2.1 hd (hzz hv (vs_cn trivial (vs_tl (vs_tl hs))) H locs ls hP hS hl)
theorem ok_lshl (hC : CX p R s m args c cc own nL cells slots D ad cy ex fm A sc) {pc : Nat} {lv : LV} {st : List AV} {hp : HP} (hd : decode cc pc = .ok (.lshl, 1)) (h : pI st fun y r => pL r fun x r => OK p l e R s m args below meth c nL cells slots Qs D ad cy ex fm A (pc + 1) lv (vL (x <<< (y.toInt64 &&& 63)) :: r) hp) : OK p l e R s m args below meth c nL cells slots Qs D ad cy ex fm A pc lv st hp := by
  intro hv hs H locs ls hP hS hl
  obtain ⟨y, r, rfl, hz⟩ := pI_e h
  obtain ⟨x, r, rfl, hzz⟩ := pL_e hz
  exact lv_lshl hC.1 hC.2.1 hd rfl (hzz hv (vs_cn trivial (vs_tl (vs_tl hs))) H locs ls hP hS hl)
theorem ok_lshr (hC : CX p R s m args c cc own nL cells slots D ad cy ex fm A sc) {pc : Nat} {lv : LV} {st : List AV} {hp : HP} (hd : decode cc pc = .ok (.lshr, 1)) (h : pI st fun y r => pL r fun x r => OK p l e R s m args below meth c nL cells slots Qs D ad cy ex fm A (pc + 1) lv (vL (x >>> (y.toInt64 &&& 63)) :: r) hp) : OK p l e R s m args below meth c nL cells slots Qs D ad cy ex fm A pc lv st hp := by
  intro hv hs H locs ls hP hS hl
  obtain ⟨y, r, rfl, hz⟩ := pI_e h
  obtain ⟨x, r, rfl, hzz⟩ := pL_e hz
  exact lv_lshr hC.1 hC.2.1 hd rfl (hzz hv (vs_cn trivial (vs_tl (vs_tl hs))) H locs ls hP hS hl)
theorem ok_lushr (hC : CX p R s m args c cc own nL cells slots D ad cy ex fm A sc) {pc : Nat} {lv : LV} {st : List AV} {hp : HP} (hd : decode cc pc = .ok (.lushr, 1)) (h : pI st fun y r => pL r fun x r => OK p l e R s m args below meth c nL cells slots Qs D ad cy ex fm A (pc + 1) lv (vL ((x.toUInt64 >>> (y.toInt64.toUInt64 &&& Int64.toUInt64 63)).toInt64) :: r) hp) : OK p l e R s m args below meth c nL cells slots Qs D ad cy ex fm A pc lv st hp := by
  intro hv hs H locs ls hP hS hl
  obtain ⟨y, r, rfl, hz⟩ := pI_e h
  obtain ⟨x, r, rfl, hzz⟩ := pL_e hz
  exact lv_lushr hC.1 hC.2.1 hd rfl (hzz hv (vs_cn trivial (vs_tl (vs_tl hs))) H locs ls hP hS hl)
theorem ok_i2l (hC : CX p R s m args c cc own nL cells slots D ad cy ex fm A sc) {pc : Nat} {lv : LV} {st : List AV} {hp : HP} (hd : decode cc pc = .ok (.i2l, 1)) (h : pI st fun x r => OK p l e R s m args below meth c nL cells slots Qs D ad cy ex fm A (pc + 1) lv (vL x.toInt64 :: r) hp) : OK p l e R s m args below meth c nL cells slots Qs D ad cy ex fm A pc lv st hp := by
  intro hv hs H locs ls hP hS hl
  obtain ⟨x, r, rfl, hz⟩ := pI_e h
  exact lv_i2l hC.1 hC.2.1 hd rfl (hz hv (vs_cn trivial (vs_tl hs)) H locs ls hP hS hl)
theorem ok_l2i (hC : CX p R s m args c cc own nL cells slots D ad cy ex fm A sc) {pc : Nat} {lv : LV} {st : List AV} {hp : HP} (hd : decode cc pc = .ok (.l2i, 1)) (h : pL st fun x r => OK p l e R s m args below meth c nL cells slots Qs D ad cy ex fm A (pc + 1) lv (vI x.toInt32 :: r) hp) : OK p l e R s m args below meth c nL cells slots Qs D ad cy ex fm A pc lv st hp := by
  intro hv hs H locs ls hP hS hl
  obtain ⟨x, r, rfl, hz⟩ := pL_e h
  exact lv_l2i hC.1 hC.2.1 hd rfl (hz hv (vs_cn trivial (vs_tl hs)) H locs ls hP hS hl)
theorem ok_i2b (hC : CX p R s m args c cc own nL cells slots D ad cy ex fm A sc) {pc : Nat} {lv : LV} {st : List AV} {hp : HP} (hd : decode cc pc = .ok (.i2b, 1)) (h : pI st fun x r => OK p l e R s m args below meth c nL cells slots Qs D ad cy ex fm A (pc + 1) lv (vI x.toInt8.toInt32 :: r) hp) : OK p l e R s m args below meth c nL cells slots Qs D ad cy ex fm A pc lv st hp := by
  intro hv hs H locs ls hP hS hl
  obtain ⟨x, r, rfl, hz⟩ := pI_e h
  exact lv_i2b hC.1 hC.2.1 hd rfl (hz hv (vs_cn trivial (vs_tl hs)) H locs ls hP hS hl)
theorem ok_i2s (hC : CX p R s m args c cc own nL cells slots D ad cy ex fm A sc) {pc : Nat} {lv : LV} {st : List AV} {hp : HP} (hd : decode cc pc = .ok (.i2s, 1)) (h : pI st fun x r => OK p l e R s m args below meth c nL cells slots Qs D ad cy ex fm A (pc + 1) lv (vI x.toInt16.toInt32 :: r) hp) : OK p l e R s m args below meth c nL cells slots Qs D ad cy ex fm A pc lv st hp := by
  intro hv hs H locs ls hP hS hl
  obtain ⟨x, r, rfl, hz⟩ := pI_e h
  exact lv_i2s hC.1 hC.2.1 hd rfl (hz hv (vs_cn trivial (vs_tl hs)) H locs ls hP hS hl)
theorem ok_i2c (hC : CX p R s m args c cc own nL cells slots D ad cy ex fm A sc) {pc : Nat} {lv : LV} {st : List AV} {hp : HP} (hd : decode cc pc = .ok (.i2c, 1)) (h : pI st fun x r => OK p l e R s m args below meth c nL cells slots Qs D ad cy ex fm A (pc + 1) lv (vI (x.toUInt32 % 65536).toInt32 :: r) hp) : OK p l e R s m args below meth c nL cells slots Qs D ad cy ex fm A pc lv st hp := by
  intro hv hs H locs ls hP hS hl
  obtain ⟨x, r, rfl, hz⟩ := pI_e h
  exact lv_i2c hC.1 hC.2.1 hd rfl (hz hv (vs_cn trivial (vs_tl hs)) H locs ls hP hS hl)
theorem ok_lcmp (hC : CX p R s m args c cc own nL cells slots D ad cy ex fm A sc) {pc : Nat} {lv : LV} {st : List AV} {hp : HP} (hd : decode cc pc = .ok (.lcmp, 1)) (h : pL st fun y r => pL r fun x r => OK p l e R s m args below meth c nL cells slots Qs D ad cy ex fm A (pc + 1) lv (vI (lg_cmp x y) :: r) hp) : OK p l e R s m args below meth c nL cells slots Qs D ad cy ex fm A pc lv st hp := by
  intro hv hs H locs ls hP hS hl
  obtain ⟨y, r, rfl, hz⟩ := pL_e h
  obtain ⟨x, r, rfl, hzz⟩ := pL_e hz
  exact W.lcmp hC.1 hC.2.1 hd (hzz hv (vs_cn trivial (vs_tl (vs_tl hs))) H locs ls hP hS hl)
theorem ok_dup (hC : CX p R s m args c cc own nL cells slots D ad cy ex fm A sc) {pc : Nat} {lv : LV} {st : List AV} {hp : HP} (hd : decode cc pc = .ok (.dup, 1)) (h : pV st fun v r => one v (OK p l e R s m args below meth c nL cells slots Qs D ad cy ex fm A (pc + 1) lv (v :: v :: r) hp)) : OK p l e R s m args below meth c nL cells slots Qs D ad cy ex fm A pc lv st hp := by
  intro hv hs H locs ls hP hS hl
  obtain ⟨v, r, rfl, hz⟩ := pV_e h
  obtain ⟨h1, hzz⟩ := one_e hz
  exact lv_dup hC.1 hC.2.1 hd (cv_one hC.2.2.2.2.2.2.2.2.2.1 h1) (hzz hv (vs_cn (vs_hd hs) hs) H locs ls hP hS hl)
theorem ok_dup2 (hC : CX p R s m args c cc own nL cells slots D ad cy ex fm A sc) {pc : Nat} {lv : LV} {st : List AV} {hp : HP} (hd : decode cc pc = .ok (.dup2, 1)) (h : pV st fun v r => pV r fun u r => one v (one u (OK p l e R s m args below meth c nL cells slots Qs D ad cy ex fm A (pc + 1) lv (v :: u :: v :: u :: r) hp))) : OK p l e R s m args below meth c nL cells slots Qs D ad cy ex fm A pc lv st hp := by
  intro hv hs H locs ls hP hS hl
  obtain ⟨v, r, rfl, hz⟩ := pV_e h
  obtain ⟨u, r, rfl, hzz⟩ := pV_e hz
  obtain ⟨h1, hzzz⟩ := one_e hzz
  obtain ⟨h2, hzzzz⟩ := one_e hzzz
  exact lv_dup2_11 hC.1 hC.2.1 hd (cv_one hC.2.2.2.2.2.2.2.2.2.1 h1) (cv_one hC.2.2.2.2.2.2.2.2.2.1 h2) (hzzzz hv (vs_cn (vs_hd hs) (vs_cn (vs_hd (vs_tl hs)) hs)) H locs ls hP hS hl)
theorem ok_pop (hC : CX p R s m args c cc own nL cells slots D ad cy ex fm A sc) {pc : Nat} {lv : LV} {st : List AV} {hp : HP} (hd : decode cc pc = .ok (.pop, 1)) (h : pV st fun v r => one v (OK p l e R s m args below meth c nL cells slots Qs D ad cy ex fm A (pc + 1) lv r hp)) : OK p l e R s m args below meth c nL cells slots Qs D ad cy ex fm A pc lv st hp := by
  intro hv hs H locs ls hP hS hl
  obtain ⟨v, r, rfl, hz⟩ := pV_e h
  obtain ⟨h1, hzz⟩ := one_e hz
  exact lv_pop hC.1 hC.2.1 hd (cv_one hC.2.2.2.2.2.2.2.2.2.1 h1) (hzz hv (vs_tl hs) H locs ls hP hS hl)
theorem ok_icmp_eq (hC : CX p R s m args c cc own nL cells slots D ad cy ex fm A sc) {pc : Nat} {lv : LV} {st : List AV} {hp : HP} {off : Int} {tg : List Nat} (hd : decode cc pc = .ok (.if_icmp .eq off, 3)) (ht : tg.map Int.ofNat = [(pc : Int) + off]) (h : pI st fun y r => pI r fun x r => tg1 tg fun t => (x = y → OK p l e R s m args below meth c nL cells slots Qs D ad cy ex fm A (t) lv r hp) ∧ (¬ x = y → OK p l e R s m args below meth c nL cells slots Qs D ad cy ex fm A (pc + 3) lv r hp)) : OK p l e R s m args below meth c nL cells slots Qs D ad cy ex fm A pc lv st hp := by
  intro hv hs H locs ls hP hS hl
  obtain ⟨y, r, rfl, hz⟩ := pI_e h
  obtain ⟨x, r, rfl, hzz⟩ := pI_e hz
  obtain ⟨t, rfl, h1, h2⟩ := tg1_e hzz
  exact lv_icmp_eq hC.1 hC.2.1 hd (List.cons.inj ht).1.symm (fun hc => h1 hc hv (vs_tl (vs_tl hs)) H locs ls hP hS hl) (fun hc => h2 hc hv (vs_tl (vs_tl hs)) H locs ls hP hS hl)
theorem ok_if_eq (hC : CX p R s m args c cc own nL cells slots D ad cy ex fm A sc) {pc : Nat} {lv : LV} {st : List AV} {hp : HP} {off : Int} {tg : List Nat} (hd : decode cc pc = .ok (.ifCond .eq off, 3)) (ht : tg.map Int.ofNat = [(pc : Int) + off]) (h : pI st fun x r => tg1 tg fun t => (x = 0 → OK p l e R s m args below meth c nL cells slots Qs D ad cy ex fm A (t) lv r hp) ∧ (¬ x = 0 → OK p l e R s m args below meth c nL cells slots Qs D ad cy ex fm A (pc + 3) lv r hp)) : OK p l e R s m args below meth c nL cells slots Qs D ad cy ex fm A pc lv st hp := by
  intro hv hs H locs ls hP hS hl
  obtain ⟨x, r, rfl, hz⟩ := pI_e h
  obtain ⟨t, rfl, h1, h2⟩ := tg1_e hz
  exact lv_if_eq hC.1 hC.2.1 hd (List.cons.inj ht).1.symm (fun hc => h1 hc hv (vs_tl hs) H locs ls hP hS hl) (fun hc => h2 hc hv (vs_tl hs) H locs ls hP hS hl)
theorem ok_icmp_ne (hC : CX p R s m args c cc own nL cells slots D ad cy ex fm A sc) {pc : Nat} {lv : LV} {st : List AV} {hp : HP} {off : Int} {tg : List Nat} (hd : decode cc pc = .ok (.if_icmp .ne off, 3)) (ht : tg.map Int.ofNat = [(pc : Int) + off]) (h : pI st fun y r => pI r fun x r => tg1 tg fun t => (¬ x = y → OK p l e R s m args below meth c nL cells slots Qs D ad cy ex fm A (t) lv r hp) ∧ (x = y → OK p l e R s m args below meth c nL cells slots Qs D ad cy ex fm A (pc + 3) lv r hp)) : OK p l e R s m args below meth c nL cells slots Qs D ad cy ex fm A pc lv st hp := by
  intro hv hs H locs ls hP hS hl
  obtain ⟨y, r, rfl, hz⟩ := pI_e h
  obtain ⟨x, r, rfl, hzz⟩ := pI_e hz
  obtain ⟨t, rfl, h1, h2⟩ := tg1_e hzz
  exact lv_icmp_ne hC.1 hC.2.1 hd (List.cons.inj ht).1.symm (fun hc => h1 hc hv (vs_tl (vs_tl hs)) H locs ls hP hS hl) (fun hc => h2 hc hv (vs_tl (vs_tl hs)) H locs ls hP hS hl)
theorem ok_if_ne (hC : CX p R s m args c cc own nL cells slots D ad cy ex fm A sc) {pc : Nat} {lv : LV} {st : List AV} {hp : HP} {off : Int} {tg : List Nat} (hd : decode cc pc = .ok (.ifCond .ne off, 3)) (ht : tg.map Int.ofNat = [(pc : Int) + off]) (h : pI st fun x r => tg1 tg fun t => (¬ x = 0 → OK p l e R s m args below meth c nL cells slots Qs D ad cy ex fm A (t) lv r hp) ∧ (x = 0 → OK p l e R s m args below meth c nL cells slots Qs D ad cy ex fm A (pc + 3) lv r hp)) : OK p l e R s m args below meth c nL cells slots Qs D ad cy ex fm A pc lv st hp := by
  intro hv hs H locs ls hP hS hl
  obtain ⟨x, r, rfl, hz⟩ := pI_e h
  obtain ⟨t, rfl, h1, h2⟩ := tg1_e hz
  exact lv_if_ne hC.1 hC.2.1 hd (List.cons.inj ht).1.symm (fun hc => h1 hc hv (vs_tl hs) H locs ls hP hS hl) (fun hc => h2 hc hv (vs_tl hs) H locs ls hP hS hl)
theorem ok_icmp_lt (hC : CX p R s m args c cc own nL cells slots D ad cy ex fm A sc) {pc : Nat} {lv : LV} {st : List AV} {hp : HP} {off : Int} {tg : List Nat} (hd : decode cc pc = .ok (.if_icmp .lt off, 3)) (ht : tg.map Int.ofNat = [(pc : Int) + off]) (h : pI st fun y r => pI r fun x r => tg1 tg fun t => (x < y → OK p l e R s m args below meth c nL cells slots Qs D ad cy ex fm A (t) lv r hp) ∧ (¬ x < y → OK p l e R s m args below meth c nL cells slots Qs D ad cy ex fm A (pc + 3) lv r hp)) : OK p l e R s m args below meth c nL cells slots Qs D ad cy ex fm A pc lv st hp := by
  intro hv hs H locs ls hP hS hl
  obtain ⟨y, r, rfl, hz⟩ := pI_e h
  obtain ⟨x, r, rfl, hzz⟩ := pI_e hz
  obtain ⟨t, rfl, h1, h2⟩ := tg1_e hzz
  exact lv_icmp_lt hC.1 hC.2.1 hd (List.cons.inj ht).1.symm (fun hc => h1 hc hv (vs_tl (vs_tl hs)) H locs ls hP hS hl) (fun hc => h2 hc hv (vs_tl (vs_tl hs)) H locs ls hP hS hl)
theorem ok_if_lt (hC : CX p R s m args c cc own nL cells slots D ad cy ex fm A sc) {pc : Nat} {lv : LV} {st : List AV} {hp : HP} {off : Int} {tg : List Nat} (hd : decode cc pc = .ok (.ifCond .lt off, 3)) (ht : tg.map Int.ofNat = [(pc : Int) + off]) (h : pI st fun x r => tg1 tg fun t => (x < 0 → OK p l e R s m args below meth c nL cells slots Qs D ad cy ex fm A (t) lv r hp) ∧ (¬ x < 0 → OK p l e R s m args below meth c nL cells slots Qs D ad cy ex fm A (pc + 3) lv r hp)) : OK p l e R s m args below meth c nL cells slots Qs D ad cy ex fm A pc lv st hp := by
  intro hv hs H locs ls hP hS hl
  obtain ⟨x, r, rfl, hz⟩ := pI_e h
  obtain ⟨t, rfl, h1, h2⟩ := tg1_e hz
  exact lv_if_lt hC.1 hC.2.1 hd (List.cons.inj ht).1.symm (fun hc => h1 hc hv (vs_tl hs) H locs ls hP hS hl) (fun hc => h2 hc hv (vs_tl hs) H locs ls hP hS hl)
theorem ok_icmp_ge (hC : CX p R s m args c cc own nL cells slots D ad cy ex fm A sc) {pc : Nat} {lv : LV} {st : List AV} {hp : HP} {off : Int} {tg : List Nat} (hd : decode cc pc = .ok (.if_icmp .ge off, 3)) (ht : tg.map Int.ofNat = [(pc : Int) + off]) (h : pI st fun y r => pI r fun x r => tg1 tg fun t => (y ≤ x → OK p l e R s m args below meth c nL cells slots Qs D ad cy ex fm A (t) lv r hp) ∧ (¬ y ≤ x → OK p l e R s m args below meth c nL cells slots Qs D ad cy ex fm A (pc + 3) lv r hp)) : OK p l e R s m args below meth c nL cells slots Qs D ad cy ex fm A pc lv st hp := by
  intro hv hs H locs ls hP hS hl
  obtain ⟨y, r, rfl, hz⟩ := pI_e h
  obtain ⟨x, r, rfl, hzz⟩ := pI_e hz
  obtain ⟨t, rfl, h1, h2⟩ := tg1_e hzz
  exact lv_icmp_ge hC.1 hC.2.1 hd (List.cons.inj ht).1.symm (fun hc => h1 hc hv (vs_tl (vs_tl hs)) H locs ls hP hS hl) (fun hc => h2 hc hv (vs_tl (vs_tl hs)) H locs ls hP hS hl)
theorem ok_if_ge (hC : CX p R s m args c cc own nL cells slots D ad cy ex fm A sc) {pc : Nat} {lv : LV} {st : List AV} {hp : HP} {off : Int} {tg : List Nat} (hd : decode cc pc = .ok (.ifCond .ge off, 3)) (ht : tg.map Int.ofNat = [(pc : Int) + off]) (h : pI st fun x r => tg1 tg fun t => (0 ≤ x → OK p l e R s m args below meth c nL cells slots Qs D ad cy ex fm A (t) lv r hp) ∧ (¬ 0 ≤ x → OK p l e R s m args below meth c nL cells slots Qs D ad cy ex fm A (pc + 3) lv r hp)) : OK p l e R s m args below meth c nL cells slots Qs D ad cy ex fm A pc lv st hp := by
  intro hv hs H locs ls hP hS hl
  obtain ⟨x, r, rfl, hz⟩ := pI_e h
  obtain ⟨t, rfl, h1, h2⟩ := tg1_e hz
  exact lv_if_ge hC.1 hC.2.1 hd (List.cons.inj ht).1.symm (fun hc => h1 hc hv (vs_tl hs) H locs ls hP hS hl) (fun hc => h2 hc hv (vs_tl hs) H locs ls hP hS hl)
theorem ok_icmp_gt (hC : CX p R s m args c cc own nL cells slots D ad cy ex fm A sc) {pc : Nat} {lv : LV} {st : List AV} {hp : HP} {off : Int} {tg : List Nat} (hd : decode cc pc = .ok (.if_icmp .gt off, 3)) (ht : tg.map Int.ofNat = [(pc : Int) + off]) (h : pI st fun y r => pI r fun x r => tg1 tg fun t => (y < x → OK p l e R s m args below meth c nL cells slots Qs D ad cy ex fm A (t) lv r hp) ∧ (¬ y < x → OK p l e R s m args below meth c nL cells slots Qs D ad cy ex fm A (pc + 3) lv r hp)) : OK p l e R s m args below meth c nL cells slots Qs D ad cy ex fm A pc lv st hp := by
  intro hv hs H locs ls hP hS hl
  obtain ⟨y, r, rfl, hz⟩ := pI_e h
  obtain ⟨x, r, rfl, hzz⟩ := pI_e hz
  obtain ⟨t, rfl, h1, h2⟩ := tg1_e hzz
  exact lv_icmp_gt hC.1 hC.2.1 hd (List.cons.inj ht).1.symm (fun hc => h1 hc hv (vs_tl (vs_tl hs)) H locs ls hP hS hl) (fun hc => h2 hc hv (vs_tl (vs_tl hs)) H locs ls hP hS hl)
theorem ok_if_gt (hC : CX p R s m args c cc own nL cells slots D ad cy ex fm A sc) {pc : Nat} {lv : LV} {st : List AV} {hp : HP} {off : Int} {tg : List Nat} (hd : decode cc pc = .ok (.ifCond .gt off, 3)) (ht : tg.map Int.ofNat = [(pc : Int) + off]) (h : pI st fun x r => tg1 tg fun t => (0 < x → OK p l e R s m args below meth c nL cells slots Qs D ad cy ex fm A (t) lv r hp) ∧ (¬ 0 < x → OK p l e R s m args below meth c nL cells slots Qs D ad cy ex fm A (pc + 3) lv r hp)) : OK p l e R s m args below meth c nL cells slots Qs D ad cy ex fm A pc lv st hp := by
  intro hv hs H locs ls hP hS hl
  obtain ⟨x, r, rfl, hz⟩ := pI_e h
  obtain ⟨t, rfl, h1, h2⟩ := tg1_e hz
  exact lv_if_gt hC.1 hC.2.1 hd (List.cons.inj ht).1.symm (fun hc => h1 hc hv (vs_tl hs) H locs ls hP hS hl) (fun hc => h2 hc hv (vs_tl hs) H locs ls hP hS hl)
theorem ok_icmp_le (hC : CX p R s m args c cc own nL cells slots D ad cy ex fm A sc) {pc : Nat} {lv : LV} {st : List AV} {hp : HP} {off : Int} {tg : List Nat} (hd : decode cc pc = .ok (.if_icmp .le off, 3)) (ht : tg.map Int.ofNat = [(pc : Int) + off]) (h : pI st fun y r => pI r fun x r => tg1 tg fun t => (x ≤ y → OK p l e R s m args below meth c nL cells slots Qs D ad cy ex fm A (t) lv r hp) ∧ (¬ x ≤ y → OK p l e R s m args below meth c nL cells slots Qs D ad cy ex fm A (pc + 3) lv r hp)) : OK p l e R s m args below meth c nL cells slots Qs D ad cy ex fm A pc lv st hp := by
  intro hv hs H locs ls hP hS hl
  obtain ⟨y, r, rfl, hz⟩ := pI_e h
  obtain ⟨x, r, rfl, hzz⟩ := pI_e hz
  obtain ⟨t, rfl, h1, h2⟩ := tg1_e hzz
  exact lv_icmp_le hC.1 hC.2.1 hd (List.cons.inj ht).1.symm (fun hc => h1 hc hv (vs_tl (vs_tl hs)) H locs ls hP hS hl) (fun hc => h2 hc hv (vs_tl (vs_tl hs)) H locs ls hP hS hl)
theorem ok_if_le (hC : CX p R s m args c cc own nL cells slots D ad cy ex fm A sc) {pc : Nat} {lv : LV} {st : List AV} {hp : HP} {off : Int} {tg : List Nat} (hd : decode cc pc = .ok (.ifCond .le off, 3)) (ht : tg.map Int.ofNat = [(pc : Int) + off]) (h : pI st fun x r => tg1 tg fun t => (x ≤ 0 → OK p l e R s m args below meth c nL cells slots Qs D ad cy ex fm A (t) lv r hp) ∧ (¬ x ≤ 0 → OK p l e R s m args below meth c nL cells slots Qs D ad cy ex fm A (pc + 3) lv r hp)) : OK p l e R s m args below meth c nL cells slots Qs D ad cy ex fm A pc lv st hp := by
  intro hv hs H locs ls hP hS hl
  obtain ⟨x, r, rfl, hz⟩ := pI_e h
  obtain ⟨t, rfl, h1, h2⟩ := tg1_e hz
  exact lv_if_le hC.1 hC.2.1 hd (List.cons.inj ht).1.symm (fun hc => h1 hc hv (vs_tl hs) H locs ls hP hS hl) (fun hc => h2 hc hv (vs_tl hs) H locs ls hP hS hl)
theorem ok_goto (hC : CX p R s m args c cc own nL cells slots D ad cy ex fm A sc) {pc : Nat} {lv : LV} {st : List AV} {hp : HP} {off : Int} {tg : List Nat} (hd : decode cc pc = .ok (.goto off, 3)) (ht : tg.map Int.ofNat = [(pc : Int) + off]) (h : tg1 tg fun t => OK p l e R s m args below meth c nL cells slots Qs D ad cy ex fm A (t) lv st hp) : OK p l e R s m args below meth c nL cells slots Qs D ad cy ex fm A pc lv st hp := by
  intro hv hs H locs ls hP hS hl
  obtain ⟨t, rfl, hz⟩ := tg1_e h
  exact lv_goto hC.1 hC.2.1 hd (List.cons.inj ht).1.symm (hz hv hs H locs ls hP hS hl)
theorem ok_table (hC : CX p R s m args c cc own nL cells slots D ad cy ex fm A sc) {pc : Nat} {lv : LV} {st : List AV} {hp : HP} {d lo hi : Int} {offs : Array Int} {len : Nat} {tg : List Nat} (hd : decode cc pc = .ok (.tableswitch d lo hi offs, len)) (ht : tg.map Int.ofNat = ((pc : Int) + d) :: offs.toList.map (fun o => (pc : Int) + o)) (hlen : (offs.toList.length : Int) = hi - lo + 1)
    (h : pI st fun x r => swg tg fun t ts => swt x (fun t => OK p l e R s m args below meth c nL cells slots Qs D ad cy ex fm A t lv r hp) lo hi t ts lo) : OK p l e R s m args below meth c nL cells slots Qs D ad cy ex fm A pc lv st hp := by
  intro hv hs H locs ls hP hS hl
  obtain ⟨x, r, e1, h1⟩ := pI_e h
  subst e1
  match tg, ht, h1 with
  | [], _, h1 => exact h1.elim
  | t :: ts, ht, h1 =>
    have h1 : swt x _ lo hi t ts lo := h1
    have ht0 := (List.cons.inj ht).1
    have hts := (List.cons.inj ht).2
    have key : ∀ (us : List Nat) (k : Int) (G : Nat → Prop), swt x G lo hi t us k → (∀ (j : Nat) (u : Nat), us[j]? = some u → x.toInt = k + j → G u) ∧ ((x.toInt < lo ∨ hi < x.toInt) → G t) := by
      intro us
      induction us with
      | nil => intro k G h; exact ⟨fun j u hj => by simp at hj, h⟩
      | cons u us ih =>
        intro k G h
        obtain ⟨a1, a2⟩ := h
        obtain ⟨b1, b2⟩ := ih (k + 1) G a2
        refine ⟨fun j v hj hx => ?_, b2⟩
        cases j with
        | zero =>
          rw [List.getElem?_cons_zero] at hj
          cases hj
          exact a1 (by rw [hx]; simp)
        | succ j =>
          rw [List.getElem?_cons_succ] at hj
          exact b1 j v hj (by rw [hx]; push_cast; omega)
    obtain ⟨k1, k2⟩ := key ts lo _ h1
    by_cases hx : x.toInt < lo ∨ hi < x.toInt
    · exact lv_tableOut hC.1 hC.2.1 hd hx ht0.symm (k2 hx hv (vs_tl hs) H locs ls hP hS hl)
    · have hx1 : ¬ x.toInt < lo := fun h => hx (Or.inl h)
      have hx2 : ¬ hi < x.toInt := fun h => hx (Or.inr h)
      have hl1 : ts.length = offs.toList.length := by
        have := congrArg List.length hts
        rw [List.length_map, List.length_map] at this
        exact this
      have hj : (x.toInt - lo).toNat < offs.toList.length := by omega
      have hj2 : (x.toInt - lo).toNat < ts.length := by omega
      have hu : ts[(x.toInt - lo).toNat]? = some ts[(x.toInt - lo).toNat] := List.getElem?_eq_getElem hj2
      have ho : offs[(x.toInt - lo).toNat]? = some offs.toList[(x.toInt - lo).toNat] := by
        rw [← Array.getElem?_toList]
        exact List.getElem?_eq_getElem hj
      refine lv_tableIn hC.1 hC.2.1 hd hx1 hx2 ho (tgt := ts[(x.toInt - lo).toNat]) ?_ (k1 _ _ hu (by omega) hv (vs_tl hs) H locs ls hP hS hl)
      have h9 : (ts.map Int.ofNat)[(x.toInt - lo).toNat]? = (offs.toList.map (fun o => (pc : Int) + o))[(x.toInt - lo).toNat]? := by rw [hts]
      rw [List.getElem?_map, List.getElem?_map, hu, List.getElem?_eq_getElem hj] at h9
      exact (Option.some.inj h9).symm
theorem ok_getfield (hC : CX p R s m args c cc own nL cells slots D ad cy ex fm A sc) {pc : Nat} {lv : LV} {st : List AV} {hp : HP} {n : Nat} {K : LKS} (hK : lkok own K) (hd : decode cc pc = .ok (.getfield n, 3))
    (h : pA st (fun k c2 r => fsh K.1 n k fun j f => gtf hp c2 j f fun v => OK p l e R s m args below meth c nL cells slots Qs D ad cy ex fm A (pc + 3) lv (v :: r) hp) (fun n2 r => match n2 with | m2 + 10 => txok m2 ∧ (match lk K.2.2.2.2.2 n with | some 0 => OK p l e R s m args below meth c nL cells slots Qs D ad cy ex fm A (pc + 3) lv (vX (m2 + 11) :: r) hp | some _ => OK p l e R s m args below meth c nL cells slots Qs D ad cy ex fm A (pc + 3) lv (vI 0 :: r) hp | none => False) | _ => False)) : OK p l e R s m args below meth c nL cells slots Qs D ad cy ex fm A pc lv st hp := by
  intro hv hs H locs ls hP hS hl
  rcases pA_e h with ⟨k, q, r, e1, h1⟩ | ⟨n2, r, e1, h1⟩
  · subst e1
    obtain ⟨j, o, f, hm, ho, hf, h2⟩ := fsh_e h1
    obtain ⟨C, T, N, ⟨o2, ty0, k1, k2, k3, k4, k5, k6, k7, k8⟩, hj, hlink⟩ := hK.1 _ hm
    dsimp only at k1 hj hlink
    rw [ho] at k1
    cases k1
    have hvr := vs_hd hs
    have he := ab_obj (ad := ad) (cy := cy) (hp := hp) hvr ho
    have hg := ab_fs_get ad hp q o.2 0 j f hf
    rw [Nat.zero_add] at hg
    have hsame : ∀ x, s.fieldFound? (T j).1 (T j).2.1 (T j).2.2.1 = some x → s.fieldFound? C (T j).2.1 (T j).2.2.1 = some x := fun x hx => by rw [k7 j hj] at hx; exact hx
    refine va_get (D := D) (ci := o.1) hC.1 hC.2.1 hC.2.2.2.2.1 k4 hC.2.2.2.1 hC.2.2.2.2.2.1 hP q he k2 j hj (hC.2.2.2.2.1 _ hlink) hsame hg hd ?_
    have hmem : f ∈ o.2 := by rw [nth_get] at hf; exact List.mem_of_getElem? hf
    have htag := ab_tag q hvr.1 o (by rw [show kc q = k from hvr.2]; exact ho) f hmem
    have hfl := ab_fld q hvr.1 o (by rw [show kc q = k from hvr.2]; exact ho) f hmem
    obtain ⟨t, a, b⟩ := f
    match t, htag, h2, hfl with
    | 0, _, h2, _ => exact h2 hv (vs_cn trivial (vs_tl hs)) H locs ls hP hS hl
    | 1, _, h2, _ => exact h2 hv (vs_cn trivial (vs_tl hs)) H locs ls hP hS hl
    | 2, _, h2, _ => exact h2 hv (vs_cn trivial (vs_tl hs)) H locs ls hP hS hl
    | 3, _, h2, hfl => exact h2 hv (vs_cn (hfl rfl) (vs_tl hs)) H locs ls hP hS hl
  · subst e1
    match n2, h1 with
    | m2 + 10, ⟨hm, h2⟩ =>
      obtain ⟨-, x2, x3, -⟩ := hC.2.2.2.2.2.2.2.2.1.2.2.2.1 m2 hm
      split at h2
      · next hx =>
        rcases hK.2.2.2.2.2 _ (lk_mem hx) with ⟨-, hl1⟩ | ⟨hn, -⟩
        · exact vk_getf hC.1 hC.2.1 x3 hS hC.2.2.2.1 (hC.2.2.2.2.1 _ hl1) (fun _ h9 => h9) hd (h2 hv (vs_cn trivial (vs_tl hs)) H locs ls hP hS hl)
        · cases hn
      · next z hz hx =>
        rcases hK.2.2.2.2.2 _ (lk_mem hx) with ⟨hn, -⟩ | ⟨-, hl1⟩
        · exact absurd hn hz
        · exact vk_getf hC.1 hC.2.1 x2 hS hC.2.2.2.1 (hC.2.2.2.2.1 _ hl1) (fun _ h9 => h9) hd (h2 hv (vs_cn trivial (vs_tl hs)) H locs ls hP hS hl)
      · exact h2.elim
    | 0, h1 => exact h1.elim
    | 1, h1 => exact h1.elim
    | 2, h1 => exact h1.elim
    | 3, h1 => exact h1.elim
    | 4, h1 => exact h1.elim
    | 5, h1 => exact h1.elim
    | 6, h1 => exact h1.elim
    | 7, h1 => exact h1.elim
    | 8, h1 => exact h1.elim
    | 9, h1 => exact h1.elim
theorem ok_putfield (hC : CX p R s m args c cc own nL cells slots D ad cy ex fm A sc) {pc : Nat} {lv : LV} {st : List AV} {hp : HP} {n : Nat} {K : LKS} (hK : lkok own K) (hd : decode cc pc = .ok (.putfield n, 3))
    (h : pV st fun v r => pR r fun k c2 r => fsh K.1 n k fun j f => ptf hp c2 j f v fun hq => OK p l e R s m args below meth c nL cells slots Qs D ad cy ex fm A (pc + 3) lv r hq) : OK p l e R s m args below meth c nL cells slots Qs D ad cy ex fm A pc lv st hp := by
  intro hv hs H locs ls hP hS hl
  obtain ⟨v, r, e1, h0⟩ := pV_e h
  subst e1
  obtain ⟨k, q, r, e1, h1⟩ := pR_e h0
  subst e1
  obtain ⟨j, o, f, hm, ho, hf, h2⟩ := fsh_e h1
  obtain ⟨C, T, N, ⟨o2, ty0, k1, k2, k3, k4, k5, k6, k7, k8⟩, hj, hlink⟩ := hK.1 _ hm
  dsimp only at k1 hj hlink
  rw [ho] at k1
  cases k1
  have hvr := vs_hd (vs_tl hs)
  have he := ab_obj (ad := ad) (cy := cy) (hp := hp) hvr ho
  have hsame : ∀ x, s.fieldFound? (T j).1 (T j).2.1 (T j).2.2.1 = some x → s.fieldFound? C (T j).2.1 (T j).2.2.1 = some x := fun x hx => by rw [k7 j hj] at hx; exact hx
  have hDD := ab_K (ad := ad) (cy := cy) (hp := hp) hC.2.2.2.2.2.2.1 hC.2.2.2.2.2.2.2.1
  have hlen : j < (ab_fs ad hp q 0 o.2).length := by rw [ab_fs_len, k3]; exact hj
  have hsh := k8 j hj f hf
  have hent : ∀ hq : HP, ab_ent ad cy hq (kc q) q = .inr (o.1, ab_fs ad hq q 0 o.2) := by
    intro hq
    unfold ab_ent
    rw [show kc q = k from hvr.2, ho]
  have fin : ∀ (hq : HP) (w : Value) (ty : FieldType), ty0 j = ty → (T j).2.2.2 = false → cv ad ex fm v = w → narrow ty w = w → fits ty w = true → (∀ d, d ≠ q → hq.1 d = hp.1 d ∧ hq.2 d = hp.2 d) → ab_fv ad hq q f (0 + j) = w → (∀ i, i ≠ 0 + j → hq.1 q i = hp.1 q i ∧ hq.2 q i = hp.2 q i) → OK p l e R s m args below meth c nL cells slots Qs D ad cy ex fm A (pc + 3) lv r hq → W p l e R s m args below meth c H locs cells slots Qs (F0 m pc ls ((v :: vR k q :: r).map (cv ad ex fm))) := by
    intro hq w ty hty hfin hw hn hft hrow hfv hrest hgo
    show W p l e R s m args below meth c H locs cells slots Qs (F0 m pc ls (cv ad ex fm v :: .ref (ad q) :: r.map (cv ad ex fm)))
    rw [hw]
    refine va_put (D := D) (ci := o.1) (ty := ty) hC.1 hC.2.1 hC.2.2.2.2.1 k4 ty0 k5 k6 hC.2.2.2.1 hC.2.2.2.2.2.1 hP hDD hS q he k2 j hj (hC.2.2.2.2.1 _ hlink) hsame hfin (by rw [← hty]; exact k5 j hj) hn hft hlen hd (fun H1 locs1 hP1 _ hS1 => ?_)
    refine hgo hv (vs_tl (vs_tl hs)) H1 locs1 ls ?_ hS1 hl
    refine ab_put hvr.1 hrow ?_ hP1
    rw [hent hq, ab_fs_set ad (hp := hp) (v := w) o.2 0 j f hf hfv hrest]
  obtain ⟨t, a, b⟩ := f
  match t, v, h2, hsh, fin with
  | 0, .inl x, h2, hsh, fin =>
    refine fin (uI hp q j x) (.int x) .int hsh.1 hsh.2 rfl rfl rfl (fun d hd => ⟨rI_ne hp _ hd, rfl⟩) ?_ (fun i hi => ⟨?_, rfl⟩) h2
    · show Value.int ((rI hp q (upd (hp.1 q) j x)).1 q (0 + j)) = _
      rw [rI_eq, Nat.zero_add, pk_us]
    · show (rI hp q (upd (hp.1 q) j x)).1 q i = _
      rw [rI_eq, pk_un (by omega)]
  | 1, .inr (.inl x), h2, hsh, fin =>
    refine fin (uL hp q j x) (.long x) .long hsh.1 hsh.2 rfl rfl rfl (fun d hd => ⟨rfl, rL_ne hp _ hd⟩) ?_ (fun i hi => ⟨rfl, ?_⟩) h2
    · show Value.long ((rL hp q (vp_updL (hp.2 q) j x)).2 q (0 + j)) = _
      rw [rL_eq, Nat.zero_add, pk_uLs]
    · show (rL hp q (vp_updL (hp.2 q) j x)).2 q i = _
      rw [rL_eq, pk_uLn (by omega)]
  | 2, .inl x, ⟨hb, h2⟩, hsh, fin =>
    refine fin (uI hp q j x) (.int x) .boolean hsh.1 hsh.2 rfl (by rcases hb with rfl | rfl <;> rfl) (by rcases hb with rfl | rfl <;> rfl) (fun d hd => ⟨rI_ne hp _ hd, rfl⟩) ?_ (fun i hi => ⟨?_, rfl⟩) h2
    · show Value.int ((rI hp q (upd (hp.1 q) j x)).1 q (0 + j)) = _
      rw [rI_eq, Nat.zero_add, pk_us]
    · show (rI hp q (upd (hp.1 q) j x)).1 q i = _
      rw [rI_eq, pk_un (by omega)]
  | 0, .inr _, h2, _, _ => exact h2.elim
  | 1, .inl _, h2, _, _ => exact h2.elim
  | 1, .inr (.inr _), h2, _, _ => exact h2.elim
  | 2, .inr _, h2, _, _ => exact h2.elim
  | t + 3, v, h2, _, _ => exact h2.elim
theorem ok_iaload (hC : CX p R s m args c cc own nL cells slots D ad cy ex fm A sc) {pc : Nat} {lv : LV} {st : List AV} {hp : HP} (hd : decode cc pc = .ok (.iaload, 1))
    (h : pI st fun i r => pA r (fun k c2 r => ash k 0 fun n => vp_in i n ∧ OK p l e R s m args below meth c nL cells slots Qs D ad cy ex fm A (pc + 1) lv (vI (hp.1 c2 i.toNatClampNeg) :: r) hp) (fun n r => match n with | 1 => scq sc fun q => vp_in i q.1 ∧ OK p l e R s m args below meth c nL cells slots Qs D ad cy ex fm A (pc + 1) lv (vI (q.2 i.toNatClampNeg) :: r) hp | 2 => vp_in i 6 ∧ OK p l e R s m args below meth c nL cells slots Qs D ad cy ex fm A (pc + 1) lv (vI (kab i.toNatClampNeg) :: r) hp | _ => False)) : OK p l e R s m args below meth c nL cells slots Qs D ad cy ex fm A pc lv st hp := by
  intro hv hs H locs ls hP hS hl
  obtain ⟨i, r, e1, h0⟩ := pI_e h
  subst e1
  rcases pA_e h0 with ⟨k, q, r, e1, h1⟩ | ⟨n2, r, e1, h1⟩
  · subst e1
    obtain ⟨a, ha, hat, hin, h2⟩ := ash_e h1
    have hvr := vs_hd (vs_tl hs)
    have he := ab_row (ad := ad) (cy := cy) (hp := hp) hvr ha
    rw [ab_ar0 hat] at he
    exact va_iald hC.1 hC.2.1 hC.2.2.2.2.2.1 hP q 0 he rfl hin hd (h2 hv (vs_cn trivial (vs_tl (vs_tl hs))) H locs ls hP hS hl)
  · subst e1
    match n2, h1 with
    | 0, h1 => exact h1.elim
    | 1, h1 =>
      obtain ⟨q, hsc, h2⟩ := scq_e h1
      obtain ⟨x1, x2, x3⟩ := hC.2.2.2.2.2.2.2.2.2.2.2 q hsc
      exact va_sld hC.1 hC.2.1 x1 x2 x3 hS h2.1 hd (h2.2 hv (vs_cn trivial (vs_tl (vs_tl hs))) H locs ls hP hS hl)
    | 2, h1 => exact va_ti hC.1 hC.2.1 hC.2.2.2.2.2.2.2.2.1.1.1 hS h1.1 rfl hd (h1.2 hv (vs_cn trivial (vs_tl (vs_tl hs))) H locs ls hP hS hl)
    | n2 + 3, h1 => exact h1.elim
theorem ok_laload (hC : CX p R s m args c cc own nL cells slots D ad cy ex fm A sc) {pc : Nat} {lv : LV} {st : List AV} {hp : HP} (hd : decode cc pc = .ok (.laload, 1))
    (h : pI st fun i r => pR r fun k c2 r => ash k 1 fun n => vp_in i n ∧ OK p l e R s m args below meth c nL cells slots Qs D ad cy ex fm A (pc + 1) lv (vL (hp.2 c2 i.toNatClampNeg) :: r) hp) : OK p l e R s m args below meth c nL cells slots Qs D ad cy ex fm A pc lv st hp := by
  intro hv hs H locs ls hP hS hl
  obtain ⟨i, r, e1, h0⟩ := pI_e h
  subst e1
  obtain ⟨k, q, r, e1, h1⟩ := pR_e h0
  subst e1
  obtain ⟨a, ha, hat, hin, h2⟩ := ash_e h1
  have hvr := vs_hd (vs_tl hs)
  have he := ab_row (ad := ad) (cy := cy) (hp := hp) hvr ha
  rw [ab_ar1 hat] at he
  exact va_lald hC.1 hC.2.1 hC.2.2.2.2.2.1 hP q 1 he rfl hin hd (h2 hv (vs_cn trivial (vs_tl (vs_tl hs))) H locs ls hP hS hl)
theorem ok_baload (hC : CX p R s m args c cc own nL cells slots D ad cy ex fm A sc) {pc : Nat} {lv : LV} {st : List AV} {hp : HP} (hd : decode cc pc = .ok (.baload, 1))
    (h : pI st fun i r => pA r (fun k c2 r => ash k 2 fun n => vp_in i n ∧ OK p l e R s m args below meth c nL cells slots Qs D ad cy ex fm A (pc + 1) lv (vI (hp.1 c2 i.toNatClampNeg) :: r) hp) (fun n r => match n with | m2 + 11 => (txok m2 ∧ vp_in i (tx_n m2)) ∧ OK p l e R s m args below meth c nL cells slots Qs D ad cy ex fm A (pc + 1) lv (vI (tx_b m2 i.toNatClampNeg) :: r) hp | _ => False)) : OK p l e R s m args below meth c nL cells slots Qs D ad cy ex fm A pc lv st hp := by
  intro hv hs H locs ls hP hS hl
  obtain ⟨i, r, e1, h0⟩ := pI_e h
  subst e1
  rcases pA_e h0 with ⟨k, q, r, e1, h1⟩ | ⟨n2, r, e1, h1⟩
  · subst e1
    obtain ⟨a, ha, hat, hin, h2⟩ := ash_e h1
    have hvr := vs_hd (vs_tl hs)
    have he := ab_row (ad := ad) (cy := cy) (hp := hp) hvr ha
    rw [ab_ar2 hat] at he
    exact va_bald hC.1 hC.2.1 hC.2.2.2.2.2.1 hP q 2 he rfl hin hd (h2 hv (vs_cn trivial (vs_tl (vs_tl hs))) H locs ls hP hS hl)
  · subst e1
    by_cases hn : 11 ≤ n2
    · obtain ⟨m2, rfl⟩ : ∃ m2, n2 = m2 + 11 := ⟨n2 - 11, by omega⟩
      obtain ⟨⟨hm, hin⟩, h2⟩ := h1
      obtain ⟨-, -, -, x4⟩ := hC.2.2.2.2.2.2.2.2.1.2.2.2.1 m2 hm
      exact va_tb hC.1 hC.2.1 x4 hS hin rfl hd (h2 hv (vs_cn trivial (vs_tl (vs_tl hs))) H locs ls hP hS hl)
    · have : n2 = 0 ∨ n2 = 1 ∨ n2 = 2 ∨ n2 = 3 ∨ n2 = 4 ∨ n2 = 5 ∨ n2 = 6 ∨ n2 = 7 ∨ n2 = 8 ∨ n2 = 9 ∨ n2 = 10 := by omega
      rcases this with rfl | rfl | rfl | rfl | rfl | rfl | rfl | rfl | rfl | rfl | rfl <;> exact h1.elim
theorem ok_aaload (hC : CX p R s m args c cc own nL cells slots D ad cy ex fm A sc) {pc : Nat} {lv : LV} {st : List AV} {hp : HP} (hd : decode cc pc = .ok (.aaload, 1))
    (h : pI st fun i r => pR r fun k c2 r => arf k fun n k2 d => vp_in i n ∧ OK p l e R s m args below meth c nL cells slots Qs D ad cy ex fm A (pc + 1) lv (vR k2 (c2 + d + i.toNatClampNeg) :: r) hp) : OK p l e R s m args below meth c nL cells slots Qs D ad cy ex fm A pc lv st hp := by
  intro hv hs H locs ls hP hS hl
  obtain ⟨i, r, e1, h0⟩ := pI_e h
  subst e1
  obtain ⟨k, q, r, e1, h1⟩ := pR_e h0
  subst e1
  obtain ⟨a, ha, hat, hin, h2⟩ := arf_e h1
  have hvr := vs_hd (vs_tl hs)
  have he := ab_row (ad := ad) (cy := cy) (hp := hp) hvr ha
  obtain ⟨h34, hcl⟩ := ab_arr q hvr.1 a (by rw [show kc q = k from hvr.2]; exact ha) hat
  rw [ab_ar3 h34] at he
  have hi : i.toNatClampNeg < a.2.1 := by
    have := (not_or.mp hin).2
    omega
  have hnew : vld (vR a.2.2.1 (q + a.2.2.2 + i.toNatClampNeg)) := hcl _ hi
  rcases h34 with h3 | h3
  · rw [h3] at he
    exact va_aldq hC.1 hC.2.1 hC.2.2.2.2.2.1 hP q 3 (C := "SleepWard$Walker") he rfl hin hd (h2 hv (vs_cn hnew (vs_tl (vs_tl hs))) H locs ls hP hS hl)
  · rw [h3] at he
    exact va_aldq hC.1 hC.2.1 hC.2.2.2.2.2.1 hP q 4 (C := "SleepWard$Sheet") he rfl hin hd (h2 hv (vs_cn hnew (vs_tl (vs_tl hs))) H locs ls hP hS hl)
theorem ab_rowq {hq : HP} {k q : Nat} {a : Nat × Nat × Nat × Nat} (hv : vld (vR k q)) (ho : kd k = .inr a) : ab_ent ad cy hq (kc q) q = ab_ar ad cy hq q a := by
  unfold ab_ent
  rw [show kc q = k from hv.2, ho]
theorem ok_iastore (hC : CX p R s m args c cc own nL cells slots D ad cy ex fm A sc) {pc : Nat} {lv : LV} {st : List AV} {hp : HP} (hd : decode cc pc = .ok (.iastore, 1))
    (h : pI st fun x r => pI r fun i r => pR r fun k c2 r => ash k 0 fun n => vp_in i n ∧ OK p l e R s m args below meth c nL cells slots Qs D ad cy ex fm A (pc + 1) lv r (uI hp c2 i.toNatClampNeg x)) : OK p l e R s m args below meth c nL cells slots Qs D ad cy ex fm A pc lv st hp := by
  intro hv hs H locs ls hP hS hl
  obtain ⟨x, r, e1, h0⟩ := pI_e h
  subst e1
  obtain ⟨i, r, e1, h3⟩ := pI_e h0
  subst e1
  obtain ⟨k, q, r, e1, h1⟩ := pR_e h3
  subst e1
  obtain ⟨a, ha, hat, hin, h2⟩ := ash_e h1
  have hvr := vs_hd (vs_tl (vs_tl hs))
  have he := ab_row (ad := ad) (cy := cy) (hp := hp) hvr ha
  rw [ab_ar0 hat] at he
  have hDD := ab_K (ad := ad) (cy := cy) (hp := hp) hC.2.2.2.2.2.2.1 hC.2.2.2.2.2.2.2.1
  refine va_iast hC.1 hC.2.1 hC.2.2.2.2.2.1 hP hDD hS q 0 he rfl hin hd (fun H1 locs1 hP1 _ hS1 => ?_)
  refine h2 hv (vs_tl (vs_tl (vs_tl hs))) H1 locs1 ls (ab_put (hp := hp) hvr.1 (fun d hd => ⟨rI_ne hp _ hd, rfl⟩) ?_ hP1) hS1 hl
  rw [ab_rowq hvr ha, ab_ar0 hat]
  show Sum.inl (cy 0, a.2.1, Sum.inl ((rI hp q _).1 q)) = _
  rw [rI_eq]
theorem ok_bastore (hC : CX p R s m args c cc own nL cells slots D ad cy ex fm A sc) {pc : Nat} {lv : LV} {st : List AV} {hp : HP} (hd : decode cc pc = .ok (.bastore, 1))
    (h : pI st fun x r => pI r fun i r => pR r fun k c2 r => ash k 2 fun n => vp_in i n ∧ OK p l e R s m args below meth c nL cells slots Qs D ad cy ex fm A (pc + 1) lv r (uI hp c2 i.toNatClampNeg x.toInt8.toInt32)) : OK p l e R s m args below meth c nL cells slots Qs D ad cy ex fm A pc lv st hp := by
  intro hv hs H locs ls hP hS hl
  obtain ⟨x, r, e1, h0⟩ := pI_e h
  subst e1
  obtain ⟨i, r, e1, h3⟩ := pI_e h0
  subst e1
  obtain ⟨k, q, r, e1, h1⟩ := pR_e h3
  subst e1
  obtain ⟨a, ha, hat, hin, h2⟩ := ash_e h1
  have hvr := vs_hd (vs_tl (vs_tl hs))
  have he := ab_row (ad := ad) (cy := cy) (hp := hp) hvr ha
  rw [ab_ar2 hat] at he
  have hDD := ab_K (ad := ad) (cy := cy) (hp := hp) hC.2.2.2.2.2.2.1 hC.2.2.2.2.2.2.2.1
  refine va_bast hC.1 hC.2.1 hC.2.2.2.2.2.1 hP hDD hS q 2 he rfl hin hd (fun H1 locs1 hP1 _ hS1 => ?_)
  refine h2 hv (vs_tl (vs_tl (vs_tl hs))) H1 locs1 ls (ab_put (hp := hp) hvr.1 (fun d hd => ⟨rI_ne hp _ hd, rfl⟩) ?_ hP1) hS1 hl
  rw [ab_rowq hvr ha, ab_ar2 hat, vp_nar_byte]
  show Sum.inl (cy 2, a.2.1, Sum.inl ((rI hp q _).1 q)) = _
  rw [rI_eq]
theorem ok_lastore (hC : CX p R s m args c cc own nL cells slots D ad cy ex fm A sc) {pc : Nat} {lv : LV} {st : List AV} {hp : HP} (hd : decode cc pc = .ok (.lastore, 1))
    (h : pL st fun x r => pI r fun i r => pR r fun k c2 r => ash k 1 fun n => vp_in i n ∧ OK p l e R s m args below meth c nL cells slots Qs D ad cy ex fm A (pc + 1) lv r (uL hp c2 i.toNatClampNeg x)) : OK p l e R s m args below meth c nL cells slots Qs D ad cy ex fm A pc lv st hp := by
  intro hv hs H locs ls hP hS hl
  obtain ⟨x, r, e1, h0⟩ := pL_e h
  subst e1
  obtain ⟨i, r, e1, h3⟩ := pI_e h0
  subst e1
  obtain ⟨k, q, r, e1, h1⟩ := pR_e h3
  subst e1
  obtain ⟨a, ha, hat, hin, h2⟩ := ash_e h1
  have hvr := vs_hd (vs_tl (vs_tl hs))
  have he := ab_row (ad := ad) (cy := cy) (hp := hp) hvr ha
  rw [ab_ar1 hat] at he
  have hDD := ab_K (ad := ad) (cy := cy) (hp := hp) hC.2.2.2.2.2.2.1 hC.2.2.2.2.2.2.2.1
  refine va_last hC.1 hC.2.1 hC.2.2.2.2.2.1 hP hDD hS q 1 he rfl hin hd (fun H1 locs1 hP1 _ hS1 => ?_)
  refine h2 hv (vs_tl (vs_tl (vs_tl hs))) H1 locs1 ls (ab_put (hp := hp) (hq := uL hp q i.toNatClampNeg x) hvr.1 (fun d hd => ⟨rfl, rL_ne hp _ hd⟩) ?_ hP1) hS1 hl
  rw [ab_rowq hvr ha, ab_ar1 hat]
  show Sum.inl (cy 1, a.2.1, Sum.inr (Sum.inl ((rL hp q _).2 q))) = _
  rw [rL_eq]
theorem ok_alen (hC : CX p R s m args c cc own nL cells slots D ad cy ex fm A sc) {pc : Nat} {lv : LV} {st : List AV} {hp : HP} (hd : decode cc pc = .ok (.arraylength, 1))
    (h : pA st (fun k _ r => aln k fun n => OK p l e R s m args below meth c nL cells slots Qs D ad cy ex fm A (pc + 1) lv (vI (nI n) :: r) hp) (fun n r => match n with | 1 => scq sc fun q => OK p l e R s m args below meth c nL cells slots Qs D ad cy ex fm A (pc + 1) lv (vI (nI q.1) :: r) hp | m2 + 11 => txok m2 ∧ OK p l e R s m args below meth c nL cells slots Qs D ad cy ex fm A (pc + 1) lv (vI (nI (tx_n m2)) :: r) hp | _ => False)) : OK p l e R s m args below meth c nL cells slots Qs D ad cy ex fm A pc lv st hp := by
  intro hv hs H locs ls hP hS hl
  rcases pA_e h with ⟨k, q, r, e1, h1⟩ | ⟨n2, r, e1, h1⟩
  · subst e1
    obtain ⟨a, ha, h2⟩ := aln_e h1
    have hvr := vs_hd hs
    have he := ab_row (ad := ad) (cy := cy) (hp := hp) hvr ha
    have ht := kd_tag q hvr.1 a (by rw [show kc q = k from hvr.2]; exact ha)
    obtain ⟨x, hx, hx1, ty, hty⟩ := ab_arX (ad := ad) (cy := cy) (hp := hp) (q := q) a ht
    rw [hx] at he
    exact va_alen hC.1 hC.2.1 hC.2.2.2.2.2.1 hP q a.1 he hty (by rw [hx1]; rfl) hd (h2 hv (vs_cn trivial (vs_tl hs)) H locs ls hP hS hl)
  · subst e1
    by_cases hn : 11 ≤ n2
    · obtain ⟨m2, rfl⟩ : ∃ m2, n2 = m2 + 11 := ⟨n2 - 11, by omega⟩
      obtain ⟨hm, h2⟩ := h1
      obtain ⟨-, -, -, x4⟩ := hC.2.2.2.2.2.2.2.2.1.2.2.2.1 m2 hm
      exact va_tlen hC.1 hC.2.1 x4 hS rfl hd (h2 hv (vs_cn trivial (vs_tl hs)) H locs ls hP hS hl)
    · have : n2 = 1 ∨ n2 = 0 ∨ n2 = 2 ∨ n2 = 3 ∨ n2 = 4 ∨ n2 = 5 ∨ n2 = 6 ∨ n2 = 7 ∨ n2 = 8 ∨ n2 = 9 ∨ n2 = 10 := by omega
      rcases this with rfl | this
      · obtain ⟨q, hsc, h2⟩ := scq_e h1
        obtain ⟨x1, x2, x3⟩ := hC.2.2.2.2.2.2.2.2.2.2.2 q hsc
        exact va_slen hC.1 hC.2.1 x1 x2 x3 hS hd (h2 hv (vs_cn trivial (vs_tl hs)) H locs ls hP hS hl)
      · rcases this with rfl | rfl | rfl | rfl | rfl | rfl | rfl | rfl | rfl | rfl <;> exact h1.elim
theorem ok_call (hC : CX p R s m args c cc own nL cells slots D ad cy ex fm A sc) {pc n : Nat} {lv : LV} {st : List AV} {hp : HP} {sta : Bool} {E : EN} {F L : Nat} (hE : ∀ q ∈ E, SC own F L q) (hF : F ≤ R.frames) (hL : L ≤ R.locals) (hd : decode cc pc = .ok ((match sta with | true => Instr.invokestatic n | false => Instr.invokevirtual n), 3))
    (h : cll E sta n st hp fun r hq => OK p l e R s m args below meth c nL cells slots Qs D ad cy ex fm A (pc + 3) lv r hq) : OK p l e R s m args below meth c nL cells slots Qs D ad cy ex fm A pc lv st hp := by
  unfold cll at h
  split at h
  · next b9 n9 sp9 hq =>
    split at h
    · next hb =>
      split at h
      · next as9 r9 har =>
        split at h
        · next hw =>
          obtain ⟨pre, h1, h2, h3⟩ := tk_e (as := as9) (rest := r9) har
          have h4 := eq_of_beq hb
          have h5 := (hE _ (lk_mem hq)).2 p l e R s m args below meth c cc nL cells slots Qs D ad cy ex fm A sc hC hF hL pc lv as9 r9 hp
          dsimp only at h5
          rw [h4] at h5
          have h6 := h5 hd (by rw [h2, List.append_nil, List.length_reverse]; exact h3) (Nat.le_of_ble_eq_true hw) h
          rw [h2, List.append_nil, List.reverse_reverse, ← h1] at h6
          exact h6
        · exact h.elim
      · exact h.elim
    · exact h.elim
  · exact h.elim
/-- the returns of a walk -/
def RTN (G : GP) (cc : ByteArray) (ret : Option FieldType) (Q : QP) : Prop :=
  (∀ (pc : Nat) (lv : LV) (x : Int32) (hp : HP), decode cc pc = .ok (.ireturn, 1) → rtI ret x (Q (some (vI x)) hp) → G pc lv [vI x] hp) ∧
  (∀ (pc : Nat) (lv : LV) (x : Int64) (hp : HP), decode cc pc = .ok (.lreturn, 1) → rtL ret (Q (some (vL x)) hp) → G pc lv [vL x] hp) ∧
  (∀ (pc : Nat) (lv : LV) (k : Nat) (hp : HP), decode cc pc = .ok (.areturn, 1) → rtA k ret (Q (some (vX k)) hp) → G pc lv [vX k] hp) ∧
  ∀ (pc : Nat) (lv : LV) (hp : HP), decode cc pc = .ok (.return_, 1) → rtV ret (Q none hp) → G pc lv [] hp
theorem ok_stp (hC : CX p R s m args c cc own nL cells slots D ad cy ex fm A sc) {P : PG} {K : LKS} {E : EN} {ret : Option FieldType} {Q : QP} {F L : Nat} (hP : pgk cc P) (hK : lkok own K) (hE : ∀ q ∈ E, SC own F L q) (hF : F ≤ R.frames) (hL : L ≤ R.locals) (hR : RTN (OK p l e R s m args below meth c nL cells slots Qs D ad cy ex fm A) cc ret Q) {pc : Nat} {lv : LV} {st : List AV} {hp : HP}
    (h : stp P K E nL ret sc Q (OK p l e R s m args below meth c nL cells slots Qs D ad cy ex fm A) pc lv st hp) : OK p l e R s m args below meth c nL cells slots Qs D ad cy ex fm A pc lv st hp := by
  unfold stp at h
  split at h
  case h_2 => exact h.elim
  next i nx tg he =>
  obtain ⟨q, hq, hm⟩ := lk2_mem he
  obtain ⟨h1, h2, h3⟩ := hP q hq _ hm
  dsimp only at h1 h2 h3
  cases i with
  | iadd =>
    have h2 : nx = pc + 1 := h2
    subst h2
    exact ok_iadd hC h1 h
  | isub =>
    have h2 : nx = pc + 1 := h2
    subst h2
    exact ok_isub hC h1 h
  | imul =>
    have h2 : nx = pc + 1 := h2
    subst h2
    exact ok_imul hC h1 h
  | iand =>
    have h2 : nx = pc + 1 := h2
    subst h2
    exact ok_iand hC h1 h
  | ior =>
    have h2 : nx = pc + 1 := h2
    subst h2
    exact ok_ior hC h1 h
  | ixor =>
    have h2 : nx = pc + 1 := h2
    subst h2
    exact ok_ixor hC h1 h
  | ishl =>
    have h2 : nx = pc + 1 := h2
    subst h2
    exact ok_ishl hC h1 h
  | ishr =>
    have h2 : nx = pc + 1 := h2
    subst h2
    exact ok_ishr hC h1 h
  | iushr =>
    have h2 : nx = pc + 1 := h2
    subst h2
    exact ok_iushr hC h1 h
  | idiv =>
    have h2 : nx = pc + 1 := h2
    subst h2
    exact ok_idiv hC h1 h
  | irem =>
    have h2 : nx = pc + 1 := h2
    subst h2
    exact ok_irem hC h1 h
  | ladd =>
    have h2 : nx = pc + 1 := h2
    subst h2
    exact ok_ladd hC h1 h
  | lsub =>
    have h2 : nx = pc + 1 := h2
    subst h2
    exact ok_lsub hC h1 h
  | lmul =>
    have h2 : nx = pc + 1 := h2
    subst h2
    exact ok_lmul hC h1 h
  | land =>
    have h2 : nx = pc + 1 := h2
    subst h2
    exact ok_land hC h1 h
  | lor =>
    have h2 : nx = pc + 1 := h2
    subst h2
    exact ok_lor hC h1 h
  | lxor =>
    have h2 : nx = pc + 1 := h2
    subst h2
    exact ok_lxor hC h1 h
  | lshl =>
    have h2 : nx = pc + 1 := h2
    subst h2
    exact ok_lshl hC h1 h
  | lshr =>
    have h2 : nx = pc + 1 := h2
    subst h2
    exact ok_lshr hC h1 h
  | lushr =>
    have h2 : nx = pc + 1 := h2
    subst h2
    exact ok_lushr hC h1 h
  | i2l =>
    have h2 : nx = pc + 1 := h2
    subst h2
    exact ok_i2l hC h1 h
  | l2i =>
    have h2 : nx = pc + 1 := h2
    subst h2
    exact ok_l2i hC h1 h
  | i2b =>
    have h2 : nx = pc + 1 := h2
    subst h2
    exact ok_i2b hC h1 h
  | i2s =>
    have h2 : nx = pc + 1 := h2
    subst h2
    exact ok_i2s hC h1 h
  | i2c =>
    have h2 : nx = pc + 1 := h2
    subst h2
    exact ok_i2c hC h1 h
  | lcmp =>
    have h2 : nx = pc + 1 := h2
    subst h2
    exact ok_lcmp hC h1 h
  | dup =>
    have h2 : nx = pc + 1 := h2
    subst h2
    exact ok_dup hC h1 h
  | dup2 =>
    have h2 : nx = pc + 1 := h2
    subst h2
    exact ok_dup2 hC h1 h
  | pop =>
    have h2 : nx = pc + 1 := h2
    subst h2
    exact ok_pop hC h1 h
  | iaload =>
    have h2 : nx = pc + 1 := h2
    subst h2
    exact ok_iaload hC h1 h
  | laload =>
    have h2 : nx = pc + 1 := h2
    subst h2
    exact ok_laload hC h1 h
  | baload =>
    have h2 : nx = pc + 1 := h2
    subst h2
    exact ok_baload hC h1 h
  | aaload =>
    have h2 : nx = pc + 1 := h2
    subst h2
    exact ok_aaload hC h1 h
  | iastore =>
    have h2 : nx = pc + 1 := h2
    subst h2
    exact ok_iastore hC h1 h
  | lastore =>
    have h2 : nx = pc + 1 := h2
    subst h2
    exact ok_lastore hC h1 h
  | bastore =>
    have h2 : nx = pc + 1 := h2
    subst h2
    exact ok_bastore hC h1 h
  | arraylength =>
    have h2 : nx = pc + 1 := h2
    subst h2
    exact ok_alen hC h1 h
  | iload n =>
    have h2 : nx = pc + 2 := h2
    subst h2
    exact ok_iload hC h1 h
  | iload_n n =>
    have h2 : nx = pc + 1 := h2
    subst h2
    exact ok_iload_n hC h1 h
  | lload n =>
    have h2 : nx = pc + 2 := h2
    subst h2
    exact ok_lload hC h1 h
  | lload_n n =>
    have h2 : nx = pc + 1 := h2
    subst h2
    exact ok_lload_n hC h1 h
  | aload n =>
    have h2 : nx = pc + 2 := h2
    subst h2
    exact ok_aload hC h1 h
  | aload_n n =>
    have h2 : nx = pc + 1 := h2
    subst h2
    exact ok_aload_n hC h1 h
  | istore n =>
    have h2 : nx = pc + 2 := h2
    subst h2
    exact ok_istore hC h1 h
  | istore_n n =>
    have h2 : nx = pc + 1 := h2
    subst h2
    exact ok_istore_n hC h1 h
  | lstore n =>
    have h2 : nx = pc + 2 := h2
    subst h2
    exact ok_lstore hC h1 h
  | lstore_n n =>
    have h2 : nx = pc + 1 := h2
    subst h2
    exact ok_lstore_n hC h1 h
  | astore n =>
    have h2 : nx = pc + 2 := h2
    subst h2
    exact ok_astore hC h1 h
  | astore_n n =>
    have h2 : nx = pc + 1 := h2
    subst h2
    exact ok_astore_n hC h1 h
  | iinc n d =>
    have h2 : nx = pc + 3 := h2
    subst h2
    exact ok_iinc hC h1 (of_decide_eq_true h3) h
  | iconst d =>
    have h2 : nx = pc + 1 := h2
    subst h2
    exact ok_iconst hC h1 (of_decide_eq_true h3) h
  | bipush d =>
    have h2 : nx = pc + 2 := h2
    subst h2
    exact ok_bipush hC h1 (of_decide_eq_true h3) h
  | sipush d =>
    have h2 : nx = pc + 3 := h2
    subst h2
    exact ok_sipush hC h1 (of_decide_eq_true h3) h
  | lconst n =>
    have h2 : nx = pc + 1 := h2
    subst h2
    exact ok_lconst hC h1 h
  | ldc n =>
    have h2 : nx = pc + 2 := h2
    subst h2
    exact ok_ldc hC hK h1 h
  | ldc_w n =>
    have h2 : nx = pc + 3 := h2
    subst h2
    exact ok_ldc_w hC hK h1 h
  | ldc2_w n =>
    have h2 : nx = pc + 3 := h2
    subst h2
    exact ok_ldc2_w hC hK h1 h
  | getstatic n =>
    have h2 : nx = pc + 3 := h2
    subst h2
    exact ok_getstatic hC hK h1 h
  | goto off =>
    have h2 : nx = pc + 3 := h2
    subst h2
    exact ok_goto hC h1 (of_decide_eq_true h3) h
  | getfield n =>
    have h2 : nx = pc + 3 := h2
    subst h2
    exact ok_getfield hC hK h1 h
  | putfield n =>
    have h2 : nx = pc + 3 := h2
    subst h2
    exact ok_putfield hC hK h1 h
  | invokevirtual n =>
    have h2 : nx = pc + 3 := h2
    subst h2
    exact ok_call (sta := false) hC hE hF hL h1 h
  | invokestatic n =>
    have h2 : nx = pc + 3 := h2
    subst h2
    exact ok_call (sta := true) hC hE hF hL h1 h
  | if_icmp cd off =>
    have h2 : nx = pc + 3 := h2
    subst h2
    cases cd with
    | eq => exact ok_icmp_eq hC h1 (of_decide_eq_true h3) h
    | ne => exact ok_icmp_ne hC h1 (of_decide_eq_true h3) h
    | lt => exact ok_icmp_lt hC h1 (of_decide_eq_true h3) h
    | ge => exact ok_icmp_ge hC h1 (of_decide_eq_true h3) h
    | gt => exact ok_icmp_gt hC h1 (of_decide_eq_true h3) h
    | le => exact ok_icmp_le hC h1 (of_decide_eq_true h3) h
  | ifCond cd off =>
    have h2 : nx = pc + 3 := h2
    subst h2
    cases cd with
    | eq => exact ok_if_eq hC h1 (of_decide_eq_true h3) h
    | ne => exact ok_if_ne hC h1 (of_decide_eq_true h3) h
    | lt => exact ok_if_lt hC h1 (of_decide_eq_true h3) h
    | ge => exact ok_if_ge hC h1 (of_decide_eq_true h3) h
    | gt => exact ok_if_gt hC h1 (of_decide_eq_true h3) h
    | le => exact ok_if_le hC h1 (of_decide_eq_true h3) h
  | tableswitch d lo hi offs =>
    obtain ⟨h4, h5⟩ := (Bool.and_eq_true _ _).mp h3
    exact ok_table hC h1 (of_decide_eq_true h4) (of_decide_eq_true h5) h
  | ireturn =>
    have h0 : pI st fun x r => pN r (rtI ret x (Q (some (vI x)) hp)) := h
    obtain ⟨x, r, e1, ha⟩ := pI_e h0
    subst e1
    obtain ⟨e1, hb⟩ := pN_e ha
    subst e1
    exact hR.1 pc lv x hp h1 hb
  | lreturn =>
    have h0 : pL st fun x r => pN r (rtL ret (Q (some (vL x)) hp)) := h
    obtain ⟨x, r, e1, ha⟩ := pL_e h0
    subst e1
    obtain ⟨e1, hb⟩ := pN_e ha
    subst e1
    exact hR.2.1 pc lv x hp h1 hb
  | areturn =>
    have h0 : pA st (fun _ _ _ => False) (fun n r => pN r (rtA n ret (Q (some (vX n)) hp))) := h
    rcases pA_e h0 with ⟨_, _, _, _, ha⟩ | ⟨k, r, e1, ha⟩
    · exact ha.elim
    · subst e1
      obtain ⟨e1, hb⟩ := pN_e ha
      subst e1
      exact hR.2.2.1 pc lv k hp h1 hb
  | return_ =>
    have h0 : pN st (rtV ret (Q none hp)) := h
    obtain ⟨e1, hb⟩ := pN_e h0
    subst e1
    exact hR.2.2.2 pc lv hp h1 hb
  | _ => exact h.elim
end
