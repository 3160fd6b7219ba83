/-! contracts over the machine -/
/-- a method: name, code, locals, what it returns, the frames and words that its calls take -/
abbrev MR : Type := MethodName × ByteArray × Nat × Option FieldType × Nat × Nat
def mr_ws (r : MR) : List Cond := Cond.code r.1 r.2.1 r.2.2.1 r.2.2.2.1 :: Gw
def mr_rm (r : MR) : Room := { frames := r.2.2.2.2.1, cells := 0, slots := 0, locals := r.2.2.2.2.2 }
def CB (D : va_G) (ad : Nat → Nat) (cy : Nat → ClassId) (ex : Nat → Nat) (fm : Value) (hp : HP) (U : State) : Prop := va_P D vwCl (ab_w ad cy hp) U.heap ∧ va_K D vwCl (ab_ty cy) U ∧ XT ex fm (ab_A ad) U U.heap
def CQ (D : va_G) (ad : Nat → Nat) (cy : Nat → ClassId) (ex : Nat → Nat) (fm : Value) (Q : QP) : Array Value → State → Outcome → State → Prop := fun _ st oc t =>
  (∃ (v : Option AV) (hq : HP), oc = .returned (v.map (cv ad ex fm)) ∧ (∀ a, v = some a → vld a) ∧ Q v hq ∧ va_P D vwCl (ab_w ad cy hq) t.heap) ∧ va_F (ab_A ad) st t
def Ctr (r : MR) (sp : SP) : Prop := ∀ (l : Launch) (D : va_G) (ad : Nat → Nat) (cy : Nat → ClassId) (ex : Nat → Nat) (fm : Value), ab_inj ad → fm.category = 1 → ∀ (as : List AV) (hp : HP) (Q : QP), QInv Q → (∀ v ∈ as, vld v) → sp as hp Q →
  Met l r.1 (mr_ws r) (mr_rm r) (va_Pc (as.map (cv ad ex fm)) (CB D ad cy ex fm hp)) (CQ D ad cy ex fm Q) 0 0 (ab_A ad)
section
variable {p : Program} {l : Launch} {e : Env} {R : Room} {s : State} {m : MethodId} {args : Array Value} {below : List Frame} {meth : Method} {c : Code} {cells slots : Nat} {Qs : State → Prop} {cc : ByteArray} {own : String} {nL : Nat} {D : va_G} {ad : Nat → Nat} {cy : Nat → ClassId} {ex : Nat → Nat} {fm : Value} {A : Nat → Prop} {sc : Option (Nat × (Nat → Int32))}
theorem OK_inv {pc : Nat} {lv : LV} {st : List AV} {hp hq : HP} (h : heq hp hq) (hk : OK p l e R s m args below meth c nL cells slots Qs D ad cy ex fm A pc lv st hp) : OK p l e R s m args below meth c nL cells slots Qs D ad cy ex fm A pc lv st hq := fun hv hs H locs ls hP hS hl => hk hv hs H locs ls (va_P_heq h.symm hP) hS hl
theorem OK_lv {pc : Nat} {lv lw : LV} {st : List AV} {hp : HP} (h : lvs lv lw) (hk : OK p l e R s m args below meth c nL cells slots Qs D ad cy ex fm A pc lv st hp) : OK p l e R s m args below meth c nL cells slots Qs D ad cy ex fm A pc lw st hp := fun hv hs H locs ls hP hS hl => hk (fun q hq => hv q (lvs_mem h q hq)) hs H locs ls hP hS (lv_mono hl (fun q hq => by
  obtain ⟨a, ha, rfl⟩ := List.mem_map.mp hq
  exact List.mem_map.mpr ⟨a, lvs_mem h a ha, rfl⟩))
theorem CB.blind {hp : HP} {as : List Value} : FrameBlind (va_Pc as (CB D ad cy ex fm hp)) := fun a U g mk q => by
  obtain ⟨q0, qP, qK, qX⟩ := q
  exact ⟨q0, qP, va_K.moved (u := U) (U := U.calling g mk a) (Vm.Alike.refl U.vm) qK, XT.blind qX rfl rfl⟩
theorem CB.at (hC : CX p R s m args c cc own nL cells slots D ad cy ex fm A sc) {hp : HP} {H : Heap} {locs : List Loc} (hP : va_P D vwCl (ab_w ad cy hp) H) (hS : va_S A s.heap H locs) {U : State} (hU : U.heap = H) (hW : s.WarmedH U.vm) : CB D ad cy ex fm hp U :=
  ⟨by rw [hU]; exact hP, va_K.moved hW.alike hC.2.2.2.2.2.1, XT.to hC.2.2.2.2.2.2.2.2.1 hS hW hU hC.2.2.2.2.2.2.2.1⟩
/-- behind a call -/
theorem ok_fin {K : QP} {pc : Nat} {lv : LV} {rest : List AV} {H : Heap} {locs : List Loc} {ls : Array Slot} {st0 : List Value} {a : Array Value} (hr : va_Run p l e R s m args below meth c H locs cells slots 0 0 (F0 m pc ls st0) (rest.map (cv ad ex fm)) (CQ D ad cy ex fm K a) (ab_A ad))
    (hS : va_S A s.heap H locs) (hA : ∀ q, ab_A ad q → A q) (hv : ∀ q ∈ lv, vld q.2) (hs : ∀ v ∈ rest, vld v) (hl : lv_has ls nL (lvm ad ex fm lv)) (hK : ∀ v hq, K v hq → OK p l e R s m args below meth c nL cells slots Qs D ad cy ex fm A (pc + 3) lv (psh v rest) hq) : W p l e R s m args below meth c H locs cells slots Qs (F0 m pc ls st0) := by
  intro T hT X
  obtain ⟨v, st₀, t, T', L, h0, X', hL, e1, e2, ⟨⟨w, hq, hv1, hvw, hk, hP1⟩, hz, hk2⟩, st⟩ := hr T hT X
  cases hv1
  rw [h0] at hz hk2
  have hS1 : va_S A s.heap T'.heap (locs ++ L) := ⟨Nat.le_trans hS.1 (by rw [e1]; exact hz), fun q h1 h2 => by rw [e1, hk2 q (Nat.lt_of_lt_of_le h1 hS.1) (fun z => h2 (hA q z))]; exact hS.2.1 q h1 h2, fun q hq => by
      rcases List.mem_append.mp hq with h | h
      · exact hS.2.2 q h
      · exact hA _ (hL q h)⟩
  have hgo := hK w hq hk hv (by
    cases w with
    | none => exact hs
    | some a => exact vs_cn (hvw a rfl) hs) T'.heap (locs ++ L) ls (by rw [e1]; exact hP1) hS1 hl
  obtain ⟨t2, a1, b1⟩ := hgo T' rfl X'
  refine ⟨t2, st t2 ?_, b1⟩
  cases w with
  | none => exact a1
  | some a => exact a1
end
/-- a method that a class of ours links, called on an object of ours -/
theorem SC_V {own C : String} {F L idx n k : Nat} {T : u_T} {N : Nat} {r : MR} {sp : SP} (hm : Mono sp) (hr : Ctr r sp) (hk : okd k C T N) (hsp : ∀ as hp K, sp as hp K → ∃ q t, as = vR k q :: t) (h1 : Cond.methodLink own idx r.1 ∈ Gw) (h2 : Cond.instanceMethod r.1 ∈ Gw) (h3 : Cond.selects C r.1 r.1 ∈ Gw) (h4 : Cond.initialized C ∈ Gw) (h5 : Cond.code r.1 r.2.1 r.2.2.1 r.2.2.2.1 ∈ Gw)
    (hd : r.1.cls = C ∧ r.1.cls ≠ "java/lang/invoke/MethodHandle" ∧ r.1.cls ≠ "java/lang/invoke/VarHandle" ∧ (parseMethodDescriptor r.1.desc).map (fun d => d.parameters.length) = some n) (hF : r.2.2.2.2.1 + 1 ≤ F) (hL : 8 + (r.2.2.1 + 11) + r.2.2.2.2.2 ≤ L) : SC own F L (idx, false, n + 1, sp) := by
  refine ⟨hm, ?_⟩
  intro p l e R s m args below meth c cc nL cells slots Qs D ad cy ex fm A sc hC hFR hLR pc lv as rest hp hdg hlen hwid hsp1 hv hs H locs ls hP hS hl
  dsimp only at hdg hlen hsp1
  obtain ⟨q, t, rfl⟩ := hsp as hp _ hsp1
  have hvs : ∀ v ∈ vR k q :: t, vld v := fun v h => hs v (List.mem_append_left _ (List.mem_reverse.mpr h))
  have hvr := vs_hd hvs
  obtain ⟨o, ty0, k1, k2, -⟩ := hk
  have hM := hr l D ad cy ex fm hC.2.2.2.2.2.2.1 hC.2.2.2.2.2.2.2.2.2.1 (vR k q :: t) hp (fun v hq => OK p l e R s m args below meth c nL cells slots Qs D ad cy ex fm A (pc + 3) lv (psh v rest) hq) (fun _ _ _ h1 h2 => OK_inv h1 h2) hvs hsp1
  have hGood : ∀ w ∈ Gw, (w.onTables && w.keeps) = true ∨ ∃ ty, w = .arrayClass ty := fun w h => good_of_word (List.mem_filter.mp h).2
  have hG : GoodIn Gw (wsV own idx C r.1 (mr_ws r)) := by
    intro w h
    have hw : w ∈ Gw := by
      unfold wsV mr_ws at h
      rcases List.mem_append.mp h with h | h
      · simp only [List.mem_cons, List.not_mem_nil, or_false] at h
        rcases h with rfl | rfl | rfl | rfl
        · exact h1
        · exact h2
        · exact h3
        · exact h4
      · rcases List.mem_cons.mp h with rfl | h
        · exact h5
        · exact h
    exact ⟨hw, hGood w hw⟩
  have hrun := va_runV (b := ad q) (rest := rest.map (cv ad ex fm)) (As := t.map (cv ad ex fm)) (locs := locs) (H := H) (cells := cells) (slots := slots) (below := below) (meth := meth) (e := e) (R := R) (g := F0 m pc ls (((vR k q :: t).reverse ++ rest).map (cv ad ex fm))) (nL := nL) ⟨hC.1, hC.2.1, hC.2.2.1, hC.2.2.2.1, hC.2.2.2.2.1⟩ hM
    (cwV (rm := mr_rm r) n hC.2.2.2.2.1 hG rfl rfl rfl hd ⟨Nat.le_trans hF hFR, Nat.le_trans hL hLR⟩)
    ⟨CB.blind, va_recv hC.2.2.2.2.2.1 hP k2 (ab_obj hvr k1), fun U hU hW => ⟨rfl, CB.at hC hP hS hU hW⟩⟩
    rfl (by rw [List.length_map]; simpa using hlen) hl.1 (by
      show ((vR k q :: t).reverse ++ rest).map (cv ad ex fm) = _
      rw [List.map_append, List.map_reverse, List.map_cons, List.reverse_cons, List.append_assoc]
      rfl) (lv_room (by rw [cv_wid hC.2.2.2.2.2.2.2.2.2.1]; exact hwid)) hdg ⟨by simpa using hC.2.2.2.2.2.2.2.2.2.2.1.1, by simpa using hC.2.2.2.2.2.2.2.2.2.2.1.2⟩
  exact ok_fin hrun hS hC.2.2.2.2.2.2.2.1 hv (fun v h => hs v (List.mem_append_right _ h)) hl (fun v hq h => h)
/-- the same on a text -/
theorem SC_X {own C : String} {F L idx n : Nat} {r : MR} {sp : SP} (hC0 : C = "java/lang/String") (hm : Mono sp) (hr : Ctr r sp) (hsp : ∀ as hp K, sp as hp K → ∃ q t, txok q ∧ as = vX (q + 10) :: t) (h1 : Cond.methodLink own idx r.1 ∈ Gw) (h2 : Cond.instanceMethod r.1 ∈ Gw) (h3 : Cond.selects C r.1 r.1 ∈ Gw) (h4 : Cond.initialized C ∈ Gw) (h5 : Cond.code r.1 r.2.1 r.2.2.1 r.2.2.2.1 ∈ Gw)
    (hd : r.1.cls = C ∧ r.1.cls ≠ "java/lang/invoke/MethodHandle" ∧ r.1.cls ≠ "java/lang/invoke/VarHandle" ∧ (parseMethodDescriptor r.1.desc).map (fun d => d.parameters.length) = some n) (hF : r.2.2.2.2.1 + 1 ≤ F) (hL : 8 + (r.2.2.1 + 11) + r.2.2.2.2.2 ≤ L) : SC own F L (idx, false, n + 1, sp) := by
  refine ⟨hm, ?_⟩
  intro p l e R s m args below meth c cc nL cells slots Qs D ad cy ex fm A sc hC hFR hLR pc lv as rest hp hdg hlen hwid hsp1 hv hs H locs ls hP hS hl
  dsimp only at hdg hlen hsp1
  obtain ⟨q, t, hq, rfl⟩ := hsp as hp _ hsp1
  have hvs : ∀ v ∈ vX (q + 10) :: t, vld v := fun v h => hs v (List.mem_append_left _ (List.mem_reverse.mpr h))
  have hM := hr l D ad cy ex fm hC.2.2.2.2.2.2.1 hC.2.2.2.2.2.2.2.2.2.1 (vX (q + 10) :: t) hp (fun v hq => OK p l e R s m args below meth c nL cells slots Qs D ad cy ex fm A (pc + 3) lv (psh v rest) hq) (fun _ _ _ h1 h2 => OK_inv h1 h2) hvs hsp1
  have hGood : ∀ w ∈ Gw, (w.onTables && w.keeps) = true ∨ ∃ ty, w = .arrayClass ty := fun w h => good_of_word (List.mem_filter.mp h).2
  have hG : GoodIn Gw (wsV own idx C r.1 (mr_ws r)) := by
    intro w h
    have hw : w ∈ Gw := by
      unfold wsV mr_ws at h
      rcases List.mem_append.mp h with h | h
      · simp only [List.mem_cons, List.not_mem_nil, or_false] at h
        rcases h with rfl | rfl | rfl | rfl
        · exact h1
        · exact h2
        · exact h3
        · exact h4
      · rcases List.mem_cons.mp h with rfl | h
        · exact h5
        · exact h
    exact ⟨hw, hGood w hw⟩
  have hrec : ∃ cell : Cell, H[ex (q + 10)]? = some cell ∧ cell.vm.isStatics = false ∧ s.vm.findClass C = some cell.cls := by
    obtain ⟨cell, a1, a2, a3, -⟩ := ((hC.2.2.2.2.2.2.2.2.1.2.2.2.1 q hq).1).kept hS.2.1
    exact ⟨cell, a1, a2, by rw [hC0]; exact a3⟩
  have hrun := va_runV (b := ex (q + 10)) (rest := rest.map (cv ad ex fm)) (As := t.map (cv ad ex fm)) (locs := locs) (H := H) (cells := cells) (slots := slots) (below := below) (meth := meth) (e := e) (R := R) (g := F0 m pc ls (((vX (q + 10) :: t).reverse ++ rest).map (cv ad ex fm))) (nL := nL) ⟨hC.1, hC.2.1, hC.2.2.1, hC.2.2.2.1, hC.2.2.2.2.1⟩ hM
    (cwV (rm := mr_rm r) n hC.2.2.2.2.1 hG rfl rfl rfl hd ⟨Nat.le_trans hF hFR, Nat.le_trans hL hLR⟩)
    ⟨CB.blind, hrec, fun U hU hW => ⟨rfl, CB.at hC hP hS hU hW⟩⟩
    rfl (by rw [List.length_map]; simpa using hlen) hl.1 (by
      show ((vX (q + 10) :: t).reverse ++ rest).map (cv ad ex fm) = _
      rw [List.map_append, List.map_reverse, List.map_cons, List.reverse_cons, List.append_assoc]
      rfl) (lv_room (by rw [cv_wid hC.2.2.2.2.2.2.2.2.2.1]; exact hwid)) hdg ⟨by simpa using hC.2.2.2.2.2.2.2.2.2.2.1.1, by simpa using hC.2.2.2.2.2.2.2.2.2.2.1.2⟩
  exact ok_fin hrun hS hC.2.2.2.2.2.2.2.1 hv (fun v h => hs v (List.mem_append_right _ h)) hl (fun v hq h => h)
/-- a static method -/
theorem SC_S {own : String} {F L idx n : Nat} {r : MR} {sp : SP} (hm : Mono sp) (hr : Ctr r sp) (h1 : Cond.methodLink own idx r.1 ∈ Gw) (h2 : Cond.static r.1 ∈ Gw) (h4 : Cond.initialized r.1.cls ∈ Gw) (h5 : Cond.code r.1 r.2.1 r.2.2.1 r.2.2.2.1 ∈ Gw)
    (hd : r.1.cls ≠ "java/lang/invoke/MethodHandle" ∧ r.1.cls ≠ "java/lang/invoke/VarHandle" ∧ (parseMethodDescriptor r.1.desc).map (fun d => d.parameters.length) = some n) (hF : r.2.2.2.2.1 + 1 ≤ F) (hL : 8 + (r.2.2.1 + 11) + r.2.2.2.2.2 ≤ L) : SC own F L (idx, true, n, sp) := by
  refine ⟨hm, ?_⟩
  intro p l e R s m args below meth c cc nL cells slots Qs D ad cy ex fm A sc hC hFR hLR pc lv as rest hp hdg hlen hwid hsp1 hv hs H locs ls hP hS hl
  dsimp only at hdg hlen hsp1
  have hvs : ∀ v ∈ as, vld v := fun v h => hs v (List.mem_append_left _ (List.mem_reverse.mpr h))
  have hM := hr l D ad cy ex fm hC.2.2.2.2.2.2.1 hC.2.2.2.2.2.2.2.2.2.1 as hp (fun v hq => OK p l e R s m args below meth c nL cells slots Qs D ad cy ex fm A (pc + 3) lv (psh v rest) hq) (fun _ _ _ h1 h2 => OK_inv h1 h2) hvs hsp1
  have hGood : ∀ w ∈ Gw, (w.onTables && w.keeps) = true ∨ ∃ ty, w = .arrayClass ty := fun w h => good_of_word (List.mem_filter.mp h).2
  have hG : GoodIn Gw (mr_ws r) := by
    intro w h
    have hw : w ∈ Gw := by
      unfold mr_ws at h
      rcases List.mem_cons.mp h with rfl | h
      · exact h5
      · exact h
    exact ⟨hw, hGood w hw⟩
  have hrun := va_runS (rest := rest.map (cv ad ex fm)) (As := as.map (cv ad ex fm)) (locs := locs) (H := H) (cells := cells) (slots := slots) (below := below) (meth := meth) (e := e) (R := R) (g := F0 m pc ls ((as.reverse ++ rest).map (cv ad ex fm))) (nL := nL) ⟨hC.1, hC.2.1, hC.2.2.1, hC.2.2.2.1, hC.2.2.2.2.1⟩ hM
    ⟨callB_of (rm := mr_rm r) n hC.2.2.2.2.1 hG rfl rfl rfl (hC.2.2.2.2.1 _ h4) (hC.2.2.2.2.1 _ h1) hd ⟨Nat.le_trans hF hFR, Nat.le_trans hL hLR⟩, hC.2.2.2.2.1 _ h2⟩
    ⟨CB.blind, fun U hU hW => ⟨rfl, CB.at hC hP hS hU hW⟩⟩
    rfl (by rw [List.length_map]; exact hlen) hl.1 (by
      show (as.reverse ++ rest).map (cv ad ex fm) = _
      rw [List.map_append, List.map_reverse]) (lv_room (by rw [cv_wid hC.2.2.2.2.2.2.2.2.2.1]; exact hwid)) hdg ⟨by simpa using hC.2.2.2.2.2.2.2.2.2.2.1.1, by simpa using hC.2.2.2.2.2.2.2.2.2.2.1.2⟩
  exact ok_fin hrun hS hC.2.2.2.2.2.2.2.1 hv (fun v h => hs v (List.mem_append_right _ h)) hl (fun v hq h => h)
/-- the one private static method of a nest mate: isSquare, out of Ward -/
theorem SC_N {F L : Nat} {r : MR} {sp : SP} (hr1 : r.1 = yX4_isSquare) (hm : Mono sp) (hr : Ctr r sp) (h2 : Cond.static r.1 ∈ Gw) (h4 : Cond.initialized r.1.cls ∈ Gw) (h5 : Cond.code r.1 r.2.1 r.2.2.1 r.2.2.2.1 ∈ Gw)
    (hd : r.1.cls ≠ "java/lang/invoke/MethodHandle" ∧ r.1.cls ≠ "java/lang/invoke/VarHandle" ∧ (parseMethodDescriptor r.1.desc).map (fun d => d.parameters.length) = some 1) (hF : r.2.2.2.2.1 + 1 ≤ F) (hL : 8 + (r.2.2.1 + 11) + r.2.2.2.2.2 ≤ L) : SC RX3 F L (73, true, 1, sp) := by
  refine ⟨hm, ?_⟩
  intro p l e R s m args below meth c cc nL cells slots Qs D ad cy ex fm A sc hC hFR hLR pc lv as rest hp hdg hlen hwid hsp1 hv hs H locs ls hP hS hl
  dsimp only at hdg hlen hsp1
  have hvs : ∀ v ∈ as, vld v := fun v h => hs v (List.mem_append_left _ (List.mem_reverse.mpr h))
  have hM := hr l D ad cy ex fm hC.2.2.2.2.2.2.1 hC.2.2.2.2.2.2.2.2.2.1 as hp (fun v hq => OK p l e R s m args below meth c nL cells slots Qs D ad cy ex fm A (pc + 3) lv (psh v rest) hq) (fun _ _ _ h1 h2 => OK_inv h1 h2) hvs hsp1
  have hGood : ∀ w ∈ Gw, (w.onTables && w.keeps) = true ∨ ∃ ty, w = .arrayClass ty := fun w h => good_of_word (List.mem_filter.mp h).2
  have hG : GoodIn Gw (mr_ws r) := by
    intro w h
    have hw : w ∈ Gw := by
      unfold mr_ws at h
      rcases List.mem_cons.mp h with rfl | h
      · exact h5
      · exact h
    exact ⟨hw, hGood w hw⟩
  have hN : va_Nw (.methodLinkNest RX3 73 r.1 RX4) s := by rw [hr1]; exact hC.2.2.2.2.2.2.2.2.1.2.2.2.2.2
  have hrun := va_runSN (rest := rest.map (cv ad ex fm)) (As := as.map (cv ad ex fm)) (locs := locs) (H := H) (cells := cells) (slots := slots) (below := below) (meth := meth) (e := e) (R := R) (g := F0 m pc ls ((as.reverse ++ rest).map (cv ad ex fm))) (nL := nL) ⟨hC.1, hC.2.1, hC.2.2.1, hC.2.2.2.1, hC.2.2.2.2.1⟩ hM
    ⟨va_cnB (rm := mr_rm r) 1 hC.2.2.2.2.1 hG rfl rfl rfl hN (hC.2.2.2.2.1 _ h4) hd ⟨Nat.le_trans hF hFR, Nat.le_trans hL hLR⟩, hC.2.2.2.2.1 _ h2, trivial⟩
    ⟨CB.blind, fun U hU hW => ⟨rfl, CB.at hC hP hS hU hW⟩⟩
    rfl (by rw [List.length_map]; exact hlen) hl.1 (by
      show (as.reverse ++ rest).map (cv ad ex fm) = _
      rw [List.map_append, List.map_reverse]) (lv_room (by rw [cv_wid hC.2.2.2.2.2.2.2.2.2.1]; exact hwid)) hdg ⟨by simpa using hC.2.2.2.2.2.2.2.2.2.2.1.1, by simpa using hC.2.2.2.2.2.2.2.2.2.2.1.2⟩
  exact ok_fin hrun hS hC.2.2.2.2.2.2.2.1 hv (fun v h => hs v (List.mem_append_right _ h)) hl (fun v hq h => h)
