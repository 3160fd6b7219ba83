/-! what the machine's words mean over the kit's worlds -/
def cv (ad ex : Nat → Nat) (fm : Value) : AV → Value
  | .inl x => .int x
  | .inr (.inl x) => .long x
  | .inr (.inr (.inl q)) => .ref (ad q.2)
  | .inr (.inr (.inr 0)) => fm
  | .inr (.inr (.inr (n + 1))) => .ref (ex (n + 1))
def ab_fv (ad : Nat → Nat) (hp : HP) (c : Nat) (f : Nat × Nat × Nat) (j : Nat) : Value := match f.1 with
  | 0 => .int (hp.1 c j)
  | 1 => .long (hp.2 c j)
  | 2 => .int (hp.1 c j)
  | _ => .ref (ad (c + f.2.2))
def ab_fs (ad : Nat → Nat) (hp : HP) (c : Nat) : Nat → List (Nat × Nat × Nat) → List Value
  | _, [] => []
  | j, f :: t => ab_fv ad hp c f j :: ab_fs ad hp c (j + 1) t
def ab_ar (ad : Nat → Nat) (cy : Nat → ClassId) (hp : HP) (c : Nat) (a : Nat × Nat × Nat × Nat) : va_E := match a.1 with
  | 0 => .inl (cy 0, a.2.1, .inl (hp.1 c))
  | 1 => .inl (cy 1, a.2.1, .inr (.inl (hp.2 c)))
  | 2 => .inl (cy 2, a.2.1, .inl (hp.1 c))
  | t => .inl (cy t, a.2.1, .inr (.inr (.inr (.inr (fun j => some (ad (c + a.2.2.2 + j)))))))
def ab_ent (ad : Nat → Nat) (cy : Nat → ClassId) (hp : HP) (k c : Nat) : va_E := match kd k with
  | .inl o => .inr (o.1, ab_fs ad hp c 0 o.2)
  | .inr a => ab_ar ad cy hp c a
def ab_w (ad : Nat → Nat) (cy : Nat → ClassId) (hp : HP) : va_W := (List.range 67).map (fun c => (ad c, ab_ent ad cy hp (kc c) c))
def ab_A (ad : Nat → Nat) : Nat → Prop := fun q => ∃ c, c < 67 ∧ q = ad c
def ab_inj (ad : Nat → Nat) : Prop := ∀ i j, i < 67 → j < 67 → ad i = ad j → i = j
def ab_ty (cy : Nat → ClassId) : List (ClassId × FieldType) := [(cy 0, .int), (cy 1, .long), (cy 2, .byte), (cy 3, .object "SleepWard$Walker"), (cy 4, .object "SleepWard$Sheet")]
def tx_R : List (String × Nat × String × Nat) := [("SleepWard$Text", 142, "walker", 10), ("SleepWard$Text", 132, "sloper", 12), ("SleepWard$Text", 134, "lamper", 14), ("SleepWard$Text", 136, "homer", 16), ("SleepWard$Text", 138, "wanderer", 18), ("SleepWard$Text", 140, "mooner", 20), ("SleepWard$Text", 41, "shut", 22), ("SleepWard$Text", 51, "open", 24), ("SleepWard$Text", 53, "height", 26), ("SleepWard$Text", 58, "lamp", 28), ("SleepWard$Text", 70, "river", 30), ("SleepWard$Text", 75, "dry", 32), ("SleepWard$Text", 77, "moon", 34), ("SleepWard$Text", 81, "rounds", 36), ("SleepWard$Text", 117, "at", 38), ("SleepWard$Text", 119, "way", 40), ("SleepWardModel", 248, "walker", 50), ("SleepWardModel", 250, "sloper", 52), ("SleepWardModel", 252, "lamper", 54), ("SleepWardModel", 254, "homer", 56), ("SleepWardModel", 256, "wanderer", 58), ("SleepWardModel", 258, "mooner", 60), ("SleepWardModel", 283, "shut", 62), ("SleepWardModel", 288, "open", 64), ("SleepWardModel", 290, "height", 66), ("SleepWardModel", 295, "lamp", 68), ("SleepWardModel", 300, "river", 70), ("SleepWardModel", 302, "dry", 72), ("SleepWardModel", 304, "moon", 74), ("SleepWardModel", 306, "rounds", 76), ("SleepWardModel", 263, "at", 78), ("SleepWardModel", 268, "way", 80)]
def XT (ex : Nat → Nat) (fm : Value) (A : Nat → Prop) (U : State) (H : Heap) : Prop :=
  (va_T .int (ex 2) 6 (fun j => .int (kab j)) A U H ∧ va_Z "SleepWard" "KIND_ABOVE" "[I" (.ref (ex 2)) A U H) ∧ va_Z "java/lang/String" "COMPACT_STRINGS" "Z" (.int 1) A U H ∧
  va_Z "jdk/internal/util/Preconditions" "SIOOBE_FORMATTER" "Ljava/util/function/BiFunction;" fm A U H ∧
  (∀ m, txok m → va_O "java/lang/String" (ex (m + 10)) A U H ∧ va_OF "java/lang/String" "coder" "B" (.int 0) (ex (m + 10)) A U H ∧ va_OF "java/lang/String" "value" "[B" (.ref (ex (m + 11))) (ex (m + 10)) A U H ∧ va_T .byte (ex (m + 11)) (tx_n m) (fun j => .int (tx_b m j)) A U H) ∧
  (∀ q ∈ tx_R, vk_R q.1 q.2.1 q.2.2.1 (ex q.2.2.2) U) ∧ va_Nw (.methodLinkNest RX3 73 yX4_isSquare RX4) U
theorem XT.to {ex : Nat → Nat} {fm : Value} {A B : Nat → Prop} {s U : State} {H : Heap} {locs : List Loc} (h : XT ex fm A s s.heap) (hS : va_S A s.heap H locs) (hW : s.WarmedH U.vm) (hU : U.heap = H) (hB : ∀ q, B q → A q) : XT ex fm B U U.heap := by
  rw [hU]
  obtain ⟨⟨h1, h2⟩, h3, h4, h5, h6, h7⟩ := h
  have hk := hS.2.1
  refine ⟨⟨((h1.kept hk).moved hW.alike).narrow hB, ((h2.kept hk).moved hW.alike).narrow hB⟩, ((h3.kept hk).moved hW.alike).narrow hB, ((h4.kept hk).moved hW.alike).narrow hB, fun m hm => ?_, fun q hq => (h6 q hq).warm hW, h7.warmM hW⟩
  obtain ⟨a1, a2, a3, a4⟩ := h5 m hm
  exact ⟨((a1.kept hk).moved hW.alike).narrow hB, ((a2.kept hk).moved hW.alike).narrow hB, ((a3.kept hk).moved hW.alike).narrow hB, ((a4.kept hk).moved hW.alike).narrow hB⟩
theorem XT.blind {ex : Nat → Nat} {fm : Value} {A : Nat → Prop} {U V : State} (h : XT ex fm A U U.heap) (hv : U.vm = V.vm) (hh : V.heap = U.heap) : XT ex fm A V V.heap := by
  rw [hh]
  have ha : U.vm.Alike V.vm := by rw [hv]; exact Vm.Alike.refl _
  obtain ⟨⟨h1, h2⟩, h3, h4, h5, h6, h7⟩ := h
  refine ⟨⟨h1.moved ha, h2.moved ha⟩, h3.moved ha, h4.moved ha, fun m hm => ?_, fun q hq => (h6 q hq).same hv.symm, h7.same rfl hv⟩
  obtain ⟨a1, a2, a3, a4⟩ := h5 m hm
  exact ⟨a1.moved ha, a2.moved ha, a3.moved ha, a4.moved ha⟩
/-! lists -/
theorem lk_mem {α : Type} : ∀ {t : List (Nat × α)} {n : Nat} {v : α}, lk t n = some v → (n, v) ∈ t
  | [], _, _, h => by cases h
  | (a, w) :: t, n, v, h => by
    unfold lk at h
    split at h
    · next hb =>
      cases h
      have := Nat.eq_of_beq_eq_true hb
      subst this
      exact List.mem_cons_self
    · exact List.mem_cons_of_mem _ (lk_mem h)
theorem lk2_mem {α : Type} : ∀ {t : List (Nat × List (Nat × α))} {n : Nat} {v : α}, lk2 t n = some v → ∃ q ∈ t, (n, v) ∈ q.2
  | [], _, _, h => by cases h
  | (a, l) :: t, n, v, h => by
    unfold lk2 at h
    split at h
    · obtain ⟨r, h1, h2⟩ := lk2_mem h
      exact ⟨r, List.mem_cons_of_mem _ h1, h2⟩
    · exact ⟨(a, l), List.mem_cons_self, lk_mem h⟩
theorem nth_get {α : Type} : ∀ (t : List α) (n : Nat), nth t n = t[n]?
  | [], _ => rfl
  | _ :: _, 0 => rfl
  | _ :: t, n + 1 => by rw [List.getElem?_cons_succ]; exact nth_get t n
theorem tk_e : ∀ {n : Nat} {st acc as rest : List AV}, tk n st acc = some (as, rest) → ∃ pre : List AV, st = pre ++ rest ∧ as = pre.reverse ++ acc ∧ pre.length = n
  | 0, st, acc, as, rest, h => by
    cases h
    exact ⟨[], rfl, rfl, rfl⟩
  | n + 1, [], _, _, _, h => by cases h
  | n + 1, v :: st, acc, as, rest, h => by
    obtain ⟨pre, h1, h2, h3⟩ := tk_e (n := n) h
    exact ⟨v :: pre, by rw [h1]; rfl, by rw [h2, List.reverse_cons, List.append_assoc]; rfl, by rw [List.length_cons, h3]⟩
theorem scq_e {sc : Option (Nat × (Nat → Int32))} {k : Nat × (Nat → Int32) → Prop} (h : scq sc k) : ∃ q, sc = some q ∧ k q := by
  unfold scq at h
  split at h
  · exact ⟨_, rfl, h⟩
  · exact h.elim
theorem pI_e {st : List AV} {k : Int32 → List AV → Prop} (h : pI st k) : ∃ x r, st = vI x :: r ∧ k x r := by
  unfold pI at h
  split at h
  · exact ⟨_, _, rfl, h⟩
  · exact h.elim
theorem pL_e {st : List AV} {k : Int64 → List AV → Prop} (h : pL st k) : ∃ x r, st = vL x :: r ∧ k x r := by
  unfold pL at h
  split at h
  · exact ⟨_, _, rfl, h⟩
  · exact h.elim
theorem pV_e {st : List AV} {k : AV → List AV → Prop} (h : pV st k) : ∃ x r, st = x :: r ∧ k x r := by
  unfold pV at h
  split at h
  · exact ⟨_, _, rfl, h⟩
  · exact h.elim
theorem pR_e {st : List AV} {k : Nat → Nat → List AV → Prop} (h : pR st k) : ∃ a b r, st = vR a b :: r ∧ k a b r := by
  unfold pR at h
  split at h
  · exact ⟨_, _, _, rfl, h⟩
  · exact h.elim
theorem pA_e {st : List AV} {k : Nat → Nat → List AV → Prop} {x : Nat → List AV → Prop} (h : pA st k x) : (∃ a b r, st = vR a b :: r ∧ k a b r) ∨ ∃ n r, st = vX n :: r ∧ x n r := by
  unfold pA at h
  split at h
  · exact Or.inl ⟨_, _, _, rfl, h⟩
  · exact Or.inr ⟨_, _, rfl, h⟩
  · exact h.elim
theorem pN_e {st : List AV} {k : Prop} (h : pN st k) : st = [] ∧ k := by
  unfold pN at h
  split at h
  · exact ⟨rfl, h⟩
  · exact h.elim
theorem nb_e {a b : Nat} {k : Prop} (h : nb a b k) : a < b ∧ k := by
  unfold nb at h
  split at h
  · next hb => exact ⟨Nat.le_of_ble_eq_true hb, h⟩
  · exact h.elim
theorem one_e {v : AV} {k : Prop} (h : one v k) : av_two v = false ∧ k := by
  unfold one at h
  split at h
  · next hb => exact ⟨hb, h⟩
  · exact h.elim
theorem tg1_e {t : List Nat} {k : Nat → Prop} (h : tg1 t k) : ∃ a, t = [a] ∧ k a := by
  unfold tg1 at h
  split at h
  · exact ⟨_, rfl, h⟩
  · exact h.elim
theorem ldI_e {lv : LV} {i : Nat} {k : AV → Prop} (h : ldI lv i k) : ∃ x, (i, vI x) ∈ lv ∧ k (vI x) := by
  unfold ldI at h
  split at h
  · next he => exact ⟨_, lk_mem he, h⟩
  · exact h.elim
theorem ldL_e {lv : LV} {i : Nat} {k : AV → Prop} (h : ldL lv i k) : ∃ x, (i, vL x) ∈ lv ∧ k (vL x) := by
  unfold ldL at h
  split at h
  · next he => exact ⟨_, lk_mem he, h⟩
  · exact h.elim
theorem ldA_e {lv : LV} {i : Nat} {k : AV → Prop} (h : ldA lv i k) : (∃ a b, (i, vR a b) ∈ lv ∧ k (vR a b)) ∨ ∃ n, (i, vX (n + 1)) ∈ lv ∧ k (vX (n + 1)) := by
  unfold ldA at h
  split at h
  · next a b he => exact Or.inl ⟨a, b, lk_mem he, h⟩
  · next he => exact Or.inr ⟨_, lk_mem he, h⟩
  · exact h.elim
theorem fsh_e {fl : List (Nat × Nat × Nat)} {idx k : Nat} {kk : Nat → (Nat × Nat × Nat) → Prop} (h : fsh fl idx k kk) : ∃ j o f, (idx, k, j) ∈ fl ∧ kd k = .inl o ∧ nth o.2 j = some f ∧ kk j f := by
  unfold fsh at h
  split at h
  · next k2 j hq =>
    split at h
    · next hb =>
      split at h
      · next n fs ho =>
        split at h
        · next f hf =>
          have := Nat.eq_of_beq_eq_true hb
          have hm := lk_mem hq
          exact ⟨j, (n, fs), f, by rw [this]; exact hm, ho, hf, h⟩
        · exact h.elim
      · exact h.elim
    · exact h.elim
  · exact h.elim
theorem ash_e {k t : Nat} {kk : Nat → Prop} (h : ash k t kk) : ∃ a, kd k = .inr a ∧ a.1 = t ∧ kk a.2.1 := by
  unfold ash at h
  split at h
  · next a n b d ha =>
    split at h
    · next hb => exact ⟨(a, n, b, d), ha, Nat.eq_of_beq_eq_true hb, h⟩
    · exact h.elim
  · exact h.elim
theorem arf_e {k : Nat} {kk : Nat → Nat → Nat → Prop} (h : arf k kk) : ∃ a, kd k = .inr a ∧ 3 ≤ a.1 ∧ kk a.2.1 a.2.2.1 a.2.2.2 := by
  unfold arf at h
  split at h
  · next a n b d ha =>
    split at h
    · next hb => exact ⟨(a, n, b, d), ha, Nat.le_of_ble_eq_true hb, h⟩
    · exact h.elim
  · exact h.elim
theorem aln_e {k : Nat} {kk : Nat → Prop} (h : aln k kk) : ∃ a, kd k = .inr a ∧ kk a.2.1 := by
  unfold aln at h
  split at h
  · next a n b d ha => exact ⟨(a, n, b, d), ha, h⟩
  · exact h.elim
theorem csK_e {tg : List Nat} {d : Int} {k : Int32 → Prop} (h : csK tg d k) : k (cs tg d) := match tg, h with
  | [], h => h
  | [_], h => h
  | [_, _], h => h
  | _ :: _ :: _ :: _, h => h
theorem acK_e {tg : List Nat} {x : Int32} {d : Int} {k : Int32 → Prop} (h : acK tg x d k) : k (ac tg x d) := match tg, h with
  | [], h => h
  | [_], h => h
  | [_, _], h => h
  | _ :: _ :: _ :: _, h => h
/-! the heap's rows -/
theorem rI_eq (hp : HP) (c : Nat) (f : Nat → Int32) : (rI hp c f).1 c = f := if_pos rfl
theorem rI_ne (hp : HP) {c d : Nat} (f : Nat → Int32) (h : d ≠ c) : (rI hp c f).1 d = hp.1 d := if_neg h
theorem rI_2 (hp : HP) (c : Nat) (f : Nat → Int32) : (rI hp c f).2 = hp.2 := rfl
theorem rL_eq (hp : HP) (c : Nat) (f : Nat → Int64) : (rL hp c f).2 c = f := if_pos rfl
theorem rL_ne (hp : HP) {c d : Nat} (f : Nat → Int64) (h : d ≠ c) : (rL hp c f).2 d = hp.2 d := if_neg h
theorem rL_1 (hp : HP) (c : Nat) (f : Nat → Int64) : (rL hp c f).1 = hp.1 := rfl
theorem ab_fs_get (ad : Nat → Nat) (hp : HP) (c : Nat) : ∀ (fs : List (Nat × Nat × Nat)) (i j : Nat) (f : Nat × Nat × Nat), nth fs j = some f → (ab_fs ad hp c i fs)[j]? = some (ab_fv ad hp c f (i + j))
  | [], _, _, _, h => by cases h
  | a :: t, i, 0, f, h => by cases h; rfl
  | a :: t, i, j + 1, f, h => by
    show (ab_fv ad hp c a i :: ab_fs ad hp c (i + 1) t)[j + 1]? = _
    rw [List.getElem?_cons_succ, ab_fs_get ad hp c t (i + 1) j f h]
    rw [show i + 1 + j = i + (j + 1) by omega]
theorem ab_fs_len (ad : Nat → Nat) (hp : HP) (c : Nat) : ∀ (fs : List (Nat × Nat × Nat)) (i : Nat), (ab_fs ad hp c i fs).length = fs.length
  | [], _ => rfl
  | _ :: t, i => by
    show (_ :: ab_fs ad hp c (i + 1) t).length = _
    rw [List.length_cons, ab_fs_len ad hp c t (i + 1), List.length_cons]
theorem ab_fv_congr (ad : Nat → Nat) {hp hq : HP} {c : Nat} {f : Nat × Nat × Nat} {j : Nat} (h1 : hq.1 c j = hp.1 c j) (h2 : hq.2 c j = hp.2 c j) : ab_fv ad hq c f j = ab_fv ad hp c f j := by
  unfold ab_fv
  rw [h1, h2]
theorem ab_fs_congr (ad : Nat → Nat) {hp hq : HP} {c : Nat} : ∀ (fs : List (Nat × Nat × Nat)) (i : Nat), (∀ j, i ≤ j → hq.1 c j = hp.1 c j ∧ hq.2 c j = hp.2 c j) → ab_fs ad hq c i fs = ab_fs ad hp c i fs
  | [], _, _ => rfl
  | f :: t, i, h => by
    show ab_fv ad hq c f i :: ab_fs ad hq c (i + 1) t = ab_fv ad hp c f i :: ab_fs ad hp c (i + 1) t
    rw [ab_fv_congr ad (h i (Nat.le_refl i)).1 (h i (Nat.le_refl i)).2, ab_fs_congr ad t (i + 1) (fun j hj => h j (by omega))]
theorem ab_fs_set (ad : Nat → Nat) {hp hq : HP} {c : Nat} {v : Value} : ∀ (fs : List (Nat × Nat × Nat)) (i j : Nat) (f : Nat × Nat × Nat), nth fs j = some f → ab_fv ad hq c f (i + j) = v → (∀ k, k ≠ i + j → hq.1 c k = hp.1 c k ∧ hq.2 c k = hp.2 c k) → ab_fs ad hq c i fs = (ab_fs ad hp c i fs).set j v
  | [], _, _, _, h, _, _ => by cases h
  | a :: t, i, 0, f, h, hv, hk => by
    cases h
    show ab_fv ad hq c a i :: ab_fs ad hq c (i + 1) t = (ab_fv ad hp c a i :: ab_fs ad hp c (i + 1) t).set 0 v
    rw [List.set_cons_zero, ab_fs_congr ad t (i + 1) (fun j hj => hk j (by omega)), ← hv]
    rfl
  | a :: t, i, j + 1, f, h, hv, hk => by
    show ab_fv ad hq c a i :: ab_fs ad hq c (i + 1) t = (ab_fv ad hp c a i :: ab_fs ad hp c (i + 1) t).set (j + 1) v
    rw [List.set_cons_succ, ab_fv_congr ad (hk i (by omega)).1 (hk i (by omega)).2, ab_fs_set ad (v := v) t (i + 1) j f h (by rw [show i + 1 + j = i + (j + 1) by omega]; exact hv) (fun k h2 => hk k (by omega))]
theorem ab_ent_congr (ad : Nat → Nat) (cy : Nat → ClassId) {hp hq : HP} {k c : Nat} (h1 : hq.1 c = hp.1 c) (h2 : hq.2 c = hp.2 c) : ab_ent ad cy hq k c = ab_ent ad cy hp k c := by
  unfold ab_ent
  split
  · next o ho => rw [ab_fs_congr ad (hp := hp) (hq := hq) (c := c) o.2 0 (fun j _ => ⟨by rw [h1], by rw [h2]⟩)]
  · unfold ab_ar
    rw [h1, h2]
theorem ab_w_get (ad : Nat → Nat) (cy : Nat → ClassId) (hp : HP) {c : Nat} (h : c < 67) : (ab_w ad cy hp)[c]? = some (ad c, ab_ent ad cy hp (kc c) c) := by
  unfold ab_w
  rw [List.getElem?_map, List.getElem?_range h]
  rfl
theorem ab_w_lt (ad : Nat → Nat) (cy : Nat → ClassId) (hp : HP) {c : Nat} {q : Nat × va_E} (h : (ab_w ad cy hp)[c]? = some q) : c < 67 := by
  have := (List.getElem?_eq_some_iff.mp h).1
  unfold ab_w at this
  rw [List.length_map, List.length_range] at this
  exact this
theorem ab_w_set (ad : Nat → Nat) (cy : Nat → ClassId) {hp hq : HP} {c : Nat} (hc : c < 67) (h : ∀ d, d ≠ c → hq.1 d = hp.1 d ∧ hq.2 d = hp.2 d) : (ab_w ad cy hp).set c (ad c, ab_ent ad cy hq (kc c) c) = ab_w ad cy hq := by
  apply List.ext_getElem?
  intro d
  by_cases hd : d < 67
  · rw [ab_w_get ad cy hq hd]
    by_cases hdc : d = c
    · subst hdc
      rw [List.getElem?_set_self (by unfold ab_w; rw [List.length_map, List.length_range]; exact hd)]
    · rw [List.getElem?_set_ne (Ne.symm hdc), ab_w_get ad cy hp hd, ab_ent_congr ad cy (h d hdc).1 (h d hdc).2]
  · rw [List.getElem?_eq_none (by rw [List.length_set]; unfold ab_w; rw [List.length_map, List.length_range]; omega), List.getElem?_eq_none (by unfold ab_w; rw [List.length_map, List.length_range]; omega)]
theorem ab_w_D {ad : Nat → Nat} {cy : Nat → ClassId} {hp : HP} {A : Nat → Prop} (hi : ab_inj ad) (hA : ∀ c, c < 67 → A (ad c)) : va_D A (ab_w ad cy hp) := by
  refine ⟨fun i j x y h1 h2 h3 => ?_, fun k q hk => ?_⟩
  · have l1 := ab_w_lt ad cy hp h1
    have l2 := ab_w_lt ad cy hp h2
    rw [ab_w_get ad cy hp l1] at h1
    rw [ab_w_get ad cy hp l2] at h2
    cases h1
    cases h2
    exact hi i j l1 l2 h3
  · have l1 := ab_w_lt ad cy hp hk
    rw [ab_w_get ad cy hp l1] at hk
    cases hk
    exact hA k l1
theorem ab_fld : ∀ c, c < 67 → ∀ o, kd (kc c) = .inl o → ∀ f ∈ o.2, f.1 = 3 → c + f.2.2 < 67 ∧ kc (c + f.2.2) = f.2.1 := by
  have h : ∀ c, c < 67 → (match kd (kc c) with | .inl o => o.2.all (fun f => !(f.1 == 3) || (decide (c + f.2.2 < 67) && kc (c + f.2.2) == f.2.1)) | .inr _ => true) = true := by decide +kernel
  intro c hc o ho f hf h3
  have h1 := h c hc
  rw [ho] at h1
  have h2 := List.all_eq_true.mp h1 f hf
  simp only [h3, beq_self_eq_true, Bool.not_true, Bool.false_or, Bool.and_eq_true, decide_eq_true_eq, beq_iff_eq] at h2
  exact h2
theorem ab_tag : ∀ c, c < 67 → ∀ o, kd (kc c) = .inl o → ∀ f ∈ o.2, f.1 < 4 := by
  have h : ∀ c, c < 67 → (match kd (kc c) with | .inl o => o.2.all (fun f => decide (f.1 < 4)) | .inr _ => true) = true := by decide +kernel
  intro c hc o ho f hf
  have h1 := h c hc
  rw [ho] at h1
  exact of_decide_eq_true (List.all_eq_true.mp h1 f hf)
theorem ab_arr : ∀ c, c < 67 → ∀ a, kd (kc c) = .inr a → 3 ≤ a.1 → (a.1 = 3 ∨ a.1 = 4) ∧ ∀ j, j < a.2.1 → c + a.2.2.2 + j < 67 ∧ kc (c + a.2.2.2 + j) = a.2.2.1 := by
  have h : ∀ c, c < 67 → (match kd (kc c) with | .inl _ => true | .inr a => !(decide (3 ≤ a.1)) || ((a.1 == 3 || a.1 == 4) && (List.range a.2.1).all (fun j => decide (c + a.2.2.2 + j < 67) && kc (c + a.2.2.2 + j) == a.2.2.1))) = true := by decide +kernel
  intro c hc a ha h3
  have h1 := h c hc
  rw [ha] at h1
  simp only [h3, decide_true, Bool.not_true, Bool.false_or, Bool.and_eq_true, Bool.or_eq_true, beq_iff_eq] at h1
  refine ⟨h1.1, fun j hj => ?_⟩
  have h2 := List.all_eq_true.mp h1.2 j (List.mem_range.mpr hj)
  simp only [Bool.and_eq_true, decide_eq_true_eq, beq_iff_eq] at h2
  exact h2
/-! the context of a walk, and what stands to be shown -/
/-- facts of an object's kind -/
def shp (f : Nat × Nat × Nat) (ty : FieldType) (fin : Bool) : Prop := match f.1 with
  | 0 => ty = .int ∧ fin = false
  | 1 => ty = .long ∧ fin = false
  | 2 => ty = .boolean ∧ fin = false
  | _ => True
def okd (k : Nat) (C : String) (T : u_T) (N : Nat) : Prop := ∃ (o : Nat × List (Nat × Nat × Nat)) (ty0 : Nat → FieldType), kd k = .inl o ∧ vwCl[o.1]? = some (C, T, N) ∧ o.2.length = N ∧ (∀ w ∈ u_ws C T N, w ∈ Gw) ∧ (∀ j, j < N → parseFieldDescriptor (T j).2.2.1 = some (ty0 j)) ∧
  (∀ a, a < N → ∀ b, b < N → a ≠ b → (T a).2.1 ≠ (T b).2.1) ∧ (∀ j, j < N → (T j).1 = C) ∧ ∀ j, j < N → ∀ f, nth o.2 j = some f → shp f (ty0 j) (T j).2.2.2
def flok (own : String) (q : Nat × Nat × Nat) : Prop := ∃ (C : String) (T : u_T) (N : Nat), okd q.2.1 C T N ∧ q.2.2 < N ∧ Cond.fieldLink own q.1 C (T q.2.2).2.1 (T q.2.2).2.2.1 ∈ Gw
/-- a text, and a static -/
def txk (own : String) (q : Nat × AV) : Prop := ∃ t ∈ tx_R, t.1 = own ∧ t.2.1 = q.1 ∧ q.2 = vX (t.2.2.2 - 1 + 1) ∧ 1 ≤ t.2.2.2
def stk (own : String) (q : Nat × AV) : Prop := (Cond.fieldLink own q.1 "SleepWard" "KIND_ABOVE" "[I" ∈ Gw ∧ q.2 = vX 2) ∨ (Cond.fieldLink own q.1 "java/lang/String" "COMPACT_STRINGS" "Z" ∈ Gw ∧ q.2 = vI 1) ∨
  (Cond.fieldLink own q.1 "jdk/internal/util/Preconditions" "SIOOBE_FORMATTER" "Ljava/util/function/BiFunction;" ∈ Gw ∧ q.2 = vX 0)
def txf (own : String) (q : Nat × Nat) : Prop := (q.2 = 0 ∧ Cond.fieldLink own q.1 "java/lang/String" "value" "[B" ∈ Gw) ∨ (q.2 = 1 ∧ Cond.fieldLink own q.1 "java/lang/String" "coder" "B" ∈ Gw)
def lkok (own : String) (K : LKS) : Prop := (∀ q ∈ K.1, flok own q) ∧ (∀ q ∈ K.2.1, Cond.constant own q.1 q.2 ∈ Gw) ∧ (∀ q ∈ K.2.2.1, Cond.constantLong own q.1 q.2 ∈ Gw) ∧ (∀ q ∈ K.2.2.2.1, txk own q) ∧ (∀ q ∈ K.2.2.2.2.1, stk own q) ∧ ∀ q ∈ K.2.2.2.2.2, txf own q
def CX (p : Program) (R : Room) (s : State) (m : MethodId) (args : Array Value) (c : Code) (cc : ByteArray) (own : String) (nL cells slots : Nat) (D : va_G) (ad : Nat → Nat) (cy : Nat → ClassId) (ex : Nat → Nat) (fm : Value) (A : Nat → Prop) (sc : Option (Nat × (Nat → Int32))) : Prop :=
  p.tables.exec = Jvm.exec ∧ c.code = cc ∧ c.maxLocals = nL ∧ s.vm.findClass own = some m.cls ∧ (∀ w ∈ Gw, w.before args s = true) ∧ va_K D vwCl (ab_ty cy) s ∧ ab_inj ad ∧ (∀ q, ab_A ad q → A q) ∧ XT ex fm A s s.heap ∧ fm.category = 1 ∧ (cells ≤ R.cells ∧ slots ≤ R.slots) ∧
  ∀ q, sc = some q → va_X (ex 1) q.1 q.2 s s.heap ∧ ex 1 < s.heap.size ∧ ¬ A (ex 1)
def lvm (ad ex : Nat → Nat) (fm : Value) (lv : LV) : List (Nat × Value) := lv.map (fun q => (q.1, cv ad ex fm q.2))
def OK (p : Program) (l : Launch) (e : Env) (R : Room) (s : State) (m : MethodId) (args : Array Value) (below : List Frame) (meth : Method) (c : Code) (nL cells slots : Nat) (Qs : State → Prop) (D : va_G) (ad : Nat → Nat) (cy : Nat → ClassId) (ex : Nat → Nat) (fm : Value) (A : Nat → Prop) (pc : Nat) (lv : LV) (st : List AV) (hp : HP) : Prop :=
  (∀ q ∈ lv, vld q.2) → (∀ v ∈ st, vld v) → ∀ (H : Heap) (locs : List Loc) (ls : Array Slot), va_P D vwCl (ab_w ad cy hp) H → va_S A s.heap H locs → lv_has ls nL (lvm ad ex fm lv) → W p l e R s m args below meth c H locs cells slots Qs (F0 m pc ls (st.map (cv ad ex fm)))
def Mono (sp : SP) : Prop := ∀ (as : List AV) (hp : HP) (K K' : QP), (∀ v hq, K v hq → K' v hq) → sp as hp K → sp as hp K'
def SC (own : String) (F L : Nat) (q : Nat × Bool × Nat × SP) : Prop := Mono q.2.2.2 ∧
  ∀ (p : Program) (l : Launch) (e : Env) (R : Room) (s : State) (m : MethodId) (args : Array Value) (below : List Frame) (meth : Method) (c : Code) (cc : ByteArray) (nL cells slots : Nat) (Qs : State → Prop) (D : va_G) (ad : Nat → Nat) (cy : Nat → ClassId) (ex : Nat → Nat) (fm : Value) (A : Nat → Prop) (sc : Option (Nat × (Nat → Int32))),
    CX p R s m args c cc own nL cells slots D ad cy ex fm A sc → F ≤ R.frames → L ≤ R.locals → ∀ (pc : Nat) (lv : LV) (as rest : List AV) (hp : HP),
      decode cc pc = .ok ((match q.2.1 with | true => Instr.invokestatic q.1 | false => Instr.invokevirtual q.1), 3) → as.length = q.2.2.1 → wid rest ≤ 8 →
      q.2.2.2 as hp (fun v hq => OK p l e R s m args below meth c nL cells slots Qs D ad cy ex fm A (pc + 3) lv (psh v rest) hq) → OK p l e R s m args below meth c nL cells slots Qs D ad cy ex fm A pc lv (as.reverse ++ rest) hp
theorem cv_two {ad ex : Nat → Nat} {fm : Value} (hf : fm.category = 1) : ∀ v : AV, av_two v = ((cv ad ex fm v).category == 2)
  | .inl x => rfl
  | .inr (.inl x) => rfl
  | .inr (.inr (.inl q)) => rfl
  | .inr (.inr (.inr 0)) => by
    show false = (fm.category == 2)
    rw [hf]; rfl
  | .inr (.inr (.inr (n + 1))) => rfl
theorem cv_one {ad ex : Nat → Nat} {fm : Value} (hf : fm.category = 1) {v : AV} (h : av_two v = false) : (cv ad ex fm v).category = 1 := by
  have h1 := cv_two (ad := ad) (ex := ex) hf v
  match v with
  | .inl x => rfl
  | .inr (.inl x) => cases h
  | .inr (.inr (.inl q)) => rfl
  | .inr (.inr (.inr 0)) => exact hf
  | .inr (.inr (.inr (n + 1))) => rfl
theorem cv_wid {ad ex : Nat → Nat} {fm : Value} (hf : fm.category = 1) : ∀ st : List AV, ((st.map (cv ad ex fm)).map fun v => v.category).sum = wid st
  | [] => rfl
  | v :: t => by
    rw [List.map_cons, List.map_cons, List.sum_cons, cv_wid hf t]
    show _ = (match av_two v with
    | true => 2
    | false => 1) + wid t
    match v with
    | .inl x => rfl
    | .inr (.inl x) => rfl
    | .inr (.inr (.inl q)) => rfl
    | .inr (.inr (.inr 0)) =>
      show fm.category + wid t = 1 + wid t
      rw [hf]
    | .inr (.inr (.inr (n + 1))) => rfl
theorem lv_mono {ls : Array Slot} {nL : Nat} {l1 l2 : List (Nat × Value)} (h : lv_has ls nL l1) (hs : ∀ q ∈ l2, q ∈ l1) : lv_has ls nL l2 := ⟨h.1, h.2.1, fun q hq => h.2.2 q (hs q hq)⟩
theorem lvm_at {ad ex : Nat → Nat} {fm : Value} {ls : Array Slot} {nL i : Nat} {lv : LV} {v : AV} (h : lv_has ls nL (lvm ad ex fm lv)) (hm : (i, v) ∈ lv) : ls[i]? = some (.val (cv ad ex fm v)) := h.2.2 (i, cv ad ex fm v) (List.mem_map.mpr ⟨(i, v), hm, rfl⟩)
theorem lvd_mem {i : Nat} {two : Bool} : ∀ {lv : LV} {q : Nat × AV}, q ∈ lvd i two lv → q ∈ lv ∧ ¬ q.1 = i ∧ ¬ (q.1 + 1 = i ∧ av_two q.2 = true) ∧ ¬ (two = true ∧ q.1 = i + 1)
  | [], q, h => by cases h
  | a :: t, q, h => by
    unfold lvd at h
    split at h
    · have := lvd_mem h
      exact ⟨List.mem_cons_of_mem _ this.1, this.2⟩
    · next hb =>
      rcases List.mem_cons.mp h with rfl | h
      · refine ⟨List.mem_cons_self, ?_, ?_, ?_⟩
        · intro h1
          rw [h1, Nat.beq_refl] at hb
          cases hb
        · intro h1
          rw [h1.1, Nat.beq_refl, h1.2] at hb
          simp at hb
        · intro h1
          rw [h1.2, Nat.beq_refl, h1.1] at hb
          simp at hb
      · have := lvd_mem h
        exact ⟨List.mem_cons_of_mem _ this.1, this.2⟩
theorem lvm_st1 {ad ex : Nat → Nat} {fm : Value} (hf : fm.category = 1) {ls : Array Slot} {nL i : Nat} {lv : LV} {v : AV} {w : Value} (hw : cv ad ex fm v = w) (h : lv_has ls nL ((i, w) :: (lvm ad ex fm lv).filter (fun q => !(q.1 == i) && !(q.1 + 1 == i && q.2.category == 2)))) : lv_has ls nL (lvm ad ex fm ((i, v) :: lvd i false lv)) := by
  refine lv_mono h (fun q hq => ?_)
  subst hw
  rcases List.mem_cons.mp hq with rfl | hq
  · exact List.mem_cons_self
  · obtain ⟨a, ha, rfl⟩ := List.mem_map.mp hq
    obtain ⟨h1, h2, h3, -⟩ := lvd_mem ha
    refine List.mem_cons_of_mem _ (List.mem_filter.mpr ⟨List.mem_map.mpr ⟨a, h1, rfl⟩, ?_⟩)
    have h4 := cv_two (ad := ad) (ex := ex) hf a.2
    rw [h4] at h3
    simp only [Bool.and_eq_true, Bool.not_eq_true', beq_eq_false_iff_ne, Bool.and_eq_false_imp, beq_iff_eq] at h3 ⊢
    exact ⟨h2, fun h5 => fun h6 => h3 ⟨h5, h6⟩⟩
theorem lvm_st2 {ad ex : Nat → Nat} {fm : Value} (hf : fm.category = 1) {ls : Array Slot} {nL i : Nat} {lv : LV} {v : AV} {w : Value} (hw : cv ad ex fm v = w) (h : lv_has ls nL ((i, w) :: (lvm ad ex fm lv).filter (fun q => !(q.1 == i) && (!(q.1 == i + 1) && !(q.1 + 1 == i && q.2.category == 2))))) : lv_has ls nL (lvm ad ex fm ((i, v) :: lvd i true lv)) := by
  refine lv_mono h (fun q hq => ?_)
  subst hw
  rcases List.mem_cons.mp hq with rfl | hq
  · exact List.mem_cons_self
  · obtain ⟨a, ha, rfl⟩ := List.mem_map.mp hq
    obtain ⟨h1, h2, h3, h7⟩ := lvd_mem ha
    refine List.mem_cons_of_mem _ (List.mem_filter.mpr ⟨List.mem_map.mpr ⟨a, h1, rfl⟩, ?_⟩)
    have h4 := cv_two (ad := ad) (ex := ex) hf a.2
    rw [h4] at h3
    simp only [Bool.and_eq_true, Bool.not_eq_true', beq_eq_false_iff_ne, Bool.and_eq_false_imp, beq_iff_eq] at h3 ⊢
    exact ⟨h2, fun h5 => h7 ⟨rfl, h5⟩, fun h5 => fun h6 => h3 ⟨h5, h6⟩⟩
theorem vs_tl {a : AV} {r : List AV} (h : ∀ v ∈ a :: r, vld v) : ∀ v ∈ r, vld v := fun v hv => h v (List.mem_cons_of_mem _ hv)
theorem vs_hd {a : AV} {r : List AV} (h : ∀ v ∈ a :: r, vld v) : vld a := h a List.mem_cons_self
theorem vs_cn {a : AV} {r : List AV} (ha : vld a) (h : ∀ v ∈ r, vld v) : ∀ v ∈ a :: r, vld v := fun v hv => (List.mem_cons.mp hv).elim (fun e => e ▸ ha) (h v)
theorem vl_cn {i : Nat} {two : Bool} {a : AV} {lv : LV} (ha : vld a) (h : ∀ q ∈ lv, vld q.2) : ∀ q ∈ (i, a) :: lvd i two lv, vld q.2 := fun q hq => (List.mem_cons.mp hq).elim (fun e => e ▸ ha) (fun hq => h q (lvd_mem hq).1)
/-! rows that agree within their lengths hold the same cells -/
def lenc (c : Nat) : Nat := match kd (kc c) with
  | .inl o => o.2.length
  | .inr a => a.2.1
def heq (hp hq : HP) : Prop := ∀ c, c < 67 → ∀ j, j < lenc c → hp.1 c j = hq.1 c j ∧ hp.2 c j = hq.2 c j
theorem heq.rfl {hp : HP} : heq hp hp := fun _ _ _ _ => ⟨Eq.refl _, Eq.refl _⟩
theorem heq.symm {hp hq : HP} (h : heq hp hq) : heq hq hp := fun c hc j hj => ⟨(h c hc j hj).1.symm, (h c hc j hj).2.symm⟩
theorem heq.trans {hp hq hr : HP} (h : heq hp hq) (h2 : heq hq hr) : heq hp hr := fun c hc j hj => ⟨(h c hc j hj).1.trans (h2 c hc j hj).1, (h c hc j hj).2.trans (h2 c hc j hj).2⟩
def QInv (Q : QP) : Prop := ∀ v hp hq, heq hp hq → Q v hp → Q v hq
theorem arrV_congr (cI : ClassId) (N : Nat) {f g : Nat → Value} (h : ∀ j, j < N → f j = g j) : arrV cI N f = arrV cI N g := by
  unfold arrV
  congr 1
  congr 1
  funext j
  exact h j.val j.isLt
theorem ab_fs_congr2 (ad : Nat → Nat) {hp hq : HP} {c : Nat} : ∀ (fs : List (Nat × Nat × Nat)) (i : Nat), (∀ j, i ≤ j → j < i + fs.length → hq.1 c j = hp.1 c j ∧ hq.2 c j = hp.2 c j) → ab_fs ad hq c i fs = ab_fs ad hp c i fs
  | [], _, _ => Eq.refl _
  | f :: t, i, h => by
    show ab_fv ad hq c f i :: ab_fs ad hq c (i + 1) t = ab_fv ad hp c f i :: ab_fs ad hp c (i + 1) t
    have h0 := h i (Nat.le_refl i) (by rw [List.length_cons]; omega)
    rw [ab_fv_congr ad h0.1 h0.2, ab_fs_congr2 ad t (i + 1) (fun j hj hj2 => h j (by omega) (by rw [List.length_cons]; omega))]
theorem va_P_heq {D : va_G} {ad : Nat → Nat} {cy : Nat → ClassId} {hp hq : HP} {H : Heap} (h : heq hp hq) (hP : va_P D vwCl (ab_w ad cy hp) H) : va_P D vwCl (ab_w ad cy hq) H := by
  intro c q hq2
  have hc := ab_w_lt ad cy hq hq2
  rw [ab_w_get ad cy hq hc] at hq2
  cases hq2
  have h1 := hP c _ (ab_w_get ad cy hp hc)
  have h2 := h c hc
  unfold lenc at h2
  unfold ab_ent at h1 ⊢
  cases hk : kd (kc c) with
  | inl o =>
    rw [hk] at h1 h2
    dsimp only at h1 h2 ⊢
    rw [ab_fs_congr2 ad (hp := hp) (hq := hq) (c := c) o.2 0 (fun j _ hj => by
      have := h2 j (by omega)
      exact ⟨this.1.symm, this.2.symm⟩)]
    exact h1
  | inr a =>
    rw [hk] at h1 h2
    dsimp only at h1 h2 ⊢
    obtain ⟨t, n, k, d⟩ := a
    dsimp only at h2
    match t, h1 with
    | 0, h1 =>
      show H[ad c]? = some (arrV (cy 0) n (fun j => .int (hq.1 c j)))
      rw [← arrV_congr (cy 0) n (f := fun j => .int (hp.1 c j)) (fun j hj => by rw [(h2 j hj).1])]
      exact h1
    | 1, h1 =>
      show H[ad c]? = some (arrV (cy 1) n (fun j => .long (hq.2 c j)))
      rw [← arrV_congr (cy 1) n (f := fun j => .long (hp.2 c j)) (fun j hj => by rw [(h2 j hj).2])]
      exact h1
    | 2, h1 =>
      show H[ad c]? = some (arrV (cy 2) n (fun j => .int (hq.1 c j)))
      rw [← arrV_congr (cy 2) n (f := fun j => .int (hp.1 c j)) (fun j hj => by rw [(h2 j hj).1])]
      exact h1
    | _ + 3, h1 => exact h1
/-- what a list of locals says is said in another one -/
def lvs : LV → LV → Prop
  | [], _ => True
  | q :: t, lv => lk lv q.1 = some q.2 ∧ lvs t lv
theorem lvs_mem : ∀ {t lv : LV}, lvs t lv → ∀ q ∈ t, q ∈ lv
  | [], _, _, q, h => by cases h
  | a :: t, lv, h, q, hq => by
    rcases List.mem_cons.mp hq with e | hq
    · rw [e]
      exact lk_mem h.1
    · exact lvs_mem h.2 q hq
