/-! the step is monotone; many steps at once; a contract out of a walk -/
theorem pI_m {st : List AV} {k k2 : Int32 → List AV → Prop} (hk : ∀ x r, k x r → k2 x r) (h : pI st k) : pI st k2 := by
  obtain ⟨x, r, rfl, h⟩ := pI_e h
  exact hk x r h
theorem pL_m {st : List AV} {k k2 : Int64 → List AV → Prop} (hk : ∀ x r, k x r → k2 x r) (h : pL st k) : pL st k2 := by
  obtain ⟨x, r, rfl, h⟩ := pL_e h
  exact hk x r h
theorem pV_m {st : List AV} {k k2 : AV → List AV → Prop} (hk : ∀ x r, k x r → k2 x r) (h : pV st k) : pV st k2 := by
  obtain ⟨x, r, rfl, h⟩ := pV_e h
  exact hk x r h
theorem pR_m {st : List AV} {k k2 : Nat → Nat → List AV → Prop} (hk : ∀ x y r, k x y r → k2 x y r) (h : pR st k) : pR st k2 := by
  obtain ⟨x, y, r, rfl, h⟩ := pR_e h
  exact hk x y r h
theorem pA_m {st : List AV} {k k2 : Nat → Nat → List AV → Prop} {x x2 : Nat → List AV → Prop} (hk : ∀ a b r, k a b r → k2 a b r) (hx : ∀ n r, x n r → x2 n r) (h : pA st k x) : pA st k2 x2 := by
  rcases pA_e h with ⟨a, b, r, rfl, h⟩ | ⟨n, r, rfl, h⟩
  · exact hk a b r h
  · exact hx n r h
theorem nb_m {a b : Nat} {k k2 : Prop} (hk : k → k2) (h : nb a b k) : nb a b k2 := by
  unfold nb at h ⊢
  split at h
  · exact hk h
  · exact h.elim
theorem one_m {v : AV} {k k2 : Prop} (hk : k → k2) (h : one v k) : one v k2 := by
  unfold one at h ⊢
  split at h
  · exact hk h
  · exact h.elim
theorem tg1_m {t : List Nat} {k k2 : Nat → Prop} (hk : ∀ a, k a → k2 a) (h : tg1 t k) : tg1 t k2 := by
  obtain ⟨a, rfl, h⟩ := tg1_e h
  exact hk a h
theorem ldI_m {lv : LV} {i : Nat} {k k2 : AV → Prop} (hk : ∀ v, k v → k2 v) (h : ldI lv i k) : ldI lv i k2 := by
  unfold ldI at h ⊢
  split at h
  · exact hk _ h
  · exact h.elim
theorem ldL_m {lv : LV} {i : Nat} {k k2 : AV → Prop} (hk : ∀ v, k v → k2 v) (h : ldL lv i k) : ldL lv i k2 := by
  unfold ldL at h ⊢
  split at h
  · exact hk _ h
  · exact h.elim
theorem ldA_m {lv : LV} {i : Nat} {k k2 : AV → Prop} (hk : ∀ v, k v → k2 v) (h : ldA lv i k) : ldA lv i k2 := by
  unfold ldA at h ⊢
  split at h
  · exact hk _ h
  · exact hk _ h
  · exact h.elim
theorem csK_m {tg : List Nat} {d : Int} {k k2 : Int32 → Prop} (hk : ∀ x, k x → k2 x) (h : csK tg d k) : csK tg d k2 := by
  match tg, h with
  | [], h => exact hk _ h
  | [_], h => exact hk _ h
  | [_, _], h => exact hk _ h
  | _ :: _ :: _ :: _, h => exact hk _ h
theorem acK_m {tg : List Nat} {x : Int32} {d : Int} {k k2 : Int32 → Prop} (hk : ∀ x, k x → k2 x) (h : acK tg x d k) : acK tg x d k2 := by
  match tg, h with
  | [], h => exact hk _ h
  | [_], h => exact hk _ h
  | [_, _], h => exact hk _ h
  | _ :: _ :: _ :: _, h => exact hk _ h
theorem fsh_m {fl : List (Nat × Nat × Nat)} {idx k : Nat} {kk k2 : Nat → (Nat × Nat × Nat) → Prop} (hk : ∀ j f, kk j f → k2 j f) (h : fsh fl idx k kk) : fsh fl idx k k2 := by
  unfold fsh at h ⊢
  split at h
  · split at h
    · split at h
      · split at h
        · exact hk _ _ h
        · exact h.elim
      · exact h.elim
    · exact h.elim
  · exact h.elim
theorem gtf_m {hp : HP} {c j : Nat} {f : Nat × Nat × Nat} {k k2 : AV → Prop} (hk : ∀ v, k v → k2 v) (h : gtf hp c j f k) : gtf hp c j f k2 := by
  unfold gtf at h ⊢
  split at h <;> exact hk _ h
theorem ptf_m {hp : HP} {c j : Nat} {f : Nat × Nat × Nat} {v : AV} {k k2 : HP → Prop} (hk : ∀ v, k v → k2 v) (h : ptf hp c j f v k) : ptf hp c j f v k2 := by
  unfold ptf at h ⊢
  split at h
  · exact hk _ h
  · exact hk _ h
  · exact ⟨h.1, hk _ h.2⟩
  · exact h.elim
theorem ash_m {k t : Nat} {kk k2 : Nat → Prop} (hk : ∀ n, kk n → k2 n) (h : ash k t kk) : ash k t k2 := by
  unfold ash at h ⊢
  split at h
  · split at h
    · exact hk _ h
    · exact h.elim
  · exact h.elim
theorem arf_m {k : Nat} {kk k2 : Nat → Nat → Nat → Prop} (hk : ∀ a b c, kk a b c → k2 a b c) (h : arf k kk) : arf k k2 := by
  unfold arf at h ⊢
  split at h
  · split at h
    · exact hk _ _ _ h
    · exact h.elim
  · exact h.elim
theorem aln_m {k : Nat} {kk k2 : Nat → Prop} (hk : ∀ n, kk n → k2 n) (h : aln k kk) : aln k k2 := by
  unfold aln at h ⊢
  split at h
  · exact hk _ h
  · exact h.elim
theorem scq_m {sc : Option (Nat × (Nat → Int32))} {k k2 : Nat × (Nat → Int32) → Prop} (hk : ∀ q, k q → k2 q) (h : scq sc k) : scq sc k2 := by
  unfold scq at h ⊢
  split at h
  · exact hk _ h
  · exact h.elim
theorem swt_m {x : Int32} {G G2 : Nat → Prop} {lo hi : Int} {d : Nat} (hG : ∀ t, G t → G2 t) : ∀ {ts : List Nat} {k : Int}, swt x G lo hi d ts k → swt x G2 lo hi d ts k
  | [], _, h => fun z => hG _ (h z)
  | _ :: _, _, h => ⟨fun z => hG _ (h.1 z), swt_m hG h.2⟩
theorem swg_m {tg : List Nat} {k k2 : Nat → List Nat → Prop} (hk : ∀ a b, k a b → k2 a b) (h : swg tg k) : swg tg k2 := by
  unfold swg at h ⊢
  split at h
  · exact hk _ _ h
  · exact h.elim
theorem cll_m {E : EN} {sta : Bool} {idx : Nat} {st : List AV} {hp : HP} {k k2 : List AV → HP → Prop} (hE : ∀ q ∈ E, Mono q.2.2.2) (hk : ∀ r hq, k r hq → k2 r hq) (h : cll E sta idx st hp k) : cll E sta idx st hp k2 := by
  unfold cll at h ⊢
  split at h
  · next b9 n9 sp9 hq =>
    split at h
    · split at h
      · split at h
        · exact hE _ (lk_mem hq) _ _ _ _ (fun v hp2 => hk _ _) h
        · exact h.elim
      · exact h.elim
    · exact h.elim
  · exact h.elim
theorem stI_m {K : LKS} {E : EN} {nL : Nat} {ret : Option FieldType} {sc : Option (Nat × (Nat → Int32))} {Q : QP} (hE : ∀ q ∈ E, Mono q.2.2.2) {G G2 : GP} (hG : ∀ pc lv st hp, G pc lv st hp → G2 pc lv st hp) {i : Instr} {nx : Nat} {tg : List Nat} {lv : LV} {st : List AV} {hp : HP} (h : stI K E nL ret sc Q G i nx tg lv st hp) : stI K E nL ret sc Q G2 i nx tg lv st hp := by
  cases i with
  | iload n => 
    unfold stI at h ⊢
    dsimp only at h ⊢
    refine ldI_m ?_ h
    exact fun v => hG _ _ _ _
  | iload_n n => 
    unfold stI at h ⊢
    dsimp only at h ⊢
    refine ldI_m ?_ h
    exact fun v => hG _ _ _ _
  | lload n => 
    unfold stI at h ⊢
    dsimp only at h ⊢
    refine ldL_m ?_ h
    exact fun v => hG _ _ _ _
  | lload_n n => 
    unfold stI at h ⊢
    dsimp only at h ⊢
    refine ldL_m ?_ h
    exact fun v => hG _ _ _ _
  | aload n => 
    unfold stI at h ⊢
    dsimp only at h ⊢
    refine ldA_m ?_ h
    exact fun v => hG _ _ _ _
  | aload_n n => 
    unfold stI at h ⊢
    dsimp only at h ⊢
    refine ldA_m ?_ h
    exact fun v => hG _ _ _ _
  | istore n => 
    unfold stI at h ⊢
    dsimp only at h ⊢
    refine pI_m ?_ h
    exact fun x r => nb_m (hG _ _ _ _)
  | istore_n n => 
    unfold stI at h ⊢
    dsimp only at h ⊢
    refine pI_m ?_ h
    exact fun x r => nb_m (hG _ _ _ _)
  | lstore n => 
    unfold stI at h ⊢
    dsimp only at h ⊢
    refine pL_m ?_ h
    exact fun x r => nb_m (hG _ _ _ _)
  | lstore_n n => 
    unfold stI at h ⊢
    dsimp only at h ⊢
    refine pL_m ?_ h
    exact fun x r => nb_m (hG _ _ _ _)
  | astore n => 
    unfold stI at h ⊢
    dsimp only at h ⊢
    refine pA_m ?_ ?_ h
    · exact fun _ _ _ => nb_m (hG _ _ _ _)
    · exact fun k r h => match k, h with
        | 0, h => h
        | _ + 1, h => nb_m (hG _ _ _ _) h
  | astore_n n => 
    unfold stI at h ⊢
    dsimp only at h ⊢
    refine pA_m ?_ ?_ h
    · exact fun _ _ _ => nb_m (hG _ _ _ _)
    · exact fun k r h => match k, h with
        | 0, h => h
        | _ + 1, h => nb_m (hG _ _ _ _) h
  | iinc n d => 
    unfold stI at h ⊢
    dsimp only at h ⊢
    refine ldI_m ?_ h
    exact fun v => pI_m (fun x r => acK_m (fun y => nb_m (hG _ _ _ _)))
  | iconst d => 
    unfold stI at h ⊢
    dsimp only at h ⊢
    refine csK_m ?_ h
    exact fun x => hG _ _ _ _
  | bipush d => 
    unfold stI at h ⊢
    dsimp only at h ⊢
    refine csK_m ?_ h
    exact fun x => hG _ _ _ _
  | sipush d => 
    unfold stI at h ⊢
    dsimp only at h ⊢
    refine csK_m ?_ h
    exact fun x => hG _ _ _ _
  | lconst n => exact hG _ _ _ _ h
  | ldc n => 
    unfold stI at h ⊢
    dsimp only at h ⊢
    split at h
    · exact hG _ _ _ _ h
    · split at h
      · exact hG _ _ _ _ h
      · exact h.elim
  | ldc_w n => 
    unfold stI at h ⊢
    dsimp only at h ⊢
    split at h
    · exact hG _ _ _ _ h
    · split at h
      · exact hG _ _ _ _ h
      · exact h.elim
  | ldc2_w n => 
    unfold stI at h ⊢
    dsimp only at h ⊢
    split at h
    · exact hG _ _ _ _ h
    · exact h.elim
  | getstatic n => 
    unfold stI at h ⊢
    dsimp only at h ⊢
    split at h
    · exact hG _ _ _ _ h
    · exact h.elim
  | iadd => exact pI_m (fun _ _ => pI_m (fun _ _ => hG _ _ _ _)) h
  | isub => exact pI_m (fun _ _ => pI_m (fun _ _ => hG _ _ _ _)) h
  | imul => exact pI_m (fun _ _ => pI_m (fun _ _ => hG _ _ _ _)) h
  | iand => exact pI_m (fun _ _ => pI_m (fun _ _ => hG _ _ _ _)) h
  | ior => exact pI_m (fun _ _ => pI_m (fun _ _ => hG _ _ _ _)) h
  | ixor => exact pI_m (fun _ _ => pI_m (fun _ _ => hG _ _ _ _)) h
  | ishl => exact pI_m (fun _ _ => pI_m (fun _ _ => hG _ _ _ _)) h
  | ishr => exact pI_m (fun _ _ => pI_m (fun _ _ => hG _ _ _ _)) h
  | iushr => exact pI_m (fun _ _ => pI_m (fun _ _ => hG _ _ _ _)) h
  | idiv => exact pI_m (fun _ _ => pI_m (fun _ _ h => ⟨h.1, hG _ _ _ _ h.2⟩)) h
  | irem => exact pI_m (fun _ _ => pI_m (fun _ _ h => ⟨h.1, hG _ _ _ _ h.2⟩)) h
  | ladd => exact pL_m (fun _ _ => pL_m (fun _ _ => hG _ _ _ _)) h
  | lsub => exact pL_m (fun _ _ => pL_m (fun _ _ => hG _ _ _ _)) h
  | lmul => exact pL_m (fun _ _ => pL_m (fun _ _ => hG _ _ _ _)) h
  | land => exact pL_m (fun _ _ => pL_m (fun _ _ => hG _ _ _ _)) h
  | lor => exact pL_m (fun _ _ => pL_m (fun _ _ => hG _ _ _ _)) h
  | lxor => exact pL_m (fun _ _ => pL_m (fun _ _ => hG _ _ _ _)) h
  | lshl => exact pI_m (fun _ _ => pL_m (fun _ _ => hG _ _ _ _)) h
  | lshr => exact pI_m (fun _ _ => pL_m (fun _ _ => hG _ _ _ _)) h
  | lushr => exact pI_m (fun _ _ => pL_m (fun _ _ => hG _ _ _ _)) h
  | i2l => exact pI_m (fun _ _ => hG _ _ _ _) h
  | l2i => exact pL_m (fun _ _ => hG _ _ _ _) h
  | i2b => exact pI_m (fun _ _ => hG _ _ _ _) h
  | i2s => exact pI_m (fun _ _ => hG _ _ _ _) h
  | i2c => exact pI_m (fun _ _ => hG _ _ _ _) h
  | lcmp => exact pL_m (fun _ _ => pL_m (fun _ _ => hG _ _ _ _)) h
  | dup => exact pV_m (fun _ _ => one_m (hG _ _ _ _)) h
  | dup2 => exact pV_m (fun _ _ => pV_m (fun _ _ => one_m (one_m (hG _ _ _ _)))) h
  | pop => exact pV_m (fun _ _ => one_m (hG _ _ _ _)) h
  | if_icmp cd off => cases cd <;> exact pI_m (fun _ _ => pI_m (fun _ _ => tg1_m (fun _ h => ⟨fun z => hG _ _ _ _ (h.1 z), fun z => hG _ _ _ _ (h.2 z)⟩))) h
  | ifCond cd off => cases cd <;> exact pI_m (fun _ _ => tg1_m (fun _ h => ⟨fun z => hG _ _ _ _ (h.1 z), fun z => hG _ _ _ _ (h.2 z)⟩)) h
  | goto off => 
    unfold stI at h ⊢
    dsimp only at h ⊢
    refine tg1_m ?_ h
    exact fun _ => hG _ _ _ _
  | tableswitch d lo hi offs => exact pI_m (fun _ _ => swg_m (fun _ _ => swt_m (fun _ => hG _ _ _ _))) h
  | getfield n => 
    unfold stI at h ⊢
    dsimp only at h ⊢
    refine pA_m ?_ ?_ h
    · exact fun _ _ _ => fsh_m (fun _ _ => gtf_m (fun _ => hG _ _ _ _))
    intro n2 r h
    by_cases hn : 10 ≤ n2
    · obtain ⟨m2, rfl⟩ : ∃ m2, n2 = m2 + 10 := ⟨n2 - 10, by omega⟩
      refine ⟨h.1, ?_⟩
      have h2 := h.2
      (try dsimp only at h2 ⊢)
      split at h2
      · exact hG _ _ _ _ h2
      · exact hG _ _ _ _ h2
      · exact h2.elim
    · have : n2 = 0 ∨ n2 = 1 ∨ n2 = 2 ∨ n2 = 3 ∨ n2 = 4 ∨ n2 = 5 ∨ n2 = 6 ∨ n2 = 7 ∨ n2 = 8 ∨ n2 = 9 := by omega
      rcases this with rfl | rfl | rfl | rfl | rfl | rfl | rfl | rfl | rfl | rfl <;> exact h.elim
  | putfield n => exact pV_m (fun _ _ => pR_m (fun _ _ _ => fsh_m (fun _ _ => ptf_m (fun _ => hG _ _ _ _)))) h
  | iaload => exact pI_m (fun _ _ => pA_m (fun _ _ _ => ash_m (fun _ h => ⟨h.1, hG _ _ _ _ h.2⟩)) (fun n r h => match n, h with
    | 1, h => scq_m (fun _ h => ⟨h.1, hG _ _ _ _ h.2⟩) h
    | 2, h => ⟨h.1, hG _ _ _ _ h.2⟩
    | 0, h => h
    | _ + 3, h => h)) h
  | laload => exact pI_m (fun _ _ => pR_m (fun _ _ _ => ash_m (fun _ h => ⟨h.1, hG _ _ _ _ h.2⟩))) h
  | baload => 
    refine pI_m (fun _ _ => pA_m (fun _ _ _ => ash_m (fun _ h => ⟨h.1, hG _ _ _ _ h.2⟩)) (fun n2 r h => ?_)) h
    by_cases hn : 11 ≤ n2
    · obtain ⟨m2, rfl⟩ : ∃ m2, n2 = m2 + 11 := ⟨n2 - 11, by omega⟩
      exact ⟨h.1, hG _ _ _ _ h.2⟩
    · have : n2 = 0 ∨ n2 = 1 ∨ n2 = 2 ∨ n2 = 3 ∨ n2 = 4 ∨ n2 = 5 ∨ n2 = 6 ∨ n2 = 7 ∨ n2 = 8 ∨ n2 = 9 ∨ n2 = 10 := by omega
      rcases this with rfl | rfl | rfl | rfl | rfl | rfl | rfl | rfl | rfl | rfl | rfl <;> exact h.elim
  | aaload => exact pI_m (fun _ _ => pR_m (fun _ _ _ => arf_m (fun _ _ _ h => ⟨h.1, hG _ _ _ _ h.2⟩))) h
  | iastore => exact pI_m (fun _ _ => pI_m (fun _ _ => pR_m (fun _ _ _ => ash_m (fun _ h => ⟨h.1, hG _ _ _ _ h.2⟩)))) h
  | bastore => exact pI_m (fun _ _ => pI_m (fun _ _ => pR_m (fun _ _ _ => ash_m (fun _ h => ⟨h.1, hG _ _ _ _ h.2⟩)))) h
  | lastore => exact pL_m (fun _ _ => pI_m (fun _ _ => pR_m (fun _ _ _ => ash_m (fun _ h => ⟨h.1, hG _ _ _ _ h.2⟩)))) h
  | arraylength => 
    unfold stI at h ⊢
    dsimp only at h ⊢
    refine pA_m ?_ ?_ h
    · exact fun _ _ _ => aln_m (fun _ => hG _ _ _ _)
    intro n2 r h
    by_cases hn : 11 ≤ n2
    · obtain ⟨m2, rfl⟩ : ∃ m2, n2 = m2 + 11 := ⟨n2 - 11, by omega⟩
      exact ⟨h.1, hG _ _ _ _ h.2⟩
    · have : n2 = 1 ∨ n2 = 0 ∨ n2 = 2 ∨ n2 = 3 ∨ n2 = 4 ∨ n2 = 5 ∨ n2 = 6 ∨ n2 = 7 ∨ n2 = 8 ∨ n2 = 9 ∨ n2 = 10 := by omega
      rcases this with rfl | this
      · exact scq_m (fun _ => hG _ _ _ _) h
      · rcases this with rfl | rfl | rfl | rfl | rfl | rfl | rfl | rfl | rfl | rfl <;> exact h.elim
  | invokevirtual n => exact cll_m hE (fun _ _ => hG _ _ _ _) h
  | invokestatic n => exact cll_m hE (fun _ _ => hG _ _ _ _) h
  | ireturn => exact h
  | lreturn => exact h
  | areturn => exact h
  | return_ => exact h
  | _ => exact h
theorem stp_m {P : PG} {K : LKS} {E : EN} {nL : Nat} {ret : Option FieldType} {sc : Option (Nat × (Nat → Int32))} {Q : QP} (hE : ∀ q ∈ E, Mono q.2.2.2) {G G2 : GP} (hG : ∀ pc lv st hp, G pc lv st hp → G2 pc lv st hp) {pc : Nat} {lv : LV} {st : List AV} {hp : HP} (h : stp P K E nL ret sc Q G pc lv st hp) : stp P K E nL ret sc Q G2 pc lv st hp := by
  unfold stp at h ⊢
  split at h
  · exact stI_m hE hG h
  · exact h.elim
def mem_n : List Nat → Nat → Bool
  | [], _ => false
  | a :: t, n => match Nat.beq a n with
    | true => true
    | false => mem_n t n
/-- at most n steps, up to the places of a list -/
def wpn (P : PG) (K : LKS) (E : EN) (nL : Nat) (ret : Option FieldType) (sc : Option (Nat × (Nat → Int32))) (Q : QP) (G : GP) (stops : List Nat) : Nat → GP
  | 0 => G
  | n + 1 => fun pc lv st hp => match mem_n stops pc with
    | true => G pc lv st hp
    | false => stp P K E nL ret sc Q (wpn P K E nL ret sc Q G stops n) pc lv st hp
/-- a predicate that a step back keeps -/
def Cl (P : PG) (K : LKS) (E : EN) (nL : Nat) (ret : Option FieldType) (sc : Option (Nat × (Nat → Int32))) (Q : QP) (G : GP) : Prop := (∀ q ∈ E, Mono q.2.2.2) ∧ (∀ pc lv st hp, stp P K E nL ret sc Q G pc lv st hp → G pc lv st hp) ∧ (∀ pc lv st hp hq, heq hp hq → G pc lv st hp → G pc lv st hq) ∧ ∀ pc lv lw st hp, lvs lv lw → G pc lv st hp → G pc lw st hp
theorem run_n {P : PG} {K : LKS} {E : EN} {nL : Nat} {ret : Option FieldType} {sc : Option (Nat × (Nat → Int32))} {Q : QP} {G : GP} (hG : Cl P K E nL ret sc Q G) (stops : List Nat) : ∀ (n pc : Nat) (lv : LV) (st : List AV) (hp : HP), wpn P K E nL ret sc Q G stops n pc lv st hp → G pc lv st hp
  | 0, _, _, _, _, h => h
  | n + 1, pc, lv, st, hp, h => by
    unfold wpn at h
    split at h
    · exact h
    · exact hG.2.1 _ _ _ _ (stp_m hG.1 (run_n hG stops n) h)
theorem run {P : PG} {K : LKS} {E : EN} {nL : Nat} {ret : Option FieldType} {sc : Option (Nat × (Nat → Int32))} {Q : QP} {G : GP} (hG : Cl P K E nL ret sc Q G) (stops : List Nat) (n : Nat) {pc : Nat} {lv : LV} {st : List AV} {hp : HP} (h : stp P K E nL ret sc Q (wpn P K E nL ret sc Q G stops n) pc lv st hp) : G pc lv st hp := hG.2.1 _ _ _ _ (stp_m hG.1 (run_n hG stops n) h)
theorem cl_hp {P : PG} {K : LKS} {E : EN} {nL : Nat} {ret : Option FieldType} {sc : Option (Nat × (Nat → Int32))} {Q : QP} {G : GP} (hG : Cl P K E nL ret sc Q G) {pc : Nat} {lv : LV} {st : List AV} {hp hq : HP} (h : heq hp hq) (hk : G pc lv st hp) : G pc lv st hq := hG.2.2.1 _ _ _ _ _ h hk
theorem cl_lv {P : PG} {K : LKS} {E : EN} {nL : Nat} {ret : Option FieldType} {sc : Option (Nat × (Nat → Int32))} {Q : QP} {G : GP} (hG : Cl P K E nL ret sc Q G) {pc : Nat} (lv : LV) {lw : LV} {st : List AV} {hp : HP} (h : lvs lv lw) (hk : G pc lv st hp) : G pc lw st hp := hG.2.2.2 _ _ _ _ _ h hk
theorem cl_use {P : PG} {K : LKS} {E : EN} {nL : Nat} {ret : Option FieldType} {sc : Option (Nat × (Nat → Int32))} {Q : QP} {G : GP} (hG : Cl P K E nL ret sc Q G) {pc : Nat} {lv lw : LV} {st : List AV} {hp : HP} (hk : G pc lv st hp) (h : lvs lv lw) : G pc lw st hp := hG.2.2.2 _ _ _ _ _ h hk
def lva : Nat → List AV → LV
  | _, [] => []
  | i, v :: vs => (i, v) :: lva (match av_two v with
    | true => i + 2
    | false => i + 1) vs
theorem lva_eq {ad ex : Nat → Nat} {fm : Value} (hf : fm.category = 1) : ∀ (as : List AV) (i : Nat), lv_args i (as.map (cv ad ex fm)) = lvm ad ex fm (lva i as)
  | [], _ => rfl
  | v :: vs, i => by
    show (i, cv ad ex fm v) :: lv_args (if (cv ad ex fm v).category = 2 then i + 2 else i + 1) (vs.map (cv ad ex fm)) = (i, cv ad ex fm v) :: lvm ad ex fm (lva _ vs)
    have h := cv_two (ad := ad) (ex := ex) hf v
    cases hv : av_two v with
    | true =>
      rw [hv] at h
      rw [if_pos (eq_of_beq h.symm), lva_eq hf vs]
    | false =>
      rw [hv] at h
      rw [if_neg (fun z => by rw [z] at h; cases h), lva_eq hf vs]
theorem lva_len {ad ex : Nat → Nat} {fm : Value} (hf : fm.category = 1) : ∀ as : List AV, (lg_sl (as.map (cv ad ex fm))).length = wid as
  | [] => rfl
  | v :: vs => by
    have ih := lva_len (ad := ad) (ex := ex) hf vs
    unfold lg_sl at ih ⊢
    rw [List.map_cons, List.flatMap_cons, List.length_append, ih]
    show _ = (match av_two v with
      | true => 2
      | false => 1) + wid vs
    have h := cv_two (ad := ad) (ex := ex) hf v
    cases hv : av_two v with
    | true =>
      rw [hv] at h
      rw [if_pos (eq_of_beq h.symm)]
      rfl
    | false =>
      rw [hv] at h
      rw [if_neg (fun z => by rw [z] at h; cases h)]
      rfl
theorem lva_vld : ∀ (as : List AV) (i : Nat), (∀ v ∈ as, vld v) → ∀ q ∈ lva i as, vld q.2
  | [], _, _, q, h => by cases h
  | v :: vs, i, hv, q, h => by
    rcases List.mem_cons.mp h with rfl | h
    · exact vs_hd hv
    · exact lva_vld vs _ (vs_tl hv) q h
theorem ctr_of {own : String} (r : MR) (sp : SP) {P : PG} {K : LKS} {E : EN} (hy : plainName r.1.cls = true) (ho : r.1.cls = own) (hP : pgk r.2.1 P) (hK : lkok own K) (hE : ∀ q ∈ E, SC own r.2.2.2.2.1 r.2.2.2.2.2 q) (hw : ∀ as hp Q, sp as hp Q → wid as ≤ r.2.2.1)
    (body : ∀ (Q : QP) (G : GP), QInv Q → Cl P K E r.2.2.1 r.2.2.2.1 none Q G → ∀ as hp, sp as hp Q → G 0 (lva 0 as) [] hp) : Ctr r sp := by
  intro l D ad cy ex fm hinj hfm as hp Q hQi hvs hsp
  refine Met.ofW (cc := r.2.1) (maxL := r.2.2.1) (ret := r.2.2.2.1) hy rfl ?_
  intro p e s m args below meth c s₁ B hml hv
  obtain ⟨rfl, hP0, hK0, hX0⟩ := hv
  have hts : ∀ w ∈ Gw, w.before (as.map (cv ad ex fm)).toArray s = true := fun w h => atoms_spec (ws := mr_ws r) B.pre w (List.mem_cons_of_mem _ h)
  have hown : s.vm.findClass own = some m.cls := by rw [← ho]; exact findClass_of_methodNamed B.named
  have hlocks := B.notSynchronized
  have hr := B.returns
  have hC : CX p (headSpec (mr_ws r) (mr_rm r)).room s m (as.map (cv ad ex fm)).toArray c r.2.1 own r.2.2.1 0 0 D ad cy ex fm (ab_A ad) none := ⟨B.exec, B.bytes, hml, hown, hts, hK0, hinj, fun _ h => h, hX0, hfm, ⟨Nat.zero_le _, Nat.zero_le _⟩, fun q h => by cases h⟩
  have hl := lv_entry (as.map (cv ad ex fm)) (n := r.2.2.1) (by rw [lva_len hfm]; exact hw as hp Q hsp)
  rw [lg_entry_eq]
  generalize (lg_sl (as.map (cv ad ex fm)) ++ List.replicate (r.2.2.1 - (lg_sl (as.map (cv ad ex fm))).length) Slot.unset).toArray = ls at hl ⊢
  rw [lva_eq hfm] at hl
  have hR : RTN (OK p l e (headSpec (mr_ws r) (mr_rm r)).room s m (as.map (cv ad ex fm)).toArray below meth c r.2.2.1 0 0 (MQ below (CQ D ad cy ex fm Q) (as.map (cv ad ex fm)).toArray s 0 0 (ab_A ad)) D ad cy ex fm (ab_A ad)) r.2.1 r.2.2.2.1 Q := by
    refine ⟨fun pc lv x hp hd h hv hs H locs ls hP hS hl => ?_, fun pc lv x hp hd h hv hs H locs ls hP hS hl => ?_, fun pc lv k hp hd h hv hs H locs ls hP hS hl => ?_, fun pc lv hp hd h hv hs H locs ls hP hS hl => ?_⟩
    · have key : ∃ ty, r.2.2.2.1 = some ty ∧ narrow ty (.int x) = .int x ∧ Q (some (vI x)) hp := by
        unfold rtI at h
        split at h
        · next he => exact ⟨_, he, rfl, h⟩
        · next he => exact ⟨_, he, by rcases h.1 with rfl | rfl <;> rfl, h.2⟩
        · next ty _ _ he => exact ⟨ty, he, h.1, h.2⟩
        · exact h.elim
      obtain ⟨ty, k1, k2, k3⟩ := key
      exact W.zret (ty := ty) hC.1 hC.2.1 (hr.trans k1) k2 (fun t ht hW => ⟨⟨some (vI x), hp, rfl, fun a ha => by cases ha; trivial, k3, by rw [ht]; exact hP⟩, hS.F ht⟩) hS.2.2 hd
    · have key : r.2.2.2.1 = some .long ∧ Q (some (vL x)) hp := by
        unfold rtL at h
        split at h
        · next he => exact ⟨he, h⟩
        · exact h.elim
      exact W.lret hC.1 hC.2.1 (hr.trans key.1) (fun t ht hW => ⟨⟨some (vL x), hp, rfl, fun a ha => by cases ha; trivial, key.2, by rw [ht]; exact hP⟩, hS.F ht⟩) hS.2.2 hd
    · have key : ∃ n d, k = n + 1 ∧ r.2.2.2.1 = some (.object d) ∧ Q (some (vX k)) hp := by
        unfold rtA at h
        split at h
        · next n d he => exact ⟨_, _, rfl, he, h⟩
        · exact h.elim
      obtain ⟨n, d, rfl, k2, k3⟩ := key
      exact W.aret (v := .ref (ex (n + 1))) hC.1 hC.2.1 (hr.trans k2) (Or.inl ⟨_, rfl⟩) (Or.inr ⟨_, rfl⟩) (fun t ht hW => ⟨⟨some (vX (n + 1)), hp, rfl, fun a ha => by cases ha; trivial, k3, by rw [ht]; exact hP⟩, hS.F ht⟩) hS.2.2 hd
    · have key : r.2.2.2.1 = none ∧ Q none hp := by
        unfold rtV at h
        split at h
        · next he => exact ⟨he, h⟩
        · exact h.elim
      exact W.vret hC.1 hC.2.1 (hr.trans key.1) (fun t ht hW => ⟨⟨none, hp, rfl, (fun a ha => by cases ha), key.2, by rw [ht]; exact hP⟩, hS.F ht⟩) hS.2.2 hd
  have hCl : Cl P K E r.2.2.1 r.2.2.2.1 none Q (OK p l e (headSpec (mr_ws r) (mr_rm r)).room s m (as.map (cv ad ex fm)).toArray below meth c r.2.2.1 0 0 (MQ below (CQ D ad cy ex fm Q) (as.map (cv ad ex fm)).toArray s 0 0 (ab_A ad)) D ad cy ex fm (ab_A ad)) :=
    ⟨fun q hq => (hE q hq).1, fun pc lv st hp h => ok_stp hC hP hK hE (Nat.le_refl _) (Nat.le_refl _) hR h, fun pc lv st hp hq h1 h2 => OK_inv h1 h2, fun pc lv lw st hp h1 h2 => OK_lv h1 h2⟩
  exact body Q _ hQi hCl as hp hsp (lva_vld as 0 hvs) (fun v h => by cases h) s.heap [] ls hP0 va_S.rf hl
