/-! kinds of specification -/
def spP {X : Type} (dec : List AV → Option X) (pre : X → HP → Prop) (f : X → HP → AV) : SP := fun as hp K => match dec as with
  | some x => pre x hp ∧ K (some (f x hp)) hp
  | none => False
def spH {X : Type} (dec : List AV → Option X) (pre : X → HP → Prop) (f : X → HP → Option AV) (g : X → HP → HP) : SP := fun as hp K => match dec as with
  | some x => pre x hp ∧ K (f x hp) (g x hp)
  | none => False
def spF {X : Type} (dec : List AV → Option X) (pre : X → HP → Prop) (post : X → HP → Option AV → HP → Prop) : SP := fun as hp K => match dec as with
  | some x => pre x hp ∧ ∀ v hq, post x hp v hq → K v hq
  | none => False
theorem spP_mono {X : Type} {dec : List AV → Option X} {pre : X → HP → Prop} {f : X → HP → AV} : Mono (spP dec pre f) := by
  intro as hp K K2 hk h
  unfold spP at h ⊢
  split at h
  · exact ⟨h.1, hk _ _ h.2⟩
  · exact h.elim
theorem spH_mono {X : Type} {dec : List AV → Option X} {pre : X → HP → Prop} {f : X → HP → Option AV} {g : X → HP → HP} : Mono (spH dec pre f g) := by
  intro as hp K K2 hk h
  unfold spH at h ⊢
  split at h
  · exact ⟨h.1, hk _ _ h.2⟩
  · exact h.elim
theorem spF_mono {X : Type} {dec : List AV → Option X} {pre : X → HP → Prop} {post : X → HP → Option AV → HP → Prop} : Mono (spF dec pre post) := by
  intro as hp K K2 hk h
  unfold spF at h ⊢
  split at h
  · exact ⟨h.1, fun v hq hv => hk _ _ (h.2 v hq hv)⟩
  · exact h.elim
theorem spP_e {X : Type} {dec : List AV → Option X} {pre : X → HP → Prop} {f : X → HP → AV} {as : List AV} {hp : HP} {K : QP} (h : spP dec pre f as hp K) : ∃ x, dec as = some x ∧ pre x hp ∧ K (some (f x hp)) hp := by
  unfold spP at h
  split at h
  · next x hx => exact ⟨x, hx, h⟩
  · exact h.elim
theorem spH_e {X : Type} {dec : List AV → Option X} {pre : X → HP → Prop} {f : X → HP → Option AV} {g : X → HP → HP} {as : List AV} {hp : HP} {K : QP} (h : spH dec pre f g as hp K) : ∃ x, dec as = some x ∧ pre x hp ∧ K (f x hp) (g x hp) := by
  unfold spH at h
  split at h
  · next x hx => exact ⟨x, hx, h⟩
  · exact h.elim
theorem spF_e {X : Type} {dec : List AV → Option X} {pre : X → HP → Prop} {post : X → HP → Option AV → HP → Prop} {as : List AV} {hp : HP} {K : QP} (h : spF dec pre post as hp K) : ∃ x, dec as = some x ∧ pre x hp ∧ ∀ v hq, post x hp v hq → K v hq := by
  unfold spF at h
  split at h
  · next x hx => exact ⟨x, hx, h⟩
  · exact h.elim
def d_S_I (as : List AV) : Option (Int32) := match as with
  | [.inl a0] => some (a0)
  | _ => none
theorem d_S_I_e {as : List AV} {x : Int32} (h : d_S_I as = some x) : as = [vI x] := by
  unfold d_S_I at h
  split at h
  · cases h; rfl
  · cases h
def d_S_II (as : List AV) : Option (Int32 × Int32) := match as with
  | [.inl a0, .inl a1] => some (a0, a1)
  | _ => none
theorem d_S_II_e {as : List AV} {x : Int32 × Int32} (h : d_S_II as = some x) : as = [vI x.1, vI x.2] := by
  unfold d_S_II at h
  split at h
  · cases h; rfl
  · cases h
def d_S_III (as : List AV) : Option (Int32 × Int32 × Int32) := match as with
  | [.inl a0, .inl a1, .inl a2] => some (a0, a1, a2)
  | _ => none
theorem d_S_III_e {as : List AV} {x : Int32 × Int32 × Int32} (h : d_S_III as = some x) : as = [vI x.1, vI x.2.1, vI x.2.2] := by
  unfold d_S_III at h
  split at h
  · cases h; rfl
  · cases h
def d_S_AA (as : List AV) : Option (Nat × Nat) := match as with
  | [.inr (.inr (.inl q0)), .inr (.inr (.inl q1))] => (match Nat.beq q0.1 15 && Nat.beq q1.1 15 with
    | true => some (q0.2, q1.2)
    | false => none)
  | _ => none
theorem d_S_AA_e {as : List AV} {x : Nat × Nat} (h : d_S_AA as = some x) : as = [vR 15 x.1, vR 15 x.2] := by
  unfold d_S_AA at h
  split at h
  · split at h
    · next hb =>
      cases h
      simp only [Bool.and_eq_true, Bool.or_eq_true, Nat.beq_eq] at hb
      simp_all [vR, vI, vL, vX, Prod.ext_iff]
    · cases h
  · cases h
def d_S_JJ (as : List AV) : Option (Int64 × Int64) := match as with
  | [.inr (.inl a0), .inr (.inl a1)] => some (a0, a1)
  | _ => none
theorem d_S_JJ_e {as : List AV} {x : Int64 × Int64} (h : d_S_JJ as = some x) : as = [vL x.1, vL x.2] := by
  unfold d_S_JJ at h
  split at h
  · cases h; rfl
  · cases h
def d_S_J (as : List AV) : Option (Int64) := match as with
  | [.inr (.inl a0)] => some (a0)
  | _ => none
theorem d_S_J_e {as : List AV} {x : Int64} (h : d_S_J as = some x) : as = [vL x] := by
  unfold d_S_J at h
  split at h
  · cases h; rfl
  · cases h
def d_S_LJ (as : List AV) : Option ((Nat × Nat) × Int64) := match as with
  | [.inr (.inr (.inl q0)), .inr (.inl a1)] => (match (Nat.beq q0.1 11 || Nat.beq q0.1 13) with
    | true => some (q0, a1)
    | false => none)
  | _ => none
theorem d_S_LJ_e {as : List AV} {x : (Nat × Nat) × Int64} (h : d_S_LJ as = some x) : as = [vR x.1.1 x.1.2, vL x.2] := by
  unfold d_S_LJ at h
  split at h
  · split at h
    · next hb =>
      cases h
      simp only [Bool.and_eq_true, Bool.or_eq_true, Nat.beq_eq] at hb
      simp_all [vR, vI, vL, vX, Prod.ext_iff]
    · cases h
  · cases h
def d_S_BI (as : List AV) : Option (Nat × Int32) := match as with
  | [.inr (.inr (.inr (m0 + 11))), .inl a1] => some (m0, a1)
  | _ => none
theorem d_S_BI_e {as : List AV} {x : Nat × Int32} (h : d_S_BI as = some x) : as = [vX (x.1 + 11), vI x.2] := by
  unfold d_S_BI at h
  split at h
  · cases h; rfl
  · cases h
def d_S_IIF (as : List AV) : Option (Int32 × Int32) := match as with
  | [.inl a0, .inl a1, .inr (.inr (.inr 0))] => some (a0, a1)
  | _ => none
theorem d_S_IIF_e {as : List AV} {x : Int32 × Int32} (h : d_S_IIF as = some x) : as = [vI x.1, vI x.2, vX 0] := by
  unfold d_S_IIF at h
  split at h
  · cases h; rfl
  · cases h
def d_M (as : List AV) : Option (Unit) := match as with
  | [.inr (.inr (.inl q0))] => (match (Nat.beq q0.1 5 && Nat.beq q0.2 52) with
    | true => some ()
    | false => none)
  | _ => none
theorem d_M_e {as : List AV} {x : Unit} (h : d_M as = some x) : as = [vR 5 52] := by
  unfold d_M at h
  split at h
  · split at h
    · next hb =>
      cases h
      simp only [Bool.and_eq_true, Bool.or_eq_true, Nat.beq_eq] at hb
      simp_all [vR, vI, vL, vX, Prod.ext_iff]
    · cases h
  · cases h
def d_M_I (as : List AV) : Option (Int32) := match as with
  | [.inr (.inr (.inl q0)), .inl a1] => (match (Nat.beq q0.1 5 && Nat.beq q0.2 52) with
    | true => some (a1)
    | false => none)
  | _ => none
theorem d_M_I_e {as : List AV} {x : Int32} (h : d_M_I as = some x) : as = [vR 5 52, vI x] := by
  unfold d_M_I at h
  split at h
  · split at h
    · next hb =>
      cases h
      simp only [Bool.and_eq_true, Bool.or_eq_true, Nat.beq_eq] at hb
      simp_all [vR, vI, vL, vX, Prod.ext_iff]
    · cases h
  · cases h
def d_M_II (as : List AV) : Option (Int32 × Int32) := match as with
  | [.inr (.inr (.inl q0)), .inl a1, .inl a2] => (match (Nat.beq q0.1 5 && Nat.beq q0.2 52) with
    | true => some (a1, a2)
    | false => none)
  | _ => none
theorem d_M_II_e {as : List AV} {x : Int32 × Int32} (h : d_M_II as = some x) : as = [vR 5 52, vI x.1, vI x.2] := by
  unfold d_M_II at h
  split at h
  · split at h
    · next hb =>
      cases h
      simp only [Bool.and_eq_true, Bool.or_eq_true, Nat.beq_eq] at hb
      simp_all [vR, vI, vL, vX, Prod.ext_iff]
    · cases h
  · cases h
def d_M_III (as : List AV) : Option (Int32 × Int32 × Int32) := match as with
  | [.inr (.inr (.inl q0)), .inl a1, .inl a2, .inl a3] => (match (Nat.beq q0.1 5 && Nat.beq q0.2 52) with
    | true => some (a1, a2, a3)
    | false => none)
  | _ => none
theorem d_M_III_e {as : List AV} {x : Int32 × Int32 × Int32} (h : d_M_III as = some x) : as = [vR 5 52, vI x.1, vI x.2.1, vI x.2.2] := by
  unfold d_M_III at h
  split at h
  · split at h
    · next hb =>
      cases h
      simp only [Bool.and_eq_true, Bool.or_eq_true, Nat.beq_eq] at hb
      simp_all [vR, vI, vL, vX, Prod.ext_iff]
    · cases h
  · cases h
def d_M_IIJ (as : List AV) : Option (Int32 × Int32 × Int64) := match as with
  | [.inr (.inr (.inl q0)), .inl a1, .inl a2, .inr (.inl a3)] => (match (Nat.beq q0.1 5 && Nat.beq q0.2 52) with
    | true => some (a1, a2, a3)
    | false => none)
  | _ => none
theorem d_M_IIJ_e {as : List AV} {x : Int32 × Int32 × Int64} (h : d_M_IIJ as = some x) : as = [vR 5 52, vI x.1, vI x.2.1, vL x.2.2] := by
  unfold d_M_IIJ at h
  split at h
  · split at h
    · next hb =>
      cases h
      simp only [Bool.and_eq_true, Bool.or_eq_true, Nat.beq_eq] at hb
      simp_all [vR, vI, vL, vX, Prod.ext_iff]
    · cases h
  · cases h
def d_M_IIIII (as : List AV) : Option (Int32 × Int32 × Int32 × Int32 × Int32) := match as with
  | [.inr (.inr (.inl q0)), .inl a1, .inl a2, .inl a3, .inl a4, .inl a5] => (match (Nat.beq q0.1 5 && Nat.beq q0.2 52) with
    | true => some (a1, a2, a3, a4, a5)
    | false => none)
  | _ => none
theorem d_M_IIIII_e {as : List AV} {x : Int32 × Int32 × Int32 × Int32 × Int32} (h : d_M_IIIII as = some x) : as = [vR 5 52, vI x.1, vI x.2.1, vI x.2.2.1, vI x.2.2.2.1, vI x.2.2.2.2] := by
  unfold d_M_IIIII at h
  split at h
  · split at h
    · next hb =>
      cases h
      simp only [Bool.and_eq_true, Bool.or_eq_true, Nat.beq_eq] at hb
      simp_all [vR, vI, vL, vX, Prod.ext_iff]
    · cases h
  · cases h
def d_M_X (as : List AV) : Option (Nat) := match as with
  | [.inr (.inr (.inl q0)), .inr (.inr (.inr (m1 + 10)))] => (match (Nat.beq q0.1 5 && Nat.beq q0.2 52) with
    | true => some (m1)
    | false => none)
  | _ => none
theorem d_M_X_e {as : List AV} {x : Nat} (h : d_M_X as = some x) : as = [vR 5 52, vX (x + 10)] := by
  unfold d_M_X at h
  split at h
  · split at h
    · next hb =>
      cases h
      simp only [Bool.and_eq_true, Bool.or_eq_true, Nat.beq_eq] at hb
      simp_all [vR, vI, vL, vX, Prod.ext_iff]
    · cases h
  · cases h
def d_C (as : List AV) : Option (Unit) := match as with
  | [.inr (.inr (.inl q0))] => (match (Nat.beq q0.1 0 && Nat.beq q0.2 0) with
    | true => some ()
    | false => none)
  | _ => none
theorem d_C_e {as : List AV} {x : Unit} (h : d_C as = some x) : as = [vR 0 0] := by
  unfold d_C at h
  split at h
  · split at h
    · next hb =>
      cases h
      simp only [Bool.and_eq_true, Bool.or_eq_true, Nat.beq_eq] at hb
      simp_all [vR, vI, vL, vX, Prod.ext_iff]
    · cases h
  · cases h
def d_C_I (as : List AV) : Option (Int32) := match as with
  | [.inr (.inr (.inl q0)), .inl a1] => (match (Nat.beq q0.1 0 && Nat.beq q0.2 0) with
    | true => some (a1)
    | false => none)
  | _ => none
theorem d_C_I_e {as : List AV} {x : Int32} (h : d_C_I as = some x) : as = [vR 0 0, vI x] := by
  unfold d_C_I at h
  split at h
  · split at h
    · next hb =>
      cases h
      simp only [Bool.and_eq_true, Bool.or_eq_true, Nat.beq_eq] at hb
      simp_all [vR, vI, vL, vX, Prod.ext_iff]
    · cases h
  · cases h
def d_C_II (as : List AV) : Option (Int32 × Int32) := match as with
  | [.inr (.inr (.inl q0)), .inl a1, .inl a2] => (match (Nat.beq q0.1 0 && Nat.beq q0.2 0) with
    | true => some (a1, a2)
    | false => none)
  | _ => none
theorem d_C_II_e {as : List AV} {x : Int32 × Int32} (h : d_C_II as = some x) : as = [vR 0 0, vI x.1, vI x.2] := by
  unfold d_C_II at h
  split at h
  · split at h
    · next hb =>
      cases h
      simp only [Bool.and_eq_true, Bool.or_eq_true, Nat.beq_eq] at hb
      simp_all [vR, vI, vL, vX, Prod.ext_iff]
    · cases h
  · cases h
def d_C_III (as : List AV) : Option (Int32 × Int32 × Int32) := match as with
  | [.inr (.inr (.inl q0)), .inl a1, .inl a2, .inl a3] => (match (Nat.beq q0.1 0 && Nat.beq q0.2 0) with
    | true => some (a1, a2, a3)
    | false => none)
  | _ => none
theorem d_C_III_e {as : List AV} {x : Int32 × Int32 × Int32} (h : d_C_III as = some x) : as = [vR 0 0, vI x.1, vI x.2.1, vI x.2.2] := by
  unfold d_C_III at h
  split at h
  · split at h
    · next hb =>
      cases h
      simp only [Bool.and_eq_true, Bool.or_eq_true, Nat.beq_eq] at hb
      simp_all [vR, vI, vL, vX, Prod.ext_iff]
    · cases h
  · cases h
def d_C_IIJ (as : List AV) : Option (Int32 × Int32 × Int64) := match as with
  | [.inr (.inr (.inl q0)), .inl a1, .inl a2, .inr (.inl a3)] => (match (Nat.beq q0.1 0 && Nat.beq q0.2 0) with
    | true => some (a1, a2, a3)
    | false => none)
  | _ => none
theorem d_C_IIJ_e {as : List AV} {x : Int32 × Int32 × Int64} (h : d_C_IIJ as = some x) : as = [vR 0 0, vI x.1, vI x.2.1, vL x.2.2] := by
  unfold d_C_IIJ at h
  split at h
  · split at h
    · next hb =>
      cases h
      simp only [Bool.and_eq_true, Bool.or_eq_true, Nat.beq_eq] at hb
      simp_all [vR, vI, vL, vX, Prod.ext_iff]
    · cases h
  · cases h
def d_C_IIIII (as : List AV) : Option (Int32 × Int32 × Int32 × Int32 × Int32) := match as with
  | [.inr (.inr (.inl q0)), .inl a1, .inl a2, .inl a3, .inl a4, .inl a5] => (match (Nat.beq q0.1 0 && Nat.beq q0.2 0) with
    | true => some (a1, a2, a3, a4, a5)
    | false => none)
  | _ => none
theorem d_C_IIIII_e {as : List AV} {x : Int32 × Int32 × Int32 × Int32 × Int32} (h : d_C_IIIII as = some x) : as = [vR 0 0, vI x.1, vI x.2.1, vI x.2.2.1, vI x.2.2.2.1, vI x.2.2.2.2] := by
  unfold d_C_IIIII at h
  split at h
  · split at h
    · next hb =>
      cases h
      simp only [Bool.and_eq_true, Bool.or_eq_true, Nat.beq_eq] at hb
      simp_all [vR, vI, vL, vX, Prod.ext_iff]
    · cases h
  · cases h
def d_C_JI (as : List AV) : Option (Int64 × Int32) := match as with
  | [.inr (.inr (.inl q0)), .inr (.inl a1), .inl a2] => (match (Nat.beq q0.1 0 && Nat.beq q0.2 0) with
    | true => some (a1, a2)
    | false => none)
  | _ => none
theorem d_C_JI_e {as : List AV} {x : Int64 × Int32} (h : d_C_JI as = some x) : as = [vR 0 0, vL x.1, vI x.2] := by
  unfold d_C_JI at h
  split at h
  · split at h
    · next hb =>
      cases h
      simp only [Bool.and_eq_true, Bool.or_eq_true, Nat.beq_eq] at hb
      simp_all [vR, vI, vL, vX, Prod.ext_iff]
    · cases h
  · cases h
def d_W (as : List AV) : Option (Nat) := match as with
  | [.inr (.inr (.inl q0))] => (match Nat.beq q0.1 1 with
    | true => some (q0.2)
    | false => none)
  | _ => none
theorem d_W_e {as : List AV} {x : Nat} (h : d_W as = some x) : as = [vR 1 x] := by
  unfold d_W at h
  split at h
  · split at h
    · next hb =>
      cases h
      simp only [Bool.and_eq_true, Bool.or_eq_true, Nat.beq_eq] at hb
      simp_all [vR, vI, vL, vX, Prod.ext_iff]
    · cases h
  · cases h
def d_W_I (as : List AV) : Option (Nat × Int32) := match as with
  | [.inr (.inr (.inl q0)), .inl a1] => (match Nat.beq q0.1 1 with
    | true => some (q0.2, a1)
    | false => none)
  | _ => none
theorem d_W_I_e {as : List AV} {x : Nat × Int32} (h : d_W_I as = some x) : as = [vR 1 x.1, vI x.2] := by
  unfold d_W_I at h
  split at h
  · split at h
    · next hb =>
      cases h
      simp only [Bool.and_eq_true, Bool.or_eq_true, Nat.beq_eq] at hb
      simp_all [vR, vI, vL, vX, Prod.ext_iff]
    · cases h
  · cases h
def d_W_II (as : List AV) : Option (Nat × Int32 × Int32) := match as with
  | [.inr (.inr (.inl q0)), .inl a1, .inl a2] => (match Nat.beq q0.1 1 with
    | true => some (q0.2, a1, a2)
    | false => none)
  | _ => none
theorem d_W_II_e {as : List AV} {x : Nat × Int32 × Int32} (h : d_W_II as = some x) : as = [vR 1 x.1, vI x.2.1, vI x.2.2] := by
  unfold d_W_II at h
  split at h
  · split at h
    · next hb =>
      cases h
      simp only [Bool.and_eq_true, Bool.or_eq_true, Nat.beq_eq] at hb
      simp_all [vR, vI, vL, vX, Prod.ext_iff]
    · cases h
  · cases h
def d_W_III (as : List AV) : Option (Nat × Int32 × Int32 × Int32) := match as with
  | [.inr (.inr (.inl q0)), .inl a1, .inl a2, .inl a3] => (match Nat.beq q0.1 1 with
    | true => some (q0.2, a1, a2, a3)
    | false => none)
  | _ => none
theorem d_W_III_e {as : List AV} {x : Nat × Int32 × Int32 × Int32} (h : d_W_III as = some x) : as = [vR 1 x.1, vI x.2.1, vI x.2.2.1, vI x.2.2.2] := by
  unfold d_W_III at h
  split at h
  · split at h
    · next hb =>
      cases h
      simp only [Bool.and_eq_true, Bool.or_eq_true, Nat.beq_eq] at hb
      simp_all [vR, vI, vL, vX, Prod.ext_iff]
    · cases h
  · cases h
def d_W_J (as : List AV) : Option (Nat × Int64) := match as with
  | [.inr (.inr (.inl q0)), .inr (.inl a1)] => (match Nat.beq q0.1 1 with
    | true => some (q0.2, a1)
    | false => none)
  | _ => none
theorem d_W_J_e {as : List AV} {x : Nat × Int64} (h : d_W_J as = some x) : as = [vR 1 x.1, vL x.2] := by
  unfold d_W_J at h
  split at h
  · split at h
    · next hb =>
      cases h
      simp only [Bool.and_eq_true, Bool.or_eq_true, Nat.beq_eq] at hb
      simp_all [vR, vI, vL, vX, Prod.ext_iff]
    · cases h
  · cases h
def d_W_K (as : List AV) : Option (Nat × Nat) := match as with
  | [.inr (.inr (.inl q0)), .inr (.inr (.inl q1))] => (match Nat.beq q0.1 1 && Nat.beq q1.1 2 with
    | true => some (q0.2, q1.2)
    | false => none)
  | _ => none
theorem d_W_K_e {as : List AV} {x : Nat × Nat} (h : d_W_K as = some x) : as = [vR 1 x.1, vR 2 x.2] := by
  unfold d_W_K at h
  split at h
  · split at h
    · next hb =>
      cases h
      simp only [Bool.and_eq_true, Bool.or_eq_true, Nat.beq_eq] at hb
      simp_all [vR, vI, vL, vX, Prod.ext_iff]
    · cases h
  · cases h
def d_W_KI (as : List AV) : Option (Nat × Nat × Int32) := match as with
  | [.inr (.inr (.inl q0)), .inr (.inr (.inl q1)), .inl a2] => (match Nat.beq q0.1 1 && Nat.beq q1.1 2 with
    | true => some (q0.2, q1.2, a2)
    | false => none)
  | _ => none
theorem d_W_KI_e {as : List AV} {x : Nat × Nat × Int32} (h : d_W_KI as = some x) : as = [vR 1 x.1, vR 2 x.2.1, vI x.2.2] := by
  unfold d_W_KI at h
  split at h
  · split at h
    · next hb =>
      cases h
      simp only [Bool.and_eq_true, Bool.or_eq_true, Nat.beq_eq] at hb
      simp_all [vR, vI, vL, vX, Prod.ext_iff]
    · cases h
  · cases h
def d_W_W (as : List AV) : Option (Nat × Nat) := match as with
  | [.inr (.inr (.inl q0)), .inr (.inr (.inl q1))] => (match Nat.beq q0.1 1 && Nat.beq q1.1 1 with
    | true => some (q0.2, q1.2)
    | false => none)
  | _ => none
theorem d_W_W_e {as : List AV} {x : Nat × Nat} (h : d_W_W as = some x) : as = [vR 1 x.1, vR 1 x.2] := by
  unfold d_W_W at h
  split at h
  · split at h
    · next hb =>
      cases h
      simp only [Bool.and_eq_true, Bool.or_eq_true, Nat.beq_eq] at hb
      simp_all [vR, vI, vL, vX, Prod.ext_iff]
    · cases h
  · cases h
def d_T (as : List AV) : Option (Unit) := match as with
  | [.inr (.inr (.inl q0))] => (match (Nat.beq q0.1 3 && Nat.beq q0.2 37) with
    | true => some ()
    | false => none)
  | _ => none
theorem d_T_e {as : List AV} {x : Unit} (h : d_T as = some x) : as = [vR 3 37] := by
  unfold d_T at h
  split at h
  · split at h
    · next hb =>
      cases h
      simp only [Bool.and_eq_true, Bool.or_eq_true, Nat.beq_eq] at hb
      simp_all [vR, vI, vL, vX, Prod.ext_iff]
    · cases h
  · cases h
def d_T_I (as : List AV) : Option (Int32) := match as with
  | [.inr (.inr (.inl q0)), .inl a1] => (match (Nat.beq q0.1 3 && Nat.beq q0.2 37) with
    | true => some (a1)
    | false => none)
  | _ => none
theorem d_T_I_e {as : List AV} {x : Int32} (h : d_T_I as = some x) : as = [vR 3 37, vI x] := by
  unfold d_T_I at h
  split at h
  · split at h
    · next hb =>
      cases h
      simp only [Bool.and_eq_true, Bool.or_eq_true, Nat.beq_eq] at hb
      simp_all [vR, vI, vL, vX, Prod.ext_iff]
    · cases h
  · cases h
def d_T_W (as : List AV) : Option (Nat) := match as with
  | [.inr (.inr (.inl q0)), .inr (.inr (.inl q1))] => (match (Nat.beq q0.1 3 && Nat.beq q0.2 37) && Nat.beq q1.1 1 with
    | true => some (q1.2)
    | false => none)
  | _ => none
theorem d_T_W_e {as : List AV} {x : Nat} (h : d_T_W as = some x) : as = [vR 3 37, vR 1 x] := by
  unfold d_T_W at h
  split at h
  · split at h
    · next hb =>
      cases h
      simp only [Bool.and_eq_true, Bool.or_eq_true, Nat.beq_eq] at hb
      simp_all [vR, vI, vL, vX, Prod.ext_iff]
    · cases h
  · cases h
def d_T_WI (as : List AV) : Option (Nat × Int32) := match as with
  | [.inr (.inr (.inl q0)), .inr (.inr (.inl q1)), .inl a2] => (match (Nat.beq q0.1 3 && Nat.beq q0.2 37) && Nat.beq q1.1 1 with
    | true => some (q1.2, a2)
    | false => none)
  | _ => none
theorem d_T_WI_e {as : List AV} {x : Nat × Int32} (h : d_T_WI as = some x) : as = [vR 3 37, vR 1 x.1, vI x.2] := by
  unfold d_T_WI at h
  split at h
  · split at h
    · next hb =>
      cases h
      simp only [Bool.and_eq_true, Bool.or_eq_true, Nat.beq_eq] at hb
      simp_all [vR, vI, vL, vX, Prod.ext_iff]
    · cases h
  · cases h
def d_T_X (as : List AV) : Option (Nat) := match as with
  | [.inr (.inr (.inl q0)), .inr (.inr (.inr (m1 + 10)))] => (match (Nat.beq q0.1 3 && Nat.beq q0.2 37) with
    | true => some (m1)
    | false => none)
  | _ => none
theorem d_T_X_e {as : List AV} {x : Nat} (h : d_T_X as = some x) : as = [vR 3 37, vX (x + 10)] := by
  unfold d_T_X at h
  split at h
  · split at h
    · next hb =>
      cases h
      simp only [Bool.and_eq_true, Bool.or_eq_true, Nat.beq_eq] at hb
      simp_all [vR, vI, vL, vX, Prod.ext_iff]
    · cases h
  · cases h
def d_H (as : List AV) : Option (Nat) := match as with
  | [.inr (.inr (.inl q0))] => (match Nat.beq q0.1 4 with
    | true => some (q0.2)
    | false => none)
  | _ => none
theorem d_H_e {as : List AV} {x : Nat} (h : d_H as = some x) : as = [vR 4 x] := by
  unfold d_H at h
  split at h
  · split at h
    · next hb =>
      cases h
      simp only [Bool.and_eq_true, Bool.or_eq_true, Nat.beq_eq] at hb
      simp_all [vR, vI, vL, vX, Prod.ext_iff]
    · cases h
  · cases h
def d_H_II (as : List AV) : Option (Nat × Int32 × Int32) := match as with
  | [.inr (.inr (.inl q0)), .inl a1, .inl a2] => (match Nat.beq q0.1 4 with
    | true => some (q0.2, a1, a2)
    | false => none)
  | _ => none
theorem d_H_II_e {as : List AV} {x : Nat × Int32 × Int32} (h : d_H_II as = some x) : as = [vR 4 x.1, vI x.2.1, vI x.2.2] := by
  unfold d_H_II at h
  split at h
  · split at h
    · next hb =>
      cases h
      simp only [Bool.and_eq_true, Bool.or_eq_true, Nat.beq_eq] at hb
      simp_all [vR, vI, vL, vX, Prod.ext_iff]
    · cases h
  · cases h
def d_H_IJ (as : List AV) : Option (Nat × Int32 × Int64) := match as with
  | [.inr (.inr (.inl q0)), .inl a1, .inr (.inl a2)] => (match Nat.beq q0.1 4 with
    | true => some (q0.2, a1, a2)
    | false => none)
  | _ => none
theorem d_H_IJ_e {as : List AV} {x : Nat × Int32 × Int64} (h : d_H_IJ as = some x) : as = [vR 4 x.1, vI x.2.1, vL x.2.2] := by
  unfold d_H_IJ at h
  split at h
  · split at h
    · next hb =>
      cases h
      simp only [Bool.and_eq_true, Bool.or_eq_true, Nat.beq_eq] at hb
      simp_all [vR, vI, vL, vX, Prod.ext_iff]
    · cases h
  · cases h
def d_K_K (as : List AV) : Option (Nat × Nat) := match as with
  | [.inr (.inr (.inl q0)), .inr (.inr (.inl q1))] => (match Nat.beq q0.1 2 && Nat.beq q1.1 2 with
    | true => some (q0.2, q1.2)
    | false => none)
  | _ => none
theorem d_K_K_e {as : List AV} {x : Nat × Nat} (h : d_K_K as = some x) : as = [vR 2 x.1, vR 2 x.2] := by
  unfold d_K_K at h
  split at h
  · split at h
    · next hb =>
      cases h
      simp only [Bool.and_eq_true, Bool.or_eq_true, Nat.beq_eq] at hb
      simp_all [vR, vI, vL, vX, Prod.ext_iff]
    · cases h
  · cases h
def d_X (as : List AV) : Option (Nat) := match as with
  | [.inr (.inr (.inr (m + 10)))] => some (m)
  | _ => none
theorem d_X_e {as : List AV} {x : Nat} (h : d_X as = some x) : as = [vX (x + 10)] := by
  unfold d_X at h
  split at h
  · cases h; rfl
  · cases h
def d_X_I (as : List AV) : Option (Nat × Int32) := match as with
  | [.inr (.inr (.inr (m + 10))), .inl a1] => some (m, a1)
  | _ => none
theorem d_X_I_e {as : List AV} {x : Nat × Int32} (h : d_X_I as = some x) : as = [vX (x.1 + 10), vI x.2] := by
  unfold d_X_I at h
  split at h
  · cases h; rfl
  · cases h
/-! the JDK's own that the kit has rows of -/
def sp_min : SP := fun as hp K => pI as fun x r => pI r fun y r => pN r (K (some (vI (if y < x then y else x))) hp)
def sp_max : SP := fun as hp K => pI as fun x r => pI r fun y r => pN r (K (some (vI (if x < y then y else x))) hp)
def sp_minL : SP := fun as hp K => pL as fun x r => pL r fun y r => pN r (K (some (vL (if y < x then y else x))) hp)
def sp_acopy : SP := fun as hp K => pR as fun k0 c0 r => pI r fun sp r => pR r fun k1 c1 r => pI r fun dp r => pI r fun n r => pN r (
  (ash k0 0 fun n0 => ash k1 0 fun n1 => (¬ sp < 0 ∧ ¬ dp < 0 ∧ ¬ n < 0 ∧ sp.toNatClampNeg + n.toNatClampNeg ≤ n0 ∧ dp.toNatClampNeg + n.toNatClampNeg ≤ n1) ∧ K none (rI hp c1 (va_cpy (hp.1 c0) (hp.1 c1) sp.toNatClampNeg dp.toNatClampNeg n.toNatClampNeg))) ∨
  (ash k0 1 fun n0 => ash k1 1 fun n1 => (¬ sp < 0 ∧ ¬ dp < 0 ∧ ¬ n < 0 ∧ sp.toNatClampNeg + n.toNatClampNeg ≤ n0 ∧ dp.toNatClampNeg + n.toNatClampNeg ≤ n1) ∧ K none (rL hp c1 (va_cpy (hp.2 c0) (hp.2 c1) sp.toNatClampNeg dp.toNatClampNeg n.toNatClampNeg))))
theorem pN_m {st : List AV} {k k2 : Prop} (hk : k → k2) (h : pN st k) : pN st k2 := by
  obtain ⟨rfl, h⟩ := pN_e h
  exact hk h
theorem SC_min {own : String} {F L idx : Nat} (h1 : Cond.methodLink own idx Lib.Math.min.name ∈ Gw) (h2 : Cond.static Lib.Math.min.name ∈ Gw) (h4 : Cond.initialized "java/lang/Math" ∈ Gw) (h5 : Cond.code Lib.Math.min.name Lib.Math.min.code 2 (some .int) ∈ Gw) (hF : 1 ≤ F) (hL : 21 ≤ L) : SC own F L (idx, true, 2, sp_min) := by
  refine ⟨fun as hp K K2 hk h => pI_m (fun _ _ => pI_m (fun _ _ => pN_m (hk _ _))) h, ?_⟩
  intro p l e R s m args below meth c cc nL cells slots Qs D ad cy ex fm A sc hC hFR hLR pc lv as rest hp hdg hlen hwid hsp hv hs H locs ls hP hS hl
  obtain ⟨x, r, rfl, h⟩ := pI_e hsp
  obtain ⟨y, r, rfl, h⟩ := pI_e h
  obtain ⟨rfl, h⟩ := pN_e h
  have hts := hC.2.2.2.2.1
  refine va_mmin (rest := rest.map (cv ad ex fm)) hC.1 hC.2.1 (by rw [hC.2.2.1]; exact hl.1.symm) hC.2.2.2.1 (hts _ h1) (hts _ h2) (hts _ h4) (hts _ h5) (by omega) (by rw [cv_wid hC.2.2.2.2.2.2.2.2.2.1]; omega) hC.2.2.2.2.2.2.2.2.2.2.1.1 hC.2.2.2.2.2.2.2.2.2.2.1.2 hdg ?_
  exact h hv (vs_cn trivial (fun v h => hs v (List.mem_append_right _ h))) H locs ls hP hS hl
theorem SC_max {own : String} {F L idx : Nat} (h1 : Cond.methodLink own idx Lib.Math.max.name ∈ Gw) (h2 : Cond.static Lib.Math.max.name ∈ Gw) (h4 : Cond.initialized "java/lang/Math" ∈ Gw) (h5 : Cond.code Lib.Math.max.name Lib.Math.max.code 2 (some .int) ∈ Gw) (hF : 1 ≤ F) (hL : 21 ≤ L) : SC own F L (idx, true, 2, sp_max) := by
  refine ⟨fun as hp K K2 hk h => pI_m (fun _ _ => pI_m (fun _ _ => pN_m (hk _ _))) h, ?_⟩
  intro p l e R s m args below meth c cc nL cells slots Qs D ad cy ex fm A sc hC hFR hLR pc lv as rest hp hdg hlen hwid hsp hv hs H locs ls hP hS hl
  obtain ⟨x, r, rfl, h⟩ := pI_e hsp
  obtain ⟨y, r, rfl, h⟩ := pI_e h
  obtain ⟨rfl, h⟩ := pN_e h
  have hts := hC.2.2.2.2.1
  refine va_mmax (rest := rest.map (cv ad ex fm)) hC.1 hC.2.1 (by rw [hC.2.2.1]; exact hl.1.symm) hC.2.2.2.1 (hts _ h1) (hts _ h2) (hts _ h4) (hts _ h5) (by omega) (by rw [cv_wid hC.2.2.2.2.2.2.2.2.2.1]; omega) hC.2.2.2.2.2.2.2.2.2.2.1.1 hC.2.2.2.2.2.2.2.2.2.2.1.2 hdg ?_
  exact h hv (vs_cn trivial (fun v h => hs v (List.mem_append_right _ h))) H locs ls hP hS hl
theorem SC_minL {own : String} {F L idx : Nat} (h1 : Cond.methodLink own idx Lib.MathLoose.min_long.x ∈ Gw) (h2 : Cond.static Lib.MathLoose.min_long.x ∈ Gw) (h4 : Cond.initialized "java/lang/Math" ∈ Gw) (h5 : Cond.code Lib.MathLoose.min_long.x Lib.MathLoose.min_long.code 4 (some .long) ∈ Gw) (hF : 1 ≤ F) (hL : 23 ≤ L) : SC own F L (idx, true, 2, sp_minL) := by
  refine ⟨fun as hp K K2 hk h => pL_m (fun _ _ => pL_m (fun _ _ => pN_m (hk _ _))) h, ?_⟩
  intro p l e R s m args below meth c cc nL cells slots Qs D ad cy ex fm A sc hC hFR hLR pc lv as rest hp hdg hlen hwid hsp hv hs H locs ls hP hS hl
  obtain ⟨x, r, rfl, h⟩ := pL_e hsp
  obtain ⟨y, r, rfl, h⟩ := pL_e h
  obtain ⟨rfl, h⟩ := pN_e h
  have hts := hC.2.2.2.2.1
  refine va_mmin_long (rest := rest.map (cv ad ex fm)) hC.1 hC.2.1 (by rw [hC.2.2.1]; exact hl.1.symm) hC.2.2.2.1 (hts _ h1) (hts _ h2) (hts _ h4) (hts _ h5) (by omega) (by rw [cv_wid hC.2.2.2.2.2.2.2.2.2.1]; omega) hC.2.2.2.2.2.2.2.2.2.2.1.1 hC.2.2.2.2.2.2.2.2.2.2.1.2 hdg ?_
  exact h hv (vs_cn trivial (fun v h => hs v (List.mem_append_right _ h))) H locs ls hP hS hl
theorem SC_acopy {own : String} {F L idx : Nat} (h1 : Cond.methodLink own idx arraycopyName ∈ Gw) (h2 : Cond.native arraycopyName ∈ Gw) (h3 : Cond.static arraycopyName ∈ Gw) (h4 : Cond.initialized "java/lang/System" ∈ Gw) (hF : 1 ≤ F) (hL : 26 ≤ L) : SC own F L (idx, true, 5, sp_acopy) := by
  refine ⟨fun as hp K K2 hk h => ?_, ?_⟩
  · show sp_acopy as hp K2
    have h : sp_acopy as hp K := h
    unfold sp_acopy at h ⊢
    refine pR_m ?_ h
    intro k0 c0 r h
    refine pI_m ?_ h
    intro x r h
    refine pR_m ?_ h
    intro k1 c1 r h
    refine pI_m ?_ h
    intro y r h
    refine pI_m ?_ h
    intro z r h
    refine pN_m ?_ h
    intro h
    rcases h with h | h
    · exact Or.inl (ash_m (fun _ => ash_m (fun _ h => ⟨h.1, hk _ _ h.2⟩)) h)
    · exact Or.inr (ash_m (fun _ => ash_m (fun _ h => ⟨h.1, hk _ _ h.2⟩)) h)
  intro p l e R s m args below meth c cc nL cells slots Qs D ad cy ex fm A sc hC hFR hLR pc lv as rest hp hdg hlen hwid hsp hv hs H locs ls hP hS hl
  dsimp only at hsp
  unfold sp_acopy at hsp
  obtain ⟨k0, c0, r0, e0, ha⟩ := pR_e hsp
  obtain ⟨sp, r1, e1, hb⟩ := pI_e ha
  obtain ⟨k1, c1, r2, e2, hc⟩ := pR_e hb
  obtain ⟨dp, r3, e3, hd⟩ := pI_e hc
  obtain ⟨n, r4, e4, he⟩ := pI_e hd
  obtain ⟨e5, h⟩ := pN_e he
  subst e5 e4 e3 e2 e1 e0
  have hts := hC.2.2.2.2.1
  have hv0 : vld (vR k0 c0) := hs _ (List.mem_append_left _ (List.mem_reverse.mpr List.mem_cons_self))
  have hv1 : vld (vR k1 c1) := hs _ (List.mem_append_left _ (List.mem_reverse.mpr (List.mem_cons_of_mem _ (List.mem_cons_of_mem _ List.mem_cons_self))))
  have hDD := ab_K (ad := ad) (cy := cy) (hp := hp) hC.2.2.2.2.2.2.1 hC.2.2.2.2.2.2.2.1
  have hnw : nativeFrameWords "java/lang/System" "arraycopy" 5 = 7 := by decide
  rcases h with h | h
  · obtain ⟨a0, ha0, ht0, h⟩ := ash_e h
    obtain ⟨a1, ha1, ht1, ⟨n1, n2, n3, n4, n5⟩, h⟩ := ash_e h
    have he0 := ab_row (ad := ad) (cy := cy) (hp := hp) hv0 ha0
    rw [ab_ar0 ht0] at he0
    have he1 := ab_row (ad := ad) (cy := cy) (hp := hp) hv1 ha1
    rw [ab_ar0 ht1] at he1
    refine va_copyi (rest := rest.map (cv ad ex fm)) hC.1 hC.2.1 (by rw [hC.2.2.1]; exact hl.1.symm) hC.2.2.2.1 (hts _ h1) (hts _ h2) (hts _ h3) (hts _ h4) hC.2.2.2.2.2.1 hP hDD hS c0 c1 0 0 he0 he1 rfl rfl rfl n1 n2 n3 n4 n5 (fun _ _ => rfl) (by omega) (by rw [cv_wid hC.2.2.2.2.2.2.2.2.2.1, hnw]; omega) hdg (fun H1 locs1 hP1 _ hS1 => ?_)
    refine h hv (fun v h => hs v (List.mem_append_right _ h)) H1 locs1 ls (ab_put (hp := hp) (hq := rI hp c1 (va_cpy (hp.1 c0) (hp.1 c1) sp.toNatClampNeg dp.toNatClampNeg n.toNatClampNeg)) hv1.1 (fun d hd => ⟨rI_ne hp _ hd, rfl⟩) ?_ hP1) hS1 hl
    rw [ab_rowq hv1 ha1, ab_ar0 ht1, rI_eq]
  · obtain ⟨a0, ha0, ht0, h⟩ := ash_e h
    obtain ⟨a1, ha1, ht1, ⟨n1, n2, n3, n4, n5⟩, h⟩ := ash_e h
    have he0 := ab_row (ad := ad) (cy := cy) (hp := hp) hv0 ha0
    rw [ab_ar1 ht0] at he0
    have he1 := ab_row (ad := ad) (cy := cy) (hp := hp) hv1 ha1
    rw [ab_ar1 ht1] at he1
    refine va_copyl (rest := rest.map (cv ad ex fm)) hC.1 hC.2.1 (by rw [hC.2.2.1]; exact hl.1.symm) hC.2.2.2.1 (hts _ h1) (hts _ h2) (hts _ h3) (hts _ h4) hC.2.2.2.2.2.1 hP hDD hS c0 c1 1 1 he0 he1 rfl rfl rfl n1 n2 n3 n4 n5 (fun _ _ => rfl) (by omega) (by rw [cv_wid hC.2.2.2.2.2.2.2.2.2.1, hnw]; omega) hdg (fun H1 locs1 hP1 _ hS1 => ?_)
    refine h hv (fun v h => hs v (List.mem_append_right _ h)) H1 locs1 ls (ab_put (hp := hp) (hq := rL hp c1 (va_cpy (hp.2 c0) (hp.2 c1) sp.toNatClampNeg dp.toNatClampNeg n.toNatClampNeg)) hv1.1 (fun d hd => ⟨rfl, rL_ne hp _ hd⟩) ?_ hP1) hS1 hl
    rw [ab_rowq hv1 ha1, ab_ar1 ht1, rL_eq]
