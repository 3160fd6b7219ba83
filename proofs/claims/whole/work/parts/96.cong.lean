/-! the class's bytes and the reference's are read alike -/
theorem rb_x {b t x : Int32} (h : rb b t) (h1 : 0 ≤ x) (h2 : x ≤ nI 127) : (b = x ↔ t = x) := by
  rcases h with rfl | ⟨ha, hb⟩
  · exact Iff.rfl
  · refine ⟨fun e => ?_, fun e => ?_⟩
    · rw [e] at ha
      exact absurd h1 (Int32.not_le.mpr ha)
    · rw [e] at hb
      exact absurd (Int32.le_trans hb h2) (by decide)
theorem rb_rng {b t : Int32} (h : rb b t) {x y : Int32} (h1 : 0 ≤ x) (h2 : y ≤ nI 127) : (decide (x ≤ b) && decide (b ≤ y)) = (decide (x ≤ t) && decide (t ≤ y)) := by
  rcases h with rfl | ⟨ha, hb⟩
  · rfl
  · rw [decide_eq_false (p := x ≤ b) (fun h => absurd (Int32.le_trans h1 h) (Int32.not_le.mpr ha)), decide_eq_false (p := t ≤ y) (fun h => absurd (Int32.le_trans (Int32.le_trans hb h) h2) (by decide)), Bool.and_false, Bool.false_and]
theorem rb_lr {b t : Int32} (h : rb b t) : lrB b = lrB t := rb_rng h (by decide) (by decide)
theorem rb_dg {b t : Int32} (h : rb b t) : dgB b = dgB t := rb_rng h (by decide) (by decide)
theorem rb_bl {b t : Int32} (h : rb b t) : blB b = blB t := decide_eq_decide.mpr (rb_x h (by decide) (by decide))
theorem rb_d {b t : Int32} (h : rb b t) (hd : dgB t = true) : b = t := by
  rcases h with e | ⟨_, hb⟩
  · exact e
  · exact absurd (Int32.le_trans hb (and_t.mp hd).2) (by decide)
def rbs (B t : Nat → Int32) (n : Nat) : Prop := ∀ j, j < n → rb (B j) (t j)
theorem rbs.y {B t : Nat → Int32} {n : Nat} (h : rbs B t n) (k : Nat) : rb (byt B n k) (byt t n k) := by
  unfold byt
  split
  · exact Or.inl rfl
  · exact h k (by omega)
theorem skp_cg {p : Int32 → Bool} {B t : Nat → Int32} {n : Nat} (h : ∀ k, p (byt B n k) = p (byt t n k)) (a : Nat) : skp p B n a = skp p t n a := by
  unfold skp
  exact fst_cg _ _ (fun j _ _ => by rw [h j])
theorem rbs_bk {B t : Nat → Int32} {n : Nat} (h : rbs B t n) (a : Nat) : bk B n a = bk t n a := skp_cg (fun k => rb_bl (h.y k)) a
theorem fst_bf {p : Nat → Bool} : ∀ n a j, a ≤ j → j < fst_ p n a → p j = false
  | 0, a, j, h1, h2 => by unfold fst_ at h2; omega
  | n + 1, a, j, h1, h2 => by
    unfold fst_ at h2
    split at h2
    · omega
    · next hp =>
      by_cases e : j = a
      · rw [e]
        exact Bool.eq_false_iff.mpr hp
      · exact fst_bf n (a + 1) j (by omega) h2
theorem nv_cg {B t : Nat → Int32} {s : Nat} : ∀ k, (∀ j, j < k → B (s + j) = t (s + j)) → nv B s k = nv t s k
  | 0, _ => rfl
  | k + 1, h => by
    show 10 * nv B s k + _ = 10 * nv t s k + _
    rw [nv_cg k (fun j hj => h j (by omega)), h k (by omega)]
theorem rbs_pnE {B t : Nat → Int32} {n : Nat} (h : rbs B t n) (a : Nat) : pnE B n a = pnE t n a := by
  unfold pnE
  rw [rbs_bk h, skp_cg (fun k => rb_dg (h.y k))]
theorem rbs_pnV {B t : Nat → Int32} {n : Nat} (h : rbs B t n) (a : Nat) : pnV B n a = pnV t n a := by
  unfold pnV
  rw [rbs_pnE h, rbs_bk h]
  refine nv_cg _ (fun j hj => ?_)
  have hlt : bk t n a + j < skp dgB t n (bk t n a) := by
    unfold pnE at hj
    omega
  have hd := fst_bf _ _ _ (by omega) hlt
  have hd : dgB (byt t n (bk t n a + j)) = true := by
    cases hb : dgB (byt t n (bk t n a + j)) with
    | true => rfl
    | false => rw [hb] at hd; cases hd
  have hi := byt_in (p := dgB) (by decide) hd
  rw [hi.2] at hd
  exact rb_d (h _ hi.1) hd
theorem rbs_pnB {B t : Nat → Int32} {n : Nat} (h : rbs B t n) (m a : Nat) : pnB B n m a = pnB t n m a := by
  unfold pnB
  rw [rbs_pnV h, rbs_bk h, rb_dg (h.y _)]
theorem tx_rng : ∀ i, i < 20 → ∀ k, k < (tx_s.getD i []).length → 0 ≤ (tx_s.getD i []).getD k 0 ∧ (tx_s.getD i []).getD k 0 ≤ nI 127 := by decide +kernel
theorem rbs_mtc {B t : Nat → Int32} {n : Nat} (h : rbs B t n) (s m : Nat) : ∀ k, k ≤ tx_n m → mtc B n s m k = mtc t n s m k
  | 0, _ => rfl
  | k + 1, hk => by
    show (mtc B n s m k && decide (byt B n (s + k) = tx_b m k)) = (mtc t n s m k && decide (byt t n (s + k) = tx_b m k))
    have hr : 0 ≤ tx_b m k ∧ tx_b m k ≤ nI 127 := tx_rng (tx_i m) (Nat.mod_lt _ (by omega)) k hk
    rw [rbs_mtc h s m k (by omega), decide_eq_decide.mpr (rb_x (h.y (s + k)) hr.1 hr.2)]
theorem rbs_wrd {B t : Nat → Int32} {n : Nat} (h : rbs B t n) (s m : Nat) : wrd B n s m = wrd t n s m := by
  unfold wrd
  rw [rbs_mtc h s m _ (Nat.le_refl _), skp_cg (fun k => rb_lr (h.y k))]
theorem rbs_wd {B t : Nat → Int32} {n : Nat} (h : rbs B t n) (m a : Nat) : wd B n m a = wd t n m a := by
  unfold wd
  rw [rbs_bk h, rbs_wrd h]
theorem rbs_wdK {B t : Nat → Int32} {n : Nat} (h : rbs B t n) (m a : Nat) : wdK B n m a = wdK t n m a := by
  unfold wdK
  rw [rbs_bk h, rbs_wd h]
theorem rbs_rds {B t : Nat → Int32} {n : Nat} (h : rbs B t n) : ∀ m c a f, rds B n m c a f = rds t n m c a f
  | 0, _, _, _ => rfl
  | m + 1, c, a, f => by
    unfold rds
    rw [rbs_pnB h, rbs_pnE h, rbs_pnV h, rbs_bk h, rbs_bk h, rb_dg (h.y _), rbs_rds h m]
theorem rbs_kw {B t : Nat → Int32} {n : Nat} (h : rbs B t n) (b : Nat) : kwN B n b = kwN t n b := by
  unfold kwN
  exact fst_cg _ _ (fun j _ _ => rbs_wrd h b _)
theorem rbs_it {B t : Nat → Int32} {n : Nat} (h : rbs B t n) (b : Nat) (f : Nat → Int32) : pIt B n b f = pIt t n b f := by
  unfold pIt pWds pWalker pWay pDoor pHeight pMark pMoon pRounds
  simp only [rbs_kw h, rbs_wrd h, rbs_wd h, rbs_wdK h, rbs_pnB h, rbs_pnE h, rbs_pnV h, rbs_bk h, rbs_rds h]
theorem rbs_its {B t : Nat → Int32} {n : Nat} (h : rbs B t n) : ∀ m c a f, pIts B n m c a f = pIts t n m c a f
  | 0, _, _, _ => rfl
  | m + 1, c, a, f => by
    unfold pIts
    rw [rbs_it h, rbs_bk h]
    cases pIt t n (bk t n a) f with
    | inl s => rfl
    | inr p =>
      dsimp only
      rw [rbs_bk h, rbs_its h m]
      by_cases e : byt t n (bk t n p.1) = nI 59
      · rw [if_pos e, if_pos ((rb_x (h.y _) (by decide) (by decide)).mpr e)]
      · rw [if_neg e, if_neg (fun e2 => e ((rb_x (h.y _) (by decide) (by decide)).mp e2))]
theorem rbs_ward {B t : Nat → Int32} {n : Nat} (h : rbs B t n) (f : Nat → Int32) : pWard B n f = pWard t n f := rbs_its h _ _ _ f
/-! rows that agree stay so -/
def relS (r q : Sum Nat (Nat × (Nat → Int32))) : Prop := match r, q with
  | .inl a, .inl b => a = b
  | .inr a, .inr b => a.1 = b.1 ∧ ag a.2 b.2
  | _, _ => False
theorem rel_l (s : Nat) : relS (.inl s) (.inl s) := rfl
theorem rel_r {k : Nat} {f g : Nat → Int32} (h : ag f g) : relS (.inr (k, f)) (.inr (k, g)) := ⟨rfl, h⟩
theorem ag_rst2 {f g : Nat → Int32} (h : ag f g) : ag (rstF f) (rstF g) := by
  unfold rstF
  exact (h.up (by omega) rfl).up (by omega) rfl
theorem ag_add2 {f g : Nat → Int32} (h : ag f g) {c : Nat} (hc : c < 8) (e : f 6 = nI c) (k q w : Int32) : ag (addF f k q w) (addF g k q w) := by
  rw [← add_eq (f := g) hc (h.1.trans e)]
  exact h.add hc e k q w
theorem rel_rds {t : Nat → Int32} {n : Nat} : ∀ m c a f g, ag f g → relS (rds t n m c a f) (rds t n m c a g)
  | 0, _, _, _, _, _ => rfl
  | m + 1, c, a, f, g, h => by
    unfold rds
    split
    · rfl
    split
    · have h2 : ag (upd (upd f (7 + c) (nI (pnV t n a))) 5 (nI (c + 1))) (upd (upd g (7 + c) (nI (pnV t n a))) 5 (nI (c + 1))) := by
        by_cases hc : 7 + c = 6
        · omega
        · exact (h.up hc rfl).up (by omega) rfl
      split
      · exact rel_rds m _ _ _ _ h2
      · exact rel_r h2
    · rfl
theorem rel_it {t : Nat → Int32} {n b : Nat} {f g : Nat → Int32} (h : ag f g) (hm : many f) : relS (pIt t n b f) (pIt t n b g) := by
  obtain ⟨c, hc, e6⟩ := hm
  have door : ∀ v a, relS (pDoor t n v a f) (pDoor t n v a g) := fun v a => by
    unfold pDoor
    split
    · split
      · split
        · rfl
        · next h1 h2 h3 =>
          have hV := pnB_v h1
          have hU := pnB_v h2
          have hd := dr_door _ (show pnV t n a < 25 by omega) _ (show pnV t n (pnE t n a) < 25 by omega)
          exact rel_r (h.up (by omega) rfl)
      · rfl
    · rfl
  have mark : ∀ z v a, z = 44 ∨ z = 69 → relS (pMark t n z v a f) (pMark t n z v a g) := fun z v a hz => by
    unfold pMark
    split
    · exact rel_r (h.up (by omega) rfl)
    · rfl
  unfold pIt
  split
  · rw [h.1]
    split
    · rfl
    · next hk h8 =>
      have hc8 : c < 8 := by
        rcases Nat.lt_or_ge c 8 with h | h
        · exact h
        · rw [e6, show c = 8 by omega] at h8
          exact absurd rfl h8
      have ha : ∀ k q w, ag (addF f k q w) (addF g k q w) := fun k q w => ag_add2 h hc8 e6 k q w
      unfold pWalker
      split
      · split
        · unfold pWay
          split
          · split
            · exact rel_r (ha _ _ _)
            · rfl
          · exact rel_r (ha _ _ _)
        · rfl
      · rfl
  · unfold pWds
    split
    · exact door _ _
    split
    · exact door _ _
    split
    · unfold pHeight
      split
      · split
        · exact rel_r (h.up (by omega) rfl)
        · rfl
      · rfl
    split
    · exact mark _ _ _ (Or.inl rfl)
    split
    · exact mark _ _ _ (Or.inr rfl)
    split
    · exact mark _ _ _ (Or.inr rfl)
    split
    · unfold pMoon
      split
      · exact rel_r (h.up (by omega) rfl)
      · rfl
    split
    · unfold pRounds
      exact rel_rds _ _ _ _ _ (ag_rst2 h)
    · rfl
theorem rel_its {t : Nat → Int32} {n : Nat} : ∀ m c a f g, ag f g → WS f → a ≤ n → relS (pIts t n m c a f) (pIts t n m c a g)
  | 0, _, _, _, _, _, _, _ => rfl
  | m + 1, c, a, f, g, h, hw, ha => by
    unfold pIts
    have hb := bk_le t ha
    have r := rel_it (t := t) (n := n) (b := bk t n a) h hw.many
    have hok := pIt_ok (t := t) hw hb.2
    generalize pIt t n (bk t n a) f = x at r hok
    generalize pIt t n (bk t n a) g = y at r
    cases x with
    | inl s =>
      cases y with
      | inl s2 => exact r
      | inr q => exact r.elim
    | inr p =>
      cases y with
      | inl s2 => exact r.elim
      | inr q =>
        obtain ⟨r1, r2⟩ := r
        obtain ⟨o1, o2, o3⟩ := hok
        have hbp := bk_le t o2
        dsimp only
        rw [← r1]
        split
        · next h59 =>
          have hlt : bk t n p.1 < n := by
            rcases Nat.lt_or_ge (bk t n p.1) n with h | h
            · exact h
            · rw [show byt t n (bk t n p.1) = -1 from if_pos h] at h59
              exact absurd h59 (by decide)
          exact rel_its m _ _ _ _ r2 o3 hlt
        · split
          · rfl
          · exact rel_r r2
def okW (r : Sum Nat (Nat × (Nat → Int32))) : Prop := match r with
  | .inl _ => True
  | .inr p => WS p.2
theorem ok_its {t : Nat → Int32} {n : Nat} : ∀ m c a f, WS f → a ≤ n → okW (pIts t n m c a f)
  | 0, _, _, _, _, _ => trivial
  | m + 1, c, a, f, hw, ha => by
    unfold pIts
    have hb := bk_le t ha
    have hok := pIt_ok (t := t) hw hb.2
    generalize pIt t n (bk t n a) f = x at hok
    cases x with
    | inl s => trivial
    | inr p =>
      obtain ⟨o1, o2, o3⟩ := hok
      dsimp only
      split
      · next h59 =>
        have hlt : bk t n p.1 < n := by
          rcases Nat.lt_or_ge (bk t n p.1) n with h | h
          · exact h
          · rw [show byt t n (bk t n p.1) = -1 from if_pos h] at h59
            exact absurd h59 (by decide)
        exact ok_its m _ _ _ o3 hlt
      · split
        · trivial
        · exact o3
theorem ag_ws {f g : Nat → Int32} (h : ag f g) (hf : WS f) : WS g := ⟨h.wf hf.1, by rw [h.lo (by omega), h.lo (by omega)]; exact hf.2⟩
