/-! rows that are the same but for walkers beyond their count -/
theorem ag_r (f : Nat → Int32) : ag f f := ⟨rfl, fun _ _ => rfl⟩
theorem ag.mn {f g : Nat → Int32} (h : ag f g) : mN g = mN f := by unfold mN; rw [h.1]
theorem ag.lo {f g : Nat → Int32} (h : ag f g) {k : Nat} (hk : k < 144) : g k = f k := h.2 k (by omega)
theorem ag.wk {f g : Nat → Int32} (h : ag f g) {i j : Nat} (hi : i < mN f) (hj : j < 5) : g (144 + 5 * i + j) = f (144 + 5 * i + j) := h.2 _ (by omega)
theorem ag.symm {f g : Nat → Int32} (h : ag f g) : ag g f := ⟨h.1.symm, fun k hk => (h.2 k (by rw [h.mn] at hk; exact hk)).symm⟩
theorem ag.trans {f g e : Nat → Int32} (h : ag f g) (h2 : ag g e) : ag f e := ⟨h2.1.trans h.1, fun k hk => (h2.2 k (by rw [h.mn]; exact hk)).trans (h.2 k hk)⟩
theorem ag.up {f g : Nat → Int32} (h : ag f g) {k : Nat} (hk : k ≠ 6) {u v : Int32} (e : v = u) : ag (upd f k u) (upd g k v) := by
  subst e
  have hm : mN (upd f k v) = mN f := by unfold mN; rw [pk_un (Ne.symm hk)]
  refine ⟨by rw [pk_un (Ne.symm hk), pk_un (Ne.symm hk)]; exact h.1, fun j hj => ?_⟩
  rw [hm] at hj
  rw [upd_at, upd_at]
  split
  · rfl
  · exact h.2 j hj
theorem ag.wf {f g : Nat → Int32} (h : ag f g) (hf : WF f) : WF g :=
  hf.of (fun k hk => h.2 k (by unfold keyI at hk; omega)) (fun w hw => wk_same (hf.wk hw) (fun j hj => h.wk hw hj))
theorem dr_144 {q : Nat} (hq : q < 25) (j : Nat) : dr q j < 144 := by
  unfold dr
  split <;> omega
theorem bsd_99 {q : Nat} (hq : q < 25) (j : Nat) : bsd q j ≤ 99 := by
  unfold bsd
  split <;> split <;> omega
theorem ag.may {f g : Nat → Int32} (h : ag f g) {q : Nat} (hq : q < 25) : mayB g q = mayB f q := by
  funext j
  unfold mayB
  rw [h.lo (dr_144 hq j)]
theorem ag.tur {f g : Nat → Int32} (h : ag f g) {q : Nat} (hq : q < 25) (l : Bool) : turB g q l = turB f q l := by
  funext j
  have := bsd_99 hq j
  unfold turB
  rw [h.may hq, h.lo (by omega)]
theorem ag.lmp {f g : Nat → Int32} (h : ag f g) {q : Nat} (hq : q < 25) (y : Nat) : lmpV g q y = lmpV f q y := by
  unfold lmpV
  rw [h.tur hq, h.tur hq]
theorem ag.slp {f g : Nat → Int32} (h : ag f g) {q : Nat} (hq : q < 25) (y : Nat) : slpV g q y = slpV f q y := by
  have e : (fun w => g (19 + bsd q w)) = (fun w => f (19 + bsd q w)) := by
    funext j
    have := bsd_99 hq j
    exact h.lo (by omega)
  unfold slpV slpC
  rw [h.tur hq, h.may hq, e, h.lo (k := 19 + q) (by omega)]
theorem ag.wnd {f g : Nat → Int32} (h : ag f g) {q : Nat} (hq : q < 25) : (wndF g q).1 = (wndF f q).1 ∧ (wndF g q).2 1 = (wndF f q).2 1 := by
  unfold wndF
  rw [h.may hq, h.lo (k := 1) (by omega)]
  split
  · exact ⟨rfl, h.lo (by omega)⟩
  · exact ⟨rfl, by show upd g 1 (drV (f 1)) 1 = upd f 1 (drV (f 1)) 1; rw [pk_us, pk_us]⟩
theorem ag.st {f g : Nat → Int32} (h : ag f g) (hf : WF f) {w : Nat} (hw : w < mN f) : (stF g w).1 = (stF f w).1 ∧ (stF g w).2 1 = (stF f w).2 1 := by
  have hp : plc f w < 25 := ix_lt (hf.wk hw).2.2.1
  have ep : plc g w = plc f w := by unfold plc; rw [h.wk hw (by omega)]
  have ey : wyO g w = wyO f w := by unfold wyO; rw [h.wk hw (by omega)]
  have e0 : g (144 + 5 * w) = f (144 + 5 * w) := h.wk hw (j := 0) (by omega)
  have h1 : g 1 = f 1 := h.lo (by omega)
  have hw4 := h.wnd hp
  unfold stF
  rw [ep, ey, e0, h.tur hp, h.slp hp, h.lmp hp, h.wk hw (j := 2) (by omega), h.wk hw (j := 1) (by omega), h.lo (k := 0) (by omega), h.lo (k := 2) (by omega)]
  split
  · exact ⟨rfl, h1⟩
  · split
    · exact ⟨rfl, h1⟩
    · split
      · exact ⟨rfl, h1⟩
      · split
        · exact ⟨rfl, h1⟩
        · split
          · exact hw4
          · exact ⟨rfl, h1⟩
theorem ag.inr {f g : Nat → Int32} (h : ag f g) (hf : WF f) {w : Nat} (hw : w < mN f) : inR g w = inR f w := by
  have hp : plc f w < 25 := ix_lt (hf.wk hw).2.2.1
  have ep : plc g w = plc f w := by unfold plc; rw [h.wk hw (by omega)]
  unfold inR
  rw [ep, h.lo (by omega)]
theorem ag.gob {f g : Nat → Int32} (h : ag f g) (hf : WF f) {w : Nat} (hw : w < mN f) : goB g w = goB f w := by
  unfold goB
  rw [h.inr hf hw, h.wk hw (by omega)]
theorem ag.mv {f g : Nat → Int32} (h : ag f g) (hf : WF f) {w : Nat} (hw : w < mN f) : ag (mvF f w) (mvF g w) := by
  have hs := h.st hf hw
  have ep : plc g w = plc f w := by unfold plc; rw [h.wk hw (by omega)]
  unfold mvF
  rw [h.gob hf hw, hs.1, ep]
  split
  · have h2 : ag (stF f w).2 (stF g w).2 := by
      rw [← st_r1 f w, ← st_r1 g w]
      exact h.up (by omega) hs.2
    split
    · exact h2
    · exact (h2.up (by omega) rfl).up (by omega) rfl
  · exact h
theorem ag.wkf {f g : Nat → Int32} (h : ag f g) (hf : WF f) {w : Nat} (hw : w < mN f) : ag (wkF f w) (wkF g w) := by
  unfold wkF
  rw [h.gob hf hw, h.wk hw (j := 2) (by omega), h.lo (k := 3) (by omega)]
  split
  · exact h.up (by omega) rfl
  · exact h
theorem ag.fold {G : (Nat → Int32) → Nat → (Nat → Int32)} (hG : ∀ f w, WF f → w < mN f → WF (G f w) ∧ mN (G f w) = mN f) (hA : ∀ f g w, ag f g → WF f → w < mN f → ag (G f w) (G g w)) {f g : Nat → Int32} (h : ag f g) (hf : WF f) : ∀ n, n ≤ mN f → ag (foldR G f n) (foldR G g n)
  | 0, _ => h
  | n + 1, hn => by
    have ih := ag.fold hG hA h hf n (by omega)
    have hw := hf.foldR hG n (by omega)
    exact hA _ _ n ih hw.1 (by rw [hw.2]; omega)
theorem ag.rd {f g : Nat → Int32} (h : ag f g) (hf : WF f) : ag (rdF f) (rdF g) := by
  have e4 : g 4 = f 4 := h.lo (by omega)
  have e5 : g 5 = f 5 := h.lo (by omega)
  unfold rdF
  rw [e4, e5]
  split
  · exact h
  · next h0 =>
    obtain ⟨-, -, r, hr, er5, hrs, h4⟩ := hf
    have hr0 : 0 < r := by
      rcases Nat.eq_zero_or_pos r with h | h
      · exact absurd (by rw [er5, h]; decide) h0
      · exact h
    obtain ⟨l, hl, el, -⟩ := rd_val hr hr0 er5 (h4.resolve_left (by omega))
    rw [el, nI_clamp (by omega)]
    exact (h.up (by omega) rfl).up (by omega) (h.lo (by omega))
theorem ag.min {f g : Nat → Int32} (h : ag f g) (hf : WF f) : ag (minF f) (minF g) := by
  have h1 := hf.foldR (g := mvF) (fun f w hf hw => hf.mv hw) (mN f) (Nat.le_refl _)
  have h2 := h1.1.foldR (g := wkF) (fun f w hf hw => hf.wkf hw) (mN f) (by rw [h1.2]; exact Nat.le_refl _)
  have a1 := h.fold (G := mvF) (fun f w hf hw => hf.mv hw) (fun f g w a b c => a.mv b c) hf (mN f) (Nat.le_refl _)
  have a2 := a1.fold (G := wkF) (fun f w hf hw => hf.wkf hw) (fun f g w a b c => a.wkf b c) h1.1 (mN f) (by rw [h1.2]; exact Nat.le_refl _)
  have a3 := a2.rd h2.1
  unfold minF
  rw [h.mn]
  unfold tkF
  exact a3.up (by omega) (by rw [a3.lo (k := 0) (by omega)])
theorem ag.go {f g : Nat → Int32} (h : ag f g) (hf : WF f) : ∀ n, ag (goF f n) (goF g n)
  | 0 => h
  | n + 1 => (ag.go h hf n).min (hf.go n).1
theorem ag.cms {f g : Nat → Int32} (h : ag f g) (hf : WF f) : ∀ n, n ≤ mN f → cm g n = cm f n
  | 0, _ => rfl
  | n + 1, hn => by
    have ih := ag.cms h hf n (by omega)
    have hw := hf.foldR (g := mvF) (fun f w hf hw => hf.mv hw) n (by omega)
    have a := h.fold (G := mvF) (fun f w hf hw => hf.mv hw) (fun f g w a b c => a.mv b c) hf n (by omega)
    have hlt : n < mN (foldR mvF f n) := by rw [hw.2]; omega
    have hm := hw.1.mv hlt
    show cm g n + (if cmB (foldR mvF g n) n = true then 1 else 0) = cm f n + (if cmB (foldR mvF f n) n = true then 1 else 0)
    unfold cmB
    rw [ih, a.inr hw.1 hlt, (a.mv hw.1 hlt).inr hm.1 (by rw [hm.2]; exact hlt)]
