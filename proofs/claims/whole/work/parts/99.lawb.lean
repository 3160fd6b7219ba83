/-! the law, case by case -/
def LQ : QP := fun v _ => v = some (vI (nI 1))
/-- the class's cells are what they were -/
def frC (hp hq : HP) : Prop := ∀ c, c < 52 → hq.1 c = hp.1 c ∧ hq.2 c = hp.2 c
theorem fr_r (hp : HP) : frC hp hp := fun _ _ => ⟨rfl, rfl⟩
theorem fr_t {hp hq hr : HP} (h : frC hp hq) (h2 : frC hq hr) : frC hp hr := fun c hc => ⟨(h2 c hc).1.trans (h c hc).1, (h2 c hc).2.trans (h c hc).2⟩
theorem fr_rI (hp : HP) {c : Nat} (f : Nat → Int32) (hc : 52 ≤ c) : frC hp (rI hp c f) := fun d hd => ⟨rI_ne _ _ (by omega), rfl⟩
theorem fr_rL (hp : HP) {c : Nat} (f : Nat → Int64) (hc : 52 ≤ c) : frC hp (rL hp c f) := fun d hd => ⟨rfl, rL_ne _ _ (by omega)⟩
theorem fr_uI (hp : HP) {c k : Nat} {v : Int32} (hc : 52 ≤ c) : frC hp (uI hp c k v) := fr_rI hp _ hc
theorem fr_uL (hp : HP) {c k : Nat} {v : Int64} (hc : 52 ≤ c) : frC hp (uL hp c k v) := fr_rL hp _ hc
theorem fr_no (hp : HP) (k : Nat) : frC hp (noP hp k).2 := fr_uI hp (by omega)
theorem fr_noL (hp : HP) (k : Nat) : frC hp (noL hp k).2 := fr_uI hp (by omega)
theorem fr_no5 (hp : HP) {c : Nat} (f : Nat → Int32) (k : Nat) (hc : 52 ≤ c) : frC hp (noP (rI hp c f) k).2 := fr_t (fr_rI hp f hc) (fr_no _ k)
theorem rc_m {hp hq : HP} (h : RC hp hp) (hm : mdl hp hq) : RC hp hq := h.q (qc_r hp) ⟨(hm 53 (by omega)).1, (hm 54 (by omega)).1, (hm 57 (by omega)).1, (hm 62 (by omega)).1, (hm 63 (by omega)).1, (hm 64 (by omega)).1, (hm 65 (by omega)).2, by rw [(hm 52 (by omega)).1], by rw [(hm 52 (by omega)).1]⟩
theorem rc_both {hq mq : HP} (h : RC hq mq) (hf : frC hq mq) : RC mq mq := by
  obtain ⟨h1, h2, h3, h4, h5⟩ := h
  exact ⟨h1.c (fun c a b => hf c (by omega)) rfl, h2.c (by rw [(hf 0 (by omega)).1]) (fun c a b => hf c (by omega)) rfl rfl, h3.c (hf 51 (by omega)).1 (by rw [(hf 0 (by omega)).1]) rfl, h4.c (by rw [(hf 37 (by omega)).1]) (hf 38 (by omega)).1 rfl rfl, h5.c (fun s hs => (hf (40 + s) (by omega)).1) (fun s hs => (hf (44 + s) (by omega)).2) rfl rfl rfl⟩
theorem rc_both2 {hq mq mr : HP} (h : RC hq mq) (hm : qm mq mr) (hf : frC hq mr) : RC mr mr := rc_both (h.q (qc_r hq) hm) hf
theorem qm_L (mp : HP) {c : Nat} (g : Nat → Int64) (hc : c ≠ 65) : qm mp (rL mp c g) := ⟨rfl, rfl, rfl, rfl, rfl, rfl, rL_ne _ _ (by omega), rfl, rfl⟩
theorem po_use {F : HP → Int32 × HP} {hp hq : HP} {v : Option AV} (h : RC hp hp) (hP : PO F hp v hq) : v = some (vI (F hq).1) ∧ RC hp hq ∧ RC hq (F hq).2 := ⟨(hP.2 hq (rc_m h hP.1)).1, rc_m h hP.1, (hP.2 hq (rc_m h hP.1)).2⟩
theorem pj_use {F : HP → Int64 × HP} {hp hq : HP} {v : Option AV} (h : RC hp hp) (hP : PJ F hp v hq) : v = some (vL (F hq).1) ∧ RC hp hq ∧ RC hq (F hq).2 := ⟨(hP.2 hq (rc_m h hP.1)).1, rc_m h hP.1, (hP.2 hq (rc_m h hP.1)).2⟩
theorem rc_rnd {hp mp : HP} (h : RC hp mp) : rnd (mp.1 53) := by
  obtain ⟨r, a, b, -⟩ := h.wf.2.2
  exact ⟨r, a, b⟩
theorem rc_ln {hp mp : HP} (h : RC hp mp) : lnOK mp := fun s hs => (h.sh hs).2.2.1
theorem rc_tap {hp mp : HP} (h : RC hp mp) : tapOK mp := by
  obtain ⟨T, a, b, -⟩ := h.2.2.2.1
  exact ⟨T, a, b⟩
theorem fr_door (a : Int32) (b : Int32) (c : Int32) (hp : HP) : frC hp (F_door a b c hp).2 := by
  unfold F_door 
  repeat' split
  all_goals (try dsimp only)
  all_goals first | with_reducible exact fr_r _ | with_reducible exact fr_no _ _ | with_reducible exact fr_noL _ _ | with_reducible exact fr_uI _ (by decide) | with_reducible exact fr_uL _ (by decide) | with_reducible exact fr_rI _ _ (by decide) | with_reducible exact fr_rL _ _ (by decide) | with_reducible exact fr_no5 _ _ _ (by decide) | with_reducible exact fr_t (fr_rI _ _ (by decide)) (fr_uI _ (by decide)) | with_reducible exact fr_t (fr_rI _ _ (by decide)) (fr_rI _ _ (by decide)) | with_reducible exact fr_t (fr_rI _ _ (by decide)) (fr_rL _ _ (by decide))
theorem fr_isOpen (a : Int32) (b : Int32) (hp : HP) : frC hp (F_isOpen a b hp).2 := by
  unfold F_isOpen 
  repeat' split
  all_goals (try dsimp only)
  all_goals first | with_reducible exact fr_r _ | with_reducible exact fr_no _ _ | with_reducible exact fr_noL _ _ | with_reducible exact fr_uI _ (by decide) | with_reducible exact fr_uL _ (by decide) | with_reducible exact fr_rI _ _ (by decide) | with_reducible exact fr_rL _ _ (by decide) | with_reducible exact fr_no5 _ _ _ (by decide) | with_reducible exact fr_t (fr_rI _ _ (by decide)) (fr_uI _ (by decide)) | with_reducible exact fr_t (fr_rI _ _ (by decide)) (fr_rI _ _ (by decide)) | with_reducible exact fr_t (fr_rI _ _ (by decide)) (fr_rL _ _ (by decide))
theorem fr_height (a : Int32) (b : Int32) (hp : HP) : frC hp (F_height a b hp).2 := by
  unfold F_height 
  repeat' split
  all_goals (try dsimp only)
  all_goals first | with_reducible exact fr_r _ | with_reducible exact fr_no _ _ | with_reducible exact fr_noL _ _ | with_reducible exact fr_uI _ (by decide) | with_reducible exact fr_uL _ (by decide) | with_reducible exact fr_rI _ _ (by decide) | with_reducible exact fr_rL _ _ (by decide) | with_reducible exact fr_no5 _ _ _ (by decide) | with_reducible exact fr_t (fr_rI _ _ (by decide)) (fr_uI _ (by decide)) | with_reducible exact fr_t (fr_rI _ _ (by decide)) (fr_rI _ _ (by decide)) | with_reducible exact fr_t (fr_rI _ _ (by decide)) (fr_rL _ _ (by decide))
theorem fr_mark (a : Int32) (b : Int32) (c : Int32) (hp : HP) : frC hp (F_mark a b c hp).2 := by
  unfold F_mark 
  repeat' split
  all_goals (try dsimp only)
  all_goals first | with_reducible exact fr_r _ | with_reducible exact fr_no _ _ | with_reducible exact fr_noL _ _ | with_reducible exact fr_uI _ (by decide) | with_reducible exact fr_uL _ (by decide) | with_reducible exact fr_rI _ _ (by decide) | with_reducible exact fr_rL _ _ (by decide) | with_reducible exact fr_no5 _ _ _ (by decide) | with_reducible exact fr_t (fr_rI _ _ (by decide)) (fr_uI _ (by decide)) | with_reducible exact fr_t (fr_rI _ _ (by decide)) (fr_rI _ _ (by decide)) | with_reducible exact fr_t (fr_rI _ _ (by decide)) (fr_rL _ _ (by decide))
theorem fr_squareOf (a : Int32) (b : Int32) (hp : HP) : frC hp (F_squareOf a b hp).2 := by
  unfold F_squareOf 
  repeat' split
  all_goals (try dsimp only)
  all_goals first | with_reducible exact fr_r _ | with_reducible exact fr_no _ _ | with_reducible exact fr_noL _ _ | with_reducible exact fr_uI _ (by decide) | with_reducible exact fr_uL _ (by decide) | with_reducible exact fr_rI _ _ (by decide) | with_reducible exact fr_rL _ _ (by decide) | with_reducible exact fr_no5 _ _ _ (by decide) | with_reducible exact fr_t (fr_rI _ _ (by decide)) (fr_uI _ (by decide)) | with_reducible exact fr_t (fr_rI _ _ (by decide)) (fr_rI _ _ (by decide)) | with_reducible exact fr_t (fr_rI _ _ (by decide)) (fr_rL _ _ (by decide))
theorem fr_moon (a : Int32) (hp : HP) : frC hp (F_moon a hp).2 := by
  unfold F_moon 
  repeat' split
  all_goals (try dsimp only)
  all_goals first | with_reducible exact fr_r _ | with_reducible exact fr_no _ _ | with_reducible exact fr_noL _ _ | with_reducible exact fr_uI _ (by decide) | with_reducible exact fr_uL _ (by decide) | with_reducible exact fr_rI _ _ (by decide) | with_reducible exact fr_rL _ _ (by decide) | with_reducible exact fr_no5 _ _ _ (by decide) | with_reducible exact fr_t (fr_rI _ _ (by decide)) (fr_uI _ (by decide)) | with_reducible exact fr_t (fr_rI _ _ (by decide)) (fr_rI _ _ (by decide)) | with_reducible exact fr_t (fr_rI _ _ (by decide)) (fr_rL _ _ (by decide))
theorem fr_round (a : Int32) (hp : HP) : frC hp (F_round a hp).2 := by
  unfold F_round 
  repeat' split
  all_goals (try dsimp only)
  all_goals first | with_reducible exact fr_r _ | with_reducible exact fr_no _ _ | with_reducible exact fr_noL _ _ | with_reducible exact fr_uI _ (by decide) | with_reducible exact fr_uL _ (by decide) | with_reducible exact fr_rI _ _ (by decide) | with_reducible exact fr_rL _ _ (by decide) | with_reducible exact fr_no5 _ _ _ (by decide) | with_reducible exact fr_t (fr_rI _ _ (by decide)) (fr_uI _ (by decide)) | with_reducible exact fr_t (fr_rI _ _ (by decide)) (fr_rI _ _ (by decide)) | with_reducible exact fr_t (fr_rI _ _ (by decide)) (fr_rL _ _ (by decide))
theorem fr_rest  (hp : HP) : frC hp (F_rest  hp).2 := by
  unfold F_rest 
  repeat' split
  all_goals (try dsimp only)
  all_goals first | with_reducible exact fr_r _ | with_reducible exact fr_no _ _ | with_reducible exact fr_noL _ _ | with_reducible exact fr_uI _ (by decide) | with_reducible exact fr_uL _ (by decide) | with_reducible exact fr_rI _ _ (by decide) | with_reducible exact fr_rL _ _ (by decide) | with_reducible exact fr_no5 _ _ _ (by decide) | with_reducible exact fr_t (fr_rI _ _ (by decide)) (fr_uI _ (by decide)) | with_reducible exact fr_t (fr_rI _ _ (by decide)) (fr_rI _ _ (by decide)) | with_reducible exact fr_t (fr_rI _ _ (by decide)) (fr_rL _ _ (by decide))
theorem fr_walker (a : Int32) (b : Int32) (c : Int32) (hp : HP) : frC hp (F_walker a b c hp).2 := by
  unfold F_walker 
  repeat' split
  all_goals (try dsimp only)
  all_goals first | with_reducible exact fr_r _ | with_reducible exact fr_no _ _ | with_reducible exact fr_noL _ _ | with_reducible exact fr_uI _ (by decide) | with_reducible exact fr_uL _ (by decide) | with_reducible exact fr_rI _ _ (by decide) | with_reducible exact fr_rL _ _ (by decide) | with_reducible exact fr_no5 _ _ _ (by decide) | with_reducible exact fr_t (fr_rI _ _ (by decide)) (fr_uI _ (by decide)) | with_reducible exact fr_t (fr_rI _ _ (by decide)) (fr_rI _ _ (by decide)) | with_reducible exact fr_t (fr_rI _ _ (by decide)) (fr_rL _ _ (by decide))
theorem fr_of (a : Int32) (b : Int32) (hp : HP) : frC hp (F_of a b hp).2 := by
  unfold F_of 
  repeat' split
  all_goals (try dsimp only)
  all_goals first | with_reducible exact fr_r _ | with_reducible exact fr_no _ _ | with_reducible exact fr_noL _ _ | with_reducible exact fr_uI _ (by decide) | with_reducible exact fr_uL _ (by decide) | with_reducible exact fr_rI _ _ (by decide) | with_reducible exact fr_rL _ _ (by decide) | with_reducible exact fr_no5 _ _ _ (by decide) | with_reducible exact fr_t (fr_rI _ _ (by decide)) (fr_uI _ (by decide)) | with_reducible exact fr_t (fr_rI _ _ (by decide)) (fr_rI _ _ (by decide)) | with_reducible exact fr_t (fr_rI _ _ (by decide)) (fr_rL _ _ (by decide))
theorem fr_set (a : Int32) (b : Int32) (c : Int32) (hp : HP) : frC hp (F_set a b c hp).2 := by
  unfold F_set 
  repeat' split
  all_goals (try dsimp only)
  all_goals first | with_reducible exact fr_r _ | with_reducible exact fr_no _ _ | with_reducible exact fr_noL _ _ | with_reducible exact fr_uI _ (by decide) | with_reducible exact fr_uL _ (by decide) | with_reducible exact fr_rI _ _ (by decide) | with_reducible exact fr_rL _ _ (by decide) | with_reducible exact fr_no5 _ _ _ (by decide) | with_reducible exact fr_t (fr_rI _ _ (by decide)) (fr_uI _ (by decide)) | with_reducible exact fr_t (fr_rI _ _ (by decide)) (fr_rI _ _ (by decide)) | with_reducible exact fr_t (fr_rI _ _ (by decide)) (fr_rL _ _ (by decide))
theorem fr_wake (a : Int32) (b : Int32) (hp : HP) : frC hp (F_wake a b hp).2 := by
  unfold F_wake 
  repeat' split
  all_goals (try dsimp only)
  all_goals first | with_reducible exact fr_r _ | with_reducible exact fr_no _ _ | with_reducible exact fr_noL _ _ | with_reducible exact fr_uI _ (by decide) | with_reducible exact fr_uL _ (by decide) | with_reducible exact fr_rI _ _ (by decide) | with_reducible exact fr_rL _ _ (by decide) | with_reducible exact fr_no5 _ _ _ (by decide) | with_reducible exact fr_t (fr_rI _ _ (by decide)) (fr_uI _ (by decide)) | with_reducible exact fr_t (fr_rI _ _ (by decide)) (fr_rI _ _ (by decide)) | with_reducible exact fr_t (fr_rI _ _ (by decide)) (fr_rL _ _ (by decide))
theorem fr_turn (a : Int32) (b : Int32) (hp : HP) : frC hp (F_turn a b hp).2 := by
  unfold F_turn 
  repeat' split
  all_goals (try dsimp only)
  all_goals first | with_reducible exact fr_r _ | with_reducible exact fr_no _ _ | with_reducible exact fr_noL _ _ | with_reducible exact fr_uI _ (by decide) | with_reducible exact fr_uL _ (by decide) | with_reducible exact fr_rI _ _ (by decide) | with_reducible exact fr_rL _ _ (by decide) | with_reducible exact fr_no5 _ _ _ (by decide) | with_reducible exact fr_t (fr_rI _ _ (by decide)) (fr_uI _ (by decide)) | with_reducible exact fr_t (fr_rI _ _ (by decide)) (fr_rI _ _ (by decide)) | with_reducible exact fr_t (fr_rI _ _ (by decide)) (fr_rL _ _ (by decide))
theorem fr_as (a : Int32) (b : Int32) (hp : HP) : frC hp (F_as a b hp).2 := by
  unfold F_as 
  repeat' split
  all_goals (try dsimp only)
  all_goals first | with_reducible exact fr_r _ | with_reducible exact fr_no _ _ | with_reducible exact fr_noL _ _ | with_reducible exact fr_uI _ (by decide) | with_reducible exact fr_uL _ (by decide) | with_reducible exact fr_rI _ _ (by decide) | with_reducible exact fr_rL _ _ (by decide) | with_reducible exact fr_no5 _ _ _ (by decide) | with_reducible exact fr_t (fr_rI _ _ (by decide)) (fr_uI _ (by decide)) | with_reducible exact fr_t (fr_rI _ _ (by decide)) (fr_rI _ _ (by decide)) | with_reducible exact fr_t (fr_rI _ _ (by decide)) (fr_rL _ _ (by decide))
theorem fr_step (a : Int32) (hp : HP) : frC hp (F_step a hp).2 := by
  unfold F_step 
  repeat' split
  all_goals (try dsimp only)
  all_goals first | with_reducible exact fr_r _ | with_reducible exact fr_no _ _ | with_reducible exact fr_noL _ _ | with_reducible exact fr_uI _ (by decide) | with_reducible exact fr_uL _ (by decide) | with_reducible exact fr_rI _ _ (by decide) | with_reducible exact fr_rL _ _ (by decide) | with_reducible exact fr_no5 _ _ _ (by decide) | with_reducible exact fr_t (fr_rI _ _ (by decide)) (fr_uI _ (by decide)) | with_reducible exact fr_t (fr_rI _ _ (by decide)) (fr_rI _ _ (by decide)) | with_reducible exact fr_t (fr_rI _ _ (by decide)) (fr_rL _ _ (by decide))
theorem fr_minutes (a : Int32) (hp : HP) : frC hp (F_minutes a hp).2 := by
  unfold F_minutes 
  repeat' split
  all_goals (try dsimp only)
  all_goals first | with_reducible exact fr_r _ | with_reducible exact fr_no _ _ | with_reducible exact fr_noL _ _ | with_reducible exact fr_uI _ (by decide) | with_reducible exact fr_uL _ (by decide) | with_reducible exact fr_rI _ _ (by decide) | with_reducible exact fr_rL _ _ (by decide) | with_reducible exact fr_no5 _ _ _ (by decide) | with_reducible exact fr_t (fr_rI _ _ (by decide)) (fr_uI _ (by decide)) | with_reducible exact fr_t (fr_rI _ _ (by decide)) (fr_rI _ _ (by decide)) | with_reducible exact fr_t (fr_rI _ _ (by decide)) (fr_rL _ _ (by decide))
theorem fr_bed  (hp : HP) : frC hp (F_bed  hp).2 := by
  unfold F_bed 
  repeat' split
  all_goals (try dsimp only)
  all_goals first | with_reducible exact fr_r _ | with_reducible exact fr_no _ _ | with_reducible exact fr_noL _ _ | with_reducible exact fr_uI _ (by decide) | with_reducible exact fr_uL _ (by decide) | with_reducible exact fr_rI _ _ (by decide) | with_reducible exact fr_rL _ _ (by decide) | with_reducible exact fr_no5 _ _ _ (by decide) | with_reducible exact fr_t (fr_rI _ _ (by decide)) (fr_uI _ (by decide)) | with_reducible exact fr_t (fr_rI _ _ (by decide)) (fr_rI _ _ (by decide)) | with_reducible exact fr_t (fr_rI _ _ (by decide)) (fr_rL _ _ (by decide))
theorem fr_seed (a : Int32) (hp : HP) : frC hp (F_seed a hp).2 := by
  unfold F_seed 
  repeat' split
  all_goals (try dsimp only)
  all_goals first | with_reducible exact fr_r _ | with_reducible exact fr_no _ _ | with_reducible exact fr_noL _ _ | with_reducible exact fr_uI _ (by decide) | with_reducible exact fr_uL _ (by decide) | with_reducible exact fr_rI _ _ (by decide) | with_reducible exact fr_rL _ _ (by decide) | with_reducible exact fr_no5 _ _ _ (by decide) | with_reducible exact fr_t (fr_rI _ _ (by decide)) (fr_uI _ (by decide)) | with_reducible exact fr_t (fr_rI _ _ (by decide)) (fr_rI _ _ (by decide)) | with_reducible exact fr_t (fr_rI _ _ (by decide)) (fr_rL _ _ (by decide))
theorem fr_now (a : Int32) (hp : HP) : frC hp (F_now a hp).2 := by
  unfold F_now 
  repeat' split
  all_goals (try dsimp only)
  all_goals first | with_reducible exact fr_r _ | with_reducible exact fr_no _ _ | with_reducible exact fr_noL _ _ | with_reducible exact fr_uI _ (by decide) | with_reducible exact fr_uL _ (by decide) | with_reducible exact fr_rI _ _ (by decide) | with_reducible exact fr_rL _ _ (by decide) | with_reducible exact fr_no5 _ _ _ (by decide) | with_reducible exact fr_t (fr_rI _ _ (by decide)) (fr_uI _ (by decide)) | with_reducible exact fr_t (fr_rI _ _ (by decide)) (fr_rI _ _ (by decide)) | with_reducible exact fr_t (fr_rI _ _ (by decide)) (fr_rL _ _ (by decide))
theorem fr_on (a : Int32) (b : Int32) (hp : HP) : frC hp (F_on a b hp).2 := by
  unfold F_on 
  repeat' split
  all_goals (try dsimp only)
  all_goals first | with_reducible exact fr_r _ | with_reducible exact fr_no _ _ | with_reducible exact fr_noL _ _ | with_reducible exact fr_uI _ (by decide) | with_reducible exact fr_uL _ (by decide) | with_reducible exact fr_rI _ _ (by decide) | with_reducible exact fr_rL _ _ (by decide) | with_reducible exact fr_no5 _ _ _ (by decide) | with_reducible exact fr_t (fr_rI _ _ (by decide)) (fr_uI _ (by decide)) | with_reducible exact fr_t (fr_rI _ _ (by decide)) (fr_rI _ _ (by decide)) | with_reducible exact fr_t (fr_rI _ _ (by decide)) (fr_rL _ _ (by decide))
theorem fr_river (a : Int32) (hp : HP) : frC hp (F_river a hp).2 := by
  unfold F_river F_soon snR
  repeat' split
  all_goals (try dsimp only)
  all_goals first | with_reducible exact fr_r _ | with_reducible exact fr_no _ _ | with_reducible exact fr_noL _ _ | with_reducible exact fr_uI _ (by decide) | with_reducible exact fr_uL _ (by decide) | with_reducible exact fr_rI _ _ (by decide) | with_reducible exact fr_rL _ _ (by decide) | with_reducible exact fr_no5 _ _ _ (by decide) | with_reducible exact fr_t (fr_rI _ _ (by decide)) (fr_uI _ (by decide)) | with_reducible exact fr_t (fr_rI _ _ (by decide)) (fr_rI _ _ (by decide)) | with_reducible exact fr_t (fr_rI _ _ (by decide)) (fr_rL _ _ (by decide))
theorem fr_meet (a : Int32) (b : Int32) (hp : HP) : frC hp (F_meet a b hp).2 := by
  unfold F_meet F_soon snR
  repeat' split
  all_goals (try dsimp only)
  all_goals first | with_reducible exact fr_r _ | with_reducible exact fr_no _ _ | with_reducible exact fr_noL _ _ | with_reducible exact fr_uI _ (by decide) | with_reducible exact fr_uL _ (by decide) | with_reducible exact fr_rI _ _ (by decide) | with_reducible exact fr_rL _ _ (by decide) | with_reducible exact fr_no5 _ _ _ (by decide) | with_reducible exact fr_t (fr_rI _ _ (by decide)) (fr_uI _ (by decide)) | with_reducible exact fr_t (fr_rI _ _ (by decide)) (fr_rI _ _ (by decide)) | with_reducible exact fr_t (fr_rI _ _ (by decide)) (fr_rL _ _ (by decide))
theorem fr_home (a : Int32) (hp : HP) : frC hp (F_home a hp).2 := by
  unfold F_home F_soon snR
  repeat' split
  all_goals (try dsimp only)
  all_goals first | with_reducible exact fr_r _ | with_reducible exact fr_no _ _ | with_reducible exact fr_noL _ _ | with_reducible exact fr_uI _ (by decide) | with_reducible exact fr_uL _ (by decide) | with_reducible exact fr_rI _ _ (by decide) | with_reducible exact fr_rL _ _ (by decide) | with_reducible exact fr_no5 _ _ _ (by decide) | with_reducible exact fr_t (fr_rI _ _ (by decide)) (fr_uI _ (by decide)) | with_reducible exact fr_t (fr_rI _ _ (by decide)) (fr_rI _ _ (by decide)) | with_reducible exact fr_t (fr_rI _ _ (by decide)) (fr_rL _ _ (by decide))
theorem fr_safe (a : Int32) (hp : HP) : frC hp (F_safe a hp).2 := by
  unfold F_safe 
  repeat' split
  all_goals (try dsimp only)
  all_goals first | with_reducible exact fr_r _ | with_reducible exact fr_no _ _ | with_reducible exact fr_noL _ _ | with_reducible exact fr_uI _ (by decide) | with_reducible exact fr_uL _ (by decide) | with_reducible exact fr_rI _ _ (by decide) | with_reducible exact fr_rL _ _ (by decide) | with_reducible exact fr_no5 _ _ _ (by decide) | with_reducible exact fr_t (fr_rI _ _ (by decide)) (fr_uI _ (by decide)) | with_reducible exact fr_t (fr_rI _ _ (by decide)) (fr_rI _ _ (by decide)) | with_reducible exact fr_t (fr_rI _ _ (by decide)) (fr_rL _ _ (by decide))
theorem fr_barred (a : Int32) (b : Int32) (hp : HP) : frC hp (F_barred a b hp).2 := by
  unfold F_barred 
  repeat' split
  all_goals (try dsimp only)
  all_goals first | with_reducible exact fr_r _ | with_reducible exact fr_no _ _ | with_reducible exact fr_noL _ _ | with_reducible exact fr_uI _ (by decide) | with_reducible exact fr_uL _ (by decide) | with_reducible exact fr_rI _ _ (by decide) | with_reducible exact fr_rL _ _ (by decide) | with_reducible exact fr_no5 _ _ _ (by decide) | with_reducible exact fr_t (fr_rI _ _ (by decide)) (fr_uI _ (by decide)) | with_reducible exact fr_t (fr_rI _ _ (by decide)) (fr_rI _ _ (by decide)) | with_reducible exact fr_t (fr_rI _ _ (by decide)) (fr_rL _ _ (by decide))
theorem fr_lamp (a : Int32) (hp : HP) : frC hp (F_lamp a hp).2 := by
  unfold F_lamp 
  repeat' split
  all_goals (try dsimp only)
  all_goals first | with_reducible exact fr_r _ | with_reducible exact fr_no _ _ | with_reducible exact fr_noL _ _ | with_reducible exact fr_uI _ (by decide) | with_reducible exact fr_uL _ (by decide) | with_reducible exact fr_rI _ _ (by decide) | with_reducible exact fr_rL _ _ (by decide) | with_reducible exact fr_no5 _ _ _ (by decide) | with_reducible exact fr_t (fr_rI _ _ (by decide)) (fr_uI _ (by decide)) | with_reducible exact fr_t (fr_rI _ _ (by decide)) (fr_rI _ _ (by decide)) | with_reducible exact fr_t (fr_rI _ _ (by decide)) (fr_rL _ _ (by decide))
theorem fr_watch (a : Int32) (hp : HP) : frC hp (F_watch a hp).2 := by
  unfold F_watch 
  repeat' split
  all_goals (try dsimp only)
  all_goals first | with_reducible exact fr_r _ | with_reducible exact fr_no _ _ | with_reducible exact fr_noL _ _ | with_reducible exact fr_uI _ (by decide) | with_reducible exact fr_uL _ (by decide) | with_reducible exact fr_rI _ _ (by decide) | with_reducible exact fr_rL _ _ (by decide) | with_reducible exact fr_no5 _ _ _ (by decide) | with_reducible exact fr_t (fr_rI _ _ (by decide)) (fr_uI _ (by decide)) | with_reducible exact fr_t (fr_rI _ _ (by decide)) (fr_rI _ _ (by decide)) | with_reducible exact fr_t (fr_rI _ _ (by decide)) (fr_rL _ _ (by decide))
theorem fr_loop (a : Int32) (hp : HP) : frC hp (F_loop a hp).2 := by
  unfold F_loop lpR
  repeat' split
  all_goals (try dsimp only)
  all_goals first | with_reducible exact fr_r _ | with_reducible exact fr_no _ _ | with_reducible exact fr_noL _ _ | with_reducible exact fr_uI _ (by decide) | with_reducible exact fr_uL _ (by decide) | with_reducible exact fr_rI _ _ (by decide) | with_reducible exact fr_rL _ _ (by decide) | with_reducible exact fr_no5 _ _ _ (by decide) | with_reducible exact fr_t (fr_rI _ _ (by decide)) (fr_uI _ (by decide)) | with_reducible exact fr_t (fr_rI _ _ (by decide)) (fr_rI _ _ (by decide)) | with_reducible exact fr_t (fr_rI _ _ (by decide)) (fr_rL _ _ (by decide))
theorem fr_odds (a : Int32) (b : Int32) (c : Int32) (hp : HP) : frC hp (F_odds a b c hp).2 := by
  unfold F_odds 
  repeat' split
  all_goals (try dsimp only)
  all_goals first | with_reducible exact fr_r _ | with_reducible exact fr_no _ _ | with_reducible exact fr_noL _ _ | with_reducible exact fr_uI _ (by decide) | with_reducible exact fr_uL _ (by decide) | with_reducible exact fr_rI _ _ (by decide) | with_reducible exact fr_rL _ _ (by decide) | with_reducible exact fr_no5 _ _ _ (by decide) | with_reducible exact fr_t (fr_rI _ _ (by decide)) (fr_uI _ (by decide)) | with_reducible exact fr_t (fr_rI _ _ (by decide)) (fr_rI _ _ (by decide)) | with_reducible exact fr_t (fr_rI _ _ (by decide)) (fr_rL _ _ (by decide))
theorem fr_likeliest (a : Int32) (b : Int32) (hp : HP) : frC hp (F_likely a b hp).2 := by
  unfold F_likely 
  repeat' split
  all_goals (try dsimp only)
  all_goals first | with_reducible exact fr_r _ | with_reducible exact fr_no _ _ | with_reducible exact fr_noL _ _ | with_reducible exact fr_uI _ (by decide) | with_reducible exact fr_uL _ (by decide) | with_reducible exact fr_rI _ _ (by decide) | with_reducible exact fr_rL _ _ (by decide) | with_reducible exact fr_no5 _ _ _ (by decide) | with_reducible exact fr_t (fr_rI _ _ (by decide)) (fr_uI _ (by decide)) | with_reducible exact fr_t (fr_rI _ _ (by decide)) (fr_rI _ _ (by decide)) | with_reducible exact fr_t (fr_rI _ _ (by decide)) (fr_rL _ _ (by decide))
theorem fr_feed (a : Int32) (b : Int32) (hp : HP) : frC hp (F_feed a b hp).2 := by
  unfold F_feed 
  repeat' split
  all_goals (try dsimp only)
  all_goals first | with_reducible exact fr_r _ | with_reducible exact fr_no _ _ | with_reducible exact fr_noL _ _ | with_reducible exact fr_uI _ (by decide) | with_reducible exact fr_uL _ (by decide) | with_reducible exact fr_rI _ _ (by decide) | with_reducible exact fr_rL _ _ (by decide) | with_reducible exact fr_no5 _ _ _ (by decide) | with_reducible exact fr_t (fr_rI _ _ (by decide)) (fr_uI _ (by decide)) | with_reducible exact fr_t (fr_rI _ _ (by decide)) (fr_rI _ _ (by decide)) | with_reducible exact fr_t (fr_rI _ _ (by decide)) (fr_rL _ _ (by decide))
theorem fr_wipe  (hp : HP) : frC hp (F_wipe  hp).2 := by
  unfold F_wipe 
  repeat' split
  all_goals (try dsimp only)
  all_goals first | with_reducible exact fr_r _ | with_reducible exact fr_no _ _ | with_reducible exact fr_noL _ _ | with_reducible exact fr_uI _ (by decide) | with_reducible exact fr_uL _ (by decide) | with_reducible exact fr_rI _ _ (by decide) | with_reducible exact fr_rL _ _ (by decide) | with_reducible exact fr_no5 _ _ _ (by decide) | with_reducible exact fr_t (fr_rI _ _ (by decide)) (fr_uI _ (by decide)) | with_reducible exact fr_t (fr_rI _ _ (by decide)) (fr_rI _ _ (by decide)) | with_reducible exact fr_t (fr_rI _ _ (by decide)) (fr_rL _ _ (by decide))
theorem fr_sheet (a : Int32) (b : Int32) (c : Int32) (hp : HP) : frC hp (F_sheet a b c hp).2 := by
  unfold F_sheet
  repeat' split
  all_goals (try dsimp only)
  all_goals first | with_reducible exact fr_r _ | with_reducible exact fr_no _ _ | with_reducible exact fr_noL _ _ | with_reducible exact fr_uI _ (by decide) | with_reducible exact fr_uL _ (by decide) | with_reducible exact fr_rI _ _ (by decide) | with_reducible exact fr_rL _ _ (by decide) | with_reducible exact fr_no5 _ _ _ (by decide) | with_reducible exact fr_t (fr_rI _ _ (by decide)) (fr_uI _ (by decide)) | with_reducible exact fr_t (fr_rI _ _ (by decide)) (fr_rI _ _ (by decide)) | with_reducible exact fr_t (fr_rI _ _ (by decide)) (fr_rL _ _ (by decide)) | (unfold shH; with_reducible exact fr_t (fr_t (fr_rI _ _ (by decide)) (fr_rI _ _ (by decide))) (fr_rL _ _ (by decide)))
theorem fr_write (a : Int32) (b : Int32) (c : Int64) (hp : HP) : frC hp (F_write a b c hp).2 := by
  unfold F_write 
  repeat' split
  all_goals (try dsimp only)
  all_goals first | with_reducible exact fr_r _ | with_reducible exact fr_no _ _ | with_reducible exact fr_noL _ _ | with_reducible exact fr_uI _ (by decide) | with_reducible exact fr_uL _ (by decide) | with_reducible exact fr_rI _ _ (by decide) | with_reducible exact fr_rL _ _ (by decide) | with_reducible exact fr_no5 _ _ _ (by decide) | with_reducible exact fr_t (fr_rI _ _ (by decide)) (fr_uI _ (by decide)) | with_reducible exact fr_t (fr_rI _ _ (by decide)) (fr_rI _ _ (by decide)) | with_reducible exact fr_t (fr_rI _ _ (by decide)) (fr_rL _ _ (by decide))
theorem fr_copy (a : Int32) (b : Int32) (c : Int32) (d : Int32) (e : Int32) (hp : HP) : frC hp (F_copy a b c d e hp).2 := by
  unfold F_copy 
  repeat' split
  all_goals (try dsimp only)
  all_goals first | with_reducible exact fr_r _ | with_reducible exact fr_no _ _ | with_reducible exact fr_noL _ _ | with_reducible exact fr_uI _ (by decide) | with_reducible exact fr_uL _ (by decide) | with_reducible exact fr_rI _ _ (by decide) | with_reducible exact fr_rL _ _ (by decide) | with_reducible exact fr_no5 _ _ _ (by decide) | with_reducible exact fr_t (fr_rI _ _ (by decide)) (fr_uI _ (by decide)) | with_reducible exact fr_t (fr_rI _ _ (by decide)) (fr_rI _ _ (by decide)) | with_reducible exact fr_t (fr_rI _ _ (by decide)) (fr_rL _ _ (by decide))
theorem fr_lays (a : Int32) (hp : HP) : frC hp (F_lays a hp).2 := by
  unfold F_lays 
  repeat' split
  all_goals (try dsimp only)
  all_goals first | with_reducible exact fr_r _ | with_reducible exact fr_no _ _ | with_reducible exact fr_noL _ _ | with_reducible exact fr_uI _ (by decide) | with_reducible exact fr_uL _ (by decide) | with_reducible exact fr_rI _ _ (by decide) | with_reducible exact fr_rL _ _ (by decide) | with_reducible exact fr_no5 _ _ _ (by decide) | with_reducible exact fr_t (fr_rI _ _ (by decide)) (fr_uI _ (by decide)) | with_reducible exact fr_t (fr_rI _ _ (by decide)) (fr_rI _ _ (by decide)) | with_reducible exact fr_t (fr_rI _ _ (by decide)) (fr_rL _ _ (by decide))
theorem fr_track (a : Int32) (b : Int32) (hp : HP) : frC hp (F_track a b hp).2 := by
  unfold F_track 
  repeat' split
  all_goals (try dsimp only)
  all_goals first | with_reducible exact fr_r _ | with_reducible exact fr_no _ _ | with_reducible exact fr_noL _ _ | with_reducible exact fr_uI _ (by decide) | with_reducible exact fr_uL _ (by decide) | with_reducible exact fr_rI _ _ (by decide) | with_reducible exact fr_rL _ _ (by decide) | with_reducible exact fr_no5 _ _ _ (by decide) | with_reducible exact fr_t (fr_rI _ _ (by decide)) (fr_uI _ (by decide)) | with_reducible exact fr_t (fr_rI _ _ (by decide)) (fr_rI _ _ (by decide)) | with_reducible exact fr_t (fr_rI _ _ (by decide)) (fr_rL _ _ (by decide))
theorem fr_whose (a : Int32) (hp : HP) : frC hp (F_whose a hp).2 := by
  unfold F_whose whR
  repeat' split
  all_goals (try dsimp only)
  all_goals first | with_reducible exact fr_r _ | with_reducible exact fr_no _ _ | with_reducible exact fr_noL _ _ | with_reducible exact fr_uI _ (by decide) | with_reducible exact fr_uL _ (by decide) | with_reducible exact fr_rI _ _ (by decide) | with_reducible exact fr_rL _ _ (by decide) | with_reducible exact fr_no5 _ _ _ (by decide) | with_reducible exact fr_t (fr_rI _ _ (by decide)) (fr_uI _ (by decide)) | with_reducible exact fr_t (fr_rI _ _ (by decide)) (fr_rI _ _ (by decide)) | with_reducible exact fr_t (fr_rI _ _ (by decide)) (fr_rL _ _ (by decide))
theorem fr_image  (hp : HP) : frC hp (F_image  hp).2 := by
  unfold F_image 
  repeat' split
  all_goals (try dsimp only)
  all_goals first | with_reducible exact fr_r _ | with_reducible exact fr_no _ _ | with_reducible exact fr_noL _ _ | with_reducible exact fr_uI _ (by decide) | with_reducible exact fr_uL _ (by decide) | with_reducible exact fr_rI _ _ (by decide) | with_reducible exact fr_rL _ _ (by decide) | with_reducible exact fr_no5 _ _ _ (by decide) | with_reducible exact fr_t (fr_rI _ _ (by decide)) (fr_uI _ (by decide)) | with_reducible exact fr_t (fr_rI _ _ (by decide)) (fr_rI _ _ (by decide)) | with_reducible exact fr_t (fr_rI _ _ (by decide)) (fr_rL _ _ (by decide))
theorem fr_undo  (hp : HP) : frC hp (F_undo  hp).2 := by
  unfold F_undo 
  repeat' split
  all_goals (try dsimp only)
  all_goals first | with_reducible exact fr_r _ | with_reducible exact fr_no _ _ | with_reducible exact fr_noL _ _ | with_reducible exact fr_uI _ (by decide) | with_reducible exact fr_uL _ (by decide) | with_reducible exact fr_rI _ _ (by decide) | with_reducible exact fr_rL _ _ (by decide) | with_reducible exact fr_no5 _ _ _ (by decide) | with_reducible exact fr_t (fr_rI _ _ (by decide)) (fr_uI _ (by decide)) | with_reducible exact fr_t (fr_rI _ _ (by decide)) (fr_rI _ _ (by decide)) | with_reducible exact fr_t (fr_rI _ _ (by decide)) (fr_rL _ _ (by decide))
theorem fr_tear  (hp : HP) : frC hp (F_tear  hp).2 := by
  unfold F_tear 
  repeat' split
  all_goals (try dsimp only)
  all_goals first | with_reducible exact fr_r _ | with_reducible exact fr_no _ _ | with_reducible exact fr_noL _ _ | with_reducible exact fr_uI _ (by decide) | with_reducible exact fr_uL _ (by decide) | with_reducible exact fr_rI _ _ (by decide) | with_reducible exact fr_rL _ _ (by decide) | with_reducible exact fr_no5 _ _ _ (by decide) | with_reducible exact fr_t (fr_rI _ _ (by decide)) (fr_uI _ (by decide)) | with_reducible exact fr_t (fr_rI _ _ (by decide)) (fr_rI _ _ (by decide)) | with_reducible exact fr_t (fr_rI _ _ (by decide)) (fr_rL _ _ (by decide))
theorem fr_count (a : Int32) (hp : HP) : frC hp (F_count a hp).2 := by
  unfold F_count 
  repeat' split
  all_goals (try dsimp only)
  all_goals first | with_reducible exact fr_r _ | with_reducible exact fr_no _ _ | with_reducible exact fr_noL _ _ | with_reducible exact fr_uI _ (by decide) | with_reducible exact fr_uL _ (by decide) | with_reducible exact fr_rI _ _ (by decide) | with_reducible exact fr_rL _ _ (by decide) | with_reducible exact fr_no5 _ _ _ (by decide) | with_reducible exact fr_t (fr_rI _ _ (by decide)) (fr_uI _ (by decide)) | with_reducible exact fr_t (fr_rI _ _ (by decide)) (fr_rI _ _ (by decide)) | with_reducible exact fr_t (fr_rI _ _ (by decide)) (fr_rL _ _ (by decide))
theorem fr_status (a : Int32) (hp : HP) : frC hp (F_status a hp).2 := by
  unfold F_status 
  repeat' split
  all_goals (try dsimp only)
  all_goals first | with_reducible exact fr_r _ | with_reducible exact fr_no _ _ | with_reducible exact fr_noL _ _ | with_reducible exact fr_uI _ (by decide) | with_reducible exact fr_uL _ (by decide) | with_reducible exact fr_rI _ _ (by decide) | with_reducible exact fr_rL _ _ (by decide) | with_reducible exact fr_no5 _ _ _ (by decide) | with_reducible exact fr_t (fr_rI _ _ (by decide)) (fr_uI _ (by decide)) | with_reducible exact fr_t (fr_rI _ _ (by decide)) (fr_rI _ _ (by decide)) | with_reducible exact fr_t (fr_rI _ _ (by decide)) (fr_rL _ _ (by decide))
