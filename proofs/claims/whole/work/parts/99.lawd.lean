theorem fr_ward (hp : HP) (o : Nat → Int32) : frC hp (ob (rI hp 56 (hp.1 53)) (F_ward hp).2 o) := fr_t (fr_rI hp _ (by decide)) (fr_t (fr_rI _ _ (by decide)) (fr_rI _ _ (by decide)))
theorem qm_ward (hp : HP) (o : Nat → Int32) (ho : o 11 = nI 0) (hs : sm9 (hp.1 52) o) : qm (G_ward hp).2 (ob (rI hp 56 (hp.1 53)) (F_ward hp).2 o) := by
  show qm (ob hp (F_ward hp).2 (upd (hp.1 52) 11 (nI 0))) _
  have e : ∀ c, c ≠ 56 → (rI hp 56 (hp.1 53)).1 c = hp.1 c := fun c h => rI_ne _ _ h
  refine ⟨by rw [ob_53, ob_53], ?_, ?_, ?_, ?_, ?_, rfl, ?_, ?_⟩
  · rw [ob_c _ _ _ (by omega) (by omega), ob_c _ _ _ (by omega) (by omega), e _ (by omega)]
  · rw [ob_c _ _ _ (by omega) (by omega), ob_c _ _ _ (by omega) (by omega), e _ (by omega)]
  · rw [ob_c _ _ _ (by omega) (by omega), ob_c _ _ _ (by omega) (by omega), e _ (by omega)]
  · rw [ob_c _ _ _ (by omega) (by omega), ob_c _ _ _ (by omega) (by omega), e _ (by omega)]
  · rw [ob_c _ _ _ (by omega) (by omega), ob_c _ _ _ (by omega) (by omega), e _ (by omega)]
  · rw [ob_52, ob_52, upd_at, if_neg (by omega)]
    exact hs 4 (by omega) (by omega) (by omega) (by omega)
  · rw [ob_52, ob_52, upd_at, if_pos rfl]
    exact ho
set_option maxRecDepth 100000 in
set_option maxHeartbeats 4000000 in
theorem lc_22 {L : Nat} {xs : Nat → Int32} {G : GP} (hG : Cl P_L_law K_L E_L_law 4 (some .boolean) (some (L, xs)) LQ G) {i : Nat} (hix : ∀ j, j < 6 → vp_in (nI i + nI j) L) (nxt : ∀ hp, RC hp hp → G 1556 [(0, vX 1), (1, vR 0 0), (2, vR 5 52), (3, vI (nI i))] [] hp) (hp : HP) (h : RC hp hp) : G 928 [(0, vX 1), (1, vR 0 0), (2, vR 5 52), (3, vI (nI i))] [] hp := by
  refine run hG [1556] 120 ?_
  refine And.intro (hix 1 (by omega)) ?_
  refine And.intro ⟨hp, h⟩ ?_
  intro v hq hPO
  obtain ⟨rfl, h1, h2⟩ := po_use h hPO
  refine And.intro (hix 1 (by omega)) ?_
  refine And.intro (h1.wf) ?_
  exact And.intro (fun _ => cl_use hG (nxt _ (rc_both h2 (fr_home _ hq))) ⟨rfl, rfl, rfl, rfl, trivial⟩) (fun hne => absurd rfl hne)
set_option maxRecDepth 100000 in
set_option maxHeartbeats 4000000 in
theorem lc_23 {L : Nat} {xs : Nat → Int32} {G : GP} (hG : Cl P_L_law K_L E_L_law 4 (some .boolean) (some (L, xs)) LQ G) {i : Nat} (hix : ∀ j, j < 6 → vp_in (nI i + nI j) L) (nxt : ∀ hp, RC hp hp → G 1556 [(0, vX 1), (1, vR 0 0), (2, vR 5 52), (3, vI (nI i))] [] hp) (hp : HP) (h : RC hp hp) : G 951 [(0, vX 1), (1, vR 0 0), (2, vR 5 52), (3, vI (nI i))] [] hp := by
  refine run hG [1556] 120 ?_
  refine And.intro (hix 1 (by omega)) ?_
  refine And.intro ⟨hp, h⟩ ?_
  intro v hq hPO
  obtain ⟨rfl, h1, h2⟩ := po_use h hPO
  refine And.intro (hix 1 (by omega)) ?_
  refine And.intro (h1.wf) ?_
  exact And.intro (fun _ => cl_use hG (nxt _ (rc_both h2 (fr_safe _ hq))) ⟨rfl, rfl, rfl, rfl, trivial⟩) (fun hne => absurd rfl hne)
set_option maxRecDepth 100000 in
set_option maxHeartbeats 4000000 in
theorem lc_24 {L : Nat} {xs : Nat → Int32} {G : GP} (hG : Cl P_L_law K_L E_L_law 4 (some .boolean) (some (L, xs)) LQ G) {i : Nat} (hix : ∀ j, j < 6 → vp_in (nI i + nI j) L) (nxt : ∀ hp, RC hp hp → G 1556 [(0, vX 1), (1, vR 0 0), (2, vR 5 52), (3, vI (nI i))] [] hp) (hp : HP) (h : RC hp hp) : G 974 [(0, vX 1), (1, vR 0 0), (2, vR 5 52), (3, vI (nI i))] [] hp := by
  refine run hG [1556] 120 ?_
  refine And.intro (hix 1 (by omega)) ?_
  refine And.intro (hix 2 (by omega)) ?_
  refine And.intro ⟨hp, h⟩ ?_
  intro v hq hPO
  obtain ⟨rfl, h1, h2⟩ := po_use h hPO
  refine And.intro (hix 1 (by omega)) ?_
  refine And.intro (hix 2 (by omega)) ?_
  refine And.intro (h1.wf) ?_
  rintro v2 hr ⟨rfl, g, rfl⟩
  refine And.intro (fun _ => cl_use hG (nxt _ (rc_both2 h2 (qm_c _ (Or.inl rfl)) (fr_t (fr_barred _ _ hq) (fr_rI _ _ (by decide))))) ⟨rfl, rfl, rfl, rfl, trivial⟩) (fun hne => absurd rfl hne)
set_option maxRecDepth 100000 in
set_option maxHeartbeats 4000000 in
theorem lc_25 {L : Nat} {xs : Nat → Int32} {G : GP} (hG : Cl P_L_law K_L E_L_law 4 (some .boolean) (some (L, xs)) LQ G) {i : Nat} (hix : ∀ j, j < 6 → vp_in (nI i + nI j) L) (nxt : ∀ hp, RC hp hp → G 1556 [(0, vX 1), (1, vR 0 0), (2, vR 5 52), (3, vI (nI i))] [] hp) (hp : HP) (h : RC hp hp) : G 1007 [(0, vX 1), (1, vR 0 0), (2, vR 5 52), (3, vI (nI i))] [] hp := by
  refine run hG [1556] 120 ?_
  refine And.intro (hix 1 (by omega)) ?_
  refine And.intro ⟨hp, h⟩ ?_
  intro v hq hPO
  obtain ⟨rfl, h1, h2⟩ := po_use h hPO
  refine And.intro (hix 1 (by omega)) ?_
  refine And.intro (h1.wf) ?_
  rintro v2 hr ⟨rfl, g, rfl⟩
  refine And.intro (fun _ => cl_use hG (nxt _ (rc_both2 h2 (qm_c _ (Or.inr (Or.inr (Or.inr rfl)))) (fr_t (fr_lamp _ hq) (fr_rI _ _ (by decide))))) ⟨rfl, rfl, rfl, rfl, trivial⟩) (fun hne => absurd rfl hne)
set_option maxRecDepth 100000 in
set_option maxHeartbeats 4000000 in
theorem lc_26 {L : Nat} {xs : Nat → Int32} {G : GP} (hG : Cl P_L_law K_L E_L_law 4 (some .boolean) (some (L, xs)) LQ G) {i : Nat} (hix : ∀ j, j < 6 → vp_in (nI i + nI j) L) (nxt : ∀ hp, RC hp hp → G 1556 [(0, vX 1), (1, vR 0 0), (2, vR 5 52), (3, vI (nI i))] [] hp) (hp : HP) (h : RC hp hp) : G 1030 [(0, vX 1), (1, vR 0 0), (2, vR 5 52), (3, vI (nI i))] [] hp := by
  refine run hG [1556] 120 ?_
  refine And.intro (hix 1 (by omega)) ?_
  refine And.intro ⟨hp, h⟩ ?_
  intro v hq hPO
  obtain ⟨rfl, h1, h2⟩ := po_use h hPO
  refine And.intro (hix 1 (by omega)) ?_
  refine And.intro (h1.wf) ?_
  exact And.intro (fun _ => cl_use hG (nxt _ (rc_both h2 (fr_watch _ hq))) ⟨rfl, rfl, rfl, rfl, trivial⟩) (fun hne => absurd rfl hne)
set_option maxRecDepth 100000 in
set_option maxHeartbeats 4000000 in
theorem lc_27 {L : Nat} {xs : Nat → Int32} {G : GP} (hG : Cl P_L_law K_L E_L_law 4 (some .boolean) (some (L, xs)) LQ G) {i : Nat} (hix : ∀ j, j < 6 → vp_in (nI i + nI j) L) (nxt : ∀ hp, RC hp hp → G 1556 [(0, vX 1), (1, vR 0 0), (2, vR 5 52), (3, vI (nI i))] [] hp) (hp : HP) (h : RC hp hp) : G 1053 [(0, vX 1), (1, vR 0 0), (2, vR 5 52), (3, vI (nI i))] [] hp := by
  refine run hG [1556] 120 ?_
  refine And.intro (hix 1 (by omega)) ?_
  refine And.intro ⟨hp, h⟩ ?_
  intro v hq hPO
  obtain ⟨rfl, h1, h2⟩ := po_use h hPO
  refine And.intro (hix 1 (by omega)) ?_
  refine And.intro (h1.wf) ?_
  exact And.intro (fun _ => cl_use hG (nxt _ (rc_both h2 (fr_loop _ hq))) ⟨rfl, rfl, rfl, rfl, trivial⟩) (fun hne => absurd rfl hne)
set_option maxRecDepth 100000 in
set_option maxHeartbeats 4000000 in
theorem lc_28 {L : Nat} {xs : Nat → Int32} {G : GP} (hG : Cl P_L_law K_L E_L_law 4 (some .boolean) (some (L, xs)) LQ G) {i : Nat} (hix : ∀ j, j < 6 → vp_in (nI i + nI j) L) (nxt : ∀ hp, RC hp hp → G 1556 [(0, vX 1), (1, vR 0 0), (2, vR 5 52), (3, vI (nI i))] [] hp) (hp : HP) (h : RC hp hp) : G 1076 [(0, vX 1), (1, vR 0 0), (2, vR 5 52), (3, vI (nI i))] [] hp := by
  refine run hG [1556] 120 ?_
  refine And.intro (hix 1 (by omega)) ?_
  refine And.intro (hix 2 (by omega)) ?_
  refine And.intro (hix 3 (by omega)) ?_
  refine And.intro ⟨hp, h⟩ ?_
  intro v hq hPO
  obtain ⟨rfl, h1, h2⟩ := pj_use h hPO
  refine And.intro (hix 1 (by omega)) ?_
  refine And.intro (hix 2 (by omega)) ?_
  refine And.intro (hix 3 (by omega)) ?_
  refine And.intro (h1.wf) ?_
  rintro v2 hr ⟨rfl, g, e, rfl⟩
  refine And.intro (fun _ => cl_use hG (nxt _ (rc_both2 h2 (qm_t (qm_L _ _ (by decide)) (qm_L _ _ (by decide))) (fr_t (fr_odds _ _ _ hq) (fr_t (fr_rL _ _ (by decide)) (fr_rL _ _ (by decide)))))) ⟨rfl, rfl, rfl, rfl, trivial⟩) (fun hne => absurd ((lg_cmp_eq _ _).mpr rfl) hne)
set_option maxRecDepth 100000 in
set_option maxHeartbeats 4000000 in
theorem lc_29 {L : Nat} {xs : Nat → Int32} {G : GP} (hG : Cl P_L_law K_L E_L_law 4 (some .boolean) (some (L, xs)) LQ G) {i : Nat} (hix : ∀ j, j < 6 → vp_in (nI i + nI j) L) (nxt : ∀ hp, RC hp hp → G 1556 [(0, vX 1), (1, vR 0 0), (2, vR 5 52), (3, vI (nI i))] [] hp) (hp : HP) (h : RC hp hp) : G 1120 [(0, vX 1), (1, vR 0 0), (2, vR 5 52), (3, vI (nI i))] [] hp := by
  refine run hG [1556] 120 ?_
  refine And.intro (hix 1 (by omega)) ?_
  refine And.intro (hix 2 (by omega)) ?_
  refine And.intro ⟨hp, h⟩ ?_
  intro v hq hPO
  obtain ⟨rfl, h1, h2⟩ := po_use h hPO
  refine And.intro (hix 1 (by omega)) ?_
  refine And.intro (hix 2 (by omega)) ?_
  refine And.intro (h1.wf) ?_
  rintro v2 hr ⟨rfl, g, e, rfl⟩
  refine And.intro (fun _ => cl_use hG (nxt _ (rc_both2 h2 (qm_t (qm_L _ _ (by decide)) (qm_L _ _ (by decide))) (fr_t (fr_likeliest _ _ hq) (fr_t (fr_rL _ _ (by decide)) (fr_rL _ _ (by decide)))))) ⟨rfl, rfl, rfl, rfl, trivial⟩) (fun hne => absurd rfl hne)
set_option maxRecDepth 100000 in
set_option maxHeartbeats 4000000 in
theorem lc_30 {L : Nat} {xs : Nat → Int32} {G : GP} (hG : Cl P_L_law K_L E_L_law 4 (some .boolean) (some (L, xs)) LQ G) {i : Nat} (hix : ∀ j, j < 6 → vp_in (nI i + nI j) L) (nxt : ∀ hp, RC hp hp → G 1556 [(0, vX 1), (1, vR 0 0), (2, vR 5 52), (3, vI (nI i))] [] hp) (hp : HP) (h : RC hp hp) : G 1153 [(0, vX 1), (1, vR 0 0), (2, vR 5 52), (3, vI (nI i))] [] hp := by
  refine run hG [1556] 120 ?_
  refine And.intro (hix 1 (by omega)) ?_
  refine And.intro (hix 2 (by omega)) ?_
  refine And.intro ⟨hp, h⟩ ?_
  intro v hq hPO
  obtain ⟨rfl, h1, h2⟩ := po_use h hPO
  refine And.intro (hix 1 (by omega)) ?_
  refine And.intro (hix 2 (by omega)) ?_
  refine And.intro (rc_tap h1) ?_
  exact And.intro (fun _ => cl_use hG (nxt _ (rc_both h2 (fr_feed _ _ hq))) ⟨rfl, rfl, rfl, rfl, trivial⟩) (fun hne => absurd rfl hne)
set_option maxRecDepth 100000 in
set_option maxHeartbeats 4000000 in
theorem lc_31 {L : Nat} {xs : Nat → Int32} {G : GP} (hG : Cl P_L_law K_L E_L_law 4 (some .boolean) (some (L, xs)) LQ G) {i : Nat} (hix : ∀ j, j < 6 → vp_in (nI i + nI j) L) (nxt : ∀ hp, RC hp hp → G 1556 [(0, vX 1), (1, vR 0 0), (2, vR 5 52), (3, vI (nI i))] [] hp) (hp : HP) (h : RC hp hp) : G 1186 [(0, vX 1), (1, vR 0 0), (2, vR 5 52), (3, vI (nI i))] [] hp := by
  refine run hG [1556] 120 ?_
  refine And.intro ⟨hp, h⟩ ?_
  intro v hq hPO
  obtain ⟨rfl, h1, h2⟩ := po_use h hPO
  refine And.intro (trivial) ?_
  exact And.intro (fun _ => cl_use hG (nxt _ (rc_both h2 (fr_wipe  hq))) ⟨rfl, rfl, rfl, rfl, trivial⟩) (fun hne => absurd rfl hne)
set_option maxRecDepth 100000 in
set_option maxHeartbeats 4000000 in
theorem lc_32 {L : Nat} {xs : Nat → Int32} {G : GP} (hG : Cl P_L_law K_L E_L_law 4 (some .boolean) (some (L, xs)) LQ G) {i : Nat} (hix : ∀ j, j < 6 → vp_in (nI i + nI j) L) (nxt : ∀ hp, RC hp hp → G 1556 [(0, vX 1), (1, vR 0 0), (2, vR 5 52), (3, vI (nI i))] [] hp) (hp : HP) (h : RC hp hp) : G 1199 [(0, vX 1), (1, vR 0 0), (2, vR 5 52), (3, vI (nI i))] [] hp := by
  refine run hG [1556] 120 ?_
  refine And.intro ⟨hp, h⟩ ?_
  intro v hq hPO
  obtain ⟨rfl, h1, h2⟩ := po_use h hPO
  refine And.intro (⟨rc_tap h1, h1.ws⟩) ?_
  rintro v2 hr ⟨rfl, o, rfl, ho, hs⟩
  refine And.intro (fun _ => cl_use hG (nxt _ (rc_both2 h2 (qm_ward hq o ho hs) (fr_ward hq o))) ⟨rfl, rfl, rfl, rfl, trivial⟩) (fun hne => absurd rfl hne)
set_option maxRecDepth 100000 in
set_option maxHeartbeats 4000000 in
theorem lc_33 {L : Nat} {xs : Nat → Int32} {G : GP} (hG : Cl P_L_law K_L E_L_law 4 (some .boolean) (some (L, xs)) LQ G) {i : Nat} (hix : ∀ j, j < 6 → vp_in (nI i + nI j) L) (nxt : ∀ hp, RC hp hp → G 1556 [(0, vX 1), (1, vR 0 0), (2, vR 5 52), (3, vI (nI i))] [] hp) (hp : HP) (h : RC hp hp) : G 1212 [(0, vX 1), (1, vR 0 0), (2, vR 5 52), (3, vI (nI i))] [] hp := by
  refine run hG [1556] 120 ?_
  refine And.intro (hix 1 (by omega)) ?_
  refine And.intro (hix 2 (by omega)) ?_
  refine And.intro (hix 3 (by omega)) ?_
  refine And.intro ⟨hp, h⟩ ?_
  intro v hq hPO
  obtain ⟨rfl, h1, h2⟩ := po_use h hPO
  refine And.intro (hix 1 (by omega)) ?_
  refine And.intro (hix 2 (by omega)) ?_
  refine And.intro (hix 3 (by omega)) ?_
  refine And.intro (trivial) ?_
  exact And.intro (fun _ => cl_use hG (nxt _ (rc_both h2 (fr_sheet _ _ _ hq))) ⟨rfl, rfl, rfl, rfl, trivial⟩) (fun hne => absurd rfl hne)
set_option maxRecDepth 100000 in
set_option maxHeartbeats 4000000 in
theorem lc_34 {L : Nat} {xs : Nat → Int32} {G : GP} (hG : Cl P_L_law K_L E_L_law 4 (some .boolean) (some (L, xs)) LQ G) {i : Nat} (hix : ∀ j, j < 6 → vp_in (nI i + nI j) L) (nxt : ∀ hp, RC hp hp → G 1556 [(0, vX 1), (1, vR 0 0), (2, vR 5 52), (3, vI (nI i))] [] hp) (hp : HP) (h : RC hp hp) : G 1255 [(0, vX 1), (1, vR 0 0), (2, vR 5 52), (3, vI (nI i))] [] hp := by
  refine run hG [1556] 120 ?_
  refine And.intro (hix 1 (by omega)) ?_
  refine And.intro (hix 2 (by omega)) ?_
  refine And.intro (hix 3 (by omega)) ?_
  refine And.intro (hix 4 (by omega)) ?_
  refine And.intro ⟨hp, h⟩ ?_
  intro v hq hPO
  obtain ⟨rfl, h1, h2⟩ := pj_use h hPO
  refine And.intro (hix 1 (by omega)) ?_
  refine And.intro (hix 2 (by omega)) ?_
  refine And.intro (hix 3 (by omega)) ?_
  refine And.intro (hix 4 (by omega)) ?_
  refine And.intro (rc_ln h1) ?_
  exact And.intro (fun _ => cl_use hG (nxt _ (rc_both h2 (fr_write _ _ _ hq))) ⟨rfl, rfl, rfl, rfl, trivial⟩) (fun hne => absurd ((lg_cmp_eq _ _).mpr rfl) hne)
set_option maxRecDepth 100000 in
set_option maxHeartbeats 4000000 in
theorem lc_35 {L : Nat} {xs : Nat → Int32} {G : GP} (hG : Cl P_L_law K_L E_L_law 4 (some .boolean) (some (L, xs)) LQ G) {i : Nat} (hix : ∀ j, j < 6 → vp_in (nI i + nI j) L) (nxt : ∀ hp, RC hp hp → G 1556 [(0, vX 1), (1, vR 0 0), (2, vR 5 52), (3, vI (nI i))] [] hp) (hp : HP) (h : RC hp hp) : G 1329 [(0, vX 1), (1, vR 0 0), (2, vR 5 52), (3, vI (nI i))] [] hp := by
  refine run hG [1556] 120 ?_
  refine And.intro (hix 1 (by omega)) ?_
  refine And.intro (hix 2 (by omega)) ?_
  refine And.intro (hix 3 (by omega)) ?_
  refine And.intro (hix 4 (by omega)) ?_
  refine And.intro (hix 5 (by omega)) ?_
  refine And.intro ⟨hp, h⟩ ?_
  intro v hq hPO
  obtain ⟨rfl, h1, h2⟩ := po_use h hPO
  refine And.intro (hix 1 (by omega)) ?_
  refine And.intro (hix 2 (by omega)) ?_
  refine And.intro (hix 3 (by omega)) ?_
  refine And.intro (hix 4 (by omega)) ?_
  refine And.intro (hix 5 (by omega)) ?_
  refine And.intro (rc_ln h1) ?_
  rintro v2 hr ⟨rfl, g, rfl⟩
  refine And.intro (fun _ => cl_use hG (nxt _ (rc_both2 h2 (qm_L _ _ (by decide)) (fr_t (fr_copy _ _ _ _ _ hq) (fr_rL _ _ (by decide))))) ⟨rfl, rfl, rfl, rfl, trivial⟩) (fun hne => absurd rfl hne)
set_option maxRecDepth 100000 in
set_option maxHeartbeats 4000000 in
theorem lc_36 {L : Nat} {xs : Nat → Int32} {G : GP} (hG : Cl P_L_law K_L E_L_law 4 (some .boolean) (some (L, xs)) LQ G) {i : Nat} (hix : ∀ j, j < 6 → vp_in (nI i + nI j) L) (nxt : ∀ hp, RC hp hp → G 1556 [(0, vX 1), (1, vR 0 0), (2, vR 5 52), (3, vI (nI i))] [] hp) (hp : HP) (h : RC hp hp) : G 1392 [(0, vX 1), (1, vR 0 0), (2, vR 5 52), (3, vI (nI i))] [] hp := by
  refine run hG [1556] 120 ?_
  refine And.intro (hix 1 (by omega)) ?_
  refine And.intro ⟨hp, h⟩ ?_
  intro v hq hPO
  obtain ⟨rfl, h1, h2⟩ := po_use h hPO
  refine And.intro (hix 1 (by omega)) ?_
  refine And.intro (rc_ln h1) ?_
  exact And.intro (fun _ => cl_use hG (nxt _ (rc_both h2 (fr_lays _ hq))) ⟨rfl, rfl, rfl, rfl, trivial⟩) (fun hne => absurd rfl hne)
set_option maxRecDepth 100000 in
set_option maxHeartbeats 4000000 in
theorem lc_37 {L : Nat} {xs : Nat → Int32} {G : GP} (hG : Cl P_L_law K_L E_L_law 4 (some .boolean) (some (L, xs)) LQ G) {i : Nat} (hix : ∀ j, j < 6 → vp_in (nI i + nI j) L) (nxt : ∀ hp, RC hp hp → G 1556 [(0, vX 1), (1, vR 0 0), (2, vR 5 52), (3, vI (nI i))] [] hp) (hp : HP) (h : RC hp hp) : G 1415 [(0, vX 1), (1, vR 0 0), (2, vR 5 52), (3, vI (nI i))] [] hp := by
  refine run hG [1556] 120 ?_
  refine And.intro (hix 1 (by omega)) ?_
  refine And.intro (hix 2 (by omega)) ?_
  refine And.intro ⟨hp, h⟩ ?_
  intro v hq hPO
  obtain ⟨rfl, h1, h2⟩ := po_use h hPO
  refine And.intro (hix 1 (by omega)) ?_
  refine And.intro (hix 2 (by omega)) ?_
  refine And.intro (⟨h1.wf, rc_ln h1⟩) ?_
  exact And.intro (fun _ => cl_use hG (nxt _ (rc_both h2 (fr_track _ _ hq))) ⟨rfl, rfl, rfl, rfl, trivial⟩) (fun hne => absurd rfl hne)
set_option maxRecDepth 100000 in
set_option maxHeartbeats 4000000 in
theorem lc_38 {L : Nat} {xs : Nat → Int32} {G : GP} (hG : Cl P_L_law K_L E_L_law 4 (some .boolean) (some (L, xs)) LQ G) {i : Nat} (hix : ∀ j, j < 6 → vp_in (nI i + nI j) L) (nxt : ∀ hp, RC hp hp → G 1556 [(0, vX 1), (1, vR 0 0), (2, vR 5 52), (3, vI (nI i))] [] hp) (hp : HP) (h : RC hp hp) : G 1448 [(0, vX 1), (1, vR 0 0), (2, vR 5 52), (3, vI (nI i))] [] hp := by
  refine run hG [1556] 120 ?_
  refine And.intro (hix 1 (by omega)) ?_
  refine And.intro ⟨hp, h⟩ ?_
  intro v hq hPO
  obtain ⟨rfl, h1, h2⟩ := po_use h hPO
  refine And.intro (hix 1 (by omega)) ?_
  refine And.intro (⟨h1.wf, rc_ln h1⟩) ?_
  exact And.intro (fun _ => cl_use hG (nxt _ (rc_both h2 (fr_whose _ hq))) ⟨rfl, rfl, rfl, rfl, trivial⟩) (fun hne => absurd rfl hne)
set_option maxRecDepth 100000 in
set_option maxHeartbeats 4000000 in
theorem lc_39 {L : Nat} {xs : Nat → Int32} {G : GP} (hG : Cl P_L_law K_L E_L_law 4 (some .boolean) (some (L, xs)) LQ G) {i : Nat} (hix : ∀ j, j < 6 → vp_in (nI i + nI j) L) (nxt : ∀ hp, RC hp hp → G 1556 [(0, vX 1), (1, vR 0 0), (2, vR 5 52), (3, vI (nI i))] [] hp) (hp : HP) (h : RC hp hp) : G 1471 [(0, vX 1), (1, vR 0 0), (2, vR 5 52), (3, vI (nI i))] [] hp := by
  refine run hG [1556] 120 ?_
  refine And.intro ⟨hp, h⟩ ?_
  intro v hq hPO
  obtain ⟨rfl, h1, h2⟩ := po_use h hPO
  refine And.intro (trivial) ?_
  exact And.intro (fun _ => cl_use hG (nxt _ (rc_both h2 (fr_image  hq))) ⟨rfl, rfl, rfl, rfl, trivial⟩) (fun hne => absurd rfl hne)
set_option maxRecDepth 100000 in
set_option maxHeartbeats 4000000 in
theorem lc_40 {L : Nat} {xs : Nat → Int32} {G : GP} (hG : Cl P_L_law K_L E_L_law 4 (some .boolean) (some (L, xs)) LQ G) {i : Nat} (hix : ∀ j, j < 6 → vp_in (nI i + nI j) L) (nxt : ∀ hp, RC hp hp → G 1556 [(0, vX 1), (1, vR 0 0), (2, vR 5 52), (3, vI (nI i))] [] hp) (hp : HP) (h : RC hp hp) : G 1484 [(0, vX 1), (1, vR 0 0), (2, vR 5 52), (3, vI (nI i))] [] hp := by
  refine run hG [1556] 120 ?_
  refine And.intro ⟨hp, h⟩ ?_
  intro v hq hPO
  obtain ⟨rfl, h1, h2⟩ := po_use h hPO
  refine And.intro (trivial) ?_
  exact And.intro (fun _ => cl_use hG (nxt _ (rc_both h2 (fr_undo  hq))) ⟨rfl, rfl, rfl, rfl, trivial⟩) (fun hne => absurd rfl hne)
set_option maxRecDepth 100000 in
set_option maxHeartbeats 4000000 in
theorem lc_41 {L : Nat} {xs : Nat → Int32} {G : GP} (hG : Cl P_L_law K_L E_L_law 4 (some .boolean) (some (L, xs)) LQ G) {i : Nat} (hix : ∀ j, j < 6 → vp_in (nI i + nI j) L) (nxt : ∀ hp, RC hp hp → G 1556 [(0, vX 1), (1, vR 0 0), (2, vR 5 52), (3, vI (nI i))] [] hp) (hp : HP) (h : RC hp hp) : G 1497 [(0, vX 1), (1, vR 0 0), (2, vR 5 52), (3, vI (nI i))] [] hp := by
  refine run hG [1556] 120 ?_
  refine And.intro ⟨hp, h⟩ ?_
  intro v hq hPO
  obtain ⟨rfl, h1, h2⟩ := po_use h hPO
  refine And.intro (trivial) ?_
  exact And.intro (fun _ => cl_use hG (nxt _ (rc_both h2 (fr_tear  hq))) ⟨rfl, rfl, rfl, rfl, trivial⟩) (fun hne => absurd rfl hne)
set_option maxRecDepth 100000 in
set_option maxHeartbeats 4000000 in
theorem lc_42 {L : Nat} {xs : Nat → Int32} {G : GP} (hG : Cl P_L_law K_L E_L_law 4 (some .boolean) (some (L, xs)) LQ G) {i : Nat} (hix : ∀ j, j < 6 → vp_in (nI i + nI j) L) (nxt : ∀ hp, RC hp hp → G 1556 [(0, vX 1), (1, vR 0 0), (2, vR 5 52), (3, vI (nI i))] [] hp) (hp : HP) (h : RC hp hp) : G 1510 [(0, vX 1), (1, vR 0 0), (2, vR 5 52), (3, vI (nI i))] [] hp := by
  refine run hG [1556] 120 ?_
  refine And.intro (hix 1 (by omega)) ?_
  refine And.intro ⟨hp, h⟩ ?_
  intro v hq hPO
  obtain ⟨rfl, h1, h2⟩ := po_use h hPO
  refine And.intro (hix 1 (by omega)) ?_
  refine And.intro (trivial) ?_
  exact And.intro (fun _ => cl_use hG (nxt _ (rc_both h2 (fr_count _ hq))) ⟨rfl, rfl, rfl, rfl, trivial⟩) (fun hne => absurd rfl hne)
set_option maxRecDepth 100000 in
set_option maxHeartbeats 4000000 in
theorem lc_43 {L : Nat} {xs : Nat → Int32} {G : GP} (hG : Cl P_L_law K_L E_L_law 4 (some .boolean) (some (L, xs)) LQ G) {i : Nat} (hix : ∀ j, j < 6 → vp_in (nI i + nI j) L) (nxt : ∀ hp, RC hp hp → G 1556 [(0, vX 1), (1, vR 0 0), (2, vR 5 52), (3, vI (nI i))] [] hp) (hp : HP) (h : RC hp hp) : G 1533 [(0, vX 1), (1, vR 0 0), (2, vR 5 52), (3, vI (nI i))] [] hp := by
  refine run hG [1556] 120 ?_
  refine And.intro (hix 1 (by omega)) ?_
  refine And.intro ⟨hp, h⟩ ?_
  intro v hq hPO
  obtain ⟨rfl, h1, h2⟩ := po_use h hPO
  refine And.intro (hix 1 (by omega)) ?_
  refine And.intro (trivial) ?_
  exact And.intro (fun _ => cl_use hG (nxt _ (rc_both h2 (fr_status _ hq))) ⟨rfl, rfl, rfl, rfl, trivial⟩) (fun hne => absurd rfl hne)
