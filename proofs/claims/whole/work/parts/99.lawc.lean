set_option maxRecDepth 100000 in
set_option maxHeartbeats 4000000 in
theorem lc_0 {L : Nat} {xs : Nat → Int32} {G : GP} (hG : Cl P_L_law K_L E_L_law 4 (some .boolean) (some (L, xs)) LQ G) {i : Nat} (hix : ∀ j, j < 6 → vp_in (nI i + nI j) L) (nxt : ∀ hp, RC hp hp → G 1556 [(0, vX 1), (1, vR 0 0), (2, vR 5 52), (3, vI (nI i))] [] hp) (hp : HP) (h : RC hp hp) : G 224 [(0, vX 1), (1, vR 0 0), (2, vR 5 52), (3, vI (nI i))] [] hp := by
  refine run hG [1556] 120 ?_
  refine And.intro (hix 1 (by omega)) ?_
  refine And.intro (hix 2 (by omega)) ?_
  refine And.intro (hix 3 (by omega)) ?_
  refine And.intro (fun hz => ?_) (fun hz => ?_)
  · refine And.intro ⟨Or.inl rfl, hp, h⟩ ?_
    intro v hq hPO
    obtain ⟨rfl, h1, h2⟩ := po_use h hPO
    refine And.intro (hix 1 (by omega)) ?_
    refine And.intro (hix 2 (by omega)) ?_
    refine And.intro (hix 3 (by omega)) ?_
    refine And.intro (fun _ => ?_) (fun hz2 => absurd hz hz2)
    refine And.intro (trivial) ?_
    exact And.intro (fun _ => cl_use hG (nxt _ (rc_both h2 (fr_door _ _ _ hq))) ⟨rfl, rfl, rfl, rfl, trivial⟩) (fun hne => absurd rfl hne)
  · refine And.intro ⟨Or.inr rfl, hp, h⟩ ?_
    intro v hq hPO
    obtain ⟨rfl, h1, h2⟩ := po_use h hPO
    refine And.intro (hix 1 (by omega)) ?_
    refine And.intro (hix 2 (by omega)) ?_
    refine And.intro (hix 3 (by omega)) ?_
    refine And.intro (fun hz2 => absurd hz2 hz) (fun _ => ?_)
    refine And.intro (trivial) ?_
    exact And.intro (fun _ => cl_use hG (nxt _ (rc_both h2 (fr_door _ _ _ hq))) ⟨rfl, rfl, rfl, rfl, trivial⟩) (fun hne => absurd rfl hne)
set_option maxRecDepth 100000 in
set_option maxHeartbeats 4000000 in
theorem lc_1 {L : Nat} {xs : Nat → Int32} {G : GP} (hG : Cl P_L_law K_L E_L_law 4 (some .boolean) (some (L, xs)) LQ G) {i : Nat} (hix : ∀ j, j < 6 → vp_in (nI i + nI j) L) (nxt : ∀ hp, RC hp hp → G 1556 [(0, vX 1), (1, vR 0 0), (2, vR 5 52), (3, vI (nI i))] [] hp) (hp : HP) (h : RC hp hp) : G 283 [(0, vX 1), (1, vR 0 0), (2, vR 5 52), (3, vI (nI i))] [] hp := by
  refine run hG [1556] 120 ?_
  refine And.intro (hix 1 (by omega)) ?_
  refine And.intro (hix 2 (by omega)) ?_
  refine And.intro ⟨hp, h⟩ ?_
  intro v hq hPO
  obtain ⟨rfl, h1, h2⟩ := po_use h hPO
  refine And.intro (hix 1 (by omega)) ?_
  refine And.intro (hix 2 (by omega)) ?_
  refine And.intro (trivial) ?_
  exact And.intro (fun _ => cl_use hG (nxt _ (rc_both h2 (fr_isOpen _ _ hq))) ⟨rfl, rfl, rfl, rfl, trivial⟩) (fun hne => absurd rfl hne)
set_option maxRecDepth 100000 in
set_option maxHeartbeats 4000000 in
theorem lc_2 {L : Nat} {xs : Nat → Int32} {G : GP} (hG : Cl P_L_law K_L E_L_law 4 (some .boolean) (some (L, xs)) LQ G) {i : Nat} (hix : ∀ j, j < 6 → vp_in (nI i + nI j) L) (nxt : ∀ hp, RC hp hp → G 1556 [(0, vX 1), (1, vR 0 0), (2, vR 5 52), (3, vI (nI i))] [] hp) (hp : HP) (h : RC hp hp) : G 316 [(0, vX 1), (1, vR 0 0), (2, vR 5 52), (3, vI (nI i))] [] hp := by
  refine run hG [1556] 120 ?_
  refine And.intro (hix 1 (by omega)) ?_
  refine And.intro (hix 2 (by omega)) ?_
  refine And.intro ⟨hp, h⟩ ?_
  intro v hq hPO
  obtain ⟨rfl, h1, h2⟩ := po_use h hPO
  refine And.intro (hix 1 (by omega)) ?_
  refine And.intro (hix 2 (by omega)) ?_
  refine And.intro (trivial) ?_
  exact And.intro (fun _ => cl_use hG (nxt _ (rc_both h2 (fr_height _ _ hq))) ⟨rfl, rfl, rfl, rfl, trivial⟩) (fun hne => absurd rfl hne)
set_option maxRecDepth 100000 in
set_option maxHeartbeats 4000000 in
theorem lc_3 {L : Nat} {xs : Nat → Int32} {G : GP} (hG : Cl P_L_law K_L E_L_law 4 (some .boolean) (some (L, xs)) LQ G) {i : Nat} (hix : ∀ j, j < 6 → vp_in (nI i + nI j) L) (nxt : ∀ hp, RC hp hp → G 1556 [(0, vX 1), (1, vR 0 0), (2, vR 5 52), (3, vI (nI i))] [] hp) (hp : HP) (h : RC hp hp) : G 349 [(0, vX 1), (1, vR 0 0), (2, vR 5 52), (3, vI (nI i))] [] hp := by
  refine run hG [1556] 120 ?_
  refine And.intro (hix 1 (by omega)) ?_
  refine And.intro (hix 2 (by omega)) ?_
  refine And.intro (hix 3 (by omega)) ?_
  refine And.intro (fun hz => ?_) (fun hz => ?_)
  · refine And.intro ⟨Or.inl rfl, hp, h⟩ ?_
    intro v hq hPO
    obtain ⟨rfl, h1, h2⟩ := po_use h hPO
    refine And.intro (hix 1 (by omega)) ?_
    refine And.intro (hix 2 (by omega)) ?_
    refine And.intro (hix 3 (by omega)) ?_
    refine And.intro (fun _ => ?_) (fun hz2 => absurd hz hz2)
    refine And.intro (trivial) ?_
    exact And.intro (fun _ => cl_use hG (nxt _ (rc_both h2 (fr_mark _ _ _ hq))) ⟨rfl, rfl, rfl, rfl, trivial⟩) (fun hne => absurd rfl hne)
  · refine And.intro ⟨Or.inr rfl, hp, h⟩ ?_
    intro v hq hPO
    obtain ⟨rfl, h1, h2⟩ := po_use h hPO
    refine And.intro (hix 1 (by omega)) ?_
    refine And.intro (hix 2 (by omega)) ?_
    refine And.intro (hix 3 (by omega)) ?_
    refine And.intro (fun hz2 => absurd hz2 hz) (fun _ => ?_)
    refine And.intro (trivial) ?_
    exact And.intro (fun _ => cl_use hG (nxt _ (rc_both h2 (fr_mark _ _ _ hq))) ⟨rfl, rfl, rfl, rfl, trivial⟩) (fun hne => absurd rfl hne)
set_option maxRecDepth 100000 in
set_option maxHeartbeats 4000000 in
theorem lc_4 {L : Nat} {xs : Nat → Int32} {G : GP} (hG : Cl P_L_law K_L E_L_law 4 (some .boolean) (some (L, xs)) LQ G) {i : Nat} (hix : ∀ j, j < 6 → vp_in (nI i + nI j) L) (nxt : ∀ hp, RC hp hp → G 1556 [(0, vX 1), (1, vR 0 0), (2, vR 5 52), (3, vI (nI i))] [] hp) (hp : HP) (h : RC hp hp) : G 408 [(0, vX 1), (1, vR 0 0), (2, vR 5 52), (3, vI (nI i))] [] hp := by
  refine run hG [1556] 120 ?_
  refine And.intro (hix 1 (by omega)) ?_
  refine And.intro (hix 2 (by omega)) ?_
  refine And.intro ⟨hp, h⟩ ?_
  intro v hq hPO
  obtain ⟨rfl, h1, h2⟩ := po_use h hPO
  refine And.intro (hix 1 (by omega)) ?_
  refine And.intro (hix 2 (by omega)) ?_
  refine And.intro (h1.wf.many) ?_
  exact And.intro (fun _ => cl_use hG (nxt _ (rc_both h2 (fr_squareOf _ _ hq))) ⟨rfl, rfl, rfl, rfl, trivial⟩) (fun hne => absurd rfl hne)
set_option maxRecDepth 100000 in
set_option maxHeartbeats 4000000 in
theorem lc_5 {L : Nat} {xs : Nat → Int32} {G : GP} (hG : Cl P_L_law K_L E_L_law 4 (some .boolean) (some (L, xs)) LQ G) {i : Nat} (hix : ∀ j, j < 6 → vp_in (nI i + nI j) L) (nxt : ∀ hp, RC hp hp → G 1556 [(0, vX 1), (1, vR 0 0), (2, vR 5 52), (3, vI (nI i))] [] hp) (hp : HP) (h : RC hp hp) : G 441 [(0, vX 1), (1, vR 0 0), (2, vR 5 52), (3, vI (nI i))] [] hp := by
  refine run hG [1556] 120 ?_
  refine And.intro (hix 1 (by omega)) ?_
  refine And.intro ⟨hp, h⟩ ?_
  intro v hq hPO
  obtain ⟨rfl, h1, h2⟩ := po_use h hPO
  refine And.intro (hix 1 (by omega)) ?_
  refine And.intro (trivial) ?_
  exact And.intro (fun _ => cl_use hG (nxt _ (rc_both h2 (fr_moon _ hq))) ⟨rfl, rfl, rfl, rfl, trivial⟩) (fun hne => absurd rfl hne)
set_option maxRecDepth 100000 in
set_option maxHeartbeats 4000000 in
theorem lc_6 {L : Nat} {xs : Nat → Int32} {G : GP} (hG : Cl P_L_law K_L E_L_law 4 (some .boolean) (some (L, xs)) LQ G) {i : Nat} (hix : ∀ j, j < 6 → vp_in (nI i + nI j) L) (nxt : ∀ hp, RC hp hp → G 1556 [(0, vX 1), (1, vR 0 0), (2, vR 5 52), (3, vI (nI i))] [] hp) (hp : HP) (h : RC hp hp) : G 464 [(0, vX 1), (1, vR 0 0), (2, vR 5 52), (3, vI (nI i))] [] hp := by
  refine run hG [1556] 120 ?_
  refine And.intro (hix 1 (by omega)) ?_
  refine And.intro ⟨hp, h⟩ ?_
  intro v hq hPO
  obtain ⟨rfl, h1, h2⟩ := po_use h hPO
  refine And.intro (hix 1 (by omega)) ?_
  refine And.intro (rc_rnd h1) ?_
  exact And.intro (fun _ => cl_use hG (nxt _ (rc_both h2 (fr_round _ hq))) ⟨rfl, rfl, rfl, rfl, trivial⟩) (fun hne => absurd rfl hne)
set_option maxRecDepth 100000 in
set_option maxHeartbeats 4000000 in
theorem lc_7 {L : Nat} {xs : Nat → Int32} {G : GP} (hG : Cl P_L_law K_L E_L_law 4 (some .boolean) (some (L, xs)) LQ G) {i : Nat} (hix : ∀ j, j < 6 → vp_in (nI i + nI j) L) (nxt : ∀ hp, RC hp hp → G 1556 [(0, vX 1), (1, vR 0 0), (2, vR 5 52), (3, vI (nI i))] [] hp) (hp : HP) (h : RC hp hp) : G 487 [(0, vX 1), (1, vR 0 0), (2, vR 5 52), (3, vI (nI i))] [] hp := by
  refine run hG [1556] 120 ?_
  refine And.intro ⟨hp, h⟩ ?_
  intro v hq hPO
  obtain ⟨rfl, h1, h2⟩ := po_use h hPO
  refine And.intro (trivial) ?_
  exact And.intro (fun _ => cl_use hG (nxt _ (rc_both h2 (fr_rest  hq))) ⟨rfl, rfl, rfl, rfl, trivial⟩) (fun hne => absurd rfl hne)
set_option maxRecDepth 100000 in
set_option maxHeartbeats 4000000 in
theorem lc_8 {L : Nat} {xs : Nat → Int32} {G : GP} (hG : Cl P_L_law K_L E_L_law 4 (some .boolean) (some (L, xs)) LQ G) {i : Nat} (hix : ∀ j, j < 6 → vp_in (nI i + nI j) L) (nxt : ∀ hp, RC hp hp → G 1556 [(0, vX 1), (1, vR 0 0), (2, vR 5 52), (3, vI (nI i))] [] hp) (hp : HP) (h : RC hp hp) : G 500 [(0, vX 1), (1, vR 0 0), (2, vR 5 52), (3, vI (nI i))] [] hp := by
  refine run hG [1556] 120 ?_
  refine And.intro (hix 1 (by omega)) ?_
  refine And.intro (hix 2 (by omega)) ?_
  refine And.intro (hix 3 (by omega)) ?_
  refine And.intro ⟨hp, h⟩ ?_
  intro v hq hPO
  obtain ⟨rfl, h1, h2⟩ := po_use h hPO
  refine And.intro (hix 1 (by omega)) ?_
  refine And.intro (hix 2 (by omega)) ?_
  refine And.intro (hix 3 (by omega)) ?_
  refine And.intro (h1.wf.many) ?_
  exact And.intro (fun _ => cl_use hG (nxt _ (rc_both h2 (fr_walker _ _ _ hq))) ⟨rfl, rfl, rfl, rfl, trivial⟩) (fun hne => absurd rfl hne)
set_option maxRecDepth 100000 in
set_option maxHeartbeats 4000000 in
theorem lc_9 {L : Nat} {xs : Nat → Int32} {G : GP} (hG : Cl P_L_law K_L E_L_law 4 (some .boolean) (some (L, xs)) LQ G) {i : Nat} (hix : ∀ j, j < 6 → vp_in (nI i + nI j) L) (nxt : ∀ hp, RC hp hp → G 1556 [(0, vX 1), (1, vR 0 0), (2, vR 5 52), (3, vI (nI i))] [] hp) (hp : HP) (h : RC hp hp) : G 543 [(0, vX 1), (1, vR 0 0), (2, vR 5 52), (3, vI (nI i))] [] hp := by
  refine run hG [1556] 120 ?_
  refine And.intro (hix 1 (by omega)) ?_
  refine And.intro (hix 2 (by omega)) ?_
  refine And.intro ⟨hp, h⟩ ?_
  intro v hq hPO
  obtain ⟨rfl, h1, h2⟩ := po_use h hPO
  refine And.intro (hix 1 (by omega)) ?_
  refine And.intro (hix 2 (by omega)) ?_
  refine And.intro (h1.wf) ?_
  exact And.intro (fun _ => cl_use hG (nxt _ (rc_both h2 (fr_of _ _ hq))) ⟨rfl, rfl, rfl, rfl, trivial⟩) (fun hne => absurd rfl hne)
set_option maxRecDepth 100000 in
set_option maxHeartbeats 4000000 in
theorem lc_10 {L : Nat} {xs : Nat → Int32} {G : GP} (hG : Cl P_L_law K_L E_L_law 4 (some .boolean) (some (L, xs)) LQ G) {i : Nat} (hix : ∀ j, j < 6 → vp_in (nI i + nI j) L) (nxt : ∀ hp, RC hp hp → G 1556 [(0, vX 1), (1, vR 0 0), (2, vR 5 52), (3, vI (nI i))] [] hp) (hp : HP) (h : RC hp hp) : G 576 [(0, vX 1), (1, vR 0 0), (2, vR 5 52), (3, vI (nI i))] [] hp := by
  refine run hG [1556] 120 ?_
  refine And.intro (hix 1 (by omega)) ?_
  refine And.intro (hix 2 (by omega)) ?_
  refine And.intro (hix 3 (by omega)) ?_
  refine And.intro ⟨hp, h⟩ ?_
  intro v hq hPO
  obtain ⟨rfl, h1, h2⟩ := po_use h hPO
  refine And.intro (hix 1 (by omega)) ?_
  refine And.intro (hix 2 (by omega)) ?_
  refine And.intro (hix 3 (by omega)) ?_
  refine And.intro (h1.wf.many) ?_
  exact And.intro (fun _ => cl_use hG (nxt _ (rc_both h2 (fr_set _ _ _ hq))) ⟨rfl, rfl, rfl, rfl, trivial⟩) (fun hne => absurd rfl hne)
set_option maxRecDepth 100000 in
set_option maxHeartbeats 4000000 in
theorem lc_11 {L : Nat} {xs : Nat → Int32} {G : GP} (hG : Cl P_L_law K_L E_L_law 4 (some .boolean) (some (L, xs)) LQ G) {i : Nat} (hix : ∀ j, j < 6 → vp_in (nI i + nI j) L) (nxt : ∀ hp, RC hp hp → G 1556 [(0, vX 1), (1, vR 0 0), (2, vR 5 52), (3, vI (nI i))] [] hp) (hp : HP) (h : RC hp hp) : G 619 [(0, vX 1), (1, vR 0 0), (2, vR 5 52), (3, vI (nI i))] [] hp := by
  refine run hG [1556] 120 ?_
  refine And.intro (hix 1 (by omega)) ?_
  refine And.intro (hix 2 (by omega)) ?_
  refine And.intro (fun hz => ?_) (fun hz => ?_)
  · refine And.intro ⟨Or.inl rfl, hp, h⟩ ?_
    intro v hq hPO
    obtain ⟨rfl, h1, h2⟩ := po_use h hPO
    refine And.intro (hix 1 (by omega)) ?_
    refine And.intro (hix 2 (by omega)) ?_
    refine And.intro (fun _ => ?_) (fun hz2 => absurd hz hz2)
    refine And.intro (h1.wf.many) ?_
    exact And.intro (fun _ => cl_use hG (nxt _ (rc_both h2 (fr_wake _ _ hq))) ⟨rfl, rfl, rfl, rfl, trivial⟩) (fun hne => absurd rfl hne)
  · refine And.intro ⟨Or.inr rfl, hp, h⟩ ?_
    intro v hq hPO
    obtain ⟨rfl, h1, h2⟩ := po_use h hPO
    refine And.intro (hix 1 (by omega)) ?_
    refine And.intro (hix 2 (by omega)) ?_
    refine And.intro (fun hz2 => absurd hz2 hz) (fun _ => ?_)
    refine And.intro (h1.wf.many) ?_
    exact And.intro (fun _ => cl_use hG (nxt _ (rc_both h2 (fr_wake _ _ hq))) ⟨rfl, rfl, rfl, rfl, trivial⟩) (fun hne => absurd rfl hne)
set_option maxRecDepth 100000 in
set_option maxHeartbeats 4000000 in
theorem lc_12 {L : Nat} {xs : Nat → Int32} {G : GP} (hG : Cl P_L_law K_L E_L_law 4 (some .boolean) (some (L, xs)) LQ G) {i : Nat} (hix : ∀ j, j < 6 → vp_in (nI i + nI j) L) (nxt : ∀ hp, RC hp hp → G 1556 [(0, vX 1), (1, vR 0 0), (2, vR 5 52), (3, vI (nI i))] [] hp) (hp : HP) (h : RC hp hp) : G 668 [(0, vX 1), (1, vR 0 0), (2, vR 5 52), (3, vI (nI i))] [] hp := by
  refine run hG [1556] 120 ?_
  refine And.intro (hix 1 (by omega)) ?_
  refine And.intro (hix 2 (by omega)) ?_
  refine And.intro ⟨hp, h⟩ ?_
  intro v hq hPO
  obtain ⟨rfl, h1, h2⟩ := po_use h hPO
  refine And.intro (hix 1 (by omega)) ?_
  refine And.intro (hix 2 (by omega)) ?_
  refine And.intro (h1.wf.many) ?_
  exact And.intro (fun _ => cl_use hG (nxt _ (rc_both h2 (fr_turn _ _ hq))) ⟨rfl, rfl, rfl, rfl, trivial⟩) (fun hne => absurd rfl hne)
set_option maxRecDepth 100000 in
set_option maxHeartbeats 4000000 in
theorem lc_13 {L : Nat} {xs : Nat → Int32} {G : GP} (hG : Cl P_L_law K_L E_L_law 4 (some .boolean) (some (L, xs)) LQ G) {i : Nat} (hix : ∀ j, j < 6 → vp_in (nI i + nI j) L) (nxt : ∀ hp, RC hp hp → G 1556 [(0, vX 1), (1, vR 0 0), (2, vR 5 52), (3, vI (nI i))] [] hp) (hp : HP) (h : RC hp hp) : G 701 [(0, vX 1), (1, vR 0 0), (2, vR 5 52), (3, vI (nI i))] [] hp := by
  refine run hG [1556] 120 ?_
  refine And.intro (hix 1 (by omega)) ?_
  refine And.intro (hix 2 (by omega)) ?_
  refine And.intro ⟨hp, h⟩ ?_
  intro v hq hPO
  obtain ⟨rfl, h1, h2⟩ := po_use h hPO
  refine And.intro (hix 1 (by omega)) ?_
  refine And.intro (hix 2 (by omega)) ?_
  refine And.intro (h1.wf.many) ?_
  exact And.intro (fun _ => cl_use hG (nxt _ (rc_both h2 (fr_as _ _ hq))) ⟨rfl, rfl, rfl, rfl, trivial⟩) (fun hne => absurd rfl hne)
set_option maxRecDepth 100000 in
set_option maxHeartbeats 4000000 in
theorem lc_14 {L : Nat} {xs : Nat → Int32} {G : GP} (hG : Cl P_L_law K_L E_L_law 4 (some .boolean) (some (L, xs)) LQ G) {i : Nat} (hix : ∀ j, j < 6 → vp_in (nI i + nI j) L) (nxt : ∀ hp, RC hp hp → G 1556 [(0, vX 1), (1, vR 0 0), (2, vR 5 52), (3, vI (nI i))] [] hp) (hp : HP) (h : RC hp hp) : G 734 [(0, vX 1), (1, vR 0 0), (2, vR 5 52), (3, vI (nI i))] [] hp := by
  refine run hG [1556] 120 ?_
  refine And.intro (hix 1 (by omega)) ?_
  refine And.intro ⟨hp, h⟩ ?_
  intro v hq hPO
  obtain ⟨rfl, h1, h2⟩ := po_use h hPO
  refine And.intro (hix 1 (by omega)) ?_
  refine And.intro (h1.wf) ?_
  exact And.intro (fun _ => cl_use hG (nxt _ (rc_both h2 (fr_step _ hq))) ⟨rfl, rfl, rfl, rfl, trivial⟩) (fun hne => absurd rfl hne)
set_option maxRecDepth 100000 in
set_option maxHeartbeats 4000000 in
theorem lc_15 {L : Nat} {xs : Nat → Int32} {G : GP} (hG : Cl P_L_law K_L E_L_law 4 (some .boolean) (some (L, xs)) LQ G) {i : Nat} (hix : ∀ j, j < 6 → vp_in (nI i + nI j) L) (nxt : ∀ hp, RC hp hp → G 1556 [(0, vX 1), (1, vR 0 0), (2, vR 5 52), (3, vI (nI i))] [] hp) (hp : HP) (h : RC hp hp) : G 757 [(0, vX 1), (1, vR 0 0), (2, vR 5 52), (3, vI (nI i))] [] hp := by
  refine run hG [1556] 120 ?_
  refine And.intro (hix 1 (by omega)) ?_
  refine And.intro ⟨hp, h⟩ ?_
  intro v hq hPO
  obtain ⟨rfl, h1, h2⟩ := po_use h hPO
  refine And.intro (hix 1 (by omega)) ?_
  refine And.intro (h1.wf) ?_
  exact And.intro (fun _ => cl_use hG (nxt _ (rc_both h2 (fr_minutes _ hq))) ⟨rfl, rfl, rfl, rfl, trivial⟩) (fun hne => absurd rfl hne)
set_option maxRecDepth 100000 in
set_option maxHeartbeats 4000000 in
theorem lc_16 {L : Nat} {xs : Nat → Int32} {G : GP} (hG : Cl P_L_law K_L E_L_law 4 (some .boolean) (some (L, xs)) LQ G) {i : Nat} (hix : ∀ j, j < 6 → vp_in (nI i + nI j) L) (nxt : ∀ hp, RC hp hp → G 1556 [(0, vX 1), (1, vR 0 0), (2, vR 5 52), (3, vI (nI i))] [] hp) (hp : HP) (h : RC hp hp) : G 780 [(0, vX 1), (1, vR 0 0), (2, vR 5 52), (3, vI (nI i))] [] hp := by
  refine run hG [1556] 120 ?_
  refine And.intro ⟨hp, h⟩ ?_
  intro v hq hPO
  obtain ⟨rfl, h1, h2⟩ := po_use h hPO
  refine And.intro (h1.wf.many) ?_
  exact And.intro (fun _ => cl_use hG (nxt _ (rc_both h2 (fr_bed  hq))) ⟨rfl, rfl, rfl, rfl, trivial⟩) (fun hne => absurd rfl hne)
set_option maxRecDepth 100000 in
set_option maxHeartbeats 4000000 in
theorem lc_17 {L : Nat} {xs : Nat → Int32} {G : GP} (hG : Cl P_L_law K_L E_L_law 4 (some .boolean) (some (L, xs)) LQ G) {i : Nat} (hix : ∀ j, j < 6 → vp_in (nI i + nI j) L) (nxt : ∀ hp, RC hp hp → G 1556 [(0, vX 1), (1, vR 0 0), (2, vR 5 52), (3, vI (nI i))] [] hp) (hp : HP) (h : RC hp hp) : G 793 [(0, vX 1), (1, vR 0 0), (2, vR 5 52), (3, vI (nI i))] [] hp := by
  refine run hG [1556] 120 ?_
  refine And.intro (hix 1 (by omega)) ?_
  refine And.intro ⟨hp, h⟩ ?_
  intro v hq hPO
  obtain ⟨rfl, h1, h2⟩ := po_use h hPO
  refine And.intro (hix 1 (by omega)) ?_
  refine And.intro (trivial) ?_
  exact And.intro (fun _ => cl_use hG (nxt _ (rc_both h2 (fr_seed _ hq))) ⟨rfl, rfl, rfl, rfl, trivial⟩) (fun hne => absurd rfl hne)
set_option maxRecDepth 100000 in
set_option maxHeartbeats 4000000 in
theorem lc_18 {L : Nat} {xs : Nat → Int32} {G : GP} (hG : Cl P_L_law K_L E_L_law 4 (some .boolean) (some (L, xs)) LQ G) {i : Nat} (hix : ∀ j, j < 6 → vp_in (nI i + nI j) L) (nxt : ∀ hp, RC hp hp → G 1556 [(0, vX 1), (1, vR 0 0), (2, vR 5 52), (3, vI (nI i))] [] hp) (hp : HP) (h : RC hp hp) : G 816 [(0, vX 1), (1, vR 0 0), (2, vR 5 52), (3, vI (nI i))] [] hp := by
  refine run hG [1556] 120 ?_
  refine And.intro (hix 1 (by omega)) ?_
  refine And.intro ⟨hp, h⟩ ?_
  intro v hq hPO
  obtain ⟨rfl, h1, h2⟩ := po_use h hPO
  refine And.intro (hix 1 (by omega)) ?_
  refine And.intro (h1.wf) ?_
  exact And.intro (fun _ => cl_use hG (nxt _ (rc_both h2 (fr_now _ hq))) ⟨rfl, rfl, rfl, rfl, trivial⟩) (fun hne => absurd rfl hne)
set_option maxRecDepth 100000 in
set_option maxHeartbeats 4000000 in
theorem lc_19 {L : Nat} {xs : Nat → Int32} {G : GP} (hG : Cl P_L_law K_L E_L_law 4 (some .boolean) (some (L, xs)) LQ G) {i : Nat} (hix : ∀ j, j < 6 → vp_in (nI i + nI j) L) (nxt : ∀ hp, RC hp hp → G 1556 [(0, vX 1), (1, vR 0 0), (2, vR 5 52), (3, vI (nI i))] [] hp) (hp : HP) (h : RC hp hp) : G 839 [(0, vX 1), (1, vR 0 0), (2, vR 5 52), (3, vI (nI i))] [] hp := by
  refine run hG [1556] 120 ?_
  refine And.intro (hix 1 (by omega)) ?_
  refine And.intro (hix 2 (by omega)) ?_
  refine And.intro ⟨hp, h⟩ ?_
  intro v hq hPO
  obtain ⟨rfl, h1, h2⟩ := po_use h hPO
  refine And.intro (hix 1 (by omega)) ?_
  refine And.intro (hix 2 (by omega)) ?_
  refine And.intro (h1.wf) ?_
  exact And.intro (fun _ => cl_use hG (nxt _ (rc_both h2 (fr_on _ _ hq))) ⟨rfl, rfl, rfl, rfl, trivial⟩) (fun hne => absurd rfl hne)
set_option maxRecDepth 100000 in
set_option maxHeartbeats 4000000 in
theorem lc_20 {L : Nat} {xs : Nat → Int32} {G : GP} (hG : Cl P_L_law K_L E_L_law 4 (some .boolean) (some (L, xs)) LQ G) {i : Nat} (hix : ∀ j, j < 6 → vp_in (nI i + nI j) L) (nxt : ∀ hp, RC hp hp → G 1556 [(0, vX 1), (1, vR 0 0), (2, vR 5 52), (3, vI (nI i))] [] hp) (hp : HP) (h : RC hp hp) : G 872 [(0, vX 1), (1, vR 0 0), (2, vR 5 52), (3, vI (nI i))] [] hp := by
  refine run hG [1556] 120 ?_
  refine And.intro (hix 1 (by omega)) ?_
  refine And.intro ⟨hp, h⟩ ?_
  intro v hq hPO
  obtain ⟨rfl, h1, h2⟩ := po_use h hPO
  refine And.intro (hix 1 (by omega)) ?_
  refine And.intro (h1.wf) ?_
  exact And.intro (fun _ => cl_use hG (nxt _ (rc_both h2 (fr_river _ hq))) ⟨rfl, rfl, rfl, rfl, trivial⟩) (fun hne => absurd rfl hne)
set_option maxRecDepth 100000 in
set_option maxHeartbeats 4000000 in
theorem lc_21 {L : Nat} {xs : Nat → Int32} {G : GP} (hG : Cl P_L_law K_L E_L_law 4 (some .boolean) (some (L, xs)) LQ G) {i : Nat} (hix : ∀ j, j < 6 → vp_in (nI i + nI j) L) (nxt : ∀ hp, RC hp hp → G 1556 [(0, vX 1), (1, vR 0 0), (2, vR 5 52), (3, vI (nI i))] [] hp) (hp : HP) (h : RC hp hp) : G 895 [(0, vX 1), (1, vR 0 0), (2, vR 5 52), (3, vI (nI i))] [] hp := by
  refine run hG [1556] 120 ?_
  refine And.intro (hix 1 (by omega)) ?_
  refine And.intro (hix 2 (by omega)) ?_
  refine And.intro ⟨hp, h⟩ ?_
  intro v hq hPO
  obtain ⟨rfl, h1, h2⟩ := po_use h hPO
  refine And.intro (hix 1 (by omega)) ?_
  refine And.intro (hix 2 (by omega)) ?_
  refine And.intro (h1.wf) ?_
  exact And.intro (fun _ => cl_use hG (nxt _ (rc_both h2 (fr_meet _ _ hq))) ⟨rfl, rfl, rfl, rfl, trivial⟩) (fun hne => absurd rfl hne)
