/-! what is there before the law begins: the table of kinds, the words -/
def tk_l : List (String × Nat) := [("SleepWard$Text", 142), ("SleepWard$Text", 132), ("SleepWard$Text", 134), ("SleepWard$Text", 136), ("SleepWard$Text", 138), ("SleepWard$Text", 140), ("SleepWard$Text", 41), ("SleepWard$Text", 51), ("SleepWard$Text", 53), ("SleepWard$Text", 58), ("SleepWard$Text", 70), ("SleepWard$Text", 75), ("SleepWard$Text", 77), ("SleepWard$Text", 81), ("SleepWard$Text", 117), ("SleepWard$Text", 119), ("", 0), ("", 0), ("", 0), ("", 0), ("SleepWardModel", 248), ("SleepWardModel", 250), ("SleepWardModel", 252), ("SleepWardModel", 254), ("SleepWardModel", 256), ("SleepWardModel", 258), ("SleepWardModel", 283), ("SleepWardModel", 288), ("SleepWardModel", 290), ("SleepWardModel", 295), ("SleepWardModel", 300), ("SleepWardModel", 302), ("SleepWardModel", 304), ("SleepWardModel", 306), ("SleepWardModel", 263), ("SleepWardModel", 268)]
def tk_t (k : Nat) : Term := .string (tk_l.getD k ("", 0)).1 (tk_l.getD k ("", 0)).2
def tk_v (k : Nat) : Term := .field (tk_t k) "java/lang/String" "value" "[B"
def tk_c (k : Nat) : List Cond := .exactly (tk_t k) "java/lang/String" :: .eq (.field (tk_t k) "java/lang/String" "coder" "B") (.int 0) :: .arrayOf (tk_v k) .byte :: .eq (.length (tk_v k)) (.int (Int32.ofNat (tx_n (2 * k)))) :: (List.range (tx_n (2 * k))).map (fun j => .eq (.elem (tk_v k) (.int (Int32.ofNat j))) (.int (tx_b (2 * k) j)))
theorem tk_p0 : tk_c 0 = ((flatC (Jvm.Cond.and given_1 narrow_1)).drop 149).take 10 := by decide +kernel
theorem tk_p1 : tk_c 1 = ((flatC (Jvm.Cond.and given_1 narrow_1)).drop 98).take 10 := by decide +kernel
theorem tk_p2 : tk_c 2 = ((flatC (Jvm.Cond.and given_1 narrow_1)).drop 108).take 10 := by decide +kernel
theorem tk_p3 : tk_c 3 = ((flatC (Jvm.Cond.and given_1 narrow_1)).drop 118).take 9 := by decide +kernel
theorem tk_p4 : tk_c 4 = ((flatC (Jvm.Cond.and given_1 narrow_1)).drop 127).take 12 := by decide +kernel
theorem tk_p5 : tk_c 5 = ((flatC (Jvm.Cond.and given_1 narrow_1)).drop 139).take 10 := by decide +kernel
theorem tk_p6 : tk_c 6 = ((flatC (Jvm.Cond.and given_1 narrow_1)).drop 30).take 8 := by decide +kernel
theorem tk_p7 : tk_c 7 = ((flatC (Jvm.Cond.and given_1 narrow_1)).drop 38).take 8 := by decide +kernel
theorem tk_p8 : tk_c 8 = ((flatC (Jvm.Cond.and given_1 narrow_1)).drop 46).take 10 := by decide +kernel
theorem tk_p9 : tk_c 9 = ((flatC (Jvm.Cond.and given_1 narrow_1)).drop 56).take 8 := by decide +kernel
theorem tk_p10 : tk_c 10 = ((flatC (Jvm.Cond.and given_1 narrow_1)).drop 64).take 9 := by decide +kernel
theorem tk_p11 : tk_c 11 = ((flatC (Jvm.Cond.and given_1 narrow_1)).drop 73).take 7 := by decide +kernel
theorem tk_p12 : tk_c 12 = ((flatC (Jvm.Cond.and given_1 narrow_1)).drop 80).take 8 := by decide +kernel
theorem tk_p13 : tk_c 13 = ((flatC (Jvm.Cond.and given_1 narrow_1)).drop 88).take 10 := by decide +kernel
theorem tk_p14 : tk_c 14 = ((flatC (Jvm.Cond.and given_1 narrow_1)).drop 159).take 6 := by decide +kernel
theorem tk_p15 : tk_c 15 = ((flatC (Jvm.Cond.and given_1 narrow_1)).drop 165).take 7 := by decide +kernel
theorem tk_p20 : tk_c 20 = ((flatC (Jvm.Cond.and given_1 narrow_1)).drop 172).take 10 := by decide +kernel
theorem tk_p21 : tk_c 21 = ((flatC (Jvm.Cond.and given_1 narrow_1)).drop 183).take 10 := by decide +kernel
theorem tk_p22 : tk_c 22 = ((flatC (Jvm.Cond.and given_1 narrow_1)).drop 194).take 10 := by decide +kernel
theorem tk_p23 : tk_c 23 = ((flatC (Jvm.Cond.and given_1 narrow_1)).drop 205).take 9 := by decide +kernel
theorem tk_p24 : tk_c 24 = ((flatC (Jvm.Cond.and given_1 narrow_1)).drop 215).take 12 := by decide +kernel
theorem tk_p25 : tk_c 25 = ((flatC (Jvm.Cond.and given_1 narrow_1)).drop 228).take 10 := by decide +kernel
theorem tk_p26 : tk_c 26 = ((flatC (Jvm.Cond.and given_1 narrow_1)).drop 254).take 8 := by decide +kernel
theorem tk_p27 : tk_c 27 = ((flatC (Jvm.Cond.and given_1 narrow_1)).drop 263).take 8 := by decide +kernel
theorem tk_p28 : tk_c 28 = ((flatC (Jvm.Cond.and given_1 narrow_1)).drop 272).take 10 := by decide +kernel
theorem tk_p29 : tk_c 29 = ((flatC (Jvm.Cond.and given_1 narrow_1)).drop 283).take 8 := by decide +kernel
theorem tk_p30 : tk_c 30 = ((flatC (Jvm.Cond.and given_1 narrow_1)).drop 292).take 9 := by decide +kernel
theorem tk_p31 : tk_c 31 = ((flatC (Jvm.Cond.and given_1 narrow_1)).drop 302).take 7 := by decide +kernel
theorem tk_p32 : tk_c 32 = ((flatC (Jvm.Cond.and given_1 narrow_1)).drop 310).take 8 := by decide +kernel
theorem tk_p33 : tk_c 33 = ((flatC (Jvm.Cond.and given_1 narrow_1)).drop 319).take 10 := by decide +kernel
theorem tk_p34 : tk_c 34 = ((flatC (Jvm.Cond.and given_1 narrow_1)).drop 239).take 6 := by decide +kernel
theorem tk_p35 : tk_c 35 = ((flatC (Jvm.Cond.and given_1 narrow_1)).drop 246).take 7 := by decide +kernel
theorem tk_mem {l f : List Cond} {d t : Nat} (h : l = (f.drop d).take t) : ∀ c ∈ l, c ∈ f := fun c hc => List.mem_of_mem_drop (List.mem_of_mem_take (h ▸ hc))
theorem tk_in : ∀ k, k < 36 → (k < 16 ∨ 20 ≤ k) → ∀ c ∈ tk_c k, c ∈ flatC (Jvm.Cond.and given_1 narrow_1)
  | 0, _, _ => tk_mem tk_p0
  | 1, _, _ => tk_mem tk_p1
  | 2, _, _ => tk_mem tk_p2
  | 3, _, _ => tk_mem tk_p3
  | 4, _, _ => tk_mem tk_p4
  | 5, _, _ => tk_mem tk_p5
  | 6, _, _ => tk_mem tk_p6
  | 7, _, _ => tk_mem tk_p7
  | 8, _, _ => tk_mem tk_p8
  | 9, _, _ => tk_mem tk_p9
  | 10, _, _ => tk_mem tk_p10
  | 11, _, _ => tk_mem tk_p11
  | 12, _, _ => tk_mem tk_p12
  | 13, _, _ => tk_mem tk_p13
  | 14, _, _ => tk_mem tk_p14
  | 15, _, _ => tk_mem tk_p15
  | 16, _, h => absurd h (by decide)
  | 17, _, h => absurd h (by decide)
  | 18, _, h => absurd h (by decide)
  | 19, _, h => absurd h (by decide)
  | 20, _, _ => tk_mem tk_p20
  | 21, _, _ => tk_mem tk_p21
  | 22, _, _ => tk_mem tk_p22
  | 23, _, _ => tk_mem tk_p23
  | 24, _, _ => tk_mem tk_p24
  | 25, _, _ => tk_mem tk_p25
  | 26, _, _ => tk_mem tk_p26
  | 27, _, _ => tk_mem tk_p27
  | 28, _, _ => tk_mem tk_p28
  | 29, _, _ => tk_mem tk_p29
  | 30, _, _ => tk_mem tk_p30
  | 31, _, _ => tk_mem tk_p31
  | 32, _, _ => tk_mem tk_p32
  | 33, _, _ => tk_mem tk_p33
  | 34, _, _ => tk_mem tk_p34
  | 35, _, _ => tk_mem tk_p35
  | n + 36, h, _ => absurd h (by omega)
theorem tk_of {s : State} {b : Nat} {A : Nat → Prop} (hgv : (Jvm.Cond.and given_1 narrow_1).before #[Value.ref b] s = true) (hA : ∀ a : Nat, a < s.heap.size → ¬ A a) (k : Nat) : ∃ q : Nat × Nat, k < 36 → (k < 16 ∨ 20 ≤ k) → (tk_t k).eval #[Value.ref b] s none [] s = some (.ref q.1) ∧ va_O "java/lang/String" q.1 A s s.heap ∧ va_OF "java/lang/String" "coder" "B" (.int 0) q.1 A s s.heap ∧ va_OF "java/lang/String" "value" "[B" (.ref q.2) q.1 A s s.heap ∧ va_T .byte q.2 (tx_n (2 * k)) (fun j => .int (tx_b (2 * k) j)) A s s.heap := by
  by_cases hk : k < 36 ∧ (k < 16 ∨ 20 ≤ k)
  · have hs : ∀ c ∈ tk_c k, c.before #[Value.ref b] s = true := fun c hc => flat_of_before _ hgv c (tk_in k hk.1 hk.2 c hc)
    have h0 := hs _ List.mem_cons_self
    have h1 := hs _ (List.mem_cons_of_mem _ List.mem_cons_self)
    have h2 := hs _ (List.mem_cons_of_mem _ (List.mem_cons_of_mem _ List.mem_cons_self))
    have h3 := hs _ (List.mem_cons_of_mem _ (List.mem_cons_of_mem _ (List.mem_cons_of_mem _ List.mem_cons_self)))
    have h4 : ∀ j : Nat, j < tx_n (2 * k) → (Cond.eq (.elem (tk_v k) (.int (Int32.ofNat j))) (.int (tx_b (2 * k) j))).before #[Value.ref b] s = true := fun j hj => hs _ (List.mem_cons_of_mem _ (List.mem_cons_of_mem _ (List.mem_cons_of_mem _ (List.mem_cons_of_mem _ (List.mem_map.mpr ⟨j, List.mem_range.mpr hj, rfl⟩)))))
    obtain ⟨a, c, cA, kA, q1, q2, q3, q4, q5, q6, -⟩ := Cond.exactly_spec (args := #[Value.ref b]) (first := s) (o := none) (s := s) (idx := []) (t := tk_t k) (cls := "java/lang/String") h0
    obtain ⟨t, ht, hT⟩ := va_Tof (f := fun j => .int (tx_b (2 * k) j)) (A := A) (by have := tx_lt (2 * k); omega) h2 (va_eqt h3) (fun j hj => va_eqt (h4 j hj)) hA
    exact ⟨(a, t), fun _ _ => ⟨q1, va_Oof h0 q1 hA, vk_OFof q1 (va_eqt h1) hA, vk_OFof q1 ht hA, hT⟩⟩
  · exact ⟨(0, 0), fun a b => absurd ⟨a, b⟩ hk⟩
def kb_c : List Cond := .arrayOf (.static RX4 "KIND_ABOVE" "[I") .int :: .eq (.length (.static RX4 "KIND_ABOVE" "[I")) (.int (Int32.ofNat 6)) :: (List.range 6).map (fun j => .eq (.elem (.static RX4 "KIND_ABOVE" "[I") (.int (Int32.ofNat j))) (.int (kab j)))
set_option maxRecDepth 100000 in
theorem kb_in : ∀ c ∈ kb_c, c ∈ flatC (Jvm.Cond.and given_1 narrow_1) := tk_mem (d := 5) (t := 8) (by decide +kernel)
theorem tk_w0 : Cond.stringRef "SleepWard$Text" 142 "walker" ∈ lw_tbl := List.mem_of_getElem? (i := 732) (by decide +kernel)
theorem tk_w1 : Cond.stringRef "SleepWard$Text" 132 "sloper" ∈ lw_tbl := List.mem_of_getElem? (i := 727) (by decide +kernel)
theorem tk_w2 : Cond.stringRef "SleepWard$Text" 134 "lamper" ∈ lw_tbl := List.mem_of_getElem? (i := 728) (by decide +kernel)
theorem tk_w3 : Cond.stringRef "SleepWard$Text" 136 "homer" ∈ lw_tbl := List.mem_of_getElem? (i := 729) (by decide +kernel)
theorem tk_w4 : Cond.stringRef "SleepWard$Text" 138 "wanderer" ∈ lw_tbl := List.mem_of_getElem? (i := 730) (by decide +kernel)
theorem tk_w5 : Cond.stringRef "SleepWard$Text" 140 "mooner" ∈ lw_tbl := List.mem_of_getElem? (i := 731) (by decide +kernel)
theorem tk_w6 : Cond.stringRef "SleepWard$Text" 41 "shut" ∈ lw_tbl := List.mem_of_getElem? (i := 626) (by decide +kernel)
theorem tk_w7 : Cond.stringRef "SleepWard$Text" 51 "open" ∈ lw_tbl := List.mem_of_getElem? (i := 693) (by decide +kernel)
theorem tk_w8 : Cond.stringRef "SleepWard$Text" 53 "height" ∈ lw_tbl := List.mem_of_getElem? (i := 694) (by decide +kernel)
theorem tk_w9 : Cond.stringRef "SleepWard$Text" 58 "lamp" ∈ lw_tbl := List.mem_of_getElem? (i := 699) (by decide +kernel)
theorem tk_w10 : Cond.stringRef "SleepWard$Text" 70 "river" ∈ lw_tbl := List.mem_of_getElem? (i := 701) (by decide +kernel)
theorem tk_w11 : Cond.stringRef "SleepWard$Text" 75 "dry" ∈ lw_tbl := List.mem_of_getElem? (i := 707) (by decide +kernel)
theorem tk_w12 : Cond.stringRef "SleepWard$Text" 77 "moon" ∈ lw_tbl := List.mem_of_getElem? (i := 708) (by decide +kernel)
theorem tk_w13 : Cond.stringRef "SleepWard$Text" 81 "rounds" ∈ lw_tbl := List.mem_of_getElem? (i := 709) (by decide +kernel)
theorem tk_w14 : Cond.stringRef "SleepWard$Text" 117 "at" ∈ lw_tbl := List.mem_of_getElem? (i := 733) (by decide +kernel)
theorem tk_w15 : Cond.stringRef "SleepWard$Text" 119 "way" ∈ lw_tbl := List.mem_of_getElem? (i := 734) (by decide +kernel)
theorem tk_w20 : Cond.stringRef "SleepWardModel" 248 "walker" ∈ lw_tbl := List.mem_of_getElem? (i := 1164) (by decide +kernel)
theorem tk_w21 : Cond.stringRef "SleepWardModel" 250 "sloper" ∈ lw_tbl := List.mem_of_getElem? (i := 1165) (by decide +kernel)
theorem tk_w22 : Cond.stringRef "SleepWardModel" 252 "lamper" ∈ lw_tbl := List.mem_of_getElem? (i := 1166) (by decide +kernel)
theorem tk_w23 : Cond.stringRef "SleepWardModel" 254 "homer" ∈ lw_tbl := List.mem_of_getElem? (i := 1167) (by decide +kernel)
theorem tk_w24 : Cond.stringRef "SleepWardModel" 256 "wanderer" ∈ lw_tbl := List.mem_of_getElem? (i := 1168) (by decide +kernel)
theorem tk_w25 : Cond.stringRef "SleepWardModel" 258 "mooner" ∈ lw_tbl := List.mem_of_getElem? (i := 1169) (by decide +kernel)
theorem tk_w26 : Cond.stringRef "SleepWardModel" 283 "shut" ∈ lw_tbl := List.mem_of_getElem? (i := 1222) (by decide +kernel)
theorem tk_w27 : Cond.stringRef "SleepWardModel" 288 "open" ∈ lw_tbl := List.mem_of_getElem? (i := 1227) (by decide +kernel)
theorem tk_w28 : Cond.stringRef "SleepWardModel" 290 "height" ∈ lw_tbl := List.mem_of_getElem? (i := 1228) (by decide +kernel)
theorem tk_w29 : Cond.stringRef "SleepWardModel" 295 "lamp" ∈ lw_tbl := List.mem_of_getElem? (i := 1233) (by decide +kernel)
theorem tk_w30 : Cond.stringRef "SleepWardModel" 300 "river" ∈ lw_tbl := List.mem_of_getElem? (i := 1238) (by decide +kernel)
theorem tk_w31 : Cond.stringRef "SleepWardModel" 302 "dry" ∈ lw_tbl := List.mem_of_getElem? (i := 1239) (by decide +kernel)
theorem tk_w32 : Cond.stringRef "SleepWardModel" 304 "moon" ∈ lw_tbl := List.mem_of_getElem? (i := 1240) (by decide +kernel)
theorem tk_w33 : Cond.stringRef "SleepWardModel" 306 "rounds" ∈ lw_tbl := List.mem_of_getElem? (i := 1241) (by decide +kernel)
theorem tk_w34 : Cond.stringRef "SleepWardModel" 263 "at" ∈ lw_tbl := List.mem_of_getElem? (i := 1203) (by decide +kernel)
theorem tk_w35 : Cond.stringRef "SleepWardModel" 268 "way" ∈ lw_tbl := List.mem_of_getElem? (i := 1221) (by decide +kernel)
def tk_ex (b t : Nat) (ad : Nat → Nat × Nat) (n : Nat) : Nat := if n = 1 then b else if n = 2 then t else if n % 2 = 0 then (ad ((n - 10) / 2)).1 else (ad ((n - 11) / 2)).2
theorem tk_x10 (b t : Nat) (ad : Nat → Nat × Nat) (k : Nat) : tk_ex b t ad (2 * k + 10) = (ad k).1 ∧ tk_ex b t ad (2 * k + 11) = (ad k).2 := by
  unfold tk_ex
  refine ⟨?_, ?_⟩
  · rw [if_neg (by omega), if_neg (by omega), if_pos (by omega), show (2 * k + 10 - 10) / 2 = k by omega]
  · rw [if_neg (by omega), if_neg (by omega), if_neg (by omega), show (2 * k + 11 - 11) / 2 = k by omega]
theorem tk_R {s : State} {b t : Nat} {ad : Nat → Nat × Nat} (hts : ∀ w ∈ lw_tbl, w.before #[Value.ref b] s = true) {P : Nat → Prop} (had : ∀ k, k < 36 → (k < 16 ∨ 20 ≤ k) → (tk_t k).eval #[Value.ref b] s none [] s = some (.ref (ad k).1) ∧ P k) : ∀ q ∈ tx_R, vk_R q.1 q.2.1 q.2.2.1 (tk_ex b t ad q.2.2.2) s := List.forall_mem_cons.mpr ⟨vk_R.of (hts _ tk_w0) (had 0 (by omega) (by omega)).1, List.forall_mem_cons.mpr ⟨vk_R.of (hts _ tk_w1) (had 1 (by omega) (by omega)).1, List.forall_mem_cons.mpr ⟨vk_R.of (hts _ tk_w2) (had 2 (by omega) (by omega)).1, List.forall_mem_cons.mpr ⟨vk_R.of (hts _ tk_w3) (had 3 (by omega) (by omega)).1, List.forall_mem_cons.mpr ⟨vk_R.of (hts _ tk_w4) (had 4 (by omega) (by omega)).1, List.forall_mem_cons.mpr ⟨vk_R.of (hts _ tk_w5) (had 5 (by omega) (by omega)).1, List.forall_mem_cons.mpr ⟨vk_R.of (hts _ tk_w6) (had 6 (by omega) (by omega)).1, List.forall_mem_cons.mpr ⟨vk_R.of (hts _ tk_w7) (had 7 (by omega) (by omega)).1, List.forall_mem_cons.mpr ⟨vk_R.of (hts _ tk_w8) (had 8 (by omega) (by omega)).1, List.forall_mem_cons.mpr ⟨vk_R.of (hts _ tk_w9) (had 9 (by omega) (by omega)).1, List.forall_mem_cons.mpr ⟨vk_R.of (hts _ tk_w10) (had 10 (by omega) (by omega)).1, List.forall_mem_cons.mpr ⟨vk_R.of (hts _ tk_w11) (had 11 (by omega) (by omega)).1, List.forall_mem_cons.mpr ⟨vk_R.of (hts _ tk_w12) (had 12 (by omega) (by omega)).1, List.forall_mem_cons.mpr ⟨vk_R.of (hts _ tk_w13) (had 13 (by omega) (by omega)).1, List.forall_mem_cons.mpr ⟨vk_R.of (hts _ tk_w14) (had 14 (by omega) (by omega)).1, List.forall_mem_cons.mpr ⟨vk_R.of (hts _ tk_w15) (had 15 (by omega) (by omega)).1, List.forall_mem_cons.mpr ⟨vk_R.of (hts _ tk_w20) (had 20 (by omega) (by omega)).1, List.forall_mem_cons.mpr ⟨vk_R.of (hts _ tk_w21) (had 21 (by omega) (by omega)).1, List.forall_mem_cons.mpr ⟨vk_R.of (hts _ tk_w22) (had 22 (by omega) (by omega)).1, List.forall_mem_cons.mpr ⟨vk_R.of (hts _ tk_w23) (had 23 (by omega) (by omega)).1, List.forall_mem_cons.mpr ⟨vk_R.of (hts _ tk_w24) (had 24 (by omega) (by omega)).1, List.forall_mem_cons.mpr ⟨vk_R.of (hts _ tk_w25) (had 25 (by omega) (by omega)).1, List.forall_mem_cons.mpr ⟨vk_R.of (hts _ tk_w26) (had 26 (by omega) (by omega)).1, List.forall_mem_cons.mpr ⟨vk_R.of (hts _ tk_w27) (had 27 (by omega) (by omega)).1, List.forall_mem_cons.mpr ⟨vk_R.of (hts _ tk_w28) (had 28 (by omega) (by omega)).1, List.forall_mem_cons.mpr ⟨vk_R.of (hts _ tk_w29) (had 29 (by omega) (by omega)).1, List.forall_mem_cons.mpr ⟨vk_R.of (hts _ tk_w30) (had 30 (by omega) (by omega)).1, List.forall_mem_cons.mpr ⟨vk_R.of (hts _ tk_w31) (had 31 (by omega) (by omega)).1, List.forall_mem_cons.mpr ⟨vk_R.of (hts _ tk_w32) (had 32 (by omega) (by omega)).1, List.forall_mem_cons.mpr ⟨vk_R.of (hts _ tk_w33) (had 33 (by omega) (by omega)).1, List.forall_mem_cons.mpr ⟨vk_R.of (hts _ tk_w34) (had 34 (by omega) (by omega)).1, List.forall_mem_cons.mpr ⟨vk_R.of (hts _ tk_w35) (had 35 (by omega) (by omega)).1, fun _ h => absurd h List.not_mem_nil⟩⟩⟩⟩⟩⟩⟩⟩⟩⟩⟩⟩⟩⟩⟩⟩⟩⟩⟩⟩⟩⟩⟩⟩⟩⟩⟩⟩⟩⟩⟩⟩
theorem xt_start {s : State} {b : Nat} (hts : ∀ w ∈ lw_tbl, w.before #[Value.ref b] s = true) (hgv : (Jvm.Cond.and given_1 narrow_1).before #[Value.ref b] s = true) : ∃ (ex : Nat → Nat) (fm : Value), ex 1 = b ∧ fm.category = 1 ∧ XT ex fm (fun q : Nat => s.heap.size ≤ q) s s.heap := by
  have hA : ∀ a : Nat, a < s.heap.size → ¬ (fun q : Nat => s.heap.size ≤ q) a := fun a h => Nat.not_le.mpr h
  have hs := flat_of_before _ hgv
  obtain ⟨ad, had⟩ := Classical.axiomOfChoice (tk_of (A := fun q : Nat => s.heap.size ≤ q) hgv hA)
  have hkb : ∀ c ∈ kb_c, c.before #[Value.ref b] s = true := fun c hc => hs c (kb_in c hc)
  have k0 := hkb _ List.mem_cons_self
  have k1 := hkb _ (List.mem_cons_of_mem _ List.mem_cons_self)
  have k2 : ∀ j : Nat, j < 6 → (Cond.eq (.elem (.static RX4 "KIND_ABOVE" "[I") (.int (Int32.ofNat j))) (.int (kab j))).before #[Value.ref b] s = true := fun j hj => hkb _ (List.mem_cons_of_mem _ (List.mem_cons_of_mem _ (List.mem_map.mpr ⟨j, List.mem_range.mpr hj, rfl⟩)))
  obtain ⟨t, ht, hT⟩ := va_Tof (f := fun j => .int (kab j)) (A := fun q : Nat => s.heap.size ≤ q) (by omega) k0 (va_eqt k1) (fun j hj => va_eqt (k2 j hj)) hA
  have hZ := va_Zref (hts (.laysStatic RX4 "KIND_ABOVE" "[I") (List.mem_of_getElem? (i := 418) (by decide +kernel))) (hts (.initialized RX4) (List.mem_of_getElem? (i := 69) (by decide +kernel))) ht hA
  have hC := va_Zof (hts (.laysStatic "java/lang/String" "COMPACT_STRINGS" "Z") (List.mem_of_getElem? (i := 644) (by decide +kernel))) (hts (.initialized "java/lang/String") (List.mem_of_getElem? (i := 79) (by decide +kernel))) (va_eqi (hs (.eq (.static "java/lang/String" "COMPACT_STRINGS" "Z") (.int 1)) (by decide +kernel))) hA
  have hF := va_Zqof (hts (.laysStatic "jdk/internal/util/Preconditions" "SIOOBE_FORMATTER" "Ljava/util/function/BiFunction;") (List.mem_of_getElem? (i := 660) (by decide +kernel))) (hts (.initialized "jdk/internal/util/Preconditions") (List.mem_of_getElem? (i := 81) (by decide +kernel))) (hs (.isRef (.static "jdk/internal/util/Preconditions" "SIOOBE_FORMATTER" "Ljava/util/function/BiFunction;")) (by decide +kernel)) hA
  obtain ⟨fm, hf1, hf2⟩ : ∃ fm : Value, fm.category = 1 ∧ va_Z "jdk/internal/util/Preconditions" "SIOOBE_FORMATTER" "Ljava/util/function/BiFunction;" fm (fun q : Nat => s.heap.size ≤ q) s s.heap := by
    rcases hF with h | ⟨t, h⟩
    · exact ⟨_, rfl, h⟩
    · exact ⟨_, rfl, h⟩
  refine ⟨tk_ex b t ad, fm, rfl, hf1, ⟨hT, hZ⟩, hC, hf2, fun m hm => ?_, tk_R hts had, va_Nw.of rfl (hts (.methodLinkNest RX3 73 yX4_isSquare RX4) (List.mem_of_getElem? (i := 282) (by decide +kernel)))⟩
  obtain ⟨k, rfl⟩ : ∃ k, m = 2 * k := ⟨m / 2, by have := hm.1; omega⟩
  rw [(tk_x10 b t ad k).1, (tk_x10 b t ad k).2]
  have h2 := hm.2
  exact (had k (by omega) (by omega)).2
