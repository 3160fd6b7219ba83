/-! the abstract machine: values, heap, shapes -/
abbrev AV : Type := Int32 ⊕ (Int64 ⊕ ((Nat × Nat) ⊕ Nat))
abbrev HP : Type := (Nat → Nat → Int32) × (Nat → Nat → Int64)
abbrev LV : Type := List (Nat × AV)
abbrev QP : Type := Option AV → HP → Prop
abbrev SP : Type := List AV → HP → QP → Prop
abbrev GP : Type := Nat → LV → List AV → HP → Prop
abbrev vI (x : Int32) : AV := .inl x
abbrev vL (x : Int64) : AV := .inr (.inl x)
abbrev vR (k c : Nat) : AV := .inr (.inr (.inl (k, c)))
abbrev vX (n : Nat) : AV := .inr (.inr (.inr n))
def av_two : AV → Bool
  | .inr (.inl _) => true
  | _ => false
/-- a row of a cell is another one -/
def rI (hp : HP) (c : Nat) (f : Nat → Int32) : HP := (fun d => if d = c then f else hp.1 d, hp.2)
def rL (hp : HP) (c : Nat) (f : Nat → Int64) : HP := (hp.1, fun d => if d = c then f else hp.2 d)
def uI (hp : HP) (c k : Nat) (v : Int32) : HP := rI hp c (upd (hp.1 c) k v)
def uL (hp : HP) (c k : Nat) (v : Int64) : HP := rL hp c (vp_updL (hp.2 c) k v)
/-- shapes: an object (number of its class, its fields: 0 int, 1 long, 2 boolean, 3 the cell of a kind at a distance), an array (0 int, 1 long, 2 byte, 3, 4 references; length; kind and distance of what it holds) -/
def kd : Nat → (Nat × List (Nat × Nat × Nat)) ⊕ (Nat × Nat × Nat × Nat) := fun k => match k with
  | 0 => .inl (4, [(3, 1, 1), (3, 1, 13), (3, 1, 25), (2, 0, 0), (3, 3, 37), (3, 10, 39), (3, 12, 48), (3, 13, 49), (3, 13, 50), (3, 14, 51), (0, 0, 0)])
  | 1 => .inl (3, [(1, 0, 0), (3, 6, 1), (0, 0, 0), (0, 0, 0), (0, 0, 0), (0, 0, 0), (0, 0, 0), (0, 0, 0), (3, 7, 2), (0, 0, 0), (0, 0, 0), (3, 8, 3), (0, 0, 0)])
  | 2 => .inl (2, [(0, 0, 0), (0, 0, 0), (0, 0, 0), (0, 0, 0), (2, 0, 0)])
  | 3 => .inl (1, [(3, 9, 1), (0, 0, 0), (0, 0, 0), (0, 0, 0), (0, 0, 0), (0, 0, 0), (0, 0, 0)])
  | 4 => .inl (0, [(0, 0, 0), (0, 0, 0), (3, 11, 4)])
  | 5 => .inl (5, [(3, 15, 1), (3, 15, 2), (3, 15, 3), (3, 15, 4), (2, 0, 0), (3, 14, 5), (3, 16, 6), (3, 17, 7), (3, 13, 8), (3, 13, 9), (3, 18, 10), (0, 0, 0), (0, 0, 0), (0, 0, 0), (0, 0, 0), (3, 19, 11), (3, 19, 12), (3, 20, 13), (3, 11, 14)])
  | 6 => .inr (0, 25, 0, 0)
  | 7 => .inr (0, 12, 0, 0)
  | 8 => .inr (3, 8, 2, 1)
  | 9 => .inr (2, 120, 0, 0)
  | 10 => .inr (4, 4, 4, 1)
  | 11 => .inr (1, 40, 0, 0)
  | 12 => .inr (0, 40, 0, 0)
  | 13 => .inr (1, 25, 0, 0)
  | 14 => .inr (0, 7, 0, 0)
  | 15 => .inr (0, 184, 0, 0)
  | 16 => .inr (0, 50, 0, 0)
  | 17 => .inr (0, 8, 0, 0)
  | 18 => .inr (0, 120, 0, 0)
  | 19 => .inr (0, 4, 0, 0)
  | _ => .inr (1, 160, 0, 0)
def kcell : List Nat := [0, 1, 6, 7, 8, 2, 2, 2, 2, 2, 2, 2, 2, 1, 6, 7, 8, 2, 2, 2, 2, 2, 2, 2, 2, 1, 6, 7, 8, 2, 2, 2, 2, 2, 2, 2, 2, 3, 9, 10, 4, 4, 4, 4, 11, 11, 11, 11, 12, 13, 13, 14, 5, 15, 15, 15, 15, 14, 16, 17, 13, 13, 18, 19, 19, 20, 11]
def kc (c : Nat) : Nat := kcell.getD c 99
def vld : AV → Prop
  | .inr (.inr (.inl q)) => q.2 < 67 ∧ kc q.2 = q.1
  | _ => True
/-! lists that are looked up by number -/
def lk {α : Type} : List (Nat × α) → Nat → Option α
  | [], _ => none
  | (a, v) :: t, n => match Nat.beq a n with
    | true => some v
    | false => lk t n
def lk2 {α : Type} : List (Nat × List (Nat × α)) → Nat → Option α
  | [], _ => none
  | (a, l) :: t, n => match Nat.ble a n with
    | true => lk2 t n
    | false => lk l n
def nth {α : Type} : List α → Nat → Option α
  | [], _ => none
  | a :: _, 0 => some a
  | _ :: t, n + 1 => nth t n
def lvd (i : Nat) (two : Bool) : LV → LV
  | [] => []
  | q :: t => match Nat.beq q.1 i || (Nat.beq (q.1 + 1) i && av_two q.2) || (two && Nat.beq q.1 (i + 1)) with
    | true => lvd i two t
    | false => q :: lvd i two t
def tk : Nat → List AV → List AV → Option (List AV × List AV)
  | 0, st, acc => some (acc, st)
  | _ + 1, [], _ => none
  | n + 1, v :: st, acc => tk n st (v :: acc)
def wid : List AV → Nat
  | [] => 0
  | v :: t => (match av_two v with
    | true => 2
    | false => 1) + wid t
def psh (v : Option AV) (r : List AV) : List AV := match v with
  | some a => a :: r
  | none => r
def pI (st : List AV) (k : Int32 → List AV → Prop) : Prop := match st with
  | .inl x :: r => k x r
  | _ => False
def pL (st : List AV) (k : Int64 → List AV → Prop) : Prop := match st with
  | .inr (.inl x) :: r => k x r
  | _ => False
def pV (st : List AV) (k : AV → List AV → Prop) : Prop := match st with
  | v :: r => k v r
  | _ => False
def pR (st : List AV) (k : Nat → Nat → List AV → Prop) : Prop := match st with
  | .inr (.inr (.inl (a, b))) :: r => k a b r
  | _ => False
def pA (st : List AV) (k : Nat → Nat → List AV → Prop) (x : Nat → List AV → Prop) : Prop := match st with
  | .inr (.inr (.inl (a, b))) :: r => k a b r
  | .inr (.inr (.inr n)) :: r => x n r
  | _ => False
def pN (st : List AV) (k : Prop) : Prop := match st with
  | [] => k
  | _ => False
/-- what the texts hold: 16 of them -/
def tx_s : List (List Int32) := [[119, 97, 108, 107, 101, 114], [115, 108, 111, 112, 101, 114], [108, 97, 109, 112, 101, 114], [104, 111, 109, 101, 114], [119, 97, 110, 100, 101, 114, 101, 114], [109, 111, 111, 110, 101, 114], [115, 104, 117, 116], [111, 112, 101, 110], [104, 101, 105, 103, 104, 116], [108, 97, 109, 112], [114, 105, 118, 101, 114], [100, 114, 121], [109, 111, 111, 110], [114, 111, 117, 110, 100, 115], [97, 116], [119, 97, 121]]
def tx_i (m : Nat) : Nat := m / 2 % 20
def tx_n (m : Nat) : Nat := (tx_s.getD (tx_i m) []).length
def tx_b (m j : Nat) : Int32 := (tx_s.getD (tx_i m) []).getD j 0
def kab (j : Nat) : Int32 := ([-1, 0, 0, 1, 0, 2] : List Int32).getD j 0
/-- what a class links: fields (kind, number), ints, longs, texts and statics; fields of a text -/
abbrev LKS : Type := List (Nat × Nat × Nat) × List (Nat × Int32) × List (Nat × Int64) × List (Nat × AV) × List (Nat × AV) × List (Nat × Nat)
abbrev EN : Type := List (Nat × Bool × Nat × SP)
def tg1 (t : List Nat) (k : Nat → Prop) : Prop := match t with
  | [a] => k a
  | _ => False
def ld (lv : LV) (i : Nat) (k : AV → Prop) : Prop := match lk lv i with
  | some v => k v
  | none => False
def rtI (ret : Option FieldType) (v : Int32) (k : Prop) : Prop := match ret with
  | some .int => k
  | some .boolean => (v = 0 ∨ v = 1) ∧ k
  | some ty => narrow ty (.int v) = .int v ∧ k
  | none => False
def swt (x : Int32) (G : Nat → Prop) (lo hi : Int) (d : Nat) : List Nat → Int → Prop
  | [], _ => (x.toInt < lo ∨ hi < x.toInt) → G d
  | t :: ts, k => (x.toInt = k → G t) ∧ swt x G lo hi d ts (k + 1)
def gtf (hp : HP) (c j : Nat) (f : Nat × Nat × Nat) (k : AV → Prop) : Prop := match f with
  | (0, _, _) => k (vI (hp.1 c j))
  | (1, _, _) => k (vL (hp.2 c j))
  | (2, _, _) => k (vI (hp.1 c j))
  | (_, a, b) => k (vR a (c + b))
def ptf (hp : HP) (c j : Nat) (f : Nat × Nat × Nat) (v : AV) (k : HP → Prop) : Prop := match f, v with
  | (0, _, _), .inl x => k (uI hp c j x)
  | (1, _, _), .inr (.inl x) => k (uL hp c j x)
  | (2, _, _), .inl x => (x = 0 ∨ x = 1) ∧ k (uI hp c j x)
  | _, _ => False
/-- the shape of a field that an instruction links, at a cell of a kind -/
def fsh (fl : List (Nat × Nat × Nat)) (idx k : Nat) (kk : Nat → (Nat × Nat × Nat) → Prop) : Prop := match lk fl idx with
  | some (k2, j) => (match Nat.beq k k2 with
    | true => (match kd k with
      | .inl (_, fs) => (match nth fs j with
        | some f => kk j f
        | none => False)
      | .inr _ => False)
    | false => False)
  | none => False
def ash (k : Nat) (t : Nat) (kk : Nat → Prop) : Prop := match kd k with
  | .inr (a, n, _, _) => (match Nat.beq a t with
    | true => kk n
    | false => False)
  | .inl _ => False
def arf (k : Nat) (kk : Nat → Nat → Nat → Prop) : Prop := match kd k with
  | .inr (a, n, k2, d) => (match Nat.ble 3 a with
    | true => kk n k2 d
    | false => False)
  | .inl _ => False
def aln (k : Nat) (kk : Nat → Prop) : Prop := match kd k with
  | .inr (_, n, _, _) => kk n
  | .inl _ => False
def cll (E : EN) (sta : Bool) (idx : Nat) (st : List AV) (hp : HP) (k : List AV → HP → Prop) : Prop := match lk E idx with
  | some (b, n, sp) => (match (b == sta) with
    | true => (match tk n st [] with
      | some (as, r) => (match Nat.ble (wid r) 8 with
        | true => sp as hp (fun v hq => k (psh v r) hq)
        | false => False)
      | none => False)
    | false => False)
  | none => False
def csK (tg : List Nat) (d : Int) (k : Int32 → Prop) : Prop := match tg with
  | [a] => k (nI a)
  | [_, _] => k (-1)
  | _ => k (Int32.ofInt d)
def acK (tg : List Nat) (x : Int32) (d : Int) (k : Int32 → Prop) : Prop := match tg with
  | [a] => k (x + nI a)
  | [_, _] => k (x + (-1))
  | _ => k (x + Int32.ofInt d)
def rtL (ret : Option FieldType) (k : Prop) : Prop := match ret with
  | some .long => k
  | _ => False
def rtA (n : Nat) (ret : Option FieldType) (k : Prop) : Prop := match n, ret with
  | _ + 1, some (.object _) => k
  | _, _ => False
def rtV (ret : Option FieldType) (k : Prop) : Prop := match ret with
  | none => k
  | _ => False
def swg (tg : List Nat) (k : Nat → List Nat → Prop) : Prop := match tg with
  | d :: ts => k d ts
  | [] => False
def scq (sc : Option (Nat × (Nat → Int32))) (k : Nat × (Nat → Int32) → Prop) : Prop := match sc with
  | some q => k q
  | none => False
def ldI (lv : LV) (i : Nat) (k : AV → Prop) : Prop := match lk lv i with
  | some (.inl x) => k (.inl x)
  | _ => False
def ldL (lv : LV) (i : Nat) (k : AV → Prop) : Prop := match lk lv i with
  | some (.inr (.inl x)) => k (.inr (.inl x))
  | _ => False
def ldA (lv : LV) (i : Nat) (k : AV → Prop) : Prop := match lk lv i with
  | some (.inr (.inr (.inl (a, b)))) => k (.inr (.inr (.inl (a, b))))
  | some (.inr (.inr (.inr (n + 1)))) => k (.inr (.inr (.inr (n + 1))))
  | _ => False
def nb (a b : Nat) (k : Prop) : Prop := match Nat.ble (a + 1) b with
  | true => k
  | false => False
def one (v : AV) (k : Prop) : Prop := match av_two v with
  | false => k
  | true => False
def txok (m : Nat) : Prop := m % 2 = 0 ∧ (m < 32 ∨ 40 ≤ m ∧ m < 72)
def stI (K : LKS) (E : EN) (nL : Nat) (ret : Option FieldType) (sc : Option (Nat × (Nat → Int32))) (Q : QP) (G : GP) (i : Instr) (nx : Nat) (tg : List Nat) (lv : LV) (st : List AV) (hp : HP) : Prop :=
  match i with
  | .iload n => ldI lv n fun v => G nx lv (v :: st) hp
  | .iload_n n => ldI lv n.val fun v => G nx lv (v :: st) hp
  | .lload n => ldL lv n fun v => G nx lv (v :: st) hp
  | .lload_n n => ldL lv n.val fun v => G nx lv (v :: st) hp
  | .aload n => ldA lv n fun v => G nx lv (v :: st) hp
  | .aload_n n => ldA lv n.val fun v => G nx lv (v :: st) hp
  | .istore n => pI st fun x r => nb (n) nL (G nx ((n, vI x) :: lvd (n) false lv) r hp)
  | .istore_n n => pI st fun x r => nb (n.val) nL (G nx ((n.val, vI x) :: lvd (n.val) false lv) r hp)
  | .lstore n => pL st fun x r => nb (n + 1) nL (G nx ((n, vL x) :: lvd (n) true lv) r hp)
  | .lstore_n n => pL st fun x r => nb (n.val + 1) nL (G nx ((n.val, vL x) :: lvd (n.val) true lv) r hp)
  | .astore n => pA st (fun k c r => nb (n) nL (G nx ((n, vR k c) :: lvd (n) false lv) r hp)) (fun k r => match k with
    | k + 1 => nb (n) nL (G nx ((n, vX (k + 1)) :: lvd (n) false lv) r hp)
    | 0 => False)
  | .astore_n n => pA st (fun k c r => nb (n.val) nL (G nx ((n.val, vR k c) :: lvd (n.val) false lv) r hp)) (fun k r => match k with
    | k + 1 => nb (n.val) nL (G nx ((n.val, vX (k + 1)) :: lvd (n.val) false lv) r hp)
    | 0 => False)
  | .iinc n d => ldI lv n fun v => pI [v] fun x _ => acK tg x d fun y => nb n nL (G nx ((n, vI y) :: lvd n false lv) st hp)
  | .iconst d => csK tg d fun x => G nx lv (vI x :: st) hp
  | .bipush d => csK tg d fun x => G nx lv (vI x :: st) hp
  | .sipush d => csK tg d fun x => G nx lv (vI x :: st) hp
  | .lconst n => G nx lv (vL (lN n.val) :: st) hp
  | .ldc n => match lk K.2.1 n with
    | some x => G nx lv (vI x :: st) hp
    | none => (match lk K.2.2.2.1 n with
      | some v => G nx lv (v :: st) hp
      | none => False)
  | .ldc_w n => match lk K.2.1 n with
    | some x => G nx lv (vI x :: st) hp
    | none => (match lk K.2.2.2.1 n with
      | some v => G nx lv (v :: st) hp
      | none => False)
  | .ldc2_w n => match lk K.2.2.1 n with
    | some x => G nx lv (vL x :: st) hp
    | none => False
  | .getstatic n => match lk K.2.2.2.2.1 n with
    | some v => G nx lv (v :: st) hp
    | none => False
  | .iadd => pI st fun y r => pI r fun x r => G nx lv (vI (x + y) :: r) hp
  | .isub => pI st fun y r => pI r fun x r => G nx lv (vI (x - y) :: r) hp
  | .imul => pI st fun y r => pI r fun x r => G nx lv (vI (x * y) :: r) hp
  | .iand => pI st fun y r => pI r fun x r => G nx lv (vI (x &&& y) :: r) hp
  | .ior => pI st fun y r => pI r fun x r => G nx lv (vI (x ||| y) :: r) hp
  | .ixor => pI st fun y r => pI r fun x r => G nx lv (vI (x ^^^ y) :: r) hp
  | .ishl => pI st fun y r => pI r fun x r => G nx lv (vI (x <<< (y &&& 31)) :: r) hp
  | .ishr => pI st fun y r => pI r fun x r => G nx lv (vI (x >>> (y &&& 31)) :: r) hp
  | .iushr => pI st fun y r => pI r fun x r => G nx lv (vI ((x.toUInt32 >>> (y.toUInt32 &&& Int32.toUInt32 31)).toInt32) :: r) hp
  | .idiv => pI st fun y r => pI r fun x r => ¬ y = 0 ∧ G nx lv (vI (x / y) :: r) hp
  | .irem => pI st fun y r => pI r fun x r => ¬ y = 0 ∧ G nx lv (vI (x - x / y * y) :: r) hp
  | .ladd => pL st fun y r => pL r fun x r => G nx lv (vL (x + y) :: r) hp
  | .lsub => pL st fun y r => pL r fun x r => G nx lv (vL (x - y) :: r) hp
  | .lmul => pL st fun y r => pL r fun x r => G nx lv (vL (x * y) :: r) hp
  | .land => pL st fun y r => pL r fun x r => G nx lv (vL (x &&& y) :: r) hp
  | .lor => pL st fun y r => pL r fun x r => G nx lv (vL (x ||| y) :: r) hp
  | .lxor => pL st fun y r => pL r fun x r => G nx lv (vL (x ^^^ y) :: r) hp
  | .lshl => pI st fun y r => pL r fun x r => G nx lv (vL (x <<< (y.toInt64 &&& 63)) :: r) hp
  | .lshr => pI st fun y r => pL r fun x r => G nx lv (vL (x >>> (y.toInt64 &&& 63)) :: r) hp
  | .lushr => pI st fun y r => pL r fun x r => G nx lv (vL ((x.toUInt64 >>> (y.toInt64.toUInt64 &&& Int64.toUInt64 63)).toInt64) :: r) hp
  | .i2l => pI st fun x r => G nx lv (vL x.toInt64 :: r) hp
  | .l2i => pL st fun x r => G nx lv (vI x.toInt32 :: r) hp
  | .i2b => pI st fun x r => G nx lv (vI x.toInt8.toInt32 :: r) hp
  | .i2s => pI st fun x r => G nx lv (vI x.toInt16.toInt32 :: r) hp
  | .i2c => pI st fun x r => G nx lv (vI (x.toUInt32 % 65536).toInt32 :: r) hp
  | .lcmp => pL st fun y r => pL r fun x r => G nx lv (vI (lg_cmp x y) :: r) hp
  | .dup => pV st fun v r => one v (G nx lv (v :: v :: r) hp)
  | .dup2 => pV st fun v r => pV r fun u r => one v (one u (G nx lv (v :: u :: v :: u :: r) hp))
  | .pop => pV st fun v r => one v (G nx lv r hp)
  | .if_icmp .eq _ => pI st fun y r => pI r fun x r => tg1 tg fun t => (x = y → G t lv r hp) ∧ (¬ x = y → G nx lv r hp)
  | .ifCond .eq _ => pI st fun x r => tg1 tg fun t => (x = 0 → G t lv r hp) ∧ (¬ x = 0 → G nx lv r hp)
  | .if_icmp .ne _ => pI st fun y r => pI r fun x r => tg1 tg fun t => (¬ x = y → G t lv r hp) ∧ (x = y → G nx lv r hp)
  | .ifCond .ne _ => pI st fun x r => tg1 tg fun t => (¬ x = 0 → G t lv r hp) ∧ (x = 0 → G nx lv r hp)
  | .if_icmp .lt _ => pI st fun y r => pI r fun x r => tg1 tg fun t => (x < y → G t lv r hp) ∧ (¬ x < y → G nx lv r hp)
  | .ifCond .lt _ => pI st fun x r => tg1 tg fun t => (x < 0 → G t lv r hp) ∧ (¬ x < 0 → G nx lv r hp)
  | .if_icmp .ge _ => pI st fun y r => pI r fun x r => tg1 tg fun t => (y ≤ x → G t lv r hp) ∧ (¬ y ≤ x → G nx lv r hp)
  | .ifCond .ge _ => pI st fun x r => tg1 tg fun t => (0 ≤ x → G t lv r hp) ∧ (¬ 0 ≤ x → G nx lv r hp)
  | .if_icmp .gt _ => pI st fun y r => pI r fun x r => tg1 tg fun t => (y < x → G t lv r hp) ∧ (¬ y < x → G nx lv r hp)
  | .ifCond .gt _ => pI st fun x r => tg1 tg fun t => (0 < x → G t lv r hp) ∧ (¬ 0 < x → G nx lv r hp)
  | .if_icmp .le _ => pI st fun y r => pI r fun x r => tg1 tg fun t => (x ≤ y → G t lv r hp) ∧ (¬ x ≤ y → G nx lv r hp)
  | .ifCond .le _ => pI st fun x r => tg1 tg fun t => (x ≤ 0 → G t lv r hp) ∧ (¬ x ≤ 0 → G nx lv r hp)
  | .goto _ => tg1 tg fun t => G t lv st hp
  | .tableswitch _ lo hi _ => pI st fun x r => swg tg fun d ts => swt x (fun t => G t lv r hp) lo hi d ts lo
  | .getfield n => pA st (fun k c r => fsh K.1 n k fun j f => gtf hp c j f fun v => G nx lv (v :: r) hp) (fun n2 r => match n2 with
    | m + 10 => txok m ∧ (match lk K.2.2.2.2.2 n with
      | some 0 => G nx lv (vX (m + 11) :: r) hp
      | some _ => G nx lv (vI 0 :: r) hp
      | none => False)
    | _ => False)
  | .putfield n => pV st fun v r => pR r fun k c r => fsh K.1 n k fun j f => ptf hp c j f v fun hq => G nx lv r hq
  | .iaload => pI st fun i r => pA r (fun k c r => ash k 0 fun n => vp_in i n ∧ G nx lv (vI (hp.1 c i.toNatClampNeg) :: r) hp) (fun n r => match n with
    | 1 => scq sc fun q => vp_in i q.1 ∧ G nx lv (vI (q.2 i.toNatClampNeg) :: r) hp
    | 2 => vp_in i 6 ∧ G nx lv (vI (kab i.toNatClampNeg) :: r) hp
    | _ => False)
  | .laload => pI st fun i r => pR r fun k c r => ash k 1 fun n => vp_in i n ∧ G nx lv (vL (hp.2 c i.toNatClampNeg) :: r) hp
  | .baload => pI st fun i r => pA r (fun k c r => ash k 2 fun n => vp_in i n ∧ G nx lv (vI (hp.1 c i.toNatClampNeg) :: r) hp) (fun n r => match n with
    | m + 11 => (txok m ∧ vp_in i (tx_n m)) ∧ G nx lv (vI (tx_b m i.toNatClampNeg) :: r) hp
    | _ => False)
  | .aaload => pI st fun i r => pR r fun k c r => arf k fun n k2 d => vp_in i n ∧ G nx lv (vR k2 (c + d + i.toNatClampNeg) :: r) hp
  | .iastore => pI st fun x r => pI r fun i r => pR r fun k c r => ash k 0 fun n => vp_in i n ∧ G nx lv r (uI hp c i.toNatClampNeg x)
  | .lastore => pL st fun x r => pI r fun i r => pR r fun k c r => ash k 1 fun n => vp_in i n ∧ G nx lv r (uL hp c i.toNatClampNeg x)
  | .bastore => pI st fun x r => pI r fun i r => pR r fun k c r => ash k 2 fun n => vp_in i n ∧ G nx lv r (uI hp c i.toNatClampNeg x.toInt8.toInt32)
  | .arraylength => pA st (fun k _ r => aln k fun n => G nx lv (vI (nI n) :: r) hp) (fun n r => match n with
    | 1 => scq sc fun q => G nx lv (vI (nI q.1) :: r) hp
    | m + 11 => txok m ∧ G nx lv (vI (nI (tx_n m)) :: r) hp
    | _ => False)
  | .invokevirtual n => cll E false n st hp fun r hq => G nx lv r hq
  | .invokestatic n => cll E true n st hp fun r hq => G nx lv r hq
  | .ireturn => pI st fun x r => pN r (rtI ret x (Q (some (vI x)) hp))
  | .lreturn => pL st fun x r => pN r (rtL ret (Q (some (vL x)) hp))
  | .areturn => pA st (fun _ _ _ => False) (fun n r => pN r (rtA n ret (Q (some (vX n)) hp)))
  | .return_ => pN st (rtV ret (Q none hp))
  | _ => False
def stp (P : PG) (K : LKS) (E : EN) (nL : Nat) (ret : Option FieldType) (sc : Option (Nat × (Nat → Int32))) (Q : QP) (G : GP) (pc : Nat) (lv : LV) (st : List AV) (hp : HP) : Prop :=
  match lk2 P pc with
  | some (i, nx, tg) => stI K E nL ret sc Q G i nx tg lv st hp
  | none => False
