/-! programs as lists, and how they are held against bytes -/
def cs (tg : List Nat) (d : Int) : Int32 := match tg with
  | [k] => nI k
  | [_, _] => -1
  | _ => Int32.ofInt d
def ac (tg : List Nat) (x : Int32) (d : Int) : Int32 := match tg with
  | [k] => x + nI k
  | [_, _] => x + (-1)
  | _ => x + Int32.ofInt d
/-- an entry of a program: instruction, the next place, where it may jump -/
abbrev PE : Type := Instr × Nat × List Nat
abbrev PG : Type := List (Nat × List (Nat × PE))
def il (i : Instr) (d : Nat) : Nat := match i with
  | .iload _ => 2
  | .lload _ => 2
  | .aload _ => 2
  | .istore _ => 2
  | .lstore _ => 2
  | .astore _ => 2
  | .bipush _ => 2
  | .ldc _ => 2
  | .iinc _ _ => 3
  | .sipush _ => 3
  | .ldc_w _ => 3
  | .ldc2_w _ => 3
  | .getstatic _ => 3
  | .getfield _ => 3
  | .putfield _ => 3
  | .invokevirtual _ => 3
  | .invokestatic _ => 3
  | .if_icmp _ _ => 3
  | .ifCond _ _ => 3
  | .goto _ => 3
  | .tableswitch _ _ _ _ => d
  | _ => 1
def tgk (pc : Nat) (i : Instr) (tg : List Nat) : Bool := match i with
  | .if_icmp _ off => decide (tg.map Int.ofNat = [(pc : Int) + off])
  | .ifCond _ off => decide (tg.map Int.ofNat = [(pc : Int) + off])
  | .goto off => decide (tg.map Int.ofNat = [(pc : Int) + off])
  | .tableswitch d lo hi offs => decide (tg.map Int.ofNat = ((pc : Int) + d) :: offs.toList.map (fun o => (pc : Int) + o)) && decide ((offs.toList.length : Int) = hi - lo + 1)
  | .iconst d => decide (Int32.ofInt d = cs tg d)
  | .bipush d => decide ((Int8.ofInt d).toInt32 = cs tg d)
  | .sipush d => decide ((Int16.ofInt d).toInt32 = cs tg d)
  | .iinc _ d => decide (Int32.ofInt d = cs tg d)
  | _ => true
def pk (cc : ByteArray) (pc : Nat) (e : PE) : Prop := decode cc pc = .ok (e.1, il e.1 (e.2.1 - pc)) ∧ e.2.1 = pc + il e.1 (e.2.1 - pc) ∧ tgk pc e.1 e.2.2 = true
def pgk (cc : ByteArray) (P : PG) : Prop := ∀ q ∈ P, ∀ e ∈ q.2, pk cc e.1 e.2
