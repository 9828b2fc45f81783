/-- the table of the ways to choose -/
def zwtl : List Nat := [1, 0, 0, 0, 0, 0, 0, 0, 0, 0, 1, 1, 0, 0, 0, 0, 0, 0, 0, 0, 1, 2, 1, 0, 0, 0, 0, 0, 0, 0, 1, 3, 3, 1, 0, 0, 0, 0, 0, 0, 1, 4, 6, 4, 1, 0, 0, 0, 0, 0, 1, 5, 10, 10, 5, 1, 0, 0, 0, 0, 1, 6, 15, 20, 15, 6, 1, 0, 0, 0, 1, 7, 21, 35, 35, 21, 7, 1, 0, 0, 1, 8, 28, 56, 70, 56, 28, 8, 1, 0, 1, 9, 36, 84, 126, 126, 84, 36, 9, 1]
def zwtc (j : Nat) : Int32 := nI (zwtl.getD j 0)
/-- the words' text -/
def zwtx : List Nat := [99, 117, 116, 32, 32, 32, 32, 32, 100, 101, 97, 108, 32, 32, 32, 32, 109, 111, 118, 101, 32, 32, 32, 32, 116, 97, 107, 101, 32, 32, 32, 32, 116, 117, 114, 110, 32, 32, 32, 32, 102, 108, 105, 112, 32, 32, 32, 32, 114, 105, 102, 102, 108, 101, 32, 32, 102, 97, 114, 111, 32, 32, 32, 32, 100, 111, 119, 110, 32, 32, 32, 32, 115, 119, 97, 112, 32, 32, 32, 32, 109, 97, 114, 107, 32, 32, 32, 32, 116, 105, 109, 101, 115, 32, 32, 32, 105, 102, 32, 32, 32, 32, 32, 32, 101, 108, 115, 101, 32, 32, 32, 32, 116, 111, 32, 32, 32, 32, 32, 32, 97, 108, 108, 32, 32, 32, 32, 32, 102, 114, 101, 101, 32, 32, 32, 32, 97, 32, 32, 32, 32, 32, 32, 32, 98, 32, 32, 32, 32, 32, 32, 32, 99, 32, 32, 32, 32, 32, 32, 32, 100, 32, 32, 32, 32, 32, 32, 32, 111, 114, 32, 32, 32, 32, 32, 32, 97, 110, 100, 32, 32, 32, 32, 32, 110, 111, 116, 32, 32, 32, 32, 32, 97, 108, 105, 107, 101, 32, 32, 32, 101, 97, 99, 104, 32, 32, 32, 32, 114, 105, 115, 105, 110, 103, 32, 32, 115, 105, 122, 101, 32, 32, 32, 32, 117, 112, 32, 32, 32, 32, 32, 32, 119, 104, 101, 114, 101, 32, 32, 32, 99, 97, 114, 100, 32, 32, 32, 32, 118, 97, 108, 117, 101, 32, 32, 32, 115, 117, 105, 116, 32, 32, 32, 32, 99, 111, 108, 111, 117, 114, 32, 32, 102, 97, 99, 101, 32, 32, 32, 32]
def zwch (j : Nat) : Int32 := nI (zwtx.getD j 0)
/-! The abstract machine: objects have numbers 1, 2, .. (0 is null); a heap is what each holds, by its number. -/
abbrev zH : Type := (Nat → Nat) × (Nat → Nat) × (Nat → Nat → Int32) × (Nat → Nat → Int64) × (Nat → Nat → Nat) × (Nat → Nat → Int32) × (Nat → Nat → Int64) × (Nat → Nat → Nat) × Nat × Nat
/-- kind: a class's number and one more; 20 int[], 21 long[], 22 byte[], 23 Step[], 24 Ways[] -/
def zK (σ : zH) : Nat → Nat := σ.1
/-- length of an array -/
def zN (σ : zH) : Nat → Nat := σ.2.1
/-- int fields, long fields, reference fields -/
def zI (σ : zH) : Nat → Nat → Int32 := σ.2.2.1
def zJ (σ : zH) : Nat → Nat → Int64 := σ.2.2.2.1
def zQ (σ : zH) : Nat → Nat → Nat := σ.2.2.2.2.1
/-- int (byte) arrays, long arrays, reference arrays -/
def zA (σ : zH) : Nat → Nat → Int32 := σ.2.2.2.2.2.1
def zB (σ : zH) : Nat → Nat → Int64 := σ.2.2.2.2.2.2.1
def zS (σ : zH) : Nat → Nat → Nat := σ.2.2.2.2.2.2.2.1
/-- how many objects there are; their slots in all -/
def zX (σ : zH) : Nat := σ.2.2.2.2.2.2.2.2.1
def zL (σ : zH) : Nat := σ.2.2.2.2.2.2.2.2.2
def z2 {α : Type} (f : Nat → Nat → α) (a j : Nat) (v : α) : Nat → Nat → α := fun b i => if b = a ∧ i = j then v else f b i
def z1 {α : Type} (f : Nat → Nat → α) (a : Nat) (v : α) : Nat → Nat → α := fun b i => if b = a then v else f b i
def zu {α : Type} (f : Nat → α) (a : Nat) (v : α) : Nat → α := fun b => if b = a then v else f b
def zsI (σ : zH) (a j : Nat) (v : Int32) : zH := (zK σ, zN σ, z2 (zI σ) a j v, zJ σ, zQ σ, zA σ, zB σ, zS σ, zX σ, zL σ)
def zsJ (σ : zH) (a j : Nat) (v : Int64) : zH := (zK σ, zN σ, zI σ, z2 (zJ σ) a j v, zQ σ, zA σ, zB σ, zS σ, zX σ, zL σ)
def zsQ (σ : zH) (a j : Nat) (v : Nat) : zH := (zK σ, zN σ, zI σ, zJ σ, z2 (zQ σ) a j v, zA σ, zB σ, zS σ, zX σ, zL σ)
def zsA (σ : zH) (a j : Nat) (v : Int32) : zH := (zK σ, zN σ, zI σ, zJ σ, zQ σ, z2 (zA σ) a j v, zB σ, zS σ, zX σ, zL σ)
def zsB (σ : zH) (a j : Nat) (v : Int64) : zH := (zK σ, zN σ, zI σ, zJ σ, zQ σ, zA σ, z2 (zB σ) a j v, zS σ, zX σ, zL σ)
def zsS (σ : zH) (a j : Nat) (v : Nat) : zH := (zK σ, zN σ, zI σ, zJ σ, zQ σ, zA σ, zB σ, z2 (zS σ) a j v, zX σ, zL σ)
/-- a new object of kind k, with n slots, of length len -/
def znw (σ : zH) (k n len : Nat) : zH := (zu (zK σ) (zX σ + 1) k, zu (zN σ) (zX σ + 1) len, z1 (zI σ) (zX σ + 1) 0, z1 (zJ σ) (zX σ + 1) 0, z1 (zQ σ) (zX σ + 1) 0, z1 (zA σ) (zX σ + 1) 0, z1 (zB σ) (zX σ + 1) 0, z1 (zS σ) (zX σ + 1) 0, zX σ + 1, zL σ + n)
/-- locals: places and what they hold -/
abbrev zC : Type := List (Nat × Value)
def zg (i : Nat) : zC → Option Value
  | [] => none
  | (k, v) :: t => bif Nat.beq k i then some v else zg i t
def zf1 (i : Nat) : zC → zC
  | [] => []
  | (k, w) :: t => bif (Nat.beq k i || (Nat.beq (k + 1) i && Nat.beq w.category 2)) then zf1 i t else (k, w) :: zf1 i t
def zp1 (i : Nat) (v : Value) : zC → zC
  | [] => [(i, v)]
  | (k, w) :: t => bif Nat.beq k i then (i, v) :: zf1 i t else bif (Nat.beq (k + 1) i && Nat.beq w.category 2) then zp1 i v t else (k, w) :: zp1 i v t
def zf2 (i : Nat) : zC → zC
  | [] => []
  | (k, w) :: t => bif (Nat.beq k i || Nat.beq k (i + 1) || (Nat.beq (k + 1) i && Nat.beq w.category 2)) then zf2 i t else (k, w) :: zf2 i t
def zp2 (i : Nat) (v : Value) : zC → zC
  | [] => [(i, v)]
  | (k, w) :: t => bif Nat.beq k i then (i, v) :: zf2 i t else bif (Nat.beq k (i + 1) || (Nat.beq (k + 1) i && Nat.beq w.category 2)) then zp2 i v t else (k, w) :: zp2 i v t
/-- n values off the stack, the deepest first; and the rest -/
def zpop : Nat → List Value → List Value → Option (List Value × List Value)
  | 0, acc, st => some (acc, st)
  | _ + 1, _, [] => none
  | n + 1, acc, v :: st => zpop n (v :: acc) st
/-- where a switch goes -/
def zsw (x : Int32) (d : Nat) : List (Int × Nat) → Nat
  | [] => d
  | (k, t) :: l => if x = Int32.ofInt k then t else zsw x d l
/-- what one step comes to: the next state; a call (method, arguments, next place, stack then); an answer -/
abbrev zO : Type := (Nat × zC × List Value × zH) ⊕ (Nat × List Value × Nat × List Value) ⊕ Option Value
/-- the sum of the categories -/
def zwt (st : List Value) : Nat := (st.map fun v => v.category).sum
/-- one step; the Prop is what it asks of the heap (and of the numbers) -/
def zst (d M pc : Nat) (lc : zC) (st : List Value) (σ : zH) : Option (Prop × zO) :=
  match zc M pc with
  | none => none
  | some (i, nx, a, b, c, k, v, sw) =>
    match i with
    | .iconst _ => some (True, .inl (nx, lc, .int (Int32.ofInt v) :: st, σ))
    | .bipush _ => some (True, .inl (nx, lc, .int (Int32.ofInt v) :: st, σ))
    | .sipush _ => some (True, .inl (nx, lc, .int (Int32.ofInt v) :: st, σ))
    | .lconst _ => some (True, .inl (nx, lc, .long (Int64.ofInt v) :: st, σ))
    | .ldc2_w _ => some (True, .inl (nx, lc, .long (Int64.ofInt v) :: st, σ))
    | .ldc _ => bif Nat.beq c 0 then some (True, .inl (nx, lc, .int (Int32.ofInt v) :: st, σ)) else bif Nat.beq c 1 then some (True, .inl (nx, lc, .retAddr 0 :: st, σ)) else none
    | .iload _ => (match zg a lc with | some (.int x) => some (True, .inl (nx, lc, .int x :: st, σ)) | _ => none)
    | .iload_n _ => (match zg a lc with | some (.int x) => some (True, .inl (nx, lc, .int x :: st, σ)) | _ => none)
    | .lload _ => (match zg a lc with | some (.long x) => some (True, .inl (nx, lc, .long x :: st, σ)) | _ => none)
    | .lload_n _ => (match zg a lc with | some (.long x) => some (True, .inl (nx, lc, .long x :: st, σ)) | _ => none)
    | .aload _ => (match zg a lc with | some (.ref x) => some (True, .inl (nx, lc, .ref x :: st, σ)) | _ => none)
    | .aload_n _ => (match zg a lc with | some (.ref x) => some (True, .inl (nx, lc, .ref x :: st, σ)) | _ => none)
    | .istore _ => (match st with | .int x :: st => some (True, .inl (nx, zp1 a (.int x) lc, st, σ)) | _ => none)
    | .istore_n _ => (match st with | .int x :: st => some (True, .inl (nx, zp1 a (.int x) lc, st, σ)) | _ => none)
    | .astore _ => (match st with | .ref x :: st => some (True, .inl (nx, zp1 a (.ref x) lc, st, σ)) | _ => none)
    | .astore_n _ => (match st with | .ref x :: st => some (True, .inl (nx, zp1 a (.ref x) lc, st, σ)) | _ => none)
    | .lstore _ => (match st with | .long x :: st => some (True, .inl (nx, zp2 a (.long x) lc, st, σ)) | _ => none)
    | .lstore_n _ => (match st with | .long x :: st => some (True, .inl (nx, zp2 a (.long x) lc, st, σ)) | _ => none)
    | .iinc _ _ => (match zg a lc with | some (.int x) => some (True, .inl (nx, zp1 a (.int (x + Int32.ofInt v)) lc, st, σ)) | _ => none)
    | .iadd => (match st with | .int y :: .int x :: st => some (True, .inl (nx, lc, .int (x + y) :: st, σ)) | _ => none)
    | .isub => (match st with | .int y :: .int x :: st => some (True, .inl (nx, lc, .int (x - y) :: st, σ)) | _ => none)
    | .imul => (match st with | .int y :: .int x :: st => some (True, .inl (nx, lc, .int (x * y) :: st, σ)) | _ => none)
    | .iand => (match st with | .int y :: .int x :: st => some (True, .inl (nx, lc, .int (x &&& y) :: st, σ)) | _ => none)
    | .ior => (match st with | .int y :: .int x :: st => some (True, .inl (nx, lc, .int (x ||| y) :: st, σ)) | _ => none)
    | .ixor => (match st with | .int y :: .int x :: st => some (True, .inl (nx, lc, .int (x ^^^ y) :: st, σ)) | _ => none)
    | .ishl => (match st with | .int y :: .int x :: st => some (True, .inl (nx, lc, .int (x <<< (y &&& 31)) :: st, σ)) | _ => none)
    | .ishr => (match st with | .int y :: .int x :: st => some (True, .inl (nx, lc, .int (x >>> (y &&& 31)) :: st, σ)) | _ => none)
    | .iushr => (match st with | .int y :: .int x :: st => some (True, .inl (nx, lc, .int ((x.toUInt32 >>> (y.toUInt32 &&& Int32.toUInt32 31)).toInt32) :: st, σ)) | _ => none)
    | .irem => (match st with | .int y :: .int x :: st => some (¬ y = 0, .inl (nx, lc, .int (x - x / y * y) :: st, σ)) | _ => none)
    | .ladd => (match st with | .long y :: .long x :: st => some (True, .inl (nx, lc, .long (x + y) :: st, σ)) | _ => none)
    | .lsub => (match st with | .long y :: .long x :: st => some (True, .inl (nx, lc, .long (x - y) :: st, σ)) | _ => none)
    | .lmul => (match st with | .long y :: .long x :: st => some (True, .inl (nx, lc, .long (x * y) :: st, σ)) | _ => none)
    | .land => (match st with | .long y :: .long x :: st => some (True, .inl (nx, lc, .long (x &&& y) :: st, σ)) | _ => none)
    | .lor => (match st with | .long y :: .long x :: st => some (True, .inl (nx, lc, .long (x ||| y) :: st, σ)) | _ => none)
    | .ldiv => (match st with | .long y :: .long x :: st => some (¬ y = 0, .inl (nx, lc, .long (x / y) :: st, σ)) | _ => none)
    | .lshl => (match st with | .int y :: .long x :: st => some (True, .inl (nx, lc, .long (x <<< (y.toInt64 &&& 63)) :: st, σ)) | _ => none)
    | .lshr => (match st with | .int y :: .long x :: st => some (True, .inl (nx, lc, .long (x >>> (y.toInt64 &&& 63)) :: st, σ)) | _ => none)
    | .lushr => (match st with | .int y :: .long x :: st => some (True, .inl (nx, lc, .long ((x.toUInt64 >>> (y.toInt64.toUInt64 &&& Int64.toUInt64 63)).toInt64) :: st, σ)) | _ => none)
    | .lcmp => (match st with | .long y :: .long x :: st => some (True, .inl (nx, lc, .int (lg_cmp x y) :: st, σ)) | _ => none)
    | .i2l => (match st with | .int x :: st => some (True, .inl (nx, lc, .long x.toInt64 :: st, σ)) | _ => none)
    | .l2i => (match st with | .long x :: st => some (True, .inl (nx, lc, .int x.toInt32 :: st, σ)) | _ => none)
    | .i2b => (match st with | .int x :: st => some (True, .inl (nx, lc, .int x.toInt8.toInt32 :: st, σ)) | _ => none)
    | .dup => (match st with | .int x :: st => some (True, .inl (nx, lc, .int x :: .int x :: st, σ)) | .ref x :: st => some (True, .inl (nx, lc, .ref x :: .ref x :: st, σ)) | _ => none)
    | .dup2 => (match st with | .int x :: .ref y :: st => some (True, .inl (nx, lc, .int x :: .ref y :: .int x :: .ref y :: st, σ)) | _ => none)
    | .pop => (match st with | .int _ :: st => some (True, .inl (nx, lc, st, σ)) | .ref _ :: st => some (True, .inl (nx, lc, st, σ)) | _ => none)
    | .if_icmp .eq _ => (match st with | .int y :: .int x :: st => some (True, .inl (if x = y then a else nx, lc, st, σ)) | _ => none)
    | .if_icmp .ne _ => (match st with | .int y :: .int x :: st => some (True, .inl (if ¬ x = y then a else nx, lc, st, σ)) | _ => none)
    | .if_icmp .lt _ => (match st with | .int y :: .int x :: st => some (True, .inl (if x < y then a else nx, lc, st, σ)) | _ => none)
    | .if_icmp .ge _ => (match st with | .int y :: .int x :: st => some (True, .inl (if y ≤ x then a else nx, lc, st, σ)) | _ => none)
    | .if_icmp .gt _ => (match st with | .int y :: .int x :: st => some (True, .inl (if y < x then a else nx, lc, st, σ)) | _ => none)
    | .if_icmp .le _ => (match st with | .int y :: .int x :: st => some (True, .inl (if x ≤ y then a else nx, lc, st, σ)) | _ => none)
    | .ifCond .eq _ => (match st with | .int x :: st => some (True, .inl (if x = 0 then a else nx, lc, st, σ)) | _ => none)
    | .ifCond .ne _ => (match st with | .int x :: st => some (True, .inl (if ¬ x = 0 then a else nx, lc, st, σ)) | _ => none)
    | .ifCond .lt _ => (match st with | .int x :: st => some (True, .inl (if x < 0 then a else nx, lc, st, σ)) | _ => none)
    | .ifCond .ge _ => (match st with | .int x :: st => some (True, .inl (if 0 ≤ x then a else nx, lc, st, σ)) | _ => none)
    | .ifCond .gt _ => (match st with | .int x :: st => some (True, .inl (if 0 < x then a else nx, lc, st, σ)) | _ => none)
    | .ifCond .le _ => (match st with | .int x :: st => some (True, .inl (if x ≤ 0 then a else nx, lc, st, σ)) | _ => none)
    | .goto _ => some (True, .inl (a, lc, st, σ))
    | .tableswitch _ _ _ _ => (match st with | .int x :: st => some (True, .inl (zsw x a sw, lc, st, σ)) | _ => none)
    | .lookupswitch _ _ => (match st with | .int x :: st => some (True, .inl (zsw x a sw, lc, st, σ)) | _ => none)
    | .getfield _ => (match st with | .ref r :: st => (match c with | 1 => some (zK σ r = a, .inl (nx, lc, .long (zJ σ r b) :: st, σ)) | 2 => some (zK σ r = a, .inl (nx, lc, .ref (zQ σ r b) :: st, σ)) | _ => some (zK σ r = a, .inl (nx, lc, .int (zI σ r b) :: st, σ))) | _ => none)
    | .putfield _ => (match c, st with | 1, .long x :: .ref r :: st => some (zK σ r = a, .inl (nx, lc, st, zsJ σ r b x)) | 2, .ref x :: .ref r :: st => some (zK σ r = a, .inl (nx, lc, st, zsQ σ r b x)) | 3, .int x :: .ref r :: st => some (zK σ r = a ∧ (x = 0 ∨ x = 1), .inl (nx, lc, st, zsI σ r b x)) | 0, .int x :: .ref r :: st => some (zK σ r = a, .inl (nx, lc, st, zsI σ r b x)) | _, _ => none)
    | .getstatic _ => some (True, .inl (nx, lc, .retAddr 1 :: st, σ))
    | .iaload => (match st with | .int j :: .ref r :: st => some (zK σ r = 20 ∧ vp_in j (zN σ r), .inl (nx, lc, .int (zA σ r j.toNatClampNeg) :: st, σ)) | .int j :: .retAddr 1 :: st => some (vp_in j 100, .inl (nx, lc, .int (zwtc j.toNatClampNeg) :: st, σ)) | _ => none)
    | .baload => (match st with | .int j :: .ref r :: st => some (zK σ r = 22 ∧ vp_in j (zN σ r), .inl (nx, lc, .int (zA σ r j.toNatClampNeg) :: st, σ)) | _ => none)
    | .laload => (match st with | .int j :: .ref r :: st => some (zK σ r = 21 ∧ vp_in j (zN σ r), .inl (nx, lc, .long (zB σ r j.toNatClampNeg) :: st, σ)) | _ => none)
    | .aaload => (match st with | .int j :: .ref r :: st => some ((zK σ r = 23 ∨ zK σ r = 24) ∧ vp_in j (zN σ r), .inl (nx, lc, .ref (zS σ r j.toNatClampNeg) :: st, σ)) | _ => none)
    | .iastore => (match st with | .int x :: .int j :: .ref r :: st => some (zK σ r = 20 ∧ vp_in j (zN σ r), .inl (nx, lc, st, zsA σ r j.toNatClampNeg x)) | _ => none)
    | .bastore => (match st with | .int x :: .int j :: .ref r :: st => some (zK σ r = 22 ∧ vp_in j (zN σ r), .inl (nx, lc, st, zsA σ r j.toNatClampNeg x.toInt8.toInt32)) | _ => none)
    | .lastore => (match st with | .long x :: .int j :: .ref r :: st => some (zK σ r = 21 ∧ vp_in j (zN σ r), .inl (nx, lc, st, zsB σ r j.toNatClampNeg x)) | _ => none)
    | .aastore => (match st with | .ref x :: .int j :: .ref r :: st => some ((zK σ r = 23 ∧ zK σ x = 6 ∨ zK σ r = 24 ∧ zK σ x = 11) ∧ vp_in j (zN σ r), .inl (nx, lc, st, zsS σ r j.toNatClampNeg x)) | _ => none)
    | .new _ => bif Nat.beq a 0 then none else some (True, .inl (nx, lc, .ref (zX σ + 1) :: st, znw σ a b 0))
    | .newarray _ => (match st with | .int n :: st => some (¬ n < 0 ∧ n.toNatClampNeg ≤ 60000000, .inl (nx, lc, .ref (zX σ + 1) :: st, znw σ a n.toNatClampNeg n.toNatClampNeg)) | _ => none)
    | .anewarray _ => (match st with | .int n :: st => some (¬ n < 0 ∧ n.toNatClampNeg ≤ 60000000, .inl (nx, lc, .ref (zX σ + 1) :: st, znw σ a n.toNatClampNeg n.toNatClampNeg)) | _ => none)
    | .invokestatic _ => (match c with
      | 0 => (match zpop b [] st with | some (as, st) => bif (Nat.ble (zwt st) 8 && Nat.ble (zwt as) v.toNat) then some (True, .inr (.inl (a, as, nx, st))) else none | none => none)
      | 5 => (match st with | .int y :: .int x :: st => bif (Nat.ble 1 d && Nat.ble (zwt st) 8) then some (True, .inl (nx, lc, .int (if x < y then y else x) :: st, σ)) else none | _ => none)
      | 6 => (match st with | .int y :: .int x :: st => bif (Nat.ble 1 d && Nat.ble (zwt st) 8) then some (True, .inl (nx, lc, .int (if y < x then y else x) :: st, σ)) else none | _ => none)
      | 7 => (match st with | .long y :: .long x :: st => bif (Nat.ble 1 d && Nat.ble (zwt st) 8) then some (True, .inl (nx, lc, .long (if y < x then y else x) :: st, σ)) else none | _ => none)
      | _ => none)
    | .invokevirtual _ => (match c with
      | 1 => (match zpop b [] st with | some (.ref r :: as, st) => bif (Nat.ble (zwt st) 8 && Nat.ble (zwt as + 1) v.toNat) then some (zK σ r = k, .inr (.inl (a, .ref r :: as, nx, st))) else none | _ => none)
      | 8 => (match st with | .int j :: .retAddr 0 :: st => bif (Nat.ble 5 d && Nat.ble (zwt st) 8) then some (vp_in j 280, .inl (nx, lc, .int (zwch j.toNatClampNeg) :: st, σ)) else none | _ => none)
      | _ => none)
    | .invokespecial _ => (match c with
      | 2 => (match zpop b [] st with | some (.ref r :: as, st) => bif (Nat.ble (zwt st) 8 && Nat.ble (zwt as + 1) v.toNat) then some (zK σ r = k, .inr (.inl (a, .ref r :: as, nx, st))) else none | _ => none)
      | 3 => (match zpop b [] st with | some (.ref r :: as, st) => bif (Nat.ble (zwt st) 8 && Nat.ble (zwt as + 1) v.toNat) then some (zK σ r = k, .inr (.inl (a, .ref r :: as, nx, st))) else none | _ => none)
      | 4 => (match st with | .ref r :: st => bif (Nat.ble 1 d && Nat.ble (zwt st) 8) then some (¬ zK σ r = 0, .inl (nx, lc, st, σ)) else none | _ => none)
      | _ => none)
    | .ireturn => (match c, st with | 0, [.int x] => some (True, .inr (.inr (some (.int x)))) | 3, [.int x] => some (x = 0 ∨ x = 1, .inr (.inr (some (.int x)))) | _, _ => none)
    | .lreturn => (match st with | [.long x] => some (True, .inr (.inr (some (.long x)))) | _ => none)
    | .return_ => (match st with | [] => some (True, .inr (.inr none)) | _ => none)
    | _ => none
/-- runs: n steps at most, d calls deep at most; locals may be forgotten -/
def zrun : Nat → Nat → Nat → Nat → zC → List Value → zH → Option Value → zH → Prop
  | 0, _, _, _, _, _, _, _, _ => False
  | n + 1, d, M, pc, lc, st, σ, r, σ' =>
    (∃ lc' : zC, (∀ q ∈ lc', q ∈ lc) ∧ zrun n d M pc lc' st σ r σ') ∨
    (∃ (P : Prop) (o : zO), zst d M pc lc st σ = some (P, o) ∧ P ∧
      match o with
      | .inl (pc', lc', st', σ1) => zrun n d M pc' lc' st' σ1 r σ'
      | .inr (.inl (M', as, pc', st')) => ∃ (d' : Nat) (r1 : Option Value) (σ1 : zH), d = d' + 1 ∧ zrun n d' M' 0 (lv_args 0 as) [] σ r1 σ1 ∧ zrun n d M pc' lc (r1.toList ++ st') σ1 r σ'
      | .inr (.inr v) => v = r ∧ σ = σ')
theorem zrun_up : ∀ (n : Nat) {d M pc : Nat} {lc : zC} {st : List Value} {σ : zH} {r : Option Value} {σ' : zH}, zrun n d M pc lc st σ r σ' → zrun (n + 1) d M pc lc st σ r σ' := by
  intro n
  induction n with
  | zero => intro d M pc lc st σ r σ' h; exact h.elim
  | succ n ih =>
    intro d M pc lc st σ r σ' h
    rcases h with ⟨lc', h1, h2⟩ | ⟨P, o, h1, h2, h3⟩
    · exact Or.inl ⟨lc', h1, ih h2⟩
    · refine Or.inr ⟨P, o, h1, h2, ?_⟩
      match o, h3 with
      | .inl (pc', lc', st', σ1), h3 => exact ih h3
      | .inr (.inl (M', as, pc', st')), h3 =>
        obtain ⟨d', r1, σ1, e, g1, g2⟩ := h3
        exact ⟨d', r1, σ1, e, ih g1, ih g2⟩
      | .inr (.inr v), h3 => exact h3
theorem zrun_le {n m : Nat} (h : n ≤ m) {d M pc : Nat} {lc : zC} {st : List Value} {σ : zH} {r : Option Value} {σ' : zH} (hr : zrun n d M pc lc st σ r σ') : zrun m d M pc lc st σ r σ' := by
  induction h with
  | refl => exact hr
  | step _ ih => exact zrun_up _ ih
/-- from here the method answers, with Q of the answer and the heap then -/
def zW (d M pc : Nat) (lc : zC) (st : List Value) (σ : zH) (Q : Option Value → zH → Prop) : Prop := ∃ (n : Nat) (r : Option Value) (σ' : zH), zrun n d M pc lc st σ r σ' ∧ Q r σ'
/-- a method called -/
def zM (d M : Nat) (as : List Value) (σ : zH) (Q : Option Value → zH → Prop) : Prop := zW d M 0 (lv_args 0 as) [] σ Q
theorem zW_p {d M pc pc' : Nat} {lc lc' : zC} {st st' : List Value} {σ σ1 : zH} {P : Prop} {Q : Option Value → zH → Prop} (h : zst d M pc lc st σ = some (P, .inl (pc', lc', st', σ1))) (hP : P) (k : zW d M pc' lc' st' σ1 Q) : zW d M pc lc st σ Q := by
  obtain ⟨n, r, σ', h1, h2⟩ := k
  exact ⟨n + 1, r, σ', Or.inr ⟨P, _, h, hP, h1⟩, h2⟩
theorem zW_s {d M pc pc' : Nat} {lc lc' : zC} {st st' : List Value} {σ σ1 : zH} {Q : Option Value → zH → Prop} (h : zst d M pc lc st σ = some (True, .inl (pc', lc', st', σ1))) (k : zW d M pc' lc' st' σ1 Q) : zW d M pc lc st σ Q := zW_p h trivial k
theorem zW_c {d M pc pc' M' : Nat} {lc : zC} {st st' as : List Value} {σ : zH} {P : Prop} {Q : Option Value → zH → Prop} (h : zst (d + 1) M pc lc st σ = some (P, .inr (.inl (M', as, pc', st')))) (hP : P) (k : zM d M' as σ (fun r1 σ1 => zW (d + 1) M pc' lc (r1.toList ++ st') σ1 Q)) : zW (d + 1) M pc lc st σ Q := by
  obtain ⟨n, r1, σ1, h1, m, r, σ', h2, h3⟩ := k
  exact ⟨n + m + 1, r, σ', Or.inr ⟨P, _, h, hP, d, r1, σ1, rfl, zrun_le (by omega) h1, zrun_le (by omega) h2⟩, h3⟩
theorem zW_r {d M pc : Nat} {lc : zC} {st : List Value} {σ : zH} {P : Prop} {v : Option Value} {Q : Option Value → zH → Prop} (h : zst d M pc lc st σ = some (P, .inr (.inr v))) (hP : P) (k : Q v σ) : zW d M pc lc st σ Q := ⟨1, v, σ, Or.inr ⟨P, _, h, hP, rfl, rfl⟩, k⟩
theorem zW_f {d M pc : Nat} {lc lc' : zC} {st : List Value} {σ : zH} {Q : Option Value → zH → Prop} (h : ∀ q ∈ lc', q ∈ lc) (k : zW d M pc lc' st σ Q) : zW d M pc lc st σ Q := by
  obtain ⟨n, r, σ', h1, h2⟩ := k
  exact ⟨n + 1, r, σ', Or.inl ⟨lc', h, h1⟩, h2⟩
/-- fewer locals, by their places in the list -/
theorem zW_k {d M pc : Nat} {lc lc' : zC} {st : List Value} {σ : zH} {Q : Option Value → zH → Prop} (ks : List Nat) (h : lv_pick lc ks = lc') (k : zW d M pc lc' st σ Q) : zW d M pc lc st σ Q := by
  refine zW_f (fun q hq => ?_) k
  rw [← h] at hq
  obtain ⟨j, -, hj⟩ := List.mem_filterMap.mp hq
  exact List.mem_of_getElem? hj
theorem zW_m {d M pc : Nat} {lc : zC} {st : List Value} {σ : zH} {Q Q' : Option Value → zH → Prop} (h : ∀ r σ', Q r σ' → Q' r σ') (k : zW d M pc lc st σ Q) : zW d M pc lc st σ Q' := by
  obtain ⟨n, r, σ', h1, h2⟩ := k
  exact ⟨n, r, σ', h1, h _ _ h2⟩
theorem zM_m {d M : Nat} {as : List Value} {σ : zH} {Q Q' : Option Value → zH → Prop} (k : zM d M as σ Q) (h : ∀ r σ', Q r σ' → Q' r σ') : zM d M as σ Q' := zW_m h k
theorem zW_if {d M : Nat} {c : Prop} [Decidable c] {a b : Nat} {lc : zC} {st : List Value} {σ : zH} {Q : Option Value → zH → Prop} (h1 : c → zW d M a lc st σ Q) (h2 : ¬ c → zW d M b lc st σ Q) : zW d M (if c then a else b) lc st σ Q := by
  by_cases h : c
  · rw [if_pos h]; exact h1 h
  · rw [if_neg h]; exact h2 h
