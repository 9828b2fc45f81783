def zMd : Nat × MethodName × ByteArray × Nat × Option FieldType := (99, ⟨"", "", ""⟩, ⟨#[]⟩, 0, none)
/-- a method's class, name, bytes, locals, answer; its parameters' number -/
def zcn (M : Nat) : Nat := (zMs.getD M zMd).1
def zyM (M : Nat) : MethodName := (zMs.getD M zMd).2.1
def zby (M : Nat) : ByteArray := (zMs.getD M zMd).2.2.1
def zml (M : Nat) : Nat := (zMs.getD M zMd).2.2.2.1
def zrt (M : Nat) : Option FieldType := (zMs.getD M zMd).2.2.2.2
def zNp : List Nat := [0, 3, 1, 3, 2, 3, 2, 3, 2, 0, 1, 4, 1, 2, 0, 2, 2, 1, 0, 1, 1, 3, 3, 4, 3, 1, 1, 1, 0, 0, 1, 2, 2, 2, 2, 2, 1, 0, 1, 0, 2, 0, 1, 4, 3, 1, 1, 3, 1, 4, 1, 0, 3, 0, 0, 0, 1, 1, 0, 1, 0, 2, 1, 1, 2, 3, 1, 1, 2, 2, 2, 1, 2, 3, 3, 2, 3, 2, 2, 2, 1, 2, 2, 2, 0, 1, 0, 1, 3, 2, 2, 2, 3, 4, 1, 1, 0, 0, 0, 0, 2, 3, 1, 2, 2, 0, 5, 1, 1, 4, 0, 0, 0, 0, 0, 1, 1, 0, 2, 0, 1, 1, 1, 0, 0, 0, 2, 0, 5, 1, 1, 0, 0, 1, 4, 0, 1, 0, 1, 0, 1, 1, 0, 1, 2, 0, 1, 1, 1, 1, 0, 2, 0, 1, 0, 1, 1, 2, 2, 2, 4, 1, 0, 0, 0, 0, 0, 0, 0, 2, 2, 1, 1, 0, 2, 1, 2, 3, 1, 2, 2, 2, 2, 1, 1, 2, 2, 4, 2, 2, 3, 2, 1, 0, 1, 1, 1, 0, 2, 2, 0, 1, 0, 1, 1]
def zcs (c : Nat) : String := match zCl[c]? with | some r => r.1 | none => ""
def zfd (c j : Nat) : String × String × String × Bool := match zCl[c]? with | some r => r.2.1 j | none => ("", "", "", false)
def zft (c j : Nat) : Nat := (zFt.getD c []).getD j 9
/-- the word stands at that place, and is a good one -/
def zwd (pl : Nat) (w : Cond) : Bool := decide (lw_tbl[pl]? = some w) && goodWord w
def zwn (pl : Nat) (w : Cond) : Bool := decide (lw_tbl[pl]? = some w)
def zaux (M pc : Nat) : zEnt → Bool
  | (i, nx, a, b, c, k, v, sw) => match i with
    | .iconst n => Nat.beq nx (pc + 1) && decide (n = v)
    | .bipush n => Nat.beq nx (pc + 2) && decide ((Int8.ofInt n).toInt32 = Int32.ofInt v)
    | .sipush n => Nat.beq nx (pc + 3) && decide ((Int16.ofInt n).toInt32 = Int32.ofInt v)
    | .lconst n => Nat.beq nx (pc + 1) && decide (Int64.ofNat (n : Nat) = Int64.ofInt v)
    | .ldc2_w x => Nat.beq nx (pc + 3) && zwd a (.constantLong (zcs (zcn M)) x (Int64.ofInt v))
    | .ldc x => Nat.beq nx (pc + 2) && (bif Nat.beq c 0 then zwd a (.constant (zcs (zcn M)) x (Int32.ofInt v)) else bif Nat.beq c 1 then (Nat.beq (zcn M) 8 && Nat.beq x 61) else true)
    | .iload x => Nat.beq nx (pc + 2) && Nat.beq x a
    | .iload_n x => Nat.beq nx (pc + 1) && Nat.beq x.val a
    | .lload x => Nat.beq nx (pc + 2) && Nat.beq x a
    | .lload_n x => Nat.beq nx (pc + 1) && Nat.beq x.val a
    | .aload x => Nat.beq nx (pc + 2) && Nat.beq x a
    | .aload_n x => Nat.beq nx (pc + 1) && Nat.beq x.val a
    | .istore x => Nat.beq nx (pc + 2) && (Nat.beq x a && Nat.blt a (zml M))
    | .istore_n x => Nat.beq nx (pc + 1) && (Nat.beq x.val a && Nat.blt a (zml M))
    | .astore x => Nat.beq nx (pc + 2) && (Nat.beq x a && Nat.blt a (zml M))
    | .astore_n x => Nat.beq nx (pc + 1) && (Nat.beq x.val a && Nat.blt a (zml M))
    | .lstore x => Nat.beq nx (pc + 2) && (Nat.beq x a && Nat.blt (a + 1) (zml M))
    | .lstore_n x => Nat.beq nx (pc + 1) && (Nat.beq x.val a && Nat.blt (a + 1) (zml M))
    | .iinc x n => Nat.beq nx (pc + 3) && (Nat.beq x a && (Nat.blt a (zml M) && decide (n = v)))
    | .iadd => Nat.beq nx (pc + 1)
    | .isub => Nat.beq nx (pc + 1)
    | .imul => Nat.beq nx (pc + 1)
    | .iand => Nat.beq nx (pc + 1)
    | .ior => Nat.beq nx (pc + 1)
    | .ixor => Nat.beq nx (pc + 1)
    | .ishl => Nat.beq nx (pc + 1)
    | .ishr => Nat.beq nx (pc + 1)
    | .iushr => Nat.beq nx (pc + 1)
    | .irem => Nat.beq nx (pc + 1)
    | .ladd => Nat.beq nx (pc + 1)
    | .lsub => Nat.beq nx (pc + 1)
    | .lmul => Nat.beq nx (pc + 1)
    | .land => Nat.beq nx (pc + 1)
    | .lor => Nat.beq nx (pc + 1)
    | .ldiv => Nat.beq nx (pc + 1)
    | .lshl => Nat.beq nx (pc + 1)
    | .lshr => Nat.beq nx (pc + 1)
    | .lushr => Nat.beq nx (pc + 1)
    | .lcmp => Nat.beq nx (pc + 1)
    | .i2l => Nat.beq nx (pc + 1)
    | .l2i => Nat.beq nx (pc + 1)
    | .i2b => Nat.beq nx (pc + 1)
    | .dup => Nat.beq nx (pc + 1)
    | .dup2 => Nat.beq nx (pc + 1)
    | .pop => Nat.beq nx (pc + 1)
    | .iaload => Nat.beq nx (pc + 1)
    | .baload => Nat.beq nx (pc + 1)
    | .laload => Nat.beq nx (pc + 1)
    | .aaload => Nat.beq nx (pc + 1)
    | .iastore => Nat.beq nx (pc + 1)
    | .bastore => Nat.beq nx (pc + 1)
    | .lastore => Nat.beq nx (pc + 1)
    | .aastore => Nat.beq nx (pc + 1)
    | .if_icmp _ o => Nat.beq nx (pc + 3) && decide ((pc : Int) + o = (a : Int))
    | .ifCond _ o => Nat.beq nx (pc + 3) && decide ((pc : Int) + o = (a : Int))
    | .goto o => Nat.beq nx (pc + 3) && decide ((pc : Int) + o = (a : Int))
    | .tableswitch df lo hi offs => decide ((pc : Int) + df = (a : Int)) && (decide (sw.map (fun q => (q.1, (q.2 : Int))) = (List.range offs.size).map (fun (j : Nat) => (lo + (j : Int), (pc : Int) + offs.toList.getD j 0))) && (decide (hi + 1 - lo = (offs.size : Int)) && (decide (0 ≤ lo) && decide (hi < 2147483648))))
    | .lookupswitch df ps => decide ((pc : Int) + df = (a : Int)) && (decide (sw.map (fun q => (q.1, (q.2 : Int))) = ps.toList.map (fun q => (q.1, (pc : Int) + q.2))) && (decide ((ps.toList.zip (ps.toList.drop 1)).all (fun (a, next) => a.1 < next.1) = true) && ps.toList.all (fun q => decide (0 ≤ q.1) && decide (q.1 < 2147483648))))
    | .getfield x => Nat.beq nx (pc + 3) && (zFl.any (fun q => Nat.beq q.1 (zcn M) && (Nat.beq q.2.1 x && (Nat.beq (q.2.2.1 + 1) a && Nat.beq q.2.2.2.1 b))) && Nat.beq (zft (a - 1) b) c)
    | .putfield x => Nat.beq nx (pc + 3) && (zFl.any (fun q => Nat.beq q.1 (zcn M) && (Nat.beq q.2.1 x && (Nat.beq (q.2.2.1 + 1) a && Nat.beq q.2.2.2.1 b))) && (Nat.beq (zft (a - 1) b) c && (!(zfd (a - 1) b).2.2.2 || (decide ((zyM M).name = "<init>") && decide ((zfd (a - 1) b).1 = zcs (zcn M))))))
    | .getstatic x => Nat.beq nx (pc + 3) && (Nat.beq M 68 && Nat.beq x 71)
    | .new x => Nat.beq nx (pc + 3) && (Nat.beq a 0 || (Nat.blt a 14 && (zwd c (.classLink (zcs (zcn M)) x (zcs (a - 1))) && (Nat.beq b (zFt.getD (a - 1) []).length && (zwd k (.instantiable (zcs (a - 1)) b) && zwd v.toNat (.initialized (zcs (a - 1))))))))
    | .newarray t => Nat.beq nx (pc + 2) && (match t with | .int => Nat.beq a 20 | .long => Nat.beq a 21 | .byte => Nat.beq a 22 | _ => false)
    | .anewarray x => Nat.beq nx (pc + 3) && (Nat.beq a 23 && zwd c (.classLink (zcs (zcn M)) x "ConjurerDesk$Step") || Nat.beq a 24 && zwd c (.classLink (zcs (zcn M)) x "ConjurerDesk$Ways"))
    | .invokestatic x => Nat.beq nx (pc + 3) && (match c with | 0 => zMl.any (fun q => Nat.beq q.1 (zcn M) && (Nat.beq q.2.1 x && (Nat.beq q.2.2.1 a && Nat.beq q.2.2.2.1 c))) && (Nat.beq b (zNp.getD a 99) && decide (v.toNat = zml a)) | 5 => zwd a (.methodLink (zcs (zcn M)) x Lib.Math.max.name) | 6 => zwd a (.methodLink (zcs (zcn M)) x Lib.Math.min.name) | 7 => zwd a (.methodLink (zcs (zcn M)) x ⟨"java/lang/Math", "min", "(JJ)J"⟩) | _ => true)
    | .invokevirtual x => Nat.beq nx (pc + 3) && (match c with | 1 => zMl.any (fun q => Nat.beq q.1 (zcn M) && (Nat.beq q.2.1 x && (Nat.beq q.2.2.1 a && Nat.beq q.2.2.2.1 c))) && (Nat.beq b (zNp.getD a 99 + 1) && (decide (v.toNat = zml a) && Nat.beq k (zcn a + 1))) | 8 => Nat.beq M 93 && Nat.beq x 63 | _ => true)
    | .invokespecial x => Nat.beq nx (pc + 3) && (match c with | 2 => zMl.any (fun q => Nat.beq q.1 (zcn M) && (Nat.beq q.2.1 x && (Nat.beq q.2.2.1 a && Nat.beq q.2.2.2.1 c))) && (Nat.beq b (zNp.getD a 99 + 1) && (decide (v.toNat = zml a) && Nat.beq k (zcn a + 1))) | 3 => zMl.any (fun q => Nat.beq q.1 (zcn M) && (Nat.beq q.2.1 x && (Nat.beq q.2.2.1 a && Nat.beq q.2.2.2.1 c))) && (Nat.beq b (zNp.getD a 99 + 1) && (decide (v.toNat = zml a) && Nat.beq k (zcn a + 1))) | 4 => zwd a (.methodLink (zcs (zcn M)) x Lib.objectInit) | _ => true)
    | .ireturn => Nat.beq nx (pc + 1) && (match c with | 0 => decide (zrt M = some .int) | 3 => decide (zrt M = some .boolean) | _ => true)
    | .lreturn => Nat.beq nx (pc + 1) && decide (zrt M = some .long)
    | .return_ => Nat.beq nx (pc + 1) && decide (zrt M = none)
    | _ => true
def zok (M pc : Nat) (q : zEnt) : Bool := decide (decode (zby M) pc = .ok (q.1, q.2.1 - pc)) && zaux M pc q
theorem zg_ok {M n : Nat} {t : Nat → Option zEnt} (h : ∀ pc, pc < n → (t pc).all (zok M pc) = true) : ∀ pc q, (bif Nat.blt pc n then t pc else none) = some q → zok M pc q = true := by
  intro pc q hq
  cases hb : Nat.blt pc n with
  | false => rw [hb] at hq; cases hq
  | true =>
    rw [hb] at hq
    have h1 : pc < n := by simpa [Nat.blt, Nat.ble_eq, Nat.succ_le_iff] using hb
    have h2 := h pc h1
    have h3 : t pc = some q := hq
    rw [h3] at h2
    exact h2
