/-! numbers (the wb_ rows: pasted from kit/laws/BITS.to-paste) -/
theorem wb_tb (n : Nat) : (lN n).toBitVec = BitVec.ofNat 64 n := rfl
theorem wb_inj {a b : Int64} (h : a.toBitVec = b.toBitVec) : a = b := Int64.toBitVec_inj.mp h
theorem wb_tn {n : Nat} (h : n < 2 ^ 64) : (lN n).toBitVec.toNat = n := by rw [wb_tb, BitVec.toNat_ofNat, Nat.mod_eq_of_lt h]
theorem wb_of (x : Int64) : ∃ n, n < 2 ^ 64 ∧ x = lN n := ⟨x.toBitVec.toNat, x.toBitVec.isLt, wb_inj (by rw [wb_tb]; simp)⟩
theorem wb_of32 (x : Int32) : ∃ n, n < 2 ^ 32 ∧ x = nI n := ⟨x.toBitVec.toNat, x.toBitVec.isLt, Int32.toBitVec_inj.mp (by show _ = BitVec.ofNat 32 _; simp)⟩
theorem wb_c : ∀ k, k < 64 → ((nI k).toInt64 &&& 63) = lN k := by decide +kernel
theorem wb_cu : ∀ k, k < 64 → ((nI k).toInt64.toUInt64 &&& Int64.toUInt64 63) = UInt64.ofNat k := by decide +kernel
theorem wb_sm : ∀ k, k < 64 → (BitVec.ofNat 64 k).smod 64 = BitVec.ofNat 64 k := by decide +kernel
theorem wb_pw {a b : Nat} (h : a ≤ b) : 2 ^ b = 2 ^ a * 2 ^ (b - a) := by rw [← Nat.pow_add]; congr 1; omega
theorem wb_lt2 {a b : Nat} (h : a < b) : 2 ^ a < 2 ^ b := Nat.pow_lt_pow_right (by decide) h
theorem wb_mod (n : Nat) : lN n = lN (n % 2 ^ 64) := wb_inj (by rw [wb_tb, wb_tb]; apply BitVec.eq_of_toNat_eq; rw [BitVec.toNat_ofNat, BitVec.toNat_ofNat, Nat.mod_mod])
theorem wb_shr {n k : Nat} (hn : n < 2 ^ 64) (hk : k < 64) : ((lN n).toUInt64 >>> ((nI k).toInt64.toUInt64 &&& Int64.toUInt64 63)).toInt64 = lN (n / 2 ^ k) := by
  rw [wb_cu k hk]
  apply wb_inj
  apply BitVec.eq_of_toNat_eq
  show ((lN n).toUInt64 >>> UInt64.ofNat k).toNat = (BitVec.ofNat 64 _).toNat
  have h1 : (UInt64.ofNat k).toNat = k := by
    show (BitVec.ofNat 64 k).toNat = k
    rw [BitVec.toNat_ofNat, Nat.mod_eq_of_lt (by omega)]
  have h2 : (lN n).toUInt64.toNat = n := wb_tn hn
  rw [UInt64.toNat_shiftRight, h1, h2, Nat.mod_eq_of_lt hk, Nat.shiftRight_eq_div_pow, BitVec.toNat_ofNat, Nat.mod_eq_of_lt (Nat.lt_of_le_of_lt (Nat.div_le_self _ _) hn)]
theorem wb_shl (n : Nat) {k : Nat} (hk : k < 64) : lN n <<< ((nI k).toInt64 &&& 63) = lN (n * 2 ^ k) := by
  rw [wb_c k hk]
  apply wb_inj
  rw [Int64.toBitVec_shiftLeft, wb_tb, wb_tb, wb_tb, wb_sm k hk]
  apply BitVec.eq_of_toNat_eq
  rw [BitVec.shiftLeft_eq', BitVec.toNat_shiftLeft, BitVec.toNat_ofNat, BitVec.toNat_ofNat, BitVec.toNat_ofNat, Nat.mod_eq_of_lt (show k < 2 ^ 64 by omega), Nat.shiftLeft_eq, Nat.mul_mod, Nat.mod_mod, ← Nat.mul_mod]
theorem wb_and {a b : Nat} (ha : a < 2 ^ 64) (hb : b < 2 ^ 64) : lN a &&& lN b = lN (a &&& b) := by
  apply wb_inj
  rw [Int64.toBitVec_and, wb_tb, wb_tb, wb_tb]
  apply BitVec.eq_of_toNat_eq
  rw [BitVec.toNat_and, BitVec.toNat_ofNat, BitVec.toNat_ofNat, BitVec.toNat_ofNat, Nat.mod_eq_of_lt ha, Nat.mod_eq_of_lt hb, Nat.mod_eq_of_lt (Nat.and_lt_two_pow _ hb)]
theorem wb_or {a b : Nat} (ha : a < 2 ^ 64) (hb : b < 2 ^ 64) : lN a ||| lN b = lN (a ||| b) := by
  apply wb_inj
  rw [Int64.toBitVec_or, wb_tb, wb_tb, wb_tb]
  apply BitVec.eq_of_toNat_eq
  rw [BitVec.toNat_or, BitVec.toNat_ofNat, BitVec.toNat_ofNat, BitVec.toNat_ofNat, Nat.mod_eq_of_lt ha, Nat.mod_eq_of_lt hb, Nat.mod_eq_of_lt (Nat.or_lt_two_pow ha hb)]
theorem wb_mask {n k : Nat} (hn : n < 2 ^ 64) (hk : k < 64) : lN n &&& lN (2 ^ k - 1) = lN (n % 2 ^ k) := by
  rw [wb_and hn (by have := wb_lt2 hk; omega), Nat.and_two_pow_sub_one_eq_mod]
theorem wb_a1 {n : Nat} (hn : n < 2 ^ 64) : lN n &&& 1 = lN (n % 2) := wb_mask (k := 1) hn (by decide)
theorem wb_bit {n k : Nat} (hn : n < 2 ^ 64) (hk : k < 64) : ((lN n).toUInt64 >>> ((nI k).toInt64.toUInt64 &&& Int64.toUInt64 63)).toInt64 &&& 1 = lN (n / 2 ^ k % 2) := by
  rw [wb_shr hn hk, wb_a1 (Nat.lt_of_le_of_lt (Nat.div_le_self _ _) hn)]
theorem zlsl_N (a : Nat) {k : Nat} (hk : k < 64) : zlsl (lN a) (nI k) = lN (a * 2 ^ k) := wb_shl a hk
theorem zlus_N {a k : Nat} (ha : a < 2 ^ 64) (hk : k < 64) : zlus (lN a) (nI k) = lN (a / 2 ^ k) := wb_shr ha hk
theorem zlsr_N {a k : Nat} (ha : a < 2 ^ 63) (hk : k < 64) : zlsr (lN a) (nI k) = lN (a / 2 ^ k) := by
  unfold zlsr
  rw [wb_c k hk]
  apply Int64.toInt_inj.mp
  have hs : ((lN k).toBitVec.smod 64).toNat = k := by rw [wb_tb, wb_sm k hk, BitVec.toNat_ofNat, Nat.mod_eq_of_lt (by omega)]
  show ((lN a).toBitVec.sshiftRight ((lN k).toBitVec.smod 64).toNat).toInt = _
  have h2 : a / 2 ^ k ≤ a := Nat.div_le_self _ _
  have h3 : (lN a).toBitVec.toInt = (a : Int) := pk_lT ha
  rw [hs, BitVec.toInt_sshiftRight, h3, pk_lT (by omega), Int.shiftRight_eq_div_pow]
  rfl
/-- a mask of an int out of any number -/
theorem znand (a k : Nat) (hk : k ≤ 31) : nI a &&& nI (2 ^ k - 1) = nI (a % 2 ^ k) := by
  have hlt : 2 ^ k ≤ 2 ^ 31 := Nat.pow_le_pow_right (by decide) hk
  have h0 := Nat.two_pow_pos k
  rw [pk_and (nI a) k (by rw [pk_tn (by omega)])]
  congr 1
  show (a % 2 ^ 32) % 2 ^ k = a % 2 ^ k
  exact Nat.mod_mod_of_dvd _ (Nat.pow_dvd_pow 2 (by omega))
theorem zand15 (a : Nat) : nI a &&& nI 15 = nI (a % 16) := znand a 4 (by decide)
theorem zand31 (a : Nat) : nI a &&& nI 31 = nI (a % 32) := znand a 5 (by decide)
theorem zand1 (a : Nat) : nI a &&& nI 1 = nI (a % 2) := znand a 1 (by decide)
theorem zand3 (a : Nat) : nI a &&& nI 3 = nI (a % 4) := znand a 2 (by decide)
theorem zand127 (a : Nat) : nI a &&& nI 127 = nI (a % 128) := znand a 7 (by decide)
theorem zand255 (a : Nat) : nI a &&& nI 255 = nI (a % 256) := znand a 8 (by decide)
/-- bits put between others -/
theorem zor {hi lo x s w : Nat} (hlo : lo < 2 ^ s) (hx : x < 2 ^ w) : (hi * 2 ^ (s + w) + lo) ||| (x * 2 ^ s) = hi * 2 ^ (s + w) + x * 2 ^ s + lo := by
  have e1 : x * 2 ^ s + lo < 2 ^ (s + w) := by
    rw [Nat.pow_add, Nat.mul_comm (2 ^ s)]
    have : (x + 1) * 2 ^ s ≤ 2 ^ w * 2 ^ s := Nat.mul_le_mul_right _ hx
    rw [Nat.add_mul] at this
    omega
  have e2 : lo < 2 ^ (s + w) := by omega
  have f1 := Nat.shiftLeft_add_eq_or_of_lt e2 hi
  have f2 := Nat.shiftLeft_add_eq_or_of_lt hlo x
  have f3 := Nat.shiftLeft_add_eq_or_of_lt e1 hi
  rw [Nat.shiftLeft_eq] at f1 f2 f3
  rw [f1, Nat.or_assoc, Nat.or_comm lo, ← f2, ← f3]
  omega
/-- digits of 32, the lowest first -/
def zdig : List Nat → Nat
  | [] => 0
  | c :: l => c + 32 * zdig l
theorem zdig_app (a b : List Nat) : zdig (a ++ b) = zdig a + 32 ^ a.length * zdig b := by
  induction a with
  | nil => simp [zdig]
  | cons c l ih =>
    simp only [List.cons_append, zdig, List.length_cons, ih, Nat.mul_add, Nat.pow_succ, ← Nat.mul_assoc, Nat.mul_comm (32 ^ l.length) 32]
    omega
theorem zdig_lt {l : List Nat} (h : ∀ c ∈ l, c < 32) : zdig l < 32 ^ l.length := by
  induction l with
  | nil => simp [zdig]
  | cons c l ih =>
    have h1 := h c (by simp)
    have h2 := ih (fun x hx => h x (by simp [hx]))
    simp only [zdig, List.length_cons, Nat.pow_succ]
    omega
theorem zdig_inj {a b : List Nat} (ha : ∀ c ∈ a, c < 32) (hb : ∀ c ∈ b, c < 32) (hl : a.length = b.length) (h : zdig a = zdig b) : a = b := by
  induction a generalizing b with
  | nil => cases b with
    | nil => rfl
    | cons => simp at hl
  | cons c l ih => cases b with
    | nil => simp at hl
    | cons c' l' =>
      simp only [zdig] at h
      have h1 := ha c (by simp)
      have h2 := hb c' (by simp)
      rw [ih (b := l') (fun x hx => ha x (by simp [hx])) (fun x hx => hb x (by simp [hx])) (by simpa using hl) (by omega)]
      congr 1
      omega
theorem zp32 (k : Nat) : 32 ^ k = 2 ^ (5 * k) := by rw [Nat.pow_mul]
