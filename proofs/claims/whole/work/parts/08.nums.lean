/-- what the functions that are read off the code are made with -/
def bd {α β : Type} (a : α) (f : α → β) : β := f a
def bI {α : Type} (o : Option (Int × Mm)) (g : Int → Mm → Option α) : Option α := match o with | some q => g q.1 q.2 | none => none
def bV {α : Type} (o : Option Mm) (g : Mm → Option α) : Option α := match o with | some q => g q | none => none
def gd {α : Type} (c : Prop) [Decidable c] (o : Option α) : Option α := if c then o else none
abbrev injI (q : Int × Mm) : Option Value × Mm := (some (vI q.1), q.2)
abbrev injJ (q : Int × Mm) : Option Value × Mm := (some (vJ q.1), q.2)
abbrev injV (q : Mm) : Option Value × Mm := (none, q)
def sat {α : Type} (inj : α → Option Value × Mm) (o : Option α) (Q : Option Value → Mm → Prop) : Prop := ∃ a, o = some a ∧ Q (inj a).1 (inj a).2
abbrev Ev : Type := Ctr × String × ByteArray × Nat × Prop × Nat × (Nat → Int32) × Option FieldType
def WPe (E : Ev) (Q : Option Value → Mm → Prop) (pc : Nat) (ls : List (Nat × Value)) (st : List Value) (M : Mm) : Prop := WP E.1 E.2.1 E.2.2.1 E.2.2.2.1 E.2.2.2.2.1 E.2.2.2.2.2.1 E.2.2.2.2.2.2.1 E.2.2.2.2.2.2.2 Q pc ls st M
def T {α : Type} (E : Ev) (inj : α → Option Value × Mm) (pc : Nat) (ls : List (Nat × Value)) (st : List Value) (M : Mm) (o : Option α) : Prop := ∀ Q, sat inj o Q → WPe E Q pc ls st M
/-! numbers -/
def shl32 (x s : Int) : Int := x * 2 ^ (s % 32).toNat
def shr32 (x s : Int) : Int := i32 x / 2 ^ (s % 32).toNat
def and32 (x y : Int) : Int := (Int32.ofInt x &&& Int32.ofInt y).toInt
def or32 (x y : Int) : Int := (Int32.ofInt x ||| Int32.ofInt y).toInt
def xor32 (x y : Int) : Int := (Int32.ofInt x ^^^ Int32.ofInt y).toInt
def shl64 (x s : Int) : Int := x * 2 ^ (s % 64).toNat
def shr64 (x s : Int) : Int := i64 x / 2 ^ (s % 64).toNat
def and64 (x y : Int) : Int := (Int64.ofInt x &&& Int64.ofInt y).toInt
def cmp64 (x y : Int) : Int := if i64 y < i64 x then 1 else if i64 x = i64 y then 0 else -1
def chr16 (x : Int) : Int := i32 x % 65536
theorem ofInt_toInt32 (x : Int32) : Int32.ofInt x.toInt = x := by simp
theorem i32_def (x : Int) : i32 x = x.bmod (2 ^ 32) := by simp [i32, Int32.toInt_ofInt]
theorem i64_def (x : Int) : i64 x = x.bmod (2 ^ 64) := by simp [i64, Int64.toInt_ofInt]
theorem i32_id {x : Int} (h1 : -2147483648 ≤ x) (h2 : x < 2147483648) : i32 x = x := by rw [i32_def, Int.bmod_def]; split <;> omega
theorem i64_id {x : Int} (h1 : -9223372036854775808 ≤ x) (h2 : x < 9223372036854775808) : i64 x = x := by rw [i64_def, Int.bmod_def]; split <;> omega
theorem i32_rng (x : Int) : -2147483648 ≤ i32 x ∧ i32 x < 2147483648 := by rw [i32_def, Int.bmod_def]; split <;> omega
theorem i64_rng (x : Int) : -9223372036854775808 ≤ i64 x ∧ i64 x < 9223372036854775808 := by rw [i64_def, Int.bmod_def]; split <;> omega
theorem i32_of (x : Int32) : i32 x.toInt = x.toInt := by simp [i32]
theorem vI_i32 (x : Int) : vI (i32 x) = vI x := by
  show Value.int (Int32.ofInt (Int32.ofInt x).toInt) = Value.int (Int32.ofInt x)
  rw [Int32.ofInt_toInt]
theorem vI_of (x : Int32) : vI x.toInt = .int x := by simp [vI]
theorem i32_eq (x y : Int) : Int32.ofInt x = Int32.ofInt y ↔ i32 x = i32 y := by rw [← Int32.toInt_inj]; rfl
theorem i32_lt (x y : Int) : Int32.ofInt x < Int32.ofInt y ↔ i32 x < i32 y := Int32.lt_iff_toInt_lt
theorem i32_le (x y : Int) : Int32.ofInt x ≤ Int32.ofInt y ↔ i32 x ≤ i32 y := Int32.le_iff_toInt_le
theorem i64_eq (x y : Int) : Int64.ofInt x = Int64.ofInt y ↔ i64 x = i64 y := by rw [← Int64.toInt_inj]; rfl
theorem i64_lt (x y : Int) : Int64.ofInt x < Int64.ofInt y ↔ i64 x < i64 y := Int64.lt_iff_toInt_lt
theorem i32_0 : i32 0 = 0 := by decide
theorem n_bi {n : Int} (h1 : -128 ≤ n) (h2 : n ≤ 127) : (Int8.ofInt n).toInt32 = Int32.ofInt n := by
  apply Int32.toInt_inj.mp
  rw [Int8.toInt_toInt32, Int8.toInt_ofInt, Int32.toInt_ofInt, Int.bmod_def, Int.bmod_def]
  simp only [Int8.size, Int32.size]
  split <;> split <;> omega
theorem n_si {n : Int} (h1 : -32768 ≤ n) (h2 : n ≤ 32767) : (Int16.ofInt n).toInt32 = Int32.ofInt n := by
  apply Int32.toInt_inj.mp
  rw [Int16.toInt_toInt32, Int16.toInt_ofInt, Int32.toInt_ofInt, Int.bmod_def, Int.bmod_def]
  simp only [Int16.size, Int32.size]
  split <;> split <;> omega
theorem n_add (x y : Int) : Int32.ofInt x + Int32.ofInt y = Int32.ofInt (x + y) := (Int32.ofInt_add x y).symm
theorem n_sub (x y : Int) : Int32.ofInt x - Int32.ofInt y = Int32.ofInt (x - y) := (Int32.ofInt_sub x y).symm
theorem n_mul (x y : Int) : Int32.ofInt x * Int32.ofInt y = Int32.ofInt (x * y) := (Int32.ofInt_mul x y).symm
theorem n_neg (x : Int) : -Int32.ofInt x = Int32.ofInt (-x) := (Int32.ofInt_neg x).symm
theorem n_and (x y : Int) : Int32.ofInt x &&& Int32.ofInt y = Int32.ofInt (and32 x y) := by simp [and32]
theorem n_or (x y : Int) : Int32.ofInt x ||| Int32.ofInt y = Int32.ofInt (or32 x y) := by simp [or32]
theorem n_xor (x y : Int) : Int32.ofInt x ^^^ Int32.ofInt y = Int32.ofInt (xor32 x y) := by simp [xor32]
theorem l_add (x y : Int) : Int64.ofInt x + Int64.ofInt y = Int64.ofInt (x + y) := (Int64.ofInt_add x y).symm
theorem l_sub (x y : Int) : Int64.ofInt x - Int64.ofInt y = Int64.ofInt (x - y) := (Int64.ofInt_sub x y).symm
theorem l_mul (x y : Int) : Int64.ofInt x * Int64.ofInt y = Int64.ofInt (x * y) := (Int64.ofInt_mul x y).symm
theorem l_and (x y : Int) : Int64.ofInt x &&& Int64.ofInt y = Int64.ofInt (and64 x y) := by simp [and64]
theorem n_div (x y : Int) : Int32.ofInt x / Int32.ofInt y = Int32.ofInt ((i32 x).tdiv (i32 y)) := by
  apply Int32.toInt_inj.mp
  rw [Int32.toInt_div, Int32.toInt_ofInt (n := (i32 x).tdiv (i32 y))]
  rfl
theorem l_div (x y : Int) : Int64.ofInt x / Int64.ofInt y = Int64.ofInt ((i64 x).tdiv (i64 y)) := by
  apply Int64.toInt_inj.mp
  rw [Int64.toInt_div, Int64.toInt_ofInt (n := (i64 x).tdiv (i64 y))]
  rfl
theorem n_rep (x : Int) : Int32.ofInt x = Int32.ofInt (i32 x) := (Int32.ofInt_toInt _).symm
theorem l_rep (x : Int) : Int64.ofInt x = Int64.ofInt (i64 x) := (Int64.ofInt_toInt _).symm
theorem n_rem (x y : Int) : Int32.ofInt x - Int32.ofInt x / Int32.ofInt y * Int32.ofInt y = Int32.ofInt ((i32 x).tmod (i32 y)) := by
  rw [n_div, n_rep y, n_mul, n_rep x, n_sub]
  congr 1
  rw [Int.tmod_def, Int.mul_comm (i32 y)]
theorem l_rem (x y : Int) : Int64.ofInt x - Int64.ofInt x / Int64.ofInt y * Int64.ofInt y = Int64.ofInt ((i64 x).tmod (i64 y)) := by
  rw [l_div, l_rep y, l_mul, l_rep x, l_sub]
  congr 1
  rw [Int.tmod_def, Int.mul_comm (i64 y)]
theorem n_i2l (x : Int) : (Int32.ofInt x).toInt64 = Int64.ofInt (i32 x) := by
  apply Int64.toInt_inj.mp
  rw [Int32.toInt_toInt64, Int64.toInt_ofInt]
  have := i32_rng x
  show i32 x = _
  rw [Int.bmod_def]
  simp only [Int64.size]
  split <;> omega
theorem n_l2i (x : Int) : (Int64.ofInt x).toInt32 = Int32.ofInt x := by
  apply Int32.toInt_inj.mp
  rw [Int64.toInt_toInt32, Int64.toInt_ofInt, Int32.toInt_ofInt]
  simp only [Int.bmod_def, Int64.size, Int32.size]
  split <;> split <;> split <;> omega
theorem n_cmp (x y : Int) : lg_cmp (Int64.ofInt x) (Int64.ofInt y) = Int32.ofInt (cmp64 x y) := by
  unfold lg_cmp cmp64
  simp only [gt_iff_lt, i64_lt, i64_eq]
  split
  · rfl
  · split <;> rfl
theorem bv32 (x : Int) : (Int32.ofInt x).toBitVec.toNat = (x % 4294967296).toNat := by
  show (BitVec.ofInt 32 x).toNat = _
  rw [BitVec.toNat_ofInt]
  rfl
theorem bv64 (x : Int) : (Int64.ofInt x).toBitVec.toNat = (x % 18446744073709551616).toNat := by
  show (BitVec.ofInt 64 x).toNat = _
  rw [BitVec.toNat_ofInt]
  rfl
theorem msk32 (s : Int) : Int32.ofInt s &&& 31 = nI (s % 32).toNat := by
  rw [pk_and _ 5 (by decide), bv32]
  congr 1
  omega
theorem sm32 : ∀ n, n < 32 → ((nI n).toBitVec.smod 32).toNat = n := by decide +kernel
theorem sm64 : ∀ n, n < 64 → ((lN n).toBitVec.smod 64).toNat = n := by decide +kernel
theorem mulmod (x : Int) (p m : Nat) (hm : 0 < m) : (x % (m : Int)).toNat * p % m = (x * (p : Int) % (m : Int)).toNat := by
  apply Int.ofNat_inj.mp
  have h1 : 0 ≤ x % (m : Int) := Int.emod_nonneg _ (by omega)
  have h2 : 0 ≤ x * (p : Int) % (m : Int) := Int.emod_nonneg _ (by omega)
  rw [Int.natCast_emod, Int.natCast_mul, Int.toNat_of_nonneg h1, Int.toNat_of_nonneg h2, Int.mul_emod, Int.emod_emod_of_dvd _ (Int.dvd_refl _), ← Int.mul_emod]
theorem n_shl (x s : Int) : Int32.ofInt x <<< (Int32.ofInt s &&& 31) = Int32.ofInt (shl32 x s) := by
  rw [msk32]
  apply Int32.toBitVec_inj.mp
  apply BitVec.eq_of_toNat_eq
  rw [pk_shl _ _ _ (sm32 _ (by omega)), bv32, bv32, shl32]
  have := mulmod x (2 ^ (s % 32).toNat) 4294967296 (by decide)
  rw [Int.natCast_pow] at this
  exact this
theorem n_shr (x s : Int) : Int32.ofInt x >>> (Int32.ofInt s &&& 31) = Int32.ofInt (shr32 x s) := by
  rw [msk32, ← ofInt_toInt32 (Int32.ofInt x >>> _)]
  congr 1
  rw [pk_shr _ _ _ (sm32 _ (by omega)), Int.shiftRight_eq_div_pow, shr32, Int.natCast_pow]
  rfl
theorem msk64 (s : Int) : (Int32.ofInt s).toInt64 &&& 63 = lN (s % 64).toNat := by
  rw [n_i2l]
  apply Int64.toBitVec_inj.mp
  apply BitVec.eq_of_toNat_eq
  rw [Int64.toBitVec_and, BitVec.toNat_and, bv64, show (63 : Int64).toBitVec.toNat = 2 ^ 6 - 1 by decide, Nat.and_two_pow_sub_one_eq_mod]
  show _ = (BitVec.ofNat 64 _).toNat
  rw [BitVec.toNat_ofNat, i32_def, Int.bmod_def]
  split <;> omega
theorem l_shl (x s : Int) : Int64.ofInt x <<< ((Int32.ofInt s).toInt64 &&& 63) = Int64.ofInt (shl64 x s) := by
  rw [msk64]
  apply Int64.toBitVec_inj.mp
  apply BitVec.eq_of_toNat_eq
  show ((Int64.ofInt x).toBitVec <<< ((lN (s % 64).toNat).toBitVec.smod 64).toNat).toNat = _
  rw [sm64 _ (by omega), BitVec.toNat_shiftLeft, Nat.shiftLeft_eq, bv64, bv64, shl64]
  have := mulmod x (2 ^ (s % 64).toNat) 18446744073709551616 (by decide)
  rw [Int.natCast_pow] at this
  exact this
theorem l_shr (x s : Int) : Int64.ofInt x >>> ((Int32.ofInt s).toInt64 &&& 63) = Int64.ofInt (shr64 x s) := by
  rw [msk64, ← Int64.ofInt_toInt (Int64.ofInt x >>> _)]
  congr 1
  show ((Int64.ofInt x).toBitVec.sshiftRight ((lN (s % 64).toNat).toBitVec.smod 64).toNat).toInt = _
  rw [sm64 _ (by omega), BitVec.toInt_sshiftRight, Int.shiftRight_eq_div_pow, shr64, Int.natCast_pow]
  rfl
theorem n_i2c (x : Int) : ((Int32.ofInt x).toUInt32 % 65536).toInt32 = Int32.ofInt (chr16 x) := by
  rw [pk_char, bv32]
  show Int32.ofInt (((x % 4294967296).toNat % 65536 : Nat) : Int) = _
  congr 1
  rw [chr16, i32_def, Int.bmod_def]
  split <;> omega
