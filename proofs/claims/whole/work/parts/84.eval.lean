theorem c64 {x y : Int} (h1 : -9223372036854775808 ≤ x) (h2 : x < 9223372036854775808) (h3 : -9223372036854775808 ≤ y) (h4 : y < 9223372036854775808) : i32 (cmp64 x y) = if y < x then 1 else if x = y then 0 else -1 := by
  unfold cmp64
  rw [i64_id h1 h2, i64_id h3 h4]
  split
  · decide
  · split <;> decide
theorem c64_lt {x y : Int} (h1 : -9223372036854775808 ≤ x) (h2 : x < 9223372036854775808) (h3 : -9223372036854775808 ≤ y) (h4 : y < 9223372036854775808) : (i32 (cmp64 x y) < 0) ↔ x < y := by
  rw [c64 h1 h2 h3 h4]; split
  · constructor <;> intro h <;> omega
  · split <;> constructor <;> intro h <;> omega
theorem c64_gt {x y : Int} (h1 : -9223372036854775808 ≤ x) (h2 : x < 9223372036854775808) (h3 : -9223372036854775808 ≤ y) (h4 : y < 9223372036854775808) : (0 < i32 (cmp64 x y)) ↔ y < x := by
  rw [c64 h1 h2 h3 h4]; split
  · constructor <;> intro h <;> omega
  · split <;> constructor <;> intro h <;> omega
theorem c64_ge {x y : Int} (h1 : -9223372036854775808 ≤ x) (h2 : x < 9223372036854775808) (h3 : -9223372036854775808 ≤ y) (h4 : y < 9223372036854775808) : (0 ≤ i32 (cmp64 x y)) ↔ y ≤ x := by
  rw [c64 h1 h2 h3 h4]; split
  · constructor <;> intro h <;> omega
  · split <;> constructor <;> intro h <;> omega
theorem c64_le {x y : Int} (h1 : -9223372036854775808 ≤ x) (h2 : x < 9223372036854775808) (h3 : -9223372036854775808 ≤ y) (h4 : y < 9223372036854775808) : (i32 (cmp64 x y) ≤ 0) ↔ x ≤ y := by
  rw [c64 h1 h2 h3 h4]; split
  · constructor <;> intro h <;> omega
  · split <;> constructor <;> intro h <;> omega
theorem c64_eq {x y : Int} (h1 : -9223372036854775808 ≤ x) (h2 : x < 9223372036854775808) (h3 : -9223372036854775808 ≤ y) (h4 : y < 9223372036854775808) : (i32 (cmp64 x y) = 0) ↔ x = y := by
  rw [c64 h1 h2 h3 h4]; split
  · constructor <;> intro h <;> omega
  · split <;> constructor <;> intro h <;> omega
/-- the quotient that is a floor; 0 by 0 -/
def fdv (a b : Int) : Int := if b = 0 then 0 else if 0 < b then a / b else (-a) / (-b)
def clp (v : Int) : Int := if 1000000 < v then 1000000 else if v < -1000000 then -1000000 else v
theorem clp_rng (v : Int) : -1000000 ≤ clp v ∧ clp v ≤ 1000000 := by unfold clp; split <;> (try split) <;> omega
theorem clp_id {v : Int} (h1 : -1000000 ≤ v) (h2 : v ≤ 1000000) : clp v = v := by unfold clp; rw [if_neg (by omega), if_neg (by omega)]
theorem ediv_rng {a b n : Int} (hb : 0 < b) (h1 : -n ≤ a) (h2 : a ≤ n) : -n ≤ a / b ∧ a / b ≤ n := by
  have h3 := Int.mul_ediv_add_emod a b
  have h4 := Int.emod_nonneg a (show b ≠ 0 by omega)
  have h5 := Int.emod_lt_of_pos a hb
  generalize a / b = q at *
  generalize a % b = r at *
  constructor
  · by_cases hq : q ≤ -n - 1
    · have hn : 0 ≤ n := by omega
      have : b * q ≤ b * (-n - 1) := Int.mul_le_mul_of_nonneg_left hq (by omega)
      have h6 : b * (-n - 1) = -(b * n) - b := by rw [Int.mul_sub, Int.mul_neg, Int.mul_one]
      have h7 : 1 * n ≤ b * n := Int.mul_le_mul_of_nonneg_right (by omega) hn
      omega
    · omega
  · by_cases hq : n + 1 ≤ q
    · have hn : 0 ≤ n := by omega
      have : b * (n + 1) ≤ b * q := Int.mul_le_mul_of_nonneg_left hq (by omega)
      have h6 : b * (n + 1) = b * n + b := by rw [Int.mul_add, Int.mul_one]
      have h7 : 1 * n ≤ b * n := Int.mul_le_mul_of_nonneg_right (by omega) hn
      omega
    · omega
theorem fdv_rng {a b n : Int} (hn : 0 ≤ n) (h1 : -n ≤ a) (h2 : a ≤ n) : -n ≤ fdv a b ∧ fdv a b ≤ n := by
  unfold fdv
  split
  · omega
  · split
    · exact ediv_rng (by assumption) h1 h2
    · exact ediv_rng (by omega) (by omega) (by omega)
/-- from the machine's quotient (towards 0) to the floor -/
theorem fdv_tdiv {a b : Int} (hb : b ≠ 0) : fdv a b = if a.tmod b ≠ 0 ∧ ¬ ((a < 0) ↔ (b < 0)) then a.tdiv b - 1 else a.tdiv b := by
  have e : b * a.tdiv b + a.tmod b = a := Int.mul_tdiv_add_tmod a b
  have hu : ∀ (c d q r : Int), 0 < d → c = d * q + r → 0 ≤ r → r < d → c / d = q := by
    intro c d q r hd hc hr1 hr2
    rw [hc, Int.add_comm, Int.add_mul_ediv_left _ _ (by omega : d ≠ 0), Int.ediv_eq_zero_of_lt hr1 hr2]
    omega
  have hr : (a.tmod b).natAbs < b.natAbs := by
    rw [Int.natAbs_tmod]
    exact Nat.mod_lt _ (by omega)
  have hs1 : 0 ≤ a → 0 ≤ a.tmod b := fun h => Int.tmod_nonneg b h
  have hs2 : a ≤ 0 → a.tmod b ≤ 0 := by
    intro h
    have : 0 ≤ (-a).tmod b := Int.tmod_nonneg b (by omega)
    rw [Int.neg_tmod] at this
    omega
  generalize a.tdiv b = q at *
  generalize a.tmod b = r at *
  unfold fdv
  rw [if_neg hb]
  by_cases hbp : 0 < b
  · rw [if_pos hbp]
    split
    · rename_i g
      refine hu a b (q - 1) (r + b) hbp ?_ (by omega) (by omega)
      rw [Int.mul_sub, Int.mul_one]; omega
    · rename_i g
      refine hu a b q r hbp e.symm ?_ (by omega)
      by_cases ha : 0 ≤ a
      · exact hs1 ha
      · have : r = 0 := by
          by_cases hr0 : r = 0
          · exact hr0
          · exact absurd ⟨hr0, by omega⟩ g
        omega
  · rw [if_neg hbp]
    split
    · rename_i g
      refine hu (-a) (-b) (q - 1) (-r + -b) (by omega) ?_ (by omega) (by omega)
      have : -b * (q - 1) = -(b * q) + b := by rw [Int.mul_sub, Int.mul_one, Int.neg_mul]; omega
      omega
    · rename_i g
      refine hu (-a) (-b) q (-r) (by omega) ?_ ?_ (by omega)
      · rw [Int.neg_mul]; omega
      · by_cases ha : a < 0
        · have := hs2 (by omega); omega
        · have : r = 0 := by
            by_cases hr0 : r = 0
            · exact hr0
            · exact absurd ⟨hr0, by omega⟩ g
          omega
theorem tmod_pos {a b : Int} (ha : 0 ≤ a) : a.tmod b = a % b := Int.tmod_eq_emod_of_nonneg ha
theorem tdiv_pos {a b : Int} (ha : 0 ≤ a) : a.tdiv b = a / b := Int.tdiv_eq_ediv_of_nonneg ha
/-- a stack in a row, its top first -/
def stk (r : Nat → Int) : List Int → Prop
  | [] => True
  | a :: st => r st.length = a ∧ stk r st
theorem stk_up {M : Mm} {i k : Nat} {v : Int} : ∀ {st : List Int}, st.length ≤ k → stk (M i) st → stk (up M i k v i) st
  | [], _, _ => trivial
  | a :: st, hk, h => by
    have hk' : st.length + 1 ≤ k := hk
    refine ⟨?_, stk_up (st := st) (by omega) h.2⟩
    rw [up_at, if_neg (by omega)]
    exact h.1
theorem stk_push {M : Mm} {i : Nat} {v : Int} {st : List Int} (h : stk (M i) st) : stk (up M i st.length v i) (v :: st) := ⟨up_eq M i _ v, stk_up (Nat.le_refl _) h⟩
/-- one step of a town's sum, as the reference's codes have it -/
def jn (v a b : Int) : Int := if v = 1 then clp (a + b) else if v = 2 then clp (a - b) else if v = 3 then clp (a * b) else if v = 4 then fdv a b else if v = 5 then (if a < b then a else b) else (if b < a then a else b)
def stp (ask : Nat → Int) (v : Int) (st : List Int) : List Int :=
  if 1000 ≤ v then (v - 1000) :: st else if 7 ≤ v ∧ v ≤ 10 then ask (v - 7).toNat :: st else match st with | b :: a :: r => jn v a b :: r | st => st
def evs (cd : Nat → Int) (ask : Nat → Int) : Nat → Nat → List Int → List Int
  | 0, _, st => st
  | n + 1, f, st => evs cd ask n (f + 1) (stp ask (cd f) st)
def wfc (cd : Nat → Int) : Nat → Nat → Nat → Prop
  | 0, _, h => h = 1
  | n + 1, f, h => ((7 ≤ cd f ∧ cd f ≤ 10 ∨ 1000 ≤ cd f ∧ cd f ≤ 10999) ∧ h < 60 ∧ wfc cd n (f + 1) (h + 1)) ∨ ((1 ≤ cd f ∧ cd f ≤ 6) ∧ 2 ≤ h ∧ wfc cd n (f + 1) (h - 1))
theorem jn_rng {v a b : Int} (ha1 : -1000000 ≤ a) (ha2 : a ≤ 1000000) (hb1 : -1000000 ≤ b) (hb2 : b ≤ 1000000) : -1000000 ≤ jn v a b ∧ jn v a b ≤ 1000000 := by
  unfold jn
  split
  · exact clp_rng _
  split
  · exact clp_rng _
  split
  · exact clp_rng _
  split
  · exact fdv_rng (by decide) ha1 ha2
  split
  · split <;> omega
  · split <;> omega
theorem mul_rng {a b : Int} (ha1 : -1000000 ≤ a) (ha2 : a ≤ 1000000) (hb1 : -1000000 ≤ b) (hb2 : b ≤ 1000000) : -1000000000000 ≤ a * b ∧ a * b ≤ 1000000000000 := by
  have h : (a * b).natAbs ≤ 1000000 * 1000000 := by
    rw [Int.natAbs_mul]
    exact Nat.mul_le_mul (by omega) (by omega)
  omega
/-- the reference's small functions -/
theorem e_isIn {v a b : Int} (M : Mm) (h1 : -9223372036854775808 ≤ v) (h2 : v < 9223372036854775808) (h3 : -9223372036854775808 ≤ a) (h4 : a < 9223372036854775808) (h5 : -9223372036854775808 ≤ b) (h6 : b < 9223372036854775808) : f_M_isIn v a b M = some (if a ≤ v ∧ v ≤ b then 1 else 0, M) := by
  unfold f_M_isIn
  by_cases g1 : v < a
  · rw [if_pos ((c64_lt h1 h2 h3 h4).mpr g1), if_neg (by omega)]
  · rw [if_neg (fun q => g1 ((c64_lt h1 h2 h3 h4).mp q))]
    by_cases g2 : b < v
    · rw [if_pos ((c64_gt h1 h2 h5 h6).mpr g2), if_neg (by omega)]
    · rw [if_neg (fun q => g2 ((c64_gt h1 h2 h5 h6).mp q)), if_pos (by omega)]
theorem e_clip {v : Int} (M : Mm) (h1 : -9223372036854775808 ≤ v) (h2 : v < 9223372036854775808) : f_M_clip v M = some (clp v, M) := by
  unfold f_M_clip clp
  by_cases g1 : 1000000 < v
  · rw [if_neg (fun q => absurd ((c64_le h1 h2 (by decide) (by decide)).mp q) (by omega)), if_pos g1]
  · rw [if_pos ((c64_le h1 h2 (by decide) (by decide)).mpr (by omega)), if_neg g1]
    by_cases g2 : v < -1000000
    · rw [if_neg (fun q => absurd ((c64_ge h1 h2 (by decide) (by decide)).mp q) (by omega)), if_pos g2]
    · rw [if_pos ((c64_ge h1 h2 (by decide) (by decide)).mpr (by omega)), if_neg g2]
