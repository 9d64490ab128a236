/-- an option has a value, and it satisfies Q -/
def wq {α : Type} (o : Option α) (Q : α → Prop) : Prop := ∃ a, o = some a ∧ Q a
theorem wq_some {α : Type} {a : α} {Q : α → Prop} (h : Q a) : wq (some a) Q := ⟨a, rfl, h⟩
theorem wq_m {α : Type} {o : Option α} {P Q : α → Prop} (h : wq o P) (k : ∀ a, P a → Q a) : wq o Q := by
  obtain ⟨a, h1, h2⟩ := h
  exact ⟨a, h1, k a h2⟩
theorem wq_I {α : Type} {o : Option (Int × Mm)} {g : Int → Mm → Option α} {P : Int × Mm → Prop} {Q : α → Prop} (h : wq o P) (k : ∀ r M, P (r, M) → wq (g r M) Q) : wq (bI o g) Q := by
  obtain ⟨⟨r, M⟩, rfl, h2⟩ := h
  exact k r M h2
theorem wq_V {α : Type} {o : Option Mm} {g : Mm → Option α} {P : Mm → Prop} {Q : α → Prop} (h : wq o P) (k : ∀ M, P M → wq (g M) Q) : wq (bV o g) Q := by
  obtain ⟨M, rfl, h2⟩ := h
  exact k M h2
theorem wq_d {α β : Type} {a : α} {f : α → Option β} {Q : β → Prop} (h : wq (f a) Q) : wq (bd a f) Q := h
theorem wq_g {α : Type} {c : Prop} [Decidable c] {o : Option α} {Q : α → Prop} (hc : c) (h : wq o Q) : wq (gd c o) Q := by
  unfold gd; rw [if_pos hc]; exact h
theorem wq_if {α : Type} {c : Prop} [Decidable c] {a b : Option α} {Q : α → Prop} (h1 : c → wq a Q) (h2 : ¬ c → wq b Q) : wq (if c then a else b) Q := by
  by_cases h : c
  · rw [if_pos h]; exact h1 h
  · rw [if_neg h]; exact h2 h
theorem wq_t {α : Type} {c : Prop} [Decidable c] {a b : Option α} {Q : α → Prop} (h : c) (h1 : wq a Q) : wq (if c then a else b) Q := by
  rw [if_pos h]; exact h1
theorem wq_e {α : Type} {c : Prop} [Decidable c] {a b : Option α} {Q : α → Prop} (h : ¬ c) (h1 : wq b Q) : wq (if c then a else b) Q := by
  rw [if_neg h]; exact h1
theorem wq_get {α : Type} {o : Option α} {Q : α → Prop} (h : wq o Q) : ∃ a, o = some a ∧ Q a := h
theorem wq_eq {α : Type} {o o' : Option α} {Q : α → Prop} (e : o = o') (h : wq o' Q) : wq o Q := e ▸ h
/-- a loop, by an invariant and a measure -/
theorem wq_lp {σ α : Type} {B : (σ → Option α) → σ → Option α} (Inv : σ → Prop) (mu : σ → Nat) {Q : α → Prop} (hB : ∀ kH s, Inv s → (∀ s', Inv s' → mu s' < mu s → wq (kH s') Q) → wq (B kH s) Q) : ∀ (n : Nat) (s : σ), Inv s → mu s < n → wq (lp B n s) Q
  | 0, _, _, h => absurd h (Nat.not_lt_zero _)
  | n + 1, s, h1, h2 => hB (lp B n) s h1 (fun s' g1 g2 => wq_lp Inv mu hB n s' g1 (Nat.lt_of_lt_of_le g2 (Nat.le_of_lt_succ h2)))
theorem bI_s {α : Type} (r : Int) (M : Mm) (g : Int → Mm → Option α) : bI (some (r, M)) g = g r M := rfl
theorem bV_s {α : Type} (M : Mm) (g : Mm → Option α) : bV (some M) g = g M := rfl
theorem bd_s {α β : Type} (a : α) (f : α → β) : bd a f = f a := rfl
theorem gd_t {α : Type} {c : Prop} [Decidable c] {o : Option α} (h : c) : gd c o = o := by unfold gd; rw [if_pos h]
/-- reads behind writes -/
theorem up_eq (M : Mm) (i k : Nat) (v : Int) : up M i k v i k = v := by simp [up]
theorem up_row {M : Mm} {i j : Nat} {k : Nat} {v : Int} (h : ¬ j = i) : up M i k v j = M j := by simp [up, h]
theorem up_col {M : Mm} {i : Nat} {k q : Nat} {v : Int} (h : ¬ q = k) : up M i k v i q = M i q := by simp [up, h]
theorem up_at (M : Mm) (i k j q : Nat) (v : Int) : up M i k v j q = if j = i ∧ q = k then v else M j q := by
  unfold up
  by_cases h : j = i
  · subst h
    by_cases h2 : q = k
    · simp [h2]
    · simp [h2]
  · simp [h]
/-- what is left untouched: l lists places (row, column; 99999 is a whole row) -/
def hit (l : List (Nat × Nat)) (i k : Nat) : Prop := ∃ p ∈ l, p.1 = i ∧ (p.2 = k ∨ p.2 = 99999)
def Fr (l : List (Nat × Nat)) (M M' : Mm) : Prop := ∀ i k, (∀ p ∈ l, ¬ (p.1 = i ∧ (p.2 = k ∨ p.2 = 99999))) → M' i k = M i k
theorem Fr.rf {l : List (Nat × Nat)} {M : Mm} : Fr l M M := fun _ _ _ => rfl
theorem Fr.tr {l : List (Nat × Nat)} {M M' M'' : Mm} (h : Fr l M M') (h' : Fr l M' M'') : Fr l M M'' := fun i k q => (h' i k q).trans (h i k q)
theorem Fr.mono {l l' : List (Nat × Nat)} {M M' : Mm} (h : Fr l M M') (hs : ∀ p ∈ l, p ∈ l') : Fr l' M M' := fun i k q => h i k fun p hp => q p (hs p hp)
/-- l covers each place of l' -/
def cov (l l' : List (Nat × Nat)) : Bool := l'.all fun p => l.any fun q => q.1 == p.1 && (q.2 == p.2 || q.2 == 99999)
theorem Fr.cov {l l' : List (Nat × Nat)} {M M' : Mm} (h : Fr l M M') (hs : cov l' l = true) : Fr l' M M' := by
  intro i k q
  refine h i k fun p hp hh => ?_
  have h1 := List.all_eq_true.mp hs p hp
  obtain ⟨q', hq', hb⟩ := List.any_eq_true.mp h1
  simp only [Bool.and_eq_true, Bool.or_eq_true, beq_iff_eq] at hb
  refine q q' hq' ⟨hb.1.trans hh.1, ?_⟩
  rcases hb.2 with h2 | h2
  · rcases hh.2 with h3 | h3
    · exact Or.inl (h2.trans h3)
    · exact Or.inr (h2.trans h3)
  · exact Or.inr h2
theorem Fr.up {l : List (Nat × Nat)} {M M' : Mm} {i k : Nat} {v : Int} (h : Fr l M M') (hh : (i, k) ∈ l ∨ (i, 99999) ∈ l) : Fr l M (up M' i k v) := by
  intro j q hq
  rw [up_at, if_neg, h j q hq]
  rintro ⟨rfl, rfl⟩
  rcases hh with hh | hh
  · exact hq _ hh ⟨rfl, Or.inl rfl⟩
  · exact hq _ hh ⟨rfl, Or.inr rfl⟩
theorem Fr.row {l : List (Nat × Nat)} {M M' : Mm} (h : Fr l M M') (i : Nat) (hh : l.all (fun p => p.1 != i) = true) : M' i = M i := by
  funext k
  refine h i k fun p hp hq => ?_
  have := List.all_eq_true.mp hh p hp
  simp only [bne_iff_ne, ne_eq] at this
  exact this hq.1
theorem Fr.at {l : List (Nat × Nat)} {M M' : Mm} (h : Fr l M M') (i k : Nat) (hh : l.all (fun p => p.1 != i || (p.2 != k && p.2 != 99999)) = true) : M' i k = M i k := by
  refine h i k fun p hp hq => ?_
  have := List.all_eq_true.mp hh p hp
  simp only [Bool.or_eq_true, Bool.and_eq_true, bne_iff_ne, ne_eq] at this
  rcases this with h1 | h1
  · exact h1 hq.1
  · rcases hq.2 with h2 | h2
    · exact h1.1 h2
    · exact h1.2 h2
/-- numbers -/
theorem i32_nat (n : Nat) (h : n < 2147483648) : i32 (n : Int) = (n : Int) := i32_id (by omega) (by omega)
theorem and32_m (x : Int) (k m : Nat) (hk : k < 31) (hm : m = 2 ^ k - 1) : and32 x (m : Int) = x % ((2 ^ k : Nat) : Int) := by
  have h1 : 2 ^ k ≤ 2 ^ 30 := Nat.pow_le_pow_right (by decide) (by omega)
  have h0 : 0 < 2 ^ k := Nat.pow_pos (by decide)
  unfold and32
  rw [pk_and (Int32.ofInt x) (m := Int32.ofInt (m : Int)) k (by rw [bv32]; omega), bv32]
  have h2 : ((x % 4294967296).toNat % 2 ^ k) < 2 ^ k := Nat.mod_lt _ h0
  rw [nI_toInt (by omega)]
  have h3 : (((x % 4294967296).toNat : Nat) : Int) = x % 4294967296 := Int.toNat_of_nonneg (by omega)
  rw [Int.natCast_emod, h3]
  refine Int.emod_emod_of_dvd _ ?_
  have : (4294967296 : Int) = ((2 ^ k * 2 ^ (32 - k) : Nat) : Int) := by
    rw [← Nat.pow_add, show k + (32 - k) = 32 by omega]; rfl
  rw [this]
  exact Int.natCast_dvd_natCast.mpr ⟨_, rfl⟩
theorem and32_1 (x : Int) : and32 x 1 = x % 2 := and32_m x 1 1 (by decide) rfl
theorem and32_31 (x : Int) : and32 x 31 = x % 32 := and32_m x 5 31 (by decide) rfl
theorem and32_63 (x : Int) : and32 x 63 = x % 64 := and32_m x 6 63 (by decide) rfl
theorem and32_255 (x : Int) : and32 x 255 = x % 256 := and32_m x 8 255 (by decide) rfl
theorem and32_511 (x : Int) : and32 x 511 = x % 512 := and32_m x 9 511 (by decide) rfl
theorem and64_m (x : Int) (k m : Nat) (hk : k < 32) (hm : m = 2 ^ k - 1) : and64 x (m : Int) = x % ((2 ^ k : Nat) : Int) := by
  have h1 : 2 ^ k ≤ 2 ^ 31 := Nat.pow_le_pow_right (by decide) (by omega)
  have h0 : 0 < 2 ^ k := Nat.pow_pos (by decide)
  have hb : (Int64.ofInt x &&& Int64.ofInt (m : Int)).toBitVec.toNat = (x % 18446744073709551616).toNat % 2 ^ k := by
    rw [Int64.toBitVec_and, BitVec.toNat_and, bv64, bv64, show ((m : Int) % 18446744073709551616).toNat = 2 ^ k - 1 by omega, Nat.and_two_pow_sub_one_eq_mod]
  have h2 : ((x % 18446744073709551616).toNat % 2 ^ k) < 2 ^ k := Nat.mod_lt _ h0
  unfold and64
  show (Int64.ofInt x &&& Int64.ofInt (m : Int)).toBitVec.toInt = _
  rw [BitVec.toInt_eq_toNat_of_lt (by rw [hb]; omega), hb]
  have h3 : (((x % 18446744073709551616).toNat : Nat) : Int) = x % 18446744073709551616 := Int.toNat_of_nonneg (by omega)
  rw [Int.natCast_emod, h3]
  refine Int.emod_emod_of_dvd _ ?_
  have : (18446744073709551616 : Int) = ((2 ^ k * 2 ^ (64 - k) : Nat) : Int) := by
    rw [← Nat.pow_add, show k + (64 - k) = 64 by omega]; rfl
  rw [this]
  exact Int.natCast_dvd_natCast.mpr ⟨_, rfl⟩
theorem and64_127 (x : Int) : and64 x 127 = x % 128 := and64_m x 7 127 (by decide) rfl
theorem and64_31 (x : Int) : and64 x 2147483647 = x % 2147483648 := and64_m x 31 2147483647 (by decide) rfl
theorem or32_n {a b : Nat} (ha : a < 2 ^ 31) (hb : b < 2 ^ 31) : or32 (a : Int) (b : Int) = ((a ||| b : Nat) : Int) := by
  have h : (nI a ||| nI b) = nI (a ||| b) := by
    apply Int32.toBitVec_inj.mp
    apply BitVec.eq_of_toNat_eq
    rw [Int32.toBitVec_or, BitVec.toNat_or]
    show (BitVec.ofNat 32 a).toNat ||| (BitVec.ofNat 32 b).toNat = (BitVec.ofNat 32 (a ||| b)).toNat
    rw [BitVec.toNat_ofNat, BitVec.toNat_ofNat, BitVec.toNat_ofNat, Nat.or_mod_two_pow]
  unfold or32
  show (nI a ||| nI b).toInt = _
  rw [h, nI_toInt (Nat.or_lt_two_pow ha hb)]
theorem shr32_id {x : Int} (s : Nat) (h1 : -2147483648 ≤ x) (h2 : x < 2147483648) (hs : s < 32) : shr32 x (s : Int) = x / ((2 ^ s : Nat) : Int) := by
  unfold shr32
  rw [i32_id h1 h2, show (((s : Int) % 32).toNat) = s by omega, Int.natCast_pow]
  rfl
theorem shl32_id (x : Int) (s : Nat) (hs : s < 32) : shl32 x (s : Int) = x * ((2 ^ s : Nat) : Int) := by
  unfold shl32
  rw [show (((s : Int) % 32).toNat) = s by omega, Int.natCast_pow]
  rfl
theorem xor32_sg {x y : Int} (hx1 : -2147483648 ≤ x) (hx2 : x < 2147483648) (hy1 : -2147483648 ≤ y) (hy2 : y < 2147483648) : (0 ≤ i32 (xor32 x y)) ↔ (0 ≤ x ↔ 0 ≤ y) := by
  unfold xor32
  rw [i32_of]
  have hm : (Int32.ofInt x ^^^ Int32.ofInt y).toBitVec.msb = ((Int32.ofInt x).toBitVec.msb ^^ (Int32.ofInt y).toBitVec.msb) := by
    rw [Int32.toBitVec_xor, BitVec.msb_xor]
  have hs : ∀ z : Int32, 0 ≤ z.toInt ↔ z.toBitVec.msb = false := by
    intro z
    show 0 ≤ z.toBitVec.toInt ↔ _
    rw [BitVec.msb_eq_toInt]
    simp
  have e1 : (Int32.ofInt x).toInt = x := i32_id hx1 hx2
  have e2 : (Int32.ofInt y).toInt = y := i32_id hy1 hy2
  have a1 := hs (Int32.ofInt x)
  have a2 := hs (Int32.ofInt y)
  rw [e1] at a1
  rw [e2] at a2
  rw [hs, hm, a1, a2]
  cases (Int32.ofInt x).toBitVec.msb <;> cases (Int32.ofInt y).toBitVec.msb <;> simp
/-- cells of a row -/
def ce (M : Mm) (row n : Nat) (v : Int) : Int := if 0 ≤ v ∧ v < (n : Int) then M row v.toNat else 0
theorem e_cell {row n : Nat} {v : Int} (M : Mm) (hn : slen row = n) (hn2 : n < 2147483648) (h1 : -2147483648 ≤ v) (h2 : v < 2147483648) : f_BT_cell row v M = some (ce M row n v, M) := by
  unfold f_BT_cell ce
  rw [hn, i32_id h1 h2, i32_nat n hn2]
  by_cases g1 : v < 0
  · rw [if_pos g1, if_neg (by omega)]
  · rw [if_neg g1]
    by_cases g2 : (n : Int) ≤ v
    · rw [if_pos g2, if_neg (by omega)]
    · rw [if_neg g2, gd_t (by omega), if_pos (by omega)]
theorem e_cell_in {row n : Nat} {v : Int} (M : Mm) (hn : slen row = n) (hn2 : n < 2147483648) (h1 : 0 ≤ v) (h2 : v < (n : Int)) : f_BT_cell row v M = some (M row v.toNat, M) := by
  rw [e_cell M hn hn2 (by omega) (by omega), ce, if_pos ⟨h1, h2⟩]
theorem e_set {row n : Nat} {v x : Int} (M : Mm) (hn : slen row = n) (hn2 : n < 2147483648) (h1 : 0 ≤ v) (h2 : v < (n : Int)) : f_BT_setCell row v x M = some (up M row v.toNat x) := by
  unfold f_BT_setCell
  rw [hn, i32_id (by omega) (by omega), i32_nat n hn2, if_neg (by omega), if_neg (by omega), gd_t (by omega)]
  rfl
theorem e_set_out {row n : Nat} {v x : Int} (M : Mm) (hn : slen row = n) (hn2 : n < 2147483648) (h1 : -2147483648 ≤ v) (h2 : v < 2147483648) (h3 : v < 0 ∨ (n : Int) ≤ v) : f_BT_setCell row v x M = some M := by
  unfold f_BT_setCell
  rw [hn, i32_id (by omega) (by omega), i32_nat n hn2]
  by_cases g1 : v < 0
  · rw [if_pos g1]
  · rw [if_neg g1, if_pos (by omega)]
theorem s_fill {row n : Nat} (x : Int) (M : Mm) (hn : slen row = n) (hn2 : n < 99999) : wq (f_BT_fill row x M) (fun M' => (∀ k : Nat, k < n → M' row k = x) ∧ Fr [(row, 99999)] M M') := by
  unfold f_BT_fill f_BT_fill_L2
  refine wq_lp (fun s => s.1 = x ∧ 0 ≤ s.2.1 ∧ s.2.1 ≤ (n : Int) ∧ (∀ k : Nat, (k : Int) < s.2.1 → s.2.2 row k = x) ∧ Fr [(row, 99999)] M s.2.2) (fun s => ((n : Int) - s.2.1).toNat) ?_ FU _ ?_ ?_
  · rintro kH ⟨v1, v2, M1⟩ ⟨rfl, h1, h2, h3, h4⟩ hk
    simp only at h1 h2 h3 h4 hk ⊢
    unfold f_BT_fill_B2
    rw [hn, i32_nat n (by omega), i32_id (x := v2) (by omega) (by omega)]
    refine wq_if (fun c => ?_) (fun c => ?_)
    · exact wq_some ⟨fun k hk' => h3 k (by omega), h4⟩
    · refine wq_g (by omega) (wq_d (hk _ ⟨rfl, by simp only; omega, by simp only; omega, ?_, ?_⟩ (by simp only; omega)))
      · intro k hk'
        simp only at hk'
        show up M1 row v2.toNat v1 row k = v1
        rw [up_at]
        by_cases g : k = v2.toNat
        · rw [if_pos ⟨rfl, g⟩]
        · rw [if_neg (fun q => g q.2)]
          exact h3 k (by omega)
      · exact h4.up (Or.inr (by simp))
  · exact ⟨rfl, by simp, by simp, fun k hk => by simp at hk; omega, Fr.rf⟩
  · show ((n : Int) - 0).toNat < 1000000000
    omega
