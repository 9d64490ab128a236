/-- from a place, setting out in an hour, one comes to a place by an hour -/
def rea (V : Mm) (b lim a t q : Int) : Prop := ∃ n y, rch V [] b (-1) lim a t n q y
section RCs
variable {V : Mm} {b wo lim : Int}
theorem rch_fwd (hT : Tw V) {a t : Int} : ∀ (n : Nat) (q y : Int), rch V [] b wo lim a t n q y → (q = a ∧ y = t) ∨ (t + 1 ≤ lim ∧ ∃ m, rch V [] b wo lim a (t + 1) m q y) ∨ ∃ s o, edg V wo s a o ∧ fre V [] s b t ∧ t + tk V s ≤ lim ∧ ∃ m, rch V [] b wo lim o (t + tk V s) m q y
  | 0, q, y, h => Or.inl h
  | n + 1, q, y, h => by
    obtain ⟨p', h', s, x, h1, h2, h3, h4, h5, h6⟩ := h
    have ht := (hT.2.2.2.1 s h2.1 h2.2.1).2.2.2.1
    rcases rch_fwd hT n p' h' h1 with ⟨e1, e2⟩ | ⟨e1, m, e2⟩ | ⟨s', o, e1, e2, e3, m, e4⟩
    · subst e1 e2
      by_cases c : x = h'
      · subst c
        exact Or.inr (Or.inr ⟨s, q, h2, h4, by omega, 0, rfl, h5⟩)
      · exact Or.inr (Or.inl ⟨by omega, 1, p', h' + 1, s, x, ⟨rfl, rfl⟩, h2, by omega, h4, h5, h6⟩)
    · exact Or.inr (Or.inl ⟨e1, m + 1, p', h', s, x, e2, h2, h3, h4, h5, h6⟩)
    · exact Or.inr (Or.inr ⟨s', o, e1, e2, e3, m + 1, p', h', s, x, e4, h2, h3, h4, h5, h6⟩)
theorem rch_wait {a t : Int} : ∀ (n : Nat) (q y : Int), rch V [] b wo lim a (t + 1) n q y → ∃ y', y' ≤ y ∧ rch V [] b wo lim a t n q y'
  | 0, q, y, h => ⟨t, by have := h.2; omega, h.1, rfl⟩
  | n + 1, q, y, h => by
    obtain ⟨p', h', s, x, h1, h2, h3, h4, h5, h6⟩ := h
    obtain ⟨y', g1, g2⟩ := rch_wait n p' h' h1
    exact ⟨y, Int.le_refl _, p', y', s, x, g2, h2, by omega, h4, h5, h6⟩
theorem rch_first {a t s o : Int} (h1 : edg V wo s a o) (h2 : fre V [] s b t) (h3 : t + tk V s ≤ lim) : ∀ (n : Nat) (q y : Int), rch V [] b wo lim o (t + tk V s) n q y → rch V [] b wo lim a t (n + 1) q y
  | 0, q, y, h => by
    obtain ⟨e1, e2⟩ := h
    subst e1 e2
    exact ⟨a, t, s, t, ⟨rfl, rfl⟩, h1, Int.le_refl _, h2, rfl, h3⟩
  | n + 1, q, y, h => by
    obtain ⟨p', h', s', x, g1, g2⟩ := h
    exact ⟨p', h', s', x, rch_first h1 h2 h3 n p' h' g1, g2⟩
end RCs
theorem rea_step {V : Mm} (hT : Tw V) (b lim a t q : Int) : rea V b lim a t q ↔ q = a ∨ (t + 1 ≤ lim ∧ rea V b lim a (t + 1) q) ∨ ∃ s o, edg V (-1) s a o ∧ fre V [] s b t ∧ t + tk V s ≤ lim ∧ rea V b lim o (t + tk V s) q := by
  constructor
  · rintro ⟨n, y, h⟩
    rcases rch_fwd hT n q y h with ⟨e1, -⟩ | ⟨e1, m, e2⟩ | ⟨s, o, e1, e2, e3, m, e4⟩
    · exact Or.inl e1
    · exact Or.inr (Or.inl ⟨e1, m, y, e2⟩)
    · exact Or.inr (Or.inr ⟨s, o, e1, e2, e3, m, y, e4⟩)
  · rintro (h | ⟨h1, n, y, h⟩ | ⟨s, o, h1, h2, h3, n, y, h⟩)
    · exact ⟨0, t, h, rfl⟩
    · obtain ⟨y', -, g⟩ := rch_wait n q y h
      exact ⟨n, y', g⟩
    · exact ⟨n + 1, y, rch_first h1 h2 h3 n q y h⟩
theorem isA_rea {V : Mm} {b lim a t : Int} {arr : Int → Int} (hT : Tw V) (hl : t ≤ lim) (hl2 : lim < 1000000) (h : isA V [] b (-1) lim a t arr) {q : Int} (q1 : 0 ≤ q) (q2 : q < 9) : arr q ≤ lim ↔ rea V b lim a t q := by
  constructor
  · intro z
    rcases h.2.2 q q1 q2 with e | ⟨n, e⟩
    · omega
    · exact ⟨n, _, e⟩
  · rintro ⟨n, y, e⟩
    have h1 := isA_le hT hl hl2 h n q y e
    have h2 := rch_rng hT hl n q y e
    omega
/-- a set of places as bits, so many of them looked at -/
def bqI (n v : Int) (P : Int → Prop) (m : Int) : Prop := (0 ≤ m ∧ m.toNat < 2 ^ n.toNat) ∧ ∀ q : Int, 0 ≤ q → q < n → (bQ m q ↔ (q < v ∧ P q))
theorem bqI_0 (n : Int) (P : Int → Prop) : bqI n 0 P 0 := by
  refine ⟨⟨Int.le_refl _, Nat.pow_pos (by decide)⟩, fun q h1 h2 => ⟨fun z => absurd z (bQ0 q), fun z => absurd z.1 (by omega)⟩⟩
theorem bqI_n {n v m : Int} {P : Int → Prop} (h : bqI n v P m) (hP : ¬ P v) : bqI n (v + 1) P m := by
  refine ⟨h.1, fun q h1 h2 => ?_⟩
  rw [h.2 q h1 h2]
  constructor
  · exact fun z => ⟨by omega, z.2⟩
  · intro z
    by_cases e : q = v
    · subst e; exact absurd z.2 hP
    · exact ⟨by omega, z.2⟩
theorem bqI_y {n v m : Int} {P : Int → Prop} (hn : n ≤ 9) (h : bqI n v P m) (h0 : 0 ≤ v) (h1 : v < n) (hP : P v) : bqI n (v + 1) P (or32 m (shl32 1 v)) := by
  obtain ⟨⟨m1, m2⟩, m3⟩ := h
  obtain ⟨o1, o2⟩ := bQ_set (m := m) (k := v) (n := n.toNat) m1 (by omega) m2 h0 (by omega)
  rw [o1]
  refine ⟨⟨by omega, by rw [Int.toNat_natCast]; exact o2⟩, fun q q1 q2 => ?_⟩
  have e : bQ (((m.toNat ||| 2 ^ v.toNat : Nat) : Int)) q ↔ (bQ m q ∨ q = v) := by
    unfold bQ
    rw [Int.toNat_natCast, bQ_or]
    constructor
    · rintro (z | z)
      · exact Or.inl z
      · exact Or.inr (by omega)
    · rintro (z | z)
      · exact Or.inl z
      · exact Or.inr (by rw [z])
  rw [e, m3 q q1 q2]
  constructor
  · rintro (z | z)
    · exact ⟨by omega, z.2⟩
    · exact ⟨by omega, by rw [z]; exact hP⟩
  · intro z
    by_cases c : q = v
    · exact Or.inr c
    · exact Or.inl ⟨by omega, z.2⟩
theorem bqI_lt {n v m : Int} {P : Int → Prop} (hn : n ≤ 9) (h : bqI n v P m) : 0 ≤ m ∧ m < 512 := by
  have : 2 ^ n.toNat ≤ 2 ^ 9 := Nat.pow_le_pow_right (by decide) (by omega)
  have := h.1
  omega
theorem or32_0 {m : Int} (h1 : 0 ≤ m) (h2 : m < 2147483648) : or32 m 0 = m := by
  obtain ⟨n, rfl⟩ : ∃ n : Nat, m = (n : Int) := ⟨m.toNat, by omega⟩
  have := or32_n (a := n) (b := 0) (by omega) (by decide)
  rw [Nat.or_zero] at this
  exact this
theorem full_iff {x n : Nat} (h : x < 2 ^ n) : x = 2 ^ n - 1 ↔ ∀ i, i < n → x.testBit i = true := by
  constructor
  · intro e i hi
    rw [e, Nat.testBit_two_pow_sub_one, decide_eq_true_eq]
    exact hi
  · intro e
    refine Nat.eq_of_testBit_eq (fun i => ?_)
    rw [Nat.testBit_two_pow_sub_one]
    by_cases c : i < n
    · rw [e i c, decide_eq_true c]
    · rw [decide_eq_false c]
      exact Nat.testBit_lt_two_pow (Nat.lt_of_lt_of_le h (Nat.pow_le_pow_right (by decide) (by omega)))
/-- three sets together are all -/
theorem bqI_all {n a b c : Int} {P Q R : Int → Prop} (hn0 : 0 ≤ n) (hn : n ≤ 9) (ha : bqI n n P a) (hb : bqI n n Q b) (hc : bqI n n R c) : (i32 (or32 (or32 a b) c) = i32 ((shl32 1 n) - 1)) ↔ ∀ q : Int, 0 ≤ q → q < n → (P q ∨ Q q ∨ R q) := by
  have l1 := bqI_lt hn ha
  have l2 := bqI_lt hn hb
  have l3 := bqI_lt hn hc
  obtain ⟨x, rfl⟩ : ∃ x : Nat, a = (x : Int) := ⟨a.toNat, by omega⟩
  obtain ⟨y, rfl⟩ : ∃ y : Nat, b = (y : Int) := ⟨b.toNat, by omega⟩
  obtain ⟨z, rfl⟩ : ∃ z : Nat, c = (z : Int) := ⟨c.toNat, by omega⟩
  have a1 := ha.1.2
  have b1 := hb.1.2
  have c1 := hc.1.2
  rw [Int.toNat_natCast] at a1 b1 c1
  have h1 : x ||| y < 2 ^ n.toNat := Nat.or_lt_two_pow a1 b1
  have h2 : x ||| y ||| z < 2 ^ n.toNat := Nat.or_lt_two_pow h1 c1
  have hp : 2 ^ n.toNat ≤ 2 ^ 9 := Nat.pow_le_pow_right (by decide) (by omega)
  have hp1 : 1 ≤ 2 ^ n.toNat := Nat.pow_pos (by decide)
  have es : shl32 1 n = ((2 ^ n.toNat : Nat) : Int) := by
    have := shl32_id 1 n.toNat (by omega)
    rw [show ((n.toNat : Nat) : Int) = n by omega, Int.one_mul] at this
    exact this
  rw [or32_n (by omega) (by omega), or32_n (by omega) (by omega), es, i32_id (by omega) (by omega), i32_id (by omega) (by omega)]
  have e : (((x ||| y ||| z : Nat) : Int) = ((2 ^ n.toNat : Nat) : Int) - 1) ↔ (x ||| y ||| z) = 2 ^ n.toNat - 1 := by omega
  rw [e, full_iff h2]
  have hb' : ∀ q : Int, 0 ≤ q → q < n → ((x ||| y ||| z).testBit q.toNat = true ↔ (P q ∨ Q q ∨ R q)) := by
    intro q q1 q2
    have p1 := ha.2 q q1 q2
    have p2 := hb.2 q q1 q2
    have p3 := hc.2 q q1 q2
    unfold bQ at p1 p2 p3
    rw [Int.toNat_natCast] at p1 p2 p3
    rw [Nat.testBit_or, Nat.testBit_or, Bool.or_eq_true, Bool.or_eq_true, p1, p2, p3]
    constructor
    · rintro ((w | w) | w)
      · exact Or.inl w.2
      · exact Or.inr (Or.inl w.2)
      · exact Or.inr (Or.inr w.2)
    · rintro (w | w | w)
      · exact Or.inl (Or.inl ⟨q2, w⟩)
      · exact Or.inl (Or.inr ⟨q2, w⟩)
      · exact Or.inr ⟨q2, w⟩
  constructor
  · intro w q q1 q2
    exact (hb' q q1 q2).mp (w q.toNat (by omega))
  · intro w i hi
    have := (hb' (i : Int) (by omega) (by omega)).mpr (w (i : Int) (by omega) (by omega))
    rw [Int.toNat_natCast] at this
    exact this
/-- the places that are reached by doctors from a place who set out in an hour -/
def msk (V : Mm) (b w p k m : Int) : Prop := bqI (nP V) (nP V) (fun q => rea V b (hr V + k + w) p (hr V + k) q) m
def aRc (V : Mm) (b w x y z : Int) : Prop := ∀ k : Int, 0 ≤ k → k < 24 → ∀ q : Int, 0 ≤ q → q < nP V → (rea V b (hr V + k + w) x (hr V + k) q ∨ rea V b (hr V + k + w) y (hr V + k) q ∨ rea V b (hr V + k + w) z (hr V + k) q)
/-- how many doctors, and where the first such are -/
def dcA (P : Int → Int → Int → Prop) (n : Int) (x : Int × Int × Int × Int) : Prop :=
  (∃ a, (0 ≤ a ∧ a < n) ∧ P a a a ∧ (∀ a', 0 ≤ a' → a' < a → ¬ P a' a' a') ∧ x = (1, a, a, a)) ∨
  ((∀ a, 0 ≤ a → a < n → ¬ P a a a) ∧
    ((∃ a b, (0 ≤ a ∧ a < b ∧ b < n) ∧ P a b b ∧ (∀ a' b', 0 ≤ a' → a' < b' → b' < n → (a' < a ∨ (a' = a ∧ b' < b)) → ¬ P a' b' b') ∧ x = (2, a, b, b)) ∨
    ((∀ a b, 0 ≤ a → a < b → b < n → ¬ P a b b) ∧
      ((∃ a b c, (0 ≤ a ∧ a < b ∧ b < c ∧ c < n) ∧ P a b c ∧ (∀ a' b' c', 0 ≤ a' → a' < b' → b' < c' → c' < n → (a' < a ∨ (a' = a ∧ (b' < b ∨ (b' = b ∧ c' < c)))) → ¬ P a' b' c') ∧ x = (3, a, b, c)) ∨
      ((∀ a b c, 0 ≤ a → a < b → b < c → c < n → ¬ P a b c) ∧ x.1 = -1)))))
theorem dcA_un {P : Int → Int → Int → Prop} {n : Int} {x y : Int × Int × Int × Int} (h : dcA P n x) (h' : dcA P n y) : x.1 = y.1 ∧ (x.1 ≠ -1 → x = y) := by
  rcases h with ⟨a, a1, a2, a3, a4⟩ | ⟨a0, ⟨a, b, a1, a2, a3, a4⟩ | ⟨a9, ⟨a, b, c, a1, a2, a3, a4⟩ | ⟨a1, a2⟩⟩⟩ <;> rcases h' with ⟨a', b1, b2, b3, b4⟩ | ⟨b0, ⟨a', b', b1, b2, b3, b4⟩ | ⟨b9, ⟨a', b', c', b1, b2, b3, b4⟩ | ⟨b1, b2⟩⟩⟩
  · have e : a = a' := by
      rcases Int.lt_trichotomy a a' with g | g | g
      · exact absurd a2 (b3 a a1.1 g)
      · exact g
      · exact absurd b2 (a3 a' b1.1 g)
    subst e
    rw [a4, b4]
    exact ⟨rfl, fun _ => rfl⟩
  · exact absurd a2 (b0 a a1.1 a1.2)
  · exact absurd a2 (b0 a a1.1 a1.2)
  · exact absurd a2 (b0 a a1.1 a1.2)
  · exact absurd b2 (a0 a' b1.1 b1.2)
  · have e : a = a' ∧ b = b' := by
      by_cases g : (a < a' ∨ (a = a' ∧ b < b'))
      · exact absurd a2 (b3 a b a1.1 a1.2.1 a1.2.2 g)
      · by_cases g2 : (a' < a ∨ (a' = a ∧ b' < b))
        · exact absurd b2 (a3 a' b' b1.1 b1.2.1 b1.2.2 g2)
        · omega
    obtain ⟨e1, e2⟩ := e
    subst e1 e2
    rw [a4, b4]
    exact ⟨rfl, fun _ => rfl⟩
  · exact absurd a2 (b9 a b a1.1 a1.2.1 a1.2.2)
  · exact absurd a2 (b9 a b a1.1 a1.2.1 a1.2.2)
  · exact absurd b2 (a0 a' b1.1 b1.2)
  · exact absurd b2 (a9 a' b' b1.1 b1.2.1 b1.2.2)
  · have e : a = a' ∧ b = b' ∧ c = c' := by
      by_cases g : (a < a' ∨ (a = a' ∧ (b < b' ∨ (b = b' ∧ c < c'))))
      · exact absurd a2 (b3 a b c a1.1 a1.2.1 a1.2.2.1 a1.2.2.2 g)
      · by_cases g2 : (a' < a ∨ (a' = a ∧ (b' < b ∨ (b' = b ∧ c' < c))))
        · exact absurd b2 (a3 a' b' c' b1.1 b1.2.1 b1.2.2.1 b1.2.2.2 g2)
        · omega
    obtain ⟨e1, e2, e3⟩ := e
    subst e1 e2 e3
    rw [a4, b4]
    exact ⟨rfl, fun _ => rfl⟩
  · exact absurd a2 (b1 a b c a1.1 a1.2.1 a1.2.2.1 a1.2.2.2)
  · exact absurd b2 (a0 a' b1.1 b1.2)
  · exact absurd b2 (a9 a' b' b1.1 b1.2.1 b1.2.2)
  · exact absurd b2 (a1 a' b' c' b1.1 b1.2.1 b1.2.2.1 b1.2.2.2)
  · exact ⟨a2.trans b2.symm, fun z => absurd a2 z⟩
