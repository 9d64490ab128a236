/-- sets of small numbers as bits -/
def bQ (m k : Int) : Prop := m.toNat.testBit k.toNat = true
theorem bQ_test {m k : Int} (h1 : 0 ≤ m) (h2 : m < 2147483648) (h3 : 0 ≤ k) (h4 : k < 31) : (i32 (and32 (shr32 m k) 1) = 1 ∧ bQ m k) ∨ (i32 (and32 (shr32 m k) 1) = 0 ∧ ¬ bQ m k) := by
  obtain ⟨j, rfl⟩ : ∃ j : Nat, k = (j : Int) := ⟨k.toNat, by omega⟩
  obtain ⟨n, rfl⟩ : ∃ n : Nat, m = (n : Int) := ⟨m.toNat, by omega⟩
  rw [and32_1, shr32_id j (by omega) h2 (by omega), i32_id (by omega) (by omega)]
  unfold bQ
  rw [Int.toNat_natCast, Int.toNat_natCast, Nat.testBit_eq_decide_div_mod_eq, decide_eq_true_eq]
  have e : ((n : Int) / ((2 ^ j : Nat) : Int) % 2) = ((n / 2 ^ j % 2 : Nat) : Int) := by rw [Int.natCast_emod, Int.natCast_ediv]; rfl
  rw [e]
  omega
theorem bQ_set {m k : Int} {n : Nat} (h1 : 0 ≤ m) (hn : n ≤ 30) (h2 : m.toNat < 2 ^ n) (h3 : 0 ≤ k) (h4 : k.toNat < n) : or32 m (shl32 1 k) = ((m.toNat ||| 2 ^ k.toNat : Nat) : Int) ∧ (m.toNat ||| 2 ^ k.toNat) < 2 ^ n := by
  obtain ⟨j, rfl⟩ : ∃ j : Nat, k = (j : Int) := ⟨k.toNat, by omega⟩
  obtain ⟨q, rfl⟩ : ∃ q : Nat, m = (q : Int) := ⟨m.toNat, by omega⟩
  simp only [Int.toNat_natCast] at h2 h4 ⊢
  have hb : 2 ^ n ≤ 2 ^ 30 := Nat.pow_le_pow_right (by decide) hn
  have hj : 2 ^ j < 2 ^ n := Nat.pow_lt_pow_right (by decide) h4
  rw [shl32_id 1 j (by omega), Int.one_mul, or32_n (by omega) (by omega)]
  exact ⟨rfl, Nat.or_lt_two_pow h2 hj⟩
theorem bQ_or (q j i : Nat) : (q ||| 2 ^ j).testBit i = true ↔ (q.testBit i = true ∨ i = j) := by
  rw [Nat.testBit_or, Nat.testBit_two_pow, Bool.or_eq_true, decide_eq_true_eq]
  constructor
  · rintro (h | h)
    · exact Or.inl h
    · exact Or.inr h.symm
  · rintro (h | h)
    · exact Or.inl h
    · exact Or.inr h.symm
def cntb (m : Nat) : Nat → Nat
  | 0 => 0
  | n + 1 => (if m.testBit n = true then 1 else 0) + cntb m n
theorem cntb_le (m : Nat) : ∀ n, cntb m n ≤ n
  | 0 => Nat.le_refl 0
  | n + 1 => by have := cntb_le m n; unfold cntb; split <;> omega
theorem cntb_full (m : Nat) : ∀ n, cntb m n = n → ∀ k, k < n → m.testBit k = true
  | 0, _, k, hk => absurd hk (Nat.not_lt_zero k)
  | n + 1, h, k, hk => by
    have hle := cntb_le m n
    unfold cntb at h
    split at h
    · rename_i c
      by_cases e : k = n
      · subst e; exact c
      · exact cntb_full m n (by omega) k (by omega)
    · omega
theorem cntb_out {m k : Nat} : ∀ n, n ≤ k → cntb (m ||| 2 ^ k) n = cntb m n
  | 0, _ => rfl
  | n + 1, h => by
    unfold cntb
    rw [cntb_out n (by omega)]
    have : ((m ||| 2 ^ k).testBit n = true) ↔ (m.testBit n = true) := by
      rw [bQ_or]
      constructor
      · rintro (h' | h')
        · exact h'
        · omega
      · exact Or.inl
    by_cases c : m.testBit n = true
    · rw [if_pos c, if_pos (this.mpr c)]
    · rw [if_neg c, if_neg (fun z => c (this.mp z))]
theorem cntb_set {m k : Nat} (hk : ¬ m.testBit k = true) : ∀ n, k < n → cntb (m ||| 2 ^ k) n = cntb m n + 1
  | 0, h => absurd h (Nat.not_lt_zero k)
  | n + 1, h => by
    unfold cntb
    by_cases e : n = k
    · subst e
      rw [cntb_out n (Nat.le_refl n), if_pos ((bQ_or m n n).mpr (Or.inr rfl)), if_neg hk]
      omega
    · rw [cntb_set hk n (by omega)]
      by_cases c : m.testBit n = true
      · rw [if_pos c, if_pos ((bQ_or m k n).mpr (Or.inl c))]; omega
      · rw [if_neg c, if_neg (fun z => by rcases (bQ_or m k n).mp z with z | z; exact c z; exact e z)]
        omega
theorem cntb_zero : ∀ n, cntb 0 n = 0
  | 0 => rfl
  | n + 1 => by unfold cntb; rw [cntb_zero n]; simp
/-- the other end of a street -/
def oth (V : Mm) (s p : Int) : Int := if eF V s = p then eT V s else if eT V s = p then eF V s else -1
theorem e_count0 {V M : Mm} (h : Tc V M) : f_Told_count 3 0 M = some (nP V, M) := by
  unfold f_Told_count
  rw [e_cell_in (n := 3) M rfl (by decide) (by decide) (by decide), bI_s]
  show some (M 4 0, M) = _
  rw [h.1.1]
theorem e_count1 {V M : Mm} (h : Tc V M) : f_Told_count 3 1 M = some (nS V, M) := by
  unfold f_Told_count
  rw [e_cell_in (n := 3) M rfl (by decide) (by decide) (by decide), bI_s]
  show some (M 4 1, M) = _
  rw [h.1.2.1]
theorem e_count2 {V M : Mm} (h : Tc V M) : f_Told_count 3 2 M = some (nW V, M) := by
  unfold f_Told_count
  rw [e_cell_in (n := 3) M rfl (by decide) (by decide) (by decide), bI_s]
  show some (M 4 2, M) = _
  rw [h.1.2.2]
theorem oth_edg {V : Mm} {wo s p : Int} (h1 : 0 ≤ s) (h2 : s < nS V) (hw : s ≠ wo) (h : oth V s p ≠ -1) : edg V wo s p (oth V s p) := by
  unfold oth at *
  refine ⟨h1, h2, hw, ?_⟩
  by_cases c1 : eF V s = p
  · rw [if_pos c1]; exact Or.inl ⟨c1, rfl⟩
  · rw [if_neg c1] at h ⊢
    by_cases c2 : eT V s = p
    · rw [if_pos c2]; exact Or.inr ⟨c2, rfl⟩
    · rw [if_neg c2] at h; exact absurd rfl h
theorem edg_oth {V : Mm} (hT : Tw V) {wo s p q : Int} (h : edg V wo s p q) : oth V s p = q := by
  obtain ⟨h1, h2, -, h3⟩ := h
  have hne := (hT.2.2.2.1 s h1 h2).2.2.1
  unfold oth
  rcases h3 with ⟨e1, e2⟩ | ⟨e1, e2⟩
  · rw [if_pos e1, e2]
  · rw [if_neg (fun z => hne (z.trans e1.symm)), if_pos e1, e2]
theorem e_beyond {V M : Mm} (hT : Tw V) (h : Tc V M) {s p : Int} (h1 : 0 ≤ s) (h2 : s < nS V) (h3 : -1000000 ≤ p) (h4 : p ≤ 1000000) : f_Told_beyond 3 s p M = some (oth V s p, M) := by
  have hP := hT.1.2
  have hS := hT.2.1.2
  obtain ⟨a1, a2, -⟩ := hT.2.2.2.1 s h1 h2
  obtain ⟨k1, k2, -⟩ := h.2.1 s h1 h2
  have g1 : f_BT_cell (ptr 3 2) s M = some (eF V s, M) := by rw [e_cell_in (n := 12) M rfl (by decide) h1 (by omega)]; exact congrArg (fun z => some (z, M)) k1
  have g2 : f_BT_cell (ptr 3 3) s M = some (eT V s, M) := by rw [e_cell_in (n := 12) M rfl (by decide) h1 (by omega)]; exact congrArg (fun z => some (z, M)) k2
  unfold f_Told_beyond oth
  rw [g1, bI_s, g2, bI_s, i32_id (x := eF V s) (by omega) (by omega), i32_id (x := eT V s) (by omega) (by omega), i32_id (x := p) (by omega) (by omega)]
  by_cases c1 : eF V s = p
  · rw [if_neg (fun z => z c1), if_pos c1]
  · rw [if_pos c1, if_neg c1]
    by_cases c2 : eT V s = p
    · rw [if_neg (fun z => z c2), if_pos c2]
    · rw [if_pos c2, if_neg c2]
theorem e_min {a b : Int} (M : Mm) (h1 : -2147483648 ≤ a) (h2 : a < 2147483648) (h3 : -2147483648 ≤ b) (h4 : b < 2147483648) : f_Math_min a b M = some (if b < a then b else a, M) := by
  unfold f_Math_min
  rw [i32_id h1 h2, i32_id h3 h4]
  split <;> rfl
theorem e_max {a b : Int} (M : Mm) (h1 : -2147483648 ≤ a) (h2 : a < 2147483648) (h3 : -2147483648 ≤ b) (h4 : b < 2147483648) : f_Math_max a b M = some (if a < b then b else a, M) := by
  unfold f_Math_max
  rw [i32_id h1 h2, i32_id h3 h4]
  split <;> rfl
theorem s_soonest {V M : Mm} (hT : Tw V) (h : Tc V M) {D : Int} (hD : 0 ≤ D) (hD2 : D < 2147483648) (ha : ∀ p : Int, 0 ≤ p → p < 9 → 0 ≤ ar M 49 p ∧ ar M 49 p ≤ 1000000) : wq (f_Ways_soonestBut D M) (fun q => ((q.1 = -1 ∧ ∀ p : Int, 0 ≤ p → p < nP V → ¬ bQ D p → ar M 49 p = 1000000) ∨ ((0 ≤ q.1 ∧ q.1 < nP V) ∧ ¬ bQ D q.1 ∧ ar M 49 q.1 < 1000000 ∧ ∀ p : Int, 0 ≤ p → p < nP V → ¬ bQ D p → ar M 49 q.1 ≤ ar M 49 p)) ∧ q.2 = M) := by
  have hP := hT.1
  unfold f_Ways_soonestBut f_Ways_soonestBut_L8
  refine wq_lp (fun z => z.1 = D ∧ z.2.2.2.2 = M ∧ (0 ≤ z.2.2.2.1 ∧ z.2.2.2.1 ≤ nP V) ∧ (z.2.2.1 ≤ 1000000 ∧ 0 ≤ z.2.2.1) ∧ ((z.2.1 = -1 ∧ z.2.2.1 = 1000000) ∨ ((0 ≤ z.2.1 ∧ z.2.1 < nP V) ∧ ¬ bQ D z.2.1 ∧ ar M 49 z.2.1 = z.2.2.1 ∧ z.2.2.1 < 1000000)) ∧ ∀ p : Int, 0 ≤ p → p < z.2.2.2.1 → ¬ bQ D p → z.2.2.1 ≤ ar M 49 p) (fun z => (nP V - z.2.2.2.1).toNat) ?_ FU _ ?_ ?_
  · rintro kH ⟨v1, v2, v3, v4, M1⟩ ⟨e1, e2, e3, e4, e5, e6⟩ hk
    have e1 : v1 = D := e1
    have e2 : M1 = M := e2
    subst e1 e2
    have e3 : 0 ≤ v4 ∧ v4 ≤ nP V := e3
    have e4 : v3 ≤ 1000000 ∧ 0 ≤ v3 := e4
    have e5 : (v2 = -1 ∧ v3 = 1000000) ∨ ((0 ≤ v2 ∧ v2 < nP V) ∧ ¬ bQ v1 v2 ∧ ar M1 49 v2 = v3 ∧ v3 < 1000000) := e5
    have e6 : ∀ p : Int, 0 ≤ p → p < v4 → ¬ bQ v1 p → v3 ≤ ar M1 49 p := e6
    show wq (f_Ways_soonestBut_B8 (fun v1 v2 v3 v4 M => kH (v1, v2, v3, v4, M)) v1 v2 v3 v4 M1) _
    unfold f_Ways_soonestBut_B8
    rw [e_count0 h, bI_s, i32_id (x := nP V) (by omega) (by omega), i32_id (x := v4) (by omega) (by omega)]
    refine wq_if (fun c => ?_) (fun c => ?_)
    · refine wq_some ⟨?_, rfl⟩
      rcases e5 with ⟨z1, z2⟩ | ⟨z1, z2, z3, z4⟩
      · refine Or.inl ⟨z1, fun p p1 p2 p3 => ?_⟩
        have := e6 p p1 (by omega) p3
        have := ha p p1 (by omega)
        omega
      · exact Or.inr ⟨z1, z2, by show ar M1 49 v2 < 1000000; omega, fun p p1 p2 p3 => by show ar M1 49 v2 ≤ _; rw [z3]; exact e6 p p1 (by omega) p3⟩
    · have hstep : ∀ w2 w3 : Int, (w3 ≤ 1000000 ∧ 0 ≤ w3) → ((w2 = -1 ∧ w3 = 1000000) ∨ ((0 ≤ w2 ∧ w2 < nP V) ∧ ¬ bQ v1 w2 ∧ ar M1 49 w2 = w3 ∧ w3 < 1000000)) → (∀ p : Int, 0 ≤ p → p < v4 + 1 → ¬ bQ v1 p → w3 ≤ ar M1 49 p) → wq (kH (v1, w2, w3, v4 + 1, M1)) _ := fun w2 w3 q1 q2 q3 => hk _ ⟨rfl, rfl, ⟨show 0 ≤ v4 + 1 by omega, show v4 + 1 ≤ nP V by omega⟩, q1, q2, q3⟩ (show (nP V - (v4 + 1)).toNat < (nP V - v4).toNat by omega)
      rcases bQ_test hD hD2 e3.1 (show v4 < 31 by omega) with ⟨b1, b2⟩ | ⟨b1, b2⟩
      · rw [b1]
        refine wq_t (by decide) (hstep v2 v3 e4 e5 (fun p p1 p2 p3 => ?_))
        by_cases ep : p = v4
        · subst ep; exact absurd b2 p3
        · exact e6 p p1 (by omega) p3
      · rw [b1]
        have hav := ha v4 e3.1 (by omega)
        have ea : M1 49 v4.toNat = ar M1 49 v4 := rfl
        refine wq_e (fun z => z rfl) ?_
        rw [e_cell_in (n := 9) M1 rfl (by decide) e3.1 (by omega), bI_s, ea, i32_id (x := v3) (by omega) (by omega), i32_id (x := ar M1 49 v4) (by omega) (by omega)]
        refine wq_if (fun d => hstep v2 v3 e4 e5 (fun p p1 p2 p3 => ?_)) (fun d => ?_)
        · by_cases ep : p = v4
          · subst ep; exact d
          · exact e6 p p1 (by omega) p3
        · rw [e_cell_in (n := 9) M1 rfl (by decide) e3.1 (by omega), bI_s, ea]
          refine hstep v4 _ ⟨by omega, by omega⟩ (Or.inr ⟨⟨e3.1, by omega⟩, b2, rfl, by omega⟩) (fun p p1 p2 p3 => ?_)
          by_cases ep : p = v4
          · subst ep; exact Int.le_refl _
          · have := e6 p p1 (by omega) p3; omega
  · exact ⟨rfl, rfl, ⟨Int.le_refl _, hP.1⟩, ⟨Int.le_refl _, by show (0 : Int) ≤ 1000000; decide⟩, Or.inl ⟨rfl, rfl⟩, fun p p1 p2 => absurd p2 (by show ¬ p < 0; omega)⟩
  · show (nP V - 0).toNat < 1000000000
    omega
/-- what holds while the class searches: those done with are no later than the others -/
def dnA (V : Mm) (D : Int) (arr : Int → Int) : Prop := ∀ p q : Int, 0 ≤ p → p < nP V → 0 ≤ q → q < nP V → bQ D p → ¬ bQ D q → arr p ≤ arr q
def seL : List (Nat × Nat) := [(49, 99999), (18, 99999), (47, 99999)]
theorem edg_nP {V : Mm} (hT : Tw V) {wo s p q : Int} (h : edg V wo s p q) : (0 ≤ p ∧ p < nP V) ∧ (0 ≤ q ∧ q < nP V) ∧ p ≠ q := by
  obtain ⟨-, -, -, hTs, -⟩ := hT
  obtain ⟨h1, h2, -, h3⟩ := h
  obtain ⟨a1, a2, a3, -⟩ := hTs s h1 h2
  rcases h3 with ⟨e1, e2⟩ | ⟨e1, e2⟩ <;> subst e1 <;> subst e2
  · exact ⟨a1, a2, a3⟩
  · exact ⟨a2, a1, fun q => a3 q.symm⟩
/-- the streets of a place that is done with -/
def siA (V : Mm) (R : List (Int × Int × Int)) (b wo lim a t D P : Int) (st : Int) (arr : Int → Int) : Prop :=
  gdA V R b wo lim a t arr ∧ arr P < 1000000 ∧ (∀ p : Int, 0 ≤ p → p < nP V → bQ D p → arr p ≤ arr P) ∧ (∀ q : Int, 0 ≤ q → q < nP V → ¬ bQ D q → arr P ≤ arr q) ∧ (∀ s p q : Int, edg V wo s p q → bQ D p → p ≠ P → rlx V R b lim arr s p q) ∧ ∀ s q : Int, s < st → edg V wo s P q → rlx V R b lim arr s P q
theorem s_streets {V M0 : Mm} {R : List (Int × Int × Int)} {b wo a t D P tn : Int} {kx : Int → Int → Int → Int → Int → Mm → Option Mm} {Q : Mm → Prop} (hT : Tw V) (hN : Nw V) (h : Cl V M0) (hB : bzC M0 R) (hR : rdOk R) (hb1 : -1000000 ≤ b) (hb2 : b ≤ 1000000) (ht0 : 0 ≤ t) (ht1 : t ≤ 50000) (ha : 0 ≤ a ∧ a < 9) (hw1 : -2147483648 ≤ wo) (hw2 : wo < 2147483648) (hD1 : 0 ≤ D) (hD2 : D < 2147483648) (hP1 : 0 ≤ P) (hP2 : P < nP V) (hPD : bQ D P)
    (hI : siA V R b wo (t + 400) a t D P 0 (ar M0 49)) (k : ∀ M', Cl V M' → Fr seL M0 M' → siA V R b wo (t + 400) a t D P (nS V) (ar M' 49) → wq (kx b t wo D tn M') Q) : wq (f_Ways_search_L64 kx FU (b, t, wo, D, tn, P, 0, M0)) Q := by
  have hS := hT.2.1
  have hPP := hT.1
  unfold f_Ways_search_L64
  refine wq_lp (fun z => z.1 = b ∧ z.2.1 = t ∧ z.2.2.1 = wo ∧ z.2.2.2.1 = D ∧ z.2.2.2.2.1 = tn ∧ z.2.2.2.2.2.1 = P ∧ (0 ≤ z.2.2.2.2.2.2.1 ∧ z.2.2.2.2.2.2.1 ≤ nS V) ∧ Cl V z.2.2.2.2.2.2.2 ∧ Fr seL M0 z.2.2.2.2.2.2.2 ∧ siA V R b wo (t + 400) a t D P z.2.2.2.2.2.2.1 (ar z.2.2.2.2.2.2.2 49)) (fun z => (nS V - z.2.2.2.2.2.2.1).toNat) ?_ FU _ ?_ ?_
  · rintro kH ⟨v1, v3, v4, v5, v6, v7, v8, M1⟩ ⟨q1, q2, q3, q4, q5, q6, q7, q8, q9, q10⟩ hk
    have e1 : v1 = b := q1
    have e2 : v3 = t := q2
    have e3 : v4 = wo := q3
    have e4 : v5 = D := q4
    have e5 : v6 = tn := q5
    have e6 : v7 = P := q6
    subst e1 e2 e3 e4 e5 e6
    have e7 : 0 ≤ v8 ∧ v8 ≤ nS V := q7
    have e8 : Cl V M1 := q8
    have e9 : Fr seL M0 M1 := q9
    have e10 : siA V R v1 v4 (v3 + 400) a v3 v5 v7 v8 (ar M1 49) := q10
    clear q1 q2 q3 q4 q5 q6 q7 q8 q9 q10
    have hB1 := hB.fr e9 rfl
    obtain ⟨i1, i2, i3, i4, i5, i6⟩ := id e10
    show wq (f_Ways_search_B64 (fun v1 v3 v4 v5 v6 v7 v8 M => kH (v1, v3, v4, v5, v6, v7, v8, M)) kx v1 v3 v4 v5 v6 v7 v8 M1) _
    unfold f_Ways_search_B64
    rw [e_count1 e8.1, bI_s, i32_id (x := nS V) (by omega) (by omega), i32_id (x := v8) (by omega) (by omega)]
    refine wq_if (fun c => ?_) (fun c => ?_)
    · have ev : v8 = nS V := by omega
      rw [ev] at e10
      exact k M1 e8 e9 e10
    · have hnext : ∀ M', Cl V M' → Fr seL M0 M' → siA V R v1 v4 (v3 + 400) a v3 v5 v7 (v8 + 1) (ar M' 49) → wq (kH (v1, v3, v4, v5, v6, v7, v8 + 1, M')) Q := fun M' z1 z2 z3 => hk _ ⟨rfl, rfl, rfl, rfl, rfl, rfl, ⟨show 0 ≤ v8 + 1 by omega, show v8 + 1 ≤ nS V by omega⟩, z1, z2, z3⟩ (show (nS V - (v8 + 1)).toNat < (nS V - v8).toNat by omega)
      clear hk
      have hsame : (∀ q : Int, edg V v4 v8 v7 q → rlx V R v1 (v3 + 400) (ar M1 49) v8 v7 q) → siA V R v1 v4 (v3 + 400) a v3 v5 v7 (v8 + 1) (ar M1 49) := by
        intro hz
        refine ⟨i1, i2, i3, i4, i5, fun s q z1 z2 => ?_⟩
        by_cases es : s = v8
        · subst es; exact hz q z2
        · exact i6 s q (by omega) z2
      rw [e_beyond hT e8.1 e7.1 (by omega) (by omega) (by omega), bI_s]
      have hor : -1 ≤ oth V v8 v7 ∧ oth V v8 v7 < 9 := by
        by_cases c1 : oth V v8 v7 = -1
        · omega
        · have := edg_in hT (oth_edg (wo := -2) e7.1 (by omega) (by omega) c1)
          omega
      rw [i32_id (x := oth V v8 v7) (by omega) (by omega), i32_id (x := -1) (by omega) (by omega), i32_id (x := v4) hw1 hw2]
      by_cases c1 : oth V v8 v7 = -1
      · refine wq_t c1 (hnext M1 e8 e9 (hsame (fun q z => ?_)))
        have := edg_oth hT z
        have := edg_nP hT z
        omega
      refine wq_e c1 ?_
      by_cases c2 : v8 = v4
      · refine wq_t c2 (hnext M1 e8 e9 (hsame (fun q z => absurd c2 z.2.2.1)))
      refine wq_e c2 ?_
      have hed := oth_edg (p := v7) e7.1 (by omega : v8 < nS V) c2 c1
      have hin := edg_nP hT hed
      have huq : ∀ q : Int, edg V v4 v8 v7 q → q = oth V v8 v7 := fun q z => (edg_oth hT z).symm
      have hO1 : 0 ≤ oth V v8 v7 := hin.2.1.1
      have hO2 : oth V v8 v7 < nP V := hin.2.1.2
      generalize hO : oth V v8 v7 = O at *
      have hap := Sp_rng hT (by omega) i1.2 hP1 (by omega)
      have haq := Sp_rng hT (by omega) i1.2 hO1 (by omega : O < 9)
      have htk := (hT.2.2.2.1 v8 e7.1 (by omega)).2.2.2.1
      have ek8 := (e8.1.2.1 v8 e7.1 (by omega)).2.2.1
      have ep : M1 49 v7.toNat = ar M1 49 v7 := rfl
      have eo : M1 49 O.toNat = ar M1 49 O := rfl
      rcases bQ_test hD1 hD2 hO1 (by omega : O < 31) with ⟨b1, b2⟩ | ⟨b1, b2⟩
      · rw [b1]
        refine wq_e (fun z => z rfl) (hnext M1 e8 e9 (hsame (fun q z => ?_)))
        rw [huq q z]
        intro z1 x z2 z3 z4
        have := i3 O hO1 hO2 b2
        omega
      · rw [b1]
        refine wq_t (by decide) ?_
        rw [e_cell_in (n := 12) M1 rfl (by decide) e7.1 (by omega), bI_s, e_cell_in (n := 9) M1 rfl (by decide) hO1 (by omega), bI_s, ek8, eo, e_min M1 (by omega) (by omega) (by omega) (by omega), bI_s, e_cell_in (n := 9) M1 rfl (by decide) hP1 (by omega), bI_s, ep]
        obtain ⟨lt, hlt, hlt2⟩ : ∃ lt, lt = (if ar M1 49 O - 1 < v3 + 400 then ar M1 49 O - 1 else v3 + 400) ∧ lt ≤ v3 + 400 ∧ lt ≤ ar M1 49 O - 1 ∧ (lt = v3 + 400 ∨ lt = ar M1 49 O - 1) ∧ -1 ≤ lt := ⟨_, rfl, by split <;> omega⟩
        rw [← hlt]
        clear hlt
        refine wq_I (s_firstPass hT hN e8 hB1 hR e7.1 (by omega) hb1 hb2 (show 0 ≤ ar M1 49 v7 by omega) (by omega) (show -1000 ≤ lt - tk V v8 by omega) (by omega)) (fun r M2 ⟨w1, w2, w3⟩ => ?_)
        have w1 : isF (fre V R v8 v1) (ar M1 49 v7) (lt - tk V v8) (-1) r := w1
        have w2 : Cl V M2 := w2
        have w3 : Fr wcL M1 M2 := w3
        have e49 : M2 49 = M1 49 := w3.row 49 rfl
        have F2 : Fr seL M0 M2 := e9.tr (w3.cov rfl)
        rcases w1 with ⟨x1, x2⟩ | ⟨x1, x2, x3, x4⟩
        · subst x1
          refine wq_t rfl (hnext M2 w2 F2 ?_)
          have ea : ar M2 49 = ar M1 49 := by unfold ar; rw [e49]
          rw [ea]
          refine hsame (fun q z => ?_)
          rw [huq q z]
          intro z1 x z2 z3 z4
          have : ¬ x ≤ lt - tk V v8 := fun y => x2 x z2 y z3
          omega
        · rw [i32_id (x := r) (by omega) (by omega)]
          refine wq_e (by omega) ?_
          rw [e_set (n := 9) M2 rfl (by decide) hO1 (by omega), bV_s]
          have hup : ∀ y : Int, 0 ≤ y → ar (up M2 49 O.toNat (r + tk V v8)) 49 y = if y = O then r + tk V v8 else ar M1 49 y := by
            intro y y1
            rw [ar_up _ _ _ _ hO1 y y1]
            unfold ar
            rw [e49]
          refine hnext _ (w2.fr (l := [(49, 99999)]) (Fr.rf.up (by simp)) rfl rfl rfl) (F2.up (by simp [seL])) ?_
          generalize ar (up M2 49 O.toNat (r + tk V v8)) 49 = g at *
          have hP3 : g v7 = ar M1 49 v7 := by rw [hup v7 hP1, if_neg (fun z => hin.2.2 z)]
          have hlow : ∀ y : Int, 0 ≤ y → g y ≤ ar M1 49 y := by
            intro y y1
            rw [hup y y1]
            split
            · rename_i z; subst z; omega
            · exact Int.le_refl _
          refine ⟨gdA_put hT (by omega) ha i1 hed (by omega) x1 x3 (by omega) (by omega) (fun y y1 _ => hup y y1), by rw [hP3]; exact i2, fun p p1 p2 p3 => ?_, fun q p1 p2 p3 => ?_, fun s p q z1 z2 z3 => ?_, fun s q z1 z2 => ?_⟩
          · rw [hP3, hup p p1, if_neg (fun z => by subst z; exact b2 p3)]
            exact i3 p p1 p2 p3
          · rw [hP3, hup q p1]
            split
            · omega
            · exact i4 q p1 p2 p3
          · have hz := i5 s p q z1 z2 z3
            have hnp := edg_nP hT z1
            have egp : g p = ar M1 49 p := by rw [hup p hnp.1.1, if_neg (fun z => by subst z; exact b2 z2)]
            have hgq := hlow q hnp.2.1.1
            intro y1 x y2 y3 y4
            rw [egp] at y1 y2
            have := hz y1 x y2 y3 y4
            omega
          · have hnp := edg_nP hT z2
            have hgq := hlow q hnp.2.1.1
            intro y1 x y2 y3 y4
            rw [hP3] at y1 y2
            by_cases es : s = v8
            · subst es
              have eq := huq q z2
              rw [eq, hup O hO1, if_pos rfl]
              have : ¬ x < r := fun y => x4 x y2 y y3
              omega
            · have := i6 s q (by omega) z2 y1 x y2 y3 y4
              omega
  · exact ⟨rfl, rfl, rfl, rfl, rfl, rfl, ⟨Int.le_refl _, hS.1⟩, h, Fr.rf, hI⟩
  · show (nS V - 0).toNat < 1000000000
    omega
