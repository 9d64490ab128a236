theorem hwB_lt {T : Nat → Int} {e q : Int} {L : List Int} (hq : 0 ≤ q) (hL : 1 ≤ L.length) (hl : ∀ i : Nat, i < L.length → 97 ≤ L.getD i 0 ∧ L.getD i 0 ≤ 122) (h : hwB T e L q) : q + L.length ≤ e := by
  have h1 := h.1 (L.length - 1) (by omega)
  have h2 := hl (L.length - 1) (by omega)
  have := bte_lt (T := T) (e := e) (k := q + ((L.length - 1 : Nat) : Int)) (by omega) (by omega)
  omega
theorem s_atWord {T : Nat → Int} {e p g : Int} {M : Mm} {w : Nat} {L : List Int} (hB : Bt T e) (h : Sc T e p g M) (hL : cwd w L) : wq (f_Scan_atWord w M) (fun q => tf q.1 (hw T e L p g) ∧ Sc T e (sk T e p) g q.2 ∧ Fr [(1, 2)] M q.2) := by
  obtain ⟨l1, l2, l3⟩ := hL
  have hh := hB.1
  unfold f_Scan_atWord
  refine wq_V (s_skip hB h) (fun M1 ⟨a1, a2⟩ => ?_)
  have b := a1.2.2.2.2.2.1
  have bg := a1.2.2.2.2.2.2.1
  rw [a1.2.2.1, a1.2.2.2.1, i32_id (x := sk T e p) (by omega) (by omega), i32_id (x := g) (by omega) (by omega)]
  refine wq_if (fun c => wq_some ⟨Or.inr ⟨rfl, fun z => z.1 c⟩, a1, a2⟩) (fun c => ?_)
  have hr := bte_rng hB (sk T e p + L.length)
  rw [e_strlen M1 (by omega), bI_s, l1, e_bt hB a1 (by omega) (by omega), bI_s]
  refine wq_I (e_isLetC M1 (by omega) (by omega)) (fun r M2 ⟨b1, b2⟩ => ?_)
  have b2 : M2 = M1 := b2
  rw [b2]
  rcases b1 with ⟨b1, b3⟩ | ⟨b1, b3⟩
  · have b1 : r = 1 := b1
    rw [b1]
    exact wq_e (by decide) (wq_some ⟨Or.inr ⟨rfl, fun z => z.2.2 b3⟩, a1, a2⟩)
  · have b1 : r = 0 := b1
    rw [b1]
    refine wq_t (by decide) ?_
    unfold f_Scan_atWord_L38
    refine wq_lp (fun z => (0 ≤ z.1 ∧ z.1 ≤ (L.length : Int)) ∧ (∀ i : Nat, (i : Int) < z.1 → bte T e (sk T e p + i) = L.getD i 0) ∧ z.2 = M1) (fun z => ((L.length : Int) - z.1).toNat) ?_ FU _ ?_ ?_
    · rintro kH ⟨v2, N⟩ ⟨q1, q2, q3⟩ hk
      have c1 : 0 ≤ v2 ∧ v2 ≤ (L.length : Int) := q1
      have c2 : ∀ i : Nat, (i : Int) < v2 → bte T e (sk T e p + i) = L.getD i 0 := q2
      have c3 : N = M1 := q3
      clear q1 q2 q3
      subst c3
      show wq (f_Scan_atWord_B38 w (fun v2 M => kH (v2, M)) v2 N) _
      unfold f_Scan_atWord_B38
      rw [e_strlen N (by omega), bI_s, l1, i32_id (x := (L.length : Int)) (by omega) (by omega), i32_id (x := v2) (by omega) (by omega)]
      refine wq_if (fun d => wq_some ⟨Or.inl ⟨rfl, c, fun i hi => c2 i (by omega), b3⟩, a1, a2⟩) (fun d => ?_)
      have hl := l3 v2.toNat (by omega)
      have hr2 := bte_rng hB (sk T e p + v2)
      rw [a1.2.2.1, e_bt hB a1 (by omega) (by omega), bI_s, e_charAt N c1.1 (by omega) (by omega) (by omega), bI_s, hl.1, i32_id (x := bte T e (sk T e p + v2)) (by omega) (by omega), i32_id (x := L.getD v2.toNat 0) (by omega) (by omega)]
      refine wq_if (fun f => hk _ ⟨⟨show 0 ≤ v2 + 1 by omega, show v2 + 1 ≤ (L.length : Int) by omega⟩, fun i hi => ?_, rfl⟩ (show ((L.length : Int) - (v2 + 1)).toNat < ((L.length : Int) - v2).toNat by omega)) (fun f => wq_some ⟨Or.inr ⟨rfl, fun z => f ?_⟩, a1, a2⟩)
      · have hi : (i : Int) < v2 + 1 := hi
        by_cases ei : (i : Int) = v2
        · rw [ei, f, show v2.toNat = i by omega]
        · exact c2 i (by omega)
      · have := z.2.1 v2.toNat (by omega)
        rw [show ((v2.toNat : Nat) : Int) = v2 by omega] at this
        exact this
    · exact ⟨⟨Int.le_refl _, by show (0 : Int) ≤ _; omega⟩, fun i hi => absurd hi (by show ¬ (i : Int) < 0; omega), rfl⟩
    · show ((L.length : Int) - 0).toNat < 1000000000
      omega
theorem s_takeWord {T : Nat → Int} {e p g : Int} {M : Mm} {w : Nat} {L : List Int} (hB : Bt T e) (h : Sc T e p g M) (hL : cwd w L) : wq (f_Scan_takeWord w M) (fun q => ((q.1 = 1 ∧ hw T e L p g ∧ Sc T e (sk T e p + L.length) (sk T e p + L.length) q.2) ∨ (q.1 = 0 ∧ ¬ hw T e L p g ∧ Sc T e (sk T e p) g q.2)) ∧ Fr scL M q.2) := by
  have hh := hB.1
  unfold f_Scan_takeWord
  refine wq_I (s_atWord hB h hL) (fun r M1 ⟨a1, a2, a3⟩ => ?_)
  have a2 : Sc T e (sk T e p) g M1 := a2
  have a3 : Fr [(1, 2)] M M1 := a3
  have b := a2.2.2.2.2.2.1
  obtain ⟨l1, l2, l3⟩ := hL
  rcases a1 with ⟨b1, b3⟩ | ⟨b1, b3⟩
  · have b1 : r = 1 := b1
    have hle := hwB_lt b.1 l2.1 (fun i hi => (l3 i hi).2) b3.2
    rw [b1]
    refine wq_t (by decide) ?_
    rw [e_strlen M1 (by omega), bI_s, l1, a2.2.2.1]
    refine wq_d (wq_d ?_)
    rw [up_eq]
    exact wq_some ⟨Or.inl ⟨rfl, b3, a2.mv2 hB (by omega) hle⟩, ((a3.cov rfl : Fr scL M M1).up (by simp [scL])).up (by simp [scL])⟩
  · have b1 : r = 0 := b1
    rw [b1]
    exact wq_e (by decide) (wq_some ⟨Or.inr ⟨rfl, b3, a2⟩, a3.cov rfl⟩)
theorem s_atNumber {T : Nat → Int} {e p g : Int} {M : Mm} (hB : Bt T e) (h : Sc T e p g M) : wq (f_Scan_atNumber M) (fun q => tf q.1 (sk T e p ≠ g ∧ isDig (bte T e (sk T e p))) ∧ Sc T e (sk T e p) g q.2 ∧ Fr [(1, 2)] M q.2) := by
  have hh := hB.1
  unfold f_Scan_atNumber
  refine wq_V (s_skip hB h) (fun M1 ⟨a1, a2⟩ => ?_)
  have b := a1.2.2.2.2.2.1
  have bg := a1.2.2.2.2.2.2.1
  have hr := bte_rng hB (sk T e p)
  rw [a1.2.2.1, a1.2.2.2.1, i32_id (x := sk T e p) (by omega) (by omega), i32_id (x := g) (by omega) (by omega)]
  refine wq_if (fun c => wq_some ⟨Or.inr ⟨rfl, fun z => z.1 c⟩, a1, a2⟩) (fun c => ?_)
  rw [e_bt hB a1 (by omega) (by omega), bI_s]
  refine wq_I (e_isDigC M1 (by omega) (by omega)) (fun r M2 ⟨b1, b2⟩ => ?_)
  have b2 : M2 = M1 := b2
  rw [b2]
  rcases b1 with ⟨b1, b3⟩ | ⟨b1, b3⟩
  · have b1 : r = 1 := b1
    rw [b1]
    exact wq_e (by decide) (wq_some ⟨Or.inl ⟨rfl, c, b3⟩, a1, a2⟩)
  · have b1 : r = 0 := b1
    rw [b1]
    exact wq_t (by decide) (wq_some ⟨Or.inr ⟨rfl, fun z => b3 z.2⟩, a1, a2⟩)
/-- the digits of a number, four at most -/
def nmv (T : Nat → Int) (e : Int) : Nat → Int → Int → Int × Int
  | 0, p, v => (p, v)
  | n + 1, p, v => if 48 ≤ bte T e p ∧ bte T e p ≤ 57 then nmv T e n (p + 1) (10 * v + bte T e p - 48) else (p, v)
theorem nmv_rng (T : Nat → Int) (e : Int) : ∀ (n : Nat) (p v B : Int), 0 ≤ p → p ≤ e → 0 ≤ v → v < B → (p ≤ (nmv T e n p v).1 ∧ (nmv T e n p v).1 ≤ e) ∧ 0 ≤ (nmv T e n p v).2 ∧ (nmv T e n p v).2 < B * 10 ^ n
  | 0, p, v, B, h0, h1, h2, h3 => by
    unfold nmv
    exact ⟨⟨Int.le_refl _, h1⟩, h2, by omega⟩
  | n + 1, p, v, B, h0, h1, h2, h3 => by
    unfold nmv
    have hp : (1 : Int) ≤ 10 ^ (n + 1) := Int.pow_pos (by decide)
    by_cases c : 48 ≤ bte T e p ∧ bte T e p ≤ 57
    · rw [if_pos c]
      have hl := bte_lt (T := T) (e := e) h0 (by omega)
      obtain ⟨i1, i2, i3⟩ := nmv_rng T e n (p + 1) (10 * v + bte T e p - 48) (B * 10) (by omega) (by omega) (by omega) (by omega)
      refine ⟨by omega, i2, ?_⟩
      rw [Int.pow_succ, Int.mul_comm (10 ^ n) 10, ← Int.mul_assoc]
      exact i3
    · rw [if_neg c]
      refine ⟨⟨Int.le_refl _, h1⟩, h2, Int.lt_of_lt_of_le h3 ?_⟩
      have := Int.mul_le_mul_of_nonneg_left hp (show 0 ≤ B by omega)
      rw [Int.mul_one] at this
      exact this
theorem nmv_y {T : Nat → Int} {e : Int} {n : Nat} {p v : Int} (h : 48 ≤ bte T e p ∧ bte T e p ≤ 57) : nmv T e (n + 1) p v = nmv T e n (p + 1) (10 * v + bte T e p - 48) := if_pos h
theorem nmv_n {T : Nat → Int} {e : Int} {n : Nat} {p v : Int} (h : ¬ (48 ≤ bte T e p ∧ bte T e p ≤ 57)) : nmv T e (n + 1) p v = (p, v) := if_neg h
/-- a number: its fault, or where it ends and what it is -/
def numR (T : Nat → Int) (e least most p g : Int) : (Int × Int) ⊕ (Int × Int) :=
  if sk T e p ≠ g ∧ 48 ≤ bte T e (sk T e p) ∧ bte T e (sk T e p) ≤ 57 then
    (if 48 ≤ bte T e (nmv T e 4 (sk T e p) 0).1 ∧ bte T e (nmv T e 4 (sk T e p) 0).1 ≤ 57 then .inl (1, (nmv T e 4 (sk T e p) 0).1)
    else if (nmv T e 4 (sk T e p) 0).2 < least ∨ most < (nmv T e 4 (sk T e p) 0).2 then .inl (2, sk T e p) else .inr (nmv T e 4 (sk T e p) 0))
  else .inl (1, sk T e p)
theorem s_number {T : Nat → Int} {e p g least most : Int} {M : Mm} (hB : Bt T e) (h : Sc T e p g M) (h1 : 0 ≤ least) (h2 : least ≤ 9999) (h3 : 0 ≤ most) (h4 : most ≤ 9999) : wq (f_Scan_number least most M) (fun q => ((∃ p1 v, numR T e least most p g = .inr (p1, v) ∧ q.1 = v ∧ (least ≤ v ∧ v ≤ most) ∧ sk T e p < p1 ∧ Sc T e p1 p1 q.2) ∨ (∃ k pl, numR T e least most p g = .inl (k, pl) ∧ q.1 = -1 ∧ Fb T e k pl q.2)) ∧ Fr scL M q.2) := by
  have hh := hB.1
  unfold f_Scan_number
  refine wq_I (s_atNumber hB h) (fun r M1 ⟨a1, a2, a3⟩ => ?_)
  have a2 : Sc T e (sk T e p) g M1 := a2
  have a3 : Fr [(1, 2)] M M1 := a3
  have b := a2.2.2.2.2.2.1
  have bg := a2.2.2.2.2.2.2.1
  have hp0 := h.2.2.2.2.2.1
  have F1 : Fr scL M M1 := a3.cov rfl
  rcases a1 with ⟨b1, b3⟩ | ⟨b1, b3⟩
  · have b1 : r = 1 := b1
    rw [b1]
    refine wq_t (by decide) (wq_d ?_)
    rw [a2.2.2.1]
    have c0 : sk T e p ≠ g ∧ 48 ≤ bte T e (sk T e p) ∧ bte T e (sk T e p) ≤ 57 := ⟨b3.1, b3.2.1, b3.2.2⟩
    have hnr := nmv_rng T e 4 (sk T e p) 0 1 b.1 b.2 (by decide) (by decide)
    have hnp : sk T e p < (nmv T e 4 (sk T e p) 0).1 := by
      rw [nmv_y (n := 3) c0.2]
      have hl := bte_lt (T := T) (e := e) b.1 (by have := c0.2.1; omega)
      have := (nmv_rng T e 3 (sk T e p + 1) (10 * 0 + bte T e (sk T e p) - 48) 10 (by omega) (by omega) (by have := c0.2.1; omega) (by have := c0.2.2; omega)).1
      omega
    have hfin : ∀ (v3 : Int) (N : Mm), Sc T e (nmv T e 4 (sk T e p) 0).1 g N → v3 = (nmv T e 4 (sk T e p) 0).2 → N 1 4 = sk T e p → Fr scL M N → wq (f_Scan_number_J80 least most v3 N) (fun q => ((∃ p1 v, numR T e least most p g = .inr (p1, v) ∧ q.1 = v ∧ (least ≤ v ∧ v ≤ most) ∧ sk T e p < p1 ∧ Sc T e p1 p1 q.2) ∨ (∃ k pl, numR T e least most p g = .inl (k, pl) ∧ q.1 = -1 ∧ Fb T e k pl q.2)) ∧ Fr scL M q.2) := by
      intro v3 N n1 n2 n3 n4
      unfold numR
      rw [if_pos c0]
      generalize hR : nmv T e 4 (sk T e p) 0 = R at *
      unfold f_Scan_number_J80
      refine wq_d ?_
      rw [n1.2.2.1]
      have n5 : Sc T e R.1 R.1 (up N 1 3 R.1) := by
        obtain ⟨z1, z2, z3, z4, z5, z6, z7⟩ := n1
        exact ⟨by rw [up_col (by decide)]; exact z1, by rw [up_row (by decide)]; exact z2, by rw [up_col (by decide)]; exact z3, up_eq _ _ _ _, by rw [up_col (by decide)]; exact z5, z6, ⟨by omega, by omega⟩, by rw [up_col (by decide)]; exact z7.2⟩
      have n6 : Fr scL M (up N 1 3 R.1) := n4.up (by simp [scL])
      have n7 : (up N 1 3 R.1) 1 4 = sk T e p := by rw [up_col (by decide)]; exact n3
      generalize up N 1 3 R.1 = N2 at *
      have hr2 := bte_rng hB R.1
      rw [n5.2.2.1, e_bt hB n5 (by omega) (by omega), bI_s]
      refine wq_I (e_isDigC N2 (by omega) (by omega)) (fun r2 M2 ⟨d1, d2⟩ => ?_)
      have d2 : M2 = N2 := d2
      rw [d2]
      rcases d1 with ⟨d1, d3⟩ | ⟨d1, d3⟩
      · have d1 : r2 = 1 := d1
        rw [d1, n5.2.2.1]
        refine wq_e (by decide) (wq_I (s_fail n5 (k := 1) (pl := R.1) (by decide) (by omega)) (fun r3 M3 ⟨f1, f2, f3⟩ => wq_some ⟨Or.inr ⟨1, R.1, ?_, rfl, f2⟩, n6.tr f3⟩))
        rw [if_pos ⟨d3.1, d3.2⟩]
      · have d1 : r2 = 0 := d1
        rw [d1]
        have hn : ¬ (48 ≤ bte T e R.1 ∧ bte T e R.1 ≤ 57) := fun z => d3 ⟨z.1, z.2⟩
        rw [if_neg hn, i32_id (x := v3) (by omega) (by omega), i32_id (x := least) (by omega) (by omega), i32_id (x := most) (by omega) (by omega)]
        refine wq_t (by decide) ?_
        have hbad : (R.2 < least ∨ most < R.2) → wq (f_Scan_number_J124 N2) (fun q => ((∃ p1 v, (if R.2 < least ∨ most < R.2 then (Sum.inl (2, sk T e p) : (Int × Int) ⊕ (Int × Int)) else .inr R) = .inr (p1, v) ∧ q.1 = v ∧ (least ≤ v ∧ v ≤ most) ∧ sk T e p < p1 ∧ Sc T e p1 p1 q.2) ∨ (∃ k pl, (if R.2 < least ∨ most < R.2 then (Sum.inl (2, sk T e p) : (Int × Int) ⊕ (Int × Int)) else .inr R) = .inl (k, pl) ∧ q.1 = -1 ∧ Fb T e k pl q.2)) ∧ Fr scL M q.2) := by
          intro hz
          unfold f_Scan_number_J124
          rw [n7]
          refine wq_I (s_fail n5 (k := 2) (pl := sk T e p) (by decide) (by omega)) (fun r3 M3 ⟨f1, f2, f3⟩ => wq_some ⟨Or.inr ⟨2, sk T e p, ?_, rfl, f2⟩, n6.tr f3⟩)
          rw [if_pos hz]
        refine wq_if (fun z => hbad (Or.inl (by omega))) (fun z => wq_if (fun y => wq_some ⟨Or.inl ⟨R.1, R.2, ?_, n2, ⟨by omega, by omega⟩, hnp, n5⟩, n6⟩) (fun y => hbad (Or.inr (by omega))))
        rw [if_neg (by omega)]
    have n1 : Sc T e (sk T e p) g (up M1 1 4 (sk T e p)) := by
      obtain ⟨z1, z2, z3, z4, z5, z6, z7⟩ := a2
      exact ⟨by rw [up_col (by decide)]; exact z1, by rw [up_row (by decide)]; exact z2, by rw [up_col (by decide)]; exact z3, by rw [up_col (by decide)]; exact z4, by rw [up_col (by decide)]; exact z5, z6, z7⟩
    unfold f_Scan_number_L27
    refine wq_lp (fun z => z.1 = least ∧ z.2.1 = most ∧ (0 ≤ z.2.2.2.1 ∧ z.2.2.2.1 ≤ 4) ∧ (∃ p', Sc T e p' g z.2.2.2.2 ∧ nmv T e (4 - z.2.2.2.1).toNat p' z.2.2.1 = nmv T e 4 (sk T e p) 0) ∧ z.2.2.2.2 1 4 = sk T e p ∧ Fr scL M z.2.2.2.2) (fun z => (4 - z.2.2.2.1).toNat) ?_ FU _ ?_ ?_
    · rintro kH ⟨v1, v2, v3, v4, N⟩ ⟨q1, q2, q3, ⟨p', q4, q5⟩, q6, q7⟩ hk
      have e1 : v1 = least := q1
      have e2 : v2 = most := q2
      have e3 : 0 ≤ v4 ∧ v4 ≤ 4 := q3
      have e4 : Sc T e p' g N := q4
      have e5 : nmv T e (4 - v4).toNat p' v3 = nmv T e 4 (sk T e p) 0 := q5
      have e6 : N 1 4 = sk T e p := q6
      have e7 : Fr scL M N := q7
      clear q1 q2 q3 q4 q5 q6 q7
      subst e1 e2
      have eb := e4.2.2.2.2.2.1
      have hr3 := bte_rng hB p'
      show wq (f_Scan_number_B27 (fun v1 v2 v3 v4 M => kH (v1, v2, v3, v4, M)) _ v1 v2 v3 v4 N) _
      unfold f_Scan_number_B27
      rw [i32_id (x := 4) (by omega) (by omega), i32_id (x := v4) (by omega) (by omega)]
      refine wq_if (fun c => ?_) (fun c => ?_)
      · rw [show (4 - v4).toNat = 0 by omega] at e5
        have e8 : (p', v3) = nmv T e 4 (sk T e p) 0 := e5
        exact hfin v3 N (by rw [← e8]; exact e4) (by rw [← e8]) e6 e7
      · rw [e4.2.2.1, e_bt hB e4 (by omega) (by omega), bI_s]
        refine wq_I (e_isDigC N (by omega) (by omega)) (fun r2 M2 ⟨d1, d2⟩ => ?_)
        have d2 : M2 = N := d2
        rw [d2]
        rw [show (4 - v4).toNat = (4 - (v4 + 1)).toNat + 1 by omega] at e5
        rcases d1 with ⟨d1, d3⟩ | ⟨d1, d3⟩
        · have d1 : r2 = 1 := d1
          have hl := bte_lt (T := T) (e := e) eb.1 (by have := d3.1; omega)
          rw [nmv_y ⟨d3.1, d3.2⟩] at e5
          have n8 : Sc T e (p' + 1) g (up N 1 2 (p' + 1)) := e4.mv (by omega) (by omega)
          rw [d1, e4.2.2.1, e_bt hB e4 (by omega) (by omega), bI_s, e4.2.2.1]
          refine wq_e (by decide) (wq_d (hk _ ⟨rfl, rfl, ⟨show 0 ≤ v4 + 1 by omega, show v4 + 1 ≤ 4 by omega⟩, ⟨p' + 1, n8, e5⟩, ?_, e7.up (by simp [scL])⟩ (show (4 - (v4 + 1)).toNat < (4 - v4).toNat by omega)))
          show up N 1 2 (p' + 1) 1 4 = sk T e p
          rw [up_col (by decide)]; exact e6
        · have d1 : r2 = 0 := d1
          rw [nmv_n (fun z => d3 ⟨z.1, z.2⟩)] at e5
          rw [d1]
          exact wq_t (by decide) (hfin v3 N (by rw [← e5]; exact e4) (by rw [← e5]) e6 e7)
    · exact ⟨rfl, rfl, ⟨Int.le_refl _, by show (0 : Int) ≤ 4; decide⟩, ⟨sk T e p, n1, rfl⟩, by show up M1 1 4 (sk T e p) 1 4 = _; rw [up_eq], F1.up (by simp [scL])⟩
    · show (4 - (0 : Int)).toNat < 1000000000
      decide
  · have b1 : r = 0 := b1
    rw [b1]
    refine wq_e (by decide) (wq_I (s_unex hB a2) (fun r2 M2 ⟨c1, c2, c3⟩ => ?_))
    have c2 : Fb T e 1 (sk T e (sk T e p)) M2 := c2
    rw [sk_sk T hp0.1] at c2
    refine wq_some ⟨Or.inr ⟨1, sk T e p, ?_, rfl, c2⟩, F1.tr c3⟩
    unfold numR
    rw [if_neg (fun z => b3 ⟨z.1, z.2.1, z.2.2⟩)]
