/-- the reference behind the reading of a question -/
def qM (T : Nat → Int) (e kd : Int) (M : Mm) : Prop := (∃ k pl, qRes T e = some (.inl (k, pl)) ∧ Fm T e k pl M) ∨ (∃ C p g, qRes T e = some (.inr (kd, C)) ∧ (0 ≤ kd ∧ kd ≤ 5) ∧ Sm T e p g M ∧ M 78 89 = (C.length : Int) ∧ ∀ k : Nat, k < C.length → M 142 k = C.getD k 0)
theorem s_mhead {U T : Nat → Int} {e : Int} {M : Mm} (hB : Bt T e) (h : Xq U T e 0 (-1) 0 [] [] [] M) : wq (f_M_qKind M) (fun q => ((hdR T e = .inl (1, sk T e 0) ∧ q.1 = 5 ∧ Fm T e 1 (sk T e 0) q.2) ∨ (∃ kd p, hdR T e = .inr (kd, p) ∧ q.1 = kd ∧ (0 ≤ kd ∧ kd ≤ 5) ∧ 1 ≤ p ∧ Xq U T e p p 0 [] [] [] q.2)) ∧ Fr xqA M q.2) := by
  have hh := hB.1
  have hss := sk_sk T (e := e) (p := 0) (by decide)
  have hs := sk_rng T (e := e) (p := 0) (by decide) hh.1
  have hwk : ∀ L, hw T e L 0 (-1) ↔ hw T e L (sk T e 0) (-1) := fun L => (hw_sk (by decide)).symm
  unfold f_M_qKind hdR
  refine wq_I (s_takes hB h.1 rw_124) (fun r M1 ⟨c1, c2⟩ => ?_)
  have f1 : Fr xqA M M1 := c2.cov rfl
  rcases c1 with ⟨d1, d2, d3⟩ | ⟨d1, d2, d3⟩
  · have d1 : r = 1 := d1
    rw [d1, if_pos (hwq_iff.mpr d2)]
    refine wq_e (by decide) ?_
    unfold f_M_qKind_J76
    exact wq_t (by decide) (wq_some ⟨Or.inr ⟨0, _, rfl, rfl, by decide, by omega, h.sm d3 c2⟩, f1⟩)
  have d1 : r = 0 := d1
  rw [d1, if_neg (fun z => d2 (hwq_iff.mp z))]
  have y1 : Xq U T e (sk T e 0) (-1) 0 [] [] [] M1 := h.sm d3 c2
  refine wq_t (by decide) (wq_I (s_takes hB y1.1 rw_125) (fun r M2 ⟨c3, c4⟩ => ?_))
  rw [hss] at c3
  have f2 : Fr xqA M M2 := f1.tr (c4.cov rfl)
  rcases c3 with ⟨e1, e2, e3⟩ | ⟨e1, e2, e3⟩
  · have e1 : r = 1 := e1
    rw [e1, if_pos (hwq_iff.mpr ((hwk _).mpr e2))]
    refine wq_e (by decide) ?_
    unfold f_M_qKind_J76
    exact wq_t (by decide) (wq_some ⟨Or.inr ⟨1, _, rfl, rfl, by decide, by omega, y1.sm e3 c4⟩, f2⟩)
  have e1 : r = 0 := e1
  rw [e1, if_neg (fun z => e2 ((hwk _).mp (hwq_iff.mp z)))]
  have y2 : Xq U T e (sk T e 0) (-1) 0 [] [] [] M2 := y1.sm e3 c4
  refine wq_t (by decide) (wq_I (s_takes hB y2.1 rw_126) (fun r M3 ⟨c5, c6⟩ => ?_))
  rw [hss] at c5
  have f3 : Fr xqA M M3 := f2.tr (c6.cov rfl)
  rcases c5 with ⟨e4, e5, e6⟩ | ⟨e4, e5, e6⟩
  · have e4 : r = 1 := e4
    rw [e4, if_pos (hwq_iff.mpr ((hwk _).mpr e5))]
    refine wq_e (by decide) ?_
    unfold f_M_qKind_J76
    exact wq_t (by decide) (wq_some ⟨Or.inr ⟨2, _, rfl, rfl, by decide, by omega, y2.sm e6 c6⟩, f3⟩)
  have e4 : r = 0 := e4
  rw [e4, if_neg (fun z => e5 ((hwk _).mp (hwq_iff.mp z)))]
  have y3 : Xq U T e (sk T e 0) (-1) 0 [] [] [] M3 := y2.sm e6 c6
  refine wq_t (by decide) (wq_I (s_takes hB y3.1 rw_127) (fun r M4 ⟨c7, c8⟩ => ?_))
  rw [hss] at c7
  have f4 : Fr xqA M M4 := f3.tr (c8.cov rfl)
  rcases c7 with ⟨e7, e8, e9⟩ | ⟨e7, e8, e9⟩
  · have e7 : r = 1 := e7
    rw [e7, if_pos (hwq_iff.mpr ((hwk _).mpr e8))]
    refine wq_e (by decide) ?_
    unfold f_M_qKind_J76
    exact wq_t (by decide) (wq_some ⟨Or.inr ⟨3, _, rfl, rfl, by decide, by omega, y3.sm e9 c8⟩, f4⟩)
  have e7 : r = 0 := e7
  rw [e7, if_neg (fun z => e8 ((hwk _).mp (hwq_iff.mp z)))]
  have y4 : Xq U T e (sk T e 0) (-1) 0 [] [] [] M4 := y3.sm e9 c8
  refine wq_t (by decide) (wq_I (s_takes hB y4.1 rw_128) (fun r M5 ⟨c9, g1⟩ => ?_))
  rw [hss] at c9
  have f5 : Fr xqA M M5 := f4.tr (g1.cov rfl)
  rcases c9 with ⟨g2, g3, g4⟩ | ⟨g2, g3, g4⟩
  · have g2 : r = 1 := g2
    rw [g2, if_pos (hwq_iff.mpr ((hwk _).mpr g3))]
    refine wq_e (by decide) ?_
    unfold f_M_qKind_J76
    exact wq_t (by decide) (wq_some ⟨Or.inr ⟨4, _, rfl, rfl, by decide, by omega, y4.sm g4 g1⟩, f5⟩)
  have g2 : r = 0 := g2
  rw [g2, if_neg (fun z => g3 ((hwk _).mp (hwq_iff.mp z)))]
  have y5 : Xq U T e (sk T e 0) (-1) 0 [] [] [] M5 := y4.sm g4 g1
  refine wq_t (by decide) ?_
  unfold f_M_qKind_J76
  refine wq_e (by decide) (wq_V (s_asks hB y5.1 rw_129) (fun M6 ⟨g5, g6⟩ => ?_))
  rw [hss] at g5
  have f6 : Fr xqA M M6 := f5.tr (g6.cov rfl)
  rcases g5 with ⟨g8, g9⟩ | ⟨g8, g9⟩
  · rw [if_pos (hwq_iff.mpr ((hwk _).mpr g8))]
    exact wq_some ⟨Or.inr ⟨5, _, rfl, rfl, by decide, by omega, y5.sm g9 g6⟩, f6⟩
  · rw [if_neg (fun z => g8 ((hwk _).mp (hwq_iff.mp z)))]
    exact wq_some ⟨Or.inl ⟨rfl, rfl, g9⟩, f6⟩
theorem s_mread {U T : Nat → Int} {e : Int} {M : Mm} {Q : Int × Mm → Prop} (hB : Bt T e) (h : Xq U T e 0 (-1) 0 [] [] [] M) (hk : ∀ kd M', qM T e kd M' → (0 ≤ kd ∧ kd ≤ 5) → Fr xqA M M' → wq (f_M_ask_J112 kd M') Q) : wq (bI (f_M_qKind M) (fun r12 M11 => if ¬ i32 (M11 78 5) = 0 then f_M_ask_J77 r12 M11 else if i32 3 ≤ i32 r12 then f_M_ask_J77 r12 M11 else bV (f_M_qTest M11) (fun M24 => f_M_ask_J88 r12 M24))) Q := by
  have hh := hB.1
  refine wq_I (s_mhead hB h) (fun r M1 ⟨z, f1⟩ => ?_)
  have f1 : Fr xqA M M1 := f1
  have hbad : ∀ (kd k pl : Int) (M' : Mm), qRes T e = some (.inl (k, pl)) → Fm T e k pl M' → (0 ≤ kd ∧ kd ≤ 5) → Fr xqA M M' → wq (f_M_ask_J88 kd M') Q := by
    intro kd k pl M' w1 w2 w3 w4
    have hkk := w2.2.2.2.2.1
    unfold f_M_ask_J88
    rw [w2.2.2.1, i32_id (x := k) (by omega) (by omega)]
    exact wq_t (by omega) (hk kd M' (Or.inl ⟨k, pl, w1, w2⟩) w3 w4)
  rcases z with ⟨z1, z2, z3⟩ | ⟨kd, p, z1, z2, z3, z4, z5⟩
  · have z2 : r = 5 := z2
    rw [z2]
    have hq : qRes T e = some (.inl (1, sk T e 0)) := by
      unfold qRes
      rw [z1]
    have z3 : Fm T e 1 (sk T e 0) M1 := z3
    rw [z3.2.2.1]
    refine wq_t (by decide) ?_
    unfold f_M_ask_J77
    rw [z3.2.2.1]
    exact wq_t (by decide) (hbad 5 1 _ M1 hq z3 (by decide) f1)
  · have z2 : r = kd := z2
    have z5 : Xq U T e p p 0 [] [] [] M1 := z5
    have bp := z5.1.2.2.2.2.2.1
    obtain ⟨R, r1, r2⟩ := qbR_ok (k := kd) hB z4 bp.2
    have hq : qRes T e = qFin T e kd (some R) := by
      unfold qRes
      rw [z1, ← r1]
    rw [z2, z5.1.2.2.2.2.1, i32_id (x := kd) (by omega) (by omega), i32_id (x := 3) (by decide) (by decide)]
    have fin : ∀ M4 : Mm, ((∃ k pl, R = .inl (k, pl) ∧ Fm T e k pl M4) ∨ ∃ p' g' C', R = .inr (p', g', C') ∧ Xq U T e p' g' 0 [] [] C' M4) → Fr xqA M M4 → wq (f_M_ask_J88 kd M4) Q := by
      intro M4 hs f4
      rcases hs with ⟨k, pl, s2, s3⟩ | ⟨p', g', C', s2, s3⟩
      · rw [s2] at hq
        exact hbad kd k pl M4 hq s3 z3 f4
      · rw [s2] at hq
        have hq : qRes T e = if sk T e p' = e then some (.inr (kd, C')) else some (.inl (1, sk T e p')) := hq
        have b' := s3.1.2.2.2.2.2.1
        have hs' := sk_rng T b'.1 b'.2
        have hbr := bte_rng hB (sk T e p')
        unfold f_M_ask_J88
        rw [s3.1.2.2.2.2.1]
        refine wq_e (fun z => z rfl) (wq_I (s_look hB s3.1) (fun r5 M5 ⟨t1, t2, t3⟩ => ?_))
        have t1 : r5 = bte T e (sk T e p') := t1
        have y5 : Xq U T e (sk T e p') g' 0 [] [] C' M5 := s3.sm t2 (t3.cov rfl)
        have f5 : Fr xqA M M5 := f4.tr (t3.cov rfl)
        rw [t1, i32_id (x := bte T e (sk T e p')) (by omega) (by omega), i32_id (x := (-1)) (by decide) (by decide)]
        refine wq_if (fun c => ?_) (fun c => ?_)
        · have he : sk T e p' = e := by
            by_cases d : sk T e p' < e
            · have := hB.2 (sk T e p').toNat
              rw [bte_in (by omega) d] at c
              omega
            · omega
          rw [if_pos he] at hq
          exact hk kd M5 (Or.inr ⟨C', _, _, hq, z3, y5.1, y5.2.2.2.2.2.1, y5.2.2.2.2.2.2.1⟩) z3 f5
        · have he : sk T e p' ≠ e := fun z => c (by rw [z, bte_out (by omega)])
          rw [if_neg he] at hq
          rw [y5.1.2.2.1]
          exact wq_V (s_mfail y5.1 (by decide) (by omega)) (fun M6 ⟨x1, x2⟩ => hk kd M6 (Or.inl ⟨1, _, hq, x1⟩) z3 (f5.tr (x2.cov rfl)))
    unfold qbR at r1
    refine wq_e (fun z => z rfl) (wq_if (fun c => ?_) (fun c => ?_))
    · rw [if_neg (by omega)] at r1
      unfold f_M_ask_J77
      rw [z5.1.2.2.2.2.1]
      refine wq_e (fun z => z rfl) (wq_V (xq_sums hB z5 r1 (by decide) (by simp only [List.length_nil]; omega) (by decide)) (fun M4 ⟨w1, w2⟩ => fin M4 ?_ (f1.tr w2)))
      rcases w1 with ⟨k, pl, x1, x2, -⟩ | x
      · exact Or.inl ⟨k, pl, x1, x2⟩
      · exact Or.inr x
    · rw [if_pos (by omega)] at r1
      exact wq_V (s_qTest hB z5 r1 (by simp only [List.length_nil]; omega)) (fun M4 ⟨w1, w2⟩ => fin M4 w1 (f1.tr w2))
