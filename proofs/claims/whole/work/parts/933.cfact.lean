section CF
variable {T : Nat → Int} {e o : Int} {F : Nat → Nat → Int → Mm → Option (Int × Mm)}
theorem nsq_app {A W : List Int} (hA : ∀ v ∈ A, aoQ v = true) : nsq (A ++ 25 :: W) = A ∧ sqr (A ++ 25 :: W) = 25 :: W := by
  refine tw_app (q := fun v => !sqQ v) (fun v hv => ?_) (tw_n (q := fun v => !sqQ v) (by decide)).1
  have h := aoQ_iff.mp (hA v hv)
  show (!sqQ v) = true
  cases c : sqQ v with
  | false => rfl
  | true =>
    have := sqQ_iff.mp c
    omega
theorem y_fact (hB : Bt T e) (hT : STop F T e o) (hN : o ≠ 6 → SFact F T e (o + 1)) (hS : o ≠ 6 → STest F T e (o + 1)) (p g : Int) (W C : List Int) (R : Out) (k : Nat) (M : Mm) (hY : Yq T e p g C M) (hd : dE T e k true p g o W C = some R) (hI : Ivt true p o W C) : wq (f_Reader_fact F 76 o M) (fun q => Qf T e p o W R q ∧ Fr yqA M q.2) := by
  have hh := hB.1
  have b := hY.1.2.2.2.2.2.1
  have hgr := hY.1.2.2.2.2.2.2.1
  have hs := sk_rng T b.1 b.2
  have hss := sk_sk T (e := e) b.1
  have ho : 0 ≤ o ∧ o ≤ 6 := ⟨hI.lo, hI.1⟩
  cases k with
  | zero => cases hd
  | succ k =>
    rw [← dE_sk T e (k + 1) true g o W C b.1] at hd
    have hI1 := hI.mono hs.1
    have hsa := s_atWord hB hY.1 cw_27
    have hwk : ∀ L, hw T e L p g ↔ hw T e L (sk T e p) g := fun L => (hw_sk b.1).symm
    obtain ⟨P, hPp⟩ : ∃ P, P = sk T e p := ⟨_, rfl⟩
    rw [← hPp] at hd hs hss hsa hI1
    have hwk : ∀ L, hw T e L p g ↔ hw T e L P g := fun L => by rw [hPp]; exact hwk L
    have hlen := hI1.len
    have hbad : ∀ (kk pl : Int) (M' : Mm), R = .inl (kk, pl) → Fb T e kk pl M' → Fr yqA M M' → wq (some ((0 : Int), M')) (fun q => Qf T e p o W R q ∧ Fr yqA M q.2) := fun kk pl M' z1 z2 z3 => wq_some ⟨Or.inl ⟨rfl, kk, pl, z1, z2⟩, z3⟩
    have htk : ∀ (v x p' g' : Int) (C' : List Int) (k' : Nat) (M' : Mm), Yq T e p' g' C' M' → Fr yqA M M' → P < sk T e p' → dE T e k' false p' g' (o - (W.takeWhile ntQ).length) (W.dropWhile ntQ) (C' ++ v :: W.takeWhile ntQ) = some R → Ivt false (sk T e p') (o - (W.takeWhile ntQ).length) (W.dropWhile ntQ) (C' ++ v :: W.takeWhile ntQ) → tqC v = x → (-20 ≤ x ∧ x ≤ 9999) → ((v < 60 ∨ 62 < v) ∧ (x < -8 ∨ -6 < x)) → wq (f_Reader_took 76 x M') (fun q => q.1 = 1 ∧ Qf T e p o W R q ∧ Fr yqA M q.2) := by
      intro v x p' g' C' k' M' z1 z2 z3 z4 z5 z6 z7 z8
      have b' := z1.1.2.2.2.2.2.1
      have hs' := sk_rng T b'.1 b'.2
      have hl := z5.len
      rw [List.length_append, List.length_cons] at hl
      refine wq_m (yq_took z1 (by omega) z6 z7 (Or.inr z8)) (fun q ⟨w1, w2, w3⟩ => ⟨w1, Or.inr ⟨w1, k', p', g', C' ++ [v], ?_, w2, by omega, ?_⟩, z2.tr (w3.cov rfl)⟩)
      · rw [List.append_assoc]; exact z4
      · rw [List.append_assoc]; exact z5
    have ht1 : ∀ (v x p' g' : Int) (C' : List Int) (k' : Nat) (M' : Mm), Yq T e p' g' C' M' → Fr yqA M M' → P < sk T e p' → dE T e k' false p' g' (o - (W.takeWhile ntQ).length) (W.dropWhile ntQ) (C' ++ v :: W.takeWhile ntQ) = some R → Ivt false (sk T e p') (o - (W.takeWhile ntQ).length) (W.dropWhile ntQ) (C' ++ v :: W.takeWhile ntQ) → tqC v = x → (-20 ≤ x ∧ x ≤ 9999) → ((v < 60 ∨ 62 < v) ∧ (x < -8 ∨ -6 < x)) → wq (bI (f_Reader_took 76 x M') (fun r M2 => if i32 r = 0 then some ((0 : Int), M2) else some (1, M2))) (fun q => Qf T e p o W R q ∧ Fr yqA M q.2) := by
      intro v x p' g' C' k' M' z1 z2 z3 z4 z5 z6 z7 z8
      refine wq_I (htk v x p' g' C' k' M' z1 z2 z3 z4 z5 z6 z7 z8) (fun r M2 ⟨w1, w2, w3⟩ => ?_)
      have w1 : r = 1 := w1
      subst w1
      exact wq_e (by decide) (wq_some ⟨w2, w3⟩)
    have d2 := hd
    unfold dE at d2
    rw [hss] at d2
    unfold f_Reader_fact
    refine wq_I hsa (fun r M1 ⟨c1, c2, c3⟩ => ?_)
    have y1 : Yq T e P g C M1 := hY.sc c2 (c3.cov rfl)
    have f1 : Fr yqA M M1 := c3.cov rfl
    rcases c1 with ⟨d1, e2⟩ | ⟨d1, e2⟩
    · have d1 : r = 1 := d1
      rw [d1]
      have e2 : hw T e wNot P g := (hwk _).mp e2
      have hlt := hw_let lw_Not (by decide) e2
      rw [hss] at hlt
      rw [if_neg (by omega), if_pos (hwq_iff.mpr e2)] at d2
      have hl3 : P + 3 ≤ e := by
        have := hw_le (p := P) (by omega) hs.2 (L := wNot) (by decide) lw_Not (hwq_iff.mpr e2)
        rw [hss] at this
        exact this
      refine wq_e (by decide) (wq_I (yq_may y1 ho hB) (fun r3 M3 ⟨c7, c8⟩ => ?_))
      have f3 : Fr yqA M M3 := f1.tr (c8.cov rfl)
      rcases c7 with ⟨d7, d8, d9⟩ | ⟨d7, d8, d9⟩
      · have d7 : r3 = 1 := d7
        have d9 : M3 = M1 := d9
        subst d9
        rw [d7]
        rw [if_neg d8] at d2
        refine wq_e (by decide) (wq_I (s_takeWord hB y1.1 cw_27) (fun r4 M4 ⟨c9, e1⟩ => ?_))
        rw [hss] at c9
        rcases c9 with ⟨g2, g3, g4⟩ | ⟨g2, g3, g4⟩
        · have g2 : r4 = 1 := g2
          rw [g2]
          have y4 := y1.sc g4 e1
          have f4 : Fr yqA M M4 := f3.tr (e1.cov rfl)
          refine wq_e (by decide) (wq_I (hN d8 _ _ (12 :: W) C R k M4 y4 d2 (hI1.push (p1 := P + 3) (Or.inr rfl) d8 (by omega) (by omega))) (fun r5 M5 ⟨e5, e6⟩ => ?_))
          have f5 : Fr yqA M M5 := f4.tr e6
          rcases e5 with ⟨z1, kk, pl, z2, z3⟩ | ⟨z1, k5, p5, g5, C5, e7, y5, l5, i5⟩
          · have z1 : r5 = 0 := z1
            rw [z1]
            exact wq_t (by decide) (hbad kk pl M5 z2 z3 f5)
          · have z1 : r5 = 1 := z1
            rw [z1]
            have hq : ntQ 12 = true := by decide
            rw [(tw_y hq).1, (tw_y hq).2, List.length_cons, show o + 1 - (((W.takeWhile ntQ).length + 1 : Nat) : Int) = o - (W.takeWhile ntQ).length by omega] at e7 i5
            have l5 : P + 3 < sk T e p5 := l5
            exact wq_e (by decide) (ht1 12 (-9) p5 g5 C5 k5 M5 y5 f5 (by omega) e7 i5 (by decide) (by decide) (by decide))
        · exact absurd e2 g3
      · have d7 : r3 = 0 := d7
        rw [d7]
        rw [if_pos d8] at d2
        exact wq_t (by decide) (hbad 4 _ M3 (Option.some.inj d2).symm d9 f3)
    have d1 : r = 0 := d1
    rw [d1]
    have e2 : ¬ hw T e wNot P g := fun z => e2 ((hwk _).mpr z)
    refine wq_t (by decide) (wq_I (s_atSign hB y1.1 (by decide)) (fun r2 M2 ⟨c4, c5, c6⟩ => ?_))
    rw [hss] at c4 c5
    have y2 : Yq T e P g C M2 := y1.sc c5 (c6.cov rfl)
    have f2 : Fr yqA M M2 := f1.tr (c6.cov rfl)
    rcases c4 with ⟨d4, d5⟩ | ⟨d4, d5⟩
    · have d4 : r2 = 1 := d4
      rw [d4]
      rw [if_pos d5] at d2
      have hl := bte_lt (T := T) (e := e) (k := P) (by omega) (by omega)
      refine wq_e (by decide) (wq_I (yq_may y2 ho hB) (fun r3 M3 ⟨c7, c8⟩ => ?_))
      have f3 : Fr yqA M M3 := f2.tr (c8.cov rfl)
      rcases c7 with ⟨d7, d8, d9⟩ | ⟨d7, d8, d9⟩
      · have d7 : r3 = 1 := d7
        have d9 : M3 = M2 := d9
        subst d9
        rw [d7]
        rw [if_neg d8] at d2
        refine wq_e (by decide) (wq_I (s_takeSign hB y2.1 (by decide)) (fun r4 M4 ⟨c9, e1⟩ => ?_))
        rw [hss] at c9
        rcases c9 with ⟨g2, g3, g4⟩ | ⟨g2, g3, g4⟩
        · have g2 : r4 = 1 := g2
          rw [g2]
          have y4 := y2.sc g4 (e1.cov rfl)
          have f4 : Fr yqA M M4 := f3.tr (e1.cov rfl)
          refine wq_e (by decide) (wq_I (hS d8 _ _ (25 :: W) C R k M4 y4 d2 (hI1.push (p1 := P + 1) (Or.inl rfl) d8 (by omega) (by omega)) (tw_n (q := aoQ) (by decide)).1 (tw_n (q := ntQ) (by decide)).1) (fun r5 M5 ⟨e5, e6⟩ => ?_))
          have f5 : Fr yqA M M5 := f4.tr e6
          rcases e5 with ⟨z1, kk, pl, z2, z3⟩ | ⟨z1, k5, p5, g5, A5, C5, e7, y5, l5, hA5, i5, n5, n6⟩
          · have z1 : r5 = 0 := z1
            rw [z1]
            exact wq_t (by decide) (hbad kk pl M5 z2 z3 f5)
          have z1 : r5 = 1 := z1
          rw [z1]
          have y5 : Yq T e p5 g5 (C5 ++ A5) M5 := y5
          have l5 : P + 1 < sk T e p5 := l5
          have b5 := y5.1.2.2.2.2.2.1
          have hs5 := sk_rng T b5.1 b5.2
          have hm5 : (25 : Int) ∈ A5 ++ 25 :: W := List.mem_append_right _ List.mem_cons_self
          obtain ⟨q1, q2⟩ := nsq_app (A := A5) (W := W) hA5
          cases k5 with
          | zero => cases e7
          | succ k5 =>
            unfold dE at e7
            refine wq_e (by decide) (wq_I (s_needSign hB y5.1 (by decide)) (fun r6 M6 ⟨j1, j2⟩ => ?_))
            have f6 : Fr yqA M M6 := f5.tr (j2.cov rfl)
            rcases j1 with ⟨j3, j4, j5⟩ | ⟨j3, j4, j5⟩
            · have j3 : r6 = 1 := j3
              rw [j3]
              have hl5 := bte_lt (T := T) (e := e) (k := sk T e p5) (by omega) (by omega)
              rw [if_pos ⟨j4, hm5⟩, q1, q2] at e7
              have hs6 := sk_rng T (e := e) (p := sk T e p5 + 1) (by omega) (by omega)
              obtain ⟨W', x1, x2, x3, x4, x5, x6, x7⟩ := i5.clo (p1 := sk T e (sk T e p5 + 1)) hm5 (by omega) (by omega)
              rw [q2] at x1
              injection x1 with x1 x8
              subst x8
              rw [q1] at x7
              refine wq_e (by decide) (wq_some ⟨Or.inr ⟨rfl, k5, _, _, C5 ++ A5, ?_, y5.sc j5 j2, by omega, ?_⟩, f6⟩)
              · have e7 : dE T e k5 false (sk T e p5 + 1) g5 (o + 1 - 1 - ((W.takeWhile ntQ).length : Int)) (W.dropWhile ntQ) (C5 ++ (A5 ++ W.takeWhile ntQ)) = some R := e7
                rw [show o + 1 - 1 - ((W.takeWhile ntQ).length : Int) = o - (W.takeWhile ntQ).length by omega, ← List.append_assoc] at e7
                exact e7
              · rw [show o + 1 - 1 - ((W.takeWhile ntQ).length : Int) = o - (W.takeWhile ntQ).length by omega, ← List.append_assoc] at x7
                exact x7
            · have j3 : r6 = 0 := j3
              rw [j3]
              rw [if_neg (fun z => j4 z.1), if_neg (fun z => n5 (hwq_iff.mp z)), if_neg (fun z => n6 (hwq_iff.mp z)), if_pos hm5] at e7
              exact wq_t (by decide) (hbad 1 _ M6 (Option.some.inj e7).symm j5 f6)
        · exact absurd d5 g3
      · have d7 : r3 = 0 := d7
        rw [d7]
        rw [if_pos d8] at d2
        exact wq_t (by decide) (hbad 4 _ M3 (Option.some.inj d2).symm d9 f3)
    have d4 : r2 = 0 := d4
    rw [d4]
    rw [if_neg d5, if_neg (fun z => e2 (hwq_iff.mp z))] at d2
    obtain ⟨Rf, r1, r2'⟩ := fc_ok (g := g) (C := C) hB ho (W.length + 1) 0 (by decide) (by omega) hs.2 hgr (by omega)
    have r1' := r1
    rw [r1] at d2
    unfold fcR at r1
    rw [hss] at r1
    refine wq_t (by decide) (wq_I (s_takeWord hB y2.1 cw_28) (fun r3 M3 ⟨c7, c8⟩ => ?_))
    rw [hss] at c7
    have f3 : Fr yqA M M3 := f2.tr (c8.cov rfl)
    rcases c7 with ⟨g1, g2, g3⟩ | ⟨g1, g2, g3⟩
    · have g1 : r3 = 1 := g1
      rw [g1]
      rw [if_pos (hwq_iff.mpr g2)] at r1
      have hl3 : P + 3 ≤ e := by
        have := hw_le (p := P) (by omega) hs.2 (L := wAll) (by decide) lw_All (hwq_iff.mpr g2)
        rw [hss] at this
        exact this
      have hs3 := sk_rng T (e := e) (p := P + 3) (by omega) hl3
      rw [← Option.some.inj r1] at d2
      have d2 : dE T e k false (P + 3) (P + 3) (o - (W.takeWhile ntQ).length) (W.dropWhile ntQ) ((C ++ [13]) ++ W.takeWhile ntQ) = some R := d2
      rw [List.append_assoc] at d2
      obtain ⟨-, -, -, i3⟩ := hI1.nots (p1 := sk T e (P + 3)) (C' := C ++ [13]) (by omega) (by omega) (by rw [List.length_append, List.length_singleton]; omega)
      rw [List.append_assoc] at i3
      refine wq_e (by decide) (wq_I (htk 13 1 (P + 3) (P + 3) C k M3 (y2.sc g3 c8) f3 (by omega) d2 i3 (by decide) (by decide) (by decide)) (fun r5 M5 ⟨w1, w2, w3⟩ => ?_))
      have w1 : r5 = 1 := w1
      subst w1
      exact wq_g (Or.inr (by decide)) (wq_some ⟨w2, w3⟩)
    have g1 : r3 = 0 := g1
    rw [g1]
    have y3 : Yq T e P g C M3 := y2.sc g3 c8
    rw [if_neg (fun z => g2 (hwq_iff.mp z))] at r1
    obtain ⟨R1, q1, q2⟩ := sum_ok (g := g) (C := C) hB ho (W.length + 1) 0 (by decide) (by omega) hs.2 hgr (by omega)
    rw [q1] at r1
    refine wq_t (by decide) (wq_I (hT P g C R1 1601 M3 y3 q1 (by omega)) (fun r4 M4 ⟨z, f⟩ => ?_))
    have f4 : Fr yqA M M4 := f3.tr f
    rcases z with ⟨z1, kk, pl, z2, z3⟩ | ⟨z1, p4, g4, C4, z2, y4, n4⟩
    · have z1 : r4 = 0 := z1
      rw [z1]
      rw [z2] at r1
      have r1 : some (Sum.inl (kk, pl)) = some Rf := r1
      rw [← Option.some.inj r1] at d2
      have d2 : some (Sum.inl (kk, pl)) = some R := d2
      exact wq_e (by decide) (hbad kk pl M4 (Option.some.inj d2).symm z3 f4)
    have z1 : r4 = 1 := z1
    rw [z1]
    refine wq_t (by decide) ?_
    have y4 : Yq T e p4 g4 C4 M4 := y4
    have b4 := y4.1.2.2.2.2.2.1
    have hgr4 := y4.1.2.2.2.2.2.2.1
    have hs4 := sk_rng T b4.1 b4.2
    have hss4 := sk_sk T (e := e) b4.1
    rw [z2] at r1 q2
    have r1 : (if bte T e (sk T e (sk T e p4)) = 60 ∨ bte T e (sk T e (sk T e p4)) = 62 ∨ bte T e (sk T e (sk T e p4)) = 61 then (match dD true T e 1601 true (sk T e (sk T e p4) + 1) g4 o [] C4 with | none => none | some (.inl f) => some (.inl f) | some (.inr (p2, g2, C2)) => some (.inr (p2, g2, C2 ++ [cmpc (bte T e (sk T e (sk T e p4)))]))) else some (.inl (1, sk T e (sk T e p4)))) = some Rf := r1
    rw [hss4] at r1
    rcases q2 with ⟨k, pl, x1, -⟩ | ⟨px, gx, D, x1, x2, x3, x4, x5⟩
    · cases x1
    injection x1 with x1
    injection x1 with x6 x7
    injection x7 with x7 x8
    subst x6 x7
    rw [← x8] at x4
    have hgo : ∀ (c x : Int) (M' : Mm), (c = 60 ∧ x = -16) ∨ (c = 62 ∧ x = -17) ∨ (c = 61 ∧ x = -18) → bte T e (sk T e p4) = c → Sc T e (sk T e p4 + 1) g4 M' → Fr scL M4 M' → wq (f_Reader_fact_J197 F 76 o x M') (fun q => Qf T e p o W R q ∧ Fr yqA M q.2) := by
      intro c x M' hc hb hs' hf'
      have hl := bte_lt (T := T) (e := e) (k := sk T e p4) (by omega) (by omega)
      rw [hb, if_pos (by omega)] at r1
      have y5 := y4.sc hs' hf'
      have f5 : Fr yqA M M' := f4.tr (hf'.cov rfl)
      obtain ⟨R2, t1, t2⟩ := sum_ok (g := g4) (p := sk T e p4 + 1) (C := C4) hB ho (W.length + 2) 0 (by decide) (by omega) (by omega) hgr4 (by omega)
      rw [t1] at r1
      unfold f_Reader_fact_J197
      rw [i32_id (x := x) (by omega) (by omega)]
      refine wq_t (by omega) (wq_I (hT _ g4 C4 R2 1601 M' y5 t1 (by omega)) (fun r6 M6 ⟨w, f6⟩ => ?_))
      have f6 : Fr yqA M M6 := f5.tr f6
      rcases w with ⟨w1, kk, pl, w2, w3⟩ | ⟨w1, p6, g6, C6, w2, y6, n6⟩
      · have w1 : r6 = 0 := w1
        rw [w1]
        rw [w2] at r1
        have r1 : some (Sum.inl (kk, pl)) = some Rf := r1
        rw [← Option.some.inj r1] at d2
        have d2 : some (Sum.inl (kk, pl)) = some R := d2
        exact wq_t (by decide) (hbad kk pl M6 (Option.some.inj d2).symm w3 f6)
      · have w1 : r6 = 1 := w1
        rw [w1]
        have y6 : Yq T e p6 g6 C6 M6 := y6
        have b6 := y6.1.2.2.2.2.2.1
        have hs6 := sk_rng T b6.1 b6.2
        rw [w2] at r1 t2
        have r1 : some (Sum.inr (sk T e p6, g6, C6 ++ [cmpc c])) = some Rf := r1
        rw [← Option.some.inj r1] at d2
        have d2 : dE T e k false (sk T e p6) g6 (o - (W.takeWhile ntQ).length) (W.dropWhile ntQ) ((C6 ++ [cmpc c]) ++ W.takeWhile ntQ) = some R := d2
        rw [dE_sk T e k false g6 _ _ _ b6.1, List.append_assoc] at d2
        rcases t2 with ⟨k, pl, u1, -⟩ | ⟨pu, gu, Du, u1, u2, u3, u4, u5⟩
        · cases u1
        injection u1 with u1
        injection u1 with u6 u7
        injection u7 with u7 u8
        subst u6 u7
        rw [← u8] at u4
        obtain ⟨-, -, -, i6⟩ := hI1.nots (p1 := sk T e p6) (C' := C6 ++ [cmpc c]) (by omega) (by omega) (by rw [List.length_append, List.length_singleton]; omega)
        rw [List.append_assoc] at i6
        have hcx : tqC (cmpc c) = x ∧ cmpc c < 60 ∧ x < -8 ∧ -20 ≤ x := by
          rcases hc with ⟨v1, v2⟩ | ⟨v1, v2⟩ | ⟨v1, v2⟩ <;> subst v1 v2 <;> decide
        exact wq_e (by decide) (ht1 (cmpc c) x p6 g6 C6 k M6 y6 f6 (by omega) d2 i6 hcx.1 (by omega) (by omega))
    refine wq_I (s_takeSign hB y4.1 (by decide)) (fun r5 M5 ⟨c9, e1⟩ => ?_)
    have e1 : Fr [(1, 2)] M4 M5 := e1
    rcases c9 with ⟨j1, j2, j3⟩ | ⟨j1, j2, j3⟩
    · have j1 : r5 = 1 := j1
      rw [j1]
      exact wq_e (by decide) (hgo 60 (-16) M5 (Or.inl ⟨rfl, rfl⟩) j2 j3 (e1.cov rfl))
    have j1 : r5 = 0 := j1
    rw [j1]
    refine wq_t (by decide) (wq_I (s_takeSign hB j3 (by decide)) (fun r6 M6 ⟨l1, l2⟩ => ?_))
    rw [hss4] at l1
    have l3 : Fr scL M4 M6 := (e1.cov rfl : Fr scL _ _).tr (l2.cov rfl)
    rcases l1 with ⟨l4, l5, l6⟩ | ⟨l4, l5, l6⟩
    · have l4 : r6 = 1 := l4
      rw [l4]
      exact wq_e (by decide) (hgo 62 (-17) M6 (Or.inr (Or.inl ⟨rfl, rfl⟩)) l5 l6 l3)
    have l4 : r6 = 0 := l4
    rw [l4]
    refine wq_t (by decide) (wq_I (s_takeSign hB l6 (by decide)) (fun r7 M7 ⟨m1, m2⟩ => ?_))
    rw [hss4] at m1
    have m3 : Fr scL M4 M7 := l3.tr (m2.cov rfl)
    rcases m1 with ⟨m4, m5, m6⟩ | ⟨m4, m5, m6⟩
    · have m4 : r7 = 1 := m4
      rw [m4]
      exact wq_e (by decide) (hgo 61 (-18) M7 (Or.inr (Or.inr ⟨rfl, rfl⟩)) m5 m6 m3)
    have m4 : r7 = 0 := m4
    rw [m4]
    rw [if_neg (fun z => z.elim j2 (fun z => z.elim l5 m5))] at r1
    rw [← Option.some.inj r1] at d2
    have d2 : some (Sum.inl (1, sk T e p4)) = some R := d2
    refine wq_t (by decide) ?_
    unfold f_Reader_fact_J197
    refine wq_e (by decide) (wq_I (s_unex hB m6) (fun r9 M9 ⟨w1, w2, w3⟩ => ?_))
    have w1 : r9 = 0 := w1
    rw [hss4] at w2
    rw [w1]
    exact wq_g (Or.inl (by decide)) (hbad 1 _ M9 (Option.some.inj d2).symm w2 (f4.tr ((m3.cov rfl : Fr yqA _ _).tr (w3.cov rfl))))
end CF
theorem y_tests {T : Nat → Int} {e : Int} (hB : Bt T e) : ∀ (n : Nat) (o : Int), 0 ≤ o → o ≤ 6 → (4 * (6 - o).toNat + 5 ≤ n → SFact (f_R n) T e o) ∧ (4 * (6 - o).toNat + 6 ≤ n → SBoth (f_R n) T e o) ∧ (4 * (6 - o).toNat + 7 ≤ n → STest (f_R n) T e o)
  | 0, o, _, _ => ⟨fun h => absurd h (by omega), fun h => absurd h (by omega), fun h => absurd h (by omega)⟩
  | n + 1, o, h0, h1 => by
    have ih := y_tests hB n
    have ho : 0 ≤ o ∧ o ≤ 6 := ⟨h0, h1⟩
    have i0 := ih o h0 h1
    refine ⟨fun h p g W C R k M a1 a2 a3 => ?_, fun h p g W C R k M a1 a2 a3 a4 a5 => ?_, fun h p g W C R k M a1 a2 a3 a4 a5 => ?_⟩
    · exact y_fact hB (fun p g C R k M b1 b2 b3 => yq_top hB ho (by omega) b1 b2 b3) (fun z => (ih (o + 1) (by omega) (by omega)).1 (by omega)) (fun z => (ih (o + 1) (by omega) (by omega)).2.2 (by omega)) p g W C R k M a1 a2 a3
    · exact y_both hB (i0.1 (by omega)) p g W C R k M a1 a2 a3 a4 a5
    · exact y_test hB (i0.2.1 (by omega)) p g W C R k M a1 a2 a3 a4 a5
