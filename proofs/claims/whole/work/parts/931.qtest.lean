section QT
variable {U T : Nat → Int} {e p g o pm : Int} {W C : List Int} {M : Mm} {R : Out}
theorem s_test110 (N : Mm) (f0 : Fr xqA M N) (hN : Bde T e R N ∨ Ee U T e R N) : wq (f_M_qTest_L110 FU N) (fun M' => (Bde T e R M' ∨ ∃ p' g' C', R = .inr (p', g', C') ∧ Xq U T e p' g' 0 [] [] C' M') ∧ Fr xqA M M') := by
  unfold f_M_qTest_L110
  refine wq_lp (fun z => Fr xqA M z ∧ (Bde T e R z ∨ Ee U T e R z)) (fun z => (if z 78 5 = 0 then z 78 91 else 0).toNat) ?_ FU _ ⟨f0, hN⟩ ?_
  · rintro kH K ⟨q2, q3⟩ hk
    unfold f_M_qTest_B110
    rcases q3 with ⟨k, pl, hR, y2⟩ | ⟨p', g', W', C', hR, y2, y3⟩
    · have hkk := y2.2.2.2.2.1
      rw [y2.2.2.1, i32_id (x := k) (by omega) (by omega)]
      exact wq_t (by omega) (wq_some ⟨Or.inl ⟨k, pl, hR, y2⟩, q2⟩)
    · have e5 := y2.1.2.2.2.2.1
      have e2 := y2.2.1
      rw [List.append_nil] at e2
      rw [e5, e2, i32_id (x := (W'.length : Int)) (by omega) (by omega)]
      refine wq_e (fun z => z rfl) ?_
      cases W' with
      | nil =>
        refine wq_t (by rw [List.length_nil]; omega) (wq_some ⟨Or.inr ⟨p', g', C', by rw [hR, List.append_nil], y2⟩, q2⟩)
      | cons v W' =>
        rw [List.length_cons] at y3 ⊢
        refine wq_e (by omega) (wq_V (xq_drops y2 (by omega) (by simp only [List.length_nil]; omega)) (fun M2 ⟨d1, d2⟩ => hk _ ⟨q2.tr (d2.cov rfl), Or.inr ⟨p', g', W', C' ++ [v], by rw [hR, List.append_assoc]; rfl, d1, by rw [List.length_append, List.length_singleton]; omega⟩⟩ ?_))
        rw [d1.1.2.2.2.2.1, e5, if_pos rfl, if_pos rfl, d1.2.1, e2, List.append_nil, List.length_cons]
        omega
  · rcases hN with ⟨k, pl, hR, y2⟩ | ⟨p', g', W', C', hR, y2, y3⟩
    · have := y2.2.2.2.2.1
      rw [y2.2.2.1, if_neg (by omega)]
      decide
    · rw [y2.1.2.2.2.2.1, if_pos rfl, y2.2.1, List.append_nil]
      show _ < 1000000000
      omega
theorem s_qTest {n : Nat} (hB : Bt T e) (h : Xq U T e p g 0 [] [] C M) (hd : dE T e n true p g 0 [] C = some R) (hlen : C.length + 1 ≤ p.toNat) : wq (f_M_qTest M) (fun M' => (Bde T e R M' ∨ ∃ p' g' C', R = .inr (p', g', C') ∧ Xq U T e p' g' 0 [] [] C' M') ∧ Fr xqA M M') := by
  have hh := hB.1
  have hO : Oe U T e R p true M := ⟨n, p, g, 0, [], C, hd, h, Onx_iv (e := e) (by decide) (by omega), Int.le_refl _⟩
  unfold f_M_qTest f_M_qTest_L2
  refine wq_lp (fun z => Fr xqA M z.2 ∧ ((z.1 = 1 ∧ ((∃ pm, Oe U T e R pm true z.2) ∨ Bde T e R z.2)) ∨ (z.1 = 0 ∧ (Bde T e R z.2 ∨ Ee U T e R z.2)))) (fun z => (if z.2 78 5 = 0 ∧ z.1 = 1 then 2000 - z.2 78 2 else 0).toNat) ?_ FU _ ⟨Fr.rf, Or.inl ⟨rfl, Or.inl ⟨p, hO⟩⟩⟩ ?_
  · rintro kH ⟨v1, N⟩ ⟨q1, q2⟩ hk
    have q1 : Fr xqA M N := q1
    show wq (f_M_qTest_B2 (fun v1 M => kH (v1, M)) (fun M13 => f_M_qTest_L110 FU M13) v1 N) _
    unfold f_M_qTest_B2
    rcases q2 with ⟨z1, z2⟩ | ⟨z1, z2⟩
    · have z1 : v1 = 1 := z1
      subst z1
      refine wq_e (by decide) ?_
      rcases z2 with ⟨pm, n', p', g', o', W', C', w1, w2, w3, w4⟩ | z2
      · have w2 : Xq U T e p' g' o' W' [] C' N := w2
        cases n' with
        | zero => cases w1
        | succ n' =>
          have b := w2.1.2.2.2.2.2.1
          have hgr := w2.1.2.2.2.2.2.2.1
          have hs := sk_rng T b.1 b.2
          have hss := sk_sk T (e := e) b.1
          have hbr := bte_rng hB (sk T e p')
          have i1 := w3.mono hs.1
          have d1 := w1
          rw [← dE_sk T e (n' + 1) true g' o' W' C' b.1] at d1
          have e0 : N 78 2 = p' := w2.1.2.2.1
          have e5 : N 78 5 = 0 := w2.1.2.2.2.2.1
          have ho : 0 ≤ o' ∧ o' ≤ 6 := ⟨w3.lo, w3.1⟩
          rw [e5]
          refine wq_e (fun z => z rfl) (wq_I (s_look hB w2.1) (fun r M1 ⟨c1, c2, c3⟩ => ?_))
          have c1 : r = bte T e (sk T e p') := c1
          have h1 : Xq U T e (sk T e p') g' o' W' [] C' M1 := w2.sm c2 (c3.cov rfl)
          have f1 : Fr xqA M M1 := q1.tr (c3.cov rfl)
          have mB : ∀ (v : Int) (M' : Mm), Bde T e R M' → (if M' 78 5 = 0 ∧ v = 1 then 2000 - M' 78 2 else 0).toNat < (if N 78 5 = 0 ∧ (1 : Int) = 1 then 2000 - N 78 2 else 0).toNat := by
            rintro v M' ⟨k, pl, -, y⟩
            have := y.2.2.2.2.1
            rw [e5, e0, if_pos (show (0 : Int) = 0 ∧ (1 : Int) = 1 from ⟨rfl, rfl⟩), y.2.2.1, if_neg (fun z => by have := z.1; omega)]
            omega
          have m0 : ∀ (M' : Mm), (if M' 78 5 = 0 ∧ (0 : Int) = 1 then 2000 - M' 78 2 else 0).toNat < (if N 78 5 = 0 ∧ (1 : Int) = 1 then 2000 - N 78 2 else 0).toNat := by
            intro M'
            rw [e5, e0, if_pos (show (0 : Int) = 0 ∧ (1 : Int) = 1 from ⟨rfl, rfl⟩), if_neg (fun z => by have := z.2; omega)]
            omega
          have hok : ∀ (M' : Mm), (Bde T e R M' ∨ Oe U T e R (sk T e p' + 1) true M') → Fr xqA M M' → wq (kH (1, M')) (fun M' => (Bde T e R M' ∨ ∃ p' g' C', R = .inr (p', g', C') ∧ Xq U T e p' g' 0 [] [] C' M') ∧ Fr xqA M M') := by
            intro M' y1 y2
            rcases y1 with y | y
            · exact hk _ ⟨y2, Or.inl ⟨rfl, Or.inr y⟩⟩ (mB 1 M' y)
            · refine hk _ ⟨y2, Or.inl ⟨rfl, Or.inl ⟨_, y⟩⟩⟩ ?_
              obtain ⟨n2, p2, g2, o2, W2, C2, x1, x2, x3, x4⟩ := y
              have bb := x2.1.2.2.2.2.2.1
              show (if M' 78 5 = 0 ∧ (1 : Int) = 1 then 2000 - M' 78 2 else 0).toNat < (if N 78 5 = 0 ∧ (1 : Int) = 1 then 2000 - N 78 2 else 0).toNat
              rw [e5, e0, x2.1.2.2.2.2.1, x2.1.2.2.1, if_pos (show (0 : Int) = 0 ∧ (1 : Int) = 1 from ⟨rfl, rfl⟩), if_pos (show (0 : Int) = 0 ∧ (1 : Int) = 1 from ⟨rfl, rfl⟩)]
              omega
          have hz : ∀ (M' : Mm), (Bde T e R M' ∨ Ee U T e R M') → Fr xqA M M' → wq (kH (0, M')) (fun M' => (Bde T e R M' ∨ ∃ p' g' C', R = .inr (p', g', C') ∧ Xq U T e p' g' 0 [] [] C' M') ∧ Fr xqA M M') := fun M' y1 y2 => hk _ ⟨y2, Or.inr ⟨rfl, y1⟩⟩ (m0 M')
          obtain ⟨P, hP⟩ : ∃ P, P = sk T e p' := ⟨_, rfl⟩
          rw [← hP] at d1 i1 hs hss hbr c1 h1 hok
          have hlen1 := i1.len
          clear w1 w2 w3 c2 c3
          rw [c1, i32_id (x := bte T e P) (by omega) (by omega), i32_id (x := 91) (by decide) (by decide)]
          have d2 := d1
          unfold dE at d2
          rw [hss] at d2
          refine wq_if (fun c => ?_) (fun c => ?_)
          · rw [if_neg c] at d2
            refine wq_I (s_isHere hB h1.1 rw_130) (fun r M2 ⟨c4, c5, c6⟩ => ?_)
            rw [hss] at c5
            have h2 : Xq U T e P g' o' W' [] C' M2 := h1.sm c5 (c6.cov rfl)
            have f2 : Fr xqA M M2 := f1.tr (c6.cov rfl)
            rcases c4 with ⟨d4, d5⟩ | ⟨d4, d5⟩
            · have d4 : r = 1 := d4
              rw [d4]
              rw [if_pos (hwq_iff.mpr d5)] at d2
              rw [h2.1.2.2.1]
              refine wq_e (by decide) (wq_V (xq_opens h2 (by omega) (by simp only [List.length_nil]; omega) (by decide) (by omega)) (fun M3 ⟨g4, g5⟩ => ?_))
              rcases g4 with ⟨m1, m2⟩ | ⟨m1, m2, m3⟩
              · rw [if_neg m1] at d2
                refine wq_V (s_asks hB m2.1 rw_130) (fun M4 ⟨x1, x2⟩ => ?_)
                rw [hss] at x1
                rcases x1 with ⟨-, x3⟩ | ⟨x3, -⟩
                · exact hok M4 (Or.inr ⟨n', _, _, _, _, _, d2, m2.sm x3 x2, i1.push (Or.inr rfl) m1 (by omega) (by omega), by omega⟩) (f2.tr (g5.tr (x2.cov rfl)))
                · exact absurd d5 x3
              · rw [if_pos m1] at d2
                rw [e_asks_f m2]
                exact hok M3 (Or.inl ⟨4, P, (Option.some.inj d2).symm, m2⟩) (f2.tr g5)
            · have d4 : r = 0 := d4
              rw [d4]
              rw [if_neg (fun z => d5 (hwq_iff.mp z))] at d2
              obtain ⟨R1, r1, r2⟩ := fc_ok (g := g') (C := C') hB ho (W'.length + 1) 0 (by decide) (by omega) hs.2 hgr (by omega)
              rw [r1] at d2
              refine wq_t (by decide) (wq_V (s_fact hB h2 hss i1.mem ho hlen1 r1) (fun M3 ⟨z, f⟩ => ?_))
              have f3 : Fr xqA M M3 := f2.tr f
              rcases z with ⟨k, pl, x1, x2⟩ | ⟨p2, g2, C2, x1, x2⟩
              · rw [x1] at d2
                have d2 : some (Sum.inl (k, pl)) = some R := d2
                have hkk := x2.2.2.2.2.1
                rw [e_nots_f x2]
                show wq (if ¬ i32 (M3 78 5) = 0 then _ else _) _
                rw [x2.2.2.1, i32_id (x := k) (by omega) (by omega)]
                exact wq_t (by omega) (hz M3 (Or.inl ⟨k, pl, (Option.some.inj d2).symm, x2⟩) f3)
              · rw [x1] at d2 r2
                have d2 : dE T e n' false p2 g2 (o' - (W'.takeWhile ntQ).length) (W'.dropWhile ntQ) (C2 ++ W'.takeWhile ntQ) = some R := d2
                rcases r2 with ⟨k, pl, y1, -⟩ | ⟨p3, g3, D, y1, y2, y3, y4, y5⟩
                · cases y1
                injection y1 with y1
                injection y1 with y6 y7
                injection y7 with y7 y8
                subst y6 y7
                rw [← y8] at y4
                obtain ⟨j1, j2, j3, j4⟩ := i1.nots (p1 := p2) (C' := C2) (by omega) y2.1 y4
                refine wq_V (s_nots x2 (by omega)) (fun M4 ⟨l1, l2⟩ => ?_)
                have f4 : Fr xqA M M4 := f3.tr (l2.cov rfl)
                rw [l1.1.2.2.2.2.1]
                refine wq_e (fun z => z rfl) (wq_I (s_goTest hB ⟨n', _, _, _, _, _, d2, l1, j4, Int.le_refl _⟩) (fun r M5 ⟨l3, l4⟩ => ?_))
                have f5 : Fr xqA M M5 := f4.tr l4
                rcases l3 with ⟨l5, l6⟩ | ⟨l5, l6⟩
                · have l5 : r = 1 := l5
                  rw [l5]
                  exact wq_e (by decide) (hok M5 (Or.inr (l6.mono (by omega))) f5)
                · have l5 : r = 0 := l5
                  rw [l5]
                  exact wq_t (by decide) (hz M5 l6 f5)
          · have c : bte T e P = 91 := Decidable.not_not.mp c
            rw [if_pos c] at d2
            have hl := bte_lt (T := T) (e := e) (k := P) (by omega) (by omega)
            rw [h1.1.2.2.1]
            refine wq_V (xq_opens h1 (by omega) (by simp only [List.length_nil]; omega) (by decide) (by omega)) (fun M3 ⟨c4, c5⟩ => ?_)
            rcases c4 with ⟨d4, d5⟩ | ⟨d4, d5, d6⟩
            · rw [if_neg d4] at d2
              rw [d5.1.2.2.1]
              have hF : Fr [(78, 2)] M3 (up M3 78 2 (P + 1)) := Fr.rf.up (by simp)
              exact wq_d (hok _ (Or.inr ⟨n', _, _, _, _, _, d2, d5.sm (d5.1.mv (by omega) (by omega)) (hF.cov rfl), i1.push (Or.inl rfl) d4 (by omega) (by omega), by omega⟩) (f1.tr (c5.tr (hF.cov rfl))))
            · rw [if_pos d4] at d2
              have hF : Fr [(78, 2)] M3 (up M3 78 2 (M3 78 2 + 1)) := Fr.rf.up (by simp)
              obtain ⟨y1, y2, y3, y4, y5, y6⟩ := d5
              refine wq_d (hok _ (Or.inl ⟨4, P, (Option.some.inj d2).symm, ⟨?_, ?_, ?_, ?_, y5, y6⟩⟩) (f1.tr (c5.tr (hF.cov rfl))))
              · rw [hF.at 78 3 rfl]; exact y1
              · rw [hF.row 79 rfl]; exact y2
              · rw [hF.at 78 5 rfl]; exact y3
              · rw [hF.at 78 6 rfl]; exact y4
      · have z2' := z2
        obtain ⟨k, pl, hR, hF⟩ := z2'
        have hkk := hF.2.2.2.2.1
        have e5 : N 78 5 = k := hF.2.2.1
        rw [e5, i32_id (x := k) (by omega) (by omega)]
        exact wq_t (by omega) (s_test110 N q1 (Or.inl z2))
    · have z1 : v1 = 0 := z1
      subst z1
      exact wq_t (by decide) (s_test110 N q1 z2)
  · have b := h.1.2.2.2.2.2.1
    show (if M 78 5 = 0 ∧ (1 : Int) = 1 then 2000 - M 78 2 else 0).toNat < 1000000000
    rw [h.1.2.2.1, h.1.2.2.2.2.1, if_pos ⟨rfl, rfl⟩]
    omega
end QT
