theorem Onx_iv {C : List Int} {e o p : Int} {a : Bool} {b : Nat} (h1 : o ≤ 6) (h2 : C.length + b ≤ p.toNat) : Iv a o b true p o [] C := ⟨h1, rfl, (fun y => by cases y), (fun _ v hv => by cases hv), by simpa using h2⟩
/-- a whole sum -/
theorem xt_sums {U T : Nat → Int} {e p g o : Int} {W C : List Int} {M : Mm} {R : Out} {n : Nat} (hB : Bt T e) (h : Xt U T e p g o W [] C M) (hd : dD false T e n true p g o [] C = some R) (ho : 0 ≤ o ∧ o ≤ 6) (hlen : C.length + W.length + 1 ≤ p.toNat) (hw0 : opQ (W.headD (-1)) = false) : wq (f_M_sumsTold M) (fun M' => (Bdt U T e R M' ∨ ∃ p' g' C', R = .inr (p', g', C') ∧ Xt U T e p' g' o W [] C' M') ∧ Fr xtA M M') := by
  have hh := hB.1
  obtain ⟨a1, a2, a3, a4, a5, a6, a7, a8, a9⟩ := h
  rw [List.append_nil] at a2 a3 a9
  have a5 : M 78 41 = 0 := a5
  unfold f_M_sumsTold
  rw [a2, a5]
  refine wq_d ?_
  have hF : Fr [(78, 41)] M (up M 78 41 (W.length : Int)) := Fr.rf.up (by simp)
  have hO : Ont U T e o W R p true (up M 78 41 (W.length : Int)) := ⟨n, p, g, o, [], C, hd, ⟨a1.fr hF rfl, by rw [hF.at 78 37 rfl]; exact a2, by rw [hF.row 103 rfl]; exact a3, by rw [hF.at 78 38 rfl]; exact a4, up_eq _ _ _ _, by rw [hF.at 78 35 rfl]; exact a6, by rw [hF.row 102 rfl]; exact a7, by rw [hF.row 102 rfl]; exact a8, a9⟩, Onx_iv (e := e) ho.2 (by omega), Int.le_refl _⟩
  generalize up M 78 41 (W.length : Int) = M1 at *
  unfold f_M_sumsTold_L15
  have fin : ∀ N, Fr xtA M N → (Bdt U T e R N ∨ Ent U T e o W R N) → wq (f_M_sumsTold_L53 FU (0, N)) (fun M' => (Bdt U T e R M' ∨ ∃ p' g' C', R = .inr (p', g', C') ∧ Xt U T e p' g' o W [] C' M') ∧ Fr xtA M M') := by
    intro N f0 hN
    unfold f_M_sumsTold_L53
    refine wq_lp (fun z => z.1 = 0 ∧ Fr xtA M z.2 ∧ (Bdt U T e R z.2 ∨ Ent U T e o W R z.2)) (fun z => (if z.2 78 5 = 0 then z.2 78 37 else 0).toNat) ?_ FU _ ⟨rfl, f0, hN⟩ ?_
    · rintro kH ⟨v1, K⟩ ⟨q1, q2, q3⟩ hk
      have q1 : v1 = 0 := q1
      have q2 : Fr xtA M K := q2
      subst q1
      show wq (f_M_sumsTold_B53 (fun v1 M => kH (v1, M)) 0 K) _
      unfold f_M_sumsTold_B53
      have hF2 : ∀ x, Fr [(78, 41)] K (up K 78 41 x) := fun x => Fr.rf.up (by simp)
      rcases q3 with ⟨k, pl, hR, y2, y3⟩ | ⟨p', g', W', C', hR, y2, y3⟩
      · have hkk := y2.2.2.2.2.1
        have y2 : Fm T e k pl K := y2
        rw [y2.2.2.1, i32_id (x := k) (by omega) (by omega)]
        refine wq_t (by omega) (wq_d (wq_some ⟨Or.inl ⟨k, pl, hR, y2.fr (hF2 0) rfl, Ukt.cg y3 ((hF2 0).row 102 rfl) ((hF2 0).at 78 35 rfl)⟩, q2.tr ((hF2 0).cov rfl)⟩))
      · have y2 : Xt U T e p' g' o W' W C' K := y2
        obtain ⟨b1, b2, b3, b4, b5, b6, b7, b8, b9⟩ := y2
        have hl : (W' ++ W).length = W'.length + W.length := List.length_append
        rw [b1.2.2.2.2.1, b2, b5, i32_id (x := ((W' ++ W).length : Int)) (by omega) (by omega), i32_id (x := (W.length : Int)) (by omega) (by omega)]
        refine wq_e (fun z => z rfl) ?_
        cases W' with
        | nil =>
          refine wq_t (by rw [hl, List.length_nil]; omega) (wq_d (wq_some ⟨Or.inr ⟨p', g', C', by rw [hR, List.append_nil], ?_⟩, q2.tr ((hF2 0).cov rfl)⟩))
          have hFF := hF2 0
          refine ⟨b1.fr hFF rfl, ?_, ?_, by rw [hFF.at 78 38 rfl]; exact b4, up_eq _ _ _ _, by rw [hFF.at 78 35 rfl]; exact b6, by rw [hFF.row 102 rfl]; exact b7, by rw [hFF.row 102 rfl]; exact b8, by rw [List.append_nil]; exact b9⟩
          · rw [hFF.at 78 37 rfl, List.append_nil]; exact b2
          · rw [hFF.row 103 rfl, List.append_nil]; exact b3
        | cons v W' =>
          have hl2 : (W' ++ W).length = W'.length + W.length := List.length_append
          rw [List.length_cons] at hl y3
          refine wq_e (by omega) (wq_V (xt_drops (U := U) ⟨b1, b2, b3, b4, b5, b6, b7, b8, b9⟩ (by omega) (by omega)) (fun M2 ⟨d1, d2⟩ => hk _ ⟨rfl, q2.tr (d2.cov rfl), Or.inr ⟨p', g', W', C' ++ [v], by rw [hR, List.append_assoc]; rfl, d1, by rw [List.length_append, List.length_singleton]; omega⟩⟩ ?_))
          show (if M2 78 5 = 0 then M2 78 37 else 0).toNat < (if K 78 5 = 0 then K 78 37 else 0).toNat
          rw [d1.1.2.2.2.2.1, b1.2.2.2.2.1, if_pos rfl, if_pos rfl, d1.2.1, b2]
          omega
    · show (if N 78 5 = 0 then N 78 37 else 0).toNat < 1000000000
      rcases hN with ⟨k, pl, hR, y2, y3⟩ | ⟨p', g', W', C', hR, y2, y3⟩
      · have := y2.2.2.2.2.1
        rw [y2.2.2.1, if_neg (by omega)]
        decide
      · rw [y2.1.2.2.2.2.1, if_pos rfl, y2.2.1, List.length_append]
        omega
  refine wq_lp (fun z => z.1 = 0 ∧ Fr xtA M z.2.2 ∧ ((z.2.1 = 1 ∧ ∃ pm, Ont U T e o W R pm true z.2.2) ∨ (z.2.1 = 0 ∧ (Bdt U T e R z.2.2 ∨ Ent U T e o W R z.2.2)))) (fun z => (z.2.1 * (2000 - z.2.2 78 2)).toNat) ?_ FU _ ⟨rfl, hF.cov rfl, Or.inl ⟨rfl, p, hO⟩⟩ ?_
  · rintro kH ⟨v1, v2, N⟩ ⟨q1, q2, q3⟩ hk
    have q1 : v1 = 0 := q1
    have q2 : Fr xtA M N := q2
    subst q1
    show wq (f_M_sumsTold_B15 (fun v1 v2 M => kH (v1, v2, M)) (fun v1 M5 => f_M_sumsTold_L53 FU (v1, M5)) 0 v2 N) _
    unfold f_M_sumsTold_B15
    rcases q3 with ⟨z1, pm, z2⟩ | ⟨z1, z2⟩
    · have z1 : v2 = 1 := z1
      subst z1
      obtain ⟨n', p', g', o', W', C', w1, w2, w3, w4⟩ := z2
      have w2 : Xt U T e p' g' o' W' W C' N := w2
      have b := w2.1.2.2.2.2.2.1
      have e0 : N 78 2 = p' := w2.1.2.2.1
      have e5 : N 78 5 = 0 := w2.1.2.2.2.2.1
      rw [e5]
      refine wq_e (by decide) (wq_e (fun z => z rfl) (wq_V (xt_part hB ho.1 (M := N) ⟨n', p', g', o', W', C', w1, w2, w3, Int.le_refl _⟩) (fun M2 ⟨c1, c2⟩ => ?_)))
      have f2 := q2.tr c2
      rcases c1 with c1 | c1
      · have c1' := c1
        obtain ⟨k, pl, hR, y2, y3⟩ := c1'
        have hkk := y2.2.2.2.2.1
        rw [y2.2.2.1, i32_id (x := k) (by omega) (by omega)]
        refine wq_t (by omega) (hk _ ⟨rfl, f2, Or.inr ⟨rfl, Or.inl c1⟩⟩ ?_)
        show ((0 : Int) * (2000 - M2 78 2)).toNat < ((1 : Int) * (2000 - N 78 2)).toNat
        rw [e0, Int.zero_mul]
        omega
      · have c1' := c1
        obtain ⟨n2, p2, g2, o2, W2, C2, x1, x2, x3, x4⟩ := c1'
        have x5 : M2 78 5 = 0 := x2.1.2.2.2.2.1
        rw [x5]
        refine wq_e (fun z => z rfl) (wq_I (xt_goesOn hB c1 hw0) (fun r M3 ⟨d1, d2⟩ => ?_))
        have f3 := f2.tr d2
        rcases d1 with ⟨d3, d4⟩ | ⟨d3, d4⟩
        · have d3 : r = 1 := d3
          rw [d3]
          refine wq_e (by decide) (hk _ ⟨rfl, f3, Or.inl ⟨rfl, _, d4⟩⟩ ?_)
          obtain ⟨n3, p3, g3, o3, W3, C3, y1, y2, y3, y4⟩ := d4
          have y5 := y2.1.2.2.2.2.2.1
          have y6 : M3 78 2 = p3 := y2.1.2.2.1
          show ((1 : Int) * (2000 - M3 78 2)).toNat < ((1 : Int) * (2000 - N 78 2)).toNat
          rw [e0, y6]
          omega
        · have d3 : r = 0 := d3
          rw [d3]
          refine wq_t (by decide) (hk _ ⟨rfl, f3, Or.inr ⟨rfl, d4⟩⟩ ?_)
          show ((0 : Int) * (2000 - M3 78 2)).toNat < ((1 : Int) * (2000 - N 78 2)).toNat
          rw [e0, Int.zero_mul]
          omega
    · have z1 : v2 = 0 := z1
      subst z1
      exact wq_t (by decide) (fin N q2 z2)
  · show ((1 : Int) * (2000 - M1 78 2)).toNat < 1000000000
    obtain ⟨n', p', g', o', W', C', w1, w2, w3, w4⟩ := hO
    have b := w2.1.2.2.2.2.2.1
    rw [w2.1.2.2.1]
    omega
/-- a whole sum -/
theorem xq_sums {U T : Nat → Int} {e p g o : Int} {W C : List Int} {M : Mm} {R : Out} {n : Nat} (hB : Bt T e) (h : Xq U T e p g o W [] C M) (hd : dD true T e n true p g o [] C = some R) (ho : 0 ≤ o ∧ o ≤ 6) (hlen : C.length + W.length + 1 ≤ p.toNat) (hw0 : opQ (W.headD (-1)) = false) : wq (f_M_qSums M) (fun M' => (Bdq U T e R M' ∨ ∃ p' g' C', R = .inr (p', g', C') ∧ Xq U T e p' g' o W [] C' M') ∧ Fr xqA M M') := by
  have hh := hB.1
  obtain ⟨a1, a2, a3, a4, a5, a6, a7, a8, a9⟩ := h
  rw [List.append_nil] at a2 a3 a9
  have a5 : M 78 93 = 0 := a5
  unfold f_M_qSums
  rw [a2, a5]
  refine wq_d ?_
  have hF : Fr [(78, 93)] M (up M 78 93 (W.length : Int)) := Fr.rf.up (by simp)
  have hO : Onq U T e o W R p true (up M 78 93 (W.length : Int)) := ⟨n, p, g, o, [], C, hd, ⟨a1.fr hF rfl, by rw [hF.at 78 91 rfl]; exact a2, by rw [hF.row 143 rfl]; exact a3, by rw [hF.at 78 92 rfl]; exact a4, up_eq _ _ _ _, by rw [hF.at 78 89 rfl]; exact a6, by rw [hF.row 142 rfl]; exact a7, by rw [hF.row 142 rfl]; exact a8, a9⟩, Onx_iv (e := e) ho.2 (by omega), Int.le_refl _⟩
  generalize up M 78 93 (W.length : Int) = M1 at *
  unfold f_M_qSums_L15
  have fin : ∀ N, Fr xqA M N → (Bdq U T e R N ∨ Enq U T e o W R N) → wq (f_M_qSums_L53 FU (0, N)) (fun M' => (Bdq U T e R M' ∨ ∃ p' g' C', R = .inr (p', g', C') ∧ Xq U T e p' g' o W [] C' M') ∧ Fr xqA M M') := by
    intro N f0 hN
    unfold f_M_qSums_L53
    refine wq_lp (fun z => z.1 = 0 ∧ Fr xqA M z.2 ∧ (Bdq U T e R z.2 ∨ Enq U T e o W R z.2)) (fun z => (if z.2 78 5 = 0 then z.2 78 91 else 0).toNat) ?_ FU _ ⟨rfl, f0, hN⟩ ?_
    · rintro kH ⟨v1, K⟩ ⟨q1, q2, q3⟩ hk
      have q1 : v1 = 0 := q1
      have q2 : Fr xqA M K := q2
      subst q1
      show wq (f_M_qSums_B53 (fun v1 M => kH (v1, M)) 0 K) _
      unfold f_M_qSums_B53
      have hF2 : ∀ x, Fr [(78, 93)] K (up K 78 93 x) := fun x => Fr.rf.up (by simp)
      rcases q3 with ⟨k, pl, hR, y2, y3⟩ | ⟨p', g', W', C', hR, y2, y3⟩
      · have hkk := y2.2.2.2.2.1
        have y2 : Fm T e k pl K := y2
        rw [y2.2.2.1, i32_id (x := k) (by omega) (by omega)]
        refine wq_t (by omega) (wq_d (wq_some ⟨Or.inl ⟨k, pl, hR, y2.fr (hF2 0) rfl, Ukq.cg y3 ((hF2 0).row 142 rfl) ((hF2 0).at 78 89 rfl)⟩, q2.tr ((hF2 0).cov rfl)⟩))
      · have y2 : Xq U T e p' g' o W' W C' K := y2
        obtain ⟨b1, b2, b3, b4, b5, b6, b7, b8, b9⟩ := y2
        have hl : (W' ++ W).length = W'.length + W.length := List.length_append
        rw [b1.2.2.2.2.1, b2, b5, i32_id (x := ((W' ++ W).length : Int)) (by omega) (by omega), i32_id (x := (W.length : Int)) (by omega) (by omega)]
        refine wq_e (fun z => z rfl) ?_
        cases W' with
        | nil =>
          refine wq_t (by rw [hl, List.length_nil]; omega) (wq_d (wq_some ⟨Or.inr ⟨p', g', C', by rw [hR, List.append_nil], ?_⟩, q2.tr ((hF2 0).cov rfl)⟩))
          have hFF := hF2 0
          refine ⟨b1.fr hFF rfl, ?_, ?_, by rw [hFF.at 78 92 rfl]; exact b4, up_eq _ _ _ _, by rw [hFF.at 78 89 rfl]; exact b6, by rw [hFF.row 142 rfl]; exact b7, by rw [hFF.row 142 rfl]; exact b8, by rw [List.append_nil]; exact b9⟩
          · rw [hFF.at 78 91 rfl, List.append_nil]; exact b2
          · rw [hFF.row 143 rfl, List.append_nil]; exact b3
        | cons v W' =>
          have hl2 : (W' ++ W).length = W'.length + W.length := List.length_append
          rw [List.length_cons] at hl y3
          refine wq_e (by omega) (wq_V (xq_drops (U := U) ⟨b1, b2, b3, b4, b5, b6, b7, b8, b9⟩ (by omega) (by omega)) (fun M2 ⟨d1, d2⟩ => hk _ ⟨rfl, q2.tr (d2.cov rfl), Or.inr ⟨p', g', W', C' ++ [v], by rw [hR, List.append_assoc]; rfl, d1, by rw [List.length_append, List.length_singleton]; omega⟩⟩ ?_))
          show (if M2 78 5 = 0 then M2 78 91 else 0).toNat < (if K 78 5 = 0 then K 78 91 else 0).toNat
          rw [d1.1.2.2.2.2.1, b1.2.2.2.2.1, if_pos rfl, if_pos rfl, d1.2.1, b2]
          omega
    · show (if N 78 5 = 0 then N 78 91 else 0).toNat < 1000000000
      rcases hN with ⟨k, pl, hR, y2, y3⟩ | ⟨p', g', W', C', hR, y2, y3⟩
      · have := y2.2.2.2.2.1
        rw [y2.2.2.1, if_neg (by omega)]
        decide
      · rw [y2.1.2.2.2.2.1, if_pos rfl, y2.2.1, List.length_append]
        omega
  refine wq_lp (fun z => z.1 = 0 ∧ Fr xqA M z.2.2 ∧ ((z.2.1 = 1 ∧ ∃ pm, Onq U T e o W R pm true z.2.2) ∨ (z.2.1 = 0 ∧ (Bdq U T e R z.2.2 ∨ Enq U T e o W R z.2.2)))) (fun z => (z.2.1 * (2000 - z.2.2 78 2)).toNat) ?_ FU _ ⟨rfl, hF.cov rfl, Or.inl ⟨rfl, p, hO⟩⟩ ?_
  · rintro kH ⟨v1, v2, N⟩ ⟨q1, q2, q3⟩ hk
    have q1 : v1 = 0 := q1
    have q2 : Fr xqA M N := q2
    subst q1
    show wq (f_M_qSums_B15 (fun v1 v2 M => kH (v1, v2, M)) (fun v1 M5 => f_M_qSums_L53 FU (v1, M5)) 0 v2 N) _
    unfold f_M_qSums_B15
    rcases q3 with ⟨z1, pm, z2⟩ | ⟨z1, z2⟩
    · have z1 : v2 = 1 := z1
      subst z1
      obtain ⟨n', p', g', o', W', C', w1, w2, w3, w4⟩ := z2
      have w2 : Xq U T e p' g' o' W' W C' N := w2
      have b := w2.1.2.2.2.2.2.1
      have e0 : N 78 2 = p' := w2.1.2.2.1
      have e5 : N 78 5 = 0 := w2.1.2.2.2.2.1
      rw [e5]
      refine wq_e (by decide) (wq_e (fun z => z rfl) (wq_V (xq_part hB ho.1 (M := N) ⟨n', p', g', o', W', C', w1, w2, w3, Int.le_refl _⟩) (fun M2 ⟨c1, c2⟩ => ?_)))
      have f2 := q2.tr c2
      rcases c1 with c1 | c1
      · have c1' := c1
        obtain ⟨k, pl, hR, y2, y3⟩ := c1'
        have hkk := y2.2.2.2.2.1
        rw [y2.2.2.1, i32_id (x := k) (by omega) (by omega)]
        refine wq_t (by omega) (hk _ ⟨rfl, f2, Or.inr ⟨rfl, Or.inl c1⟩⟩ ?_)
        show ((0 : Int) * (2000 - M2 78 2)).toNat < ((1 : Int) * (2000 - N 78 2)).toNat
        rw [e0, Int.zero_mul]
        omega
      · have c1' := c1
        obtain ⟨n2, p2, g2, o2, W2, C2, x1, x2, x3, x4⟩ := c1'
        have x5 : M2 78 5 = 0 := x2.1.2.2.2.2.1
        rw [x5]
        refine wq_e (fun z => z rfl) (wq_I (xq_goesOn hB c1 hw0) (fun r M3 ⟨d1, d2⟩ => ?_))
        have f3 := f2.tr d2
        rcases d1 with ⟨d3, d4⟩ | ⟨d3, d4⟩
        · have d3 : r = 1 := d3
          rw [d3]
          refine wq_e (by decide) (hk _ ⟨rfl, f3, Or.inl ⟨rfl, _, d4⟩⟩ ?_)
          obtain ⟨n3, p3, g3, o3, W3, C3, y1, y2, y3, y4⟩ := d4
          have y5 := y2.1.2.2.2.2.2.1
          have y6 : M3 78 2 = p3 := y2.1.2.2.1
          show ((1 : Int) * (2000 - M3 78 2)).toNat < ((1 : Int) * (2000 - N 78 2)).toNat
          rw [e0, y6]
          omega
        · have d3 : r = 0 := d3
          rw [d3]
          refine wq_t (by decide) (hk _ ⟨rfl, f3, Or.inr ⟨rfl, d4⟩⟩ ?_)
          show ((0 : Int) * (2000 - M3 78 2)).toNat < ((1 : Int) * (2000 - N 78 2)).toNat
          rw [e0, Int.zero_mul]
          omega
    · have z1 : v2 = 0 := z1
      subst z1
      exact wq_t (by decide) (fin N q2 z2)
  · show ((1 : Int) * (2000 - M1 78 2)).toNat < 1000000000
    obtain ⟨n', p', g', o', W', C', w1, w2, w3, w4⟩ := hO
    have b := w2.1.2.2.2.2.2.1
    rw [w2.1.2.2.1]
    omega
