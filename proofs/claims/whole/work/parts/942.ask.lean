def lAsk : List (Nat × Nat) := [(1, 99999), (71, 99999), (72, 99999), (73, 99999), (74, 99999), (75, 99999), (18, 99999), (47, 99999), (0, 11), (0, 12), (78, 1), (78, 2), (78, 3), (78, 4), (78, 5), (78, 6), (78, 7), (78, 8), (78, 43), (78, 89), (78, 91), (78, 92), (78, 93), (78, 95), (78, 96), (78, 97), (142, 99999), (143, 99999), (144, 99999), (106, 99999), (107, 99999)]
theorem rel_ask {n : Nat} {M M' : Mm} (h : Rl n M M) (hF : Fr lAsk M M') (hC : Cc M M') (e1 : M' 78 1 = 0) (e2 : M' 1 1 = 0) (e3 : M' 0 11 = M' 78 7) (e4 : M' 0 12 = M' 78 8) : Rl (n + 1) M' M' := by
  obtain ⟨h1, h2, h3, h4, h5, h6, h7, h8, h9, h10, h11⟩ := h
  have hu : Ru M M' := Ru.of hF rfl
  have e46 : M' 46 3 = M 46 3 := by rw [hF.row 46 rfl]
  obtain ⟨t1, t2, t3, t4⟩ := h4
  obtain ⟨s1, s2, s3, s4, s5, s6⟩ := h5
  refine ⟨h1.rt hu.t, h2.ru hu, ⟨(h3.1.fr hF rfl).rt hu.t, nc_ru (h3.2.1.fr hF rfl) hu, hC.rt hu.t⟩, ⟨?_, ?_, ?_, ?_⟩, ⟨e3, e4, ?_, ?_, ?_, ?_⟩, h6.cg hu.t (hF.row 5 rfl), h7.cg hu.t (hF.at 78 63 rfl) (hF.at 78 64 rfl) (hF.row 120 rfl) (hF.at 39 9 rfl) (hF.row 44 rfl), h8.c (hF.at 78 99 rfl) (hF.row 145 rfl) (hF.at 39 7 rfl) (hF.row 45 rfl), h9.cg hu.t (hF.at 78 66 rfl) (hF.row 121 rfl) (hF.at 64 6 rfl) (hF.row 65 rfl) (hF.row 66 rfl) (hF.row 67 rfl), ⟨by rw [hF.row 38 rfl]; exact h10.1, by rw [hF.row 76 rfl]; exact h10.2.1, by rw [hF.row 48 rfl]; exact h10.2.2⟩, by rw [e46]; omega⟩
  · rw [e1]; decide
  · rw [hF.row 79 rfl]; exact t2
  · rw [e1, e2]
  · rw [hF.row 2 rfl, hF.row 79 rfl]; exact t4
  · rw [hF.row 77 rfl, hF.row 80 rfl]; exact s3
  · rw [hF.at 0 13 rfl, hF.at 78 65 rfl]; exact s4
  · rw [hF.at 78 65 rfl]; exact s5
  · rw [hF.at 78 65 rfl]; exact s6
theorem call_ask {n : Nat} : CallOk n f_BT_ask f_M_ask := by
  intro M hR
  obtain ⟨h1, h2, h3, h4, h5, h6, h7, h8, h9, h10, h11⟩ := id hR
  obtain ⟨t1, t2, t3, t4⟩ := id h4
  have hB : Bt (M 79) (M 78 1) := ⟨t1, t2⟩
  have hhr := h2.1
  -- the reference's side, from any state that the class may have left
  have href : ∀ (N : Mm) (r : Int), (∀ i, 78 ≤ i → N i = M i) → Fr lAsk M N → Cc M N → N 1 1 = 0 → ((∃ k pl, qRes (M 79) (M 78 1) = some (.inl (k, pl)) ∧ r = -1000000000000000 ∧ N 0 11 = k ∧ N 0 12 = pl) ∨ (∃ kd C, qRes (M 79) (M 78 1) = some (.inr (kd, C)) ∧ (wfl true C 0 1 ∧ wft C [] [decide (kd ≤ 2)]) ∧ C.length ≤ 1600 ∧ r = qan (qvl M C) (hr M) kd 201 ∧ N 0 11 = 0 ∧ N 0 12 = -1)) → wq (f_M_ask N) (fun q' => r = q'.1 ∧ Rl (n + 1) q'.2 q'.2) := by
    intro N r hhi hF hC n11 hres
    have e78 := hhi 78 (by decide)
    unfold f_M_ask
    refine wq_d (wq_d (wq_d (wq_d (wq_d (wq_d (wq_d (wq_d (wq_d (wq_d ?_)))))))))
    obtain ⟨X, hX⟩ : ∃ X, X = up (up (up (up (up (up (up (up (up (up N 78 3 (N 78 1)) 78 1 0) 78 2 0) 78 4 (-1)) 78 5 0) 78 6 (-1)) 78 89 0) 78 91 0) 78 92 0) 78 93 0 := ⟨_, rfl⟩
    rw [← hX]
    have FX : Fr [(78, 1), (78, 2), (78, 3), (78, 4), (78, 5), (78, 6), (78, 89), (78, 91), (78, 92), (78, 93)] N X := by
      rw [hX]
      exact (((((((((Fr.rf.up (by simp)).up (by simp)).up (by simp)).up (by simp)).up (by simp)).up (by simp)).up (by simp)).up (by simp)).up (by simp)).up (by simp)
    have c3 : X 78 3 = M 78 1 := by rw [hX]; simp [up_at, e78]
    have c1 : X 78 1 = 0 := by rw [hX]; simp [up_at]
    have c2 : X 78 2 = 0 := by rw [hX]; simp [up_at]
    have c4 : X 78 4 = -1 := by rw [hX]; simp [up_at]
    have c5 : X 78 5 = 0 := by rw [hX]; simp [up_at]
    have c6 : X 78 6 = -1 := by rw [hX]; simp [up_at]
    have c89 : X 78 89 = 0 := by rw [hX]; simp [up_at]
    have c91 : X 78 91 = 0 := by rw [hX]; simp [up_at]
    have c92 : X 78 92 = 0 := by rw [hX]; simp [up_at]
    have c93 : X 78 93 = 0 := by rw [hX]; simp [up_at]
    have c79 : X 79 = M 79 := by rw [FX.row 79 rfl]; exact hhi 79 (by decide)
    clear hX
    have hXq : Xq (X 142) (M 79) (M 78 1) 0 (-1) 0 [] [] [] X := ⟨⟨c3, c79, c2, c4, c5, ⟨Int.le_refl _, t1.1⟩, by decide, c6⟩, c91, trivial, c92, c93, c89, fun k hk => absurd hk (Nat.not_lt_zero _), fun k _ => rfl, fun v hv => by cases hv⟩
    have FXM : Fr lAsk M X := hF.tr (FX.cov rfl)
    have hCX : Cc M X := hC.fr FX rfl
    have x11 : X 1 1 = 0 := by rw [FX.row 1 rfl]; exact n11
    have x0 : X 0 = N 0 := FX.row 0 rfl
    have hRm : Rm M X := by
      refine ⟨?_, ?_, ?_, ?_, ?_, ?_, ?_⟩
      · rw [FX.row 98 rfl]; exact hhi 98 (by decide)
      · rw [FX.row 100 rfl]; exact hhi 100 (by decide)
      · rw [FX.row 101 rfl]; exact hhi 101 (by decide)
      · rw [FX.row 102 rfl]; exact hhi 102 (by decide)
      · rw [FX.row 104 rfl]; exact hhi 104 (by decide)
      · rw [FX.row 105 rfl]; exact hhi 105 (by decide)
      · rw [FX.row 108 rfl]; exact hhi 108 (by decide)
    refine s_mread hB hXq (fun kd M' hq hkd hF' => ?_)
    have F' : Fr lAsk M M' := FXM.tr (hF'.cov rfl)
    have C' : Cc M M' := hCX.fr hF' rfl
    have m1 : M' 78 1 = 0 := by rw [hF'.at 78 1 rfl]; exact c1
    have m11 : M' 1 1 = 0 := by rw [hF'.row 1 rfl]; exact x11
    have m0 : M' 0 = N 0 := by rw [hF'.row 0 rfl]; exact x0
    unfold f_M_ask_J112
    refine wq_d ?_
    rw [up_col (show ¬ (6 : Nat) = 7 by decide)]
    refine wq_d ?_
    obtain ⟨Y, hY⟩ : ∃ Y, Y = up (up M' 78 7 (M' 78 5)) 78 8 (M' 78 6) := ⟨_, rfl⟩
    rw [← hY]
    have FY : Fr [(78, 7), (78, 8)] M' Y := by rw [hY]; exact (Fr.rf.up (by simp)).up (by simp)
    have y7 : Y 78 7 = M' 78 5 := by rw [hY]; simp [up_at]
    have y8 : Y 78 8 = M' 78 6 := by rw [hY]; simp [up_at]
    clear hY
    rcases hq with ⟨k, pl, q1, q2⟩ | ⟨C, p, g, q1, q2, q3, q4, q5⟩
    · rcases hres with ⟨k', pl', w1, w2, w3, w4⟩ | ⟨kd', C', w1, -⟩
      · rw [q1] at w1
        injection w1 with w1
        injection w1 with w1
        injection w1 with w5 w6
        have hk := q2.2.2.2.2.1
        rw [FY.at 78 5 rfl, q2.2.2.1, i32_id (x := k) (by omega) (by omega)]
        refine wq_e (by omega) (wq_some ⟨w2, rel_ask hR (F'.tr (FY.cov rfl)) (C'.fr FY rfl) (by show Y 78 1 = 0; rw [FY.at 78 1 rfl]; exact m1) (by show Y 1 1 = 0; rw [FY.row 1 rfl]; exact m11) ?_ ?_⟩)
        · show Y 0 11 = Y 78 7
          rw [y7, FY.row 0 rfl, m0, w3, q2.2.2.1]
          exact w5.symm
        · show Y 0 12 = Y 78 8
          rw [y8, FY.row 0 rfl, m0, w4, q2.2.2.2.1]
          exact w6.symm
      · rw [q1] at w1
        injection w1 with w1
        cases w1
    · rcases hres with ⟨k', pl', w1, -⟩ | ⟨kd', C', w1, w2, w3, w4, w5, w6⟩
      · rw [q1] at w1
        injection w1 with w1
        cases w1
      · rw [q1] at w1
        injection w1 with w1
        injection w1 with w1
        injection w1 with w7 w8
        subst w7 w8
        have hRY : Rm M Y := (hRm.fr hF' rfl).fr FY rfl
        have y5 : Y 78 5 = 0 := by rw [FY.at 78 5 rfl]; exact q3.2.2.2.2.1
        rw [y5, i32_id (x := 2) (by decide) (by decide), i32_id (x := kd) (by omega) (by omega)]
        have hjj : ∀ A : Int, A = (if kd < 2 then -1 else 0) → wq (f_M_ask_J152 kd A Y) (fun q' => r = q'.1 ∧ Rl (n + 1) q'.2 q'.2) := by
          intro A hA
          unfold f_M_ask_J152
          refine wq_d (wq_g (Or.inr (by decide)) (wq_d ?_))
          obtain ⟨Z, hZ⟩ : ∃ Z, Z = up (up Y 78 96 A) 78 97 1 := ⟨_, rfl⟩
          rw [← hZ]
          have FZ : Fr [(78, 96), (78, 97)] Y Z := by rw [hZ]; exact (Fr.rf.up (by simp)).up (by simp)
          have z96 : Z 78 96 = A := by rw [hZ]; simp [up_at]
          have z97 : Z 78 97 = 1 := by rw [hZ]; simp [up_at]
          clear hZ
          refine wq_m (s_askLoop (V := M) (C := C) (t := decide (kd ≤ 2)) h1 h2 (hRY.fr FZ rfl) (by rw [FZ.at 78 89 rfl, FY.at 78 89 rfl]; exact q4) (fun k hk => by rw [FZ.row 142 rfl, FY.row 142 rfl]; exact q5 k hk) w2.1 w2.2 w3 hkd (fun z => decide_eq_true z) z96 z97 hA) (fun q' ⟨x1, x2⟩ => ⟨by rw [x1]; exact w4, ?_⟩)
          have FQ : Fr lAsk M q'.2 := F'.tr ((FY.cov rfl : Fr lAsk _ _).tr ((FZ.cov rfl : Fr lAsk _ _).tr (x2.cov rfl)))
          have e0 : q'.2 0 = N 0 := by rw [x2.row 0 rfl, FZ.row 0 rfl, FY.row 0 rfl]; exact m0
          refine rel_ask hR FQ (((C'.fr FY rfl).fr FZ rfl).fr x2 rfl) ?_ ?_ ?_ ?_
          · rw [x2.at 78 1 rfl, FZ.at 78 1 rfl, FY.at 78 1 rfl]; exact m1
          · rw [x2.row 1 rfl, FZ.row 1 rfl, FY.row 1 rfl]; exact m11
          · rw [e0, x2.at 78 7 rfl, FZ.at 78 7 rfl, y7, q3.2.2.2.2.1]; exact w5
          · rw [e0, x2.at 78 8 rfl, FZ.at 78 8 rfl, y8, q3.2.2.2.2.2.2.2]; exact w6
        refine wq_t (by decide) (wq_if (fun c => hjj 0 (by rw [if_neg (by omega)])) (fun c => hjj (-1) (by rw [if_pos (by omega)])))
  -- the class's side
  unfold f_BT_ask
  refine wq_I (s_quest hB t3 t4 h10.2.1) (fun r M1 ⟨z, f1⟩ => ?_)
  have f1 : Fr qrL M M1 := f1
  unfold f_BT_keepFault
  refine wq_V (P := fun M' => M' = up (up (up M1 0 11 (M1 1 5)) 0 12 (M1 1 6)) 1 1 0) (wq_d (wq_d (by
    rw [up_row (show ¬ (1 : Nat) = 0 by decide)]
    exact wq_d (wq_some rfl)))) (fun M2 e2 => ?_)
  have F2 : Fr [(0, 11), (0, 12), (1, 1)] M1 M2 := by rw [e2]; exact ((Fr.rf.up (by simp)).up (by simp)).up (by simp)
  have k11 : M2 0 11 = M1 1 5 := by rw [e2]; simp [up_at]
  have k12 : M2 0 12 = M1 1 6 := by rw [e2]; simp [up_at]
  have k1 : M2 1 1 = 0 := by rw [e2]; simp [up_at]
  clear e2
  have F2M : Fr lAsk M M2 := (f1.cov rfl : Fr lAsk _ _).tr (F2.cov rfl)
  have hC2 : Cl M M2 := (h3.fr f1 rfl rfl rfl).fr F2 rfl rfl rfl
  rcases z with ⟨z1, k, pl, z2, z3⟩ | ⟨kd, C, p, g, z2, z1, z3, z4, z5, z6⟩
  · have z1 : r = -1 := z1
    have z3 : Fb (M 79) (M 78 1) k pl M1 := z3
    rw [z1]
    refine wq_e (by decide) (wq_some ?_)
    exact href M2 _ (fun i hi => by rw [F2.low rfl i hi, f1.low rfl i hi]) F2M hC2.2.2 k1 (Or.inl ⟨k, pl, z2, rfl, by rw [k11]; exact z3.2.2.1, by rw [k12]; exact z3.2.2.2.1⟩)
  · have z1 : r = kd := z1
    have z6 : Yq (M 79) (M 78 1) p g C M1 := z6
    rw [z1, i32_id (x := kd) (by omega) (by omega), i32_id (x := (-1)) (by decide) (by decide)]
    refine wq_t (by omega) (wq_V (s_work (V := M) (C := C) (t := decide (kd ≤ 2)) h1 h2 hC2 (by rw [F2.row 48 rfl, f1.row 48 rfl]; exact h10.2.2) (by rw [F2.row 71 rfl]; exact z6.2.2.2.1) (by rw [F2.row 71 rfl]; exact z6.2.1) (fun k hk => by rw [F2.row 72 rfl]; exact z6.2.2.1 k hk) z5 z4.1 z4.2) (fun M3 ⟨g1, g2, g3⟩ => ?_))
    have hfr : ∀ k : Nat, k < 201 → -1000000 ≤ qvl M C (hr M + k) ∧ qvl M C (hr M + k) ≤ 1000000 := fun k hk => (qvl_ok h1 ⟨by omega, by omega⟩ z4.1 z4.2).2.2
    refine wq_I (s_answer (V := M) (f := qvl M C) z3 hhr g2.2.1.1 g1 hfr) (fun r2 M4 ⟨a1, a2⟩ => wq_some ?_)
    have a1 : r2 = qan (qvl M C) (hr M) kd 201 := a1
    have a2 : M4 = M3 := a2
    subst a2
    exact href M4 r2 (fun i hi => by rw [g3.low rfl i hi, F2.low rfl i hi, f1.low rfl i hi]) (F2M.tr (g3.cov rfl)) g2.2.2 (by rw [g3.row 1 rfl]; exact k1) (Or.inr ⟨kd, C, z2, z4, z5, a1, by rw [g3.row 0 rfl, k11]; exact z6.1.2.2.2.2.1, by rw [g3.row 0 rfl, k12]; exact z6.1.2.2.2.2.2.2.2⟩)
