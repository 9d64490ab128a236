theorem call_see {n : Nat} : CallOk n f_BT_see f_M_see := by
  intro M hR
  obtain ⟨h1, h2, h3, h4, h5, h6, h7, h8, h9, h10, h11⟩ := id hR
  obtain ⟨t1, t2, t3, t4⟩ := id h4
  have hS := h1.2.1
  unfold f_BT_see
  refine wq_I (s_take (e := M 78 1) h1 h3.1 t3 t1.1 t1.2 t4 t2) (fun r M1 hz => wq_d ?_)
  have hz' : (r = 0 ∧ ¬ rOk M (M 78 1) ∧ M1 = M) ∨ (r = 1 ∧ rOk M (M 78 1) ∧ M1 64 6 = M 78 1 / 4 ∧ (∀ k : Nat, (k : Int) < M 78 1 / 4 → M1 65 k = M 79 (4 * k) ∧ M1 66 k = M 79 (4 * k + 1) * 256 + M 79 (4 * k + 2) ∧ M1 67 k = M 79 (4 * k + 3)) ∧ Fr seenL M M1) := hz
  clear hz
  rcases hz' with ⟨a1, a2, a3⟩ | ⟨a1, a2, a3, a4, a5⟩
  · rw [a1, a3, e_ref1, bI_s]
    refine wq_t (by decide) (wq_some ?_)
    show wq (f_M_see (up (up M 1 1 0) 77 1 ((up M 1 1 0) 77 1 + 1))) (fun q' => (-1 : Int) = q'.1 ∧ Rl (n + 1) q'.2 q'.2)
    generalize hX : up (up M 1 1 0) 77 1 ((up M 1 1 0) 77 1 + 1) = X
    have FX : Fr [(1, 1), (77, 1)] M X := by rw [← hX]; exact (Fr.rf.up (by simp)).up (by simp)
    unfold f_M_see
    refine wq_d ?_
    generalize hY : up X 78 1 0 = Y
    have FY : Fr [(1, 1), (77, 1), (78, 1)] M Y := by rw [← hY]; exact (FX.cov rfl).up (by simp)
    rw [show X 78 1 = M 78 1 from by rw [FX.row 78 rfl]]
    refine wq_I (s_areRows (V := M) h1 (Rm.fr rmR FY rfl) t1.1 t1.2 (FY.row 79 rfl) t2) (fun r2 M2 ⟨b1, b2⟩ => ?_)
    have b1 : (r2 = 0 ∧ ¬ rOk M (M 78 1)) ∨ (r2 = 1 ∧ rOk M (M 78 1)) := b1
    have b2 : M2 = Y := b2
    rcases b1 with ⟨c1, c2⟩ | ⟨c1, c2⟩
    · rw [c1, b2]
      refine wq_e (by decide) (wq_d (wq_some ⟨rfl, ?_⟩))
      show Rl (n + 1) (up Y 80 1 (Y 80 1 + 1)) (up Y 80 1 (Y 80 1 + 1))
      generalize hN : up Y 80 1 (Y 80 1 + 1) = N
      have hF : Fr [(1, 1), (77, 1), (78, 1), (80, 1)] M N := by rw [← hN]; exact (FY.cov rfl).up (by simp)
      have hu : Ru M N := Ru.of hF rfl
      refine rel_c hR (hF.cov rfl) (h3.2.2.fr hF rfl) (by rw [hF.row 48 rfl]; exact h10.2.2) (h2.ru hu) (nc_ru (h3.2.1.fr hF rfl) hu) ?_ ?_ (h7.cg hu.t (hF.at 78 63 rfl) (hF.at 78 64 rfl) (hF.row 120 rfl) (hF.at 39 9 rfl) (hF.row 44 rfl)) (h8.c (hF.at 78 99 rfl) (hF.row 145 rfl) (hF.at 39 7 rfl) (hF.row 45 rfl)) (h9.cg hu.t (hF.at 78 66 rfl) (hF.row 121 rfl) (hF.at 64 6 rfl) (hF.row 65 rfl) (hF.row 66 rfl) (hF.row 67 rfl))
      · have n1 : N 1 1 = 0 := by rw [← hN, up_row (by decide), ← hY, up_row (by decide), ← hX, up_row (by decide), up_eq]
        have n2 : N 78 1 = 0 := by rw [← hN, up_row (by decide), ← hY, up_eq]
        unfold Tp
        rw [n1, n2, hF.row 79 rfl, hF.row 2 rfl]
        exact ⟨⟨by decide, by decide⟩, t2, rfl, t4⟩
      · unfold Ms at *
        rw [hF.row 0 rfl, hF.at 78 7 rfl, hF.at 78 8 rfl, hF.at 78 65 rfl]
        refine ⟨h5.1, h5.2.1, ?_, h5.2.2.2⟩
        have e5 := h5.2.2.1
        funext j
        have l1 : N 77 j = if j = 1 then M 77 1 + 1 else M 77 j := by
          rw [← hN, up_row (by decide), ← hY, up_row (by decide), ← hX, up_at, up_row (by decide)]
          by_cases c : j = 1
          · rw [if_pos ⟨rfl, c⟩, if_pos c]
          · rw [if_neg (fun z => c z.2), if_neg c]
        have l2 : N 80 j = if j = 1 then M 80 1 + 1 else M 80 j := by
          rw [← hN, up_at, FY.row 80 rfl]
          by_cases c : j = 1
          · rw [if_pos ⟨rfl, c⟩, if_pos c]
          · rw [if_neg (fun z => c z.2), if_neg c]
        rw [l1, l2, e5]
    · exact absurd c2 a2
  · rw [a1]
    have hk := a2.1
    refine wq_e (by decide) (wq_some ?_)
    rw [up_row (by decide), a3]
    show wq (f_M_see (up M1 1 1 0)) (fun q' => M 78 1 / 4 = q'.1 ∧ Rl (n + 1) q'.2 q'.2)
    generalize hX : up M1 1 1 0 = X
    have FX : Fr ((1, 1) :: seenL) M X := by rw [← hX]; exact (a5.cov rfl).up (by simp)
    have F1X : Fr [(1, 1)] M1 X := by rw [← hX]; exact Fr.rf.up (by simp)
    unfold f_M_see
    refine wq_d ?_
    generalize hY : up X 78 1 0 = Y
    have FXY : Fr [(78, 1)] X Y := by rw [← hY]; exact Fr.rf.up (by simp)
    have FY : Fr ((78, 1) :: (1, 1) :: seenL) M Y := (FX.cov rfl).tr (FXY.cov rfl)
    rw [show X 78 1 = M 78 1 from by rw [FX.row 78 rfl]]
    refine wq_I (s_areRows (V := M) h1 (Rm.fr rmR FY rfl) t1.1 t1.2 (FY.row 79 rfl) t2) (fun r2 M2 ⟨b1, b2⟩ => ?_)
    have b1 : (r2 = 0 ∧ ¬ rOk M (M 78 1)) ∨ (r2 = 1 ∧ rOk M (M 78 1)) := b1
    have b2 : M2 = Y := b2
    rcases b1 with ⟨c1, c2⟩ | ⟨c1, c2⟩
    · exact absurd a2 c2
    rw [c1, b2]
    refine wq_t (by decide) (wq_d ?_)
    rw [i32_id (x := M 78 1) (by omega) (by omega), i32_id (x := 4) (by omega) (by omega), tdiv_pos t1.1]
    generalize hZ : up Y 78 66 (M 78 1 / 4) = Z
    have FYZ : Fr [(78, 66)] Y Z := by rw [← hZ]; exact Fr.rf.up (by simp)
    have z66 : Z 78 66 = M 78 1 / 4 := by rw [← hZ, up_eq]
    refine wq_m (s_seeM (M := Z) (n := M 78 1 / 4) (by omega) hk.2.1 z66) ?_
    rintro ⟨r3, N⟩ ⟨d1, d2, d3⟩
    have d1 : r3 = M 78 1 / 4 := d1
    have d2 : ∀ k : Nat, (k : Int) < M 78 1 / 4 → N 121 (3 * k) = Z 79 (4 * k) ∧ N 121 (3 * k + 1) = 256 * Z 79 (4 * k + 1) + Z 79 (4 * k + 2) ∧ N 121 (3 * k + 2) = Z 79 (4 * k + 3) := d2
    have d3 : Fr [(121, 99999)] Z N := d3
    refine ⟨d1.symm, ?_⟩
    show Rl (n + 1) N N
    have FXN : Fr [(78, 1), (78, 66), (121, 99999)] X N := ((FXY.cov rfl).tr (FYZ.cov rfl)).tr (d3.cov rfl)
    have hF : Fr ((121, 99999) :: (78, 66) :: (78, 1) :: (1, 1) :: seenL) M N := (FX.cov rfl).tr (FXN.cov rfl)
    have hu : Ru M N := Ru.of hF rfl
    have z79 : Z 79 = M 79 := by rw [FYZ.row 79 rfl, FY.row 79 rfl]
    rw [z79] at d2
    refine rel_c hR (hF.cov rfl) (h3.2.2.fr hF rfl) (by rw [hF.row 48 rfl]; exact h10.2.2) (h2.ru hu) (nc_ru (h3.2.1.fr hF rfl) hu) ?_ (h5.c (hF.at 78 7 rfl) (hF.at 78 8 rfl) (hF.row 80 rfl) (hF.at 78 65 rfl) (hF.at 0 11 rfl) (hF.at 0 12 rfl) (hF.row 77 rfl) (hF.at 0 13 rfl)) (h7.cg hu.t (hF.at 78 63 rfl) (hF.at 78 64 rfl) (hF.row 120 rfl) (hF.at 39 9 rfl) (hF.row 44 rfl)) (h8.c (hF.at 78 99 rfl) (hF.row 145 rfl) (hF.at 39 7 rfl) (hF.row 45 rfl)) ?_
    · have n1 : N 1 1 = 0 := by rw [FXN.row 1 rfl, ← hX, up_eq]
      have n2 : N 78 1 = 0 := by rw [d3.row 78 rfl, ← hZ, up_col (by decide), ← hY, up_eq]
      unfold Tp
      rw [n1, n2, hF.row 79 rfl, hF.row 2 rfl]
      exact ⟨⟨by decide, by decide⟩, t2, rfl, t4⟩
    · have n66 : N 78 66 = M 78 1 / 4 := by rw [d3.row 78 rfl, z66]
      unfold Se
      rw [n66, FXN.row 64 rfl, FXN.row 65 rfl, FXN.row 66 rfl, FXN.row 67 rfl, F1X.row 64 rfl, F1X.row 65 rfl, F1X.row 66 rfl, F1X.row 67 rfl, rt_nS hu.t]
      refine ⟨⟨by omega, hk.2.1⟩, a3, fun k hk' => ?_⟩
      obtain ⟨e1, e2, e3⟩ := d2 k hk'
      obtain ⟨f1, f2, f3⟩ := a4 k hk'
      have g := a2.2 (k : Int) (by omega) hk'
      rw [show (4 * (k : Int)).toNat = 4 * k by omega, show (4 * (k : Int) + 3).toNat = 4 * k + 3 by omega] at g
      have w0 := t2 (4 * k)
      have w1 := t2 (4 * k + 1)
      have w2 := t2 (4 * k + 2)
      have w3 := t2 (4 * k + 3)
      rw [e1, e2, e3, f1, f2, f3]
      exact ⟨⟨w0.1, g.1⟩, ⟨by omega, by omega⟩, ⟨w3.1, g.2⟩, rfl, by omega, rfl⟩
