theorem s_allReached {V M : Mm} {b w x y z : Int} (hT : Tw V) (hc : Tc V M) (hm : ∀ p k : Int, 0 ≤ p → p < nP V → 0 ≤ k → k < 24 → msk V b w p k (M 63 (p * 24 + k).toNat)) (x0 : 0 ≤ x) (x1 : x < nP V) (y0 : 0 ≤ y) (y1 : y < nP V) (z0 : 0 ≤ z) (z1 : z < nP V) : wq (f_Many_allReached x y z M) (fun q => tf q.1 (aRc V b w x y z) ∧ q.2 = M) := by
  have hP := hT.1
  unfold f_Many_allReached
  rw [e_count0 hc, bI_s]
  unfold f_Many_allReached_L17
  refine wq_lp (fun s => s.1 = x ∧ s.2.1 = y ∧ s.2.2.1 = z ∧ s.2.2.2.1 = (shl32 1 (nP V)) - 1 ∧ (0 ≤ s.2.2.2.2.1 ∧ s.2.2.2.2.1 ≤ 24) ∧ (∀ k : Int, 0 ≤ k → k < s.2.2.2.2.1 → ∀ q : Int, 0 ≤ q → q < nP V → (rea V b (hr V + k + w) x (hr V + k) q ∨ rea V b (hr V + k + w) y (hr V + k) q ∨ rea V b (hr V + k + w) z (hr V + k) q)) ∧ s.2.2.2.2.2 = M) (fun s => (24 - s.2.2.2.2.1).toNat) ?_ FU _ ?_ ?_
  · rintro kH ⟨v1, v2, v3, v4, v5, N⟩ ⟨q1, q2, q3, q4, q5, q6, q7⟩ hk
    have a1 : v1 = x := q1
    have a2 : v2 = y := q2
    have a3 : v3 = z := q3
    have a4 : v4 = (shl32 1 (nP V)) - 1 := q4
    have a5 : 0 ≤ v5 ∧ v5 ≤ 24 := q5
    have a6 : ∀ k : Int, 0 ≤ k → k < v5 → ∀ q : Int, 0 ≤ q → q < nP V → (rea V b (hr V + k + w) x (hr V + k) q ∨ rea V b (hr V + k + w) y (hr V + k) q ∨ rea V b (hr V + k + w) z (hr V + k) q) := q6
    have a7 : N = M := q7
    clear q1 q2 q3 q4 q5 q6 q7
    subst a1 a2 a3 a4 a7
    show wq (f_Many_allReached_B17 (fun v1 v2 v3 v4 v5 M => kH (v1, v2, v3, v4, v5, M)) v1 v2 v3 ((shl32 1 (nP V)) - 1) v5 N) _
    unfold f_Many_allReached_B17
    rw [i32_id (x := 24) (by omega) (by omega), i32_id (x := v5) (by omega) (by omega)]
    refine wq_if (fun c => wq_some ⟨Or.inl ⟨rfl, fun k k0 k1 => a6 k k0 (by omega)⟩, rfl⟩) (fun c => ?_)
    rw [e_cell_in (n := 216) N rfl (by decide) (by omega) (by omega), bI_s, e_cell_in (n := 216) N rfl (by decide) (by omega) (by omega), bI_s, e_cell_in (n := 216) N rfl (by decide) (by omega) (by omega), bI_s]
    have hal := bqI_all (by omega) (by omega) (hm v1 v5 x0 x1 a5.1 (by omega)) (hm v2 v5 y0 y1 a5.1 (by omega)) (hm v3 v5 z0 z1 a5.1 (by omega))
    refine wq_if (fun d => hk _ ⟨rfl, rfl, rfl, rfl, ⟨show 0 ≤ v5 + 1 by omega, show v5 + 1 ≤ 24 by omega⟩, fun k k0 k1 => ?_, rfl⟩ (show (24 - (v5 + 1)).toNat < (24 - v5).toNat by omega)) (fun d => wq_some ⟨Or.inr ⟨rfl, fun g => d (hal.mpr (g v5 a5.1 (by omega)))⟩, rfl⟩)
    have k1 : k < v5 + 1 := k1
    by_cases e : k = v5
    · rw [e]; exact hal.mp d
    · exact a6 k k0 (by omega)
  · exact ⟨rfl, rfl, rfl, rfl, ⟨Int.le_refl _, by show (0 : Int) ≤ 24; decide⟩, fun k k0 k1 => absurd k1 (by show ¬ k < 0; omega), rfl⟩
  · show (24 - (0 : Int)).toNat < 1000000000
    decide
theorem s_mEnough {V M : Mm} {b w x y z : Int} (hT : Tw V) (hc : Rm V M) (hm : ∀ p k : Int, 0 ≤ p → p < nP V → 0 ≤ k → k < 24 → msk V b w p k (M 118 (24 * p + k).toNat)) (x0 : 0 ≤ x) (x1 : x < nP V) (y0 : 0 ≤ y) (y1 : y < nP V) (z0 : 0 ≤ z) (z1 : z < nP V) : wq (f_M_areEnough x y z M) (fun q => tf q.1 (aRc V b w x y z) ∧ q.2 = M) := by
  have hP := hT.1
  unfold f_M_areEnough
  rw [e_mP hc, bI_s]
  unfold f_M_areEnough_L13
  refine wq_lp (fun s => s.1 = x ∧ s.2.1 = y ∧ s.2.2.1 = z ∧ s.2.2.2.1 = (shl32 1 (nP V)) - 1 ∧ (0 ≤ s.2.2.2.2.1 ∧ s.2.2.2.2.1 ≤ 24) ∧ (∀ k : Int, 0 ≤ k → k < s.2.2.2.2.1 → ∀ q : Int, 0 ≤ q → q < nP V → (rea V b (hr V + k + w) x (hr V + k) q ∨ rea V b (hr V + k + w) y (hr V + k) q ∨ rea V b (hr V + k + w) z (hr V + k) q)) ∧ s.2.2.2.2.2 = M) (fun s => (24 - s.2.2.2.2.1).toNat) ?_ FU _ ?_ ?_
  · rintro kH ⟨v1, v2, v3, v4, v5, N⟩ ⟨q1, q2, q3, q4, q5, q6, q7⟩ hk
    have a1 : v1 = x := q1
    have a2 : v2 = y := q2
    have a3 : v3 = z := q3
    have a4 : v4 = (shl32 1 (nP V)) - 1 := q4
    have a5 : 0 ≤ v5 ∧ v5 ≤ 24 := q5
    have a6 : ∀ k : Int, 0 ≤ k → k < v5 → ∀ q : Int, 0 ≤ q → q < nP V → (rea V b (hr V + k + w) x (hr V + k) q ∨ rea V b (hr V + k + w) y (hr V + k) q ∨ rea V b (hr V + k + w) z (hr V + k) q) := q6
    have a7 : N = M := q7
    clear q1 q2 q3 q4 q5 q6 q7
    subst a1 a2 a3 a4 a7
    show wq (f_M_areEnough_B13 (fun v1 v2 v3 v4 v5 M => kH (v1, v2, v3, v4, v5, M)) v1 v2 v3 ((shl32 1 (nP V)) - 1) v5 N) _
    unfold f_M_areEnough_B13
    rw [i32_id (x := 24) (by omega) (by omega), i32_id (x := v5) (by omega) (by omega)]
    refine wq_if (fun c => wq_some ⟨Or.inl ⟨rfl, fun k k0 k1 => a6 k k0 (by omega)⟩, rfl⟩) (fun c => ?_)
    rw [i32_id (x := 24 * v1 + v5) (by omega) (by omega), i32_id (x := 24 * v2 + v5) (by omega) (by omega), i32_id (x := 24 * v3 + v5) (by omega) (by omega)]
    have hal := bqI_all (by omega) (by omega) (hm v1 v5 x0 x1 a5.1 (by omega)) (hm v2 v5 y0 y1 a5.1 (by omega)) (hm v3 v5 z0 z1 a5.1 (by omega))
    refine wq_g (by omega) (wq_g (by omega) (wq_g (by omega) (wq_if (fun d => hk _ ⟨rfl, rfl, rfl, rfl, ⟨show 0 ≤ v5 + 1 by omega, show v5 + 1 ≤ 24 by omega⟩, fun k k0 k1 => ?_, rfl⟩ (show (24 - (v5 + 1)).toNat < (24 - v5).toNat by omega)) (fun d => wq_some ⟨Or.inr ⟨rfl, fun g => d (hal.mpr (g v5 a5.1 (by omega)))⟩, rfl⟩))))
    have k1 : k < v5 + 1 := k1
    by_cases e : k = v5
    · rw [e]; exact hal.mp d
    · exact a6 k k0 (by omega)
  · exact ⟨rfl, rfl, rfl, rfl, ⟨Int.le_refl _, by show (0 : Int) ≤ 24; decide⟩, fun k k0 k1 => absurd k1 (by show ¬ k < 0; omega), rfl⟩
  · show (24 - (0 : Int)).toNat < 1000000000
    decide
def fdL : List (Nat × Nat) := [(60, 99999)] ++ lbL
theorem e_keepFound (x y z c : Int) (M : Mm) : f_Many_keepFound x y z c M = some (c, up (up (up M 60 0 x) 60 1 y) 60 2 z) := by
  unfold f_Many_keepFound
  rw [e_set (n := 3) M rfl (by decide) (by decide) (by decide), bV_s, e_set (n := 3) _ rfl (by decide) (by decide) (by decide), bV_s, e_set (n := 3) _ rfl (by decide) (by decide) (by decide), bV_s]
  rfl
/-- the search of one side ends so -/
def fdQ (V : Mm) (b w : Int) (M0 : Mm) (q : Int × Mm) : Prop := ∃ x, dcA (aRc V b w) (nP V) x ∧ q.1 = x.1 ∧ (x.1 ≠ -1 → q.2 60 0 = x.2.1 ∧ q.2 60 1 = x.2.2.1 ∧ q.2 60 2 = x.2.2.2) ∧ Fr [(60, 99999)] M0 q.2
theorem fdQ_of {V : Mm} {b w : Int} {M0 : Mm} {c x y z : Int} (h : dcA (aRc V b w) (nP V) (c, x, y, z)) : fdQ V b w M0 (c, up (up (up M0 60 0 x) 60 1 y) 60 2 z) := by
  refine ⟨_, h, rfl, fun _ => ⟨?_, ?_, ?_⟩, ((Fr.rf.up (by simp)).up (by simp)).up (by simp)⟩
  · show up (up (up M0 60 0 x) 60 1 y) 60 2 z 60 0 = x
    rw [up_col (by decide), up_col (by decide), up_eq]
  · show up (up (up M0 60 0 x) 60 1 y) 60 2 z 60 1 = y
    rw [up_col (by decide), up_eq]
  · show up (up (up M0 60 0 x) 60 1 y) 60 2 z 60 2 = z
    rw [up_eq]
theorem s_findDoctors {V M : Mm} {b w : Int} (hT : Tw V) (hN : Nw V) (h : Cl V M) (hb1 : 1 ≤ b) (hb2 : b ≤ 99) (w0 : 0 ≤ w) (w1 : w ≤ 400) : wq (f_Many_findDoctors b w M) (fun q => ∃ x, (dcA (aRc V b w) (nP V) x ∧ q.1 = x.1 ∧ (x.1 ≠ -1 → q.2 60 0 = x.2.1 ∧ q.2 60 1 = x.2.2.1 ∧ q.2 60 2 = x.2.2.2)) ∧ Cl V q.2 ∧ Fr fdL M q.2) := by
  have hP := hT.1
  unfold f_Many_findDoctors
  refine wq_V (s_lookBack hT hN h hb1 hb2 w0 w1) (fun A ⟨m1, m2, m3⟩ => ?_)
  rw [e_count0 m2.1, bI_s]
  suffices hq : wq (f_Many_findDoctors_L18 (fun v3 M6 => f_Many_findDoctors_L58 (fun v3 M10 => f_Many_findDoctors_L116 (fun v4 v5 v6 M15 => bI (f_Many_keepFound v4 v5 v6 3 M15) (fun r17 M16 =>
              some (r17, M16))) FU (v3, 0, M10)) (fun v4 v5 M18 => bI (f_Many_keepFound v4 v5 v5 2 M18) (fun r20 M19 =>
          some (r20, M19))) FU (v3, 0, M6)) (fun v4 M21 => bI (f_Many_keepFound v4 v4 v4 1 M21) (fun r23 M22 =>
      some (r23, M22))) FU (nP V, 0, A)) (fdQ V b w A) by
    refine wq_m hq (fun q hh => ?_)
    obtain ⟨x, x1, x2, x3, x4⟩ := hh
    exact ⟨x, ⟨x1, x2, x3⟩, m2.fr x4 rfl rfl rfl, (m3.cov rfl : Fr fdL M A).tr (x4.cov rfl)⟩
  have hR : ∀ x y z : Int, 0 ≤ x → x < nP V → 0 ≤ y → y < nP V → 0 ≤ z → z < nP V → wq (f_Many_allReached x y z A) (fun q => tf q.1 (aRc V b w x y z) ∧ q.2 = A) := fun x y z x0 x1 y0 y1 z0 z1 => s_allReached hT m2.1 m1 x0 x1 y0 y1 z0 z1
  have hP1 : i32 (nP V) = nP V := i32_id (by omega) (by omega)
  unfold f_Many_findDoctors_L18
  refine wq_lp (fun s => s.1 = nP V ∧ (0 ≤ s.2.1 ∧ s.2.1 ≤ nP V) ∧ (∀ a, 0 ≤ a → a < s.2.1 → ¬ aRc V b w a a a) ∧ s.2.2 = A) (fun s => (nP V - s.2.1).toNat) ?_ FU _ ?_ ?_
  · rintro kH ⟨v3, v4, N⟩ ⟨q1, q2, q3, q4⟩ hk
    have a1 : v3 = nP V := q1
    have a2 : 0 ≤ v4 ∧ v4 ≤ nP V := q2
    have a3 : ∀ a, 0 ≤ a → a < v4 → ¬ aRc V b w a a a := q3
    have a4 : N = A := q4
    clear q1 q2 q3 q4
    subst a1 a4
    show wq (f_Many_findDoctors_B18 (fun v3 v4 M => kH (v3, v4, M)) _ _ (nP V) v4 N) _
    unfold f_Many_findDoctors_B18
    rw [hP1, i32_id (x := v4) (by omega) (by omega)]
    refine wq_if (fun c => ?_) (fun c => ?_)
    · have n1 : ∀ a, 0 ≤ a → a < nP V → ¬ aRc V b w a a a := fun a g0 g1 => a3 a g0 (by omega)
      dsimp only
      unfold f_Many_findDoctors_L58
      refine wq_lp (fun s => s.1 = nP V ∧ (0 ≤ s.2.1 ∧ s.2.1 ≤ nP V) ∧ (∀ a b', 0 ≤ a → a < s.2.1 → a < b' → b' < nP V → ¬ aRc V b w a b' b') ∧ s.2.2 = N) (fun s => (nP V - s.2.1).toNat) ?_ FU _ ?_ ?_
      · rintro kG ⟨u3, u4, K⟩ ⟨p1, p2, p3, p4⟩ hg
        have b1 : u3 = nP V := p1
        have b2 : 0 ≤ u4 ∧ u4 ≤ nP V := p2
        have b3 : ∀ a b', 0 ≤ a → a < u4 → a < b' → b' < nP V → ¬ aRc V b w a b' b' := p3
        have b4 : K = N := p4
        clear p1 p2 p3 p4
        subst b1 b4
        show wq (f_Many_findDoctors_B58 (fun v3 v4 M => kG (v3, v4, M)) _ _ (nP V) u4 K) _
        unfold f_Many_findDoctors_B58
        rw [hP1, i32_id (x := u4) (by omega) (by omega)]
        refine wq_if (fun d => ?_) (fun d => ?_)
        · have n2 : ∀ a b', 0 ≤ a → a < b' → b' < nP V → ¬ aRc V b w a b' b' := fun a b' g0 g1 g2 => b3 a b' g0 (by omega) g1 g2
          dsimp only
          unfold f_Many_findDoctors_L116
          refine wq_lp (fun s => s.1 = nP V ∧ (0 ≤ s.2.1 ∧ s.2.1 ≤ nP V) ∧ (∀ a b' c', 0 ≤ a → a < s.2.1 → a < b' → b' < c' → c' < nP V → ¬ aRc V b w a b' c') ∧ s.2.2 = K) (fun s => (nP V - s.2.1).toNat) ?_ FU _ ?_ ?_
          · rintro kI ⟨t3, t4, X⟩ ⟨r1, r2, r3, r4⟩ hi
            have c1 : t3 = nP V := r1
            have c2 : 0 ≤ t4 ∧ t4 ≤ nP V := r2
            have c3 : ∀ a b' c', 0 ≤ a → a < t4 → a < b' → b' < c' → c' < nP V → ¬ aRc V b w a b' c' := r3
            have c4 : X = K := r4
            clear r1 r2 r3 r4
            subst c1 c4
            show wq (f_Many_findDoctors_B116 (fun v3 v4 M => kI (v3, v4, M)) _ (nP V) t4 X) _
            unfold f_Many_findDoctors_B116
            rw [hP1, i32_id (x := t4) (by omega) (by omega)]
            refine wq_if (fun e => wq_some ⟨(-1, 0, 0, 0), Or.inr ⟨n1, Or.inr ⟨n2, Or.inr ⟨fun a b' c' g0 g1 g2 g3 => c3 a b' c' g0 (by omega) g1 g2 g3, rfl⟩⟩⟩, rfl, fun z => absurd rfl z, Fr.rf⟩) (fun e => ?_)
            unfold f_Many_findDoctors_L128
            refine wq_lp (fun s => s.1 = nP V ∧ s.2.1 = t4 ∧ (t4 + 1 ≤ s.2.2.1 ∧ s.2.2.1 ≤ nP V) ∧ (∀ b' c', t4 < b' → b' < s.2.2.1 → b' < c' → c' < nP V → ¬ aRc V b w t4 b' c') ∧ s.2.2.2 = X) (fun s => (nP V - s.2.2.1).toNat) ?_ FU _ ?_ ?_
            · rintro kJ ⟨y3, y4, y5, Y⟩ ⟨r1, r2, r3, r4, r5⟩ hj
              have d1 : y3 = nP V := r1
              have d2 : y4 = t4 := r2
              have d3 : t4 + 1 ≤ y5 ∧ y5 ≤ nP V := r3
              have d4 : ∀ b' c', t4 < b' → b' < y5 → b' < c' → c' < nP V → ¬ aRc V b w t4 b' c' := r4
              have d5 : Y = X := r5
              clear r1 r2 r3 r4 r5
              subst d1 d2 d5
              show wq (f_Many_findDoctors_B128 (fun v3 v4 v5 M => kJ (v3, v4, v5, M)) _ _ (nP V) y4 y5 Y) _
              unfold f_Many_findDoctors_B128
              rw [hP1, i32_id (x := y5) (by omega) (by omega)]
              refine wq_if (fun f => hi _ ⟨rfl, ⟨show 0 ≤ y4 + 1 by omega, show y4 + 1 ≤ nP V by omega⟩, fun a b' c' g0 g1 g2 g3 g4 => ?_, rfl⟩ (show (nP V - (y4 + 1)).toNat < (nP V - y4).toNat by omega)) (fun f => ?_)
              · have g1 : a < y4 + 1 := g1
                by_cases ea : a = y4
                · subst ea; exact d4 b' c' g2 (by omega) g3 g4
                · exact c3 a b' c' g0 (by omega) g2 g3 g4
              · unfold f_Many_findDoctors_L140
                refine wq_lp (fun s => s.1 = nP V ∧ s.2.1 = y4 ∧ s.2.2.1 = y5 ∧ (y5 + 1 ≤ s.2.2.2.1 ∧ s.2.2.2.1 ≤ nP V) ∧ (∀ c', y5 < c' → c' < s.2.2.2.1 → ¬ aRc V b w y4 y5 c') ∧ s.2.2.2.2 = Y) (fun s => (nP V - s.2.2.2.1).toNat) ?_ FU _ ?_ ?_
                · rintro kL ⟨z3, z4, z5, z6, Z⟩ ⟨r1, r2, r3, r4, r5, r6⟩ hl
                  have e1 : z3 = nP V := r1
                  have e2 : z4 = y4 := r2
                  have e3 : z5 = y5 := r3
                  have e4 : y5 + 1 ≤ z6 ∧ z6 ≤ nP V := r4
                  have e5 : ∀ c', y5 < c' → c' < z6 → ¬ aRc V b w y4 y5 c' := r5
                  have e6 : Z = Y := r6
                  clear r1 r2 r3 r4 r5 r6
                  subst e1 e2 e3 e6
                  show wq (f_Many_findDoctors_B140 (fun v3 v4 v5 v6 M => kL (v3, v4, v5, v6, M)) _ _ (nP V) z4 z5 z6 Z) _
                  unfold f_Many_findDoctors_B140
                  rw [hP1, i32_id (x := z6) (by omega) (by omega)]
                  refine wq_if (fun g => hj _ ⟨rfl, rfl, ⟨show z4 + 1 ≤ z5 + 1 by omega, show z5 + 1 ≤ nP V by omega⟩, fun b' c' g1 g2 g3 g4 => ?_, rfl⟩ (show (nP V - (z5 + 1)).toNat < (nP V - z5).toNat by omega)) (fun g => ?_)
                  · have g2 : b' < z5 + 1 := g2
                    by_cases eb : b' = z5
                    · subst eb; exact e5 c' g3 (by omega)
                    · exact d4 b' c' g1 (by omega) g3 g4
                  · refine wq_I (hR z4 z5 z6 c2.1 (by omega) (by omega) (by omega) (by omega) (by omega)) (fun r N2 ⟨h1, h2⟩ => ?_)
                    have h2 : N2 = Z := h2
                    subst h2
                    rcases h1 with ⟨h1, h3⟩ | ⟨h1, h3⟩
                    · have h1 : r = 1 := h1
                      subst h1
                      refine wq_e (by decide) ?_
                      dsimp only
                      rw [e_keepFound, bI_s]
                      refine wq_some (fdQ_of (Or.inr ⟨n1, Or.inr ⟨n2, Or.inl ⟨z4, z5, z6, ⟨c2.1, by omega, by omega, by omega⟩, h3, fun a' b' c' g1 g2 g3 g4 g5 => ?_, rfl⟩⟩⟩))
                      by_cases ea : a' = z4
                      · subst ea
                        by_cases eb : b' = z5
                        · subst eb; exact e5 c' g3 (by omega)
                        · exact d4 b' c' g2 (by omega) g3 g4
                      · exact c3 a' b' c' g1 (by omega) g2 g3 g4
                    · have h1 : r = 0 := h1
                      subst h1
                      refine wq_t (by decide) (hl _ ⟨rfl, rfl, rfl, ⟨show z5 + 1 ≤ z6 + 1 by omega, show z6 + 1 ≤ nP V by omega⟩, fun c' g1 g2 => ?_, rfl⟩ (show (nP V - (z6 + 1)).toNat < (nP V - z6).toNat by omega))
                      have g2 : c' < z6 + 1 := g2
                      by_cases ec : c' = z6
                      · subst ec; exact h3
                      · exact e5 c' g1 (by omega)
                · exact ⟨rfl, rfl, rfl, ⟨Int.le_refl _, by show y5 + 1 ≤ nP V; omega⟩, fun c' g1 g2 => absurd g2 (by show ¬ c' < y5 + 1; omega), rfl⟩
                · show (nP V - (y5 + 1)).toNat < 1000000000
                  omega
            · exact ⟨rfl, rfl, ⟨Int.le_refl _, by show t4 + 1 ≤ nP V; omega⟩, fun b' c' g1 g2 => absurd g2 (by show ¬ b' < t4 + 1; omega), rfl⟩
            · show (nP V - (t4 + 1)).toNat < 1000000000
              omega
          · exact ⟨rfl, ⟨Int.le_refl _, hP.1⟩, fun a b' c' g0 g1 => absurd g1 (by show ¬ a < 0; omega), rfl⟩
          · show (nP V - 0).toNat < 1000000000
            omega
        · unfold f_Many_findDoctors_L70
          refine wq_lp (fun s => s.1 = nP V ∧ s.2.1 = u4 ∧ (u4 + 1 ≤ s.2.2.1 ∧ s.2.2.1 ≤ nP V) ∧ (∀ b', u4 < b' → b' < s.2.2.1 → ¬ aRc V b w u4 b' b') ∧ s.2.2.2 = K) (fun s => (nP V - s.2.2.1).toNat) ?_ FU _ ?_ ?_
          · rintro kJ ⟨y3, y4, y5, Y⟩ ⟨r1, r2, r3, r4, r5⟩ hj
            have d1 : y3 = nP V := r1
            have d2 : y4 = u4 := r2
            have d3 : u4 + 1 ≤ y5 ∧ y5 ≤ nP V := r3
            have d4 : ∀ b', u4 < b' → b' < y5 → ¬ aRc V b w u4 b' b' := r4
            have d5 : Y = K := r5
            clear r1 r2 r3 r4 r5
            subst d1 d2 d5
            show wq (f_Many_findDoctors_B70 (fun v3 v4 v5 M => kJ (v3, v4, v5, M)) _ _ (nP V) y4 y5 Y) _
            unfold f_Many_findDoctors_B70
            rw [hP1, i32_id (x := y5) (by omega) (by omega)]
            refine wq_if (fun g => hg _ ⟨rfl, ⟨show 0 ≤ y4 + 1 by omega, show y4 + 1 ≤ nP V by omega⟩, fun a b' g0 g1 g2 g3 => ?_, rfl⟩ (show (nP V - (y4 + 1)).toNat < (nP V - y4).toNat by omega)) (fun g => ?_)
            · have g1 : a < y4 + 1 := g1
              by_cases ea : a = y4
              · subst ea; exact d4 b' g2 (by omega)
              · exact b3 a b' g0 (by omega) g2 g3
            · refine wq_I (hR y4 y5 y5 b2.1 (by omega) (by omega) (by omega) (by omega) (by omega)) (fun r N2 ⟨h1, h2⟩ => ?_)
              have h2 : N2 = Y := h2
              subst h2
              rcases h1 with ⟨h1, h3⟩ | ⟨h1, h3⟩
              · have h1 : r = 1 := h1
                subst h1
                refine wq_e (by decide) ?_
                dsimp only
                rw [e_keepFound, bI_s]
                refine wq_some (fdQ_of (Or.inr ⟨n1, Or.inl ⟨y4, y5, ⟨b2.1, by omega, by omega⟩, h3, fun a' b' g1 g2 g3 g4 => ?_, rfl⟩⟩))
                by_cases ea : a' = y4
                · subst ea; exact d4 b' g2 (by omega)
                · exact b3 a' b' g1 (by omega) g2 g3
              · have h1 : r = 0 := h1
                subst h1
                refine wq_t (by decide) (hj _ ⟨rfl, rfl, ⟨show y4 + 1 ≤ y5 + 1 by omega, show y5 + 1 ≤ nP V by omega⟩, fun b' g1 g2 => ?_, rfl⟩ (show (nP V - (y5 + 1)).toNat < (nP V - y5).toNat by omega))
                have g2 : b' < y5 + 1 := g2
                by_cases eb : b' = y5
                · subst eb; exact h3
                · exact d4 b' g1 (by omega)
          · exact ⟨rfl, rfl, ⟨Int.le_refl _, by show u4 + 1 ≤ nP V; omega⟩, fun b' g1 g2 => absurd g2 (by show ¬ b' < u4 + 1; omega), rfl⟩
          · show (nP V - (u4 + 1)).toNat < 1000000000
            omega
      · exact ⟨rfl, ⟨Int.le_refl _, hP.1⟩, fun a b' g0 g1 => absurd g1 (by show ¬ a < 0; omega), rfl⟩
      · show (nP V - 0).toNat < 1000000000
        omega
    · refine wq_I (hR v4 v4 v4 a2.1 (by omega) a2.1 (by omega) a2.1 (by omega)) (fun r N2 ⟨h1, h2⟩ => ?_)
      have h2 : N2 = N := h2
      subst h2
      rcases h1 with ⟨h1, h3⟩ | ⟨h1, h3⟩
      · have h1 : r = 1 := h1
        subst h1
        refine wq_e (by decide) ?_
        dsimp only
        rw [e_keepFound, bI_s]
        exact wq_some (fdQ_of (Or.inl ⟨v4, ⟨a2.1, by omega⟩, h3, a3, rfl⟩))
      · have h1 : r = 0 := h1
        subst h1
        refine wq_t (by decide) (hk _ ⟨rfl, ⟨show 0 ≤ v4 + 1 by omega, show v4 + 1 ≤ nP V by omega⟩, fun a g1 g2 => ?_, rfl⟩ (show (nP V - (v4 + 1)).toNat < (nP V - v4).toNat by omega))
        have g2 : a < v4 + 1 := g2
        by_cases ea : a = v4
        · subst ea; exact h3
        · exact a3 a g1 (by omega)
  · exact ⟨rfl, ⟨Int.le_refl _, hP.1⟩, fun a g0 g1 => absurd g1 (by show ¬ a < 0; omega), rfl⟩
  · show (nP V - 0).toNat < 1000000000
    omega
