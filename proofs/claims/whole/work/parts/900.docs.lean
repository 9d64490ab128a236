def rchL : List (Nat × Nat) := [(118, 99999), (110, 99999), (78, 43), (106, 99999), (107, 99999)]
theorem s_reaches {V M : Mm} {b w : Int} (hT : Tw V) (hN : Nw V) (hm : Rm V M) (hb1 : 1 ≤ b) (hb2 : b ≤ 99) (w0 : 0 ≤ w) (w1 : w ≤ 400) : wq (f_M_reaches b w M) (fun M' => (∀ p k : Int, 0 ≤ p → p < nP V → 0 ≤ k → k < 24 → msk V b w p k (M' 118 (24 * p + k).toNat)) ∧ Rm V M' ∧ Fr ((78, 47) :: rchL) M M') := by
  have hP := hT.1
  have hh := hN.1
  unfold f_M_reaches
  refine wq_d ?_
  generalize hA : up M 78 47 0 = A
  have FA : Fr [(78, 47)] M A := by rw [← hA]; exact Fr.rf.up (by simp)
  have BA : bzM A [] := ⟨by rw [← hA]; exact up_eq M 78 47 0, fun k q hq => by simp at hq⟩
  have mA : Rm V A := hm.fr FA rfl
  suffices hq : wq (f_M_reaches_L7 FU (b, w, 0, A)) (fun M' => (∀ p k : Int, 0 ≤ p → p < nP V → 0 ≤ k → k < 24 → msk V b w p k (M' 118 (24 * p + k).toNat)) ∧ Fr rchL A M') by
    refine wq_m hq (fun M' ⟨x1, x2⟩ => ⟨x1, mA.fr x2 rfl, (FA.cov rfl : Fr ((78, 47) :: rchL) M A).tr (x2.cov rfl)⟩)
  unfold f_M_reaches_L7
  refine wq_lp (fun z => z.1 = b ∧ z.2.1 = w ∧ (0 ≤ z.2.2.1 ∧ z.2.2.1 ≤ nP V) ∧ (∀ p k : Int, 0 ≤ p → p < z.2.2.1 → 0 ≤ k → k < 24 → msk V b w p k (z.2.2.2 118 (24 * p + k).toNat)) ∧ Fr rchL A z.2.2.2) (fun z => (nP V - z.2.2.1).toNat) ?_ FU _ ?_ ?_
  · rintro kH ⟨v1, v2, v3, N⟩ ⟨q1, q2, q3, q4, q5⟩ hk
    have a1 : v1 = b := q1
    have a2 : v2 = w := q2
    have a3 : 0 ≤ v3 ∧ v3 ≤ nP V := q3
    have a4 : ∀ p k : Int, 0 ≤ p → p < v3 → 0 ≤ k → k < 24 → msk V b w p k (N 118 (24 * p + k).toNat) := q4
    have a5 : Fr rchL A N := q5
    clear q1 q2 q3 q4 q5
    subst a1 a2
    have mN : Rm V N := mA.fr a5 rfl
    show wq (f_M_reaches_B7 (fun v1 v2 v3 M => kH (v1, v2, v3, M)) v1 v2 v3 N) _
    unfold f_M_reaches_B7
    rw [e_mP mN, bI_s, i32_id (x := nP V) (by omega) (by omega), i32_id (x := v3) (by omega) (by omega)]
    refine wq_if (fun c => wq_some ⟨fun p k p0 p1 => a4 p k p0 (by omega), a5⟩) (fun c => ?_)
    unfold f_M_reaches_L18
    refine wq_lp (fun z => z.1 = v1 ∧ z.2.1 = v2 ∧ z.2.2.1 = v3 ∧ (0 ≤ z.2.2.2.1 ∧ z.2.2.2.1 ≤ 24) ∧ (∀ p k : Int, 0 ≤ p → (p < v3 ∨ (p = v3 ∧ k < z.2.2.2.1)) → 0 ≤ k → k < 24 → msk V v1 v2 p k (z.2.2.2.2 118 (24 * p + k).toNat)) ∧ Fr rchL A z.2.2.2.2) (fun z => (24 - z.2.2.2.1).toNat) ?_ FU _ ?_ ?_
    · rintro kG ⟨u1, u2, u3, u4, K⟩ ⟨p1, p2, p3, p4, p5, p6⟩ hg
      have b1 : u1 = v1 := p1
      have b2 : u2 = v2 := p2
      have b3 : u3 = v3 := p3
      have b4 : 0 ≤ u4 ∧ u4 ≤ 24 := p4
      have b5 : ∀ p k : Int, 0 ≤ p → (p < v3 ∨ (p = v3 ∧ k < u4)) → 0 ≤ k → k < 24 → msk V v1 v2 p k (K 118 (24 * p + k).toNat) := p5
      have b6 : Fr rchL A K := p6
      clear p1 p2 p3 p4 p5 p6
      subst b1 b2 b3
      have mK : Rm V K := mA.fr b6 rfl
      show wq (f_M_reaches_B18 (fun v1 v2 v3 v4 M => kG (v1, v2, v3, v4, M)) _ u1 u2 u3 u4 K) _
      unfold f_M_reaches_B18
      rw [i32_id (x := 24) (by omega) (by omega), i32_id (x := u4) (by omega) (by omega)]
      refine wq_if (fun d => ?_) (fun d => ?_)
      · exact hk _ ⟨rfl, rfl, ⟨show 0 ≤ u3 + 1 by omega, show u3 + 1 ≤ nP V by omega⟩, fun p k p0 p1 k0 k1 => b5 p k p0 (by have p1 : p < u3 + 1 := p1; omega) k0 k1, b6⟩ (show (nP V - (u3 + 1)).toNat < (nP V - u3).toNat by omega)
      · have e108 : K 108 0 = hr V := by rw [mK.2.2.2.2.2.2]; rfl
        rw [e108]
        refine wq_V (s_spreads (R := []) hT hN mK (BA.fr b6 rfl) rdOk0 (by omega) (by omega) (show 0 ≤ hr V + u4 by omega) (show hr V + u4 ≤ hr V + u4 + u2 by omega) (by omega) ⟨a3.1, by omega⟩ (by decide) (by decide)) (fun X ⟨x1, x2, x3⟩ => ?_)
        have FX : Fr rchL A X := b6.tr (x3.cov rfl)
        unfold f_M_reaches_L55
        refine wq_lp (fun z => z.1 = u1 ∧ z.2.1 = u2 ∧ z.2.2.1 = u3 ∧ z.2.2.2.1 = u4 ∧ z.2.2.2.2.1 = hr V + u4 ∧ (0 ≤ z.2.2.2.2.2.2.1 ∧ z.2.2.2.2.2.2.1 ≤ nP V) ∧ bqI (nP V) z.2.2.2.2.2.2.1 (fun q => rea V u1 (hr V + u4 + u2) u3 (hr V + u4) q) z.2.2.2.2.2.1 ∧ z.2.2.2.2.2.2.2 = X) (fun z => (nP V - z.2.2.2.2.2.2.1).toNat) ?_ FU _ ?_ ?_
        · rintro kI ⟨t1, t2, t3, t4, t5, t6, t7, Y⟩ ⟨r1, r2, r3, r4, r5, r6, r7, r8⟩ hi
          have c1 : t1 = u1 := r1
          have c2 : t2 = u2 := r2
          have c3 : t3 = u3 := r3
          have c4 : t4 = u4 := r4
          have c5 : t5 = hr V + u4 := r5
          have c6 : 0 ≤ t7 ∧ t7 ≤ nP V := r6
          have c7 : bqI (nP V) t7 (fun q => rea V u1 (hr V + u4 + u2) u3 (hr V + u4) q) t6 := r7
          have c8 : Y = X := r8
          clear r1 r2 r3 r4 r5 r6 r7 r8
          subst c1 c2 c3 c4 c5 c8
          show wq (f_M_reaches_B55 (fun v1 v2 v3 v4 v5 v6 v7 M => kI (v1, v2, v3, v4, v5, v6, v7, M)) _ t1 t2 t3 t4 (hr V + t4) t6 t7 Y) _
          unfold f_M_reaches_B55
          rw [e_mP x2, bI_s, i32_id (x := nP V) (by omega) (by omega), i32_id (x := t7) (by omega) (by omega)]
          refine wq_if (fun g => ?_) (fun g => ?_)
          · have e7 : t7 = nP V := by omega
            rw [e7] at c7
            dsimp only
            rw [i32_id (x := 24 * t3 + t4) (by omega) (by omega)]
            refine wq_g (by omega) (wq_d (hg _ ⟨rfl, rfl, rfl, ⟨show 0 ≤ t4 + 1 by omega, show t4 + 1 ≤ 24 by omega⟩, fun p k p0 p1 k0 k1 => ?_, FX.up (by simp [rchL])⟩ (show (24 - (t4 + 1)).toNat < (24 - t4).toNat by omega)))
            have p1 : p < t3 ∨ (p = t3 ∧ k < t4 + 1) := p1
            show msk V t1 t2 p k (up Y 118 (24 * t3 + t4).toNat t6 118 (24 * p + k).toNat)
            rw [up_at]
            by_cases e : p = t3 ∧ k = t4
            · rw [if_pos ⟨rfl, by rw [e.1, e.2]⟩, e.1, e.2]
              exact c7
            · rw [if_neg (fun z => e (by omega)), x3.row 118 rfl]
              exact b5 p k p0 (by omega) k0 k1
          · have hr1 := isA_rea hT (show hr V + t4 ≤ hr V + t4 + t2 by omega) (by omega) x1 c6.1 (by omega : t7 < 9)
            have hr2 := Sp_rng hT (show hr V + t4 ≤ hr V + t4 + t2 by omega) x1.2.2 c6.1 (by omega : t7 < 9)
            have ea : Y 110 t7.toNat = ar Y 110 t7 := rfl
            have bl := bqI_lt (by omega) c7
            rw [ea, i32_id (x := hr V + t4 + t2) (by omega) (by omega), i32_id (x := ar Y 110 t7) (by omega) (by omega)]
            refine wq_g (by omega) (wq_if (fun y => ?_) (fun y => ?_))
            · refine hi _ ⟨rfl, rfl, rfl, rfl, rfl, ⟨show 0 ≤ t7 + 1 by omega, show t7 + 1 ≤ nP V by omega⟩, bqI_n c7 (fun z => ?_), rfl⟩ (show (nP V - (t7 + 1)).toNat < (nP V - t7).toNat by omega)
              have := hr1.mpr z
              omega
            · exact hi _ ⟨rfl, rfl, rfl, rfl, rfl, ⟨show 0 ≤ t7 + 1 by omega, show t7 + 1 ≤ nP V by omega⟩, bqI_y (by omega) c7 c6.1 (by omega) (hr1.mp (by omega)), rfl⟩ (show (nP V - (t7 + 1)).toNat < (nP V - t7).toNat by omega)
        · exact ⟨rfl, rfl, rfl, rfl, rfl, ⟨Int.le_refl _, hP.1⟩, bqI_0 _ _, rfl⟩
        · show (nP V - 0).toNat < 1000000000
          omega
    · exact ⟨rfl, rfl, rfl, ⟨Int.le_refl _, by show (0 : Int) ≤ 24; decide⟩, fun p k p0 p1 k0 k1 => a4 p k p0 (by have p1 : p < v3 ∨ (p = v3 ∧ k < 0) := p1; omega) k0 k1, a5⟩
    · show (24 - (0 : Int)).toNat < 1000000000
      decide
  · exact ⟨rfl, rfl, ⟨Int.le_refl _, hP.1⟩, fun p k p0 p1 => absurd p1 (by show ¬ p < 0; omega), Fr.rf⟩
  · show (nP V - 0).toNat < 1000000000
    omega
def sekL : List (Nat × Nat) := [(78, 60), (119, 99999)]
/-- some are found -/
def skF (V : Mm) (b w : Int) (N : Mm) : Prop := ∃ x, dcA (aRc V b w) (nP V) x ∧ x.1 ≠ -1 ∧ (-1 ≤ x.1 ∧ x.1 ≤ 3) ∧ N 78 60 = x.1 ∧ N 119 0 = x.2.1 ∧ N 119 1 = x.2.2.1 ∧ N 119 2 = x.2.2.2
theorem s_isFound {V M : Mm} {b w x y z : Int} (hT : Tw V) (hc : Rm V M) (hm : ∀ p k : Int, 0 ≤ p → p < nP V → 0 ≤ k → k < 24 → msk V b w p k (M 118 (24 * p + k).toNat)) (x0 : 0 ≤ x) (x1 : x < nP V) (y0 : 0 ≤ y) (y1 : y < nP V) (z0 : 0 ≤ z) (z1 : z < nP V) : wq (f_M_isFound x y z M) (fun q => (q.1 = 1 ∧ aRc V b w x y z ∧ q.2 = up (up (up M 119 0 x) 119 1 y) 119 2 z) ∨ (q.1 = 0 ∧ ¬ aRc V b w x y z ∧ q.2 = M)) := by
  unfold f_M_isFound
  refine wq_I (s_mEnough hT hc hm x0 x1 y0 y1 z0 z1) (fun r M1 ⟨h1, h2⟩ => ?_)
  have h2 : M1 = M := h2
  subst h2
  rcases h1 with ⟨h1, h3⟩ | ⟨h1, h3⟩
  · have h1 : r = 1 := h1
    subst h1
    exact wq_t (by decide) (wq_d (wq_d (wq_d (wq_some (Or.inl ⟨rfl, h3, rfl⟩)))))
  · have h1 : r = 0 := h1
    subst h1
    exact wq_e (fun z => z (by decide)) (wq_some (Or.inr ⟨rfl, h3, rfl⟩))
theorem skF_of {V : Mm} {b w : Int} {M0 : Mm} {c x y z : Int} (hc : c ≠ -1) (hc2 : -1 ≤ c ∧ c ≤ 3) (h : dcA (aRc V b w) (nP V) (c, x, y, z)) : skF V b w (up (up (up (up M0 119 0 x) 119 1 y) 119 2 z) 78 60 c) := by
  refine ⟨_, h, hc, hc2, by rw [up_eq], ?_, ?_, ?_⟩
  · show up (up (up (up M0 119 0 x) 119 1 y) 119 2 z) 78 60 c 119 0 = x
    rw [up_row (by decide), up_col (by decide), up_col (by decide), up_eq]
  · show up (up (up (up M0 119 0 x) 119 1 y) 119 2 z) 78 60 c 119 1 = y
    rw [up_row (by decide), up_col (by decide), up_eq]
  · show up (up (up (up M0 119 0 x) 119 1 y) 119 2 z) 78 60 c 119 2 = z
    rw [up_row (by decide), up_eq]
theorem s_seeks {V M : Mm} {b w : Int} (hT : Tw V) (hm : Rm V M) (h8 : ∀ p k : Int, 0 ≤ p → p < nP V → 0 ≤ k → k < 24 → msk V b w p k (M 118 (24 * p + k).toNat)) : wq (f_M_seeksDoctors M) (fun N => (skF V b w N ∨ (N 78 60 = -1 ∧ ∃ x, dcA (aRc V b w) (nP V) x ∧ x.1 = -1)) ∧ Fr sekL M N) := by
  have hP := hT.1
  unfold f_M_seeksDoctors
  rw [e_mP hm, bI_s]
  refine wq_d ?_
  have F0 : Fr sekL M (up M 78 60 (-1)) := Fr.rf.up (by simp [sekL])
  have hP1 : i32 (nP V) = nP V := i32_id (by omega) (by omega)
  have hM1 : i32 (-1) = -1 := i32_id (by omega) (by omega)
  have hF : ∀ N : Mm, skF V b w N → ¬ i32 (N 78 60) = i32 (-1) := by
    rintro N ⟨x, -, x2, x3, x4, -⟩
    rw [x4, hM1, i32_id (by omega) (by omega)]
    exact x2
  have hI : ∀ (N : Mm), Fr sekL M N → ∀ x y z : Int, 0 ≤ x → x < nP V → 0 ≤ y → y < nP V → 0 ≤ z → z < nP V → wq (f_M_isFound x y z N) (fun q => (q.1 = 1 ∧ aRc V b w x y z ∧ q.2 = up (up (up N 119 0 x) 119 1 y) 119 2 z) ∨ (q.1 = 0 ∧ ¬ aRc V b w x y z ∧ q.2 = N)) := fun N hFN x y z x0 x1 y0 y1 z0 z1 => s_isFound hT (hm.fr hFN rfl) (by rw [hFN.row 118 rfl]; exact h8) x0 x1 y0 y1 z0 z1
  have hU : ∀ (N : Mm) (x y z c : Int), Fr sekL M N → Fr sekL M (up (up (up (up N 119 0 x) 119 1 y) 119 2 z) 78 60 c) := fun N x y z c g => (((g.up (by simp [sekL])).up (by simp [sekL])).up (by simp [sekL])).up (by simp [sekL])
  unfold f_M_seeksDoctors_L12
  refine wq_lp (fun s => s.1 = nP V ∧ (0 ≤ s.2.1 ∧ s.2.1 ≤ nP V) ∧ Fr sekL M s.2.2 ∧ (skF V b w s.2.2 ∨ (s.2.2 78 60 = -1 ∧ ∀ a, 0 ≤ a → a < s.2.1 → ¬ aRc V b w a a a))) (fun s => (nP V - s.2.1).toNat) ?_ FU _ ?_ ?_
  · rintro kH ⟨v1, v2, N⟩ ⟨q1, q2, q3, q4⟩ hk
    have a1 : v1 = nP V := q1
    have a2 : 0 ≤ v2 ∧ v2 ≤ nP V := q2
    have a3 : Fr sekL M N := q3
    have a4 : skF V b w N ∨ (N 78 60 = -1 ∧ ∀ a, 0 ≤ a → a < v2 → ¬ aRc V b w a a a) := q4
    clear q1 q2 q3 q4
    subst a1
    have hx1 : (skF V b w N ∨ (N 78 60 = -1 ∧ ∀ a, 0 ≤ a → a < nP V → ¬ aRc V b w a a a)) → wq (f_M_seeksDoctors_L48 (fun v1 M12 => f_M_seeksDoctors_L107 FU (v1, 0, M12)) FU (nP V, 0, N)) (fun N => (skF V b w N ∨ (N 78 60 = -1 ∧ ∃ x, dcA (aRc V b w) (nP V) x ∧ x.1 = -1)) ∧ Fr sekL M N) := by
      intro hz
      clear hk a4
      unfold f_M_seeksDoctors_L48
      refine wq_lp (fun s => s.1 = nP V ∧ (0 ≤ s.2.1 ∧ s.2.1 ≤ nP V) ∧ Fr sekL M s.2.2 ∧ (skF V b w s.2.2 ∨ (s.2.2 78 60 = -1 ∧ (∀ a, 0 ≤ a → a < nP V → ¬ aRc V b w a a a) ∧ ∀ a b', 0 ≤ a → a < s.2.1 → a < b' → b' < nP V → ¬ aRc V b w a b' b'))) (fun s => (nP V - s.2.1).toNat) ?_ FU _ ?_ ?_
      · rintro kG ⟨u1, u2, K⟩ ⟨p1, p2, p3, p4⟩ hg
        have b1 : u1 = nP V := p1
        have b2 : 0 ≤ u2 ∧ u2 ≤ nP V := p2
        have b3 : Fr sekL M K := p3
        have b4 : skF V b w K ∨ (K 78 60 = -1 ∧ (∀ a, 0 ≤ a → a < nP V → ¬ aRc V b w a a a) ∧ ∀ a b', 0 ≤ a → a < u2 → a < b' → b' < nP V → ¬ aRc V b w a b' b') := p4
        clear p1 p2 p3 p4
        subst b1
        have hx2 : (skF V b w K ∨ (K 78 60 = -1 ∧ (∀ a, 0 ≤ a → a < nP V → ¬ aRc V b w a a a) ∧ ∀ a b', 0 ≤ a → a < b' → b' < nP V → ¬ aRc V b w a b' b')) → wq (f_M_seeksDoctors_L107 FU (nP V, 0, K)) (fun N => (skF V b w N ∨ (N 78 60 = -1 ∧ ∃ x, dcA (aRc V b w) (nP V) x ∧ x.1 = -1)) ∧ Fr sekL M N) := by
          intro hy
          clear hg b4
          unfold f_M_seeksDoctors_L107
          refine wq_lp (fun s => s.1 = nP V ∧ (0 ≤ s.2.1 ∧ s.2.1 ≤ nP V) ∧ Fr sekL M s.2.2 ∧ (skF V b w s.2.2 ∨ (s.2.2 78 60 = -1 ∧ (∀ a, 0 ≤ a → a < nP V → ¬ aRc V b w a a a) ∧ (∀ a b', 0 ≤ a → a < b' → b' < nP V → ¬ aRc V b w a b' b') ∧ ∀ a b' c', 0 ≤ a → a < s.2.1 → a < b' → b' < c' → c' < nP V → ¬ aRc V b w a b' c'))) (fun s => (nP V - s.2.1).toNat) ?_ FU _ ?_ ?_
          · rintro kI ⟨t1, t2, X⟩ ⟨r1, r2, r3, r4⟩ hi
            have c1 : t1 = nP V := r1
            have c2 : 0 ≤ t2 ∧ t2 ≤ nP V := r2
            have c3 : Fr sekL M X := r3
            have c4 : skF V b w X ∨ (X 78 60 = -1 ∧ (∀ a, 0 ≤ a → a < nP V → ¬ aRc V b w a a a) ∧ (∀ a b', 0 ≤ a → a < b' → b' < nP V → ¬ aRc V b w a b' b') ∧ ∀ a b' c', 0 ≤ a → a < t2 → a < b' → b' < c' → c' < nP V → ¬ aRc V b w a b' c') := r4
            clear r1 r2 r3 r4
            subst c1
            show wq (f_M_seeksDoctors_B107 (fun v1 v2 M => kI (v1, v2, M)) (nP V) t2 X) _
            unfold f_M_seeksDoctors_B107
            rw [hP1, i32_id (x := t2) (by omega) (by omega)]
            rcases c4 with c4 | ⟨c4, n1, n2, c5⟩
            · exact wq_if (fun _ => wq_some ⟨Or.inl c4, c3⟩) (fun _ => wq_t (hF X c4) (wq_some ⟨Or.inl c4, c3⟩))
            · refine wq_if (fun e => wq_some ⟨Or.inr ⟨c4, (-1, 0, 0, 0), Or.inr ⟨n1, Or.inr ⟨n2, Or.inr ⟨fun a b' c' g0 g1 g2 g3 => c5 a b' c' g0 (by omega) g1 g2 g3, rfl⟩⟩⟩, rfl⟩, c3⟩) (fun e => ?_)
              rw [c4]
              refine wq_e (fun z => z rfl) ?_
              unfold f_M_seeksDoctors_L124
              refine wq_lp (fun s => s.1 = nP V ∧ s.2.1 = t2 ∧ (t2 + 1 ≤ s.2.2.1 ∧ s.2.2.1 ≤ nP V) ∧ Fr sekL M s.2.2.2 ∧ (skF V b w s.2.2.2 ∨ (s.2.2.2 78 60 = -1 ∧ ∀ b' c', t2 < b' → b' < s.2.2.1 → b' < c' → c' < nP V → ¬ aRc V b w t2 b' c'))) (fun s => (nP V - s.2.2.1).toNat) ?_ FU _ ?_ ?_
              · rintro kJ ⟨y1, y2, y3, Y⟩ ⟨r1, r2, r3, r4, r5⟩ hj
                have d1 : y1 = nP V := r1
                have d2 : y2 = t2 := r2
                have d3 : t2 + 1 ≤ y3 ∧ y3 ≤ nP V := r3
                have d4 : Fr sekL M Y := r4
                have d5 : skF V b w Y ∨ (Y 78 60 = -1 ∧ ∀ b' c', t2 < b' → b' < y3 → b' < c' → c' < nP V → ¬ aRc V b w t2 b' c') := r5
                clear r1 r2 r3 r4 r5
                subst d1 d2
                show wq (f_M_seeksDoctors_B124 (fun v1 v2 v3 M => kJ (v1, v2, v3, M)) _ (nP V) y2 y3 Y) _
                unfold f_M_seeksDoctors_B124
                rw [hP1, i32_id (x := y3) (by omega) (by omega)]
                have hout : (skF V b w Y ∨ (Y 78 60 = -1 ∧ ∀ b' c', y2 < b' → b' < nP V → b' < c' → c' < nP V → ¬ aRc V b w y2 b' c')) → wq (kI (nP V, y2 + 1, Y)) (fun N => (skF V b w N ∨ (N 78 60 = -1 ∧ ∃ x, dcA (aRc V b w) (nP V) x ∧ x.1 = -1)) ∧ Fr sekL M N) := by
                  intro hh
                  refine hi _ ⟨rfl, ⟨show 0 ≤ y2 + 1 by omega, show y2 + 1 ≤ nP V by omega⟩, d4, ?_⟩ (show (nP V - (y2 + 1)).toNat < (nP V - y2).toNat by omega)
                  rcases hh with hh | ⟨hh, h2⟩
                  · exact Or.inl hh
                  · refine Or.inr ⟨hh, n1, n2, fun a b' c' g0 g1 g2 g3 g4 => ?_⟩
                    have g1 : a < y2 + 1 := g1
                    by_cases ea : a = y2
                    · subst ea; exact h2 b' c' g2 (by omega) g3 g4
                    · exact c5 a b' c' g0 (by omega) g2 g3 g4
                rcases d5 with d5 | ⟨d5, d6⟩
                · exact wq_if (fun _ => hout (Or.inl d5)) (fun _ => wq_t (hF Y d5) (hout (Or.inl d5)))
                · refine wq_if (fun f => hout (Or.inr ⟨d5, fun b' c' g1 g2 g3 g4 => d6 b' c' g1 (by omega) g3 g4⟩)) (fun f => ?_)
                  rw [d5]
                  refine wq_e (fun z => z rfl) ?_
                  unfold f_M_seeksDoctors_L142
                  refine wq_lp (fun s => s.1 = nP V ∧ s.2.1 = y2 ∧ s.2.2.1 = y3 ∧ (y3 + 1 ≤ s.2.2.2.1 ∧ s.2.2.2.1 ≤ nP V) ∧ Fr sekL M s.2.2.2.2 ∧ (skF V b w s.2.2.2.2 ∨ (s.2.2.2.2 78 60 = -1 ∧ ∀ c', y3 < c' → c' < s.2.2.2.1 → ¬ aRc V b w y2 y3 c'))) (fun s => (nP V - s.2.2.2.1).toNat) ?_ FU _ ?_ ?_
                  · rintro kL ⟨z1, z2, z3, z4, Z⟩ ⟨r1, r2, r3, r4, r5, r6⟩ hl
                    have e1 : z1 = nP V := r1
                    have e2 : z2 = y2 := r2
                    have e3 : z3 = y3 := r3
                    have e4 : y3 + 1 ≤ z4 ∧ z4 ≤ nP V := r4
                    have e5 : Fr sekL M Z := r5
                    have e6 : skF V b w Z ∨ (Z 78 60 = -1 ∧ ∀ c', y3 < c' → c' < z4 → ¬ aRc V b w y2 y3 c') := r6
                    clear r1 r2 r3 r4 r5 r6
                    subst e1 e2 e3
                    show wq (f_M_seeksDoctors_B142 (fun v1 v2 v3 v4 M => kL (v1, v2, v3, v4, M)) _ (nP V) z2 z3 z4 Z) _
                    unfold f_M_seeksDoctors_B142
                    rw [hP1, i32_id (x := z4) (by omega) (by omega)]
                    have hout2 : (skF V b w Z ∨ (Z 78 60 = -1 ∧ ∀ c', z3 < c' → c' < nP V → ¬ aRc V b w z2 z3 c')) → wq (kJ (nP V, z2, z3 + 1, Z)) (fun N => (skF V b w N ∨ (N 78 60 = -1 ∧ ∃ x, dcA (aRc V b w) (nP V) x ∧ x.1 = -1)) ∧ Fr sekL M N) := by
                      intro hh
                      refine hj _ ⟨rfl, rfl, ⟨show z2 + 1 ≤ z3 + 1 by omega, show z3 + 1 ≤ nP V by omega⟩, e5, ?_⟩ (show (nP V - (z3 + 1)).toNat < (nP V - z3).toNat by omega)
                      rcases hh with hh | ⟨hh, h2⟩
                      · exact Or.inl hh
                      · refine Or.inr ⟨hh, fun b' c' g1 g2 g3 g4 => ?_⟩
                        have g2 : b' < z3 + 1 := g2
                        by_cases eb : b' = z3
                        · subst eb; exact h2 c' g3 g4
                        · exact d6 b' c' g1 (by omega) g3 g4
                    rcases e6 with e6 | ⟨e6, e7⟩
                    · exact wq_if (fun _ => hout2 (Or.inl e6)) (fun _ => wq_t (hF Z e6) (hout2 (Or.inl e6)))
                    · refine wq_if (fun g => hout2 (Or.inr ⟨e6, fun c' g1 g2 => e7 c' g1 (by omega)⟩)) (fun g => ?_)
                      rw [e6]
                      refine wq_e (fun z => z rfl) (wq_I (hI Z e5 z2 z3 z4 c2.1 (by omega) (by omega) (by omega) (by omega) (by omega)) (fun r N2 hh => ?_))
                      rcases hh with ⟨h1, h3, h4⟩ | ⟨h1, h3, h4⟩
                      · have h1 : r = 1 := h1
                        have h4 : N2 = up (up (up Z 119 0 z2) 119 1 z3) 119 2 z4 := h4
                        subst h1 h4
                        refine wq_e (by decide) (wq_d (hl _ ⟨rfl, rfl, rfl, ⟨show z3 + 1 ≤ z4 + 1 by omega, show z4 + 1 ≤ nP V by omega⟩, hU Z _ _ _ _ e5, Or.inl (skF_of (by decide) (by decide) (Or.inr ⟨n1, Or.inr ⟨n2, Or.inl ⟨z2, z3, z4, ⟨c2.1, by omega, by omega, by omega⟩, h3, fun a' b' c' g1 g2 g3 g4 g5 => ?_, rfl⟩⟩⟩))⟩ (show (nP V - (z4 + 1)).toNat < (nP V - z4).toNat by omega)))
                        by_cases ea : a' = z2
                        · subst ea
                          by_cases eb : b' = z3
                          · subst eb; exact e7 c' g3 (by omega)
                          · exact d6 b' c' g2 (by omega) g3 g4
                        · exact c5 a' b' c' g1 (by omega) g2 g3 g4
                      · have h1 : r = 0 := h1
                        have h4 : N2 = Z := h4
                        subst h1 h4
                        refine wq_t (by decide) (hl _ ⟨rfl, rfl, rfl, ⟨show z3 + 1 ≤ z4 + 1 by omega, show z4 + 1 ≤ nP V by omega⟩, e5, Or.inr ⟨e6, fun c' g1 g2 => ?_⟩⟩ (show (nP V - (z4 + 1)).toNat < (nP V - z4).toNat by omega))
                        have g2 : c' < z4 + 1 := g2
                        by_cases ec : c' = z4
                        · subst ec; exact h3
                        · exact e7 c' g1 (by omega)
                  · exact ⟨rfl, rfl, rfl, ⟨Int.le_refl _, by show y3 + 1 ≤ nP V; omega⟩, d4, Or.inr ⟨d5, fun c' g1 g2 => absurd g2 (by show ¬ c' < y3 + 1; omega)⟩⟩
                  · show (nP V - (y3 + 1)).toNat < 1000000000
                    omega
              · exact ⟨rfl, rfl, ⟨Int.le_refl _, by show t2 + 1 ≤ nP V; omega⟩, c3, Or.inr ⟨c4, fun b' c' g1 g2 => absurd g2 (by show ¬ b' < t2 + 1; omega)⟩⟩
              · show (nP V - (t2 + 1)).toNat < 1000000000
                omega
          · refine ⟨rfl, ⟨Int.le_refl _, hP.1⟩, b3, ?_⟩
            rcases hy with hy | ⟨h1, h2, h3⟩
            · exact Or.inl hy
            · exact Or.inr ⟨h1, h2, h3, fun a b' c' g0 g1 => absurd g1 (by show ¬ a < 0; omega)⟩
          · show (nP V - 0).toNat < 1000000000
            omega
        show wq (f_M_seeksDoctors_B48 (fun v1 v2 M => kG (v1, v2, M)) _ (nP V) u2 K) _
        unfold f_M_seeksDoctors_B48
        rw [hP1, i32_id (x := u2) (by omega) (by omega)]
        rcases b4 with b4 | ⟨b4, n1, b5⟩
        · exact wq_if (fun _ => hx2 (Or.inl b4)) (fun _ => wq_t (hF K b4) (hx2 (Or.inl b4)))
        · refine wq_if (fun e => hx2 (Or.inr ⟨b4, n1, fun a b' g0 g1 g2 => b5 a b' g0 (by omega) g1 g2⟩)) (fun e => ?_)
          rw [b4]
          refine wq_e (fun z => z rfl) ?_
          clear hx2
          unfold f_M_seeksDoctors_L65
          refine wq_lp (fun s => s.1 = nP V ∧ s.2.1 = u2 ∧ (u2 + 1 ≤ s.2.2.1 ∧ s.2.2.1 ≤ nP V) ∧ Fr sekL M s.2.2.2 ∧ (skF V b w s.2.2.2 ∨ (s.2.2.2 78 60 = -1 ∧ ∀ b', u2 < b' → b' < s.2.2.1 → ¬ aRc V b w u2 b' b'))) (fun s => (nP V - s.2.2.1).toNat) ?_ FU _ ?_ ?_
          · rintro kJ ⟨y1, y2, y3, Y⟩ ⟨r1, r2, r3, r4, r5⟩ hj
            have d1 : y1 = nP V := r1
            have d2 : y2 = u2 := r2
            have d3 : u2 + 1 ≤ y3 ∧ y3 ≤ nP V := r3
            have d4 : Fr sekL M Y := r4
            have d5 : skF V b w Y ∨ (Y 78 60 = -1 ∧ ∀ b', u2 < b' → b' < y3 → ¬ aRc V b w u2 b' b') := r5
            clear r1 r2 r3 r4 r5
            subst d1 d2
            show wq (f_M_seeksDoctors_B65 (fun v1 v2 v3 M => kJ (v1, v2, v3, M)) _ (nP V) y2 y3 Y) _
            unfold f_M_seeksDoctors_B65
            rw [hP1, i32_id (x := y3) (by omega) (by omega)]
            have hout : (skF V b w Y ∨ (Y 78 60 = -1 ∧ ∀ b', y2 < b' → b' < nP V → ¬ aRc V b w y2 b' b')) → wq (kG (nP V, y2 + 1, Y)) (fun N => (skF V b w N ∨ (N 78 60 = -1 ∧ ∃ x, dcA (aRc V b w) (nP V) x ∧ x.1 = -1)) ∧ Fr sekL M N) := by
              intro hh
              refine hg _ ⟨rfl, ⟨show 0 ≤ y2 + 1 by omega, show y2 + 1 ≤ nP V by omega⟩, d4, ?_⟩ (show (nP V - (y2 + 1)).toNat < (nP V - y2).toNat by omega)
              rcases hh with hh | ⟨hh, h2⟩
              · exact Or.inl hh
              · refine Or.inr ⟨hh, n1, fun a b' g0 g1 g2 g3 => ?_⟩
                have g1 : a < y2 + 1 := g1
                by_cases ea : a = y2
                · subst ea; exact h2 b' g2 g3
                · exact b5 a b' g0 (by omega) g2 g3
            rcases d5 with d5 | ⟨d5, d6⟩
            · exact wq_if (fun _ => hout (Or.inl d5)) (fun _ => wq_t (hF Y d5) (hout (Or.inl d5)))
            · refine wq_if (fun f => hout (Or.inr ⟨d5, fun b' g1 g2 => d6 b' g1 (by omega)⟩)) (fun f => ?_)
              rw [d5]
              refine wq_e (fun z => z rfl) (wq_I (hI Y d4 y2 y3 y3 b2.1 (by omega) (by omega) (by omega) (by omega) (by omega)) (fun r N2 hh => ?_))
              rcases hh with ⟨h1, h3, h4⟩ | ⟨h1, h3, h4⟩
              · have h1 : r = 1 := h1
                have h4 : N2 = up (up (up Y 119 0 y2) 119 1 y3) 119 2 y3 := h4
                subst h1 h4
                refine wq_e (by decide) (wq_d (hj _ ⟨rfl, rfl, ⟨show y2 + 1 ≤ y3 + 1 by omega, show y3 + 1 ≤ nP V by omega⟩, hU Y _ _ _ _ d4, Or.inl (skF_of (by decide) (by decide) (Or.inr ⟨n1, Or.inl ⟨y2, y3, ⟨b2.1, by omega, by omega⟩, h3, fun a' b' g1 g2 g3 g4 => ?_, rfl⟩⟩))⟩ (show (nP V - (y3 + 1)).toNat < (nP V - y3).toNat by omega)))
                by_cases ea : a' = y2
                · subst ea; exact d6 b' g2 (by omega)
                · exact b5 a' b' g1 (by omega) g2 g3
              · have h1 : r = 0 := h1
                have h4 : N2 = Y := h4
                subst h1 h4
                refine wq_t (by decide) (hj _ ⟨rfl, rfl, ⟨show y2 + 1 ≤ y3 + 1 by omega, show y3 + 1 ≤ nP V by omega⟩, d4, Or.inr ⟨d5, fun b' g1 g2 => ?_⟩⟩ (show (nP V - (y3 + 1)).toNat < (nP V - y3).toNat by omega))
                have g2 : b' < y3 + 1 := g2
                by_cases eb : b' = y3
                · subst eb; exact h3
                · exact d6 b' g1 (by omega)
          · exact ⟨rfl, rfl, ⟨Int.le_refl _, by show u2 + 1 ≤ nP V; omega⟩, b3, Or.inr ⟨b4, fun b' g1 g2 => absurd g2 (by show ¬ b' < u2 + 1; omega)⟩⟩
          · show (nP V - (u2 + 1)).toNat < 1000000000
            omega
      · refine ⟨rfl, ⟨Int.le_refl _, hP.1⟩, a3, ?_⟩
        rcases hz with hz | ⟨h1, h2⟩
        · exact Or.inl hz
        · exact Or.inr ⟨h1, h2, fun a b' g0 g1 => absurd g1 (by show ¬ a < 0; omega)⟩
      · show (nP V - 0).toNat < 1000000000
        omega
    show wq (f_M_seeksDoctors_B12 (fun v1 v2 M => kH (v1, v2, M)) _ (nP V) v2 N) _
    unfold f_M_seeksDoctors_B12
    rw [hP1, i32_id (x := v2) (by omega) (by omega)]
    rcases a4 with a4 | ⟨a4, a5⟩
    · exact wq_if (fun _ => hx1 (Or.inl a4)) (fun _ => wq_t (hF N a4) (hx1 (Or.inl a4)))
    · refine wq_if (fun e => hx1 (Or.inr ⟨a4, fun a g0 g1 => a5 a g0 (by omega)⟩)) (fun e => ?_)
      rw [a4]
      refine wq_e (fun z => z rfl) (wq_I (hI N a3 v2 v2 v2 a2.1 (by omega) a2.1 (by omega) a2.1 (by omega)) (fun r N2 hh => ?_))
      rcases hh with ⟨h1, h3, h4⟩ | ⟨h1, h3, h4⟩
      · have h1 : r = 1 := h1
        have h4 : N2 = up (up (up N 119 0 v2) 119 1 v2) 119 2 v2 := h4
        subst h1 h4
        exact wq_e (by decide) (wq_d (hk _ ⟨rfl, ⟨show 0 ≤ v2 + 1 by omega, show v2 + 1 ≤ nP V by omega⟩, hU N _ _ _ _ a3, Or.inl (skF_of (by decide) (by decide) (Or.inl ⟨v2, ⟨a2.1, by omega⟩, h3, a5, rfl⟩))⟩ (show (nP V - (v2 + 1)).toNat < (nP V - v2).toNat by omega)))
      · have h1 : r = 0 := h1
        have h4 : N2 = N := h4
        subst h1 h4
        refine wq_t (by decide) (hk _ ⟨rfl, ⟨show 0 ≤ v2 + 1 by omega, show v2 + 1 ≤ nP V by omega⟩, a3, Or.inr ⟨a4, fun a g1 g2 => ?_⟩⟩ (show (nP V - (v2 + 1)).toNat < (nP V - v2).toNat by omega))
        have g2 : a < v2 + 1 := g2
        by_cases ea : a = v2
        · subst ea; exact h3
        · exact a5 a g1 (by omega)
  · exact ⟨rfl, ⟨Int.le_refl _, hP.1⟩, F0, Or.inr ⟨up_eq M 78 60 (-1), fun a g0 g1 => absurd g1 (by show ¬ a < 0; omega)⟩⟩
  · show (nP V - 0).toNat < 1000000000
    omega
