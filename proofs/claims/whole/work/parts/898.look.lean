theorem s_keepReached {V M : Mm} {b w K k : Int} (hT : Tw V) (hN : Nw V) (hc : Tc V M) (k0 : 0 ≤ k) (k1 : k < 24) (w0 : 0 ≤ w) (w1 : w ≤ 400) (hd : dOk V b K k M) (hK : k + w ≤ K) :
    wq (f_Many_keepReached k (k + w) M) (fun M' => (∀ p : Int, 0 ≤ p → p < nP V → msk V b w p k (M' 63 (p * 24 + k).toNat)) ∧ (∀ i : Nat, (∀ p : Int, 0 ≤ p → p < nP V → i ≠ (p * 24 + k).toNat) → M' 63 i = M 63 i) ∧ Fr [(63, 99999)] M M') := by
  have hP := hT.1
  unfold f_Many_keepReached f_Many_keepReached_L2
  refine wq_lp (fun z => z.1 = k ∧ z.2.1 = k + w ∧ (0 ≤ z.2.2.1 ∧ z.2.2.1 ≤ nP V) ∧ (∀ p : Int, 0 ≤ p → p < z.2.2.1 → msk V b w p k (z.2.2.2 63 (p * 24 + k).toNat)) ∧ (∀ i : Nat, (∀ p : Int, 0 ≤ p → p < z.2.2.1 → i ≠ (p * 24 + k).toNat) → z.2.2.2 63 i = M 63 i) ∧ Fr [(63, 99999)] M z.2.2.2) (fun z => (nP V - z.2.2.1).toNat) ?_ FU _ ?_ ?_
  · rintro kH ⟨v1, v2, v3, N⟩ ⟨q1, q2, q3, q4, q5, q6⟩ hk
    have a1 : v1 = k := q1
    have a2 : v2 = k + w := q2
    have a3 : 0 ≤ v3 ∧ v3 ≤ nP V := q3
    have a4 : ∀ p : Int, 0 ≤ p → p < v3 → msk V b w p k (N 63 (p * 24 + k).toNat) := q4
    have a5 : ∀ i : Nat, (∀ p : Int, 0 ≤ p → p < v3 → i ≠ (p * 24 + k).toNat) → N 63 i = M 63 i := q5
    have a6 : Fr [(63, 99999)] M N := q6
    clear q1 q2 q3 q4 q5 q6
    subst a1 a2
    have cN := hc.fr a6 rfl
    show wq (f_Many_keepReached_B2 (fun v1 v2 v3 M => kH (v1, v2, v3, M)) v1 (v1 + w) v3 N) _
    unfold f_Many_keepReached_B2
    rw [e_count0 cN, bI_s, i32_id (x := nP V) (by omega) (by omega), i32_id (x := v3) (by omega) (by omega)]
    refine wq_if (fun c => wq_some ⟨fun p p0 p1 => a4 p p0 (by omega), fun i hi => a5 i (fun p p0 p1 => hi p p0 (by omega)), a6⟩) (fun c => ?_)
    unfold f_Many_keepReached_L20
    refine wq_lp (fun z => z.1 = v1 ∧ z.2.1 = v1 + w ∧ z.2.2.1 = v3 ∧ (0 ≤ z.2.2.2.2.1 ∧ z.2.2.2.2.1 ≤ nP V) ∧ bqI (nP V) z.2.2.2.2.1 (fun q => rea V b (hr V + v1 + w) v3 (hr V + v1) q) z.2.2.2.1 ∧ z.2.2.2.2.2 = N) (fun z => (nP V - z.2.2.2.2.1).toNat) ?_ FU _ ?_ ?_
    · rintro kG ⟨u1, u2, u3, u4, u5, K'⟩ ⟨p1, p2, p3, p4, p5, p6⟩ hg
      have b1 : u1 = v1 := p1
      have b2 : u2 = v1 + w := p2
      have b3 : u3 = v3 := p3
      have b4 : 0 ≤ u5 ∧ u5 ≤ nP V := p4
      have b5 : bqI (nP V) u5 (fun q => rea V b (hr V + v1 + w) v3 (hr V + v1) q) u4 := p5
      have b6 : K' = N := p6
      clear p1 p2 p3 p4 p5 p6
      subst b1 b2 b3 b6
      have bl := bqI_lt (by omega) b5
      show wq (f_Many_keepReached_B20 (fun v1 v2 v3 v4 v5 M => kG (v1, v2, v3, v4, v5, M)) _ u1 (u1 + w) u3 u4 u5 K') _
      unfold f_Many_keepReached_B20
      rw [e_count0 cN, bI_s, i32_id (x := nP V) (by omega) (by omega), i32_id (x := u5) (by omega) (by omega)]
      refine wq_if (fun d => ?_) (fun d => ?_)
      · have e5 : u5 = nP V := by omega
        rw [e5] at b5
        dsimp only
        rw [e_set (n := 216) K' rfl (by decide) (by omega) (by omega), bV_s]
        refine hk _ ⟨rfl, rfl, ⟨show 0 ≤ u3 + 1 by omega, show u3 + 1 ≤ nP V by omega⟩, fun p p0 p1 => ?_, fun i hi => ?_, a6.up (by simp)⟩ (show (nP V - (u3 + 1)).toNat < (nP V - u3).toNat by omega)
        · have p1 : p < u3 + 1 := p1
          show msk V b w p u1 (up K' 63 (u3 * 24 + u1).toNat u4 63 (p * 24 + u1).toNat)
          rw [up_at]
          by_cases e : p = u3
          · rw [if_pos ⟨rfl, by rw [e]⟩, e]
            exact b5
          · rw [if_neg (fun z => by omega)]
            exact a4 p p0 (by omega)
        · show up K' 63 (u3 * 24 + u1).toNat u4 63 i = M 63 i
          have := hi u3 a3.1 (show u3 < u3 + 1 by omega)
          rw [up_col this]
          exact a5 i (fun p p0 p1 => hi p p0 (by show p < u3 + 1; omega))
      · have m0 := Int.emod_nonneg u1 (show (5 : Int) ≠ 0 by decide)
        have m1 := Int.emod_lt_of_pos u1 (show (0 : Int) < 5 by decide)
        obtain ⟨d1, d2⟩ := hd u3 u5 a3.1 (by omega) b4.1 (by omega)
        have d3 := d2 (u1 + w) hK
        have e61 : K' 61 (u1 % 5 * 81 + u3 * 9 + u5).toNat = M 61 (sl u1 u3 u5) := by rw [a6.row 61 rfl]; rfl
        rw [e_slot K' k0 (by omega), bI_s, e_cell_in (n := 405) K' rfl (by decide) (by omega) (by omega), bI_s, e61, i32_id (x := u1 + w) (by omega) (by omega), i32_id (x := M 61 (sl u1 u3 u5)) (by omega) (by omega)]
        rw [← Int.add_assoc] at d3
        refine wq_if (fun g => ?_) (fun g => ?_)
        · rw [or32_0 bl.1 (by omega)]
          refine hg _ ⟨rfl, rfl, rfl, ⟨show 0 ≤ u5 + 1 by omega, show u5 + 1 ≤ nP V by omega⟩, bqI_n b5 (fun z => ?_), rfl⟩ (show (nP V - (u5 + 1)).toNat < (nP V - u5).toNat by omega)
          have := d3.mpr ⟨by omega, z⟩
          omega
        · exact hg _ ⟨rfl, rfl, rfl, ⟨show 0 ≤ u5 + 1 by omega, show u5 + 1 ≤ nP V by omega⟩, bqI_y (by omega) b5 b4.1 (by omega) (d3.mp (by omega)).2, rfl⟩ (show (nP V - (u5 + 1)).toNat < (nP V - u5).toNat by omega)
    · exact ⟨rfl, rfl, rfl, ⟨Int.le_refl _, hP.1⟩, bqI_0 _ _, rfl⟩
    · show (nP V - 0).toNat < 1000000000
      omega
  · exact ⟨rfl, rfl, ⟨Int.le_refl _, hP.1⟩, fun p p0 p1 => absurd p1 (by show ¬ p < 0; omega), fun i _ => rfl, Fr.rf⟩
  · show (nP V - 0).toNat < 1000000000
    omega
def lkL : List (Nat × Nat) := [(61, 99999), (62, 99999), (18, 99999), (47, 99999)]
theorem s_streetsB {V M0 : Mm} {b w k K : Int} {kx : Int → Int → Int → Mm → Option Mm} {Q : Mm → Prop} (hT : Tw V) (hN : Nw V) (h : Cl V M0) (hb1 : 1 ≤ b) (hb2 : b ≤ 99) (k0 : 0 ≤ k) (k1 : k ≤ K) (k2 : K ≤ 500) (hp : pqO V b K k 0 M0) (hd : ∀ j, k + 1 ≤ j → j ≤ k + 4 → dOk V b K j M0) (hr' : ∀ s : Int, 0 ≤ s → s < nS V → rnK V b K (k + 1) s (M0 62 s.toNat))
    (kk : ∀ M', Cl V M' → Fr lkL M0 M' → pqO V b K k (nS V) M' → (∀ j, k + 1 ≤ j → j ≤ k + 4 → dOk V b K j M') → (∀ s : Int, 0 ≤ s → s < nS V → rnK V b K k s (M' 62 s.toNat)) → wq (kx b w k M') Q) : wq (f_Many_lookBack_L34 kx FU (b, w, k, 0, M0)) Q := by
  have hS := hT.2.1
  have hP := hT.1
  have hh := hN.1
  unfold f_Many_lookBack_L34
  refine wq_lp (fun z => z.1 = b ∧ z.2.1 = w ∧ z.2.2.1 = k ∧ (0 ≤ z.2.2.2.1 ∧ z.2.2.2.1 ≤ nS V) ∧ Cl V z.2.2.2.2 ∧ Fr lkL M0 z.2.2.2.2 ∧ pqO V b K k z.2.2.2.1 z.2.2.2.2 ∧ (∀ j, k + 1 ≤ j → j ≤ k + 4 → dOk V b K j z.2.2.2.2) ∧ (∀ s : Int, 0 ≤ s → s < nS V → rnK V b K (if s < z.2.2.2.1 then k else k + 1) s (z.2.2.2.2 62 s.toNat))) (fun z => (nS V - z.2.2.2.1).toNat) ?_ FU _ ?_ ?_
  · rintro kH ⟨v1, v2, v3, v4, N⟩ ⟨q1, q2, q3, q4, q5, q6, q7, q8, q9⟩ hk
    have a1 : v1 = b := q1
    have a2 : v2 = w := q2
    have a3 : v3 = k := q3
    have a4 : 0 ≤ v4 ∧ v4 ≤ nS V := q4
    have a5 : Cl V N := q5
    have a6 : Fr lkL M0 N := q6
    have a7 : pqO V b K k v4 N := q7
    have a8 : ∀ j, k + 1 ≤ j → j ≤ k + 4 → dOk V b K j N := q8
    have a9 : ∀ s : Int, 0 ≤ s → s < nS V → rnK V b K (if s < v4 then k else k + 1) s (N 62 s.toNat) := q9
    clear q1 q2 q3 q4 q5 q6 q7 q8 q9
    subst a1 a2 a3
    show wq (f_Many_lookBack_B34 (fun v1 v2 v3 v4 M => kH (v1, v2, v3, v4, M)) kx v1 v2 v3 v4 N) _
    unfold f_Many_lookBack_B34
    rw [e_count1 a5.1, bI_s, i32_id (x := nS V) (by omega) (by omega), i32_id (x := v4) (by omega) (by omega)]
    refine wq_if (fun c => ?_) (fun c => ?_)
    · have ev : v4 = nS V := by omega
      rw [ev] at a7
      refine kk N a5 a6 a7 a8 (fun s s0 s1 => ?_)
      have := a9 s s0 s1
      rw [if_pos (by omega)] at this
      exact this
    · have e39 : N 39 8 = hr V := a5.2.1.1
      rw [e39]
      refine wq_I (s_cWidthAt hT hN a5 a4.1 (by omega) (show 0 ≤ hr V + v3 by omega) (by omega)) (fun r M6 ⟨er, c1, c2⟩ => ?_)
      have er : r = wid V v4 (hr V + v3) := er
      have c1 : Cl V M6 := c1
      have c2 : Fr wcL N M6 := c2
      have hw := wid_rng V v4 (hr V + v3)
      have e62 : M6 62 = N 62 := c2.row 62 rfl
      have e61 : M6 61 = N 61 := c2.row 61 rfl
      have hrn := a9 v4 a4.1 (by omega)
      rw [if_neg (by omega)] at hrn
      have hst := rnK_step hrn k1
      have htk := (hT.2.2.2.1 v4 a4.1 (by omega)).2.2.2.1
      obtain ⟨x1, x2, x3, -⟩ := hT.2.2.2.1 v4 a4.1 (by omega)
      have hJ : ∀ x, x = (if v1 ≤ wid V v4 (hr V + v3) then N 62 v4.toNat + 1 else 0) → wq (f_Many_lookBack_J102 (fun v1 v2 v3 v4 M => kH (v1, v2, v3, v4, M)) kx v1 v2 v3 v4 x v4 M6) Q := by
        intro x hx
        rw [← hx] at hst
        have hxr := hst.1
        unfold f_Many_lookBack_J102
        rw [e_set (n := 12) M6 rfl (by decide) a4.1 (by omega), bV_s]
        generalize hX : up M6 62 v4.toNat x = X
        have FX : Fr [(62, 99999)] M6 X := by rw [← hX]; exact Fr.rf.up (by simp)
        have x62 : X 62 v4.toNat = x := by rw [← hX, up_eq]
        have cX : Cl V X := c1.fr FX rfl rfl rfl
        have FN : Fr lkL M0 X := (a6.tr (c2.cov rfl)).tr (FX.cov rfl)
        have X61 : X 61 = N 61 := by rw [FX.row 61 rfl, e61]
        have pX : pqO V v1 K v3 v4 X := pqO_cg a7 X61
        have dX : ∀ j, v3 + 1 ≤ j → j ≤ v3 + 4 → dOk V v1 K j X := fun j j0 j1 => dOk_cg (a8 j j0 j1) (fun f q _ _ _ _ => by rw [X61])
        have rX : ∀ N' : Mm, N' 62 = X 62 → ∀ s : Int, 0 ≤ s → s < nS V → rnK V v1 K (if s < v4 + 1 then v3 else v3 + 1) s (N' 62 s.toNat) := by
          intro N' hN' s s0 s1
          rw [hN', ← hX, up_if]
          by_cases es : s = v4
          · rw [es, if_pos (show v4 < v4 + 1 by omega), if_pos rfl]
            exact hst
          · rw [if_neg (show ¬ s.toNat = v4.toNat by omega), e62]
            have := a9 s s0 s1
            by_cases c4 : s < v4
            · rw [if_pos c4] at this
              rw [if_pos (show s < v4 + 1 by omega)]
              exact this
            · rw [if_neg c4] at this
              rw [if_neg (show ¬ s < v4 + 1 by omega)]
              exact this
        obtain ⟨t1, t2, t3, -⟩ := cX.1.2.1 v4 a4.1 (by omega)
        rw [e_cell_in (n := 12) X rfl (by decide) a4.1 (by omega), bI_s, e_cell_in (n := 12) X rfl (by decide) a4.1 (by omega), bI_s, t3, x62, i32_id (x := tk V v4) (by omega) (by omega), i32_id (x := x) (by omega) (by omega)]
        have hfr := rnK_fre hst htk.1
        refine wq_if (fun d => ?_) (fun d => ?_)
        · exact hk _ ⟨rfl, rfl, rfl, ⟨show 0 ≤ v4 + 1 by omega, show v4 + 1 ≤ nS V by omega⟩, cX, FN, pqO_no pX (fun z => by have := hfr.mpr z; omega), dX, rX X rfl⟩ (show (nS V - (v4 + 1)).toNat < (nS V - v4).toNat by omega)
        · obtain ⟨f1, f2⟩ := hfr.mp (by omega)
          have dT := dX (v3 + tk V v4) (by omega) (by omega)
          rw [e_cell_in (n := 12) X rfl (by decide) a4.1 (by omega), bI_s, e_cell_in (n := 12) X rfl (by decide) a4.1 (by omega), bI_s, t1, t2]
          refine wq_V (s_passOn (t := tk V v4) hT cX.1 k0 (by omega) htk.1 htk.2 x1.1 x1.2 x2.1 x2.2 (fun q q0 q1 => ⟨(pX _ q x1.1 x1.2 q0 q1).1, (dT _ q x2.1 x2.2 q0 q1).1⟩)) (fun M2 ⟨g1, g2, g3⟩ => ?_)
          have c3 : Cl V M2 := cX.fr g3 rfl rfl rfl
          obtain ⟨t4, t5, -⟩ := c3.1.2.1 v4 a4.1 (by omega)
          have hdif : ∀ (f f' q q' : Int), 0 ≤ f → f < nP V → 0 ≤ f' → f' < nP V → 0 ≤ q → q < nP V → 0 ≤ q' → q' < nP V → f ≠ f' → sl v3 f q ≠ sl v3 f' q' := by
            intro f f' q q' z1 z2 z3 z4 z5 z6 z7 z8 z9
            have m0 := Int.emod_nonneg v3 (show (5 : Int) ≠ 0 by decide)
            unfold sl
            omega
          have hdif2 : ∀ (j f f' q q' : Int), v3 + 1 ≤ j → j ≤ v3 + 4 → 0 ≤ f → f < nP V → 0 ≤ f' → f' < nP V → 0 ≤ q → q < nP V → 0 ≤ q' → q' < nP V → sl j f q ≠ sl v3 f' q' := by
            intro j f f' q q' y1 y2 z1 z2 z3 z4 z5 z6 z7 z8
            have m0 := Int.emod_nonneg v3 (show (5 : Int) ≠ 0 by decide)
            have m1 := Int.emod_lt_of_pos v3 (show (0 : Int) < 5 by decide)
            have n0 := Int.emod_nonneg j (show (5 : Int) ≠ 0 by decide)
            have n1 := Int.emod_lt_of_pos j (show (0 : Int) < 5 by decide)
            unfold sl
            omega
          have u1 : ∀ q, 0 ≤ q → q < nP V → M2 61 (sl v3 (eT V v4) q) = X 61 (sl v3 (eT V v4) q) := fun q q0 q1 => g2 _ (fun q' q0' q1' => hdif _ _ _ _ x2.1 x2.2 x1.1 x1.2 q0 q1 q0' q1' (fun z => x3 z.symm))
          have u2 : ∀ j f q, v3 + 1 ≤ j → j ≤ v3 + 4 → 0 ≤ f → f < nP V → 0 ≤ q → q < nP V → M2 61 (sl j f q) = X 61 (sl j f q) := fun j f q j0 j1 f0 f1 q0 q1 => g2 _ (fun q' q0' q1' => hdif2 _ _ _ _ _ j0 j1 f0 f1 x1.1 x1.2 q0 q1 q0' q1')
          rw [e_cell_in (n := 12) M2 rfl (by decide) a4.1 (by omega), bI_s, e_cell_in (n := 12) M2 rfl (by decide) a4.1 (by omega), bI_s, t4, t5]
          refine wq_V (s_passOn (t := tk V v4) hT c3.1 k0 (by omega) htk.1 htk.2 x2.1 x2.2 x1.1 x1.2 (fun q q0 q1 => ⟨by rw [u1 q q0 q1]; exact (pX _ q x2.1 x2.2 q0 q1).1, by rw [u2 _ _ q (by omega) (by omega) x1.1 x1.2 q0 q1]; exact (dT _ q x1.1 x1.2 q0 q1).1⟩)) (fun M3 ⟨y1, y2, y3⟩ => ?_)
          refine hk _ ⟨rfl, rfl, rfl, ⟨show 0 ≤ v4 + 1 by omega, show v4 + 1 ≤ nS V by omega⟩, c3.fr y3 rfl rfl rfl, (FN.tr (g3.cov rfl)).tr (y3.cov rfl), ?_, fun j j0 j1 => ?_, rX M3 (by rw [y3.row 62 rfl, g3.row 62 rfl])⟩ (show (nS V - (v4 + 1)).toNat < (nS V - v4).toNat by omega)
          · refine pqO_yes hT a4.1 (by omega) pX dT f1 (fun q q0 q1 => ?_) (fun q q0 q1 => ?_) (fun f q f0 f1 q0 q1 n1 n2 => ?_)
            · dsimp only
              rw [y2 _ (fun q' q0' q1' => hdif _ _ _ _ x1.1 x1.2 x2.1 x2.2 q0 q1 q0' q1' x3)]
              exact g1 q q0 q1
            · dsimp only
              rw [y1 q q0 q1, u1 q q0 q1, u2 _ _ q (by omega) (by omega) x1.1 x1.2 q0 q1]
            · dsimp only
              rw [y2 _ (fun q' q0' q1' => hdif _ _ _ _ f0 f1 x2.1 x2.2 q0 q1 q0' q1' n2)]
              exact g2 _ (fun q' q0' q1' => hdif _ _ _ _ f0 f1 x1.1 x1.2 q0 q1 q0' q1' n1)
          · refine dOk_cg (dX j j0 j1) (fun f q f0 f1 q0 q1 => ?_)
            dsimp only
            rw [y2 _ (fun q' q0' q1' => hdif2 _ _ _ _ _ j0 j1 f0 f1 x2.1 x2.2 q0 q1 q0' q1')]
            exact u2 j f q j0 j1 f0 f1 q0 q1
      rw [i32_id (x := r) (by omega) (by omega), i32_id (x := v1) (by omega) (by omega)]
      unfold f_Many_lookBack_J74
      refine wq_if (fun d => wq_t (by decide) (hJ 0 ?_)) (fun d => wq_e (by decide) ?_)
      · rw [if_neg (by omega)]
      · rw [e_cell_in (n := 12) M6 rfl (by decide) a4.1 (by omega), bI_s, e62]
        refine hJ _ ?_
        rw [if_pos (by omega)]
  · exact ⟨rfl, rfl, rfl, ⟨Int.le_refl _, hS.1⟩, h, Fr.rf, hp, hd, fun s s0 s1 => by
      show rnK V b K (if s < 0 then k else k + 1) s (M0 62 s.toNat)
      rw [if_neg (by omega)]
      exact hr' s s0 s1⟩
  · show (nS V - 0).toNat < 1000000000
    omega
def lbL : List (Nat × Nat) := [(61, 99999), (62, 99999), (63, 99999), (18, 99999), (47, 99999)]
theorem s_lookBack {V M : Mm} {b w : Int} (hT : Tw V) (hN : Nw V) (h : Cl V M) (hb1 : 1 ≤ b) (hb2 : b ≤ 99) (w0 : 0 ≤ w) (w1 : w ≤ 400) : wq (f_Many_lookBack b w M) (fun M' => (∀ p k : Int, 0 ≤ p → p < nP V → 0 ≤ k → k < 24 → msk V b w p k (M' 63 (p * 24 + k).toNat)) ∧ Cl V M' ∧ Fr lbL M M') := by
  have hS := hT.2.1
  have hP := hT.1
  unfold f_Many_lookBack
  refine wq_V (s_fill (row := 61) (n := 405) 1000000 M rfl (by decide)) (fun A ⟨f1, f2⟩ => ?_)
  refine wq_V (s_fill (row := 62) (n := 12) 0 A rfl (by decide)) (fun B ⟨g1, g2⟩ => ?_)
  have FB : Fr lbL M B := (f2.cov rfl : Fr lbL M A).tr (g2.cov rfl)
  have B61 : ∀ i : Nat, i < 405 → B 61 i = 1000000 := fun i hi => by rw [g2.row 61 rfl]; exact f1 i hi
  have CB : Cl V B := (h.fr f2 rfl rfl rfl).fr g2 rfl rfl rfl
  unfold f_Many_lookBack_L22
  refine wq_lp (fun z => z.1 = b ∧ z.2.1 = w ∧ (-1 ≤ z.2.2.1 ∧ z.2.2.1 ≤ 23 + w) ∧ Cl V z.2.2.2 ∧ Fr lbL M z.2.2.2 ∧ (∀ j, z.2.2.1 + 1 ≤ j → j ≤ z.2.2.1 + 5 → dOk V b (23 + w) j z.2.2.2) ∧ (∀ s : Int, 0 ≤ s → s < nS V → rnK V b (23 + w) (z.2.2.1 + 1) s (z.2.2.2 62 s.toNat)) ∧ (∀ p k : Int, 0 ≤ p → p < nP V → z.2.2.1 < k → 0 ≤ k → k < 24 → msk V b w p k (z.2.2.2 63 (p * 24 + k).toNat))) (fun z => (z.2.2.1 + 1).toNat) ?_ FU _ ?_ ?_
  · rintro kH ⟨v1, v2, v3, N⟩ ⟨q1, q2, q3, q4, q5, q6, q7, q8⟩ hk
    have a1 : v1 = b := q1
    have a2 : v2 = w := q2
    have a3 : -1 ≤ v3 ∧ v3 ≤ 23 + w := q3
    have a4 : Cl V N := q4
    have a5 : Fr lbL M N := q5
    have a6 : ∀ j, v3 + 1 ≤ j → j ≤ v3 + 5 → dOk V b (23 + w) j N := q6
    have a7 : ∀ s : Int, 0 ≤ s → s < nS V → rnK V b (23 + w) (v3 + 1) s (N 62 s.toNat) := q7
    have a8 : ∀ p k : Int, 0 ≤ p → p < nP V → v3 < k → 0 ≤ k → k < 24 → msk V b w p k (N 63 (p * 24 + k).toNat) := q8
    clear q1 q2 q3 q4 q5 q6 q7 q8
    subst a1 a2
    show wq (f_Many_lookBack_B22 (fun v1 v2 v3 M => kH (v1, v2, v3, M)) v1 v2 v3 N) _
    unfold f_Many_lookBack_B22
    rw [i32_id (x := v3) (by omega) (by omega), i32_id (x := 24) (by omega) (by omega)]
    refine wq_if (fun c => wq_some ⟨fun p k p0 p1 k0 k1 => a8 p k p0 p1 (by omega) k0 k1, a4, a5⟩) (fun c => ?_)
    refine wq_V (s_waitOn hT a4.1 (show 0 ≤ v3 by omega) (by omega)) (fun X ⟨x1, x2, x3⟩ => ?_)
    have cX : Cl V X := a4.fr x3 rfl rfl rfl
    have FX : Fr lbL M X := a5.tr (x3.cov rfl)
    have X62 : X 62 = N 62 := x3.row 62 rfl
    have X63 : X 63 = N 63 := x3.row 63 rfl
    have m0 := Int.emod_nonneg v3 (show (5 : Int) ≠ 0 by decide)
    have m1 := Int.emod_lt_of_pos v3 (show (0 : Int) < 5 by decide)
    refine s_streetsB (K := 23 + v2) hT hN cX hb1 hb2 (by omega) (by omega) (by omega) (pqO_0 (by omega) (by omega) (a6 (v3 + 1) (by omega) (by omega)) x1) (fun j j0 j1 => dOk_cg (a6 j (by omega) (by omega)) (fun f q f0 f1 q0 q1 => ?_)) (fun s s0 s1 => by rw [X62]; exact a7 s s0 s1) (fun Y y1 y2 y3 y4 y5 => ?_)
    · have n0 := Int.emod_nonneg j (show (5 : Int) ≠ 0 by decide)
      have n1 := Int.emod_lt_of_pos j (show (0 : Int) < 5 by decide)
      refine x2 _ ?_
      unfold sl
      omega
    · have FY : Fr lbL M Y := FX.tr (y2.cov rfl)
      have Y63 : Y 63 = N 63 := by rw [y2.row 63 rfl, X63]
      have dk := pqO_end hT y3
      have dAll : ∀ j, v3 + (-1) + 1 ≤ j → j ≤ v3 + (-1) + 5 → dOk V v1 (23 + v2) j Y := by
        intro j j0 j1
        by_cases e : j = v3
        · rw [e]; exact dk
        · exact y4 j (by omega) (by omega)
      have rAll : ∀ s : Int, 0 ≤ s → s < nS V → rnK V v1 (23 + v2) (v3 + (-1) + 1) s (Y 62 s.toNat) := by
        intro s s0 s1
        rw [show v3 + (-1) + 1 = v3 by omega]
        exact y5 s s0 s1
      dsimp only
      rw [i32_id (x := v3) (by omega) (by omega)]
      refine wq_if (fun d => ?_) (fun d => ?_)
      · refine hk _ ⟨rfl, rfl, ⟨show -1 ≤ v3 + (-1) by omega, show v3 + (-1) ≤ 23 + v2 by omega⟩, y1, FY, dAll, rAll, fun p k p0 p1 k2 k0 k1 => ?_⟩ (show (v3 + (-1) + 1).toNat < (v3 + 1).toNat by omega)
        have k2 : v3 + (-1) < k := k2
        omega
      · refine wq_V (s_keepReached (b := v1) (w := v2) (K := 23 + v2) hT hN y1.1 (by omega) (by omega) w0 w1 dk (by omega)) (fun Z ⟨z1, z2, z3⟩ => ?_)
        have Z61 : Z 61 = Y 61 := z3.row 61 rfl
        refine hk _ ⟨rfl, rfl, ⟨show -1 ≤ v3 + (-1) by omega, show v3 + (-1) ≤ 23 + v2 by omega⟩, y1.fr z3 rfl rfl rfl, FY.tr (z3.cov rfl), fun j j0 j1 => dOk_cg (dAll j j0 j1) (fun f q _ _ _ _ => by show Z 61 (sl j f q) = _; rw [Z61]), fun s s0 s1 => ?_, fun p k p0 p1 k2 k0 k1 => ?_⟩ (show (v3 + (-1) + 1).toNat < (v3 + 1).toNat by omega)
        · show rnK V v1 (23 + v2) (v3 + (-1) + 1) s (Z 62 s.toNat)
          rw [z3.row 62 rfl]
          exact rAll s s0 s1
        · have k2 : v3 + (-1) < k := k2
          show msk V v1 v2 p k (Z 63 (p * 24 + k).toNat)
          by_cases e : k = v3
          · rw [e]; exact z1 p p0 p1
          · rw [z2 _ (fun p' p0' p1' => by omega), Y63]
            exact a8 p k p0 p1 (by omega) k0 k1
  · refine ⟨rfl, rfl, ⟨show -1 ≤ 23 + w by omega, Int.le_refl _⟩, CB, FB, fun j j0 j1 f q f0 f1 q0 q1 => ?_, fun s s0 s1 => ?_, fun p k _ _ k2 _ k1 => ?_⟩
    · have j0 : 23 + w + 1 ≤ j := j0
      show (0 ≤ B 61 (sl j f q) ∧ B 61 (sl j f q) ≤ 1000000) ∧ ∀ L, L ≤ 23 + w → (B 61 (sl j f q) ≤ L ↔ (j ≤ L ∧ rea V b (hr V + L) f (hr V + j) q))
      have n0 := Int.emod_nonneg j (show (5 : Int) ≠ 0 by decide)
      have n1 := Int.emod_lt_of_pos j (show (0 : Int) < 5 by decide)
      rw [B61 _ (by unfold sl; omega)]
      exact ⟨by omega, fun L hL => ⟨fun z => absurd z (by omega), fun z => absurd z.1 (by omega)⟩⟩
    · show rnK V b (23 + w) (23 + w + 1) s (B 62 s.toNat)
      rw [g1 _ (by omega)]
      exact ⟨⟨Int.le_refl _, by omega⟩, fun x x0 x1 => absurd x1 (by omega), Or.inl (by omega)⟩
    · have k2 : 23 + w < k := k2
      omega
  · show (23 + w + 1).toNat < 1000000000
    omega
