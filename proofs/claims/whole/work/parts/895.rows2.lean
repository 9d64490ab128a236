def rwL : List (Nat × Nat) := [(78, 47), (78, 57), (78, 58), (109, 99999), (114, 99999), (115, 99999), (116, 99999), (117, 99999)] ++ fwL
/-- what is told of the best order -/
def rwv (n k : Int) (B : Int × Int × (Nat → Int) × (Nat → Int)) : Int := if B.1 = 1000000 then -1 else if k = -1 then B.1 else if 10 ≤ k then B.2.2.2 (k - 10).toNat else B.2.2.1 k.toNat
theorem s_rowsM {V M : Mm} {n k : Int} {Q : Int × Mm → Prop} (hT : Tw V) (hN : Nw V) (hm : Rm V M) (hn : 1 ≤ n) (hn2 : n ≤ 4) (hnw : n ≤ nW V) (hk0 : (-1 ≤ k ∧ k ≤ n - 1) ∨ (10 ≤ k ∧ k ≤ n + 9)) (hq : ∀ B M', best V n (n ^ n.toNat).toNat B → Fr rwL M M' → Q (rwv n k B, M')) :
    wq (f_M_rows_L58 (fun v1 v2 v3 M7 => bd (up M7 78 57 1000000) (fun M8 =>
            bd (up M8 78 58 0) (fun M9 =>
            f_M_rows_L89 (fun v2 M15 => bd (up M15 78 47 0) (fun M16 =>
                if ¬ i32 (M16 78 57) = i32 1000000 then
                  if ¬ i32 v2 = i32 ((-1)) then
                    if i32 10 ≤ i32 v2 then
                      gd (0 ≤ i32 (v2 - 10) ∧ i32 (v2 - 10) < ((4 : Nat) : Int)) <|
                      some (M16 117 (i32 (v2 - 10)).toNat, M16)
                    else
                      gd (0 ≤ i32 v2 ∧ i32 v2 < ((4 : Nat) : Int)) <|
                      some (M16 115 (i32 v2).toNat, M16)
                  else
                    some (M16 78 57, M16)
                else
                  some ((-1), M16))) FU (v1, v2, v3, 0, M9)))) FU (n, k, 1, 0, M)) Q := by
  have hpw := pw_rng hn hn2
  unfold f_M_rows_L58
  refine wq_lp (fun z => z.1 = n ∧ z.2.1 = k ∧ (0 ≤ z.2.2.2.1 ∧ z.2.2.2.1 ≤ n) ∧ z.2.2.1 = n ^ z.2.2.2.1.toNat ∧ z.2.2.2.2 = M) (fun z => (n - z.2.2.2.1).toNat) ?_ FU _ ?_ ?_
  · rintro kH ⟨v1, v2, v3, v4, N⟩ ⟨q1, q2, q3, q4, q5⟩ hk
    have a1 : v1 = n := q1
    have a2 : v2 = k := q2
    have a3 : 0 ≤ v4 ∧ v4 ≤ n := q3
    have a4 : v3 = n ^ v4.toNat := q4
    have a5 : N = M := q5
    clear q1 q2 q3 q4 q5
    subst a1 a2 a5
    show wq (f_M_rows_B58 (fun v1 v2 v3 v4 M => kH (v1, v2, v3, v4, M)) _ v1 v2 v3 v4 N) _
    unfold f_M_rows_B58
    rw [i32_id (x := v1) (by omega) (by omega), i32_id (x := v4) (by omega) (by omega)]
    refine wq_if (fun c => ?_) (fun c => hk _ ⟨rfl, rfl, ⟨show 0 ≤ v4 + 1 by omega, show v4 + 1 ≤ v1 by omega⟩, ?_, rfl⟩ (show (v1 - (v4 + 1)).toNat < (v1 - v4).toNat by omega))
    · have ev : v4 = v1 := by omega
      subst ev
      dsimp only
      rw [bd_s, bd_s]
      generalize hX : up (up N 78 57 1000000) 78 58 0 = X
      have FX0 : Fr [(78, 57), (78, 58)] N X := by rw [← hX]; exact (Fr.rf.up (by simp)).up (by simp)
      have FX : Fr rwL N X := FX0.cov rfl
      have x6 : X 78 57 = 1000000 := by rw [← hX, up_col (by decide), up_eq]
      have x7 : X 78 58 = 0 := by rw [← hX, up_eq]
      unfold f_M_rows_L89
      refine wq_lp (fun z => z.1 = v4 ∧ z.2.1 = v2 ∧ z.2.2.1 = v3 ∧ (0 ≤ z.2.2.2.1 ∧ z.2.2.2.1 ≤ v3) ∧ Rm V z.2.2.2.2 ∧ Fr rwL N z.2.2.2.2 ∧ ∃ B, best V v4 z.2.2.2.1.toNat B ∧ bsR v4.toNat (z.2.2.2.2 78 57) (z.2.2.2.2 78 58) (z.2.2.2.2 115) (z.2.2.2.2 117) B) (fun z => (v3 - z.2.2.2.1).toNat) ?_ FU _ ?_ ?_
      · rintro kG ⟨w1, w5, w2, w3, K⟩ ⟨p1, p8, p2, p3, p4, p5, B, p6, p7⟩ hg
        have b1 : w1 = v4 := p1
        have b8 : w5 = v2 := p8
        have b2 : w2 = v3 := p2
        have b3 : 0 ≤ w3 ∧ w3 ≤ v3 := p3
        have b4 : Rm V K := p4
        have b5 : Fr rwL N K := p5
        have b6 : best V v4 w3.toNat B := p6
        have b7 : bsR v4.toNat (K 78 57) (K 78 58) (K 115) (K 117) B := p7
        clear p1 p2 p3 p4 p5 p6 p7 p8
        subst b1 b2 b8
        show wq (f_M_rows_B89 (fun v1 v2 v3 v4 M => kG (v1, v2, v3, v4, M)) _ w1 w5 w2 w3 K) _
        unfold f_M_rows_B89
        rw [i32_id (x := w2) (by omega) (by omega), i32_id (x := w3) (by omega) (by omega)]
        refine wq_if (fun d => ?_) (fun d => ?_)
        · have ew : w3 = w2 := by omega
          have hb1 := b7.1
          rw [ew, a4] at b6
          dsimp only
          rw [bd_s]
          have F1 : Fr [(78, 47)] K (up K 78 47 0) := Fr.rf.up (by simp)
          have hQ := hq B (up K 78 47 0) b6 (b5.tr (F1.cov rfl))
          rw [F1.row 115 rfl, F1.row 117 rfl, F1.at 78 57 rfl, b7.2.2.1, i32_id (x := B.1) (by omega) (by omega), i32_id (x := 1000000) (by omega) (by omega), i32_id (x := w5) (by omega) (by omega), i32_id (x := -1) (by omega) (by omega), i32_id (x := 10) (by omega) (by omega)]
          unfold rwv at hQ
          by_cases g : B.1 = 1000000
          · rw [if_pos g] at hQ
            exact wq_e (fun z => z g) (wq_some hQ)
          · rw [if_neg g] at hQ
            refine wq_t g ?_
            by_cases g2 : w5 = -1
            · rw [if_pos g2] at hQ
              exact wq_e (fun z => z g2) (wq_some hQ)
            · rw [if_neg g2] at hQ
              refine wq_t g2 ?_
              by_cases g3 : 10 ≤ w5
              · rw [if_pos g3, ← (b7.2.2.2.2 g (w5 - 10).toNat (by omega)).2] at hQ
                rw [i32_id (x := w5 - 10) (by omega) (by omega)]
                exact wq_t g3 (wq_g (by omega) (wq_some hQ))
              · rw [if_neg g3, ← (b7.2.2.2.2 g w5.toNat (by omega)).1] at hQ
                exact wq_e g3 (wq_g (by omega) (wq_some hQ))
        · have ev : ((w3.toNat : Nat) : Int) = w3 := by omega
          have hnext : ∀ K' B', Rm V K' → Fr rwL N K' → best V w1 (w3.toNat + 1) B' → bsR w1.toNat (K' 78 57) (K' 78 58) (K' 115) (K' 117) B' → wq (kG (w1, w5, w2, w3 + 1, K')) Q := fun K' B' z1 z2 z3 z4 => hg _ ⟨rfl, rfl, rfl, ⟨show 0 ≤ w3 + 1 by omega, show w3 + 1 ≤ w2 by omega⟩, z1, z2, B', by show best V w1 (w3 + 1).toNat B'; rw [show (w3 + 1).toNat = w3.toNat + 1 by omega]; exact z3, z4⟩ (show (w2 - (w3 + 1)).toNat < (w2 - w3).toNat by omega)
          refine wq_I (s_mIsOrder (M := K) hn hn2 b3.1 (by omega)) (fun r K1 ⟨c1, c2, c3⟩ => ?_)
          have c1 : tf r (isO w1 w3) := c1
          have c3 : Fr [(114, 99999)] K K1 := c3
          have F1 : Fr rwL N K1 := b5.tr (c3.cov rfl)
          have C1 : Rm V K1 := b4.fr c3 rfl
          have R1 : bsR w1.toNat (K1 78 57) (K1 78 58) (K1 115) (K1 117) B := by rw [c3.row 78 rfl, c3.row 115 rfl, c3.row 117 rfl]; exact b7
          rcases c1 with ⟨g1, g2⟩ | ⟨g1, g2⟩
          · subst g1
            refine wq_e (by decide) ?_
            refine wq_I (s_allGo hT hN C1 hn hn2 hnw (fun i hi => dgt_rng hn _ _) c2) (fun r2 K2 ⟨u1, u2, u3⟩ => ?_)
            have u2 : Rm V K2 := u2
            have u3 : Fr agL K1 K2 := u3
            have F2 : Fr rwL N K2 := F1.tr (u3.cov rfl)
            have R2 : bsR w1.toNat (K2 78 57) (K2 78 58) (K2 115) (K2 117) B := by rw [u3.at 78 57 rfl, u3.at 78 58 rfl, u3.row 115 rfl, u3.row 117 rfl]; exact R1
            rcases u1 with ⟨y1, y2⟩ | ⟨y1, R, C, y2, y3⟩
            · have y1 : r2 = 0 := y1
              rw [y1]
              refine wq_t (by decide) (hnext K2 B u2 F2 ⟨B, b6, Or.inr (Or.inl ?_)⟩ R2)
              rw [ev]
              exact ⟨g2, y2, rfl⟩
            · have y1 : r2 = 1 := y1
              have y3 : ∀ w x, 0 ≤ w → C w = some x → K2 116 w.toNat = x := y3
              rw [y1]
              obtain ⟨m1, m2⟩ := goes_C hT hN hn hnw g2 y2
              refine wq_e (by decide) ?_
              refine wq_V (s_weighs (o := ordN w1 w3) (C := C) (B := B) hn hn2 (fun k hk' => y3 k _ (by omega) (m2 k hk')) (fun k hk' => by rw [u3.row 114 rfl]; exact c2 k hk') m1 R2) (fun K3 ⟨x1, x2⟩ => ?_)
              refine hnext K3 _ (u2.fr x2 rfl) (F2.tr (x2.cov rfl)) ⟨B, b6, Or.inr (Or.inr ?_)⟩ x1
              rw [ev]
              exact ⟨g2, R, C, y2, rfl⟩
          · subst g1
            refine wq_t (by decide) (hnext K1 B C1 F1 ⟨B, b6, Or.inl ?_⟩ R1)
            rw [ev]
            exact ⟨g2, rfl⟩
      · refine ⟨rfl, rfl, rfl, ⟨Int.le_refl _, by show (0 : Int) ≤ v3; omega⟩, hm.fr FX0 rfl, FX, _, rfl, ?_⟩
        show bsR v4.toNat (X 78 57) (X 78 58) (X 115) (X 117) (1000000, 0, fun _ => 0, fun _ => 0)
        exact ⟨⟨by decide, by decide⟩, ⟨by decide, by decide⟩, x6, x7, fun z => absurd rfl z⟩
      · show (v3 - 0).toNat < 1000000000
        omega
    · show v3 * v1 = v1 ^ (v4 + 1).toNat
      rw [show (v4 + 1).toNat = v4.toNat + 1 by omega, Int.pow_succ, a4]
  · exact ⟨rfl, rfl, ⟨Int.le_refl _, by show (0 : Int) ≤ n; omega⟩, by show (1 : Int) = n ^ (0 : Nat); rw [Int.pow_zero], rfl⟩
  · show (n - 0).toNat < 1000000000
    omega
theorem call_rows {n : Nat} {v1 v2 : Int} (i1 : IR v1) (i2 : IR v2) : CallOk n (f_BT_rows v1 v2) (f_M_rows v1 v2) := by
  refine call_q (fun M r => gA ((1 ≤ v1 ∧ v1 ≤ 4) ∧ v1 ≤ nW M ∧ ((-1 ≤ v2 ∧ v2 ≤ v1 - 1) ∨ (10 ≤ v2 ∧ v2 ≤ v1 + 9))) (fun r => ∃ B, best M v1 (v1 ^ v1.toNat).toNat B ∧ r = rwv v1 v2 B) r) ([(48, 6)] ++ foL) rwL (fun M r r' hR => gA_un (fun c x y hx hy => ?_)) rfl rfl rfl rfl rfl (fun M hR => ?_) (fun M M1 hR hm hl => ?_)
  · obtain ⟨B, a1, a2⟩ := hx
    obtain ⟨B', b1, b2⟩ := hy
    rw [a2, b2, best_un hR.1 hR.2.1 c.1.1 c.2.1 _ _ _ a1 b1]
  · obtain ⟨h1, h2, h3, -, -, -, -, -, -, h10, -⟩ := id hR
    have hW := h1.2.2.1
    have hno : ¬ ((1 ≤ v1 ∧ v1 ≤ 4) ∧ v1 ≤ nW M ∧ ((-1 ≤ v2 ∧ v2 ≤ v1 - 1) ∨ (10 ≤ v2 ∧ v2 ≤ v1 + 9))) → wq (some ((-1 : Int), M)) (fun q => gA ((1 ≤ v1 ∧ v1 ≤ 4) ∧ v1 ≤ nW M ∧ ((-1 ≤ v2 ∧ v2 ≤ v1 - 1) ∨ (10 ≤ v2 ∧ v2 ≤ v1 + 9))) (fun r => ∃ B, best M v1 (v1 ^ v1.toNat).toNat B ∧ r = rwv v1 v2 B) q.1 ∧ Cc M q.2 ∧ q.2 48 10 = 0 ∧ Fr ([(48, 6)] ++ foL) M q.2) := fun z => wq_some ⟨Or.inr ⟨z, rfl⟩, h3.2.2, h10.2.2, Fr.rf⟩
    unfold f_BT_rows
    rw [i32_id (x := v1) i1.1 i1.2, i32_id (x := 1) (by omega) (by omega), i32_id (x := 4) (by omega) (by omega), e_count2 h3.1, bI_s, i32_id (x := nW M) (by omega) (by omega)]
    refine wq_if (fun c => hno (fun z => by omega)) (fun c => wq_if (fun d => hno (fun z => by omega)) (fun d => wq_if (fun e => hno (fun z => by omega)) (fun e => ?_)))
    clear hno
    refine wq_I (s_findOrder h1 h2 h3 (by omega) (by omega) (by omega)) (fun r M3 ⟨⟨B, a1, a2, a3⟩, a4, a5, a6⟩ => ?_)
    have a2 : bsR v1.toNat (M3 55 6) (M3 55 7) (M3 56) (M3 57) B := a2
    have a3 : r = (if B.1 = 1000000 then 0 else 1) := a3
    have a4 : Cl M M3 := a4
    have a5 : M3 48 10 = 0 := a5
    have a6 : Fr foL M M3 := a6
    have i21 := i2.1
    have i22 := i2.2
    have hfin : ∀ x, (((-1 ≤ v2 ∧ v2 ≤ v1 - 1) ∨ (10 ≤ v2 ∧ v2 ≤ v1 + 9)) → x = rwv v1 v2 B) → (¬ ((-1 ≤ v2 ∧ v2 ≤ v1 - 1) ∨ (10 ≤ v2 ∧ v2 ≤ v1 + 9)) → x = -1) → wq (some (x, M3)) (fun q => gA ((1 ≤ v1 ∧ v1 ≤ 4) ∧ v1 ≤ nW M ∧ ((-1 ≤ v2 ∧ v2 ≤ v1 - 1) ∨ (10 ≤ v2 ∧ v2 ≤ v1 + 9))) (fun r => ∃ B, best M v1 (v1 ^ v1.toNat).toNat B ∧ r = rwv v1 v2 B) q.1 ∧ Cc M q.2 ∧ q.2 48 10 = 0 ∧ Fr ([(48, 6)] ++ foL) M q.2) := by
      intro x hx hx'
      refine wq_some ⟨?_, a4.2.2, a5, a6.cov rfl⟩
      by_cases z : ((-1 ≤ v2 ∧ v2 ≤ v1 - 1) ∨ (10 ≤ v2 ∧ v2 ≤ v1 + 9))
      · exact Or.inl ⟨⟨⟨by omega, by omega⟩, by omega, z⟩, B, a1, hx z⟩
      · exact Or.inr ⟨fun y => z y.2.2, hx' z⟩
    by_cases g : B.1 = 1000000
    · rw [if_pos g] at a3
      subst a3
      exact wq_e (fun z => z (by decide)) (hfin (-1) (fun _ => by unfold rwv; rw [if_pos g]) (fun _ => rfl))
    · rw [if_neg g] at a3
      subst a3
      have hb := a2.2.2.2.2 g
      refine wq_t (by decide) ?_
      rw [i32_id (x := v2) i2.1 i2.2, i32_id (x := -1) (by omega) (by omega)]
      have hJ : ¬ (0 ≤ v2 ∧ v2 < v1) → v2 ≠ -1 → wq (f_BT_rows_J69 v1 v2 M3) (fun q => gA ((1 ≤ v1 ∧ v1 ≤ 4) ∧ v1 ≤ nW M ∧ ((-1 ≤ v2 ∧ v2 ≤ v1 - 1) ∨ (10 ≤ v2 ∧ v2 ≤ v1 + 9))) (fun r => ∃ B, best M v1 (v1 ^ v1.toNat).toNat B ∧ r = rwv v1 v2 B) q.1 ∧ Cc M q.2 ∧ q.2 48 10 = 0 ∧ Fr ([(48, 6)] ++ foL) M q.2) := by
        intro z1 z2
        unfold f_BT_rows_J69
        rw [i32_id (x := v2) i2.1 i2.2, i32_id (x := 10) (by omega) (by omega), i32_id (x := v1) i1.1 i1.2]
        refine wq_if (fun y => hfin (-1) (fun x => by omega) (fun _ => rfl)) (fun y => ?_)
        rw [i32_id (x := v2 - 10) (by omega) (by omega)]
        refine wq_if (fun y2 => hfin (-1) (fun x => by omega) (fun _ => rfl)) (fun y2 => ?_)
        rw [e_cell_in (n := 4) M3 rfl (by decide) (by omega) (by omega), bI_s]
        refine hfin _ (fun _ => ?_) (fun x => absurd (Or.inr ⟨by omega, by omega⟩) x)
        unfold rwv
        rw [if_neg g, if_neg z2, if_pos (by omega)]
        exact (hb _ (by omega)).2
      by_cases g2 : v2 = -1
      · refine wq_e (fun z => z g2) (hfin _ (fun _ => ?_) (fun x => absurd (Or.inl ⟨by omega, by omega⟩) x))
        unfold rwv
        rw [if_neg g, if_pos g2]
        exact a2.2.2.1
      · refine wq_t g2 (wq_if (fun y => hJ (fun z => by omega) g2) (fun y => ?_))
        refine wq_if (fun y2 => hJ (fun z => by omega) g2) (fun y2 => ?_)
        rw [e_cell_in (n := 4) M3 rfl (by decide) (by omega) (by omega), bI_s]
        refine hfin _ (fun _ => ?_) (fun x => absurd (Or.inl ⟨by omega, by omega⟩) x)
        unfold rwv
        rw [if_neg g, if_neg g2, if_neg (by omega)]
        exact (hb _ (by omega)).1
  · obtain ⟨h1, h2, h3, -⟩ := id hR
    have hW := h1.2.2.1
    have hno : ¬ ((1 ≤ v1 ∧ v1 ≤ 4) ∧ v1 ≤ nW M ∧ ((-1 ≤ v2 ∧ v2 ≤ v1 - 1) ∨ (10 ≤ v2 ∧ v2 ≤ v1 + 9))) → wq (some ((-1 : Int), M1)) (fun q => gA ((1 ≤ v1 ∧ v1 ≤ 4) ∧ v1 ≤ nW M ∧ ((-1 ≤ v2 ∧ v2 ≤ v1 - 1) ∨ (10 ≤ v2 ∧ v2 ≤ v1 + 9))) (fun r => ∃ B, best M v1 (v1 ^ v1.toNat).toNat B ∧ r = rwv v1 v2 B) q.1 ∧ Fr rwL M1 q.2) := fun z => wq_some ⟨Or.inr ⟨z, rfl⟩, Fr.rf⟩
    unfold f_M_rows
    rw [e_in _ i1 (by decide) (by decide) (by decide) (by decide), bI_s]
    refine wq_c0 (fun c => hno (fun z => c z.1)) (fun c => ?_)
    rw [e_mW hm, bI_s, i32_id (x := nW M) (by omega) (by omega), i32_id (x := v1) i1.1 i1.2]
    refine wq_if (fun d => hno (fun z => by omega)) (fun d => ?_)
    rw [i32_id (x := v1 - 1) (by omega) (by omega), i32_id (x := v1 + 9) (by omega) (by omega), e_in _ i2 (by decide) (by decide) (by omega) (by omega), bI_s]
    refine wq_c1 (fun e => ?_) (fun e => ?_)
    · exact s_rowsM h1 h2 hm c.1 c.2 (by omega) (Or.inl e) (fun B M' z1 z2 => ⟨Or.inl ⟨⟨c, by omega, Or.inl e⟩, B, z1, rfl⟩, z2⟩)
    · rw [e_in _ i2 (by decide) (by decide) (by omega) (by omega), bI_s]
      refine wq_c1 (fun g => ?_) (fun g => hno (fun z => by omega))
      exact s_rowsM h1 h2 hm c.1 c.2 (by omega) (Or.inr g) (fun B M' z1 z2 => ⟨Or.inl ⟨⟨c, by omega, Or.inr g⟩, B, z1, rfl⟩, z2⟩)
