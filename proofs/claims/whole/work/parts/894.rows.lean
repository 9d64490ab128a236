def rgL : List (Nat × Nat) := [(78, 47), (109, 99999)]
theorem s_rides {V M : Mm} {R : List (Int × Int × Int)} {L : List (Int × Int)} {w v1 v2 : Int} {kx : Int → Int → Mm → Option (Int × Mm)} {Q : Int × Mm → Prop} (hm : Rm V M) (hB : bzM M R) (hs : stpM M L) (hL : L.length ≤ 9) (hl : R.length + L.length ≤ 36) (w1 : 0 ≤ w) (w2 : w < 6) (k : ∀ M', bzM M' (R ++ rdw (br V w) L) → Fr rgL M M' → wq (kx v1 v2 M') Q) : wq (f_M_allGo_L48 kx FU (v1, v2, w, 0, M)) Q := by
  unfold f_M_allGo_L48
  refine wq_lp (fun z => z.1 = v1 ∧ z.2.1 = v2 ∧ z.2.2.1 = w ∧ (0 ≤ z.2.2.2.1 ∧ z.2.2.2.1 ≤ (L.length : Int)) ∧ bzM z.2.2.2.2 (R ++ rdw (br V w) (L.take z.2.2.2.1.toNat)) ∧ Fr rgL M z.2.2.2.2) (fun z => ((L.length : Int) - z.2.2.2.1).toNat) ?_ FU _ ?_ ?_
  · rintro kH ⟨u1, u2, u3, v4, N⟩ ⟨q1, q2, q3, q4, q5, q6⟩ hk
    have a1 : u1 = v1 := q1
    have a2 : u2 = v2 := q2
    have a3 : u3 = w := q3
    have a4 : 0 ≤ v4 ∧ v4 ≤ (L.length : Int) := q4
    have a5 : bzM N (R ++ rdw (br V w) (L.take v4.toNat)) := q5
    have a6 : Fr rgL M N := q6
    clear q1 q2 q3 q4 q5 q6
    subst a1 a2 a3
    have e51 : N 78 51 = (L.length : Int) := (a6.at 78 51 rfl).trans hs.1
    have hlen : (R ++ rdw (br V u3) (L.take v4.toNat)).length = R.length + v4.toNat := by
      rw [List.length_append, rdw_len, List.length_take]; omega
    have e47 : N 78 47 = (R.length : Int) + v4 := by rw [a5.1, hlen]; omega
    show wq (f_M_allGo_B48 (fun v1 v2 v3 v4 M => kH (v1, v2, v3, v4, M)) kx u1 u2 u3 v4 N) _
    unfold f_M_allGo_B48
    rw [e51, i32_id (x := (L.length : Int)) (by omega) (by omega), i32_id (x := v4) (by omega) (by omega)]
    refine wq_if (fun c => ?_) (fun c => ?_)
    · rw [List.take_of_length_le (by omega)] at a5
      exact k N a5 a6
    · obtain ⟨q, hq⟩ : ∃ q, L[v4.toNat]? = some q := ⟨L[v4.toNat]'(by omega), List.getElem?_eq_getElem _⟩
      obtain ⟨g1, g2⟩ := hs.2 _ _ hq
      rw [e47, i32_id (x := 3 * ((R.length : Int) + v4)) (by omega) (by omega)]
      refine wq_g (by omega) (wq_g (by omega) (wq_d (wq_g (by omega) ?_)))
      rw [up_row (by decide : ¬ (78 = 109)), up_row (by decide : ¬ (112 = 109)), e47, a6.row 111 rfl, a6.row 112 rfl, g1, g2, i32_id (x := 3 * ((R.length : Int) + v4) + 1) (by omega) (by omega)]
      refine wq_g (by omega) (wq_d ?_)
      generalize hX : up (up N 109 (3 * ((R.length : Int) + v4)).toNat q.1) 109 (3 * ((R.length : Int) + v4) + 1).toNat q.2 = X
      have FX : Fr rgL N X := by rw [← hX]; exact (Fr.rf.up (by simp [rgL])).up (by simp [rgL])
      have x78 : X 78 = N 78 := by rw [← hX, up_row (by decide), up_row (by decide)]
      rw [e_broad (hm.fr (a6.tr FX) rfl) w1 w2, bI_s, x78, e47, i32_id (x := 3 * ((R.length : Int) + v4) + 2) (by omega) (by omega)]
      refine wq_g (by omega) (wq_d (wq_d ?_))
      rw [up_row (by decide : ¬ (78 = 109)), x78, e47]
      refine hk _ ⟨rfl, rfl, rfl, ⟨show 0 ≤ v4 + 1 by omega, show v4 + 1 ≤ (L.length : Int) by omega⟩, ?_, ((a6.tr FX).up (by simp [rgL])).up (by simp [rgL])⟩ (show ((L.length : Int) - (v4 + 1)).toNat < ((L.length : Int) - v4).toNat by omega)
      show bzM (up (up X 109 (3 * ((R.length : Int) + v4) + 2).toNat (br V u3)) 78 47 ((R.length : Int) + v4 + 1)) (R ++ rdw (br V u3) (L.take (v4 + 1).toNat))
      rw [show (v4 + 1).toNat = v4.toNat + 1 by omega, rdw_take hq, ← List.append_assoc]
      refine ⟨by rw [up_eq, List.length_append, hlen]; simp; omega, fun j x hx => ?_⟩
      rw [up_row (by decide : ¬ (109 = 78)), ← hX, up_at, up_at, up_at, up_at, up_at, up_at, up_at, up_at, up_at]
      rcases snoc_get hx with ⟨y1, y2⟩ | ⟨y1, y2⟩
      · have hz := a5.2 j x y2
        rw [if_neg (fun z => by omega), if_neg (fun z => by omega), if_neg (fun z => by omega), if_neg (fun z => by omega), if_neg (fun z => by omega), if_neg (fun z => by omega), if_neg (fun z => by omega), if_neg (fun z => by omega), if_neg (fun z => by omega)]
        exact hz
      · rw [y2]
        refine ⟨?_, ?_, ?_⟩
        · rw [if_neg (fun z => by omega), if_neg (fun z => by omega), if_pos ⟨rfl, by omega⟩]
        · rw [if_neg (fun z => by omega), if_pos ⟨rfl, by omega⟩]
        · rw [if_pos ⟨rfl, by omega⟩]
  · exact ⟨rfl, rfl, rfl, ⟨Int.le_refl _, by show (0 : Int) ≤ _; omega⟩, by show bzM M (R ++ rdw (br V w) (L.take 0)); simpa [rdw] using hB, Fr.rf⟩
  · show ((L.length : Int) - 0).toNat < 1000000000
    omega
def agL : List (Nat × Nat) := [(78, 47), (109, 99999), (116, 99999)] ++ fwL
theorem s_allGo {V M : Mm} {n : Int} {o : Nat → Int} (hT : Tw V) (hN : Nw V) (hm : Rm V M) (hn : 1 ≤ n) (hn2 : n ≤ 4) (hnw : n ≤ nW V) (ho : ∀ i, i < n.toNat → 0 ≤ o i ∧ o i < n) (hr : ∀ k : Nat, k < n.toNat → M 114 k = o k) :
    wq (f_M_allGo n M) (fun q => ((q.1 = 0 ∧ stays V o n.toNat) ∨ (q.1 = 1 ∧ ∃ R C, goes V o n.toNat R C ∧ ∀ w x, 0 ≤ w → C w = some x → q.2 116 w.toNat = x)) ∧ Rm V q.2 ∧ Fr agL M q.2) := by
  have hW := hT.2.2.1
  have hP := hT.1
  unfold f_M_allGo
  refine wq_d ?_
  have F0 : Fr agL M (up M 78 47 0) := Fr.rf.up (by simp [agL])
  have hB0 : bzM (up M 78 47 0) [] := ⟨up_eq M 78 47 0, fun k q hq => by simp at hq⟩
  unfold f_M_allGo_L7
  refine wq_lp (fun z => z.1 = n ∧ (0 ≤ z.2.1 ∧ z.2.1 ≤ n) ∧ Rm V z.2.2 ∧ Fr agL M z.2.2 ∧ ∃ R C, goes V o z.2.1.toNat R C ∧ bzM z.2.2 R ∧ ∀ w x, 0 ≤ w → C w = some x → z.2.2 116 w.toNat = x) (fun z => (n - z.2.1).toNat) ?_ FU _ ?_ ?_
  · rintro kH ⟨v1, v2, N⟩ ⟨q1, q2, q3, q4, R, C, q5, q6, q7⟩ hk
    have a1 : v1 = n := q1
    have a2 : 0 ≤ v2 ∧ v2 ≤ n := q2
    have a3 : Rm V N := q3
    have a4 : Fr agL M N := q4
    have g1 : goes V o v2.toNat R C := q5
    have g2 : bzM N R := q6
    have g6 : ∀ w x, 0 ≤ w → C w = some x → N 116 w.toNat = x := q7
    clear q1 q2 q3 q4 q5 q6 q7
    subst a1
    show wq (f_M_allGo_B7 (fun v1 v2 M => kH (v1, v2, M)) v1 v2 N) _
    unfold f_M_allGo_B7
    rw [i32_id (x := v1) (by omega) (by omega), i32_id (x := v2) (by omega) (by omega)]
    refine wq_if (fun c => ?_) (fun c => ?_)
    · have ev : v2 = v1 := by omega
      rw [ev] at g1
      exact wq_some ⟨Or.inr ⟨rfl, R, C, g1, g6⟩, a3, a4⟩
    · have ev2 : (v2 + 1).toNat = v2.toNat + 1 := by omega
      have hk8 : 8 * v2.toNat + 8 ≤ 36 := by omega
      obtain ⟨w1, w2⟩ := ho v2.toNat (by omega)
      have w6 : o v2.toNat < 6 := by omega
      have e114 : N 114 v2.toNat = o v2.toNat := by rw [a4.row 114 rfl]; exact hr _ (by omega)
      have hp := pl_rng hT hN w1 (show o v2.toNat < nW V by omega)
      have hb := (hT.2.2.2.2 _ w1 (show o v2.toNat < nW V by omega)).1
      obtain ⟨r1, r2⟩ := goes_rd (n := v1.toNat) hT hN (fun i hi => by have := ho i hi; omega) v2.toNat (by omega) R C g1
      have hR' : rdOk R := ⟨by omega, r2⟩
      refine wq_g (by omega) ?_
      rw [e114]
      refine wq_I (s_findsWay (R := R) hT hN a3 g2 hR' w1 (by omega)) (fun r M2 ⟨x1, x2, x3, x4⟩ => ?_)
      have x1 : wAR V R (o v2.toNat) (ar M2 110) := x1
      have x3 : Rm V M2 := x3
      have x4 : Fr fwL N M2 := x4
      have F2 : Fr agL M M2 := a4.tr (x4.cov rfl)
      have B2 : bzM M2 R := g2.fr (l := [(110, 99999), (78, 43), (106, 99999), (107, 99999), (78, 51), (111, 99999), (112, 99999)]) x4 rfl
      rcases x2 with ⟨z1, z2⟩ | ⟨z1, z2, L, z3, z4, z5⟩
      · have z1 : r = 0 := z1
        rw [z1]
        exact wq_e (fun z => z (by decide)) (wq_some ⟨Or.inl ⟨rfl, v2.toNat, R, C, _, by omega, g1, x1, z2⟩, x3, F2⟩)
      · have z1 : r = 1 := z1
        have z2 : ar M2 110 (gl V (o v2.toNat)) ≠ 1000000 := z2
        have z3 : wpB V R (br V (o v2.toNat)) (pl V (o v2.toNat)) (ar M2 110) L (gl V (o v2.toNat)) (pl V (o v2.toNat)) := z3
        have z5 : stpM M2 L := z5
        rw [z1]
        refine wq_t (by decide) ?_
        rw [e_goal x3 w1 (by omega), bI_s, i32_id (x := gl V (o v2.toNat)) (by omega) (by omega), i32_id (x := o v2.toNat) (by omega) (by omega)]
        refine wq_g (by omega) (wq_g (by omega) (wq_d ?_))
        have ea : M2 110 (gl V (o v2.toNat)).toNat = ar M2 110 (gl V (o v2.toNat)) := rfl
        rw [ea]
        generalize hX : up M2 116 (o v2.toNat).toNat (ar M2 110 (gl V (o v2.toNat))) = X
        have FX : Fr [(116, 99999)] M2 X := by rw [← hX]; exact Fr.rf.up (by simp)
        have B3 : bzM X R := B2.fr FX rfl
        have s3 : stpM X L := by
          unfold stpM
          rw [FX.row 78 rfl, FX.row 111 rfl, FX.row 112 rfl]
          exact z5
        refine s_rides (x3.fr FX rfl) B3 s3 (Nat.le_succ_of_le z4) (Nat.le_trans (Nat.add_le_add r1 z4) hk8) w1 w6 (fun X2 u1 u2 => ?_)
        have FX2 : Fr agL M X2 := (F2.tr (FX.cov rfl)).tr (u2.cov rfl)
        refine hk _ ⟨rfl, ⟨show 0 ≤ v2 + 1 by omega, show v2 + 1 ≤ v1 by omega⟩, (x3.fr FX rfl).fr u2 rfl, FX2, R ++ rdw (br V (o v2.toNat)) L, fun w => if w = o v2.toNat then some (ar M2 110 (gl V (o v2.toNat))) else C w, ?_, u1, fun w x w0 hx => ?_⟩ (show (v1 - (v2 + 1)).toNat < (v1 - v2).toNat by omega)
        · show goes V o (v2 + 1).toNat _ _
          rw [ev2]
          exact ⟨R, C, ar M2 110, L, g1, x1, z2, z3, z4, rfl, rfl⟩
        · show X2 116 w.toNat = x
          have hx : (if w = o v2.toNat then some (ar M2 110 (gl V (o v2.toNat))) else C w) = some x := hx
          rw [u2.row 116 rfl, ← hX, up_at]
          by_cases ew : w = o v2.toNat
          · rw [if_pos ew] at hx
            cases hx
            rw [if_pos ⟨rfl, by rw [ew]⟩]
          · rw [if_neg ew] at hx
            rw [if_neg (fun z => ew (by omega)), x4.row 116 rfl]
            exact g6 w x w0 hx
  · exact ⟨rfl, ⟨Int.le_refl _, by show (0 : Int) ≤ n; omega⟩, hm.fr (l := [(78, 47)]) (Fr.rf.up (by simp)) rfl, F0, [], fun _ => none, ⟨rfl, rfl⟩, hB0, (fun w x _ hx => by cases hx)⟩
  · show (n - 0).toNat < 1000000000
    omega
def wgL : List (Nat × Nat) := [(78, 57), (78, 58), (115, 99999), (117, 99999)]
theorem s_weighs {M : Mm} {n : Int} {o : Nat → Int} {C : Int → Option Int} {B : Int × Int × (Nat → Int) × (Nat → Int)} (hn : 1 ≤ n) (hn2 : n ≤ 4) (ha : ∀ k : Nat, k < n.toNat → M 116 k = (C k).getD 0) (hr : ∀ k : Nat, k < n.toNat → M 114 k = o k) (hC : ∀ k : Nat, 0 ≤ (C k).getD 0 ∧ (C k).getD 0 ≤ 10399) (hB : bsR n.toNat (M 78 57) (M 78 58) (M 115) (M 117) B) :
    wq (f_M_weighs n M) (fun M' => bsR n.toNat (M' 78 57) (M' 78 58) (M' 115) (M' 117) (updB n.toNat o C B) ∧ Fr wgL M M') := by
  have hl := lstC_rng hC
  have hs := sumC_rng hC
  unfold f_M_weighs f_M_weighs_L7
  refine wq_lp (fun z => z.1 = n ∧ (0 ≤ z.2.2.2.1 ∧ z.2.2.2.1 ≤ n) ∧ z.2.1 = lstC C z.2.2.2.1.toNat ∧ z.2.2.1 = sumC C z.2.2.2.1.toNat ∧ z.2.2.2.2 = M) (fun z => (n - z.2.2.2.1).toNat) ?_ FU _ ?_ ?_
  · rintro kH ⟨v1, v2, v3, v4, N⟩ ⟨q1, q2, q3, q4, q5⟩ hk
    have a1 : v1 = n := q1
    have a2 : 0 ≤ v4 ∧ v4 ≤ n := q2
    have a3 : v2 = lstC C v4.toNat := q3
    have a4 : v3 = sumC C v4.toNat := q4
    have a5 : N = M := q5
    clear q1 q2 q3 q4 q5
    subst a1 a5
    have l1 := hl v4.toNat
    have s1 := hs v4.toNat
    show wq (f_M_weighs_B7 (fun v1 v2 v3 v4 M => kH (v1, v2, v3, v4, M)) _ v1 v2 v3 v4 N) _
    unfold f_M_weighs_B7
    rw [i32_id (x := v1) (by omega) (by omega), i32_id (x := v4) (by omega) (by omega)]
    refine wq_if (fun c => ?_) (fun c => ?_)
    · have ev : v4 = v1 := by omega
      subst ev
      obtain ⟨b1, b2, b3, b4, b5⟩ := hB
      dsimp only
      rw [b3, b4, i32_id (x := v2) (by omega) (by omega), i32_id (x := v3) (by omega) (by omega), i32_id (x := B.1) (by omega) (by omega), i32_id (x := B.2.1) (by omega) (by omega), a3, a4]
      have hJ : (lstC C v4.toNat < B.1 ∨ (lstC C v4.toNat = B.1 ∧ sumC C v4.toNat < B.2.1)) → wq (f_M_weighs_J73 v4 (lstC C v4.toNat) (sumC C v4.toNat) N) (fun M' => bsR v4.toNat (M' 78 57) (M' 78 58) (M' 115) (M' 117) (updB v4.toNat o C B) ∧ Fr wgL N M') := by
        intro hz
        unfold f_M_weighs_J73
        refine wq_d (wq_d ?_)
        generalize hX : up (up N 78 57 (lstC C v4.toNat)) 78 58 (sumC C v4.toNat) = X
        have FX : Fr [(78, 57), (78, 58)] N X := by rw [← hX]; exact (Fr.rf.up (by simp)).up (by simp)
        unfold f_M_weighs_L86
        refine wq_lp (fun z => z.1 = v4 ∧ (0 ≤ z.2.1 ∧ z.2.1 ≤ v4) ∧ (∀ k : Nat, (k : Int) < z.2.1 → z.2.2 115 k = o k ∧ z.2.2 117 k = (C k).getD 0) ∧ Fr [(115, 99999), (117, 99999)] X z.2.2) (fun z => (v4 - z.2.1).toNat) ?_ FU _ ?_ ?_
        · rintro kG ⟨u1, u4, K⟩ ⟨p1, p2, p3, p4⟩ hg
          have c1 : u1 = v4 := p1
          have c2 : 0 ≤ u4 ∧ u4 ≤ v4 := p2
          have c3 : ∀ k : Nat, (k : Int) < u4 → K 115 k = o k ∧ K 117 k = (C k).getD 0 := p3
          have c4 : Fr [(115, 99999), (117, 99999)] X K := p4
          clear p1 p2 p3 p4
          subst c1
          show wq (f_M_weighs_B86 (fun v1 v4 M => kG (v1, v4, M)) u1 u4 K) _
          unfold f_M_weighs_B86
          rw [i32_id (x := u1) (by omega) (by omega), i32_id (x := u4) (by omega) (by omega)]
          refine wq_if (fun d => wq_some ⟨?_, ?_⟩) (fun d => wq_g (by omega) (wq_g (by omega) (wq_d (wq_g (by omega) (wq_g (by omega) (wq_d (hg _ ⟨rfl, ⟨show 0 ≤ u4 + 1 by omega, show u4 + 1 ≤ u1 by omega⟩, fun k hk' => ?_, (c4.up (by simp)).up (by simp)⟩ (show (u1 - (u4 + 1)).toNat < (u1 - u4).toNat by omega))))))))
          · unfold updB
            rw [if_pos hz, c4.row 78 rfl]
            refine ⟨⟨l1.1, by show lstC C u1.toNat ≤ 1000000; omega⟩, ⟨s1.1, by show sumC C u1.toNat ≤ 50000; omega⟩, ?_, ?_, fun _ k hk' => c3 k (by omega)⟩
            · rw [← hX, up_col (by decide), up_eq]
            · rw [← hX, up_eq]
          · exact (FX.cov rfl : Fr wgL N X).tr (c4.cov rfl)
          · have hk' : (k : Int) < u4 + 1 := hk'
            have e114 : K 114 = N 114 := by rw [c4.row 114 rfl, FX.row 114 rfl]
            have e116 : K 116 = N 116 := by rw [c4.row 116 rfl, FX.row 116 rfl]
            show up (up K 115 u4.toNat (K 114 u4.toNat)) 117 u4.toNat ((up K 115 u4.toNat (K 114 u4.toNat)) 116 u4.toNat) 115 k = o k ∧ up (up K 115 u4.toNat (K 114 u4.toNat)) 117 u4.toNat ((up K 115 u4.toNat (K 114 u4.toNat)) 116 u4.toNat) 117 k = (C k).getD 0
            rw [up_row (by decide : ¬ (115 = 117)), up_at, up_at, up_row (by decide : ¬ (117 = 115)), up_row (by decide : ¬ (116 = 115)), e114, e116]
            by_cases ek : k = u4.toNat
            · rw [if_pos ⟨rfl, ek⟩, if_pos ⟨rfl, ek⟩, ek]
              exact ⟨hr _ (by omega), ha _ (by omega)⟩
            · rw [if_neg (fun z => ek z.2), if_neg (fun z => ek z.2)]
              exact c3 k (by omega)
        · exact ⟨rfl, ⟨Int.le_refl _, by show (0 : Int) ≤ v4; omega⟩, fun k hk' => absurd hk' (by show ¬ (k : Int) < 0; omega), Fr.rf⟩
        · show (v4 - 0).toNat < 1000000000
          omega
      have hno : ¬ (lstC C v4.toNat < B.1 ∨ (lstC C v4.toNat = B.1 ∧ sumC C v4.toNat < B.2.1)) → wq (some N) (fun M' => bsR v4.toNat (M' 78 57) (M' 78 58) (M' 115) (M' 117) (updB v4.toNat o C B) ∧ Fr wgL N M') := by
        intro hz
        refine wq_some ⟨?_, Fr.rf⟩
        unfold updB
        rw [if_neg hz]
        exact ⟨b1, b2, b3, b4, b5⟩
      refine wq_if (fun d => hno (fun z => by omega)) (fun d => wq_if (fun e => hJ (Or.inl (by omega))) (fun e => wq_if (fun g => hJ (Or.inr ⟨by omega, g⟩)) (fun g => hno (fun z => by omega))))
    · have hv := hC v4.toNat
      have e116 : N 116 v4.toNat = (C v4.toNat).getD 0 := ha _ (by omega)
      have hgo : ∀ u2, u2 = lstC C (v4.toNat + 1) → wq (f_M_weighs_J32 (fun v1 v2 v3 v4 M => kH (v1, v2, v3, v4, M)) (fun v1 v2 v3 M1 => if i32 (M1 78 57) < i32 v2 then
        some M1
      else
        if ¬ i32 v2 = i32 (M1 78 57) then
          f_M_weighs_J73 v1 v2 v3 M1
        else
          if i32 v3 < i32 (M1 78 58) then
            f_M_weighs_J73 v1 v2 v3 M1
          else
            some M1) v1 u2 v3 v4 N) (fun M' => bsR v1.toNat (M' 78 57) (M' 78 58) (M' 115) (M' 117) (updB v1.toNat o C B) ∧ Fr wgL N M') := by
        intro u2 hu
        unfold f_M_weighs_J32
        rw [i32_id (x := v4) (by omega) (by omega), e116]
        refine wq_g (by omega) (hk _ ⟨rfl, ⟨show 0 ≤ v4 + 1 by omega, show v4 + 1 ≤ v1 by omega⟩, ?_, ?_, rfl⟩ (show (v1 - (v4 + 1)).toNat < (v1 - v4).toNat by omega))
        · show u2 = lstC C (v4 + 1).toNat
          rw [show (v4 + 1).toNat = v4.toNat + 1 by omega, hu]
        · show v3 + (C v4.toNat).getD 0 = sumC C (v4 + 1).toNat
          rw [show (v4 + 1).toNat = v4.toNat + 1 by omega, a4]
          rfl
      refine wq_g (by omega) ?_
      rw [e116, i32_id (x := (C v4.toNat).getD 0) (by omega) (by omega), i32_id (x := v2) (by omega) (by omega)]
      refine wq_if (fun d => hgo v2 ?_) (fun d => wq_g (by omega) (hgo _ ?_))
      · unfold lstC
        rw [← a3, if_neg (by omega)]
      · unfold lstC
        rw [← a3, if_pos (by omega)]
  · exact ⟨rfl, ⟨Int.le_refl _, by show (0 : Int) ≤ n; omega⟩, rfl, rfl, rfl⟩
  · show (n - 0).toNat < 1000000000
    omega
