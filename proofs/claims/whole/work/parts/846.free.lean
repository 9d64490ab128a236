/-- one of a breadth may take a street from an hour on, others being in it -/
def fre (V : Mm) (R : List (Int × Int × Int)) (s b h : Int) : Prop := ∀ k : Int, 0 ≤ k → k < tk V s → b + crw V R s (h + k) ≤ wid V s (h + k)
def wfo (V : Mm) (s b h n : Int) : Prop := ∀ k : Int, 0 ≤ k → k < n → b ≤ wid V s (h + k)
theorem fre_nil (V : Mm) (s b h : Int) : fre V [] s b h ↔ wfo V s b h (tk V s) := by
  unfold fre wfo crw
  constructor
  · intro q k h1 h2
    have := q k h1 h2
    omega
  · intro q k h1 h2
    have := q k h1 h2
    omega
theorem s_isWide {V M : Mm} (hT : Tw V) (hN : Nw V) (h : Rm V M) {s b hour n : Int} (h1 : 0 ≤ s) (h2 : s < nS V) (hb1 : -1000000 ≤ b) (hb2 : b ≤ 1000000) (h3 : 0 ≤ hour) (h4 : hour ≤ 900000) (h5 : 0 ≤ n) (h6 : n ≤ 1000) : wq (f_M_isWide s b hour n M) (fun q => tf q.1 (wfo V s b hour n) ∧ Rm V q.2 ∧ Fr wsL M q.2) := by
  unfold f_M_isWide f_M_isWide_L3
  refine wq_lp (fun z => z.1 = s ∧ z.2.1 = b ∧ z.2.2.1 = hour ∧ z.2.2.2.1 = n ∧ (0 ≤ z.2.2.2.2.1 ∧ z.2.2.2.2.1 ≤ n) ∧ wfo V s b hour z.2.2.2.2.1 ∧ Rm V z.2.2.2.2.2 ∧ Fr wsL M z.2.2.2.2.2) (fun z => (n - z.2.2.2.2.1).toNat) ?_ FU _ ?_ ?_
  · rintro kH ⟨v1, v2, v3, v4, v5, M1⟩ ⟨g1, g2, g3, g4, g5, g6, g7, g8⟩ hk
    have g1 : v1 = s := g1
    have g2 : v2 = b := g2
    have g3 : v3 = hour := g3
    have g4 : v4 = n := g4
    subst g1 g2 g3 g4
    have g5 : 0 ≤ v5 ∧ v5 ≤ v4 := g5
    have g6 : wfo V v1 v2 v3 v5 := g6
    have g7 : Rm V M1 := g7
    have g8 : Fr wsL M M1 := g8
    show wq (f_M_isWide_B3 (fun v1 v2 v3 v4 v5 M => kH (v1, v2, v3, v4, v5, M)) v1 v2 v3 v4 v5 M1) _
    unfold f_M_isWide_B3
    rw [i32_id (x := v4) (by omega) (by omega), i32_id (x := v5) (by omega) (by omega)]
    refine wq_if (fun c => ?_) (fun c => ?_)
    · have e : v5 = v4 := by omega
      subst e
      exact wq_some ⟨Or.inl ⟨rfl, g6⟩, g7, g8⟩
    · refine wq_I (s_mWidthOf hT hN g7 h1 h2 (by omega) (by omega)) (fun r M2 ⟨er, k1, k2⟩ => ?_)
      have er : r = wid V v1 (v3 + v5) := er
      have hw := wid_rng V v1 (v3 + v5)
      rw [i32_id (x := v2) (by omega) (by omega), i32_id (x := r) (by omega) (by omega)]
      refine wq_if (fun d => ?_) (fun d => ?_)
      · refine hk _ ⟨rfl, rfl, rfl, rfl, ⟨show 0 ≤ v5 + 1 by omega, show v5 + 1 ≤ v4 by omega⟩, ?_, k1, g8.tr k2⟩ (show (v4 - (v5 + 1)).toNat < (v4 - v5).toNat by omega)
        intro k z1 z2
        have z2 : k < v5 + 1 := z2
        by_cases e : k = v5
        · subst e; omega
        · exact g6 k z1 (by omega)
      · refine wq_some ⟨Or.inr ⟨rfl, fun q => ?_⟩, k1, g8.tr k2⟩
        have := q v5 g5.1 (by omega)
        omega
  · exact ⟨rfl, rfl, rfl, rfl, ⟨Int.le_refl _, h5⟩, fun k z1 z2 => absurd (show k < 0 from z2) (by omega), h, Fr.rf⟩
  · show (n - 0).toNat < 1000000000
    omega
theorem s_isPassed {V M : Mm} (hT : Tw V) (hN : Nw V) (h : Rm V M) {s b hour : Int} (h1 : 0 ≤ s) (h2 : s < nS V) (hb1 : -1000000 ≤ b) (hb2 : b ≤ 1000000) (h3 : 0 ≤ hour) (h4 : hour ≤ 900000) : wq (f_M_isPassed s b hour M) (fun q => tf q.1 (fre V [] s b hour) ∧ Rm V q.2 ∧ Fr wsL M q.2) := by
  have hS := hT.2.1.2
  have ht := (hT.2.2.2.1 s h1 h2).2.2.2.1
  unfold f_M_isPassed
  rw [e_takes h h1 (by omega), bI_s]
  refine wq_I (s_isWide hT hN h h1 h2 hb1 hb2 h3 h4 (show 0 ≤ tk V s by omega) (by omega)) (fun r M2 ⟨er, k1, k2⟩ => ?_)
  have er : tf r (wfo V s b hour (tk V s)) := er
  refine wq_g ?_ (wq_some ⟨tf_iff er (fre_nil V s b hour).symm, k1, k2⟩)
  rcases er with ⟨e, -⟩ | ⟨e, -⟩ <;> subst e
  · exact Or.inr (by decide)
  · exact Or.inl (by decide)
theorem s_isFree {V M : Mm} {R : List (Int × Int × Int)} (hT : Tw V) (hN : Nw V) (h : Rm V M) (hB : bzM M R) (hR : rdOk R) {s b hour : Int} (h1 : 0 ≤ s) (h2 : s < nS V) (hb1 : -1000000 ≤ b) (hb2 : b ≤ 1000000) (h3 : 0 ≤ hour) (h4 : hour ≤ 900000) : wq (f_M_isFree s b hour M) (fun q => tf q.1 (fre V R s b hour) ∧ Rm V q.2 ∧ Fr wsL M q.2) := by
  have hS := hT.2.1.2
  have ht := (hT.2.2.2.1 s h1 h2).2.2.2.1
  have hb := hB.1
  have hrl := hR.1
  unfold f_M_isFree
  rw [hb, i32_id (x := (R.length : Int)) (by omega) (by omega)]
  by_cases c : (R.length : Int) = 0
  · refine wq_e (fun q => q c) ?_
    have e : R = [] := List.eq_nil_of_length_eq_zero (by omega)
    subst e
    refine wq_I (s_isPassed hT hN h h1 h2 hb1 hb2 h3 h4) (fun r M2 ⟨er, k1, k2⟩ => ?_)
    have er : tf r (fre V [] s b hour) := er
    refine wq_g ?_ (wq_some ⟨er, k1, k2⟩)
    rcases er with ⟨e, -⟩ | ⟨e, -⟩ <;> subst e
    · exact Or.inr (by decide)
    · exact Or.inl (by decide)
  · refine wq_t c ?_
    clear c
    unfold f_M_isFree_L18
    refine wq_lp (fun z => z.1 = s ∧ z.2.1 = b ∧ z.2.2.1 = hour ∧ (0 ≤ z.2.2.2.1 ∧ z.2.2.2.1 ≤ tk V s) ∧ (∀ k : Int, 0 ≤ k → k < z.2.2.2.1 → b + crw V R s (hour + k) ≤ wid V s (hour + k)) ∧ Rm V z.2.2.2.2 ∧ Fr wsL M z.2.2.2.2) (fun z => (tk V s - z.2.2.2.1).toNat) ?_ FU _ ?_ ?_
    · rintro kH ⟨v1, v2, v3, v4, M1⟩ ⟨g1, g2, g3, g5, g6, g7, g8⟩ hk
      have g1 : v1 = s := g1
      have g2 : v2 = b := g2
      have g3 : v3 = hour := g3
      subst g1 g2 g3
      have g5 : 0 ≤ v4 ∧ v4 ≤ tk V v1 := g5
      have g6 : ∀ k : Int, 0 ≤ k → k < v4 → v2 + crw V R v1 (v3 + k) ≤ wid V v1 (v3 + k) := g6
      have g7 : Rm V M1 := g7
      have g8 : Fr wsL M M1 := g8
      show wq (f_M_isFree_B18 (fun v1 v2 v3 v4 M => kH (v1, v2, v3, v4, M)) v1 v2 v3 v4 M1) _
      unfold f_M_isFree_B18
      rw [e_takes g7 h1 (by omega), bI_s, i32_id (x := tk V v1) (by omega) (by omega), i32_id (x := v4) (by omega) (by omega)]
      refine wq_if (fun c => ?_) (fun c => ?_)
      · have e : v4 = tk V v1 := by omega
        exact wq_some ⟨Or.inl ⟨rfl, fun k z1 z2 => g6 k z1 (by omega)⟩, g7, g8⟩
      · refine wq_I (s_mWidthOf hT hN g7 h1 h2 (by omega) (by omega)) (fun r M2 ⟨er, k1, k2⟩ => ?_)
        have er : r = wid V v1 (v3 + v4) := er
        have hw := wid_rng V v1 (v3 + v4)
        have hc := crw_rng V R v1 (v3 + v4) (fun q hq => (hR.2 q hq).2.2)
        have k2 : Fr wsL M1 M2 := k2
        rw [s_crowd k1 hT ((hB.fr g8 rfl).fr k2 rfl) hR h1 h2 (by omega) (by omega), bI_s, i32_id (x := v2) (by omega) (by omega), i32_id (x := r - crw V R v1 (v3 + v4)) (by omega) (by omega)]
        refine wq_if (fun d => ?_) (fun d => ?_)
        · refine hk _ ⟨rfl, rfl, rfl, ⟨show 0 ≤ v4 + 1 by omega, show v4 + 1 ≤ tk V v1 by omega⟩, ?_, k1, g8.tr k2⟩ (show (tk V v1 - (v4 + 1)).toNat < (tk V v1 - v4).toNat by omega)
          intro k z1 z2
          have z2 : k < v4 + 1 := z2
          by_cases e : k = v4
          · subst e; omega
          · exact g6 k z1 (by omega)
        · refine wq_some ⟨Or.inr ⟨rfl, fun q => ?_⟩, k1, g8.tr k2⟩
          have := q v4 g5.1 (by omega)
          omega
    · exact ⟨rfl, rfl, rfl, ⟨Int.le_refl _, by show (0 : Int) ≤ tk V s; omega⟩, fun k z1 z2 => absurd (show k < 0 from z2) (by omega), h, Fr.rf⟩
    · show (tk V s - 0).toNat < 1000000000
      omega
theorem s_taken {V M : Mm} {R : List (Int × Int × Int)} (hT : Tw V) (hN : Nw V) (h : Rm V M) (hB : bzM M R) (hR : rdOk R) {s b from' last : Int} (h1 : 0 ≤ s) (h2 : s < nS V) (hb1 : -1000000 ≤ b) (hb2 : b ≤ 1000000) (h3 : 0 ≤ from') (h4 : from' ≤ 200000) (h5 : -1000 ≤ last) (h6 : last ≤ 200000) : wq (f_M_taken s b from' last M) (fun q => isF (fre V R s b) from' (last - tk V s) 1000000 q.1 ∧ Rm V q.2 ∧ Fr wsL M q.2) := by
  have hS := hT.2.1.2
  have ht := (hT.2.2.2.1 s h1 h2).2.2.2.1
  unfold f_M_taken f_M_taken_L3
  refine wq_lp (fun z => z.1 = s ∧ z.2.1 = b ∧ z.2.2.1 = last ∧ (from' ≤ z.2.2.2.1 ∧ z.2.2.2.1 ≤ 200001) ∧ (∀ k : Int, from' ≤ k → k < z.2.2.2.1 → ¬ fre V R s b k) ∧ Rm V z.2.2.2.2 ∧ Fr wsL M z.2.2.2.2) (fun z => (200002 - z.2.2.2.1).toNat) ?_ FU _ ?_ ?_
  · rintro kH ⟨v1, v2, v4, v5, M1⟩ ⟨g1, g2, g3, g5, g6, g7, g8⟩ hk
    have g1 : v1 = s := g1
    have g2 : v2 = b := g2
    have g3 : v4 = last := g3
    subst g1 g2 g3
    have g5 : from' ≤ v5 ∧ v5 ≤ 200001 := g5
    have g6 : ∀ k : Int, from' ≤ k → k < v5 → ¬ fre V R v1 v2 k := g6
    have g7 : Rm V M1 := g7
    have g8 : Fr wsL M M1 := g8
    show wq (f_M_taken_B3 (fun v1 v2 v4 v5 M => kH (v1, v2, v4, v5, M)) v1 v2 v4 v5 M1) _
    unfold f_M_taken_B3
    rw [e_takes g7 h1 (by omega), bI_s, i32_id (x := v4) (by omega) (by omega), i32_id (x := v5 + tk V v1) (by omega) (by omega)]
    refine wq_if (fun c => ?_) (fun c => ?_)
    · exact wq_some ⟨Or.inl ⟨rfl, fun k z1 z2 => g6 k z1 (by omega)⟩, g7, g8⟩
    · refine wq_I (s_isFree hT hN g7 (hB.fr g8 rfl) hR h1 h2 hb1 hb2 (show 0 ≤ v5 by omega) (by omega)) (fun r M2 ⟨er, k1, k2⟩ => ?_)
      have er : tf r (fre V R v1 v2 v5) := er
      rcases er with ⟨e, er2⟩ | ⟨e, er2⟩
      · subst e
        exact wq_e (by decide) (wq_some ⟨Or.inr ⟨g5.1, by show v5 ≤ _; omega, er2, g6⟩, k1, g8.tr k2⟩)
      · subst e
        refine wq_t (by decide) (hk _ ⟨rfl, rfl, rfl, ⟨show from' ≤ v5 + 1 by omega, show v5 + 1 ≤ 200001 by omega⟩, ?_, k1, g8.tr k2⟩ (show (200002 - (v5 + 1)).toNat < (200002 - v5).toNat by omega))
        intro k z1 z2
        have z2 : k < v5 + 1 := z2
        by_cases e : k = v5
        · subst e; exact er2
        · exact g6 k z1 (by omega)
  · exact ⟨rfl, rfl, rfl, ⟨Int.le_refl _, by show from' ≤ 200001; omega⟩, fun k z1 z2 => absurd (show k < from' from z2) (by omega), h, Fr.rf⟩
  · show (200002 - from').toNat < 1000000000
    omega
