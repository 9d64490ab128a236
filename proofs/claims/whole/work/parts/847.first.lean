/-- an hour in which one of a breadth can be in a street -/
def okh (V : Mm) (R : List (Int × Int × Int)) (s b h : Int) : Prop := b + crw V R s h ≤ wid V s h
theorem fre_okh (V : Mm) (R : List (Int × Int × Int)) (s b h : Int) : fre V R s b h ↔ ∀ x : Int, h ≤ x → x < h + tk V s → okh V R s b x := by
  unfold fre okh
  constructor
  · intro q x h1 h2
    have := q (x - h) (by omega) (by omega)
    rw [show h + (x - h) = x by omega] at this
    exact this
  · intro q k h1 h2
    exact q (h + k) (by omega) (by omega)
/-- the run of good hours ahead of an hour -/
def rnI (V : Mm) (R : List (Int × Int × Int)) (s b first run hour : Int) : Prop := (0 ≤ run ∧ run ≤ hour - first) ∧ (∀ x : Int, hour - run ≤ x → x < hour → okh V R s b x) ∧ (run = hour - first ∨ ¬ okh V R s b (hour - run - 1))
theorem rnI_step {V : Mm} {R : List (Int × Int × Int)} {s b first run hour : Int} (h : rnI V R s b first run hour) (hf : first ≤ hour) : (okh V R s b hour → rnI V R s b first (run + 1) (hour + 1)) ∧ (¬ okh V R s b hour → rnI V R s b first 0 (hour + 1)) := by
  obtain ⟨⟨h1, h2⟩, h3, h4⟩ := h
  constructor
  · intro q
    refine ⟨⟨by omega, by omega⟩, fun x z1 z2 => ?_, ?_⟩
    · by_cases e : x = hour
      · subst e; exact q
      · exact h3 x (by omega) (by omega)
    · rcases h4 with h4 | h4
      · exact Or.inl (by omega)
      · rw [show hour + 1 - (run + 1) - 1 = hour - run - 1 by omega]
        exact Or.inr h4
  · intro q
    refine ⟨⟨by omega, by omega⟩, fun x z1 z2 => absurd z2 (by omega), Or.inr ?_⟩
    rw [show hour + 1 - 0 - 1 = hour by omega]
    exact q
theorem rnI_fre {V : Mm} {R : List (Int × Int × Int)} {s b first run hour : Int} (h : rnI V R s b first run hour) : (tk V s ≤ run → fre V R s b (hour - tk V s)) ∧ (run < tk V s → first ≤ hour - tk V s → ¬ fre V R s b (hour - tk V s)) := by
  obtain ⟨⟨h1, h2⟩, h3, h4⟩ := h
  constructor
  · intro q
    rw [fre_okh]
    exact fun x z1 z2 => h3 x (by omega) (by omega)
  · intro q1 q2
    rw [fre_okh]
    intro q
    rcases h4 with h4 | h4
    · omega
    · exact h4 (q _ (by omega) (by omega))
theorem s_firstPass {V M : Mm} {R : List (Int × Int × Int)} (hT : Tw V) (hN : Nw V) (h : Cl V M) (hB : bzC M R) (hR : rdOk R) {s b first last : Int} (h1 : 0 ≤ s) (h2 : s < nS V) (hb1 : -1000000 ≤ b) (hb2 : b ≤ 1000000) (h3 : 0 ≤ first) (h4 : first ≤ 200000) (h5 : -1000 ≤ last) (h6 : last ≤ 200000) : wq (f_Ways_firstPass s b first last M) (fun q => isF (fre V R s b) first last (-1) q.1 ∧ Cl V q.2 ∧ Fr wcL M q.2) := by
  have hS := hT.2.1.2
  have ht := (hT.2.2.2.1 s h1 h2).2.2.2.1
  have hrd := (hT.2.2.2.1 s h1 h2).2.2.2.2.1
  have hs := hN.2.1 s h1 h2
  have e8 := (h.1.2.1 s h1 h2).2.2.1
  have e40 := h.2.1.2.1 s h1 h2
  have hrl := hR.1
  unfold f_Ways_firstPass f_Ways_firstPass_L32
  rw [e_cell_in (n := 12) M rfl (by decide) h1 (by omega), bI_s, e_cell_in (n := 12) M rfl (by decide) h1 (by omega), bI_s, e8, e40]
  refine wq_lp (fun z => z.1 = s ∧ z.2.1 = b ∧ z.2.2.1 = last ∧ z.2.2.2.1 = tk V s ∧ z.2.2.2.2.1 = sf V s ∧ (first ≤ z.2.2.2.2.2.2.1 ∧ z.2.2.2.2.2.2.1 ≤ 200010) ∧ z.2.2.2.2.2.1 < tk V s ∧ rnI V R s b first z.2.2.2.2.2.1 z.2.2.2.2.2.2.1 ∧ (∀ k : Int, first ≤ k → k + tk V s ≤ z.2.2.2.2.2.2.1 → ¬ fre V R s b k) ∧ Cl V z.2.2.2.2.2.2.2 ∧ Fr wcL M z.2.2.2.2.2.2.2) (fun z => (200011 - z.2.2.2.2.2.2.1).toNat) ?_ FU _ ?_ ?_
  · rintro kH ⟨v1, v2, v4, v5, v6, v7, v8, M1⟩ ⟨g1, g2, g3, g4, g5, g6, g7, g8, g9, g10, g11⟩ hk
    have g1 : v1 = s := g1
    have g2 : v2 = b := g2
    have g3 : v4 = last := g3
    subst g1 g2 g3
    have g4 : v5 = tk V v1 := g4
    have g5 : v6 = sf V v1 := g5
    subst g4 g5
    have g6 : first ≤ v8 ∧ v8 ≤ 200010 := g6
    have g7 : v7 < tk V v1 := g7
    have g8 : rnI V R v1 v2 first v7 v8 := g8
    have g9 : ∀ k : Int, first ≤ k → k + tk V v1 ≤ v8 → ¬ fre V R v1 v2 k := g9
    have g10 : Cl V M1 := g10
    have g11 : Fr wcL M M1 := g11
    have hB1 := hB.fr g11 rfl
    have hv7 := g8.1
    show wq (f_Ways_firstPass_B32 (fun v1 v2 v4 v5 v6 v7 v8 M => kH (v1, v2, v4, v5, v6, v7, v8, M)) v1 v2 v4 (tk V v1) (sf V v1) v7 v8 M1) _
    unfold f_Ways_firstPass_B32
    rw [i32_id (x := v4 + tk V v1) (by omega) (by omega), i32_id (x := v8) (by omega) (by omega), hB1.1, i32_id (x := (R.length : Int)) (by omega) (by omega)]
    refine wq_if (fun c => ?_) (fun c => ?_)
    · exact wq_some ⟨Or.inl ⟨rfl, fun k z1 z2 => g9 k z1 (by omega)⟩, g10, g11⟩
    · have hcr := crw_rng V R v1 v8 (fun q hq => (hR.2 q hq).2.2)
      have hJ : ∀ a, a = v2 + crw V R v1 v8 → wq (f_Ways_firstPass_J62 (fun v1 v2 v4 v5 v6 v7 v8 M => kH (v1, v2, v4, v5, v6, v7, v8, M)) v1 v2 v4 (tk V v1) (sf V v1) v7 v8 a M1) (fun q => isF (fre V R v1 v2) first v4 (-1) q.1 ∧ Cl V q.2 ∧ Fr wcL M q.2) := by
        intro a ha
        unfold f_Ways_firstPass_J62
        refine wq_I (s_cWidthBy hT g10 h1 h2 (show 0 ≤ v8 by omega) (by omega) hs.1 (by omega)) (fun r M2 ⟨er, k1, k2⟩ => ?_)
        have er : r = wid V v1 v8 := er
        have hw := wid_rng V v1 v8
        have k1 : Cl V M2 := k1
        have k2 : Fr wcL M M2 := g11.tr k2
        obtain ⟨st1, st2⟩ := rnI_step g8 g6.1
        have hgo : ∀ run, run < tk V v1 → rnI V R v1 v2 first run (v8 + 1) → wq (kH (v1, v2, v4, tk V v1, sf V v1, run, v8 + 1, M2)) (fun q => isF (fre V R v1 v2) first v4 (-1) q.1 ∧ Cl V q.2 ∧ Fr wcL M q.2) := by
          intro run q1 q2
          refine hk _ ⟨rfl, rfl, rfl, rfl, rfl, ⟨show first ≤ v8 + 1 by omega, show v8 + 1 ≤ 200010 by omega⟩, q1, q2, ?_, k1, k2⟩ (show (200011 - (v8 + 1)).toNat < (200011 - v8).toNat by omega)
          intro k z1 z2
          have z2 : k + tk V v1 ≤ v8 + 1 := z2
          by_cases e : k + tk V v1 = v8 + 1
          · have := (rnI_fre q2).2 q1 (by omega)
            rw [show v8 + 1 - tk V v1 = k by omega] at this
            exact this
          · exact g9 k z1 (by omega)
        rw [i32_id (x := r) (by omega) (by omega), i32_id (x := a) (by omega) (by omega)]
        unfold f_Ways_firstPass_J89
        by_cases d : r < a
        · rw [if_pos d, i32_id (x := 0) (by omega) (by omega), i32_id (x := tk V v1) (by omega) (by omega), if_pos (by omega)]
          refine hgo 0 (by omega) (st2 ?_)
          unfold okh
          omega
        · rw [if_neg d, i32_id (x := v7 + 1) (by omega) (by omega), i32_id (x := tk V v1) (by omega) (by omega)]
          have hr1 := st1 (by unfold okh; omega)
          by_cases d2 : v7 + 1 < tk V v1
          · rw [if_pos d2]
            exact hgo (v7 + 1) d2 hr1
          · rw [if_neg d2]
            have hp := (rnI_fre hr1).1 (by omega)
            rw [show v8 + 1 - tk V v1 = v8 - tk V v1 + 1 by omega] at hp
            refine wq_some ⟨Or.inr ⟨show first ≤ v8 - tk V v1 + 1 by omega, show v8 - tk V v1 + 1 ≤ v4 by omega, hp, fun k z1 z2 => ?_⟩, k1, k2⟩
            have z2 : k < v8 - tk V v1 + 1 := z2
            exact g9 k z1 (by omega)
      by_cases c2 : (R.length : Int) = 0
      · refine wq_e (fun q => q c2) (hJ v2 ?_)
        have e : R = [] := List.eq_nil_of_length_eq_zero (by omega)
        subst e
        simp [crw]
      · refine wq_t c2 ?_
        rw [s_load g10.1 hT hB1 hR h1 h2 (show 0 ≤ v8 by omega) (by omega), bI_s]
        exact hJ _ rfl
  · exact ⟨rfl, rfl, rfl, rfl, rfl, ⟨Int.le_refl _, by show first ≤ 200010; omega⟩, by show (0 : Int) < tk V s; omega, ⟨⟨Int.le_refl _, by show (0 : Int) ≤ first - first; omega⟩, fun x z1 z2 => absurd z2 (by have z1 : first - 0 ≤ x := z1; show ¬ x < first; omega), Or.inl (by show (0 : Int) = first - first; omega)⟩, fun k z1 z2 => absurd z2 (by show ¬ k + tk V s ≤ first; omega), h, Fr.rf⟩
  · show (200011 - first).toNat < 1000000000
    omega
