/-- how often P holds in n numbers from a on -/
def isC (P : Int → Prop) (a : Int) : Nat → Int → Prop
  | 0, r => r = 0
  | n + 1, r => ∃ r', isC P a n r' ∧ ((P (a + n) ∧ r = r' + 1) ∨ (¬ P (a + n) ∧ r = r'))
theorem isC_un {P : Int → Prop} {a : Int} : ∀ (n : Nat) (r r' : Int), isC P a n r → isC P a n r' → r = r'
  | 0, r, r', h, h' => h.trans h'.symm
  | n + 1, r, r', h, h' => by
    obtain ⟨x, x1, x2⟩ := h
    obtain ⟨y, y1, y2⟩ := h'
    have e := isC_un n x y x1 y1
    rcases x2 with ⟨p, q⟩ | ⟨p, q⟩ <;> rcases y2 with ⟨p', q'⟩ | ⟨p', q'⟩
    · omega
    · exact absurd p p'
    · exact absurd p' p
    · omega
theorem isC_rng {P : Int → Prop} {a : Int} : ∀ (n : Nat) (r : Int), isC P a n r → 0 ≤ r ∧ r ≤ n
  | 0, r, h => by have h : r = 0 := h; omega
  | n + 1, r, h => by
    obtain ⟨x, x1, x2⟩ := h
    have := isC_rng n x x1
    rcases x2 with ⟨-, q⟩ | ⟨-, q⟩ <;> omega
theorem s_passCount {V M : Mm} (hT : Tw V) (hN : Nw V) (h : Cl V M) {s b first last : Int} (h1 : 0 ≤ s) (h2 : s < nS V) (hb1 : -1000000 ≤ b) (hb2 : b ≤ 1000000) (h3 : 0 ≤ first) (h4 : first ≤ last) (h6 : last ≤ 200000) : wq (f_Ways_passCount s b first last M) (fun q => isC (fre V [] s b) first (last - first + 1).toNat q.1 ∧ Cl V q.2 ∧ Fr wcL M q.2) := by
  have hS := hT.2.1.2
  have ht := (hT.2.2.2.1 s h1 h2).2.2.2.1
  have e8 := (h.1.2.1 s h1 h2).2.2.1
  unfold f_Ways_passCount f_Ways_passCount_L22
  rw [e_cell_in (n := 12) M rfl (by decide) h1 (by omega), bI_s, e8]
  refine wq_lp (fun z => z.1 = s ∧ z.2.1 = b ∧ z.2.2.1 = last ∧ z.2.2.2.1 = tk V s ∧ (first ≤ z.2.2.2.2.2.2.1 ∧ z.2.2.2.2.2.2.1 ≤ last + tk V s) ∧ rnI V [] s b first z.2.2.2.2.1 z.2.2.2.2.2.2.1 ∧ isC (fre V [] s b) first (z.2.2.2.2.2.2.1 - tk V s - first + 1).toNat z.2.2.2.2.2.1 ∧ Cl V z.2.2.2.2.2.2.2 ∧ Fr wcL M z.2.2.2.2.2.2.2) (fun z => (last + tk V s - z.2.2.2.2.2.2.1).toNat) ?_ FU _ ?_ ?_
  · rintro kH ⟨v1, v2, v4, v5, v6, v7, v8, M1⟩ ⟨q1, q2, q3, q4, q6, q8, q9, q10, q11⟩ hk
    have e1 : v1 = s := q1
    have e2 : v2 = b := q2
    have e3 : v4 = last := q3
    have e4 : v5 = tk V s := q4
    subst e1 e2 e3 e4
    have e6 : first ≤ v8 ∧ v8 ≤ v4 + tk V v1 := q6
    have g8 : rnI V [] v1 v2 first v6 v8 := q8
    have g9 : isC (fre V [] v1 v2) first (v8 - tk V v1 - first + 1).toNat v7 := q9
    have g10 : Cl V M1 := q10
    have g11 : Fr wcL M M1 := q11
    clear q1 q2 q3 q4 q6 q8 q9 q10 q11
    have hv6 := g8.1
    have hcr := isC_rng _ _ g9
    show wq (f_Ways_passCount_B22 (fun v1 v2 v4 v5 v6 v7 v8 M => kH (v1, v2, v4, v5, v6, v7, v8, M)) v1 v2 v4 (tk V v1) v6 v7 v8 M1) _
    unfold f_Ways_passCount_B22
    rw [i32_id (x := v4 + tk V v1) (by omega) (by omega), i32_id (x := v8) (by omega) (by omega)]
    refine wq_if (fun c => ?_) (fun c => ?_)
    · refine wq_some ⟨?_, g10, g11⟩
      rw [show v4 - first + 1 = v8 - tk V v1 - first + 1 by omega]
      exact g9
    · refine wq_I (s_cWidthAt hT hN g10 h1 h2 (show 0 ≤ v8 by omega) (by omega)) (fun r M2 ⟨a1, a2, a3⟩ => ?_)
      have er : r = wid V v1 v8 := a1
      have hw := wid_rng V v1 v8
      have k1 : Cl V M2 := a2
      have k2 : Fr wcL M M2 := g11.tr a3
      obtain ⟨st1, st2⟩ := rnI_step g8 e6.1
      have hgo : ∀ run, rnI V [] v1 v2 first run (v8 + 1) → wq (f_Ways_passCount_J54 (fun v1 v2 v4 v5 v6 v7 v8 M => kH (v1, v2, v4, v5, v6, v7, v8, M)) v1 v2 v4 (tk V v1) v7 v8 run M2) (fun q => isC (fre V [] v1 v2) first (v4 - first + 1).toNat q.1 ∧ Cl V q.2 ∧ Fr wcL M q.2) := by
        intro run hr
        have hr1 := hr.1
        obtain ⟨f1, f2⟩ := rnI_fre hr
        have hnx : ∀ c, isC (fre V [] v1 v2) first (v8 + 1 - tk V v1 - first + 1).toNat c → wq (kH (v1, v2, v4, tk V v1, run, c, v8 + 1, M2)) (fun q => isC (fre V [] v1 v2) first (v4 - first + 1).toNat q.1 ∧ Cl V q.2 ∧ Fr wcL M q.2) := fun c hc => hk _ ⟨rfl, rfl, rfl, rfl, ⟨show first ≤ v8 + 1 by omega, show v8 + 1 ≤ v4 + tk V v1 by omega⟩, hr, hc, k1, k2⟩ (show (v4 + tk V v1 - (v8 + 1)).toNat < (v4 + tk V v1 - v8).toNat by omega)
        unfold f_Ways_passCount_J54
        rw [i32_id (x := run) (by omega) (by omega), i32_id (x := tk V v1) (by omega) (by omega)]
        by_cases d : v8 + 1 - tk V v1 < first
        · refine wq_t (by omega) (hnx _ ?_)
          rw [show (v8 + 1 - tk V v1 - first + 1).toNat = (v8 - tk V v1 - first + 1).toNat by omega, Int.add_zero]
          exact g9
        · have en : (v8 + 1 - tk V v1 - first + 1).toNat = (v8 - tk V v1 - first + 1).toNat + 1 := by omega
          have ea : first + ((v8 - tk V v1 - first + 1).toNat : Nat) = v8 + 1 - tk V v1 := by omega
          by_cases d2 : run < tk V v1
          · refine wq_t d2 (hnx _ ?_)
            rw [en]
            refine ⟨v7, g9, Or.inr ⟨?_, by omega⟩⟩
            rw [ea]
            exact f2 d2 (by omega)
          · refine wq_e d2 (hnx _ ?_)
            rw [en]
            refine ⟨v7, g9, Or.inl ⟨?_, rfl⟩⟩
            rw [ea]
            exact f1 (by omega)
      rw [i32_id (x := r) (by omega) (by omega), i32_id (x := v2) (by omega) (by omega)]
      refine wq_if (fun d => hgo 0 (st2 ?_)) (fun d => hgo (v6 + 1) (st1 ?_))
      · unfold okh crw; omega
      · unfold okh crw; omega
  · refine ⟨rfl, rfl, rfl, rfl, ⟨Int.le_refl _, by show first ≤ last + tk V s; omega⟩, ⟨⟨Int.le_refl _, by show (0 : Int) ≤ first - first; omega⟩, fun x z1 z2 => absurd z2 (by have z1 : first - 0 ≤ x := z1; show ¬ x < first; omega), Or.inl (by show (0 : Int) = first - first; omega)⟩, ?_, h, Fr.rf⟩
    show isC (fre V [] s b) first (first - tk V s - first + 1).toNat 0
    rw [show (first - tk V s - first + 1).toNat = 0 by omega]
    rfl
  · show (last + tk V s - first).toNat < 1000000000
    omega
theorem call_often {n : Nat} {v1 v2 v3 v4 : Int} (i1 : IR v1) (i2 : IR v2) (i3 : IR v3) (i4 : IR v4) : CallOk n (f_BT_often v1 v2 v3 v4) (f_M_often v1 v2 v3 v4) := by
  refine call_q (fun M r => gA ((0 ≤ v1 ∧ v1 < nS M) ∧ (1 ≤ v2 ∧ v2 ≤ 99) ∧ (0 ≤ v3 ∧ v3 ≤ 99999) ∧ 1 ≤ v4 ∧ v4 ≤ 1000) (fun r => isC (fre M [] v1 v2) v3 v4.toNat r) r) wcL wsL (fun M r r' _ => gA_un (fun _ x y hx hy => isC_un _ _ _ hx hy)) rfl rfl rfl rfl rfl (fun M hR => ?_) (fun M M1 hR hm _ => ?_)
  · obtain ⟨h1, h2, h3, -, -, -, -, -, -, h10, -⟩ := id hR
    unfold f_BT_often
    rw [e_hasS h1 h3.1 i1, bI_s]
    refine wq_c0 (fun c => wq_some ⟨Or.inr ⟨fun z => c z.1, rfl⟩, h3.2.2, h10.2.2, Fr.rf⟩) (fun c => ?_)
    rw [e_isBreadth _ i2, bI_s]
    refine wq_c0 (fun d => wq_some ⟨Or.inr ⟨fun z => d z.2.1, rfl⟩, h3.2.2, h10.2.2, Fr.rf⟩) (fun d => ?_)
    rw [e_isAsked _ i3, bI_s]
    refine wq_c0 (fun e => wq_some ⟨Or.inr ⟨fun z => e z.2.2.1, rfl⟩, h3.2.2, h10.2.2, Fr.rf⟩) (fun e => ?_)
    rw [i32_id (x := v4) i4.1 i4.2, i32_id (x := 1) (by omega) (by omega), i32_id (x := 1000) (by omega) (by omega)]
    refine wq_if (fun g => wq_some ⟨Or.inr ⟨fun z => by omega, rfl⟩, h3.2.2, h10.2.2, Fr.rf⟩) (fun g => ?_)
    refine wq_if (fun g2 => ?_) (fun g2 => wq_some ⟨Or.inr ⟨fun z => by omega, rfl⟩, h3.2.2, h10.2.2, Fr.rf⟩)
    refine wq_I (s_passCount h1 h2 h3 c.1 c.2 (show -1000000 ≤ v2 by omega) (by omega) e.1 (show v3 ≤ (v3 + v4) - 1 by omega) (by omega)) (fun r M2 ⟨a1, a2, a3⟩ => wq_some ⟨Or.inl ⟨⟨c, d, e, by omega⟩, ?_⟩, a2.2.2, ?_, a3⟩)
    · rw [show (v3 + v4) - 1 - v3 + 1 = v4 by omega] at a1
      exact a1
    · have a3 : Fr wcL M M2 := a3
      show M2 48 10 = 0
      rw [a3.row 48 rfl]; exact h10.2.2
  · obtain ⟨h1, h2, -⟩ := id hR
    unfold f_M_often
    rw [e_isStreet h1 hm i1, bI_s]
    refine wq_c0 (fun c => wq_some ⟨Or.inr ⟨fun z => c z.1, rfl⟩, Fr.rf⟩) (fun c => ?_)
    rw [e_in _ i2 (by omega) (by omega) (by omega) (by omega), bI_s]
    refine wq_c0 (fun d => wq_some ⟨Or.inr ⟨fun z => d z.2.1, rfl⟩, Fr.rf⟩) (fun d => ?_)
    rw [e_isHour _ i3, bI_s]
    refine wq_c0 (fun e => wq_some ⟨Or.inr ⟨fun z => e z.2.2.1, rfl⟩, Fr.rf⟩) (fun e => ?_)
    rw [e_in _ i4 (by omega) (by omega) (by omega) (by omega), bI_s]
    refine wq_c1 (fun g => ?_) (fun g => wq_some ⟨Or.inr ⟨fun z => g z.2.2.2, rfl⟩, Fr.rf⟩)
    have hS := h1.2.1
    unfold f_M_often_L48
    refine wq_lp (fun z => z.1 = v1 ∧ z.2.1 = v2 ∧ z.2.2.1 = v3 ∧ z.2.2.2.1 = v4 ∧ (v3 ≤ z.2.2.2.2.2.1 ∧ z.2.2.2.2.2.1 ≤ v3 + v4) ∧ isC (fre M [] v1 v2) v3 (z.2.2.2.2.2.1 - v3).toNat z.2.2.2.2.1 ∧ Rm M z.2.2.2.2.2.2 ∧ Fr wsL M1 z.2.2.2.2.2.2) (fun z => (v3 + v4 - z.2.2.2.2.2.1).toNat) ?_ FU _ ?_ ?_
    · rintro kH ⟨u1, u2, u3, u4, u5, u6, N⟩ ⟨q1, q2, q3, q4, q5, q6, q7, q8⟩ hk
      have e1 : u1 = v1 := q1
      have e2 : u2 = v2 := q2
      have e3 : u3 = v3 := q3
      have e4 : u4 = v4 := q4
      have e5 : v3 ≤ u6 ∧ u6 ≤ v3 + v4 := q5
      have e6 : isC (fre M [] v1 v2) v3 (u6 - v3).toNat u5 := q6
      have e7 : Rm M N := q7
      have e8 : Fr wsL M1 N := q8
      clear q1 q2 q3 q4 q5 q6 q7 q8
      show wq (f_M_often_B48 (fun v1 v2 v3 v4 v5 v6 M => kH (v1, v2, v3, v4, v5, v6, M)) u1 u2 u3 u4 u5 u6 N) _
      rw [e1, e2, e3, e4]
      unfold f_M_often_B48
      rw [i32_id (x := v3 + v4) (by omega) (by omega), i32_id (x := u6) (by omega) (by omega)]
      refine wq_if (fun g1 => ?_) (fun g1 => ?_)
      · refine wq_some ⟨Or.inl ⟨⟨c, d, e, g⟩, ?_⟩, e8⟩
        rw [show v4.toNat = (u6 - v3).toNat by omega]
        exact e6
      · refine wq_I (s_isPassed h1 h2 e7 c.1 c.2 (show -1000000 ≤ v2 by omega) (by omega) (show 0 ≤ u6 by omega) (by omega)) (fun r M2 ⟨a1, a2, a3⟩ => ?_)
        have hnx : ∀ w, isC (fre M [] v1 v2) v3 (u6 + 1 - v3).toNat w → wq (kH (v1, v2, v3, v4, w, u6 + 1, M2)) _ := fun w hw => hk _ ⟨rfl, rfl, rfl, rfl, ⟨show v3 ≤ u6 + 1 by omega, show u6 + 1 ≤ v3 + v4 by omega⟩, hw, a2, e8.tr a3⟩ (show (v3 + v4 - (u6 + 1)).toNat < (v3 + v4 - u6).toNat by omega)
        have en : (u6 + 1 - v3).toNat = (u6 - v3).toNat + 1 := by omega
        have ea : v3 + ((u6 - v3).toNat : Nat) = u6 := by omega
        rw [en] at hnx
        rcases a1 with ⟨b1, b2⟩ | ⟨b1, b2⟩
        · have b1 : r = 1 := b1
          subst b1
          exact wq_e (by decide) (hnx _ ⟨u5, e6, Or.inl ⟨by rw [ea]; exact b2, rfl⟩⟩)
        · have b1 : r = 0 := b1
          subst b1
          exact wq_t (by decide) (hnx _ ⟨u5, e6, Or.inr ⟨by rw [ea]; exact b2, rfl⟩⟩)
    · refine ⟨rfl, rfl, rfl, rfl, ⟨Int.le_refl _, by show v3 ≤ v3 + v4; omega⟩, ?_, hm, Fr.rf⟩
      show isC (fre M [] v1 v2) v3 (v3 - v3).toNat 0
      rw [show (v3 - v3).toNat = 0 by omega]
      rfl
    · show (v3 + v4 - v3).toNat < 1000000000
      omega
/-- all of some streets are so wide in an hour -/
def arW (V : Mm) (S b h : Int) : Prop := ∀ s : Int, 0 ≤ s → s < nS V → bQ S s → b ≤ wid V s h
theorem s_mAreWide {V M : Mm} (hT : Tw V) (hN : Nw V) (h : Rm V M) {S b hour : Int} (hS1 : 0 ≤ S) (hS2 : S < 2147483648) (hb1 : -1000000 ≤ b) (hb2 : b ≤ 1000000) (h3 : 0 ≤ hour) (h4 : hour ≤ 900000) : wq (f_M_areWide S b hour M) (fun q => tf q.1 (arW V S b hour) ∧ Rm V q.2 ∧ Fr wsL M q.2) := by
  have hS := hT.2.1
  unfold f_M_areWide f_M_areWide_L3
  refine wq_lp (fun z => z.1 = S ∧ z.2.1 = b ∧ z.2.2.1 = hour ∧ (0 ≤ z.2.2.2.1 ∧ z.2.2.2.1 ≤ nS V) ∧ (∀ s : Int, 0 ≤ s → s < z.2.2.2.1 → bQ S s → b ≤ wid V s hour) ∧ Rm V z.2.2.2.2 ∧ Fr wsL M z.2.2.2.2) (fun z => (nS V - z.2.2.2.1).toNat) ?_ FU _ ?_ ?_
  · rintro kH ⟨v1, v2, v3, v4, N⟩ ⟨q1, q2, q3, q4, q5, q6, q7⟩ hk
    have e1 : v1 = S := q1
    have e2 : v2 = b := q2
    have e3 : v3 = hour := q3
    subst e1 e2 e3
    have e4 : 0 ≤ v4 ∧ v4 ≤ nS V := q4
    have e5 : ∀ s : Int, 0 ≤ s → s < v4 → bQ v1 s → v2 ≤ wid V s v3 := q5
    have e6 : Rm V N := q6
    have e7 : Fr wsL M N := q7
    clear q1 q2 q3 q4 q5 q6 q7
    show wq (f_M_areWide_B3 (fun v1 v2 v3 v4 M => kH (v1, v2, v3, v4, M)) v1 v2 v3 v4 N) _
    unfold f_M_areWide_B3
    rw [e_mS e6, bI_s, i32_id (x := nS V) (by omega) (by omega), i32_id (x := v4) (by omega) (by omega), i32_id (x := 1) (by omega) (by omega)]
    refine wq_if (fun c => wq_some ⟨Or.inl ⟨rfl, fun s s1 s2 => e5 s s1 (by omega)⟩, e6, e7⟩) (fun c => ?_)
    have hnx : ∀ M', Rm V M' → Fr wsL M M' → (bQ v1 v4 → v2 ≤ wid V v4 v3) → wq (kH (v1, v2, v3, v4 + 1, M')) (fun q => tf q.1 (arW V v1 v2 v3) ∧ Rm V q.2 ∧ Fr wsL M q.2) := by
      intro M' z1 z2 z3
      refine hk _ ⟨rfl, rfl, rfl, ⟨show 0 ≤ v4 + 1 by omega, show v4 + 1 ≤ nS V by omega⟩, fun s s1 s2 s3 => ?_, z1, z2⟩ (show (nS V - (v4 + 1)).toNat < (nS V - v4).toNat by omega)
      have s2 : s < v4 + 1 := s2
      by_cases es : s = v4
      · subst es; exact z3 s3
      · exact e5 s s1 (by omega) s3
    rcases bQ_test hS1 hS2 e4.1 (show v4 < 31 by omega) with ⟨b1, b2⟩ | ⟨b1, b2⟩
    · rw [b1]
      refine wq_e (fun z => z rfl) (wq_I (s_mWidthOf hT hN e6 e4.1 (by omega) h3 (by omega)) (fun r M2 ⟨a1, a2, a3⟩ => ?_))
      have a1 : r = wid V v4 v3 := a1
      have hw := wid_rng V v4 v3
      rw [i32_id (x := v2) (by omega) (by omega), i32_id (x := r) (by omega) (by omega)]
      refine wq_if (fun d => hnx M2 a2 (e7.tr a3) (fun _ => by omega)) (fun d => wq_some ⟨Or.inr ⟨rfl, fun z => ?_⟩, a2, e7.tr a3⟩)
      have := z v4 e4.1 (by omega) b2
      omega
    · rw [b1]
      exact wq_t (by decide) (hnx N e6 e7 (fun z => absurd z b2))
  · exact ⟨rfl, rfl, rfl, ⟨Int.le_refl _, hS.1⟩, fun s s1 s2 => absurd s2 (by show ¬ s < 0; omega), h, Fr.rf⟩
  · show (nS V - 0).toNat < 1000000000
    omega
theorem s_cAreWide {V M : Mm} (hT : Tw V) (hN : Nw V) (h : Cl V M) {S b hour : Int} (hS1 : 0 ≤ S) (hS2 : S < 2147483648) (hb1 : -1000000 ≤ b) (hb2 : b ≤ 1000000) (h3 : 0 ≤ hour) (h4 : hour ≤ 900000) : wq (f_Widths_areWide S b hour M) (fun q => tf q.1 (arW V S b hour) ∧ Cl V q.2 ∧ Fr wcL M q.2) := by
  have hS := hT.2.1
  unfold f_Widths_areWide f_Widths_areWide_L3
  refine wq_lp (fun z => z.1 = S ∧ z.2.1 = b ∧ z.2.2.1 = hour ∧ (0 ≤ z.2.2.2.1 ∧ z.2.2.2.1 ≤ nS V) ∧ (∀ s : Int, 0 ≤ s → s < z.2.2.2.1 → bQ S s → b ≤ wid V s hour) ∧ Cl V z.2.2.2.2 ∧ Fr wcL M z.2.2.2.2) (fun z => (nS V - z.2.2.2.1).toNat) ?_ FU _ ?_ ?_
  · rintro kH ⟨v1, v2, v3, v4, N⟩ ⟨q1, q2, q3, q4, q5, q6, q7⟩ hk
    have e1 : v1 = S := q1
    have e2 : v2 = b := q2
    have e3 : v3 = hour := q3
    subst e1 e2 e3
    have e4 : 0 ≤ v4 ∧ v4 ≤ nS V := q4
    have e5 : ∀ s : Int, 0 ≤ s → s < v4 → bQ v1 s → v2 ≤ wid V s v3 := q5
    have e6 : Cl V N := q6
    have e7 : Fr wcL M N := q7
    clear q1 q2 q3 q4 q5 q6 q7
    show wq (f_Widths_areWide_B3 (fun v1 v2 v3 v4 M => kH (v1, v2, v3, v4, M)) v1 v2 v3 v4 N) _
    unfold f_Widths_areWide_B3
    rw [e_count1 e6.1, bI_s, i32_id (x := nS V) (by omega) (by omega), i32_id (x := v4) (by omega) (by omega), i32_id (x := 1) (by omega) (by omega)]
    refine wq_if (fun c => wq_some ⟨Or.inl ⟨rfl, fun s s1 s2 => e5 s s1 (by omega)⟩, e6, e7⟩) (fun c => ?_)
    have hnx : ∀ M', Cl V M' → Fr wcL M M' → (bQ v1 v4 → v2 ≤ wid V v4 v3) → wq (kH (v1, v2, v3, v4 + 1, M')) (fun q => tf q.1 (arW V v1 v2 v3) ∧ Cl V q.2 ∧ Fr wcL M q.2) := by
      intro M' z1 z2 z3
      refine hk _ ⟨rfl, rfl, rfl, ⟨show 0 ≤ v4 + 1 by omega, show v4 + 1 ≤ nS V by omega⟩, fun s s1 s2 s3 => ?_, z1, z2⟩ (show (nS V - (v4 + 1)).toNat < (nS V - v4).toNat by omega)
      have s2 : s < v4 + 1 := s2
      by_cases es : s = v4
      · subst es; exact z3 s3
      · exact e5 s s1 (by omega) s3
    rcases bQ_test hS1 hS2 e4.1 (show v4 < 31 by omega) with ⟨b1, b2⟩ | ⟨b1, b2⟩
    · rw [b1]
      refine wq_e (fun z => z rfl) (wq_I (s_cWidthAt hT hN e6 e4.1 (by omega) h3 (by omega)) (fun r M2 ⟨a1, a2, a3⟩ => ?_))
      have a1 : r = wid V v4 v3 := a1
      have hw := wid_rng V v4 v3
      rw [i32_id (x := v2) (by omega) (by omega), i32_id (x := r) (by omega) (by omega)]
      refine wq_if (fun d => hnx M2 a2 (e7.tr a3) (fun _ => by omega)) (fun d => wq_some ⟨Or.inr ⟨rfl, fun z => ?_⟩, a2, e7.tr a3⟩)
      have := z v4 e4.1 (by omega) b2
      omega
    · rw [b1]
      exact wq_t (by decide) (hnx N e6 e7 (fun z => absurd z b2))
  · exact ⟨rfl, rfl, rfl, ⟨Int.le_refl _, hS.1⟩, fun s s1 s2 => absurd s2 (by show ¬ s < 0; omega), h, Fr.rf⟩
  · show (nS V - 0).toNat < 1000000000
    omega
theorem shl32_1 {k : Int} (h1 : 0 ≤ k) (h2 : k < 31) : shl32 1 k = ((2 ^ k.toNat : Nat) : Int) := by
  have := shl32_id 1 k.toNat (by omega)
  rw [show (k.toNat : Int) = k by omega, Int.one_mul] at this
  exact this
theorem call_wide {n : Nat} {v1 v2 : Int} (i1 : IR v1) (i2 : IR v2) : CallOk n (f_BT_wide v1 v2) (f_M_wide v1 v2) := by
  refine call_q (fun M r => gA ((1 ≤ v1 ∧ v1 < ((2 ^ (nS M).toNat : Nat) : Int)) ∧ 1 ≤ v2 ∧ v2 ≤ 99) (fun r => isF (arW M v1 v2) (hr M) (hr M + 400) (-1) r) r) wcL wsL (fun M r r' _ => gA_un (fun _ x y hx hy => isF_un hx hy)) rfl rfl rfl rfl rfl (fun M hR => ?_) (fun M M1 hR hm _ => ?_)
  · obtain ⟨h1, h2, h3, -, -, -, -, -, -, h10, -⟩ := id hR
    have hS := h1.2.1
    have hh := h2.1
    have hp : (2 ^ (nS M).toNat : Nat) ≤ 2 ^ 12 := Nat.pow_le_pow_right (by decide) (by omega)
    have hp2 : 0 < (2 ^ (nS M).toNat : Nat) := Nat.pow_pos (by decide)
    unfold f_BT_wide
    rw [e_count1 h3.1, bI_s, shl32_1 hS.1 (by omega), i32_id (x := v1) i1.1 i1.2, i32_id (x := 1) (by omega) (by omega), i32_id (x := ((2 ^ (nS M).toNat : Nat) : Int)) (by omega) (by omega)]
    refine wq_if (fun c => wq_some ⟨Or.inr ⟨fun z => by omega, rfl⟩, h3.2.2, h10.2.2, Fr.rf⟩) (fun c => ?_)
    refine wq_if (fun c2 => wq_some ⟨Or.inr ⟨fun z => by omega, rfl⟩, h3.2.2, h10.2.2, Fr.rf⟩) (fun c2 => ?_)
    rw [e_isBreadth _ i2, bI_s]
    refine wq_c1 (fun d => ?_) (fun d => wq_some ⟨Or.inr ⟨fun z => d z.2, rfl⟩, h3.2.2, h10.2.2, Fr.rf⟩)
    have hv : 0 ≤ v1 ∧ v1 < 2147483648 := by omega
    have hcond : (1 ≤ v1 ∧ v1 < ((2 ^ (nS M).toNat : Nat) : Int)) ∧ 1 ≤ v2 ∧ v2 ≤ 99 := ⟨by omega, d⟩
    refine wq_I (P := fun q => isF (arW M v1 v2) (hr M) (hr M + 400) (-1) q.1 ∧ Cl M q.2 ∧ Fr wcL M q.2) ?_ (fun r M2 ⟨a1, a2, a3⟩ => wq_some ⟨Or.inl ⟨hcond, a1⟩, a2.2.2, ?_, a3⟩)
    · unfold f_Widths_firstWide f_Widths_firstWide_L8
      rw [h3.2.1.1]
      refine wq_lp (fun z => z.1 = v1 ∧ z.2.1 = v2 ∧ (hr M ≤ z.2.2.1 ∧ z.2.2.1 ≤ hr M + 401) ∧ (∀ k : Int, hr M ≤ k → k < z.2.2.1 → ¬ arW M v1 v2 k) ∧ Cl M z.2.2.2 ∧ Fr wcL M z.2.2.2) (fun z => (hr M + 402 - z.2.2.1).toNat) ?_ FU _ ?_ ?_
      · rintro kH ⟨u1, u2, u4, N⟩ ⟨q1, q2, q4, q5, q6, q7⟩ hk
        have e1 : u1 = v1 := q1
        have e2 : u2 = v2 := q2
        have e4 : hr M ≤ u4 ∧ u4 ≤ hr M + 401 := q4
        have e5 : ∀ k : Int, hr M ≤ k → k < u4 → ¬ arW M v1 v2 k := q5
        have e6 : Cl M N := q6
        have e7 : Fr wcL M N := q7
        clear q1 q2 q4 q5 q6 q7
        show wq (f_Widths_firstWide_B8 (fun v1 v2 v3 M => kH (v1, v2, v3, M)) u1 u2 u4 N) _
        rw [e1, e2]
        unfold f_Widths_firstWide_B8
        rw [e6.2.1.1, i32_id (x := hr M + 400) (by omega) (by omega), i32_id (x := u4) (by omega) (by omega)]
        refine wq_if (fun g => wq_some ⟨Or.inl ⟨rfl, fun k k1 k2 => e5 k k1 (by omega)⟩, e6, e7⟩) (fun g => ?_)
        refine wq_I (s_cAreWide h1 h2 e6 hv.1 hv.2 (show -1000000 ≤ v2 by omega) (by omega) (show 0 ≤ u4 by omega) (by omega)) (fun r M2 ⟨a1, a2, a3⟩ => ?_)
        rcases a1 with ⟨b1, b2⟩ | ⟨b1, b2⟩
        · have b1 : r = 1 := b1
          subst b1
          exact wq_e (by decide) (wq_some ⟨Or.inr ⟨e4.1, by show u4 ≤ _; omega, b2, e5⟩, a2, e7.tr a3⟩)
        · have b1 : r = 0 := b1
          subst b1
          refine wq_t (by decide) (hk _ ⟨rfl, rfl, ⟨show hr M ≤ u4 + 1 by omega, show u4 + 1 ≤ hr M + 401 by omega⟩, fun k k1 k2 => ?_, a2, e7.tr a3⟩ (show (hr M + 402 - (u4 + 1)).toNat < (hr M + 402 - u4).toNat by omega))
          have k2 : k < u4 + 1 := k2
          by_cases ek : k = u4
          · subst ek; exact b2
          · exact e5 k k1 (by omega)
      · exact ⟨rfl, rfl, ⟨Int.le_refl _, by show hr M ≤ hr M + 401; omega⟩, fun k k1 k2 => absurd k2 (by show ¬ k < hr M; omega), h3, Fr.rf⟩
      · show (hr M + 402 - hr M).toNat < 1000000000
        omega
    · have a3 : Fr wcL M M2 := a3
      show M2 48 10 = 0
      rw [a3.row 48 rfl]; exact h10.2.2
  · obtain ⟨h1, h2, -⟩ := id hR
    have hS := h1.2.1
    have hh := h2.1
    have hp : (2 ^ (nS M).toNat : Nat) ≤ 2 ^ 12 := Nat.pow_le_pow_right (by decide) (by omega)
    have hp2 : 0 < (2 ^ (nS M).toNat : Nat) := Nat.pow_pos (by decide)
    unfold f_M_wide
    rw [e_mS hm, bI_s, shl32_1 hS.1 (by omega), i32_id (x := ((2 ^ (nS M).toNat : Nat) : Int) - 1) (by omega) (by omega), e_in _ i1 (by omega) (by omega) (by omega) (by omega), bI_s]
    refine wq_c0 (fun c => wq_some ⟨Or.inr ⟨fun z => by omega, rfl⟩, Fr.rf⟩) (fun c => ?_)
    rw [e_in _ i2 (by omega) (by omega) (by omega) (by omega), bI_s]
    refine wq_c1 (fun d => ?_) (fun d => wq_some ⟨Or.inr ⟨fun z => d z.2, rfl⟩, Fr.rf⟩)
    have hv : 0 ≤ v1 ∧ v1 < 2147483648 := by omega
    have hcond : (1 ≤ v1 ∧ v1 < ((2 ^ (nS M).toNat : Nat) : Int)) ∧ 1 ≤ v2 ∧ v2 ≤ 99 := ⟨by omega, d⟩
    have e108 : M1 108 0 = hr M := by rw [hm.2.2.2.2.2.2]; rfl
    unfold f_M_wide_L39
    rw [e108]
    refine wq_lp (fun z => z.1 = v1 ∧ z.2.1 = v2 ∧ (hr M ≤ z.2.2.1 ∧ z.2.2.1 ≤ hr M + 401) ∧ (∀ k : Int, hr M ≤ k → k < z.2.2.1 → ¬ arW M v1 v2 k) ∧ Rm M z.2.2.2 ∧ Fr wsL M1 z.2.2.2) (fun z => (hr M + 402 - z.2.2.1).toNat) ?_ FU _ ?_ ?_
    · rintro kH ⟨u1, u2, u4, N⟩ ⟨q1, q2, q4, q5, q6, q7⟩ hk
      have e1 : u1 = v1 := q1
      have e2 : u2 = v2 := q2
      have e4 : hr M ≤ u4 ∧ u4 ≤ hr M + 401 := q4
      have e5 : ∀ k : Int, hr M ≤ k → k < u4 → ¬ arW M v1 v2 k := q5
      have e6 : Rm M N := q6
      have e7 : Fr wsL M1 N := q7
      clear q1 q2 q4 q5 q6 q7
      show wq (f_M_wide_B39 (fun v1 v2 v3 M => kH (v1, v2, v3, M)) u1 u2 u4 N) _
      rw [e1, e2]
      unfold f_M_wide_B39
      have f108 : N 108 0 = hr M := by rw [e6.2.2.2.2.2.2]; rfl
      rw [f108, i32_id (x := hr M + 400) (by omega) (by omega), i32_id (x := u4) (by omega) (by omega)]
      refine wq_if (fun g => wq_some ⟨Or.inl ⟨hcond, Or.inl ⟨rfl, fun k k1 k2 => e5 k k1 (by omega)⟩⟩, e7⟩) (fun g => ?_)
      refine wq_I (s_mAreWide h1 h2 e6 hv.1 hv.2 (show -1000000 ≤ v2 by omega) (by omega) (show 0 ≤ u4 by omega) (by omega)) (fun r M2 ⟨a1, a2, a3⟩ => ?_)
      rcases a1 with ⟨b1, b2⟩ | ⟨b1, b2⟩
      · have b1 : r = 1 := b1
        subst b1
        exact wq_e (by decide) (wq_some ⟨Or.inl ⟨hcond, Or.inr ⟨e4.1, by show u4 ≤ _; omega, b2, e5⟩⟩, e7.tr a3⟩)
      · have b1 : r = 0 := b1
        subst b1
        refine wq_t (by decide) (hk _ ⟨rfl, rfl, ⟨show hr M ≤ u4 + 1 by omega, show u4 + 1 ≤ hr M + 401 by omega⟩, fun k k1 k2 => ?_, a2, e7.tr a3⟩ (show (hr M + 402 - (u4 + 1)).toNat < (hr M + 402 - u4).toNat by omega))
        have k2 : k < u4 + 1 := k2
        by_cases ek : k = u4
        · subst ek; exact b2
        · exact e5 k k1 (by omega)
    · exact ⟨rfl, rfl, ⟨Int.le_refl _, by show hr M ≤ hr M + 401; omega⟩, fun k k1 k2 => absurd k2 (by show ¬ k < hr M; omega), hm, Fr.rf⟩
    · show (hr M + 402 - hr M).toNat < 1000000000
      omega
