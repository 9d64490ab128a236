section Vts
variable {T : Nat → Int} {e o : Int} {F : Nat → Nat → Int → Mm → Option (Int × Mm)}
theorem numR_not {T : Nat → Int} {e p g : Int} (hsp : sk T e p = p) (h : ¬ (p ≠ g ∧ isDig (bte T e p))) : numR T e 0 9999 p g = .inl (1, p) := by
  unfold numR
  rw [hsp]
  exact if_neg h
theorem yt_part (hB : Bt T e) (ho : 0 ≤ o ∧ o ≤ 6) (hS : o ≠ 6 → SSumt F T e (o + 1)) (hP : SPairt F T e o)
  : SPartt (fun _ this o M => f_Reader_part F this o M) T e o := by
  intro p g W C R k M hY hd hlen
  have hh := hB.1
  have b := hY.1.2.2.2.2.2.1
  have hs := sk_rng T b.1 b.2
  have hss := sk_sk T (e := e) b.1
  cases k with
  | zero => cases hd
  | succ k =>
    rw [← dD_sk false T e (k + 1) true g o W C b.1] at hd
    have hsa := s_atNumber hB hY.1
    obtain ⟨P, hPp⟩ : ∃ P, P = sk T e p := ⟨_, rfl⟩
    rw [← hPp] at hd hs hss hsa
    have hlen1 : C.length + W.length + 1 ≤ P.toNat := by omega
    have mono : ∀ r, Qt T e P o W R r → Qt T e p o W R r := by
      intro r z
      rcases z with z | ⟨z1, k, p', g', C', z2, z3, z4, z5⟩
      · exact Or.inl z
      · exact Or.inr ⟨z1, k, p', g', C', z2, z3, by omega, z5⟩
    show wq (f_Reader_part F 38 o M) _
    unfold f_Reader_part
    refine wq_I hsa (fun r M1 ⟨c1, c2, c3⟩ => ?_)
    have y1 : Yt T e P g C M1 := hY.sc c2 (c3.cov rfl)
    have f1 : Fr ytA M M1 := c3.cov rfl
    have hfin : ∀ (v x p' g' : Int) (C' : List Int) (k' : Nat) (M' : Mm), Yt T e p' g' C' M' → Fr ytA M M' → P < p' → dD false T e k' false p' g' (o - (W.takeWhile ofQ).length) (W.dropWhile ofQ) (C' ++ v :: W.takeWhile ofQ) = some R → C'.length + W.length + 2 ≤ p'.toNat → trC v = x → (-20 ≤ x ∧ x ≤ 9999) → ((60 ≤ v ∧ v ≤ 62 ∧ x = 54 - v) ∨ ((v < 60 ∨ 62 < v) ∧ (x < -8 ∨ -6 < x))) → wq (f_Reader_took 38 x M') (fun q => q.1 = 1 ∧ Qt T e p o W R q ∧ Fr ytA M q.2) := by
      intro v x p' g' C' k' M' z1 z2 z3 z4 z5 z6 z7 z8
      exact wq_m (yt_fin hB z1 z2 z3 z4 z5 z6 z7 z8) (fun q ⟨w1, w2, w3⟩ => ⟨w1, mono q w2, w3⟩)
    have ht1 : ∀ (v x p' g' : Int) (C' : List Int) (k' : Nat) (M' : Mm), Yt T e p' g' C' M' → Fr ytA M M' → P < p' → dD false T e k' false p' g' (o - (W.takeWhile ofQ).length) (W.dropWhile ofQ) (C' ++ v :: W.takeWhile ofQ) = some R → C'.length + W.length + 2 ≤ p'.toNat → trC v = x → (-20 ≤ x ∧ x ≤ 9999) → ((60 ≤ v ∧ v ≤ 62 ∧ x = 54 - v) ∨ ((v < 60 ∨ 62 < v) ∧ (x < -8 ∨ -6 < x))) → wq (bI (f_Reader_took 38 x M') (fun r M2 => if i32 r = 0 then some ((0 : Int), M2) else some (1, M2))) (fun q => Qt T e p o W R q ∧ Fr ytA M q.2) := by
      intro v x p' g' C' k' M' z1 z2 z3 z4 z5 z6 z7 z8
      refine wq_I (hfin v x p' g' C' k' M' z1 z2 z3 z4 z5 z6 z7 z8) (fun r M2 ⟨w1, w2, w3⟩ => ?_)
      have w1 : r = 1 := w1
      subst w1
      exact wq_e (by decide) (wq_some ⟨w2, w3⟩)
    have ht2 : ∀ (v x p' g' : Int) (C' : List Int) (k' : Nat) (M' : Mm), Yt T e p' g' C' M' → Fr ytA M M' → P < p' → dD false T e k' false p' g' (o - (W.takeWhile ofQ).length) (W.dropWhile ofQ) (C' ++ v :: W.takeWhile ofQ) = some R → C'.length + W.length + 2 ≤ p'.toNat → trC v = x → (-20 ≤ x ∧ x ≤ 9999) → ((60 ≤ v ∧ v ≤ 62 ∧ x = 54 - v) ∨ ((v < 60 ∨ 62 < v) ∧ (x < -8 ∨ -6 < x))) → wq (bI (f_Reader_took 38 x M') (fun r M2 => gd (i32 r = 0 ∨ i32 r = 1) (some (r, M2)))) (fun q => Qt T e p o W R q ∧ Fr ytA M q.2) := by
      intro v x p' g' C' k' M' z1 z2 z3 z4 z5 z6 z7 z8
      refine wq_I (hfin v x p' g' C' k' M' z1 z2 z3 z4 z5 z6 z7 z8) (fun r M2 ⟨w1, w2, w3⟩ => ?_)
      have w1 : r = 1 := w1
      subst w1
      exact wq_g (Or.inr (by decide)) (wq_some ⟨w2, w3⟩)
    have hbad : ∀ (kk pl : Int) (M' : Mm), R = .inl (kk, pl) → Fb T e kk pl M' → Fr ytA M M' → wq (some ((0 : Int), M')) (fun q => Qt T e p o W R q ∧ Fr ytA M q.2) := fun kk pl M' z1 z2 z3 => wq_some ⟨Or.inl ⟨rfl, kk, pl, z1, z2⟩, z3⟩
    rcases c1 with ⟨d1, d2, d3⟩ | ⟨d1, d2⟩
    · have d1 : r = 1 := d1
      rw [d1]
      have d3 : 48 ≤ bte T e P ∧ bte T e P ≤ 57 := d3
      have hnl : ∀ L, lwd L → 1 ≤ L.length → hwq T e L P g = false := fun L h1 h2 => hwq_not (fun z => by
        have := hw_let h1 h2 z
        rw [hss] at this
        omega)
      obtain ⟨k1, k2⟩ := dD_part hd (by rw [hss]; omega) (hnl wMin lw_Min (by decide)) (hnl wMax lw_Max (by decide)) (fun _ => ⟨hnl wWidth lw_Width (by decide), hnl wTide lw_Tide (by decide), hnl wPasses lw_Passes (by decide)⟩)
      obtain ⟨n1, n2⟩ := opd_num (a := false) (T := T) (e := e) (p := P) (g := g) (fun _ => ⟨hnl wTide lw_Tide (by decide), hnl wRound lw_Round (by decide)⟩) (fun _ => hnl wHour lw_Hour (by decide)) (hnl wClock lw_Clock (by decide)) (hnl wDay lw_Day (by decide))
      refine wq_e (by decide) (wq_I (s_number hB y1.1 (by decide) (by decide) (by decide) (by decide)) (fun r3 M3 ⟨c5, c6⟩ => ?_))
      rcases c5 with ⟨p1, v, m1, m2, m3, m4, m5⟩ | ⟨kk, pl, m1, m2, m3⟩
      · have m2 : r3 = v := m2
        rw [m2, i32_id (x := v) (by omega) (by omega), i32_id (x := (-1)) (by decide) (by decide)]
        rw [hss] at m4
        have y3 := y1.sc m5 c6
        have b3 := m5.2.2.2.2.2.1
        refine wq_e (by omega) (ht1 (1000 + v) v p1 p1 C k M3 y3 (f1.tr (c6.cov rfl)) (by omega) (k2 _ _ _ (n2 _ _ m1)) (by omega) ?_ (by omega) (Or.inr (by omega)))
        unfold trC
        rw [if_pos (by omega)]
        omega
      · have m2 : r3 = -1 := m2
        rw [m2]
        exact wq_t (by decide) (hbad kk pl M3 (k1 _ (n1 _ m1)) m3 (f1.tr (c6.cov rfl)))
    have d1 : r = 0 := d1
    rw [d1]
    refine wq_t (by decide) (wq_I (s_atSign hB y1.1 (by decide)) (fun r2 M2 ⟨c4, c5, c6⟩ => ?_))
    rw [hss] at c4 c5
    have y2 : Yt T e P g C M2 := y1.sc c5 (c6.cov rfl)
    have f2 : Fr ytA M M2 := f1.tr (c6.cov rfl)
    rcases c4 with ⟨d4, d5⟩ | ⟨d4, d5⟩
    · have d4 : r2 = 1 := d4
      rw [d4]
      have hl := bte_lt (T := T) (e := e) (k := P) (by omega) (by omega)
      have d6 := hd
      unfold dD at d6
      rw [hss, if_pos d5] at d6
      refine wq_e (by decide) (wq_I (yt_may y2 ho hB) (fun r3 M3 ⟨c7, c8⟩ => ?_))
      have f3 : Fr ytA M M3 := f2.tr (c8.cov rfl)
      rcases c7 with ⟨d7, d8, d9⟩ | ⟨d7, d8, d9⟩
      · have d7 : r3 = 1 := d7
        have d9 : M3 = M2 := d9
        subst d9
        rw [d7]
        rw [if_neg d8] at d6
        refine wq_e (by decide) (wq_I (s_takeSign hB y2.1 (by decide)) (fun r4 M4 ⟨c9, e1⟩ => ?_))
        rw [hss] at c9
        rcases c9 with ⟨e2, e3, e4⟩ | ⟨e2, e3, e4⟩
        · have e2 : r4 = 1 := e2
          rw [e2]
          have y4 := y2.sc e4 (e1.cov rfl)
          have f4 : Fr ytA M M4 := f3.tr (e1.cov rfl)
          have m := mrk_of (k := 20) (by decide)
          refine wq_e (by decide) (wq_I (hS d8 _ _ (20 :: W) C R k M4 y4 d6 (by rw [List.length_cons]; omega) (tw_n m.2.2.1).1 (noOf_of m.2.2.2)) (fun r5 M5 ⟨e5, e6⟩ => ?_))
          have f5 : Fr ytA M M5 := f4.tr e6
          rcases e5 with ⟨z1, kk, pl, z2, z3⟩ | ⟨z1, k5, p5, g5, A5, C5, e7, y5, l5, hA5, l6, n5⟩
          · have z1 : r5 = 0 := z1
            rw [z1]
            exact wq_t (by decide) (hbad kk pl M5 z2 z3 f5)
          have z1 : r5 = 1 := z1
          rw [z1]
          have y5 : Yt T e p5 g5 (C5 ++ A5) M5 := y5
          have b5 := y5.1.2.2.2.2.2.1
          have hs5 := sk_rng T b5.1 b5.2
          rw [List.length_cons] at l6
          have hsg := (dD_sign (by omega) e7 hA5 n5).1 (Or.inl rfl)
          refine wq_e (by decide) (wq_I (s_needSign hB y5.1 (by decide)) (fun r6 M6 ⟨i1, i2⟩ => ?_))
          have f6 : Fr ytA M M6 := f5.tr (i2.cov rfl)
          rcases i1 with ⟨i3, i4, i5⟩ | ⟨i3, i4, i5⟩
          · have i3 : r6 = 1 := i3
            rw [i3]
            obtain ⟨n6, d10⟩ := hsg.1 i4
            have hl5 := bte_lt (T := T) (e := e) (k := sk T e p5) (by omega) (by omega)
            refine wq_e (by decide) (wq_some ⟨Or.inr ⟨rfl, n6, _, _, C5 ++ A5, ?_, y5.sc i5 i2, by omega, by rw [List.length_append]; omega⟩, f6⟩)
            rw [if_pos rfl, List.nil_append, show o + 1 - 1 - ((W.takeWhile ofQ).length : Int) = o - (W.takeWhile ofQ).length by omega, ← List.append_assoc] at d10
            exact d10
          · have i3 : r6 = 0 := i3
            rw [i3]
            exact wq_t (by decide) (hbad 1 _ M6 (hsg.2 i4) i5 f6)
        · exact absurd d5 e3
      · have d7 : r3 = 0 := d7
        rw [d7]
        rw [if_pos d8] at d6
        exact wq_t (by decide) (hbad 4 _ M3 (Option.some.inj d6).symm d9 f3)
    have d4 : r2 = 0 := d4
    rw [d4]
    have hpr : ∀ (kk v x : Int) (M' : Mm), ((kk = 21 ∧ v = 5 ∧ x = -14) ∨ (kk = 22 ∧ v = 6 ∧ x = -15)) → Sc T e (P + 3) (P + 3) M' → Fr scL M2 M' → (if bte T e (sk T e (P + 3)) ≠ 40 then some (.inl (1, sk T e (P + 3))) else if o = 6 then some (.inl (4, sk T e (P + 3))) else dD false T e k true (sk T e (P + 3) + 1) (P + 3) (o + 1) (kk :: W) C) = some R → wq (bI (F 3 38 o M') (fun r34 M33 => if i32 r34 = 0 then some ((0 : Int), M33) else bI (f_Reader_took 38 x M33) (fun r36 M35 => if i32 r36 = 0 then some ((0 : Int), M35) else some (1, M35)))) (fun q => Qt T e p o W R q ∧ Fr ytA M q.2) := by
      intro kk v x M' hv hs3 hf3 hd3
      have f3 : Fr ytA M M' := f2.tr (hf3.cov rfl)
      refine wq_I (hP (P + 3) kk W C R k M' (by omega) (y2.sc hs3 hf3) hd3 (by omega)) (fun r3 M3 ⟨w1, w2⟩ => ?_)
      have f4 : Fr ytA M M3 := f3.tr w2
      rcases w1 with ⟨z1, k9, pl, z2, z3⟩ | ⟨z1, k5, p5, g5, C5, e7, y5, l5, l6⟩
      · have z1 : r3 = 0 := z1
        rw [z1]
        exact wq_t (by decide) (hbad k9 pl M3 z2 z3 f4)
      · have z1 : r3 = 1 := z1
        rw [z1]
        have ev : kk - 16 = v := by
          rcases hv with ⟨h1, h2, -⟩ | ⟨h1, h2, -⟩
          · rw [h1, h2]; rfl
          · rw [h1, h2]; rfl
        rw [ev, List.append_assoc] at e7
        have hx : trC v = x ∧ -20 ≤ x ∧ x ≤ -9 ∧ v ≤ 50 := by
          rcases hv with ⟨-, h2, h3⟩ | ⟨-, h2, h3⟩
          · subst h2 h3; exact ⟨by decide, by decide, by decide, by decide⟩
          · subst h2 h3; exact ⟨by decide, by decide, by decide, by decide⟩
        exact wq_e (by decide) (ht1 v x p5 g5 C5 k5 M3 y5 f4 (by omega) e7 (by omega) hx.1 (by omega) (Or.inr (by omega)))
    refine wq_t (by decide) (wq_I (s_takeWord hB y2.1 cw_9) (fun r3 M3 ⟨c7, c8⟩ => ?_))
    rw [hss] at c7
    rcases c7 with ⟨e1, e2, e3⟩ | ⟨e1, e2, e3⟩
    · have e1 : r3 = 1 := e1
      rw [e1]
      have d6 := hd
      unfold dD at d6
      rw [hss, if_neg d5, if_pos (hwq_iff.mpr e2)] at d6
      exact wq_e (by decide) (hpr 21 5 (-14) M3 (Or.inl ⟨rfl, rfl, rfl⟩) e3 c8 d6)
    have e1 : r3 = 0 := e1
    rw [e1]
    refine wq_t (by decide) (wq_I (s_takeWord hB e3 cw_10) (fun r4 M4 ⟨c9, g1⟩ => ?_))
    rw [hss] at c9
    have g2 : Fr scL M2 M4 := Fr.tr c8 g1
    rcases c9 with ⟨e4, e5, e6⟩ | ⟨e4, e5, e6⟩
    · have e4 : r4 = 1 := e4
      rw [e4]
      have d6 := hd
      unfold dD at d6
      rw [hss, if_neg d5, if_neg (fun z => e2 (hwq_iff.mp z)), if_pos (hwq_iff.mpr e5)] at d6
      exact wq_e (by decide) (hpr 22 6 (-15) M4 (Or.inr ⟨rfl, rfl, rfl⟩) e6 g2 d6)
    have e4 : r4 = 0 := e4
    rw [e4]
    have hwd : ∀ (v x : Int) (L : List Int) (M' : Mm), 1 ≤ L.length → (opd false T e P g = .inr (P + L.length, P + L.length, v)) → (hwq T e wWidth P g = false ∧ hwq T e wTide P g = false ∧ hwq T e wPasses P g = false ∨ false = false) → Sc T e (P + L.length) (P + L.length) M' → Fr scL M2 M' → trC v = x → (-20 ≤ x ∧ x ≤ 9999) → ((v < 60 ∨ 62 < v) ∧ (x < -8 ∨ -6 < x)) → wq (bI (f_Reader_took 38 x M') (fun r M2 => gd (i32 r = 0 ∨ i32 r = 1) (some (r, M2)))) (fun q => Qt T e p o W R q ∧ Fr ytA M q.2) := by
      intro v x L M' z0 z1 z2 z3 z4 z5 z6 z7
      obtain ⟨k1, k2⟩ := dD_part hd (by rw [hss]; exact d5) (hwq_not e2) (hwq_not e5) (fun ha => z2.elim id (fun y => absurd (ha.symm.trans y) (by decide)))
      exact ht2 v x _ _ C k M' (y2.sc z3 z4) (f2.tr (z4.cov rfl)) (by omega) (k2 _ _ _ z1) (by omega) z5 z6 (Or.inr z7)
    refine wq_t (by decide) (wq_I (s_takeWord hB e6 cw_11) (fun r5 M5 ⟨g3, g4⟩ => ?_))
    rw [hss] at g3
    have g5 : Fr scL M2 M5 := g2.tr g4
    rcases g3 with ⟨i1, i2, i3⟩ | ⟨i1, i2, i3⟩
    · have i1 : r5 = 1 := i1
      rw [i1]
      exact wq_e (by decide) (hwd 9 (-3) wClock M5 (by decide) (by unfold opd; rw [hss, hw_no i2 lw_Clock lw_Tide (by decide), hw_no i2 lw_Clock lw_Round (by decide), hw_no i2 lw_Clock lw_Hour (by decide), hwq_iff.mpr i2]; rfl) (Or.inl ⟨hw_no i2 lw_Clock lw_Width (by decide), hw_no i2 lw_Clock lw_Tide (by decide), hw_no i2 lw_Clock lw_Passes (by decide)⟩) i3 g5 (by decide) (by decide) (by decide))
    have i1 : r5 = 0 := i1
    rw [i1]
    refine wq_t (by decide) (wq_I (s_takeWord hB i3 cw_12) (fun r6 M6 ⟨g6, g7⟩ => ?_))
    rw [hss] at g6
    have g8 : Fr scL M2 M6 := g5.tr g7
    rcases g6 with ⟨i4, i5, i6⟩ | ⟨i4, i5, i6⟩
    · have i4 : r6 = 1 := i4
      rw [i4]
      exact wq_e (by decide) (hwd 10 (-4) wDay M6 (by decide) (by unfold opd; rw [hss, hw_no i5 lw_Day lw_Tide (by decide), hw_no i5 lw_Day lw_Round (by decide), hw_no i5 lw_Day lw_Hour (by decide), hw_no i5 lw_Day lw_Clock (by decide), hwq_iff.mpr i5]; rfl) (Or.inl ⟨hw_no i5 lw_Day lw_Width (by decide), hw_no i5 lw_Day lw_Tide (by decide), hw_no i5 lw_Day lw_Passes (by decide)⟩) i6 g8 (by decide) (by decide) (by decide))
    have i4 : r6 = 0 := i4
    rw [i4]
    have y6 : Yt T e P g C M6 := y2.sc i6 g8
    have f6 : Fr ytA M M6 := f2.tr (g8.cov rfl)
    rw [y6.2.2.2.2]
    refine wq_t (by decide) ?_
    refine wq_t (by decide) (wq_I (s_takeWord hB i6 cw_15) (fun r7 M7 ⟨j1, j2⟩ => ?_))
    rw [hss] at j1
    have j3 : Fr scL M2 M7 := g8.tr j2
    rcases j1 with ⟨j4, j5, j6⟩ | ⟨j4, j5, j6⟩
    · have j4 : r7 = 1 := j4
      rw [j4]
      exact wq_e (by decide) (hwd 7 (-1) wTide M7 (by decide) (by unfold opd; rw [hss, hwq_iff.mpr j5]; rfl) (Or.inr rfl) j6 j3 (by decide) (by decide) (by decide))
    have j4 : r7 = 0 := j4
    rw [j4]
    refine wq_t (by decide) (wq_I (s_takeWord hB j6 cw_6) (fun r8 M8 ⟨l1, l2⟩ => ?_))
    rw [hss] at l1
    have l3 : Fr scL M2 M8 := j3.tr l2
    rcases l1 with ⟨l4, l5, l6⟩ | ⟨l4, l5, l6⟩
    · have l4 : r8 = 1 := l4
      rw [l4]
      exact wq_e (by decide) (hwd 8 (-2) wRound M8 (by decide) (by unfold opd; rw [hss, hwq_not j5, hwq_iff.mpr l5]; rfl) (Or.inr rfl) l6 l3 (by decide) (by decide) (by decide))
    have l4 : r8 = 0 := l4
    rw [l4]
    obtain ⟨k1, k2⟩ := dD_part hd (by rw [hss]; exact d5) (hwq_not e2) (hwq_not e5) (fun ha => by cases ha)
    obtain ⟨n1, n2⟩ := opd_num (a := false) (T := T) (e := e) (p := P) (g := g) (fun _ => ⟨hwq_not j5, hwq_not l5⟩) (fun ha => by cases ha) (hwq_not i2) (hwq_not i5)
    refine wq_t (by decide) (wq_I (s_unex hB l6) (fun r9 M9 ⟨w1, w2, w3⟩ => ?_))
    have w1 : r9 = 0 := w1
    rw [hss] at w2
    rw [w1]
    exact wq_g (Or.inl (by decide)) (hbad 1 P M9 (k1 _ (n1 _ (numR_not hss d2))) w2 (f2.tr ((l3.cov rfl : Fr ytA _ _).tr (w3.cov rfl))))
end Vts
section Vqs
variable {T : Nat → Int} {e o : Int} {F : Nat → Nat → Int → Mm → Option (Int × Mm)}
def SAskq (F : Nat → Nat → Int → Mm → Option (Int × Mm)) (T : Nat → Int) (e o : Int) : Prop := ∀ (p g : Int) (W C : List Int) (R : Out) (k : Nat) (M : Mm), Yq T e p g C M → sk T e p = p → dD true T e (k + 1) true p g o W C = some R → C.length + W.length + 1 ≤ p.toNat → bte T e p ≠ 40 → ¬ (p ≠ g ∧ isDig (bte T e p)) → hwq T e wMin p g = false → hwq T e wMax p g = false → hwq T e wClock p g = false → hwq T e wDay p g = false → wq (F 4 76 o M) (fun q => Qq T e p o W R q ∧ Fr yqA M q.2)
theorem numR_noq {T : Nat → Int} {e p g : Int} (hsp : sk T e p = p) (h : ¬ (p ≠ g ∧ isDig (bte T e p))) : numR T e 0 9999 p g = .inl (1, p) := by
  unfold numR
  rw [hsp]
  exact if_neg h
theorem yq_part (hB : Bt T e) (ho : 0 ≤ o ∧ o ≤ 6) (hS : o ≠ 6 → SSumq F T e (o + 1)) (hP : SPairq F T e o)
  (hA : SAskq F T e o)
  : SPartq (fun _ this o M => f_Reader_part F this o M) T e o := by
  intro p g W C R k M hY hd hlen
  have hh := hB.1
  have b := hY.1.2.2.2.2.2.1
  have hs := sk_rng T b.1 b.2
  have hss := sk_sk T (e := e) b.1
  cases k with
  | zero => cases hd
  | succ k =>
    rw [← dD_sk true T e (k + 1) true g o W C b.1] at hd
    have hsa := s_atNumber hB hY.1
    obtain ⟨P, hPp⟩ : ∃ P, P = sk T e p := ⟨_, rfl⟩
    rw [← hPp] at hd hs hss hsa
    have hlen1 : C.length + W.length + 1 ≤ P.toNat := by omega
    have mono : ∀ r, Qq T e P o W R r → Qq T e p o W R r := by
      intro r z
      rcases z with z | ⟨z1, k, p', g', C', z2, z3, z4, z5⟩
      · exact Or.inl z
      · exact Or.inr ⟨z1, k, p', g', C', z2, z3, by omega, z5⟩
    show wq (f_Reader_part F 76 o M) _
    unfold f_Reader_part
    refine wq_I hsa (fun r M1 ⟨c1, c2, c3⟩ => ?_)
    have y1 : Yq T e P g C M1 := hY.sc c2 (c3.cov rfl)
    have f1 : Fr yqA M M1 := c3.cov rfl
    have hfin : ∀ (v x p' g' : Int) (C' : List Int) (k' : Nat) (M' : Mm), Yq T e p' g' C' M' → Fr yqA M M' → P < p' → dD true T e k' false p' g' (o - (W.takeWhile ofQ).length) (W.dropWhile ofQ) (C' ++ v :: W.takeWhile ofQ) = some R → C'.length + W.length + 2 ≤ p'.toNat → tqC v = x → (-20 ≤ x ∧ x ≤ 9999) → ((60 ≤ v ∧ v ≤ 62 ∧ x = 54 - v) ∨ ((v < 60 ∨ 62 < v) ∧ (x < -8 ∨ -6 < x))) → wq (f_Reader_took 76 x M') (fun q => q.1 = 1 ∧ Qq T e p o W R q ∧ Fr yqA M q.2) := by
      intro v x p' g' C' k' M' z1 z2 z3 z4 z5 z6 z7 z8
      exact wq_m (yq_fin hB z1 z2 z3 z4 z5 z6 z7 z8) (fun q ⟨w1, w2, w3⟩ => ⟨w1, mono q w2, w3⟩)
    have ht1 : ∀ (v x p' g' : Int) (C' : List Int) (k' : Nat) (M' : Mm), Yq T e p' g' C' M' → Fr yqA M M' → P < p' → dD true T e k' false p' g' (o - (W.takeWhile ofQ).length) (W.dropWhile ofQ) (C' ++ v :: W.takeWhile ofQ) = some R → C'.length + W.length + 2 ≤ p'.toNat → tqC v = x → (-20 ≤ x ∧ x ≤ 9999) → ((60 ≤ v ∧ v ≤ 62 ∧ x = 54 - v) ∨ ((v < 60 ∨ 62 < v) ∧ (x < -8 ∨ -6 < x))) → wq (bI (f_Reader_took 76 x M') (fun r M2 => if i32 r = 0 then some ((0 : Int), M2) else some (1, M2))) (fun q => Qq T e p o W R q ∧ Fr yqA M q.2) := by
      intro v x p' g' C' k' M' z1 z2 z3 z4 z5 z6 z7 z8
      refine wq_I (hfin v x p' g' C' k' M' z1 z2 z3 z4 z5 z6 z7 z8) (fun r M2 ⟨w1, w2, w3⟩ => ?_)
      have w1 : r = 1 := w1
      subst w1
      exact wq_e (by decide) (wq_some ⟨w2, w3⟩)
    have ht2 : ∀ (v x p' g' : Int) (C' : List Int) (k' : Nat) (M' : Mm), Yq T e p' g' C' M' → Fr yqA M M' → P < p' → dD true T e k' false p' g' (o - (W.takeWhile ofQ).length) (W.dropWhile ofQ) (C' ++ v :: W.takeWhile ofQ) = some R → C'.length + W.length + 2 ≤ p'.toNat → tqC v = x → (-20 ≤ x ∧ x ≤ 9999) → ((60 ≤ v ∧ v ≤ 62 ∧ x = 54 - v) ∨ ((v < 60 ∨ 62 < v) ∧ (x < -8 ∨ -6 < x))) → wq (bI (f_Reader_took 76 x M') (fun r M2 => gd (i32 r = 0 ∨ i32 r = 1) (some (r, M2)))) (fun q => Qq T e p o W R q ∧ Fr yqA M q.2) := by
      intro v x p' g' C' k' M' z1 z2 z3 z4 z5 z6 z7 z8
      refine wq_I (hfin v x p' g' C' k' M' z1 z2 z3 z4 z5 z6 z7 z8) (fun r M2 ⟨w1, w2, w3⟩ => ?_)
      have w1 : r = 1 := w1
      subst w1
      exact wq_g (Or.inr (by decide)) (wq_some ⟨w2, w3⟩)
    have hbad : ∀ (kk pl : Int) (M' : Mm), R = .inl (kk, pl) → Fb T e kk pl M' → Fr yqA M M' → wq (some ((0 : Int), M')) (fun q => Qq T e p o W R q ∧ Fr yqA M q.2) := fun kk pl M' z1 z2 z3 => wq_some ⟨Or.inl ⟨rfl, kk, pl, z1, z2⟩, z3⟩
    rcases c1 with ⟨d1, d2, d3⟩ | ⟨d1, d2⟩
    · have d1 : r = 1 := d1
      rw [d1]
      have d3 : 48 ≤ bte T e P ∧ bte T e P ≤ 57 := d3
      have hnl : ∀ L, lwd L → 1 ≤ L.length → hwq T e L P g = false := fun L h1 h2 => hwq_not (fun z => by
        have := hw_let h1 h2 z
        rw [hss] at this
        omega)
      obtain ⟨k1, k2⟩ := dD_part hd (by rw [hss]; omega) (hnl wMin lw_Min (by decide)) (hnl wMax lw_Max (by decide)) (fun _ => ⟨hnl wWidth lw_Width (by decide), hnl wTide lw_Tide (by decide), hnl wPasses lw_Passes (by decide)⟩)
      obtain ⟨n1, n2⟩ := opd_num (a := true) (T := T) (e := e) (p := P) (g := g) (fun _ => ⟨hnl wTide lw_Tide (by decide), hnl wRound lw_Round (by decide)⟩) (fun _ => hnl wHour lw_Hour (by decide)) (hnl wClock lw_Clock (by decide)) (hnl wDay lw_Day (by decide))
      refine wq_e (by decide) (wq_I (s_number hB y1.1 (by decide) (by decide) (by decide) (by decide)) (fun r3 M3 ⟨c5, c6⟩ => ?_))
      rcases c5 with ⟨p1, v, m1, m2, m3, m4, m5⟩ | ⟨kk, pl, m1, m2, m3⟩
      · have m2 : r3 = v := m2
        rw [m2, i32_id (x := v) (by omega) (by omega), i32_id (x := (-1)) (by decide) (by decide)]
        rw [hss] at m4
        have y3 := y1.sc m5 c6
        have b3 := m5.2.2.2.2.2.1
        refine wq_e (by omega) (ht1 (1000 + v) v p1 p1 C k M3 y3 (f1.tr (c6.cov rfl)) (by omega) (k2 _ _ _ (n2 _ _ m1)) (by omega) ?_ (by omega) (Or.inr (by omega)))
        unfold tqC
        rw [if_pos (by omega)]
        omega
      · have m2 : r3 = -1 := m2
        rw [m2]
        exact wq_t (by decide) (hbad kk pl M3 (k1 _ (n1 _ m1)) m3 (f1.tr (c6.cov rfl)))
    have d1 : r = 0 := d1
    rw [d1]
    refine wq_t (by decide) (wq_I (s_atSign hB y1.1 (by decide)) (fun r2 M2 ⟨c4, c5, c6⟩ => ?_))
    rw [hss] at c4 c5
    have y2 : Yq T e P g C M2 := y1.sc c5 (c6.cov rfl)
    have f2 : Fr yqA M M2 := f1.tr (c6.cov rfl)
    rcases c4 with ⟨d4, d5⟩ | ⟨d4, d5⟩
    · have d4 : r2 = 1 := d4
      rw [d4]
      have hl := bte_lt (T := T) (e := e) (k := P) (by omega) (by omega)
      have d6 := hd
      unfold dD at d6
      rw [hss, if_pos d5] at d6
      refine wq_e (by decide) (wq_I (yq_may y2 ho hB) (fun r3 M3 ⟨c7, c8⟩ => ?_))
      have f3 : Fr yqA M M3 := f2.tr (c8.cov rfl)
      rcases c7 with ⟨d7, d8, d9⟩ | ⟨d7, d8, d9⟩
      · have d7 : r3 = 1 := d7
        have d9 : M3 = M2 := d9
        subst d9
        rw [d7]
        rw [if_neg d8] at d6
        refine wq_e (by decide) (wq_I (s_takeSign hB y2.1 (by decide)) (fun r4 M4 ⟨c9, e1⟩ => ?_))
        rw [hss] at c9
        rcases c9 with ⟨e2, e3, e4⟩ | ⟨e2, e3, e4⟩
        · have e2 : r4 = 1 := e2
          rw [e2]
          have y4 := y2.sc e4 (e1.cov rfl)
          have f4 : Fr yqA M M4 := f3.tr (e1.cov rfl)
          have m := mrk_of (k := 20) (by decide)
          refine wq_e (by decide) (wq_I (hS d8 _ _ (20 :: W) C R k M4 y4 d6 (by rw [List.length_cons]; omega) (tw_n m.2.2.1).1 (noOf_of m.2.2.2)) (fun r5 M5 ⟨e5, e6⟩ => ?_))
          have f5 : Fr yqA M M5 := f4.tr e6
          rcases e5 with ⟨z1, kk, pl, z2, z3⟩ | ⟨z1, k5, p5, g5, A5, C5, e7, y5, l5, hA5, l6, n5⟩
          · have z1 : r5 = 0 := z1
            rw [z1]
            exact wq_t (by decide) (hbad kk pl M5 z2 z3 f5)
          have z1 : r5 = 1 := z1
          rw [z1]
          have y5 : Yq T e p5 g5 (C5 ++ A5) M5 := y5
          have b5 := y5.1.2.2.2.2.2.1
          have hs5 := sk_rng T b5.1 b5.2
          rw [List.length_cons] at l6
          have hsg := (dD_sign (by omega) e7 hA5 n5).1 (Or.inl rfl)
          refine wq_e (by decide) (wq_I (s_needSign hB y5.1 (by decide)) (fun r6 M6 ⟨i1, i2⟩ => ?_))
          have f6 : Fr yqA M M6 := f5.tr (i2.cov rfl)
          rcases i1 with ⟨i3, i4, i5⟩ | ⟨i3, i4, i5⟩
          · have i3 : r6 = 1 := i3
            rw [i3]
            obtain ⟨n6, d10⟩ := hsg.1 i4
            have hl5 := bte_lt (T := T) (e := e) (k := sk T e p5) (by omega) (by omega)
            refine wq_e (by decide) (wq_some ⟨Or.inr ⟨rfl, n6, _, _, C5 ++ A5, ?_, y5.sc i5 i2, by omega, by rw [List.length_append]; omega⟩, f6⟩)
            rw [if_pos rfl, List.nil_append, show o + 1 - 1 - ((W.takeWhile ofQ).length : Int) = o - (W.takeWhile ofQ).length by omega, ← List.append_assoc] at d10
            exact d10
          · have i3 : r6 = 0 := i3
            rw [i3]
            exact wq_t (by decide) (hbad 1 _ M6 (hsg.2 i4) i5 f6)
        · exact absurd d5 e3
      · have d7 : r3 = 0 := d7
        rw [d7]
        rw [if_pos d8] at d6
        exact wq_t (by decide) (hbad 4 _ M3 (Option.some.inj d6).symm d9 f3)
    have d4 : r2 = 0 := d4
    rw [d4]
    have hpr : ∀ (kk v x : Int) (M' : Mm), ((kk = 21 ∧ v = 5 ∧ x = -14) ∨ (kk = 22 ∧ v = 6 ∧ x = -15)) → Sc T e (P + 3) (P + 3) M' → Fr scL M2 M' → (if bte T e (sk T e (P + 3)) ≠ 40 then some (.inl (1, sk T e (P + 3))) else if o = 6 then some (.inl (4, sk T e (P + 3))) else dD true T e k true (sk T e (P + 3) + 1) (P + 3) (o + 1) (kk :: W) C) = some R → wq (bI (F 3 76 o M') (fun r34 M33 => if i32 r34 = 0 then some ((0 : Int), M33) else bI (f_Reader_took 76 x M33) (fun r36 M35 => if i32 r36 = 0 then some ((0 : Int), M35) else some (1, M35)))) (fun q => Qq T e p o W R q ∧ Fr yqA M q.2) := by
      intro kk v x M' hv hs3 hf3 hd3
      have f3 : Fr yqA M M' := f2.tr (hf3.cov rfl)
      refine wq_I (hP (P + 3) kk W C R k M' (by omega) (y2.sc hs3 hf3) hd3 (by omega)) (fun r3 M3 ⟨w1, w2⟩ => ?_)
      have f4 : Fr yqA M M3 := f3.tr w2
      rcases w1 with ⟨z1, k9, pl, z2, z3⟩ | ⟨z1, k5, p5, g5, C5, e7, y5, l5, l6⟩
      · have z1 : r3 = 0 := z1
        rw [z1]
        exact wq_t (by decide) (hbad k9 pl M3 z2 z3 f4)
      · have z1 : r3 = 1 := z1
        rw [z1]
        have ev : kk - 16 = v := by
          rcases hv with ⟨h1, h2, -⟩ | ⟨h1, h2, -⟩
          · rw [h1, h2]; rfl
          · rw [h1, h2]; rfl
        rw [ev, List.append_assoc] at e7
        have hx : tqC v = x ∧ -20 ≤ x ∧ x ≤ -9 ∧ v ≤ 50 := by
          rcases hv with ⟨-, h2, h3⟩ | ⟨-, h2, h3⟩
          · subst h2 h3; exact ⟨by decide, by decide, by decide, by decide⟩
          · subst h2 h3; exact ⟨by decide, by decide, by decide, by decide⟩
        exact wq_e (by decide) (ht1 v x p5 g5 C5 k5 M3 y5 f4 (by omega) e7 (by omega) hx.1 (by omega) (Or.inr (by omega)))
    refine wq_t (by decide) (wq_I (s_takeWord hB y2.1 cw_9) (fun r3 M3 ⟨c7, c8⟩ => ?_))
    rw [hss] at c7
    rcases c7 with ⟨e1, e2, e3⟩ | ⟨e1, e2, e3⟩
    · have e1 : r3 = 1 := e1
      rw [e1]
      have d6 := hd
      unfold dD at d6
      rw [hss, if_neg d5, if_pos (hwq_iff.mpr e2)] at d6
      exact wq_e (by decide) (hpr 21 5 (-14) M3 (Or.inl ⟨rfl, rfl, rfl⟩) e3 c8 d6)
    have e1 : r3 = 0 := e1
    rw [e1]
    refine wq_t (by decide) (wq_I (s_takeWord hB e3 cw_10) (fun r4 M4 ⟨c9, g1⟩ => ?_))
    rw [hss] at c9
    have g2 : Fr scL M2 M4 := Fr.tr c8 g1
    rcases c9 with ⟨e4, e5, e6⟩ | ⟨e4, e5, e6⟩
    · have e4 : r4 = 1 := e4
      rw [e4]
      have d6 := hd
      unfold dD at d6
      rw [hss, if_neg d5, if_neg (fun z => e2 (hwq_iff.mp z)), if_pos (hwq_iff.mpr e5)] at d6
      exact wq_e (by decide) (hpr 22 6 (-15) M4 (Or.inr ⟨rfl, rfl, rfl⟩) e6 g2 d6)
    have e4 : r4 = 0 := e4
    rw [e4]
    have hwd : ∀ (v x : Int) (L : List Int) (M' : Mm), 1 ≤ L.length → (opd true T e P g = .inr (P + L.length, P + L.length, v)) → (hwq T e wWidth P g = false ∧ hwq T e wTide P g = false ∧ hwq T e wPasses P g = false ∨ true = false) → Sc T e (P + L.length) (P + L.length) M' → Fr scL M2 M' → tqC v = x → (-20 ≤ x ∧ x ≤ 9999) → ((v < 60 ∨ 62 < v) ∧ (x < -8 ∨ -6 < x)) → wq (bI (f_Reader_took 76 x M') (fun r M2 => gd (i32 r = 0 ∨ i32 r = 1) (some (r, M2)))) (fun q => Qq T e p o W R q ∧ Fr yqA M q.2) := by
      intro v x L M' z0 z1 z2 z3 z4 z5 z6 z7
      obtain ⟨k1, k2⟩ := dD_part hd (by rw [hss]; exact d5) (hwq_not e2) (hwq_not e5) (fun ha => z2.elim id (fun y => absurd (ha.symm.trans y) (by decide)))
      exact ht2 v x _ _ C k M' (y2.sc z3 z4) (f2.tr (z4.cov rfl)) (by omega) (k2 _ _ _ z1) (by omega) z5 z6 (Or.inr z7)
    refine wq_t (by decide) (wq_I (s_takeWord hB e6 cw_11) (fun r5 M5 ⟨g3, g4⟩ => ?_))
    rw [hss] at g3
    have g5 : Fr scL M2 M5 := g2.tr g4
    rcases g3 with ⟨i1, i2, i3⟩ | ⟨i1, i2, i3⟩
    · have i1 : r5 = 1 := i1
      rw [i1]
      exact wq_e (by decide) (hwd 41 (-3) wClock M5 (by decide) (by unfold opd; rw [hss, hw_no i2 lw_Clock lw_Tide (by decide), hw_no i2 lw_Clock lw_Round (by decide), hw_no i2 lw_Clock lw_Hour (by decide), hwq_iff.mpr i2]; rfl) (Or.inl ⟨hw_no i2 lw_Clock lw_Width (by decide), hw_no i2 lw_Clock lw_Tide (by decide), hw_no i2 lw_Clock lw_Passes (by decide)⟩) i3 g5 (by decide) (by decide) (by decide))
    have i1 : r5 = 0 := i1
    rw [i1]
    refine wq_t (by decide) (wq_I (s_takeWord hB i3 cw_12) (fun r6 M6 ⟨g6, g7⟩ => ?_))
    rw [hss] at g6
    have g8 : Fr scL M2 M6 := g5.tr g7
    rcases g6 with ⟨i4, i5, i6⟩ | ⟨i4, i5, i6⟩
    · have i4 : r6 = 1 := i4
      rw [i4]
      exact wq_e (by decide) (hwd 42 (-4) wDay M6 (by decide) (by unfold opd; rw [hss, hw_no i5 lw_Day lw_Tide (by decide), hw_no i5 lw_Day lw_Round (by decide), hw_no i5 lw_Day lw_Hour (by decide), hw_no i5 lw_Day lw_Clock (by decide), hwq_iff.mpr i5]; rfl) (Or.inl ⟨hw_no i5 lw_Day lw_Width (by decide), hw_no i5 lw_Day lw_Tide (by decide), hw_no i5 lw_Day lw_Passes (by decide)⟩) i6 g8 (by decide) (by decide) (by decide))
    have i4 : r6 = 0 := i4
    rw [i4]
    have y6 : Yq T e P g C M6 := y2.sc i6 g8
    have f6 : Fr yqA M M6 := f2.tr (g8.cov rfl)
    rw [y6.2.2.2.2]
    refine wq_t (by decide) ?_
    refine wq_e (by decide) (wq_I (hA P g W C R k M6 y6 hss hd hlen1 d5 d2 (hwq_not e2) (hwq_not e5) (hwq_not i2) (hwq_not i5)) (fun r7 M7 ⟨w1, w2⟩ => ?_))
    have w3 : i32 r7 = 0 ∨ i32 r7 = 1 := by
      rcases w1 with ⟨z, -⟩ | ⟨z, -⟩
      · have z : r7 = 0 := z
        rw [z]; exact Or.inl (by decide)
      · have z : r7 = 1 := z
        rw [z]; exact Or.inr (by decide)
    exact wq_g w3 (wq_some ⟨mono _ w1, f6.tr w2⟩)
end Vqs
