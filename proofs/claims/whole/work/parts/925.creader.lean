theorem yq_ask {T : Nat → Int} {e o : Int} {F : Nat → Nat → Int → Mm → Option (Int × Mm)} (hB : Bt T e) (ho : 0 ≤ o ∧ o ≤ 6) (hS : o ≠ 6 → SPartq F T e (o + 1)) : SAskq (fun _ this o M => f_Reader_askedPart F this o M) T e o := by
  intro P g W C R k M y1 hss hd hlen h40 hnum hmn hmx hck hdy
  have hh := hB.1
  have b := y1.1.2.2.2.2.2.1
  show wq (f_Reader_askedPart F 76 o M) _
  have ht1 : ∀ (v x p' g' : Int) (C' : List Int) (k' : Nat) (M' : Mm), Yq T e p' g' C' M' → Fr yqA M M' → P < p' → dD true T e k' false p' g' (o - (W.takeWhile ofQ).length) (W.dropWhile ofQ) (C' ++ v :: W.takeWhile ofQ) = some R → C'.length + W.length + 2 ≤ p'.toNat → tqC v = x → (-20 ≤ x ∧ x ≤ 9999) → ((60 ≤ v ∧ v ≤ 62 ∧ x = 54 - v) ∨ ((v < 60 ∨ 62 < v) ∧ (x < -8 ∨ -6 < x))) → wq (bI (f_Reader_took 76 x M') (fun r M2 => if i32 r = 0 then some ((0 : Int), M2) else some (1, M2))) (fun q => Qq T e P o W R q ∧ Fr yqA M q.2) := by
    intro v x p' g' C' k' M' z1 z2 z3 z4 z5 z6 z7 z8
    refine wq_I (yq_fin hB z1 z2 z3 z4 z5 z6 z7 z8) (fun r M2 ⟨w1, w2, w3⟩ => ?_)
    have w1 : r = 1 := w1
    subst w1
    exact wq_e (by decide) (wq_some ⟨w2, w3⟩)
  have hbad : ∀ (kk pl : Int) (M' : Mm), R = .inl (kk, pl) → Fb T e kk pl M' → Fr yqA M M' → wq (some ((0 : Int), M')) (fun q => Qq T e P o W R q ∧ Fr yqA M q.2) := fun kk pl M' z1 z2 z3 => wq_some ⟨Or.inl ⟨rfl, kk, pl, z1, z2⟩, z3⟩
  have hof : ∀ (v x : Int) (w : Nat) (L : List Int) (M' : Mm), cwd w L → hw T e L P g → 1 ≤ L.length → P + L.length ≤ e → Yq T e P g C M' → Fr yqA M M' → 60 ≤ v → v ≤ 62 → x = 54 - v → (if o = 6 then some (.inl (4, P)) else dD true T e k true (P + L.length) (P + L.length) (o + 1) (v :: W) C) = some R → wq (bI (f_Reader_mayOpen 76 o M') (fun r28 M27 => if i32 r28 = 0 then some ((0 : Int), M27) else bI (f_Scan_takeWord w M27) (fun r30 M29 => if i32 r30 = 0 then some ((0 : Int), M29) else bI (F 2 76 (o + 1) M29) (fun r32 M31 => if i32 r32 = 0 then some ((0 : Int), M31) else bI (f_Reader_took 76 x M31) (fun r34 M33 => if i32 r34 = 0 then some ((0 : Int), M33) else some (1, M33)))))) (fun q => Qq T e P o W R q ∧ Fr yqA M q.2) := by
    intro v x w L M' hcw hhw hL hle y2 f2 hv1 hv2 hx d6
    refine wq_I (yq_may y2 ho hB) (fun r3 M3 ⟨c7, c8⟩ => ?_)
    have f3 : Fr yqA M M3 := f2.tr (c8.cov rfl)
    rcases c7 with ⟨d7, d8, d9⟩ | ⟨d7, d8, d9⟩
    · have d7 : r3 = 1 := d7
      have d9 : M3 = M' := d9
      subst d9
      rw [d7]
      rw [if_neg d8] at d6
      refine wq_e (by decide) (wq_I (s_takeWord hB y2.1 hcw) (fun r4 M4 ⟨c9, e1⟩ => ?_))
      rw [hss] at c9
      rcases c9 with ⟨e2, e3, e4⟩ | ⟨e2, e3, e4⟩
      · have e2 : r4 = 1 := e2
        rw [e2]
        have y4 := y2.sc e4 e1
        have f4 : Fr yqA M M4 := f3.tr (e1.cov rfl)
        have hof' : ofQ v = true := decide_eq_true hv1
        refine wq_e (by decide) (wq_I (hS d8 _ _ (v :: W) C R k M4 y4 d6 (by rw [List.length_cons]; omega)) (fun r5 M5 ⟨e5, e6⟩ => ?_))
        have f5 : Fr yqA M M5 := f4.tr e6
        rcases e5 with ⟨z1, kk, pl, z2, z3⟩ | ⟨z1, k5, p5, g5, C5, e7, y5, l5, l6⟩
        · have z1 : r5 = 0 := z1
          rw [z1]
          exact wq_t (by decide) (hbad kk pl M5 z2 z3 f5)
        · have z1 : r5 = 1 := z1
          rw [z1]
          rw [(tw_y hof').1, (tw_y hof').2, List.length_cons, show o + 1 - (((W.takeWhile ofQ).length + 1 : Nat) : Int) = o - (W.takeWhile ofQ).length by omega] at e7
          rw [List.length_cons] at l6
          have hx2 : tqC v = x := by
            unfold tqC
            rw [if_neg (by omega), if_neg (by omega), if_neg (by omega), if_pos hv1, hx]
          exact wq_e (by decide) (ht1 v x p5 g5 C5 k5 M5 y5 f5 (by omega) e7 (by omega) hx2 (by omega) (Or.inl ⟨hv1, hv2, hx⟩))
      · exact absurd hhw e3
    · have d7 : r3 = 0 := d7
      rw [d7]
      rw [if_pos d8] at d6
      exact wq_t (by decide) (hbad 4 _ M3 (Option.some.inj d6).symm d9 f3)
  have hle : ∀ L : List Int, lwd L → 1 ≤ L.length → hw T e L P g → P + L.length ≤ e := by
    intro L h1 h2 h3
    have := hw_le (p := P) (by omega) (by omega) (L := L) h2 h1 (hwq_iff.mpr h3)
    rw [hss] at this
    exact this
  unfold f_Reader_askedPart
  refine wq_I (s_takeWord hB y1.1 cw_13) (fun r M1 ⟨c1, c2⟩ => ?_)
  rw [hss] at c1
  rcases c1 with ⟨d1, d2, d3⟩ | ⟨d1, d2, d3⟩
  · have d1 : r = 1 := d1
    rw [d1]
    obtain ⟨k1, k2⟩ := dD_part hd (by rw [hss]; exact h40) hmn hmx (fun _ => ⟨hw_no d2 lw_Hour lw_Width (by decide), hw_no d2 lw_Hour lw_Tide (by decide), hw_no d2 lw_Hour lw_Passes (by decide)⟩)
    have ho1 : opd true T e P g = .inr (P + wHour.length, P + wHour.length, 40) := by
      unfold opd
      rw [hss, hwq_iff.mpr d2]
      rfl
    have l4 : wHour.length = 4 := rfl
    refine wq_e (by decide) (wq_I (yq_fin (p := P) (v := 40) hB (y1.sc d3 c2) (c2.cov rfl) (by omega) (k2 _ _ _ ho1) (by omega) (by decide) (by decide) (Or.inr (by decide))) (fun r2 M2 ⟨w1, w2, w3⟩ => ?_))
    have w1 : r2 = 1 := w1
    subst w1
    exact wq_g (Or.inr (by decide)) (wq_some ⟨w2, w3⟩)
  have d1 : r = 0 := d1
  rw [d1]
  have y2 : Yq T e P g C M1 := y1.sc d3 c2
  have f1 : Fr yqA M M1 := c2.cov rfl
  have d6 := hd
  unfold dD at d6
  rw [hss, if_neg h40, if_neg (by rw [hmn]; decide), if_neg (by rw [hmx]; decide)] at d6
  refine wq_t (by decide) (wq_I (s_atWord hB y2.1 cw_14) (fun r2 M2 ⟨c3, c4, c5⟩ => ?_))
  rw [hss] at c4
  have y3 : Yq T e P g C M2 := y2.sc c4 (c5.cov rfl)
  have f2 : Fr yqA M M2 := f1.tr (c5.cov rfl)
  rcases c3 with ⟨e1, e2⟩ | ⟨e1, e2⟩
  · have e1 : r2 = 1 := e1
    rw [e1]
    rw [if_pos (by rw [hwq_iff.mpr e2]; decide)] at d6
    exact wq_e (by decide) (hof 60 (-6) 14 wWidth M2 cw_14 e2 (by decide) (hle _ lw_Width (by decide) e2) y3 f2 (by decide) (by decide) (by decide) d6)
  have e1 : r2 = 0 := e1
  rw [e1]
  rw [if_neg (by rw [hwq_not e2]; decide)] at d6
  refine wq_t (by decide) (wq_I (s_atWord hB y3.1 cw_15) (fun r3 M3 ⟨c6, c7, c8⟩ => ?_))
  rw [hss] at c7
  have y4 : Yq T e P g C M3 := y3.sc c7 (c8.cov rfl)
  have f3 : Fr yqA M M3 := f2.tr (c8.cov rfl)
  rcases c6 with ⟨e3, e4⟩ | ⟨e3, e4⟩
  · have e3 : r3 = 1 := e3
    rw [e3]
    rw [if_pos (by rw [hwq_iff.mpr e4]; decide)] at d6
    exact wq_e (by decide) (hof 61 (-7) 15 wTide M3 cw_15 e4 (by decide) (hle _ lw_Tide (by decide) e4) y4 f3 (by decide) (by decide) (by decide) d6)
  have e3 : r3 = 0 := e3
  rw [e3]
  rw [if_neg (by rw [hwq_not e4]; decide)] at d6
  refine wq_t (by decide) (wq_I (s_atWord hB y4.1 cw_16) (fun r4 M4 ⟨c9, g1, g2⟩ => ?_))
  rw [hss] at g1
  have y5 : Yq T e P g C M4 := y4.sc g1 (g2.cov rfl)
  have f4 : Fr yqA M M4 := f3.tr (g2.cov rfl)
  rcases c9 with ⟨e5, e6⟩ | ⟨e5, e6⟩
  · have e5 : r4 = 1 := e5
    rw [e5]
    rw [if_pos (by rw [hwq_iff.mpr e6]; decide)] at d6
    exact wq_e (by decide) (hof 62 (-8) 16 wPasses M4 cw_16 e6 (by decide) (hle _ lw_Passes (by decide) e6) y5 f4 (by decide) (by decide) (by decide) d6)
  have e5 : r4 = 0 := e5
  rw [e5]
  obtain ⟨k1, k2⟩ := dD_part hd (by rw [hss]; exact h40) hmn hmx (fun _ => ⟨hwq_not e2, hwq_not e4, hwq_not e6⟩)
  obtain ⟨n1, n2⟩ := opd_num (a := true) (T := T) (e := e) (p := P) (g := g) (fun ha => by cases ha) (fun _ => hwq_not d2) hck hdy
  refine wq_t (by decide) (wq_I (s_unex hB y5.1) (fun r9 M9 ⟨w1, w2, w3⟩ => ?_))
  have w1 : r9 = 0 := w1
  rw [hss] at w2
  rw [w1]
  exact wq_g (Or.inl (by decide)) (hbad 1 P M9 (k1 _ (n1 _ (numR_not hss hnum))) w2 (f4.tr (w3.cov rfl)))
theorem yt_all {T : Nat → Int} {e : Int} (hB : Bt T e) : ∀ (n : Nat) (o : Int), 0 ≤ o → o ≤ 6 → (4 * (6 - o).toNat + 1 ≤ n → SPairt (f_R n) T e o) ∧ (4 * (6 - o).toNat + 2 ≤ n → SPartt (f_R n) T e o) ∧ (4 * (6 - o).toNat + 3 ≤ n → SProdt (f_R n) T e o) ∧ (4 * (6 - o).toNat + 4 ≤ n → SSumt (f_R n) T e o)
  | 0, o, h0, h1 => by
    exact ⟨fun h => absurd h (by omega), fun h => absurd h (by omega), fun h => absurd h (by omega), fun h => absurd h (by omega)⟩
  | n + 1, o, h0, h1 => by
    have ih := yt_all hB n
    have ho : 0 ≤ o ∧ o ≤ 6 := ⟨h0, h1⟩
    have i0 := ih o h0 h1
    have i1 : o ≠ 6 → 4 * (6 - o).toNat ≤ n → SSumt (f_R n) T e (o + 1) := fun z h => (ih (o + 1) (by omega) (by omega)).2.2.2
      (by omega)
    have i2 : o ≠ 6 → 4 * (6 - o).toNat ≤ n → SPartt (f_R n) T e (o + 1) := fun z h => (ih (o + 1) (by omega) (by omega)).2.1 (by omega)
    have r1 : 4 * (6 - o).toNat + 1 ≤ n + 1 → SPairt (f_R (n + 1)) T e o := fun h p kk W C R k M a1 a2 a3 a4 => yt_pair hB ho (fun z => i1 z (by omega)) p kk W C R k M a1 a2 a3 a4
    have r3 : 4 * (6 - o).toNat + 3 ≤ n + 1 → SProdt (f_R (n + 1)) T e o := fun h p g W C R k M a1 a2 a3 a4 a5 => yt_prod hB ho (i0.2.1 (by omega)) p g W C R k M a1 a2 a3 a4 a5
    have r4 : 4 * (6 - o).toNat + 4 ≤ n + 1 → SSumt (f_R (n + 1)) T e o := fun h p g W C R k M a1 a2 a3 a4 a5 => yt_sum hB ho (i0.2.2.1 (by omega)) p g W C R k M a1 a2 a3 a4 a5
    have r2 : 4 * (6 - o).toNat + 2 ≤ n + 1 → SPartt (f_R (n + 1)) T e o := fun h p g W C R k M a1 a2 a3 => yt_part hB ho (fun z => i1 z (by omega)) (i0.1 (by omega)) p g W C R k M a1 a2 a3
    exact ⟨r1, r2, r3, r4⟩
theorem yq_all {T : Nat → Int} {e : Int} (hB : Bt T e) : ∀ (n : Nat) (o : Int), 0 ≤ o → o ≤ 6 → (4 * (6 - o).toNat + 1 ≤ n → SPairq (f_R n) T e o) ∧ (4 * (6 - o).toNat + 2 ≤ n → SPartq (f_R n) T e o) ∧ (4 * (6 - o).toNat + 3 ≤ n → SProdq (f_R n) T e o) ∧ (4 * (6 - o).toNat + 4 ≤ n → SSumq (f_R n) T e o)
    ∧ (4 * (6 - o).toNat + 1 ≤ n → SAskq (f_R n) T e o)
  | 0, o, h0, h1 => by
    exact ⟨fun h => absurd h (by omega), fun h => absurd h (by omega), fun h => absurd h (by omega), fun h => absurd h (by omega), fun h => absurd h (by omega)⟩
  | n + 1, o, h0, h1 => by
    have ih := yq_all hB n
    have ho : 0 ≤ o ∧ o ≤ 6 := ⟨h0, h1⟩
    have i0 := ih o h0 h1
    have i1 : o ≠ 6 → 4 * (6 - o).toNat ≤ n → SSumq (f_R n) T e (o + 1) := fun z h => (ih (o + 1) (by omega) (by omega)).2.2.2
      |>.1
      (by omega)
    have i2 : o ≠ 6 → 4 * (6 - o).toNat ≤ n → SPartq (f_R n) T e (o + 1) := fun z h => (ih (o + 1) (by omega) (by omega)).2.1 (by omega)
    have r1 : 4 * (6 - o).toNat + 1 ≤ n + 1 → SPairq (f_R (n + 1)) T e o := fun h p kk W C R k M a1 a2 a3 a4 => yq_pair hB ho (fun z => i1 z (by omega)) p kk W C R k M a1 a2 a3 a4
    have r3 : 4 * (6 - o).toNat + 3 ≤ n + 1 → SProdq (f_R (n + 1)) T e o := fun h p g W C R k M a1 a2 a3 a4 a5 => yq_prod hB ho (i0.2.1 (by omega)) p g W C R k M a1 a2 a3 a4 a5
    have r4 : 4 * (6 - o).toNat + 4 ≤ n + 1 → SSumq (f_R (n + 1)) T e o := fun h p g W C R k M a1 a2 a3 a4 a5 => yq_sum hB ho (i0.2.2.1 (by omega)) p g W C R k M a1 a2 a3 a4 a5
    have r2 : 4 * (6 - o).toNat + 2 ≤ n + 1 → SPartq (f_R (n + 1)) T e o := fun h p g W C R k M a1 a2 a3 => yq_part hB ho (fun z => i1 z (by omega)) (i0.1 (by omega)) (i0.2.2.2.2 (by omega)) p g W C R k M a1 a2 a3
    have r5 : 4 * (6 - o).toNat + 1 ≤ n + 1 → SAskq (f_R (n + 1)) T e o := fun h p g W C R k M a1 a2 a3 a4 a5 a6 a7 a8 a9 b1 => yq_ask hB ho (fun z => i2 z (by omega)) p g W C R k M a1 a2 a3 a4 a5 a6 a7 a8 a9 b1
    exact ⟨r1, r2, r3, r4, r5⟩
