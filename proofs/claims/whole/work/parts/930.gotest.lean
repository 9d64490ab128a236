def Oe (U T : Nat → Int) (e : Int) (R : Out) (pm : Int) (m : Bool) (M : Mm) : Prop := ∃ n p g o W C, dE T e n m p g o W C = some R ∧ Xq U T e p g o W [] C M ∧ Ivt m p o W C ∧ pm ≤ p
def Ee (U T : Nat → Int) (e : Int) (R : Out) (M : Mm) : Prop := ∃ p g W C, R = .inr (p, g, C ++ W) ∧ Xq U T e p g 0 W [] C M ∧ C.length + W.length ≤ 1600
section QG
variable {U T : Nat → Int} {e p g o pm : Int} {W C : List Int} {M : Mm} {R : Out}
theorem Oe.mono {pm' : Int} {m : Bool} (h : Oe U T e R pm' m M) (hp : pm ≤ pm') : Oe U T e R pm m M := by
  obtain ⟨n, p, g, o, W, C, h1, h2, h3, h4⟩ := h
  exact ⟨n, p, g, o, W, C, h1, h2, h3, by omega⟩
theorem hd_is {W : List Int} {c : Int} (h : W.headD (-1) = c) (hc : 0 ≤ c) : ∃ W', W = c :: W' := by
  cases W with
  | nil =>
    have h : (-1 : Int) = c := h
    omega
  | cons v W =>
    have h : v = c := h
    rw [h]
    exact ⟨W, rfl⟩
theorem and_stop {W : List Int} (h : ¬ W.headD (-1) = 10) : W.takeWhile andQ = [] ∧ W.dropWhile andQ = W := by
  cases W with
  | nil => exact ⟨rfl, rfl⟩
  | cons v W =>
    have h : ¬ v = 10 := h
    refine tw_n ?_
    cases c : andQ v with
    | false => rfl
    | true => exact absurd (andQ_iff.mp c) h
theorem ao_stop {W : List Int} (h : ¬ W.headD (-1) = 10) (h' : ¬ W.headD (-1) = 11) : W.takeWhile aoQ = [] ∧ W.dropWhile aoQ = W := by
  cases W with
  | nil => exact ⟨rfl, rfl⟩
  | cons v W =>
    have h : ¬ v = 10 := h
    have h' : ¬ v = 11 := h'
    refine tw_n ?_
    cases c : aoQ v with
    | false => rfl
    | true => exact absurd (aoQ_iff.mp c) (by omega)
theorem s_dAnd {kx : Mm → Option (Int × Mm)} {Q : Int × Mm → Prop} (h : Xq U T e p g o W [] C M) (hb : C.length + W.length ≤ 1600) (hk : ∀ M', Xq U T e p g o (W.dropWhile andQ) [] (C ++ W.takeWhile andQ) M' → Fr xqL M M' → wq (kx M') Q) : wq (f_M_qGoesOnTest_L87 kx FU M) Q := by
  unfold f_M_qGoesOnTest_L87
  refine wq_lp (fun N => ∃ W1 C1 : List Int, Xq U T e p g o W1 [] C1 N ∧ W1.dropWhile andQ = W.dropWhile andQ ∧ C1 ++ W1.takeWhile andQ = C ++ W.takeWhile andQ ∧ C1.length + W1.length ≤ C.length + W.length ∧ Fr xqL M N) (fun N => (N 78 91).toNat) ?_ FU _ ⟨W, C, h, rfl, rfl, Nat.le_refl _, Fr.rf⟩ ?_
  · rintro kH N ⟨W1, C1, q1, q2, q3, q4, q5⟩ hg
    unfold f_M_qGoesOnTest_B87
    refine wq_I (xq_isOn q1 (by simp only [List.length_nil]; omega) (by decide)) (fun r M2 ⟨c1, c2⟩ => ?_)
    have c2 : M2 = N := c2
    subst c2
    rw [List.append_nil] at c1
    rcases c1 with ⟨d1, d2⟩ | ⟨d1, d2⟩
    · have d1 : r = 1 := d1
      rw [d1]
      obtain ⟨W2, e2⟩ := hd_is d2 (by decide)
      subst e2
      have hq : andQ 10 = true := by decide
      rw [(tw_y hq).2] at q2
      rw [(tw_y hq).1] at q3
      rw [List.length_cons] at q4
      refine wq_e (by decide) (wq_V (xq_drops q1 (by omega) (by simp only [List.length_nil]; omega)) (fun M3 ⟨b1, b2⟩ => hg _ ⟨W2, C1 ++ [10], b1, q2, by rw [← q3, List.append_assoc]; rfl, by rw [List.length_append, List.length_singleton]; omega, q5.tr b2⟩ ?_))
      rw [b1.2.1, q1.2.1, List.append_nil, List.append_nil, List.length_cons]
      omega
    · have d1 : r = 0 := d1
      rw [d1]
      obtain ⟨g1, g2⟩ := and_stop d2
      refine wq_t (by decide) (hk _ ?_ q5)
      rw [← q2, ← q3, g1, g2, List.append_nil]
      exact q1
  · rw [h.2.1, List.append_nil]
    show _ < 1000000000
    omega
theorem s_dOr {kx : Mm → Option (Int × Mm)} {Q : Int × Mm → Prop} (h : Xq U T e p g o W [] C M) (hb : C.length + W.length ≤ 1600) (hk : ∀ M', Xq U T e p g o (W.dropWhile aoQ) [] (C ++ W.takeWhile aoQ) M' → Fr xqL M M' → wq (kx M') Q) : wq (f_M_qGoesOnTest_L137 kx FU M) Q := by
  unfold f_M_qGoesOnTest_L137
  refine wq_lp (fun N => ∃ W1 C1 : List Int, Xq U T e p g o W1 [] C1 N ∧ W1.dropWhile aoQ = W.dropWhile aoQ ∧ C1 ++ W1.takeWhile aoQ = C ++ W.takeWhile aoQ ∧ C1.length + W1.length ≤ C.length + W.length ∧ Fr xqL M N) (fun N => (N 78 91).toNat) ?_ FU _ ⟨W, C, h, rfl, rfl, Nat.le_refl _, Fr.rf⟩ ?_
  · rintro kH N ⟨W1, C1, q1, q2, q3, q4, q5⟩ hg
    have hdrop : ∀ c : Int, (c = 10 ∨ c = 11) → W1.headD (-1) = c → wq (bV (f_M_qDrops N) (fun M' => kH M')) Q := by
      intro c hc d2
      obtain ⟨W2, e2⟩ := hd_is d2 (by omega)
      subst e2
      have hq : aoQ c = true := aoQ_iff.mpr hc
      rw [(tw_y hq).2] at q2
      rw [(tw_y hq).1] at q3
      rw [List.length_cons] at q4
      refine wq_V (xq_drops q1 (by omega) (by simp only [List.length_nil]; omega)) (fun M3 ⟨b1, b2⟩ => hg _ ⟨W2, C1 ++ [c], b1, q2, by rw [← q3, List.append_assoc]; rfl, by rw [List.length_append, List.length_singleton]; omega, q5.tr b2⟩ ?_)
      rw [b1.2.1, q1.2.1, List.append_nil, List.append_nil, List.length_cons]
      omega
    unfold f_M_qGoesOnTest_B137
    refine wq_I (xq_isOn q1 (by simp only [List.length_nil]; omega) (by decide)) (fun r M2 ⟨c1, c2⟩ => ?_)
    have c2 : M2 = N := c2
    subst c2
    rw [List.append_nil] at c1
    rcases c1 with ⟨d1, d2⟩ | ⟨d1, d2⟩
    · have d1 : r = 1 := d1
      rw [d1]
      exact wq_t (by decide) (hdrop 10 (Or.inl rfl) d2)
    have d1 : r = 0 := d1
    rw [d1]
    refine wq_e (by decide) (wq_I (xq_isOn q1 (by simp only [List.length_nil]; omega) (by decide)) (fun r M3 ⟨c3, c4⟩ => ?_))
    have c4 : M3 = M2 := c4
    subst c4
    rw [List.append_nil] at c3
    rcases c3 with ⟨d3, d4⟩ | ⟨d3, d4⟩
    · have d3 : r = 1 := d3
      rw [d3]
      exact wq_e (by decide) (hdrop 11 (Or.inr rfl) d4)
    · have d3 : r = 0 := d3
      rw [d3]
      obtain ⟨g1, g2⟩ := ao_stop d2 d4
      refine wq_t (by decide) (hk _ ?_ q5)
      rw [← q2, ← q3, g1, g2, List.append_nil]
      exact q1
  · rw [h.2.1, List.append_nil]
    show _ < 1000000000
    omega
theorem s_dSq {kx : Mm → Option (Int × Mm)} {Q : Int × Mm → Prop} (h : Xq U T e p g o W [] C M) (hb : C.length + W.length ≤ 1600) (hm : 25 ∈ W) (hk : ∀ M', Xq U T e p g o (sqr W) [] (C ++ nsq W) M' → Fr xqL M M' → wq (kx M') Q) : wq (f_M_qGoesOnTest_L33 kx FU M) Q := by
  unfold f_M_qGoesOnTest_L33
  refine wq_lp (fun N => ∃ W1 C1 : List Int, Xq U T e p g o W1 [] C1 N ∧ 25 ∈ W1 ∧ sqr W1 = sqr W ∧ C1 ++ nsq W1 = C ++ nsq W ∧ C1.length + W1.length ≤ C.length + W.length ∧ Fr xqL M N) (fun N => (N 78 91).toNat) ?_ FU _ ⟨W, C, h, hm, rfl, rfl, Nat.le_refl _, Fr.rf⟩ ?_
  · rintro kH N ⟨W1, C1, q1, q0, q2, q3, q4, q5⟩ hg
    unfold f_M_qGoesOnTest_B33
    refine wq_I (xq_isOn q1 (by simp only [List.length_nil]; omega) (by decide)) (fun r M2 ⟨c1, c2⟩ => ?_)
    have c2 : M2 = N := c2
    subst c2
    rw [List.append_nil] at c1
    rcases c1 with ⟨d1, d2⟩ | ⟨d1, d2⟩
    · have d1 : r = 1 := d1
      rw [d1]
      obtain ⟨W2, e2⟩ := hd_is d2 (by decide)
      subst e2
      have hq : (fun v => !sqQ v) 25 = false := by decide
      have e3 : sqr (25 :: W2) = 25 :: W2 := (tw_n (q := fun v => !sqQ v) hq).2
      have e4 : nsq (25 :: W2) = [] := (tw_n (q := fun v => !sqQ v) hq).1
      refine wq_t (by decide) (hk _ ?_ q5)
      rw [← q2, ← q3, e3, e4, List.append_nil]
      exact q1
    · have d1 : r = 0 := d1
      rw [d1]
      cases W1 with
      | nil => cases q0
      | cons v W2 =>
        have d2 : ¬ v = 25 := d2
        have hq : (fun v => !sqQ v) v = true := by
          show (!sqQ v) = true
          cases c : sqQ v with
          | false => rfl
          | true => exact absurd (sqQ_iff.mp c) d2
        have e3 : sqr (v :: W2) = sqr W2 := (tw_y (q := fun v => !sqQ v) hq).2
        have e4 : nsq (v :: W2) = v :: nsq W2 := (tw_y (q := fun v => !sqQ v) hq).1
        rw [e3] at q2
        rw [e4] at q3
        rw [List.length_cons] at q4
        have q6 : 25 ∈ W2 := by
          rcases List.mem_cons.mp q0 with z | z
          · exact absurd z.symm d2
          · exact z
        refine wq_e (by decide) (wq_V (xq_drops q1 (by omega) (by simp only [List.length_nil]; omega)) (fun M3 ⟨b1, b2⟩ => hg _ ⟨W2, C1 ++ [v], b1, q6, q2, by rw [← q3, List.append_assoc]; rfl, by rw [List.length_append, List.length_singleton]; omega, q5.tr b2⟩ ?_))
        rw [b1.2.1, q1.2.1, List.append_nil, List.append_nil, List.length_cons]
        omega
  · rw [h.2.1, List.append_nil]
    show _ < 1000000000
    omega
theorem s_rest76 {n : Nat} (hB : Bt T e) (h : Xq U T e p g o W [] C M) (hI : Ivt false p o W C) (hsp : sk T e p = p) (hd : dE T e (n + 1) false p g o W C = some R) (hnc : ¬ (bte T e p = 93 ∧ 25 ∈ W)) : wq (f_M_qGoesOnTest_J76 M) (fun q => ((q.1 = 1 ∧ Oe U T e R (p + 1) true q.2) ∨ (q.1 = 0 ∧ (Bde T e R q.2 ∨ Ee U T e R q.2))) ∧ Fr xqA M q.2) := by
  have hh := hB.1
  have b := h.1.2.2.2.2.2.1
  have hlen := hI.len
  unfold dE at hd
  rw [hsp, if_neg hnc] at hd
  unfold f_M_qGoesOnTest_J76
  refine wq_I (s_takes hB h.1 rw_131) (fun r M1 ⟨c1, c2⟩ => ?_)
  rw [hsp] at c1
  have f1 : Fr xqA M M1 := c2.cov rfl
  rcases c1 with ⟨d1, d2, d3⟩ | ⟨d1, d2, d3⟩
  · have d1 : r = 1 := d1
    rw [d1]
    rw [if_pos (hwq_iff.mpr d2)] at hd
    obtain ⟨i1, i2, i3⟩ := hI.and (p1 := p + 3) b.1 (by omega)
    have hl2 := len_tw andQ W
    refine wq_e (by decide) (s_dAnd (h.sm d3 c2) (by omega) (fun M' y1 y2 => wq_m (xq_push (v := 10) y1 (by simp only [List.length_nil]; omega) (by decide)) (fun q ⟨z1, z2, z3⟩ => ⟨Or.inl ⟨z1, n, _, _, _, _, _, hd, z2, i3, by show p + 1 ≤ p + 3; omega⟩, f1.tr ((y2.cov rfl : Fr xqA _ _).tr (z3.cov rfl))⟩)))
  have d1 : r = 0 := d1
  rw [d1]
  rw [if_neg (fun z => d2 (hwq_iff.mp z))] at hd
  have h1 : Xq U T e p g o W [] C M1 := h.sm d3 c2
  refine wq_t (by decide) (wq_I (s_takes hB h1.1 rw_132) (fun r M2 ⟨c3, c4⟩ => ?_))
  rw [hsp] at c3
  have f2 : Fr xqA M M2 := f1.tr (c4.cov rfl)
  rcases c3 with ⟨d4, d5, d6⟩ | ⟨d4, d5, d6⟩
  · have d4 : r = 1 := d4
    rw [d4]
    rw [if_pos (hwq_iff.mpr d5)] at hd
    obtain ⟨i1, i2, i3⟩ := hI.or (p1 := p + 2) b.1 (by omega)
    have hl2 := len_tw aoQ W
    refine wq_e (by decide) (s_dOr (h1.sm d6 c4) (by omega) (fun M' y1 y2 => wq_m (xq_push (v := 11) y1 (by simp only [List.length_nil]; omega) (by decide)) (fun q ⟨z1, z2, z3⟩ => ⟨Or.inl ⟨z1, n, _, _, _, _, _, hd, z2, i3, by show p + 1 ≤ p + 2; omega⟩, f2.tr ((y2.cov rfl : Fr xqA _ _).tr (z3.cov rfl))⟩)))
  have d4 : r = 0 := d4
  rw [d4]
  rw [if_neg (fun z => d5 (hwq_iff.mp z))] at hd
  have h2 : Xq U T e p g o W [] C M2 := h1.sm d6 c4
  rw [h2.1.2.2.2.2.1]
  refine wq_t (by decide) (wq_e (fun z => z rfl) (wq_I (s_square h2 (by omega)) (fun r M3 ⟨c5, c6⟩ => ?_)))
  have c6 : M3 = M2 := c6
  subst c6
  rcases c5 with ⟨d7, d8⟩ | ⟨d7, d8⟩
  · have d7 : r = 1 := d7
    rw [d7]
    rw [if_pos d8] at hd
    rw [h2.1.2.2.1]
    exact wq_e (by decide) (wq_V (s_mfail h2.1 (by decide) (by omega)) (fun M4 ⟨y1, y2⟩ => wq_some ⟨Or.inr ⟨rfl, Or.inl ⟨1, p, (Option.some.inj hd).symm, y1⟩⟩, f2.tr (y2.cov rfl)⟩))
  · have d7 : r = 0 := d7
    rw [d7]
    rw [if_neg d8] at hd
    obtain ⟨o1, o2, o3⟩ := hI.fin d8
    refine wq_t (by decide) (wq_some ⟨Or.inr ⟨rfl, Or.inr ⟨p, g, W, C, (Option.some.inj hd).symm, ?_, by omega⟩⟩, f2⟩)
    rw [← o1]
    exact h2
theorem s_goTest (hB : Bt T e) (h : Oe U T e R pm false M) : wq (f_M_qGoesOnTest M) (fun q => ((q.1 = 1 ∧ Oe U T e R (pm + 1) true q.2) ∨ (q.1 = 0 ∧ (Bde T e R q.2 ∨ Ee U T e R q.2))) ∧ Fr xqA M q.2) := by
  have hh := hB.1
  unfold f_M_qGoesOnTest f_M_qGoesOnTest_L0
  refine wq_lp (fun N => Oe U T e R pm false N ∧ Fr xqA M N) (fun N => (2000 - N 78 2).toNat) ?_ FU _ ⟨h, Fr.rf⟩ ?_
  · rintro kH N ⟨⟨n, p, g, o, W, C, q1, q2, q3, q4⟩, q5⟩ hk
    cases n with
    | zero => cases q1
    | succ n =>
      have b := q2.1.2.2.2.2.2.1
      have hs := sk_rng T b.1 b.2
      have hss := sk_sk T (e := e) b.1
      have hbr := bte_rng hB (sk T e p)
      have i1 := q3.mono hs.1
      have d1 := q1
      rw [← dE_sk T e (n + 1) false g o W C b.1] at d1
      have e0 : N 78 2 = p := q2.1.2.2.1
      unfold f_M_qGoesOnTest_B0
      rw [q2.1.2.2.2.2.1]
      refine wq_e (fun z => z rfl) (wq_I (s_look hB q2.1) (fun r M1 ⟨c1, c2, c3⟩ => ?_))
      have c1 : r = bte T e (sk T e p) := c1
      have h1 : Xq U T e (sk T e p) g o W [] C M1 := q2.sm c2 (c3.cov rfl)
      have f1 : Fr xqA M M1 := q5.tr (c3.cov rfl)
      clear c2 c3 q1 q2 q5
      obtain ⟨P, hP⟩ : ∃ P, P = sk T e p := ⟨_, rfl⟩
      rw [← hP] at h1 d1 i1 hs hss hbr c1
      have hlen := i1.len
      have hrest : ¬ (bte T e P = 93 ∧ 25 ∈ W) → wq (f_M_qGoesOnTest_J76 M1) (fun q => ((q.1 = 1 ∧ Oe U T e R (pm + 1) true q.2) ∨ (q.1 = 0 ∧ (Bde T e R q.2 ∨ Ee U T e R q.2))) ∧ Fr xqA M q.2) := by
        intro hnc
        refine wq_m (s_rest76 hB h1 i1 hss d1 hnc) (fun q ⟨z1, z2⟩ => ⟨?_, f1.tr z2⟩)
        rcases z1 with ⟨y1, y2⟩ | y
        · exact Or.inl ⟨y1, y2.mono (by omega)⟩
        · exact Or.inr y
      rw [c1, i32_id (x := bte T e P) (by omega) (by omega), i32_id (x := 93) (by decide) (by decide)]
      refine wq_if (fun c => hrest (fun z => c z.1)) (fun c => ?_)
      have c : bte T e P = 93 := Decidable.not_not.mp c
      have hl := bte_lt (T := T) (e := e) (k := P) (by omega) (by omega)
      refine wq_I (s_square h1 (by omega)) (fun r M2 ⟨c4, c5⟩ => ?_)
      have c5 : M2 = M1 := c5
      subst c5
      rcases c4 with ⟨d7, d8⟩ | ⟨d7, d8⟩
      · have d7 : r = 1 := d7
        rw [d7]
        have d2 := d1
        unfold dE at d2
        rw [hss, if_pos ⟨c, d8⟩] at d2
        obtain ⟨W', e1, e2, e3, e4, e5, e6, e7⟩ := i1.clo (p1 := P + 1) d8 (by omega) (by omega)
        rw [e1] at d2
        rw [h1.1.2.2.1]
        have hF : Fr [(78, 2)] M2 (up M2 78 2 (P + 1)) := Fr.rf.up (by simp)
        have h3 : Xq U T e (P + 1) g o W [] C (up M2 78 2 (P + 1)) := h1.sm (h1.1.mv (by omega) (by omega)) (hF.cov rfl)
        refine wq_e (by decide) (wq_d (s_dSq h3 (by omega) d8 (fun M4 y1 y2 => ?_)))
        rw [e1] at y1
        obtain ⟨a1, a2, a3, a4, a5, a6, a7, a8, a9⟩ := y1
        rw [List.append_nil] at a2 a3 a9
        have hl4 : (nsq W).length + (W'.length + 1) = W.length := by
          have := congrArg List.length e2
          rw [List.length_append, List.length_cons] at this
          exact this.symm
        have a2 : M4 78 91 - 1 = (W'.length : Int) := by rw [a2, List.length_cons]; omega
        rw [a2]
        refine wq_d ?_
        rw [up_col (show ¬ (92 : Nat) = 91 by decide), a4]
        refine wq_d ?_
        obtain ⟨M8, hM8⟩ : ∃ N, N = up (up M4 78 91 (W'.length : Int)) 78 92 (o - 1) := ⟨_, rfl⟩
        rw [← hM8]
        have hF8 : Fr [(78, 91), (78, 92)] M4 M8 := by rw [hM8]; exact (Fr.rf.up (by simp)).up (by simp)
        have x8 : Xq U T e (P + 1) g (o - 1) W' [] (C ++ nsq W) M8 := ⟨a1.fr hF8 rfl, by rw [hM8, up_col (by decide), up_eq, List.append_nil], by rw [hF8.row 143 rfl, List.append_nil]; exact a3.2, by rw [hM8, up_eq], by rw [hF8.at 78 93 rfl]; exact a5, by rw [hF8.at 78 89 rfl]; exact a6, by rw [hF8.row 142 rfl]; exact a7, by rw [hF8.row 142 rfl]; exact a8, fun x hx => a9 x (List.mem_cons_of_mem _ (by rw [List.append_nil] at hx; exact hx))⟩
        refine wq_V (s_nots x8 (by rw [List.length_append]; omega)) (fun M9 ⟨z1, z2⟩ => hk _ ⟨⟨n, _, _, _, _, _, d2, by rw [← List.append_assoc]; exact z1, e7, by omega⟩, f1.tr ((hF.cov rfl : Fr xqA _ _).tr ((y2.cov rfl : Fr xqA _ _).tr ((hF8.cov rfl : Fr xqA _ _).tr (z2.cov rfl))))⟩ ?_)
        rw [z1.1.2.2.1, e0]
        omega
      · have d7 : r = 0 := d7
        rw [d7]
        exact wq_t (by decide) (hrest (fun z => d8 z.2))
  · obtain ⟨n, p, g, o, W, C, h1, h2, h3, h4⟩ := h
    have b := h2.1.2.2.2.2.2.1
    show (2000 - M 78 2).toNat < 1000000000
    rw [h2.1.2.2.1]
    omega
end QG
