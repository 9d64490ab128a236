def wFirst : List Int := [102, 105, 114, 115, 116]
def wLast : List Int := [108, 97, 115, 116]
def wOften : List Int := [111, 102, 116, 101, 110]
def wTotal : List Int := [116, 111, 116, 97, 108]
def wMost : List Int := [109, 111, 115, 116]
def wLeast : List Int := [108, 101, 97, 115, 116]
theorem rw_124 : rwd 124 wFirst := rw_of (l := [6, 9, 18, 19, 20]) (by decide +kernel) (by decide)
theorem rw_125 : rwd 125 wLast := rw_of (l := [12, 1, 19, 20]) (by decide +kernel) (by decide)
theorem rw_126 : rwd 126 wOften := rw_of (l := [15, 6, 20, 5, 14]) (by decide +kernel) (by decide)
theorem rw_127 : rwd 127 wTotal := rw_of (l := [20, 15, 20, 1, 12]) (by decide +kernel) (by decide)
theorem rw_128 : rwd 128 wMost := rw_of (l := [13, 15, 19, 20]) (by decide +kernel) (by decide)
theorem rw_129 : rwd 129 wLeast := rw_of (l := [12, 5, 1, 19, 20]) (by decide +kernel) (by decide)
theorem cw_21 : cwd 21 wFirst := cw_of (by decide +kernel)
theorem cw_22 : cwd 22 wLast := cw_of (by decide +kernel)
theorem cw_23 : cwd 23 wOften := cw_of (by decide +kernel)
theorem cw_24 : cwd 24 wTotal := cw_of (by decide +kernel)
theorem cw_25 : cwd 25 wMost := cw_of (by decide +kernel)
theorem cw_26 : cwd 26 wLeast := cw_of (by decide +kernel)
/-- what a question begins with -/
def hdR (T : Nat → Int) (e : Int) : (Int × Int) ⊕ (Int × Int) :=
  if hwq T e wFirst 0 (-1) = true then .inr (0, sk T e 0 + 5)
  else if hwq T e wLast 0 (-1) = true then .inr (1, sk T e 0 + 4)
  else if hwq T e wOften 0 (-1) = true then .inr (2, sk T e 0 + 5)
  else if hwq T e wTotal 0 (-1) = true then .inr (3, sk T e 0 + 5)
  else if hwq T e wMost 0 (-1) = true then .inr (4, sk T e 0 + 4)
  else if hwq T e wLeast 0 (-1) = true then .inr (5, sk T e 0 + 5)
  else .inl (1, sk T e 0)
def qbR (T : Nat → Int) (e k p : Int) : Option Out := if k ≤ 2 then dE T e 1601 true p p 0 [] [] else dD true T e 1601 true p p 0 [] []
def qFin (T : Nat → Int) (e kd : Int) : Option Out → Option ((Int × Int) ⊕ (Int × List Int))
  | none => none
  | some (.inl f) => some (.inl f)
  | some (.inr (p', _, C)) => if sk T e p' = e then some (.inr (kd, C)) else some (.inl (1, sk T e p'))
/-- what the reading of a question comes to -/
def qRes (T : Nat → Int) (e : Int) : Option ((Int × Int) ⊕ (Int × List Int)) :=
  match hdR T e with
  | .inl f => some (.inl f)
  | .inr (k, p) => qFin T e k (qbR T e k p)
theorem qbR_ok {T : Nat → Int} {e k p : Int} (hB : Bt T e) (h0 : 1 ≤ p) (h1 : p ≤ e) : ∃ R, qbR T e k p = some R ∧ ((∃ k pl, R = .inl (k, pl) ∧ (1 ≤ k ∧ k ≤ 5) ∧ -1 ≤ pl ∧ pl ≤ 1600) ∨ (∃ p' g' C, R = .inr (p', g', C) ∧ (p ≤ p' ∧ p' ≤ e) ∧ (-1 ≤ g' ∧ g' ≤ 1600) ∧ C.length + 1 ≤ p'.toNat ∧ wfl true C 0 1 ∧ wft C [] [decide (k ≤ 2)])) := by
  have hh := hB.1
  unfold qbR
  by_cases c : k ≤ 2
  · rw [if_pos c]
    obtain ⟨R, r1, r2⟩ := dE_ok hB 1601 true p p 0 [] [] (by omega) h1 (by omega) (Onx_iv (e := e) (by decide) (by simp only [List.length_nil]; omega)) (by omega)
    refine ⟨R, r1, ?_⟩
    rcases r2 with z | ⟨p', g', D, z1, z2, z3, z4, z5, z6, z7⟩
    · exact Or.inl z
    · exact Or.inr ⟨p', g', D, z1, z2, z3, z4, z6, by rw [decide_eq_true c]; exact z7⟩
  · rw [if_neg c]
    obtain ⟨R, r1, r2⟩ := sum_ok (g := p) (C := []) hB (by decide : (0 : Int) ≤ 0 ∧ (0 : Int) ≤ 6) 1 0 (by decide) (by omega) h1 (by omega) (by simp only [List.length_nil]; omega)
    refine ⟨R, r1, ?_⟩
    rcases r2 with z | ⟨p', g', D, z1, z2, z3, z4, z5, z6⟩
    · exact Or.inl z
    · exact Or.inr ⟨p', g', D, z1, ⟨by omega, z2.2⟩, z3, z4, z5, by rw [decide_eq_false c]; exact z6 []⟩
/-- the class behind the reading of a question -/
def qC (T : Nat → Int) (e : Int) (q : Int × Mm) : Prop := (q.1 = -1 ∧ ∃ k pl, qRes T e = some (.inl (k, pl)) ∧ Fb T e k pl q.2) ∨ (∃ kd C p g, qRes T e = some (.inr (kd, C)) ∧ q.1 = kd ∧ (0 ≤ kd ∧ kd ≤ 5) ∧ (wfl true C 0 1 ∧ wft C [] [decide (kd ≤ 2)]) ∧ C.length ≤ 1600 ∧ Yq T e p g C q.2)
theorem s_head {T : Nat → Int} {e : Int} {C : List Int} {M : Mm} (hB : Bt T e) (h : Yq T e 0 (-1) C M) : wq (f_Quest_head M) (fun q => ((q.1 = -1 ∧ hdR T e = .inl (1, sk T e 0) ∧ Yq T e (sk T e 0) (-1) C q.2) ∨ (∃ kd p, hdR T e = .inr (kd, p) ∧ q.1 = kd ∧ (0 ≤ kd ∧ kd ≤ 5) ∧ 1 ≤ p ∧ Yq T e p p C q.2)) ∧ Fr yqA M q.2) := by
  have hh := hB.1
  have hss := sk_sk T (e := e) (p := 0) (by decide)
  have hs := sk_rng T (e := e) (p := 0) (by decide) hh.1
  have hwk : ∀ L, hw T e L 0 (-1) ↔ hw T e L (sk T e 0) (-1) := fun L => (hw_sk (by decide)).symm
  unfold f_Quest_head
  unfold hdR
  refine wq_I (s_takeWord hB h.1 cw_21) (fun r M1 ⟨c1, c2⟩ => ?_)
  have f1 : Fr yqA M M1 := c2.cov rfl
  rcases c1 with ⟨d1, d2, d3⟩ | ⟨d1, d2, d3⟩
  · have d1 : r = 1 := d1
    rw [d1, if_pos (hwq_iff.mpr d2)]
    exact wq_e (by decide) (wq_some ⟨Or.inr ⟨0, _, rfl, rfl, by decide, by omega, h.sc d3 c2⟩, f1⟩)
  have d1 : r = 0 := d1
  rw [d1, if_neg (fun z => d2 (hwq_iff.mp z))]
  have y1 : Yq T e (sk T e 0) (-1) C M1 := h.sc d3 c2
  refine wq_t (by decide) (wq_I (s_takeWord hB y1.1 cw_22) (fun r M2 ⟨c3, c4⟩ => ?_))
  rw [hss] at c3
  have f2 : Fr yqA M M2 := f1.tr (c4.cov rfl)
  rcases c3 with ⟨e1, e2, e3⟩ | ⟨e1, e2, e3⟩
  · have e1 : r = 1 := e1
    rw [e1, if_pos (hwq_iff.mpr ((hwk _).mpr e2))]
    exact wq_e (by decide) (wq_some ⟨Or.inr ⟨1, _, rfl, rfl, by decide, by omega, y1.sc e3 c4⟩, f2⟩)
  have e1 : r = 0 := e1
  rw [e1, if_neg (fun z => e2 ((hwk _).mp (hwq_iff.mp z)))]
  have y2 : Yq T e (sk T e 0) (-1) C M2 := y1.sc e3 c4
  refine wq_t (by decide) (wq_I (s_takeWord hB y2.1 cw_23) (fun r M3 ⟨c5, c6⟩ => ?_))
  rw [hss] at c5
  have f3 : Fr yqA M M3 := f2.tr (c6.cov rfl)
  rcases c5 with ⟨e4, e5, e6⟩ | ⟨e4, e5, e6⟩
  · have e4 : r = 1 := e4
    rw [e4, if_pos (hwq_iff.mpr ((hwk _).mpr e5))]
    exact wq_e (by decide) (wq_some ⟨Or.inr ⟨2, _, rfl, rfl, by decide, by omega, y2.sc e6 c6⟩, f3⟩)
  have e4 : r = 0 := e4
  rw [e4, if_neg (fun z => e5 ((hwk _).mp (hwq_iff.mp z)))]
  have y3 : Yq T e (sk T e 0) (-1) C M3 := y2.sc e6 c6
  refine wq_t (by decide) (wq_I (s_takeWord hB y3.1 cw_24) (fun r M4 ⟨c7, c8⟩ => ?_))
  rw [hss] at c7
  have f4 : Fr yqA M M4 := f3.tr (c8.cov rfl)
  rcases c7 with ⟨e7, e8, e9⟩ | ⟨e7, e8, e9⟩
  · have e7 : r = 1 := e7
    rw [e7, if_pos (hwq_iff.mpr ((hwk _).mpr e8))]
    exact wq_e (by decide) (wq_some ⟨Or.inr ⟨3, _, rfl, rfl, by decide, by omega, y3.sc e9 c8⟩, f4⟩)
  have e7 : r = 0 := e7
  rw [e7, if_neg (fun z => e8 ((hwk _).mp (hwq_iff.mp z)))]
  have y4 : Yq T e (sk T e 0) (-1) C M4 := y3.sc e9 c8
  refine wq_t (by decide) (wq_I (s_takeWord hB y4.1 cw_25) (fun r M5 ⟨c9, g1⟩ => ?_))
  rw [hss] at c9
  have f5 : Fr yqA M M5 := f4.tr (g1.cov rfl)
  rcases c9 with ⟨g2, g3, g4⟩ | ⟨g2, g3, g4⟩
  · have g2 : r = 1 := g2
    rw [g2, if_pos (hwq_iff.mpr ((hwk _).mpr g3))]
    exact wq_e (by decide) (wq_some ⟨Or.inr ⟨4, _, rfl, rfl, by decide, by omega, y4.sc g4 g1⟩, f5⟩)
  have g2 : r = 0 := g2
  rw [g2, if_neg (fun z => g3 ((hwk _).mp (hwq_iff.mp z)))]
  have y5 : Yq T e (sk T e 0) (-1) C M5 := y4.sc g4 g1
  refine wq_t (by decide) (wq_I (s_takeWord hB y5.1 cw_26) (fun r M6 ⟨g5, g6⟩ => ?_))
  rw [hss] at g5
  have f6 : Fr yqA M M6 := f5.tr (g6.cov rfl)
  rcases g5 with ⟨g7, g8, g9⟩ | ⟨g7, g8, g9⟩
  · have g7 : r = 1 := g7
    rw [g7, if_pos (hwq_iff.mpr ((hwk _).mpr g8))]
    exact wq_e (by decide) (wq_some ⟨Or.inr ⟨5, _, rfl, rfl, by decide, by omega, y5.sc g9 g6⟩, f6⟩)
  have g7 : r = 0 := g7
  rw [g7, if_neg (fun z => g8 ((hwk _).mp (hwq_iff.mp z)))]
  exact wq_t (by decide) (wq_some ⟨Or.inl ⟨rfl, rfl, y5.sc g9 g6⟩, f6⟩)
def qrL : List (Nat × Nat) := [(71, 3), (71, 4), (72, 99999), (1, 2), (1, 3), (1, 4), (1, 5), (1, 6)]
theorem s_quest {T : Nat → Int} {e : Int} {M : Mm} (hB : Bt T e) (h1 : M 1 1 = e) (h2 : M 2 = T) (h3 : M 76 2 = 1) : wq (f_Quest_read M) (fun q => qC T e q ∧ Fr qrL M q.2) := by
  have hh := hB.1
  unfold f_Quest_read f_Scan_start f_Code_clear
  refine wq_V (P := fun M' => M' = up (up (up (up (up M 1 2 0) 1 3 (-1)) 1 4 0) 1 5 0) 1 6 (-1)) (wq_d (wq_d (wq_d (wq_d (wq_d (wq_some rfl)))))) (fun M1 e1 => ?_)
  have F1 : Fr qrL M M1 := by
    rw [e1]
    exact ((((Fr.rf.up (by simp [qrL])).up (by simp [qrL])).up (by simp [qrL])).up (by simp [qrL])).up (by simp [qrL])
  have S1 : Sc T e 0 (-1) M1 := by
    refine ⟨by rw [F1.at 1 1 rfl]; exact h1, by rw [F1.row 2 rfl]; exact h2, ?_, ?_, ?_, by omega, by decide, ?_⟩
    · rw [e1, up_col (by decide), up_col (by decide), up_col (by decide), up_col (by decide), up_eq]
    · rw [e1, up_col (by decide), up_col (by decide), up_col (by decide), up_eq]
    · rw [e1, up_col (by decide), up_eq]
    · rw [e1, up_eq]
  clear e1
  refine wq_V (P := fun M' => M' = up (up M1 71 3 0) 71 4 0) (wq_d (wq_d (wq_some rfl))) (fun M2 e2 => ?_)
  have F2 : Fr [(71, 3), (71, 4)] M1 M2 := by
    rw [e2]
    exact (Fr.rf.up (by simp)).up (by simp)
  have Y2 : Yq T e 0 (-1) [] M2 := by
    refine ⟨S1.fr F2 rfl, ?_, fun k hk => absurd hk (Nat.not_lt_zero _), ?_, ?_⟩
    · rw [e2, up_col (by decide), up_eq]; rfl
    · rw [e2, up_eq]; rfl
    · rw [F2.row 76 rfl, F1.row 76 rfl]; exact h3
  have F3 : Fr qrL M M2 := F1.tr (F2.cov rfl)
  clear e2
  refine wq_I (s_head hB Y2) (fun r M3 ⟨z, f⟩ => ?_)
  have f3 : Fr qrL M M3 := F3.tr (f.cov rfl)
  rcases z with ⟨z1, z2, z3⟩ | ⟨kd, p, z1, z2, z3, z4, z5⟩
  · have z1 : r = -1 := z1
    rw [z1]
    refine wq_e (by decide) (wq_I (s_unex hB z3.1) (fun r2 M4 ⟨w1, w2, w3⟩ => wq_some ⟨Or.inl ⟨rfl, 1, _, ?_, w2⟩, f3.tr (w3.cov rfl)⟩))
    unfold qRes
    rw [z2, sk_sk T (by decide)]
  · have z2 : r = kd := z2
    rw [z2, i32_id (x := kd) (by omega) (by omega), i32_id (x := (-1)) (by decide) (by decide), i32_id (x := 2) (by decide) (by decide)]
    refine wq_t (by omega) ?_
    have bp := z5.1.2.2.2.2.2.1
    obtain ⟨R, r1, r2⟩ := qbR_ok (k := kd) hB z4 bp.2
    have hq : qRes T e = qFin T e kd (some R) := by
      unfold qRes
      rw [z1, ← r1]
    have fin : ∀ (s : Int) (M4 : Mm), ((s = 0 ∧ Zb T e R M4) ∨ (s = 1 ∧ ∃ p' g' C', R = .inr (sk T e p', g', C') ∧ Yq T e p' g' C' M4)) → Fr yqA M3 M4 → wq (f_Quest_read_J56 kd s M4) (fun q => qC T e q ∧ Fr qrL M q.2) := by
      intro s M4 hs f4
      have f4 : Fr qrL M M4 := f3.tr (f4.cov rfl)
      unfold f_Quest_read_J56
      rcases hs with ⟨s1, k, pl, s2, s3⟩ | ⟨s1, p', g', C', s2, s3⟩
      · rw [s1]
        refine wq_e (by decide) (wq_some ⟨Or.inl ⟨rfl, k, pl, ?_, s3⟩, f4⟩)
        rw [hq, s2]
        rfl
      · rw [s1]
        have b' := s3.1.2.2.2.2.2.1
        have hs' := sk_rng T b'.1 b'.2
        have hss' := sk_sk T (e := e) b'.1
        rw [s2] at r2 hq
        have hq : qRes T e = if sk T e (sk T e p') = e then some (.inr (kd, C')) else some (.inl (1, sk T e (sk T e p'))) := hq
        rw [hss'] at hq
        rcases r2 with ⟨k, pl, x1, -⟩ | ⟨px, gx, D, x1, x2, x3, x4, x5⟩
        · cases x1
        injection x1 with x1
        injection x1 with x6 x7
        injection x7 with x7 x8
        subst x8
        refine wq_t (by decide) (wq_I (s_atEnd hB s3.1) (fun r5 M5 ⟨t1, t2, t3⟩ => ?_))
        have f5 : Fr qrL M M5 := f4.tr (t3.cov rfl)
        have y5 : Yq T e (sk T e p') g' C' M5 := s3.sc t2 (t3.cov rfl)
        rcases t1 with ⟨t4, t5⟩ | ⟨t4, t5⟩
        · have t4 : r5 = 1 := t4
          rw [t4]
          rw [if_pos t5] at hq
          exact wq_t (by decide) (wq_some ⟨Or.inr ⟨kd, C', _, _, hq, rfl, z3, x5, by omega, y5⟩, f5⟩)
        · have t4 : r5 = 0 := t4
          rw [t4]
          rw [if_neg t5] at hq
          refine wq_e (by decide) (wq_I (s_unex hB y5.1) (fun r6 M6 ⟨w1, w2, w3⟩ => ?_))
          have w1 : r6 = 0 := w1
          rw [hss'] at w2
          rw [w1]
          exact wq_t (by decide) (wq_some ⟨Or.inl ⟨rfl, 1, _, hq, w2⟩, f5.tr (w3.cov rfl)⟩)
    unfold qbR at r1
    refine wq_if (fun c => ?_) (fun c => ?_)
    · rw [if_neg (by omega)] at r1
      unfold f_Reader_readSum
      refine wq_I (P := fun q => ((q.1 = 0 ∧ Zb T e R q.2) ∨ (q.1 = 1 ∧ ∃ p' g' C', R = .inr (sk T e p', g', C') ∧ Yq T e p' g' C' q.2)) ∧ Fr yqA M3 q.2) (wq_I (yq_top hB (by decide) (by decide) z5 r1 (by simp only [List.length_nil]; omega)) (fun s M4 ⟨w1, w2⟩ => ?_)) (fun s M4 ⟨w1, w2⟩ => fin s M4 w1 w2)
      rcases w1 with ⟨w3, w4⟩ | ⟨w3, p', g', C', w4, w5, -⟩
      · have w3 : s = 0 := w3
        rw [w3]
        exact wq_g (Or.inl (by decide)) (wq_some ⟨Or.inl ⟨rfl, w4⟩, w2⟩)
      · have w3 : s = 1 := w3
        rw [w3]
        exact wq_g (Or.inr (by decide)) (wq_some ⟨Or.inr ⟨rfl, p', g', C', w4, w5⟩, w2⟩)
    · rw [if_pos (by omega)] at r1
      unfold f_Reader_readTest
      have hT := (y_tests hB FUR 0 (by decide) (by decide)).2.2 (by decide) p p [] [] R 1601 M3 z5 r1 (Onx_iv (e := e) (by decide) (by simp only [List.length_nil]; omega)) rfl rfl
      refine wq_I (P := fun q => ((q.1 = 0 ∧ Zb T e R q.2) ∨ (q.1 = 1 ∧ ∃ p' g' C', R = .inr (sk T e p', g', C') ∧ Yq T e p' g' C' q.2)) ∧ Fr yqA M3 q.2) (wq_I hT (fun s M4 ⟨w1, w2⟩ => ?_)) (fun s M4 ⟨w1, w2⟩ => fin s M4 w1 w2)
      rcases w1 with ⟨w3, w4⟩ | ⟨w3, k', p', g', D, C', w4, w5, w6, w7, w8, w9, w10⟩
      · have w3 : s = 0 := w3
        rw [w3]
        exact wq_g (Or.inl (by decide)) (wq_some ⟨Or.inl ⟨rfl, w4⟩, w2⟩)
      · have w3 : s = 1 := w3
        rw [w3]
        refine wq_g (Or.inr (by decide)) (wq_some ⟨Or.inr ⟨rfl, p', g', C' ++ D, ?_, w5⟩, w2⟩)
        rw [List.append_nil] at w4
        have hn25 : ¬ (25 : Int) ∈ D := fun z => by
          have := aoQ_iff.mp (w7 25 z)
          omega
        cases k' with
        | zero => cases w4
        | succ k' =>
          unfold dE at w4
          rw [if_neg (fun z => hn25 z.2), if_neg (fun z => w9 (hwq_iff.mp z)), if_neg (fun z => w10 (hwq_iff.mp z)), if_neg hn25] at w4
          exact (Option.some.inj w4).symm
