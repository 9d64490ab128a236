section CT
variable {T : Nat → Int} {e o : Int} {F : Nat → Nat → Int → Mm → Option (Int × Mm)}
def STop (F : Nat → Nat → Int → Mm → Option (Int × Mm)) (T : Nat → Int) (e o : Int) : Prop := ∀ (p g : Int) (C : List Int) (R : Out) (k : Nat) (M : Mm), Yq T e p g C M → dD true T e k true p g o [] C = some R → C.length + 1 ≤ p.toNat → wq (F 0 76 o M) (fun q => ((q.1 = 0 ∧ Zb T e R q.2) ∨ (q.1 = 1 ∧ ∃ p' g' C', R = .inr (sk T e p', g', C') ∧ Yq T e p' g' C' q.2 ∧ nxA (bte T e (sk T e p')))) ∧ Fr yqA M q.2)
def Qf (T : Nat → Int) (e p o : Int) (W : List Int) (R : Out) (r : Int × Mm) : Prop := (r.1 = 0 ∧ Zb T e R r.2) ∨ (r.1 = 1 ∧ ∃ k p' g' C', dE T e k false p' g' (o - (W.takeWhile ntQ).length) (W.dropWhile ntQ) (C' ++ W.takeWhile ntQ) = some R ∧ Yq T e p' g' C' r.2 ∧ p < sk T e p' ∧ Ivt false (sk T e p') (o - (W.takeWhile ntQ).length) (W.dropWhile ntQ) (C' ++ W.takeWhile ntQ))
def Qt2 (q : Int → Bool) (nx : Int → Int → Prop) (T : Nat → Int) (e p o : Int) (W : List Int) (R : Out) (r : Int × Mm) : Prop := (r.1 = 0 ∧ Zb T e R r.2) ∨ (r.1 = 1 ∧ ∃ k p' g' D C', dE T e k false p' g' o (D ++ W) C' = some R ∧ Yq T e p' g' (C' ++ D) r.2 ∧ p < sk T e p' ∧ (∀ v ∈ D, q v = true) ∧ Ivt false (sk T e p') o (D ++ W) C' ∧ nx p' g')
def SFact (F : Nat → Nat → Int → Mm → Option (Int × Mm)) (T : Nat → Int) (e o : Int) : Prop := ∀ (p g : Int) (W C : List Int) (R : Out) (k : Nat) (M : Mm), Yq T e p g C M → dE T e k true p g o W C = some R → Ivt true p o W C → wq (F 7 76 o M) (fun q => Qf T e p o W R q ∧ Fr yqA M q.2)
def nxAnd (T : Nat → Int) (e p g : Int) : Prop := ¬ hw T e wAnd p g
def nxOr (T : Nat → Int) (e p g : Int) : Prop := ¬ hw T e wAnd p g ∧ ¬ hw T e wOr p g
def SBoth (F : Nat → Nat → Int → Mm → Option (Int × Mm)) (T : Nat → Int) (e o : Int) : Prop := ∀ (p g : Int) (W C : List Int) (R : Out) (k : Nat) (M : Mm), Yq T e p g C M → dE T e k true p g o W C = some R → Ivt true p o W C → W.takeWhile andQ = [] → W.takeWhile ntQ = [] → wq (F 6 76 o M) (fun q => Qt2 andQ (nxAnd T e) T e p o W R q ∧ Fr yqA M q.2)
def STest (F : Nat → Nat → Int → Mm → Option (Int × Mm)) (T : Nat → Int) (e o : Int) : Prop := ∀ (p g : Int) (W C : List Int) (R : Out) (k : Nat) (M : Mm), Yq T e p g C M → dE T e k true p g o W C = some R → Ivt true p o W C → W.takeWhile aoQ = [] → W.takeWhile ntQ = [] → wq (F 5 76 o M) (fun q => Qt2 aoQ (nxOr T e) T e p o W R q ∧ Fr yqA M q.2)
theorem dw_of {q : Int → Bool} {W : List Int} (h : W.takeWhile q = []) : W.dropWhile q = W := by
  have e := List.takeWhile_append_dropWhile (p := q) (l := W)
  rw [h, List.nil_append] at e
  exact e
theorem and_ao {v : Int} (h : andQ v = true) : aoQ v = true := aoQ_iff.mpr (Or.inl (andQ_iff.mp h))
theorem nowd {p g : Int} {L : List Int} (hB : Bt T e) (h1 : 1600 ≤ sk T e p) (hL : lwd L) (hl : 1 ≤ L.length) : ¬ hw T e L p g := by
  intro z
  have hh := hB.1
  have := hw_let hL hl z
  rw [bte_out (by omega)] at this
  omega
theorem y_both (hB : Bt T e) (hF : SFact F T e o) (p g : Int) (W C : List Int) (R : Out) (k : Nat) (M : Mm) (hY : Yq T e p g C M) (hd : dE T e k true p g o W C = some R) (hI : Ivt true p o W C) (hW : W.takeWhile andQ = []) (hn : W.takeWhile ntQ = []) : wq (f_Reader_both F 76 o M) (fun q => Qt2 andQ (nxAnd T e) T e p o W R q ∧ Fr yqA M q.2) := by
  have hh := hB.1
  have ho : 0 ≤ o ∧ o ≤ 6 := ⟨hI.lo, hI.1⟩
  unfold f_Reader_both
  refine wq_I (hF p g W C R k M hY hd hI) (fun r M1 ⟨z, f⟩ => ?_)
  have f : Fr yqA M M1 := f
  rcases z with ⟨z1, z2⟩ | ⟨z1, k1, p1, g1, C1, d1, y1, l1, i1⟩
  · have z1 : r = 0 := z1
    rw [z1]
    exact wq_e (by decide) (wq_some ⟨Or.inl ⟨rfl, z2⟩, f⟩)
  have z1 : r = 1 := z1
  rw [z1]
  refine wq_t (by decide) ?_
  rw [hn, dw_of hn, List.append_nil, show o - ((([] : List Int).length : Nat) : Int) = o by show o - ((0 : Nat) : Int) = o; omega] at d1 i1
  have y1 : Yq T e p1 g1 C1 M1 := y1
  have b1 := y1.1.2.2.2.2.2.1
  have hs1 := sk_rng T b1.1 b1.2
  unfold f_Reader_both_L12
  refine wq_lp (fun z => z.1 = o ∧ 0 ≤ z.2.1 ∧ Fr yqA M z.2.2 ∧ ∃ k p' g' D C', dE T e k false p' g' o (D ++ W) C' = some R ∧ Yq T e p' g' (C' ++ D) z.2.2 ∧ p < sk T e p' ∧ z.2.1 ≤ sk T e p' ∧ (∀ v ∈ D, andQ v = true) ∧ Ivt false (sk T e p') o (D ++ W) C') (fun z => (2000 - z.2.1).toNat) ?_ FU _ ⟨rfl, Int.le_refl _, f, k1, p1, g1, [], C1, d1, by rw [List.append_nil]; exact y1, l1, by show 0 ≤ sk T e p1; omega, (fun v hv => by cases hv), i1⟩ ?_
  · rintro kH ⟨v1, v2, N⟩ ⟨q1, q2, q3, k', p', g', D, C', d2, y2, l3, l4, hD, i2⟩ hk
    have q1 : v1 = o := q1
    have q2 : 0 ≤ v2 := q2
    have q3 : Fr yqA M N := q3
    have l4 : v2 ≤ sk T e p' := l4
    have y2 : Yq T e p' g' (C' ++ D) N := y2
    subst q1
    have b := y2.1.2.2.2.2.2.1
    have hs := sk_rng T b.1 b.2
    have hss := sk_sk T (e := e) b.1
    have hlen2 := i2.len
    rw [List.length_append] at hlen2
    show wq (f_Reader_both_B12 F 76 (fun v1 v2 M => kH (v1, v2, M)) v1 v2 N) _
    unfold f_Reader_both_B12
    rw [i32_id (x := 1600) (by decide) (by decide), i32_id (x := v2) (by omega) (by omega)]
    refine wq_if (fun c => wq_some ⟨Or.inr ⟨rfl, k', p', g', D, C', d2, y2, l3, hD, i2, nowd hB (by omega) lw_And (by decide)⟩, q3⟩) (fun c => ?_)
    obtain ⟨t1, t2⟩ := tw_app hD hW
    refine wq_I (s_takeWord hB y2.1 cw_29) (fun r2 M2 ⟨c1, c2⟩ => ?_)
    have c2 : Fr scL N M2 := c2
    rcases c1 with ⟨e1, e2, e3⟩ | ⟨e1, e2, e3⟩
    · have e1 : r2 = 1 := e1
      rw [e1]
      cases k' with
      | zero => cases d2
      | succ k' =>
        have hlt := hw_let lw_And (by decide) e2
        have d3 := d2
        unfold dE at d3
        rw [if_neg (fun z => by have := z.1; omega), if_pos (hwq_iff.mpr e2), t1, t2] at d3
        obtain ⟨j1, j2, j3⟩ := i2.and (p1 := sk T e p' + 3) (by omega) (by omega)
        rw [t1, t2] at j3
        have y3 := y2.sc e3 c2
        refine wq_t (by decide) (wq_I (hF _ _ (10 :: W) (C' ++ D) R k' M2 y3 d3 j3) (fun r3 M3 ⟨w, f2⟩ => ?_))
        have f2 : Fr yqA M M3 := q3.tr ((c2.cov rfl : Fr yqA _ _).tr f2)
        rcases w with ⟨w1, w2⟩ | ⟨w1, k4, p4, g4, C4, d4, y4, l6, i4⟩
        · have w1 : r3 = 0 := w1
          rw [w1]
          exact wq_e (by decide) (wq_some ⟨Or.inl ⟨rfl, w2⟩, f2⟩)
        · have w1 : r3 = 1 := w1
          rw [w1]
          have hn10 : ((10 : Int) :: W).takeWhile ntQ = [] := (tw_n (q := ntQ) (by decide)).1
          rw [hn10, dw_of hn10, List.append_nil, show v1 - ((([] : List Int).length : Nat) : Int) = v1 by show v1 - ((0 : Nat) : Int) = v1; omega] at d4 i4
          have y4 : Yq T e p4 g4 C4 M3 := y4
          have b4 := y4.1.2.2.2.2.2.1
          have hs4 := sk_rng T b4.1 b4.2
          have hl4 := i4.len
          rw [List.length_cons] at hl4
          rw [ptr_76]
          have l6 : sk T e p' + 3 < sk T e p4 := l6
          refine wq_t (by decide) (wq_V (yq_add y4 (v := 10) (by omega) (by decide) (by decide) (Or.inr (by decide))) (fun M4 ⟨y5, f3⟩ => hk _ ⟨rfl, show 0 ≤ v2 + 1 by omega, f2.tr (f3.cov rfl), k4, p4, g4, [10], C4, d4, y5, by omega, show v2 + 1 ≤ sk T e p4 by omega, (fun u hu => by rw [List.mem_singleton.mp hu]; decide), i4⟩ (show (2000 - (v2 + 1)).toNat < (2000 - v2).toNat by omega)))
    · have e1 : r2 = 0 := e1
      rw [e1]
      refine wq_e (by decide) (wq_some ⟨Or.inr ⟨rfl, k', sk T e p', g', D, C', ?_, y2.sc e3 c2, by rw [hss]; exact l3, hD, by rw [hss]; exact i2, ?_⟩, q3.tr (c2.cov rfl)⟩)
      · rw [dE_sk T e k' false g' v1 (D ++ W) C' b.1]
        exact d2
      · exact fun z => e2 ((hw_sk b.1).mp z)
  · show (2000 - (0 : Int)).toNat < 1000000000
    decide
theorem y_test (hB : Bt T e) (hF : SBoth F T e o) (p g : Int) (W C : List Int) (R : Out) (k : Nat) (M : Mm) (hY : Yq T e p g C M) (hd : dE T e k true p g o W C = some R) (hI : Ivt true p o W C) (hW : W.takeWhile aoQ = []) (hn : W.takeWhile ntQ = []) : wq (f_Reader_test F 76 o M) (fun q => Qt2 aoQ (nxOr T e) T e p o W R q ∧ Fr yqA M q.2) := by
  have hh := hB.1
  have ho : 0 ≤ o ∧ o ≤ 6 := ⟨hI.lo, hI.1⟩
  have hWa : W.takeWhile andQ = [] := by
    cases W with
    | nil => rfl
    | cons v W =>
      by_cases c : andQ v = true
      · rw [(tw_y (and_ao c)).1] at hW
        cases hW
      · exact (tw_n (by simpa using c)).1
  unfold f_Reader_test
  refine wq_I (hF p g W C R k M hY hd hI hWa hn) (fun r M1 ⟨z, f⟩ => ?_)
  have f : Fr yqA M M1 := f
  rcases z with ⟨z1, z2⟩ | ⟨z1, k1, p1, g1, D1, C1, d1, y1, l1, hD1, i1, n1⟩
  · have z1 : r = 0 := z1
    rw [z1]
    exact wq_e (by decide) (wq_some ⟨Or.inl ⟨rfl, z2⟩, f⟩)
  have z1 : r = 1 := z1
  rw [z1]
  refine wq_t (by decide) ?_
  have y1 : Yq T e p1 g1 (C1 ++ D1) M1 := y1
  have b1 := y1.1.2.2.2.2.2.1
  have hs1 := sk_rng T b1.1 b1.2
  unfold f_Reader_test_L12
  refine wq_lp (fun z => z.1 = o ∧ 0 ≤ z.2.1 ∧ Fr yqA M z.2.2 ∧ ∃ k p' g' D C', dE T e k false p' g' o (D ++ W) C' = some R ∧ Yq T e p' g' (C' ++ D) z.2.2 ∧ p < sk T e p' ∧ z.2.1 ≤ sk T e p' ∧ (∀ v ∈ D, aoQ v = true) ∧ Ivt false (sk T e p') o (D ++ W) C' ∧ ¬ hw T e wAnd p' g') (fun z => (2000 - z.2.1).toNat) ?_ FU _ ⟨rfl, Int.le_refl _, f, k1, p1, g1, D1, C1, d1, y1, l1, by show 0 ≤ sk T e p1; omega, (fun v hv => and_ao (hD1 v hv)), i1, n1⟩ ?_
  · rintro kH ⟨v1, v2, N⟩ ⟨q1, q2, q3, k', p', g', D, C', d2, y2, l3, l4, hD, i2, n2⟩ hk
    have q1 : v1 = o := q1
    have q2 : 0 ≤ v2 := q2
    have q3 : Fr yqA M N := q3
    have l4 : v2 ≤ sk T e p' := l4
    have y2 : Yq T e p' g' (C' ++ D) N := y2
    subst q1
    have b := y2.1.2.2.2.2.2.1
    have hs := sk_rng T b.1 b.2
    have hss := sk_sk T (e := e) b.1
    have hlen2 := i2.len
    rw [List.length_append] at hlen2
    show wq (f_Reader_test_B12 F 76 (fun v1 v2 M => kH (v1, v2, M)) v1 v2 N) _
    unfold f_Reader_test_B12
    rw [i32_id (x := 1600) (by decide) (by decide), i32_id (x := v2) (by omega) (by omega)]
    refine wq_if (fun c => wq_some ⟨Or.inr ⟨rfl, k', p', g', D, C', d2, y2, l3, hD, i2, n2, nowd hB (by omega) lw_Or (by decide)⟩, q3⟩) (fun c => ?_)
    obtain ⟨t1, t2⟩ := tw_app hD hW
    refine wq_I (s_takeWord hB y2.1 cw_30) (fun r2 M2 ⟨c1, c2⟩ => ?_)
    have c2 : Fr scL N M2 := c2
    rcases c1 with ⟨e1, e2, e3⟩ | ⟨e1, e2, e3⟩
    · have e1 : r2 = 1 := e1
      rw [e1]
      cases k' with
      | zero => cases d2
      | succ k' =>
        have hlt := hw_let lw_Or (by decide) e2
        have d3 := d2
        unfold dE at d3
        rw [if_neg (fun z => by have := z.1; omega), if_neg (fun z => n2 (hwq_iff.mp z)), if_pos (hwq_iff.mpr e2), t1, t2] at d3
        obtain ⟨j1, j2, j3⟩ := i2.or (p1 := sk T e p' + 2) (by omega) (by omega)
        rw [t1, t2] at j3
        have y3 := y2.sc e3 c2
        refine wq_t (by decide) (wq_I (hF _ _ (11 :: W) (C' ++ D) R k' M2 y3 d3 j3 (tw_n (q := andQ) (by decide)).1 (tw_n (q := ntQ) (by decide)).1) (fun r3 M3 ⟨w, f2⟩ => ?_))
        have f2 : Fr yqA M M3 := q3.tr ((c2.cov rfl : Fr yqA _ _).tr f2)
        rcases w with ⟨w1, w2⟩ | ⟨w1, k4, p4, g4, D4, C4, d4, y4, l6, hD4, i4, n4⟩
        · have w1 : r3 = 0 := w1
          rw [w1]
          exact wq_e (by decide) (wq_some ⟨Or.inl ⟨rfl, w2⟩, f2⟩)
        · have w1 : r3 = 1 := w1
          rw [w1]
          have y4 : Yq T e p4 g4 (C4 ++ D4) M3 := y4
          have b4 := y4.1.2.2.2.2.2.1
          have hs4 := sk_rng T b4.1 b4.2
          have hl4 := i4.len
          rw [List.length_append, List.length_cons] at hl4
          rw [ptr_76]
          have l6 : sk T e p' + 2 < sk T e p4 := l6
          refine wq_t (by decide) (wq_V (yq_add y4 (v := 11) (by rw [List.length_append]; omega) (by decide) (by decide) (Or.inr (by decide))) (fun M4 ⟨y5, f3⟩ => hk _ ⟨rfl, show 0 ≤ v2 + 1 by omega, f2.tr (f3.cov rfl), k4, p4, g4, D4 ++ [11], C4, by rw [List.append_assoc]; exact d4, by rw [← List.append_assoc]; exact y5, by omega, show v2 + 1 ≤ sk T e p4 by omega, (fun u hu => ?_), by rw [List.append_assoc]; exact i4, n4⟩ (show (2000 - (v2 + 1)).toNat < (2000 - v2).toNat by omega)))
          rcases List.mem_append.mp hu with h | h
          · exact and_ao (hD4 u h)
          · rw [List.mem_singleton.mp h]; decide
    · have e1 : r2 = 0 := e1
      rw [e1]
      refine wq_e (by decide) (wq_some ⟨Or.inr ⟨rfl, k', sk T e p', g', D, C', ?_, y2.sc e3 c2, by rw [hss]; exact l3, hD, by rw [hss]; exact i2, ?_⟩, q3.tr (c2.cov rfl)⟩)
      · rw [dE_sk T e k' false g' v1 (D ++ W) C' b.1]
        exact d2
      · exact ⟨fun z => n2 ((hw_sk b.1).mp z), fun z => e2 ((hw_sk b.1).mp z)⟩
  · show (2000 - (0 : Int)).toNat < 1000000000
    decide
end CT
