/-- the class's scratch where it looks for ways -/
def trL : List (Nat × Nat) := [(48, 6), (49, 99999), (50, 99999), (51, 99999), (18, 99999), (47, 99999)]
/-- the streets by which one may have come -/
theorem s_back {V M0 : Mm} {R : List (Int × Int × Int)} {b a p k0 n : Int} {kx : Int → Int → Int → Int → Mm → Option (Int × Mm)} {Q : Int × Mm → Prop} (hT : Tw V) (hN : Nw V) (h : Cl V M0) (hB : bzC M0 R) (hR : rdOk R) (hb1 : -1000000 ≤ b) (hb2 : b ≤ 1000000) (hA : ∀ y : Int, 0 ≤ y → y < 9 → ar M0 49 y = 1000000 ∨ (0 ≤ ar M0 49 y ∧ ar M0 49 y ≤ 100000)) (hp1 : 0 ≤ p) (hp2 : p < 9) (hn : M0 48 6 = n) (hn1 : 0 ≤ n) (hn2 : n < 9)
    (kN : ∀ M', Cl V M' → Fr trL M0 M' → M' 49 = M0 49 → (ar M0 49 p = 1000000 ∨ ∀ s, ¬ stB V R b (ar M0 49) p s) → wq (kx b a k0 (-1) M') Q)
    (kY : ∀ s M', Cl V M' → Fr trL M0 M' → M' 49 = M0 49 → ar M0 49 p ≠ 1000000 → fsB V R b (ar M0 49) p s → M' 48 6 = n → M' 50 n.toNat = s → M' 51 n.toNat = ar M0 49 p - tk V s → (∀ k : Nat, k ≠ n.toNat → M' 50 k = M0 50 k ∧ M' 51 k = M0 51 k) → wq (kx b a k0 (oth V s p) M') Q) :
    wq (f_Ways_trace_L41 kx FU (b, a, p, k0, ar M0 49 p, -1, 0, M0)) Q := by
  have hS := hT.2.1
  have hPP := hT.1
  have hap := hA p hp1 hp2
  unfold f_Ways_trace_L41
  refine wq_lp (fun z => z.1 = b ∧ z.2.1 = a ∧ z.2.2.1 = p ∧ z.2.2.2.1 = k0 ∧ z.2.2.2.2.1 = ar M0 49 p ∧ (0 ≤ z.2.2.2.2.2.2.1 ∧ z.2.2.2.2.2.2.1 ≤ nS V) ∧ Cl V z.2.2.2.2.2.2.2 ∧ Fr trL M0 z.2.2.2.2.2.2.2 ∧ z.2.2.2.2.2.2.2 49 = M0 49 ∧ z.2.2.2.2.2.2.2 48 6 = n ∧ ((z.2.2.2.2.2.1 = -1 ∧ (∀ s : Int, s < z.2.2.2.2.2.2.1 → ar M0 49 p ≠ 1000000 → ¬ stB V R b (ar M0 49) p s) ∧ z.2.2.2.2.2.2.2 50 = M0 50 ∧ z.2.2.2.2.2.2.2 51 = M0 51) ∨ (∃ s, ar M0 49 p ≠ 1000000 ∧ fsB V R b (ar M0 49) p s ∧ z.2.2.2.2.2.1 = oth V s p ∧ z.2.2.2.2.2.2.2 50 n.toNat = s ∧ z.2.2.2.2.2.2.2 51 n.toNat = ar M0 49 p - tk V s ∧ ∀ k : Nat, k ≠ n.toNat → z.2.2.2.2.2.2.2 50 k = M0 50 k ∧ z.2.2.2.2.2.2.2 51 k = M0 51 k))) (fun z => (nS V - z.2.2.2.2.2.2.1).toNat) ?_ FU _ ?_ ?_
  · rintro kH ⟨v1, v2, v4, v5, v6, v7, v8, M1⟩ ⟨q1, q2, q3, q4, q5, q6, q7, q8, q9, q10, q11⟩ hk
    have e1 : v1 = b := q1
    have e2 : v2 = a := q2
    have e3 : v4 = p := q3
    have e4 : v5 = k0 := q4
    have e5 : v6 = ar M0 49 p := q5
    subst e1 e2 e3 e4 e5
    have e6 : 0 ≤ v8 ∧ v8 ≤ nS V := q6
    have e7 : Cl V M1 := q7
    have e8 : Fr trL M0 M1 := q8
    have e9 : M1 49 = M0 49 := q9
    have e10 : M1 48 6 = n := q10
    have e11 : (v7 = -1 ∧ (∀ s : Int, s < v8 → ar M0 49 v4 ≠ 1000000 → ¬ stB V R v1 (ar M0 49) v4 s) ∧ M1 50 = M0 50 ∧ M1 51 = M0 51) ∨ (∃ s, ar M0 49 v4 ≠ 1000000 ∧ fsB V R v1 (ar M0 49) v4 s ∧ v7 = oth V s v4 ∧ M1 50 n.toNat = s ∧ M1 51 n.toNat = ar M0 49 v4 - tk V s ∧ ∀ k : Nat, k ≠ n.toNat → M1 50 k = M0 50 k ∧ M1 51 k = M0 51 k) := q11
    clear q1 q2 q3 q4 q5 q6 q7 q8 q9 q10 q11
    show wq (f_Ways_trace_B41 (fun v1 v2 v4 v5 v6 v7 v8 M => kH (v1, v2, v4, v5, v6, v7, v8, M)) kx v1 v2 v4 v5 (ar M0 49 v4) v7 v8 M1) _
    unfold f_Ways_trace_B41
    rw [e_count1 e7.1, bI_s, i32_id (x := nS V) (by omega) (by omega), i32_id (x := v8) (by omega) (by omega), i32_id (x := -1) (by omega) (by omega)]
    have hex : (v7 = -1 → nS V ≤ v8) → wq (kx v1 v2 v5 v7 M1) Q := by
      intro hz
      rcases e11 with ⟨x1, x2, x3, x4⟩ | ⟨s, x1, x2, x3, x4, x5, x6⟩
      · rw [x1]
        refine kN M1 e7 e8 e9 ?_
        by_cases c : ar M0 49 v4 = 1000000
        · exact Or.inl c
        · refine Or.inr (fun s z => x2 s ?_ c z)
          have := z.1
          have := hz x1
          omega
      · rw [x3]
        exact kY s M1 e7 e8 e9 x1 x2 e10 x4 x5 x6
    refine wq_if (fun c => hex (fun _ => c)) (fun c => ?_)
    rcases e11 with ⟨x1, x2, x3, x4⟩ | ⟨s, x1, x2, x3, x4, x5, x6⟩
    · subst x1
      refine wq_e (fun z => z (by decide)) ?_
      have hnext : ∀ M', Cl V M' → Fr trL M0 M' → M' 49 = M0 49 → M' 48 6 = n → M' 50 = M0 50 → M' 51 = M0 51 → (ar M0 49 v4 ≠ 1000000 → ¬ stB V R v1 (ar M0 49) v4 v8) → wq (kH (v1, v2, v4, v5, ar M0 49 v4, -1, v8 + 1, M')) Q := by
        intro M' z1 z2 z3 z4 z5 z6 z7
        refine hk _ ⟨rfl, rfl, rfl, rfl, rfl, ⟨show 0 ≤ v8 + 1 by omega, show v8 + 1 ≤ nS V by omega⟩, z1, z2, z3, z4, Or.inl ⟨rfl, fun s hs hz => ?_, z5, z6⟩⟩ (show (nS V - (v8 + 1)).toNat < (nS V - v8).toNat by omega)
        have hs : s < v8 + 1 := hs
        by_cases es : s = v8
        · subst es; exact z7 hz
        · exact x2 s (by omega) hz
      have ek8 := (e7.1.2.1 v8 e6.1 (by omega)).2.2.1
      have htk := (hT.2.2.2.1 v8 e6.1 (by omega)).2.2.2.1
      rw [e_beyond hT e7.1 e6.1 (by omega) (by omega) (by omega), bI_s, e_cell_in (n := 12) M1 rfl (by decide) e6.1 (by omega), bI_s, ek8]
      have hor : oth V v8 v4 ≠ -1 → 0 ≤ oth V v8 v4 ∧ oth V v8 v4 < 9 := fun z => (edg_in hT (oth_edg (wo := -2) e6.1 (by omega) (by omega) z)).2.1
      have hor2 : -1 ≤ oth V v8 v4 ∧ oth V v8 v4 < 9 := by
        by_cases z : oth V v8 v4 = -1
        · omega
        · have := hor z; omega
      rw [i32_id (x := oth V v8 v4) (by omega) (by omega), i32_id (x := ar M0 49 v4) (by omega) (by omega), i32_id (x := 1000000) (by omega) (by omega)]
      by_cases c1 : oth V v8 v4 = -1
      · exact wq_t c1 (hnext M1 e7 e8 e9 e10 x3 x4 (fun _ z => z.2.1 c1))
      obtain ⟨o1, o2⟩ := hor c1
      refine wq_e c1 ?_
      by_cases c2 : ar M0 49 v4 = 1000000
      · exact wq_t c2 (hnext M1 e7 e8 e9 e10 x3 x4 (fun z => absurd c2 z))
      refine wq_e c2 ?_
      have hao := hA _ o1 o2
      have eo : M1 49 (oth V v8 v4).toNat = ar M0 49 (oth V v8 v4) := by rw [e9]; rfl
      rw [e_cell_in (n := 9) M1 rfl (by decide) o1 (by omega), bI_s, eo, i32_id (x := ar M0 49 v4 - tk V v8) (by omega) (by omega), i32_id (x := ar M0 49 (oth V v8 v4)) (by omega) (by omega)]
      by_cases c3 : ar M0 49 v4 - tk V v8 < ar M0 49 (oth V v8 v4)
      · refine wq_t c3 (hnext M1 e7 e8 e9 e10 x3 x4 (fun _ z => ?_))
        have := z.2.2.1
        omega
      · refine wq_e c3 ?_
        have hB1 := hB.fr (l := trL) e8 rfl
        rw [e_cell_in (n := 9) M1 rfl (by decide) o1 (by omega), bI_s, eo]
        refine wq_I (s_firstPass hT hN e7 hB1 hR e6.1 (by omega) hb1 hb2 (show 0 ≤ ar M0 49 (oth V v8 v4) by omega) (by omega) (show -1000 ≤ ar M0 49 v4 - tk V v8 by omega) (by omega)) (fun r M2 ⟨y1, y2, y3⟩ => ?_)
        have w1 : isF (fre V R v8 v1) (ar M0 49 (oth V v8 v4)) (ar M0 49 v4 - tk V v8) (-1) r := y1
        have w2 : Cl V M2 := y2
        have y3 : Fr wcL M1 M2 := y3
        have w3 : Fr trL M0 M2 := e8.tr (y3.cov rfl)
        have f49 : M2 49 = M0 49 := (y3.row 49 rfl).trans e9
        have f50 : M2 50 = M0 50 := (y3.row 50 rfl).trans x3
        have f51 : M2 51 = M0 51 := (y3.row 51 rfl).trans x4
        have f48 : M2 48 6 = n := (y3.at 48 6 rfl).trans e10
        have hrr : -1 ≤ r ∧ r ≤ 100000 := by
          rcases w1 with ⟨z, -⟩ | ⟨z1, z2, -⟩ <;> omega
        rw [i32_id (x := r) (by omega) (by omega)]
        by_cases c4 : r = ar M0 49 v4 - tk V v8
        · refine wq_e (fun z => z c4) ?_
          have hst : stB V R v1 (ar M0 49) v4 v8 := by
            rcases w1 with ⟨z1, z2⟩ | ⟨z1, z2, z3, z4⟩
            · omega
            · exact ⟨⟨e6.1, by omega⟩, c1, by omega, by rw [← c4]; exact z3, fun x u1 u2 => z4 x u1 (by omega)⟩
          rw [e_set (n := 9) M2 rfl (by decide) (by omega) (by omega), bV_s, up_row (by decide : ¬ (48 = 50)), e_set (n := 9) _ rfl (by decide) (by omega) (by omega), bV_s, f48]
          have F3 : Fr [(50, 99999), (51, 99999)] M2 (up (up M2 50 n.toNat v8) 51 n.toNat (ar M0 49 v4 - tk V v8)) := (Fr.rf.up (by simp)).up (by simp)
          refine hk _ ⟨rfl, rfl, rfl, rfl, rfl, ⟨show 0 ≤ v8 + 1 by omega, show v8 + 1 ≤ nS V by omega⟩, w2.fr F3 rfl rfl rfl, w3.tr (F3.cov rfl), (F3.row 49 rfl).trans f49, (F3.at 48 6 rfl).trans f48, Or.inr ⟨v8, c2, ⟨hst, fun s' hs' => x2 s' hs' c2⟩, rfl, ?_, ?_, fun k hk' => ⟨?_, ?_⟩⟩⟩ (show (nS V - (v8 + 1)).toNat < (nS V - v8).toNat by omega)
          · show up (up M2 50 n.toNat v8) 51 n.toNat (ar M0 49 v4 - tk V v8) 50 n.toNat = v8
            rw [up_row (by decide : ¬ (50 = 51)), up_eq]
          · exact up_eq _ 51 n.toNat _
          · show up (up M2 50 n.toNat v8) 51 n.toNat (ar M0 49 v4 - tk V v8) 50 k = M0 50 k
            rw [up_row (by decide : ¬ (50 = 51)), up_col hk', f50]
          · show up (up M2 50 n.toNat v8) 51 n.toNat (ar M0 49 v4 - tk V v8) 51 k = M0 51 k
            rw [up_col hk', up_row (by decide : ¬ (51 = 50)), f51]
        · refine wq_t c4 (hnext M2 w2 w3 f49 f48 f50 f51 (fun _ z => ?_))
          rcases w1 with ⟨z1, z2⟩ | ⟨z1, z2, z3, z4⟩
          · exact z2 _ z.2.2.1 (Int.le_refl _) z.2.2.2.1
          · exact z.2.2.2.2 r z1 (by omega) z3
    · have ho := (stB_in hT x2.1).2.1
      rw [i32_id (x := v7) (by omega) (by omega)]
      exact wq_t (by omega) (hex (fun z => by omega))
  · exact ⟨rfl, rfl, rfl, rfl, rfl, ⟨Int.le_refl _, hS.1⟩, h, Fr.rf, rfl, hn, Or.inl ⟨rfl, fun s hs _ hz => absurd hz.1.1 (by have hs : s < 0 := hs; omega), rfl, rfl⟩⟩
  · show (nS V - 0).toNat < 1000000000
    omega
theorem stpC_snoc {M M' : Mm} {L : List (Int × Int)} {s h : Int} (hs : stpC M L) (h1 : M' 48 6 = M 48 6 + 1) (h2 : M' 50 L.length = s) (h3 : M' 51 L.length = h) (h4 : ∀ k : Nat, k ≠ L.length → M' 50 k = M 50 k ∧ M' 51 k = M 51 k) : stpC M' (L ++ [(s, h)]) := by
  obtain ⟨g1, g2⟩ := hs
  refine ⟨by rw [h1, g1]; simp, fun k q hq => ?_⟩
  rcases Nat.lt_trichotomy k L.length with c | c | c
  · rw [List.getElem?_append_left c] at hq
    obtain ⟨x1, x2⟩ := h4 k (by omega)
    rw [x1, x2]
    exact g2 k q hq
  · subst c
    rw [List.getElem?_append_right (Nat.le_refl _), Nat.sub_self] at hq
    cases hq
    exact ⟨h2, h3⟩
  · rw [List.getElem?_eq_none (by simp; omega)] at hq
    cases hq
/-- the class's way, told from its end back and turned round -/
theorem s_trace {V M : Mm} {R : List (Int × Int × Int)} {b a t g : Int} (hT : Tw V) (hN : Nw V) (h : Cl V M) (hB : bzC M R) (hR : rdOk R) (hb1 : -1000000 ≤ b) (hb2 : b ≤ 1000000) (ht0 : 0 ≤ t) (ht1 : t ≤ 50000) (hA : isA V R b (-1) (t + 400) a t (ar M 49)) (ha1 : 0 ≤ a) (ha2 : a < 9) (hg1 : 0 ≤ g) (hg2 : g < 9) :
    wq (f_Ways_trace b a g M) (fun q => ((q.1 = 0 ∧ ar M 49 g = 1000000) ∨ (q.1 = 1 ∧ ar M 49 g ≠ 1000000 ∧ ∃ L, wpB V R b a (ar M 49) L g a ∧ L.length ≤ 8 ∧ stpC q.2 L.reverse)) ∧ q.2 49 = M 49 ∧ Cl V q.2 ∧ Fr trL M q.2) := by
  have hrg : ∀ y : Int, 0 ≤ y → y < 9 → ar M 49 y = 1000000 ∨ (0 ≤ ar M 49 y ∧ ar M 49 y ≤ 100000) := by
    intro y y1 y2
    have := Sp_rng hT (by omega) hA.2.2 y1 y2
    omega
  unfold f_Ways_trace
  refine wq_d ?_
  have F0 : Fr [(48, 6)] M (up M 48 6 0) := Fr.rf.up (by simp)
  unfold f_Ways_trace_L11
  refine wq_lp (fun z => z.1 = b ∧ z.2.1 = a ∧ (0 ≤ z.2.2.1 ∧ z.2.2.1 < 9) ∧ Cl V z.2.2.2.2 ∧ Fr trL M z.2.2.2.2 ∧ z.2.2.2.2 49 = M 49 ∧ ∃ L, wpB V R b a (ar M 49) L g z.2.2.1 ∧ stpC z.2.2.2.2 L ∧ z.2.2.2.1 = (L.length : Int) ∧ (L.length : Int) + cl9 (ar M 49) z.2.2.1 ≤ 8 ∧ (L = [] ∨ ar M 49 g ≠ 1000000) ∧ (L ≠ [] → ar M 49 z.2.2.1 ≠ 1000000)) (fun z => (cl9 (ar M 49) z.2.2.1).toNat) ?_ FU _ ?_ ?_
  · rintro kH ⟨v1, v2, v4, v5, N⟩ ⟨q1, q2, q3, q4, q5, q6, L, q7, q8, q9, q10, q11, q12⟩ hk
    have e1 : v1 = b := q1
    have e2 : v2 = a := q2
    subst e1 e2
    have e3 : 0 ≤ v4 ∧ v4 < 9 := q3
    have e4 : Cl V N := q4
    have e5 : Fr trL M N := q5
    have e6 : N 49 = M 49 := q6
    have e7 : wpB V R v1 v2 (ar M 49) L g v4 := q7
    have e8 : stpC N L := q8
    have e9 : v5 = (L.length : Int) := q9
    have e10 : (L.length : Int) + cl9 (ar M 49) v4 ≤ 8 := q10
    have e12 : L ≠ [] → ar M 49 v4 ≠ 1000000 := q12
    clear q1 q2 q3 q4 q5 q6 q7 q8 q9 q10 q12
    have ea : ar N 49 = ar M 49 := by unfold ar; rw [e6]
    have hnn := cl9_nn (ar M 49) v4
    show wq (f_Ways_trace_B11 (fun v1 v2 v4 v5 M => kH (v1, v2, v4, v5, M)) v1 v2 v4 v5 N) _
    unfold f_Ways_trace_B11
    rw [i32_id (x := 9) (by omega) (by omega), i32_id (x := v5) (by omega) (by omega), i32_id (x := v4) (by omega) (by omega), i32_id (x := v2) (by omega) (by omega)]
    refine wq_e (by omega) ?_
    by_cases c : v4 = v2
    · refine wq_t c (wq_V (s_turn e8 (by omega)) (fun N3 ⟨x1, x2⟩ => ?_))
      have hgn : ar M 49 g ≠ 1000000 := by
        rcases q11 with z | z
        · subst z
          have e7 : g = v4 := e7
          rw [e7, c, hA.1]
          omega
        · exact z
      refine wq_some ⟨Or.inr ⟨rfl, hgn, L, ?_, by omega, x1⟩, (x2.row 49 rfl).trans e6, e4.fr x2 rfl rfl rfl, e5.tr (x2.cov rfl)⟩
      have := e7
      rw [c] at this
      exact this
    · refine wq_e c ?_
      have ep : N 49 v4.toNat = ar N 49 v4 := rfl
      rw [e_cell_in (n := 9) N rfl (by decide) e3.1 (by omega), bI_s, ep]
      have hB1 := hB.fr (l := trL) e5 rfl
      refine s_back (n := v5) hT hN e4 hB1 hR hb1 hb2 (by rw [ea]; exact hrg) e3.1 e3.2 (by rw [e8.1]; exact e9.symm) (by omega) (by omega) (fun M' z1 z2 z3 z4 => ?_) (fun s M' z1 z2 z3 z4 z5 z6 z7 z8 z9 => ?_)
      · rw [ea] at z4
        unfold f_Ways_trace_J176
        refine wq_e (fun y => y (by decide)) (wq_some ⟨Or.inl ⟨rfl, ?_⟩, z3.trans e6, z1, e5.tr z2⟩)
        rcases z4 with y | y
        · by_cases hL : L = []
          · subst hL
            have e7 : g = v4 := e7
            rw [e7]; exact y
          · exact absurd y (e12 hL)
        · by_cases hv : ar M 49 v4 = 1000000
          · by_cases hL : L = []
            · subst hL
              have e7 : g = v4 := e7
              rw [e7]; exact hv
            · exact absurd hv (e12 hL)
          · obtain ⟨s, hs⟩ := stB_ex hT (by omega) (by omega) hA e3.1 e3.2 c hv
            exact absurd hs (y s)
      · rw [ea] at z4 z5 z8
        obtain ⟨y1, y2, y3⟩ := stB_in hT z5.1
        have hd := cl9_dec y2.1 y2.2 y3
        have hnn2 := cl9_nn (ar M 49) (oth V s v4)
        have hor := hrg _ y2.1 y2.2
        have hav := hrg _ e3.1 e3.2
        unfold f_Ways_trace_J176
        rw [i32_id (x := oth V s v4) (by omega) (by omega), i32_id (x := -1) (by omega) (by omega)]
        refine wq_t (by omega) (wq_d ?_)
        have F1 : Fr [(48, 6)] M' (up M' 48 6 (M' 48 6 + 1)) := Fr.rf.up (by simp)
        have hv5 : v5.toNat = L.length := by omega
        rw [hv5] at z7 z8 z9
        refine hk _ ⟨rfl, rfl, y2, z1.fr F1 rfl rfl rfl, (e5.tr z2).tr (F1.cov rfl), ((F1.row 49 rfl).trans z3).trans e6, L ++ [(s, ar M 49 v4 - tk V s)], wpB_snoc L _ _ e7 c z5 rfl, ?_, ?_, ?_, Or.inr ?_, fun _ => ?_⟩ (show (cl9 (ar M 49) (oth V s v4)).toNat < (cl9 (ar M 49) v4).toNat by omega)
        · refine stpC_snoc e8 ?_ ?_ ?_ (fun k hk' => ⟨?_, ?_⟩)
          · show up M' 48 6 (M' 48 6 + 1) 48 6 = _
            rw [up_eq, z6, e8.1, e9]
          · exact (congrFun (F1.row 50 rfl) _).trans z7
          · exact (congrFun (F1.row 51 rfl) _).trans z8
          · exact (congrFun (F1.row 50 rfl) _).trans (z9 k hk').1
          · exact (congrFun (F1.row 51 rfl) _).trans (z9 k hk').2
        · show v5 + 1 = ((L ++ [(s, ar M 49 v4 - tk V s)]).length : Int)
          simp only [List.length_append, List.length_cons, List.length_nil]
          omega
        · show ((L ++ [(s, ar M 49 v4 - tk V s)]).length : Int) + cl9 (ar M 49) (oth V s v4) ≤ 8
          simp only [List.length_append, List.length_cons, List.length_nil]
          omega
        · rcases q11 with z | z
          · subst z
            have e7 : g = v4 := e7
            rw [e7]; exact z4
          · exact z
        · show ar M 49 (oth V s v4) ≠ 1000000
          omega
  · have := cl9_le (arr := ar M 49) hg1 hg2
    exact ⟨rfl, rfl, ⟨hg1, hg2⟩, h.fr F0 rfl rfl rfl, F0.cov rfl, F0.row 49 rfl, [], rfl, ⟨up_eq M 48 6 0, fun k q hq => by simp at hq⟩, rfl, by show ((0 : Nat) : Int) + cl9 (ar M 49) g ≤ 8; omega, Or.inl rfl, fun z => absurd rfl z⟩
  · have := cl9_le (arr := ar M 49) hg1 hg2
    show (cl9 (ar M 49) g).toNat < 1000000000
    omega
