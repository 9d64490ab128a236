theorem bQ0 (k : Int) : ¬ bQ 0 k := by unfold bQ; simp
theorem s_search {V M : Mm} {R : List (Int × Int × Int)} {b wo a t : Int} (hT : Tw V) (hN : Nw V) (h : Cl V M) (hB : bzC M R) (hR : rdOk R) (hb1 : -1000000 ≤ b) (hb2 : b ≤ 1000000) (ht0 : 0 ≤ t) (ht1 : t ≤ 50000) (ha : 0 ≤ a ∧ a < 9) (hw1 : -2147483648 ≤ wo) (hw2 : wo < 2147483648) :
    wq (f_Ways_search b a t wo M) (fun M' => isA V R b wo (t + 400) a t (ar M' 49) ∧ Cl V M' ∧ Fr seL M M') := by
  have hPP := hT.1
  unfold f_Ways_search
  refine wq_V (s_fill (n := 9) 1000000 M rfl (by decide)) (fun M1 ⟨f1, f2⟩ => ?_)
  rw [e_set (n := 9) M1 rfl (by decide) ha.1 (by omega), bV_s]
  have F1 : Fr [(49, 99999)] M (up M1 49 a.toNat t) := f2.up (by simp)
  have F2 : Fr seL M (up M1 49 a.toNat t) := F1.cov rfl
  have hup : ∀ y : Int, 0 ≤ y → y < 9 → ar (up M1 49 a.toNat t) 49 y = if y = a then t else 1000000 := by
    intro y y1 y2
    rw [ar_up _ _ _ _ ha.1 y y1]
    unfold ar
    rw [f1 y.toNat (by omega)]
  have hc0 : Cl V (up M1 49 a.toNat t) := h.fr F1 rfl rfl rfl
  have hg0 : gdA V R b wo (t + 400) a t (ar (up M1 49 a.toNat t) 49) := by
    refine ⟨by rw [hup a ha.1 ha.2, if_pos rfl], fun p p1 p2 => ?_⟩
    rw [hup p p1 p2]
    by_cases c : p = a
    · rw [if_pos c]; exact Or.inr ⟨0, c, rfl⟩
    · rw [if_neg c]; exact Or.inl rfl
  generalize up M1 49 a.toNat t = M0 at *
  unfold f_Ways_search_L24
  refine wq_lp (fun z => z.1 = b ∧ z.2.1 = t ∧ z.2.2.1 = wo ∧ (0 ≤ z.2.2.2.2.1 ∧ z.2.2.2.2.1 ≤ nP V) ∧ (0 ≤ z.2.2.2.1 ∧ z.2.2.2.1 < 512) ∧ (cntb z.2.2.2.1.toNat (nP V).toNat : Int) = z.2.2.2.2.1 ∧ Cl V z.2.2.2.2.2 ∧ Fr seL M z.2.2.2.2.2 ∧ gdA V R b wo (t + 400) a t (ar z.2.2.2.2.2 49) ∧ dnA V z.2.2.2.1 (ar z.2.2.2.2.2 49) ∧ ∀ s p q : Int, edg V wo s p q → bQ z.2.2.2.1 p → rlx V R b (t + 400) (ar z.2.2.2.2.2 49) s p q) (fun z => (nP V - z.2.2.2.2.1).toNat) ?_ FU _ ?_ ?_
  · rintro kH ⟨v1, v3, v4, v5, v6, N⟩ ⟨q1, q2, q3, q4, q5, q6, q7, q8, q9, q10, q11⟩ hk
    have e1 : v1 = b := q1
    have e2 : v3 = t := q2
    have e3 : v4 = wo := q3
    subst e1 e2 e3
    have e4 : 0 ≤ v6 ∧ v6 ≤ nP V := q4
    have e5 : 0 ≤ v5 ∧ v5 < 512 := q5
    have e6 : (cntb v5.toNat (nP V).toNat : Int) = v6 := q6
    have e7 : Cl V N := q7
    have e8 : Fr seL M N := q8
    have e9 : gdA V R v1 v4 (v3 + 400) a v3 (ar N 49) := q9
    have e10 : dnA V v5 (ar N 49) := q10
    have e11 : ∀ s p q : Int, edg V v4 s p q → bQ v5 p → rlx V R v1 (v3 + 400) (ar N 49) s p q := q11
    clear q1 q2 q3 q4 q5 q6 q7 q8 q9 q10 q11
    have hrg : ∀ p : Int, 0 ≤ p → p < 9 → 0 ≤ ar N 49 p ∧ ar N 49 p ≤ 1000000 := by
      intro p p1 p2
      have := Sp_rng hT (by omega) e9.2 p1 p2
      omega
    show wq (f_Ways_search_B24 (fun v1 v3 v4 v5 v6 M => kH (v1, v3, v4, v5, v6, M)) v1 v3 v4 v5 v6 N) _
    unfold f_Ways_search_B24
    rw [e_count0 e7.1, bI_s, i32_id (x := nP V) (by omega) (by omega), i32_id (x := v6) (by omega) (by omega)]
    refine wq_if (fun c => ?_) (fun c => ?_)
    · refine wq_some ⟨⟨e9.1, fun s p q he => ?_, e9.2⟩, e7, e8⟩
      have hnp := edg_nP hT he
      have hful := cntb_full v5.toNat (nP V).toNat (by omega) p.toNat (by omega)
      exact e11 s p q he hful
    · refine wq_I (s_soonest hT e7.1 e5.1 (by omega) hrg) (fun P N2 ⟨w1, w2⟩ => ?_)
      have w2 : N2 = N := w2
      subst w2
      have w1 : ((P = -1 ∧ ∀ p : Int, 0 ≤ p → p < nP V → ¬ bQ v5 p → ar N2 49 p = 1000000) ∨ ((0 ≤ P ∧ P < nP V) ∧ ¬ bQ v5 P ∧ ar N2 49 P < 1000000 ∧ ∀ p : Int, 0 ≤ p → p < nP V → ¬ bQ v5 p → ar N2 49 P ≤ ar N2 49 p)) := w1
      rcases w1 with ⟨x1, x2⟩ | ⟨x1, x2, x3, x4⟩
      · subst x1
        refine wq_e (fun z => z rfl) (wq_some ⟨⟨e9.1, fun s p q he => ?_, e9.2⟩, e7, e8⟩)
        have hnp := edg_nP hT he
        by_cases cb : bQ v5 p
        · exact e11 s p q he cb
        · exact fun z => absurd (x2 p hnp.1.1 hnp.1.2 cb) z
      · rw [i32_id (x := P) (by omega) (by omega), i32_id (x := -1) (by omega) (by omega)]
        refine wq_t (by omega) ?_
        obtain ⟨o1, o2⟩ := bQ_set (m := v5) (k := P) (n := 9) e5.1 (by decide) (by show v5.toNat < 512; omega) x1.1 (by omega)
        rw [o1]
        have hbit : ∀ p : Int, 0 ≤ p → (bQ ((v5.toNat ||| 2 ^ P.toNat : Nat) : Int) p ↔ (bQ v5 p ∨ p = P)) := by
          intro p p1
          unfold bQ
          rw [Int.toNat_natCast, bQ_or]
          have : p.toNat = P.toNat ↔ p = P := by omega
          rw [this]
        have hcn : (cntb (v5.toNat ||| 2 ^ P.toNat) (nP V).toNat : Int) = v6 + 1 := by
          rw [cntb_set x2 _ (by omega)]
          omega
        have ho3 : (v5.toNat ||| 2 ^ P.toNat) < 512 := o2
        generalize hD : ((v5.toNat ||| 2 ^ P.toNat : Nat) : Int) = D at *
        have hDn : D.toNat = (v5.toNat ||| 2 ^ P.toNat) := by omega
        refine s_streets hT hN e7 ((hB.fr F2 rfl : bzC _ R) |> fun _ => (hB.fr e8 rfl)) hR hb1 hb2 ht0 ht1 ha hw1 hw2 (by omega) (by omega) x1.1 x1.2 ((hbit P x1.1).mpr (Or.inr rfl)) ⟨e9, x3, fun p p1 p2 p3 => ?_, fun q p1 p2 p3 => ?_, fun s p q z1 z2 z3 => ?_, fun s q z1 z2 => absurd z1 (by have := z2.1; omega)⟩ (fun N3 y1 y2 y3 => ?_)
        · rcases (hbit p p1).mp p3 with z | z
          · exact e10 p P p1 p2 x1.1 x1.2 z x2
          · rw [z]; exact Int.le_refl _
        · exact x4 q p1 p2 (fun z => p3 ((hbit q p1).mpr (Or.inl z)))
        · have hnp := edg_nP hT z1
          rcases (hbit p hnp.1.1).mp z2 with z | z
          · exact e11 s p q z1 z
          · exact absurd z z3
        · obtain ⟨i1, i2, i3, i4, i5, i6⟩ := y3
          refine hk _ ⟨rfl, rfl, rfl, ⟨show 0 ≤ v6 + 1 by omega, show v6 + 1 ≤ nP V by omega⟩, ⟨show 0 ≤ D by omega, show D < 512 by omega⟩, ?_, y1, e8.tr y2, i1, fun p q p1 p2 p3 p4 p5 p6 => ?_, fun s p q z1 z2 => ?_⟩ (show (nP V - (v6 + 1)).toNat < (nP V - v6).toNat by omega)
          · show (cntb D.toNat (nP V).toNat : Int) = v6 + 1
            rw [hDn]
            exact hcn
          · have r1 := i3 p p1 p2 p5
            have r2 := i4 q p3 p4 p6
            exact Int.le_trans r1 r2
          · by_cases cp : p = P
            · subst cp
              exact i6 s q z1.2.1 z1
            · exact i5 s p q z1 z2 cp
  · refine ⟨rfl, rfl, rfl, ⟨Int.le_refl _, hPP.1⟩, ⟨Int.le_refl _, by show (0 : Int) < 512; decide⟩, ?_, hc0, F2, hg0, fun p q p1 p2 p3 p4 p5 p6 => absurd p5 (bQ0 p), fun s p q z1 z2 => absurd z2 (bQ0 p)⟩
    show (cntb (0 : Int).toNat (nP V).toNat : Int) = 0
    rw [show (0 : Int).toNat = 0 from rfl, cntb_zero]
    rfl
  · show (nP V - 0).toNat < 1000000000
    omega
/-- when a walker sets out -/
def sto (V : Mm) (w : Int) : Int := if fr V w ≤ hr V then hr V else fr V w
theorem sto_rng {V : Mm} (hN : Nw V) {w : Int} (h1 : 0 ≤ w) (h2 : w < nW V) : 0 ≤ sto V w ∧ sto V w ≤ 9999 := by
  have a := hN.1
  have b := (hN.2.2 w h1 h2).2
  unfold sto
  split <;> omega
theorem pl_rng {V : Mm} (hT : Tw V) (hN : Nw V) {w : Int} (h1 : 0 ≤ w) (h2 : w < nW V) : (0 ≤ pl V w ∧ pl V w < nP V) ∧ (0 ≤ gl V w ∧ gl V w < nP V) ∧ pl V w ≠ gl V w := by
  obtain ⟨-, a1, a2, a3⟩ := hT.2.2.2.2 w h1 h2
  rcases (hN.2.2 w h1 h2).1 with ⟨b1, b2⟩ | ⟨b1, b2⟩
  · rw [b1, b2]; exact ⟨a1, a2, a3⟩
  · rw [b1, b2]; exact ⟨a2, a1, fun z => a3 z.symm⟩
theorem e_setOut {V M : Mm} (hT : Tw V) (hN : Nw V) (h : Nc V M) {w : Int} (h1 : 0 ≤ w) (h2 : w < nW V) : f_Now_setOut w M = some (sto V w, M) := by
  have hW := hT.2.2.1
  have a := hN.1
  have b := (hN.2.2 w h1 h2).2
  have e := (h.2.2 w h1 h2).2.2
  unfold f_Now_setOut sto
  rw [e_cell_in (n := 6) M rfl (by decide) h1 (by omega), bI_s, e, h.1, e_max M (by omega) (by omega) (by omega) (by omega), bI_s]
  by_cases c : hr V < fr V w
  · rw [if_pos c, if_neg (by omega)]
  · rw [if_neg c, if_pos (by omega)]
theorem e_setsOut {V M : Mm} (hT : Tw V) (hN : Nw V) (h : Rm V M) {w : Int} (h1 : 0 ≤ w) (h2 : w < nW V) : f_M_setsOut w M = some (sto V w, M) := by
  have hW := hT.2.2.1
  have a := hN.1
  have b := (hN.2.2 w h1 h2).2
  have e1 : M 108 (15 + 3 * w).toNat = fr V w := by rw [h.2.2.2.2.2.2]; rfl
  have e0 : M 108 0 = hr V := by rw [h.2.2.2.2.2.2]; rfl
  unfold f_M_setsOut sto
  rw [show (13 + (3 * w)) + 2 = 15 + 3 * w by omega, i32_id (x := 15 + 3 * w) (by omega) (by omega), e1, e0, i32_id (x := fr V w) (by omega) (by omega), i32_id (x := hr V) (by omega) (by omega), gd_t (by omega)]
  by_cases c : fr V w ≤ hr V
  · rw [if_pos c, if_pos c]
  · rw [if_neg c, if_neg c]
theorem s_searchFor {V M : Mm} {R : List (Int × Int × Int)} {wo w : Int} (hT : Tw V) (hN : Nw V) (h : Cl V M) (hB : bzC M R) (hR : rdOk R) (h1 : 0 ≤ w) (h2 : w < nW V) (hw1 : -2147483648 ≤ wo) (hw2 : wo < 2147483648) :
    wq (f_Ways_searchFor w wo M) (fun M' => isA V R (br V w) wo (sto V w + 400) (pl V w) (sto V w) (ar M' 49) ∧ Cl V M' ∧ Fr seL M M') := by
  have hW := hT.2.2.1
  have hP := hT.1
  have hs := sto_rng hN h1 h2
  have hp := pl_rng hT hN h1 h2
  have hb := (hT.2.2.2.2 w h1 h2).1
  have ea := (h.1.2.2.1 w h1 h2).1
  have eb := (h.2.1.2.2 w h1 h2).1
  unfold f_Ways_searchFor
  rw [e_cell_in (n := 6) M rfl (by decide) h1 (by omega), bI_s, e_cell_in (n := 6) M rfl (by decide) h1 (by omega), bI_s, ea, eb, e_setOut hT hN h.2.1 h1 h2, bI_s]
  exact wq_V (s_search hT hN h hB hR (by omega) (by omega) hs.1 (by omega) ⟨hp.1.1, by omega⟩ hw1 hw2) (fun M' z => wq_some z)
theorem s_spreadsFor {V M : Mm} {R : List (Int × Int × Int)} {wo w : Int} (hT : Tw V) (hN : Nw V) (h : Rm V M) (hB : bzM M R) (hR : rdOk R) (h1 : 0 ≤ w) (h2 : w < nW V) (hw1 : -2147483648 ≤ wo) (hw2 : wo < 2147483648) :
    wq (f_M_spreadsFor w wo M) (fun M' => isA V R (br V w) wo (sto V w + 400) (pl V w) (sto V w) (ar M' 110) ∧ Rm V M' ∧ Fr spL M M') := by
  have hW := hT.2.2.1
  have hP := hT.1
  have hs := sto_rng hN h1 h2
  have hp := pl_rng hT hN h1 h2
  have hb := (hT.2.2.2.2 w h1 h2).1
  unfold f_M_spreadsFor
  rw [e_place h h1 (by omega), bI_s, e_setsOut hT hN h h1 h2, bI_s, e_broad h h1 (by omega), bI_s, e_setsOut hT hN h h1 h2, bI_s]
  exact wq_V (s_spreads hT hN h hB hR (by omega) (by omega) hs.1 (by omega) (by omega) ⟨hp.1.1, by omega⟩ hw1 hw2) (fun M' z => wq_some z)
