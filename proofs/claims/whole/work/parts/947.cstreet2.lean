section Cst
variable {T : Nat → Int} {e p g : Int} {S : Tn} {M : Mm}
theorem Dr.sc {l : List (Nat × Nat)} {M' : Mm} (h : Dr S M) (hF : Fr l M M') (hh : l.all (fun q => !(decide (23 ≤ q.1 ∧ q.1 ≤ 32)) && q.1 != 20) = true) : Dr S M' := by
  have hz := fun p hp => List.all_eq_true.mp hh p hp
  simp only [Bool.and_eq_true, bne_iff_ne, ne_eq, Bool.not_eq_true', decide_eq_false_iff_not] at hz
  obtain ⟨h1, h2, h3⟩ := h
  refine ⟨fun j s a b => ?_, fun j s a b => ?_, ?_⟩
  · rw [hF.rw' (23 + j) (fun p hp q => (hz p hp).1 (by omega))]; exact h1 j s a b
  · rw [hF.rw' (30 + j) (fun p hp q => (hz p hp).1 (by omega))]; exact h2 j s a b
  · rw [hF.rw' 20 (fun p hp => (hz p hp).2)]; exact h3
theorem lB_21 {n : Nat} {M M' : Mm} (h : Fr (lB n) M M') {k : Nat} (hk : k ≠ 1) : M' 21 k = M 21 k := h.off (by
  intro p hp hq
  simp only [lB, List.mem_cons, List.not_mem_nil, or_false] at hp
  rcases hp with z | z | z | z | z | z | z | z | z | z | z | z | z | z | z | z | z <;> subst z <;> simp at hq ⊢ <;> omega)
theorem lB_22 {n : Nat} {M M' : Mm} (h : Fr (lB n) M M') {k : Nat} (hn : n < 100) (hk : k ≠ 12 + n) : M' 22 k = M 22 k := h.off (by
  intro p hp hq
  simp only [lB, List.mem_cons, List.not_mem_nil, or_false] at hp
  rcases hp with z | z | z | z | z | z | z | z | z | z | z | z | z | z | z | z | z <;> subst z <;> simp at hq ⊢ <;> omega)
theorem lB_23 {n : Nat} {M M' : Mm} (h : Fr (lB n) M M') {j k : Nat} (hn : n < 100) (hj : j < 7) (hk : k ≠ n) : M' (23 + j) k = M (23 + j) k := h.off (by
  intro p hp hq
  simp only [lB, List.mem_cons, List.not_mem_nil, or_false] at hp
  rcases hp with z | z | z | z | z | z | z | z | z | z | z | z | z | z | z | z | z <;> subst z <;> simp at hq ⊢ <;> omega)
theorem dn_addS {M' : Mm} {l C : List Int} {v : Nat → Int} (hlt : S.c 1 < 12) (hS : Ws S) (hD : Dn S M) (hF : Fr (lB (S.c 1)) M M') (e1 : M' 21 1 = (S.c 1 : Int) + 1) (e2 : M' 22 (12 + S.c 1) = pk5 l) : Dn (addS S l v C) M' := by
  obtain ⟨c0, c1, c2⟩ := hS.1.1
  obtain ⟨⟨a1, a2⟩, ⟨b1, b2⟩, ⟨d1, d2⟩⟩ := hD
  refine ⟨⟨?_, fun w hw => ?_⟩, ⟨?_, fun w hw => ?_⟩, ⟨?_, fun w hw => ?_⟩⟩
  · rw [lB_21 hF (by decide)]; exact a1
  · have hw : w < S.c 0 := hw
    show M' 22 (12 * 0 + w) = pk5 (if 12 * 0 + w = 12 + S.c 1 then l else S.nm (12 * 0 + w))
    rw [lB_22 hF (by omega) (by omega), if_neg (by omega)]
    exact a2 w hw
  · rw [e1]
    show (S.c 1 : Int) + 1 = ((S.c 1 + 1 : Nat) : Int)
    push_cast
    rfl
  · have hw : w < S.c 1 + 1 := hw
    show M' 22 (12 * 1 + w) = pk5 (if 12 * 1 + w = 12 + S.c 1 then l else S.nm (12 * 1 + w))
    by_cases gg : w = S.c 1
    · rw [if_pos (by omega), gg]
      exact e2
    · rw [lB_22 hF (by omega) (by omega), if_neg (by omega)]
      exact b2 w (by omega)
  · rw [lB_21 hF (by decide)]; exact d1
  · have hw : w < S.c 2 := hw
    show M' 22 (12 * 2 + w) = pk5 (if 12 * 2 + w = 12 + S.c 1 then l else S.nm (12 * 2 + w))
    rw [lB_22 hF (by omega) (by omega), if_neg (by omega)]
    exact d2 w hw
theorem dr_addS {M' : Mm} {l C : List Int} {v : Nat → Int} (hS : Ws S) (hD : Dr S M) (hF : Fr (lB (S.c 1)) M M') (e1 : ∀ j : Nat, j < 7 → M' (23 + j) (S.c 1) = v j) : Dr (addS S l v C) M' := by
  obtain ⟨c0, c1, c2⟩ := hS.1.1
  obtain ⟨a1, a2, a3⟩ := hD
  refine ⟨fun j s hj hs => ?_, fun j w hj hw => ?_, ?_⟩
  · have hs : s < S.c 1 + 1 := hs
    show M' (23 + j) s = if s = S.c 1 then v j else S.r j s
    by_cases gg : s = S.c 1
    · rw [if_pos gg, gg]
      exact e1 j hj
    · rw [if_neg gg, lB_23 hF (by omega) hj gg]
      exact a1 j s hj (by omega)
  · have hj' : j = 0 ∨ j = 1 ∨ j = 2 := by omega
    have : M' (30 + j) = M (30 + j) := by
      rcases hj' with z | z | z <;> subst z
      · exact hF.row 30 rfl
      · exact hF.row 31 rfl
      · exact hF.row 32 rfl
    rw [this]
    exact a2 j w hj hw
  · rw [hF.row 20 rfl]
    exact a3
theorem c_street (hB : Bt T e) (hY : Yt T e p g S.C M) (hp : sk T e p = p) (hw : hw T e wStreet p g) (hS : Ws S) (hD : Dn S M) (hR : Dr S M) (hl : S.C.length ≤ p.toNat) : wq (f_TownR_streetTold M) (fun q => Oc T e (stRes T e S p (p + 6)) (Cs T e) q ∧ Fr lTc M q.2) := by
  have hh := hB.1
  have h := hY.1
  have hp0 := h.2.2.2.2.2.1
  obtain ⟨c0, c1, c2⟩ := hS.1.1
  obtain ⟨n, hn⟩ : ∃ n, n = S.c 1 := ⟨_, rfl⟩
  unfold f_TownR_streetTold stRes
  refine wq_I (c_newName (kd := 1) (cap := 12) hB h hp cw_2 hw (by decide) (by decide) hS.1 hD hD.2.1) (fun r M1 ⟨a1, a2⟩ => ?_)
  have f1 : Fr (lB n) M M1 := by
    have a2 : Fr ((21, 1) :: (22, 12 * 1 + S.c 1) :: scL) M M1 := a2
    rw [← hn] at a2
    exact a2.mono (by simp [lB, scL])
  rcases a1 with ⟨f, b1, b2, b3⟩ | ⟨⟨l, p1⟩, b1, b2, b3, b4, b5, b6, b7, b8⟩
  · have b2 : r = -1 := b2
    have b1 : nnR T e S 1 12 p (p + 6) = .inl f := b1
    rw [b1, b2]
    exact wq_t rfl (wq_some ⟨⟨rfl, b3⟩, lB_T f1⟩)
  have b1 : nnR T e S 1 12 p (p + 6) = .inr (l, p1) := b1
  have b2 : r = (S.c 1 : Int) := b2
  have b3 : Sc T e p1 p1 M1 := b3
  have b4 : ltrs l := b4
  have b6 : p + 6 < p1 := b6
  have b7 : M1 21 1 = (S.c 1 : Int) + 1 := b7
  have b8 : M1 22 (12 + S.c 1) = pk5 l := b8
  rw [← hn] at b2 b5 b7 b8
  rw [b1, b2, i32_id (x := (n : Int)) (by omega) (by omega), i32_id (x := (-1)) (by decide) (by decide)]
  dsimp only [rb]
  refine wq_e (by omega) ?_
  have hDk : ∀ N, Fr (lB n) M N → Dk S 0 N := fun N z => ⟨by rw [lB_21 z (by decide)]; exact hD.1.1, fun w hw' => by rw [lB_22 z (by omega) (by omega)]; exact hD.1.2 w hw'⟩
  refine wq_I (c_place (sl := 12) hB b3 cw_3 hS.1 (hDk M1 f1) rfl (by decide) (by omega) rfl (by decide)) (fun r2 M2 ⟨c1', c2'⟩ => ?_)
  have f2 : Fr (lB n) M M2 := f1.tr (Fr.mono c2' (by simp [lB, scL]))
  rcases Oc_cs c1' with ⟨f, d1, d2, d3⟩ | ⟨⟨x, p2⟩, d1, d2, d3, d4, d5, d6⟩
  · rw [d1, d2]
    exact wq_t rfl (wq_some ⟨⟨rfl, d3⟩, lB_T f2⟩)
  have d3 : Sc T e p2 p2 M2 := d3
  have d4 : M2 23 n = x := d4
  have d5 : 0 ≤ x ∧ x < (S.c 0 : Int) ∧ x ≠ -1 := d5
  have d6 : p1 < p2 := d6
  rw [d1, d2]
  dsimp only [rb]
  refine wq_e (by decide) ?_
  rw [e_cell_in (n := 12) M2 rfl (by decide) (by omega) (by omega), bI_s, Int.toNat_natCast, d4]
  refine wq_I (c_place (sl := 12) hB d3 cw_4 hS.1 (hDk M2 f2) rfl (by decide) (by omega) rfl (by omega)) (fun r3 M3 ⟨c3', c4'⟩ => ?_)
  have c4' : Fr ((24, n) :: scL) M2 M3 := c4'
  have f3 : Fr (lB n) M M3 := f2.tr (Fr.mono c4' (by simp [lB, scL]))
  have x3 : M3 23 n = x := by rw [c4'.row 23 rfl]; exact d4
  rcases Oc_cs c3' with ⟨f, g1, g2, g3⟩ | ⟨⟨y, p3⟩, g1, g2, g3, g4, g5, g6⟩
  · rw [g1, g2]
    exact wq_t rfl (wq_some ⟨⟨rfl, g3⟩, lB_T f3⟩)
  have g3 : Sc T e p3 p3 M3 := g3
  have g4 : M3 24 n = y := g4
  have g5 : 0 ≤ y ∧ y < (S.c 0 : Int) ∧ y ≠ x := g5
  have g6 : p2 < p3 := g6
  rw [g1, g2]
  dsimp only [rb]
  refine wq_e (by decide) ?_
  refine wq_I (c_number (sl := 12) hB g3 cw_5 rfl (by decide) (by omega) rfl (by decide) (by decide)) (fun r4 M4 ⟨c5', c6'⟩ => ?_)
  have c6' : Fr ((25, n) :: scL) M3 M4 := c6'
  have f4 : Fr (lB n) M M4 := f3.tr (Fr.mono c6' (by simp [lB, scL]))
  rcases Oc_cs c5' with ⟨f, j1, j2, j3⟩ | ⟨⟨p4, t⟩, j1, j2, j3, j4, j5, j6⟩
  · rw [j1, j2]
    exact wq_t rfl (wq_some ⟨⟨rfl, j3⟩, lB_T f4⟩)
  have j3 : Sc T e p4 p4 M4 := j3
  have j4 : M4 25 n = t := j4
  have j5 : 1 ≤ t ∧ t ≤ 4 := j5
  have j6 : p3 < p4 := j6
  rw [j1, j2]
  dsimp only [rb]
  refine wq_e (by decide) ?_
  refine wq_I (c_number (sl := 12) hB j3 cw_6 rfl (by decide) (by omega) rfl (by decide) (by decide)) (fun r5 M5 ⟨c7', c8'⟩ => ?_)
  have c8' : Fr ((26, n) :: scL) M4 M5 := c8'
  have f5 : Fr (lB n) M M5 := f4.tr (Fr.mono c8' (by simp [lB, scL]))
  rcases Oc_cs c7' with ⟨f, k1, k2, k3⟩ | ⟨⟨p5, d⟩, k1, k2, k3, k4, k5, k6⟩
  · rw [k1, k2]
    exact wq_t rfl (wq_some ⟨⟨rfl, k3⟩, lB_T f5⟩)
  have k3 : Sc T e p5 p5 M5 := k3
  have k4 : M5 26 n = d := k4
  have k5 : 1 ≤ d ∧ d ≤ 48 := k5
  have k6 : p4 < p5 := k6
  rw [k1, k2]
  dsimp only [rb]
  refine wq_e (by decide) ?_
  refine wq_I (c_number (sl := 12) hB k3 cw_7 rfl (by decide) (by omega) rfl (by decide) (by decide)) (fun r6 M6 ⟨c9', ca'⟩ => ?_)
  have ca' : Fr ((27, n) :: scL) M5 M6 := ca'
  have f6 : Fr (lB n) M M6 := f5.tr (Fr.mono ca' (by simp [lB, scL]))
  rcases Oc_cs c9' with ⟨f, m1, m2, m3⟩ | ⟨⟨p6, s⟩, m1, m2, m3, m4, m5, m6⟩
  · rw [m1, m2]
    exact wq_e (by decide) (wq_some ⟨⟨rfl, m3⟩, lB_T f6⟩)
  have m3 : Sc T e p6 p6 M6 := m3
  have m4 : M6 27 n = s := m4
  have m5 : 0 ≤ s ∧ s ≤ 47 := m5
  have m6 : p5 < p6 := m6
  rw [m1, m2]
  dsimp only [rb]
  refine wq_t (by decide) ?_
  have hp6 := m3.2.2.2.2.2.1
  have hs6 := sk_rng T hp6.1 hp6.2
  refine wq_I (s_takeWord hB m3 cw_8) (fun r7 M7 ⟨n1, n2⟩ => ?_)
  have n2 : Fr scL M6 M7 := n2
  have f7 : Fr (lB n) M M7 := f6.tr (Fr.mono n2 (by simp [lB, scL]))
  unfold wdR
  rcases n1 with ⟨o1, o2, o3⟩ | ⟨o1, o2, o3⟩
  · have o1 : r7 = 1 := o1
    have o3 : Sc T e (sk T e p6 + 4) (sk T e p6 + 4) M7 := o3
    rw [o1, if_pos (hwq_iff.mpr o2)]
    dsimp only [rb]
    refine wq_t (by decide) ?_
    show wq _ (fun q => Oc T e (rb (suR T e S.C (sk T e p6 + 4)) _) (Cs T e) q ∧ _)
    obtain ⟨p7, hp7⟩ : ∃ p7, p7 = sk T e p6 + 4 := ⟨_, rfl⟩
    rw [← hp7] at o3 ⊢
    have hq7 := o3.2.2.2.2.2.1
    have z26 : M7 26 n = d := by rw [n2.row 26 rfl, ca'.row 26 rfl]; exact k4
    have z27 : M7 27 n = s := by rw [n2.row 27 rfl]; exact m4
    rw [e_cell_in (n := 12) M7 rfl (by decide) (by omega) (by omega), bI_s, Int.toNat_natCast, z26, i32_id (x := d) (by omega) (by omega)]
    refine wq_e (by omega) ?_
    rw [e_cell_in (n := 12) M7 rfl (by decide) (by omega) (by omega), bI_s, Int.toNat_natCast, z27, i32_id (x := s) (by omega) (by omega), tmod_pos m5.1]
    refine wq_g (by omega) ?_
    unfold f_TownR_streetTold_J183
    have hY7 : M7 33 3 = (S.C.length : Int) ∧ (∀ k : Nat, k < S.C.length → M7 34 k = trC (S.C.getD k 0)) ∧ M7 33 4 = us S.C ∧ M7 38 2 = 0 := by
      obtain ⟨-, y2, y3, y4, y5⟩ := hY
      have fA : Fr [(21, 1), (22, 12 + n), (23, n), (24, n), (25, n), (26, n), (27, n), (1, 2), (1, 3), (1, 4), (1, 5), (1, 6)] M M7 := by
        have a2 : Fr ((21, 1) :: (22, 12 * 1 + S.c 1) :: scL) M M1 := a2
        rw [← hn] at a2
        exact (Fr.mono a2 (by simp [scL])).tr ((Fr.mono c2' (by simp [scL])).tr ((Fr.mono c4' (by simp [scL])).tr ((Fr.mono c6' (by simp [scL])).tr ((Fr.mono c8' (by simp [scL])).tr ((Fr.mono ca' (by simp [scL])).tr (Fr.mono n2 (by simp [scL])))))))
      exact ⟨by rw [fA.row 33 rfl]; exact y2, by rw [fA.row 34 rfl]; exact y3, by rw [fA.row 33 rfl]; exact y4, by rw [fA.row 38 rfl]; exact y5⟩
    obtain ⟨y2, y3, y4, y5⟩ := hY7
    rw [e_set (n := 12) M7 rfl (by decide) (by omega) (by omega), bV_s, Int.toNat_natCast, up_row (show ¬ (33 : Nat) = 27 by decide), y2, e_set (n := 12) _ rfl (by decide) (by omega) (by omega), bV_s, Int.toNat_natCast]
    obtain ⟨X, hX⟩ : ∃ X, X = up (up M7 27 n (s % d)) 28 n (S.C.length : Int) := ⟨_, rfl⟩
    rw [← hX]
    have FX : Fr [(27, n), (28, n)] M7 X := by rw [hX]; exact (Fr.rf.up (by simp)).up (by simp)
    have x27 : X 27 n = s % d := by rw [hX, up_row (show ¬ (27 : Nat) = 28 by decide), up_eq]
    have x28 : X 28 n = (S.C.length : Int) := by rw [hX, up_eq]
    clear hX
    have hYX : Yt T e p7 p7 S.C X := ⟨o3.fr FX rfl, by rw [FX.row 33 rfl]; exact y2, by rw [FX.row 34 rfl]; exact y3, by rw [FX.row 33 rfl]; exact y4, by rw [FX.row 38 rfl]; exact y5⟩
    obtain ⟨su1, su2⟩ := su_ok (C := S.C) hB hq7.1 hq7.2 (by omega)
    have fX : Fr (lB n) M X := f7.tr (Fr.mono FX (by simp [lB]))
    unfold f_Reader_readSum
    refine wq_I (P := fun q => ((q.1 = 0 ∧ Zb T e (suR T e S.C p7) q.2) ∨ (q.1 = 1 ∧ ∃ p' g' C', suR T e S.C p7 = .inr (sk T e p', g', C') ∧ Yt T e p' g' C' q.2 ∧ nxA (bte T e (sk T e p')))) ∧ Fr ytA X q.2) (wq_I (yt_top hB (by decide) (by decide) hYX su1 (by omega)) (fun r8 M8 ⟨w1, w2⟩ => ?_)) (fun r8 M8 ⟨w1, w2⟩ => ?_)
    · refine wq_g ?_ (wq_some ⟨w1, w2⟩)
      rcases w1 with ⟨w3, -⟩ | ⟨w3, -⟩
      · have w3 : r8 = 0 := w3
        rw [w3]; decide
      · have w3 : r8 = 1 := w3
        rw [w3]; decide
    have w2 : Fr ytA X M8 := w2
    rw [e_set (n := 12) M8 rfl (by decide) (by omega) (by omega), bV_s, Int.toNat_natCast]
    obtain ⟨Y, hY'⟩ : ∃ Y, Y = up M8 29 n (M8 33 3) := ⟨_, rfl⟩
    rw [← hY']
    have FY : Fr [(29, n)] M8 Y := by rw [hY']; exact Fr.rf.up (by simp)
    have y29 : Y 29 n = M8 33 3 := by rw [hY', up_eq]
    clear hY'
    have f8 : Fr (lB n) M M8 := fX.tr (Fr.mono w2 (by simp [lB, ytA]))
    have fY : Fr (lB n) M Y := f8.tr (Fr.mono FY (by simp [lB]))
    rcases w1 with ⟨w3, k, pl, w4, w5⟩ | ⟨w3, p', g', C', w4, w5, w6⟩
    · have w3 : r8 = 0 := w3
      have w5 : Fb T e k pl M8 := w5
      rw [w3, w4]
      exact wq_g (by decide) (wq_some ⟨⟨rfl, w5.fr' FY rfl⟩, lB_T fY⟩)
    · have w3 : r8 = 1 := w3
      have w5 : Yt T e p' g' C' M8 := w5
      rw [w4] at su2
      rcases su2 with ⟨_, _, su3, -⟩ | ⟨p2', g2', D, su3, su4, su5, su6, su7, su8⟩
      · cases su3
      injection su3 with su3
      injection su3 with su9 su3
      injection su3 with su10 su11
      rw [w3, w4]
      dsimp only [rb]
      refine wq_g (by decide) (wq_some ⟨⟨rfl, ⟨p', ?_, ?_⟩, ?_, ?_, ?_, ?_, ?_⟩, lB_T fY⟩)
      · show sk T e p' = sk T e (sk T e p')
        rw [sk_sk T w5.1.2.2.2.2.2.1.1]
      · show Yt T e p' g' C' Y
        obtain ⟨v1, v2, v3, v4, v5⟩ := w5
        exact ⟨v1.fr FY rfl, by rw [FY.row 33 rfl]; exact v2, by rw [FY.row 34 rfl]; exact v3, by rw [FY.row 33 rfl]; exact v4, by rw [FY.row 38 rfl]; exact v5⟩
      · show Dn (addS S l _ C') Y
        have fW : Fr [(23, n), (24, n), (25, n), (26, n), (27, n), (28, n), (29, n), (1, 2), (1, 3), (1, 4), (1, 5), (1, 6), (33, 3), (33, 4), (34, 99999)] M1 Y := (Fr.mono c2' (by simp [scL])).tr ((Fr.mono c4' (by simp [scL])).tr ((Fr.mono c6' (by simp [scL])).tr ((Fr.mono c8' (by simp [scL])).tr ((Fr.mono ca' (by simp [scL])).tr ((Fr.mono n2 (by simp [scL])).tr ((Fr.mono FX (by simp)).tr ((Fr.mono w2 (by simp [ytA])).tr (Fr.mono FY (by simp)))))))))
        refine dn_addS (by omega) hS hD (by rw [← hn]; exact fY) ?_ ?_
        · rw [fW.row 21 rfl, b7, hn]
        · rw [fW.row 22 rfl, ← hn, b8]
      · show Dr (addS S l (v7 x y t d (s % d) S.C.length C'.length) C') Y
        refine dr_addS hS hR (by rw [← hn]; exact fY) (fun j hj => ?_)
        rw [← hn]
        have q23 : Y 23 n = x := by rw [FY.row 23 rfl, w2.row 23 rfl, FX.row 23 rfl, n2.row 23 rfl, ca'.row 23 rfl, c8'.row 23 rfl, c6'.row 23 rfl]; exact x3
        have q24 : Y 24 n = y := by rw [FY.row 24 rfl, w2.row 24 rfl, FX.row 24 rfl, n2.row 24 rfl, ca'.row 24 rfl, c8'.row 24 rfl, c6'.row 24 rfl]; exact g4
        have q25 : Y 25 n = t := by rw [FY.row 25 rfl, w2.row 25 rfl, FX.row 25 rfl, n2.row 25 rfl, ca'.row 25 rfl, c8'.row 25 rfl]; exact j4
        have q26 : Y 26 n = d := by rw [FY.row 26 rfl, w2.row 26 rfl, FX.row 26 rfl]; exact z26
        have q27 : Y 27 n = s % d := by rw [FY.row 27 rfl, w2.row 27 rfl]; exact x27
        have q28 : Y 28 n = (S.C.length : Int) := by rw [FY.row 28 rfl, w2.row 28 rfl]; exact x28
        have q29 : Y 29 n = (C'.length : Int) := by rw [y29]; exact w5.2.1
        have hj' : j = 0 ∨ j = 1 ∨ j = 2 ∨ j = 3 ∨ j = 4 ∨ j = 5 ∨ j = 6 := by omega
        rcases hj' with z | z | z | z | z | z | z <;> subst z
        · exact q23
        · exact q24
        · exact q25
        · exact q26
        · exact q27
        · exact q28
        · exact q29
      · show Ws (addS S l (v7 x y t d (s % d) S.C.length C'.length) C')
        rw [su11]
        exact ws_addS hS b4 (by omega) d5 g5 j5 k5 m5.1 su8
      · show C'.length ≤ (sk T e p').toNat
        rw [su11, su9]
        exact su6
      · show 0 ≤ sk T e p' ∧ sk T e p' ≤ e
        rw [su9]
        exact ⟨by omega, su4.2⟩
  · have o1 : r7 = 0 := o1
    have o3 : Sc T e (sk T e p6) p6 M7 := o3
    rw [o1, if_neg (fun z => o2 (hwq_iff.mp z))]
    refine wq_e (by decide) (wq_I (s_unex hB o3) (fun r9 M9 ⟨u1, u2, u3⟩ => ?_))
    have u1 : r9 = 0 := u1
    have u2 : Fb T e 1 (sk T e (sk T e p6)) M9 := u2
    rw [sk_sk T hp6.1] at u2
    rw [u1]
    exact wq_g (by decide) (wq_some ⟨⟨rfl, u2⟩, lB_T (f7.tr (Fr.mono u3 (by simp [lB, scL])))⟩)
end Cst
