def lW (n : Nat) : List (Nat × Nat) := [(21, 2), (22, 24 + n), (30, n), (31, n), (32, n), (1, 2), (1, 3), (1, 4), (1, 5), (1, 6)]
theorem lW_T {n : Nat} {M M' : Mm} (h : Fr (lW n) M M') : Fr lTc M M' := by
  intro i k hk
  refine h i k fun p hp hq => ?_
  simp only [lW, List.mem_cons, List.not_mem_nil, or_false] at hp
  have kk := fun (a b : Nat) (hab : (a, b) ∈ lTc) => hk (a, b) hab
  rcases hp with z | z | z | z | z | z | z | z | z | z <;> subst z
  · exact kk 21 99999 (by simp [lTc]) ⟨hq.1, Or.inr rfl⟩
  · exact kk 22 99999 (by simp [lTc]) ⟨hq.1, Or.inr rfl⟩
  · exact kk 30 99999 (by simp [lTc]) ⟨hq.1, Or.inr rfl⟩
  · exact kk 31 99999 (by simp [lTc]) ⟨hq.1, Or.inr rfl⟩
  · exact kk 32 99999 (by simp [lTc]) ⟨hq.1, Or.inr rfl⟩
  all_goals exact kk _ _ (by simp [lTc]) hq
section Cwk
variable {T : Nat → Int} {e p g : Int} {S : Tn} {M : Mm}
theorem lW_21 {n : Nat} {M M' : Mm} (h : Fr (lW n) M M') {k : Nat} (hk : k ≠ 2) : M' 21 k = M 21 k := h.off (by
  intro p hp hq
  simp only [lW, List.mem_cons, List.not_mem_nil, or_false] at hp
  rcases hp with z | z | z | z | z | z | z | z | z | z <;> subst z <;> simp at hq ⊢ <;> omega)
theorem lW_22 {n : Nat} {M M' : Mm} (h : Fr (lW n) M M') {k : Nat} (hn : n < 100) (hk : k ≠ 24 + n) : M' 22 k = M 22 k := h.off (by
  intro p hp hq
  simp only [lW, List.mem_cons, List.not_mem_nil, or_false] at hp
  rcases hp with z | z | z | z | z | z | z | z | z | z <;> subst z <;> simp at hq ⊢ <;> omega)
theorem lW_30 {n : Nat} {M M' : Mm} (h : Fr (lW n) M M') {j k : Nat} (hn : n < 100) (hj : j < 3) (hk : k ≠ n) : M' (30 + j) k = M (30 + j) k := h.off (by
  intro p hp hq
  simp only [lW, List.mem_cons, List.not_mem_nil, or_false] at hp
  rcases hp with z | z | z | z | z | z | z | z | z | z <;> subst z <;> simp at hq ⊢ <;> omega)
theorem c_walker (hB : Bt T e) (hY : Yt T e p g S.C M) (hp : sk T e p = p) (hw : hw T e wWalker p g) (hS : Ws S) (hD : Dn S M) (hR : Dr S M) (hl : S.C.length ≤ p.toNat) : wq (f_TownR_walkerTold M) (fun q => Oc T e (waRes T e S p (p + 6)) (Cs T e) q ∧ Fr lTc M q.2) := by
  have hh := hB.1
  have h := hY.1
  have hp0 := h.2.2.2.2.2.1
  obtain ⟨c0, c1, c2⟩ := hS.1.1
  obtain ⟨n, hn⟩ : ∃ n, n = S.c 2 := ⟨_, rfl⟩
  unfold f_TownR_walkerTold waRes
  refine wq_I (c_newName (kd := 2) (cap := 6) hB h hp cw_17 hw (by decide) (by decide) hS.1 hD hD.2.2) (fun r M1 ⟨a1, a2⟩ => ?_)
  have f1 : Fr (lW n) M M1 := by
    have a2 : Fr ((21, 2) :: (22, 12 * 2 + S.c 2) :: scL) M M1 := a2
    rw [← hn] at a2
    exact a2.mono (by simp [lW, scL])
  rcases a1 with ⟨f, b1, b2, b3⟩ | ⟨⟨l, p1⟩, b1, b2, b3, b4, b5, b6, b7, b8⟩
  · have b2 : r = -1 := b2
    have b1 : nnR T e S 2 6 p (p + 6) = .inl f := b1
    rw [b1, b2]
    exact wq_t rfl (wq_some ⟨⟨rfl, b3⟩, lW_T f1⟩)
  have b1 : nnR T e S 2 6 p (p + 6) = .inr (l, p1) := b1
  have b2 : r = (S.c 2 : Int) := b2
  have b3 : Sc T e p1 p1 M1 := b3
  have b4 : ltrs l := b4
  have b6 : p + 6 < p1 := b6
  have b7 : M1 21 2 = (S.c 2 : Int) + 1 := b7
  have b8 : M1 22 (24 + S.c 2) = pk5 l := b8
  rw [← hn] at b2 b5 b7 b8
  rw [b1, b2, i32_id (x := (n : Int)) (by omega) (by omega), i32_id (x := (-1)) (by decide) (by decide)]
  dsimp only [rb]
  refine wq_e (by omega) ?_
  have hDk : ∀ N, Fr (lW n) M N → Dk S 0 N := fun N z => ⟨by rw [lW_21 z (by decide)]; exact hD.1.1, fun w hw' => by rw [lW_22 z (by omega) (by omega)]; exact hD.1.2 w hw'⟩
  refine wq_I (c_number (sl := 6) hB b3 cw_18 rfl (by decide) (by omega) rfl (by decide) (by decide)) (fun r2 M2 ⟨c1', c2'⟩ => ?_)
  have f2 : Fr (lW n) M M2 := f1.tr (Fr.mono c2' (by simp [lW, scL]))
  rcases Oc_cs c1' with ⟨f, d1, d2, d3⟩ | ⟨⟨p2, b⟩, d1, d2, d3, d4, d5, d6⟩
  · rw [d1, d2]
    exact wq_t rfl (wq_some ⟨⟨rfl, d3⟩, lW_T f2⟩)
  have d3 : Sc T e p2 p2 M2 := d3
  have d4 : M2 30 n = b := d4
  have d5 : 1 ≤ b ∧ b ≤ 99 := d5
  have d6 : p1 < p2 := d6
  rw [d1, d2]
  dsimp only [rb]
  refine wq_e (by decide) ?_
  refine wq_I (c_place (sl := 6) hB d3 cw_19 hS.1 (hDk M2 f2) rfl (by decide) (by omega) rfl (by decide)) (fun r3 M3 ⟨c3', c4'⟩ => ?_)
  have c4' : Fr ((31, n) :: scL) M2 M3 := c4'
  have f3 : Fr (lW n) M M3 := f2.tr (Fr.mono c4' (by simp [lW, scL]))
  rcases Oc_cs c3' with ⟨f, g1, g2, g3⟩ | ⟨⟨x, p3⟩, g1, g2, g3, g4, g5, g6⟩
  · rw [g1, g2]
    exact wq_t rfl (wq_some ⟨⟨rfl, g3⟩, lW_T f3⟩)
  have g3 : Sc T e p3 p3 M3 := g3
  have g4 : M3 31 n = x := g4
  have g5 : 0 ≤ x ∧ x < (S.c 0 : Int) ∧ x ≠ -1 := g5
  have g6 : p2 < p3 := g6
  rw [g1, g2]
  dsimp only [rb]
  refine wq_e (by decide) ?_
  rw [e_cell_in (n := 6) M3 rfl (by decide) (by omega) (by omega), bI_s, Int.toNat_natCast, g4]
  refine wq_I (c_place (sl := 6) hB g3 cw_4 hS.1 (hDk M3 f3) rfl (by decide) (by omega) rfl (by omega)) (fun r4 M4 ⟨c5', c6'⟩ => ?_)
  have c6' : Fr ((32, n) :: scL) M3 M4 := c6'
  have f4 : Fr (lW n) M M4 := f3.tr (Fr.mono c6' (by simp [lW, scL]))
  rcases Oc_cs c5' with ⟨f, j1, j2, j3⟩ | ⟨⟨y, p4⟩, j1, j2, j3, j4, j5, j6⟩
  · rw [j1, j2]
    exact wq_t rfl (wq_some ⟨⟨rfl, j3⟩, lW_T f4⟩)
  have j3 : Sc T e p4 p4 M4 := j3
  have j4 : M4 32 n = y := j4
  have j5 : 0 ≤ y ∧ y < (S.c 0 : Int) ∧ y ≠ x := j5
  have j6 : p3 < p4 := j6
  rw [j1, j2]
  dsimp only [rb]
  have hp4 := j3.2.2.2.2.2.1
  obtain ⟨-, y2, y3, y4, y5⟩ := hY
  have fW : Fr [(30, n), (31, n), (32, n), (1, 2), (1, 3), (1, 4), (1, 5), (1, 6)] M1 M4 := (Fr.mono c2' (by simp [scL])).tr ((Fr.mono c4' (by simp [scL])).tr (Fr.mono c6' (by simp [scL])))
  obtain ⟨⟨a1, a2⟩, ⟨e1, e2⟩, ⟨k1, k2⟩⟩ := hD
  obtain ⟨m1, m2, m3⟩ := hR
  refine wq_e (by decide) (wq_some ⟨⟨rfl, ⟨p4, rfl, ?_⟩, ⟨⟨?_, fun w hw' => ?_⟩, ⟨?_, fun w hw' => ?_⟩, ⟨?_, fun w hw' => ?_⟩⟩, ⟨fun j s hj hs => ?_, fun j w hj hw' => ?_, ?_⟩, ?_, ?_, ?_⟩, lW_T f4⟩)
  · show Yt T e p4 p4 S.C M4
    exact ⟨j3, by rw [f4.row 33 rfl]; exact y2, by rw [f4.row 34 rfl]; exact y3, by rw [f4.row 33 rfl]; exact y4, by rw [f4.row 38 rfl]; exact y5⟩
  · show M4 21 0 = (S.c 0 : Int)
    rw [lW_21 f4 (by decide)]; exact a1
  · have hw' : w < S.c 0 := hw'
    show M4 22 (12 * 0 + w) = pk5 (if 12 * 0 + w = 24 + S.c 2 then l else S.nm (12 * 0 + w))
    rw [lW_22 f4 (by omega) (by omega), if_neg (by omega)]
    exact a2 w hw'
  · show M4 21 1 = (S.c 1 : Int)
    rw [lW_21 f4 (by decide)]; exact e1
  · have hw' : w < S.c 1 := hw'
    show M4 22 (12 * 1 + w) = pk5 (if 12 * 1 + w = 24 + S.c 2 then l else S.nm (12 * 1 + w))
    rw [lW_22 f4 (by omega) (by omega), if_neg (by omega)]
    exact e2 w hw'
  · show M4 21 2 = ((S.c 2 + 1 : Nat) : Int)
    rw [fW.row 21 rfl, b7, hn]
    push_cast
    rfl
  · have hw' : w < S.c 2 + 1 := hw'
    show M4 22 (12 * 2 + w) = pk5 (if 12 * 2 + w = 24 + S.c 2 then l else S.nm (12 * 2 + w))
    by_cases gg : w = S.c 2
    · rw [if_pos (by omega), fW.row 22 rfl, gg, ← hn]
      exact b8
    · rw [lW_22 f4 (by omega) (by omega), if_neg (by omega)]
      exact k2 w (by omega)
  · show M4 (23 + j) s = S.r j s
    have : M4 (23 + j) = M (23 + j) := f4.rw' (23 + j) (fun q hq => by
      simp only [lW, List.mem_cons, List.not_mem_nil, or_false] at hq
      rcases hq with z | z | z | z | z | z | z | z | z | z <;> subst z <;> simp <;> omega)
    rw [this]
    exact m1 j s hj hs
  · have hw' : w < S.c 2 + 1 := hw'
    show M4 (30 + j) w = if w = S.c 2 then v7 b x y 0 0 0 0 j else S.w j w
    by_cases gg : w = S.c 2
    · rw [if_pos gg, gg, ← hn]
      have q30 : M4 30 n = b := by rw [c6'.row 30 rfl, Fr.row (c4' : Fr ((31, n) :: scL) M2 M3) 30 rfl]; exact d4
      have q31 : M4 31 n = x := by rw [c6'.row 31 rfl]; exact g4
      have hj' : j = 0 ∨ j = 1 ∨ j = 2 := by omega
      rcases hj' with z | z | z <;> subst z
      · exact q30
      · exact q31
      · exact j4
    · rw [if_neg gg, lW_30 f4 (by omega) hj (by omega)]
      exact m2 j w hj (by omega)
  · show M4 20 13 = S.bg
    rw [f4.row 20 rfl]; exact m3
  · show Ws (addW S l (v7 b x y 0 0 0 0))
    obtain ⟨⟨-, w2⟩, w3, w4, w5⟩ := hS
    refine ⟨⟨⟨c0, c1, ?_⟩, fun k w hk hw' => ?_⟩, w3, fun w hw' => ?_, w5⟩
    · show S.c 2 + 1 ≤ 6
      omega
    · have hw' : w < (if k = 2 then S.c 2 + 1 else S.c k) := hw'
      show ltrs (if 12 * k + w = 24 + S.c 2 then l else S.nm (12 * k + w))
      by_cases gg : 12 * k + w = 24 + S.c 2
      · rw [if_pos gg]; exact b4
      · rw [if_neg gg]
        refine w2 k w hk ?_
        by_cases g2 : k = 2
        · rw [if_pos g2] at hw'
          subst g2
          omega
        · rw [if_neg g2] at hw'
          exact hw'
    · have hw' : w < S.c 2 + 1 := hw'
      unfold WsW
      show (1 ≤ (if w = S.c 2 then b else S.w 0 w) ∧ (if w = S.c 2 then b else S.w 0 w) ≤ 99) ∧ (0 ≤ (if w = S.c 2 then x else S.w 1 w) ∧ (if w = S.c 2 then x else S.w 1 w) < (S.c 0 : Int)) ∧ (0 ≤ (if w = S.c 2 then y else S.w 2 w) ∧ (if w = S.c 2 then y else S.w 2 w) < (S.c 0 : Int)) ∧ (if w = S.c 2 then x else S.w 1 w) ≠ (if w = S.c 2 then y else S.w 2 w)
      by_cases gg : w = S.c 2
      · simp only [if_pos gg]
        exact ⟨d5, ⟨g5.1, g5.2.1⟩, ⟨j5.1, j5.2.1⟩, fun z => j5.2.2 z.symm⟩
      · simp only [if_neg gg]
        exact w4 w (by omega)
  · show S.C.length ≤ p4.toNat
    omega
  · exact hp4
theorem c_plc (hB : Bt T e) (hY : Yt T e p g S.C M) (hp : sk T e p = p) (hw : hw T e wPlace p g) (hS : Ws S) (hD : Dn S M) (hR : Dr S M) (hl : S.C.length ≤ p.toNat) : wq (f_TownR_newName 0 0 9 M) (fun q => Oc T e (plRes T e S p (p + 5)) (Cs T e) (if q.1 = -1 then 0 else 1, q.2) ∧ (-1 ≤ q.1 ∧ q.1 ≤ 100) ∧ Fr lTc M q.2) := by
  have hh := hB.1
  have h := hY.1
  have hp0 := h.2.2.2.2.2.1
  obtain ⟨c0, c1, c2⟩ := hS.1.1
  refine wq_m (c_newName (kd := 0) (cap := 9) hB h hp cw_0 hw (by decide) (by decide) hS.1 hD hD.1) ?_
  rintro ⟨r, M1⟩ ⟨a1, a2⟩
  have a2 : Fr ((21, 0) :: (22, 12 * 0 + S.c 0) :: scL) M M1 := a2
  have fT : Fr lTc M M1 := by
    intro i k hk
    refine a2 i k fun q hq hz => ?_
    simp only [scL, List.mem_cons, List.not_mem_nil, or_false] at hq
    have kk := fun (a b : Nat) (hab : (a, b) ∈ lTc) => hk (a, b) hab
    rcases hq with z | z | z | z | z | z | z <;> subst z
    · exact kk 21 99999 (by simp [lTc]) ⟨hz.1, Or.inr rfl⟩
    · exact kk 22 99999 (by simp [lTc]) ⟨hz.1, Or.inr rfl⟩
    all_goals exact kk _ _ (by simp [lTc]) hz
  unfold plRes
  rcases a1 with ⟨f, b1, b2, b3⟩ | ⟨⟨l, p1⟩, b1, b2, b3, b4, b5, b6, b7, b8⟩
  · have b2 : r = -1 := b2
    have b1 : nnR T e S 0 9 p (p + 5) = .inl f := b1
    rw [b1]
    show Oc T e _ _ (if r = -1 then 0 else 1, M1) ∧ (-1 ≤ r ∧ r ≤ 100) ∧ _
    rw [if_pos b2]
    exact ⟨⟨rfl, b3⟩, by omega, fT⟩
  have b1 : nnR T e S 0 9 p (p + 5) = .inr (l, p1) := b1
  have b2 : r = (S.c 0 : Int) := b2
  have b3 : Sc T e p1 p1 M1 := b3
  have b4 : ltrs l := b4
  have b6 : p + 5 < p1 := b6
  have b7 : M1 21 0 = (S.c 0 : Int) + 1 := b7
  have b8 : M1 22 (12 * 0 + S.c 0) = pk5 l := b8
  rw [b1]
  show Oc T e _ _ (if r = -1 then 0 else 1, M1) ∧ (-1 ≤ r ∧ r ≤ 100) ∧ _
  rw [if_neg (show ¬ r = -1 by omega)]
  have hp1 := b3.2.2.2.2.2.1
  obtain ⟨-, y2, y3, y4, y5⟩ := hY
  obtain ⟨⟨a1', a2'⟩, ⟨e1, e2⟩, ⟨k1, k2⟩⟩ := hD
  have o21 : ∀ k : Nat, k ≠ 0 → M1 21 k = M 21 k := fun k hk => a2.off (by
    intro q hq hz
    simp only [scL, List.mem_cons, List.not_mem_nil, or_false] at hq
    rcases hq with z | z | z | z | z | z | z <;> subst z <;> simp at hz ⊢ <;> omega)
  have o22 : ∀ k : Nat, k ≠ 12 * 0 + S.c 0 → M1 22 k = M 22 k := fun k hk => a2.off (by
    intro q hq hz
    simp only [scL, List.mem_cons, List.not_mem_nil, or_false] at hq
    rcases hq with z | z | z | z | z | z | z <;> subst z <;> simp at hz ⊢ <;> omega)
  refine ⟨⟨rfl, ⟨p1, rfl, ?_⟩, ⟨⟨?_, fun w hw' => ?_⟩, ⟨?_, fun w hw' => ?_⟩, ⟨?_, fun w hw' => ?_⟩⟩, ?_, ?_, ?_, ?_⟩, by omega, fT⟩
  · show Yt T e p1 p1 S.C M1
    exact ⟨b3, by rw [a2.row 33 rfl]; exact y2, by rw [a2.row 34 rfl]; exact y3, by rw [a2.row 33 rfl]; exact y4, by rw [a2.row 38 rfl]; exact y5⟩
  · show M1 21 0 = ((S.c 0 + 1 : Nat) : Int)
    rw [b7]
    push_cast
    rfl
  · have hw' : w < S.c 0 + 1 := hw'
    show M1 22 (12 * 0 + w) = pk5 (if 12 * 0 + w = S.c 0 then l else S.nm (12 * 0 + w))
    by_cases gg : w = S.c 0
    · rw [if_pos (by omega), gg]
      exact b8
    · rw [o22 _ (by omega), if_neg (by omega)]
      exact a2' w (by omega)
  · show M1 21 1 = (S.c 1 : Int)
    rw [o21 1 (by decide)]; exact e1
  · have hw' : w < S.c 1 := hw'
    show M1 22 (12 * 1 + w) = pk5 (if 12 * 1 + w = S.c 0 then l else S.nm (12 * 1 + w))
    rw [o22 _ (by omega), if_neg (by omega)]
    exact e2 w hw'
  · show M1 21 2 = (S.c 2 : Int)
    rw [o21 2 (by decide)]; exact k1
  · have hw' : w < S.c 2 := hw'
    show M1 22 (12 * 2 + w) = pk5 (if 12 * 2 + w = S.c 0 then l else S.nm (12 * 2 + w))
    rw [o22 _ (by omega), if_neg (by omega)]
    exact k2 w hw'
  · exact hR.sc a2 rfl
  · show Ws (addP S l)
    obtain ⟨⟨-, w2⟩, w3, w4, w5⟩ := hS
    refine ⟨⟨⟨?_, c1, c2⟩, fun k w hk hw' => ?_⟩, fun s hs => ?_, fun w hw' => ?_, w5⟩
    · show S.c 0 + 1 ≤ 9
      omega
    · have hw' : w < (if k = 0 then S.c 0 + 1 else S.c k) := hw'
      show ltrs (if 12 * k + w = S.c 0 then l else S.nm (12 * k + w))
      by_cases gg : 12 * k + w = S.c 0
      · rw [if_pos gg]; exact b4
      · rw [if_neg gg]
        refine w2 k w hk ?_
        by_cases g2 : k = 0
        · rw [if_pos g2] at hw'
          subst g2
          omega
        · rw [if_neg g2] at hw'
          exact hw'
    · obtain ⟨z1, z2, z3, z4, z5, z6, z7, z8⟩ := w3 s hs
      refine ⟨⟨z1.1, ?_⟩, ⟨z2.1, ?_⟩, z3, z4, z5, z6, z7, z8⟩
      · show S.r 0 s < ((S.c 0 + 1 : Nat) : Int)
        omega
      · show S.r 1 s < ((S.c 0 + 1 : Nat) : Int)
        omega
    · obtain ⟨z1, z2, z3, z4⟩ := w4 w hw'
      refine ⟨z1, ⟨z2.1, ?_⟩, ⟨z3.1, ?_⟩, z4⟩
      · show S.w 1 w < ((S.c 0 + 1 : Nat) : Int)
        omega
      · show S.w 2 w < ((S.c 0 + 1 : Nat) : Int)
        omega
  · show S.C.length ≤ p1.toNat
    omega
  · exact hp1
theorem c_begin (hB : Bt T e) (hY : Yt T e p g S.C M) (hS : Ws S) (hD : Dn S M) (hR : Dr S M) (hl : S.C.length ≤ p.toNat) : wq (f_TownR_beginTold M) (fun q => Oc T e (beRes T e S p g) (Cs T e) q ∧ Fr lTc M q.2) := by
  have hh := hB.1
  have h := hY.1
  have hp0 := h.2.2.2.2.2.1
  have hs1 := sk_rng T hp0.1 hp0.2
  unfold f_TownR_beginTold beRes anR wdR
  refine wq_I (s_takeWord hB h cw_20) (fun r M1 ⟨a1, a2⟩ => ?_)
  have a2 : Fr scL M M1 := a2
  rcases a1 with ⟨b1, b2, b3⟩ | ⟨b1, b2, b3⟩
  · have b1 : r = 1 := b1
    have b3 : Sc T e (sk T e p + 5) (sk T e p + 5) M1 := b3
    rw [b1, if_pos (hwq_iff.mpr b2)]
    refine wq_t (by decide) ?_
    show wq _ (fun q => Oc T e (rb (numR T e 0 999 (sk T e p + 5) (sk T e p + 5)) _) _ q ∧ _)
    obtain ⟨p1, hp1⟩ : ∃ p1, p1 = sk T e p + 5 := ⟨_, rfl⟩
    rw [← hp1] at b3 ⊢
    have hq0 := b3.2.2.2.2.2.1
    have hs2 := sk_rng T hq0.1 hq0.2
    refine wq_I (s_number hB b3 (by decide) (by decide) (by decide) (by decide)) (fun r2 M2 ⟨c1, c2⟩ => ?_)
    have c2 : Fr scL M1 M2 := c2
    have f2 : Fr scL M M2 := a2.tr c2
    refine wq_d ?_
    have hF : Fr [(20, 13)] M2 (up M2 20 13 r2) := Fr.rf.up (by simp)
    have f3 : Fr lTc M (up M2 20 13 r2) := (f2.cov rfl : Fr lTc _ _).tr (hF.cov rfl)
    rw [up_eq]
    rcases c1 with ⟨p2, v, d1, d2, d3, d4, d5⟩ | ⟨k, pl, d1, d2, d3⟩
    · have d2 : r2 = v := d2
      have d5 : Sc T e p2 p2 M2 := d5
      rw [d1]
      dsimp only [rb]
      obtain ⟨-, y2, y3, y4, y5⟩ := hY
      have e33 : (up M2 20 13 r2) 33 = M 33 := by rw [hF.row 33 rfl, f2.row 33 rfl]
      have e34 : (up M2 20 13 r2) 34 = M 34 := by rw [hF.row 34 rfl, f2.row 34 rfl]
      have e38 : (up M2 20 13 r2) 38 = M 38 := by rw [hF.row 38 rfl, f2.row 38 rfl]
      refine wq_e (by rw [i32_id (x := r2) (by omega) (by omega), i32_id (x := (-1)) (by decide) (by decide)]; omega) (wq_some ⟨⟨rfl, ⟨p2, rfl, ?_⟩, ?_, ⟨fun j s hj hs => ?_, fun j w hj hw' => ?_, ?_⟩, ⟨hS.1, hS.2.1, hS.2.2.1, ?_⟩, ?_, ?_⟩, f3⟩)
      · show Yt T e p2 p2 S.C (up M2 20 13 r2)
        exact ⟨d5.fr hF rfl, by rw [e33]; exact y2, by rw [e34]; exact y3, by rw [e33]; exact y4, by rw [e38]; exact y5⟩
      · exact (hD.sc f2).eq (hF.row 21 rfl) (hF.row 22 rfl)
      · have : (up M2 20 13 r2) (23 + j) = M (23 + j) := by
          rw [hF.rw' (23 + j) (fun q hq => by simp at hq; subst hq; simp; omega), f2.rw' (23 + j) (fun q hq => by
            simp only [scL, List.mem_cons, List.not_mem_nil, or_false] at hq
            rcases hq with z | z | z | z | z <;> subst z <;> simp <;> omega)]
        show up M2 20 13 r2 (23 + j) s = S.r j s
        rw [this]
        exact hR.1 j s hj hs
      · have : (up M2 20 13 r2) (30 + j) = M (30 + j) := by
          rw [hF.rw' (30 + j) (fun q hq => by simp at hq; subst hq; simp; omega), f2.rw' (30 + j) (fun q hq => by
            simp only [scL, List.mem_cons, List.not_mem_nil, or_false] at hq
            rcases hq with z | z | z | z | z <;> subst z <;> simp <;> omega)]
        show up M2 20 13 r2 (30 + j) w = S.w j w
        rw [this]
        exact hR.2.1 j w hj hw'
      · show up M2 20 13 r2 20 13 = v
        rw [up_eq, d2]
      · exact d3
      · show S.C.length ≤ p2.toNat
        omega
      · exact d5.2.2.2.2.2.1
    · have d2 : r2 = -1 := d2
      have d3 : Fb T e k pl M2 := d3
      rw [d1]
      refine wq_t (by rw [d2]) (wq_some ⟨⟨rfl, d3.fr' hF rfl⟩, f3⟩)
  · have b1 : r = 0 := b1
    have b3 : Sc T e (sk T e p) g M1 := b3
    rw [b1, if_neg (fun z => b2 (hwq_iff.mp z))]
    refine wq_e (by decide) (wq_I (s_unex hB b3) (fun r4 M4 ⟨k1, k2, k3⟩ => ?_))
    have k1 : r4 = 0 := k1
    rw [k1]
    rw [sk_sk T hp0.1] at k2
    exact wq_g (by decide) (wq_some ⟨⟨rfl, k2⟩, (a2.tr k3).cov rfl⟩)
end Cwk
