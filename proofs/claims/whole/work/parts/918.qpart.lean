theorem s_qWord {T : Nat → Int} {e p g : Int} {M : Mm} (hB : Bt T e) (h : Sm T e p g M) (hsp : sk T e p = p) : wq (f_M_qWordHere M) (fun q => ((q.1 = 0 ∧ hw T e wHour p g) ∨ (q.1 = 1 ∧ hw T e wClock p g) ∨ (q.1 = 2 ∧ hw T e wDay p g) ∨ (q.1 = 3 ∧ hw T e wWidth p g) ∨ (q.1 = 4 ∧ hw T e wTide p g) ∨ (q.1 = 5 ∧ hw T e wPasses p g) ∨ (q.1 = -1 ∧ ¬ hw T e wHour p g ∧ ¬ hw T e wClock p g ∧ ¬ hw T e wDay p g ∧ ¬ hw T e wWidth p g ∧ ¬ hw T e wTide p g ∧ ¬ hw T e wPasses p g)) ∧ Sm T e p g q.2 ∧ Fr [(78, 2)] M q.2) := by
  unfold f_M_qWordHere
  refine wq_I (s_isHere hB h rw_136) (fun r M1 ⟨a1, a2, a3⟩ => ?_)
  rw [hsp] at a2
  rcases a1 with ⟨b1, c1⟩ | ⟨b1, c1⟩
  · have b1 : r = 1 := b1
    rw [b1]
    exact wq_e (by decide) (wq_some ⟨Or.inl ⟨rfl, c1⟩, a2, a3⟩)
  have b1 : r = 0 := b1
  rw [b1]
  refine wq_t (by decide) (wq_I (s_isHere hB a2 rw_137) (fun r M2 ⟨a4, a5, a6⟩ => ?_))
  rw [hsp] at a5
  have f2 := a3.tr a6
  rcases a4 with ⟨b2, c2⟩ | ⟨b2, c2⟩
  · have b2 : r = 1 := b2
    rw [b2]
    exact wq_e (by decide) (wq_some ⟨Or.inr (Or.inl ⟨rfl, c2⟩), a5, f2⟩)
  have b2 : r = 0 := b2
  rw [b2]
  refine wq_t (by decide) (wq_I (s_isHere hB a5 rw_138) (fun r M3 ⟨a7, a8, a9⟩ => ?_))
  rw [hsp] at a8
  have f3 := f2.tr a9
  rcases a7 with ⟨b3, c3⟩ | ⟨b3, c3⟩
  · have b3 : r = 1 := b3
    rw [b3]
    exact wq_e (by decide) (wq_some ⟨Or.inr (Or.inr (Or.inl ⟨rfl, c3⟩)), a8, f3⟩)
  have b3 : r = 0 := b3
  rw [b3]
  refine wq_t (by decide) (wq_I (s_isHere hB a8 rw_139) (fun r M4 ⟨d1, d2, d3⟩ => ?_))
  rw [hsp] at d2
  have f4 := f3.tr d3
  rcases d1 with ⟨b4, c4⟩ | ⟨b4, c4⟩
  · have b4 : r = 1 := b4
    rw [b4]
    exact wq_e (by decide) (wq_some ⟨Or.inr (Or.inr (Or.inr (Or.inl ⟨rfl, c4⟩))), d2, f4⟩)
  have b4 : r = 0 := b4
  rw [b4]
  refine wq_t (by decide) (wq_I (s_isHere hB d2 rw_140) (fun r M5 ⟨d4, d5, d6⟩ => ?_))
  rw [hsp] at d5
  have f5 := f4.tr d6
  rcases d4 with ⟨b5, c5⟩ | ⟨b5, c5⟩
  · have b5 : r = 1 := b5
    rw [b5]
    exact wq_e (by decide) (wq_some ⟨Or.inr (Or.inr (Or.inr (Or.inr (Or.inl ⟨rfl, c5⟩)))), d5, f5⟩)
  have b5 : r = 0 := b5
  rw [b5]
  refine wq_t (by decide) (wq_I (s_isHere hB d5 rw_141) (fun r M6 ⟨d7, d8, d9⟩ => ?_))
  rw [hsp] at d8
  have f6 := f5.tr d9
  rcases d7 with ⟨b6, c6⟩ | ⟨b6, c6⟩
  · have b6 : r = 1 := b6
    rw [b6]
    exact wq_e (by decide) (wq_some ⟨Or.inr (Or.inr (Or.inr (Or.inr (Or.inr (Or.inl ⟨rfl, c6⟩))))), d8, f6⟩)
  have b6 : r = 0 := b6
  rw [b6]
  exact wq_t (by decide) (wq_some ⟨Or.inr (Or.inr (Or.inr (Or.inr (Or.inr (Or.inr ⟨rfl, c1, c2, c3, c4, c5, c6⟩))))), d8, f6⟩)
theorem s_qWord03 {T : Nat → Int} {e p g : Int} {M : Mm} (hB : Bt T e) (h : Sm T e p g M) (hsp : sk T e p = p) : wq (f_M_qWordOf 0 3 M) (fun q => ((q.1 = 0 ∧ hw T e wHour p g) ∨ (q.1 = 1 ∧ hw T e wClock p g) ∨ (q.1 = 2 ∧ hw T e wDay p g) ∨ (q.1 = -1 ∧ hwq T e wHour p g = false ∧ hwq T e wClock p g = false ∧ hwq T e wDay p g = false)) ∧ Sm T e p g q.2 ∧ Fr [(78, 2)] M q.2) := by
  unfold f_M_qWordOf
  refine wq_I (s_qWord hB h hsp) (fun r M1 ⟨a1, a2, a3⟩ => ?_)
  rcases a1 with ⟨b, c⟩ | ⟨b, c⟩ | ⟨b, c⟩ | ⟨b, c⟩ | ⟨b, c⟩ | ⟨b, c⟩ | ⟨b, c⟩
  · have b : r = 0 := b
    rw [b]
    exact wq_e (by decide) (wq_e (by decide) (wq_some ⟨Or.inl ⟨rfl, c⟩, a2, a3⟩))
  · have b : r = 1 := b
    rw [b]
    exact wq_e (by decide) (wq_e (by decide) (wq_some ⟨Or.inr (Or.inl ⟨rfl, c⟩), a2, a3⟩))
  · have b : r = 2 := b
    rw [b]
    exact wq_e (by decide) (wq_e (by decide) (wq_some ⟨Or.inr (Or.inr (Or.inl ⟨rfl, c⟩)), a2, a3⟩))
  · have b : r = 3 := b
    rw [b]
    exact wq_e (by decide) (wq_t (by decide) (wq_some ⟨Or.inr (Or.inr (Or.inr ⟨rfl, hw_no c lw_Width lw_Hour (by decide), hw_no c lw_Width lw_Clock (by decide), hw_no c lw_Width lw_Day (by decide)⟩)), a2, a3⟩))
  · have b : r = 4 := b
    rw [b]
    exact wq_e (by decide) (wq_t (by decide) (wq_some ⟨Or.inr (Or.inr (Or.inr ⟨rfl, hw_no c lw_Tide lw_Hour (by decide), hw_no c lw_Tide lw_Clock (by decide), hw_no c lw_Tide lw_Day (by decide)⟩)), a2, a3⟩))
  · have b : r = 5 := b
    rw [b]
    exact wq_e (by decide) (wq_t (by decide) (wq_some ⟨Or.inr (Or.inr (Or.inr ⟨rfl, hw_no c lw_Passes lw_Hour (by decide), hw_no c lw_Passes lw_Clock (by decide), hw_no c lw_Passes lw_Day (by decide)⟩)), a2, a3⟩))
  · have b : r = -1 := b
    rw [b]
    exact wq_t (by decide) (wq_some ⟨Or.inr (Or.inr (Or.inr ⟨rfl, hwq_not c.1, hwq_not c.2.1, hwq_not c.2.2.1⟩)), a2, a3⟩)
theorem s_qWord36 {T : Nat → Int} {e p g : Int} {M : Mm} (hB : Bt T e) (h : Sm T e p g M) (hsp : sk T e p = p) : wq (f_M_qWordOf 3 6 M) (fun q => ((q.1 = 3 ∧ hw T e wWidth p g) ∨ (q.1 = 4 ∧ hw T e wTide p g) ∨ (q.1 = 5 ∧ hw T e wPasses p g) ∨ (q.1 = -1 ∧ hwq T e wWidth p g = false ∧ hwq T e wTide p g = false ∧ hwq T e wPasses p g = false)) ∧ Sm T e p g q.2 ∧ Fr [(78, 2)] M q.2) := by
  unfold f_M_qWordOf
  refine wq_I (s_qWord hB h hsp) (fun r M1 ⟨a1, a2, a3⟩ => ?_)
  rcases a1 with ⟨b, c⟩ | ⟨b, c⟩ | ⟨b, c⟩ | ⟨b, c⟩ | ⟨b, c⟩ | ⟨b, c⟩ | ⟨b, c⟩
  · have b : r = 0 := b
    rw [b]
    exact wq_t (by decide) (wq_some ⟨Or.inr (Or.inr (Or.inr ⟨rfl, hw_no c lw_Hour lw_Width (by decide), hw_no c lw_Hour lw_Tide (by decide), hw_no c lw_Hour lw_Passes (by decide)⟩)), a2, a3⟩)
  · have b : r = 1 := b
    rw [b]
    exact wq_t (by decide) (wq_some ⟨Or.inr (Or.inr (Or.inr ⟨rfl, hw_no c lw_Clock lw_Width (by decide), hw_no c lw_Clock lw_Tide (by decide), hw_no c lw_Clock lw_Passes (by decide)⟩)), a2, a3⟩)
  · have b : r = 2 := b
    rw [b]
    exact wq_t (by decide) (wq_some ⟨Or.inr (Or.inr (Or.inr ⟨rfl, hw_no c lw_Day lw_Width (by decide), hw_no c lw_Day lw_Tide (by decide), hw_no c lw_Day lw_Passes (by decide)⟩)), a2, a3⟩)
  · have b : r = 3 := b
    rw [b]
    exact wq_e (by decide) (wq_e (by decide) (wq_some ⟨Or.inl ⟨rfl, c⟩, a2, a3⟩))
  · have b : r = 4 := b
    rw [b]
    exact wq_e (by decide) (wq_e (by decide) (wq_some ⟨Or.inr (Or.inl ⟨rfl, c⟩), a2, a3⟩))
  · have b : r = 5 := b
    rw [b]
    exact wq_e (by decide) (wq_e (by decide) (wq_some ⟨Or.inr (Or.inr (Or.inl ⟨rfl, c⟩)), a2, a3⟩))
  · have b : r = -1 := b
    rw [b]
    exact wq_t (by decide) (wq_some ⟨Or.inr (Or.inr (Or.inr ⟨rfl, hwq_not c.2.2.2.1, hwq_not c.2.2.2.2.1, hwq_not c.2.2.2.2.2⟩)), a2, a3⟩)
/-- a part is asked, and none opens -/
def Nnq (U T : Nat → Int) (e o0 : Int) (W0 : List Int) (R : Out) (pm : Int) (M : Mm) : Prop := ∃ n p g o W C, dD true T e (n + 1) true p g o W C = some R ∧ Xq U T e p g o W W0 C M ∧ Iv true o0 (W0.length + 1) true p o W C ∧ pm ≤ p ∧ sk T e p = p ∧ bte T e p ≠ 40 ∧ hwq T e wMin p g = false ∧ hwq T e wMax p g = false ∧ hwq T e wWidth p g = false ∧ hwq T e wTide p g = false ∧ hwq T e wPasses p g = false
theorem xq_184 {U T : Nat → Int} {e o0 pm : Int} {W0 : List Int} {M : Mm} {R : Out} (hB : Bt T e) (h : Bdq U T e R M ∨ Nnq U T e o0 W0 R pm M) : wq (f_M_qPartTold_J184 M) (fun M' => (Bdq U T e R M' ∨ Onq U T e o0 W0 R (pm + 1) false M') ∧ Fr xqA M M') := by
  rcases h with h | ⟨n, p, g, o, W, C, h1, h, hI, hpm, hsp, h40, hmn, hmx, hwi, hti, hpa⟩
  · unfold f_M_qPartTold_J184
    have h' := h
    obtain ⟨k, pl, hR, hF, hU⟩ := h'
    have hk := hF.2.2.2.2.1
    rw [hF.2.2.1, i32_id (x := k) (by omega) (by omega)]
    exact wq_e (by omega) (wq_some ⟨Or.inl h, Fr.rf⟩)
  · have b := h.1.2.2.2.2.2.1
    have hh := hB.1
    obtain ⟨k1, k2⟩ := dD_part h1 (by rw [hsp]; exact h40) hmn hmx (fun _ => ⟨hwi, hti, hpa⟩)
    have hword : ∀ (L : List Int) (v i : Int) (M1 : Mm), 1 ≤ L.length → opd true T e p g = .inr (p + L.length, p + L.length, v) → Sm T e (p + L.length) (p + L.length) M1 → Fr smL M M1 → 0 ≤ i → i ≤ 100 → 40 + i = v → wq (f_M_qPartTold_J209 i M1) (fun M' => (Bdq U T e R M' ∨ Onq U T e o0 W0 R (pm + 1) false M') ∧ Fr xqA M M') := by
      intro L v i M1 z0 z1 z2 z3 z4 z5 z6
      have b1 := z2.2.2.2.2.2.1
      unfold f_M_qPartTold_J209
      rw [i32_id (x := i) (by omega) (by omega), i32_id (x := (-1)) (by decide) (by decide), z6]
      exact wq_e (by omega) (wq_m (xq_fin (h.sm z2 z3) hI b.1 (by omega) (by omega) (k2 _ _ _ z1) (by omega)) (fun M' ⟨y1, y2⟩ => ⟨y1, (z3.cov rfl : Fr xqA _ _).tr y2⟩))
    unfold f_M_qPartTold_J184
    rw [h.1.2.2.2.2.1]
    refine wq_t rfl (wq_I (s_qWord03 hB h.1 hsp) (fun r M1 ⟨c1, c2, c3⟩ => ?_))
    have c4 : Fr smL M M1 := c3.cov rfl
    rcases c1 with ⟨d1, d2⟩ | ⟨d1, d2⟩ | ⟨d1, d2⟩ | ⟨d1, d2, d3, d4⟩
    · have d1 : r = 0 := d1
      rw [d1]
      refine wq_e (by decide) ?_
      unfold f_M_qAsksWord
      refine wq_V (P := fun M' => ((hw T e wHour p g ∧ Sm T e (sk T e p + wHour.length) (sk T e p + wHour.length) M') ∨ (¬ hw T e wHour p g ∧ Fm T e 1 (sk T e p) M')) ∧ Fr smL M1 M') (wq_t (by decide) (wq_V (s_asks hB c2 rw_136) (fun M2 z => wq_some z))) (fun M2 ⟨e1, e2⟩ => ?_)
      rw [hsp] at e1
      rcases e1 with ⟨-, y2⟩ | ⟨y1, -⟩
      · exact hword wHour 40 0 M2 (by decide) (by unfold opd; rw [hsp, hwq_iff.mpr d2]; rfl) y2 (c4.tr e2) (by decide) (by decide) (by decide)
      · exact absurd d2 y1
    · have d1 : r = 1 := d1
      rw [d1]
      refine wq_e (by decide) ?_
      unfold f_M_qAsksWord
      refine wq_V (P := fun M' => ((hw T e wClock p g ∧ Sm T e (sk T e p + wClock.length) (sk T e p + wClock.length) M') ∨ (¬ hw T e wClock p g ∧ Fm T e 1 (sk T e p) M')) ∧ Fr smL M1 M') (wq_e (by decide) (wq_t (by decide) (wq_V (s_asks hB c2 rw_137) (fun M2 z => wq_some z)))) (fun M2 ⟨e1, e2⟩ => ?_)
      rw [hsp] at e1
      rcases e1 with ⟨-, y2⟩ | ⟨y1, -⟩
      · exact hword wClock 41 1 M2 (by decide) (by unfold opd; rw [hsp, hw_no d2 lw_Clock lw_Hour (by decide), hwq_iff.mpr d2]; rfl) y2 (c4.tr e2) (by decide) (by decide) (by decide)
      · exact absurd d2 y1
    · have d1 : r = 2 := d1
      rw [d1]
      refine wq_e (by decide) ?_
      unfold f_M_qAsksWord
      refine wq_V (P := fun M' => ((hw T e wDay p g ∧ Sm T e (sk T e p + wDay.length) (sk T e p + wDay.length) M') ∨ (¬ hw T e wDay p g ∧ Fm T e 1 (sk T e p) M')) ∧ Fr smL M1 M') (wq_e (by decide) (wq_e (by decide) (wq_t (by decide) (wq_V (s_asks hB c2 rw_138) (fun M2 z => wq_some z))))) (fun M2 ⟨e1, e2⟩ => ?_)
      rw [hsp] at e1
      rcases e1 with ⟨-, y2⟩ | ⟨y1, -⟩
      · exact hword wDay 42 2 M2 (by decide) (by unfold opd; rw [hsp, hw_no d2 lw_Day lw_Hour (by decide), hw_no d2 lw_Day lw_Clock (by decide), hwq_iff.mpr d2]; rfl) y2 (c4.tr e2) (by decide) (by decide) (by decide)
      · exact absurd d2 y1
    · have d1 : r = -1 := d1
      rw [d1]
      refine wq_t (by decide) ?_
      obtain ⟨n1, n2⟩ := opd_num (a := true) (T := T) (e := e) (p := p) (g := g) (fun y => by cases y) (fun _ => d2) d3 d4
      unfold f_M_qPartTold_J209
      refine wq_t (by decide) (wq_m (xq_num hB (h.sm c2 c4) hI (fun f hf => k1 _ (n1 f hf)) (fun p' v hf => k2 _ _ _ (n2 p' v hf))) (fun M' ⟨z1, z2⟩ => ⟨z1.imp_right (fun y => y.mono (by omega)), (c4.cov rfl : Fr xqA _ _).tr z2⟩))
