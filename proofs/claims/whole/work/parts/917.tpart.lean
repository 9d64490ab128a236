/-- a part is asked, and none opens -/
def Nnt (U T : Nat → Int) (e o0 : Int) (W0 : List Int) (R : Out) (pm : Int) (M : Mm) : Prop := ∃ n p g o W C, dD false T e (n + 1) true p g o W C = some R ∧ Xt U T e p g o W W0 C M ∧ Iv false o0 (W0.length + 1) true p o W C ∧ pm ≤ p ∧ sk T e p = p ∧ bte T e p ≠ 40 ∧ hwq T e wMin p g = false ∧ hwq T e wMax p g = false
theorem xt_146 {U T : Nat → Int} {e o0 pm : Int} {W0 : List Int} {M : Mm} {R : Out} (hB : Bt T e) (h : Bdt U T e R M ∨ Nnt U T e o0 W0 R pm M) : wq (f_M_onePart_J146 M) (fun M' => (Bdt U T e R M' ∨ Ont U T e o0 W0 R (pm + 1) false M') ∧ Fr xtA M M') := by
  rcases h with h | ⟨n, p, g, o, W, C, h1, h, hI, hpm, hsp, h40, hmn, hmx⟩
  · unfold f_M_onePart_J146
    have h' := h
    obtain ⟨k, pl, hR, hF, hU⟩ := h'
    have hk := hF.2.2.2.2.1
    rw [hF.2.2.1, i32_id (x := k) (by omega) (by omega)]
    exact wq_e (by omega) (wq_some ⟨Or.inl h, Fr.rf⟩)
  · have b := h.1.2.2.2.2.2.1
    have hh := hB.1
    obtain ⟨k1, k2⟩ := dD_part h1 (by rw [hsp]; exact h40) hmn hmx (fun y => by cases y)
    have hword : ∀ (L : List Int) (v : Int) (M1 : Mm), 1 ≤ L.length → opd false T e p g = .inr (p + L.length, p + L.length, v) → Sm T e (p + L.length) (p + L.length) M1 → Fr smL M M1 → 0 ≤ v → v ≤ 100 → wq (f_M_onePart_J219 v M1) (fun M' => (Bdt U T e R M' ∨ Ont U T e o0 W0 R (pm + 1) false M') ∧ Fr xtA M M') := by
      intro L v M1 z0 z1 z2 z3 z4 z5
      have b1 := z2.2.2.2.2.2.1
      unfold f_M_onePart_J219
      rw [i32_id (x := v) (by omega) (by omega), i32_id (x := (-1)) (by decide) (by decide)]
      exact wq_e (by omega) (wq_m (xt_fin (h.sm z2 z3) hI b.1 (by omega) (by omega) (k2 _ _ _ z1) (by omega)) (fun M' ⟨y1, y2⟩ => ⟨y1, (z3.cov rfl : Fr xtA _ _).tr y2⟩))
    unfold f_M_onePart_J146
    rw [h.1.2.2.2.2.1]
    refine wq_t rfl (wq_I (s_takes hB h.1 rw_93) (fun r M1 ⟨c1, c2⟩ => ?_))
    rw [hsp] at c1
    rcases c1 with ⟨d1, d2, d3⟩ | ⟨d1, d2, d3⟩
    · have d1 : r = 1 := d1
      rw [d1]
      exact wq_e (by decide) (hword wTide 7 M1 (by decide) (by unfold opd; rw [hsp, hwq_iff.mpr d2]; rfl) d3 c2 (by decide) (by decide))
    have d1 : r = 0 := d1
    rw [d1]
    refine wq_t (by decide) (wq_I (s_takes hB d3 rw_86) (fun r M2 ⟨c3, c4⟩ => ?_))
    rw [hsp] at c3
    have f2 := c2.tr c4
    rcases c3 with ⟨d4, d5, d6⟩ | ⟨d4, d5, d6⟩
    · have d4 : r = 1 := d4
      rw [d4]
      exact wq_e (by decide) (hword wRound 8 M2 (by decide) (by unfold opd; rw [hsp, hwq_not d2, hwq_iff.mpr d5]; rfl) d6 f2 (by decide) (by decide))
    have d4 : r = 0 := d4
    rw [d4]
    refine wq_t (by decide) (wq_I (s_takes hB d6 rw_94) (fun r M3 ⟨c5, c6⟩ => ?_))
    rw [hsp] at c5
    have f3 := f2.tr c6
    rcases c5 with ⟨d7, d8, d9⟩ | ⟨d7, d8, d9⟩
    · have d7 : r = 1 := d7
      rw [d7]
      exact wq_e (by decide) (hword wClock 9 M3 (by decide) (by unfold opd; rw [hsp, hwq_not d2, hwq_not d5, hwq_iff.mpr d8]; rfl) d9 f3 (by decide) (by decide))
    have d7 : r = 0 := d7
    rw [d7]
    refine wq_t (by decide) (wq_I (s_takes hB d9 rw_95) (fun r M4 ⟨c7, c8⟩ => ?_))
    rw [hsp] at c7
    have f4 := f3.tr c8
    rcases c7 with ⟨g1, g2, g3⟩ | ⟨g1, g2, g3⟩
    · have g1 : r = 1 := g1
      rw [g1]
      exact wq_e (by decide) (hword wDay 10 M4 (by decide) (by unfold opd; rw [hsp, hwq_not d2, hwq_not d5, hwq_not d8, hwq_iff.mpr g2]; rfl) g3 f4 (by decide) (by decide))
    have g1 : r = 0 := g1
    rw [g1]
    refine wq_t (by decide) ?_
    obtain ⟨n1, n2⟩ := opd_num (a := false) (T := T) (e := e) (p := p) (g := g) (fun _ => ⟨hwq_not d2, hwq_not d5⟩) (fun y => by cases y) (hwq_not d8) (hwq_not g2)
    unfold f_M_onePart_J219
    refine wq_t (by decide) (wq_m (xt_num hB (h.sm g3 f4) hI (fun f hf => k1 _ (n1 f hf)) (fun p' v hf => k2 _ _ _ (n2 p' v hf))) (fun M' ⟨z1, z2⟩ => ⟨z1.imp_right (fun y => y.mono (by omega)), (f4.cov rfl : Fr xtA _ _).tr z2⟩))
theorem xt_part {U T : Nat → Int} {e o0 pm : Int} {W0 : List Int} {M : Mm} {R : Out} (hB : Bt T e) (ho0 : 0 ≤ o0) (h : Ont U T e o0 W0 R pm true M) : wq (f_M_onePart M) (fun M' => (Bdt U T e R M' ∨ Ont U T e o0 W0 R (pm + 1) false M') ∧ Fr xtA M M') := by
  have hh := hB.1
  unfold f_M_onePart f_M_onePart_L2
  refine wq_lp (fun z => Fr xtA M z.2 ∧ ((z.1 = 1 ∧ (Ont U T e o0 W0 R pm true z.2 ∨ Bdt U T e R z.2)) ∨ (z.1 = 0 ∧ Nnt U T e o0 W0 R pm z.2))) (fun z => (if z.2 78 5 = 0 then 2 * (2000 - z.2 78 2).toNat else 0) + z.1.toNat) ?_ FU _ ⟨Fr.rf, Or.inl ⟨rfl, Or.inl h⟩⟩ ?_
  · rintro kH ⟨v1, N⟩ ⟨q1, q2⟩ hk
    have q1 : Fr xtA M N := q1
    have fin : (Bdt U T e R N ∨ Nnt U T e o0 W0 R pm N) → wq (f_M_onePart_J146 N) (fun M' => (Bdt U T e R M' ∨ Ont U T e o0 W0 R (pm + 1) false M') ∧ Fr xtA M M') := fun z => wq_m (xt_146 hB z) (fun M' ⟨y1, y2⟩ => ⟨y1, q1.tr y2⟩)
    show wq (f_M_onePart_B2 (fun v1 M => kH (v1, M)) (fun M19 => f_M_onePart_J146 M19) v1 N) _
    unfold f_M_onePart_B2
    rcases q2 with ⟨z1, z2⟩ | ⟨z1, z2⟩
    · have z1 : v1 = 1 := z1
      subst z1
      refine wq_e (by decide) ?_
      rcases z2 with z2 | z2
      · obtain ⟨n, p, g, o, W, C, w1, w2, w3, w4⟩ := z2
        have w2 : Xt U T e p g o W W0 C N := w2
        cases n with
        | zero => cases w1
        | succ n =>
          have b := w2.1.2.2.2.2.2.1
          have hs := sk_rng T b.1 b.2
          have hss := sk_sk T (e := e) b.1
          have hbr := bte_rng hB (sk T e p)
          have hlo := w3.lo
          have hlen : C.length + W.length + W0.length ≤ 1600 := by have := w3.2.2.2.2; omega
          have d1 := w1
          rw [← dD_sk false T e (n + 1) true g o W C b.1] at d1
          have i1 := w3.mono hs.1
          have e0 : N 78 2 = p := w2.1.2.2.1
          have e5 : N 78 5 = 0 := w2.1.2.2.2.2.1
          rw [e5]
          refine wq_e (fun z => z rfl) (wq_I (s_look hB w2.1) (fun r M1 ⟨c1, c2, c3⟩ => ?_))
          have c1 : r = bte T e (sk T e p) := c1
          have h1 : Xt U T e (sk T e p) g o W W0 C M1 := w2.sm c2 (c3.cov rfl)
          have f1 : Fr xtA M M1 := q1.tr (c3.cov rfl)
          have hok : ∀ (M' : Mm), (Bdt U T e R M' ∨ Ont U T e o0 W0 R (sk T e p + 1) true M') → Fr xtA M M' → wq (kH (1, M')) (fun M' => (Bdt U T e R M' ∨ Ont U T e o0 W0 R (pm + 1) false M') ∧ Fr xtA M M') := by
            intro M' y1 y2
            refine hk _ ⟨y2, Or.inl ⟨rfl, ?_⟩⟩ ?_
            · rcases y1 with y | y
              · exact Or.inr y
              · exact Or.inl (y.mono (by omega))
            · show (if M' 78 5 = 0 then 2 * (2000 - M' 78 2).toNat else 0) + (1 : Int).toNat < (if N 78 5 = 0 then 2 * (2000 - N 78 2).toNat else 0) + (1 : Int).toNat
              rw [e5, e0, if_pos rfl]
              rcases y1 with ⟨k, pl, y, y3, -⟩ | ⟨n', p', g', o', W', C', -, y, -, y3⟩
              · have y4 := y3.2.2.1
                have y5 := y3.2.2.2.2.1
                rw [y4, if_neg (by omega)]
                omega
              · rw [y.1.2.2.2.2.1, y.1.2.2.1, if_pos rfl]
                have := y.1.2.2.2.2.2.1
                omega
          obtain ⟨P, hP⟩ : ∃ P, P = sk T e p := ⟨_, rfl⟩
          rw [← hP] at d1 i1 hs hss hbr c1 h1 hok
          clear w1 w2 w3 c2 c3
          rw [c1, i32_id (x := bte T e P) (by omega) (by omega), i32_id (x := 40) (by decide) (by decide)]
          refine wq_if (fun c => ?_) (fun c => ?_)
          · refine wq_I (s_isHere hB h1.1 rw_96) (fun r M2 ⟨c4, c5, c6⟩ => ?_)
            rw [hss] at c5
            have h2 : Xt U T e P g o W W0 C M2 := h1.sm c5 (c6.cov rfl)
            have f2 : Fr xtA M M2 := f1.tr (c6.cov rfl)
            rcases c4 with ⟨d4, d5⟩ | ⟨d4, d5⟩
            · have d4 : r = 1 := d4
              rw [d4]
              exact wq_t (by decide) (xt_pair hB h2 i1 ho0 hss d1 c (Or.inl d5) (fun M' y1 y2 => hok M' y1 (f2.tr y2)))
            · have d4 : r = 0 := d4
              rw [d4]
              refine wq_e (by decide) (wq_I (s_isHere hB h2.1 rw_97) (fun r M3 ⟨c7, c8, c9⟩ => ?_))
              rw [hss] at c8
              have h3 : Xt U T e P g o W W0 C M3 := h2.sm c8 (c9.cov rfl)
              have f3 : Fr xtA M M3 := f2.tr (c9.cov rfl)
              rcases c7 with ⟨d6, d7⟩ | ⟨d6, d7⟩
              · have d6 : r = 1 := d6
                rw [d6]
                exact wq_e (by decide) (xt_pair hB h3 i1 ho0 hss d1 c (Or.inr ⟨d5, d7⟩) (fun M' y1 y2 => hok M' y1 (f3.tr y2)))
              · have d6 : r = 0 := d6
                rw [d6]
                refine wq_t (by decide) (hk _ ⟨f3, Or.inr ⟨rfl, n, P, g, o, W, C, d1, h3, i1, by omega, hss, c, hwq_not d5, hwq_not d7⟩⟩ ?_)
                show (if M3 78 5 = 0 then 2 * (2000 - M3 78 2).toNat else 0) + (0 : Int).toNat < (if N 78 5 = 0 then 2 * (2000 - N 78 2).toNat else 0) + (1 : Int).toNat
                rw [e5, e0, if_pos rfl, h3.1.2.2.2.2.1, h3.1.2.2.1, if_pos rfl]
                omega
          · have c : bte T e P = 40 := Decidable.not_not.mp c
            have hl := bte_lt (T := T) (e := e) (k := P) (by omega) (by omega)
            have d2 := d1
            unfold dD at d2
            rw [hss, if_pos c] at d2
            rw [h1.1.2.2.1]
            refine wq_V (xt_opens h1 ⟨by omega, i1.1⟩ (by omega) (by decide) (by omega)) (fun M2 ⟨c4, c5⟩ => ?_)
            rcases c4 with ⟨d4, d5⟩ | ⟨d4, d5, d6⟩
            · rw [if_neg d4] at d2
              rw [d5.1.2.2.1]
              have hF : Fr [(78, 2)] M2 (up M2 78 2 (P + 1)) := Fr.rf.up (by simp)
              exact wq_d (hok _ (Or.inr ⟨n, _, _, _, _, _, d2, d5.sm (d5.1.mv (by omega) (by omega)) (hF.cov rfl), i1.push (Or.inl (by decide)) d4 (by omega) (by omega), by omega⟩) (f1.tr (c5.tr (hF.cov rfl))))
            · rw [if_pos d4] at d2
              have hF : Fr [(78, 2)] M2 (up M2 78 2 (M2 78 2 + 1)) := Fr.rf.up (by simp)
              obtain ⟨y1, y2, y3, y4, y5, y6⟩ := d5
              refine wq_d (hok _ (Or.inl ⟨4, P, (Option.some.inj d2).symm, ⟨?_, ?_, ?_, ?_, y5, y6⟩, d6.cg (hF.row 102 rfl) (hF.at 78 35 rfl)⟩) (f1.tr (c5.tr (hF.cov rfl))))
              · rw [hF.at 78 3 rfl]; exact y1
              · rw [hF.row 79 rfl]; exact y2
              · rw [hF.at 78 5 rfl]; exact y3
              · rw [hF.at 78 6 rfl]; exact y4
      · have z2' := z2
        obtain ⟨k, pl, hR, hF, hU⟩ := z2'
        have hkk := hF.2.2.2.2.1
        have e5 : N 78 5 = k := hF.2.2.1
        rw [e5, i32_id (x := k) (by omega) (by omega)]
        exact wq_t (by omega) (fin (Or.inl z2))
    · have z1 : v1 = 0 := z1
      subst z1
      exact wq_t (by decide) (fin (Or.inr z2))
  · show (if M 78 5 = 0 then 2 * (2000 - M 78 2).toNat else 0) + (1 : Int).toNat < 1000000000
    obtain ⟨n, p, g, o, W, C, w1, w2, w3, w4⟩ := h
    have b := w2.1.2.2.2.2.2.1
    rw [w2.1.2.2.1, w2.1.2.2.2.2.1, if_pos rfl]
    omega
