theorem xq_part {U T : Nat → Int} {e o0 pm : Int} {W0 : List Int} {M : Mm} {R : Out} (hB : Bt T e) (ho0 : 0 ≤ o0) (h : Onq U T e o0 W0 R pm true M) : wq (f_M_qPartTold M) (fun M' => (Bdq U T e R M' ∨ Onq U T e o0 W0 R (pm + 1) false M') ∧ Fr xqA M M') := by
  have hh := hB.1
  unfold f_M_qPartTold f_M_qPartTold_L2
  refine wq_lp (fun z => Fr xqA M z.2 ∧ ((z.1 = 1 ∧ (Onq U T e o0 W0 R pm true z.2 ∨ Bdq U T e R z.2)) ∨ (z.1 = 0 ∧ Nnq U T e o0 W0 R pm z.2))) (fun z => (if z.2 78 5 = 0 then 2 * (2000 - z.2 78 2).toNat else 0) + z.1.toNat) ?_ FU _ ⟨Fr.rf, Or.inl ⟨rfl, Or.inl h⟩⟩ ?_
  · rintro kH ⟨v1, N⟩ ⟨q1, q2⟩ hk
    have q1 : Fr xqA M N := q1
    have fin : (Bdq U T e R N ∨ Nnq U T e o0 W0 R pm N) → wq (f_M_qPartTold_J184 N) (fun M' => (Bdq U T e R M' ∨ Onq U T e o0 W0 R (pm + 1) false M') ∧ Fr xqA M M') := fun z => wq_m (xq_184 hB z) (fun M' ⟨y1, y2⟩ => ⟨y1, q1.tr y2⟩)
    show wq (f_M_qPartTold_B2 (fun v1 M => kH (v1, M)) (fun M19 => f_M_qPartTold_J184 M19) v1 N) _
    unfold f_M_qPartTold_B2
    rcases q2 with ⟨z1, z2⟩ | ⟨z1, z2⟩
    · have z1 : v1 = 1 := z1
      subst z1
      refine wq_e (by decide) ?_
      rcases z2 with z2 | z2
      · obtain ⟨n, p, g, o, W, C, w1, w2, w3, w4⟩ := z2
        have w2 : Xq U T e p g o W W0 C N := w2
        cases n with
        | zero => cases w1
        | succ n =>
          have b := w2.1.2.2.2.2.2.1
          have hs := sk_rng T b.1 b.2
          have hss := sk_sk T (e := e) b.1
          have hbr := bte_rng hB (sk T e p)
          have hlo := w3.lo
          have hlen : C.length + W.length + W0.length ≤ 1600 := by have := w3.2.2.2.2; omega
          have d1 := w1
          rw [← dD_sk true T e (n + 1) true g o W C b.1] at d1
          have i1 := w3.mono hs.1
          have e0 : N 78 2 = p := w2.1.2.2.1
          have e5 : N 78 5 = 0 := w2.1.2.2.2.2.1
          rw [e5]
          refine wq_e (fun z => z rfl) (wq_I (s_look hB w2.1) (fun r M1 ⟨c1, c2, c3⟩ => ?_))
          have c1 : r = bte T e (sk T e p) := c1
          have h1 : Xq U T e (sk T e p) g o W W0 C M1 := w2.sm c2 (c3.cov rfl)
          have f1 : Fr xqA M M1 := q1.tr (c3.cov rfl)
          have hok : ∀ (M' : Mm), (Bdq U T e R M' ∨ Onq U T e o0 W0 R (sk T e p + 1) true M') → Fr xqA M M' → wq (kH (1, M')) (fun M' => (Bdq U T e R M' ∨ Onq U T e o0 W0 R (pm + 1) false M') ∧ Fr xqA M M') := by
            intro M' y1 y2
            refine hk _ ⟨y2, Or.inl ⟨rfl, ?_⟩⟩ ?_
            · rcases y1 with y | y
              · exact Or.inr y
              · exact Or.inl (y.mono (by omega))
            · show (if M' 78 5 = 0 then 2 * (2000 - M' 78 2).toNat else 0) + (1 : Int).toNat < (if N 78 5 = 0 then 2 * (2000 - N 78 2).toNat else 0) + (1 : Int).toNat
              rw [e5, e0, if_pos rfl]
              rcases y1 with ⟨k, pl, y, y3, -⟩ | ⟨n', p', g', o', W', C', -, y, -, y3⟩
              · have y4 := y3.2.2.1
                have y5 := y3.2.2.2.2.1
                rw [y4, if_neg (by omega)]
                omega
              · rw [y.1.2.2.2.2.1, y.1.2.2.1, if_pos rfl]
                have := y.1.2.2.2.2.2.1
                omega
          obtain ⟨P, hP⟩ : ∃ P, P = sk T e p := ⟨_, rfl⟩
          rw [← hP] at d1 i1 hs hss hbr c1 h1 hok
          clear w1 w2 w3 c2 c3
          refine wq_I (s_qWord36 hB h1.1 hss) (fun r4 M2 ⟨k1, k2, k3⟩ => ?_)
          have h2 : Xq U T e P g o W W0 C M2 := h1.sm k2 (k3.cov rfl)
          have f2 : Fr xqA M M2 := f1.tr (k3.cov rfl)
          rw [c1, i32_id (x := bte T e P) (by omega) (by omega), i32_id (x := 40) (by decide) (by decide)]
          refine wq_if (fun c => ?_) (fun c => ?_)
          · refine wq_I (s_isHere hB h2.1 rw_134) (fun r M3 ⟨c4, c5, c6⟩ => ?_)
            rw [hss] at c5
            have h3 : Xq U T e P g o W W0 C M3 := h2.sm c5 (c6.cov rfl)
            have f3 : Fr xqA M M3 := f2.tr (c6.cov rfl)
            rcases c4 with ⟨d4, d5⟩ | ⟨d4, d5⟩
            · have d4 : r = 1 := d4
              rw [d4]
              exact wq_t (by decide) (xq_pair hB h3 i1 ho0 hss d1 c (Or.inl d5) (fun M' y1 y2 => hok M' y1 (f3.tr y2)))
            · have d4 : r = 0 := d4
              rw [d4]
              refine wq_e (by decide) (wq_I (s_isHere hB h3.1 rw_135) (fun r M4 ⟨c7, c8, c9⟩ => ?_))
              rw [hss] at c8
              have h4 : Xq U T e P g o W W0 C M4 := h3.sm c8 (c9.cov rfl)
              have f4 : Fr xqA M M4 := f3.tr (c9.cov rfl)
              rcases c7 with ⟨d6, d7⟩ | ⟨d6, d7⟩
              · have d6 : r = 1 := d6
                rw [d6]
                exact wq_e (by decide) (xq_pair hB h4 i1 ho0 hss d1 c (Or.inr ⟨d5, d7⟩) (fun M' y1 y2 => hok M' y1 (f4.tr y2)))
              · have d6 : r = 0 := d6
                rw [d6]
                refine wq_t (by decide) ?_
                have hof : ∀ (i v : Int) (L : List Int), 0 ≤ i → i ≤ 5 → v = 60 + i - 3 → (60 ≤ v ∧ v ≤ 62) → 1 ≤ L.length → P + L.length ≤ e → (if o = 6 then some (.inl (4, P)) else dD true T e n true (P + L.length) (P + L.length) (o + 1) (v :: W) C) = some R → (∀ M5, Sm T e P g M5 → wq (f_M_qAsksWord i M5) (fun M' => Sm T e (P + L.length) (P + L.length) M' ∧ Fr smL M5 M')) → (∀ k pl M5, Fm T e k pl M5 → wq (f_M_qAsksWord i M5) (fun M' => M' = M5)) → wq (bV (f_M_qOpens ((60 + i) - 3) (M4 78 2) M4) (fun M19 => bV (f_M_qAsksWord i M19) (fun M20 => kH (1, M20)))) (fun M' => (Bdq U T e R M' ∨ Onq U T e o0 W0 R (pm + 1) false M') ∧ Fr xqA M M') := by
                  intro i v L i0 i9 ev hv hL hle hd ha hb
                  rw [← ev, h4.1.2.2.1]
                  refine wq_V (xq_opens h4 ⟨by omega, i1.1⟩ (by omega) (by omega) (by omega)) (fun M5 ⟨g4, g5⟩ => ?_)
                  rcases g4 with ⟨m1, m2⟩ | ⟨m1, m2, m3⟩
                  · rw [if_neg m1] at hd
                    refine wq_V (ha M5 m2.1) (fun M6 ⟨m4, m5⟩ => hok M6 (Or.inr ⟨n, _, _, _, _, _, hd, m2.sm m4 m5, i1.push (Or.inr ⟨rfl, hv⟩) m1 (by omega) (by omega), by omega⟩) (f4.tr (g5.tr (m5.cov rfl))))
                  · rw [if_pos m1] at hd
                    refine wq_V (hb _ _ M5 m2) (fun M6 m4 => ?_)
                    have m4 : M6 = M5 := m4
                    subst m4
                    exact hok M6 (Or.inl ⟨4, P, (Option.some.inj hd).symm, m2, m3⟩) (f4.tr g5)
                have d2 := d1
                unfold dD at d2
                rw [hss, if_neg c, if_neg (by rw [hwq_not d5]; decide), if_neg (by rw [hwq_not d7]; decide)] at d2
                have hasks : ∀ (r : Nat) (L : List Int), rwd r L → hw T e L P g → ∀ M5, Sm T e P g M5 → wq (bV (f_M_asks r M5) (fun M2 => some M2)) (fun M' => Sm T e (P + L.length) (P + L.length) M' ∧ Fr smL M5 M') := by
                  intro r L hr hh2 M5 hs5
                  refine wq_V (s_asks hB hs5 hr) (fun M6 ⟨e1, e2⟩ => ?_)
                  rw [hss] at e1
                  rcases e1 with ⟨-, y2⟩ | ⟨y1, -⟩
                  · exact wq_some ⟨y2, e2⟩
                  · exact absurd hh2 y1
                have hasksF : ∀ (r : Nat) (k pl : Int) (M5 : Mm), Fm T e k pl M5 → wq (bV (f_M_asks r M5) (fun M2 => some M2)) (fun M' => M' = M5) := by
                  intro r k pl M5 hf
                  rw [e_asks_f hf]
                  exact wq_some rfl
                rcases k1 with ⟨m1, m2⟩ | ⟨m1, m2⟩ | ⟨m1, m2⟩ | ⟨m1, m2, m3, m4⟩
                · have m1 : r4 = 3 := m1
                  rw [m1]
                  rw [if_pos (by rw [hwq_iff.mpr m2]; decide)] at d2
                  refine wq_e (by decide) (hof 3 60 wWidth (by decide) (by decide) (by decide) (by decide) (by decide) ?_ d2 (fun M5 z => ?_) (fun k pl M5 z => ?_))
                  · have := hw_le (p := P) (by omega) (by omega) (L := wWidth) (by decide) (by decide) (hwq_iff.mpr m2)
                    rw [hss] at this
                    exact this
                  · unfold f_M_qAsksWord
                    exact wq_e (by decide) (wq_e (by decide) (wq_e (by decide) (wq_t (by decide) (hasks 139 wWidth rw_139 m2 M5 z))))
                  · unfold f_M_qAsksWord
                    exact wq_e (by decide) (wq_e (by decide) (wq_e (by decide) (wq_t (by decide) (hasksF 139 k pl M5 z))))
                · have m1 : r4 = 4 := m1
                  rw [m1]
                  rw [if_neg (by rw [hw_no m2 lw_Tide lw_Width (by decide)]; decide), if_pos (by rw [hwq_iff.mpr m2]; decide)] at d2
                  refine wq_e (by decide) (hof 4 61 wTide (by decide) (by decide) (by decide) (by decide) (by decide) ?_ d2 (fun M5 z => ?_) (fun k pl M5 z => ?_))
                  · have := hw_le (p := P) (by omega) (by omega) (L := wTide) (by decide) (by decide) (hwq_iff.mpr m2)
                    rw [hss] at this
                    exact this
                  · unfold f_M_qAsksWord
                    exact wq_e (by decide) (wq_e (by decide) (wq_e (by decide) (wq_e (by decide) (wq_t (by decide) (hasks 140 wTide rw_140 m2 M5 z)))))
                  · unfold f_M_qAsksWord
                    exact wq_e (by decide) (wq_e (by decide) (wq_e (by decide) (wq_e (by decide) (wq_t (by decide) (hasksF 140 k pl M5 z)))))
                · have m1 : r4 = 5 := m1
                  rw [m1]
                  rw [if_neg (by rw [hw_no m2 lw_Passes lw_Width (by decide)]; decide), if_neg (by rw [hw_no m2 lw_Passes lw_Tide (by decide)]; decide), if_pos (by rw [hwq_iff.mpr m2]; decide)] at d2
                  refine wq_e (by decide) (hof 5 62 wPasses (by decide) (by decide) (by decide) (by decide) (by decide) ?_ d2 (fun M5 z => ?_) (fun k pl M5 z => ?_))
                  · have := hw_le (p := P) (by omega) (by omega) (L := wPasses) (by decide) (by decide) (hwq_iff.mpr m2)
                    rw [hss] at this
                    exact this
                  · unfold f_M_qAsksWord
                    exact wq_e (by decide) (wq_e (by decide) (wq_e (by decide) (wq_e (by decide) (wq_e (by decide) (hasks 141 wPasses rw_141 m2 M5 z)))))
                  · unfold f_M_qAsksWord
                    exact wq_e (by decide) (wq_e (by decide) (wq_e (by decide) (wq_e (by decide) (wq_e (by decide) (hasksF 141 k pl M5 z)))))
                · have m1 : r4 = -1 := m1
                  rw [m1]
                  refine wq_t (by decide) (hk _ ⟨f4, Or.inr ⟨rfl, n, P, g, o, W, C, d1, h4, i1, by omega, hss, c, hwq_not d5, hwq_not d7, m2, m3, m4⟩⟩ ?_)
                  show (if M4 78 5 = 0 then 2 * (2000 - M4 78 2).toNat else 0) + (0 : Int).toNat < (if N 78 5 = 0 then 2 * (2000 - N 78 2).toNat else 0) + (1 : Int).toNat
                  rw [e5, e0, if_pos rfl, h4.1.2.2.2.2.1, h4.1.2.2.1, if_pos rfl]
                  omega
          · have c : bte T e P = 40 := Decidable.not_not.mp c
            have hl := bte_lt (T := T) (e := e) (k := P) (by omega) (by omega)
            have d2 := d1
            unfold dD at d2
            rw [hss, if_pos c] at d2
            rw [h2.1.2.2.1]
            refine wq_V (xq_opens h2 ⟨by omega, i1.1⟩ (by omega) (by decide) (by omega)) (fun M3 ⟨c4, c5⟩ => ?_)
            rcases c4 with ⟨d4, d5⟩ | ⟨d4, d5, d6⟩
            · rw [if_neg d4] at d2
              rw [d5.1.2.2.1]
              have hF : Fr [(78, 2)] M3 (up M3 78 2 (P + 1)) := Fr.rf.up (by simp)
              exact wq_d (hok _ (Or.inr ⟨n, _, _, _, _, _, d2, d5.sm (d5.1.mv (by omega) (by omega)) (hF.cov rfl), i1.push (Or.inl (by decide)) d4 (by omega) (by omega), by omega⟩) (f2.tr (c5.tr (hF.cov rfl))))
            · rw [if_pos d4] at d2
              have hF : Fr [(78, 2)] M3 (up M3 78 2 (M3 78 2 + 1)) := Fr.rf.up (by simp)
              obtain ⟨y1, y2, y3, y4, y5, y6⟩ := d5
              refine wq_d (hok _ (Or.inl ⟨4, P, (Option.some.inj d2).symm, ⟨?_, ?_, ?_, ?_, y5, y6⟩, d6.cg (hF.row 142 rfl) (hF.at 78 89 rfl)⟩) (f2.tr (c5.tr (hF.cov rfl))))
              · rw [hF.at 78 3 rfl]; exact y1
              · rw [hF.row 79 rfl]; exact y2
              · rw [hF.at 78 5 rfl]; exact y3
              · rw [hF.at 78 6 rfl]; exact y4
      · have z2' := z2
        obtain ⟨k, pl, hR, hF, hU⟩ := z2'
        have hkk := hF.2.2.2.2.1
        have e5 : N 78 5 = k := hF.2.2.1
        rw [e5, i32_id (x := k) (by omega) (by omega)]
        exact wq_t (by omega) (fin (Or.inl z2))
    · have z1 : v1 = 0 := z1
      subst z1
      exact wq_t (by decide) (fin (Or.inr z2))
  · show (if M 78 5 = 0 then 2 * (2000 - M 78 2).toNat else 0) + (1 : Int).toNat < 1000000000
    obtain ⟨n, p, g, o, W, C, w1, w2, w3, w4⟩ := h
    have b := w2.1.2.2.2.2.2.1
    rw [w2.1.2.2.1, w2.1.2.2.2.2.1, if_pos rfl]
    omega
