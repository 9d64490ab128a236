theorem mz_fr {arr : Int → Int} {t : Int} {N N' : Mm} (h : mz arr t N) (e : N' 113 = N 113) : mz arr t N' := by
  intro p p1 p2
  have := h p p1 p2
  unfold ar at this ⊢
  rw [e]; exact this
def skL : List (Nat × Nat) := (113, 99999) :: wsL
theorem s_stuckLoop {V N0 M : Mm} (hT : Tw V) (hN : Nw V) (hr : Rm V M) {w k : Int} (h1 : 0 ≤ w) (h2 : w < nW V) (hk0 : k = 0 ∨ k = 1) {arr : Int → Int} (hA : w0 V w arr) (hm : mz arr (sto V w) M) (hn : arr (gl V w) ≠ 1000000) (hF : Fr skL N0 M) {kx : Int → Int → Int → Mm → Option (Int × Mm)} (hkx : kx = fun v2 v4 v5 M25 => if ¬ i32 v2 = 0 then some (v5, M25) else some (v4, M25)) : wq (f_M_stuck_L55 kx FU (w, k, gl V w, (-1), (-1), M)) (fun q => skA V w k q.1 ∧ Fr skL N0 q.2) := by
  have hW := hT.2.2.1
  have hS := hT.2.1
  have hP := hT.1
  have hs := sto_rng hN h1 h2
  have hp := pl_rng hT hN h1 h2
  have hA' : isA V [] 0 (-1) (sto V w + 400) (pl V w) (sto V w) arr := hA
  obtain ⟨L, l1, l2⟩ := wpB_ex hT (by omega) (by omega) hA' _ (gl V w) (Nat.lt_succ_self _) hp.2.1.1 (by omega) hn
  unfold f_M_stuck_L55
  refine wq_lp (fun z => z.1 = w ∧ z.2.1 = k ∧ ((0 ≤ z.2.2.1 ∧ z.2.2.1 < 9) ∧ arr z.2.2.1 ≠ 1000000) ∧ (∃ T, wpB V [] 0 (pl V w) arr T z.2.2.1 (pl V w) ∧ ∀ h' s' : Int, skB V (br V w) T h' s' → (h' ≠ -1 → skB V (br V w) L h' s') ∧ (h' = -1 → skB V (br V w) L z.2.2.2.1 z.2.2.2.2.1)) ∧ Rm V z.2.2.2.2.2 ∧ mz arr (sto V w) z.2.2.2.2.2 ∧ Fr skL N0 z.2.2.2.2.2) (fun z => (cl9 arr z.2.2.1).toNat) ?_ FU _ ?_ ?_
  · rintro kH ⟨u1, u2, u3, u4, u5, N⟩ ⟨q1, q2, q3, q4, q5, q6, q7⟩ hk
    have e1 : u1 = w := q1
    have e2 : u2 = k := q2
    have e3 : (0 ≤ u3 ∧ u3 < 9) ∧ arr u3 ≠ 1000000 := q3
    have e4 : ∃ T, wpB V [] 0 (pl V w) arr T u3 (pl V w) ∧ ∀ h' s' : Int, skB V (br V w) T h' s' → (h' ≠ -1 → skB V (br V w) L h' s') ∧ (h' = -1 → skB V (br V w) L u4 u5) := q4
    have e5 : Rm V N := q5
    have e6 : mz arr (sto V w) N := q6
    have e7 : Fr skL N0 N := q7
    clear q1 q2 q3 q4 q5 q6 q7
    show wq (f_M_stuck_B55 (fun v1 v2 v3 v4 v5 M => kH (v1, v2, v3, v4, v5, M)) kx u1 u2 u3 u4 u5 N) _
    rw [e1, e2]
    unfold f_M_stuck_B55
    rw [e_place e5 h1 (by omega), bI_s, i32_id (x := u3) (by omega) (by omega), i32_id (x := pl V w) (by omega) (by omega)]
    obtain ⟨T, t1, t2⟩ := e4
    refine wq_if (fun c => ?_) (fun c => ?_)
    · have eT : T = [] := by
        match T, t1 with
        | [], _ => rfl
        | y :: T, t1 => exact absurd c t1.1
      subst eT
      have hL := (t2 (-1) (-1) ⟨rfl, rfl⟩).2 rfl
      rw [hkx]
      dsimp only
      rcases hk0 with d | d
      · subst d
        exact wq_e (fun z => z (by decide)) (wq_some ⟨⟨_, hA, Or.inr ⟨hn, L, u4, u5, l1, hL, by rw [if_pos rfl]⟩⟩, e7⟩)
      · subst d
        exact wq_t (by decide) (wq_some ⟨⟨_, hA, Or.inr ⟨hn, L, u4, u5, l1, hL, by rw [if_neg (by decide)]⟩⟩, e7⟩)
    · match T, t1, t2 with
      | [], t1, _ => exact absurd t1 c
      | x :: T, t1, t2 =>
        obtain ⟨z1, z2, z3, z4⟩ := t1
        obtain ⟨-, x2, x3⟩ := stB_in hT z2.1
        have z5 := stB0.mp z2.1
        have r1 := Sp_rng hT (by omega) hA'.2.2 e3.1.1 e3.1.2
        have r2 := Sp_rng hT (by omega) hA'.2.2 x2.1 x2.2
        have hd := cl9_dec x2.1 x2.2 x3
        have hnn := cl9_nn arr (oth V x.1 u3)
        have htk := (hT.2.2.2.1 x.1 z5.1.1 z5.1.2).2.2.2.1
        have mq := e6 (oth V x.1 u3) x2.1 x2.2
        refine wq_I (s_shortBack hT e5 hs.1 (by omega) rfl hA' e6 e3.1 e3.2 z2) (fun y M2 ⟨y1, y2⟩ => ?_)
        have y1 : y = x.1 := y1
        have y2 : M2 = N := y2
        rw [y1, y2, e_other hT e5 z5.1.1 z5.1.2 (show -1000000 ≤ u3 by omega) (by omega), bI_s, e_takes e5 z5.1.1 (by omega), bI_s]
        refine s_stuckRow hT hN e5 h1 h2 z5.1.1 z5.1.2 x2 (x := x.2) (by omega) (by omega) (fun M' v4 v5 r d1 d2 d3 d4 => ?_)
        have F' : Fr skL N0 M' := e7.tr (d4.cov rfl)
        refine hk _ ⟨rfl, rfl, ⟨x2, show arr (oth V x.1 u3) ≠ 1000000 by omega⟩, ⟨T, z4, fun h' s' g => ⟨fun a => ?_, fun a => ?_⟩⟩, d3, mz_fr e6 (d4.row 113 rfl), F'⟩ (show (cl9 arr (oth V x.1 u3)).toNat < (cl9 arr u3).toNat by omega)
        · exact (t2 h' s' ⟨h', s', g, Or.inl ⟨a, rfl, rfl⟩⟩).1 a
        · subst a
          have hs' := skB_n _ g
          subst hs'
          show skB V (br V w) L v4 v5
          rcases d2 with ⟨f1, f2, f3⟩ | ⟨f1, f2, f3⟩
          · rw [f2, f3]
            rw [f1] at d1
            exact (t2 (-1) (-1) ⟨-1, -1, g, Or.inr ⟨rfl, d1, Or.inl ⟨rfl, rfl⟩⟩⟩).2 rfl
          · rw [f2, f3]
            exact (t2 r x.1 ⟨-1, -1, g, Or.inr ⟨rfl, d1, Or.inr ⟨f1, rfl⟩⟩⟩).1 f1
  · refine ⟨rfl, rfl, ⟨⟨hp.2.1.1, show gl V w < 9 by omega⟩, hn⟩, ⟨L, l1, fun h' s' g => ⟨fun _ => g, fun a => ?_⟩⟩, hr, hm, hF⟩
    subst a
    have hs' := skB_n _ g
    subst hs'
    exact g
  · have a1 := cl9_le (arr := arr) hp.2.1.1 (by omega : gl V w < 9)
    show (cl9 arr (gl V w)).toNat < 1000000000
    omega
theorem call_stuck {n : Nat} {v1 v2 : Int} (i1 : IR v1) (i2 : IR v2) : CallOk n (f_BT_stuck v1 v2) (f_M_stuck v1 v2) := by
  refine call_q (fun M r => gA ((0 ≤ v1 ∧ v1 < nW M) ∧ 0 ≤ v2 ∧ v2 ≤ 1) (fun r => skA M v1 v2 r) r) trL skL (fun M r r' hR => gA_un (fun c x y hx hy => skA_un hR.1 hR.2.1 c.1.1 c.1.2 hx hy)) rfl rfl rfl rfl rfl (fun M hR => ?_) (fun M M1 hR hm hl => ?_)
  · obtain ⟨h1, h2, h3, -, -, -, -, -, -, h10, -⟩ := id hR
    have hW := h1.2.2.1
    unfold f_BT_stuck
    rw [e_hasW h1 h3.1 i1, bI_s]
    refine wq_c0 (fun c => wq_some ⟨Or.inr ⟨fun z => c z.1, rfl⟩, h3.2.2, h10.2.2, Fr.rf⟩) (fun c => ?_)
    rw [i32_id (x := v2) i2.1 i2.2, i32_id (x := 1) (by omega) (by omega)]
    refine wq_if (fun d => wq_some ⟨Or.inr ⟨fun z => by omega, rfl⟩, h3.2.2, h10.2.2, Fr.rf⟩) (fun d => ?_)
    refine wq_if (fun e => ?_) (fun e => wq_some ⟨Or.inr ⟨fun z => by omega, rfl⟩, h3.2.2, h10.2.2, Fr.rf⟩)
    refine wq_I (s_stuckAt h1 h2 h3 (bzC0 hR) c.1 c.2 (by omega)) (fun r M2 ⟨a1, a2, a3⟩ => ?_)
    have a2 : Cl M M2 := a2
    have a3 : Fr trL M M2 := a3
    exact wq_some ⟨Or.inl ⟨⟨c, by omega⟩, a1⟩, a2.2.2, by show M2 48 10 = 0; rw [a3.at 48 10 rfl]; exact h10.2.2, a3⟩
  · obtain ⟨h1, h2, h3, -⟩ := id hR
    have hW := h1.2.2.1
    unfold f_M_stuck
    rw [e_isWalker h1 hm i1, bI_s]
    refine wq_c0 (fun c => wq_some ⟨Or.inr ⟨fun z => c z.1, rfl⟩, Fr.rf⟩) (fun c => ?_)
    rw [e_in M1 i2 (by decide) (by decide) (by decide) (by decide), bI_s]
    refine wq_c1 (fun d => ?_) (fun d => wq_some ⟨Or.inr ⟨fun z => d z.2, rfl⟩, Fr.rf⟩)
    have hs := sto_rng h2 c.1 c.2
    have hp := pl_rng h1 h2 c.1 c.2
    have hP := h1.1
    obtain ⟨arr, hA⟩ := isA_ex h1 h2 (b := 0) (wo := -1) (lim := sto M v1 + 400) (a := pl M v1) (t := sto M v1) (by decide) (by decide) hs.1 (by omega) (by omega) ⟨hp.1.1, by omega⟩ (by decide) (by decide)
    rw [e_place hm c.1 (by omega), bI_s]
    refine wq_V (s_measures h1 h2 hm ⟨hp.1.1, by omega⟩ hs.1 (by omega) rfl hA) (fun M2 ⟨a1, a2, a3⟩ => ?_)
    have a1 : mz arr (sto M v1) M2 := a1
    have F2 : Fr skL M1 M2 := a3.cov rfl
    have m1 := a1 (gl M v1) hp.2.1.1 (by omega)
    have eg : M2 113 (gl M v1).toNat = ar M2 113 (gl M v1) := rfl
    rw [e_goal a2 c.1 (by omega), bI_s, i32_id (x := gl M v1) (by omega) (by omega), eg, i32_id (x := ar M2 113 (gl M v1)) (by omega) (by omega), i32_id (x := 1000000) (by omega) (by omega)]
    refine wq_g (by omega) ?_
    refine wq_if (fun d2 => ?_) (fun d2 => wq_some ⟨Or.inl ⟨⟨c, d⟩, arr, hA, Or.inl ⟨by omega, rfl⟩⟩, F2⟩)
    refine wq_m (s_stuckLoop h1 h2 a2 c.1 c.2 (by omega) hA a1 (by omega) F2 rfl) (fun q ⟨b1, b2⟩ => ⟨Or.inl ⟨⟨c, d⟩, b1⟩, b2⟩)
