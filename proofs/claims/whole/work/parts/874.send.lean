theorem kC.d {M M1 M' : Mm} (h : kC M1 M') (e39 : M1 39 = M 39) (e44 : M1 44 = M 44) (e40 : M1 40 = M 40) (e41 : M1 41 = M 41) (e42 : M1 42 = M 42) (e43 : M1 43 = M 43) : kC M M' := by
  unfold kC kE at *
  rw [← e39, ← e44, ← e40, ← e41, ← e42, ← e43]; exact h
theorem rel_rf {n : Nat} {M N : Mm} (hR : Rl n M M) (hF : Fr (refL ++ scA) M N) (hC : Cc M N) (hb : N 48 10 = 0) (h77 : N 77 = N 80) : Rl (n + 1) N N := by
  have hu : Ru M N := Ru.of hF rfl
  obtain ⟨h1, h2, h3, h4, h5, h6, h7, h8, h9, h10, h11⟩ := id hR
  refine rel_c hR (hF.cov rfl) hC hb (h2.ru hu) (nc_ru (h3.2.1.fr hF rfl) hu) (h4.c (hF.at 78 1 rfl) (hF.row 79 rfl) (hF.at 1 1 rfl) (hF.row 2 rfl)) ?_ (h7.cg hu.t (hF.at 78 63 rfl) (hF.at 78 64 rfl) (hF.row 120 rfl) (hF.at 39 9 rfl) (hF.row 44 rfl)) (h8.c (hF.at 78 99 rfl) (hF.row 145 rfl) (hF.at 39 7 rfl) (hF.row 45 rfl)) (h9.cg hu.t (hF.at 78 66 rfl) (hF.row 121 rfl) (hF.at 64 6 rfl) (hF.row 65 rfl) (hF.row 66 rfl) (hF.row 67 rfl))
  unfold Ms at *
  rw [hF.at 0 11 rfl, hF.at 0 12 rfl, hF.at 0 13 rfl, hF.at 78 7 rfl, hF.at 78 8 rfl, hF.at 78 65 rfl]
  exact ⟨h5.1, h5.2.1, h77, h5.2.2.2⟩
theorem call_send {n : Nat} {v1 : Int} (i1 : IR v1) : CallOk n (f_BT_send v1) (f_M_send v1) := by
  intro M hR
  obtain ⟨h1, h2, h3, h4, h5, h6, h7, h8, h9, h10, h11⟩ := id hR
  have hP := h1.1
  have hW := h1.2.2.1
  obtain ⟨p1, p2, p3, -⟩ := id h7
  have h577 : M 77 = M 80 := h5.2.2.1
  -- the refusal, when the class has gone from M to M1
  have hno : ∀ M1 : Mm, Fr trL M M1 → Cc M M1 → (0 ≤ v1 ∧ v1 < nW M → ∃ arr, wA M v1 arr ∧ ¬ (arr (gl M v1) ≤ 9999)) → wq (f_M_send v1 (up M1 77 2 (M1 77 2 + 1))) (fun q' => (-1 : Int) = q'.1 ∧ Rl (n + 1) q'.2 q'.2) := by
    intro M1 F1 hC hz
    generalize hX : up M1 77 2 (M1 77 2 + 1) = X
    have FX : Fr ((77, 2) :: trL) M X := by rw [← hX]; exact (F1.cov rfl).up (by simp)
    have hmX : Rm M X := Rm.fr rmR FX rfl
    have x77 : ∀ j : Nat, X 77 j = if j = 2 then M 80 2 + 1 else M 80 j := by
      intro j
      rw [← hX, up_at, F1.row 77 rfl, h577]
      by_cases c : j = 2
      · rw [if_pos ⟨rfl, c⟩, if_pos c]
      · rw [if_neg (fun z => c z.2), if_neg c]
    have hJ : ∀ Y : Mm, Fr ((78, 47) :: fwL) X Y → wq (f_M_send_J32 Y) (fun q' => (-1 : Int) = q'.1 ∧ Rl (n + 1) q'.2 q'.2) := by
      intro Y FY
      unfold f_M_send_J32
      refine wq_d (wq_some ⟨rfl, ?_⟩)
      show Rl (n + 1) (up Y 80 2 (Y 80 2 + 1)) (up Y 80 2 (Y 80 2 + 1))
      have y80 : Y 80 = M 80 := by rw [FY.row 80 rfl, FX.row 80 rfl]
      have FYM : Fr (refL ++ scA) M Y := (FX.cov rfl).tr (FY.cov rfl)
      refine rel_rf hR (FYM.up (by simp [refL])) ?_ ?_ ?_
      · have g1 : Cc M X := by rw [← hX]; exact hC.fr (l := [(77, 2)]) (Fr.rf.up (by simp)) rfl
        have g2 : Cc M Y := g1.fr FY rfl
        exact g2.fr (l := [(80, 2)]) (Fr.rf.up (by simp)) rfl
      · rw [up_row (by decide), FY.row 48 rfl, FX.at 48 10 rfl]; exact h10.2.2
      · funext j
        rw [up_row (by decide), FY.row 77 rfl, x77, up_at, y80]
        by_cases c : j = 2
        · rw [if_pos c, if_pos ⟨rfl, c⟩]
        · rw [if_neg c, if_neg (fun z => c z.2)]
    unfold f_M_send
    rw [e_isWalker h1 hmX i1, bI_s]
    refine wq_c0 (fun c => hJ X Fr.rf) (fun c => ?_)
    have hp := pl_rng h1 h2 c.1 c.2
    obtain ⟨arr, z1, z2⟩ := hz c
    refine wq_I (s_hasWay h1 h2 hmX c.1 c.2) (fun r M4 ⟨a1, a2, a3, a4, a5⟩ => ?_)
    have a1 : wA M v1 (ar M4 110) := a1
    have a4 : Rm M M4 := a4
    have hrg := wA_rng h1 h2 c.1 c.2 a1 hp.2.1.1 (by omega : gl M v1 < 9)
    have he := wA_un h1 h2 c.1 c.2 a1 z1 hp.2.1.1 (by omega : gl M v1 < 9)
    rcases a2 with ⟨x1, x2⟩ | ⟨x1, x2, -⟩
    · have x1 : r = 0 := x1
      subst x1
      exact wq_t (by decide) (hJ M4 a5)
    · have x1 : r = 1 := x1
      rw [x1]
      have eg : M4 110 (gl M v1).toNat = ar M4 110 (gl M v1) := rfl
      refine wq_e (by decide) ?_
      rw [e_goal a4 c.1 (by omega), bI_s, i32_id (x := gl M v1) (by omega) (by omega), eg, i32_id (x := ar M4 110 (gl M v1)) (by omega) (by omega), i32_id (x := 9999) (by omega) (by omega)]
      exact wq_g (by omega) (wq_e (fun d => z2 (by omega)) (hJ M4 a5))
  unfold f_BT_send
  by_cases c : 0 ≤ v1 ∧ v1 < nW M
  · have hp := pl_rng h1 h2 c.1 c.2
    refine wq_I (s_plan h1 h2 h3 (bzC0 hR) c.1 c.2) (fun r M1 ⟨a1, a2, a3, a4⟩ => ?_)
    have a1 : wA M v1 (ar M1 49) := a1
    have a3 : Cl M M1 := a3
    have a4 : Fr trL M M1 := a4
    have hrg := wA_rng h1 h2 c.1 c.2 a1 hp.2.1.1 (by omega : gl M v1 < 9)
    rw [e_ref2, bI_s]
    rcases a2 with ⟨x1, x2⟩ | ⟨x1, x2, -⟩
    · have x1 : r = -1 := x1
      subst x1
      exact wq_t (by decide) (wq_some (hno M1 a4 a3.2.2 (fun _ => ⟨_, a1, by omega⟩)))
    · have x1 : r = ar M1 49 (gl M v1) := x1
      have hr9 : 0 ≤ r := by omega
      rw [i32_id (x := r) (by omega) (by omega), i32_id (x := -1) (by omega) (by omega), i32_id (x := 9999) (by omega) (by omega)]
      refine wq_e (by omega) (wq_if (fun g => ?_) (fun g => wq_some (hno M1 a4 a3.2.2 (fun _ => ⟨_, a1, by omega⟩))))
      have e399 : M1 39 9 = M 39 9 := by rw [a4.row 39 rfl]
      refine wq_V (s_keep (M := M1) (by omega) (by omega)) (fun M5 ⟨k1, k2⟩ => ?_)
      obtain ⟨w1, w2, w3⟩ := h3.2.1.2.2 v1 c.1 c.2
      have e41 : M5 41 v1.toNat = pl M v1 := by rw [k2.row 41 rfl, a4.row 41 rfl]; exact w1
      have e42 : M5 42 v1.toNat = gl M v1 := by rw [k2.row 42 rfl, a4.row 42 rfl]; exact w2
      unfold f_Now_arrive
      rw [e_cell_in (n := 6) M5 rfl (by decide) c.1 (by omega), bI_s, e_cell_in (n := 6) M5 rfl (by decide) c.1 (by omega), bI_s, e41, e42, e_set (n := 6) M5 rfl (by decide) c.1 (by omega), bV_s, e_set (n := 6) _ rfl (by decide) c.1 (by omega), bV_s, e_set (n := 6) _ rfl (by decide) c.1 (by omega), bV_s, bV_s]
      refine wq_some ?_
      show wq (f_M_send v1 (up (up (up M5 41 v1.toNat (gl M v1)) 42 v1.toNat (pl M v1)) 43 v1.toNat r)) (fun q' => r = q'.1 ∧ Rl (n + 1) q'.2 q'.2)
      generalize hX : up (up (up M5 41 v1.toNat (gl M v1)) 42 v1.toNat (pl M v1)) 43 v1.toNat r = X
      have F5X : Fr [(41, 99999), (42, 99999), (43, 99999)] M5 X := by rw [← hX]; exact ((Fr.rf.up (by simp)).up (by simp)).up (by simp)
      have FX : Fr ([(44, 99999), (39, 9), (41, 99999), (42, 99999), (43, 99999)] ++ trL) M X := ((a4.cov rfl).tr (k2.cov rfl)).tr (F5X.cov rfl)
      have x41 : X 41 v1.toNat = gl M v1 := by rw [← hX, up_row (by decide), up_row (by decide), up_eq]
      have x42 : X 42 v1.toNat = pl M v1 := by rw [← hX, up_row (by decide), up_eq]
      have x43 : X 43 v1.toNat = r := by rw [← hX, up_eq]
      have xk : ∀ k : Nat, ¬ k = v1.toNat → X 41 k = M 41 k ∧ X 42 k = M 42 k ∧ X 43 k = M 43 k := fun k hk => by
        refine ⟨?_, ?_, ?_⟩
        · rw [← hX, up_row (by decide), up_row (by decide), up_col hk, k2.row 41 rfl, a4.row 41 rfl]
        · rw [← hX, up_row (by decide), up_col hk, up_row (by decide), k2.row 42 rfl, a4.row 42 rfl]
        · rw [← hX, up_col hk, up_row (by decide), up_row (by decide), k2.row 43 rfl, a4.row 43 rfl]
      have hmX : Rm M X := Rm.fr rmR FX rfl
      have hCX : Cc M X := (a3.2.2.fr k2 rfl).fr F5X rfl
      unfold f_M_send
      rw [e_isWalker h1 hmX i1, bI_s]
      refine wq_c0 (fun z => absurd c z) (fun _ => ?_)
      refine wq_I (s_hasWay h1 h2 hmX c.1 c.2) (fun r3 M4 ⟨b1, b2, b3, b4, b5⟩ => ?_)
      have b1 : wA M v1 (ar M4 110) := b1
      have b4 : Rm M M4 := b4
      have b5 : Fr ((78, 47) :: fwL) X M4 := b5
      have he := wA_un h1 h2 c.1 c.2 b1 a1 hp.2.1.1 (by omega : gl M v1 < 9)
      have b2' : (r3 = 0 ∧ ar M4 110 (gl M v1) = 1000000) ∨ (r3 = 1 ∧ ar M4 110 (gl M v1) ≠ 1000000) := b2.imp id (fun z => ⟨z.1, z.2.1⟩)
      clear b2
      rcases b2' with ⟨y1, y2⟩ | ⟨y1, y2⟩
      · have y2 : ar M4 110 (gl M v1) = 1000000 := y2
        omega
      have y1 : r3 = 1 := y1
      rw [y1]
      have er : ar M4 110 (gl M v1) = r := by omega
      have eg : M4 110 (gl M v1).toNat = r := er
      refine wq_e (by decide) ?_
      rw [e_goal b4 c.1 (by omega), bI_s, i32_id (x := gl M v1) (by omega) (by omega), eg, i32_id (x := r) (by omega) (by omega), i32_id (x := 9999) (by omega) (by omega)]
      refine wq_g (by omega) (wq_if (fun _ => ?_) (fun z => absurd g z))
      rw [e_goal b4 c.1 (by omega), bI_s, i32_id (x := gl M v1) (by omega) (by omega), eg]
      refine wq_g (by omega) ?_
      have m63 : M4 78 63 = M 78 63 := by rw [b5.at 78 63 rfl, FX.row 78 rfl]
      have m64 : M4 78 64 = M 78 64 := by rw [b5.at 78 64 rfl, FX.row 78 rfl]
      have m108 : M4 108 = M 108 := b4.2.2.2.2.2.2
      have m120 : M4 120 = M 120 := by rw [b5.row 120 rfl, FX.row 120 rfl]
      refine wq_V (s_keeps (M := M4) (by rw [m63]; exact p1) (by rw [m64]; exact p2)) (fun M10 ⟨r1, r2⟩ => ?_)
      have hm10 : Rm M M10 := b4.fr r2 rfl
      have y108 : M10 108 = M 108 := by rw [r2.row 108 rfl, m108]
      rw [e_place hm10 c.1 (by omega), bI_s, e_goal hm10 c.1 (by omega), bI_s, i32_id (x := 13 + 3 * v1) (by omega) (by omega), i32_id (x := 13 + 3 * v1 + 1) (by omega) (by omega), i32_id (x := 13 + 3 * v1 + 2) (by omega) (by omega)]
      refine wq_g (by omega) (wq_d (wq_g (by omega) (wq_d (wq_g (by omega) (wq_d (wq_some ⟨rfl, ?_⟩))))))
      show Rl (n + 1) (up (up (up M10 108 (13 + 3 * v1).toNat (gl M v1)) 108 (13 + 3 * v1 + 1).toNat (pl M v1)) 108 (13 + 3 * v1 + 2).toNat r) _
      generalize hN : up (up (up M10 108 (13 + 3 * v1).toNat (gl M v1)) 108 (13 + 3 * v1 + 1).toNat (pl M v1)) 108 (13 + 3 * v1 + 2).toNat r = N
      have F10N : Fr [(108, 99999)] M10 N := by rw [← hN]; exact ((Fr.rf.up (by simp)).up (by simp)).up (by simp)
      have FXN : Fr ([(78, 63), (78, 64), (120, 99999), (108, 99999), (78, 47)] ++ fwL) X N := ((b5.cov rfl).tr (r2.cov rfl)).tr (F10N.cov rfl)
      have FN : Fr acL M N := (FX.cov rfl).tr (FXN.cov rfl)
      have n13 : N 108 (13 + 3 * v1).toNat = gl M v1 := by rw [← hN, up_col (by omega), up_col (by omega), up_eq]
      have n14 : N 108 (14 + 3 * v1).toNat = pl M v1 := by rw [← hN, up_col (by omega), show (14 + 3 * v1).toNat = (13 + 3 * v1 + 1).toNat by omega, up_eq]
      have n15 : N 108 (15 + 3 * v1).toNat = r := by rw [← hN, show (15 + 3 * v1).toNat = (13 + 3 * v1 + 2).toNat by omega, up_eq]
      have nk : ∀ k : Nat, ¬ k = (13 + 3 * v1).toNat → ¬ k = (14 + 3 * v1).toNat → ¬ k = (15 + 3 * v1).toNat → N 108 k = M 108 k := fun k k1 k2 k3 => by rw [← hN, up_col (by omega), up_col (by omega), up_col (by omega), y108]
      have hu : Rt M N := Rt.of FN rfl
      have hK : kC M N := (k1.d (a4.row 39 rfl) (a4.row 44 rfl) (a4.row 40 rfl) (a4.row 41 rfl) (a4.row 42 rfl) (a4.row 43 rfl)).c (by rw [FXN.row 39 rfl, F5X.row 39 rfl]) (by rw [FXN.row 44 rfl, F5X.row 44 rfl])
      have hKR : kR M N := r1.c m63 m64 m108 m120 (by rw [F10N.row 78 rfl]) (by rw [F10N.row 78 rfl]) (by rw [F10N.row 120 rfl])
      refine rel_act hR FN (((hCX.fr b5 rfl).fr r2 rfl).fr F10N rfl) (by rw [FXN.row 48 rfl, FX.at 48 10 rfl]; exact h10.2.2) hK hKR ?_ ?_
      · obtain ⟨c1, c2, c3⟩ := h2
        refine ⟨by unfold hr at *; rw [nk _ (by omega) (by omega) (by omega)]; exact c1, fun s s1 s2 => ?_, fun w q1 q2 => ?_⟩
        · rw [rt_nS hu] at s2
          have hS := h1.2.1
          have := c2 s s1 s2
          rw [rt_rd hu s1]
          unfold sf at *
          rw [nk _ (by omega) (by omega) (by omega)]
          exact this
        · rw [rt_nW hu] at q2
          have := c3 w q1 q2
          unfold NwW at *
          rw [rt_wx hu q1, rt_wy hu q1]
          by_cases z : w = v1
          · subst z
            rw [show pl N w = gl M w from n13, show gl N w = pl M w from n14, show fr N w = r from n15]
            refine ⟨?_, hr9, g⟩
            rcases this.1 with ⟨u1, u2⟩ | ⟨u1, u2⟩
            · exact Or.inr ⟨u2, u1⟩
            · exact Or.inl ⟨u2, u1⟩
          · rw [show pl N w = pl M w from nk _ (by omega) (by omega) (by omega), show gl N w = gl M w from nk _ (by omega) (by omega) (by omega), show fr N w = fr M w from nk _ (by omega) (by omega) (by omega)]
            exact this
      · obtain ⟨c1, c2, c3⟩ := h3.2.1
        refine ⟨by unfold hr at *; rw [FXN.row 39 rfl, FX.at 39 8 rfl, nk _ (by omega) (by omega) (by omega)]; exact c1, fun s s1 s2 => ?_, fun w q1 q2 => ?_⟩
        · rw [rt_nS hu] at s2
          have hS := h1.2.1
          have := c2 s s1 s2
          unfold sf at *
          rw [FXN.row 40 rfl, FX.row 40 rfl, nk _ (by omega) (by omega) (by omega)]
          exact this
        · rw [rt_nW hu] at q2
          have := c3 w q1 q2
          rw [FXN.row 41 rfl, FXN.row 42 rfl, FXN.row 43 rfl]
          by_cases z : w = v1
          · subst z
            rw [show pl N w = gl M w from n13, show gl N w = pl M w from n14, show fr N w = r from n15]
            exact ⟨x41, x42, x43⟩
          · obtain ⟨d1, d2, d3⟩ := xk w.toNat (by omega)
            rw [d1, d2, d3, show pl N w = pl M w from nk _ (by omega) (by omega) (by omega), show gl N w = gl M w from nk _ (by omega) (by omega) (by omega), show fr N w = fr M w from nk _ (by omega) (by omega) (by omega)]
            exact this
  · rw [e_plan_out h1 h3 i1 c, bI_s, e_ref2, bI_s]
    have F0 : Fr [(48, 6)] M (up M 48 6 0) := Fr.rf.up (by simp)
    exact wq_t rfl (wq_some (hno _ (F0.cov rfl) (h3.2.2.fr F0 rfl) (fun z => absurd z c)))
