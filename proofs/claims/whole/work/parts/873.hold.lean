theorem call_hold {n : Nat} {v1 v2 : Int} (i1 : IR v1) (i2 : IR v2) : CallOk n (f_BT_hold v1 v2) (f_M_hold v1 v2) := by
  intro M hR
  obtain ⟨h1, h2, h3, h4, h5, h6, h7, h8, h9, h10, h11⟩ := id hR
  have hS := h1.2.1
  obtain ⟨p1, p2, p3, -⟩ := id h7
  have hno : ¬ ((0 ≤ v1 ∧ v1 < nS M) ∧ 1 ≤ v2 ∧ v2 ≤ 99) → wq (f_M_hold v1 v2 (up M 77 2 (M 77 2 + 1))) (fun q' => (-1 : Int) = q'.1 ∧ Rl (n + 1) q'.2 q'.2) := by
    intro z
    have hm : Rm M (up M 77 2 (M 77 2 + 1)) := Rm.fr (l := [(77, 2)]) rmR (Fr.rf.up (by simp)) rfl
    unfold f_M_hold f_M_hold_J20
    rw [e_isStreet h1 hm i1, bI_s]
    refine wq_c0 (fun c => wq_d (wq_some ⟨rfl, rel_ref hR (rel_n hR) 2⟩)) (fun c => ?_)
    rw [e_in _ i2 (by decide) (by decide) (by decide) (by decide), bI_s]
    exact wq_c1 (fun d => absurd ⟨c, d⟩ z) (fun d => wq_d (wq_some ⟨rfl, rel_ref hR (rel_n hR) 2⟩))
  unfold f_BT_hold
  rw [e_hasS h1 h3.1 i1, bI_s, e_ref2, bI_s]
  refine wq_c0 (fun c => wq_some (hno (fun z => c z.1))) (fun c => ?_)
  rw [i32_id (x := v2) i2.1 i2.2, i32_id (x := 1) (by omega) (by omega), i32_id (x := 99) (by omega) (by omega)]
  refine wq_if (fun d => wq_some (hno (fun z => by omega))) (fun d => wq_if (fun d2 => ?_) (fun d2 => wq_some (hno (fun z => by omega))))
  refine wq_V (s_keep (M := M) (by omega) (by omega)) (fun M5 ⟨k1, k2⟩ => ?_)
  have hrd := (h1.2.2.2.1 v1 c.1 c.2).2.2.2.2.1
  have hsf := h2.2.1 v1 c.1 c.2
  have e9 : M5 9 v1.toNat = rd M v1 := by rw [k2.row 9 rfl]; exact (h3.1.2.1 v1 c.1 c.2).2.2.2.1
  have e40 : M5 40 v1.toNat = sf M v1 := by rw [k2.row 40 rfl]; exact h3.2.1.2.1 v1 c.1 c.2
  unfold f_Now_turn
  rw [e_cell_in (n := 12) M5 rfl (by decide) c.1 (by omega), bI_s, e9, i32_id (x := rd M v1) (by omega) (by omega), if_neg (by omega), e_cell_in (n := 12) M5 rfl (by decide) c.1 (by omega), bI_s, e40, e_floorMod M5 (by omega) (by omega) (by omega) (by omega), bI_s, e_set (n := 12) M5 rfl (by decide) c.1 (by omega), bV_s, bV_s]
  generalize hy : (sf M v1 + -v2) % rd M v1 = y
  have hyr : 0 ≤ y ∧ y < rd M v1 := by
    rw [← hy]
    exact ⟨Int.emod_nonneg _ (by omega), Int.emod_lt_of_pos _ (by omega)⟩
  rw [e_cell_in (n := 12) _ rfl (by decide) c.1 (by omega), bI_s, up_eq]
  refine wq_some ?_
  show wq (f_M_hold v1 v2 (up M5 40 v1.toNat y)) (fun q' => y = q'.1 ∧ Rl (n + 1) q'.2 q'.2)
  generalize hX : up M5 40 v1.toNat y = X
  have FX : Fr acL M X := by rw [← hX]; exact (k2.cov (l' := acL) rfl).up (by simp [acL])
  have x108 : X 108 = M 108 := by rw [← hX, up_row (by decide), k2.row 108 rfl]
  have x78 : X 78 = M 78 := by rw [← hX, up_row (by decide), k2.row 78 rfl]
  have x120 : X 120 = M 120 := by rw [← hX, up_row (by decide), k2.row 120 rfl]
  have FX' : Fr [(44, 99999), (39, 9), (40, 99999)] M X := by rw [← hX]; exact (k2.cov rfl).up (by simp)
  have hmX : Rm M X := Rm.fr rmR FX' rfl
  unfold f_M_hold
  rw [e_isStreet h1 hmX i1, bI_s]
  refine wq_c0 (fun z => absurd c z) (fun _ => ?_)
  rw [e_in _ i2 (by decide) (by decide) (by decide) (by decide), bI_s]
  refine wq_c1 (fun _ => ?_) (fun z => absurd ⟨by omega, by omega⟩ z)
  refine wq_V (s_keeps (M := X) (by rw [x78]; exact p1) (by rw [x78]; exact p2)) (fun X4 ⟨r1, r2⟩ => ?_)
  have hm4 : Rm M X4 := hmX.fr r2 rfl
  have y108 : X4 108 = M 108 := by rw [r2.row 108 rfl, x108]
  have ey : (i32 (sf M v1 + -v2 + 100 * rd M v1)).tmod (i32 (rd M v1)) = y := by
    rw [i32_id (x := sf M v1 + -v2 + 100 * rd M v1) (by omega) (by omega), i32_id (x := rd M v1) (by omega) (by omega), tmod_pos (by omega), Int.add_mul_emod_self_right, hy]
  unfold f_M_shifts0
  rw [e_shift hm4 c.1 (by omega), bI_s, e_round hm4 c.1 (by omega), bI_s, e_round hm4 c.1 (by omega), bI_s, ey, i32_id (x := 1 + v1) (by omega) (by omega)]
  rw [show (gd (¬ i32 (rd M v1) = 0) <| gd (0 ≤ 1 + v1 ∧ 1 + v1 < ((31 : Nat) : Int)) <| bd (up X4 108 (1 + v1).toNat y) (fun M7 => some M7)) = some (up X4 108 (1 + v1).toNat y) from by rw [gd_t (by rw [i32_id (x := rd M v1) (by omega) (by omega)]; omega), gd_t (by omega)]; rfl, bV_s]
  unfold f_M_shiftOf
  rw [i32_id (x := 1 + v1) (by omega) (by omega), gd_t (by omega), bI_s, up_eq]
  refine wq_some ⟨rfl, ?_⟩
  show Rl (n + 1) (up X4 108 (1 + v1).toNat y) (up X4 108 (1 + v1).toNat y)
  generalize hN : up X4 108 (1 + v1).toNat y = N
  have FXN : Fr [(78, 63), (78, 64), (120, 99999), (108, 99999)] X N := by rw [← hN]; exact (r2.cov rfl).up (by simp)
  have FN : Fr acL M N := FX.tr (FXN.cov rfl)
  have n0 : N 108 (1 + v1).toNat = y := by rw [← hN, up_eq]
  have nk : ∀ k : Nat, ¬ k = (1 + v1).toNat → N 108 k = M 108 k := fun k hk => by rw [← hN, up_col hk, y108]
  have hu : Rt M N := Rt.of FN rfl
  have hK : kC M N := k1.c (by rw [FXN.row 39 rfl, ← hX, up_row (by decide)]) (by rw [FXN.row 44 rfl, ← hX, up_row (by decide)])
  have hKR : kR M N := r1.c (by rw [x78]) (by rw [x78]) x108 x120 (by rw [← hN, up_row (by decide)]) (by rw [← hN, up_row (by decide)]) (by rw [← hN, up_row (by decide)])
  have FM5 : Fr [(44, 99999), (39, 9), (40, 99999), (78, 63), (78, 64), (120, 99999), (108, 99999)] M N := Fr.tr (FX'.cov rfl) (FXN.cov rfl)
  have n40 : N 40 v1.toNat = y := by rw [FXN.row 40 rfl, ← hX, up_eq]
  have n40k : ∀ k : Nat, ¬ k = v1.toNat → N 40 k = M 40 k := fun k hk => by rw [FXN.row 40 rfl, ← hX, up_col hk, k2.row 40 rfl]
  refine rel_act hR FN (h3.2.2.fr FM5 rfl) (by rw [FM5.row 48 rfl]; exact h10.2.2) hK hKR ?_ ?_
  · obtain ⟨a1, a2, a3⟩ := h2
    refine ⟨by unfold hr at *; rw [nk _ (by omega)]; exact a1, fun s s1 s2 => ?_, fun w w1 w2 => ?_⟩
    · rw [rt_nS hu] at s2
      have := a2 s s1 s2
      rw [rt_rd hu s1]
      by_cases z : s = v1
      · subst z
        unfold sf
        rw [n0]; exact hyr
      · unfold sf at *
        rw [nk _ (by omega)]
        exact this
    · rw [rt_nW hu] at w2
      have hW := h1.2.2.1
      have := a3 w w1 w2
      unfold NwW pl gl fr at *
      rw [rt_wx hu w1, rt_wy hu w1, nk _ (by omega), nk _ (by omega), nk _ (by omega)]
      exact this
  · obtain ⟨a1, a2, a3⟩ := h3.2.1
    refine ⟨by unfold hr at *; rw [FM5.at 39 8 rfl, nk _ (by omega)]; exact a1, fun s s1 s2 => ?_, fun w w1 w2 => ?_⟩
    · rw [rt_nS hu] at s2
      have := a2 s s1 s2
      by_cases z : s = v1
      · subst z
        unfold sf
        rw [n0]; exact n40
      · unfold sf at *
        rw [nk _ (by omega), n40k _ (by omega)]
        exact this
    · rw [rt_nW hu] at w2
      have := a3 w w1 w2
      unfold pl gl fr at *
      rw [FM5.row 41 rfl, FM5.row 42 rfl, FM5.row 43 rfl, nk _ (by omega), nk _ (by omega), nk _ (by omega)]
      exact this
