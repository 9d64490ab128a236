theorem call_days {n : Nat} {v1 : Int} (i1 : IR v1) : CallOk n (f_BT_days v1) (f_M_days v1) := by
  intro M hR
  obtain ⟨h1, h2, h3, h4, h5, h6, h7, h8, h9, h10, h11⟩ := id hR
  have hS := h1.2.1
  have hW := h1.2.2.1
  have ehr : M 39 8 = hr M := h3.2.1.1
  have hh := h2.1
  obtain ⟨p1, p2, p3, -⟩ := id h7
  have hno : ¬ ((1 ≤ v1 ∧ v1 ≤ 30) ∧ hr M + 24 * v1 ≤ 9999) → wq (f_M_days v1 (up M 77 2 (M 77 2 + 1))) (fun q' => (-1 : Int) = q'.1 ∧ Rl (n + 1) q'.2 q'.2) := by
    intro z
    have e : (up M 77 2 (M 77 2 + 1)) 108 0 = hr M := by rw [up_row (by decide)]; rfl
    unfold f_M_days f_M_days_J29
    rw [e_in _ i1 (by decide) (by decide) (by decide) (by decide), bI_s]
    refine wq_c0 (fun c => wq_d (wq_some ⟨rfl, rel_ref hR (rel_n hR) 2⟩)) (fun c => ?_)
    rw [e, i32_id (x := hr M + 24 * v1) (by omega) (by omega), i32_id (x := 9999) (by omega) (by omega)]
    exact wq_e (fun d => z ⟨c, d⟩) (wq_d (wq_some ⟨rfl, rel_ref hR (rel_n hR) 2⟩))
  unfold f_BT_days
  rw [ehr, i32_id (x := v1) i1.1 i1.2, i32_id (x := 1) (by omega) (by omega), i32_id (x := 30) (by omega) (by omega), e_ref2, bI_s]
  refine wq_if (fun c => wq_some (hno (fun z => by omega))) (fun c => wq_if (fun d => wq_some (hno (fun z => by omega))) (fun d => ?_))
  rw [i32_id (x := hr M + v1 * 24) (by omega) (by omega), i32_id (x := 9999) (by omega) (by omega)]
  refine wq_if (fun g => ?_) (fun g => wq_some (hno (fun z => g (by omega))))
  refine wq_V (s_keep (M := M) (by omega) (by omega)) (fun M5 ⟨k1, k2⟩ => ?_)
  have hg : gOk M (M 78 65, fun k => M 108 (1 + k)) := by
    refine ⟨h5.2.2.2.2, fun s s1 s2 => ?_⟩
    have := h2.2.1 s s1 s2
    unfold sf at this
    rw [show (1 + s).toNat = 1 + s.toNat by omega] at this
    exact this
  refine s_daysC (g := (M 78 65, fun k => M 108 (1 + k))) (h := hr M) (w := v1) h1 (h3.1.fr k2 rfl) hg ⟨by omega, by omega⟩ (by rw [k2.at 39 8 rfl, ehr]) (by rw [k2.row 0 rfl]; exact h5.2.2.2.1) (fun s s1 s2 => ?_) (fun X x1 x2 x3 x4 => ?_)
  · have := h3.2.1.2.1 s s1 s2
    unfold sf at this
    rw [k2.row 40 rfl, this, show (1 + s).toNat = 1 + s.toNat by omega]
  show wq (f_M_days v1 X) (fun q' => hr M + 24 * v1 = q'.1 ∧ Rl (n + 1) q'.2 q'.2)
  have FX : Fr [(44, 99999), (39, 8), (39, 9), (40, 99999), (0, 13)] M X := (k2.cov rfl).tr (x4.cov rfl)
  have x78 : X 78 = M 78 := FX.row 78 rfl
  have x108 : X 108 = M 108 := FX.row 108 rfl
  have x120 : X 120 = M 120 := FX.row 120 rfl
  unfold f_M_days
  rw [e_in _ i1 (by decide) (by decide) (by decide) (by decide), bI_s]
  refine wq_c0 (fun z => absurd ⟨by omega, by omega⟩ z) (fun _ => ?_)
  rw [x108, show M 108 0 = hr M from rfl, i32_id (x := hr M + 24 * v1) (by omega) (by omega), i32_id (x := 9999) (by omega) (by omega)]
  refine wq_if (fun _ => ?_) (fun z => absurd (by omega : hr M + 24 * v1 ≤ 9999) z)
  refine wq_V (s_keeps (M := X) (by rw [x78]; exact p1) (by rw [x78]; exact p2)) (fun X4 ⟨r1, r2⟩ => ?_)
  have FX4 : Fr ([(44, 99999), (39, 8), (39, 9), (40, 99999), (0, 13)] ++ krL) M X4 := (FX.cov rfl).tr (r2.cov rfl)
  have y108 : X4 108 = M 108 := FX4.row 108 rfl
  refine s_daysM (V := M) (g := (M 78 65, fun k => M 108 (1 + k))) (h := hr M) (w := v1) h1 (Rt.of FX4 rfl) hg ⟨by omega, by omega⟩ (by omega) (by rw [y108]; rfl) (FX4.at 78 65 rfl) (fun s s1 s2 => by rw [y108, show (1 + s).toNat = 1 + s.toNat by omega]) (fun N n1 n2 n3 n4 n5 => ⟨rfl, ?_⟩)
  show Rl (n + 1) N N
  rw [y108] at n4
  have FN : Fr ([(44, 99999), (39, 8), (39, 9), (40, 99999), (0, 13)] ++ krL ++ dmL) M N := (FX4.cov rfl).tr (n5.cov rfl)
  have FXN : Fr (krL ++ dmL) X N := (r2.cov rfl).tr (n5.cov rfl)
  have hu : Rt M N := Rt.of FN rfl
  have hdk := dyN_ok h1 hg v1.toNat
  generalize dyN M (M 78 65, fun k => M 108 (1 + k)) v1.toNat = G at *
  have hK : kC M N := k1.c (by rw [FXN.row 39 rfl, x4.at 39 9 rfl]) (by rw [FXN.row 44 rfl, x4.row 44 rfl])
  have hKR : kR M N := r1.c (by rw [x78]) (by rw [x78]) x108 x120 (n5.at 78 63 rfl) (n5.at 78 64 rfl) (n5.row 120 rfl)
  refine rel_c hR (FN.cov rfl) (h3.2.2.fr FN rfl) (by rw [FN.row 48 rfl]; exact h10.2.2) ?_ ?_ (h4.c (FN.at 78 1 rfl) (FN.row 79 rfl) (FN.at 1 1 rfl) (FN.row 2 rfl)) ?_ (pa_keep h1 h2 h3.2.1 h7 hu hK hKR) (h8.c (FN.at 78 99 rfl) (FN.row 145 rfl) (FN.at 39 7 rfl) (FN.row 45 rfl)) (h9.cg hu (FN.at 78 66 rfl) (FN.row 121 rfl) (FN.at 64 6 rfl) (FN.row 65 rfl) (FN.row 66 rfl) (FN.row 67 rfl))
  · obtain ⟨-, a2, a3⟩ := h2
    refine ⟨by show 0 ≤ N 108 0 ∧ N 108 0 ≤ 9999; rw [n1]; omega, fun s s1 s2 => ?_, fun w w1 w2 => ?_⟩
    · rw [rt_nS hu] at s2
      rw [rt_rd hu s1]
      unfold sf
      rw [n3 s s1 s2]
      exact hdk.2 s s1 s2
    · rw [rt_nW hu] at w2
      have := a3 w w1 w2
      unfold NwW pl gl fr at *
      rw [rt_wx hu w1, rt_wy hu w1, n4 _ (by omega), n4 _ (by omega), n4 _ (by omega)]
      exact this
  · obtain ⟨-, a2, a3⟩ := h3.2.1
    refine ⟨by show N 39 8 = N 108 0; rw [FXN.row 39 rfl, x1, n1], fun s s1 s2 => ?_, fun w w1 w2 => ?_⟩
    · rw [rt_nS hu] at s2
      unfold sf
      rw [FXN.row 40 rfl, n3 s s1 s2]
      exact x3 s s1 s2
    · rw [rt_nW hu] at w2
      have := a3 w w1 w2
      unfold pl gl fr at *
      rw [FN.row 41 rfl, FN.row 42 rfl, FN.row 43 rfl, n4 _ (by omega), n4 _ (by omega), n4 _ (by omega)]
      exact this
  · unfold Ms at *
    rw [FN.at 0 11 rfl, FN.at 0 12 rfl, FN.at 78 7 rfl, FN.at 78 8 rfl, FN.row 77 rfl, FN.row 80 rfl, FXN.row 0 rfl, x2, n2]
    exact ⟨h5.1, h5.2.1, h5.2.2.1, rfl, hdk.1.1, hdk.1.2⟩
