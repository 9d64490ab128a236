theorem kC.c {M M1 M' : Mm} (h : kC M M1) (e1 : M' 39 9 = M1 39 9) (e2 : M' 44 = M1 44) : kC M M' := by
  unfold kC kE at *
  rw [e1, e2]; exact h
theorem kR.c {M X X' N : Mm} (h : kR X X') (e1 : X 78 63 = M 78 63) (e2 : X 78 64 = M 78 64) (e3 : X 108 = M 108) (e4 : X 120 = M 120) (f1 : N 78 63 = X' 78 63) (f2 : N 78 64 = X' 78 64) (f3 : N 120 = X' 120) : kR M N := by
  unfold kR at *
  rw [f1, f2, f3, ← e1, ← e2, ← e3, ← e4]; exact h
/-- what an act touches -/
def acL : List (Nat × Nat) := [(44, 99999), (39, 8), (39, 9), (40, 99999), (41, 99999), (42, 99999), (43, 99999), (78, 63), (78, 64), (120, 99999), (108, 99999)] ++ scA
theorem rel_act {n : Nat} {M N : Mm} (hR : Rl n M M) (hF : Fr acL M N) (hC : Cc M N) (hb : N 48 10 = 0) (hK : kC M N) (hKR : kR M N) (hNw : Nw N) (hNc : Nc N N) : Rl (n + 1) N N := by
  have hu : Rt M N := Rt.of hF rfl
  obtain ⟨h1, h2, h3, h4, h5, h6, h7, h8, h9, h10, h11⟩ := id hR
  exact rel_c hR (hF.cov rfl) hC hb hNw hNc (h4.c (hF.at 78 1 rfl) (hF.row 79 rfl) (hF.at 1 1 rfl) (hF.row 2 rfl)) (h5.c (hF.at 78 7 rfl) (hF.at 78 8 rfl) (hF.row 80 rfl) (hF.at 78 65 rfl) (hF.at 0 11 rfl) (hF.at 0 12 rfl) (hF.row 77 rfl) (hF.at 0 13 rfl)) (pa_keep h1 h2 h3.2.1 h7 hu hK hKR) (h8.c (hF.at 78 99 rfl) (hF.row 145 rfl) (hF.at 39 7 rfl) (hF.row 45 rfl)) (h9.cg hu (hF.at 78 66 rfl) (hF.row 121 rfl) (hF.at 64 6 rfl) (hF.row 65 rfl) (hF.row 66 rfl) (hF.row 67 rfl))
theorem rmR {M : Mm} : Rm M M := ⟨rfl, rfl, rfl, rfl, rfl, rfl, rfl⟩
theorem call_go {n : Nat} {v1 : Int} (i1 : IR v1) : CallOk n (f_BT_go v1) (f_M_go v1) := by
  intro M hR
  obtain ⟨h1, h2, h3, h4, h5, h6, h7, h8, h9, h10, h11⟩ := id hR
  have ehr : M 39 8 = hr M := h3.2.1.1
  have hh := h2.1
  have hP := h7
  obtain ⟨p1, p2, p3, -⟩ := hP
  have hno : ¬ ((1 ≤ v1 ∧ v1 ≤ 500) ∧ hr M + v1 ≤ 9999) → wq (f_M_go v1 (up M 77 2 (M 77 2 + 1))) (fun q' => (-1 : Int) = q'.1 ∧ Rl (n + 1) q'.2 q'.2) := by
    intro z
    have e : (up M 77 2 (M 77 2 + 1)) 108 0 = hr M := by rw [up_row (by decide)]; rfl
    unfold f_M_go f_M_go_J26
    rw [e_in _ i1 (by decide) (by decide) (by decide) (by decide), bI_s]
    refine wq_c0 (fun c => wq_d (wq_some ⟨rfl, rel_ref hR (rel_n hR) 2⟩)) (fun c => ?_)
    rw [e, i32_id (x := hr M + v1) (by omega) (by omega), i32_id (x := 9999) (by omega) (by omega)]
    exact wq_e (fun d => z ⟨c, d⟩) (wq_d (wq_some ⟨rfl, rel_ref hR (rel_n hR) 2⟩))
  unfold f_BT_go
  rw [ehr, i32_id (x := v1) i1.1 i1.2, i32_id (x := 1) (by omega) (by omega), i32_id (x := 500) (by omega) (by omega), e_ref2, bI_s]
  refine wq_if (fun c => wq_some (hno (fun z => by omega))) (fun c => wq_if (fun d => wq_some (hno (fun z => by omega))) (fun d => ?_))
  rw [i32_id (x := hr M + v1) (by omega) (by omega), i32_id (x := 9999) (by omega) (by omega)]
  refine wq_if (fun g => ?_) (fun g => wq_some (hno (fun z => g z.2)))
  refine wq_V (s_keep (M := M) (by omega) (by omega)) (fun M5 ⟨k1, k2⟩ => wq_d (wq_some ?_))
  rw [k2.at 39 8 rfl, ehr, up_eq]
  show wq (f_M_go v1 (up M5 39 8 (hr M + v1))) (fun q' => hr M + v1 = q'.1 ∧ Rl (n + 1) q'.2 q'.2)
  generalize hX : up M5 39 8 (hr M + v1) = X
  have FX : Fr acL M X := by rw [← hX]; exact (k2.cov (l' := acL) rfl).up (by decide)
  have x108 : X 108 = M 108 := by rw [← hX, up_row (by decide), k2.row 108 rfl]
  have x63 : X 78 = M 78 := by rw [← hX, up_row (by decide), k2.row 78 rfl]
  have x120 : X 120 = M 120 := by rw [← hX, up_row (by decide), k2.row 120 rfl]
  unfold f_M_go
  rw [e_in _ i1 (by decide) (by decide) (by decide) (by decide), bI_s]
  refine wq_c0 (fun z => absurd ⟨by omega, by omega⟩ z) (fun _ => ?_)
  rw [x108, show M 108 0 = hr M from rfl, i32_id (x := hr M + v1) (by omega) (by omega), i32_id (x := 9999) (by omega) (by omega)]
  refine wq_if (fun _ => ?_) (fun z => absurd g z)
  refine wq_V (s_keeps (M := X) (by rw [x63]; exact p1) (by rw [x63]; exact p2)) (fun X4 ⟨r1, r2⟩ => wq_d (wq_some ?_))
  have y108 : X4 108 = M 108 := by rw [r2.row 108 rfl, x108]
  rw [y108, show M 108 0 = hr M from rfl, up_eq]
  refine ⟨rfl, ?_⟩
  show Rl (n + 1) (up X4 108 0 (hr M + v1)) (up X4 108 0 (hr M + v1))
  generalize hN : up X4 108 0 (hr M + v1) = N
  have FN : Fr acL M N := by rw [← hN]; exact (FX.tr (r2.cov rfl)).up (by decide)
  have FXN : Fr [(78, 63), (78, 64), (120, 99999), (108, 99999)] X N := by rw [← hN]; exact (r2.cov rfl).up (by decide)
  have n0 : N 108 0 = hr M + v1 := by rw [← hN, up_eq]
  have nk : ∀ k : Nat, ¬ k = 0 → N 108 k = M 108 k := fun k hk => by rw [← hN, up_col hk, y108]
  have hu : Rt M N := Rt.of FN rfl
  have hK : kC M N := k1.c (by rw [FXN.row 39 rfl, ← hX, up_col (by decide)]) (by rw [FXN.row 44 rfl, ← hX, up_row (by decide)])
  have hKR : kR M N := r1.c (by rw [x63]) (by rw [x63]) x108 x120 (by rw [← hN, up_row (by decide)]) (by rw [← hN, up_row (by decide)]) (by rw [← hN, up_row (by decide)])
  have n39 : N 39 8 = hr M + v1 := by rw [FXN.row 39 rfl, ← hX, up_eq]
  have FM5 : Fr [(44, 99999), (39, 99999), (78, 63), (78, 64), (120, 99999), (108, 99999)] M N := by
    refine Fr.tr (M' := X) ?_ (FXN.cov rfl)
    rw [← hX]; exact (k2.cov rfl).up (by decide)
  refine rel_act hR FN (h3.2.2.fr FM5 rfl) (by rw [FM5.row 48 rfl]; exact h10.2.2) hK hKR ?_ ?_
  · obtain ⟨-, a2, a3⟩ := h2
    refine ⟨by show 0 ≤ N 108 0 ∧ N 108 0 ≤ 9999; rw [n0]; omega, fun s s1 s2 => ?_, fun w w1 w2 => ?_⟩
    · rw [rt_nS hu] at s2
      have := a2 s s1 s2
      unfold sf at *
      rw [rt_rd hu s1, nk _ (by omega)]
      exact this
    · rw [rt_nW hu] at w2
      have := a3 w w1 w2
      unfold NwW pl gl fr at *
      rw [rt_wx hu w1, rt_wy hu w1, nk _ (by omega), nk _ (by omega), nk _ (by omega)]
      exact this
  · obtain ⟨-, a2, a3⟩ := h3.2.1
    refine ⟨n39.trans n0.symm, fun s s1 s2 => ?_, fun w w1 w2 => ?_⟩
    · rw [rt_nS hu] at s2
      have := a2 s s1 s2
      unfold sf at *
      rw [FM5.row 40 rfl, nk _ (by omega)]
      exact this
    · rw [rt_nW hu] at w2
      have := a3 w w1 w2
      unfold pl gl fr at *
      rw [FM5.row 41 rfl, FM5.row 42 rfl, FM5.row 43 rfl, nk _ (by omega), nk _ (by omega), nk _ (by omega)]
      exact this
