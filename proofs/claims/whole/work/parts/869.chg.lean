theorem Rt.of {l : List (Nat × Nat)} {M M' : Mm} (h : Fr l M M') (hh : l.all (fun p => p.1 != 98 && (p.1 != 99 && (p.1 != 100 && (p.1 != 101 && (p.1 != 102 && (p.1 != 104 && p.1 != 105)))))) = true) : Rt M M' := by
  have hz := fun p hp => List.all_eq_true.mp hh p hp
  simp only [Bool.and_eq_true, bne_iff_ne, ne_eq] at hz
  refine ⟨fun k _ => ?_, fun k _ => ?_, fun k _ => ?_, fun k _ => ?_, fun k _ => ?_, fun k _ => ?_, fun k _ => ?_⟩
  · rw [h.rw' 98 fun p hp => (hz p hp).1]
  · rw [h.rw' 99 fun p hp => (hz p hp).2.1]
  · rw [h.rw' 100 fun p hp => (hz p hp).2.2.1]
  · rw [h.rw' 101 fun p hp => (hz p hp).2.2.2.1]
  · rw [h.rw' 102 fun p hp => (hz p hp).2.2.2.2.1]
  · rw [h.rw' 104 fun p hp => (hz p hp).2.2.2.2.2.1]
  · rw [h.rw' 105 fun p hp => (hz p hp).2.2.2.2.2.2]
theorem Tp.c {V V' M M' : Mm} (h : Tp V M) (e1 : V' 78 1 = V 78 1) (e2 : V' 79 = V 79) (e3 : M' 1 1 = M 1 1) (e4 : M' 2 = M 2) : Tp V' M' := by
  unfold Tp; rw [e1, e2, e3, e4]; exact h
theorem Ms.c {V V' M M' : Mm} (h : Ms V M) (e1 : V' 78 7 = V 78 7) (e2 : V' 78 8 = V 78 8) (e3 : V' 80 = V 80) (e4 : V' 78 65 = V 78 65) (e5 : M' 0 11 = M 0 11) (e6 : M' 0 12 = M 0 12) (e7 : M' 77 = M 77) (e8 : M' 0 13 = M 0 13) : Ms V' M' := by
  unfold Ms; rw [e1, e2, e3, e4, e5, e6, e7, e8]; exact h
theorem Pc.c {V V' M M' : Mm} (h : Pc V M) (e1 : V' 78 99 = V 78 99) (e2 : V' 145 = V 145) (e3 : M' 39 7 = M 39 7) (e4 : M' 45 = M 45) : Pc V' M' := by
  unfold Pc; rw [e1, e2, e3, e4]; exact h
/-- what the calls that leave the town may touch -/
def scB : List (Nat × Nat) := [(0, 99999), (1, 99999), (2, 99999), (39, 99999), (40, 99999), (41, 99999), (42, 99999), (43, 99999), (44, 99999), (45, 99999), (64, 99999), (65, 99999), (66, 99999), (67, 99999), (77, 99999), (78, 99999), (79, 99999), (80, 99999), (108, 99999), (120, 99999), (121, 99999), (145, 99999), (18, 99999), (47, 99999), (48, 6), (48, 10), (49, 99999), (50, 99999), (51, 99999), (52, 99999), (53, 99999), (54, 99999), (55, 6), (55, 7), (56, 99999), (57, 99999), (58, 99999), (59, 99999), (60, 99999), (61, 99999), (62, 99999), (63, 99999), (68, 99999), (69, 99999), (106, 99999), (107, 99999), (109, 99999), (110, 99999), (111, 99999), (112, 99999), (113, 99999), (114, 99999), (115, 99999), (116, 99999), (117, 99999), (118, 99999), (119, 99999), (122, 99999), (123, 99999)]
theorem rel_c {n : Nat} {M M' : Mm} (h : Rl n M M) (hF : Fr scB M M') (hC : Cc M M') (hb : M' 48 10 = 0) (hNw : Nw M') (hNc : Nc M' M') (h4 : Tp M' M') (h5 : Ms M' M') (h7 : Pa M' M') (h8 : Pc M' M') (h9 : Se M' M') : Rl (n + 1) M' M' := by
  obtain ⟨h1, h2, h3, -, -, h6, -, -, -, h10, h11⟩ := h
  have hu : Rt M M' := Rt.of hF rfl
  have e46 : M' 46 3 = M 46 3 := by rw [hF.row 46 rfl]
  exact ⟨h1.rt hu, hNw, ⟨(h3.1.fr hF rfl).rt hu, hNc, hC.rt hu⟩, h4, h5, h6.cg hu (hF.row 5 rfl), h7, h8, h9, ⟨by rw [hF.row 38 rfl]; exact h10.1, by rw [hF.row 76 rfl]; exact h10.2.1, hb⟩, by rw [e46]; omega⟩
theorem e_ref {M : Mm} (k : Nat) (hk : k < 6) : f_BT_refused (k : Int) M = some (-1, up M 77 k (M 77 k + 1)) := by
  unfold f_BT_refused
  rw [e_cell_in (n := 6) M rfl (by decide) (by omega) (by omega), bI_s, e_set (n := 6) M rfl (by decide) (by omega) (by omega), bV_s, Int.toNat_natCast]
theorem e_ref0 {M : Mm} : f_BT_refused 0 M = some (-1, up M 77 0 (M 77 0 + 1)) := e_ref 0 (by decide)
theorem e_ref1 {M : Mm} : f_BT_refused 1 M = some (-1, up M 77 1 (M 77 1 + 1)) := e_ref 1 (by decide)
theorem e_ref2 {M : Mm} : f_BT_refused 2 M = some (-1, up M 77 2 (M 77 2 + 1)) := e_ref 2 (by decide)
theorem e_ref3 {M : Mm} : f_BT_refused 3 M = some (-1, up M 77 3 (M 77 3 + 1)) := e_ref 3 (by decide)
theorem e_ref4 {M : Mm} : f_BT_refused 4 M = some (-1, up M 77 4 (M 77 4 + 1)) := e_ref 4 (by decide)
theorem e_ref5 {M : Mm} : f_BT_refused 5 M = some (-1, up M 77 5 (M 77 5 + 1)) := e_ref 5 (by decide)
def refL : List (Nat × Nat) := [(77, 99999), (80, 99999)]
/-- a refusal on both sides -/
theorem rel_ref {n : Nat} {M M' : Mm} (h : Rl n M M) (hq : Rl (n + 1) M' M') (k : Nat) : Rl (n + 1) (up (up M' 77 k (M' 77 k + 1)) 80 k ((up M' 77 k (M' 77 k + 1)) 80 k + 1)) (up (up M' 77 k (M' 77 k + 1)) 80 k ((up M' 77 k (M' 77 k + 1)) 80 k + 1)) := by
  have e : (up M' 77 k (M' 77 k + 1)) 80 k = M' 80 k := by rw [up_row (by decide)]
  rw [e]
  generalize hN : up (up M' 77 k (M' 77 k + 1)) 80 k (M' 80 k + 1) = N
  have hF : Fr refL M' N := by rw [← hN]; exact (Fr.rf.up (by simp [refL])).up (by simp [refL])
  have hu : Ru M' N := Ru.of hF rfl
  obtain ⟨h1, h2, h3, h4, h5, h6, h7, h8, h9, h10, h11⟩ := hq
  have e46 : N 46 3 = M' 46 3 := by rw [hF.row 46 rfl]
  refine ⟨h1.rt hu.t, h2.ru hu, ⟨(h3.1.fr hF rfl).rt hu.t, nc_ru (h3.2.1.fr hF rfl) hu, (h3.2.2.fr hF rfl).rt hu.t⟩, h4.c (hF.at 78 1 rfl) (hF.row 79 rfl) (hF.at 1 1 rfl) (hF.row 2 rfl), ?_, h6.cg hu.t (hF.row 5 rfl), h7.cg hu.t (hF.at 78 63 rfl) (hF.at 78 64 rfl) (hF.row 120 rfl) (hF.at 39 9 rfl) (hF.row 44 rfl), h8.c (hF.at 78 99 rfl) (hF.row 145 rfl) (hF.at 39 7 rfl) (hF.row 45 rfl), h9.cg hu.t (hF.at 78 66 rfl) (hF.row 121 rfl) (hF.at 64 6 rfl) (hF.row 65 rfl) (hF.row 66 rfl) (hF.row 67 rfl), ⟨by rw [hF.row 38 rfl]; exact h10.1, by rw [hF.row 76 rfl]; exact h10.2.1, by rw [hF.row 48 rfl]; exact h10.2.2⟩, by rw [e46]; exact h11⟩
  unfold Ms at *
  rw [hF.row 0 rfl, hF.row 78 rfl]
  refine ⟨h5.1, h5.2.1, ?_, h5.2.2.2⟩
  have e5 := h5.2.2.1
  rw [← hN]
  funext j
  rw [up_row (by decide), up_at, up_at]
  by_cases c : j = k
  · subst c
    rw [if_pos ⟨rfl, rfl⟩, if_pos ⟨rfl, rfl⟩, e5]
  · rw [if_neg (fun z => c z.2), if_neg (fun z => c z.2), up_row (by decide), e5]
theorem rel_n {n : Nat} {M : Mm} (h : Rl n M M) : Rl (n + 1) M M := by
  obtain ⟨h1, h2, h3, h4, h5, h6, h7, h8, h9, h10, h11⟩ := h
  exact ⟨h1, h2, h3, h4, h5, h6, h7, h8, h9, h10, by omega⟩
theorem call_seed {n : Nat} {v1 : Int} (i1 : IR v1) : CallOk n (f_BT_seed v1) (f_M_seed v1) := by
  intro M hR
  unfold f_BT_seed
  rw [i32_id (x := v1) i1.1 i1.2]
  refine wq_if (fun c => wq_d (wq_some ?_)) (fun c => ?_)
  · show wq (f_M_seed v1 (up M 0 13 v1)) _
    unfold f_M_seed
    rw [i32_id (x := v1) i1.1 i1.2]
    refine wq_if (fun _ => wq_d (wq_some ⟨rfl, ?_⟩)) (fun z => absurd c z)
    generalize hN : up (up M 0 13 v1) 78 65 v1 = N
    have hF : Fr [(0, 13), (78, 65)] M N := by rw [← hN]; exact (Fr.rf.up (by simp)).up (by simp)
    have hu : Ru M N := Ru.of hF rfl
    obtain ⟨h1, h2, h3, h4, h5, h6, h7, h8, h9, h10, h11⟩ := id hR
    show Rl (n + 1) N N
    refine rel_c hR (hF.cov rfl) (h3.2.2.fr hF rfl) (by rw [hF.row 48 rfl]; exact h10.2.2) (h2.ru hu) (nc_ru (h3.2.1.fr hF rfl) hu) (h4.c (hF.at 78 1 rfl) (hF.row 79 rfl) (hF.at 1 1 rfl) (hF.row 2 rfl)) ?_ (h7.cg hu.t (hF.at 78 63 rfl) (hF.at 78 64 rfl) (hF.row 120 rfl) (hF.at 39 9 rfl) (hF.row 44 rfl)) (h8.c (hF.at 78 99 rfl) (hF.row 145 rfl) (hF.at 39 7 rfl) (hF.row 45 rfl)) (h9.cg hu.t (hF.at 78 66 rfl) (hF.row 121 rfl) (hF.at 64 6 rfl) (hF.row 65 rfl) (hF.row 66 rfl) (hF.row 67 rfl))
    have ea : N 0 13 = v1 := by rw [← hN, up_row (by decide), up_eq]
    have eb : N 78 65 = v1 := by rw [← hN, up_eq]
    unfold Ms
    rw [ea, eb, hF.at 0 11 rfl, hF.at 0 12 rfl, hF.at 78 7 rfl, hF.at 78 8 rfl, hF.row 77 rfl, hF.row 80 rfl]
    exact ⟨h5.1, h5.2.1, h5.2.2.1, rfl, c, i1.2⟩
  · rw [e_ref4, bI_s]
    refine wq_some ?_
    show wq (f_M_seed v1 (up M 77 4 (M 77 4 + 1))) _
    unfold f_M_seed
    rw [i32_id (x := v1) i1.1 i1.2]
    exact wq_e (fun z => c z) (wq_d (wq_some ⟨rfl, rel_ref hR (rel_n hR) 4⟩))
theorem call_end {n : Nat} {v1 : Int} (i1 : IR v1) : CallOk n (f_BT_end v1) (f_M_end v1) := by
  intro M hR
  obtain ⟨h1, h2, h3, h4, h5, h6, h7, h8, h9, h10, h11⟩ := id hR
  have ht := h4.1
  have et := h4.2.2.1
  have hno : (v1 < 0 ∨ M 78 1 < v1) → wq (f_M_end v1 (up M 77 0 (M 77 0 + 1))) (fun q' => (0 : Int) = q'.1 ∧ Rl (n + 1) q'.2 q'.2) := by
    intro hh
    have e : (up M 77 0 (M 77 0 + 1)) 78 1 = M 78 1 := by rw [up_row (by decide)]
    unfold f_M_end f_M_end_J12
    rw [e, i32_id (x := v1) i1.1 i1.2, i32_id (x := M 78 1) (by omega) (by omega)]
    refine wq_if (fun c => wq_d (wq_some ⟨rfl, rel_ref hR (rel_n hR) 0⟩)) (fun c => ?_)
    exact wq_if (fun d => by omega) (fun d => wq_d (wq_some ⟨rfl, rel_ref hR (rel_n hR) 0⟩))
  unfold f_BT_end
  rw [et, i32_id (x := v1) i1.1 i1.2, i32_id (x := M 78 1) (by omega) (by omega), e_ref0, bI_s]
  refine wq_if (fun c => wq_some (hno (Or.inl c))) (fun c => wq_if (fun d => wq_d (wq_some ?_)) (fun d => wq_some (hno (Or.inr (by omega)))))
  show wq (f_M_end v1 (up M 1 1 v1)) _
  have e : (up M 1 1 v1) 78 1 = M 78 1 := by rw [up_row (by decide)]
  unfold f_M_end
  rw [e, i32_id (x := v1) i1.1 i1.2, i32_id (x := M 78 1) (by omega) (by omega)]
  refine wq_if (fun c' => absurd c' c) (fun _ => wq_if (fun _ => wq_d (wq_some ⟨rfl, ?_⟩)) (fun d' => absurd d d'))
  generalize hN : up (up M 1 1 v1) 78 1 v1 = N
  have hF : Fr [(1, 1), (78, 1)] M N := by rw [← hN]; exact (Fr.rf.up (by simp)).up (by simp)
  have hu : Ru M N := Ru.of hF rfl
  show Rl (n + 1) N N
  refine rel_c hR (hF.cov rfl) (h3.2.2.fr hF rfl) (by rw [hF.row 48 rfl]; exact h10.2.2) (h2.ru hu) (nc_ru (h3.2.1.fr hF rfl) hu) ?_ (h5.c (hF.at 78 7 rfl) (hF.at 78 8 rfl) (hF.row 80 rfl) (hF.at 78 65 rfl) (hF.at 0 11 rfl) (hF.at 0 12 rfl) (hF.row 77 rfl) (hF.at 0 13 rfl)) (h7.cg hu.t (hF.at 78 63 rfl) (hF.at 78 64 rfl) (hF.row 120 rfl) (hF.at 39 9 rfl) (hF.row 44 rfl)) (h8.c (hF.at 78 99 rfl) (hF.row 145 rfl) (hF.at 39 7 rfl) (hF.row 45 rfl)) (h9.cg hu.t (hF.at 78 66 rfl) (hF.row 121 rfl) (hF.at 64 6 rfl) (hF.row 65 rfl) (hF.row 66 rfl) (hF.row 67 rfl))
  have ea : N 1 1 = v1 := by rw [← hN, up_row (by decide), up_eq]
  have eb : N 78 1 = v1 := by rw [← hN, up_eq]
  unfold Tp
  rw [ea, eb, hF.row 79 rfl, hF.row 2 rfl]
  exact ⟨⟨by omega, by omega⟩, h4.2.1, rfl, h4.2.2.2⟩
