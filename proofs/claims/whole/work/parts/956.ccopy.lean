theorem pt_20 : ptr 20 0 = 21 ∧ ptr 20 1 = 22 ∧ ptr 20 2 = 23 ∧ ptr 20 3 = 24 ∧ ptr 20 4 = 25 ∧ ptr 20 5 = 26 ∧ ptr 20 6 = 27 ∧ ptr 20 7 = 28 ∧ ptr 20 8 = 29 ∧ ptr 20 9 = 30 ∧ ptr 20 10 = 31 ∧ ptr 20 11 = 32 ∧ ptr 20 12 = 33 := by decide +kernel
theorem pt_3 : ptr 3 0 = 4 ∧ ptr 3 1 = 5 ∧ ptr 3 2 = 6 ∧ ptr 3 3 = 7 ∧ ptr 3 4 = 8 ∧ ptr 3 5 = 9 ∧ ptr 3 6 = 10 ∧ ptr 3 7 = 11 ∧ ptr 3 8 = 12 ∧ ptr 3 9 = 13 ∧ ptr 3 10 = 14 ∧ ptr 3 11 = 15 ∧ ptr 3 12 = 16 := by decide +kernel
theorem pt_16 : ptr 16 0 = 17 := by decide +kernel
theorem s_codeCopy {m : Nat} {M : Mm} (hm : M 33 3 = (m : Int)) (hm2 : m ≤ 1600) : wq (f_Code_copy 16 33 M) (fun N => (∀ k : Nat, k < m → N 17 k = M 34 k) ∧ Fr [(16, 3), (16, 4), (17, 99999)] M N) := by
  unfold f_Code_copy
  refine wq_d (wq_d ?_)
  obtain ⟨X, hX⟩ : ∃ X, X = up (up M 16 3 (M 33 3)) 16 4 (up M 16 3 (M 33 3) 33 4) := ⟨_, rfl⟩
  rw [← hX]
  have FX : Fr [(16, 3), (16, 4)] M X := by rw [hX]; exact (Fr.rf.up (by simp)).up (by simp)
  have x3 : X 16 3 = (m : Int) := by rw [hX, up_col (by decide), up_eq, hm]
  clear hX
  unfold f_Code_copy_L18
  refine loop_g (m := m) (kx := some) (fun i N => (∀ k : Nat, k < i → N 17 k = X 34 k) ∧ Fr [(17, 99999)] X N) (by omega) ⟨fun k hk => absurd hk (Nat.not_lt_zero _), Fr.rf⟩ (fun kH i N hi h => ⟨up N 17 i (N 34 i), ⟨fun k hk => ?_, h.2.up (Or.inr (by simp))⟩, ?_⟩) (fun kH N h => ?_) (fun N h => wq_some ⟨fun k hk => by rw [h.1 k hk, FX.row 34 rfl], (FX.cov rfl : Fr [(16, 3), (16, 4), (17, 99999)] _ _).tr (h.2.cov rfl)⟩)
  · rw [up_at]
    by_cases c : k = i
    · rw [if_pos ⟨rfl, c⟩, c, h.2.row 34 rfl]
    · rw [if_neg (fun z => c z.2)]
      exact h.1 k (by omega)
  · show f_Code_copy_B18 16 33 (fun v2 M => kH (v2, M)) (i : Int) N = _
    unfold f_Code_copy_B18
    rw [ptr_33, pt_16, h.2.row 16 rfl, x3, i32_id (x := (m : Int)) (by omega) (by omega), i32_id (x := (i : Int)) (by omega) (by omega), if_neg (by omega), e_cell_in (n := 1600) N rfl (by decide) (by omega) (by omega), bI_s, e_set (n := 1600) N rfl (by decide) (by omega) (by omega), bV_s, Int.toNat_natCast]
  · show f_Code_copy_B18 16 33 (fun v2 M => kH (v2, M)) (m : Int) N = _
    unfold f_Code_copy_B18
    rw [h.2.row 16 rfl, x3, if_pos (Int.le_refl _)]
def lCp : List (Nat × Nat) := [(4, 99999), (5, 99999), (6, 99999), (7, 99999), (8, 99999), (9, 99999), (10, 99999), (11, 99999), (12, 99999), (13, 99999), (14, 99999), (15, 99999), (16, 3), (16, 4), (17, 99999), (3, 13), (39, 8), (39, 9), (40, 99999), (41, 99999), (42, 99999), (43, 99999), (46, 3), (64, 6)]
def lCq : List (Nat × Nat) := [(4, 99999), (5, 99999), (6, 99999), (7, 99999), (8, 99999), (9, 99999), (10, 99999), (11, 99999), (12, 99999), (13, 99999), (14, 99999), (15, 99999), (16, 3), (16, 4), (17, 99999), (3, 13)]
/-- the town that stands in the class, as it has been read -/
def Cd (S : Tn) (N : Mm) : Prop := (∀ k : Nat, k < 3 → N 4 k = (S.c k : Int)) ∧ (∀ kd w : Nat, kd < 3 → w < S.c kd → N 5 (12 * kd + w) = pk5 (S.nm (12 * kd + w))) ∧ (∀ s : Nat, s < S.c 1 → N 6 s = S.r 0 s ∧ N 7 s = S.r 1 s ∧ N 8 s = S.r 2 s ∧ N 9 s = S.r 3 s ∧ N 11 s = S.r 5 s ∧ N 12 s = S.r 6 s ∧ N 40 s = S.r 4 s) ∧ (∀ w : Nat, w < S.c 2 → N 13 w = S.w 0 w ∧ N 14 w = S.w 1 w ∧ N 15 w = S.w 2 w ∧ N 41 w = S.w 1 w ∧ N 42 w = S.w 2 w ∧ N 43 w = 0) ∧ (∀ k : Nat, k < S.C.length → N 17 k = trC (S.C.getD k 0)) ∧ N 39 8 = S.bg ∧ N 39 9 = 0
theorem s_stands {S : Tn} {M : Mm} {A : Type} {g : Mm → Option A} {Q : A → Prop} (hD : Dn S M) (hR : Dr S M) (hS : Ws S) (hC1 : M 33 3 = (S.C.length : Int)) (hC2 : ∀ k : Nat, k < S.C.length → M 34 k = trC (S.C.getD k 0)) (hl : S.C.length ≤ 1600) (hk : ∀ N, Cd S N → N 46 3 = M 46 3 + 1 → N 64 6 = 0 → Fr lCp M N → wq (g N) Q) : wq (bV (f_Told_copy 3 20 M) (fun M4 => bV (f_Now_begin M4) (fun M5 => bV (f_Widths_forget M5) (fun M6 => bd (up M6 64 6 0) (fun M7 => g M7))))) Q := by
  obtain ⟨p0, p1, p2, p3, p4, p5, p6, p7, p8, p9, p10, p11, p12⟩ := pt_20
  obtain ⟨q0, q1, q2, q3, q4, q5, q6, q7, q8, q9, q10, q11, q12⟩ := pt_3
  obtain ⟨c0, c1, c2⟩ := hS.1.1
  refine wq_V (P := fun N => (∀ k : Nat, k < 3 → N 4 k = M 21 k) ∧ (∀ k : Nat, k < 36 → N 5 k = M 22 k) ∧ (∀ k : Nat, k < 12 → N 6 k = M 23 k ∧ N 7 k = M 24 k ∧ N 8 k = M 25 k ∧ N 9 k = M 26 k ∧ N 10 k = M 27 k ∧ N 11 k = M 28 k ∧ N 12 k = M 29 k) ∧ (∀ k : Nat, k < 6 → N 13 k = M 30 k ∧ N 14 k = M 31 k ∧ N 15 k = M 32 k) ∧ (∀ k : Nat, k < S.C.length → N 17 k = M 34 k) ∧ N 3 13 = M 20 13 ∧ Fr lCq M N) ?_ (fun M4 ⟨a1, a2, a3, a4, a5, a6, a7⟩ => ?_)
  · unfold f_Told_copy
    rw [p0, p1, p2, p3, p4, p5, p6, p7, p8, p9, p10, p11, p12, q0, q1, q2, q3, q4, q5, q6, q7, q8, q9, q10, q11, q12]
    refine wq_V (s_copy (n := 3) M rfl rfl (by decide) (by decide)) (fun M1 ⟨b1, f1⟩ => ?_)
    refine wq_V (s_copy (n := 36) M1 rfl rfl (by decide) (by decide)) (fun M2 ⟨b2, f2⟩ => ?_)
    refine wq_V (s_copy (n := 12) M2 rfl rfl (by decide) (by decide)) (fun M3 ⟨b3, f3⟩ => ?_)
    refine wq_V (s_copy (n := 12) M3 rfl rfl (by decide) (by decide)) (fun M4 ⟨b4, f4⟩ => ?_)
    refine wq_V (s_copy (n := 12) M4 rfl rfl (by decide) (by decide)) (fun M5 ⟨b5, f5⟩ => ?_)
    refine wq_V (s_copy (n := 12) M5 rfl rfl (by decide) (by decide)) (fun M6 ⟨b6, f6⟩ => ?_)
    refine wq_V (s_copy (n := 12) M6 rfl rfl (by decide) (by decide)) (fun M7 ⟨b7, f7⟩ => ?_)
    refine wq_V (s_copy (n := 12) M7 rfl rfl (by decide) (by decide)) (fun M8 ⟨b8, f8⟩ => ?_)
    refine wq_V (s_copy (n := 12) M8 rfl rfl (by decide) (by decide)) (fun M9 ⟨b9, f9⟩ => ?_)
    refine wq_V (s_copy (n := 6) M9 rfl rfl (by decide) (by decide)) (fun M10 ⟨b10, f10⟩ => ?_)
    refine wq_V (s_copy (n := 6) M10 rfl rfl (by decide) (by decide)) (fun M11 ⟨b11, f11⟩ => ?_)
    refine wq_V (s_copy (n := 6) M11 rfl rfl (by decide) (by decide)) (fun M12 ⟨b12, f12⟩ => ?_)
    have g33 : M12 33 = M 33 := by rw [f12.row 33 rfl, f11.row 33 rfl, f10.row 33 rfl, f9.row 33 rfl, f8.row 33 rfl, f7.row 33 rfl, f6.row 33 rfl, f5.row 33 rfl, f4.row 33 rfl, f3.row 33 rfl, f2.row 33 rfl, f1.row 33 rfl]
    have g34 : M12 34 = M 34 := by rw [f12.row 34 rfl, f11.row 34 rfl, f10.row 34 rfl, f9.row 34 rfl, f8.row 34 rfl, f7.row 34 rfl, f6.row 34 rfl, f5.row 34 rfl, f4.row 34 rfl, f3.row 34 rfl, f2.row 34 rfl, f1.row 34 rfl]
    refine wq_V (s_codeCopy (m := S.C.length) (M := M12) (by rw [g33]; exact hC1) hl) (fun M13 ⟨b13, f13⟩ => wq_d (wq_some ?_))
    have f14 : Fr [(3, 13)] M13 (up M13 3 13 (M13 20 13)) := Fr.rf.up (by simp)
    have b14 : up M13 3 13 (M13 20 13) 3 13 = M13 20 13 := up_eq _ _ _ _
    generalize up M13 3 13 (M13 20 13) = M14 at *
    have e1 : Fr lCq M M1 := f1.cov rfl
    have e2 : Fr lCq M M2 := e1.tr (f2.cov rfl)
    have e3 : Fr lCq M M3 := e2.tr (f3.cov rfl)
    have e4 : Fr lCq M M4 := e3.tr (f4.cov rfl)
    have e5 : Fr lCq M M5 := e4.tr (f5.cov rfl)
    have e6 : Fr lCq M M6 := e5.tr (f6.cov rfl)
    have e7 : Fr lCq M M7 := e6.tr (f7.cov rfl)
    have e8 : Fr lCq M M8 := e7.tr (f8.cov rfl)
    have e9 : Fr lCq M M9 := e8.tr (f9.cov rfl)
    have e10 : Fr lCq M M10 := e9.tr (f10.cov rfl)
    have e11 : Fr lCq M M11 := e10.tr (f11.cov rfl)
    have e12 : Fr lCq M M12 := e11.tr (f12.cov rfl)
    have e13 : Fr lCq M M13 := e12.tr (f13.cov rfl)
    have e14 : Fr lCq M M14 := e13.tr (f14.cov rfl)
    refine ⟨fun k hk => ?_, fun k hk => ?_, fun k hk => ⟨?_, ?_, ?_, ?_, ?_, ?_, ?_⟩, fun k hk => ⟨?_, ?_, ?_⟩, fun k hk => ?_, ?_, e14⟩
    · rw [f14.row 4 rfl, f13.row 4 rfl, f12.row 4 rfl, f11.row 4 rfl, f10.row 4 rfl, f9.row 4 rfl, f8.row 4 rfl, f7.row 4 rfl, f6.row 4 rfl, f5.row 4 rfl, f4.row 4 rfl, f3.row 4 rfl, f2.row 4 rfl]; exact b1 k hk
    · rw [f14.row 5 rfl, f13.row 5 rfl, f12.row 5 rfl, f11.row 5 rfl, f10.row 5 rfl, f9.row 5 rfl, f8.row 5 rfl, f7.row 5 rfl, f6.row 5 rfl, f5.row 5 rfl, f4.row 5 rfl, f3.row 5 rfl, b2 k hk, e1.row 22 rfl]
    · rw [f14.row 6 rfl, f13.row 6 rfl, f12.row 6 rfl, f11.row 6 rfl, f10.row 6 rfl, f9.row 6 rfl, f8.row 6 rfl, f7.row 6 rfl, f6.row 6 rfl, f5.row 6 rfl, f4.row 6 rfl, b3 k hk, e2.row 23 rfl]
    · rw [f14.row 7 rfl, f13.row 7 rfl, f12.row 7 rfl, f11.row 7 rfl, f10.row 7 rfl, f9.row 7 rfl, f8.row 7 rfl, f7.row 7 rfl, f6.row 7 rfl, f5.row 7 rfl, b4 k hk, e3.row 24 rfl]
    · rw [f14.row 8 rfl, f13.row 8 rfl, f12.row 8 rfl, f11.row 8 rfl, f10.row 8 rfl, f9.row 8 rfl, f8.row 8 rfl, f7.row 8 rfl, f6.row 8 rfl, b5 k hk, e4.row 25 rfl]
    · rw [f14.row 9 rfl, f13.row 9 rfl, f12.row 9 rfl, f11.row 9 rfl, f10.row 9 rfl, f9.row 9 rfl, f8.row 9 rfl, f7.row 9 rfl, b6 k hk, e5.row 26 rfl]
    · rw [f14.row 10 rfl, f13.row 10 rfl, f12.row 10 rfl, f11.row 10 rfl, f10.row 10 rfl, f9.row 10 rfl, f8.row 10 rfl, b7 k hk, e6.row 27 rfl]
    · rw [f14.row 11 rfl, f13.row 11 rfl, f12.row 11 rfl, f11.row 11 rfl, f10.row 11 rfl, f9.row 11 rfl, b8 k hk, e7.row 28 rfl]
    · rw [f14.row 12 rfl, f13.row 12 rfl, f12.row 12 rfl, f11.row 12 rfl, f10.row 12 rfl, b9 k hk, e8.row 29 rfl]
    · rw [f14.row 13 rfl, f13.row 13 rfl, f12.row 13 rfl, f11.row 13 rfl, b10 k hk, e9.row 30 rfl]
    · rw [f14.row 14 rfl, f13.row 14 rfl, f12.row 14 rfl, b11 k hk, e10.row 31 rfl]
    · rw [f14.row 15 rfl, f13.row 15 rfl, b12 k hk, e11.row 32 rfl]
    · rw [f14.row 17 rfl, b13 k hk, g34]
    · rw [b14, e13.row 20 rfl]
  unfold f_Now_begin
  refine wq_V (P := fun N => N 39 8 = M4 3 13 ∧ N 39 9 = 0 ∧ (∀ k : Nat, k < 12 → N 40 k = M4 10 k) ∧ (∀ k : Nat, k < 6 → N 41 k = M4 14 k ∧ N 42 k = M4 15 k ∧ N 43 k = 0) ∧ Fr [(39, 8), (39, 9), (40, 99999), (41, 99999), (42, 99999), (43, 99999)] M4 N) (wq_d (wq_d ?_)) (fun M5 ⟨b1, b2, b3, b4, b5⟩ => ?_)
  · have f1 : Fr [(39, 8), (39, 9)] M4 (up (up M4 39 8 (M4 3 13)) 39 9 0) := (Fr.rf.up (by simp)).up (by simp)
    have h8 : up (up M4 39 8 (M4 3 13)) 39 9 0 39 8 = M4 3 13 := by rw [up_col (by decide), up_eq]
    have h9 : up (up M4 39 8 (M4 3 13)) 39 9 0 39 9 = 0 := up_eq _ _ _ _
    generalize up (up M4 39 8 (M4 3 13)) 39 9 0 = X1 at *
    refine wq_V (s_copy (n := 12) X1 rfl rfl (by decide) (by decide)) (fun X2 ⟨d2, f2⟩ => ?_)
    refine wq_V (s_copy (n := 6) X2 rfl rfl (by decide) (by decide)) (fun X3 ⟨d3, f3⟩ => ?_)
    refine wq_V (s_copy (n := 6) X3 rfl rfl (by decide) (by decide)) (fun X4 ⟨d4, f4⟩ => ?_)
    refine wq_V (s_fill (n := 6) 0 X4 rfl (by decide)) (fun X5 ⟨d5, f5⟩ => wq_some ⟨?_, ?_, fun k hk => ?_, fun k hk => ⟨?_, ?_, d5 k hk⟩, ?_⟩)
    · rw [f5.row 39 rfl, f4.row 39 rfl, f3.row 39 rfl, f2.row 39 rfl]; exact h8
    · rw [f5.row 39 rfl, f4.row 39 rfl, f3.row 39 rfl, f2.row 39 rfl]; exact h9
    · rw [f5.row 40 rfl, f4.row 40 rfl, f3.row 40 rfl, d2 k hk, f1.row 10 rfl]
    · rw [f5.row 41 rfl, f4.row 41 rfl, d3 k hk, f2.row 14 rfl, f1.row 14 rfl]
    · rw [f5.row 42 rfl, d4 k hk, f3.row 15 rfl, f2.row 15 rfl, f1.row 15 rfl]
    · exact (f1.cov rfl : Fr [(39, 8), (39, 9), (40, 99999), (41, 99999), (42, 99999), (43, 99999)] _ _).tr ((f2.cov rfl : Fr [(39, 8), (39, 9), (40, 99999), (41, 99999), (42, 99999), (43, 99999)] _ _).tr ((f3.cov rfl : Fr [(39, 8), (39, 9), (40, 99999), (41, 99999), (42, 99999), (43, 99999)] _ _).tr ((f4.cov rfl : Fr [(39, 8), (39, 9), (40, 99999), (41, 99999), (42, 99999), (43, 99999)] _ _).tr (f5.cov rfl))))
  unfold f_Widths_forget
  refine wq_V (P := fun N => N = up M5 46 3 (M5 46 3 + 1)) (wq_d (wq_some rfl)) (fun M6 hM6 => wq_d ?_)
  obtain ⟨N, hN⟩ : ∃ N, N = up M6 64 6 0 := ⟨_, rfl⟩
  rw [← hN]
  have FN : Fr [(46, 3), (64, 6)] M5 N := by rw [hN, hM6]; exact (Fr.rf.up (by simp)).up (by simp)
  have n64 : N 64 6 = 0 := by rw [hN, up_eq]
  have n46 : N 46 3 = M5 46 3 + 1 := by rw [hN, hM6, up_row (by decide), up_eq]
  clear hN hM6
  have e46 : M5 46 3 = M4 46 3 := by rw [b5.row 46 rfl]
  refine hk N ⟨fun k hk => ?_, fun kd w h1 h2 => ?_, fun s hs => ?_, fun w hw => ?_, fun k hk => ?_, ?_, ?_⟩ ?_ n64 ((a7.cov rfl : Fr lCp _ _).tr ((b5.cov rfl : Fr lCp _ _).tr (FN.cov rfl)))
  · have hk3 : k = 0 ∨ k = 1 ∨ k = 2 := by omega
    rw [FN.row 4 rfl, b5.row 4 rfl, a1 k hk]
    rcases hk3 with z | z | z <;> subst z
    · exact hD.1.1
    · exact hD.2.1.1
    · exact hD.2.2.1
  · have hk3 : kd = 0 ∨ kd = 1 ∨ kd = 2 := by omega
    have hlt : 12 * kd + w < 36 := by
      rcases hk3 with z | z | z <;> subst z <;> omega
    rw [FN.row 5 rfl, b5.row 5 rfl, a2 _ hlt]
    rcases hk3 with z | z | z <;> subst z
    · exact hD.1.2 w h2
    · exact hD.2.1.2 w h2
    · exact hD.2.2.2 w h2
  · obtain ⟨z1, z2, z3, z4, z5, z6, z7⟩ := a3 s (by omega)
    have zr := fun j hj => hR.1 j s hj hs
    refine ⟨?_, ?_, ?_, ?_, ?_, ?_, ?_⟩
    · rw [FN.row 6 rfl, b5.row 6 rfl, z1]; exact zr 0 (by decide)
    · rw [FN.row 7 rfl, b5.row 7 rfl, z2]; exact zr 1 (by decide)
    · rw [FN.row 8 rfl, b5.row 8 rfl, z3]; exact zr 2 (by decide)
    · rw [FN.row 9 rfl, b5.row 9 rfl, z4]; exact zr 3 (by decide)
    · rw [FN.row 11 rfl, b5.row 11 rfl, z6]; exact zr 5 (by decide)
    · rw [FN.row 12 rfl, b5.row 12 rfl, z7]; exact zr 6 (by decide)
    · rw [FN.row 40 rfl, b3 s (by omega), z5]; exact zr 4 (by decide)
  · obtain ⟨z1, z2, z3⟩ := a4 w (by omega)
    obtain ⟨y1, y2, y3⟩ := b4 w (by omega)
    have zr := fun j hj => hR.2.1 j w hj hw
    refine ⟨?_, ?_, ?_, ?_, ?_, ?_⟩
    · rw [FN.row 13 rfl, b5.row 13 rfl, z1]; exact zr 0 (by decide)
    · rw [FN.row 14 rfl, b5.row 14 rfl, z2]; exact zr 1 (by decide)
    · rw [FN.row 15 rfl, b5.row 15 rfl, z3]; exact zr 2 (by decide)
    · rw [FN.row 41 rfl, y1, z2]; exact zr 1 (by decide)
    · rw [FN.row 42 rfl, y2, z3]; exact zr 2 (by decide)
    · rw [FN.row 43 rfl]; exact y3
  · rw [FN.row 17 rfl, b5.row 17 rfl, a5 k hk]; exact hC2 k hk
  · rw [FN.row 39 rfl, b1, a6]; exact hR.2.2
  · rw [FN.row 39 rfl]; exact b2
  · rw [n46, e46, a7.row 46 rfl]
