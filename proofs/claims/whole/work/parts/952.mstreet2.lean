section Mst2
variable {U T : Nat → Int} {e p g : Int} {S : Tn} {M : Mm}
theorem nsT_ok {n : Nat} {l : List Int} {x y t d h : Int} (hB : Bt T e) (hsm : Sm T e p p M) (hN : Dnm S M) (hR : Drm S M) (hC : Cm U S M) (hS : Ws S) (hl : S.C.length + 1 ≤ p.toNat) (hn : n = S.c 1) (hlt : S.c 1 < 12) (hl1 : ltrs l) (hx : 0 ≤ x ∧ x < (S.c 0 : Int) ∧ x ≠ -1) (hy : 0 ≤ y ∧ y < (S.c 0 : Int) ∧ y ≠ x) (ht : 1 ≤ t ∧ t ≤ 4) (hd : 1 ≤ d ∧ d ≤ 48) (hh : 0 ≤ h ∧ h ≤ 47) : wq (nsT (n : Int) (pk27 0 l) x y t d h M) (fun M' => Om T e (rb (suR T e S.C p) fun z => .inr (addS S l (v7 x y t d (h % d) S.C.length z.2.2.length) z.2.2, z.1, z.2.1)) (Md U T e) M' ∧ Uo U M' ∧ Uq M M' ∧ Fr lTm M M') := by
  have hh1 := hB.1
  have hp0 := hsm.2.2.2.2.2.1
  obtain ⟨c0, c1, c2⟩ := hS.1.1
  unfold nsT
  rw [i32_id (x := (n : Int)) (by omega) (by omega), Int.toNat_natCast]
  refine wq_g ⟨by omega, by omega⟩ (wq_d (wq_d (wq_d (wq_d ?_))))
  obtain ⟨X, hX⟩ : ∃ X, X = up (up (up (up M 104 n (M 78 35)) 78 37 0) 78 38 0) 78 41 0 := ⟨_, rfl⟩
  rw [← hX]
  have FX : Fr [(104, n), (78, 37), (78, 38), (78, 41)] M X := by rw [hX]; exact (((Fr.rf.up (by simp)).up (by simp)).up (by simp)).up (by simp)
  have x37 : X 78 37 = 0 := by rw [hX, up_col (by decide), up_col (by decide), up_eq]
  have x38 : X 78 38 = 0 := by rw [hX, up_col (by decide), up_eq]
  have x41 : X 78 41 = 0 := by rw [hX, up_eq]
  have x104 : ∀ k : Nat, X 104 k = if k = n then (S.C.length : Int) else M 104 k := by
    intro k
    rw [hX, up_row (by decide), up_row (by decide), up_row (by decide), up_at, hC.1]
    by_cases c : k = n
    · rw [if_pos ⟨rfl, c⟩, if_pos c]
    · rw [if_neg (fun z => c z.2), if_neg c]
  have UX : Uq M X := by
    have F2 : Fr [(78, 37), (78, 38), (78, 41)] (up M 104 n (M 78 35)) X := by rw [hX]; exact ((Fr.rf.up (by simp)).up (by simp)).up (by simp)
    exact (Uq.rf.up (Or.inr (Or.inr (Or.inr (Or.inr (Or.inl ⟨rfl, by omega⟩)))))).tr (Uq.of F2 rfl)
  have TX : Fr lTm M X := by
    have c1 : Fr [(104, 99999), (78, 37), (78, 38), (78, 41)] M X := fun i q hq => FX i q (by
      intro y hy hz
      simp only [List.mem_cons, List.not_mem_nil, or_false] at hy
      rcases hy with w | w | w | w <;> subst w
      · exact hq (104, 99999) (by simp) ⟨hz.1, Or.inr rfl⟩
      all_goals exact hq _ (by simp) hz)
    exact c1.cov rfl
  clear hX
  have hXt : Xt U T e p p 0 [] [] S.C X := ⟨hsm.fr FX rfl, x37, trivial, x38, x41, by rw [FX.at 78 35 rfl]; exact hC.1, fun k hk => by rw [FX.row 102 rfl]; exact hC.2.1 k hk, fun k hk => by rw [FX.row 102 rfl]; exact hC.2.2 k hk, fun v hv => by cases hv⟩
  obtain ⟨su1, su2⟩ := su_ok (C := S.C) hB hp0.1 hp0.2 (by omega)
  refine wq_V (xt_sums hB hXt su1 (by decide) (by simpa using hl) (by decide)) (fun M2 ⟨a1, a2⟩ => wq_g ⟨by omega, by omega⟩ (wq_d ?_))
  have a2 : Fr xtA X M2 := a2
  obtain ⟨Y, hY⟩ : ∃ Y, Y = up M2 105 n (M2 78 35) := ⟨_, rfl⟩
  rw [← hY]
  have FY : Fr [(105, n)] M2 Y := by rw [hY]; exact Fr.rf.up (by simp)
  have y105 : ∀ k : Nat, Y 105 k = if k = n then M2 78 35 else M2 105 k := by
    intro k
    rw [hY, up_at]
    by_cases c : k = n
    · rw [if_pos ⟨rfl, c⟩, if_pos c]
    · rw [if_neg (fun z => c z.2), if_neg c]
  have UY : Uq M Y := by rw [hY]; exact (UX.tr (Uq.of a2 rfl)).up (Or.inr (Or.inr (Or.inr (Or.inr (Or.inr ⟨rfl, by omega⟩)))))
  have TY : Fr lTm M Y := by
    have c2 : Fr [(105, 99999)] M2 Y := by rw [hY]; exact Fr.rf.up (Or.inr (by simp))
    exact TX.tr ((a2.cov rfl : Fr lTm _ _).tr (c2.cov rfl))
  clear hY
  rcases a1 with ⟨k, pl, b1, b2, b3⟩ | ⟨p', g', C', b1, b2⟩
  · have hk := b2.2.2.2.2.1
    have a3 : Fm T e k pl Y := b2.fr FY rfl
    rw [b1, a3.2.2.1, i32_id (x := k) (by omega) (by omega)]
    exact wq_e (by omega) (wq_some ⟨a3, fun q hq => by rw [FY.row 102 rfl]; exact b3.1 q hq, UY, TY⟩)
  · rw [b1] at su2
    rcases su2 with ⟨_, _, su3, -⟩ | ⟨p2', g2', D, su3, su4, su5, su6, su7, su8⟩
    · cases su3
    injection su3 with su3
    injection su3 with su9 su3
    injection su3 with su10 su11
    obtain ⟨e1, e2, e3, e4, e5, e6, e7, e8, e9⟩ := b2
    have e1Y : Sm T e p' g' Y := e1.fr FY rfl
    rw [b1]
    dsimp only [rb]
    rw [e1Y.2.2.2.2.1, i32_id (x := 12 + (n : Int)) (by omega) (by omega), i32_id (x := 5 * (n : Int)) (by omega) (by omega), i32_id (x := 5 * (n : Int) + 1) (by omega) (by omega), i32_id (x := 5 * (n : Int) + 2) (by omega) (by omega), i32_id (x := 5 * (n : Int) + 3) (by omega) (by omega), i32_id (x := 5 * (n : Int) + 4) (by omega) (by omega), i32_id (x := d) (by omega) (by omega), i32_id (x := h) (by omega) (by omega), tmod_pos hh.1, show (12 + (n : Int)).toNat = 12 + n by omega, show (5 * (n : Int)).toNat = 5 * n by omega, show (5 * (n : Int) + 1).toNat = 5 * n + 1 by omega, show (5 * (n : Int) + 2).toNat = 5 * n + 2 by omega, show (5 * (n : Int) + 3).toNat = 5 * n + 3 by omega, show (5 * (n : Int) + 4).toNat = 5 * n + 4 by omega]
    refine wq_t rfl (wq_g ⟨by omega, by omega⟩ (wq_d (wq_g ⟨by omega, by omega⟩ (wq_d (wq_g ⟨by omega, by omega⟩ (wq_d (wq_g ⟨by omega, by omega⟩ (wq_d (wq_g ⟨by omega, by omega⟩ (wq_d (wq_g (by omega) (wq_g ⟨by omega, by omega⟩ (wq_d (wq_d ?_))))))))))))))
    obtain ⟨Z0, hZ0⟩ : ∃ Z0, Z0 = up (up (up (up (up (up Y 99 (12 + n) (pk27 0 l)) 100 (5 * n) x) 100 (5 * n + 1) y) 100 (5 * n + 2) t) 100 (5 * n + 3) d) 100 (5 * n + 4) (h % d) := ⟨_, rfl⟩
    rw [← hZ0]
    obtain ⟨Z, hZ⟩ : ∃ Z, Z = up Z0 98 1 (Z0 98 1 + 1) := ⟨_, rfl⟩
    rw [← hZ]
    have z98 : Z0 98 = Y 98 := by rw [hZ0, up_row (by decide), up_row (by decide), up_row (by decide), up_row (by decide), up_row (by decide), up_row (by decide)]
    have z981 : Z 98 1 = Y 98 1 + 1 := by rw [hZ, up_eq, z98]
    have z980 : ∀ k : Nat, k ≠ 1 → Z 98 k = Y 98 k := fun k hk => by rw [hZ, up_col hk, z98]
    have z99 : ∀ k : Nat, Z 99 k = if k = 12 + n then pk27 0 l else Y 99 k := by
      intro k
      rw [hZ, up_row (by decide), hZ0, up_row (by decide), up_row (by decide), up_row (by decide), up_row (by decide), up_row (by decide), up_at]
      by_cases c : k = 12 + n
      · rw [if_pos ⟨rfl, c⟩, if_pos c]
      · rw [if_neg (fun z => c z.2), if_neg c]
    have z100 : Z 100 = Z0 100 := by rw [hZ, up_row (by decide)]
    have q0 : Z 100 (5 * n + 0) = x := by rw [z100, hZ0, up_col (by omega), up_col (by omega), up_col (by omega), up_col (by omega)]; exact up_eq _ _ _ _
    have q1 : Z 100 (5 * n + 1) = y := by rw [z100, hZ0, up_col (by omega), up_col (by omega), up_col (by omega), up_eq]
    have q2 : Z 100 (5 * n + 2) = t := by rw [z100, hZ0, up_col (by omega), up_col (by omega), up_eq]
    have q3 : Z 100 (5 * n + 3) = d := by rw [z100, hZ0, up_col (by omega), up_eq]
    have q4 : Z 100 (5 * n + 4) = h % d := by rw [z100, hZ0, up_eq]
    have qo : ∀ s j : Nat, j < 5 → s ≠ n → Z 100 (5 * s + j) = Y 100 (5 * s + j) := fun s j hj hs => by rw [z100, hZ0, up_col (by omega), up_col (by omega), up_col (by omega), up_col (by omega), up_col (by omega), up_row (by decide)]
    have FZ : Fr [(98, 1), (99, 12 + n), (100, 99999)] Y Z := by
      rw [hZ, hZ0]
      exact ((((((Fr.rf.up (by simp)).up (by simp)).up (by simp)).up (by simp)).up (by simp)).up (by simp)).up (by simp)
    have UZ : Uq M Z := by
      rw [hZ, hZ0]
      exact ((((((UY.up (Or.inr (Or.inl ⟨rfl, by omega⟩))).up (Or.inr (Or.inr (Or.inl ⟨rfl, by omega⟩)))).up (Or.inr (Or.inr (Or.inl ⟨rfl, by omega⟩)))).up (Or.inr (Or.inr (Or.inl ⟨rfl, by omega⟩)))).up (Or.inr (Or.inr (Or.inl ⟨rfl, by omega⟩)))).up (Or.inr (Or.inr (Or.inl ⟨rfl, by omega⟩)))).up (Or.inl ⟨rfl, by decide⟩)
    have TZ : Fr lTm M Z := by
      refine TY.tr ?_
      have c3 : Fr [(98, 99999), (99, 99999), (100, 99999)] Y Z := by
        rw [hZ, hZ0]
        exact ((((((Fr.rf.up (Or.inr (by simp))).up (Or.inr (by simp))).up (Or.inr (by simp))).up (Or.inr (by simp))).up (Or.inr (by simp))).up (Or.inr (by simp))).up (Or.inr (by simp))
      exact c3.cov rfl
    clear hZ hZ0
    -- back to M
    have m98 : Y 98 = M 98 := by rw [FY.row 98 rfl, a2.row 98 rfl, FX.row 98 rfl]
    have m99 : Y 99 = M 99 := by rw [FY.row 99 rfl, a2.row 99 rfl, FX.row 99 rfl]
    have m100 : Y 100 = M 100 := by rw [FY.row 100 rfl, a2.row 100 rfl, FX.row 100 rfl]
    have m101 : Z 101 = M 101 := by rw [FZ.row 101 rfl, FY.row 101 rfl, a2.row 101 rfl, FX.row 101 rfl]
    have m104 : Z 104 = X 104 := by rw [FZ.row 104 rfl, FY.row 104 rfl, a2.row 104 rfl]
    have m105 : Z 105 = Y 105 := by rw [FZ.row 105 rfl]
    have m105' : M2 105 = M 105 := by rw [a2.row 105 rfl, FX.row 105 rfl]
    have m32 : Z 78 32 = M 78 32 := by rw [FZ.at 78 32 rfl, FY.at 78 32 rfl, a2.at 78 32 rfl, FX.at 78 32 rfl]
    have m35 : Z 78 35 = (C'.length : Int) := by rw [FZ.at 78 35 rfl, FY.at 78 35 rfl]; exact e6
    have m102 : Z 102 = M2 102 := by rw [FZ.row 102 rfl, FY.row 102 rfl]
    obtain ⟨⟨n1, n2⟩, ⟨n3, n4⟩, ⟨n5, n6⟩⟩ := hN
    obtain ⟨r1, r2, r3⟩ := hR
    refine wq_some ⟨⟨e1Y.fr FZ rfl, ⟨⟨?_, fun w hw => ?_⟩, ⟨?_, fun w hw => ?_⟩, ⟨?_, fun w hw => ?_⟩⟩, ⟨fun s hs => ?_, fun w hw j hj => ?_, ?_⟩, ⟨m35, fun k hk => ?_, fun k hk => ?_⟩, ?_, ?_⟩, fun k hk => by rw [m102]; exact e8 k hk, UZ, TZ⟩
    · rw [z980 0 (by decide), m98]; exact n1
    · have hw : w < S.c 0 := hw
      show Z 99 (12 * 0 + w) = pk27 0 (if 12 * 0 + w = 12 + S.c 1 then l else S.nm (12 * 0 + w))
      rw [z99, if_neg (by omega), if_neg (by omega), m99]
      exact n2 w hw
    · show Z 98 1 = ((S.c 1 + 1 : Nat) : Int)
      rw [z981, m98, n3]
      push_cast
      rfl
    · have hw : w < S.c 1 + 1 := hw
      show Z 99 (12 * 1 + w) = pk27 0 (if 12 * 1 + w = 12 + S.c 1 then l else S.nm (12 * 1 + w))
      rw [z99]
      by_cases gg : w = S.c 1
      · rw [if_pos (by omega), if_pos (by omega)]
      · rw [if_neg (by omega), if_neg (by omega), m99]
        exact n4 w (by omega)
    · rw [z980 2 (by decide), m98]; exact n5
    · have hw : w < S.c 2 := hw
      show Z 99 (12 * 2 + w) = pk27 0 (if 12 * 2 + w = 12 + S.c 1 then l else S.nm (12 * 2 + w))
      rw [z99, if_neg (by omega), if_neg (by omega), m99]
      exact n6 w hw
    · have hs : s < S.c 1 + 1 := hs
      show (∀ j : Nat, j < 5 → Z 100 (5 * s + j) = if s = S.c 1 then v7 x y t d (h % d) S.C.length C'.length j else S.r j s) ∧ Z 104 s = (if s = S.c 1 then (S.C.length : Int) else S.r 5 s) ∧ Z 105 s = (if s = S.c 1 then (C'.length : Int) else S.r 6 s)
      by_cases gg : s = S.c 1
      · rw [if_pos gg, if_pos gg]
        refine ⟨fun j hj => ?_, ?_, ?_⟩
        · rw [if_pos gg, gg, ← hn]
          have hj' : j = 0 ∨ j = 1 ∨ j = 2 ∨ j = 3 ∨ j = 4 := by omega
          rcases hj' with z | z | z | z | z <;> subst z
          · exact q0
          · exact q1
          · exact q2
          · exact q3
          · exact q4
        · rw [m104, x104, if_pos (by omega)]
        · rw [m105, y105, if_pos (by omega)]
          exact e6
      · rw [if_neg gg, if_neg gg]
        obtain ⟨o1, o2, o3⟩ := r1 s (by omega)
        refine ⟨fun j hj => ?_, ?_, ?_⟩
        · rw [if_neg gg, qo s j hj (by omega), m100]
          exact o1 j hj
        · rw [m104, x104, if_neg (by omega)]
          exact o2
        · rw [m105, y105, if_neg (by omega), m105']
          exact o3
    · rw [m101]
      exact r2 w hw j hj
    · show Z 78 32 = S.bg
      rw [m32]; exact r3
    · show Z 102 k = C'.getD k 0
      rw [m102]
      exact e7 k hk
    · rw [m102]
      exact e8 k hk
    · show Ws (addS S l (v7 x y t d (h % d) S.C.length C'.length) C')
      rw [su11]
      exact ws_addS hS hl1 hlt hx hy ht hd hh.1 su8
    · show C'.length ≤ p'.toNat
      rw [su11, su9]
      exact su6
theorem m_street {v : Int} (hB : Bt T e) (hsm : Sm T e p p M) (hN : Dnm S M) (hR : Drm S M) (hC : Cm U S M) (hS : Ws S) (hl : S.C.length ≤ p.toNat) (hv : -1 ≤ v ∧ v ≤ 1600) : wq (f_M_newStreet v M) (fun M' => Om T e (stRes T e S v p) (Md U T e) M' ∧ Uo U M' ∧ Uq M M' ∧ Fr lTm M M') := by
  have hh1 := hB.1
  have hp0 := hsm.2.2.2.2.2.1
  obtain ⟨c0, c1, c2⟩ := hS.1.1
  obtain ⟨n, hn⟩ : ∃ n, n = S.c 1 := ⟨_, rfl⟩
  have h981 : M 98 1 = (n : Int) := by rw [hn]; exact hN.2.1.1
  unfold f_M_newStreet stRes nnR
  refine wq_I (m_full (kd := 1) (cap := 12) hsm (by decide) (by decide) c1 hN.2.1 hv) (fun r M1 ⟨a1, a2⟩ => ?_)
  have a2 : Fr mnL M M1 := a2
  rcases a1 with ⟨b1, b2, b3⟩ | ⟨b1, b2, b3⟩
  · have b1 : r = 1 := b1
    have b3 : Fm T e 5 v M1 := b3
    rw [b1, if_neg b2]
    exact wq_e (by decide) (wq_some ⟨b3, fun k hk => by rw [a2.row 102 rfl]; exact hC.2.2 k hk, Uq.of a2 rfl, a2.cov rfl⟩)
  have b1 : r = 0 := b1
  have b3 : M1 = M := b3
  rw [b1, b3, if_pos b2]
  refine wq_t rfl ?_
  show wq (bI (f_M_newName M) (fun r4 M3 => bV (f_M_asks 83 M3) (fun M5 => bI (f_M_placeTold ((-1)) M5) (fun r7 M6 => bV (f_M_asks 84 M6) (fun M8 => bI (f_M_placeTold r7 M8) (fun r10 M9 => bV (f_M_asks 85 M9) (fun M11 => bI (f_M_number 1 4 M11) (fun r13 M12 => bV (f_M_asks 86 M12) (fun M14 => bI (f_M_number 1 48 M14) (fun r16 M15 => bV (f_M_asks 87 M15) (fun M17 => bI (f_M_number 0 47 M17) (fun r19 M18 => bV (f_M_asks 88 M18) (fun M20 => nsT (M 98 1) r4 r7 r10 r13 r16 r19 M20))))))))))))) _
  rw [h981]
  have hff : ∀ (f : Int × Int) (N : Mm) (r4 r7 r10 r13 r16 r19 : Int), Fm T e f.1 f.2 N → Fr mnL M N → wq (nsT (n : Int) r4 r7 r10 r13 r16 r19 N) (fun M' => Fm T e f.1 f.2 M' ∧ Uo U M' ∧ Uq M M' ∧ Fr lTm M M') := fun f N r4 r7 r10 r13 r16 r19 k1 k2 => wq_m (nsT_f k1 (by omega) (fun k hk => by rw [k2.row 102 rfl]; exact hC.2.2 k hk)) (fun M' ⟨z1, z2, z3, z4⟩ => ⟨z1, z2, (Uq.of k2 rfl).tr z3, (k2.cov rfl : Fr lTm _ _).tr z4⟩)
  have hDk : ∀ N, Fr mnL M N → Dkm S 0 N := fun N z => ⟨by rw [z.row 98 rfl]; exact hN.1.1, fun w hw => by rw [z.row 99 rfl]; exact hN.1.2 w hw⟩
  refine wq_I (m_newName hB hsm hS.1 hN) (fun r4 M3 ⟨c3, f3⟩ => ?_)
  have f3 : Fr mnL M M3 := f3
  rcases Om_cs c3 with ⟨f, d1, d2⟩ | ⟨⟨l, p1⟩, d1, d2, d3, d4, d5⟩
  · have d2 : Fm T e f.1 f.2 M3 := d2
    rw [d1]
    simp only [e_asks_f d2, bV_s, bI_s, e_mnum_f d2, e_plc_f hS.1 (hDk _ f3) d2]
    exact hff f _ _ _ _ _ _ _ d2 f3
  have d2 : r4 = pk27 0 l := d2
  have d3 : ltrs l := d3
  have d4 : Sm T e p1 p1 M3 := d4
  have d5 : p < p1 := d5
  rw [d1]
  dsimp only [rb]
  unfold apR anR
  refine wq_V (m_asks hB d4 rw_83) (fun M5 ⟨g1, g2⟩ => ?_)
  have f5 : Fr mnL M M5 := f3.tr g2
  rcases Om_cs g1 with ⟨f, d1, d2'⟩ | ⟨p2, d1, d6, d7⟩
  · rw [d1]
    simp only [e_asks_f d2', bV_s, bI_s, e_mnum_f d2', e_plc_f hS.1 (hDk _ f5) d2']
    exact hff f _ _ _ _ _ _ _ d2' f5
  rw [d1]
  dsimp only [rb]
  refine wq_I (m_place hB d6 hS.1 (hDk _ f5) (by decide)) (fun r7 M6 ⟨g3, g4, g5⟩ => ?_)
  have f6 : Fr mnL M M6 := f5.tr g5
  rcases Om_cs g3 with ⟨f, d1, d2'⟩ | ⟨⟨x, p3⟩, d1, d8, d9, d10, d11⟩
  · have d2' : Fm T e f.1 f.2 M6 := d2'
    rw [d1]
    simp only [e_asks_f d2', bV_s, bI_s, e_mnum_f d2', e_plc_f hS.1 (hDk _ f6) d2']
    exact hff f _ _ _ _ _ _ _ d2' f6
  have d8 : r7 = x := d8
  have d9 : 0 ≤ x ∧ x < (S.c 0 : Int) ∧ x ≠ -1 := d9
  have d10 : Sm T e p3 p3 M6 := d10
  have d11 : p2 < p3 := d11
  rw [d1, d8]
  dsimp only [rb]
  refine wq_V (m_asks hB d10 rw_84) (fun M8 ⟨g1, g2⟩ => ?_)
  have f8 : Fr mnL M M8 := f6.tr g2
  rcases Om_cs g1 with ⟨f, d1, d2'⟩ | ⟨p4, d1, d12, d13⟩
  · rw [d1]
    simp only [e_asks_f d2', bV_s, bI_s, e_mnum_f d2', e_plc_f hS.1 (hDk _ f8) d2']
    exact hff f _ _ _ _ _ _ _ d2' f8
  rw [d1]
  dsimp only [rb]
  refine wq_I (m_place hB d12 hS.1 (hDk _ f8) (by omega)) (fun r10 M9 ⟨g3, g4, g5⟩ => ?_)
  have f9 : Fr mnL M M9 := f8.tr g5
  rcases Om_cs g3 with ⟨f, d1, d2'⟩ | ⟨⟨y, p5⟩, d1, d14, d15, d16, d17⟩
  · have d2' : Fm T e f.1 f.2 M9 := d2'
    rw [d1]
    simp only [e_asks_f d2', bV_s, bI_s, e_mnum_f d2']
    exact hff f _ _ _ _ _ _ _ d2' f9
  have d14 : r10 = y := d14
  have d15 : 0 ≤ y ∧ y < (S.c 0 : Int) ∧ y ≠ x := d15
  have d16 : Sm T e p5 p5 M9 := d16
  have d17 : p4 < p5 := d17
  rw [d1, d14]
  dsimp only [rb]
  refine wq_V (m_asks hB d16 rw_85) (fun M11 ⟨g1, g2⟩ => ?_)
  have f11 : Fr mnL M M11 := f9.tr g2
  rcases Om_cs g1 with ⟨f, d1, d2'⟩ | ⟨p6, d1, d18, d19⟩
  · rw [d1]
    simp only [e_asks_f d2', bV_s, bI_s, e_mnum_f d2']
    exact hff f _ _ _ _ _ _ _ d2' f11
  rw [d1]
  dsimp only [rb]
  refine wq_I (m_number hB d18 (by decide) (by decide)) (fun r13 M12 ⟨g3, g5⟩ => ?_)
  have f12 : Fr mnL M M12 := f11.tr g5
  rcases Om_cs g3 with ⟨f, d1, d2'⟩ | ⟨⟨p7, t⟩, d1, d20, d21, d22, d23⟩
  · have d2' : Fm T e f.1 f.2 M12 := d2'
    rw [d1]
    simp only [e_asks_f d2', bV_s, bI_s, e_mnum_f d2']
    exact hff f _ _ _ _ _ _ _ d2' f12
  have d20 : r13 = t := d20
  have d21 : 1 ≤ t ∧ t ≤ 4 := d21
  have d22 : Sm T e p7 p7 M12 := d22
  have d23 : p6 < p7 := d23
  rw [d1, d20]
  dsimp only [rb]
  refine wq_V (m_asks hB d22 rw_86') (fun M14 ⟨g1, g2⟩ => ?_)
  have f14 : Fr mnL M M14 := f12.tr g2
  rcases Om_cs g1 with ⟨f, d1, d2'⟩ | ⟨p8, d1, d24, d25⟩
  · rw [d1]
    simp only [e_asks_f d2', bV_s, bI_s, e_mnum_f d2']
    exact hff f _ _ _ _ _ _ _ d2' f14
  rw [d1]
  dsimp only [rb]
  refine wq_I (m_number hB d24 (by decide) (by decide)) (fun r16 M15 ⟨g3, g5⟩ => ?_)
  have f15 : Fr mnL M M15 := f14.tr g5
  rcases Om_cs g3 with ⟨f, d1, d2'⟩ | ⟨⟨p9, d⟩, d1, d26, d27, d28, d29⟩
  · have d2' : Fm T e f.1 f.2 M15 := d2'
    rw [d1]
    simp only [e_asks_f d2', bV_s, bI_s, e_mnum_f d2']
    exact hff f _ _ _ _ _ _ _ d2' f15
  have d26 : r16 = d := d26
  have d27 : 1 ≤ d ∧ d ≤ 48 := d27
  have d28 : Sm T e p9 p9 M15 := d28
  have d29 : p8 < p9 := d29
  rw [d1, d26]
  dsimp only [rb]
  refine wq_V (m_asks hB d28 rw_87) (fun M17 ⟨g1, g2⟩ => ?_)
  have f17 : Fr mnL M M17 := f15.tr g2
  rcases Om_cs g1 with ⟨f, d1, d2'⟩ | ⟨pa, d1, d30, d31⟩
  · rw [d1]
    simp only [e_asks_f d2', bV_s, bI_s, e_mnum_f d2']
    exact hff f _ _ _ _ _ _ _ d2' f17
  rw [d1]
  dsimp only [rb]
  refine wq_I (m_number hB d30 (by decide) (by decide)) (fun r19 M18 ⟨g3, g5⟩ => ?_)
  have f18 : Fr mnL M M18 := f17.tr g5
  rcases Om_cs g3 with ⟨f, d1, d2'⟩ | ⟨⟨pb, s⟩, d1, d32, d33, d34, d35⟩
  · have d2' : Fm T e f.1 f.2 M18 := d2'
    rw [d1]
    simp only [e_asks_f d2', bV_s, bI_s, e_mnum_f d2']
    exact hff f _ _ _ _ _ _ _ d2' f18
  have d32 : r19 = s := d32
  have d33 : 0 ≤ s ∧ s ≤ 47 := d33
  have d34 : Sm T e pb pb M18 := d34
  have d35 : pa < pb := d35
  rw [d1, d32]
  dsimp only [rb]
  refine wq_V (m_asks hB d34 rw_88) (fun M20 ⟨g1, g2⟩ => ?_)
  have f20 : Fr mnL M M20 := f18.tr g2
  rcases Om_cs g1 with ⟨f, d1, d2'⟩ | ⟨pc, d1, d36, d37⟩
  · rw [d1]
    exact hff f _ _ _ _ _ _ _ d2' f20
  rw [d1]
  dsimp only [rb]
  rw [d2]
  refine wq_m (nsT_ok hB d36 (hN.fr f20 rfl rfl) (hR.eq (f20.row 100 rfl) (f20.row 101 rfl) (f20.row 104 rfl) (f20.row 105 rfl) (f20.at 78 32 rfl)) ⟨by rw [f20.at 78 35 rfl]; exact hC.1, fun k hk => by rw [f20.row 102 rfl]; exact hC.2.1 k hk, fun k hk => by rw [f20.row 102 rfl]; exact hC.2.2 k hk⟩ hS (by omega) hn b2 d3 d9 d15 d21 d27 d33) (fun M' ⟨z1, z2, z3, z4⟩ => ⟨z1, z2, (Uq.of f20 rfl).tr z3, (f20.cov rfl : Fr lTm _ _).tr z4⟩)
end Mst2
