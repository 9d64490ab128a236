theorem ws_addW {S : Tn} {l : List Int} {b x y : Int} (hS : Ws S) (hl : ltrs l) (hc : S.c 2 < 6) (hb : 1 ≤ b ∧ b ≤ 99) (hx : 0 ≤ x ∧ x < (S.c 0 : Int) ∧ x ≠ -1) (hy : 0 ≤ y ∧ y < (S.c 0 : Int) ∧ y ≠ x) : Ws (addW S l (v7 b x y 0 0 0 0)) := by
  obtain ⟨⟨⟨c0, c1, c2⟩, w2⟩, w3, w4, w5⟩ := hS
  refine ⟨⟨⟨c0, c1, ?_⟩, fun k w hk hw' => ?_⟩, w3, fun w hw' => ?_, w5⟩
  · show S.c 2 + 1 ≤ 6
    omega
  · have hw' : w < (if k = 2 then S.c 2 + 1 else S.c k) := hw'
    show ltrs (if 12 * k + w = 24 + S.c 2 then l else S.nm (12 * k + w))
    by_cases gg : 12 * k + w = 24 + S.c 2
    · rw [if_pos gg]; exact hl
    · rw [if_neg gg]
      refine w2 k w hk ?_
      by_cases g2 : k = 2
      · rw [if_pos g2] at hw'
        subst g2
        omega
      · rw [if_neg g2] at hw'
        exact hw'
  · have hw' : w < S.c 2 + 1 := hw'
    unfold WsW
    show (1 ≤ (if w = S.c 2 then b else S.w 0 w) ∧ (if w = S.c 2 then b else S.w 0 w) ≤ 99) ∧ (0 ≤ (if w = S.c 2 then x else S.w 1 w) ∧ (if w = S.c 2 then x else S.w 1 w) < (S.c 0 : Int)) ∧ (0 ≤ (if w = S.c 2 then y else S.w 2 w) ∧ (if w = S.c 2 then y else S.w 2 w) < (S.c 0 : Int)) ∧ (if w = S.c 2 then x else S.w 1 w) ≠ (if w = S.c 2 then y else S.w 2 w)
    by_cases gg : w = S.c 2
    · simp only [if_pos gg]
      exact ⟨hb, ⟨hx.1, hx.2.1⟩, ⟨hy.1, hy.2.1⟩, fun z => hy.2.2 z.symm⟩
    · simp only [if_neg gg]
      exact w4 w (by omega)
theorem ws_addP {S : Tn} {l : List Int} (hS : Ws S) (hl : ltrs l) (hc : S.c 0 < 9) : Ws (addP S l) := by
  obtain ⟨⟨⟨c0, c1, c2⟩, w2⟩, w3, w4, w5⟩ := hS
  refine ⟨⟨⟨?_, c1, c2⟩, fun k w hk hw' => ?_⟩, fun s hs => ?_, fun w hw' => ?_, w5⟩
  · show S.c 0 + 1 ≤ 9
    omega
  · have hw' : w < (if k = 0 then S.c 0 + 1 else S.c k) := hw'
    show ltrs (if 12 * k + w = S.c 0 then l else S.nm (12 * k + w))
    by_cases gg : 12 * k + w = S.c 0
    · rw [if_pos gg]; exact hl
    · rw [if_neg gg]
      refine w2 k w hk ?_
      by_cases g2 : k = 0
      · rw [if_pos g2] at hw'
        subst g2
        omega
      · rw [if_neg g2] at hw'
        exact hw'
  · obtain ⟨z1, z2, z3, z4, z5, z6, z7, z8⟩ := w3 s hs
    refine ⟨⟨z1.1, ?_⟩, ⟨z2.1, ?_⟩, z3, z4, z5, z6, z7, z8⟩
    · show S.r 0 s < ((S.c 0 + 1 : Nat) : Int)
      omega
    · show S.r 1 s < ((S.c 0 + 1 : Nat) : Int)
      omega
  · obtain ⟨z1, z2, z3, z4⟩ := w4 w hw'
    refine ⟨z1, ⟨z2.1, ?_⟩, ⟨z3.1, ?_⟩, z4⟩
    · show S.w 1 w < ((S.c 0 + 1 : Nat) : Int)
      omega
    · show S.w 2 w < ((S.c 0 + 1 : Nat) : Int)
      omega
section Mwk
variable {U T : Nat → Int} {e p g : Int} {S : Tn} {M : Mm}
def waT (n r4 r7 r10 r13 : Int) (M12 : Mm) : Option Mm :=
  if i32 (M12 78 5) = 0 then
    gd (0 ≤ i32 (24 + n) ∧ i32 (24 + n) < ((72 : Nat) : Int)) <|
    bd (up M12 99 (i32 (24 + n)).toNat r4) (fun M14 =>
    gd (0 ≤ i32 (3 * n) ∧ i32 (3 * n) < ((36 : Nat) : Int)) <|
    bd (up M14 101 (i32 (3 * n)).toNat r7) (fun M15 =>
    gd (0 ≤ i32 ((3 * n) + 1) ∧ i32 ((3 * n) + 1) < ((36 : Nat) : Int)) <|
    bd (up M15 101 (i32 ((3 * n) + 1)).toNat r10) (fun M16 =>
    gd (0 ≤ i32 ((3 * n) + 2) ∧ i32 ((3 * n) + 2) < ((36 : Nat) : Int)) <|
    bd (up M16 101 (i32 ((3 * n) + 2)).toNat r13) (fun M17 =>
    bd (up M17 98 2 ((M17 98 2) + 1)) (fun M18 =>
    some M18)))))
  else
    some M12
theorem waT_f {n k pl r4 r7 r10 r13 : Int} (h : Fm T e k pl M) : waT n r4 r7 r10 r13 M = some M := by
  have hk := h.2.2.2.2.1
  unfold waT
  rw [h.2.2.1, i32_id (x := k) (by omega) (by omega), if_neg (by omega)]
theorem waT_ok {n : Nat} {l : List Int} {b x y : Int} (hsm : Sm T e p p M) (hN : Dnm S M) (hR : Drm S M) (hC : Cm U S M) (hS : Ws S) (hl : S.C.length ≤ p.toNat) (hn : n = S.c 2) (hlt : S.c 2 < 6) (hl1 : ltrs l) (hb : 1 ≤ b ∧ b ≤ 99) (hx : 0 ≤ x ∧ x < (S.c 0 : Int) ∧ x ≠ -1) (hy : 0 ≤ y ∧ y < (S.c 0 : Int) ∧ y ≠ x) : wq (waT (n : Int) (pk27 0 l) b x y M) (fun M' => Md U T e (addW S l (v7 b x y 0 0 0 0), p, p) M' ∧ Uo U M' ∧ Uq M M' ∧ Fr lTm M M') := by
  obtain ⟨c0, c1, c2⟩ := hS.1.1
  unfold waT
  rw [hsm.2.2.2.2.1, i32_id (x := 24 + (n : Int)) (by omega) (by omega), i32_id (x := 3 * (n : Int)) (by omega) (by omega), i32_id (x := 3 * (n : Int) + 1) (by omega) (by omega), i32_id (x := 3 * (n : Int) + 2) (by omega) (by omega), show (24 + (n : Int)).toNat = 24 + n by omega, show (3 * (n : Int)).toNat = 3 * n by omega, show (3 * (n : Int) + 1).toNat = 3 * n + 1 by omega, show (3 * (n : Int) + 2).toNat = 3 * n + 2 by omega]
  refine wq_t rfl (wq_g ⟨by omega, by omega⟩ (wq_d (wq_g ⟨by omega, by omega⟩ (wq_d (wq_g ⟨by omega, by omega⟩ (wq_d (wq_g ⟨by omega, by omega⟩ (wq_d (wq_d ?_)))))))))
  obtain ⟨Z0, hZ0⟩ : ∃ Z0, Z0 = up (up (up (up M 99 (24 + n) (pk27 0 l)) 101 (3 * n) b) 101 (3 * n + 1) x) 101 (3 * n + 2) y := ⟨_, rfl⟩
  rw [← hZ0]
  obtain ⟨Z, hZ⟩ : ∃ Z, Z = up Z0 98 2 (Z0 98 2 + 1) := ⟨_, rfl⟩
  rw [← hZ]
  have z98 : Z0 98 = M 98 := by rw [hZ0, up_row (by decide), up_row (by decide), up_row (by decide), up_row (by decide)]
  have z981 : Z 98 2 = M 98 2 + 1 := by rw [hZ, up_eq, z98]
  have z980 : ∀ k : Nat, k ≠ 2 → Z 98 k = M 98 k := fun k hk => by rw [hZ, up_col hk, z98]
  have z99 : ∀ k : Nat, Z 99 k = if k = 24 + n then pk27 0 l else M 99 k := by
    intro k
    rw [hZ, up_row (by decide), hZ0, up_row (by decide), up_row (by decide), up_row (by decide), up_at]
    by_cases c : k = 24 + n
    · rw [if_pos ⟨rfl, c⟩, if_pos c]
    · rw [if_neg (fun z => c z.2), if_neg c]
  have z101 : Z 101 = Z0 101 := by rw [hZ, up_row (by decide)]
  have q0 : Z 101 (3 * n + 0) = b := by rw [z101, hZ0, up_col (by omega), up_col (by omega)]; exact up_eq _ _ _ _
  have q1 : Z 101 (3 * n + 1) = x := by rw [z101, hZ0, up_col (by omega), up_eq]
  have q2 : Z 101 (3 * n + 2) = y := by rw [z101, hZ0, up_eq]
  have qo : ∀ s j : Nat, j < 3 → s ≠ n → Z 101 (3 * s + j) = M 101 (3 * s + j) := fun s j hj hs => by rw [z101, hZ0, up_col (by omega), up_col (by omega), up_col (by omega), up_row (by decide)]
  have FZ : Fr [(98, 99999), (99, 99999), (101, 99999)] M Z := by
    rw [hZ, hZ0]
    exact ((((Fr.rf.up (Or.inr (by simp))).up (Or.inr (by simp))).up (Or.inr (by simp))).up (Or.inr (by simp))).up (Or.inr (by simp))
  have UZ : Uq M Z := by
    rw [hZ, hZ0]
    exact ((((Uq.rf.up (Or.inr (Or.inl ⟨rfl, by omega⟩))).up (Or.inr (Or.inr (Or.inr (Or.inl ⟨rfl, by omega⟩))))).up (Or.inr (Or.inr (Or.inr (Or.inl ⟨rfl, by omega⟩))))).up (Or.inr (Or.inr (Or.inr (Or.inl ⟨rfl, by omega⟩))))).up (Or.inl ⟨rfl, by decide⟩)
  clear hZ hZ0
  obtain ⟨⟨n1, n2⟩, ⟨n3, n4⟩, ⟨n5, n6⟩⟩ := hN
  obtain ⟨r1, r2, r3⟩ := hR
  refine wq_some ⟨⟨hsm.fr FZ rfl, ⟨⟨?_, fun w hw => ?_⟩, ⟨?_, fun w hw => ?_⟩, ⟨?_, fun w hw => ?_⟩⟩, ⟨fun s hs => ?_, fun w hw j hj => ?_, ?_⟩, ⟨?_, fun k hk => ?_, fun k hk => ?_⟩, ws_addW hS hl1 hlt hb hx hy, hl⟩, fun k hk => by rw [FZ.row 102 rfl]; exact hC.2.2 k hk, UZ, FZ.cov rfl⟩
  · rw [z980 0 (by decide)]; exact n1
  · have hw : w < S.c 0 := hw
    show Z 99 (12 * 0 + w) = pk27 0 (if 12 * 0 + w = 24 + S.c 2 then l else S.nm (12 * 0 + w))
    rw [z99, if_neg (by omega), if_neg (by omega)]
    exact n2 w hw
  · rw [z980 1 (by decide)]; exact n3
  · have hw : w < S.c 1 := hw
    show Z 99 (12 * 1 + w) = pk27 0 (if 12 * 1 + w = 24 + S.c 2 then l else S.nm (12 * 1 + w))
    rw [z99, if_neg (by omega), if_neg (by omega)]
    exact n4 w hw
  · show Z 98 2 = ((S.c 2 + 1 : Nat) : Int)
    rw [z981, n5]
    push_cast
    rfl
  · have hw : w < S.c 2 + 1 := hw
    show Z 99 (12 * 2 + w) = pk27 0 (if 12 * 2 + w = 24 + S.c 2 then l else S.nm (12 * 2 + w))
    rw [z99]
    by_cases gg : w = S.c 2
    · rw [if_pos (by omega), if_pos (by omega)]
    · rw [if_neg (by omega), if_neg (by omega)]
      exact n6 w (by omega)
  · obtain ⟨o1, o2, o3⟩ := r1 s hs
    exact ⟨fun j hj => by rw [FZ.row 100 rfl]; exact o1 j hj, by rw [FZ.row 104 rfl]; exact o2, by rw [FZ.row 105 rfl]; exact o3⟩
  · have hw : w < S.c 2 + 1 := hw
    show Z 101 (3 * w + j) = if w = S.c 2 then v7 b x y 0 0 0 0 j else S.w j w
    by_cases gg : w = S.c 2
    · rw [if_pos gg, gg, ← hn]
      have hj' : j = 0 ∨ j = 1 ∨ j = 2 := by omega
      rcases hj' with z | z | z <;> subst z
      · exact q0
      · exact q1
      · exact q2
    · rw [if_neg gg, qo w j hj (by omega)]
      exact r2 w (by omega) j hj
  · show Z 78 32 = S.bg
    rw [FZ.row 78 rfl]; exact r3
  · rw [FZ.row 78 rfl]; exact hC.1
  · rw [FZ.row 102 rfl]; exact hC.2.1 k hk
  · rw [FZ.row 102 rfl]; exact hC.2.2 k hk
theorem m_walker {v : Int} (hB : Bt T e) (hsm : Sm T e p p M) (hN : Dnm S M) (hR : Drm S M) (hC : Cm U S M) (hS : Ws S) (hl : S.C.length ≤ p.toNat) (hv : -1 ≤ v ∧ v ≤ 1600) : wq (f_M_newWalker v M) (fun M' => Om T e (waRes T e S v p) (Md U T e) M' ∧ Uo U M' ∧ Uq M M' ∧ Fr lTm M M') := by
  have hp0 := hsm.2.2.2.2.2.1
  obtain ⟨c0, c1, c2⟩ := hS.1.1
  obtain ⟨n, hn⟩ : ∃ n, n = S.c 2 := ⟨_, rfl⟩
  have h981 : M 98 2 = (n : Int) := by rw [hn]; exact hN.2.2.1
  unfold f_M_newWalker waRes nnR
  refine wq_I (m_full (kd := 2) (cap := 6) hsm (by decide) (by decide) c2 hN.2.2 hv) (fun r M1 ⟨a1, a2⟩ => ?_)
  have a2 : Fr mnL M M1 := a2
  have hff : ∀ (f : Int × Int) (N : Mm), Fm T e f.1 f.2 N → Fr mnL M N → (Fm T e f.1 f.2 N ∧ Uo U N ∧ Uq M N ∧ Fr lTm M N) := fun f N k1 k2 => ⟨k1, fun k hk => by rw [k2.row 102 rfl]; exact hC.2.2 k hk, Uq.of k2 rfl, k2.cov rfl⟩
  rcases a1 with ⟨b1, b2, b3⟩ | ⟨b1, b2, b3⟩
  · have b1 : r = 1 := b1
    have b3 : Fm T e 5 v M1 := b3
    rw [b1, if_neg b2]
    exact wq_e (by decide) (wq_some (hff (5, v) M1 b3 a2))
  have b1 : r = 0 := b1
  have b3 : M1 = M := b3
  rw [b1, b3, if_pos b2]
  refine wq_t rfl ?_
  show wq (bI (f_M_newName M) (fun r4 M3 => bV (f_M_asks 90 M3) (fun M5 => bI (f_M_number 1 99 M5) (fun r7 M6 => bV (f_M_asks 91 M6) (fun M8 => bI (f_M_placeTold ((-1)) M8) (fun r10 M9 => bV (f_M_asks 84 M9) (fun M11 => bI (f_M_placeTold r10 M11) (fun r13 M12 => waT (M 98 2) r4 r7 r10 r13 M12)))))))) _
  rw [h981]
  have hDk : ∀ N, Fr mnL M N → Dkm S 0 N := fun N z => ⟨by rw [z.row 98 rfl]; exact hN.1.1, fun w hw => by rw [z.row 99 rfl]; exact hN.1.2 w hw⟩
  refine wq_I (m_newName hB hsm hS.1 hN) (fun r4 M3 ⟨c3, f3⟩ => ?_)
  have f3 : Fr mnL M M3 := f3
  rcases Om_cs c3 with ⟨f, d1, d2⟩ | ⟨⟨l, p1⟩, d1, d2, d3, d4, d5⟩
  · have d2 : Fm T e f.1 f.2 M3 := d2
    rw [d1]
    simp only [e_asks_f d2, bV_s, bI_s, e_mnum_f d2, e_plc_f hS.1 (hDk _ f3) d2, waT_f d2]
    exact wq_some (hff f _ d2 f3)
  have d2 : r4 = pk27 0 l := d2
  have d3 : ltrs l := d3
  have d4 : Sm T e p1 p1 M3 := d4
  have d5 : p < p1 := d5
  rw [d1, d2]
  dsimp only [rb]
  unfold apR anR
  refine wq_V (m_asks hB d4 rw_90) (fun M5 ⟨g1, g2⟩ => ?_)
  have f5 : Fr mnL M M5 := f3.tr g2
  rcases Om_cs g1 with ⟨f, d1, d2'⟩ | ⟨p2, d1, d6, d7⟩
  · rw [d1]
    simp only [e_asks_f d2', bV_s, bI_s, e_mnum_f d2', e_plc_f hS.1 (hDk _ f5) d2', waT_f d2']
    exact wq_some (hff f _ d2' f5)
  rw [d1]
  dsimp only [rb]
  refine wq_I (m_number hB d6 (by decide) (by decide)) (fun r7 M6 ⟨g3, g5⟩ => ?_)
  have f6 : Fr mnL M M6 := f5.tr g5
  rcases Om_cs g3 with ⟨f, d1, d2'⟩ | ⟨⟨p3, b⟩, d1, d8, d9, d10, d11⟩
  · have d2' : Fm T e f.1 f.2 M6 := d2'
    rw [d1]
    simp only [e_asks_f d2', bV_s, bI_s, e_plc_f hS.1 (hDk _ f6) d2', waT_f d2']
    exact wq_some (hff f _ d2' f6)
  have d8 : r7 = b := d8
  have d9 : 1 ≤ b ∧ b ≤ 99 := d9
  have d10 : Sm T e p3 p3 M6 := d10
  have d11 : p2 < p3 := d11
  rw [d1, d8]
  dsimp only [rb]
  refine wq_V (m_asks hB d10 rw_91) (fun M8 ⟨g1, g2⟩ => ?_)
  have f8 : Fr mnL M M8 := f6.tr g2
  rcases Om_cs g1 with ⟨f, d1, d2'⟩ | ⟨p4, d1, d12, d13⟩
  · rw [d1]
    simp only [e_asks_f d2', bV_s, bI_s, e_plc_f hS.1 (hDk _ f8) d2', waT_f d2']
    exact wq_some (hff f _ d2' f8)
  rw [d1]
  dsimp only [rb]
  refine wq_I (m_place hB d12 hS.1 (hDk _ f8) (by decide)) (fun r10 M9 ⟨g3, g4, g5⟩ => ?_)
  have f9 : Fr mnL M M9 := f8.tr g5
  rcases Om_cs g3 with ⟨f, d1, d2'⟩ | ⟨⟨x, p5⟩, d1, d14, d15, d16, d17⟩
  · have d2' : Fm T e f.1 f.2 M9 := d2'
    rw [d1]
    simp only [e_asks_f d2', bV_s, bI_s, e_plc_f hS.1 (hDk _ f9) d2', waT_f d2']
    exact wq_some (hff f _ d2' f9)
  have d14 : r10 = x := d14
  have d15 : 0 ≤ x ∧ x < (S.c 0 : Int) ∧ x ≠ -1 := d15
  have d16 : Sm T e p5 p5 M9 := d16
  have d17 : p4 < p5 := d17
  rw [d1, d14]
  dsimp only [rb]
  refine wq_V (m_asks hB d16 rw_84) (fun M11 ⟨g1, g2⟩ => ?_)
  have f11 : Fr mnL M M11 := f9.tr g2
  rcases Om_cs g1 with ⟨f, d1, d2'⟩ | ⟨p6, d1, d18, d19⟩
  · rw [d1]
    simp only [e_plc_f hS.1 (hDk _ f11) d2', bI_s, waT_f d2']
    exact wq_some (hff f _ d2' f11)
  rw [d1]
  dsimp only [rb]
  refine wq_I (m_place hB d18 hS.1 (hDk _ f11) (by omega)) (fun r13 M12 ⟨g3, g4, g5⟩ => ?_)
  have f12 : Fr mnL M M12 := f11.tr g5
  rcases Om_cs g3 with ⟨f, d1, d2'⟩ | ⟨⟨y, p7⟩, d1, d20, d21, d22, d23⟩
  · have d2' : Fm T e f.1 f.2 M12 := d2'
    rw [d1, waT_f d2']
    exact wq_some (hff f _ d2' f12)
  have d20 : r13 = y := d20
  have d21 : 0 ≤ y ∧ y < (S.c 0 : Int) ∧ y ≠ x := d21
  have d22 : Sm T e p7 p7 M12 := d22
  have d23 : p6 < p7 := d23
  rw [d1, d20]
  dsimp only [rb]
  refine wq_m (waT_ok d22 (hN.fr f12 rfl rfl) (hR.eq (f12.row 100 rfl) (f12.row 101 rfl) (f12.row 104 rfl) (f12.row 105 rfl) (f12.at 78 32 rfl)) ⟨by rw [f12.at 78 35 rfl]; exact hC.1, fun k hk => by rw [f12.row 102 rfl]; exact hC.2.1 k hk, fun k hk => by rw [f12.row 102 rfl]; exact hC.2.2 k hk⟩ hS (by omega) hn b2 d3 d9 d15 d21) (fun M' ⟨z1, z2, z3, z4⟩ => ⟨z1, z2, (Uq.of f12 rfl).tr z3, (f12.cov rfl : Fr lTm _ _).tr z4⟩)
theorem m_plc {v : Int} (hB : Bt T e) (hsm : Sm T e p p M) (hN : Dnm S M) (hR : Drm S M) (hC : Cm U S M) (hS : Ws S) (hl : S.C.length ≤ p.toNat) (hv : -1 ≤ v ∧ v ≤ 1600) : wq (f_M_newPlace v M) (fun M' => Om T e (plRes T e S v p) (Md U T e) M' ∧ Uo U M' ∧ Uq M M' ∧ Fr lTm M M') := by
  have hp0 := hsm.2.2.2.2.2.1
  obtain ⟨c0, c1, c2⟩ := hS.1.1
  unfold f_M_newPlace plRes nnR
  refine wq_I (m_full (kd := 0) (cap := 9) hsm (by decide) (by decide) c0 hN.1 hv) (fun r M1 ⟨a1, a2⟩ => ?_)
  have a2 : Fr mnL M M1 := a2
  have hff : ∀ (f : Int × Int) (N : Mm), Fm T e f.1 f.2 N → Fr mnL M N → (Fm T e f.1 f.2 N ∧ Uo U N ∧ Uq M N ∧ Fr lTm M N) := fun f N k1 k2 => ⟨k1, fun k hk => by rw [k2.row 102 rfl]; exact hC.2.2 k hk, Uq.of k2 rfl, k2.cov rfl⟩
  rcases a1 with ⟨b1, b2, b3⟩ | ⟨b1, b2, b3⟩
  · have b1 : r = 1 := b1
    have b3 : Fm T e 5 v M1 := b3
    rw [b1, if_neg b2]
    exact wq_e (by decide) (wq_some (hff (5, v) M1 b3 a2))
  have b1 : r = 0 := b1
  have b3 : M1 = M := b3
  rw [b1, b3, if_pos b2]
  refine wq_t rfl (wq_I (m_newName hB hsm hS.1 hN) (fun r4 M3 ⟨c3, f3⟩ => ?_))
  have f3 : Fr mnL M M3 := f3
  rcases Om_cs c3 with ⟨f, d1, d2⟩ | ⟨⟨l, p1⟩, d1, d2, d3, d4, d5⟩
  · have d2 : Fm T e f.1 f.2 M3 := d2
    have hk := d2.2.2.2.2.1
    rw [d1, d2.2.2.1, i32_id (x := f.1) (by omega) (by omega)]
    exact wq_e (by omega) (wq_some (hff f _ d2 f3))
  have d2 : r4 = pk27 0 l := d2
  have d3 : ltrs l := d3
  have d4 : Sm T e p1 p1 M3 := d4
  have d5 : p < p1 := d5
  have e98 : M3 98 0 = (S.c 0 : Int) := by rw [f3.row 98 rfl]; exact hN.1.1
  rw [d1, d2, d4.2.2.2.2.1, e98, i32_id (x := (S.c 0 : Int)) (by omega) (by omega), Int.toNat_natCast]
  dsimp only [rb]
  refine wq_t rfl (wq_g ⟨by omega, by omega⟩ (wq_d (wq_d ?_)))
  rw [up_row (show ¬ (98 : Nat) = 99 by decide), e98]
  obtain ⟨Z, hZ⟩ : ∃ Z, Z = up (up M3 99 (S.c 0) (pk27 0 l)) 98 0 ((S.c 0 : Int) + 1) := ⟨_, rfl⟩
  rw [← hZ]
  have z981 : Z 98 0 = (S.c 0 : Int) + 1 := by rw [hZ, up_eq]
  have z980 : ∀ k : Nat, k ≠ 0 → Z 98 k = M 98 k := fun k hk => by rw [hZ, up_col hk, up_row (by decide), f3.row 98 rfl]
  have z99 : ∀ k : Nat, Z 99 k = if k = S.c 0 then pk27 0 l else M 99 k := by
    intro k
    rw [hZ, up_row (by decide), up_at, f3.row 99 rfl]
    by_cases c : k = S.c 0
    · rw [if_pos ⟨rfl, c⟩, if_pos c]
    · rw [if_neg (fun z => c z.2), if_neg c]
  have FZ : Fr [(98, 99999), (99, 99999)] M3 Z := by rw [hZ]; exact (Fr.rf.up (Or.inr (by simp))).up (Or.inr (by simp))
  have UZ : Uq M Z := by rw [hZ]; exact ((Uq.of f3 rfl).up (Or.inr (Or.inl ⟨rfl, by omega⟩))).up (Or.inl ⟨rfl, by decide⟩)
  clear hZ
  obtain ⟨⟨n1, n2⟩, ⟨n3, n4⟩, ⟨n5, n6⟩⟩ := hN
  refine wq_some ⟨⟨d4.fr FZ rfl, ⟨⟨?_, fun w hw => ?_⟩, ⟨?_, fun w hw => ?_⟩, ⟨?_, fun w hw => ?_⟩⟩, ?_, ⟨?_, fun k hk => ?_, fun k hk => ?_⟩, ws_addP hS d3 b2, ?_⟩, fun k hk => by rw [FZ.row 102 rfl, f3.row 102 rfl]; exact hC.2.2 k hk, UZ, (f3.cov rfl : Fr lTm _ _).tr (FZ.cov rfl)⟩
  · show Z 98 0 = ((S.c 0 + 1 : Nat) : Int)
    rw [z981]
    push_cast
    rfl
  · have hw : w < S.c 0 + 1 := hw
    show Z 99 (12 * 0 + w) = pk27 0 (if 12 * 0 + w = S.c 0 then l else S.nm (12 * 0 + w))
    rw [z99]
    by_cases gg : w = S.c 0
    · rw [if_pos (by omega), if_pos (by omega)]
    · rw [if_neg (by omega), if_neg (by omega)]
      exact n2 w (by omega)
  · rw [z980 1 (by decide)]; exact n3
  · have hw : w < S.c 1 := hw
    show Z 99 (12 * 1 + w) = pk27 0 (if 12 * 1 + w = S.c 0 then l else S.nm (12 * 1 + w))
    rw [z99, if_neg (by omega), if_neg (by omega)]
    exact n4 w hw
  · rw [z980 2 (by decide)]; exact n5
  · have hw : w < S.c 2 := hw
    show Z 99 (12 * 2 + w) = pk27 0 (if 12 * 2 + w = S.c 0 then l else S.nm (12 * 2 + w))
    rw [z99, if_neg (by omega), if_neg (by omega)]
    exact n6 w hw
  · exact Drm.eq (S := addP S l) (M := M) hR (by rw [FZ.row 100 rfl, f3.row 100 rfl]) (by rw [FZ.row 101 rfl, f3.row 101 rfl]) (by rw [FZ.row 104 rfl, f3.row 104 rfl]) (by rw [FZ.row 105 rfl, f3.row 105 rfl]) (by rw [FZ.row 78 rfl, f3.at 78 32 rfl])
  · rw [FZ.row 78 rfl, f3.at 78 35 rfl]; exact hC.1
  · rw [FZ.row 102 rfl, f3.row 102 rfl]; exact hC.2.1 k hk
  · rw [FZ.row 102 rfl, f3.row 102 rfl]; exact hC.2.2 k hk
  · show S.C.length ≤ p1.toNat
    omega
end Mwk
