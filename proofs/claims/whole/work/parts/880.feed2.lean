theorem call_feed {n : Nat} {v1 v2 v3 v4 v5 : Int} : CallOk n (f_BT_feed v1 v2 v3 v4 v5) (f_M_feed v1 v2 v3 v4 v5) := by
  intro M hR
  obtain ⟨h1, h2, h3, h4, h5, h6, h7, h8, h9, h10, h11⟩ := id hR
  have ht := h4.1
  have et := h4.2.2.1
  have e2 := h4.2.2.2
  unfold f_BT_feed
  rw [et, i32_id (x := M 78 1 + 20) (by omega) (by omega), i32_id (x := 1600) (by omega) (by omega)]
  refine wq_if (fun c => ?_) (fun c => ?_)
  · generalize he : M 78 1 = e at *
    refine wq_V (s_append et (by omega) (by omega)) (fun A ⟨a1, a2, a3, a4⟩ => ?_)
    refine wq_V (s_append a1 (by omega) (by omega)) (fun B ⟨b1, b2, b3, b4⟩ => ?_)
    refine wq_V (s_append b1 (by omega) (by omega)) (fun C ⟨c1, c2, c3, c4⟩ => ?_)
    refine wq_V (s_append c1 (by omega) (by omega)) (fun D ⟨d1, d2, d3, d4⟩ => ?_)
    refine wq_V (s_append d1 (by omega) (by omega)) (fun E ⟨f1, f2, f3, f4⟩ => ?_)
    have FE : Fr [(1, 1), (2, 99999)] M E := (((a4.tr b4).tr c4).tr d4).tr f4
    have hb : ∀ i : Nat, i < 20 → E 2 (e.toNat + i) = byo (fv v1 v2 v3 v4 v5 i) (8 * (3 - (i : Int) % 4)) := by
      intro i hi
      unfold fv
      by_cases z1 : i < 4
      · rw [if_pos z1, f3 _ (by omega), d3 _ (by omega), c3 _ (by omega), b3 _ (by omega), a2 i z1]
        congr 1; omega
      rw [if_neg z1]
      by_cases z2 : i < 8
      · have := b2 (i - 4) (by omega)
        rw [show (e + 4).toNat + (i - 4) = e.toNat + i by omega] at this
        rw [if_pos z2, f3 _ (by omega), d3 _ (by omega), c3 _ (by omega), this]
        congr 1; omega
      rw [if_neg z2]
      by_cases z3 : i < 12
      · have := c2 (i - 8) (by omega)
        rw [show (e + 4 + 4).toNat + (i - 8) = e.toNat + i by omega] at this
        rw [if_pos z3, f3 _ (by omega), d3 _ (by omega), this]
        congr 1; omega
      rw [if_neg z3]
      by_cases z4 : i < 16
      · have := d2 (i - 12) (by omega)
        rw [show (e + 4 + 4 + 4).toNat + (i - 12) = e.toNat + i by omega] at this
        rw [if_pos z4, f3 _ (by omega), this]
        congr 1; omega
      rw [if_neg z4]
      have := f2 (i - 16) (by omega)
      rw [show (e + 4 + 4 + 4 + 4).toNat + (i - 16) = e.toNat + i by omega] at this
      rw [this]
      congr 1; omega
    have ho : ∀ q : Nat, (q < e.toNat ∨ e.toNat + 20 ≤ q) → E 2 q = M 2 q := fun q hq => by
      rw [f3 _ (by omega), d3 _ (by omega), c3 _ (by omega), b3 _ (by omega), a3 _ (by omega)]
    have f1' : E 1 1 = e + 20 := by omega
    refine wq_some ?_
    rw [f1']
    show wq (f_M_feed v1 v2 v3 v4 v5 E) (fun q' => e + 20 = q'.1 ∧ Rl (n + 1) q'.2 q'.2)
    have e781 : E 78 1 = e := by rw [FE.row 78 rfl, he]
    unfold f_M_feed
    rw [e781, i32_id (x := e + 20) (by omega) (by omega), i32_id (x := 1600) (by omega) (by omega), if_pos c]
    refine wq_m (s_feedM (v1 := v1) (v2 := v2) (v3 := v3) (v4 := v4) (v5 := v5) e781 (by omega) (by omega)) ?_
    rintro ⟨r, N⟩ ⟨g1, g2, g3, g4, g5⟩
    have g1 : r = e + 20 := g1
    have g2 : N 78 1 = e + 20 := g2
    have g3 : ∀ i : Nat, i < 20 → N 79 (e.toNat + i) = byo (fv v1 v2 v3 v4 v5 i) (8 * (3 - (i : Int) % 4)) := g3
    have g4 : ∀ q' : Nat, (q' < e.toNat ∨ e.toNat + 20 ≤ q') → N 79 q' = E 79 q' := g4
    have g5 : Fr [(78, 1), (79, 99999)] E N := g5
    refine ⟨g1.symm, ?_⟩
    show Rl (n + 1) N N
    have hF : Fr [(1, 1), (2, 99999), (78, 1), (79, 99999)] M N := (FE.cov rfl).tr (g5.cov rfl)
    have hu : Ru M N := Ru.of hF rfl
    have e79 : E 79 = M 79 := FE.row 79 rfl
    refine rel_c hR (hF.cov rfl) (h3.2.2.fr hF rfl) (by rw [hF.row 48 rfl]; exact h10.2.2) (h2.ru hu) (nc_ru (h3.2.1.fr hF rfl) hu) ?_ (h5.c (hF.at 78 7 rfl) (hF.at 78 8 rfl) (hF.row 80 rfl) (hF.at 78 65 rfl) (hF.at 0 11 rfl) (hF.at 0 12 rfl) (hF.row 77 rfl) (hF.at 0 13 rfl)) (h7.cg hu.t (hF.at 78 63 rfl) (hF.at 78 64 rfl) (hF.row 120 rfl) (hF.at 39 9 rfl) (hF.row 44 rfl)) (h8.c (hF.at 78 99 rfl) (hF.row 145 rfl) (hF.at 39 7 rfl) (hF.row 45 rfl)) (h9.cg hu.t (hF.at 78 66 rfl) (hF.row 121 rfl) (hF.at 64 6 rfl) (hF.row 65 rfl) (hF.row 66 rfl) (hF.row 67 rfl))
    unfold Tp
    rw [g2, g5.row 2 rfl, g5.row 1 rfl, f1']
    refine ⟨by omega, fun k => ?_, rfl, ?_⟩
    · by_cases z : k < e.toNat ∨ e.toNat + 20 ≤ k
      · rw [g4 k z, e79]; exact h4.2.1 k
      · have := g3 (k - e.toNat) (by omega)
        rw [show e.toNat + (k - e.toNat) = k by omega] at this
        rw [this]; exact byo_rng _ _
    · funext k
      by_cases z : k < e.toNat ∨ e.toNat + 20 ≤ k
      · rw [g4 k z, e79, ho k z, e2]
      · have i1 := g3 (k - e.toNat) (by omega)
        have i2 := hb (k - e.toNat) (by omega)
        rw [show e.toNat + (k - e.toNat) = k by omega] at i1 i2
        rw [i1, i2]
  · rw [e_ref0, bI_s]
    refine wq_some ?_
    show wq (f_M_feed v1 v2 v3 v4 v5 (up M 77 0 (M 77 0 + 1))) _
    have e : (up M 77 0 (M 77 0 + 1)) 78 1 = M 78 1 := by rw [up_row (by decide)]
    unfold f_M_feed
    rw [e, i32_id (x := M 78 1 + 20) (by omega) (by omega), i32_id (x := 1600) (by omega) (by omega), if_neg c]
    exact wq_d (wq_some ⟨rfl, rel_ref hR (rel_n hR) 0⟩)
