theorem Fb.fr' {T : Nat → Int} {e k pl : Int} {M M' : Mm} {l : List (Nat × Nat)} (h : Fb T e k pl M) (hF : Fr l M M') (hh : l.all (fun q => q.1 != 1 && q.1 != 2) = true) : Fb T e k pl M' := by
  have hz := fun p hp => List.all_eq_true.mp hh p hp
  simp only [Bool.and_eq_true, bne_iff_ne, ne_eq] at hz
  have e1 := hF.rw' 1 fun p hp => (hz p hp).1
  have e2 := hF.rw' 2 fun p hp => (hz p hp).2
  unfold Fb at *
  rw [e1, e2]
  exact h
section Cas
variable {T : Nat → Int} {e p g : Int} {S : Tn} {M : Mm}
theorem c_place {w row n sl : Nat} {L : List Int} {x : Int} (hB : Bt T e) (h : Sc T e p g M) (hL : cwd w L) (hW : Wn S) (hD : Dk S 0 M) (hs : slen row = sl) (hsl : sl < 1000) (hn : n < sl) (hr : ([(row, n)] : List (Nat × Nat)).all (fun q => q.1 != 1 && q.1 != 2) = true) (hx : -1 ≤ x ∧ x ≤ 100) : wq (f_TownR_placeAsked w row x (n : Int) M) (fun q => Oc T e (apR T e L S x p g) (fun a M' => Sc T e a.2 a.2 M' ∧ M' row n = a.1 ∧ (0 ≤ a.1 ∧ a.1 < (S.c 0 : Int) ∧ a.1 ≠ x) ∧ p < a.2) q ∧ Fr ((row, n) :: scL) M q.2) := by
  have hh := hB.1
  have hp0 := h.2.2.2.2.2.1
  have hs1 := sk_rng T hp0.1 hp0.2
  have hl1 := hL.2.1.1
  unfold f_TownR_placeAsked apR wdR
  refine wq_I (s_takeWord hB h hL) (fun r M1 ⟨a1, a2⟩ => ?_)
  have a2 : Fr scL M M1 := a2
  rcases a1 with ⟨b1, b2, b3⟩ | ⟨b1, b2, b3⟩
  · have b1 : r = 1 := b1
    have b3 : Sc T e (sk T e p + L.length) (sk T e p + L.length) M1 := b3
    rw [b1, if_pos (hwq_iff.mpr b2)]
    refine wq_t (by decide) ?_
    show wq _ (fun q => Oc T e (plR T e S x (sk T e p + L.length)) _ q ∧ _)
    obtain ⟨p1, hp1⟩ : ∃ p1, p1 = sk T e p + L.length := ⟨_, rfl⟩
    rw [← hp1] at b3 ⊢
    have hq0 := b3.2.2.2.2.2.1
    have hs2 := sk_rng T hq0.1 hq0.2
    refine wq_I (s_name hB b3) (fun r2 M2 ⟨c1, c2⟩ => ?_)
    have c2 : Fr scL M1 M2 := c2
    have f2 : Fr scL M M2 := a2.tr c2
    unfold plR
    rcases c1 with ⟨l, d1, d2, d3, d4, d5⟩ | ⟨k, pl, d1, d2, d3⟩
    · have d2 : r2 = pk5 l := d2
      have d4 : Sc T e (sk T e p1 + l.length) (sk T e p1 + l.length) M2 := d4
      have d5 : M2 1 4 = sk T e p1 := d5
      have hpk := ltrs_pk d3
      rw [d1, d2, i32_id (x := pk5 l) (by omega) (by omega), i32_id (x := (-1)) (by decide) (by decide)]
      have hD2 : Dk S 0 M2 := hD.eq (f2.row 21 rfl) (f2.row 22 rfl)
      refine wq_t (by omega) (wq_I (s_named (kd := 0) (by decide) hW hD2 d3) (fun r3 M3 ⟨g1, g2⟩ => ?_))
      have g1 : r3 = fx S.nm 0 l (S.c 0) 0 := g1
      have g2 : M3 = M2 := g2
      have hfx : fx S.nm 0 l (S.c 0) 0 = -1 ∨ (0 ≤ fx S.nm 0 l (S.c 0) 0 ∧ fx S.nm 0 l (S.c 0) 0 < (S.c 0 : Int)) := fx_r hW (kd := 0) (by decide) l
      have hc9 := hW.1.1
      show wq _ (fun q => Oc T e (if fx S.nm 0 l (S.c 0) 0 = -1 ∨ fx S.nm 0 l (S.c 0) 0 = x then .inl (3, sk T e p1) else .inr (fx S.nm 0 l (S.c 0) 0, sk T e p1 + l.length)) _ q ∧ _)
      rw [← g1] at hfx ⊢
      have hf : ∀ (A : Prop) (Q : Int × Mm → Prop), (∀ q : Int × Mm, q.1 = 0 → Fb T e 3 (sk T e p1) q.2 → Fr scL M q.2 → Q q) → wq (f_TownR_placeAsked_J60 w row M3) Q := by
        intro _ Q hQ
        unfold f_TownR_placeAsked_J60
        rw [g2, d5]
        refine wq_I (s_fail d4 (by decide) (by omega)) (fun r4 M4 ⟨k1, k2, k3⟩ => ?_)
        have k1 : r4 = 0 := k1
        rw [k1]
        exact wq_g (by decide) (wq_some (hQ _ rfl k2 (f2.tr k3)))
      rw [i32_id (x := r3) (by omega) (by omega), i32_id (x := x) (by omega) (by omega)]
      refine wq_if (fun z => ?_) (fun z => wq_if (fun z2 => ?_) (fun z2 => ?_))
      · rw [if_pos (Or.inl z)]
        exact hf True _ (fun q k1 k2 k3 => ⟨⟨k1, k2⟩, k3.cov (by unfold cov; simp [scL])⟩)
      · rw [if_neg (fun o => o.elim z z2), g2, e_set (n := sl) M2 hs (by omega) (by omega) (by omega), Int.toNat_natCast]
        have hF : Fr [(row, n)] M2 (up M2 row n r3) := Fr.rf.up (by simp)
        refine wq_some ⟨⟨rfl, d4.fr hF hr, up_eq _ _ _ _, ⟨by omega, by omega, z2⟩, ?_⟩, ?_⟩
        · show p < sk T e p1 + l.length
          omega
        · exact (f2.mono (fun q hq => List.mem_cons_of_mem _ hq)).tr (hF.mono (by simp))
      · rw [if_pos (Or.inr (Classical.not_not.mp z2))]
        exact hf True _ (fun q k1 k2 k3 => ⟨⟨k1, k2⟩, k3.mono (fun q hq => List.mem_cons_of_mem _ hq)⟩)
    · have d2 : r2 = -1 := d2
      rw [d1, d2]
      exact wq_e (by decide) (wq_some ⟨⟨rfl, d3⟩, f2.mono (fun q hq => List.mem_cons_of_mem _ hq)⟩)
  · have b1 : r = 0 := b1
    have b3 : Sc T e (sk T e p) g M1 := b3
    rw [b1, if_neg (fun z => b2 (hwq_iff.mp z))]
    refine wq_e (by decide) (wq_I (s_unex hB b3) (fun r4 M4 ⟨k1, k2, k3⟩ => ?_))
    have k1 : r4 = 0 := k1
    rw [k1]
    rw [sk_sk T hp0.1] at k2
    exact wq_g (by decide) (wq_some ⟨⟨rfl, k2⟩, (a2.tr k3).mono (fun q hq => List.mem_cons_of_mem _ hq)⟩)
theorem c_number {w row n sl : Nat} {L : List Int} {a b : Int} (hB : Bt T e) (h : Sc T e p g M) (hL : cwd w L) (hs : slen row = sl) (hsl : sl < 1000) (hn : n < sl) (hr : ([(row, n)] : List (Nat × Nat)).all (fun q => q.1 != 1 && q.1 != 2) = true) (ha : 0 ≤ a ∧ a ≤ 9999) (hb : 0 ≤ b ∧ b ≤ 9999) : wq (f_TownR_numberAsked w row a b (n : Int) M) (fun q => Oc T e (anR T e L a b p g) (fun z M' => Sc T e z.1 z.1 M' ∧ M' row n = z.2 ∧ (a ≤ z.2 ∧ z.2 ≤ b) ∧ p < z.1) q ∧ Fr ((row, n) :: scL) M q.2) := by
  have hh := hB.1
  have hp0 := h.2.2.2.2.2.1
  have hs1 := sk_rng T hp0.1 hp0.2
  have hl1 := hL.2.1.1
  unfold f_TownR_numberAsked anR wdR
  refine wq_I (s_takeWord hB h hL) (fun r M1 ⟨a1, a2⟩ => ?_)
  have a2 : Fr scL M M1 := a2
  rcases a1 with ⟨b1, b2, b3⟩ | ⟨b1, b2, b3⟩
  · have b1 : r = 1 := b1
    have b3 : Sc T e (sk T e p + L.length) (sk T e p + L.length) M1 := b3
    rw [b1, if_pos (hwq_iff.mpr b2)]
    refine wq_t (by decide) ?_
    show wq _ (fun q => Oc T e (numR T e a b (sk T e p + L.length) (sk T e p + L.length)) _ q ∧ _)
    obtain ⟨p1, hp1⟩ : ∃ p1, p1 = sk T e p + L.length := ⟨_, rfl⟩
    rw [← hp1] at b3 ⊢
    have hq0 := b3.2.2.2.2.2.1
    have hs2 := sk_rng T hq0.1 hq0.2
    refine wq_I (s_number hB b3 ha.1 ha.2 hb.1 hb.2) (fun r2 M2 ⟨c1, c2⟩ => ?_)
    have c2 : Fr scL M1 M2 := c2
    have f2 : Fr scL M M2 := a2.tr c2
    rw [e_set (n := sl) M2 hs (by omega) (by omega) (by omega), Int.toNat_natCast, bV_s]
    have hF : Fr [(row, n)] M2 (up M2 row n r2) := Fr.rf.up (by simp)
    have f3 : Fr ((row, n) :: scL) M (up M2 row n r2) := (f2.mono (fun q hq => List.mem_cons_of_mem _ hq)).tr (hF.mono (by simp))
    rcases c1 with ⟨p2, v, d1, d2, d3, d4, d5⟩ | ⟨k, pl, d1, d2, d3⟩
    · have d2 : r2 = v := d2
      have d5 : Sc T e p2 p2 M2 := d5
      rw [d1]
      refine wq_e (by rw [i32_id (x := r2) (by omega) (by omega), i32_id (x := (-1)) (by decide) (by decide)]; omega) (wq_some ⟨⟨rfl, d5.fr hF hr, ?_, d3, ?_⟩, f3⟩)
      · show up M2 row n r2 row n = v
        rw [up_eq, d2]
      · show p < p2
        omega
    · have d2 : r2 = -1 := d2
      have d3 : Fb T e k pl M2 := d3
      rw [d1]
      refine wq_t (by rw [d2]) (wq_some ⟨⟨rfl, d3.fr' hF hr⟩, f3⟩)
  · have b1 : r = 0 := b1
    have b3 : Sc T e (sk T e p) g M1 := b3
    rw [b1, if_neg (fun z => b2 (hwq_iff.mp z))]
    refine wq_e (by decide) (wq_I (s_unex hB b3) (fun r4 M4 ⟨k1, k2, k3⟩ => ?_))
    have k1 : r4 = 0 := k1
    rw [k1]
    rw [sk_sk T hp0.1] at k2
    exact wq_g (by decide) (wq_some ⟨⟨rfl, k2⟩, (a2.tr k3).mono (fun q hq => List.mem_cons_of_mem _ hq)⟩)
/-- a new name, in the class -/
def NnQ (T : Nat → Int) (e : Int) (S : Tn) (kd cap : Nat) (p p1 : Int) (q : Int × Mm) : Prop := (∃ f, nnR T e S kd cap p p1 = .inl f ∧ q.1 = -1 ∧ Fb T e f.1 f.2 q.2) ∨ (∃ a, nnR T e S kd cap p p1 = .inr a ∧ q.1 = (S.c kd : Int) ∧ Sc T e a.2 a.2 q.2 ∧ ltrs a.1 ∧ S.c kd < cap ∧ p1 < a.2 ∧ q.2 21 kd = (S.c kd : Int) + 1 ∧ q.2 22 (12 * kd + S.c kd) = pk5 a.1)
theorem c_newName {w kd cap : Nat} {L : List Int} (hB : Bt T e) (h : Sc T e p g M) (hp : sk T e p = p) (hL : cwd w L) (hw : hw T e L p g) (hk : kd < 3) (hc : cap ≤ 12) (hW : Wn S) (hD : Dn S M) (hDk : Dk S kd M) : wq (f_TownR_newName w (kd : Int) (cap : Int) M) (fun q => NnQ T e S kd cap p (p + L.length) q ∧ Fr ((21, kd) :: (22, 12 * kd + S.c kd) :: scL) M q.2) := by
  have hh := hB.1
  have hp0 := h.2.2.2.2.2.1
  have hl1 := hL.2.1.1
  have hcl := hW.le hk
  have hmo : ∀ {N : Mm}, Fr scL M N → Fr ((21, kd) :: (22, 12 * kd + S.c kd) :: scL) M N := fun z => z.mono (fun q hq => List.mem_cons_of_mem _ (List.mem_cons_of_mem _ hq))
  unfold f_TownR_newName f_Told_count
  rw [ptr_20_0, e_cell_in (n := 3) M slen_21 (by decide) (by omega) (by omega), bI_s, Int.toNat_natCast, hDk.1, bI_s, i32_id (x := (S.c kd : Int)) (by omega) (by omega), i32_id (x := (cap : Int)) (by omega) (by omega)]
  refine wq_if (fun c => ?_) (fun c => ?_)
  · refine wq_I (s_takeWord hB h hL) (fun r M1 ⟨a1, a2⟩ => ?_)
    have a2 : Fr scL M M1 := a2
    rcases a1 with ⟨b1, b2, b3⟩ | ⟨b1, b2, b3⟩
    · have b1 : r = 1 := b1
      have b3 : Sc T e (sk T e p + L.length) (sk T e p + L.length) M1 := b3
      rw [b1]
      rw [hp] at b3
      refine wq_e (by decide) ?_
      have hnn : nnR T e S kd cap p (p + L.length) = nwR T e S (p + L.length) := if_pos (by omega)
      obtain ⟨p1, hp1⟩ : ∃ p1, p1 = p + (L.length : Int) := ⟨_, rfl⟩
      rw [← hp1] at b3 hnn ⊢
      have hq0 := b3.2.2.2.2.2.1
      have hs2 := sk_rng T hq0.1 hq0.2
      refine wq_I (s_name hB b3) (fun r2 M2 ⟨c1, c2⟩ => ?_)
      have c2 : Fr scL M1 M2 := c2
      have f2 : Fr scL M M2 := a2.tr c2
      unfold f_TownR_newName_J52
      rcases c1 with ⟨l, d1, d2, d3, d4, d5⟩ | ⟨k, pl, d1, d2, d3⟩
      · have d2 : r2 = pk5 l := d2
        have d4 : Sc T e (sk T e p1 + l.length) (sk T e p1 + l.length) M2 := d4
        have d5 : M2 1 4 = sk T e p1 := d5
        have hpk := ltrs_pk d3
        have hl0 := d3.1.1
        have hnw : nwR T e S p1 = if knw S l = true then .inl (3, sk T e p1) else .inr (l, sk T e p1 + l.length) := by unfold nwR; rw [d1]; rfl
        rw [hnw] at hnn
        rw [d2, i32_id (x := pk5 l) (by omega) (by omega), i32_id (x := (-1)) (by decide) (by decide)]
        refine wq_t (by omega) (wq_I (s_knows hW (hD.sc f2) d3) (fun r3 M3 ⟨g1, g2⟩ => ?_))
        have g1 : tf r3 (knw S l = true) := g1
        have g2 : M3 = M2 := g2
        rw [g2]
        rcases g1 with ⟨g3, g4⟩ | ⟨g3, g4⟩
        · rw [g3, d5]
          rw [if_pos g4] at hnn
          refine wq_e (by decide) (wq_I (s_fail d4 (by decide) (by omega)) (fun r4 M4 ⟨k1, k2, k3⟩ => wq_some ⟨Or.inl ⟨_, hnn, rfl, k2⟩, hmo (f2.tr k3)⟩))
        · rw [g3]
          rw [if_neg g4] at hnn
          unfold f_Told_enter f_Told_count
          have e21 : M2 21 kd = (S.c kd : Int) := by rw [f2.row 21 rfl]; exact hDk.1
          have hi : (kd : Int) * 12 + (S.c kd : Int) < 36 := by omega
          rw [ptr_20_0, ptr_20_1, e_cell_in (n := 3) M2 slen_21 (by decide) (by omega) (by omega), bI_s, Int.toNat_natCast, e21, bI_s, e_set (n := 36) M2 slen_22 (by decide) (by omega) (by omega), bV_s, e_set (n := 3) _ slen_21 (by decide) (by omega) (by omega), bV_s, Int.toNat_natCast, show ((kd : Int) * 12 + (S.c kd : Int)).toNat = 12 * kd + S.c kd by omega]
          refine wq_t (by decide) ?_
          have hF : Fr [(21, kd), (22, 12 * kd + S.c kd)] M2 (up (up M2 22 (12 * kd + S.c kd) (pk5 l)) 21 kd ((S.c kd : Int) + 1)) := (Fr.rf.up (by simp)).up (by simp)
          refine wq_some ⟨Or.inr ⟨_, hnn, rfl, d4.fr hF rfl, d3, by omega, ?_, by show up (up M2 22 (12 * kd + S.c kd) (pk5 l)) 21 kd ((S.c kd : Int) + 1) 21 kd = (S.c kd : Int) + 1; exact up_eq _ _ _ _, ?_⟩, (hmo f2).tr (hF.mono (by simp))⟩
          · show p1 < sk T e p1 + l.length
            omega
          · show up (up M2 22 (12 * kd + S.c kd) (pk5 l)) 21 kd ((S.c kd : Int) + 1) 22 (12 * kd + S.c kd) = pk5 l
            rw [up_row (show ¬ (22 : Nat) = 21 by decide), up_eq]
      · have d2 : r2 = -1 := d2
        have hnw : nwR T e S p1 = .inl (k, pl) := by unfold nwR; rw [d1]; rfl
        rw [hnw] at hnn
        rw [d2]
        exact wq_e (by decide) (wq_some ⟨Or.inl ⟨_, hnn, rfl, d3⟩, hmo f2⟩)
    · exact absurd hw b2
  · have h12 : M 1 2 = p := h.2.2.1
    rw [h12]
    have hnn : nnR T e S kd cap p (p + L.length) = .inl (5, p) := if_neg (by omega)
    exact wq_I (s_fail h (by decide) (by omega)) (fun r4 M4 ⟨k1, k2, k3⟩ => wq_some ⟨Or.inl ⟨_, hnn, rfl, k2⟩, hmo k3⟩)
end Cas
