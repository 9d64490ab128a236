/-- the names of one kind, in the reference's lower half -/
def Dkm (S : Tn) (kd : Nat) (M : Mm) : Prop := M 98 kd = (S.c kd : Int) ∧ ∀ w : Nat, w < S.c kd → M 99 (12 * kd + w) = pk27 0 (S.nm (12 * kd + w))
def Dnm (S : Tn) (M : Mm) : Prop := Dkm S 0 M ∧ Dkm S 1 M ∧ Dkm S 2 M
def Drm (S : Tn) (M : Mm) : Prop := (∀ s : Nat, s < S.c 1 → (∀ j : Nat, j < 5 → M 100 (5 * s + j) = S.r j s) ∧ M 104 s = S.r 5 s ∧ M 105 s = S.r 6 s) ∧ (∀ w : Nat, w < S.c 2 → ∀ j : Nat, j < 3 → M 101 (3 * w + j) = S.w j w) ∧ M 78 32 = S.bg
theorem Dnm.eq {S : Tn} {M M' : Mm} (h : Dnm S M) (e1 : M' 98 = M 98) (e2 : M' 99 = M 99) : Dnm S M' := by
  unfold Dnm Dkm
  rw [e1, e2]
  exact h
theorem Drm.eq {S : Tn} {M M' : Mm} (h : Drm S M) (e1 : M' 100 = M 100) (e2 : M' 101 = M 101) (e3 : M' 104 = M 104) (e4 : M' 105 = M 105) (e5 : M' 78 32 = M 78 32) : Drm S M' := by
  unfold Drm
  rw [e1, e2, e3, e4, e5]
  exact h
def mnL : List (Nat × Nat) := [(78, 27), (78, 2), (78, 4), (78, 5), (78, 6)]
section Mn
variable {T : Nat → Int} {e p g : Int} {S : Tn} {M : Mm}
theorem m_nameOf {kd : Nat} {v : Int} (hk : kd < 3) (hW : Wn S) (hD : Dkm S kd M) (hv : 0 ≤ v ∧ v < 387420489) : wq (f_M_nameOf (kd : Int) v M) (fun q => (∀ l, ltrs l → v = pk27 0 l → q.1 = fx S.nm (12 * kd) l (S.c kd) 0) ∧ (-1 ≤ q.1 ∧ q.1 ≤ 12) ∧ q.2 = M) := by
  have hc := hW.le hk
  unfold f_M_nameOf f_M_nameOf_L3
  refine wq_lp (fun z => z.1 = (kd : Int) ∧ z.2.1 = v ∧ ∃ i : Nat, z.2.2.1 = (i : Int) ∧ i ≤ S.c kd ∧ (∀ l, ltrs l → v = pk27 0 l → fx S.nm (12 * kd) l (S.c kd - i) i = fx S.nm (12 * kd) l (S.c kd) 0) ∧ z.2.2.2 = M) (fun z => (13 - z.2.2.1).toNat) ?_ FU _ ⟨rfl, rfl, 0, rfl, Nat.zero_le _, fun _ _ _ => rfl, rfl⟩ ?_
  · rintro kH ⟨v1, v2, v3, N⟩ ⟨q1, q2, i, q3, q4, q5, q6⟩ hg
    have q1 : v1 = (kd : Int) := q1
    have q2 : v2 = v := q2
    have q3 : v3 = (i : Int) := q3
    subst q1 q3
    have q6 : N = M := q6
    have q2 : v2 = v := q2
    show wq (f_M_nameOf_B3 (fun v1 v2 v4 M => kH (v1, v2, v4, M)) (kd : Int) v2 (i : Int) N) _
    rw [q6, q2]
    unfold f_M_nameOf_B3
    rw [i32_id (x := (kd : Int)) (by omega) (by omega), Int.toNat_natCast, hD.1, i32_id (x := (S.c kd : Int)) (by omega) (by omega), i32_id (x := (i : Int)) (by omega) (by omega)]
    refine wq_g ⟨by omega, by omega⟩ (wq_if (fun c => wq_some ⟨fun l h1 h2 => ?_, by show -1 ≤ (-1 : Int) ∧ (-1 : Int) ≤ 12; decide, rfl⟩) (fun c => ?_))
    · rw [← q5 l h1 h2, show S.c kd - i = 0 by omega]
      rfl
    · have hp2 := ltrs_pk27 (hW.2 kd i hk (by omega))
      have hs : S.c kd - i = (S.c kd - (i + 1)) + 1 := by omega
      rw [i32_id (x := 12 * (kd : Int) + (i : Int)) (by omega) (by omega), show (12 * (kd : Int) + (i : Int)).toNat = 12 * kd + i by omega, hD.2 i (by omega)]
      refine wq_g ⟨by omega, by omega⟩ (wq_if (fun c2 => ?_) (fun c2 => ?_))
      · rw [c64_eq (by omega) (by omega) (by omega) (by omega)] at c2
        refine hg _ ⟨rfl, rfl, i + 1, by push_cast; rfl, by omega, fun l h1 h2 => ?_, rfl⟩ ?_
        · rw [← q5 l h1 h2, hs]
          show _ = fx S.nm (12 * kd) l ((S.c kd - (i + 1)) + 1) i
          conv => rhs; unfold fx
          rw [if_neg (fun z => c2 (by rw [z, h2]))]
        · show (13 - ((i : Int) + 1)).toNat < (13 - (i : Int)).toNat
          omega
      · have c2 := Classical.not_not.mp c2
        rw [c64_eq (by omega) (by omega) (by omega) (by omega)] at c2
        refine wq_some ⟨fun l h1 h2 => ?_, by show -1 ≤ (i : Int) ∧ (i : Int) ≤ 12; omega, rfl⟩
        rw [← q5 l h1 h2, hs]
        have e1 : S.nm (12 * kd + i) = l := pk27_inj (hW.2 kd i hk (by omega)) h1 (by rw [c2, h2])
        unfold fx
        rw [if_pos e1]
  · show (13 - (0 : Int)).toNat < 1000000000
    decide
theorem Dnm.fr {l : List (Nat × Nat)} {M' : Mm} (h : Dnm S M) (hF : Fr l M M') (h1 : l.all (fun p => p.1 != 98) = true) (h2 : l.all (fun p => p.1 != 99) = true) : Dnm S M' := h.eq (hF.row 98 h1) (hF.row 99 h2)
/-- a new name, in the reference -/
theorem m_newName (hB : Bt T e) (h : Sm T e p p M) (hW : Wn S) (hD : Dnm S M) : wq (f_M_newName M) (fun q => Om T e (nwR T e S p) (fun a M' => q.1 = pk27 0 a.1 ∧ ltrs a.1 ∧ Sm T e a.2 a.2 M' ∧ p < a.2) q.2 ∧ Fr mnL M q.2) := by
  have hh := hB.1
  have hp0 := h.2.2.2.2.2.1
  have hs1 := sk_rng T hp0.1 hp0.2
  unfold f_M_newName
  refine wq_I (s_mname hB h) (fun r M1 ⟨a1, a2⟩ => ?_)
  have a2 : Fr mnL M M1 := a2
  have D1 : Dnm S M1 := hD.fr a2 rfl rfl
  have hK : ∀ k : Nat, k < 3 → Dkm S k M1 := fun k hk => by
    have : k = 0 ∨ k = 1 ∨ k = 2 := by omega
    rcases this with z | z | z <;> subst z
    · exact D1.1
    · exact D1.2.1
    · exact D1.2.2
  unfold nwR f_M_newName_L7
  rcases a1 with ⟨l, b1, b2, b3, b4, b5⟩ | ⟨k, pl, b1, b2, b3⟩
  · have b2 : r = pk27 0 l := b2
    have b4 : Sm T e (sk T e p + l.length) (sk T e p + l.length) M1 := b4
    have b5 : M1 78 27 = sk T e p := b5
    have hpk := ltrs_pk27 b3
    have hl1 := b3.1.1
    rw [b1]
    dsimp only [rb]
    have hfx := fun kd (hk : kd < 3) => fx_r hW hk l
    have hkn : knw S l = true ↔ ∃ kd, kd < 3 ∧ fx S.nm (12 * kd) l (S.c kd) 0 ≠ -1 := by
      unfold knw
      rw [decide_eq_true_iff]
      constructor
      · rintro (z | z | z)
        · exact ⟨0, by decide, z⟩
        · exact ⟨1, by decide, z⟩
        · exact ⟨2, by decide, z⟩
      · rintro ⟨kd, hk, z⟩
        have : kd = 0 ∨ kd = 1 ∨ kd = 2 := by omega
        rcases this with y | y | y <;> subst y
        · exact Or.inl z
        · exact Or.inr (Or.inl z)
        · exact Or.inr (Or.inr z)
    refine wq_lp (fun z => z.1 = pk27 0 l ∧ ∃ i : Nat, z.2.1 = (i : Int) ∧ i ≤ 3 ∧ ((z.2.2 = M1 ∧ ∀ kd, kd < i → fx S.nm (12 * kd) l (S.c kd) 0 = -1) ∨ (knw S l = true ∧ Fm T e 3 (sk T e p) z.2.2 ∧ Fr mnL M z.2.2))) (fun z => (4 - z.2.1).toNat) ?_ FU _ ⟨b2, 0, rfl, by decide, Or.inl ⟨rfl, fun kd hk => absurd hk (Nat.not_lt_zero _)⟩⟩ ?_
    · rintro kH ⟨v1, v3, N⟩ ⟨q1, i, q2, q3, q4⟩ hg
      have q1 : v1 = pk27 0 l := q1
      have q2 : v3 = (i : Int) := q2
      subst q1 q2
      show wq (f_M_newName_B7 (fun v1 v3 M => kH (v1, v3, M)) (pk27 0 l) (i : Int) N) _
      unfold f_M_newName_B7
      rw [i32_id (x := 3) (by decide) (by decide), i32_id (x := (i : Int)) (by omega) (by omega)]
      rcases q4 with ⟨q5, q6⟩ | ⟨q5, q6, q7⟩
      · have q5 : N = M1 := q5
        rw [q5, b4.2.2.2.2.1]
        refine wq_if (fun c => wq_some ⟨?_, a2⟩) (fun c => wq_e (fun z => z rfl) (wq_I (m_nameOf (by omega) hW (hK i (by omega)) ⟨hpk.1, hpk.2⟩) (fun x M2 ⟨c1, c2, c3⟩ => ?_)))
        · have hkf : knw S l ≠ true := fun z => by
            obtain ⟨kd, k1, k2⟩ := hkn.mp z
            exact k2 (q6 kd (by omega))
          rw [if_neg hkf]
          exact ⟨rfl, b3, b4, by show p < sk T e p + l.length; omega⟩
        · have c1 : x = fx S.nm (12 * i) l (S.c i) 0 := c1 l b3 rfl
          have c2 : -1 ≤ x ∧ x ≤ 12 := c2
          have c3 : M2 = M1 := c3
          rw [c3, i32_id (x := x) (by omega) (by omega), i32_id (x := (-1)) (by decide) (by decide)]
          refine wq_if (fun d => hg _ ⟨rfl, i + 1, by push_cast; rfl, by omega, Or.inl ⟨rfl, fun kd hk => ?_⟩⟩ ?_) (fun d => wq_V (s_mfail b4 (by decide) (by omega)) (fun M3 ⟨d1, d2⟩ => hg _ ⟨rfl, i + 1, by push_cast; rfl, by omega, Or.inr ⟨hkn.mpr ⟨i, by omega, by rw [← c1]; exact d⟩, by rw [b5] at d1; exact d1, a2.tr (Fr.mono d2 (by simp [mnL, smL]))⟩⟩ ?_))
          · by_cases y : kd = i
            · rw [y, ← c1, d]
            · exact q6 kd (by omega)
          · show (4 - ((i : Int) + 1)).toNat < (4 - (i : Int)).toNat
            omega
          · show (4 - ((i : Int) + 1)).toNat < (4 - (i : Int)).toNat
            omega
      · have q6 : Fm T e 3 (sk T e p) N := q6
        have q7 : Fr mnL M N := q7
        rw [q6.2.2.1]
        refine wq_if (fun c => wq_some ⟨?_, q7⟩) (fun c => wq_t (by decide) (hg _ ⟨rfl, i + 1, by push_cast; rfl, by omega, Or.inr ⟨q5, q6, q7⟩⟩ ?_))
        · rw [if_pos q5]
          exact q6
        · show (4 - ((i : Int) + 1)).toNat < (4 - (i : Int)).toNat
          omega
    · show (4 - (0 : Int)).toNat < 1000000000
      decide
  · have b3 : Fm T e k pl M1 := b3
    have hkk := b3.2.2.2.2.1
    rw [b1]
    dsimp only [rb]
    refine wq_lp (fun z => ∃ i : Nat, z.2.1 = (i : Int) ∧ i ≤ 3 ∧ z.2.2 = M1) (fun z => (4 - z.2.1).toNat) ?_ FU _ ⟨0, rfl, by decide, rfl⟩ ?_
    · rintro kH ⟨v1, v3, N⟩ ⟨i, q2, q3, q4⟩ hg
      have q2 : v3 = (i : Int) := q2
      subst q2
      show wq (f_M_newName_B7 (fun v1 v3 M => kH (v1, v3, M)) v1 (i : Int) N) _
      unfold f_M_newName_B7
      have q4 : N = M1 := q4
      rw [i32_id (x := 3) (by decide) (by decide), i32_id (x := (i : Int)) (by omega) (by omega), q4, b3.2.2.1, i32_id (x := k) (by omega) (by omega)]
      refine wq_if (fun c => wq_some ⟨b3, a2⟩) (fun c => wq_t (by omega) (hg _ ⟨i + 1, by push_cast; rfl, by omega, rfl⟩ ?_))
      show (4 - ((i : Int) + 1)).toNat < (4 - (i : Int)).toNat
      omega
    · show (4 - (0 : Int)).toNat < 1000000000
      decide
theorem e_plc_f {k pl x : Int} (hW : Wn S) (hD : Dkm S 0 M) (h : Fm T e k pl M) : f_M_placeTold x M = some (0, M) := by
  have hk := h.2.2.2.2.1
  unfold f_M_placeTold
  rw [e_mname_f h, bI_s]
  obtain ⟨⟨r, N⟩, h1, -, -, h2⟩ := m_nameOf (kd := 0) (v := 0) (by decide) hW hD ⟨Int.le_refl _, by decide⟩
  have h1 : f_M_nameOf 0 0 M = some (r, N) := h1
  have h2 : N = M := h2
  rw [h1, bI_s, h2, h.2.2.1, i32_id (x := k) (by omega) (by omega), if_pos (by omega)]
  unfold f_M_placeTold_J41
  rw [h.2.2.1, i32_id (x := k) (by omega) (by omega), if_pos (by omega)]
theorem m_place {x : Int} (hB : Bt T e) (h : Sm T e p p M) (hW : Wn S) (hD : Dkm S 0 M) (hx : -1 ≤ x ∧ x ≤ 100) : wq (f_M_placeTold x M) (fun q => Om T e (plR T e S x p) (fun a M' => q.1 = a.1 ∧ (0 ≤ a.1 ∧ a.1 < (S.c 0 : Int) ∧ a.1 ≠ x) ∧ Sm T e a.2 a.2 M' ∧ p < a.2) q.2 ∧ (-1 ≤ q.1 ∧ q.1 ≤ 100) ∧ Fr mnL M q.2) := by
  have hh := hB.1
  have hp0 := h.2.2.2.2.2.1
  have hs1 := sk_rng T hp0.1 hp0.2
  have hc9 := hW.1.1
  unfold f_M_placeTold plR
  refine wq_I (s_mname hB h) (fun r M1 ⟨a1, a2⟩ => ?_)
  have a2 : Fr mnL M M1 := a2
  have D1 : Dkm S 0 M1 := ⟨by rw [a2.row 98 rfl]; exact hD.1, fun w hw => by rw [a2.row 99 rfl]; exact hD.2 w hw⟩
  rcases a1 with ⟨l, b1, b2, b3, b4, b5⟩ | ⟨k, pl, b1, b2, b3⟩
  · have b2 : r = pk27 0 l := b2
    have b4 : Sm T e (sk T e p + l.length) (sk T e p + l.length) M1 := b4
    have b5 : M1 78 27 = sk T e p := b5
    have hpk := ltrs_pk27 b3
    have hl1 := b3.1.1
    rw [b1, b2]
    dsimp only [rb]
    refine wq_I (m_nameOf (kd := 0) (by decide) hW D1 ⟨hpk.1, hpk.2⟩) (fun y M2 ⟨c1, c2, c3⟩ => ?_)
    have c1 : y = fx S.nm 0 l (S.c 0) 0 := c1 l b3 rfl
    have c2 : -1 ≤ y ∧ y ≤ 12 := c2
    have c3 : M2 = M1 := c3
    have hfx : y = -1 ∨ (0 ≤ y ∧ y < (S.c 0 : Int)) := by rw [c1]; exact fx_r hW (kd := 0) (by decide) l
    rw [c3, b4.2.2.2.2.1, ← c1, i32_id (x := y) (by omega) (by omega), i32_id (x := x) (by omega) (by omega), i32_id (x := (-1)) (by decide) (by decide)]
    have hf : ∀ Q : Int × Mm → Prop, (∀ N, Fm T e 3 (sk T e p) N → Fr mnL M N → Q (0, N)) → wq (bV (f_M_fail 3 (M1 78 27) M1) (fun M5 => f_M_placeTold_J41 y M5)) Q := by
      intro Q hQ
      rw [b5]
      refine wq_V (s_mfail b4 (by decide) (by omega)) (fun M3 ⟨d1, d2⟩ => ?_)
      unfold f_M_placeTold_J41
      rw [d1.2.2.1]
      exact wq_t (by decide) (wq_some (hQ _ d1 (a2.tr (Fr.mono d2 (by simp [mnL, smL])))))
    refine wq_e (fun z => z rfl) (wq_if (fun z => ?_) (fun z => wq_if (fun z2 => ?_) (fun z2 => ?_)))
    · rw [if_pos (Or.inl z)]
      exact hf _ (fun N n1 n2 => ⟨n1, by show -1 ≤ (0 : Int) ∧ (0 : Int) ≤ 100; decide, n2⟩)
    · rw [if_neg (fun o => o.elim z z2)]
      unfold f_M_placeTold_J41
      rw [b4.2.2.2.2.1]
      exact wq_e (fun w => w rfl) (wq_some ⟨⟨rfl, ⟨by omega, by omega, z2⟩, b4, by show p < sk T e p + l.length; omega⟩, by show -1 ≤ y ∧ y ≤ 100; omega, a2⟩)
    · rw [if_pos (Or.inr (Classical.not_not.mp z2))]
      exact hf _ (fun N n1 n2 => ⟨n1, by show -1 ≤ (0 : Int) ∧ (0 : Int) ≤ 100; decide, n2⟩)
  · have b2 : r = 0 := b2
    have b3 : Fm T e k pl M1 := b3
    have hk := b3.2.2.2.2.1
    rw [b1, b2]
    dsimp only [rb]
    refine wq_I (m_nameOf (kd := 0) (by decide) hW D1 (by decide)) (fun y M2 ⟨_, c2, c3⟩ => ?_)
    have c3 : M2 = M1 := c3
    rw [c3, b3.2.2.1, i32_id (x := k) (by omega) (by omega)]
    unfold f_M_placeTold_J41
    rw [b3.2.2.1, i32_id (x := k) (by omega) (by omega)]
    exact wq_t (by omega) (wq_t (by omega) (wq_some ⟨b3, by show -1 ≤ (0 : Int) ∧ (0 : Int) ≤ 100; decide, a2⟩))
end Mn
