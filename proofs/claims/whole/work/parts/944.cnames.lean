theorem ptr_20_0 : ptr 20 0 = 21 := by decide +kernel
theorem ptr_20_1 : ptr 20 1 = 22 := by decide +kernel
theorem ptr_20_12 : ptr 20 12 = 33 := by decide +kernel
theorem slen_21 : slen 21 = 3 := by decide +kernel
theorem slen_22 : slen 22 = 36 := by decide +kernel
/-- the names of one kind, in the class's draft -/
def Dk (S : Tn) (kd : Nat) (M : Mm) : Prop := M 21 kd = (S.c kd : Int) ∧ ∀ w : Nat, w < S.c kd → M 22 (12 * kd + w) = pk5 (S.nm (12 * kd + w))
/-- what is sound in names -/
def Wn (S : Tn) : Prop := (S.c 0 ≤ 9 ∧ S.c 1 ≤ 12 ∧ S.c 2 ≤ 6) ∧ ∀ k w : Nat, k < 3 → w < S.c k → ltrs (S.nm (12 * k + w))
theorem Wn.le {S : Tn} (h : Wn S) {k : Nat} (hk : k < 3) : S.c k ≤ 12 := by
  obtain ⟨⟨h1, h2, h3⟩, -⟩ := h
  have : k = 0 ∨ k = 1 ∨ k = 2 := by omega
  rcases this with z | z | z <;> subst z <;> omega
theorem s_named {S : Tn} {kd : Nat} {l : List Int} {M : Mm} (hk : kd < 3) (hW : Wn S) (hD : Dk S kd M) (hl : ltrs l) : wq (f_Told_named 20 (kd : Int) (pk5 l) M) (fun q => q.1 = fx S.nm (12 * kd) l (S.c kd) 0 ∧ q.2 = M) := by
  have hc := hW.le hk
  have hpl := ltrs_pk hl
  unfold f_Told_named f_Told_named_L2
  refine wq_lp (fun z => z.1 = (kd : Int) ∧ z.2.1 = pk5 l ∧ ∃ i : Nat, z.2.2.1 = (i : Int) ∧ i ≤ S.c kd ∧ fx S.nm (12 * kd) l (S.c kd - i) i = fx S.nm (12 * kd) l (S.c kd) 0 ∧ z.2.2.2 = M) (fun z => (13 - z.2.2.1).toNat) ?_ FU _ ⟨rfl, rfl, 0, rfl, Nat.zero_le _, rfl, rfl⟩ ?_
  · rintro kH ⟨v1, v2, v3, N⟩ ⟨q1, q2, i, q3, q4, q5, q6⟩ hg
    have q1 : v1 = (kd : Int) := q1
    have q2 : v2 = pk5 l := q2
    have q3 : v3 = (i : Int) := q3
    have q6 : N = M := q6
    subst q1 q2 q3
    show wq (f_Told_named_B2 20 (fun v1 v2 v3 M => kH (v1, v2, v3, M)) (kd : Int) (pk5 l) (i : Int) N) _
    have q6 : N = M := q6
    rw [q6]
    unfold f_Told_named_B2
    rw [ptr_20_0, ptr_20_1, e_cell_in (n := 3) M slen_21 (by decide) (by omega) (by omega), bI_s, Int.toNat_natCast, hD.1, i32_id (x := (S.c kd : Int)) (by omega) (by omega), i32_id (x := (i : Int)) (by omega) (by omega)]
    refine wq_if (fun c => wq_some ⟨?_, rfl⟩) (fun c => ?_)
    · rw [← q5, show S.c kd - i = 0 by omega]
      rfl
    · rw [e_cell_in (n := 36) M slen_22 (by decide) (by omega) (by omega), bI_s, show ((kd : Int) * 12 + (i : Int)).toNat = 12 * kd + i by omega, hD.2 i (by omega)]
      have hp2 := ltrs_pk (hW.2 kd i hk (by omega))
      have hs : S.c kd - i = (S.c kd - (i + 1)) + 1 := by omega
      rw [i32_id (x := pk5 (S.nm (12 * kd + i))) (by omega) (by omega), i32_id (x := pk5 l) (by omega) (by omega)]
      by_cases g : S.nm (12 * kd + i) = l
      · refine wq_e (fun z => z (by rw [g])) (wq_some ⟨?_, rfl⟩)
        rw [← q5, hs]
        unfold fx
        rw [if_pos g]
      · refine wq_t (fun z => g (pk5_inj _ _ (hW.2 kd i hk (by omega)).2 hl.2 z)) (hg _ ⟨rfl, rfl, i + 1, by push_cast; rfl, by omega, ?_, rfl⟩ ?_)
        · rw [← q5, hs]
          show _ = fx S.nm (12 * kd) l ((S.c kd - (i + 1)) + 1) i
          conv => rhs; unfold fx
          rw [if_neg g]
        · show (13 - ((i : Int) + 1)).toNat < (13 - (i : Int)).toNat
          omega
  · show (13 - (0 : Int)).toNat < 1000000000
    decide
theorem fx_r {S : Tn} (hW : Wn S) {kd : Nat} (hk : kd < 3) (l : List Int) : fx S.nm (12 * kd) l (S.c kd) 0 = -1 ∨ (0 ≤ fx S.nm (12 * kd) l (S.c kd) 0 ∧ fx S.nm (12 * kd) l (S.c kd) 0 < (S.c kd : Int)) := by
  rcases fx_rng S.nm (12 * kd) l (S.c kd) 0 with h | h
  · exact Or.inl h
  · exact Or.inr ⟨by omega, by omega⟩
/-- the class's draft, names -/
def Dn (S : Tn) (M : Mm) : Prop := Dk S 0 M ∧ Dk S 1 M ∧ Dk S 2 M
theorem Dk.eq {S : Tn} {kd : Nat} {M M' : Mm} (h : Dk S kd M) (e1 : M' 21 = M 21) (e2 : M' 22 = M 22) : Dk S kd M' := by
  unfold Dk
  rw [e1, e2]
  exact h
theorem Dn.eq {S : Tn} {M M' : Mm} (h : Dn S M) (e1 : M' 21 = M 21) (e2 : M' 22 = M 22) : Dn S M' := ⟨h.1.eq e1 e2, h.2.1.eq e1 e2, h.2.2.eq e1 e2⟩
theorem Dn.sc {S : Tn} {M M' : Mm} (h : Dn S M) (hF : Fr scL M M') : Dn S M' := h.eq (hF.row 21 rfl) (hF.row 22 rfl)
theorem s_knows {S : Tn} {l : List Int} {M : Mm} (hW : Wn S) (hD : Dn S M) (hl : ltrs l) : wq (f_Told_knows 20 (pk5 l) M) (fun q => tf q.1 (knw S l = true) ∧ q.2 = M) := by
  have r0 := fx_r hW (kd := 0) (by decide) l
  have r1 := fx_r hW (kd := 1) (by decide) l
  have r2 := fx_r hW (kd := 2) (by decide) l
  have h9 := hW.1
  unfold f_Told_knows
  have hi : ∀ x : Int, x = -1 ∨ (0 ≤ x ∧ x < 13) → (i32 x = i32 (-1) ↔ x = -1) := fun x hx => by rw [i32_id (x := x) (by omega) (by omega), i32_id (x := (-1)) (by decide) (by decide)]
  have hk : knw S l = true ↔ (fx S.nm 0 l (S.c 0) 0 ≠ -1 ∨ fx S.nm 12 l (S.c 1) 0 ≠ -1 ∨ fx S.nm 24 l (S.c 2) 0 ≠ -1) := by unfold knw; exact decide_eq_true_iff
  refine wq_I (s_named (kd := 0) (by decide) hW hD.1 hl) (fun x M1 ⟨a1, a2⟩ => ?_)
  have a1 : x = fx S.nm 0 l (S.c 0) 0 := a1
  have a2 : M1 = M := a2
  subst a2
  have r0 : fx S.nm 0 l (S.c 0) 0 = -1 ∨ (0 ≤ fx S.nm 0 l (S.c 0) 0 ∧ fx S.nm 0 l (S.c 0) 0 < (S.c 0 : Int)) := r0
  have r1 : fx S.nm 12 l (S.c 1) 0 = -1 ∨ (0 ≤ fx S.nm 12 l (S.c 1) 0 ∧ fx S.nm 12 l (S.c 1) 0 < (S.c 1 : Int)) := r1
  have r2 : fx S.nm 24 l (S.c 2) 0 = -1 ∨ (0 ≤ fx S.nm 24 l (S.c 2) 0 ∧ fx S.nm 24 l (S.c 2) 0 < (S.c 2 : Int)) := r2
  refine wq_if (fun c => wq_some ⟨Or.inl ⟨rfl, hk.mpr (Or.inl (fun z => c ((hi x (by omega)).mpr (by omega))))⟩, rfl⟩) (fun c => ?_)
  have c0 : x = -1 := (hi x (by omega)).mp (Classical.not_not.mp c)
  refine wq_I (s_named (kd := 1) (by decide) hW hD.2.1 hl) (fun y M2 ⟨b1, b2⟩ => ?_)
  have b1 : y = fx S.nm 12 l (S.c 1) 0 := b1
  have b2 : M2 = M1 := b2
  subst b2
  refine wq_if (fun d => wq_some ⟨Or.inl ⟨rfl, hk.mpr (Or.inr (Or.inl (fun z => d ((hi y (by omega)).mpr (by omega)))))⟩, rfl⟩) (fun d => ?_)
  have c1 : y = -1 := (hi y (by omega)).mp (Classical.not_not.mp d)
  refine wq_I (s_named (kd := 2) (by decide) hW hD.2.2 hl) (fun z M3 ⟨d1, d2⟩ => ?_)
  have d1 : z = fx S.nm 24 l (S.c 2) 0 := d1
  have d2 : M3 = M2 := d2
  subst d2
  refine wq_if (fun g => wq_some ⟨Or.inr ⟨rfl, fun hh => ?_⟩, rfl⟩) (fun g => wq_some ⟨Or.inl ⟨rfl, hk.mpr (Or.inr (Or.inr (fun w => g ((hi z (by omega)).mpr (by omega)))))⟩, rfl⟩)
  have c2 : z = -1 := (hi z (by omega)).mp g
  rcases hk.mp hh with w | w | w <;> omega
