theorem opd_rng {a : Bool} {T : Nat → Int} {e p g p1 g1 v : Int} (hB : Bt T e) (h0 : 0 ≤ p) (h1 : p ≤ e) (h : opd a T e p g = .inr (p1, g1, v)) : (sk T e p < p1 ∧ p1 ≤ e) ∧ g1 = p1 := by
  obtain ⟨m1, m2, -⟩ := (opd_ok (a := a) (g := g) hB h0 h1).2 _ _ _ h
  exact ⟨m1, m2⟩
/-- a reading moves on, and its codes fit -/
theorem dD_iv {a : Bool} {T : Nat → Int} {e : Int} (hB : Bt T e) {o0 : Int} {b : Nat} : ∀ (n : Nat) (m : Bool) (p g o : Int) (W C : List Int) (p' g' : Int) (C' : List Int), dD a T e n m p g o W C = some (.inr (p', g', C')) → 0 ≤ p → p ≤ e → (-1 ≤ g ∧ g ≤ 1600) → Iv a o0 b m p o W C → C'.length + b ≤ p'.toNat ∧ (m = true → p < p') ∧ (p ≤ p' ∧ p' ≤ e) ∧ (-1 ≤ g' ∧ g' ≤ 1600) ∧ sk T e p' = p'
  | 0, _, _, _, _, _, _, _, _, _, h, _, _, _, _ => by cases h
  | n + 1, m, p, g, o, W, C, p', g', C', hd, h0, h1, hg, hI => by
    have hh := hB.1
    have hs := sk_rng T h0 h1
    have hss := sk_sk T (e := e) h0
    have hI1 := hI.mono hs.1
    have hgo : ∀ (m1 : Bool) (p1 g1 o1 : Int) (W1 C1 : List Int), p < p1 → p1 ≤ e → (-1 ≤ g1 ∧ g1 ≤ 1600) → Iv a o0 b m1 p1 o1 W1 C1 → dD a T e n m1 p1 g1 o1 W1 C1 = some (.inr (p', g', C')) → C'.length + b ≤ p'.toNat ∧ (m = true → p < p') ∧ (p ≤ p' ∧ p' ≤ e) ∧ (-1 ≤ g' ∧ g' ≤ 1600) ∧ sk T e p' = p' := by
      intro m1 p1 g1 o1 W1 C1 z1 z2 z3 z4 z5
      obtain ⟨w1, w2, w3, w4, w5⟩ := dD_iv hB n m1 p1 g1 o1 W1 C1 p' g' C' z5 (by omega) z2 z3 z4
      exact ⟨w1, fun _ => by omega, ⟨by omega, w3.2⟩, w4, w5⟩
    cases m with
    | true =>
      unfold dD at hd
      by_cases c1 : bte T e (sk T e p) = 40
      · rw [if_pos c1] at hd
        have hl := bte_lt (T := T) (e := e) (k := sk T e p) (by omega) (by omega)
        by_cases d : o = 6
        · rw [if_pos d] at hd; cases hd
        · rw [if_neg d] at hd
          exact hgo _ _ _ _ _ _ (by omega) (by omega) hg (hI1.push (Or.inl (by decide)) d (by omega) (by omega)) hd
      rw [if_neg c1] at hd
      have hle : ∀ L : List Int, lwd L → 1 ≤ L.length → hwq T e L p g = true → sk T e p + L.length ≤ e := fun L h2 h3 h4 => hw_le h0 h1 h3 h2 h4
      have hpair : ∀ (k : Int), (20 ≤ k ∧ k ≤ 22) → sk T e p + 3 ≤ e → (if bte T e (sk T e (sk T e p + 3)) ≠ 40 then (some (.inl (1, sk T e (sk T e p + 3))) : Option Out) else if o = 6 then some (.inl (4, sk T e (sk T e p + 3))) else dD a T e n true (sk T e (sk T e p + 3) + 1) (sk T e p + 3) (o + 1) (k :: W) C) = some (.inr (p', g', C')) → C'.length + b ≤ p'.toNat ∧ (true = true → p < p') ∧ (p ≤ p' ∧ p' ≤ e) ∧ (-1 ≤ g' ∧ g' ≤ 1600) ∧ sk T e p' = p' := by
        intro k hk h3 hd
        have hs3 := sk_rng T (e := e) (p := sk T e p + 3) (by omega) h3
        by_cases d : bte T e (sk T e (sk T e p + 3)) = 40
        · rw [if_neg (fun z => z d)] at hd
          have hl := bte_lt (T := T) (e := e) (k := sk T e (sk T e p + 3)) (by omega) (by omega)
          by_cases f : o = 6
          · rw [if_pos f] at hd; cases hd
          · rw [if_neg f] at hd
            exact hgo _ _ _ _ _ _ (by omega) (by omega) (by omega) (hI1.push (Or.inl hk) f (by omega) (by omega)) hd
        · rw [if_pos d] at hd; cases hd
      by_cases c2 : hwq T e wMin p g = true
      · rw [if_pos c2] at hd
        exact hpair 21 (by decide) (hle _ lw_Min (by decide) c2) hd
      rw [if_neg c2] at hd
      by_cases c3 : hwq T e wMax p g = true
      · rw [if_pos c3] at hd
        exact hpair 22 (by decide) (hle _ lw_Max (by decide) c3) hd
      rw [if_neg c3] at hd
      by_cases c4 : (a && hwq T e wWidth p g) = true
      · rw [if_pos c4] at hd
        simp only [Bool.and_eq_true] at c4
        have h5 : sk T e p + 5 ≤ e := hle _ lw_Width (by decide) c4.2
        by_cases d : o = 6
        · rw [if_pos d] at hd; cases hd
        · rw [if_neg d] at hd
          exact hgo _ _ _ _ _ _ (by omega) h5 (by omega) (hI1.push (Or.inr ⟨c4.1, by decide⟩) d (by omega) (by omega)) hd
      rw [if_neg c4] at hd
      by_cases c5 : (a && hwq T e wTide p g) = true
      · rw [if_pos c5] at hd
        simp only [Bool.and_eq_true] at c5
        have h5 : sk T e p + 4 ≤ e := hle _ lw_Tide (by decide) c5.2
        by_cases d : o = 6
        · rw [if_pos d] at hd; cases hd
        · rw [if_neg d] at hd
          exact hgo _ _ _ _ _ _ (by omega) h5 (by omega) (hI1.push (Or.inr ⟨c5.1, by decide⟩) d (by omega) (by omega)) hd
      rw [if_neg c5] at hd
      by_cases c6 : (a && hwq T e wPasses p g) = true
      · rw [if_pos c6] at hd
        simp only [Bool.and_eq_true] at c6
        have h5 : sk T e p + 6 ≤ e := hle _ lw_Passes (by decide) c6.2
        by_cases d : o = 6
        · rw [if_pos d] at hd; cases hd
        · rw [if_neg d] at hd
          exact hgo _ _ _ _ _ _ (by omega) h5 (by omega) (hI1.push (Or.inr ⟨c6.1, by decide⟩) d (by omega) (by omega)) hd
      rw [if_neg c6] at hd
      cases hR : opd a T e p g with
      | inl f =>
        rw [hR] at hd; cases hd
      | inr s =>
        obtain ⟨p1, g1, v⟩ := s
        rw [hR] at hd
        obtain ⟨m1, m2⟩ := opd_rng hB h0 h1 hR
        exact hgo _ _ _ _ _ _ (by omega) m1.2 (by omega) (hI1.part (by omega) (by omega)) hd
    | false =>
      unfold dD at hd
      by_cases c1 : bte T e (sk T e p) = 41 ∧ (tpm W = 20 ∨ tpm W = 23 ∨ tpm W = 24)
      · rw [if_pos c1] at hd
        have hl := bte_lt (T := T) (e := e) (k := sk T e p) (by omega) (by omega)
        exact hgo _ _ _ _ _ _ (by omega) (by omega) hg (hI1.close (cl := if tpm W = 20 then [] else if tpm W = 23 then [5] else [6]) (by omega) (by split <;> (try split) <;> decide) (by omega) (by omega)).2 hd
      rw [if_neg c1] at hd
      by_cases c2 : bte T e (sk T e p) = 42
      · rw [if_pos c2] at hd
        have hl := bte_lt (T := T) (e := e) (k := sk T e p) (by omega) (by omega)
        exact hgo _ _ _ _ _ _ (by omega) (by omega) hg (hI1.mul (Or.inl rfl) (by omega) (by omega)) hd
      rw [if_neg c2] at hd
      by_cases c3 : bte T e (sk T e p) = 47
      · rw [if_pos c3] at hd
        have hl := bte_lt (T := T) (e := e) (k := sk T e p) (by omega) (by omega)
        exact hgo _ _ _ _ _ _ (by omega) (by omega) hg (hI1.mul (Or.inr rfl) (by omega) (by omega)) hd
      rw [if_neg c3] at hd
      by_cases c4 : bte T e (sk T e p) = 43
      · rw [if_pos c4] at hd
        have hl := bte_lt (T := T) (e := e) (k := sk T e p) (by omega) (by omega)
        exact hgo _ _ _ _ _ _ (by omega) (by omega) hg (hI1.add (Or.inl rfl) (by omega) (by omega)) hd
      rw [if_neg c4] at hd
      by_cases c5 : bte T e (sk T e p) = 45
      · rw [if_pos c5] at hd
        have hl := bte_lt (T := T) (e := e) (k := sk T e p) (by omega) (by omega)
        exact hgo _ _ _ _ _ _ (by omega) (by omega) hg (hI1.add (Or.inr rfl) (by omega) (by omega)) hd
      rw [if_neg c5] at hd
      by_cases c6 : tpm W = 21 ∨ tpm W = 22
      · rw [if_pos c6] at hd
        by_cases d : bte T e (sk T e p) = 44
        · rw [if_neg (fun z => z d)] at hd
          have hl := bte_lt (T := T) (e := e) (k := sk T e p) (by omega) (by omega)
          exact hgo _ _ _ _ _ _ (by omega) (by omega) hg (hI1.comma c6 (by omega) (by omega)).2 hd
        · rw [if_pos d] at hd; cases hd
      rw [if_neg c6] at hd
      by_cases c7 : tpm W ≠ -1
      · rw [if_pos c7] at hd; cases hd
      rw [if_neg c7] at hd
      cases hd
      have := hI1.2.2.2.2
      exact ⟨by rw [List.length_append]; omega, (fun y => by cases y), hs, hg, hss⟩
/-- behind a sum that nothing goes on -/
theorem dD_end {a : Bool} {T : Nat → Int} {e p g o : Int} {n : Nat} {A C : List Int} {R : Out} (hd : dD a T e n false p g o A C = some R) (hA : ∀ v ∈ A, opQ v = true) (hn : nxA (bte T e (sk T e p))) : R = .inr (sk T e p, g, C ++ A) := by
  cases n with
  | zero => cases hd
  | succ n =>
    have ht : tpm A = -1 := by
      have h := tw_app (q := fun v => !mrkQ v) (A := A) (W := []) (fun v hv => by simp [op_mrk (hA v hv)]) rfl
      rw [List.append_nil] at h
      unfold tpm rmk
      rw [h.2]
      rfl
    obtain ⟨⟨n1, n2⟩, n3, n4⟩ := hn
    unfold dD at hd
    rw [ht, if_neg (by omega), if_neg n1, if_neg n2, if_neg n3, if_neg n4, if_neg (by omega), if_neg (by omega)] at hd
    exact (Option.some.inj hd).symm
/-- the class's whole sum -/
theorem yt_top {T : Nat → Int} {e p g o : Int} {C : List Int} {R : Out} {k n : Nat} {M : Mm} (hB : Bt T e) (ho : 0 ≤ o ∧ o ≤ 6) (hn : 4 * (6 - o).toNat + 4 ≤ n) (hY : Yt T e p g C M) (hd : dD false T e k true p g o [] C = some R) (hlen : C.length + 1 ≤ p.toNat) : wq (f_R n 0 38 o M) (fun q => ((q.1 = 0 ∧ Zb T e R q.2) ∨ (q.1 = 1 ∧ ∃ p' g' C', R = .inr (sk T e p', g', C') ∧ Yt T e p' g' C' q.2 ∧ nxA (bte T e (sk T e p')))) ∧ Fr ytA M q.2) := by
  have hS := (yt_all hB n o ho.1 ho.2).2.2.2
  refine wq_m (hS hn p g [] C R k M hY hd (by simpa using hlen) rfl rfl) (fun q ⟨z, f⟩ => ⟨?_, f⟩)
  rcases z with z | ⟨z1, k1, p1, g1, A1, C1, d1, y1, l1, hA, l2, n1⟩
  · exact Or.inl z
  · rw [List.append_nil] at d1
    exact Or.inr ⟨z1, p1, g1, C1 ++ A1, dD_end d1 hA n1, y1, n1⟩
/-- the class's whole sum -/
theorem yq_top {T : Nat → Int} {e p g o : Int} {C : List Int} {R : Out} {k n : Nat} {M : Mm} (hB : Bt T e) (ho : 0 ≤ o ∧ o ≤ 6) (hn : 4 * (6 - o).toNat + 4 ≤ n) (hY : Yq T e p g C M) (hd : dD true T e k true p g o [] C = some R) (hlen : C.length + 1 ≤ p.toNat) : wq (f_R n 0 76 o M) (fun q => ((q.1 = 0 ∧ Zb T e R q.2) ∨ (q.1 = 1 ∧ ∃ p' g' C', R = .inr (sk T e p', g', C') ∧ Yq T e p' g' C' q.2 ∧ nxA (bte T e (sk T e p')))) ∧ Fr yqA M q.2) := by
  have hS := (yq_all hB n o ho.1 ho.2).2.2.2
    |>.1
  refine wq_m (hS hn p g [] C R k M hY hd (by simpa using hlen) rfl rfl) (fun q ⟨z, f⟩ => ⟨?_, f⟩)
  rcases z with z | ⟨z1, k1, p1, g1, A1, C1, d1, y1, l1, hA, l2, n1⟩
  · exact Or.inl z
  · rw [List.append_nil] at d1
    exact Or.inr ⟨z1, p1, g1, C1 ++ A1, dD_end d1 hA n1, y1, n1⟩
