/-- a code of a sum -/
def scC (v : Int) : Prop := (1 ≤ v ∧ v ≤ 6) ∨ 1000 ≤ v ∨ (40 ≤ v ∧ v ≤ 42) ∨ (60 ≤ v ∧ v ≤ 62)
/-- codes by types: true is a test's value -/
def wft : List Int → List Bool → List Bool → Prop
  | [], ts, ts' => ts = ts'
  | v :: D, ts, ts' => ((1000 ≤ v ∨ (40 ≤ v ∧ v ≤ 42)) ∧ wft D (false :: ts) ts') ∨ ((1 ≤ v ∧ v ≤ 6) ∧ ∃ a b r, ts = a :: b :: r ∧ wft D (false :: r) ts') ∨ ((60 ≤ v ∧ v ≤ 62) ∧ ∃ a r, ts = a :: r ∧ wft D (false :: r) ts') ∨ (v = 13 ∧ wft D (true :: ts) ts') ∨ ((7 ≤ v ∧ v ≤ 9) ∧ ∃ a b r, ts = a :: b :: r ∧ wft D (true :: r) ts') ∨ ((v = 10 ∨ v = 11) ∧ ∃ r, ts = true :: true :: r ∧ wft D (true :: r) ts') ∨ (v = 12 ∧ ∃ r, ts = true :: r ∧ wft D (true :: r) ts')
theorem wft_app : ∀ (A B : List Int) (ts tm ts' : List Bool), wft A ts tm → wft B tm ts' → wft (A ++ B) ts ts'
  | [], B, ts, tm, ts', h, g => by
    have h : ts = tm := h
    rw [h]
    exact g
  | v :: A, B, ts, tm, ts', h, g => by
    show wft (v :: (A ++ B)) ts ts'
    rcases h with ⟨h1, h2⟩ | ⟨h1, a, b, r, h2, h3⟩ | ⟨h1, a, r, h2, h3⟩ | ⟨h1, h2⟩ | ⟨h1, a, b, r, h2, h3⟩ | ⟨h1, r, h2, h3⟩ | ⟨h1, r, h2, h3⟩
    · exact Or.inl ⟨h1, wft_app A B _ _ _ h2 g⟩
    · exact Or.inr (Or.inl ⟨h1, a, b, r, h2, wft_app A B _ _ _ h3 g⟩)
    · exact Or.inr (Or.inr (Or.inl ⟨h1, a, r, h2, wft_app A B _ _ _ h3 g⟩))
    · exact Or.inr (Or.inr (Or.inr (Or.inl ⟨h1, wft_app A B _ _ _ h2 g⟩)))
    · exact Or.inr (Or.inr (Or.inr (Or.inr (Or.inl ⟨h1, a, b, r, h2, wft_app A B _ _ _ h3 g⟩))))
    · exact Or.inr (Or.inr (Or.inr (Or.inr (Or.inr (Or.inl ⟨h1, r, h2, wft_app A B _ _ _ h3 g⟩)))))
    · exact Or.inr (Or.inr (Or.inr (Or.inr (Or.inr (Or.inr ⟨h1, r, h2, wft_app A B _ _ _ h3 g⟩)))))
theorem wfl_wft : ∀ (D : List Int) (h h' : Nat) (ts : List Bool), (∀ c ∈ D, scC c) → wfl true D h h' → wft D (List.replicate h false ++ ts) (List.replicate h' false ++ ts)
  | [], h, h', ts, _, w => by
    have w : h = h' := w
    rw [w]
    exact rfl
  | v :: D, h, h', ts, hs, w => by
    obtain ⟨w1, w2, w3, w4⟩ := w
    have hD : ∀ c ∈ D, scC c := fun c hc => hs c (List.mem_cons_of_mem _ hc)
    have ih := fun k => wfl_wft D k h' ts hD
    rcases hs v List.mem_cons_self with z | z | z | z
    · have e : arC true v = 2 := by
        unfold arC
        rw [if_neg (by omega), if_pos rfl, if_neg (by omega), if_neg (by omega)]
      rw [e] at w2 w4
      obtain ⟨k, hk⟩ : ∃ k, h = k + 2 := ⟨h - 2, by omega⟩
      subst hk
      refine Or.inr (Or.inl ⟨z, false, false, List.replicate k false ++ ts, rfl, ?_⟩)
      have := ih _ w4
      rw [show k + 2 + 1 - 2 = k + 1 by omega] at this
      exact this
    · have e : arC true v = 0 := by
        unfold arC
        rw [if_pos z]
      rw [e] at w4
      exact Or.inl ⟨Or.inl z, ih _ w4⟩
    · have e : arC true v = 0 := by
        unfold arC
        rw [if_neg (by omega), if_pos rfl, if_neg (by omega), if_pos (by omega)]
      rw [e] at w4
      exact Or.inl ⟨Or.inr z, ih _ w4⟩
    · have e : arC true v = 1 := by
        unfold arC
        rw [if_neg (by omega), if_pos rfl, if_pos (by omega)]
      rw [e] at w2 w4
      obtain ⟨k, hk⟩ : ∃ k, h = k + 1 := ⟨h - 1, by omega⟩
      subst hk
      refine Or.inr (Or.inr (Or.inl ⟨z, false, List.replicate k false ++ ts, rfl, ?_⟩))
      have := ih _ w4
      rw [show k + 1 + 1 - 1 = k + 1 by omega] at this
      exact this
theorem opd_sc {T : Nat → Int} {e p g p1 g1 v : Int} (hB : Bt T e) (h0 : 0 ≤ p) (h1 : p ≤ e) (h : opd true T e p g = .inr (p1, g1, v)) : scC v := by
  obtain ⟨m1, m2, m3, m4⟩ := (opd_ok (a := true) (g := g) hB h0 h1).2 _ _ _ h
  rcases m3 with z | z | ⟨z, -⟩ | ⟨-, z⟩
  · exact Or.inl z
  · exact Or.inr (Or.inl z.1)
  · cases z
  · unfold arC at m4
    rw [if_neg (by omega), if_pos rfl] at m4
    by_cases c1 : 60 ≤ v ∨ v = 12
    · rw [if_pos c1] at m4; cases m4
    · rw [if_neg c1] at m4
      by_cases c2 : 40 ≤ v ∨ v = 13
      · unfold opd at h
        have hno : v ≠ 13 := by
          intro z13
          subst z13
          simp only [Bool.not_true, Bool.false_and, Bool.true_and] at h
          repeat' split at h
          all_goals (first | cases h | skip)
          all_goals (try (injection h with h; injection h with _ h; injection h with _ h))
          all_goals (first | omega | skip)
          all_goals (have := (numR_ok (least := 0) (most := 9999) (g := g) hB h0 h1).2 _ _ (by assumption); omega)
        exact Or.inr (Or.inr (Or.inl (by omega)))
      · rw [if_neg c2] at m4; cases m4
/-- the codes of a sum -/
theorem dD_sc {T : Nat → Int} {e : Int} (hB : Bt T e) {o0 : Int} {b : Nat} : ∀ (n : Nat) (m : Bool) (p g o : Int) (W C : List Int) (p' g' : Int) (C' : List Int), dD true T e n m p g o W C = some (.inr (p', g', C')) → 0 ≤ p → p ≤ e → (-1 ≤ g ∧ g ≤ 1600) → Iv true o0 b m p o W C → ∃ D, C' = C ++ D ∧ ∀ c ∈ D, scC c
  | 0, _, _, _, _, _, _, _, _, _, h, _, _, _, _ => by cases h
  | n + 1, m, p, g, o, W, C, p', g', C', hd, h0, h1, hg, hI => by
    have hh := hB.1
    have hs := sk_rng T h0 h1
    have hI1 := hI.mono hs.1
    have hgo : ∀ (m1 : Bool) (p1 g1 o1 : Int) (W1 D1 : List Int), p < p1 → p1 ≤ e → (-1 ≤ g1 ∧ g1 ≤ 1600) → Iv true o0 b m1 p1 o1 W1 (C ++ D1) → (∀ c ∈ D1, scC c) → dD true T e n m1 p1 g1 o1 W1 (C ++ D1) = some (.inr (p', g', C')) → ∃ D, C' = C ++ D ∧ ∀ c ∈ D, scC c := by
      intro m1 p1 g1 o1 W1 D1 z1 z2 z3 z4 z6 z5
      obtain ⟨D, w1, w2⟩ := dD_sc hB n m1 p1 g1 o1 W1 (C ++ D1) p' g' C' z5 (by omega) z2 z3 z4
      refine ⟨D1 ++ D, by rw [w1, List.append_assoc], fun c hc => ?_⟩
      rcases List.mem_append.mp hc with z | z
      · exact z6 c z
      · exact w2 c z
    have hgo0 : ∀ (m1 : Bool) (p1 g1 o1 : Int) (W1 : List Int), p < p1 → p1 ≤ e → (-1 ≤ g1 ∧ g1 ≤ 1600) → Iv true o0 b m1 p1 o1 W1 C → dD true T e n m1 p1 g1 o1 W1 C = some (.inr (p', g', C')) → ∃ D, C' = C ++ D ∧ ∀ c ∈ D, scC c := fun m1 p1 g1 o1 W1 z1 z2 z3 z4 z5 => hgo m1 p1 g1 o1 W1 [] z1 z2 z3 (by rw [List.append_nil]; exact z4) (fun c hc => by cases hc) (by rw [List.append_nil]; exact z5)
    have hops : ∀ (A : List Int), (∀ v ∈ A, 1 ≤ v ∧ v ≤ 4) → ∀ c ∈ A, scC c := fun A hA c hc => Or.inl (by have := hA c hc; omega)
    have hofs : ∀ (W1 : List Int) (o1 : Int), wsA o0 0 W1 o1 → ∀ c ∈ W1.takeWhile ofQ, scC c := fun W1 o1 hw c hc => Or.inr (Or.inr (Or.inr ((ws_of W1 o1 hw).1 c hc)))
    cases m with
    | true =>
      unfold dD at hd
      by_cases c1 : bte T e (sk T e p) = 40
      · rw [if_pos c1] at hd
        have hl := bte_lt (T := T) (e := e) (k := sk T e p) (by omega) (by omega)
        by_cases d : o = 6
        · rw [if_pos d] at hd; cases hd
        · rw [if_neg d] at hd
          exact hgo0 _ _ _ _ _ (by omega) (by omega) hg (hI1.push (Or.inl (by decide)) d (by omega) (by omega)) hd
      rw [if_neg c1] at hd
      have hle : ∀ L : List Int, lwd L → 1 ≤ L.length → hwq T e L p g = true → sk T e p + L.length ≤ e := fun L h2 h3 h4 => hw_le h0 h1 h3 h2 h4
      have hpair : ∀ (k : Int), (20 ≤ k ∧ k ≤ 22) → sk T e p + 3 ≤ e → (if bte T e (sk T e (sk T e p + 3)) ≠ 40 then (some (.inl (1, sk T e (sk T e p + 3))) : Option Out) else if o = 6 then some (.inl (4, sk T e (sk T e p + 3))) else dD true T e n true (sk T e (sk T e p + 3) + 1) (sk T e p + 3) (o + 1) (k :: W) C) = some (.inr (p', g', C')) → ∃ D, C' = C ++ D ∧ ∀ c ∈ D, scC c := by
        intro k hk h3 hd
        have hs3 := sk_rng T (e := e) (p := sk T e p + 3) (by omega) h3
        by_cases d : bte T e (sk T e (sk T e p + 3)) = 40
        · rw [if_neg (fun z => z d)] at hd
          have hl := bte_lt (T := T) (e := e) (k := sk T e (sk T e p + 3)) (by omega) (by omega)
          by_cases f : o = 6
          · rw [if_pos f] at hd; cases hd
          · rw [if_neg f] at hd
            exact hgo0 _ _ _ _ _ (by omega) (by omega) (by omega) (hI1.push (Or.inl hk) f (by omega) (by omega)) hd
        · rw [if_pos d] at hd; cases hd
      by_cases c2 : hwq T e wMin p g = true
      · rw [if_pos c2] at hd
        exact hpair 21 (by decide) (hle _ lw_Min (by decide) c2) hd
      rw [if_neg c2] at hd
      by_cases c3 : hwq T e wMax p g = true
      · rw [if_pos c3] at hd
        exact hpair 22 (by decide) (hle _ lw_Max (by decide) c3) hd
      rw [if_neg c3] at hd
      by_cases c4 : (true && hwq T e wWidth p g) = true
      · rw [if_pos c4] at hd
        simp only [Bool.and_eq_true] at c4
        have h5 : sk T e p + 5 ≤ e := hle _ lw_Width (by decide) c4.2
        by_cases d : o = 6
        · rw [if_pos d] at hd; cases hd
        · rw [if_neg d] at hd
          exact hgo0 _ _ _ _ _ (by omega) h5 (by omega) (hI1.push (Or.inr ⟨rfl, by decide⟩) d (by omega) (by omega)) hd
      rw [if_neg c4] at hd
      by_cases c5 : (true && hwq T e wTide p g) = true
      · rw [if_pos c5] at hd
        simp only [Bool.and_eq_true] at c5
        have h5 : sk T e p + 4 ≤ e := hle _ lw_Tide (by decide) c5.2
        by_cases d : o = 6
        · rw [if_pos d] at hd; cases hd
        · rw [if_neg d] at hd
          exact hgo0 _ _ _ _ _ (by omega) h5 (by omega) (hI1.push (Or.inr ⟨rfl, by decide⟩) d (by omega) (by omega)) hd
      rw [if_neg c5] at hd
      by_cases c6 : (true && hwq T e wPasses p g) = true
      · rw [if_pos c6] at hd
        simp only [Bool.and_eq_true] at c6
        have h5 : sk T e p + 6 ≤ e := hle _ lw_Passes (by decide) c6.2
        by_cases d : o = 6
        · rw [if_pos d] at hd; cases hd
        · rw [if_neg d] at hd
          exact hgo0 _ _ _ _ _ (by omega) h5 (by omega) (hI1.push (Or.inr ⟨rfl, by decide⟩) d (by omega) (by omega)) hd
      rw [if_neg c6] at hd
      cases hR : opd true T e p g with
      | inl f =>
        rw [hR] at hd; cases hd
      | inr s =>
        obtain ⟨p1, g1, v⟩ := s
        rw [hR] at hd
        obtain ⟨m1, m2⟩ := opd_rng hB h0 h1 hR
        have hv := opd_sc hB h0 h1 hR
        exact hgo _ _ _ _ _ (v :: W.takeWhile ofQ) (by omega) m1.2 (by omega) (hI1.part (by omega) (by omega)) (fun c hc => (List.mem_cons.mp hc).elim (fun z => z ▸ hv) (fun z => hofs W o hI.2.1 c z)) hd
    | false =>
      have hno := hI.2.2.1 rfl
      unfold dD at hd
      by_cases c1 : bte T e (sk T e p) = 41 ∧ (tpm W = 20 ∨ tpm W = 23 ∨ tpm W = 24)
      · rw [if_pos c1] at hd
        have hl := bte_lt (T := T) (e := e) (k := sk T e p) (by omega) (by omega)
        obtain ⟨k1, k2⟩ := ws_mrk W 0 o hI.2.1 hno
        rcases k2 with ⟨j1, j2, -⟩ | ⟨k, W', j1, j2, j3, j4, j5, j6⟩
        · omega
        have hcl := (hI1.close (cl := if tpm W = 20 then [] else if tpm W = 23 then [5] else [6]) (p1 := sk T e p + 1) (by omega) (by split <;> (try split) <;> decide) (by omega) (by omega)).2
        refine hgo _ _ _ _ _ (nmk W ++ ((if tpm W = 20 then [] else if tpm W = 23 then [5] else [6]) ++ (rmk W).tail.takeWhile ofQ)) (by omega) (by omega) hg hcl (fun c hc => ?_) hd
        rcases List.mem_append.mp hc with z | z
        · exact hops _ k1 c z
        rcases List.mem_append.mp z with z | z
        · have : c = 5 ∨ c = 6 := by
            split at z
            · cases z
            · split at z
              · exact Or.inl (List.mem_singleton.mp z)
              · exact Or.inr (List.mem_singleton.mp z)
          exact Or.inl (by omega)
        · rw [j1] at z
          exact hofs W' (o - 1) j5 c z
      rw [if_neg c1] at hd
      have hmul := (ws_mul W o hI.2.1 hno).1
      have hadd := (ws_op W 0 o hI.2.1 hno).1
      by_cases c2 : bte T e (sk T e p) = 42
      · rw [if_pos c2] at hd
        have hl := bte_lt (T := T) (e := e) (k := sk T e p) (by omega) (by omega)
        exact hgo _ _ _ _ _ _ (by omega) (by omega) hg (hI1.mul (Or.inl rfl) (by omega) (by omega)) (hops _ hmul) hd
      rw [if_neg c2] at hd
      by_cases c3 : bte T e (sk T e p) = 47
      · rw [if_pos c3] at hd
        have hl := bte_lt (T := T) (e := e) (k := sk T e p) (by omega) (by omega)
        exact hgo _ _ _ _ _ _ (by omega) (by omega) hg (hI1.mul (Or.inr rfl) (by omega) (by omega)) (hops _ hmul) hd
      rw [if_neg c3] at hd
      by_cases c4 : bte T e (sk T e p) = 43
      · rw [if_pos c4] at hd
        have hl := bte_lt (T := T) (e := e) (k := sk T e p) (by omega) (by omega)
        exact hgo _ _ _ _ _ _ (by omega) (by omega) hg (hI1.add (Or.inl rfl) (by omega) (by omega)) (hops _ hadd) hd
      rw [if_neg c4] at hd
      by_cases c5 : bte T e (sk T e p) = 45
      · rw [if_pos c5] at hd
        have hl := bte_lt (T := T) (e := e) (k := sk T e p) (by omega) (by omega)
        exact hgo _ _ _ _ _ _ (by omega) (by omega) hg (hI1.add (Or.inr rfl) (by omega) (by omega)) (hops _ hadd) hd
      rw [if_neg c5] at hd
      obtain ⟨k1, k2⟩ := ws_mrk W 0 o hI.2.1 hno
      by_cases c6 : tpm W = 21 ∨ tpm W = 22
      · rw [if_pos c6] at hd
        by_cases d : bte T e (sk T e p) = 44
        · rw [if_neg (fun z => z d)] at hd
          have hl := bte_lt (T := T) (e := e) (k := sk T e p) (by omega) (by omega)
          exact hgo _ _ _ _ _ _ (by omega) (by omega) hg (hI1.comma c6 (by omega) (by omega)).2 (hops _ k1) hd
        · rw [if_pos d] at hd; cases hd
      rw [if_neg c6] at hd
      by_cases c7 : tpm W ≠ -1
      · rw [if_pos c7] at hd; cases hd
      rw [if_neg c7] at hd
      cases hd
      rcases k2 with ⟨j1, j2, j3, -⟩ | ⟨k, W', j1, j2, j3, -⟩
      · rw [j3] at k1
        exact ⟨W, rfl, hops _ k1⟩
      · omega
