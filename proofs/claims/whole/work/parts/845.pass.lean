def tf (r : Int) (P : Prop) : Prop := (r = 1 ∧ P) ∨ (r = 0 ∧ ¬ P)
/-- the first of some numbers for which P holds; d without one -/
def isF (P : Int → Prop) (a b d r : Int) : Prop := (r = d ∧ ∀ h, a ≤ h → h ≤ b → ¬ P h) ∨ (a ≤ r ∧ r ≤ b ∧ P r ∧ ∀ h, a ≤ h → h < r → ¬ P h)
theorem isF_un {P : Int → Prop} {a b d r r' : Int} (h : isF P a b d r) (h' : isF P a b d r') : r = r' := by
  rcases h with ⟨h1, h2⟩ | ⟨h1, h2, h3, h4⟩ <;> rcases h' with ⟨g1, g2⟩ | ⟨g1, g2, g3, g4⟩
  · rw [h1, g1]
  · exact absurd g3 (h2 _ g1 g2)
  · exact absurd h3 (g2 _ h1 h2)
  · rcases Int.lt_trichotomy r r' with c | c | c
    · exact absurd h3 (g4 _ h1 c)
    · exact c
    · exact absurd g3 (h4 _ g1 c)
theorem tf_un {P : Prop} {r r' : Int} (h : tf r P) (h' : tf r' P) : r = r' := by
  rcases h with ⟨h1, h2⟩ | ⟨h1, h2⟩ <;> rcases h' with ⟨g1, g2⟩ | ⟨g1, g2⟩
  · rw [h1, g1]
  · exact absurd h2 g2
  · exact absurd g2 h2
  · rw [h1, g1]
theorem tf_iff {P P' : Prop} {r : Int} (h : tf r P) (e : P ↔ P') : tf r P' := by
  rcases h with ⟨h1, h2⟩ | ⟨h1, h2⟩
  · exact Or.inl ⟨h1, e.mp h2⟩
  · exact Or.inr ⟨h1, fun q => h2 (e.mpr q)⟩
/-- those who are in a street -/
def crw (V : Mm) : List (Int × Int × Int) → Int → Int → Int
  | [], _, _ => 0
  | q :: R, s, h => (if q.1 = s ∧ q.2.1 ≤ h ∧ h < q.2.1 + tk V s then q.2.2 else 0) + crw V R s h
def rdOk (R : List (Int × Int × Int)) : Prop := R.length ≤ 36 ∧ ∀ q ∈ R, (0 ≤ q.1 ∧ q.1 < 12) ∧ (0 ≤ q.2.1 ∧ q.2.1 ≤ 100000) ∧ 0 ≤ q.2.2 ∧ q.2.2 ≤ 99
theorem crw_rng (V : Mm) : ∀ (R : List (Int × Int × Int)) (s h : Int), (∀ q ∈ R, 0 ≤ q.2.2 ∧ q.2.2 ≤ 99) → 0 ≤ crw V R s h ∧ crw V R s h ≤ 99 * R.length
  | [], _, _, _ => ⟨Int.le_refl _, by simp [crw]⟩
  | q :: R, s, h, hq => by
    have ih := crw_rng V R s h (fun x hx => hq x (List.mem_cons_of_mem _ hx))
    have h1 := hq q List.mem_cons_self
    simp only [crw, List.length_cons]
    split <;> omega
def bzC (M : Mm) (R : List (Int × Int × Int)) : Prop := M 48 10 = (R.length : Int) ∧ ∀ (k : Nat) q, R[k]? = some q → M 52 k = q.1 ∧ M 53 k = q.2.1 ∧ M 54 k = q.2.2
def bzM (M : Mm) (R : List (Int × Int × Int)) : Prop := M 78 47 = (R.length : Int) ∧ ∀ (k : Nat) q, R[k]? = some q → M 109 (3 * k) = q.1 ∧ M 109 (3 * k + 1) = q.2.1 ∧ M 109 (3 * k + 2) = q.2.2
def bcOk (l : List (Nat × Nat)) : Bool := l.all fun p => (p.1 != 48 || (p.2 != 10 && p.2 != 99999)) && (p.1 != 52 && (p.1 != 53 && p.1 != 54))
def bmOk (l : List (Nat × Nat)) : Bool := l.all fun p => (p.1 != 78 || (p.2 != 47 && p.2 != 99999)) && p.1 != 109
theorem Fr.at' {l : List (Nat × Nat)} {M M' : Mm} (h : Fr l M M') (i k : Nat) (hh : ∀ p ∈ l, ¬ p.1 = i ∨ (¬ p.2 = k ∧ ¬ p.2 = 99999)) : M' i k = M i k := h i k fun p hp q => by
  rcases hh p hp with g | g
  · exact g q.1
  · rcases q.2 with e | e
    · exact g.1 e
    · exact g.2 e
theorem bzC.fr {M M' : Mm} {R : List (Int × Int × Int)} {l : List (Nat × Nat)} (h : bzC M R) (hF : Fr l M M') (hh : bcOk l = true) : bzC M' R := by
  have hz := fun p hp => List.all_eq_true.mp hh p hp
  simp only [Bool.and_eq_true, Bool.or_eq_true, bne_iff_ne, ne_eq] at hz
  unfold bzC
  rw [hF.at' 48 10 (fun p hp => (hz p hp).1), hF.rw' 52 (fun p hp => (hz p hp).2.1), hF.rw' 53 (fun p hp => (hz p hp).2.2.1), hF.rw' 54 (fun p hp => (hz p hp).2.2.2)]
  exact h
theorem bzM.fr {M M' : Mm} {R : List (Int × Int × Int)} {l : List (Nat × Nat)} (h : bzM M R) (hF : Fr l M M') (hh : bmOk l = true) : bzM M' R := by
  have hz := fun p hp => List.all_eq_true.mp hh p hp
  simp only [Bool.and_eq_true, Bool.or_eq_true, bne_iff_ne, ne_eq] at hz
  unfold bzM
  rw [hF.at' 78 47 (fun p hp => (hz p hp).1), hF.rw' 109 (fun p hp => (hz p hp).2)]
  exact h
theorem crw_drop (V : Mm) {R : List (Int × Int × Int)} {k : Nat} {q : Int × Int × Int} (s h : Int) (e : R[k]? = some q) : crw V (R.drop k) s h = (if q.1 = s ∧ q.2.1 ≤ h ∧ h < q.2.1 + tk V s then q.2.2 else 0) + crw V (R.drop (k + 1)) s h := by
  obtain ⟨hk, e⟩ := List.getElem?_eq_some_iff.mp e
  rw [List.drop_eq_getElem_cons hk, e]
  rfl
theorem s_load {V M : Mm} {R : List (Int × Int × Int)} (hc : Tc V M) (hT : Tw V) (hB : bzC M R) (hR : rdOk R) {s h : Int} (h1 : 0 ≤ s) (h2 : s < nS V) (h3 : 0 ≤ h) (h4 : h ≤ 1000000) : f_Ways_load s h M = some (crw V R s h, M) := by
  obtain ⟨-, ⟨-, hS⟩, -, hTs, -⟩ := hT
  obtain ⟨-, -, -, ⟨t1, t2⟩, -⟩ := hTs s h1 h2
  have e8 := (hc.2.1 s h1 h2).2.2.1
  obtain ⟨b1, b2⟩ := hB
  obtain ⟨r1, r2⟩ := hR
  suffices hq : wq (f_Ways_load s h M) (fun q => q.1 = crw V R s h ∧ q.2 = M) by
    obtain ⟨⟨x, y⟩, e, e1, e2⟩ := hq
    rw [e]
    exact congrArg some (Prod.ext e1 e2)
  unfold f_Ways_load f_Ways_load_L5
  refine wq_lp (fun z => z.1 = s ∧ z.2.1 = h ∧ z.2.2.2.2 = M ∧ 0 ≤ z.2.2.2.1 ∧ z.2.2.2.1 ≤ (R.length : Int) ∧ z.2.2.1 + crw V (R.drop z.2.2.2.1.toNat) s h = crw V R s h) (fun z => ((R.length : Int) - z.2.2.2.1).toNat) ?_ FU _ ?_ ?_
  · rintro kH ⟨v1, v2, v3, v4, M1⟩ ⟨g1, g2, g3, g4, g5, g6⟩ hk
    have g1 : v1 = s := g1
    have g2 : v2 = h := g2
    have g3 : M1 = M := g3
    subst g1 g2 g3
    have g4 : 0 ≤ v4 := g4
    have g5 : v4 ≤ (R.length : Int) := g5
    have g6 : v3 + crw V (R.drop v4.toNat) v1 v2 = crw V R v1 v2 := g6
    have hk' : ∀ w : Int, w + crw V (R.drop (v4.toNat + 1)) v1 v2 = crw V R v1 v2 → v4 < (R.length : Int) → wq (kH (v1, v2, w, v4 + 1, M1)) (fun q => q.1 = crw V R v1 v2 ∧ q.2 = M1) := fun w hw hv => hk _ ⟨rfl, rfl, rfl, show 0 ≤ v4 + 1 by omega, show v4 + 1 ≤ _ by omega, by show w + crw V (R.drop (v4 + 1).toNat) v1 v2 = _; rw [show (v4 + 1).toNat = v4.toNat + 1 by omega]; exact hw⟩ (show ((R.length : Int) - (v4 + 1)).toNat < ((R.length : Int) - v4).toNat by omega)
    clear hk
    show wq (f_Ways_load_B5 (fun v1 v2 v3 v4 M => kH (v1, v2, v3, v4, M)) v1 v2 v3 v4 M1) _
    unfold f_Ways_load_B5
    rw [b1, i32_id (x := (R.length : Int)) (by omega) (by omega), i32_id (x := v4) (by omega) (by omega)]
    refine wq_if (fun c => ?_) (fun c => ?_)
    · rw [List.drop_eq_nil_of_le (by omega)] at g6
      exact wq_some ⟨by show v3 = _; rw [← g6]; simp [crw], rfl⟩
    · obtain ⟨q, hq⟩ : ∃ q, R[v4.toNat]? = some q := ⟨R[v4.toNat]'(by omega), List.getElem?_eq_getElem _⟩
      obtain ⟨m1, m2, m3⟩ := b2 _ _ hq
      obtain ⟨z1, z2, z3⟩ := r2 q (List.mem_of_getElem? hq)
      rw [crw_drop V v1 v2 hq] at g6
      rw [e_cell_in (n := 36) M1 rfl (by decide) g4 (by omega), bI_s, e_cell_in (n := 36) M1 rfl (by decide) g4 (by omega), bI_s, m1, m2, i32_id (x := q.1) (by omega) (by omega), i32_id (x := v1) (by omega) (by omega), i32_id (x := v2 - q.2.1) (by omega) (by omega)]
      by_cases c1 : q.1 = v1
      · rw [if_neg (fun w => w c1)]
        by_cases c2 : v2 - q.2.1 < 0
        · rw [if_pos c2]
          rw [if_neg (fun w => by omega)] at g6
          exact hk' v3 (by omega) (by omega)
        · rw [if_neg c2, e_cell_in (n := 12) M1 rfl (by decide) h1 (by omega), bI_s, e8, i32_id (x := tk V v1) (by omega) (by omega)]
          by_cases c3 : tk V v1 ≤ v2 - q.2.1
          · rw [if_pos c3]
            rw [if_neg (fun w => by omega)] at g6
            exact hk' v3 (by omega) (by omega)
          · rw [if_neg c3, e_cell_in (n := 36) M1 rfl (by decide) g4 (by omega), bI_s, m3]
            rw [if_pos ⟨c1, by omega, by omega⟩] at g6
            exact hk' _ (by omega) (by omega)
      · rw [if_pos c1]
        rw [if_neg (fun w => c1 w.1)] at g6
        exact hk' v3 (by omega) (by omega)
  · exact ⟨rfl, rfl, rfl, Int.le_refl _, by show (0 : Int) ≤ _; omega, by show 0 + crw V (R.drop 0) s h = _; simp⟩
  · show ((R.length : Int) - 0).toNat < 1000000000
    omega
theorem s_crowd {V M : Mm} {R : List (Int × Int × Int)} (hc : Rm V M) (hT : Tw V) (hB : bzM M R) (hR : rdOk R) {s h : Int} (h1 : 0 ≤ s) (h2 : s < nS V) (h3 : 0 ≤ h) (h4 : h ≤ 1000000) : f_M_crowdIn s h M = some (crw V R s h, M) := by
  obtain ⟨-, ⟨-, hS⟩, -, hTs, -⟩ := hT
  obtain ⟨-, -, -, ⟨t1, t2⟩, -⟩ := hTs s h1 h2
  have e8 := e_takes hc h1 (show s < 12 by omega)
  obtain ⟨b1, b2⟩ := hB
  obtain ⟨r1, r2⟩ := hR
  suffices hq : wq (f_M_crowdIn s h M) (fun q => q.1 = crw V R s h ∧ q.2 = M) by
    obtain ⟨⟨x, y⟩, e, e1, e2⟩ := hq
    rw [e]
    exact congrArg some (Prod.ext e1 e2)
  unfold f_M_crowdIn f_M_crowdIn_L5
  refine wq_lp (fun z => z.1 = s ∧ z.2.1 = h ∧ z.2.2.2.2 = M ∧ 0 ≤ z.2.2.2.1 ∧ z.2.2.2.1 ≤ (R.length : Int) ∧ z.2.2.1 + crw V (R.drop z.2.2.2.1.toNat) s h = crw V R s h) (fun z => ((R.length : Int) - z.2.2.2.1).toNat) ?_ FU _ ?_ ?_
  · rintro kH ⟨v1, v2, v3, v4, M1⟩ ⟨g1, g2, g3, g4, g5, g6⟩ hk
    have g1 : v1 = s := g1
    have g2 : v2 = h := g2
    have g3 : M1 = M := g3
    subst g1 g2 g3
    have g4 : 0 ≤ v4 := g4
    have g5 : v4 ≤ (R.length : Int) := g5
    have g6 : v3 + crw V (R.drop v4.toNat) v1 v2 = crw V R v1 v2 := g6
    have hk' : ∀ w : Int, w + crw V (R.drop (v4.toNat + 1)) v1 v2 = crw V R v1 v2 → v4 < (R.length : Int) → wq (kH (v1, v2, w, v4 + 1, M1)) (fun q => q.1 = crw V R v1 v2 ∧ q.2 = M1) := fun w hw hv => hk _ ⟨rfl, rfl, rfl, show 0 ≤ v4 + 1 by omega, show v4 + 1 ≤ _ by omega, by show w + crw V (R.drop (v4 + 1).toNat) v1 v2 = _; rw [show (v4 + 1).toNat = v4.toNat + 1 by omega]; exact hw⟩ (show ((R.length : Int) - (v4 + 1)).toNat < ((R.length : Int) - v4).toNat by omega)
    clear hk
    show wq (f_M_crowdIn_B5 (fun v1 v2 v3 v4 M => kH (v1, v2, v3, v4, M)) v1 v2 v3 v4 M1) _
    unfold f_M_crowdIn_B5
    rw [b1, i32_id (x := (R.length : Int)) (by omega) (by omega), i32_id (x := v4) (by omega) (by omega)]
    refine wq_if (fun c => ?_) (fun c => ?_)
    · rw [List.drop_eq_nil_of_le (by omega)] at g6
      exact wq_some ⟨by show v3 = _; rw [← g6]; simp [crw], rfl⟩
    · obtain ⟨q, hq⟩ : ∃ q, R[v4.toNat]? = some q := ⟨R[v4.toNat]'(by omega), List.getElem?_eq_getElem _⟩
      obtain ⟨m1, m2, m3⟩ := b2 _ _ hq
      obtain ⟨z1, z2, z3⟩ := r2 q (List.mem_of_getElem? hq)
      rw [crw_drop V v1 v2 hq] at g6
      rw [i32_id (x := 3 * v4) (by omega) (by omega), i32_id (x := 3 * v4 + 1) (by omega) (by omega), i32_id (x := 3 * v4 + 2) (by omega) (by omega), show (3 * v4).toNat = 3 * v4.toNat by omega, show (3 * v4 + 1).toNat = 3 * v4.toNat + 1 by omega, show (3 * v4 + 2).toNat = 3 * v4.toNat + 2 by omega, m1, m2, i32_id (x := q.1) (by omega) (by omega), i32_id (x := v1) (by omega) (by omega), i32_id (x := v2) (by omega) (by omega), i32_id (x := q.2.1) (by omega) (by omega)]
      refine wq_g (by omega) ?_
      by_cases c1 : q.1 = v1
      · refine wq_e (fun w => w c1) (wq_g (by omega) ?_)
        by_cases c2 : v2 < q.2.1
        · refine wq_t c2 ?_
          rw [if_neg (fun w => by omega)] at g6
          exact hk' v3 (by omega) (by omega)
        · refine wq_e c2 (wq_g (by omega) ?_)
          rw [e8, bI_s, i32_id (x := q.2.1 + tk V v1) (by omega) (by omega)]
          by_cases c3 : q.2.1 + tk V v1 ≤ v2
          · refine wq_t c3 ?_
            rw [if_neg (fun w => by omega)] at g6
            exact hk' v3 (by omega) (by omega)
          · refine wq_e c3 (wq_g (by omega) ?_)
            rw [m3]
            rw [if_pos ⟨c1, by omega, by omega⟩] at g6
            exact hk' _ (by omega) (by omega)
      · refine wq_t c1 ?_
        rw [if_neg (fun w => c1 w.1)] at g6
        exact hk' v3 (by omega) (by omega)
  · exact ⟨rfl, rfl, rfl, Int.le_refl _, by show (0 : Int) ≤ _; omega, by show 0 + crw V (R.drop 0) s h = _; simp⟩
  · show ((R.length : Int) - 0).toNat < 1000000000
    omega
