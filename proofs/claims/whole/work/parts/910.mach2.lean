theorem numR_ok {T : Nat → Int} {e least most p g : Int} (hB : Bt T e) (h0 : 0 ≤ p) (h1 : p ≤ e) : (∀ k pl, numR T e least most p g = .inl (k, pl) → (1 ≤ k ∧ k ≤ 5) ∧ -1 ≤ pl ∧ pl ≤ 1600) ∧ (∀ p1 v, numR T e least most p g = .inr (p1, v) → (sk T e p < p1 ∧ p1 ≤ e) ∧ least ≤ v ∧ v ≤ most) := by
  have hh := hB.1
  have hs := sk_rng T h0 h1
  unfold numR
  by_cases c0 : sk T e p ≠ g ∧ 48 ≤ bte T e (sk T e p) ∧ bte T e (sk T e p) ≤ 57
  · rw [if_pos c0]
    have hnr := nmv_rng T e 4 (sk T e p) 0 1 (by omega) hs.2 (by decide) (by decide)
    have hnp : sk T e p < (nmv T e 4 (sk T e p) 0).1 := by
      rw [nmv_y (n := 3) c0.2]
      have hl := bte_lt (T := T) (e := e) (k := sk T e p) (by omega) (by have := c0.2.1; omega)
      have := (nmv_rng T e 3 (sk T e p + 1) (10 * 0 + bte T e (sk T e p) - 48) 10 (by omega) (by omega) (by have := c0.2.1; omega) (by have := c0.2.2; omega)).1
      omega
    generalize nmv T e 4 (sk T e p) 0 = R at *
    by_cases c1 : 48 ≤ bte T e R.1 ∧ bte T e R.1 ≤ 57
    · rw [if_pos c1]
      refine ⟨fun k pl z => ?_, fun p1 v z => by cases z⟩
      cases z
      exact ⟨by decide, by omega, by omega⟩
    · rw [if_neg c1]
      by_cases c2 : R.2 < least ∨ most < R.2
      · rw [if_pos c2]
        refine ⟨fun k pl z => ?_, fun p1 v z => by cases z⟩
        cases z
        exact ⟨by decide, by omega, by omega⟩
      · rw [if_neg c2]
        refine ⟨(fun k pl z => by cases z), fun p1 v z => ?_⟩
        cases z
        exact ⟨⟨hnp, hnr.1.2⟩, by omega, by omega⟩
  · rw [if_neg c0]
    refine ⟨fun k pl z => ?_, fun p1 v z => by cases z⟩
    cases z
    exact ⟨by decide, by omega, by omega⟩
theorem hw_le {T : Nat → Int} {e p g : Int} {L : List Int} (h0 : 0 ≤ p) (h1 : p ≤ e) (hL : 1 ≤ L.length) (hl : ∀ i : Nat, i < L.length → 97 ≤ L.getD i 0 ∧ L.getD i 0 ≤ 122) (h : hwq T e L p g = true) : sk T e p + L.length ≤ e := by
  have hs := sk_rng T h0 h1
  exact hwB_lt (by omega) hL hl (hwq_iff.mp h).2
theorem opd_ok {a : Bool} {T : Nat → Int} {e p g : Int} (hB : Bt T e) (h0 : 0 ≤ p) (h1 : p ≤ e) : (∀ k pl, opd a T e p g = .inl (k, pl) → (1 ≤ k ∧ k ≤ 5) ∧ -1 ≤ pl ∧ pl ≤ 1600) ∧ (∀ p1 g1 v, opd a T e p g = .inr (p1, g1, v) → (sk T e p < p1 ∧ p1 ≤ e) ∧ g1 = p1 ∧ vaC a v ∧ arC a v = 0) := by
  have hh := hB.1
  have hs := sk_rng T h0 h1
  have k4 : ∀ L : List Int, L = wTide ∨ L = wHour → hwq T e L p g = true → sk T e p + 4 ≤ e := by
    intro L hL h
    have := hw_le (L := L) h0 h1 (by rcases hL with z | z <;> subst z <;> decide) (by rcases hL with z | z <;> subst z <;> decide) h
    rcases hL with z | z <;> subst z <;> exact this
  have k5 : ∀ L : List Int, L = wRound ∨ L = wClock → hwq T e L p g = true → sk T e p + 5 ≤ e := by
    intro L hL h
    have := hw_le (L := L) h0 h1 (by rcases hL with z | z <;> subst z <;> decide) (by rcases hL with z | z <;> subst z <;> decide) h
    rcases hL with z | z <;> subst z <;> exact this
  have k3 : hwq T e wDay p g = true → sk T e p + 3 ≤ e := fun h => hw_le (L := wDay) h0 h1 (by decide) (by decide) h
  unfold opd
  by_cases c1 : (!a && hwq T e wTide p g) = true
  · rw [if_pos c1]
    simp only [Bool.and_eq_true, Bool.not_eq_true'] at c1
    have := k4 wTide (Or.inl rfl) c1.2
    refine ⟨(fun k pl z => by cases z), fun p1 g1 v z => ?_⟩
    cases z
    exact ⟨⟨by omega, this⟩, rfl, Or.inr (Or.inr (Or.inl ⟨c1.1, by decide⟩)), by rw [c1.1]; decide⟩
  rw [if_neg c1]
  by_cases c2 : (!a && hwq T e wRound p g) = true
  · rw [if_pos c2]
    simp only [Bool.and_eq_true, Bool.not_eq_true'] at c2
    have := k5 wRound (Or.inl rfl) c2.2
    refine ⟨(fun k pl z => by cases z), fun p1 g1 v z => ?_⟩
    cases z
    exact ⟨⟨by omega, this⟩, rfl, Or.inr (Or.inr (Or.inl ⟨c2.1, by decide⟩)), by rw [c2.1]; decide⟩
  rw [if_neg c2]
  by_cases c3 : (a && hwq T e wHour p g) = true
  · rw [if_pos c3]
    simp only [Bool.and_eq_true] at c3
    have := k4 wHour (Or.inr rfl) c3.2
    refine ⟨(fun k pl z => by cases z), fun p1 g1 v z => ?_⟩
    cases z
    exact ⟨⟨by omega, this⟩, rfl, Or.inr (Or.inr (Or.inr ⟨c3.1, by decide⟩)), by rw [c3.1]; decide⟩
  rw [if_neg c3]
  by_cases c4 : hwq T e wClock p g = true
  · rw [if_pos c4]
    have := k5 wClock (Or.inr rfl) c4
    refine ⟨(fun k pl z => by cases z), fun p1 g1 v z => ?_⟩
    cases z
    refine ⟨⟨by omega, this⟩, rfl, ?_⟩
    cases a
    · exact ⟨Or.inr (Or.inr (Or.inl ⟨rfl, by decide⟩)), by decide⟩
    · exact ⟨Or.inr (Or.inr (Or.inr ⟨rfl, by decide⟩)), by decide⟩
  rw [if_neg c4]
  by_cases c5 : hwq T e wDay p g = true
  · rw [if_pos c5]
    have := k3 c5
    refine ⟨(fun k pl z => by cases z), fun p1 g1 v z => ?_⟩
    cases z
    refine ⟨⟨by omega, this⟩, rfl, ?_⟩
    cases a
    · exact ⟨Or.inr (Or.inr (Or.inl ⟨rfl, by decide⟩)), by decide⟩
    · exact ⟨Or.inr (Or.inr (Or.inr ⟨rfl, by decide⟩)), by decide⟩
  rw [if_neg c5]
  obtain ⟨n1, n2⟩ := numR_ok (least := 0) (most := 9999) (g := g) hB h0 h1
  cases hR : numR T e 0 9999 p g with
  | inl f =>
    refine ⟨fun k pl z => ?_, fun p1 g1 v z => by cases z⟩
    cases z
    exact n1 k pl hR
  | inr s =>
    obtain ⟨p2, v2⟩ := s
    refine ⟨(fun k pl z => by cases z), fun p1 g1 v z => ?_⟩
    cases z
    obtain ⟨m1, m2⟩ := n2 _ _ hR
    refine ⟨m1, rfl, Or.inr (Or.inl ⟨by omega, by omega⟩), ?_⟩
    unfold arC
    rw [if_pos (by omega)]
/-- what a reading of sums comes to -/
def dOut (a : Bool) (T : Nat → Int) (e p : Int) (C : List Int) (h h' : Nat) (R : Out) : Prop := (∃ k pl, R = .inl (k, pl) ∧ (1 ≤ k ∧ k ≤ 5) ∧ -1 ≤ pl ∧ pl ≤ 1600) ∨ (∃ p' g' D, R = .inr (p', g', C ++ D) ∧ (p ≤ p' ∧ p' ≤ e) ∧ (-1 ≤ g' ∧ g' ≤ 1600) ∧ (C ++ D).length ≤ p'.toNat ∧ sk T e p' = p' ∧ wfl a D h h')
def hgt (m : Bool) : Nat := if m = true then 0 else 1
theorem dD_ok {a : Bool} {T : Nat → Int} {e : Int} (hB : Bt T e) {o0 : Int} (ho0 : 0 ≤ o0) (H : Nat) (hH : H ≤ 20) : ∀ (n : Nat) (m : Bool) (p g o : Int) (W C : List Int), 0 ≤ p → p ≤ e → (-1 ≤ g ∧ g ≤ 1600) → o ≤ 6 → wsA o0 0 W o → (m = false → noOf W) → (a = false → ∀ v ∈ W, ¬ 60 ≤ v) → C.length + W.length ≤ p.toNat → (e - p).toNat < n → ∃ R, dD a T e n m p g o W C = some R ∧ dOut a T e p C (H + wtW W + hgt m) (H + 1) R
  | 0, _, _, _, _, _, _, _, _, _, _, _, _, _, _, h => absurd h (Nat.not_lt_zero _)
  | n + 1, m, p, g, o, W, C, h0, h1, hg, ho, hW, hm, ha, hC, hn => by
    have hh := hB.1
    have hs := sk_rng T h0 h1
    have hss := sk_sk T (e := e) h0
    have hwt := wsA_wt W 0 o hW
    have hgo : ∀ (m' : Bool) (p1 g1 o1 : Int) (W1 D1 : List Int), p < p1 → p1 ≤ e → (-1 ≤ g1 ∧ g1 ≤ 1600) → o1 ≤ 6 → wsA o0 0 W1 o1 → (m' = false → noOf W1) → (a = false → ∀ v ∈ W1, ¬ 60 ≤ v) → C.length + D1.length + W1.length ≤ p1.toNat → wfl a D1 (H + wtW W + hgt m) (H + wtW W1 + hgt m') → ∃ R, dD a T e n m' p1 g1 o1 W1 (C ++ D1) = some R ∧ dOut a T e p C (H + wtW W + hgt m) (H + 1) R := by
      intro m' p1 g1 o1 W1 D1 z1 z2 z3 z4 z5 z6 z7 z8 z9
      obtain ⟨R, r1, r2⟩ := dD_ok hB ho0 H hH n m' p1 g1 o1 W1 (C ++ D1) (by omega) z2 z3 z4 z5 z6 z7 (by rw [List.length_append]; exact z8) (by omega)
      refine ⟨R, r1, ?_⟩
      rcases r2 with y | ⟨p', g', D, y1, y2, y3, y4, y5, y6⟩
      · exact Or.inl y
      · refine Or.inr ⟨p', g', D1 ++ D, by rw [← List.append_assoc]; exact y1, ⟨by omega, y2.2⟩, y3, by rw [← List.append_assoc]; exact y4, y5, wfl_app _ _ _ _ _ z9 y6⟩
    have hbad : ∀ (k pl : Int), (1 ≤ k ∧ k ≤ 5) → -1 ≤ pl ∧ pl ≤ 1600 → ∃ R, (some (Sum.inl (k, pl)) : Option Out) = some R ∧ dOut a T e p C (H + wtW W + hgt m) (H + 1) R := fun k pl z1 z2 => ⟨_, rfl, Or.inl ⟨k, pl, rfl, z1, z2⟩⟩
    cases m with
    | true =>
      have hpush : ∀ (k p1 g1 : Int), ((20 ≤ k ∧ k ≤ 22) ∨ (a = true ∧ 60 ≤ k ∧ k ≤ 62)) → p < p1 → p1 ≤ e → (-1 ≤ g1 ∧ g1 ≤ 1600) → o ≠ 6 → ∃ R, dD a T e n true p1 g1 (o + 1) (k :: W) C = some R ∧ dOut a T e p C (H + wtW W + hgt true) (H + 1) R := by
        intro k p1 g1 zk z1 z2 z3 z4
        have e0 : wtE k = 0 := by
          unfold wtE
          rw [if_neg (by omega), if_neg (by omega)]
        have := hgo true p1 g1 (o + 1) (k :: W) [] z1 z2 z3 (by omega) (by
          rw [show o = o + 1 - 1 by omega] at hW
          rcases zk with y | y
          · exact Or.inr (Or.inr (Or.inl ⟨by omega, hW⟩))
          · exact Or.inr (Or.inr (Or.inr ⟨y.2, rfl, hW⟩))) (fun y => by cases y) (fun y v hv => by
          rcases List.mem_cons.mp hv with w | w
          · rcases zk with u | u
            · omega
            · rw [y] at u; exact absurd u.1 (by decide)
          · exact ha y v w) (by simp only [List.length_nil, List.length_cons]; omega) (by
          show H + wtW W + hgt true = H + (wtE k + wtW W) + hgt true
          omega)
        rw [List.append_nil] at this
        exact this
      unfold dD
      by_cases c1 : bte T e (sk T e p) = 40
      · rw [if_pos c1]
        have hl := bte_lt (T := T) (e := e) (k := sk T e p) (by omega) (by omega)
        by_cases d : o = 6
        · rw [if_pos d]; exact hbad _ _ (by decide) (by omega)
        · rw [if_neg d]; exact hpush 20 _ _ (Or.inl (by decide)) (by omega) (by omega) hg d
      rw [if_neg c1]
      have hpair : ∀ (k : Int) (L : List Int), (20 ≤ k ∧ k ≤ 22) → (L = wMin ∨ L = wMax) → hwq T e L p g = true → ∃ R, (if bte T e (sk T e (sk T e p + 3)) ≠ 40 then some (.inl (1, sk T e (sk T e p + 3))) else if o = 6 then some (.inl (4, sk T e (sk T e p + 3))) else dD a T e n true (sk T e (sk T e p + 3) + 1) (sk T e p + 3) (o + 1) (k :: W) C) = some R ∧ dOut a T e p C (H + wtW W + hgt true) (H + 1) R := by
        intro k L hk hL c
        have h3 : sk T e p + 3 ≤ e := by
          have := hw_le (L := L) h0 h1 (by rcases hL with z | z <;> subst z <;> decide) (by rcases hL with z | z <;> subst z <;> decide) c
          rcases hL with z | z <;> subst z <;> exact this
        have hs3 := sk_rng T (e := e) (p := sk T e p + 3) (by omega) h3
        by_cases d : bte T e (sk T e (sk T e p + 3)) = 40
        · rw [if_neg (fun z => z d)]
          have hl := bte_lt (T := T) (e := e) (k := sk T e (sk T e p + 3)) (by omega) (by omega)
          by_cases f : o = 6
          · rw [if_pos f]; exact hbad _ _ (by decide) (by omega)
          · rw [if_neg f]; exact hpush k _ _ (Or.inl hk) (by omega) (by omega) (by omega) f
        · rw [if_pos d]; exact hbad _ _ (by decide) (by omega)
      by_cases c2 : hwq T e wMin p g = true
      · rw [if_pos c2]; exact hpair 21 wMin (by decide) (Or.inl rfl) c2
      rw [if_neg c2]
      by_cases c3 : hwq T e wMax p g = true
      · rw [if_pos c3]; exact hpair 22 wMax (by decide) (Or.inr rfl) c3
      rw [if_neg c3]
      by_cases c4 : (a && hwq T e wWidth p g) = true
      · rw [if_pos c4]
        simp only [Bool.and_eq_true] at c4
        have h5 : sk T e p + 5 ≤ e := hw_le (L := wWidth) h0 h1 (by decide) (by decide) c4.2
        by_cases d : o = 6
        · rw [if_pos d]; exact hbad _ _ (by decide) (by omega)
        · rw [if_neg d]; exact hpush 60 _ _ (Or.inr ⟨c4.1, by decide⟩) (by omega) h5 (by omega) d
      rw [if_neg c4]
      by_cases c5 : (a && hwq T e wTide p g) = true
      · rw [if_pos c5]
        simp only [Bool.and_eq_true] at c5
        have h5 : sk T e p + 4 ≤ e := hw_le (L := wTide) h0 h1 (by decide) (by decide) c5.2
        by_cases d : o = 6
        · rw [if_pos d]; exact hbad _ _ (by decide) (by omega)
        · rw [if_neg d]; exact hpush 61 _ _ (Or.inr ⟨c5.1, by decide⟩) (by omega) h5 (by omega) d
      rw [if_neg c5]
      by_cases c6 : (a && hwq T e wPasses p g) = true
      · rw [if_pos c6]
        simp only [Bool.and_eq_true] at c6
        have h5 : sk T e p + 6 ≤ e := hw_le (L := wPasses) h0 h1 (by decide) (by decide) c6.2
        by_cases d : o = 6
        · rw [if_pos d]; exact hbad _ _ (by decide) (by omega)
        · rw [if_neg d]; exact hpush 62 _ _ (Or.inr ⟨c6.1, by decide⟩) (by omega) h5 (by omega) d
      rw [if_neg c6]
      obtain ⟨n1, n2⟩ := opd_ok (a := a) (g := g) hB h0 h1
      cases hR : opd a T e p g with
      | inl f =>
        obtain ⟨k, pl⟩ := f
        obtain ⟨m1, m2⟩ := n1 k pl hR
        exact hbad k pl m1 m2
      | inr s =>
        obtain ⟨p1, g1, v⟩ := s
        obtain ⟨m1, m2, m3, m4⟩ := n2 _ _ _ hR
        obtain ⟨w1, w2, w3, w4, w5⟩ := ws_of W o hW
        refine hgo false p1 g1 _ _ (v :: W.takeWhile ofQ) (by omega) m1.2 (by omega) (by omega) w2 (fun _ => w3) (fun y x hx => ha y x (List.dropWhile_sublist _ |>.subset hx)) (by simp only [List.length_cons]; omega) ?_
        refine ⟨m3, by omega, by show H + wtW W + 0 < 60; omega, ?_⟩
        rw [m4, ← w4]
        show wfl a (W.takeWhile ofQ) (H + wtW W + 0 + 1 - 0) (H + wtW W + 1)
        rw [show H + wtW W + 0 + 1 - 0 = H + wtW W + 1 by omega]
        cases a with
        | true => exact wfl_ofs _ _ w1 (by omega) (by omega)
        | false =>
          have : W.takeWhile ofQ = [] := by
            cases W with
            | nil => rfl
            | cons x W => exact noOf_of (ha rfl x List.mem_cons_self)
          rw [this]
          rfl
    | false =>
      have hno := hm rfl
      obtain ⟨k1, k2⟩ := ws_mrk W 0 o hW hno
      unfold dD
      by_cases c1 : bte T e (sk T e p) = 41 ∧ (tpm W = 20 ∨ tpm W = 23 ∨ tpm W = 24)
      · rw [if_pos c1]
        have hl := bte_lt (T := T) (e := e) (k := sk T e p) (by omega) (by omega)
        rcases k2 with ⟨j1, j2, -⟩ | ⟨k, W', j1, j2, j3, j4, j5, j6⟩
        · omega
        · rw [j1, j2]
          rw [j2] at c1
          obtain ⟨w1, w2, w3, w4, w5⟩ := ws_of W' (o - 1) j5
          have hlen : W.length = (nmk W).length + (W'.length + 1) := by
            have := congrArg List.length j4
            rw [List.length_append, List.length_cons] at this
            exact this
          have hwt' := wsA_wt W' 0 (o - 1) j5
          show ∃ R, dD a T e n false (sk T e p + 1) g (o - 1 - (W'.takeWhile ofQ).length) (W'.dropWhile ofQ) (C ++ (nmk W ++ ((if k = 20 then [] else if k = 23 then [5] else [6]) ++ W'.takeWhile ofQ))) = some R ∧ _
          have hcl : ((if k = 20 then ([] : List Int) else if k = 23 then [5] else [6]) : List Int).length ≤ 1 := by
            split
            · simp
            · split <;> simp
          refine hgo false _ _ _ _ _ (by omega) (by omega) hg (by omega) w2 (fun _ => w3) (fun y x hx => ha y x (by rw [j4]; exact List.mem_append_right _ (List.mem_cons_of_mem _ (List.dropWhile_sublist _ |>.subset hx)))) (by simp only [List.length_append]; omega) ?_
          rw [← w4]
          refine wfl_app _ _ _ (H + wtE k + wtW W' + 1) _ ?_ (wfl_app _ _ _ (H + wtW W' + 1) _ ?_ ?_)
          · rw [j6, show H + ((nmk W).length + wtE k + wtW W') + hgt false = (H + wtE k + wtW W' + 1) + (nmk W).length by unfold hgt; rw [if_neg (by decide)]; omega]
            exact wfl_ops _ _ k1 (by omega) (by omega)
          · rcases c1.2 with y | y | y
            · rw [if_pos y]
              show H + wtE k + wtW W' + 1 = H + wtW W' + 1
              rw [y]
              show H + 0 + wtW W' + 1 = _
              omega
            · rw [if_neg (by omega), if_pos y, y]
              have e5 : arC a 5 = 2 := by cases a <;> rfl
              refine ⟨Or.inl (by decide), by rw [e5]; show 2 ≤ H + 1 + wtW W' + 1; omega, by show H + 1 + wtW W' + 1 < 60; omega, ?_⟩
              rw [e5]
              show H + 1 + wtW W' + 1 + 1 - 2 = H + wtW W' + 1
              omega
            · rw [if_neg (by omega), if_neg (by omega), y]
              have e5 : arC a 6 = 2 := by cases a <;> rfl
              refine ⟨Or.inl (by decide), by rw [e5]; show 2 ≤ H + 1 + wtW W' + 1; omega, by show H + 1 + wtW W' + 1 < 60; omega, ?_⟩
              rw [e5]
              show H + 1 + wtW W' + 1 + 1 - 2 = H + wtW W' + 1
              omega
          · show wfl a (W'.takeWhile ofQ) (H + wtW W' + 1) (H + wtW W' + 1)
            cases a with
            | true => exact wfl_ofs _ _ w1 (by omega) (by omega)
            | false =>
              have : W'.takeWhile ofQ = [] := by
                cases W' with
                | nil => rfl
                | cons x W' => exact noOf_of (ha rfl x (by rw [j4]; exact List.mem_append_right _ (List.mem_cons_of_mem _ List.mem_cons_self)))
              rw [this]
              rfl
      rw [if_neg c1]
      have hmul : ∀ v : Int, (v = 3 ∨ v = 4) → bte T e (sk T e p) ≠ -1 → ∃ R, dD a T e n true (sk T e p + 1) g o (v :: W.dropWhile mulQ) (C ++ W.takeWhile mulQ) = some R ∧ dOut a T e p C (H + wtW W + hgt false) (H + 1) R := by
        intro v hv hb
        clear k2
        have hl := bte_lt (T := T) (e := e) (k := sk T e p) (by omega) hb
        obtain ⟨w1, w2, w3, w4⟩ := ws_mul W o hW hno
        refine hgo true _ _ _ _ _ (by omega) (by omega) hg ho (Or.inl ⟨hv, rfl, w2⟩) (fun y => by cases y) (fun y x hx => ?_) (by simp only [List.length_cons]; omega) ?_
        · rcases List.mem_cons.mp hx with z | z
          · omega
          · exact ha y x (List.dropWhile_sublist _ |>.subset z)
        · have ev : wtE v = 1 := by unfold wtE; rw [if_pos (by omega)]
          show wfl a _ (H + wtW W + 1) (H + (wtE v + wtW (W.dropWhile mulQ)) + 0)
          rw [ev, w3, show H + ((W.takeWhile mulQ).length + wtW (W.dropWhile mulQ)) + 1 = (H + (1 + wtW (W.dropWhile mulQ)) + 0) + (W.takeWhile mulQ).length by omega]
          exact wfl_ops _ _ w1 (by omega) (by omega)
      have hadd : ∀ v : Int, (v = 1 ∨ v = 2) → bte T e (sk T e p) ≠ -1 → ∃ R, dD a T e n true (sk T e p + 1) g o (v :: W.dropWhile opQ) (C ++ W.takeWhile opQ) = some R ∧ dOut a T e p C (H + wtW W + hgt false) (H + 1) R := by
        intro v hv hb
        clear k2
        have hl := bte_lt (T := T) (e := e) (k := sk T e p) (by omega) hb
        obtain ⟨w1, w2, w3, w4⟩ := ws_op W 0 o hW hno
        refine hgo true _ _ _ _ _ (by omega) (by omega) hg ho (Or.inr (Or.inl ⟨hv, Nat.zero_le _, w2⟩)) (fun y => by cases y) (fun y x hx => ?_) (by simp only [List.length_cons]; omega) ?_
        · rcases List.mem_cons.mp hx with z | z
          · omega
          · exact ha y x (List.dropWhile_sublist _ |>.subset z)
        · have ev : wtE v = 1 := by unfold wtE; rw [if_pos (by omega)]
          show wfl a _ (H + wtW W + 1) (H + (wtE v + wtW (W.dropWhile opQ)) + 0)
          rw [ev, w3, show H + ((W.takeWhile opQ).length + wtW (W.dropWhile opQ)) + 1 = (H + (1 + wtW (W.dropWhile opQ)) + 0) + (W.takeWhile opQ).length by omega]
          exact wfl_ops _ _ w1 (by omega) (by omega)
      by_cases c2 : bte T e (sk T e p) = 42
      · rw [if_pos c2]; exact hmul 3 (Or.inl rfl) (by omega)
      rw [if_neg c2]
      by_cases c3 : bte T e (sk T e p) = 47
      · rw [if_pos c3]; exact hmul 4 (Or.inr rfl) (by omega)
      rw [if_neg c3]
      by_cases c4 : bte T e (sk T e p) = 43
      · rw [if_pos c4]; exact hadd 1 (Or.inl rfl) (by omega)
      rw [if_neg c4]
      by_cases c5 : bte T e (sk T e p) = 45
      · rw [if_pos c5]; exact hadd 2 (Or.inr rfl) (by omega)
      rw [if_neg c5]
      by_cases c6 : tpm W = 21 ∨ tpm W = 22
      · rw [if_pos c6]
        by_cases d : bte T e (sk T e p) = 44
        · rw [if_neg (fun z => z d)]
          have hl := bte_lt (T := T) (e := e) (k := sk T e p) (by omega) (by omega)
          rcases k2 with ⟨j1, j2, -⟩ | ⟨k, W', j1, j2, j3, j4, j5, j6⟩
          · omega
          · rw [j1, j2]
            rw [j2] at c6
            have hlen : W.length = (nmk W).length + (W'.length + 1) := by
              have := congrArg List.length j4
              rw [List.length_append, List.length_cons] at this
              exact this
            refine hgo true _ _ _ _ _ (by omega) (by omega) hg ho (Or.inr (Or.inr (Or.inl ⟨by omega, j5⟩))) (fun y => by cases y) (fun y x hx => ?_) (by simp only [List.length_cons, List.tail_cons]; omega) ?_
            · rcases List.mem_cons.mp hx with z | z
              · omega
              · exact ha y x (by rw [j4]; exact List.mem_append_right _ (List.mem_cons_of_mem _ z))
            · have e1 : wtE k = 0 := by unfold wtE; rw [if_neg (by omega), if_neg (by omega)]
              have e2 : wtE (k + 2) = 1 := by unfold wtE; rw [if_neg (by omega), if_pos (by omega)]
              show wfl a _ (H + wtW W + 1) (H + (wtE (k + 2) + wtW W') + 0)
              rw [e2, j6, e1, show H + ((nmk W).length + 0 + wtW W') + 1 = (H + (1 + wtW W') + 0) + (nmk W).length by omega]
              exact wfl_ops _ _ k1 (by omega) (by omega)
        · rw [if_pos d]; exact hbad _ _ (by decide) (by omega)
      rw [if_neg c6]
      by_cases c7 : tpm W ≠ -1
      · rw [if_pos c7]; exact hbad _ _ (by decide) (by omega)
      rw [if_neg c7]
      rcases k2 with ⟨j1, j2, j3, j4, j5⟩ | ⟨k, W', j1, j2, j3, -⟩
      · refine ⟨_, rfl, Or.inr ⟨sk T e p, g, W, rfl, hs, hg, by rw [List.length_append]; omega, hss, ?_⟩⟩
        show wfl a W (H + wtW W + 1) (H + 1)
        rw [j4, show H + W.length + 1 = (H + 1) + W.length by omega]
        rw [j3] at k1
        exact wfl_ops _ _ k1 (by omega) (by omega)
      · omega
