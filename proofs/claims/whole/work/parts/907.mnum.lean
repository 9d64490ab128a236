theorem s_mnumber {T : Nat → Int} {e p g least most : Int} {M : Mm} (hB : Bt T e) (h : Sm T e p g M) (h1 : 0 ≤ least) (h2 : least ≤ 9999) (h3 : 0 ≤ most) (h4 : most ≤ 9999) : wq (f_M_number least most M) (fun q => ((∃ p1 v, numR T e least most p g = .inr (p1, v) ∧ q.1 = v ∧ (least ≤ v ∧ v ≤ most) ∧ sk T e p < p1 ∧ Sm T e p1 p1 q.2) ∨ (∃ k pl, numR T e least most p g = .inl (k, pl) ∧ (0 ≤ q.1 ∧ q.1 ≤ 9999) ∧ Fm T e k pl q.2)) ∧ Fr smL M q.2) := by
  have hh := hB.1
  have hp0 := h.2.2.2.2.2.1
  unfold f_M_number
  rw [h.2.2.2.2.1]
  refine wq_t rfl (wq_I (s_look hB h) (fun r2 M1 ⟨a0, a1, a2⟩ => ?_))
  have a0 : r2 = bte T e (sk T e p) := a0
  have a1 : Sm T e (sk T e p) g M1 := a1
  have a2 : Fr [(78, 2)] M M1 := a2
  have F1 : Fr smL M M1 := a2.cov rfl
  have b := a1.2.2.2.2.2.1
  have bg := a1.2.2.2.2.2.2.1
  have hr := bte_rng hB (sk T e p)
  have hno : ¬ (sk T e p ≠ g ∧ 48 ≤ bte T e (sk T e p) ∧ bte T e (sk T e p) ≤ 57) → wq (f_M_number_J30 M1) (fun q => ((∃ p1 v, numR T e least most p g = .inr (p1, v) ∧ q.1 = v ∧ (least ≤ v ∧ v ≤ most) ∧ sk T e p < p1 ∧ Sm T e p1 p1 q.2) ∨ (∃ k pl, numR T e least most p g = .inl (k, pl) ∧ (0 ≤ q.1 ∧ q.1 ≤ 9999) ∧ Fm T e k pl q.2)) ∧ Fr smL M q.2) := by
    intro hz
    unfold f_M_number_J30
    rw [a1.2.2.1]
    refine wq_V (s_mfail a1 (k := 1) (pl := sk T e p) (by decide) (by omega)) (fun M2 ⟨c1, c2⟩ => wq_some ⟨Or.inr ⟨1, sk T e p, ?_, ⟨Int.le_refl _, by show (0 : Int) ≤ 9999; decide⟩, c1⟩, F1.tr c2⟩)
    unfold numR
    rw [if_neg hz]
  rw [a0]
  refine wq_I (e_isDigM M1 (by omega) (by omega)) (fun r4 M3 ⟨b1, b2⟩ => ?_)
  have b2 : M3 = M1 := b2
  rw [b2]
  rcases b1 with ⟨b1, b3⟩ | ⟨b1, b3⟩
  · have b1 : r4 = 1 := b1
    rw [b1, a1.2.2.1, a1.2.2.2.1, i32_id (x := sk T e p) (by omega) (by omega), i32_id (x := g) (by omega) (by omega)]
    refine wq_e (by decide) (wq_if (fun c => ?_) (fun c => hno (fun z => c z.1)))
    have c0 : sk T e p ≠ g ∧ 48 ≤ bte T e (sk T e p) ∧ bte T e (sk T e p) ≤ 57 := ⟨c, b3.1, b3.2⟩
    have hnr := nmv_rng T e 4 (sk T e p) 0 1 b.1 b.2 (by decide) (by decide)
    have hnp : sk T e p < (nmv T e 4 (sk T e p) 0).1 := by
      rw [nmv_y (n := 3) c0.2]
      have hl := bte_lt (T := T) (e := e) b.1 (by have := c0.2.1; omega)
      have := (nmv_rng T e 3 (sk T e p + 1) (10 * 0 + bte T e (sk T e p) - 48) 10 (by omega) (by omega) (by have := c0.2.1; omega) (by have := c0.2.2; omega)).1
      omega
    unfold f_M_number_L49
    refine wq_lp (fun z => z.1 = least ∧ z.2.1 = most ∧ z.2.2.1 = sk T e p ∧ (∃ k : Nat, k ≤ 4 ∧ Sm T e (sk T e p + k) g z.2.2.2.2 ∧ nmv T e (4 - k) (sk T e p + k) z.2.2.2.1 = nmv T e 4 (sk T e p) 0) ∧ Fr smL M z.2.2.2.2) (fun z => (e - z.2.2.2.2 78 2).toNat) ?_ FU _ ?_ ?_
    · rintro kH ⟨v1, v2, v3, v4, N⟩ ⟨q1, q2, q3, ⟨k, q4, q5, q6⟩, q7⟩ hk
      have e1 : v1 = least := q1
      have e2 : v2 = most := q2
      have e3 : v3 = sk T e p := q3
      have e5 : Sm T e (sk T e p + k) g N := q5
      have e6 : nmv T e (4 - k) (sk T e p + k) v4 = nmv T e 4 (sk T e p) 0 := q6
      have e7 : Fr smL M N := q7
      clear q1 q2 q3 q5 q6 q7
      subst e1 e2 e3
      have eb := e5.2.2.2.2.2.1
      have hb := hB.2 (sk T e p + k).toNat
      have hfin : ¬ (48 ≤ bte T e (sk T e p + k) ∧ bte T e (sk T e p + k) ≤ 57) → wq (f_M_number_J129 v1 v2 (sk T e p) v4 N) (fun q => ((∃ p1 v, numR T e v1 v2 p g = .inr (p1, v) ∧ q.1 = v ∧ (v1 ≤ v ∧ v ≤ v2) ∧ sk T e p < p1 ∧ Sm T e p1 p1 q.2) ∨ (∃ k pl, numR T e v1 v2 p g = .inl (k, pl) ∧ (0 ≤ q.1 ∧ q.1 ≤ 9999) ∧ Fm T e k pl q.2)) ∧ Fr smL M q.2) := by
        intro hz
        have hR : nmv T e 4 (sk T e p) 0 = (sk T e p + k, v4) := by
          rw [← e6]
          cases hc : 4 - k with
          | zero => rfl
          | succ j => exact nmv_n hz
        rw [hR] at hnr hnp
        unfold numR
        rw [if_pos c0, hR, if_neg hz]
        unfold f_M_number_J129
        rw [e5.2.2.1]
        refine wq_d ?_
        have n1 := e5.gl hB
        have n2 : Fr smL M (up N 78 4 (sk T e p + k)) := e7.up (by simp [smL])
        generalize up N 78 4 (sk T e p + k) = N2 at *
        rw [i32_id (x := v1) (by omega) (by omega), i32_id (x := v2) (by omega) (by omega), e_in _ (show IR v4 from ⟨by omega, by omega⟩) (by omega) (by omega) (by omega) (by omega), bI_s]
        refine wq_c1 (fun d => wq_some ⟨Or.inl ⟨sk T e p + k, v4, ?_, rfl, d, hnp, n1⟩, n2⟩) (fun d => ?_)
        · rw [if_neg (by dsimp only; omega)]
        · refine wq_V (s_mfail n1 (k := 2) (pl := sk T e p) (by decide) (by omega)) (fun M2 ⟨c1, c2⟩ => wq_some ⟨Or.inr ⟨2, sk T e p, ?_, ⟨hnr.2.1, by have := hnr.2.2; omega⟩, c1⟩, n2.tr c2⟩)
          rw [if_pos (by dsimp only; omega)]
      show wq (f_M_number_B49 (fun v1 v2 v3 v4 M => kH (v1, v2, v3, v4, M)) _ _ v1 v2 (sk T e p) v4 N) _
      unfold f_M_number_B49
      rw [e5.1, e5.2.2.1, e5.2.1, i32_id (x := e) (by omega) (by omega), i32_id (x := sk T e p + k) (by omega) (by omega)]
      refine wq_if (fun c => hfin (by rw [bte_out (by omega)]; omega)) (fun c => wq_g (by omega) ?_)
      have ebt : bte T e (sk T e p + k) = T (sk T e p + k).toNat := bte_in (by omega) (by omega)
      rw [← ebt]
      have hr2 := bte_rng hB (sk T e p + k)
      refine wq_I (e_isDigM N (by omega) (by omega)) (fun r7 M6 ⟨f1, f2⟩ => ?_)
      have f2 : M6 = N := f2
      rw [f2]
      rcases f1 with ⟨f1, f3⟩ | ⟨f1, f3⟩
      · have f1 : r7 = 1 := f1
        rw [f1, e5.2.2.1, e5.2.1, i32_id (x := (sk T e p + k) - sk T e p) (by omega) (by omega), i32_id (x := 4) (by omega) (by omega), i32_id (x := sk T e p + k) (by omega) (by omega), ← ebt]
        refine wq_e (by decide) (wq_if (fun d => wq_g (by omega) (wq_d ?_)) (fun d => ?_))
        · have hd : 4 - k = (4 - (k + 1)) + 1 := by omega
          rw [hd, nmv_y ⟨f3.1, f3.2⟩] at e6
          have n8 : Sm T e (sk T e p + k + 1) g (up N 78 2 (sk T e p + k + 1)) := e5.mv (by omega) (by omega)
          refine hk _ ⟨rfl, rfl, rfl, ⟨k + 1, by omega, ?_, ?_⟩, e7.up (by simp [smL])⟩ ?_
          · show Sm T e (sk T e p + ((k + 1 : Nat) : Int)) g (up N 78 2 (sk T e p + k + 1))
            rw [show sk T e p + ((k + 1 : Nat) : Int) = sk T e p + k + 1 by omega]
            exact n8
          · show nmv T e (4 - (k + 1)) (sk T e p + ((k + 1 : Nat) : Int)) (((10 * v4) + bte T e (sk T e p + k)) - 48) = _
            rw [show sk T e p + ((k + 1 : Nat) : Int) = sk T e p + k + 1 by omega]
            exact e6
          · show (e - up N 78 2 (sk T e p + k + 1) 78 2).toNat < (e - N 78 2).toNat
            rw [up_eq, e5.2.2.1]
            omega
        · have hk4 : k = 4 := by omega
          subst hk4
          have e6 : (sk T e p + 4, v4) = nmv T e 4 (sk T e p) 0 := e6
          dsimp only
          rw [e5.2.2.1]
          refine wq_V (s_mfail e5 (k := 1) (pl := sk T e p + 4) (by decide) (by omega)) (fun M2 ⟨c1, c2⟩ => wq_some ⟨Or.inr ⟨1, sk T e p + 4, ?_, ⟨Int.le_refl _, by show (0 : Int) ≤ 9999; decide⟩, c1⟩, e7.tr c2⟩)
          unfold numR
          rw [if_pos c0, ← e6, if_pos ⟨f3.1, f3.2⟩]
      · have f1 : r7 = 0 := f1
        rw [f1]
        exact wq_t (by decide) (hfin (fun z => f3 ⟨z.1, z.2⟩))
    · exact ⟨rfl, rfl, rfl, ⟨0, by omega, by show Sm T e (sk T e p + ((0 : Nat) : Int)) g M1; rw [show sk T e p + ((0 : Nat) : Int) = sk T e p by omega]; exact a1, by show nmv T e 4 (sk T e p + ((0 : Nat) : Int)) 0 = _; rw [show sk T e p + ((0 : Nat) : Int) = sk T e p by omega]⟩, F1⟩
    · show (e - M1 78 2).toNat < 1000000000
      rw [a1.2.2.1]
      omega
  · have b1 : r4 = 0 := b1
    rw [b1]
    exact wq_t (by decide) (hno (fun z => b3 ⟨z.2.1, z.2.2⟩))
/-- an own word at a place, by its letters -/
theorem hwB_lts {T : Nat → Int} {e q : Int} (hq : 0 ≤ q) (hqe : q ≤ e) : ∀ (l L : List Int) (n : Nat), L.length = l.length → (∀ i : Nat, i < l.length → L.getD i 0 = l.getD i 0 + 96) → (∀ x ∈ l, 1 ≤ x ∧ x ≤ 26) → l.length < n → ∀ k : Nat, ((∀ i : Nat, i < L.length → bte T e (q + k + i) = L.getD i 0) ∧ ¬ isLet (bte T e (q + k + L.length)) ↔ lts T e n (q + k) = l)
  | [], L, n, h1, _, _, hn, k => by
    have hL : L.length = 0 := h1
    obtain ⟨m, rfl⟩ : ∃ m, n = m + 1 := ⟨n - 1, by simp at hn; omega⟩
    rw [hL, show q + (k : Int) + ((0 : Nat) : Int) = q + k by omega]
    constructor
    · intro z
      exact lts_n (fun y => z.2 ⟨y.1, y.2⟩)
    · intro z
      refine ⟨fun i hi => absurd hi (Nat.not_lt_zero i), fun y => ?_⟩
      rw [lts_y ⟨y.1, y.2⟩] at z
      cases z
  | a :: l, [], n, h1, _, _, _, _ => by simp at h1
  | a :: l, c :: L, n, h1, h2, h3, hn, k => by
    obtain ⟨m, rfl⟩ : ∃ m, n = m + 1 := ⟨n - 1, by simp at hn; omega⟩
    have hl : L.length = l.length := by simpa using h1
    have hc : c = a + 96 := h2 0 (by simp)
    have ha := h3 a List.mem_cons_self
    have ih := hwB_lts (T := T) hq hqe l L m hl (fun i hi => h2 (i + 1) (by simp; omega)) (fun x hx => h3 x (List.mem_cons_of_mem _ hx)) (by simp at hn; omega) (k + 1)
    have e1 : q + ((k + 1 : Nat) : Int) = q + k + 1 := by omega
    rw [e1] at ih
    constructor
    · rintro ⟨z1, z2⟩
      have y0 := z1 0 (by simp)
      rw [show q + (k : Int) + ((0 : Nat) : Int) = q + k by omega] at y0
      have y0 : bte T e (q + k) = c := y0
      rw [lts_y (by omega)]
      have := ih.mp ⟨fun i hi => by
        have := z1 (i + 1) (by simp; omega)
        rw [show q + (k : Int) + ((i + 1 : Nat) : Int) = q + k + 1 + i by omega] at this
        exact this, by
        rw [show q + (k : Int) + (((c :: L).length : Nat) : Int) = q + k + 1 + (L.length : Int) by simp only [List.length_cons]; omega] at z2
        exact z2⟩
      rw [this, show bte T e (q + k) - 96 = a by omega]
    · intro z
      by_cases y : 97 ≤ bte T e (q + k) ∧ bte T e (q + k) ≤ 122
      · rw [lts_y y] at z
        obtain ⟨w1, w2⟩ := List.cons.inj z
        obtain ⟨v1, v2⟩ := ih.mpr w2
        refine ⟨fun i hi => ?_, ?_⟩
        · cases i with
          | zero =>
            rw [show q + (k : Int) + ((0 : Nat) : Int) = q + k by omega]
            show bte T e (q + k) = c
            omega
          | succ i =>
            rw [show q + (k : Int) + ((i + 1 : Nat) : Int) = q + k + 1 + i by omega]
            exact v1 i (by simpa using hi)
        · rw [show q + (k : Int) + (((c :: L).length : Nat) : Int) = q + k + 1 + (L.length : Int) by simp only [List.length_cons]; omega]
          exact v2
      · rw [lts_n y] at z
        cases z
/-- an own word's row and its letters -/
def owd (r : Nat) (l : List Int) : Prop := rwd r (l.map (· + 96)) ∧ ∀ x ∈ l, 1 ≤ x ∧ x ≤ 26
theorem s_isOwnW {T : Nat → Int} {e p g : Int} {M : Mm} {r : Nat} {l : List Int} (hB : Bt T e) (h : Sm T e p g M) (hL : owd r l) (hq : sk T e p ≠ g) : wq (f_M_isHere r M) (fun q => tf q.1 (lts T e 7 (sk T e p) = l) ∧ Sm T e (sk T e p) g q.2 ∧ Fr [(78, 2)] M q.2) := by
  have hp0 := h.2.2.2.2.2.1
  have hs := sk_rng T hp0.1 hp0.2
  have hlen := hL.1.2.1
  rw [List.length_map] at hlen
  have key := hwB_lts (T := T) (e := e) (q := sk T e p) (by omega) hs.2 l (l.map (· + 96)) 7 (List.length_map _) (fun i hi => by
    rw [List.getD_eq_getElem?_getD, List.getD_eq_getElem?_getD, List.getElem?_map, List.getElem?_eq_getElem hi]
    rfl) hL.2 (by omega) 0
  rw [show sk T e p + ((0 : Nat) : Int) = sk T e p by omega] at key
  refine wq_m (s_isHere hB h hL.1) (fun q ⟨a1, a2, a3⟩ => ⟨tf_iff a1 ?_, a2, a3⟩)
  unfold hw hwB
  rw [key]
  exact ⟨fun z => z.2, fun z => ⟨hq, z⟩⟩
