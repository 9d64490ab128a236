/-- a fault in a test -/
def Bde (T : Nat → Int) (e : Int) (R : Out) (M : Mm) : Prop := ∃ k pl, R = .inl (k, pl) ∧ Fm T e k pl M
theorem qcB {T : Nat → Int} {e k pl v : Int} {M : Mm} (h : Fm T e k pl M) (h0 : 0 ≤ M 78 89) (h1 : M 78 89 ≤ 1600) : wq (f_M_qCode v M) (fun M' => Fm T e k pl M' ∧ Fr xqL M M') := by
  unfold f_M_qCode
  rw [i32_id (x := M 78 89) (by omega) (by omega)]
  refine wq_g ⟨by omega, by omega⟩ (wq_d (wq_d (wq_some ?_)))
  rw [up_row (show ¬ (78 : Nat) = 142 by decide)]
  have hF : Fr [(78, 89), (142, 99999)] M (up (up M 142 (M 78 89).toNat v) 78 89 (M 78 89 + 1)) := (Fr.rf.up (by simp)).up (by simp)
  exact ⟨h.fr hF rfl, hF.cov rfl⟩
theorem hd_fi {W : List Int} (h : ∀ v ∈ W, 10 ≤ v ∧ v ≤ 25) : opQ (W.headD (-1)) = false := by
  cases W with
  | nil => rfl
  | cons v W =>
    have := h v List.mem_cons_self
    exact decide_eq_false (by show ¬ (1 ≤ v ∧ v ≤ 4); omega)
section QF
variable {U T : Nat → Int} {e p g o : Int} {W C : List Int} {M : Mm} {R : Out}
theorem s_fact63 {c : Int} (hB : Bt T e) (h : Xq U T e p g o W [] C M) (hw : ∀ v ∈ W, 10 ≤ v ∧ v ≤ 25) (ho : 0 ≤ o ∧ o ≤ 6) (hp : p < e) (hlen : C.length + W.length + 1 ≤ (p + 1).toNat) (hc : c = 60 ∨ c = 62 ∨ c = 61) {R2 : Out} (hd : dD true T e 1601 true (p + 1) g o [] C = some R2) : wq (f_M_qFact_J63 c M) (fun M' => ((∃ f, R2 = .inl f ∧ Fm T e f.1 f.2 M') ∨ ∃ p' g' C', R2 = .inr (p', g', C') ∧ Xq U T e p' g' o W [] (C' ++ [cmpc c]) M') ∧ Fr xqA M M') := by
  have hh := hB.1
  have b := h.1.2.2.2.2.2.1
  unfold f_M_qFact_J63
  rw [h.1.2.2.1]
  refine wq_d ?_
  have hF : Fr [(78, 2)] M (up M 78 2 (p + 1)) := Fr.rf.up (by simp)
  have h1 : Xq U T e (p + 1) g o W [] C (up M 78 2 (p + 1)) := h.sm (h.1.mv (by omega) (by omega)) (hF.cov rfl)
  refine wq_V (xq_sums hB h1 hd ho hlen (hd_fi hw)) (fun M7 ⟨z, f⟩ => ?_)
  have f7 : Fr xqA M M7 := (hF.cov rfl : Fr xqA _ _).tr f
  have hcode : wq (f_M_qCode (cmpc c) M7) (fun M' => ((∃ f, R2 = .inl f ∧ Fm T e f.1 f.2 M') ∨ ∃ p' g' C', R2 = .inr (p', g', C') ∧ Xq U T e p' g' o W [] (C' ++ [cmpc c]) M') ∧ Fr xqA M M') := by
    rcases z with ⟨k, pl, z1, z2, z3⟩ | ⟨p', g', C', z1, z2⟩
    · exact wq_m (qcB z2 z3.2.1 z3.2.2) (fun M' ⟨y1, y2⟩ => ⟨Or.inl ⟨(k, pl), z1, y1⟩, f7.tr (y2.cov rfl)⟩)
    · rw [z1] at hd
      have w := (dD_iv (b := 0 + 1) hB _ _ _ _ _ _ _ _ _ _ hd (by omega) (by omega) h.1.2.2.2.2.2.2.1 (Onx_iv (e := e) ho.2 (by omega)))
      exact wq_m (xq_code (v := cmpc c) z2 (by omega)) (fun M' ⟨y1, y2⟩ => ⟨Or.inr ⟨p', g', C', z1, y1⟩, f7.tr (y2.cov rfl)⟩)
  rcases hc with z | z | z
  · rw [z] at hcode ⊢
    exact wq_e (by decide) (wq_V hcode (fun M8 y => wq_some y))
  · rw [z] at hcode ⊢
    exact wq_t (by decide) (wq_e (by decide) (wq_V hcode (fun M8 y => wq_some y)))
  · rw [z] at hcode ⊢
    exact wq_t (by decide) (wq_t (by decide) (wq_V hcode (fun M8 y => wq_some y)))
theorem s_fact (hB : Bt T e) (h : Xq U T e p g o W [] C M) (hsp : sk T e p = p) (hw : ∀ v ∈ W, 10 ≤ v ∧ v ≤ 25) (ho : 0 ≤ o ∧ o ≤ 6) (hlen : C.length + W.length + 1 ≤ p.toNat) (hd : fcR T e p g o C = some R) : wq (f_M_qFact M) (fun M' => (Bde T e R M' ∨ ∃ p' g' C', R = .inr (p', g', C') ∧ Xq U T e p' g' o W [] C' M') ∧ Fr xqA M M') := by
  have hh := hB.1
  have b := h.1.2.2.2.2.2.1
  have hgr := h.1.2.2.2.2.2.2.1
  unfold fcR at hd
  rw [hsp] at hd
  unfold f_M_qFact
  refine wq_I (s_takes hB h.1 rw_133) (fun r M1 ⟨c1, c2⟩ => ?_)
  rw [hsp] at c1
  have f1 : Fr xqA M M1 := c2.cov rfl
  rcases c1 with ⟨d1, d2, d3⟩ | ⟨d1, d2, d3⟩
  · have d1 : r = 1 := d1
    rw [d1]
    rw [if_pos (hwq_iff.mpr d2)] at hd
    refine wq_e (by decide) (wq_V (xq_code (v := 13) (h.sm d3 c2) (by omega)) (fun M2 ⟨y1, y2⟩ => wq_some ⟨Or.inr ⟨_, _, _, (Option.some.inj hd).symm, y1⟩, f1.tr (y2.cov rfl)⟩))
  have d1 : r = 0 := d1
  rw [d1]
  rw [if_neg (fun z => d2 (hwq_iff.mp z))] at hd
  have h1 : Xq U T e p g o W [] C M1 := h.sm d3 c2
  have hl0 : C.length + (W.length + 1) ≤ p.toNat := by omega
  obtain ⟨R1, r1, r2⟩ := sum_ok (g := g) hB ho (W.length + 1) 0 (by decide) b.1 b.2 hgr hl0
  rw [r1] at hd
  refine wq_t (by decide) (wq_V (xq_sums hB h1 r1 ho hlen (hd_fi hw)) (fun M3 ⟨z, f⟩ => ?_))
  have f3 : Fr xqA M M3 := f1.tr f
  rcases z with ⟨k, pl, z1, z2, z3⟩ | ⟨p', g', C', z1, z2⟩
  · rw [z1] at hd
    have hd : some (Sum.inl (k, pl)) = some R := hd
    have hk := z2.2.2.2.2.1
    rw [z2.2.2.1, i32_id (x := k) (by omega) (by omega)]
    exact wq_e (by omega) (wq_some ⟨Or.inl ⟨k, pl, (Option.some.inj hd).symm, z2⟩, f3⟩)
  · rw [z1] at hd r1 r2
    have hd : (if bte T e (sk T e p') = 60 ∨ bte T e (sk T e p') = 62 ∨ bte T e (sk T e p') = 61 then (match dD true T e 1601 true (sk T e p' + 1) g' o [] C' with | none => none | some (.inl f) => some (.inl f) | some (.inr (p2, g2, C2)) => some (.inr (p2, g2, C2 ++ [cmpc (bte T e (sk T e p'))]))) else some (.inl (1, sk T e p'))) = some R := hd
    obtain ⟨w1, w2, w3, w4, w5⟩ := dD_iv (b := W.length + 1) hB _ _ _ _ _ _ _ _ _ _ r1 b.1 b.2 hgr (Onx_iv (e := e) ho.2 (by omega))
    rw [w5] at hd
    rw [z2.1.2.2.2.2.1]
    have hbr := bte_rng hB p'
    refine wq_t rfl (wq_I (s_look hB z2.1) (fun r M4 ⟨y1, y2, y3⟩ => ?_))
    rw [w5] at y1 y2
    have y1 : r = bte T e p' := y1
    have h4 : Xq U T e p' g' o W [] C' M4 := z2.sm y2 (y3.cov rfl)
    have f4 : Fr xqA M M4 := f3.tr (y3.cov rfl)
    rw [y1, i32_id (x := bte T e p') (by omega) (by omega), i32_id (x := 60) (by decide) (by decide), i32_id (x := 62) (by decide) (by decide), i32_id (x := 61) (by decide) (by decide)]
    have hgo : (bte T e p' = 60 ∨ bte T e p' = 62 ∨ bte T e p' = 61) → wq (f_M_qFact_J63 (bte T e p') M4) (fun M' => (Bde T e R M' ∨ ∃ p' g' C', R = .inr (p', g', C') ∧ Xq U T e p' g' o W [] C' M') ∧ Fr xqA M M') := by
      intro hc
      have hl := bte_lt (T := T) (e := e) (k := p') (by omega) (by omega)
      rw [if_pos hc] at hd
      have hl2 : C'.length + (W.length + 1) ≤ (p' + 1).toNat := by omega
      obtain ⟨R2, q1, q2⟩ := sum_ok (g := g') (p := p' + 1) hB ho (W.length + 1) 0 (by decide) (by omega) (by omega) w4 hl2
      rw [q1] at hd
      refine wq_m (s_fact63 hB h4 hw ho hl (by omega) hc q1) (fun M' ⟨x1, x2⟩ => ⟨?_, f4.tr x2⟩)
      rcases x1 with ⟨f, x3, x4⟩ | ⟨p2, g2, C2, x3, x4⟩
      · rw [x3] at hd
        exact Or.inl ⟨f.1, f.2, (Option.some.inj hd).symm, x4⟩
      · rw [x3] at hd
        exact Or.inr ⟨p2, g2, _, (Option.some.inj hd).symm, x4⟩
    refine wq_if (fun c => hgo (Or.inl c)) (fun c => wq_if (fun c2 => hgo (Or.inr (Or.inl c2))) (fun c2 => wq_if (fun c3 => hgo (Or.inr (Or.inr c3))) (fun c3 => ?_)))
    rw [if_neg (fun z => z.elim c (fun z => z.elim c2 c3))] at hd
    rw [h4.1.2.2.1]
    exact wq_V (s_mfail h4.1 (by decide) (by omega)) (fun M5 ⟨x1, x2⟩ => wq_some ⟨Or.inl ⟨1, p', (Option.some.inj hd).symm, x1⟩, f4.tr (x2.cov rfl)⟩)
theorem s_nots (h : Xq U T e p g o W [] C M) (hW : C.length + W.length ≤ 1600) : wq (f_M_qDropsNots M) (fun M' => Xq U T e p g (o - (W.takeWhile ntQ).length) (W.dropWhile ntQ) [] (C ++ W.takeWhile ntQ) M' ∧ Fr xqL M M') := by
  unfold f_M_qDropsNots f_M_qDropsNots_L0
  refine wq_lp (fun N => ∃ (W1 C1 : List Int) (o1 : Int), Xq U T e p g o1 W1 [] C1 N ∧ o1 - (W1.takeWhile ntQ).length = o - (W.takeWhile ntQ).length ∧ W1.dropWhile ntQ = W.dropWhile ntQ ∧ C1 ++ W1.takeWhile ntQ = C ++ W.takeWhile ntQ ∧ C1.length + W1.length ≤ C.length + W.length ∧ Fr xqL M N) (fun N => (N 78 91).toNat) ?_ FU _ ⟨W, C, o, h, rfl, rfl, rfl, Nat.le_refl _, Fr.rf⟩ ?_
  · rintro kH N ⟨W1, C1, o1, q1, q0, q2, q3, q4, q5⟩ hk
    unfold f_M_qDropsNots_B0
    rw [q1.1.2.2.2.2.1]
    refine wq_e (fun z => z rfl) (wq_I (xq_isOn q1 (by simp only [List.length_nil]; omega) (by decide)) (fun r M2 ⟨c1, c2⟩ => ?_))
    have c2 : M2 = N := c2
    subst c2
    rw [List.append_nil] at c1
    rcases c1 with ⟨d1, d2⟩ | ⟨d1, d2⟩
    · have d1 : r = 1 := d1
      rw [d1]
      cases W1 with
      | nil => exact absurd d2 (by decide)
      | cons v W1 =>
        have d2 : v = 12 := d2
        have hq : ntQ v = true := ntQ_iff.mpr d2
        rw [(tw_y hq).1] at q0 q3
        rw [(tw_y hq).2] at q2
        rw [List.length_cons] at q4 q0
        obtain ⟨a1, a2, a3, a4, a5, a6, a7, a8, a9⟩ := q1
        have hF : Fr [(78, 92)] M2 (up M2 78 92 (o1 - 1)) := Fr.rf.up (by simp)
        rw [a4]
        refine wq_e (by decide) (wq_d (wq_V (xq_drops (U := U) (T := T) (e := e) (p := p) (g := g) (o := o1 - 1) (v := v) (W := W1) (W0 := []) (C := C1) ⟨a1.fr hF rfl, by rw [hF.at 78 91 rfl]; exact a2, by rw [hF.row 143 rfl]; exact a3, up_eq _ _ _ _, by rw [hF.at 78 93 rfl]; exact a5, by rw [hF.at 78 89 rfl]; exact a6, by rw [hF.row 142 rfl]; exact a7, by rw [hF.row 142 rfl]; exact a8, a9⟩ (by omega) (by simp only [List.length_nil]; omega)) (fun M3 ⟨b1, b2⟩ => hk _ ⟨W1, C1 ++ [v], o1 - 1, b1, by omega, q2, by rw [← q3, List.append_assoc]; rfl, by rw [List.length_append, List.length_singleton]; omega, q5.tr ((hF.cov rfl : Fr xqL _ _).tr b2)⟩ ?_)))
        rw [b1.2.1, a2, List.append_nil, List.append_nil, List.length_cons]
        omega
    · have d1 : r = 0 := d1
      rw [d1]
      refine wq_t (by decide) (wq_some ⟨?_, q5⟩)
      have hno : W1.takeWhile ntQ = [] ∧ W1.dropWhile ntQ = W1 := by
        cases W1 with
        | nil => exact ⟨rfl, rfl⟩
        | cons v W1 =>
          have d2 : ¬ v = 12 := d2
          refine tw_n ?_
          cases c : ntQ v with
          | false => rfl
          | true => exact absurd (ntQ_iff.mp c) d2
      rw [← q2, ← q3, ← q0, hno.1, hno.2, List.append_nil, show o1 - ((([] : List Int).length : Nat) : Int) = o1 by show o1 - ((0 : Nat) : Int) = o1; omega]
      exact q1
  · rw [h.2.1, List.append_nil]
    show _ < 1000000000
    omega
theorem e_nots_f {k pl : Int} (h : Fm T e k pl M) : f_M_qDropsNots M = some M := by
  have hk := h.2.2.2.2.1
  unfold f_M_qDropsNots f_M_qDropsNots_L0 FU
  show f_M_qDropsNots_B0 _ M = some M
  unfold f_M_qDropsNots_B0
  rw [h.2.2.1, i32_id (x := k) (by omega) (by omega), if_pos (by omega)]
theorem stk_mem {r : Nat → Int} {x : Int} : ∀ {W : List Int}, stk r W → (x ∈ W ↔ ∃ i : Nat, i < W.length ∧ r i = x)
  | [], _ => ⟨(fun h => by cases h), fun ⟨i, h, _⟩ => absurd h (Nat.not_lt_zero _)⟩
  | a :: W, h => by
    have ih := stk_mem (x := x) h.2
    rw [List.mem_cons, List.length_cons]
    constructor
    · rintro (z | z)
      · exact ⟨W.length, by omega, by rw [z]; exact h.1⟩
      · obtain ⟨i, h1, h2⟩ := ih.mp z
        exact ⟨i, by omega, h2⟩
    · rintro ⟨i, h1, h2⟩
      by_cases c : i = W.length
      · rw [c, h.1] at h2
        exact Or.inl h2.symm
      · exact Or.inr (ih.mpr ⟨i, by omega, h2⟩)
theorem s_square (h : Xq U T e p g o W [] C M) (hW : W.length ≤ 1600) : wq (f_M_qHasSquare M) (fun q => tf q.1 (25 ∈ W) ∧ q.2 = M) := by
  obtain ⟨a1, a2, a3, a4, a5, a6, a7, a8, a9⟩ := h
  rw [List.append_nil] at a2 a3 a9
  unfold f_M_qHasSquare f_M_qHasSquare_L2
  refine wq_lp (fun z => z.2 = M ∧ (0 ≤ z.1 ∧ z.1 ≤ (W.length : Int)) ∧ ∀ i : Nat, (i : Int) < z.1 → M 143 i ≠ 25) (fun z => ((W.length : Int) - z.1).toNat) ?_ FU _ ⟨rfl, ⟨Int.le_refl _, by omega⟩, fun i hi => absurd hi (by show ¬ (i : Int) < 0; omega)⟩ ?_
  · rintro kH ⟨v1, N⟩ ⟨q1, q2, q3⟩ hk
    have q1 : N = M := q1
    have q2 : 0 ≤ v1 ∧ v1 ≤ (W.length : Int) := q2
    have q3 : ∀ i : Nat, (i : Int) < v1 → M 143 i ≠ 25 := q3
    subst q1
    show wq (f_M_qHasSquare_B2 (fun v1 M => kH (v1, M)) v1 N) _
    unfold f_M_qHasSquare_B2
    rw [a2, i32_id (x := (W.length : Int)) (by omega) (by omega), i32_id (x := v1) (by omega) (by omega)]
    refine wq_if (fun c => wq_some ⟨Or.inr ⟨rfl, fun z => ?_⟩, rfl⟩) (fun c => ?_)
    · obtain ⟨i, h1, h2⟩ := (stk_mem a3).mp z
      exact q3 i (by omega) h2
    · have hv : 0 ≤ N 143 v1.toNat ∧ N 143 v1.toNat ≤ 100 := a9 _ ((stk_mem a3).mpr ⟨v1.toNat, by omega, rfl⟩)
      rw [i32_id (x := N 143 v1.toNat) (by omega) (by omega), i32_id (x := 25) (by decide) (by decide)]
      refine wq_g ⟨by omega, by omega⟩ (wq_if (fun d => hk _ ⟨rfl, ⟨show 0 ≤ v1 + 1 by omega, show v1 + 1 ≤ (W.length : Int) by omega⟩, fun i hi => ?_⟩ (show ((W.length : Int) - (v1 + 1)).toNat < ((W.length : Int) - v1).toNat by omega)) (fun d => wq_some ⟨Or.inl ⟨rfl, (stk_mem a3).mpr ⟨v1.toNat, by omega, Decidable.not_not.mp d⟩⟩, rfl⟩))
      have hi : (i : Int) < v1 + 1 := hi
      by_cases f : (i : Int) = v1
      · rw [show i = v1.toNat by omega]; exact d
      · exact q3 i (by omega)
  · show ((W.length : Int) - 0).toNat < 1000000000
    omega
end QF
