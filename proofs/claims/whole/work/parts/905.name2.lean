/-- a name: its fault, or its letters -/
def namR (T : Nat → Int) (e p g : Int) : (Int × Int) ⊕ List Int :=
  if sk T e p ≠ g ∧ 97 ≤ bte T e (sk T e p) ∧ bte T e (sk T e p) ≤ 122 then
    (if (lts T e 7 (sk T e p)).length = 7 then .inl (1, sk T e p + 6) else if lts T e 7 (sk T e p) ∈ ownW then .inl (1, sk T e p) else .inr (lts T e 7 (sk T e p)))
  else .inl (1, sk T e p)
def nmQ (T : Nat → Int) (e p g : Int) (q : Int × Mm) : Prop := (∃ l, namR T e p g = .inr l ∧ q.1 = pk5 l ∧ ltrs l ∧ Sc T e (sk T e p + l.length) (sk T e p + l.length) q.2 ∧ q.2 1 4 = sk T e p) ∨ (∃ k pl, namR T e p g = .inl (k, pl) ∧ q.1 = -1 ∧ Fb T e k pl q.2)
theorem s_name {T : Nat → Int} {e p g : Int} {M : Mm} (hB : Bt T e) (h : Sc T e p g M) : wq (f_Scan_name M) (fun q => nmQ T e p g q ∧ Fr scL M q.2) := by
  have hh := hB.1
  have hp0 := h.2.2.2.2.2.1
  unfold f_Scan_name
  refine wq_V (s_skip hB h) (fun M1 ⟨a1, a2⟩ => wq_d ?_)
  have b := a1.2.2.2.2.2.1
  have bg := a1.2.2.2.2.2.2.1
  have n1 : Sc T e (sk T e p) g (up M1 1 4 (sk T e p)) := by
    obtain ⟨z1, z2, z3, z4, z5, z6, z7⟩ := a1
    exact ⟨by rw [up_col (by decide)]; exact z1, by rw [up_row (by decide)]; exact z2, by rw [up_col (by decide)]; exact z3, by rw [up_col (by decide)]; exact z4, by rw [up_col (by decide)]; exact z5, z6, z7⟩
  have n2 : (up M1 1 4 (sk T e p)) 1 4 = sk T e p := up_eq _ _ _ _
  have F1 : Fr scL M (up M1 1 4 (sk T e p)) := (a2.cov rfl : Fr scL M M1).up (by simp [scL])
  rw [a1.2.2.1]
  generalize up M1 1 4 (sk T e p) = M2 at *
  have hr := bte_rng hB (sk T e p)
  have hno : ¬ (sk T e p ≠ g ∧ 97 ≤ bte T e (sk T e p) ∧ bte T e (sk T e p) ≤ 122) → wq (bI (f_Scan_unexpected M2) (fun r4 M3 => some ((-1), M3))) (fun q => nmQ T e p g q ∧ Fr scL M q.2) := by
    intro hz
    refine wq_I (s_unex hB n1) (fun r2 M3 ⟨c1, c2, c3⟩ => ?_)
    have c2 : Fb T e 1 (sk T e (sk T e p)) M3 := c2
    rw [sk_sk T hp0.1] at c2
    refine wq_some ⟨Or.inr ⟨1, sk T e p, ?_, rfl, c2⟩, F1.tr c3⟩
    unfold namR
    rw [if_neg hz]
  rw [n1.2.2.1, n1.2.2.2.1, i32_id (x := sk T e p) (by omega) (by omega), i32_id (x := g) (by omega) (by omega)]
  refine wq_if (fun c => hno (fun z => z.1 c)) (fun c => ?_)
  rw [e_bt hB n1 (by omega) (by omega), bI_s]
  refine wq_I (e_isLetC M2 (by omega) (by omega)) (fun r M3 ⟨b1, b2⟩ => ?_)
  have b2 : M3 = M2 := b2
  rw [b2]
  rcases b1 with ⟨b1, b3⟩ | ⟨b1, b3⟩
  · have b1 : r = 1 := b1
    rw [b1]
    refine wq_t (by decide) ?_
    have c0 : sk T e p ≠ g ∧ 97 ≤ bte T e (sk T e p) ∧ bte T e (sk T e p) ≤ 122 := ⟨c, b3.1, b3.2⟩
    have hl7 := lts_len T e 7 (sk T e p) b.1 b.2
    have hfin : ∀ (l : List Int) (N : Mm), Sc T e (sk T e p + l.length) g N → N 1 4 = sk T e p → Fr scL M N → l.length ≤ 6 → (∀ x ∈ l, 1 ≤ x ∧ x ≤ 26) → (isLet (bte T e (sk T e p + l.length)) → l.length = 6 ∧ (lts T e 7 (sk T e p)).length = 7) → (¬ isLet (bte T e (sk T e p + l.length)) → lts T e 7 (sk T e p) = l) → wq (f_Scan_name_J104 (pk5 l) N) (fun q => nmQ T e p g q ∧ Fr scL M q.2) := by
      intro l N m1 m2 m3 m4 m5 m6 m7
      have mb := m1.2.2.2.2.2.1
      unfold f_Scan_name_J104
      refine wq_d ?_
      rw [m1.2.2.1]
      have k1 : Sc T e (sk T e p + l.length) (sk T e p + l.length) (up N 1 3 (sk T e p + l.length)) := by
        obtain ⟨z1, z2, z3, z4, z5, z6, z7⟩ := m1
        exact ⟨by rw [up_col (by decide)]; exact z1, by rw [up_row (by decide)]; exact z2, by rw [up_col (by decide)]; exact z3, up_eq _ _ _ _, by rw [up_col (by decide)]; exact z5, z6, ⟨by omega, by omega⟩, by rw [up_col (by decide)]; exact z7.2⟩
      have k2 : (up N 1 3 (sk T e p + l.length)) 1 4 = sk T e p := by rw [up_col (by decide)]; exact m2
      have k3 : Fr scL M (up N 1 3 (sk T e p + l.length)) := m3.up (by simp [scL])
      generalize up N 1 3 (sk T e p + l.length) = N2 at *
      have hr2 := bte_rng hB (sk T e p + l.length)
      rw [k1.2.2.1, e_bt hB k1 (by omega) (by omega), bI_s]
      refine wq_I (e_isLetC N2 (by omega) (by omega)) (fun r2 M4 ⟨d1, d2⟩ => ?_)
      have d2 : M4 = N2 := d2
      rw [d2]
      rcases d1 with ⟨d1, d3⟩ | ⟨d1, d3⟩
      · have d1 : r2 = 1 := d1
        obtain ⟨g1, g2⟩ := m6 d3
        rw [d1, k1.2.2.1]
        refine wq_e (by decide) (wq_I (s_fail k1 (k := 1) (pl := sk T e p + l.length) (by decide) (by omega)) (fun r3 M5 ⟨f1, f2, f3⟩ => wq_some ⟨Or.inr ⟨1, sk T e p + l.length, ?_, rfl, f2⟩, k3.tr f3⟩))
        unfold namR
        rw [if_pos c0, if_pos g2, g1]
        rfl
      · have d1 : r2 = 0 := d1
        have g1 := m7 d3
        rw [d1]
        refine wq_t (by decide) (wq_I (s_isOwn m5 m4) (fun r3 M5 ⟨f1, f2⟩ => ?_))
        have f2 : M5 = N2 := f2
        rw [f2]
        rcases f1 with ⟨f1, f3⟩ | ⟨f1, f3⟩
        · have f1 : r3 = 1 := f1
          rw [f1, k2]
          refine wq_e (by decide) (wq_I (s_fail k1 (k := 1) (pl := sk T e p) (by decide) (by omega)) (fun r4 M6 ⟨u1, u2, u3⟩ => wq_some ⟨Or.inr ⟨1, sk T e p, ?_, rfl, u2⟩, k3.tr u3⟩))
          unfold namR
          rw [if_pos c0, g1, if_neg (by omega), if_pos f3]
        · have f1 : r3 = 0 := f1
          rw [f1]
          refine wq_t (by decide) (wq_some ⟨Or.inl ⟨l, ?_, rfl, ⟨⟨?_, m4⟩, m5⟩, k1, k2⟩, k3⟩)
          · unfold namR
            rw [if_pos c0, g1, if_neg (by omega), if_neg f3]
          · rw [← g1, lts_y (n := 6) c0.2]
            simp
    unfold f_Scan_name_L48
    refine wq_lp (fun z => (0 ≤ z.2.1 ∧ z.2.1 ≤ 6) ∧ (∃ l, l.length = z.2.1.toNat ∧ z.1 = pk5 l ∧ (∀ x ∈ l, 1 ≤ x ∧ x ≤ 26) ∧ lts T e 7 (sk T e p) = l ++ lts T e (7 - z.2.1.toNat) (sk T e p + z.2.1)) ∧ Sc T e (sk T e p + z.2.1) g z.2.2 ∧ z.2.2 1 4 = sk T e p ∧ Fr scL M z.2.2) (fun z => (6 - z.2.1).toNat) ?_ FU _ ?_ ?_
    · rintro kH ⟨v1, v2, N⟩ ⟨q1, ⟨l, q2, q3, q4, q5⟩, q6, q7, q8⟩ hk
      have e1 : 0 ≤ v2 ∧ v2 ≤ 6 := q1
      have e2 : l.length = v2.toNat := q2
      have e3 : v1 = pk5 l := q3
      have e5 : lts T e 7 (sk T e p) = l ++ lts T e (7 - v2.toNat) (sk T e p + v2) := q5
      have e6 : Sc T e (sk T e p + v2) g N := q6
      have e7 : N 1 4 = sk T e p := q7
      have e8 : Fr scL M N := q8
      clear q1 q2 q3 q5 q6 q7 q8
      have ev : sk T e p + v2 = sk T e p + l.length := by omega
      have eb := e6.2.2.2.2.2.1
      have hr3 := bte_rng hB (sk T e p + v2)
      have e9 : 7 - v2.toNat = (6 - v2.toNat) + 1 := by omega
      show wq (f_Scan_name_B48 (fun v1 v2 M => kH (v1, v2, M)) _ v1 v2 N) _
      unfold f_Scan_name_B48
      rw [i32_id (x := 6) (by omega) (by omega), i32_id (x := v2) (by omega) (by omega)]
      refine wq_if (fun c => ?_) (fun c => ?_)
      · dsimp only
        rw [e3]
        refine hfin l N (by rw [← ev]; exact e6) e7 e8 (by omega) q4 (fun z => ⟨by omega, ?_⟩) (fun z => ?_)
        · rw [e5, e9, lts_y (by rw [ev]; exact z)]
          simp only [List.length_append, List.length_cons]
          have := (lts_len T e (6 - v2.toNat) (sk T e p + v2 + 1) (by omega) (by have := bte_lt (T := T) (e := e) eb.1 (by rw [ev]; have := z.1; omega); omega)).1
          omega
        · rw [e5, e9, lts_n (by rw [ev]; exact z), List.append_nil]
      · rw [e6.2.2.1, e_bt hB e6 (by omega) (by omega), bI_s]
        refine wq_I (e_isLetC N (by omega) (by omega)) (fun r2 M4 ⟨d1, d2⟩ => ?_)
        have d2 : M4 = N := d2
        rw [d2]
        rcases d1 with ⟨d1, d3⟩ | ⟨d1, d3⟩
        · have d1 : r2 = 1 := d1
          have hl := bte_lt (T := T) (e := e) eb.1 (by have := d3.1; omega)
          have n8 : Sc T e (sk T e p + v2 + 1) g (up N 1 2 (sk T e p + v2 + 1)) := e6.mv (by omega) (by omega)
          rw [e9, lts_y ⟨d3.1, d3.2⟩] at e5
          have hd1 := d3.1
          have hd2 := d3.2
          have hc2 : v2 = ((v2.toNat : Nat) : Int) := by omega
          rw [d1, e6.2.2.1, e_bt hB e6 (by omega) (by omega), bI_s, e6.2.2.1]
          refine wq_e (by decide) (wq_d (hk _ ⟨⟨show 0 ≤ v2 + 1 by omega, show v2 + 1 ≤ 6 by omega⟩, ⟨l ++ [bte T e (sk T e p + v2) - 96], ?_, ?_, ?_, ?_⟩, ?_, ?_, e8.up (by simp [scL])⟩ (show (6 - (v2 + 1)).toNat < (6 - v2).toNat by omega)))
          · show (l ++ [bte T e (sk T e p + v2) - 96]).length = (v2 + 1).toNat
            simp only [List.length_append, List.length_cons, List.length_nil]
            omega
          · show or32 v1 (shl32 ((bte T e (sk T e p + v2) - 97) + 1) (5 * v2)) = pk5 (l ++ [bte T e (sk T e p + v2) - 96])
            rw [e3, show (bte T e (sk T e p + v2) - 97) + 1 = bte T e (sk T e p + v2) - 96 by omega]
            have := pk5_or (l := l) (c := bte T e (sk T e p + v2) - 96) (k := v2.toNat) q4 e2 (by omega) (by omega) (by omega)
            rw [← hc2] at this
            exact this
          · intro x hx
            rcases List.mem_append.mp hx with z | z
            · exact q4 x z
            · rw [List.mem_singleton.mp z]; omega
          · show lts T e 7 (sk T e p) = (l ++ [bte T e (sk T e p + v2) - 96]) ++ lts T e (7 - (v2 + 1).toNat) (sk T e p + (v2 + 1))
            rw [e5, List.append_assoc, show 7 - (v2 + 1).toNat = 6 - v2.toNat by omega, show sk T e p + (v2 + 1) = sk T e p + v2 + 1 by omega]
            rfl
          · show Sc T e (sk T e p + (v2 + 1)) g _
            rw [show sk T e p + (v2 + 1) = sk T e p + v2 + 1 by omega]
            exact n8
          · show up N 1 2 (sk T e p + v2 + 1) 1 4 = sk T e p
            rw [up_col (by decide)]; exact e7
        · have d1 : r2 = 0 := d1
          rw [d1]
          dsimp only
          rw [e3]
          refine wq_t (by decide) (hfin l N (by rw [← ev]; exact e6) e7 e8 (by omega) q4 (fun z => absurd z (by rw [← ev]; exact d3)) (fun _ => ?_))
          rw [e5, e9, lts_n (fun z => d3 ⟨z.1, z.2⟩), List.append_nil]
    · exact ⟨⟨Int.le_refl _, by show (0 : Int) ≤ 6; decide⟩, ⟨[], rfl, rfl, (fun x hx => by cases hx), by show lts T e 7 (sk T e p) = [] ++ lts T e 7 (sk T e p + 0); rw [Int.add_zero]; rfl⟩, by show Sc T e (sk T e p + 0) g M2; rw [Int.add_zero]; exact n1, n2, F1⟩
    · show (6 - (0 : Int)).toNat < 1000000000
      decide
  · have b1 : r = 0 := b1
    rw [b1]
    exact wq_e (fun z => z (by decide)) (hno (fun z => b3 ⟨z.2.1, z.2.2⟩))
