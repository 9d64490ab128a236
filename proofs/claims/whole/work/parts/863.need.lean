/-- a way leads there without a street too, where it isn't on it -/
theorem wpB_rch {V : Mm} {R : List (Int × Int × Int)} {b a lim t wo : Int} {arr : Int → Int} (hT : Tw V) (hl : t ≤ lim) (hl2 : lim < 1000000) (hA : isA V R b (-1) lim a t arr) (hlim : ∀ p : Int, 0 ≤ p → p < 9 → arr p = 1000000 ∨ arr p ≤ lim) : ∀ (L : List (Int × Int)) (p : Int), wpB V R b a arr L p a → arr p ≠ 1000000 → (∀ x ∈ L, x.1 ≠ wo) → ∃ n, rch V R b wo lim a t n p (arr p)
  | [], p, h, _, _ => by
    have h : p = a := h
    subst h
    exact ⟨0, rfl, hA.1⟩
  | x :: L, p, h, hn, hw => by
    obtain ⟨h1, h2, h3, h4⟩ := h
    obtain ⟨p1, p2, p3⟩ := stB_in hT h2.1
    have hx := hw x List.mem_cons_self
    obtain ⟨s1, s2, s3, s4, s5⟩ := h2.1
    have hap := hlim p p1.1 p1.2
    have hno : arr (oth V x.1 p) ≠ 1000000 := by
      have := hlim _ p2.1 p2.2
      have ht := (hT.2.2.2.1 x.1 s1.1 s1.2).2.2.2.1
      intro z
      have := Sp_rng hT hl hA.2.2 p1.1 p1.2
      have hq := s3
      rw [z] at hq
      -- arr p is at least NEVER plus a street's hours
      rcases Sp_rng hT hl hA.2.2 p1.1 p1.2 with y | y
      · exact hn y
      · rcases hap with w | w
        · exact hn w
        · rcases Sp_rng hT hl hA.2.2 p2.1 p2.2 with u | u
          · omega
          · omega
    obtain ⟨n, hr⟩ := wpB_rch hT hl hl2 hA hlim L (oth V x.1 p) h4 hno (fun y hy => hw y (List.mem_cons_of_mem _ hy))
    have he : edg V wo x.1 (oth V x.1 p) p := by
      have e0 := oth_edg (p := p) s1.1 s1.2 hx s2
      exact ⟨e0.1, e0.2.1, e0.2.2.1, by rcases e0.2.2.2 with ⟨z1, z2⟩ | ⟨z1, z2⟩; exact Or.inr ⟨z2, z1⟩; exact Or.inl ⟨z2, z1⟩⟩
    refine ⟨n + 1, oth V x.1 p, arr (oth V x.1 p), x.1, arr p - tk V x.1, hr, he, s3, s4, by omega, ?_⟩
    rcases hap with w | w
    · exact absurd w hn
    · exact w
theorem wpB_mem {V : Mm} {R : List (Int × Int × Int)} {b a : Int} {arr : Int → Int} : ∀ (L : List (Int × Int)) (p q : Int), wpB V R b a arr L p q → ∀ x ∈ L, 0 ≤ x.1 ∧ x.1 < nS V
  | [], _, _, _, x, hx => by simp at hx
  | y :: L, p, q, h, x, hx => by
    rcases List.mem_cons.mp hx with rfl | hx
    · exact h.2.1.1.1
    · exact wpB_mem L _ q h.2.2.2 x hx
/-- without a street there is no way -/
def unr (V : Mm) (w s : Int) : Prop := ¬ ∃ n h, rch V [] (br V w) s (sto V w + 400) (pl V w) (sto V w) n (gl V w) h
theorem unr_iff {V : Mm} (hT : Tw V) (hN : Nw V) {w s : Int} (h1 : 0 ≤ w) (h2 : w < nW V) {arr : Int → Int} (hA : isA V [] (br V w) s (sto V w + 400) (pl V w) (sto V w) arr) : arr (gl V w) = 1000000 ↔ unr V w s := by
  have hs := sto_rng hN h1 h2
  have hp := pl_rng hT hN h1 h2
  have hP := hT.1
  constructor
  · rintro e ⟨n, h, hr⟩
    have := isA_le hT (by omega) (by omega) hA n _ _ hr
    have := rch_rng hT (by omega) n _ _ hr
    omega
  · intro hu
    rcases hA.2.2 (gl V w) hp.2.1.1 (by omega) with e | ⟨n, e⟩
    · exact e
    · exact absurd ⟨n, _, e⟩ hu
def neV (V : Mm) (w r : Int) : Prop := (0 ≤ r ∧ r.toNat < 4096) ∧ ∀ s : Nat, r.toNat.testBit s = true ↔ ((s : Int) < nS V ∧ unr V w s)
theorem neV_un {V : Mm} {w r r' : Int} (h : neV V w r) (h' : neV V w r') : r = r' := by
  have : r.toNat = r'.toNat := by
    apply Nat.eq_of_testBit_eq
    intro s
    have := (h.2 s).trans (h'.2 s).symm
    cases h1 : r.toNat.testBit s <;> cases h2 : r'.toNat.testBit s <;> simp_all
  have := h.1.1
  have := h'.1.1
  omega
def neA (V : Mm) (w r : Int) : Prop := ∃ arr, wA V w arr ∧ ((arr (gl V w) = 1000000 ∧ r = -1) ∨ (arr (gl V w) ≠ 1000000 ∧ neV V w r))
theorem neA_un {V : Mm} (hT : Tw V) (hN : Nw V) {w : Int} (h1 : 0 ≤ w) (h2 : w < nW V) {r r' : Int} (h : neA V w r) (h' : neA V w r') : r = r' := by
  have hp := pl_rng hT hN h1 h2
  have hP := hT.1
  obtain ⟨arr, a1, a2⟩ := h
  obtain ⟨arr', b1, b2⟩ := h'
  have e := wA_un hT hN h1 h2 a1 b1 hp.2.1.1 (by omega : gl V w < 9)
  rcases a2 with ⟨x1, x2⟩ | ⟨x1, x2⟩ <;> rcases b2 with ⟨y1, y2⟩ | ⟨y1, y2⟩
  · rw [x2, y2]
  · exact absurd (e ▸ x1) y1
  · exact absurd (e ▸ y1) x1
  · exact neV_un x2 y2
theorem call_needed {n : Nat} {v1 : Int} (i1 : IR v1) : CallOk n (f_BT_needed v1) (f_M_needed v1) := by
  refine call_q (fun M r => gA (0 ≤ v1 ∧ v1 < nW M) (fun r => neA M v1 r) r) trL ((78, 47) :: fwL) (fun M r r' hR => gA_un (fun c x y hx hy => neA_un hR.1 hR.2.1 c.1 c.2 hx hy)) rfl rfl rfl rfl rfl (fun M hR => ?_) (fun M M1 hR hm hl => ?_)
  · obtain ⟨h1, h2, h3, -, -, -, -, -, -, h10, -⟩ := id hR
    unfold f_BT_needed
    by_cases c : 0 ≤ v1 ∧ v1 < nW M
    · have hp := pl_rng h1 h2 c.1 c.2
      have hP := h1.1
      have hS := h1.2.1
      have hW := h1.2.2.1
      have hst := sto_rng h2 c.1 c.2
      refine wq_I (s_plan h1 h2 h3 (bzC0 hR) c.1 c.2) (fun r M2 ⟨a1, a2, a3, a4⟩ => ?_)
      have a3 : Cl M M2 := a3
      have a4 : Fr trL M M2 := a4
      have hb : M2 48 10 = 0 := by rw [a4.at 48 10 rfl]; exact h10.2.2
      have hrg := wA_rng h1 h2 c.1 c.2 a1 hp.2.1.1 (by omega : gl M v1 < 9)
      rcases a2 with ⟨x1, x2⟩ | ⟨x1, x2, L, x3, x4, x5⟩
      · have x1 : r = -1 := x1
        subst x1
        exact wq_e (fun z => z (by decide)) (wq_some ⟨Or.inl ⟨c, _, a1, Or.inl ⟨x2, rfl⟩⟩, a3.2.2, hb, a4⟩)
      · have x1 : r = ar M2 49 (gl M v1) := x1
        have x5 : stpC M2 L.reverse := x5
        have hlen : L.reverse.length = L.length := List.length_reverse
        rw [x1, i32_id (x := ar M2 49 (gl M v1)) (by omega) (by omega), i32_id (x := -1) (by omega) (by omega)]
        refine wq_t (by omega) ?_
        have hmemL := wpB_mem L _ _ x3
        -- a street that is not on the way can be spared
        have hsp : ∀ s : Int, (∀ x ∈ L, x.1 ≠ s) → ¬ unr M v1 s := by
          intro s hs hu
          obtain ⟨n', hr'⟩ := wpB_rch (lim := sto M v1 + 400) (t := sto M v1) h1 (by omega) (by omega) a1 (fun p p1 p2 => by rcases Sp_rng h1 (by omega) a1.2.2 p1 p2 with z | z; exact Or.inl z; exact Or.inr z.2) L _ x3 x2 hs
          exact hu ⟨n', _, hr'⟩
        refine wq_I (P := fun q => neV M v1 q.1 ∧ Cl M q.2 ∧ Fr trL M q.2) ?_ (fun y M3 ⟨b1, b2, b3⟩ => wq_some ⟨Or.inl ⟨c, _, a1, Or.inr ⟨x2, b1⟩⟩, b2.2.2, by show M3 48 10 = 0; rw [(show Fr trL M M3 from b3).at 48 10 rfl]; exact h10.2.2, b3⟩)
        unfold f_Ways_neededStreets f_Ways_neededStreets_L4
        refine wq_lp (fun z => z.1 = v1 ∧ (0 ≤ z.2.2.1 ∧ z.2.2.1 ≤ (L.length : Int)) ∧ (0 ≤ z.2.1 ∧ z.2.1.toNat < 4096) ∧ (∀ s : Nat, z.2.1.toNat.testBit s = true ↔ ((∃ j : Nat, (j : Int) < z.2.2.1 ∧ ∃ x, L.reverse[j]? = some x ∧ x.1 = (s : Int)) ∧ unr M v1 s)) ∧ stpC z.2.2.2 L.reverse ∧ Cl M z.2.2.2 ∧ Fr trL M z.2.2.2) (fun z => ((L.length : Int) - z.2.2.1).toNat) ?_ FU _ ?_ ?_
        · rintro kH ⟨u1, u2, u3, N⟩ ⟨q1, q2, q3, q4, q5, q6, q7⟩ hk
          have e1 : u1 = v1 := q1
          have e2 : 0 ≤ u3 ∧ u3 ≤ (L.length : Int) := q2
          have e3 : 0 ≤ u2 ∧ u2.toNat < 4096 := q3
          have e4 : ∀ s : Nat, u2.toNat.testBit s = true ↔ ((∃ j : Nat, (j : Int) < u3 ∧ ∃ x, L.reverse[j]? = some x ∧ x.1 = (s : Int)) ∧ unr M v1 s) := q4
          have e5 : stpC N L.reverse := q5
          have e6 : Cl M N := q6
          have e7 : Fr trL M N := q7
          clear q1 q2 q3 q4 q5 q6 q7
          show wq (f_Ways_neededStreets_B4 (fun v1 v2 v3 M => kH (v1, v2, v3, M)) u1 u2 u3 N) _
          rw [e1]
          unfold f_Ways_neededStreets_B4
          rw [e5.1, hlen, i32_id (x := (L.length : Int)) (by omega) (by omega), i32_id (x := u3) (by omega) (by omega)]
          refine wq_if (fun g => wq_some ⟨⟨e3, fun s => ?_⟩, e6, e7⟩) (fun g => ?_)
          · rw [e4 s]
            constructor
            · rintro ⟨⟨j, j1, x, j2, j3⟩, j4⟩
              have := hmemL x (List.mem_reverse.mp (List.mem_of_getElem? j2))
              exact ⟨by omega, j4⟩
            · rintro ⟨j1, j2⟩
              refine ⟨?_, j2⟩
              rcases Classical.em (∃ x ∈ L, x.1 = (s : Int)) with ⟨x, y1, y2⟩ | y
              · obtain ⟨j, hj⟩ := List.mem_iff_getElem?.mp (List.mem_reverse.mpr y1)
                have := (List.getElem?_eq_some_iff.mp hj).1
                exact ⟨j, by omega, x, hj, y2⟩
              · exact absurd j2 (hsp s (fun x hx hz => y ⟨x, hx, hz⟩))
          · have hx : L.reverse[u3.toNat]? = some (L.reverse[u3.toNat]'(by omega)) := List.getElem?_eq_getElem _
            generalize hxv : L.reverse[u3.toNat]'(by omega) = x at hx
            have hxm := hmemL x (List.mem_reverse.mp (List.mem_of_getElem? hx))
            have hx1 := (e5.2 _ _ hx).1
            rw [e_cell_in (n := 9) N rfl (by decide) e2.1 (by omega), bI_s, hx1]
            refine wq_V (s_searchFor (R := []) h1 h2 e6 ((bzC0 hR).fr e7 rfl) rdOk0 c.1 c.2 (show -2147483648 ≤ x.1 by omega) (by omega)) (fun N3 ⟨b1, b2, b3⟩ => ?_)
            have F3 : Fr trL M N3 := e7.tr (b3.cov rfl)
            have hst3 : stpC N3 L.reverse := by
              unfold stpC
              rw [b3.row 48 rfl, b3.row 50 rfl, b3.row 51 rfl]
              exact e5
            have k3 := (b2.2.1.2.2 v1 c.1 c.2).2.1
            have eg : N3 49 (gl M v1).toNat = ar N3 49 (gl M v1) := rfl
            have hrg3 := Sp_rng h1 (by omega) b1.2.2 hp.2.1.1 (by omega : gl M v1 < 9)
            have hui := unr_iff h1 h2 c.1 c.2 b1
            rw [e_cell_in (n := 6) N3 rfl (by decide) c.1 (by omega), bI_s, k3, e_cell_in (n := 9) N3 rfl (by decide) hp.2.1.1 (by omega), bI_s, eg, i32_id (x := ar N3 49 (gl M v1)) (by omega) (by omega), i32_id (x := 1000000) (by omega) (by omega)]
            have hnx : ∀ y : Int, (0 ≤ y ∧ y.toNat < 4096) → (∀ s : Nat, y.toNat.testBit s = true ↔ ((∃ j : Nat, (j : Int) < u3 + 1 ∧ ∃ x, L.reverse[j]? = some x ∧ x.1 = (s : Int)) ∧ unr M v1 s)) → wq (kH (v1, y, u3 + 1, N3)) (fun q => neV M v1 q.1 ∧ Cl M q.2 ∧ Fr trL M q.2) := fun y z1 z2 => hk _ ⟨rfl, ⟨show 0 ≤ u3 + 1 by omega, show u3 + 1 ≤ (L.length : Int) by omega⟩, z1, z2, hst3, b2, F3⟩ (show ((L.length : Int) - (u3 + 1)).toNat < ((L.length : Int) - u3).toNat by omega)
            have hsplit : ∀ s : Nat, (∃ j : Nat, (j : Int) < u3 + 1 ∧ ∃ x, L.reverse[j]? = some x ∧ x.1 = (s : Int)) ↔ ((∃ j : Nat, (j : Int) < u3 ∧ ∃ x, L.reverse[j]? = some x ∧ x.1 = (s : Int)) ∨ x.1 = (s : Int)) := by
              intro s
              constructor
              · rintro ⟨j, j1, y, j2, j3⟩
                by_cases ej : (j : Int) = u3
                · right
                  have : j = u3.toNat := by omega
                  subst this
                  rw [hx] at j2
                  cases j2
                  exact j3
                · exact Or.inl ⟨j, by omega, y, j2, j3⟩
              · rintro (⟨j, j1, y, j2, j3⟩ | j3)
                · exact ⟨j, by omega, y, j2, j3⟩
                · exact ⟨u3.toNat, by omega, x, hx, j3⟩
            by_cases g2 : ar N3 49 (gl M v1) = 1000000
            · refine wq_e (fun z => z g2) ?_
              obtain ⟨o1, o2⟩ := bQ_set (m := u2) (k := x.1) (n := 12) e3.1 (by decide) (by show u2.toNat < 4096; omega) hxm.1 (by omega)
              rw [o1]
              refine hnx _ ⟨by omega, by rw [Int.toNat_natCast]; exact o2⟩ (fun s => ?_)
              rw [Int.toNat_natCast, bQ_or, e4 s, hsplit s]
              have hex : s = x.1.toNat ↔ x.1 = (s : Int) := by omega
              rw [hex]
              constructor
              · rintro (⟨z1, z2⟩ | z)
                · exact ⟨Or.inl z1, z2⟩
                · exact ⟨Or.inr z, by rw [← z]; exact hui.mp g2⟩
              · rintro ⟨z1 | z1, z2⟩
                · exact Or.inl ⟨z1, z2⟩
                · exact Or.inr z1
            · refine wq_t g2 (hnx u2 e3 (fun s => ?_))
              rw [e4 s, hsplit s]
              constructor
              · rintro ⟨z1, z2⟩
                exact ⟨Or.inl z1, z2⟩
              · rintro ⟨z1 | z1, z2⟩
                · exact ⟨z1, z2⟩
                · exact absurd (hui.mpr (by rw [z1]; exact z2)) g2
        · refine ⟨rfl, ⟨Int.le_refl _, by show (0 : Int) ≤ _; omega⟩, ⟨Int.le_refl _, by show (0 : Int).toNat < 4096; decide⟩, fun s => ?_, x5, a3, a4⟩
          constructor
          · intro z
            have z : (0 : Nat).testBit s = true := z
            simp at z
          · rintro ⟨⟨j, j1, -⟩, -⟩
            exact absurd j1 (by show ¬ (j : Int) < 0; omega)
        · show ((L.length : Int) - 0).toNat < 1000000000
          omega
    · rw [e_plan_out h1 h3 i1 c, bI_s]
      have F0 : Fr [(48, 6)] M (up M 48 6 0) := Fr.rf.up (by simp)
      exact wq_e (fun z => z rfl) (wq_some ⟨Or.inr ⟨c, rfl⟩, h3.2.2.fr F0 rfl, by show up M 48 6 0 48 10 = 0; rw [up_col (by decide)]; exact h10.2.2, F0.cov rfl⟩)
  · obtain ⟨h1, h2, h3, -⟩ := id hR
    unfold f_M_needed
    rw [e_isWalker h1 hm i1, bI_s]
    refine wq_c0 (fun c => wq_some ⟨Or.inr ⟨c, rfl⟩, Fr.rf⟩) (fun c => ?_)
    have hp := pl_rng h1 h2 c.1 c.2
    have hP := h1.1
    have hS := h1.2.1
    have hW := h1.2.2.1
    have hst := sto_rng h2 c.1 c.2
    refine wq_I (s_hasWay h1 h2 hm c.1 c.2) (fun r M2 ⟨a1, a2, a3, a4, a5⟩ => ?_)
    have a1 : wA M v1 (ar M2 110) := a1
    have a3 : M2 78 47 = 0 := a3
    have a4 : Rm M M2 := a4
    have hB2 : bzM M2 [] := ⟨a3, fun k q hq => by simp at hq⟩
    rcases a2 with ⟨x1, x2⟩ | ⟨x1, x2, L, x3, x4, x5⟩
    · have x1 : r = 0 := x1
      subst x1
      exact wq_e (fun z => z (by decide)) (wq_some ⟨Or.inl ⟨c, _, a1, Or.inl ⟨x2, rfl⟩⟩, a5⟩)
    · have x1 : r = 1 := x1
      subst x1
      refine wq_t (by decide) ?_
      refine wq_m (P := fun q => neV M v1 q.1 ∧ Fr ((78, 47) :: fwL) M1 q.2) ?_ (fun q ⟨b1, b2⟩ => ⟨Or.inl ⟨c, _, a1, Or.inr ⟨x2, b1⟩⟩, b2⟩)
      unfold f_M_needed_L22
      refine wq_lp (fun z => z.1 = v1 ∧ (0 ≤ z.2.2.1 ∧ z.2.2.1 ≤ nS M) ∧ (0 ≤ z.2.1 ∧ z.2.1.toNat < 4096) ∧ (∀ s : Nat, z.2.1.toNat.testBit s = true ↔ ((s : Int) < z.2.2.1 ∧ unr M v1 s)) ∧ bzM z.2.2.2 [] ∧ Rm M z.2.2.2 ∧ Fr ((78, 47) :: fwL) M1 z.2.2.2) (fun z => (nS M - z.2.2.1).toNat) ?_ FU _ ?_ ?_
      · rintro kH ⟨u1, u2, u3, N⟩ ⟨q1, q2, q3, q4, q5, q6, q7⟩ hk
        have e1 : u1 = v1 := q1
        have e2 : 0 ≤ u3 ∧ u3 ≤ nS M := q2
        have e3 : 0 ≤ u2 ∧ u2.toNat < 4096 := q3
        have e4 : ∀ s : Nat, u2.toNat.testBit s = true ↔ ((s : Int) < u3 ∧ unr M v1 s) := q4
        have e5 : bzM N [] := q5
        have e6 : Rm M N := q6
        have e7 : Fr ((78, 47) :: fwL) M1 N := q7
        clear q1 q2 q3 q4 q5 q6 q7
        show wq (f_M_needed_B22 (fun v1 v2 v3 M => kH (v1, v2, v3, M)) u1 u2 u3 N) _
        rw [e1]
        unfold f_M_needed_B22
        rw [e_mS e6, bI_s, i32_id (x := nS M) (by omega) (by omega), i32_id (x := u3) (by omega) (by omega)]
        refine wq_if (fun g => wq_some ⟨⟨e3, fun s => ?_⟩, e7⟩) (fun g => ?_)
        · rw [e4 s, show u3 = nS M by omega]
        · refine wq_V (s_spreadsFor (R := []) h1 h2 e6 e5 rdOk0 c.1 c.2 (show -2147483648 ≤ u3 by omega) (by omega)) (fun N3 ⟨b1, b2, b3⟩ => ?_)
          have F3 : Fr ((78, 47) :: fwL) M1 N3 := e7.tr (b3.cov rfl)
          have hB3 := e5.fr b3 rfl
          have eg : N3 110 (gl M v1).toNat = ar N3 110 (gl M v1) := rfl
          have hrg3 := Sp_rng h1 (by omega) b1.2.2 hp.2.1.1 (by omega : gl M v1 < 9)
          have hui := unr_iff h1 h2 c.1 c.2 b1
          rw [e_goal b2 c.1 (by omega), bI_s, i32_id (x := gl M v1) (by omega) (by omega), eg, i32_id (x := ar N3 110 (gl M v1)) (by omega) (by omega), i32_id (x := 1000000) (by omega) (by omega)]
          refine wq_g (by omega) ?_
          have hnx : ∀ y : Int, (0 ≤ y ∧ y.toNat < 4096) → (∀ s : Nat, y.toNat.testBit s = true ↔ ((s : Int) < u3 + 1 ∧ unr M v1 s)) → wq (kH (v1, y, u3 + 1, N3)) (fun q => neV M v1 q.1 ∧ Fr ((78, 47) :: fwL) M1 q.2) := fun y z1 z2 => hk _ ⟨rfl, ⟨show 0 ≤ u3 + 1 by omega, show u3 + 1 ≤ nS M by omega⟩, z1, z2, hB3, b2, F3⟩ (show (nS M - (u3 + 1)).toNat < (nS M - u3).toNat by omega)
          by_cases g2 : ar N3 110 (gl M v1) = 1000000
          · refine wq_e (fun z => z g2) ?_
            obtain ⟨o1, o2⟩ := bQ_set (m := u2) (k := u3) (n := 12) e3.1 (by decide) (by show u2.toNat < 4096; omega) e2.1 (by omega)
            rw [o1]
            refine hnx _ ⟨by omega, by rw [Int.toNat_natCast]; exact o2⟩ (fun s => ?_)
            rw [Int.toNat_natCast, bQ_or, e4 s]
            have hex : s = u3.toNat ↔ u3 = (s : Int) := by omega
            rw [hex]
            constructor
            · rintro (⟨z1, z2⟩ | z)
              · exact ⟨by omega, z2⟩
              · exact ⟨by omega, by rw [← z]; exact hui.mp g2⟩
            · rintro ⟨z1, z2⟩
              by_cases z : u3 = (s : Int)
              · exact Or.inr z
              · exact Or.inl ⟨by omega, z2⟩
          · refine wq_t g2 (hnx u2 e3 (fun s => ?_))
            rw [e4 s]
            constructor
            · rintro ⟨z1, z2⟩
              exact ⟨by omega, z2⟩
            · rintro ⟨z1, z2⟩
              by_cases z : u3 = (s : Int)
              · exact absurd (hui.mpr (by rw [z]; exact z2)) g2
              · exact ⟨by omega, z2⟩
      · refine ⟨rfl, ⟨Int.le_refl _, hS.1⟩, ⟨Int.le_refl _, by show (0 : Int).toNat < 4096; decide⟩, fun s => ?_, hB2, a4, a5⟩
        constructor
        · intro z
          have z : (0 : Nat).testBit s = true := z
          simp at z
        · rintro ⟨j1, -⟩
          exact absurd j1 (by show ¬ (s : Int) < 0; omega)
      · show (nS M - 0).toNat < 1000000000
        omega
