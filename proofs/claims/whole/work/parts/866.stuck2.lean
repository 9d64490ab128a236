/-- the hours that the reference has measured are never too few -/
def lg1 (arr : Int → Int) (t : Int) (f : Int → Int) : Prop := ∀ p : Int, 0 ≤ p → p < 9 → (arr p = 1000000 → f p = 1000000) ∧ (arr p ≠ 1000000 → arr p - t ≤ f p ∧ f p ≤ 1000000)
theorem lg1_put {V : Mm} {lim a t : Int} {arr f : Int → Int} (hT : Tw V) (ht : 0 ≤ t) (hl : t + 40 ≤ lim) (hl2 : lim < 1000000) (hA : isA V [] 0 (-1) lim a t arr) (hd : ∀ p : Int, 0 ≤ p → p < 9 → arr p ≠ 1000000 → arr p ≤ t + 32) (h : lg1 arr t f) {s p q : Int} (he : edg V (-1) s p q) (hlt : f p + tk V s < f q) {g : Int → Int} (hg : ∀ y : Int, 0 ≤ y → g y = if y = q then f p + tk V s else f y) : lg1 arr t g ∧ ∀ y : Int, 0 ≤ y → y < 9 → g y ≤ f y := by
  obtain ⟨⟨p1, p2⟩, ⟨q1, q2⟩, -⟩ := edg_in hT he
  have htk := (hT.2.2.2.1 s he.1 he.2.1).2.2.2.1
  obtain ⟨a1, a2⟩ := h p p1 p2
  obtain ⟨b1, b2⟩ := h q q1 q2
  have rp := Sp_rng hT (by omega) hA.2.2 p1 p2
  have rq := Sp_rng hT (by omega) hA.2.2 q1 q2
  have hpn : arr p ≠ 1000000 := by
    intro z
    have := a1 z
    by_cases y : arr q = 1000000
    · have := b1 y; omega
    · have := b2 y; omega
  have hd' := hd p p1 p2 hpn
  have hc := hA.2.1 s p q he hpn (arr p) (Int.le_refl _) (fre0 V s _) (by omega)
  have a3 := a2 hpn
  have hqn : arr q ≠ 1000000 := by omega
  have b3 := b2 hqn
  refine ⟨fun y y1 y2 => ?_, fun y y1 y2 => ?_⟩
  · rw [hg y y1]
    by_cases c : y = q
    · subst c
      rw [if_pos rfl]
      exact ⟨fun z => absurd z hqn, fun _ => by omega⟩
    · rw [if_neg c]; exact h y y1 y2
  · rw [hg y y1]
    by_cases c : y = q
    · subst c; rw [if_pos rfl]; omega
    · rw [if_neg c]; exact Int.le_refl _
def meL : List (Nat × Nat) := [(113, 99999)]
/-- what one round over the first streets has brought -/
def rnd (V : Mm) (f0 f : Int → Int) (st : Int) : Prop := (∀ y : Int, 0 ≤ y → y < 9 → f y ≤ f0 y) ∧ ∀ s p q : Int, s < st → edg V (-1) s p q → f q ≤ f0 p + tk V s
theorem s_measures {V M : Mm} {lim a t : Int} {arr : Int → Int} (hT : Tw V) (hN : Nw V) (h : Rm V M) (ha : 0 ≤ a ∧ a < 9) (ht : 0 ≤ t) (ht2 : t ≤ 20000) (hlim : lim = t + 400) (hA : isA V [] 0 (-1) lim a t arr) : wq (f_M_measures a M) (fun M' => (∀ p : Int, 0 ≤ p → p < 9 → (arr p = 1000000 ∧ ar M' 113 p = 1000000) ∨ (arr p ≠ 1000000 ∧ ar M' 113 p = arr p - t ∧ 0 ≤ arr p - t ∧ arr p - t ≤ 32)) ∧ Rm V M' ∧ Fr meL M M') := by
  have hS := hT.2.1
  have hl : t ≤ lim := by omega
  have hl2 : lim < 1000000 := by omega
  have hlen : ∀ p : Int, 0 ≤ p → p < 9 → arr p ≠ 1000000 → ∃ L, wpB V [] 0 a arr L p a ∧ L.length ≤ 8 := by
    intro p p1 p2 hn
    obtain ⟨L, l1, l2⟩ := wpB_ex hT hl hl2 hA _ p (Nat.lt_succ_self _) p1 p2 hn
    have := cl9_le (arr := arr) p1 p2
    exact ⟨L, l1, by omega⟩
  have hstep : ∀ (x : Int × Int) (L : List (Int × Int)) (p : Int), wpB V [] 0 a arr (x :: L) p a → arr p ≠ 1000000 → (0 ≤ p ∧ p < 9) → (arr (oth V x.1 p) = arr p - tk V x.1 ∧ (0 ≤ oth V x.1 p ∧ oth V x.1 p < 9) ∧ arr (oth V x.1 p) ≠ 1000000 ∧ edg V (-1) x.1 (oth V x.1 p) p) := by
    intro x L p hw hn hp
    obtain ⟨z1, z2, z3, z4⟩ := hw
    obtain ⟨q1, q2, q3⟩ := stB_in hT z2.1
    have z5 := stB0.mp z2.1
    have r1 := Sp_rng hT hl hA.2.2 hp.1 hp.2
    have r2 := Sp_rng hT hl hA.2.2 q2.1 q2.2
    have e0 := oth_edg (wo := -1) (p := p) z5.1.1 z5.1.2 (by omega) z5.2.1
    exact ⟨z5.2.2, q2, by omega, ⟨e0.1, e0.2.1, e0.2.2.1, by rcases e0.2.2.2 with ⟨w1, w2⟩ | ⟨w1, w2⟩; exact Or.inr ⟨w2, w1⟩; exact Or.inl ⟨w2, w1⟩⟩⟩
  have hd : ∀ p : Int, 0 ≤ p → p < 9 → arr p ≠ 1000000 → arr p ≤ t + 32 := by
    intro p p1 p2 hn
    obtain ⟨L, l1, l2⟩ := hlen p p1 p2 hn
    have aux : ∀ (T : List (Int × Int)) (p : Int), wpB V [] 0 a arr T p a → arr p ≠ 1000000 → 0 ≤ p ∧ p < 9 → arr p ≤ t + 4 * T.length := by
      intro T
      induction T with
      | nil => intro p hw _ _; have hw : p = a := hw; rw [hw, hA.1]; simp
      | cons y T ih =>
        intro p hw hn hp
        obtain ⟨g1, g2, g3, g4⟩ := hstep y T p hw hn hp
        have := ih _ hw.2.2.2 g3 g2
        have htk := (hT.2.2.2.1 y.1 g4.1 g4.2.1).2.2.2.1
        simp only [List.length_cons]
        omega
    have := aux L p l1 hn ⟨p1, p2⟩
    omega
  -- a round
  have round : ∀ (M0 : Mm) (v2 : Int) (kx : Int → Mm → Option Mm) (Q : Mm → Prop), Rm V M0 → Fr meL M M0 → lg1 arr t (ar M0 113) →
      (∀ M', Rm V M' → Fr meL M M' → lg1 arr t (ar M' 113) → rnd V (ar M0 113) (ar M' 113) (nS V) → wq (kx v2 M') Q) → wq (f_M_measures_L40 kx FU (v2, 0, M0)) Q := by
    intro M0 w2 kx Q r0 f0 g0 k
    unfold f_M_measures_L40
    refine wq_lp (fun z => z.1 = w2 ∧ (0 ≤ z.2.1 ∧ z.2.1 ≤ nS V) ∧ Rm V z.2.2 ∧ Fr meL M z.2.2 ∧ lg1 arr t (ar z.2.2 113) ∧ rnd V (ar M0 113) (ar z.2.2 113) z.2.1) (fun z => (nS V - z.2.1).toNat) ?_ FU _ ?_ ?_
    · rintro kH ⟨v2, v3, N⟩ ⟨q1, q2, q3, q4, q5, q6⟩ hk
      have e1 : v2 = w2 := q1
      have e2 : 0 ≤ v3 ∧ v3 ≤ nS V := q2
      have e3 : Rm V N := q3
      have e4 : Fr meL M N := q4
      have e5 : lg1 arr t (ar N 113) := q5
      have e6 : rnd V (ar M0 113) (ar N 113) v3 := q6
      clear q1 q2 q3 q4 q5 q6
      show wq (f_M_measures_B40 (fun v2 v3 M => kH (v2, v3, M)) kx v2 v3 N) _
      rw [e1]
      unfold f_M_measures_B40
      rw [e_mS e3, bI_s, i32_id (x := nS V) (by omega) (by omega), i32_id (x := v3) (by omega) (by omega)]
      refine wq_if (fun c => ?_) (fun c => ?_)
      · have ev : v3 = nS V := by omega
        rw [ev] at e6
        exact k N e3 e4 e5 e6
      · have ed1 : edg V (-1) v3 (eF V v3) (eT V v3) := ⟨e2.1, by omega, by omega, Or.inl ⟨rfl, rfl⟩⟩
        have ed2 : edg V (-1) v3 (eT V v3) (eF V v3) := ⟨e2.1, by omega, by omega, Or.inr ⟨rfl, rfl⟩⟩
        have hin := edg_in hT ed1
        have htk := (hT.2.2.2.1 v3 e2.1 (by omega)).2.2.2.1
        have hJ : ∀ N1 : Mm, Rm V N1 → Fr meL M N1 → lg1 arr t (ar N1 113) → (∀ y : Int, 0 ≤ y → y < 9 → ar N1 113 y ≤ ar N 113 y) → ar N1 113 (eT V v3) ≤ ar N 113 (eF V v3) + tk V v3 → wq (f_M_measures_J107 (fun v2 v3 M => kH (v2, v3, M)) kx w2 v3 (eF V v3) (eT V v3) N1) Q := by
          intro N1 m1 m2 m3 m4 m5
          have hfin : ∀ N2 : Mm, Rm V N2 → Fr meL M N2 → lg1 arr t (ar N2 113) → (∀ y : Int, 0 ≤ y → y < 9 → ar N2 113 y ≤ ar N1 113 y) → ar N2 113 (eF V v3) ≤ ar N1 113 (eT V v3) + tk V v3 → wq (kH (w2, v3 + 1, N2)) Q := by
            intro N2 n1 n2 n3 n4 n5
            refine hk _ ⟨rfl, ⟨show 0 ≤ v3 + 1 by omega, show v3 + 1 ≤ nS V by omega⟩, n1, n2, n3, fun y y1 y2 => ?_, fun s p q z1 z2 => ?_⟩ (show (nS V - (v3 + 1)).toNat < (nS V - v3).toNat by omega)
            · have := n4 y y1 y2
              have := m4 y y1 y2
              have := e6.1 y y1 y2
              show ar N2 113 y ≤ ar M0 113 y
              omega
            · have z1 : s < v3 + 1 := z1
              show ar N2 113 q ≤ ar M0 113 p + tk V s
              have hpq := edg_in hT z2
              by_cases es : s = v3
              · subst es
                rcases z2.2.2.2 with ⟨w1, w2⟩ | ⟨w1, w2⟩
                · rw [← w1, ← w2]
                  have := n4 (eT V s) hin.2.1.1 hin.2.1.2
                  have := e6.1 (eF V s) hin.1.1 hin.1.2
                  omega
                · rw [← w1, ← w2]
                  have := m4 (eT V s) hin.2.1.1 hin.2.1.2
                  have := e6.1 (eT V s) hin.2.1.1 hin.2.1.2
                  omega
              · have := e6.2 s p q (by omega) z2
                have := n4 q hpq.2.1.1 hpq.2.1.2
                have := m4 q hpq.2.1.1 hpq.2.1.2
                omega
          have rA : 0 ≤ ar N1 113 (eF V v3) ∧ ar N1 113 (eF V v3) ≤ 1000000 := by
            obtain ⟨u1, u2⟩ := m3 (eF V v3) hin.1.1 hin.1.2
            have := Sp_rng hT hl hA.2.2 hin.1.1 hin.1.2
            by_cases z : arr (eF V v3) = 1000000
            · have := u1 z; omega
            · have := u2 z; omega
          have rB : 0 ≤ ar N1 113 (eT V v3) ∧ ar N1 113 (eT V v3) ≤ 1000000 := by
            obtain ⟨u1, u2⟩ := m3 (eT V v3) hin.2.1.1 hin.2.1.2
            have := Sp_rng hT hl hA.2.2 hin.2.1.1 hin.2.1.2
            by_cases z : arr (eT V v3) = 1000000
            · have := u1 z; omega
            · have := u2 z; omega
          have gA' : N1 113 (eF V v3).toNat = ar N1 113 (eF V v3) := rfl
          have gB : N1 113 (eT V v3).toNat = ar N1 113 (eT V v3) := rfl
          unfold f_M_measures_J107
          rw [i32_id (x := eF V v3) (by omega) (by omega), i32_id (x := eT V v3) (by omega) (by omega), e_takes m1 e2.1 (by omega), bI_s, gA', gB, i32_id (x := ar N1 113 (eF V v3)) (by omega) (by omega), i32_id (x := ar N1 113 (eT V v3) + tk V v3) (by omega) (by omega)]
          refine wq_g (by omega) (wq_g (by omega) ?_)
          refine wq_if (fun d => hfin N1 m1 m2 m3 (fun y _ _ => Int.le_refl _) d) (fun d => wq_g (by omega) ?_)
          rw [e_takes m1 e2.1 (by omega), bI_s]
          refine wq_g (by omega) (wq_d ?_)
          have hup : ∀ y : Int, 0 ≤ y → ar (up N1 113 (eF V v3).toNat (ar N1 113 (eT V v3) + tk V v3)) 113 y = if y = eF V v3 then ar N1 113 (eT V v3) + tk V v3 else ar N1 113 y := fun y y1 => ar_up _ _ _ _ hin.1.1 y y1
          obtain ⟨p1, p2⟩ := lg1_put hT ht (by omega) hl2 hA hd m3 ed2 (by omega) hup
          refine hfin _ (m1.fr (l := meL) (Fr.rf.up (by simp [meL])) rfl) (m2.up (by simp [meL])) p1 p2 ?_
          rw [hup _ hin.1.1, if_pos rfl]
          exact Int.le_refl _
        have rA : 0 ≤ ar N 113 (eF V v3) ∧ ar N 113 (eF V v3) ≤ 1000000 := by
          obtain ⟨u1, u2⟩ := e5 (eF V v3) hin.1.1 hin.1.2
          have := Sp_rng hT hl hA.2.2 hin.1.1 hin.1.2
          by_cases z : arr (eF V v3) = 1000000
          · have := u1 z; omega
          · have := u2 z; omega
        have rB : 0 ≤ ar N 113 (eT V v3) ∧ ar N 113 (eT V v3) ≤ 1000000 := by
          obtain ⟨u1, u2⟩ := e5 (eT V v3) hin.2.1.1 hin.2.1.2
          have := Sp_rng hT hl hA.2.2 hin.2.1.1 hin.2.1.2
          by_cases z : arr (eT V v3) = 1000000
          · have := u1 z; omega
          · have := u2 z; omega
        have gA' : N 113 (eF V v3).toNat = ar N 113 (eF V v3) := rfl
        have gB : N 113 (eT V v3).toNat = ar N 113 (eT V v3) := rfl
        rw [e_end0 e3 e2.1 (by omega), bI_s, e_end1 e3 e2.1 (by omega), bI_s, e_takes e3 e2.1 (by omega), bI_s, i32_id (x := eF V v3) (by omega) (by omega), i32_id (x := eT V v3) (by omega) (by omega), gA', gB, i32_id (x := ar N 113 (eT V v3)) (by omega) (by omega), i32_id (x := ar N 113 (eF V v3) + tk V v3) (by omega) (by omega)]
        refine wq_g (by omega) (wq_g (by omega) ?_)
        refine wq_if (fun d => hJ N e3 e4 e5 (fun y _ _ => Int.le_refl _) d) (fun d => wq_g (by omega) ?_)
        rw [e_takes e3 e2.1 (by omega), bI_s]
        refine wq_g (by omega) (wq_d ?_)
        have hup : ∀ y : Int, 0 ≤ y → ar (up N 113 (eT V v3).toNat (ar N 113 (eF V v3) + tk V v3)) 113 y = if y = eT V v3 then ar N 113 (eF V v3) + tk V v3 else ar N 113 y := fun y y1 => ar_up _ _ _ _ hin.2.1.1 y y1
        obtain ⟨p1, p2⟩ := lg1_put hT ht (by omega) hl2 hA hd e5 ed1 (by omega) hup
        refine hJ _ (e3.fr (l := meL) (Fr.rf.up (by simp [meL])) rfl) (e4.up (by simp [meL])) p1 p2 ?_
        rw [hup _ hin.2.1.1, if_pos rfl]
        exact Int.le_refl _
    · exact ⟨rfl, ⟨Int.le_refl _, hS.1⟩, r0, f0, g0, fun y _ _ => Int.le_refl _, fun s p q z1 z2 => absurd z1 (by have := z2.1; show ¬ s < 0; omega)⟩
    · show (nS V - 0).toNat < 1000000000
      omega
  -- nine rounds
  have nine : ∀ M0 : Mm, Rm V M0 → Fr meL M M0 → lg1 arr t (ar M0 113) → ar M0 113 a = 0 → wq (f_M_measures_L32 FU (0, M0)) (fun M' => (∀ p : Int, 0 ≤ p → p < 9 → (arr p = 1000000 ∧ ar M' 113 p = 1000000) ∨ (arr p ≠ 1000000 ∧ ar M' 113 p = arr p - t ∧ 0 ≤ arr p - t ∧ arr p - t ≤ 32)) ∧ Rm V M' ∧ Fr meL M M') := by
    intro M0 r0 f0 g0 za
    unfold f_M_measures_L32
    refine wq_lp (fun z => (0 ≤ z.1 ∧ z.1 ≤ 9) ∧ Rm V z.2 ∧ Fr meL M z.2 ∧ lg1 arr t (ar z.2 113) ∧ ∀ (L : List (Int × Int)) (p : Int), wpB V [] 0 a arr L p a → arr p ≠ 1000000 → 0 ≤ p → p < 9 → (L.length : Int) ≤ z.1 → ar z.2 113 p = arr p - t) (fun z => (9 - z.1).toNat) ?_ FU _ ?_ ?_
    · rintro kH ⟨v2, N⟩ ⟨q1, q2, q3, q4, q5⟩ hk
      have e1 : 0 ≤ v2 ∧ v2 ≤ 9 := q1
      have e2 : Rm V N := q2
      have e3 : Fr meL M N := q3
      have e4 : lg1 arr t (ar N 113) := q4
      have e5 : ∀ (L : List (Int × Int)) (p : Int), wpB V [] 0 a arr L p a → arr p ≠ 1000000 → 0 ≤ p → p < 9 → (L.length : Int) ≤ v2 → ar N 113 p = arr p - t := q5
      clear q1 q2 q3 q4 q5
      show wq (f_M_measures_B32 (fun v2 M => kH (v2, M)) v2 N) _
      unfold f_M_measures_B32
      rw [i32_id (x := 9) (by omega) (by omega), i32_id (x := v2) (by omega) (by omega)]
      refine wq_if (fun c => wq_some ⟨fun p p1 p2 => ?_, e2, e3⟩) (fun c => ?_)
      · by_cases z : arr p = 1000000
        · exact Or.inl ⟨z, (e4 p p1 p2).1 z⟩
        · obtain ⟨L, l1, l2⟩ := hlen p p1 p2 z
          have r := Sp_rng hT hl hA.2.2 p1 p2
          have := hd p p1 p2 z
          exact Or.inr ⟨z, e5 L p l1 z p1 p2 (by omega), by omega, by omega⟩
      · refine round N v2 _ _ e2 e3 e4 (fun M' m1 m2 m3 m4 => hk _ ⟨⟨show 0 ≤ v2 + 1 by omega, show v2 + 1 ≤ 9 by omega⟩, m1, m2, m3, fun L p l1 l2 l3 l4 l5 => ?_⟩ (show (9 - (v2 + 1)).toNat < (9 - v2).toNat by omega))
        have l5 : (L.length : Int) ≤ v2 + 1 := l5
        have low := (m3 p l3 l4).2 l2
        match L, l1, l5 with
        | [], l1, _ =>
          have := e5 [] p l1 l2 l3 l4 (by simp; omega)
          have := m4.1 p l3 l4
          show ar M' 113 p = arr p - t
          omega
        | x :: L, l1, l5 =>
          obtain ⟨g1, g2, g3, g4⟩ := hstep x L p l1 l2 ⟨l3, l4⟩
          simp only [List.length_cons] at l5
          have := e5 L _ l1.2.2.2 g3 g2.1 g2.2 (by omega)
          have := m4.2 x.1 _ p g4.2.1 g4
          show ar M' 113 p = arr p - t
          omega
    · refine ⟨⟨Int.le_refl _, by show (0 : Int) ≤ 9; decide⟩, r0, f0, g0, fun L p l1 l2 l3 l4 l5 => ?_⟩
      have l5 : (L.length : Int) ≤ 0 := l5
      have : L = [] := List.eq_nil_of_length_eq_zero (by omega)
      subst this
      have l1 : p = a := l1
      subst l1
      rw [hA.1]
      show ar M0 113 p = t - t
      rw [za]; omega
    · show (9 - (0 : Int)).toNat < 1000000000
      decide
  unfold f_M_measures f_M_measures_L2
  refine wq_lp (fun z => z.1 = a ∧ (0 ≤ z.2.1 ∧ z.2.1 ≤ 9) ∧ Fr meL M z.2.2 ∧ ∀ y : Int, 0 ≤ y → y < z.2.1 → ar z.2.2 113 y = 1000000) (fun z => (9 - z.2.1).toNat) ?_ FU _ ?_ ?_
  · rintro kH ⟨v1, v2, N⟩ ⟨q1, q2, q3, q4⟩ hk
    have e1 : v1 = a := q1
    have e2 : 0 ≤ v2 ∧ v2 ≤ 9 := q2
    have e3 : Fr meL M N := q3
    have e4 : ∀ y : Int, 0 ≤ y → y < v2 → ar N 113 y = 1000000 := q4
    clear q1 q2 q3 q4
    show wq (f_M_measures_B2 (fun v1 v2 M => kH (v1, v2, M)) _ v1 v2 N) _
    rw [e1]
    unfold f_M_measures_B2
    rw [i32_id (x := 9) (by omega) (by omega), i32_id (x := v2) (by omega) (by omega)]
    refine wq_if (fun c => ?_) (fun c => wq_g (by omega) (wq_d (hk _ ⟨rfl, ⟨show 0 ≤ v2 + 1 by omega, show v2 + 1 ≤ 9 by omega⟩, e3.up (by simp [meL]), fun y y1 y2 => ?_⟩ (show (9 - (v2 + 1)).toNat < (9 - v2).toNat by omega))))
    · dsimp only
      rw [i32_id (x := a) (by omega) (by omega)]
      have F2 : Fr meL M (up N 113 a.toNat 0) := e3.up (by simp [meL])
      have hup : ∀ y : Int, 0 ≤ y → y < 9 → ar (up N 113 a.toNat 0) 113 y = if y = a then 0 else 1000000 := by
        intro y y1 y2
        rw [ar_up _ _ _ _ ha.1 y y1, e4 y y1 (by omega)]
      refine wq_g (by omega) (wq_d (nine _ (h.fr F2 rfl) F2 (fun p p1 p2 => ?_) (by rw [hup a ha.1 ha.2, if_pos rfl])))
      have r := Sp_rng hT hl hA.2.2 p1 p2
      have := hA.1
      rw [hup p p1 p2]
      by_cases z : p = a
      · subst z
        rw [if_pos rfl]
        exact ⟨fun y => by omega, fun _ => by omega⟩
      · rw [if_neg z]
        exact ⟨fun _ => rfl, fun y => by have := hd p p1 p2 y; omega⟩
    · have y2 : y < v2 + 1 := y2
      show ar (up N 113 v2.toNat 1000000) 113 y = 1000000
      rw [ar_up _ _ _ _ e2.1 y y1]
      by_cases cy : y = v2
      · rw [if_pos cy]
      · rw [if_neg cy]; exact e4 y y1 (by omega)
  · exact ⟨rfl, ⟨Int.le_refl _, by show (0 : Int) ≤ 9; decide⟩, Fr.rf, fun y y1 y2 => absurd y2 (by show ¬ y < 0; omega)⟩
  · show (9 - (0 : Int)).toNat < 1000000000
    decide
