theorem s_isTold {V M : Mm} {e : Int} (hT : Tw V) (hm : Rm V M) (h0 : 0 ≤ e) (h1 : e ≤ 1600) (h2 : M 79 = V 79) (hb : ∀ k : Nat, 0 ≤ V 79 k ∧ V 79 k ≤ 255) : wq (f_M_isTold e M) (fun q => ((q.1 = 0 ∧ ¬ pOk V e) ∨ (q.1 = 1 ∧ pOk V e)) ∧ q.2 = M) := by
  have hS := hT.2.1
  have hW := hT.2.2.1
  have hP := hT.1
  unfold f_M_isTold
  rw [e_mS hm, bI_s, e_mW hm, bI_s, i32_id (x := e) (by omega) (by omega), i32_id (x := 2 + nS V + 4 * nW V + 1) (by omega) (by omega)]
  refine wq_if (fun c => wq_some ⟨Or.inl ⟨rfl, fun z => c z.1⟩, rfl⟩) (fun c => ?_)
  have c := Decidable.not_not.mp c
  have e1 : e - 1 = 2 + nS V + 4 * nW V := by omega
  have bc := hb (2 + nS V + 4 * nW V).toNat
  have hk := ckf_rng (V 79) (2 + nS V + 4 * nW V).toNat
  have b0 := hb 0
  have b1 := hb 1
  rw [e1, i32_id (x := 2 + nS V + 4 * nW V) (by omega) (by omega)]
  refine wq_g (by omega) ?_
  refine wq_I (s_checked (row := 79) (len := 1600) rfl (by decide) (by omega) (by omega) (fun k _ => by rw [h2]; exact hb k)) (fun r M2 ⟨r1, r2⟩ => ?_)
  have r1 : r = ckf (M 79) (2 + nS V + 4 * nW V).toNat := r1
  have r2 : M2 = M := r2
  rw [r1, r2, h2, i32_id (x := V 79 (2 + nS V + 4 * nW V).toNat) (by omega) (by omega), i32_id (x := ckf (V 79) (2 + nS V + 4 * nW V).toNat) (by omega) (by omega)]
  refine wq_if (fun d => wq_some ⟨Or.inl ⟨rfl, fun z => d z.2.1⟩, rfl⟩) (fun d => ?_)
  have d := Decidable.not_not.mp d
  rw [i32_id (x := 256 * V 79 0 + V 79 1) (by omega) (by omega), i32_id (x := 9999) (by omega) (by omega)]
  refine wq_if (fun g => ?_) (fun g => wq_some ⟨Or.inl ⟨rfl, fun z => by have := z.2.2.1; omega⟩, rfl⟩)
  unfold f_M_isTold_L69
  refine wq_lp (fun z => z.1 = 2 + nS V ∧ (0 ≤ z.2.1 ∧ z.2.1 ≤ nS V) ∧ (∀ s : Int, 0 ≤ s → s < z.2.1 → V 79 (2 + s).toNat < rd V s) ∧ z.2.2 = M) (fun z => (nS V - z.2.1).toNat) ?_ FU _ ?_ ?_
  · rintro kH ⟨v2, v5, N⟩ ⟨q1, q3, q4, q5⟩ hk'
    have a1 : v2 = 2 + nS V := q1
    have a3 : 0 ≤ v5 ∧ v5 ≤ nS V := q3
    have a4 : ∀ s : Int, 0 ≤ s → s < v5 → V 79 (2 + s).toNat < rd V s := q4
    have a5 : N = M := q5
    clear q1 q3 q4 q5
    show wq (f_M_isTold_B69 (fun v2 v3 M => kH (v2, v3, M)) _ v2 v5 N) _
    rw [a1, a5]
    unfold f_M_isTold_B69
    rw [e_mS hm, bI_s, i32_id (x := nS V) (by omega) (by omega), i32_id (x := v5) (by omega) (by omega)]
    refine wq_if (fun x => ?_) (fun x => ?_)
    · dsimp only
      unfold f_M_isTold_L103
      refine wq_lp (fun z => z.1 = 2 + nS V ∧ (0 ≤ z.2.1 ∧ z.2.1 ≤ nW V) ∧ (∀ w : Int, 0 ≤ w → w < z.2.1 → wkOk V (2 + nS V + 4 * w) w) ∧ z.2.2 = M) (fun z => (nW V - z.2.1).toNat) ?_ FU _ ?_ ?_
      · rintro kG ⟨u2, w, B⟩ ⟨p1, p3, p4, p5⟩ hg
        have g1 : u2 = 2 + nS V := p1
        have g3 : 0 ≤ w ∧ w ≤ nW V := p3
        have g4 : ∀ w' : Int, 0 ≤ w' → w' < w → wkOk V (2 + nS V + 4 * w') w' := p4
        have g5 : B = M := p5
        clear p1 p3 p4 p5
        show wq (f_M_isTold_B103 (fun v2 v3 M => kG (v2, v3, M)) u2 w B) _
        rw [g1, g5]
        unfold f_M_isTold_B103
        rw [e_mW hm, bI_s, i32_id (x := nW V) (by omega) (by omega), i32_id (x := w) (by omega) (by omega)]
        refine wq_if (fun y => wq_some ⟨Or.inr ⟨rfl, c, d, by omega, fun s s1 s2 => a4 s s1 (by omega), fun w' w1 w2 => g4 w' w1 (by omega)⟩, rfl⟩) (fun y => ?_)
        obtain ⟨-, x1, x2, x3⟩ := hT.2.2.2.2 w g3.1 (by omega)
        generalize hp : 2 + nS V + 4 * w = p at *
        have pr1 : 0 ≤ p ∧ p + 3 < 1600 := by omega
        have ex : M 101 (18 + 3 * w + 1).toNat = wx V w := by rw [hm.2.2.1, show 18 + 3 * w + 1 = 19 + 3 * w by omega]; rfl
        have ey : M 101 (18 + 3 * w + 2).toNat = wy V w := by rw [hm.2.2.1, show 18 + 3 * w + 2 = 20 + 3 * w by omega]; rfl
        have y0 := hb p.toNat
        have y1 := hb (p + 1).toNat
        have y2 := hb (p + 2).toNat
        have y3 := hb (p + 3).toNat
        have hJ : ∀ s0 : Int, ((s0 = 0 ∧ ¬ ((V 79 p.toNat = wx V w ∧ V 79 (p + 1).toNat = wy V w) ∨ (V 79 p.toNat = wy V w ∧ V 79 (p + 1).toNat = wx V w))) ∨ (s0 = 1 ∧ ((V 79 p.toNat = wx V w ∧ V 79 (p + 1).toNat = wy V w) ∨ (V 79 p.toNat = wy V w ∧ V 79 (p + 1).toNat = wx V w)))) → wq (f_M_isTold_J205 (fun v2 v3 M => kG (v2, v3, M)) (2 + nS V) w p s0 M) (fun q => ((q.1 = 0 ∧ ¬ pOk V e) ∨ (q.1 = 1 ∧ pOk V e)) ∧ q.2 = M) := by
          intro s0 hs
          have hno : ¬ wkOk V p w → ¬ pOk V e := fun t z => t (by have := z.2.2.2.2 w g3.1 (by omega); rw [hp] at this; exact this)
          unfold f_M_isTold_J205
          rcases hs with ⟨z1, z2⟩ | ⟨z1, z2⟩
          · rw [z1]
            exact wq_t (by decide) (wq_some ⟨Or.inl ⟨rfl, hno (fun t => z2 t.1)⟩, rfl⟩)
          · rw [z1, i32_id (x := p + 2) (by omega) (by omega), i32_id (x := p + 3) (by omega) (by omega), h2, i32_id (x := 256 * V 79 (p + 2).toNat + V 79 (p + 3).toNat) (by omega) (by omega), i32_id (x := 9999) (by omega) (by omega)]
            refine wq_e (by decide) (wq_g (by omega) (wq_g (by omega) ?_))
            refine wq_if (fun t => hg _ ⟨rfl, ⟨show 0 ≤ w + 1 by omega, show w + 1 ≤ nW V by omega⟩, fun w' w1 w2 => ?_, rfl⟩ (show (nW V - (w + 1)).toNat < (nW V - w).toNat by omega)) (fun t => wq_some ⟨Or.inl ⟨rfl, hno (fun u => by have := u.2; omega)⟩, rfl⟩)
            have w2 : w' < w + 1 := w2
            by_cases t' : w' = w
            · rw [t', hp]; exact ⟨z2, by omega⟩
            · exact g4 w' w1 (by omega)
        have hJ2 : ¬ (V 79 p.toNat = wx V w ∧ V 79 (p + 1).toNat = wy V w) → wq (f_M_isTold_J174 (fun v2 v3 M => kG (v2, v3, M)) (2 + nS V) w p (wx V w) (wy V w) M) (fun q => ((q.1 = 0 ∧ ¬ pOk V e) ∨ (q.1 = 1 ∧ pOk V e)) ∧ q.2 = M) := by
          intro hz
          unfold f_M_isTold_J174
          rw [h2, i32_id (x := p) (by omega) (by omega), i32_id (x := p + 1) (by omega) (by omega), i32_id (x := V 79 p.toNat) (by omega) (by omega), i32_id (x := V 79 (p + 1).toNat) (by omega) (by omega), i32_id (x := wx V w) (by omega) (by omega), i32_id (x := wy V w) (by omega) (by omega)]
          refine wq_g (by omega) (wq_if (fun t => hJ 0 (Or.inl ⟨rfl, by omega⟩)) (fun t => wq_g (by omega) (wq_if (fun u => hJ 0 (Or.inl ⟨rfl, by omega⟩)) (fun u => hJ 1 (Or.inr ⟨rfl, by omega⟩)))))
        rw [i32_id (x := 18 + 3 * w + 1) (by omega) (by omega), i32_id (x := 18 + 3 * w + 2) (by omega) (by omega), i32_id (x := p) (by omega) (by omega), i32_id (x := p + 1) (by omega) (by omega), ex, ey, h2, i32_id (x := V 79 p.toNat) (by omega) (by omega), i32_id (x := V 79 (p + 1).toNat) (by omega) (by omega), i32_id (x := wx V w) (by omega) (by omega), i32_id (x := wy V w) (by omega) (by omega)]
        refine wq_g (by omega) (wq_g (by omega) (wq_g (by omega) ?_))
        exact wq_if (fun t => hJ2 (by omega)) (fun t => wq_g (by omega) (wq_if (fun u => hJ 1 (Or.inr ⟨rfl, by omega⟩)) (fun u => hJ2 (by omega))))
      · exact ⟨rfl, ⟨Int.le_refl _, hW.1⟩, fun w w1 w2 => absurd w2 (by show ¬ w < 0; omega), rfl⟩
      · show (nW V - 0).toNat < 1000000000
        omega
    · have bs := hb (2 + v5).toNat
      have hrd := (hT.2.2.2.1 v5 a3.1 (by omega)).2.2.2.2.1
      rw [i32_id (x := 2 + v5) (by omega) (by omega), e_round hm a3.1 (by omega), bI_s, h2, i32_id (x := V 79 (2 + v5).toNat) (by omega) (by omega), i32_id (x := rd V v5) (by omega) (by omega)]
      refine wq_g (by omega) (wq_if (fun w => hk' _ ⟨rfl, ⟨show 0 ≤ v5 + 1 by omega, show v5 + 1 ≤ nS V by omega⟩, fun s s1 s2 => ?_, rfl⟩ (show (nS V - (v5 + 1)).toNat < (nS V - v5).toNat by omega)) (fun w => wq_some ⟨Or.inl ⟨rfl, fun z => w (z.2.2.2.1 v5 a3.1 (by omega))⟩, rfl⟩))
      have s2 : s < v5 + 1 := s2
      by_cases t : s = v5
      · rw [t]; exact w
      · exact a4 s s1 (by omega)
  · exact ⟨rfl, ⟨Int.le_refl _, hS.1⟩, fun s s1 s2 => absurd s2 (by show ¬ s < 0; omega), rfl⟩
  · show (nS V - 0).toNat < 1000000000
    omega
