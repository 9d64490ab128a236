/-- a walker's four octets fit -/
def wkOk (V : Mm) (p w : Int) : Prop := ((V 79 p.toNat = wx V w ∧ V 79 (p + 1).toNat = wy V w) ∨ (V 79 p.toNat = wy V w ∧ V 79 (p + 1).toNat = wx V w)) ∧ V 79 (p + 2).toNat * 256 + V 79 (p + 3).toNat ≤ 9999
/-- the octets are a picture of this town -/
def pOk (V : Mm) (e : Int) : Prop := e = 2 + nS V + 4 * nW V + 1 ∧ V 79 (2 + nS V + 4 * nW V).toNat = ckf (V 79) (2 + nS V + 4 * nW V).toNat ∧ V 79 0 * 256 + V 79 1 ≤ 9999 ∧ (∀ s : Int, 0 ≤ s → s < nS V → V 79 (2 + s).toNat < rd V s) ∧ ∀ w : Int, 0 ≤ w → w < nW V → wkOk V (2 + nS V + 4 * w) w
theorem e_hourAt {V M : Mm} {e p : Int} (he : M 1 1 = e) (h1 : e ≤ 1600) (h2 : M 2 = V 79) (h3 : 0 ≤ p) (h4 : p + 1 < e) : f_Now_hourAt p M = some (V 79 p.toNat * 256 + V 79 (p + 1).toNat, M) := by
  unfold f_Now_hourAt
  rw [e_byteAt he h1 h3 (by omega), bI_s, e_byteAt he h1 (by omega) h4, bI_s, h2]
theorem s_isWalkerC {V M : Mm} {e p w : Int} (hT : Tw V) (hc : Tc V M) (he : M 1 1 = e) (h1 : e ≤ 1600) (h2 : M 2 = V 79) (hb : ∀ k : Nat, 0 ≤ V 79 k ∧ V 79 k ≤ 255) (h3 : 0 ≤ p) (h4 : p + 3 < e) (w1 : 0 ≤ w) (w2 : w < nW V) : wq (f_Now_isWalker w p M) (fun q => ((q.1 = 0 ∧ ¬ wkOk V p w) ∨ (q.1 = 1 ∧ wkOk V p w)) ∧ q.2 = M) := by
  have hW := hT.2.2.1
  have hP := hT.1
  obtain ⟨-, x1, x2, x3⟩ := hT.2.2.2.2 w w1 w2
  obtain ⟨-, y1, y2⟩ := hc.2.2.1 w w1 w2
  have b0 := hb p.toNat
  have b1 := hb (p + 1).toNat
  have b2 := hb (p + 2).toNat
  have b3 := hb (p + 3).toNat
  have hJ : ∀ s0 : Int, ((s0 = 0 ∧ ¬ ((V 79 p.toNat = wx V w ∧ V 79 (p + 1).toNat = wy V w) ∨ (V 79 p.toNat = wy V w ∧ V 79 (p + 1).toNat = wx V w))) ∨ (s0 = 1 ∧ ((V 79 p.toNat = wx V w ∧ V 79 (p + 1).toNat = wy V w) ∨ (V 79 p.toNat = wy V w ∧ V 79 (p + 1).toNat = wx V w)))) → wq (f_Now_isWalker_J75 p s0 M) (fun q => ((q.1 = 0 ∧ ¬ wkOk V p w) ∨ (q.1 = 1 ∧ wkOk V p w)) ∧ q.2 = M) := by
    intro s0 hs
    unfold f_Now_isWalker_J75
    rcases hs with ⟨z1, z2⟩ | ⟨z1, z2⟩
    · rw [z1]
      exact wq_t (by decide) (wq_some ⟨Or.inl ⟨rfl, fun t => z2 t.1⟩, rfl⟩)
    · rw [z1]
      refine wq_e (by decide) ?_
      rw [e_hourAt (V := V) he h1 h2 (by omega) (by omega), bI_s, show p + 2 + 1 = p + 3 by omega, i32_id (x := 9999) (by omega) (by omega), i32_id (x := V 79 (p + 2).toNat * 256 + V 79 (p + 3).toNat) (by omega) (by omega)]
      exact wq_if (fun t => wq_some ⟨Or.inl ⟨rfl, fun u => by have := u.2; omega⟩, rfl⟩) (fun t => wq_some ⟨Or.inr ⟨rfl, z2, by omega⟩, rfl⟩)
  have hJ2 : ¬ (V 79 p.toNat = wx V w ∧ V 79 (p + 1).toNat = wy V w) → wq (f_Now_isWalker_J56 p (V 79 p.toNat) (V 79 (p + 1).toNat) (wx V w) (wy V w) M) (fun q => ((q.1 = 0 ∧ ¬ wkOk V p w) ∨ (q.1 = 1 ∧ wkOk V p w)) ∧ q.2 = M) := by
    intro hz
    unfold f_Now_isWalker_J56
    rw [i32_id (x := V 79 p.toNat) (by omega) (by omega), i32_id (x := V 79 (p + 1).toNat) (by omega) (by omega), i32_id (x := wx V w) (by omega) (by omega), i32_id (x := wy V w) (by omega) (by omega)]
    refine wq_if (fun t => hJ 0 (Or.inl ⟨rfl, by omega⟩)) (fun t => wq_if (fun u => hJ 0 (Or.inl ⟨rfl, by omega⟩)) (fun u => hJ 1 (Or.inr ⟨rfl, by omega⟩)))
  unfold f_Now_isWalker
  rw [e_byteAt he h1 h3 (by omega), bI_s, e_byteAt he h1 (by omega) (by omega), bI_s, e_cell_in (n := 6) M rfl (by decide) w1 (by omega), bI_s, e_cell_in (n := 6) M rfl (by decide) w1 (by omega), bI_s, y1, y2, h2, i32_id (x := V 79 p.toNat) (by omega) (by omega), i32_id (x := V 79 (p + 1).toNat) (by omega) (by omega), i32_id (x := wx V w) (by omega) (by omega), i32_id (x := wy V w) (by omega) (by omega)]
  exact wq_if (fun t => hJ2 (by omega)) (fun t => wq_if (fun u => hJ 1 (Or.inr ⟨rfl, by omega⟩)) (fun u => hJ2 (by omega)))
theorem s_isPicture {V M : Mm} {e : Int} (hT : Tw V) (hc : Tc V M) (he : M 1 1 = e) (h0 : 0 ≤ e) (h1 : e ≤ 1600) (h2 : M 2 = V 79) (hb : ∀ k : Nat, 0 ≤ V 79 k ∧ V 79 k ≤ 255) : wq (f_Now_isPicture M) (fun q => ((q.1 = 0 ∧ ¬ pOk V e) ∨ (q.1 = 1 ∧ pOk V e)) ∧ q.2 = M) := by
  have hS := hT.2.1
  have hW := hT.2.2.1
  unfold f_Now_isPicture
  rw [e_count1 hc, bI_s, e_count2 hc, bI_s, he, i32_id (x := e) (by omega) (by omega), i32_id (x := 2 + nS V + 4 * nW V + 1) (by omega) (by omega)]
  refine wq_if (fun c => wq_some ⟨Or.inl ⟨rfl, fun z => c z.1⟩, rfl⟩) (fun c => ?_)
  have bc := hb (2 + nS V + 4 * nW V).toNat
  have hk := ckf_rng (V 79) (2 + nS V + 4 * nW V).toNat
  have b0 := hb 0
  have b1 := hb 1
  rw [e_byteAt he h1 (by omega) (by omega), bI_s, h2]
  refine wq_I (s_check (row := 2) (len := 1600) rfl (by decide) (by omega) (by omega) (fun k _ => by rw [h2]; exact hb k)) (fun r M2 ⟨r1, r2⟩ => ?_)
  have r1 : r = ckf (M 2) (2 + nS V + 4 * nW V).toNat := r1
  have r2 : M2 = M := r2
  rw [r1, r2, h2, i32_id (x := V 79 (2 + nS V + 4 * nW V).toNat) (by omega) (by omega), i32_id (x := ckf (V 79) (2 + nS V + 4 * nW V).toNat) (by omega) (by omega)]
  refine wq_if (fun d => wq_some ⟨Or.inl ⟨rfl, fun z => d z.2.1⟩, rfl⟩) (fun d => ?_)
  have d := Decidable.not_not.mp d
  have c := Decidable.not_not.mp c
  rw [e_hourAt (V := V) he h1 h2 (by omega) (by omega), bI_s, show ((0 : Int)).toNat = 0 from rfl, show ((0 : Int) + 1).toNat = 1 from rfl, i32_id (x := V 79 0 * 256 + V 79 1) (by omega) (by omega), i32_id (x := 9999) (by omega) (by omega)]
  refine wq_if (fun g => ?_) (fun g => wq_some ⟨Or.inl ⟨rfl, fun z => g z.2.2.1⟩, rfl⟩)
  unfold f_Now_isPicture_L72
  refine wq_lp (fun z => z.1 = nS V ∧ z.2.1 = nW V ∧ (0 ≤ z.2.2.1 ∧ z.2.2.1 ≤ nS V) ∧ (∀ s : Int, 0 ≤ s → s < z.2.2.1 → V 79 (2 + s).toNat < rd V s) ∧ z.2.2.2 = M) (fun z => (nS V - z.2.2.1).toNat) ?_ FU _ ?_ ?_
  · rintro kH ⟨v2, v3, v5, N⟩ ⟨q1, q2, q3, q4, q5⟩ hk'
    have a1 : v2 = nS V := q1
    have a2 : v3 = nW V := q2
    have a3 : 0 ≤ v5 ∧ v5 ≤ nS V := q3
    have a4 : ∀ s : Int, 0 ≤ s → s < v5 → V 79 (2 + s).toNat < rd V s := q4
    have a5 : N = M := q5
    clear q1 q2 q3 q4 q5
    show wq (f_Now_isPicture_B72 (fun v2 v3 v5 M => kH (v2, v3, v5, M)) _ v2 v3 v5 N) _
    rw [a1, a2, a5]
    unfold f_Now_isPicture_B72
    rw [i32_id (x := nS V) (by omega) (by omega), i32_id (x := v5) (by omega) (by omega)]
    refine wq_if (fun x => ?_) (fun x => ?_)
    · dsimp only
      unfold f_Now_isPicture_L112
      refine wq_lp (fun z => z.1 = nS V ∧ z.2.1 = nW V ∧ (0 ≤ z.2.2.1 ∧ z.2.2.1 ≤ nW V) ∧ (∀ w : Int, 0 ≤ w → w < z.2.2.1 → wkOk V (2 + nS V + 4 * w) w) ∧ z.2.2.2 = M) (fun z => (nW V - z.2.2.1).toNat) ?_ FU _ ?_ ?_
      · rintro kG ⟨u2, u3, u5, B⟩ ⟨p1, p2, p3, p4, p5⟩ hg
        have g1 : u2 = nS V := p1
        have g2 : u3 = nW V := p2
        have g3 : 0 ≤ u5 ∧ u5 ≤ nW V := p3
        have g4 : ∀ w : Int, 0 ≤ w → w < u5 → wkOk V (2 + nS V + 4 * w) w := p4
        have g5 : B = M := p5
        clear p1 p2 p3 p4 p5
        show wq (f_Now_isPicture_B112 (fun v2 v3 v5 M => kG (v2, v3, v5, M)) u2 u3 u5 B) _
        rw [g1, g2, g5]
        unfold f_Now_isPicture_B112
        rw [i32_id (x := nW V) (by omega) (by omega), i32_id (x := u5) (by omega) (by omega)]
        refine wq_if (fun y => wq_some ⟨Or.inr ⟨rfl, c, d, g, fun s s1 s2 => a4 s s1 (by omega), fun w w1 w2 => g4 w w1 (by omega)⟩, rfl⟩) (fun y => ?_)
        refine wq_I (s_isWalkerC (V := V) hT hc he h1 h2 hb (by omega) (by omega) g3.1 (by omega)) (fun r3 M3 ⟨t1, t2⟩ => ?_)
        have t1 : (r3 = 0 ∧ ¬ wkOk V (2 + nS V + 4 * u5) u5) ∨ (r3 = 1 ∧ wkOk V (2 + nS V + 4 * u5) u5) := t1
        have t2 : M3 = M := t2
        rw [t2]
        rcases t1 with ⟨t3, t4⟩ | ⟨t3, t4⟩
        · rw [t3]
          exact wq_e (fun z => z (by decide)) (wq_some ⟨Or.inl ⟨rfl, fun z => t4 (z.2.2.2.2 u5 g3.1 (by omega))⟩, rfl⟩)
        · rw [t3]
          refine wq_t (by decide) (hg _ ⟨rfl, rfl, ⟨show 0 ≤ u5 + 1 by omega, show u5 + 1 ≤ nW V by omega⟩, fun w w1 w2 => ?_, rfl⟩ (show (nW V - (u5 + 1)).toNat < (nW V - u5).toNat by omega))
          have w2 : w < u5 + 1 := w2
          by_cases t : w = u5
          · rw [t]; exact t4
          · exact g4 w w1 (by omega)
      · exact ⟨rfl, rfl, ⟨Int.le_refl _, hW.1⟩, fun w w1 w2 => absurd w2 (by show ¬ w < 0; omega), rfl⟩
      · show (nW V - 0).toNat < 1000000000
        omega
    · have bs := hb (2 + v5).toNat
      have hrd := (hT.2.2.2.1 v5 a3.1 (by omega)).2.2.2.2.1
      have e9 : M 9 v5.toNat = rd V v5 := (hc.2.1 v5 a3.1 (by omega)).2.2.2.1
      rw [e_byteAt he h1 (by omega) (by omega), bI_s, h2, e_cell_in (n := 12) M rfl (by decide) a3.1 (by omega), bI_s, e9, i32_id (x := V 79 (2 + v5).toNat) (by omega) (by omega), i32_id (x := rd V v5) (by omega) (by omega)]
      refine wq_if (fun w => hk' _ ⟨rfl, rfl, ⟨show 0 ≤ v5 + 1 by omega, show v5 + 1 ≤ nS V by omega⟩, fun s s1 s2 => ?_, rfl⟩ (show (nS V - (v5 + 1)).toNat < (nS V - v5).toNat by omega)) (fun w => wq_some ⟨Or.inl ⟨rfl, fun z => w (z.2.2.2.1 v5 a3.1 (by omega))⟩, rfl⟩)
      have s2 : s < v5 + 1 := s2
      by_cases t : s = v5
      · rw [t]; exact w
      · exact a4 s s1 (by omega)
  · exact ⟨rfl, rfl, ⟨Int.le_refl _, hS.1⟩, fun s s1 s2 => absurd s2 (by show ¬ s < 0; omega), rfl⟩
  · show (nS V - 0).toNat < 1000000000
    omega
