def lTn : List (Nat × Nat) := (78, 33) :: lTm
section Mtn
variable {U T : Nat → Int} {e p g : Int} {S : Tn} {M : Mm}
/-- the reference behind a statement and its sign -/
def Me (U T : Nat → Int) (e : Int) (n : Nat) (z : Tn × Int × Int) (M : Mm) : Prop := Md U T e z M ∧ M 78 33 = (n : Int) + 1
theorem Md.fr {z : Tn × Int × Int} {M' : Mm} (h : Md U T e z M) (hF : Fr [(78, 33)] M M') : Md U T e z M' := by
  obtain ⟨h1, h2, h3, h4, h5, h6⟩ := h
  exact ⟨h1.fr hF rfl, h2.fr hF rfl rfl, h3.eq (hF.row 100 rfl) (hF.row 101 rfl) (hF.row 104 rfl) (hF.row 105 rfl) (hF.at 78 32 rfl), ⟨by rw [hF.at 78 35 rfl]; exact h4.1, fun k hk => by rw [hF.row 102 rfl]; exact h4.2.1 k hk, fun k hk => by rw [hF.row 102 rfl]; exact h4.2.2 k hk⟩, h5, h6⟩
theorem m_j98 {R0 : Rs (Tn × Int × Int)} {n : Nat} {M0 : Mm} (hB : Bt T e) (hO : Om T e R0 (Md U T e) M) (hU : Uo U M) (hQ : Uq M0 M) (hF : Fr lTm M0 M) (hn : M 78 33 = (n : Int)) : wq (f_M_statementTold_J98 M) (fun M' => Om T e (rb R0 (fun z => if bte T e (sk T e z.2.1) = 59 then .inr (z.1, sk T e z.2.1 + 1, z.2.2) else .inl (1, sk T e z.2.1))) (Me U T e n) M' ∧ Uo U M' ∧ Uq M0 M' ∧ Fr lTn M0 M') := by
  unfold f_M_statementTold_J98
  rcases Om_cs hO with ⟨f, a1, a2⟩ | ⟨⟨S', p', g'⟩, a1, a2, a3, a4, a5, a6, a7⟩
  · rw [a1, e_asksSign_f a2, bV_s, hn]
    dsimp only [rb]
    have FX : Fr [(78, 33)] M (up M 78 33 ((n : Int) + 1)) := Fr.rf.up (by simp)
    exact wq_d (wq_some ⟨a2.fr FX rfl, fun k hk => by rw [FX.row 102 rfl]; exact hU k hk, hQ.tr (Uq.of FX rfl), (hF.cov rfl : Fr lTn _ _).tr (FX.cov rfl)⟩)
  · have a2 : Sm T e p' g' M := a2
    have a3 : Dnm S' M := a3
    have a4 : Drm S' M := a4
    have a5 : Cm U S' M := a5
    have a6 : Ws S' := a6
    have a7 : S'.C.length ≤ p'.toNat := a7
    have hp0 := a2.2.2.2.2.2.1
    have hs := sk_rng T hp0.1 hp0.2
    rw [a1]
    show wq _ (fun M' => Om T e (if bte T e (sk T e p') = 59 then .inr (S', sk T e p' + 1, g') else .inl (1, sk T e p')) (Me U T e n) M' ∧ _)
    refine wq_V (s_asksSign hB a2 (by decide)) (fun M1 ⟨b1, b2⟩ => ?_)
    have b2 : Fr mnL M M1 := Fr.mono b2 (by simp [mnL, smL])
    rw [b2.at 78 33 rfl, hn]
    have FX : Fr [(78, 33)] M1 (up M1 78 33 ((n : Int) + 1)) := Fr.rf.up (by simp)
    have e33 : up M1 78 33 ((n : Int) + 1) 78 33 = (n : Int) + 1 := up_eq _ _ _ _
    generalize up M1 78 33 ((n : Int) + 1) = X at *
    refine wq_d (wq_some ⟨?_, fun k hk => by rw [FX.row 102 rfl, b2.row 102 rfl]; exact hU k hk, (hQ.tr (Uq.of b2 rfl)).tr (Uq.of FX rfl), (hF.cov rfl : Fr lTn _ _).tr ((b2.cov rfl : Fr lTn _ _).tr (FX.cov rfl))⟩)
    rcases b1 with ⟨c1, c2⟩ | ⟨c1, c2⟩
    · rw [if_pos c1]
      refine ⟨Md.fr (M := M1) ⟨c2, a3.fr b2 rfl rfl, a4.eq (b2.row 100 rfl) (b2.row 101 rfl) (b2.row 104 rfl) (b2.row 105 rfl) (b2.at 78 32 rfl), ⟨by rw [b2.at 78 35 rfl]; exact a5.1, fun k hk => by rw [b2.row 102 rfl]; exact a5.2.1 k hk, fun k hk => by rw [b2.row 102 rfl]; exact a5.2.2 k hk⟩, a6, ?_⟩ FX, e33⟩
      show S'.C.length ≤ (sk T e p' + 1).toNat
      omega
    · rw [if_neg c1]
      exact c2.fr FX rfl
theorem m_stmt {n : Nat} (hB : Bt T e) (hsm : Sm T e p g M) (hp : sk T e p = p) (hN : Dnm S M) (hR : Drm S M) (hC : Cm U S M) (hS : Ws S) (hl : S.C.length ≤ p.toNat) (hn : M 78 33 = (n : Int)) (hn2 : n ≤ 70) : wq (f_M_statementTold M) (fun M' => Om T e (stmt T e n S p g) (Me U T e n) M' ∧ Uo U M' ∧ Uq M M' ∧ Fr lTn M M') := by
  have hh1 := hB.1
  have hp0 := hsm.2.2.2.2.2.1
  have h2 : M 78 2 = p := hsm.2.2.1
  unfold f_M_statementTold
  rw [hn, h2, i32_id (x := (n : Int)) (by omega) (by omega), i32_id (x := 70) (by decide) (by decide)]
  have kp : ∀ {N : Mm}, Fr mnL M N → Dnm S N ∧ Drm S N ∧ Cm U S N ∧ Uo U N ∧ Uq M N ∧ Fr lTm M N ∧ N 78 33 = (n : Int) := fun {N} z => ⟨hN.fr z rfl rfl, hR.eq (z.row 100 rfl) (z.row 101 rfl) (z.row 104 rfl) (z.row 105 rfl) (z.at 78 32 rfl), ⟨by rw [z.at 78 35 rfl]; exact hC.1, fun k hk => by rw [z.row 102 rfl]; exact hC.2.1 k hk, fun k hk => by rw [z.row 102 rfl]; exact hC.2.2 k hk⟩, fun k hk => by rw [z.row 102 rfl]; exact hC.2.2 k hk, Uq.of z rfl, z.cov rfl, by rw [z.at 78 33 rfl]; exact hn⟩
  by_cases h70 : n = 70
  · have hst : stmt T e n S p g = .inl (5, p) := by unfold stmt; rw [if_pos h70, hp]
    rw [hst]
    refine wq_e (fun z => z (by omega)) (wq_V (s_mfail hsm (by decide) (by omega)) (fun M1 ⟨a1, a2⟩ => ?_))
    have f1 : Fr mnL M M1 := Fr.mono a2 (by simp [mnL, smL])
    obtain ⟨k1, k2, k3, k4, k5, k6, k7⟩ := kp f1
    exact wq_some ⟨a1, k4, k5, k6.cov rfl⟩
  · rw [stmt_nf h70, hp]
    refine wq_t (by omega) ?_
    have fin : ∀ (R0 : Rs (Tn × Int × Int)) (N0 N : Mm), Fr mnL M N0 → (Om T e R0 (Md U T e) N ∧ Uo U N ∧ Uq N0 N ∧ Fr lTm N0 N) → wq (f_M_statementTold_J98 N) (fun M' => Om T e (rb R0 (fun z => if bte T e (sk T e z.2.1) = 59 then .inr (z.1, sk T e z.2.1 + 1, z.2.2) else .inl (1, sk T e z.2.1))) (Me U T e n) M' ∧ Uo U M' ∧ Uq M M' ∧ Fr lTn M M') := by
      intro R0 N0 N z ⟨y1, y2, y3, y4⟩
      obtain ⟨k1, k2, k3, k4, k5, k6, k7⟩ := kp z
      exact m_j98 hB y1 y2 (k5.tr y3) (k6.tr y4) (by rw [y4.at 78 33 rfl]; exact k7)
    refine wq_I (s_takes hB hsm rw_81) (fun r M1 ⟨a1, a2⟩ => ?_)
    have f1 : Fr mnL M M1 := Fr.mono a2 (by simp [mnL, smL])
    rw [hp] at a1
    obtain ⟨k1, k2, k3, k4, k5, k6, k7⟩ := kp f1
    rcases a1 with ⟨b1, b2, b3⟩ | ⟨b1, b2, b3⟩
    · have b1 : r = 1 := b1
      have b3 : Sm T e (p + 5) (p + 5) M1 := b3
      rw [b1, if_pos (hwq_iff.mpr b2)]
      exact wq_e (by decide) (wq_V (m_plc hB b3 k1 k2 k3 hS (by omega) (by omega)) (fun N hN' => fin _ M1 N f1 hN'))
    have b1 : r = 0 := b1
    have b3 : Sm T e p g M1 := b3
    rw [b1, if_neg (fun z => b2 (hwq_iff.mp z))]
    refine wq_t rfl (wq_I (s_takes hB b3 rw_82) (fun r2 M3 ⟨a3, a4⟩ => ?_))
    have f3 : Fr mnL M M3 := f1.tr (Fr.mono a4 (by simp [mnL, smL]))
    rw [hp] at a3
    obtain ⟨k1, k2, k3, k4, k5, k6, k7⟩ := kp f3
    rcases a3 with ⟨b4, b5, b6⟩ | ⟨b4, b5, b6⟩
    · have b4 : r2 = 1 := b4
      have b6 : Sm T e (p + 6) (p + 6) M3 := b6
      rw [b4, if_pos (hwq_iff.mpr b5)]
      exact wq_e (by decide) (wq_V (m_street hB b6 k1 k2 k3 hS (by omega) (by omega)) (fun N hN' => fin _ M3 N f3 hN'))
    have b4 : r2 = 0 := b4
    have b6 : Sm T e p g M3 := b6
    rw [b4, if_neg (fun z => b5 (hwq_iff.mp z))]
    refine wq_t rfl (wq_I (s_takes hB b6 rw_89) (fun r3 M5 ⟨a5, a6⟩ => ?_))
    have f5 : Fr mnL M M5 := f3.tr (Fr.mono a6 (by simp [mnL, smL]))
    rw [hp] at a5
    obtain ⟨k1, k2, k3, k4, k5, k6, k7⟩ := kp f5
    rcases a5 with ⟨b7, b8, b9⟩ | ⟨b7, b8, b9⟩
    · have b7 : r3 = 1 := b7
      have b9 : Sm T e (p + 6) (p + 6) M5 := b9
      rw [b7, if_pos (hwq_iff.mpr b8)]
      exact wq_e (by decide) (wq_V (m_walker hB b9 k1 k2 k3 hS (by omega) (by omega)) (fun N hN' => fin _ M5 N f5 hN'))
    have b7 : r3 = 0 := b7
    have b9 : Sm T e p g M5 := b9
    rw [b7, if_neg (fun z => b8 (hwq_iff.mp z))]
    unfold beRes anR
    have fb : ∀ (R0 : Rs (Tn × Int × Int)) (N : Mm) (v : Int), Fr mnL M N → (∀ X, Fr [(78, 32)] N X → X 78 32 = v → Om T e R0 (Md U T e) X) → wq (bd (up N 78 32 v) (fun M10 => f_M_statementTold_J98 M10)) (fun M' => Om T e (rb R0 (fun z => if bte T e (sk T e z.2.1) = 59 then .inr (z.1, sk T e z.2.1 + 1, z.2.2) else .inl (1, sk T e z.2.1))) (Me U T e n) M' ∧ Uo U M' ∧ Uq M M' ∧ Fr lTn M M') := by
      intro R0 N v z hO
      have FX : Fr [(78, 32)] N (up N 78 32 v) := Fr.rf.up (by simp)
      obtain ⟨k1, k2, k3, k4, k5, k6, k7⟩ := kp z
      exact wq_d (fin R0 N _ z ⟨hO _ FX (up_eq _ _ _ _), fun k hk => by rw [FX.row 102 rfl]; exact k4 k hk, Uq.of FX rfl, FX.cov rfl⟩)
    refine wq_t rfl (wq_V (m_asks hB b9 rw_92) (fun M7 ⟨c1, c2⟩ => ?_))
    have f7 : Fr mnL M M7 := f5.tr c2
    rcases Om_cs c1 with ⟨f, d1, d2⟩ | ⟨p1, d1, d2, d3⟩
    · rw [d1, e_mnum_f d2, bI_s]
      exact fb (.inl f) M7 0 f7 (fun X FX _ => d2.fr FX rfl)
    rw [d1]
    dsimp only [rb]
    refine wq_I (m_number hB d2 (by decide) (by decide)) (fun r4 M8 ⟨c3, c4⟩ => ?_)
    have f8 : Fr mnL M M8 := f7.tr c4
    obtain ⟨k1, k2, k3, k4, k5, k6, k7⟩ := kp f8
    rcases Om_cs c3 with ⟨f, d4, d5⟩ | ⟨⟨p2, v⟩, d4, d5, d6, d7, d8⟩
    · have d5 : Fm T e f.1 f.2 M8 := d5
      rw [d4]
      exact fb (.inl f) M8 r4 f8 (fun X FX _ => d5.fr FX rfl)
    · have d5 : r4 = v := d5
      have d6 : 0 ≤ v ∧ v ≤ 999 := d6
      have d7 : Sm T e p2 p2 M8 := d7
      have d8 : p1 < p2 := d8
      rw [d4, d5]
      refine fb (.inr (addB S v, p2, p2)) M8 v f8 (fun X FX hX => ⟨d7.fr FX rfl, Dnm.eq (S := addB S v) (M := M8) k1 (FX.row 98 rfl) (FX.row 99 rfl), ⟨fun s hs => ?_, fun w hw j hj => ?_, hX⟩, ⟨by rw [FX.at 78 35 rfl]; exact k3.1, fun k hk => by rw [FX.row 102 rfl]; exact k3.2.1 k hk, fun k hk => by rw [FX.row 102 rfl]; exact k3.2.2 k hk⟩, ⟨hS.1, hS.2.1, hS.2.2.1, d6⟩, ?_⟩)
      · rw [FX.row 100 rfl, FX.row 104 rfl, FX.row 105 rfl]
        exact k2.1 s hs
      · rw [FX.row 101 rfl]
        exact k2.2.1 w hw j hj
      · show S.C.length ≤ p2.toNat
        omega
/-- the reference behind the reading of a town -/
def MtQ (U T : Nat → Int) (e : Int) (R : Rs (Tn × Nat)) (M : Mm) : Prop := (∃ f, R = .inl f ∧ Fm T e f.1 f.2 M) ∨ (∃ S n p g, R = .inr (S, n) ∧ n ≤ 70 ∧ Md U T e (S, p, g) M ∧ M 78 33 = (n : Int))
def MtI (U T : Nat → Int) (e : Int) (R : Rs (Tn × Nat)) (M : Mm) : Prop := (∃ f, R = .inl f ∧ Fm T e f.1 f.2 M) ∨ (∃ S n p g, n ≤ 70 ∧ tnF T e (71 - n) n S p g = R ∧ Md U T e (S, p, g) M ∧ M 78 33 = (n : Int))
theorem m_loop {R : Rs (Tn × Nat)} {M0 : Mm} {kx : Mm → Option (Int × Mm)} {Q : Int × Mm → Prop} (hB : Bt T e) (hI : MtI U T e R M) (hU : Uo U M) (hQ : Uq M0 M) (hF : Fr lTn M0 M) (hk : ∀ N, MtQ U T e R N → Uo U N → Uq M0 N → Fr lTn M0 N → wq (kx N) Q) : wq (f_M_town_L68 kx FU M) Q := by
  unfold f_M_town_L68
  refine wq_lp (fun z => MtI U T e R z ∧ Uo U z ∧ Uq M0 z ∧ Fr lTn M0 z) (fun z => if z 78 5 = 0 then (72 - z 78 33).toNat else 0) ?_ FU _ ⟨hI, hU, hQ, hF⟩ ?_
  · rintro kH N ⟨q1, q2, q3, q4⟩ hg
    show wq (f_M_town_B68 kH kx N) _
    unfold f_M_town_B68
    rcases q1 with ⟨f, a1, a2⟩ | ⟨S, n, p, g, a1, a2, a3, a4⟩
    · have hkk := a2.2.2.2.2.1
      rw [a2.2.2.1, i32_id (x := f.1) (by omega) (by omega)]
      exact wq_t (by omega) (hk N (Or.inl ⟨f, a1, a2⟩) q2 q3 q4)
    · obtain ⟨b1, b2, b3, b4, b5, b6⟩ := a3
      have b1 : Sm T e p g N := b1
      have b2 : Dnm S N := b2
      have b3 : Drm S N := b3
      have b4 : Cm U S N := b4
      have b5 : Ws S := b5
      have b6 : S.C.length ≤ p.toNat := b6
      have hp0 := b1.2.2.2.2.2.1
      have hs := sk_rng T hp0.1 hp0.2
      have hss := sk_sk T (e := e) (p := p) hp0.1
      have hbr := bte_rng hB (sk T e p)
      rw [b1.2.2.2.2.1]
      refine wq_e (fun z => z rfl) (wq_I (s_look hB b1) (fun r M1 ⟨c1, c2, c3⟩ => ?_))
      have c1 : r = bte T e (sk T e p) := c1
      have c2 : Sm T e (sk T e p) g M1 := c2
      have c3 : Fr mnL N M1 := Fr.mono c3 (by simp [mnL])
      have d2 : Dnm S M1 := b2.fr c3 rfl rfl
      have d3 : Drm S M1 := b3.eq (c3.row 100 rfl) (c3.row 101 rfl) (c3.row 104 rfl) (c3.row 105 rfl) (c3.at 78 32 rfl)
      have d4 : Cm U S M1 := ⟨by rw [c3.at 78 35 rfl]; exact b4.1, fun k hk => by rw [c3.row 102 rfl]; exact b4.2.1 k hk, fun k hk => by rw [c3.row 102 rfl]; exact b4.2.2 k hk⟩
      have d6 : S.C.length ≤ (sk T e p).toNat := by omega
      have d7 : M1 78 33 = (n : Int) := by rw [c3.at 78 33 rfl]; exact a4
      have d8 : Uq M0 M1 := q3.tr (Uq.of c3 rfl)
      have d9 : Fr lTn M0 M1 := q4.tr (c3.cov rfl)
      rw [c1, i32_id (x := bte T e (sk T e p)) (by omega) (by omega), i32_id (x := (-1)) (by decide) (by decide)]
      rw [show 71 - n = (70 - n) + 1 by omega] at a2
      unfold tnF at a2
      have hiff : bte T e (sk T e p) = -1 ↔ sk T e p = e := by
        constructor
        · intro z
          by_cases y : sk T e p < e
          · rw [bte_in (by omega) y] at z
            have := hB.2 (sk T e p).toNat
            omega
          · omega
        · intro z
          exact bte_out (by omega)
      refine wq_if (fun z => ?_) (fun z => ?_)
      · rw [if_pos (hiff.mp z)] at a2
        exact hk M1 (Or.inr ⟨S, n, _, _, a2.symm, a1, ⟨c2, d2, d3, d4, b5, d6⟩, d7⟩) d4.2.2 d8 d9
      · rw [if_neg (fun y => z (hiff.mpr y))] at a2
        refine wq_V (m_stmt hB c2 hss d2 d3 d4 b5 d6 d7 a1) (fun M2 ⟨g1, g2, g3, g4⟩ => ?_)
        have hst : stmt T e n S (sk T e p) g = stmt T e n S p g := by
          unfold stmt
          rw [hss, hwq_sk T e wPlace g hp0.1, hwq_sk T e wStreet g hp0.1, hwq_sk T e wWalker g hp0.1, beRes_sk hp0.1]
        rw [hst] at g1
        have h33 : N 78 33 = (n : Int) := a4
        have h5 : N 78 5 = 0 := b1.2.2.2.2.1
        rcases Om_cs g1 with ⟨f, k1, k2⟩ | ⟨⟨S', p', g'⟩, k1, k2, k3⟩
        · rw [k1] at a2
          refine hg M2 ⟨Or.inl ⟨f, a2.symm, k2⟩, g2, d8.tr g3, d9.tr g4⟩ ?_
          have hkk := k2.2.2.2.2.1
          show (if M2 78 5 = 0 then (72 - M2 78 33).toNat else 0) < (if N 78 5 = 0 then (72 - N 78 33).toNat else 0)
          rw [k2.2.2.1, if_neg (by omega), if_pos h5, h33]
          omega
        · rw [k1] at a2
          have hn70 : n ≠ 70 := by
            intro y
            unfold stmt at k1
            rw [if_pos y] at k1
            cases k1
          refine hg M2 ⟨Or.inr ⟨S', n + 1, p', g', by omega, by rw [show 71 - (n + 1) = 70 - n by omega]; exact a2, k2, by rw [k3]; push_cast; rfl⟩, g2, d8.tr g3, d9.tr g4⟩ ?_
          show (if M2 78 5 = 0 then (72 - M2 78 33).toNat else 0) < (if N 78 5 = 0 then (72 - N 78 33).toNat else 0)
          rw [k3, h33, if_pos h5, if_pos (show M2 78 5 = 0 from k2.1.2.2.2.2.1)]
          omega
  · show (if M 78 5 = 0 then (72 - M 78 33).toNat else 0) < 1000000000
    split
    · rcases hI with ⟨f, a1, a2⟩ | ⟨S, n, p, g, a1, a2, a3, a4⟩
      · have := a2.2.2.2.2.1
        have := a2.2.2.1
        omega
      · rw [a4]
        omega
    · decide
end Mtn
