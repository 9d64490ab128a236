def S0 : Tn := mkT (fun _ => 0) (fun _ => []) (fun _ _ => 0) (fun _ _ => 0) 0 []
section Crd
variable {T : Nat → Int} {e : Int}
theorem stmt_nf {n : Nat} {S : Tn} {p g : Int} (h : n ≠ 70) : stmt T e n S p g = rb (if hwq T e wPlace p g = true then plRes T e S (sk T e p) (sk T e p + 5) else if hwq T e wStreet p g = true then stRes T e S (sk T e p) (sk T e p + 6) else if hwq T e wWalker p g = true then waRes T e S (sk T e p) (sk T e p + 6) else beRes T e S p g) (fun z => if bte T e (sk T e z.2.1) = 59 then .inr (z.1, sk T e z.2.1 + 1, z.2.2) else .inl (1, sk T e z.2.1)) := if_neg h
theorem beRes_sk {S : Tn} {p g : Int} (h0 : 0 ≤ p) : beRes T e S (sk T e p) g = beRes T e S p g := by
  unfold beRes anR wdR
  rw [hwq_sk T e wBegin g h0, sk_sk T h0]
/-- the class behind the reading of a town -/
def RdQ (T : Nat → Int) (e : Int) (R : Rs (Tn × Nat)) (q : Int × Mm) : Prop := (∃ f, R = .inl f ∧ q.1 = -1 ∧ Fb T e f.1 f.2 q.2) ∨ (∃ S n, R = .inr (S, n) ∧ q.1 = (n : Int) ∧ n ≤ 70 ∧ Dn S q.2 ∧ Dr S q.2 ∧ Ws S ∧ S.C.length ≤ 1600 ∧ ∃ p g, Yt T e p g S.C q.2)
def RdI (T : Nat → Int) (e : Int) (R : Rs (Tn × Nat)) (M0 : Mm) (v1 : Int) (N : Mm) : Prop := ∃ (n : Nat) (S : Tn) (p g : Int), v1 = (n : Int) ∧ n ≤ 70 ∧ tnF T e (71 - n) n S p g = R ∧ Yt T e p g S.C N ∧ Dn S N ∧ Dr S N ∧ Ws S ∧ S.C.length ≤ p.toNat ∧ Fr lTc M0 N
theorem c_j133 {R : Rs (Tn × Nat)} {R0 : Rs (Tn × Int × Int)} {M0 M : Mm} {n : Nat} {s0 : Int} {kH : Int → Mm → Option (Int × Mm)} {kx : Mm → Option (Int × Mm)} (hB : Bt T e) (hn : n < 70) (hR : rb (rb R0 (fun z => if bte T e (sk T e z.2.1) = 59 then .inr (z.1, sk T e z.2.1 + 1, z.2.2) else .inl (1, sk T e z.2.1))) (fun z => tnF T e (70 - n) (n + 1) z.1 z.2.1 z.2.2) = R) (hO : Oc T e R0 (Cs T e) (s0, M)) (hF : Fr lTc M0 M) (hk : ∀ N, RdI T e R M0 ((n : Int) + 1) N → wq (kH ((n : Int) + 1) N) (fun q => RdQ T e R q ∧ Fr lTc M0 q.2)) : wq (f_TownR_read_J133 kH kx (n : Int) s0 M) (fun q => RdQ T e R q ∧ Fr lTc M0 q.2) := by
  unfold f_TownR_read_J133
  rcases Oc_cs hO with ⟨f, a1, a2, a3⟩ | ⟨⟨S, p, g⟩, a1, a2, ⟨p', a3, a4⟩, a5, a6, a7, a8, a9⟩
  · rw [a1] at hR
    rw [a2]
    exact wq_t rfl (wq_some ⟨Or.inl ⟨f, hR.symm, rfl, a3⟩, hF⟩)
  · have a3 : sk T e p' = sk T e p := a3
    have a4 : Yt T e p' g S.C M := a4
    have a5 : Dn S M := a5
    have a6 : Dr S M := a6
    have a7 : Ws S := a7
    have a8 : S.C.length ≤ p.toNat := a8
    have a9 : 0 ≤ p ∧ p ≤ e := a9
    have hb := a4.1.2.2.2.2.2.1
    have hsk := sk_rng T a9.1 a9.2
    rw [a2]
    refine wq_e (by decide) (wq_I (s_needSign hB a4.1 (by decide)) (fun r M1 ⟨b1, b2⟩ => ?_))
    have b2 : Fr scL M M1 := b2
    have f1 : Fr lTc M0 M1 := hF.tr (b2.cov rfl)
    rw [a1] at hR
    have hR : rb (if bte T e (sk T e p) = 59 then Sum.inr (S, sk T e p + 1, g) else Sum.inl (1, sk T e p)) (fun z => tnF T e (70 - n) (n + 1) z.1 z.2.1 z.2.2) = R := hR
    rw [a3] at b1
    rcases b1 with ⟨c1, c2, c3⟩ | ⟨c1, c2, c3⟩
    · have c1 : r = 1 := c1
      have c3 : Sc T e (sk T e p + 1) g M1 := c3
      rw [if_pos c2] at hR
      rw [c1]
      refine wq_t (by decide) (hk M1 ⟨n + 1, S, sk T e p + 1, g, by push_cast; rfl, by omega, by rw [show 71 - (n + 1) = 70 - n by omega]; exact hR, a4.sc c3 b2, a5.sc b2, a6.sc b2 rfl, a7, by omega, f1⟩)
    · have c1 : r = 0 := c1
      have c3 : Fb T e 1 (sk T e p) M1 := c3
      rw [if_neg c2] at hR
      rw [c1]
      exact wq_e (by decide) (wq_some ⟨Or.inl ⟨_, hR.symm, rfl, c3⟩, f1⟩)
theorem c_read {M : Mm} (hB : Bt T e) (h1 : M 1 1 = e) (h2 : M 2 = T) (h38 : M 38 2 = 0) : wq (f_TownR_read M) (fun q => RdQ T e (tnF T e 71 0 S0 0 (-1)) q ∧ Fr lTc M q.2) := by
  have hh := hB.1
  obtain ⟨R, hRR⟩ : ∃ R, R = tnF T e 71 0 S0 0 (-1) := ⟨_, rfl⟩
  rw [← hRR]
  unfold f_TownR_read f_Scan_start
  refine wq_V (P := fun M' => Sc T e 0 (-1) M' ∧ Fr scL M M') (wq_d (wq_d (wq_d (wq_d (wq_d (wq_some ⟨⟨?_, ?_, ?_, ?_, ?_, ⟨Int.le_refl _, hh.1⟩, by decide, ?_⟩, ?_⟩)))))) (fun M1 ⟨a1, a2⟩ => ?_)
  · rw [up_col (by decide), up_col (by decide), up_col (by decide), up_col (by decide), up_col (by decide)]; exact h1
  · rw [up_row (by decide), up_row (by decide), up_row (by decide), up_row (by decide), up_row (by decide)]; exact h2
  · rw [up_col (by decide), up_col (by decide), up_col (by decide), up_col (by decide), up_eq]
  · rw [up_col (by decide), up_col (by decide), up_col (by decide), up_eq]
  · rw [up_col (by decide), up_eq]
  · rw [up_eq]
  · exact ((((Fr.rf.up (by simp [scL])).up (by simp [scL])).up (by simp [scL])).up (by simp [scL])).up (by simp [scL])
  unfold f_Told_clear f_Code_clear
  rw [ptr_20_0, ptr_20_12]
  refine wq_V (P := fun M' => RdI T e R M 0 M') ?_ (fun M2 hI => ?_)
  · refine wq_V (s_fill 0 M1 slen_21 (by decide)) (fun N ⟨b1, b2⟩ => ?_)
    refine wq_V (P := fun N' => N' = up (up N 33 3 0) 33 4 0) (wq_d (wq_d (wq_some rfl))) (fun N' hN' => wq_d (wq_some ?_))
    obtain ⟨X, hX⟩ : ∃ X, X = up N' 20 13 0 := ⟨_, rfl⟩
    rw [← hX]
    have FX : Fr [(33, 3), (33, 4), (20, 13)] N X := by rw [hX, hN']; exact ((Fr.rf.up (by simp)).up (by simp)).up (by simp)
    have x3 : X 33 3 = 0 := by rw [hX, hN', up_row (by decide), up_col (by decide), up_eq]
    have x4 : X 33 4 = 0 := by rw [hX, hN', up_row (by decide), up_eq]
    have x13 : X 20 13 = 0 := by rw [hX, up_eq]
    have F1 : Fr [(21, 99999), (33, 3), (33, 4), (20, 13)] M1 X := (b2.cov rfl : Fr _ _ _).tr (FX.cov rfl)
    have e21 : ∀ k : Nat, k < 3 → X 21 k = 0 := fun k hk => by rw [FX.row 21 rfl]; exact b1 k hk
    refine ⟨0, S0, 0, -1, rfl, by decide, hRR.symm, ⟨a1.fr F1 rfl, x3, fun k hk => absurd hk (Nat.not_lt_zero _), x4, by rw [F1.row 38 rfl, a2.row 38 rfl]; exact h38⟩, ⟨⟨e21 0 (by decide), fun w hw => absurd hw (Nat.not_lt_zero _)⟩, ⟨e21 1 (by decide), fun w hw => absurd hw (Nat.not_lt_zero _)⟩, ⟨e21 2 (by decide), fun w hw => absurd hw (Nat.not_lt_zero _)⟩⟩, ⟨fun j s _ hs => absurd hs (Nat.not_lt_zero _), fun j s _ hs => absurd hs (Nat.not_lt_zero _), x13⟩, ⟨⟨⟨Nat.zero_le _, Nat.zero_le _, Nat.zero_le _⟩, fun k w _ hw => absurd hw (Nat.not_lt_zero _)⟩, fun s hs => absurd hs (Nat.not_lt_zero _), fun s hs => absurd hs (Nat.not_lt_zero _), Int.le_refl _, by decide⟩, Nat.zero_le _, (a2.cov rfl : Fr lTc _ _).tr (F1.cov rfl)⟩
  unfold f_TownR_read_L16
  refine wq_lp (fun z => RdI T e R M z.1 z.2) (fun z => (71 - z.1).toNat) ?_ FU _ hI ?_
  · rintro kH ⟨v1, N⟩ ⟨n, S, p, g, q1, q2, q3, q4, q5, q6, q7, q8, q9⟩ hk
    have q1 : v1 = (n : Int) := q1
    have q4 : Yt T e p g S.C N := q4
    have q5 : Dn S N := q5
    have q6 : Dr S N := q6
    have q9 : Fr lTc M N := q9
    subst q1
    show wq (f_TownR_read_B16 (fun v1 M => kH (v1, M)) (fun M21 => bI (f_Scan_fail 5 (M21 1 2) M21) (fun r23 M22 => some ((-1), M22))) (n : Int) N) _
    unfold f_TownR_read_B16
    have hp0 := q4.1.2.2.2.2.2.1
    have hs1 := sk_rng T hp0.1 hp0.2
    have hss := sk_sk T (e := e) (p := p) hp0.1
    rw [i32_id (x := 70) (by decide) (by decide), i32_id (x := (n : Int)) (by omega) (by omega)]
    refine wq_e (by omega) (wq_I (s_atEnd hB q4.1) (fun r M3 ⟨b1, b2, b3⟩ => ?_))
    have b2 : Sc T e (sk T e p) g M3 := b2
    have b3 : Fr [(1, 2)] N M3 := b3
    have b3s : Fr scL N M3 := b3.cov rfl
    have f3 : Fr lTc M M3 := q9.tr (b3.cov rfl)
    have y3 : Yt T e (sk T e p) g S.C M3 := q4.sc b2 b3s
    have d3 := q5.sc b3s
    have w3 := q6.sc b3s rfl
    rw [show 71 - n = (70 - n) + 1 by omega] at q3
    unfold tnF at q3
    rcases b1 with ⟨c1, c2⟩ | ⟨c1, c2⟩
    · have c1 : r = 1 := c1
      rw [if_pos c2] at q3
      rw [c1]
      exact wq_e (by decide) (wq_some ⟨Or.inr ⟨S, n, q3.symm, rfl, q2, d3, w3, q7, by omega, _, _, y3⟩, f3⟩)
    · have c1 : r = 0 := c1
      rw [if_neg c2] at q3
      rw [c1]
      refine wq_t rfl ?_
      by_cases hn : n = 70
      · refine wq_e (fun z => z (by omega)) ?_
        show wq (bI (f_Scan_fail 5 (M3 1 2) M3) (fun r23 M22 => some ((-1), M22))) _
        rw [b2.2.2.1]
        refine wq_I (s_fail b2 (by decide) (by omega)) (fun r4 M4 ⟨k1, k2, k3⟩ => wq_some ⟨Or.inl ⟨(5, sk T e p), ?_, rfl, k2⟩, f3.tr (k3.cov rfl)⟩)
        rw [← q3]
        unfold stmt
        rw [if_pos hn]
        rfl
      · refine wq_t (by omega) ?_
        rw [stmt_nf hn] at q3
        have fin : ∀ (R0 : Rs (Tn × Int × Int)) (s0 : Int) (M4 : Mm), rb (rb R0 (fun z => if bte T e (sk T e z.2.1) = 59 then .inr (z.1, sk T e z.2.1 + 1, z.2.2) else .inl (1, sk T e z.2.1))) (fun z => tnF T e (70 - n) (n + 1) z.1 z.2.1 z.2.2) = R → Oc T e R0 (Cs T e) (s0, M4) → Fr lTc M M4 → wq (f_TownR_read_J133 (fun v1 M => kH (v1, M)) (fun M21 => bI (f_Scan_fail 5 (M21 1 2) M21) (fun r23 M22 => some ((-1), M22))) (n : Int) s0 M4) (fun q => RdQ T e R q ∧ Fr lTc M q.2) := fun R0 s0 M4 e1 e2 e3 => c_j133 hB (by omega) e1 e2 e3 (fun N' hN' => hk ((n : Int) + 1, N') hN' (by show (71 - ((n : Int) + 1)).toNat < (71 - (n : Int)).toNat; omega))
        have hwk : ∀ L, hw T e L (sk T e p) g ↔ hwq T e L p g = true := fun L => (hw_sk hp0.1).trans hwq_iff.symm
        have hl3 : S.C.length ≤ (sk T e p).toNat := by omega
        refine wq_I (s_atWord hB b2 cw_0) (fun r5 M5 ⟨m1, m2, m3⟩ => ?_)
        rw [hss] at m2
        have m2 : Sc T e (sk T e p) g M5 := m2
        have m3 : Fr [(1, 2)] M3 M5 := m3
        have m3s : Fr scL M3 M5 := m3.cov rfl
        have f5 : Fr lTc M M5 := f3.tr (m3.cov rfl)
        have y5 := y3.sc m2 m3s
        have d5 := d3.sc m3s
        have w5 := w3.sc m3s rfl
        rcases m1 with ⟨m4, m5⟩ | ⟨m4, m5⟩
        · have m4 : r5 = 1 := m4
          rw [m4]
          rw [if_pos ((hwk _).mp m5)] at q3
          refine wq_e (by decide) (wq_I (c_plc hB y5 hss m5 q7 d5 w5 hl3) (fun r6 M6 ⟨o1, o2, o3⟩ => ?_))
          have o1 : Oc T e (plRes T e S (sk T e p) (sk T e p + 5)) (Cs T e) (if r6 = -1 then 0 else 1, M6) := o1
          have o2 : -1 ≤ r6 ∧ r6 ≤ 100 := o2
          have o3 : Fr lTc M5 M6 := o3
          rw [i32_id (x := r6) (by omega) (by omega), i32_id (x := (-1)) (by decide) (by decide)]
          refine wq_if (fun z => ?_) (fun z => ?_)
          · rw [if_pos z] at o1
            exact fin _ _ _ q3 o1 (f5.tr o3)
          · rw [if_neg z] at o1
            exact fin _ _ _ q3 o1 (f5.tr o3)
        · have m4 : r5 = 0 := m4
          rw [m4]
          rw [if_neg (fun z => m5 ((hwk _).mpr z))] at q3
          refine wq_t rfl (wq_I (s_atWord hB m2 cw_2) (fun r7 M7 ⟨n1, n2, n3⟩ => ?_))
          rw [hss] at n2
          have n2 : Sc T e (sk T e p) g M7 := n2
          have n3 : Fr [(1, 2)] M5 M7 := n3
          have n3s : Fr scL M5 M7 := n3.cov rfl
          have f7 : Fr lTc M M7 := f5.tr (n3.cov rfl)
          have y7 := y5.sc n2 n3s
          have d7 := d5.sc n3s
          have w7 := w5.sc n3s rfl
          rcases n1 with ⟨n4, n5⟩ | ⟨n4, n5⟩
          · have n4 : r7 = 1 := n4
            rw [n4]
            rw [if_pos ((hwk _).mp n5)] at q3
            exact wq_e (by decide) (wq_I (c_street hB y7 hss n5 q7 d7 w7 hl3) (fun r6 M6 ⟨o1, o3⟩ => fin _ _ _ q3 o1 (f7.tr o3)))
          · have n4 : r7 = 0 := n4
            rw [n4]
            rw [if_neg (fun z => n5 ((hwk _).mpr z))] at q3
            refine wq_t rfl (wq_I (s_atWord hB n2 cw_17) (fun r9 M9 ⟨s1, s2, s3⟩ => ?_))
            rw [hss] at s2
            have s2 : Sc T e (sk T e p) g M9 := s2
            have s3 : Fr [(1, 2)] M7 M9 := s3
            have s3s : Fr scL M7 M9 := s3.cov rfl
            have f9 : Fr lTc M M9 := f7.tr (s3.cov rfl)
            have y9 := y7.sc s2 s3s
            have d9 := d7.sc s3s
            have w9 := w7.sc s3s rfl
            rcases s1 with ⟨s4, s5⟩ | ⟨s4, s5⟩
            · have s4 : r9 = 1 := s4
              rw [s4]
              rw [if_pos ((hwk _).mp s5)] at q3
              exact wq_e (by decide) (wq_I (c_walker hB y9 hss s5 q7 d9 w9 hl3) (fun r6 M6 ⟨o1, o3⟩ => fin _ _ _ q3 o1 (f9.tr o3)))
            · have s4 : r9 = 0 := s4
              rw [s4]
              rw [if_neg (fun z => s5 ((hwk _).mpr z)), ← beRes_sk hp0.1] at q3
              exact wq_t rfl (wq_I (c_begin hB y9 q7 d9 w9 hl3) (fun r6 M6 ⟨o1, o3⟩ => fin _ _ _ q3 o1 (f9.tr o3)))
  · show (71 - (0 : Int)).toNat < 1000000000
    decide
end Crd
