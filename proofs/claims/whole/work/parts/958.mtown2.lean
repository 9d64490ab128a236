theorem loop_a {α : Type} {B : (Int × Mm → Option α) → Int × Mm → Option α} {kx : Mm → Option α} {Q : α → Prop} {M0 : Mm} {m : Nat} (Inv : Nat → Mm → Prop) (hm : m < 99999) (h0 : Inv 0 M0) (hs : ∀ kH (i : Nat) M, i < m → Inv i M → ∃ M', Inv (i + 1) M' ∧ B kH ((i : Int), M) = kH ((i : Int) + 1, M')) (he : ∀ kH M, Inv m M → B kH ((m : Int), M) = kx M) (hk : ∀ M, Inv m M → wq (kx M) Q) : wq (lp B FU (0, M0)) Q := by
  refine wq_lp (fun z => ∃ i : Nat, z.1 = (i : Int) ∧ i ≤ m ∧ Inv i z.2) (fun z => ((m : Int) + 1 - z.1).toNat) ?_ FU _ ⟨0, rfl, Nat.zero_le _, h0⟩ ?_
  · rintro kH ⟨v, N⟩ ⟨i, q1, q2, q3⟩ hg
    have q1 : v = (i : Int) := q1
    have q3 : Inv i N := q3
    subst q1
    by_cases c : i < m
    · obtain ⟨M', a1, a2⟩ := hs kH i N c q3
      rw [a2]
      refine hg _ ⟨i + 1, by push_cast; rfl, c, a1⟩ ?_
      show ((m : Int) + 1 - ((i : Int) + 1)).toNat < ((m : Int) + 1 - (i : Int)).toNat
      omega
    · have e : i = m := by omega
      subst e
      rw [he kH N q3]
      exact hk N q3
  · show ((m : Int) + 1 - 0).toNat < 1000000000
    omega
theorem ws_S0 : Ws S0 := ⟨⟨⟨Nat.zero_le _, Nat.zero_le _, Nat.zero_le _⟩, fun k w _ hw => absurd hw (Nat.not_lt_zero _)⟩, fun s hs => absurd hs (Nat.not_lt_zero _), fun s hs => absurd hs (Nat.not_lt_zero _), Int.le_refl _, by decide⟩
def lTo : List (Nat × Nat) := [(78, 1), (78, 3), (78, 7), (78, 8), (78, 33), (78, 2), (78, 4), (78, 5), (78, 6), (78, 27), (78, 32), (78, 35), (78, 37), (78, 38), (78, 41), (98, 99999), (99, 99999), (100, 99999), (101, 99999), (102, 99999), (103, 99999), (104, 99999), (105, 99999), (80, 1)]
def lTs : List (Nat × Nat) := [(78, 1), (78, 3), (78, 7), (78, 8), (78, 33), (78, 2), (78, 4), (78, 5), (78, 6), (78, 27), (78, 32), (78, 35), (78, 37), (78, 38), (78, 41), (78, 63), (78, 66), (98, 99999), (99, 99999), (100, 99999), (101, 99999), (102, 99999), (103, 99999), (104, 99999), (105, 99999), (108, 99999)]
/-- the reference's call -/
def TwQ (R : Rs (Tn × Nat)) (N : Mm) (q : Int × Mm) : Prop := q.2 78 1 = 0 ∧ ((∃ f : Int × Int, R = .inl f ∧ q.1 = -1 ∧ q.2 78 7 = f.1 ∧ q.2 78 8 = f.2 ∧ (∀ k : Nat, q.2 80 k = if k = 1 then N 80 1 + 1 else N 80 k) ∧ Rt N q.2 ∧ Fr lTo N q.2) ∨ (∃ S n, R = .inr (S, n) ∧ n ≤ 70 ∧ q.1 = (n : Int) ∧ q.2 78 7 = 0 ∧ q.2 78 8 = -1 ∧ Sd S q.2 ∧ Fr lTs N q.2))
theorem m_town {T : Nat → Int} {e : Int} {N : Mm} (hB : Bt T e) (he : N 78 1 = e) (hT : N 79 = T) (hle : ∀ S n, tnF T e 71 0 S0 0 (-1) = .inr (S, n) → S.C.length ≤ 1600) : wq (f_M_town N) (TwQ (tnF T e 71 0 S0 0 (-1)) N) := by
  have hh := hB.1
  obtain ⟨R, hRR⟩ : ∃ R, R = tnF T e 71 0 S0 0 (-1) := ⟨_, rfl⟩
  rw [← hRR]
  unfold f_M_town
  refine wq_d (wq_d (wq_d (wq_d (wq_d (wq_d (wq_d (wq_d (wq_d ?_))))))))
  obtain ⟨X, hX⟩ : ∃ X, X = up (up (up (up (up (up (up (up (up N 78 3 (N 78 1)) 78 1 0) 78 2 0) 78 4 (-1)) 78 5 0) 78 6 (-1)) 78 33 0) 78 35 0) 78 32 0 := ⟨_, rfl⟩
  rw [← hX]
  have FX : Fr [(78, 3), (78, 1), (78, 2), (78, 4), (78, 5), (78, 6), (78, 33), (78, 35), (78, 32)] N X := by
    rw [hX]
    exact ((((((((Fr.rf.up (by simp)).up (by simp)).up (by simp)).up (by simp)).up (by simp)).up (by simp)).up (by simp)).up (by simp)).up (by simp)
  have c3 : X 78 3 = e := by rw [hX]; simp [up_at, he]
  have c1 : X 78 1 = 0 := by rw [hX]; simp [up_at]
  have c2 : X 78 2 = 0 := by rw [hX]; simp [up_at]
  have c4 : X 78 4 = -1 := by rw [hX]; simp [up_at]
  have c5 : X 78 5 = 0 := by rw [hX]; simp [up_at]
  have c6 : X 78 6 = -1 := by rw [hX]; simp [up_at]
  have c33 : X 78 33 = 0 := by rw [hX]; simp [up_at]
  have c35 : X 78 35 = 0 := by rw [hX]; simp [up_at]
  have c32 : X 78 32 = 0 := by rw [hX]; simp [up_at]
  clear hX
  unfold f_M_town_L50
  refine loop_a (m := 3) (kx := fun M11 => f_M_town_L68 (fun M15 => f_M_town_J90 M15) FU M11) (fun i Y => (∀ k : Nat, k < i → Y 98 k = 0) ∧ Uq X Y ∧ Fr [(98, 99999)] X Y) (by decide) ⟨fun k hk => absurd hk (Nat.not_lt_zero _), Uq.rf, Fr.rf⟩ (fun kH i Y hi h => ⟨up Y 98 i 0, ⟨fun k hk => ?_, h.2.1.up (Or.inl ⟨rfl, hi⟩), h.2.2.up (Or.inr (by simp))⟩, ?_⟩) (fun kH Y h => ?_) (fun Y ⟨y1, y2, y3⟩ => ?_)
  · rw [up_at]
    by_cases c : k = i
    · rw [if_pos ⟨rfl, c⟩]
    · rw [if_neg (fun z => c z.2)]
      exact h.1 k (by omega)
  · show f_M_town_B50 (fun v1 M => kH (v1, M)) (fun M11 => f_M_town_L68 (fun M15 => f_M_town_J90 M15) FU M11) (i : Int) Y = _
    unfold f_M_town_B50
    rw [i32_id (x := 3) (by decide) (by decide), i32_id (x := (i : Int)) (by omega) (by omega), if_neg (by omega), gd_t ⟨by omega, by omega⟩, bd_s, Int.toNat_natCast]
  · show f_M_town_B50 (fun v1 M => kH (v1, M)) (fun M11 => f_M_town_L68 (fun M15 => f_M_town_J90 M15) FU M11) ((3 : Nat) : Int) Y = _
    unfold f_M_town_B50
    rw [if_pos (by decide)]
  have w78 : Y 78 = X 78 := y3.row 78 rfl
  have hMd : Md (N 102) T e (S0, 0, -1) Y := ⟨⟨by rw [w78]; exact c3, by rw [y3.row 79 rfl, FX.row 79 rfl]; exact hT, by rw [w78]; exact c2, by rw [w78]; exact c4, by rw [w78]; exact c5, ⟨Int.le_refl _, hh.1⟩, by decide, by rw [w78]; exact c6⟩, ⟨⟨y1 0 (by decide), fun w hw => absurd hw (Nat.not_lt_zero _)⟩, ⟨y1 1 (by decide), fun w hw => absurd hw (Nat.not_lt_zero _)⟩, ⟨y1 2 (by decide), fun w hw => absurd hw (Nat.not_lt_zero _)⟩⟩, ⟨fun s hs => absurd hs (Nat.not_lt_zero _), fun s hs => absurd hs (Nat.not_lt_zero _), by rw [w78]; exact c32⟩, ⟨by rw [w78]; exact c35, fun k hk => absurd hk (Nat.not_lt_zero _), fun k hk => by rw [y3.row 102 rfl, FX.row 102 rfl]⟩, ws_S0, Nat.zero_le _⟩
  refine m_loop (U := N 102) (R := R) (M0 := Y) hB (Or.inr ⟨S0, 0, 0, -1, by decide, hRR.symm, hMd, by rw [w78]; exact c33⟩) hMd.2.2.2.1.2.2 Uq.rf Fr.rf (fun Z z1 z2 z3 z4 => ?_)
  have z41 : Z 78 1 = 0 := by rw [z4.at 78 1 rfl, w78]; exact c1
  have UZ : Uq N Z := ((Uq.of FX rfl).tr y2).tr z3
  have FZ : Fr lTo N Z := (FX.cov rfl : Fr lTo _ _).tr ((y3.cov rfl : Fr lTo _ _).tr (z4.cov rfl))
  have FZs : Fr lTs N Z := (FX.cov rfl : Fr lTs _ _).tr ((y3.cov rfl : Fr lTs _ _).tr (z4.cov rfl))
  unfold f_M_town_J90
  refine wq_d ?_
  rw [up_col (show ¬ (6 : Nat) = 7 by decide)]
  refine wq_d ?_
  obtain ⟨K, hK⟩ : ∃ K, K = up (up Z 78 7 (Z 78 5)) 78 8 (Z 78 6) := ⟨_, rfl⟩
  rw [← hK]
  have FK : Fr [(78, 7), (78, 8)] Z K := by rw [hK]; exact (Fr.rf.up (by simp)).up (by simp)
  have k7 : K 78 7 = Z 78 5 := by rw [hK]; simp [up_at]
  have k8 : K 78 8 = Z 78 6 := by rw [hK]; simp [up_at]
  clear hK
  have UK : Uq N K := UZ.tr (Uq.of FK rfl)
  have k1 : K 78 1 = 0 := by rw [FK.at 78 1 rfl]; exact z41
  rcases z1 with ⟨f, a1, a2⟩ | ⟨S, n, p, g, a1, a2, a3, a4⟩
  · have hk := a2.2.2.2.2.1
    rw [FK.at 78 5 rfl, a2.2.2.1, i32_id (x := f.1) (by omega) (by omega)]
    refine wq_e (by omega) (wq_d ?_)
    have FL : Fr [(80, 1)] K (up K 80 1 (K 80 1 + 1)) := Fr.rf.up (by simp)
    have e80 : K 80 = N 80 := by rw [FK.row 80 rfl, z4.row 80 rfl, y3.row 80 rfl, FX.row 80 rfl]
    have l80 : ∀ k : Nat, up K 80 1 (K 80 1 + 1) 80 k = if k = 1 then N 80 1 + 1 else N 80 k := by
      intro k
      rw [up_at, e80]
      by_cases c : k = 1
      · rw [if_pos ⟨rfl, c⟩, if_pos c]
      · rw [if_neg (fun z => c z.2), if_neg c]
    generalize up K 80 1 (K 80 1 + 1) = J at *
    have UJ : Uq N J := UK.tr (Uq.of FL rfl)
    obtain ⟨u1, u2, u3, u4, u5, u6⟩ := UJ
    refine wq_some ⟨by show J 78 1 = 0; rw [FL.row 78 rfl]; exact k1, Or.inl ⟨f, a1, rfl, ?_, ?_, l80, ⟨u1, u2, u3, u4, fun k hk' => ?_, u5, u6⟩, FZ.tr ((FK.cov rfl : Fr lTo _ _).tr (FL.cov rfl))⟩⟩
    · show J 78 7 = f.1
      rw [FL.row 78 rfl, k7]; exact a2.2.2.1
    · show J 78 8 = f.2
      rw [FL.row 78 rfl, k8]; exact a2.2.2.2.1
    · show J 102 k = N 102 k
      rw [FL.row 102 rfl, FK.row 102 rfl]
      exact z2 k hk'
  · obtain ⟨b1, b2, b3, b4, b5, b6⟩ := a3
    have b1 : Sm T e p g Z := b1
    have b2 : Dnm S Z := b2
    have b3 : Drm S Z := b3
    have b4 : Cm (N 102) S Z := b4
    have b5 : Ws S := b5
    have hl : S.C.length ≤ 1600 := hle S n (by rw [← hRR]; exact a1)
    rw [FK.at 78 5 rfl, b1.2.2.2.2.1]
    refine wq_t rfl (wq_V (m_stands (Q := fun J => Sd S J ∧ Fr lSt K J) (b2.fr FK rfl rfl) (b3.eq (FK.row 100 rfl) (FK.row 101 rfl) (FK.row 104 rfl) (FK.row 105 rfl) (FK.at 78 32 rfl)) b5 (by rw [FK.at 78 35 rfl]; exact b4.1) (fun k hk => by rw [FK.row 102 rfl]; exact b4.2.1 k hk) hl (fun J j1 j2 => ⟨j1, j2⟩)) (fun J ⟨j1, j2⟩ => wq_some ⟨?_, Or.inr ⟨S, n, a1, a2, ?_, ?_, ?_, j1, FZs.tr ((FK.cov rfl : Fr lTs _ _).tr (j2.cov rfl))⟩⟩))
    · show J 78 1 = 0
      rw [j2.at 78 1 rfl]; exact k1
    · show J 78 33 = (n : Int)
      rw [j2.at 78 33 rfl, FK.at 78 33 rfl]; exact a4
    · show J 78 7 = 0
      rw [j2.at 78 7 rfl, k7]; exact b1.2.2.2.2.1
    · show J 78 8 = -1
      rw [j2.at 78 8 rfl, k8]; exact b1.2.2.2.2.2.2.2
