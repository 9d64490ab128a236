/-- the hours of the reference without waits stand in its row -/
def mz (arr : Int → Int) (t : Int) (N : Mm) : Prop := ∀ p : Int, 0 ≤ p → p < 9 → (arr p = 1000000 ∧ ar N 113 p = 1000000) ∨ (arr p ≠ 1000000 ∧ ar N 113 p = arr p - t ∧ 0 ≤ arr p - t ∧ arr p - t ≤ 32)
theorem s_shortBack {V N : Mm} {lim a t : Int} {arr : Int → Int} (hT : Tw V) (h : Rm V N) (ht : 0 ≤ t) (ht2 : t ≤ 20000) (hlim : lim = t + 400) (hA : isA V [] 0 (-1) lim a t arr) (hm : mz arr t N) {p s0 : Int} (hp : 0 ≤ p ∧ p < 9) (hn : arr p ≠ 1000000) (hs : fsB V [] 0 arr p s0) : wq (f_M_shortBack p N) (fun q => q.1 = s0 ∧ q.2 = N) := by
  have hS := hT.2.1
  have hs0 := stB0.mp hs.1
  unfold f_M_shortBack f_M_shortBack_L2
  refine wq_lp (fun z => z.1 = p ∧ (0 ≤ z.2.1 ∧ z.2.1 ≤ s0) ∧ z.2.2 = N) (fun z => (s0 - z.2.1).toNat) ?_ FU _ ?_ ?_
  · rintro kH ⟨v1, v2, M⟩ ⟨q1, q2, q3⟩ hk
    have e1 : v1 = p := q1
    have e2 : 0 ≤ v2 ∧ v2 ≤ s0 := q2
    have e3 : M = N := q3
    clear q1 q2 q3
    show wq (f_M_shortBack_B2 (fun v1 v2 M => kH (v1, v2, M)) v1 v2 M) _
    rw [e1, e3]
    unfold f_M_shortBack_B2
    have eo := e_other hT h e2.1 (by omega : v2 < nS V) (show -1000000 ≤ p by omega) (show p ≤ 1000000 by omega)
    have hnx : v2 ≠ s0 → wq (kH (p, v2 + 1, N)) (fun q => q.1 = s0 ∧ q.2 = N) := fun z => hk _ ⟨rfl, ⟨show 0 ≤ v2 + 1 by omega, show v2 + 1 ≤ s0 by omega⟩, rfl⟩ (show (s0 - (v2 + 1)).toNat < (s0 - v2).toNat by omega)
    have hor : -1 ≤ oth V v2 p ∧ oth V v2 p < 9 := by
      by_cases c : oth V v2 p = -1
      · omega
      · have := edg_in hT (oth_edg (wo := -1) (p := p) e2.1 (by omega) (by omega) c)
        have := this.2.1
        omega
    rw [eo, bI_s, i32_id (x := oth V v2 p) (by omega) (by omega), i32_id (x := -1) (by omega) (by omega)]
    refine wq_if (fun c => hnx (fun z => ?_)) (fun c => ?_)
    · rw [z] at c
      exact hs0.2.1 c
    · have htk := (hT.2.2.2.1 v2 e2.1 (by omega)).2.2.2.1
      have gA' : N 113 (oth V v2 p).toNat = ar N 113 (oth V v2 p) := rfl
      have gB : N 113 p.toNat = ar N 113 p := rfl
      have m1 := hm (oth V v2 p) (by omega) hor.2
      have m2 := hm p hp.1 hp.2
      have r1 := Sp_rng hT (by omega) hA.2.2 (by omega : 0 ≤ oth V v2 p) hor.2
      have r2 := Sp_rng hT (by omega) hA.2.2 hp.1 hp.2
      rw [eo, bI_s, i32_id (x := oth V v2 p) (by omega) (by omega), e_takes h e2.1 (by omega), bI_s, i32_id (x := p) (by omega) (by omega), gA', gB, i32_id (x := ar N 113 (oth V v2 p) + tk V v2) (by omega) (by omega), i32_id (x := ar N 113 p) (by omega) (by omega)]
      refine wq_g (by omega) (wq_g (by omega) ?_)
      refine wq_if (fun d => wq_some ⟨?_, rfl⟩) (fun d => hnx (fun z => ?_))
      · show v2 = s0
        have hst : stB V [] 0 arr p v2 := stB0.mpr ⟨⟨e2.1, by omega⟩, c, by omega⟩
        have := hs.2 v2
        by_cases z : v2 = s0
        · exact z
        · exact absurd hst (this (by omega))
      · subst z
        have := hs0.2.2
        omega
  · exact ⟨rfl, ⟨Int.le_refl _, hs0.1.1⟩, rfl⟩
  · show (s0 - 0).toNat < 1000000000
    omega
theorem s_stuckRow {V N : Mm} (hT : Tw V) (hN : Nw V) (h : Rm V N) {w v2 h0 st0 s q x : Int} {kx : Int → Int → Int → Int → Int → Mm → Option (Int × Mm)} {Q : Int × Mm → Prop} (h1 : 0 ≤ w) (h2 : w < nW V) (hs1 : 0 ≤ s) (hs2 : s < nS V) (hq : 0 ≤ q ∧ q < 9) (hx : 0 ≤ x ∧ x ≤ 30000) (hb : sto V w + ar N 113 q = x)
    (k : ∀ (M' : Mm) (v4 v5 r : Int), isF (fun y => wid V s y < br V w) x (x + tk V s - 1) (-1) r → ((r = -1 ∧ v4 = h0 ∧ v5 = st0) ∨ (r ≠ -1 ∧ v4 = r ∧ v5 = s)) → Rm V M' → Fr wsL N M' → wq (kx w v2 v4 v5 q M') Q) : wq (f_M_stuck_L90 kx FU (w, v2, h0, st0, s, q, tk V s - 1, N)) Q := by
  have hS := hT.2.1
  have hW := hT.2.2.1
  have htk := (hT.2.2.2.1 s hs1 hs2).2.2.2.1
  have hbr := (hT.2.2.2.2 w h1 h2).1
  have hso := sto_rng hN h1 h2
  unfold f_M_stuck_L90
  refine wq_lp (fun z => z.1 = w ∧ z.2.1 = v2 ∧ z.2.2.2.2.1 = s ∧ z.2.2.2.2.2.1 = q ∧ (-1 ≤ z.2.2.2.2.2.2.1 ∧ z.2.2.2.2.2.2.1 < tk V s) ∧ ((z.2.2.1 = h0 ∧ z.2.2.2.1 = st0 ∧ ∀ j : Int, z.2.2.2.2.2.2.1 < j → j < tk V s → ¬ wid V s (x + j) < br V w) ∨ (z.2.2.2.1 = s ∧ ∃ j0 : Int, z.2.2.1 = x + j0 ∧ z.2.2.2.2.2.2.1 < j0 ∧ j0 < tk V s ∧ wid V s (x + j0) < br V w ∧ ∀ j : Int, z.2.2.2.2.2.2.1 < j → j < j0 → ¬ wid V s (x + j) < br V w)) ∧ Rm V z.2.2.2.2.2.2.2 ∧ Fr wsL N z.2.2.2.2.2.2.2) (fun z => (z.2.2.2.2.2.2.1 + 1).toNat) ?_ FU _ ?_ ?_
  · rintro kH ⟨u1, u2, u4, u5, u6, u7, u8, M⟩ ⟨q1, q2, q3, q4, q5, q6, q7, q8⟩ hk
    have e1 : u1 = w := q1
    have e2 : u2 = v2 := q2
    have e3 : u6 = s := q3
    have e4 : u7 = q := q4
    have e5 : -1 ≤ u8 ∧ u8 < tk V s := q5
    have e6 : (u4 = h0 ∧ u5 = st0 ∧ ∀ j : Int, u8 < j → j < tk V s → ¬ wid V s (x + j) < br V w) ∨ (u5 = s ∧ ∃ j0 : Int, u4 = x + j0 ∧ u8 < j0 ∧ j0 < tk V s ∧ wid V s (x + j0) < br V w ∧ ∀ j : Int, u8 < j → j < j0 → ¬ wid V s (x + j) < br V w) := q6
    have e7 : Rm V M := q7
    have e8 : Fr wsL N M := q8
    clear q1 q2 q3 q4 q5 q6 q7 q8
    show wq (f_M_stuck_B90 (fun v1 v2 v4 v5 v6 v7 v8 M => kH (v1, v2, v4, v5, v6, v7, v8, M)) _ u1 u2 u4 u5 u6 u7 u8 M) _
    rw [e1, e2, e3, e4]
    unfold f_M_stuck_B90
    rw [i32_id (x := u8) (by omega) (by omega)]
    refine wq_if (fun c => ?_) (fun c => ?_)
    · rcases e6 with ⟨a1, a2, a3⟩ | ⟨a1, j0, a2, a3, a4, a5, a6⟩
      · refine k M u4 u5 (-1) (Or.inl ⟨rfl, fun y y1 y2 z => ?_⟩) (Or.inl ⟨rfl, a1, a2⟩) e7 e8
        have := a3 (y - x) (by omega) (by omega)
        rw [show x + (y - x) = y by omega] at this
        exact this z
      · refine k M u4 u5 u4 (Or.inr ⟨by omega, by omega, ?_, fun y y1 y2 z => ?_⟩) (Or.inr ⟨by omega, rfl, a1⟩) e7 e8
        · show wid V s u4 < br V w
          rw [a2]; exact a5
        · have := a6 (y - x) (by omega) (by omega)
          rw [show x + (y - x) = y by omega] at this
          exact this z
    · have g1 : M 113 q.toNat = ar N 113 q := by rw [e8.row 113 rfl]; rfl
      rw [e_setsOut hT hN e7 h1 h2, bI_s, i32_id (x := q) (by omega) (by omega), g1, hb]
      refine wq_g (by omega) ?_
      refine wq_I (s_mWidthOf hT hN e7 hs1 hs2 (show 0 ≤ x + u8 by omega) (by omega)) (fun y M2 ⟨b1, b2, b3⟩ => ?_)
      have b1 : y = wid V s (x + u8) := b1
      have b2 : Rm V M2 := b2
      have b3 : Fr wsL M M2 := b3
      have hwr := wid_rng V s (x + u8)
      rw [e_broad b2 h1 (by omega), bI_s, b1, i32_id (x := wid V s (x + u8)) (by omega) (by omega), i32_id (x := br V w) (by omega) (by omega)]
      have F2 : Fr wsL N M2 := e8.tr b3
      refine wq_if (fun d => hk _ ⟨rfl, rfl, rfl, rfl, ⟨show -1 ≤ u8 + -1 by omega, show u8 + -1 < tk V s by omega⟩, Or.inr ⟨rfl, u8, rfl, show u8 + -1 < u8 by omega, e5.2, d, fun j j1 j2 => ?_⟩, b2, F2⟩ (show (u8 + -1 + 1).toNat < (u8 + 1).toNat by omega)) (fun d => hk _ ⟨rfl, rfl, rfl, rfl, ⟨show -1 ≤ u8 + -1 by omega, show u8 + -1 < tk V s by omega⟩, ?_, b2, F2⟩ (show (u8 + -1 + 1).toNat < (u8 + 1).toNat by omega))
      · have j1 : u8 + -1 < j := j1
        omega
      · rcases e6 with ⟨a1, a2, a3⟩ | ⟨a1, j0, a2, a3, a4, a5, a6⟩
        · refine Or.inl ⟨a1, a2, fun j j1 j2 => ?_⟩
          have j1 : u8 + -1 < j := j1
          by_cases z : j = u8
          · rw [z]; exact d
          · exact a3 j (by omega) j2
        · refine Or.inr ⟨a1, j0, a2, show u8 + -1 < j0 by omega, a4, a5, fun j j1 j2 => ?_⟩
          have j1 : u8 + -1 < j := j1
          by_cases z : j = u8
          · rw [z]; exact d
          · exact a6 j (by omega) j2
  · exact ⟨rfl, rfl, rfl, rfl, ⟨show -1 ≤ tk V s - 1 by omega, show tk V s - 1 < tk V s by omega⟩, Or.inl ⟨rfl, rfl, fun j j1 j2 => absurd j1 (by show ¬ tk V s - 1 < j; omega)⟩, h, Fr.rf⟩
  · show (tk V s - 1 + 1).toNat < 1000000000
    omega
theorem skB_n {V : Mm} {b s : Int} : ∀ L : List (Int × Int), skB V b L (-1) s → s = -1
  | [], h => h.2
  | x :: L, h => by
    obtain ⟨h', s', a1, ⟨a2, a3, -⟩ | ⟨-, -, a4⟩⟩ := h
    · exact absurd a3.symm a2
    · rcases a4 with ⟨-, z⟩ | ⟨z, -⟩
      · exact z
      · exact absurd rfl z
