/-- the shifts that can be, as the reference holds them -/
def cbM (V M : Mm) (s n : Int) : Prop := ∀ k : Nat, (k : Int) < n → tf (M 122 k) (fiS V s k)
def alL : List (Nat × Nat) := [(123, 99999), (78, 43), (106, 99999), (107, 99999)]
theorem s_alikeIn {V M : Mm} (hT : Tw V) (h : Rm V M) {s hour : Int} {L : List Int} (h1 : 0 ≤ s) (h2 : s < nS V) (h3 : 0 ≤ hour) (h4 : hour ≤ 1000000) (hL : flR V s (rd V s).toNat L) (hc : cbM V M s (rd V s)) : wq (f_M_alikeIn s hour M) (fun q => isMo (wdt V s hour) L q.1 ∧ Rm V q.2 ∧ Fr alL M q.2) := by
  have hS := hT.2.1
  obtain ⟨-, -, -, -, ⟨r1, r2⟩, -⟩ := hT.2.2.2.1 s h1 h2
  have second : ∀ M0 : Mm, Rm V M0 → Fr alL M M0 → (∀ v : Nat, v < 100 → M0 123 v = 0) → wq (f_M_alikeIn_L29 FU (s, hour, 0, 0, M0)) (fun q => isMo (wdt V s hour) L q.1 ∧ Rm V q.2 ∧ Fr alL M q.2) := by
    intro M0 m0 f0 z0
    unfold f_M_alikeIn_L29
    refine wq_lp (fun z => z.1 = s ∧ z.2.1 = hour ∧ (0 ≤ z.2.2.2.1 ∧ z.2.2.2.1 ≤ rd V s) ∧ (∃ P, flR V s z.2.2.2.1.toNat P ∧ isMo (wdt V s hour) P z.2.2.1 ∧ ∀ v : Nat, v < 100 → z.2.2.2.2 123 v = cntL (wdt V s hour) P v) ∧ Rm V z.2.2.2.2 ∧ Fr alL M z.2.2.2.2) (fun z => (rd V s - z.2.2.2.1).toNat) ?_ FU _ ?_ ?_
    · rintro kH ⟨v1, v2, v3, v4, N⟩ ⟨q1, q2, q3, ⟨P, q4, q5, q6⟩, q7, q8⟩ hk
      have e1 : v1 = s := q1
      have e2 : v2 = hour := q2
      subst e1 e2
      have e3 : 0 ≤ v4 ∧ v4 ≤ rd V v1 := q3
      have e4 : flR V v1 v4.toNat P := q4
      have e5 : isMo (wdt V v1 v2) P v3 := q5
      have e6 : ∀ v : Nat, v < 100 → N 123 v = cntL (wdt V v1 v2) P v := q6
      have e7 : Rm V N := q7
      have e8 : Fr alL M N := q8
      clear q1 q2 q3 q4 q5 q6 q7 q8
      obtain ⟨p1, p2⟩ := flR_rng _ _ e4
      have hmo := isMo_rng e5
      have en : (v4 + 1).toNat = v4.toNat + 1 := by omega
      have ev : ((v4.toNat : Nat) : Int) = v4 := by omega
      show wq (f_M_alikeIn_B29 (fun v1 v2 v3 v4 M => kH (v1, v2, v3, v4, M)) v1 v2 v3 v4 N) _
      unfold f_M_alikeIn_B29
      rw [e_round e7 h1 (by omega), bI_s, i32_id (x := rd V v1) (by omega) (by omega), i32_id (x := v4) (by omega) (by omega)]
      refine wq_if (fun c => ?_) (fun c => ?_)
      · have hP : flR V v1 (rd V v1).toNat P := by rw [show (rd V v1).toNat = v4.toNat by omega]; exact e4
        rw [flR_un _ _ _ hL hP]
        exact wq_some ⟨e5, e7, e8⟩
      have hnx : ∀ (w : Int) (P' : List Int) (M' : Mm), flR V v1 (v4.toNat + 1) P' → isMo (wdt V v1 v2) P' w → (∀ v : Nat, v < 100 → M' 123 v = cntL (wdt V v1 v2) P' v) → Rm V M' → Fr alL M M' → wq (kH (v1, v2, w, v4 + 1, M')) (fun q => isMo (wdt V v1 v2) L q.1 ∧ Rm V q.2 ∧ Fr alL M q.2) := fun w P' M' z1 z2 z3 z4 z5 => hk _ ⟨rfl, rfl, ⟨show 0 ≤ v4 + 1 by omega, show v4 + 1 ≤ rd V v1 by omega⟩, ⟨P', by show flR V v1 (v4 + 1).toNat P'; rw [en]; exact z1, z2, z3⟩, z4, z5⟩ (show (rd V v1 - (v4 + 1)).toNat < (rd V v1 - v4).toNat by omega)
      have hcb := hc v4.toNat (by omega)
      rw [← e8.row 122 rfl, ev] at hcb
      refine wq_g (by omega) ?_
      rcases hcb with ⟨b1, b2⟩ | ⟨b1, b2⟩
      · rw [b1]
        refine wq_t (by decide) (wq_I (s_mWidthBy hT e7 h1 h2 h3 h4 e3.1 (by omega)) (fun r M2 ⟨a1, a2, a3⟩ => ?_))
        have a1 : r = wdt V v1 v2 v4 := a1
        have hw := wdt_rng V v1 v2 v4
        have a3 : Fr wsL N M2 := a3
        have a2 : Rm V M2 := a2
        have F2 : Fr alL M M2 := e8.tr (a3.cov rfl)
        have hcr := cntL_rng (wdt V v1 v2) (wdt V v1 v2 v4) P
        have er : M2 123 r.toNat = cntL (wdt V v1 v2) P (wdt V v1 v2 v4) := by
          rw [a3.row 123 rfl, e6 r.toNat (by omega), show ((r.toNat : Nat) : Int) = wdt V v1 v2 v4 by omega]
        rw [i32_id (x := r) (by omega) (by omega), er]
        have hfl : flR V v1 (v4.toNat + 1) (P ++ [v4]) := ⟨P, e4, Or.inl ⟨by rw [ev]; exact b2, by rw [ev]⟩⟩
        have hcnt : ∀ v : Nat, v < 100 → up M2 123 r.toNat (cntL (wdt V v1 v2) P (wdt V v1 v2 v4) + 1) 123 v = cntL (wdt V v1 v2) (P ++ [v4]) v := by
          intro v hv
          rw [cntL_snoc, up_at]
          by_cases cv : v = r.toNat
          · have : (v : Int) = wdt V v1 v2 v4 := by omega
            rw [if_pos ⟨rfl, cv⟩, if_pos this.symm, this]
          · rw [if_neg (fun z => cv z.2), if_neg (by omega), a3.row 123 rfl, e6 v hv]
            omega
        have F3 : Fr alL M (up M2 123 r.toNat (cntL (wdt V v1 v2) P (wdt V v1 v2 v4) + 1)) := F2.up (by simp [alL])
        have R3 : Rm V (up M2 123 r.toNat (cntL (wdt V v1 v2) P (wdt V v1 v2 v4) + 1)) := a2.fr (l := [(123, 99999)]) (Fr.rf.up (by simp)) rfl
        have hs := isMo_snoc (x := v4) e5
        refine wq_g (by omega) (wq_g (by omega) (wq_d (wq_g (by omega) ?_)))
        rw [up_eq, i32_id (x := cntL (wdt V v1 v2) P (wdt V v1 v2 v4) + 1) (by omega) (by omega), i32_id (x := v3) (by omega) (by omega)]
        refine wq_if (fun d => ?_) (fun d => wq_g (by omega) ?_)
        · rw [if_neg (by omega)] at hs
          exact hnx _ _ _ hfl hs hcnt R3 F3
        · rw [if_pos (by omega)] at hs
          exact hnx _ _ _ hfl hs hcnt R3 F3
      · rw [b1]
        exact wq_e (fun z => z (by decide)) (hnx v3 P N ⟨P, e4, Or.inr ⟨by rw [ev]; exact b2, rfl⟩⟩ e5 e6 e7 e8)
    · exact ⟨rfl, rfl, ⟨Int.le_refl _, by show (0 : Int) ≤ rd V s; omega⟩, ⟨[], rfl, isMo_nil _, fun v hv => z0 v hv⟩, m0, f0⟩
    · show (rd V s - 0).toNat < 1000000000
      omega
  unfold f_M_alikeIn f_M_alikeIn_L5
  refine wq_lp (fun z => z.1 = s ∧ z.2.1 = hour ∧ z.2.2.1 = 0 ∧ (0 ≤ z.2.2.2.1 ∧ z.2.2.2.1 ≤ 100) ∧ (∀ v : Nat, (v : Int) < z.2.2.2.1 → z.2.2.2.2 123 v = 0) ∧ Rm V z.2.2.2.2 ∧ Fr alL M z.2.2.2.2) (fun z => (100 - z.2.2.2.1).toNat) ?_ FU _ ?_ ?_
  · rintro kH ⟨v1, v2, v3, v4, N⟩ ⟨q1, q2, q3, q4, q5, q6, q7⟩ hk
    have e1 : v1 = s := q1
    have e2 : v2 = hour := q2
    have e3 : v3 = 0 := q3
    subst e1 e2 e3
    have e4 : 0 ≤ v4 ∧ v4 ≤ 100 := q4
    have e5 : ∀ v : Nat, (v : Int) < v4 → N 123 v = 0 := q5
    have e6 : Rm V N := q6
    have e7 : Fr alL M N := q7
    clear q1 q2 q3 q4 q5 q6 q7
    show wq (f_M_alikeIn_B5 (fun v1 v2 v3 v4 M => kH (v1, v2, v3, v4, M)) (fun v1 v2 v3 M2 => f_M_alikeIn_L29 FU (v1, v2, v3, 0, M2)) v1 v2 0 v4 N) _
    unfold f_M_alikeIn_B5
    rw [i32_id (x := 100) (by omega) (by omega), i32_id (x := v4) (by omega) (by omega)]
    refine wq_if (fun c => second N e6 e7 (fun v hv => e5 v (by omega))) (fun c => wq_g (by omega) (wq_d (hk _ ⟨rfl, rfl, rfl, ⟨show 0 ≤ v4 + 1 by omega, show v4 + 1 ≤ 100 by omega⟩, fun v hv => ?_, e6.fr (l := [(123, 99999)]) (Fr.rf.up (by simp)) rfl, e7.up (by simp [alL])⟩ (show (100 - (v4 + 1)).toNat < (100 - v4).toNat by omega))))
    have hv : (v : Int) < v4 + 1 := hv
    show up N 123 v4.toNat 0 123 v = 0
    rw [up_at]
    by_cases cv : v = v4.toNat
    · rw [if_pos ⟨rfl, cv⟩]
    · rw [if_neg (fun z => cv z.2)]; exact e5 v (by omega)
  · exact ⟨rfl, rfl, rfl, ⟨Int.le_refl _, by show (0 : Int) ≤ 100; decide⟩, fun v hv => absurd hv (by show ¬ (v : Int) < 0; omega), h, Fr.rf⟩
  · show (100 - (0 : Int)).toNat < 1000000000
    decide
def tmL : List (Nat × Nat) := [(122, 99999), (123, 99999), (78, 43), (106, 99999), (107, 99999)]
theorem s_mTelling {V M : Mm} (hT : Tw V) (hN : Nw V) (h : Rm V M) (hv : sV V) (hs : sM V M) {s k : Int} (h1 : 0 ≤ s) (h2 : s < nS V) (hk0 : k = 0 ∨ k = 1) : wq (f_M_telling s k M) (fun q => tlA V s k q.1 ∧ Fr tmL M q.2) := by
  have hS := hT.2.1
  have hh := hN.1
  obtain ⟨-, -, -, -, ⟨r1, r2⟩, -⟩ := hT.2.2.2.1 s h1 h2
  unfold f_M_telling
  rw [e_isStreet hT h ⟨by omega, by omega⟩, bI_s]
  refine wq_c0 (fun z => absurd ⟨h1, h2⟩ z) (fun _ => ?_)
  rw [e_in _ (v := k) ⟨by omega, by omega⟩ (by omega) (by omega) (by omega) (by omega), bI_s]
  refine wq_c1 (fun _ => ?_) (fun z => absurd (show 0 ≤ k ∧ k ≤ 1 by omega) z)
  unfold f_M_telling_L25
  refine wq_lp (fun z => z.1 = s ∧ z.2.1 = k ∧ (0 ≤ z.2.2.2.1 ∧ z.2.2.2.1 ≤ rd V s) ∧ (∃ L, flR V s z.2.2.2.1.toNat L ∧ ((z.2.2.1 = 0 ∧ L = []) ∨ (z.2.2.1 = 1 ∧ L ≠ []))) ∧ cbM V z.2.2.2.2 s z.2.2.2.1 ∧ Rm V z.2.2.2.2 ∧ Fr tmL M z.2.2.2.2) (fun z => (rd V s - z.2.2.2.1).toNat) ?_ FU _ ?_ ?_
  · rintro kH ⟨v1, v2, v3, v4, N⟩ ⟨q1, q2, q3, ⟨L, q4, q5⟩, q6, q7, q8⟩ hk
    have e1 : v1 = s := q1
    have e2 : v2 = k := q2
    subst e1 e2
    have e3 : 0 ≤ v4 ∧ v4 ≤ rd V v1 := q3
    have e4 : flR V v1 v4.toNat L := q4
    have e5 : (v3 = 0 ∧ L = []) ∨ (v3 = 1 ∧ L ≠ []) := q5
    have e6 : cbM V N v1 v4 := q6
    have e7 : Rm V N := q7
    have e8 : Fr tmL M N := q8
    clear q1 q2 q3 q4 q5 q6 q7 q8
    have en : (v4 + 1).toNat = v4.toNat + 1 := by omega
    have ev : ((v4.toNat : Nat) : Int) = v4 := by omega
    show wq (f_M_telling_B25 (fun v1 v2 v3 v4 M => kH (v1, v2, v3, v4, M)) _ v1 v2 v3 v4 N) _
    unfold f_M_telling_B25
    rw [e_round e7 h1 (by omega), bI_s, i32_id (x := rd V v1) (by omega) (by omega), i32_id (x := v4) (by omega) (by omega)]
    refine wq_if (fun c => ?_) (fun c => ?_)
    · have hL : flR V v1 (rd V v1).toNat L := by rw [show (rd V v1).toNat = v4.toNat by omega]; exact e4
      have hcb : cbM V N v1 (rd V v1) := by rw [show rd V v1 = v4 by omega]; exact e6
      obtain ⟨l1, l2⟩ := flR_rng _ _ hL
      dsimp only
      rcases e5 with ⟨z1, z2⟩ | ⟨z1, z2⟩
      · subst z1
        exact wq_e (fun z => z (by decide)) (wq_some ⟨⟨L, hL, Or.inl ⟨z2, rfl⟩⟩, e8⟩)
      · subst z1
        refine wq_t (by decide) ?_
        unfold f_M_telling_L90
        refine wq_lp (fun z => z.1 = v1 ∧ z.2.1 = v2 ∧ (0 ≤ z.2.2.2.2.1 ∧ z.2.2.2.2.1 ≤ rd V v1) ∧ tlS V v1 L z.2.2.2.2.1 z.2.2.1 z.2.2.2.1 ∧ (-1 ≤ z.2.2.1 ∧ z.2.2.1 ≤ 20000) ∧ (0 ≤ z.2.2.2.1 ∧ z.2.2.2.1 ≤ 100) ∧ cbM V z.2.2.2.2.2 v1 (rd V v1) ∧ Rm V z.2.2.2.2.2 ∧ Fr tmL M z.2.2.2.2.2) (fun z => (rd V v1 - z.2.2.2.2.1).toNat) ?_ FU _ ?_ ?_
        · rintro kG ⟨u1, u2, u4, u5, u6, O⟩ ⟨q1, q2, q3, q4, q5, q6, q7, q8, q9⟩ hg
          have f1 : u1 = v1 := q1
          have f2 : u2 = v2 := q2
          have f3 : 0 ≤ u6 ∧ u6 ≤ rd V v1 := q3
          have f4 : tlS V v1 L u6 u4 u5 := q4
          have f5 : -1 ≤ u4 ∧ u4 ≤ 20000 := q5
          have f6 : 0 ≤ u5 ∧ u5 ≤ 100 := q6
          have f7 : cbM V O v1 (rd V v1) := q7
          have f8 : Rm V O := q8
          have f9 : Fr tmL M O := q9
          clear q1 q2 q3 q4 q5 q6 q7 q8 q9
          show wq (f_M_telling_B90 (fun v1 v2 v4 v5 v6 M => kG (v1, v2, v4, v5, v6, M)) _ u1 u2 u4 u5 u6 O) _
          rw [f1, f2]
          unfold f_M_telling_B90
          have g108 : O 108 0 = hr V := by rw [f8.2.2.2.2.2.2]; rfl
          rw [e_round f8 h1 (by omega), bI_s, i32_id (x := rd V v1) (by omega) (by omega), i32_id (x := u6) (by omega) (by omega)]
          refine wq_if (fun g => ?_) (fun g => ?_)
          · dsimp only
            rcases f4 with ⟨z1', z2'⟩ | z
            · omega
            · have hz : isTl V v1 L (rd V v1) u4 u5 := by
                rw [show u6 = rd V v1 by omega] at z; exact z
              rcases hk0 with d | d
              · subst d
                exact wq_e (fun z => z (by decide)) (wq_some ⟨⟨L, hL, Or.inr ⟨z2, u4, u5, hz, by rw [if_pos rfl]⟩⟩, f9⟩)
              · subst d
                exact wq_t (by decide) (wq_some ⟨⟨L, hL, Or.inr ⟨z2, u4, u5, hz, by rw [if_neg (by decide)]⟩⟩, f9⟩)
          · rw [g108]
            refine wq_I (s_alikeIn hT f8 h1 h2 (show 0 ≤ hr V + u6 by omega) (by omega) hL f7) (fun m O2 ⟨b1, b2, b3⟩ => ?_)
            have b1 : isMo (wdt V v1 (hr V + u6)) L m := b1
            have b2 : Rm V O2 := b2
            have b3 : Fr alL O O2 := b3
            have hmr := isMo_rng b1
            have h108 : O2 108 0 = hr V := by rw [b2.2.2.2.2.2.2]; rfl
            obtain ⟨t1, t2⟩ := tlS_step f3.1 f4 b1
            have hcb2 : cbM V O2 v1 (rd V v1) := by
              unfold cbM
              rw [b3.row 122 rfl]
              exact f7
            have hnx : ∀ x y, tlS V v1 L (u6 + 1) x y → (-1 ≤ x ∧ x ≤ 20000) → (0 ≤ y ∧ y ≤ 100) → wq (kG (v1, v2, x, y, u6 + 1, O2)) (fun q => tlA V v1 v2 q.1 ∧ Fr tmL M q.2) := fun x y z1 z2 z3 => hg _ ⟨rfl, rfl, ⟨show 0 ≤ u6 + 1 by omega, show u6 + 1 ≤ rd V v1 by omega⟩, z1, z2, z3, hcb2, b2, f9.tr (b3.cov rfl)⟩ (show (rd V v1 - (u6 + 1)).toNat < (rd V v1 - u6).toNat by omega)
            rw [i32_id (x := u4) (by omega) (by omega), i32_id (x := -1) (by omega) (by omega), i32_id (x := m) (by omega) (by omega), i32_id (x := u5) (by omega) (by omega)]
            unfold f_M_telling_J132
            rw [h108]
            by_cases d : u4 = -1
            · refine wq_t d (hnx _ _ (t1 (Or.inl ⟨d, ?_⟩)) (by omega) (by omega))
              rcases f4 with ⟨z, -⟩ | z
              · exact z
              · have := z.1; omega
            · refine wq_e d ?_
              refine wq_if (fun e => hnx _ _ (t1 (Or.inr (Or.inl ⟨e, d⟩))) (by omega) (by omega)) (fun e => hnx _ _ (t2 ⟨?_, by omega⟩) f5 f6)
              rcases f4 with ⟨-, z⟩ | z
              · exact absurd z d
              · have := z.1; omega
        · exact ⟨rfl, rfl, ⟨Int.le_refl _, by show (0 : Int) ≤ rd V v1; omega⟩, Or.inl ⟨rfl, rfl⟩, ⟨Int.le_refl _, by show (-1 : Int) ≤ 20000; decide⟩, ⟨Int.le_refl _, by show (0 : Int) ≤ 100; decide⟩, hcb, e7, e8⟩
        · show (rd V v1 - 0).toNat < 1000000000
          omega
    · refine wq_I (s_mFits hT e7 hv ⟨(e8.at 78 66 rfl).trans hs.1, (e8.row 121 rfl).trans hs.2⟩ h1 h2 e3.1 (by omega)) (fun r M2 ⟨a1, a2, a3⟩ => ?_)
      have a1 : tf r (fiS V v1 v4) := a1
      have a2 : Rm V M2 := a2
      have a3 : Fr wsL N M2 := a3
      have hr01 : r = 0 ∨ r = 1 := by rcases a1 with ⟨z, -⟩ | ⟨z, -⟩ <;> omega
      have F3 : Fr tmL M (up M2 122 v4.toNat r) := (e8.tr (a3.cov rfl)).up (by simp [tmL])
      have R3 : Rm V (up M2 122 v4.toNat r) := a2.fr (l := [(122, 99999)]) (Fr.rf.up (by simp)) rfl
      have hcb3 : cbM V (up M2 122 v4.toNat r) v1 (v4 + 1) := by
        intro x hx
        rw [up_at]
        by_cases cx : x = v4.toNat
        · rw [if_pos ⟨rfl, cx⟩, cx, ev]; exact a1
        · rw [if_neg (fun z => cx z.2), a3.row 122 rfl]
          exact e6 x (by omega)
      refine wq_g ⟨by omega, by rcases hr01 with z | z <;> subst z; exact Or.inl (by decide); exact Or.inr (by decide)⟩ (wq_d ?_)
      have hnx : ∀ (w : Int) (L' : List Int), flR V v1 (v4.toNat + 1) L' → ((w = 0 ∧ L' = []) ∨ (w = 1 ∧ L' ≠ [])) → wq (kH (v1, v2, w, v4 + 1, up M2 122 v4.toNat r)) (fun q => tlA V v1 v2 q.1 ∧ Fr tmL M q.2) := fun w L' z1 z2 => hk _ ⟨rfl, rfl, ⟨show 0 ≤ v4 + 1 by omega, show v4 + 1 ≤ rd V v1 by omega⟩, ⟨L', by show flR V v1 (v4 + 1).toNat L'; rw [en]; exact z1, z2⟩, hcb3, R3, F3⟩ (show (rd V v1 - (v4 + 1)).toNat < (rd V v1 - v4).toNat by omega)
      rw [up_eq]
      rcases a1 with ⟨b1, b2⟩ | ⟨b1, b2⟩
      · subst b1
        have hfl : flR V v1 (v4.toNat + 1) (L ++ [v4]) := ⟨L, e4, Or.inl ⟨by rw [ev]; exact b2, by rw [ev]⟩⟩
        have hn2 : L ++ [v4] ≠ [] := by simp
        rcases e5 with ⟨z1, -⟩ | ⟨z1, -⟩
        · subst z1
          exact wq_e (fun z => z (by decide)) (wq_g (by omega) (wq_e (by decide) (hnx 1 _ hfl (Or.inr ⟨rfl, hn2⟩))))
        · subst z1
          exact wq_t (by decide) (hnx 1 _ hfl (Or.inr ⟨rfl, hn2⟩))
      · subst b1
        have hfl : flR V v1 (v4.toNat + 1) L := ⟨L, e4, Or.inr ⟨by rw [ev]; exact b2, rfl⟩⟩
        rcases e5 with ⟨z1, z2⟩ | ⟨z1, z2⟩
        · subst z1
          exact wq_e (fun z => z (by decide)) (wq_g (by omega) (wq_t (by decide) (hnx 0 _ hfl (Or.inl ⟨rfl, z2⟩))))
        · subst z1
          exact wq_t (by decide) (hnx 1 _ hfl (Or.inr ⟨rfl, z2⟩))
  · exact ⟨rfl, rfl, ⟨Int.le_refl _, by show (0 : Int) ≤ rd V s; omega⟩, ⟨[], rfl, Or.inl ⟨rfl, rfl⟩⟩, fun x hx => absurd hx (by show ¬ (x : Int) < 0; omega), h, Fr.rf⟩
  · show (rd V s - 0).toNat < 1000000000
    omega
theorem call_telling {n : Nat} {v1 v2 : Int} (i1 : IR v1) (i2 : IR v2) : CallOk n (f_BT_telling v1 v2) (f_M_telling v1 v2) := by
  refine call_q (fun M r => gA ((0 ≤ v1 ∧ v1 < nS M) ∧ 0 ≤ v2 ∧ v2 ≤ 1) (fun r => tlA M v1 v2 r) r) tlL tmL (fun M r r' _ => gA_un (fun _ x y hx hy => tlA_un hx hy)) rfl rfl rfl rfl rfl (fun M hR => ?_) (fun M M1 hR hm hl => ?_)
  · obtain ⟨h1, h2, h3, -, -, -, -, -, h9, h10, -⟩ := id hR
    obtain ⟨sv, sc⟩ := Se.two h9
    unfold f_BT_telling
    rw [e_hasS h1 h3.1 i1, bI_s]
    refine wq_c0 (fun c => wq_some ⟨Or.inr ⟨fun z => c z.1, rfl⟩, h3.2.2, h10.2.2, Fr.rf⟩) (fun c => ?_)
    rw [i32_id (x := v2) i2.1 i2.2, i32_id (x := 1) (by omega) (by omega)]
    refine wq_if (fun d => wq_some ⟨Or.inr ⟨fun z => by omega, rfl⟩, h3.2.2, h10.2.2, Fr.rf⟩) (fun d => ?_)
    refine wq_if (fun e => ?_) (fun e => wq_some ⟨Or.inr ⟨fun z => by omega, rfl⟩, h3.2.2, h10.2.2, Fr.rf⟩)
    refine wq_I (s_tellingHour h1 h2 h3 sv sc c.1 c.2 (by omega)) (fun r M2 ⟨a1, a2, a3⟩ => wq_some ⟨Or.inl ⟨⟨c, by omega⟩, a1⟩, a2.2.2, ?_, a3⟩)
    have a3 : Fr tlL M M2 := a3
    show M2 48 10 = 0
    rw [a3.row 48 rfl]; exact h10.2.2
  · obtain ⟨h1, h2, h3, -, -, -, -, -, h9, h10, -⟩ := id hR
    obtain ⟨sv, -⟩ := Se.two h9
    have hs : sM M M1 := ⟨by rw [hl 78 (by decide)], hl 121 (by decide)⟩
    by_cases c : 0 ≤ v1 ∧ v1 < nS M
    · by_cases d : 0 ≤ v2 ∧ v2 ≤ 1
      · exact wq_m (s_mTelling h1 h2 hm sv hs c.1 c.2 (by omega)) (fun q ⟨a1, a2⟩ => ⟨Or.inl ⟨⟨c, d⟩, a1⟩, a2⟩)
      · unfold f_M_telling
        rw [e_isStreet h1 hm i1, bI_s]
        refine wq_c0 (fun z => absurd c z) (fun _ => ?_)
        rw [e_in _ i2 (by omega) (by omega) (by omega) (by omega), bI_s]
        exact wq_c1 (fun z => absurd z d) (fun _ => wq_some ⟨Or.inr ⟨fun z => d z.2, rfl⟩, Fr.rf⟩)
    · unfold f_M_telling
      rw [e_isStreet h1 hm i1, bI_s]
      exact wq_c0 (fun _ => wq_some ⟨Or.inr ⟨fun z => c z.1, rfl⟩, Fr.rf⟩) (fun z => absurd z c)
