def onL : List (Nat × Nat) := [(108, 99999), (78, 63)]
theorem s_onM {V M : Mm} {e : Int} {Q : Int × Mm → Prop} (hT : Tw V) (hu : Rt V M) (h2 : M 79 = V 79) (hp : e = 2 + nS V + 4 * nW V + 1) (h0 : M 108 0 = hrs V 0) (k : ∀ X, X 108 0 = hrs V 0 → X 78 63 = 0 → (∀ s : Int, 0 ≤ s → s < nS V → X 108 (1 + s).toNat = V 79 (2 + s).toNat) → (∀ w : Int, 0 ≤ w → w < nW V → X 108 (13 + 3 * w).toNat = V 79 (2 + nS V + 4 * w).toNat ∧ X 108 (14 + 3 * w).toNat = V 79 (2 + nS V + 4 * w + 1).toNat ∧ X 108 (15 + 3 * w).toNat = hrs V (2 + nS V + 4 * w + 2)) → Fr onL M X → Q (1, X)) : wq (f_M_on_L55 (fun M8 => f_M_on_L87 FU (0, M8)) FU (0, M)) Q := by
  have hS := hT.2.1
  have hW := hT.2.2.1
  have tr : ∀ B : Mm, Fr onL M B → Rt V B := fun B hB => by
    have u := Rt.of hB rfl
    exact ⟨fun k hk => (u.1 k hk).trans (hu.1 k hk), fun k hk => (u.2.1 k hk).trans (hu.2.1 k hk), fun k hk => (u.2.2.1 k hk).trans (hu.2.2.1 k hk), fun k hk => (u.2.2.2.1 k hk).trans (hu.2.2.2.1 k hk), fun k hk => (u.2.2.2.2.1 k hk).trans (hu.2.2.2.2.1 k hk), fun k hk => (u.2.2.2.2.2.1 k hk).trans (hu.2.2.2.2.2.1 k hk), fun k hk => (u.2.2.2.2.2.2 k hk).trans (hu.2.2.2.2.2.2 k hk)⟩
  unfold f_M_on_L55
  refine wq_lp (fun z => (0 ≤ z.1 ∧ z.1 ≤ nS V) ∧ z.2 108 0 = hrs V 0 ∧ (∀ s : Int, 0 ≤ s → s < z.1 → z.2 108 (1 + s).toNat = V 79 (2 + s).toNat) ∧ Fr [(108, 99999)] M z.2) (fun z => (nS V - z.1).toNat) ?_ FU _ ?_ ?_
  · rintro kH ⟨v2, N⟩ ⟨q1, q2, q3, q4⟩ hk
    have a1 : 0 ≤ v2 ∧ v2 ≤ nS V := q1
    have a2 : N 108 0 = hrs V 0 := q2
    have a3 : ∀ s : Int, 0 ≤ s → s < v2 → N 108 (1 + s).toNat = V 79 (2 + s).toNat := q3
    have a4 : Fr [(108, 99999)] M N := q4
    clear q1 q2 q3 q4
    have uN := tr N (a4.cov rfl)
    show wq (f_M_on_B55 (fun v2 M => kH (v2, M)) _ v2 N) _
    unfold f_M_on_B55
    rw [e_mS (rmR (M := N)), bI_s, rt_nS uN, i32_id (x := nS V) (by omega) (by omega), i32_id (x := v2) (by omega) (by omega)]
    refine wq_if (fun x => ?_) (fun x => ?_)
    · dsimp only
      unfold f_M_on_L87
      refine wq_lp (fun z => (0 ≤ z.1 ∧ z.1 ≤ nW V) ∧ (∀ q : Nat, q < 13 → z.2 108 q = N 108 q) ∧ (∀ w : Int, 0 ≤ w → w < z.1 → z.2 108 (13 + 3 * w).toNat = V 79 (2 + nS V + 4 * w).toNat ∧ z.2 108 (14 + 3 * w).toNat = V 79 (2 + nS V + 4 * w + 1).toNat ∧ z.2 108 (15 + 3 * w).toNat = hrs V (2 + nS V + 4 * w + 2)) ∧ Fr [(108, 99999)] M z.2) (fun z => (nW V - z.1).toNat) ?_ FU _ ?_ ?_
      · rintro kG ⟨w, B⟩ ⟨p1, p2, p3, p4⟩ hg
        have b1 : 0 ≤ w ∧ w ≤ nW V := p1
        have b2 : ∀ q : Nat, q < 13 → B 108 q = N 108 q := p2
        have b3 : ∀ w' : Int, 0 ≤ w' → w' < w → B 108 (13 + 3 * w').toNat = V 79 (2 + nS V + 4 * w').toNat ∧ B 108 (14 + 3 * w').toNat = V 79 (2 + nS V + 4 * w' + 1).toNat ∧ B 108 (15 + 3 * w').toNat = hrs V (2 + nS V + 4 * w' + 2) := p3
        have b4 : Fr [(108, 99999)] M B := p4
        clear p1 p2 p3 p4
        have uB := tr B (b4.cov rfl)
        have B79 : B 79 = V 79 := by rw [b4.row 79 rfl, h2]
        show wq (f_M_on_B87 (fun v2 M => kG (v2, M)) w B) _
        unfold f_M_on_B87
        rw [e_mW (rmR (M := B)), bI_s, rt_nW uB, i32_id (x := nW V) (by omega) (by omega), i32_id (x := w) (by omega) (by omega)]
        refine wq_if (fun y => wq_d (wq_some (k _ ?_ ?_ (fun s s1 s2 => ?_) (fun w' w1 w2 => ?_) ((b4.cov (l' := onL) rfl).up (by simp [onL]))))) (fun y => ?_)
        · rw [up_row (by decide), b2 0 (by decide), a2]
        · rw [up_eq]
        · rw [up_row (by decide), b2 _ (by omega)]; exact a3 s s1 (by omega)
        · rw [up_row (by decide)]; exact b3 w' w1 (by omega)
        · rw [e_mS (rmR (M := B)), bI_s, rt_nS uB, i32_id (x := 2 + nS V + 4 * w) (by omega) (by omega), i32_id (x := 2 + nS V + 4 * w + 1) (by omega) (by omega), i32_id (x := 2 + nS V + 4 * w + 2) (by omega) (by omega), i32_id (x := 2 + nS V + 4 * w + 3) (by omega) (by omega), i32_id (x := 13 + 3 * w) (by omega) (by omega), i32_id (x := 13 + 3 * w + 1) (by omega) (by omega), i32_id (x := 13 + 3 * w + 2) (by omega) (by omega)]
          refine wq_g (by omega) (wq_g (by omega) (wq_d (wq_g (by omega) (wq_g (by omega) (wq_d (wq_g (by omega) (wq_g (by omega) (wq_g (by omega) (wq_d ?_)))))))))
          rw [up_row (by decide), up_row (by decide), B79]
          refine hg _ ⟨⟨show 0 ≤ w + 1 by omega, show w + 1 ≤ nW V by omega⟩, fun q hq => ?_, fun w' w1 w2 => ?_, ((b4.up (by simp)).up (by simp)).up (by simp)⟩ (show (nW V - (w + 1)).toNat < (nW V - w).toNat by omega)
          · dsimp only
            rw [up_col (by omega), up_col (by omega), up_col (by omega)]; exact b2 q hq
          · have w2 : w' < w + 1 := w2
            dsimp only
            by_cases t : w' = w
            · rw [t]
              refine ⟨by rw [up_col (by omega), up_col (by omega), up_eq], ?_, ?_⟩
              · rw [up_col (by omega), show (14 + 3 * w).toNat = (13 + 3 * w + 1).toNat by omega, up_eq]
              · rw [show (15 + 3 * w).toNat = (13 + 3 * w + 2).toNat by omega, up_eq]
                unfold hrs
                rw [show 2 + nS V + 4 * w + 2 + 1 = 2 + nS V + 4 * w + 3 by omega]
                simp only [up_row (show ¬ (79 : Nat) = 108 by decide), B79]
                omega
            · rw [up_col (by omega), up_col (by omega), up_col (by omega), up_col (by omega), up_col (by omega), up_col (by omega), up_col (by omega), up_col (by omega), up_col (by omega)]
              exact b3 w' w1 (by omega)
      · exact ⟨⟨Int.le_refl _, hW.1⟩, fun q _ => rfl, fun w w1 w2 => absurd w2 (by show ¬ w < 0; omega), a4⟩
      · show (nW V - 0).toNat < 1000000000
        omega
    · rw [i32_id (x := 2 + v2) (by omega) (by omega), i32_id (x := 1 + v2) (by omega) (by omega), a4.row 79 rfl, h2]
      refine wq_g (by omega) (wq_g (by omega) (wq_d (hk _ ⟨⟨show 0 ≤ v2 + 1 by omega, show v2 + 1 ≤ nS V by omega⟩, ?_, fun s s1 s2 => ?_, a4.up (by simp)⟩ (show (nS V - (v2 + 1)).toNat < (nS V - v2).toNat by omega))))
      · dsimp only
        rw [up_col (by omega)]; exact a2
      · have s2 : s < v2 + 1 := s2
        dsimp only
        by_cases t : s = v2
        · rw [t, up_eq]
        · rw [up_col (by omega)]; exact a3 s s1 (by omega)
  · exact ⟨⟨Int.le_refl _, hS.1⟩, h0, fun s s1 s2 => absurd s2 (by show ¬ s < 0; omega), Fr.rf⟩
  · show (nS V - 0).toNat < 1000000000
    omega
theorem call_on {n : Nat} : CallOk n f_BT_on f_M_on := by
  intro M hR
  obtain ⟨h1, h2, h3, h4, h5, h6, h7, h8, h9, h10, h11⟩ := id hR
  obtain ⟨t1, t2, t3, t4⟩ := id h4
  have hS := h1.2.1
  have hW := h1.2.2.1
  unfold f_BT_on
  refine wq_I (s_isPicture (e := M 78 1) h1 h3.1 t3 t1.1 t1.2 t4 t2) (fun r M1 hz => ?_)
  have hz' : ((r = 0 ∧ ¬ pOk M (M 78 1)) ∨ (r = 1 ∧ pOk M (M 78 1))) ∧ M1 = M := hz
  clear hz
  obtain ⟨a1, a2⟩ := hz'
  rw [a2]
  rcases a1 with ⟨b1, b2⟩ | ⟨b1, b2⟩
  · rw [b1]
    refine wq_t (by decide) ?_
    rw [e_ref5, bI_s]
    refine wq_d (wq_g (Or.inl (by decide)) (wq_some ?_))
    show wq (f_M_on (up (up M 77 5 (M 77 5 + 1)) 1 1 0)) (fun q' => (0 : Int) = q'.1 ∧ Rl (n + 1) q'.2 q'.2)
    generalize hX : up (up M 77 5 (M 77 5 + 1)) 1 1 0 = X
    have FX : Fr [(1, 1), (77, 5)] M X := by rw [← hX]; exact (Fr.rf.up (by simp)).up (by simp)
    unfold f_M_on
    refine wq_d ?_
    generalize hY : up X 78 1 0 = Y
    have FY : Fr [(1, 1), (77, 5), (78, 1)] M Y := by rw [← hY]; exact (FX.cov rfl).up (by simp)
    rw [show X 78 1 = M 78 1 from by rw [FX.row 78 rfl]]
    refine wq_I (s_isTold (V := M) h1 (Rm.fr rmR FY rfl) t1.1 t1.2 (FY.row 79 rfl) t2) (fun r2 M2 hz => ?_)
    have hz' : ((r2 = 0 ∧ ¬ pOk M (M 78 1)) ∨ (r2 = 1 ∧ pOk M (M 78 1))) ∧ M2 = Y := hz
    clear hz
    obtain ⟨c1, c2⟩ := hz'
    rcases c1 with ⟨d1, d2⟩ | ⟨d1, d2⟩
    · rw [d1, c2]
      refine wq_e (fun z => z (by decide)) (wq_d (wq_some ⟨rfl, ?_⟩))
      show Rl (n + 1) (up Y 80 5 (Y 80 5 + 1)) (up Y 80 5 (Y 80 5 + 1))
      generalize hN : up Y 80 5 (Y 80 5 + 1) = N
      have hF : Fr [(1, 1), (77, 5), (78, 1), (80, 5)] M N := by rw [← hN]; exact (FY.cov rfl).up (by simp)
      have hu : Ru M N := Ru.of hF rfl
      refine rel_c hR (hF.cov rfl) (h3.2.2.fr hF rfl) (by rw [hF.row 48 rfl]; exact h10.2.2) (h2.ru hu) (nc_ru (h3.2.1.fr hF rfl) hu) ?_ ?_ (h7.cg hu.t (hF.at 78 63 rfl) (hF.at 78 64 rfl) (hF.row 120 rfl) (hF.at 39 9 rfl) (hF.row 44 rfl)) (h8.c (hF.at 78 99 rfl) (hF.row 145 rfl) (hF.at 39 7 rfl) (hF.row 45 rfl)) (h9.cg hu.t (hF.at 78 66 rfl) (hF.row 121 rfl) (hF.at 64 6 rfl) (hF.row 65 rfl) (hF.row 66 rfl) (hF.row 67 rfl))
      · have n1 : N 1 1 = 0 := by rw [← hN, up_row (by decide), ← hY, up_row (by decide), ← hX, up_eq]
        have n2 : N 78 1 = 0 := by rw [← hN, up_row (by decide), ← hY, up_eq]
        unfold Tp
        rw [n1, n2, hF.row 79 rfl, hF.row 2 rfl]
        exact ⟨⟨by decide, by decide⟩, t2, rfl, t4⟩
      · unfold Ms at *
        rw [hF.row 0 rfl, hF.at 78 7 rfl, hF.at 78 8 rfl, hF.at 78 65 rfl]
        refine ⟨h5.1, h5.2.1, ?_, h5.2.2.2⟩
        have e5 := h5.2.2.1
        funext j
        have l1 : N 77 j = if j = 5 then M 77 5 + 1 else M 77 j := by
          rw [← hN, up_row (by decide), ← hY, up_row (by decide), ← hX, up_row (by decide), up_at]
          by_cases c : j = 5
          · rw [if_pos ⟨rfl, c⟩, if_pos c]
          · rw [if_neg (fun z => c z.2), if_neg c]
        have l2 : N 80 j = if j = 5 then M 80 5 + 1 else M 80 j := by
          rw [← hN, up_at, FY.row 80 rfl]
          by_cases c : j = 5
          · rw [if_pos ⟨rfl, c⟩, if_pos c]
          · rw [if_neg (fun z => c z.2), if_neg c]
        rw [l1, l2, e5]
    · exact absurd d2 b2
  · rw [b1]
    have hp := b2.1
    refine wq_e (by decide) ?_
    refine wq_V (s_restore (V := M) h1 h3.1 t3 t1.2 t4 hp) (fun X0 ⟨r1, rk, r3, r4, r5⟩ => wq_d (wq_g (Or.inr (by decide)) (wq_some ?_)))
    show wq (f_M_on (up X0 1 1 0)) (fun q' => (1 : Int) = q'.1 ∧ Rl (n + 1) q'.2 q'.2)
    generalize hX : up X0 1 1 0 = X
    have F1X : Fr [(1, 1)] X0 X := by rw [← hX]; exact Fr.rf.up (by simp)
    have FX : Fr ((1, 1) :: rsL) M X := (r5.cov rfl).tr (F1X.cov rfl)
    unfold f_M_on
    refine wq_d ?_
    generalize hY : up X 78 1 0 = Y
    have FXY : Fr [(78, 1)] X Y := by rw [← hY]; exact Fr.rf.up (by simp)
    have FY : Fr ((78, 1) :: (1, 1) :: rsL) M Y := (FX.cov rfl).tr (FXY.cov rfl)
    rw [show X 78 1 = M 78 1 from by rw [FX.row 78 rfl]]
    refine wq_I (s_isTold (V := M) h1 (Rm.fr rmR FY rfl) t1.1 t1.2 (FY.row 79 rfl) t2) (fun r2 M2 hz => ?_)
    have hz' : ((r2 = 0 ∧ ¬ pOk M (M 78 1)) ∨ (r2 = 1 ∧ pOk M (M 78 1))) ∧ M2 = Y := hz
    clear hz
    obtain ⟨c1, c2⟩ := hz'
    rcases c1 with ⟨d1, d2⟩ | ⟨d1, d2⟩
    · exact absurd b2 d2
    rw [d1, c2]
    refine wq_t (by decide) (wq_d ?_)
    have y79 : Y 79 = M 79 := FY.row 79 rfl
    rw [y79]
    generalize hZ : up Y 108 0 (256 * M 79 0 + M 79 1) = Z
    have FYZ : Fr [(108, 99999)] Y Z := by rw [← hZ]; exact Fr.rf.up (by simp)
    have FZ : Fr ((108, 99999) :: (78, 1) :: (1, 1) :: rsL) M Z := (FY.cov rfl).tr (FYZ.cov rfl)
    refine s_onM (V := M) (e := M 78 1) h1 (Rt.of FZ rfl) (FZ.row 79 rfl) hp (by rw [← hZ, up_eq]; unfold hrs; show 256 * M 79 0 + M 79 1 = M 79 0 * 256 + M 79 1; omega) (fun N n1 n2 n3 n4 n5 => ?_)
    refine ⟨rfl, ?_⟩
    show Rl (n + 1) N N
    have hF : Fr ((78, 63) :: (108, 99999) :: (78, 1) :: (1, 1) :: rsL) M N := (FZ.cov rfl).tr (n5.cov rfl)
    have FXN : Fr [(78, 63), (108, 99999), (78, 1)] X N := ((FXY.cov rfl).tr (FYZ.cov rfl)).tr (n5.cov rfl)
    have F0N : Fr [(78, 63), (108, 99999), (78, 1), (1, 1)] X0 N := (F1X.cov rfl).tr (FXN.cov rfl)
    have hu : Rt M N := Rt.of hF rfl
    have b0 := t2 0
    have b01 := t2 1
    have hb3 := b2.2.2.1
    refine rel_c hR (hF.cov rfl) (h3.2.2.fr hF rfl) (by rw [hF.row 48 rfl]; exact h10.2.2) ?_ ?_ ?_ (h5.c (hF.at 78 7 rfl) (hF.at 78 8 rfl) (hF.row 80 rfl) (hF.at 78 65 rfl) (hF.at 0 11 rfl) (hF.at 0 12 rfl) (hF.row 77 rfl) (hF.at 0 13 rfl)) ?_ (h8.c (hF.at 78 99 rfl) (hF.row 145 rfl) (hF.at 39 7 rfl) (hF.row 45 rfl)) (h9.cg hu (hF.at 78 66 rfl) (hF.row 121 rfl) (hF.at 64 6 rfl) (hF.row 65 rfl) (hF.row 66 rfl) (hF.row 67 rfl))
    · refine ⟨?_, fun s s1 s2 => ?_, fun w w1 w2 => ?_⟩
      · show 0 ≤ N 108 0 ∧ N 108 0 ≤ 9999
        rw [n1]
        unfold hrs
        show 0 ≤ M 79 0 * 256 + M 79 1 ∧ M 79 0 * 256 + M 79 1 ≤ 9999
        omega
      · rw [rt_nS hu] at s2
        unfold sf
        rw [n3 s s1 s2, rt_rd hu s1]
        exact ⟨(t2 _).1, b2.2.2.2.1 s s1 s2⟩
      · rw [rt_nW hu] at w2
        obtain ⟨x1, x2⟩ := b2.2.2.2.2 w w1 w2
        obtain ⟨y1, y2, y3⟩ := n4 w w1 w2
        unfold NwW pl gl fr
        rw [rt_wx hu w1, rt_wy hu w1, y1, y2, y3]
        have z1 := t2 (2 + nS M + 4 * w + 2).toNat
        have z2 := t2 (2 + nS M + 4 * w + 2 + 1).toNat
        unfold hrs
        refine ⟨x1, by omega, ?_⟩
        rw [show 2 + nS M + 4 * w + 2 + 1 = 2 + nS M + 4 * w + 3 by omega]
        exact x2
    · refine ⟨?_, fun s s1 s2 => ?_, fun w w1 w2 => ?_⟩
      · show N 39 8 = N 108 0
        rw [F0N.row 39 rfl, r1, n1]
      · rw [rt_nS hu] at s2
        unfold sf
        rw [F0N.row 40 rfl, r3 s s1 s2, n3 s s1 s2]
      · rw [rt_nW hu] at w2
        obtain ⟨y1, y2, y3⟩ := n4 w w1 w2
        obtain ⟨x1, x2, x3⟩ := r4 w w1 w2
        unfold pl gl fr
        rw [F0N.row 41 rfl, F0N.row 42 rfl, F0N.row 43 rfl, x1, x2, x3, y1, y2, y3]
        exact ⟨rfl, rfl, rfl⟩
    · have m1 : N 1 1 = 0 := by rw [FXN.row 1 rfl, ← hX, up_eq]
      have m2 : N 78 1 = 0 := by rw [n5.at 78 1 rfl, FYZ.row 78 rfl, ← hY, up_eq]
      unfold Tp
      rw [m1, m2, hF.row 79 rfl, hF.row 2 rfl]
      exact ⟨⟨by decide, by decide⟩, t2, rfl, t4⟩
    · obtain ⟨p1, p2, p3, p4⟩ := h7
      unfold Pa
      rw [n2, hF.at 78 64 rfl]
      exact ⟨⟨by decide, by decide⟩, p2, by rw [F0N.row 39 rfl, rk], fun j j1 j2 => absurd j2 (by omega)⟩
