theorem PM.rm {V M0 N : Mm} {c : Int} (hm : Rm V M0) (h : PM V M0 c N) : Rm V N := hm.fr h.2.2 rfl
theorem s_imageM {V M : Mm} (hT : Tw V) (hN : Nw V) (hm : Rm V M) : wq (f_M_image M) (fun q => q.1 = 2 + nS V + 4 * nW V + 1 ∧ q.2 78 99 = 2 + nS V + 4 * nW V + 1 ∧ (∀ k : Nat, (k : Int) < 2 + nS V + 4 * nW V → q.2 145 k = pf V k) ∧ q.2 145 (2 + nS V + 4 * nW V).toNat = ckf (pf V) (2 + nS V + 4 * nW V).toNat ∧ Fr [(78, 99), (145, 99999)] M q.2) := by
  have hS := hT.2.1
  have hW := hT.2.2.1
  have hh := hN.1
  have e108 : M 108 0 = hr V := by rw [hm.2.2.2.2.2.2]; rfl
  unfold f_M_image
  refine wq_d ?_
  have i0 : PM V M 0 (up M 78 99 0) := ⟨up_eq _ _ _ _, fun k hk => absurd hk (by omega), Fr.rf.up (by simp)⟩
  rw [up_row (by decide), e108, i32_id (x := hr V) (by omega) (by omega), i32_id (x := 256) (by omega) (by omega), tdiv_pos (by omega)]
  refine wq_V (s_writes i0 (by decide) (by decide) (by rfl)) (fun A a => ?_)
  have a : PM V M 1 A := a
  rw [a.2.2.row 108 rfl, e108, i32_id (x := hr V) (by omega) (by omega), tmod_pos (by omega)]
  refine wq_V (s_writes a (by decide) (by decide) (by rfl)) (fun A2 a2 => ?_)
  have a2 : PM V M 2 A2 := a2
  unfold f_M_image_L35
  refine wq_lp (fun z => (0 ≤ z.1 ∧ z.1 ≤ nS V) ∧ PM V M (2 + z.1) z.2) (fun z => (nS V - z.1).toNat) ?_ FU _ ?_ ?_
  · rintro kH ⟨v1, N⟩ ⟨q1, q2⟩ hk
    have a1 : 0 ≤ v1 ∧ v1 ≤ nS V := q1
    have a2 : PM V M (2 + v1) N := q2
    clear q1 q2
    show wq (f_M_image_B35 (fun v1 M => kH (v1, M)) _ v1 N) _
    unfold f_M_image_B35
    rw [e_mS (a2.rm hm), bI_s, i32_id (x := nS V) (by omega) (by omega), i32_id (x := v1) (by omega) (by omega)]
    refine wq_if (fun c => ?_) (fun c => ?_)
    · have ev : v1 = nS V := by omega
      rw [ev] at a2
      unfold f_M_image_L60
      refine wq_lp (fun z => (0 ≤ z.1 ∧ z.1 ≤ nW V) ∧ PM V M (2 + nS V + 4 * z.1) z.2) (fun z => (nW V - z.1).toNat) ?_ FU _ ?_ ?_
      · rintro kG ⟨w, B⟩ ⟨p1, p2⟩ hg
        have b1 : 0 ≤ w ∧ w ≤ nW V := p1
        have b2 : PM V M (2 + nS V + 4 * w) B := p2
        clear p1 p2
        show wq (f_M_image_B60 (fun v1 M => kG (v1, M)) _ w B) _
        unfold f_M_image_B60
        rw [e_mW (b2.rm hm), bI_s, i32_id (x := nW V) (by omega) (by omega), i32_id (x := w) (by omega) (by omega)]
        refine wq_if (fun d => ?_) (fun d => ?_)
        · have ew : w = nW V := by omega
          rw [ew] at b2
          obtain ⟨g1, g2, g3⟩ := b2
          dsimp only
          rw [g1]
          refine wq_I (s_checked (row := 145) (len := 39) rfl (by decide) (by omega) (by omega) (fun k hk' => by rw [g2 k hk']; exact pf_rng hT hN hk')) (fun r B2 ⟨r1, r2⟩ => ?_)
          have r1 : r = ckf (B 145) (2 + nS V + 4 * nW V).toNat := r1
          have r2 : B2 = B := r2
          rw [r2]
          unfold f_M_writes
          rw [g1, i32_id (x := 2 + nS V + 4 * nW V) (by omega) (by omega), gd_t (by omega), bd_s, bd_s, bV_s, up_eq, up_row (by decide), g1]
          refine wq_some ⟨rfl, by dsimp only; rw [up_eq], fun k hk' => ?_, ?_, (g3.up (by simp)).up (by simp)⟩
          · dsimp only
            rw [up_row (by decide), up_col (by omega)]; exact g2 k hk'
          · dsimp only
            rw [up_row (by decide), up_eq, r1]
            exact ckf_cg _ (fun j hj => g2 j (by omega))
        · have hp := pl_rng hT hN b1.1 (by omega : w < nW V)
          have hf := (hN.2.2 w b1.1 (by omega)).2
          obtain ⟨y1, y2, y3, y4⟩ := pf_w hT b1.1
          rw [e_place (b2.rm hm) b1.1 (by omega), bI_s]
          refine wq_V (s_writes b2 (by omega) (by omega) y1.symm) (fun C c1 => ?_)
          rw [e_goal (PM.rm hm c1) b1.1 (by omega), bI_s]
          refine wq_V (s_writes c1 (by omega) (by omega) y2.symm) (fun D d1 => ?_)
          have eD : D 108 (13 + 3 * w + 2).toNat = fr V w := by rw [(PM.rm hm d1).2.2.2.2.2.2, show 13 + 3 * w + 2 = 15 + 3 * w by omega]; rfl
          rw [i32_id (x := 13 + 3 * w + 2) (by omega) (by omega), eD, i32_id (x := fr V w) (by omega) (by omega), tdiv_pos (by omega)]
          refine wq_g (by omega) (wq_V (s_writes d1 (by omega) (by omega) ?_) (fun E e1 => ?_))
          · rw [show 2 + nS V + 4 * w + 1 + 1 = 2 + nS V + 4 * w + 2 by omega]; exact y3.symm
          have eE : E 108 (13 + 3 * w + 2).toNat = fr V w := by rw [(PM.rm hm e1).2.2.2.2.2.2, show 13 + 3 * w + 2 = 15 + 3 * w by omega]; rfl
          rw [eE, i32_id (x := fr V w) (by omega) (by omega), tmod_pos (by omega)]
          refine wq_g (by omega) (wq_V (s_writes e1 (by omega) (by omega) ?_) (fun F f1 => ?_))
          · rw [show 2 + nS V + 4 * w + 1 + 1 + 1 = 2 + nS V + 4 * w + 3 by omega]; exact y4.symm
          rw [show 2 + nS V + 4 * w + 1 + 1 + 1 + 1 = 2 + nS V + 4 * (w + 1) by omega] at f1
          exact hg _ ⟨⟨show 0 ≤ w + 1 by omega, show w + 1 ≤ nW V by omega⟩, f1⟩ (show (nW V - (w + 1)).toNat < (nW V - w).toNat by omega)
      · exact ⟨⟨Int.le_refl _, hW.1⟩, by show PM V M (2 + nS V + 4 * 0) N; rw [show 2 + nS V + 4 * 0 = 2 + nS V by omega]; exact a2⟩
      · show (nW V - 0).toNat < 1000000000
        omega
    · rw [e_shift (a2.rm hm) a1.1 (by omega), bI_s]
      refine wq_V (s_writes a2 (by omega) (by omega) (pf_s hT a1.1 (by omega)).symm) (fun B b => ?_)
      rw [show 2 + v1 + 1 = 2 + (v1 + 1) by omega] at b
      exact hk _ ⟨⟨show 0 ≤ v1 + 1 by omega, show v1 + 1 ≤ nS V by omega⟩, b⟩ (show (nS V - (v1 + 1)).toNat < (nS V - v1).toNat by omega)
  · exact ⟨⟨Int.le_refl _, hS.1⟩, a2⟩
  · show (nS V - 0).toNat < 1000000000
    omega
theorem call_image {n : Nat} : CallOk n f_BT_image f_M_image := by
  intro M hR
  obtain ⟨h1, h2, h3, h4, h5, h6, h7, h8, h9, h10, h11⟩ := id hR
  have hS := h1.2.1
  have hW := h1.2.2.1
  unfold f_BT_image
  refine wq_V (s_draw h1 h2 h3.1 h3.2.1) (fun X ⟨x1, x2, x3, x4⟩ => wq_some ?_)
  rw [x1]
  show wq (f_M_image X) (fun q' => 2 + nS M + 4 * nW M + 1 = q'.1 ∧ Rl (n + 1) q'.2 q'.2)
  refine wq_m (s_imageM h1 h2 (Rm.fr rmR x4 rfl)) ?_
  rintro ⟨r, N⟩ ⟨y1, y2, y3, y4, y5⟩
  have y1 : r = 2 + nS M + 4 * nW M + 1 := y1
  have y2 : N 78 99 = 2 + nS M + 4 * nW M + 1 := y2
  have y3 : ∀ k : Nat, (k : Int) < 2 + nS M + 4 * nW M → N 145 k = pf M k := y3
  have y4 : N 145 (2 + nS M + 4 * nW M).toNat = ckf (pf M) (2 + nS M + 4 * nW M).toNat := y4
  have y5 : Fr [(78, 99), (145, 99999)] X N := y5
  refine ⟨y1.symm, ?_⟩
  show Rl (n + 1) N N
  have hF : Fr [(39, 7), (45, 99999), (78, 99), (145, 99999)] M N := (x4.cov rfl).tr (y5.cov rfl)
  have hu : Ru M N := Ru.of hF rfl
  have hNc : Nc M N := by
    have g := h3.2.1
    unfold Nc at *
    rw [hF.at 39 8 rfl, hF.row 40 rfl, hF.row 41 rfl, hF.row 42 rfl, hF.row 43 rfl]
    exact g
  refine rel_c hR (hF.cov rfl) (h3.2.2.fr hF rfl) (by rw [hF.row 48 rfl]; exact h10.2.2) (h2.ru hu) (nc_ru hNc hu) (h4.c (hF.at 78 1 rfl) (hF.row 79 rfl) (hF.at 1 1 rfl) (hF.row 2 rfl)) (h5.c (hF.at 78 7 rfl) (hF.at 78 8 rfl) (hF.row 80 rfl) (hF.at 78 65 rfl) (hF.at 0 11 rfl) (hF.at 0 12 rfl) (hF.row 77 rfl) (hF.at 0 13 rfl)) (h7.cg hu.t (hF.at 78 63 rfl) (hF.at 78 64 rfl) (hF.row 120 rfl) (hF.at 39 9 rfl) (hF.row 44 rfl)) ?_ (h9.cg hu.t (hF.at 78 66 rfl) (hF.row 121 rfl) (hF.at 64 6 rfl) (hF.row 65 rfl) (hF.row 66 rfl) (hF.row 67 rfl))
  unfold Pc
  rw [y2, y5.row 39 rfl, x1, y5.row 45 rfl]
  refine ⟨by omega, rfl, fun k hk => ?_⟩
  by_cases z : (k : Int) < 2 + nS M + 4 * nW M
  · rw [x2 k z, y3 k z]
  · rw [show k = (2 + nS M + 4 * nW M).toNat by omega, x3, y4]
