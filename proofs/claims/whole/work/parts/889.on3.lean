def hrs (V : Mm) (p : Int) : Int := V 79 p.toNat * 256 + V 79 (p + 1).toNat
def rsL : List (Nat × Nat) := [(39, 8), (39, 9), (40, 99999), (41, 99999), (42, 99999), (43, 99999)]
theorem s_restore {V M : Mm} {e : Int} (hT : Tw V) (hc : Tc V M) (he : M 1 1 = e) (h1 : e ≤ 1600) (h2 : M 2 = V 79) (hp : e = 2 + nS V + 4 * nW V + 1) : wq (f_Now_restore M) (fun X => X 39 8 = hrs V 0 ∧ X 39 9 = 0 ∧ (∀ s : Int, 0 ≤ s → s < nS V → X 40 s.toNat = V 79 (2 + s).toNat) ∧ (∀ w : Int, 0 ≤ w → w < nW V → X 41 w.toNat = V 79 (2 + nS V + 4 * w).toNat ∧ X 42 w.toNat = V 79 (2 + nS V + 4 * w + 1).toNat ∧ X 43 w.toNat = hrs V (2 + nS V + 4 * w + 2)) ∧ Fr rsL M X) := by
  have hS := hT.2.1
  have hW := hT.2.2.1
  unfold f_Now_restore
  rw [e_hourAt (V := V) he h1 h2 (by decide) (by omega), bI_s]
  refine wq_d (wq_d ?_)
  show wq (bI (f_Told_count 3 1 (up (up M 39 8 (hrs V 0)) 39 9 0)) _) _
  generalize hA : up (up M 39 8 (hrs V 0)) 39 9 0 = A
  have FA : Fr rsL M A := by rw [← hA]; exact (Fr.rf.up (by simp [rsL])).up (by simp [rsL])
  have a8 : A 39 8 = hrs V 0 := by rw [← hA, up_col (by decide), up_eq]
  have a9 : A 39 9 = 0 := by rw [← hA, up_eq]
  rw [e_count1 (hc.fr FA rfl), bI_s]
  unfold f_Now_restore_L25
  refine wq_lp (fun z => z.1 = nS V ∧ (0 ≤ z.2.1 ∧ z.2.1 ≤ nS V) ∧ (∀ s : Int, 0 ≤ s → s < z.2.1 → z.2.2 40 s.toNat = V 79 (2 + s).toNat) ∧ Fr [(40, 99999)] A z.2.2) (fun z => (nS V - z.2.1).toNat) ?_ FU _ ?_ ?_
  · rintro kH ⟨v2, v3, N⟩ ⟨q1, q2, q3, q4⟩ hk
    have a1 : v2 = nS V := q1
    have a3 : 0 ≤ v3 ∧ v3 ≤ nS V := q2
    have a4 : ∀ s : Int, 0 ≤ s → s < v3 → N 40 s.toNat = V 79 (2 + s).toNat := q3
    have a5 : Fr [(40, 99999)] A N := q4
    clear q1 q2 q3 q4
    have FN : Fr rsL M N := FA.tr (a5.cov rfl)
    show wq (f_Now_restore_B25 (fun v2 v3 M => kH (v2, v3, M)) _ v2 v3 N) _
    rw [a1]
    unfold f_Now_restore_B25
    rw [i32_id (x := nS V) (by omega) (by omega), i32_id (x := v3) (by omega) (by omega)]
    refine wq_if (fun x => ?_) (fun x => ?_)
    · dsimp only
      unfold f_Now_restore_L53
      refine wq_lp (fun z => z.1 = nS V ∧ (0 ≤ z.2.1 ∧ z.2.1 ≤ nW V) ∧ (∀ w : Int, 0 ≤ w → w < z.2.1 → z.2.2 41 w.toNat = V 79 (2 + nS V + 4 * w).toNat ∧ z.2.2 42 w.toNat = V 79 (2 + nS V + 4 * w + 1).toNat ∧ z.2.2 43 w.toNat = hrs V (2 + nS V + 4 * w + 2)) ∧ Fr [(41, 99999), (42, 99999), (43, 99999)] N z.2.2) (fun z => (nW V - z.2.1).toNat) ?_ FU _ ?_ ?_
      · rintro kG ⟨u2, w, B⟩ ⟨p1, p2, p3, p4⟩ hg
        have b1 : u2 = nS V := p1
        have b3 : 0 ≤ w ∧ w ≤ nW V := p2
        have b4 : ∀ w' : Int, 0 ≤ w' → w' < w → B 41 w'.toNat = V 79 (2 + nS V + 4 * w').toNat ∧ B 42 w'.toNat = V 79 (2 + nS V + 4 * w' + 1).toNat ∧ B 43 w'.toNat = hrs V (2 + nS V + 4 * w' + 2) := p3
        have b5 : Fr [(41, 99999), (42, 99999), (43, 99999)] N B := p4
        clear p1 p2 p3 p4
        have FB : Fr rsL M B := FN.tr (b5.cov rfl)
        have B1 : B 1 1 = e := by rw [FB.row 1 rfl, he]
        have B2 : B 2 = V 79 := by rw [FB.row 2 rfl, h2]
        show wq (f_Now_restore_B53 (fun v2 v3 M => kG (v2, v3, M)) u2 w B) _
        rw [b1]
        unfold f_Now_restore_B53
        rw [e_count2 (hc.fr FB rfl), bI_s, i32_id (x := nW V) (by omega) (by omega), i32_id (x := w) (by omega) (by omega)]
        refine wq_if (fun y => wq_some ⟨by rw [b5.row 39 rfl, a5.row 39 rfl, a8], by rw [b5.row 39 rfl, a5.row 39 rfl, a9], fun s s1 s2 => by rw [b5.row 40 rfl]; exact a4 s s1 (by omega), fun w' w1 w2 => b4 w' w1 (by omega), FB⟩) (fun y => ?_)
        rw [e_byteAt (e := e) B1 h1 (by omega) (by omega), bI_s, e_set (n := 6) B rfl (by decide) b3.1 (by omega), bV_s, B2]
        rw [e_byteAt (e := e) (by rw [up_row (by decide)]; exact B1) h1 (by omega) (by omega), bI_s, up_row (by decide), B2, e_set (n := 6) _ rfl (by decide) b3.1 (by omega), bV_s]
        rw [e_hourAt (V := V) (e := e) (by rw [up_row (by decide), up_row (by decide)]; exact B1) h1 (by rw [up_row (by decide), up_row (by decide)]; exact B2) (by omega) (by omega), bI_s, e_set (n := 6) _ rfl (by decide) b3.1 (by omega), bV_s]
        refine hg _ ⟨rfl, ⟨show 0 ≤ w + 1 by omega, show w + 1 ≤ nW V by omega⟩, fun w' w1 w2 => ?_, ((b5.up (by simp)).up (by simp)).up (by simp)⟩ (show (nW V - (w + 1)).toNat < (nW V - w).toNat by omega)
        have w2 : w' < w + 1 := w2
        dsimp only
        by_cases t : w' = w
        · rw [t]
          refine ⟨by rw [up_row (by decide), up_row (by decide), up_eq], by rw [up_row (by decide), up_eq], by rw [up_eq]; rfl⟩
        · obtain ⟨d1, d2, d3⟩ := b4 w' w1 (by omega)
          refine ⟨by rw [up_row (by decide), up_row (by decide), up_col (by omega)]; exact d1, by rw [up_row (by decide), up_col (by omega), up_row (by decide)]; exact d2, by rw [up_col (by omega), up_row (by decide), up_row (by decide)]; exact d3⟩
      · exact ⟨rfl, ⟨Int.le_refl _, hW.1⟩, fun w w1 w2 => absurd w2 (by show ¬ w < 0; omega), Fr.rf⟩
      · show (nW V - 0).toNat < 1000000000
        omega
    · have N1 : N 1 1 = e := by rw [FN.row 1 rfl, he]
      have N2 : N 2 = V 79 := by rw [FN.row 2 rfl, h2]
      rw [e_byteAt (e := e) N1 h1 (by omega) (by omega), bI_s, e_set (n := 12) N rfl (by decide) a3.1 (by omega), bV_s, N2]
      refine hk _ ⟨rfl, ⟨show 0 ≤ v3 + 1 by omega, show v3 + 1 ≤ nS V by omega⟩, fun s s1 s2 => ?_, a5.up (by simp)⟩ (show (nS V - (v3 + 1)).toNat < (nS V - v3).toNat by omega)
      have s2 : s < v3 + 1 := s2
      dsimp only
      by_cases t : s = v3
      · rw [t, up_eq]
      · rw [up_col (by omega)]; exact a4 s s1 (by omega)
  · exact ⟨rfl, ⟨Int.le_refl _, hS.1⟩, fun s s1 s2 => absurd s2 (by show ¬ s < 0; omega), Fr.rf⟩
  · show (nS V - 0).toNat < 1000000000
    omega
