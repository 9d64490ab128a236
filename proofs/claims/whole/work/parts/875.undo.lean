theorem s_moveB {row n : Nat} {v : Int} {M : Mm} (hn : slen row = n) (hn2 : n ≤ 12) (hr : row ≠ 44) (h1 : 0 ≤ v) (h2 : v + n ≤ 620) : wq (f_Now_move row v 0 M) (fun M' => (∀ k : Nat, k < n → M' row k = M 44 (v.toNat + k)) ∧ Fr [(row, 99999)] M M') := by
  unfold f_Now_move f_Now_move_L3
  refine wq_lp (fun z => z.1 = v ∧ z.2.1 = 0 ∧ (0 ≤ z.2.2.1 ∧ z.2.2.1 ≤ (n : Int)) ∧ (∀ k : Nat, (k : Int) < z.2.2.1 → z.2.2.2 row k = M 44 (v.toNat + k)) ∧ Fr [(row, 99999)] M z.2.2.2) (fun z => ((n : Int) - z.2.2.1).toNat) ?_ FU _ ?_ ?_
  · rintro kH ⟨v2, v3, v4, N⟩ ⟨q1, q2, q3, q4, q6⟩ hk
    have e1 : v2 = v := q1
    have e2 : v3 = 0 := q2
    have e3 : 0 ≤ v4 ∧ v4 ≤ (n : Int) := q3
    have e4 : ∀ k : Nat, (k : Int) < v4 → N row k = M 44 (v.toNat + k) := q4
    have e6 : Fr [(row, 99999)] M N := q6
    clear q1 q2 q3 q4 q6
    show wq (f_Now_move_B3 row (fun v2 v3 v4 M => kH (v2, v3, v4, M)) v2 v3 v4 N) _
    rw [e1, e2]
    unfold f_Now_move_B3
    rw [hn, i32_id (x := (n : Int)) (by omega) (by omega), i32_id (x := v4) (by omega) (by omega)]
    refine wq_if (fun c => wq_some ⟨fun k hk' => e4 k (by omega), e6⟩) (fun c => wq_t (by decide) ?_)
    have eN : N 44 = M 44 := e6.rw' 44 fun p hp => by simp at hp; rw [hp]; exact hr
    rw [e_cell_in (n := 620) N rfl (by decide) (by omega) (by omega), bI_s, e_set (n := n) N hn (by omega) e3.1 (by omega), bV_s, eN]
    refine hk _ ⟨rfl, rfl, ⟨show 0 ≤ v4 + 1 by omega, show v4 + 1 ≤ (n : Int) by omega⟩, fun k hk' => ?_, e6.up (by simp)⟩ (show ((n : Int) - (v4 + 1)).toNat < ((n : Int) - v4).toNat by omega)
    have hk' : (k : Int) < v4 + 1 := hk'
    show (up N row v4.toNat (M 44 (v + v4).toNat)) row k = M 44 (v.toNat + k)
    by_cases z : (k : Int) = v4
    · rw [show v4.toNat = k by omega, up_eq, show (v + v4).toNat = v.toNat + k by omega]
    · rw [up_col (by omega)]; exact e4 k (by omega)
  · exact ⟨rfl, rfl, ⟨Int.le_refl _, by show (0 : Int) ≤ n; omega⟩, fun k hk' => absurd hk' (by show ¬ (k : Int) < 0; omega), Fr.rf⟩
  · show ((n : Int) - 0).toNat < 1000000000
    omega
def tbL : List (Nat × Nat) := [(39, 8), (39, 9), (40, 99999), (41, 99999), (42, 99999), (43, 99999)]
theorem s_takeBack {M : Mm} {c : Int} (hc : M 39 9 = c) (c1 : 1 ≤ c) (c2 : c ≤ 20) : wq (f_Now_takeBack M) (fun M' => M' 39 9 = c - 1 ∧ kE M' M (31 * (c - 1)).toNat ∧ Fr tbL M M') := by
  unfold f_Now_takeBack
  rw [hc, i32_id (x := 1) (by omega) (by omega), i32_id (x := c) (by omega) (by omega), if_pos c1]
  refine wq_d ?_
  rw [up_eq, e_cell_in (n := 620) _ rfl (by decide) (by omega) (by omega), bI_s, up_row (by decide)]
  refine wq_d ?_
  generalize hA : up (up M 39 9 (c - 1)) 39 8 (M 44 ((c - 1) * 31).toNat) = A
  have FA : Fr tbL M A := by rw [← hA]; exact (Fr.rf.up (by simp [tbL])).up (by simp [tbL])
  have a8 : A 39 8 = M 44 ((c - 1) * 31).toNat := by rw [← hA, up_eq]
  have a9 : A 39 9 = c - 1 := by rw [← hA, up_col (by decide), up_eq]
  refine wq_V (s_moveB (n := 12) rfl (by decide) (by decide) (by omega) (by omega)) (fun B ⟨b1, b2⟩ => ?_)
  refine wq_V (s_moveB (n := 6) rfl (by decide) (by decide) (by omega) (by omega)) (fun C ⟨d1, d2⟩ => ?_)
  refine wq_V (s_moveB (n := 6) rfl (by decide) (by decide) (by omega) (by omega)) (fun D ⟨f1, f2⟩ => ?_)
  refine wq_V (s_moveB (n := 6) rfl (by decide) (by decide) (by omega) (by omega)) (fun E ⟨g1, g2⟩ => ?_)
  have FB : Fr tbL M B := FA.tr (b2.cov rfl)
  have FC : Fr tbL M C := FB.tr (d2.cov rfl)
  have FD : Fr tbL M D := FC.tr (f2.cov rfl)
  refine wq_some ⟨by rw [g2.row 39 rfl, f2.row 39 rfl, d2.row 39 rfl, b2.row 39 rfl, a9], ⟨?_, fun k hk => ?_, fun k hk => ?_, fun k hk => ?_, fun k hk => ?_⟩, FD.tr (g2.cov rfl)⟩
  · rw [g2.row 39 rfl, f2.row 39 rfl, d2.row 39 rfl, b2.row 39 rfl, a8]; congr 1; omega
  · rw [g2.row 40 rfl, f2.row 40 rfl, d2.row 40 rfl, b1 k hk, FA.row 44 rfl]; congr 1; omega
  · rw [g2.row 41 rfl, f2.row 41 rfl, d1 k hk, FB.row 44 rfl]; congr 1; omega
  · rw [g2.row 42 rfl, f1 k hk, FC.row 44 rfl]; congr 1; omega
  · rw [g1 k hk, FD.row 44 rfl]; congr 1; omega
theorem vw_id (N : Mm) : vw N (N 108) = N := by
  funext i
  unfold vw
  by_cases c : i = 108
  · rw [if_pos c, c]
  · rw [if_neg c]
theorem s_undoM {M : Mm} (h1 : 1 ≤ M 78 63 ∧ M 78 63 ≤ 20) (h2 : 0 ≤ M 78 64 ∧ M 78 64 < 20) : wq (f_M_undo M) (fun q => q.1 = 1 ∧ (∀ k : Nat, k < 31 → q.2 108 k = M 120 ((31 * M 78 64).toNat + k)) ∧ q.2 78 64 = (M 78 64 + 19) % 20 ∧ q.2 78 63 = M 78 63 - 1 ∧ Fr [(108, 99999), (78, 64), (78, 63)] M q.2) := by
  unfold f_M_undo
  rw [i32_id (x := M 78 63) (by omega) (by omega), if_pos (by omega)]
  unfold f_M_undo_L21
  refine wq_lp (fun z => (0 ≤ z.1 ∧ z.1 ≤ 31) ∧ (∀ k : Nat, (k : Int) < z.1 → z.2 108 k = M 120 ((31 * M 78 64).toNat + k)) ∧ Fr [(108, 99999)] M z.2) (fun z => (31 - z.1).toNat) ?_ FU _ ?_ ?_
  · rintro kH ⟨v1, N⟩ ⟨q1, q2, q3⟩ hk
    have e1 : 0 ≤ v1 ∧ v1 ≤ 31 := q1
    have e2 : ∀ k : Nat, (k : Int) < v1 → N 108 k = M 120 ((31 * M 78 64).toNat + k) := q2
    have e3 : Fr [(108, 99999)] M N := q3
    clear q1 q2 q3
    have g78 : N 78 = M 78 := e3.row 78 rfl
    have g120 : N 120 = M 120 := e3.row 120 rfl
    show wq (f_M_undo_B21 (fun v1 M => kH (v1, M)) _ v1 N) _
    unfold f_M_undo_B21
    rw [i32_id (x := 31) (by omega) (by omega), i32_id (x := v1) (by omega) (by omega), g78, g120, i32_id (x := 31 * M 78 64 + v1) (by omega) (by omega)]
    refine wq_if (fun c => ?_) (fun c => wq_g (by omega) (wq_g (by omega) (wq_d (hk _ ⟨⟨show 0 ≤ v1 + 1 by omega, show v1 + 1 ≤ 31 by omega⟩, fun k hk' => ?_, e3.up (by simp)⟩ (show (31 - (v1 + 1)).toNat < (31 - v1).toNat by omega)))))
    · dsimp only
      rw [g78, i32_id (x := M 78 64 + 20 - 1) (by omega) (by omega), i32_id (x := 20) (by omega) (by omega), tmod_pos (by omega), show M 78 64 + 20 - 1 = M 78 64 + 19 by omega]
      refine wq_d (wq_d (wq_some ⟨rfl, fun k hk' => ?_, ?_, ?_, ?_⟩))
      · dsimp only
        rw [up_row (by decide), up_row (by decide)]; exact e2 k (by omega)
      · dsimp only
        rw [up_col (by decide), up_eq]
      · dsimp only
        rw [up_eq, up_col (by decide), g78]
      · exact ((e3.cov rfl).up (by simp)).up (by simp)
    · have hk' : (k : Int) < v1 + 1 := hk'
      show (up N 108 v1.toNat (M 120 (31 * M 78 64 + v1).toNat)) 108 k = M 120 ((31 * M 78 64).toNat + k)
      by_cases z : (k : Int) = v1
      · rw [show v1.toNat = k by omega, up_eq]; congr 1; omega
      · rw [up_col (by omega)]; exact e2 k (by omega)
  · exact ⟨⟨Int.le_refl _, by show (0 : Int) ≤ 31; decide⟩, fun k hk' => absurd hk' (by show ¬ (k : Int) < 0; omega), Fr.rf⟩
  · show (31 - (0 : Int)).toNat < 1000000000
    decide
theorem call_undo {n : Nat} : CallOk n f_BT_undo f_M_undo := by
  intro M hR
  obtain ⟨h1, h2, h3, h4, h5, h6, h7, h8, h9, h10, h11⟩ := id hR
  obtain ⟨p1, p2, p3, p4⟩ := id h7
  have hS := h1.2.1
  have hW := h1.2.2.1
  unfold f_BT_undo
  rw [i32_id (x := 1) (by omega) (by omega), i32_id (x := M 39 9) (by omega) (by omega)]
  refine wq_if (fun c => ?_) (fun c => ?_)
  · refine wq_V (s_takeBack (M := M) rfl c (by omega)) (fun X ⟨k1, k2, k3⟩ => wq_some ?_)
    show wq (f_M_undo X) (fun q' => (1 : Int) = q'.1 ∧ Rl (n + 1) q'.2 q'.2)
    have x78 : X 78 = M 78 := k3.row 78 rfl
    refine wq_m (s_undoM (M := X) (by rw [x78]; omega) (by rw [x78]; exact p2)) ?_
    rintro ⟨r, N⟩ ⟨a1, a2, a3, a4, a5⟩
    have a1 : r = 1 := a1
    have a2 : ∀ k : Nat, k < 31 → N 108 k = X 120 ((31 * X 78 64).toNat + k) := a2
    have a3 : N 78 64 = (X 78 64 + 19) % 20 := a3
    have a4 : N 78 63 = X 78 63 - 1 := a4
    have a5 : Fr [(108, 99999), (78, 64), (78, 63)] X N := a5
    refine ⟨a1.symm, ?_⟩
    show Rl (n + 1) N N
    rw [x78] at a3 a4
    rw [x78, k3.row 120 rfl] at a2
    have FN : Fr ([(108, 99999), (78, 64), (78, 63)] ++ tbL) M N := (k3.cov rfl).tr (a5.cov rfl)
    have hu : Rt M N := Rt.of FN rfl
    have eP : pr M 0 = (31 * M 78 64).toNat := by unfold pr; congr 2; omega
    have n44 : N 44 = M 44 := FN.row 44 rfl
    have g := p4 0 (Int.le_refl _) (by omega)
    rw [eP, show M 78 63 - 1 - 0 = M 78 63 - 1 by omega] at g
    have g' := pa_fn (V' := N) (M' := N) (f' := N 108) (c' := (31 * (M 78 63 - 1)).toNat) h1 hu (fun k hk => a2 k hk) (fun k _ => by rw [n44]) g
    rw [vw_id] at g'
    obtain ⟨d1, d2, d3, d4, d5⟩ := k2
    rw [p3] at d1 d2 d3 d4 d5
    refine rel_c hR (FN.cov rfl) (h3.2.2.fr FN rfl) (by rw [FN.row 48 rfl]; exact h10.2.2) g'.1 ?_ (h4.c (FN.at 78 1 rfl) (FN.row 79 rfl) (FN.at 1 1 rfl) (FN.row 2 rfl)) (h5.c (FN.at 78 7 rfl) (FN.at 78 8 rfl) (FN.row 80 rfl) (FN.at 78 65 rfl) (FN.at 0 11 rfl) (FN.at 0 12 rfl) (FN.row 77 rfl) (FN.at 0 13 rfl)) ?_ (h8.c (FN.at 78 99 rfl) (FN.row 145 rfl) (FN.at 39 7 rfl) (FN.row 45 rfl)) (h9.cg hu (FN.at 78 66 rfl) (FN.row 121 rfl) (FN.at 64 6 rfl) (FN.row 65 rfl) (FN.row 66 rfl) (FN.row 67 rfl))
    · obtain ⟨b1, b2, b3⟩ := g'.2
      have e1 : cw N (31 * (M 78 63 - 1)).toNat 39 8 = N 39 8 := by
        show N 44 (31 * (M 78 63 - 1)).toNat = N 39 8
        rw [n44, d1, a5.row 39 rfl]
      refine ⟨by rw [← e1]; exact b1, fun s s1 s2 => ?_, fun w w1 w2 => ?_⟩
      · have hb := b2 s s1 s2
        rw [rt_nS hu] at s2
        rw [← hb]
        show N 40 s.toNat = N 44 ((31 * (M 78 63 - 1)).toNat + 1 + s.toNat)
        rw [n44, d2 _ (by omega), a5.row 40 rfl]
      · obtain ⟨q1, q2, q3⟩ := b3 w w1 w2
        rw [rt_nW hu] at w2
        rw [← q1, ← q2, ← q3]
        refine ⟨?_, ?_, ?_⟩
        · show N 41 w.toNat = N 44 ((31 * (M 78 63 - 1)).toNat + 13 + w.toNat)
          rw [n44, d3 _ (by omega), a5.row 41 rfl]
        · show N 42 w.toNat = N 44 ((31 * (M 78 63 - 1)).toNat + 19 + w.toNat)
          rw [n44, d4 _ (by omega), a5.row 42 rfl]
        · show N 43 w.toNat = N 44 ((31 * (M 78 63 - 1)).toNat + 25 + w.toNat)
          rw [n44, d5 _ (by omega), a5.row 43 rfl]
    · refine ⟨by rw [a4]; omega, by rw [a3]; omega, by rw [a5.row 39 rfl, k1, a4]; omega, fun j j1 j2 => ?_⟩
      rw [a4] at j2 ⊢
      have ePj : pr N j = pr M (j + 1) := by unfold pr; rw [a3]; congr 2; omega
      rw [ePj, FN.row 120 rfl, show M 78 63 - 1 - 1 - j = M 78 63 - 1 - (j + 1) by omega]
      exact pa_fn h1 hu (fun k _ => rfl) (fun k _ => by rw [n44]) (p4 (j + 1) (by omega) (by omega))
  · rw [e_ref3, bI_s]
    refine wq_some ?_
    show wq (f_M_undo (up M 77 3 (M 77 3 + 1))) _
    have e : (up M 77 3 (M 77 3 + 1)) 78 63 = M 78 63 := by rw [up_row (by decide)]
    unfold f_M_undo
    rw [e, i32_id (x := M 78 63) (by omega) (by omega)]
    exact wq_e (fun z => z (by omega)) (wq_d (wq_some ⟨rfl, rel_ref hR (rel_n hR) 3⟩))
