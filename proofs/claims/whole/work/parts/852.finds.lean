theorem s_findsWay {V M : Mm} {R : List (Int × Int × Int)} {w : Int} (hT : Tw V) (hN : Nw V) (h : Rm V M) (hB : bzM M R) (hR : rdOk R) (h1 : 0 ≤ w) (h2 : w < nW V) :
    wq (f_M_findsWay w M) (fun q => isA V R (br V w) (-1) (sto V w + 400) (pl V w) (sto V w) (ar q.2 110) ∧ ((q.1 = 0 ∧ ar q.2 110 (gl V w) = 1000000) ∨ (q.1 = 1 ∧ ar q.2 110 (gl V w) ≠ 1000000 ∧ ∃ L, wpB V R (br V w) (pl V w) (ar q.2 110) L (gl V w) (pl V w) ∧ L.length ≤ 8 ∧ stpM q.2 L)) ∧ Rm V q.2 ∧ Fr fwL M q.2) := by
  have hW := hT.2.2.1
  have hP := hT.1
  have hs := sto_rng hN h1 h2
  have hp := pl_rng hT hN h1 h2
  unfold f_M_findsWay
  refine wq_V (s_spreadsFor hT hN h hB hR h1 h2 (by decide) (by decide)) (fun M1 ⟨a1, a2, a3⟩ => wq_d ?_)
  have F0 : Fr fwL M (up M1 78 51 0) := (a3.cov rfl : Fr fwL M M1).up (by simp [fwL])
  have hR0 : Rm V (up M1 78 51 0) := h.spr F0
  have e110 : (up M1 78 51 0) 110 = M1 110 := up_row (by decide)
  have hA0 : isA V R (br V w) (-1) (sto V w + 400) (pl V w) (sto V w) (ar (up M1 78 51 0) 110) := by
    have : ar (up M1 78 51 0) 110 = ar M1 110 := by unfold ar; rw [e110]
    rw [this]; exact a1
  have hs0 : stpM (up M1 78 51 0) [] := ⟨up_eq M1 78 51 0, fun k q hq => by simp at hq⟩
  generalize up M1 78 51 0 = M0 at *
  rw [e_goal hR0 h1 (by omega), bI_s, i32_id (x := gl V w) (by omega) (by omega)]
  have eg : M0 110 (gl V w).toNat = ar M0 110 (gl V w) := rfl
  have hgr := Sp_rng hT (by omega) hA0.2.2 hp.2.1.1 (by omega : gl V w < 9)
  rw [eg, i32_id (x := ar M0 110 (gl V w)) (by omega) (by omega), i32_id (x := 1000000) (by omega) (by omega)]
  refine wq_g (by omega) ?_
  by_cases c : ar M0 110 (gl V w) = 1000000
  · exact wq_e (fun z => z c) (wq_some ⟨hA0, Or.inl ⟨rfl, c⟩, hR0, F0⟩)
  refine wq_t c ?_
  unfold f_M_findsWay_L31
  refine wq_lp (fun z => z.1 = w ∧ (0 ≤ z.2.1 ∧ z.2.1 < 9) ∧ ar M0 110 z.2.1 ≠ 1000000 ∧ (∃ L, wpB V R (br V w) (pl V w) (ar M0 110) L (gl V w) z.2.1 ∧ stpM z.2.2 L ∧ (L.length : Int) + cl9 (ar M0 110) z.2.1 ≤ 8) ∧ z.2.2 110 = M0 110 ∧ Rm V z.2.2 ∧ Fr fwL M z.2.2) (fun z => (cl9 (ar M0 110) z.2.1).toNat) ?_ FU _ ?_ ?_
  · rintro kH ⟨v1, v2, N⟩ ⟨q1, q2, q3, ⟨L, q4, q5, q6⟩, q7, q8, q9⟩ hk
    have e1 : v1 = w := q1
    subst e1
    have e2 : 0 ≤ v2 ∧ v2 < 9 := q2
    have e3 : ar M0 110 v2 ≠ 1000000 := q3
    have e4 : wpB V R (br V v1) (pl V v1) (ar M0 110) L (gl V v1) v2 := q4
    have e5 : stpM N L := q5
    have e6 : (L.length : Int) + cl9 (ar M0 110) v2 ≤ 8 := q6
    have e7 : N 110 = M0 110 := q7
    have e8 : Rm V N := q8
    have e9 : Fr fwL M N := q9
    clear q1 q2 q3 q4 q5 q6 q7 q8 q9
    have ea : ar N 110 = ar M0 110 := by unfold ar; rw [e7]
    have hnn := cl9_nn (ar M0 110) v2
    show wq (f_M_findsWay_B31 (fun v1 v2 M => kH (v1, v2, M)) v1 v2 N) _
    unfold f_M_findsWay_B31
    rw [e_place e8 h1 (by omega), bI_s, i32_id (x := v2) (by omega) (by omega), i32_id (x := pl V v1) (by omega) (by omega)]
    by_cases c2 : v2 = pl V v1
    · refine wq_t c2 (wq_some ⟨?_, Or.inr ⟨rfl, ?_, L, ?_, by omega, e5⟩, e8, e9⟩)
      · show isA V R (br V v1) (-1) (sto V v1 + 400) (pl V v1) (sto V v1) (ar N 110)
        rw [ea]; exact hA0
      · show ar N 110 (gl V v1) ≠ 1000000
        rw [ea]; exact c
      · show wpB V R (br V v1) (pl V v1) (ar N 110) L (gl V v1) (pl V v1)
        rw [ea]
        have := e4
        rw [c2] at this
        exact this
    · refine wq_e c2 (wq_I (s_stepsBack (g := 0) (L := L) (lim := sto V v1 + 400) (t := sto V v1) hT hN e8 (hB.fr (l := [(110, 99999), (78, 43), (106, 99999), (107, 99999), (78, 51), (111, 99999), (112, 99999)]) e9 rfl) hR h1 h2 hs.1 (by omega) (by omega) (by rw [ea]; exact hA0) e2.1 e2.2 c2 (by rw [ea]; exact e3) e5 (by omega)) (fun r N2 ⟨s, y1, y2, y3, y4, y5, y6⟩ => ?_))
      have y2 : r = oth V s v2 := y2
      subst y2
      rw [ea] at y1 y3
      obtain ⟨z1, z2, z3⟩ := stB_in hT y1.1
      have hd := cl9_dec z2.1 z2.2 z3
      have hnn2 := cl9_nn (ar M0 110) (oth V s v2)
      have hor := Sp_rng hT (by omega) hA0.2.2 z2.1 z2.2
      have hav := Sp_rng hT (by omega) hA0.2.2 e2.1 e2.2
      have y4 : N2 110 = N 110 := y4
      refine hk _ ⟨rfl, z2, by show ar M0 110 (oth V s v2) ≠ 1000000; omega, ⟨L ++ [(s, ar M0 110 v2 - tk V s)], wpB_snoc L _ _ e4 c2 y1 rfl, y3, ?_⟩, y4.trans e7, y5, e9.tr y6⟩ (show (cl9 (ar M0 110) (oth V s v2)).toNat < (cl9 (ar M0 110) v2).toNat by omega)
      show ((L ++ [(s, ar M0 110 v2 - tk V s)]).length : Int) + cl9 (ar M0 110) (oth V s v2) ≤ 8
      simp only [List.length_append, List.length_cons, List.length_nil]
      omega
  · refine ⟨rfl, ⟨hp.2.1.1, by show gl V w < 9; omega⟩, c, ⟨[], rfl, hs0, ?_⟩, rfl, hR0, F0⟩
    have := cl9_le (arr := ar M0 110) hp.2.1.1 (by omega : gl V w < 9)
    show ((0 : Nat) : Int) + cl9 (ar M0 110) (gl V w) ≤ 8
    omega
  · have := cl9_le (arr := ar M0 110) hp.2.1.1 (by omega : gl V w < 9)
    show (cl9 (ar M0 110) (gl V w)).toNat < 1000000000
    omega
theorem s_hasWay {V M : Mm} {w : Int} (hT : Tw V) (hN : Nw V) (h : Rm V M) (h1 : 0 ≤ w) (h2 : w < nW V) :
    wq (f_M_hasWay w M) (fun q => isA V [] (br V w) (-1) (sto V w + 400) (pl V w) (sto V w) (ar q.2 110) ∧ ((q.1 = 0 ∧ ar q.2 110 (gl V w) = 1000000) ∨ (q.1 = 1 ∧ ar q.2 110 (gl V w) ≠ 1000000 ∧ ∃ L, wpB V [] (br V w) (pl V w) (ar q.2 110) L (gl V w) (pl V w) ∧ L.length ≤ 8 ∧ stpM q.2 L)) ∧ q.2 78 47 = 0 ∧ Rm V q.2 ∧ Fr ((78, 47) :: fwL) M q.2) := by
  unfold f_M_hasWay
  refine wq_d ?_
  have F0 : Fr ((78, 47) :: fwL) M (up M 78 47 0) := Fr.rf.up (by simp)
  have hB : bzM (up M 78 47 0) [] := ⟨up_eq M 78 47 0, fun k q hq => by simp at hq⟩
  refine wq_I (s_findsWay hT hN (h.fr F0 rfl) hB ⟨by simp, fun q hq => by simp at hq⟩ h1 h2) (fun r M2 ⟨a1, a2, a3, a4⟩ => ?_)
  have a4 : Fr fwL (up M 78 47 0) M2 := a4
  refine wq_g ?_ (wq_some ⟨a1, a2, ?_, a3, F0.tr (a4.cov rfl)⟩)
  · rcases a2 with ⟨e, -⟩ | ⟨e, -⟩
    · have e : r = 0 := e
      subst e; exact Or.inl (by decide)
    · have e : r = 1 := e
      subst e; exact Or.inr (by decide)
  · show M2 78 47 = 0
    rw [a4.at 78 47 rfl, up_eq]
/-- the class's steps turned round -/
theorem e_swap {row n : Nat} {a b : Int} (M : Mm) (hn : slen row = n) (hn2 : n < 2147483648) (a1 : 0 ≤ a) (a2 : a < (n : Int)) (b1 : 0 ≤ b) (b2 : b < (n : Int)) : f_Ways_swap row a b M = some (up (up M row a.toNat (M row b.toNat)) row b.toNat (M row a.toNat)) := by
  unfold f_Ways_swap
  rw [e_cell_in M hn hn2 a1 a2, bI_s, e_cell_in M hn hn2 b1 b2, bI_s, e_set M hn hn2 a1 a2, bV_s, e_set _ hn hn2 b1 b2, bV_s]
def twI (M : Mm) (row n : Nat) (i : Int) (M' : Mm) : Prop := ∀ k : Nat, k < n → M' row k = if (k : Int) < i ∨ (n : Int) - i ≤ k then M row (n - 1 - k) else M row k
theorem twI_step {M M1 M2 : Mm} {row n : Nat} {i : Int} (h : twI M row n i M1) (i0 : 0 ≤ i) (hi : 2 * (i + 1) ≤ n) (e : ∀ k : Nat, M2 row k = if k = n - 1 - i.toNat then M1 row i.toNat else if k = i.toNat then M1 row (n - 1 - i.toNat) else M1 row k) : twI M row n (i + 1) M2 := by
  intro k hk
  rw [e k]
  by_cases c1 : k = n - 1 - i.toNat
  · rw [if_pos c1, if_pos (by omega), h i.toNat (by omega), if_neg (by omega)]
    congr 1
    omega
  · rw [if_neg c1]
    by_cases c2 : k = i.toNat
    · rw [if_pos c2, if_pos (by omega), h _ (by omega), if_neg (by omega)]
      congr 1
      omega
    · rw [if_neg c2, h k hk]
      by_cases c3 : (k : Int) < i ∨ (n : Int) - i ≤ k
      · rw [if_pos c3, if_pos (by omega)]
      · rw [if_neg c3, if_neg (by omega)]
theorem sw_at (N : Mm) (row i j k : Nat) : (up (up N row i (N row j)) row j (N row i)) row k = if k = j then N row i else if k = i then N row j else N row k := by
  rw [up_at, up_at]
  by_cases c1 : k = j
  · rw [if_pos ⟨rfl, c1⟩, if_pos c1]
  · rw [if_neg (fun z => c1 z.2), if_neg c1]
    by_cases c2 : k = i
    · rw [if_pos ⟨rfl, c2⟩, if_pos c2]
    · rw [if_neg (fun z => c2 z.2), if_neg c2]
theorem sw_row (N : Mm) {row row' : Nat} (i j : Nat) (h : ¬ row' = row) : (up (up N row i (N row j)) row j (N row i)) row' = N row' := by rw [up_row h, up_row h]
theorem s_turn {M : Mm} {L : List (Int × Int)} (hs : stpC M L) (hL : L.length ≤ 9) : wq (f_Ways_turnSteps M) (fun M' => stpC M' L.reverse ∧ Fr [(50, 99999), (51, 99999)] M M') := by
  obtain ⟨h1, h2⟩ := hs
  unfold f_Ways_turnSteps f_Ways_turnSteps_L2
  refine wq_lp (fun z => (0 ≤ z.1 ∧ 2 * z.1 ≤ (L.length : Int)) ∧ twI M 50 L.length z.1 z.2 ∧ twI M 51 L.length z.1 z.2 ∧ Fr [(50, 99999), (51, 99999)] M z.2) (fun z => ((L.length : Int) - z.1).toNat) ?_ FU _ ?_ ?_
  · rintro kH ⟨v1, N⟩ ⟨q1, q2, q3, q4⟩ hk
    have e1 : 0 ≤ v1 ∧ 2 * v1 ≤ (L.length : Int) := q1
    have e2 : twI M 50 L.length v1 N := q2
    have e3 : twI M 51 L.length v1 N := q3
    have e4 : Fr [(50, 99999), (51, 99999)] M N := q4
    clear q1 q2 q3 q4
    have e48 : N 48 6 = (L.length : Int) := by rw [e4.at 48 6 rfl]; exact h1
    show wq (f_Ways_turnSteps_B2 (fun v1 M => kH (v1, M)) v1 N) _
    unfold f_Ways_turnSteps_B2
    rw [e48, i32_id (x := (L.length : Int)) (by omega) (by omega), i32_id (x := 2) (by omega) (by omega), tdiv_pos (by omega), i32_id (x := (L.length : Int) / 2) (by omega) (by omega), i32_id (x := v1) (by omega) (by omega)]
    refine wq_if (fun c => ?_) (fun c => ?_)
    · refine wq_some ⟨⟨by rw [e48]; simp, fun k q hq => ?_⟩, e4⟩
      have hk' : k < L.length := by
        have := (List.getElem?_eq_some_iff.mp hq).1
        rw [List.length_reverse] at this
        exact this
      rw [List.getElem?_reverse hk'] at hq
      have := h2 _ q hq
      rw [e2 k hk', e3 k hk']
      by_cases c3 : (k : Int) < v1 ∨ (L.length : Int) - v1 ≤ k
      · rw [if_pos c3, if_pos c3]; exact this
      · rw [if_neg c3, if_neg c3]
        have ek : L.length - 1 - k = k := by omega
        rw [ek] at this
        exact this
    · rw [e_swap (n := 9) N rfl (by decide) e1.1 (by omega) (by omega) (by omega), bV_s]
      have e48' : (up (up N 50 v1.toNat (N 50 (((L.length : Int) - 1) - v1).toNat)) 50 (((L.length : Int) - 1) - v1).toNat (N 50 v1.toNat)) 48 6 = (L.length : Int) := by rw [up_row (by decide : ¬ (48 = 50)), up_row (by decide : ¬ (48 = 50))]; exact e48
      rw [e48', e_swap (n := 9) _ rfl (by decide) e1.1 (by omega) (by omega) (by omega), bV_s]
      have hb : (((L.length : Int) - 1) - v1).toNat = L.length - 1 - v1.toNat := by omega
      rw [hb]
      refine hk _ ⟨⟨show 0 ≤ v1 + 1 by omega, show 2 * (v1 + 1) ≤ (L.length : Int) by omega⟩, twI_step e2 e1.1 (by omega) (fun k => ?_), twI_step e3 e1.1 (by omega) (fun k => ?_), (((e4.up (by simp)).up (by simp)).up (by simp)).up (by simp)⟩ (show ((L.length : Int) - (v1 + 1)).toNat < ((L.length : Int) - v1).toNat by omega)
      · have := sw_row (up (up N 50 v1.toNat (N 50 (L.length - 1 - v1.toNat))) 50 (L.length - 1 - v1.toNat) (N 50 v1.toNat)) (row := 51) (row' := 50) v1.toNat (L.length - 1 - v1.toNat) (by decide)
        exact (congrFun this k).trans (sw_at N 50 v1.toNat (L.length - 1 - v1.toNat) k)
      · have e := sw_row N (row := 50) (row' := 51) v1.toNat (L.length - 1 - v1.toNat) (by decide)
        have := sw_at (up (up N 50 v1.toNat (N 50 (L.length - 1 - v1.toNat))) 50 (L.length - 1 - v1.toNat) (N 50 v1.toNat)) 51 v1.toNat (L.length - 1 - v1.toNat) k
        rw [e] at this
        have e' := e
        refine Eq.trans ?_ this
        show (up (up _ 51 v1.toNat ((up (up N 50 v1.toNat (N 50 (L.length - 1 - v1.toNat))) 50 (L.length - 1 - v1.toNat) (N 50 v1.toNat)) 51 (L.length - 1 - v1.toNat))) 51 (L.length - 1 - v1.toNat) ((up (up N 50 v1.toNat (N 50 (L.length - 1 - v1.toNat))) 50 (L.length - 1 - v1.toNat) (N 50 v1.toNat)) 51 v1.toNat)) 51 k = _
        rw [e]
  · refine ⟨⟨Int.le_refl _, by show 2 * (0 : Int) ≤ _; omega⟩, fun k hk => ?_, fun k hk => ?_, Fr.rf⟩
    · rw [if_neg (by show ¬ ((k : Int) < 0 ∨ (L.length : Int) - 0 ≤ k); omega)]
    · rw [if_neg (by show ¬ ((k : Int) < 0 ∨ (L.length : Int) - 0 ≤ k); omega)]
  · show ((L.length : Int) - 0).toNat < 1000000000
    omega
