def arvL : List (Nat × Nat) := [(48, 6), (48, 10), (49, 99999), (50, 99999), (51, 99999), (52, 99999), (53, 99999), (54, 99999), (59, 99999), (18, 99999), (47, 99999)]
theorem s_allArrive {V M : Mm} {n : Int} {o : Nat → Int} (hT : Tw V) (hN : Nw V) (h : Cl V M) (hn : 1 ≤ n) (hn2 : n ≤ 4) (hnw : n ≤ nW V) (ho : ∀ i, i < n.toNat → 0 ≤ o i ∧ o i < n) (hr : ∀ k : Nat, k < n.toNat → M 58 k = o k) :
    wq (f_Many_allArrive n M) (fun q => ((q.1 = 0 ∧ stays V o n.toNat) ∨ (q.1 = 1 ∧ ∃ R C, goes V o n.toNat R C ∧ ∀ w x, 0 ≤ w → C w = some x → q.2 59 w.toNat = x)) ∧ Cl V q.2 ∧ Fr arvL M q.2) := by
  have hW := hT.2.2.1
  have hP := hT.1
  unfold f_Many_allArrive f_Ways_clearBusy
  rw [bd_s, bV_s]
  have F0 : Fr arvL M (up M 48 10 0) := Fr.rf.up (by simp [arvL])
  have hB0 : bzC (up M 48 10 0) [] := ⟨up_eq M 48 10 0, fun k q hq => by simp at hq⟩
  have hC0 : Cl V (up M 48 10 0) := h.fr (l := [(48, 10)]) (Fr.rf.up (by simp)) rfl rfl rfl
  unfold f_Many_allArrive_L9
  refine wq_lp (fun z => z.1 = n ∧ (0 ≤ z.2.1 ∧ z.2.1 ≤ n) ∧ Cl V z.2.2 ∧ Fr arvL M z.2.2 ∧ ∃ R R' C, goes V o z.2.1.toNat R C ∧ bzC z.2.2 R' ∧ crw V R' = crw V R ∧ rdE R' ∧ R'.length ≤ 8 * z.2.1.toNat ∧ ∀ w x, 0 ≤ w → C w = some x → z.2.2 59 w.toNat = x) (fun z => (n - z.2.1).toNat) ?_ FU _ ?_ ?_
  · rintro kH ⟨v1, v2, N⟩ ⟨q1, q2, q3, q4, R, R', C, q5, q6, g3, g4, q7, q8⟩ hk
    have a1 : v1 = n := q1
    have a2 : 0 ≤ v2 ∧ v2 ≤ n := q2
    have a3 : Cl V N := q3
    have a4 : Fr arvL M N := q4
    have g1 : goes V o v2.toNat R C := q5
    have g2 : bzC N R' := q6
    have g5 : R'.length ≤ 8 * v2.toNat := q7
    have g6 : ∀ w x, 0 ≤ w → C w = some x → N 59 w.toNat = x := q8
    clear q1 q2 q3 q4 q5 q6 q7 q8
    subst a1
    show wq (f_Many_allArrive_B9 (fun v1 v2 M => kH (v1, v2, M)) v1 v2 N) _
    unfold f_Many_allArrive_B9
    rw [i32_id (x := v1) (by omega) (by omega), i32_id (x := v2) (by omega) (by omega)]
    refine wq_if (fun c => ?_) (fun c => ?_)
    · have ev : v2 = v1 := by omega
      rw [ev] at g1
      exact wq_some ⟨Or.inr ⟨rfl, R, C, g1, g6⟩, a3, a4⟩
    · have ev2 : (v2 + 1).toNat = v2.toNat + 1 := by omega
      obtain ⟨w1, w2⟩ := ho v2.toNat (by omega)
      have e58 : N 58 v2.toNat = o v2.toNat := by rw [a4.row 58 rfl]; exact hr _ (by omega)
      obtain ⟨k2, k3, -⟩ := a3.2.1.2.2 (o v2.toNat) w1 (by omega)
      have k1 := (a3.1.2.2.1 (o v2.toNat) w1 (by omega)).1
      have hs := sto_rng hN w1 (show o v2.toNat < nW V by omega)
      have hp := pl_rng hT hN w1 (show o v2.toNat < nW V by omega)
      have hb := (hT.2.2.2.2 _ w1 (show o v2.toNat < nW V by omega)).1
      have hR' : rdOk R' := ⟨by omega, g4⟩
      rw [e_cell_in (n := 4) N rfl (by decide) a2.1 (by omega), bI_s, e58, e_cell_in (n := 6) N rfl (by decide) w1 (by omega), bI_s, e_cell_in (n := 6) N rfl (by decide) w1 (by omega), bI_s, k1, k2, e_setOut hT hN a3.2.1 w1 (by omega), bI_s]
      refine wq_V (s_search (R := R') (t := sto V (o v2.toNat)) hT hN a3 g2 hR' (by omega) (by omega) hs.1 (by omega) ⟨hp.1.1, by omega⟩ (by decide) (by decide)) (fun M2 ⟨x1, x2, x3⟩ => ?_)
      obtain ⟨-, k4, -⟩ := x2.2.1.2.2 (o v2.toNat) w1 (by omega)
      rw [e_cell_in (n := 6) M2 rfl (by decide) w1 (by omega), bI_s, k4]
      have B2 := g2.fr x3 rfl
      refine wq_I (s_trace (R := R') (t := sto V (o v2.toNat)) hT hN x2 B2 hR' (by omega) (by omega) hs.1 (by omega) x1 hp.1.1 (by omega) hp.2.1.1 (by omega)) (fun r M3 ⟨y1, y2, y3, y4⟩ => ?_)
      have y2 : M3 49 = M2 49 := y2
      have y3 : Cl V M3 := y3
      have y4 : Fr trL M2 M3 := y4
      have F3 : Fr arvL M M3 := a4.tr ((x3.cov rfl : Fr arvL N M2).tr (y4.cov rfl))
      have hA : wAR V R (o v2.toNat) (ar M2 49) := isA_cw g3 x1
      rcases y1 with ⟨z1, z2⟩ | ⟨z1, z2, L, z3, z4, z5⟩
      · have z1 : r = 0 := z1
        rw [z1]
        exact wq_e (fun z => z (by decide)) (wq_some ⟨Or.inl ⟨rfl, v2.toNat, R, C, ar M2 49, by omega, g1, hA, z2⟩, y3, F3⟩)
      · have z1 : r = 1 := z1
        have z5 : stpC M3 L.reverse := z5
        rw [z1]
        refine wq_t (by decide) ?_
        obtain ⟨-, k5, -⟩ := y3.2.1.2.2 (o v2.toNat) w1 (by omega)
        have ea : ar M3 49 = ar M2 49 := by unfold ar; rw [y2]
        have hrg := wAR_rng hT hN w1 (by omega) hA _ hp.2.1.1 (by omega)
        rw [e_cell_in (n := 6) M3 rfl (by decide) w1 (by omega), bI_s, k5, e_soonest (V := V) hp.2.1.1 (by omega) (by rw [ea]; omega), bI_s, ea, if_neg z2, e_set (n := 4) M3 rfl (by decide) w1 (by omega), bV_s]
        generalize hX : up M3 59 (o v2.toNat).toNat (ar M2 49 (gl V (o v2.toNat))) = X
        have FX : Fr [(59, 99999)] M3 X := by rw [← hX]; exact Fr.rf.up (by simp)
        have B3 : bzC X R' := (B2.fr (l := trL) y4 rfl).fr FX rfl
        have s3 : stpC X L.reverse := by
          unfold stpC
          rw [FX.row 48 rfl, FX.row 50 rfl, FX.row 51 rfl]
          exact z5
        have hlr : L.reverse.length = L.length := List.length_reverse
        refine wq_V (s_occupy (b := br V (o v2.toNat)) B3 s3 (by omega) (by omega)) (fun X2 ⟨u1, u2⟩ => ?_)
        have FX2 : Fr arvL M X2 := (F3.tr (FX.cov rfl)).tr (u2.cov rfl)
        have hel := wpB_el hT (fun y p1 p2 => by have := wAR_rng hT hN w1 (show o v2.toNat < nW V by omega) hA y p1 p2; omega) L _ _ z3 z2
        refine hk _ ⟨rfl, ⟨show 0 ≤ v2 + 1 by omega, show v2 + 1 ≤ v1 by omega⟩, (y3.fr FX rfl rfl rfl).fr u2 rfl rfl rfl, FX2, R ++ rdw (br V (o v2.toNat)) L, R' ++ rdw (br V (o v2.toNat)) L.reverse, fun w => if w = o v2.toNat then some (ar M2 49 (gl V (o v2.toNat))) else C w, ?_, u1, ?_, ?_, ?_, fun w x w0 hx => ?_⟩ (show (v1 - (v2 + 1)).toNat < (v1 - v2).toNat by omega)
        · show goes V o (v2 + 1).toNat _ _
          rw [ev2]
          exact ⟨R, C, ar M2 49, L, g1, hA, z2, wpB_cw g3 L _ _ z3, z4, rfl, rfl⟩
        · funext s' h'
          rw [crw_app, crw_app, rdw_rev, crw_rev, g3]
        · refine rdE_app g4 (rdE_w (by omega) (fun x hx => hel x (List.mem_reverse.mp hx)))
        · show (R' ++ rdw (br V (o v2.toNat)) L.reverse).length ≤ 8 * (v2 + 1).toNat
          rw [List.length_append, rdw_len]
          omega
        · show X2 59 w.toNat = x
          have hx : (if w = o v2.toNat then some (ar M2 49 (gl V (o v2.toNat))) else C w) = some x := hx
          rw [u2.row 59 rfl, ← hX, up_at]
          by_cases ew : w = o v2.toNat
          · rw [if_pos ew] at hx
            cases hx
            rw [if_pos ⟨rfl, by rw [ew]⟩]
          · rw [if_neg ew] at hx
            rw [if_neg (fun z => ew (by omega)), y4.row 59 rfl, x3.row 59 rfl]
            exact g6 w x w0 hx
  · exact ⟨rfl, ⟨Int.le_refl _, by show (0 : Int) ≤ n; omega⟩, hC0, F0, [], [], fun _ => none, ⟨rfl, rfl⟩, hB0, rfl, (fun q hq => by cases hq), (by simp), (fun w x _ hx => by cases hx)⟩
  · show (n - 0).toNat < 1000000000
    omega
/-- the best so far, as cells hold it -/
def bsR (N : Nat) (a b : Int) (f g : Nat → Int) (B : Int × Int × (Nat → Int) × (Nat → Int)) : Prop := (0 ≤ B.1 ∧ B.1 ≤ 1000000) ∧ (0 ≤ B.2.1 ∧ B.2.1 ≤ 50000) ∧ a = B.1 ∧ b = B.2.1 ∧ (B.1 ≠ 1000000 → ∀ k : Nat, k < N → f k = B.2.2.1 k ∧ g k = B.2.2.2 k)
def kbL : List (Nat × Nat) := [(55, 6), (55, 7), (56, 99999), (57, 99999)]
theorem s_keepBetter {M : Mm} {n : Int} {o : Nat → Int} {C : Int → Option Int} {B : Int × Int × (Nat → Int) × (Nat → Int)} (hn : 1 ≤ n) (hn2 : n ≤ 4) (ha : ∀ k : Nat, k < n.toNat → M 59 k = (C k).getD 0) (hr : ∀ k : Nat, k < n.toNat → M 58 k = o k) (hC : ∀ k : Nat, 0 ≤ (C k).getD 0 ∧ (C k).getD 0 ≤ 10399) (hB : bsR n.toNat (M 55 6) (M 55 7) (M 56) (M 57) B) :
    wq (f_Many_keepBetter n M) (fun M' => bsR n.toNat (M' 55 6) (M' 55 7) (M' 56) (M' 57) (updB n.toNat o C B) ∧ Fr kbL M M') := by
  have hl := lstC_rng hC
  have hs := sumC_rng hC
  unfold f_Many_keepBetter f_Many_keepBetter_L7
  refine wq_lp (fun z => z.1 = n ∧ (0 ≤ z.2.2.2.1 ∧ z.2.2.2.1 ≤ n) ∧ z.2.1 = lstC C z.2.2.2.1.toNat ∧ z.2.2.1 = sumC C z.2.2.2.1.toNat ∧ z.2.2.2.2 = M) (fun z => (n - z.2.2.2.1).toNat) ?_ FU _ ?_ ?_
  · rintro kH ⟨v1, v2, v3, v4, N⟩ ⟨q1, q2, q3, q4, q5⟩ hk
    have a1 : v1 = n := q1
    have a2 : 0 ≤ v4 ∧ v4 ≤ n := q2
    have a3 : v2 = lstC C v4.toNat := q3
    have a4 : v3 = sumC C v4.toNat := q4
    have a5 : N = M := q5
    clear q1 q2 q3 q4 q5
    subst a1 a5
    have l1 := hl v4.toNat
    have s1 := hs v4.toNat
    show wq (f_Many_keepBetter_B7 (fun v1 v2 v3 v4 M => kH (v1, v2, v3, v4, M)) _ v1 v2 v3 v4 N) _
    unfold f_Many_keepBetter_B7
    rw [i32_id (x := v1) (by omega) (by omega), i32_id (x := v4) (by omega) (by omega)]
    refine wq_if (fun c => ?_) (fun c => ?_)
    · have ev : v4 = v1 := by omega
      subst ev
      obtain ⟨b1, b2, b3, b4, b5⟩ := hB
      dsimp only
      rw [b3, b4, i32_id (x := v2) (by omega) (by omega), i32_id (x := v3) (by omega) (by omega), i32_id (x := B.1) (by omega) (by omega), i32_id (x := B.2.1) (by omega) (by omega), a3, a4]
      have hJ : (lstC C v4.toNat < B.1 ∨ (lstC C v4.toNat = B.1 ∧ sumC C v4.toNat < B.2.1)) → wq (f_Many_keepBetter_J69 (lstC C v4.toNat) (sumC C v4.toNat) N) (fun M' => bsR v4.toNat (M' 55 6) (M' 55 7) (M' 56) (M' 57) (updB v4.toNat o C B) ∧ Fr kbL N M') := by
        intro hz
        unfold f_Many_keepBetter_J69
        refine wq_d (wq_d ?_)
        generalize hX : up (up N 55 6 (lstC C v4.toNat)) 55 7 (sumC C v4.toNat) = X
        have FX : Fr [(55, 6), (55, 7)] N X := by rw [← hX]; exact (Fr.rf.up (by simp)).up (by simp)
        refine wq_V (s_copy (r1 := 58) (r2 := 56) (n := 4) X rfl rfl (by decide) (by decide)) (fun X1 ⟨c1, c2⟩ => ?_)
        refine wq_V (s_copy (r1 := 59) (r2 := 57) (n := 4) X1 rfl rfl (by decide) (by decide)) (fun X2 ⟨d1, d2⟩ => wq_some ⟨?_, ?_⟩)
        · unfold updB
          rw [if_pos hz, d2.row 55 rfl, c2.row 55 rfl, d2.row 56 rfl]
          refine ⟨⟨l1.1, by show lstC C v4.toNat ≤ 1000000; omega⟩, ⟨s1.1, by show sumC C v4.toNat ≤ 50000; omega⟩, ?_, ?_, fun _ k hk' => ⟨?_, ?_⟩⟩
          · rw [← hX, up_col (by decide), up_eq]
          · rw [← hX, up_eq]
          · rw [c1 k (by omega), FX.row 58 rfl]; exact hr k hk'
          · rw [d1 k (by omega), c2.row 59 rfl, FX.row 59 rfl]; exact ha k hk'
        · exact ((FX.cov rfl : Fr kbL N X).tr (c2.cov rfl)).tr (d2.cov rfl)
      have hno : ¬ (lstC C v4.toNat < B.1 ∨ (lstC C v4.toNat = B.1 ∧ sumC C v4.toNat < B.2.1)) → wq (some N) (fun M' => bsR v4.toNat (M' 55 6) (M' 55 7) (M' 56) (M' 57) (updB v4.toNat o C B) ∧ Fr kbL N M') := by
        intro hz
        refine wq_some ⟨?_, Fr.rf⟩
        unfold updB
        rw [if_neg hz]
        exact ⟨b1, b2, b3, b4, b5⟩
      refine wq_if (fun d => hJ (Or.inl d)) (fun d => wq_if (fun e => hno (fun z => by omega)) (fun e => wq_if (fun g => hno (fun z => by omega)) (fun g => hJ (Or.inr ⟨by omega, by omega⟩))))
    · have hv := hC v4.toNat
      have e59 : N 59 v4.toNat = (C v4.toNat).getD 0 := ha _ (by omega)
      rw [e_cell_in (n := 4) N rfl (by decide) a2.1 (by omega), bI_s, e59, e_max N (by omega) (by omega) (by omega) (by omega), bI_s, e_cell_in (n := 4) N rfl (by decide) a2.1 (by omega), bI_s, e59]
      refine hk _ ⟨rfl, ⟨show 0 ≤ v4 + 1 by omega, show v4 + 1 ≤ v1 by omega⟩, ?_, ?_, rfl⟩ (show (v1 - (v4 + 1)).toNat < (v1 - v4).toNat by omega)
      · show (if v2 < (C v4.toNat).getD 0 then (C v4.toNat).getD 0 else v2) = lstC C (v4 + 1).toNat
        rw [show (v4 + 1).toNat = v4.toNat + 1 by omega, a3]
        rfl
      · show v3 + (C v4.toNat).getD 0 = sumC C (v4 + 1).toNat
        rw [show (v4 + 1).toNat = v4.toNat + 1 by omega, a4]
        rfl
  · exact ⟨rfl, ⟨Int.le_refl _, by show (0 : Int) ≤ n; omega⟩, rfl, rfl, rfl⟩
  · show (n - 0).toNat < 1000000000
    omega
theorem pw_rng {n : Int} (hn : 1 ≤ n) (hn2 : n ≤ 4) : 1 ≤ n ^ n.toNat ∧ n ^ n.toNat ≤ 256 := by
  obtain e | e | e | e : n = 1 ∨ n = 2 ∨ n = 3 ∨ n = 4 := by omega
  all_goals (subst e; decide)
theorem goes_C {V : Mm} {n c : Int} {R : List (Int × Int × Int)} {C : Int → Option Int} (hT : Tw V) (hN : Nw V) (hn : 1 ≤ n) (hnw : n ≤ nW V) (hO : isO n c) (h : goes V (ordN n c) n.toNat R C) : (∀ k : Nat, 0 ≤ (C k).getD 0 ∧ (C k).getD 0 ≤ 10399) ∧ ∀ k : Nat, k < n.toNat → C k = some ((C k).getD 0) := by
  constructor
  · intro k
    cases hc : C k with
    | none => exact ⟨Int.le_refl _, by show (0 : Int) ≤ 10399; omega⟩
    | some x => exact goes_val hT hN (ordN_in hn hnw c) _ (Nat.le_refl _) R C h k x hc
  · intro k hk
    obtain ⟨i, i1, i2⟩ := isO_all hn hO (w := (k : Int)) (by omega) (by omega)
    have := goes_all _ R C h i i1
    rw [i2] at this
    cases hc : C k with
    | none => exact absurd hc this
    | some x => rfl
def foL : List (Nat × Nat) := [(55, 6), (55, 7), (56, 99999), (57, 99999), (58, 99999)] ++ arvL
theorem s_findOrder {V M : Mm} {n : Int} (hT : Tw V) (hN : Nw V) (h : Cl V M) (hn : 1 ≤ n) (hn2 : n ≤ 4) (hnw : n ≤ nW V) :
    wq (f_Many_findOrder n M) (fun q => (∃ B, best V n (n ^ n.toNat).toNat B ∧ bsR n.toNat (q.2 55 6) (q.2 55 7) (q.2 56) (q.2 57) B ∧ q.1 = (if B.1 = 1000000 then 0 else 1)) ∧ Cl V q.2 ∧ q.2 48 10 = 0 ∧ Fr foL M q.2) := by
  have hpw := pw_rng hn hn2
  unfold f_Many_findOrder f_Many_findOrder_L4
  refine wq_lp (fun z => z.1 = n ∧ (0 ≤ z.2.2.1 ∧ z.2.2.1 ≤ n) ∧ z.2.1 = n ^ z.2.2.1.toNat ∧ z.2.2.2 = M) (fun z => (n - z.2.2.1).toNat) ?_ FU _ ?_ ?_
  · rintro kH ⟨v1, v2, v3, N⟩ ⟨q1, q2, q3, q4⟩ hk
    have a1 : v1 = n := q1
    have a2 : 0 ≤ v3 ∧ v3 ≤ n := q2
    have a3 : v2 = n ^ v3.toNat := q3
    have a4 : N = M := q4
    clear q1 q2 q3 q4
    subst a1 a4
    show wq (f_Many_findOrder_B4 (fun v1 v2 v3 M => kH (v1, v2, v3, M)) _ v1 v2 v3 N) _
    unfold f_Many_findOrder_B4
    rw [i32_id (x := v1) (by omega) (by omega), i32_id (x := v3) (by omega) (by omega)]
    refine wq_if (fun c => ?_) (fun c => hk _ ⟨rfl, ⟨show 0 ≤ v3 + 1 by omega, show v3 + 1 ≤ v1 by omega⟩, ?_, rfl⟩ (show (v1 - (v3 + 1)).toNat < (v1 - v3).toNat by omega))
    · have ev : v3 = v1 := by omega
      subst ev
      dsimp only
      rw [bd_s, bd_s]
      generalize hX : up (up N 55 6 1000000) 55 7 0 = X
      have FX : Fr foL N X := by rw [← hX]; exact (Fr.rf.up (by simp [foL])).up (by simp [foL])
      have FX0 : Fr [(55, 6), (55, 7)] N X := by rw [← hX]; exact (Fr.rf.up (by simp)).up (by simp)
      have x6 : X 55 6 = 1000000 := by rw [← hX, up_col (by decide), up_eq]
      have x7 : X 55 7 = 0 := by rw [← hX, up_eq]
      unfold f_Many_findOrder_L32
      refine wq_lp (fun z => z.1 = v3 ∧ z.2.1 = v2 ∧ (0 ≤ z.2.2.1 ∧ z.2.2.1 ≤ v2) ∧ Cl V z.2.2.2 ∧ Fr foL N z.2.2.2 ∧ ∃ B, best V v3 z.2.2.1.toNat B ∧ bsR v3.toNat (z.2.2.2 55 6) (z.2.2.2 55 7) (z.2.2.2 56) (z.2.2.2 57) B) (fun z => (v2 - z.2.2.1).toNat) ?_ FU _ ?_ ?_
      · rintro kG ⟨w1, w2, w3, K⟩ ⟨p1, p2, p3, p4, p5, B, p6, p7⟩ hg
        have b1 : w1 = v3 := p1
        have b2 : w2 = v2 := p2
        have b3 : 0 ≤ w3 ∧ w3 ≤ v2 := p3
        have b4 : Cl V K := p4
        have b5 : Fr foL N K := p5
        have b6 : best V v3 w3.toNat B := p6
        have b7 : bsR v3.toNat (K 55 6) (K 55 7) (K 56) (K 57) B := p7
        clear p1 p2 p3 p4 p5 p6 p7
        subst b1 b2
        show wq (f_Many_findOrder_B32 (fun v1 v2 v3 M => kG (v1, v2, v3, M)) _ w1 w2 w3 K) _
        unfold f_Many_findOrder_B32
        rw [i32_id (x := w2) (by omega) (by omega), i32_id (x := w3) (by omega) (by omega)]
        refine wq_if (fun d => ?_) (fun d => ?_)
        · have ew : w3 = w2 := by omega
          dsimp only
          unfold f_Ways_clearBusy
          rw [bd_s, bV_s, up_row (by decide : ¬ (55 = 48)), b7.2.2.1, i32_id (x := B.1) (by have := b7.1; omega) (by have := b7.1; omega), i32_id (x := 1000000) (by omega) (by omega)]
          have F1 : Fr [(48, 10)] K (up K 48 10 0) := Fr.rf.up (by simp)
          have hfin : ∀ r : Int, r = (if B.1 = 1000000 then 0 else 1) → wq (some (r, up K 48 10 0)) (fun q => (∃ B, best V w1 (w1 ^ w1.toNat).toNat B ∧ bsR w1.toNat (q.2 55 6) (q.2 55 7) (q.2 56) (q.2 57) B ∧ q.1 = (if B.1 = 1000000 then 0 else 1)) ∧ Cl V q.2 ∧ q.2 48 10 = 0 ∧ Fr foL N q.2) := by
            intro r hr
            refine wq_some ⟨⟨B, ?_, ?_, hr⟩, b4.fr F1 rfl rfl rfl, up_eq K 48 10 0, b5.tr (F1.cov rfl)⟩
            · rw [← a3, ← ew]; exact b6
            · show bsR w1.toNat (up K 48 10 0 55 6) (up K 48 10 0 55 7) (up K 48 10 0 56) (up K 48 10 0 57) B
              rw [F1.row 55 rfl, F1.row 56 rfl, F1.row 57 rfl]
              exact b7
          by_cases g : B.1 = 1000000
          · exact wq_t g (hfin 0 (by rw [if_pos g]))
          · exact wq_e g (hfin 1 (by rw [if_neg g]))
        · have ev : ((w3.toNat : Nat) : Int) = w3 := by omega
          have hnext : ∀ K' B', Cl V K' → Fr foL N K' → best V w1 (w3.toNat + 1) B' → bsR w1.toNat (K' 55 6) (K' 55 7) (K' 56) (K' 57) B' → wq (kG (w1, w2, w3 + 1, K')) (fun q => (∃ B, best V w1 (w1 ^ w1.toNat).toNat B ∧ bsR w1.toNat (q.2 55 6) (q.2 55 7) (q.2 56) (q.2 57) B ∧ q.1 = (if B.1 = 1000000 then 0 else 1)) ∧ Cl V q.2 ∧ q.2 48 10 = 0 ∧ Fr foL N q.2) := fun K' B' z1 z2 z3 z4 => hg _ ⟨rfl, rfl, ⟨show 0 ≤ w3 + 1 by omega, show w3 + 1 ≤ w2 by omega⟩, z1, z2, B', by show best V w1 (w3 + 1).toNat B'; rw [show (w3 + 1).toNat = w3.toNat + 1 by omega]; exact z3, z4⟩ (show (w2 - (w3 + 1)).toNat < (w2 - w3).toNat by omega)
          refine wq_I (s_cIsOrder (M := K) hn hn2 b3.1 (by omega)) (fun r K1 ⟨c1, c2, c3⟩ => ?_)
          have c1 : tf r (isO w1 w3) := c1
          have c3 : Fr [(58, 99999)] K K1 := c3
          have F1 : Fr foL N K1 := b5.tr (c3.cov rfl)
          have C1 : Cl V K1 := b4.fr c3 rfl rfl rfl
          have R1 : bsR w1.toNat (K1 55 6) (K1 55 7) (K1 56) (K1 57) B := by rw [c3.row 55 rfl, c3.row 56 rfl, c3.row 57 rfl]; exact b7
          rcases c1 with ⟨g1, g2⟩ | ⟨g1, g2⟩
          · subst g1
            refine wq_e (by decide) ?_
            refine wq_I (s_allArrive hT hN C1 hn hn2 hnw (fun i hi => dgt_rng hn _ _) c2) (fun r2 K2 ⟨u1, u2, u3⟩ => ?_)
            have u2 : Cl V K2 := u2
            have u3 : Fr arvL K1 K2 := u3
            have F2 : Fr foL N K2 := F1.tr (u3.cov rfl)
            have R2 : bsR w1.toNat (K2 55 6) (K2 55 7) (K2 56) (K2 57) B := by rw [u3.row 55 rfl, u3.row 56 rfl, u3.row 57 rfl]; exact R1
            rcases u1 with ⟨y1, y2⟩ | ⟨y1, R, C, y2, y3⟩
            · have y1 : r2 = 0 := y1
              rw [y1]
              refine wq_t (by decide) (hnext K2 B u2 F2 ⟨B, b6, Or.inr (Or.inl ?_)⟩ R2)
              rw [ev]
              exact ⟨g2, y2, rfl⟩
            · have y1 : r2 = 1 := y1
              have y3 : ∀ w x, 0 ≤ w → C w = some x → K2 59 w.toNat = x := y3
              rw [y1]
              obtain ⟨m1, m2⟩ := goes_C hT hN hn hnw g2 y2
              refine wq_e (by decide) ?_
              refine wq_V (s_keepBetter (o := ordN w1 w3) (C := C) (B := B) hn hn2 (fun k hk' => y3 k _ (by omega) (m2 k hk')) (fun k hk' => by rw [u3.row 58 rfl]; exact c2 k hk') m1 R2) (fun K3 ⟨x1, x2⟩ => ?_)
              refine hnext K3 _ (u2.fr x2 rfl rfl rfl) (F2.tr (x2.cov rfl)) ⟨B, b6, Or.inr (Or.inr ?_)⟩ x1
              rw [ev]
              exact ⟨g2, R, C, y2, rfl⟩
          · subst g1
            refine wq_t (by decide) (hnext K1 B C1 F1 ⟨B, b6, Or.inl ?_⟩ R1)
            rw [ev]
            exact ⟨g2, rfl⟩
      · refine ⟨rfl, rfl, ⟨Int.le_refl _, by show (0 : Int) ≤ v2; omega⟩, h.fr FX0 rfl rfl rfl, FX, _, rfl, ?_⟩
        show bsR v3.toNat (X 55 6) (X 55 7) (X 56) (X 57) (1000000, 0, fun _ => 0, fun _ => 0)
        exact ⟨⟨by decide, by decide⟩, ⟨by decide, by decide⟩, x6, x7, fun z => absurd rfl z⟩
      · show (v2 - 0).toNat < 1000000000
        omega
    · show v2 * v1 = v1 ^ (v3 + 1).toNat
      rw [show (v3 + 1).toNat = v3.toNat + 1 by omega, Int.pow_succ, a3]
  · exact ⟨rfl, ⟨Int.le_refl _, by show (0 : Int) ≤ n; omega⟩, by show (1 : Int) = n ^ (0 : Nat); rw [Int.pow_zero], rfl⟩
  · show (n - 0).toNat < 1000000000
    omega
