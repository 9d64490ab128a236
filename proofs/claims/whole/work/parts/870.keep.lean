theorem s_move {row n : Nat} {v : Int} {M : Mm} (hn : slen row = n) (hn2 : n ≤ 12) (hr : row ≠ 44) (h1 : 0 ≤ v) (h2 : v + n ≤ 620) : wq (f_Now_move row v 1 M) (fun M' => (∀ k : Nat, k < n → M' 44 (v.toNat + k) = M row k) ∧ (∀ q : Nat, (q < v.toNat ∨ v.toNat + n ≤ q) → M' 44 q = M 44 q) ∧ Fr [(44, 99999)] M M') := by
  unfold f_Now_move f_Now_move_L3
  refine wq_lp (fun z => z.1 = v ∧ z.2.1 = 1 ∧ (0 ≤ z.2.2.1 ∧ z.2.2.1 ≤ (n : Int)) ∧ (∀ k : Nat, (k : Int) < z.2.2.1 → z.2.2.2 44 (v.toNat + k) = M row k) ∧ (∀ q : Nat, (q < v.toNat ∨ v.toNat + n ≤ q) → z.2.2.2 44 q = M 44 q) ∧ Fr [(44, 99999)] M z.2.2.2) (fun z => ((n : Int) - z.2.2.1).toNat) ?_ FU _ ?_ ?_
  · rintro kH ⟨v2, v3, v4, N⟩ ⟨q1, q2, q3, q4, q5, q6⟩ hk
    have e1 : v2 = v := q1
    have e2 : v3 = 1 := q2
    have e3 : 0 ≤ v4 ∧ v4 ≤ (n : Int) := q3
    have e4 : ∀ k : Nat, (k : Int) < v4 → N 44 (v.toNat + k) = M row k := q4
    have e5 : ∀ q : Nat, (q < v.toNat ∨ v.toNat + n ≤ q) → N 44 q = M 44 q := q5
    have e6 : Fr [(44, 99999)] M N := q6
    clear q1 q2 q3 q4 q5 q6
    show wq (f_Now_move_B3 row (fun v2 v3 v4 M => kH (v2, v3, v4, M)) v2 v3 v4 N) _
    rw [e1, e2]
    unfold f_Now_move_B3
    rw [hn, i32_id (x := (n : Int)) (by omega) (by omega), i32_id (x := v4) (by omega) (by omega)]
    refine wq_if (fun c => wq_some ⟨fun k hk' => e4 k (by omega), e5, e6⟩) (fun c => wq_e (by decide) ?_)
    have eN : N row = M row := e6.rw' row fun p hp => by simp at hp; rw [hp]; exact fun z => hr z.symm
    rw [e_cell_in (n := n) N hn (by omega) e3.1 (by omega), bI_s, e_set (n := 620) N rfl (by decide) (by omega) (by omega), bV_s, eN]
    refine hk _ ⟨rfl, rfl, ⟨show 0 ≤ v4 + 1 by omega, show v4 + 1 ≤ (n : Int) by omega⟩, fun k hk' => ?_, fun q hq => ?_, e6.up (by simp)⟩ (show ((n : Int) - (v4 + 1)).toNat < ((n : Int) - v4).toNat by omega)
    · have hk' : (k : Int) < v4 + 1 := hk'
      show (up N 44 (v + v4).toNat (M row v4.toNat)) 44 (v.toNat + k) = M row k
      by_cases z : (k : Int) = v4
      · rw [show (v + v4).toNat = v.toNat + k by omega, up_eq, show v4.toNat = k by omega]
      · rw [up_col (by omega)]; exact e4 k (by omega)
    · show (up N 44 (v + v4).toNat (M row v4.toNat)) 44 q = M 44 q
      rw [up_col (by omega)]; exact e5 q hq
  · exact ⟨rfl, rfl, ⟨Int.le_refl _, by show (0 : Int) ≤ n; omega⟩, fun k hk' => absurd hk' (by show ¬ (k : Int) < 0; omega), fun q _ => rfl, Fr.rf⟩
  · show ((n : Int) - 0).toNat < 1000000000
    omega
/-- an entry of the class's past is the state -/
def kE (M M' : Mm) (p : Nat) : Prop := M' 44 p = M 39 8 ∧ (∀ k : Nat, k < 12 → M' 44 (p + 1 + k) = M 40 k) ∧ (∀ k : Nat, k < 6 → M' 44 (p + 13 + k) = M 41 k) ∧ (∀ k : Nat, k < 6 → M' 44 (p + 19 + k) = M 42 k) ∧ ∀ k : Nat, k < 6 → M' 44 (p + 25 + k) = M 43 k
def keL : List (Nat × Nat) := [(44, 99999), (39, 9)]
theorem s_keepJ {M : Mm} {c : Int} (hc : M 39 9 = c) (c1 : 0 ≤ c) (c2 : c ≤ 19) : wq (f_Now_keep_J52 M) (fun M' => M' 39 9 = c + 1 ∧ (∀ q : Nat, (q : Int) < 31 * c → M' 44 q = M 44 q) ∧ kE M M' (31 * c).toNat ∧ Fr keL M M') := by
  unfold f_Now_keep_J52
  rw [hc, e_set (n := 620) M rfl (by decide) (by omega) (by omega), bV_s]
  generalize hA : up M 44 (c * 31).toNat (M 39 8) = A
  have hA0 : A 44 (c * 31).toNat = M 39 8 := by rw [← hA, up_eq]
  have hA1 : ∀ q : Nat, ¬ q = (c * 31).toNat → A 44 q = M 44 q := fun q hq => by rw [← hA, up_col hq]
  have FA : Fr [(44, 99999)] M A := by rw [← hA]; exact Fr.rf.up (by simp)
  refine wq_V (s_move (n := 12) rfl (by decide) (by decide) (by omega) (by omega)) (fun B ⟨b1, b2, b3⟩ => ?_)
  refine wq_V (s_move (n := 6) rfl (by decide) (by decide) (by omega) (by omega)) (fun C ⟨d1, d2, d3⟩ => ?_)
  refine wq_V (s_move (n := 6) rfl (by decide) (by decide) (by omega) (by omega)) (fun D ⟨f1, f2, f3⟩ => ?_)
  refine wq_V (s_move (n := 6) rfl (by decide) (by decide) (by omega) (by omega)) (fun E ⟨g1, g2, g3⟩ => ?_)
  have FB := FA.tr b3
  have FC := FB.tr d3
  have FD := FC.tr f3
  have FE := FD.tr g3
  refine wq_d (wq_some ?_)
  have e39 : E 39 9 = c := by rw [FE.row 39 rfl]; exact hc
  rw [e39]
  generalize hG : up E 39 9 (c + 1) = G
  have r44 : G 44 = E 44 := by rw [← hG, up_row (by decide)]
  refine ⟨by rw [← hG, up_eq], fun q hq => ?_, ⟨?_, fun k hk => ?_, fun k hk => ?_, fun k hk => ?_, fun k hk => ?_⟩, ?_⟩
  · rw [r44, g2 q (by omega), f2 q (by omega), d2 q (by omega), b2 q (by omega), hA1 q (by omega)]
  · rw [r44, g2 _ (by omega), f2 _ (by omega), d2 _ (by omega), b2 _ (by omega), show (31 * c).toNat = (c * 31).toNat by omega, hA0]
  · rw [r44, g2 _ (by omega), f2 _ (by omega), d2 _ (by omega), show (31 * c).toNat + 1 + k = (c * 31 + 1).toNat + k by omega, b1 k hk, FA.row 40 rfl]
  · rw [r44, g2 _ (by omega), f2 _ (by omega), show (31 * c).toNat + 13 + k = (c * 31 + 1 + 12).toNat + k by omega, d1 k hk, FB.row 41 rfl]
  · rw [r44, g2 _ (by omega), show (31 * c).toNat + 19 + k = (c * 31 + 1 + 12 + 6).toNat + k by omega, f1 k hk, FC.row 42 rfl]
  · rw [r44, show (31 * c).toNat + 25 + k = (c * 31 + 1 + 12 + 12).toNat + k by omega, g1 k hk, FD.row 43 rfl]
  · rw [← hG]; exact (FE.cov (l' := keL) rfl).up (by simp [keL])
/-- the class has kept the state -/
def kC (M M' : Mm) : Prop := ∃ c' d : Int, ((M 39 9 < 20 ∧ c' = M 39 9 + 1 ∧ d = 0) ∨ (M 39 9 = 20 ∧ c' = 20 ∧ d = 1)) ∧ M' 39 9 = c' ∧ (∀ q : Nat, (q : Int) < 31 * (c' - 1) → M' 44 q = M 44 (q + 31 * d.toNat)) ∧ kE M M' (31 * (c' - 1)).toNat
theorem s_keep {M : Mm} (c1 : 0 ≤ M 39 9) (c2 : M 39 9 ≤ 20) : wq (f_Now_keep M) (fun M' => kC M M' ∧ Fr keL M M') := by
  unfold f_Now_keep
  rw [i32_id (x := M 39 9) (by omega) (by omega), i32_id (x := 20) (by omega) (by omega)]
  refine wq_if (fun c => ?_) (fun c => ?_)
  · refine wq_m (s_keepJ rfl c1 (by omega)) (fun M' ⟨a1, a2, a3, a4⟩ => ⟨⟨M 39 9 + 1, 0, Or.inl ⟨c, rfl, rfl⟩, a1, fun q hq => ?_, ?_⟩, a4⟩)
    · rw [a2 q (by omega)]; rfl
    · rw [show M 39 9 + 1 - 1 = M 39 9 by omega]; exact a3
  · unfold f_Now_keep_L12
    refine wq_lp (fun z => (31 ≤ z.1 ∧ z.1 ≤ 620) ∧ (∀ q : Nat, ((q : Int) + 31 < z.1 → z.2 44 q = M 44 (q + 31)) ∧ (z.1 ≤ (q : Int) + 31 → z.2 44 q = M 44 q)) ∧ Fr [(44, 99999)] M z.2) (fun z => (620 - z.1).toNat) ?_ FU _ ?_ ?_
    · rintro kH ⟨v1, N⟩ ⟨q1, q2, q3⟩ hk
      have e1 : 31 ≤ v1 ∧ v1 ≤ 620 := q1
      have e2 : ∀ q : Nat, ((q : Int) + 31 < v1 → N 44 q = M 44 (q + 31)) ∧ (v1 ≤ (q : Int) + 31 → N 44 q = M 44 q) := q2
      have e3 : Fr [(44, 99999)] M N := q3
      clear q1 q2 q3
      show wq (f_Now_keep_B12 (fun v1 M => kH (v1, M)) _ v1 N) _
      unfold f_Now_keep_B12
      rw [i32_id (x := ((620 : Nat) : Int)) (by omega) (by omega), i32_id (x := v1) (by omega) (by omega)]
      refine wq_if (fun g => ?_) (fun g => ?_)
      · refine wq_d ?_
        have F2 : Fr keL M (up N 39 9 19) := (e3.cov (l' := keL) rfl).up (by simp [keL])
        refine wq_m (s_keepJ (c := 19) (up_eq N 39 9 19) (by decide) (by decide)) (fun M' ⟨a1, a2, a3, a4⟩ => ⟨⟨20, 1, Or.inr ⟨by omega, rfl, rfl⟩, a1, fun q hq => ?_, ?_⟩, F2.tr a4⟩)
        · rw [a2 q (by omega), up_row (by decide), (e2 q).1 (by omega)]; rfl
        · obtain ⟨k1, k2, k3, k4, k5⟩ := a3
          refine ⟨?_, ?_, ?_, ?_, ?_⟩
          · rw [show (20 : Int) - 1 = 19 by omega, k1, F2.at 39 8 rfl]
          · intro k hk'; rw [show (20 : Int) - 1 = 19 by omega, k2 k hk', F2.row 40 rfl]
          · intro k hk'; rw [show (20 : Int) - 1 = 19 by omega, k3 k hk', F2.row 41 rfl]
          · intro k hk'; rw [show (20 : Int) - 1 = 19 by omega, k4 k hk', F2.row 42 rfl]
          · intro k hk'; rw [show (20 : Int) - 1 = 19 by omega, k5 k hk', F2.row 43 rfl]
      · have g : ¬ (620 : Int) ≤ v1 := g
        rw [e_cell_in (n := 620) N rfl (by decide) (by omega) (by omega), bI_s, e_set (n := 620) N rfl (by decide) (by omega) (by omega), bV_s]
        refine hk _ ⟨⟨show 31 ≤ v1 + 1 by omega, show v1 + 1 ≤ 620 by omega⟩, fun q => ⟨fun hq => ?_, fun hq => ?_⟩, e3.up (by simp)⟩ (show (620 - (v1 + 1)).toNat < (620 - v1).toNat by omega)
        · have hq : (q : Int) + 31 < v1 + 1 := hq
          show (up N 44 (v1 - 31).toNat (N 44 v1.toNat)) 44 q = M 44 (q + 31)
          by_cases z : (q : Int) + 31 = v1
          · rw [show (v1 - 31).toNat = q by omega, up_eq, show v1.toNat = q + 31 by omega]
            exact (e2 (q + 31)).2 (by omega)
          · rw [up_col (by omega)]; exact (e2 q).1 (by omega)
        · have hq : v1 + 1 ≤ (q : Int) + 31 := hq
          show (up N 44 (v1 - 31).toNat (N 44 v1.toNat)) 44 q = M 44 q
          rw [up_col (by omega)]; exact (e2 q).2 (by omega)
    · refine ⟨⟨Int.le_refl _, by show (31 : Int) ≤ 620; decide⟩, fun q => ⟨fun hq => absurd hq (by show ¬ (q : Int) + 31 < 31; omega), fun _ => rfl⟩, Fr.rf⟩
    · show (620 - (31 : Int)).toNat < 1000000000
      decide
