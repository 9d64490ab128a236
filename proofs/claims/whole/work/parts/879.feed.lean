def byo (v s : Int) : Int := and32 (shr32 v s) 255
theorem byo_rng (v s : Int) : 0 ≤ byo v s ∧ byo v s ≤ 255 := by
  unfold byo
  rw [and32_255]; omega
theorem s_append {M : Mm} {e v : Int} (he : M 1 1 = e) (h1 : 0 ≤ e) (h2 : e + 4 ≤ 1600) : wq (f_Scan_append v M) (fun M' => M' 1 1 = e + 4 ∧ (∀ i : Nat, i < 4 → M' 2 (e.toNat + i) = byo v (24 - 8 * i)) ∧ (∀ q : Nat, (q < e.toNat ∨ e.toNat + 4 ≤ q) → M' 2 q = M 2 q) ∧ Fr [(1, 1), (2, 99999)] M M') := by
  unfold f_Scan_append f_Scan_append_L3
  refine wq_lp (fun z => z.1 = v ∧ (-8 ≤ z.2.1 ∧ z.2.1 ≤ 24) ∧ ∃ j : Nat, j ≤ 4 ∧ z.2.1 = 24 - 8 * (j : Int) ∧ z.2.2 1 1 = e + j ∧ (∀ i : Nat, i < j → z.2.2 2 (e.toNat + i) = byo v (24 - 8 * i)) ∧ (∀ q : Nat, (q < e.toNat ∨ e.toNat + 4 ≤ q) → z.2.2 2 q = M 2 q) ∧ Fr [(1, 1), (2, 99999)] M z.2.2) (fun z => (z.2.1 + 8).toNat) ?_ FU _ ?_ ?_
  · rintro kH ⟨u1, u2, N⟩ ⟨q1, q0, j, q2, q3, q4, q5, q6, q7⟩ hk
    have a1 : u1 = v := q1
    have a0 : -8 ≤ u2 ∧ u2 ≤ 24 := q0
    have a3 : u2 = 24 - 8 * (j : Int) := q3
    have a4 : N 1 1 = e + j := q4
    have a5 : ∀ i : Nat, i < j → N 2 (e.toNat + i) = byo v (24 - 8 * i) := q5
    have a6 : ∀ q : Nat, (q < e.toNat ∨ e.toNat + 4 ≤ q) → N 2 q = M 2 q := q6
    have a7 : Fr [(1, 1), (2, 99999)] M N := q7
    clear q1 q3 q4 q5 q6 q7
    show wq (f_Scan_append_B3 (fun v1 v2 M => kH (v1, v2, M)) u1 u2 N) _
    rw [a1]
    unfold f_Scan_append_B3
    rw [i32_id (x := u2) (by omega) (by omega)]
    refine wq_if (fun c => ?_) (fun c => ?_)
    · have ej : j = 4 := by omega
      subst ej
      exact wq_some ⟨a4, a5, a6, a7⟩
    · rw [a4, e_set (n := 1600) N rfl (by decide) (by omega) (by omega), bV_s]
      refine wq_d ?_
      rw [up_row (by decide), a4]
      refine hk _ ⟨rfl, ⟨show -8 ≤ u2 + -8 by omega, show u2 + -8 ≤ 24 by omega⟩, j + 1, by omega, by show u2 + -8 = 24 - 8 * ((j + 1 : Nat) : Int); omega, ?_, fun i hi => ?_, fun q hq => ?_, (a7.up (by simp)).up (by simp)⟩ (show (u2 + -8 + 8).toNat < (u2 + 8).toNat by omega)
      · dsimp only
        rw [up_eq]; omega
      · dsimp only
        rw [up_row (by decide)]
        by_cases z : i = j
        · subst z
          rw [show (e + (i : Int)).toNat = e.toNat + i by omega, up_eq, a3]; rfl
        · rw [up_col (by omega)]; exact a5 i (by omega)
      · dsimp only
        rw [up_row (by decide), up_col (by omega)]; exact a6 q hq
  · exact ⟨rfl, ⟨by show (-8 : Int) ≤ 24; decide, Int.le_refl _⟩, 0, by decide, rfl, by show M 1 1 = e + ((0 : Nat) : Int); omega, fun i hi => absurd hi (Nat.not_lt_zero _), fun q _ => rfl, Fr.rf⟩
  · show ((24 : Int) + 8).toNat < 1000000000
    decide
def fv (v1 v2 v3 v4 v5 : Int) (i : Nat) : Int := if i < 4 then v1 else if i < 8 then v2 else if i < 12 then v3 else if i < 16 then v4 else v5
theorem s_feedM {M : Mm} {e v1 v2 v3 v4 v5 : Int} (he : M 78 1 = e) (h1 : 0 ≤ e) (h2 : e + 20 ≤ 1600) : wq (f_M_feed_L28 FU (v1, v2, v3, v4, v5, 0, M)) (fun q => q.1 = e + 20 ∧ q.2 78 1 = e + 20 ∧ (∀ i : Nat, i < 20 → q.2 79 (e.toNat + i) = byo (fv v1 v2 v3 v4 v5 i) (8 * (3 - (i : Int) % 4))) ∧ (∀ q' : Nat, (q' < e.toNat ∨ e.toNat + 20 ≤ q') → q.2 79 q' = M 79 q') ∧ Fr [(78, 1), (79, 99999)] M q.2) := by
  unfold f_M_feed_L28
  refine wq_lp (fun z => z.1 = v1 ∧ z.2.1 = v2 ∧ z.2.2.1 = v3 ∧ z.2.2.2.1 = v4 ∧ z.2.2.2.2.1 = v5 ∧ ∃ j : Nat, j ≤ 20 ∧ z.2.2.2.2.2.1 = (j : Int) ∧ z.2.2.2.2.2.2 78 1 = e + j ∧ (∀ i : Nat, i < j → z.2.2.2.2.2.2 79 (e.toNat + i) = byo (fv v1 v2 v3 v4 v5 i) (8 * (3 - (i : Int) % 4))) ∧ (∀ q' : Nat, (q' < e.toNat ∨ e.toNat + 20 ≤ q') → z.2.2.2.2.2.2 79 q' = M 79 q') ∧ Fr [(78, 1), (79, 99999)] M z.2.2.2.2.2.2) (fun z => (20 - z.2.2.2.2.2.1).toNat) ?_ FU _ ?_ ?_
  · rintro kH ⟨u1, u2, u3, u4, u5, u6, N⟩ ⟨q1, q2, q3, q4, q5, j, q6, q7, q8, q9, q10, q11⟩ hk
    have a1 : u1 = v1 := q1
    have a2 : u2 = v2 := q2
    have a3 : u3 = v3 := q3
    have a4 : u4 = v4 := q4
    have a5 : u5 = v5 := q5
    have a7 : u6 = (j : Int) := q7
    have a8 : N 78 1 = e + j := q8
    have a9 : ∀ i : Nat, i < j → N 79 (e.toNat + i) = byo (fv v1 v2 v3 v4 v5 i) (8 * (3 - (i : Int) % 4)) := q9
    have a10 : ∀ q' : Nat, (q' < e.toNat ∨ e.toNat + 20 ≤ q') → N 79 q' = M 79 q' := q10
    have a11 : Fr [(78, 1), (79, 99999)] M N := q11
    clear q1 q2 q3 q4 q5 q7 q8 q9 q10 q11
    show wq (f_M_feed_B28 (fun v1 v2 v3 v4 v5 v6 M => kH (v1, v2, v3, v4, v5, v6, M)) u1 u2 u3 u4 u5 u6 N) _
    rw [a1, a2, a3, a4, a5, a7]
    have hJ : ¬ 20 ≤ (j : Int) → ∀ s0 : Int, s0 = fv v1 v2 v3 v4 v5 j → wq (f_M_feed_J81 (fun v1 v2 v3 v4 v5 v6 M => kH (v1, v2, v3, v4, v5, v6, M)) v1 v2 v3 v4 v5 (j : Int) s0 N) (fun q => q.1 = e + 20 ∧ q.2 78 1 = e + 20 ∧ (∀ i : Nat, i < 20 → q.2 79 (e.toNat + i) = byo (fv v1 v2 v3 v4 v5 i) (8 * (3 - (i : Int) % 4))) ∧ (∀ q' : Nat, (q' < e.toNat ∨ e.toNat + 20 ≤ q') → q.2 79 q' = M 79 q') ∧ Fr [(78, 1), (79, 99999)] M q.2) := by
      intro c s0 hs
      unfold f_M_feed_J81
      rw [a8, i32_id (x := e + (j : Int)) (by omega) (by omega), i32_id (x := (j : Int)) (by omega) (by omega), i32_id (x := 4) (by omega) (by omega), tmod_pos (by omega)]
      refine wq_g (by omega) (wq_d (wq_d ?_))
      rw [up_row (by decide), a8]
      refine hk _ ⟨rfl, rfl, rfl, rfl, rfl, j + 1, by omega, by show (j : Int) + 1 = ((j + 1 : Nat) : Int); omega, ?_, fun i hi => ?_, fun q' hq => ?_, (a11.up (by simp)).up (by simp)⟩ (show (20 - ((j : Int) + 1)).toNat < (20 - u6).toNat by omega)
      · dsimp only
        rw [up_eq]; omega
      · dsimp only
        rw [up_row (by decide)]
        by_cases z : i = j
        · subst z
          rw [show (e + (i : Int)).toNat = e.toNat + i by omega, up_eq, hs]; rfl
        · rw [up_col (by omega)]; exact a9 i (by omega)
      · dsimp only
        rw [up_row (by decide), up_col (by omega)]; exact a10 q' hq
    unfold f_M_feed_B28
    rw [i32_id (x := (j : Int)) (by omega) (by omega), i32_id (x := 20) (by omega) (by omega), i32_id (x := 4) (by omega) (by omega), i32_id (x := 8) (by omega) (by omega), i32_id (x := 12) (by omega) (by omega), i32_id (x := 16) (by omega) (by omega)]
    refine wq_if (fun c => ?_) (fun c => ?_)
    · have ej : j = 20 := by omega
      subst ej
      exact wq_some ⟨a8, a8, a9, a10, a11⟩
    · refine wq_if (fun c1 => wq_if (fun c2 => wq_if (fun c3 => wq_if (fun c4 => hJ c _ ?_) (fun c4 => hJ c _ ?_)) (fun c3 => hJ c _ ?_)) (fun c2 => hJ c _ ?_)) (fun c1 => hJ c _ ?_)
      · unfold fv; rw [if_neg (by omega), if_neg (by omega), if_neg (by omega), if_neg (by omega)]
      · unfold fv; rw [if_neg (by omega), if_neg (by omega), if_neg (by omega), if_pos (by omega)]
      · unfold fv; rw [if_neg (by omega), if_neg (by omega), if_pos (by omega)]
      · unfold fv; rw [if_neg (by omega), if_pos (by omega)]
      · unfold fv; rw [if_pos (by omega)]
  · exact ⟨rfl, rfl, rfl, rfl, rfl, 0, by decide, rfl, by show M 78 1 = e + ((0 : Nat) : Int); omega, fun i hi => absurd hi (Nat.not_lt_zero _), fun q _ => rfl, Fr.rf⟩
  · show (20 - (0 : Int)).toNat < 1000000000
    decide
