theorem s_areRows {V M : Mm} {e : Int} (hT : Tw V) (hm : Rm V M) (h0 : 0 ≤ e) (h1 : e ≤ 1600) (h2 : M 79 = V 79) (hb : ∀ k : Nat, 0 ≤ V 79 k ∧ V 79 k ≤ 255) : wq (f_M_areRows e M) (fun q => ((q.1 = 0 ∧ ¬ rOk V e) ∨ (q.1 = 1 ∧ rOk V e)) ∧ q.2 = M) := by
  have hS := hT.2.1
  unfold f_M_areRows
  rw [i32_id (x := e) (by omega) (by omega), i32_id (x := 4) (by omega) (by omega), tmod_pos h0, tdiv_pos h0, i32_id (x := e % 4) (by omega) (by omega), i32_id (x := e / 4) (by omega) (by omega), i32_id (x := 20) (by omega) (by omega)]
  refine wq_if (fun c => wq_some ⟨Or.inl ⟨rfl, fun z => by have := z.1.1; omega⟩, rfl⟩) (fun c => ?_)
  refine wq_if (fun d => wq_some ⟨Or.inl ⟨rfl, fun z => d z.1.2.2⟩, rfl⟩) (fun d => ?_)
  refine wq_if (fun g => ?_) (fun g => wq_some ⟨Or.inl ⟨rfl, fun z => g z.1.2.1⟩, rfl⟩)
  unfold f_M_areRows_L22
  refine wq_lp (fun z => z.1 = e ∧ (∃ i : Int, z.2.1 = 4 * i ∧ (0 ≤ i ∧ i ≤ e / 4) ∧ ∀ j : Int, 0 ≤ j → j < i → V 79 (4 * j).toNat < nS V ∧ V 79 (4 * j + 3).toNat ≤ 99) ∧ z.2.2 = M) (fun z => (e - z.2.1).toNat) ?_ FU _ ?_ ?_
  · rintro kH ⟨v1, v2, N⟩ ⟨q1, ⟨i, q2, a2, a3⟩, q4⟩ hk
    have a1 : v1 = e := q1
    have a5 : v2 = 4 * i := q2
    have a4 : N = M := q4
    clear q1 q2 q4
    show wq (f_M_areRows_B22 (fun v1 v2 M => kH (v1, v2, M)) v1 v2 N) _
    rw [a1, a4, a5]
    unfold f_M_areRows_B22
    rw [i32_id (x := e) (by omega) (by omega), i32_id (x := 4 * i) (by omega) (by omega)]
    refine wq_if (fun x => wq_some ⟨Or.inr ⟨rfl, ⟨by omega, g, by omega⟩, fun j j1 j2 => a3 j j1 (by omega)⟩, rfl⟩) (fun x => ?_)
    have y1 := hb (4 * i).toNat
    have y2 := hb (4 * i + 3).toNat
    rw [h2, e_isStreet hT hm (by unfold IR; omega), bI_s, i32_id (x := 4 * i + 3) (by omega) (by omega), h2, i32_id (x := V 79 (4 * i + 3).toNat) (by omega) (by omega), i32_id (x := 99) (by omega) (by omega)]
    refine wq_g (by omega) (wq_c0 (fun z => wq_some ⟨Or.inl ⟨rfl, fun w => z ⟨y1.1, (w.2 i a2.1 (by omega)).1⟩⟩, rfl⟩) (fun z => wq_g (by omega) ?_))
    refine wq_if (fun w => hk _ ⟨rfl, ⟨i + 1, by show 4 * i + 4 = 4 * (i + 1); omega, ⟨by omega, by omega⟩, fun j j1 j2 => ?_⟩, rfl⟩ (show (e - (4 * i + 4)).toNat < (e - v2).toNat by omega)) (fun w => wq_some ⟨Or.inl ⟨rfl, fun t => w (t.2 i a2.1 (by omega)).2⟩, rfl⟩)
    by_cases t : j = i
    · rw [t]; exact ⟨z.2, w⟩
    · exact a3 j j1 (by omega)
  · exact ⟨rfl, ⟨0, rfl, ⟨Int.le_refl _, by omega⟩, fun j j1 j2 => absurd j2 (by omega)⟩, rfl⟩
  · show (e - 0).toNat < 1000000000
    omega
theorem s_seeM {M : Mm} {n : Int} (h0 : 0 ≤ n) (h1 : n ≤ 20) (he : M 78 66 = n) : wq (f_M_see_L39 FU (0, M)) (fun q => q.1 = n ∧ (∀ k : Nat, (k : Int) < n → q.2 121 (3 * k) = M 79 (4 * k) ∧ q.2 121 (3 * k + 1) = 256 * M 79 (4 * k + 1) + M 79 (4 * k + 2) ∧ q.2 121 (3 * k + 2) = M 79 (4 * k + 3)) ∧ Fr [(121, 99999)] M q.2) := by
  unfold f_M_see_L39
  refine wq_lp (fun z => (0 ≤ z.1 ∧ z.1 ≤ n) ∧ (∀ k : Nat, (k : Int) < z.1 → z.2 121 (3 * k) = M 79 (4 * k) ∧ z.2 121 (3 * k + 1) = 256 * M 79 (4 * k + 1) + M 79 (4 * k + 2) ∧ z.2 121 (3 * k + 2) = M 79 (4 * k + 3)) ∧ Fr [(121, 99999)] M z.2) (fun z => (n - z.1).toNat) ?_ FU _ ?_ ?_
  · rintro kH ⟨v2, N⟩ ⟨q1, q2, q3⟩ hk
    have a1 : 0 ≤ v2 ∧ v2 ≤ n := q1
    have a2 : ∀ k : Nat, (k : Int) < v2 → N 121 (3 * k) = M 79 (4 * k) ∧ N 121 (3 * k + 1) = 256 * M 79 (4 * k + 1) + M 79 (4 * k + 2) ∧ N 121 (3 * k + 2) = M 79 (4 * k + 3) := q2
    have a3 : Fr [(121, 99999)] M N := q3
    clear q1 q2 q3
    have g66 : N 78 66 = n := by rw [a3.row 78 rfl, he]
    have g79 : N 79 = M 79 := a3.row 79 rfl
    show wq (f_M_see_B39 (fun v2 M => kH (v2, M)) v2 N) _
    unfold f_M_see_B39
    rw [g66, g79, i32_id (x := n) (by omega) (by omega), i32_id (x := v2) (by omega) (by omega)]
    refine wq_if (fun c => wq_some ⟨rfl, fun k hk' => a2 k (by omega), a3⟩) (fun c => ?_)
    rw [i32_id (x := 4 * v2) (by omega) (by omega), i32_id (x := 3 * v2) (by omega) (by omega), i32_id (x := 4 * v2 + 1) (by omega) (by omega), i32_id (x := 4 * v2 + 2) (by omega) (by omega), i32_id (x := 3 * v2 + 1) (by omega) (by omega), i32_id (x := 4 * v2 + 3) (by omega) (by omega), i32_id (x := 3 * v2 + 2) (by omega) (by omega)]
    refine wq_g (by omega) (wq_g (by omega) (wq_d (wq_g (by omega) (wq_g (by omega) (wq_g (by omega) (wq_d (wq_g (by omega) (wq_g (by omega) (wq_d ?_)))))))))
    rw [up_row (by decide), up_row (by decide), up_row (by decide), g79]
    refine hk _ ⟨⟨show 0 ≤ v2 + 1 by omega, show v2 + 1 ≤ n by omega⟩, fun k hk' => ?_, ((a3.up (by simp)).up (by simp)).up (by simp)⟩ (show (n - (v2 + 1)).toNat < (n - v2).toNat by omega)
    have hk' : (k : Int) < v2 + 1 := hk'
    dsimp only
    by_cases z : k = v2.toNat
    · subst z
      refine ⟨?_, ?_, ?_⟩
      · rw [up_col (by omega), up_col (by omega), show (3 * v2).toNat = 3 * v2.toNat by omega, up_eq, show (4 * v2).toNat = 4 * v2.toNat by omega]
      · rw [up_col (by omega), show (3 * v2 + 1).toNat = 3 * v2.toNat + 1 by omega, up_eq, show (4 * v2 + 1).toNat = 4 * v2.toNat + 1 by omega, show (4 * v2 + 2).toNat = 4 * v2.toNat + 2 by omega]
      · rw [show (3 * v2 + 2).toNat = 3 * v2.toNat + 2 by omega, up_eq, show (4 * v2 + 3).toNat = 4 * v2.toNat + 3 by omega]
    · obtain ⟨w1, w2, w3⟩ := a2 k (by omega)
      refine ⟨?_, ?_, ?_⟩
      · rw [up_col (by omega), up_col (by omega), up_col (by omega)]; exact w1
      · rw [up_col (by omega), up_col (by omega), up_col (by omega)]; exact w2
      · rw [up_col (by omega), up_col (by omega), up_col (by omega)]; exact w3
  · exact ⟨⟨Int.le_refl _, h0⟩, fun k hk' => absurd hk' (by show ¬ (k : Int) < 0; omega), Fr.rf⟩
  · show (n - 0).toNat < 1000000000
    omega
