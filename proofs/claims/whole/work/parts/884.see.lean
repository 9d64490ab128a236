/-- the octets are rows of what was seen -/
def rOk (V : Mm) (e : Int) : Prop := (1 ≤ e / 4 ∧ e / 4 ≤ 20 ∧ e % 4 = 0) ∧ ∀ j : Int, 0 ≤ j → j < e / 4 → V 79 (4 * j).toNat < nS V ∧ V 79 (4 * j + 3).toNat ≤ 99
theorem e_byteAt {M : Mm} {e v : Int} (he : M 1 1 = e) (h0 : e ≤ 1600) (h1 : 0 ≤ v) (h2 : v < e) : f_Scan_byteAt v M = some (M 2 v.toNat, M) := by
  unfold f_Scan_byteAt
  rw [he, i32_id (x := v) (by omega) (by omega), i32_id (x := e) (by omega) (by omega), i32_id (x := ((1600 : Nat) : Int)) (by omega) (by omega), if_neg (by omega), if_neg (by omega), if_neg (by omega), gd_t (by omega)]
def seenL : List (Nat × Nat) := [(64, 6), (65, 99999), (66, 99999), (67, 99999)]
theorem s_take {V M : Mm} {e : Int} (hT : Tw V) (hc : Tc V M) (he : M 1 1 = e) (h0 : 0 ≤ e) (h1 : e ≤ 1600) (h2 : M 2 = V 79) (hb : ∀ k : Nat, 0 ≤ V 79 k ∧ V 79 k ≤ 255) : wq (f_Seen_take M) (fun q => (q.1 = 0 ∧ ¬ rOk V e ∧ q.2 = M) ∨ (q.1 = 1 ∧ rOk V e ∧ q.2 64 6 = e / 4 ∧ (∀ k : Nat, (k : Int) < e / 4 → q.2 65 k = V 79 (4 * k) ∧ q.2 66 k = V 79 (4 * k + 1) * 256 + V 79 (4 * k + 2) ∧ q.2 67 k = V 79 (4 * k + 3)) ∧ Fr seenL M q.2)) := by
  have hS := hT.2.1
  unfold f_Seen_take
  rw [he, i32_id (x := e) (by omega) (by omega), i32_id (x := 4) (by omega) (by omega), tmod_pos h0, tdiv_pos h0, i32_id (x := e % 4) (by omega) (by omega), i32_id (x := e / 4) (by omega) (by omega), i32_id (x := 1) (by omega) (by omega), i32_id (x := 20) (by omega) (by omega)]
  refine wq_if (fun c => wq_some (Or.inl ⟨rfl, fun z => c z.1.2.2, rfl⟩)) (fun c => ?_)
  refine wq_if (fun d => wq_some (Or.inl ⟨rfl, fun z => by have := z.1.1; omega, rfl⟩)) (fun d => ?_)
  refine wq_if (fun g => ?_) (fun g => wq_some (Or.inl ⟨rfl, fun z => g z.1.2.1, rfl⟩))
  unfold f_Seen_take_L31
  refine wq_lp (fun z => z.1 = e / 4 ∧ (0 ≤ z.2.1 ∧ z.2.1 ≤ e / 4) ∧ (∀ j : Int, 0 ≤ j → j < z.2.1 → V 79 (4 * j).toNat < nS V ∧ V 79 (4 * j + 3).toNat ≤ 99) ∧ z.2.2 = M) (fun z => (e / 4 - z.2.1).toNat) ?_ FU _ ?_ ?_
  · rintro kH ⟨v2, v3, N⟩ ⟨q1, q2, q3, q4⟩ hk
    have a1 : v2 = e / 4 := q1
    have a2 : 0 ≤ v3 ∧ v3 ≤ e / 4 := q2
    have a3 : ∀ j : Int, 0 ≤ j → j < v3 → V 79 (4 * j).toNat < nS V ∧ V 79 (4 * j + 3).toNat ≤ 99 := q3
    have a4 : N = M := q4
    clear q1 q2 q3 q4
    show wq (f_Seen_take_B31 (fun v2 v3 M => kH (v2, v3, M)) _ v2 v3 N) _
    rw [a1, a4]
    unfold f_Seen_take_B31
    rw [i32_id (x := e / 4) (by omega) (by omega), i32_id (x := v3) (by omega) (by omega)]
    refine wq_if (fun x => ?_) (fun x => ?_)
    · have hok : rOk V e := ⟨⟨by omega, g, by omega⟩, fun j j1 j2 => a3 j j1 (by omega)⟩
      dsimp only
      unfold f_Seen_take_L78
      refine wq_lp (fun z => z.1 = e / 4 ∧ (0 ≤ z.2.1 ∧ z.2.1 ≤ e / 4) ∧ (∀ k : Nat, (k : Int) < z.2.1 → z.2.2 65 k = V 79 (4 * k) ∧ z.2.2 66 k = V 79 (4 * k + 1) * 256 + V 79 (4 * k + 2) ∧ z.2.2 67 k = V 79 (4 * k + 3)) ∧ Fr seenL M z.2.2) (fun z => (e / 4 - z.2.1).toNat) ?_ FU _ ?_ ?_
      · rintro kG ⟨u2, u3, B⟩ ⟨p1, p2, p3, p4⟩ hg
        have b1 : u2 = e / 4 := p1
        have b2 : 0 ≤ u3 ∧ u3 ≤ e / 4 := p2
        have b3 : ∀ k : Nat, (k : Int) < u3 → B 65 k = V 79 (4 * k) ∧ B 66 k = V 79 (4 * k + 1) * 256 + V 79 (4 * k + 2) ∧ B 67 k = V 79 (4 * k + 3) := p3
        have b4 : Fr seenL M B := p4
        clear p1 p2 p3 p4
        show wq (f_Seen_take_B78 (fun v2 v3 M => kG (v2, v3, M)) u2 u3 B) _
        rw [b1]
        unfold f_Seen_take_B78
        rw [i32_id (x := e / 4) (by omega) (by omega), i32_id (x := u3) (by omega) (by omega)]
        refine wq_if (fun y => ?_) (fun y => ?_)
        · refine wq_d (wq_some (Or.inr ⟨rfl, hok, by dsimp only; rw [up_eq], fun k hk' => ?_, b4.up (by simp [seenL])⟩))
          dsimp only
          rw [up_row (by decide), up_row (by decide), up_row (by decide)]
          exact b3 k (by omega)
        · have hB1 : B 1 1 = e := by rw [b4.row 1 rfl, he]
          have hB2 : B 2 = V 79 := by rw [b4.row 2 rfl, h2]
          rw [e_byteAt (e := e) hB1 h1 (by omega) (by omega), bI_s, e_set (n := 20) B rfl (by decide) b2.1 (by omega), bV_s, hB2]
          rw [e_byteAt (e := e) (by rw [up_row (by decide)]; exact hB1) h1 (by omega) (by omega), bI_s, up_row (by decide), hB2]
          rw [e_byteAt (e := e) (by rw [up_row (by decide)]; exact hB1) h1 (by omega) (by omega), bI_s, up_row (by decide), hB2]
          rw [e_set (n := 20) _ rfl (by decide) b2.1 (by omega), bV_s]
          rw [e_byteAt (e := e) (by rw [up_row (by decide), up_row (by decide)]; exact hB1) h1 (by omega) (by omega), bI_s, up_row (by decide), up_row (by decide), hB2]
          rw [e_set (n := 20) _ rfl (by decide) b2.1 (by omega), bV_s]
          refine hg _ ⟨rfl, ⟨show 0 ≤ u3 + 1 by omega, show u3 + 1 ≤ e / 4 by omega⟩, fun k hk' => ?_, ((b4.up (by simp [seenL])).up (by simp [seenL])).up (by simp [seenL])⟩ (show (e / 4 - (u3 + 1)).toNat < (e / 4 - u3).toNat by omega)
          have hk' : (k : Int) < u3 + 1 := hk'
          dsimp only
          by_cases z : k = u3.toNat
          · rw [z]
            refine ⟨?_, ?_, ?_⟩
            · rw [up_row (by decide), up_row (by decide), up_eq]; congr 1; omega
            · rw [up_row (by decide), up_eq, show (4 * u3 + 1).toNat = 4 * u3.toNat + 1 by omega, show (4 * u3 + 2).toNat = 4 * u3.toNat + 2 by omega]
            · rw [up_eq]; congr 1; omega
          · obtain ⟨w1, w2, w3⟩ := b3 k (by omega)
            refine ⟨?_, ?_, ?_⟩
            · rw [up_row (by decide), up_row (by decide), up_col z]; exact w1
            · rw [up_row (by decide), up_col z, up_row (by decide)]; exact w2
            · rw [up_col z, up_row (by decide), up_row (by decide)]; exact w3
      · exact ⟨rfl, ⟨Int.le_refl _, by show 0 ≤ e / 4; omega⟩, fun k hk' => absurd hk' (by show ¬ (k : Int) < 0; omega), Fr.rf⟩
      · show (e / 4 - 0).toNat < 1000000000
        omega
    · have y1 := hb (4 * v3).toNat
      have y2 := hb (4 * v3 + 3).toNat
      rw [e_byteAt (e := e) he h1 (by omega) (by omega), bI_s, h2, e_hasS hT hc (by unfold IR; omega), bI_s]
      refine wq_c0 (fun z => wq_some (Or.inl ⟨rfl, fun w => z ⟨y1.1, (w.2 v3 a2.1 (by omega)).1⟩, rfl⟩)) (fun z => ?_)
      rw [e_byteAt (e := e) he h1 (by omega) (by omega), bI_s, h2, i32_id (x := V 79 (4 * v3 + 3).toNat) (by omega) (by omega), i32_id (x := 99) (by omega) (by omega)]
      refine wq_if (fun w => hk _ ⟨rfl, ⟨show 0 ≤ v3 + 1 by omega, show v3 + 1 ≤ e / 4 by omega⟩, fun j j1 j2 => ?_, rfl⟩ (show (e / 4 - (v3 + 1)).toNat < (e / 4 - v3).toNat by omega)) (fun w => wq_some (Or.inl ⟨rfl, fun t => w (t.2 v3 a2.1 (by omega)).2, rfl⟩))
      have j2 : j < v3 + 1 := j2
      by_cases t : j = v3
      · rw [t]; exact ⟨z.2, w⟩
      · exact a3 j j1 (by omega)
  · exact ⟨rfl, ⟨Int.le_refl _, by show 0 ≤ e / 4; omega⟩, fun j j1 j2 => absurd j2 (by show ¬ j < 0; omega), rfl⟩
  · show (e / 4 - 0).toNat < 1000000000
    omega
