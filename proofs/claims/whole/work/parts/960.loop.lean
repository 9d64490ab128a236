theorem m00_z {i k : Nat} (h0 : i ≠ 0) (h46 : i ≠ 46) (h76 : i ≠ 76) (h78 : i ≠ 78) : M00 i k = 0 := by
  unfold M00
  rw [if_neg h0, if_neg h46, if_neg h76, if_neg h78]
theorem rl_start : Rl 0 M00 M00 := by
  have z98 : ∀ k, M00 98 k = 0 := fun k => m00_z (by decide) (by decide) (by decide) (by decide)
  have eP : nP M00 = 0 := z98 3
  have eS : nS M00 = 0 := z98 4
  have eW : nW M00 = 0 := z98 5
  refine ⟨⟨by rw [eP]; decide, by rw [eS]; decide, by rw [eW]; decide, fun s a b => ?_, fun s a b => ?_⟩, ⟨by decide, fun s a b => ?_, fun s a b => ?_⟩, ⟨⟨⟨by rw [eP]; rfl, by rw [eS]; rfl, by rw [eW]; rfl⟩, fun s a b => ?_, fun s a b => ?_, fun k hk => m00_z (by decide) (by decide) (by decide) (by decide)⟩, ⟨rfl, fun s a b => ?_, fun s a b => ?_⟩, ⟨by decide, fun s j a b c d => ?_⟩⟩, ⟨by decide, fun k => ?_, rfl, rfl⟩, ⟨rfl, rfl, rfl, rfl, by decide, by decide⟩, fun kd w a b => ?_, ⟨by decide, by decide, rfl, fun j a b => ?_⟩, ⟨by decide, rfl, fun k hk => ?_⟩, ⟨by decide, rfl, fun k hk => ?_⟩, ⟨rfl, rfl, rfl⟩, by decide⟩
  · rw [eS] at b; omega
  · rw [eW] at b; omega
  · rw [eS] at b; omega
  · rw [eW] at b; omega
  · rw [eS] at b; omega
  · rw [eW] at b; omega
  · rw [eS] at b; omega
  · rw [eW] at b; omega
  · have e1 : M00 46 3 = 1 := rfl
    have e2 : M00 47 (s * 512 + j).toNat = 0 := m00_z (by decide) (by decide) (by decide) (by decide)
    rw [e1, e2]
    refine ⟨by decide, fun sh hour q1 q2 q3 q4 q5 q6 => ?_⟩
    rw [eS] at q1
    omega
  · have e2 : M00 79 k = 0 := m00_z (by decide) (by decide) (by decide) (by decide)
    rw [e2]
    decide
  · rw [z98] at b; omega
  · have e1 : M00 78 63 = 0 := rfl
    rw [e1] at b
    omega
  · have e1 : M00 78 99 = 0 := rfl
    rw [e1] at hk
    omega
  · have e1 : M00 78 66 = 0 := rfl
    rw [e1] at hk
    omega
theorem ir_xs (x : Int32) : IR x.toInt := ⟨by have := Int32.le_toInt x; omega, by have := Int32.toInt_lt x; omega⟩
set_option maxRecDepth 20000 in
set_option maxHeartbeats 4000000 in
theorem law_body (L : Nat) (xs : Nat → Int32) (hL : L ≤ 3072) {kH : Int × Mm → Option (Int × Mm)} {n : Nat} {M : Mm} {Q : Int × Mm → Prop} (hR : Rl n M M) (hn : 6 * n ≤ L) (hq : ∀ N, Q (1, N)) (hg : ∀ N, Rl (n + 1) N N → 6 * (n + 1) ≤ L → wq (kH (6 * (n : Int) + 6, N)) Q) : wq (f_Law_law_B18 L xs (fun v3 M => kH (v3, M)) (6 * (n : Int)) M) Q := by
  unfold f_Law_law_B18
  rw [i32_id (x := (L : Int) - 6) (by omega) (by omega), i32_id (x := 6 * (n : Int)) (by omega) (by omega)]
  refine wq_if (fun _ => wq_some (hq M)) (fun c => ?_)
  have hb1 : 0 ≤ i32 (6 * (n : Int) + 1) ∧ i32 (6 * (n : Int) + 1) < (L : Int) := by rw [i32_id (by omega) (by omega)]; omega
  have hb2 : 0 ≤ i32 (6 * (n : Int) + 2) ∧ i32 (6 * (n : Int) + 2) < (L : Int) := by rw [i32_id (by omega) (by omega)]; omega
  have hb3 : 0 ≤ i32 (6 * (n : Int) + 3) ∧ i32 (6 * (n : Int) + 3) < (L : Int) := by rw [i32_id (by omega) (by omega)]; omega
  have hb4 : 0 ≤ i32 (6 * (n : Int) + 4) ∧ i32 (6 * (n : Int) + 4) < (L : Int) := by rw [i32_id (by omega) (by omega)]; omega
  have hb5 : 0 ≤ i32 (6 * (n : Int) + 5) ∧ i32 (6 * (n : Int) + 5) < (L : Int) := by rw [i32_id (by omega) (by omega)]; omega
  have hx : ∀ k : Nat, IR (xs k).toInt := fun k => ir_xs (xs k)
  have fin : ∀ (r r' : Int) (M4 : Mm), r = r' → Rl (n + 1) M4 M4 → wq (if i32 r = i32 r' then kH (6 * (n : Int) + 6, M4) else some (0, M4)) Q := fun r r' M4 e h => wq_t (by rw [e]) (hg M4 h (by omega))
  have finL : ∀ (r r' : Int) (M4 : Mm), r = r' → Rl (n + 1) M4 M4 → wq (if i32 (cmp64 r r') = 0 then kH (6 * (n : Int) + 6, M4) else some (0, M4)) Q := fun r r' M4 e h => wq_t (by rw [e]; unfold cmp64; rw [if_neg (Int.lt_irrefl _), if_pos rfl]; decide) (hg M4 h (by omega))
  refine wq_g ⟨by omega, by omega⟩ ?_
  refine wq_if (fun _ => wq_g hb1 (wq_g hb2 (wq_g hb3 (wq_g hb4 (wq_g hb5 (wq_I (call_feed M hR) (fun r M2 hz => wq_g hb1 (wq_g hb2 (wq_g hb3 (wq_g hb4 (wq_g hb5 (wq_I hz (fun r' M4 hw => fin r r' M4 hw.1 hw.2))))))))))))) (fun _ => ?_)
  refine wq_if (fun _ => wq_g hb1 (wq_I (call_end (hx _) M hR) (fun r M2 hz => wq_g hb1 (wq_I hz (fun r' M4 hw => fin r r' M4 hw.1 hw.2))))) (fun _ => ?_)
  refine wq_if (fun _ => wq_I (call_town (by omega) M hR) (fun r M2 hz => wq_I hz (fun r' M4 hw => fin r r' M4 hw.1 hw.2))) (fun _ => ?_)
  refine wq_if (fun _ => wq_g hb1 (wq_I (call_fault (hx _) M hR) (fun r M2 hz => wq_g hb1 (wq_I hz (fun r' M4 hw => fin r r' M4 hw.1 hw.2))))) (fun _ => ?_)
  refine wq_if (fun _ => wq_g hb1 (wq_I (call_has (hx _) M hR) (fun r M2 hz => wq_g hb1 (wq_I hz (fun r' M4 hw => fin r r' M4 hw.1 hw.2))))) (fun _ => ?_)
  refine wq_if (fun _ => wq_g hb1 (wq_g hb2 (wq_g hb3 (wq_I (call_letter (hx _) (hx _) (hx _) M hR) (fun r M2 hz => wq_g hb1 (wq_g hb2 (wq_g hb3 (wq_I hz (fun r' M4 hw => fin r r' M4 hw.1 hw.2))))))))) (fun _ => ?_)
  refine wq_if (fun _ => wq_g hb1 (wq_g hb2 (wq_I (call_street (hx _) (hx _) M hR) (fun r M2 hz => wq_g hb1 (wq_g hb2 (wq_I hz (fun r' M4 hw => fin r r' M4 hw.1 hw.2))))))) (fun _ => ?_)
  refine wq_if (fun _ => wq_g hb1 (wq_g hb2 (wq_I (call_walker (hx _) (hx _) M hR) (fun r M2 hz => wq_g hb1 (wq_g hb2 (wq_I hz (fun r' M4 hw => fin r r' M4 hw.1 hw.2))))))) (fun _ => ?_)
  refine wq_if (fun _ => wq_g hb1 (wq_g hb2 (wq_I (call_width (hx _) (hx _) M hR) (fun r M2 hz => wq_g hb1 (wq_g hb2 (wq_I hz (fun r' M4 hw => fin r r' M4 hw.1 hw.2))))))) (fun _ => ?_)
  refine wq_if (fun _ => wq_g hb1 (wq_g hb2 (wq_g hb3 (wq_I (call_passes (hx _) (hx _) (hx _) M hR) (fun r M2 hz => wq_g hb1 (wq_g hb2 (wq_g hb3 (wq_I hz (fun r' M4 hw => fin r r' M4 hw.1 hw.2))))))))) (fun _ => ?_)
  refine wq_if (fun _ => wq_g hb1 (wq_g hb2 (wq_g hb3 (wq_I (call_next (hx _) (hx _) (hx _) M hR) (fun r M2 hz => wq_g hb1 (wq_g hb2 (wq_g hb3 (wq_I hz (fun r' M4 hw => fin r r' M4 hw.1 hw.2))))))))) (fun _ => ?_)
  refine wq_if (fun _ => wq_g hb1 (wq_g hb2 (wq_g hb3 (wq_g hb4 (wq_I (call_often (hx _) (hx _) (hx _) (hx _) M hR) (fun r M2 hz => wq_g hb1 (wq_g hb2 (wq_g hb3 (wq_g hb4 (wq_I hz (fun r' M4 hw => fin r r' M4 hw.1 hw.2))))))))))) (fun _ => ?_)
  refine wq_if (fun _ => wq_g hb1 (wq_g hb2 (wq_I (call_wide (hx _) (hx _) M hR) (fun r M2 hz => wq_g hb1 (wq_g hb2 (wq_I hz (fun r' M4 hw => fin r r' M4 hw.1 hw.2))))))) (fun _ => ?_)
  refine wq_if (fun _ => wq_g hb1 (wq_g hb2 (wq_I (call_way (hx _) (hx _) M hR) (fun r M2 hz => wq_g hb1 (wq_g hb2 (wq_I hz (fun r' M4 hw => fin r r' M4 hw.1 hw.2))))))) (fun _ => ?_)
  refine wq_if (fun _ => wq_g hb1 (wq_g hb2 (wq_I (call_arrival (hx _) (hx _) M hR) (fun r M2 hz => wq_g hb1 (wq_g hb2 (wq_I hz (fun r' M4 hw => fin r r' M4 hw.1 hw.2))))))) (fun _ => ?_)
  refine wq_if (fun _ => wq_g hb1 (wq_g hb2 (wq_I (call_stuck (hx _) (hx _) M hR) (fun r M2 hz => wq_g hb1 (wq_g hb2 (wq_I hz (fun r' M4 hw => fin r r' M4 hw.1 hw.2))))))) (fun _ => ?_)
  refine wq_if (fun _ => wq_g hb1 (wq_I (call_needed (hx _) M hR) (fun r M2 hz => wq_g hb1 (wq_I hz (fun r' M4 hw => fin r r' M4 hw.1 hw.2))))) (fun _ => ?_)
  refine wq_if (fun _ => wq_g hb1 (wq_g hb2 (wq_I (call_parade (hx _) (hx _) M hR) (fun r M2 hz => wq_g hb1 (wq_g hb2 (wq_I hz (fun r' M4 hw => fin r r' M4 hw.1 hw.2))))))) (fun _ => ?_)
  refine wq_if (fun _ => wq_g hb1 (wq_g hb2 (wq_I (call_rows (hx _) (hx _) M hR) (fun r M2 hz => wq_g hb1 (wq_g hb2 (wq_I hz (fun r' M4 hw => fin r r' M4 hw.1 hw.2))))))) (fun _ => ?_)
  refine wq_if (fun _ => wq_g hb1 (wq_g hb2 (wq_g hb3 (wq_I (call_doctors (hx _) (hx _) (hx _) M hR) (fun r M2 hz => wq_g hb1 (wq_g hb2 (wq_g hb3 (wq_I hz (fun r' M4 hw => fin r r' M4 hw.1 hw.2))))))))) (fun _ => ?_)
  refine wq_if (fun _ => wq_g hb1 (wq_I (call_go (hx _) M hR) (fun r M2 hz => wq_g hb1 (wq_I hz (fun r' M4 hw => fin r r' M4 hw.1 hw.2))))) (fun _ => ?_)
  refine wq_if (fun _ => wq_g hb1 (wq_I (call_send (hx _) M hR) (fun r M2 hz => wq_g hb1 (wq_I hz (fun r' M4 hw => fin r r' M4 hw.1 hw.2))))) (fun _ => ?_)
  refine wq_if (fun _ => wq_g hb1 (wq_g hb2 (wq_I (call_hold (hx _) (hx _) M hR) (fun r M2 hz => wq_g hb1 (wq_g hb2 (wq_I hz (fun r' M4 hw => fin r r' M4 hw.1 hw.2))))))) (fun _ => ?_)
  refine wq_if (fun _ => wq_g hb1 (wq_I (call_days (hx _) M hR) (fun r M2 hz => wq_g hb1 (wq_I hz (fun r' M4 hw => fin r r' M4 hw.1 hw.2))))) (fun _ => ?_)
  refine wq_if (fun _ => wq_I (call_undo M hR) (fun r M2 hz => wq_I hz (fun r' M4 hw => fin r r' M4 hw.1 hw.2))) (fun _ => ?_)
  refine wq_if (fun _ => wq_g hb1 (wq_I (call_seed (hx _) M hR) (fun r M2 hz => wq_g hb1 (wq_I hz (fun r' M4 hw => fin r r' M4 hw.1 hw.2))))) (fun _ => ?_)
  refine wq_if (fun _ => wq_I (call_see M hR) (fun r M2 hz => wq_I hz (fun r' M4 hw => fin r r' M4 hw.1 hw.2))) (fun _ => ?_)
  refine wq_if (fun _ => wq_g hb1 (wq_g hb2 (wq_I (call_shifts (hx _) (hx _) M hR) (fun r M2 hz => wq_g hb1 (wq_g hb2 (wq_I hz (fun r' M4 hw => fin r r' M4 hw.1 hw.2))))))) (fun _ => ?_)
  refine wq_if (fun _ => wq_g hb1 (wq_g hb2 (wq_I (call_telling (hx _) (hx _) M hR) (fun r M2 hz => wq_g hb1 (wq_g hb2 (wq_I hz (fun r' M4 hw => fin r r' M4 hw.1 hw.2))))))) (fun _ => ?_)
  refine wq_if (fun _ => wq_I (call_ask M hR) (fun r M2 hz => wq_I hz (fun r' M4 hw => finL r r' M4 hw.1 hw.2))) (fun _ => ?_)
  refine wq_if (fun _ => wq_I (call_image M hR) (fun r M2 hz => wq_I hz (fun r' M4 hw => fin r r' M4 hw.1 hw.2))) (fun _ => ?_)
  refine wq_if (fun _ => wq_g hb1 (wq_I (call_octet (hx _) M hR) (fun r M2 hz => wq_g hb1 (wq_I hz (fun r' M4 hw => fin r r' M4 hw.1 hw.2))))) (fun _ => ?_)
  refine wq_if (fun _ => wq_I (call_on M hR) (fun r M2 hz => wq_I hz (fun r' M4 hw => fin r r' M4 hw.1 hw.2))) (fun _ => ?_)
  refine wq_if (fun _ => wq_g hb1 (wq_I (call_status (hx _) M hR) (fun r M2 hz => wq_g hb1 (wq_I hz (fun r' M4 hw => fin r r' M4 hw.1 hw.2))))) (fun _ => ?_)
  exact hg M (by obtain ⟨h1, h2, h3, h4, h5, h6, h7, h8, h9, h10, h11⟩ := hR; exact ⟨h1, h2, h3, h4, h5, h6, h7, h8, h9, h10, by push_cast; omega⟩) (by omega)
/-- the law, on every script that is not too long, ends and answers 1 -/
theorem law_all (L : Nat) (xs : Nat → Int32) (hL : L ≤ 3072) : ∃ M', f_Law_law L xs 0 M00 = some (1, M') := by
  have h : wq (f_Law_law L xs 0 M00) (fun q => q.1 = 1) := by
    unfold f_Law_law f_Law_law_L18
    refine wq_lp (fun z => ∃ n : Nat, z.1 = 6 * (n : Int) ∧ 6 * n ≤ L ∧ Rl n z.2 z.2) (fun z => ((L : Int) + 1 - z.1).toNat) ?_ FU _ ⟨0, rfl, Nat.zero_le _, rl_start⟩ ?_
    · rintro kH ⟨v, N⟩ ⟨n, q1, q2, q3⟩ hg
      have q1 : v = 6 * (n : Int) := q1
      have q3 : Rl n N N := q3
      subst q1
      refine law_body L xs hL q3 q2 (fun _ => rfl) (fun N' h1 h2 => hg (6 * (n : Int) + 6, N') ⟨n + 1, by push_cast; omega, h2, h1⟩ ?_)
      show ((L : Int) + 1 - (6 * (n : Int) + 6)).toNat < ((L : Int) + 1 - 6 * (n : Int)).toNat
      omega
    · show ((L : Int) + 1 - 0).toNat < 1000000000
      omega
  obtain ⟨⟨r, M'⟩, h1, h2⟩ := h
  have h2 : r = 1 := h2
  subst h2
  exact ⟨M', h1⟩
