/-- the reference has kept the state -/
def kR (M M' : Mm) : Prop := M' 78 64 = (M 78 64 + 1) % 20 ∧ M' 78 63 = (if 20 ≤ M 78 63 then M 78 63 else M 78 63 + 1) ∧ (∀ k : Nat, k < 31 → M' 120 ((31 * ((M 78 64 + 1) % 20)).toNat + k) = M 108 k) ∧ ∀ q : Nat, (q < (31 * ((M 78 64 + 1) % 20)).toNat ∨ (31 * ((M 78 64 + 1) % 20)).toNat + 31 ≤ q) → M' 120 q = M 120 q
def krL : List (Nat × Nat) := [(78, 63), (78, 64), (120, 99999)]
theorem s_keeps {M : Mm} (h1 : 0 ≤ M 78 63 ∧ M 78 63 ≤ 20) (h2 : 0 ≤ M 78 64 ∧ M 78 64 < 20) : wq (f_M_keeps M) (fun M' => kR M M' ∧ Fr krL M M') := by
  unfold f_M_keeps
  rw [i32_id (x := M 78 64 + 1) (by omega) (by omega), i32_id (x := 20) (by omega) (by omega), tmod_pos (by omega)]
  refine wq_d ?_
  generalize hw : (M 78 64 + 1) % 20 = w
  have hw1 : 0 ≤ w ∧ w < 20 := by omega
  have F0 : Fr krL M (up M 78 64 w) := Fr.rf.up (by simp [krL])
  unfold f_M_keeps_L15
  refine wq_lp (fun z => (0 ≤ z.1 ∧ z.1 ≤ 31) ∧ (∀ k : Nat, (k : Int) < z.1 → z.2 120 ((31 * w).toNat + k) = M 108 k) ∧ (∀ q : Nat, (q < (31 * w).toNat ∨ (31 * w).toNat + 31 ≤ q) → z.2 120 q = M 120 q) ∧ Fr [(120, 99999)] (up M 78 64 w) z.2) (fun z => (31 - z.1).toNat) ?_ FU _ ?_ ?_
  · rintro kH ⟨v1, N⟩ ⟨q1, q2, q3, q4⟩ hk
    have e1 : 0 ≤ v1 ∧ v1 ≤ 31 := q1
    have e2 : ∀ k : Nat, (k : Int) < v1 → N 120 ((31 * w).toNat + k) = M 108 k := q2
    have e3 : ∀ q : Nat, (q < (31 * w).toNat ∨ (31 * w).toNat + 31 ≤ q) → N 120 q = M 120 q := q3
    have e4 : Fr [(120, 99999)] (up M 78 64 w) N := q4
    clear q1 q2 q3 q4
    have g64 : N 78 64 = w := by rw [e4.row 78 rfl, up_eq]
    have g63 : N 78 63 = M 78 63 := by rw [e4.row 78 rfl, up_col (by decide)]
    have F2 : Fr krL M N := F0.tr (e4.cov rfl)
    show wq (f_M_keeps_B15 (fun v1 M => kH (v1, M)) _ v1 N) _
    unfold f_M_keeps_B15
    rw [i32_id (x := 31) (by omega) (by omega), i32_id (x := v1) (by omega) (by omega), g64, i32_id (x := 31 * w + v1) (by omega) (by omega)]
    refine wq_if (fun c => ?_) (fun c => wq_g (by omega) (wq_g (by omega) (wq_d (hk _ ⟨⟨show 0 ≤ v1 + 1 by omega, show v1 + 1 ≤ 31 by omega⟩, fun k hk' => ?_, fun q hq => ?_, e4.up (by simp)⟩ (show (31 - (v1 + 1)).toNat < (31 - v1).toNat by omega)))))
    · have e2' : ∀ k : Nat, k < 31 → N 120 ((31 * w).toNat + k) = M 108 k := fun k hk' => e2 k (by omega)
      dsimp only
      rw [g63, i32_id (x := M 78 63) (by omega) (by omega)]
      refine wq_if (fun d => wq_some ⟨⟨?_, ?_, ?_, ?_⟩, F2⟩) (fun d => wq_d (wq_some ⟨⟨?_, ?_, ?_, ?_⟩, F2.up (by simp [krL])⟩))
      · rw [hw]; exact g64
      · rw [if_pos d]; exact g63
      · rw [hw]; exact e2'
      · rw [hw]; exact e3
      · rw [hw, up_col (by decide)]; exact g64
      · rw [if_neg d, up_eq]
      · rw [hw, up_row (by decide)]; exact e2'
      · rw [hw, up_row (by decide)]; exact e3
    · have hk' : (k : Int) < v1 + 1 := hk'
      show (up N 120 (31 * w + v1).toNat (N 108 v1.toNat)) 120 ((31 * w).toNat + k) = M 108 k
      by_cases z : (k : Int) = v1
      · rw [show (31 * w + v1).toNat = (31 * w).toNat + k by omega, up_eq, F2.row 108 rfl, show v1.toNat = k by omega]
      · rw [up_col (by omega)]; exact e2 k (by omega)
    · show (up N 120 (31 * w + v1).toNat (N 108 v1.toNat)) 120 q = M 120 q
      rw [up_col (by omega)]; exact e3 q hq
  · exact ⟨⟨Int.le_refl _, by show (0 : Int) ≤ 31; decide⟩, fun k hk' => absurd hk' (by show ¬ (k : Int) < 0; omega), fun q _ => by show (up M 78 64 w) 120 q = M 120 q; rw [up_row (by decide)], Fr.rf⟩
  · show (31 - (0 : Int)).toNat < 1000000000
    decide
/-- a state read from a row is what its 31 cells are -/
theorem pa_fn {V V' M M' : Mm} (hT : Tw V) (hr' : Rt V V') {f f' : Nat → Int} {c c' : Nat} (hf : ∀ k : Nat, k < 31 → f' k = f k) (hc : ∀ k : Nat, k < 31 → M' 44 (c' + k) = M 44 (c + k)) (h : Nw (vw V f) ∧ Nc (vw V f) (cw M c)) : Nw (vw V' f') ∧ Nc (vw V' f') (cw M' c') := by
  obtain ⟨⟨a1, a2, a3⟩, b1, b2, b3⟩ := h
  have hS := hT.2.1
  have hW := hT.2.2.1
  have eS : nS (vw V' f') = nS V := rt_nS hr'
  have eW : nW (vw V' f') = nW V := rt_nW hr'
  have eh : hr (vw V' f') = hr (vw V f) := hf 0 (by decide)
  have es : ∀ s : Int, 0 ≤ s → s < nS V → sf (vw V' f') s = sf (vw V f) s := fun s s1 s2 => hf _ (by omega)
  have ep : ∀ w : Int, 0 ≤ w → w < nW V → pl (vw V' f') w = pl (vw V f) w := fun w s1 s2 => hf _ (by omega)
  have eg : ∀ w : Int, 0 ≤ w → w < nW V → gl (vw V' f') w = gl (vw V f) w := fun w s1 s2 => hf _ (by omega)
  have ef : ∀ w : Int, 0 ≤ w → w < nW V → fr (vw V' f') w = fr (vw V f) w := fun w s1 s2 => hf _ (by omega)
  refine ⟨⟨by rw [eh]; exact a1, fun s s1 s2 => ?_, fun w w1 w2 => ?_⟩, ?_, fun s s1 s2 => ?_, fun w w1 w2 => ?_⟩
  · rw [eS] at s2
    have := a2 s s1 s2
    rw [es s s1 s2, show rd (vw V' f') s = rd (vw V f) s from rt_rd hr' s1]
    exact this
  · rw [eW] at w2
    have := a3 w w1 w2
    unfold NwW at *
    rw [ep w w1 w2, eg w w1 w2, ef w w1 w2, show wx (vw V' f') w = wx (vw V f) w from rt_wx hr' w1, show wy (vw V' f') w = wy (vw V f) w from rt_wy hr' w1]
    exact this
  · rw [eh, ← b1]
    exact hc 0 (by decide)
  · rw [eS] at s2
    rw [es s s1 s2, ← b2 s s1 s2]
    show M' 44 (c' + 1 + s.toNat) = M 44 (c + 1 + s.toNat)
    rw [Nat.add_assoc, Nat.add_assoc]
    exact hc _ (by omega)
  · rw [eW] at w2
    obtain ⟨g1, g2, g3⟩ := b3 w w1 w2
    rw [ep w w1 w2, eg w w1 w2, ef w w1 w2, ← g1, ← g2, ← g3]
    refine ⟨?_, ?_, ?_⟩
    · show M' 44 (c' + 13 + w.toNat) = M 44 (c + 13 + w.toNat)
      rw [Nat.add_assoc, Nat.add_assoc]
      exact hc _ (by omega)
    · show M' 44 (c' + 19 + w.toNat) = M 44 (c + 19 + w.toNat)
      rw [Nat.add_assoc, Nat.add_assoc]
      exact hc _ (by omega)
    · show M' 44 (c' + 25 + w.toNat) = M 44 (c + 25 + w.toNat)
      rw [Nat.add_assoc, Nat.add_assoc]
      exact hc _ (by omega)
theorem pa_new {V V' M M' : Mm} (hT : Tw V) (hr' : Rt V V') {f' : Nat → Int} {c' : Nat} (hf : ∀ k : Nat, k < 31 → f' k = V 108 k) (hc : kE M M' c') (hN : Nw V) (hC : Nc V M) : Nw (vw V' f') ∧ Nc (vw V' f') (cw M' c') := by
  obtain ⟨a1, a2, a3⟩ := hN
  obtain ⟨b1, b2, b3⟩ := hC
  obtain ⟨k1, k2, k3, k4, k5⟩ := hc
  have hS := hT.2.1
  have hW := hT.2.2.1
  have eS : nS (vw V' f') = nS V := rt_nS hr'
  have eW : nW (vw V' f') = nW V := rt_nW hr'
  have eh : hr (vw V' f') = hr V := hf 0 (by decide)
  have es : ∀ s : Int, 0 ≤ s → s < nS V → sf (vw V' f') s = sf V s := fun s s1 s2 => hf _ (by omega)
  have ep : ∀ w : Int, 0 ≤ w → w < nW V → pl (vw V' f') w = pl V w := fun w s1 s2 => hf _ (by omega)
  have eg : ∀ w : Int, 0 ≤ w → w < nW V → gl (vw V' f') w = gl V w := fun w s1 s2 => hf _ (by omega)
  have ef : ∀ w : Int, 0 ≤ w → w < nW V → fr (vw V' f') w = fr V w := fun w s1 s2 => hf _ (by omega)
  refine ⟨⟨by rw [eh]; exact a1, fun s s1 s2 => ?_, fun w w1 w2 => ?_⟩, ?_, fun s s1 s2 => ?_, fun w w1 w2 => ?_⟩
  · rw [eS] at s2
    have := a2 s s1 s2
    rw [es s s1 s2, show rd (vw V' f') s = rd V s from rt_rd hr' s1]
    exact this
  · rw [eW] at w2
    have := a3 w w1 w2
    unfold NwW at *
    rw [ep w w1 w2, eg w w1 w2, ef w w1 w2, show wx (vw V' f') w = wx V w from rt_wx hr' w1, show wy (vw V' f') w = wy V w from rt_wy hr' w1]
    exact this
  · rw [eh, ← b1]
    exact k1
  · rw [eS] at s2
    rw [es s s1 s2, ← b2 s s1 s2]
    exact k2 _ (by omega)
  · rw [eW] at w2
    obtain ⟨g1, g2, g3⟩ := b3 w w1 w2
    rw [ep w w1 w2, eg w w1 w2, ef w w1 w2, ← g1, ← g2, ← g3]
    exact ⟨k3 _ (by omega), k4 _ (by omega), k5 _ (by omega)⟩
theorem pa_keep {M M' : Mm} (hT : Tw M) (hN : Nw M) (hC : Nc M M) (hP : Pa M M) (hr' : Rt M M') (h1 : kC M M') (h2 : kR M M') : Pa M' M' := by
  obtain ⟨p1, p2, p3, p4⟩ := hP
  obtain ⟨c', d, k1, k2, k3, k4⟩ := h1
  obtain ⟨r1, r2, r3, r4⟩ := h2
  have e63 : M' 78 63 = c' := by
    rw [r2]
    by_cases z : 20 ≤ M 78 63
    · rw [if_pos z]; omega
    · rw [if_neg z]; omega
  unfold Pa
  rw [e63]
  refine ⟨by omega, by rw [r1]; omega, k2, fun j j1 j2 => ?_⟩
  by_cases z : j = 0
  · subst z
    have eP : pr M' 0 = (31 * ((M 78 64 + 1) % 20)).toNat := by
      unfold pr; rw [r1]; congr 2; omega
    rw [eP, show c' - 1 - 0 = c' - 1 by omega]
    exact pa_new hT hr' r3 k4 hN hC
  · have eP : pr M' j = pr M (j - 1) := by
      unfold pr; rw [r1]; congr 2; omega
    rw [eP]
    have hb : (pr M (j - 1) + 31 ≤ (31 * ((M 78 64 + 1) % 20)).toNat ∨ (31 * ((M 78 64 + 1) % 20)).toNat + 31 ≤ pr M (j - 1)) := by
      have : (M 78 64 + 20 - (j - 1)) % 20 ≠ (M 78 64 + 1) % 20 := by omega
      unfold pr
      omega
    refine pa_fn (c := (31 * (M 78 63 - 1 - (j - 1))).toNat) hT hr' (fun k hk => r4 _ (by omega)) (fun k hk => ?_) (p4 (j - 1) (by omega) (by omega))
    rw [k3 _ (by omega)]
    congr 1
    omega
