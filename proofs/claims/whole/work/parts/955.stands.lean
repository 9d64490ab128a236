theorem loop_g {B : (Int × Mm → Option Mm) → Int × Mm → Option Mm} {kx : Mm → Option Mm} {Q : Mm → Prop} {M0 : Mm} {m : Nat} (Inv : Nat → Mm → Prop) (hm : m < 99999) (h0 : Inv 0 M0) (hs : ∀ kH (i : Nat) M, i < m → Inv i M → ∃ M', Inv (i + 1) M' ∧ B kH ((i : Int), M) = kH ((i : Int) + 1, M')) (he : ∀ kH M, Inv m M → B kH ((m : Int), M) = kx M) (hk : ∀ M, Inv m M → wq (kx M) Q) : wq (lp B FU (0, M0)) Q := by
  refine wq_lp (fun z => ∃ i : Nat, z.1 = (i : Int) ∧ i ≤ m ∧ Inv i z.2) (fun z => ((m : Int) + 1 - z.1).toNat) ?_ FU _ ⟨0, rfl, Nat.zero_le _, h0⟩ ?_
  · rintro kH ⟨v, N⟩ ⟨i, q1, q2, q3⟩ hg
    have q1 : v = (i : Int) := q1
    have q3 : Inv i N := q3
    subst q1
    by_cases c : i < m
    · obtain ⟨M', a1, a2⟩ := hs kH i N c q3
      rw [a2]
      refine hg _ ⟨i + 1, by push_cast; rfl, c, a1⟩ ?_
      show ((m : Int) + 1 - ((i : Int) + 1)).toNat < ((m : Int) + 1 - (i : Int)).toNat
      omega
    · have e : i = m := by omega
      subst e
      rw [he kH N q3]
      exact hk N q3
  · show ((m : Int) + 1 - 0).toNat < 1000000000
    omega
/-- a row whose lower half is copied up, so far -/
def Cpy (r b i : Nat) (M0 M : Mm) : Prop := (∀ k : Nat, M r k = if b ≤ k ∧ k < b + i then M0 r (k - b) else M0 r k) ∧ Fr [(r, 99999)] M0 M
theorem Cpy.st {r b i : Nat} {M0 M : Mm} (h : Cpy r b i M0 M) (hb : i < b) : Cpy r b (i + 1) M0 (up M r (b + i) (M r i)) := by
  refine ⟨fun k => ?_, h.2.up (Or.inr (by simp))⟩
  have e1 : M r i = M0 r i := by rw [h.1 i, if_neg (by omega)]
  rw [up_at]
  by_cases c : k = b + i
  · rw [if_pos ⟨rfl, c⟩, if_pos (by omega), e1, c, show b + i - b = i by omega]
  · rw [if_neg (fun z => c z.2), h.1 k]
    by_cases d : b ≤ k ∧ k < b + i
    · rw [if_pos d, if_pos (by omega)]
    · rw [if_neg d, if_neg (by omega)]
theorem Cpy.z {r b : Nat} {M : Mm} : Cpy r b 0 M M := ⟨fun k => by rw [if_neg (by omega)], Fr.rf⟩
section Stn
variable {M : Mm} {Q : Mm → Prop}
theorem st_98 {kx : Mm → Option Mm} (hk : ∀ N, Cpy 98 3 3 M N → wq (kx N) Q) : wq (f_M_stands_L2 kx FU (0, M)) Q := by
  unfold f_M_stands_L2
  refine loop_g (m := 3) (kx := kx) (fun i N => Cpy 98 3 i M N) (by decide) Cpy.z (fun kH i N hi h => ⟨_, h.st (by omega), ?_⟩) (fun kH N h => ?_) hk
  · show f_M_stands_B2 (fun v1 M => kH (v1, M)) kx (i : Int) N = _
    unfold f_M_stands_B2
    rw [i32_id (x := 3) (by decide) (by decide), i32_id (x := (i : Int)) (by omega) (by omega), if_neg (by omega), i32_id (x := 3 + (i : Int)) (by omega) (by omega), gd_t ⟨by omega, by omega⟩, gd_t ⟨by omega, by omega⟩, bd_s, show (3 + (i : Int)).toNat = 3 + i by omega, Int.toNat_natCast]
  · show f_M_stands_B2 (fun v1 M => kH (v1, M)) kx ((3 : Nat) : Int) N = _
    unfold f_M_stands_B2
    rw [if_pos (by decide)]
theorem st_99 {kx : Mm → Option Mm} (hk : ∀ N, Cpy 99 36 36 M N → wq (kx N) Q) : wq (f_M_stands_L29 kx FU (0, M)) Q := by
  unfold f_M_stands_L29
  refine loop_g (m := 36) (kx := kx) (fun i N => Cpy 99 36 i M N) (by decide) Cpy.z (fun kH i N hi h => ⟨_, h.st (by omega), ?_⟩) (fun kH N h => ?_) hk
  · show f_M_stands_B29 (fun v1 M => kH (v1, M)) kx (i : Int) N = _
    unfold f_M_stands_B29
    rw [i32_id (x := 36) (by decide) (by decide), i32_id (x := (i : Int)) (by omega) (by omega), if_neg (by omega), i32_id (x := 36 + (i : Int)) (by omega) (by omega), gd_t ⟨by omega, by omega⟩, gd_t ⟨by omega, by omega⟩, bd_s, show (36 + (i : Int)).toNat = 36 + i by omega, Int.toNat_natCast]
  · show f_M_stands_B29 (fun v1 M => kH (v1, M)) kx ((36 : Nat) : Int) N = _
    unfold f_M_stands_B29
    rw [if_pos (by decide)]
theorem st_100 {kx : Mm → Option Mm} (hk : ∀ N, Cpy 100 60 60 M N → wq (kx N) Q) : wq (f_M_stands_L58 kx FU (0, M)) Q := by
  unfold f_M_stands_L58
  refine loop_g (m := 60) (kx := kx) (fun i N => Cpy 100 60 i M N) (by decide) Cpy.z (fun kH i N hi h => ⟨_, h.st (by omega), ?_⟩) (fun kH N h => ?_) hk
  · show f_M_stands_B58 (fun v1 M => kH (v1, M)) kx (i : Int) N = _
    unfold f_M_stands_B58
    rw [i32_id (x := 60) (by decide) (by decide), i32_id (x := (i : Int)) (by omega) (by omega), if_neg (by omega), i32_id (x := 60 + (i : Int)) (by omega) (by omega), gd_t ⟨by omega, by omega⟩, gd_t ⟨by omega, by omega⟩, bd_s, show (60 + (i : Int)).toNat = 60 + i by omega, Int.toNat_natCast]
  · show f_M_stands_B58 (fun v1 M => kH (v1, M)) kx ((60 : Nat) : Int) N = _
    unfold f_M_stands_B58
    rw [if_pos (by decide)]
theorem st_101 {kx : Mm → Option Mm} (hk : ∀ N, Cpy 101 18 18 M N → wq (kx N) Q) : wq (f_M_stands_L87 kx FU (0, M)) Q := by
  unfold f_M_stands_L87
  refine loop_g (m := 18) (kx := kx) (fun i N => Cpy 101 18 i M N) (by decide) Cpy.z (fun kH i N hi h => ⟨_, h.st (by omega), ?_⟩) (fun kH N h => ?_) hk
  · show f_M_stands_B87 (fun v1 M => kH (v1, M)) kx (i : Int) N = _
    unfold f_M_stands_B87
    rw [i32_id (x := 18) (by decide) (by decide), i32_id (x := (i : Int)) (by omega) (by omega), if_neg (by omega), i32_id (x := 18 + (i : Int)) (by omega) (by omega), gd_t ⟨by omega, by omega⟩, gd_t ⟨by omega, by omega⟩, bd_s, show (18 + (i : Int)).toNat = 18 + i by omega, Int.toNat_natCast]
  · show f_M_stands_B87 (fun v1 M => kH (v1, M)) kx ((18 : Nat) : Int) N = _
    unfold f_M_stands_B87
    rw [if_pos (by decide)]
/-- one row of two that are copied -/
def Cpr (r b i : Nat) (M0 M : Mm) : Prop := ∀ k : Nat, M r k = if b ≤ k ∧ k < b + i then M0 r (k - b) else M0 r k
theorem Cpr.st {r b i : Nat} {M0 M : Mm} (h : Cpr r b i M0 M) (hb : i < b) : Cpr r b (i + 1) M0 (up M r (b + i) (M r i)) := by
  intro k
  have e1 : M r i = M0 r i := by rw [h i, if_neg (by omega)]
  rw [up_at]
  by_cases c : k = b + i
  · rw [if_pos ⟨rfl, c⟩, if_pos (by omega), e1, c, show b + i - b = i by omega]
  · rw [if_neg (fun z => c z.2), h k]
    by_cases d : b ≤ k ∧ k < b + i
    · rw [if_pos d, if_pos (by omega)]
    · rw [if_neg d, if_neg (by omega)]
theorem Cpr.eq {r b i : Nat} {M0 M M' : Mm} (h : Cpr r b i M0 M) (e : M' r = M r) : Cpr r b i M0 M' := fun k => by rw [e]; exact h k
theorem st_104 {kx : Mm → Option Mm} (hk : ∀ N, Cpr 104 12 12 M N → Cpr 105 12 12 M N → Fr [(104, 99999), (105, 99999)] M N → wq (kx N) Q) : wq (f_M_stands_L116 kx FU (0, M)) Q := by
  unfold f_M_stands_L116
  refine loop_g (m := 12) (kx := kx) (fun i N => Cpr 104 12 i M N ∧ Cpr 105 12 i M N ∧ Fr [(104, 99999), (105, 99999)] M N) (by decide) ⟨fun k => by rw [if_neg (by omega)], fun k => by rw [if_neg (by omega)], Fr.rf⟩ (fun kH i N hi h => ?_) (fun kH N h => ?_) (fun N h => hk N h.1 h.2.1 h.2.2)
  · obtain ⟨h1, h2, h3⟩ := h
    have a2 : Cpr 105 12 i M (up N 104 (12 + i) (N 104 i)) := h2.eq (up_row (by decide))
    refine ⟨up (up N 104 (12 + i) (N 104 i)) 105 (12 + i) (up N 104 (12 + i) (N 104 i) 105 i), ⟨(h1.st (by omega)).eq (up_row (by decide)), a2.st (by omega), (h3.up (Or.inr (by simp))).up (Or.inr (by simp))⟩, ?_⟩
    show f_M_stands_B116 (fun v1 M => kH (v1, M)) kx (i : Int) N = _
    unfold f_M_stands_B116
    rw [i32_id (x := 12) (by decide) (by decide), i32_id (x := (i : Int)) (by omega) (by omega), if_neg (by omega), i32_id (x := 12 + (i : Int)) (by omega) (by omega), gd_t ⟨by omega, by omega⟩, gd_t ⟨by omega, by omega⟩, bd_s, gd_t ⟨by omega, by omega⟩, gd_t ⟨by omega, by omega⟩, bd_s, show (12 + (i : Int)).toNat = 12 + i by omega, Int.toNat_natCast]
  · show f_M_stands_B116 (fun v1 M => kH (v1, M)) kx ((12 : Nat) : Int) N = _
    unfold f_M_stands_B116
    rw [if_pos (by decide)]
theorem st_102 {kx : Mm → Option Mm} {m : Nat} (hm : M 78 35 = (m : Int)) (hm2 : m ≤ 1600) (hk : ∀ N, Cpy 102 1600 m M N → wq (kx N) Q) : wq (f_M_stands_L160 kx FU (0, M)) Q := by
  unfold f_M_stands_L160
  refine loop_g (m := m) (kx := kx) (fun i N => Cpy 102 1600 i M N) (by omega) Cpy.z (fun kH i N hi h => ⟨_, h.st (by omega), ?_⟩) (fun kH N h => ?_) hk
  · show f_M_stands_B160 (fun v1 M => kH (v1, M)) kx (i : Int) N = _
    unfold f_M_stands_B160
    rw [h.2.row 78 rfl, hm, i32_id (x := (m : Int)) (by omega) (by omega), i32_id (x := (i : Int)) (by omega) (by omega), if_neg (by omega), i32_id (x := 1600 + (i : Int)) (by omega) (by omega), gd_t ⟨by omega, by omega⟩, gd_t ⟨by omega, by omega⟩, bd_s, show (1600 + (i : Int)).toNat = 1600 + i by omega, Int.toNat_natCast]
  · show f_M_stands_B160 (fun v1 M => kH (v1, M)) kx (m : Int) N = _
    unfold f_M_stands_B160
    rw [h.2.row 78 rfl, hm, if_pos (Int.le_refl _)]
theorem st_108 {kx : Mm → Option Mm} (hk : ∀ N, (∀ k : Nat, k < 31 → N 108 k = 0) → Fr [(108, 99999)] M N → wq (kx N) Q) : wq (f_M_stands_L192 kx FU (0, M)) Q := by
  unfold f_M_stands_L192
  refine loop_g (m := 31) (kx := kx) (fun i N => (∀ k : Nat, k < i → N 108 k = 0) ∧ Fr [(108, 99999)] M N) (by decide) ⟨fun k hk => absurd hk (Nat.not_lt_zero _), Fr.rf⟩ (fun kH i N hi h => ⟨up N 108 i 0, ⟨fun k hk => ?_, h.2.up (Or.inr (by simp))⟩, ?_⟩) (fun kH N h => ?_) (fun N h => hk N h.1 h.2)
  · rw [up_at]
    by_cases c : k = i
    · rw [if_pos ⟨rfl, c⟩]
    · rw [if_neg (fun z => c z.2)]
      exact h.1 k (by omega)
  · show f_M_stands_B192 (fun v1 M => kH (v1, M)) kx (i : Int) N = _
    unfold f_M_stands_B192
    rw [i32_id (x := 31) (by decide) (by decide), i32_id (x := (i : Int)) (by omega) (by omega), if_neg (by omega), gd_t ⟨by omega, by omega⟩, bd_s, Int.toNat_natCast]
  · show f_M_stands_B192 (fun v1 M => kH (v1, M)) kx ((31 : Nat) : Int) N = _
    unfold f_M_stands_B192
    rw [if_pos (by decide)]
theorem st_s {kx : Mm → Option Mm} {m : Nat} (hm : M 98 1 = (m : Int)) (hm2 : m ≤ 12) (hk : ∀ N, (∀ s : Nat, s < m → N 108 (1 + s) = M 100 (5 * s + 4)) → (∀ k : Nat, (k = 0 ∨ m < k) → N 108 k = M 108 k) → Fr [(108, 99999)] M N → wq (kx N) Q) : wq (f_M_stands_L223 kx FU (0, M)) Q := by
  unfold f_M_stands_L223
  refine loop_g (m := m) (kx := kx) (fun i N => (∀ s : Nat, s < i → N 108 (1 + s) = M 100 (5 * s + 4)) ∧ (∀ k : Nat, (k = 0 ∨ i < k) → N 108 k = M 108 k) ∧ Fr [(108, 99999)] M N) (by omega) ⟨fun k hk => absurd hk (Nat.not_lt_zero _), fun _ _ => rfl, Fr.rf⟩ (fun kH i N hi h => ⟨up N 108 (1 + i) (N 100 (5 * i + 4)), ⟨fun k hk => ?_, fun k hk => ?_, h.2.2.up (Or.inr (by simp))⟩, ?_⟩) (fun kH N h => ?_) (fun N h => hk N h.1 h.2.1 h.2.2)
  · rw [up_at]
    by_cases c : k = i
    · rw [if_pos ⟨rfl, by omega⟩, c, h.2.2.row 100 rfl]
    · rw [if_neg (by omega)]
      exact h.1 k (by omega)
  · rw [up_col (by omega)]
    exact h.2.1 k (by omega)
  · show f_M_stands_B223 (fun v1 M => kH (v1, M)) kx (i : Int) N = _
    unfold f_M_stands_B223
    rw [h.2.2.row 98 rfl, hm, i32_id (x := (m : Int)) (by omega) (by omega), i32_id (x := (i : Int)) (by omega) (by omega), if_neg (by omega), i32_id (x := 5 * (i : Int) + 4) (by omega) (by omega), i32_id (x := 1 + (i : Int)) (by omega) (by omega), gd_t ⟨by omega, by omega⟩, gd_t ⟨by omega, by omega⟩, bd_s, show (5 * (i : Int) + 4).toNat = 5 * i + 4 by omega, show (1 + (i : Int)).toNat = 1 + i by omega]
  · show f_M_stands_B223 (fun v1 M => kH (v1, M)) kx (m : Int) N = _
    unfold f_M_stands_B223
    rw [h.2.2.row 98 rfl, hm, if_pos (Int.le_refl _)]
theorem st_w {kx : Mm → Option Mm} {m : Nat} (hm : M 98 2 = (m : Int)) (hm2 : m ≤ 6) (hk : ∀ N, (∀ w : Nat, w < m → N 108 (13 + 3 * w) = M 101 (3 * w + 1) ∧ N 108 (14 + 3 * w) = M 101 (3 * w + 2)) → (∀ k : Nat, (k < 13 ∨ ∃ w, k = 15 + 3 * w) → N 108 k = M 108 k) → Fr [(108, 99999)] M N → wq (kx N) Q) : wq (f_M_stands_L259 kx FU (0, M)) Q := by
  unfold f_M_stands_L259
  refine loop_g (m := m) (kx := kx) (fun i N => (∀ w : Nat, w < i → N 108 (13 + 3 * w) = M 101 (3 * w + 1) ∧ N 108 (14 + 3 * w) = M 101 (3 * w + 2)) ∧ (∀ k : Nat, (k < 13 ∨ ∃ w, k = 15 + 3 * w) → N 108 k = M 108 k) ∧ Fr [(108, 99999)] M N) (by omega) ⟨fun k hk => absurd hk (Nat.not_lt_zero _), fun _ _ => rfl, Fr.rf⟩ (fun kH i N hi h => ⟨up (up N 108 (13 + 3 * i) (N 101 (3 * i + 1))) 108 (14 + 3 * i) (up N 108 (13 + 3 * i) (N 101 (3 * i + 1)) 101 (3 * i + 2)), ⟨fun k hk => ?_, fun k hk => ?_, (h.2.2.up (Or.inr (by simp))).up (Or.inr (by simp))⟩, ?_⟩) (fun kH N h => ?_) (fun N h => hk N h.1 h.2.1 h.2.2)
  · by_cases c : k = i
    · subst c
      refine ⟨?_, ?_⟩
      · rw [up_col (by omega), up_eq, h.2.2.row 101 rfl]
      · rw [up_eq, up_row (by decide), h.2.2.row 101 rfl]
    · obtain ⟨z1, z2⟩ := h.1 k (by omega)
      exact ⟨by rw [up_col (by omega), up_col (by omega)]; exact z1, by rw [up_col (by omega), up_col (by omega)]; exact z2⟩
  · have hne : k ≠ 14 + 3 * i ∧ k ≠ 13 + 3 * i := by
      rcases hk with z | ⟨w, z⟩
      · omega
      · omega
    rw [up_col hne.1, up_col hne.2]
    exact h.2.1 k hk
  · show f_M_stands_B259 (fun v1 M => kH (v1, M)) kx (i : Int) N = _
    unfold f_M_stands_B259
    rw [h.2.2.row 98 rfl, hm, i32_id (x := (m : Int)) (by omega) (by omega), i32_id (x := (i : Int)) (by omega) (by omega), if_neg (by omega), i32_id (x := 3 * (i : Int) + 1) (by omega) (by omega), i32_id (x := 13 + 3 * (i : Int)) (by omega) (by omega), i32_id (x := 3 * (i : Int) + 2) (by omega) (by omega), i32_id (x := 13 + 3 * (i : Int) + 1) (by omega) (by omega), gd_t ⟨by omega, by omega⟩, gd_t ⟨by omega, by omega⟩, bd_s, gd_t ⟨by omega, by omega⟩, gd_t ⟨by omega, by omega⟩, bd_s, show (3 * (i : Int) + 1).toNat = 3 * i + 1 by omega, show (13 + 3 * (i : Int)).toNat = 13 + 3 * i by omega, show (3 * (i : Int) + 2).toNat = 3 * i + 2 by omega, show (13 + 3 * (i : Int) + 1).toNat = 14 + 3 * i by omega]
  · show f_M_stands_B259 (fun v1 M => kH (v1, M)) kx (m : Int) N = _
    unfold f_M_stands_B259
    rw [h.2.2.row 98 rfl, hm, if_pos (Int.le_refl _)]
end Stn
