/-- a byte of the text; -1 where there is none -/
def bte (T : Nat → Int) (e k : Int) : Int := if 0 ≤ k ∧ k < e then T k.toNat else -1
def skn (T : Nat → Int) (e : Int) : Nat → Int → Int
  | 0, p => p
  | n + 1, p => if bte T e p = 10 ∨ bte T e p = 32 then skn T e n (p + 1) else p
/-- behind the blanks -/
def sk (T : Nat → Int) (e p : Int) : Int := skn T e (e - p).toNat p
def Bt (T : Nat → Int) (e : Int) : Prop := (0 ≤ e ∧ e ≤ 1600) ∧ ∀ k : Nat, 0 ≤ T k ∧ T k ≤ 255
theorem bte_in {T : Nat → Int} {e k : Int} (h1 : 0 ≤ k) (h2 : k < e) : bte T e k = T k.toNat := if_pos ⟨h1, h2⟩
theorem bte_out {T : Nat → Int} {e k : Int} (h : ¬ (0 ≤ k ∧ k < e)) : bte T e k = -1 := if_neg h
theorem bte_rng {T : Nat → Int} {e : Int} (hB : Bt T e) (k : Int) : -1 ≤ bte T e k ∧ bte T e k ≤ 255 := by
  unfold bte
  split
  · have := hB.2 k.toNat
    omega
  · omega
theorem bte_lt {T : Nat → Int} {e k : Int} (h0 : 0 ≤ k) (h : bte T e k ≠ -1) : k < e := by
  by_cases c : k < e
  · exact c
  · exact absurd (bte_out (fun z => c z.2)) h
theorem skn_rng (T : Nat → Int) (e : Int) : ∀ (n : Nat) (p : Int), 0 ≤ p → p ≤ e → p ≤ skn T e n p ∧ skn T e n p ≤ e
  | 0, p, _, h => ⟨Int.le_refl _, h⟩
  | n + 1, p, h0, h => by
    unfold skn
    by_cases c : bte T e p = 10 ∨ bte T e p = 32
    · rw [if_pos c]
      have hl := bte_lt (T := T) (e := e) h0 (by omega)
      have := skn_rng T e n (p + 1) (by omega) (by omega)
      omega
    · rw [if_neg c]
      omega
theorem skn_nb (T : Nat → Int) (e : Int) : ∀ (n : Nat) (p : Int), 0 ≤ p → (e - p).toNat ≤ n → ¬ (bte T e (skn T e n p) = 10 ∨ bte T e (skn T e n p) = 32)
  | 0, p, h0, h => by
    unfold skn
    rw [bte_out (by omega)]
    omega
  | n + 1, p, h0, h => by
    unfold skn
    by_cases c : bte T e p = 10 ∨ bte T e p = 32
    · rw [if_pos c]
      exact skn_nb T e n (p + 1) (by omega) (by omega)
    · rw [if_neg c]
      exact c
theorem sk_rng (T : Nat → Int) {e p : Int} (h0 : 0 ≤ p) (h : p ≤ e) : p ≤ sk T e p ∧ sk T e p ≤ e := skn_rng T e _ p h0 h
theorem sk_nb (T : Nat → Int) {e p : Int} (h0 : 0 ≤ p) : ¬ (bte T e (sk T e p) = 10 ∨ bte T e (sk T e p) = 32) := skn_nb T e _ p h0 (Nat.le_refl _)
theorem sk_stop {T : Nat → Int} {e p : Int} (h : ¬ (bte T e p = 10 ∨ bte T e p = 32)) : sk T e p = p := by
  unfold sk
  cases (e - p).toNat with
  | zero => rfl
  | succ n => unfold skn; rw [if_neg h]
theorem sk_step {T : Nat → Int} {e p : Int} (h0 : 0 ≤ p) (h : bte T e p = 10 ∨ bte T e p = 32) : sk T e p = sk T e (p + 1) := by
  have hl := bte_lt (T := T) (e := e) h0 (by omega)
  unfold sk
  rw [show (e - p).toNat = (e - (p + 1)).toNat + 1 by omega]
  show (if bte T e p = 10 ∨ bte T e p = 32 then skn T e (e - (p + 1)).toNat (p + 1) else p) = _
  rw [if_pos h]
theorem sk_sk (T : Nat → Int) {e p : Int} (h0 : 0 ≤ p) : sk T e (sk T e p) = sk T e p := sk_stop (sk_nb T h0)
/-- the reader's place, as the cells of either side hold it -/
def Sc (T : Nat → Int) (e p g : Int) (M : Mm) : Prop := M 1 1 = e ∧ M 2 = T ∧ M 1 2 = p ∧ M 1 3 = g ∧ M 1 5 = 0 ∧ (0 ≤ p ∧ p ≤ e) ∧ (-1 ≤ g ∧ g ≤ 1600) ∧ M 1 6 = -1
theorem Sc.mv {T : Nat → Int} {e p g p' : Int} {M : Mm} (h : Sc T e p g M) (h1 : 0 ≤ p') (h2 : p' ≤ e) : Sc T e p' g (up M 1 2 p') := by
  obtain ⟨a1, a2, a3, a4, a5, a6, a7⟩ := h
  exact ⟨by rw [up_col (by decide)]; exact a1, by rw [up_row (by decide)]; exact a2, up_eq _ _ _ _, by rw [up_col (by decide)]; exact a4, by rw [up_col (by decide)]; exact a5, ⟨h1, h2⟩, a7.1, by rw [up_col (by decide)]; exact a7.2⟩
theorem Sc.mv2 {T : Nat → Int} {e p g p' : Int} {M : Mm} (hB : Bt T e) (h : Sc T e p g M) (h1 : 0 ≤ p') (h2 : p' ≤ e) : Sc T e p' p' (up (up M 1 2 p') 1 3 p') := by
  obtain ⟨a1, a2, a3, a4, a5, a6, a7⟩ := h
  have := hB.1
  exact ⟨by rw [up_col (by decide), up_col (by decide)]; exact a1, by rw [up_row (by decide), up_row (by decide)]; exact a2, by rw [up_col (by decide), up_eq], up_eq _ _ _ _, by rw [up_col (by decide), up_col (by decide)]; exact a5, ⟨h1, h2⟩, ⟨by omega, by omega⟩, by rw [up_col (by decide), up_col (by decide)]; exact a7.2⟩
theorem Sc.fr {T : Nat → Int} {e p g : Int} {M M' : Mm} {l : List (Nat × Nat)} (h : Sc T e p g M) (hF : Fr l M M') (hh : l.all (fun q => q.1 != 1 && q.1 != 2) = true) : Sc T e p g M' := by
  have hz : ∀ q ∈ l, q.1 ≠ 1 ∧ q.1 ≠ 2 := by
    intro q hq
    have := List.all_eq_true.mp hh q hq
    simpa only [Bool.and_eq_true, bne_iff_ne, ne_eq] using this
  have e1 : M' 1 = M 1 := hF.rw' 1 fun q hq => (hz q hq).1
  have e2 : M' 2 = M 2 := hF.rw' 2 fun q hq => (hz q hq).2
  unfold Sc
  rw [e1, e2]
  exact h
theorem e_bt {T : Nat → Int} {e p g v : Int} {M : Mm} (hB : Bt T e) (h : Sc T e p g M) (h1 : -1000000 ≤ v) (h2 : v ≤ 1000000) : f_Scan_byteAt v M = some (bte T e v, M) := by
  obtain ⟨a1, a2, -⟩ := h
  have := hB.1
  unfold f_Scan_byteAt
  rw [a1, a2, i32_id (x := v) (by omega) (by omega), i32_id (x := e) (by omega) (by omega), show ((1600 : Nat) : Int) = 1600 from rfl, i32_id (x := 1600) (by omega) (by omega)]
  by_cases c1 : v < 0
  · rw [if_pos c1, bte_out (by omega)]
  · rw [if_neg c1]
    by_cases c2 : e ≤ v
    · rw [if_pos c2, bte_out (by omega)]
    · rw [if_neg c2, if_neg (by omega), gd_t (by omega), bte_in (by omega) (by omega)]
theorem s_skip {T : Nat → Int} {e p g : Int} {M : Mm} (hB : Bt T e) (h : Sc T e p g M) : wq (f_Scan_skip M) (fun M' => Sc T e (sk T e p) g M' ∧ Fr [(1, 2)] M M') := by
  have hh := hB.1
  unfold f_Scan_skip f_Scan_skip_L5
  refine wq_lp (fun z => Sc T e z.1 g z.2 ∧ sk T e z.1 = sk T e p ∧ Fr [(1, 2)] M z.2) (fun z => (e - z.1).toNat) ?_ FU _ ?_ ?_
  · rintro kH ⟨v1, N⟩ ⟨q1, q2, q3⟩ hk
    have a1 : Sc T e v1 g N := q1
    have a2 : sk T e v1 = sk T e p := q2
    have a3 : Fr [(1, 2)] M N := q3
    clear q1 q2 q3
    have b := a1.2.2.2.2.2.1
    show wq (f_Scan_skip_B5 (fun v1 M => kH (v1, M)) v1 N) _
    unfold f_Scan_skip_B5
    rw [a1.1, a1.2.1, i32_id (x := v1) (by omega) (by omega), i32_id (x := e) (by omega) (by omega), show ((1600 : Nat) : Int) = 1600 from rfl, i32_id (x := 1600) (by omega) (by omega), i32_id (x := 10) (by omega) (by omega), i32_id (x := 32) (by omega) (by omega)]
    refine wq_e (by omega) (wq_if (fun c => ?_) (fun c => wq_e (by omega) (wq_g (by omega) ?_)))
    · rw [← a2, sk_stop (by rw [bte_out (by omega)]; omega)]
      exact wq_some ⟨a1, a3⟩
    · have hb := hB.2 v1.toNat
      have eb : bte T e v1 = T v1.toNat := bte_in (by omega) (by omega)
      rw [i32_id (x := T v1.toNat) (by omega) (by omega)]
      have hJ : (bte T e v1 = 10 ∨ bte T e v1 = 32) → wq (f_Scan_skip_J49 (fun v1 M => kH (v1, M)) v1 N) (fun M' => Sc T e (sk T e p) g M' ∧ Fr [(1, 2)] M M') := by
        intro hz
        unfold f_Scan_skip_J49
        exact wq_d (hk _ ⟨a1.mv (by omega) (by omega), by show sk T e (v1 + 1) = _; rw [← sk_step (by omega) hz, a2], a3.up (by simp)⟩ (show (e - (v1 + 1)).toNat < (e - v1).toNat by omega))
      refine wq_if (fun d => hJ (by omega)) (fun d => wq_g (by omega) (wq_if (fun f => hJ (by omega)) (fun f => ?_)))
      rw [← a2, sk_stop (by omega)]
      exact wq_some ⟨a1, a3⟩
  · refine ⟨?_, ?_, Fr.rf⟩
    · show Sc T e (M 1 2) g M
      rw [h.2.2.1]; exact h
    · show sk T e (M 1 2) = sk T e p
      rw [h.2.2.1]
  · have b := h.2.2.2.2.2.1
    show (e - M 1 2).toNat < 1000000000
    rw [h.2.2.1]
    omega
def scL : List (Nat × Nat) := [(1, 2), (1, 3), (1, 4), (1, 5), (1, 6)]
/-- a fault has been met -/
def Fb (T : Nat → Int) (e k pl : Int) (M : Mm) : Prop := M 1 1 = e ∧ M 2 = T ∧ M 1 5 = k ∧ M 1 6 = pl ∧ (1 ≤ k ∧ k ≤ 5) ∧ (-1 ≤ pl ∧ pl ≤ 1600)
theorem s_fail {T : Nat → Int} {e p g k pl : Int} {M : Mm} (h : Sc T e p g M) (hk : 1 ≤ k ∧ k ≤ 5) (hpl : -1 ≤ pl ∧ pl ≤ 1600) : wq (f_Scan_fail k pl M) (fun q => q.1 = 0 ∧ Fb T e k pl q.2 ∧ Fr scL M q.2) := by
  unfold f_Scan_fail
  rw [h.2.2.2.2.1]
  refine wq_e (fun z => z rfl) (wq_d (wq_d (wq_some ⟨rfl, ⟨?_, ?_, ?_, by show up (up M 1 5 k) 1 6 pl 1 6 = pl; rw [up_eq], hk, hpl⟩, (Fr.rf.up (by simp [scL])).up (by simp [scL])⟩)))
  · show up (up M 1 5 k) 1 6 pl 1 1 = e
    rw [up_col (by decide), up_col (by decide)]; exact h.1
  · show up (up M 1 5 k) 1 6 pl 2 = T
    rw [up_row (by decide), up_row (by decide)]; exact h.2.1
  · show up (up M 1 5 k) 1 6 pl 1 5 = k
    rw [up_col (by decide), up_eq]
theorem s_unex {T : Nat → Int} {e p g : Int} {M : Mm} (hB : Bt T e) (h : Sc T e p g M) : wq (f_Scan_unexpected M) (fun q => q.1 = 0 ∧ Fb T e 1 (sk T e p) q.2 ∧ Fr scL M q.2) := by
  unfold f_Scan_unexpected
  refine wq_V (s_skip hB h) (fun M1 ⟨a1, a2⟩ => ?_)
  have b := a1.2.2.2.2.2.1
  have hh := hB.1
  rw [a1.2.2.1]
  refine wq_I (s_fail a1 (by decide) (by omega)) (fun r M2 ⟨b1, b2, b3⟩ => ?_)
  have b1 : r = 0 := b1
  rw [b1]
  exact wq_g (Or.inl (by decide)) (wq_some ⟨rfl, b2, (a2.cov rfl : Fr scL M M1).tr b3⟩)
theorem s_takeSign {T : Nat → Int} {e p g c : Int} {M : Mm} (hB : Bt T e) (h : Sc T e p g M) (hc : 0 ≤ c ∧ c ≤ 255) : wq (f_Scan_takeSign c M) (fun q => ((q.1 = 1 ∧ bte T e (sk T e p) = c ∧ Sc T e (sk T e p + 1) g q.2) ∨ (q.1 = 0 ∧ bte T e (sk T e p) ≠ c ∧ Sc T e (sk T e p) g q.2)) ∧ Fr [(1, 2)] M q.2) := by
  unfold f_Scan_takeSign
  refine wq_V (s_skip hB h) (fun M1 ⟨a1, a2⟩ => ?_)
  have b := a1.2.2.2.2.2.1
  have hh := hB.1
  have hr := bte_rng hB (sk T e p)
  rw [a1.2.2.1, e_bt hB a1 (by omega) (by omega), bI_s, i32_id (x := bte T e (sk T e p)) (by omega) (by omega), i32_id (x := c) (by omega) (by omega)]
  refine wq_if (fun d => ?_) (fun d => wq_some ⟨Or.inr ⟨rfl, d, a1⟩, a2⟩)
  have hl := bte_lt (T := T) (e := e) b.1 (by omega)
  rw [a1.2.2.1]
  exact wq_d (wq_some ⟨Or.inl ⟨rfl, d, a1.mv (by omega) (by omega)⟩, a2.up (by simp)⟩)
theorem s_atSign {T : Nat → Int} {e p g c : Int} {M : Mm} (hB : Bt T e) (h : Sc T e p g M) (hc : 0 ≤ c ∧ c ≤ 255) : wq (f_Scan_atSign c M) (fun q => tf q.1 (bte T e (sk T e p) = c) ∧ Sc T e (sk T e p) g q.2 ∧ Fr [(1, 2)] M q.2) := by
  unfold f_Scan_atSign
  refine wq_V (s_skip hB h) (fun M1 ⟨a1, a2⟩ => ?_)
  have b := a1.2.2.2.2.2.1
  have hh := hB.1
  have hr := bte_rng hB (sk T e p)
  rw [a1.2.2.1, e_bt hB a1 (by omega) (by omega), bI_s, i32_id (x := bte T e (sk T e p)) (by omega) (by omega), i32_id (x := c) (by omega) (by omega)]
  exact wq_if (fun d => wq_some ⟨Or.inr ⟨rfl, d⟩, a1, a2⟩) (fun d => wq_some ⟨Or.inl ⟨rfl, by omega⟩, a1, a2⟩)
theorem s_needSign {T : Nat → Int} {e p g c : Int} {M : Mm} (hB : Bt T e) (h : Sc T e p g M) (hc : 0 ≤ c ∧ c ≤ 255) : wq (f_Scan_needSign c M) (fun q => ((q.1 = 1 ∧ bte T e (sk T e p) = c ∧ Sc T e (sk T e p + 1) g q.2) ∨ (q.1 = 0 ∧ bte T e (sk T e p) ≠ c ∧ Fb T e 1 (sk T e p) q.2)) ∧ Fr scL M q.2) := by
  unfold f_Scan_needSign
  refine wq_I (s_takeSign hB h hc) (fun r M1 ⟨a1, a2⟩ => ?_)
  have a2 : Fr [(1, 2)] M M1 := a2
  have b := h.2.2.2.2.2.1
  rcases a1 with ⟨b1, b2, b3⟩ | ⟨b1, b2, b3⟩
  · have b1 : r = 1 := b1
    rw [b1]
    exact wq_t (by decide) (wq_some ⟨Or.inl ⟨rfl, b2, b3⟩, a2.cov rfl⟩)
  · have b1 : r = 0 := b1
    have b3 : Sc T e (sk T e p) g M1 := b3
    rw [b1]
    refine wq_e (by decide) (wq_I (s_unex hB b3) (fun r2 M2 ⟨c1, c2, c3⟩ => ?_))
    have c1 : r2 = 0 := c1
    have c2 : Fb T e 1 (sk T e (sk T e p)) M2 := c2
    rw [sk_sk T b.1] at c2
    rw [c1]
    exact wq_t (by decide) (wq_some ⟨Or.inr ⟨rfl, b2, c2⟩, (a2.cov rfl : Fr scL M M1).tr c3⟩)
theorem s_atEnd {T : Nat → Int} {e p g : Int} {M : Mm} (hB : Bt T e) (h : Sc T e p g M) : wq (f_Scan_atEnd M) (fun q => tf q.1 (sk T e p = e) ∧ Sc T e (sk T e p) g q.2 ∧ Fr [(1, 2)] M q.2) := by
  unfold f_Scan_atEnd
  refine wq_V (s_skip hB h) (fun M1 ⟨a1, a2⟩ => ?_)
  have b := a1.2.2.2.2.2.1
  have hh := hB.1
  rw [a1.2.2.1, a1.1, i32_id (x := sk T e p) (by omega) (by omega), i32_id (x := e) (by omega) (by omega)]
  exact wq_if (fun d => wq_some ⟨Or.inr ⟨rfl, by omega⟩, a1, a2⟩) (fun d => wq_some ⟨Or.inl ⟨rfl, by omega⟩, a1, a2⟩)
def isLet (c : Int) : Prop := 97 ≤ c ∧ c ≤ 122
def isDig (c : Int) : Prop := 48 ≤ c ∧ c ≤ 57
theorem e_isLetC {c : Int} (M : Mm) (h1 : -1000 ≤ c) (h2 : c ≤ 1000) : wq (f_Scan_isLetter c M) (fun q => tf q.1 (isLet c) ∧ q.2 = M) := by
  unfold f_Scan_isLetter
  rw [i32_id (x := c) (by omega) (by omega), i32_id (x := 97) (by omega) (by omega), i32_id (x := 122) (by omega) (by omega)]
  exact wq_if (fun d => wq_some ⟨Or.inr ⟨rfl, fun z => by have := z.1; omega⟩, rfl⟩) (fun d => wq_if (fun f => wq_some ⟨Or.inr ⟨rfl, fun z => by have := z.2; omega⟩, rfl⟩) (fun f => wq_some ⟨Or.inl ⟨rfl, by omega, by omega⟩, rfl⟩))
theorem e_isDigC {c : Int} (M : Mm) (h1 : -1000 ≤ c) (h2 : c ≤ 1000) : wq (f_Scan_isDigit c M) (fun q => tf q.1 (isDig c) ∧ q.2 = M) := by
  unfold f_Scan_isDigit
  rw [i32_id (x := c) (by omega) (by omega), i32_id (x := 48) (by omega) (by omega), i32_id (x := 57) (by omega) (by omega)]
  exact wq_if (fun d => wq_some ⟨Or.inr ⟨rfl, fun z => by have := z.1; omega⟩, rfl⟩) (fun d => wq_if (fun f => wq_some ⟨Or.inr ⟨rfl, fun z => by have := z.2; omega⟩, rfl⟩) (fun f => wq_some ⟨Or.inl ⟨rfl, by omega, by omega⟩, rfl⟩))
/-- a word stands at a place -/
def hwB (T : Nat → Int) (e : Int) (w : List Int) (q : Int) : Prop := (∀ i : Nat, i < w.length → bte T e (q + i) = w.getD i 0) ∧ ¬ isLet (bte T e (q + w.length))
def hw (T : Nat → Int) (e : Int) (w : List Int) (p g : Int) : Prop := sk T e p ≠ g ∧ hwB T e w (sk T e p)
/-- the class's constant number w is this word -/
def cwd (w : Nat) (L : List Int) : Prop := stLen.getD w 0 = L.length ∧ (1 ≤ L.length ∧ L.length ≤ 6) ∧ (∀ i : Nat, i < L.length → sbyt w i = L.getD i 0 ∧ 97 ≤ L.getD i 0 ∧ L.getD i 0 ≤ 122)
theorem e_strlen {w : Nat} (M : Mm) (h : stLen.getD w 0 < 1000) : f_Str_length w M = some (((stLen.getD w 0 : Nat) : Int), M) := by
  unfold f_Str_length f_Str_coder
  rw [if_neg (by decide), bI_s]
  have := shr32_id (x := ((stLen.getD w 0 : Nat) : Int)) 0 (by omega) (by omega) (by decide)
  rw [show ((0 : Nat) : Int) = 0 from rfl] at this
  rw [this]
  simp
theorem e_charAt {w : Nat} {k : Int} (M : Mm) (h0 : 0 ≤ k) (h1 : k < ((stLen.getD w 0 : Nat) : Int)) (hl : stLen.getD w 0 < 1000) (hc : 0 ≤ sbyt w k.toNat ∧ sbyt w k.toNat ≤ 127) : f_Str_charAt w k M = some (sbyt w k.toNat, M) := by
  have e1 : f_Str_isLatin1 w M = some (1, M) := by
    unfold f_Str_isLatin1
    rw [if_neg (by decide), if_neg (by decide)]
  have e2 : f_Prec_checkIndex k (((stLen.getD w 0 : Nat) : Int)) M = some (k, M) := by
    unfold f_Prec_checkIndex
    rw [i32_id (x := k) (by omega) (by omega), i32_id (x := ((stLen.getD w 0 : Nat) : Int)) (by omega) (by omega), if_neg (by omega), if_pos (by omega)]
  have e3 : chr16 (and32 (sbyt w k.toNat) 255) = sbyt w k.toNat := by
    rw [and32_255, Int.emod_eq_of_lt hc.1 (by omega)]
    unfold chr16
    rw [i32_id (by omega) (by omega)]
    omega
  unfold f_Str_charAt
  rw [e1, bI_s, if_neg (by decide)]
  unfold f_Lat_charAt f_Str_checkIndex
  rw [e2, bI_s, bV_s, i32_id (x := k) (by omega) (by omega), gd_t (by omega), e3, i32_id (x := sbyt w k.toNat) (by omega) (by omega), gd_t (by omega), bI_s, i32_id (x := sbyt w k.toNat) (by omega) (by omega), gd_t (by omega)]
