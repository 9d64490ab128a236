/-- the reference's reader -/
def Sm (T : Nat → Int) (e p g : Int) (M : Mm) : Prop := M 78 3 = e ∧ M 79 = T ∧ M 78 2 = p ∧ M 78 4 = g ∧ M 78 5 = 0 ∧ (0 ≤ p ∧ p ≤ e) ∧ (-1 ≤ g ∧ g ≤ 1600) ∧ M 78 6 = -1
def Fm (T : Nat → Int) (e k pl : Int) (M : Mm) : Prop := M 78 3 = e ∧ M 79 = T ∧ M 78 5 = k ∧ M 78 6 = pl ∧ (1 ≤ k ∧ k ≤ 5) ∧ (-1 ≤ pl ∧ pl ≤ 1600)
def smL : List (Nat × Nat) := [(78, 2), (78, 4), (78, 5), (78, 6)]
def smOk (l : List (Nat × Nat)) : Bool := l.all fun p => (p.1 != 78 || (p.2 != 2 && (p.2 != 3 && (p.2 != 4 && (p.2 != 5 && (p.2 != 6 && p.2 != 99999)))))) && p.1 != 79
theorem sm_cells {M M' : Mm} {l : List (Nat × Nat)} (hF : Fr l M M') (hh : smOk l = true) : M' 78 2 = M 78 2 ∧ M' 78 3 = M 78 3 ∧ M' 78 4 = M 78 4 ∧ M' 78 5 = M 78 5 ∧ M' 78 6 = M 78 6 ∧ M' 79 = M 79 := by
  have hz : ∀ q ∈ l, (¬ q.1 = 78 ∨ (q.2 ≠ 2 ∧ q.2 ≠ 3 ∧ q.2 ≠ 4 ∧ q.2 ≠ 5 ∧ q.2 ≠ 6 ∧ q.2 ≠ 99999)) ∧ q.1 ≠ 79 := by
    intro q hq
    have := List.all_eq_true.mp hh q hq
    simpa only [Bool.and_eq_true, Bool.or_eq_true, bne_iff_ne, ne_eq] using this
  have h1 : ∀ k, (k = 2 ∨ k = 3 ∨ k = 4 ∨ k = 5 ∨ k = 6) → M' 78 k = M 78 k := by
    intro k hk
    refine hF 78 k (fun q hq z => ?_)
    rcases (hz q hq).1 with w | ⟨w1, w2, w3, w4, w5, w6⟩
    · exact w z.1
    · rcases z.2 with y | y
      · rcases hk with u | u | u | u | u <;> omega
      · exact w6 y
  exact ⟨h1 2 (by simp), h1 3 (by simp), h1 4 (by simp), h1 5 (by simp), h1 6 (by simp), hF.rw' 79 fun q hq => (hz q hq).2⟩
theorem Sm.fr {T : Nat → Int} {e p g : Int} {M M' : Mm} {l : List (Nat × Nat)} (h : Sm T e p g M) (hF : Fr l M M') (hh : smOk l = true) : Sm T e p g M' := by
  obtain ⟨e1, e2, e3, e4, e5, e6⟩ := sm_cells hF hh
  unfold Sm
  rw [e1, e2, e3, e4, e5, e6]
  exact h
theorem Fm.fr {T : Nat → Int} {e p g : Int} {M M' : Mm} {l : List (Nat × Nat)} (h : Fm T e p g M) (hF : Fr l M M') (hh : smOk l = true) : Fm T e p g M' := by
  obtain ⟨e1, e2, e3, e4, e5, e6⟩ := sm_cells hF hh
  unfold Fm
  rw [e2, e4, e5, e6]
  exact h
theorem Sm.mv {T : Nat → Int} {e p g p' : Int} {M : Mm} (h : Sm T e p g M) (h1 : 0 ≤ p') (h2 : p' ≤ e) : Sm T e p' g (up M 78 2 p') := by
  obtain ⟨a1, a2, a3, a4, a5, a6, a7⟩ := h
  exact ⟨by rw [up_col (by decide)]; exact a1, by rw [up_row (by decide)]; exact a2, up_eq _ _ _ _, by rw [up_col (by decide)]; exact a4, by rw [up_col (by decide)]; exact a5, ⟨h1, h2⟩, a7.1, by rw [up_col (by decide)]; exact a7.2⟩
theorem Sm.gl {T : Nat → Int} {e p g : Int} {M : Mm} (hB : Bt T e) (h : Sm T e p g M) : Sm T e p p (up M 78 4 p) := by
  obtain ⟨a1, a2, a3, a4, a5, a6, a7⟩ := h
  have := hB.1
  exact ⟨by rw [up_col (by decide)]; exact a1, by rw [up_row (by decide)]; exact a2, by rw [up_col (by decide)]; exact a3, up_eq _ _ _ _, by rw [up_col (by decide)]; exact a5, a6, ⟨by omega, by omega⟩, by rw [up_col (by decide)]; exact a7.2⟩
theorem s_look {T : Nat → Int} {e p g : Int} {M : Mm} (hB : Bt T e) (h : Sm T e p g M) : wq (f_M_look M) (fun q => q.1 = bte T e (sk T e p) ∧ Sm T e (sk T e p) g q.2 ∧ Fr [(78, 2)] M q.2) := by
  have hh := hB.1
  unfold f_M_look f_M_look_L0
  refine wq_lp (fun N => ∃ p', Sm T e p' g N ∧ sk T e p' = sk T e p ∧ Fr [(78, 2)] M N) (fun N => (e - N 78 2).toNat) ?_ FU _ ?_ ?_
  · rintro kH N ⟨p', q1, q2, q3⟩ hk
    have b := q1.2.2.2.2.2.1
    have hb := hB.2 p'.toNat
    have hx : ¬ (bte T e p' = 10 ∨ bte T e p' = 32) → wq (f_M_look_J52 N) (fun q => q.1 = bte T e (sk T e p) ∧ Sm T e (sk T e p) g q.2 ∧ Fr [(78, 2)] M q.2) := by
      intro hz
      rw [← q2, sk_stop hz]
      unfold f_M_look_J52
      rw [q1.1, q1.2.2.1, q1.2.1, i32_id (x := p') (by omega) (by omega), i32_id (x := e) (by omega) (by omega)]
      refine wq_if (fun c => wq_some ⟨(bte_out (by omega)).symm, q1, q3⟩) (fun c => wq_g (by omega) (wq_some ⟨(bte_in (by omega) (by omega)).symm, q1, q3⟩))
    have hJ : (bte T e p' = 10 ∨ bte T e p' = 32) → p' < e → wq (f_M_look_J39 kH (fun M2 => f_M_look_J52 M2) N) (fun q => q.1 = bte T e (sk T e p) ∧ Sm T e (sk T e p) g q.2 ∧ Fr [(78, 2)] M q.2) := by
      intro hz hl
      unfold f_M_look_J39
      rw [q1.2.2.1]
      refine wq_d (hk _ ⟨p' + 1, q1.mv (by omega) (by omega), by rw [← sk_step (by omega) hz, q2], q3.up (by simp)⟩ ?_)
      show (e - up N 78 2 (p' + 1) 78 2).toNat < (e - N 78 2).toNat
      rw [up_eq, q1.2.2.1]
      omega
    show wq (f_M_look_B0 kH (fun M2 => f_M_look_J52 M2) N) _
    unfold f_M_look_B0
    rw [q1.1, q1.2.2.1, q1.2.1, i32_id (x := p') (by omega) (by omega), i32_id (x := e) (by omega) (by omega), i32_id (x := 10) (by omega) (by omega), i32_id (x := 32) (by omega) (by omega), i32_id (x := T p'.toNat) (by omega) (by omega)]
    refine wq_if (fun c => hx (by rw [bte_out (by omega)]; omega)) (fun c => ?_)
    have eb : bte T e p' = T p'.toNat := bte_in (by omega) (by omega)
    refine wq_g (by omega) (wq_if (fun d => hJ (by omega) (by omega)) (fun d => wq_g (by omega) (wq_if (fun f => hx (by omega)) (fun f => hJ (by omega) (by omega)))))
  · exact ⟨p, h, rfl, Fr.rf⟩
  · have b0 := h.2.2.2.2.2.1
    show (e - M 78 2).toNat < 1000000000
    rw [h.2.2.1]
    omega
theorem e_isLetM {c : Int} (M : Mm) (h1 : -1000 ≤ c) (h2 : c ≤ 1000) : wq (f_M_isLetter c M) (fun q => tf q.1 (isLet c) ∧ q.2 = M) := by
  unfold f_M_isLetter
  rw [i32_id (x := c) (by omega) (by omega), i32_id (x := 97) (by omega) (by omega), i32_id (x := 122) (by omega) (by omega)]
  exact wq_if (fun d => wq_some ⟨Or.inr ⟨rfl, fun z => by have := z.1; omega⟩, rfl⟩) (fun d => wq_if (fun f => wq_some ⟨Or.inr ⟨rfl, fun z => by have := z.2; omega⟩, rfl⟩) (fun f => wq_some ⟨Or.inl ⟨rfl, by omega, by omega⟩, rfl⟩))
theorem e_isDigM {c : Int} (M : Mm) (h1 : -1000 ≤ c) (h2 : c ≤ 1000) : wq (f_M_isDigit c M) (fun q => tf q.1 (isDig c) ∧ q.2 = M) := by
  unfold f_M_isDigit
  rw [i32_id (x := c) (by omega) (by omega), i32_id (x := 48) (by omega) (by omega), i32_id (x := 57) (by omega) (by omega)]
  exact wq_if (fun d => wq_some ⟨Or.inr ⟨rfl, fun z => by have := z.1; omega⟩, rfl⟩) (fun d => wq_if (fun f => wq_some ⟨Or.inr ⟨rfl, fun z => by have := z.2; omega⟩, rfl⟩) (fun f => wq_some ⟨Or.inl ⟨rfl, by omega, by omega⟩, rfl⟩))
theorem s_mfail {T : Nat → Int} {e p g k pl : Int} {M : Mm} (h : Sm T e p g M) (hk : 1 ≤ k ∧ k ≤ 5) (hpl : -1 ≤ pl ∧ pl ≤ 1600) : wq (f_M_fail k pl M) (fun M' => Fm T e k pl M' ∧ Fr smL M M') := by
  unfold f_M_fail
  rw [h.2.2.2.2.1]
  refine wq_t rfl (wq_d (wq_d (wq_some ⟨⟨?_, ?_, ?_, ?_, hk, hpl⟩, (Fr.rf.up (by simp [smL])).up (by simp [smL])⟩)))
  · rw [up_col (by decide), up_col (by decide)]; exact h.1
  · rw [up_row (by decide), up_row (by decide)]; exact h.2.1
  · rw [up_col (by decide), up_eq]
  · rw [up_eq]
/-- the reference's row r is this word -/
def rwd (r : Nat) (L : List Int) : Prop := slen r = L.length ∧ (1 ≤ L.length ∧ L.length ≤ 6) ∧ (∀ i : Nat, i < L.length → ((ptr r i : Nat) : Int) = L.getD i 0 ∧ 97 ≤ L.getD i 0 ∧ L.getD i 0 ≤ 122)
theorem s_isHere {T : Nat → Int} {e p g : Int} {M : Mm} {r : Nat} {L : List Int} (hB : Bt T e) (h : Sm T e p g M) (hL : rwd r L) : wq (f_M_isHere r M) (fun q => tf q.1 (hw T e L p g) ∧ Sm T e (sk T e p) g q.2 ∧ Fr [(78, 2)] M q.2) := by
  obtain ⟨l1, l2, l3⟩ := hL
  have hh := hB.1
  unfold f_M_isHere
  rw [h.2.2.2.2.1]
  refine wq_e (fun z => z rfl) (wq_I (s_look hB h) (fun r2 M1 ⟨a0, a1, a2⟩ => ?_))
  have a0 : r2 = bte T e (sk T e p) := a0
  have a1 : Sm T e (sk T e p) g M1 := a1
  have a2 : Fr [(78, 2)] M M1 := a2
  have b := a1.2.2.2.2.2.1
  have bg := a1.2.2.2.2.2.2.1
  have hr := bte_rng hB (sk T e p)
  rw [a0]
  refine wq_I (e_isLetM M1 (by omega) (by omega)) (fun r4 M3 ⟨b1, b2⟩ => ?_)
  have b2 : M3 = M1 := b2
  rw [b2]
  rcases b1 with ⟨b1, b3⟩ | ⟨b1, b3⟩
  · have b1 : r4 = 1 := b1
    rw [b1, a1.2.2.1, a1.2.2.2.1, i32_id (x := sk T e p) (by omega) (by omega), i32_id (x := g) (by omega) (by omega)]
    refine wq_e (by decide) (wq_if (fun c => ?_) (fun c => wq_some ⟨Or.inr ⟨rfl, fun z => c z.1⟩, a1, a2⟩))
    unfold f_M_isHere_L35
    refine wq_lp (fun z => (sk T e p ≤ z.1 ∧ z.1 ≤ e) ∧ (∀ x : Int, sk T e p ≤ x → x < z.1 → isLet (bte T e x)) ∧ z.2 = M1) (fun z => (e - z.1).toNat) ?_ FU _ ?_ ?_
    · rintro kH ⟨v2, N⟩ ⟨q1, q2, q3⟩ hk
      have c1 : sk T e p ≤ v2 ∧ v2 ≤ e := q1
      have c2 : ∀ x : Int, sk T e p ≤ x → x < v2 → isLet (bte T e x) := q2
      have c3 : N = M1 := q3
      clear q1 q2 q3
      subst c3
      have hb := hB.2 v2.toNat
      have hx : ¬ isLet (bte T e v2) → wq (f_M_isHere_J61 r v2 N) (fun q => tf q.1 (hw T e L p g) ∧ Sm T e (sk T e p) g q.2 ∧ Fr [(78, 2)] M q.2) := by
        intro hz
        unfold f_M_isHere_J61
        rw [a1.2.2.1, l1, i32_id (x := v2 - sk T e p) (by omega) (by omega), i32_id (x := (L.length : Int)) (by omega) (by omega)]
        refine wq_if (fun d => ?_) (fun d => wq_some ⟨Or.inr ⟨rfl, fun z => ?_⟩, a1, a2⟩)
        · unfold f_M_isHere_L76
          refine wq_lp (fun z => (0 ≤ z.1 ∧ z.1 ≤ (L.length : Int)) ∧ (∀ i : Nat, (i : Int) < z.1 → bte T e (sk T e p + i) = L.getD i 0) ∧ z.2 = N) (fun z => ((L.length : Int) - z.1).toNat) ?_ FU _ ?_ ?_
          · rintro kG ⟨v3, K⟩ ⟨p1, p2, p3⟩ hg
            have d1 : 0 ≤ v3 ∧ v3 ≤ (L.length : Int) := p1
            have d2 : ∀ i : Nat, (i : Int) < v3 → bte T e (sk T e p + i) = L.getD i 0 := p2
            have d3 : K = N := p3
            clear p1 p2 p3
            subst d3
            show wq (f_M_isHere_B76 r (fun v3 M => kG (v3, M)) v3 K) _
            unfold f_M_isHere_B76
            rw [l1, i32_id (x := (L.length : Int)) (by omega) (by omega), i32_id (x := v3) (by omega) (by omega)]
            refine wq_if (fun f => wq_some ⟨Or.inl ⟨rfl, c, fun i hi => d2 i (by omega), by rw [show sk T e p + (L.length : Int) = v2 by omega]; exact hz⟩, a1, a2⟩) (fun f => ?_)
            have hl := l3 v3.toNat (by omega)
            have hb2 := hB.2 (sk T e p + v3).toNat
            rw [a1.2.2.1, a1.2.1, hl.1, i32_id (x := sk T e p + v3) (by omega) (by omega), i32_id (x := T (sk T e p + v3).toNat) (by omega) (by omega), i32_id (x := L.getD v3.toNat 0) (by omega) (by omega)]
            have eb : bte T e (sk T e p + v3) = T (sk T e p + v3).toNat := bte_in (by omega) (by omega)
            refine wq_g (by omega) (wq_g (by omega) (wq_if (fun u => hg _ ⟨⟨show 0 ≤ v3 + 1 by omega, show v3 + 1 ≤ (L.length : Int) by omega⟩, fun i hi => ?_, rfl⟩ (show ((L.length : Int) - (v3 + 1)).toNat < ((L.length : Int) - v3).toNat by omega)) (fun u => wq_some ⟨Or.inr ⟨rfl, fun z => u ?_⟩, a1, a2⟩)))
            · have hi : (i : Int) < v3 + 1 := hi
              by_cases ei : (i : Int) = v3
              · rw [ei, eb, u, show v3.toNat = i by omega]
              · exact d2 i (by omega)
            · have := z.2.1 v3.toNat (by omega)
              rw [show ((v3.toNat : Nat) : Int) = v3 by omega, eb] at this
              exact this
          · exact ⟨⟨Int.le_refl _, by show (0 : Int) ≤ _; omega⟩, fun i hi => absurd hi (by show ¬ (i : Int) < 0; omega), rfl⟩
          · show ((L.length : Int) - 0).toNat < 1000000000
            omega
        · have hle := hwB_lt b.1 l2.1 (fun i hi => (l3 i hi).2) z.2
          rcases Int.lt_trichotomy (v2 - sk T e p) (L.length : Int) with y | y | y
          · have h1 := z.2.1 (v2 - sk T e p).toNat (by omega)
            have h2 := (l3 (v2 - sk T e p).toNat (by omega)).2
            rw [show sk T e p + (((v2 - sk T e p).toNat : Nat) : Int) = v2 by omega] at h1
            exact hz ⟨by omega, by omega⟩
          · exact d y
          · exact z.2.2 (c2 _ (by omega) (by omega))
      show wq (f_M_isHere_B35 r (fun v2 M => kH (v2, M)) _ v2 N) _
      unfold f_M_isHere_B35
      rw [a1.1, a1.2.1, i32_id (x := e) (by omega) (by omega), i32_id (x := v2) (by omega) (by omega)]
      refine wq_if (fun d => hx (by rw [bte_out (by omega)]; exact fun z => by have := z.1; omega)) (fun d => wq_g (by omega) ?_)
      have eb : bte T e v2 = T v2.toNat := bte_in (by omega) (by omega)
      rw [← eb]
      have hr2 := bte_rng hB v2
      refine wq_I (e_isLetM N (by omega) (by omega)) (fun r6 M5 ⟨f1, f2⟩ => ?_)
      have f2 : M5 = N := f2
      rw [f2]
      rcases f1 with ⟨f1, f3⟩ | ⟨f1, f3⟩
      · have f1 : r6 = 1 := f1
        rw [f1]
        refine wq_e (by decide) (hk _ ⟨⟨show sk T e p ≤ v2 + 1 by omega, show v2 + 1 ≤ e by omega⟩, fun x x0 x1 => ?_, rfl⟩ (show (e - (v2 + 1)).toNat < (e - v2).toNat by omega))
        have x1 : x < v2 + 1 := x1
        by_cases ex : x = v2
        · rw [ex]; exact f3
        · exact c2 x x0 (by omega)
      · have f1 : r6 = 0 := f1
        rw [f1]
        exact wq_t (by decide) (hx f3)
    · exact ⟨⟨Int.le_refl _, b.2⟩, fun x x0 x1 => absurd x1 (by show ¬ x < sk T e p; omega), rfl⟩
    · show (e - sk T e p).toNat < 1000000000
      omega
  · have b1 : r4 = 0 := b1
    rw [b1]
    refine wq_t (by decide) (wq_some ⟨Or.inr ⟨rfl, fun z => b3 ?_⟩, a1, a2⟩)
    have h1 := z.2.1 0 (by omega)
    have h2 := (l3 0 (by omega)).2
    rw [show sk T e p + ((0 : Nat) : Int) = sk T e p by omega] at h1
    exact ⟨by omega, by omega⟩
theorem s_takes {T : Nat → Int} {e p g : Int} {M : Mm} {r : Nat} {L : List Int} (hB : Bt T e) (h : Sm T e p g M) (hL : rwd r L) : wq (f_M_takes r M) (fun q => ((q.1 = 1 ∧ hw T e L p g ∧ Sm T e (sk T e p + L.length) (sk T e p + L.length) q.2) ∨ (q.1 = 0 ∧ ¬ hw T e L p g ∧ Sm T e (sk T e p) g q.2)) ∧ Fr smL M q.2) := by
  unfold f_M_takes
  refine wq_I (s_isHere hB h hL) (fun r2 M1 ⟨a1, a2, a3⟩ => ?_)
  have a2 : Sm T e (sk T e p) g M1 := a2
  have a3 : Fr [(78, 2)] M M1 := a3
  have b := a2.2.2.2.2.2.1
  obtain ⟨l1, l2, l3⟩ := hL
  rcases a1 with ⟨b1, b3⟩ | ⟨b1, b3⟩
  · have b1 : r2 = 1 := b1
    have hle := hwB_lt b.1 l2.1 (fun i hi => (l3 i hi).2) b3.2
    rw [b1, a2.2.2.1, l1]
    refine wq_t (by decide) (wq_d (wq_d ?_))
    rw [up_eq]
    exact wq_some ⟨Or.inl ⟨rfl, b3, (a2.mv (by omega) hle).gl hB⟩, ((a3.cov rfl : Fr smL M M1).up (by simp [smL])).up (by simp [smL])⟩
  · have b1 : r2 = 0 := b1
    rw [b1]
    exact wq_e (by decide) (wq_some ⟨Or.inr ⟨rfl, b3, a2⟩, a3.cov rfl⟩)
theorem s_asks {T : Nat → Int} {e p g : Int} {M : Mm} {r : Nat} {L : List Int} (hB : Bt T e) (h : Sm T e p g M) (hL : rwd r L) : wq (f_M_asks r M) (fun M' => ((hw T e L p g ∧ Sm T e (sk T e p + L.length) (sk T e p + L.length) M') ∨ (¬ hw T e L p g ∧ Fm T e 1 (sk T e p) M')) ∧ Fr smL M M') := by
  have hh := hB.1
  unfold f_M_asks
  rw [h.2.2.2.2.1]
  refine wq_e (fun z => z rfl) (wq_I (s_takes hB h hL) (fun r2 M1 ⟨a1, a2⟩ => ?_))
  have a2 : Fr smL M M1 := a2
  rcases a1 with ⟨b1, b2, b3⟩ | ⟨b1, b2, b3⟩
  · have b1 : r2 = 1 := b1
    rw [b1]
    exact wq_t (by decide) (wq_some ⟨Or.inl ⟨b2, b3⟩, a2⟩)
  · have b1 : r2 = 0 := b1
    have b3 : Sm T e (sk T e p) g M1 := b3
    have b := b3.2.2.2.2.2.1
    rw [b1, b3.2.2.1]
    exact wq_e (by decide) (wq_V (s_mfail b3 (k := 1) (pl := sk T e p) (by decide) (by omega)) (fun M3 ⟨c1, c2⟩ => wq_some ⟨Or.inr ⟨b2, c1⟩, a2.tr c2⟩))
theorem e_asks_f {T : Nat → Int} {e k pl : Int} {M : Mm} {r : Nat} (h : Fm T e k pl M) : f_M_asks r M = some M := by
  unfold f_M_asks
  have hk := h.2.2.2.2.1
  rw [h.2.2.1, i32_id (x := k) (by omega) (by omega), if_pos (by omega)]
theorem s_takesSign {T : Nat → Int} {e p g c : Int} {M : Mm} (hB : Bt T e) (h : Sm T e p g M) (hc : 0 ≤ c ∧ c ≤ 255) : wq (f_M_takesSign c M) (fun q => ((q.1 = 1 ∧ bte T e (sk T e p) = c ∧ Sm T e (sk T e p + 1) g q.2) ∨ (q.1 = 0 ∧ bte T e (sk T e p) ≠ c ∧ Sm T e (sk T e p) g q.2)) ∧ Fr [(78, 2)] M q.2) := by
  have hh := hB.1
  unfold f_M_takesSign
  rw [h.2.2.2.2.1]
  refine wq_e (fun z => z rfl) (wq_I (s_look hB h) (fun r2 M1 ⟨a0, a1, a2⟩ => ?_))
  have a0 : r2 = bte T e (sk T e p) := a0
  have a1 : Sm T e (sk T e p) g M1 := a1
  have a2 : Fr [(78, 2)] M M1 := a2
  have b := a1.2.2.2.2.2.1
  have hr := bte_rng hB (sk T e p)
  rw [a0, i32_id (x := bte T e (sk T e p)) (by omega) (by omega), i32_id (x := c) (by omega) (by omega)]
  refine wq_if (fun d => ?_) (fun d => wq_some ⟨Or.inr ⟨rfl, d, a1⟩, a2⟩)
  have hl := bte_lt (T := T) (e := e) b.1 (by omega)
  rw [a1.2.2.1]
  exact wq_d (wq_some ⟨Or.inl ⟨rfl, d, a1.mv (by omega) (by omega)⟩, a2.up (by simp)⟩)
theorem s_asksSign {T : Nat → Int} {e p g c : Int} {M : Mm} (hB : Bt T e) (h : Sm T e p g M) (hc : 0 ≤ c ∧ c ≤ 255) : wq (f_M_asksSign c M) (fun M' => ((bte T e (sk T e p) = c ∧ Sm T e (sk T e p + 1) g M') ∨ (bte T e (sk T e p) ≠ c ∧ Fm T e 1 (sk T e p) M')) ∧ Fr smL M M') := by
  have hh := hB.1
  unfold f_M_asksSign
  rw [h.2.2.2.2.1]
  refine wq_e (fun z => z rfl) (wq_I (s_takesSign hB h hc) (fun r2 M1 ⟨a1, a2⟩ => ?_))
  have a2 : Fr [(78, 2)] M M1 := a2
  rcases a1 with ⟨b1, b2, b3⟩ | ⟨b1, b2, b3⟩
  · have b1 : r2 = 1 := b1
    rw [b1]
    exact wq_t (by decide) (wq_some ⟨Or.inl ⟨b2, b3⟩, a2.cov rfl⟩)
  · have b1 : r2 = 0 := b1
    have b3 : Sm T e (sk T e p) g M1 := b3
    have b := b3.2.2.2.2.2.1
    rw [b1, b3.2.2.1]
    exact wq_e (by decide) (wq_V (s_mfail b3 (k := 1) (pl := sk T e p) (by decide) (by omega)) (fun M3 ⟨c1, c2⟩ => wq_some ⟨Or.inr ⟨b2, c1⟩, (a2.cov rfl : Fr smL M M1).tr c2⟩))
theorem e_asksSign_f {T : Nat → Int} {e k pl c : Int} {M : Mm} (h : Fm T e k pl M) : f_M_asksSign c M = some M := by
  unfold f_M_asksSign
  have hk := h.2.2.2.2.1
  rw [h.2.2.1, i32_id (x := k) (by omega) (by omega), if_pos (by omega)]
theorem e_mnum_f {T : Nat → Int} {e k pl a b : Int} {M : Mm} (h : Fm T e k pl M) : f_M_number a b M = some (0, M) := by
  unfold f_M_number
  have hk := h.2.2.2.2.1
  rw [h.2.2.1, i32_id (x := k) (by omega) (by omega), if_neg (by omega)]
theorem e_mname_f {T : Nat → Int} {e k pl : Int} {M : Mm} (h : Fm T e k pl M) : f_M_name M = some (0, M) := by
  unfold f_M_name
  have hk := h.2.2.2.2.1
  rw [h.2.2.1, i32_id (x := k) (by omega) (by omega), if_neg (by omega)]
