theorem hd_cons {W W0 : List Int} {c : Int} (h : (W ++ W0).headD (-1) = c) (hc : 1 ≤ c ∧ c ≤ 4) (h0 : opQ (W0.headD (-1)) = false) : ∃ W2, W = c :: W2 := by
  cases W with
  | nil =>
    have h : W0.headD (-1) = c := h
    rw [h] at h0
    exact absurd hc (of_decide_eq_false h0)
  | cons v W =>
    have h : v = c := h
    rw [h]
    exact ⟨W, rfl⟩
theorem hd_nmul {W W0 : List Int} (h3 : ¬ (W ++ W0).headD (-1) = 3) (h4 : ¬ (W ++ W0).headD (-1) = 4) : W.takeWhile mulQ = [] ∧ W.dropWhile mulQ = W := by
  cases W with
  | nil => exact ⟨rfl, rfl⟩
  | cons v W =>
    have h3 : ¬ v = 3 := h3
    have h4 : ¬ v = 4 := h4
    have hm : mulQ v = false := decide_eq_false (by omega)
    rw [List.takeWhile_cons, List.dropWhile_cons, hm]
    exact ⟨rfl, rfl⟩
theorem hd_nop {W W0 : List Int} (h1 : ¬ (W ++ W0).headD (-1) = 1) (h2 : ¬ (W ++ W0).headD (-1) = 2) (h3 : ¬ (W ++ W0).headD (-1) = 3) (h4 : ¬ (W ++ W0).headD (-1) = 4) : W.takeWhile opQ = [] ∧ W.dropWhile opQ = W := by
  cases W with
  | nil => exact ⟨rfl, rfl⟩
  | cons v W =>
    have h1 : ¬ v = 1 := h1
    have h2 : ¬ v = 2 := h2
    have h3 : ¬ v = 3 := h3
    have h4 : ¬ v = 4 := h4
    have hm : opQ v = false := decide_eq_false (by omega)
    rw [List.takeWhile_cons, List.dropWhile_cons, hm]
    exact ⟨rfl, rfl⟩
theorem tw_y {q : Int → Bool} {v : Int} {W : List Int} (h : q v = true) : (v :: W).takeWhile q = v :: W.takeWhile q ∧ (v :: W).dropWhile q = W.dropWhile q := by
  rw [List.takeWhile_cons, List.dropWhile_cons, h]
  exact ⟨rfl, rfl⟩
theorem tw_n {q : Int → Bool} {v : Int} {W : List Int} (h : q v = false) : (v :: W).takeWhile q = [] ∧ (v :: W).dropWhile q = v :: W := by
  rw [List.takeWhile_cons, List.dropWhile_cons, h]
  exact ⟨rfl, rfl⟩
theorem xq_ends {U T : Nat → Int} {e p g o : Int} {W W0 C : List Int} {M : Mm} (h : Xq U T e p g o W W0 C M) (hW : C.length + W.length + W0.length ≤ 1600) : wq (f_M_qEndsPart M) (fun M' => Xq U T e p g (o - (W.takeWhile ofQ).length) (W.dropWhile ofQ) W0 (C ++ W.takeWhile ofQ) M' ∧ Fr xqL M M') := by
  unfold f_M_qEndsPart f_M_qEndsPart_L0
  refine wq_lp (fun N => ∃ (W1 C1 : List Int) (o1 : Int), Xq U T e p g o1 W1 W0 C1 N ∧ o1 - (W1.takeWhile ofQ).length = o - (W.takeWhile ofQ).length ∧ W1.dropWhile ofQ = W.dropWhile ofQ ∧ C1 ++ W1.takeWhile ofQ = C ++ W.takeWhile ofQ ∧ C1.length + W1.length ≤ C.length + W.length ∧ Fr xqL M N) (fun N => (N 78 91).toNat) ?_ FU _ ⟨W, C, o, h, rfl, rfl, rfl, Nat.le_refl _, Fr.rf⟩ ?_
  · rintro kH N ⟨W1, C1, o1, q1, q0, q2, q3, q4, q5⟩ hk
    obtain ⟨a1, a2, a3, a4, a5, a6, a7, a8, a9⟩ := q1
    have hl : (W1 ++ W0).length = W1.length + W0.length := List.length_append
    unfold f_M_qEndsPart_B0
    rw [a1.2.2.2.2.1, a2, a5, hl, i32_id (x := ((W1.length + W0.length : Nat) : Int)) (by omega) (by omega), i32_id (x := (W0.length : Int)) (by omega) (by omega)]
    refine wq_e (fun z => z rfl) ?_
    cases W1 with
    | nil =>
      refine wq_t (by rw [List.length_nil]; omega) (wq_some ⟨?_, q5⟩)
      have q0 : o1 - ((0 : Nat) : Int) = o - (W.takeWhile ofQ).length := q0
      rw [← q2, ← q3, ← q0, show o1 - ((0 : Nat) : Int) = o1 by omega, show [].takeWhile ofQ = [] from rfl, show [].dropWhile ofQ = [] from rfl, List.append_nil]
      exact ⟨a1, a2, a3, a4, a5, a6, a7, a8, a9⟩
    | cons v W1 =>
      have hl1 : (W1 ++ W0).length = W1.length + W0.length := List.length_append
      have hv := a9 v List.mem_cons_self
      have a3 : stk (N 143) (v :: (W1 ++ W0)) := a3
      rw [List.length_cons] at q4 ⊢
      refine wq_e (by omega) ?_
      rw [i32_id (x := ((W1.length + 1 + W0.length : Nat) : Int) - 1) (by omega) (by omega), show (((W1.length + 1 + W0.length : Nat) : Int) - 1).toNat = (W1 ++ W0).length by omega, a3.1, i32_id (x := v) (by omega) (by omega), i32_id (x := 60) (by omega) (by omega), a4]
      refine wq_g ⟨by omega, by omega⟩ (wq_if (fun c => wq_some ⟨?_, q5⟩) (fun c => wq_d ?_))
      · have c : ofQ v = false := decide_eq_false (by omega)
        rw [← q2, ← q3, ← q0, (tw_n c).1, (tw_n c).2, List.append_nil, show o1 - ((([] : List Int).length : Nat) : Int) = o1 by show o1 - ((0 : Nat) : Int) = o1; omega]
        exact ⟨a1, a2, a3, a4, a5, a6, a7, a8, a9⟩
      · have c : ofQ v = true := decide_eq_true (by omega)
        rw [(tw_y c).1] at q0 q3
        rw [(tw_y c).2] at q2
        have hF : Fr [(78, 92)] N (up N 78 92 (o1 - 1)) := Fr.rf.up (by simp)
        refine wq_V (xq_drops (U := U) (T := T) (e := e) (p := p) (g := g) (o := o1 - 1) (v := v) (W := W1) (W0 := W0) (C := C1) ⟨a1.fr hF rfl, by rw [hF.at 78 91 rfl]; exact a2, by rw [hF.row 143 rfl]; exact a3, up_eq _ _ _ _, by rw [hF.at 78 93 rfl]; exact a5, by rw [hF.at 78 89 rfl]; exact a6, by rw [hF.row 142 rfl]; exact a7, by rw [hF.row 142 rfl]; exact a8, a9⟩ (by omega) (by omega)) (fun M2 ⟨b1, b2⟩ => hk _ ⟨W1, C1 ++ [v], o1 - 1, b1, ?_, q2, by rw [← q3, List.append_assoc]; rfl, by rw [List.length_append, List.length_singleton]; omega, q5.tr ((hF.cov rfl : Fr xqL _ _).tr b2)⟩ ?_)
        · rw [← q0, List.length_cons]; omega
        · rw [b1.2.1, a2, hl, hl1, List.length_cons]
          omega
  · rw [h.2.1, List.length_append]
    show _ < 1000000000
    omega
section Xtg
variable {U T : Nat → Int} {e p g o : Int} {W W0 C : List Int} {M : Mm}
def Ukt (U : Nat → Int) (M : Mm) : Prop := (∀ k : Nat, 1600 ≤ k → M 102 k = U k) ∧ 0 ≤ M 78 35 ∧ M 78 35 ≤ 1600
theorem Xt.uk (h : Xt U T e p g o W W0 C M) (hb : C.length ≤ 1600) : Ukt U M := ⟨h.2.2.2.2.2.2.2.1, by rw [h.2.2.2.2.2.1]; omega, by rw [h.2.2.2.2.2.1]; omega⟩
theorem Ukt.cg {M' : Mm} (h : Ukt U M) (e1 : M' 102 = M 102) (e2 : M' 78 35 = M 78 35) : Ukt U M' := by
  unfold Ukt
  rw [e1, e2]
  exact h
/-- a fault in a sum -/
def Bdt (U T : Nat → Int) (e : Int) (R : Out) (M : Mm) : Prop := ∃ k pl, R = .inl (k, pl) ∧ Fm T e k pl M ∧ Ukt U M
/-- still reading -/
def Ont (U T : Nat → Int) (e o0 : Int) (W0 : List Int) (R : Out) (pm : Int) (m : Bool) (M : Mm) : Prop := ∃ n p g o W C, dD false T e n m p g o W C = some R ∧ Xt U T e p g o W W0 C M ∧ Iv false o0 (W0.length + 1) m p o W C ∧ pm ≤ p
/-- at the end of a sum -/
def Ent (U T : Nat → Int) (e o0 : Int) (W0 : List Int) (R : Out) (M : Mm) : Prop := ∃ p g W C, R = .inr (p, g, C ++ W) ∧ Xt U T e p g o0 W W0 C M ∧ C.length + W.length + W0.length ≤ 1600
theorem xt_muls {kx : Int → Mm → Option (Int × Mm)} {Q : Int × Mm → Prop} {v1 : Int} (h : Xt U T e p g o W W0 C M) (hb : C.length + W.length + W0.length ≤ 1600) (h0 : opQ (W0.headD (-1)) = false) (hk : ∀ M', Xt U T e p g o (W.dropWhile mulQ) W0 (C ++ W.takeWhile mulQ) M' → Fr xtL M M' → wq (kx v1 M') Q) : wq (f_M_goesOn_L158 kx FU (v1, M)) Q := by
  unfold f_M_goesOn_L158
  refine wq_lp (fun z => z.1 = v1 ∧ ∃ W1 C1 : List Int, Xt U T e p g o W1 W0 C1 z.2 ∧ W1.dropWhile mulQ = W.dropWhile mulQ ∧ C1 ++ W1.takeWhile mulQ = C ++ W.takeWhile mulQ ∧ C1.length + W1.length ≤ C.length + W.length ∧ Fr xtL M z.2) (fun z => (z.2 78 37).toNat) ?_ FU _ ⟨rfl, W, C, h, rfl, rfl, Nat.le_refl _, Fr.rf⟩ ?_
  · rintro kH ⟨v, N⟩ ⟨q0, W1, C1, q1, q2, q3, q4, q5⟩ hg
    have q0 : v = v1 := q0
    have q1 : Xt U T e p g o W1 W0 C1 N := q1
    subst q0
    show wq (f_M_goesOn_B158 (fun v1 M => kH (v1, M)) kx v N) _
    have hdrop : ∀ c : Int, (c = 3 ∨ c = 4) → (W1 ++ W0).headD (-1) = c → wq (bV (f_M_drops N) (fun M' => kH (v, M'))) Q := by
      intro c hc hh
      obtain ⟨W2, e2⟩ := hd_cons hh (by omega) h0
      subst e2
      have hq : mulQ c = true := decide_eq_true hc
      rw [(tw_y hq).2] at q2
      rw [(tw_y hq).1] at q3
      rw [List.length_cons] at q4
      refine wq_V (xt_drops q1 (by omega) (by omega)) (fun M2 ⟨b1, b2⟩ => hg _ ⟨rfl, W2, C1 ++ [c], b1, q2, by rw [← q3, List.append_assoc]; rfl, by rw [List.length_append, List.length_singleton]; omega, q5.tr b2⟩ ?_)
      show (M2 78 37).toNat < (N 78 37).toNat
      rw [b1.2.1, q1.2.1, List.cons_append, List.length_cons]
      omega
    unfold f_M_goesOn_B158
    refine wq_I (xt_isOn q1 (by omega) (by omega)) (fun r M2 ⟨c1, c2⟩ => ?_)
    have c2 : M2 = N := c2
    subst c2
    rcases c1 with ⟨d1, d2⟩ | ⟨d1, d2⟩
    · have d1 : r = 1 := d1
      rw [d1]
      exact wq_t (by decide) (hdrop 3 (Or.inl rfl) d2)
    · have d1 : r = 0 := d1
      rw [d1]
      refine wq_e (by decide) (wq_I (xt_isOn q1 (by omega) (by omega)) (fun r' M3 ⟨c3, c4⟩ => ?_))
      have c4 : M3 = M2 := c4
      subst c4
      rcases c3 with ⟨f1, f2⟩ | ⟨f1, f2⟩
      · have f1 : r' = 1 := f1
        rw [f1]
        exact wq_e (by decide) (hdrop 4 (Or.inr rfl) f2)
      · have f1 : r' = 0 := f1
        rw [f1]
        refine wq_t (by decide) (hk _ ?_ q5)
        obtain ⟨g1, g2⟩ := hd_nmul d2 f2
        rw [← q2, ← q3, g1, g2, List.append_nil]
        exact q1
  · show (M 78 37).toNat < 1000000000
    rw [h.2.1, List.length_append]
    omega
theorem xt_adds {kx : Int → Mm → Option (Int × Mm)} {Q : Int × Mm → Prop} {v1 : Int} (h : Xt U T e p g o W W0 C M) (hb : C.length + W.length + W0.length ≤ 1600) (h0 : opQ (W0.headD (-1)) = false) (hk : ∀ M', Xt U T e p g o (W.dropWhile opQ) W0 (C ++ W.takeWhile opQ) M' → Fr xtL M M' → wq (kx v1 M') Q) : wq (f_M_goesOn_L243 kx FU (v1, M)) Q := by
  unfold f_M_goesOn_L243
  refine wq_lp (fun z => z.1 = v1 ∧ ∃ W1 C1 : List Int, Xt U T e p g o W1 W0 C1 z.2 ∧ W1.dropWhile opQ = W.dropWhile opQ ∧ C1 ++ W1.takeWhile opQ = C ++ W.takeWhile opQ ∧ C1.length + W1.length ≤ C.length + W.length ∧ Fr xtL M z.2) (fun z => (z.2 78 37).toNat) ?_ FU _ ⟨rfl, W, C, h, rfl, rfl, Nat.le_refl _, Fr.rf⟩ ?_
  · rintro kH ⟨v, N⟩ ⟨q0, W1, C1, q1, q2, q3, q4, q5⟩ hg
    have q0 : v = v1 := q0
    have q1 : Xt U T e p g o W1 W0 C1 N := q1
    subst q0
    show wq (f_M_goesOn_B243 (fun v1 M => kH (v1, M)) kx v N) _
    have hdrop : ∀ c : Int, (1 ≤ c ∧ c ≤ 4) → (W1 ++ W0).headD (-1) = c → wq (bV (f_M_drops N) (fun M' => kH (v, M'))) Q := by
      intro c hc hh
      obtain ⟨W2, e2⟩ := hd_cons hh hc h0
      subst e2
      have hq : opQ c = true := decide_eq_true hc
      rw [(tw_y hq).2] at q2
      rw [(tw_y hq).1] at q3
      rw [List.length_cons] at q4
      refine wq_V (xt_drops q1 (by omega) (by omega)) (fun M2 ⟨b1, b2⟩ => hg _ ⟨rfl, W2, C1 ++ [c], b1, q2, by rw [← q3, List.append_assoc]; rfl, by rw [List.length_append, List.length_singleton]; omega, q5.tr b2⟩ ?_)
      show (M2 78 37).toNat < (N 78 37).toNat
      rw [b1.2.1, q1.2.1, List.cons_append, List.length_cons]
      omega
    unfold f_M_goesOn_B243
    refine wq_I (xt_isOn q1 (by omega) (by omega)) (fun r M2 ⟨c1, c2⟩ => ?_)
    have c2 : M2 = N := c2
    subst c2
    rcases c1 with ⟨d1, d3⟩ | ⟨d1, d3⟩
    · have d1 : r = 1 := d1
      rw [d1]
      exact wq_t (by decide) (hdrop 3 (by decide) d3)
    have d1 : r = 0 := d1
    rw [d1]
    refine wq_e (by decide) (wq_I (xt_isOn q1 (by omega) (by omega)) (fun r' M3 ⟨c3, c4⟩ => ?_))
    have c4 : M3 = M2 := c4
    subst c4
    rcases c3 with ⟨f1, d4⟩ | ⟨f1, d4⟩
    · have f1 : r' = 1 := f1
      rw [f1]
      exact wq_t (by decide) (hdrop 4 (by decide) d4)
    have f1 : r' = 0 := f1
    rw [f1]
    refine wq_e (by decide) (wq_I (xt_isOn q1 (by omega) (by omega)) (fun r2 M4 ⟨c5, c6⟩ => ?_))
    have c6 : M4 = M3 := c6
    subst c6
    rcases c5 with ⟨f2, d5⟩ | ⟨f2, d5⟩
    · have f2 : r2 = 1 := f2
      rw [f2]
      exact wq_t (by decide) (hdrop 1 (by decide) d5)
    have f2 : r2 = 0 := f2
    rw [f2]
    refine wq_e (by decide) (wq_I (xt_isOn q1 (by omega) (by omega)) (fun r3 M5 ⟨c7, c8⟩ => ?_))
    have c8 : M5 = M4 := c8
    subst c8
    rcases c7 with ⟨f3, d6⟩ | ⟨f3, d6⟩
    · have f3 : r3 = 1 := f3
      rw [f3]
      exact wq_e (by decide) (hdrop 2 (by decide) d6)
    have f3 : r3 = 0 := f3
    rw [f3]
    refine wq_t (by decide) (hk _ ?_ q5)
    obtain ⟨g1, g2⟩ := hd_nop d5 d6 d3 d4
    rw [← q2, ← q3, g1, g2, List.append_nil]
    exact q1
  · show (M 78 37).toNat < 1000000000
    rw [h.2.1, List.length_append]
    omega
/-- an op is pushed -/
theorem xt_push {v : Int} (h : Xt U T e p g o W W0 C M) (hb : W.length + W0.length ≤ 1600) (hv : 0 ≤ v ∧ v ≤ 100) : wq (gd (0 ≤ i32 (M 78 37) ∧ i32 (M 78 37) < ((1700 : Nat) : Int)) (bd (up M 103 (i32 (M 78 37)).toNat v) (fun M1 => bd (up M1 78 37 ((M1 78 37) + 1)) (fun M2 => some ((1 : Int), M2))))) (fun q => q.1 = 1 ∧ Xt U T e p g o (v :: W) W0 C q.2 ∧ Fr xtL M q.2) := by
  obtain ⟨a1, a2, a3, a4, a5, a6, a7, a8, a9⟩ := h
  have hl : (W ++ W0).length = W.length + W0.length := List.length_append
  rw [a2, i32_id (x := ((W ++ W0).length : Int)) (by omega) (by omega), Int.toNat_natCast]
  refine wq_g ⟨by omega, by omega⟩ (wq_d (wq_d (wq_some ?_)))
  rw [up_row (show ¬ (78 : Nat) = 103 by decide), a2]
  have hF : Fr [(78, 37), (103, 99999)] M (up (up M 103 (W ++ W0).length v) 78 37 (((W ++ W0).length : Int) + 1)) := (Fr.rf.up (by simp)).up (by simp)
  suffices hX : Xt U T e p g o (v :: W) W0 C (up (up M 103 (W ++ W0).length v) 78 37 (((W ++ W0).length : Int) + 1)) from ⟨rfl, hX, hF.cov rfl⟩
  refine ⟨a1.fr hF rfl, by rw [up_eq, List.cons_append, List.length_cons]; omega, ?_, by rw [hF.at 78 38 rfl]; exact a4, by rw [hF.at 78 41 rfl]; exact a5, by rw [hF.at 78 35 rfl]; exact a6, by rw [hF.row 102 rfl]; exact a7, by rw [hF.row 102 rfl]; exact a8, fun x hx => ?_⟩
  · rw [up_row (show ¬ (103 : Nat) = 78 by decide)]
    exact stk_push a3
  · rcases List.mem_cons.mp hx with z | z
    · rw [z]; exact hv
    · exact a9 x z
end Xtg
section Xqg
variable {U T : Nat → Int} {e p g o : Int} {W W0 C : List Int} {M : Mm}
def Ukq (U : Nat → Int) (M : Mm) : Prop := (∀ k : Nat, 1600 ≤ k → M 142 k = U k) ∧ 0 ≤ M 78 89 ∧ M 78 89 ≤ 1600
theorem Xq.uk (h : Xq U T e p g o W W0 C M) (hb : C.length ≤ 1600) : Ukq U M := ⟨h.2.2.2.2.2.2.2.1, by rw [h.2.2.2.2.2.1]; omega, by rw [h.2.2.2.2.2.1]; omega⟩
theorem Ukq.cg {M' : Mm} (h : Ukq U M) (e1 : M' 142 = M 142) (e2 : M' 78 89 = M 78 89) : Ukq U M' := by
  unfold Ukq
  rw [e1, e2]
  exact h
/-- a fault in a sum -/
def Bdq (U T : Nat → Int) (e : Int) (R : Out) (M : Mm) : Prop := ∃ k pl, R = .inl (k, pl) ∧ Fm T e k pl M ∧ Ukq U M
/-- still reading -/
def Onq (U T : Nat → Int) (e o0 : Int) (W0 : List Int) (R : Out) (pm : Int) (m : Bool) (M : Mm) : Prop := ∃ n p g o W C, dD true T e n m p g o W C = some R ∧ Xq U T e p g o W W0 C M ∧ Iv true o0 (W0.length + 1) m p o W C ∧ pm ≤ p
/-- at the end of a sum -/
def Enq (U T : Nat → Int) (e o0 : Int) (W0 : List Int) (R : Out) (M : Mm) : Prop := ∃ p g W C, R = .inr (p, g, C ++ W) ∧ Xq U T e p g o0 W W0 C M ∧ C.length + W.length + W0.length ≤ 1600
theorem xq_muls {kx : Int → Mm → Option (Int × Mm)} {Q : Int × Mm → Prop} {v1 : Int} (h : Xq U T e p g o W W0 C M) (hb : C.length + W.length + W0.length ≤ 1600) (h0 : opQ (W0.headD (-1)) = false) (hk : ∀ M', Xq U T e p g o (W.dropWhile mulQ) W0 (C ++ W.takeWhile mulQ) M' → Fr xqL M M' → wq (kx v1 M') Q) : wq (f_M_qGoesOn_L162 kx FU (v1, M)) Q := by
  unfold f_M_qGoesOn_L162
  refine wq_lp (fun z => z.1 = v1 ∧ ∃ W1 C1 : List Int, Xq U T e p g o W1 W0 C1 z.2 ∧ W1.dropWhile mulQ = W.dropWhile mulQ ∧ C1 ++ W1.takeWhile mulQ = C ++ W.takeWhile mulQ ∧ C1.length + W1.length ≤ C.length + W.length ∧ Fr xqL M z.2) (fun z => (z.2 78 91).toNat) ?_ FU _ ⟨rfl, W, C, h, rfl, rfl, Nat.le_refl _, Fr.rf⟩ ?_
  · rintro kH ⟨v, N⟩ ⟨q0, W1, C1, q1, q2, q3, q4, q5⟩ hg
    have q0 : v = v1 := q0
    have q1 : Xq U T e p g o W1 W0 C1 N := q1
    subst q0
    show wq (f_M_qGoesOn_B162 (fun v1 M => kH (v1, M)) kx v N) _
    have hdrop : ∀ c : Int, (c = 3 ∨ c = 4) → (W1 ++ W0).headD (-1) = c → wq (bV (f_M_qDrops N) (fun M' => kH (v, M'))) Q := by
      intro c hc hh
      obtain ⟨W2, e2⟩ := hd_cons hh (by omega) h0
      subst e2
      have hq : mulQ c = true := decide_eq_true hc
      rw [(tw_y hq).2] at q2
      rw [(tw_y hq).1] at q3
      rw [List.length_cons] at q4
      refine wq_V (xq_drops q1 (by omega) (by omega)) (fun M2 ⟨b1, b2⟩ => hg _ ⟨rfl, W2, C1 ++ [c], b1, q2, by rw [← q3, List.append_assoc]; rfl, by rw [List.length_append, List.length_singleton]; omega, q5.tr b2⟩ ?_)
      show (M2 78 91).toNat < (N 78 91).toNat
      rw [b1.2.1, q1.2.1, List.cons_append, List.length_cons]
      omega
    unfold f_M_qGoesOn_B162
    refine wq_I (xq_isOn q1 (by omega) (by omega)) (fun r M2 ⟨c1, c2⟩ => ?_)
    have c2 : M2 = N := c2
    subst c2
    rcases c1 with ⟨d1, d2⟩ | ⟨d1, d2⟩
    · have d1 : r = 1 := d1
      rw [d1]
      exact wq_t (by decide) (hdrop 3 (Or.inl rfl) d2)
    · have d1 : r = 0 := d1
      rw [d1]
      refine wq_e (by decide) (wq_I (xq_isOn q1 (by omega) (by omega)) (fun r' M3 ⟨c3, c4⟩ => ?_))
      have c4 : M3 = M2 := c4
      subst c4
      rcases c3 with ⟨f1, f2⟩ | ⟨f1, f2⟩
      · have f1 : r' = 1 := f1
        rw [f1]
        exact wq_e (by decide) (hdrop 4 (Or.inr rfl) f2)
      · have f1 : r' = 0 := f1
        rw [f1]
        refine wq_t (by decide) (hk _ ?_ q5)
        obtain ⟨g1, g2⟩ := hd_nmul d2 f2
        rw [← q2, ← q3, g1, g2, List.append_nil]
        exact q1
  · show (M 78 91).toNat < 1000000000
    rw [h.2.1, List.length_append]
    omega
theorem xq_adds {kx : Int → Mm → Option (Int × Mm)} {Q : Int × Mm → Prop} {v1 : Int} (h : Xq U T e p g o W W0 C M) (hb : C.length + W.length + W0.length ≤ 1600) (h0 : opQ (W0.headD (-1)) = false) (hk : ∀ M', Xq U T e p g o (W.dropWhile opQ) W0 (C ++ W.takeWhile opQ) M' → Fr xqL M M' → wq (kx v1 M') Q) : wq (f_M_qGoesOn_L247 kx FU (v1, M)) Q := by
  unfold f_M_qGoesOn_L247
  refine wq_lp (fun z => z.1 = v1 ∧ ∃ W1 C1 : List Int, Xq U T e p g o W1 W0 C1 z.2 ∧ W1.dropWhile opQ = W.dropWhile opQ ∧ C1 ++ W1.takeWhile opQ = C ++ W.takeWhile opQ ∧ C1.length + W1.length ≤ C.length + W.length ∧ Fr xqL M z.2) (fun z => (z.2 78 91).toNat) ?_ FU _ ⟨rfl, W, C, h, rfl, rfl, Nat.le_refl _, Fr.rf⟩ ?_
  · rintro kH ⟨v, N⟩ ⟨q0, W1, C1, q1, q2, q3, q4, q5⟩ hg
    have q0 : v = v1 := q0
    have q1 : Xq U T e p g o W1 W0 C1 N := q1
    subst q0
    show wq (f_M_qGoesOn_B247 (fun v1 M => kH (v1, M)) kx v N) _
    have hdrop : ∀ c : Int, (1 ≤ c ∧ c ≤ 4) → (W1 ++ W0).headD (-1) = c → wq (bV (f_M_qDrops N) (fun M' => kH (v, M'))) Q := by
      intro c hc hh
      obtain ⟨W2, e2⟩ := hd_cons hh hc h0
      subst e2
      have hq : opQ c = true := decide_eq_true hc
      rw [(tw_y hq).2] at q2
      rw [(tw_y hq).1] at q3
      rw [List.length_cons] at q4
      refine wq_V (xq_drops q1 (by omega) (by omega)) (fun M2 ⟨b1, b2⟩ => hg _ ⟨rfl, W2, C1 ++ [c], b1, q2, by rw [← q3, List.append_assoc]; rfl, by rw [List.length_append, List.length_singleton]; omega, q5.tr b2⟩ ?_)
      show (M2 78 91).toNat < (N 78 91).toNat
      rw [b1.2.1, q1.2.1, List.cons_append, List.length_cons]
      omega
    unfold f_M_qGoesOn_B247
    refine wq_I (xq_isOn q1 (by omega) (by omega)) (fun r M2 ⟨c1, c2⟩ => ?_)
    have c2 : M2 = N := c2
    subst c2
    rcases c1 with ⟨d1, d3⟩ | ⟨d1, d3⟩
    · have d1 : r = 1 := d1
      rw [d1]
      exact wq_t (by decide) (hdrop 3 (by decide) d3)
    have d1 : r = 0 := d1
    rw [d1]
    refine wq_e (by decide) (wq_I (xq_isOn q1 (by omega) (by omega)) (fun r' M3 ⟨c3, c4⟩ => ?_))
    have c4 : M3 = M2 := c4
    subst c4
    rcases c3 with ⟨f1, d4⟩ | ⟨f1, d4⟩
    · have f1 : r' = 1 := f1
      rw [f1]
      exact wq_t (by decide) (hdrop 4 (by decide) d4)
    have f1 : r' = 0 := f1
    rw [f1]
    refine wq_e (by decide) (wq_I (xq_isOn q1 (by omega) (by omega)) (fun r2 M4 ⟨c5, c6⟩ => ?_))
    have c6 : M4 = M3 := c6
    subst c6
    rcases c5 with ⟨f2, d5⟩ | ⟨f2, d5⟩
    · have f2 : r2 = 1 := f2
      rw [f2]
      exact wq_t (by decide) (hdrop 1 (by decide) d5)
    have f2 : r2 = 0 := f2
    rw [f2]
    refine wq_e (by decide) (wq_I (xq_isOn q1 (by omega) (by omega)) (fun r3 M5 ⟨c7, c8⟩ => ?_))
    have c8 : M5 = M4 := c8
    subst c8
    rcases c7 with ⟨f3, d6⟩ | ⟨f3, d6⟩
    · have f3 : r3 = 1 := f3
      rw [f3]
      exact wq_e (by decide) (hdrop 2 (by decide) d6)
    have f3 : r3 = 0 := f3
    rw [f3]
    refine wq_t (by decide) (hk _ ?_ q5)
    obtain ⟨g1, g2⟩ := hd_nop d5 d6 d3 d4
    rw [← q2, ← q3, g1, g2, List.append_nil]
    exact q1
  · show (M 78 91).toNat < 1000000000
    rw [h.2.1, List.length_append]
    omega
/-- an op is pushed -/
theorem xq_push {v : Int} (h : Xq U T e p g o W W0 C M) (hb : W.length + W0.length ≤ 1600) (hv : 0 ≤ v ∧ v ≤ 100) : wq (gd (0 ≤ i32 (M 78 91) ∧ i32 (M 78 91) < ((1700 : Nat) : Int)) (bd (up M 143 (i32 (M 78 91)).toNat v) (fun M1 => bd (up M1 78 91 ((M1 78 91) + 1)) (fun M2 => some ((1 : Int), M2))))) (fun q => q.1 = 1 ∧ Xq U T e p g o (v :: W) W0 C q.2 ∧ Fr xqL M q.2) := by
  obtain ⟨a1, a2, a3, a4, a5, a6, a7, a8, a9⟩ := h
  have hl : (W ++ W0).length = W.length + W0.length := List.length_append
  rw [a2, i32_id (x := ((W ++ W0).length : Int)) (by omega) (by omega), Int.toNat_natCast]
  refine wq_g ⟨by omega, by omega⟩ (wq_d (wq_d (wq_some ?_)))
  rw [up_row (show ¬ (78 : Nat) = 143 by decide), a2]
  have hF : Fr [(78, 91), (143, 99999)] M (up (up M 143 (W ++ W0).length v) 78 91 (((W ++ W0).length : Int) + 1)) := (Fr.rf.up (by simp)).up (by simp)
  suffices hX : Xq U T e p g o (v :: W) W0 C (up (up M 143 (W ++ W0).length v) 78 91 (((W ++ W0).length : Int) + 1)) from ⟨rfl, hX, hF.cov rfl⟩
  refine ⟨a1.fr hF rfl, by rw [up_eq, List.cons_append, List.length_cons]; omega, ?_, by rw [hF.at 78 92 rfl]; exact a4, by rw [hF.at 78 93 rfl]; exact a5, by rw [hF.at 78 89 rfl]; exact a6, by rw [hF.row 142 rfl]; exact a7, by rw [hF.row 142 rfl]; exact a8, fun x hx => ?_⟩
  · rw [up_row (show ¬ (143 : Nat) = 78 by decide)]
    exact stk_push a3
  · rcases List.mem_cons.mp hx with z | z
    · rw [z]; exact hv
    · exact a9 x z
end Xqg
