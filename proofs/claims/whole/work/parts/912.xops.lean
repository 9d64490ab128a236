theorem getD_app_l {C D : List Int} {k : Nat} (h : k < C.length) : (C ++ D).getD k 0 = C.getD k 0 := by
  rw [List.getD_eq_getElem?_getD, List.getD_eq_getElem?_getD, List.getElem?_append_left h]
theorem getD_app_n {C : List Int} {v : Int} : (C ++ [v]).getD C.length 0 = v := by
  rw [List.getD_eq_getElem?_getD, List.getElem?_append_right (Nat.le_refl _), Nat.sub_self]
  rfl
/-- the reference's cells while it reads a sum -/
def Xt (U : Nat → Int) (T : Nat → Int) (e p g o : Int) (W W0 C : List Int) (M : Mm) : Prop := Sm T e p g M ∧ M 78 37 = ((W ++ W0).length : Int) ∧ stk (M 103) (W ++ W0) ∧ M 78 38 = o ∧ M 78 41 = (W0.length : Int) ∧ M 78 35 = (C.length : Int) ∧ (∀ k : Nat, k < C.length → M 102 k = C.getD k 0) ∧ (∀ k : Nat, 1600 ≤ k → M 102 k = U k) ∧ ∀ v ∈ W ++ W0, 0 ≤ v ∧ v ≤ 100
def xtL : List (Nat × Nat) := [(78, 37), (78, 38), (78, 41), (78, 35), (103, 99999), (102, 99999)]
def xtA : List (Nat × Nat) := [(78, 37), (78, 38), (78, 41), (78, 35), (103, 99999), (102, 99999), (78, 2), (78, 4), (78, 5), (78, 6)]
section Xts
variable {U T : Nat → Int} {e p g o : Int} {W W0 C : List Int} {M : Mm}
theorem Xt.sm {p' g' : Int} {M' : Mm} (h : Xt U T e p g o W W0 C M) (h1 : Sm T e p' g' M') (hF : Fr smL M M') : Xt U T e p' g' o W W0 C M' := by
  obtain ⟨-, a2, a3, a4, a5, a6, a7, a8, a9⟩ := h
  refine ⟨h1, by rw [hF.at 78 37 rfl]; exact a2, by rw [hF.row 103 rfl]; exact a3, by rw [hF.at 78 38 rfl]; exact a4, by rw [hF.at 78 41 rfl]; exact a5, by rw [hF.at 78 35 rfl]; exact a6, by rw [hF.row 102 rfl]; exact a7, by rw [hF.row 102 rfl]; exact a8, a9⟩
theorem xt_code {v : Int} (h : Xt U T e p g o W W0 C M) (hC : C.length < 1600) : wq (f_M_code v M) (fun M' => Xt U T e p g o W W0 (C ++ [v]) M' ∧ Fr xtL M M') := by
  obtain ⟨a1, a2, a3, a4, a5, a6, a7, a8, a9⟩ := h
  unfold f_M_code
  try simp only [Int.zero_add]
  rw [a6, i32_id (x := (C.length : Int)) (by omega) (by omega)]
  refine wq_g ⟨by omega, by omega⟩ (wq_d (wq_d (wq_some ?_)))
  rw [up_row (show ¬ (78 : Nat) = 102 by decide), a6]
  have hF : Fr [(78, 35), (102, 99999)] M (up (up M 102 (C.length : Int).toNat v) 78 35 ((C.length : Int) + 1)) := (Fr.rf.up (by simp)).up (by simp)
  refine ⟨⟨a1.fr hF rfl, by rw [hF.at 78 37 rfl]; exact a2, by rw [hF.row 103 rfl]; exact a3, by rw [hF.at 78 38 rfl]; exact a4, by rw [hF.at 78 41 rfl]; exact a5, by rw [up_eq, List.length_append]; rfl, fun k hk => ?_, fun k hk => ?_, a9⟩, hF.cov rfl⟩
  · rw [up_row (show ¬ (102 : Nat) = 78 by decide), up_at, Int.toNat_natCast]
    rw [List.length_append, List.length_singleton] at hk
    by_cases c : k = C.length
    · rw [if_pos ⟨rfl, c⟩, c, getD_app_n]
    · rw [if_neg (fun z => c z.2), getD_app_l (by omega)]
      exact a7 k (by omega)
  · rw [up_row (show ¬ (102 : Nat) = 78 by decide), up_at, Int.toNat_natCast, if_neg (fun z => by omega)]
    exact a8 k hk
theorem xt_drops {v : Int} (h : Xt U T e p g o (v :: W) W0 C M) (hC : C.length < 1600) (hW : W.length + W0.length < 1600) : wq (f_M_drops M) (fun M' => Xt U T e p g o W W0 (C ++ [v]) M' ∧ Fr xtL M M') := by
  obtain ⟨a1, a2, a3, a4, a5, a6, a7, a8, a9⟩ := h
  have a2 : M 78 37 = ((W ++ W0).length : Int) + 1 := by rw [a2, List.cons_append, List.length_cons]; omega
  have hl : (W ++ W0).length = W.length + W0.length := List.length_append
  have a3 : stk (M 103) (v :: (W ++ W0)) := a3
  unfold f_M_drops
  rw [a2, show ((W ++ W0).length : Int) + 1 - 1 = ((W ++ W0).length : Int) by omega]
  refine wq_d ?_
  have hF : Fr [(78, 37)] M (up M 78 37 ((W ++ W0).length : Int)) := Fr.rf.up (by simp)
  rw [up_eq, i32_id (x := ((W ++ W0).length : Int)) (by omega) (by omega), up_row (show ¬ (103 : Nat) = 78 by decide), Int.toNat_natCast, a3.1]
  refine wq_g ⟨by omega, by omega⟩ ?_
  refine wq_V (xt_code (W := W) (W0 := W0) (C := C) (U := U) (T := T) (e := e) (p := p) (g := g) (o := o) ⟨a1.fr hF rfl, up_eq _ _ _ _, by rw [hF.row 103 rfl]; exact a3.2, by rw [hF.at 78 38 rfl]; exact a4, by rw [hF.at 78 41 rfl]; exact a5, by rw [hF.at 78 35 rfl]; exact a6, by rw [hF.row 102 rfl]; exact a7, by rw [hF.row 102 rfl]; exact a8, fun x hx => a9 x (List.mem_cons_of_mem _ hx)⟩ hC) (fun M2 ⟨b1, b2⟩ => wq_some ⟨b1, (hF.cov rfl : Fr xtL _ _).tr b2⟩)
theorem e_tmark {v : Int} (M : Mm) (h1 : 0 ≤ v) (h2 : v ≤ 100) : f_M_isMark v M = some (if mrkQ v = true then 1 else 0, M) := by
  unfold f_M_isMark mrkQ
  rw [i32_id (x := v) (by omega) (by omega), i32_id (x := 20) (by omega) (by omega), i32_id (x := 24) (by omega) (by omega)]
  by_cases c1 : v < 20
  · rw [if_pos c1, decide_eq_false (by omega)]; rfl
  · rw [if_neg c1]
    by_cases c2 : 24 < v
    · rw [if_pos c2, decide_eq_false (by omega)]; rfl
    · rw [if_neg c2, decide_eq_true (by omega)]; rfl
theorem xt_last (h : Xt U T e p g o W W0 C M) (hW : W.length + W0.length ≤ 1600) : wq (f_M_waitsLast M) (fun q => q.1 = tpm W ∧ q.2 = M) := by
  obtain ⟨a1, a2, a3, a4, a5, a6, a7, a8, a9⟩ := h
  have hl : (W ++ W0).length = W.length + W0.length := List.length_append
  unfold f_M_waitsLast f_M_waitsLast_L7
  refine wq_lp (fun z => z.2 = M ∧ ∃ W1 : List Int, z.1 = (W1.length : Int) + W0.length - 1 ∧ W1.length ≤ W.length ∧ tpm W1 = tpm W ∧ stk (M 103) (W1 ++ W0) ∧ ∀ v ∈ W1 ++ W0, 0 ≤ v ∧ v ≤ 100) (fun z => (z.1 + 1).toNat) ?_ FU _ ?_ ?_
  · rintro kH ⟨v1, N⟩ ⟨q1, W1, q2, q3, q4, q5, q6⟩ hk
    have b1 : N = M := q1
    have b2 : v1 = (W1.length : Int) + W0.length - 1 := q2
    clear q1 q2
    subst b1
    show wq (f_M_waitsLast_B7 (fun v1 M => kH (v1, M)) (fun v1 M3 => f_M_waitsLast_J34 v1 M3) v1 N) _
    unfold f_M_waitsLast_B7
    rw [a5, i32_id (x := v1) (by omega) (by omega), i32_id (x := (W0.length : Int)) (by omega) (by omega)]
    cases W1 with
    | nil =>
      have b2 : v1 = 0 + (W0.length : Int) - 1 := b2
      refine wq_t (by omega) ?_
      show wq (f_M_waitsLast_J34 v1 N) _
      unfold f_M_waitsLast_J34
      rw [a5, i32_id (x := v1) (by omega) (by omega), i32_id (x := (W0.length : Int)) (by omega) (by omega)]
      refine wq_t (by omega) (wq_some ⟨?_, rfl⟩)
      rw [← q4]; rfl
    | cons v W1 =>
      rw [List.length_cons] at b2 q3
      have hl1 : (W1 ++ W0).length = W1.length + W0.length := List.length_append
      have hv := q6 v List.mem_cons_self
      have q5 : stk (N 103) (v :: (W1 ++ W0)) := q5
      have hx : N 103 v1.toNat = v := by
        have := q5.1
        rw [← this]
        congr 1
        omega
      refine wq_e (by omega) (wq_g ⟨by omega, by omega⟩ ?_)
      rw [hx, e_tmark N hv.1 hv.2, bI_s]
      by_cases c : mrkQ v = true
      · rw [if_pos c]
        refine wq_t (by decide) ?_
        show wq (f_M_waitsLast_J34 v1 N) _
        unfold f_M_waitsLast_J34
        rw [a5, i32_id (x := v1) (by omega) (by omega), i32_id (x := (W0.length : Int)) (by omega) (by omega), hx]
        refine wq_e (by omega) (wq_g ⟨by omega, by omega⟩ (wq_some ⟨?_, rfl⟩))
        show v = tpm W
        rw [← q4, tpm_mrk c]
      · rw [if_neg c]
        refine wq_e (by decide) (hk _ ⟨rfl, W1, ?_, by omega, ?_, q5.2, fun x hx => q6 x (List.mem_cons_of_mem _ hx)⟩ (show (v1 + (-1) + 1).toNat < (v1 + 1).toNat by omega))
        · show v1 + (-1) = _
          omega
        · rw [← q4, tpm_non (by simpa using c)]
  · refine ⟨rfl, W, ?_, Nat.le_refl _, rfl, a3, a9⟩
    show M 78 37 - 1 = _
    rw [a2, hl]
    omega
  · show (M 78 37 - 1 + 1).toNat < 1000000000
    rw [a2, hl]
    omega
theorem xt_toM (h : Xt U T e p g o W W0 C M) (hW : C.length + W.length + W0.length ≤ 1600) : wq (f_M_dropsToMark M) (fun M' => Xt U T e p g o (rmk W) W0 (C ++ nmk W) M' ∧ Fr xtL M M') := by
  unfold f_M_dropsToMark f_M_dropsToMark_L0
  refine wq_lp (fun N => ∃ W1 C1 : List Int, Xt U T e p g o W1 W0 C1 N ∧ rmk W1 = rmk W ∧ C1 ++ nmk W1 = C ++ nmk W ∧ C1.length + W1.length ≤ C.length + W.length ∧ Fr xtL M N) (fun N => (N 78 37).toNat) ?_ FU _ ⟨W, C, h, rfl, rfl, Nat.le_refl _, Fr.rf⟩ ?_
  · rintro kH N ⟨W1, C1, q1, q2, q3, q4, q5⟩ hk
    obtain ⟨a1, a2, a3, a4, a5, a6, a7, a8, a9⟩ := q1
    have hl : (W1 ++ W0).length = W1.length + W0.length := List.length_append
    unfold f_M_dropsToMark_B0
    rw [a2, a5, hl, i32_id (x := ((W1.length + W0.length : Nat) : Int)) (by omega) (by omega), i32_id (x := (W0.length : Int)) (by omega) (by omega)]
    cases W1 with
    | nil =>
      refine wq_t (by rw [List.length_nil]; omega) (wq_some ⟨?_, q5⟩)
      rw [← q2, ← q3, show nmk [] = [] from rfl, show rmk [] = [] from rfl, List.append_nil]
      exact ⟨a1, a2, a3, a4, a5, a6, a7, a8, a9⟩
    | cons v W1 =>
      have hl1 : (W1 ++ W0).length = W1.length + W0.length := List.length_append
      have hv := a9 v List.mem_cons_self
      have a3 : stk (N 103) (v :: (W1 ++ W0)) := a3
      rw [List.length_cons] at q4 ⊢
      refine wq_e (by omega) ?_
      rw [i32_id (x := ((W1.length + 1 + W0.length : Nat) : Int) - 1) (by omega) (by omega), show (((W1.length + 1 + W0.length : Nat) : Int) - 1).toNat = (W1 ++ W0).length by omega, a3.1]
      refine wq_g ⟨by omega, by omega⟩ ?_
      rw [e_tmark N hv.1 hv.2, bI_s]
      by_cases c : mrkQ v = true
      · rw [if_pos c]
        refine wq_t (by decide) (wq_some ⟨?_, q5⟩)
        rw [← q2, ← q3, (nmk_mrk c).1, (nmk_mrk c).2, List.append_nil]
        exact ⟨a1, a2, a3, a4, a5, a6, a7, a8, a9⟩
      · rw [if_neg c]
        have c : mrkQ v = false := by simpa using c
        refine wq_e (by decide) (wq_V (xt_drops (U := U) ⟨a1, a2, a3, a4, a5, a6, a7, a8, a9⟩ (by omega) (by omega)) (fun M2 ⟨b1, b2⟩ => hk _ ⟨W1, C1 ++ [v], b1, by rw [← q2, (nmk_non c).2], by rw [← q3, (nmk_non c).1, List.append_assoc]; rfl, by rw [List.length_append, List.length_singleton]; omega, q5.tr b2⟩ ?_))
        rw [b1.2.1, a2, hl, hl1, List.length_cons]
        omega
  · rw [h.2.1, List.length_append]
    show _ < 1000000000
    omega
theorem xt_isOn {c : Int} (h : Xt U T e p g o W W0 C M) (hW : W.length + W0.length ≤ 1600) (hc : 0 ≤ c ∧ c ≤ 100) : wq (f_M_isOn c M) (fun q => tf q.1 ((W ++ W0).headD (-1) = c) ∧ q.2 = M) := by
  obtain ⟨a1, a2, a3, a4, a5, a6, a7, a8, a9⟩ := h
  have hl : (W ++ W0).length = W.length + W0.length := List.length_append
  unfold f_M_isOn
  rw [a2, i32_id (x := ((W ++ W0).length : Int)) (by omega) (by omega)]
  generalize W ++ W0 = V at *
  cases V with
  | nil => exact wq_t (by rw [List.length_nil]; omega) (wq_some ⟨Or.inr ⟨rfl, fun z => by have z : (-1 : Int) = c := z; omega⟩, rfl⟩)
  | cons v V =>
    have hv := a9 v List.mem_cons_self
    rw [List.length_cons] at hl ⊢
    refine wq_e (by omega) ?_
    rw [i32_id (x := ((V.length + 1 : Nat) : Int) - 1) (by omega) (by omega), show (((V.length + 1 : Nat) : Int) - 1).toNat = V.length by omega, a3.1, i32_id (x := v) (by omega) (by omega), i32_id (x := c) (by omega) (by omega)]
    refine wq_g ⟨by omega, by omega⟩ (wq_if (fun z => wq_some ⟨Or.inr ⟨rfl, z⟩, rfl⟩) (fun z => wq_some ⟨Or.inl ⟨rfl, Decidable.not_not.mp z⟩, rfl⟩))
end Xts
/-- the reference's cells while it reads a sum -/
def Xq (U : Nat → Int) (T : Nat → Int) (e p g o : Int) (W W0 C : List Int) (M : Mm) : Prop := Sm T e p g M ∧ M 78 91 = ((W ++ W0).length : Int) ∧ stk (M 143) (W ++ W0) ∧ M 78 92 = o ∧ M 78 93 = (W0.length : Int) ∧ M 78 89 = (C.length : Int) ∧ (∀ k : Nat, k < C.length → M 142 k = C.getD k 0) ∧ (∀ k : Nat, 1600 ≤ k → M 142 k = U k) ∧ ∀ v ∈ W ++ W0, 0 ≤ v ∧ v ≤ 100
def xqL : List (Nat × Nat) := [(78, 91), (78, 92), (78, 93), (78, 89), (143, 99999), (142, 99999)]
def xqA : List (Nat × Nat) := [(78, 91), (78, 92), (78, 93), (78, 89), (143, 99999), (142, 99999), (78, 2), (78, 4), (78, 5), (78, 6)]
section Xqs
variable {U T : Nat → Int} {e p g o : Int} {W W0 C : List Int} {M : Mm}
theorem Xq.sm {p' g' : Int} {M' : Mm} (h : Xq U T e p g o W W0 C M) (h1 : Sm T e p' g' M') (hF : Fr smL M M') : Xq U T e p' g' o W W0 C M' := by
  obtain ⟨-, a2, a3, a4, a5, a6, a7, a8, a9⟩ := h
  refine ⟨h1, by rw [hF.at 78 91 rfl]; exact a2, by rw [hF.row 143 rfl]; exact a3, by rw [hF.at 78 92 rfl]; exact a4, by rw [hF.at 78 93 rfl]; exact a5, by rw [hF.at 78 89 rfl]; exact a6, by rw [hF.row 142 rfl]; exact a7, by rw [hF.row 142 rfl]; exact a8, a9⟩
theorem xq_code {v : Int} (h : Xq U T e p g o W W0 C M) (hC : C.length < 1600) : wq (f_M_qCode v M) (fun M' => Xq U T e p g o W W0 (C ++ [v]) M' ∧ Fr xqL M M') := by
  obtain ⟨a1, a2, a3, a4, a5, a6, a7, a8, a9⟩ := h
  unfold f_M_qCode
  try simp only [Int.zero_add]
  rw [a6, i32_id (x := (C.length : Int)) (by omega) (by omega)]
  refine wq_g ⟨by omega, by omega⟩ (wq_d (wq_d (wq_some ?_)))
  rw [up_row (show ¬ (78 : Nat) = 142 by decide), a6]
  have hF : Fr [(78, 89), (142, 99999)] M (up (up M 142 (C.length : Int).toNat v) 78 89 ((C.length : Int) + 1)) := (Fr.rf.up (by simp)).up (by simp)
  refine ⟨⟨a1.fr hF rfl, by rw [hF.at 78 91 rfl]; exact a2, by rw [hF.row 143 rfl]; exact a3, by rw [hF.at 78 92 rfl]; exact a4, by rw [hF.at 78 93 rfl]; exact a5, by rw [up_eq, List.length_append]; rfl, fun k hk => ?_, fun k hk => ?_, a9⟩, hF.cov rfl⟩
  · rw [up_row (show ¬ (142 : Nat) = 78 by decide), up_at, Int.toNat_natCast]
    rw [List.length_append, List.length_singleton] at hk
    by_cases c : k = C.length
    · rw [if_pos ⟨rfl, c⟩, c, getD_app_n]
    · rw [if_neg (fun z => c z.2), getD_app_l (by omega)]
      exact a7 k (by omega)
  · rw [up_row (show ¬ (142 : Nat) = 78 by decide), up_at, Int.toNat_natCast, if_neg (fun z => by omega)]
    exact a8 k hk
theorem xq_drops {v : Int} (h : Xq U T e p g o (v :: W) W0 C M) (hC : C.length < 1600) (hW : W.length + W0.length < 1600) : wq (f_M_qDrops M) (fun M' => Xq U T e p g o W W0 (C ++ [v]) M' ∧ Fr xqL M M') := by
  obtain ⟨a1, a2, a3, a4, a5, a6, a7, a8, a9⟩ := h
  have a2 : M 78 91 = ((W ++ W0).length : Int) + 1 := by rw [a2, List.cons_append, List.length_cons]; omega
  have hl : (W ++ W0).length = W.length + W0.length := List.length_append
  have a3 : stk (M 143) (v :: (W ++ W0)) := a3
  unfold f_M_qDrops
  rw [a2, show ((W ++ W0).length : Int) + 1 - 1 = ((W ++ W0).length : Int) by omega]
  refine wq_d ?_
  have hF : Fr [(78, 91)] M (up M 78 91 ((W ++ W0).length : Int)) := Fr.rf.up (by simp)
  rw [up_eq, i32_id (x := ((W ++ W0).length : Int)) (by omega) (by omega), up_row (show ¬ (143 : Nat) = 78 by decide), Int.toNat_natCast, a3.1]
  refine wq_g ⟨by omega, by omega⟩ ?_
  refine wq_V (xq_code (W := W) (W0 := W0) (C := C) (U := U) (T := T) (e := e) (p := p) (g := g) (o := o) ⟨a1.fr hF rfl, up_eq _ _ _ _, by rw [hF.row 143 rfl]; exact a3.2, by rw [hF.at 78 92 rfl]; exact a4, by rw [hF.at 78 93 rfl]; exact a5, by rw [hF.at 78 89 rfl]; exact a6, by rw [hF.row 142 rfl]; exact a7, by rw [hF.row 142 rfl]; exact a8, fun x hx => a9 x (List.mem_cons_of_mem _ hx)⟩ hC) (fun M2 ⟨b1, b2⟩ => wq_some ⟨b1, (hF.cov rfl : Fr xqL _ _).tr b2⟩)
theorem e_qmark {v : Int} (M : Mm) (h1 : 0 ≤ v) (h2 : v ≤ 100) : f_M_qIsBracket v M = some (if mrkQ v = true then 1 else 0, M) := by
  unfold f_M_qIsBracket mrkQ
  rw [i32_id (x := v) (by omega) (by omega), i32_id (x := 20) (by omega) (by omega), i32_id (x := 24) (by omega) (by omega)]
  by_cases c1 : v < 20
  · rw [if_pos c1, decide_eq_false (by omega)]; rfl
  · rw [if_neg c1]
    by_cases c2 : 24 < v
    · rw [if_pos c2, decide_eq_false (by omega)]; rfl
    · rw [if_neg c2, decide_eq_true (by omega)]; rfl
theorem xq_last (h : Xq U T e p g o W W0 C M) (hW : W.length + W0.length ≤ 1600) : wq (f_M_qBracket M) (fun q => q.1 = tpm W ∧ q.2 = M) := by
  obtain ⟨a1, a2, a3, a4, a5, a6, a7, a8, a9⟩ := h
  have hl : (W ++ W0).length = W.length + W0.length := List.length_append
  unfold f_M_qBracket f_M_qBracket_L7
  refine wq_lp (fun z => z.2 = M ∧ ∃ W1 : List Int, z.1 = (W1.length : Int) + W0.length - 1 ∧ W1.length ≤ W.length ∧ tpm W1 = tpm W ∧ stk (M 143) (W1 ++ W0) ∧ ∀ v ∈ W1 ++ W0, 0 ≤ v ∧ v ≤ 100) (fun z => (z.1 + 1).toNat) ?_ FU _ ?_ ?_
  · rintro kH ⟨v1, N⟩ ⟨q1, W1, q2, q3, q4, q5, q6⟩ hk
    have b1 : N = M := q1
    have b2 : v1 = (W1.length : Int) + W0.length - 1 := q2
    clear q1 q2
    subst b1
    show wq (f_M_qBracket_B7 (fun v1 M => kH (v1, M)) (fun v1 M3 => f_M_qBracket_J33 v1 M3) v1 N) _
    unfold f_M_qBracket_B7
    rw [a5, i32_id (x := v1) (by omega) (by omega), i32_id (x := (W0.length : Int)) (by omega) (by omega)]
    cases W1 with
    | nil =>
      have b2 : v1 = 0 + (W0.length : Int) - 1 := b2
      refine wq_t (by omega) ?_
      show wq (f_M_qBracket_J33 v1 N) _
      unfold f_M_qBracket_J33
      rw [a5, i32_id (x := v1) (by omega) (by omega), i32_id (x := (W0.length : Int)) (by omega) (by omega)]
      refine wq_t (by omega) (wq_some ⟨?_, rfl⟩)
      rw [← q4]; rfl
    | cons v W1 =>
      rw [List.length_cons] at b2 q3
      have hl1 : (W1 ++ W0).length = W1.length + W0.length := List.length_append
      have hv := q6 v List.mem_cons_self
      have q5 : stk (N 143) (v :: (W1 ++ W0)) := q5
      have hx : N 143 v1.toNat = v := by
        have := q5.1
        rw [← this]
        congr 1
        omega
      refine wq_e (by omega) (wq_g ⟨by omega, by omega⟩ ?_)
      rw [hx, e_qmark N hv.1 hv.2, bI_s]
      by_cases c : mrkQ v = true
      · rw [if_pos c]
        refine wq_t (by decide) ?_
        show wq (f_M_qBracket_J33 v1 N) _
        unfold f_M_qBracket_J33
        rw [a5, i32_id (x := v1) (by omega) (by omega), i32_id (x := (W0.length : Int)) (by omega) (by omega), hx]
        refine wq_e (by omega) (wq_g ⟨by omega, by omega⟩ (wq_some ⟨?_, rfl⟩))
        show v = tpm W
        rw [← q4, tpm_mrk c]
      · rw [if_neg c]
        refine wq_e (by decide) (hk _ ⟨rfl, W1, ?_, by omega, ?_, q5.2, fun x hx => q6 x (List.mem_cons_of_mem _ hx)⟩ (show (v1 + (-1) + 1).toNat < (v1 + 1).toNat by omega))
        · show v1 + (-1) = _
          omega
        · rw [← q4, tpm_non (by simpa using c)]
  · refine ⟨rfl, W, ?_, Nat.le_refl _, rfl, a3, a9⟩
    show M 78 91 - 1 = _
    rw [a2, hl]
    omega
  · show (M 78 91 - 1 + 1).toNat < 1000000000
    rw [a2, hl]
    omega
theorem xq_toM (h : Xq U T e p g o W W0 C M) (hW : C.length + W.length + W0.length ≤ 1600) : wq (f_M_qDropsToBracket M) (fun M' => Xq U T e p g o (rmk W) W0 (C ++ nmk W) M' ∧ Fr xqL M M') := by
  unfold f_M_qDropsToBracket f_M_qDropsToBracket_L0
  refine wq_lp (fun N => ∃ W1 C1 : List Int, Xq U T e p g o W1 W0 C1 N ∧ rmk W1 = rmk W ∧ C1 ++ nmk W1 = C ++ nmk W ∧ C1.length + W1.length ≤ C.length + W.length ∧ Fr xqL M N) (fun N => (N 78 91).toNat) ?_ FU _ ⟨W, C, h, rfl, rfl, Nat.le_refl _, Fr.rf⟩ ?_
  · rintro kH N ⟨W1, C1, q1, q2, q3, q4, q5⟩ hk
    obtain ⟨a1, a2, a3, a4, a5, a6, a7, a8, a9⟩ := q1
    have hl : (W1 ++ W0).length = W1.length + W0.length := List.length_append
    unfold f_M_qDropsToBracket_B0
    rw [a2, a5, hl, i32_id (x := ((W1.length + W0.length : Nat) : Int)) (by omega) (by omega), i32_id (x := (W0.length : Int)) (by omega) (by omega)]
    cases W1 with
    | nil =>
      refine wq_t (by rw [List.length_nil]; omega) (wq_some ⟨?_, q5⟩)
      rw [← q2, ← q3, show nmk [] = [] from rfl, show rmk [] = [] from rfl, List.append_nil]
      exact ⟨a1, a2, a3, a4, a5, a6, a7, a8, a9⟩
    | cons v W1 =>
      have hl1 : (W1 ++ W0).length = W1.length + W0.length := List.length_append
      have hv := a9 v List.mem_cons_self
      have a3 : stk (N 143) (v :: (W1 ++ W0)) := a3
      rw [List.length_cons] at q4 ⊢
      refine wq_e (by omega) ?_
      rw [i32_id (x := ((W1.length + 1 + W0.length : Nat) : Int) - 1) (by omega) (by omega), show (((W1.length + 1 + W0.length : Nat) : Int) - 1).toNat = (W1 ++ W0).length by omega, a3.1]
      refine wq_g ⟨by omega, by omega⟩ ?_
      rw [e_qmark N hv.1 hv.2, bI_s]
      by_cases c : mrkQ v = true
      · rw [if_pos c]
        refine wq_t (by decide) (wq_some ⟨?_, q5⟩)
        rw [← q2, ← q3, (nmk_mrk c).1, (nmk_mrk c).2, List.append_nil]
        exact ⟨a1, a2, a3, a4, a5, a6, a7, a8, a9⟩
      · rw [if_neg c]
        have c : mrkQ v = false := by simpa using c
        refine wq_e (by decide) (wq_V (xq_drops (U := U) ⟨a1, a2, a3, a4, a5, a6, a7, a8, a9⟩ (by omega) (by omega)) (fun M2 ⟨b1, b2⟩ => hk _ ⟨W1, C1 ++ [v], b1, by rw [← q2, (nmk_non c).2], by rw [← q3, (nmk_non c).1, List.append_assoc]; rfl, by rw [List.length_append, List.length_singleton]; omega, q5.tr b2⟩ ?_))
        rw [b1.2.1, a2, hl, hl1, List.length_cons]
        omega
  · rw [h.2.1, List.length_append]
    show _ < 1000000000
    omega
theorem xq_isOn {c : Int} (h : Xq U T e p g o W W0 C M) (hW : W.length + W0.length ≤ 1600) (hc : 0 ≤ c ∧ c ≤ 100) : wq (f_M_qIsOn c M) (fun q => tf q.1 ((W ++ W0).headD (-1) = c) ∧ q.2 = M) := by
  obtain ⟨a1, a2, a3, a4, a5, a6, a7, a8, a9⟩ := h
  have hl : (W ++ W0).length = W.length + W0.length := List.length_append
  unfold f_M_qIsOn
  rw [a2, i32_id (x := ((W ++ W0).length : Int)) (by omega) (by omega)]
  generalize W ++ W0 = V at *
  cases V with
  | nil => exact wq_t (by rw [List.length_nil]; omega) (wq_some ⟨Or.inr ⟨rfl, fun z => by have z : (-1 : Int) = c := z; omega⟩, rfl⟩)
  | cons v V =>
    have hv := a9 v List.mem_cons_self
    rw [List.length_cons] at hl ⊢
    refine wq_e (by omega) ?_
    rw [i32_id (x := ((V.length + 1 : Nat) : Int) - 1) (by omega) (by omega), show (((V.length + 1 : Nat) : Int) - 1).toNat = V.length by omega, a3.1, i32_id (x := v) (by omega) (by omega), i32_id (x := c) (by omega) (by omega)]
    refine wq_g ⟨by omega, by omega⟩ (wq_if (fun z => wq_some ⟨Or.inr ⟨rfl, z⟩, rfl⟩) (fun z => wq_some ⟨Or.inl ⟨rfl, Decidable.not_not.mp z⟩, rfl⟩))
end Xqs
