/-- a question's codes, as the class has them -/
def tqC (v : Int) : Int := if 1000 ≤ v then v - 1000 else if v = 13 then 1 else if v = 12 then -9 else if 60 ≤ v then 54 - v else if v = 40 then -5 else if v = 41 then -3 else if v = 42 then -4 else -9 - v
def us (C : List Int) : Int := (if 60 ∈ C then 1 else 0) + (if 61 ∈ C then 2 else 0) + (if 62 ∈ C then 4 else 0)
theorem us_add (C : List Int) {v x : Int} (hv : (60 ≤ v ∧ v ≤ 62 ∧ x = 54 - v) ∨ ((v < 60 ∨ 62 < v) ∧ (x < -8 ∨ -6 < x))) : us (C ++ [v]) = or32 (us C) (if -8 ≤ x ∧ x ≤ -6 then shl32 1 (-6 - x) else 0) := by
  have hm : ∀ c : Int, (c ∈ C ++ [v]) ↔ (c ∈ C ∨ v = c) := by
    intro c
    rw [List.mem_append, List.mem_singleton]
    constructor
    · rintro (h | h)
      · exact Or.inl h
      · exact Or.inr h.symm
    · rintro (h | h)
      · exact Or.inl h
      · exact Or.inr h.symm
  unfold us
  simp only [hm]
  have hc : v = 60 ∧ x = -6 ∨ v = 61 ∧ x = -7 ∨ v = 62 ∧ x = -8 ∨ (v ≠ 60 ∧ v ≠ 61 ∧ v ≠ 62 ∧ (x < -8 ∨ -6 < x)) := by omega
  rcases hc with ⟨h1, h2⟩ | ⟨h1, h2⟩ | ⟨h1, h2⟩ | ⟨h1, h2, h3, h4⟩
  · subst h1 h2
    by_cases ha : (60 : Int) ∈ C <;> by_cases hb : (61 : Int) ∈ C <;> by_cases hc : (62 : Int) ∈ C <;> simp only [ha, hb, hc, true_or, or_true, false_or, or_false, Int.reduceEq, if_true, if_false, ↓reduceIte] <;> decide +kernel
  · subst h1 h2
    by_cases ha : (60 : Int) ∈ C <;> by_cases hb : (61 : Int) ∈ C <;> by_cases hc : (62 : Int) ∈ C <;> simp only [ha, hb, hc, true_or, or_true, false_or, or_false, Int.reduceEq, if_true, if_false, ↓reduceIte] <;> decide +kernel
  · subst h1 h2
    by_cases ha : (60 : Int) ∈ C <;> by_cases hb : (61 : Int) ∈ C <;> by_cases hc : (62 : Int) ∈ C <;> simp only [ha, hb, hc, true_or, or_true, false_or, or_false, Int.reduceEq, if_true, if_false, ↓reduceIte] <;> decide +kernel
  · rw [if_neg (show ¬ (-8 ≤ x ∧ x ≤ -6) by omega)]
    by_cases ha : (60 : Int) ∈ C <;> by_cases hb : (61 : Int) ∈ C <;> by_cases hc : (62 : Int) ∈ C <;> simp only [ha, hb, hc, h1, h2, h3, true_or, or_true, false_or, or_false, Int.reduceEq, if_true, if_false, ↓reduceIte] <;> decide +kernel
def cwq (w : Nat) (L : List Int) : Bool := decide (stLen.getD w 0 = L.length ∧ (1 ≤ L.length ∧ L.length ≤ 6)) && (List.range L.length).all (fun i => decide (sbyt w i = L.getD i 0 ∧ 97 ≤ L.getD i 0 ∧ L.getD i 0 ≤ 122))
theorem cw_of {w : Nat} {L : List Int} (h : cwq w L = true) : cwd w L := by
  unfold cwq at h
  simp only [Bool.and_eq_true, decide_eq_true_eq, List.all_eq_true, List.mem_range] at h
  exact ⟨h.1.1, h.1.2, h.2⟩
theorem cw_9 : cwd 9 wMin := cw_of (by decide +kernel)
theorem cw_10 : cwd 10 wMax := cw_of (by decide +kernel)
theorem cw_11 : cwd 11 wClock := cw_of (by decide +kernel)
theorem cw_12 : cwd 12 wDay := cw_of (by decide +kernel)
theorem cw_13 : cwd 13 wHour := cw_of (by decide +kernel)
theorem cw_14 : cwd 14 wWidth := cw_of (by decide +kernel)
theorem cw_15 : cwd 15 wTide := cw_of (by decide +kernel)
theorem cw_16 : cwd 16 wPasses := cw_of (by decide +kernel)
theorem cw_6 : cwd 6 wRound := cw_of (by decide +kernel)
theorem tw_app {q : Int → Bool} {A W : List Int} (hA : ∀ v ∈ A, q v = true) (hW : W.takeWhile q = []) : (A ++ W).takeWhile q = A ∧ (A ++ W).dropWhile q = W := by
  induction A with
  | nil =>
    have e := List.takeWhile_append_dropWhile (p := q) (l := W)
    rw [hW, List.nil_append] at e
    exact ⟨hW, e⟩
  | cons v A ih =>
    obtain ⟨i1, i2⟩ := ih (fun x hx => hA x (List.mem_cons_of_mem _ hx))
    have hv := hA v List.mem_cons_self
    rw [List.cons_append, List.takeWhile_cons, List.dropWhile_cons, hv, if_pos rfl, if_pos rfl, i1, i2]
    exact ⟨rfl, rfl⟩
theorem nmk_app {k : Int} {A W : List Int} (hA : ∀ v ∈ A, mrkQ v = false) (hk : mrkQ k = true) : nmk (A ++ k :: W) = A ∧ rmk (A ++ k :: W) = k :: W ∧ tpm (A ++ k :: W) = k := by
  have h := tw_app (q := fun v => !mrkQ v) (A := A) (W := k :: W) (fun v hv => by simp [hA v hv]) (by rw [List.takeWhile_cons, hk]; rfl)
  refine ⟨h.1, h.2, ?_⟩
  unfold tpm rmk
  rw [h.2]
  rfl
theorem noOf_dw {W : List Int} (h : noOf W) : W.dropWhile ofQ = W := by
  have e := List.takeWhile_append_dropWhile (p := ofQ) (l := W)
  rw [h, List.nil_append] at e
  exact e
/-- the class has met the fault -/
def Zb (T : Nat → Int) (e : Int) (R : Out) (M : Mm) : Prop := ∃ k pl, R = .inl (k, pl) ∧ Fb T e k pl M
section Yts
/-- the class's cells while it reads a sum -/
def Yt (T : Nat → Int) (e p g : Int) (C : List Int) (M : Mm) : Prop := Sc T e p g M ∧ M 33 3 = (C.length : Int) ∧ (∀ k : Nat, k < C.length → M 34 k = trC (C.getD k 0)) ∧ M 33 4 = us C ∧ M 38 2 = 0
def ytL : List (Nat × Nat) := [(33, 3), (33, 4), (34, 99999)]
def ytA : List (Nat × Nat) := [(33, 3), (33, 4), (34, 99999), (1, 2), (1, 3), (1, 4), (1, 5), (1, 6)]
variable {T : Nat → Int} {e p g o : Int} {W C : List Int} {M : Mm} {R : Out}
theorem Yt.sc {p' g' : Int} {M' : Mm} (h : Yt T e p g C M) (h1 : Sc T e p' g' M') (hF : Fr scL M M') : Yt T e p' g' C M' := by
  obtain ⟨-, a2, a3, a4, a5⟩ := h
  exact ⟨h1, by rw [hF.at 33 3 rfl]; exact a2, by rw [hF.row 34 rfl]; exact a3, by rw [hF.at 33 4 rfl]; exact a4, by rw [hF.at 38 2 rfl]; exact a5⟩
theorem ptr_38 : ptr 38 1 = 33 := by decide +kernel
theorem ptr_33 : ptr 33 0 = 34 := by decide +kernel
theorem yt_add {v x : Int} (h : Yt T e p g C M) (hC : C.length < 1600) (hx : trC v = x) (hr : -20 ≤ x ∧ x ≤ 9999) (hv : (60 ≤ v ∧ v ≤ 62 ∧ x = 54 - v) ∨ ((v < 60 ∨ 62 < v) ∧ (x < -8 ∨ -6 < x))) : wq (f_Code_add 33 x M) (fun M' => Yt T e p g (C ++ [v]) M' ∧ Fr ytL M M') := by
  obtain ⟨a1, a2, a3, a4, a5⟩ := h
  have hu := us_add C hv
  unfold f_Code_add
  rw [ptr_33, a2, show ((1600 : Nat) : Int) = 1600 from rfl, i32_id (x := (C.length : Int)) (by omega) (by omega), i32_id (x := 1600) (by decide) (by decide), i32_id (x := x) (by omega) (by omega), i32_id (x := (-6)) (by decide) (by decide), i32_id (x := (-8)) (by decide) (by decide), Int.toNat_natCast]
  refine wq_e (by omega) (wq_e (by omega) (wq_g ⟨by omega, by omega⟩ (wq_d (wq_d ?_))))
  rw [up_row (show ¬ (33 : Nat) = 34 by decide), a2]
  have hF : Fr [(33, 3), (34, 99999)] M (up (up M 34 C.length x) 33 3 ((C.length : Int) + 1)) := (Fr.rf.up (by simp)).up (by simp)
  have e3 : (up (up M 34 C.length x) 33 3 ((C.length : Int) + 1)) 33 3 = (C.length : Int) + 1 := up_eq _ _ _ _
  have es : ∀ k : Nat, k < (C ++ [v]).length → (up (up M 34 C.length x) 33 3 ((C.length : Int) + 1)) 34 k = trC ((C ++ [v]).getD k 0) := by
    intro k hk
    rw [List.length_append, List.length_singleton] at hk
    rw [up_row (show ¬ (34 : Nat) = 33 by decide), up_at]
    by_cases c : k = C.length
    · rw [if_pos ⟨rfl, c⟩, c, getD_app_n, hx]
    · rw [if_neg (fun z => c z.2), getD_app_l (by omega)]
      exact a3 k (by omega)
  generalize up (up M 34 C.length x) 33 3 ((C.length : Int) + 1) = N at *
  have a4 : N 33 4 = us C := by rw [hF.at 33 4 rfl]; exact a4
  have fin : ∀ z, z = us (C ++ [v]) → wq (bd (up N 33 4 z) (fun M3 => some M3)) (fun M' => Yt T e p g (C ++ [v]) M' ∧ Fr ytL M M') := by
    intro z hz
    have hF2 : Fr [(33, 4)] N (up N 33 4 z) := Fr.rf.up (by simp)
    refine wq_d (wq_some ⟨⟨(a1.fr hF rfl).fr hF2 rfl, ?_, ?_, by rw [up_eq]; exact hz, ?_⟩, (hF.cov rfl : Fr ytL _ _).tr (hF2.cov rfl)⟩)
    · rw [hF2.at 33 3 rfl, e3, List.length_append]; rfl
    · rw [hF2.row 34 rfl]; exact es
    · rw [hF2.at 38 2 rfl, hF.at 38 2 rfl]; exact a5
  rw [a4]
  refine wq_if (fun c => ?_) (fun c => wq_if (fun c2 => ?_) (fun c2 => ?_))
  · exact fin _ (by rw [hu, if_neg (by omega)])
  · exact fin _ (by rw [hu, if_neg (by omega)])
  · exact fin _ (by rw [hu, if_pos (by omega)])
theorem yt_took {v x : Int} (h : Yt T e p g C M) (hC : C.length < 1600) (hx : trC v = x) (hr : -20 ≤ x ∧ x ≤ 9999) (hv : (60 ≤ v ∧ v ≤ 62 ∧ x = 54 - v) ∨ ((v < 60 ∨ 62 < v) ∧ (x < -8 ∨ -6 < x))) : wq (f_Reader_took 38 x M) (fun q => q.1 = 1 ∧ Yt T e p g (C ++ [v]) q.2 ∧ Fr ytL M q.2) := by
  unfold f_Reader_took
  rw [ptr_38]
  exact wq_V (yt_add h hC hx hr hv) (fun M1 ⟨z1, z2⟩ => wq_some ⟨rfl, z1, z2⟩)
theorem yt_may (h : Yt T e p g C M) (ho : 0 ≤ o ∧ o ≤ 6) (hB : Bt T e) : wq (f_Reader_mayOpen 38 o M) (fun q => ((q.1 = 1 ∧ o ≠ 6 ∧ q.2 = M) ∨ (q.1 = 0 ∧ o = 6 ∧ Fb T e 4 p q.2)) ∧ Fr scL M q.2) := by
  have hh := hB.1
  have b := h.1.2.2.2.2.2.1
  unfold f_Reader_mayOpen
  rw [h.1.2.2.1, i32_id (x := o) (by omega) (by omega), i32_id (x := 6) (by decide) (by decide)]
  refine wq_if (fun c => wq_some ⟨Or.inl ⟨rfl, by omega, rfl⟩, Fr.rf⟩) (fun c => wq_I (s_fail h.1 (by decide) (by omega)) (fun r M1 ⟨z1, z2, z3⟩ => ?_))
  have z1 : r = 0 := z1
  rw [z1]
  exact wq_t (by decide) (wq_some ⟨Or.inr ⟨rfl, by omega, z2⟩, z3⟩)
end Yts
section Yqs
/-- the class's cells while it reads a sum -/
def Yq (T : Nat → Int) (e p g : Int) (C : List Int) (M : Mm) : Prop := Sc T e p g M ∧ M 71 3 = (C.length : Int) ∧ (∀ k : Nat, k < C.length → M 72 k = tqC (C.getD k 0)) ∧ M 71 4 = us C ∧ M 76 2 = 1
def yqL : List (Nat × Nat) := [(71, 3), (71, 4), (72, 99999)]
def yqA : List (Nat × Nat) := [(71, 3), (71, 4), (72, 99999), (1, 2), (1, 3), (1, 4), (1, 5), (1, 6)]
variable {T : Nat → Int} {e p g o : Int} {W C : List Int} {M : Mm} {R : Out}
theorem Yq.sc {p' g' : Int} {M' : Mm} (h : Yq T e p g C M) (h1 : Sc T e p' g' M') (hF : Fr scL M M') : Yq T e p' g' C M' := by
  obtain ⟨-, a2, a3, a4, a5⟩ := h
  exact ⟨h1, by rw [hF.at 71 3 rfl]; exact a2, by rw [hF.row 72 rfl]; exact a3, by rw [hF.at 71 4 rfl]; exact a4, by rw [hF.at 76 2 rfl]; exact a5⟩
theorem ptr_76 : ptr 76 1 = 71 := by decide +kernel
theorem ptr_71 : ptr 71 0 = 72 := by decide +kernel
theorem yq_add {v x : Int} (h : Yq T e p g C M) (hC : C.length < 1600) (hx : tqC v = x) (hr : -20 ≤ x ∧ x ≤ 9999) (hv : (60 ≤ v ∧ v ≤ 62 ∧ x = 54 - v) ∨ ((v < 60 ∨ 62 < v) ∧ (x < -8 ∨ -6 < x))) : wq (f_Code_add 71 x M) (fun M' => Yq T e p g (C ++ [v]) M' ∧ Fr yqL M M') := by
  obtain ⟨a1, a2, a3, a4, a5⟩ := h
  have hu := us_add C hv
  unfold f_Code_add
  rw [ptr_71, a2, show ((1600 : Nat) : Int) = 1600 from rfl, i32_id (x := (C.length : Int)) (by omega) (by omega), i32_id (x := 1600) (by decide) (by decide), i32_id (x := x) (by omega) (by omega), i32_id (x := (-6)) (by decide) (by decide), i32_id (x := (-8)) (by decide) (by decide), Int.toNat_natCast]
  refine wq_e (by omega) (wq_e (by omega) (wq_g ⟨by omega, by omega⟩ (wq_d (wq_d ?_))))
  rw [up_row (show ¬ (71 : Nat) = 72 by decide), a2]
  have hF : Fr [(71, 3), (72, 99999)] M (up (up M 72 C.length x) 71 3 ((C.length : Int) + 1)) := (Fr.rf.up (by simp)).up (by simp)
  have e3 : (up (up M 72 C.length x) 71 3 ((C.length : Int) + 1)) 71 3 = (C.length : Int) + 1 := up_eq _ _ _ _
  have es : ∀ k : Nat, k < (C ++ [v]).length → (up (up M 72 C.length x) 71 3 ((C.length : Int) + 1)) 72 k = tqC ((C ++ [v]).getD k 0) := by
    intro k hk
    rw [List.length_append, List.length_singleton] at hk
    rw [up_row (show ¬ (72 : Nat) = 71 by decide), up_at]
    by_cases c : k = C.length
    · rw [if_pos ⟨rfl, c⟩, c, getD_app_n, hx]
    · rw [if_neg (fun z => c z.2), getD_app_l (by omega)]
      exact a3 k (by omega)
  generalize up (up M 72 C.length x) 71 3 ((C.length : Int) + 1) = N at *
  have a4 : N 71 4 = us C := by rw [hF.at 71 4 rfl]; exact a4
  have fin : ∀ z, z = us (C ++ [v]) → wq (bd (up N 71 4 z) (fun M3 => some M3)) (fun M' => Yq T e p g (C ++ [v]) M' ∧ Fr yqL M M') := by
    intro z hz
    have hF2 : Fr [(71, 4)] N (up N 71 4 z) := Fr.rf.up (by simp)
    refine wq_d (wq_some ⟨⟨(a1.fr hF rfl).fr hF2 rfl, ?_, ?_, by rw [up_eq]; exact hz, ?_⟩, (hF.cov rfl : Fr yqL _ _).tr (hF2.cov rfl)⟩)
    · rw [hF2.at 71 3 rfl, e3, List.length_append]; rfl
    · rw [hF2.row 72 rfl]; exact es
    · rw [hF2.at 76 2 rfl, hF.at 76 2 rfl]; exact a5
  rw [a4]
  refine wq_if (fun c => ?_) (fun c => wq_if (fun c2 => ?_) (fun c2 => ?_))
  · exact fin _ (by rw [hu, if_neg (by omega)])
  · exact fin _ (by rw [hu, if_neg (by omega)])
  · exact fin _ (by rw [hu, if_pos (by omega)])
theorem yq_took {v x : Int} (h : Yq T e p g C M) (hC : C.length < 1600) (hx : tqC v = x) (hr : -20 ≤ x ∧ x ≤ 9999) (hv : (60 ≤ v ∧ v ≤ 62 ∧ x = 54 - v) ∨ ((v < 60 ∨ 62 < v) ∧ (x < -8 ∨ -6 < x))) : wq (f_Reader_took 76 x M) (fun q => q.1 = 1 ∧ Yq T e p g (C ++ [v]) q.2 ∧ Fr yqL M q.2) := by
  unfold f_Reader_took
  rw [ptr_76]
  exact wq_V (yq_add h hC hx hr hv) (fun M1 ⟨z1, z2⟩ => wq_some ⟨rfl, z1, z2⟩)
theorem yq_may (h : Yq T e p g C M) (ho : 0 ≤ o ∧ o ≤ 6) (hB : Bt T e) : wq (f_Reader_mayOpen 76 o M) (fun q => ((q.1 = 1 ∧ o ≠ 6 ∧ q.2 = M) ∨ (q.1 = 0 ∧ o = 6 ∧ Fb T e 4 p q.2)) ∧ Fr scL M q.2) := by
  have hh := hB.1
  have b := h.1.2.2.2.2.2.1
  unfold f_Reader_mayOpen
  rw [h.1.2.2.1, i32_id (x := o) (by omega) (by omega), i32_id (x := 6) (by decide) (by decide)]
  refine wq_if (fun c => wq_some ⟨Or.inl ⟨rfl, by omega, rfl⟩, Fr.rf⟩) (fun c => wq_I (s_fail h.1 (by decide) (by omega)) (fun r M1 ⟨z1, z2, z3⟩ => ?_))
  have z1 : r = 0 := z1
  rw [z1]
  exact wq_t (by decide) (wq_some ⟨Or.inr ⟨rfl, by omega, z2⟩, z3⟩)
end Yqs
