theorem hwq_sk (T : Nat → Int) (e : Int) (L : List Int) {p : Int} (g : Int) (h0 : 0 ≤ p) : hwq T e L (sk T e p) g = hwq T e L p g := by
  unfold hwq
  rw [sk_sk T h0]
theorem numR_sk (T : Nat → Int) (e a b : Int) {p : Int} (g : Int) (h0 : 0 ≤ p) : numR T e a b (sk T e p) g = numR T e a b p g := by
  unfold numR
  rw [sk_sk T h0]
theorem opd_sk (a : Bool) (T : Nat → Int) (e : Int) {p : Int} (g : Int) (h0 : 0 ≤ p) : opd a T e (sk T e p) g = opd a T e p g := by
  unfold opd
  rw [sk_sk T h0, numR_sk T e _ _ g h0, hwq_sk T e _ g h0, hwq_sk T e _ g h0, hwq_sk T e _ g h0, hwq_sk T e _ g h0, hwq_sk T e _ g h0]
theorem dD_sk (a : Bool) (T : Nat → Int) (e : Int) (n : Nat) (m : Bool) {p : Int} (g o : Int) (W C : List Int) (h0 : 0 ≤ p) : dD a T e n m (sk T e p) g o W C = dD a T e n m p g o W C := by
  cases n with
  | zero => rfl
  | succ n =>
    cases m with
    | true =>
      unfold dD
      rw [sk_sk T h0, opd_sk a T e g h0, hwq_sk T e _ g h0, hwq_sk T e _ g h0, hwq_sk T e _ g h0, hwq_sk T e _ g h0, hwq_sk T e _ g h0]
    | false =>
      unfold dD
      rw [sk_sk T h0]
theorem hw_sk {T : Nat → Int} {e p g : Int} {L : List Int} (h0 : 0 ≤ p) : hw T e L (sk T e p) g ↔ hw T e L p g := by
  unfold hw
  rw [sk_sk T h0]
theorem tpm_mrk {v : Int} {W : List Int} (h : mrkQ v = true) : tpm (v :: W) = v := by
  unfold tpm rmk
  rw [List.dropWhile_cons, h]
  rfl
theorem tpm_non {v : Int} {W : List Int} (h : mrkQ v = false) : tpm (v :: W) = tpm W := by
  unfold tpm rmk
  rw [List.dropWhile_cons, h]
  rfl
theorem nmk_mrk {v : Int} {W : List Int} (h : mrkQ v = true) : nmk (v :: W) = [] ∧ rmk (v :: W) = v :: W := by
  unfold nmk rmk
  rw [List.takeWhile_cons, List.dropWhile_cons, h]
  exact ⟨rfl, rfl⟩
theorem nmk_non {v : Int} {W : List Int} (h : mrkQ v = false) : nmk (v :: W) = v :: nmk W ∧ rmk (v :: W) = rmk W := by
  unfold nmk rmk
  rw [List.takeWhile_cons, List.dropWhile_cons, h]
  exact ⟨rfl, rfl⟩
theorem len_tw {α : Type} (q : α → Bool) (W : List α) : (W.takeWhile q).length + (W.dropWhile q).length = W.length := by
  rw [← List.length_append, List.takeWhile_append_dropWhile]
theorem len_nmk (W : List Int) : (nmk W).length + (rmk W).length = W.length := len_tw _ W
theorem sub_dw {q : Int → Bool} {W : List Int} {x : Int} (h : x ∈ W.dropWhile q) : x ∈ W := (List.dropWhile_sublist _).subset h
theorem sub_tw {q : Int → Bool} {W : List Int} {x : Int} (h : x ∈ W.takeWhile q) : x ∈ W := (List.takeWhile_sublist _).subset h
/-- what holds of the reading's stack at every step -/
def Iv (a : Bool) (o0 : Int) (b : Nat) (m : Bool) (p o : Int) (W C : List Int) : Prop := o ≤ 6 ∧ wsA o0 0 W o ∧ (m = false → noOf W) ∧ (a = false → ∀ v ∈ W, ¬ 60 ≤ v) ∧ C.length + W.length + b ≤ p.toNat
section IV
variable {a : Bool} {o0 p p1 o : Int} {b : Nat} {m : Bool} {W C : List Int}
theorem Iv.mono (h : Iv a o0 b m p o W C) (hp : p ≤ p1) : Iv a o0 b m p1 o W C := ⟨h.1, h.2.1, h.2.2.1, h.2.2.2.1, by have := h.2.2.2.2; omega⟩
theorem Iv.push {k : Int} (h : Iv a o0 b true p o W C) (hk : (20 ≤ k ∧ k ≤ 22) ∨ (a = true ∧ 60 ≤ k ∧ k ≤ 62)) (ho : o ≠ 6) (h0 : 0 ≤ p) (hp : p < p1) : Iv a o0 b true p1 (o + 1) (k :: W) C := by
  obtain ⟨h1, h2, h3, h4, h5⟩ := h
  refine ⟨by omega, ?_, (fun y => by cases y), fun y v hv => ?_, by simp only [List.length_cons]; omega⟩
  · rw [show o = o + 1 - 1 by omega] at h2
    rcases hk with y | y
    · exact Or.inr (Or.inr (Or.inl ⟨by omega, h2⟩))
    · exact Or.inr (Or.inr (Or.inr ⟨y.2, rfl, h2⟩))
  · rcases List.mem_cons.mp hv with w | w
    · rcases hk with u | u
      · omega
      · rw [y] at u; exact absurd u.1 (by decide)
    · exact h4 y v w
theorem Iv.part {v : Int} (h : Iv a o0 b true p o W C) (h0 : 0 ≤ p) (hp : p < p1) : Iv a o0 b false p1 (o - (W.takeWhile ofQ).length) (W.dropWhile ofQ) (C ++ v :: W.takeWhile ofQ) := by
  obtain ⟨h1, h2, h3, h4, h5⟩ := h
  obtain ⟨w1, w2, w3, w4, w5⟩ := ws_of W o h2
  exact ⟨by omega, w2, fun _ => w3, fun y x hx => h4 y x (sub_dw hx), by simp only [List.length_append, List.length_cons]; omega⟩
theorem Iv.close {cl : List Int} (h : Iv a o0 b false p o W C) (ht : tpm W ≠ -1) (hc : cl.length ≤ 1) (h0 : 0 ≤ p) (hp : p < p1) : (∃ k W', rmk W = k :: W' ∧ tpm W = k ∧ (20 ≤ k ∧ k ≤ 24)) ∧ Iv a o0 b false p1 (o - 1 - ((rmk W).tail.takeWhile ofQ).length) ((rmk W).tail.dropWhile ofQ) (C ++ (nmk W ++ (cl ++ (rmk W).tail.takeWhile ofQ))) := by
  obtain ⟨h1, h2, h3, h4, h5⟩ := h
  obtain ⟨k1, k2⟩ := ws_mrk W 0 o h2 (h3 rfl)
  rcases k2 with ⟨j1, j2, -⟩ | ⟨k, W', j1, j2, j3, j4, j5, j6⟩
  · exact absurd j2 ht
  · refine ⟨⟨k, W', j1, j2, j3⟩, ?_⟩
    rw [j1]
    show Iv a o0 b false p1 (o - 1 - (W'.takeWhile ofQ).length) (W'.dropWhile ofQ) (C ++ (nmk W ++ (cl ++ W'.takeWhile ofQ)))
    obtain ⟨w1, w2, w3, w4, w5⟩ := ws_of W' (o - 1) j5
    have hlen : W.length = (nmk W).length + (W'.length + 1) := by
      have := len_nmk W
      rw [j1, List.length_cons] at this
      omega
    have hmem : ∀ x ∈ W', x ∈ W := fun x hx => by
      rw [j4]
      exact List.mem_append_right _ (List.mem_cons_of_mem _ hx)
    exact ⟨by omega, w2, fun _ => w3, fun y x hx => h4 y x (hmem x (sub_dw hx)), by simp only [List.length_append]; omega⟩
theorem Iv.mul {v : Int} (h : Iv a o0 b false p o W C) (hv : v = 3 ∨ v = 4) (h0 : 0 ≤ p) (hp : p < p1) : Iv a o0 b true p1 o (v :: W.dropWhile mulQ) (C ++ W.takeWhile mulQ) := by
  obtain ⟨h1, h2, h3, h4, h5⟩ := h
  obtain ⟨w1, w2, w3, w4⟩ := ws_mul W o h2 (h3 rfl)
  refine ⟨h1, Or.inl ⟨hv, rfl, w2⟩, (fun y => by cases y), fun y x hx => ?_, by simp only [List.length_append, List.length_cons]; omega⟩
  rcases List.mem_cons.mp hx with z | z
  · omega
  · exact h4 y x (sub_dw z)
theorem Iv.add {v : Int} (h : Iv a o0 b false p o W C) (hv : v = 1 ∨ v = 2) (h0 : 0 ≤ p) (hp : p < p1) : Iv a o0 b true p1 o (v :: W.dropWhile opQ) (C ++ W.takeWhile opQ) := by
  obtain ⟨h1, h2, h3, h4, h5⟩ := h
  obtain ⟨w1, w2, w3, w4⟩ := ws_op W 0 o h2 (h3 rfl)
  refine ⟨h1, Or.inr (Or.inl ⟨hv, Nat.zero_le _, w2⟩), (fun y => by cases y), fun y x hx => ?_, by simp only [List.length_append, List.length_cons]; omega⟩
  rcases List.mem_cons.mp hx with z | z
  · omega
  · exact h4 y x (sub_dw z)
theorem Iv.comma (h : Iv a o0 b false p o W C) (ht : tpm W = 21 ∨ tpm W = 22) (h0 : 0 ≤ p) (hp : p < p1) : (∃ W', rmk W = tpm W :: W') ∧ Iv a o0 b true p1 o ((tpm W + 2) :: (rmk W).tail) (C ++ nmk W) := by
  obtain ⟨h1, h2, h3, h4, h5⟩ := h
  obtain ⟨k1, k2⟩ := ws_mrk W 0 o h2 (h3 rfl)
  rcases k2 with ⟨j1, j2, -⟩ | ⟨k, W', j1, j2, j3, j4, j5, j6⟩
  · omega
  · refine ⟨⟨W', by rw [j2]; exact j1⟩, ?_⟩
    rw [j1]
    show Iv a o0 b true p1 o ((tpm W + 2) :: W') (C ++ nmk W)
    have hlen : W.length = (nmk W).length + (W'.length + 1) := by
      have := len_nmk W
      rw [j1, List.length_cons] at this
      omega
    refine ⟨h1, Or.inr (Or.inr (Or.inl ⟨by omega, j5⟩)), (fun y => by cases y), fun y x hx => ?_, by simp only [List.length_append, List.length_cons]; omega⟩
    rcases List.mem_cons.mp hx with z | z
    · omega
    · exact h4 y x (by rw [j4]; exact List.mem_append_right _ (List.mem_cons_of_mem _ z))
theorem Iv.end (h : Iv a o0 b false p o W C) (ht : tpm W = -1) : o = o0 := by
  obtain ⟨h1, h2, h3, h4, h5⟩ := h
  obtain ⟨k1, k2⟩ := ws_mrk W 0 o h2 (h3 rfl)
  rcases k2 with ⟨j1, j2, j3, j4, j5⟩ | ⟨k, W', j1, j2, j3, -⟩
  · exact j5
  · omega
theorem Iv.lo (h : Iv a o0 b m p o W C) : o0 ≤ o := (wsA_wt W 0 o h.2.1).1
end IV
