def lTm : List (Nat × Nat) := [(78, 2), (78, 4), (78, 5), (78, 6), (78, 27), (78, 32), (78, 35), (78, 37), (78, 38), (78, 41), (98, 99999), (99, 99999), (100, 99999), (101, 99999), (102, 99999), (103, 99999), (104, 99999), (105, 99999)]
/-- the upper halves but the codes -/
def Uq (M M' : Mm) : Prop := (∀ k : Nat, 3 ≤ k → M' 98 k = M 98 k) ∧ (∀ k : Nat, 36 ≤ k → M' 99 k = M 99 k) ∧ (∀ k : Nat, 60 ≤ k → M' 100 k = M 100 k) ∧ (∀ k : Nat, 18 ≤ k → M' 101 k = M 101 k) ∧ (∀ k : Nat, 12 ≤ k → M' 104 k = M 104 k) ∧ (∀ k : Nat, 12 ≤ k → M' 105 k = M 105 k)
theorem Uq.rf {M : Mm} : Uq M M := ⟨fun _ _ => rfl, fun _ _ => rfl, fun _ _ => rfl, fun _ _ => rfl, fun _ _ => rfl, fun _ _ => rfl⟩
theorem Uq.tr {M M' M'' : Mm} (h : Uq M M') (h' : Uq M' M'') : Uq M M'' := ⟨fun k hk => (h'.1 k hk).trans (h.1 k hk), fun k hk => (h'.2.1 k hk).trans (h.2.1 k hk), fun k hk => (h'.2.2.1 k hk).trans (h.2.2.1 k hk), fun k hk => (h'.2.2.2.1 k hk).trans (h.2.2.2.1 k hk), fun k hk => (h'.2.2.2.2.1 k hk).trans (h.2.2.2.2.1 k hk), fun k hk => (h'.2.2.2.2.2 k hk).trans (h.2.2.2.2.2 k hk)⟩
theorem Uq.of {l : List (Nat × Nat)} {M M' : Mm} (h : Fr l M M') (hh : l.all (fun p => p.1 != 98 && (p.1 != 99 && (p.1 != 100 && (p.1 != 101 && (p.1 != 104 && p.1 != 105))))) = true) : Uq M M' := by
  have hz := fun p hp => List.all_eq_true.mp hh p hp
  simp only [Bool.and_eq_true, bne_iff_ne, ne_eq] at hz
  refine ⟨fun k _ => ?_, fun k _ => ?_, fun k _ => ?_, fun k _ => ?_, fun k _ => ?_, fun k _ => ?_⟩
  · rw [h.rw' 98 fun p hp => (hz p hp).1]
  · rw [h.rw' 99 fun p hp => (hz p hp).2.1]
  · rw [h.rw' 100 fun p hp => (hz p hp).2.2.1]
  · rw [h.rw' 101 fun p hp => (hz p hp).2.2.2.1]
  · rw [h.rw' 104 fun p hp => (hz p hp).2.2.2.2.1]
  · rw [h.rw' 105 fun p hp => (hz p hp).2.2.2.2.2]
theorem Uq.up {M M' : Mm} {i k : Nat} {v : Int} (h : Uq M M') (hk : (i = 98 ∧ k < 3) ∨ (i = 99 ∧ k < 36) ∨ (i = 100 ∧ k < 60) ∨ (i = 101 ∧ k < 18) ∨ (i = 104 ∧ k < 12) ∨ (i = 105 ∧ k < 12)) : Uq M (up M' i k v) := by
  obtain ⟨h1, h2, h3, h4, h5, h6⟩ := h
  refine ⟨fun q hq => ?_, fun q hq => ?_, fun q hq => ?_, fun q hq => ?_, fun q hq => ?_, fun q hq => ?_⟩ <;> rw [up_at, if_neg (by omega)]
  · exact h1 q hq
  · exact h2 q hq
  · exact h3 q hq
  · exact h4 q hq
  · exact h5 q hq
  · exact h6 q hq
def Uo (U : Nat → Int) (M : Mm) : Prop := ∀ k : Nat, 1600 ≤ k → M 102 k = U k
def Cm (U : Nat → Int) (S : Tn) (M : Mm) : Prop := M 78 35 = (S.C.length : Int) ∧ (∀ k : Nat, k < S.C.length → M 102 k = S.C.getD k 0) ∧ Uo U M
/-- the reference behind a statement -/
def Md (U T : Nat → Int) (e : Int) (z : Tn × Int × Int) (M : Mm) : Prop := Sm T e z.2.1 z.2.2 M ∧ Dnm z.1 M ∧ Drm z.1 M ∧ Cm U z.1 M ∧ Ws z.1 ∧ z.1.C.length ≤ z.2.1.toNat
section Mst
variable {U T : Nat → Int} {e p g : Int} {S : Tn} {M : Mm}
theorem Om_cs {α : Type} {R : Rs α} {K : α → Mm → Prop} (h : Om T e R K M) : (∃ f, R = .inl f ∧ Fm T e f.1 f.2 M) ∨ (∃ a, R = .inr a ∧ K a M) := by
  cases R with
  | inl f => exact Or.inl ⟨f, rfl, h⟩
  | inr a => exact Or.inr ⟨a, rfl, h⟩
theorem m_full {kd cap : Nat} {v : Int} (h : Sm T e p g M) (hk : kd < 3) (hcap : cap ≤ 12) (hle : S.c kd ≤ cap) (hD : Dkm S kd M) (hv : -1 ≤ v ∧ v ≤ 1600) : wq (f_M_isFull (kd : Int) (cap : Int) v M) (fun q => ((q.1 = 1 ∧ ¬ S.c kd < cap ∧ Fm T e 5 v q.2) ∨ (q.1 = 0 ∧ S.c kd < cap ∧ q.2 = M)) ∧ Fr mnL M q.2) := by
  unfold f_M_isFull
  rw [h.2.2.2.2.1, i32_id (x := (kd : Int)) (by omega) (by omega), Int.toNat_natCast, hD.1, i32_id (x := (S.c kd : Int)) (by omega) (by omega), i32_id (x := (cap : Int)) (by omega) (by omega)]
  refine wq_e (fun z => z rfl) (wq_g ⟨by omega, by omega⟩ (wq_if (fun c => ?_) (fun c => wq_V (s_mfail h (by decide) hv) (fun M1 ⟨a1, a2⟩ => ?_))))
  · unfold f_M_isFull_J23
    rw [h.2.2.2.2.1]
    exact wq_t rfl (wq_some ⟨Or.inr ⟨rfl, by omega, rfl⟩, Fr.rf⟩)
  · unfold f_M_isFull_J23
    rw [a1.2.2.1]
    exact wq_e (by decide) (wq_some ⟨Or.inl ⟨rfl, by omega, a1⟩, Fr.mono a2 (by simp [mnL, smL])⟩)
theorem m_asks {r : Nat} {L : List Int} (hB : Bt T e) (h : Sm T e p g M) (hL : rwd r L) : wq (f_M_asks r M) (fun M' => Om T e (wdR T e L p g) (fun a N => Sm T e a a N ∧ p < a) M' ∧ Fr mnL M M') := by
  have hp0 := h.2.2.2.2.2.1
  have hs1 := sk_rng T hp0.1 hp0.2
  have hl := hL.2.1.1
  unfold wdR
  refine wq_m (s_asks hB h hL) (fun M' ⟨a1, a2⟩ => ⟨?_, Fr.mono a2 (by simp [mnL, smL])⟩)
  rcases a1 with ⟨b1, b2⟩ | ⟨b1, b2⟩
  · rw [if_pos (hwq_iff.mpr b1)]
    exact ⟨b2, by show p < sk T e p + L.length; omega⟩
  · rw [if_neg (fun z => b1 (hwq_iff.mp z))]
    exact b2
theorem m_number {a b : Int} (hB : Bt T e) (h : Sm T e p p M) (ha : 0 ≤ a ∧ a ≤ 9999) (hb : 0 ≤ b ∧ b ≤ 9999) : wq (f_M_number a b M) (fun q => Om T e (numR T e a b p p) (fun z N => q.1 = z.2 ∧ (a ≤ z.2 ∧ z.2 ≤ b) ∧ Sm T e z.1 z.1 N ∧ p < z.1) q.2 ∧ Fr mnL M q.2) := by
  have hp0 := h.2.2.2.2.2.1
  have hs1 := sk_rng T hp0.1 hp0.2
  refine wq_m (s_mnumber hB h ha.1 ha.2 hb.1 hb.2) ?_
  rintro ⟨r, M'⟩ ⟨a1, a2⟩
  refine ⟨?_, Fr.mono a2 (by simp [mnL, smL])⟩
  rcases a1 with ⟨p1, v, b1, b2, b3, b4, b5⟩ | ⟨k, pl, b1, b2, b3⟩
  · rw [b1]
    exact ⟨b2, b3, b5, by show p < p1; omega⟩
  · rw [b1]
    exact b3
theorem e_sums_f {k pl : Int} (h : Fm T e k pl M) : wq (f_M_sumsTold M) (fun M' => Fm T e k pl M' ∧ Fr [(78, 41)] M M') := by
  have hk := h.2.2.2.2.1
  unfold f_M_sumsTold
  refine wq_d ?_
  obtain ⟨X, hX⟩ : ∃ X, X = up M 78 41 (M 78 37) := ⟨_, rfl⟩
  rw [← hX]
  have FX : Fr [(78, 41)] M X := by rw [hX]; exact Fr.rf.up (by simp)
  have hfX := h.fr FX rfl
  clear hX
  unfold f_M_sumsTold_L15
  refine wq_lp (fun z => z.2.1 = 1 ∧ z.2.2 = X) (fun z => 0) ?_ FU _ ⟨rfl, rfl⟩ (by decide)
  rintro kH ⟨v1, v2, N⟩ ⟨q1, q2⟩ -
  have q1 : v2 = 1 := q1
  show wq (f_M_sumsTold_B15 (fun v1 v2 M => kH (v1, v2, M)) (fun v1 M5 => f_M_sumsTold_L53 FU (v1, M5)) v1 v2 N) _
  have q2 : N = X := q2
  rw [q1, q2]
  unfold f_M_sumsTold_B15
  rw [hfX.2.2.1, i32_id (x := k) (by omega) (by omega)]
  refine wq_e (by decide) (wq_t (by omega) ?_)
  show wq (f_M_sumsTold_L53 FU (v1, X)) _
  unfold f_M_sumsTold_L53
  refine wq_lp (fun z => z.2 = X) (fun z => 0) ?_ FU _ rfl (by decide)
  rintro kH2 ⟨v3, N2⟩ q3 -
  show wq (f_M_sumsTold_B53 (fun v1 M => kH2 (v1, M)) v3 N2) _
  have q3 : N2 = X := q3
  rw [q3]
  unfold f_M_sumsTold_B53
  rw [hfX.2.2.1, i32_id (x := k) (by omega) (by omega)]
  have FY : Fr [(78, 41)] X (up X 78 41 v3) := Fr.rf.up (by simp)
  exact wq_t (by omega) (wq_d (wq_some ⟨hfX.fr FY rfl, FX.tr FY⟩))
/-- what a street's statement does behind its words -/
def nsT (n r4 r7 r10 r13 r16 r19 : Int) (M20 : Mm) : Option Mm :=
  gd (0 ≤ i32 n ∧ i32 n < ((24 : Nat) : Int)) <|
  bd (up M20 104 (i32 n).toNat (M20 78 35)) (fun M21 =>
  bd (up M21 78 37 0) (fun M22 =>
  bd (up M22 78 38 0) (fun M23 =>
  bd (up M23 78 41 0) (fun M24 =>
  bV (f_M_sumsTold M24) (fun M25 =>
  gd (0 ≤ i32 n ∧ i32 n < ((24 : Nat) : Int)) <|
  bd (up M25 105 (i32 n).toNat (M25 78 35)) (fun M26 =>
  if i32 (M26 78 5) = 0 then
    gd (0 ≤ i32 (12 + n) ∧ i32 (12 + n) < ((72 : Nat) : Int)) <|
    bd (up M26 99 (i32 (12 + n)).toNat r4) (fun M27 =>
    gd (0 ≤ i32 (5 * n) ∧ i32 (5 * n) < ((120 : Nat) : Int)) <|
    bd (up M27 100 (i32 (5 * n)).toNat r7) (fun M28 =>
    gd (0 ≤ i32 ((5 * n) + 1) ∧ i32 ((5 * n) + 1) < ((120 : Nat) : Int)) <|
    bd (up M28 100 (i32 ((5 * n) + 1)).toNat r10) (fun M29 =>
    gd (0 ≤ i32 ((5 * n) + 2) ∧ i32 ((5 * n) + 2) < ((120 : Nat) : Int)) <|
    bd (up M29 100 (i32 ((5 * n) + 2)).toNat r13) (fun M30 =>
    gd (0 ≤ i32 ((5 * n) + 3) ∧ i32 ((5 * n) + 3) < ((120 : Nat) : Int)) <|
    bd (up M30 100 (i32 ((5 * n) + 3)).toNat r16) (fun M31 =>
    gd (¬ i32 r16 = 0) <|
    gd (0 ≤ i32 ((5 * n) + 4) ∧ i32 ((5 * n) + 4) < ((120 : Nat) : Int)) <|
    bd (up M31 100 (i32 ((5 * n) + 4)).toNat ((i32 r19).tmod (i32 r16))) (fun M32 =>
    bd (up M32 98 1 ((M32 98 1) + 1)) (fun M33 =>
    some M33)))))))
  else
    some M26))))))
theorem nsT_f {n : Nat} {k pl r4 r7 r10 r13 r16 r19 : Int} (h : Fm T e k pl M) (hn : n < 12) (hU : Uo U M) : wq (nsT (n : Int) r4 r7 r10 r13 r16 r19 M) (fun M' => Fm T e k pl M' ∧ Uo U M' ∧ Uq M M' ∧ Fr lTm M M') := by
  have hk := h.2.2.2.2.1
  unfold nsT
  rw [i32_id (x := (n : Int)) (by omega) (by omega), Int.toNat_natCast]
  refine wq_g ⟨by omega, by omega⟩ (wq_d (wq_d (wq_d (wq_d ?_))))
  obtain ⟨X, hX⟩ : ∃ X, X = up (up (up (up M 104 n (M 78 35)) 78 37 0) 78 38 0) 78 41 0 := ⟨_, rfl⟩
  rw [← hX]
  have FX : Fr [(104, n), (78, 37), (78, 38), (78, 41)] M X := by rw [hX]; exact (((Fr.rf.up (by simp)).up (by simp)).up (by simp)).up (by simp)
  have UX : Uq M X := by
    have F2 : Fr [(78, 37), (78, 38), (78, 41)] (up M 104 n (M 78 35)) X := by rw [hX]; exact ((Fr.rf.up (by simp)).up (by simp)).up (by simp)
    exact (Uq.rf.up (Or.inr (Or.inr (Or.inr (Or.inr (Or.inl ⟨rfl, hn⟩)))))).tr (Uq.of F2 rfl)
  clear hX
  refine wq_V (e_sums_f (h.fr FX rfl)) (fun M2 ⟨a1, a2⟩ => wq_g ⟨by omega, by omega⟩ (wq_d ?_))
  have FY : Fr [(105, n)] M2 (up M2 105 n (M2 78 35)) := Fr.rf.up (by simp)
  have a3 := a1.fr FY rfl
  rw [a3.2.2.1, i32_id (x := k) (by omega) (by omega)]
  refine wq_e (by omega) (wq_some ⟨a3, fun q hq => ?_, (UX.tr (Uq.of a2 rfl)).up (Or.inr (Or.inr (Or.inr (Or.inr (Or.inr ⟨rfl, hn⟩))))), ?_⟩)
  · rw [FY.row 102 rfl, a2.row 102 rfl, FX.row 102 rfl]
    exact hU q hq
  · have c1 : Fr [(104, 99999), (78, 37), (78, 38), (78, 41)] M X := fun i q hq => FX i q (by
      intro y hy hz
      simp only [List.mem_cons, List.not_mem_nil, or_false] at hy
      rcases hy with w | w | w | w <;> subst w
      · exact hq (104, 99999) (by simp) ⟨hz.1, Or.inr rfl⟩
      all_goals exact hq _ (by simp) hz)
    have c2 : Fr [(105, 99999)] M2 (up M2 105 n (M2 78 35)) := Fr.rf.up (Or.inr (by simp))
    exact (c1.cov rfl : Fr lTm _ _).tr ((a2.cov rfl : Fr lTm _ _).tr (c2.cov rfl))
end Mst
