/-- the town that stands in the reference, as it has been read -/
def Sd (S : Tn) (N : Mm) : Prop := (∀ k : Nat, k < 3 → N 98 (3 + k) = (S.c k : Int)) ∧ (∀ kd w : Nat, kd < 3 → w < S.c kd → N 99 (36 + (12 * kd + w)) = pk27 0 (S.nm (12 * kd + w))) ∧ (∀ s : Nat, s < S.c 1 → (∀ j : Nat, j < 5 → N 100 (60 + (5 * s + j)) = S.r j s) ∧ N 104 (12 + s) = S.r 5 s ∧ N 105 (12 + s) = S.r 6 s ∧ N 108 (1 + s) = S.r 4 s) ∧ (∀ w : Nat, w < S.c 2 → (∀ j : Nat, j < 3 → N 101 (18 + (3 * w + j)) = S.w j w) ∧ N 108 (13 + 3 * w) = S.w 1 w ∧ N 108 (14 + 3 * w) = S.w 2 w ∧ N 108 (15 + 3 * w) = 0) ∧ (∀ k : Nat, k < S.C.length → N 102 (1600 + k) = S.C.getD k 0) ∧ N 108 0 = S.bg ∧ N 78 63 = 0 ∧ N 78 66 = 0
def lSt : List (Nat × Nat) := [(98, 99999), (99, 99999), (100, 99999), (101, 99999), (102, 99999), (104, 99999), (105, 99999), (108, 99999), (78, 63), (78, 66)]
theorem m_stands {S : Tn} {M : Mm} {Q : Mm → Prop} (hN : Dnm S M) (hR : Drm S M) (hS : Ws S) (hC1 : M 78 35 = (S.C.length : Int)) (hC2 : ∀ k : Nat, k < S.C.length → M 102 k = S.C.getD k 0) (hl : S.C.length ≤ 1600) (hk : ∀ N, Sd S N → Fr lSt M N → Q N) : wq (f_M_stands M) Q := by
  obtain ⟨c0, c1, c2⟩ := hS.1.1
  unfold f_M_stands
  refine st_98 (fun N1 h1 => st_99 (fun N2 h2 => st_100 (fun N3 h3 => st_101 (fun N4 h4 => st_104 (fun N5 h5 h5b f5 => ?_)))))
  have f1 := h1.2
  have f2 := h2.2
  have f3 := h3.2
  have f4 := h4.2
  refine st_102 (m := S.C.length) (by rw [f5.row 78 rfl, f4.row 78 rfl, f3.row 78 rfl, f2.row 78 rfl, f1.row 78 rfl]; exact hC1) hl (fun N6 h6 => st_108 (fun N7 h7 f7 => ?_))
  have f6 := h6.2
  have f8 : Fr [(108, 0)] N7 (up N7 108 0 (N7 78 32)) := Fr.rf.up (by simp)
  have h8 : up N7 108 0 (N7 78 32) 108 0 = N7 78 32 := up_eq _ _ _ _
  have h8b : ∀ k : Nat, k ≠ 0 → up N7 108 0 (N7 78 32) 108 k = N7 108 k := fun k hk => up_col hk
  refine wq_d ?_
  generalize up N7 108 0 (N7 78 32) = N8 at *
  have n98 : N8 98 = N1 98 := by rw [f8.row 98 rfl, f7.row 98 rfl, f6.row 98 rfl, f5.row 98 rfl, f4.row 98 rfl, f3.row 98 rfl, f2.row 98 rfl]
  have d98 : ∀ k : Nat, k < 3 → M 98 k = (S.c k : Int) := by
    intro k hk
    have hk3 : k = 0 ∨ k = 1 ∨ k = 2 := by omega
    rcases hk3 with z | z | z <;> subst z
    · exact hN.1.1
    · exact hN.2.1.1
    · exact hN.2.2.1
  have l98 : ∀ k : Nat, k < 3 → N8 98 k = (S.c k : Int) := fun k hk => by rw [n98, h1.1 k, if_neg (by omega)]; exact d98 k hk
  refine st_s (m := S.c 1) (l98 1 (by decide)) c1 (fun N9 h9 h9b f9 => ?_)
  refine st_w (m := S.c 2) (by rw [f9.row 98 rfl]; exact l98 2 (by decide)) c2 (fun N10 h10 h10b f10 => wq_d (wq_d (wq_some ?_)))
  have f11 : Fr [(78, 63), (78, 66)] N10 (up (up N10 78 63 0) 78 66 0) := (Fr.rf.up (by simp)).up (by simp)
  have h63 : up (up N10 78 63 0) 78 66 0 78 63 = 0 := by rw [up_col (by decide), up_eq]
  have h66 : up (up N10 78 63 0) 78 66 0 78 66 = 0 := up_eq _ _ _ _
  generalize up (up N10 78 63 0) 78 66 0 = N at *
  have e8 : ∀ r : Nat, (r = 98 ∨ r = 99 ∨ r = 100 ∨ r = 101 ∨ r = 102 ∨ r = 104 ∨ r = 105) → N r = N8 r := by
    intro r hr
    rw [f11.rw' r (fun q hq => by simp at hq; rcases hq with z | z <;> subst z <;> simp <;> omega), f10.rw' r (fun q hq => by simp at hq; subst hq; simp; omega), f9.rw' r (fun q hq => by simp at hq; subst hq; simp; omega)]
  have m32 : N8 108 0 = S.bg := by rw [h8, f7.row 78 rfl, f6.row 78 rfl, f5.row 78 rfl, f4.row 78 rfl, f3.row 78 rfl, f2.row 78 rfl, f1.row 78 rfl]; exact hR.2.2
  have n100 : N8 100 = N3 100 := by rw [f8.row 100 rfl, f7.row 100 rfl, f6.row 100 rfl, f5.row 100 rfl, f4.row 100 rfl]
  have n101 : N8 101 = N4 101 := by rw [f8.row 101 rfl, f7.row 101 rfl, f6.row 101 rfl, f5.row 101 rfl]
  have m100 : N2 100 = M 100 := by rw [f2.row 100 rfl, f1.row 100 rfl]
  have m101 : N3 101 = M 101 := by rw [f3.row 101 rfl, f2.row 101 rfl, f1.row 101 rfl]
  refine hk N ⟨fun k hk => ?_, fun kd w h1' h2' => ?_, fun s hs => ⟨fun j hj => ?_, ?_, ?_, ?_⟩, fun w hw => ⟨fun j hj => ?_, ?_, ?_, ?_⟩, fun k hk => ?_, ?_, h63, h66⟩ ?_
  · rw [e8 98 (by omega), n98, h1.1 (3 + k), if_pos (by omega), show 3 + k - 3 = k by omega]
    exact d98 k hk
  · have hk3 : kd = 0 ∨ kd = 1 ∨ kd = 2 := by omega
    have hlt : 12 * kd + w < 36 := by
      rcases hk3 with z | z | z <;> subst z <;> omega
    rw [e8 99 (by omega), f8.row 99 rfl, f7.row 99 rfl, f6.row 99 rfl, f5.row 99 rfl, f4.row 99 rfl, f3.row 99 rfl, h2.1, if_pos (by omega), show 36 + (12 * kd + w) - 36 = 12 * kd + w by omega, f1.row 99 rfl]
    rcases hk3 with z | z | z <;> subst z
    · exact hN.1.2 w h2'
    · exact hN.2.1.2 w h2'
    · exact hN.2.2.2 w h2'
  · rw [e8 100 (by omega), n100, h3.1, if_pos (by omega), show 60 + (5 * s + j) - 60 = 5 * s + j by omega, m100]
    exact (hR.1 s hs).1 j hj
  · rw [e8 104 (by omega), f8.row 104 rfl, f7.row 104 rfl, f6.row 104 rfl, h5, if_pos (by omega), show 12 + s - 12 = s by omega, f4.row 104 rfl, f3.row 104 rfl, f2.row 104 rfl, f1.row 104 rfl]
    exact (hR.1 s hs).2.1
  · rw [e8 105 (by omega), f8.row 105 rfl, f7.row 105 rfl, f6.row 105 rfl, h5b, if_pos (by omega), show 12 + s - 12 = s by omega, f4.row 105 rfl, f3.row 105 rfl, f2.row 105 rfl, f1.row 105 rfl]
    exact (hR.1 s hs).2.2
  · rw [f11.row 108 rfl, h10b (1 + s) (Or.inl (by omega)), h9 s hs, n100, h3.1, if_neg (by omega), m100]
    exact (hR.1 s hs).1 4 (by decide)
  · rw [e8 101 (by omega), n101, h4.1, if_pos (by omega), show 18 + (3 * w + j) - 18 = 3 * w + j by omega, m101]
    exact hR.2.1 w hw j hj
  · rw [f11.row 108 rfl, (h10 w hw).1, f9.row 101 rfl, n101, h4.1, if_neg (by omega), m101]
    exact hR.2.1 w hw 1 (by decide)
  · rw [f11.row 108 rfl, (h10 w hw).2, f9.row 101 rfl, n101, h4.1, if_neg (by omega), m101]
    exact hR.2.1 w hw 2 (by decide)
  · rw [f11.row 108 rfl, h10b _ (Or.inr ⟨w, rfl⟩), h9b _ (Or.inr (by omega)), h8b _ (by omega)]
    exact h7 _ (by omega)
  · rw [e8 102 (by omega), f8.row 102 rfl, f7.row 102 rfl, h6.1, if_pos (by omega), show 1600 + k - 1600 = k by omega, f5.row 102 rfl, f4.row 102 rfl, f3.row 102 rfl, f2.row 102 rfl, f1.row 102 rfl]
    exact hC2 k hk
  · rw [f11.row 108 rfl, h10b 0 (Or.inl (by decide)), h9b 0 (Or.inl rfl)]
    exact m32
  · exact (f1.cov rfl : Fr lSt _ _).tr ((f2.cov rfl : Fr lSt _ _).tr ((f3.cov rfl : Fr lSt _ _).tr ((f4.cov rfl : Fr lSt _ _).tr ((f5.cov rfl : Fr lSt _ _).tr ((f6.cov rfl : Fr lSt _ _).tr ((f7.cov rfl : Fr lSt _ _).tr ((f8.cov rfl : Fr lSt _ _).tr ((f9.cov rfl : Fr lSt _ _).tr ((f10.cov rfl : Fr lSt _ _).tr (f11.cov rfl))))))))))
/-- what stands in the reference is a sound town, in a sound state -/
theorem sd_ok {S : Tn} {N : Mm} (h : Sd S N) (hS : Ws S) (hl : S.C.length ≤ 1600) : Tw N ∧ Nw N := by
  obtain ⟨h1, h2, h3, h4, h5, h6, h7, h8⟩ := h
  obtain ⟨⟨⟨c0, c1, c2⟩, -⟩, hs, hw, hb⟩ := hS
  have eP : nP N = (S.c 0 : Int) := h1 0 (by decide)
  have eS : nS N = (S.c 1 : Int) := h1 1 (by decide)
  have eW : nW N = (S.c 2 : Int) := h1 2 (by decide)
  have rows : ∀ s : Nat, s < S.c 1 → eF N s = S.r 0 s ∧ eT N s = S.r 1 s ∧ tk N s = S.r 2 s ∧ rd N s = S.r 3 s ∧ cF N s = S.r 5 s ∧ cT N s = S.r 6 s ∧ sf N s = S.r 4 s := by
    intro s hs'
    obtain ⟨a1, a2, a3, a4⟩ := h3 s hs'
    unfold eF eT tk rd cF cT sf
    rw [show (60 + 5 * (s : Int)).toNat = 60 + (5 * s + 0) by omega, show (61 + 5 * (s : Int)).toNat = 60 + (5 * s + 1) by omega, show (62 + 5 * (s : Int)).toNat = 60 + (5 * s + 2) by omega, show (63 + 5 * (s : Int)).toNat = 60 + (5 * s + 3) by omega, show (12 + (s : Int)).toNat = 12 + s by omega, show (1 + (s : Int)).toNat = 1 + s by omega]
    exact ⟨a1 0 (by decide), a1 1 (by decide), a1 2 (by decide), a1 3 (by decide), a2, a3, a4⟩
  have wrows : ∀ w : Nat, w < S.c 2 → br N w = S.w 0 w ∧ wx N w = S.w 1 w ∧ wy N w = S.w 2 w ∧ pl N w = S.w 1 w ∧ gl N w = S.w 2 w ∧ fr N w = 0 := by
    intro w hw'
    obtain ⟨a1, a2, a3, a4⟩ := h4 w hw'
    unfold br wx wy pl gl fr
    rw [show (18 + 3 * (w : Int)).toNat = 18 + (3 * w + 0) by omega, show (19 + 3 * (w : Int)).toNat = 18 + (3 * w + 1) by omega, show (20 + 3 * (w : Int)).toNat = 18 + (3 * w + 2) by omega, show (13 + 3 * (w : Int)).toNat = 13 + 3 * w by omega, show (14 + 3 * (w : Int)).toNat = 14 + 3 * w by omega, show (15 + 3 * (w : Int)).toNat = 15 + 3 * w by omega]
    exact ⟨a1 0 (by decide), a1 1 (by decide), a1 2 (by decide), a2, a3, a4⟩
  refine ⟨⟨by rw [eP]; omega, by rw [eS]; omega, by rw [eW]; omega, fun s s1 s2 => ?_, fun w w1 w2 => ?_⟩, ⟨?_, fun s s1 s2 => ?_, fun w w1 w2 => ?_⟩⟩
  · obtain ⟨k, rfl⟩ : ∃ k : Nat, s = (k : Int) := ⟨s.toNat, by omega⟩
    have hk : k < S.c 1 := by rw [eS] at s2; omega
    obtain ⟨a1, a2, a3, a4, a5, a6, a7⟩ := rows k hk
    obtain ⟨z1, z2, z3, z4, z5, z6, z7, z8⟩ := hs k hk
    unfold TwS
    rw [a1, a2, a3, a4, a5, a6, eP]
    refine ⟨z1, z2, z3, z4, z5, ⟨z7.1, z7.2.1, by omega⟩, wfc_cg _ _ _ (fun q q1 q2 => ?_) z8⟩
    unfold cD
    exact (h5 q (by omega)).symm
  · obtain ⟨k, rfl⟩ : ∃ k : Nat, w = (k : Int) := ⟨w.toNat, by omega⟩
    have hk : k < S.c 2 := by rw [eW] at w2; omega
    obtain ⟨a1, a2, a3, -⟩ := wrows k hk
    unfold TwW
    rw [a1, a2, a3, eP]
    exact hw k hk
  · unfold hr
    rw [h6]
    omega
  · obtain ⟨k, rfl⟩ : ∃ k : Nat, s = (k : Int) := ⟨s.toNat, by omega⟩
    have hk : k < S.c 1 := by rw [eS] at s2; omega
    obtain ⟨-, -, -, a4, -, -, a7⟩ := rows k hk
    obtain ⟨-, -, -, -, -, z6, -⟩ := hs k hk
    rw [a4, a7]
    exact z6
  · obtain ⟨k, rfl⟩ : ∃ k : Nat, w = (k : Int) := ⟨w.toNat, by omega⟩
    have hk : k < S.c 2 := by rw [eW] at w2; omega
    obtain ⟨-, a2, a3, a4, a5, a6⟩ := wrows k hk
    unfold NwW
    rw [a2, a3, a4, a5, a6]
    exact ⟨Or.inl ⟨rfl, rfl⟩, by decide⟩
