theorem allNof {W : List Int} (h : ∀ v ∈ W, ¬ 60 ≤ v) : W.takeWhile ofQ = [] ∧ W.dropWhile ofQ = W := by
  cases W with
  | nil => exact ⟨rfl, rfl⟩
  | cons v W => exact tw_n (decide_eq_false (h v List.mem_cons_self))
theorem tpm_rng : ∀ (W : List Int), (∀ v ∈ W, 0 ≤ v ∧ v ≤ 100) → -1 ≤ tpm W ∧ tpm W ≤ 100
  | [], _ => by
    show -1 ≤ (-1 : Int) ∧ (-1 : Int) ≤ 100
    omega
  | v :: W, h => by
    by_cases c : mrkQ v = true
    · rw [tpm_mrk c]
      have := h v List.mem_cons_self
      omega
    · rw [tpm_non (by simpa using c)]
      exact tpm_rng W (fun x hx => h x (List.mem_cons_of_mem _ hx))
section Xth
variable {U T : Nat → Int} {e p g o : Int} {W W0 C : List Int} {M : Mm}
theorem xt_jmul {c v : Int} (hB : Bt T e) (h : Xt U T e (p + 1) g o W W0 C M) (h0 : 0 ≤ p) (hp : p < e) (hc : bte T e p = c) (hv : (c = 42 ∧ v = 3) ∨ (c = 47 ∧ v = 4)) (hb : C.length + W.length + W0.length ≤ 1600) (hw0 : opQ (W0.headD (-1)) = false) : wq (f_M_goesOn_J136 M) (fun q => q.1 = 1 ∧ Xt U T e (p + 1) g o (v :: W.dropWhile mulQ) W0 (C ++ W.takeWhile mulQ) q.2 ∧ Fr xtL M q.2) := by
  have hh := hB.1
  rw [bte_in h0 hp] at hc
  unfold f_M_goesOn_J136
  rw [h.1.2.2.1, h.1.2.1, i32_id (x := p + 1 - 1) (by omega) (by omega), show (p + 1 - 1).toNat = p.toNat by omega, hc]
  have hlen := len_tw mulQ W
  rcases hv with ⟨hv1, hv2⟩ | ⟨hv1, hv2⟩
  · subst hv1 hv2
    refine wq_g ⟨by omega, by omega⟩ (wq_e (by decide) ?_)
    exact xt_muls h hb hw0 (fun M' g1 g2 => wq_m (xt_push g1 (by omega) (by decide)) (fun q ⟨z1, z2, z3⟩ => ⟨z1, z2, g2.tr z3⟩))
  · subst hv1 hv2
    refine wq_g ⟨by omega, by omega⟩ (wq_t (by decide) ?_)
    exact xt_muls h hb hw0 (fun M' g1 g2 => wq_m (xt_push g1 (by omega) (by decide)) (fun q ⟨z1, z2, z3⟩ => ⟨z1, z2, g2.tr z3⟩))
theorem xt_jadd {c v : Int} (hB : Bt T e) (h : Xt U T e (p + 1) g o W W0 C M) (h0 : 0 ≤ p) (hp : p < e) (hc : bte T e p = c) (hv : (c = 43 ∧ v = 1) ∨ (c = 45 ∧ v = 2)) (hb : C.length + W.length + W0.length ≤ 1600) (hw0 : opQ (W0.headD (-1)) = false) : wq (f_M_goesOn_J221 M) (fun q => q.1 = 1 ∧ Xt U T e (p + 1) g o (v :: W.dropWhile opQ) W0 (C ++ W.takeWhile opQ) q.2 ∧ Fr xtL M q.2) := by
  have hh := hB.1
  rw [bte_in h0 hp] at hc
  unfold f_M_goesOn_J221
  rw [h.1.2.2.1, h.1.2.1, i32_id (x := p + 1 - 1) (by omega) (by omega), show (p + 1 - 1).toNat = p.toNat by omega, hc]
  have hlen := len_tw opQ W
  rcases hv with ⟨hv1, hv2⟩ | ⟨hv1, hv2⟩
  · subst hv1 hv2
    refine wq_g ⟨by omega, by omega⟩ (wq_e (by decide) ?_)
    exact xt_adds h hb hw0 (fun M' g1 g2 => wq_m (xt_push g1 (by omega) (by decide)) (fun q ⟨z1, z2, z3⟩ => ⟨z1, z2, g2.tr z3⟩))
  · subst hv1 hv2
    refine wq_g ⟨by omega, by omega⟩ (wq_t (by decide) ?_)
    exact xt_adds h hb hw0 (fun M' g1 g2 => wq_m (xt_push g1 (by omega) (by decide)) (fun q ⟨z1, z2, z3⟩ => ⟨z1, z2, g2.tr z3⟩))
theorem xt_jcom (hB : Bt T e) (h : Xt U T e p g o W W0 C M) (hrm : ∃ W', rmk W = tpm W :: W') (hb : C.length + W.length + W0.length ≤ 1600) (ht : tpm W = 21 ∨ tpm W = 22) : wq (f_M_goesOn_J322 M) (fun q => ((bte T e (sk T e p) = 44 ∧ q.1 = 1 ∧ Xt U T e (sk T e p + 1) g o ((tpm W + 2) :: (rmk W).tail) W0 (C ++ nmk W) q.2) ∨ (bte T e (sk T e p) ≠ 44 ∧ q.1 = 0 ∧ Fm T e 1 (sk T e p) q.2 ∧ Ukt U q.2)) ∧ Fr xtA M q.2) := by
  unfold f_M_goesOn_J322
  refine wq_V (s_asksSign hB h.1 (by decide)) (fun M1 ⟨c1, c2⟩ => ?_)
  rcases c1 with ⟨d1, d2⟩ | ⟨d1, d2⟩
  · have h1 := h.sm d2 c2
    rw [d2.2.2.2.2.1]
    refine wq_t rfl (wq_V (xt_toM h1 (by omega)) (fun M2 ⟨b1, b2⟩ => ?_))
    obtain ⟨W', hrm⟩ := hrm
    have hlen := len_nmk W
    rw [hrm, List.length_cons] at hlen
    rw [hrm] at b1 ⊢
    obtain ⟨a1, a2, a3, a4, a5, a6, a7, a8, a9⟩ := b1
    have hl : (W' ++ W0).length = W'.length + W0.length := List.length_append
    have a2 : M2 78 37 = ((W' ++ W0).length : Int) + 1 := by rw [a2, List.cons_append, List.length_cons]; omega
    have hv : M2 103 (W' ++ W0).length = tpm W := a3.1
    rw [a2, show ((W' ++ W0).length : Int) + 1 - 1 = ((W' ++ W0).length : Int) by omega, i32_id (x := ((W' ++ W0).length : Int)) (by omega) (by omega), Int.toNat_natCast, hv]
    refine wq_g ⟨by omega, by omega⟩ (wq_g ⟨by omega, by omega⟩ (wq_d (wq_some ⟨Or.inl ⟨d1, rfl, ?_⟩, ?_⟩)))
    · have hF : Fr [(103, 99999)] M2 (up M2 103 (W' ++ W0).length (tpm W + 2)) := Fr.rf.up (by simp)
      show Xt U T e (sk T e p + 1) g o ((tpm W + 2) :: W') W0 (C ++ nmk W) (up M2 103 (W' ++ W0).length (tpm W + 2))
      refine ⟨a1.fr hF rfl, ?_, stk_push a3.2, by rw [hF.at 78 38 rfl]; exact a4, by rw [hF.at 78 41 rfl]; exact a5, by rw [hF.at 78 35 rfl]; exact a6, by rw [hF.row 102 rfl]; exact a7, by rw [hF.row 102 rfl]; exact a8, fun x hx => ?_⟩
      · rw [hF.at 78 37 rfl, a2]
        show _ = (((tpm W + 2) :: (W' ++ W0)).length : Int)
        rw [List.length_cons]
        omega
      · rcases List.mem_cons.mp hx with z | z
        · omega
        · exact a9 x (List.mem_cons_of_mem _ z)
    · exact ((c2.cov rfl : Fr xtA _ _).tr (b2.cov rfl)).up (by simp [xtA])
  · rw [d2.2.2.1, i32_id (x := 1) (by decide) (by decide)]
    refine wq_e (by decide) (wq_some ⟨Or.inr ⟨d1, rfl, d2, (h.uk (by omega)).cg (c2.row 102 rfl) (c2.at 78 35 rfl)⟩, c2.cov rfl⟩)
theorem xt_close {kH kx : Mm → Option (Int × Mm)} {Q : Int × Mm → Prop} {k0 : Int} {W' : List Int} (h : Xt U T e p g o W W0 C M) (hp : p < e) (hrm : rmk W = k0 :: W') (hk0 : k0 = 20 ∨ k0 = 23 ∨ k0 = 24) (hb : C.length + W.length + W0.length ≤ 1600) (hno : false = false → ∀ v ∈ W, ¬ 60 ≤ v) (hk : ∀ M', Xt U T e (p + 1) g (o - 1 - (W'.takeWhile ofQ).length) (W'.dropWhile ofQ) W0 (C ++ (nmk W ++ ((if k0 = 20 then [] else if k0 = 23 then [5] else [6]) ++ W'.takeWhile ofQ))) M' → Fr xtA M M' → wq (kH M') Q) : wq (f_M_goesOn_J43 kH kx M) Q := by
  have b := h.1.2.2.2.2.2.1
  unfold f_M_goesOn_J43
  rw [h.1.2.2.1]
  refine wq_d ?_
  have hF : Fr [(78, 2)] M (up M 78 2 (p + 1)) := Fr.rf.up (by simp)
  have h1 : Xt U T e (p + 1) g o W W0 C (up M 78 2 (p + 1)) := h.sm (h.1.mv (by omega) (by omega)) (hF.cov rfl)
  refine wq_V (xt_toM h1 (by omega)) (fun M6 ⟨b1, b2⟩ => ?_)
  have hlen := len_nmk W
  rw [hrm, List.length_cons] at hlen
  rw [hrm] at b1
  obtain ⟨a1, a2, a3, a4, a5, a6, a7, a8, a9⟩ := b1
  have hl : (W' ++ W0).length = W'.length + W0.length := List.length_append
  have a2 : M6 78 37 - 1 = ((W' ++ W0).length : Int) := by rw [a2, List.cons_append, List.length_cons]; omega
  rw [a2]
  refine wq_d ?_
  rw [up_col (show ¬ (38 : Nat) = 37 by decide), a4]
  refine wq_d ?_
  obtain ⟨M8, hM8⟩ : ∃ N, N = up (up M6 78 37 ((W' ++ W0).length : Int)) 78 38 (o - 1) := ⟨_, rfl⟩
  rw [← hM8]
  have hF8 : Fr [(78, 37), (78, 38)] M6 M8 := by rw [hM8]; exact (Fr.rf.up (by simp)).up (by simp)
  have x8 : Xt U T e (p + 1) g (o - 1) W' W0 (C ++ nmk W) M8 := ⟨a1.fr hF8 rfl, by rw [hM8, up_col (by decide), up_eq], by rw [hF8.row 103 rfl]; exact a3.2, by rw [hM8, up_eq], by rw [hF8.at 78 41 rfl]; exact a5, by rw [hF8.at 78 35 rfl]; exact a6, by rw [hF8.row 102 rfl]; exact a7, by rw [hF8.row 102 rfl]; exact a8, fun x hx => a9 x (List.mem_cons_of_mem _ hx)⟩
  have hTo : Fr xtA M M8 := ((hF.cov rfl : Fr xtA _ _).tr (b2.cov rfl)).tr (hF8.cov rfl)
  have v8 : M8 103 (W' ++ W0).length = k0 := by rw [hF8.row 103 rfl]; exact a3.1
  have hfin : ∀ (cl : List Int) (M' : Mm), Xt U T e (p + 1) g (o - 1) W' W0 (C ++ nmk W ++ cl) M' → Fr xtL M8 M' → cl.length ≤ 1 → cl = (if k0 = 20 then [] else if k0 = 23 then [5] else [6]) → wq (kH M') Q := by
    intro cl M' x1 x2 x3 x4
    refine hk M' ?_ (hTo.tr (x2.cov rfl))
    have hno2 := allNof (fun v hv => hno rfl v (sub_dw (by rw [show W.dropWhile (fun v => !mrkQ v) = rmk W from rfl, hrm]; exact List.mem_cons_of_mem _ hv)))
    rw [← x4, hno2.1, hno2.2, List.append_nil, ← List.append_assoc, show o - 1 - ((([] : List Int).length : Nat) : Int) = o - 1 by show o - 1 - ((0 : Nat) : Int) = o - 1; omega]
    exact x1
  rw [x8.2.1, i32_id (x := ((W' ++ W0).length : Int)) (by omega) (by omega), Int.toNat_natCast, v8]
  refine wq_g ⟨by omega, by omega⟩ ?_
  rcases hk0 with z | z | z
  · refine wq_t (by rw [z]) ?_
    exact hfin [] M8 (by rw [List.append_nil]; exact x8) Fr.rf (by decide) (by rw [if_pos z])
  · refine wq_e (by rw [z]; decide) (wq_g ⟨by omega, by omega⟩ (wq_e (by rw [z]; decide) ?_))
    refine wq_V (xt_code x8 (by rw [List.length_append]; omega)) (fun M9 ⟨y1, y2⟩ => ?_)
    exact hfin [5] M9 y1 y2 (by decide) (by rw [if_neg (by omega), if_pos z])
  · refine wq_e (by rw [z]; decide) (wq_g ⟨by omega, by omega⟩ (wq_t (by rw [z]; decide) ?_))
    refine wq_V (xt_code x8 (by rw [List.length_append]; omega)) (fun M9 ⟨y1, y2⟩ => ?_)
    exact hfin [6] M9 y1 y2 (by decide) (by rw [if_neg (by omega), if_neg (by omega)])
theorem xt_rest {n : Nat} {o0 : Int} {R : Out} (hB : Bt T e) (h : Xt U T e p g o W W0 C M) (hI : Iv false o0 (W0.length + 1) false p o W C) (hd : dD false T e (n + 1) false p g o W C = some R) (hnc : ¬ (bte T e (sk T e p) = 41 ∧ (tpm W = 20 ∨ tpm W = 23 ∨ tpm W = 24))) (hw0 : opQ (W0.headD (-1)) = false) : wq (f_M_goesOn_J118 M) (fun q => ((q.1 = 1 ∧ Ont U T e o0 W0 R (p + 1) true q.2) ∨ (q.1 = 0 ∧ (Bdt U T e R q.2 ∨ Ent U T e o0 W0 R q.2))) ∧ Fr xtA M q.2) := by
  have hh := hB.1
  have b := h.1.2.2.2.2.2.1
  have hs := sk_rng T b.1 b.2
  have hss := sk_sk T (e := e) b.1
  have hI1 := hI.mono hs.1
  have hlen : C.length + W.length + W0.length ≤ 1600 := by have := hI.2.2.2.2; omega
  unfold dD at hd
  rw [if_neg hnc] at hd
  obtain ⟨P, hP⟩ : ∃ P, P = sk T e p := ⟨_, rfl⟩
  rw [← hP] at hd hs hss hI1 hnc
  have hbad : ∀ (k : Int) (M' : Mm), R = .inl (k, P) → Fm T e k P M' → Ukt U M' → Bdt U T e R M' := fun k M' z1 z2 z3 => ⟨k, P, z1, z2, z3⟩
  unfold f_M_goesOn_J118
  refine wq_I (s_takesSign hB h.1 (by decide)) (fun r M1 ⟨c1, c2⟩ => ?_)
  rw [← hP] at c1
  rcases c1 with ⟨d1, d2, d3⟩ | ⟨d1, d2, d3⟩
  · have d1 : r = 1 := d1
    rw [d1]
    rw [if_pos d2] at hd
    have hl := bte_lt (T := T) (e := e) (k := P) (by omega) (by omega)
    exact wq_t (by decide) (wq_m (xt_jmul hB (h.sm d3 (c2.cov rfl)) (by omega) hl d2 (Or.inl ⟨rfl, rfl⟩) hlen hw0) (fun q ⟨z1, z2, z3⟩ => ⟨Or.inl ⟨z1, n, _, _, _, _, _, hd, z2, hI1.mul (Or.inl rfl) (by omega) (by omega), by omega⟩, (c2.cov rfl : Fr xtA _ _).tr (z3.cov rfl)⟩))
  have d1 : r = 0 := d1
  rw [d1]
  rw [if_neg d2] at hd
  have h1 := h.sm d3 (c2.cov rfl)
  have f1 : Fr xtA M M1 := c2.cov rfl
  refine wq_e (by decide) (wq_I (s_takesSign hB h1.1 (by decide)) (fun r2 M2 ⟨c3, c4⟩ => ?_))
  rw [hss] at c3
  rcases c3 with ⟨d4, d5, d6⟩ | ⟨d4, d5, d6⟩
  · have d4 : r2 = 1 := d4
    rw [d4]
    rw [if_pos d5] at hd
    have hl := bte_lt (T := T) (e := e) (k := P) (by omega) (by omega)
    exact wq_e (by decide) (wq_m (xt_jmul hB (h1.sm d6 (c4.cov rfl)) (by omega) hl d5 (Or.inr ⟨rfl, rfl⟩) hlen hw0) (fun q ⟨z1, z2, z3⟩ => ⟨Or.inl ⟨z1, n, _, _, _, _, _, hd, z2, hI1.mul (Or.inr rfl) (by omega) (by omega), by omega⟩, f1.tr ((c4.cov rfl : Fr xtA _ _).tr (z3.cov rfl))⟩))
  have d4 : r2 = 0 := d4
  rw [d4]
  rw [if_neg d5] at hd
  have h2 := h1.sm d6 (c4.cov rfl)
  have f2 : Fr xtA M M2 := f1.tr (c4.cov rfl)
  refine wq_t (by decide) (wq_I (s_takesSign hB h2.1 (by decide)) (fun r3 M3 ⟨c5, c6⟩ => ?_))
  rw [hss] at c5
  rcases c5 with ⟨d7, d8, d9⟩ | ⟨d7, d8, d9⟩
  · have d7 : r3 = 1 := d7
    rw [d7]
    rw [if_pos d8] at hd
    have hl := bte_lt (T := T) (e := e) (k := P) (by omega) (by omega)
    exact wq_t (by decide) (wq_m (xt_jadd hB (h2.sm d9 (c6.cov rfl)) (by omega) hl d8 (Or.inl ⟨rfl, rfl⟩) hlen hw0) (fun q ⟨z1, z2, z3⟩ => ⟨Or.inl ⟨z1, n, _, _, _, _, _, hd, z2, hI1.add (Or.inl rfl) (by omega) (by omega), by omega⟩, f2.tr ((c6.cov rfl : Fr xtA _ _).tr (z3.cov rfl))⟩))
  have d7 : r3 = 0 := d7
  rw [d7]
  rw [if_neg d8] at hd
  have h3 := h2.sm d9 (c6.cov rfl)
  have f3 : Fr xtA M M3 := f2.tr (c6.cov rfl)
  refine wq_e (by decide) (wq_I (s_takesSign hB h3.1 (by decide)) (fun r4 M4 ⟨c7, c8⟩ => ?_))
  rw [hss] at c7
  rcases c7 with ⟨g1, g2, g3⟩ | ⟨g1, g2, g3⟩
  · have g1 : r4 = 1 := g1
    rw [g1]
    rw [if_pos g2] at hd
    have hl := bte_lt (T := T) (e := e) (k := P) (by omega) (by omega)
    exact wq_e (by decide) (wq_m (xt_jadd hB (h3.sm g3 (c8.cov rfl)) (by omega) hl g2 (Or.inr ⟨rfl, rfl⟩) hlen hw0) (fun q ⟨z1, z2, z3⟩ => ⟨Or.inl ⟨z1, n, _, _, _, _, _, hd, z2, hI1.add (Or.inr rfl) (by omega) (by omega), by omega⟩, f3.tr ((c8.cov rfl : Fr xtA _ _).tr (z3.cov rfl))⟩))
  have g1 : r4 = 0 := g1
  rw [g1]
  rw [if_neg g2] at hd
  have h4 := h3.sm g3 (c8.cov rfl)
  have f4 : Fr xtA M M4 := f3.tr (c8.cov rfl)
  have htr := tpm_rng W (fun v hv => h.2.2.2.2.2.2.2.2 v (List.mem_append_left _ hv))
  have hcom : (tpm W = 21 ∨ tpm W = 22) → wq (f_M_goesOn_J322 M4) (fun q => ((q.1 = 1 ∧ Ont U T e o0 W0 R (p + 1) true q.2) ∨ (q.1 = 0 ∧ (Bdt U T e R q.2 ∨ Ent U T e o0 W0 R q.2))) ∧ Fr xtA M q.2) := by
    intro ht
    rw [if_pos ht] at hd
    obtain ⟨i1, i2⟩ := hI1.comma ht (p1 := P + 1) (by omega) (by omega)
    refine wq_m (xt_jcom hB h4 i1 hlen ht) (fun q ⟨z1, z2⟩ => ⟨?_, f4.tr z2⟩)
    rw [hss] at z1
    rcases z1 with ⟨y1, y2, y3⟩ | ⟨y1, y2, y3, y4⟩
    · rw [if_neg (fun z => z y1)] at hd
      exact Or.inl ⟨y2, n, _, _, _, _, _, hd, y3, i2, by omega⟩
    · rw [if_pos y1] at hd
      exact Or.inr ⟨y2, Or.inl (hbad 1 _ (Option.some.inj hd).symm y3 y4)⟩
  refine wq_t (by decide) (wq_I (xt_last h4 (by omega)) (fun r5 M5 ⟨k1, k2⟩ => ?_))
  have k1 : r5 = tpm W := k1
  have k2 : M5 = M4 := k2
  subst k1 k2
  rw [i32_id (x := tpm W) (by omega) (by omega), i32_id (x := 21) (by decide) (by decide)]
  refine wq_if (fun c => hcom (Or.inl c)) (fun c => wq_I (xt_last h4 (by omega)) (fun r6 M6 ⟨k3, k4⟩ => ?_))
  have k3 : r6 = tpm W := k3
  have k4 : M6 = M5 := k4
  subst k3 k4
  rw [i32_id (x := tpm W) (by omega) (by omega), i32_id (x := 22) (by decide) (by decide)]
  refine wq_if (fun c2 => ?_) (fun c2 => hcom (Or.inr (Decidable.not_not.mp c2)))
  rw [if_neg (fun z => z.elim c c2)] at hd
  refine wq_I (xt_last h4 (by omega)) (fun r7 M7 ⟨k5, k6⟩ => ?_)
  have k5 : r7 = tpm W := k5
  have k6 : M7 = M6 := k6
  subst k5 k6
  rw [i32_id (x := tpm W) (by omega) (by omega), i32_id (x := (-1)) (by decide) (by decide)]
  refine wq_if (fun c3 => ?_) (fun c3 => ?_)
  · rw [if_neg (fun z => z c3)] at hd
    refine wq_some ⟨Or.inr ⟨rfl, Or.inr ⟨P, g, W, C, (Option.some.inj hd).symm, ?_, hlen⟩⟩, f4⟩
    rw [← hI.end c3]
    exact h4
  · rw [if_pos c3] at hd
    have h4 : Xt U T e P g o W W0 C M7 := h4
    have f4 : Fr xtA M M7 := f4
    rw [h4.1.2.2.2.2.1, h4.1.2.2.1]
    refine wq_e (fun z => z rfl) (wq_V (s_mfail h4.1 (by decide) (by omega)) (fun M8 ⟨y1, y2⟩ => wq_some ⟨Or.inr ⟨rfl, Or.inl (hbad 1 _ (Option.some.inj hd).symm y1 ((h4.uk (by omega)).cg (y2.row 102 rfl) (y2.at 78 35 rfl)))⟩, f4.tr (y2.cov rfl)⟩))
end Xth
section Xqh
variable {U T : Nat → Int} {e p g o : Int} {W W0 C : List Int} {M : Mm}
theorem xq_jmul {c v : Int} (hB : Bt T e) (h : Xq U T e (p + 1) g o W W0 C M) (h0 : 0 ≤ p) (hp : p < e) (hc : bte T e p = c) (hv : (c = 42 ∧ v = 3) ∨ (c = 47 ∧ v = 4)) (hb : C.length + W.length + W0.length ≤ 1600) (hw0 : opQ (W0.headD (-1)) = false) : wq (f_M_qGoesOn_J140 M) (fun q => q.1 = 1 ∧ Xq U T e (p + 1) g o (v :: W.dropWhile mulQ) W0 (C ++ W.takeWhile mulQ) q.2 ∧ Fr xqL M q.2) := by
  have hh := hB.1
  rw [bte_in h0 hp] at hc
  unfold f_M_qGoesOn_J140
  rw [h.1.2.2.1, h.1.2.1, i32_id (x := p + 1 - 1) (by omega) (by omega), show (p + 1 - 1).toNat = p.toNat by omega, hc]
  have hlen := len_tw mulQ W
  rcases hv with ⟨hv1, hv2⟩ | ⟨hv1, hv2⟩
  · subst hv1 hv2
    refine wq_g ⟨by omega, by omega⟩ (wq_e (by decide) ?_)
    exact xq_muls h hb hw0 (fun M' g1 g2 => wq_m (xq_push g1 (by omega) (by decide)) (fun q ⟨z1, z2, z3⟩ => ⟨z1, z2, g2.tr z3⟩))
  · subst hv1 hv2
    refine wq_g ⟨by omega, by omega⟩ (wq_t (by decide) ?_)
    exact xq_muls h hb hw0 (fun M' g1 g2 => wq_m (xq_push g1 (by omega) (by decide)) (fun q ⟨z1, z2, z3⟩ => ⟨z1, z2, g2.tr z3⟩))
theorem xq_jadd {c v : Int} (hB : Bt T e) (h : Xq U T e (p + 1) g o W W0 C M) (h0 : 0 ≤ p) (hp : p < e) (hc : bte T e p = c) (hv : (c = 43 ∧ v = 1) ∨ (c = 45 ∧ v = 2)) (hb : C.length + W.length + W0.length ≤ 1600) (hw0 : opQ (W0.headD (-1)) = false) : wq (f_M_qGoesOn_J225 M) (fun q => q.1 = 1 ∧ Xq U T e (p + 1) g o (v :: W.dropWhile opQ) W0 (C ++ W.takeWhile opQ) q.2 ∧ Fr xqL M q.2) := by
  have hh := hB.1
  rw [bte_in h0 hp] at hc
  unfold f_M_qGoesOn_J225
  rw [h.1.2.2.1, h.1.2.1, i32_id (x := p + 1 - 1) (by omega) (by omega), show (p + 1 - 1).toNat = p.toNat by omega, hc]
  have hlen := len_tw opQ W
  rcases hv with ⟨hv1, hv2⟩ | ⟨hv1, hv2⟩
  · subst hv1 hv2
    refine wq_g ⟨by omega, by omega⟩ (wq_e (by decide) ?_)
    exact xq_adds h hb hw0 (fun M' g1 g2 => wq_m (xq_push g1 (by omega) (by decide)) (fun q ⟨z1, z2, z3⟩ => ⟨z1, z2, g2.tr z3⟩))
  · subst hv1 hv2
    refine wq_g ⟨by omega, by omega⟩ (wq_t (by decide) ?_)
    exact xq_adds h hb hw0 (fun M' g1 g2 => wq_m (xq_push g1 (by omega) (by decide)) (fun q ⟨z1, z2, z3⟩ => ⟨z1, z2, g2.tr z3⟩))
theorem xq_jcom (hB : Bt T e) (h : Xq U T e p g o W W0 C M) (hrm : ∃ W', rmk W = tpm W :: W') (hb : C.length + W.length + W0.length ≤ 1600) (ht : tpm W = 21 ∨ tpm W = 22) : wq (f_M_qGoesOn_J326 M) (fun q => ((bte T e (sk T e p) = 44 ∧ q.1 = 1 ∧ Xq U T e (sk T e p + 1) g o ((tpm W + 2) :: (rmk W).tail) W0 (C ++ nmk W) q.2) ∨ (bte T e (sk T e p) ≠ 44 ∧ q.1 = 0 ∧ Fm T e 1 (sk T e p) q.2 ∧ Ukq U q.2)) ∧ Fr xqA M q.2) := by
  unfold f_M_qGoesOn_J326
  refine wq_V (s_asksSign hB h.1 (by decide)) (fun M1 ⟨c1, c2⟩ => ?_)
  rcases c1 with ⟨d1, d2⟩ | ⟨d1, d2⟩
  · have h1 := h.sm d2 c2
    rw [d2.2.2.2.2.1]
    refine wq_t rfl (wq_V (xq_toM h1 (by omega)) (fun M2 ⟨b1, b2⟩ => ?_))
    obtain ⟨W', hrm⟩ := hrm
    have hlen := len_nmk W
    rw [hrm, List.length_cons] at hlen
    rw [hrm] at b1 ⊢
    obtain ⟨a1, a2, a3, a4, a5, a6, a7, a8, a9⟩ := b1
    have hl : (W' ++ W0).length = W'.length + W0.length := List.length_append
    have a2 : M2 78 91 = ((W' ++ W0).length : Int) + 1 := by rw [a2, List.cons_append, List.length_cons]; omega
    have hv : M2 143 (W' ++ W0).length = tpm W := a3.1
    rw [a2, show ((W' ++ W0).length : Int) + 1 - 1 = ((W' ++ W0).length : Int) by omega, i32_id (x := ((W' ++ W0).length : Int)) (by omega) (by omega), Int.toNat_natCast, hv]
    refine wq_g ⟨by omega, by omega⟩ (wq_g ⟨by omega, by omega⟩ (wq_d (wq_some ⟨Or.inl ⟨d1, rfl, ?_⟩, ?_⟩)))
    · have hF : Fr [(143, 99999)] M2 (up M2 143 (W' ++ W0).length (tpm W + 2)) := Fr.rf.up (by simp)
      show Xq U T e (sk T e p + 1) g o ((tpm W + 2) :: W') W0 (C ++ nmk W) (up M2 143 (W' ++ W0).length (tpm W + 2))
      refine ⟨a1.fr hF rfl, ?_, stk_push a3.2, by rw [hF.at 78 92 rfl]; exact a4, by rw [hF.at 78 93 rfl]; exact a5, by rw [hF.at 78 89 rfl]; exact a6, by rw [hF.row 142 rfl]; exact a7, by rw [hF.row 142 rfl]; exact a8, fun x hx => ?_⟩
      · rw [hF.at 78 91 rfl, a2]
        show _ = (((tpm W + 2) :: (W' ++ W0)).length : Int)
        rw [List.length_cons]
        omega
      · rcases List.mem_cons.mp hx with z | z
        · omega
        · exact a9 x (List.mem_cons_of_mem _ z)
    · exact ((c2.cov rfl : Fr xqA _ _).tr (b2.cov rfl)).up (by simp [xqA])
  · rw [d2.2.2.1, i32_id (x := 1) (by decide) (by decide)]
    refine wq_e (by decide) (wq_some ⟨Or.inr ⟨d1, rfl, d2, (h.uk (by omega)).cg (c2.row 142 rfl) (c2.at 78 89 rfl)⟩, c2.cov rfl⟩)
theorem xq_close {kH kx : Mm → Option (Int × Mm)} {Q : Int × Mm → Prop} {k0 : Int} {W' : List Int} (h : Xq U T e p g o W W0 C M) (hp : p < e) (hrm : rmk W = k0 :: W') (hk0 : k0 = 20 ∨ k0 = 23 ∨ k0 = 24) (hb : C.length + W.length + W0.length ≤ 1600) (hno : true = false → ∀ v ∈ W, ¬ 60 ≤ v) (hk : ∀ M', Xq U T e (p + 1) g (o - 1 - (W'.takeWhile ofQ).length) (W'.dropWhile ofQ) W0 (C ++ (nmk W ++ ((if k0 = 20 then [] else if k0 = 23 then [5] else [6]) ++ W'.takeWhile ofQ))) M' → Fr xqA M M' → wq (kH M') Q) : wq (f_M_qGoesOn_J43 kH kx M) Q := by
  have b := h.1.2.2.2.2.2.1
  unfold f_M_qGoesOn_J43
  rw [h.1.2.2.1]
  refine wq_d ?_
  have hF : Fr [(78, 2)] M (up M 78 2 (p + 1)) := Fr.rf.up (by simp)
  have h1 : Xq U T e (p + 1) g o W W0 C (up M 78 2 (p + 1)) := h.sm (h.1.mv (by omega) (by omega)) (hF.cov rfl)
  refine wq_V (xq_toM h1 (by omega)) (fun M6 ⟨b1, b2⟩ => ?_)
  have hlen := len_nmk W
  rw [hrm, List.length_cons] at hlen
  rw [hrm] at b1
  obtain ⟨a1, a2, a3, a4, a5, a6, a7, a8, a9⟩ := b1
  have hl : (W' ++ W0).length = W'.length + W0.length := List.length_append
  have a2 : M6 78 91 - 1 = ((W' ++ W0).length : Int) := by rw [a2, List.cons_append, List.length_cons]; omega
  rw [a2]
  refine wq_d ?_
  rw [up_col (show ¬ (92 : Nat) = 91 by decide), a4]
  refine wq_d ?_
  obtain ⟨M8, hM8⟩ : ∃ N, N = up (up M6 78 91 ((W' ++ W0).length : Int)) 78 92 (o - 1) := ⟨_, rfl⟩
  rw [← hM8]
  have hF8 : Fr [(78, 91), (78, 92)] M6 M8 := by rw [hM8]; exact (Fr.rf.up (by simp)).up (by simp)
  have x8 : Xq U T e (p + 1) g (o - 1) W' W0 (C ++ nmk W) M8 := ⟨a1.fr hF8 rfl, by rw [hM8, up_col (by decide), up_eq], by rw [hF8.row 143 rfl]; exact a3.2, by rw [hM8, up_eq], by rw [hF8.at 78 93 rfl]; exact a5, by rw [hF8.at 78 89 rfl]; exact a6, by rw [hF8.row 142 rfl]; exact a7, by rw [hF8.row 142 rfl]; exact a8, fun x hx => a9 x (List.mem_cons_of_mem _ hx)⟩
  have hTo : Fr xqA M M8 := ((hF.cov rfl : Fr xqA _ _).tr (b2.cov rfl)).tr (hF8.cov rfl)
  have v8 : M8 143 (W' ++ W0).length = k0 := by rw [hF8.row 143 rfl]; exact a3.1
  have hfin : ∀ (cl : List Int) (M' : Mm), Xq U T e (p + 1) g (o - 1) W' W0 (C ++ nmk W ++ cl) M' → Fr xqL M8 M' → cl.length ≤ 1 → cl = (if k0 = 20 then [] else if k0 = 23 then [5] else [6]) → wq (bV (f_M_qEndsPart M') (fun M9 => kH M9)) Q := by
    intro cl M' x1 x2 x3 x4
    refine wq_V (xq_ends x1 (by simp only [List.length_append]; omega)) (fun M9 ⟨y1, y2⟩ => hk M9 ?_ (hTo.tr ((x2.cov rfl : Fr xqA _ _).tr (y2.cov rfl))))
    rw [← x4, ← List.append_assoc, ← List.append_assoc]
    exact y1
  rw [x8.2.1, i32_id (x := ((W' ++ W0).length : Int)) (by omega) (by omega), Int.toNat_natCast, v8]
  refine wq_g ⟨by omega, by omega⟩ ?_
  rcases hk0 with z | z | z
  · refine wq_t (by rw [z]) ?_
    exact hfin [] M8 (by rw [List.append_nil]; exact x8) Fr.rf (by decide) (by rw [if_pos z])
  · refine wq_e (by rw [z]; decide) (wq_g ⟨by omega, by omega⟩ (wq_e (by rw [z]; decide) ?_))
    refine wq_V (xq_code x8 (by rw [List.length_append]; omega)) (fun M9 ⟨y1, y2⟩ => ?_)
    exact hfin [5] M9 y1 y2 (by decide) (by rw [if_neg (by omega), if_pos z])
  · refine wq_e (by rw [z]; decide) (wq_g ⟨by omega, by omega⟩ (wq_t (by rw [z]; decide) ?_))
    refine wq_V (xq_code x8 (by rw [List.length_append]; omega)) (fun M9 ⟨y1, y2⟩ => ?_)
    exact hfin [6] M9 y1 y2 (by decide) (by rw [if_neg (by omega), if_neg (by omega)])
theorem xq_rest {n : Nat} {o0 : Int} {R : Out} (hB : Bt T e) (h : Xq U T e p g o W W0 C M) (hI : Iv true o0 (W0.length + 1) false p o W C) (hd : dD true T e (n + 1) false p g o W C = some R) (hnc : ¬ (bte T e (sk T e p) = 41 ∧ (tpm W = 20 ∨ tpm W = 23 ∨ tpm W = 24))) (hw0 : opQ (W0.headD (-1)) = false) : wq (f_M_qGoesOn_J122 M) (fun q => ((q.1 = 1 ∧ Onq U T e o0 W0 R (p + 1) true q.2) ∨ (q.1 = 0 ∧ (Bdq U T e R q.2 ∨ Enq U T e o0 W0 R q.2))) ∧ Fr xqA M q.2) := by
  have hh := hB.1
  have b := h.1.2.2.2.2.2.1
  have hs := sk_rng T b.1 b.2
  have hss := sk_sk T (e := e) b.1
  have hI1 := hI.mono hs.1
  have hlen : C.length + W.length + W0.length ≤ 1600 := by have := hI.2.2.2.2; omega
  unfold dD at hd
  rw [if_neg hnc] at hd
  obtain ⟨P, hP⟩ : ∃ P, P = sk T e p := ⟨_, rfl⟩
  rw [← hP] at hd hs hss hI1 hnc
  have hbad : ∀ (k : Int) (M' : Mm), R = .inl (k, P) → Fm T e k P M' → Ukq U M' → Bdq U T e R M' := fun k M' z1 z2 z3 => ⟨k, P, z1, z2, z3⟩
  unfold f_M_qGoesOn_J122
  refine wq_I (s_takesSign hB h.1 (by decide)) (fun r M1 ⟨c1, c2⟩ => ?_)
  rw [← hP] at c1
  rcases c1 with ⟨d1, d2, d3⟩ | ⟨d1, d2, d3⟩
  · have d1 : r = 1 := d1
    rw [d1]
    rw [if_pos d2] at hd
    have hl := bte_lt (T := T) (e := e) (k := P) (by omega) (by omega)
    exact wq_t (by decide) (wq_m (xq_jmul hB (h.sm d3 (c2.cov rfl)) (by omega) hl d2 (Or.inl ⟨rfl, rfl⟩) hlen hw0) (fun q ⟨z1, z2, z3⟩ => ⟨Or.inl ⟨z1, n, _, _, _, _, _, hd, z2, hI1.mul (Or.inl rfl) (by omega) (by omega), by omega⟩, (c2.cov rfl : Fr xqA _ _).tr (z3.cov rfl)⟩))
  have d1 : r = 0 := d1
  rw [d1]
  rw [if_neg d2] at hd
  have h1 := h.sm d3 (c2.cov rfl)
  have f1 : Fr xqA M M1 := c2.cov rfl
  refine wq_e (by decide) (wq_I (s_takesSign hB h1.1 (by decide)) (fun r2 M2 ⟨c3, c4⟩ => ?_))
  rw [hss] at c3
  rcases c3 with ⟨d4, d5, d6⟩ | ⟨d4, d5, d6⟩
  · have d4 : r2 = 1 := d4
    rw [d4]
    rw [if_pos d5] at hd
    have hl := bte_lt (T := T) (e := e) (k := P) (by omega) (by omega)
    exact wq_e (by decide) (wq_m (xq_jmul hB (h1.sm d6 (c4.cov rfl)) (by omega) hl d5 (Or.inr ⟨rfl, rfl⟩) hlen hw0) (fun q ⟨z1, z2, z3⟩ => ⟨Or.inl ⟨z1, n, _, _, _, _, _, hd, z2, hI1.mul (Or.inr rfl) (by omega) (by omega), by omega⟩, f1.tr ((c4.cov rfl : Fr xqA _ _).tr (z3.cov rfl))⟩))
  have d4 : r2 = 0 := d4
  rw [d4]
  rw [if_neg d5] at hd
  have h2 := h1.sm d6 (c4.cov rfl)
  have f2 : Fr xqA M M2 := f1.tr (c4.cov rfl)
  refine wq_t (by decide) (wq_I (s_takesSign hB h2.1 (by decide)) (fun r3 M3 ⟨c5, c6⟩ => ?_))
  rw [hss] at c5
  rcases c5 with ⟨d7, d8, d9⟩ | ⟨d7, d8, d9⟩
  · have d7 : r3 = 1 := d7
    rw [d7]
    rw [if_pos d8] at hd
    have hl := bte_lt (T := T) (e := e) (k := P) (by omega) (by omega)
    exact wq_t (by decide) (wq_m (xq_jadd hB (h2.sm d9 (c6.cov rfl)) (by omega) hl d8 (Or.inl ⟨rfl, rfl⟩) hlen hw0) (fun q ⟨z1, z2, z3⟩ => ⟨Or.inl ⟨z1, n, _, _, _, _, _, hd, z2, hI1.add (Or.inl rfl) (by omega) (by omega), by omega⟩, f2.tr ((c6.cov rfl : Fr xqA _ _).tr (z3.cov rfl))⟩))
  have d7 : r3 = 0 := d7
  rw [d7]
  rw [if_neg d8] at hd
  have h3 := h2.sm d9 (c6.cov rfl)
  have f3 : Fr xqA M M3 := f2.tr (c6.cov rfl)
  refine wq_e (by decide) (wq_I (s_takesSign hB h3.1 (by decide)) (fun r4 M4 ⟨c7, c8⟩ => ?_))
  rw [hss] at c7
  rcases c7 with ⟨g1, g2, g3⟩ | ⟨g1, g2, g3⟩
  · have g1 : r4 = 1 := g1
    rw [g1]
    rw [if_pos g2] at hd
    have hl := bte_lt (T := T) (e := e) (k := P) (by omega) (by omega)
    exact wq_e (by decide) (wq_m (xq_jadd hB (h3.sm g3 (c8.cov rfl)) (by omega) hl g2 (Or.inr ⟨rfl, rfl⟩) hlen hw0) (fun q ⟨z1, z2, z3⟩ => ⟨Or.inl ⟨z1, n, _, _, _, _, _, hd, z2, hI1.add (Or.inr rfl) (by omega) (by omega), by omega⟩, f3.tr ((c8.cov rfl : Fr xqA _ _).tr (z3.cov rfl))⟩))
  have g1 : r4 = 0 := g1
  rw [g1]
  rw [if_neg g2] at hd
  have h4 := h3.sm g3 (c8.cov rfl)
  have f4 : Fr xqA M M4 := f3.tr (c8.cov rfl)
  have htr := tpm_rng W (fun v hv => h.2.2.2.2.2.2.2.2 v (List.mem_append_left _ hv))
  have hcom : (tpm W = 21 ∨ tpm W = 22) → wq (f_M_qGoesOn_J326 M4) (fun q => ((q.1 = 1 ∧ Onq U T e o0 W0 R (p + 1) true q.2) ∨ (q.1 = 0 ∧ (Bdq U T e R q.2 ∨ Enq U T e o0 W0 R q.2))) ∧ Fr xqA M q.2) := by
    intro ht
    rw [if_pos ht] at hd
    obtain ⟨i1, i2⟩ := hI1.comma ht (p1 := P + 1) (by omega) (by omega)
    refine wq_m (xq_jcom hB h4 i1 hlen ht) (fun q ⟨z1, z2⟩ => ⟨?_, f4.tr z2⟩)
    rw [hss] at z1
    rcases z1 with ⟨y1, y2, y3⟩ | ⟨y1, y2, y3, y4⟩
    · rw [if_neg (fun z => z y1)] at hd
      exact Or.inl ⟨y2, n, _, _, _, _, _, hd, y3, i2, by omega⟩
    · rw [if_pos y1] at hd
      exact Or.inr ⟨y2, Or.inl (hbad 1 _ (Option.some.inj hd).symm y3 y4)⟩
  refine wq_t (by decide) (wq_I (xq_last h4 (by omega)) (fun r5 M5 ⟨k1, k2⟩ => ?_))
  have k1 : r5 = tpm W := k1
  have k2 : M5 = M4 := k2
  subst k1 k2
  rw [i32_id (x := tpm W) (by omega) (by omega), i32_id (x := 21) (by decide) (by decide)]
  refine wq_if (fun c => hcom (Or.inl c)) (fun c => wq_I (xq_last h4 (by omega)) (fun r6 M6 ⟨k3, k4⟩ => ?_))
  have k3 : r6 = tpm W := k3
  have k4 : M6 = M5 := k4
  subst k3 k4
  rw [i32_id (x := tpm W) (by omega) (by omega), i32_id (x := 22) (by decide) (by decide)]
  refine wq_if (fun c2 => ?_) (fun c2 => hcom (Or.inr (Decidable.not_not.mp c2)))
  rw [if_neg (fun z => z.elim c c2)] at hd
  refine wq_I (xq_last h4 (by omega)) (fun r7 M7 ⟨k5, k6⟩ => ?_)
  have k5 : r7 = tpm W := k5
  have k6 : M7 = M6 := k6
  subst k5 k6
  rw [i32_id (x := tpm W) (by omega) (by omega), i32_id (x := (-1)) (by decide) (by decide)]
  refine wq_if (fun c3 => ?_) (fun c3 => ?_)
  · rw [if_neg (fun z => z c3)] at hd
    refine wq_some ⟨Or.inr ⟨rfl, Or.inr ⟨P, g, W, C, (Option.some.inj hd).symm, ?_, hlen⟩⟩, f4⟩
    rw [← hI.end c3]
    exact h4
  · rw [if_pos c3] at hd
    have h4 : Xq U T e P g o W W0 C M7 := h4
    have f4 : Fr xqA M M7 := f4
    rw [h4.1.2.2.2.2.1, h4.1.2.2.1]
    refine wq_e (fun z => z rfl) (wq_V (s_mfail h4.1 (by decide) (by omega)) (fun M8 ⟨y1, y2⟩ => wq_some ⟨Or.inr ⟨rfl, Or.inl (hbad 1 _ (Option.some.inj hd).symm y1 ((h4.uk (by omega)).cg (y2.row 142 rfl) (y2.at 78 89 rfl)))⟩, f4.tr (y2.cov rfl)⟩))
end Xqh
