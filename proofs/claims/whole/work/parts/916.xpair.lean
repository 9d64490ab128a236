theorem opd_num {a : Bool} {T : Nat → Int} {e p g : Int} (h1 : a = false → hwq T e wTide p g = false ∧ hwq T e wRound p g = false) (h2 : a = true → hwq T e wHour p g = false) (h3 : hwq T e wClock p g = false) (h4 : hwq T e wDay p g = false) : (∀ f, numR T e 0 9999 p g = .inl f → opd a T e p g = .inl f) ∧ (∀ p1 v, numR T e 0 9999 p g = .inr (p1, v) → opd a T e p g = .inr (p1, p1, 1000 + v)) := by
  have e0 : opd a T e p g = match numR T e 0 9999 p g with | .inl f => .inl f | .inr (p1, v) => .inr (p1, p1, 1000 + v) := by
    unfold opd
    cases a with
    | false =>
      obtain ⟨z1, z2⟩ := h1 rfl
      rw [z1, z2, h3, h4]
      rfl
    | true =>
      rw [h2 rfl, h3, h4]
      rfl
  refine ⟨fun f hf => ?_, fun p1 v hf => ?_⟩
  · rw [e0, hf]
  · rw [e0, hf]
section Xtm
variable {U T : Nat → Int} {e p g o o0 pm : Int} {W W0 C : List Int} {M : Mm} {R : Out} {n : Nat}
theorem xt_opens {k pl : Int} (h : Xt U T e p g o W W0 C M) (ho : -1000 ≤ o ∧ o ≤ 6) (hb : C.length + W.length + W0.length ≤ 1600) (hk : 0 ≤ k ∧ k ≤ 100) (hpl : -1 ≤ pl ∧ pl ≤ 1600) : wq (f_M_opens k pl M) (fun M' => ((o ≠ 6 ∧ Xt U T e p g (o + 1) (k :: W) W0 C M') ∨ (o = 6 ∧ Fm T e 4 pl M' ∧ Ukt U M')) ∧ Fr xtA M M') := by
  have a4 := h.2.2.2.1
  unfold f_M_opens
  skip
  refine wq_if (fun c => ?_) (fun c => ?_)
  · rw [a4, i32_id (x := o) (by omega) (by omega), i32_id (x := 6) (by decide) (by decide)] at c
    exact wq_m (xt_opn h (by omega) hk) (fun M' ⟨z1, z2⟩ => ⟨Or.inl ⟨c, z1⟩, z2.cov rfl⟩)
  · rw [a4, i32_id (x := o) (by omega) (by omega), i32_id (x := 6) (by decide) (by decide)] at c
    refine wq_V (s_mfail h.1 (by decide) hpl) (fun M1 ⟨y1, y2⟩ => wq_some ⟨Or.inr ⟨Decidable.not_not.mp c, y1, (h.uk (by omega)).cg (y2.row 102 rfl) (y2.at 78 35 rfl)⟩, y2.cov rfl⟩)
/-- behind min, max -/
theorem xt_pair2 {kH : Int → Mm → Option Mm} {kx : Mm → Option Mm} {Q : Mm → Prop} {k r6 v1 : Int} (hB : Bt T e) (hr : (r6 = 1 ∧ k = 21) ∨ (r6 = 0 ∧ k = 22)) (h : Xt U T e p p o W W0 C M) (hI : Iv false o0 (W0.length + 1) true p o W C) (ho0 : 0 ≤ o0) (hd : (if bte T e (sk T e p) ≠ 40 then some (.inl (1, sk T e p)) else if o = 6 then some (.inl (4, sk T e p)) else dD false T e n true (sk T e p + 1) p (o + 1) (k :: W) C) = some R) (hk : ∀ M', (Bdt U T e R M' ∨ Ont U T e o0 W0 R (p + 1) true M') → Fr xtA M M' → wq (kH v1 M') Q) : wq (f_M_onePart_J90 kH kx v1 r6 M) Q := by
  have hh := hB.1
  have b := h.1.2.2.2.2.2.1
  have hs := sk_rng T b.1 b.2
  have hss := sk_sk T (e := e) b.1
  have hbr := bte_rng hB (sk T e p)
  have hlo := hI.lo
  have hI1 := hI.mono hs.1
  have ho := hI.1
  have hlen : C.length + W.length + W0.length ≤ 1600 := by have := hI.2.2.2.2; omega
  obtain ⟨P, hP⟩ : ∃ P, P = sk T e p := ⟨_, rfl⟩
  unfold f_M_onePart_J90
  refine wq_I (s_look hB h.1) (fun r M1 ⟨c1, c2, c3⟩ => ?_)
  have c1 : r = bte T e (sk T e p) := c1
  have h1 : Xt U T e (sk T e p) p o W W0 C M1 := h.sm c2 (c3.cov rfl)
  have f1 : Fr xtA M M1 := c3.cov rfl
  rw [← hP] at hd hs hss hbr hI1 c1 h1
  rw [c1, i32_id (x := bte T e P) (by omega) (by omega), i32_id (x := 40) (by decide) (by decide)]
  refine wq_if (fun c => ?_) (fun c => ?_)
  · rw [if_pos c] at hd
    unfold f_M_onePart_J107
    refine wq_t (by decide) (wq_V (s_asksSign hB h1.1 (by decide)) (fun M2 ⟨d1, d2⟩ => ?_))
    rw [hss] at d1
    rcases d1 with ⟨y1, -⟩ | ⟨-, y2⟩
    · exact absurd y1 c
    · refine hk M2 (Or.inl ⟨1, P, (Option.some.inj hd).symm, y2, (h1.uk (by omega)).cg (d2.row 102 rfl) (d2.at 78 35 rfl)⟩) (f1.tr (d2.cov rfl))
  · have c : bte T e P = 40 := Decidable.not_not.mp c
    have hl := bte_lt (T := T) (e := e) (k := P) (by omega) (by omega)
    rw [if_neg (fun z => z c)] at hd
    have hop : ∀ M3 : Mm, ((o ≠ 6 ∧ Xt U T e P p (o + 1) (k :: W) W0 C M3) ∨ (o = 6 ∧ Fm T e 4 P M3 ∧ Ukt U M3)) → Fr xtA M1 M3 → wq (bV (f_M_asksSign 40 M3) (fun M' => kH v1 M')) Q := by
      intro M3 z f3
      rcases z with ⟨z1, z2⟩ | ⟨z1, z2, z3⟩
      · rw [if_neg z1] at hd
        refine wq_V (s_asksSign hB z2.1 (by decide)) (fun M4 ⟨d1, d2⟩ => ?_)
        rw [hss] at d1
        rcases d1 with ⟨-, y1⟩ | ⟨y1, -⟩
        · exact hk M4 (Or.inr ⟨n, _, _, _, _, _, hd, z2.sm y1 d2, hI1.push (Or.inl (by omega)) z1 (by omega) (by omega), by omega⟩) (f1.tr (f3.tr (d2.cov rfl)))
        · exact absurd c y1
      · rw [if_pos z1] at hd
        rw [e_asksSign_f z2]
        exact hk M3 (Or.inl ⟨4, P, (Option.some.inj hd).symm, z2, z3⟩) (f1.tr f3)
    rw [h1.1.2.2.1]
    unfold f_M_onePart_J107
    rw [i32_id (x := P) (by omega) (by omega)]
    refine wq_e (by rw [i32_id (x := (-1)) (by decide) (by decide)]; omega) ?_
    rcases hr with ⟨e1, e2⟩ | ⟨e1, e2⟩
    · rw [e1]
      exact wq_e (by decide) (wq_V (xt_opens h1 (by omega) (by omega) (by decide) (by omega)) (fun M3 ⟨z1, z2⟩ => hop M3 (by rw [e2]; exact z1) z2))
    · rw [e1]
      exact wq_t (by decide) (wq_V (xt_opens h1 (by omega) (by omega) (by decide) (by omega)) (fun M3 ⟨z1, z2⟩ => hop M3 (by rw [e2]; exact z1) z2))
theorem xt_pair {kH : Int → Mm → Option Mm} {kx : Mm → Option Mm} {Q : Mm → Prop} {v1 : Int} (hB : Bt T e) (h : Xt U T e p g o W W0 C M) (hI : Iv false o0 (W0.length + 1) true p o W C) (ho0 : 0 ≤ o0) (hsp : sk T e p = p) (hd : dD false T e (n + 1) true p g o W C = some R) (h40 : bte T e p ≠ 40) (hmm : hw T e wMin p g ∨ (¬ hw T e wMin p g ∧ hw T e wMax p g)) (hk : ∀ M', (Bdt U T e R M' ∨ Ont U T e o0 W0 R (p + 1) true M') → Fr xtA M M' → wq (kH v1 M') Q) : wq (f_M_onePart_J69 kH kx v1 M) Q := by
  have b := h.1.2.2.2.2.2.1
  unfold dD at hd
  rw [hsp, if_neg h40] at hd
  have fin : ∀ (r6 k : Int) (M1 : Mm), ((r6 = 1 ∧ k = 21) ∨ (r6 = 0 ∧ k = 22)) → Sm T e (p + 3) (p + 3) M1 → Fr smL M M1 → (if bte T e (sk T e (p + 3)) ≠ 40 then some (.inl (1, sk T e (p + 3))) else if o = 6 then some (.inl (4, sk T e (p + 3))) else dD false T e n true (sk T e (p + 3) + 1) (p + 3) (o + 1) (k :: W) C) = some R → wq (f_M_onePart_J90 kH kx v1 r6 M1) Q := by
    intro r6 k M1 z1 z2 z3 z4
    exact xt_pair2 hB z1 (h.sm z2 z3) (hI.mono (by omega)) ho0 z4 (fun M' y1 y2 => hk M' (y1.imp_right (fun y => y.mono (by omega))) ((z3.cov rfl : Fr xtA _ _).tr y2))
  unfold f_M_onePart_J69
  refine wq_I (s_takes hB h.1 rw_96) (fun r M1 ⟨c1, c2⟩ => ?_)
  rw [hsp] at c1
  rcases c1 with ⟨d1, d2, d3⟩ | ⟨d1, d2, d3⟩
  · have d1 : r = 1 := d1
    rw [d1]
    rw [if_pos (hwq_iff.mpr d2)] at hd
    exact wq_t (by decide) (fin 1 21 M1 (Or.inl ⟨rfl, rfl⟩) d3 c2 hd)
  · have d1 : r = 0 := d1
    rw [d1]
    have d4 : hw T e wMax p g := by
      rcases hmm with z | ⟨-, z⟩
      · exact absurd z d2
      · exact z
    rw [if_neg (fun z => d2 (hwq_iff.mp z)), if_pos (hwq_iff.mpr d4)] at hd
    refine wq_e (by decide) (wq_V (s_asks hB d3 rw_97) (fun M2 ⟨e1, e2⟩ => ?_))
    rw [hsp] at e1
    rcases e1 with ⟨-, y2⟩ | ⟨y1, -⟩
    · exact fin 0 22 M2 (Or.inr ⟨rfl, rfl⟩) y2 (c2.tr e2) hd
    · exact absurd d4 y1
theorem xt_fin {p' g' v : Int} (h : Xt U T e p' g' o W W0 C M) (hI : Iv false o0 (W0.length + 1) true p o W C) (h0 : 0 ≤ p) (hp : p < p') (hp2 : p' ≤ 1600) (hd : dD false T e n false p' g' (o - (W.takeWhile ofQ).length) (W.dropWhile ofQ) (C ++ v :: W.takeWhile ofQ) = some R) (hpm : pm ≤ p') : wq (bV (f_M_code v M) (fun M30 => some M30)) (fun M' => (Bdt U T e R M' ∨ Ont U T e o0 W0 R pm false M') ∧ Fr xtA M M') := by
  have hlen : C.length + W.length + W0.length < 1600 := by have := hI.2.2.2.2; omega
  have hI2 := hI.part (v := v) h0 hp
  have hno := fun y : false = false => allNof (hI.2.2.2.1 y)
  try have hno := hno rfl
  refine wq_V (xt_code h (by omega)) (fun M1 ⟨z1, z2⟩ => wq_some ⟨Or.inr ⟨n, p', g', o, W, _, ?_, z1, ?_, hpm⟩, z2.cov rfl⟩)
  · rw [hno.1, hno.2, show o - ((([] : List Int).length : Nat) : Int) = o by show o - ((0 : Nat) : Int) = o; omega] at hd
    exact hd
  · rw [hno.1, hno.2, show o - ((([] : List Int).length : Nat) : Int) = o by show o - ((0 : Nat) : Int) = o; omega] at hI2
    exact hI2
theorem xt_finB {k pl v : Int} (h : Fm T e k pl M) (hU : Ukt U M) (h0 : 0 ≤ M 78 35) (h1 : M 78 35 < 1600) (hR : R = .inl (k, pl)) : wq (bV (f_M_code v M) (fun M30 => some M30)) (fun M' => Bdt U T e R M' ∧ Fr xtA M M') := by
  refine wq_V (xt_codeB (v := v) h hU h0 h1) (fun M1 ⟨z1, z2, z3⟩ => wq_some ⟨⟨k, pl, hR, z1, z2⟩, z3.cov rfl⟩)
theorem xt_num (hB : Bt T e) (h : Xt U T e p g o W W0 C M) (hI : Iv false o0 (W0.length + 1) true p o W C) (hd1 : ∀ f, numR T e 0 9999 p g = .inl f → R = .inl f) (hd2 : ∀ p' v, numR T e 0 9999 p g = .inr (p', v) → dD false T e n false p' p' (o - (W.takeWhile ofQ).length) (W.dropWhile ofQ) (C ++ (1000 + v) :: W.takeWhile ofQ) = some R) : wq (bI (f_M_number 0 9999 M) (fun r M28 => bV (f_M_code (1000 + r) M28) (fun M30 => some M30))) (fun M' => (Bdt U T e R M' ∨ Ont U T e o0 W0 R (p + 1) false M') ∧ Fr xtA M M') := by
  have hh := hB.1
  have b := h.1.2.2.2.2.2.1
  have hs := sk_rng T b.1 b.2
  refine wq_I (s_mnumber hB h.1 (by decide) (by decide) (by decide) (by decide)) (fun r M1 ⟨c1, c2⟩ => ?_)
  rcases c1 with ⟨p1, v, d1, d2, d3, d4, d5⟩ | ⟨k, pl, d1, d2, d3⟩
  · have d2 : r = v := d2
    rw [d2]
    have h1 := h.sm d5 c2
    have b1 := d5.2.2.2.2.2.1
    exact wq_m (xt_fin h1 hI b.1 (by omega) (by omega) (hd2 _ _ d1) (by omega)) (fun M' ⟨z1, z2⟩ => ⟨z1, (c2.cov rfl : Fr xtA _ _).tr z2⟩)
  · have c2 : Fr smL M M1 := c2
    have ei : M1 78 35 = (C.length : Int) := by
      rw [c2.at 78 35 rfl]
      exact h.2.2.2.2.2.1
    have hlen : C.length < 1600 := by have := hI.2.2.2.2; omega
    refine wq_m (xt_finB d3 ((h.uk (by omega)).cg (c2.row 102 rfl) (c2.at 78 35 rfl)) (by rw [ei]; omega) (by rw [ei]; omega) (hd1 _ d1)) (fun M' ⟨z1, z2⟩ => ⟨Or.inl z1, (c2.cov rfl : Fr xtA _ _).tr z2⟩)
end Xtm
section Xqm
variable {U T : Nat → Int} {e p g o o0 pm : Int} {W W0 C : List Int} {M : Mm} {R : Out} {n : Nat}
theorem xq_opens {k pl : Int} (h : Xq U T e p g o W W0 C M) (ho : -1000 ≤ o ∧ o ≤ 6) (hb : C.length + W.length + W0.length ≤ 1600) (hk : 0 ≤ k ∧ k ≤ 100) (hpl : -1 ≤ pl ∧ pl ≤ 1600) : wq (f_M_qOpens k pl M) (fun M' => ((o ≠ 6 ∧ Xq U T e p g (o + 1) (k :: W) W0 C M') ∨ (o = 6 ∧ Fm T e 4 pl M' ∧ Ukq U M')) ∧ Fr xqA M M') := by
  have a4 := h.2.2.2.1
  unfold f_M_qOpens
  (rw [h.1.2.2.2.2.1]; refine wq_t rfl ?_)
  refine wq_if (fun c => ?_) (fun c => ?_)
  · rw [a4, i32_id (x := o) (by omega) (by omega), i32_id (x := 6) (by decide) (by decide)] at c
    exact wq_m (xq_opn h (by omega) hk) (fun M' ⟨z1, z2⟩ => ⟨Or.inl ⟨c, z1⟩, z2.cov rfl⟩)
  · rw [a4, i32_id (x := o) (by omega) (by omega), i32_id (x := 6) (by decide) (by decide)] at c
    refine wq_V (s_mfail h.1 (by decide) hpl) (fun M1 ⟨y1, y2⟩ => wq_some ⟨Or.inr ⟨Decidable.not_not.mp c, y1, (h.uk (by omega)).cg (y2.row 142 rfl) (y2.at 78 89 rfl)⟩, y2.cov rfl⟩)
/-- behind min, max -/
theorem xq_pair2 {kH : Int → Mm → Option Mm} {kx : Mm → Option Mm} {Q : Mm → Prop} {k r6 v1 : Int} (hB : Bt T e) (hr : (r6 = 1 ∧ k = 21) ∨ (r6 = 0 ∧ k = 22)) (h : Xq U T e p p o W W0 C M) (hI : Iv true o0 (W0.length + 1) true p o W C) (ho0 : 0 ≤ o0) (hd : (if bte T e (sk T e p) ≠ 40 then some (.inl (1, sk T e p)) else if o = 6 then some (.inl (4, sk T e p)) else dD true T e n true (sk T e p + 1) p (o + 1) (k :: W) C) = some R) (hk : ∀ M', (Bdq U T e R M' ∨ Onq U T e o0 W0 R (p + 1) true M') → Fr xqA M M' → wq (kH v1 M') Q) : wq (f_M_qPartTold_J100 kH kx v1 r6 M) Q := by
  have hh := hB.1
  have b := h.1.2.2.2.2.2.1
  have hs := sk_rng T b.1 b.2
  have hss := sk_sk T (e := e) b.1
  have hbr := bte_rng hB (sk T e p)
  have hlo := hI.lo
  have hI1 := hI.mono hs.1
  have ho := hI.1
  have hlen : C.length + W.length + W0.length ≤ 1600 := by have := hI.2.2.2.2; omega
  obtain ⟨P, hP⟩ : ∃ P, P = sk T e p := ⟨_, rfl⟩
  unfold f_M_qPartTold_J100
  refine wq_I (s_look hB h.1) (fun r M1 ⟨c1, c2, c3⟩ => ?_)
  have c1 : r = bte T e (sk T e p) := c1
  have h1 : Xq U T e (sk T e p) p o W W0 C M1 := h.sm c2 (c3.cov rfl)
  have f1 : Fr xqA M M1 := c3.cov rfl
  rw [← hP] at hd hs hss hbr hI1 c1 h1
  rw [c1, i32_id (x := bte T e P) (by omega) (by omega), i32_id (x := 40) (by decide) (by decide)]
  refine wq_if (fun c => ?_) (fun c => ?_)
  · rw [if_pos c] at hd
    unfold f_M_qPartTold_J117
    refine wq_t (by decide) (wq_V (s_asksSign hB h1.1 (by decide)) (fun M2 ⟨d1, d2⟩ => ?_))
    rw [hss] at d1
    rcases d1 with ⟨y1, -⟩ | ⟨-, y2⟩
    · exact absurd y1 c
    · refine hk M2 (Or.inl ⟨1, P, (Option.some.inj hd).symm, y2, (h1.uk (by omega)).cg (d2.row 142 rfl) (d2.at 78 89 rfl)⟩) (f1.tr (d2.cov rfl))
  · have c : bte T e P = 40 := Decidable.not_not.mp c
    have hl := bte_lt (T := T) (e := e) (k := P) (by omega) (by omega)
    rw [if_neg (fun z => z c)] at hd
    have hop : ∀ M3 : Mm, ((o ≠ 6 ∧ Xq U T e P p (o + 1) (k :: W) W0 C M3) ∨ (o = 6 ∧ Fm T e 4 P M3 ∧ Ukq U M3)) → Fr xqA M1 M3 → wq (bV (f_M_asksSign 40 M3) (fun M' => kH v1 M')) Q := by
      intro M3 z f3
      rcases z with ⟨z1, z2⟩ | ⟨z1, z2, z3⟩
      · rw [if_neg z1] at hd
        refine wq_V (s_asksSign hB z2.1 (by decide)) (fun M4 ⟨d1, d2⟩ => ?_)
        rw [hss] at d1
        rcases d1 with ⟨-, y1⟩ | ⟨y1, -⟩
        · exact hk M4 (Or.inr ⟨n, _, _, _, _, _, hd, z2.sm y1 d2, hI1.push (Or.inl (by omega)) z1 (by omega) (by omega), by omega⟩) (f1.tr (f3.tr (d2.cov rfl)))
        · exact absurd c y1
      · rw [if_pos z1] at hd
        rw [e_asksSign_f z2]
        exact hk M3 (Or.inl ⟨4, P, (Option.some.inj hd).symm, z2, z3⟩) (f1.tr f3)
    rw [h1.1.2.2.1]
    unfold f_M_qPartTold_J117
    rw [i32_id (x := P) (by omega) (by omega)]
    refine wq_e (by rw [i32_id (x := (-1)) (by decide) (by decide)]; omega) ?_
    rcases hr with ⟨e1, e2⟩ | ⟨e1, e2⟩
    · rw [e1]
      exact wq_e (by decide) (wq_V (xq_opens h1 (by omega) (by omega) (by decide) (by omega)) (fun M3 ⟨z1, z2⟩ => hop M3 (by rw [e2]; exact z1) z2))
    · rw [e1]
      exact wq_t (by decide) (wq_V (xq_opens h1 (by omega) (by omega) (by decide) (by omega)) (fun M3 ⟨z1, z2⟩ => hop M3 (by rw [e2]; exact z1) z2))
theorem xq_pair {kH : Int → Mm → Option Mm} {kx : Mm → Option Mm} {Q : Mm → Prop} {v1 : Int} (hB : Bt T e) (h : Xq U T e p g o W W0 C M) (hI : Iv true o0 (W0.length + 1) true p o W C) (ho0 : 0 ≤ o0) (hsp : sk T e p = p) (hd : dD true T e (n + 1) true p g o W C = some R) (h40 : bte T e p ≠ 40) (hmm : hw T e wMin p g ∨ (¬ hw T e wMin p g ∧ hw T e wMax p g)) (hk : ∀ M', (Bdq U T e R M' ∨ Onq U T e o0 W0 R (p + 1) true M') → Fr xqA M M' → wq (kH v1 M') Q) : wq (f_M_qPartTold_J77 kH kx v1 M) Q := by
  have b := h.1.2.2.2.2.2.1
  unfold dD at hd
  rw [hsp, if_neg h40] at hd
  have fin : ∀ (r6 k : Int) (M1 : Mm), ((r6 = 1 ∧ k = 21) ∨ (r6 = 0 ∧ k = 22)) → Sm T e (p + 3) (p + 3) M1 → Fr smL M M1 → (if bte T e (sk T e (p + 3)) ≠ 40 then some (.inl (1, sk T e (p + 3))) else if o = 6 then some (.inl (4, sk T e (p + 3))) else dD true T e n true (sk T e (p + 3) + 1) (p + 3) (o + 1) (k :: W) C) = some R → wq (f_M_qPartTold_J100 kH kx v1 r6 M1) Q := by
    intro r6 k M1 z1 z2 z3 z4
    exact xq_pair2 hB z1 (h.sm z2 z3) (hI.mono (by omega)) ho0 z4 (fun M' y1 y2 => hk M' (y1.imp_right (fun y => y.mono (by omega))) ((z3.cov rfl : Fr xqA _ _).tr y2))
  unfold f_M_qPartTold_J77
  refine wq_I (s_takes hB h.1 rw_134) (fun r M1 ⟨c1, c2⟩ => ?_)
  rw [hsp] at c1
  rcases c1 with ⟨d1, d2, d3⟩ | ⟨d1, d2, d3⟩
  · have d1 : r = 1 := d1
    rw [d1]
    rw [if_pos (hwq_iff.mpr d2)] at hd
    exact wq_t (by decide) (fin 1 21 M1 (Or.inl ⟨rfl, rfl⟩) d3 c2 hd)
  · have d1 : r = 0 := d1
    rw [d1]
    have d4 : hw T e wMax p g := by
      rcases hmm with z | ⟨-, z⟩
      · exact absurd z d2
      · exact z
    rw [if_neg (fun z => d2 (hwq_iff.mp z)), if_pos (hwq_iff.mpr d4)] at hd
    refine wq_e (by decide) (wq_V (s_asks hB d3 rw_135) (fun M2 ⟨e1, e2⟩ => ?_))
    rw [hsp] at e1
    rcases e1 with ⟨-, y2⟩ | ⟨y1, -⟩
    · exact fin 0 22 M2 (Or.inr ⟨rfl, rfl⟩) y2 (c2.tr e2) hd
    · exact absurd d4 y1
theorem xq_fin {p' g' v : Int} (h : Xq U T e p' g' o W W0 C M) (hI : Iv true o0 (W0.length + 1) true p o W C) (h0 : 0 ≤ p) (hp : p < p') (hp2 : p' ≤ 1600) (hd : dD true T e n false p' g' (o - (W.takeWhile ofQ).length) (W.dropWhile ofQ) (C ++ v :: W.takeWhile ofQ) = some R) (hpm : pm ≤ p') : wq (bV (f_M_qCode v M) (fun M28 => bV (f_M_qEndsPart M28) (fun M29 => some M29))) (fun M' => (Bdq U T e R M' ∨ Onq U T e o0 W0 R pm false M') ∧ Fr xqA M M') := by
  have hlen : C.length + W.length + W0.length < 1600 := by have := hI.2.2.2.2; omega
  have hI2 := hI.part (v := v) h0 hp
  have hno := fun y : true = false => allNof (hI.2.2.2.1 y)
  try have hno := hno rfl
  refine wq_V (xq_code h (by omega)) (fun M1 ⟨z1, z2⟩ => wq_V (xq_ends z1 (by rw [List.length_append, List.length_singleton]; omega)) (fun M2 ⟨y1, y2⟩ => wq_some ⟨Or.inr ⟨n, p', g', _, _, _, hd, ?_, hI2, hpm⟩, (z2.cov rfl : Fr xqA _ _).tr (y2.cov rfl)⟩))
  rw [List.append_assoc] at y1
  exact y1
theorem xq_finB {k pl v : Int} (h : Fm T e k pl M) (hU : Ukq U M) (h0 : 0 ≤ M 78 89) (h1 : M 78 89 < 1600) (hR : R = .inl (k, pl)) : wq (bV (f_M_qCode v M) (fun M28 => bV (f_M_qEndsPart M28) (fun M29 => some M29))) (fun M' => Bdq U T e R M' ∧ Fr xqA M M') := by
  refine wq_V (xq_codeB (v := v) h hU h0 h1) (fun M1 ⟨z1, z2, z3⟩ => ?_)
  unfold f_M_qEndsPart f_M_qEndsPart_L0 FU
  show wq (bV (f_M_qEndsPart_B0 _ M1) (fun M29 => some M29)) _
  have hk := z1.2.2.2.2.1
  unfold f_M_qEndsPart_B0
  rw [z1.2.2.1, i32_id (x := k) (by omega) (by omega), if_pos (by omega)]
  exact wq_some ⟨⟨k, pl, hR, z1, z2⟩, z3.cov rfl⟩
theorem xq_num (hB : Bt T e) (h : Xq U T e p g o W W0 C M) (hI : Iv true o0 (W0.length + 1) true p o W C) (hd1 : ∀ f, numR T e 0 9999 p g = .inl f → R = .inl f) (hd2 : ∀ p' v, numR T e 0 9999 p g = .inr (p', v) → dD true T e n false p' p' (o - (W.takeWhile ofQ).length) (W.dropWhile ofQ) (C ++ (1000 + v) :: W.takeWhile ofQ) = some R) : wq (bI (f_M_number 0 9999 M) (fun r M28 => bV (f_M_qCode (1000 + r) M28) (fun M28 => bV (f_M_qEndsPart M28) (fun M29 => some M29)))) (fun M' => (Bdq U T e R M' ∨ Onq U T e o0 W0 R (p + 1) false M') ∧ Fr xqA M M') := by
  have hh := hB.1
  have b := h.1.2.2.2.2.2.1
  have hs := sk_rng T b.1 b.2
  refine wq_I (s_mnumber hB h.1 (by decide) (by decide) (by decide) (by decide)) (fun r M1 ⟨c1, c2⟩ => ?_)
  rcases c1 with ⟨p1, v, d1, d2, d3, d4, d5⟩ | ⟨k, pl, d1, d2, d3⟩
  · have d2 : r = v := d2
    rw [d2]
    have h1 := h.sm d5 c2
    have b1 := d5.2.2.2.2.2.1
    exact wq_m (xq_fin h1 hI b.1 (by omega) (by omega) (hd2 _ _ d1) (by omega)) (fun M' ⟨z1, z2⟩ => ⟨z1, (c2.cov rfl : Fr xqA _ _).tr z2⟩)
  · have c2 : Fr smL M M1 := c2
    have ei : M1 78 89 = (C.length : Int) := by
      rw [c2.at 78 89 rfl]
      exact h.2.2.2.2.2.1
    have hlen : C.length < 1600 := by have := hI.2.2.2.2; omega
    refine wq_m (xq_finB d3 ((h.uk (by omega)).cg (c2.row 142 rfl) (c2.at 78 89 rfl)) (by rw [ei]; omega) (by rw [ei]; omega) (hd1 _ d1)) (fun M' ⟨z1, z2⟩ => ⟨Or.inl z1, (c2.cov rfl : Fr xqA _ _).tr z2⟩)
end Xqm
