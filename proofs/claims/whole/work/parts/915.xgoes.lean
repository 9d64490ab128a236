theorem rw_of {r : Nat} {l L : List Int} (h : owc (r, l) = true) (hL : l.map (· + 96) = L) : rwd r L := by
  rw [← hL]
  exact (owc_owd h).1
theorem rw_93 : rwd 93 wTide := rw_of (l := [20, 9, 4, 5]) (by decide +kernel) (by decide)
theorem rw_86 : rwd 86 wRound := rw_of (l := [18, 15, 21, 14, 4]) (by decide +kernel) (by decide)
theorem rw_94 : rwd 94 wClock := rw_of (l := [3, 12, 15, 3, 11]) (by decide +kernel) (by decide)
theorem rw_95 : rwd 95 wDay := rw_of (l := [4, 1, 25]) (by decide +kernel) (by decide)
theorem rw_96 : rwd 96 wMin := rw_of (l := [13, 9, 14]) (by decide +kernel) (by decide)
theorem rw_97 : rwd 97 wMax := rw_of (l := [13, 1, 24]) (by decide +kernel) (by decide)
theorem rw_134 : rwd 134 wMin := rw_of (l := [13, 9, 14]) (by decide +kernel) (by decide)
theorem rw_135 : rwd 135 wMax := rw_of (l := [13, 1, 24]) (by decide +kernel) (by decide)
theorem rw_136 : rwd 136 wHour := rw_of (l := [8, 15, 21, 18]) (by decide +kernel) (by decide)
theorem rw_137 : rwd 137 wClock := rw_of (l := [3, 12, 15, 3, 11]) (by decide +kernel) (by decide)
theorem rw_138 : rwd 138 wDay := rw_of (l := [4, 1, 25]) (by decide +kernel) (by decide)
theorem rw_139 : rwd 139 wWidth := rw_of (l := [23, 9, 4, 20, 8]) (by decide +kernel) (by decide)
theorem rw_140 : rwd 140 wTide := rw_of (l := [20, 9, 4, 5]) (by decide +kernel) (by decide)
theorem rw_141 : rwd 141 wPasses := rw_of (l := [16, 1, 19, 19, 5, 19]) (by decide +kernel) (by decide)
/-- letters alone -/
def lwd (L : List Int) : Prop := ∀ i : Nat, i < L.length → 97 ≤ L.getD i 0 ∧ L.getD i 0 ≤ 122
theorem hw_un {T : Nat → Int} {e p g : Int} {L L' : List Int} (hL : lwd L) (hL' : lwd L') (h : hw T e L p g) (h' : hw T e L' p g) : L = L' := by
  obtain ⟨-, h1, h2⟩ := h
  obtain ⟨-, h3, h4⟩ := h'
  have hlen : L.length = L'.length := by
    by_cases c : L.length < L'.length
    · have := hL' _ c
      rw [← h3 _ c] at this
      exact absurd this h2
    · by_cases d : L'.length < L.length
      · have := hL _ d
        rw [← h1 _ d] at this
        exact absurd this h4
      · omega
  apply List.ext_getElem hlen
  intro i g1 g2
  have e1 := h1 i g1
  have e2 := h3 i g2
  rw [e1] at e2
  rw [List.getD_eq_getElem?_getD, List.getD_eq_getElem?_getD, List.getElem?_eq_getElem g1, List.getElem?_eq_getElem g2] at e2
  exact e2
theorem hw_no {T : Nat → Int} {e p g : Int} {L L' : List Int} (h : hw T e L p g) (hL : lwd L) (hL' : lwd L') (hne : L ≠ L') : hwq T e L' p g = false := hwq_not (fun z => hne (hw_un hL hL' h z))
theorem lw_Min : lwd wMin := by unfold lwd; decide
theorem lw_Max : lwd wMax := by unfold lwd; decide
theorem lw_Tide : lwd wTide := by unfold lwd; decide
theorem lw_Round : lwd wRound := by unfold lwd; decide
theorem lw_Clock : lwd wClock := by unfold lwd; decide
theorem lw_Day : lwd wDay := by unfold lwd; decide
theorem lw_Hour : lwd wHour := by unfold lwd; decide
theorem lw_Width : lwd wWidth := by unfold lwd; decide
theorem lw_Passes : lwd wPasses := by unfold lwd; decide
theorem hw_let {T : Nat → Int} {e p g : Int} {L : List Int} (hL : lwd L) (h1 : 1 ≤ L.length) (h : hw T e L p g) : 97 ≤ bte T e (sk T e p) ∧ bte T e (sk T e p) ≤ 122 := by
  have e1 := h.2.1 0 h1
  have e2 := hL 0 h1
  rw [← e1] at e2
  rw [show sk T e p + ((0 : Nat) : Int) = sk T e p by omega] at e2
  exact e2
/-- the reading of a part, where none opens -/
theorem dD_part {a : Bool} {T : Nat → Int} {e p g o : Int} {n : Nat} {W C : List Int} {R : Out} (hd : dD a T e (n + 1) true p g o W C = some R) (h1 : bte T e (sk T e p) ≠ 40) (h2 : hwq T e wMin p g = false) (h3 : hwq T e wMax p g = false) (h4 : a = true → hwq T e wWidth p g = false ∧ hwq T e wTide p g = false ∧ hwq T e wPasses p g = false) : (∀ f, opd a T e p g = .inl f → R = .inl f) ∧ (∀ p' g' v, opd a T e p g = .inr (p', g', v) → dD a T e n false p' g' (o - (W.takeWhile ofQ).length) (W.dropWhile ofQ) (C ++ v :: W.takeWhile ofQ) = some R) := by
  unfold dD at hd
  have g4 : ¬ (a && hwq T e wWidth p g) = true ∧ ¬ (a && hwq T e wTide p g) = true ∧ ¬ (a && hwq T e wPasses p g) = true := by
    cases a with
    | false => exact ⟨by simp, by simp, by simp⟩
    | true =>
      obtain ⟨z1, z2, z3⟩ := h4 rfl
      rw [z1, z2, z3]
      exact ⟨by decide, by decide, by decide⟩
  rw [if_neg h1, if_neg (by rw [h2]; decide), if_neg (by rw [h3]; decide), if_neg g4.1, if_neg g4.2.1, if_neg g4.2.2] at hd
  refine ⟨fun f hf => ?_, fun p' g' v hf => ?_⟩
  · rw [hf] at hd
    exact (Option.some.inj hd).symm
  · rw [hf] at hd
    exact hd
section Xtk
variable {U T : Nat → Int} {e p g o o0 pm : Int} {W W0 C : List Int} {M : Mm} {R : Out} {m : Bool}
theorem Ont.mono {pm' : Int} (h : Ont U T e o0 W0 R pm' m M) (hp : pm ≤ pm') : Ont U T e o0 W0 R pm m M := by
  obtain ⟨n, p, g, o, W, C, h1, h2, h3, h4⟩ := h
  exact ⟨n, p, g, o, W, C, h1, h2, h3, by omega⟩
theorem xt_goesOn (hB : Bt T e) (h : Ont U T e o0 W0 R pm false M) (hw0 : opQ (W0.headD (-1)) = false) : wq (f_M_goesOn M) (fun q => ((q.1 = 1 ∧ Ont U T e o0 W0 R (pm + 1) true q.2) ∨ (q.1 = 0 ∧ (Bdt U T e R q.2 ∨ Ent U T e o0 W0 R q.2))) ∧ Fr xtA M q.2) := by
  have hh := hB.1
  unfold f_M_goesOn f_M_goesOn_L0
  refine wq_lp (fun N => Ont U T e o0 W0 R pm false N ∧ Fr xtA M N) (fun N => (2000 - N 78 2).toNat) ?_ FU _ ⟨h, Fr.rf⟩ ?_
  · rintro kH N ⟨⟨n, p, g, o, W, C, q1, q2, q3, q4⟩, q5⟩ hk
    cases n with
    | zero => cases q1
    | succ n =>
      have b := q2.1.2.2.2.2.2.1
      have hs := sk_rng T b.1 b.2
      have hss := sk_sk T (e := e) b.1
      have hlen : C.length + W.length + W0.length ≤ 1600 := by have := q3.2.2.2.2; omega
      have hbr := bte_rng hB (sk T e p)
      have i1 := q3.mono hs.1
      have d1 := q1
      rw [← dD_sk false T e (n + 1) false g o W C b.1] at d1
      have hel := q2.2.2.2.2.2.2.2.2
      have htr := tpm_rng W (fun v hv => hel v (List.mem_append_left _ hv))
      have e0 : N 78 2 = p := q2.1.2.2.1
      unfold f_M_goesOn_B0
      rw [q2.1.2.2.2.2.1]
      refine wq_e (fun z => z rfl) (wq_I (s_look hB q2.1) (fun r M1 ⟨c1, c2, c3⟩ => ?_))
      have c1 : r = bte T e (sk T e p) := c1
      have h1 := q2.sm c2 (c3.cov rfl)
      have f1 : Fr xtA M M1 := q5.tr (c3.cov rfl)
      clear c2 c3 q1 q2 q5
      obtain ⟨P, hP⟩ : ∃ P, P = sk T e p := ⟨_, rfl⟩
      rw [← hP] at h1 d1 i1 hs hss hbr c1
      have hrest : ¬ (bte T e P = 41 ∧ (tpm W = 20 ∨ tpm W = 23 ∨ tpm W = 24)) → wq (f_M_goesOn_J118 M1) (fun q => ((q.1 = 1 ∧ Ont U T e o0 W0 R (pm + 1) true q.2) ∨ (q.1 = 0 ∧ (Bdt U T e R q.2 ∨ Ent U T e o0 W0 R q.2))) ∧ Fr xtA M q.2) := by
        intro hnc
        refine wq_m (xt_rest hB h1 i1 d1 (by rw [hss]; exact hnc) hw0) (fun q ⟨z1, z2⟩ => ⟨?_, f1.tr z2⟩)
        rcases z1 with ⟨y1, y2⟩ | y
        · exact Or.inl ⟨y1, y2.mono (by omega)⟩
        · exact Or.inr y
      rw [c1, i32_id (x := bte T e P) (by omega) (by omega), i32_id (x := 41) (by decide) (by decide)]
      refine wq_if (fun c => hrest (fun z => c z.1)) (fun c => ?_)
      have c : bte T e P = 41 := Decidable.not_not.mp c
      have hl := bte_lt (T := T) (e := e) (k := P) (by omega) (by omega)
      have hclose : (tpm W = 20 ∨ tpm W = 23 ∨ tpm W = 24) → wq (f_M_goesOn_J43 kH (fun M15 => f_M_goesOn_J118 M15) M1) (fun q => ((q.1 = 1 ∧ Ont U T e o0 W0 R (pm + 1) true q.2) ∨ (q.1 = 0 ∧ (Bdt U T e R q.2 ∨ Ent U T e o0 W0 R q.2))) ∧ Fr xtA M q.2) := by
        intro ht
        have d2 := d1
        unfold dD at d2
        rw [hss, if_pos ⟨c, ht⟩] at d2
        obtain ⟨⟨k, W', j1, j2, j3⟩, i2⟩ := i1.close (cl := if tpm W = 20 then [] else if tpm W = 23 then [5] else [6]) (p1 := P + 1) (by omega) (by split <;> (try split) <;> decide) (by omega) (by omega)
        rw [j1] at d2 i2
        rw [j2] at d2 i2 ht
        refine xt_close h1 hl j1 ht hlen i1.2.2.2.1 (fun M' y1 y2 => hk _ ⟨⟨n, _, _, _, _, _, d2, y1, i2, by omega⟩, f1.tr y2⟩ ?_)
        rw [y1.1.2.2.1, e0]
        omega
      refine wq_I (xt_last h1 (by omega)) (fun r5 M5 ⟨k1, k2⟩ => ?_)
      have k1 : r5 = tpm W := k1
      have k2 : M5 = M1 := k2
      subst k1 k2
      rw [i32_id (x := tpm W) (by omega) (by omega), i32_id (x := 20) (by decide) (by decide)]
      refine wq_if (fun c2 => hclose (Or.inl c2)) (fun c2 => wq_I (xt_last h1 (by omega)) (fun r6 M6 ⟨k3, k4⟩ => ?_))
      have k3 : r6 = tpm W := k3
      have k4 : M6 = M5 := k4
      subst k3 k4
      rw [i32_id (x := tpm W) (by omega) (by omega), i32_id (x := 23) (by decide) (by decide)]
      refine wq_if (fun c3 => hclose (Or.inr (Or.inl c3))) (fun c3 => wq_I (xt_last h1 (by omega)) (fun r7 M7 ⟨k5, k6⟩ => ?_))
      have k5 : r7 = tpm W := k5
      have k6 : M7 = M6 := k6
      subst k5 k6
      rw [i32_id (x := tpm W) (by omega) (by omega), i32_id (x := 24) (by decide) (by decide)]
      exact wq_if (fun c4 => hrest (fun z => z.2.elim c2 (fun z => z.elim c3 c4))) (fun c4 => hclose (Or.inr (Or.inr (Decidable.not_not.mp c4))))
  · obtain ⟨n, p, g, o, W, C, h1, h2, h3, h4⟩ := h
    have b := h2.1.2.2.2.2.2.1
    show (2000 - M 78 2).toNat < 1000000000
    rw [h2.1.2.2.1]
    omega
theorem xt_codeB {k pl v : Int} (h : Fm T e k pl M) (hU : Ukt U M) (h0 : 0 ≤ M 78 35) (h1 : M 78 35 < 1600) : wq (f_M_code v M) (fun M' => Fm T e k pl M' ∧ Ukt U M' ∧ Fr xtL M M') := by
  unfold f_M_code
  try simp only [Int.zero_add]
  rw [i32_id (x := M 78 35) (by omega) (by omega)]
  refine wq_g ⟨by omega, by omega⟩ (wq_d (wq_d (wq_some ?_)))
  rw [up_row (show ¬ (78 : Nat) = 102 by decide)]
  have hF : Fr [(78, 35), (102, 99999)] M (up (up M 102 (M 78 35).toNat v) 78 35 (M 78 35 + 1)) := (Fr.rf.up (by simp)).up (by simp)
  refine ⟨h.fr hF rfl, ⟨fun j hj => ?_, by rw [up_eq]; omega, by rw [up_eq]; omega⟩, hF.cov rfl⟩
  rw [up_row (show ¬ (102 : Nat) = 78 by decide), up_col (show ¬ j = (M 78 35).toNat by omega)]
  exact hU.1 j hj
/-- the cells behind an opening sign -/
theorem xt_opn {k : Int} (h : Xt U T e p g o W W0 C M) (hb : W.length + W0.length ≤ 1600) (hk : 0 ≤ k ∧ k ≤ 100) : wq (bd (up M 78 38 ((M 78 38) + 1)) (fun M1 => gd (0 ≤ i32 (M1 78 37) ∧ i32 (M1 78 37) < ((1700 : Nat) : Int)) (bd (up M1 103 (i32 (M1 78 37)).toNat k) (fun M2 => bd (up M2 78 37 ((M2 78 37) + 1)) (fun M3 => some M3))))) (fun M' => Xt U T e p g (o + 1) (k :: W) W0 C M' ∧ Fr xtL M M') := by
  have hF : Fr [(78, 38)] M (up M 78 38 (o + 1)) := Fr.rf.up (by simp)
  obtain ⟨a1, a2, a3, a4, a5, a6, a7, a8, a9⟩ := h
  have h1 : Xt U T e p g (o + 1) W W0 C (up M 78 38 (o + 1)) := ⟨a1.fr hF rfl, by rw [hF.at 78 37 rfl]; exact a2, by rw [hF.row 103 rfl]; exact a3, up_eq _ _ _ _, by rw [hF.at 78 41 rfl]; exact a5, by rw [hF.at 78 35 rfl]; exact a6, by rw [hF.row 102 rfl]; exact a7, by rw [hF.row 102 rfl]; exact a8, a9⟩
  rw [a4]
  refine wq_d ?_
  obtain ⟨⟨r, M'⟩, z1, z2, z3, z4⟩ := xt_push (v := k) h1 hb hk
  generalize up M 78 38 (o + 1) = N at *
  have b2 := h1.2.1
  have hl : (W ++ W0).length = W.length + W0.length := List.length_append
  have hc : 0 ≤ i32 (N 78 37) ∧ i32 (N 78 37) < ((1700 : Nat) : Int) := by
    rw [b2, i32_id (x := ((W ++ W0).length : Int)) (by omega) (by omega)]
    omega
  unfold gd at z1
  rw [if_pos hc] at z1
  refine wq_g hc ⟨M', ?_, z3, (hF.cov rfl : Fr xtL _ _).tr z4⟩
  have z1 : (some ((1 : Int), up (up N 103 (i32 (N 78 37)).toNat k) 78 37 (up N 103 (i32 (N 78 37)).toNat k 78 37 + 1)) : Option (Int × Mm)) = some (r, M') := z1
  show (some (up (up N 103 (i32 (N 78 37)).toNat k) 78 37 (up N 103 (i32 (N 78 37)).toNat k 78 37 + 1)) : Option Mm) = some M'
  injection z1 with z1
  injection z1 with z5 z6
  rw [z6]
end Xtk
section Xqk
variable {U T : Nat → Int} {e p g o o0 pm : Int} {W W0 C : List Int} {M : Mm} {R : Out} {m : Bool}
theorem Onq.mono {pm' : Int} (h : Onq U T e o0 W0 R pm' m M) (hp : pm ≤ pm') : Onq U T e o0 W0 R pm m M := by
  obtain ⟨n, p, g, o, W, C, h1, h2, h3, h4⟩ := h
  exact ⟨n, p, g, o, W, C, h1, h2, h3, by omega⟩
theorem xq_goesOn (hB : Bt T e) (h : Onq U T e o0 W0 R pm false M) (hw0 : opQ (W0.headD (-1)) = false) : wq (f_M_qGoesOn M) (fun q => ((q.1 = 1 ∧ Onq U T e o0 W0 R (pm + 1) true q.2) ∨ (q.1 = 0 ∧ (Bdq U T e R q.2 ∨ Enq U T e o0 W0 R q.2))) ∧ Fr xqA M q.2) := by
  have hh := hB.1
  unfold f_M_qGoesOn f_M_qGoesOn_L0
  refine wq_lp (fun N => Onq U T e o0 W0 R pm false N ∧ Fr xqA M N) (fun N => (2000 - N 78 2).toNat) ?_ FU _ ⟨h, Fr.rf⟩ ?_
  · rintro kH N ⟨⟨n, p, g, o, W, C, q1, q2, q3, q4⟩, q5⟩ hk
    cases n with
    | zero => cases q1
    | succ n =>
      have b := q2.1.2.2.2.2.2.1
      have hs := sk_rng T b.1 b.2
      have hss := sk_sk T (e := e) b.1
      have hlen : C.length + W.length + W0.length ≤ 1600 := by have := q3.2.2.2.2; omega
      have hbr := bte_rng hB (sk T e p)
      have i1 := q3.mono hs.1
      have d1 := q1
      rw [← dD_sk true T e (n + 1) false g o W C b.1] at d1
      have hel := q2.2.2.2.2.2.2.2.2
      have htr := tpm_rng W (fun v hv => hel v (List.mem_append_left _ hv))
      have e0 : N 78 2 = p := q2.1.2.2.1
      unfold f_M_qGoesOn_B0
      rw [q2.1.2.2.2.2.1]
      refine wq_e (fun z => z rfl) (wq_I (s_look hB q2.1) (fun r M1 ⟨c1, c2, c3⟩ => ?_))
      have c1 : r = bte T e (sk T e p) := c1
      have h1 := q2.sm c2 (c3.cov rfl)
      have f1 : Fr xqA M M1 := q5.tr (c3.cov rfl)
      clear c2 c3 q1 q2 q5
      obtain ⟨P, hP⟩ : ∃ P, P = sk T e p := ⟨_, rfl⟩
      rw [← hP] at h1 d1 i1 hs hss hbr c1
      have hrest : ¬ (bte T e P = 41 ∧ (tpm W = 20 ∨ tpm W = 23 ∨ tpm W = 24)) → wq (f_M_qGoesOn_J122 M1) (fun q => ((q.1 = 1 ∧ Onq U T e o0 W0 R (pm + 1) true q.2) ∨ (q.1 = 0 ∧ (Bdq U T e R q.2 ∨ Enq U T e o0 W0 R q.2))) ∧ Fr xqA M q.2) := by
        intro hnc
        refine wq_m (xq_rest hB h1 i1 d1 (by rw [hss]; exact hnc) hw0) (fun q ⟨z1, z2⟩ => ⟨?_, f1.tr z2⟩)
        rcases z1 with ⟨y1, y2⟩ | y
        · exact Or.inl ⟨y1, y2.mono (by omega)⟩
        · exact Or.inr y
      rw [c1, i32_id (x := bte T e P) (by omega) (by omega), i32_id (x := 41) (by decide) (by decide)]
      refine wq_if (fun c => hrest (fun z => c z.1)) (fun c => ?_)
      have c : bte T e P = 41 := Decidable.not_not.mp c
      have hl := bte_lt (T := T) (e := e) (k := P) (by omega) (by omega)
      have hclose : (tpm W = 20 ∨ tpm W = 23 ∨ tpm W = 24) → wq (f_M_qGoesOn_J43 kH (fun M15 => f_M_qGoesOn_J122 M15) M1) (fun q => ((q.1 = 1 ∧ Onq U T e o0 W0 R (pm + 1) true q.2) ∨ (q.1 = 0 ∧ (Bdq U T e R q.2 ∨ Enq U T e o0 W0 R q.2))) ∧ Fr xqA M q.2) := by
        intro ht
        have d2 := d1
        unfold dD at d2
        rw [hss, if_pos ⟨c, ht⟩] at d2
        obtain ⟨⟨k, W', j1, j2, j3⟩, i2⟩ := i1.close (cl := if tpm W = 20 then [] else if tpm W = 23 then [5] else [6]) (p1 := P + 1) (by omega) (by split <;> (try split) <;> decide) (by omega) (by omega)
        rw [j1] at d2 i2
        rw [j2] at d2 i2 ht
        refine xq_close h1 hl j1 ht hlen i1.2.2.2.1 (fun M' y1 y2 => hk _ ⟨⟨n, _, _, _, _, _, d2, y1, i2, by omega⟩, f1.tr y2⟩ ?_)
        rw [y1.1.2.2.1, e0]
        omega
      refine wq_I (xq_last h1 (by omega)) (fun r5 M5 ⟨k1, k2⟩ => ?_)
      have k1 : r5 = tpm W := k1
      have k2 : M5 = M1 := k2
      subst k1 k2
      rw [i32_id (x := tpm W) (by omega) (by omega), i32_id (x := 20) (by decide) (by decide)]
      refine wq_if (fun c2 => hclose (Or.inl c2)) (fun c2 => wq_I (xq_last h1 (by omega)) (fun r6 M6 ⟨k3, k4⟩ => ?_))
      have k3 : r6 = tpm W := k3
      have k4 : M6 = M5 := k4
      subst k3 k4
      rw [i32_id (x := tpm W) (by omega) (by omega), i32_id (x := 23) (by decide) (by decide)]
      refine wq_if (fun c3 => hclose (Or.inr (Or.inl c3))) (fun c3 => wq_I (xq_last h1 (by omega)) (fun r7 M7 ⟨k5, k6⟩ => ?_))
      have k5 : r7 = tpm W := k5
      have k6 : M7 = M6 := k6
      subst k5 k6
      rw [i32_id (x := tpm W) (by omega) (by omega), i32_id (x := 24) (by decide) (by decide)]
      exact wq_if (fun c4 => hrest (fun z => z.2.elim c2 (fun z => z.elim c3 c4))) (fun c4 => hclose (Or.inr (Or.inr (Decidable.not_not.mp c4))))
  · obtain ⟨n, p, g, o, W, C, h1, h2, h3, h4⟩ := h
    have b := h2.1.2.2.2.2.2.1
    show (2000 - M 78 2).toNat < 1000000000
    rw [h2.1.2.2.1]
    omega
theorem xq_codeB {k pl v : Int} (h : Fm T e k pl M) (hU : Ukq U M) (h0 : 0 ≤ M 78 89) (h1 : M 78 89 < 1600) : wq (f_M_qCode v M) (fun M' => Fm T e k pl M' ∧ Ukq U M' ∧ Fr xqL M M') := by
  unfold f_M_qCode
  try simp only [Int.zero_add]
  rw [i32_id (x := M 78 89) (by omega) (by omega)]
  refine wq_g ⟨by omega, by omega⟩ (wq_d (wq_d (wq_some ?_)))
  rw [up_row (show ¬ (78 : Nat) = 142 by decide)]
  have hF : Fr [(78, 89), (142, 99999)] M (up (up M 142 (M 78 89).toNat v) 78 89 (M 78 89 + 1)) := (Fr.rf.up (by simp)).up (by simp)
  refine ⟨h.fr hF rfl, ⟨fun j hj => ?_, by rw [up_eq]; omega, by rw [up_eq]; omega⟩, hF.cov rfl⟩
  rw [up_row (show ¬ (142 : Nat) = 78 by decide), up_col (show ¬ j = (M 78 89).toNat by omega)]
  exact hU.1 j hj
/-- the cells behind an opening sign -/
theorem xq_opn {k : Int} (h : Xq U T e p g o W W0 C M) (hb : W.length + W0.length ≤ 1600) (hk : 0 ≤ k ∧ k ≤ 100) : wq (bd (up M 78 92 ((M 78 92) + 1)) (fun M1 => gd (0 ≤ i32 (M1 78 91) ∧ i32 (M1 78 91) < ((1700 : Nat) : Int)) (bd (up M1 143 (i32 (M1 78 91)).toNat k) (fun M2 => bd (up M2 78 91 ((M2 78 91) + 1)) (fun M3 => some M3))))) (fun M' => Xq U T e p g (o + 1) (k :: W) W0 C M' ∧ Fr xqL M M') := by
  have hF : Fr [(78, 92)] M (up M 78 92 (o + 1)) := Fr.rf.up (by simp)
  obtain ⟨a1, a2, a3, a4, a5, a6, a7, a8, a9⟩ := h
  have h1 : Xq U T e p g (o + 1) W W0 C (up M 78 92 (o + 1)) := ⟨a1.fr hF rfl, by rw [hF.at 78 91 rfl]; exact a2, by rw [hF.row 143 rfl]; exact a3, up_eq _ _ _ _, by rw [hF.at 78 93 rfl]; exact a5, by rw [hF.at 78 89 rfl]; exact a6, by rw [hF.row 142 rfl]; exact a7, by rw [hF.row 142 rfl]; exact a8, a9⟩
  rw [a4]
  refine wq_d ?_
  obtain ⟨⟨r, M'⟩, z1, z2, z3, z4⟩ := xq_push (v := k) h1 hb hk
  generalize up M 78 92 (o + 1) = N at *
  have b2 := h1.2.1
  have hl : (W ++ W0).length = W.length + W0.length := List.length_append
  have hc : 0 ≤ i32 (N 78 91) ∧ i32 (N 78 91) < ((1700 : Nat) : Int) := by
    rw [b2, i32_id (x := ((W ++ W0).length : Int)) (by omega) (by omega)]
    omega
  unfold gd at z1
  rw [if_pos hc] at z1
  refine wq_g hc ⟨M', ?_, z3, (hF.cov rfl : Fr xqL _ _).tr z4⟩
  have z1 : (some ((1 : Int), up (up N 143 (i32 (N 78 91)).toNat k) 78 91 (up N 143 (i32 (N 78 91)).toNat k 78 91 + 1)) : Option (Int × Mm)) = some (r, M') := z1
  show (some (up (up N 143 (i32 (N 78 91)).toNat k) 78 91 (up N 143 (i32 (N 78 91)).toNat k 78 91 + 1)) : Option Mm) = some M'
  injection z1 with z1
  injection z1 with z5 z6
  rw [z6]
end Xqk
