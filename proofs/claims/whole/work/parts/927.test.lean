def wNot : List Int := [110, 111, 116]
def wAnd : List Int := [97, 110, 100]
def wOr : List Int := [111, 114]
def wAll : List Int := [97, 108, 108]
theorem lw_Not : lwd wNot := by unfold lwd; decide
theorem lw_And : lwd wAnd := by unfold lwd; decide
theorem lw_Or : lwd wOr := by unfold lwd; decide
theorem lw_All : lwd wAll := by unfold lwd; decide
theorem rw_130 : rwd 130 wNot := rw_of (l := [14, 15, 20]) (by decide +kernel) (by decide)
theorem rw_131 : rwd 131 wAnd := rw_of (l := [1, 14, 4]) (by decide +kernel) (by decide)
theorem rw_132 : rwd 132 wOr := rw_of (l := [15, 18]) (by decide +kernel) (by decide)
theorem rw_133 : rwd 133 wAll := rw_of (l := [1, 12, 12]) (by decide +kernel) (by decide)
theorem cw_27 : cwd 27 wNot := cw_of (by decide +kernel)
theorem cw_28 : cwd 28 wAll := cw_of (by decide +kernel)
theorem cw_29 : cwd 29 wAnd := cw_of (by decide +kernel)
theorem cw_30 : cwd 30 wOr := cw_of (by decide +kernel)
/-- a test's stack, seen as a sum's -/
def fi (v : Int) : Int := if v = 10 then 3 else if v = 11 then 1 else if v = 12 then 60 else if v = 25 then 20 else 0
def andQ (v : Int) : Bool := mulQ (fi v)
def aoQ (v : Int) : Bool := opQ (fi v)
def ntQ (v : Int) : Bool := ofQ (fi v)
def sqQ (v : Int) : Bool := mrkQ (fi v)
def nsq (W : List Int) : List Int := W.takeWhile (fun v => !sqQ v)
def sqr (W : List Int) : List Int := W.dropWhile (fun v => !sqQ v)
theorem fi_cs (v : Int) : (v = 10 ∧ fi v = 3) ∨ (v = 11 ∧ fi v = 1) ∨ (v = 12 ∧ fi v = 60) ∨ (v = 25 ∧ fi v = 20) ∨ (v ≠ 10 ∧ v ≠ 11 ∧ v ≠ 12 ∧ v ≠ 25 ∧ fi v = 0) := by
  unfold fi
  by_cases h1 : v = 10
  · rw [if_pos h1]; exact Or.inl ⟨h1, rfl⟩
  rw [if_neg h1]
  by_cases h2 : v = 11
  · rw [if_pos h2]; exact Or.inr (Or.inl ⟨h2, rfl⟩)
  rw [if_neg h2]
  by_cases h3 : v = 12
  · rw [if_pos h3]; exact Or.inr (Or.inr (Or.inl ⟨h3, rfl⟩))
  rw [if_neg h3]
  by_cases h4 : v = 25
  · rw [if_pos h4]; exact Or.inr (Or.inr (Or.inr (Or.inl ⟨h4, rfl⟩)))
  rw [if_neg h4]
  exact Or.inr (Or.inr (Or.inr (Or.inr ⟨h1, h2, h3, h4, rfl⟩)))
theorem andQ_iff {v : Int} : andQ v = true ↔ v = 10 := by
  unfold andQ mulQ
  rw [decide_eq_true_eq]
  have := fi_cs v
  omega
theorem aoQ_iff {v : Int} : aoQ v = true ↔ (v = 10 ∨ v = 11) := by
  unfold aoQ opQ
  rw [decide_eq_true_eq]
  have := fi_cs v
  omega
theorem ntQ_iff {v : Int} : ntQ v = true ↔ v = 12 := by
  unfold ntQ ofQ
  rw [decide_eq_true_eq]
  have := fi_cs v
  omega
theorem sqQ_iff {v : Int} : sqQ v = true ↔ v = 25 := by
  unfold sqQ mrkQ
  rw [decide_eq_true_eq]
  have := fi_cs v
  omega
theorem tw_map (q : Int → Bool) (W : List Int) : (W.map fi).takeWhile q = (W.takeWhile (fun v => q (fi v))).map fi ∧ (W.map fi).dropWhile q = (W.dropWhile (fun v => q (fi v))).map fi := by
  induction W with
  | nil => exact ⟨rfl, rfl⟩
  | cons v W ih =>
    rw [List.map_cons]
    by_cases c : q (fi v) = true
    · rw [(tw_y c).1, (tw_y c).2, (tw_y (q := fun v => q (fi v)) c).1, (tw_y (q := fun v => q (fi v)) c).2, ih.1, ih.2]
      exact ⟨rfl, rfl⟩
    · have c : q (fi v) = false := by simpa using c
      rw [(tw_n c).1, (tw_n c).2, (tw_n (q := fun v => q (fi v)) c).1, (tw_n (q := fun v => q (fi v)) c).2]
      exact ⟨rfl, rfl⟩
theorem sq_mem : ∀ {W : List Int}, 25 ∈ W → ∃ W', sqr W = 25 :: W' ∧ W = nsq W ++ 25 :: W'
  | [], h => by cases h
  | v :: W, h => by
    by_cases c : v = 25
    · have hq : (!sqQ v) = false := by rw [sqQ_iff.mpr c]; rfl
      refine ⟨W, ?_, ?_⟩
      · unfold sqr
        rw [(tw_n (q := fun v => !sqQ v) hq).2, c]
      · unfold nsq
        rw [(tw_n (q := fun v => !sqQ v) hq).1, c]
        rfl
    · have hq : (!sqQ v) = true := by
        have : sqQ v = false := by
          cases d : sqQ v with
          | false => rfl
          | true => exact absurd (sqQ_iff.mp d) c
        rw [this]; rfl
      have h' : 25 ∈ W := by
        rcases List.mem_cons.mp h with z | z
        · exact absurd z.symm c
        · exact z
      obtain ⟨W', e1, e2⟩ := sq_mem h'
      refine ⟨W', ?_, ?_⟩
      · unfold sqr
        rw [(tw_y (q := fun v => !sqQ v) hq).2]
        exact e1
      · unfold nsq
        rw [(tw_y (q := fun v => !sqQ v) hq).1, List.cons_append]
        exact congrArg _ e2
theorem sq_not {W : List Int} (h : ¬ (25 : Int) ∈ W) : sqr W = [] := by
  have e := (tw_app (q := fun v => !sqQ v) (A := W) (W := []) (fun v hv => by
    have : sqQ v = false := by
      cases d : sqQ v with
      | false => rfl
      | true => exact absurd (sqQ_iff.mp d ▸ hv) h
    simp [this]) rfl).2
  rw [List.append_nil] at e
  exact e
def cmpc (c : Int) : Int := if c = 60 then 7 else if c = 62 then 8 else 9
/-- a fact -/
def fcR (T : Nat → Int) (e p g o : Int) (C : List Int) : Option Out :=
  if hwq T e wAll p g = true then some (.inr (sk T e p + 3, sk T e p + 3, C ++ [13]))
  else match dD true T e 1601 true p g o [] C with
    | none => none
    | some (.inl f) => some (.inl f)
    | some (.inr (p1, g1, C1)) =>
      if bte T e (sk T e p1) = 60 ∨ bte T e (sk T e p1) = 62 ∨ bte T e (sk T e p1) = 61 then
        match dD true T e 1601 true (sk T e p1 + 1) g1 o [] C1 with
        | none => none
        | some (.inl f) => some (.inl f)
        | some (.inr (p2, g2, C2)) => some (.inr (p2, g2, C2 ++ [cmpc (bte T e (sk T e p1))]))
      else some (.inl (1, sk T e p1))
/-- the reading of a test -/
def dE (T : Nat → Int) (e : Int) : Nat → Bool → Int → Int → Int → List Int → List Int → Option Out
  | 0, _, _, _, _, _, _ => none
  | n + 1, true, p, g, o, W, C =>
    if bte T e (sk T e p) = 91 then (if o = 6 then some (.inl (4, sk T e p)) else dE T e n true (sk T e p + 1) g (o + 1) (25 :: W) C)
    else if hwq T e wNot p g = true then (if o = 6 then some (.inl (4, sk T e p)) else dE T e n true (sk T e p + 3) (sk T e p + 3) (o + 1) (12 :: W) C)
    else match fcR T e p g o C with
      | none => none
      | some (.inl f) => some (.inl f)
      | some (.inr (p', g', C')) => dE T e n false p' g' (o - (W.takeWhile ntQ).length) (W.dropWhile ntQ) (C' ++ W.takeWhile ntQ)
  | n + 1, false, p, g, o, W, C =>
    if bte T e (sk T e p) = 93 ∧ 25 ∈ W then dE T e n false (sk T e p + 1) g (o - 1 - ((sqr W).tail.takeWhile ntQ).length) ((sqr W).tail.dropWhile ntQ) (C ++ (nsq W ++ (sqr W).tail.takeWhile ntQ))
    else if hwq T e wAnd p g = true then dE T e n true (sk T e p + 3) (sk T e p + 3) o (10 :: W.dropWhile andQ) (C ++ W.takeWhile andQ)
    else if hwq T e wOr p g = true then dE T e n true (sk T e p + 2) (sk T e p + 2) o (11 :: W.dropWhile aoQ) (C ++ W.takeWhile aoQ)
    else if 25 ∈ W then some (.inl (1, sk T e p))
    else some (.inr (sk T e p, g, C ++ W))
theorem wsA_wt2 {o0 : Int} : ∀ (W : List Int) (l : Nat) (o : Int), wsA o0 l W o → (∀ v ∈ W, v ≠ 23 ∧ v ≠ 24) → (wtW W : Int) ≤ 2 * (o - o0) + ((2 - l : Nat) : Int)
  | [], l, o, h, _ => by
    have h : o = o0 := h
    unfold wtW
    omega
  | v :: W, l, o, h, hn => by
    have hv := hn v List.mem_cons_self
    unfold wtW wtE
    rcases h with ⟨h1, h2, h3⟩ | ⟨h1, h2, h3⟩ | ⟨h1, h3⟩ | ⟨h1, -, h3⟩
    · have := wsA_wt2 W _ _ h3 (fun x hx => hn x (List.mem_cons_of_mem _ hx))
      rw [if_pos (by omega)]
      omega
    · have := wsA_wt2 W _ _ h3 (fun x hx => hn x (List.mem_cons_of_mem _ hx))
      rw [if_pos (by omega)]
      omega
    · have := wsA_wt2 W _ _ h3 (fun x hx => hn x (List.mem_cons_of_mem _ hx))
      rw [if_neg (by omega), if_neg (by omega)]
      omega
    · have := wsA_wt2 W _ _ h3 (fun x hx => hn x (List.mem_cons_of_mem _ hx))
      rw [if_neg (by omega), if_neg (by omega)]
      omega
theorem fi_mem {W : List Int} : ∀ v ∈ W.map fi, v ≠ 23 ∧ v ≠ 24 := by
  intro v hv
  obtain ⟨x, -, e⟩ := List.mem_map.mp hv
  have := fi_cs x
  omega
/-- ops of a test that are dropped -/
theorem wfl_aos : ∀ (A : List Int) (h : Nat), (∀ v ∈ A, v = 10 ∨ v = 11) → 1 ≤ h → h + A.length < 60 → wfl true A (h + A.length) h
  | [], h, _, _, _ => rfl
  | v :: A, h, hv, h1, h2 => by
    have hv1 := hv v List.mem_cons_self
    have hl : (v :: A).length = A.length + 1 := rfl
    have e : arC true v = 2 := by
      rcases hv1 with z | z <;> subst z <;> decide
    refine ⟨Or.inr (Or.inr (Or.inr ⟨rfl, by omega⟩)), by rw [e, hl]; omega, by omega, ?_⟩
    rw [e, hl, show h + (A.length + 1) + 1 - 2 = h + A.length by omega]
    exact wfl_aos A h (fun x hx => hv x (List.mem_cons_of_mem _ hx)) h1 (by omega)
theorem wfl_nts : ∀ (A : List Int) (h : Nat), (∀ v ∈ A, v = 12) → 1 ≤ h → h < 60 → wfl true A h h
  | [], h, _, _, _ => rfl
  | v :: A, h, hv, h1, h2 => by
    have hv1 := hv v List.mem_cons_self
    have e : arC true v = 1 := by subst hv1; decide
    refine ⟨Or.inr (Or.inr (Or.inr ⟨rfl, by omega⟩)), by rw [e]; exact h1, h2, ?_⟩
    rw [e, show h + 1 - 1 = h by omega]
    exact wfl_nts A h (fun x hx => hv x (List.mem_cons_of_mem _ hx)) h1 h2
/-- what a fact comes to -/
def fOut (T : Nat → Int) (e p : Int) (C : List Int) (b H : Nat) (t : Bool) (R : Out) : Prop := (∃ k pl, R = .inl (k, pl) ∧ (1 ≤ k ∧ k ≤ 5) ∧ -1 ≤ pl ∧ pl ≤ 1600) ∨ (∃ p' g' D, R = .inr (p', g', C ++ D) ∧ (p < p' ∧ p' ≤ e) ∧ (-1 ≤ g' ∧ g' ≤ 1600) ∧ (C ++ D).length + b ≤ p'.toNat ∧ wfl true D H (H + 1) ∧ ∀ ts, wft D ts (t :: ts))
theorem sum_ok {T : Nat → Int} {e p g o : Int} {C : List Int} (hB : Bt T e) (ho : 0 ≤ o ∧ o ≤ 6) (b H : Nat) (hH : H ≤ 20) (h0 : 0 ≤ p) (h1 : p ≤ e) (hg : -1 ≤ g ∧ g ≤ 1600) (hl : C.length + b ≤ p.toNat) : ∃ R, dD true T e 1601 true p g o [] C = some R ∧ fOut T e p C b H false R := by
  have hh := hB.1
  obtain ⟨R, r1, r2⟩ := dD_ok hB ho.1 H hH 1601 true p g o [] C h0 h1 hg ho.2 (a := true) rfl (fun y => by cases y) (fun y => by cases y) (by simp only [List.length_nil]; omega) (by omega)
  obtain ⟨R', r3, r4⟩ := dD_ok hB ho.1 0 (by decide) 1601 true p g o [] C h0 h1 hg ho.2 (a := true) rfl (fun y => by cases y) (fun y => by cases y) (by simp only [List.length_nil]; omega) (by omega)
  refine ⟨R, r1, ?_⟩
  rw [r1] at r3
  have r3 := Option.some.inj r3
  rcases r2 with z | ⟨p', g', D, z1, z2, z3, z4, z5, z6⟩
  · exact Or.inl z
  · rw [← r3, z1] at r4
    rw [z1] at r1
    have hI : Iv true o b true p o [] C := Onx_iv (e := e) ho.2 (by omega)
    obtain ⟨w1, w2, w3, w4, w5⟩ := dD_iv (b := b) hB _ _ _ _ _ _ _ _ _ _ r1 h0 h1 hg hI
    refine Or.inr ⟨p', g', D, z1, ⟨w2 rfl, w3.2⟩, w4, w1, z6, fun ts => ?_⟩
    obtain ⟨D', x1, x2⟩ := dD_sc (b := b) hB _ _ _ _ _ _ _ _ _ _ r1 h0 h1 hg hI
    have x1 : D = D' := List.append_cancel_left x1
    rw [← x1] at x2
    rcases r4 with ⟨k, pl, y1, -⟩ | ⟨p2, g2, D2, y1, y2, y3, y4, y5, y6⟩
    · cases y1
    · injection y1 with y1
      injection y1 with y7 y8
      injection y8 with y8 y9
      have y9 : D = D2 := List.append_cancel_left y9
      rw [← y9] at y6
      exact wfl_wft D 0 1 ts x2 y6
theorem fc_ok {T : Nat → Int} {e p g o : Int} {C : List Int} (hB : Bt T e) (ho : 0 ≤ o ∧ o ≤ 6) (b H : Nat) (hH : H + 1 ≤ 20) (h0 : 0 ≤ p) (h1 : p ≤ e) (hg : -1 ≤ g ∧ g ≤ 1600) (hl : C.length + b ≤ p.toNat) : ∃ R, fcR T e p g o C = some R ∧ fOut T e p C b H true R := by
  have hh := hB.1
  have hs := sk_rng T h0 h1
  unfold fcR
  by_cases c : hwq T e wAll p g = true
  · rw [if_pos c]
    have h3 : sk T e p + 3 ≤ e := hw_le (L := wAll) h0 h1 (by decide) lw_All c
    exact ⟨_, rfl, Or.inr ⟨_, _, [13], rfl, ⟨by omega, h3⟩, by omega, by rw [List.length_append, List.length_singleton]; omega, ⟨Or.inr (Or.inr (Or.inr ⟨rfl, by decide⟩)), Nat.zero_le _, by omega, rfl⟩, fun ts => Or.inr (Or.inr (Or.inr (Or.inl ⟨rfl, rfl⟩)))⟩⟩
  rw [if_neg c]
  obtain ⟨R1, r1, r2⟩ := sum_ok (g := g) hB ho b H (by omega) h0 h1 hg hl
  rw [r1]
  rcases r2 with ⟨k, pl, z1, z2⟩ | ⟨p1, g1, D1, z1, z2, z3, z4, z5, z6⟩
  · rw [z1]
    exact ⟨_, rfl, Or.inl ⟨k, pl, rfl, z2⟩⟩
  rw [z1]
  have hs1 := sk_rng T (e := e) (p := p1) (by omega) z2.2
  show ∃ R, (if bte T e (sk T e p1) = 60 ∨ bte T e (sk T e p1) = 62 ∨ bte T e (sk T e p1) = 61 then (match dD true T e 1601 true (sk T e p1 + 1) g1 o [] (C ++ D1) with | none => none | some (.inl f) => some (.inl f) | some (.inr (p2, g2, C2)) => some (.inr (p2, g2, C2 ++ [cmpc (bte T e (sk T e p1))]))) else some (.inl (1, sk T e p1))) = some R ∧ fOut T e p C b H true R
  by_cases d : bte T e (sk T e p1) = 60 ∨ bte T e (sk T e p1) = 62 ∨ bte T e (sk T e p1) = 61
  · rw [if_pos d]
    have hl1 := bte_lt (T := T) (e := e) (k := sk T e p1) (by omega) (by omega)
    obtain ⟨R2, r3, r4⟩ := sum_ok (g := g1) (C := C ++ D1) (p := sk T e p1 + 1) hB ho (b + 1) (H + 1) hH (by omega) (by omega) z3 (by omega)
    rw [r3]
    rcases r4 with ⟨k, pl, w1, w2⟩ | ⟨p2, g2, D2, w1, w2, w3, w4, w5, w6⟩
    · rw [w1]
      exact ⟨_, rfl, Or.inl ⟨k, pl, rfl, w2⟩⟩
    rw [w1]
    refine ⟨_, rfl, Or.inr ⟨p2, g2, D1 ++ (D2 ++ [cmpc (bte T e (sk T e p1))]), by rw [List.append_assoc, List.append_assoc], ⟨by omega, w2.2⟩, w3, ?_, ?_, fun ts => ?_⟩⟩
    · rw [← List.append_assoc, ← List.append_assoc, List.length_append, List.length_singleton]
      omega
    · have hcm : 7 ≤ cmpc (bte T e (sk T e p1)) ∧ cmpc (bte T e (sk T e p1)) ≤ 9 := by
        unfold cmpc
        split <;> (try split) <;> omega
      generalize cmpc (bte T e (sk T e p1)) = cc at *
      have ea : arC true cc = 2 := by
        unfold arC
        rw [if_neg (by omega), if_pos rfl, if_neg (by omega), if_neg (by omega)]
      refine wfl_app _ _ _ _ _ z5 (wfl_app _ _ _ _ _ w5 ⟨Or.inr (Or.inr (Or.inr ⟨rfl, by omega⟩)), by rw [ea]; omega, by omega, ?_⟩)
      rw [ea]
      show H + 1 + 1 + 1 - 2 = H + 1
      omega
    · have hcm : 7 ≤ cmpc (bte T e (sk T e p1)) ∧ cmpc (bte T e (sk T e p1)) ≤ 9 := by
        unfold cmpc
        split <;> (try split) <;> omega
      exact wft_app _ _ _ _ _ (z6 ts) (wft_app _ _ _ _ _ (w6 (false :: ts)) (Or.inr (Or.inr (Or.inr (Or.inr (Or.inl ⟨hcm, false, false, ts, rfl, rfl⟩))))))
  · rw [if_neg d]
    exact ⟨_, rfl, Or.inl ⟨1, _, rfl, by decide, by omega⟩⟩
