/-- what holds of the stack of a test at every step -/
def Ivt (m : Bool) (p o : Int) (W C : List Int) : Prop := Iv true 0 1 m p o (W.map fi) C
section IVT
variable {p p1 o : Int} {m : Bool} {W C : List Int}
theorem Ivt.mono (h : Ivt m p o W C) (hp : p ≤ p1) : Ivt m p1 o W C := Iv.mono h hp
theorem Ivt.len (h : Ivt m p o W C) : C.length + W.length + 1 ≤ p.toNat := by
  have := h.2.2.2.2
  rw [List.length_map] at this
  exact this
theorem Ivt.mem (h : Ivt m p o W C) : ∀ v ∈ W, 10 ≤ v ∧ v ≤ 25 := by
  have key : ∀ (W : List Int) (l : Nat) (o : Int), wsA 0 l (W.map fi) o → ∀ v ∈ W, 10 ≤ v ∧ v ≤ 25 := by
    intro W
    induction W with
    | nil => intro l o _ v hv; cases hv
    | cons x W ih =>
      intro l o hw v hv
      have hx := fi_cs x
      rcases List.mem_cons.mp hv with z | z
      · rcases hw with ⟨h1, -⟩ | ⟨h1, -⟩ | ⟨h1, -⟩ | ⟨h1, -⟩ <;> omega
      · rcases hw with ⟨-, -, h3⟩ | ⟨-, -, h3⟩ | ⟨-, h3⟩ | ⟨-, -, h3⟩
        · exact ih _ _ h3 v z
        · exact ih _ _ h3 v z
        · exact ih _ _ h3 v z
        · exact ih _ _ h3 v z
  exact key W 0 o h.2.1
theorem Ivt.lo (h : Ivt m p o W C) : 0 ≤ o := Iv.lo h
theorem Ivt.wt (h : Ivt m p o W C) : wtW (W.map fi) ≤ 14 := by
  have := wsA_wt2 _ _ _ h.2.1 fi_mem
  have := h.1
  omega
theorem Ivt.push {k : Int} (h : Ivt true p o W C) (hk : k = 25 ∨ k = 12) (ho : o ≠ 6) (h0 : 0 ≤ p) (hp : p < p1) : Ivt true p1 (o + 1) (k :: W) C := by
  have := Iv.push (k := fi k) h (by rcases hk with z | z <;> subst z <;> simp [fi]) ho h0 hp
  exact this
theorem Ivt.nots {C' : List Int} (h : Ivt true p o W C) (h0 : 0 ≤ p) (hp : p < p1) (hl : C'.length + (W.length + 1) ≤ p1.toNat) : (∀ v ∈ W.takeWhile ntQ, v = 12) ∧ noOf ((W.dropWhile ntQ).map fi) ∧ wtW (W.map fi) = wtW ((W.dropWhile ntQ).map fi) ∧ Ivt false p1 (o - (W.takeWhile ntQ).length) (W.dropWhile ntQ) (C' ++ W.takeWhile ntQ) := by
  obtain ⟨h1, h2, h3, h4, h5⟩ := h
  obtain ⟨w1, w2, w3, w4, w5⟩ := ws_of (W.map fi) o h2
  obtain ⟨t1, t2⟩ := tw_map ofQ W
  have t1 : (W.map fi).takeWhile ofQ = (W.takeWhile ntQ).map fi := t1
  have t2 : (W.map fi).dropWhile ofQ = (W.dropWhile ntQ).map fi := t2
  rw [t1, List.length_map] at w2 w5
  rw [t2] at w2 w3 w4 w5
  rw [List.length_map, List.length_map] at w5
  refine ⟨fun v hv => ?_, w3, w4, by omega, w2, fun _ => w3, (fun y => by cases y), by rw [List.length_append, List.length_map]; omega⟩
  have := w1 (fi v) (by rw [t1]; exact List.mem_map_of_mem hv)
  have := fi_cs v
  omega
theorem Ivt.and (h : Ivt false p o W C) (h0 : 0 ≤ p) (hp : p < p1) : (∀ v ∈ W.takeWhile andQ, v = 10) ∧ wtW (W.map fi) = (W.takeWhile andQ).length + wtW ((W.dropWhile andQ).map fi) ∧ Ivt true p1 o (10 :: W.dropWhile andQ) (C ++ W.takeWhile andQ) := by
  obtain ⟨w1, w2, w3, w4⟩ := ws_mul (W.map fi) o h.2.1 (h.2.2.1 rfl)
  obtain ⟨t1, t2⟩ := tw_map mulQ W
  have t1 : (W.map fi).takeWhile mulQ = (W.takeWhile andQ).map fi := t1
  have t2 : (W.map fi).dropWhile mulQ = (W.dropWhile andQ).map fi := t2
  have hi := Iv.mul (v := 3) h (Or.inl rfl) h0 hp
  rw [t1, t2] at w3
  rw [t2] at hi
  rw [List.length_map] at w3
  refine ⟨fun v hv => ?_, w3, hi.1, hi.2.1, hi.2.2.1, hi.2.2.2.1, ?_⟩
  · exact andQ_iff.mp (List.all_eq_true.mp (List.all_takeWhile) v hv)
  · have := hi.2.2.2.2
    rw [t1] at this
    simp only [List.length_append, List.length_map, List.length_cons] at this ⊢
    exact this
theorem Ivt.or (h : Ivt false p o W C) (h0 : 0 ≤ p) (hp : p < p1) : (∀ v ∈ W.takeWhile aoQ, v = 10 ∨ v = 11) ∧ wtW (W.map fi) = (W.takeWhile aoQ).length + wtW ((W.dropWhile aoQ).map fi) ∧ Ivt true p1 o (11 :: W.dropWhile aoQ) (C ++ W.takeWhile aoQ) := by
  obtain ⟨w1, w2, w3, w4⟩ := ws_op (W.map fi) 0 o h.2.1 (h.2.2.1 rfl)
  obtain ⟨t1, t2⟩ := tw_map opQ W
  have t1 : (W.map fi).takeWhile opQ = (W.takeWhile aoQ).map fi := t1
  have t2 : (W.map fi).dropWhile opQ = (W.dropWhile aoQ).map fi := t2
  have hi := Iv.add (v := 1) h (Or.inl rfl) h0 hp
  rw [t1, t2] at w3
  rw [t2] at hi
  rw [List.length_map] at w3
  refine ⟨fun v hv => ?_, w3, hi.1, hi.2.1, hi.2.2.1, hi.2.2.2.1, ?_⟩
  · exact aoQ_iff.mp (List.all_eq_true.mp (List.all_takeWhile) v hv)
  · have := hi.2.2.2.2
    rw [t1] at this
    simp only [List.length_append, List.length_map, List.length_cons] at this ⊢
    exact this
theorem Ivt.clo (h : Ivt false p o W C) (hm : 25 ∈ W) (h0 : 0 ≤ p) (hp : p < p1) : ∃ W', sqr W = 25 :: W' ∧ W = nsq W ++ 25 :: W' ∧ (∀ v ∈ nsq W, v = 10 ∨ v = 11) ∧ (∀ v ∈ W'.takeWhile ntQ, v = 12) ∧ noOf ((W'.dropWhile ntQ).map fi) ∧ wtW (W.map fi) = (nsq W).length + wtW ((W'.dropWhile ntQ).map fi) ∧ Ivt false p1 (o - 1 - (W'.takeWhile ntQ).length) (W'.dropWhile ntQ) (C ++ (nsq W ++ W'.takeWhile ntQ)) := by
  obtain ⟨W', e1, e2⟩ := sq_mem hm
  obtain ⟨k1, k2⟩ := ws_mrk (W.map fi) 0 o h.2.1 (h.2.2.1 rfl)
  obtain ⟨t1, t2⟩ := tw_map (fun v => !mrkQ v) W
  have t1 : nmk (W.map fi) = (nsq W).map fi := t1
  have t2 : rmk (W.map fi) = (sqr W).map fi := t2
  have hlen := len_tw (fun v => !sqQ v) W
  have hlen : (nsq W).length + (sqr W).length = W.length := hlen
  rw [e1, List.length_cons] at hlen
  rw [e1, List.map_cons] at t2
  rcases k2 with ⟨j1, -⟩ | ⟨k, W2, j1, j2, j3, j4, j5, j6⟩
  · rw [t2] at j1; cases j1
  · rw [t2] at j1
    injection j1 with j7 j8
    rw [← j8] at j5 j6
    rw [← j7, t1, List.length_map] at j6
    obtain ⟨w1, w2, w3, w4, w5⟩ := ws_of (W'.map fi) (o - 1) j5
    obtain ⟨q1, q2⟩ := tw_map ofQ W'
    have q1 : (W'.map fi).takeWhile ofQ = (W'.takeWhile ntQ).map fi := q1
    have q2 : (W'.map fi).dropWhile ofQ = (W'.dropWhile ntQ).map fi := q2
    rw [q1, List.length_map] at w2 w5
    rw [q2] at w2 w3 w4 w5
    rw [List.length_map, List.length_map] at w5
    have hlp := h.len
    have e20 : wtE (fi 25) = 0 := by decide
    refine ⟨W', e1, e2, fun v hv => ?_, fun v hv => ?_, w3, by rw [j6, e20, w4]; omega, by have := h.1; omega, w2, fun _ => w3, (fun y => by cases y), by rw [List.length_append, List.length_append, List.length_map]; omega⟩
    · have := k1 (fi v) (by rw [t1]; exact List.mem_map_of_mem hv)
      have := fi_cs v
      omega
    · have := w1 (fi v) (by rw [q1]; exact List.mem_map_of_mem hv)
      have := fi_cs v
      omega
theorem Ivt.fin (h : Ivt false p o W C) (hm : ¬ (25 : Int) ∈ W) : o = 0 ∧ (∀ v ∈ W, v = 10 ∨ v = 11) ∧ wtW (W.map fi) = W.length := by
  obtain ⟨k1, k2⟩ := ws_mrk (W.map fi) 0 o h.2.1 (h.2.2.1 rfl)
  obtain ⟨t1, t2⟩ := tw_map (fun v => !mrkQ v) W
  have t2 : rmk (W.map fi) = (sqr W).map fi := t2
  rw [sq_not hm] at t2
  rcases k2 with ⟨j1, j2, j3, j4, j5⟩ | ⟨k, W2, j1, -⟩
  · refine ⟨j5, fun v hv => ?_, by rw [j4, List.length_map]⟩
    have := k1 (fi v) (by rw [j3]; exact List.mem_map_of_mem hv)
    have := fi_cs v
    omega
  · rw [t2] at j1; cases j1
end IVT
theorem fcR_sk (T : Nat → Int) (e : Int) {p : Int} (g o : Int) (C : List Int) (h0 : 0 ≤ p) : fcR T e (sk T e p) g o C = fcR T e p g o C := by
  unfold fcR
  rw [sk_sk T h0, hwq_sk T e _ g h0, dD_sk true T e 1601 true g o [] C h0]
theorem dE_sk (T : Nat → Int) (e : Int) (n : Nat) (m : Bool) {p : Int} (g o : Int) (W C : List Int) (h0 : 0 ≤ p) : dE T e n m (sk T e p) g o W C = dE T e n m p g o W C := by
  cases n with
  | zero => rfl
  | succ n =>
    cases m with
    | true =>
      unfold dE
      rw [sk_sk T h0, fcR_sk T e g o C h0, hwq_sk T e _ g h0]
    | false =>
      unfold dE
      rw [sk_sk T h0, hwq_sk T e _ g h0, hwq_sk T e _ g h0]
theorem wft_nts : ∀ (A : List Int) (r : List Bool), (∀ v ∈ A, v = 12) → wft A (true :: r) (true :: r)
  | [], _, _ => rfl
  | v :: A, r, h => Or.inr (Or.inr (Or.inr (Or.inr (Or.inr (Or.inr ⟨h v List.mem_cons_self, r, rfl, wft_nts A r (fun x hx => h x (List.mem_cons_of_mem _ hx))⟩)))))
theorem wft_aos : ∀ (A : List Int) (k : Nat), (∀ v ∈ A, v = 10 ∨ v = 11) → 1 ≤ k → wft A (List.replicate (k + A.length) true) (List.replicate k true)
  | [], _, _, _ => rfl
  | v :: A, k, h, hk => by
    obtain ⟨j, hj⟩ : ∃ j, k = j + 1 := ⟨k - 1, by omega⟩
    have ih := wft_aos A k (fun x hx => h x (List.mem_cons_of_mem _ hx)) hk
    refine Or.inr (Or.inr (Or.inr (Or.inr (Or.inr (Or.inl ⟨h v List.mem_cons_self, List.replicate (j + A.length) true, ?_, ?_⟩)))))
    · rw [List.length_cons, hj, show j + 1 + (A.length + 1) = (j + A.length) + 1 + 1 by omega]
      rfl
    · rw [hj, show j + 1 + A.length = (j + A.length) + 1 by omega] at ih
      rw [hj]
      exact ih
/-- what a test comes to -/
def eOut (T : Nat → Int) (e p : Int) (C : List Int) (h : Nat) (R : Out) : Prop := (∃ k pl, R = .inl (k, pl) ∧ (1 ≤ k ∧ k ≤ 5) ∧ -1 ≤ pl ∧ pl ≤ 1600) ∨ (∃ p' g' D, R = .inr (p', g', C ++ D) ∧ (p ≤ p' ∧ p' ≤ e) ∧ (-1 ≤ g' ∧ g' ≤ 1600) ∧ (C ++ D).length + 1 ≤ p'.toNat ∧ sk T e p' = p' ∧ wfl true D h 1 ∧ wft D (List.replicate h true) [true])
theorem dE_ok {T : Nat → Int} {e : Int} (hB : Bt T e) : ∀ (n : Nat) (m : Bool) (p g o : Int) (W C : List Int), 0 ≤ p → p ≤ e → (-1 ≤ g ∧ g ≤ 1600) → Ivt m p o W C → (e - p).toNat < n → ∃ R, dE T e n m p g o W C = some R ∧ eOut T e p C (wtW (W.map fi) + hgt m) R
  | 0, _, _, _, _, _, _, _, _, _, _, h => absurd h (Nat.not_lt_zero _)
  | n + 1, m, p, g, o, W, C, h0, h1, hg, hI, hn => by
    have hh := hB.1
    have hs := sk_rng T h0 h1
    have hss := sk_sk T (e := e) h0
    have hI1 := hI.mono hs.1
    have hlen := hI1.len
    have hwt := hI.wt
    have ho : 0 ≤ o ∧ o ≤ 6 := ⟨hI.lo, hI.1⟩
    have hgo : ∀ (m1 : Bool) (p1 g1 o1 : Int) (W1 D1 : List Int), p < p1 → p1 ≤ e → (-1 ≤ g1 ∧ g1 ≤ 1600) → Ivt m1 p1 o1 W1 (C ++ D1) → (wfl true D1 (wtW (W.map fi) + hgt m) (wtW (W1.map fi) + hgt m1) ∧ wft D1 (List.replicate (wtW (W.map fi) + hgt m) true) (List.replicate (wtW (W1.map fi) + hgt m1) true)) → ∃ R, dE T e n m1 p1 g1 o1 W1 (C ++ D1) = some R ∧ eOut T e p C (wtW (W.map fi) + hgt m) R := by
      intro m1 p1 g1 o1 W1 D1 z1 z2 z3 z4 z5
      obtain ⟨R, r1, r2⟩ := dE_ok hB n m1 p1 g1 o1 W1 (C ++ D1) (by omega) z2 z3 z4 (by omega)
      refine ⟨R, r1, ?_⟩
      rcases r2 with y | ⟨p', g', D, y1, y2, y3, y4, y5, y6, y7⟩
      · exact Or.inl y
      · exact Or.inr ⟨p', g', D1 ++ D, by rw [← List.append_assoc]; exact y1, ⟨by omega, y2.2⟩, y3, by rw [← List.append_assoc]; exact y4, y5, wfl_app _ _ _ _ _ z5.1 y6, wft_app _ _ _ _ _ z5.2 y7⟩
    have hbad : ∀ (k pl : Int), (1 ≤ k ∧ k ≤ 5) → -1 ≤ pl ∧ pl ≤ 1600 → ∃ R, (some (Sum.inl (k, pl)) : Option Out) = some R ∧ eOut T e p C (wtW (W.map fi) + hgt m) R := fun k pl z1 z2 => ⟨_, rfl, Or.inl ⟨k, pl, rfl, z1, z2⟩⟩
    cases m with
    | true =>
      have hpush : ∀ (k p1 g1 : Int), (k = 25 ∨ k = 12) → p < p1 → p1 ≤ e → (-1 ≤ g1 ∧ g1 ≤ 1600) → o ≠ 6 → ∃ R, dE T e n true p1 g1 (o + 1) (k :: W) C = some R ∧ eOut T e p C (wtW (W.map fi) + hgt true) R := by
        intro k p1 g1 zk z1 z2 z3 z4
        have e0 : wtE (fi k) = 0 := by
          rcases zk with z | z <;> subst z <;> decide
        have := hgo true p1 g1 (o + 1) (k :: W) [] z1 z2 z3 (by rw [List.append_nil]; exact hI.push zk z4 h0 z1) (by
          have e1 : wtW (W.map fi) + hgt true = wtW ((k :: W).map fi) + hgt true := by
            show wtW (W.map fi) + hgt true = wtE (fi k) + wtW (W.map fi) + hgt true
            omega
          rw [← e1]
          exact ⟨rfl, rfl⟩)
        rw [List.append_nil] at this
        exact this
      unfold dE
      by_cases c1 : bte T e (sk T e p) = 91
      · rw [if_pos c1]
        have hl := bte_lt (T := T) (e := e) (k := sk T e p) (by omega) (by omega)
        by_cases d : o = 6
        · rw [if_pos d]; exact hbad _ _ (by decide) (by omega)
        · rw [if_neg d]; exact hpush 25 _ _ (Or.inl rfl) (by omega) (by omega) hg d
      rw [if_neg c1]
      by_cases c2 : hwq T e wNot p g = true
      · rw [if_pos c2]
        have h3 : sk T e p + 3 ≤ e := hw_le (L := wNot) h0 h1 (by decide) lw_Not c2
        by_cases d : o = 6
        · rw [if_pos d]; exact hbad _ _ (by decide) (by omega)
        · rw [if_neg d]; exact hpush 12 _ _ (Or.inr rfl) (by omega) (by omega) (by omega) d
      rw [if_neg c2]
      obtain ⟨R1, r1, r2⟩ := fc_ok (g := g) (C := C) hB ho (W.length + 1) (wtW (W.map fi)) (by omega) h0 h1 hg (by have := hI.len; omega)
      rw [r1]
      rcases r2 with ⟨k, pl, z1, z2⟩ | ⟨p1, g1, D1, z1, z2, z3, z4, z5, z6⟩
      · rw [z1]
        exact hbad k pl z2.1 z2.2
      · rw [z1]
        obtain ⟨i1, i2, i3, i4⟩ := hI.nots (p1 := p1) (C' := C ++ D1) h0 z2.1 z4
        have := hgo false p1 g1 _ _ (D1 ++ W.takeWhile ntQ) z2.1 z2.2 z3 (by rw [← List.append_assoc]; exact i4) (by
          rw [← i3]
          exact ⟨wfl_app _ _ _ _ _ z5 (wfl_nts _ _ i1 (by omega) (by omega)), wft_app _ _ _ _ _ (z6 _) (wft_nts _ _ i1)⟩)
        rw [← List.append_assoc] at this
        exact this
    | false =>
      unfold dE
      by_cases c1 : bte T e (sk T e p) = 93 ∧ 25 ∈ W
      · rw [if_pos c1]
        have hl := bte_lt (T := T) (e := e) (k := sk T e p) (by omega) (by omega)
        obtain ⟨W', e1, e2, e3, e4, e5, e6, e7⟩ := hI.clo (p1 := sk T e p + 1) c1.2 h0 (by omega)
        rw [e1]
        refine hgo false _ _ _ _ _ (by omega) (by omega) hg e7 ?_
        rw [e6]
        refine ⟨?_, wft_app _ _ _ (List.replicate (wtW ((W'.dropWhile ntQ).map fi) + 1) true) _ (by
          rw [show (nsq W).length + wtW ((W'.dropWhile ntQ).map fi) + hgt false = (wtW ((W'.dropWhile ntQ).map fi) + 1) + (nsq W).length by unfold hgt; rw [if_neg (by decide)]; omega]
          exact wft_aos _ _ e3 (by omega)) (wft_nts _ _ e4)⟩
        refine wfl_app _ _ _ (wtW ((W'.dropWhile ntQ).map fi) + 1) _ ?_ ?_
        · rw [show (nsq W).length + wtW ((W'.dropWhile ntQ).map fi) + hgt false = (wtW ((W'.dropWhile ntQ).map fi) + 1) + (nsq W).length by unfold hgt; rw [if_neg (by decide)]; omega]
          exact wfl_aos _ _ e3 (by omega) (by omega)
        · exact wfl_nts _ _ e4 (by omega) (by omega)
      rw [if_neg c1]
      by_cases c2 : hwq T e wAnd p g = true
      · rw [if_pos c2]
        have h3 : sk T e p + 3 ≤ e := hw_le (L := wAnd) h0 h1 (by decide) lw_And c2
        obtain ⟨e1, e2, e3⟩ := hI.and (p1 := sk T e p + 3) h0 (by omega)
        refine hgo true _ _ _ _ _ (by omega) h3 (by omega) e3 ?_
        have e10 : wtE (fi 10) = 1 := by decide
        show wfl true _ (wtW (W.map fi) + 1) (wtE (fi 10) + wtW ((W.dropWhile andQ).map fi) + 0) ∧ wft _ (List.replicate (wtW (W.map fi) + 1) true) (List.replicate (wtE (fi 10) + wtW ((W.dropWhile andQ).map fi) + 0) true)
        rw [e10, e2, show (W.takeWhile andQ).length + wtW ((W.dropWhile andQ).map fi) + 1 = (1 + wtW ((W.dropWhile andQ).map fi) + 0) + (W.takeWhile andQ).length by omega]
        exact ⟨wfl_aos _ _ (fun v hv => Or.inl (e1 v hv)) (by omega) (by omega), wft_aos _ _ (fun v hv => Or.inl (e1 v hv)) (by omega)⟩
      rw [if_neg c2]
      by_cases c3 : hwq T e wOr p g = true
      · rw [if_pos c3]
        have h3 : sk T e p + 2 ≤ e := hw_le (L := wOr) h0 h1 (by decide) lw_Or c3
        obtain ⟨e1, e2, e3⟩ := hI.or (p1 := sk T e p + 2) h0 (by omega)
        refine hgo true _ _ _ _ _ (by omega) h3 (by omega) e3 ?_
        have e11 : wtE (fi 11) = 1 := by decide
        show wfl true _ (wtW (W.map fi) + 1) (wtE (fi 11) + wtW ((W.dropWhile aoQ).map fi) + 0) ∧ wft _ (List.replicate (wtW (W.map fi) + 1) true) (List.replicate (wtE (fi 11) + wtW ((W.dropWhile aoQ).map fi) + 0) true)
        rw [e11, e2, show (W.takeWhile aoQ).length + wtW ((W.dropWhile aoQ).map fi) + 1 = (1 + wtW ((W.dropWhile aoQ).map fi) + 0) + (W.takeWhile aoQ).length by omega]
        exact ⟨wfl_aos _ _ e1 (by omega) (by omega), wft_aos _ _ e1 (by omega)⟩
      rw [if_neg c3]
      by_cases c4 : 25 ∈ W
      · rw [if_pos c4]; exact hbad _ _ (by decide) (by omega)
      rw [if_neg c4]
      obtain ⟨e1, e2, e3⟩ := hI.fin c4
      refine ⟨_, rfl, Or.inr ⟨sk T e p, g, W, rfl, hs, hg, by rw [List.length_append]; omega, hss, ?_⟩⟩
      rw [e3, show W.length + hgt false = 1 + W.length by unfold hgt; rw [if_neg (by decide)]; omega]
      exact ⟨wfl_aos _ _ e2 (by decide) (by omega), wft_aos _ 1 e2 (by decide)⟩
