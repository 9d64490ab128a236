theorem mrk_of {k : Int} (h : 20 ≤ k ∧ k ≤ 24) : mrkQ k = true ∧ mulQ k = false ∧ opQ k = false ∧ ¬ 60 ≤ k := ⟨decide_eq_true h, decide_eq_false (by omega), decide_eq_false (by omega), by omega⟩
/-- behind a sum in signs: the closing sign, or a fault -/
theorem dD_sign {a : Bool} {T : Nat → Int} {e p g o : Int} {n : Nat} {W A C : List Int} {R : Out} {k : Int} (hk : 20 ≤ k ∧ k ≤ 24) (hd : dD a T e n false p g o (A ++ k :: W) C = some R) (hA : ∀ v ∈ A, opQ v = true) (hn : nxA (bte T e (sk T e p))) : (k = 20 ∨ k = 23 ∨ k = 24 → (bte T e (sk T e p) = 41 → ∃ n', dD a T e n' false (sk T e p + 1) g (o - 1 - (W.takeWhile ofQ).length) (W.dropWhile ofQ) (C ++ (A ++ ((if k = 20 then [] else if k = 23 then [5] else [6]) ++ W.takeWhile ofQ))) = some R) ∧ (bte T e (sk T e p) ≠ 41 → R = .inl (1, sk T e p))) ∧ (k = 21 ∨ k = 22 → (bte T e (sk T e p) = 44 → ∃ n', dD a T e n' true (sk T e p + 1) g o ((k + 2) :: W) (C ++ A) = some R) ∧ (bte T e (sk T e p) ≠ 44 → R = .inl (1, sk T e p))) := by
  cases n with
  | zero => cases hd
  | succ n =>
    obtain ⟨m1, m2, m3⟩ := nmk_app (k := k) (A := A) (W := W) (fun v hv => op_mrk (hA v hv)) (mrk_of hk).1
    unfold dD at hd
    rw [m1, m2, m3] at hd
    have hd : (if bte T e (sk T e p) = 41 ∧ (k = 20 ∨ k = 23 ∨ k = 24) then dD a T e n false (sk T e p + 1) g (o - 1 - (W.takeWhile ofQ).length) (W.dropWhile ofQ) (C ++ (A ++ ((if k = 20 then [] else if k = 23 then [5] else [6]) ++ W.takeWhile ofQ))) else _) = some R := hd
    obtain ⟨⟨n1, n2⟩, n3, n4⟩ := hn
    refine ⟨fun hk1 => ⟨fun c => ⟨n, ?_⟩, fun c => ?_⟩, fun hk1 => ⟨fun c => ⟨n, ?_⟩, fun c => ?_⟩⟩
    · rw [if_pos ⟨c, hk1⟩] at hd
      exact hd
    · rw [if_neg (fun z => c z.1), if_neg n1, if_neg n2, if_neg n3, if_neg n4, if_neg (by omega), if_pos (by omega)] at hd
      exact (Option.some.inj hd).symm
    · rw [if_neg (by omega), if_neg n1, if_neg n2, if_neg n3, if_neg n4, if_pos hk1, if_neg (fun z => z c)] at hd
      exact hd
    · rw [if_neg (by omega), if_neg n1, if_neg n2, if_neg n3, if_neg n4, if_pos hk1, if_pos c] at hd
      exact (Option.some.inj hd).symm
section Wts
def SPairt (F : Nat → Nat → Int → Mm → Option (Int × Mm)) (T : Nat → Int) (e o : Int) : Prop := ∀ (p kk : Int) (W C : List Int) (R : Out) (k : Nat) (M : Mm), (kk = 21 ∨ kk = 22) → Yt T e p p C M → (if bte T e (sk T e p) ≠ 40 then some (.inl (1, sk T e p)) else if o = 6 then some (.inl (4, sk T e p)) else dD false T e k true (sk T e p + 1) p (o + 1) (kk :: W) C) = some R → C.length + W.length + 1 ≤ p.toNat → wq (F 3 38 o M) (fun q => ((q.1 = 0 ∧ Zb T e R q.2) ∨ (q.1 = 1 ∧ ∃ k p' g' C', dD false T e k false p' g' (o - (W.takeWhile ofQ).length) (W.dropWhile ofQ) ((C' ++ [kk - 16]) ++ W.takeWhile ofQ) = some R ∧ Yt T e p' g' C' q.2 ∧ p < p' ∧ C'.length + 1 + W.length + 1 ≤ p'.toNat)) ∧ Fr ytA M q.2)
variable {T : Nat → Int} {e o : Int} {F : Nat → Nat → Int → Mm → Option (Int × Mm)}
theorem yt_pair (hB : Bt T e) (ho : 0 ≤ o ∧ o ≤ 6) (hF : o ≠ 6 → SSumt F T e (o + 1)) (p kk : Int) (W C : List Int) (R : Out) (k : Nat) (M : Mm) (hkk : kk = 21 ∨ kk = 22) (hY : Yt T e p p C M) (hd : (if bte T e (sk T e p) ≠ 40 then some (.inl (1, sk T e p)) else if o = 6 then some (.inl (4, sk T e p)) else dD false T e k true (sk T e p + 1) p (o + 1) (kk :: W) C) = some R) (hlen : C.length + W.length + 1 ≤ p.toNat) : wq (f_Reader_pair F 38 o M) (fun q => ((q.1 = 0 ∧ Zb T e R q.2) ∨ (q.1 = 1 ∧ ∃ k p' g' C', dD false T e k false p' g' (o - (W.takeWhile ofQ).length) (W.dropWhile ofQ) ((C' ++ [kk - 16]) ++ W.takeWhile ofQ) = some R ∧ Yt T e p' g' C' q.2 ∧ p < p' ∧ C'.length + 1 + W.length + 1 ≤ p'.toNat)) ∧ Fr ytA M q.2) := by
  have hh := hB.1
  have b := hY.1.2.2.2.2.2.1
  have hs := sk_rng T b.1 b.2
  have hss := sk_sk T (e := e) b.1
  unfold f_Reader_pair
  refine wq_I (s_atSign hB hY.1 (by decide)) (fun r M1 ⟨c1, c2, c3⟩ => ?_)
  have y1 : Yt T e (sk T e p) p C M1 := hY.sc c2 (c3.cov rfl)
  have f1 : Fr ytA M M1 := c3.cov rfl
  rcases c1 with ⟨d1, d2⟩ | ⟨d1, d2⟩
  · have d1 : r = 1 := d1
    rw [d1]
    rw [if_neg (fun z => z d2)] at hd
    have hl := bte_lt (T := T) (e := e) (k := sk T e p) (by omega) (by omega)
    refine wq_t (by decide) (wq_I (yt_may y1 ho hB) (fun r2 M2 ⟨c4, c5⟩ => ?_))
    have f2 : Fr ytA M M2 := f1.tr (c5.cov rfl)
    rcases c4 with ⟨d3, d4, d5⟩ | ⟨d3, d4, d5⟩
    · have d3 : r2 = 1 := d3
      have d5 : M2 = M1 := d5
      subst d5
      rw [d3]
      rw [if_neg d4] at hd
      refine wq_e (by decide) (wq_I (s_takeSign hB y1.1 (by decide)) (fun r3 M3 ⟨c6, c7⟩ => ?_))
      rw [hss] at c6
      rcases c6 with ⟨d6, d7, d8⟩ | ⟨d6, d7, d8⟩
      · have d6 : r3 = 1 := d6
        rw [d6]
        have y3 := y1.sc d8 (c7.cov rfl)
        have f3 : Fr ytA M M3 := f2.tr (c7.cov rfl)
        have m := mrk_of (k := kk) (by omega)
        have m2 := mrk_of (k := kk + 2) (by omega)
        refine wq_e (by decide) (wq_I (hF d4 _ _ (kk :: W) C R k M3 y3 hd (by rw [List.length_cons]; omega) (tw_n m.2.2.1).1 (noOf_of m.2.2.2)) (fun r4 M4 ⟨c8, c9⟩ => ?_))
        have f4 : Fr ytA M M4 := f3.tr c9
        rcases c8 with ⟨z1, z2⟩ | ⟨z1, k5, p5, g5, A5, C5, d9, y5, l5, hA5, l6, n5⟩
        · have z1 : r4 = 0 := z1
          rw [z1]
          exact wq_t (by decide) (wq_some ⟨Or.inl ⟨rfl, z2⟩, f4⟩)
        have z1 : r4 = 1 := z1
        rw [z1]
        have y5 : Yt T e p5 g5 (C5 ++ A5) M4 := y5
        have b5 := y5.1.2.2.2.2.2.1
        have hs5 := sk_rng T b5.1 b5.2
        rw [List.length_cons] at l6
        have hsg := (dD_sign (by omega) d9 hA5 n5).2 hkk
        refine wq_e (by decide) (wq_I (s_needSign hB y5.1 (by decide)) (fun r6 M6 ⟨e1, e2⟩ => ?_))
        have f6 : Fr ytA M M6 := f4.tr (e2.cov rfl)
        rcases e1 with ⟨e3, e4, e5⟩ | ⟨e3, e4, e5⟩
        · have e3 : r6 = 1 := e3
          rw [e3]
          obtain ⟨n6, d10⟩ := hsg.1 e4
          have hl5 := bte_lt (T := T) (e := e) (k := sk T e p5) (by omega) (by omega)
          have y6 := y5.sc e5 e2
          refine wq_e (by decide) (wq_I (hF d4 _ _ ((kk + 2) :: W) (C5 ++ A5) R n6 M6 y6 d10 (by rw [List.length_cons, List.length_append]; omega) (tw_n m2.2.2.1).1 (noOf_of m2.2.2.2)) (fun r7 M7 ⟨e6, e7⟩ => ?_))
          have f7 : Fr ytA M M7 := f6.tr e7
          rcases e6 with ⟨z3, z4⟩ | ⟨z3, k8, p8, g8, A8, C8, d11, y8, l8, hA8, l9, n8⟩
          · have z3 : r7 = 0 := z3
            rw [z3]
            exact wq_t (by decide) (wq_some ⟨Or.inl ⟨rfl, z4⟩, f7⟩)
          have z3 : r7 = 1 := z3
          rw [z3]
          have y8 : Yt T e p8 g8 (C8 ++ A8) M7 := y8
          have b8 := y8.1.2.2.2.2.2.1
          have hs8 := sk_rng T b8.1 b8.2
          rw [List.length_cons] at l9
          have hsg2 := (dD_sign (by omega) d11 hA8 n8).1 (by omega)
          refine wq_e (by decide) (wq_I (s_needSign hB y8.1 (by decide)) (fun r9 M9 ⟨i1, i2⟩ => ?_))
          have f9 : Fr ytA M M9 := f7.tr (i2.cov rfl)
          rcases i1 with ⟨i3, i4, i5⟩ | ⟨i3, i4, i5⟩
          · have i3 : r9 = 1 := i3
            rw [i3]
            obtain ⟨n9, d12⟩ := hsg2.1 i4
            have hl8 := bte_lt (T := T) (e := e) (k := sk T e p8) (by omega) (by omega)
            refine wq_e (by decide) (wq_some ⟨Or.inr ⟨rfl, n9, _, _, C8 ++ A8, ?_, y8.sc i5 i2, by omega, by rw [List.length_append]; omega⟩, f9⟩)
            have e16 : (if kk + 2 = 20 then ([] : List Int) else if kk + 2 = 23 then [5] else [6]) = [kk - 16] := by
              rcases hkk with z | z <;> subst z <;> rfl
            rw [e16, show o + 1 - 1 - ((W.takeWhile ofQ).length : Int) = o - (W.takeWhile ofQ).length by omega, ← List.append_assoc, ← List.append_assoc] at d12
            exact d12
          · have i3 : r9 = 0 := i3
            rw [i3]
            exact wq_t (by decide) (wq_some ⟨Or.inl ⟨rfl, 1, _, hsg2.2 i4, i5⟩, f9⟩)
        · have e3 : r6 = 0 := e3
          rw [e3]
          exact wq_t (by decide) (wq_some ⟨Or.inl ⟨rfl, 1, _, hsg.2 e4, e5⟩, f6⟩)
      · exact absurd d2 d7
    · have d3 : r2 = 0 := d3
      rw [d3]
      rw [if_pos d4] at hd
      exact wq_t (by decide) (wq_some ⟨Or.inl ⟨rfl, 4, _, (Option.some.inj hd).symm, d5⟩, f2⟩)
  · have d1 : r = 0 := d1
    rw [d1]
    rw [if_pos d2] at hd
    refine wq_e (by decide) (wq_I (s_unex hB y1.1) (fun r2 M2 ⟨c4, c5, c6⟩ => ?_))
    have c4 : r2 = 0 := c4
    rw [hss] at c5
    rw [c4]
    exact wq_g (Or.inl (by decide)) (wq_some ⟨Or.inl ⟨rfl, 1, _, (Option.some.inj hd).symm, c5⟩, f1.tr (c6.cov rfl)⟩)
/-- a part's code is taken -/
theorem yt_fin {p p' g' v x : Int} {W C : List Int} {R : Out} {k : Nat} {M M' : Mm} (hB : Bt T e) (hY : Yt T e p' g' C M') (hM : Fr ytA M M') (hp : p < p') (hd : dD false T e k false p' g' (o - (W.takeWhile ofQ).length) (W.dropWhile ofQ) (C ++ v :: W.takeWhile ofQ) = some R) (hlen : C.length + W.length + 2 ≤ p'.toNat) (hx : trC v = x) (hr : -20 ≤ x ∧ x ≤ 9999) (hv : (60 ≤ v ∧ v ≤ 62 ∧ x = 54 - v) ∨ ((v < 60 ∨ 62 < v) ∧ (x < -8 ∨ -6 < x))) : wq (f_Reader_took 38 x M') (fun q => q.1 = 1 ∧ Qt T e p o W R q ∧ Fr ytA M q.2) := by
  have hh := hB.1
  have b := hY.1.2.2.2.2.2.1
  refine wq_m (yt_took hY (by omega) hx hr hv) (fun q ⟨z1, z2, z3⟩ => ⟨z1, Or.inr ⟨z1, k, p', g', C ++ [v], ?_, z2, hp, by rw [List.length_append, List.length_singleton]; omega⟩, hM.tr (z3.cov rfl)⟩)
  rw [List.append_assoc]
  exact hd
end Wts
section Wqs
def SPairq (F : Nat → Nat → Int → Mm → Option (Int × Mm)) (T : Nat → Int) (e o : Int) : Prop := ∀ (p kk : Int) (W C : List Int) (R : Out) (k : Nat) (M : Mm), (kk = 21 ∨ kk = 22) → Yq T e p p C M → (if bte T e (sk T e p) ≠ 40 then some (.inl (1, sk T e p)) else if o = 6 then some (.inl (4, sk T e p)) else dD true T e k true (sk T e p + 1) p (o + 1) (kk :: W) C) = some R → C.length + W.length + 1 ≤ p.toNat → wq (F 3 76 o M) (fun q => ((q.1 = 0 ∧ Zb T e R q.2) ∨ (q.1 = 1 ∧ ∃ k p' g' C', dD true T e k false p' g' (o - (W.takeWhile ofQ).length) (W.dropWhile ofQ) ((C' ++ [kk - 16]) ++ W.takeWhile ofQ) = some R ∧ Yq T e p' g' C' q.2 ∧ p < p' ∧ C'.length + 1 + W.length + 1 ≤ p'.toNat)) ∧ Fr yqA M q.2)
variable {T : Nat → Int} {e o : Int} {F : Nat → Nat → Int → Mm → Option (Int × Mm)}
theorem yq_pair (hB : Bt T e) (ho : 0 ≤ o ∧ o ≤ 6) (hF : o ≠ 6 → SSumq F T e (o + 1)) (p kk : Int) (W C : List Int) (R : Out) (k : Nat) (M : Mm) (hkk : kk = 21 ∨ kk = 22) (hY : Yq T e p p C M) (hd : (if bte T e (sk T e p) ≠ 40 then some (.inl (1, sk T e p)) else if o = 6 then some (.inl (4, sk T e p)) else dD true T e k true (sk T e p + 1) p (o + 1) (kk :: W) C) = some R) (hlen : C.length + W.length + 1 ≤ p.toNat) : wq (f_Reader_pair F 76 o M) (fun q => ((q.1 = 0 ∧ Zb T e R q.2) ∨ (q.1 = 1 ∧ ∃ k p' g' C', dD true T e k false p' g' (o - (W.takeWhile ofQ).length) (W.dropWhile ofQ) ((C' ++ [kk - 16]) ++ W.takeWhile ofQ) = some R ∧ Yq T e p' g' C' q.2 ∧ p < p' ∧ C'.length + 1 + W.length + 1 ≤ p'.toNat)) ∧ Fr yqA M q.2) := by
  have hh := hB.1
  have b := hY.1.2.2.2.2.2.1
  have hs := sk_rng T b.1 b.2
  have hss := sk_sk T (e := e) b.1
  unfold f_Reader_pair
  refine wq_I (s_atSign hB hY.1 (by decide)) (fun r M1 ⟨c1, c2, c3⟩ => ?_)
  have y1 : Yq T e (sk T e p) p C M1 := hY.sc c2 (c3.cov rfl)
  have f1 : Fr yqA M M1 := c3.cov rfl
  rcases c1 with ⟨d1, d2⟩ | ⟨d1, d2⟩
  · have d1 : r = 1 := d1
    rw [d1]
    rw [if_neg (fun z => z d2)] at hd
    have hl := bte_lt (T := T) (e := e) (k := sk T e p) (by omega) (by omega)
    refine wq_t (by decide) (wq_I (yq_may y1 ho hB) (fun r2 M2 ⟨c4, c5⟩ => ?_))
    have f2 : Fr yqA M M2 := f1.tr (c5.cov rfl)
    rcases c4 with ⟨d3, d4, d5⟩ | ⟨d3, d4, d5⟩
    · have d3 : r2 = 1 := d3
      have d5 : M2 = M1 := d5
      subst d5
      rw [d3]
      rw [if_neg d4] at hd
      refine wq_e (by decide) (wq_I (s_takeSign hB y1.1 (by decide)) (fun r3 M3 ⟨c6, c7⟩ => ?_))
      rw [hss] at c6
      rcases c6 with ⟨d6, d7, d8⟩ | ⟨d6, d7, d8⟩
      · have d6 : r3 = 1 := d6
        rw [d6]
        have y3 := y1.sc d8 (c7.cov rfl)
        have f3 : Fr yqA M M3 := f2.tr (c7.cov rfl)
        have m := mrk_of (k := kk) (by omega)
        have m2 := mrk_of (k := kk + 2) (by omega)
        refine wq_e (by decide) (wq_I (hF d4 _ _ (kk :: W) C R k M3 y3 hd (by rw [List.length_cons]; omega) (tw_n m.2.2.1).1 (noOf_of m.2.2.2)) (fun r4 M4 ⟨c8, c9⟩ => ?_))
        have f4 : Fr yqA M M4 := f3.tr c9
        rcases c8 with ⟨z1, z2⟩ | ⟨z1, k5, p5, g5, A5, C5, d9, y5, l5, hA5, l6, n5⟩
        · have z1 : r4 = 0 := z1
          rw [z1]
          exact wq_t (by decide) (wq_some ⟨Or.inl ⟨rfl, z2⟩, f4⟩)
        have z1 : r4 = 1 := z1
        rw [z1]
        have y5 : Yq T e p5 g5 (C5 ++ A5) M4 := y5
        have b5 := y5.1.2.2.2.2.2.1
        have hs5 := sk_rng T b5.1 b5.2
        rw [List.length_cons] at l6
        have hsg := (dD_sign (by omega) d9 hA5 n5).2 hkk
        refine wq_e (by decide) (wq_I (s_needSign hB y5.1 (by decide)) (fun r6 M6 ⟨e1, e2⟩ => ?_))
        have f6 : Fr yqA M M6 := f4.tr (e2.cov rfl)
        rcases e1 with ⟨e3, e4, e5⟩ | ⟨e3, e4, e5⟩
        · have e3 : r6 = 1 := e3
          rw [e3]
          obtain ⟨n6, d10⟩ := hsg.1 e4
          have hl5 := bte_lt (T := T) (e := e) (k := sk T e p5) (by omega) (by omega)
          have y6 := y5.sc e5 e2
          refine wq_e (by decide) (wq_I (hF d4 _ _ ((kk + 2) :: W) (C5 ++ A5) R n6 M6 y6 d10 (by rw [List.length_cons, List.length_append]; omega) (tw_n m2.2.2.1).1 (noOf_of m2.2.2.2)) (fun r7 M7 ⟨e6, e7⟩ => ?_))
          have f7 : Fr yqA M M7 := f6.tr e7
          rcases e6 with ⟨z3, z4⟩ | ⟨z3, k8, p8, g8, A8, C8, d11, y8, l8, hA8, l9, n8⟩
          · have z3 : r7 = 0 := z3
            rw [z3]
            exact wq_t (by decide) (wq_some ⟨Or.inl ⟨rfl, z4⟩, f7⟩)
          have z3 : r7 = 1 := z3
          rw [z3]
          have y8 : Yq T e p8 g8 (C8 ++ A8) M7 := y8
          have b8 := y8.1.2.2.2.2.2.1
          have hs8 := sk_rng T b8.1 b8.2
          rw [List.length_cons] at l9
          have hsg2 := (dD_sign (by omega) d11 hA8 n8).1 (by omega)
          refine wq_e (by decide) (wq_I (s_needSign hB y8.1 (by decide)) (fun r9 M9 ⟨i1, i2⟩ => ?_))
          have f9 : Fr yqA M M9 := f7.tr (i2.cov rfl)
          rcases i1 with ⟨i3, i4, i5⟩ | ⟨i3, i4, i5⟩
          · have i3 : r9 = 1 := i3
            rw [i3]
            obtain ⟨n9, d12⟩ := hsg2.1 i4
            have hl8 := bte_lt (T := T) (e := e) (k := sk T e p8) (by omega) (by omega)
            refine wq_e (by decide) (wq_some ⟨Or.inr ⟨rfl, n9, _, _, C8 ++ A8, ?_, y8.sc i5 i2, by omega, by rw [List.length_append]; omega⟩, f9⟩)
            have e16 : (if kk + 2 = 20 then ([] : List Int) else if kk + 2 = 23 then [5] else [6]) = [kk - 16] := by
              rcases hkk with z | z <;> subst z <;> rfl
            rw [e16, show o + 1 - 1 - ((W.takeWhile ofQ).length : Int) = o - (W.takeWhile ofQ).length by omega, ← List.append_assoc, ← List.append_assoc] at d12
            exact d12
          · have i3 : r9 = 0 := i3
            rw [i3]
            exact wq_t (by decide) (wq_some ⟨Or.inl ⟨rfl, 1, _, hsg2.2 i4, i5⟩, f9⟩)
        · have e3 : r6 = 0 := e3
          rw [e3]
          exact wq_t (by decide) (wq_some ⟨Or.inl ⟨rfl, 1, _, hsg.2 e4, e5⟩, f6⟩)
      · exact absurd d2 d7
    · have d3 : r2 = 0 := d3
      rw [d3]
      rw [if_pos d4] at hd
      exact wq_t (by decide) (wq_some ⟨Or.inl ⟨rfl, 4, _, (Option.some.inj hd).symm, d5⟩, f2⟩)
  · have d1 : r = 0 := d1
    rw [d1]
    rw [if_pos d2] at hd
    refine wq_e (by decide) (wq_I (s_unex hB y1.1) (fun r2 M2 ⟨c4, c5, c6⟩ => ?_))
    have c4 : r2 = 0 := c4
    rw [hss] at c5
    rw [c4]
    exact wq_g (Or.inl (by decide)) (wq_some ⟨Or.inl ⟨rfl, 1, _, (Option.some.inj hd).symm, c5⟩, f1.tr (c6.cov rfl)⟩)
/-- a part's code is taken -/
theorem yq_fin {p p' g' v x : Int} {W C : List Int} {R : Out} {k : Nat} {M M' : Mm} (hB : Bt T e) (hY : Yq T e p' g' C M') (hM : Fr yqA M M') (hp : p < p') (hd : dD true T e k false p' g' (o - (W.takeWhile ofQ).length) (W.dropWhile ofQ) (C ++ v :: W.takeWhile ofQ) = some R) (hlen : C.length + W.length + 2 ≤ p'.toNat) (hx : tqC v = x) (hr : -20 ≤ x ∧ x ≤ 9999) (hv : (60 ≤ v ∧ v ≤ 62 ∧ x = 54 - v) ∨ ((v < 60 ∨ 62 < v) ∧ (x < -8 ∨ -6 < x))) : wq (f_Reader_took 76 x M') (fun q => q.1 = 1 ∧ Qq T e p o W R q ∧ Fr yqA M q.2) := by
  have hh := hB.1
  have b := hY.1.2.2.2.2.2.1
  refine wq_m (yq_took hY (by omega) hx hr hv) (fun q ⟨z1, z2, z3⟩ => ⟨z1, Or.inr ⟨z1, k, p', g', C ++ [v], ?_, z2, hp, by rw [List.length_append, List.length_singleton]; omega⟩, hM.tr (z3.cov rfl)⟩)
  rw [List.append_assoc]
  exact hd
end Wqs
