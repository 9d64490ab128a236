/-- no op stands next -/
def nxM (c : Int) : Prop := c ≠ 42 ∧ c ≠ 47
def nxA (c : Int) : Prop := (c ≠ 42 ∧ c ≠ 47) ∧ (c ≠ 43 ∧ c ≠ 45)
theorem mul_op {v : Int} (h : mulQ v = true) : opQ v = true := by
  have := of_decide_eq_true h
  exact decide_eq_true (by omega)
theorem op_mrk {v : Int} (h : opQ v = true) : mrkQ v = false := by
  have := of_decide_eq_true h
  exact decide_eq_false (by omega)
theorem noOf_app {A W : List Int} (hA : ∀ v ∈ A, opQ v = true) (hW : noOf W) : noOf (A ++ W) := by
  cases A with
  | nil => exact hW
  | cons v A =>
    refine noOf_of ?_
    have := of_decide_eq_true (hA v List.mem_cons_self)
    omega
section Zts
/-- behind a part -/
def Qt (T : Nat → Int) (e p o : Int) (W : List Int) (R : Out) (r : Int × Mm) : Prop := (r.1 = 0 ∧ Zb T e R r.2) ∨ (r.1 = 1 ∧ ∃ k p' g' C', dD false T e k false p' g' (o - (W.takeWhile ofQ).length) (W.dropWhile ofQ) (C' ++ W.takeWhile ofQ) = some R ∧ Yt T e p' g' C' r.2 ∧ p < p' ∧ C'.length + W.length + 1 ≤ p'.toNat)
/-- behind a product, a sum -/
def Qot (q : Int → Bool) (nx : Int → Prop) (T : Nat → Int) (e p o : Int) (W : List Int) (R : Out) (r : Int × Mm) : Prop := (r.1 = 0 ∧ Zb T e R r.2) ∨ (r.1 = 1 ∧ ∃ k p' g' D C', dD false T e k false p' g' o (D ++ W) C' = some R ∧ Yt T e p' g' (C' ++ D) r.2 ∧ p < p' ∧ (∀ v ∈ D, q v = true) ∧ C'.length + D.length + W.length + 1 ≤ p'.toNat ∧ nx (bte T e (sk T e p')))
def SPartt (F : Nat → Nat → Int → Mm → Option (Int × Mm)) (T : Nat → Int) (e o : Int) : Prop := ∀ (p g : Int) (W C : List Int) (R : Out) (k : Nat) (M : Mm), Yt T e p g C M → dD false T e k true p g o W C = some R → C.length + W.length + 1 ≤ p.toNat → wq (F 2 38 o M) (fun q => Qt T e p o W R q ∧ Fr ytA M q.2)
def SProdt (F : Nat → Nat → Int → Mm → Option (Int × Mm)) (T : Nat → Int) (e o : Int) : Prop := ∀ (p g : Int) (W C : List Int) (R : Out) (k : Nat) (M : Mm), Yt T e p g C M → dD false T e k true p g o W C = some R → C.length + W.length + 1 ≤ p.toNat → W.takeWhile mulQ = [] → noOf W → wq (F 1 38 o M) (fun q => Qot mulQ nxM T e p o W R q ∧ Fr ytA M q.2)
def SSumt (F : Nat → Nat → Int → Mm → Option (Int × Mm)) (T : Nat → Int) (e o : Int) : Prop := ∀ (p g : Int) (W C : List Int) (R : Out) (k : Nat) (M : Mm), Yt T e p g C M → dD false T e k true p g o W C = some R → C.length + W.length + 1 ≤ p.toNat → W.takeWhile opQ = [] → noOf W → wq (F 0 38 o M) (fun q => Qot opQ nxA T e p o W R q ∧ Fr ytA M q.2)
variable {T : Nat → Int} {e o : Int} {F : Nat → Nat → Int → Mm → Option (Int × Mm)}
theorem yt_prod (hB : Bt T e) (ho : 0 ≤ o ∧ o ≤ 6) (hF : SPartt F T e o) (p g : Int) (W C : List Int) (R : Out) (k : Nat) (M : Mm) (hY : Yt T e p g C M) (hd : dD false T e k true p g o W C = some R) (hlen : C.length + W.length + 1 ≤ p.toNat) (hW : W.takeWhile mulQ = []) (hn : noOf W) : wq (f_Reader_product F 38 o M) (fun q => Qot mulQ nxM T e p o W R q ∧ Fr ytA M q.2) := by
  have hh := hB.1
  unfold f_Reader_product
  refine wq_I (hF p g W C R k M hY hd hlen) (fun r M1 ⟨z, f⟩ => ?_)
  have f : Fr ytA M M1 := f
  rcases z with ⟨z1, z2⟩ | ⟨z1, k1, p1, g1, C1, d1, y1, l1, l2⟩
  · have z1 : r = 0 := z1
    rw [z1]
    exact wq_e (by decide) (wq_some ⟨Or.inl ⟨rfl, z2⟩, f⟩)
  have z1 : r = 1 := z1
  rw [z1]
  refine wq_t (by decide) ?_
  have hn' : W.takeWhile ofQ = [] := hn
  rw [hn', noOf_dw hn, List.append_nil, show o - ((([] : List Int).length : Nat) : Int) = o by show o - ((0 : Nat) : Int) = o; omega] at d1
  have y1 : Yt T e p1 g1 C1 M1 := y1
  have b1 := y1.1.2.2.2.2.2.1
  unfold f_Reader_product_L12
  refine wq_lp (fun z => z.1 = o ∧ 0 ≤ z.2.1 ∧ Fr ytA M z.2.2 ∧ ∃ k p' g' D C', dD false T e k false p' g' o (D ++ W) C' = some R ∧ Yt T e p' g' (C' ++ D) z.2.2 ∧ p < p' ∧ z.2.1 ≤ p' ∧ (∀ v ∈ D, mulQ v = true) ∧ C'.length + D.length + W.length + 1 ≤ p'.toNat) (fun z => (2000 - z.2.1).toNat) ?_ FU _ ⟨rfl, Int.le_refl _, f, k1, p1, g1, [], C1, d1, by rw [List.append_nil]; exact y1, l1, b1.1, (fun v hv => by cases hv), by simpa using l2⟩ ?_
  · rintro kH ⟨v1, v2, N⟩ ⟨q1, q2, q3, k', p', g', D, C', d2, y2, l3, l4, hD, l5⟩ hk
    have q1 : v1 = o := q1
    have q2 : 0 ≤ v2 := q2
    have q3 : Fr ytA M N := q3
    have l4 : v2 ≤ p' := l4
    have y2 : Yt T e p' g' (C' ++ D) N := y2
    subst q1
    have b := y2.1.2.2.2.2.2.1
    have hs := sk_rng T b.1 b.2
    have hss := sk_sk T (e := e) b.1
    show wq (f_Reader_product_B12 F 38 (fun v1 v2 M => kH (v1, v2, M)) v1 v2 N) _
    unfold f_Reader_product_B12
    rw [i32_id (x := 1600) (by decide) (by decide), i32_id (x := v2) (by omega) (by omega)]
    refine wq_if (fun c => wq_some ⟨Or.inr ⟨rfl, k', p', g', D, C', d2, y2, l3, hD, l5, ?_⟩, q3⟩) (fun c => ?_)
    · rw [bte_out (by omega)]
      exact ⟨by decide, by decide⟩
    obtain ⟨t1, t2⟩ := tw_app hD hW
    have hone : ∀ (c v x : Int) (M' : Mm), bte T e (sk T e p') = c → (c = 42 ∧ v = 3 ∧ x = -12) ∨ (c = 47 ∧ v = 4 ∧ x = -13) → Sc T e (sk T e p' + 1) g' M' → Fr scL N M' → wq (f_Reader_product_J54 F 38 (fun v1 v2 M => kH (v1, v2, M)) v1 v2 x M') (fun q => Qot mulQ nxM T e p v1 W R q ∧ Fr ytA M q.2) := by
      intro c v x M' hc hv hs1 hf1
      have hl := bte_lt (T := T) (e := e) (k := sk T e p') (by omega) (by omega)
      cases k' with
      | zero => cases d2
      | succ k' =>
        have hx : trC v = x ∧ -20 ≤ x ∧ x ≤ -10 ∧ v ≤ 50 ∧ mulQ v = true := by
          rcases hv with ⟨-, h2, h3⟩ | ⟨-, h2, h3⟩
          · subst h2 h3; exact ⟨by decide, by decide, by decide, by decide, by decide⟩
          · subst h2 h3; exact ⟨by decide, by decide, by decide, by decide, by decide⟩
        have d3 : dD false T e k' true (sk T e p' + 1) g' v1 (v :: W) (C' ++ D) = some R := by
          unfold dD at d2
          rw [hc, if_neg (by omega)] at d2
          rcases hv with ⟨h1, h2, h3⟩ | ⟨h1, h2, h3⟩
          · rw [if_pos h1, t1, t2] at d2
            rw [h2]; exact d2
          · rw [if_neg (by omega), if_pos h1, t1, t2] at d2
            rw [h2]; exact d2
        have hnv : noOf (v :: W) := noOf_of (by omega)
        have hnv' : (v :: W).takeWhile ofQ = [] := hnv
        have y3 := y2.sc hs1 hf1
        unfold f_Reader_product_J54
        rw [i32_id (x := x) (by omega) (by omega)]
        refine wq_t (by omega) (wq_I (hF _ _ (v :: W) (C' ++ D) R k' M' y3 d3 (by rw [List.length_append, List.length_cons]; omega)) (fun r2 M2 ⟨w, f2⟩ => ?_))
        have f2 : Fr ytA M M2 := q3.tr ((hf1.cov rfl : Fr ytA _ _).tr f2)
        rcases w with ⟨w1, w2⟩ | ⟨w1, k4, p4, g4, C4, d4, y4, l6, l7⟩
        · have w1 : r2 = 0 := w1
          rw [w1]
          exact wq_e (by decide) (wq_some ⟨Or.inl ⟨rfl, w2⟩, f2⟩)
        · have w1 : r2 = 1 := w1
          rw [w1]
          rw [hnv', noOf_dw hnv, List.append_nil, show v1 - ((([] : List Int).length : Nat) : Int) = v1 by show v1 - ((0 : Nat) : Int) = v1; omega] at d4
          have y4 : Yt T e p4 g4 C4 M2 := y4
          have b4 := y4.1.2.2.2.2.2.1
          rw [List.length_cons] at l7
          rw [ptr_38]
          refine wq_t (by decide) (wq_V (yt_add y4 (v := v) (by omega) hx.1 (by omega) (Or.inr (by omega))) (fun M3 ⟨y5, f3⟩ => hk _ ⟨rfl, show 0 ≤ v2 + 1 by omega, f2.tr (f3.cov rfl), k4, p4, g4, [v], C4, d4, y5, by omega, show v2 + 1 ≤ p4 by omega, (fun u hu => by rw [List.mem_singleton.mp hu]; exact hx.2.2.2.2), by rw [List.length_singleton]; omega⟩ (show (2000 - (v2 + 1)).toNat < (2000 - v2).toNat by omega)))
    refine wq_I (s_takeSign hB y2.1 (by decide)) (fun r2 M2 ⟨c1, c2⟩ => ?_)
    have c2 : Fr [(1, 2)] N M2 := c2
    rcases c1 with ⟨e1, e2, e3⟩ | ⟨e1, e2, e3⟩
    · have e1 : r2 = 1 := e1
      rw [e1]
      exact wq_e (by decide) (hone 42 3 (-12) M2 e2 (Or.inl ⟨rfl, rfl, rfl⟩) e3 (c2.cov rfl))
    have e1 : r2 = 0 := e1
    rw [e1]
    refine wq_t (by decide) (wq_I (s_takeSign hB e3 (by decide)) (fun r3 M3 ⟨c3, c4⟩ => ?_))
    rw [hss] at c3
    have c5 : Fr scL N M3 := (c2.cov rfl : Fr scL _ _).tr (c4.cov rfl)
    rcases c3 with ⟨e4, e5, e6⟩ | ⟨e4, e5, e6⟩
    · have e4 : r3 = 1 := e4
      rw [e4]
      exact wq_e (by decide) (hone 47 4 (-13) M3 e5 (Or.inr ⟨rfl, rfl, rfl⟩) e6 c5)
    · have e4 : r3 = 0 := e4
      rw [e4]
      refine wq_t (by decide) ?_
      unfold f_Reader_product_J54
      refine wq_e (by decide) (wq_some ⟨Or.inr ⟨rfl, k', sk T e p', g', D, C', ?_, y2.sc e6 c5, by omega, hD, by omega, ?_⟩, q3.tr (c5.cov rfl)⟩)
      · rw [dD_sk false T e k' false g' v1 (D ++ W) C' b.1]
        exact d2
      · rw [hss]
        exact ⟨e2, e5⟩
  · show (2000 - (0 : Int)).toNat < 1000000000
    decide
theorem yt_sum (hB : Bt T e) (ho : 0 ≤ o ∧ o ≤ 6) (hF : SProdt F T e o) (p g : Int) (W C : List Int) (R : Out) (k : Nat) (M : Mm) (hY : Yt T e p g C M) (hd : dD false T e k true p g o W C = some R) (hlen : C.length + W.length + 1 ≤ p.toNat) (hW : W.takeWhile opQ = []) (hn : noOf W) : wq (f_Reader_sum F 38 o M) (fun q => Qot opQ nxA T e p o W R q ∧ Fr ytA M q.2) := by
  have hh := hB.1
  have hWm : W.takeWhile mulQ = [] := by
    cases W with
    | nil => rfl
    | cons v W =>
      by_cases c : mulQ v = true
      · rw [(tw_y (mul_op c)).1] at hW
        cases hW
      · exact (tw_n (by simpa using c)).1
  unfold f_Reader_sum
  refine wq_I (hF p g W C R k M hY hd hlen hWm hn) (fun r M1 ⟨z, f⟩ => ?_)
  have f : Fr ytA M M1 := f
  rcases z with ⟨z1, z2⟩ | ⟨z1, k1, p1, g1, D1, C1, d1, y1, l1, hD1, l2, n1⟩
  · have z1 : r = 0 := z1
    rw [z1]
    exact wq_e (by decide) (wq_some ⟨Or.inl ⟨rfl, z2⟩, f⟩)
  have z1 : r = 1 := z1
  rw [z1]
  refine wq_t (by decide) ?_
  have y1 : Yt T e p1 g1 (C1 ++ D1) M1 := y1
  have b1 := y1.1.2.2.2.2.2.1
  unfold f_Reader_sum_L12
  refine wq_lp (fun z => z.1 = o ∧ 0 ≤ z.2.1 ∧ Fr ytA M z.2.2 ∧ ∃ k p' g' D C', dD false T e k false p' g' o (D ++ W) C' = some R ∧ Yt T e p' g' (C' ++ D) z.2.2 ∧ p < p' ∧ z.2.1 ≤ p' ∧ (∀ v ∈ D, opQ v = true) ∧ C'.length + D.length + W.length + 1 ≤ p'.toNat ∧ nxM (bte T e (sk T e p'))) (fun z => (2000 - z.2.1).toNat) ?_ FU _ ⟨rfl, Int.le_refl _, f, k1, p1, g1, D1, C1, d1, y1, l1, b1.1, (fun v hv => mul_op (hD1 v hv)), l2, n1⟩ ?_
  · rintro kH ⟨v1, v2, N⟩ ⟨q1, q2, q3, k', p', g', D, C', d2, y2, l3, l4, hD, l5, n2⟩ hk
    have q1 : v1 = o := q1
    have q2 : 0 ≤ v2 := q2
    have q3 : Fr ytA M N := q3
    have l4 : v2 ≤ p' := l4
    have y2 : Yt T e p' g' (C' ++ D) N := y2
    subst q1
    have b := y2.1.2.2.2.2.2.1
    have hs := sk_rng T b.1 b.2
    have hss := sk_sk T (e := e) b.1
    show wq (f_Reader_sum_B12 F 38 (fun v1 v2 M => kH (v1, v2, M)) v1 v2 N) _
    unfold f_Reader_sum_B12
    rw [i32_id (x := 1600) (by decide) (by decide), i32_id (x := v2) (by omega) (by omega)]
    refine wq_if (fun c => wq_some ⟨Or.inr ⟨rfl, k', p', g', D, C', d2, y2, l3, hD, l5, ?_⟩, q3⟩) (fun c => ?_)
    · refine ⟨n2, ?_⟩
      rw [bte_out (by omega)]
      exact ⟨by decide, by decide⟩
    obtain ⟨t1, t2⟩ := tw_app hD hW
    have hone : ∀ (c v x : Int) (M' : Mm), bte T e (sk T e p') = c → (c = 43 ∧ v = 1 ∧ x = -10) ∨ (c = 45 ∧ v = 2 ∧ x = -11) → Sc T e (sk T e p' + 1) g' M' → Fr scL N M' → wq (f_Reader_sum_J54 F 38 (fun v1 v2 M => kH (v1, v2, M)) v1 v2 x M') (fun q => Qot opQ nxA T e p v1 W R q ∧ Fr ytA M q.2) := by
      intro c v x M' hc hv hs1 hf1
      have hl := bte_lt (T := T) (e := e) (k := sk T e p') (by omega) (by omega)
      cases k' with
      | zero => cases d2
      | succ k' =>
        have hx : trC v = x ∧ -20 ≤ x ∧ x ≤ -10 ∧ v ≤ 50 ∧ opQ v = true ∧ mulQ v = false := by
          rcases hv with ⟨-, h2, h3⟩ | ⟨-, h2, h3⟩
          · subst h2 h3; exact ⟨by decide, by decide, by decide, by decide, by decide, by decide⟩
          · subst h2 h3; exact ⟨by decide, by decide, by decide, by decide, by decide, by decide⟩
        have d3 : dD false T e k' true (sk T e p' + 1) g' v1 (v :: W) (C' ++ D) = some R := by
          unfold dD at d2
          rw [hc, if_neg (by omega), if_neg (by omega), if_neg (by omega)] at d2
          rcases hv with ⟨h1, h2, h3⟩ | ⟨h1, h2, h3⟩
          · rw [if_pos h1, t1, t2] at d2
            rw [h2]; exact d2
          · rw [if_neg (by omega), if_pos h1, t1, t2] at d2
            rw [h2]; exact d2
        have hnv : noOf (v :: W) := noOf_of (by omega)
        have y3 := y2.sc hs1 hf1
        unfold f_Reader_sum_J54
        rw [i32_id (x := x) (by omega) (by omega)]
        refine wq_t (by omega) (wq_I (hF _ _ (v :: W) (C' ++ D) R k' M' y3 d3 (by rw [List.length_append, List.length_cons]; omega) (tw_n hx.2.2.2.2.2).1 hnv) (fun r2 M2 ⟨w, f2⟩ => ?_))
        have f2 : Fr ytA M M2 := q3.tr ((hf1.cov rfl : Fr ytA _ _).tr f2)
        rcases w with ⟨w1, w2⟩ | ⟨w1, k4, p4, g4, D4, C4, d4, y4, l6, hD4, l7, n4⟩
        · have w1 : r2 = 0 := w1
          rw [w1]
          exact wq_e (by decide) (wq_some ⟨Or.inl ⟨rfl, w2⟩, f2⟩)
        · have w1 : r2 = 1 := w1
          rw [w1]
          have y4 : Yt T e p4 g4 (C4 ++ D4) M2 := y4
          have b4 := y4.1.2.2.2.2.2.1
          rw [List.length_cons] at l7
          rw [ptr_38]
          refine wq_t (by decide) (wq_V (yt_add y4 (v := v) (by rw [List.length_append]; omega) hx.1 (by omega) (Or.inr (by omega))) (fun M3 ⟨y5, f3⟩ => hk _ ⟨rfl, show 0 ≤ v2 + 1 by omega, f2.tr (f3.cov rfl), k4, p4, g4, D4 ++ [v], C4, by rw [List.append_assoc]; exact d4, by rw [← List.append_assoc]; exact y5, by omega, show v2 + 1 ≤ p4 by omega, (fun u hu => ?_), by rw [List.length_append, List.length_singleton]; omega, n4⟩ (show (2000 - (v2 + 1)).toNat < (2000 - v2).toNat by omega)))
          rcases List.mem_append.mp hu with h | h
          · exact mul_op (hD4 u h)
          · rw [List.mem_singleton.mp h]; exact hx.2.2.2.2.1
    refine wq_I (s_takeSign hB y2.1 (by decide)) (fun r2 M2 ⟨c1, c2⟩ => ?_)
    have c2 : Fr [(1, 2)] N M2 := c2
    rcases c1 with ⟨e1, e2, e3⟩ | ⟨e1, e2, e3⟩
    · have e1 : r2 = 1 := e1
      rw [e1]
      exact wq_e (by decide) (hone 43 1 (-10) M2 e2 (Or.inl ⟨rfl, rfl, rfl⟩) e3 (c2.cov rfl))
    have e1 : r2 = 0 := e1
    rw [e1]
    refine wq_t (by decide) (wq_I (s_takeSign hB e3 (by decide)) (fun r3 M3 ⟨c3, c4⟩ => ?_))
    rw [hss] at c3
    have c5 : Fr scL N M3 := (c2.cov rfl : Fr scL _ _).tr (c4.cov rfl)
    rcases c3 with ⟨e4, e5, e6⟩ | ⟨e4, e5, e6⟩
    · have e4 : r3 = 1 := e4
      rw [e4]
      exact wq_e (by decide) (hone 45 2 (-11) M3 e5 (Or.inr ⟨rfl, rfl, rfl⟩) e6 c5)
    · have e4 : r3 = 0 := e4
      rw [e4]
      refine wq_t (by decide) ?_
      unfold f_Reader_sum_J54
      refine wq_e (by decide) (wq_some ⟨Or.inr ⟨rfl, k', sk T e p', g', D, C', ?_, y2.sc e6 c5, by omega, hD, by omega, ?_⟩, q3.tr (c5.cov rfl)⟩)
      · rw [dD_sk false T e k' false g' v1 (D ++ W) C' b.1]
        exact d2
      · rw [hss]
        exact ⟨n2, e2, e5⟩
  · show (2000 - (0 : Int)).toNat < 1000000000
    decide
end Zts
section Zqs
/-- behind a part -/
def Qq (T : Nat → Int) (e p o : Int) (W : List Int) (R : Out) (r : Int × Mm) : Prop := (r.1 = 0 ∧ Zb T e R r.2) ∨ (r.1 = 1 ∧ ∃ k p' g' C', dD true T e k false p' g' (o - (W.takeWhile ofQ).length) (W.dropWhile ofQ) (C' ++ W.takeWhile ofQ) = some R ∧ Yq T e p' g' C' r.2 ∧ p < p' ∧ C'.length + W.length + 1 ≤ p'.toNat)
/-- behind a product, a sum -/
def Qoq (q : Int → Bool) (nx : Int → Prop) (T : Nat → Int) (e p o : Int) (W : List Int) (R : Out) (r : Int × Mm) : Prop := (r.1 = 0 ∧ Zb T e R r.2) ∨ (r.1 = 1 ∧ ∃ k p' g' D C', dD true T e k false p' g' o (D ++ W) C' = some R ∧ Yq T e p' g' (C' ++ D) r.2 ∧ p < p' ∧ (∀ v ∈ D, q v = true) ∧ C'.length + D.length + W.length + 1 ≤ p'.toNat ∧ nx (bte T e (sk T e p')))
def SPartq (F : Nat → Nat → Int → Mm → Option (Int × Mm)) (T : Nat → Int) (e o : Int) : Prop := ∀ (p g : Int) (W C : List Int) (R : Out) (k : Nat) (M : Mm), Yq T e p g C M → dD true T e k true p g o W C = some R → C.length + W.length + 1 ≤ p.toNat → wq (F 2 76 o M) (fun q => Qq T e p o W R q ∧ Fr yqA M q.2)
def SProdq (F : Nat → Nat → Int → Mm → Option (Int × Mm)) (T : Nat → Int) (e o : Int) : Prop := ∀ (p g : Int) (W C : List Int) (R : Out) (k : Nat) (M : Mm), Yq T e p g C M → dD true T e k true p g o W C = some R → C.length + W.length + 1 ≤ p.toNat → W.takeWhile mulQ = [] → noOf W → wq (F 1 76 o M) (fun q => Qoq mulQ nxM T e p o W R q ∧ Fr yqA M q.2)
def SSumq (F : Nat → Nat → Int → Mm → Option (Int × Mm)) (T : Nat → Int) (e o : Int) : Prop := ∀ (p g : Int) (W C : List Int) (R : Out) (k : Nat) (M : Mm), Yq T e p g C M → dD true T e k true p g o W C = some R → C.length + W.length + 1 ≤ p.toNat → W.takeWhile opQ = [] → noOf W → wq (F 0 76 o M) (fun q => Qoq opQ nxA T e p o W R q ∧ Fr yqA M q.2)
variable {T : Nat → Int} {e o : Int} {F : Nat → Nat → Int → Mm → Option (Int × Mm)}
theorem yq_prod (hB : Bt T e) (ho : 0 ≤ o ∧ o ≤ 6) (hF : SPartq F T e o) (p g : Int) (W C : List Int) (R : Out) (k : Nat) (M : Mm) (hY : Yq T e p g C M) (hd : dD true T e k true p g o W C = some R) (hlen : C.length + W.length + 1 ≤ p.toNat) (hW : W.takeWhile mulQ = []) (hn : noOf W) : wq (f_Reader_product F 76 o M) (fun q => Qoq mulQ nxM T e p o W R q ∧ Fr yqA M q.2) := by
  have hh := hB.1
  unfold f_Reader_product
  refine wq_I (hF p g W C R k M hY hd hlen) (fun r M1 ⟨z, f⟩ => ?_)
  have f : Fr yqA M M1 := f
  rcases z with ⟨z1, z2⟩ | ⟨z1, k1, p1, g1, C1, d1, y1, l1, l2⟩
  · have z1 : r = 0 := z1
    rw [z1]
    exact wq_e (by decide) (wq_some ⟨Or.inl ⟨rfl, z2⟩, f⟩)
  have z1 : r = 1 := z1
  rw [z1]
  refine wq_t (by decide) ?_
  have hn' : W.takeWhile ofQ = [] := hn
  rw [hn', noOf_dw hn, List.append_nil, show o - ((([] : List Int).length : Nat) : Int) = o by show o - ((0 : Nat) : Int) = o; omega] at d1
  have y1 : Yq T e p1 g1 C1 M1 := y1
  have b1 := y1.1.2.2.2.2.2.1
  unfold f_Reader_product_L12
  refine wq_lp (fun z => z.1 = o ∧ 0 ≤ z.2.1 ∧ Fr yqA M z.2.2 ∧ ∃ k p' g' D C', dD true T e k false p' g' o (D ++ W) C' = some R ∧ Yq T e p' g' (C' ++ D) z.2.2 ∧ p < p' ∧ z.2.1 ≤ p' ∧ (∀ v ∈ D, mulQ v = true) ∧ C'.length + D.length + W.length + 1 ≤ p'.toNat) (fun z => (2000 - z.2.1).toNat) ?_ FU _ ⟨rfl, Int.le_refl _, f, k1, p1, g1, [], C1, d1, by rw [List.append_nil]; exact y1, l1, b1.1, (fun v hv => by cases hv), by simpa using l2⟩ ?_
  · rintro kH ⟨v1, v2, N⟩ ⟨q1, q2, q3, k', p', g', D, C', d2, y2, l3, l4, hD, l5⟩ hk
    have q1 : v1 = o := q1
    have q2 : 0 ≤ v2 := q2
    have q3 : Fr yqA M N := q3
    have l4 : v2 ≤ p' := l4
    have y2 : Yq T e p' g' (C' ++ D) N := y2
    subst q1
    have b := y2.1.2.2.2.2.2.1
    have hs := sk_rng T b.1 b.2
    have hss := sk_sk T (e := e) b.1
    show wq (f_Reader_product_B12 F 76 (fun v1 v2 M => kH (v1, v2, M)) v1 v2 N) _
    unfold f_Reader_product_B12
    rw [i32_id (x := 1600) (by decide) (by decide), i32_id (x := v2) (by omega) (by omega)]
    refine wq_if (fun c => wq_some ⟨Or.inr ⟨rfl, k', p', g', D, C', d2, y2, l3, hD, l5, ?_⟩, q3⟩) (fun c => ?_)
    · rw [bte_out (by omega)]
      exact ⟨by decide, by decide⟩
    obtain ⟨t1, t2⟩ := tw_app hD hW
    have hone : ∀ (c v x : Int) (M' : Mm), bte T e (sk T e p') = c → (c = 42 ∧ v = 3 ∧ x = -12) ∨ (c = 47 ∧ v = 4 ∧ x = -13) → Sc T e (sk T e p' + 1) g' M' → Fr scL N M' → wq (f_Reader_product_J54 F 76 (fun v1 v2 M => kH (v1, v2, M)) v1 v2 x M') (fun q => Qoq mulQ nxM T e p v1 W R q ∧ Fr yqA M q.2) := by
      intro c v x M' hc hv hs1 hf1
      have hl := bte_lt (T := T) (e := e) (k := sk T e p') (by omega) (by omega)
      cases k' with
      | zero => cases d2
      | succ k' =>
        have hx : tqC v = x ∧ -20 ≤ x ∧ x ≤ -10 ∧ v ≤ 50 ∧ mulQ v = true := by
          rcases hv with ⟨-, h2, h3⟩ | ⟨-, h2, h3⟩
          · subst h2 h3; exact ⟨by decide, by decide, by decide, by decide, by decide⟩
          · subst h2 h3; exact ⟨by decide, by decide, by decide, by decide, by decide⟩
        have d3 : dD true T e k' true (sk T e p' + 1) g' v1 (v :: W) (C' ++ D) = some R := by
          unfold dD at d2
          rw [hc, if_neg (by omega)] at d2
          rcases hv with ⟨h1, h2, h3⟩ | ⟨h1, h2, h3⟩
          · rw [if_pos h1, t1, t2] at d2
            rw [h2]; exact d2
          · rw [if_neg (by omega), if_pos h1, t1, t2] at d2
            rw [h2]; exact d2
        have hnv : noOf (v :: W) := noOf_of (by omega)
        have hnv' : (v :: W).takeWhile ofQ = [] := hnv
        have y3 := y2.sc hs1 hf1
        unfold f_Reader_product_J54
        rw [i32_id (x := x) (by omega) (by omega)]
        refine wq_t (by omega) (wq_I (hF _ _ (v :: W) (C' ++ D) R k' M' y3 d3 (by rw [List.length_append, List.length_cons]; omega)) (fun r2 M2 ⟨w, f2⟩ => ?_))
        have f2 : Fr yqA M M2 := q3.tr ((hf1.cov rfl : Fr yqA _ _).tr f2)
        rcases w with ⟨w1, w2⟩ | ⟨w1, k4, p4, g4, C4, d4, y4, l6, l7⟩
        · have w1 : r2 = 0 := w1
          rw [w1]
          exact wq_e (by decide) (wq_some ⟨Or.inl ⟨rfl, w2⟩, f2⟩)
        · have w1 : r2 = 1 := w1
          rw [w1]
          rw [hnv', noOf_dw hnv, List.append_nil, show v1 - ((([] : List Int).length : Nat) : Int) = v1 by show v1 - ((0 : Nat) : Int) = v1; omega] at d4
          have y4 : Yq T e p4 g4 C4 M2 := y4
          have b4 := y4.1.2.2.2.2.2.1
          rw [List.length_cons] at l7
          rw [ptr_76]
          refine wq_t (by decide) (wq_V (yq_add y4 (v := v) (by omega) hx.1 (by omega) (Or.inr (by omega))) (fun M3 ⟨y5, f3⟩ => hk _ ⟨rfl, show 0 ≤ v2 + 1 by omega, f2.tr (f3.cov rfl), k4, p4, g4, [v], C4, d4, y5, by omega, show v2 + 1 ≤ p4 by omega, (fun u hu => by rw [List.mem_singleton.mp hu]; exact hx.2.2.2.2), by rw [List.length_singleton]; omega⟩ (show (2000 - (v2 + 1)).toNat < (2000 - v2).toNat by omega)))
    refine wq_I (s_takeSign hB y2.1 (by decide)) (fun r2 M2 ⟨c1, c2⟩ => ?_)
    have c2 : Fr [(1, 2)] N M2 := c2
    rcases c1 with ⟨e1, e2, e3⟩ | ⟨e1, e2, e3⟩
    · have e1 : r2 = 1 := e1
      rw [e1]
      exact wq_e (by decide) (hone 42 3 (-12) M2 e2 (Or.inl ⟨rfl, rfl, rfl⟩) e3 (c2.cov rfl))
    have e1 : r2 = 0 := e1
    rw [e1]
    refine wq_t (by decide) (wq_I (s_takeSign hB e3 (by decide)) (fun r3 M3 ⟨c3, c4⟩ => ?_))
    rw [hss] at c3
    have c5 : Fr scL N M3 := (c2.cov rfl : Fr scL _ _).tr (c4.cov rfl)
    rcases c3 with ⟨e4, e5, e6⟩ | ⟨e4, e5, e6⟩
    · have e4 : r3 = 1 := e4
      rw [e4]
      exact wq_e (by decide) (hone 47 4 (-13) M3 e5 (Or.inr ⟨rfl, rfl, rfl⟩) e6 c5)
    · have e4 : r3 = 0 := e4
      rw [e4]
      refine wq_t (by decide) ?_
      unfold f_Reader_product_J54
      refine wq_e (by decide) (wq_some ⟨Or.inr ⟨rfl, k', sk T e p', g', D, C', ?_, y2.sc e6 c5, by omega, hD, by omega, ?_⟩, q3.tr (c5.cov rfl)⟩)
      · rw [dD_sk true T e k' false g' v1 (D ++ W) C' b.1]
        exact d2
      · rw [hss]
        exact ⟨e2, e5⟩
  · show (2000 - (0 : Int)).toNat < 1000000000
    decide
theorem yq_sum (hB : Bt T e) (ho : 0 ≤ o ∧ o ≤ 6) (hF : SProdq F T e o) (p g : Int) (W C : List Int) (R : Out) (k : Nat) (M : Mm) (hY : Yq T e p g C M) (hd : dD true T e k true p g o W C = some R) (hlen : C.length + W.length + 1 ≤ p.toNat) (hW : W.takeWhile opQ = []) (hn : noOf W) : wq (f_Reader_sum F 76 o M) (fun q => Qoq opQ nxA T e p o W R q ∧ Fr yqA M q.2) := by
  have hh := hB.1
  have hWm : W.takeWhile mulQ = [] := by
    cases W with
    | nil => rfl
    | cons v W =>
      by_cases c : mulQ v = true
      · rw [(tw_y (mul_op c)).1] at hW
        cases hW
      · exact (tw_n (by simpa using c)).1
  unfold f_Reader_sum
  refine wq_I (hF p g W C R k M hY hd hlen hWm hn) (fun r M1 ⟨z, f⟩ => ?_)
  have f : Fr yqA M M1 := f
  rcases z with ⟨z1, z2⟩ | ⟨z1, k1, p1, g1, D1, C1, d1, y1, l1, hD1, l2, n1⟩
  · have z1 : r = 0 := z1
    rw [z1]
    exact wq_e (by decide) (wq_some ⟨Or.inl ⟨rfl, z2⟩, f⟩)
  have z1 : r = 1 := z1
  rw [z1]
  refine wq_t (by decide) ?_
  have y1 : Yq T e p1 g1 (C1 ++ D1) M1 := y1
  have b1 := y1.1.2.2.2.2.2.1
  unfold f_Reader_sum_L12
  refine wq_lp (fun z => z.1 = o ∧ 0 ≤ z.2.1 ∧ Fr yqA M z.2.2 ∧ ∃ k p' g' D C', dD true T e k false p' g' o (D ++ W) C' = some R ∧ Yq T e p' g' (C' ++ D) z.2.2 ∧ p < p' ∧ z.2.1 ≤ p' ∧ (∀ v ∈ D, opQ v = true) ∧ C'.length + D.length + W.length + 1 ≤ p'.toNat ∧ nxM (bte T e (sk T e p'))) (fun z => (2000 - z.2.1).toNat) ?_ FU _ ⟨rfl, Int.le_refl _, f, k1, p1, g1, D1, C1, d1, y1, l1, b1.1, (fun v hv => mul_op (hD1 v hv)), l2, n1⟩ ?_
  · rintro kH ⟨v1, v2, N⟩ ⟨q1, q2, q3, k', p', g', D, C', d2, y2, l3, l4, hD, l5, n2⟩ hk
    have q1 : v1 = o := q1
    have q2 : 0 ≤ v2 := q2
    have q3 : Fr yqA M N := q3
    have l4 : v2 ≤ p' := l4
    have y2 : Yq T e p' g' (C' ++ D) N := y2
    subst q1
    have b := y2.1.2.2.2.2.2.1
    have hs := sk_rng T b.1 b.2
    have hss := sk_sk T (e := e) b.1
    show wq (f_Reader_sum_B12 F 76 (fun v1 v2 M => kH (v1, v2, M)) v1 v2 N) _
    unfold f_Reader_sum_B12
    rw [i32_id (x := 1600) (by decide) (by decide), i32_id (x := v2) (by omega) (by omega)]
    refine wq_if (fun c => wq_some ⟨Or.inr ⟨rfl, k', p', g', D, C', d2, y2, l3, hD, l5, ?_⟩, q3⟩) (fun c => ?_)
    · refine ⟨n2, ?_⟩
      rw [bte_out (by omega)]
      exact ⟨by decide, by decide⟩
    obtain ⟨t1, t2⟩ := tw_app hD hW
    have hone : ∀ (c v x : Int) (M' : Mm), bte T e (sk T e p') = c → (c = 43 ∧ v = 1 ∧ x = -10) ∨ (c = 45 ∧ v = 2 ∧ x = -11) → Sc T e (sk T e p' + 1) g' M' → Fr scL N M' → wq (f_Reader_sum_J54 F 76 (fun v1 v2 M => kH (v1, v2, M)) v1 v2 x M') (fun q => Qoq opQ nxA T e p v1 W R q ∧ Fr yqA M q.2) := by
      intro c v x M' hc hv hs1 hf1
      have hl := bte_lt (T := T) (e := e) (k := sk T e p') (by omega) (by omega)
      cases k' with
      | zero => cases d2
      | succ k' =>
        have hx : tqC v = x ∧ -20 ≤ x ∧ x ≤ -10 ∧ v ≤ 50 ∧ opQ v = true ∧ mulQ v = false := by
          rcases hv with ⟨-, h2, h3⟩ | ⟨-, h2, h3⟩
          · subst h2 h3; exact ⟨by decide, by decide, by decide, by decide, by decide, by decide⟩
          · subst h2 h3; exact ⟨by decide, by decide, by decide, by decide, by decide, by decide⟩
        have d3 : dD true T e k' true (sk T e p' + 1) g' v1 (v :: W) (C' ++ D) = some R := by
          unfold dD at d2
          rw [hc, if_neg (by omega), if_neg (by omega), if_neg (by omega)] at d2
          rcases hv with ⟨h1, h2, h3⟩ | ⟨h1, h2, h3⟩
          · rw [if_pos h1, t1, t2] at d2
            rw [h2]; exact d2
          · rw [if_neg (by omega), if_pos h1, t1, t2] at d2
            rw [h2]; exact d2
        have hnv : noOf (v :: W) := noOf_of (by omega)
        have y3 := y2.sc hs1 hf1
        unfold f_Reader_sum_J54
        rw [i32_id (x := x) (by omega) (by omega)]
        refine wq_t (by omega) (wq_I (hF _ _ (v :: W) (C' ++ D) R k' M' y3 d3 (by rw [List.length_append, List.length_cons]; omega) (tw_n hx.2.2.2.2.2).1 hnv) (fun r2 M2 ⟨w, f2⟩ => ?_))
        have f2 : Fr yqA M M2 := q3.tr ((hf1.cov rfl : Fr yqA _ _).tr f2)
        rcases w with ⟨w1, w2⟩ | ⟨w1, k4, p4, g4, D4, C4, d4, y4, l6, hD4, l7, n4⟩
        · have w1 : r2 = 0 := w1
          rw [w1]
          exact wq_e (by decide) (wq_some ⟨Or.inl ⟨rfl, w2⟩, f2⟩)
        · have w1 : r2 = 1 := w1
          rw [w1]
          have y4 : Yq T e p4 g4 (C4 ++ D4) M2 := y4
          have b4 := y4.1.2.2.2.2.2.1
          rw [List.length_cons] at l7
          rw [ptr_76]
          refine wq_t (by decide) (wq_V (yq_add y4 (v := v) (by rw [List.length_append]; omega) hx.1 (by omega) (Or.inr (by omega))) (fun M3 ⟨y5, f3⟩ => hk _ ⟨rfl, show 0 ≤ v2 + 1 by omega, f2.tr (f3.cov rfl), k4, p4, g4, D4 ++ [v], C4, by rw [List.append_assoc]; exact d4, by rw [← List.append_assoc]; exact y5, by omega, show v2 + 1 ≤ p4 by omega, (fun u hu => ?_), by rw [List.length_append, List.length_singleton]; omega, n4⟩ (show (2000 - (v2 + 1)).toNat < (2000 - v2).toNat by omega)))
          rcases List.mem_append.mp hu with h | h
          · exact mul_op (hD4 u h)
          · rw [List.mem_singleton.mp h]; exact hx.2.2.2.2.1
    refine wq_I (s_takeSign hB y2.1 (by decide)) (fun r2 M2 ⟨c1, c2⟩ => ?_)
    have c2 : Fr [(1, 2)] N M2 := c2
    rcases c1 with ⟨e1, e2, e3⟩ | ⟨e1, e2, e3⟩
    · have e1 : r2 = 1 := e1
      rw [e1]
      exact wq_e (by decide) (hone 43 1 (-10) M2 e2 (Or.inl ⟨rfl, rfl, rfl⟩) e3 (c2.cov rfl))
    have e1 : r2 = 0 := e1
    rw [e1]
    refine wq_t (by decide) (wq_I (s_takeSign hB e3 (by decide)) (fun r3 M3 ⟨c3, c4⟩ => ?_))
    rw [hss] at c3
    have c5 : Fr scL N M3 := (c2.cov rfl : Fr scL _ _).tr (c4.cov rfl)
    rcases c3 with ⟨e4, e5, e6⟩ | ⟨e4, e5, e6⟩
    · have e4 : r3 = 1 := e4
      rw [e4]
      exact wq_e (by decide) (hone 45 2 (-11) M3 e5 (Or.inr ⟨rfl, rfl, rfl⟩) e6 c5)
    · have e4 : r3 = 0 := e4
      rw [e4]
      refine wq_t (by decide) ?_
      unfold f_Reader_sum_J54
      refine wq_e (by decide) (wq_some ⟨Or.inr ⟨rfl, k', sk T e p', g', D, C', ?_, y2.sc e6 c5, by omega, hD, by omega, ?_⟩, q3.tr (c5.cov rfl)⟩)
      · rw [dD_sk true T e k' false g' v1 (D ++ W) C' b.1]
        exact d2
      · rw [hss]
        exact ⟨n2, e2, e5⟩
  · show (2000 - (0 : Int)).toNat < 1000000000
    decide
end Zqs
