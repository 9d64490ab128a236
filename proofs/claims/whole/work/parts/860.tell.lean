def cntL (w : Int → Int) : List Int → Int → Int
  | [], _ => 0
  | x :: L, v => (if w x = v then 1 else 0) + cntL w L v
theorem cntL_snoc (w : Int → Int) (x v : Int) : ∀ L : List Int, cntL w (L ++ [x]) v = cntL w L v + if w x = v then 1 else 0
  | [] => by simp [cntL]
  | y :: L => by simp only [List.cons_append, cntL, cntL_snoc w x v L]; omega
theorem cntL_rng (w : Int → Int) (v : Int) : ∀ L : List Int, 0 ≤ cntL w L v ∧ cntL w L v ≤ L.length
  | [] => ⟨Int.le_refl _, by simp [cntL]⟩
  | y :: L => by have := cntL_rng w v L; simp only [cntL, List.length_cons]; split <;> omega
/-- the most that look alike -/
def isMo (w : Int → Int) (L : List Int) (r : Int) : Prop := (∀ v, cntL w L v ≤ r) ∧ ∃ v, cntL w L v = r
theorem isMo_un {w : Int → Int} {L : List Int} {r r' : Int} (h : isMo w L r) (h' : isMo w L r') : r = r' := by
  obtain ⟨v, e⟩ := h.2
  obtain ⟨v', e'⟩ := h'.2
  have a := h.1 v'
  have b := h'.1 v
  omega
theorem isMo_nil (w : Int → Int) : isMo w [] 0 := ⟨fun _ => Int.le_refl _, 0, rfl⟩
theorem isMo_snoc {w : Int → Int} {L : List Int} {r x : Int} (h : isMo w L r) : isMo w (L ++ [x]) (if r < cntL w L (w x) + 1 then cntL w L (w x) + 1 else r) := by
  obtain ⟨h1, v, h2⟩ := h
  have hx := h1 (w x)
  refine ⟨fun u => ?_, ?_⟩
  · rw [cntL_snoc]
    have := h1 u
    by_cases c : w x = u
    · subst c; rw [if_pos rfl]; split <;> omega
    · rw [if_neg c]; split <;> omega
  · by_cases c : r < cntL w L (w x) + 1
    · rw [if_pos c]; exact ⟨w x, by rw [cntL_snoc, if_pos rfl]⟩
    · rw [if_neg c]
      by_cases d : w x = v
      · exact ⟨v, by rw [cntL_snoc, if_pos d]; subst d; omega⟩
      · exact ⟨v, by rw [cntL_snoc, if_neg d]; omega⟩
theorem isMo_rng {w : Int → Int} {L : List Int} {r : Int} (h : isMo w L r) : 0 ≤ r ∧ r ≤ L.length := by
  obtain ⟨h1, v, h2⟩ := h
  have := cntL_rng w v L
  omega
theorem isMo_pos {w : Int → Int} {L : List Int} {r : Int} (h : isMo w L r) (hL : L ≠ []) : 1 ≤ r := by
  match L, hL with
  | x :: L, _ =>
    have := h.1 (w x)
    have := (cntL_rng w (w x) L).1
    simp only [cntL, if_pos] at *
    omega
def tlL : List (Nat × Nat) := [(68, 99999), (69, 99999), (18, 99999), (47, 99999)]
theorem s_mostAlike {V M : Mm} (hT : Tw V) (h : Cl V M) {s hour : Int} {L : List Int} (h1 : 0 ≤ s) (h2 : s < nS V) (h3 : 0 ≤ hour) (h4 : hour ≤ 1000000) (hL : L.length ≤ 48) (hL2 : ∀ x ∈ L, 0 ≤ x ∧ x < 48) (hm : ∀ (k : Nat) x, L[k]? = some x → M 68 k = x) : wq (f_Seen_mostAlike s hour (L.length : Int) M) (fun q => isMo (wdt V s hour) L q.1 ∧ Cl V q.2 ∧ Fr [(69, 99999), (18, 99999), (47, 99999)] M q.2) := by
  have hS := hT.2.1
  unfold f_Seen_mostAlike
  refine wq_V (s_fill (n := 100) 0 M rfl (by decide)) (fun M1 ⟨f1, f2⟩ => ?_)
  unfold f_Seen_mostAlike_L14
  refine wq_lp (fun z => z.1 = s ∧ z.2.1 = hour ∧ z.2.2.1 = (L.length : Int) ∧ (0 ≤ z.2.2.2.2.1 ∧ z.2.2.2.2.1 ≤ (L.length : Int)) ∧ isMo (wdt V s hour) (L.take z.2.2.2.2.1.toNat) z.2.2.2.1 ∧ (∀ v : Nat, v < 100 → z.2.2.2.2.2 69 v = cntL (wdt V s hour) (L.take z.2.2.2.2.1.toNat) v) ∧ Cl V z.2.2.2.2.2 ∧ Fr [(69, 99999), (18, 99999), (47, 99999)] M z.2.2.2.2.2) (fun z => ((L.length : Int) - z.2.2.2.2.1).toNat) ?_ FU _ ?_ ?_
  · rintro kH ⟨v1, v2, v3, v4, v5, N⟩ ⟨q1, q2, q3, q4, q5, q6, q7, q8⟩ hk
    have e1 : v1 = s := q1
    have e2 : v2 = hour := q2
    have e3 : v3 = (L.length : Int) := q3
    subst e1 e2 e3
    have e4 : 0 ≤ v5 ∧ v5 ≤ (L.length : Int) := q4
    have e5 : isMo (wdt V v1 v2) (L.take v5.toNat) v4 := q5
    have e6 : ∀ v : Nat, v < 100 → N 69 v = cntL (wdt V v1 v2) (L.take v5.toNat) v := q6
    have e7 : Cl V N := q7
    have e8 : Fr [(69, 99999), (18, 99999), (47, 99999)] M N := q8
    clear q1 q2 q3 q4 q5 q6 q7 q8
    have hmo := isMo_rng e5
    rw [List.length_take] at hmo
    show wq (f_Seen_mostAlike_B14 (fun v1 v2 v3 v4 v5 M => kH (v1, v2, v3, v4, v5, M)) v1 v2 (L.length : Int) v4 v5 N) _
    unfold f_Seen_mostAlike_B14
    rw [i32_id (x := (L.length : Int)) (by omega) (by omega), i32_id (x := v5) (by omega) (by omega)]
    refine wq_if (fun c => wq_some ⟨?_, e7, e8⟩) (fun c => ?_)
    · rw [List.take_of_length_le (by omega)] at e5; exact e5
    have hlt : v5.toNat < L.length := by omega
    obtain ⟨x, hx⟩ : ∃ x, L[v5.toNat]? = some x := ⟨L[v5.toNat], List.getElem?_eq_getElem hlt⟩
    have hxr := hL2 x (List.mem_of_getElem? hx)
    have e68 : N 68 v5.toNat = x := by rw [e8.row 68 rfl]; exact hm _ _ hx
    have htk : L.take (v5 + 1).toNat = L.take v5.toNat ++ [x] := by
      rw [show (v5 + 1).toNat = v5.toNat + 1 by omega, List.take_add_one, hx]
      rfl
    rw [e_cell_in (n := 48) N rfl (by decide) e4.1 (by omega), bI_s, e68]
    refine wq_I (s_cWidthBy hT e7 h1 h2 h3 h4 hxr.1 (by omega)) (fun r M2 ⟨a1, a2, a3⟩ => ?_)
    have a1 : r = wdt V v1 v2 x := a1
    have hw := wdt_rng V v1 v2 x
    have a3 : Fr wcL N M2 := a3
    have F2 : Fr [(69, 99999), (18, 99999), (47, 99999)] M M2 := e8.tr (a3.cov rfl)
    have e69 : ∀ v : Nat, v < 100 → M2 69 v = cntL (wdt V v1 v2) (L.take v5.toNat) v := fun v hv => by rw [a3.row 69 rfl]; exact e6 v hv
    have hcr := cntL_rng (wdt V v1 v2) (wdt V v1 v2 x) (L.take v5.toNat)
    rw [List.length_take] at hcr
    have er : M2 69 r.toNat = cntL (wdt V v1 v2) (L.take v5.toNat) (wdt V v1 v2 x) := by
      rw [e69 r.toNat (by omega), show ((r.toNat : Nat) : Int) = wdt V v1 v2 x by omega]
    rw [e_cell_in (n := 100) M2 rfl (by decide) (by omega) (by omega), bI_s, e_set (n := 100) M2 rfl (by decide) (by omega) (by omega), bV_s, e_cell_in (n := 100) _ rfl (by decide) (by omega) (by omega), bI_s, up_eq, er, e_max _ (by omega) (by omega) (by omega) (by omega), bI_s]
    refine hk _ ⟨rfl, rfl, rfl, ⟨show 0 ≤ v5 + 1 by omega, show v5 + 1 ≤ (L.length : Int) by omega⟩, ?_, fun v hv => ?_, a2.fr (l := [(69, 99999)]) (Fr.rf.up (by simp)) rfl rfl rfl, F2.up (by simp)⟩ (show ((L.length : Int) - (v5 + 1)).toNat < ((L.length : Int) - v5).toNat by omega)
    · show isMo (wdt V v1 v2) (L.take (v5 + 1).toNat) _
      rw [htk]
      exact isMo_snoc e5
    · show up M2 69 r.toNat (cntL (wdt V v1 v2) (L.take v5.toNat) (wdt V v1 v2 x) + 1) 69 v = cntL (wdt V v1 v2) (L.take (v5 + 1).toNat) v
      rw [htk, cntL_snoc, up_at]
      by_cases cv : v = r.toNat
      · have : (v : Int) = wdt V v1 v2 x := by omega
        rw [if_pos ⟨rfl, cv⟩, if_pos this.symm, this]
      · rw [if_neg (fun z => cv z.2), if_neg (by omega), e69 v hv]
        omega
  · exact ⟨rfl, rfl, rfl, ⟨Int.le_refl _, by show (0 : Int) ≤ _; omega⟩, isMo_nil _, fun v hv => f1 v hv, h.fr (l := [(69, 99999)]) f2 rfl rfl rfl, f2.cov rfl⟩
  · show ((L.length : Int) - 0).toNat < 1000000000
    omega
/-- the hour that tells most, of n -/
def isTl (V : Mm) (s : Int) (L : List Int) (n b f : Int) : Prop := (hr V ≤ b ∧ b < hr V + n) ∧ isMo (wdt V s b) L f ∧ (∀ h m, hr V ≤ h → h < b → isMo (wdt V s h) L m → f < m) ∧ ∀ h m, hr V ≤ h → h < hr V + n → isMo (wdt V s h) L m → f ≤ m
theorem isTl_un {V : Mm} {s n b b' f f' : Int} {L : List Int} (h : isTl V s L n b f) (h' : isTl V s L n b' f') : b = b' ∧ f = f' := by
  obtain ⟨h1, h2, h3, h4⟩ := h
  obtain ⟨g1, g2, g3, g4⟩ := h'
  have a := h4 b' f' g1.1 g1.2 g2
  have c := g4 b f h1.1 h1.2 h2
  refine ⟨?_, by omega⟩
  rcases Int.lt_trichotomy b b' with z | z | z
  · have := g3 b f h1.1 z h2; omega
  · exact z
  · have := h3 b' f' g1.1 z g2; omega
/-- the state of the search behind k hours; d is what stands for none -/
def tlS (V : Mm) (s : Int) (L : List Int) (k b f : Int) : Prop := (k = 0 ∧ b = -1) ∨ isTl V s L k b f
theorem tlS_step {V : Mm} {s k b f m : Int} {L : List Int} (hk : 0 ≤ k) (h : tlS V s L k b f) (hm : isMo (wdt V s (hr V + k)) L m) : ((b = -1 ∧ k = 0 ∨ m < f ∧ b ≠ -1 ∨ m < f ∧ k ≠ 0) → tlS V s L (k + 1) (hr V + k) m) ∧ ((k ≠ 0 ∧ f ≤ m) → tlS V s L (k + 1) b f) := by
  constructor
  · intro c
    right
    rcases h with ⟨h1, h2⟩ | ⟨h1, h2, h3, h4⟩
    · subst h1
      refine ⟨by omega, hm, fun h' m' z1 z2 => by omega, fun h' m' z1 z2 z3 => ?_⟩
      have e : h' = hr V + 0 := by omega
      subst e
      have := isMo_un hm z3
      omega
    · refine ⟨by omega, hm, fun h' m' z1 z2 z3 => ?_, fun h' m' z1 z2 z3 => ?_⟩
      · have := h4 h' m' z1 z2 z3
        omega
      · by_cases e : h' = hr V + k
        · subst e
          have := isMo_un hm z3
          omega
        · have := h4 h' m' z1 (by omega) z3
          omega
  · intro c
    right
    rcases h with ⟨h1, h2⟩ | ⟨h1, h2, h3, h4⟩
    · exact absurd h1 c.1
    · refine ⟨by omega, h2, h3, fun h' m' z1 z2 z3 => ?_⟩
      by_cases e : h' = hr V + k
      · subst e
        have := isMo_un hm z3
        omega
      · exact h4 h' m' z1 (by omega) z3
def tlA (V : Mm) (s k r : Int) : Prop := ∃ L, flR V s (rd V s).toNat L ∧ ((L = [] ∧ r = -1) ∨ (L ≠ [] ∧ ∃ b f, isTl V s L (rd V s) b f ∧ r = if k = 0 then b else f))
theorem tlA_un {V : Mm} {s k r r' : Int} (h : tlA V s k r) (h' : tlA V s k r') : r = r' := by
  obtain ⟨L, l1, l2⟩ := h
  obtain ⟨L', l1', l2'⟩ := h'
  have e := flR_un _ _ _ l1 l1'
  subst e
  rcases l2 with ⟨a1, a2⟩ | ⟨a1, b, f, a2, a3⟩ <;> rcases l2' with ⟨c1, c2⟩ | ⟨c1, b', f', c2, c3⟩
  · rw [a2, c2]
  · exact absurd a1 c1
  · exact absurd c1 a1
  · obtain ⟨e1, e2⟩ := isTl_un a2 c2
    rw [a3, c3, e1, e2]
theorem s_tellingHour {V M : Mm} (hT : Tw V) (hN : Nw V) (h : Cl V M) (hv : sV V) (hs : sC V M) {s k : Int} (h1 : 0 ≤ s) (h2 : s < nS V) (hk0 : k = 0 ∨ k = 1) : wq (f_Seen_tellingHour s k M) (fun q => tlA V s k q.1 ∧ Cl V q.2 ∧ Fr tlL M q.2) := by
  have hS := hT.2.1
  have hh := hN.1
  obtain ⟨-, -, -, -, ⟨r1, r2⟩, -⟩ := hT.2.2.2.1 s h1 h2
  unfold f_Seen_tellingHour
  refine wq_I (s_findShifts hT h hv hs h1 h2) (fun r M1 ⟨⟨L, a1, a2, a3⟩, a4, a5⟩ => ?_)
  have a2 : r = (L.length : Int) := a2
  have a3 : ∀ (k : Nat) x, L[k]? = some x → M1 68 k = x := a3
  have a4 : Cl V M1 := a4
  have a5 : Fr shL M M1 := a5
  obtain ⟨l1, l2⟩ := flR_rng _ _ a1
  rw [i32_id (x := r) (by omega) (by omega)]
  by_cases c : r = 0
  · exact wq_e (fun z => z c) (wq_some ⟨⟨L, a1, Or.inl ⟨List.eq_nil_of_length_eq_zero (by omega), rfl⟩⟩, a4, a5.cov rfl⟩)
  · refine wq_t c ?_
    have hne : L ≠ [] := by intro z; subst z; simp at a2; omega
    rw [a2, a4.2.1.1]
    unfold f_Seen_tellingHour_L28
    refine wq_lp (fun z => z.1 = s ∧ z.2.1 = k ∧ z.2.2.1 = (L.length : Int) ∧ (hr V ≤ z.2.2.2.2.2.1 ∧ z.2.2.2.2.2.1 ≤ hr V + rd V s) ∧ tlS V s L (z.2.2.2.2.2.1 - hr V) z.2.2.2.1 z.2.2.2.2.1 ∧ (0 ≤ z.2.2.2.2.1 ∧ z.2.2.2.2.1 ≤ 1000000 ∧ (z.2.2.2.2.2.1 = hr V → z.2.2.2.2.1 = 1000000)) ∧ (∀ (k : Nat) x, L[k]? = some x → z.2.2.2.2.2.2 68 k = x) ∧ Cl V z.2.2.2.2.2.2 ∧ Fr tlL M z.2.2.2.2.2.2) (fun z => (hr V + rd V s - z.2.2.2.2.2.1).toNat) ?_ FU _ ?_ ?_
    · rintro kH ⟨v1, v2, v3, v4, v5, v6, N⟩ ⟨q1, q2, q3, q4, q5, q6, q7, q8, q9⟩ hk
      have e1 : v1 = s := q1
      have e2 : v2 = k := q2
      have e3 : v3 = (L.length : Int) := q3
      subst e1 e2 e3
      have e4 : hr V ≤ v6 ∧ v6 ≤ hr V + rd V v1 := q4
      have e5 : tlS V v1 L (v6 - hr V) v4 v5 := q5
      have e6 : 0 ≤ v5 ∧ v5 ≤ 1000000 ∧ (v6 = hr V → v5 = 1000000) := q6
      have e7 : ∀ (k : Nat) x, L[k]? = some x → N 68 k = x := q7
      have e8 : Cl V N := q8
      have e9 : Fr tlL M N := q9
      clear q1 q2 q3 q4 q5 q6 q7 q8 q9
      show wq (f_Seen_tellingHour_B28 (fun v1 v2 v3 v4 v5 v6 M => kH (v1, v2, v3, v4, v5, v6, M)) _ v1 v2 (L.length : Int) v4 v5 v6 N) _
      unfold f_Seen_tellingHour_B28
      have ek := (e8.1.2.1 v1 h1 h2).2.2.2.1
      rw [e_cell_in (n := 12) N rfl (by decide) h1 (by omega), bI_s, ek, e8.2.1.1, i32_id (x := hr V + rd V v1) (by omega) (by omega), i32_id (x := v6) (by omega) (by omega)]
      refine wq_if (fun g => ?_) (fun g => ?_)
      · dsimp only
        rcases e5 with ⟨z1, z2⟩ | z
        · omega
        · have hz : isTl V v1 L (rd V v1) v4 v5 := by
            rw [show v6 - hr V = rd V v1 by omega] at z; exact z
          rcases hk0 with d | d
          · subst d
            exact wq_e (fun z => z (by decide)) (wq_some ⟨⟨L, a1, Or.inr ⟨hne, v4, v5, hz, by rw [if_pos rfl]⟩⟩, e8, e9⟩)
          · subst d
            exact wq_t (by decide) (wq_some ⟨⟨L, a1, Or.inr ⟨hne, v4, v5, hz, by rw [if_neg (by decide)]⟩⟩, e8, e9⟩)
      · refine wq_I (s_mostAlike hT e8 h1 h2 (show 0 ≤ v6 by omega) (by omega) (by omega) (fun x hx => by have := l2 x hx; omega) e7) (fun m M2 ⟨b1, b2, b3⟩ => ?_)
        have b1 : isMo (wdt V v1 v6) L m := b1
        have b3 : Fr [(69, 99999), (18, 99999), (47, 99999)] N M2 := b3
        have hmr := isMo_rng b1
        have b1' : isMo (wdt V v1 (hr V + (v6 - hr V))) L m := by rw [show hr V + (v6 - hr V) = v6 by omega]; exact b1
        obtain ⟨t1, t2⟩ := tlS_step (by omega) e5 b1'
        rw [show v6 - hr V + 1 = v6 + 1 - hr V by omega, show hr V + (v6 - hr V) = v6 by omega] at t1
        rw [show v6 - hr V + 1 = v6 + 1 - hr V by omega] at t2
        have hnx : ∀ x y, tlS V v1 L (v6 + 1 - hr V) x y → 0 ≤ y ∧ y ≤ 1000000 → wq (kH (v1, v2, (L.length : Int), x, y, v6 + 1, M2)) (fun q => tlA V v1 v2 q.1 ∧ Cl V q.2 ∧ Fr tlL M q.2) := fun x y z1 z2 => hk _ ⟨rfl, rfl, rfl, ⟨show hr V ≤ v6 + 1 by omega, show v6 + 1 ≤ hr V + rd V v1 by omega⟩, z1, ⟨z2.1, z2.2, fun z => absurd z (by show ¬ v6 + 1 = hr V; omega)⟩, fun k x hx => by show M2 68 k = x; rw [b3.row 68 rfl]; exact e7 k x hx, b2, e9.tr (b3.cov rfl)⟩ (show (hr V + rd V v1 - (v6 + 1)).toNat < (hr V + rd V v1 - v6).toNat by omega)
        rw [i32_id (x := v5) (by omega) (by omega), i32_id (x := m) (by omega) (by omega)]
        refine wq_if (fun d => hnx v4 v5 (t2 ⟨by omega, d⟩) ⟨e6.1, e6.2.1⟩) (fun d => hnx v6 m (t1 ?_) (by omega))
        by_cases z : v6 - hr V = 0
        · rcases e5 with ⟨y1, y2⟩ | y
          · exact Or.inl ⟨y2, z⟩
          · have := y.1; omega
        · exact Or.inr (Or.inr ⟨by omega, z⟩)
    · exact ⟨rfl, rfl, rfl, ⟨Int.le_refl _, by show hr V ≤ hr V + rd V s; omega⟩, Or.inl ⟨by show hr V - hr V = 0; omega, rfl⟩, ⟨by show (0 : Int) ≤ 1000000; decide, by show (1000000 : Int) ≤ 1000000; decide, fun _ => rfl⟩, a3, a4, a5.cov rfl⟩
    · show (hr V + rd V s - hr V).toNat < 1000000000
      omega
