theorem s_narrow {V M : Mm} (hT : Tw V) (hN : Nw V) (h : Cl V M) {s b first e : Int} (h1 : 0 ≤ s) (h2 : s < nS V) (hb1 : -1000000 ≤ b) (hb2 : b ≤ 1000000) (h3 : 0 ≤ first) (h4 : first ≤ e) (h5 : e ≤ 900000) : wq (f_Ways_firstNarrow s b first e M) (fun q => isF (fun x => wid V s x < b) first (e - 1) (-1) q.1 ∧ Cl V q.2 ∧ Fr wcL M q.2) := by
  unfold f_Ways_firstNarrow f_Ways_firstNarrow_L3
  refine wq_lp (fun z => z.1 = s ∧ z.2.1 = b ∧ z.2.2.1 = e ∧ (first ≤ z.2.2.2.1 ∧ z.2.2.2.1 ≤ e) ∧ (∀ x : Int, first ≤ x → x < z.2.2.2.1 → ¬ wid V s x < b) ∧ Cl V z.2.2.2.2 ∧ Fr wcL M z.2.2.2.2) (fun z => (e - z.2.2.2.1).toNat) ?_ FU _ ?_ ?_
  · rintro kH ⟨v1, v2, v4, v5, N⟩ ⟨q1, q2, q3, q4, q5, q6, q7⟩ hk
    have e1 : v1 = s := q1
    have e2 : v2 = b := q2
    have e3 : v4 = e := q3
    have e4 : first ≤ v5 ∧ v5 ≤ e := q4
    have e5 : ∀ x : Int, first ≤ x → x < v5 → ¬ wid V s x < b := q5
    have e6 : Cl V N := q6
    have e7 : Fr wcL M N := q7
    clear q1 q2 q3 q4 q5 q6 q7
    show wq (f_Ways_firstNarrow_B3 (fun v1 v2 v4 v5 M => kH (v1, v2, v4, v5, M)) v1 v2 v4 v5 N) _
    rw [e1, e2, e3]
    unfold f_Ways_firstNarrow_B3
    rw [i32_id (x := e) (by omega) (by omega), i32_id (x := v5) (by omega) (by omega)]
    refine wq_if (fun c => wq_some ⟨Or.inl ⟨rfl, fun x x1 x2 => e5 x x1 (by omega)⟩, e6, e7⟩) (fun c => ?_)
    refine wq_I (s_cWidthAt hT hN e6 h1 h2 (show 0 ≤ v5 by omega) (by omega)) (fun r M2 ⟨a1, a2, a3⟩ => ?_)
    have a1 : r = wid V s v5 := a1
    have hw := wid_rng V s v5
    rw [i32_id (x := b) (by omega) (by omega), i32_id (x := r) (by omega) (by omega)]
    refine wq_if (fun d => ?_) (fun d => ?_)
    · refine hk _ ⟨rfl, rfl, rfl, ⟨show first ≤ v5 + 1 by omega, show v5 + 1 ≤ e by omega⟩, fun x x1 x2 => ?_, a2, e7.tr a3⟩ (show (e - (v5 + 1)).toNat < (e - v5).toNat by omega)
      have x2 : x < v5 + 1 := x2
      by_cases ex : x = v5
      · subst ex; omega
      · exact e5 x x1 (by omega)
    · exact wq_some ⟨Or.inr ⟨e4.1, by show v5 ≤ e - 1; omega, by show wid V s v5 < b; omega, e5⟩, a2, e7.tr a3⟩
  · exact ⟨rfl, rfl, rfl, ⟨Int.le_refl _, h4⟩, fun x x1 x2 => absurd x2 (by show ¬ x < first; omega), h, Fr.rf⟩
  · show (e - first).toNat < 1000000000
    omega
/-- a procession passes the streets of a way, told from its beginning -/
def paP (V : Mm) (b n : Int) : List (Int × Int) → Int → Prop
  | [], _ => True
  | x :: L, h => wfo V x.1 b h (tk V x.1 + n) ∧ paP V b n L (h + tk V x.1)
theorem drop_cons {α : Type} {L : List α} {k : Nat} {x : α} (h : L[k]? = some x) : L.drop k = x :: L.drop (k + 1) := by
  obtain ⟨hk, e⟩ := List.getElem?_eq_some_iff.mp h
  rw [List.drop_eq_getElem_cons hk, e]
theorem s_canParade {V M : Mm} (hT : Tw V) (hN : Nw V) (h : Cl V M) {b n hour : Int} {L : List (Int × Int)} (hs : stpC M L) (hL : L.length ≤ 8) (hm : ∀ x ∈ L, 0 ≤ x.1 ∧ x.1 < nS V) (hb1 : -1000000 ≤ b) (hb2 : b ≤ 1000000) (hn1 : 0 ≤ n) (hn2 : n ≤ 48) (h3 : 0 ≤ hour) (h4 : hour ≤ 100000) : wq (f_Ways_canParade b n hour M) (fun q => tf q.1 (paP V b n L hour) ∧ stpC q.2 L ∧ Cl V q.2 ∧ Fr wcL M q.2) := by
  have hS := hT.2.1
  unfold f_Ways_canParade f_Ways_canParade_L6
  refine wq_lp (fun z => z.1 = b ∧ z.2.1 = n ∧ (0 ≤ z.2.2.2.1 ∧ z.2.2.2.1 ≤ (L.length : Int)) ∧ (0 ≤ z.2.2.1 ∧ z.2.2.1 ≤ 100000 + 4 * z.2.2.2.1) ∧ (paP V b n L hour ↔ paP V b n (L.drop z.2.2.2.1.toNat) z.2.2.1) ∧ stpC z.2.2.2.2 L ∧ Cl V z.2.2.2.2 ∧ Fr wcL M z.2.2.2.2) (fun z => ((L.length : Int) - z.2.2.2.1).toNat) ?_ FU _ ?_ ?_
  · rintro kH ⟨v1, v2, v4, v5, N⟩ ⟨q1, q2, q3, q4, q5, q6, q7, q8⟩ hk
    have e1 : v1 = b := q1
    have e2 : v2 = n := q2
    have e3 : 0 ≤ v5 ∧ v5 ≤ (L.length : Int) := q3
    have e4 : 0 ≤ v4 ∧ v4 ≤ 100000 + 4 * v5 := q4
    have e5 : paP V b n L hour ↔ paP V b n (L.drop v5.toNat) v4 := q5
    have e6 : stpC N L := q6
    have e7 : Cl V N := q7
    have e8 : Fr wcL M N := q8
    clear q1 q2 q3 q4 q5 q6 q7 q8
    show wq (f_Ways_canParade_B6 (fun v1 v2 v4 v5 M => kH (v1, v2, v4, v5, M)) v1 v2 v4 v5 N) _
    rw [e1, e2]
    unfold f_Ways_canParade_B6
    rw [e6.1, i32_id (x := (L.length : Int)) (by omega) (by omega), i32_id (x := v5) (by omega) (by omega)]
    refine wq_if (fun c => ?_) (fun c => ?_)
    · rw [List.drop_eq_nil_of_le (by omega)] at e5
      exact wq_some ⟨Or.inl ⟨rfl, e5.mpr trivial⟩, e6, e7, e8⟩
    have hx : L[v5.toNat]? = some (L[v5.toNat]'(by omega)) := List.getElem?_eq_getElem _
    generalize hxv : L[v5.toNat]'(by omega) = x at hx
    have hxm := hm x (List.mem_of_getElem? hx)
    have hx1 := (e6.2 _ _ hx).1
    have htk := (hT.2.2.2.1 x.1 hxm.1 hxm.2).2.2.2.1
    have ek := (e7.1.2.1 x.1 hxm.1 hxm.2).2.2.1
    rw [drop_cons hx] at e5
    rw [e_cell_in (n := 9) N rfl (by decide) e3.1 (by omega), bI_s, hx1, e_cell_in (n := 12) N rfl (by decide) hxm.1 (by omega), bI_s, ek]
    refine wq_I (s_narrow hT hN e7 hxm.1 hxm.2 hb1 hb2 e4.1 (show v4 ≤ (v4 + tk V x.1) + n by omega) (by omega)) (fun r M2 ⟨a1, a2, a3⟩ => ?_)
    have a1 : isF (fun y => wid V x.1 y < b) v4 ((v4 + tk V x.1) + n - 1) (-1) r := a1
    have a3 : Fr wcL N M2 := a3
    have hst : stpC M2 L := by
      unfold stpC
      rw [a3.row 48 rfl, a3.row 50 rfl, a3.row 51 rfl]
      exact e6
    rcases a1 with ⟨b1, b2⟩ | ⟨b1, b2, b3, b4⟩
    · subst b1
      refine wq_t rfl (hk _ ⟨rfl, rfl, ⟨show 0 ≤ v5 + 1 by omega, show v5 + 1 ≤ (L.length : Int) by omega⟩, ⟨show 0 ≤ v4 + tk V x.1 by omega, show v4 + tk V x.1 ≤ 100000 + 4 * (v5 + 1) by omega⟩, ?_, hst, a2, e8.tr a3⟩ (show ((L.length : Int) - (v5 + 1)).toNat < ((L.length : Int) - v5).toNat by omega))
      show paP V b n L hour ↔ paP V b n (L.drop (v5 + 1).toNat) (v4 + tk V x.1)
      rw [e5, show (v5 + 1).toNat = v5.toNat + 1 by omega]
      constructor
      · exact fun z => z.2
      · refine fun z => ⟨fun k k1 k2 => ?_, z⟩
        have := b2 (v4 + k) (by omega) (by omega)
        omega
    · rw [i32_id (x := r) (by omega) (by omega), i32_id (x := -1) (by omega) (by omega)]
      refine wq_e (by omega) (wq_some ⟨Or.inr ⟨rfl, fun z => ?_⟩, hst, a2, e8.tr a3⟩)
      have := (e5.mp z).1 (r - v4) (by omega) (by omega)
      rw [show v4 + (r - v4) = r by omega] at this
      have b3 : wid V x.1 r < b := b3
      omega
  · exact ⟨rfl, rfl, ⟨Int.le_refl _, by show (0 : Int) ≤ _; omega⟩, ⟨h3, by show hour ≤ 100000 + 4 * 0; omega⟩, Iff.rfl, hs, h, Fr.rf⟩
  · show ((L.length : Int) - 0).toNat < 1000000000
    omega
theorem s_isParade {V M : Mm} (hT : Tw V) (hN : Nw V) (h : Rm V M) {w n hour : Int} {L : List (Int × Int)} (hs : stpM M L) (hL : L.length ≤ 8) (hm : ∀ x ∈ L, 0 ≤ x.1 ∧ x.1 < nS V) (h1 : 0 ≤ w) (h2 : w < nW V) (hn1 : 0 ≤ n) (hn2 : n ≤ 48) (h3 : 0 ≤ hour) (h4 : hour ≤ 100000) : wq (f_M_isParade w n hour M) (fun q => tf q.1 (paP V (br V w) n L.reverse hour) ∧ stpM q.2 L ∧ Rm V q.2 ∧ Fr wsL M q.2) := by
  have hS := hT.2.1
  have hW := hT.2.2.1
  have hb := (hT.2.2.2.2 w h1 h2).1
  unfold f_M_isParade f_M_isParade_L11
  rw [hs.1]
  refine wq_lp (fun z => z.1 = w ∧ z.2.1 = n ∧ (-1 ≤ z.2.2.2.1 ∧ z.2.2.2.1 < (L.length : Int)) ∧ (0 ≤ z.2.2.1 ∧ z.2.2.1 ≤ 100000 + 4 * ((L.length : Int) - 1 - z.2.2.2.1)) ∧ (paP V (br V w) n L.reverse hour ↔ paP V (br V w) n (L.reverse.drop ((L.length : Int) - 1 - z.2.2.2.1).toNat) z.2.2.1) ∧ stpM z.2.2.2.2 L ∧ Rm V z.2.2.2.2 ∧ Fr wsL M z.2.2.2.2) (fun z => (z.2.2.2.1 + 1).toNat) ?_ FU _ ?_ ?_
  · rintro kH ⟨v1, v2, v4, v5, N⟩ ⟨q1, q2, q3, q4, q5, q6, q7, q8⟩ hk
    have e1 : v1 = w := q1
    have e2 : v2 = n := q2
    have e3 : -1 ≤ v5 ∧ v5 < (L.length : Int) := q3
    have e4 : 0 ≤ v4 ∧ v4 ≤ 100000 + 4 * ((L.length : Int) - 1 - v5) := q4
    have e5 : paP V (br V w) n L.reverse hour ↔ paP V (br V w) n (L.reverse.drop ((L.length : Int) - 1 - v5).toNat) v4 := q5
    have e6 : stpM N L := q6
    have e7 : Rm V N := q7
    have e8 : Fr wsL M N := q8
    clear q1 q2 q3 q4 q5 q6 q7 q8
    have hrl : L.reverse.length = L.length := List.length_reverse
    show wq (f_M_isParade_B11 (fun v1 v2 v4 v5 M => kH (v1, v2, v4, v5, M)) v1 v2 v4 v5 N) _
    rw [e1, e2]
    unfold f_M_isParade_B11
    rw [i32_id (x := v5) (by omega) (by omega)]
    refine wq_if (fun c => ?_) (fun c => ?_)
    · rw [List.drop_eq_nil_of_le (by omega)] at e5
      exact wq_some ⟨Or.inl ⟨rfl, e5.mpr trivial⟩, e6, e7, e8⟩
    have hx : L[v5.toNat]? = some (L[v5.toNat]'(by omega)) := List.getElem?_eq_getElem _
    generalize hxv : L[v5.toNat]'(by omega) = x at hx
    have hxm := hm x (List.mem_of_getElem? hx)
    have hx1 := (e6.2 _ _ hx).1
    have hxr : L.reverse[((L.length : Int) - 1 - v5).toNat]? = some x := by
      rw [List.getElem?_reverse (by omega), ← hx]
      congr 1
      omega
    have htk := (hT.2.2.2.1 x.1 hxm.1 hxm.2).2.2.2.1
    rw [drop_cons hxr] at e5
    refine wq_g (by omega) ?_
    rw [e_broad e7 h1 (by omega), bI_s, hx1, e_takes e7 hxm.1 (by omega), bI_s]
    refine wq_I (s_isWide hT hN e7 hxm.1 hxm.2 (show -1000000 ≤ br V w by omega) (by omega) e4.1 (by omega) (show 0 ≤ tk V x.1 + n by omega) (by omega)) (fun r M2 ⟨a1, a2, a3⟩ => ?_)
    have a1 : tf r (wfo V x.1 (br V w) v4 (tk V x.1 + n)) := a1
    have a2 : Rm V M2 := a2
    have a3 : Fr wsL N M2 := a3
    have hst : stpM M2 L := by
      unfold stpM
      rw [a3.at 78 51 rfl, a3.row 111 rfl, a3.row 112 rfl]
      exact e6
    rcases a1 with ⟨b1, b2⟩ | ⟨b1, b2⟩
    · subst b1
      rw [e_takes a2 hxm.1 (by omega), bI_s]
      refine wq_t (by decide) (hk _ ⟨rfl, rfl, ⟨show -1 ≤ v5 + (-1) by omega, show v5 + (-1) < (L.length : Int) by omega⟩, ⟨show 0 ≤ v4 + tk V x.1 by omega, show v4 + tk V x.1 ≤ 100000 + 4 * ((L.length : Int) - 1 - (v5 + (-1))) by omega⟩, ?_, hst, a2, e8.tr a3⟩ (show (v5 + (-1) + 1).toNat < (v5 + 1).toNat by omega))
      show paP V (br V w) n L.reverse hour ↔ paP V (br V w) n (L.reverse.drop ((L.length : Int) - 1 - (v5 + (-1))).toNat) (v4 + tk V x.1)
      rw [e5, show ((L.length : Int) - 1 - (v5 + (-1))).toNat = ((L.length : Int) - 1 - v5).toNat + 1 by omega]
      exact ⟨fun z => z.2, fun z => ⟨b2, z⟩⟩
    · subst b1
      exact wq_e (fun z => z (by decide)) (wq_some ⟨Or.inr ⟨rfl, fun z => b2 (e5.mp z).1⟩, hst, a2, e8.tr a3⟩)
  · refine ⟨rfl, rfl, ⟨by show -1 ≤ (L.length : Int) - 1; omega, by show (L.length : Int) - 1 < _; omega⟩, ⟨h3, by show hour ≤ 100000 + 4 * ((L.length : Int) - 1 - ((L.length : Int) - 1)); omega⟩, ?_, hs, h, Fr.rf⟩
    show _ ↔ paP V (br V w) n (L.reverse.drop ((L.length : Int) - 1 - ((L.length : Int) - 1)).toNat) hour
    rw [show ((L.length : Int) - 1 - ((L.length : Int) - 1)).toNat = 0 by omega]
    exact Iff.rfl
  · show ((L.length : Int) - 1 + 1).toNat < 1000000000
    omega
def prA (V : Mm) (w n r : Int) : Prop := ∃ arr, wA V w arr ∧ ((arr (gl V w) = 1000000 ∧ r = -1) ∨ (arr (gl V w) ≠ 1000000 ∧ ∃ L, wP V w arr L ∧ isF (paP V (br V w) n L.reverse) (hr V) (hr V + 400) (-1) r))
theorem prA_un {V : Mm} (hT : Tw V) (hN : Nw V) {w : Int} (h1 : 0 ≤ w) (h2 : w < nW V) {n r r' : Int} (h : prA V w n r) (h' : prA V w n r') : r = r' := by
  have hp := pl_rng hT hN h1 h2
  have hP := hT.1
  obtain ⟨arr, a1, a2⟩ := h
  obtain ⟨arr', b1, b2⟩ := h'
  have e := wA_un hT hN h1 h2 a1 b1 hp.2.1.1 (by omega : gl V w < 9)
  rcases a2 with ⟨x1, x2⟩ | ⟨x1, L, x2, x3⟩ <;> rcases b2 with ⟨y1, y2⟩ | ⟨y1, L', y2, y3⟩
  · rw [x2, y2]
  · exact absurd (e ▸ x1) y1
  · exact absurd (e ▸ y1) x1
  · have eL := wP_un hT hN h1 h2 a1 b1 x2 y2
    subst eL
    exact isF_un x3 y3
theorem call_parade {n : Nat} {v1 v2 : Int} (i1 : IR v1) (i2 : IR v2) : CallOk n (f_BT_parade v1 v2) (f_M_parade v1 v2) := by
  refine call_q (fun M r => gA ((0 ≤ v1 ∧ v1 < nW M) ∧ 0 ≤ v2 ∧ v2 ≤ 48) (fun r => prA M v1 v2 r) r) trL ((78, 47) :: fwL) (fun M r r' hR => gA_un (fun c x y hx hy => prA_un hR.1 hR.2.1 c.1.1 c.1.2 hx hy)) rfl rfl rfl rfl rfl (fun M hR => ?_) (fun M M1 hR hm hl => ?_)
  · obtain ⟨h1, h2, h3, -, -, -, -, -, -, h10, -⟩ := id hR
    have hh := h2.1
    unfold f_BT_parade
    rw [i32_id (x := v2) i2.1 i2.2, i32_id (x := 48) (by omega) (by omega)]
    refine wq_if (fun d => wq_some ⟨Or.inr ⟨fun z => by omega, rfl⟩, h3.2.2, h10.2.2, Fr.rf⟩) (fun d => ?_)
    refine wq_if (fun d2 => wq_some ⟨Or.inr ⟨fun z => by omega, rfl⟩, h3.2.2, h10.2.2, Fr.rf⟩) (fun d2 => ?_)
    by_cases c : 0 ≤ v1 ∧ v1 < nW M
    · have hp := pl_rng h1 h2 c.1 c.2
      have hP := h1.1
      have hW := h1.2.2.1
      have hbr := (h1.2.2.2.2 v1 c.1 c.2).1
      refine wq_I (s_plan h1 h2 h3 (bzC0 hR) c.1 c.2) (fun r M2 ⟨a1, a2, a3, a4⟩ => ?_)
      have a3 : Cl M M2 := a3
      have a4 : Fr trL M M2 := a4
      have hb : M2 48 10 = 0 := by rw [a4.at 48 10 rfl]; exact h10.2.2
      have hrg := wA_rng h1 h2 c.1 c.2 a1 hp.2.1.1 (by omega : gl M v1 < 9)
      rcases a2 with ⟨x1, x2⟩ | ⟨x1, x2, L, x3, x4, x5⟩
      · have x1 : r = -1 := x1
        subst x1
        exact wq_e (fun z => z (by decide)) (wq_some ⟨Or.inl ⟨⟨c, by omega⟩, _, a1, Or.inl ⟨x2, rfl⟩⟩, a3.2.2, hb, a4⟩)
      · have x1 : r = ar M2 49 (gl M v1) := x1
        have x5 : stpC M2 L.reverse := x5
        have hlen : L.reverse.length = L.length := List.length_reverse
        have hmemL := wpB_mem L _ _ x3
        rw [x1, i32_id (x := ar M2 49 (gl M v1)) (by omega) (by omega), i32_id (x := -1) (by omega) (by omega)]
        refine wq_t (by omega) ?_
        refine wq_I (P := fun q => isF (paP M (br M v1) v2 L.reverse) (hr M) (hr M + 400) (-1) q.1 ∧ Cl M q.2 ∧ Fr trL M q.2) ?_ (fun y M3 ⟨b1, b2, b3⟩ => wq_some ⟨Or.inl ⟨⟨c, by omega⟩, _, a1, Or.inr ⟨x2, L, x3, b1⟩⟩, b2.2.2, by show M3 48 10 = 0; rw [(show Fr trL M M3 from b3).at 48 10 rfl]; exact h10.2.2, b3⟩)
        unfold f_Ways_paradeHour
        rw [e_cell_in (n := 6) M2 rfl (by decide) c.1 (by omega), bI_s, (a3.1.2.2.1 v1 c.1 c.2).1, a3.2.1.1]
        unfold f_Ways_paradeHour_L21
        refine wq_lp (fun z => z.1 = v2 ∧ z.2.1 = br M v1 ∧ (hr M ≤ z.2.2.1 ∧ z.2.2.1 ≤ hr M + 401) ∧ (∀ k : Int, hr M ≤ k → k < z.2.2.1 → ¬ paP M (br M v1) v2 L.reverse k) ∧ stpC z.2.2.2 L.reverse ∧ Cl M z.2.2.2 ∧ Fr trL M z.2.2.2) (fun z => (hr M + 402 - z.2.2.1).toNat) ?_ FU _ ?_ ?_
        · rintro kH ⟨u2, u3, u4, N⟩ ⟨q1, q2, q3, q4, q5, q6, q7⟩ hk
          have e1 : u2 = v2 := q1
          have e2 : u3 = br M v1 := q2
          have e3 : hr M ≤ u4 ∧ u4 ≤ hr M + 401 := q3
          have e4 : ∀ k : Int, hr M ≤ k → k < u4 → ¬ paP M (br M v1) v2 L.reverse k := q4
          have e5 : stpC N L.reverse := q5
          have e6 : Cl M N := q6
          have e7 : Fr trL M N := q7
          clear q1 q2 q3 q4 q5 q6 q7
          show wq (f_Ways_paradeHour_B21 (fun v2 v3 v4 M => kH (v2, v3, v4, M)) u2 u3 u4 N) _
          rw [e1, e2]
          unfold f_Ways_paradeHour_B21
          rw [e6.2.1.1, i32_id (x := hr M + 400) (by omega) (by omega), i32_id (x := u4) (by omega) (by omega)]
          refine wq_if (fun g => wq_some ⟨Or.inl ⟨rfl, fun k k1 k2 => e4 k k1 (by omega)⟩, e6, e7⟩) (fun g => ?_)
          refine wq_I (s_canParade h1 h2 e6 e5 (by omega) (fun x hx => hmemL x (List.mem_reverse.mp hx)) (show -1000000 ≤ br M v1 by omega) (by omega) (show 0 ≤ v2 by omega) (by omega) (show 0 ≤ u4 by omega) (by omega)) (fun r' M4 ⟨b1, b2, b3, b4⟩ => ?_)
          have F4 : Fr trL M M4 := e7.tr ((show Fr wcL N M4 from b4).cov rfl)
          rcases b1 with ⟨y1, y2⟩ | ⟨y1, y2⟩
          · have y1 : r' = 1 := y1
            subst y1
            exact wq_e (by decide) (wq_some ⟨Or.inr ⟨e3.1, by show u4 ≤ _; omega, y2, e4⟩, b3, F4⟩)
          · have y1 : r' = 0 := y1
            subst y1
            refine wq_t (by decide) (hk _ ⟨rfl, rfl, ⟨show hr M ≤ u4 + 1 by omega, show u4 + 1 ≤ hr M + 401 by omega⟩, fun k k1 k2 => ?_, b2, b3, F4⟩ (show (hr M + 402 - (u4 + 1)).toNat < (hr M + 402 - u4).toNat by omega))
            have k2 : k < u4 + 1 := k2
            by_cases ek : k = u4
            · subst ek; exact y2
            · exact e4 k k1 (by omega)
        · exact ⟨rfl, rfl, ⟨Int.le_refl _, by show hr M ≤ hr M + 401; omega⟩, fun k k1 k2 => absurd k2 (by show ¬ k < hr M; omega), x5, a3, a4⟩
        · show (hr M + 402 - hr M).toNat < 1000000000
          omega
    · rw [e_plan_out h1 h3 i1 c, bI_s]
      have F0 : Fr [(48, 6)] M (up M 48 6 0) := Fr.rf.up (by simp)
      exact wq_e (fun z => z rfl) (wq_some ⟨Or.inr ⟨fun z => c z.1, rfl⟩, h3.2.2.fr F0 rfl, by show up M 48 6 0 48 10 = 0; rw [up_col (by decide)]; exact h10.2.2, F0.cov rfl⟩)
  · obtain ⟨h1, h2, h3, -⟩ := id hR
    have hh := h2.1
    unfold f_M_parade
    rw [e_isWalker h1 hm i1, bI_s]
    refine wq_c0 (fun c => wq_some ⟨Or.inr ⟨fun z => c z.1, rfl⟩, Fr.rf⟩) (fun c => ?_)
    rw [e_in _ i2 (by omega) (by omega) (by omega) (by omega), bI_s]
    refine wq_c0 (fun d => wq_some ⟨Or.inr ⟨fun z => d z.2, rfl⟩, Fr.rf⟩) (fun d => ?_)
    have hp := pl_rng h1 h2 c.1 c.2
    have hP := h1.1
    refine wq_I (s_hasWay h1 h2 hm c.1 c.2) (fun r M2 ⟨a1, a2, a3, a4, a5⟩ => ?_)
    have a1 : wA M v1 (ar M2 110) := a1
    have a4 : Rm M M2 := a4
    rcases a2 with ⟨x1, x2⟩ | ⟨x1, x2, L, x3, x4, x5⟩
    · have x1 : r = 0 := x1
      subst x1
      exact wq_e (fun z => z (by decide)) (wq_some ⟨Or.inl ⟨⟨c, d⟩, _, a1, Or.inl ⟨x2, rfl⟩⟩, a5⟩)
    · have x1 : r = 1 := x1
      subst x1
      have hmemL := wpB_mem L _ _ x3
      have a4' : Rm M M2 := a4
      have e108 : M2 108 0 = hr M := by rw [a4'.2.2.2.2.2.2]; rfl
      refine wq_t (by decide) ?_
      refine wq_m (P := fun q => isF (paP M (br M v1) v2 L.reverse) (hr M) (hr M + 400) (-1) q.1 ∧ Fr ((78, 47) :: fwL) M1 q.2) ?_ (fun q ⟨b1, b2⟩ => ⟨Or.inl ⟨⟨c, d⟩, _, a1, Or.inr ⟨x2, L, x3, b1⟩⟩, b2⟩)
      unfold f_M_parade_L37
      rw [e108]
      refine wq_lp (fun z => z.1 = v1 ∧ z.2.1 = v2 ∧ (hr M ≤ z.2.2.1 ∧ z.2.2.1 ≤ hr M + 401) ∧ (∀ k : Int, hr M ≤ k → k < z.2.2.1 → ¬ paP M (br M v1) v2 L.reverse k) ∧ stpM z.2.2.2 L ∧ Rm M z.2.2.2 ∧ Fr ((78, 47) :: fwL) M1 z.2.2.2) (fun z => (hr M + 402 - z.2.2.1).toNat) ?_ FU _ ?_ ?_
      · rintro kH ⟨u2, u3, u4, N⟩ ⟨q1, q2, q3, q4, q5, q6, q7⟩ hk
        have e1 : u2 = v1 := q1
        have e2 : u3 = v2 := q2
        have e3 : hr M ≤ u4 ∧ u4 ≤ hr M + 401 := q3
        have e4 : ∀ k : Int, hr M ≤ k → k < u4 → ¬ paP M (br M v1) v2 L.reverse k := q4
        have e5 : stpM N L := q5
        have e6 : Rm M N := q6
        have e7 : Fr ((78, 47) :: fwL) M1 N := q7
        clear q1 q2 q3 q4 q5 q6 q7
        show wq (f_M_parade_B37 (fun v1 v2 v3 M => kH (v1, v2, v3, M)) u2 u3 u4 N) _
        rw [e1, e2]
        unfold f_M_parade_B37
        have f108 : N 108 0 = hr M := by rw [e6.2.2.2.2.2.2]; rfl
        rw [f108, i32_id (x := hr M + 400) (by omega) (by omega), i32_id (x := u4) (by omega) (by omega)]
        refine wq_if (fun g => wq_some ⟨Or.inl ⟨rfl, fun k k1 k2 => e4 k k1 (by omega)⟩, e7⟩) (fun g => ?_)
        refine wq_I (s_isParade h1 h2 e6 e5 x4 hmemL c.1 c.2 d.1 d.2 (show 0 ≤ u4 by omega) (by omega)) (fun r' M4 ⟨b1, b2, b3, b4⟩ => ?_)
        have F4 : Fr ((78, 47) :: fwL) M1 M4 := e7.tr ((show Fr wsL N M4 from b4).cov rfl)
        rcases b1 with ⟨y1, y2⟩ | ⟨y1, y2⟩
        · have y1 : r' = 1 := y1
          subst y1
          exact wq_e (by decide) (wq_some ⟨Or.inr ⟨e3.1, by show u4 ≤ _; omega, y2, e4⟩, F4⟩)
        · have y1 : r' = 0 := y1
          subst y1
          refine wq_t (by decide) (hk _ ⟨rfl, rfl, ⟨show hr M ≤ u4 + 1 by omega, show u4 + 1 ≤ hr M + 401 by omega⟩, fun k k1 k2 => ?_, b2, b3, F4⟩ (show (hr M + 402 - (u4 + 1)).toNat < (hr M + 402 - u4).toNat by omega))
          have k2 : k < u4 + 1 := k2
          by_cases ek : k = u4
          · subst ek; exact y2
          · exact e4 k k1 (by omega)
      · exact ⟨rfl, rfl, ⟨Int.le_refl _, by show hr M ≤ hr M + 401; omega⟩, fun k k1 k2 => absurd k2 (by show ¬ k < hr M; omega), x5, a4, a5⟩
      · show (hr M + 402 - hr M).toNat < 1000000000
        omega
