/-- a walker's arrivals -/
def wA (V : Mm) (w : Int) (arr : Int → Int) : Prop := isA V [] (br V w) (-1) (sto V w + 400) (pl V w) (sto V w) arr
def wP (V : Mm) (w : Int) (arr : Int → Int) (L : List (Int × Int)) : Prop := wpB V [] (br V w) (pl V w) arr L (gl V w) (pl V w)
theorem wA_un {V : Mm} (hT : Tw V) (hN : Nw V) {w : Int} (h1 : 0 ≤ w) (h2 : w < nW V) {arr arr' : Int → Int} (h : wA V w arr) (h' : wA V w arr') {p : Int} (p1 : 0 ≤ p) (p2 : p < 9) : arr p = arr' p := by
  have hs := sto_rng hN h1 h2
  exact isA_un hT (by omega) (by omega) h h' p1 p2
theorem wP_un {V : Mm} (hT : Tw V) (hN : Nw V) {w : Int} (h1 : 0 ≤ w) (h2 : w < nW V) {arr arr' : Int → Int} (h : wA V w arr) (h' : wA V w arr') {L L' : List (Int × Int)} (g : wP V w arr L) (g' : wP V w arr' L') : L = L' := by
  have := wpB_cg hT (fun y y1 y2 => (wA_un hT hN h1 h2 h h' y1 y2)) L' _ _ g'
  exact wpB_un _ _ _ g this
theorem e_soonest {V M : Mm} {p : Int} (p1 : 0 ≤ p) (p2 : p < 9) (hr : ar M 49 p = 1000000 ∨ (0 ≤ ar M 49 p ∧ ar M 49 p ≤ 100000)) : f_Ways_soonestAt p M = some (if ar M 49 p = 1000000 then -1 else ar M 49 p, M) := by
  unfold f_Ways_soonestAt
  have e : M 49 p.toNat = ar M 49 p := rfl
  rw [e_cell_in (n := 9) M rfl (by decide) p1 (by omega), bI_s, e, i32_id (x := ar M 49 p) (by omega) (by omega), i32_id (x := 1000000) (by omega) (by omega)]
  by_cases c : ar M 49 p = 1000000
  · rw [if_neg (fun z => z c), if_pos c]
  · rw [if_pos c, if_neg c]
theorem wA_rng {V : Mm} (hT : Tw V) (hN : Nw V) {w : Int} (h1 : 0 ≤ w) (h2 : w < nW V) {arr : Int → Int} (h : wA V w arr) {p : Int} (p1 : 0 ≤ p) (p2 : p < 9) : arr p = 1000000 ∨ (0 ≤ arr p ∧ arr p ≤ 10399) := by
  have hs := sto_rng hN h1 h2
  have := Sp_rng hT (by omega) h.2.2 p1 p2
  omega
theorem s_plan {V M : Mm} {w : Int} (hT : Tw V) (hN : Nw V) (h : Cl V M) (hB : bzC M []) (h1 : 0 ≤ w) (h2 : w < nW V) :
    wq (f_Ways_plan w M) (fun q => wA V w (ar q.2 49) ∧ ((q.1 = -1 ∧ ar q.2 49 (gl V w) = 1000000) ∨ (q.1 = ar q.2 49 (gl V w) ∧ ar q.2 49 (gl V w) ≠ 1000000 ∧ ∃ L, wP V w (ar q.2 49) L ∧ L.length ≤ 8 ∧ stpC q.2 L.reverse)) ∧ Cl V q.2 ∧ Fr trL M q.2) := by
  have hW := hT.2.2.1
  have hP := hT.1
  have hs := sto_rng hN h1 h2
  have hp := pl_rng hT hN h1 h2
  have hbr := (hT.2.2.2.2 w h1 h2).1
  unfold f_Ways_plan
  refine wq_d ?_
  have F0 : Fr [(48, 6)] M (up M 48 6 0) := Fr.rf.up (by simp)
  have hC0 := h.fr F0 rfl rfl rfl
  have hB0 := hB.fr F0 rfl
  rw [e_hasW hT hC0.1 (show IR w from ⟨by omega, by omega⟩), bI_s]
  refine wq_c1 (fun _ => ?_) (fun z => absurd ⟨h1, h2⟩ z)
  refine wq_V (s_searchFor hT hN hC0 hB0 rdOk0 h1 h2 (by decide) (by decide)) (fun M4 ⟨a1, a2, a3⟩ => ?_)
  have F4 : Fr trL M M4 := (F0.cov rfl : Fr trL M _).tr (a3.cov rfl)
  obtain ⟨k2, k3, -⟩ := a2.2.1.2.2 w h1 h2
  have k1 := (a2.1.2.2.1 w h1 h2).1
  rw [e_cell_in (n := 6) M4 rfl (by decide) h1 (by omega), bI_s, e_cell_in (n := 6) M4 rfl (by decide) h1 (by omega), bI_s, e_cell_in (n := 6) M4 rfl (by decide) h1 (by omega), bI_s, k1, k2, k3]
  refine wq_I (s_trace (t := sto V w) hT hN a2 (hB.fr (l := trL) F4 rfl) rdOk0 (by omega) (by omega) hs.1 (by omega) a1 hp.1.1 (by omega) hp.2.1.1 (by omega)) (fun r M11 ⟨b1, b2, b3, b4⟩ => ?_)
  have b2 : M11 49 = M4 49 := b2
  have b3 : Cl V M11 := b3
  have F11 : Fr trL M M11 := F4.tr b4
  have ea : ar M11 49 = ar M4 49 := by unfold ar; rw [b2]
  have hwA : wA V w (ar M11 49) := by rw [ea]; exact a1
  rw [← ea] at b1
  rcases b1 with ⟨c1, c2⟩ | ⟨c1, c2, L, c3, c4, c5⟩
  · have c1 : r = 0 := c1
    subst c1
    exact wq_t (by decide) (wq_some ⟨hwA, Or.inl ⟨rfl, c2⟩, b3, F11⟩)
  · have c1 : r = 1 := c1
    subst c1
    refine wq_e (by decide) ?_
    have hrg := wA_rng hT hN h1 h2 hwA hp.2.1.1 (by omega : gl V w < 9)
    rw [e_soonest (V := V) hp.2.1.1 (by omega) (by omega), bI_s, if_neg c2]
    exact wq_some ⟨hwA, Or.inr ⟨rfl, c2, L, c3, c4, c5⟩, b3, F11⟩
theorem e_plan_out {V M : Mm} {w : Int} (hT : Tw V) (h : Cl V M) (hw : IR w) (hn : ¬ (0 ≤ w ∧ w < nW V)) : f_Ways_plan w M = some (-1, up M 48 6 0) := by
  unfold f_Ways_plan
  have F0 : Fr [(48, 6)] M (up M 48 6 0) := Fr.rf.up (by simp)
  rw [bd_s, e_hasW hT (h.fr F0 rfl rfl rfl).1 hw, bI_s, if_neg hn, if_neg (fun z => z (by decide))]
def wyV (L : List (Int × Int)) (ag k r : Int) : Prop := (k = -1 ∧ r = ag) ∨ (k = 20 ∧ r = (L.length : Int)) ∨ ((0 ≤ k ∧ k < (L.length : Int)) ∧ ∃ x, L.reverse[k.toNat]? = some x ∧ r = x.1) ∨ ((100 ≤ k ∧ k < 100 + (L.length : Int)) ∧ ∃ x, L.reverse[(k - 100).toNat]? = some x ∧ r = x.2) ∨ ((k ≠ -1 ∧ k ≠ 20 ∧ ¬ (0 ≤ k ∧ k < (L.length : Int)) ∧ ¬ (100 ≤ k ∧ k < 100 + (L.length : Int))) ∧ r = -1)
theorem wyV_un {L : List (Int × Int)} {ag k r r' : Int} (hL : L.length ≤ 8) (h : wyV L ag k r) (h' : wyV L ag k r') : r = r' := by
  rcases h with ⟨a1, a2⟩ | ⟨a1, a2⟩ | ⟨a1, x, a2, a3⟩ | ⟨a1, x, a2, a3⟩ | ⟨a1, a2⟩ <;> rcases h' with ⟨b1, b2⟩ | ⟨b1, b2⟩ | ⟨b1, y, b2, b3⟩ | ⟨b1, y, b2, b3⟩ | ⟨b1, b2⟩ <;> try omega
  · rw [a2] at b2; cases b2; rw [a3, b3]
  · rw [a2] at b2; cases b2; rw [a3, b3]
def wyA (V : Mm) (w k r : Int) : Prop := ∃ arr, wA V w arr ∧ ((arr (gl V w) = 1000000 ∧ r = -1) ∨ (arr (gl V w) ≠ 1000000 ∧ ∃ L, wP V w arr L ∧ L.length ≤ 8 ∧ wyV L (arr (gl V w)) k r))
theorem wyA_un {V : Mm} (hT : Tw V) (hN : Nw V) {w : Int} (h1 : 0 ≤ w) (h2 : w < nW V) {k r r' : Int} (h : wyA V w k r) (h' : wyA V w k r') : r = r' := by
  have hp := pl_rng hT hN h1 h2
  have hP := hT.1
  obtain ⟨arr, a1, a2⟩ := h
  obtain ⟨arr', b1, b2⟩ := h'
  have e := wA_un hT hN h1 h2 a1 b1 hp.2.1.1 (by omega : gl V w < 9)
  rcases a2 with ⟨x1, x2⟩ | ⟨x1, L, x2, x3, x4⟩ <;> rcases b2 with ⟨y1, y2⟩ | ⟨y1, L', y2, y3, y4⟩
  · rw [x2, y2]
  · exact absurd (e ▸ x1) y1
  · exact absurd (e ▸ y1) x1
  · have eL := wP_un hT hN h1 h2 a1 b1 x2 y2
    subst eL
    rw [← e] at y4
    exact wyV_un x3 x4 y4
theorem call_way {n : Nat} {v1 v2 : Int} (i1 : IR v1) (i2 : IR v2) : CallOk n (f_BT_way v1 v2) (f_M_way v1 v2) := by
  refine call_q (fun M r => gA (0 ≤ v1 ∧ v1 < nW M) (fun r => wyA M v1 v2 r) r) trL ((78, 47) :: fwL) (fun M r r' hR => gA_un (fun c x y hx hy => wyA_un hR.1 hR.2.1 c.1 c.2 hx hy)) rfl rfl rfl rfl rfl (fun M hR => ?_) (fun M M1 hR hm hl => ?_)
  · obtain ⟨h1, h2, h3, -, -, -, -, -, -, h10, -⟩ := id hR
    unfold f_BT_way
    by_cases c : 0 ≤ v1 ∧ v1 < nW M
    · have hp := pl_rng h1 h2 c.1 c.2
      have hP := h1.1
      refine wq_I (s_plan h1 h2 h3 (bzC0 hR) c.1 c.2) (fun r M2 ⟨a1, a2, a3, a4⟩ => ?_)
      have a3 : Cl M M2 := a3
      have a4 : Fr trL M M2 := a4
      have hb : M2 48 10 = 0 := by rw [a4.at 48 10 rfl]; exact h10.2.2
      have hrg := wA_rng h1 h2 c.1 c.2 a1 hp.2.1.1 (by omega : gl M v1 < 9)
      rcases a2 with ⟨x1, x2⟩ | ⟨x1, x2, L, x3, x4, x5⟩
      · have x1 : r = -1 := x1
        subst x1
        exact wq_t (by decide) (wq_some ⟨Or.inl ⟨c, _, a1, Or.inl ⟨x2, rfl⟩⟩, a3.2.2, hb, a4⟩)
      · have x1 : r = ar M2 49 (gl M v1) := x1
        have x5 : stpC M2 L.reverse := x5
        have hlen : L.reverse.length = L.length := List.length_reverse
        have h486 : M2 48 6 = (L.length : Int) := by rw [x5.1, hlen]
        rw [x1, i32_id (x := ar M2 49 (gl M v1)) (by omega) (by omega), i32_id (x := -1) (by omega) (by omega), i32_id (x := v2) i2.1 i2.2, i32_id (x := 20) (by omega) (by omega), h486, i32_id (x := (L.length : Int)) (by omega) (by omega)]
        refine wq_e (by omega) ?_
        have hfin : ∀ y, wyV L (ar M2 49 (gl M v1)) v2 y → wq (some (y, M2)) (fun q => gA (0 ≤ v1 ∧ v1 < nW M) (fun r => wyA M v1 v2 r) q.1 ∧ Cc M q.2 ∧ q.2 48 10 = 0 ∧ Fr trL M q.2) := fun y hy => wq_some ⟨Or.inl ⟨c, _, a1, Or.inr ⟨x2, L, x3, x4, hy⟩⟩, a3.2.2, hb, a4⟩
        by_cases d1 : v2 = -1
        · exact wq_e (fun z => z d1) (hfin _ (Or.inl ⟨d1, rfl⟩))
        refine wq_t d1 ?_
        by_cases d2 : v2 = 20
        · exact wq_e (fun z => z d2) (hfin _ (Or.inr (Or.inl ⟨d2, rfl⟩)))
        refine wq_t d2 ?_
        have hJ : ¬ (0 ≤ v2 ∧ v2 < (L.length : Int)) → wq (f_BT_way_J62 v2 M2) (fun q => gA (0 ≤ v1 ∧ v1 < nW M) (fun r => wyA M v1 v2 r) q.1 ∧ Cc M q.2 ∧ q.2 48 10 = 0 ∧ Fr trL M q.2) := by
          intro hz
          unfold f_BT_way_J62
          rw [i32_id (x := v2) i2.1 i2.2, i32_id (x := 100) (by omega) (by omega), h486, i32_id (x := (L.length : Int)) (by omega) (by omega)]
          refine wq_if (fun d3 => hfin _ (Or.inr (Or.inr (Or.inr (Or.inr ⟨⟨d1, d2, hz, by omega⟩, rfl⟩))))) (fun d3 => ?_)
          have := i2.2
          rw [i32_id (x := v2 - 100) (by omega) (by omega)]
          refine wq_if (fun d4 => hfin _ (Or.inr (Or.inr (Or.inr (Or.inr ⟨⟨d1, d2, hz, by omega⟩, rfl⟩))))) (fun d4 => ?_)
          rw [e_cell_in (n := 9) M2 rfl (by decide) (by omega) (by omega), bI_s]
          have hx : L.reverse[(v2 - 100).toNat]? = some (L.reverse[(v2 - 100).toNat]'(by omega)) := List.getElem?_eq_getElem _
          exact hfin _ (Or.inr (Or.inr (Or.inr (Or.inl ⟨by omega, _, hx, (x5.2 _ _ hx).2⟩))))
        refine wq_if (fun d3 => hJ (by omega)) (fun d3 => ?_)
        refine wq_if (fun d4 => hJ (by omega)) (fun d4 => ?_)
        rw [e_cell_in (n := 9) M2 rfl (by decide) (by omega) (by omega), bI_s]
        have hx : L.reverse[v2.toNat]? = some (L.reverse[v2.toNat]'(by omega)) := List.getElem?_eq_getElem _
        exact hfin _ (Or.inr (Or.inr (Or.inl ⟨by omega, _, hx, (x5.2 _ _ hx).1⟩)))
    · rw [e_plan_out h1 h3 i1 c, bI_s]
      have F0 : Fr [(48, 6)] M (up M 48 6 0) := Fr.rf.up (by simp)
      exact wq_t rfl (wq_some ⟨Or.inr ⟨c, rfl⟩, h3.2.2.fr F0 rfl, by show up M 48 6 0 48 10 = 0; rw [up_col (by decide)]; exact h10.2.2, F0.cov rfl⟩)
  · obtain ⟨h1, h2, h3, -⟩ := id hR
    unfold f_M_way
    rw [e_isWalker h1 hm i1, bI_s]
    refine wq_c0 (fun c => wq_some ⟨Or.inr ⟨c, rfl⟩, Fr.rf⟩) (fun c => ?_)
    have hp := pl_rng h1 h2 c.1 c.2
    have hP := h1.1
    have hW := h1.2.2.1
    refine wq_I (s_hasWay h1 h2 hm c.1 c.2) (fun r M2 ⟨a1, a2, a3, a4, a5⟩ => ?_)
    have a1 : wA M v1 (ar M2 110) := a1
    have a4 : Rm M M2 := a4
    have hrg := wA_rng h1 h2 c.1 c.2 a1 hp.2.1.1 (by omega : gl M v1 < 9)
    rcases a2 with ⟨x1, x2⟩ | ⟨x1, x2, L, x3, x4, x5⟩
    · have x1 : r = 0 := x1
      subst x1
      exact wq_e (fun z => z (by decide)) (wq_some ⟨Or.inl ⟨c, _, a1, Or.inl ⟨x2, rfl⟩⟩, a5⟩)
    · have x1 : r = 1 := x1
      subst x1
      refine wq_t (by decide) ?_
      have x5 : stpM M2 L := x5
      have h7851 : M2 78 51 = (L.length : Int) := x5.1
      rw [i32_id (x := v2) i2.1 i2.2, i32_id (x := -1) (by omega) (by omega), i32_id (x := 20) (by omega) (by omega), h7851]
      have hfin : ∀ y, wyV L (ar M2 110 (gl M v1)) v2 y → wq (some (y, M2)) (fun q => gA (0 ≤ v1 ∧ v1 < nW M) (fun r => wyA M v1 v2 r) q.1 ∧ Fr ((78, 47) :: fwL) M1 q.2) := fun y hy => wq_some ⟨Or.inl ⟨c, _, a1, Or.inr ⟨x2, L, x3, x4, hy⟩⟩, a5⟩
      by_cases d1 : v2 = -1
      · refine wq_e (fun z => z d1) ?_
        rw [e_goal a4 c.1 (by omega), bI_s, i32_id (x := gl M v1) (by omega) (by omega)]
        exact wq_g (by omega) (hfin _ (Or.inl ⟨d1, rfl⟩))
      refine wq_t d1 ?_
      by_cases d2 : v2 = 20
      · exact wq_e (fun z => z d2) (hfin _ (Or.inr (Or.inl ⟨d2, rfl⟩)))
      refine wq_t d2 ?_
      have ev2 : v2 = i32 v2 := (i32_id i2.1 i2.2).symm
      rw [i32_id (x := (L.length : Int) - 1) (by omega) (by omega), show f_M_isIn v2 0 ((L.length : Int) - 1) M2 = f_M_isIn (i32 v2) 0 ((L.length : Int) - 1) M2 by rw [← ev2], e_in _ i2 (by omega) (by omega) (by omega) (by omega), bI_s]
      refine wq_c0 (fun d3 => ?_) (fun d3 => ?_)
      · rw [h7851, i32_id (x := 99 + (L.length : Int)) (by omega) (by omega), show f_M_isIn v2 100 (99 + (L.length : Int)) M2 = f_M_isIn (i32 v2) 100 (99 + (L.length : Int)) M2 by rw [← ev2], e_in _ i2 (by omega) (by omega) (by omega) (by omega), bI_s]
        refine wq_c0 (fun d4 => hfin _ (Or.inr (Or.inr (Or.inr (Or.inr ⟨⟨d1, d2, by omega, by omega⟩, rfl⟩))))) (fun d4 => ?_)
        rw [h7851, i32_id (x := ((L.length : Int) + 99) - v2) (by omega) (by omega)]
        have hx : L[(((L.length : Int) + 99) - v2).toNat]? = some (L[(((L.length : Int) + 99) - v2).toNat]'(by omega)) := List.getElem?_eq_getElem _
        refine wq_g (by omega) (hfin _ (Or.inr (Or.inr (Or.inr (Or.inl ⟨by omega, _, ?_, (x5.2 _ _ hx).2⟩)))))
        rw [List.getElem?_reverse (by omega), ← hx]
        congr 1
        omega
      · rw [h7851, i32_id (x := ((L.length : Int) - 1) - v2) (by omega) (by omega)]
        have hx : L[(((L.length : Int) - 1) - v2).toNat]? = some (L[(((L.length : Int) - 1) - v2).toNat]'(by omega)) := List.getElem?_eq_getElem _
        refine wq_g (by omega) (hfin _ (Or.inr (Or.inr (Or.inl ⟨by omega, _, ?_, (x5.2 _ _ hx).1⟩))))
        rw [List.getElem?_reverse (by omega), ← hx]
        congr 1
        omega
def avA (V : Mm) (w p r : Int) : Prop := ∃ arr, wA V w arr ∧ r = if arr p = 1000000 then -1 else arr p
theorem call_arrival {n : Nat} {v1 v2 : Int} (i1 : IR v1) (i2 : IR v2) : CallOk n (f_BT_arrival v1 v2) (f_M_arrival v1 v2) := by
  refine call_q (fun M r => gA ((0 ≤ v1 ∧ v1 < nW M) ∧ 0 ≤ v2 ∧ v2 < nP M) (fun r => avA M v1 v2 r) r) seL ((78, 47) :: spL) (fun M r r' hR => gA_un (fun c x y hx hy => ?_)) rfl rfl rfl rfl rfl (fun M hR => ?_) (fun M M1 hR hm hl => ?_)
  · obtain ⟨arr, a1, a2⟩ := hx
    obtain ⟨arr', b1, b2⟩ := hy
    have hP := hR.1.1
    have e := wA_un hR.1 hR.2.1 c.1.1 c.1.2 a1 b1 c.2.1 (by omega : v2 < 9)
    rw [a2, b2, e]
  · obtain ⟨h1, h2, h3, -, -, -, -, -, -, h10, -⟩ := id hR
    have hP := h1.1
    unfold f_BT_arrival
    rw [e_hasW h1 h3.1 i1, bI_s]
    refine wq_c0 (fun c => wq_some ⟨Or.inr ⟨fun z => c z.1, rfl⟩, h3.2.2, h10.2.2, Fr.rf⟩) (fun c => ?_)
    rw [e_hasP h1 h3.1 i2, bI_s]
    refine wq_c1 (fun d => ?_) (fun d => wq_some ⟨Or.inr ⟨fun z => d z.2, rfl⟩, h3.2.2, h10.2.2, Fr.rf⟩)
    refine wq_V (s_searchFor h1 h2 h3 (bzC0 hR) rdOk0 c.1 c.2 (by decide) (by decide)) (fun M2 ⟨a1, a2, a3⟩ => ?_)
    have a1 : wA M v1 (ar M2 49) := a1
    have hrg := wA_rng h1 h2 c.1 c.2 a1 d.1 (by omega : v2 < 9)
    rw [e_soonest (V := M) d.1 (by omega) (by omega), bI_s]
    exact wq_some ⟨Or.inl ⟨⟨c, d⟩, _, a1, rfl⟩, a2.2.2, by show M2 48 10 = 0; rw [a3.row 48 rfl]; exact h10.2.2, a3⟩
  · obtain ⟨h1, h2, h3, -⟩ := id hR
    have hP := h1.1
    unfold f_M_arrival
    rw [e_isWalker h1 hm i1, bI_s]
    refine wq_c0 (fun c => wq_some ⟨Or.inr ⟨fun z => c z.1, rfl⟩, Fr.rf⟩) (fun c => ?_)
    rw [e_isPlace h1 hm i2, bI_s]
    refine wq_c1 (fun d => ?_) (fun d => wq_some ⟨Or.inr ⟨fun z => d z.2, rfl⟩, Fr.rf⟩)
    refine wq_d ?_
    have F0 : Fr ((78, 47) :: spL) M1 (up M1 78 47 0) := Fr.rf.up (by simp)
    have hB : bzM (up M1 78 47 0) [] := ⟨up_eq M1 78 47 0, fun k q hq => by simp at hq⟩
    refine wq_V (s_spreadsFor h1 h2 (hm.fr F0 rfl) hB rdOk0 c.1 c.2 (by decide) (by decide)) (fun M2 ⟨a1, a2, a3⟩ => ?_)
    have a1 : wA M v1 (ar M2 110) := a1
    have F2 : Fr ((78, 47) :: spL) M1 M2 := F0.tr (a3.cov rfl)
    have hrg := wA_rng h1 h2 c.1 c.2 a1 d.1 (by omega : v2 < 9)
    have e : M2 110 v2.toNat = ar M2 110 v2 := rfl
    rw [i32_id (x := v2) i2.1 i2.2, e, i32_id (x := ar M2 110 v2) (by omega) (by omega), i32_id (x := 1000000) (by omega) (by omega)]
    refine wq_g (by omega) ?_
    by_cases g : ar M2 110 v2 = 1000000
    · exact wq_e (fun z => z g) (wq_some ⟨Or.inl ⟨⟨c, d⟩, _, a1, by rw [if_pos g]⟩, F2⟩)
    · exact wq_t g (wq_g (by omega) (wq_some ⟨Or.inl ⟨⟨c, d⟩, _, a1, by rw [if_neg g]⟩, F2⟩))
