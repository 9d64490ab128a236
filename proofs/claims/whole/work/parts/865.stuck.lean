theorem isA_ex {V : Mm} {b wo lim a t : Int} (hT : Tw V) (hN : Nw V) (hb1 : -1000000 ≤ b) (hb2 : b ≤ 1000000) (ht0 : 0 ≤ t) (hl : t ≤ lim) (hl2 : lim ≤ 100000) (ha : 0 ≤ a ∧ a < 9) (hw1 : -2147483648 ≤ wo) (hw2 : wo < 2147483648) : ∃ arr, isA V [] b wo lim a t arr := by
  have hF : Fr [(78, 47)] V (up V 78 47 0) := Fr.rf.up (by simp)
  have h0 : Rm V V := ⟨rfl, rfl, rfl, rfl, rfl, rfl, rfl⟩
  have hm : Rm V (up V 78 47 0) := h0.fr hF rfl
  obtain ⟨M', -, h1, -⟩ := s_spreads (R := []) hT hN hm ⟨up_eq V 78 47 0, fun k q hq => by simp at hq⟩ rdOk0 hb1 hb2 ht0 hl hl2 ha hw1 hw2
  exact ⟨_, h1⟩
theorem fsB_ex {V : Mm} {R : List (Int × Int × Int)} {b : Int} {arr : Int → Int} {p : Int} : ∀ (n : Nat) (s : Int), s.toNat < n → stB V R b arr p s → ∃ s0, fsB V R b arr p s0
  | 0, s, h, _ => absurd h (Nat.not_lt_zero _)
  | n + 1, s, h, hs => by
    rcases Classical.em (∃ s', s' < s ∧ stB V R b arr p s') with ⟨s', z1, z2⟩ | z
    · have := hs.1
      have := z2.1
      exact fsB_ex n s' (by omega) z2
    · exact ⟨s, hs, fun s' z1 z2 => z ⟨s', z1, z2⟩⟩
theorem wpB_ex {V : Mm} {R : List (Int × Int × Int)} {b lim a t : Int} {arr : Int → Int} (hT : Tw V) (hl : t ≤ lim) (hl2 : lim < 1000000) (hA : isA V R b (-1) lim a t arr) : ∀ (n : Nat) (p : Int), (cl9 arr p).toNat < n → 0 ≤ p → p < 9 → arr p ≠ 1000000 → ∃ L, wpB V R b a arr L p a ∧ (L.length : Int) ≤ cl9 arr p
  | 0, p, h, _, _, _ => absurd h (Nat.not_lt_zero _)
  | n + 1, p, h, p1, p2, hn => by
    by_cases c : p = a
    · exact ⟨[], c, by show ((0 : Nat) : Int) ≤ _; have := cl9_nn arr p; omega⟩
    · obtain ⟨s, hs⟩ := stB_ex hT hl hl2 hA p1 p2 c hn
      obtain ⟨s0, hs0⟩ := fsB_ex _ s (Nat.lt_succ_self _) hs
      obtain ⟨-, q2, q3⟩ := stB_in hT hs0.1
      have hd := cl9_dec q2.1 q2.2 q3
      have hnn := cl9_nn arr (oth V s0 p)
      have r1 := Sp_rng hT hl hA.2.2 p1 p2
      have r2 := Sp_rng hT hl hA.2.2 q2.1 q2.2
      obtain ⟨L, l1, l2⟩ := wpB_ex hT hl hl2 hA n (oth V s0 p) (by omega) q2.1 q2.2 (by omega)
      exact ⟨(s0, arr p - tk V s0) :: L, ⟨c, hs0, rfl, l1⟩, by simp only [List.length_cons]; omega⟩
theorem fre0 (V : Mm) (s h : Int) : fre V [] s 0 h := fun k _ _ => by have := wid_rng V s (h + k); simp only [crw]; omega
theorem stB0 {V : Mm} {arr : Int → Int} {p s : Int} : stB V [] 0 arr p s ↔ ((0 ≤ s ∧ s < nS V) ∧ oth V s p ≠ -1 ∧ arr (oth V s p) = arr p - tk V s) := by
  constructor
  · rintro ⟨h1, h2, h3, h4, h5⟩
    refine ⟨h1, h2, ?_⟩
    rcases Int.lt_or_eq_of_le h3 with z | z
    · exact absurd (fre0 V s _) (h5 _ (Int.le_refl _) z)
    · exact z
  · rintro ⟨h1, h2, h3⟩
    exact ⟨h1, h2, Int.le_of_eq h3, fre0 V s _, fun x x1 x2 => absurd x2 (by omega)⟩
/-- where one is stuck, by the way from its end back -/
def skB (V : Mm) (b : Int) : List (Int × Int) → Int → Int → Prop
  | [], h, s => h = -1 ∧ s = -1
  | x :: L, h, s => ∃ h' s', skB V b L h' s' ∧ ((h' ≠ -1 ∧ h = h' ∧ s = s') ∨ (h' = -1 ∧ isF (fun y => wid V x.1 y < b) x.2 (x.2 + tk V x.1 - 1) (-1) h ∧ ((h = -1 ∧ s = -1) ∨ (h ≠ -1 ∧ s = x.1))))
theorem skB_un {V : Mm} {b : Int} : ∀ (L : List (Int × Int)) (h s h' s' : Int), skB V b L h s → skB V b L h' s' → h = h' ∧ s = s'
  | [], h, s, h', s', a, c => ⟨a.1.trans c.1.symm, a.2.trans c.2.symm⟩
  | x :: L, h, s, h', s', a, c => by
    obtain ⟨u, v, a1, a2⟩ := a
    obtain ⟨u', v', c1, c2⟩ := c
    obtain ⟨e1, e2⟩ := skB_un L u v u' v' a1 c1
    subst e1 e2
    rcases a2 with ⟨z1, z2, z3⟩ | ⟨z1, z2, z3⟩ <;> rcases c2 with ⟨y1, y2, y3⟩ | ⟨y1, y2, y3⟩
    · omega
    · exact absurd y1 z1
    · exact absurd z1 y1
    · have e := isF_un z2 y2
      omega
theorem skB_app {V : Mm} {b h s : Int} {S : List (Int × Int)} (hS : skB V b S h s) (hn : h ≠ -1) : ∀ P : List (Int × Int), skB V b (P ++ S) h s
  | [] => hS
  | x :: P => ⟨h, s, skB_app hS hn P, Or.inl ⟨hn, rfl, rfl⟩⟩
/-- a walker's hours without waits -/
def w0 (V : Mm) (w : Int) (arr : Int → Int) : Prop := isA V [] 0 (-1) (sto V w + 400) (pl V w) (sto V w) arr
def skA (V : Mm) (w k r : Int) : Prop := ∃ arr, w0 V w arr ∧ ((arr (gl V w) = 1000000 ∧ r = -1) ∨ (arr (gl V w) ≠ 1000000 ∧ ∃ L h s, wpB V [] 0 (pl V w) arr L (gl V w) (pl V w) ∧ skB V (br V w) L h s ∧ r = if k = 0 then h else s))
theorem skA_un {V : Mm} (hT : Tw V) (hN : Nw V) {w : Int} (h1 : 0 ≤ w) (h2 : w < nW V) {k r r' : Int} (h : skA V w k r) (h' : skA V w k r') : r = r' := by
  have hp := pl_rng hT hN h1 h2
  have hP := hT.1
  have hs := sto_rng hN h1 h2
  obtain ⟨arr, a1, a2⟩ := h
  obtain ⟨arr', b1, b2⟩ := h'
  have eu : ∀ y : Int, 0 ≤ y → y < 9 → arr y = arr' y := fun y y1 y2 => isA_un hT (by omega) (by omega) a1 b1 y1 y2
  have e := eu (gl V w) hp.2.1.1 (by omega)
  rcases a2 with ⟨x1, x2⟩ | ⟨x1, L, u, v, x2, x3, x4⟩ <;> rcases b2 with ⟨y1, y2⟩ | ⟨y1, L', u', v', y2, y3, y4⟩
  · rw [x2, y2]
  · exact absurd (e ▸ x1) y1
  · exact absurd (e ▸ y1) x1
  · have eL : L = L' := wpB_un _ _ _ x2 (wpB_cg hT eu L' _ _ y2)
    subst eL
    obtain ⟨e1, e2⟩ := skB_un _ _ _ _ _ x3 y3
    rw [x4, y4, e1, e2]
theorem s_stuckAt {V M : Mm} (hT : Tw V) (hN : Nw V) (h : Cl V M) (hB : bzC M []) {w k : Int} (h1 : 0 ≤ w) (h2 : w < nW V) (hk0 : k = 0 ∨ k = 1) : wq (f_Ways_stuckAt w k M) (fun q => skA V w k q.1 ∧ Cl V q.2 ∧ Fr trL M q.2) := by
  have hW := hT.2.2.1
  have hS := hT.2.1
  have hP := hT.1
  have hs := sto_rng hN h1 h2
  have hp := pl_rng hT hN h1 h2
  have hbr := (hT.2.2.2.2 w h1 h2).1
  obtain ⟨k2, -, -⟩ := h.2.1.2.2 w h1 h2
  unfold f_Ways_stuckAt
  rw [e_cell_in (n := 6) M rfl (by decide) h1 (by omega), bI_s, k2, e_setOut hT hN h.2.1 h1 h2, bI_s]
  refine wq_V (s_search (R := []) hT hN h hB rdOk0 (by decide) (by decide) hs.1 (by omega) ⟨hp.1.1, by omega⟩ (by decide) (by decide)) (fun M5 ⟨a1, a2, a3⟩ => ?_)
  have a1 : w0 V w (ar M5 49) := a1
  have F5 : Fr trL M M5 := a3.cov rfl
  have k3 := (a2.2.1.2.2 w h1 h2).2.1
  rw [e_cell_in (n := 6) M5 rfl (by decide) h1 (by omega), bI_s, k3]
  refine wq_I (s_trace (t := sto V w) hT hN a2 (hB.fr F5 rfl) rdOk0 (by decide) (by decide) hs.1 (by omega) a1 hp.1.1 (by omega) hp.2.1.1 (by omega)) (fun r M8 ⟨b1, b2, b3, b4⟩ => ?_)
  have b2 : M8 49 = M5 49 := b2
  have b3 : Cl V M8 := b3
  have F8 : Fr trL M M8 := F5.tr b4
  rcases b1 with ⟨c1, c2⟩ | ⟨c1, c2, L, c3, c4, c5⟩
  · have c1 : r = 0 := c1
    subst c1
    exact wq_e (fun z => z (by decide)) (wq_some ⟨⟨_, a1, Or.inl ⟨c2, rfl⟩⟩, b3, F8⟩)
  · have c1 : r = 1 := c1
    subst c1
    refine wq_t (by decide) ?_
    have c5 : stpC M8 L.reverse := c5
    have hrl : L.reverse.length = L.length := List.length_reverse
    have hmemL := wpB_mem L _ _ c3
    have hhr : ∀ x ∈ L, 0 ≤ x.2 ∧ x.2 ≤ 20000 := by
      have aux : ∀ (T : List (Int × Int)) (p : Int), wpB V [] 0 (pl V w) (ar M5 49) T p (pl V w) → ar M5 49 p ≠ 1000000 → 0 ≤ p → p < 9 → ∀ x ∈ T, 0 ≤ x.2 ∧ x.2 ≤ 20000 := by
        intro T
        induction T with
        | nil => intro p _ _ _ _ x hx; simp at hx
        | cons y T ih =>
          intro p hw hn p1 p2 x hx
          obtain ⟨z1, z2, z3, z4⟩ := hw
          obtain ⟨-, q2, q3⟩ := stB_in hT z2.1
          have r1 := Sp_rng hT (by omega) a1.2.2 p1 p2
          have r2 := Sp_rng hT (by omega) a1.2.2 q2.1 q2.2
          have z5 := (stB0.mp z2.1).2.2
          rcases List.mem_cons.mp hx with rfl | hx
          · omega
          · exact ih _ z4 (by omega) q2.1 q2.2 x hx
      exact aux L _ c3 c2 hp.2.1.1 (by omega)
    unfold f_Ways_stuckAt_L52
    refine wq_lp (fun z => z.1 = w ∧ z.2.1 = k ∧ (0 ≤ z.2.2.1 ∧ z.2.2.1 ≤ (L.length : Int)) ∧ skB V (br V w) (L.drop (L.length - z.2.2.1.toNat)) (-1) (-1) ∧ stpC z.2.2.2 L.reverse ∧ Cl V z.2.2.2 ∧ Fr trL M z.2.2.2) (fun z => ((L.length : Int) - z.2.2.1).toNat) ?_ FU _ ?_ ?_
    · rintro kH ⟨u1, u2, u4, N⟩ ⟨q1, q2, q3, q4, q5, q6, q7⟩ hk
      have e1 : u1 = w := q1
      have e2 : u2 = k := q2
      have e3 : 0 ≤ u4 ∧ u4 ≤ (L.length : Int) := q3
      have e4 : skB V (br V w) (L.drop (L.length - u4.toNat)) (-1) (-1) := q4
      have e5 : stpC N L.reverse := q5
      have e6 : Cl V N := q6
      have e7 : Fr trL M N := q7
      clear q1 q2 q3 q4 q5 q6 q7
      show wq (f_Ways_stuckAt_B52 (fun v1 v2 v4 M => kH (v1, v2, v4, M)) _ u1 u2 u4 N) _
      rw [e1, e2]
      unfold f_Ways_stuckAt_B52
      rw [e5.1, hrl, i32_id (x := (L.length : Int)) (by omega) (by omega), i32_id (x := u4) (by omega) (by omega)]
      refine wq_if (fun g => ?_) (fun g => ?_)
      · rw [show L.length - u4.toNat = 0 by omega] at e4
        refine wq_some ⟨⟨_, a1, Or.inr ⟨c2, L, -1, -1, c3, e4, ?_⟩⟩, e6, e7⟩
        show (-1 : Int) = if k = 0 then -1 else -1
        split <;> rfl
      · have hx : L.reverse[u4.toNat]? = some (L.reverse[u4.toNat]'(by omega)) := List.getElem?_eq_getElem _
        generalize hxv : L.reverse[u4.toNat]'(by omega) = x at hx
        have hxL := List.mem_reverse.mp (List.mem_of_getElem? hx)
        have hxm := hmemL x hxL
        have hxh := hhr x hxL
        obtain ⟨hx1, hx2⟩ := e5.2 _ _ hx
        have htk := (hT.2.2.2.1 x.1 hxm.1 hxm.2).2.2.2.1
        have ek := (e6.1.2.1 x.1 hxm.1 hxm.2).2.2.1
        have ebr := (e6.1.2.2.1 w h1 h2).1
        have hxd : L[L.length - (u4.toNat + 1)]? = some x := by
          rw [List.getElem?_reverse (by omega)] at hx
          rw [← hx]
          congr 1
          omega
        have hdr : L.drop (L.length - (u4.toNat + 1)) = x :: L.drop (L.length - u4.toNat) := by
          rw [drop_cons hxd, show L.length - (u4.toNat + 1) + 1 = L.length - u4.toNat by omega]
        rw [e_cell_in (n := 9) N rfl (by decide) e3.1 (by omega), bI_s, e_cell_in (n := 9) N rfl (by decide) e3.1 (by omega), bI_s, hx1, hx2, e_cell_in (n := 6) N rfl (by decide) h1 (by omega), bI_s, ebr, e_cell_in (n := 12) N rfl (by decide) hxm.1 (by omega), bI_s, ek]
        refine wq_I (s_narrow hT hN e6 hxm.1 hxm.2 (show -1000000 ≤ br V w by omega) (by omega) hxh.1 (show x.2 ≤ x.2 + tk V x.1 by omega) (by omega)) (fun y M2 ⟨d1, d2, d3⟩ => ?_)
        have d1 : isF (fun z => wid V x.1 z < br V w) x.2 (x.2 + tk V x.1 - 1) (-1) y := d1
        have d2 : Cl V M2 := d2
        have d3 : Fr wcL N M2 := d3
        have F2 : Fr trL M M2 := e7.tr (d3.cov rfl)
        have hst : stpC M2 L.reverse := by
          unfold stpC
          rw [d3.row 48 rfl, d3.row 50 rfl, d3.row 51 rfl]
          exact e5
        have hyr : -1 ≤ y ∧ y ≤ 30000 := by
          rcases d1 with ⟨z, -⟩ | ⟨z1, z2, -⟩ <;> omega
        rw [i32_id (x := y) (by omega) (by omega), i32_id (x := -1) (by omega) (by omega)]
        by_cases cy : y = -1
        · refine wq_t cy (hk _ ⟨rfl, rfl, ⟨show 0 ≤ u4 + 1 by omega, show u4 + 1 ≤ (L.length : Int) by omega⟩, ?_, hst, d2, F2⟩ (show ((L.length : Int) - (u4 + 1)).toNat < ((L.length : Int) - u4).toNat by omega))
          show skB V (br V w) (L.drop (L.length - (u4 + 1).toNat)) (-1) (-1)
          rw [show (u4 + 1).toNat = u4.toNat + 1 by omega, hdr]
          exact ⟨-1, -1, e4, Or.inr ⟨rfl, by rw [← cy]; rw [cy] at d1; rw [cy]; exact d1, Or.inl ⟨rfl, rfl⟩⟩⟩
        · refine wq_e cy ?_
          have hsk : skB V (br V w) (x :: L.drop (L.length - u4.toNat)) y x.1 := ⟨-1, -1, e4, Or.inr ⟨rfl, d1, Or.inr ⟨cy, rfl⟩⟩⟩
          have hskL := skB_app hsk cy (L.take (L.length - (u4.toNat + 1)))
          rw [← hdr, List.take_append_drop] at hskL
          dsimp only
          rcases hk0 with d | d
          · subst d
            exact wq_e (fun z => z (by decide)) (wq_some ⟨⟨_, a1, Or.inr ⟨c2, L, y, x.1, c3, hskL, by rw [if_pos rfl]⟩⟩, d2, F2⟩)
          · subst d
            exact wq_t (by decide) (wq_some ⟨⟨_, a1, Or.inr ⟨c2, L, y, x.1, c3, hskL, by rw [if_neg (by decide)]⟩⟩, d2, F2⟩)
    · refine ⟨rfl, rfl, ⟨Int.le_refl _, by show (0 : Int) ≤ _; omega⟩, ?_, c5, b3, F8⟩
      show skB V (br V w) (L.drop (L.length - 0)) (-1) (-1)
      rw [Nat.sub_zero, List.drop_length]
      exact ⟨rfl, rfl⟩
    · show ((L.length : Int) - 0).toNat < 1000000000
      omega
