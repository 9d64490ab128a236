/-- a step back from a place: the street by which one comes there in the hour of arrival -/
def stB (V : Mm) (R : List (Int × Int × Int)) (b : Int) (arr : Int → Int) (p s : Int) : Prop := (0 ≤ s ∧ s < nS V) ∧ oth V s p ≠ -1 ∧ arr (oth V s p) ≤ arr p - tk V s ∧ fre V R s b (arr p - tk V s) ∧ ∀ x : Int, arr (oth V s p) ≤ x → x < arr p - tk V s → ¬ fre V R s b x
def fsB (V : Mm) (R : List (Int × Int × Int)) (b : Int) (arr : Int → Int) (p s : Int) : Prop := stB V R b arr p s ∧ ∀ s' : Int, s' < s → ¬ stB V R b arr p s'
def wpB (V : Mm) (R : List (Int × Int × Int)) (b a : Int) (arr : Int → Int) : List (Int × Int) → Int → Int → Prop
  | [], p, q => p = q
  | x :: L, p, q => p ≠ a ∧ fsB V R b arr p x.1 ∧ x.2 = arr p - tk V x.1 ∧ wpB V R b a arr L (oth V x.1 p) q
theorem fsB_un {V : Mm} {R : List (Int × Int × Int)} {b : Int} {arr : Int → Int} {p s s' : Int} (h : fsB V R b arr p s) (h' : fsB V R b arr p s') : s = s' := by
  rcases Int.lt_trichotomy s s' with c | c | c
  · exact absurd h.1 (h'.2 s c)
  · exact c
  · exact absurd h'.1 (h.2 s' c)
theorem wpB_un {V : Mm} {R : List (Int × Int × Int)} {b a : Int} {arr : Int → Int} : ∀ (L L' : List (Int × Int)) (p : Int), wpB V R b a arr L p a → wpB V R b a arr L' p a → L = L'
  | [], [], _, _, _ => rfl
  | [], x :: L', p, h, h' => absurd h h'.1
  | x :: L, [], p, h, h' => absurd h' h.1
  | x :: L, y :: L', p, h, h' => by
    obtain ⟨-, h2, h3, h4⟩ := h
    obtain ⟨-, g2, g3, g4⟩ := h'
    have e1 : x.1 = y.1 := fsB_un h2 g2
    have e2 : x.2 = y.2 := by rw [h3, g3, e1]
    rw [← e1] at g4
    rw [Prod.ext e1 e2, wpB_un L L' _ h4 g4]
theorem wpB_snoc {V : Mm} {R : List (Int × Int × Int)} {b a : Int} {arr : Int → Int} {s h : Int} : ∀ (L : List (Int × Int)) (p q : Int), wpB V R b a arr L p q → q ≠ a → fsB V R b arr q s → h = arr q - tk V s → wpB V R b a arr (L ++ [(s, h)]) p (oth V s q)
  | [], p, q, h1, h2, h3, h4 => by cases h1; exact ⟨h2, h3, h4, rfl⟩
  | x :: L, p, q, h1, h2, h3, h4 => ⟨h1.1, h1.2.1, h1.2.2.1, wpB_snoc L _ q h1.2.2.2 h2 h3 h4⟩
theorem stB_in {V : Mm} {R : List (Int × Int × Int)} {b : Int} {arr : Int → Int} {p s : Int} (hT : Tw V) (h : stB V R b arr p s) : (0 ≤ p ∧ p < 9) ∧ (0 ≤ oth V s p ∧ oth V s p < 9) ∧ arr (oth V s p) < arr p := by
  obtain ⟨⟨h1, h2⟩, h3, h4, -⟩ := h
  have he := oth_edg (wo := -1) h1 h2 (by omega) h3
  have := edg_in hT he
  have := (hT.2.2.2.1 s h1 h2).2.2.2.1
  exact ⟨by omega, by omega, by omega⟩
theorem stB_cg {V : Mm} {R : List (Int × Int × Int)} {b : Int} {arr arr' : Int → Int} {p s : Int} (hT : Tw V) (e : ∀ y : Int, 0 ≤ y → y < 9 → arr' y = arr y) (h : stB V R b arr p s) : stB V R b arr' p s := by
  obtain ⟨a1, a2, -⟩ := stB_in hT h
  obtain ⟨h1, h2, h3, h4, h5⟩ := h
  unfold stB
  rw [e p a1.1 a1.2, e _ a2.1 a2.2]
  exact ⟨h1, h2, h3, h4, h5⟩
theorem fsB_cg {V : Mm} {R : List (Int × Int × Int)} {b : Int} {arr arr' : Int → Int} {p s : Int} (hT : Tw V) (e : ∀ y : Int, 0 ≤ y → y < 9 → arr' y = arr y) (h : fsB V R b arr p s) : fsB V R b arr' p s :=
  ⟨stB_cg hT e h.1, fun s' hs hz => h.2 s' hs (stB_cg hT (fun y y1 y2 => (e y y1 y2).symm) hz)⟩
theorem wpB_cg {V : Mm} {R : List (Int × Int × Int)} {b a : Int} {arr arr' : Int → Int} (hT : Tw V) (e : ∀ y : Int, 0 ≤ y → y < 9 → arr' y = arr y) : ∀ (L : List (Int × Int)) (p q : Int), wpB V R b a arr L p q → wpB V R b a arr' L p q
  | [], _, _, h => h
  | x :: L, p, q, h => by
    obtain ⟨a1, -, -⟩ := stB_in hT h.2.1.1
    exact ⟨h.1, fsB_cg hT e h.2.1, by rw [e p a1.1 a1.2]; exact h.2.2.1, wpB_cg hT e L _ q h.2.2.2⟩
/-- where one can be, one has come from somewhere -/
theorem stB_ex {V : Mm} {R : List (Int × Int × Int)} {b lim a t : Int} {arr : Int → Int} (hT : Tw V) (hl : t ≤ lim) (hl2 : lim < 1000000) (h : isA V R b (-1) lim a t arr) {p : Int} (h1 : 0 ≤ p) (h2 : p < 9) (hp : p ≠ a) (hn : arr p ≠ 1000000) : ∃ s, stB V R b arr p s := by
  rcases h.2.2 p h1 h2 with e | ⟨n, e⟩
  · exact absurd e hn
  · match n, e with
    | 0, e => exact absurd e.1 hp
    | n + 1, e =>
      obtain ⟨p', h', s, x, q1, q2, q3, q4, q5, q6⟩ := e
      have hle := isA_le hT hl hl2 h n p' h' q1
      have hr := rch_rng hT hl n p' h' q1
      have hin := edg_in hT q2
      have hin2 := edg_nP hT q2
      have he : oth V s p = p' := by
        have hne := (hT.2.2.2.1 s q2.1 q2.2.1).2.2.1
        unfold oth
        rcases q2.2.2.2 with ⟨z1, z2⟩ | ⟨z1, z2⟩
        · rw [if_neg (fun z => hne (z.trans z2.symm)), if_pos z2, z1]
        · rw [if_pos z2, z1]
      refine ⟨s, ⟨q2.1, q2.2.1⟩, by omega, ?_, ?_, fun y y1 y2 y3 => ?_⟩
      · rw [he]; omega
      · rw [show arr p - tk V s = x by omega]; exact q4
      · rw [he] at y1
        have := h.2.1 s p' p q2 (by omega) y y1 y3 (by omega)
        omega
theorem sum9_lt {f g : Int → Int} {p : Int} (h : ∀ y : Int, 0 ≤ y → y < 9 → f y ≤ g y) (h1 : 0 ≤ p) (h2 : p < 9) (h3 : f p < g p) : sum9 f < sum9 g := by
  have h0 := h 0 (by omega) (by omega)
  have g1 := h 1 (by omega) (by omega)
  have g2 := h 2 (by omega) (by omega)
  have g3 := h 3 (by omega) (by omega)
  have g4 := h 4 (by omega) (by omega)
  have g5 := h 5 (by omega) (by omega)
  have g6 := h 6 (by omega) (by omega)
  have g7 := h 7 (by omega) (by omega)
  have g8 := h 8 (by omega) (by omega)
  unfold sum9
  obtain c | c | c | c | c | c | c | c | c : p = 0 ∨ p = 1 ∨ p = 2 ∨ p = 3 ∨ p = 4 ∨ p = 5 ∨ p = 6 ∨ p = 7 ∨ p = 8 := by omega
  all_goals (subst c; omega)
/-- how many places are come to sooner -/
def cl9 (arr : Int → Int) (p : Int) : Int := sum9 fun q => if arr q < arr p then 1 else 0
theorem cl9_le {arr : Int → Int} {p : Int} (h1 : 0 ≤ p) (h2 : p < 9) : cl9 arr p ≤ 8 := by
  have : cl9 arr p < sum9 (fun _ => 1) := by
    refine sum9_lt (fun y _ _ => ?_) h1 h2 ?_
    · show (if arr y < arr p then (1 : Int) else 0) ≤ 1
      split <;> omega
    · show (if arr p < arr p then (1 : Int) else 0) < 1
      rw [if_neg (by omega)]; omega
  have e : sum9 (fun _ => (1 : Int)) = 9 := rfl
  omega
theorem cl9_nn (arr : Int → Int) (p : Int) : 0 ≤ cl9 arr p := by
  unfold cl9
  refine (sum9_rng (fun y _ _ => ?_)).1
  split <;> omega
theorem cl9_dec {arr : Int → Int} {p p' : Int} (h1 : 0 ≤ p') (h2 : p' < 9) (h : arr p' < arr p) : cl9 arr p' < cl9 arr p := by
  unfold cl9
  refine sum9_lt (fun y _ _ => ?_) h1 h2 ?_
  · show (if arr y < arr p' then (1 : Int) else 0) ≤ (if arr y < arr p then 1 else 0)
    split
    · rw [if_pos (by omega)]; exact Int.le_refl _
    · split <;> omega
  · show (if arr p' < arr p' then (1 : Int) else 0) < (if arr p' < arr p then 1 else 0)
    rw [if_neg (by omega), if_pos h]; omega
/-- the steps that a row holds -/
def stpC (M : Mm) (L : List (Int × Int)) : Prop := M 48 6 = (L.length : Int) ∧ ∀ (k : Nat) q, L[k]? = some q → M 50 k = q.1 ∧ M 51 k = q.2
def stpM (M : Mm) (L : List (Int × Int)) : Prop := M 78 51 = (L.length : Int) ∧ ∀ (k : Nat) q, L[k]? = some q → M 111 k = q.1 ∧ M 112 k = q.2
theorem e_other {V M : Mm} (hT : Tw V) (h : Rm V M) {s p : Int} (h1 : 0 ≤ s) (h2 : s < nS V) (h3 : -1000000 ≤ p) (h4 : p ≤ 1000000) : f_M_other s p M = some (oth V s p, M) := by
  have hP := hT.1.2
  have hS := hT.2.1.2
  obtain ⟨a1, a2, -⟩ := hT.2.2.2.1 s h1 h2
  unfold f_M_other oth
  rw [e_end0 h h1 (by omega), bI_s, e_end1 h h1 (by omega), bI_s, bI_s, i32_id (x := eF V s) (by omega) (by omega), i32_id (x := eT V s) (by omega) (by omega), i32_id (x := p) (by omega) (by omega)]
  by_cases c1 : eF V s = p
  · rw [if_neg (fun z => z c1), if_pos c1]
  · rw [if_pos c1, if_neg c1]
    by_cases c2 : eT V s = p
    · rw [if_neg (fun z => z c2), if_pos c2, e_end0 h h1 (by omega), bI_s]
    · rw [if_pos c2, if_neg c2]
def fwL : List (Nat × Nat) := [(110, 99999), (78, 43), (106, 99999), (107, 99999), (78, 51), (111, 99999), (112, 99999)]
theorem Rm.spr {V M M' : Mm} (h : Rm V M) (hF : Fr fwL M M') : Rm V M' := h.fr hF rfl
theorem stpM_put {M : Mm} {L : List (Int × Int)} {s h : Int} (hs : stpM M L) : stpM (up (up (up M 111 (M 78 51).toNat s) 112 (M 78 51).toNat h) 78 51 (M 78 51 + 1)) (L ++ [(s, h)]) := by
  obtain ⟨h1, h2⟩ := hs
  have hn : (M 78 51).toNat = L.length := by omega
  refine ⟨by rw [up_eq, h1]; simp, fun k q hq => ?_⟩
  rw [up_row (by decide : ¬ (111 = 78)), up_row (by decide : ¬ (112 = 78)), up_row (by decide : ¬ (111 = 112)), hn, up_at, up_at, up_row (by decide : ¬ (112 = 111))]
  rcases Nat.lt_trichotomy k L.length with c | c | c
  · rw [List.getElem?_append_left c] at hq
    rw [if_neg (fun z => by omega), if_neg (fun z => by omega)]
    exact h2 k q hq
  · subst c
    rw [List.getElem?_append_right (Nat.le_refl _), Nat.sub_self] at hq
    cases hq
    rw [if_pos ⟨rfl, rfl⟩, if_pos ⟨rfl, rfl⟩]
    exact ⟨rfl, rfl⟩
  · rw [List.getElem?_eq_none (by simp; omega)] at hq
    cases hq
theorem s_stepsBack {V M : Mm} {R : List (Int × Int × Int)} {L : List (Int × Int)} {lim t w p g : Int} (hT : Tw V) (hN : Nw V) (h : Rm V M) (hB : bzM M R) (hR : rdOk R) (h1 : 0 ≤ w) (h2 : w < nW V) (ht0 : 0 ≤ t) (hl : t ≤ lim) (hl2 : lim ≤ 100000) (hA : isA V R (br V w) (-1) lim (pl V w) t (ar M 110)) (hp1 : 0 ≤ p) (hp2 : p < 9) (hp : p ≠ pl V w) (hn : ar M 110 p ≠ 1000000) (hs : stpM M L) (hL : L.length < 12) :
    wq (f_M_stepsBack w p M) (fun q => ∃ s, fsB V R (br V w) (ar M 110) p s ∧ q.1 = oth V s p ∧ stpM q.2 (L ++ [(s, ar M 110 p - tk V s)]) ∧ q.2 110 = M 110 ∧ Rm V q.2 ∧ Fr fwL M q.2) := by
  have hS := hT.2.1
  have hW := hT.2.2.1
  have hb := (hT.2.2.2.2 w h1 h2).1
  have hap := Sp_rng hT hl hA.2.2 hp1 hp2
  obtain ⟨sx, hsx⟩ := stB_ex hT hl (by omega) hA hp1 hp2 hp hn
  unfold f_M_stepsBack f_M_stepsBack_L2
  refine wq_lp (fun z => z.1 = w ∧ z.2.1 = p ∧ (0 ≤ z.2.2.1 ∧ z.2.2.1 ≤ nS V) ∧ (∀ s : Int, s < z.2.2.1 → ¬ stB V R (br V w) (ar M 110) p s) ∧ Rm V z.2.2.2 ∧ Fr wsL M z.2.2.2) (fun z => (nS V - z.2.2.1).toNat) ?_ FU _ ?_ ?_
  · rintro kH ⟨v1, v2, v3, M1⟩ ⟨q1, q2, q3, q4, q5, q6⟩ hk
    have e1 : v1 = w := q1
    have e2 : v2 = p := q2
    subst e1 e2
    have e3 : 0 ≤ v3 ∧ v3 ≤ nS V := q3
    have e4 : ∀ s : Int, s < v3 → ¬ stB V R (br V v1) (ar M 110) v2 s := q4
    have e5 : Rm V M1 := q5
    have e6 : Fr wsL M M1 := q6
    clear q1 q2 q3 q4 q5 q6
    have e110 : M1 110 = M 110 := e6.row 110 rfl
    have ep : M1 110 v2.toNat = ar M 110 v2 := by rw [e110]; rfl
    show wq (f_M_stepsBack_B2 (fun v1 v2 v3 M => kH (v1, v2, v3, M)) _ v1 v2 v3 M1) _
    unfold f_M_stepsBack_B2
    rw [e_mS e5, bI_s, i32_id (x := nS V) (by omega) (by omega), i32_id (x := v3) (by omega) (by omega)]
    refine wq_if (fun c => absurd hsx (e4 sx (by have := hsx.1; omega))) (fun c => ?_)
    have hnext : ∀ M', Rm V M' → Fr wsL M M' → ¬ stB V R (br V v1) (ar M 110) v2 v3 → wq (kH (v1, v2, v3 + 1, M')) (fun q => ∃ s, fsB V R (br V v1) (ar M 110) v2 s ∧ q.1 = oth V s v2 ∧ stpM q.2 (L ++ [(s, ar M 110 v2 - tk V s)]) ∧ q.2 110 = M 110 ∧ Rm V q.2 ∧ Fr fwL M q.2) := by
      intro M' z1 z2 z3
      refine hk _ ⟨rfl, rfl, ⟨show 0 ≤ v3 + 1 by omega, show v3 + 1 ≤ nS V by omega⟩, fun s hs => ?_, z1, z2⟩ (show (nS V - (v3 + 1)).toNat < (nS V - v3).toNat by omega)
      have hs : s < v3 + 1 := hs
      by_cases es : s = v3
      · subst es; exact z3
      · exact e4 s (by omega)
    clear hk
    rw [e_other hT e5 e3.1 (by omega) (by omega) (by omega), bI_s]
    have hor : oth V v3 v2 ≠ -1 → 0 ≤ oth V v3 v2 ∧ oth V v3 v2 < 9 := fun z => (edg_in hT (oth_edg (wo := -2) e3.1 (by omega) (by omega) z)).2.1
    have hor2 : -1 ≤ oth V v3 v2 ∧ oth V v3 v2 < 9 := by
      by_cases z : oth V v3 v2 = -1
      · omega
      · have := hor z; omega
    rw [i32_id (x := oth V v3 v2) (by omega) (by omega), i32_id (x := -1) (by omega) (by omega)]
    by_cases c1 : oth V v3 v2 = -1
    · exact wq_t c1 (hnext M1 e5 e6 (fun z => z.2.1 c1))
    obtain ⟨o1, o2⟩ := hor c1
    have hao := Sp_rng hT hl hA.2.2 o1 o2
    have eo : M1 110 (oth V v3 v2).toNat = ar M 110 (oth V v3 v2) := by rw [e110]; rfl
    have htk := (hT.2.2.2.1 v3 e3.1 (by omega)).2.2.2.1
    refine wq_e c1 (wq_g (by omega) ?_)
    rw [eo, i32_id (x := ar M 110 (oth V v3 v2)) (by omega) (by omega), i32_id (x := 1000000) (by omega) (by omega)]
    by_cases c2 : ar M 110 (oth V v3 v2) = 1000000
    · refine wq_e (fun z => z c2) (hnext M1 e5 e6 (fun z => ?_))
      have := z.2.2.1
      omega
    · rw [e_broad e5 h1 (by omega), bI_s, i32_id (x := v2) (by omega) (by omega), eo, ep]
      refine wq_t c2 (wq_g (by omega) (wq_g (by omega) (wq_I (s_taken hT hN e5 (hB.fr e6 rfl) hR e3.1 (by omega) (by omega) (by omega) (show 0 ≤ ar M 110 (oth V v3 v2) by omega) (by omega) (show -1000 ≤ ar M 110 v2 by omega) (by omega)) (fun r M2 ⟨y1, y2, y3⟩ => ?_))))
      have w1 : isF (fre V R v3 (br V v1)) (ar M 110 (oth V v3 v2)) (ar M 110 v2 - tk V v3) 1000000 r := y1
      have w2 : Rm V M2 := y2
      have w3 : Fr wsL M M2 := e6.tr y3
      clear y1 y2 y3
      have f110 : M2 110 = M 110 := w3.row 110 rfl
      rcases w1 with ⟨x1, x2⟩ | ⟨x1, x2, x3, x4⟩
      · subst x1
        refine wq_t rfl (hnext M2 w2 w3 (fun z => ?_))
        exact x2 _ z.2.2.1 (Int.le_refl _) z.2.2.2.1
      · rw [i32_id (x := r) (by omega) (by omega)]
        refine wq_e (by omega) ?_
        have fp : M2 110 v2.toNat = ar M 110 v2 := by rw [f110]; rfl
        rw [e_takes w2 e3.1 (by omega), bI_s, fp, i32_id (x := r + tk V v3) (by omega) (by omega), i32_id (x := ar M 110 v2) (by omega) (by omega)]
        refine wq_g (by omega) ?_
        by_cases c3 : r + tk V v3 = ar M 110 v2
        · refine wq_t c3 ?_
          have hst : stB V R (br V v1) (ar M 110) v2 v3 := ⟨⟨e3.1, by omega⟩, c1, by omega, by rw [show ar M 110 v2 - tk V v3 = r by omega]; exact x3, fun x y1 y2 => x4 x y1 (by omega)⟩
          have hs2 : stpM M2 L := by
            unfold stpM
            rw [w3.at 78 51 rfl, w3.row 111 rfl, w3.row 112 rfl]
            exact hs
          have hlen : M2 78 51 = (L.length : Int) := hs2.1
          dsimp only
          rw [i32_id (x := M2 78 51) (by omega) (by omega)]
          refine wq_g (by omega) (wq_d ?_)
          rw [up_row (by decide : ¬ (78 = 111)), i32_id (x := M2 78 51) (by omega) (by omega)]
          refine wq_g (by omega) (wq_d (wq_d ?_))
          rw [up_row (by decide : ¬ (78 = 112)), up_row (by decide : ¬ (78 = 111))]
          have F3 : Fr fwL M (up (up (up M2 111 (M2 78 51).toNat v3) 112 (M2 78 51).toNat r) 78 51 (M2 78 51 + 1)) := (((w3.cov rfl : Fr fwL M M2).up (by simp [fwL])).up (by simp [fwL])).up (by simp [fwL])
          refine wq_some ⟨v3, ⟨hst, fun s' hs' => e4 s' hs'⟩, rfl, ?_, ?_, h.spr F3, F3⟩
          · rw [show ar M 110 v2 - tk V v3 = r by omega]
            exact stpM_put hs2
          · show up (up (up M2 111 (M2 78 51).toNat v3) 112 (M2 78 51).toNat r) 78 51 (M2 78 51 + 1) 110 = M 110
            rw [up_row (by decide : ¬ (110 = 78)), up_row (by decide : ¬ (110 = 112)), up_row (by decide : ¬ (110 = 111))]
            exact f110
        · refine wq_e c3 (hnext M2 w2 w3 (fun z => ?_))
          have z3 := z.2.2.2.1
          rcases Int.lt_trichotomy r (ar M 110 v2 - tk V v3) with y | y | y
          · exact z.2.2.2.2 r x1 y x3
          · omega
          · omega
  · exact ⟨rfl, rfl, ⟨Int.le_refl _, hS.1⟩, fun s hs hz => absurd hz.1.1 (by have hs : s < 0 := hs; omega), h, Fr.rf⟩
  · show (nS V - 0).toNat < 1000000000
    omega
