/-- a street that is not left out, from one place to another -/
def edg (V : Mm) (wo s p q : Int) : Prop := 0 ≤ s ∧ s < nS V ∧ s ≠ wo ∧ ((eF V s = p ∧ eT V s = q) ∨ (eT V s = p ∧ eF V s = q))
/-- one can be at a place in an hour, by so many streets -/
def rch (V : Mm) (R : List (Int × Int × Int)) (b wo lim a t : Int) : Nat → Int → Int → Prop
  | 0, p, h => p = a ∧ h = t
  | n + 1, p, h => ∃ p' h' s x, rch V R b wo lim a t n p' h' ∧ edg V wo s p' p ∧ h' ≤ x ∧ fre V R s b x ∧ h = x + tk V s ∧ h ≤ lim
def Sp (V : Mm) (R : List (Int × Int × Int)) (b wo lim a t : Int) (arr : Int → Int) : Prop := ∀ p : Int, 0 ≤ p → p < 9 → arr p = 1000000 ∨ ∃ n, rch V R b wo lim a t n p (arr p)
/-- a street's passing from p to q is no news -/
def rlx (V : Mm) (R : List (Int × Int × Int)) (b lim : Int) (arr : Int → Int) (s p q : Int) : Prop := arr p ≠ 1000000 → ∀ x : Int, arr p ≤ x → fre V R s b x → x + tk V s ≤ lim → arr q ≤ x + tk V s
/-- these are the arrivals -/
def isA (V : Mm) (R : List (Int × Int × Int)) (b wo lim a t : Int) (arr : Int → Int) : Prop := arr a = t ∧ (∀ s p q : Int, edg V wo s p q → rlx V R b lim arr s p q) ∧ Sp V R b wo lim a t arr
theorem edg_in {V : Mm} (hT : Tw V) {wo s p q : Int} (h : edg V wo s p q) : (0 ≤ p ∧ p < 9) ∧ (0 ≤ q ∧ q < 9) ∧ p ≠ q := by
  obtain ⟨⟨-, hP⟩, -, -, hTs, -⟩ := hT
  obtain ⟨h1, h2, -, h3⟩ := h
  obtain ⟨a1, a2, a3, -⟩ := hTs s h1 h2
  rcases h3 with ⟨e1, e2⟩ | ⟨e1, e2⟩ <;> subst e1 <;> subst e2
  · exact ⟨⟨a1.1, by omega⟩, ⟨a2.1, by omega⟩, a3⟩
  · exact ⟨⟨a2.1, by omega⟩, ⟨a1.1, by omega⟩, fun q => a3 q.symm⟩
theorem rch_rng {V : Mm} {R : List (Int × Int × Int)} {b wo lim a t : Int} (hT : Tw V) (hl : t ≤ lim) : ∀ (n : Nat) (p h : Int), rch V R b wo lim a t n p h → t ≤ h ∧ h ≤ lim
  | 0, p, h, q => by obtain ⟨-, e⟩ := q; omega
  | n + 1, p, h, q => by
    obtain ⟨p', h', s, x, q1, q2, q3, -, q5, q6⟩ := q
    have := (rch_rng hT hl n p' h' q1).1
    have ht := (hT.2.2.2.1 s q2.1 q2.2.1).2.2.2.1
    omega
theorem Sp_rng {V : Mm} {R : List (Int × Int × Int)} {b wo lim a t : Int} {arr : Int → Int} (hT : Tw V) (hl : t ≤ lim) (h : Sp V R b wo lim a t arr) {p : Int} (h1 : 0 ≤ p) (h2 : p < 9) : arr p = 1000000 ∨ (t ≤ arr p ∧ arr p ≤ lim) := by
  rcases h p h1 h2 with e | ⟨n, e⟩
  · exact Or.inl e
  · exact Or.inr (rch_rng hT hl n _ _ e)
theorem isA_le {V : Mm} {R : List (Int × Int × Int)} {b wo lim a t : Int} {arr : Int → Int} (hT : Tw V) (hl : t ≤ lim) (hl2 : lim < 1000000) (h : isA V R b wo lim a t arr) : ∀ (n : Nat) (p k : Int), rch V R b wo lim a t n p k → arr p ≤ k
  | 0, p, k, q => by obtain ⟨e1, e2⟩ := q; subst e1 e2; exact Int.le_of_eq h.1
  | n + 1, p, k, q => by
    obtain ⟨p', k', s, x, q1, q2, q3, q4, q5, q6⟩ := q
    have ih := isA_le hT hl hl2 h n p' k' q1
    have hr := rch_rng hT hl n p' k' q1
    rw [q5]
    exact h.2.1 s p' p q2 (by omega) x (by omega) q4 (by omega)
theorem isA_un {V : Mm} {R : List (Int × Int × Int)} {b wo lim a t : Int} {arr arr' : Int → Int} (hT : Tw V) (hl : t ≤ lim) (hl2 : lim < 1000000) (h : isA V R b wo lim a t arr) (h' : isA V R b wo lim a t arr') {p : Int} (h1 : 0 ≤ p) (h2 : p < 9) : arr p = arr' p := by
  have key : ∀ {f g : Int → Int}, isA V R b wo lim a t f → isA V R b wo lim a t g → f p ≤ g p := by
    intro f g hf hg
    rcases hg.2.2 p h1 h2 with e | ⟨n, e⟩
    · rcases Sp_rng hT hl hf.2.2 h1 h2 with q | q <;> omega
    · exact isA_le hT hl hl2 hf n p _ e
  exact Int.le_antisymm (key h h') (key h' h)
theorem Sp_put {V : Mm} {R : List (Int × Int × Int)} {b wo lim a t : Int} {arr arr' : Int → Int} (h : Sp V R b wo lim a t arr) {s p q x : Int} (he : edg V wo s p q) (hp : 0 ≤ p) (hp2 : p < 9) (hn : arr p ≠ 1000000) (hx : arr p ≤ x) (hf : fre V R s b x) (hl : x + tk V s ≤ lim) (e : ∀ y : Int, 0 ≤ y → y < 9 → arr' y = if y = q then x + tk V s else arr y) : Sp V R b wo lim a t arr' := by
  intro y y1 y2
  rw [e y y1 y2]
  by_cases c : y = q
  · subst c
    rw [if_pos rfl]
    rcases h p hp hp2 with g | ⟨n, g⟩
    · exact absurd g hn
    · exact Or.inr ⟨n + 1, p, arr p, s, x, g, he, hx, hf, rfl, hl⟩
  · rw [if_neg c]
    exact h y y1 y2
/-- the arrivals that a row holds -/
def ar (M : Mm) (row : Nat) : Int → Int := fun p => M row p.toNat
theorem ar_up (M : Mm) (row : Nat) (q v : Int) (hq : 0 ≤ q) (y : Int) (hy : 0 ≤ y) : ar (up M row q.toNat v) row y = if y = q then v else ar M row y := by
  unfold ar
  rw [up_at]
  by_cases c : y = q
  · subst c; rw [if_pos ⟨rfl, rfl⟩, if_pos rfl]
  · rw [if_neg (fun z => c (by omega)), if_neg c]
def sum9 (f : Int → Int) : Int := f 0 + f 1 + f 2 + f 3 + f 4 + f 5 + f 6 + f 7 + f 8
theorem sum9_put {f g : Int → Int} {q v : Int} (h1 : 0 ≤ q) (h2 : q < 9) (hv : v < f q) (e : ∀ y : Int, 0 ≤ y → y < 9 → g y = if y = q then v else f y) : sum9 g < sum9 f := by
  unfold sum9
  rw [e 0 (by omega) (by omega), e 1 (by omega) (by omega), e 2 (by omega) (by omega), e 3 (by omega) (by omega), e 4 (by omega) (by omega), e 5 (by omega) (by omega), e 6 (by omega) (by omega), e 7 (by omega) (by omega), e 8 (by omega) (by omega)]
  obtain c | c | c | c | c | c | c | c | c : q = 0 ∨ q = 1 ∨ q = 2 ∨ q = 3 ∨ q = 4 ∨ q = 5 ∨ q = 6 ∨ q = 7 ∨ q = 8 := by omega
  all_goals (subst c; simp; omega)
theorem sum9_rng {f : Int → Int} (h : ∀ y : Int, 0 ≤ y → y < 9 → 0 ≤ f y ∧ f y ≤ 1000000) : 0 ≤ sum9 f ∧ sum9 f ≤ 9000000 := by
  have h0 := h 0 (by omega) (by omega)
  have h1 := h 1 (by omega) (by omega)
  have h2 := h 2 (by omega) (by omega)
  have h3 := h 3 (by omega) (by omega)
  have h4 := h 4 (by omega) (by omega)
  have h5 := h 5 (by omega) (by omega)
  have h6 := h 6 (by omega) (by omega)
  have h7 := h 7 (by omega) (by omega)
  have h8 := h 8 (by omega) (by omega)
  unfold sum9
  omega
theorem sum9_cg {f g : Int → Int} (h : ∀ y : Int, 0 ≤ y → y < 9 → f y = g y) : sum9 f = sum9 g := by
  unfold sum9
  rw [h 0 (by omega) (by omega), h 1 (by omega) (by omega), h 2 (by omega) (by omega), h 3 (by omega) (by omega), h 4 (by omega) (by omega), h 5 (by omega) (by omega), h 6 (by omega) (by omega), h 7 (by omega) (by omega), h 8 (by omega) (by omega)]
/-- what holds while the reference spreads -/
def gdA (V : Mm) (R : List (Int × Int × Int)) (b wo lim a t : Int) (arr : Int → Int) : Prop := arr a = t ∧ Sp V R b wo lim a t arr
def spL : List (Nat × Nat) := [(110, 99999), (78, 43), (106, 99999), (107, 99999)]
theorem gdA_put {V : Mm} {R : List (Int × Int × Int)} {b wo lim a t : Int} {arr arr' : Int → Int} (hT : Tw V) (hl : t ≤ lim) (ha : 0 ≤ a ∧ a < 9) (h : gdA V R b wo lim a t arr) {s p q x : Int} (he : edg V wo s p q) (hn : arr p ≠ 1000000) (hx : arr p ≤ x) (hf : fre V R s b x) (hl2 : x + tk V s ≤ lim) (hlt : x + tk V s < arr q) (e : ∀ y : Int, 0 ≤ y → y < 9 → arr' y = if y = q then x + tk V s else arr y) : gdA V R b wo lim a t arr' := by
  obtain ⟨⟨p1, p2⟩, -, -⟩ := edg_in hT he
  refine ⟨?_, Sp_put h.2 he p1 p2 hn hx hf hl2 e⟩
  rw [e a ha.1 ha.2]
  by_cases c : a = q
  · subst c
    rcases Sp_rng hT hl h.2 p1 p2 with z | z
    · exact absurd z hn
    · have := h.1
      have ht := (hT.2.2.2.1 s he.1 he.2.1).2.2.2.1
      omega
  · rw [if_neg c]; exact h.1
theorem s_improves {V M : Mm} {R : List (Int × Int × Int)} {b wo lim a t s p q : Int} (hT : Tw V) (hN : Nw V) (h : Rm V M) (hB : bzM M R) (hR : rdOk R) (hb1 : -1000000 ≤ b) (hb2 : b ≤ 1000000) (ht0 : 0 ≤ t) (hl : t ≤ lim) (hl2 : lim ≤ 100000) (hg : gdA V R b wo lim a t (ar M 110)) (he : edg V wo s p q) :
    wq (f_M_improves s p q b lim M) (fun z => ((z.1 = 0 ∧ z.2 110 = M 110 ∧ rlx V R b lim (ar M 110) s p q) ∨ (z.1 = 1 ∧ ∃ x, ar M 110 p ≠ 1000000 ∧ ar M 110 p ≤ x ∧ fre V R s b x ∧ x + tk V s ≤ lim ∧ x + tk V s < ar M 110 q ∧ ∀ y : Int, 0 ≤ y → ar z.2 110 y = if y = q then x + tk V s else ar M 110 y)) ∧ Rm V z.2 ∧ Fr spL M z.2) := by
  obtain ⟨⟨p1, p2⟩, ⟨q1, q2⟩, hpq⟩ := edg_in hT he
  have hp := Sp_rng hT hl hg.2 p1 p2
  have hq := Sp_rng hT hl hg.2 q1 q2
  obtain ⟨s1, s2, -, -⟩ := id he
  have hS := hT.2.1.2
  have htk := (hT.2.2.2.1 s s1 s2).2.2.2.1
  have ep : M 110 p.toNat = ar M 110 p := rfl
  have eq : M 110 q.toNat = ar M 110 q := rfl
  unfold f_M_improves
  rw [i32_id (x := p) (by omega) (by omega), i32_id (x := q) (by omega) (by omega), ep, eq, i32_id (x := ar M 110 p) (by omega) (by omega), i32_id (x := 1000000) (by omega) (by omega)]
  refine wq_g (by omega) ?_
  by_cases c : ar M 110 p = 1000000
  · exact wq_e (fun z => z c) (wq_some ⟨Or.inl ⟨rfl, rfl, fun z => absurd c z⟩, h, Fr.rf⟩)
  · refine wq_t c (wq_g (by omega) ?_)
    have hJ : ∀ lst : Int, lst = (if ar M 110 q - 1 < lim then ar M 110 q - 1 else lim) → wq (f_M_improves_J40 s p q b lst M) (fun z => ((z.1 = 0 ∧ z.2 110 = M 110 ∧ rlx V R b lim (ar M 110) s p q) ∨ (z.1 = 1 ∧ ∃ x, ar M 110 p ≠ 1000000 ∧ ar M 110 p ≤ x ∧ fre V R s b x ∧ x + tk V s ≤ lim ∧ x + tk V s < ar M 110 q ∧ ∀ y : Int, 0 ≤ y → ar z.2 110 y = if y = q then x + tk V s else ar M 110 y)) ∧ Rm V z.2 ∧ Fr spL M z.2) := by
      intro lst hlst
      have hlst2 : -1 ≤ lst ∧ lst ≤ lim ∧ lst ≤ ar M 110 q - 1 ∧ (lst = lim ∨ lst = ar M 110 q - 1) := by
        rw [hlst]; split <;> omega
      clear hlst
      unfold f_M_improves_J40
      rw [i32_id (x := p) (by omega) (by omega), i32_id (x := q) (by omega) (by omega), ep]
      refine wq_g (by omega) (wq_I (s_taken hT hN h hB hR s1 s2 hb1 hb2 (show 0 ≤ ar M 110 p by omega) (by omega) (show -1000 ≤ lst by omega) (by omega)) (fun r M1 ⟨er, k1, k2⟩ => ?_))
      have er : isF (fre V R s b) (ar M 110 p) (lst - tk V s) 1000000 r := er
      have k1 : Rm V M1 := k1
      have k2 : Fr wsL M M1 := k2
      have e110 : M1 110 = M 110 := k2.row 110 rfl
      rcases er with ⟨er, e2⟩ | ⟨e1, e2, e3, e4⟩
      · subst er
        refine wq_e (fun z => z rfl) (wq_some ⟨Or.inl ⟨rfl, e110, fun z x x1 x2 x3 => ?_⟩, k1, k2.cov rfl⟩)
        have : ¬ x ≤ lst - tk V s := fun w => e2 x x1 w x2
        omega
      · rw [i32_id (x := r) (by omega) (by omega), i32_id (x := 1000000) (by omega) (by omega), e_takes k1 s1 (by omega), bI_s]
        refine wq_t (by omega) (wq_g (by omega) (wq_d (wq_some ⟨Or.inr ⟨rfl, r, c, e1, e3, by omega, by omega, fun y y1 => ?_⟩, ?_, ?_⟩)))
        · show ar (up M1 110 q.toNat (r + tk V s)) 110 y = _
          rw [ar_up _ _ _ _ q1 y y1]
          unfold ar
          rw [e110]
        · exact k1.fr (l := [(110, 99999)]) (Fr.rf.up (by simp)) rfl
        · exact (k2.cov rfl : Fr spL M M1).up (by simp [spL])
    rw [i32_id (x := lim) (by omega) (by omega), i32_id (x := ar M 110 q - 1) (by omega) (by omega)]
    refine wq_if (fun d => hJ _ ?_) (fun d => wq_g (by omega) (hJ _ ?_))
    · rw [if_neg (by omega)]
    · rw [if_pos (by omega)]
/-- the reference's arrivals, spread till none is sooner -/
theorem s_spreads {V M : Mm} {R : List (Int × Int × Int)} {b wo lim a t : Int} (hT : Tw V) (hN : Nw V) (h : Rm V M) (hB : bzM M R) (hR : rdOk R) (hb1 : -1000000 ≤ b) (hb2 : b ≤ 1000000) (ht0 : 0 ≤ t) (hl : t ≤ lim) (hl2 : lim ≤ 100000) (ha : 0 ≤ a ∧ a < 9) (hw1 : -2147483648 ≤ wo) (hw2 : wo < 2147483648) :
    wq (f_M_spreads a t b lim wo M) (fun M' => isA V R b wo lim a t (ar M' 110) ∧ Rm V M' ∧ Fr spL M M') := by
  have hS := hT.2.1.2
  have hS0 := hT.2.1.1
  -- the loop over the streets
  have inner : ∀ (M0 : Mm) (kx : Int → Int → Int → Int → Mm → Option Mm) (Q : Mm → Prop), Rm V M0 → Fr spL M M0 → gdA V R b wo lim a t (ar M0 110) →
      (∀ M', Rm V M' → Fr spL M M' → gdA V R b wo lim a t (ar M' 110) → sum9 (ar M' 110) < sum9 (ar M0 110) → wq (kx b lim wo 1 M') Q) →
      (∀ M', Rm V M' → Fr spL M M' → gdA V R b wo lim a t (ar M' 110) → (∀ y : Int, ar M' 110 y = ar M0 110 y) → (∀ s p q : Int, edg V wo s p q → rlx V R b lim (ar M' 110) s p q) → wq (kx b lim wo 0 M') Q) → wq (f_M_spreads_L47 kx FU (b, lim, wo, 0, 0, M0)) Q := by
    intro M0 kx Q r0 f0 g0 k1 k0
    unfold f_M_spreads_L47
    refine wq_lp (fun z => z.1 = b ∧ z.2.1 = lim ∧ z.2.2.1 = wo ∧ (0 ≤ z.2.2.2.2.1 ∧ z.2.2.2.2.1 ≤ nS V) ∧ Rm V z.2.2.2.2.2 ∧ Fr spL M z.2.2.2.2.2 ∧ gdA V R b wo lim a t (ar z.2.2.2.2.2 110) ∧ ((z.2.2.2.1 = 1 ∧ sum9 (ar z.2.2.2.2.2 110) < sum9 (ar M0 110)) ∨ (z.2.2.2.1 = 0 ∧ z.2.2.2.2.2 110 = M0 110 ∧ ∀ s p q : Int, s < z.2.2.2.2.1 → edg V wo s p q → rlx V R b lim (ar M0 110) s p q))) (fun z => (nS V - z.2.2.2.2.1).toNat) ?_ FU _ ?_ ?_
    · rintro kH ⟨v3, v4, v5, v6, v7, M1⟩ ⟨e1, e2, e3, e4, e5, e6, e7, e8⟩ hk
      have e1 : v3 = b := e1
      have e2 : v4 = lim := e2
      have e3 : v5 = wo := e3
      subst e1 e2 e3
      have e4 : 0 ≤ v7 ∧ v7 ≤ nS V := e4
      have e5 : Rm V M1 := e5
      have e6 : Fr spL M M1 := e6
      have e7 : gdA V R v3 v5 v4 a t (ar M1 110) := e7
      have e8 : (v6 = 1 ∧ sum9 (ar M1 110) < sum9 (ar M0 110)) ∨ (v6 = 0 ∧ M1 110 = M0 110 ∧ ∀ s p q : Int, s < v7 → edg V v5 s p q → rlx V R v3 v4 (ar M0 110) s p q) := e8
      show wq (f_M_spreads_B47 (fun v3 v4 v5 v6 v7 M => kH (v3, v4, v5, v6, v7, M)) kx v3 v4 v5 v6 v7 M1) _
      unfold f_M_spreads_B47
      rw [e_mS e5, bI_s, i32_id (x := nS V) (by omega) (by omega), i32_id (x := v7) (by omega) (by omega), i32_id (x := v5) hw1 hw2]
      refine wq_if (fun c => ?_) (fun c => ?_)
      · have ev : v7 = nS V := by omega
        rcases e8 with ⟨z1, z2⟩ | ⟨z1, z2, z3⟩
        · subst z1; exact k1 M1 e5 e6 e7 z2
        · subst z1
          have ea : ar M1 110 = ar M0 110 := by unfold ar; rw [z2]
          refine k0 M1 e5 e6 e7 (fun y => by rw [ea]) (fun s p q he => ?_)
          rw [ea]
          exact z3 s p q (by rw [ev]; exact he.2.1) he
      · have hnext : ∀ (w : Int) (M' : Mm), Rm V M' → Fr spL M M' → gdA V R v3 v5 v4 a t (ar M' 110) → ((w = 1 ∧ sum9 (ar M' 110) < sum9 (ar M0 110)) ∨ (w = 0 ∧ M' 110 = M0 110 ∧ ∀ s p q : Int, s < v7 + 1 → edg V v5 s p q → rlx V R v3 v4 (ar M0 110) s p q)) → wq (kH (v3, v4, v5, w, v7 + 1, M')) Q := fun w M' q1 q2 q3 q4 => hk _ ⟨rfl, rfl, rfl, ⟨show 0 ≤ v7 + 1 by omega, show v7 + 1 ≤ nS V by omega⟩, q1, q2, q3, q4⟩ (show (nS V - (v7 + 1)).toNat < (nS V - v7).toNat by omega)
        by_cases cw : v7 = v5
        · refine wq_e (fun z => z cw) (hnext v6 M1 e5 e6 e7 ?_)
          rcases e8 with z | ⟨z1, z2, z3⟩
          · exact Or.inl z
          · refine Or.inr ⟨z1, z2, fun s p q hs he => ?_⟩
            by_cases es : s = v7
            · exact absurd (es.trans cw) he.2.2.1
            · exact z3 s p q (by omega) he
        · refine wq_t cw ?_
          have ed1 : edg V v5 v7 (eF V v7) (eT V v7) := ⟨e4.1, by omega, cw, Or.inl ⟨rfl, rfl⟩⟩
          have ed2 : edg V v5 v7 (eT V v7) (eF V v7) := ⟨e4.1, by omega, cw, Or.inr ⟨rfl, rfl⟩⟩
          rw [e_end0 e5 e4.1 (by omega), bI_s, e_end1 e5 e4.1 (by omega), bI_s]
          refine wq_I (s_improves hT hN e5 (hB.fr e6 rfl) hR hb1 hb2 ht0 hl hl2 e7 ed1) (fun r11 M2 ⟨o1, m1, m2⟩ => ?_)
          have m1 : Rm V M2 := m1
          have m2 : Fr spL M M2 := e6.tr m2
          have o1 : (r11 = 0 ∧ M2 110 = M1 110 ∧ rlx V R v3 v4 (ar M1 110) v7 (eF V v7) (eT V v7)) ∨ (r11 = 1 ∧ ∃ x, ar M1 110 (eF V v7) ≠ 1000000 ∧ ar M1 110 (eF V v7) ≤ x ∧ fre V R v7 v3 x ∧ x + tk V v7 ≤ v4 ∧ x + tk V v7 < ar M1 110 (eT V v7) ∧ ∀ y : Int, 0 ≤ y → ar M2 110 y = if y = eT V v7 then x + tk V v7 else ar M1 110 y) := o1
          have g2 : gdA V R v3 v5 v4 a t (ar M2 110) ∧ (r11 = 0 ∨ r11 = 1) ∧ (r11 = 1 → sum9 (ar M2 110) < sum9 (ar M1 110)) := by
            rcases o1 with ⟨z1, z2, -⟩ | ⟨z1, x, x1, x2, x3, x4, x5, x6⟩
            · refine ⟨?_, Or.inl z1, fun z => absurd (z1.symm.trans z) (by decide)⟩
              have : ar M2 110 = ar M1 110 := by unfold ar; rw [z2]
              rw [this]; exact e7
            · obtain ⟨-, ⟨q1, q2⟩, -⟩ := edg_in hT ed1
              exact ⟨gdA_put hT hl ha e7 ed1 x1 x2 x3 x4 x5 (fun y y1 y2 => x6 y y1), Or.inr z1, fun _ => sum9_put q1 q2 x5 (fun y y1 y2 => x6 y y1)⟩
          rw [e_end1 m1 e4.1 (by omega), bI_s, e_end0 m1 e4.1 (by omega), bI_s]
          refine wq_I (s_improves hT hN m1 (hB.fr m2 rfl) hR hb1 hb2 ht0 hl hl2 g2.1 ed2) (fun r17 M3 ⟨o2, n1, n2⟩ => ?_)
          have n1 : Rm V M3 := n1
          have n2 : Fr spL M M3 := m2.tr n2
          have o2 : (r17 = 0 ∧ M3 110 = M2 110 ∧ rlx V R v3 v4 (ar M2 110) v7 (eT V v7) (eF V v7)) ∨ (r17 = 1 ∧ ∃ x, ar M2 110 (eT V v7) ≠ 1000000 ∧ ar M2 110 (eT V v7) ≤ x ∧ fre V R v7 v3 x ∧ x + tk V v7 ≤ v4 ∧ x + tk V v7 < ar M2 110 (eF V v7) ∧ ∀ y : Int, 0 ≤ y → ar M3 110 y = if y = eF V v7 then x + tk V v7 else ar M2 110 y) := o2
          have g3 : gdA V R v3 v5 v4 a t (ar M3 110) ∧ (r17 = 0 ∨ r17 = 1) ∧ sum9 (ar M3 110) ≤ sum9 (ar M2 110) ∧ (r17 = 1 → sum9 (ar M3 110) < sum9 (ar M2 110)) := by
            rcases o2 with ⟨z1, z2, -⟩ | ⟨z1, x, x1, x2, x3, x4, x5, x6⟩
            · have : ar M3 110 = ar M2 110 := by unfold ar; rw [z2]
              rw [this]
              exact ⟨g2.1, Or.inl z1, Int.le_refl _, fun z => absurd (z1.symm.trans z) (by decide)⟩
            · obtain ⟨-, ⟨q1, q2⟩, -⟩ := edg_in hT ed2
              have := sum9_put q1 q2 x5 (fun y y1 y2 => x6 y y1)
              exact ⟨gdA_put hT hl ha g2.1 ed2 x1 x2 x3 x4 x5 (fun y y1 y2 => x6 y y1), Or.inr z1, by omega, fun _ => this⟩
          have hs12 : sum9 (ar M2 110) ≤ sum9 (ar M1 110) := by
            rcases o1 with ⟨z1, z2, -⟩ | ⟨z1, -⟩
            · have : ar M2 110 = ar M1 110 := by unfold ar; rw [z2]
              rw [this]; exact Int.le_refl _
            · exact Int.le_of_lt (g2.2.2 z1)
          have hone : (v6 = 1 ∨ r11 = 1 ∨ r17 = 1) → wq (kH (v3, v4, v5, 1, v7 + 1, M3)) Q := by
            intro hz
            refine hnext 1 M3 n1 n2 g3.1 (Or.inl ⟨rfl, ?_⟩)
            have hs0 : sum9 (ar M1 110) ≤ sum9 (ar M0 110) := by
              rcases e8 with ⟨-, z⟩ | ⟨-, z, -⟩
              · exact Int.le_of_lt z
              · have : ar M1 110 = ar M0 110 := by unfold ar; rw [z]
                rw [this]; exact Int.le_refl _
            rcases hz with z | z | z
            · rcases e8 with ⟨-, z2⟩ | ⟨z2, -⟩
              · omega
              · omega
            · have := g2.2.2 z; omega
            · have := g3.2.2.2 z; omega
          have e6' : i32 v6 = v6 := by rcases e8 with ⟨z, -⟩ | ⟨z, -⟩ <;> (subst z; decide)
          have e11' : i32 r11 = r11 := by rcases g2.2.1 with z | z <;> (subst z; decide)
          have e17' : i32 r17 = r17 := by rcases g3.2.1 with z | z <;> (subst z; decide)
          rw [e6', e11', e17']
          by_cases d1 : v6 = 0
          · refine wq_e (fun z => z d1) ?_
            by_cases d2 : r11 = 0
            · refine wq_e (fun z => z d2) ?_
              by_cases d3 : r17 = 0
              · refine wq_t d3 (hnext 0 M3 n1 n2 g3.1 (Or.inr ⟨rfl, ?_⟩))
                rcases e8 with ⟨z, -⟩ | ⟨-, z1, z2⟩
                · omega
                rcases o1 with ⟨-, y1, y2⟩ | ⟨y, -⟩
                · rcases o2 with ⟨-, x1, x2⟩ | ⟨y, -⟩
                  · have ea1 : ar M1 110 = ar M0 110 := by unfold ar; rw [z1]
                    have ea2 : ar M2 110 = ar M0 110 := by unfold ar; rw [y1, z1]
                    rw [ea1] at y2
                    rw [ea2] at x2
                    refine ⟨by rw [x1, y1, z1], fun s p q hs he => ?_⟩
                    by_cases es : s = v7
                    · subst es
                      rcases he.2.2.2 with ⟨w1, w2⟩ | ⟨w1, w2⟩ <;> subst w1 <;> subst w2
                      · exact y2
                      · exact x2
                    · exact z2 s p q (by omega) he
                  · omega
                · omega
              · exact wq_e d3 (hone (Or.inr (Or.inr (g3.2.1.resolve_left d3))))
            · exact wq_t d2 (hone (Or.inr (Or.inl (g2.2.1.resolve_left d2))))
          · refine wq_t d1 (hone (Or.inl ?_))
            rcases e8 with ⟨z, -⟩ | ⟨z, -⟩
            · exact z
            · exact absurd z d1
    · exact ⟨rfl, rfl, rfl, ⟨Int.le_refl _, hS0⟩, r0, f0, g0, Or.inr ⟨rfl, rfl, fun s p q hs he => absurd hs (by have := he.1; show ¬ s < 0; omega)⟩⟩
    · show (nS V - 0).toNat < 1000000000
      omega
  -- round by round
  have outer : ∀ M0 : Mm, Rm V M0 → Fr spL M M0 → gdA V R b wo lim a t (ar M0 110) → wq (f_M_spreads_L36 FU (b, lim, wo, 1, M0)) (fun M' => isA V R b wo lim a t (ar M' 110) ∧ Rm V M' ∧ Fr spL M M') := by
    intro M0 r0 f0 g0
    have hrg : ∀ N : Mm, gdA V R b wo lim a t (ar N 110) → 0 ≤ sum9 (ar N 110) ∧ sum9 (ar N 110) ≤ 9000000 := by
      intro N g
      refine sum9_rng (fun y y1 y2 => ?_)
      rcases Sp_rng hT hl g.2 y1 y2 with z | z <;> omega
    unfold f_M_spreads_L36
    refine wq_lp (fun z => z.1 = b ∧ z.2.1 = lim ∧ z.2.2.1 = wo ∧ Rm V z.2.2.2.2 ∧ Fr spL M z.2.2.2.2 ∧ gdA V R b wo lim a t (ar z.2.2.2.2 110) ∧ (z.2.2.2.1 = 1 ∨ (z.2.2.2.1 = 0 ∧ ∀ s p q : Int, edg V wo s p q → rlx V R b lim (ar z.2.2.2.2 110) s p q))) (fun z => (2 * sum9 (ar z.2.2.2.2 110) + z.2.2.2.1).toNat) ?_ FU _ ?_ ?_
    · rintro kH ⟨v3, v4, v5, v6, M1⟩ ⟨e1, e2, e3, e5, e6, e7, e8⟩ hk
      have e1 : v3 = b := e1
      have e2 : v4 = lim := e2
      have e3 : v5 = wo := e3
      subst e1 e2 e3
      have e5 : Rm V M1 := e5
      have e6 : Fr spL M M1 := e6
      have e7 : gdA V R v3 v5 v4 a t (ar M1 110) := e7
      have e8 : v6 = 1 ∨ (v6 = 0 ∧ ∀ s p q : Int, edg V v5 s p q → rlx V R v3 v4 (ar M1 110) s p q) := e8
      show wq (f_M_spreads_B36 (fun v3 v4 v5 v6 M => kH (v3, v4, v5, v6, M)) v3 v4 v5 v6 M1) _
      unfold f_M_spreads_B36
      rcases e8 with e8 | ⟨e8, e9⟩
      · subst e8
        refine wq_e (by decide) (inner M1 _ _ e5 e6 e7 (fun M' q1 q2 q3 q4 => ?_) (fun M' q1 q2 q3 q4 q5 => ?_))
        · refine hk _ ⟨rfl, rfl, rfl, q1, q2, q3, Or.inl rfl⟩ ?_
          have := hrg M' q3
          have := hrg M1 e7
          show (2 * sum9 (ar M' 110) + 1).toNat < (2 * sum9 (ar M1 110) + 1).toNat
          omega
        · refine hk _ ⟨rfl, rfl, rfl, q1, q2, q3, Or.inr ⟨rfl, q5⟩⟩ ?_
          have := hrg M1 e7
          have e : sum9 (ar M' 110) = sum9 (ar M1 110) := sum9_cg (fun y _ _ => q4 y)
          show (2 * sum9 (ar M' 110) + 0).toNat < (2 * sum9 (ar M1 110) + 1).toNat
          omega
      · subst e8
        exact wq_t (by decide) (wq_some ⟨⟨e7.1, e9, e7.2⟩, e5, e6⟩)
    · exact ⟨rfl, rfl, rfl, r0, f0, g0, Or.inl rfl⟩
    · have := hrg M0 g0
      show (2 * sum9 (ar M0 110) + 1).toNat < 1000000000
      omega
  -- the row is made empty
  unfold f_M_spreads f_M_spreads_L3
  refine wq_lp (fun z => z.1 = a ∧ z.2.1 = t ∧ z.2.2.1 = b ∧ z.2.2.2.1 = lim ∧ z.2.2.2.2.1 = wo ∧ (0 ≤ z.2.2.2.2.2.1 ∧ z.2.2.2.2.2.1 ≤ 9) ∧ Fr spL M z.2.2.2.2.2.2 ∧ ∀ y : Int, 0 ≤ y → y < z.2.2.2.2.2.1 → ar z.2.2.2.2.2.2 110 y = 1000000) (fun z => (9 - z.2.2.2.2.2.1).toNat) ?_ FU _ ?_ ?_
  · rintro kH ⟨v1, v2, v3, v4, v5, v6, M1⟩ ⟨e1, e2, e3, e4, e5, e6, e7, e8⟩ hk
    have e1 : v1 = a := e1
    have e2 : v2 = t := e2
    have e3 : v3 = b := e3
    have e4 : v4 = lim := e4
    have e5 : v5 = wo := e5
    subst e1 e2 e3 e4 e5
    have e6 : 0 ≤ v6 ∧ v6 ≤ 9 := e6
    have e7 : Fr spL M M1 := e7
    have e8 : ∀ y : Int, 0 ≤ y → y < v6 → ar M1 110 y = 1000000 := e8
    show wq (f_M_spreads_B3 (fun v1 v2 v3 v4 v5 v6 M => kH (v1, v2, v3, v4, v5, v6, M)) _ v1 v2 v3 v4 v5 v6 M1) _
    unfold f_M_spreads_B3
    rw [i32_id (x := 9) (by omega) (by omega), i32_id (x := v6) (by omega) (by omega)]
    refine wq_if (fun c => ?_) (fun c => ?_)
    · show wq (gd (0 ≤ i32 v1 ∧ i32 v1 < ((9 : Nat) : Int)) (bd (up M1 110 (i32 v1).toNat v2) (fun M3 => f_M_spreads_L36 FU (v3, v4, v5, 1, M3)))) _
      rw [i32_id (x := v1) (by omega) (by omega)]
      have F2 : Fr spL M (up M1 110 v1.toNat v2) := e7.up (by simp [spL])
      refine wq_g (by omega) (wq_d (outer _ (h.fr F2 rfl) F2 ⟨?_, fun p p1 p2 => ?_⟩))
      · rw [ar_up _ _ _ _ ha.1 _ ha.1, if_pos rfl]
      · rw [ar_up _ _ _ _ ha.1 _ p1]
        by_cases cp : p = v1
        · rw [if_pos cp]; exact Or.inr ⟨0, cp, rfl⟩
        · rw [if_neg cp]; exact Or.inl (e8 p p1 (by omega))
    · refine wq_g (by omega) (wq_d (hk _ ⟨rfl, rfl, rfl, rfl, rfl, ⟨show 0 ≤ v6 + 1 by omega, show v6 + 1 ≤ 9 by omega⟩, e7.up (by simp [spL]), ?_⟩ (show (9 - (v6 + 1)).toNat < (9 - v6).toNat by omega)))
      intro y y1 y2
      have y2 : y < v6 + 1 := y2
      show ar (up M1 110 v6.toNat 1000000) 110 y = 1000000
      rw [ar_up _ _ _ _ e6.1 y y1]
      by_cases cy : y = v6
      · rw [if_pos cy]
      · rw [if_neg cy]; exact e8 y y1 (by omega)
  · exact ⟨rfl, rfl, rfl, rfl, rfl, ⟨Int.le_refl _, by show (0 : Int) ≤ 9; decide⟩, Fr.rf, fun y y1 y2 => absurd y2 (by show ¬ y < 0; omega)⟩
  · show (9 - (0 : Int)).toNat < 1000000000
    decide
