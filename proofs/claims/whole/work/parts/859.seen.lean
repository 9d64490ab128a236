/-- a shift fits what was seen -/
def fiS (V : Mm) (s sh : Int) : Prop := ∀ k : Nat, (k : Int) < V 78 66 → V 121 (3 * k) = s → wdt V s (V 121 (3 * k + 1)) sh = V 121 (3 * k + 2)
def flR (V : Mm) (s : Int) : Nat → List Int → Prop
  | 0, L => L = []
  | n + 1, L => ∃ L', flR V s n L' ∧ ((fiS V s n ∧ L = L' ++ [(n : Int)]) ∨ (¬ fiS V s n ∧ L = L'))
theorem flR_un {V : Mm} {s : Int} : ∀ (n : Nat) (L L' : List Int), flR V s n L → flR V s n L' → L = L'
  | 0, L, L', h, h' => by have h : L = [] := h; have h' : L' = [] := h'; rw [h, h']
  | n + 1, L, L', h, h' => by
    obtain ⟨x, x1, x2⟩ := h
    obtain ⟨y, y1, y2⟩ := h'
    have e := flR_un n x y x1 y1
    rcases x2 with ⟨p, q⟩ | ⟨p, q⟩ <;> rcases y2 with ⟨p', q'⟩ | ⟨p', q'⟩
    · rw [q, q', e]
    · exact absurd p p'
    · exact absurd p' p
    · rw [q, q', e]
theorem flR_ex {V : Mm} {s : Int} : ∀ n : Nat, ∃ L, flR V s n L
  | 0 => ⟨[], rfl⟩
  | n + 1 => by
    obtain ⟨L, h⟩ := flR_ex (V := V) (s := s) n
    rcases Classical.em (fiS V s n) with c | c
    · exact ⟨_, L, h, Or.inl ⟨c, rfl⟩⟩
    · exact ⟨_, L, h, Or.inr ⟨c, rfl⟩⟩
theorem flR_pre {V : Mm} {s : Int} {n : Nat} {L : List Int} (h : flR V s n L) : ∀ (m : Nat) (L' : List Int), flR V s (n + m) L' → ∃ T, L' = L ++ T
  | 0, L', h' => ⟨[], by rw [List.append_nil]; exact flR_un n _ _ h' h⟩
  | m + 1, L', h' => by
    obtain ⟨x, x1, x2⟩ := h'
    obtain ⟨T, e⟩ := flR_pre h m x x1
    rcases x2 with ⟨-, q⟩ | ⟨-, q⟩
    · exact ⟨T ++ [((n + m : Nat) : Int)], by rw [q, e, List.append_assoc]; rfl⟩
    · exact ⟨T, by rw [q, e]⟩
theorem flR_rng {V : Mm} {s : Int} : ∀ (n : Nat) (L : List Int), flR V s n L → L.length ≤ n ∧ ∀ x ∈ L, 0 ≤ x ∧ x < n
  | 0, L, h => by have h : L = [] := h; subst h; exact ⟨Nat.le_refl _, fun x hx => by simp at hx⟩
  | n + 1, L, h => by
    obtain ⟨x, x1, x2⟩ := h
    obtain ⟨g1, g2⟩ := flR_rng n x x1
    rcases x2 with ⟨-, q⟩ | ⟨-, q⟩
    · subst q
      refine ⟨by simp; omega, fun y hy => ?_⟩
      rcases List.mem_append.mp hy with hy | hy
      · have := g2 y hy; omega
      · simp at hy; subst hy; omega
    · subst q
      exact ⟨by omega, fun y hy => by have := g2 y hy; omega⟩
/-- what was seen, on both sides -/
def sV (V : Mm) : Prop := (0 ≤ V 78 66 ∧ V 78 66 ≤ 20) ∧ ∀ k : Nat, (k : Int) < V 78 66 → (0 ≤ V 121 (3 * k) ∧ V 121 (3 * k) < nS V) ∧ (0 ≤ V 121 (3 * k + 1) ∧ V 121 (3 * k + 1) ≤ 65535) ∧ (0 ≤ V 121 (3 * k + 2) ∧ V 121 (3 * k + 2) ≤ 99)
def sC (V M : Mm) : Prop := M 64 6 = V 78 66 ∧ ∀ k : Nat, (k : Int) < V 78 66 → M 65 k = V 121 (3 * k) ∧ M 66 k = V 121 (3 * k + 1) ∧ M 67 k = V 121 (3 * k + 2)
theorem Se.two {V M : Mm} (h : Se V M) : sV V ∧ sC V M := ⟨⟨h.1, fun k hk => ⟨(h.2.2 k hk).1, (h.2.2 k hk).2.1, (h.2.2 k hk).2.2.1⟩⟩, h.2.1, fun k hk => (h.2.2 k hk).2.2.2⟩
def scOk (l : List (Nat × Nat)) : Bool := l.all fun p => (p.1 != 64 || (p.2 != 6 && p.2 != 99999)) && (p.1 != 65 && (p.1 != 66 && p.1 != 67))
theorem sC.fr {V M M' : Mm} {l : List (Nat × Nat)} (h : sC V M) (hF : Fr l M M') (hh : scOk l = true) : sC V M' := by
  have hz := fun p hp => List.all_eq_true.mp hh p hp
  simp only [Bool.and_eq_true, Bool.or_eq_true, bne_iff_ne, ne_eq] at hz
  unfold sC
  rw [hF.at' 64 6 (fun p hp => (hz p hp).1), hF.rw' 65 (fun p hp => (hz p hp).2.1), hF.rw' 66 (fun p hp => (hz p hp).2.2.1), hF.rw' 67 (fun p hp => (hz p hp).2.2.2)]
  exact h
theorem s_cFits {V M : Mm} (hT : Tw V) (h : Cl V M) (hv : sV V) (hs : sC V M) {s sh : Int} (h1 : 0 ≤ s) (h2 : s < nS V) (h3 : 0 ≤ sh) (h4 : sh < 64) : wq (f_Seen_fits s sh M) (fun q => tf q.1 (fiS V s sh) ∧ Cl V q.2 ∧ Fr wcL M q.2) := by
  have hS := hT.2.1
  obtain ⟨hv1, hv2⟩ := hv
  unfold f_Seen_fits f_Seen_fits_L2
  refine wq_lp (fun z => z.1 = s ∧ z.2.1 = sh ∧ (0 ≤ z.2.2.1 ∧ z.2.2.1 ≤ V 78 66) ∧ (∀ k : Nat, (k : Int) < z.2.2.1 → V 121 (3 * k) = s → wdt V s (V 121 (3 * k + 1)) sh = V 121 (3 * k + 2)) ∧ Cl V z.2.2.2 ∧ Fr wcL M z.2.2.2) (fun z => (V 78 66 - z.2.2.1).toNat) ?_ FU _ ?_ ?_
  · rintro kH ⟨v1, v2, v3, N⟩ ⟨q1, q2, q3, q4, q5, q6⟩ hk
    have e1 : v1 = s := q1
    have e2 : v2 = sh := q2
    subst e1 e2
    have e3 : 0 ≤ v3 ∧ v3 ≤ V 78 66 := q3
    have e4 : ∀ k : Nat, (k : Int) < v3 → V 121 (3 * k) = v1 → wdt V v1 (V 121 (3 * k + 1)) v2 = V 121 (3 * k + 2) := q4
    have e5 : Cl V N := q5
    have e6 : Fr wcL M N := q6
    clear q1 q2 q3 q4 q5 q6
    have hsN := hs.fr e6 rfl
    show wq (f_Seen_fits_B2 (fun v1 v2 v3 M => kH (v1, v2, v3, M)) v1 v2 v3 N) _
    unfold f_Seen_fits_B2
    rw [hsN.1, i32_id (x := V 78 66) (by omega) (by omega), i32_id (x := v3) (by omega) (by omega)]
    refine wq_if (fun c => wq_some ⟨Or.inl ⟨rfl, fun k hk' => e4 k (by omega)⟩, e5, e6⟩) (fun c => ?_)
    obtain ⟨k1, k2, k3⟩ := hsN.2 v3.toNat (by omega)
    obtain ⟨r1, r2, r3⟩ := hv2 v3.toNat (by omega)
    have hnx : ∀ M', Cl V M' → Fr wcL M M' → (V 121 (3 * v3.toNat) = v1 → wdt V v1 (V 121 (3 * v3.toNat + 1)) v2 = V 121 (3 * v3.toNat + 2)) → wq (kH (v1, v2, v3 + 1, M')) (fun q => tf q.1 (fiS V v1 v2) ∧ Cl V q.2 ∧ Fr wcL M q.2) := by
      intro M' z1 z2 z3
      refine hk _ ⟨rfl, rfl, ⟨show 0 ≤ v3 + 1 by omega, show v3 + 1 ≤ V 78 66 by omega⟩, fun k hk' => ?_, z1, z2⟩ (show (V 78 66 - (v3 + 1)).toNat < (V 78 66 - v3).toNat by omega)
      have hk' : (k : Int) < v3 + 1 := hk'
      by_cases ek : (k : Int) = v3
      · have : k = v3.toNat := by omega
        subst this; exact z3
      · exact e4 k (by omega)
    rw [e_cell_in (n := 20) N rfl (by decide) e3.1 (by omega), bI_s, k1, i32_id (x := V 121 (3 * v3.toNat)) (by omega) (by omega), i32_id (x := v1) (by omega) (by omega)]
    by_cases c1 : V 121 (3 * v3.toNat) = v1
    · refine wq_e (fun z => z c1) ?_
      rw [e_cell_in (n := 20) N rfl (by decide) e3.1 (by omega), bI_s, k2]
      refine wq_I (s_cWidthBy hT e5 h1 h2 r2.1 (by omega) h3 h4) (fun r M2 ⟨a1, a2, a3⟩ => ?_)
      have a1 : r = wdt V v1 (V 121 (3 * v3.toNat + 1)) v2 := a1
      have hw := wdt_rng V v1 (V 121 (3 * v3.toNat + 1)) v2
      have a3 : Fr wcL N M2 := a3
      obtain ⟨-, -, m3⟩ := (hsN.fr a3 rfl).2 v3.toNat (by omega)
      rw [e_cell_in (n := 20) M2 rfl (by decide) e3.1 (by omega), bI_s, m3, i32_id (x := r) (by omega) (by omega), i32_id (x := V 121 (3 * v3.toNat + 2)) (by omega) (by omega)]
      refine wq_if (fun d => hnx M2 a2 (e6.tr a3) (fun _ => by omega)) (fun d => wq_some ⟨Or.inr ⟨rfl, fun z => ?_⟩, a2, e6.tr a3⟩)
      have := z v3.toNat (by omega) c1
      omega
    · exact wq_t c1 (hnx N e5 e6 (fun z => absurd z c1))
  · exact ⟨rfl, rfl, ⟨Int.le_refl _, hv1.1⟩, fun k hk' => absurd hk' (by show ¬ (k : Int) < 0; omega), h, Fr.rf⟩
  · show (V 78 66 - 0).toNat < 1000000000
    omega
def sM (V M : Mm) : Prop := M 78 66 = V 78 66 ∧ M 121 = V 121
theorem s_mFits {V M : Mm} (hT : Tw V) (h : Rm V M) (hv : sV V) (hs : sM V M) {s sh : Int} (h1 : 0 ≤ s) (h2 : s < nS V) (h3 : 0 ≤ sh) (h4 : sh < 64) : wq (f_M_isShift s sh M) (fun q => tf q.1 (fiS V s sh) ∧ Rm V q.2 ∧ Fr wsL M q.2) := by
  have hS := hT.2.1
  obtain ⟨hv1, hv2⟩ := hv
  unfold f_M_isShift f_M_isShift_L2
  refine wq_lp (fun z => z.1 = s ∧ z.2.1 = sh ∧ (0 ≤ z.2.2.1 ∧ z.2.2.1 ≤ V 78 66) ∧ (∀ k : Nat, (k : Int) < z.2.2.1 → V 121 (3 * k) = s → wdt V s (V 121 (3 * k + 1)) sh = V 121 (3 * k + 2)) ∧ Rm V z.2.2.2 ∧ Fr wsL M z.2.2.2) (fun z => (V 78 66 - z.2.2.1).toNat) ?_ FU _ ?_ ?_
  · rintro kH ⟨v1, v2, v3, N⟩ ⟨q1, q2, q3, q4, q5, q6⟩ hk
    have e1 : v1 = s := q1
    have e2 : v2 = sh := q2
    subst e1 e2
    have e3 : 0 ≤ v3 ∧ v3 ≤ V 78 66 := q3
    have e4 : ∀ k : Nat, (k : Int) < v3 → V 121 (3 * k) = v1 → wdt V v1 (V 121 (3 * k + 1)) v2 = V 121 (3 * k + 2) := q4
    have e5 : Rm V N := q5
    have e6 : Fr wsL M N := q6
    clear q1 q2 q3 q4 q5 q6
    have g66 : N 78 66 = V 78 66 := (e6.at 78 66 rfl).trans hs.1
    have g121 : N 121 = V 121 := (e6.row 121 rfl).trans hs.2
    show wq (f_M_isShift_B2 (fun v1 v2 v3 M => kH (v1, v2, v3, M)) v1 v2 v3 N) _
    unfold f_M_isShift_B2
    rw [g66, i32_id (x := V 78 66) (by omega) (by omega), i32_id (x := v3) (by omega) (by omega)]
    refine wq_if (fun c => wq_some ⟨Or.inl ⟨rfl, fun k hk' => e4 k (by omega)⟩, e5, e6⟩) (fun c => ?_)
    obtain ⟨r1, r2, r3⟩ := hv2 v3.toNat (by omega)
    have hnx : ∀ M', Rm V M' → Fr wsL M M' → (V 121 (3 * v3.toNat) = v1 → wdt V v1 (V 121 (3 * v3.toNat + 1)) v2 = V 121 (3 * v3.toNat + 2)) → wq (kH (v1, v2, v3 + 1, M')) (fun q => tf q.1 (fiS V v1 v2) ∧ Rm V q.2 ∧ Fr wsL M q.2) := by
      intro M' z1 z2 z3
      refine hk _ ⟨rfl, rfl, ⟨show 0 ≤ v3 + 1 by omega, show v3 + 1 ≤ V 78 66 by omega⟩, fun k hk' => ?_, z1, z2⟩ (show (V 78 66 - (v3 + 1)).toNat < (V 78 66 - v3).toNat by omega)
      have hk' : (k : Int) < v3 + 1 := hk'
      by_cases ek : (k : Int) = v3
      · have : k = v3.toNat := by omega
        subst this; exact z3
      · exact e4 k (by omega)
    rw [g121, i32_id (x := 3 * v3) (by omega) (by omega), i32_id (x := 3 * v3 + 1) (by omega) (by omega), i32_id (x := 3 * v3 + 2) (by omega) (by omega), show (3 * v3).toNat = 3 * v3.toNat by omega, show (3 * v3 + 1).toNat = 3 * v3.toNat + 1 by omega, show (3 * v3 + 2).toNat = 3 * v3.toNat + 2 by omega, i32_id (x := V 121 (3 * v3.toNat)) (by omega) (by omega), i32_id (x := v1) (by omega) (by omega)]
    refine wq_g (by omega) ?_
    by_cases c1 : V 121 (3 * v3.toNat) = v1
    · refine wq_e (fun z => z c1) (wq_g (by omega) (wq_I (s_mWidthBy hT e5 h1 h2 r2.1 (by omega) h3 (by omega)) (fun r M2 ⟨a1, a2, a3⟩ => ?_)))
      have a1 : r = wdt V v1 (V 121 (3 * v3.toNat + 1)) v2 := a1
      have hw := wdt_rng V v1 (V 121 (3 * v3.toNat + 1)) v2
      have a3 : Fr wsL N M2 := a3
      have m121 : M2 121 = V 121 := (a3.row 121 rfl).trans g121
      rw [m121, i32_id (x := r) (by omega) (by omega), i32_id (x := V 121 (3 * v3.toNat + 2)) (by omega) (by omega)]
      refine wq_g (by omega) (wq_if (fun d => hnx M2 a2 (e6.tr a3) (fun _ => by omega)) (fun d => wq_some ⟨Or.inr ⟨rfl, fun z => ?_⟩, a2, e6.tr a3⟩))
      have := z v3.toNat (by omega) c1
      omega
    · exact wq_t c1 (hnx N e5 e6 (fun z => absurd z c1))
  · exact ⟨rfl, rfl, ⟨Int.le_refl _, hv1.1⟩, fun k hk' => absurd hk' (by show ¬ (k : Int) < 0; omega), h, Fr.rf⟩
  · show (V 78 66 - 0).toNat < 1000000000
    omega
def shL : List (Nat × Nat) := [(68, 99999), (18, 99999), (47, 99999)]
theorem s_findShifts {V M : Mm} (hT : Tw V) (h : Cl V M) (hv : sV V) (hs : sC V M) {s : Int} (h1 : 0 ≤ s) (h2 : s < nS V) : wq (f_Seen_findShifts s M) (fun q => (∃ L, flR V s (rd V s).toNat L ∧ q.1 = (L.length : Int) ∧ ∀ (k : Nat) x, L[k]? = some x → q.2 68 k = x) ∧ Cl V q.2 ∧ Fr shL M q.2) := by
  have hS := hT.2.1
  obtain ⟨-, -, -, -, ⟨r1, r2⟩, -⟩ := hT.2.2.2.1 s h1 h2
  unfold f_Seen_findShifts f_Seen_findShifts_L4
  refine wq_lp (fun z => z.1 = s ∧ (0 ≤ z.2.2.1 ∧ z.2.2.1 ≤ rd V s) ∧ (∃ L, flR V s z.2.2.1.toNat L ∧ z.2.1 = (L.length : Int) ∧ ∀ (k : Nat) x, L[k]? = some x → z.2.2.2 68 k = x) ∧ Cl V z.2.2.2 ∧ Fr shL M z.2.2.2) (fun z => (rd V s - z.2.2.1).toNat) ?_ FU _ ?_ ?_
  · rintro kH ⟨v1, v2, v3, N⟩ ⟨q1, q3, ⟨L, q4, q5, q6⟩, q7, q8⟩ hk
    have e1 : v1 = s := q1
    subst e1
    have e3 : 0 ≤ v3 ∧ v3 ≤ rd V v1 := q3
    have e4 : flR V v1 v3.toNat L := q4
    have e5 : v2 = (L.length : Int) := q5
    have e6 : ∀ (k : Nat) x, L[k]? = some x → N 68 k = x := q6
    have e7 : Cl V N := q7
    have e8 : Fr shL M N := q8
    clear q1 q3 q4 q5 q6 q7 q8
    obtain ⟨l1, l2⟩ := flR_rng _ _ e4
    show wq (f_Seen_findShifts_B4 (fun v1 v2 v3 M => kH (v1, v2, v3, M)) v1 v2 v3 N) _
    unfold f_Seen_findShifts_B4
    have ek := (e7.1.2.1 v1 h1 h2).2.2.2.1
    rw [e_cell_in (n := 12) N rfl (by decide) h1 (by omega), bI_s, ek, i32_id (x := rd V v1) (by omega) (by omega), i32_id (x := v3) (by omega) (by omega)]
    refine wq_if (fun c => wq_some ⟨⟨L, ?_, e5, e6⟩, e7, e8⟩) (fun c => ?_)
    · rw [show (rd V v1).toNat = v3.toNat by omega]; exact e4
    refine wq_I (s_cFits hT e7 hv (hs.fr e8 rfl) h1 h2 e3.1 (by omega)) (fun r M2 ⟨a1, a2, a3⟩ => ?_)
    have a3 : Fr wcL N M2 := a3
    have F2 : Fr shL M M2 := e8.tr (a3.cov rfl)
    have e68 : M2 68 = N 68 := a3.row 68 rfl
    have en : (v3 + 1).toNat = v3.toNat + 1 := by omega
    have ev : ((v3.toNat : Nat) : Int) = v3 := by omega
    rcases a1 with ⟨b1, b2⟩ | ⟨b1, b2⟩
    · have b1 : r = 1 := b1
      subst b1
      refine wq_e (by decide) ?_
      rw [e_set (n := 48) M2 rfl (by decide) (by omega) (by omega), bV_s]
      refine hk _ ⟨rfl, ⟨show 0 ≤ v3 + 1 by omega, show v3 + 1 ≤ rd V v1 by omega⟩, ⟨L ++ [v3], ?_, ?_, fun k x hx => ?_⟩, a2.fr (l := [(68, 99999)]) (Fr.rf.up (by simp)) rfl rfl rfl, F2.up (by simp [shL])⟩ (show (rd V v1 - (v3 + 1)).toNat < (rd V v1 - v3).toNat by omega)
      · show flR V v1 (v3 + 1).toNat (L ++ [v3])
        rw [en]
        exact ⟨L, e4, Or.inl ⟨by rw [ev]; exact b2, by rw [ev]⟩⟩
      · show v2 + 1 = ((L ++ [v3]).length : Int)
        simp; omega
      · show up M2 68 v2.toNat v3 68 k = x
        rw [up_at]
        have ev2 : v2.toNat = L.length := by omega
        rcases Nat.lt_trichotomy k L.length with g | g | g
        · rw [List.getElem?_append_left g] at hx
          rw [if_neg (fun z => by omega), e68]
          exact e6 k x hx
        · subst g
          rw [List.getElem?_append_right (Nat.le_refl _), Nat.sub_self] at hx
          cases hx
          rw [if_pos ⟨rfl, ev2.symm⟩]
        · rw [List.getElem?_eq_none (by simp; omega)] at hx
          cases hx
    · have b1 : r = 0 := b1
      subst b1
      refine wq_t (by decide) (hk _ ⟨rfl, ⟨show 0 ≤ v3 + 1 by omega, show v3 + 1 ≤ rd V v1 by omega⟩, ⟨L, ?_, e5, fun k x hx => (congrFun e68 k).trans (e6 k x hx)⟩, a2, F2⟩ (show (rd V v1 - (v3 + 1)).toNat < (rd V v1 - v3).toNat by omega))
      show flR V v1 (v3 + 1).toNat L
      rw [en]
      exact ⟨L, e4, Or.inr ⟨by rw [ev]; exact b2, rfl⟩⟩
  · exact ⟨rfl, ⟨Int.le_refl _, by show (0 : Int) ≤ rd V s; omega⟩, ⟨[], rfl, rfl, fun k x hx => by simp at hx⟩, h, Fr.rf⟩
  · show (rd V s - 0).toNat < 1000000000
    omega
def shA (V : Mm) (s k r : Int) : Prop := ∃ L, flR V s (rd V s).toNat L ∧ ((k = -1 ∧ r = (L.length : Int)) ∨ ((0 ≤ k ∧ k < (L.length : Int)) ∧ L[k.toNat]? = some r) ∨ (k ≠ -1 ∧ ¬ (0 ≤ k ∧ k < (L.length : Int)) ∧ r = -1))
theorem shA_un {V : Mm} {s k r r' : Int} (h : shA V s k r) (h' : shA V s k r') : r = r' := by
  obtain ⟨L, l1, l2⟩ := h
  obtain ⟨L', l1', l2'⟩ := h'
  have e := flR_un _ _ _ l1 l1'
  subst e
  rcases l2 with ⟨a1, a2⟩ | ⟨a1, a2⟩ | ⟨a1, a2, a3⟩ <;> rcases l2' with ⟨b1, b2⟩ | ⟨b1, b2⟩ | ⟨b1, b2, b3⟩
  · omega
  · omega
  · exact absurd a1 b1
  · omega
  · rw [a2] at b2; exact Option.some.inj b2
  · exact absurd a1 b2
  · exact absurd b1 a1
  · exact absurd b1 a2
  · omega
theorem call_shifts {n : Nat} {v1 v2 : Int} (i1 : IR v1) (i2 : IR v2) : CallOk n (f_BT_shifts v1 v2) (f_M_shifts v1 v2) := by
  refine call_q (fun M r => gA (0 ≤ v1 ∧ v1 < nS M) (fun r => shA M v1 v2 r) r) shL wsL (fun M r r' _ => gA_un (fun _ x y hx hy => shA_un hx hy)) rfl rfl rfl rfl rfl (fun M hR => ?_) (fun M M1 hR hm hl => ?_)
  · obtain ⟨h1, h2, h3, -, -, -, -, -, h9, h10, -⟩ := id hR
    obtain ⟨sv, sc⟩ := Se.two h9
    unfold f_BT_shifts
    rw [e_hasS h1 h3.1 i1, bI_s]
    refine wq_c1 (fun c => ?_) (fun c => wq_some ⟨Or.inr ⟨c, rfl⟩, h3.2.2, h10.2.2, Fr.rf⟩)
    obtain ⟨-, -, -, -, ⟨r1, r2⟩, -⟩ := h1.2.2.2.1 v1 c.1 c.2
    refine wq_I (s_findShifts h1 h3 sv sc c.1 c.2) (fun r M2 ⟨⟨L, a1, a2, a3⟩, a4, a5⟩ => ?_)
    have a2 : r = (L.length : Int) := a2
    have a3 : ∀ (k : Nat) x, L[k]? = some x → M2 68 k = x := a3
    have a5 : Fr shL M M2 := a5
    have hb : M2 48 10 = 0 := by rw [a5.row 48 rfl]; exact h10.2.2
    obtain ⟨l1, l2⟩ := flR_rng _ _ a1
    rw [i32_id (x := v2) i2.1 i2.2, i32_id (x := -1) (by omega) (by omega), i32_id (x := r) (by omega) (by omega)]
    by_cases d : v2 = -1
    · exact wq_e (fun z => z d) (wq_some ⟨Or.inl ⟨c, L, a1, Or.inl ⟨d, a2⟩⟩, a4.2.2, hb, a5⟩)
    · refine wq_t d ?_
      refine wq_if (fun e => wq_some ⟨Or.inl ⟨c, L, a1, Or.inr (Or.inr ⟨d, by omega, rfl⟩)⟩, a4.2.2, hb, a5⟩) (fun e => ?_)
      refine wq_if (fun g => wq_some ⟨Or.inl ⟨c, L, a1, Or.inr (Or.inr ⟨d, by omega, rfl⟩)⟩, a4.2.2, hb, a5⟩) (fun g => ?_)
      rw [e_cell_in (n := 48) M2 rfl (by decide) (by omega) (by omega), bI_s]
      have hx : L[v2.toNat]? = some (L[v2.toNat]'(by omega)) := List.getElem?_eq_getElem _
      refine wq_some ⟨Or.inl ⟨c, L, a1, Or.inr (Or.inl ⟨by omega, ?_⟩)⟩, a4.2.2, hb, a5⟩
      show L[v2.toNat]? = some (M2 68 v2.toNat)
      rw [hx, a3 _ _ hx]
  · obtain ⟨h1, h2, h3, -, -, -, -, -, h9, h10, -⟩ := id hR
    obtain ⟨sv, -⟩ := Se.two h9
    have hs : sM M M1 := ⟨by rw [hl 78 (by decide)], hl 121 (by decide)⟩
    unfold f_M_shifts
    rw [e_isStreet h1 hm i1, bI_s]
    refine wq_c1 (fun c => ?_) (fun c => wq_some ⟨Or.inr ⟨c, rfl⟩, Fr.rf⟩)
    have hS := h1.2.1
    obtain ⟨-, -, -, -, ⟨r1, r2⟩, -⟩ := h1.2.2.2.1 v1 c.1 c.2
    obtain ⟨LF, hLF⟩ := flR_ex (V := M) (s := v1) (rd M v1).toNat
    unfold f_M_shifts_L15
    refine wq_lp (fun z => z.1 = v1 ∧ z.2.1 = v2 ∧ (0 ≤ z.2.2.2.1 ∧ z.2.2.2.1 ≤ rd M v1) ∧ (∃ L, flR M v1 z.2.2.2.1.toNat L ∧ z.2.2.1 = (L.length : Int) ∧ ¬ (0 ≤ v2 ∧ v2 < (L.length : Int))) ∧ Rm M z.2.2.2.2 ∧ Fr wsL M1 z.2.2.2.2) (fun z => (rd M v1 - z.2.2.2.1).toNat) ?_ FU _ ?_ ?_
    · rintro kH ⟨u1, u2, u3, u4, N⟩ ⟨q1, q2, q3, ⟨L, q4, q5, q6⟩, q7, q8⟩ hk
      have e1 : u1 = v1 := q1
      have e2 : u2 = v2 := q2
      have e3 : 0 ≤ u4 ∧ u4 ≤ rd M v1 := q3
      have e4 : flR M v1 u4.toNat L := q4
      have e5 : u3 = (L.length : Int) := q5
      have e7 : Rm M N := q7
      have e8 : Fr wsL M1 N := q8
      clear q1 q2 q3 q4 q5 q7 q8
      obtain ⟨l1, l2⟩ := flR_rng _ _ e4
      show wq (f_M_shifts_B15 (fun v1 v2 v3 v4 M => kH (v1, v2, v3, v4, M)) _ u1 u2 u3 u4 N) _
      rw [e1, e2]
      unfold f_M_shifts_B15
      rw [e_round e7 c.1 (by omega), bI_s, i32_id (x := rd M v1) (by omega) (by omega), i32_id (x := u4) (by omega) (by omega)]
      refine wq_if (fun g => ?_) (fun g => ?_)
      · dsimp only
        have hL : flR M v1 (rd M v1).toNat L := by rw [show (rd M v1).toNat = u4.toNat by omega]; exact e4
        rw [i32_id (x := v2) i2.1 i2.2, i32_id (x := -1) (by omega) (by omega)]
        by_cases d : v2 = -1
        · exact wq_e (fun z => z d) (wq_some ⟨Or.inl ⟨c, L, hL, Or.inl ⟨d, e5⟩⟩, e8⟩)
        · exact wq_t d (wq_some ⟨Or.inl ⟨c, L, hL, Or.inr (Or.inr ⟨d, q6, rfl⟩)⟩, e8⟩)
      · refine wq_I (s_mFits h1 e7 sv ⟨(e8.at 78 66 rfl).trans hs.1, (e8.row 121 rfl).trans hs.2⟩ c.1 c.2 e3.1 (by omega)) (fun r M2 ⟨a1, a2, a3⟩ => ?_)
        have en : (u4 + 1).toNat = u4.toNat + 1 := by omega
        have ev : ((u4.toNat : Nat) : Int) = u4 := by omega
        rcases a1 with ⟨b1, b2⟩ | ⟨b1, b2⟩
        · have b1 : r = 1 := b1
          subst b1
          refine wq_t (by decide) ?_
          have hL1 : flR M v1 (u4.toNat + 1) (L ++ [u4]) := ⟨L, e4, Or.inl ⟨by rw [ev]; exact b2, by rw [ev]⟩⟩
          rw [i32_id (x := u3) (by omega) (by omega), i32_id (x := v2) i2.1 i2.2]
          by_cases d : u3 = v2
          · refine wq_e (fun z => z d) (wq_some ⟨Or.inl ⟨c, LF, hLF, Or.inr (Or.inl ?_)⟩, e8.tr a3⟩)
            obtain ⟨T, hT'⟩ := flR_pre hL1 ((rd M v1).toNat - (u4.toNat + 1)) LF (by rw [show u4.toNat + 1 + ((rd M v1).toNat - (u4.toNat + 1)) = (rd M v1).toNat by omega]; exact hLF)
            subst hT'
            have hv2 : v2.toNat = L.length := by omega
            refine ⟨⟨by omega, by simp; omega⟩, ?_⟩
            rw [hv2, List.append_assoc, List.getElem?_append_right (Nat.le_refl _), Nat.sub_self]
            rfl
          · refine wq_t d (hk _ ⟨rfl, rfl, ⟨show 0 ≤ u4 + 1 by omega, show u4 + 1 ≤ rd M v1 by omega⟩, ⟨L ++ [u4], by show flR M v1 (u4 + 1).toNat _; rw [en]; exact hL1, by show u3 + 1 = _; simp; omega, by simp; omega⟩, a2, e8.tr a3⟩ (show (rd M v1 - (u4 + 1)).toNat < (rd M v1 - u4).toNat by omega))
        · have b1 : r = 0 := b1
          subst b1
          exact wq_e (fun z => z (by decide)) (hk _ ⟨rfl, rfl, ⟨show 0 ≤ u4 + 1 by omega, show u4 + 1 ≤ rd M v1 by omega⟩, ⟨L, by show flR M v1 (u4 + 1).toNat _; rw [en]; exact ⟨L, e4, Or.inr ⟨by rw [ev]; exact b2, rfl⟩⟩, e5, q6⟩, a2, e8.tr a3⟩ (show (rd M v1 - (u4 + 1)).toNat < (rd M v1 - u4).toNat by omega))
    · exact ⟨rfl, rfl, ⟨Int.le_refl _, by show (0 : Int) ≤ rd M v1; omega⟩, ⟨[], rfl, rfl, by show ¬ (0 ≤ v2 ∧ v2 < ((0 : Nat) : Int)); omega⟩, hm, Fr.rf⟩
    · show (rd M v1 - 0).toNat < 1000000000
      omega
