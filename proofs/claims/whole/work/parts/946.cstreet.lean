theorem wfc_cg {cd cd' : Nat → Int} : ∀ (n f h : Nat), (∀ k : Nat, f ≤ k → k < f + n → cd k = cd' k) → wfc cd n f h → wfc cd' n f h
  | 0, _, _, _, hw => hw
  | n + 1, f, h, hk, hw => by
    have e := hk f (Nat.le_refl _) (by omega)
    have ih := fun h' => wfc_cg n (f + 1) h' (fun k a b => hk k (by omega) (by omega))
    rcases hw with ⟨a, b, c⟩ | ⟨a, b, c⟩
    · exact Or.inl ⟨by rw [← e]; exact a, b, ih _ c⟩
    · exact Or.inr ⟨by rw [← e]; exact a, b, ih _ c⟩
theorem wfl_wfc {cd : Nat → Int} : ∀ (D : List Int) (f h : Nat), (∀ i : Nat, i < D.length → cd (f + i) = D.getD i 0) → wfl false D h 1 → wfc cd D.length f h
  | [], _, _, _, hw => hw
  | v :: D, f, h, hk, hw => by
    obtain ⟨a, b, c, d⟩ := hw
    have e : cd f = v := hk 0 (by simp)
    have ih : ∀ h' : Nat, wfl false D h' 1 → wfc cd D.length (f + 1) h' := fun h' => wfl_wfc D (f + 1) h' (fun i hi => by
      have := hk (i + 1) (by simpa using hi)
      rw [show f + 1 + i = f + (i + 1) by omega, this]
      rfl)
    show (_ ∧ _ ∧ _) ∨ (_ ∧ _ ∧ _)
    rw [e]
    unfold arC at b d
    rcases a with a | a | a | a
    · rw [if_neg (by omega), if_neg (by decide), if_neg (by omega)] at b d
      exact Or.inr ⟨a, b, by rw [show h - 1 = h + 1 - 2 by omega]; exact ih _ d⟩
    · rw [if_pos (by omega)] at b d
      exact Or.inl ⟨Or.inr a, c, ih _ d⟩
    · rw [if_neg (by omega), if_neg (by decide), if_pos (by omega)] at b d
      exact Or.inl ⟨Or.inl a.2, c, ih _ d⟩
    · exact absurd a.1 (by decide)
theorem su_ok {T : Nat → Int} {e p : Int} {C : List Int} (hB : Bt T e) (h0 : 0 ≤ p) (h1 : p ≤ e) (hl : C.length ≤ p.toNat) : dD false T e 1601 true p p 0 [] C = some (suR T e C p) ∧ dOut false T e p C 0 1 (suR T e C p) := by
  have hh := hB.1
  obtain ⟨R, r1, r2⟩ := dD_ok (a := false) hB (o0 := 0) (Int.le_refl _) 0 (by decide) 1601 true p p 0 [] C h0 h1 (by omega) (by decide) rfl (fun y => by cases y) (fun _ v hv => by cases hv) (by simpa using hl) (by omega)
  have e1 : suR T e C p = R := by unfold suR; rw [r1]; rfl
  rw [e1]
  exact ⟨r1, r2⟩
/-- the class's draft, rows -/
def Dr (S : Tn) (M : Mm) : Prop := (∀ j s : Nat, j < 7 → s < S.c 1 → M (23 + j) s = S.r j s) ∧ (∀ j w : Nat, j < 3 → w < S.c 2 → M (30 + j) w = S.w j w) ∧ M 20 13 = S.bg
def WsS (S : Tn) (s : Nat) : Prop := (0 ≤ S.r 0 s ∧ S.r 0 s < (S.c 0 : Int)) ∧ (0 ≤ S.r 1 s ∧ S.r 1 s < (S.c 0 : Int)) ∧ S.r 0 s ≠ S.r 1 s ∧ (1 ≤ S.r 2 s ∧ S.r 2 s ≤ 4) ∧ (1 ≤ S.r 3 s ∧ S.r 3 s ≤ 48) ∧ (0 ≤ S.r 4 s ∧ S.r 4 s < S.r 3 s) ∧ (0 ≤ S.r 5 s ∧ S.r 5 s ≤ S.r 6 s ∧ S.r 6 s ≤ (S.C.length : Int)) ∧ wfc (fun k => S.C.getD k 0) (S.r 6 s - S.r 5 s).toNat (S.r 5 s).toNat 0
def WsW (S : Tn) (w : Nat) : Prop := (1 ≤ S.w 0 w ∧ S.w 0 w ≤ 99) ∧ (0 ≤ S.w 1 w ∧ S.w 1 w < (S.c 0 : Int)) ∧ (0 ≤ S.w 2 w ∧ S.w 2 w < (S.c 0 : Int)) ∧ S.w 1 w ≠ S.w 2 w
def Ws (S : Tn) : Prop := Wn S ∧ (∀ s : Nat, s < S.c 1 → WsS S s) ∧ (∀ w : Nat, w < S.c 2 → WsW S w) ∧ 0 ≤ S.bg ∧ S.bg ≤ 999
theorem ws_addS {S : Tn} {l : List Int} {x y t d h : Int} {D : List Int} (hS : Ws S) (hl : ltrs l) (hc : S.c 1 < 12) (hx : 0 ≤ x ∧ x < (S.c 0 : Int) ∧ x ≠ -1) (hy : 0 ≤ y ∧ y < (S.c 0 : Int) ∧ y ≠ x) (ht : 1 ≤ t ∧ t ≤ 4) (hd : 1 ≤ d ∧ d ≤ 48) (hh : 0 ≤ h) (hw : wfl false D 0 1) : Ws (addS S l (v7 x y t d (h % d) S.C.length (S.C ++ D).length) (S.C ++ D)) := by
  obtain ⟨⟨⟨c0, c1, c2⟩, hn⟩, hs, hv, hb⟩ := hS
  have hl1 : (S.C ++ D).length = S.C.length + D.length := List.length_append
  refine ⟨⟨⟨c0, ?_, c2⟩, ?_⟩, ?_, hv, hb⟩
  · show (if (1 : Nat) = 1 then S.c 1 + 1 else S.c 1) ≤ 12
    rw [if_pos rfl]
    omega
  · intro k w hk hw'
    show ltrs (if 12 * k + w = 12 + S.c 1 then l else S.nm (12 * k + w))
    have hw' : w < (if k = 1 then S.c 1 + 1 else S.c k) := hw'
    by_cases g : 12 * k + w = 12 + S.c 1
    · rw [if_pos g]; exact hl
    · rw [if_neg g]
      refine hn k w hk ?_
      by_cases g2 : k = 1
      · rw [if_pos g2] at hw'
        subst g2
        omega
      · rw [if_neg g2] at hw'
        exact hw'
  · intro s hs'
    have hs' : s < (if (1 : Nat) = 1 then S.c 1 + 1 else S.c 1) := hs'
    rw [if_pos rfl] at hs'
    have key : ∀ A : Nat → Int, (fun j => if s = S.c 1 then v7 x y t d (h % d) S.C.length (S.C ++ D).length j else S.r j s) = A → ((0 ≤ A 0 ∧ A 0 < (S.c 0 : Int)) ∧ (0 ≤ A 1 ∧ A 1 < (S.c 0 : Int)) ∧ A 0 ≠ A 1 ∧ (1 ≤ A 2 ∧ A 2 ≤ 4) ∧ (1 ≤ A 3 ∧ A 3 ≤ 48) ∧ (0 ≤ A 4 ∧ A 4 < A 3) ∧ (0 ≤ A 5 ∧ A 5 ≤ A 6 ∧ A 6 ≤ ((S.C ++ D).length : Int)) ∧ wfc (fun k => (S.C ++ D).getD k 0) (A 6 - A 5).toNat (A 5).toNat 0) := by
      intro A hA
      by_cases g : s = S.c 1
      · have hA' : A = v7 x y t d (h % d) S.C.length (S.C ++ D).length := by
          rw [← hA]
          funext j
          rw [if_pos g]
        rw [hA']
        show (0 ≤ x ∧ x < (S.c 0 : Int)) ∧ (0 ≤ y ∧ y < (S.c 0 : Int)) ∧ x ≠ y ∧ (1 ≤ t ∧ t ≤ 4) ∧ (1 ≤ d ∧ d ≤ 48) ∧ (0 ≤ h % d ∧ h % d < d) ∧ (0 ≤ (S.C.length : Int) ∧ (S.C.length : Int) ≤ ((S.C ++ D).length : Int) ∧ ((S.C ++ D).length : Int) ≤ ((S.C ++ D).length : Int)) ∧ wfc (fun k => (S.C ++ D).getD k 0) (((S.C ++ D).length : Int) - (S.C.length : Int)).toNat ((S.C.length : Int)).toNat 0
        refine ⟨⟨hx.1, hx.2.1⟩, ⟨hy.1, hy.2.1⟩, fun z => hy.2.2 z.symm, ht, hd, ⟨Int.emod_nonneg _ (by omega), Int.emod_lt_of_pos _ (by omega)⟩, ⟨by omega, by omega, by omega⟩, ?_⟩
        rw [show (((S.C ++ D).length : Int) - (S.C.length : Int)).toNat = D.length by omega, Int.toNat_natCast]
        refine wfl_wfc D _ _ (fun i hi => ?_) hw
        show (S.C ++ D).getD (S.C.length + i) 0 = D.getD i 0
        rw [List.getD_eq_getElem?_getD, List.getElem?_append_right (by omega), show S.C.length + i - S.C.length = i by omega, ← List.getD_eq_getElem?_getD]
      · have hA' : A = fun j => S.r j s := by
          rw [← hA]
          funext j
          rw [if_neg g]
        rw [hA']
        dsimp only
        obtain ⟨z1, z2, z3, z4, z5, z6, z7, z8⟩ := hs s (by omega)
        refine ⟨z1, z2, z3, z4, z5, z6, ⟨z7.1, z7.2.1, by omega⟩, wfc_cg _ _ _ (fun k k1 k2 => ?_) z8⟩
        show S.C.getD k 0 = (S.C ++ D).getD k 0
        rw [getD_app_l (by omega)]
    exact key _ rfl
theorem Oc_cs {T : Nat → Int} {e r : Int} {M : Mm} {α : Type} {R : Rs α} {K : α → Mm → Prop} (h : Oc T e R K (r, M)) : (∃ f, R = .inl f ∧ r = 0 ∧ Fb T e f.1 f.2 M) ∨ (∃ a, R = .inr a ∧ r = 1 ∧ K a M) := by
  cases R with
  | inl f => exact Or.inl ⟨f, rfl, h⟩
  | inr a => exact Or.inr ⟨a, rfl, h⟩
def lTc : List (Nat × Nat) := [(1, 2), (1, 3), (1, 4), (1, 5), (1, 6), (20, 13), (21, 99999), (22, 99999), (23, 99999), (24, 99999), (25, 99999), (26, 99999), (27, 99999), (28, 99999), (29, 99999), (30, 99999), (31, 99999), (32, 99999), (33, 3), (33, 4), (34, 99999)]
def lA (n : Nat) : List (Nat × Nat) := [(21, 1), (22, 12 + n), (23, n), (24, n), (25, n), (26, n), (27, n), (28, n), (29, n), (1, 2), (1, 3), (1, 4), (1, 5), (1, 6)]
def lB (n : Nat) : List (Nat × Nat) := [(21, 1), (22, 12 + n), (23, n), (24, n), (25, n), (26, n), (27, n), (28, n), (29, n), (1, 2), (1, 3), (1, 4), (1, 5), (1, 6), (33, 3), (33, 4), (34, 99999)]
/-- the class behind a statement -/
def Cs (T : Nat → Int) (e : Int) (z : Tn × Int × Int) (M : Mm) : Prop := (∃ p', sk T e p' = sk T e z.2.1 ∧ Yt T e p' z.2.2 z.1.C M) ∧ Dn z.1 M ∧ Dr z.1 M ∧ Ws z.1 ∧ z.1.C.length ≤ z.2.1.toNat ∧ (0 ≤ z.2.1 ∧ z.2.1 ≤ e)
theorem lA_B {n : Nat} {M M' : Mm} (h : Fr (lA n) M M') : Fr (lB n) M M' := h.mono (by simp [lA, lB])
theorem lB_T {n : Nat} {M M' : Mm} (h : Fr (lB n) M M') : Fr lTc M M' := by
  intro i k hk
  refine h i k fun p hp hq => ?_
  have hne : k ≠ 99999 ∨ k = 99999 := by omega
  simp only [lB, List.mem_cons, List.not_mem_nil, or_false] at hp
  have kk := fun (a b : Nat) (hab : (a, b) ∈ lTc) => hk (a, b) hab
  rcases hp with z | z | z | z | z | z | z | z | z | z | z | z | z | z | z | z | z <;> subst z
  · exact kk 21 99999 (by simp [lTc]) ⟨hq.1, Or.inr rfl⟩
  · exact kk 22 99999 (by simp [lTc]) ⟨hq.1, Or.inr rfl⟩
  · exact kk 23 99999 (by simp [lTc]) ⟨hq.1, Or.inr rfl⟩
  · exact kk 24 99999 (by simp [lTc]) ⟨hq.1, Or.inr rfl⟩
  · exact kk 25 99999 (by simp [lTc]) ⟨hq.1, Or.inr rfl⟩
  · exact kk 26 99999 (by simp [lTc]) ⟨hq.1, Or.inr rfl⟩
  · exact kk 27 99999 (by simp [lTc]) ⟨hq.1, Or.inr rfl⟩
  · exact kk 28 99999 (by simp [lTc]) ⟨hq.1, Or.inr rfl⟩
  · exact kk 29 99999 (by simp [lTc]) ⟨hq.1, Or.inr rfl⟩
  all_goals exact kk _ _ (by simp [lTc]) hq
