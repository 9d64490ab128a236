def wPlace : List Int := [112, 108, 97, 99, 101]
def wStreet : List Int := [115, 116, 114, 101, 101, 116]
def wFrom : List Int := [102, 114, 111, 109]
def wTo : List Int := [116, 111]
def wTakes : List Int := [116, 97, 107, 101, 115]
def wShift : List Int := [115, 104, 105, 102, 116]
def wWide : List Int := [119, 105, 100, 101]
def wWalker : List Int := [119, 97, 108, 107, 101, 114]
def wBroad : List Int := [98, 114, 111, 97, 100]
def wAt : List Int := [97, 116]
def wBegin : List Int := [98, 101, 103, 105, 110]
theorem cw_0 : cwd 0 wPlace := cw_of (by decide +kernel)
theorem cw_2 : cwd 2 wStreet := cw_of (by decide +kernel)
theorem cw_3 : cwd 3 wFrom := cw_of (by decide +kernel)
theorem cw_4 : cwd 4 wTo := cw_of (by decide +kernel)
theorem cw_5 : cwd 5 wTakes := cw_of (by decide +kernel)
theorem cw_7 : cwd 7 wShift := cw_of (by decide +kernel)
theorem cw_8 : cwd 8 wWide := cw_of (by decide +kernel)
theorem cw_17 : cwd 17 wWalker := cw_of (by decide +kernel)
theorem cw_18 : cwd 18 wBroad := cw_of (by decide +kernel)
theorem cw_19 : cwd 19 wAt := cw_of (by decide +kernel)
theorem cw_20 : cwd 20 wBegin := cw_of (by decide +kernel)
theorem rw_81 : rwd 81 wPlace := rw_of (l := [16, 12, 1, 3, 5]) (by decide +kernel) (by decide)
theorem rw_82 : rwd 82 wStreet := rw_of (l := [19, 20, 18, 5, 5, 20]) (by decide +kernel) (by decide)
theorem rw_83 : rwd 83 wFrom := rw_of (l := [6, 18, 15, 13]) (by decide +kernel) (by decide)
theorem rw_84 : rwd 84 wTo := rw_of (l := [20, 15]) (by decide +kernel) (by decide)
theorem rw_85 : rwd 85 wTakes := rw_of (l := [20, 1, 11, 5, 19]) (by decide +kernel) (by decide)
theorem rw_86' : rwd 86 wRound := rw_of (l := [18, 15, 21, 14, 4]) (by decide +kernel) (by decide)
theorem rw_87 : rwd 87 wShift := rw_of (l := [19, 8, 9, 6, 20]) (by decide +kernel) (by decide)
theorem rw_88 : rwd 88 wWide := rw_of (l := [23, 9, 4, 5]) (by decide +kernel) (by decide)
theorem rw_89 : rwd 89 wWalker := rw_of (l := [23, 1, 12, 11, 5, 18]) (by decide +kernel) (by decide)
theorem rw_90 : rwd 90 wBroad := rw_of (l := [2, 18, 15, 1, 4]) (by decide +kernel) (by decide)
theorem rw_91 : rwd 91 wAt := rw_of (l := [1, 20]) (by decide +kernel) (by decide)
theorem rw_92 : rwd 92 wBegin := rw_of (l := [2, 5, 7, 9, 14]) (by decide +kernel) (by decide)
/-- the town as far as it has been read -/
def Tn : Type := (Nat → Nat) × (Nat → List Int) × (Nat → Nat → Int) × (Nat → Nat → Int) × Int × List Int
def Tn.c (S : Tn) : Nat → Nat := Prod.fst S
def Tn.nm (S : Tn) : Nat → List Int := Prod.fst (Prod.snd S)
def Tn.r (S : Tn) : Nat → Nat → Int := Prod.fst (Prod.snd (Prod.snd S))
def Tn.w (S : Tn) : Nat → Nat → Int := Prod.fst (Prod.snd (Prod.snd (Prod.snd S)))
def Tn.bg (S : Tn) : Int := Prod.fst (Prod.snd (Prod.snd (Prod.snd (Prod.snd S))))
def Tn.C (S : Tn) : List Int := Prod.snd (Prod.snd (Prod.snd (Prod.snd (Prod.snd S))))
def mkT (c : Nat → Nat) (nm : Nat → List Int) (r w : Nat → Nat → Int) (bg : Int) (C : List Int) : Tn := (c, nm, r, w, bg, C)
abbrev Rs (α : Type) : Type := (Int × Int) ⊕ α
def rb {α β : Type} : Rs α → (α → Rs β) → Rs β
  | .inl f, _ => .inl f
  | .inr a, k => k a
/-- the first of so many names that is this one, or -1 -/
def fx (nm : Nat → List Int) (b : Nat) (l : List Int) : Nat → Nat → Int
  | 0, _ => -1
  | k + 1, i => if nm (b + i) = l then (i : Int) else fx nm b l k (i + 1)
theorem fx_rng (nm : Nat → List Int) (b : Nat) (l : List Int) : ∀ (k i : Nat), fx nm b l k i = -1 ∨ ((i : Int) ≤ fx nm b l k i ∧ fx nm b l k i < (i + k : Nat))
  | 0, i => Or.inl rfl
  | k + 1, i => by
    unfold fx
    by_cases c : nm (b + i) = l
    · rw [if_pos c]
      exact Or.inr ⟨Int.le_refl _, by omega⟩
    · rw [if_neg c]
      rcases fx_rng nm b l k (i + 1) with h | h
      · exact Or.inl h
      · exact Or.inr ⟨by omega, by omega⟩
def knw (S : Tn) (l : List Int) : Bool := decide (fx S.nm 0 l (S.c 0) 0 ≠ -1 ∨ fx S.nm 12 l (S.c 1) 0 ≠ -1 ∨ fx S.nm 24 l (S.c 2) 0 ≠ -1)
section TPure
variable (T : Nat → Int) (e : Int)
def wdR (L : List Int) (p g : Int) : Rs Int := if hwq T e L p g = true then .inr (sk T e p + L.length) else .inl (1, sk T e p)
def nwR (S : Tn) (p : Int) : Rs (List Int × Int) := rb (namR T e p p) fun l => if knw S l = true then .inl (3, sk T e p) else .inr (l, sk T e p + l.length)
def nnR (S : Tn) (kd cap : Nat) (v p : Int) : Rs (List Int × Int) := if S.c kd < cap then nwR T e S p else .inl (5, v)
def plR (S : Tn) (x p : Int) : Rs (Int × Int) := rb (namR T e p p) fun l => if fx S.nm 0 l (S.c 0) 0 = -1 ∨ fx S.nm 0 l (S.c 0) 0 = x then .inl (3, sk T e p) else .inr (fx S.nm 0 l (S.c 0) 0, sk T e p + l.length)
def apR (L : List Int) (S : Tn) (x p g : Int) : Rs (Int × Int) := rb (wdR T e L p g) (plR T e S x)
def anR (L : List Int) (a b p g : Int) : Rs (Int × Int) := rb (wdR T e L p g) fun p => numR T e a b p p
def suR (C : List Int) (p : Int) : Out := (dD false T e 1601 true p p 0 [] C).getD (.inl (1, 0))
end TPure
def addP (S : Tn) (l : List Int) : Tn := mkT (fun k => if k = 0 then S.c 0 + 1 else S.c k) (fun k => if k = S.c 0 then l else S.nm k) S.r S.w S.bg S.C
def addS (S : Tn) (l : List Int) (v : Nat → Int) (C : List Int) : Tn := mkT (fun k => if k = 1 then S.c 1 + 1 else S.c k) (fun k => if k = 12 + S.c 1 then l else S.nm k) (fun j s => if s = S.c 1 then v j else S.r j s) S.w S.bg C
def addW (S : Tn) (l : List Int) (v : Nat → Int) : Tn := mkT (fun k => if k = 2 then S.c 2 + 1 else S.c k) (fun k => if k = 24 + S.c 2 then l else S.nm k) S.r (fun j s => if s = S.c 2 then v j else S.w j s) S.bg S.C
def addB (S : Tn) (b : Int) : Tn := mkT S.c S.nm S.r S.w b S.C
def v7 (a b c d e f g : Int) : Nat → Int := fun j => if j = 0 then a else if j = 1 then b else if j = 2 then c else if j = 3 then d else if j = 4 then e else if j = 5 then f else g
section TPure2
variable (T : Nat → Int) (e : Int)
def stRes (S : Tn) (v p : Int) : Rs (Tn × Int × Int) :=
  rb (nnR T e S 1 12 v p) fun a => rb (apR T e wFrom S (-1) a.2 a.2) fun x => rb (apR T e wTo S x.1 x.2 x.2) fun y =>
  rb (anR T e wTakes 1 4 y.2 y.2) fun t => rb (anR T e wRound 1 48 t.1 t.1) fun d => rb (anR T e wShift 0 47 d.1 d.1) fun h =>
  rb (wdR T e wWide h.1 h.1) fun p => rb (suR T e S.C p) fun z => .inr (addS S a.1 (v7 x.1 y.1 t.2 d.2 (h.2 % d.2) S.C.length z.2.2.length) z.2.2, z.1, z.2.1)
def waRes (S : Tn) (v p : Int) : Rs (Tn × Int × Int) :=
  rb (nnR T e S 2 6 v p) fun a => rb (anR T e wBroad 1 99 a.2 a.2) fun b => rb (apR T e wAt S (-1) b.1 b.1) fun x =>
  rb (apR T e wTo S x.1 x.2 x.2) fun y => .inr (addW S a.1 (v7 b.2 x.1 y.1 0 0 0 0), y.2, y.2)
def plRes (S : Tn) (v p : Int) : Rs (Tn × Int × Int) := rb (nnR T e S 0 9 v p) fun a => .inr (addP S a.1, a.2, a.2)
def beRes (S : Tn) (p g : Int) : Rs (Tn × Int × Int) := rb (anR T e wBegin 0 999 p g) fun a => .inr (addB S a.2, a.1, a.1)
/-- one statement, its sign behind it -/
def stmt (n : Nat) (S : Tn) (p g : Int) : Rs (Tn × Int × Int) :=
  if n = 70 then .inl (5, sk T e p) else
  rb (if hwq T e wPlace p g = true then plRes T e S (sk T e p) (sk T e p + 5) else if hwq T e wStreet p g = true then stRes T e S (sk T e p) (sk T e p + 6) else if hwq T e wWalker p g = true then waRes T e S (sk T e p) (sk T e p + 6) else beRes T e S p g)
    fun z => if bte T e (sk T e z.2.1) = 59 then .inr (z.1, sk T e z.2.1 + 1, z.2.2) else .inl (1, sk T e z.2.1)
/-- a town's statements to their end or their fault -/
def tnF : Nat → Nat → Tn → Int → Int → Rs (Tn × Nat)
  | 0, _, _, _, _ => .inl (5, 0)
  | k + 1, n, S, p, g => if sk T e p = e then .inr (S, n) else rb (stmt T e n S p g) fun z => tnF k (n + 1) z.1 z.2.1 z.2.2
/-- what a reader leaves: the fault, or what it has read -/
def Oc {α : Type} (R : Rs α) (K : α → Mm → Prop) (q : Int × Mm) : Prop := match R with
  | .inl f => q.1 = 0 ∧ Fb T e f.1 f.2 q.2
  | .inr a => q.1 = 1 ∧ K a q.2
def Om {α : Type} (R : Rs α) (K : α → Mm → Prop) (M : Mm) : Prop := match R with
  | .inl f => Fm T e f.1 f.2 M
  | .inr a => K a M
end TPure2
theorem ltrs_pk {l : List Int} (h : ltrs l) : 0 ≤ pk5 l ∧ pk5 l < 1073741824 := by
  have := pk5_rg l h.2
  have h2 : (32 : Int) ^ l.length ≤ 32 ^ 6 := by
    exact_mod_cast Nat.pow_le_pow_right (by decide : 1 ≤ 32) h.1.2
  have h3 : (32 : Int) ^ 6 = 1073741824 := by decide
  omega
theorem ltrs_pk27 {l : List Int} (h : ltrs l) : 0 ≤ pk27 0 l ∧ pk27 0 l < 387420489 := by
  have := pk27_rg l 0 1 h.2 (Int.le_refl _) (by decide)
  have h2 : (27 : Int) ^ l.length ≤ 27 ^ 6 := by
    exact_mod_cast Nat.pow_le_pow_right (by decide : 1 ≤ 27) h.1.2
  have h3 : (27 : Int) ^ 6 = 387420489 := by decide
  omega
theorem pk27_inj2 : ∀ (n : Nat) (l l' : List Int), l.length ≤ n → (∀ x ∈ l, 1 ≤ x ∧ x ≤ 26) → (∀ x ∈ l', 1 ≤ x ∧ x ≤ 26) → pk27 0 l = pk27 0 l' → l = l' := by
  intro n
  have hsn : ∀ l : List Int, l = [] ∨ ∃ a c, l = a ++ [c] := by
    intro l
    rcases List.eq_nil_or_concat l with h | ⟨a, c, h⟩
    · exact Or.inl h
    · exact Or.inr ⟨a, c, by simpa using h⟩
  have hz : ∀ (a : List Int) (c : Int), (∀ x ∈ a ++ [c], 1 ≤ x ∧ x ≤ 26) → (0 ≤ pk27 0 a ∧ (1 ≤ c ∧ c ≤ 26)) ∧ ∀ x ∈ a, 1 ≤ x ∧ x ≤ 26 := by
    intro a c h
    have ha : ∀ x ∈ a, 1 ≤ x ∧ x ≤ 26 := fun x hx => h x (List.mem_append_left _ hx)
    exact ⟨⟨(pk27_rg a 0 1 ha (Int.le_refl _) (by decide)).1, h c (List.mem_append_right _ List.mem_cons_self)⟩, ha⟩
  induction n with
  | zero =>
    intro l l' h0 h1 h2 h3
    have e0 : l = [] := by cases l with
      | nil => rfl
      | cons a b => rw [List.length_cons] at h0; omega
    subst e0
    rcases hsn l' with e1 | ⟨a, c, e1⟩
    · exact e1.symm
    · subst e1
      have := hz a c h2
      rw [pk27_snoc] at h3
      have h3 : (0 : Int) = 27 * pk27 0 a + c := h3
      omega
  | succ n ih =>
    intro l l' h0 h1 h2 h3
    rcases hsn l with e0 | ⟨a, c, e0⟩
    · subst e0
      rcases hsn l' with e1 | ⟨a, c, e1⟩
      · exact e1.symm
      · subst e1
        have := hz a c h2
        rw [pk27_snoc] at h3
        have h3 : (0 : Int) = 27 * pk27 0 a + c := h3
        omega
    · subst e0
      obtain ⟨z1, z2⟩ := hz a c h1
      rw [pk27_snoc] at h3
      rcases hsn l' with e1 | ⟨a', c', e1⟩
      · subst e1
        have h3 : 27 * pk27 0 a + c = (0 : Int) := h3
        omega
      · subst e1
        obtain ⟨z3, z4⟩ := hz a' c' h2
        rw [pk27_snoc] at h3
        have e2 : c = c' := by omega
        subst e2
        have := ih a a' (by rw [List.length_append, List.length_singleton] at h0; omega) z2 z4 (by omega)
        rw [this]
theorem pk27_inj {l l' : List Int} (h : ltrs l) (h' : ltrs l') (e : pk27 0 l = pk27 0 l') : l = l' := pk27_inj2 _ l l' (Nat.le_refl _) h.2 h'.2 e
theorem Fr.off {l : List (Nat × Nat)} {M M' : Mm} (h : Fr l M M') {i k : Nat} (hh : ∀ p ∈ l, p.1 = i → p.2 ≠ k ∧ p.2 ≠ 99999) : M' i k = M i k := by
  refine h i k fun p hp hq => ?_
  have := hh p hp hq.1
  rcases hq.2 with z | z
  · exact this.1 z
  · exact this.2 z
