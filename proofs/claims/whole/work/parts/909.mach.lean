def hwq (T : Nat → Int) (e : Int) (L : List Int) (p g : Int) : Bool := decide (sk T e p ≠ g) && ((List.range L.length).all (fun i => decide (bte T e (sk T e p + i) = L.getD i 0)) && !(decide (97 ≤ bte T e (sk T e p + L.length) ∧ bte T e (sk T e p + L.length) ≤ 122)))
theorem hwq_iff {T : Nat → Int} {e : Int} {L : List Int} {p g : Int} : hwq T e L p g = true ↔ hw T e L p g := by
  unfold hwq hw hwB isLet
  simp only [Bool.and_eq_true, decide_eq_true_eq, List.all_eq_true, List.mem_range, Bool.not_eq_true', decide_eq_false_iff_not]
theorem hwq_not {T : Nat → Int} {e : Int} {L : List Int} {p g : Int} (h : ¬ hw T e L p g) : hwq T e L p g = false := by
  cases c : hwq T e L p g with
  | false => rfl
  | true => exact absurd (hwq_iff.mp c) h
def wMin : List Int := [109, 105, 110]
def wMax : List Int := [109, 97, 120]
def wTide : List Int := [116, 105, 100, 101]
def wRound : List Int := [114, 111, 117, 110, 100]
def wClock : List Int := [99, 108, 111, 99, 107]
def wDay : List Int := [100, 97, 121]
def wHour : List Int := [104, 111, 117, 114]
def wWidth : List Int := [119, 105, 100, 116, 104]
def wPasses : List Int := [112, 97, 115, 115, 101, 115]
def mulQ (v : Int) : Bool := decide (v = 3 ∨ v = 4)
def opQ (v : Int) : Bool := decide (1 ≤ v ∧ v ≤ 4)
def mrkQ (v : Int) : Bool := decide (20 ≤ v ∧ v ≤ 24)
def ofQ (v : Int) : Bool := decide (60 ≤ v)
def nmk (W : List Int) : List Int := W.takeWhile (fun v => !mrkQ v)
def rmk (W : List Int) : List Int := W.dropWhile (fun v => !mrkQ v)
def tpm (W : List Int) : Int := (rmk W).headD (-1)
abbrev Out : Type := (Int × Int) ⊕ (Int × Int × List Int)
/-- a part without one inside it -/
def opd (a : Bool) (T : Nat → Int) (e p g : Int) : (Int × Int) ⊕ (Int × Int × Int) :=
  if (!a && hwq T e wTide p g) = true then .inr (sk T e p + 4, sk T e p + 4, 7)
  else if (!a && hwq T e wRound p g) = true then .inr (sk T e p + 5, sk T e p + 5, 8)
  else if (a && hwq T e wHour p g) = true then .inr (sk T e p + 4, sk T e p + 4, 40)
  else if hwq T e wClock p g = true then .inr (sk T e p + 5, sk T e p + 5, if a = true then 41 else 9)
  else if hwq T e wDay p g = true then .inr (sk T e p + 3, sk T e p + 3, if a = true then 42 else 10)
  else match numR T e 0 9999 p g with
    | .inl f => .inl f
    | .inr (p1, v) => .inr (p1, p1, 1000 + v)
/-- the reading of sums with a stack: true: a part is asked; false: behind a part -/
def dD (a : Bool) (T : Nat → Int) (e : Int) : Nat → Bool → Int → Int → Int → List Int → List Int → Option Out
  | 0, _, _, _, _, _, _ => none
  | n + 1, true, p, g, o, W, C =>
    if bte T e (sk T e p) = 40 then (if o = 6 then some (.inl (4, sk T e p)) else dD a T e n true (sk T e p + 1) g (o + 1) (20 :: W) C)
    else if hwq T e wMin p g = true then (if bte T e (sk T e (sk T e p + 3)) ≠ 40 then some (.inl (1, sk T e (sk T e p + 3))) else if o = 6 then some (.inl (4, sk T e (sk T e p + 3))) else dD a T e n true (sk T e (sk T e p + 3) + 1) (sk T e p + 3) (o + 1) (21 :: W) C)
    else if hwq T e wMax p g = true then (if bte T e (sk T e (sk T e p + 3)) ≠ 40 then some (.inl (1, sk T e (sk T e p + 3))) else if o = 6 then some (.inl (4, sk T e (sk T e p + 3))) else dD a T e n true (sk T e (sk T e p + 3) + 1) (sk T e p + 3) (o + 1) (22 :: W) C)
    else if (a && hwq T e wWidth p g) = true then (if o = 6 then some (.inl (4, sk T e p)) else dD a T e n true (sk T e p + 5) (sk T e p + 5) (o + 1) (60 :: W) C)
    else if (a && hwq T e wTide p g) = true then (if o = 6 then some (.inl (4, sk T e p)) else dD a T e n true (sk T e p + 4) (sk T e p + 4) (o + 1) (61 :: W) C)
    else if (a && hwq T e wPasses p g) = true then (if o = 6 then some (.inl (4, sk T e p)) else dD a T e n true (sk T e p + 6) (sk T e p + 6) (o + 1) (62 :: W) C)
    else match opd a T e p g with
      | .inl f => some (.inl f)
      | .inr (p', g', v) => dD a T e n false p' g' (o - (W.takeWhile ofQ).length) (W.dropWhile ofQ) (C ++ v :: W.takeWhile ofQ)
  | n + 1, false, p, g, o, W, C =>
    if bte T e (sk T e p) = 41 ∧ (tpm W = 20 ∨ tpm W = 23 ∨ tpm W = 24) then
      dD a T e n false (sk T e p + 1) g (o - 1 - ((rmk W).tail.takeWhile ofQ).length) ((rmk W).tail.dropWhile ofQ) (C ++ (nmk W ++ ((if tpm W = 20 then [] else if tpm W = 23 then [5] else [6]) ++ (rmk W).tail.takeWhile ofQ)))
    else if bte T e (sk T e p) = 42 then dD a T e n true (sk T e p + 1) g o (3 :: W.dropWhile mulQ) (C ++ W.takeWhile mulQ)
    else if bte T e (sk T e p) = 47 then dD a T e n true (sk T e p + 1) g o (4 :: W.dropWhile mulQ) (C ++ W.takeWhile mulQ)
    else if bte T e (sk T e p) = 43 then dD a T e n true (sk T e p + 1) g o (1 :: W.dropWhile opQ) (C ++ W.takeWhile opQ)
    else if bte T e (sk T e p) = 45 then dD a T e n true (sk T e p + 1) g o (2 :: W.dropWhile opQ) (C ++ W.takeWhile opQ)
    else if tpm W = 21 ∨ tpm W = 22 then (if bte T e (sk T e p) ≠ 44 then some (.inl (1, sk T e p)) else dD a T e n true (sk T e p + 1) g o ((tpm W + 2) :: (rmk W).tail) (C ++ nmk W))
    else if tpm W ≠ -1 then some (.inl (1, sk T e p))
    else some (.inr (sk T e p, g, C ++ W))
/-- how many a code takes off the pile -/
def vaC (a : Bool) (v : Int) : Prop := (1 ≤ v ∧ v ≤ 6) ∨ (1000 ≤ v ∧ v ≤ 10999) ∨ (a = false ∧ 7 ≤ v ∧ v ≤ 10) ∨ (a = true ∧ ((7 ≤ v ∧ v ≤ 13) ∨ (40 ≤ v ∧ v ≤ 42) ∨ (60 ≤ v ∧ v ≤ 62)))
def arC (a : Bool) (v : Int) : Nat := if 1000 ≤ v then 0 else if a = true then (if 60 ≤ v ∨ v = 12 then 1 else if 40 ≤ v ∨ v = 13 then 0 else 2) else (if 7 ≤ v then 0 else 2)
/-- codes that lead from one height of the pile to another -/
def wfl (a : Bool) : List Int → Nat → Nat → Prop
  | [], h, h' => h = h'
  | v :: D, h, h' => vaC a v ∧ arC a v ≤ h ∧ h < 60 ∧ wfl a D (h + 1 - arC a v) h'
theorem wfl_app {a : Bool} : ∀ (A B : List Int) (h m h' : Nat), wfl a A h m → wfl a B m h' → wfl a (A ++ B) h h'
  | [], B, h, m, h', e, g => by
    have e : h = m := e
    subst e
    exact g
  | v :: A, B, h, m, h', e, g => ⟨e.1, e.2.1, e.2.2.1, wfl_app A B _ m h' e.2.2.2 g⟩
/-- what an entry of the stack has left on the pile -/
def wtE (v : Int) : Nat := if v ≤ 4 then 1 else if v = 23 ∨ v = 24 then 1 else 0
def wtW : List Int → Nat
  | [] => 0
  | v :: W => wtE v + wtW W
/-- a sound stack, above so many that were open before it -/
def wsA (o0 : Int) : Nat → List Int → Int → Prop
  | _, [], o => o = o0
  | l, v :: W, o => ((v = 3 ∨ v = 4) ∧ l = 0 ∧ wsA o0 1 W o) ∨ ((v = 1 ∨ v = 2) ∧ l ≤ 1 ∧ wsA o0 2 W o) ∨ ((20 ≤ v ∧ v ≤ 24) ∧ wsA o0 0 W (o - 1)) ∨ ((60 ≤ v ∧ v ≤ 62) ∧ l = 0 ∧ wsA o0 0 W (o - 1))
theorem wsA_dn {o0 : Int} : ∀ (W : List Int) (l l' : Nat) (o : Int), l' ≤ l → wsA o0 l W o → wsA o0 l' W o
  | [], _, _, _, _, h => h
  | v :: W, l, l', o, hl, h => by
    rcases h with ⟨h1, h2, h3⟩ | ⟨h1, h2, h3⟩ | h | h
    · exact Or.inl ⟨h1, by omega, h3⟩
    · exact Or.inr (Or.inl ⟨h1, by omega, h3⟩)
    · exact Or.inr (Or.inr (Or.inl h))
    · exact Or.inr (Or.inr (Or.inr ⟨h.1, by omega, h.2.2⟩))
theorem wsA_wt {o0 : Int} : ∀ (W : List Int) (l : Nat) (o : Int), wsA o0 l W o → o0 ≤ o ∧ (wtW W : Int) ≤ 3 * (o - o0) + ((2 - l : Nat) : Int)
  | [], l, o, h => by
    have h : o = o0 := h
    unfold wtW
    omega
  | v :: W, l, o, h => by
    unfold wtW wtE
    rcases h with ⟨h1, h2, h3⟩ | ⟨h1, h2, h3⟩ | ⟨h1, h3⟩ | ⟨h1, -, h3⟩
    · have := wsA_wt W _ _ h3
      rw [if_pos (by omega)]
      omega
    · have := wsA_wt W _ _ h3
      rw [if_pos (by omega)]
      omega
    · have := wsA_wt W _ _ h3
      rw [if_neg (by omega)]
      split <;> omega
    · have := wsA_wt W _ _ h3
      rw [if_neg (by omega), if_neg (by omega)]
      omega
/-- ops that are dropped -/
theorem wfl_ops {a : Bool} : ∀ (A : List Int) (h : Nat), (∀ v ∈ A, 1 ≤ v ∧ v ≤ 4) → 1 ≤ h → h + A.length < 60 → wfl a A (h + A.length) h
  | [], h, _, _, _ => rfl
  | v :: A, h, hv, h1, h2 => by
    have := hv v List.mem_cons_self
    have hl : (v :: A).length = A.length + 1 := rfl
    have e : arC a v = 2 := by
      unfold arC
      rw [if_neg (by omega)]
      cases a
      · rw [if_neg (by decide), if_neg (by omega)]
      · rw [if_pos rfl, if_neg (by omega), if_neg (by omega)]
    refine ⟨Or.inl ⟨this.1, by omega⟩, by rw [e, hl]; omega, by omega, ?_⟩
    rw [e, hl, show h + (A.length + 1) + 1 - 2 = h + A.length by omega]
    exact wfl_ops A h (fun x hx => hv x (List.mem_cons_of_mem _ hx)) h1 (by omega)
theorem wfl_ofs : ∀ (A : List Int) (h : Nat), (∀ v ∈ A, 60 ≤ v ∧ v ≤ 62) → 1 ≤ h → h < 60 → wfl true A h h
  | [], h, _, _, _ => rfl
  | v :: A, h, hv, h1, h2 => by
    have := hv v List.mem_cons_self
    have e : arC true v = 1 := by
      unfold arC
      rw [if_neg (by omega), if_pos rfl, if_pos (Or.inl this.1)]
    refine ⟨Or.inr (Or.inr (Or.inr ⟨rfl, Or.inr (Or.inr this)⟩)), by rw [e]; exact h1, h2, ?_⟩
    rw [e, show h + 1 - 1 = h by omega]
    exact wfl_ofs A h (fun x hx => hv x (List.mem_cons_of_mem _ hx)) h1 h2
/-- muls, ops, marks, ofs on top of a sound stack -/
def noOf (W : List Int) : Prop := W.takeWhile ofQ = []
theorem noOf_cons {v : Int} {W : List Int} (h : noOf (v :: W)) : ¬ 60 ≤ v := by
  intro c
  have hm : ofQ v = true := decide_eq_true c
  unfold noOf at h
  rw [List.takeWhile_cons, hm, if_pos rfl] at h
  cases h
theorem noOf_of {v : Int} {W : List Int} (h : ¬ 60 ≤ v) : noOf (v :: W) := by
  have hm : ofQ v = false := decide_eq_false h
  unfold noOf
  rw [List.takeWhile_cons, hm]
  rfl
theorem noOf_l {o0 : Int} {W : List Int} {l : Nat} {o : Int} (h : wsA o0 l W o) (hl : 1 ≤ l) : noOf W := by
  cases W with
  | nil => rfl
  | cons v W =>
    refine noOf_of (fun z => ?_)
    rcases h with ⟨h1, h2, h3⟩ | ⟨h1, h2, h3⟩ | ⟨h1, h3⟩ | ⟨h1, h2, h3⟩ <;> omega
theorem ws_mul {o0 : Int} (W : List Int) (o : Int) (h : wsA o0 0 W o) (hn : noOf W) : (∀ v ∈ W.takeWhile mulQ, 1 ≤ v ∧ v ≤ 4) ∧ wsA o0 1 (W.dropWhile mulQ) o ∧ wtW W = (W.takeWhile mulQ).length + wtW (W.dropWhile mulQ) ∧ W.length = (W.takeWhile mulQ).length + (W.dropWhile mulQ).length := by
  cases W with
  | nil => exact ⟨(fun v hv => by cases hv), h, (by simp [wtW]), rfl⟩
  | cons v W =>
    by_cases c : v = 3 ∨ v = 4
    · have hm : mulQ v = true := decide_eq_true c
      rcases h with ⟨h1, h2, h3⟩ | ⟨h1, h2, h3⟩ | ⟨h1, h3⟩ | ⟨h1, -, h3⟩
      · have hW : W.takeWhile mulQ = [] ∧ W.dropWhile mulQ = W := by
          cases W with
          | nil => exact ⟨rfl, rfl⟩
          | cons w W =>
            have hn : mulQ w = false := by
              refine decide_eq_false (fun z => ?_)
              rcases h3 with ⟨g1, g2, g3⟩ | ⟨g1, g2, g3⟩ | ⟨g1, g3⟩ | ⟨g1, g3⟩ <;> omega
            rw [List.takeWhile_cons, List.dropWhile_cons, hn]
            exact ⟨rfl, rfl⟩
        rw [List.takeWhile_cons, List.dropWhile_cons, hm, if_pos rfl, if_pos rfl, hW.1, hW.2]
        refine ⟨fun x hx => ?_, h3, ?_, ?_⟩
        · rw [List.mem_singleton.mp hx]; omega
        · show wtE v + wtW W = 1 + wtW W
          unfold wtE
          rw [if_pos (by omega)]
        · simp only [List.length_cons, List.length_nil]; omega
      · omega
      · omega
      · omega
    · have hm : mulQ v = false := decide_eq_false c
      rw [List.takeWhile_cons, List.dropWhile_cons, hm]
      refine ⟨(fun x hx => by cases hx), ?_, (by simp), (by simp)⟩
      rcases h with ⟨h1, -⟩ | ⟨h1, h2, h3⟩ | h | h
      · exact absurd h1 c
      · exact Or.inr (Or.inl ⟨h1, by omega, h3⟩)
      · exact Or.inr (Or.inr (Or.inl h))
      · exact absurd h.1.1 (noOf_cons hn)
theorem ws_op {o0 : Int} : ∀ (W : List Int) (l : Nat) (o : Int), wsA o0 l W o → noOf W → (∀ v ∈ W.takeWhile opQ, 1 ≤ v ∧ v ≤ 4) ∧ wsA o0 2 (W.dropWhile opQ) o ∧ wtW W = (W.takeWhile opQ).length + wtW (W.dropWhile opQ) ∧ W.length = (W.takeWhile opQ).length + (W.dropWhile opQ).length
  | [], l, o, h, _ => ⟨(fun v hv => by cases hv), h, (by simp [wtW]), rfl⟩
  | v :: W, l, o, h, hn => by
    by_cases c : 1 ≤ v ∧ v ≤ 4
    · have hm : opQ v = true := decide_eq_true c
      have hW : ∃ l', 1 ≤ l' ∧ wsA o0 l' W o := by
        rcases h with ⟨h1, h2, h3⟩ | ⟨h1, h2, h3⟩ | ⟨h1, h3⟩ | ⟨h1, -, h3⟩
        · exact ⟨_, Nat.le_refl _, h3⟩
        · exact ⟨_, by decide, h3⟩
        · omega
        · omega
      obtain ⟨l', hl', hW⟩ := hW
      obtain ⟨i1, i2, i3, i4⟩ := ws_op W l' o hW (noOf_l hW hl')
      rw [List.takeWhile_cons, List.dropWhile_cons, hm, if_pos rfl, if_pos rfl]
      refine ⟨fun x hx => ?_, i2, ?_, ?_⟩
      · rcases List.mem_cons.mp hx with z | z
        · rw [z]; exact c
        · exact i1 x z
      · show wtE v + wtW W = (W.takeWhile opQ).length + 1 + wtW (W.dropWhile opQ)
        unfold wtE
        rw [if_pos (by omega)]
        omega
      · simp only [List.length_cons]; omega
    · have hm : opQ v = false := decide_eq_false c
      rw [List.takeWhile_cons, List.dropWhile_cons, hm]
      refine ⟨(fun x hx => by cases hx), ?_, (by simp), (by simp)⟩
      rcases h with ⟨h1, -⟩ | ⟨h1, -⟩ | h | h
      · omega
      · omega
      · exact Or.inr (Or.inr (Or.inl h))
      · exact absurd h.1.1 (noOf_cons hn)
theorem ws_of {o0 : Int} : ∀ (W : List Int) (o : Int), wsA o0 0 W o → (∀ v ∈ W.takeWhile ofQ, 60 ≤ v ∧ v ≤ 62) ∧ wsA o0 0 (W.dropWhile ofQ) (o - (W.takeWhile ofQ).length) ∧ noOf (W.dropWhile ofQ) ∧ wtW W = wtW (W.dropWhile ofQ) ∧ W.length = (W.takeWhile ofQ).length + (W.dropWhile ofQ).length
  | [], o, h => ⟨(fun v hv => by cases hv), by show o - ((0 : Nat) : Int) = o0; have h : o = o0 := h; omega, rfl, (by simp [wtW]), rfl⟩
  | v :: W, o, h => by
    by_cases c : 60 ≤ v
    · have hm : ofQ v = true := decide_eq_true c
      rcases h with ⟨h1, -⟩ | ⟨h1, -⟩ | ⟨h1, -⟩ | ⟨h1, -, h3⟩
      · omega
      · omega
      · omega
      · obtain ⟨i1, i2, i5, i3, i4⟩ := ws_of W _ h3
        rw [List.takeWhile_cons, List.dropWhile_cons, hm, if_pos rfl, if_pos rfl]
        refine ⟨fun x hx => ?_, ?_, i5, ?_, ?_⟩
        · rcases List.mem_cons.mp hx with z | z
          · rw [z]; exact h1
          · exact i1 x z
        · rw [show o - (((v :: W.takeWhile ofQ).length : Nat) : Int) = o - 1 - ((W.takeWhile ofQ).length : Int) by simp only [List.length_cons]; omega]
          exact i2
        · show wtE v + wtW W = _
          unfold wtE
          rw [if_neg (by omega), if_neg (by omega), ← i3]
          omega
        · simp only [List.length_cons]; omega
    · have hm : ofQ v = false := decide_eq_false c
      rw [List.takeWhile_cons, List.dropWhile_cons, hm]
      exact ⟨(fun x hx => by cases hx), by show wsA o0 0 (v :: W) (o - ((0 : Nat) : Int)); rw [show o - ((0 : Nat) : Int) = o by omega]; exact h, noOf_of c, (by simp), (by simp)⟩
/-- the first mark, with the ops above it -/
theorem ws_mrk {o0 : Int} : ∀ (W : List Int) (l : Nat) (o : Int), wsA o0 l W o → noOf W → (∀ v ∈ nmk W, 1 ≤ v ∧ v ≤ 4) ∧ ((rmk W = [] ∧ tpm W = -1 ∧ nmk W = W ∧ wtW W = W.length ∧ o = o0) ∨ (∃ k W', rmk W = k :: W' ∧ tpm W = k ∧ (20 ≤ k ∧ k ≤ 24) ∧ W = nmk W ++ k :: W' ∧ wsA o0 0 W' (o - 1) ∧ wtW W = (nmk W).length + wtE k + wtW W'))
  | [], l, o, h, _ => ⟨(fun v hv => by cases hv), Or.inl ⟨rfl, rfl, rfl, rfl, h⟩⟩
  | v :: W, l, o, h, hn => by
    by_cases c : 20 ≤ v ∧ v ≤ 24
    · have hm : mrkQ v = true := decide_eq_true c
      have e1 : nmk (v :: W) = [] := by unfold nmk; rw [List.takeWhile_cons, hm]; rfl
      have e2 : rmk (v :: W) = v :: W := by unfold rmk; rw [List.dropWhile_cons, hm]; rfl
      have h3 : wsA o0 0 W (o - 1) := by
        rcases h with ⟨h1, -⟩ | ⟨h1, -⟩ | ⟨h1, h3⟩ | ⟨h1, -⟩
        · omega
        · omega
        · exact h3
        · omega
      refine ⟨(fun x hx => by rw [e1] at hx; cases hx), Or.inr ⟨v, W, e2, (by unfold tpm; rw [e2]; rfl), c, (by rw [e1]; rfl), h3, ?_⟩⟩
      rw [e1]
      show wtE v + wtW W = 0 + wtE v + wtW W
      omega
    · have hm : mrkQ v = false := decide_eq_false c
      have e1 : nmk (v :: W) = v :: nmk W := by unfold nmk; rw [List.takeWhile_cons, hm]; rfl
      have e2 : rmk (v :: W) = rmk W := by unfold rmk; rw [List.dropWhile_cons, hm]; rfl
      have e3 : tpm (v :: W) = tpm W := by unfold tpm; rw [e2]
      have hW : (1 ≤ v ∧ v ≤ 4) ∧ ∃ l', 1 ≤ l' ∧ wsA o0 l' W o := by
        rcases h with ⟨h1, h2, h3⟩ | ⟨h1, h2, h3⟩ | ⟨h1, h3⟩ | ⟨h1, -, h3⟩
        · exact ⟨by omega, _, Nat.le_refl _, h3⟩
        · exact ⟨by omega, _, by decide, h3⟩
        · exact absurd h1 c
        · exact absurd h1.1 (noOf_cons hn)
      obtain ⟨hv, l', hl', hW⟩ := hW
      obtain ⟨i1, i2⟩ := ws_mrk W l' o hW (noOf_l hW hl')
      have hw1 : wtE v = 1 := by unfold wtE; rw [if_pos (by omega)]
      rw [e1, e2, e3]
      refine ⟨fun x hx => ?_, ?_⟩
      · rcases List.mem_cons.mp hx with z | z
        · rw [z]; exact hv
        · exact i1 x z
      · rcases i2 with ⟨j1, j2, j3, j4, j5⟩ | ⟨k, W', j1, j2, j3, j4, j5, j6⟩
        · refine Or.inl ⟨j1, j2, by rw [j3], ?_, j5⟩
          show wtE v + wtW W = W.length + 1
          omega
        · refine Or.inr ⟨k, W', j1, j2, j3, by rw [List.cons_append, ← j4], j5, ?_⟩
          show wtE v + wtW W = (nmk W).length + 1 + wtE k + wtW W'
          omega
