theorem isC_ex (P : Int → Prop) (a : Int) : ∀ n : Nat, ∃ r, isC P a n r
  | 0 => ⟨0, rfl⟩
  | n + 1 => by
    obtain ⟨r, h⟩ := isC_ex P a n
    by_cases c : P (a + n)
    · exact ⟨r + 1, r, h, Or.inl ⟨c, rfl⟩⟩
    · exact ⟨r, r, h, Or.inr ⟨c, rfl⟩⟩
/-- how many streets a walker passes -/
noncomputable def psd (V : Mm) (w i : Int) : Int := Classical.choose (isC_ex (fun s => fre V [] s (br V w) i) 0 (nS V).toNat)
theorem psd_is (V : Mm) (w i : Int) : isC (fun s => fre V [] s (br V w) i) 0 (nS V).toNat (psd V w i) := Classical.choose_spec (isC_ex (fun s => fre V [] s (br V w) i) 0 (nS V).toNat)
/-- a part of a number -/
noncomputable def ofq (V : Mm) (k n i : Int) : Int := if k = 0 then (if 0 ≤ n ∧ n < nS V then wid V n i else 0) else if k = 1 then (if 0 ≤ n ∧ n < nS V then (i + sf V n) % rd V n else 0) else (if 0 ≤ n ∧ n < nW V then psd V n i else 0)
theorem ofq_rng {V : Mm} (hT : Tw V) (k n i : Int) : 0 ≤ ofq V k n i ∧ ofq V k n i ≤ 1000 := by
  unfold ofq
  have hS := hT.2.1
  by_cases c : k = 0
  · rw [if_pos c]
    have := wid_rng V n i
    split <;> omega
  rw [if_neg c]
  by_cases c2 : k = 1
  · rw [if_pos c2]
    by_cases d : 0 ≤ n ∧ n < nS V
    · rw [if_pos d]
      have hr := (hT.2.2.2.1 n d.1 d.2).2.2.2.2.1
      have h1 := Int.emod_nonneg (i + sf V n) (show rd V n ≠ 0 by omega)
      have h2 := Int.emod_lt_of_pos (i + sf V n) (show 0 < rd V n by omega)
      omega
    · rw [if_neg d]; omega
  rw [if_neg c2]
  have := isC_rng _ _ (psd_is V n i)
  split <;> omega
def ptq (k i : Int) : Int := if k = 0 then i else if k = 1 then i % 24 else i / 24
def jq (v a b : Int) : Int := if v ≤ 6 then jn v a b else if v = 7 then (if a < b then 1 else 0) else if v = 8 then (if b < a then 1 else 0) else if v = 9 then (if a = b then 1 else 0) else if v = 10 then a * b else if 0 < a + b then 1 else 0
/-- a step of the reference's -/
noncomputable def stq (V : Mm) (i : Int) (st : List Int) (v : Int) : List Int :=
  if 1000 ≤ v then (v - 1000) :: st
  else if 60 ≤ v then (match st with | a :: r => clp (ofq V (v - 60) a i) :: r | [] => [])
  else if 40 ≤ v then clp (ptq (v - 40) i) :: st
  else if v = 13 then 1 :: st
  else if v = 12 then (match st with | a :: r => (1 - a) :: r | [] => [])
  else (match st with | b :: a :: r => jq v a b :: r | st => st)
/-- values by types -/
def tyd : List Bool → List Int → Prop
  | [], st => st = []
  | t :: ts, st => ∃ a r, st = a :: r ∧ (t = true → a = 0 ∨ a = 1) ∧ tyd ts r
def tbOk (V : Mm) (i : Int) (C : List Int) (tb : Nat → Int) : Prop := (60 ∈ C → ∀ a : Int, 0 ≤ a → a < 12 → tb a.toNat = ofq V 0 a i) ∧ (61 ∈ C → ∀ a : Int, 0 ≤ a → a < 12 → tb (12 + a).toNat = ofq V 1 a i) ∧ (62 ∈ C → ∀ a : Int, 0 ≤ a → a < 12 → tb (24 + a).toNat = ofq V 2 a i)
theorem ofq_big {V : Mm} (hT : Tw V) {k n : Int} (i : Int) (h : ¬ (0 ≤ n ∧ n < 12)) : ofq V k n i = 0 := by
  have hS := hT.2.1
  have hW := hT.2.2.1
  unfold ofq
  by_cases c : k = 0
  · rw [if_pos c, if_neg (by omega)]
  rw [if_neg c]
  by_cases c2 : k = 1
  · rw [if_pos c2, if_neg (by omega)]
  rw [if_neg c2, if_neg (by omega)]
/-- one code, on either side -/
theorem stq_step {V : Mm} {i : Int} {C : List Int} {tb : Nat → Int} (hT : Tw V) (hi : 0 ≤ i ∧ i ≤ 1000000) (htb : tbOk V i C tb) {v : Int} {D : List Int} {ts ts' : List Bool} {st : List Int} (hv : v ∈ C) (hva : vaC true v) (hw : wft (v :: D) ts ts') (ht : tyd ts st) (hs : sml st) : stC (plC 0 0 i) tb (tqC v) st = stq V i st v ∧ okC (tqC v) st.length = okC (tqC v) st.length ∧ ∃ tn, wft D tn ts' ∧ tyd tn (stq V i st v) ∧ sml (stq V i st v) := by
  rcases hw with ⟨h1, h2⟩ | ⟨h1, a, b, r, h2, h3⟩ | ⟨h1, a, r, h2, h3⟩ | ⟨h1, h2⟩ | ⟨h1, a, b, r, h2, h3⟩ | ⟨h1, r, h2, h3⟩ | ⟨h1, r, h2, h3⟩
  · rcases h1 with h1 | h1
    · have hb : v ≤ 10999 := by
        rcases hva with z | z | z | z <;> omega
      have e1 : tqC v = v - 1000 := by
        unfold tqC
        rw [if_pos h1]
      have e2 : stq V i st v = (v - 1000) :: st := by
        unfold stq
        rw [if_pos h1]
      rw [e1, e2]
      refine ⟨?_, rfl, _, h2, ⟨_, _, rfl, (fun z => by cases z), ht⟩, sml_cons (by omega) (by omega) hs⟩
      unfold stC plC
      rw [if_pos (by omega), if_neg (by omega), if_pos (by omega), if_neg (by omega), if_neg (by omega), if_neg (by omega), if_neg (by omega), if_neg (by omega)]
    · have hp : clp (ptq (v - 40) i) = ptq (v - 40) i ∧ -1000000 ≤ ptq (v - 40) i ∧ ptq (v - 40) i ≤ 1000000 := by
        have h24 : 0 ≤ i % 24 ∧ i % 24 < 24 := ⟨Int.emod_nonneg _ (by decide), Int.emod_lt_of_pos _ (by decide)⟩
        have hd : 0 ≤ i / 24 ∧ i / 24 ≤ i := by omega
        have : -1000000 ≤ ptq (v - 40) i ∧ ptq (v - 40) i ≤ 1000000 := by
          unfold ptq
          split <;> (try split) <;> omega
        exact ⟨clp_id this.1 this.2, this⟩
      have e2 : stq V i st v = ptq (v - 40) i :: st := by
        unfold stq
        rw [if_neg (by omega), if_neg (by omega), if_pos h1.1, hp.1]
      rw [e2]
      refine ⟨?_, rfl, _, h2, ⟨_, _, rfl, (fun z => by cases z), ht⟩, sml_cons hp.2.1 hp.2.2 hs⟩
      have hc : (v = 40 ∧ tqC v = -5) ∨ (v = 41 ∧ tqC v = -3) ∨ (v = 42 ∧ tqC v = -4) := by
        obtain z | z | z : v = 40 ∨ v = 41 ∨ v = 42 := by omega
        · subst z; exact Or.inl ⟨rfl, by decide⟩
        · subst z; exact Or.inr (Or.inl ⟨rfl, by decide⟩)
        · subst z; exact Or.inr (Or.inr ⟨rfl, by decide⟩)
      rcases hc with ⟨z1, z2⟩ | ⟨z1, z2⟩ | ⟨z1, z2⟩
      · rw [z2, z1]; rfl
      · rw [z2, z1]; rfl
      · rw [z2, z1]; rfl
  · rw [h2] at ht
    obtain ⟨x, s1, q1, q2, q3⟩ := ht
    obtain ⟨y, s2, q4, q5, q6⟩ := q3
    subst q1 q4
    have hx := hs x List.mem_cons_self
    have hy := hs y (List.mem_cons_of_mem _ List.mem_cons_self)
    have e2 : stq V i (x :: y :: s2) v = jn v y x :: s2 := by
      unfold stq
      rw [if_neg (by omega), if_neg (by omega), if_neg (by omega), if_neg (by omega), if_neg (by omega)]
      show jq v y x :: s2 = _
      unfold jq
      rw [if_pos h1.2]
    have e1 : tqC v = -9 - v := by
      unfold tqC
      rw [if_neg (by omega), if_neg (by omega), if_neg (by omega), if_neg (by omega), if_neg (by omega), if_neg (by omega), if_neg (by omega)]
    have hj := jn_rng (v := v) hy.1 hy.2 hx.1 hx.2
    rw [e2, e1]
    refine ⟨?_, rfl, _, h3, ⟨_, _, rfl, (fun z => by cases z), q6⟩, sml_cons hj.1 hj.2 (fun z hz => hs z (List.mem_cons_of_mem _ (List.mem_cons_of_mem _ hz)))⟩
    unfold stC
    rw [if_neg (by omega)]
    show clp (jC (-9 - v) y x) :: s2 = _
    rw [jn_jC h1 hy.1 hy.2 hx.1 hx.2]
  · rw [h2] at ht
    obtain ⟨x, s1, q1, q2, q3⟩ := ht
    subst q1
    have hr := ofq_rng hT (v - 60) x i
    have e2 : stq V i (x :: s1) v = ofq V (v - 60) x i :: s1 := by
      unfold stq
      rw [if_neg (by omega), if_pos h1.1]
      show clp (ofq V (v - 60) x i) :: s1 = _
      rw [clp_id (by omega) (by omega)]
    have e1 : tqC v = 54 - v := by
      unfold tqC
      rw [if_neg (by omega), if_neg (by omega), if_neg (by omega), if_pos h1.1]
    rw [e2, e1]
    refine ⟨?_, rfl, _, h3, ⟨_, _, rfl, (fun z => by cases z), q3⟩, sml_cons (by omega) (by omega) (fun z hz => hs z (List.mem_cons_of_mem _ hz))⟩
    unfold stC
    rw [if_pos (by omega), if_neg (by omega), if_neg (by omega)]
    show tbC tb (54 - v) x :: s1 = _
    congr 1
    unfold tbC
    by_cases c : 0 ≤ x ∧ x < 12
    · rw [if_pos c]
      obtain z | z | z : v = 60 ∨ v = 61 ∨ v = 62 := by omega
      · subst z
        rw [show (-6 - (54 - 60 : Int)) * 12 + x = x by omega]
        exact htb.1 hv x c.1 c.2
      · subst z
        rw [show (-6 - (54 - 61 : Int)) * 12 + x = 12 + x by omega]
        exact htb.2.1 hv x c.1 c.2
      · subst z
        rw [show (-6 - (54 - 62 : Int)) * 12 + x = 24 + x by omega]
        exact htb.2.2 hv x c.1 c.2
    · rw [if_neg c, ofq_big hT i c]
  · subst h1
    have e2 : stq V i st 13 = 1 :: st := rfl
    rw [e2]
    refine ⟨?_, rfl, _, h2, ⟨_, _, rfl, (fun _ => Or.inr rfl), ht⟩, sml_cons (by decide) (by decide) hs⟩
    rfl
  · rw [h2] at ht
    obtain ⟨x, s1, q1, q2, q3⟩ := ht
    obtain ⟨y, s2, q4, q5, q6⟩ := q3
    subst q1 q4
    have e2 : stq V i (x :: y :: s2) v = jq v y x :: s2 := by
      unfold stq
      rw [if_neg (by omega), if_neg (by omega), if_neg (by omega), if_neg (by omega), if_neg (by omega)]
    have hj : jq v y x = 0 ∨ jq v y x = 1 := by
      unfold jq
      rw [if_neg (by omega)]
      by_cases c1 : v = 7
      · rw [if_pos c1]; split <;> simp
      rw [if_neg c1]
      by_cases c2 : v = 8
      · rw [if_pos c2]; split <;> simp
      rw [if_neg c2, if_pos (by omega)]
      split <;> simp
    rw [e2]
    refine ⟨?_, rfl, _, h3, ⟨_, _, rfl, (fun _ => hj), q6⟩, sml_cons (by omega) (by omega) (fun z hz => hs z (List.mem_cons_of_mem _ (List.mem_cons_of_mem _ hz)))⟩
    have hcl : clp (jq v y x) = jq v y x := clp_id (by omega) (by omega)
    rw [← hcl]
    obtain z | z | z : v = 7 ∨ v = 8 ∨ v = 9 := by omega
    · subst z
      show clp (if x ≤ y then 0 else 1) :: s2 = clp (if y < x then 1 else 0) :: s2
      by_cases c : x ≤ y
      · rw [if_pos c, if_neg (by omega)]
      · rw [if_neg c, if_pos (by omega)]
    · subst z
      show clp (if y ≤ x then 0 else 1) :: s2 = clp (if x < y then 1 else 0) :: s2
      by_cases c : y ≤ x
      · rw [if_pos c, if_neg (by omega)]
      · rw [if_neg c, if_pos (by omega)]
    · subst z
      show clp (if ¬ y = x then 0 else 1) :: s2 = clp (if y = x then 1 else 0) :: s2
      by_cases c : y = x
      · rw [if_pos c, if_neg (fun z => z c)]
      · rw [if_neg c, if_pos c]
  · rw [h2] at ht
    obtain ⟨x, s1, q1, q2, q3⟩ := ht
    obtain ⟨y, s2, q4, q5, q6⟩ := q3
    subst q1 q4
    have hx := q2 rfl
    have hy := q5 rfl
    have hsr : sml s2 := fun z hz => hs z (List.mem_cons_of_mem _ (List.mem_cons_of_mem _ hz))
    rcases h1 with z | z
    · subst z
      have e2 : stq V i (x :: y :: s2) 10 = y * x :: s2 := rfl
      have hj : y * x = 0 ∨ y * x = 1 := by
        rcases hx with z | z <;> rcases hy with w | w <;> rw [z, w] <;> decide
      rw [e2]
      refine ⟨?_, rfl, _, h3, ⟨_, _, rfl, (fun _ => hj), q6⟩, sml_cons (by omega) (by omega) hsr⟩
      show clp (if y = 0 then 0 else if x = 0 then 0 else 1) :: s2 = y * x :: s2
      rcases hx with z | z <;> rcases hy with w | w <;> rw [z, w] <;> rfl
    · subst z
      have e2 : stq V i (x :: y :: s2) 11 = (if 0 < y + x then 1 else 0) :: s2 := rfl
      rw [e2]
      refine ⟨?_, rfl, _, h3, ⟨_, _, rfl, (fun _ => by split <;> simp), q6⟩, sml_cons (by split <;> decide) (by split <;> decide) hsr⟩
      show clp (if ¬ y = 0 then 1 else if x = 0 then 0 else 1) :: s2 = (if 0 < y + x then 1 else 0) :: s2
      rcases hx with z | z <;> rcases hy with w | w <;> rw [z, w] <;> rfl
  · subst h1
    rw [h2] at ht
    obtain ⟨x, s1, q1, q2, q3⟩ := ht
    subst q1
    have hx := q2 rfl
    have e2 : stq V i (x :: s1) 12 = (1 - x) :: s1 := rfl
    rw [e2]
    refine ⟨?_, rfl, _, h3, ⟨_, _, rfl, (fun _ => by omega), q3⟩, sml_cons (by omega) (by omega) (fun z hz => hs z (List.mem_cons_of_mem _ hz))⟩
    show (if x = 0 then 1 else 0) :: s1 = (1 - x) :: s1
    rcases hx with z | z <;> rw [z] <;> rfl
