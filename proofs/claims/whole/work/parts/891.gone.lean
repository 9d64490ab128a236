/-- rides in another order are the same crowd -/
theorem crw_app (V : Mm) (s h : Int) : ∀ A B : List (Int × Int × Int), crw V (A ++ B) s h = crw V A s h + crw V B s h
  | [], B => by
    show crw V B s h = 0 + crw V B s h
    omega
  | q :: A, B => by
    show (if q.1 = s ∧ q.2.1 ≤ h ∧ h < q.2.1 + tk V s then q.2.2 else 0) + crw V (A ++ B) s h = ((if q.1 = s ∧ q.2.1 ≤ h ∧ h < q.2.1 + tk V s then q.2.2 else 0) + crw V A s h) + crw V B s h
    rw [crw_app V s h A B, Int.add_assoc]
theorem crw_rev (V : Mm) (s h : Int) : ∀ A : List (Int × Int × Int), crw V A.reverse s h = crw V A s h
  | [] => rfl
  | q :: A => by
    rw [List.reverse_cons, crw_app, crw_rev V s h A]
    show crw V A s h + ((if q.1 = s ∧ q.2.1 ≤ h ∧ h < q.2.1 + tk V s then q.2.2 else 0) + 0) = (if q.1 = s ∧ q.2.1 ≤ h ∧ h < q.2.1 + tk V s then q.2.2 else 0) + crw V A s h
    rw [Int.add_zero, Int.add_comm]
section CRs
variable {V : Mm} {R R' : List (Int × Int × Int)}
theorem crw_fre (e : crw V R = crw V R') : fre V R = fre V R' := by
  funext s b h
  unfold fre
  rw [e]
theorem rch_cw (e : crw V R = crw V R') {b wo lim a t : Int} : ∀ (n : Nat) (p h : Int), rch V R b wo lim a t n p h → rch V R' b wo lim a t n p h
  | 0, _, _, q => q
  | n + 1, p, h, q => by
    obtain ⟨p', h', s, x, q1, q2, q3, q4, q5, q6⟩ := q
    exact ⟨p', h', s, x, rch_cw e n p' h' q1, q2, q3, by rw [← crw_fre e]; exact q4, q5, q6⟩
theorem isA_cw (e : crw V R = crw V R') {b wo lim a t : Int} {arr : Int → Int} (h : isA V R b wo lim a t arr) : isA V R' b wo lim a t arr := by
  obtain ⟨h1, h2, h3⟩ := h
  refine ⟨h1, fun s p q he hn x hx hf hl => h2 s p q he hn x hx (by rw [crw_fre e]; exact hf) hl, fun p p1 p2 => ?_⟩
  rcases h3 p p1 p2 with g | ⟨n, g⟩
  · exact Or.inl g
  · exact Or.inr ⟨n, rch_cw e n _ _ g⟩
theorem fsB_cw (e : crw V R = crw V R') {b p s : Int} {arr : Int → Int} (h : fsB V R b arr p s) : fsB V R' b arr p s := by
  have hs : ∀ s', stB V R b arr p s' ↔ stB V R' b arr p s' := fun s' => by unfold stB; rw [crw_fre e]
  exact ⟨(hs s).mp h.1, fun s' hs' hz => h.2 s' hs' ((hs s').mpr hz)⟩
theorem wpB_cw (e : crw V R = crw V R') {b a : Int} {arr : Int → Int} : ∀ (L : List (Int × Int)) (p q : Int), wpB V R b a arr L p q → wpB V R' b a arr L p q
  | [], _, _, h => h
  | _ :: L, _, q, h => ⟨h.1, fsB_cw e h.2.1, h.2.2.1, wpB_cw e L _ q h.2.2.2⟩
end CRs
theorem wpB_el {V : Mm} {R : List (Int × Int × Int)} {b a : Int} {arr : Int → Int} (hT : Tw V) (hA : ∀ y : Int, 0 ≤ y → y < 9 → arr y = 1000000 ∨ (0 ≤ arr y ∧ arr y ≤ 100000)) : ∀ (L : List (Int × Int)) (p q : Int), wpB V R b a arr L p q → arr p ≠ 1000000 → ∀ x ∈ L, (0 ≤ x.1 ∧ x.1 < 12) ∧ 0 ≤ x.2 ∧ x.2 ≤ 100000
  | [], _, _, _, _, x, hx => by cases hx
  | y :: L, p, q, h, hp, x, hx => by
    obtain ⟨h1, h2, h3, h4⟩ := h
    obtain ⟨z1, z2, z3⟩ := stB_in hT h2.1
    have hS := hT.2.1
    have g := h2.1
    have ht := (hT.2.2.2.1 y.1 g.1.1 g.1.2).2.2.2.1
    have a1 := hA p z1.1 z1.2
    have a2 := hA _ z2.1 z2.2
    have g3 := g.2.2.1
    rcases List.mem_cons.mp hx with e | e
    · rw [e]
      exact ⟨⟨g.1.1, by have := g.1.2; omega⟩, by omega, by omega⟩
    · exact wpB_el hT hA L _ q h4 (by omega) x e
/-- the rides of a way -/
def rdw (b : Int) (L : List (Int × Int)) : List (Int × Int × Int) := L.map fun x => (x.1, x.2, b)
def rdE (R : List (Int × Int × Int)) : Prop := ∀ q ∈ R, (0 ≤ q.1 ∧ q.1 < 12) ∧ (0 ≤ q.2.1 ∧ q.2.1 ≤ 100000) ∧ 0 ≤ q.2.2 ∧ q.2.2 ≤ 99
theorem rdE_app {A B : List (Int × Int × Int)} (h : rdE A) (h' : rdE B) : rdE (A ++ B) := fun q hq => by
  rcases List.mem_append.mp hq with g | g
  · exact h q g
  · exact h' q g
theorem rdE_w {b : Int} {L : List (Int × Int)} (hb : 0 ≤ b ∧ b ≤ 99) (h : ∀ x ∈ L, (0 ≤ x.1 ∧ x.1 < 12) ∧ 0 ≤ x.2 ∧ x.2 ≤ 100000) : rdE (rdw b L) := fun q hq => by
  obtain ⟨x, hx, e⟩ := List.mem_map.mp hq
  subst e
  obtain ⟨h1, h2⟩ := h x hx
  exact ⟨h1, h2, hb⟩
theorem rdw_rev (b : Int) (L : List (Int × Int)) : rdw b L.reverse = (rdw b L).reverse := List.map_reverse
theorem rdw_len (b : Int) (L : List (Int × Int)) : (rdw b L).length = L.length := List.length_map _
def wAR (V : Mm) (R : List (Int × Int × Int)) (w : Int) (arr : Int → Int) : Prop := isA V R (br V w) (-1) (sto V w + 400) (pl V w) (sto V w) arr
/-- so many of an order have gone: their rides, and when each came -/
def goes (V : Mm) (o : Nat → Int) : Nat → List (Int × Int × Int) → (Int → Option Int) → Prop
  | 0, R, C => R = [] ∧ C = fun _ => none
  | k + 1, R, C => ∃ R0 C0 arr L, goes V o k R0 C0 ∧ wAR V R0 (o k) arr ∧ arr (gl V (o k)) ≠ 1000000 ∧ wpB V R0 (br V (o k)) (pl V (o k)) arr L (gl V (o k)) (pl V (o k)) ∧ L.length ≤ 8 ∧ R = R0 ++ rdw (br V (o k)) L ∧ C = fun w => if w = o k then some (arr (gl V (o k))) else C0 w
/-- one of an order can't go -/
def stays (V : Mm) (o : Nat → Int) (n : Nat) : Prop := ∃ k R C arr, k < n ∧ goes V o k R C ∧ wAR V R (o k) arr ∧ arr (gl V (o k)) = 1000000
section GOs
variable {V : Mm} {o : Nat → Int} {n : Nat}
theorem wAR_un (hT : Tw V) (hN : Nw V) {w : Int} (h1 : 0 ≤ w) (h2 : w < nW V) {R : List (Int × Int × Int)} {arr arr' : Int → Int} (h : wAR V R w arr) (h' : wAR V R w arr') : ∀ p : Int, 0 ≤ p → p < 9 → arr p = arr' p := fun p p1 p2 => by
  have hs := sto_rng hN h1 h2
  exact isA_un hT (by omega) (by omega) h h' p1 p2
theorem wAR_rng (hT : Tw V) (hN : Nw V) {w : Int} (h1 : 0 ≤ w) (h2 : w < nW V) {R : List (Int × Int × Int)} {arr : Int → Int} (h : wAR V R w arr) : ∀ p : Int, 0 ≤ p → p < 9 → arr p = 1000000 ∨ (0 ≤ arr p ∧ arr p ≤ 10399) := fun p p1 p2 => by
  have hs := sto_rng hN h1 h2
  have := Sp_rng hT (by omega) h.2.2 p1 p2
  omega
theorem goes_un (hT : Tw V) (hN : Nw V) (ho : ∀ i, i < n → 0 ≤ o i ∧ o i < nW V) : ∀ k, k ≤ n → ∀ R C R' C', goes V o k R C → goes V o k R' C' → R = R' ∧ C = C'
  | 0, _, R, C, R', C', h, h' => ⟨h.1.trans h'.1.symm, h.2.trans h'.2.symm⟩
  | k + 1, hk, R, C, R', C', h, h' => by
    obtain ⟨R0, C0, arr, L, h1, h2, h3, h4, -, h5, h6⟩ := h
    obtain ⟨R1, C1, arr', L', g1, g2, g3, g4, -, g5, g6⟩ := h'
    obtain ⟨e1, e2⟩ := goes_un hT hN ho k (by omega) _ _ _ _ h1 g1
    subst e1 e2
    obtain ⟨o1, o2⟩ := ho k (by omega)
    have hp := pl_rng hT hN o1 o2
    have hP := hT.1
    have ea := wAR_un hT hN o1 o2 h2 g2
    have eL : L = L' := wpB_un _ _ _ h4 (wpB_cg hT ea L' _ _ g4)
    have eg := ea _ hp.2.1.1 (by omega)
    subst eL
    exact ⟨h5.trans g5.symm, by rw [h6, g6, eg]⟩
theorem goes_dn : ∀ (m k : Nat), k < m → ∀ R C, goes V o m R C → ∃ R0 C0 arr, goes V o k R0 C0 ∧ wAR V R0 (o k) arr ∧ arr (gl V (o k)) ≠ 1000000
  | 0, _, h, _, _, _ => absurd h (Nat.not_lt_zero _)
  | m + 1, k, h, R, C, g => by
    obtain ⟨R0, C0, arr, L, h1, h2, h3, -⟩ := g
    by_cases e : k = m
    · subst e
      exact ⟨R0, C0, arr, h1, h2, h3⟩
    · exact goes_dn m k (by omega) R0 C0 h1
theorem goes_stays (hT : Tw V) (hN : Nw V) (ho : ∀ i, i < n → 0 ≤ o i ∧ o i < nW V) {R : List (Int × Int × Int)} {C : Int → Option Int} (h : goes V o n R C) (h' : stays V o n) : False := by
  obtain ⟨k, R1, C1, arr, k1, k2, k3, k4⟩ := h'
  obtain ⟨R0, C0, arr', g1, g2, g3⟩ := goes_dn n k k1 R C h
  obtain ⟨e1, -⟩ := goes_un hT hN ho k (by omega) _ _ _ _ k2 g1
  subst e1
  obtain ⟨o1, o2⟩ := ho k k1
  have hp := pl_rng hT hN o1 o2
  have hP := hT.1
  exact g3 ((wAR_un hT hN o1 o2 g2 k3 _ hp.2.1.1 (by omega)).trans k4)
theorem goes_rd (hT : Tw V) (hN : Nw V) (ho : ∀ i, i < n → 0 ≤ o i ∧ o i < nW V) : ∀ k, k ≤ n → ∀ R C, goes V o k R C → R.length ≤ 8 * k ∧ rdE R
  | 0, _, R, C, h => by rw [h.1]; exact ⟨by simp, fun q hq => by cases hq⟩
  | k + 1, hk, R, C, h => by
    obtain ⟨R0, C0, arr, L, h1, h2, h3, h4, h5, h6, -⟩ := h
    obtain ⟨i1, i2⟩ := goes_rd hT hN ho k (by omega) _ _ h1
    obtain ⟨o1, o2⟩ := ho k (by omega)
    have hp := pl_rng hT hN o1 o2
    have hP := hT.1
    have hb := (hT.2.2.2.2 _ o1 o2).1
    have hr := wAR_rng hT hN o1 o2 h2
    subst h6
    refine ⟨by rw [List.length_append, rdw_len]; omega, rdE_app i2 (rdE_w (by omega) (wpB_el hT (fun y y1 y2 => by have := hr y y1 y2; omega) L _ _ h4 h3))⟩
theorem goes_all : ∀ (k : Nat) R C, goes V o k R C → ∀ i, i < k → C (o i) ≠ none
  | 0, _, _, _, i, hi => absurd hi (Nat.not_lt_zero _)
  | k + 1, R, C, h, i, hi => by
    obtain ⟨R0, C0, arr, L, h1, -, -, -, -, -, h7⟩ := h
    rw [h7]
    show (if o i = o k then some (arr (gl V (o k))) else C0 (o i)) ≠ none
    by_cases e : o i = o k
    · rw [if_pos e]; exact fun z => by cases z
    · rw [if_neg e]
      exact goes_all k R0 C0 h1 i (by
        rcases Nat.lt_or_ge i k with g | g
        · exact g
        · exact absurd (by rw [show i = k by omega]) e)
theorem goes_val (hT : Tw V) (hN : Nw V) (ho : ∀ i, i < n → 0 ≤ o i ∧ o i < nW V) : ∀ k, k ≤ n → ∀ R C, goes V o k R C → ∀ w x, C w = some x → 0 ≤ x ∧ x ≤ 10399
  | 0, _, R, C, h, w, x, hx => by rw [h.2] at hx; cases hx
  | k + 1, hk, R, C, h, w, x, hx => by
    obtain ⟨R0, C0, arr, L, h1, h2, h3, -, -, -, h7⟩ := h
    rw [h7] at hx
    have hx : (if w = o k then some (arr (gl V (o k))) else C0 w) = some x := hx
    obtain ⟨o1, o2⟩ := ho k (by omega)
    have hp := pl_rng hT hN o1 o2
    have hP := hT.1
    by_cases e : w = o k
    · rw [if_pos e] at hx
      cases hx
      have := wAR_rng hT hN o1 o2 h2 _ hp.2.1.1 (by omega)
      omega
    · rw [if_neg e] at hx
      exact goes_val hT hN ho k (by omega) R0 C0 h1 w x hx
end GOs
/-- the digits of a number, the last first -/
def dgt (n : Int) : Nat → Int → Int
  | 0, c => c % n
  | i + 1, c => dgt n i (c / n)
def ors (n : Int) : Nat → Int → Nat → Nat
  | 0, _, m => m
  | j + 1, c, m => ors n j (c / n) (m ||| 2 ^ (c % n).toNat)
theorem ors_bit (n : Int) : ∀ (j : Nat) (c : Int) (m i : Nat), (ors n j c m).testBit i = true → m.testBit i = true ∨ ∃ k, k < j ∧ (dgt n k c).toNat = i
  | 0, _, _, _, h => Or.inl h
  | j + 1, c, m, i, h => by
    rcases ors_bit n j (c / n) _ i h with g | ⟨k, g1, g2⟩
    · rcases (bQ_or m _ i).mp g with g | g
      · exact Or.inl g
      · exact Or.inr ⟨0, by omega, g.symm⟩
    · exact Or.inr ⟨k + 1, by omega, g2⟩
theorem dgt_rng {n : Int} (hn : 1 ≤ n) : ∀ (i : Nat) (c : Int), 0 ≤ dgt n i c ∧ dgt n i c < n
  | 0, c => ⟨Int.emod_nonneg c (by omega), Int.emod_lt_of_pos c (by omega)⟩
  | i + 1, c => dgt_rng hn i (c / n)
def ordN (n c : Int) (k : Nat) : Int := dgt n (n.toNat - 1 - k) c
def isO (n c : Int) : Prop := ors n n.toNat c 0 = 2 ^ n.toNat - 1
theorem isO_all {n c : Int} (hn : 1 ≤ n) (h : isO n c) {w : Int} (w1 : 0 ≤ w) (w2 : w < n) : ∃ k, k < n.toNat ∧ ordN n c k = w := by
  have hb : (ors n n.toNat c 0).testBit w.toNat = true := by
    rw [show ors n n.toNat c 0 = 2 ^ n.toNat - 1 from h, Nat.testBit_two_pow_sub_one, decide_eq_true_eq]
    omega
  rcases ors_bit n _ _ _ _ hb with g | ⟨k, g1, g2⟩
  · simp at g
  · have := dgt_rng hn k c
    refine ⟨n.toNat - 1 - k, by omega, ?_⟩
    unfold ordN
    rw [show n.toNat - 1 - (n.toNat - 1 - k) = k by omega]
    omega
/-- the latest arrival, and the sum of all -/
def lstC (C : Int → Option Int) : Nat → Int
  | 0 => 0
  | k + 1 => if lstC C k < (C k).getD 0 then (C k).getD 0 else lstC C k
def sumC (C : Int → Option Int) : Nat → Int
  | 0 => 0
  | k + 1 => sumC C k + (C k).getD 0
theorem lstC_rng {C : Int → Option Int} (h : ∀ k : Nat, 0 ≤ (C k).getD 0 ∧ (C k).getD 0 ≤ 10399) : ∀ k, 0 ≤ lstC C k ∧ lstC C k ≤ 10399
  | 0 => by unfold lstC; omega
  | k + 1 => by
    have h1 := h k
    have h2 := lstC_rng h k
    unfold lstC
    split <;> omega
theorem sumC_rng {C : Int → Option Int} (h : ∀ k : Nat, 0 ≤ (C k).getD 0 ∧ (C k).getD 0 ≤ 10399) : ∀ k : Nat, 0 ≤ sumC C k ∧ sumC C k ≤ 10399 * k
  | 0 => by unfold sumC; omega
  | k + 1 => by
    have h1 := h k
    have h2 := sumC_rng h k
    unfold sumC
    omega
def updB (n : Nat) (o : Nat → Int) (C : Int → Option Int) (B : Int × Int × (Nat → Int) × (Nat → Int)) : Int × Int × (Nat → Int) × (Nat → Int) :=
  if lstC C n < B.1 ∨ (lstC C n = B.1 ∧ sumC C n < B.2.1) then (lstC C n, sumC C n, o, fun k => (C k).getD 0) else B
/-- the best of the first orders -/
def best (V : Mm) (n : Int) : Nat → Int × Int × (Nat → Int) × (Nat → Int) → Prop
  | 0, B => B = (1000000, 0, fun _ => 0, fun _ => 0)
  | c + 1, B => ∃ B0, best V n c B0 ∧ ((¬ isO n c ∧ B = B0) ∨ (isO n c ∧ stays V (ordN n c) n.toNat ∧ B = B0) ∨ (isO n c ∧ ∃ R C, goes V (ordN n c) n.toNat R C ∧ B = updB n.toNat (ordN n c) C B0))
theorem ordN_in {V : Mm} {n : Int} (hn : 1 ≤ n) (hw : n ≤ nW V) (c : Int) : ∀ i, i < n.toNat → 0 ≤ ordN n c i ∧ ordN n c i < nW V := fun i _ => by
  have := dgt_rng hn (n.toNat - 1 - i) c
  unfold ordN
  omega
theorem best_un {V : Mm} {n : Int} (hT : Tw V) (hN : Nw V) (hn : 1 ≤ n) (hw : n ≤ nW V) : ∀ c B B', best V n c B → best V n c B' → B = B'
  | 0, B, B', h, h' => h.trans h'.symm
  | c + 1, B, B', h, h' => by
    obtain ⟨B0, h1, h2⟩ := h
    obtain ⟨B1, g1, g2⟩ := h'
    have e := best_un hT hN hn hw c _ _ h1 g1
    subst e
    have ho := ordN_in hn hw (c : Int)
    rcases h2 with ⟨a1, a2⟩ | ⟨a1, a2, a3⟩ | ⟨a1, R, C, a2, a3⟩ <;> rcases g2 with ⟨b1, b2⟩ | ⟨b1, b2, b3⟩ | ⟨b1, R', C', b2, b3⟩
    · exact a2.trans b2.symm
    · exact a2.trans b3.symm
    · exact absurd b1 a1
    · exact a3.trans b2.symm
    · exact a3.trans b3.symm
    · exact absurd a2 (fun z => goes_stays hT hN ho b2 z)
    · exact absurd a1 b1
    · exact absurd b2 (fun z => goes_stays hT hN ho a2 z)
    · obtain ⟨-, e⟩ := goes_un hT hN ho _ (Nat.le_refl _) _ _ _ _ a2 b2
      rw [a3, b3, e]
theorem s_copy {r1 r2 n : Nat} (M : Mm) (h1 : slen r1 = n) (h2 : slen r2 = n) (hn : n < 99999) (hr : r1 ≠ r2) : wq (f_BT_copyAll r1 r2 M) (fun M' => (∀ k : Nat, k < n → M' r2 k = M r1 k) ∧ Fr [(r2, 99999)] M M') := by
  unfold f_BT_copyAll f_BT_copyAll_L2
  refine wq_lp (fun s => (0 ≤ s.1 ∧ s.1 ≤ (n : Int)) ∧ (∀ k : Nat, (k : Int) < s.1 → s.2 r2 k = M r1 k) ∧ Fr [(r2, 99999)] M s.2) (fun s => ((n : Int) - s.1).toNat) ?_ FU _ ?_ ?_
  · rintro kH ⟨v2, N⟩ ⟨q1, q2, q3⟩ hk
    have a1 : 0 ≤ v2 ∧ v2 ≤ (n : Int) := q1
    have a2 : ∀ k : Nat, (k : Int) < v2 → N r2 k = M r1 k := q2
    have a3 : Fr [(r2, 99999)] M N := q3
    clear q1 q2 q3
    show wq (f_BT_copyAll_B2 r1 r2 (fun v2 M => kH (v2, M)) v2 N) _
    unfold f_BT_copyAll_B2
    rw [h1, h2, i32_nat n (by omega), i32_id (x := v2) (by omega) (by omega)]
    refine wq_if (fun c => wq_some ⟨fun k hk' => a2 k (by omega), a3⟩) (fun c => wq_e c (wq_g (by omega) (wq_g (by omega) (wq_d (hk _ ⟨⟨show 0 ≤ v2 + 1 by omega, show v2 + 1 ≤ (n : Int) by omega⟩, fun k hk' => ?_, a3.up (Or.inr (by simp))⟩ (show ((n : Int) - (v2 + 1)).toNat < ((n : Int) - v2).toNat by omega))))))
    have hk' : (k : Int) < v2 + 1 := hk'
    show up N r2 v2.toNat (N r1 v2.toNat) r2 k = M r1 k
    have e1 : N r1 = M r1 := a3.rw' r1 (fun p hp => by simp at hp; subst hp; exact fun z => hr z.symm)
    rw [up_at]
    by_cases g : k = v2.toNat
    · rw [if_pos ⟨rfl, g⟩, e1, g]
    · rw [if_neg (fun q => g q.2)]
      exact a2 k (by omega)
  · exact ⟨⟨Int.le_refl _, by simp⟩, fun k hk => absurd hk (by show ¬ (k : Int) < 0; omega), Fr.rf⟩
  · show ((n : Int) - 0).toNat < 1000000000
    omega
