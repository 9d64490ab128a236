/-- the letters that stand at a place, so many at most -/
def lts (T : Nat → Int) (e : Int) : Nat → Int → List Int
  | 0, _ => []
  | n + 1, p => if 97 ≤ bte T e p ∧ bte T e p ≤ 122 then (bte T e p - 96) :: lts T e n (p + 1) else []
theorem lts_y {T : Nat → Int} {e : Int} {n : Nat} {p : Int} (h : 97 ≤ bte T e p ∧ bte T e p ≤ 122) : lts T e (n + 1) p = (bte T e p - 96) :: lts T e n (p + 1) := if_pos h
theorem lts_n {T : Nat → Int} {e : Int} {n : Nat} {p : Int} (h : ¬ (97 ≤ bte T e p ∧ bte T e p ≤ 122)) : lts T e (n + 1) p = [] := if_neg h
theorem lts_len (T : Nat → Int) (e : Int) : ∀ (n : Nat) (p : Int), 0 ≤ p → p ≤ e → (lts T e n p).length ≤ n ∧ p + (lts T e n p).length ≤ e ∧ ∀ x ∈ lts T e n p, 1 ≤ x ∧ x ≤ 26
  | 0, p, _, h => ⟨Nat.le_refl _, by unfold lts; simpa using h, fun x hx => by unfold lts at hx; cases hx⟩
  | n + 1, p, h0, h => by
    by_cases c : 97 ≤ bte T e p ∧ bte T e p ≤ 122
    · rw [lts_y c]
      have hl := bte_lt (T := T) (e := e) h0 (by omega)
      obtain ⟨i1, i2, i3⟩ := lts_len T e n (p + 1) (by omega) (by omega)
      refine ⟨by simp only [List.length_cons]; omega, by simp only [List.length_cons]; omega, fun x hx => ?_⟩
      rcases List.mem_cons.mp hx with z | z
      · rw [z]; omega
      · exact i3 x z
    · rw [lts_n c]
      exact ⟨by simp, by simpa using h, fun x hx => by cases hx⟩
theorem pk5_snoc : ∀ (l : List Int) (c : Int), pk5 (l ++ [c]) = pk5 l + c * 32 ^ l.length
  | [], c => by simp [pk5]
  | a :: l, c => by
    show a + 32 * pk5 (l ++ [c]) = (a + 32 * pk5 l) + c * 32 ^ (l.length + 1)
    rw [pk5_snoc l c, Int.pow_succ, Int.mul_add, Int.add_assoc, Int.mul_comm (32 ^ l.length) 32, ← Int.mul_assoc, ← Int.mul_assoc, Int.mul_comm 32 c]
theorem pk5_rg : ∀ (l : List Int), (∀ x ∈ l, 1 ≤ x ∧ x ≤ 26) → 0 ≤ pk5 l ∧ pk5 l < 32 ^ l.length
  | [], _ => by simp [pk5]
  | a :: l, h => by
    have h1 := h a List.mem_cons_self
    have h2 := pk5_rg l (fun x hx => h x (List.mem_cons_of_mem _ hx))
    show 0 ≤ a + 32 * pk5 l ∧ a + 32 * pk5 l < 32 ^ (l.length + 1)
    rw [Int.pow_succ]
    omega
theorem pk5_inj : ∀ (l l' : List Int), (∀ x ∈ l, 1 ≤ x ∧ x ≤ 26) → (∀ x ∈ l', 1 ≤ x ∧ x ≤ 26) → pk5 l = pk5 l' → l = l'
  | [], [], _, _, _ => rfl
  | [], a :: l, _, h, e => by
    have h1 := h a List.mem_cons_self
    have h2 := pk5_rg l (fun x hx => h x (List.mem_cons_of_mem _ hx))
    have e : (0 : Int) = a + 32 * pk5 l := e
    omega
  | a :: l, [], h, _, e => by
    have h1 := h a List.mem_cons_self
    have h2 := pk5_rg l (fun x hx => h x (List.mem_cons_of_mem _ hx))
    have e : a + 32 * pk5 l = (0 : Int) := e
    omega
  | a :: l, a' :: l', h, h', e => by
    have h1 := h a List.mem_cons_self
    have h2 := h' a' List.mem_cons_self
    have e : a + 32 * pk5 l = a' + 32 * pk5 l' := e
    have e1 : a = a' := by omega
    have e2 := pk5_inj l l' (fun x hx => h x (List.mem_cons_of_mem _ hx)) (fun x hx => h' x (List.mem_cons_of_mem _ hx)) (by omega)
    rw [e1, e2]
theorem pk5_or {l : List Int} {c : Int} {k : Nat} (hl : ∀ x ∈ l, 1 ≤ x ∧ x ≤ 26) (hk : l.length = k) (hk2 : k ≤ 5) (h1 : 1 ≤ c) (h2 : c ≤ 26) : or32 (pk5 l) (shl32 c (5 * (k : Int))) = pk5 (l ++ [c]) := by
  have hr := pk5_rg l hl
  have hs := shl32_id c (5 * k) (by omega)
  rw [show ((5 * k : Nat) : Int) = 5 * (k : Int) by omega] at hs
  have hp : ((2 ^ (5 * k) : Nat) : Int) = (32 : Int) ^ k := by rw [Int.natCast_pow, Int.pow_mul]; rfl
  rw [hs, pk5_snoc, hk]
  rw [hk] at hr
  have hb : (32 : Int) ^ k ≤ 33554432 := by
    obtain e | e | e | e | e | e : k = 0 ∨ k = 1 ∨ k = 2 ∨ k = 3 ∨ k = 4 ∨ k = 5 := by omega
    all_goals (rw [e]; decide)
  have hb0 : 1 ≤ (32 : Int) ^ k := Int.pow_pos (by decide)
  rw [hp]
  obtain ⟨x, hx⟩ : ∃ x : Nat, pk5 l = (x : Int) := ⟨(pk5 l).toNat, by omega⟩
  obtain ⟨y, hy⟩ : ∃ y : Nat, c = (y : Int) := ⟨c.toNat, by omega⟩
  have hxl : x < 2 ^ (5 * k) := by omega
  have hyb : y * 2 ^ (5 * k) < 2 ^ 31 := by
    have : y * 2 ^ (5 * k) ≤ 26 * 2 ^ (5 * k) := Nat.mul_le_mul_right _ (by omega)
    omega
  rw [hx, hy, ← hp, ← Int.natCast_mul, or32_n (by omega) hyb, Nat.or_comm, Nat.mul_comm y, ← Nat.two_pow_add_eq_or_of_lt hxl]
  omega
/-- the own words, as they stand one behind another in the class's text of them -/
def ost : Nat → Int × Int
  | 0 => (0, 0)
  | i + 1 => match ost i with
    | (w, t) => if sbyt 1 i = 32 then (0, 0) else (or32 w (shl32 ((sbyt 1 i - 97) + 1) t), t + 5)
def ownW : List (List Int) := [[16, 12, 1, 3, 5], [19, 20, 18, 5, 5, 20], [6, 18, 15, 13], [20, 15], [20, 1, 11, 5, 19], [18, 15, 21, 14, 4], [19, 8, 9, 6, 20], [23, 9, 4, 5], [23, 1, 12, 11, 5, 18], [2, 18, 15, 1, 4], [1, 20], [2, 5, 7, 9, 14], [20, 9, 4, 5], [3, 12, 15, 3, 11], [4, 1, 25], [13, 9, 14], [13, 1, 24]]
theorem ost_ok : (List.range 89).all (fun i => decide ((-2147483648 ≤ (ost i).1 ∧ (ost i).1 < 2147483648) ∧ (0 ≤ sbyt 1 i ∧ sbyt 1 i ≤ 127) ∧ (sbyt 1 i = 32 → (ost i).1 ∈ ownW.map pk5))) = true := by decide +kernel
theorem ost_all : ownW.all (fun l => (List.range 89).any (fun i => decide (sbyt 1 i = 32 ∧ (ost i).1 = pk5 l))) = true := by decide +kernel
theorem ownW_ok : ∀ l ∈ ownW, (2 ≤ l.length ∧ l.length ≤ 6) ∧ ∀ x ∈ l, 1 ≤ x ∧ x ≤ 26 := by decide +kernel
theorem ost_step (i : Nat) : ost (i + 1) = if sbyt 1 i = 32 then (0, 0) else (or32 (ost i).1 (shl32 ((sbyt 1 i - 97) + 1) (ost i).2), (ost i).2 + 5) := rfl
theorem s_isOwn {l : List Int} {M : Mm} (hl : ∀ x ∈ l, 1 ≤ x ∧ x ≤ 26) (hn : l.length ≤ 6) : wq (f_Scan_isOwnWord (pk5 l) M) (fun q => tf q.1 (l ∈ ownW) ∧ q.2 = M) := by
  have hr := pk5_rg l hl
  have hp6 : (32 : Int) ^ l.length ≤ 1073741824 := by
    obtain e | e | e | e | e | e | e : l.length = 0 ∨ l.length = 1 ∨ l.length = 2 ∨ l.length = 3 ∨ l.length = 4 ∨ l.length = 5 ∨ l.length = 6 := by omega
    all_goals (rw [e]; decide)
  have hok : ∀ i : Nat, i < 89 → (-2147483648 ≤ (ost i).1 ∧ (ost i).1 < 2147483648) ∧ (0 ≤ sbyt 1 i ∧ sbyt 1 i ≤ 127) ∧ (sbyt 1 i = 32 → (ost i).1 ∈ ownW.map pk5) := by
    intro i hi
    have := List.all_eq_true.mp ost_ok i (List.mem_range.mpr hi)
    exact of_decide_eq_true this
  have hlen : stLen.getD 1 0 = 89 := rfl
  unfold f_Scan_isOwnWord f_Scan_isOwnWord_L6
  refine wq_lp (fun z => z.1 = pk5 l ∧ (0 ≤ z.2.2.2.1 ∧ z.2.2.2.1 ≤ 89) ∧ z.2.1 = (ost z.2.2.2.1.toNat).1 ∧ z.2.2.1 = (ost z.2.2.2.1.toNat).2 ∧ (∀ i : Nat, (i : Int) < z.2.2.2.1 → sbyt 1 i = 32 → (ost i).1 ≠ pk5 l) ∧ z.2.2.2.2 = M) (fun z => (89 - z.2.2.2.1).toNat) ?_ FU _ ?_ ?_
  · rintro kH ⟨v0, v1, v2, v3, N⟩ ⟨q1, q2, q3, q4, q5, q6⟩ hk
    have a1 : v0 = pk5 l := q1
    have a2 : 0 ≤ v3 ∧ v3 ≤ 89 := q2
    have a3 : v1 = (ost v3.toNat).1 := q3
    have a4 : v2 = (ost v3.toNat).2 := q4
    have a5 : ∀ i : Nat, (i : Int) < v3 → sbyt 1 i = 32 → (ost i).1 ≠ pk5 l := q5
    have a6 : N = M := q6
    clear q1 q2 q3 q4 q5 q6
    subst a6
    show wq (f_Scan_isOwnWord_B6 (fun v0 v1 v2 v3 M => kH (v0, v1, v2, v3, M)) v0 v1 v2 v3 N) _
    unfold f_Scan_isOwnWord_B6
    rw [e_strlen N (by rw [hlen]; decide), bI_s, hlen, show ((89 : Nat) : Int) = 89 from rfl, i32_id (x := 89) (by omega) (by omega), i32_id (x := v3) (by omega) (by omega)]
    refine wq_if (fun c => wq_some ⟨Or.inr ⟨rfl, fun z => ?_⟩, rfl⟩) (fun c => ?_)
    · have h1 := List.all_eq_true.mp ost_all l z
      obtain ⟨i, i1, i2⟩ := List.any_eq_true.mp h1
      have i3 := of_decide_eq_true i2
      have i4 := List.mem_range.mp i1
      exact a5 i (by omega) i3.1 i3.2
    · obtain ⟨o1, o2, o3⟩ := hok v3.toNat (by omega)
      have hst := ost_step v3.toNat
      rw [e_charAt N a2.1 (by rw [hlen]; omega) (by rw [hlen]; decide) o2, bI_s, i32_id (x := sbyt 1 v3.toNat) (by omega) (by omega), i32_id (x := 32) (by omega) (by omega), i32_id (x := v1) (by omega) (by omega), a1, i32_id (x := pk5 l) (by omega) (by omega)]
      have hev : (v3 + 1).toNat = v3.toNat + 1 := by omega
      refine wq_if (fun d => ?_) (fun d => ?_)
      · rw [if_pos d] at hst
        by_cases g : v1 = pk5 l
        · refine wq_e (fun z => z g) (wq_some ⟨Or.inl ⟨rfl, ?_⟩, rfl⟩)
          have := o3 d
          obtain ⟨w, w1, w2⟩ := List.mem_map.mp this
          have ew := pk5_inj w l (ownW_ok w w1).2 hl (by rw [w2, ← a3, g])
          rw [← ew]; exact w1
        · refine wq_t g (hk _ ⟨rfl, ⟨show 0 ≤ v3 + 1 by omega, show v3 + 1 ≤ 89 by omega⟩, ?_, ?_, fun i hi hs => ?_, rfl⟩ (show (89 - (v3 + 1)).toNat < (89 - v3).toNat by omega))
          · show (0 : Int) = (ost (v3 + 1).toNat).1
            rw [hev, hst]
          · show (0 : Int) = (ost (v3 + 1).toNat).2
            rw [hev, hst]
          · have hi : (i : Int) < v3 + 1 := hi
            by_cases ei : (i : Int) = v3
            · rw [show i = v3.toNat by omega, ← a3]; exact g
            · exact a5 i (by omega) hs
      · rw [if_neg d] at hst
        refine hk _ ⟨rfl, ⟨show 0 ≤ v3 + 1 by omega, show v3 + 1 ≤ 89 by omega⟩, ?_, ?_, fun i hi hs => ?_, rfl⟩ (show (89 - (v3 + 1)).toNat < (89 - v3).toNat by omega)
        · show or32 v1 (shl32 ((sbyt 1 v3.toNat - 97) + 1) v2) = (ost (v3 + 1).toNat).1
          rw [hev, hst, a3, a4]
        · show v2 + 5 = (ost (v3 + 1).toNat).2
          rw [hev, hst, a4]
        · have hi : (i : Int) < v3 + 1 := hi
          by_cases ei : (i : Int) = v3
          · rw [show i = v3.toNat by omega] at hs
            exact absurd hs d
          · exact a5 i (by omega) hs
  · exact ⟨rfl, ⟨Int.le_refl _, by show (0 : Int) ≤ 89; decide⟩, rfl, rfl, fun i hi => absurd hi (by show ¬ (i : Int) < 0; omega), rfl⟩
  · show (89 - (0 : Int)).toNat < 1000000000
    decide
