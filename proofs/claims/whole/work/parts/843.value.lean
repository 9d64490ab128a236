/-- the class's steps on a stack -/
def jC (v a b : Int) : Int :=
  if v = -20 then (if ¬ a = 0 then 1 else if b = 0 then 0 else 1) else if v = -19 then (if a = 0 then 0 else if b = 0 then 0 else 1) else if v = -18 then (if ¬ a = b then 0 else 1) else if v = -17 then (if a ≤ b then 0 else 1)
  else if v = -16 then (if b ≤ a then 0 else 1) else if v = -15 then (if a ≤ b then b else a) else if v = -14 then (if b ≤ a then b else a) else if v = -13 then fdv a b else if v = -12 then a * b else if v = -11 then a - b else if v = -10 then a + b else 0
def plC (tide round hour v : Int) : Int := if v = -5 then hour else if v = -4 then hour / 24 else if v = -3 then hour % 24 else if v = -2 then round else if v = -1 then tide else v
def tbC (tb : Nat → Int) (v a : Int) : Int := if 0 ≤ a ∧ a < 12 then tb ((-6 - v) * 12 + a).toNat else 0
def stC (pc : Int → Int) (tb : Nat → Int) (v : Int) (st : List Int) : List Int :=
  if -10 < v then (if v = -9 then (match st with | a :: r => (if a = 0 then 1 else 0) :: r | [] => []) else if -6 < v then pc v :: st else (match st with | a :: r => tbC tb v a :: r | [] => []))
  else (match st with | b :: a :: r => clp (jC v a b) :: r | st => st)
def evC (cd : Nat → Int) (pc : Int → Int) (tb : Nat → Int) : Nat → Nat → List Int → List Int
  | 0, _, st => st
  | n + 1, f, st => evC cd pc tb n (f + 1) (stC pc tb (cd f) st)
def okC (v : Int) (h : Nat) : Prop := ((-6 < v ∧ v ≤ 9999) ∧ h < 60) ∨ ((-9 ≤ v ∧ v ≤ -6) ∧ 1 ≤ h) ∨ ((-20 ≤ v ∧ v ≤ -10) ∧ 2 ≤ h)
def hC (v : Int) (h : Nat) : Nat := if -6 < v then h + 1 else if -10 < v then h else h - 1
def wfC (cd : Nat → Int) : Nat → Nat → Nat → Prop
  | 0, _, h => h = 1
  | n + 1, f, h => okC (cd f) h ∧ wfC cd n (f + 1) (hC (cd f) h)
theorem stC_len {pc : Int → Int} {tb : Nat → Int} {v : Int} {st : List Int} (h : okC v st.length) (hl : st.length ≤ 60) : (stC pc tb v st).length ≤ 60 ∧ (stC pc tb v st).length = hC v st.length := by
  unfold hC stC
  rcases h with ⟨h1, h2⟩ | ⟨h1, h2⟩ | ⟨h1, h2⟩
  · rw [if_pos (by omega), if_neg (by omega), if_pos (by omega), if_pos (by omega)]
    simp; omega
  · have e1 : -10 < v := by omega
    have e2 : ¬ -6 < v := by omega
    simp only [if_pos e1, if_neg e2]
    match st, h2 with
    | a :: r, _ =>
      by_cases g : v = -9
      · simp only [if_pos g]; exact ⟨hl, rfl⟩
      · simp only [if_neg g]; exact ⟨hl, rfl⟩
  · rw [if_neg (by omega), if_neg (by omega), if_neg (by omega)]
    match st, h2 with
    | b :: a :: r, _ => simp at hl ⊢; omega
theorem e_max0 : (0 : Int) ≤ 0 := Int.le_refl 0
theorem e_floorDiv {a b : Int} (M : Mm) (hb : b ≠ 0) (ha1 : -1000000 ≤ a) (ha2 : a ≤ 1000000) (hb1 : -1000000 ≤ b) (hb2 : b ≤ 1000000) : f_Math_floorDiv a b M = some (fdv a b, M) := by
  have hq : -1000000 ≤ a.tdiv b ∧ a.tdiv b ≤ 1000000 := by
    have h : (a.tdiv b).natAbs ≤ 1000000 := by
      rw [Int.natAbs_tdiv]
      exact Nat.le_trans (Nat.div_le_self _ _) (by omega)
    omega
  have e : b * a.tdiv b + a.tmod b = a := Int.mul_tdiv_add_tmod a b
  have hr : -1000000 ≤ a.tmod b ∧ a.tmod b ≤ 1000000 := by
    have h : (a.tmod b).natAbs ≤ 1000000 := by
      rw [Int.natAbs_tmod]
      exact Nat.le_trans (Nat.mod_le _ _) (by omega)
    omega
  have hs0 : a = 0 → a.tmod b = 0 := fun h => by rw [h]; exact Int.zero_tmod b
  unfold f_Math_floorDiv
  rw [i32_id (x := b) (by omega) (by omega), i32_id (x := a) (by omega) (by omega), gd_t hb, fdv_tdiv hb]
  rw [Int.mul_comm] at e
  have hs := xor32_sg (x := a) (y := b) (by omega) (by omega) (by omega) (by omega)
  by_cases g : 0 ≤ i32 (xor32 a b)
  · rw [if_pos g, if_neg]
    intro q
    have := hs.mp g
    exact q.2 (by omega)
  · rw [if_neg g, i32_id (x := a.tdiv b * b) (by omega) (by omega)]
    have hg : ¬ (0 ≤ a ↔ 0 ≤ b) := fun q => g (hs.mpr q)
    by_cases g2 : a.tdiv b * b = a
    · rw [if_pos g2, if_neg (fun q => q.1 (by omega))]
    · rw [if_neg g2, if_pos ⟨by omega, by omega⟩]
theorem e_floorMod {a b : Int} (M : Mm) (hb : 1 ≤ b) (hb2 : b ≤ 1000000) (ha1 : -1000000000 ≤ a) (ha2 : a ≤ 1000000000) : f_Math_floorMod a b M = some (a % b, M) := by
  have e : b * a.tdiv b + a.tmod b = a := Int.mul_tdiv_add_tmod a b
  have hr : (a.tmod b).natAbs < b.natAbs := by
    rw [Int.natAbs_tmod]
    exact Nat.mod_lt _ (by omega)
  have hs1 : 0 ≤ a → 0 ≤ a.tmod b := fun h => Int.tmod_nonneg b h
  have hs2 : a ≤ 0 → a.tmod b ≤ 0 := by
    intro h
    have : 0 ≤ (-a).tmod b := Int.tmod_nonneg b (by omega)
    rw [Int.neg_tmod] at this
    omega
  have hu : ∀ (q r : Int), a = b * q + r → 0 ≤ r → r < b → a % b = r := by
    intro q r h1 h2 h3
    rw [h1, Int.add_comm, Int.add_mul_emod_self_left, Int.emod_eq_of_lt h2 h3]
  unfold f_Math_floorMod
  rw [i32_id (x := b) (by omega) (by omega), i32_id (x := a) (by omega) (by omega), gd_t (by omega)]
  have hs := xor32_sg (x := a) (y := b) (by omega) (by omega) (by omega) (by omega)
  by_cases g : 0 ≤ i32 (xor32 a b)
  · have := hs.mp g
    rw [if_pos g, hu (a.tdiv b) (a.tmod b) e.symm (hs1 (by omega)) (by omega)]
  · have hg : ¬ (0 ≤ a ↔ 0 ≤ b) := fun q => g (hs.mpr q)
    rw [if_neg g, i32_id (x := a.tmod b) (by omega) (by omega)]
    by_cases g2 : a.tmod b = 0
    · rw [if_pos g2, hu (a.tdiv b) (a.tmod b) e.symm (by omega) (by omega)]
    · rw [if_neg g2, hu (a.tdiv b - 1) (a.tmod b + b) (by rw [Int.mul_sub, Int.mul_one]; omega) (by omega) (by have := hs2 (by omega); omega)]
theorem e_combined {v a b : Int} (M : Mm) (hv : -20 ≤ v ∧ v ≤ -10) (ha1 : -1000000 ≤ a) (ha2 : a ≤ 1000000) (hb1 : -1000000 ≤ b) (hb2 : b ≤ 1000000) : f_Code_combined v a b M = some (jC v a b, M) := by
  unfold f_Code_combined jC
  rw [i32_id (x := v) (by omega) (by omega), i32_id (x := a) (by omega) (by omega), i32_id (x := b) (by omega) (by omega)]
  have hd : ∀ (h : ¬ b = 0), (bI (f_Math_floorDiv a b M) (fun r10 M9 => some (i32 r10, M9)) : Option (Int × Mm)) = some (fdv a b, M) := by
    intro h
    have := fdv_rng (b := b) (n := 1000000) (by decide) ha1 ha2
    rw [e_floorDiv M h ha1 ha2 hb1 hb2, bI_s, i32_id (by omega) (by omega)]
  by_cases c1 : v = -20
  · rw [if_pos c1, if_pos c1]; split <;> (try split) <;> rfl
  rw [if_neg c1, if_neg c1]
  by_cases c2 : v = -19
  · rw [if_pos c2, if_pos c2]; split <;> (try split) <;> rfl
  rw [if_neg c2, if_neg c2]
  by_cases c3 : v = -18
  · rw [if_pos c3, if_pos c3]; split <;> rfl
  rw [if_neg c3, if_neg c3]
  by_cases c4 : v = -17
  · rw [if_pos c4, if_pos c4]; split <;> rfl
  rw [if_neg c4, if_neg c4]
  by_cases c5 : v = -16
  · rw [if_pos c5, if_pos c5]; split <;> rfl
  rw [if_neg c5, if_neg c5]
  by_cases c6 : v = -15
  · rw [if_pos c6, if_pos c6]; split <;> rfl
  rw [if_neg c6, if_neg c6]
  by_cases c7 : v = -14
  · rw [if_pos c7, if_pos c7]; split <;> rfl
  rw [if_neg c7, if_neg c7]
  by_cases c8 : v = -13
  · rw [if_pos c8, if_pos c8]
    by_cases g : b = 0
    · rw [if_neg (fun q => q g)]; unfold fdv; rw [if_pos g]
    · rw [if_pos g, hd g]
  rw [if_neg c8, if_neg c8]
  by_cases c9 : v = -12
  · rw [if_pos c9, if_pos c9]
  rw [if_neg c9, if_neg c9]
  by_cases c10 : v = -11
  · rw [if_pos c10, if_pos c10]
  rw [if_neg c10, if_neg c10]
  by_cases c11 : v = -10
  · rw [if_pos c11, if_pos c11]
  rw [if_neg c11, if_neg c11]
theorem e_plain {v tide round hour : Int} (M : Mm) (hv : -6 < v ∧ v ≤ 9999) (h1 : 0 ≤ hour) (h2 : hour ≤ 1000000) : f_Code_plain v tide round hour M = some (plC tide round hour v, M) := by
  unfold f_Code_plain plC
  rw [i32_id (x := v) (by omega) (by omega), i32_id (x := hour) (by omega) (by omega), i32_id (x := 24) (by omega) (by omega), tmod_pos h1, tdiv_pos h1]
  by_cases c1 : v = -5
  · rw [if_pos c1, if_pos c1]
  rw [if_neg c1, if_neg c1]
  by_cases c2 : v = -4
  · rw [if_pos c2, if_pos c2]
  rw [if_neg c2, if_neg c2]
  by_cases c3 : v = -3
  · rw [if_pos c3, if_pos c3]
  rw [if_neg c3, if_neg c3]
  by_cases c4 : v = -2
  · rw [if_pos c4, if_pos c4]
  rw [if_neg c4, if_neg c4]
  by_cases c5 : v = -1
  · rw [if_pos c5, if_pos c5]
  rw [if_neg c5, if_neg c5]
theorem jC_rng {v a b : Int} (ha1 : -1000000 ≤ a) (ha2 : a ≤ 1000000) (hb1 : -1000000 ≤ b) (hb2 : b ≤ 1000000) : -2000000000000 ≤ jC v a b ∧ jC v a b ≤ 2000000000000 := by
  have h1 := mul_rng ha1 ha2 hb1 hb2
  have h2 := fdv_rng (b := b) (n := 1000000) (by decide) ha1 ha2
  unfold jC
  repeat' split
  all_goals omega
theorem stC_sml {pc : Int → Int} {tb : Nat → Int} {v : Int} {st : List Int} (h : okC v st.length) (hs : sml st) (hpc : ∀ v, -6 < v → v ≤ 9999 → -1000000 ≤ pc v ∧ pc v ≤ 1000000) (htb : ∀ k : Nat, k < 36 → -1000000 ≤ tb k ∧ tb k ≤ 1000000) : sml (stC pc tb v st) := by
  unfold stC
  rcases h with ⟨h1, h2⟩ | ⟨h1, h2⟩ | ⟨h1, h2⟩
  · have e1 : -10 < v := by omega
    have e2 : -6 < v := by omega
    have e3 : ¬ v = -9 := by omega
    simp only [if_pos e1, if_pos e2, if_neg e3]
    obtain ⟨p1, p2⟩ := hpc v e2 h1.2
    exact sml_cons p1 p2 hs
  · have e1 : -10 < v := by omega
    have e2 : ¬ -6 < v := by omega
    simp only [if_pos e1, if_neg e2]
    match st, h2 with
    | a :: r, _ =>
      have hr : sml r := fun y hy => hs y (List.mem_cons_of_mem _ hy)
      by_cases g : v = -9
      · simp only [if_pos g]
        refine sml_cons ?_ ?_ hr <;> split <;> omega
      · simp only [if_neg g]
        unfold tbC
        split
        · rename_i q
          obtain ⟨t1, t2⟩ := htb ((-6 - v) * 12 + a).toNat (by omega)
          exact sml_cons t1 t2 hr
        · exact sml_cons (by omega) (by omega) hr
  · have e1 : ¬ -10 < v := by omega
    simp only [if_neg e1]
    match st, h2 with
    | b :: a :: r, _ =>
      obtain ⟨j1, j2⟩ := clp_rng (jC v a b)
      exact sml_cons j1 j2 (fun y hy => hs y (List.mem_cons_of_mem _ (List.mem_cons_of_mem _ hy)))
/-- what evaluation asks of the rows -/
def cdOk (i0 i1 i2 : Nat) : Prop := slen i0 = 1600 ∧ slen i1 = 64 ∧ slen i2 = 36 ∧ i0 ≠ i1 ∧ i2 ≠ i1
theorem stk_set {M : Mm} {i k : Nat} {w a : Int} {r : List Int} (h : stk (M i) (a :: r)) (hk : k = r.length) : stk (up M i k w i) (w :: r) := by
  subst hk
  exact ⟨up_eq M i _ w, stk_up (Nat.le_refl _) h.2⟩
theorem b_value {t : Nat} {kH : Int → Int → Int → Int → Int → Int → Mm → Option (Int × Mm)} {v2 v3 v4 v5 v6 v7 cv : Int} {M : Mm} {tb : Nat → Int} {st : List Int} {Q : Int × Mm → Prop} (hr : cdOk (ptr t 0) (ptr t 1) (ptr t 2)) (h0 : 0 ≤ v7) (h1 : v7 < v2) (h2 : v2 ≤ 1600) (h3 : 0 ≤ v5) (h4 : v5 ≤ 1000000) (hcv : M (ptr t 0) v7.toNat = cv) (htb : ∀ k : Nat, k < 36 → M (ptr t 2) k = tb k)
    (hp : stk (M (ptr t 1)) st) (h6 : v6 = (st.length : Int)) (hs : sml st) (hl : st.length ≤ 60) (hok : okC cv st.length)
    (k : ∀ M', stk (M' (ptr t 1)) (stC (plC v3 v4 v5) tb cv st) → Fr [(ptr t 1, 99999)] M M' → wq (kH v2 v3 v4 v5 ((stC (plC v3 v4 v5) tb cv st).length : Int) (v7 + 1) M') Q) : wq (f_Code_value_B6 t kH v2 v3 v4 v5 v6 v7 M) Q := by
  obtain ⟨r0, r1, r2, r3, r4⟩ := hr
  unfold f_Code_value_B6
  rw [i32_id (x := v2) (by omega) (by omega), i32_id (x := v7) (by omega) (by omega), if_neg (by omega), e_cell_in M r0 (by decide) h0 (by omega), bI_s, hcv]
  rcases hok with ⟨g1, g2⟩ | ⟨g1, g2⟩ | ⟨g1, g2⟩
  · have e1 : -10 < cv := by omega
    have e2 : -6 < cv := by omega
    have e3 : ¬ cv = -9 := by omega
    have e : stC (plC v3 v4 v5) tb cv st = plC v3 v4 v5 cv :: st := by unfold stC; simp only [if_pos e1, if_pos e2, if_neg e3]
    rw [e] at k
    rw [i32_id (x := cv) (by omega) (by omega), i32_id (x := -10) (by omega) (by omega), i32_id (x := -9) (by omega) (by omega), i32_id (x := -6) (by omega) (by omega), if_pos e1, if_pos e3, if_pos e2, e_plain M g1 h3 h4, bI_s, e_set M r1 (by decide) (by omega) (by omega), bV_s]
    have := k (up M (ptr t 1) v6.toNat (plC v3 v4 v5 cv)) (by rw [show v6.toNat = st.length by omega]; exact stk_push hp) (Fr.rf.up (by simp))
    rw [show v6 + 1 = ((plC v3 v4 v5 cv :: st).length : Int) by simp; omega]
    exact this
  · have e1 : -10 < cv := by omega
    have e2 : ¬ -6 < cv := by omega
    match st, g2 with
    | a :: r, _ =>
      simp only [List.length_cons] at h6 hl
      have ha : M (ptr t 1) (v6 - 1).toNat = a := by rw [show (v6 - 1).toNat = r.length by omega]; exact hp.1
      have hsa := hs a List.mem_cons_self
      have hset : ∀ w M', M' = M → wq (bV (f_BT_setCell (ptr t 1) (v6 - 1) w M') (fun M15 => kH v2 v3 v4 v5 v6 (v7 + 1) M15)) Q ∨ ¬ (stC (plC v3 v4 v5) tb cv (a :: r) = w :: r) := by
        intro w M' hM'
        subst hM'
        by_cases e : stC (plC v3 v4 v5) tb cv (a :: r) = w :: r
        · left
          rw [e] at k
          rw [e_set _ r1 (by decide) (by omega) (by omega), bV_s]
          have := k (up M' (ptr t 1) (v6 - 1).toNat w) (stk_set hp (by omega)) (Fr.rf.up (by simp))
          rw [show v6 = ((w :: r).length : Int) by simp; omega]
          rw [show ((w :: r).length : Int) = v6 by simp; omega] at this ⊢
          exact this
        · exact Or.inr e
      rw [i32_id (x := cv) (by omega) (by omega), i32_id (x := -10) (by omega) (by omega), i32_id (x := -9) (by omega) (by omega), i32_id (x := -6) (by omega) (by omega), if_pos e1]
      by_cases g : cv = -9
      · rw [if_neg (fun q => q g), e_cell_in M r1 (by decide) (by omega) (by omega), bI_s, ha, i32_id (x := a) (by omega) (by omega)]
        have e : stC (plC v3 v4 v5) tb cv (a :: r) = (if a = 0 then 1 else 0) :: r := by unfold stC; simp only [if_pos e1, if_pos g]
        by_cases ga : a = 0
        · rw [if_pos ga] at e
          rw [if_neg (fun q => q ga)]
          exact (hset 1 M rfl).resolve_right (fun q => q e)
        · rw [if_neg ga] at e
          rw [if_pos ga]
          exact (hset 0 M rfl).resolve_right (fun q => q e)
      · rw [if_pos g, if_neg e2, e_cell_in M r1 (by decide) (by omega) (by omega), bI_s, ha, i32_id (x := a) (by omega) (by omega), i32_id (x := 12) (by omega) (by omega)]
        have e : stC (plC v3 v4 v5) tb cv (a :: r) = tbC tb cv a :: r := by unfold stC; simp only [if_pos e1, if_neg e2, if_neg g]
        have j0 : tbC tb cv a = 0 → wq (f_Code_value_J184 t kH v2 v3 v4 v5 v6 v7 cv a 0 M) Q := by
          intro hz
          unfold f_Code_value_J184 f_Code_value_J206
          rw [if_pos (by decide), e_cell M r2 (by decide) (by omega) (by omega), bI_s]
          refine (hset _ M rfl).resolve_right (fun q => q ?_)
          rw [e, hz]
          unfold ce
          rw [if_neg (by omega)]
        have j1 : 0 ≤ a → a < 12 → wq (f_Code_value_J184 t kH v2 v3 v4 v5 v6 v7 cv a 1 M) Q := by
          intro q1 q2
          unfold f_Code_value_J184 f_Code_value_J206
          rw [if_neg (by decide), e_cell_in M r2 (by decide) (by omega) (by omega), bI_s]
          refine (hset _ M rfl).resolve_right (fun q => q ?_)
          rw [e]
          unfold tbC
          rw [if_pos ⟨q1, q2⟩, htb _ (by omega)]
        by_cases ga : a < 0
        · rw [if_pos ga]; exact j0 (by unfold tbC; rw [if_neg (by omega)])
        · rw [if_neg ga]
          by_cases gb : 12 ≤ a
          · rw [if_pos gb]; exact j0 (by unfold tbC; rw [if_neg (by omega)])
          · rw [if_neg gb]; exact j1 (by omega) (by omega)
  · have e1 : ¬ -10 < cv := by omega
    match st, g2 with
    | b :: a :: r, _ =>
      simp only [List.length_cons] at h6 hl
      have hb : M (ptr t 1) (v6 + (-1)).toNat = b := by rw [show (v6 + (-1)).toNat = r.length + 1 by omega]; exact hp.1
      have ha : M (ptr t 1) ((v6 + (-1)) - 1).toNat = a := by rw [show ((v6 + (-1)) - 1).toNat = r.length by omega]; exact hp.2.1
      have hsa := hs a (List.mem_cons_of_mem _ List.mem_cons_self)
      have hsb := hs b List.mem_cons_self
      have e : stC (plC v3 v4 v5) tb cv (b :: a :: r) = clp (jC cv a b) :: r := by unfold stC; simp only [if_neg e1]
      rw [e] at k
      have hset : ∀ w, w = clp (jC cv a b) → wq (bV (f_BT_setCell (ptr t 1) ((v6 + (-1)) - 1) w M) (fun M23 => kH v2 v3 v4 v5 (v6 + (-1)) (v7 + 1) M23)) Q := by
        intro w hw
        rw [e_set _ r1 (by decide) (by omega) (by omega), bV_s]
        have := k (up M (ptr t 1) ((v6 + (-1)) - 1).toNat w) (by rw [← hw]; exact stk_set hp.2 (by omega)) (Fr.rf.up (by simp))
        rw [show v6 + (-1) = ((clp (jC cv a b) :: r).length : Int) by simp; omega]
        rw [show ((clp (jC cv a b) :: r).length : Int) = v6 + (-1) by simp; omega] at this ⊢
        exact this
      have hj := jC_rng (v := cv) hsa.1 hsa.2 hsb.1 hsb.2
      rw [i32_id (x := cv) (by omega) (by omega), i32_id (x := -10) (by omega) (by omega), if_neg e1, e_cell_in M r1 (by decide) (by omega) (by omega), bI_s, e_cell_in M r1 (by decide) (by omega) (by omega), bI_s, ha, hb, e_combined M g1 hsa.1 hsa.2 hsb.1 hsb.2, bI_s]
      by_cases z1 : 1000000 < jC cv a b
      · rw [if_neg (fun q => absurd ((c64_le (by omega) (by omega) (by omega) (by omega)).mp q) (by omega))]
        exact hset _ (by unfold clp; rw [if_pos z1])
      · rw [if_pos ((c64_le (by omega) (by omega) (by omega) (by omega)).mpr (by omega))]
        by_cases z2 : jC cv a b < -1000000
        · rw [if_neg (fun q => absurd ((c64_ge (by omega) (by omega) (by omega) (by omega)).mp q) (by omega))]
          exact hset _ (by unfold clp; rw [if_neg z1, if_pos z2])
        · rw [if_pos ((c64_ge (by omega) (by omega) (by omega) (by omega)).mpr (by omega))]
          exact hset _ (by unfold clp; rw [if_neg z1, if_neg z2])
