def pl27 : List Int → Int
  | [] => 0
  | a :: l => a + 27 * pl27 l
theorem pk27_rev : ∀ (l r : List Int), pk27 (pl27 r) l = pl27 (l.reverse ++ r)
  | [], r => rfl
  | a :: l, r => by
    have e : 27 * pl27 r + a = pl27 (a :: r) := by show _ = a + 27 * pl27 r; omega
    show pk27 (27 * pl27 r + a) l = _
    rw [e, pk27_rev l (a :: r), List.reverse_cons, List.append_assoc]
    rfl
theorem pl27_rng : ∀ (l : List Int), (∀ x ∈ l, 1 ≤ x ∧ x ≤ 26) → 0 ≤ pl27 l ∧ pl27 l < ((27 ^ l.length : Nat) : Int) ∧ (l ≠ [] → 0 < pl27 l)
  | [], _ => ⟨Int.le_refl _, by decide, fun h => absurd rfl h⟩
  | a :: l, h => by
    obtain ⟨i1, i2, -⟩ := pl27_rng l (fun x hx => h x (List.mem_cons_of_mem _ hx))
    have ha := h a List.mem_cons_self
    have e : ((27 ^ (a :: l).length : Nat) : Int) = 27 * ((27 ^ l.length : Nat) : Int) := by rw [List.length_cons, Nat.pow_succ, Int.natCast_mul, Int.mul_comm]; rfl
    rw [e]
    show 0 ≤ a + 27 * pl27 l ∧ a + 27 * pl27 l < _ ∧ (_ → 0 < a + 27 * pl27 l)
    refine ⟨by omega, by omega, fun _ => by omega⟩
theorem pk5_rng : ∀ (l : List Int), (∀ x ∈ l, 1 ≤ x ∧ x ≤ 26) → 0 ≤ pk5 l ∧ pk5 l < ((32 ^ l.length : Nat) : Int)
  | [], _ => ⟨Int.le_refl _, by decide⟩
  | a :: l, h => by
    obtain ⟨i1, i2⟩ := pk5_rng l (fun x hx => h x (List.mem_cons_of_mem _ hx))
    have ha := h a List.mem_cons_self
    have e : ((32 ^ (a :: l).length : Nat) : Int) = 32 * ((32 ^ l.length : Nat) : Int) := by rw [List.length_cons, Nat.pow_succ, Int.natCast_mul, Int.mul_comm]; rfl
    rw [e]
    show 0 ≤ a + 32 * pk5 l ∧ a + 32 * pk5 l < _
    omega
theorem pk5_at : ∀ (l : List Int) (k : Nat), (∀ x ∈ l, 1 ≤ x ∧ x ≤ 26) → pk5 l / ((32 ^ k : Nat) : Int) % 32 = l.getD k 0
  | [], k, _ => by show (0 : Int) / _ % 32 = _; rw [Int.zero_ediv]; simp
  | a :: l, 0, h => by
    have ha := h a List.mem_cons_self
    show (a + 32 * pk5 l) / ((32 ^ 0 : Nat) : Int) % 32 = a
    rw [show ((32 ^ 0 : Nat) : Int) = 1 from rfl, Int.ediv_one]
    omega
  | a :: l, k + 1, h => by
    have ha := h a List.mem_cons_self
    have e : ((32 ^ (k + 1) : Nat) : Int) = 32 * ((32 ^ k : Nat) : Int) := by rw [Nat.pow_succ, Int.natCast_mul, Int.mul_comm]; rfl
    show (a + 32 * pk5 l) / ((32 ^ (k + 1) : Nat) : Int) % 32 = l.getD k 0
    rw [e, ← Int.ediv_ediv_of_nonneg (by decide), show (a + 32 * pk5 l) / 32 = pk5 l by omega]
    exact pk5_at l k (fun x hx => h x (List.mem_cons_of_mem _ hx))
def ltA (M : Mm) (kd w k r : Int) : Prop := ∀ l, ltrs l → M 5 (12 * kd + w).toNat = pk5 l → M 99 (36 + 12 * kd + w).toNat = pk27 0 l → r = l.getD k.toNat 0
theorem ltrs_len {l : List Int} (h : ltrs l) : ((27 ^ l.length : Nat) : Int) ≤ 387420489 ∧ ((32 ^ l.length : Nat) : Int) ≤ 1073741824 := by
  have h1 : (27 ^ l.length : Nat) ≤ 27 ^ 6 := Nat.pow_le_pow_right (by decide) h.1.2
  have h2 : (32 ^ l.length : Nat) ≤ 32 ^ 6 := Nat.pow_le_pow_right (by decide) h.1.2
  have e1 : (27 ^ 6 : Nat) = 387420489 := by decide
  have e2 : (32 ^ 6 : Nat) = 1073741824 := by decide
  omega
theorem s_letA {r : List Int} (hr : ∀ x ∈ r, 1 ≤ x ∧ x ≤ 26) (hlen : r.length ≤ 6) {kx : Int → Int → Int → Mm → Option (Int × Mm)} {v3 v4 : Int} {M : Mm} {Q : Int × Mm → Prop} (k : wq (kx v3 v4 (r.length : Int) M) Q) : wq (f_M_letter_L69 kx FU (v3, v4, 0, pl27 r, M)) Q := by
  have hl6 : ((27 ^ r.length : Nat) : Int) ≤ 387420489 := by
    have h1 : (27 ^ r.length : Nat) ≤ 27 ^ 6 := Nat.pow_le_pow_right (by decide) hlen
    have e1 : (27 ^ 6 : Nat) = 387420489 := by decide
    omega
  unfold f_M_letter_L69
  refine wq_lp (fun z => z.1 = v3 ∧ z.2.1 = v4 ∧ (0 ≤ z.2.2.1 ∧ z.2.2.1 ≤ (r.length : Int)) ∧ z.2.2.2.1 = pl27 (r.drop z.2.2.1.toNat) ∧ z.2.2.2.2 = M) (fun z => ((r.length : Int) - z.2.2.1).toNat) ?_ FU _ ?_ ?_
  · rintro kH ⟨u3, u4, u6, u7, N⟩ ⟨q1, q2, q3, q4, q5⟩ hk
    have e1 : u3 = v3 := q1
    have e2 : u4 = v4 := q2
    have e5 : N = M := q5
    subst e1 e2 e5
    have e3 : 0 ≤ u6 ∧ u6 ≤ (r.length : Int) := q3
    have e4 : u7 = pl27 (r.drop u6.toNat) := q4
    clear q1 q2 q3 q4 q5
    have hd : ∀ x ∈ r.drop u6.toNat, 1 ≤ x ∧ x ≤ 26 := fun x hx => hr x (List.mem_of_mem_drop hx)
    obtain ⟨g1, g2, g3⟩ := pl27_rng _ hd
    have g4 : ((27 ^ (r.drop u6.toNat).length : Nat) : Int) ≤ ((27 ^ r.length : Nat) : Int) := by
      have : (27 ^ (r.drop u6.toNat).length : Nat) ≤ 27 ^ r.length := Nat.pow_le_pow_right (by decide) (by rw [List.length_drop]; omega)
      omega
    show wq (f_M_letter_B69 (fun v3 v4 v6 v7 M => kH (v3, v4, v6, v7, M)) kx u3 u4 u6 u7 N) _
    unfold f_M_letter_B69
    rw [e4]
    by_cases c : u6 = (r.length : Int)
    · have hz : r.drop u6.toNat = [] := List.drop_eq_nil_of_le (by omega)
      rw [hz]
      refine wq_t (by decide) ?_
      rw [c]
      exact k
    · have hlt : u6.toNat < r.length := by omega
      have hne : r.drop u6.toNat ≠ [] := by
        intro z
        have := congrArg List.length z
        rw [List.length_drop] at this
        simp at this
        omega
      refine wq_e (fun z => absurd ((c64_le (by omega) (by omega) (by omega) (by omega)).mp z) (by have := g3 hne; omega)) ?_
      refine hk _ ⟨rfl, rfl, ⟨show 0 ≤ u6 + 1 by omega, show u6 + 1 ≤ (r.length : Int) by omega⟩, ?_, rfl⟩ (show ((r.length : Int) - (u6 + 1)).toNat < ((r.length : Int) - u6).toNat by omega)
      show (i64 (pl27 (r.drop u6.toNat))).tdiv (i64 27) = pl27 (r.drop (u6 + 1).toNat)
      rw [i64_id (x := pl27 (r.drop u6.toNat)) (by omega) (by omega), i64_id (x := 27) (by omega) (by omega), tdiv_pos g1, show (u6 + 1).toNat = u6.toNat + 1 by omega]
      rw [List.drop_eq_getElem_cons hlt] at hd ⊢
      have ha := hd _ List.mem_cons_self
      show (r[u6.toNat] + 27 * pl27 (r.drop (u6.toNat + 1))) / 27 = _
      omega
  · exact ⟨rfl, rfl, ⟨Int.le_refl _, by show (0 : Int) ≤ _; omega⟩, rfl, rfl⟩
  · show ((r.length : Int) - 0).toNat < 1000000000
    omega
theorem s_letB {r : List Int} (hr : ∀ x ∈ r, 1 ≤ x ∧ x ≤ 26) (hlen : r.length ≤ 6) {v3 : Int} {M : Mm} (h3 : 0 ≤ v3) (h4 : v3 < (r.length : Int)) : wq (f_M_letter_L104 FU (v3, pl27 r, (r.length : Int) - 1, M)) (fun q => q.1 = r.getD (r.length - 1 - v3.toNat) 0 ∧ q.2 = M) := by
  have hl6 : ((27 ^ r.length : Nat) : Int) ≤ 387420489 := by
    have h1 : (27 ^ r.length : Nat) ≤ 27 ^ 6 := Nat.pow_le_pow_right (by decide) hlen
    have e1 : (27 ^ 6 : Nat) = 387420489 := by decide
    omega
  unfold f_M_letter_L104
  refine wq_lp (fun z => z.1 = v3 ∧ (v3 ≤ z.2.2.1 ∧ z.2.2.1 ≤ (r.length : Int) - 1) ∧ z.2.1 = pl27 (r.drop ((r.length : Int) - 1 - z.2.2.1).toNat) ∧ z.2.2.2 = M) (fun z => z.2.2.1.toNat) ?_ FU _ ?_ ?_
  · rintro kH ⟨u3, u4, u7, N⟩ ⟨q1, q3, q4, q5⟩ hk
    have e1 : u3 = v3 := q1
    have e5 : N = M := q5
    subst e1 e5
    have e3 : u3 ≤ u7 ∧ u7 ≤ (r.length : Int) - 1 := q3
    have e4 : u4 = pl27 (r.drop ((r.length : Int) - 1 - u7).toNat) := q4
    clear q1 q3 q4 q5
    have hd : ∀ x ∈ r.drop ((r.length : Int) - 1 - u7).toNat, 1 ≤ x ∧ x ≤ 26 := fun x hx => hr x (List.mem_of_mem_drop hx)
    obtain ⟨g1, g2, g3⟩ := pl27_rng _ hd
    have g4 : ((27 ^ (r.drop ((r.length : Int) - 1 - u7).toNat).length : Nat) : Int) ≤ ((27 ^ r.length : Nat) : Int) := by
      have : (27 ^ (r.drop ((r.length : Int) - 1 - u7).toNat).length : Nat) ≤ 27 ^ r.length := Nat.pow_le_pow_right (by decide) (by rw [List.length_drop]; omega)
      omega
    have hlt : ((r.length : Int) - 1 - u7).toNat < r.length := by omega
    have hcons := List.drop_eq_getElem_cons hlt
    show wq (f_M_letter_B104 (fun v3 v4 v7 M => kH (v3, v4, v7, M)) u3 u4 u7 N) _
    unfold f_M_letter_B104
    rw [e4, i32_id (x := u7) (by omega) (by omega), i32_id (x := u3) (by omega) (by omega), i64_id (x := pl27 (r.drop ((r.length : Int) - 1 - u7).toNat)) (by omega) (by omega), i64_id (x := 27) (by omega) (by omega), tdiv_pos g1, tmod_pos g1]
    have ha := hd (r[((r.length : Int) - 1 - u7).toNat]) (by rw [hcons]; exact List.mem_cons_self)
    refine wq_if (fun c => wq_some ⟨?_, rfl⟩) (fun c => ?_)
    · show pl27 (r.drop ((r.length : Int) - 1 - u7).toNat) % 27 = _
      have ei : ((r.length : Int) - 1 - u7).toNat = r.length - 1 - u3.toNat := by omega
      rw [hcons]
      show (r[((r.length : Int) - 1 - u7).toNat] + 27 * pl27 (r.drop (((r.length : Int) - 1 - u7).toNat + 1))) % 27 = _
      rw [List.getD_eq_getElem?_getD, ← ei, List.getElem?_eq_getElem hlt]
      show _ = r[((r.length : Int) - 1 - u7).toNat]
      omega
    · refine hk _ ⟨rfl, ⟨show u3 ≤ u7 + (-1) by omega, show u7 + (-1) ≤ (r.length : Int) - 1 by omega⟩, ?_, rfl⟩ (show (u7 + (-1)).toNat < u7.toNat by omega)
      show pl27 (r.drop ((r.length : Int) - 1 - u7).toNat) / 27 = pl27 (r.drop ((r.length : Int) - 1 - (u7 + (-1))).toNat)
      rw [show ((r.length : Int) - 1 - (u7 + (-1))).toNat = ((r.length : Int) - 1 - u7).toNat + 1 by omega, hcons]
      show (r[((r.length : Int) - 1 - u7).toNat] + 27 * pl27 (r.drop (((r.length : Int) - 1 - u7).toNat + 1))) / 27 = _
      omega
  · refine ⟨rfl, ⟨by show v3 ≤ (r.length : Int) - 1; omega, Int.le_refl _⟩, ?_, rfl⟩
    show pl27 r = pl27 (r.drop ((r.length : Int) - 1 - ((r.length : Int) - 1)).toNat)
    rw [show ((r.length : Int) - 1 - ((r.length : Int) - 1)).toNat = 0 by omega]
    rfl
  · show ((r.length : Int) - 1).toNat < 1000000000
    omega
theorem e_hasK {V M : Mm} (hT : Tw V) (h : Tc V M) {k v : Int} (hk : IR k) (hv : IR v) : f_Told_hasA 3 k v M = some (if (0 ≤ k ∧ k ≤ 2) ∧ 0 ≤ v ∧ v < V 98 (3 + k).toNat then 1 else 0, M) := by
  by_cases c : 0 ≤ k ∧ k ≤ 2
  · obtain e | e | e : k = 0 ∨ k = 1 ∨ k = 2 := by omega
    · subst e
      rw [e_hasP hT h hv]
      exact congrArg (fun z => some (z, M)) (ite_iff 1 0 ⟨fun z => ⟨c, z⟩, fun z => z.2⟩)
    · subst e
      rw [e_hasS hT h hv]
      exact congrArg (fun z => some (z, M)) (ite_iff 1 0 ⟨fun z => ⟨c, z⟩, fun z => z.2⟩)
    · subst e
      rw [e_hasW hT h hv]
      exact congrArg (fun z => some (z, M)) (ite_iff 1 0 ⟨fun z => ⟨c, z⟩, fun z => z.2⟩)
  · rw [if_neg (fun z => c z.1)]
    unfold f_Told_hasA
    rw [i32_id (x := k) hk.1 hk.2, i32_id (x := 2) (by omega) (by omega)]
    by_cases d : k < 0
    · rw [if_pos d]
    · rw [if_neg d, if_pos (by omega)]
theorem call_letter {n : Nat} {v1 v2 v3 : Int} (i1 : IR v1) (i2 : IR v2) (i3 : IR v3) : CallOk n (f_BT_letter v1 v2 v3) (f_M_letter v1 v2 v3) := by
  refine call_q (fun M r => gA (((0 ≤ v1 ∧ v1 ≤ 2) ∧ 0 ≤ v2 ∧ v2 < M 98 (3 + v1).toNat) ∧ 0 ≤ v3 ∧ v3 ≤ 5) (fun r => ltA M v1 v2 v3 r) r) [] [] (fun M r r' hR => gA_un (fun c x y hx hy => ?_)) rfl rfl rfl rfl rfl (fun M hR => ?_) (fun M M1 hR hm hl => ?_)
  · obtain ⟨-, -, -, -, -, h6, -⟩ := id hR
    obtain ⟨l, l1, l2, l3⟩ := h6 v1.toNat v2.toNat (by omega) (by rw [show 3 + v1.toNat = (3 + v1).toNat by omega]; omega)
    have e5 : 12 * v1.toNat + v2.toNat = (12 * v1 + v2).toNat := by omega
    have e99 : 36 + 12 * v1.toNat + v2.toNat = (36 + 12 * v1 + v2).toNat := by omega
    rw [e5] at l2
    rw [e99] at l3
    rw [hx l l1 l2 l3, hy l l1 l2 l3]
  · obtain ⟨h1, h2, h3, -, -, h6, -, -, -, h10, -⟩ := id hR
    have hP := h1.1
    have hS := h1.2.1
    have hW := h1.2.2.1
    unfold f_BT_letter
    rw [e_hasK h1 h3.1 i1 i2, bI_s]
    refine wq_c0 (fun c => wq_some ⟨Or.inr ⟨fun z => c z.1, rfl⟩, h3.2.2, h10.2.2, Fr.rf⟩) (fun c => ?_)
    rw [i32_id (x := v3) i3.1 i3.2, i32_id (x := 6) (by omega) (by omega)]
    refine wq_if (fun d => wq_some ⟨Or.inr ⟨fun z => by omega, rfl⟩, h3.2.2, h10.2.2, Fr.rf⟩) (fun d => ?_)
    refine wq_if (fun e => ?_) (fun e => wq_some ⟨Or.inr ⟨fun z => by omega, rfl⟩, h3.2.2, h10.2.2, Fr.rf⟩)
    have hc12 : v2 < 12 := by
      obtain ⟨⟨c1, c2⟩, c3, c4⟩ := c
      obtain q | q | q : v1 = 0 ∨ v1 = 1 ∨ v1 = 2 := by omega
      · subst q; have c4 : v2 < nP M := c4; omega
      · subst q; have c4 : v2 < nS M := c4; omega
      · subst q; have c4 : v2 < nW M := c4; omega
    rw [e_cell_in (n := 36) M rfl (by decide) (by omega) (by omega), bI_s]
    refine wq_some ⟨Or.inl ⟨⟨c, by omega⟩, fun l l1 l2 l3 => ?_⟩, h3.2.2, h10.2.2, Fr.rf⟩
    show and32 (shr32 (M 5 (v1 * 12 + v2).toNat) (5 * v3)) 31 = _
    have hr := pk5_rng l l1.2
    have hl := ltrs_len l1
    rw [show v1 * 12 + v2 = 12 * v1 + v2 by omega, l2, and32_31]
    have e1 := shr32_id (x := pk5 l) (5 * v3.toNat) (by omega) (by omega) (by omega)
    rw [show ((5 * v3.toNat : Nat) : Int) = 5 * v3 by omega] at e1
    rw [e1, show (2 ^ (5 * v3.toNat) : Nat) = 32 ^ v3.toNat by rw [Nat.pow_mul]]
    exact pk5_at l v3.toNat l1.2
  · obtain ⟨h1, h2, -, -, -, h6, -⟩ := id hR
    have hP := h1.1
    have hS := h1.2.1
    have hW := h1.2.2.1
    unfold f_M_letter
    rw [e_in _ i1 (by omega) (by omega) (by omega) (by omega), bI_s]
    refine wq_c0 (fun c => wq_some ⟨Or.inr ⟨fun z => c z.1.1, rfl⟩, Fr.rf⟩) (fun c => ?_)
    rw [i32_id (x := 3 + v1) (by omega) (by omega), hl 98 (by decide)]
    have hm98 : 0 ≤ M 98 (3 + v1).toNat ∧ M 98 (3 + v1).toNat ≤ 12 := by
      obtain q | q | q : v1 = 0 ∨ v1 = 1 ∨ v1 = 2 := by omega
      · subst q; exact ⟨hP.1, Int.le_trans hP.2 (by decide)⟩
      · subst q; exact hS
      · subst q; exact ⟨hW.1, Int.le_trans hW.2 (by decide)⟩
    refine wq_g (by omega) ?_
    rw [i32_id (x := M 98 (3 + v1).toNat - 1) (by omega) (by omega), e_in _ i2 (by omega) (by omega) (by omega) (by omega), bI_s]
    refine wq_c0 (fun d => wq_some ⟨Or.inr ⟨fun z => d (by omega), rfl⟩, Fr.rf⟩) (fun d => ?_)
    rw [e_in _ i3 (by omega) (by omega) (by omega) (by omega), bI_s]
    refine wq_c1 (fun e => ?_) (fun e => wq_some ⟨Or.inr ⟨fun z => e z.2, rfl⟩, Fr.rf⟩)
    rw [i32_id (x := (36 + 12 * v1) + v2) (by omega) (by omega), hl 99 (by decide)]
    refine wq_g (by omega) ?_
    obtain ⟨l, l1, l2, l3⟩ := h6 v1.toNat v2.toNat (by omega) (by rw [show 3 + v1.toNat = (3 + v1).toNat by omega]; omega)
    rw [show 12 * v1.toNat + v2.toNat = (12 * v1 + v2).toNat by omega] at l2
    rw [show 36 + 12 * v1.toNat + v2.toNat = (36 + 12 * v1 + v2).toNat by omega] at l3
    have hrev : pk27 0 l = pl27 l.reverse := by
      have := pk27_rev l []
      rw [List.append_nil] at this
      exact this
    have hrl : ∀ x ∈ l.reverse, 1 ≤ x ∧ x ≤ 26 := fun x hx => l1.2 x (List.mem_reverse.mp hx)
    have hlen : l.reverse.length ≤ 6 := by rw [List.length_reverse]; exact l1.1.2
    have hcond : ((0 ≤ v1 ∧ v1 ≤ 2) ∧ 0 ≤ v2 ∧ v2 < M 98 (3 + v1).toNat) ∧ 0 ≤ v3 ∧ v3 ≤ 5 := ⟨⟨c, by omega⟩, e⟩
    have huniq : ∀ l' : List Int, ltrs l' → M 99 (36 + 12 * v1 + v2).toNat = pk27 0 l' → M 5 (12 * v1 + v2).toNat = pk5 l' → ∀ k : Nat, k < 6 → l'.getD k 0 = l.getD k 0 := by
      intro l' g1 g2 g3 k hk
      have a1 := pk5_at l k l1.2
      have a2 := pk5_at l' k g1.2
      rw [← a1, ← a2, ← l2, ← g3]
    rw [l3, hrev]
    refine s_letA hrl hlen ?_
    show wq (if i32 v3 < i32 (l.reverse.length : Int) then f_M_letter_L104 FU (v3, pl27 l.reverse, (l.reverse.length : Int) - 1, M1) else some (0, M1)) _
    rw [i32_id (x := v3) i3.1 i3.2, i32_id (x := (l.reverse.length : Int)) (by omega) (by omega)]
    have hll : l.reverse.length = l.length := List.length_reverse
    refine wq_if (fun g => ?_) (fun g => wq_some ⟨Or.inl ⟨hcond, fun l' g1 g2 g3 => ?_⟩, Fr.rf⟩)
    · refine wq_m (s_letB hrl hlen e.1 g) (fun q ⟨a1, a2⟩ => ⟨Or.inl ⟨hcond, fun l' g1 g2 g3 => ?_⟩, by rw [a2]; exact Fr.rf⟩)
      rw [a1, huniq l' g1 g3 g2 v3.toNat (by omega)]
      rw [List.getD_eq_getElem?_getD, List.getD_eq_getElem?_getD, List.getElem?_reverse (by omega), hll]
      congr 2
      omega
    · show (0 : Int) = _
      rw [huniq l' g1 g3 g2 v3.toNat (by omega), List.getD_eq_getElem?_getD, List.getElem?_eq_none (by omega)]
      rfl
