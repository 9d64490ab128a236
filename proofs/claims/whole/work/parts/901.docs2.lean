def dcv (k : Int) (x : Int × Int × Int × Int) : Int := if k = -1 then x.1 else if x.1 ≤ k then -1 else if k = 0 then x.2.1 else if k = 1 then x.2.2.1 else x.2.2.2
theorem dcA_rng {P : Int → Int → Int → Prop} {n : Int} {x : Int × Int × Int × Int} (h : dcA P n x) : -1 ≤ x.1 ∧ x.1 ≤ 3 := by
  rcases h with ⟨a, a1, a2, a3, a4⟩ | ⟨a0, ⟨a, b, a1, a2, a3, a4⟩ | ⟨a9, ⟨a, b, c, a1, a2, a3, a4⟩ | ⟨a1, a2⟩⟩⟩
  · rw [a4]; dsimp only; omega
  · rw [a4]; dsimp only; omega
  · rw [a4]; dsimp only; omega
  · rw [a2]; exact ⟨by decide, by decide⟩
theorem dcv_no {k : Int} {x : Int × Int × Int × Int} (hk : -1 ≤ k) (h : x.1 = -1) : dcv k x = -1 := by
  unfold dcv
  by_cases c : k = -1
  · rw [if_pos c, h]
  · rw [if_neg c, if_pos (by omega)]
theorem dcv_un {P : Int → Int → Int → Prop} {n k : Int} (hk : -1 ≤ k) {x y : Int × Int × Int × Int} (h : dcA P n x) (h' : dcA P n y) : dcv k x = dcv k y := by
  obtain ⟨e1, e2⟩ := dcA_un h h'
  by_cases c : x.1 = -1
  · rw [dcv_no hk c, dcv_no hk (e1 ▸ c)]
  · rw [e2 c]
theorem call_doctors {n : Nat} {v1 v2 v3 : Int} (i1 : IR v1) (i2 : IR v2) (i3 : IR v3) : CallOk n (f_BT_doctors v1 v2 v3) (f_M_doctors v1 v2 v3) := by
  refine call_q (fun M r => gA ((1 ≤ v1 ∧ v1 ≤ 99) ∧ (0 ≤ v2 ∧ v2 ≤ 400) ∧ 1 ≤ nP M ∧ -1 ≤ v3 ∧ v3 ≤ 2) (fun r => ∃ x, dcA (aRc M v1 v2) (nP M) x ∧ r = dcv v3 x) r) fdL ((78, 47) :: (rchL ++ sekL)) (fun M r r' hR => gA_un (fun c x y hx hy => ?_)) rfl rfl rfl rfl rfl (fun M hR => ?_) (fun M M1 hR hm hl => ?_)
  · obtain ⟨a, a1, a2⟩ := hx
    obtain ⟨a', b1, b2⟩ := hy
    rw [a2, b2]
    exact dcv_un c.2.2.2.1 a1 b1
  · obtain ⟨h1, h2, h3, -, -, -, -, -, -, h10, -⟩ := id hR
    have hP := h1.1
    have hno : ¬ ((1 ≤ v1 ∧ v1 ≤ 99) ∧ (0 ≤ v2 ∧ v2 ≤ 400) ∧ 1 ≤ nP M ∧ -1 ≤ v3 ∧ v3 ≤ 2) → wq (some ((-1 : Int), M)) (fun q => gA ((1 ≤ v1 ∧ v1 ≤ 99) ∧ (0 ≤ v2 ∧ v2 ≤ 400) ∧ 1 ≤ nP M ∧ -1 ≤ v3 ∧ v3 ≤ 2) (fun r => ∃ x, dcA (aRc M v1 v2) (nP M) x ∧ r = dcv v3 x) q.1 ∧ Cc M q.2 ∧ q.2 48 10 = 0 ∧ Fr fdL M q.2) := fun z => wq_some ⟨Or.inr ⟨z, rfl⟩, h3.2.2, h10.2.2, Fr.rf⟩
    unfold f_BT_doctors
    rw [e_isBreadth M i1, bI_s]
    refine wq_c0 (fun c => hno (fun z => c z.1)) (fun c => ?_)
    rw [i32_id (x := v2) i2.1 i2.2, i32_id (x := 400) (by omega) (by omega), e_count0 h3.1, bI_s, i32_id (x := nP M) (by omega) (by omega), i32_id (x := 1) (by omega) (by omega)]
    refine wq_if (fun d => hno (fun z => by omega)) (fun d => wq_if (fun e => hno (fun z => by omega)) (fun e => wq_if (fun g => ?_) (fun g => hno (fun z => by omega))))
    clear hno
    refine wq_I (s_findDoctors h1 h2 h3 c.1 c.2 (by omega) (by omega)) (fun r M5 ⟨x, ⟨a1, a2, a3⟩, a4, a5⟩ => ?_)
    have a2 : r = x.1 := a2
    have a3 : x.1 ≠ -1 → M5 60 0 = x.2.1 ∧ M5 60 1 = x.2.2.1 ∧ M5 60 2 = x.2.2.2 := a3
    have a4 : Cl M M5 := a4
    have a5 : Fr fdL M M5 := a5
    have hxr := dcA_rng a1
    have h48 : M5 48 10 = 0 := by rw [a5.row 48 rfl]; exact h10.2.2
    subst a2
    have hfin : ∀ y, ((-1 ≤ v3 ∧ v3 ≤ 2) → y = dcv v3 x) → (¬ (-1 ≤ v3 ∧ v3 ≤ 2) → y = -1) → wq (some (y, M5)) (fun q => gA ((1 ≤ v1 ∧ v1 ≤ 99) ∧ (0 ≤ v2 ∧ v2 ≤ 400) ∧ 1 ≤ nP M ∧ -1 ≤ v3 ∧ v3 ≤ 2) (fun r => ∃ x, dcA (aRc M v1 v2) (nP M) x ∧ r = dcv v3 x) q.1 ∧ Cc M q.2 ∧ q.2 48 10 = 0 ∧ Fr fdL M q.2) := by
      intro y hy hy'
      refine wq_some ⟨?_, a4.2.2, h48, a5⟩
      by_cases z : -1 ≤ v3 ∧ v3 ≤ 2
      · exact Or.inl ⟨⟨c, ⟨by omega, by omega⟩, by omega, z⟩, x, a1, hy z⟩
      · exact Or.inr ⟨fun w => z w.2.2.2, hy' z⟩
    have i31 := i3.1
    have i32' := i3.2
    rw [i32_id (x := v3) i3.1 i3.2, i32_id (x := -1) (by omega) (by omega), i32_id (x := x.1) (by omega) (by omega)]
    by_cases g2 : v3 = -1
    · exact wq_e (fun z => z g2) (hfin _ (fun _ => by unfold dcv; rw [if_pos g2]) (fun z => absurd ⟨by omega, by omega⟩ z))
    · refine wq_t g2 (wq_if (fun g3 => hfin _ (fun z => by omega) (fun _ => rfl)) (fun g3 => wq_if (fun g4 => hfin _ (fun _ => by unfold dcv; rw [if_neg g2, if_pos g4]) (fun _ => rfl)) (fun g4 => ?_)))
      obtain ⟨t1, t2, t3⟩ := a3 (by omega)
      rw [e_cell_in (n := 3) M5 rfl (by decide) (by omega) (by omega), bI_s]
      refine hfin _ (fun _ => ?_) (fun z => absurd ⟨by omega, by omega⟩ z)
      unfold dcv
      rw [if_neg g2, if_neg g4]
      obtain e | e | e : v3 = 0 ∨ v3 = 1 ∨ v3 = 2 := by omega
      · subst e; rw [if_pos rfl]; exact t1
      · subst e; rw [if_neg (by decide), if_pos rfl]; exact t2
      · subst e; rw [if_neg (by decide), if_neg (by decide)]; exact t3
  · obtain ⟨h1, h2, h3, -⟩ := id hR
    have hP := h1.1
    have hno : ¬ ((1 ≤ v1 ∧ v1 ≤ 99) ∧ (0 ≤ v2 ∧ v2 ≤ 400) ∧ 1 ≤ nP M ∧ -1 ≤ v3 ∧ v3 ≤ 2) → wq (some ((-1 : Int), M1)) (fun q => gA ((1 ≤ v1 ∧ v1 ≤ 99) ∧ (0 ≤ v2 ∧ v2 ≤ 400) ∧ 1 ≤ nP M ∧ -1 ≤ v3 ∧ v3 ≤ 2) (fun r => ∃ x, dcA (aRc M v1 v2) (nP M) x ∧ r = dcv v3 x) q.1 ∧ Fr ((78, 47) :: (rchL ++ sekL)) M1 q.2) := fun z => wq_some ⟨Or.inr ⟨z, rfl⟩, Fr.rf⟩
    unfold f_M_doctors
    rw [e_in _ i1 (by decide) (by decide) (by decide) (by decide), bI_s]
    refine wq_c0 (fun c => hno (fun z => c z.1)) (fun c => ?_)
    rw [e_in _ i2 (by decide) (by decide) (by decide) (by decide), bI_s]
    refine wq_c0 (fun d => hno (fun z => d z.2.1)) (fun d => ?_)
    rw [e_mP hm, bI_s, i32_id (x := nP M) (by omega) (by omega)]
    refine wq_if (fun e => hno (fun z => by omega)) (fun e => ?_)
    rw [e_in _ i3 (by decide) (by decide) (by decide) (by decide), bI_s]
    refine wq_c1 (fun g => ?_) (fun g => hno (fun z => g z.2.2.2))
    clear hno
    refine wq_V (s_reaches h1 h2 hm c.1 c.2 d.1 d.2) (fun M2 ⟨a1, a2, a3⟩ => ?_)
    refine wq_V (s_seeks h1 a2 a1) (fun M3 ⟨b1, b2⟩ => ?_)
    have F3 : Fr ((78, 47) :: (rchL ++ sekL)) M1 M3 := (a3.cov rfl : Fr ((78, 47) :: (rchL ++ sekL)) M1 M2).tr (b2.cov rfl)
    have hfin : ∀ x y, dcA (aRc M v1 v2) (nP M) x → y = dcv v3 x → wq (some (y, M3)) (fun q => gA ((1 ≤ v1 ∧ v1 ≤ 99) ∧ (0 ≤ v2 ∧ v2 ≤ 400) ∧ 1 ≤ nP M ∧ -1 ≤ v3 ∧ v3 ≤ 2) (fun r => ∃ x, dcA (aRc M v1 v2) (nP M) x ∧ r = dcv v3 x) q.1 ∧ Fr ((78, 47) :: (rchL ++ sekL)) M1 q.2) := fun x y hx hy => wq_some ⟨Or.inl ⟨⟨c, d, by omega, g⟩, x, hx, hy⟩, F3⟩
    rw [i32_id (x := v3) i3.1 i3.2, i32_id (x := -1) (by omega) (by omega)]
    rcases b1 with ⟨x, x1, x2, x3, x4, x5, x6, x7⟩ | ⟨x4, x, x1, x2⟩
    · rw [x4, i32_id (x := x.1) (by omega) (by omega)]
      by_cases g2 : v3 = -1
      · exact wq_e (fun z => z g2) (hfin x _ x1 (by unfold dcv; rw [if_pos g2]))
      · refine wq_t g2 (wq_if (fun g4 => hfin x _ x1 (by unfold dcv; rw [if_neg g2, if_pos g4])) (fun g4 => wq_g (by omega) (hfin x _ x1 ?_)))
        unfold dcv
        rw [if_neg g2, if_neg g4]
        obtain e | e | e : v3 = 0 ∨ v3 = 1 ∨ v3 = 2 := by omega
        · subst e; rw [if_pos rfl]; exact x5
        · subst e; rw [if_neg (by decide), if_pos rfl]; exact x6
        · subst e; rw [if_neg (by decide), if_neg (by decide)]; exact x7
    · rw [x4, i32_id (x := -1) (by omega) (by omega)]
      by_cases g2 : v3 = -1
      · exact wq_e (fun z => z g2) (hfin x _ x1 (dcv_no g.1 x2).symm)
      · exact wq_t g2 (wq_t (by omega) (hfin x _ x1 (dcv_no g.1 x2).symm))
