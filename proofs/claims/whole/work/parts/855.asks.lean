def IR (v : Int) : Prop := -2147483648 ≤ v ∧ v < 2147483648
theorem wq_c0 {α : Type} {c : Prop} [Decidable c] {a b : Option α} {Q : α → Prop} (h1 : ¬ c → wq a Q) (h2 : c → wq b Q) : wq (if i32 (if c then (1 : Int) else 0) = 0 then a else b) Q := by
  by_cases h : c
  · rw [if_pos h]; exact wq_e (by decide) (h2 h)
  · rw [if_neg h]; exact wq_t (by decide) (h1 h)
theorem wq_c1 {α : Type} {c : Prop} [Decidable c] {a b : Option α} {Q : α → Prop} (h1 : c → wq a Q) (h2 : ¬ c → wq b Q) : wq (if ¬ i32 (if c then (1 : Int) else 0) = 0 then a else b) Q := by
  by_cases h : c
  · rw [if_pos h]; exact wq_t (by decide) (h1 h)
  · rw [if_neg h]; exact wq_e (by decide) (h2 h)
theorem g01 {α : Type} {c : Prop} [Decidable c] {M : Mm} {g : Int × Mm → Option α} : gd (i32 (if c then (1 : Int) else 0) = 0 ∨ i32 (if c then (1 : Int) else 0) = 1) (g (if c then 1 else 0, M)) = g (if c then 1 else 0, M) := by
  by_cases h : c
  · simp only [if_pos h]; exact gd_t (Or.inr (by decide))
  · simp only [if_neg h]; exact gd_t (Or.inl (by decide))
theorem e_hasP {V M : Mm} (hT : Tw V) (h : Tc V M) {v : Int} (hv : IR v) : f_Told_hasA 3 0 v M = some (if 0 ≤ v ∧ v < nP V then 1 else 0, M) := by
  have := hT.1
  unfold IR at hv
  unfold f_Told_hasA
  rw [e_count0 h, i32_id (x := 0) (by omega) (by omega), i32_id (x := 2) (by omega) (by omega), i32_id (x := v) (by omega) (by omega), if_neg (by omega), if_neg (by omega), bI_s, i32_id (x := nP V) (by omega) (by omega)]
  by_cases c : v < 0
  · rw [if_pos c, if_neg (by omega)]
  · rw [if_neg c]
    by_cases d : nP V ≤ v
    · rw [if_pos d, if_neg (by omega)]
    · rw [if_neg d, if_pos (by omega)]
theorem e_hasS {V M : Mm} (hT : Tw V) (h : Tc V M) {v : Int} (hv : IR v) : f_Told_hasA 3 1 v M = some (if 0 ≤ v ∧ v < nS V then 1 else 0, M) := by
  have := hT.2.1
  unfold IR at hv
  unfold f_Told_hasA
  rw [e_count1 h, i32_id (x := 1) (by omega) (by omega), i32_id (x := 2) (by omega) (by omega), i32_id (x := v) (by omega) (by omega), if_neg (by omega), if_neg (by omega), bI_s, i32_id (x := nS V) (by omega) (by omega)]
  by_cases c : v < 0
  · rw [if_pos c, if_neg (by omega)]
  · rw [if_neg c]
    by_cases d : nS V ≤ v
    · rw [if_pos d, if_neg (by omega)]
    · rw [if_neg d, if_pos (by omega)]
theorem e_hasW {V M : Mm} (hT : Tw V) (h : Tc V M) {v : Int} (hv : IR v) : f_Told_hasA 3 2 v M = some (if 0 ≤ v ∧ v < nW V then 1 else 0, M) := by
  have := hT.2.2.1
  unfold IR at hv
  unfold f_Told_hasA
  rw [e_count2 h, i32_id (x := 2) (by omega) (by omega), i32_id (x := v) (by omega) (by omega), if_neg (by omega), if_neg (by omega), bI_s, i32_id (x := nW V) (by omega) (by omega)]
  by_cases c : v < 0
  · rw [if_pos c, if_neg (by omega)]
  · rw [if_neg c]
    by_cases d : nW V ≤ v
    · rw [if_pos d, if_neg (by omega)]
    · rw [if_neg d, if_pos (by omega)]
theorem e_isAsked {v : Int} (M : Mm) (hv : IR v) : f_BT_isAsked v M = some (if 0 ≤ v ∧ v ≤ 99999 then 1 else 0, M) := by
  unfold IR at hv
  unfold f_BT_isAsked
  rw [i32_id (x := v) (by omega) (by omega), i32_id (x := 99999) (by omega) (by omega)]
  by_cases c : v < 0
  · rw [if_pos c, if_neg (by omega)]
  · rw [if_neg c]
    by_cases d : 99999 < v
    · rw [if_pos d, if_neg (by omega)]
    · rw [if_neg d, if_pos (by omega)]
theorem e_isBreadth {v : Int} (M : Mm) (hv : IR v) : f_BT_isBreadth v M = some (if 1 ≤ v ∧ v ≤ 99 then 1 else 0, M) := by
  unfold IR at hv
  unfold f_BT_isBreadth
  rw [i32_id (x := v) (by omega) (by omega), i32_id (x := 1) (by omega) (by omega), i32_id (x := 99) (by omega) (by omega)]
  by_cases c : v < 1
  · rw [if_pos c, if_neg (by omega)]
  · rw [if_neg c]
    by_cases d : 99 < v
    · rw [if_pos d, if_neg (by omega)]
    · rw [if_neg d, if_pos (by omega)]
theorem e_in {v a b : Int} (M : Mm) (hv : IR v) (h3 : -1000000 ≤ a) (h4 : a < 1000000) (h5 : -1000000 ≤ b) (h6 : b < 1000000) : f_M_isIn (i32 v) a b M = some (if a ≤ v ∧ v ≤ b then 1 else 0, M) := by
  unfold IR at hv
  rw [i32_id (x := v) (by omega) (by omega), e_isIn M (by omega) (by omega) (by omega) (by omega) (by omega) (by omega)]
theorem ite_iff {α : Type} {p q : Prop} [Decidable p] [Decidable q] (a b : α) (h : p ↔ q) : (if p then a else b) = (if q then a else b) := by
  by_cases c : p
  · rw [if_pos c, if_pos (h.mp c)]
  · rw [if_neg c, if_neg (fun z => c (h.mpr z))]
theorem e_isStreet {V M : Mm} (hT : Tw V) (h : Rm V M) {v : Int} (hv : IR v) : f_M_isStreet v M = some (if 0 ≤ v ∧ v < nS V then 1 else 0, M) := by
  have := hT.2.1
  unfold f_M_isStreet
  rw [e_mS h, bI_s, i32_id (x := nS V - 1) (by omega) (by omega), e_in M hv (by omega) (by omega) (by omega) (by omega), bI_s, g01 (g := fun q => some q), ite_iff 1 0 (show (0 ≤ v ∧ v ≤ nS V - 1) ↔ (0 ≤ v ∧ v < nS V) by omega)]
theorem e_isWalker {V M : Mm} (hT : Tw V) (h : Rm V M) {v : Int} (hv : IR v) : f_M_isWalker v M = some (if 0 ≤ v ∧ v < nW V then 1 else 0, M) := by
  have := hT.2.2.1
  unfold f_M_isWalker
  rw [e_mW h, bI_s, i32_id (x := nW V - 1) (by omega) (by omega), e_in M hv (by omega) (by omega) (by omega) (by omega), bI_s, g01 (g := fun q => some q), ite_iff 1 0 (show (0 ≤ v ∧ v ≤ nW V - 1) ↔ (0 ≤ v ∧ v < nW V) by omega)]
theorem e_isPlace {V M : Mm} (hT : Tw V) (h : Rm V M) {v : Int} (hv : IR v) : f_M_isPlace v M = some (if 0 ≤ v ∧ v < nP V then 1 else 0, M) := by
  have := hT.1
  unfold f_M_isPlace
  rw [e_mP h, bI_s, i32_id (x := nP V - 1) (by omega) (by omega), e_in M hv (by omega) (by omega) (by omega) (by omega), bI_s, g01 (g := fun q => some q), ite_iff 1 0 (show (0 ≤ v ∧ v ≤ nP V - 1) ↔ (0 ≤ v ∧ v < nP V) by omega)]
theorem e_isHour {v : Int} (M : Mm) (hv : IR v) : f_M_isHour v M = some (if 0 ≤ v ∧ v ≤ 99999 then 1 else 0, M) := by
  unfold f_M_isHour
  rw [e_in M hv (by omega) (by omega) (by omega) (by omega), bI_s, g01 (g := fun q => some q)]
/-- an answer that is NONE where a condition fails -/
def gA (c : Prop) (P : Int → Prop) (r : Int) : Prop := (c ∧ P r) ∨ (¬ c ∧ r = -1)
theorem gA_un {c : Prop} {P : Int → Prop} {r r' : Int} (hP : c → ∀ x y, P x → P y → x = y) (h : gA c P r) (h' : gA c P r') : r = r' := by
  rcases h with ⟨h1, h2⟩ | ⟨h1, h2⟩ <;> rcases h' with ⟨g1, g2⟩ | ⟨g1, g2⟩
  · exact hP h1 _ _ h2 g2
  · exact absurd h1 g1
  · exact absurd g1 h1
  · rw [h2, g2]
theorem bzC0 {n : Nat} {V M : Mm} (h : Rl n V M) : bzC M [] := ⟨h.2.2.2.2.2.2.2.2.2.1.2.2, fun k q hq => by simp at hq⟩
theorem rdOk0 : rdOk [] := ⟨by simp, fun q hq => by simp at hq⟩
theorem call_width {n : Nat} {v1 v2 : Int} (i1 : IR v1) (i2 : IR v2) : CallOk n (f_BT_width v1 v2) (f_M_width v1 v2) := by
  refine call_q (fun M r => gA ((0 ≤ v1 ∧ v1 < nS M) ∧ 0 ≤ v2 ∧ v2 ≤ 99999) (fun r => r = wid M v1 v2) r) wcL wsL (fun M r r' _ => gA_un (fun _ x y hx hy => hx.trans hy.symm)) rfl rfl rfl rfl rfl (fun M hR => ?_) (fun M M1 hR hm _ => ?_)
  · obtain ⟨h1, h2, h3, -, -, -, -, -, -, h10, -⟩ := id hR
    unfold f_BT_width
    rw [e_hasS h1 h3.1 i1, bI_s]
    refine wq_c0 (fun c => wq_some ⟨Or.inr ⟨fun z => c z.1, rfl⟩, h3.2.2, h10.2.2, Fr.rf⟩) (fun c => ?_)
    rw [e_isAsked _ i2, bI_s]
    refine wq_c0 (fun d => wq_some ⟨Or.inr ⟨fun z => d z.2, rfl⟩, h3.2.2, h10.2.2, Fr.rf⟩) (fun d => ?_)
    refine wq_I (s_cWidthAt h1 h2 h3 c.1 c.2 d.1 (by omega)) (fun r M2 ⟨a1, a2, a3⟩ => wq_some ⟨Or.inl ⟨⟨c, d⟩, a1⟩, a2.2.2, ?_, a3⟩)
    have a3 : Fr wcL M M2 := a3
    show M2 48 10 = 0
    rw [a3.row 48 rfl]; exact h10.2.2
  · obtain ⟨h1, h2, -⟩ := id hR
    unfold f_M_width
    rw [e_isStreet h1 hm i1, bI_s]
    refine wq_c0 (fun c => wq_some ⟨Or.inr ⟨fun z => c z.1, rfl⟩, Fr.rf⟩) (fun c => ?_)
    rw [e_isHour _ i2, bI_s]
    refine wq_c0 (fun d => wq_some ⟨Or.inr ⟨fun z => d z.2, rfl⟩, Fr.rf⟩) (fun d => ?_)
    exact wq_I (s_mWidthOf h1 h2 hm c.1 c.2 d.1 (by omega)) (fun r M2 ⟨a1, a2, a3⟩ => wq_some ⟨Or.inl ⟨⟨c, d⟩, a1⟩, a3⟩)
theorem isF_tf {P : Int → Prop} {h r : Int} (hh : 0 ≤ h) (hr : isF P h h (-1) r) : (r = -1 ∧ ¬ P h) ∨ (r = h ∧ P h) := by
  rcases hr with ⟨a1, a2⟩ | ⟨a1, a2, a3, a4⟩
  · exact Or.inl ⟨a1, a2 h (Int.le_refl _) (Int.le_refl _)⟩
  · have e : r = h := by omega
    subst e
    exact Or.inr ⟨rfl, a3⟩
theorem call_passes {n : Nat} {v1 v2 v3 : Int} (i1 : IR v1) (i2 : IR v2) (i3 : IR v3) : CallOk n (f_BT_passes v1 v2 v3) (f_M_passes v1 v2 v3) := by
  refine call_q (fun M r => gA ((0 ≤ v1 ∧ v1 < nS M) ∧ (1 ≤ v2 ∧ v2 ≤ 99) ∧ 0 ≤ v3 ∧ v3 ≤ 99999) (fun r => tf r (fre M [] v1 v2 v3)) r) wcL wsL (fun M r r' _ => gA_un (fun _ x y hx hy => tf_un hx hy)) rfl rfl rfl rfl rfl (fun M hR => ?_) (fun M M1 hR hm _ => ?_)
  · obtain ⟨h1, h2, h3, -, -, -, -, -, -, h10, -⟩ := id hR
    unfold f_BT_passes
    rw [e_hasS h1 h3.1 i1, bI_s]
    refine wq_c0 (fun c => wq_some ⟨Or.inr ⟨fun z => c z.1, rfl⟩, h3.2.2, h10.2.2, Fr.rf⟩) (fun c => ?_)
    rw [e_isBreadth _ i2, bI_s]
    refine wq_c0 (fun d => wq_some ⟨Or.inr ⟨fun z => d z.2.1, rfl⟩, h3.2.2, h10.2.2, Fr.rf⟩) (fun d => ?_)
    rw [e_isAsked _ i3, bI_s]
    refine wq_c1 (fun e => ?_) (fun e => wq_some ⟨Or.inr ⟨fun z => e z.2.2, rfl⟩, h3.2.2, h10.2.2, Fr.rf⟩)
    refine wq_I (s_firstPass h1 h2 h3 (bzC0 hR) rdOk0 c.1 c.2 (show -1000000 ≤ v2 by omega) (by omega) e.1 (by omega) (by omega) (by omega)) (fun r M2 ⟨a1, a2, a3⟩ => ?_)
    have a3 : Fr wcL M M2 := a3
    have hb : M2 48 10 = 0 := by rw [a3.row 48 rfl]; exact h10.2.2
    rcases isF_tf e.1 a1 with ⟨b1, b2⟩ | ⟨b1, b2⟩
    · have b1 : r = -1 := b1
      subst b1
      exact wq_e (fun z => z (by decide)) (wq_some ⟨Or.inl ⟨⟨c, d, e⟩, Or.inr ⟨rfl, b2⟩⟩, a2.2.2, hb, a3⟩)
    · have b1 : r = v3 := b1
      rw [b1, i32_id (x := v3) (by omega) (by omega), i32_id (x := -1) (by omega) (by omega)]
      exact wq_t (by omega) (wq_some ⟨Or.inl ⟨⟨c, d, e⟩, Or.inl ⟨rfl, b2⟩⟩, a2.2.2, hb, a3⟩)
  · obtain ⟨h1, h2, -⟩ := id hR
    unfold f_M_passes
    rw [e_isStreet h1 hm i1, bI_s]
    refine wq_c0 (fun c => wq_some ⟨Or.inr ⟨fun z => c z.1, rfl⟩, Fr.rf⟩) (fun c => ?_)
    rw [e_in _ i2 (by omega) (by omega) (by omega) (by omega), bI_s]
    refine wq_c0 (fun d => wq_some ⟨Or.inr ⟨fun z => d z.2.1, rfl⟩, Fr.rf⟩) (fun d => ?_)
    rw [e_isHour _ i3, bI_s]
    refine wq_c1 (fun e => ?_) (fun e => wq_some ⟨Or.inr ⟨fun z => e z.2.2, rfl⟩, Fr.rf⟩)
    refine wq_I (s_isPassed h1 h2 hm c.1 c.2 (show -1000000 ≤ v2 by omega) (by omega) e.1 (by omega)) (fun r M2 ⟨a1, a2, a3⟩ => ?_)
    rcases a1 with ⟨b1, b2⟩ | ⟨b1, b2⟩
    · have b1 : r = 1 := b1
      subst b1
      exact wq_e (by decide) (wq_some ⟨Or.inl ⟨⟨c, d, e⟩, Or.inl ⟨rfl, b2⟩⟩, a3⟩)
    · have b1 : r = 0 := b1
      subst b1
      exact wq_t (by decide) (wq_some ⟨Or.inl ⟨⟨c, d, e⟩, Or.inr ⟨rfl, b2⟩⟩, a3⟩)
theorem call_next {n : Nat} {v1 v2 v3 : Int} (i1 : IR v1) (i2 : IR v2) (i3 : IR v3) : CallOk n (f_BT_next v1 v2 v3) (f_M_next v1 v2 v3) := by
  refine call_q (fun M r => gA ((0 ≤ v1 ∧ v1 < nS M) ∧ (1 ≤ v2 ∧ v2 ≤ 99) ∧ 0 ≤ v3 ∧ v3 ≤ 99999) (fun r => isF (fre M [] v1 v2) v3 (v3 + 400) (-1) r) r) wcL wsL (fun M r r' _ => gA_un (fun _ x y hx hy => isF_un hx hy)) rfl rfl rfl rfl rfl (fun M hR => ?_) (fun M M1 hR hm _ => ?_)
  · obtain ⟨h1, h2, h3, -, -, -, -, -, -, h10, -⟩ := id hR
    unfold f_BT_next
    rw [e_hasS h1 h3.1 i1, bI_s]
    refine wq_c0 (fun c => wq_some ⟨Or.inr ⟨fun z => c z.1, rfl⟩, h3.2.2, h10.2.2, Fr.rf⟩) (fun c => ?_)
    rw [e_isBreadth _ i2, bI_s]
    refine wq_c0 (fun d => wq_some ⟨Or.inr ⟨fun z => d z.2.1, rfl⟩, h3.2.2, h10.2.2, Fr.rf⟩) (fun d => ?_)
    rw [e_isAsked _ i3, bI_s]
    refine wq_c1 (fun e => ?_) (fun e => wq_some ⟨Or.inr ⟨fun z => e z.2.2, rfl⟩, h3.2.2, h10.2.2, Fr.rf⟩)
    refine wq_I (s_firstPass h1 h2 h3 (bzC0 hR) rdOk0 c.1 c.2 (show -1000000 ≤ v2 by omega) (by omega) e.1 (by omega) (show -1000 ≤ v3 + 400 by omega) (by omega)) (fun r M2 ⟨a1, a2, a3⟩ => wq_some ⟨Or.inl ⟨⟨c, d, e⟩, a1⟩, a2.2.2, ?_, a3⟩)
    have a3 : Fr wcL M M2 := a3
    show M2 48 10 = 0
    rw [a3.row 48 rfl]; exact h10.2.2
  · obtain ⟨h1, h2, -⟩ := id hR
    unfold f_M_next
    rw [e_isStreet h1 hm i1, bI_s]
    refine wq_c0 (fun c => wq_some ⟨Or.inr ⟨fun z => c z.1, rfl⟩, Fr.rf⟩) (fun c => ?_)
    rw [e_in _ i2 (by omega) (by omega) (by omega) (by omega), bI_s]
    refine wq_c0 (fun d => wq_some ⟨Or.inr ⟨fun z => d z.2.1, rfl⟩, Fr.rf⟩) (fun d => ?_)
    rw [e_isHour _ i3, bI_s]
    refine wq_c1 (fun e => ?_) (fun e => wq_some ⟨Or.inr ⟨fun z => e z.2.2, rfl⟩, Fr.rf⟩)
    have hS := h1.2.1
    unfold f_M_next_L32
    refine wq_lp (fun z => z.1 = v1 ∧ z.2.1 = v2 ∧ z.2.2.1 = v3 ∧ (v3 ≤ z.2.2.2.1 ∧ z.2.2.2.1 ≤ v3 + 401) ∧ (∀ k : Int, v3 ≤ k → k < z.2.2.2.1 → ¬ fre M [] v1 v2 k) ∧ Rm M z.2.2.2.2 ∧ Fr wsL M1 z.2.2.2.2) (fun z => (v3 + 402 - z.2.2.2.1).toNat) ?_ FU _ ?_ ?_
    · rintro kH ⟨u1, u2, u3, u4, N⟩ ⟨q1, q2, q3, q4, q5, q6, q7⟩ hk
      have e1 : u1 = v1 := q1
      have e2 : u2 = v2 := q2
      have e3 : u3 = v3 := q3
      have e4 : v3 ≤ u4 ∧ u4 ≤ v3 + 401 := q4
      have e5 : ∀ k : Int, v3 ≤ k → k < u4 → ¬ fre M [] v1 v2 k := q5
      have e6 : Rm M N := q6
      have e7 : Fr wsL M1 N := q7
      clear q1 q2 q3 q4 q5 q6 q7
      show wq (f_M_next_B32 (fun v1 v2 v3 v4 M => kH (v1, v2, v3, v4, M)) u1 u2 u3 u4 N) _
      rw [e1, e2, e3]
      unfold f_M_next_B32
      rw [i32_id (x := v3 + 400) (by omega) (by omega), i32_id (x := u4) (by omega) (by omega)]
      refine wq_if (fun g => wq_some ⟨Or.inl ⟨⟨c, d, e⟩, Or.inl ⟨rfl, fun k k1 k2 => e5 k k1 (by omega)⟩⟩, e7⟩) (fun g => ?_)
      refine wq_I (s_isPassed h1 h2 e6 c.1 c.2 (show -1000000 ≤ v2 by omega) (by omega) (show 0 ≤ u4 by omega) (by omega)) (fun r M2 ⟨a1, a2, a3⟩ => ?_)
      rcases a1 with ⟨b1, b2⟩ | ⟨b1, b2⟩
      · have b1 : r = 1 := b1
        subst b1
        exact wq_e (by decide) (wq_some ⟨Or.inl ⟨⟨c, d, e⟩, Or.inr ⟨e4.1, by show u4 ≤ _; omega, b2, e5⟩⟩, e7.tr a3⟩)
      · have b1 : r = 0 := b1
        subst b1
        refine wq_t (by decide) (hk _ ⟨rfl, rfl, rfl, ⟨show v3 ≤ u4 + 1 by omega, show u4 + 1 ≤ v3 + 401 by omega⟩, fun k k1 k2 => ?_, a2, e7.tr a3⟩ (show (v3 + 402 - (u4 + 1)).toNat < (v3 + 402 - u4).toNat by omega))
        have k2 : k < u4 + 1 := k2
        by_cases ek : k = u4
        · subst ek; exact b2
        · exact e5 k k1 (by omega)
    · exact ⟨rfl, rfl, rfl, ⟨Int.le_refl _, by show v3 ≤ v3 + 401; omega⟩, fun k k1 k2 => absurd k2 (by show ¬ k < v3; omega), hm, Fr.rf⟩
    · show (v3 + 402 - v3).toNat < 1000000000
      omega
