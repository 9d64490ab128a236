theorem e_qfloor {a b : Int} (M : Mm) (ha1 : -1000000 ≤ a) (ha2 : a ≤ 1000000) (hb1 : -1000000 ≤ b) (hb2 : b ≤ 1000000) : f_M_qFloor a b M = some (fdv a b, M) := by
  unfold f_M_qFloor
  by_cases g : b = 0
  · subst g
    rw [if_neg (fun q => q ((c64_eq (by omega) (by omega) (by omega) (by omega)).mpr rfl))]
    unfold fdv
    rw [if_pos rfl]
  · have hq : -1000000 ≤ a.tdiv b ∧ a.tdiv b ≤ 1000000 := by
      have h : (a.tdiv b).natAbs ≤ 1000000 := by
        rw [Int.natAbs_tdiv]
        exact Nat.le_trans (Nat.div_le_self _ _) (by omega)
      omega
    have hr : -1000000 ≤ a.tmod b ∧ a.tmod b ≤ 1000000 := by
      have h : (a.tmod b).natAbs ≤ 1000000 := by
        rw [Int.natAbs_tmod]
        exact Nat.le_trans (Nat.mod_le _ _) (by omega)
      omega
    have ea : i64 a = a := i64_id (by omega) (by omega)
    have eb : i64 b = b := i64_id (by omega) (by omega)
    rw [if_pos (fun q => g ((c64_eq (by omega) (by omega) (by omega) (by omega)).mp q)), eb, gd_t g, gd_t g, ea]
    have hf := fdv_tdiv (a := a) g
    have k43 : ∀ s0 s1 : Int, (s0 = 0 ∨ s0 = 1) → (s1 = 0 ∨ s1 = 1) → f_M_qFloor_J43 (a.tdiv b) s0 s1 M = some (if s1 = s0 then a.tdiv b else a.tdiv b - 1, M) := by
      intro s0 s1 h0 h1
      unfold f_M_qFloor_J43
      rcases h0 with rfl | rfl <;> rcases h1 with rfl | rfl <;> simp [i32_id]
    have k32 : ∀ s0 : Int, (s0 = 0 ∨ s0 = 1) → f_M_qFloor_J32 b (a.tdiv b) s0 M = some (if s0 = (if b < 0 then 1 else 0) then a.tdiv b else a.tdiv b - 1, M) := by
      intro s0 h0
      unfold f_M_qFloor_J32
      by_cases hb : b < 0
      · rw [if_neg (fun q => absurd ((c64_ge (by omega) (by omega) (by omega) (by omega)).mp q) (by omega)), k43 1 s0 (Or.inr rfl) h0, if_pos hb]
      · rw [if_pos ((c64_ge (by omega) (by omega) (by omega) (by omega)).mpr (by omega)), k43 0 s0 (Or.inl rfl) h0, if_neg hb]
    by_cases gr : a.tmod b = 0
    · rw [if_pos ((c64_eq (by omega) (by omega) (by omega) (by omega)).mpr gr), hf, if_neg (fun q => q.1 gr)]
    · rw [if_neg (fun q => gr ((c64_eq (by omega) (by omega) (by omega) (by omega)).mp q))]
      by_cases g0 : 0 ≤ a
      · rw [if_pos ((c64_ge (by omega) (by omega) (by omega) (by omega)).mpr g0), k32 0 (Or.inl rfl), hf]
        by_cases hb : b < 0
        · rw [if_pos hb, if_neg (by decide), if_pos ⟨gr, by omega⟩]
        · rw [if_neg hb, if_pos rfl, if_neg (fun q => q.2 (by omega))]
      · rw [if_neg (fun q => g0 ((c64_ge (by omega) (by omega) (by omega) (by omega)).mp q)), k32 1 (Or.inr rfl), hf]
        by_cases hb : b < 0
        · rw [if_pos hb, if_pos rfl, if_neg (fun q => q.2 (by omega))]
        · rw [if_neg hb, if_neg (by decide), if_pos ⟨gr, by omega⟩]
theorem e_qclip {v : Int} (M : Mm) (h1 : -9223372036854775808 ≤ v) (h2 : v < 9223372036854775808) : f_M_qClip v M = some (clp v, M) := by
  unfold f_M_qClip clp
  by_cases g1 : 1000000 < v
  · rw [if_neg (fun q => absurd ((c64_le h1 h2 (by decide) (by decide)).mp q) (by omega)), if_pos g1]
  · rw [if_pos ((c64_le h1 h2 (by decide) (by decide)).mpr (by omega)), if_neg g1]
    by_cases g2 : v < -1000000
    · rw [if_neg (fun q => absurd ((c64_ge h1 h2 (by decide) (by decide)).mp q) (by omega)), if_pos g2]
    · rw [if_pos ((c64_ge h1 h2 (by decide) (by decide)).mpr (by omega)), if_neg g2]
theorem e_qputs {v : Int} (M : Mm) (h1 : 0 ≤ M 78 95) (h2 : M 78 95 < 1700) : f_M_qPuts v M = some (up (up M 144 (M 78 95).toNat v) 78 95 (M 78 95 + 1)) := by
  unfold f_M_qPuts
  rw [i32_id (by omega) (by omega), gd_t (by omega), bd_s, bd_s, up_row (by decide : ¬ (78 = 144))]
/-- the pile behind a step -/
def pilq (M : Mm) (st : List Int) : Prop := M 78 95 = (st.length : Int) ∧ stk (M 144) st
theorem pilq_push {M : Mm} {st : List Int} {v : Int} (h : pilq M st) : pilq (up (up M 144 (M 78 95).toNat v) 78 95 (M 78 95 + 1)) (v :: st) := by
  obtain ⟨h1, h2⟩ := h
  refine ⟨by rw [up_eq, h1]; simp, ?_⟩
  rw [up_row (by decide : ¬ (144 = 78)), show (M 78 95).toNat = st.length by omega]
  exact stk_push h2
theorem s_qjoins {v a b : Int} {st : List Int} {M : Mm} (hv : 1 ≤ v ∧ v ≤ 11) (h : pilq M (b :: a :: st)) (hl : st.length < 1600) (ha1 : -1000000 ≤ a) (ha2 : a ≤ 1000000) (hb1 : -1000000 ≤ b) (hb2 : b ≤ 1000000) : wq (f_M_qJoins v M) (fun M' => pilq M' (jq v a b :: st) ∧ Fr [(78, 95), (144, 99999)] M M') := by
  obtain ⟨h1, h2⟩ := h
  have h1 : M 78 95 = (st.length : Int) + 2 := by rw [h1]; simp; omega
  have hb : M 144 (i32 ((M 78 95) - 1)).toNat = b := by
    rw [i32_id (by omega) (by omega), show ((M 78 95) - 1).toNat = st.length + 1 by omega]; exact h2.1
  have ha : M 144 (i32 ((M 78 95) - 2)).toNat = a := by
    rw [i32_id (by omega) (by omega), show ((M 78 95) - 2).toNat = st.length by omega]; exact h2.2.1
  have hp : pilq (up M 78 95 ((M 78 95) - 2)) st := ⟨by rw [up_eq]; omega, by rw [up_row (by decide : ¬ (144 = 78))]; exact h2.2.2⟩
  have hfin : ∀ w : Int, wq (bV (f_M_qPuts w (up M 78 95 ((M 78 95) - 2))) (fun M5 => some M5)) (fun M' => pilq M' (w :: st) ∧ Fr [(78, 95), (144, 99999)] M M') := by
    intro w
    rw [e_qputs _ (by rw [up_eq]; omega) (by rw [up_eq]; omega), bV_s]
    exact wq_some ⟨pilq_push hp, ((Fr.rf.up (by simp)).up (by simp)).up (by simp)⟩
  have hm := mul_rng ha1 ha2 hb1 hb2
  have q64 : ∀ x : Int, -3000000 ≤ x → x ≤ 3000000 → -9223372036854775808 ≤ x ∧ x < 9223372036854775808 := fun x _ _ => by omega
  unfold f_M_qJoins
  rw [ha, hb, i32_id (x := v) (by omega) (by omega)]
  refine wq_g (by rw [i32_id (by omega) (by omega)]; omega) (wq_g (by rw [i32_id (by omega) (by omega)]; omega) (wq_d ?_))
  by_cases c1 : v = 1
  · have hj : jq v a b = clp (a + b) := by
      unfold jq jn
      rw [if_pos (show v ≤ 6 by omega), if_pos c1]
    rw [hj]
    rw [if_pos c1, e_qclip _ (by omega) (by omega), bI_s]; exact hfin _
  by_cases c2 : v = 2
  · have hj : jq v a b = clp (a - b) := by
      unfold jq jn
      rw [if_pos (show v ≤ 6 by omega), if_neg c1, if_pos c2]
    rw [hj]
    rw [if_neg c1, if_pos c2, e_qclip _ (by omega) (by omega), bI_s]; exact hfin _
  by_cases c3 : v = 3
  · have hj : jq v a b = clp (a * b) := by
      unfold jq jn
      rw [if_pos (show v ≤ 6 by omega), if_neg c1, if_neg c2, if_pos c3]
    rw [hj]
    rw [if_neg c1, if_neg c2, if_pos c3, e_qclip _ (by omega) (by omega), bI_s]; exact hfin _
  by_cases c4 : v = 4
  · have hj : jq v a b = fdv a b := by
      unfold jq jn
      rw [if_pos (show v ≤ 6 by omega), if_neg c1, if_neg c2, if_neg c3, if_pos c4]
    rw [hj]
    rw [if_neg c1, if_neg c2, if_neg c3, if_pos c4, e_qfloor _ ha1 ha2 hb1 hb2, bI_s]; exact hfin _
  by_cases c5 : v = 5
  · have hj : jq v a b = (if a < b then a else b) := by
      unfold jq jn
      rw [if_pos (show v ≤ 6 by omega), if_neg c1, if_neg c2, if_neg c3, if_neg c4, if_pos c5]
    rw [hj]
    rw [if_neg c1, if_neg c2, if_neg c3, if_neg c4, if_pos c5]
    by_cases g : a < b
    · rw [if_neg (fun q => absurd ((c64_ge (by omega) (by omega) (by omega) (by omega)).mp q) (by omega)), if_pos g]; exact hfin _
    · rw [if_pos ((c64_ge (by omega) (by omega) (by omega) (by omega)).mpr (by omega)), if_neg g]; exact hfin _
  by_cases c6 : v = 6
  · have hj : jq v a b = (if b < a then a else b) := by
      unfold jq jn
      rw [if_pos (show v ≤ 6 by omega), if_neg c1, if_neg c2, if_neg c3, if_neg c4, if_neg c5]
    rw [hj]
    rw [if_neg c1, if_neg c2, if_neg c3, if_neg c4, if_neg c5, if_pos c6]
    by_cases g : b < a
    · rw [if_neg (fun q => absurd ((c64_le (by omega) (by omega) (by omega) (by omega)).mp q) (by omega)), if_pos g]; exact hfin _
    · rw [if_pos ((c64_le (by omega) (by omega) (by omega) (by omega)).mpr (by omega)), if_neg g]; exact hfin _
  by_cases c7 : v = 7
  · have hj : jq v a b = (if a < b then 1 else 0) := by
      unfold jq
      rw [if_neg (show ¬ v ≤ 6 by omega), if_pos c7]
    rw [hj]
    rw [if_neg c1, if_neg c2, if_neg c3, if_neg c4, if_neg c5, if_neg c6, if_pos c7]
    by_cases g : a < b
    · rw [if_neg (fun q => absurd ((c64_ge (by omega) (by omega) (by omega) (by omega)).mp q) (by omega)), if_pos g]; exact hfin _
    · rw [if_pos ((c64_ge (by omega) (by omega) (by omega) (by omega)).mpr (by omega)), if_neg g]; exact hfin _
  by_cases c8 : v = 8
  · have hj : jq v a b = (if b < a then 1 else 0) := by
      unfold jq
      rw [if_neg (show ¬ v ≤ 6 by omega), if_neg c7, if_pos c8]
    rw [hj]
    rw [if_neg c1, if_neg c2, if_neg c3, if_neg c4, if_neg c5, if_neg c6, if_neg c7, if_pos c8]
    by_cases g : b < a
    · rw [if_neg (fun q => absurd ((c64_le (by omega) (by omega) (by omega) (by omega)).mp q) (by omega)), if_pos g]; exact hfin _
    · rw [if_pos ((c64_le (by omega) (by omega) (by omega) (by omega)).mpr (by omega)), if_neg g]; exact hfin _
  by_cases c9 : v = 9
  · have hj : jq v a b = (if a = b then 1 else 0) := by
      unfold jq
      rw [if_neg (show ¬ v ≤ 6 by omega), if_neg c7, if_neg c8, if_pos c9]
    rw [hj]
    rw [if_neg c1, if_neg c2, if_neg c3, if_neg c4, if_neg c5, if_neg c6, if_neg c7, if_neg c8, if_pos c9]
    by_cases g : a = b
    · rw [if_neg (fun q => q ((c64_eq (by omega) (by omega) (by omega) (by omega)).mpr g)), if_pos g]; exact hfin _
    · rw [if_pos (fun q => g ((c64_eq (by omega) (by omega) (by omega) (by omega)).mp q)), if_neg g]; exact hfin _
  by_cases c10 : v = 10
  · have hj : jq v a b = a * b := by
      unfold jq
      rw [if_neg (show ¬ v ≤ 6 by omega), if_neg c7, if_neg c8, if_neg c9, if_pos c10]
    rw [hj]
    rw [if_neg c1, if_neg c2, if_neg c3, if_neg c4, if_neg c5, if_neg c6, if_neg c7, if_neg c8, if_neg c9, if_pos c10]; exact hfin _
  have hj : jq v a b = (if 0 < a + b then 1 else 0) := by
    unfold jq
    rw [if_neg (show ¬ v ≤ 6 by omega), if_neg c7, if_neg c8, if_neg c9, if_neg c10]
  rw [hj, if_neg c1, if_neg c2, if_neg c3, if_neg c4, if_neg c5, if_neg c6, if_neg c7, if_neg c8, if_neg c9, if_neg c10]
  by_cases g : 0 < a + b
  · rw [if_neg (fun q => absurd ((c64_le (by omega) (by omega) (by omega) (by omega)).mp q) (by omega)), if_pos g]; exact hfin _
  · rw [if_pos ((c64_le (by omega) (by omega) (by omega) (by omega)).mpr (by omega)), if_neg g]; exact hfin _
/-- what the reference asks of a number -/
def qtL : List (Nat × Nat) := [(78, 43), (106, 99999), (107, 99999), (78, 95), (144, 99999)]
theorem s_passedBy {V M : Mm} (hT : Tw V) (hN : Nw V) (h : Rm V M) {w i : Int} (h1 : 0 ≤ w) (h2 : w < nW V) (h3 : 0 ≤ i) (h4 : i ≤ 200000) : wq (f_M_passedBy w i M) (fun q => q.1 = psd V w i ∧ Rm V q.2 ∧ Fr wsL M q.2) := by
  have hS := hT.2.1
  have hW := hT.2.2.1
  have hb := (hT.2.2.2.2 w h1 h2).1
  unfold f_M_passedBy f_M_passedBy_L5
  refine wq_lp (fun z => z.1 = w ∧ z.2.1 = i ∧ (0 ≤ z.2.2.2.1 ∧ z.2.2.2.1 ≤ nS V) ∧ isC (fun s => fre V [] s (br V w) i) 0 z.2.2.2.1.toNat z.2.2.1 ∧ Rm V z.2.2.2.2 ∧ Fr wsL M z.2.2.2.2) (fun z => (nS V - z.2.2.2.1).toNat) ?_ FU _ ⟨rfl, rfl, ⟨Int.le_refl _, by show 0 ≤ nS V; omega⟩, show isC (fun s => fre V [] s (br V w) i) 0 (0 : Int).toNat 0 from rfl, h, Fr.rf⟩ ?_
  · rintro kH ⟨v1, v2, v3, v4, N⟩ ⟨q1, q2, q3, q4, q5, q6⟩ hk
    have q1 : v1 = w := q1
    have q2 : v2 = i := q2
    subst q1 q2
    have a3 : 0 ≤ v4 ∧ v4 ≤ nS V := q3
    have a4 : isC (fun s => fre V [] s (br V v1) v2) 0 v4.toNat v3 := q4
    have a5 : Rm V N := q5
    have a6 : Fr wsL M N := q6
    clear q3 q4 q5 q6
    have hr := isC_rng _ _ a4
    show wq (f_M_passedBy_B5 (fun v1 v2 v3 v4 M => kH (v1, v2, v3, v4, M)) v1 v2 v3 v4 N) _
    unfold f_M_passedBy_B5
    rw [e_mS a5, bI_s, i32_id (x := nS V) (by omega) (by omega), i32_id (x := v4) (by omega) (by omega), i32_id (x := v3) (by omega) (by omega)]
    refine wq_if (fun c => wq_some ⟨?_, a5, a6⟩) (fun c => ?_)
    · rw [show v4.toNat = (nS V).toNat by omega] at a4
      exact isC_un _ _ _ a4 (psd_is V v1 v2)
    · rw [e_broad a5 h1 (by omega), bI_s]
      have en : (v4 + 1).toNat = v4.toNat + 1 := by omega
      have ea : 0 + ((v4.toNat : Nat) : Int) = v4 := by omega
      have hnx : ∀ x M', Rm V M' → Fr wsL M M' → isC (fun s => fre V [] s (br V v1) v2) 0 (v4.toNat + 1) x → wq (kH (v1, v2, x, v4 + 1, M')) (fun q => q.1 = psd V v1 v2 ∧ Rm V q.2 ∧ Fr wsL M q.2) := fun x M' z1 z2 z3 => hk _ ⟨rfl, rfl, ⟨show 0 ≤ v4 + 1 by omega, show v4 + 1 ≤ nS V by omega⟩, (by show isC _ 0 (v4 + 1).toNat x; rw [en]; exact z3), z1, z2⟩ (show (nS V - (v4 + 1)).toNat < (nS V - v4).toNat by omega)
      refine wq_I (s_isPassed hT hN a5 a3.1 (by omega) (by omega) (by omega) h3 (by omega)) (fun r M2 ⟨b1, b2, b3⟩ => ?_)
      rcases b1 with ⟨b4, b5⟩ | ⟨b4, b5⟩
      · have b4 : r = 1 := b4
        rw [b4]
        exact wq_e (by decide) (hnx _ _ b2 (a6.tr b3) ⟨v3, a4, Or.inl ⟨by rw [ea]; exact b5, rfl⟩⟩)
      · have b4 : r = 0 := b4
        rw [b4]
        exact wq_t (by decide) (hnx _ _ b2 (a6.tr b3) ⟨v3, a4, Or.inr ⟨by rw [ea]; exact b5, rfl⟩⟩)
  · show (nS V - 0).toNat < 1000000000
    omega
theorem s_qOf {V M : Mm} (hT : Tw V) (hN : Nw V) (h : Rm V M) {k n i : Int} (hk : 0 ≤ k ∧ k ≤ 2) (hn : -1000000 ≤ n ∧ n ≤ 1000000) (h3 : 0 ≤ i) (h4 : i ≤ 200000) : wq (f_M_qOf k n i M) (fun q => q.1 = ofq V k n i ∧ Rm V q.2 ∧ Fr wsL M q.2) := by
  have hS := hT.2.1
  have hW := hT.2.2.1
  unfold f_M_qOf ofq
  rw [i32_id (x := k) (by omega) (by omega)]
  have hin : ∀ (x : Int), 0 ≤ x → x ≤ 12 → f_M_isIn n 0 (i32 (x - 1)) M = some (if 0 ≤ n ∧ n < x then 1 else 0, M) := by
    intro x x1 x2
    rw [i32_id (x := x - 1) (by omega) (by omega), e_isIn M (by omega) (by omega) (by omega) (by omega) (by omega) (by omega)]
    by_cases c : 0 ≤ n ∧ n < x
    · rw [if_pos c, if_pos (by omega)]
    · rw [if_neg c, if_neg (by omega)]
  refine wq_if (fun c => ?_) (fun c => wq_if (fun c2 => ?_) (fun c2 => ?_))
  · rw [if_pos c, e_mS h, bI_s, hin _ (by omega) (by omega), bI_s]
    by_cases d : 0 ≤ n ∧ n < nS V
    · rw [if_pos d, if_pos d]
      refine wq_e (by decide) (wq_I (s_mWidthOf hT hN h d.1 d.2 h3 (by omega)) (fun r M2 ⟨a1, a2, a3⟩ => wq_some ⟨?_, a2, a3⟩))
      have a1 : r = wid V n i := a1
      have := wid_rng V n i
      show i32 r = _
      rw [a1, i32_id (by omega) (by omega)]
    · rw [if_neg d, if_neg d]
      exact wq_t (by decide) (wq_some ⟨rfl, h, Fr.rf⟩)
  · rw [if_neg c, if_pos c2, e_mS h, bI_s, hin _ (by omega) (by omega), bI_s]
    by_cases d : 0 ≤ n ∧ n < nS V
    · rw [if_pos d, if_pos d]
      have hs := hN.2.1 n d.1 d.2
      have hr := (hT.2.2.2.1 n d.1 d.2).2.2.2.2.1
      have z1 := Int.emod_nonneg (i + sf V n) (show rd V n ≠ 0 by omega)
      have z2 := Int.emod_lt_of_pos (i + sf V n) (show 0 < rd V n by omega)
      rw [e_shift h d.1 (by omega), bI_s, e_tide h d.1 (by omega) hr.1 hr.2 h3 (by omega) hs.1 (by omega), bI_s]
      refine wq_e (by decide) (wq_some ⟨?_, h, Fr.rf⟩)
      show i32 ((i + sf V n) % rd V n) = _
      rw [i32_id (by omega) (by omega)]
    · rw [if_neg d, if_neg d]
      exact wq_t (by decide) (wq_some ⟨rfl, h, Fr.rf⟩)
  · rw [if_neg c, if_neg c2, e_mW h, bI_s, hin _ (by omega) (by omega), bI_s]
    by_cases d : 0 ≤ n ∧ n < nW V
    · rw [if_pos d, if_pos d]
      exact wq_e (by decide) (wq_I (s_passedBy hT hN h d.1 d.2 h3 h4) (fun r M2 ⟨a1, a2, a3⟩ => wq_some ⟨a1, a2, a3⟩))
    · rw [if_neg d, if_neg d]
      exact wq_t (by decide) (wq_some ⟨rfl, h, Fr.rf⟩)
