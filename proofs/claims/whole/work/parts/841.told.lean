theorem e_floor {a b : Int} (M : Mm) (ha1 : -1000000 ≤ a) (ha2 : a ≤ 1000000) (hb1 : -1000000 ≤ b) (hb2 : b ≤ 1000000) : f_M_floor a b M = some (fdv a b, M) := by
  unfold f_M_floor
  by_cases g : b = 0
  · subst g
    rw [if_neg (fun q => q ((c64_eq (by omega) (by omega) (by omega) (by omega)).mpr rfl))]
    unfold fdv
    rw [if_pos rfl]
  · have hq : -1000000 ≤ a.tdiv b ∧ a.tdiv b ≤ 1000000 := by
      have h : (a.tdiv b).natAbs ≤ 1000000 := by
        rw [Int.natAbs_tdiv]
        exact Nat.le_trans (Nat.div_le_self _ _) (by omega)
      omega
    have hr : -1000000 ≤ a.tmod b ∧ a.tmod b ≤ 1000000 := by
      have h : (a.tmod b).natAbs ≤ 1000000 := by
        rw [Int.natAbs_tmod]
        exact Nat.le_trans (Nat.mod_le _ _) (by omega)
      omega
    have ea : i64 a = a := i64_id (by omega) (by omega)
    have eb : i64 b = b := i64_id (by omega) (by omega)
    rw [if_pos (fun q => g ((c64_eq (by omega) (by omega) (by omega) (by omega)).mp q)), eb, gd_t g, gd_t g, ea]
    have hf := fdv_tdiv (a := a) g
    have k43 : ∀ s0 s1 : Int, (s0 = 0 ∨ s0 = 1) → (s1 = 0 ∨ s1 = 1) → f_M_floor_J43 (a.tdiv b) s0 s1 M = some (if s1 = s0 then a.tdiv b else a.tdiv b - 1, M) := by
      intro s0 s1 h0 h1
      unfold f_M_floor_J43
      rcases h0 with rfl | rfl <;> rcases h1 with rfl | rfl <;> simp [i32_id]
    have k32 : ∀ s0 : Int, (s0 = 0 ∨ s0 = 1) → f_M_floor_J32 b (a.tdiv b) s0 M = some (if s0 = (if b < 0 then 1 else 0) then a.tdiv b else a.tdiv b - 1, M) := by
      intro s0 h0
      unfold f_M_floor_J32
      by_cases hb : b < 0
      · rw [if_neg (fun q => absurd ((c64_ge (by omega) (by omega) (by omega) (by omega)).mp q) (by omega)), k43 1 s0 (Or.inr rfl) h0, if_pos hb]
      · rw [if_pos ((c64_ge (by omega) (by omega) (by omega) (by omega)).mpr (by omega)), k43 0 s0 (Or.inl rfl) h0, if_neg hb]
    by_cases gr : a.tmod b = 0
    · rw [if_pos ((c64_eq (by omega) (by omega) (by omega) (by omega)).mpr gr), hf, if_neg (fun q => q.1 gr)]
    · rw [if_neg (fun q => gr ((c64_eq (by omega) (by omega) (by omega) (by omega)).mp q))]
      by_cases g0 : 0 ≤ a
      · rw [if_pos ((c64_ge (by omega) (by omega) (by omega) (by omega)).mpr g0), k32 0 (Or.inl rfl), hf]
        by_cases hb : b < 0
        · rw [if_pos hb, if_neg (by decide), if_pos ⟨gr, by omega⟩]
        · rw [if_neg hb, if_pos rfl, if_neg (fun q => q.2 (by omega))]
      · rw [if_neg (fun q => g0 ((c64_ge (by omega) (by omega) (by omega) (by omega)).mp q)), k32 1 (Or.inr rfl), hf]
        by_cases hb : b < 0
        · rw [if_pos hb, if_pos rfl, if_neg (fun q => q.2 (by omega))]
        · rw [if_neg hb, if_neg (by decide), if_pos ⟨gr, by omega⟩]
theorem e_puts {v : Int} (M : Mm) (h1 : 0 ≤ M 78 43) (h2 : M 78 43 < 1700) : f_M_puts v M = some (up (up M 106 (M 78 43).toNat v) 78 43 (M 78 43 + 1)) := by
  unfold f_M_puts
  rw [i32_id (by omega) (by omega), gd_t (by omega), bd_s, bd_s, up_row (by decide : ¬ (78 = 106))]
/-- the pile behind a step -/
def pil (M : Mm) (st : List Int) : Prop := M 78 43 = (st.length : Int) ∧ stk (M 106) st
theorem pil_push {M : Mm} {st : List Int} {v : Int} (h : pil M st) : pil (up (up M 106 (M 78 43).toNat v) 78 43 (M 78 43 + 1)) (v :: st) := by
  obtain ⟨h1, h2⟩ := h
  refine ⟨by rw [up_eq, h1]; simp, ?_⟩
  rw [up_row (by decide : ¬ (106 = 78)), show (M 78 43).toNat = st.length by omega]
  exact stk_push h2
theorem s_joins {v a b : Int} {st : List Int} {M : Mm} (hv : 1 ≤ v ∧ v ≤ 6) (h : pil M (b :: a :: st)) (hl : st.length < 1600) (ha1 : -1000000 ≤ a) (ha2 : a ≤ 1000000) (hb1 : -1000000 ≤ b) (hb2 : b ≤ 1000000) : wq (f_M_joins v M) (fun M' => pil M' (jn v a b :: st) ∧ Fr [(78, 43), (106, 99999)] M M') := by
  obtain ⟨h1, h2⟩ := h
  have h1 : M 78 43 = (st.length : Int) + 2 := by rw [h1]; simp; omega
  have hb : M 106 (i32 ((M 78 43) - 1)).toNat = b := by
    rw [i32_id (by omega) (by omega), show ((M 78 43) - 1).toNat = st.length + 1 by omega]; exact h2.1
  have ha : M 106 (i32 ((M 78 43) - 2)).toNat = a := by
    rw [i32_id (by omega) (by omega), show ((M 78 43) - 2).toNat = st.length by omega]; exact h2.2.1
  have hp : pil (up M 78 43 ((M 78 43) - 2)) st := ⟨by rw [up_eq]; omega, by rw [up_row (by decide : ¬ (106 = 78))]; exact h2.2.2⟩
  have hfin : ∀ w : Int, wq (bV (f_M_puts w (up M 78 43 ((M 78 43) - 2))) (fun M5 => some M5)) (fun M' => pil M' (w :: st) ∧ Fr [(78, 43), (106, 99999)] M M') := by
    intro w
    rw [e_puts _ (by rw [up_eq]; omega) (by rw [up_eq]; omega), bV_s]
    exact wq_some ⟨pil_push hp, ((Fr.rf.up (by simp)).up (by simp)).up (by simp)⟩
  have hm := mul_rng ha1 ha2 hb1 hb2
  unfold f_M_joins
  rw [ha, hb, i32_id (x := v) (by omega) (by omega)]
  refine wq_g (by rw [i32_id (by omega) (by omega)]; omega) (wq_g (by rw [i32_id (by omega) (by omega)]; omega) (wq_d ?_))
  unfold jn
  by_cases c1 : v = 1
  · rw [if_pos c1, if_pos c1, e_clip _ (by omega) (by omega), bI_s]; exact hfin _
  rw [if_neg c1, if_neg c1]
  by_cases c2 : v = 2
  · rw [if_pos c2, if_pos c2, e_clip _ (by omega) (by omega), bI_s]; exact hfin _
  rw [if_neg c2, if_neg c2]
  by_cases c3 : v = 3
  · rw [if_pos c3, if_pos c3, e_clip _ (by omega) (by omega), bI_s]; exact hfin _
  rw [if_neg c3, if_neg c3]
  by_cases c4 : v = 4
  · rw [if_pos c4, if_pos c4, e_floor _ ha1 ha2 hb1 hb2, bI_s]; exact hfin _
  rw [if_neg c4, if_neg c4]
  by_cases c5 : v = 5
  · rw [if_pos c5, if_pos c5]
    by_cases g : a < b
    · rw [if_neg (fun q => absurd ((c64_ge (by omega) (by omega) (by omega) (by omega)).mp q) (by omega)), if_pos g]; exact hfin _
    · rw [if_pos ((c64_ge (by omega) (by omega) (by omega) (by omega)).mpr (by omega)), if_neg g]; exact hfin _
  · rw [if_neg c5, if_neg c5]
    by_cases g : b < a
    · rw [if_neg (fun q => absurd ((c64_le (by omega) (by omega) (by omega) (by omega)).mp q) (by omega)), if_pos g]; exact hfin _
    · rw [if_pos ((c64_le (by omega) (by omega) (by omega) (by omega)).mpr (by omega)), if_neg g]; exact hfin _
/-- all of a stack are small -/
def sml (st : List Int) : Prop := ∀ x ∈ st, -1000000 ≤ x ∧ x ≤ 1000000
theorem sml_cons {x : Int} {st : List Int} (h1 : -1000000 ≤ x) (h2 : x ≤ 1000000) (h : sml st) : sml (x :: st) := by
  intro y hy
  rcases List.mem_cons.mp hy with rfl | hy
  · exact ⟨h1, h2⟩
  · exact h y hy
theorem e_isIn_y {v a b : Int} (M : Mm) (h1 : -9223372036854775808 ≤ a) (h2 : a ≤ v) (h3 : v ≤ b) (h4 : b < 9223372036854775808) : f_M_isIn v a b M = some (1, M) := by
  rw [e_isIn M (by omega) (by omega) h1 (by omega) (by omega) h4, if_pos ⟨h2, h3⟩]
theorem e_isIn_n {v a b : Int} (M : Mm) (h1 : -9223372036854775808 ≤ v) (h2 : v < 9223372036854775808) (h3 : -9223372036854775808 ≤ a) (h4 : a < 9223372036854775808) (h5 : -9223372036854775808 ≤ b) (h6 : b < 9223372036854775808) (h : v < a ∨ b < v) : f_M_isIn v a b M = some (0, M) := by
  rw [e_isIn M h1 h2 h3 h4 h5 h6, if_neg (by omega)]
/-- what a step asks of the code and the height -/
def okc (cv : Int) (h : Nat) : Prop := ((7 ≤ cv ∧ cv ≤ 10 ∨ 1000 ≤ cv ∧ cv ≤ 10999) ∧ h < 60) ∨ ((1 ≤ cv ∧ cv ≤ 6) ∧ 2 ≤ h)
theorem stp_len {ask : Nat → Int} {cv : Int} {st : List Int} (h : okc cv st.length) (hl : st.length ≤ 60) : (stp ask cv st).length ≤ 60 ∧ (stp ask cv st).length = (if 7 ≤ cv then st.length + 1 else st.length - 1) := by
  rcases h with ⟨h1, h2⟩ | ⟨h1, h2⟩
  · rw [if_pos (by omega)]
    unfold stp
    rcases h1 with h1 | h1
    · rw [if_neg (by omega), if_pos h1]; simp; omega
    · rw [if_pos h1.1]; simp; omega
  · rw [if_neg (by omega)]
    unfold stp
    rw [if_neg (by omega), if_neg (by omega)]
    match st, h2 with
    | b :: a :: r, _ => simp at hl ⊢; omega
theorem stp_sml {ask : Nat → Int} {cv : Int} {st : List Int} (h : okc cv st.length) (hs : sml st) (ha : ∀ j : Nat, j < 4 → 0 ≤ ask j ∧ ask j ≤ 1000000) : sml (stp ask cv st) := by
  unfold stp
  rcases h with ⟨h1, h2⟩ | ⟨h1, h2⟩
  · rcases h1 with h1 | h1
    · rw [if_neg (by omega), if_pos h1]
      have := ha (cv - 7).toNat (by omega)
      exact sml_cons (by omega) (by omega) hs
    · rw [if_pos h1.1]
      exact sml_cons (by omega) (by omega) hs
  · rw [if_neg (by omega), if_neg (by omega)]
    match st, h2 with
    | b :: a :: r, _ =>
      obtain ⟨b1, b2⟩ := hs b List.mem_cons_self
      obtain ⟨a1, a2⟩ := hs a (List.mem_cons_of_mem _ List.mem_cons_self)
      obtain ⟨j1, j2⟩ := jn_rng (v := cv) a1 a2 b1 b2
      exact sml_cons j1 j2 (fun y hy => hs y (List.mem_cons_of_mem _ (List.mem_cons_of_mem _ hy)))
theorem b_told {kH : Int → Int → Mm → Option (Int × Mm)} {v2 v3 cv : Int} {M1 : Mm} {ask : Nat → Int} {st : List Int} {Q : Int × Mm → Prop} (h0 : 0 ≤ v3) (h1 : v3 < v2) (h2 : v2 ≤ 1600) (hcv : M1 102 (1600 + v3).toNat = cv) (hp : pil M1 st) (hs : sml st) (hl : st.length ≤ 60) (ha : ∀ j : Nat, j < 4 → M1 107 j = ask j ∧ 0 ≤ ask j ∧ ask j ≤ 1000000) (hok : okc cv st.length)
    (k : ∀ M', pil M' (stp ask cv st) → Fr [(78, 43), (106, 99999)] M1 M' → wq (kH v2 (v3 + 1) M') Q) : wq (f_M_told_B7 kH v2 v3 M1) Q := by
  have hlen : M1 78 43 = (st.length : Int) := hp.1
  have hpush : ∀ w : Int, stp ask cv st = w :: st → wq (bV (f_M_puts w M1) (fun M6 => kH v2 (v3 + 1) M6)) Q := fun w hw => by
    rw [e_puts _ (by omega) (by omega), bV_s]
    refine k _ ?_ ((Fr.rf.up (by simp)).up (by simp))
    rw [hw]
    exact pil_push hp
  unfold f_M_told_B7
  rw [i32_id (x := v2) (by omega) (by omega), i32_id (x := v3) (by omega) (by omega), i32_id (x := 1600 + v3) (by omega) (by omega), hcv]
  refine wq_e (by omega) (wq_g (by omega) ?_)
  rcases hok with ⟨hc1, hc2⟩ | ⟨hc1, hc2⟩
  · rw [i32_id (x := cv) (by omega) (by omega), i32_id (x := 1000) (by omega) (by omega)]
    rcases hc1 with hc | hc
    · refine wq_t (by omega) ?_
      rw [e_isIn_y _ (by omega) hc.1 hc.2 (by omega), bI_s]
      refine wq_e (by decide) ?_
      rw [i32_id (x := cv - 7) (by omega) (by omega)]
      obtain ⟨z1, z2, z3⟩ := ha (cv - 7).toNat (by omega)
      rw [z1, i32_id (x := ask (cv - 7).toNat) (by omega) (by omega)]
      refine wq_g (by omega) (hpush _ ?_)
      unfold stp
      rw [if_neg (by omega), if_pos hc]
    · refine wq_e (by omega) ?_
      rw [i32_id (x := cv - 1000) (by omega) (by omega)]
      refine hpush _ ?_
      unfold stp
      rw [if_pos hc.1]
  · rw [i32_id (x := cv) (by omega) (by omega), i32_id (x := 1000) (by omega) (by omega)]
    refine wq_t (by omega) ?_
    rw [e_isIn_n _ (by omega) (by omega) (by omega) (by omega) (by omega) (by omega) (by omega), bI_s]
    refine wq_t (by decide) ?_
    match st, hc2 with
    | b :: a :: r, _ =>
      obtain ⟨b1, b2⟩ := hs b List.mem_cons_self
      obtain ⟨a1, a2⟩ := hs a (List.mem_cons_of_mem _ List.mem_cons_self)
      simp only [List.length_cons] at hl
      refine wq_V (s_joins hc1 hp (by omega) a1 a2 b1 b2) (fun M4 h4 => k M4 ?_ h4.2)
      have e : stp ask cv (b :: a :: r) = jn cv a b :: r := by
        unfold stp
        rw [if_neg (by omega), if_neg (by omega)]
      rw [e]
      exact h4.1
theorem wfc_okc {cd : Nat → Int} {n f h : Nat} (hw : wfc cd (n + 1) f h) : okc (cd f) h ∧ wfc cd n (f + 1) (if 7 ≤ cd f then h + 1 else h - 1) := by
  rcases hw with ⟨h1, h2, h3⟩ | ⟨h1, h2, h3⟩
  · rw [if_pos (by omega)]; exact ⟨Or.inl ⟨h1, h2⟩, h3⟩
  · rw [if_neg (by omega)]; exact ⟨Or.inr ⟨h1, h2⟩, h3⟩
def tdI (M : Mm) (ask : Nat → Int) (f t : Int) (s : Int × Int × Mm) : Prop := s.1 = t ∧ f ≤ s.2.1 ∧ s.2.1 ≤ t ∧ ∃ st, pil s.2.2 st ∧ sml st ∧ st.length ≤ 60 ∧ wfc (fun k => M 102 (1600 + k)) (t - s.2.1).toNat s.2.1.toNat st.length ∧ evs (fun k => M 102 (1600 + k)) ask (t - s.2.1).toNat s.2.1.toNat st = evs (fun k => M 102 (1600 + k)) ask (t - f).toNat f.toNat [] ∧ Fr [(78, 43), (106, 99999)] M s.2.2
theorem s_told {f t : Int} {M : Mm} {ask : Nat → Int} (hf : 0 ≤ f) (hft : f ≤ t) (ht : t ≤ 1600) (hw : wfc (fun k => M 102 (1600 + k)) (t - f).toNat f.toNat 0) (ha : ∀ j : Nat, j < 4 → M 107 j = ask j ∧ 0 ≤ ask j ∧ ask j ≤ 1000000) : wq (f_M_told f t M) (fun q => (∃ a, evs (fun k => M 102 (1600 + k)) ask (t - f).toNat f.toNat [] = [a] ∧ q.1 = a ∧ -1000000 ≤ a ∧ a ≤ 1000000) ∧ Fr [(78, 43), (106, 99999)] M q.2) := by
  unfold f_M_told f_M_told_L7
  refine wq_d (wq_lp (tdI M ask f t) (fun s => (t - s.2.1).toNat) ?_ FU _ ?_ ?_)
  · rintro kH ⟨v2, v3, M1⟩ ⟨h1, g1, g2, st, hp, hs, hl, hw1, he, hF⟩ hk
    have h1 : v2 = t := h1
    subst h1
    have g1 : f ≤ v3 := g1
    have g2 : v3 ≤ v2 := g2
    have hw1 : wfc (fun k => M 102 (1600 + k)) (v2 - v3).toNat v3.toNat st.length := hw1
    have he : evs (fun k => M 102 (1600 + k)) ask (v2 - v3).toNat v3.toNat st = evs (fun k => M 102 (1600 + k)) ask (v2 - f).toNat f.toNat [] := he
    have hp : pil M1 st := hp
    have hF : Fr [(78, 43), (106, 99999)] M M1 := hF
    show wq (f_M_told_B7 (fun v2 v3 M => kH (v2, v3, M)) v2 v3 M1) _
    by_cases c : v2 ≤ v3
    · unfold f_M_told_B7
      rw [i32_id (x := v2) (by omega) (by omega), i32_id (x := v3) (by omega) (by omega), if_pos c]
      rw [show (v2 - v3).toNat = 0 by omega] at hw1 he
      have hl1 : st.length = 1 := hw1
      match st, hl1 with
      | [a], _ => exact wq_some ⟨⟨a, he.symm, hp.2.1, hs a List.mem_cons_self⟩, hF⟩
    · obtain ⟨n, hn⟩ : ∃ n, (v2 - v3).toNat = n + 1 := ⟨(v2 - v3).toNat - 1, by omega⟩
      rw [hn] at hw1 he
      obtain ⟨o1, o2⟩ := wfc_okc hw1
      have hcv : M1 102 (1600 + v3).toNat = M 102 (1600 + v3.toNat) := by rw [hF.row 102 rfl, show (1600 + v3).toNat = 1600 + v3.toNat by omega]
      have h107 : M1 107 = M 107 := hF.row 107 rfl
      refine b_told (st := st) (ask := ask) (by omega) (by omega) ht hcv hp hs hl (by rw [h107]; exact ha) o1 (fun M' hp' hF' => hk (v2, v3 + 1, M') ?_ (show (v2 - (v3 + 1)).toNat < (v2 - v3).toNat by omega))
      obtain ⟨q1, q2⟩ := stp_len (ask := ask) o1 hl
      refine ⟨rfl, show f ≤ v3 + 1 by omega, show v3 + 1 ≤ v2 by omega, stp ask (M 102 (1600 + v3.toNat)) st, hp', stp_sml o1 hs (fun j hj => (ha j hj).2), q1, ?_, ?_, hF.tr hF'⟩
      · show wfc _ (v2 - (v3 + 1)).toNat (v3 + 1).toNat _
        rw [q2, show (v2 - (v3 + 1)).toNat = n by omega, show (v3 + 1).toNat = v3.toNat + 1 by omega]
        exact o2
      · show evs _ ask (v2 - (v3 + 1)).toNat (v3 + 1).toNat _ = _
        rw [← he, show (v2 - (v3 + 1)).toNat = n by omega, show (v3 + 1).toNat = v3.toNat + 1 by omega]
        rfl
  · exact ⟨rfl, Int.le_refl _, hft, [], ⟨up_eq M 78 43 0, trivial⟩, fun x hx => by simp at hx, by simp, hw, rfl, Fr.rf.up (by simp)⟩
  · show (t - f).toNat < 1000000000
    omega
