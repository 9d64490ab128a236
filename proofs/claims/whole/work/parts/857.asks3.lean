theorem call_fault {n : Nat} {v1 : Int} (i1 : IR v1) : CallOk n (f_BT_fault v1) (f_M_fault v1) := by
  refine call_q (fun M r => r = (if v1 = 0 then M 78 7 else if v1 = 1 then M 78 8 else -1)) [] [] (fun M r r' _ h h' => h.trans h'.symm) rfl rfl rfl rfl rfl (fun M hR => ?_) (fun M M1 hR hm hl => ?_)
  · obtain ⟨-, -, h3, -, h5, -, -, -, -, h10, -⟩ := id hR
    unfold f_BT_fault
    rw [i32_id (x := v1) i1.1 i1.2, i32_id (x := 1) (by omega) (by omega), h5.1, h5.2.1]
    by_cases c : v1 = 0
    · refine wq_e (fun z => z c) (wq_some ⟨?_, h3.2.2, h10.2.2, Fr.rf⟩)
      rw [if_pos c]
    · refine wq_t c ?_
      by_cases d : v1 = 1
      · refine wq_e (fun z => z d) (wq_some ⟨?_, h3.2.2, h10.2.2, Fr.rf⟩)
        rw [if_neg c, if_pos d]
      · refine wq_t d (wq_some ⟨?_, h3.2.2, h10.2.2, Fr.rf⟩)
        rw [if_neg c, if_neg d]
  · unfold f_M_fault
    have e := hl 78 (by decide)
    rw [i32_id (x := v1) i1.1 i1.2, i32_id (x := 1) (by omega) (by omega), e]
    by_cases c : v1 = 0
    · refine wq_e (fun z => z c) (wq_some ⟨?_, Fr.rf⟩)
      rw [if_pos c]
    · refine wq_t c ?_
      by_cases d : v1 = 1
      · refine wq_e (fun z => z d) (wq_some ⟨?_, Fr.rf⟩)
        rw [if_neg c, if_pos d]
      · refine wq_t d (wq_some ⟨?_, Fr.rf⟩)
        rw [if_neg c, if_neg d]
theorem call_octet {n : Nat} {v1 : Int} (i1 : IR v1) : CallOk n (f_BT_octet v1) (f_M_octet v1) := by
  refine call_q (fun M r => gA (0 ≤ v1 ∧ v1 < M 78 99) (fun r => r = M 145 v1.toNat) r) [] [] (fun M r r' _ => gA_un (fun _ x y hx hy => hx.trans hy.symm)) rfl rfl rfl rfl rfl (fun M hR => ?_) (fun M M1 hR hm hl => ?_)
  · obtain ⟨-, -, h3, -, -, -, -, h8, -, h10, -⟩ := id hR
    obtain ⟨p1, p2, p3⟩ := h8
    unfold f_BT_octet
    rw [i32_id (x := v1) i1.1 i1.2, p2, i32_id (x := M 78 99) (by omega) (by omega)]
    refine wq_if (fun c => wq_some ⟨Or.inr ⟨fun z => by omega, rfl⟩, h3.2.2, h10.2.2, Fr.rf⟩) (fun c => ?_)
    refine wq_if (fun d => wq_some ⟨Or.inr ⟨fun z => by omega, rfl⟩, h3.2.2, h10.2.2, Fr.rf⟩) (fun d => ?_)
    rw [e_cell_in (n := 39) M rfl (by decide) (by omega) (by omega), bI_s]
    exact wq_some ⟨Or.inl ⟨by omega, p3 _ (by omega)⟩, h3.2.2, h10.2.2, Fr.rf⟩
  · obtain ⟨-, -, -, -, -, -, -, h8, -, -, -⟩ := id hR
    obtain ⟨p1, -, -⟩ := h8
    unfold f_M_octet
    rw [i32_id (x := v1) i1.1 i1.2, hl 78 (by decide), hl 145 (by decide), i32_id (x := M 78 99) (by omega) (by omega)]
    refine wq_if (fun c => wq_some ⟨Or.inr ⟨fun z => by omega, rfl⟩, Fr.rf⟩) (fun c => ?_)
    refine wq_if (fun d => wq_some ⟨Or.inr ⟨fun z => by omega, rfl⟩, Fr.rf⟩) (fun d => ?_)
    exact wq_g (by omega) (wq_some ⟨Or.inl ⟨by omega, rfl⟩, Fr.rf⟩)
theorem call_status {n : Nat} {v1 : Int} (i1 : IR v1) : CallOk n (f_BT_status v1) (f_M_status v1) := by
  refine call_q (fun M r => gA (0 ≤ v1 ∧ v1 ≤ 5) (fun r => r = M 80 v1.toNat) r) [] [] (fun M r r' _ => gA_un (fun _ x y hx hy => hx.trans hy.symm)) rfl rfl rfl rfl rfl (fun M hR => ?_) (fun M M1 hR hm hl => ?_)
  · obtain ⟨-, -, h3, -, h5, -, -, -, -, h10, -⟩ := id hR
    unfold f_BT_status
    rw [i32_id (x := v1) i1.1 i1.2, i32_id (x := ((6 : Nat) : Int)) (by omega) (by omega)]
    refine wq_if (fun c => wq_some ⟨Or.inr ⟨fun z => by omega, rfl⟩, h3.2.2, h10.2.2, Fr.rf⟩) (fun c => ?_)
    refine wq_if (fun d => wq_some ⟨Or.inr ⟨fun z => by omega, rfl⟩, h3.2.2, h10.2.2, Fr.rf⟩) (fun d => ?_)
    rw [e_cell_in (n := 6) M rfl (by decide) (by omega) (by omega), bI_s]
    exact wq_some ⟨Or.inl ⟨by omega, by show M 77 _ = _; rw [h5.2.2.1]⟩, h3.2.2, h10.2.2, Fr.rf⟩
  · unfold f_M_status
    rw [e_in _ i1 (by omega) (by omega) (by omega) (by omega), bI_s, hl 80 (by decide)]
    refine wq_c0 (fun c => wq_some ⟨Or.inr ⟨c, rfl⟩, Fr.rf⟩) (fun c => ?_)
    rw [i32_id (x := v1) i1.1 i1.2]
    exact wq_g (by omega) (wq_some ⟨Or.inl ⟨c, rfl⟩, Fr.rf⟩)
def stV (V : Mm) (s w : Int) : Int := if w = 0 then eF V s else if w = 1 then eT V s else if w = 2 then tk V s else if w = 3 then rd V s else if w = 4 then sf V s else if w = 5 then (hr V + sf V s) % rd V s else if w = 6 then wid V s (hr V) else -1
theorem call_street {n : Nat} {v1 v2 : Int} (i1 : IR v1) (i2 : IR v2) : CallOk n (f_BT_street v1 v2) (f_M_street v1 v2) := by
  refine call_q (fun M r => gA (0 ≤ v1 ∧ v1 < nS M) (fun r => r = stV M v1 v2) r) wcL wsL (fun M r r' _ => gA_un (fun _ x y hx hy => hx.trans hy.symm)) rfl rfl rfl rfl rfl (fun M hR => ?_) (fun M M1 hR hm hl => ?_)
  · obtain ⟨h1, h2, h3, -, -, -, -, -, -, h10, -⟩ := id hR
    have hS := h1.2.1
    unfold f_BT_street
    rw [e_hasS h1 h3.1 i1, bI_s, i32_id (x := v2) i2.1 i2.2]
    refine wq_c1 (fun c => ?_) (fun c => wq_some ⟨Or.inr ⟨c, rfl⟩, h3.2.2, h10.2.2, Fr.rf⟩)
    obtain ⟨k1, k2, k3, k4, -⟩ := h3.1.2.1 v1 c.1 c.2
    have k5 := h3.2.1.2.1 v1 c.1 c.2
    obtain ⟨-, -, -, -, ⟨r1, r2⟩, -⟩ := h1.2.2.2.1 v1 c.1 c.2
    have hs := h2.2.1 v1 c.1 c.2
    have hh := h2.1
    have hcell : ∀ (row : Nat) (x : Int), slen row = 12 → M row v1.toNat = x → stV M v1 v2 = x → wq (bI (f_BT_cell row v1 M) (fun r5 M4 => some (r5, M4))) (fun q => gA (0 ≤ v1 ∧ v1 < nS M) (fun r => r = stV M v1 v2) q.1 ∧ Cc M q.2 ∧ q.2 48 10 = 0 ∧ Fr wcL M q.2) := by
      intro row x e0 e1 e2
      rw [e_cell_in (n := 12) M e0 (by decide) c.1 (by omega), bI_s]
      exact wq_some ⟨Or.inl ⟨c, by show M row v1.toNat = _; rw [e1, e2]⟩, h3.2.2, h10.2.2, Fr.rf⟩
    unfold stV at hcell ⊢
    refine wq_if (fun d => hcell 6 _ rfl k1 (if_pos d)) (fun d => ?_)
    rw [if_neg d] at hcell ⊢
    refine wq_if (fun d => hcell 7 _ rfl k2 (if_pos d)) (fun d => ?_)
    rw [if_neg d] at hcell ⊢
    refine wq_if (fun d => hcell 8 _ rfl k3 (if_pos d)) (fun d => ?_)
    rw [if_neg d] at hcell ⊢
    refine wq_if (fun d => hcell 9 _ rfl k4 (if_pos d)) (fun d => ?_)
    rw [if_neg d] at hcell ⊢
    refine wq_if (fun d => hcell 40 _ rfl k5 (if_pos d)) (fun d => ?_)
    clear hcell
    rw [if_neg d]
    refine wq_if (fun d => ?_) (fun d => ?_)
    · rw [if_pos d, h3.2.1.1]
      unfold f_Widths_tideAt
      rw [e_cell_in (n := 12) M rfl (by decide) c.1 (by omega), bI_s, k5, e_cTideBy h3.1 c.1 c.2 (by omega) r1 r2 hh.1 (by omega) hs.1 (by omega), bI_s, bI_s]
      exact wq_some ⟨Or.inl ⟨c, rfl⟩, h3.2.2, h10.2.2, Fr.rf⟩
    · rw [if_neg d]
      refine wq_if (fun d => ?_) (fun d => ?_)
      · rw [if_pos d, h3.2.1.1]
        refine wq_I (s_cWidthAt h1 h2 h3 c.1 c.2 hh.1 (by omega)) (fun r M2 ⟨a1, a2, a3⟩ => wq_some ⟨Or.inl ⟨c, a1⟩, a2.2.2, ?_, a3⟩)
        have a3 : Fr wcL M M2 := a3
        show M2 48 10 = 0
        rw [a3.row 48 rfl]; exact h10.2.2
      · rw [if_neg d]
        exact wq_some ⟨Or.inl ⟨c, rfl⟩, h3.2.2, h10.2.2, Fr.rf⟩
  · obtain ⟨h1, h2, -⟩ := id hR
    have hS := h1.2.1
    unfold f_M_street
    rw [e_isStreet h1 hm i1, bI_s, i32_id (x := v2) i2.1 i2.2]
    refine wq_c1 (fun c => ?_) (fun c => wq_some ⟨Or.inr ⟨c, rfl⟩, Fr.rf⟩)
    obtain ⟨-, -, -, -, ⟨r1, r2⟩, -⟩ := h1.2.2.2.1 v1 c.1 c.2
    have hs := h2.2.1 v1 c.1 c.2
    have hh := h2.1
    have e108 : M1 108 0 = hr M := by rw [hm.2.2.2.2.2.2]; rfl
    have c12 : v1 < 12 := by omega
    have e2 : f_M_endOf v1 2 M1 = some (tk M v1, M1) := by
      unfold f_M_endOf tk
      rw [hm.2.1, i32_id (by omega) (by omega), gd_t (by omega), show (60 + 5 * v1) + 2 = 62 + 5 * v1 by omega]
    have e3 : f_M_endOf v1 3 M1 = some (rd M v1, M1) := by
      unfold f_M_endOf rd
      rw [hm.2.1, i32_id (by omega) (by omega), gd_t (by omega), show (60 + 5 * v1) + 3 = 63 + 5 * v1 by omega]
    unfold stV
    refine wq_if (fun d => ?_) (fun d => ?_)
    · rw [if_pos d, d, e_end0 hm c.1 c12, bI_s]; exact wq_some ⟨Or.inl ⟨c, rfl⟩, Fr.rf⟩
    rw [if_neg d]
    refine wq_if (fun d => ?_) (fun d => ?_)
    · rw [if_pos d, d, e_end1 hm c.1 c12, bI_s]; exact wq_some ⟨Or.inl ⟨c, rfl⟩, Fr.rf⟩
    rw [if_neg d]
    refine wq_if (fun d => ?_) (fun d => ?_)
    · rw [if_pos d, d, e2, bI_s]; exact wq_some ⟨Or.inl ⟨c, rfl⟩, Fr.rf⟩
    rw [if_neg d]
    refine wq_if (fun d => ?_) (fun d => ?_)
    · rw [if_pos d, d, e3, bI_s]; exact wq_some ⟨Or.inl ⟨c, rfl⟩, Fr.rf⟩
    rw [if_neg d]
    refine wq_if (fun d => ?_) (fun d => ?_)
    · rw [if_pos d, e_shift hm c.1 c12, bI_s]; exact wq_some ⟨Or.inl ⟨c, rfl⟩, Fr.rf⟩
    rw [if_neg d]
    refine wq_if (fun d => ?_) (fun d => ?_)
    · rw [if_pos d, e_shift hm c.1 c12, bI_s, e108, e_tide hm c.1 c12 r1 r2 hh.1 (by omega) hs.1 (by omega), bI_s]; exact wq_some ⟨Or.inl ⟨c, rfl⟩, Fr.rf⟩
    rw [if_neg d]
    refine wq_if (fun d => ?_) (fun d => ?_)
    · rw [if_pos d, e108]
      exact wq_I (s_mWidthOf h1 h2 hm c.1 c.2 hh.1 (by omega)) (fun r M2 ⟨a1, a2, a3⟩ => wq_some ⟨Or.inl ⟨c, a1⟩, a3⟩)
    · rw [if_neg d]
      exact wq_some ⟨Or.inl ⟨c, rfl⟩, Fr.rf⟩
def wkV (V : Mm) (w k : Int) : Int := if k = 0 then br V w else if k = 1 then pl V w else if k = 2 then gl V w else if k = 3 then fr V w else -1
theorem call_walker {n : Nat} {v1 v2 : Int} (i1 : IR v1) (i2 : IR v2) : CallOk n (f_BT_walker v1 v2) (f_M_walker v1 v2) := by
  refine call_q (fun M r => gA (0 ≤ v1 ∧ v1 < nW M) (fun r => r = wkV M v1 v2) r) [] [] (fun M r r' _ => gA_un (fun _ x y hx hy => hx.trans hy.symm)) rfl rfl rfl rfl rfl (fun M hR => ?_) (fun M M1 hR hm hl => ?_)
  · obtain ⟨h1, h2, h3, -, -, -, -, -, -, h10, -⟩ := id hR
    have hS := h1.2.2.1
    unfold f_BT_walker
    rw [e_hasW h1 h3.1 i1, bI_s, i32_id (x := v2) i2.1 i2.2]
    refine wq_c1 (fun c => ?_) (fun c => wq_some ⟨Or.inr ⟨c, rfl⟩, h3.2.2, h10.2.2, Fr.rf⟩)
    obtain ⟨k1, -, -⟩ := h3.1.2.2.1 v1 c.1 c.2
    obtain ⟨k2, k3, k4⟩ := h3.2.1.2.2 v1 c.1 c.2
    have hcell : ∀ (row : Nat) (x : Int), slen row = 6 → M row v1.toNat = x → wkV M v1 v2 = x → wq (bI (f_BT_cell row v1 M) (fun r5 M4 => some (r5, M4))) (fun q => gA (0 ≤ v1 ∧ v1 < nW M) (fun r => r = wkV M v1 v2) q.1 ∧ Cc M q.2 ∧ q.2 48 10 = 0 ∧ Fr [] M q.2) := by
      intro row x e0 e1 e2
      rw [e_cell_in (n := 6) M e0 (by decide) c.1 (by omega), bI_s]
      exact wq_some ⟨Or.inl ⟨c, by show M row v1.toNat = _; rw [e1, e2]⟩, h3.2.2, h10.2.2, Fr.rf⟩
    unfold wkV at hcell ⊢
    refine wq_if (fun d => hcell 13 _ rfl k1 (if_pos d)) (fun d => ?_)
    rw [if_neg d] at hcell ⊢
    refine wq_if (fun d => hcell 41 _ rfl k2 (if_pos d)) (fun d => ?_)
    rw [if_neg d] at hcell ⊢
    refine wq_if (fun d => hcell 42 _ rfl k3 (if_pos d)) (fun d => ?_)
    rw [if_neg d] at hcell ⊢
    refine wq_if (fun d => hcell 43 _ rfl k4 (if_pos d)) (fun d => ?_)
    rw [if_neg d]
    exact wq_some ⟨Or.inl ⟨c, rfl⟩, h3.2.2, h10.2.2, Fr.rf⟩
  · obtain ⟨h1, h2, -⟩ := id hR
    have hS := h1.2.2.1
    unfold f_M_walker
    rw [e_isWalker h1 hm i1, bI_s, i32_id (x := v2) i2.1 i2.2]
    refine wq_c1 (fun c => ?_) (fun c => wq_some ⟨Or.inr ⟨c, rfl⟩, Fr.rf⟩)
    have c6 : v1 < 6 := by omega
    unfold wkV
    refine wq_if (fun d => ?_) (fun d => ?_)
    · rw [if_pos d, e_broad hm c.1 c6, bI_s]; exact wq_some ⟨Or.inl ⟨c, rfl⟩, Fr.rf⟩
    rw [if_neg d]
    refine wq_if (fun d => ?_) (fun d => ?_)
    · rw [if_pos d, e_place hm c.1 c6, bI_s]; exact wq_some ⟨Or.inl ⟨c, rfl⟩, Fr.rf⟩
    rw [if_neg d]
    refine wq_if (fun d => ?_) (fun d => ?_)
    · rw [if_pos d, e_goal hm c.1 c6, bI_s]; exact wq_some ⟨Or.inl ⟨c, rfl⟩, Fr.rf⟩
    rw [if_neg d]
    refine wq_if (fun d => ?_) (fun d => ?_)
    · rw [if_pos d, show (13 + (3 * v1)) + 2 = 15 + 3 * v1 by omega, i32_id (x := 15 + 3 * v1) (by omega) (by omega), hm.2.2.2.2.2.2]
      exact wq_g (by omega) (wq_some ⟨Or.inl ⟨c, rfl⟩, Fr.rf⟩)
    · rw [if_neg d]
      exact wq_some ⟨Or.inl ⟨c, rfl⟩, Fr.rf⟩
/-- how many walkers are free -/
def fwP (V : Mm) (w : Int) : Prop := fr V w ≤ hr V
theorem s_cFree {V M : Mm} (hT : Tw V) (hN : Nw V) (hc : Tc V M) (hn : Nc V M) : wq (f_Now_freeWalkers M) (fun q => isC (fwP V) 0 (nW V).toNat q.1 ∧ q.2 = M) := by
  have hW := hT.2.2.1
  have hh := hN.1
  unfold f_Now_freeWalkers f_Now_freeWalkers_L4
  refine wq_lp (fun z => (0 ≤ z.2.1 ∧ z.2.1 ≤ nW V) ∧ isC (fwP V) 0 z.2.1.toNat z.1 ∧ z.2.2 = M) (fun z => (nW V - z.2.1).toNat) ?_ FU _ ?_ ?_
  · rintro kH ⟨v1, v2, N⟩ ⟨q1, q2, q3⟩ hk
    have e1 : 0 ≤ v2 ∧ v2 ≤ nW V := q1
    have e2 : isC (fwP V) 0 v2.toNat v1 := q2
    have e3 : N = M := q3
    subst e3
    clear q1 q2 q3
    have hcr := isC_rng _ _ e2
    show wq (f_Now_freeWalkers_B4 (fun v1 v2 M => kH (v1, v2, M)) v1 v2 N) _
    unfold f_Now_freeWalkers_B4
    rw [e_count2 hc, bI_s, i32_id (x := nW V) (by omega) (by omega), i32_id (x := v2) (by omega) (by omega)]
    refine wq_if (fun c => wq_some ⟨?_, rfl⟩) (fun c => ?_)
    · rw [show (nW V).toNat = v2.toNat by omega]; exact e2
    · have hw := (hN.2.2 v2 e1.1 (by omega)).2
      have hnx : ∀ w, isC (fwP V) 0 (v2.toNat + 1) w → wq (kH (w, v2 + 1, N)) (fun q => isC (fwP V) 0 (nW V).toNat q.1 ∧ q.2 = N) := fun w hw => hk _ ⟨⟨show 0 ≤ v2 + 1 by omega, show v2 + 1 ≤ nW V by omega⟩, by show isC (fwP V) 0 (v2 + 1).toNat w; rw [show (v2 + 1).toNat = v2.toNat + 1 by omega]; exact hw, rfl⟩ (show (nW V - (v2 + 1)).toNat < (nW V - v2).toNat by omega)
      have ea : (0 : Int) + (v2.toNat : Nat) = v2 := by omega
      rw [e_cell_in (n := 6) N rfl (by decide) e1.1 (by omega), bI_s, (hn.2.2 v2 e1.1 (by omega)).2.2, hn.1, i32_id (x := hr V) (by omega) (by omega), i32_id (x := fr V v2) (by omega) (by omega)]
      refine wq_if (fun d => hnx _ ⟨v1, e2, Or.inr ⟨?_, by omega⟩⟩) (fun d => hnx _ ⟨v1, e2, Or.inl ⟨?_, rfl⟩⟩)
      · rw [ea]; unfold fwP; omega
      · rw [ea]; unfold fwP; omega
  · exact ⟨⟨Int.le_refl _, hW.1⟩, rfl, rfl⟩
  · show (nW V - 0).toNat < 1000000000
    omega
theorem s_mFree {V M : Mm} (hT : Tw V) (hN : Nw V) (hm : Rm V M) : wq (f_M_freeMany M) (fun q => isC (fwP V) 0 (nW V).toNat q.1 ∧ q.2 = M) := by
  have hW := hT.2.2.1
  have hh := hN.1
  unfold f_M_freeMany f_M_freeMany_L4
  refine wq_lp (fun z => (0 ≤ z.2.1 ∧ z.2.1 ≤ nW V) ∧ isC (fwP V) 0 z.2.1.toNat z.1 ∧ z.2.2 = M) (fun z => (nW V - z.2.1).toNat) ?_ FU _ ?_ ?_
  · rintro kH ⟨v1, v2, N⟩ ⟨q1, q2, q3⟩ hk
    have e1 : 0 ≤ v2 ∧ v2 ≤ nW V := q1
    have e2 : isC (fwP V) 0 v2.toNat v1 := q2
    have e3 : N = M := q3
    subst e3
    clear q1 q2 q3
    show wq (f_M_freeMany_B4 (fun v1 v2 M => kH (v1, v2, M)) v1 v2 N) _
    unfold f_M_freeMany_B4
    rw [e_mW hm, bI_s, i32_id (x := nW V) (by omega) (by omega), i32_id (x := v2) (by omega) (by omega)]
    refine wq_if (fun c => wq_some ⟨?_, rfl⟩) (fun c => ?_)
    · rw [show (nW V).toNat = v2.toNat by omega]; exact e2
    · have hw := (hN.2.2 v2 e1.1 (by omega)).2
      have hnx : ∀ w, isC (fwP V) 0 (v2.toNat + 1) w → wq (kH (w, v2 + 1, N)) (fun q => isC (fwP V) 0 (nW V).toNat q.1 ∧ q.2 = N) := fun w hw => hk _ ⟨⟨show 0 ≤ v2 + 1 by omega, show v2 + 1 ≤ nW V by omega⟩, by show isC (fwP V) 0 (v2 + 1).toNat w; rw [show (v2 + 1).toNat = v2.toNat + 1 by omega]; exact hw, rfl⟩ (show (nW V - (v2 + 1)).toNat < (nW V - v2).toNat by omega)
      have ea : (0 : Int) + (v2.toNat : Nat) = v2 := by omega
      have ef : N 108 (15 + 3 * v2).toNat = fr V v2 := by rw [hm.2.2.2.2.2.2]; rfl
      have eh : N 108 0 = hr V := by rw [hm.2.2.2.2.2.2]; rfl
      rw [show (13 + (3 * v2)) + 2 = 15 + 3 * v2 by omega, i32_id (x := 15 + 3 * v2) (by omega) (by omega), ef, eh, i32_id (x := hr V) (by omega) (by omega), i32_id (x := fr V v2) (by omega) (by omega)]
      refine wq_g (by omega) (wq_if (fun d => hnx _ ⟨v1, e2, Or.inr ⟨?_, rfl⟩⟩) (fun d => hnx _ ⟨v1, e2, Or.inl ⟨?_, rfl⟩⟩))
      · rw [ea]; unfold fwP; omega
      · rw [ea]; unfold fwP; omega
  · exact ⟨⟨Int.le_refl _, hW.1⟩, rfl, rfl⟩
  · show (nW V - 0).toNat < 1000000000
    omega
def hsV (V : Mm) (k r : Int) : Prop := if k = 0 then r = nP V else if k = 1 then r = nS V else if k = 2 then r = nW V else if k = 3 then r = hr V else if k = 4 then r = hr V / 24 else if k = 5 then r = hr V % 24 else if k = 6 then isC (fwP V) 0 (nW V).toNat r else if k = 7 then r = V 78 66 else if k = 8 then r = V 78 63 else r = -1
theorem hsV_un {V : Mm} {k r r' : Int} (h : hsV V k r) (h' : hsV V k r') : r = r' := by
  unfold hsV at h h'
  by_cases c0 : k = 0
  · rw [if_pos c0] at h h'; exact h.trans h'.symm
  rw [if_neg c0] at h h'
  by_cases c0 : k = 1
  · rw [if_pos c0] at h h'; exact h.trans h'.symm
  rw [if_neg c0] at h h'
  by_cases c0 : k = 2
  · rw [if_pos c0] at h h'; exact h.trans h'.symm
  rw [if_neg c0] at h h'
  by_cases c0 : k = 3
  · rw [if_pos c0] at h h'; exact h.trans h'.symm
  rw [if_neg c0] at h h'
  by_cases c0 : k = 4
  · rw [if_pos c0] at h h'; exact h.trans h'.symm
  rw [if_neg c0] at h h'
  by_cases c0 : k = 5
  · rw [if_pos c0] at h h'; exact h.trans h'.symm
  rw [if_neg c0] at h h'
  by_cases c0 : k = 6
  · rw [if_pos c0] at h h'; exact isC_un _ _ _ h h'
  rw [if_neg c0] at h h'
  by_cases c0 : k = 7
  · rw [if_pos c0] at h h'; exact h.trans h'.symm
  rw [if_neg c0] at h h'
  by_cases c0 : k = 8
  · rw [if_pos c0] at h h'; exact h.trans h'.symm
  rw [if_neg c0] at h h'
  exact h.trans h'.symm
theorem hs_0 (V : Mm) : hsV V 0 (nP V) := by unfold hsV; simp
theorem hs_1 (V : Mm) : hsV V 1 (nS V) := by unfold hsV; simp
theorem hs_2 (V : Mm) : hsV V 2 (nW V) := by unfold hsV; simp
theorem hs_3 (V : Mm) : hsV V 3 (hr V) := by unfold hsV; simp
theorem hs_4 (V : Mm) : hsV V 4 (hr V / 24) := by unfold hsV; simp
theorem hs_5 (V : Mm) : hsV V 5 (hr V % 24) := by unfold hsV; simp
theorem hs_7 (V : Mm) : hsV V 7 (V 78 66) := by unfold hsV; simp
theorem hs_8 (V : Mm) : hsV V 8 (V 78 63) := by unfold hsV; simp
theorem hs_6 (V : Mm) {r : Int} (h : isC (fwP V) 0 (nW V).toNat r) : hsV V 6 r := by unfold hsV; simp; exact h
theorem hs_n (V : Mm) {k : Int} (h : ¬ k = 0 ∧ ¬ k = 1 ∧ ¬ k = 2 ∧ ¬ k = 3 ∧ ¬ k = 4 ∧ ¬ k = 5 ∧ ¬ k = 6 ∧ ¬ k = 7 ∧ ¬ k = 8) : hsV V k (-1) := by
  obtain ⟨h0, h1, h2, h3, h4, h5, h6, h7, h8⟩ := h
  unfold hsV
  rw [if_neg h0, if_neg h1, if_neg h2, if_neg h3, if_neg h4, if_neg h5, if_neg h6, if_neg h7, if_neg h8]
theorem call_has {n : Nat} {v1 : Int} (i1 : IR v1) : CallOk n (f_BT_has v1) (f_M_has v1) := by
  refine call_q (fun M r => hsV M v1 r) [] [] (fun M r r' _ => hsV_un) rfl rfl rfl rfl rfl (fun M hR => ?_) (fun M M1 hR hm hl => ?_)
  · obtain ⟨h1, h2, h3, -, -, -, h7, -, h9, h10, -⟩ := id hR
    have hh := h2.1
    unfold f_BT_has
    rw [i32_id (x := v1) i1.1 i1.2, h3.2.1.1, i32_id (x := hr M) (by omega) (by omega), i32_id (x := 24) (by omega) (by omega), tdiv_pos hh.1, tmod_pos hh.1]
    refine wq_if (fun d0 => ?_) (fun d0 => ?_)
    · rw [d0, e_count0 h3.1, bI_s]; exact wq_some ⟨hs_0 M, h3.2.2, h10.2.2, Fr.rf⟩
    refine wq_if (fun d1 => ?_) (fun d1 => ?_)
    · rw [d1, e_count1 h3.1, bI_s]; exact wq_some ⟨hs_1 M, h3.2.2, h10.2.2, Fr.rf⟩
    refine wq_if (fun d2 => ?_) (fun d2 => ?_)
    · rw [d2, e_count2 h3.1, bI_s]; exact wq_some ⟨hs_2 M, h3.2.2, h10.2.2, Fr.rf⟩
    refine wq_if (fun d3 => ?_) (fun d3 => ?_)
    · rw [d3]; exact wq_some ⟨hs_3 M, h3.2.2, h10.2.2, Fr.rf⟩
    refine wq_if (fun d4 => ?_) (fun d4 => ?_)
    · rw [d4]; exact wq_some ⟨hs_4 M, h3.2.2, h10.2.2, Fr.rf⟩
    refine wq_if (fun d5 => ?_) (fun d5 => ?_)
    · rw [d5]; exact wq_some ⟨hs_5 M, h3.2.2, h10.2.2, Fr.rf⟩
    refine wq_if (fun d6 => ?_) (fun d6 => ?_)
    · refine wq_I (s_cFree h1 h2 h3.1 h3.2.1) (fun r M2 ⟨a1, a2⟩ => ?_)
      have a2 : M2 = M := a2
      subst a2
      rw [d6]
      exact wq_some ⟨hs_6 M2 a1, h3.2.2, h10.2.2, Fr.rf⟩
    refine wq_if (fun d7 => ?_) (fun d7 => ?_)
    · rw [d7, h9.2.1]; exact wq_some ⟨hs_7 M, h3.2.2, h10.2.2, Fr.rf⟩
    refine wq_if (fun d8 => ?_) (fun d8 => ?_)
    · rw [d8, h7.2.2.1]; exact wq_some ⟨hs_8 M, h3.2.2, h10.2.2, Fr.rf⟩
    exact wq_some ⟨hs_n M ⟨d0, d1, d2, d3, d4, d5, d6, d7, d8⟩, h3.2.2, h10.2.2, Fr.rf⟩
  · obtain ⟨h1, h2, -⟩ := id hR
    have hh := h2.1
    have e108 : M1 108 0 = hr M := by rw [hm.2.2.2.2.2.2]; rfl
    unfold f_M_has
    rw [i32_id (x := v1) i1.1 i1.2, e108, i32_id (x := hr M) (by omega) (by omega), i32_id (x := 24) (by omega) (by omega), tdiv_pos hh.1, tmod_pos hh.1, hl 78 (by decide)]
    refine wq_if (fun d0 => ?_) (fun d0 => ?_)
    · rw [d0, e_mP hm, bI_s]; exact wq_some ⟨hs_0 M, Fr.rf⟩
    refine wq_if (fun d1 => ?_) (fun d1 => ?_)
    · rw [d1, e_mS hm, bI_s]; exact wq_some ⟨hs_1 M, Fr.rf⟩
    refine wq_if (fun d2 => ?_) (fun d2 => ?_)
    · rw [d2, e_mW hm, bI_s]; exact wq_some ⟨hs_2 M, Fr.rf⟩
    refine wq_if (fun d3 => ?_) (fun d3 => ?_)
    · rw [d3]; exact wq_some ⟨hs_3 M, Fr.rf⟩
    refine wq_if (fun d4 => ?_) (fun d4 => ?_)
    · rw [d4]; exact wq_some ⟨hs_4 M, Fr.rf⟩
    refine wq_if (fun d5 => ?_) (fun d5 => ?_)
    · rw [d5]; exact wq_some ⟨hs_5 M, Fr.rf⟩
    refine wq_if (fun d6 => ?_) (fun d6 => ?_)
    · refine wq_I (s_mFree h1 h2 hm) (fun r M2 ⟨a1, a2⟩ => ?_)
      have a2 : M2 = M1 := a2
      subst a2
      rw [d6]
      exact wq_some ⟨hs_6 M a1, Fr.rf⟩
    refine wq_if (fun d7 => ?_) (fun d7 => ?_)
    · rw [d7]; exact wq_some ⟨hs_7 M, Fr.rf⟩
    refine wq_if (fun d8 => ?_) (fun d8 => ?_)
    · rw [d8]; exact wq_some ⟨hs_8 M, Fr.rf⟩
    exact wq_some ⟨hs_n M ⟨d0, d1, d2, d3, d4, d5, d6, d7, d8⟩, Fr.rf⟩
