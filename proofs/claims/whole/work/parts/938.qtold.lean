noncomputable def qev (V : Mm) (i : Int) (D : List Int) (st : List Int) : List Int := D.foldl (stq V i) st
noncomputable def tb0 (V : Mm) (i : Int) : Nat → Int := fun k => if k < 12 then ofq V 0 k i else if k < 24 then ofq V 1 ((k : Int) - 12) i else ofq V 2 ((k : Int) - 24) i
theorem tb0_ok (V : Mm) (i : Int) (C : List Int) : tbOk V i C (tb0 V i) := by
  refine ⟨fun _ a h1 h2 => ?_, fun _ a h1 h2 => ?_, fun _ a h1 h2 => ?_⟩
  · unfold tb0
    rw [if_pos (by omega), show ((a.toNat : Nat) : Int) = a by omega]
  · unfold tb0
    rw [if_neg (by omega), if_pos (by omega), show (((12 + a).toNat : Nat) : Int) - 12 = a by omega]
  · unfold tb0
    rw [if_neg (by omega), if_neg (by omega), show (((24 + a).toNat : Nat) : Int) - 24 = a by omega]
theorem tq_ok {v : Int} {h : Nat} (hv : vaC true v) (h1 : arC true v ≤ h) (h2 : h < 60) : okC (tqC v) h ∧ hC (tqC v) h = h + 1 - arC true v := by
  have hc : (1000 ≤ v ∧ v ≤ 10999 ∧ tqC v = v - 1000 ∧ arC true v = 0) ∨ (60 ≤ v ∧ v ≤ 62 ∧ tqC v = 54 - v ∧ arC true v = 1) ∨ (40 ≤ v ∧ v ≤ 42 ∧ -6 < tqC v ∧ tqC v ≤ -1 ∧ arC true v = 0) ∨ (v = 13 ∧ tqC v = 1 ∧ arC true v = 0) ∨ (v = 12 ∧ tqC v = -9 ∧ arC true v = 1) ∨ (1 ≤ v ∧ v ≤ 11 ∧ tqC v = -9 - v ∧ arC true v = 2) := by
    have ha : ∀ x : Int, ¬ 1000 ≤ x → arC true x = if 60 ≤ x ∨ x = 12 then 1 else if 40 ≤ x ∨ x = 13 then 0 else 2 := by
      intro x hx
      unfold arC
      rw [if_neg hx, if_pos rfl]
    by_cases c1 : 1000 ≤ v
    · refine Or.inl ⟨c1, ?_, ?_, ?_⟩
      · rcases hv with z | z | z | z <;> omega
      · unfold tqC; rw [if_pos c1]
      · unfold arC; rw [if_pos c1]
    by_cases c2 : 60 ≤ v
    · refine Or.inr (Or.inl ⟨c2, ?_, ?_, ?_⟩)
      · rcases hv with z | z | z | z <;> omega
      · unfold tqC; rw [if_neg c1, if_neg (by omega), if_neg (by omega), if_pos c2]
      · rw [ha v c1, if_pos (Or.inl c2)]
    by_cases c3 : 40 ≤ v
    · refine Or.inr (Or.inr (Or.inl ⟨c3, ?_, ?_, ?_, ?_⟩))
      · rcases hv with z | z | z | z <;> omega
      · unfold tqC; rw [if_neg c1, if_neg (by omega), if_neg (by omega), if_neg c2]; rcases hv with z | z | z | z <;> (repeat' split) <;> omega
      · unfold tqC; rw [if_neg c1, if_neg (by omega), if_neg (by omega), if_neg c2]; rcases hv with z | z | z | z <;> (repeat' split) <;> omega
      · rw [ha v c1, if_neg (by omega), if_pos (Or.inl c3)]
    by_cases c4 : v = 13
    · subst c4; exact Or.inr (Or.inr (Or.inr (Or.inl ⟨rfl, by decide, by decide⟩)))
    by_cases c5 : v = 12
    · subst c5; exact Or.inr (Or.inr (Or.inr (Or.inr (Or.inl ⟨rfl, by decide, by decide⟩))))
    · have hb : 1 ≤ v ∧ v ≤ 11 := by rcases hv with z | z | z | z <;> omega
      refine Or.inr (Or.inr (Or.inr (Or.inr (Or.inr ⟨hb.1, hb.2, ?_, ?_⟩))))
      · unfold tqC
        rw [if_neg c1, if_neg c4, if_neg c5, if_neg c2, if_neg (by omega), if_neg (by omega), if_neg (by omega)]
      · rw [ha v c1, if_neg (by omega), if_neg (by omega)]
  unfold okC hC
  rcases hc with ⟨a1, a2, a3, a4⟩ | ⟨a1, a2, a3, a4⟩ | ⟨a1, a2, a3, a5, a4⟩ | ⟨a1, a3, a4⟩ | ⟨a1, a3, a4⟩ | ⟨a1, a2, a3, a4⟩
  · rw [a4] at h1 ⊢
    exact ⟨Or.inl ⟨by omega, h2⟩, by rw [if_pos (by omega)]; omega⟩
  · rw [a4] at h1 ⊢
    exact ⟨Or.inr (Or.inl ⟨by omega, h1⟩), by rw [if_neg (by omega), if_pos (by omega)]; omega⟩
  · rw [a4] at h1 ⊢
    exact ⟨Or.inl ⟨by omega, h2⟩, by rw [if_pos (by omega)]; omega⟩
  · rw [a4] at h1 ⊢
    exact ⟨Or.inl ⟨by omega, h2⟩, by rw [if_pos (by omega)]; omega⟩
  · rw [a4] at h1 ⊢
    exact ⟨Or.inr (Or.inl ⟨by omega, h1⟩), by rw [if_neg (by omega), if_pos (by omega)]; omega⟩
  · rw [a4] at h1 ⊢
    exact ⟨Or.inr (Or.inr ⟨by omega, h1⟩), by rw [if_neg (by omega), if_neg (by omega)]; omega⟩
/-- the class's value of codes is the reference's -/
theorem evC_qev {V : Mm} {i : Int} {C : List Int} {tb cd : Nat → Int} (hT : Tw V) (hi : 0 ≤ i ∧ i ≤ 1000000) (htb : tbOk V i C tb) {ts' : List Bool} : ∀ (D : List Int) (f : Nat) (ts : List Bool) (st : List Int), (∀ k : Nat, k < D.length → cd (f + k) = tqC (D.getD k 0)) → (∀ v ∈ D, v ∈ C) → wfl true D st.length 1 → wft D ts ts' → tyd ts st → sml st → st.length ≤ 60 → evC cd (plC 0 0 i) tb D.length f st = qev V i D st ∧ wfC cd D.length f st.length
  | [], f, ts, st, _, _, hw, _, _, _, _ => ⟨rfl, hw⟩
  | v :: D, f, ts, st, hcd, hm, hw, ht, hty, hs, hl => by
    obtain ⟨w1, w2, w3, w4⟩ := hw
    have e0 : cd f = tqC v := by
      have := hcd 0 (by rw [List.length_cons]; omega)
      exact this
    obtain ⟨s1, -, tn, s2, s3, s4⟩ := stq_step hT hi htb (hm v List.mem_cons_self) w1 ht hty hs
    obtain ⟨k1, k2⟩ := tq_ok w1 w2 w3
    obtain ⟨l1, l2⟩ := stC_len (pc := plC 0 0 i) (tb := tb) k1 hl
    rw [s1] at l1 l2
    rw [k2] at l2
    rw [← l2] at w4
    obtain ⟨r1, r2⟩ := evC_qev hT hi htb D (f + 1) tn (stq V i st v) (fun k hk => by
      have := hcd (k + 1) (by rw [List.length_cons]; omega)
      rw [show f + 1 + k = f + (k + 1) by omega]
      exact this) (fun x hx => hm x (List.mem_cons_of_mem _ hx)) w4 s2 s3 s4 l1
    rw [List.length_cons]
    constructor
    · show evC cd (plC 0 0 i) tb D.length (f + 1) (stC (plC 0 0 i) tb (cd f) st) = _
      rw [e0, s1]
      exact r1
    · refine ⟨by rw [e0]; exact k1, ?_⟩
      rw [e0, k2, ← l2]
      exact r2
theorem drop_gd {C : List Int} {k : Nat} (h : k < C.length) : C.drop k = C.getD k 0 :: C.drop (k + 1) := by
  rw [List.drop_eq_getElem_cons h, List.getD_eq_getElem?_getD, List.getElem?_eq_getElem h]
  rfl
theorem s_qTold {V M : Mm} {C : List Int} {t : Bool} {i : Int} (hT : Tw V) (hN : Nw V) (h : Rm V M) (hc : M 78 89 = (C.length : Int)) (hcd : ∀ k : Nat, k < C.length → M 142 k = C.getD k 0) (hw : wfl true C 0 1) (ht : wft C [] [t]) (hl : C.length ≤ 1600) (hi : 0 ≤ i ∧ i ≤ 200000) : wq (f_M_qTold i M) (fun q => (∃ a, qev V i C [] = [a] ∧ q.1 = a ∧ (t = true → a = 0 ∨ a = 1) ∧ -1000000 ≤ a ∧ a ≤ 1000000) ∧ Rm V q.2 ∧ Fr qtL M q.2) := by
  unfold f_M_qTold
  refine wq_d ?_
  have hF0 : Fr [(78, 95)] M (up M 78 95 0) := Fr.rf.up (by simp)
  have hp0 : pilq (up M 78 95 0) [] := ⟨by rw [up_eq]; rfl, trivial⟩
  have h0 : Rm V (up M 78 95 0) := h.fr hF0 rfl
  generalize up M 78 95 0 = M0 at *
  unfold f_M_qTold_L7
  refine wq_lp (fun (z : Int × Int × Mm) => z.1 = i ∧ (0 ≤ z.2.1 ∧ z.2.1 ≤ (C.length : Int)) ∧ Rm V z.2.2 ∧ Fr qtL M z.2.2 ∧ ∃ (st : List Int) (ts : List Bool), pilq z.2.2 st ∧ qev V i (C.drop z.2.1.toNat) st = qev V i C [] ∧ wfl true (C.drop z.2.1.toNat) st.length 1 ∧ wft (C.drop z.2.1.toNat) ts [t] ∧ tyd ts st ∧ sml st ∧ st.length ≤ 60) (fun z => ((C.length : Int) - z.2.1).toNat) ?_ FU _ ⟨rfl, ⟨Int.le_refl _, by show (0 : Int) ≤ (C.length : Int); omega⟩, h0, hF0.cov rfl, [], [], hp0, rfl, hw, ht, rfl, (fun x hx => by cases hx), Nat.zero_le _⟩ ?_
  · rintro kH ⟨v1, v2, N⟩ ⟨q1, q2, q3, q4, st, ts, q5, q6, q7, q8, q9, q10, q11⟩ hk
    have q1 : v1 = i := q1
    subst q1
    have q2 : 0 ≤ v2 ∧ v2 ≤ (C.length : Int) := q2
    have q3 : Rm V N := q3
    have q4 : Fr qtL M N := q4
    have q5 : pilq N st := q5
    have q6 : qev V v1 (C.drop v2.toNat) st = qev V v1 C [] := q6
    have q7 : wfl true (C.drop v2.toNat) st.length 1 := q7
    have q8 : wft (C.drop v2.toNat) ts [t] := q8
    have e89 : N 78 89 = (C.length : Int) := by rw [q4.at 78 89 rfl]; exact hc
    show wq (f_M_qTold_B7 (fun v1 v2 M => kH (v1, v2, M)) v1 v2 N) _
    unfold f_M_qTold_B7
    rw [e89, i32_id (x := (C.length : Int)) (by omega) (by omega), i32_id (x := v2) (by omega) (by omega)]
    refine wq_if (fun c => ?_) (fun c => ?_)
    · have e0 : C.drop v2.toNat = [] := List.drop_eq_nil_of_le (by omega)
      rw [e0] at q6 q8
      have q8 : ts = [t] := q8
      rw [q8] at q9
      obtain ⟨a, r, x1, x2, x3⟩ := q9
      have x3 : r = [] := x3
      rw [x3] at x1
      rw [x1] at q5 q6 q10
      have hq : N 144 0 = a := q5.2.1
      rw [hq]
      refine wq_some ⟨⟨a, q6.symm, rfl, x2, q10 a List.mem_cons_self⟩, q3, q4⟩
    · have hlt : v2.toNat < C.length := by omega
      have ev := hcd v2.toNat hlt
      have e142 : N 142 v2.toNat = C.getD v2.toNat 0 := by rw [q4.row 142 rfl]; exact ev
      have hmem : C.getD v2.toNat 0 ∈ C := by
        rw [List.getD_eq_getElem?_getD, List.getElem?_eq_getElem hlt]
        exact List.getElem_mem hlt
      rw [drop_gd hlt] at q6 q7 q8
      rw [e142]
      generalize C.getD v2.toNat 0 = v at *
      obtain ⟨w1, w2, w3, w4⟩ := q7
      obtain ⟨s1, -, tn, s2, s3, s4⟩ := stq_step hT (i := v1) (by omega) (tb0_ok V v1 C) hmem w1 q8 q9 q10
      obtain ⟨k1, k2⟩ := tq_ok w1 w2 w3
      obtain ⟨l1, l2⟩ := stC_len (pc := plC 0 0 v1) (tb := tb0 V v1) k1 q11
      rw [s1] at l1 l2
      rw [k2] at l2
      rw [← l2] at w4
      have q6 : qev V v1 (C.drop (v2.toNat + 1)) (stq V v1 st v) = qev V v1 C [] := q6
      have hnx : ∀ M', pilq M' (stq V v1 st v) → Rm V M' → Fr qtL M M' → wq (kH (v1, v2 + 1, M')) (fun q => (∃ a, qev V v1 C [] = [a] ∧ q.1 = a ∧ (t = true → a = 0 ∨ a = 1) ∧ -1000000 ≤ a ∧ a ≤ 1000000) ∧ Rm V q.2 ∧ Fr qtL M q.2) := by
        intro M' z1 z2 z3
        have en : (v2 + 1).toNat = v2.toNat + 1 := by omega
        refine hk _ ⟨rfl, ⟨show 0 ≤ v2 + 1 by omega, show v2 + 1 ≤ (C.length : Int) by omega⟩, z2, z3, _, tn, z1, ?_, ?_, ?_, s3, s4, l1⟩ (show ((C.length : Int) - (v2 + 1)).toNat < ((C.length : Int) - v2).toNat by omega)
        · show qev V v1 (C.drop (v2 + 1).toNat) _ = _
          rw [en]; exact q6
        · show wfl true (C.drop (v2 + 1).toNat) _ 1
          rw [en]; exact w4
        · show wft (C.drop (v2 + 1).toNat) _ _
          rw [en]; exact s2
      have hlen : N 78 95 = (st.length : Int) := q5.1
      have hpush : ∀ (x : Int) (M' : Mm), M' = N → stq V v1 st v = x :: st → wq (bV (f_M_qPuts x M') (fun M9 => kH (v1, v2 + 1, M9))) (fun q => (∃ a, qev V v1 C [] = [a] ∧ q.1 = a ∧ (t = true → a = 0 ∨ a = 1) ∧ -1000000 ≤ a ∧ a ≤ 1000000) ∧ Rm V q.2 ∧ Fr qtL M q.2) := by
        intro x M' hM hx
        subst hM
        rw [e_qputs M' (by omega) (by omega), bV_s]
        have hF : Fr [(78, 95), (144, 99999)] M' (up (up M' 144 (M' 78 95).toNat x) 78 95 (M' 78 95 + 1)) := (Fr.rf.up (by simp)).up (by simp)
        exact hnx _ (by rw [hx]; exact pilq_push q5) (q3.fr hF rfl) (q4.tr (hF.cov rfl))
      have hvr : (1000 ≤ v ∧ v ≤ 10999) ∨ (60 ≤ v ∧ v ≤ 62) ∨ (40 ≤ v ∧ v ≤ 42) ∨ (1 ≤ v ∧ v ≤ 13) := by
        rcases w1 with z | z | ⟨z, -⟩ | ⟨-, z⟩
        · omega
        · omega
        · cases z
        · omega
      refine wq_g ⟨by omega, by omega⟩ ?_
      rw [i32_id (x := v) (by omega) (by omega), i32_id (x := 1000) (by decide) (by decide), i32_id (x := 60) (by decide) (by decide), i32_id (x := 40) (by decide) (by decide), i32_id (x := 13) (by decide) (by decide), i32_id (x := 12) (by decide) (by decide)]
      refine wq_if (fun c1 => wq_if (fun c2 => wq_if (fun c3 => wq_if (fun c4 => wq_if (fun c5 => ?_) (fun c5 => ?_)) (fun c4 => ?_)) (fun c3 => ?_)) (fun c2 => ?_)) (fun c1 => ?_)
      · have ea : arC true v = 2 := by
          unfold arC
          rw [if_neg (by omega), if_pos rfl, if_neg (by omega), if_neg (by omega)]
        rw [ea] at w2
        match st, w2 with
        | b :: a :: r, _ =>
          have hb := q10 b List.mem_cons_self
          have ha := q10 a (List.mem_cons_of_mem _ List.mem_cons_self)
          simp only [List.length_cons] at q11
          refine wq_V (s_qjoins (by omega) q5 (by omega) ha.1 ha.2 hb.1 hb.2) (fun M2 ⟨z1, z2⟩ => hnx M2 ?_ (q3.fr z2 rfl) (q4.tr (z2.cov rfl)))
          have e2 : stq V v1 (b :: a :: r) v = jq v a b :: r := by
            unfold stq
            rw [if_neg (by omega), if_neg (by omega), if_neg (by omega), if_neg (by omega), if_neg (by omega)]
          rw [e2]
          exact z1
      · have c5 : v = 12 := Decidable.not_not.mp c5
        have ea : arC true v = 1 := by rw [c5]; decide
        rw [ea] at w2
        match st, w2 with
        | a :: r, _ =>
          simp only [List.length_cons] at hlen q11
          have ha : N 144 r.length = a := q5.2.1
          rw [hlen, i32_id (x := ((r.length + 1 : Nat) : Int) - 1) (by omega) (by omega), show (((r.length + 1 : Nat) : Int) - 1).toNat = r.length by omega, ha]
          have hF : Fr [(144, 99999)] N (up N 144 r.length (1 - a)) := Fr.rf.up (by simp)
          refine wq_g ⟨by omega, by omega⟩ (wq_g ⟨by omega, by omega⟩ (wq_d (hnx _ ?_ (q3.fr hF rfl) (q4.tr (hF.cov rfl)))))
          rw [c5]
          exact ⟨by rw [hF.at 78 95 rfl]; exact q5.1, stk_set q5.2 rfl⟩
      · have c4 : v = 13 := Decidable.not_not.mp c4
        exact hpush 1 N rfl (by rw [c4]; rfl)
      · have hp : -1000000 ≤ ptq (v - 40) v1 ∧ ptq (v - 40) v1 ≤ 1000000 := by
          have h24 : 0 ≤ v1 % 24 ∧ v1 % 24 < 24 := ⟨Int.emod_nonneg _ (by decide), Int.emod_lt_of_pos _ (by decide)⟩
          unfold ptq
          split <;> (try split) <;> omega
        have ep : f_M_qPartOf (v - 40) v1 N = some (ptq (v - 40) v1, N) := by
          unfold ptq at hp
          unfold f_M_qPartOf ptq
          have h24 : 0 ≤ v1 % 24 ∧ v1 % 24 < 24 := ⟨Int.emod_nonneg _ (by decide), Int.emod_lt_of_pos _ (by decide)⟩
          rw [i32_id (x := v - 40) (by omega) (by omega), i32_id (x := v1) (by omega) (by omega), i32_id (x := 24) (by decide) (by decide), tmod_pos (by omega), tdiv_pos (by omega)]
          by_cases d1 : v - 40 = 0
          · rw [if_pos d1, if_pos d1]
          rw [if_neg d1, if_neg d1]
          by_cases d2 : v - 40 = 1
          · rw [if_pos d2, if_pos d2, i32_id (by omega) (by omega)]
          rw [if_neg d2, if_neg d2, i32_id (by omega) (by omega)]
        rw [ep, bI_s, e_qclip _ (by omega) (by omega), bI_s]
        refine hpush _ N rfl ?_
        unfold stq
        rw [if_neg (by omega), if_neg (by omega), if_pos (by omega)]
      · have ea : arC true v = 1 := by
          unfold arC
          rw [if_neg (by omega), if_pos rfl, if_pos (by omega)]
        rw [ea] at w2
        match st, w2 with
        | a :: r, _ =>
          simp only [List.length_cons] at hlen q11
          have ha : N 144 r.length = a := q5.2.1
          have har := q10 a List.mem_cons_self
          rw [hlen, i32_id (x := ((r.length + 1 : Nat) : Int) - 1) (by omega) (by omega), show (((r.length + 1 : Nat) : Int) - 1).toNat = r.length by omega, ha]
          refine wq_g ⟨by omega, by omega⟩ (wq_I (s_qOf hT hN q3 (by omega) har hi.1 hi.2) (fun x M2 ⟨z1, z2, z3⟩ => ?_))
          have z1 : x = ofq V (v - 60) a v1 := z1
          have z3 : Fr wsL N M2 := z3
          have hor := ofq_rng hT (v - 60) a v1
          rw [z1, e_qclip _ (by omega) (by omega), bI_s]
          have e95 : M2 78 95 = ((r.length + 1 : Nat) : Int) := by rw [z3.at 78 95 rfl]; exact hlen
          have hF : Fr [(144, 99999)] M2 (up M2 144 r.length (clp (ofq V (v - 60) a v1))) := Fr.rf.up (by simp)
          refine wq_g ⟨by omega, by omega⟩ (wq_d (hnx _ ?_ (z2.fr hF rfl) (q4.tr ((z3.cov rfl : Fr qtL _ _).tr (hF.cov rfl)))))
          have e2 : stq V v1 (a :: r) v = clp (ofq V (v - 60) a v1) :: r := by
            unfold stq
            rw [if_neg (by omega), if_pos (by omega)]
          rw [e2]
          have h144 : stk (M2 144) (a :: r) := by rw [z3.row 144 rfl]; exact q5.2
          exact ⟨by rw [hF.at 78 95 rfl, e95]; rfl, stk_set h144 rfl⟩
      · rw [i32_id (x := v - 1000) (by omega) (by omega)]
        refine hpush _ N rfl ?_
        unfold stq
        rw [if_pos (by omega)]
  · show ((C.length : Int) - 0).toNat < 1000000000
    omega
