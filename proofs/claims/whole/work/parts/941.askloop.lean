def tkq (kd v i A nw : Int) : Int := if kd = 0 then (if v = 1 ∧ A = -1 then i else A) else if kd = 1 then (if v = 1 then i else A) else if kd = 2 then (if v = 1 then A + 1 else A) else if kd = 3 then A + v else if kd = 4 then (if nw ≠ 0 ∨ A < v then v else A) else (if nw ≠ 0 ∨ v < A then v else A)
def tkP (x : Int) (M M' : Mm) : Prop := M' 78 96 = x ∧ M' 78 97 = 0 ∧ Fr [(78, 96), (78, 97)] M M'
theorem s_t90 {kd v A : Int} {M : Mm} (hk : 0 ≤ kd ∧ kd ≤ 3) (hA : M 78 96 = A) : wq (f_M_qTakes_J90 kd v M) (tkP A M) := by
  unfold f_M_qTakes_J90
  rw [i32_id (x := kd) (by omega) (by omega), i32_id (x := 3) (by decide) (by decide)]
  refine wq_t (by omega) (wq_g (Or.inl (by decide)) (wq_d (wq_some ⟨?_, up_eq _ _ _ _, Fr.rf.up (by simp)⟩)))
  rw [up_col (by decide)]
  exact hA
theorem tkP.ofup {x y : Int} {M M' : Mm} (h : tkP x (up M 78 96 y) M') : tkP x M M' := ⟨h.1, h.2.1, (Fr.rf.up (by simp) : Fr [(78, 96), (78, 97)] M (up M 78 96 y)).tr h.2.2⟩
theorem s_t75 {kd v A : Int} {M : Mm} (hk : 0 ≤ kd ∧ kd ≤ 2) (hA : M 78 96 = A) : wq (f_M_qTakes_J75 kd v M) (tkP A M) := by
  unfold f_M_qTakes_J75
  rw [i32_id (x := kd) (by omega) (by omega), i32_id (x := 3) (by decide) (by decide)]
  exact wq_t (by omega) (s_t90 ⟨hk.1, by omega⟩ hA)
theorem s_t55 {kd v s A : Int} {M : Mm} (hk : 0 ≤ kd ∧ kd ≤ 1) (hA : M 78 96 = A) : wq (f_M_qTakes_J55 kd v s M) (tkP A M) := by
  unfold f_M_qTakes_J55
  rw [i32_id (x := kd) (by omega) (by omega), i32_id (x := 2) (by decide) (by decide)]
  exact wq_t (by omega) (s_t75 ⟨hk.1, by omega⟩ hA)
theorem s_qTakes {kd v i A nw : Int} {M : Mm} (hk : 0 ≤ kd ∧ kd ≤ 5) (hv : -1000000 ≤ v ∧ v ≤ 1000000) (hi : 0 ≤ i ∧ i ≤ 1000000) (hA : M 78 96 = A) (hAr : -1000000000 ≤ A ∧ A ≤ 1000000000) (hn : M 78 97 = nw) (hnr : nw = 0 ∨ nw = 1) : wq (f_M_qTakes kd v i M) (tkP (tkq kd v i A nw) M) := by
  have q64 : ∀ x : Int, -1000000000 ≤ x → x ≤ 1000000000 → -9223372036854775808 ≤ x ∧ x < 9223372036854775808 := fun x _ _ => by omega
  have hcv : (i32 (cmp64 v 1) = 0) ↔ v = 1 := c64_eq (by omega) (by omega) (by omega) (by omega)
  have hcA : (i32 (cmp64 A (-1)) = 0) ↔ A = -1 := c64_eq (by omega) (by omega) (by omega) (by omega)
  have hup : ∀ x : Int, (up M 78 96 x) 78 96 = x := fun x => up_eq _ _ _ _
  have key : ∀ s : Int, ((s = 1 ∧ kd < 3 ∧ v = 1) ∨ (s = 0 ∧ ¬ (kd < 3 ∧ v = 1))) → wq (f_M_qTakes_J16 kd v i s M) (tkP (tkq kd v i A nw) M) := by
    intro s hs
    have es : i32 s = s := i32_id (by omega) (by omega)
    have ek : i32 kd = kd := i32_id (by omega) (by omega)
    have ei : i32 i = i := i32_id (by omega) (by omega)
    unfold f_M_qTakes_J16
    rw [ek, es, hA, ei]
    by_cases d0 : kd = 0
    · have e0 : tkq kd v i A nw = if v = 1 ∧ A = -1 then i else A := by
        unfold tkq
        rw [if_pos d0]
      rw [e0]
      refine wq_e (fun z => z d0) ?_
      have h38 : ∀ A', M 78 96 = A' → wq (f_M_qTakes_J38 kd v i s M) (tkP A' M) := by
        intro A' hA'
        unfold f_M_qTakes_J38
        rw [ek, i32_id (x := 1) (by decide) (by decide)]
        exact wq_t (by omega) (s_t55 (by omega) hA')
      refine wq_if (fun c => ?_) (fun c => ?_)
      · rw [if_neg (fun z => by omega)]
        exact h38 A hA
      · have hv1 : v = 1 := by omega
        refine wq_if (fun c2 => ?_) (fun c2 => ?_)
        · rw [if_pos ⟨hv1, hcA.mp c2⟩]
          exact wq_d (wq_m (s_t55 (by omega) (hup i)) (fun M' z => z.ofup))
        · rw [if_neg (fun z => c2 (hcA.mpr z.2))]
          exact h38 A hA
    · refine wq_t d0 ?_
      unfold f_M_qTakes_J38
      rw [ek, es, ei, i32_id (x := 1) (by decide) (by decide)]
      by_cases d1 : kd = 1
      · have e0 : tkq kd v i A nw = if v = 1 then i else A := by
          unfold tkq
          rw [if_neg d0, if_pos d1]
        rw [e0]
        refine wq_e (fun z => z d1) (wq_if (fun c => ?_) (fun c => ?_))
        · rw [if_neg (by omega)]
          exact s_t55 (by omega) hA
        · rw [if_pos (by omega)]
          exact wq_d (wq_m (s_t55 (by omega) (hup i)) (fun M' z => z.ofup))
      · refine wq_t d1 ?_
        unfold f_M_qTakes_J55
        rw [ek, es, hA, i32_id (x := 2) (by decide) (by decide)]
        by_cases d2 : kd = 2
        · have e0 : tkq kd v i A nw = if v = 1 then A + 1 else A := by
            unfold tkq
            rw [if_neg d0, if_neg d1, if_pos d2]
          rw [e0]
          refine wq_e (fun z => z d2) (wq_if (fun c => ?_) (fun c => ?_))
          · rw [if_neg (by omega)]
            exact s_t75 (by omega) hA
          · rw [if_pos (by omega)]
            exact wq_d (wq_m (s_t75 (by omega) (hup (A + 1))) (fun M' z => z.ofup))
        · refine wq_t d2 ?_
          unfold f_M_qTakes_J75
          rw [ek, hA, i32_id (x := 3) (by decide) (by decide)]
          by_cases d3 : kd = 3
          · have e0 : tkq kd v i A nw = A + v := by
              unfold tkq
              rw [if_neg d0, if_neg d1, if_neg d2, if_pos d3]
            rw [e0]
            exact wq_e (fun z => z d3) (wq_d (wq_m (s_t90 (by omega) (hup (A + v))) (fun M' z => z.ofup)))
          · refine wq_t d3 ?_
            have fin : ∀ x : Int, x = tkq kd v i A nw → wq (bd (up M 78 96 x) (fun M2 => gd (i32 0 = 0 ∨ i32 0 = 1) (bd (up M2 78 97 0) (fun M3 => some M3)))) (tkP (tkq kd v i A nw) M) := by
              intro x hx
              refine wq_d (wq_g (Or.inl (by decide)) (wq_d (wq_some ⟨?_, up_eq _ _ _ _, (Fr.rf.up (by simp)).up (by simp)⟩)))
              rw [up_col (by decide), up_eq]
              exact hx
            have stay : A = tkq kd v i A nw → wq (gd (i32 0 = 0 ∨ i32 0 = 1) (bd (up M 78 97 0) (fun M4 => some M4))) (tkP (tkq kd v i A nw) M) := by
              intro hx
              refine wq_g (Or.inl (by decide)) (wq_d (wq_some ⟨?_, up_eq _ _ _ _, Fr.rf.up (by simp)⟩))
              rw [up_col (by decide), hA]
              exact hx
            have e4 : kd = 4 → tkq kd v i A nw = if nw ≠ 0 ∨ A < v then v else A := by
              intro d4
              unfold tkq
              rw [if_neg d0, if_neg d1, if_neg d2, if_neg d3, if_pos d4]
            have e5 : kd ≠ 4 → tkq kd v i A nw = if nw ≠ 0 ∨ v < A then v else A := by
              intro d4
              unfold tkq
              rw [if_neg d0, if_neg d1, if_neg d2, if_neg d3, if_neg d4]
            have eN : i32 nw = nw := i32_id (by omega) (by omega)
            unfold f_M_qTakes_J90
            rw [ek, hn, hA, eN, i32_id (x := 3) (by decide) (by decide), i32_id (x := 4) (by decide) (by decide)]
            refine wq_e (by omega) (wq_if (fun c => ?_) (fun c => ?_))
            · refine fin v ?_
              by_cases d4 : kd = 4
              · rw [e4 d4, if_pos (Or.inl c)]
              · rw [e5 d4, if_pos (Or.inl c)]
            · refine wq_if (fun d4 => ?_) (fun d4 => ?_)
              · refine wq_if (fun g => stay ?_) (fun g => fin v ?_)
                · have := (c64_ge (by omega) (by omega) (by omega) (by omega)).mp g
                  rw [e5 d4, if_neg (fun z => z.elim c (fun z => by omega))]
                · have hg : ¬ A ≤ v := fun z => g ((c64_ge (by omega) (by omega) (by omega) (by omega)).mpr z)
                  rw [e5 d4, if_pos (Or.inr (by omega))]
              · have d4 : kd = 4 := Decidable.not_not.mp d4
                refine wq_if (fun g => stay ?_) (fun g => fin v ?_)
                · have := (c64_le (by omega) (by omega) (by omega) (by omega)).mp g
                  rw [e4 d4, if_neg (fun z => z.elim c (fun z => by omega))]
                · have hg : ¬ v ≤ A := fun z => g ((c64_le (by omega) (by omega) (by omega) (by omega)).mpr z)
                  rw [e4 d4, if_pos (Or.inr (by omega))]
  unfold f_M_qTakes
  rw [i32_id (x := kd) (by omega) (by omega), i32_id (x := 3) (by decide) (by decide)]
  refine wq_if (fun c => key 0 (Or.inr ⟨rfl, fun z => by omega⟩)) (fun c => wq_if (fun c2 => key 0 (Or.inr ⟨rfl, fun z => c2 (hcv.mpr z.2)⟩)) (fun c2 => key 1 (Or.inl ⟨rfl, by omega, hcv.mp (Decidable.not_not.mp c2)⟩)))
/-- what the reference has after some hours -/
def qrf (f : Int → Int) (h kd : Int) (n : Nat) (A nw : Int) : Prop := (nw = if n = 0 then 1 else 0) ∧ (if kd ≤ 3 ∨ 1 ≤ n then A = qan f h kd n else A = 0)
theorem qrf_step {f : Int → Int} {h kd A nw : Int} {n : Nat} (hk : 0 ≤ kd ∧ kd ≤ 5) (h01 : kd ≤ 2 → f (h + n) = 0 ∨ f (h + n) = 1) (hq : qrf f h kd n A nw) : qrf f h kd (n + 1) (tkq kd (f (h + n)) (h + n) A nw) 0 := by
  obtain ⟨q1, q2⟩ := hq
  refine ⟨by rw [if_neg (Nat.succ_ne_zero n)], ?_⟩
  rw [if_pos (Or.inr (by omega))]
  unfold tkq qan
  unfold qan at q2
  by_cases d0 : kd = 0
  · rw [if_pos d0, if_pos d0]
    rw [if_pos (Or.inl (by omega)), if_pos d0] at q2
    rw [q2]
    show _ = if qfi f h n = -1 ∧ f (h + n) ≠ 0 then h + n else qfi f h n
    have := h01 (by omega)
    by_cases c : f (h + n) = 1 ∧ qfi f h n = -1
    · rw [if_pos c, if_pos ⟨c.2, by omega⟩]
    · rw [if_neg c, if_neg (fun z => c ⟨by omega, z.1⟩)]
  rw [if_neg d0, if_neg d0]
  rw [if_neg d0] at q2
  by_cases d1 : kd = 1
  · rw [if_pos d1, if_pos d1]
    rw [if_pos (Or.inl (by omega)), if_pos d1] at q2
    rw [q2]
    show _ = if f (h + n) ≠ 0 then h + n else qla f h n
    have := h01 (by omega)
    by_cases c : f (h + n) = 1
    · rw [if_pos c, if_pos (by omega)]
    · rw [if_neg c, if_neg (by omega)]
  rw [if_neg d1, if_neg d1]
  rw [if_neg d1] at q2
  by_cases d2 : kd = 2
  · rw [if_pos d2, if_pos (show kd ≤ 3 by omega)]
    rw [if_pos (Or.inl (by omega)), if_pos (show kd ≤ 3 by omega)] at q2
    rw [q2]
    show _ = qsm f h n + f (h + n)
    have := h01 (by omega)
    by_cases c : f (h + n) = 1
    · rw [if_pos c]; omega
    · rw [if_neg c]; omega
  rw [if_neg d2]
  by_cases d3 : kd = 3
  · rw [if_pos d3, if_pos (show kd ≤ 3 by omega)]
    rw [if_pos (Or.inl (by omega)), if_pos (show kd ≤ 3 by omega)] at q2
    rw [q2]
    rfl
  rw [if_neg d3, if_neg (show ¬ kd ≤ 3 by omega)]
  rw [if_neg (show ¬ kd ≤ 3 by omega)] at q2
  have e0 : h + ((0 : Nat) : Int) = h := by omega
  by_cases d4 : kd = 4
  · rw [if_pos d4, if_pos d4]
    rw [if_pos d4] at q2
    show _ = if qmx f h n < f (h + n) then f (h + n) else qmx f h n
    cases n with
    | zero =>
      rw [if_pos rfl] at q1
      rw [if_pos (Or.inl (by omega)), e0]
      show f h = if f h < f h then f h else f h
      split <;> rfl
    | succ n =>
      rw [if_neg (Nat.succ_ne_zero n)] at q1
      rw [if_pos (Or.inr (by omega))] at q2
      rw [q2]
      by_cases c : qmx f h (n + 1) < f (h + ((n + 1 : Nat) : Int))
      · rw [if_pos (Or.inr c), if_pos c]
      · rw [if_neg (fun z => z.elim (fun z => z q1) c), if_neg c]
  · rw [if_neg d4, if_neg d4]
    rw [if_neg d4] at q2
    show _ = if f (h + n) < qmn f h n then f (h + n) else qmn f h n
    cases n with
    | zero =>
      rw [if_pos rfl] at q1
      rw [if_pos (Or.inl (by omega)), e0]
      show f h = if f h < f h then f h else f h
      split <;> rfl
    | succ n =>
      rw [if_neg (Nat.succ_ne_zero n)] at q1
      rw [if_pos (Or.inr (by omega))] at q2
      rw [q2]
      by_cases c : f (h + ((n + 1 : Nat) : Int)) < qmn f h (n + 1)
      · rw [if_pos (Or.inr c), if_pos c]
      · rw [if_neg (fun z => z.elim (fun z => z q1) c), if_neg c]
def qaL : List (Nat × Nat) := [(78, 43), (106, 99999), (107, 99999), (78, 95), (144, 99999), (78, 96), (78, 97)]
theorem s_askLoop {V M : Mm} {C : List Int} {t : Bool} {kd A : Int} (hT : Tw V) (hN : Nw V) (h : Rm V M) (hc : M 78 89 = (C.length : Int)) (hcd : ∀ k : Nat, k < C.length → M 142 k = C.getD k 0) (hw : wfl true C 0 1) (ht : wft C [] [t]) (hl : C.length ≤ 1600) (hk : 0 ≤ kd ∧ kd ≤ 5) (ht2 : kd ≤ 2 → t = true) (hA : M 78 96 = A) (hn : M 78 97 = 1) (hA0 : A = if kd < 2 then -1 else 0) : wq (f_M_ask_L167 FU (kd, (M 108 0), M)) (fun q => q.1 = qan (qvl V C) (hr V) kd 201 ∧ Fr qaL M q.2) := by
  have hh := hN.1
  have e108 : M 108 0 = hr V := by rw [h.2.2.2.2.2.2]; rfl
  have hf : ∀ k : Nat, k < 201 → -1000000 ≤ qvl V C (hr V + k) ∧ qvl V C (hr V + k) ≤ 1000000 := fun k hk => (qvl_ok hT ⟨by omega, by omega⟩ hw ht).2.2
  have hq := q_rng hh.1 hf
  rw [e108]
  unfold f_M_ask_L167
  refine wq_lp (fun (z : Int × Int × Mm) => z.1 = kd ∧ ∃ n : Nat, n ≤ 201 ∧ z.2.1 = hr V + n ∧ qrf (qvl V C) (hr V) kd n (z.2.2 78 96) (z.2.2 78 97) ∧ Rm V z.2.2 ∧ Fr qaL M z.2.2) (fun z => (hr V + 201 - z.2.1).toNat) ?_ FU _ ⟨rfl, 0, by decide, by show hr V = hr V + ((0 : Nat) : Int); omega, ⟨hn, ?_⟩, h, Fr.rf⟩ ?_
  · rintro kH ⟨v1, v2, N⟩ ⟨q1, n, q2, q3, q4, q5, q6⟩ hg
    have q1 : v1 = kd := q1
    have q3 : v2 = hr V + n := q3
    have q4 : qrf (qvl V C) (hr V) kd n (N 78 96) (N 78 97) := q4
    have q5 : Rm V N := q5
    have q6 : Fr qaL M N := q6
    subst q1 q3
    have q4 : qrf (qvl V C) (hr V) v1 n (N 78 96) (N 78 97) := q4
    have q5 : Rm V N := q5
    have q6 : Fr qaL M N := q6
    have e108' : N 108 0 = hr V := by rw [q5.2.2.2.2.2.2]; rfl
    show wq (f_M_ask_B167 (fun v1 v2 M => kH (v1, v2, M)) v1 (hr V + n) N) _
    unfold f_M_ask_B167
    rw [e108', i32_id (x := hr V + 200) (by omega) (by omega), i32_id (x := hr V + n) (by omega) (by omega)]
    refine wq_if (fun c => ?_) (fun c => ?_)
    · have en : n = 201 := by omega
      subst en
      have := q4.2
      rw [if_pos (Or.inr (by decide))] at this
      exact wq_some ⟨this, q6⟩
    · have hn2 : n < 201 := by omega
      refine wq_I (s_qTold (C := C) (t := t) hT hN q5 (by rw [q6.at 78 89 rfl]; exact hc) (fun k hk => by rw [q6.row 142 rfl]; exact hcd k hk) hw ht hl ⟨by omega, by omega⟩) (fun r M2 ⟨⟨a, a1, a2, a3, a4⟩, a5, a6⟩ => ?_)
      have a2 : r = a := a2
      have a6 : Fr qtL N M2 := a6
      have ea : qvl V C (hr V + n) = a := by
        unfold qvl
        rw [a1]
        rfl
      rw [a2, ← ea]
      have q4' : qrf (qvl V C) (hr V) v1 n (M2 78 96) (M2 78 97) := by rw [a6.at 78 96 rfl, a6.at 78 97 rfl]; exact q4
      have hAr : -1000000000 ≤ M2 78 96 ∧ M2 78 96 ≤ 1000000000 := by
        have h2 := q4'.2
        obtain ⟨r1, r2, r3, r4, r5⟩ := hq n q2
        by_cases g : v1 ≤ 3 ∨ 1 ≤ n
        · rw [if_pos g] at h2
          rw [h2]
          unfold qan
          split
          · omega
          split
          · omega
          split
          · omega
          split <;> omega
        · rw [if_neg g] at h2
          omega
      refine wq_V (s_qTakes (A := M2 78 96) (nw := M2 78 97) hk (hf n hn2) ⟨by omega, by omega⟩ rfl hAr rfl (by rw [q4'.1]; split <;> simp)) (fun M3 ⟨x1, x2, x3⟩ => ?_)
      have f3 : Fr qaL M M3 := q6.tr ((a6.cov rfl : Fr qaL _ _).tr (x3.cov rfl))
      have hstep := qrf_step hk (fun z => by
        have := a3 (ht2 z)
        rw [ea]
        exact this) q4'
      refine hg _ ⟨rfl, n + 1, by omega, by show hr V + n + 1 = hr V + ((n + 1 : Nat) : Int); omega, ?_, a5.fr x3 rfl, f3⟩ (show (hr V + 201 - (hr V + n + 1)).toNat < (hr V + 201 - (hr V + n)).toNat by omega)
      show qrf _ _ v1 (n + 1) (M3 78 96) (M3 78 97)
      rw [x1, x2]
      exact hstep
  · show (if kd ≤ 3 ∨ 1 ≤ 0 then M 78 96 = qan (qvl V C) (hr V) kd 0 else M 78 96 = 0)
    rw [hA, hA0]
    unfold qan
    by_cases d0 : kd = 0
    · rw [if_pos (Or.inl (by omega)), if_pos (by omega), if_pos d0]; rfl
    by_cases d1 : kd = 1
    · rw [if_pos (Or.inl (by omega)), if_pos (by omega), if_neg d0, if_pos d1]; rfl
    by_cases d3 : kd ≤ 3
    · rw [if_pos (Or.inl d3), if_neg (by omega), if_neg d0, if_neg d1, if_pos d3]; rfl
    · rw [if_neg (by omega), if_neg (by omega)]
  · show (hr V + 201 - hr V).toNat < 1000000000
    omega
