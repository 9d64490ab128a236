/-- the value of a question in an hour -/
noncomputable def qvl (V : Mm) (C : List Int) (i : Int) : Int := (qev V i C []).headD 0
theorem qev_ty {V : Mm} {i : Int} {C : List Int} (hT : Tw V) (hi : 0 ≤ i ∧ i ≤ 1000000) {t : Bool} : ∀ (D : List Int) (ts : List Bool) (st : List Int), (∀ v ∈ D, v ∈ C) → wfl true D st.length 1 → wft D ts [t] → tyd ts st → sml st → ∃ a, qev V i D st = [a] ∧ (t = true → a = 0 ∨ a = 1) ∧ -1000000 ≤ a ∧ a ≤ 1000000
  | [], ts, st, _, _, ht, hty, hs => by
    have ht : ts = [t] := ht
    rw [ht] at hty
    obtain ⟨a, r, x1, x2, x3⟩ := hty
    have x3 : r = [] := x3
    rw [x3] at x1
    rw [x1] at hs ⊢
    exact ⟨a, rfl, x2, hs a List.mem_cons_self⟩
  | v :: D, ts, st, hm, hw, ht, hty, hs => by
    obtain ⟨w1, w2, w3, w4⟩ := hw
    obtain ⟨s1, -, tn, s2, s3, s4⟩ := stq_step hT hi (tb0_ok V i C) (hm v List.mem_cons_self) w1 ht hty hs
    obtain ⟨k1, k2⟩ := tq_ok w1 w2 w3
    obtain ⟨l1, l2⟩ := stC_len (pc := plC 0 0 i) (tb := tb0 V i) k1 (by omega)
    rw [s1] at l1 l2
    rw [k2] at l2
    rw [← l2] at w4
    exact qev_ty hT hi D tn (stq V i st v) (fun x hx => hm x (List.mem_cons_of_mem _ hx)) w4 s2 s3 s4
theorem qvl_ok {V : Mm} {i : Int} {C : List Int} {t : Bool} (hT : Tw V) (hi : 0 ≤ i ∧ i ≤ 1000000) (hw : wfl true C 0 1) (ht : wft C [] [t]) : qev V i C [] = [qvl V C i] ∧ (t = true → qvl V C i = 0 ∨ qvl V C i = 1) ∧ -1000000 ≤ qvl V C i ∧ qvl V C i ≤ 1000000 := by
  obtain ⟨a, a1, a2, a3⟩ := qev_ty hT hi C [] [] (fun _ h => h) hw ht rfl (fun x hx => by cases hx)
  have e : qvl V C i = a := by
    unfold qvl
    rw [a1]
    rfl
  rw [e]
  exact ⟨a1, a2, a3⟩
def qsm (f : Int → Int) (h : Int) : Nat → Int
  | 0 => 0
  | n + 1 => qsm f h n + f (h + n)
def qfi (f : Int → Int) (h : Int) : Nat → Int
  | 0 => -1
  | n + 1 => if qfi f h n = -1 ∧ f (h + n) ≠ 0 then h + n else qfi f h n
def qla (f : Int → Int) (h : Int) : Nat → Int
  | 0 => -1
  | n + 1 => if f (h + n) ≠ 0 then h + n else qla f h n
def qmx (f : Int → Int) (h : Int) : Nat → Int
  | 0 => f h
  | n + 1 => if qmx f h n < f (h + n) then f (h + n) else qmx f h n
def qmn (f : Int → Int) (h : Int) : Nat → Int
  | 0 => f h
  | n + 1 => if f (h + n) < qmn f h n then f (h + n) else qmn f h n
def qan (f : Int → Int) (h kd : Int) (n : Nat) : Int := if kd = 0 then qfi f h n else if kd = 1 then qla f h n else if kd ≤ 3 then qsm f h n else if kd = 4 then qmx f h n else qmn f h n
theorem q_rng {f : Int → Int} {h : Int} (h0 : 0 ≤ h) (hf : ∀ k : Nat, k < 201 → -1000000 ≤ f (h + k) ∧ f (h + k) ≤ 1000000) : ∀ n : Nat, n ≤ 201 → (-1000000 * (n : Int) ≤ qsm f h n ∧ qsm f h n ≤ 1000000 * n) ∧ (-1 ≤ qfi f h n ∧ qfi f h n ≤ h + n) ∧ (-1 ≤ qla f h n ∧ qla f h n ≤ h + n) ∧ (-1000000 ≤ qmx f h n ∧ qmx f h n ≤ 1000000) ∧ (-1000000 ≤ qmn f h n ∧ qmn f h n ≤ 1000000)
  | 0, _ => by
    have := hf 0 (by decide)
    rw [show h + ((0 : Nat) : Int) = h by omega] at this
    refine ⟨⟨by unfold qsm; omega, by unfold qsm; omega⟩, ⟨by unfold qfi; omega, by unfold qfi; omega⟩, ⟨by unfold qla; omega, by unfold qla; omega⟩, this, this⟩
  | n + 1, hn => by
    obtain ⟨a, b, c, d, e⟩ := q_rng h0 hf n (by omega)
    have := hf n (by omega)
    unfold qsm qfi qla qmx qmn
    refine ⟨⟨by omega, by omega⟩, ?_, ?_, ?_, ?_⟩
    · split <;> omega
    · split <;> omega
    · split <;> omega
    · split <;> omega
def woL : List (Nat × Nat) := [(18, 99999), (47, 99999), (73, 99999), (74, 99999), (75, 99999)]
theorem s_work {V M : Mm} {C : List Int} {t : Bool} (hT : Tw V) (hN : Nw V) (h : Cl V M) (hb : M 48 10 = 0) (hu : M 71 4 = us C) (hc : M 71 3 = (C.length : Int)) (hcd : ∀ k : Nat, k < C.length → M 72 k = tqC (C.getD k 0)) (hl : C.length ≤ 1600) (hw : wfl true C 0 1) (ht : wft C [] [t]) : wq (f_Quest_workOut M) (fun M' => (∀ k : Nat, k < 201 → M' 75 k = qvl V C (hr V + k)) ∧ Cl V M' ∧ Fr woL M M') := by
  have hh := hN.1
  unfold f_Quest_workOut f_Quest_workOut_L2
  refine wq_lp (fun (z : Int × Mm) => (0 ≤ z.1 ∧ z.1 ≤ 201) ∧ (∀ k : Nat, (k : Int) < z.1 → z.2 75 k = qvl V C (hr V + k)) ∧ Cl V z.2 ∧ Fr woL M z.2) (fun z => (201 - z.1).toNat) ?_ FU _ ⟨⟨Int.le_refl _, by show (0 : Int) ≤ 201; decide⟩, fun k hk => absurd hk (by show ¬ (k : Int) < 0; omega), h, Fr.rf⟩ ?_
  · rintro kH ⟨v1, N⟩ ⟨q1, q2, q3, q4⟩ hk
    have q1 : 0 ≤ v1 ∧ v1 ≤ 201 := q1
    have q2 : ∀ k : Nat, (k : Int) < v1 → N 75 k = qvl V C (hr V + k) := q2
    have q3 : Cl V N := q3
    have q4 : Fr woL M N := q4
    show wq (f_Quest_workOut_B2 (fun v1 M => kH (v1, M)) v1 N) _
    unfold f_Quest_workOut_B2
    rw [i32_id (x := 201) (by decide) (by decide), i32_id (x := v1) (by omega) (by omega), q3.2.1.1]
    refine wq_if (fun c => wq_some ⟨fun k hk => q2 k (by omega), q3, q4⟩) (fun c => ?_)
    have hu' : N 71 4 = us C := by rw [q4.row 71 rfl]; exact hu
    refine wq_V (s_fillT (C := C) hT hN q3 (by rw [q4.row 48 rfl]; exact hb) hu' (show 0 ≤ hr V + v1 by omega) (by omega)) (fun M1 ⟨g1, g2, g3⟩ => ?_)
    have f1 : Fr woL M M1 := q4.tr (g3.cov rfl)
    have e3 : M1 71 3 = (C.length : Int) := by rw [f1.row 71 rfl]; exact hc
    have e72 : ∀ k : Nat, k < C.length → M1 72 (0 + k) = tqC (C.getD k 0) := fun k hk => by rw [f1.row 72 rfl, Nat.zero_add]; exact hcd k hk
    obtain ⟨tb1, tb2⟩ := tb3_ok hT g1
    obtain ⟨ev1, ev2⟩ := evC_qev (i := hr V + v1) hT ⟨by omega, by omega⟩ tb1 C 0 [] [] e72 (fun _ h => h) hw ht rfl (fun x hx => by cases hx) (by decide)
    have hv := s_value (t := 71) (M := M1) (f := 0) (e := (C.length : Int)) (tb := M1 74) (tide := 0) (round := 0) (hour := hr V + v1) cdOk71 (Int.le_refl _) (by omega) (by omega) (by omega) (by omega) (by rw [show ((C.length : Int) - 0).toNat = C.length by omega]; exact ev2) (fun k hk => ⟨rfl, tb2 k hk⟩) (plC_rng (by decide) (by decide) ⟨by omega, by omega⟩)
    rw [e3, g2.2.1.1]
    refine wq_I hv (fun r M2 ⟨⟨a, a1, a2, a3⟩, a4⟩ => ?_)
    have a2 : r = a := a2
    have a4 : Fr [(73, 99999)] M1 M2 := a4
    rw [show ((C.length : Int) - 0).toNat = C.length by omega] at a1
    have a1 : evC (M1 72) (plC 0 0 (hr V + v1)) (M1 74) C.length 0 [] = [a] := a1
    rw [ev1, (qvl_ok hT ⟨by omega, by omega⟩ hw ht).1] at a1
    have ea : qvl V C (hr V + v1) = a := by injection a1
    rw [e_set (n := 201) M2 rfl (by decide) q1.1 (by omega), bV_s]
    have hF : Fr [(75, 99999)] M2 (up M2 75 v1.toNat r) := Fr.rf.up (by simp)
    have f2 : Fr woL M M2 := f1.tr (a4.cov rfl)
    refine hk _ ⟨⟨show 0 ≤ v1 + 1 by omega, show v1 + 1 ≤ 201 by omega⟩, fun k hk => ?_, (g2.fr a4 rfl rfl rfl).fr hF rfl rfl rfl, f2.tr (hF.cov rfl)⟩ (show (201 - (v1 + 1)).toNat < (201 - v1).toNat by omega)
    have hk : (k : Int) < v1 + 1 := hk
    show up M2 75 v1.toNat r 75 k = _
    rw [up_at]
    by_cases f : (k : Int) = v1
    · rw [if_pos ⟨rfl, by omega⟩, f, ea, a2]
    · rw [if_neg (fun z => f (by have := z.2; omega)), a4.row 75 rfl, g3.row 75 rfl]
      exact q2 k (by omega)
  · show (201 - (0 : Int)).toNat < 1000000000
    decide
theorem s_answer {V M : Mm} {f : Int → Int} {kd : Int} (hkd : 0 ≤ kd ∧ kd ≤ 5) (hh : 0 ≤ hr V ∧ hr V ≤ 9999) (h8 : M 39 8 = hr V) (hv : ∀ k : Nat, k < 201 → M 75 k = f (hr V + k)) (hf : ∀ k : Nat, k < 201 → -1000000 ≤ f (hr V + k) ∧ f (hr V + k) ≤ 1000000) : wq (f_Quest_answer kd M) (fun q => q.1 = qan f (hr V) kd 201 ∧ q.2 = M) := by
  have hq := q_rng hh.1 hf
  have h00 := hv 0 (by decide)
  rw [show hr V + ((0 : Nat) : Int) = hr V by omega] at h00
  unfold f_Quest_answer
  rw [e_cell_in (n := 201) M rfl (by decide) (Int.le_refl _) (by decide), bI_s, show (0 : Int).toNat = 0 from rfl, h00]
  unfold f_Quest_answer_L25
  refine wq_lp (fun (z : Int × Int × Int × Int × Int × Int × Int × Mm) => ∃ k : Nat, k ≤ 201 ∧ z = (kd, qsm f (hr V) k, qmx f (hr V) k, qmn f (hr V) k, qfi f (hr V) k, qla f (hr V) k, (k : Int), M)) (fun z => (201 - z.2.2.2.2.2.2.1).toNat) ?_ FU _ ⟨0, by decide, rfl⟩ ?_
  · rintro kH z ⟨k, hk1, rfl⟩ hk
    obtain ⟨r1, r2, r3, r4, r5⟩ := hq k hk1
    show wq (f_Quest_answer_B25 (fun v1 v2 v4 v5 v6 v7 v8 M => kH (v1, v2, v4, v5, v6, v7, v8, M)) _ kd (qsm f (hr V) k) (qmx f (hr V) k) (qmn f (hr V) k) (qfi f (hr V) k) (qla f (hr V) k) (k : Int) M) _
    unfold f_Quest_answer_B25
    rw [i32_id (x := 201) (by decide) (by decide), i32_id (x := (k : Int)) (by omega) (by omega)]
    refine wq_if (fun c => ?_) (fun c => ?_)
    · have ek : k = 201 := by omega
      subst ek
      show wq (if i32 kd = 0 then some (i32 (qfi f (hr V) 201), M) else if i32 kd = 1 then some (i32 (qla f (hr V) 201), M) else if i32 kd = 2 then some (qsm f (hr V) 201, M) else if i32 kd = 3 then some (qsm f (hr V) 201, M) else if i32 kd = 4 then some (i32 (qmx f (hr V) 201), M) else if i32 kd = 5 then some (i32 (qmn f (hr V) 201), M) else some (qsm f (hr V) 201, M)) _
      rw [i32_id (x := kd) (by omega) (by omega), i32_id (x := qfi f (hr V) 201) (by omega) (by omega), i32_id (x := qla f (hr V) 201) (by omega) (by omega), i32_id (x := qmx f (hr V) 201) (by omega) (by omega), i32_id (x := qmn f (hr V) 201) (by omega) (by omega)]
      unfold qan
      generalize qfi f (hr V) 201 = b1
      generalize qla f (hr V) 201 = b2
      generalize qsm f (hr V) 201 = b3
      generalize qmx f (hr V) 201 = b4
      generalize qmn f (hr V) 201 = b5
      by_cases d0 : kd = 0
      · rw [if_pos d0, if_pos d0]; exact wq_some ⟨rfl, rfl⟩
      rw [if_neg d0, if_neg d0]
      by_cases d1 : kd = 1
      · rw [if_pos d1, if_pos d1]; exact wq_some ⟨rfl, rfl⟩
      rw [if_neg d1, if_neg d1]
      by_cases d2 : kd = 2
      · rw [if_pos d2]; exact wq_some ⟨(if_pos (show kd ≤ 3 by omega)).symm, rfl⟩
      rw [if_neg d2]
      by_cases d3 : kd = 3
      · rw [if_pos d3]; exact wq_some ⟨(if_pos (show kd ≤ 3 by omega)).symm, rfl⟩
      rw [if_neg d3, if_neg (show ¬ kd ≤ 3 by omega)]
      by_cases d4 : kd = 4
      · rw [if_pos d4, if_pos d4]; exact wq_some ⟨rfl, rfl⟩
      rw [if_neg d4, if_neg d4, if_pos (by omega)]
      exact wq_some ⟨rfl, rfl⟩
    · have hk2 : k < 201 := by omega
      have hfk := hf k hk2
      have hvk := hv k hk2
      rw [e_cell_in (n := 201) M rfl (by decide) (by omega) (by omega), bI_s, Int.toNat_natCast, hvk, e_max M (by omega) (by omega) (by omega) (by omega), bI_s, e_min M (by omega) (by omega) (by omega) (by omega), bI_s, i32_id (x := f (hr V + k)) (by omega) (by omega), h8]
      have e1 : qmx f (hr V) (k + 1) = if qmx f (hr V) k < f (hr V + k) then f (hr V + k) else qmx f (hr V) k := rfl
      have e2 : qmn f (hr V) (k + 1) = if f (hr V + k) < qmn f (hr V) k then f (hr V + k) else qmn f (hr V) k := rfl
      have e3 : qsm f (hr V) (k + 1) = qsm f (hr V) k + f (hr V + k) := rfl
      have e4 : qfi f (hr V) (k + 1) = if qfi f (hr V) k = -1 ∧ f (hr V + k) ≠ 0 then hr V + k else qfi f (hr V) k := rfl
      have e5 : qla f (hr V) (k + 1) = if f (hr V + k) ≠ 0 then hr V + k else qla f (hr V) k := rfl
      rw [← e1, ← e2, ← e3]
      have hnx : ∀ x y : Int, x = qfi f (hr V) (k + 1) → y = qla f (hr V) (k + 1) → wq (kH (kd, qsm f (hr V) (k + 1), qmx f (hr V) (k + 1), qmn f (hr V) (k + 1), x, y, (k : Int) + 1, M)) (fun q => q.1 = qan f (hr V) kd 201 ∧ q.2 = M) := by
        intro x y hx hy
        rw [hx, hy]
        exact hk _ ⟨k + 1, by omega, by rw [show (((k + 1 : Nat) : Int)) = (k : Int) + 1 by omega]⟩ (show (201 - ((k : Int) + 1)).toNat < (201 - (k : Int)).toNat by omega)
      refine wq_if (fun d => ?_) (fun d => ?_)
      · unfold f_Quest_answer_J88
        rw [i32_id (x := f (hr V + k)) (by omega) (by omega)]
        refine wq_t d (hnx _ _ ?_ ?_)
        · rw [e4, if_neg (fun z => z.2 d)]
        · rw [e5, if_neg (fun z => z d)]
      · unfold f_Quest_answer_J88
        rw [i32_id (x := f (hr V + k)) (by omega) (by omega), i32_id (x := qfi f (hr V) k) (by omega) (by omega), i32_id (x := (-1)) (by decide) (by decide), h8]
        refine wq_e d (wq_if (fun g => hnx _ _ ?_ ?_) (fun g => hnx _ _ ?_ ?_))
        · rw [e4, if_neg (fun z => g z.1)]
        · rw [e5, if_pos d]
        · rw [e4, if_pos ⟨Decidable.not_not.mp g, d⟩]
        · rw [e5, if_pos d]
  · show (201 - (0 : Int)).toNat < 1000000000
    decide
