theorem e_uses {C : List Int} {M : Mm} (h : M 71 4 = us C) : f_Code_uses 71 (-6) M = some (if (60 : Int) ∈ C then 1 else 0, M) ∧ f_Code_uses 71 (-7) M = some (if (61 : Int) ∈ C then 1 else 0, M) ∧ f_Code_uses 71 (-8) M = some (if (62 : Int) ∈ C then 1 else 0, M) := by
  have ht : ∀ u x : Int, (i32 (and32 (shr32 u (-6 - x)) 1) = i32 1) → (if ¬ i32 (and32 (shr32 u (-6 - x)) 1) = i32 1 then some ((0 : Int), M) else some (1, M)) = some (1, M) := fun u x h => if_neg (fun z => z h)
  have hf : ∀ u x : Int, ¬ (i32 (and32 (shr32 u (-6 - x)) 1) = i32 1) → (if ¬ i32 (and32 (shr32 u (-6 - x)) 1) = i32 1 then some ((0 : Int), M) else some (1, M)) = some (0, M) := fun u x h => if_pos h
  unfold f_Code_uses
  rw [h]
  unfold us
  by_cases ha : (60 : Int) ∈ C <;> by_cases hb : (61 : Int) ∈ C <;> by_cases hc : (62 : Int) ∈ C <;> simp only [ha, hb, hc, if_true, if_false, ↓reduceIte] <;> refine ⟨?_, ?_, ?_⟩ <;> first | exact ht _ _ (by decide +kernel) | exact hf _ _ (by decide +kernel)
theorem s_passed {V M : Mm} (hT : Tw V) (hN : Nw V) (h : Cl V M) (hb : M 48 10 = 0) {w i : Int} (h1 : 0 ≤ w) (h2 : w < nW V) (h3 : 0 ≤ i) (h4 : i ≤ 200000) : wq (f_Quest_passed w i M) (fun q => q.1 = psd V w i ∧ Cl V q.2 ∧ Fr wcL M q.2) := by
  have hS := hT.2.1
  have hW := hT.2.2.1
  have hbr := (hT.2.2.2.2 w h1 h2).1
  unfold f_Quest_passed f_Quest_passed_L5
  refine wq_lp (fun (z : Int × Int × Int × Int × Mm) => z.1 = w ∧ z.2.1 = i ∧ (0 ≤ z.2.2.2.1 ∧ z.2.2.2.1 ≤ nS V) ∧ isC (fun s => fre V [] s (br V w) i) 0 z.2.2.2.1.toNat z.2.2.1 ∧ Cl V z.2.2.2.2 ∧ Fr wcL M z.2.2.2.2) (fun z => (nS V - z.2.2.2.1).toNat) ?_ FU _ ⟨rfl, rfl, ⟨Int.le_refl _, by show 0 ≤ nS V; omega⟩, show isC (fun s => fre V [] s (br V w) i) 0 (0 : Int).toNat 0 from rfl, h, Fr.rf⟩ ?_
  · rintro kH ⟨v1, v2, v3, v4, N⟩ ⟨q1, q2, q3, q4, q5, q6⟩ hk
    have q1 : v1 = w := q1
    have q2 : v2 = i := q2
    subst q1 q2
    have a3 : 0 ≤ v4 ∧ v4 ≤ nS V := q3
    have a4 : isC (fun s => fre V [] s (br V v1) v2) 0 v4.toNat v3 := q4
    have a5 : Cl V N := q5
    have a6 : Fr wcL M N := q6
    clear q3 q4 q5 q6
    have hb' : N 48 10 = 0 := by rw [a6.row 48 rfl]; exact hb
    show wq (f_Quest_passed_B5 (fun v1 v2 v3 v4 M => kH (v1, v2, v3, v4, M)) v1 v2 v3 v4 N) _
    unfold f_Quest_passed_B5
    rw [e_count1 a5.1, bI_s, i32_id (x := nS V) (by omega) (by omega), i32_id (x := v4) (by omega) (by omega)]
    refine wq_if (fun c => wq_some ⟨?_, a5, a6⟩) (fun c => ?_)
    · rw [show v4.toNat = (nS V).toNat by omega] at a4
      exact isC_un _ _ _ a4 (psd_is V v1 v2)
    · rw [e_cell_in (n := 6) N rfl (by decide) h1 (by omega), bI_s, (a5.1.2.2.1 v1 h1 h2).1]
      have en : (v4 + 1).toNat = v4.toNat + 1 := by omega
      have ea : 0 + ((v4.toNat : Nat) : Int) = v4 := by omega
      have hnx : ∀ x M', Cl V M' → Fr wcL M M' → isC (fun s => fre V [] s (br V v1) v2) 0 (v4.toNat + 1) x → wq (kH (v1, v2, x, v4 + 1, M')) (fun q => q.1 = psd V v1 v2 ∧ Cl V q.2 ∧ Fr wcL M q.2) := fun x M' z1 z2 z3 => hk _ ⟨rfl, rfl, ⟨show 0 ≤ v4 + 1 by omega, show v4 + 1 ≤ nS V by omega⟩, (by show isC _ 0 (v4 + 1).toNat x; rw [en]; exact z3), z1, z2⟩ (show (nS V - (v4 + 1)).toNat < (nS V - v4).toNat by omega)
      have hz : bzC N [] := ⟨hb', fun k q hq => by cases hq⟩
      have hrd : rdOk [] := ⟨by decide, fun q hq => by cases hq⟩
      refine wq_I (s_firstPass hT hN a5 hz hrd a3.1 (by omega) (by omega) (by omega) h3 h4 (by omega) h4) (fun r M2 ⟨b1, b2, b3⟩ => ?_)
      have b1 : isF (fre V [] v4 (br V v1)) v2 v2 (-1) r := b1
      rcases b1 with ⟨b4, b5⟩ | ⟨b4, b5, b6, b7⟩
      · rw [b4]
        exact wq_t (by decide) (hnx _ _ b2 (a6.tr b3) ⟨v3, a4, Or.inr ⟨by rw [ea]; exact b5 v2 (Int.le_refl _) (Int.le_refl _), by omega⟩⟩)
      · have er : r = v2 := by omega
        rw [er, i32_id (x := v2) (by omega) (by omega), i32_id (x := (-1)) (by decide) (by decide)]
        rw [er] at b6
        exact wq_e (by omega) (hnx _ _ b2 (a6.tr b3) ⟨v3, a4, Or.inl ⟨by rw [ea]; exact b6, rfl⟩⟩)
  · show (nS V - 0).toNat < 1000000000
    omega
def ftL : List (Nat × Nat) := [(18, 99999), (47, 99999), (74, 99999)]
/-- the tables, by thirds -/
def tb3 (M : Mm) (a b c : Int → Int) : Prop := ∀ k : Int, 0 ≤ k → k < 12 → M 74 k.toNat = a k ∧ M 74 (12 + k).toNat = b k ∧ M 74 (24 + k).toNat = c k
theorem s_fill3 {V M : Mm} {C : List Int} {i : Int} {a b : Int → Int} (hT : Tw V) (hN : Nw V) (h : Cl V M) (hb : M 48 10 = 0) (hu : M 71 4 = us C) (h3 : 0 ≤ i) (h4 : i ≤ 200000) (ht : tb3 M a b (fun _ => 0)) : wq (f_Quest_fillTables_J118 i M) (fun M' => tb3 M' a b (fun k => if (62 : Int) ∈ C then ofq V 2 k i else 0) ∧ Cl V M' ∧ Fr ftL M M') := by
  have hW := hT.2.2.1
  unfold f_Quest_fillTables_J118
  rw [(e_uses hu).2.2, bI_s]
  by_cases c : (62 : Int) ∈ C
  · simp only [if_pos c]
    refine wq_e (by decide) ?_
    unfold f_Quest_fillTables_L132
    refine wq_lp (fun (z : Int × Int × Mm) => z.1 = i ∧ (0 ≤ z.2.1 ∧ z.2.1 ≤ nW V) ∧ tb3 z.2.2 a b (fun k => if k < z.2.1 then ofq V 2 k i else 0) ∧ Cl V z.2.2 ∧ Fr ftL M z.2.2) (fun z => (nW V - z.2.1).toNat) ?_ FU _ ⟨rfl, ⟨Int.le_refl _, by show 0 ≤ nW V; omega⟩, fun k k1 k2 => ?_, h, Fr.rf⟩ ?_
    · rintro kH ⟨v1, v2, N⟩ ⟨q1, q2, q3, q4, q5⟩ hk
      have q1 : v1 = i := q1
      subst q1
      have q2 : 0 ≤ v2 ∧ v2 ≤ nW V := q2
      have q3 : tb3 N a b (fun k => if k < v2 then ofq V 2 k v1 else 0) := q3
      have q4 : Cl V N := q4
      have q5 : Fr ftL M N := q5
      have hb' : N 48 10 = 0 := by rw [q5.row 48 rfl]; exact hb
      show wq (f_Quest_fillTables_B132 (fun v1 v2 M => kH (v1, v2, M)) v1 v2 N) _
      unfold f_Quest_fillTables_B132
      rw [e_count2 q4.1, bI_s, i32_id (x := nW V) (by omega) (by omega), i32_id (x := v2) (by omega) (by omega)]
      refine wq_if (fun d => wq_some ⟨fun k k1 k2 => ?_, q4, q5⟩) (fun d => ?_)
      · obtain ⟨w1, w2, w3⟩ := q3 k k1 k2
        refine ⟨w1, w2, ?_⟩
        rw [w3]
        show (if k < v2 then ofq V 2 k v1 else 0) = ofq V 2 k v1
        by_cases f : k < v2
        · rw [if_pos f]
        · rw [if_neg f]
          unfold ofq
          rw [if_neg (by decide), if_neg (by decide), if_neg (by omega)]
      · refine wq_I (s_passed hT hN q4 hb' q2.1 (by omega) h3 h4) (fun r M2 ⟨x1, x2, x3⟩ => ?_)
        have x1 : r = psd V v2 v1 := x1
        have x3 : Fr wcL N M2 := x3
        rw [e_set (n := 36) M2 rfl (by decide) (by omega) (by omega), bV_s]
        have hF : Fr [(74, 99999)] M2 (up M2 74 (24 + v2).toNat r) := Fr.rf.up (by simp)
        refine hk _ ⟨rfl, ⟨show 0 ≤ v2 + 1 by omega, show v2 + 1 ≤ nW V by omega⟩, fun k k1 k2 => ?_, x2.fr hF rfl rfl rfl, q5.tr ((x3.cov rfl : Fr ftL _ _).tr (hF.cov rfl))⟩ (show (nW V - (v2 + 1)).toNat < (nW V - v2).toNat by omega)
        obtain ⟨w1, w2, w3⟩ := q3 k k1 k2
        have e74 : M2 74 = N 74 := x3.row 74 rfl
        show up M2 74 (24 + v2).toNat r 74 k.toNat = a k ∧ up M2 74 (24 + v2).toNat r 74 (12 + k).toNat = b k ∧ up M2 74 (24 + v2).toNat r 74 (24 + k).toNat = (if k < v2 + 1 then ofq V 2 k v1 else 0)
        rw [up_col (by omega), up_col (by omega), e74, up_at, e74]
        refine ⟨w1, w2, ?_⟩
        by_cases f : k = v2
        · rw [if_pos ⟨rfl, by omega⟩, if_pos (by omega), f, x1]
          unfold ofq
          rw [if_neg (by decide), if_neg (by decide), if_pos ⟨q2.1, by omega⟩]
        · rw [if_neg (fun z => f (by have := z.2; omega)), w3]
          show (if k < v2 then ofq V 2 k v1 else 0) = _
          by_cases g : k < v2
          · rw [if_pos g, if_pos (by omega)]
          · rw [if_neg g, if_neg (by omega)]
    · obtain ⟨w1, w2, w3⟩ := ht k k1 k2
      refine ⟨w1, w2, ?_⟩
      show M 74 (24 + k).toNat = if k < 0 then _ else 0
      rw [if_neg (by omega)]
      exact w3
    · show (nW V - 0).toNat < 1000000000
      omega
  · simp only [if_neg c]
    exact wq_t (by decide) (wq_some ⟨ht, h, Fr.rf⟩)
theorem s_fill2 {V M : Mm} {C : List Int} {i : Int} {a : Int → Int} (hT : Tw V) (hN : Nw V) (h : Cl V M) (hb : M 48 10 = 0) (hu : M 71 4 = us C) (h3 : 0 ≤ i) (h4 : i ≤ 200000) (ht : tb3 M a (fun _ => 0) (fun _ => 0)) : wq (f_Quest_fillTables_J63 i M) (fun M' => tb3 M' a (fun k => if (61 : Int) ∈ C then ofq V 1 k i else 0) (fun k => if (62 : Int) ∈ C then ofq V 2 k i else 0) ∧ Cl V M' ∧ Fr ftL M M') := by
  have hS := hT.2.1
  unfold f_Quest_fillTables_J63
  rw [(e_uses hu).2.1, bI_s]
  by_cases c : (61 : Int) ∈ C
  · simp only [if_pos c]
    refine wq_e (by decide) ?_
    unfold f_Quest_fillTables_L77
    refine wq_lp (fun (z : Int × Int × Mm) => z.1 = i ∧ (0 ≤ z.2.1 ∧ z.2.1 ≤ nS V) ∧ tb3 z.2.2 a (fun k => if k < z.2.1 then ofq V 1 k i else 0) (fun _ => 0) ∧ Cl V z.2.2 ∧ Fr ftL M z.2.2) (fun z => (nS V - z.2.1).toNat) ?_ FU _ ⟨rfl, ⟨Int.le_refl _, by show 0 ≤ nS V; omega⟩, fun k k1 k2 => ?_, h, Fr.rf⟩ ?_
    · rintro kH ⟨v1, v2, N⟩ ⟨q1, q2, q3, q4, q5⟩ hk
      have q1 : v1 = i := q1
      subst q1
      have q2 : 0 ≤ v2 ∧ v2 ≤ nS V := q2
      have q3 : tb3 N a (fun k => if k < v2 then ofq V 1 k v1 else 0) (fun _ => 0) := q3
      have q4 : Cl V N := q4
      have q5 : Fr ftL M N := q5
      show wq (f_Quest_fillTables_B77 (fun v1 v2 M => kH (v1, v2, M)) (fun v1 M18 => f_Quest_fillTables_J118 v1 M18) v1 v2 N) _
      unfold f_Quest_fillTables_B77
      rw [e_count1 q4.1, bI_s, i32_id (x := nS V) (by omega) (by omega), i32_id (x := v2) (by omega) (by omega)]
      refine wq_if (fun d => ?_) (fun d => ?_)
      · refine wq_m (s_fill3 (C := C) hT hN q4 (by rw [q5.row 48 rfl]; exact hb) (by rw [q5.at 71 4 rfl]; exact hu) h3 h4 (a := a) (b := fun k => ofq V 1 k v1) (fun k k1 k2 => ?_)) (fun M' ⟨y1, y2, y3⟩ => ⟨y1, y2, q5.tr y3⟩)
        obtain ⟨w1, w2, w3⟩ := q3 k k1 k2
        refine ⟨w1, ?_, w3⟩
        rw [w2]
        show (if k < v2 then ofq V 1 k v1 else 0) = ofq V 1 k v1
        by_cases f : k < v2
        · rw [if_pos f]
        · rw [if_neg f]
          unfold ofq
          rw [if_neg (by decide), if_pos rfl, if_neg (by omega)]
      · have hlt : v2 < nS V := by omega
        have hs := hN.2.1 v2 q2.1 hlt
        have hr := (hT.2.2.2.1 v2 q2.1 hlt).2.2.2.2.1
        have et : f_Widths_tideAt v2 v1 N = some ((v1 + sf V v2) % rd V v2, N) := by
          unfold f_Widths_tideAt
          rw [e_cell_in (n := 12) N rfl (by decide) q2.1 (by omega), bI_s, q4.2.1.2.1 v2 q2.1 hlt, e_cTideBy q4.1 q2.1 hlt hS.2 hr.1 hr.2 h3 (by omega) hs.1 (by omega), bI_s]
        rw [et, bI_s, e_set (n := 36) N rfl (by decide) (by omega) (by omega), bV_s]
        have hF : Fr [(74, 99999)] N (up N 74 (12 + v2).toNat ((v1 + sf V v2) % rd V v2)) := Fr.rf.up (by simp)
        refine hk _ ⟨rfl, ⟨show 0 ≤ v2 + 1 by omega, show v2 + 1 ≤ nS V by omega⟩, fun k k1 k2 => ?_, q4.fr hF rfl rfl rfl, q5.tr (hF.cov rfl)⟩ (show (nS V - (v2 + 1)).toNat < (nS V - v2).toNat by omega)
        obtain ⟨w1, w2, w3⟩ := q3 k k1 k2
        show up N 74 (12 + v2).toNat _ 74 k.toNat = a k ∧ up N 74 (12 + v2).toNat _ 74 (12 + k).toNat = (if k < v2 + 1 then ofq V 1 k v1 else 0) ∧ up N 74 (12 + v2).toNat _ 74 (24 + k).toNat = 0
        rw [up_col (by omega), up_col (show ¬ (24 + k).toNat = (12 + v2).toNat by omega), up_at]
        refine ⟨w1, ?_, w3⟩
        by_cases f : k = v2
        · rw [if_pos ⟨rfl, by omega⟩, if_pos (by omega), f]
          unfold ofq
          rw [if_neg (by decide), if_pos rfl, if_pos ⟨q2.1, hlt⟩]
        · rw [if_neg (fun z => f (by have := z.2; omega)), w2]
          show (if k < v2 then ofq V 1 k v1 else 0) = _
          by_cases g : k < v2
          · rw [if_pos g, if_pos (by omega)]
          · rw [if_neg g, if_neg (by omega)]
    · obtain ⟨w1, w2, w3⟩ := ht k k1 k2
      refine ⟨w1, ?_, w3⟩
      show M 74 (12 + k).toNat = if k < 0 then _ else 0
      rw [if_neg (by omega)]
      exact w2
    · show (nS V - 0).toNat < 1000000000
      omega
  · simp only [if_neg c]
    exact wq_t (by decide) (s_fill3 hT hN h hb hu h3 h4 ht)
theorem s_fillT {V M : Mm} {C : List Int} {i : Int} (hT : Tw V) (hN : Nw V) (h : Cl V M) (hb : M 48 10 = 0) (hu : M 71 4 = us C) (h3 : 0 ≤ i) (h4 : i ≤ 200000) : wq (f_Quest_fillTables i M) (fun M' => tb3 M' (fun k => if (60 : Int) ∈ C then ofq V 0 k i else 0) (fun k => if (61 : Int) ∈ C then ofq V 1 k i else 0) (fun k => if (62 : Int) ∈ C then ofq V 2 k i else 0) ∧ Cl V M' ∧ Fr ftL M M') := by
  have hS := hT.2.1
  unfold f_Quest_fillTables
  refine wq_V (s_fill (row := 74) (n := 36) 0 M rfl (by decide)) (fun M1 ⟨g1, g2⟩ => ?_)
  have h1 : Cl V M1 := h.fr g2 rfl rfl rfl
  have hb1 : M1 48 10 = 0 := by rw [g2.row 48 rfl]; exact hb
  have hu1 : M1 71 4 = us C := by rw [g2.row 71 rfl]; exact hu
  have f1 : Fr ftL M M1 := g2.cov rfl
  have ht : tb3 M1 (fun _ => 0) (fun _ => 0) (fun _ => 0) := fun k k1 k2 => ⟨g1 _ (by omega), g1 _ (by omega), g1 _ (by omega)⟩
  rw [(e_uses hu1).1, bI_s]
  by_cases c : (60 : Int) ∈ C
  · simp only [if_pos c]
    refine wq_e (by decide) ?_
    unfold f_Quest_fillTables_L25
    refine wq_lp (fun (z : Int × Int × Mm) => z.1 = i ∧ (0 ≤ z.2.1 ∧ z.2.1 ≤ nS V) ∧ tb3 z.2.2 (fun k => if k < z.2.1 then ofq V 0 k i else 0) (fun _ => 0) (fun _ => 0) ∧ Cl V z.2.2 ∧ Fr ftL M z.2.2) (fun z => (nS V - z.2.1).toNat) ?_ FU _ ⟨rfl, ⟨Int.le_refl _, by show 0 ≤ nS V; omega⟩, fun k k1 k2 => ?_, h1, f1⟩ ?_
    · rintro kH ⟨v1, v2, N⟩ ⟨q1, q2, q3, q4, q5⟩ hk
      have q1 : v1 = i := q1
      subst q1
      have q2 : 0 ≤ v2 ∧ v2 ≤ nS V := q2
      have q3 : tb3 N (fun k => if k < v2 then ofq V 0 k v1 else 0) (fun _ => 0) (fun _ => 0) := q3
      have q4 : Cl V N := q4
      have q5 : Fr ftL M N := q5
      show wq (f_Quest_fillTables_B25 (fun v1 v2 M => kH (v1, v2, M)) (fun v1 M24 => f_Quest_fillTables_J63 v1 M24) v1 v2 N) _
      unfold f_Quest_fillTables_B25
      rw [e_count1 q4.1, bI_s, i32_id (x := nS V) (by omega) (by omega), i32_id (x := v2) (by omega) (by omega)]
      refine wq_if (fun d => ?_) (fun d => ?_)
      · refine wq_m (s_fill2 (C := C) hT hN q4 (by rw [q5.row 48 rfl]; exact hb) (by rw [q5.at 71 4 rfl]; exact hu) h3 h4 (a := fun k => ofq V 0 k v1) (fun k k1 k2 => ?_)) (fun M' ⟨y1, y2, y3⟩ => ⟨y1, y2, q5.tr y3⟩)
        obtain ⟨w1, w2, w3⟩ := q3 k k1 k2
        refine ⟨?_, w2, w3⟩
        rw [w1]
        show (if k < v2 then ofq V 0 k v1 else 0) = ofq V 0 k v1
        by_cases f : k < v2
        · rw [if_pos f]
        · rw [if_neg f]
          unfold ofq
          rw [if_pos rfl, if_neg (by omega)]
      · have hlt : v2 < nS V := by omega
        refine wq_I (s_cWidthAt hT hN q4 q2.1 hlt h3 (by omega)) (fun r M2 ⟨x1, x2, x3⟩ => ?_)
        have x1 : r = wid V v2 v1 := x1
        have x3 : Fr wcL N M2 := x3
        rw [e_set (n := 36) M2 rfl (by decide) (by omega) (by omega), bV_s]
        have hF : Fr [(74, 99999)] M2 (up M2 74 v2.toNat r) := Fr.rf.up (by simp)
        refine hk _ ⟨rfl, ⟨show 0 ≤ v2 + 1 by omega, show v2 + 1 ≤ nS V by omega⟩, fun k k1 k2 => ?_, x2.fr hF rfl rfl rfl, q5.tr ((x3.cov rfl : Fr ftL _ _).tr (hF.cov rfl))⟩ (show (nS V - (v2 + 1)).toNat < (nS V - v2).toNat by omega)
        obtain ⟨w1, w2, w3⟩ := q3 k k1 k2
        have e74 : M2 74 = N 74 := x3.row 74 rfl
        show up M2 74 v2.toNat r 74 k.toNat = (if k < v2 + 1 then ofq V 0 k v1 else 0) ∧ up M2 74 v2.toNat r 74 (12 + k).toNat = 0 ∧ up M2 74 v2.toNat r 74 (24 + k).toNat = 0
        rw [up_col (show ¬ (12 + k).toNat = v2.toNat by omega), up_col (show ¬ (24 + k).toNat = v2.toNat by omega), up_at, e74]
        refine ⟨?_, w2, w3⟩
        by_cases f : k = v2
        · rw [if_pos ⟨rfl, by omega⟩, if_pos (by omega), f, x1]
          unfold ofq
          rw [if_pos rfl, if_pos ⟨q2.1, hlt⟩]
        · rw [if_neg (fun z => f (by have := z.2; omega)), w1]
          show (if k < v2 then ofq V 0 k v1 else 0) = _
          by_cases g : k < v2
          · rw [if_pos g, if_pos (by omega)]
          · rw [if_neg g, if_neg (by omega)]
    · obtain ⟨w1, w2, w3⟩ := ht k k1 k2
      refine ⟨?_, w2, w3⟩
      show M1 74 k.toNat = if k < 0 then _ else 0
      rw [if_neg (by omega)]
      exact w1
    · show (nS V - 0).toNat < 1000000000
      omega
  · simp only [if_neg c]
    exact wq_t (by decide) (wq_m (s_fill2 hT hN h1 hb1 hu1 h3 h4 ht) (fun M' ⟨y1, y2, y3⟩ => ⟨y1, y2, f1.tr y3⟩))
theorem tb3_ok {V M : Mm} {C : List Int} {i : Int} (hT : Tw V) (h : tb3 M (fun k => if (60 : Int) ∈ C then ofq V 0 k i else 0) (fun k => if (61 : Int) ∈ C then ofq V 1 k i else 0) (fun k => if (62 : Int) ∈ C then ofq V 2 k i else 0)) : tbOk V i C (M 74) ∧ ∀ k : Nat, k < 36 → -1000000 ≤ M 74 k ∧ M 74 k ≤ 1000000 := by
  refine ⟨⟨fun c a a1 a2 => ?_, fun c a a1 a2 => ?_, fun c a a1 a2 => ?_⟩, fun k hk => ?_⟩
  · rw [(h a a1 a2).1]; exact if_pos c
  · rw [(h a a1 a2).2.1]; exact if_pos c
  · rw [(h a a1 a2).2.2]; exact if_pos c
  · have ho := fun k n => ofq_rng hT k n i
    by_cases c1 : k < 12
    · have := (h k (by omega) (by omega)).1
      rw [show ((k : Int)).toNat = k by omega] at this
      rw [this]
      have := ho 0 k
      show -1000000 ≤ (if (60 : Int) ∈ C then ofq V 0 k i else 0) ∧ (if (60 : Int) ∈ C then ofq V 0 k i else 0) ≤ 1000000
      split <;> omega
    by_cases c2 : k < 24
    · have := (h (k - 12) (by omega) (by omega)).2.1
      rw [show (12 + ((k : Int) - 12)).toNat = k by omega] at this
      rw [this]
      have := ho 1 ((k : Int) - 12)
      show -1000000 ≤ (if (61 : Int) ∈ C then ofq V 1 ((k : Int) - 12) i else 0) ∧ (if (61 : Int) ∈ C then ofq V 1 ((k : Int) - 12) i else 0) ≤ 1000000
      split <;> omega
    · have := (h (k - 24) (by omega) (by omega)).2.2
      rw [show (24 + ((k : Int) - 24)).toNat = k by omega] at this
      rw [this]
      have := ho 2 ((k : Int) - 24)
      show -1000000 ≤ (if (62 : Int) ∈ C then ofq V 2 ((k : Int) - 24) i else 0) ∧ (if (62 : Int) ∈ C then ofq V 2 ((k : Int) - 24) i else 0) ≤ 1000000
      split <;> omega
