def sl (j f q : Int) : Nat := (j % 5 * 81 + f * 9 + q).toNat
theorem e_slot {v0 v1 : Int} (M : Mm) (h1 : 0 ≤ v0) (h2 : v0 < 1000000) : f_Many_slot v0 v1 M = some (v0 % 5 * 81 + v1 * 9, M) := by
  unfold f_Many_slot
  rw [i32_id (x := v0) (by omega) (by omega), i32_id (x := 5) (by omega) (by omega), tmod_pos h1]
theorem e_areIn {V M : Mm} {v1 v2 : Int} (hT : Tw V) (hc : Tc V M) (a1 : 0 ≤ v1) (a2 : v1 ≤ 405 - nP V) (b1 : 0 ≤ v2) (b2 : v2 ≤ 405 - nP V) : f_Many_areIn v1 v2 M = some (1, M) := by
  have hP := hT.1
  unfold f_Many_areIn
  rw [e_count0 hc, bI_s, show ((405 : Nat) : Int) = 405 from rfl, i32_id (x := v1) (by omega) (by omega), i32_id (x := v2) (by omega) (by omega), i32_id (x := 405 - nP V) (by omega) (by omega), if_neg (by omega), if_neg (by omega), if_neg (by omega), if_neg (by omega)]
theorem s_waitOn {V M : Mm} {k : Int} (hT : Tw V) (hc : Tc V M) (k0 : 0 ≤ k) (k1 : k ≤ 1000) : wq (f_Many_waitOn k M) (fun M' => (∀ f q : Int, 0 ≤ f → f < nP V → 0 ≤ q → q < nP V → M' 61 (sl k f q) = if q = f then k else M 61 (sl (k + 1) f q)) ∧ (∀ i : Nat, ((i : Int) < k % 5 * 81 ∨ k % 5 * 81 + 81 ≤ i) → M' 61 i = M 61 i) ∧ Fr [(61, 99999)] M M') := by
  have hP := hT.1
  unfold f_Many_waitOn
  rw [e_count0 hc, bI_s]
  unfold f_Many_waitOn_L11
  refine wq_lp (fun z => z.1 = k ∧ z.2.1 = nP V ∧ (0 ≤ z.2.2.1 ∧ z.2.2.1 ≤ nP V) ∧ (∀ f q : Int, 0 ≤ f → f < z.2.2.1 → 0 ≤ q → q < nP V → z.2.2.2 61 (sl k f q) = if q = f then k else M 61 (sl (k + 1) f q)) ∧ (∀ i : Nat, ((i : Int) < k % 5 * 81 ∨ k % 5 * 81 + 81 ≤ i) → z.2.2.2 61 i = M 61 i) ∧ Fr [(61, 99999)] M z.2.2.2) (fun z => (nP V - z.2.2.1).toNat) ?_ FU _ ?_ ?_
  · rintro kH ⟨v1, v2, v3, N⟩ ⟨q1, q2, q3, q4, q5, q6⟩ hk
    have a1 : v1 = k := q1
    have a2 : v2 = nP V := q2
    have a3 : 0 ≤ v3 ∧ v3 ≤ nP V := q3
    have a4 : ∀ f q : Int, 0 ≤ f → f < v3 → 0 ≤ q → q < nP V → N 61 (sl k f q) = if q = f then k else M 61 (sl (k + 1) f q) := q4
    have a5 : ∀ i : Nat, ((i : Int) < k % 5 * 81 ∨ k % 5 * 81 + 81 ≤ i) → N 61 i = M 61 i := q5
    have a6 : Fr [(61, 99999)] M N := q6
    clear q1 q2 q3 q4 q5 q6
    subst a1 a2
    have cN := hc.fr a6 rfl
    show wq (f_Many_waitOn_B11 (fun v1 v2 v3 M => kH (v1, v2, v3, M)) v1 (nP V) v3 N) _
    unfold f_Many_waitOn_B11
    rw [i32_id (x := nP V) (by omega) (by omega), i32_id (x := v3) (by omega) (by omega)]
    refine wq_if (fun c => wq_some ⟨fun f q f0 f1 => a4 f q f0 (by omega), a5, a6⟩) (fun c => ?_)
    have m0 := Int.emod_nonneg v1 (show (5 : Int) ≠ 0 by decide)
    have m1 := Int.emod_lt_of_pos v1 (show (0 : Int) < 5 by decide)
    have n0 := Int.emod_nonneg (v1 + 1) (show (5 : Int) ≠ 0 by decide)
    have n1 := Int.emod_lt_of_pos (v1 + 1) (show (0 : Int) < 5 by decide)
    rw [e_slot N k0 (by omega), bI_s, e_slot N (by omega) (by omega), bI_s, e_areIn hT cN (by omega) (by omega) (by omega) (by omega), bI_s]
    refine wq_t (by decide) ?_
    unfold f_Many_waitOn_L47
    refine wq_lp (fun z => z.1 = v1 ∧ z.2.1 = nP V ∧ z.2.2.1 = v3 ∧ z.2.2.2.1 = v1 % 5 * 81 + v3 * 9 ∧ z.2.2.2.2.1 = (v1 + 1) % 5 * 81 + v3 * 9 ∧ (0 ≤ z.2.2.2.2.2.1 ∧ z.2.2.2.2.2.1 ≤ nP V) ∧ (∀ f q : Int, 0 ≤ f → (f < v3 ∨ (f = v3 ∧ q < z.2.2.2.2.2.1)) → 0 ≤ q → q < nP V → z.2.2.2.2.2.2 61 (sl v1 f q) = if q = f then v1 else M 61 (sl (v1 + 1) f q)) ∧ (∀ i : Nat, ((i : Int) < v1 % 5 * 81 ∨ v1 % 5 * 81 + 81 ≤ i) → z.2.2.2.2.2.2 61 i = M 61 i) ∧ Fr [(61, 99999)] M z.2.2.2.2.2.2) (fun z => (nP V - z.2.2.2.2.2.1).toNat) ?_ FU _ ?_ ?_
    · rintro kG ⟨w1, w2, w3, w4, w5, w6, K⟩ ⟨p1, p2, p3, p4, p5, p6, p7, p8, p9⟩ hg
      have b1 : w1 = v1 := p1
      have b2 : w2 = nP V := p2
      have b3 : w3 = v3 := p3
      have b4 : w4 = v1 % 5 * 81 + v3 * 9 := p4
      have b5 : w5 = (v1 + 1) % 5 * 81 + v3 * 9 := p5
      have b6 : 0 ≤ w6 ∧ w6 ≤ nP V := p6
      have b7 : ∀ f q : Int, 0 ≤ f → (f < v3 ∨ (f = v3 ∧ q < w6)) → 0 ≤ q → q < nP V → K 61 (sl v1 f q) = if q = f then v1 else M 61 (sl (v1 + 1) f q) := p7
      have b8 : ∀ i : Nat, ((i : Int) < v1 % 5 * 81 ∨ v1 % 5 * 81 + 81 ≤ i) → K 61 i = M 61 i := p8
      have b9 : Fr [(61, 99999)] M K := p9
      clear p1 p2 p3 p4 p5 p6 p7 p8 p9
      subst b1 b2 b3
      show wq (f_Many_waitOn_B47 (fun v1 v2 v3 v4 v5 v6 M => kG (v1, v2, v3, v4, v5, v6, M)) _ w1 (nP V) w3 w4 w5 w6 K) _
      unfold f_Many_waitOn_B47
      rw [i32_id (x := nP V) (by omega) (by omega), i32_id (x := w6) (by omega) (by omega), i32_id (x := w3) (by omega) (by omega)]
      refine wq_if (fun d => ?_) (fun d => ?_)
      · exact hk _ ⟨rfl, rfl, ⟨show 0 ≤ w3 + 1 by omega, show w3 + 1 ≤ nP V by omega⟩, fun f q f0 f1 q0 q1 => b7 f q f0 (by have f1 : f < w3 + 1 := f1; omega) q0 q1, b8, b9⟩ (show (nP V - (w3 + 1)).toNat < (nP V - w3).toNat by omega)
      · rw [i32_id (x := w5 + w6) (by omega) (by omega), i32_id (x := w4 + w6) (by omega) (by omega)]
        have hst : ∀ x, x = (if w6 = w3 then w1 else M 61 (sl (w1 + 1) w3 w6)) → wq (kG (w1, nP V, w3, w4, w5, w6 + 1, up K 61 (w4 + w6).toNat x)) (fun M' => (∀ f q : Int, 0 ≤ f → f < nP V → 0 ≤ q → q < nP V → M' 61 (sl w1 f q) = if q = f then w1 else M 61 (sl (w1 + 1) f q)) ∧ (∀ i : Nat, ((i : Int) < w1 % 5 * 81 ∨ w1 % 5 * 81 + 81 ≤ i) → M' 61 i = M 61 i) ∧ Fr [(61, 99999)] M M') := by
          intro x hx
          refine hg _ ⟨rfl, rfl, rfl, b4, b5, ⟨show 0 ≤ w6 + 1 by omega, show w6 + 1 ≤ nP V by omega⟩, fun f q f0 f1 q0 q1 => ?_, fun i hi => ?_, b9.up (by simp)⟩ (show (nP V - (w6 + 1)).toNat < (nP V - w6).toNat by omega)
          · have f1 : f < w3 ∨ (f = w3 ∧ q < w6 + 1) := f1
            show up K 61 (w4 + w6).toNat x 61 (sl w1 f q) = _
            have es : (sl w1 f q = (w4 + w6).toNat) ↔ (f = w3 ∧ q = w6) := by unfold sl; omega
            rw [up_at]
            by_cases g : f = w3 ∧ q = w6
            · rw [if_pos ⟨rfl, es.mpr g⟩, hx, g.1, g.2]
            · rw [if_neg (fun z => g (es.mp z.2))]
              exact b7 f q f0 (by omega) q0 q1
          · show up K 61 (w4 + w6).toNat x 61 i = M 61 i
            rw [up_col (by omega)]
            exact b8 i hi
        refine wq_if (fun e => wq_g (by omega) (wq_g (by omega) (wq_d (hst _ ?_)))) (fun e => wq_g (by omega) (wq_d (hst _ ?_)))
        · rw [if_neg (fun z => e z.symm), show (w5 + w6).toNat = sl (w1 + 1) w3 w6 by unfold sl; omega]
          exact b8 _ (by unfold sl; omega)
        · rw [if_pos (by omega)]
    · exact ⟨rfl, rfl, rfl, rfl, rfl, ⟨Int.le_refl _, hP.1⟩, fun f q f0 f1 q0 q1 => a4 f q f0 (by have f1 : f < v3 ∨ (f = v3 ∧ q < 0) := f1; omega) q0 q1, a5, a6⟩
    · show (nP V - 0).toNat < 1000000000
      omega
  · exact ⟨rfl, rfl, ⟨Int.le_refl _, hP.1⟩, fun f q f0 f1 => absurd f1 (by show ¬ f < 0; omega), fun i _ => rfl, Fr.rf⟩
  · show (nP V - 0).toNat < 1000000000
    omega
def imin (a b : Int) : Int := if b < a then b else a
theorem s_passOn {V M : Mm} {k t f o : Int} (hT : Tw V) (hc : Tc V M) (k0 : 0 ≤ k) (k1 : k ≤ 1000) (t0 : 1 ≤ t) (t1 : t ≤ 4) (f0 : 0 ≤ f) (f1 : f < nP V) (o0 : 0 ≤ o) (o1 : o < nP V) (hv : ∀ q : Int, 0 ≤ q → q < nP V → (0 ≤ M 61 (sl k f q) ∧ M 61 (sl k f q) ≤ 1000000) ∧ 0 ≤ M 61 (sl (k + t) o q) ∧ M 61 (sl (k + t) o q) ≤ 1000000) :
    wq (f_Many_passOn k t f o M) (fun M' => (∀ q : Int, 0 ≤ q → q < nP V → M' 61 (sl k f q) = imin (M 61 (sl k f q)) (M 61 (sl (k + t) o q))) ∧ (∀ i : Nat, (∀ q : Int, 0 ≤ q → q < nP V → i ≠ sl k f q) → M' 61 i = M 61 i) ∧ Fr [(61, 99999)] M M') := by
  have hP := hT.1
  have m0 := Int.emod_nonneg k (show (5 : Int) ≠ 0 by decide)
  have m1 := Int.emod_lt_of_pos k (show (0 : Int) < 5 by decide)
  have n0 := Int.emod_nonneg (k + t) (show (5 : Int) ≠ 0 by decide)
  have n1 := Int.emod_lt_of_pos (k + t) (show (0 : Int) < 5 by decide)
  unfold f_Many_passOn
  rw [e_count0 hc, bI_s, e_slot M k0 (by omega), bI_s, e_slot M (by omega) (by omega), bI_s, e_areIn hT hc (by omega) (by omega) (by omega) (by omega), bI_s]
  refine wq_t (by decide) ?_
  unfold f_Many_passOn_L42
  refine wq_lp (fun z => z.1 = nP V ∧ z.2.1 = k % 5 * 81 + f * 9 ∧ z.2.2.1 = (k + t) % 5 * 81 + o * 9 ∧ (0 ≤ z.2.2.2.1 ∧ z.2.2.2.1 ≤ nP V) ∧ (∀ q : Int, 0 ≤ q → q < z.2.2.2.1 → z.2.2.2.2 61 (sl k f q) = imin (M 61 (sl k f q)) (M 61 (sl (k + t) o q))) ∧ (∀ i : Nat, (∀ q : Int, 0 ≤ q → q < z.2.2.2.1 → i ≠ sl k f q) → z.2.2.2.2 61 i = M 61 i) ∧ Fr [(61, 99999)] M z.2.2.2.2) (fun z => (nP V - z.2.2.2.1).toNat) ?_ FU _ ?_ ?_
  · rintro kH ⟨v5, v6, v7, v8, N⟩ ⟨q1, q2, q3, q4, q5, q6, q7⟩ hk
    have a1 : v5 = nP V := q1
    have a2 : v6 = k % 5 * 81 + f * 9 := q2
    have a3 : v7 = (k + t) % 5 * 81 + o * 9 := q3
    have a4 : 0 ≤ v8 ∧ v8 ≤ nP V := q4
    have a5 : ∀ q : Int, 0 ≤ q → q < v8 → N 61 (sl k f q) = imin (M 61 (sl k f q)) (M 61 (sl (k + t) o q)) := q5
    have a6 : ∀ i : Nat, (∀ q : Int, 0 ≤ q → q < v8 → i ≠ sl k f q) → N 61 i = M 61 i := q6
    have a7 : Fr [(61, 99999)] M N := q7
    clear q1 q2 q3 q4 q5 q6 q7
    subst a1
    show wq (f_Many_passOn_B42 (fun v5 v6 v7 v8 M => kH (v5, v6, v7, v8, M)) (nP V) v6 v7 v8 N) _
    unfold f_Many_passOn_B42
    rw [i32_id (x := nP V) (by omega) (by omega), i32_id (x := v8) (by omega) (by omega)]
    refine wq_if (fun c => wq_some ⟨fun q g0 g1 => a5 q g0 (by omega), fun i hi => a6 i (fun q g0 g1 => hi q g0 (by omega)), a7⟩) (fun c => ?_)
    obtain ⟨⟨z1, z2⟩, z3, z4⟩ := hv v8 a4.1 (by omega)
    have e1 : N 61 (v6 + v8).toNat = M 61 (sl k f v8) := by
      rw [show (v6 + v8).toNat = sl k f v8 by unfold sl; omega]
      exact a6 _ (fun q g0 g1 => by unfold sl; omega)
    have e2 : N 61 (v7 + v8).toNat = M 61 (sl (k + t) o v8) := by
      rw [show (v7 + v8).toNat = sl (k + t) o v8 by unfold sl; omega]
      exact a6 _ (fun q g0 g1 => by unfold sl; omega)
    rw [i32_id (x := v7 + v8) (by omega) (by omega), i32_id (x := v6 + v8) (by omega) (by omega), e1, e2, i32_id (x := M 61 (sl k f v8)) (by omega) (by omega), i32_id (x := M 61 (sl (k + t) o v8)) (by omega) (by omega)]
    refine wq_g (by omega) (wq_g (by omega) (wq_if (fun d => ?_) (fun d => wq_g (by omega) (wq_g (by omega) (wq_d ?_)))))
    · refine hk _ ⟨rfl, a2, a3, ⟨show 0 ≤ v8 + 1 by omega, show v8 + 1 ≤ nP V by omega⟩, fun q g0 g1 => ?_, fun i hi => a6 i (fun q g0 g1 => hi q g0 (by show q < v8 + 1; omega)), a7⟩ (show (nP V - (v8 + 1)).toNat < (nP V - v8).toNat by omega)
      have g1 : q < v8 + 1 := g1
      show N 61 (sl k f q) = _
      by_cases e : q = v8
      · rw [e, ← e1, show (v6 + v8).toNat = sl k f v8 by unfold sl; omega]
        unfold imin
        rw [if_neg]
        rw [← show (v6 + v8).toNat = sl k f v8 by unfold sl; omega, e1]
        omega
      · exact a5 q g0 (by omega)
    · refine hk _ ⟨rfl, a2, a3, ⟨show 0 ≤ v8 + 1 by omega, show v8 + 1 ≤ nP V by omega⟩, fun q g0 g1 => ?_, fun i hi => ?_, a7.up (by simp)⟩ (show (nP V - (v8 + 1)).toNat < (nP V - v8).toNat by omega)
      · have g1 : q < v8 + 1 := g1
        show up N 61 (v6 + v8).toNat (M 61 (sl (k + t) o v8)) 61 (sl k f q) = _
        have es : (sl k f q = (v6 + v8).toNat) ↔ q = v8 := by unfold sl; omega
        rw [up_at]
        by_cases e : q = v8
        · rw [if_pos ⟨rfl, es.mpr e⟩, e]
          unfold imin
          rw [if_pos (by omega)]
        · rw [if_neg (fun z => e (es.mp z.2))]
          exact a5 q g0 (by omega)
      · show up N 61 (v6 + v8).toNat (M 61 (sl (k + t) o v8)) 61 i = M 61 i
        have := hi v8 a4.1 (show v8 < v8 + 1 by omega)
        rw [up_col (by rw [show (v6 + v8).toNat = sl k f v8 by unfold sl; omega]; exact this)]
        exact a6 i (fun q g0 g1 => hi q g0 (by show q < v8 + 1; omega))
  · exact ⟨rfl, rfl, rfl, ⟨Int.le_refl _, hP.1⟩, fun q g0 g1 => absurd g1 (by show ¬ q < 0; omega), fun i _ => rfl, Fr.rf⟩
  · show (nP V - 0).toNat < 1000000000
    omega
/-- the soonest that are held for an hour; those of the hour at hand, so many streets looked at -/
def dOk (V : Mm) (b K j : Int) (M : Mm) : Prop := ∀ f q : Int, 0 ≤ f → f < nP V → 0 ≤ q → q < nP V → (0 ≤ M 61 (sl j f q) ∧ M 61 (sl j f q) ≤ 1000000) ∧ ∀ L, L ≤ K → (M 61 (sl j f q) ≤ L ↔ (j ≤ L ∧ rea V b (hr V + L) f (hr V + j) q))
def reB (V : Mm) (b k L f q s : Int) : Prop := q = f ∨ (k + 1 ≤ L ∧ rea V b (hr V + L) f (hr V + (k + 1)) q) ∨ ∃ s' o, s' < s ∧ edg V (-1) s' f o ∧ fre V [] s' b (hr V + k) ∧ k + tk V s' ≤ L ∧ rea V b (hr V + L) o (hr V + (k + tk V s')) q
def pqO (V : Mm) (b K k s : Int) (M : Mm) : Prop := ∀ f q : Int, 0 ≤ f → f < nP V → 0 ≤ q → q < nP V → (0 ≤ M 61 (sl k f q) ∧ M 61 (sl k f q) ≤ 1000000) ∧ ∀ L, L ≤ K → (M 61 (sl k f q) ≤ L ↔ (k ≤ L ∧ reB V b k L f q s))
theorem pqO_0 {V M M' : Mm} {b K k : Int} (k0 : 0 ≤ k) (k1 : k ≤ 1000) (h : dOk V b K (k + 1) M) (e : ∀ f q : Int, 0 ≤ f → f < nP V → 0 ≤ q → q < nP V → M' 61 (sl k f q) = if q = f then k else M 61 (sl (k + 1) f q)) : pqO V b K k 0 M' := by
  intro f q f0 f1 q0 q1
  obtain ⟨h1, h2⟩ := h f q f0 f1 q0 q1
  rw [e f q f0 f1 q0 q1]
  by_cases c : q = f
  · rw [if_pos c]
    exact ⟨⟨k0, by omega⟩, fun L _ => ⟨fun z => ⟨z, Or.inl c⟩, fun z => z.1⟩⟩
  · rw [if_neg c]
    refine ⟨h1, fun L hL => ?_⟩
    rw [h2 L hL]
    constructor
    · exact fun z => ⟨by omega, Or.inr (Or.inl z)⟩
    · rintro ⟨-, z | z | ⟨s', o, z1, z2, -⟩⟩
      · exact absurd z c
      · exact z
      · exact absurd z1 (by have := z2.1; omega)
theorem pqO_end {V M : Mm} {b K k : Int} (hT : Tw V) (h : pqO V b K k (nS V) M) : dOk V b K k M := by
  intro f q f0 f1 q0 q1
  obtain ⟨h1, h2⟩ := h f q f0 f1 q0 q1
  refine ⟨h1, fun L hL => ?_⟩
  rw [h2 L hL, rea_step hT]
  unfold reB
  constructor
  · rintro ⟨z0, z | ⟨z1, z2⟩ | ⟨s', o, z1, z2, z3, z4, z5⟩⟩
    · exact ⟨z0, Or.inl z⟩
    · exact ⟨z0, Or.inr (Or.inl ⟨by omega, by rw [Int.add_assoc]; exact z2⟩)⟩
    · exact ⟨z0, Or.inr (Or.inr ⟨s', o, z2, z3, by omega, by rw [Int.add_assoc]; exact z5⟩)⟩
  · rintro ⟨z0, z | ⟨z1, z2⟩ | ⟨s', o, z2, z3, z4, z5⟩⟩
    · exact ⟨z0, Or.inl z⟩
    · exact ⟨z0, Or.inr (Or.inl ⟨by omega, by rw [Int.add_assoc] at z2; exact z2⟩)⟩
    · exact ⟨z0, Or.inr (Or.inr ⟨s', o, z2.2.1, z2, z3, by omega, by rw [Int.add_assoc] at z5; exact z5⟩)⟩
theorem reB_up {V : Mm} {b k L f q s : Int} (h : reB V b k L f q s) : reB V b k L f q (s + 1) := by
  rcases h with z | z | ⟨s', o, z1, z2⟩
  · exact Or.inl z
  · exact Or.inr (Or.inl z)
  · exact Or.inr (Or.inr ⟨s', o, by omega, z2⟩)
theorem reB_dn {V : Mm} {b k L f q s : Int} (h : reB V b k L f q (s + 1)) : reB V b k L f q s ∨ ∃ o, edg V (-1) s f o ∧ fre V [] s b (hr V + k) ∧ k + tk V s ≤ L ∧ rea V b (hr V + L) o (hr V + (k + tk V s)) q := by
  rcases h with z | z | ⟨s', o, z1, z2⟩
  · exact Or.inl (Or.inl z)
  · exact Or.inl (Or.inr (Or.inl z))
  · by_cases e : s' = s
    · subst e
      exact Or.inr ⟨o, z2⟩
    · exact Or.inl (Or.inr (Or.inr ⟨s', o, by omega, z2⟩))
theorem pqO_no {V M : Mm} {b K k s : Int} (h : pqO V b K k s M) (hn : ¬ (fre V [] s b (hr V + k) ∧ k + tk V s ≤ K + 1)) : pqO V b K k (s + 1) M := by
  intro f q f0 f1 q0 q1
  obtain ⟨h1, h2⟩ := h f q f0 f1 q0 q1
  refine ⟨h1, fun L hL => ?_⟩
  rw [h2 L hL]
  constructor
  · exact fun z => ⟨z.1, reB_up z.2⟩
  · rintro ⟨z0, z⟩
    rcases reB_dn z with y | ⟨o, y1, y2, y3, y4⟩
    · exact ⟨z0, y⟩
    · exact absurd ⟨y2, by omega⟩ hn
theorem imin_le (a b L : Int) : imin a b ≤ L ↔ (a ≤ L ∨ b ≤ L) := by
  unfold imin
  split <;> omega
theorem imin_rng {a b : Int} (h1 : 0 ≤ a ∧ a ≤ 1000000) (h2 : 0 ≤ b ∧ b ≤ 1000000) : 0 ≤ imin a b ∧ imin a b ≤ 1000000 := by
  unfold imin
  split <;> omega
theorem pqO_yes {V M M' : Mm} {b K k s : Int} (hT : Tw V) (s0 : 0 ≤ s) (s1 : s < nS V) (h : pqO V b K k s M) (hd : dOk V b K (k + tk V s) M) (hf : fre V [] s b (hr V + k))
    (eA : ∀ q : Int, 0 ≤ q → q < nP V → M' 61 (sl k (eF V s) q) = imin (M 61 (sl k (eF V s) q)) (M 61 (sl (k + tk V s) (eT V s) q)))
    (eB : ∀ q : Int, 0 ≤ q → q < nP V → M' 61 (sl k (eT V s) q) = imin (M 61 (sl k (eT V s) q)) (M 61 (sl (k + tk V s) (eF V s) q)))
    (eC : ∀ f q : Int, 0 ≤ f → f < nP V → 0 ≤ q → q < nP V → f ≠ eF V s → f ≠ eT V s → M' 61 (sl k f q) = M 61 (sl k f q)) : pqO V b K k (s + 1) M' := by
  obtain ⟨x1, x2, x3, x4, -⟩ := hT.2.2.2.1 s s0 s1
  have key : ∀ f o : Int, 0 ≤ f → f < nP V → 0 ≤ o → o < nP V → edg V (-1) s f o → (∀ o', edg V (-1) s f o' → o' = o) → (∀ q : Int, 0 ≤ q → q < nP V → M' 61 (sl k f q) = imin (M 61 (sl k f q)) (M 61 (sl (k + tk V s) o q))) → ∀ q : Int, 0 ≤ q → q < nP V → (0 ≤ M' 61 (sl k f q) ∧ M' 61 (sl k f q) ≤ 1000000) ∧ ∀ L, L ≤ K → (M' 61 (sl k f q) ≤ L ↔ (k ≤ L ∧ reB V b k L f q (s + 1))) := by
    intro f o f0 f1 o0 o1 he hu hm q q0 q1
    obtain ⟨h1, h2⟩ := h f q f0 f1 q0 q1
    obtain ⟨d1, d2⟩ := hd o q o0 o1 q0 q1
    rw [hm q q0 q1]
    refine ⟨imin_rng h1 d1, fun L hL => ?_⟩
    rw [imin_le, h2 L hL, d2 L hL]
    constructor
    · rintro (⟨z0, z⟩ | ⟨z0, z⟩)
      · exact ⟨z0, reB_up z⟩
      · exact ⟨by omega, Or.inr (Or.inr ⟨s, o, by omega, he, hf, z0, z⟩)⟩
    · rintro ⟨z0, z⟩
      rcases reB_dn z with y | ⟨o', y1, y2, y3, y4⟩
      · exact Or.inl ⟨z0, y⟩
      · rw [hu o' y1] at y4
        exact Or.inr ⟨y3, y4⟩
  intro f q f0 f1 q0 q1
  by_cases c1 : f = eF V s
  · subst c1
    exact key (eF V s) (eT V s) f0 f1 x2.1 x2.2 ⟨s0, s1, by omega, Or.inl ⟨rfl, rfl⟩⟩ (fun o' z => by rcases z.2.2.2 with w | w; exact w.2.symm; exact absurd w.1.symm x3) eA q q0 q1
  · by_cases c2 : f = eT V s
    · subst c2
      exact key (eT V s) (eF V s) f0 f1 x1.1 x1.2 ⟨s0, s1, by omega, Or.inr ⟨rfl, rfl⟩⟩ (fun o' z => by rcases z.2.2.2 with w | w; exact absurd w.1 x3; exact w.2.symm) eB q q0 q1
    · obtain ⟨h1, h2⟩ := h f q f0 f1 q0 q1
      rw [eC f q f0 f1 q0 q1 c1 c2]
      refine ⟨h1, fun L hL => ?_⟩
      rw [h2 L hL]
      constructor
      · exact fun z => ⟨z.1, reB_up z.2⟩
      · rintro ⟨z0, z⟩
        rcases reB_dn z with y | ⟨o', y1, -⟩
        · exact ⟨z0, y⟩
        · rcases y1.2.2.2 with w | w
          · exact absurd w.1.symm c1
          · exact absurd w.1.symm c2
theorem dOk_cg {V M M' : Mm} {b K j : Int} (h : dOk V b K j M) (e : ∀ f q : Int, 0 ≤ f → f < nP V → 0 ≤ q → q < nP V → M' 61 (sl j f q) = M 61 (sl j f q)) : dOk V b K j M' := by
  intro f q f0 f1 q0 q1
  rw [e f q f0 f1 q0 q1]
  exact h f q f0 f1 q0 q1
theorem pqO_cg {V M M' : Mm} {b K k s : Int} (h : pqO V b K k s M) (e : M' 61 = M 61) : pqO V b K k s M' := by
  intro f q f0 f1 q0 q1
  rw [e]
  exact h f q f0 f1 q0 q1
/-- the run of wide hours from an hour on -/
def rnK (V : Mm) (b K k s r : Int) : Prop := (0 ≤ r ∧ r ≤ K + 1 - k) ∧ (∀ x : Int, 0 ≤ x → x < r → b ≤ wid V s (hr V + (k + x))) ∧ (r = K + 1 - k ∨ ¬ b ≤ wid V s (hr V + (k + r)))
theorem rnK_step {V : Mm} {b K k s r : Int} (h : rnK V b K (k + 1) s r) (hk : k ≤ K) : rnK V b K k s (if b ≤ wid V s (hr V + k) then r + 1 else 0) := by
  obtain ⟨⟨h1, h2⟩, h3, h4⟩ := h
  by_cases c : b ≤ wid V s (hr V + k)
  · rw [if_pos c]
    refine ⟨⟨by omega, by omega⟩, fun x x0 x1 => ?_, ?_⟩
    · by_cases e : x = 0
      · rw [e, Int.add_zero]; exact c
      · have := h3 (x - 1) (by omega) (by omega)
        rw [show k + 1 + (x - 1) = k + x by omega] at this
        exact this
    · rcases h4 with h4 | h4
      · exact Or.inl (by omega)
      · rw [show k + 1 + r = k + (r + 1) by omega] at h4
        exact Or.inr h4
  · rw [if_neg c]
    refine ⟨⟨by omega, by omega⟩, fun x x0 x1 => absurd x1 (by omega), Or.inr ?_⟩
    rw [Int.add_zero]
    exact c
theorem rnK_fre {V : Mm} {b K k s r : Int} (h : rnK V b K k s r) (ht : 1 ≤ tk V s) : (tk V s ≤ r ↔ (fre V [] s b (hr V + k) ∧ k + tk V s ≤ K + 1)) := by
  obtain ⟨⟨h1, h2⟩, h3, h4⟩ := h
  rw [fre_nil]
  unfold wfo
  constructor
  · intro z
    refine ⟨fun x x0 x1 => ?_, by omega⟩
    rw [Int.add_assoc]
    exact h3 x x0 (by omega)
  · rintro ⟨z1, z2⟩
    by_cases c : tk V s ≤ r
    · exact c
    · rcases h4 with h4 | h4
      · omega
      · have := z1 r h1 (by omega)
        rw [Int.add_assoc] at this
        exact absurd this h4
