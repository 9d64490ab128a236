/-- an order's digits, as both sides find them -/
theorem dgt_step {n c left : Int} {v5 : Int} (h0 : 0 ≤ v5) (h1 : v5 ≤ n - 1) (h : ∀ i : Nat, dgt n i left = dgt n ((n - 1 - v5).toNat + i) c) : ordN n c v5.toNat = left % n ∧ ∀ i : Nat, dgt n i (left / n) = dgt n ((n - 1 - (v5 + (-1))).toNat + i) c := by
  constructor
  · have := h 0
    unfold ordN
    rw [show n.toNat - 1 - v5.toNat = (n - 1 - v5).toNat + 0 by omega, ← this]
    rfl
  · intro i
    have := h (i + 1)
    rw [show (n - 1 - (v5 + (-1))).toNat + i = (n - 1 - v5).toNat + (i + 1) by omega, ← this]
    rfl
def orI (n c : Int) (row : Nat) (left met v5 : Int) (M0 M : Mm) : Prop := (-1 ≤ v5 ∧ v5 ≤ n - 1) ∧ (0 ≤ left ∧ left ≤ 256) ∧ (0 ≤ met ∧ met.toNat < 2 ^ n.toNat) ∧ ors n (v5 + 1).toNat left met.toNat = ors n n.toNat c 0 ∧ (∀ i : Nat, dgt n i left = dgt n ((n - 1 - v5).toNat + i) c) ∧ (∀ k : Nat, v5 < (k : Int) → k < n.toNat → M row k = ordN n c k) ∧ Fr [(row, 99999)] M0 M
theorem orI_0 {n c : Int} {row : Nat} {M : Mm} (hn : 1 ≤ n) (hc1 : 0 ≤ c) (hc2 : c ≤ 256) : orI n c row c 0 (n - 1) M M := by
  refine ⟨⟨by omega, Int.le_refl _⟩, ⟨hc1, hc2⟩, ⟨Int.le_refl _, Nat.pow_pos (by decide)⟩, ?_, fun i => ?_, fun k h1 h2 => ?_, Fr.rf⟩
  · rw [show n - 1 + 1 = n by omega]; rfl
  · rw [show (n - 1 - (n - 1)).toNat + i = i by omega]
  · omega
theorem orI_step {n c : Int} {row : Nat} {left met v5 : Int} {M0 M : Mm} (hn : 1 ≤ n) (hn2 : n ≤ 4) (h : orI n c row left met v5 M0 M) (h0 : 0 ≤ v5) : orI n c row (left / n) (or32 met (shl32 1 (left % n))) (v5 + (-1)) M0 (up M row v5.toNat (left % n)) := by
  obtain ⟨⟨a1, a2⟩, ⟨b1, b2⟩, ⟨c1, c2⟩, d, e, f, g⟩ := h
  obtain ⟨s1, s2⟩ := dgt_step h0 a2 e
  have m1 := Int.emod_nonneg left (show n ≠ 0 by omega)
  have m2 := Int.emod_lt_of_pos left (show 0 < n by omega)
  obtain ⟨o1, o2⟩ := bQ_set (m := met) (k := left % n) (n := n.toNat) c1 (by omega) c2 m1 (by omega)
  have q1 : 0 ≤ left / n := Int.ediv_nonneg b1 (by omega)
  have q2 : left / n ≤ left := Int.ediv_le_self n b1
  refine ⟨⟨by omega, by omega⟩, ⟨q1, by omega⟩, ⟨by rw [o1]; omega, by rw [o1, Int.toNat_natCast]; exact o2⟩, ?_, s2, fun k k1 k2 => ?_, g.up (Or.inr (by simp))⟩
  · rw [o1, Int.toNat_natCast, show (v5 + (-1) + 1).toNat = v5.toNat by omega, ← d, show (v5 + 1).toNat = v5.toNat + 1 by omega]
    rfl
  · rw [up_at]
    by_cases z : k = v5.toNat
    · rw [if_pos ⟨rfl, z⟩, z, s1]
    · rw [if_neg (fun y => z y.2)]
      exact f k (by omega) k2
theorem orI_end {n c : Int} {row : Nat} {left met : Int} {M0 M : Mm} (hn : 1 ≤ n) (hn2 : n ≤ 4) (h : orI n c row left met (-1) M0 M) : (0 ≤ met ∧ met < 16) ∧ (met = (2 : Int) ^ n.toNat - 1 ↔ isO n c) ∧ i32 ((shl32 1 n) - 1) = (2 : Int) ^ n.toNat - 1 := by
  obtain ⟨-, -, ⟨c1, c2⟩, d, -⟩ := h
  have d : met.toNat = ors n n.toNat c 0 := d
  have hp : 2 ^ n.toNat ≤ 2 ^ 4 := Nat.pow_le_pow_right (by decide) (by omega)
  have hp1 : 1 ≤ 2 ^ n.toNat := Nat.pow_pos (by decide)
  have e2 : ((2 ^ n.toNat : Nat) : Int) = (2 : Int) ^ n.toNat := by rw [Int.natCast_pow]; rfl
  refine ⟨⟨c1, by omega⟩, ?_, ?_⟩
  · unfold isO
    rw [← d, ← e2]
    omega
  · have es : shl32 1 n = 1 * ((2 ^ n.toNat : Nat) : Int) := by
      have := shl32_id 1 n.toNat (by omega)
      rw [show ((n.toNat : Nat) : Int) = n by omega] at this
      exact this
    rw [es, Int.one_mul, ← e2, i32_id (by omega) (by omega)]
theorem s_cIsOrder {M : Mm} {n c : Int} (hn : 1 ≤ n) (hn2 : n ≤ 4) (hc1 : 0 ≤ c) (hc2 : c ≤ 256) : wq (f_Many_isOrder c n M) (fun q => tf q.1 (isO n c) ∧ (∀ k : Nat, k < n.toNat → q.2 58 k = ordN n c k) ∧ Fr [(58, 99999)] M q.2) := by
  unfold f_Many_isOrder f_Many_isOrder_L10
  refine wq_lp (fun z => z.1 = n ∧ orI n c 58 z.2.2.1 z.2.1 z.2.2.2.1 M z.2.2.2.2) (fun z => (z.2.2.2.1 + 1).toNat) ?_ FU _ ?_ ?_
  · rintro kH ⟨v2, v3, v4, v5, N⟩ ⟨q1, q2⟩ hk
    have a1 : v2 = n := q1
    have a2 : orI n c 58 v4 v3 v5 M N := q2
    clear q1 q2
    subst a1
    have b1 := a2.1
    have b2 := a2.2.1
    show wq (f_Many_isOrder_B10 (fun v2 v3 v4 v5 M => kH (v2, v3, v4, v5, M)) _ v2 v3 v4 v5 N) _
    unfold f_Many_isOrder_B10
    rw [i32_id (x := v5) (by omega) (by omega), i32_id (x := v2) (by omega) (by omega), i32_id (x := v4) (by omega) (by omega)]
    refine wq_if (fun d => ?_) (fun d => ?_)
    · have e5 : v5 = -1 := by omega
      subst e5
      obtain ⟨⟨m1, m2⟩, m3, m4⟩ := orI_end hn hn2 a2
      have hf := a2.2.2.2.2.2.1
      have hF := a2.2.2.2.2.2.2
      dsimp only
      rw [m4, i32_id (x := v3) (by omega) (by omega)]
      by_cases g : v3 = (2 : Int) ^ v2.toNat - 1
      · rw [if_neg (fun y => y g)]
        exact wq_some ⟨Or.inl ⟨rfl, m3.mp g⟩, fun k hk' => hf k (by omega) hk', hF⟩
      · rw [if_pos g]
        exact wq_some ⟨Or.inr ⟨rfl, fun y => g (m3.mpr y)⟩, fun k hk' => hf k (by omega) hk', hF⟩
    · have hs := orI_step hn hn2 a2 (by omega)
      refine wq_e (by omega) (wq_g (by omega) ?_)
      unfold f_Many_isOrder_J27
      rw [i32_id (x := v2) (by omega) (by omega), i32_id (x := v4) (by omega) (by omega)]
      refine wq_e (by omega) (wq_g (by omega) ?_)
      unfold f_Many_isOrder_J41
      rw [tmod_pos b2.1, tdiv_pos b2.1, e_set (n := 4) N rfl (by decide) (by omega) (by omega), bV_s]
      exact hk _ ⟨rfl, hs⟩ (show (v5 + (-1) + 1).toNat < (v5 + 1).toNat by omega)
  · exact ⟨rfl, orI_0 hn hc1 hc2⟩
  · show (n - 1 + 1).toNat < 1000000000
    omega
theorem s_mIsOrder {M : Mm} {n c : Int} (hn : 1 ≤ n) (hn2 : n ≤ 4) (hc1 : 0 ≤ c) (hc2 : c ≤ 256) : wq (f_M_isOrder c n M) (fun q => tf q.1 (isO n c) ∧ (∀ k : Nat, k < n.toNat → q.2 114 k = ordN n c k) ∧ Fr [(114, 99999)] M q.2) := by
  unfold f_M_isOrder f_M_isOrder_L10
  refine wq_lp (fun z => z.1 = n ∧ orI n c 114 z.2.1 z.2.2.1 z.2.2.2.1 M z.2.2.2.2) (fun z => (z.2.2.2.1 + 1).toNat) ?_ FU _ ?_ ?_
  · rintro kH ⟨v2, v3, v4, v5, N⟩ ⟨q1, q2⟩ hk
    have a1 : v2 = n := q1
    have a2 : orI n c 114 v3 v4 v5 M N := q2
    clear q1 q2
    subst a1
    have b1 := a2.1
    have b2 := a2.2.1
    show wq (f_M_isOrder_B10 (fun v2 v3 v4 v5 M => kH (v2, v3, v4, v5, M)) _ v2 v3 v4 v5 N) _
    unfold f_M_isOrder_B10
    rw [i32_id (x := v5) (by omega) (by omega), i32_id (x := v2) (by omega) (by omega), i32_id (x := v3) (by omega) (by omega)]
    refine wq_if (fun d => ?_) (fun d => ?_)
    · have e5 : v5 = -1 := by omega
      subst e5
      obtain ⟨⟨m1, m2⟩, m3, m4⟩ := orI_end hn hn2 a2
      have hf := a2.2.2.2.2.2.1
      have hF := a2.2.2.2.2.2.2
      dsimp only
      rw [m4, i32_id (x := v4) (by omega) (by omega)]
      by_cases g : v4 = (2 : Int) ^ v2.toNat - 1
      · rw [if_neg (fun y => y g)]
        exact wq_some ⟨Or.inl ⟨rfl, m3.mp g⟩, fun k hk' => hf k (by omega) hk', hF⟩
      · rw [if_pos g]
        exact wq_some ⟨Or.inr ⟨rfl, fun y => g (m3.mpr y)⟩, fun k hk' => hf k (by omega) hk', hF⟩
    · have hs := orI_step hn hn2 a2 (by omega)
      refine wq_g (by omega) (wq_g (by omega) (wq_d (wq_g (by omega) (wq_g (by omega) ?_))))
      rw [up_eq, tmod_pos b2.1, tdiv_pos b2.1]
      exact hk _ ⟨rfl, hs⟩ (show (v5 + (-1) + 1).toNat < (v5 + 1).toNat by omega)
  · exact ⟨rfl, orI_0 hn hc1 hc2⟩
  · show (n - 1 + 1).toNat < 1000000000
    omega
theorem rdw_take {b : Int} {L : List (Int × Int)} {k : Nat} {q : Int × Int} (h : L[k]? = some q) : rdw b (L.take (k + 1)) = rdw b (L.take k) ++ [(q.1, q.2, b)] := by
  unfold rdw
  rw [List.take_add_one, h]
  simp
theorem snoc_get {R : List (Int × Int × Int)} {x q : Int × Int × Int} {k : Nat} (h : (R ++ [x])[k]? = some q) : (k < R.length ∧ R[k]? = some q) ∨ (k = R.length ∧ q = x) := by
  rcases Nat.lt_trichotomy k R.length with c | c | c
  · rw [List.getElem?_append_left c] at h
    exact Or.inl ⟨c, h⟩
  · subst c
    rw [List.getElem?_append_right (Nat.le_refl _), Nat.sub_self] at h
    cases h
    exact Or.inr ⟨rfl, rfl⟩
  · rw [List.getElem?_eq_none (by simp; omega)] at h
    cases h
theorem up_if (M : Mm) (i k j : Nat) (v : Int) : up M i k v i j = if j = k then v else M i j := by
  rw [up_at]
  by_cases c : j = k
  · rw [if_pos ⟨rfl, c⟩, if_pos c]
  · rw [if_neg (fun z => c z.2), if_neg c]
def ocL : List (Nat × Nat) := [(48, 10), (52, 99999), (53, 99999), (54, 99999)]
theorem s_occupy {M : Mm} {R : List (Int × Int × Int)} {L : List (Int × Int)} {b : Int} (hB : bzC M R) (hs : stpC M L) (hL : L.length ≤ 9) (hl : R.length + L.length ≤ 36) : wq (f_Ways_occupy b M) (fun M' => bzC M' (R ++ rdw b L) ∧ Fr ocL M M') := by
  unfold f_Ways_occupy f_Ways_occupy_L2
  refine wq_lp (fun z => z.1 = b ∧ (0 ≤ z.2.1 ∧ z.2.1 ≤ (L.length : Int)) ∧ bzC z.2.2 (R ++ rdw b (L.take z.2.1.toNat)) ∧ Fr ocL M z.2.2) (fun z => ((L.length : Int) - z.2.1).toNat) ?_ FU _ ?_ ?_
  · rintro kH ⟨v1, v2, N⟩ ⟨q1, q2, q3, q4⟩ hk
    have a1 : v1 = b := q1
    have a2 : 0 ≤ v2 ∧ v2 ≤ (L.length : Int) := q2
    have a3 : bzC N (R ++ rdw b (L.take v2.toNat)) := q3
    have a4 : Fr ocL M N := q4
    clear q1 q2 q3 q4
    subst a1
    have e6 : N 48 6 = (L.length : Int) := (a4.at 48 6 rfl).trans hs.1
    have hlen : (R ++ rdw v1 (L.take v2.toNat)).length = R.length + v2.toNat := by
      rw [List.length_append, rdw_len, List.length_take]; omega
    have e10 : N 48 10 = (R.length : Int) + v2 := by rw [a3.1, hlen]; omega
    show wq (f_Ways_occupy_B2 (fun v1 v2 M => kH (v1, v2, M)) v1 v2 N) _
    unfold f_Ways_occupy_B2
    rw [e6, e10, i32_id (x := (L.length : Int)) (by omega) (by omega), i32_id (x := v2) (by omega) (by omega), i32_id (x := 36) (by omega) (by omega), i32_id (x := (R.length : Int) + v2) (by omega) (by omega)]
    refine wq_if (fun c => ?_) (fun c => ?_)
    · rw [List.take_of_length_le (by omega)] at a3
      exact wq_some ⟨a3, a4⟩
    · obtain ⟨q, hq⟩ : ∃ q, L[v2.toNat]? = some q := ⟨L[v2.toNat]'(by omega), List.getElem?_eq_getElem _⟩
      obtain ⟨g1, g2⟩ := hs.2 _ _ hq
      refine wq_e (by omega) ?_
      rw [e_cell_in (n := 9) N rfl (by decide) a2.1 (by omega), bI_s, a4.row 50 rfl, g1, e_set (n := 36) N rfl (by decide) (by omega) (by omega), bV_s, e_cell_in (n := 9) _ rfl (by decide) a2.1 (by omega), bI_s, up_row (by decide : ¬ (51 = 52)), a4.row 51 rfl, g2, up_row (by decide : ¬ (48 = 52)), e10, e_set (n := 36) _ rfl (by decide) (by omega) (by omega), bV_s, up_row (by decide : ¬ (48 = 53)), up_row (by decide : ¬ (48 = 52)), e10, e_set (n := 36) _ rfl (by decide) (by omega) (by omega), bV_s]
      refine wq_d ?_
      rw [up_row (by decide : ¬ (48 = 54)), up_row (by decide : ¬ (48 = 53)), up_row (by decide : ¬ (48 = 52)), e10]
      refine hk _ ⟨rfl, ⟨show 0 ≤ v2 + 1 by omega, show v2 + 1 ≤ (L.length : Int) by omega⟩, ?_, (((a4.up (by simp [ocL])).up (by simp [ocL])).up (by simp [ocL])).up (by simp [ocL])⟩ (show ((L.length : Int) - (v2 + 1)).toNat < ((L.length : Int) - v2).toNat by omega)
      show bzC (up (up (up (up N 52 ((R.length : Int) + v2).toNat q.1) 53 ((R.length : Int) + v2).toNat q.2) 54 ((R.length : Int) + v2).toNat v1) 48 10 ((R.length : Int) + v2 + 1)) (R ++ rdw v1 (L.take (v2 + 1).toNat))
      rw [show (v2 + 1).toNat = v2.toNat + 1 by omega, rdw_take hq, ← List.append_assoc]
      refine ⟨by rw [up_eq, List.length_append, hlen]; simp; omega, fun k x hx => ?_⟩
      have hi0 : ((R.length : Int) + v2).toNat = R.length + v2.toNat := by omega
      generalize ((R.length : Int) + v2).toNat = i0 at hi0 ⊢
      have e52 : ∀ z, up (up (up (up N 52 i0 q.1) 53 i0 q.2) 54 i0 v1) 48 10 z 52 k = if k = i0 then q.1 else N 52 k := fun z => by
        rw [up_row (by decide), up_row (by decide), up_row (by decide), up_if]
      have e53 : ∀ z, up (up (up (up N 52 i0 q.1) 53 i0 q.2) 54 i0 v1) 48 10 z 53 k = if k = i0 then q.2 else N 53 k := fun z => by
        rw [up_row (by decide), up_row (by decide), up_if, up_row (by decide)]
      have e54 : ∀ z, up (up (up (up N 52 i0 q.1) 53 i0 q.2) 54 i0 v1) 48 10 z 54 k = if k = i0 then v1 else N 54 k := fun z => by
        rw [up_row (by decide), up_if, up_row (by decide), up_row (by decide)]
      rw [e52, e53, e54]
      rcases snoc_get hx with ⟨y1, y2⟩ | ⟨y1, y2⟩
      · rw [if_neg (by omega), if_neg (by omega), if_neg (by omega)]
        exact a3.2 k x y2
      · rw [if_pos (by omega), if_pos (by omega), if_pos (by omega), y2]
        exact ⟨rfl, rfl, rfl⟩
  · exact ⟨rfl, ⟨Int.le_refl _, by show (0 : Int) ≤ _; omega⟩, by show bzC M (R ++ rdw b (L.take 0)); simpa [rdw] using hB, Fr.rf⟩
  · show ((L.length : Int) - 0).toNat < 1000000000
    omega
