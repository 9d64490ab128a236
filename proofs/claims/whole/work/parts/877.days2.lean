theorem s_daysC {V M : Mm} {g : Int × (Nat → Int)} {h w : Int} {Q : Int × Mm → Prop} (hT : Tw V) (hc : Tc V M) (hg : gOk V g) (hw : 0 ≤ w ∧ w ≤ 30) (e1 : M 39 8 = h) (e2 : M 0 13 = g.1) (e3 : ∀ s : Int, 0 ≤ s → s < nS V → M 40 s.toNat = g.2 s.toNat) (k : ∀ M', M' 39 8 = h + 24 * w → M' 0 13 = (dyN V g w.toNat).1 → (∀ s : Int, 0 ≤ s → s < nS V → M' 40 s.toNat = (dyN V g w.toNat).2 s.toNat) → Fr dyL M M' → Q (h + 24 * w, M')) : wq (f_BT_days_L44 FU (w, 0, M)) Q := by
  unfold f_BT_days_L44
  refine wq_lp (fun z => z.1 = w ∧ (0 ≤ z.2.1 ∧ z.2.1 ≤ w) ∧ z.2.2 39 8 = h + 24 * z.2.1 ∧ z.2.2 0 13 = (dyN V g z.2.1.toNat).1 ∧ (∀ s : Int, 0 ≤ s → s < nS V → z.2.2 40 s.toNat = (dyN V g z.2.1.toNat).2 s.toNat) ∧ Fr dyL M z.2.2) (fun z => (w - z.2.1).toNat) ?_ FU _ ?_ ?_
  · rintro kH ⟨v1, v2, N⟩ ⟨q1, q2, q3, q4, q5, q6⟩ hk
    have a1 : v1 = w := q1
    have a2 : 0 ≤ v2 ∧ v2 ≤ w := q2
    have a3 : N 39 8 = h + 24 * v2 := q3
    have a4 : N 0 13 = (dyN V g v2.toNat).1 := q4
    have a5 : ∀ s : Int, 0 ≤ s → s < nS V → N 40 s.toNat = (dyN V g v2.toNat).2 s.toNat := q5
    have a6 : Fr dyL M N := q6
    clear q1 q2 q3 q4 q5 q6
    show wq (f_BT_days_B44 (fun v1 v2 M => kH (v1, v2, M)) v1 v2 N) _
    rw [a1]
    unfold f_BT_days_B44
    rw [i32_id (x := w) (by omega) (by omega), i32_id (x := v2) (by omega) (by omega)]
    refine wq_if (fun c => ?_) (fun c => ?_)
    · have ev : v2 = w := by omega
      rw [ev] at a3 a4 a5
      refine wq_some ?_
      rw [a3]
      exact k N a3 a4 a5 a6
    · refine wq_V (s_passDay hT (hc.fr a6 rfl) (dyN_ok hT hg v2.toNat) a3 a4 a5) (fun N2 ⟨b1, b2, b3, b4⟩ => ?_)
      have en : dyS V (dyN V g v2.toNat) = dyN V g (v2 + 1).toNat := by rw [show (v2 + 1).toNat = v2.toNat + 1 by omega]; rfl
      rw [en] at b2 b3
      exact hk _ ⟨rfl, ⟨show 0 ≤ v2 + 1 by omega, show v2 + 1 ≤ w by omega⟩, by show N2 39 8 = h + 24 * (v2 + 1); omega, b2, b3, a6.tr b4⟩ (show (w - (v2 + 1)).toNat < (w - v2).toNat by omega)
  · exact ⟨rfl, ⟨Int.le_refl _, hw.1⟩, by show M 39 8 = h + 24 * 0; omega, e2, e3, Fr.rf⟩
  · show (w - 0).toNat < 1000000000
    omega
theorem s_daysM {V M : Mm} {g : Int × (Nat → Int)} {h w : Int} {Q : Int × Mm → Prop} (hT : Tw V) (hu : Rt V M) (hg : gOk V g) (hw : 0 ≤ w ∧ w ≤ 30) (hh : 0 ≤ h ∧ h ≤ 20000) (e1 : M 108 0 = h) (e2 : M 78 65 = g.1) (e3 : ∀ s : Int, 0 ≤ s → s < nS V → M 108 (1 + s).toNat = g.2 s.toNat) (k : ∀ M', M' 108 0 = h + 24 * w → M' 78 65 = (dyN V g w.toNat).1 → (∀ s : Int, 0 ≤ s → s < nS V → M' 108 (1 + s).toNat = (dyN V g w.toNat).2 s.toNat) → (∀ q : Nat, 13 ≤ q → M' 108 q = M 108 q) → Fr dmL M M' → Q (h + 24 * w, M')) : wq (f_M_days_L47 FU (w, 0, M)) Q := by
  have hS := hT.2.1
  unfold f_M_days_L47
  refine wq_lp (fun z => z.1 = w ∧ (0 ≤ z.2.1 ∧ z.2.1 ≤ w) ∧ z.2.2 108 0 = h + 24 * z.2.1 ∧ z.2.2 78 65 = (dyN V g z.2.1.toNat).1 ∧ (∀ s : Int, 0 ≤ s → s < nS V → z.2.2 108 (1 + s).toNat = (dyN V g z.2.1.toNat).2 s.toNat) ∧ (∀ q : Nat, 13 ≤ q → z.2.2 108 q = M 108 q) ∧ Fr dmL M z.2.2) (fun z => (w - z.2.1).toNat) ?_ FU _ ?_ ?_
  · rintro kH ⟨v1, v2, N⟩ ⟨q1, q2, q3, q4, q5, q6, q7⟩ hk
    have a1 : v1 = w := q1
    have a2 : 0 ≤ v2 ∧ v2 ≤ w := q2
    have a3 : N 108 0 = h + 24 * v2 := q3
    have a4 : N 78 65 = (dyN V g v2.toNat).1 := q4
    have a5 : ∀ s : Int, 0 ≤ s → s < nS V → N 108 (1 + s).toNat = (dyN V g v2.toNat).2 s.toNat := q5
    have a6 : ∀ q : Nat, 13 ≤ q → N 108 q = M 108 q := q6
    have a7 : Fr dmL M N := q7
    clear q1 q2 q3 q4 q5 q6 q7
    show wq (f_M_days_B47 (fun v1 v2 M => kH (v1, v2, M)) v1 v2 N) _
    rw [a1]
    unfold f_M_days_B47
    rw [i32_id (x := w) (by omega) (by omega), i32_id (x := v2) (by omega) (by omega)]
    refine wq_if (fun c => ?_) (fun c => ?_)
    · have ev : v2 = w := by omega
      rw [ev] at a3 a4 a5
      refine wq_some ?_
      rw [a3]
      exact k N a3 a4 a5 a6 a7
    · have hk' : ∀ N2 : Mm, N2 108 0 = h + 24 * v2 + 24 → N2 78 65 = (dyS V (dyN V g v2.toNat)).1 → (∀ s : Int, 0 ≤ s → s < nS V → N2 108 (1 + s).toNat = (dyS V (dyN V g v2.toNat)).2 s.toNat) → (∀ q : Nat, 13 ≤ q → N2 108 q = M 108 q) → Fr dmL M N2 → wq (kH (w, v2 + 1, N2)) Q := by
        intro N2 b1 b2 b3 b4 b5
        have en : dyS V (dyN V g v2.toNat) = dyN V g (v2 + 1).toNat := by rw [show (v2 + 1).toNat = v2.toNat + 1 by omega]; rfl
        rw [en] at b2 b3
        exact hk _ ⟨rfl, ⟨show 0 ≤ v2 + 1 by omega, show v2 + 1 ≤ w by omega⟩, by show N2 108 0 = h + 24 * (v2 + 1); omega, b2, b3, b4, b5⟩ (show (w - (v2 + 1)).toNat < (w - v2).toNat by omega)
      have hgo := dyN_ok hT hg v2.toNat
      generalize dyN V g v2.toNat = G at *
      refine wq_d ?_
      rw [a3]
      generalize hA : up N 108 0 (h + 24 * v2 + 24) = A
      have FA : Fr dmL M A := by rw [← hA]; exact a7.up (by simp [dmL])
      have c0 : A 108 0 = h + 24 * v2 + 24 := by rw [← hA, up_eq]
      have ck : ∀ q : Nat, ¬ q = 0 → A 108 q = N 108 q := fun q hq => by rw [← hA, up_col hq]
      have c65 : A 78 65 = G.1 := by rw [← hA, up_row (by decide), a4]
      have tr : ∀ B : Mm, Fr dmL M B → Rt V B := fun B hB => by
        have u := Rt.of hB rfl
        exact ⟨fun k hk => (u.1 k hk).trans (hu.1 k hk), fun k hk => (u.2.1 k hk).trans (hu.2.1 k hk), fun k hk => (u.2.2.1 k hk).trans (hu.2.2.1 k hk), fun k hk => (u.2.2.2.1 k hk).trans (hu.2.2.2.1 k hk), fun k hk => (u.2.2.2.2.1 k hk).trans (hu.2.2.2.2.1 k hk), fun k hk => (u.2.2.2.2.2.1 k hk).trans (hu.2.2.2.2.2.1 k hk), fun k hk => (u.2.2.2.2.2.2 k hk).trans (hu.2.2.2.2.2.2 k hk)⟩
      have uA := tr A FA
      rw [e_mS (rmR (M := A)), bI_s, rt_nS uA, i32_id (x := nS V) (by omega) (by omega)]
      by_cases d : nS V = 0
      · refine wq_e (fun z => z d) (hk' A c0 ?_ (fun s s1 s2 => by omega) (fun q hq => by rw [ck q (by omega)]; exact a6 q hq) FA)
        rw [c65]; unfold dyS; rw [if_pos (by omega)]
      · refine wq_t d ?_
        have hr1 := nx_rng G.1
        have hr2 := nx_rng (nx G.1)
        have hm : 0 ≤ (nx G.1 / 64) % nS V ∧ (nx G.1 / 64) % nS V < nS V := ⟨Int.emod_nonneg _ (by omega), Int.emod_lt_of_pos _ (by omega)⟩
        rw [e_mS (rmR (M := A)), bI_s, rt_nS uA, e_drawOf (by rw [c65]; exact hgo.1) (by omega) (by omega), bI_s, c65, e_drawOf (by rw [up_eq]; exact hr1) (by omega) (by omega), bI_s, up_eq]
        generalize hB : up (up A 78 65 (nx G.1)) 78 65 (nx (nx G.1)) = B
        have FB : Fr dmL M B := by rw [← hB]; exact (FA.up (by simp [dmL])).up (by simp [dmL])
        have b108 : B 108 = A 108 := by rw [← hB, up_row (by decide), up_row (by decide)]
        have b65 : B 78 65 = nx (nx G.1) := by rw [← hB, up_eq]
        have uB := tr B FB
        have hS1 : dyS V G = (nx (nx G.1), fun k => if k = ((nx G.1 / 64) % nS V).toNat then (G.2 k + ((nx (nx G.1) / 64) % 3 - 1)) % rd V ((nx G.1 / 64) % nS V) else G.2 k) := by unfold dyS; rw [if_neg (by omega)]
        rw [hS1] at hk'
        generalize hz : (nx G.1 / 64) % nS V = z at *
        have hrd := (hT.2.2.2.1 z hm.1 hm.2).2.2.2.2.1
        have hgz := hgo.2 z hm.1 hm.2
        have esf : sf B z = G.2 z.toNat := by
          show B 108 (1 + z).toNat = _
          rw [b108, ck _ (by omega)]; exact a5 z hm.1 hm.2
        have erd : rd B z = rd V z := rt_rd uB hm.1
        have eg : G.2 z.toNat + (nx (nx G.1) / 64 % 3 - 1) + 100 * rd V z = G.2 z.toNat + (nx (nx G.1) / 64 % 3 - 1) + rd V z * 100 := by omega
        unfold f_M_shifts0
        rw [e_shift (rmR (M := B)) hm.1 (by omega), bI_s, e_round (rmR (M := B)) hm.1 (by omega), bI_s, e_round (rmR (M := B)) hm.1 (by omega), bI_s, esf, erd, i32_id (x := G.2 z.toNat + (nx (nx G.1) / 64 % 3 - 1) + 100 * rd V z) (by omega) (by omega), i32_id (x := rd V z) (by omega) (by omega), tmod_pos (by omega), Int.add_mul_emod_self_right, i32_id (x := 1 + z) (by omega) (by omega), gd_t (by omega), gd_t (by omega), bd_s, bV_s]
        refine hk' _ ?_ ?_ (fun s s1 s2 => ?_) (fun q hq => ?_) (FB.up (by simp [dmL]))
        · rw [up_col (by omega), b108]; exact c0
        · rw [up_row (by decide)]; exact b65
        · dsimp only
          by_cases y : s.toNat = z.toNat
          · rw [if_pos y, y, show (1 + s).toNat = (1 + z).toNat by omega, up_eq]
          · rw [if_neg y, up_col (by omega), b108, ck _ (by omega)]; exact a5 s s1 s2
        · rw [up_col (by omega), b108, ck _ (by omega)]; exact a6 q hq
  · exact ⟨rfl, ⟨Int.le_refl _, hw.1⟩, by show M 108 0 = h + 24 * 0; omega, e2, e3, fun q _ => rfl, Fr.rf⟩
  · show (w - 0).toNat < 1000000000
    omega
