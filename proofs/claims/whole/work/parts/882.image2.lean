theorem s_checked {row len : Nat} {c : Int} {M : Mm} (hn : slen row = len) (hl : len < 99999) (h1 : 0 ≤ c) (h2 : c ≤ len) (hf : ∀ k : Nat, (k : Int) < c → 0 ≤ M row k ∧ M row k ≤ 255) : wq (f_M_checked row c M) (fun q => q.1 = ckf (M row) c.toNat ∧ q.2 = M) := by
  unfold f_M_checked f_M_checked_L6
  refine wq_lp (fun z => z.1 = c ∧ (0 ≤ z.2.2.1 ∧ z.2.2.1 ≤ c) ∧ z.2.1 = ckf (M row) z.2.2.1.toNat ∧ z.2.2.2 = M) (fun z => (c - z.2.2.1).toNat) ?_ FU _ ?_ ?_
  · rintro kH ⟨v1, v2, v3, N⟩ ⟨q1, q2, q3, q4⟩ hk
    have a1 : v1 = c := q1
    have a2 : 0 ≤ v3 ∧ v3 ≤ c := q2
    have a3 : v2 = ckf (M row) v3.toNat := q3
    have a4 : N = M := q4
    clear q1 q2 q3 q4
    show wq (f_M_checked_B6 row (fun v1 v2 v3 M => kH (v1, v2, v3, M)) v1 v2 v3 N) _
    rw [a1, a4, a3]
    unfold f_M_checked_B6
    rw [hn, i32_id (x := c) (by omega) (by omega), i32_id (x := v3) (by omega) (by omega)]
    refine wq_if (fun d => wq_some ⟨?_, rfl⟩) (fun d => ?_)
    · show ckf (M row) v3.toNat = ckf (M row) c.toNat
      rw [show v3 = c by omega]
    · have hr := ckf_rng (M row) v3.toNat
      have hv := hf v3.toNat (by omega)
      rw [i32_id (x := 3 * ckf (M row) v3.toNat + M row v3.toNat) (by omega) (by omega), i32_id (x := 251) (by omega) (by omega), tmod_pos (by omega)]
      refine wq_g (by omega) (hk _ ⟨rfl, ⟨show 0 ≤ v3 + 1 by omega, show v3 + 1 ≤ c by omega⟩, ?_, rfl⟩ (show (c - (v3 + 1)).toNat < (c - v3).toNat by omega))
      show (3 * ckf (M row) v3.toNat + M row v3.toNat) % 251 = ckf (M row) (v3 + 1).toNat
      rw [show (v3 + 1).toNat = v3.toNat + 1 by omega]; rfl
  · exact ⟨rfl, ⟨Int.le_refl _, h1⟩, rfl, rfl⟩
  · show (c - 0).toNat < 1000000000
    omega
theorem s_draw {V M : Mm} (hT : Tw V) (hN : Nw V) (hc : Tc V M) (hn : Nc V M) : wq (f_Now_draw M) (fun M' => M' 39 7 = 2 + nS V + 4 * nW V + 1 ∧ (∀ k : Nat, (k : Int) < 2 + nS V + 4 * nW V → M' 45 k = pf V k) ∧ M' 45 (2 + nS V + 4 * nW V).toNat = ckf (pf V) (2 + nS V + 4 * nW V).toNat ∧ Fr [(39, 7), (45, 99999)] M M') := by
  have hS := hT.2.1
  have hW := hT.2.2.1
  have hh := hN.1
  unfold f_Now_draw
  refine wq_d ?_
  rw [up_col (by decide), hn.1]
  have i0 : PI V M 0 (up M 39 7 0) := ⟨up_eq _ _ _ _, fun k hk => absurd hk (by omega), Fr.rf.up (by simp)⟩
  refine wq_V (s_writeHour i0 (by decide) (by decide) ⟨hh.1, by omega⟩ (by rfl) (by rfl)) (fun A a => ?_)
  have a : PI V M 2 A := a
  unfold f_Now_draw_L15
  refine wq_lp (fun z => (0 ≤ z.1 ∧ z.1 ≤ nS V) ∧ PI V M (2 + z.1) z.2) (fun z => (nS V - z.1).toNat) ?_ FU _ ?_ ?_
  · rintro kH ⟨v1, N⟩ ⟨q1, q2⟩ hk
    have a1 : 0 ≤ v1 ∧ v1 ≤ nS V := q1
    have a2 : PI V M (2 + v1) N := q2
    clear q1 q2
    have hcN : Tc V N := hc.fr a2.2.2 rfl
    show wq (f_Now_draw_B15 (fun v1 M => kH (v1, M)) _ v1 N) _
    unfold f_Now_draw_B15
    rw [e_count1 hcN, bI_s, i32_id (x := nS V) (by omega) (by omega), i32_id (x := v1) (by omega) (by omega)]
    refine wq_if (fun c => ?_) (fun c => ?_)
    · have ev : v1 = nS V := by omega
      rw [ev] at a2
      unfold f_Now_draw_L47
      refine wq_lp (fun z => (0 ≤ z.1 ∧ z.1 ≤ nW V) ∧ PI V M (2 + nS V + 4 * z.1) z.2) (fun z => (nW V - z.1).toNat) ?_ FU _ ?_ ?_
      · rintro kG ⟨w, B⟩ ⟨p1, p2⟩ hg
        have b1 : 0 ≤ w ∧ w ≤ nW V := p1
        have b2 : PI V M (2 + nS V + 4 * w) B := p2
        clear p1 p2
        have hcB : Tc V B := hc.fr b2.2.2 rfl
        show wq (f_Now_draw_B47 (fun v1 M => kG (v1, M)) _ w B) _
        unfold f_Now_draw_B47
        rw [e_count2 hcB, bI_s, i32_id (x := nW V) (by omega) (by omega), i32_id (x := w) (by omega) (by omega)]
        refine wq_if (fun d => ?_) (fun d => ?_)
        · have ew : w = nW V := by omega
          rw [ew] at b2
          obtain ⟨g1, g2, g3⟩ := b2
          dsimp only
          rw [g1]
          refine wq_I (s_check (row := 45) (len := 39) rfl (by decide) (by omega) (by omega) (fun k hk' => by rw [g2 k hk']; exact pf_rng hT hN hk')) (fun r B2 ⟨r1, r2⟩ => ?_)
          have r1 : r = ckf (B 45) (2 + nS V + 4 * nW V).toNat := r1
          have r2 : B2 = B := r2
          rw [r2]
          unfold f_Now_write
          rw [g1, e_set (n := 39) B rfl (by decide) (by omega) (by omega), bV_s, up_row (by decide), g1]
          refine wq_d (wq_V (wq_some (Q := fun X => X = up (up B 45 (2 + nS V + 4 * nW V).toNat r) 39 7 (2 + nS V + 4 * nW V + 1)) rfl) (fun X hX => wq_some ?_))
          rw [hX]
          refine ⟨up_eq _ _ _ _, fun k hk' => ?_, ?_, (g3.up (by simp)).up (by simp)⟩
          · rw [up_row (by decide), up_col (by omega)]; exact g2 k hk'
          · rw [up_row (by decide), up_eq, r1]
            exact ckf_cg _ (fun j hj => g2 j (by omega))
        · have hp := pl_rng hT hN b1.1 (by omega : w < nW V)
          have hf := (hN.2.2 w b1.1 (by omega)).2
          obtain ⟨x1, x2, x3⟩ := hn.2.2 w b1.1 (by omega)
          obtain ⟨y1, y2, y3, y4⟩ := pf_w hT b1.1
          rw [e_cell_in (n := 6) B rfl (by decide) b1.1 (by omega), bI_s, b2.2.2.row 41 rfl, x1]
          refine wq_V (s_write b2 (by omega) (by omega) y1.symm) (fun C c1 => ?_)
          rw [e_cell_in (n := 6) C rfl (by decide) b1.1 (by omega), bI_s, c1.2.2.row 42 rfl, x2]
          refine wq_V (s_write c1 (by omega) (by omega) y2.symm) (fun D d1 => ?_)
          rw [e_cell_in (n := 6) D rfl (by decide) b1.1 (by omega), bI_s, d1.2.2.row 43 rfl, x3]
          refine wq_V (s_writeHour d1 (by omega) (by omega) ⟨hf.1, by omega⟩ ?_ ?_) (fun E e1 => ?_)
          · rw [show 2 + nS V + 4 * w + 1 + 1 = 2 + nS V + 4 * w + 2 by omega]; exact y3.symm
          · rw [show 2 + nS V + 4 * w + 1 + 1 + 1 = 2 + nS V + 4 * w + 3 by omega]; exact y4.symm
          · rw [show 2 + nS V + 4 * w + 1 + 1 + 1 + 1 = 2 + nS V + 4 * (w + 1) by omega] at e1
            exact hg _ ⟨⟨show 0 ≤ w + 1 by omega, show w + 1 ≤ nW V by omega⟩, e1⟩ (show (nW V - (w + 1)).toNat < (nW V - w).toNat by omega)
      · exact ⟨⟨Int.le_refl _, hW.1⟩, by show PI V M (2 + nS V + 4 * 0) N; rw [show 2 + nS V + 4 * 0 = 2 + nS V by omega]; exact a2⟩
      · show (nW V - 0).toNat < 1000000000
        omega
    · rw [e_cell_in (n := 12) N rfl (by decide) a1.1 (by omega), bI_s, a2.2.2.row 40 rfl, hn.2.1 v1 a1.1 (by omega)]
      refine wq_V (s_write a2 (by omega) (by omega) (pf_s hT a1.1 (by omega)).symm) (fun B b => ?_)
      rw [show 2 + v1 + 1 = 2 + (v1 + 1) by omega] at b
      exact hk _ ⟨⟨show 0 ≤ v1 + 1 by omega, show v1 + 1 ≤ nS V by omega⟩, b⟩ (show (nS V - (v1 + 1)).toNat < (nS V - v1).toNat by omega)
  · exact ⟨⟨Int.le_refl _, hS.1⟩, a⟩
  · show (nS V - 0).toNat < 1000000000
    omega
