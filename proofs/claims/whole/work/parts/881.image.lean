def ckf (f : Nat → Int) : Nat → Int
  | 0 => 163
  | k + 1 => (3 * ckf f k + f k) % 251
theorem ckf_rng (f : Nat → Int) : ∀ k : Nat, 0 ≤ ckf f k ∧ ckf f k ≤ 250
  | 0 => by show 0 ≤ (163 : Int) ∧ (163 : Int) ≤ 250; decide
  | k + 1 => by
    show 0 ≤ (3 * ckf f k + f k) % 251 ∧ (3 * ckf f k + f k) % 251 ≤ 250
    omega
theorem ckf_cg {f g : Nat → Int} : ∀ k : Nat, (∀ j : Nat, j < k → f j = g j) → ckf f k = ckf g k
  | 0, _ => rfl
  | k + 1, h => by
    show (3 * ckf f k + f k) % 251 = (3 * ckf g k + g k) % 251
    rw [ckf_cg k (fun j hj => h j (by omega)), h k (by omega)]
theorem s_check {row len : Nat} {c : Int} {M : Mm} (hn : slen row = len) (hl : len < 99999) (h1 : 0 ≤ c) (h2 : c ≤ len) (hf : ∀ k : Nat, (k : Int) < c → 0 ≤ M row k ∧ M row k ≤ 255) : wq (f_Now_check row c M) (fun q => q.1 = ckf (M row) c.toNat ∧ q.2 = M) := by
  unfold f_Now_check f_Now_check_L6
  refine wq_lp (fun z => z.1 = c ∧ (0 ≤ z.2.2.1 ∧ z.2.2.1 ≤ c) ∧ z.2.1 = ckf (M row) z.2.2.1.toNat ∧ z.2.2.2 = M) (fun z => (c - z.2.2.1).toNat) ?_ FU _ ?_ ?_
  · rintro kH ⟨v1, v2, v3, N⟩ ⟨q1, q2, q3, q4⟩ hk
    have a1 : v1 = c := q1
    have a2 : 0 ≤ v3 ∧ v3 ≤ c := q2
    have a3 : v2 = ckf (M row) v3.toNat := q3
    have a4 : N = M := q4
    clear q1 q2 q3 q4
    show wq (f_Now_check_B6 row (fun v1 v2 v3 M => kH (v1, v2, v3, M)) v1 v2 v3 N) _
    rw [a1, a4, a3]
    unfold f_Now_check_B6
    rw [i32_id (x := c) (by omega) (by omega), i32_id (x := v3) (by omega) (by omega)]
    refine wq_if (fun d => wq_some ⟨?_, rfl⟩) (fun d => ?_)
    · show ckf (M row) v3.toNat = ckf (M row) c.toNat
      rw [show v3 = c by omega]
    · have hr := ckf_rng (M row) v3.toNat
      have hv := hf v3.toNat (by omega)
      rw [e_cell_in (n := len) M hn (by omega) a2.1 (by omega), bI_s, i32_id (x := 3 * ckf (M row) v3.toNat + M row v3.toNat) (by omega) (by omega), i32_id (x := 251) (by omega) (by omega), tmod_pos (by omega)]
      refine hk _ ⟨rfl, ⟨show 0 ≤ v3 + 1 by omega, show v3 + 1 ≤ c by omega⟩, ?_, rfl⟩ (show (c - (v3 + 1)).toNat < (c - v3).toNat by omega)
      show (3 * ckf (M row) v3.toNat + M row v3.toNat) % 251 = ckf (M row) (v3 + 1).toNat
      rw [show (v3 + 1).toNat = v3.toNat + 1 by omega]; rfl
  · exact ⟨rfl, ⟨Int.le_refl _, h1⟩, rfl, rfl⟩
  · show (c - 0).toNat < 1000000000
    omega
/-- what a picture holds -/
def pf (V : Mm) (k : Nat) : Int := if k = 0 then hr V / 256 else if k = 1 then hr V % 256 else if (k : Int) < 2 + nS V then sf V ((k : Int) - 2) else if ((k : Int) - 2 - nS V) % 4 = 0 then pl V (((k : Int) - 2 - nS V) / 4) else if ((k : Int) - 2 - nS V) % 4 = 1 then gl V (((k : Int) - 2 - nS V) / 4) else if ((k : Int) - 2 - nS V) % 4 = 2 then fr V (((k : Int) - 2 - nS V) / 4) / 256 else fr V (((k : Int) - 2 - nS V) / 4) % 256
theorem pf_s {V : Mm} (hT : Tw V) {s : Int} (h1 : 0 ≤ s) (h2 : s < nS V) : pf V (2 + s).toNat = sf V s := by
  unfold pf
  rw [if_neg (by omega), if_neg (by omega), if_pos (by omega)]
  congr 1; omega
theorem pf_w {V : Mm} (hT : Tw V) {w : Int} (h1 : 0 ≤ w) : pf V (2 + nS V + 4 * w).toNat = pl V w ∧ pf V (2 + nS V + 4 * w + 1).toNat = gl V w ∧ pf V (2 + nS V + 4 * w + 2).toNat = fr V w / 256 ∧ pf V (2 + nS V + 4 * w + 3).toNat = fr V w % 256 := by
  have hS := hT.2.1
  unfold pf
  refine ⟨?_, ?_, ?_, ?_⟩
  · rw [if_neg (by omega), if_neg (by omega), if_neg (by omega), if_pos (by omega)]
    congr 1; omega
  · rw [if_neg (by omega), if_neg (by omega), if_neg (by omega), if_neg (by omega), if_pos (by omega)]
    congr 1; omega
  · rw [if_neg (by omega), if_neg (by omega), if_neg (by omega), if_neg (by omega), if_neg (by omega), if_pos (by omega)]
    congr 2; omega
  · rw [if_neg (by omega), if_neg (by omega), if_neg (by omega), if_neg (by omega), if_neg (by omega), if_neg (by omega)]
    congr 2; omega
theorem pf_rng {V : Mm} (hT : Tw V) (hN : Nw V) {k : Nat} (hk : (k : Int) < 2 + nS V + 4 * nW V) : 0 ≤ pf V k ∧ pf V k ≤ 255 := by
  have hP := hT.1
  have hS := hT.2.1
  have hh := hN.1
  unfold pf
  by_cases c0 : k = 0
  · rw [if_pos c0]; omega
  rw [if_neg c0]
  by_cases c1 : k = 1
  · rw [if_pos c1]; omega
  rw [if_neg c1]
  by_cases c2 : (k : Int) < 2 + nS V
  · rw [if_pos c2]
    have := hN.2.1 ((k : Int) - 2) (by omega) (by omega)
    have := (hT.2.2.2.1 ((k : Int) - 2) (by omega) (by omega)).2.2.2.2.1
    omega
  rw [if_neg c2]
  have w1 : 0 ≤ ((k : Int) - 2 - nS V) / 4 := by omega
  have w2 : ((k : Int) - 2 - nS V) / 4 < nW V := by omega
  have hp := pl_rng hT hN w1 w2
  have hf := (hN.2.2 _ w1 w2).2
  split
  · omega
  split
  · omega
  split
  · omega
  · omega
/-- so much of the picture is written, on either side -/
def PI (V M0 : Mm) (c : Int) (N : Mm) : Prop := N 39 7 = c ∧ (∀ k : Nat, (k : Int) < c → N 45 k = pf V k) ∧ Fr [(39, 7), (45, 99999)] M0 N
def PM (V M0 : Mm) (c : Int) (N : Mm) : Prop := N 78 99 = c ∧ (∀ k : Nat, (k : Int) < c → N 145 k = pf V k) ∧ Fr [(78, 99), (145, 99999)] M0 N
theorem s_write {V M0 N : Mm} {c v : Int} (h : PI V M0 c N) (h1 : 0 ≤ c) (h2 : c < 39) (hv : v = pf V c.toNat) : wq (f_Now_write v N) (PI V M0 (c + 1)) := by
  obtain ⟨a1, a2, a3⟩ := h
  unfold f_Now_write
  rw [a1, e_set (n := 39) N rfl (by decide) h1 (by omega), bV_s]
  refine wq_d (wq_some ⟨?_, fun k hk => ?_, (a3.up (by simp)).up (by simp)⟩)
  · rw [up_eq, up_row (by decide), a1]
  · rw [up_row (by decide)]
    by_cases z : k = c.toNat
    · rw [z, up_eq, hv]
    · rw [up_col z]; exact a2 k (by omega)
theorem s_writes {V M0 N : Mm} {c v : Int} (h : PM V M0 c N) (h1 : 0 ≤ c) (h2 : c < 39) (hv : v = pf V c.toNat) : wq (f_M_writes v N) (PM V M0 (c + 1)) := by
  obtain ⟨a1, a2, a3⟩ := h
  unfold f_M_writes
  rw [a1, i32_id (x := c) (by omega) (by omega)]
  refine wq_g (by omega) (wq_d (wq_d (wq_some ⟨?_, fun k hk => ?_, (a3.up (by simp)).up (by simp)⟩)))
  · rw [up_eq, up_row (by decide), a1]
  · rw [up_row (by decide)]
    by_cases z : k = c.toNat
    · rw [z, up_eq, hv]
    · rw [up_col z]; exact a2 k (by omega)
theorem s_writeHour {V M0 N : Mm} {c v : Int} (h : PI V M0 c N) (h1 : 0 ≤ c) (h2 : c < 38) (hr' : 0 ≤ v ∧ v ≤ 100000) (hv : v / 256 = pf V c.toNat) (hv2 : v % 256 = pf V (c + 1).toNat) : wq (f_Now_writeHour v N) (PI V M0 (c + 1 + 1)) := by
  unfold f_Now_writeHour
  rw [i32_id (x := v) (by omega) (by omega), i32_id (x := 256) (by omega) (by omega), tdiv_pos (by omega), tmod_pos (by omega)]
  refine wq_V (s_write h h1 (by omega) hv) (fun N2 b => ?_)
  exact wq_V (s_write b (by omega) (by omega) hv2) (fun N3 d => wq_some d)
