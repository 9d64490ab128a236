def nx (x : Int) : Int := (1103515245 * x + 12345) % 2147483648
theorem nx_rng (x : Int) : 0 ≤ nx x ∧ nx x < 2147483648 := by unfold nx; omega
theorem e_drawn {M : Mm} {n : Int} (h : 0 ≤ M 0 13 ∧ M 0 13 < 2147483648) (h1 : 1 ≤ n) (h2 : n ≤ 1000) : f_BT_drawn n M = some ((nx (M 0 13) / 64) % n, up M 0 13 (nx (M 0 13))) := by
  have hr := nx_rng (M 0 13)
  unfold f_BT_drawn
  rw [and64_31, show (1103515245 * M 0 13 + 12345) % 2147483648 = nx (M 0 13) from rfl]
  show (if i32 n ≤ 0 then _ else _) = _
  rw [i32_id (x := n) (by omega) (by omega), if_neg (by omega), up_eq, i64_id (x := n) (by omega) (by omega), i64_id (x := nx (M 0 13)) (by omega) (by omega), i64_id (x := 64) (by omega) (by omega), tdiv_pos (by omega), i64_id (x := nx (M 0 13) / 64) (by omega) (by omega), tmod_pos (by omega), gd_t (by omega)]
theorem e_drawOf {M : Mm} {n : Int} (h : 0 ≤ M 78 65 ∧ M 78 65 < 2147483648) (h1 : 1 ≤ n) (h2 : n ≤ 1000) : f_M_drawOf n M = some ((nx (M 78 65) / 64) % n, up M 78 65 (nx (M 78 65))) := by
  have hr := nx_rng (M 78 65)
  unfold f_M_drawOf
  rw [i64_id (x := 1103515245 * M 78 65 + 12345) (by omega) (by omega), i64_id (x := 2147483648) (by omega) (by omega), tmod_pos (by omega), show (1103515245 * M 78 65 + 12345) % 2147483648 = nx (M 78 65) from rfl, bd_s, up_eq, i32_id (x := n) (by omega) (by omega), i64_id (x := n) (by omega) (by omega), i64_id (x := nx (M 78 65)) (by omega) (by omega), i64_id (x := 64) (by omega) (by omega), tdiv_pos (by omega), i64_id (x := nx (M 78 65) / 64) (by omega) (by omega), tmod_pos (by omega), gd_t (by omega)]
/-- a day's draws: the seed and the shifts -/
def dyS (V : Mm) (g : Int × (Nat → Int)) : Int × (Nat → Int) := if nS V ≤ 0 then g else (nx (nx g.1), fun k => if k = ((nx g.1 / 64) % nS V).toNat then (g.2 k + ((nx (nx g.1) / 64) % 3 - 1)) % rd V ((nx g.1 / 64) % nS V) else g.2 k)
def dyN (V : Mm) (g : Int × (Nat → Int)) : Nat → Int × (Nat → Int)
  | 0 => g
  | k + 1 => dyS V (dyN V g k)
def gOk (V : Mm) (g : Int × (Nat → Int)) : Prop := (0 ≤ g.1 ∧ g.1 < 2147483648) ∧ ∀ s : Int, 0 ≤ s → s < nS V → 0 ≤ g.2 s.toNat ∧ g.2 s.toNat < rd V s
theorem dyS_ok {V : Mm} {g : Int × (Nat → Int)} (hT : Tw V) (h : gOk V g) : gOk V (dyS V g) := by
  unfold dyS
  by_cases c : nS V ≤ 0
  · rw [if_pos c]; exact h
  · rw [if_neg c]
    have hm : 0 ≤ (nx g.1 / 64) % nS V ∧ (nx g.1 / 64) % nS V < nS V := ⟨Int.emod_nonneg _ (by omega), Int.emod_lt_of_pos _ (by omega)⟩
    refine ⟨nx_rng _, fun s s1 s2 => ?_⟩
    dsimp only
    by_cases z : s.toNat = ((nx g.1 / 64) % nS V).toNat
    · have e : (nx g.1 / 64) % nS V = s := by omega
      rw [if_pos z, e]
      have hr := (hT.2.2.2.1 s s1 s2).2.2.2.2.1
      exact ⟨Int.emod_nonneg _ (by omega), Int.emod_lt_of_pos _ (by omega)⟩
    · rw [if_neg z]; exact h.2 s s1 s2
theorem dyN_ok {V : Mm} {g : Int × (Nat → Int)} (hT : Tw V) (h : gOk V g) : ∀ k : Nat, gOk V (dyN V g k)
  | 0 => h
  | k + 1 => dyS_ok hT (dyN_ok hT h k)
def dyL : List (Nat × Nat) := [(39, 8), (0, 13), (40, 99999)]
theorem s_passDay {V M : Mm} {g : Int × (Nat → Int)} {h : Int} (hT : Tw V) (hc : Tc V M) (hg : gOk V g) (e1 : M 39 8 = h) (e2 : M 0 13 = g.1) (e3 : ∀ s : Int, 0 ≤ s → s < nS V → M 40 s.toNat = g.2 s.toNat) : wq (f_BT_passDay M) (fun M' => M' 39 8 = h + 24 ∧ M' 0 13 = (dyS V g).1 ∧ (∀ s : Int, 0 ≤ s → s < nS V → M' 40 s.toNat = (dyS V g).2 s.toNat) ∧ Fr dyL M M') := by
  have hS := hT.2.1
  unfold f_BT_passDay
  refine wq_d ?_
  rw [e1]
  generalize hA : up M 39 8 (h + 24) = A
  have FA : Fr dyL M A := by rw [← hA]; exact Fr.rf.up (by simp [dyL])
  have a8 : A 39 8 = h + 24 := by rw [← hA, up_eq]
  have a13 : A 0 13 = g.1 := by rw [← hA, up_row (by decide), e2]
  have a40 : A 40 = M 40 := by rw [← hA, up_row (by decide)]
  have hcA : Tc V A := hc.fr FA rfl
  rw [e_count1 hcA, bI_s, i32_id (x := nS V) (by omega) (by omega)]
  unfold dyS
  refine wq_if (fun c => ?_) (fun c => ?_)
  · rw [if_pos c]
    exact wq_some ⟨a8, a13, fun s s1 s2 => absurd s1 (by omega), FA⟩
  · rw [if_neg c]
    have hm : 0 ≤ (nx g.1 / 64) % nS V ∧ (nx g.1 / 64) % nS V < nS V := ⟨Int.emod_nonneg _ (by omega), Int.emod_lt_of_pos _ (by omega)⟩
    have hr1 := nx_rng g.1
    have hr2 := nx_rng (nx g.1)
    rw [e_drawn (by rw [a13]; exact hg.1) (by omega) (by omega), bI_s, a13, e_drawn (by rw [up_eq]; exact hr1) (by omega) (by omega), bI_s, up_eq]
    generalize hB : up (up A 0 13 (nx g.1)) 0 13 (nx (nx g.1)) = B
    have FB : Fr dyL M B := by rw [← hB]; exact (FA.up (by simp [dyL])).up (by simp [dyL])
    have b8 : B 39 8 = h + 24 := by rw [← hB, up_row (by decide), up_row (by decide), a8]
    have b13 : B 0 13 = nx (nx g.1) := by rw [← hB, up_eq]
    have b40 : B 40 = M 40 := by rw [← hB, up_row (by decide), up_row (by decide), a40]
    have hcB : Tc V B := hc.fr FB rfl
    generalize hz : (nx g.1 / 64) % nS V = z at *
    have hrd := (hT.2.2.2.1 z hm.1 hm.2).2.2.2.2.1
    have e9 : B 9 z.toNat = rd V z := (hcB.2.1 z hm.1 hm.2).2.2.2.1
    have e4 : B 40 z.toNat = g.2 z.toNat := by rw [b40]; exact e3 z hm.1 hm.2
    have hgz := hg.2 z hm.1 hm.2
    unfold f_Now_turn
    rw [e_cell_in (n := 12) B rfl (by decide) hm.1 (by omega), bI_s, e9, i32_id (x := rd V z) (by omega) (by omega), if_neg (by omega), e_cell_in (n := 12) B rfl (by decide) hm.1 (by omega), bI_s, e4, e_floorMod B (by omega) (by omega) (by omega) (by omega), bI_s, e_set (n := 12) B rfl (by decide) hm.1 (by omega), bV_s, bV_s]
    refine wq_some ⟨by rw [up_row (by decide)]; exact b8, by rw [up_row (by decide)]; exact b13, fun s s1 s2 => ?_, FB.up (by simp [dyL])⟩
    dsimp only
    by_cases y : s.toNat = z.toNat
    · rw [if_pos y, y, up_eq]
    · rw [if_neg y, up_col y, b40]; exact e3 s s1 s2
def dmL : List (Nat × Nat) := [(108, 99999), (78, 65)]
theorem rm_sf {V N : Mm} (h : Rt V N) : N 98 = N 98 := rfl
