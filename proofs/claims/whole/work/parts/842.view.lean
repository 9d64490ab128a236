/-- the town and the state, as the reference's cells hold them -/
def nP (V : Mm) : Int := V 98 3
def nS (V : Mm) : Int := V 98 4
def nW (V : Mm) : Int := V 98 5
def eF (V : Mm) (s : Int) : Int := V 100 (60 + 5 * s).toNat
def eT (V : Mm) (s : Int) : Int := V 100 (61 + 5 * s).toNat
def tk (V : Mm) (s : Int) : Int := V 100 (62 + 5 * s).toNat
def rd (V : Mm) (s : Int) : Int := V 100 (63 + 5 * s).toNat
def br (V : Mm) (w : Int) : Int := V 101 (18 + 3 * w).toNat
def wx (V : Mm) (w : Int) : Int := V 101 (19 + 3 * w).toNat
def wy (V : Mm) (w : Int) : Int := V 101 (20 + 3 * w).toNat
def cF (V : Mm) (s : Int) : Int := V 104 (12 + s).toNat
def cT (V : Mm) (s : Int) : Int := V 105 (12 + s).toNat
def cD (V : Mm) : Nat → Int := fun k => V 102 (1600 + k)
def hr (V : Mm) : Int := V 108 0
def sf (V : Mm) (s : Int) : Int := V 108 (1 + s).toNat
def pl (V : Mm) (w : Int) : Int := V 108 (13 + 3 * w).toNat
def gl (V : Mm) (w : Int) : Int := V 108 (14 + 3 * w).toNat
def fr (V : Mm) (w : Int) : Int := V 108 (15 + 3 * w).toNat
/-- a town that has been told -/
def TwS (V : Mm) (s : Int) : Prop := (0 ≤ eF V s ∧ eF V s < nP V) ∧ (0 ≤ eT V s ∧ eT V s < nP V) ∧ eF V s ≠ eT V s ∧ (1 ≤ tk V s ∧ tk V s ≤ 4) ∧ (1 ≤ rd V s ∧ rd V s ≤ 48) ∧ (0 ≤ cF V s ∧ cF V s ≤ cT V s ∧ cT V s ≤ 1600) ∧ wfc (cD V) (cT V s - cF V s).toNat (cF V s).toNat 0
def TwW (V : Mm) (w : Int) : Prop := (1 ≤ br V w ∧ br V w ≤ 99) ∧ (0 ≤ wx V w ∧ wx V w < nP V) ∧ (0 ≤ wy V w ∧ wy V w < nP V) ∧ wx V w ≠ wy V w
def Tw (V : Mm) : Prop := (0 ≤ nP V ∧ nP V ≤ 9) ∧ (0 ≤ nS V ∧ nS V ≤ 12) ∧ (0 ≤ nW V ∧ nW V ≤ 6) ∧ (∀ s : Int, 0 ≤ s → s < nS V → TwS V s) ∧ ∀ w : Int, 0 ≤ w → w < nW V → TwW V w
/-- what is in it now -/
def NwW (V : Mm) (w : Int) : Prop := (pl V w = wx V w ∧ gl V w = wy V w ∨ pl V w = wy V w ∧ gl V w = wx V w) ∧ 0 ≤ fr V w ∧ fr V w ≤ 9999
def Nw (V : Mm) : Prop := (0 ≤ hr V ∧ hr V ≤ 9999) ∧ (∀ s : Int, 0 ≤ s → s < nS V → 0 ≤ sf V s ∧ sf V s < rd V s) ∧ ∀ w : Int, 0 ≤ w → w < nW V → NwW V w
def ask4 (V : Mm) (s hour shift : Int) : Nat → Int := fun j => if j = 0 then (hour + shift) % rd V s else if j = 1 then rd V s else if j = 2 then hour % 24 else hour / 24
def wcl (v : Int) : Int := if v < 0 then 0 else if 99 < v then 99 else v
/-- how wide a street is in an hour, by a shift -/
def wdt (V : Mm) (s hour shift : Int) : Int := wcl ((evs (cD V) (ask4 V s hour shift) (cT V s - cF V s).toNat (cF V s).toNat []).headD 0)
def wid (V : Mm) (s hour : Int) : Int := wdt V s hour (sf V s)
theorem wcl_rng (v : Int) : 0 ≤ wcl v ∧ wcl v ≤ 99 := by unfold wcl; split <;> (try split) <;> omega
theorem wdt_rng (V : Mm) (s hour shift : Int) : 0 ≤ wdt V s hour shift ∧ wdt V s hour shift ≤ 99 := wcl_rng _
theorem wid_rng (V : Mm) (s hour : Int) : 0 ≤ wid V s hour ∧ wid V s hour ≤ 99 := wcl_rng _
/-- the reference's rows of the town and the state are V's -/
def Rm (V M : Mm) : Prop := M 98 = V 98 ∧ M 100 = V 100 ∧ M 101 = V 101 ∧ M 102 = V 102 ∧ M 104 = V 104 ∧ M 105 = V 105 ∧ M 108 = V 108
def rmL : List (Nat × Nat) := [(98, 99999), (100, 99999), (101, 99999), (102, 99999), (104, 99999), (105, 99999), (108, 99999)]
def rmOk (l : List (Nat × Nat)) : Bool := l.all fun p => p.1 != 98 && (p.1 != 100 && (p.1 != 101 && (p.1 != 102 && (p.1 != 104 && (p.1 != 105 && p.1 != 108)))))
theorem Fr.rw' {l : List (Nat × Nat)} {M M' : Mm} (h : Fr l M M') (i : Nat) (hh : ∀ p ∈ l, p.1 ≠ i) : M' i = M i := by
  funext k
  exact h i k fun p hp hq => hh p hp hq.1
theorem Rm.fr {V M M' : Mm} {l : List (Nat × Nat)} (h : Rm V M) (hF : Fr l M M') (hh : rmOk l = true) : Rm V M' := by
  have hz : ∀ p ∈ l, p.1 ≠ 98 ∧ p.1 ≠ 100 ∧ p.1 ≠ 101 ∧ p.1 ≠ 102 ∧ p.1 ≠ 104 ∧ p.1 ≠ 105 ∧ p.1 ≠ 108 := by
    intro p hp
    have := List.all_eq_true.mp hh p hp
    simpa only [Bool.and_eq_true, bne_iff_ne, ne_eq] using this
  obtain ⟨h1, h2, h3, h4, h5, h6, h7⟩ := h
  exact ⟨(hF.rw' 98 fun p hp => (hz p hp).1).trans h1, (hF.rw' 100 fun p hp => (hz p hp).2.1).trans h2, (hF.rw' 101 fun p hp => (hz p hp).2.2.1).trans h3, (hF.rw' 102 fun p hp => (hz p hp).2.2.2.1).trans h4, (hF.rw' 104 fun p hp => (hz p hp).2.2.2.2.1).trans h5, (hF.rw' 105 fun p hp => (hz p hp).2.2.2.2.2.1).trans h6, (hF.rw' 108 fun p hp => (hz p hp).2.2.2.2.2.2).trans h7⟩
theorem e_mS {V M : Mm} (h : Rm V M) : f_M_streetMany M = some (nS V, M) := by unfold f_M_streetMany nS; rw [h.1]
theorem e_mP {V M : Mm} (h : Rm V M) : f_M_placeMany M = some (nP V, M) := by unfold f_M_placeMany nP; rw [h.1]
theorem e_mW {V M : Mm} (h : Rm V M) : f_M_walkerMany M = some (nW V, M) := by unfold f_M_walkerMany nW; rw [h.1]
theorem e_round {V M : Mm} (h : Rm V M) {s : Int} (h1 : 0 ≤ s) (h2 : s < 12) : f_M_roundOf s M = some (rd V s, M) := by
  unfold f_M_roundOf rd
  rw [h.2.1, i32_id (by omega) (by omega), gd_t (by omega), show (60 + 5 * s) + 3 = 63 + 5 * s by omega]
theorem e_takes {V M : Mm} (h : Rm V M) {s : Int} (h1 : 0 ≤ s) (h2 : s < 12) : f_M_takesOf s M = some (tk V s, M) := by
  unfold f_M_takesOf tk
  rw [h.2.1, i32_id (by omega) (by omega), gd_t (by omega), show (60 + 5 * s) + 2 = 62 + 5 * s by omega]
theorem e_end0 {V M : Mm} (h : Rm V M) {s : Int} (h1 : 0 ≤ s) (h2 : s < 12) : f_M_endOf s 0 M = some (eF V s, M) := by
  unfold f_M_endOf eF
  rw [h.2.1, i32_id (by omega) (by omega), gd_t (by omega), show (60 + 5 * s) + 0 = 60 + 5 * s by omega]
theorem e_end1 {V M : Mm} (h : Rm V M) {s : Int} (h1 : 0 ≤ s) (h2 : s < 12) : f_M_endOf s 1 M = some (eT V s, M) := by
  unfold f_M_endOf eT
  rw [h.2.1, i32_id (by omega) (by omega), gd_t (by omega), show (60 + 5 * s) + 1 = 61 + 5 * s by omega]
theorem e_shift {V M : Mm} (h : Rm V M) {s : Int} (h1 : 0 ≤ s) (h2 : s < 12) : f_M_shiftOf s M = some (sf V s, M) := by
  unfold f_M_shiftOf sf
  rw [h.2.2.2.2.2.2, i32_id (by omega) (by omega), gd_t (by omega)]
theorem e_broad {V M : Mm} (h : Rm V M) {w : Int} (h1 : 0 ≤ w) (h2 : w < 6) : f_M_broadOf w M = some (br V w, M) := by
  unfold f_M_broadOf br
  rw [h.2.2.1, i32_id (by omega) (by omega), gd_t (by omega)]
theorem e_place {V M : Mm} (h : Rm V M) {w : Int} (h1 : 0 ≤ w) (h2 : w < 6) : f_M_placeOf w M = some (pl V w, M) := by
  unfold f_M_placeOf pl
  rw [h.2.2.2.2.2.2, i32_id (by omega) (by omega), gd_t (by omega)]
theorem e_goal {V M : Mm} (h : Rm V M) {w : Int} (h1 : 0 ≤ w) (h2 : w < 6) : f_M_goalOf w M = some (gl V w, M) := by
  unfold f_M_goalOf gl
  rw [h.2.2.2.2.2.2, i32_id (by omega) (by omega), gd_t (by omega), show (13 + 3 * w) + 1 = 14 + 3 * w by omega]
theorem e_tide {V M : Mm} (h : Rm V M) {s hour shift : Int} (h1 : 0 ≤ s) (h2 : s < 12) (hr1 : 1 ≤ rd V s) (hr2 : rd V s ≤ 48) (h3 : 0 ≤ hour) (h4 : hour ≤ 1000000) (h5 : 0 ≤ shift) (h6 : shift ≤ 1000) : f_M_tideOf s hour shift M = some ((hour + shift) % rd V s, M) := by
  unfold f_M_tideOf
  rw [e_round h h1 h2, bI_s, i32_id (x := rd V s) (by omega) (by omega), gd_t (by omega), i32_id (by omega) (by omega), tmod_pos (by omega)]
/-- the reference's scratch where it asks for widths -/
def wsL : List (Nat × Nat) := [(78, 43), (106, 99999), (107, 99999)]
theorem ask4_rng {V : Mm} {s hour shift : Int} (hr1 : 1 ≤ rd V s) (hr2 : rd V s ≤ 48) (h3 : 0 ≤ hour) (h4 : hour ≤ 1000000) : ∀ j : Nat, j < 4 → 0 ≤ ask4 V s hour shift j ∧ ask4 V s hour shift j ≤ 1000000 := by
  intro j hj
  have q1 := Int.emod_nonneg (hour + shift) (show rd V s ≠ 0 by omega)
  have q2 := Int.emod_lt_of_pos (hour + shift) (show 0 < rd V s by omega)
  unfold ask4
  split
  · omega
  split
  · omega
  split <;> omega
theorem s_mWidthBy {V M : Mm} (hT : Tw V) (h : Rm V M) {s hour shift : Int} (h1 : 0 ≤ s) (h2 : s < nS V) (h3 : 0 ≤ hour) (h4 : hour ≤ 1000000) (h5 : 0 ≤ shift) (h6 : shift ≤ 1000) : wq (f_M_widthBy s hour shift M) (fun q => q.1 = wdt V s hour shift ∧ Rm V q.2 ∧ Fr wsL M q.2) := by
  obtain ⟨-, ⟨-, hS⟩, -, hTs, -⟩ := hT
  obtain ⟨-, -, -, -, ⟨r1, r2⟩, ⟨c1, c2, c3⟩, hw⟩ := hTs s h1 h2
  unfold f_M_widthBy
  rw [e_tide h h1 (by omega) r1 r2 h3 h4 h5 h6, bI_s]
  refine wq_d ?_
  have F1 : Fr wsL M (up M 107 0 ((hour + shift) % rd V s)) := Fr.rf.up (by simp [wsL])
  rw [e_round (h.fr F1 rfl) h1 (by omega), bI_s]
  refine wq_d (wq_d (wq_d ?_))
  have F4 := ((F1.up (i := 107) (k := 1) (v := rd V s) (by simp [wsL])).up (i := 107) (k := 2) (v := (i32 hour).tmod (i32 24)) (by simp [wsL])).up (i := 107) (k := 3) (v := (i32 hour).tdiv (i32 24)) (by simp [wsL])
  have hask : ∀ j : Nat, j < 4 → (up (up (up (up M 107 0 ((hour + shift) % rd V s)) 107 1 (rd V s)) 107 2 ((i32 hour).tmod (i32 24))) 107 3 ((i32 hour).tdiv (i32 24))) 107 j = ask4 V s hour shift j := by
    intro j hj
    rw [i32_id (x := hour) (by omega) (by omega), i32_id (x := 24) (by omega) (by omega), tmod_pos h3, tdiv_pos h3]
    match j, hj with
    | 0, _ => rfl
    | 1, _ => rfl
    | 2, _ => rfl
    | 3, _ => rfl
  generalize up (up (up (up M 107 0 ((hour + shift) % rd V s)) 107 1 (rd V s)) 107 2 ((i32 hour).tmod (i32 24))) 107 3 ((i32 hour).tdiv (i32 24)) = M4 at *
  have h' := h.fr F4 rfl
  have hcd : (fun k => M4 102 (1600 + k)) = cD V := by rw [h'.2.2.2.1]; rfl
  have e1 : M4 104 (12 + s).toNat = cF V s := by rw [h'.2.2.2.2.1]; rfl
  have e2 : M4 105 (12 + s).toNat = cT V s := by rw [h'.2.2.2.2.2.1]; rfl
  rw [i32_id (by omega) (by omega), e1, e2]
  refine wq_g (by omega) (wq_g (by omega) ?_)
  have ht := s_told (M := M4) (ask := ask4 V s hour shift) c1 c2 c3 (by rw [hcd]; exact hw) (fun j hj => ⟨hask j hj, ask4_rng r1 r2 h3 h4 j hj⟩)
  rw [hcd] at ht
  refine wq_I ht (fun r M9 ⟨⟨a, ha, hr, a1, a2⟩, hF⟩ => ?_)
  have hr : r = a := hr
  subst hr
  have hF9 : Fr wsL M M9 := F4.tr (hF.cov rfl)
  have hV : wdt V s hour shift = wcl r := by unfold wdt; rw [ha]; rfl
  have h9 := h.fr hF9 rfl
  rw [hV]
  unfold wcl
  by_cases g1 : r < 0
  · refine wq_e (fun q => absurd ((c64_ge (by omega) (by omega) (by omega) (by omega)).mp q) (by omega)) (wq_some ⟨?_, h9, hF9⟩)
    rw [if_pos g1]
  · refine wq_t ((c64_ge (by omega) (by omega) (by omega) (by omega)).mpr (by omega)) ?_
    by_cases g2 : 99 < r
    · refine wq_e (fun q => absurd ((c64_le (by omega) (by omega) (by omega) (by omega)).mp q) (by omega)) (wq_some ⟨?_, h9, hF9⟩)
      rw [if_neg g1, if_pos g2]
    · refine wq_t ((c64_le (by omega) (by omega) (by omega) (by omega)).mpr (by omega)) (wq_some ⟨?_, h9, hF9⟩)
      rw [if_neg g1, if_neg g2]
theorem s_mWidthOf {V M : Mm} (hT : Tw V) (hN : Nw V) (h : Rm V M) {s hour : Int} (h1 : 0 ≤ s) (h2 : s < nS V) (h3 : 0 ≤ hour) (h4 : hour ≤ 1000000) : wq (f_M_widthOf s hour M) (fun q => q.1 = wid V s hour ∧ Rm V q.2 ∧ Fr wsL M q.2) := by
  have hS := hT.2.1.2
  have hs := hN.2.1 s h1 h2
  have hr := (hT.2.2.2.1 s h1 h2).2.2.2.2.1
  unfold f_M_widthOf
  rw [e_shift h h1 (by omega), bI_s]
  exact wq_I (s_mWidthBy hT h h1 h2 h3 h4 hs.1 (by omega)) (fun r M3 h => wq_some h)
