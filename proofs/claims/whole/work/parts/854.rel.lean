/-- the upper halves of the reference's rows: the town that stands -/
def Ru (V V' : Mm) : Prop := (∀ k : Nat, 3 ≤ k → V' 98 k = V 98 k) ∧ (∀ k : Nat, 36 ≤ k → V' 99 k = V 99 k) ∧ (∀ k : Nat, 60 ≤ k → V' 100 k = V 100 k) ∧ (∀ k : Nat, 18 ≤ k → V' 101 k = V 101 k) ∧ (∀ k : Nat, 1600 ≤ k → V' 102 k = V 102 k) ∧ (∀ k : Nat, 12 ≤ k → V' 104 k = V 104 k) ∧ (∀ k : Nat, 12 ≤ k → V' 105 k = V 105 k) ∧ V' 108 = V 108
/-- the town alone -/
def Rt (V V' : Mm) : Prop := (∀ k : Nat, 3 ≤ k → V' 98 k = V 98 k) ∧ (∀ k : Nat, 36 ≤ k → V' 99 k = V 99 k) ∧ (∀ k : Nat, 60 ≤ k → V' 100 k = V 100 k) ∧ (∀ k : Nat, 18 ≤ k → V' 101 k = V 101 k) ∧ (∀ k : Nat, 1600 ≤ k → V' 102 k = V 102 k) ∧ (∀ k : Nat, 12 ≤ k → V' 104 k = V 104 k) ∧ (∀ k : Nat, 12 ≤ k → V' 105 k = V 105 k)
theorem Ru.t {V V' : Mm} (h : Ru V V') : Rt V V' := ⟨h.1, h.2.1, h.2.2.1, h.2.2.2.1, h.2.2.2.2.1, h.2.2.2.2.2.1, h.2.2.2.2.2.2.1⟩
section RTs
variable {V V' M : Mm} {s w : Int}
theorem rt_nP (h : Rt V V') : nP V' = nP V := h.1 3 (by decide)
theorem rt_nS (h : Rt V V') : nS V' = nS V := h.1 4 (by decide)
theorem rt_nW (h : Rt V V') : nW V' = nW V := h.1 5 (by decide)
theorem rt_eF (h : Rt V V') (h1 : 0 ≤ s) : eF V' s = eF V s := h.2.2.1 _ (by omega)
theorem rt_eT (h : Rt V V') (h1 : 0 ≤ s) : eT V' s = eT V s := h.2.2.1 _ (by omega)
theorem rt_tk (h : Rt V V') (h1 : 0 ≤ s) : tk V' s = tk V s := h.2.2.1 _ (by omega)
theorem rt_rd (h : Rt V V') (h1 : 0 ≤ s) : rd V' s = rd V s := h.2.2.1 _ (by omega)
theorem rt_br (h : Rt V V') (h1 : 0 ≤ w) : br V' w = br V w := h.2.2.2.1 _ (by omega)
theorem rt_wx (h : Rt V V') (h1 : 0 ≤ w) : wx V' w = wx V w := h.2.2.2.1 _ (by omega)
theorem rt_wy (h : Rt V V') (h1 : 0 ≤ w) : wy V' w = wy V w := h.2.2.2.1 _ (by omega)
theorem rt_cD (h : Rt V V') : cD V' = cD V := by funext k; exact h.2.2.2.2.1 _ (by omega)
theorem rt_cF (h : Rt V V') (h1 : 0 ≤ s) : cF V' s = cF V s := h.2.2.2.2.2.1 _ (by omega)
theorem rt_cT (h : Rt V V') (h1 : 0 ≤ s) : cT V' s = cT V s := h.2.2.2.2.2.2 _ (by omega)
theorem rt_wdt (h : Rt V V') (h1 : 0 ≤ s) (hour sh : Int) : wdt V' s hour sh = wdt V s hour sh := by
  unfold wdt ask4
  rw [rt_cD h, rt_cF h h1, rt_cT h h1, rt_rd h h1]
theorem Tw.rt (hT : Tw V) (h : Rt V V') : Tw V' := by
  obtain ⟨h1, h2, h3, h4, h5⟩ := hT
  refine ⟨by rw [rt_nP h]; exact h1, by rw [rt_nS h]; exact h2, by rw [rt_nW h]; exact h3, fun s s1 s2 => ?_, fun w w1 w2 => ?_⟩
  · rw [rt_nS h] at s2
    have := h4 s s1 s2
    unfold TwS
    rw [rt_eF h s1, rt_eT h s1, rt_tk h s1, rt_rd h s1, rt_cF h s1, rt_cT h s1, rt_cD h, rt_nP h]
    exact this
  · rw [rt_nW h] at w2
    have := h5 w w1 w2
    unfold TwW
    rw [rt_br h w1, rt_wx h w1, rt_wy h w1, rt_nP h]
    exact this
theorem Tc.rt (hc : Tc V M) (h : Rt V V') : Tc V' M := by
  obtain ⟨h1, h2, h3, h4⟩ := hc
  refine ⟨by rw [rt_nP h, rt_nS h, rt_nW h]; exact h1, fun s s1 s2 => ?_, fun w w1 w2 => ?_, h4⟩
  · rw [rt_nS h] at s2
    have := h2 s s1 s2
    unfold TcS
    rw [rt_eF h s1, rt_eT h s1, rt_tk h s1, rt_rd h s1, rt_cF h s1, rt_cT h s1, rt_cD h]
    exact this
  · rw [rt_nW h] at w2
    have := h3 w w1 w2
    unfold TcW
    rw [rt_br h w1, rt_wx h w1, rt_wy h w1]
    exact this
theorem Cc.rt (hc : Cc V M) (h : Rt V V') : Cc V' M := by
  refine ⟨hc.1, fun s j s1 s2 j1 j2 => ?_⟩
  obtain ⟨g1, g2⟩ := hc.2 s j s1 s2 j1 j2
  refine ⟨g1, fun sh hour q1 q2 q3 q4 q5 q6 => ?_⟩
  rw [rt_wdt h s1]
  rw [rt_nS h] at q1
  exact g2 sh hour q1 q2 q3 q4 q5 q6
end RTs
theorem Nw.ru {V V' : Mm} (hN : Nw V) (h : Ru V V') : Nw V' := by
  obtain ⟨h1, h2, h3⟩ := hN
  have e := h.2.2.2.2.2.2.2
  refine ⟨by unfold hr; rw [e]; exact h1, fun s s1 s2 => ?_, fun w w1 w2 => ?_⟩
  · rw [rt_nS h.t] at s2
    rw [rt_rd h.t s1]
    unfold sf
    rw [e]
    exact h2 s s1 s2
  · rw [rt_nW h.t] at w2
    have := h3 w w1 w2
    unfold NwW pl gl fr at *
    rw [e, rt_wx h.t w1, rt_wy h.t w1]
    exact this
theorem nc_ru {V V' M : Mm} (hN : Nc V M) (h : Ru V V') : Nc V' M := by
  obtain ⟨h1, h2, h3⟩ := hN
  have e := h.2.2.2.2.2.2.2
  refine ⟨by unfold hr; rw [e]; exact h1, fun s s1 s2 => ?_, fun w w1 w2 => ?_⟩
  · rw [rt_nS h.t] at s2
    unfold sf
    rw [e]
    exact h2 s s1 s2
  · rw [rt_nW h.t] at w2
    have := h3 w w1 w2
    unfold pl gl fr at *
    rw [e]
    exact this
/-- a view whose state is another row -/
def vw (V : Mm) (f : Nat → Int) : Mm := fun i => if i = 108 then f else V i
def cw (M : Mm) (c : Nat) : Mm := fun i => if i = 39 then (fun _ => M 44 c) else if i = 40 then (fun k => M 44 (c + 1 + k)) else if i = 41 then (fun k => M 44 (c + 13 + k)) else if i = 42 then (fun k => M 44 (c + 19 + k)) else if i = 43 then (fun k => M 44 (c + 25 + k)) else M i
/-- letters as numbers -/
def pk5 : List Int → Int
  | [] => 0
  | a :: l => a + 32 * pk5 l
def pk27 : Int → List Int → Int
  | v, [] => v
  | v, a :: l => pk27 (27 * v + a) l
def ltrs (l : List Int) : Prop := (1 ≤ l.length ∧ l.length ≤ 6) ∧ ∀ x ∈ l, 1 ≤ x ∧ x ≤ 26
def Tp (V M : Mm) : Prop := (0 ≤ V 78 1 ∧ V 78 1 ≤ 1600) ∧ (∀ k : Nat, 0 ≤ V 79 k ∧ V 79 k ≤ 255) ∧ M 1 1 = V 78 1 ∧ M 2 = V 79
def Ms (V M : Mm) : Prop := M 0 11 = V 78 7 ∧ M 0 12 = V 78 8 ∧ M 77 = V 80 ∧ M 0 13 = V 78 65 ∧ 0 ≤ V 78 65 ∧ V 78 65 < 2147483648
def Nm (V M : Mm) : Prop := ∀ kd w : Nat, kd < 3 → (w : Int) < V 98 (3 + kd) → ∃ l, ltrs l ∧ M 5 (12 * kd + w) = pk5 l ∧ V 99 (36 + 12 * kd + w) = pk27 0 l
/-- the place of the entry that is j acts back -/
def pr (V : Mm) (j : Int) : Nat := (31 * ((V 78 64 + 20 - j) % 20)).toNat
def Pa (V M : Mm) : Prop := (0 ≤ V 78 63 ∧ V 78 63 ≤ 20) ∧ (0 ≤ V 78 64 ∧ V 78 64 < 20) ∧ M 39 9 = V 78 63 ∧ ∀ j : Int, 0 ≤ j → j < V 78 63 → Nw (vw V fun k => V 120 (pr V j + k)) ∧ Nc (vw V fun k => V 120 (pr V j + k)) (cw M (31 * (V 78 63 - 1 - j)).toNat)
def Pc (V M : Mm) : Prop := (0 ≤ V 78 99 ∧ V 78 99 ≤ 39) ∧ M 39 7 = V 78 99 ∧ ∀ k : Nat, (k : Int) < V 78 99 → M 45 k = V 145 k
def Se (V M : Mm) : Prop := (0 ≤ V 78 66 ∧ V 78 66 ≤ 20) ∧ M 64 6 = V 78 66 ∧ ∀ k : Nat, (k : Int) < V 78 66 → (0 ≤ V 121 (3 * k) ∧ V 121 (3 * k) < nS V) ∧ (0 ≤ V 121 (3 * k + 1) ∧ V 121 (3 * k + 1) ≤ 65535) ∧ (0 ≤ V 121 (3 * k + 2) ∧ V 121 (3 * k + 2) ≤ 99) ∧ M 65 k = V 121 (3 * k) ∧ M 66 k = V 121 (3 * k + 1) ∧ M 67 k = V 121 (3 * k + 2)
def Fl (M : Mm) : Prop := M 38 2 = 0 ∧ M 76 2 = 1 ∧ M 48 10 = 0
/-- what holds of both sides' cells between the calls, n of them done -/
def Rl (n : Nat) (V M : Mm) : Prop := Tw V ∧ Nw V ∧ Cl V M ∧ Tp V M ∧ Ms V M ∧ Nm V M ∧ Pa V M ∧ Pc V M ∧ Se V M ∧ Fl M ∧ M 46 3 ≤ (n : Int) + 1
theorem vw_rt (V : Mm) (f : Nat → Int) : Rt V (vw V f) := ⟨fun _ _ => rfl, fun _ _ => rfl, fun _ _ => rfl, fun _ _ => rfl, fun _ _ => rfl, fun _ _ => rfl, fun _ _ => rfl⟩
theorem vw_ru {V V' : Mm} (h : Rt V V') {f g : Nat → Int} (e : f = g) : Ru (vw V f) (vw V' g) := by
  subst e
  exact ⟨h.1, h.2.1, h.2.2.1, h.2.2.2.1, h.2.2.2.2.1, h.2.2.2.2.2.1, h.2.2.2.2.2.2, rfl⟩
theorem Nm.cg {V V' M M' : Mm} (hN : Nm V M) (h : Rt V V') (e : M' 5 = M 5) : Nm V' M' := by
  intro kd w k1 k2
  rw [h.1 _ (by omega)] at k2
  rw [e, h.2.1 _ (by omega)]
  exact hN kd w k1 k2
theorem Pa.cg {V V' M M' : Mm} (hP : Pa V M) (h : Rt V V') (e1 : V' 78 63 = V 78 63) (e2 : V' 78 64 = V 78 64) (e3 : V' 120 = V 120) (e4 : M' 39 9 = M 39 9) (e5 : M' 44 = M 44) : Pa V' M' := by
  obtain ⟨h1, h2, h3, h4⟩ := hP
  unfold Pa
  rw [e1, e2, e4]
  refine ⟨h1, h2, h3, fun j j1 j2 => ?_⟩
  obtain ⟨g1, g2⟩ := h4 j j1 j2
  have ep : pr V' j = pr V j := by unfold pr; rw [e2]
  have ef : (fun k => V 120 (pr V j + k)) = (fun k => V' 120 (pr V' j + k)) := by rw [ep, e3]
  have hu := vw_ru h ef
  refine ⟨g1.ru hu, ?_⟩
  have := nc_ru g2 hu
  unfold Nc cw at *
  simp only [e5] at *
  exact this
theorem Se.cg {V V' M M' : Mm} (hS : Se V M) (h : Rt V V') (e1 : V' 78 66 = V 78 66) (e2 : V' 121 = V 121) (e3 : M' 64 6 = M 64 6) (e4 : M' 65 = M 65) (e5 : M' 66 = M 66) (e6 : M' 67 = M 67) : Se V' M' := by
  unfold Se
  rw [e1, e2, e3, e4, e5, e6, rt_nS h]
  exact hS
def scA : List (Nat × Nat) := [(18, 99999), (47, 99999), (48, 6), (48, 10), (49, 99999), (50, 99999), (51, 99999), (52, 99999), (53, 99999), (54, 99999), (55, 6), (55, 7), (56, 99999), (57, 99999), (58, 99999), (59, 99999), (60, 99999), (61, 99999), (62, 99999), (63, 99999), (68, 99999), (69, 99999),
  (78, 43), (78, 47), (78, 51), (78, 57), (78, 58), (78, 60), (106, 99999), (107, 99999), (109, 99999), (110, 99999), (111, 99999), (112, 99999), (113, 99999), (114, 99999), (115, 99999), (116, 99999), (117, 99999), (118, 99999), (119, 99999), (122, 99999), (123, 99999)]
theorem Ru.of {l : List (Nat × Nat)} {M M' : Mm} (h : Fr l M M') (hh : l.all (fun p => p.1 != 98 && (p.1 != 99 && (p.1 != 100 && (p.1 != 101 && (p.1 != 102 && (p.1 != 104 && (p.1 != 105 && p.1 != 108))))))) = true) : Ru M M' := by
  have hz := fun p hp => List.all_eq_true.mp hh p hp
  simp only [Bool.and_eq_true, bne_iff_ne, ne_eq] at hz
  refine ⟨fun k _ => ?_, fun k _ => ?_, fun k _ => ?_, fun k _ => ?_, fun k _ => ?_, fun k _ => ?_, fun k _ => ?_, ?_⟩
  · rw [h.rw' 98 fun p hp => (hz p hp).1]
  · rw [h.rw' 99 fun p hp => (hz p hp).2.1]
  · rw [h.rw' 100 fun p hp => (hz p hp).2.2.1]
  · rw [h.rw' 101 fun p hp => (hz p hp).2.2.2.1]
  · rw [h.rw' 102 fun p hp => (hz p hp).2.2.2.2.1]
  · rw [h.rw' 104 fun p hp => (hz p hp).2.2.2.2.2.1]
  · rw [h.rw' 105 fun p hp => (hz p hp).2.2.2.2.2.2.1]
  · rw [h.rw' 108 fun p hp => (hz p hp).2.2.2.2.2.2.2]
theorem rel_q {n : Nat} {M M' : Mm} (h : Rl n M M) (hF : Fr scA M M') (hC : Cc M M') (hb : M' 48 10 = 0) : Rl (n + 1) M' M' := by
  obtain ⟨h1, h2, h3, h4, h5, h6, h7, h8, h9, h10, h11⟩ := h
  have hu : Ru M M' := Ru.of hF rfl
  have e46 : M' 46 3 = M 46 3 := by rw [hF.row 46 rfl]
  have hTc : Tc M M' := by
    have a4 := hF.row 4 rfl
    have a6 := hF.row 6 rfl
    have a7 := hF.row 7 rfl
    have a8 := hF.row 8 rfl
    have a9 := hF.row 9 rfl
    have a11 := hF.row 11 rfl
    have a12 := hF.row 12 rfl
    have a13 := hF.row 13 rfl
    have a14 := hF.row 14 rfl
    have a15 := hF.row 15 rfl
    have a17 := hF.row 17 rfl
    have a19 := hF.row 19 rfl
    have := h3.1
    unfold Tc TcS TcW at *
    rw [a4, a6, a7, a8, a9, a11, a12, a13, a14, a15, a17, a19]
    exact this
  have hNc : Nc M M' := by
    have a39 := hF.row 39 rfl
    have a40 := hF.row 40 rfl
    have a41 := hF.row 41 rfl
    have a42 := hF.row 42 rfl
    have a43 := hF.row 43 rfl
    have := h3.2.1
    unfold Nc at *
    rw [a39, a40, a41, a42, a43]
    exact this
  refine ⟨h1.rt hu.t, h2.ru hu, ⟨hTc.rt hu.t, nc_ru hNc hu, hC.rt hu.t⟩, ?_, ?_, h6.cg hu.t (hF.row 5 rfl), h7.cg hu.t (hF.at 78 63 rfl) (hF.at 78 64 rfl) (hF.row 120 rfl) (by rw [hF.row 39 rfl]) (hF.row 44 rfl), ?_, h9.cg hu.t (hF.at 78 66 rfl) (hF.row 121 rfl) (by rw [hF.row 64 rfl]) (hF.row 65 rfl) (hF.row 66 rfl) (hF.row 67 rfl), ?_, by rw [e46]; omega⟩
  · unfold Tp at *
    rw [hF.at 78 1 rfl, hF.row 79 rfl, hF.row 1 rfl, hF.row 2 rfl]
    exact h4
  · unfold Ms at *
    rw [hF.row 0 rfl, hF.at 78 7 rfl, hF.at 78 8 rfl, hF.row 77 rfl, hF.row 80 rfl, hF.at 78 65 rfl]
    exact h5
  · unfold Pc at *
    rw [hF.at 78 99 rfl, hF.row 39 rfl, hF.row 45 rfl, hF.row 145 rfl]
    exact h8
  · exact ⟨by rw [hF.row 38 rfl]; exact h10.1, by rw [hF.row 76 rfl]; exact h10.2.1, hb⟩
/-- a call's two sides answer alike, and the relation stands again -/
def CallOk (n : Nat) (fc fm : Mm → Option (Int × Mm)) : Prop := ∀ M, Rl n M M → wq (fc M) (fun q => wq (fm q.2) (fun q' => q.1 = q'.1 ∧ Rl (n + 1) q'.2 q'.2))
def lowL (l : List (Nat × Nat)) : Bool := l.all fun p => decide (p.1 < 78)
theorem Fr.low {l : List (Nat × Nat)} {M M' : Mm} (h : Fr l M M') (hh : lowL l = true) (i : Nat) (hi : 78 ≤ i) : M' i = M i := by
  refine h.rw' i fun p hp q => ?_
  have := List.all_eq_true.mp hh p hp
  rw [decide_eq_true_eq] at this
  omega
theorem Rm.low {l : List (Nat × Nat)} {M M' : Mm} (h : Fr l M M') (hh : lowL l = true) : Rm M M' :=
  ⟨h.low hh 98 (by decide), h.low hh 100 (by decide), h.low hh 101 (by decide), h.low hh 102 (by decide), h.low hh 104 (by decide), h.low hh 105 (by decide), h.low hh 108 (by decide)⟩
/-- a call that only asks -/
theorem call_q {n : Nat} {fc fm : Mm → Option (Int × Mm)} (A : Mm → Int → Prop) (lc lm : List (Nat × Nat)) (hun : ∀ M r r', Rl n M M → A M r → A M r' → r = r') (h1 : lowL lc = true) (h2 : cov scA lc = true) (h3 : cov scA lm = true) (h4 : ccOk lm = true) (h5 : lm.all (fun p => p.1 != 48) = true)
    (hc : ∀ M, Rl n M M → wq (fc M) (fun q => A M q.1 ∧ Cc M q.2 ∧ q.2 48 10 = 0 ∧ Fr lc M q.2)) (hm : ∀ M M1, Rl n M M → Rm M M1 → (∀ i, 78 ≤ i → M1 i = M i) → wq (fm M1) (fun q => A M q.1 ∧ Fr lm M1 q.2)) : CallOk n fc fm := by
  intro M hR
  refine wq_m (hc M hR) (fun q ⟨a1, a2, a3, a4⟩ => ?_)
  refine wq_m (hm M q.2 hR (Rm.low a4 h1) (fun i hi => a4.low h1 i hi)) (fun q' ⟨b1, b2⟩ => ⟨hun M _ _ hR a1 b1, ?_⟩)
  refine rel_q hR ((a4.cov h2).tr (b2.cov h3)) (a2.fr b2 h4) ?_
  rw [b2.row 48 h5]
  exact a3
