def vlI (t : Nat) (M : Mm) (pc : Int → Int) (tb : Nat → Int) (f e v3 v4 v5 : Int) (s : Int × Int × Int × Int × Int × Int × Mm) : Prop :=
  s.1 = e ∧ s.2.1 = v3 ∧ s.2.2.1 = v4 ∧ s.2.2.2.1 = v5 ∧ f ≤ s.2.2.2.2.2.1 ∧ s.2.2.2.2.2.1 ≤ e ∧ ∃ st, s.2.2.2.2.1 = (st.length : Int) ∧ stk (s.2.2.2.2.2.2 (ptr t 1)) st ∧ sml st ∧ st.length ≤ 60 ∧ wfC (M (ptr t 0)) (e - s.2.2.2.2.2.1).toNat s.2.2.2.2.2.1.toNat st.length ∧ evC (M (ptr t 0)) pc tb (e - s.2.2.2.2.2.1).toNat s.2.2.2.2.2.1.toNat st = evC (M (ptr t 0)) pc tb (e - f).toNat f.toNat [] ∧ Fr [(ptr t 1, 99999)] M s.2.2.2.2.2.2
theorem s_value {t : Nat} {f e tide round hour : Int} {M : Mm} {tb : Nat → Int} (hr : cdOk (ptr t 0) (ptr t 1) (ptr t 2)) (hf : 0 ≤ f) (hfe : f ≤ e) (he : e ≤ 1600) (h3 : 0 ≤ hour) (h4 : hour ≤ 1000000) (hw : wfC (M (ptr t 0)) (e - f).toNat f.toNat 0) (htb : ∀ k : Nat, k < 36 → M (ptr t 2) k = tb k ∧ -1000000 ≤ tb k ∧ tb k ≤ 1000000) (hpc : ∀ v, -6 < v → v ≤ 9999 → -1000000 ≤ plC tide round hour v ∧ plC tide round hour v ≤ 1000000) :
    wq (f_Code_value t f e tide round hour M) (fun q => (∃ a, evC (M (ptr t 0)) (plC tide round hour) tb (e - f).toNat f.toNat [] = [a] ∧ q.1 = a ∧ -1000000 ≤ a ∧ a ≤ 1000000) ∧ Fr [(ptr t 1, 99999)] M q.2) := by
  have hrr := hr
  obtain ⟨r0, r1, r2, r3, r4⟩ := hrr
  unfold f_Code_value f_Code_value_L6
  refine wq_lp (vlI t M (plC tide round hour) tb f e tide round hour) (fun s => (e - s.2.2.2.2.2.1).toNat) ?_ FU _ ?_ ?_
  · rintro kH ⟨v2, v3, v4, v5, v6, v7, M1⟩ ⟨g1, g3, g4, g5, g6, g7, st, g8, hp, hs, hl, hw1, hv, hF⟩ hk
    have g1 : v2 = e := g1
    have g3 : v3 = tide := g3
    have g4 : v4 = round := g4
    have g5 : v5 = hour := g5
    subst g1 g3 g4 g5
    have g6 : f ≤ v7 := g6
    have g7 : v7 ≤ v2 := g7
    have g8 : v6 = (st.length : Int) := g8
    have hp : stk (M1 (ptr t 1)) st := hp
    have hw1 : wfC (M (ptr t 0)) (v2 - v7).toNat v7.toNat st.length := hw1
    have hv : evC (M (ptr t 0)) (plC v3 v4 v5) tb (v2 - v7).toNat v7.toNat st = evC (M (ptr t 0)) (plC v3 v4 v5) tb (v2 - f).toNat f.toNat [] := hv
    have hF : Fr [(ptr t 1, 99999)] M M1 := hF
    have m0 : M1 (ptr t 0) = M (ptr t 0) := hF.rw' _ (by intro p hp; simp at hp; subst hp; exact fun q => r3 q.symm)
    have m2 : M1 (ptr t 2) = M (ptr t 2) := hF.rw' _ (by intro p hp; simp at hp; subst hp; exact fun q => r4 q.symm)
    show wq (f_Code_value_B6 t (fun v2 v3 v4 v5 v6 v7 M => kH (v2, v3, v4, v5, v6, v7, M)) v2 v3 v4 v5 v6 v7 M1) _
    by_cases c : v2 ≤ v7
    · unfold f_Code_value_B6
      rw [i32_id (x := v2) (by omega) (by omega), i32_id (x := v7) (by omega) (by omega), if_pos c, e_cell_in M1 r1 (by decide) (by omega) (by omega), bI_s]
      rw [show (v2 - v7).toNat = 0 by omega] at hw1 hv
      have hl1 : st.length = 1 := hw1
      match st, hl1 with
      | [a], _ => exact wq_some ⟨⟨a, hv.symm, hp.1, hs a List.mem_cons_self⟩, hF⟩
    · obtain ⟨n, hn⟩ : ∃ n, (v2 - v7).toNat = n + 1 := ⟨(v2 - v7).toNat - 1, by omega⟩
      rw [hn] at hw1 hv
      obtain ⟨o1, o2⟩ := hw1
      refine b_value (st := st) (tb := tb) hr (by omega) (by omega) he h3 h4 (by rw [m0]) (by rw [m2]; exact fun k hk => (htb k hk).1) hp g8 hs hl o1 (fun M' hp' hF' => hk (v2, v3, v4, v5, _, v7 + 1, M') ?_ (show (v2 - (v7 + 1)).toNat < (v2 - v7).toNat by omega))
      obtain ⟨q1, q2⟩ := stC_len (pc := plC v3 v4 v5) (tb := tb) o1 hl
      refine ⟨rfl, rfl, rfl, rfl, show f ≤ v7 + 1 by omega, show v7 + 1 ≤ v2 by omega, stC (plC v3 v4 v5) tb (M (ptr t 0) v7.toNat) st, rfl, hp', stC_sml o1 hs hpc (fun k hk => (htb k hk).2), q1, ?_, ?_, hF.tr hF'⟩
      · show wfC _ (v2 - (v7 + 1)).toNat (v7 + 1).toNat _
        rw [q2, show (v2 - (v7 + 1)).toNat = n by omega, show (v7 + 1).toNat = v7.toNat + 1 by omega]
        exact o2
      · show evC _ _ tb (v2 - (v7 + 1)).toNat (v7 + 1).toNat _ = _
        rw [← hv, show (v2 - (v7 + 1)).toNat = n by omega, show (v7 + 1).toNat = v7.toNat + 1 by omega]
        rfl
  · exact ⟨rfl, rfl, rfl, rfl, Int.le_refl _, hfe, [], rfl, trivial, fun x hx => by simp at hx, by simp, hw, rfl, Fr.rf⟩
  · show (e - f).toNat < 1000000000
    omega
/-- a code of the reference's as a step of the class's -/
def trC (v : Int) : Int := if 1000 ≤ v then v - 1000 else if v = 7 then -1 else if v = 8 then -2 else if v = 9 then -3 else if v = 10 then -4 else -9 - v
theorem jn_jC {v a b : Int} (hv : 1 ≤ v ∧ v ≤ 6) (ha1 : -1000000 ≤ a) (ha2 : a ≤ 1000000) (hb1 : -1000000 ≤ b) (hb2 : b ≤ 1000000) : clp (jC (-9 - v) a b) = jn v a b := by
  obtain h | h | h | h | h | h : v = 1 ∨ v = 2 ∨ v = 3 ∨ v = 4 ∨ v = 5 ∨ v = 6 := by omega
  · subst h; simp [jC, jn]
  · subst h; simp [jC, jn]
  · subst h; simp [jC, jn]
  · subst h
    have := fdv_rng (b := b) (n := 1000000) (by decide) ha1 ha2
    have e1 : jC (-9 - 4) a b = fdv a b := by simp [jC]
    have e2 : jn 4 a b = fdv a b := by simp [jn]
    rw [e1, e2, clp_id this.1 this.2]
  · subst h
    have e1 : jC (-9 - 5) a b = if b ≤ a then b else a := by simp [jC]
    have e2 : jn 5 a b = if a < b then a else b := by simp [jn]
    rw [e1, e2]
    split
    · rw [if_neg (by omega), clp_id hb1 hb2]
    · rw [if_pos (by omega), clp_id ha1 ha2]
  · subst h
    have e1 : jC (-9 - 6) a b = if a ≤ b then b else a := by simp [jC]
    have e2 : jn 6 a b = if b < a then a else b := by simp [jn]
    rw [e1, e2]
    split
    · rw [if_neg (by omega), clp_id hb1 hb2]
    · rw [if_pos (by omega), clp_id ha1 ha2]
theorem stp_stC {ask : Nat → Int} {tb : Nat → Int} {tide round hour v : Int} {st : List Int} (h : okc v st.length) (hs : sml st) (ha : ask 0 = tide ∧ ask 1 = round ∧ ask 2 = hour % 24 ∧ ask 3 = hour / 24) : stC (plC tide round hour) tb (trC v) st = stp ask v st ∧ okC (trC v) st.length ∧ hC (trC v) st.length = (if 7 ≤ v then st.length + 1 else st.length - 1) := by
  rcases h with ⟨h1, h2⟩ | ⟨h1, h2⟩
  · have hge : 7 ≤ v := by omega
    have key : ∀ w, trC v = w → -5 < w → w ≤ 9999 → stp ask v st = plC tide round hour w :: st → stC (plC tide round hour) tb (trC v) st = stp ask v st ∧ okC (trC v) st.length ∧ hC (trC v) st.length = (if 7 ≤ v then st.length + 1 else st.length - 1) := by
      intro w e1 e2 e3 e4
      have q1 : -10 < w := by omega
      have q2 : -6 < w := by omega
      have q3 : ¬ w = -9 := by omega
      refine ⟨?_, ?_, ?_⟩
      · rw [e1, e4]; unfold stC; simp only [if_pos q1, if_pos q2, if_neg q3]
      · rw [e1]; exact Or.inl ⟨⟨q2, e3⟩, h2⟩
      · rw [e1, if_pos hge]; unfold hC; rw [if_pos q2]
    rcases h1 with h1 | h1
    · have e : stp ask v st = ask (v - 7).toNat :: st := by unfold stp; rw [if_neg (by omega), if_pos h1]
      obtain h | h | h | h : v = 7 ∨ v = 8 ∨ v = 9 ∨ v = 10 := by omega
      · subst h; exact key (-1) rfl (by decide) (by decide) (by rw [e]; show ask 0 :: st = tide :: st; rw [ha.1])
      · subst h; exact key (-2) rfl (by decide) (by decide) (by rw [e]; show ask 1 :: st = round :: st; rw [ha.2.1])
      · subst h; exact key (-3) rfl (by decide) (by decide) (by rw [e]; show ask 2 :: st = (hour % 24) :: st; rw [ha.2.2.1])
      · subst h; exact key (-4) rfl (by decide) (by decide) (by rw [e]; show ask 3 :: st = (hour / 24) :: st; rw [ha.2.2.2])
    · refine key (v - 1000) (by unfold trC; rw [if_pos h1.1]) (by omega) (by omega) ?_
      unfold stp plC
      rw [if_pos h1.1, if_neg (by omega), if_neg (by omega), if_neg (by omega), if_neg (by omega), if_neg (by omega)]
  · have e1 : trC v = -9 - v := by unfold trC; rw [if_neg (by omega), if_neg (by omega), if_neg (by omega), if_neg (by omega), if_neg (by omega)]
    have q1 : ¬ -10 < -9 - v := by omega
    have q2 : ¬ -6 < -9 - v := by omega
    rw [e1]
    match st, h2 with
    | b :: a :: r, h2 =>
      refine ⟨?_, Or.inr (Or.inr ⟨by omega, h2⟩), ?_⟩
      · have hsa := hs a (List.mem_cons_of_mem _ List.mem_cons_self)
        have hsb := hs b List.mem_cons_self
        unfold stC stp
        simp only [if_neg q1]
        rw [if_neg (by omega), if_neg (by omega), jn_jC h1 hsa.1 hsa.2 hsb.1 hsb.2]
      · unfold hC
        rw [if_neg q2, if_neg q1, if_neg (by omega)]
theorem evs_evC {cd cd' : Nat → Int} {ask : Nat → Int} {tb : Nat → Int} {tide round hour : Int} (ha : ask 0 = tide ∧ ask 1 = round ∧ ask 2 = hour % 24 ∧ ask 3 = hour / 24) (ha2 : ∀ j : Nat, j < 4 → 0 ≤ ask j ∧ ask j ≤ 1000000) : ∀ (n f : Nat) (st : List Int), (∀ k, f ≤ k → k < f + n → cd' k = trC (cd k)) → wfc cd n f st.length → sml st → st.length ≤ 60 → evC cd' (plC tide round hour) tb n f st = evs cd ask n f st ∧ wfC cd' n f st.length
  | 0, f, st, _, hw, _, _ => ⟨rfl, hw⟩
  | n + 1, f, st, hc, hw, hs, hl => by
    obtain ⟨o1, o2⟩ := wfc_okc hw
    have e0 := hc f (Nat.le_refl _) (by omega)
    obtain ⟨s1, s2, s3⟩ := stp_stC (tb := tb) o1 hs ha
    obtain ⟨l1, l2⟩ := stp_len (ask := ask) o1 hl
    have ih := evs_evC (tb := tb) ha ha2 n (f + 1) (stp ask (cd f) st) (fun k h1 h2 => hc k (by omega) (by omega)) (by rw [l2]; exact o2) (stp_sml o1 hs ha2) l1
    refine ⟨?_, ?_⟩
    · show evC cd' _ tb n (f + 1) (stC _ tb (cd' f) st) = evs cd ask n (f + 1) (stp ask (cd f) st)
      rw [e0, s1]
      exact ih.1
    · show okC (cd' f) st.length ∧ wfC cd' n (f + 1) (hC (cd' f) st.length)
      rw [e0, s3, ← l2]
      exact ⟨s2, ih.2⟩
/-- the class's cells of the town are V's -/
def TcS (V M : Mm) (s : Int) : Prop := M 6 s.toNat = eF V s ∧ M 7 s.toNat = eT V s ∧ M 8 s.toNat = tk V s ∧ M 9 s.toNat = rd V s ∧ M 11 s.toNat = cF V s ∧ M 12 s.toNat = cT V s ∧ ∀ k : Nat, (cF V s).toNat ≤ k → k < (cT V s).toNat → M 17 k = trC (cD V k)
def TcW (V M : Mm) (w : Int) : Prop := M 13 w.toNat = br V w ∧ M 14 w.toNat = wx V w ∧ M 15 w.toNat = wy V w
def Tc (V M : Mm) : Prop := (M 4 0 = nP V ∧ M 4 1 = nS V ∧ M 4 2 = nW V) ∧ (∀ s : Int, 0 ≤ s → s < nS V → TcS V M s) ∧ (∀ w : Int, 0 ≤ w → w < nW V → TcW V M w) ∧ ∀ k : Nat, k < 36 → M 19 k = 0
def Nc (V M : Mm) : Prop := M 39 8 = hr V ∧ (∀ s : Int, 0 ≤ s → s < nS V → M 40 s.toNat = sf V s) ∧ ∀ w : Int, 0 ≤ w → w < nW V → M 41 w.toNat = pl V w ∧ M 42 w.toNat = gl V w ∧ M 43 w.toNat = fr V w
/-- the widths that are known -/
def Cc (V M : Mm) : Prop := (1 ≤ M 46 3 ∧ M 46 3 ≤ 600) ∧ ∀ s j : Int, 0 ≤ s → s < 12 → 0 ≤ j → j < 512 → (0 ≤ M 47 (s * 512 + j).toNat ∧ M 47 (s * 512 + j).toNat < (M 46 3 + 1) * 8589934592) ∧ ∀ sh hour : Int, s < nS V → 0 ≤ sh → sh < 64 → 0 ≤ hour → hour < 1048576 → M 47 (s * 512 + j).toNat / 128 = (M 46 3 * 64 + sh) * 1048576 + hour → M 47 (s * 512 + j).toNat % 128 = wdt V s hour sh
def Cl (V M : Mm) : Prop := Tc V M ∧ Nc V M ∧ Cc V M
theorem shl64_id {x : Int} (s : Nat) (hs : s < 64) : shl64 x (s : Int) = x * ((2 ^ s : Nat) : Int) := by
  unfold shl64
  rw [show (((s : Int) % 64).toNat) = s by omega, Int.natCast_pow]
  rfl
theorem shl64_6 (x : Int) : shl64 x 6 = x * 64 := shl64_id 6 (by decide)
theorem shl64_7 (x : Int) : shl64 x 7 = x * 128 := shl64_id 7 (by decide)
theorem shl64_20 (x : Int) : shl64 x 20 = x * 1048576 := shl64_id 20 (by decide)
theorem shr64_7 {x : Int} (h1 : -9223372036854775808 ≤ x) (h2 : x < 9223372036854775808) : shr64 x 7 = x / 128 := by
  unfold shr64
  rw [i64_id h1 h2]
  rfl
theorem e_cTideBy {V M : Mm} (h : Tc V M) {s shift hour : Int} (h1 : 0 ≤ s) (h2 : s < nS V) (hS : nS V ≤ 12) (r1 : 1 ≤ rd V s) (r2 : rd V s ≤ 48) (h3 : 0 ≤ hour) (h4 : hour ≤ 1000000) (h5 : 0 ≤ shift) (h6 : shift ≤ 1000) : f_Widths_tideBy s shift hour M = some ((hour + shift) % rd V s, M) := by
  unfold f_Widths_tideBy
  have e := (h.2.1 s h1 h2).2.2.2.1
  rw [e_cell_in (n := 12) M rfl (by decide) h1 (by omega), bI_s, e, i32_id (x := rd V s) (by omega) (by omega), if_neg (by omega), e_floorMod M r1 (by omega) (by omega) (by omega), bI_s]
theorem ask4_is (V : Mm) (s hour shift : Int) : ask4 V s hour shift 0 = (hour + shift) % rd V s ∧ ask4 V s hour shift 1 = rd V s ∧ ask4 V s hour shift 2 = hour % 24 ∧ ask4 V s hour shift 3 = hour / 24 := ⟨rfl, rfl, rfl, rfl⟩
theorem plC_rng {tide round hour : Int} (h1 : 0 ≤ tide ∧ tide ≤ 1000000) (h2 : 0 ≤ round ∧ round ≤ 1000000) (h3 : 0 ≤ hour ∧ hour ≤ 1000000) : ∀ v, -6 < v → v ≤ 9999 → -1000000 ≤ plC tide round hour v ∧ plC tide round hour v ≤ 1000000 := by
  intro v g1 g2
  unfold plC
  repeat' split
  all_goals omega
theorem cdOk16 : cdOk (ptr 16 0) (ptr 16 1) (ptr 16 2) := ⟨rfl, rfl, rfl, by decide, by decide⟩
theorem cdOk71 : cdOk (ptr 71 0) (ptr 71 1) (ptr 71 2) := ⟨rfl, rfl, rfl, by decide, by decide⟩
/-- the class's scratch where it asks for widths -/
def wcL : List (Nat × Nat) := [(18, 99999), (47, 99999)]
def tcOk (l : List (Nat × Nat)) : Bool := l.all fun p => p.1 != 4 && (p.1 != 6 && (p.1 != 7 && (p.1 != 8 && (p.1 != 9 && (p.1 != 11 && (p.1 != 12 && (p.1 != 13 && (p.1 != 14 && (p.1 != 15 && (p.1 != 17 && p.1 != 19))))))))))
def ncOk (l : List (Nat × Nat)) : Bool := l.all fun p => (p.1 != 39 || (p.2 != 8 && p.2 != 99999)) && (p.1 != 40 && (p.1 != 41 && (p.1 != 42 && p.1 != 43)))
def ccOk (l : List (Nat × Nat)) : Bool := l.all fun p => p.1 != 46 && p.1 != 47
theorem Tc.fr {V M M' : Mm} {l : List (Nat × Nat)} (h : Tc V M) (hF : Fr l M M') (hh : tcOk l = true) : Tc V M' := by
  have hz := fun p hp => List.all_eq_true.mp hh p hp
  simp only [Bool.and_eq_true, bne_iff_ne, ne_eq] at hz
  have r4 := hF.rw' 4 fun p hp => (hz p hp).1
  have r6 := hF.rw' 6 fun p hp => (hz p hp).2.1
  have r7 := hF.rw' 7 fun p hp => (hz p hp).2.2.1
  have r8 := hF.rw' 8 fun p hp => (hz p hp).2.2.2.1
  have r9 := hF.rw' 9 fun p hp => (hz p hp).2.2.2.2.1
  have r11 := hF.rw' 11 fun p hp => (hz p hp).2.2.2.2.2.1
  have r12 := hF.rw' 12 fun p hp => (hz p hp).2.2.2.2.2.2.1
  have r13 := hF.rw' 13 fun p hp => (hz p hp).2.2.2.2.2.2.2.1
  have r14 := hF.rw' 14 fun p hp => (hz p hp).2.2.2.2.2.2.2.2.1
  have r15 := hF.rw' 15 fun p hp => (hz p hp).2.2.2.2.2.2.2.2.2.1
  have r17 := hF.rw' 17 fun p hp => (hz p hp).2.2.2.2.2.2.2.2.2.2.1
  have r19 := hF.rw' 19 fun p hp => (hz p hp).2.2.2.2.2.2.2.2.2.2.2
  unfold Tc TcS TcW
  rw [r4, r6, r7, r8, r9, r11, r12, r13, r14, r15, r17, r19]
  exact h
theorem Nc.fr {V M M' : Mm} {l : List (Nat × Nat)} (h : Nc V M) (hF : Fr l M M') (hh : ncOk l = true) : Nc V M' := by
  have hz := fun p hp => List.all_eq_true.mp hh p hp
  simp only [Bool.and_eq_true, Bool.or_eq_true, bne_iff_ne, ne_eq] at hz
  have r39 : M' 39 8 = M 39 8 := hF 39 8 fun p hp q => by
    rcases (hz p hp).1 with g | g
    · exact g q.1
    · rcases q.2 with e | e
      · exact g.1 e
      · exact g.2 e
  have r40 := hF.rw' 40 fun p hp => (hz p hp).2.1
  have r41 := hF.rw' 41 fun p hp => (hz p hp).2.2.1
  have r42 := hF.rw' 42 fun p hp => (hz p hp).2.2.2.1
  have r43 := hF.rw' 43 fun p hp => (hz p hp).2.2.2.2
  unfold Nc
  rw [r39, r40, r41, r42, r43]
  exact h
theorem Cc.fr {V M M' : Mm} {l : List (Nat × Nat)} (h : Cc V M) (hF : Fr l M M') (hh : ccOk l = true) : Cc V M' := by
  have hz := fun p hp => List.all_eq_true.mp hh p hp
  simp only [Bool.and_eq_true, bne_iff_ne, ne_eq] at hz
  have r46 := hF.rw' 46 fun p hp => (hz p hp).1
  have r47 := hF.rw' 47 fun p hp => (hz p hp).2
  unfold Cc
  rw [r46, r47]
  exact h
theorem Cl.fr {V M M' : Mm} {l : List (Nat × Nat)} (h : Cl V M) (hF : Fr l M M') (h1 : tcOk l = true) (h2 : ncOk l = true) (h3 : ccOk l = true) : Cl V M' := ⟨h.1.fr hF h1, h.2.1.fr hF h2, h.2.2.fr hF h3⟩
theorem Cc.put {V M : Mm} (h : Cc V M) {s j sh hour w : Int} (h1 : 0 ≤ s) (h2 : s < 12) (h3 : 0 ≤ j) (h4 : j < 512) (h5 : 0 ≤ sh) (h6 : sh < 64) (h7 : 0 ≤ hour) (h8 : hour < 1048576) (hw : w = wdt V s hour sh) : Cc V (up M 47 (s * 512 + j).toNat (((M 46 3 * 64 + sh) * 1048576 + hour) * 128 + w)) := by
  have hr := wdt_rng V s hour sh
  rw [← hw] at hr
  refine ⟨by rw [up_row (by decide : ¬ (46 = 47))]; exact h.1, fun s' j' g1 g2 g3 g4 => ?_⟩
  rw [up_row (by decide : ¬ (46 = 47)), up_at]
  obtain ⟨q1, q2⟩ := h.2 s' j' g1 g2 g3 g4
  by_cases c : (s' * 512 + j').toNat = (s * 512 + j).toNat
  · rw [if_pos ⟨rfl, c⟩]
    obtain ⟨t1, t2⟩ := h.1
    have es : s' = s := by omega
    subst es
    refine ⟨by omega, fun sh' hour' z1 z2 z3 z4 z5 z6 => ?_⟩
    have e1 : sh' = sh := by omega
    have e2 : hour' = hour := by omega
    rw [e1, e2, ← hw]
    omega
  · rw [if_neg (fun q => c q.2)]
    exact ⟨q1, q2⟩
theorem s_cWidthBy {V M : Mm} (hT : Tw V) (h : Cl V M) {s shift hour : Int} (h1 : 0 ≤ s) (h2 : s < nS V) (h3 : 0 ≤ hour) (h4 : hour ≤ 1000000) (h5 : 0 ≤ shift) (h6 : shift < 64) : wq (f_Widths_widthBy s shift hour M) (fun q => q.1 = wdt V s hour shift ∧ Cl V q.2 ∧ Fr wcL M q.2) := by
  obtain ⟨-, ⟨-, hS⟩, -, hTs, -⟩ := hT
  obtain ⟨-, -, -, -, ⟨r1, r2⟩, ⟨c1, c2, c3⟩, hw⟩ := hTs s h1 h2
  obtain ⟨hc, hn, hC⟩ := id h
  obtain ⟨-, -, -, k4, k5, k6, k7⟩ := hc.2.1 s h1 h2
  obtain ⟨t1, t2⟩ := hC.1
  obtain ⟨⟨b1, b2⟩, b3⟩ := hC.2 s (hour % 512) h1 (by omega) (by omega) (by omega)
  have hwr := wdt_rng V s hour shift
  have hfin : ∀ (w : Int) (M9 : Mm), w = wdt V s hour shift → Cl V M9 → Fr wcL M M9 → wq (f_Widths_widthBy_J153 ((s * 512) + (hour % 512)) ((M 46 3 * 64 + shift) * 1048576 + hour) w M9) (fun q => q.1 = wdt V s hour shift ∧ Cl V q.2 ∧ Fr wcL M q.2) := by
    intro w M9 e hcl hF
    have e46 : M9 46 3 = M 46 3 := by rw [hF.row 46 rfl]
    unfold f_Widths_widthBy_J153
    rw [i32_id (x := s * 512 + hour % 512) (by omega) (by omega), shl64_7, i32_id (x := w) (by omega) (by omega)]
    refine wq_g (by omega) (wq_d (wq_some ⟨e, ?_, hF.up (by simp [wcL])⟩))
    have hput := Cc.put hcl.2.2 (s := s) (j := hour % 512) (sh := shift) (hour := hour) (w := w) h1 (by omega) (by omega) (by omega) h5 h6 h3 (by omega) e
    rw [e46] at hput
    refine ⟨hcl.1.fr (l := wcL) (Fr.rf.up (by simp [wcL])) rfl, hcl.2.1.fr (l := wcL) (Fr.rf.up (by simp [wcL])) rfl, hput⟩
  unfold f_Widths_widthBy
  rw [and32_511, i32_id (x := s * 512 + hour % 512) (by omega) (by omega), i32_id (x := shift) (by omega) (by omega), i32_id (x := hour) (by omega) (by omega), shl64_6, shl64_20, shr64_7 (by omega) (by omega), i32_id (x := ((6144 : Nat) : Int)) (by decide) (by decide)]
  refine wq_e (by omega) (wq_t (by omega) (wq_g (by omega) ?_))
  by_cases g : M 47 (s * 512 + hour % 512).toNat / 128 = (M 46 3 * 64 + shift) * 1048576 + hour
  · refine wq_e (fun q => q ((c64_eq (by omega) (by omega) (by omega) (by omega)).mpr g)) (wq_g (by omega) (wq_some ⟨?_, h, Fr.rf⟩))
    show and64 _ 127 = _
    rw [and64_127]
    exact b3 shift hour h2 h5 h6 h3 (by omega) g
  · refine wq_t (fun q => g ((c64_eq (by omega) (by omega) (by omega) (by omega)).mp q)) ?_
    rw [e_cell_in (n := 12) M rfl (by decide) h1 (by omega), bI_s, e_cell_in (n := 12) M rfl (by decide) h1 (by omega), bI_s, e_cTideBy hc h1 h2 hS r1 r2 h3 h4 h5 (by omega), bI_s, e_cell_in (n := 12) M rfl (by decide) h1 (by omega), bI_s, k4, k5, k6]
    have hask := ask4_rng (V := V) (s := s) (shift := shift) r1 r2 h3 h4
    have hev := evs_evC (cd := cD V) (cd' := M 17) (tb := fun _ => 0) (ask4_is V s hour shift) hask (cT V s - cF V s).toNat (cF V s).toNat [] (fun k z1 z2 => k7 k z1 (by omega)) hw (fun x hx => by simp at hx) (by simp)
    have hmod := Int.emod_nonneg (hour + shift) (show rd V s ≠ 0 by omega)
    have hmod2 := Int.emod_lt_of_pos (hour + shift) (show 0 < rd V s by omega)
    have hv := s_value (t := 16) (M := M) (tb := fun _ => 0) (tide := (hour + shift) % rd V s) (round := rd V s) (hour := hour) cdOk16 c1 c2 c3 h3 h4 hev.2 (fun k hk => ⟨hc.2.2.2 k hk, by decide, by decide⟩) (plC_rng ⟨hmod, by omega⟩ ⟨by omega, by omega⟩ ⟨h3, h4⟩)
    refine wq_I hv (fun r M9 ⟨⟨a, ha, hr, a1, a2⟩, hF⟩ => ?_)
    have hr : r = a := hr
    subst hr
    have hF9 : Fr wcL M M9 := hF.cov rfl
    have hcl9 : Cl V M9 := h.fr hF rfl rfl rfl
    have ha : evC (M 17) (plC ((hour + shift) % rd V s) (rd V s) hour) (fun _ => 0) (cT V s - cF V s).toNat (cF V s).toNat [] = [r] := ha
    have hV : wdt V s hour shift = wcl r := by unfold wdt; rw [← hev.1, ha]; rfl
    have hW : wcl r = if r < 0 then 0 else if 99 < r then 99 else r := rfl
    rw [i32_id (x := r) (by omega) (by omega), i32_id (x := 99) (by omega) (by omega)]
    by_cases g1 : r < 0
    · rw [if_pos g1] at hW
      exact wq_e (by omega) (hfin 0 M9 (by rw [hV, hW]) hcl9 hF9)
    · rw [if_neg g1] at hW
      refine wq_t (by omega) ?_
      by_cases g2 : 99 < r
      · rw [if_pos g2] at hW
        exact wq_e (by omega) (hfin 99 M9 (by rw [hV, hW]) hcl9 hF9)
      · rw [if_neg g2] at hW
        exact wq_t (by omega) (hfin r M9 (by rw [hV, hW]) hcl9 hF9)
theorem s_cWidthAt {V M : Mm} (hT : Tw V) (hN : Nw V) (h : Cl V M) {s hour : Int} (h1 : 0 ≤ s) (h2 : s < nS V) (h3 : 0 ≤ hour) (h4 : hour ≤ 1000000) : wq (f_Widths_widthAt s hour M) (fun q => q.1 = wid V s hour ∧ Cl V q.2 ∧ Fr wcL M q.2) := by
  have hS := hT.2.1.2
  have hs := hN.2.1 s h1 h2
  have hr := (hT.2.2.2.1 s h1 h2).2.2.2.2.1
  unfold f_Widths_widthAt
  rw [e_cell_in (n := 12) M rfl (by decide) h1 (by omega), bI_s, h.2.1.2.1 s h1 h2]
  exact wq_I (s_cWidthBy hT h h1 h2 h3 h4 hs.1 (by omega)) (fun r M3 h => wq_some h)
