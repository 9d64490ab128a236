def owL : List (Nat × List Int) := [(81, [16, 12, 1, 3, 5]), (82, [19, 20, 18, 5, 5, 20]), (83, [6, 18, 15, 13]), (84, [20, 15]), (85, [20, 1, 11, 5, 19]), (86, [18, 15, 21, 14, 4]), (87, [19, 8, 9, 6, 20]), (88, [23, 9, 4, 5]), (89, [23, 1, 12, 11, 5, 18]), (90, [2, 18, 15, 1, 4]), (91, [1, 20]), (92, [2, 5, 7, 9, 14]), (93, [20, 9, 4, 5]), (94, [3, 12, 15, 3, 11]), (95, [4, 1, 25]), (96, [13, 9, 14]), (97, [13, 1, 24])]
def owc (q : Nat × List Int) : Bool := decide (slen q.1 = q.2.length ∧ (1 ≤ q.2.length ∧ q.2.length ≤ 6)) && ((List.range q.2.length).all (fun i => decide (((ptr q.1 i : Nat) : Int) = q.2.getD i 0 + 96)) && q.2.all (fun x => decide (1 ≤ x ∧ x ≤ 26)))
theorem owL_ok : owL.all owc = true := by decide +kernel
theorem owc_owd {r : Nat} {l : List Int} (h : owc (r, l) = true) : owd r l := by
  unfold owc at h
  simp only [Bool.and_eq_true, decide_eq_true_eq, List.all_eq_true, List.mem_range] at h
  obtain ⟨⟨h1, h2⟩, h3, h4⟩ := h
  refine ⟨⟨by rw [List.length_map]; exact h1, by rw [List.length_map]; exact h2, fun i hi => ?_⟩, h4⟩
  rw [List.length_map] at hi
  have e : (l.map (· + 96)).getD i 0 = l.getD i 0 + 96 := by
    rw [List.getD_eq_getElem?_getD, List.getD_eq_getElem?_getD, List.getElem?_map, List.getElem?_eq_getElem hi]
    rfl
  have hm : l.getD i 0 ∈ l := by
    rw [List.getD_eq_getElem?_getD, List.getElem?_eq_getElem hi]
    exact List.getElem_mem hi
  have := h4 _ hm
  rw [e]
  exact ⟨h3 i hi, by omega, by omega⟩
theorem owL_mem {r : Nat} {l : List Int} (h : (r, l) ∈ owL) : owd r l := owc_owd (List.all_eq_true.mp owL_ok _ h)
theorem ownW_eq : ownW = owL.map (·.2) := rfl
/-- one more own word asked for -/
theorem s_ow1 {T : Nat → Int} {e p g : Int} {M M0 : Mm} {r : Nat} {l : List Int} {a : Mm → Option (Int × Mm)} {c : Mm → Option (Int × Mm)} {Q : Int × Mm → Prop} (hB : Bt T e) (h : Sm T e p g M) (hF : Fr [(78, 2)] M0 M) (hL : (r, l) ∈ owL) (hq : sk T e p ≠ g) (h1 : ∀ M', lts T e 7 (sk T e p) = l → Sm T e (sk T e p) g M' → Fr [(78, 2)] M0 M' → wq (a M') Q) (h2 : ∀ M', lts T e 7 (sk T e p) ≠ l → Sm T e (sk T e p) g M' → Fr [(78, 2)] M0 M' → wq (c M') Q) : wq (bI (f_M_isHere r M) (fun r2 M1 => if ¬ i32 r2 = 0 then a M1 else c M1)) Q := by
  refine wq_I (s_isOwnW hB h (owL_mem hL) hq) (fun r2 M1 ⟨a1, a2, a3⟩ => ?_)
  rcases a1 with ⟨b1, b2⟩ | ⟨b1, b2⟩
  · have b1 : r2 = 1 := b1
    rw [b1]
    exact wq_t (by decide) (h1 M1 b2 a2 (hF.tr a3))
  · have b1 : r2 = 0 := b1
    rw [b1]
    exact wq_e (by decide) (h2 M1 b2 a2 (hF.tr a3))
theorem s_ow2 {T : Nat → Int} {e p g : Int} {M M0 : Mm} {r : Nat} {l : List Int} {a : Mm → Option (Int × Mm)} {c : Mm → Option (Int × Mm)} {Q : Int × Mm → Prop} (hB : Bt T e) (h : Sm T e p g M) (hF : Fr [(78, 2)] M0 M) (hL : (r, l) ∈ owL) (hq : sk T e p ≠ g) (h1 : ∀ M', lts T e 7 (sk T e p) = l → Sm T e (sk T e p) g M' → Fr [(78, 2)] M0 M' → wq (a M') Q) (h2 : ∀ M', lts T e 7 (sk T e p) ≠ l → Sm T e (sk T e p) g M' → Fr [(78, 2)] M0 M' → wq (c M') Q) : wq (bI (f_M_isHere r M) (fun r2 M1 => if i32 r2 = 0 then c M1 else a M1)) Q := by
  refine wq_I (s_isOwnW hB h (owL_mem hL) hq) (fun r2 M1 ⟨a1, a2, a3⟩ => ?_)
  rcases a1 with ⟨b1, b2⟩ | ⟨b1, b2⟩
  · have b1 : r2 = 1 := b1
    rw [b1]
    exact wq_e (by decide) (h1 M1 b2 a2 (hF.tr a3))
  · have b1 : r2 = 0 := b1
    rw [b1]
    exact wq_t (by decide) (h2 M1 b2 a2 (hF.tr a3))
theorem s_isOwnHere {T : Nat → Int} {e p g : Int} {M : Mm} (hB : Bt T e) (h : Sm T e p g M) (hs : sk T e p = p) (hq : p ≠ g) : wq (f_M_isOwnHere M) (fun q => tf q.1 (lts T e 7 p ∈ ownW) ∧ Sm T e p g q.2 ∧ Fr [(78, 2)] M q.2) := by
  have hq' : sk T e p ≠ g := by rw [hs]; exact hq
  have hy : ∀ (r : Nat) (l : List Int) (M' : Mm), (r, l) ∈ owL → lts T e 7 (sk T e p) = l → Sm T e (sk T e p) g M' → Fr [(78, 2)] M M' → wq (some ((1 : Int), M')) (fun q => tf q.1 (lts T e 7 p ∈ ownW) ∧ Sm T e p g q.2 ∧ Fr [(78, 2)] M q.2) := by
    intro r l M' m1 m2 m3 m4
    rw [hs] at m2 m3
    exact wq_some ⟨Or.inl ⟨rfl, by rw [m2, ownW_eq]; exact List.mem_map.mpr ⟨_, m1, rfl⟩⟩, m3, m4⟩
  have hJ1 : ∀ M', Sm T e p g M' → Fr [(78, 2)] M M' → lts T e 7 p ∈ ownW → wq (f_M_isOwnHere_J147 1 M') (fun q => tf q.1 (lts T e 7 p ∈ ownW) ∧ Sm T e p g q.2 ∧ Fr [(78, 2)] M q.2) := by
    intro M' m1 m2 m3
    unfold f_M_isOwnHere_J147
    exact wq_t (by decide) (wq_some ⟨Or.inl ⟨rfl, m3⟩, m1, m2⟩)
  have hJ2 : ∀ M', Sm T e p g M' → Fr [(78, 2)] M M' → lts T e 7 p ∈ ownW → wq (f_M_isOwnHere_J71 1 M') (fun q => tf q.1 (lts T e 7 p ∈ ownW) ∧ Sm T e p g q.2 ∧ Fr [(78, 2)] M q.2) := by
    intro M' m1 m2 m3
    unfold f_M_isOwnHere_J71
    exact wq_t (by decide) (hJ1 M' m1 m2 m3)
  have hin : ∀ (r : Nat) (l : List Int), (r, l) ∈ owL → lts T e 7 (sk T e p) = l → lts T e 7 p ∈ ownW := by
    intro r l m1 m2
    rw [hs] at m2
    rw [m2, ownW_eq]
    exact List.mem_map.mpr ⟨_, m1, rfl⟩
  have hsm : ∀ M', Sm T e (sk T e p) g M' → Sm T e p g M' := fun M' m => by rw [hs] at m; exact m
  have m81 : (81, [16, 12, 1, 3, 5]) ∈ owL := by simp [owL]
  have m82 : (82, [19, 20, 18, 5, 5, 20]) ∈ owL := by simp [owL]
  have m83 : (83, [6, 18, 15, 13]) ∈ owL := by simp [owL]
  have m84 : (84, [20, 15]) ∈ owL := by simp [owL]
  have m85 : (85, [20, 1, 11, 5, 19]) ∈ owL := by simp [owL]
  have m86 : (86, [18, 15, 21, 14, 4]) ∈ owL := by simp [owL]
  have m87 : (87, [19, 8, 9, 6, 20]) ∈ owL := by simp [owL]
  have m88 : (88, [23, 9, 4, 5]) ∈ owL := by simp [owL]
  have m89 : (89, [23, 1, 12, 11, 5, 18]) ∈ owL := by simp [owL]
  have m90 : (90, [2, 18, 15, 1, 4]) ∈ owL := by simp [owL]
  have m91 : (91, [1, 20]) ∈ owL := by simp [owL]
  have m92 : (92, [2, 5, 7, 9, 14]) ∈ owL := by simp [owL]
  have m93 : (93, [20, 9, 4, 5]) ∈ owL := by simp [owL]
  have m94 : (94, [3, 12, 15, 3, 11]) ∈ owL := by simp [owL]
  have m95 : (95, [4, 1, 25]) ∈ owL := by simp [owL]
  have m96 : (96, [13, 9, 14]) ∈ owL := by simp [owL]
  have m97 : (97, [13, 1, 24]) ∈ owL := by simp [owL]
  unfold f_M_isOwnHere
  refine s_ow1 hB h Fr.rf m81 hq' (fun A a1 a2 a3 => hJ2 A (hsm A a2) a3 (hin _ _ m81 a1)) (fun A n81 a2 a3 => ?_)
  refine s_ow1 hB (hsm A a2) a3 m82 hq' (fun A a1 a2 a3 => hJ2 A (hsm A a2) a3 (hin _ _ m82 a1)) (fun A n82 a2 a3 => ?_)
  refine s_ow1 hB (hsm A a2) a3 m83 hq' (fun A a1 a2 a3 => hJ2 A (hsm A a2) a3 (hin _ _ m83 a1)) (fun A n83 a2 a3 => ?_)
  refine s_ow1 hB (hsm A a2) a3 m84 hq' (fun A a1 a2 a3 => hJ2 A (hsm A a2) a3 (hin _ _ m84 a1)) (fun A n84 a2 a3 => ?_)
  refine s_ow1 hB (hsm A a2) a3 m85 hq' (fun A a1 a2 a3 => hJ2 A (hsm A a2) a3 (hin _ _ m85 a1)) (fun A n85 a2 a3 => ?_)
  refine s_ow2 hB (hsm A a2) a3 m86 hq' (fun A a1 a2 a3 => hJ2 A (hsm A a2) a3 (hin _ _ m86 a1)) (fun A n86 a2 a3 => ?_)
  unfold f_M_isOwnHere_J71
  refine wq_e (by decide) ?_
  refine s_ow1 hB (hsm A a2) a3 m87 hq' (fun A a1 a2 a3 => hJ1 A (hsm A a2) a3 (hin _ _ m87 a1)) (fun A n87 a2 a3 => ?_)
  refine s_ow1 hB (hsm A a2) a3 m88 hq' (fun A a1 a2 a3 => hJ1 A (hsm A a2) a3 (hin _ _ m88 a1)) (fun A n88 a2 a3 => ?_)
  refine s_ow1 hB (hsm A a2) a3 m89 hq' (fun A a1 a2 a3 => hJ1 A (hsm A a2) a3 (hin _ _ m89 a1)) (fun A n89 a2 a3 => ?_)
  refine s_ow1 hB (hsm A a2) a3 m90 hq' (fun A a1 a2 a3 => hJ1 A (hsm A a2) a3 (hin _ _ m90 a1)) (fun A n90 a2 a3 => ?_)
  refine s_ow1 hB (hsm A a2) a3 m91 hq' (fun A a1 a2 a3 => hJ1 A (hsm A a2) a3 (hin _ _ m91 a1)) (fun A n91 a2 a3 => ?_)
  refine s_ow2 hB (hsm A a2) a3 m92 hq' (fun A a1 a2 a3 => hJ1 A (hsm A a2) a3 (hin _ _ m92 a1)) (fun A n92 a2 a3 => ?_)
  unfold f_M_isOwnHere_J147
  refine wq_e (by decide) ?_
  refine s_ow1 hB (hsm A a2) a3 m93 hq' (fun A a1 a2 a3 => hy _ _ A m93 a1 a2 a3) (fun A n93 a2 a3 => ?_)
  refine s_ow1 hB (hsm A a2) a3 m94 hq' (fun A a1 a2 a3 => hy _ _ A m94 a1 a2 a3) (fun A n94 a2 a3 => ?_)
  refine s_ow1 hB (hsm A a2) a3 m95 hq' (fun A a1 a2 a3 => hy _ _ A m95 a1 a2 a3) (fun A n95 a2 a3 => ?_)
  refine s_ow1 hB (hsm A a2) a3 m96 hq' (fun A a1 a2 a3 => hy _ _ A m96 a1 a2 a3) (fun A n96 a2 a3 => ?_)
  refine s_ow2 hB (hsm A a2) a3 m97 hq' (fun A a1 a2 a3 => hy _ _ A m97 a1 a2 a3) (fun A n97 a2 a3 => wq_some ⟨Or.inr ⟨rfl, fun z => ?_⟩, hsm A a2, a3⟩)
  rw [hs] at n81 n82 n83 n84 n85 n86 n87 n88 n89 n90 n91 n92 n93 n94 n95 n96 n97
  simp only [ownW, List.mem_cons, List.not_mem_nil, or_false] at z
  rcases z with z | z | z | z | z | z | z | z | z | z | z | z | z | z | z | z | z
  · exact n81 z
  · exact n82 z
  · exact n83 z
  · exact n84 z
  · exact n85 z
  · exact n86 z
  · exact n87 z
  · exact n88 z
  · exact n89 z
  · exact n90 z
  · exact n91 z
  · exact n92 z
  · exact n93 z
  · exact n94 z
  · exact n95 z
  · exact n96 z
  · exact n97 z
theorem pk27_snoc : ∀ (l : List Int) (v c : Int), pk27 v (l ++ [c]) = 27 * pk27 v l + c
  | [], _, _ => rfl
  | a :: l, v, c => pk27_snoc l (27 * v + a) c
theorem pk27_rg : ∀ (l : List Int) (v B : Int), (∀ x ∈ l, 1 ≤ x ∧ x ≤ 26) → 0 ≤ v → v < B → 0 ≤ pk27 v l ∧ pk27 v l < B * 27 ^ l.length
  | [], v, B, _, h1, h2 => by simp [pk27]; exact ⟨h1, h2⟩
  | a :: l, v, B, h, h1, h2 => by
    have ha := h a List.mem_cons_self
    have := pk27_rg l (27 * v + a) (B * 27) (fun x hx => h x (List.mem_cons_of_mem _ hx)) (by omega) (by omega)
    refine ⟨this.1, ?_⟩
    show pk27 (27 * v + a) l < B * 27 ^ (l.length + 1)
    rw [Int.pow_succ, Int.mul_comm (27 ^ l.length) 27, ← Int.mul_assoc]
    exact this.2
def mnQ (T : Nat → Int) (e p g : Int) (q : Int × Mm) : Prop := (∃ l, namR T e p g = .inr l ∧ q.1 = pk27 0 l ∧ ltrs l ∧ Sm T e (sk T e p + l.length) (sk T e p + l.length) q.2 ∧ q.2 78 27 = sk T e p) ∨ (∃ k pl, namR T e p g = .inl (k, pl) ∧ q.1 = 0 ∧ Fm T e k pl q.2)
theorem s_mname {T : Nat → Int} {e p g : Int} {M : Mm} (hB : Bt T e) (h : Sm T e p g M) : wq (f_M_name M) (fun q => mnQ T e p g q ∧ Fr ((78, 27) :: smL) M q.2) := by
  have hh := hB.1
  have hp0 := h.2.2.2.2.2.1
  unfold f_M_name
  rw [h.2.2.2.2.1]
  refine wq_t rfl (wq_I (s_look hB h) (fun r2 M1 ⟨a0, a1, a2⟩ => ?_))
  have a0 : r2 = bte T e (sk T e p) := a0
  have a1 : Sm T e (sk T e p) g M1 := a1
  have a2 : Fr [(78, 2)] M M1 := a2
  have b := a1.2.2.2.2.2.1
  have bg := a1.2.2.2.2.2.2.1
  have hr := bte_rng hB (sk T e p)
  have hss := sk_sk T (e := e) hp0.1
  have hno : ∀ (N : Mm), Sm T e (sk T e p) g N → Fr [(78, 2)] M N → namR T e p g = .inl (1, sk T e p) → wq (f_M_name_J37 N) (fun q => mnQ T e p g q ∧ Fr ((78, 27) :: smL) M q.2) := by
    intro N n1 n2 n3
    unfold f_M_name_J37
    rw [n1.2.2.1]
    exact wq_V (s_mfail n1 (k := 1) (pl := sk T e p) (by decide) (by omega)) (fun M2 ⟨c1, c2⟩ => wq_some ⟨Or.inr ⟨1, sk T e p, n3, rfl, c1⟩, (n2.cov rfl : Fr ((78, 27) :: smL) M N).tr (c2.cov rfl)⟩)
  rw [a0]
  refine wq_I (e_isLetM M1 (by omega) (by omega)) (fun r4 M3 ⟨b1, b2⟩ => ?_)
  have b2 : M3 = M1 := b2
  rw [b2]
  rcases b1 with ⟨b1, b3⟩ | ⟨b1, b3⟩
  · have b1 : r4 = 1 := b1
    rw [b1, a1.2.2.1, a1.2.2.2.1, i32_id (x := sk T e p) (by omega) (by omega), i32_id (x := g) (by omega) (by omega)]
    refine wq_e (by decide) (wq_if (fun c => hno M1 a1 a2 (by unfold namR; rw [if_neg (fun z => z.1 c)])) (fun c => ?_))
    have c0 : sk T e p ≠ g ∧ 97 ≤ bte T e (sk T e p) ∧ bte T e (sk T e p) ≤ 122 := ⟨c, b3.1, b3.2⟩
    have hl7 := lts_len T e 7 (sk T e p) b.1 b.2
    refine wq_I (s_isOwnHere hB a1 hss c) (fun r7 M6 ⟨d1, d2, d3⟩ => ?_)
    have d2 : Sm T e (sk T e p) g M6 := d2
    have d3 : Fr [(78, 2)] M1 M6 := d3
    have F6 : Fr [(78, 2)] M M6 := a2.tr d3
    rcases d1 with ⟨d1, d4⟩ | ⟨d1, d4⟩
    · have d1 : r7 = 1 := d1
      rw [d1]
      refine wq_e (by decide) (hno M6 d2 F6 ?_)
      have h7 : (lts T e 7 (sk T e p)).length ≠ 7 := by have := (ownW_ok _ d4).1; omega
      unfold namR
      rw [if_pos c0, if_neg h7, if_pos d4]
    · have d1 : r7 = 0 := d1
      rw [d1, d2.2.2.1]
      refine wq_t (by decide) (wq_d ?_)
      have n1 : Sm T e (sk T e p) g (up M6 78 27 (sk T e p)) := d2.fr (l := [(78, 27)]) (Fr.rf.up (by simp)) rfl
      have n2 : (up M6 78 27 (sk T e p)) 78 27 = sk T e p := up_eq _ _ _ _
      have n3 : Fr ((78, 27) :: smL) M (up M6 78 27 (sk T e p)) := (F6.cov rfl : Fr ((78, 27) :: smL) M M6).up (by simp)
      generalize up M6 78 27 (sk T e p) = M8 at *
      unfold f_M_name_L58
      refine wq_lp (fun z => (∃ l : List Int, l.length ≤ 6 ∧ z.1 = pk27 0 l ∧ (∀ x ∈ l, 1 ≤ x ∧ x ≤ 26) ∧ lts T e 7 (sk T e p) = l ++ lts T e (7 - l.length) (sk T e p + l.length) ∧ Sm T e (sk T e p + l.length) g z.2) ∧ z.2 78 27 = sk T e p ∧ Fr ((78, 27) :: smL) M z.2) (fun z => (e - z.2 78 2).toNat) ?_ FU _ ?_ ?_
      · rintro kH ⟨v1, N⟩ ⟨⟨l, q1, q2, q3, q4, q5⟩, q6, q7⟩ hk
        have e2 : v1 = pk27 0 l := q2
        have e5 : Sm T e (sk T e p + l.length) g N := q5
        have e6 : N 78 27 = sk T e p := q6
        have e7 : Fr ((78, 27) :: smL) M N := q7
        clear q2 q5 q6 q7
        have eb := e5.2.2.2.2.2.1
        have hpr := pk27_rg l 0 1 q3 (by decide) (by decide)
        have hb27 : (27 : Int) ^ l.length ≤ 387420489 := by
          obtain y | y | y | y | y | y | y : l.length = 0 ∨ l.length = 1 ∨ l.length = 2 ∨ l.length = 3 ∨ l.length = 4 ∨ l.length = 5 ∨ l.length = 6 := by omega
          all_goals (rw [y]; decide)
        have e9 : 7 - l.length = (6 - l.length) + 1 := by omega
        have hok : ¬ isLet (bte T e (sk T e p + l.length)) → wq (some (v1, up N 78 4 (sk T e p + l.length))) (fun q => mnQ T e p g q ∧ Fr ((78, 27) :: smL) M q.2) := by
          intro hz
          rw [e9, lts_n (fun y => hz ⟨y.1, y.2⟩), List.append_nil] at q4
          refine wq_some ⟨Or.inl ⟨l, ?_, e2, ⟨⟨?_, q1⟩, q3⟩, e5.gl hB, ?_⟩, e7.up (by simp [smL])⟩
          · unfold namR
            rw [if_pos c0, q4, if_neg (by omega), if_neg (by rw [← q4]; exact d4)]
          · rw [← q4, lts_y (n := 6) c0.2]
            simp
          · show up N 78 4 (sk T e p + l.length) 78 27 = sk T e p
            rw [up_col (by decide)]; exact e6
        show wq (f_M_name_B58 (fun v1 M => kH (v1, M)) _ v1 N) _
        unfold f_M_name_B58
        rw [e5.1, e5.2.2.1, e5.2.1, i32_id (x := e) (by omega) (by omega), i32_id (x := sk T e p + l.length) (by omega) (by omega)]
        refine wq_if (fun c2 => wq_d (hok (by rw [bte_out (by omega)]; exact fun z => by have := z.1; omega))) (fun c2 => wq_g (by omega) ?_)
        have ebt : bte T e (sk T e p + l.length) = T (sk T e p + l.length).toNat := bte_in (by omega) (by omega)
        rw [← ebt]
        have hr2 := bte_rng hB (sk T e p + l.length)
        refine wq_I (e_isLetM N (by omega) (by omega)) (fun r11 M10 ⟨f1, f2⟩ => ?_)
        have f2 : M10 = N := f2
        rw [f2]
        rcases f1 with ⟨f1, f3⟩ | ⟨f1, f3⟩
        · have f1 : r11 = 1 := f1
          rw [e9, lts_y ⟨f3.1, f3.2⟩] at q4
          have hf1 := f3.1
          have hf2 := f3.2
          rw [f1, e5.2.2.1, e5.2.1, e6, i32_id (x := (sk T e p + l.length) - sk T e p) (by omega) (by omega), i32_id (x := 6) (by omega) (by omega), i32_id (x := sk T e p + l.length) (by omega) (by omega), ← ebt, i32_id (x := bte T e (sk T e p + l.length)) (by omega) (by omega)]
          refine wq_e (by decide) (wq_if (fun u => wq_g (by omega) (wq_d ?_)) (fun u => ?_))
          · have n8 : Sm T e (sk T e p + l.length + 1) g (up N 78 2 (sk T e p + l.length + 1)) := e5.mv (by omega) (by omega)
            refine hk _ ⟨⟨l ++ [bte T e (sk T e p + l.length) - 96], ?_, ?_, ?_, ?_, ?_⟩, ?_, e7.up (by simp [smL])⟩ ?_
            · simp only [List.length_append, List.length_cons, List.length_nil]; omega
            · show (((27 * v1) + bte T e (sk T e p + l.length)) - 97) + 1 = pk27 0 (l ++ [bte T e (sk T e p + l.length) - 96])
              rw [pk27_snoc, e2]
              omega
            · intro x hx
              rcases List.mem_append.mp hx with z | z
              · exact q3 x z
              · rw [List.mem_singleton.mp z]; omega
            · rw [q4]
              simp only [List.length_append, List.length_cons, List.length_nil, List.append_assoc, List.cons_append, List.nil_append]
              rw [show 7 - (l.length + (0 + 1)) = 6 - l.length by omega, show sk T e p + ((l.length + (0 + 1) : Nat) : Int) = sk T e p + l.length + 1 by omega]
            · show Sm T e (sk T e p + (((l ++ [bte T e (sk T e p + l.length) - 96]).length : Nat) : Int)) g (up N 78 2 (sk T e p + l.length + 1))
              simp only [List.length_append, List.length_cons, List.length_nil]
              rw [show sk T e p + ((l.length + (0 + 1) : Nat) : Int) = sk T e p + l.length + 1 by omega]
              exact n8
            · show up N 78 2 (sk T e p + l.length + 1) 78 27 = sk T e p
              rw [up_col (by decide)]; exact e6
            · show (e - up N 78 2 (sk T e p + l.length + 1) 78 2).toNat < (e - N 78 2).toNat
              rw [up_eq, e5.2.2.1]
              omega
          · have h6 : l.length = 6 := by omega
            dsimp only
            rw [e5.2.2.1, h6]
            have e5' : Sm T e (sk T e p + 6) g N := by rw [h6] at e5; exact e5
            refine wq_V (s_mfail e5' (k := 1) (pl := sk T e p + 6) (by decide) (by omega)) (fun M2 ⟨c1, c3⟩ => wq_some ⟨Or.inr ⟨1, sk T e p + 6, ?_, rfl, c1⟩, e7.tr (c3.cov rfl)⟩)
            have h7 : (lts T e 7 (sk T e p)).length = 7 := by
              have : (lts T e 7 (sk T e p)).length ≥ 7 := by
                rw [q4]
                simp only [List.length_append, List.length_cons]
                omega
              omega
            unfold namR
            rw [if_pos c0, if_pos h7]
        · have f1 : r11 = 0 := f1
          rw [f1, e5.2.2.1]
          exact wq_t (by decide) (wq_d (hok f3))
      · exact ⟨⟨[], by simp, rfl, (fun x hx => by cases hx), by show lts T e 7 (sk T e p) = [] ++ lts T e 7 (sk T e p + ((0 : Nat) : Int)); rw [show sk T e p + ((0 : Nat) : Int) = sk T e p by omega]; rfl, by show Sm T e (sk T e p + ((0 : Nat) : Int)) g M8; rw [show sk T e p + ((0 : Nat) : Int) = sk T e p by omega]; exact n1⟩, n2, n3⟩
      · show (e - M8 78 2).toNat < 1000000000
        rw [n1.2.2.1]
        omega
  · have b1 : r4 = 0 := b1
    rw [b1]
    exact wq_t (by decide) (hno M1 a1 a2 (by unfold namR; rw [if_neg (fun z => b3 ⟨z.2.1, z.2.2⟩)]))
