def lFa : List (Nat × Nat) := [(0, 11), (0, 12), (1, 1), (1, 2), (1, 3), (1, 4), (1, 5), (1, 6), (20, 13), (21, 99999), (22, 99999), (23, 99999), (24, 99999), (25, 99999), (26, 99999), (27, 99999), (28, 99999), (29, 99999), (30, 99999), (31, 99999), (32, 99999), (33, 3), (33, 4), (34, 99999), (77, 1), (78, 1), (78, 3), (78, 7), (78, 8), (78, 33), (78, 2), (78, 4), (78, 5), (78, 6), (78, 27), (78, 32), (78, 35), (78, 37), (78, 38), (78, 41), (98, 99999), (99, 99999), (100, 99999), (101, 99999), (102, 99999), (103, 99999), (104, 99999), (105, 99999), (80, 1)]
theorem rel_town_f {n : Nat} {M M' : Mm} (h : Rl n M M) (hF : Fr lFa M M') (ht : Rt M M') (e1 : M' 78 1 = 0) (e2 : M' 1 1 = 0) (e3 : M' 0 11 = M' 78 7) (e4 : M' 0 12 = M' 78 8) (e5 : M' 77 = M' 80) : Rl (n + 1) M' M' := by
  obtain ⟨h1, h2, h3, h4, h5, h6, h7, h8, h9, h10, h11⟩ := h
  have hu : Ru M M' := ⟨ht.1, ht.2.1, ht.2.2.1, ht.2.2.2.1, ht.2.2.2.2.1, ht.2.2.2.2.2.1, ht.2.2.2.2.2.2, hF.row 108 rfl⟩
  have e46 : M' 46 3 = M 46 3 := by rw [hF.row 46 rfl]
  obtain ⟨t1, t2, t3, t4⟩ := h4
  obtain ⟨s1, s2, s3, s4, s5, s6⟩ := h5
  refine ⟨h1.rt hu.t, h2.ru hu, ⟨(h3.1.fr hF rfl).rt hu.t, nc_ru (h3.2.1.fr hF rfl) hu, (h3.2.2.fr hF rfl).rt hu.t⟩, ⟨?_, ?_, ?_, ?_⟩, ⟨e3, e4, e5, ?_, ?_, ?_⟩, h6.cg hu.t (hF.row 5 rfl), h7.cg hu.t (hF.at 78 63 rfl) (hF.at 78 64 rfl) (hF.row 120 rfl) (hF.at 39 9 rfl) (hF.row 44 rfl), h8.c (hF.at 78 99 rfl) (hF.row 145 rfl) (hF.at 39 7 rfl) (hF.row 45 rfl), h9.cg hu.t (hF.at 78 66 rfl) (hF.row 121 rfl) (hF.at 64 6 rfl) (hF.row 65 rfl) (hF.row 66 rfl) (hF.row 67 rfl), ⟨by rw [hF.row 38 rfl]; exact h10.1, by rw [hF.row 76 rfl]; exact h10.2.1, by rw [hF.row 48 rfl]; exact h10.2.2⟩, by rw [e46]; omega⟩
  · rw [e1]; decide
  · rw [hF.row 79 rfl]; exact t2
  · rw [e1, e2]
  · rw [hF.row 2 rfl, hF.row 79 rfl]; exact t4
  · rw [hF.at 0 13 rfl, hF.at 78 65 rfl]; exact s4
  · rw [hF.at 78 65 rfl]; exact s5
  · rw [hF.at 78 65 rfl]; exact s6
def lSa : List (Nat × Nat) := [(0, 11), (0, 12), (1, 1), (1, 2), (1, 3), (1, 4), (1, 5), (1, 6), (20, 13), (21, 99999), (22, 99999), (23, 99999), (24, 99999), (25, 99999), (26, 99999), (27, 99999), (28, 99999), (29, 99999), (30, 99999), (31, 99999), (32, 99999), (33, 3), (33, 4), (34, 99999), (4, 99999), (5, 99999), (6, 99999), (7, 99999), (8, 99999), (9, 99999), (10, 99999), (11, 99999), (12, 99999), (13, 99999), (14, 99999), (15, 99999), (16, 3), (16, 4), (17, 99999), (3, 13), (39, 8), (39, 9), (40, 99999), (41, 99999), (42, 99999), (43, 99999), (46, 3), (64, 6), (78, 1), (78, 3), (78, 7), (78, 8), (78, 33), (78, 2), (78, 4), (78, 5), (78, 6), (78, 27), (78, 32), (78, 35), (78, 37), (78, 38), (78, 41), (78, 63), (78, 66), (98, 99999), (99, 99999), (100, 99999), (101, 99999), (102, 99999), (103, 99999), (104, 99999), (105, 99999), (108, 99999)]
theorem rel_town_s {n : Nat} {M M' : Mm} {S : Tn} (hn : n ≤ 590) (h : Rl n M M) (hF : Fr lSa M M') (hC : Cd S M') (hS : Sd S M') (hW : Ws S) (hl : S.C.length ≤ 1600) (e46 : M' 46 3 = M 46 3 + 1) (e64 : M' 64 6 = 0) (e1 : M' 78 1 = 0) (e2 : M' 1 1 = 0) (e3 : M' 0 11 = M' 78 7) (e4 : M' 0 12 = M' 78 8) : Rl (n + 1) M' M' := by
  obtain ⟨h1, h2, h3, h4, h5, h6, h7, h8, h9, h10, h11⟩ := h
  obtain ⟨t1, t2, t3, t4⟩ := h4
  obtain ⟨s1, s2, s3, s4, s5, s6⟩ := h5
  obtain ⟨y1, y2⟩ := sd_ok hS hW hl
  obtain ⟨g1, g2, g3, g4, g5, g6, g7, g8⟩ := hS
  obtain ⟨k1, k2, k3, k4, k5, k6, k7⟩ := hC
  obtain ⟨⟨⟨c0, c1, c2⟩, hnm⟩, hs, hw, hb⟩ := hW
  have eP : nP M' = (S.c 0 : Int) := g1 0 (by decide)
  have eS : nS M' = (S.c 1 : Int) := g1 1 (by decide)
  have eW : nW M' = (S.c 2 : Int) := g1 2 (by decide)
  refine ⟨y1, y2, ⟨⟨⟨?_, ?_, ?_⟩, fun s a1 a2 => ?_, fun w a1 a2 => ?_, fun k hk => ?_⟩, ⟨?_, fun s a1 a2 => ?_, fun w a1 a2 => ?_⟩, ⟨?_, fun s j a1 a2 a3 a4 => ?_⟩⟩, ⟨?_, ?_, ?_, ?_⟩, ⟨e3, e4, ?_, ?_, ?_, ?_⟩, fun kd w a1 a2 => ?_, ⟨?_, ?_, ?_, fun j j1 j2 => ?_⟩, h8.c (hF.at 78 99 rfl) (hF.row 145 rfl) (hF.at 39 7 rfl) (hF.row 45 rfl), ⟨?_, ?_, fun k hk => ?_⟩, ⟨by rw [hF.row 38 rfl]; exact h10.1, by rw [hF.row 76 rfl]; exact h10.2.1, by rw [hF.row 48 rfl]; exact h10.2.2⟩, by rw [e46]; push_cast; omega⟩
  · rw [eP]; exact k1 0 (by decide)
  · rw [eS]; exact k1 1 (by decide)
  · rw [eW]; exact k1 2 (by decide)
  · obtain ⟨q, rfl⟩ : ∃ q : Nat, s = (q : Int) := ⟨s.toNat, by omega⟩
    have hq : q < S.c 1 := by rw [eS] at a2; omega
    obtain ⟨b1, b2, b3, b4⟩ := g3 q hq
    obtain ⟨d1, d2, d3, d4, d5, d6, d7⟩ := k3 q hq
    obtain ⟨z1, z2, z3, z4, z5, z6, z7, z8⟩ := hs q hq
    unfold TcS eF eT tk rd cF cT
    rw [Int.toNat_natCast, show (60 + 5 * (q : Int)).toNat = 60 + (5 * q + 0) by omega, show (61 + 5 * (q : Int)).toNat = 60 + (5 * q + 1) by omega, show (62 + 5 * (q : Int)).toNat = 60 + (5 * q + 2) by omega, show (63 + 5 * (q : Int)).toNat = 60 + (5 * q + 3) by omega, show (12 + (q : Int)).toNat = 12 + q by omega, b1 0 (by decide), b1 1 (by decide), b1 2 (by decide), b1 3 (by decide), b2, b3]
    refine ⟨d1, d2, d3, d4, d5, d6, fun k hk1 hk2 => ?_⟩
    unfold cD
    rw [g5 k (by omega)]
    exact k5 k (by omega)
  · obtain ⟨q, rfl⟩ : ∃ q : Nat, w = (q : Int) := ⟨w.toNat, by omega⟩
    have hq : q < S.c 2 := by rw [eW] at a2; omega
    obtain ⟨b1, b2, b3, b4⟩ := g4 q hq
    obtain ⟨d1, d2, d3, d4, d5, d6⟩ := k4 q hq
    unfold TcW br wx wy
    rw [Int.toNat_natCast, show (18 + 3 * (q : Int)).toNat = 18 + (3 * q + 0) by omega, show (19 + 3 * (q : Int)).toNat = 18 + (3 * q + 1) by omega, show (20 + 3 * (q : Int)).toNat = 18 + (3 * q + 2) by omega, b1 0 (by decide), b1 1 (by decide), b1 2 (by decide)]
    exact ⟨d1, d2, d3⟩
  · rw [hF.row 19 rfl]
    exact h3.1.2.2.2 k hk
  · unfold hr
    rw [g6]; exact k6
  · obtain ⟨q, rfl⟩ : ∃ q : Nat, s = (q : Int) := ⟨s.toNat, by omega⟩
    have hq : q < S.c 1 := by rw [eS] at a2; omega
    unfold sf
    rw [Int.toNat_natCast, show (1 + (q : Int)).toNat = 1 + q by omega, (g3 q hq).2.2.2]
    exact (k3 q hq).2.2.2.2.2.2
  · obtain ⟨q, rfl⟩ : ∃ q : Nat, w = (q : Int) := ⟨w.toNat, by omega⟩
    have hq : q < S.c 2 := by rw [eW] at a2; omega
    obtain ⟨b1, b2, b3, b4⟩ := g4 q hq
    obtain ⟨d1, d2, d3, d4, d5, d6⟩ := k4 q hq
    unfold pl gl fr
    rw [Int.toNat_natCast, show (13 + 3 * (q : Int)).toNat = 13 + 3 * q by omega, show (14 + 3 * (q : Int)).toNat = 14 + 3 * q by omega, show (15 + 3 * (q : Int)).toNat = 15 + 3 * q by omega, b2, b3, b4]
    exact ⟨d4, d5, d6⟩
  · rw [e46]
    have := h3.2.2.1
    omega
  · obtain ⟨o1, o2⟩ := (h3.2.2.2 s j a1 a2 a3 a4).1
    have hr46 := h3.2.2.1
    rw [e46, hF.row 47 rfl]
    refine ⟨⟨o1, by omega⟩, fun sh hour q1 q2 q3 q4 q5 q6 => ?_⟩
    exfalso
    omega
  · rw [e1]; decide
  · rw [hF.row 79 rfl]; exact t2
  · rw [e1, e2]
  · rw [hF.row 2 rfl, hF.row 79 rfl]; exact t4
  · rw [hF.row 77 rfl, hF.row 80 rfl]; exact s3
  · rw [hF.at 0 13 rfl, hF.at 78 65 rfl]; exact s4
  · rw [hF.at 78 65 rfl]; exact s5
  · rw [hF.at 78 65 rfl]; exact s6
  · have hlt : w < S.c kd := by
      have := g1 kd a1
      rw [this] at a2
      omega
    refine ⟨S.nm (12 * kd + w), hnm kd w a1 hlt, k2 kd w a1 hlt, ?_⟩
    rw [show 36 + 12 * kd + w = 36 + (12 * kd + w) by omega]
    exact g2 kd w a1 hlt
  · rw [g7]; decide
  · rw [hF.at 78 64 rfl]; exact h7.2.1
  · rw [g7]; exact k7
  · rw [g7] at j2
    omega
  · rw [g8]; decide
  · rw [g8]; exact e64
  · rw [g8] at hk
    omega
theorem call_town {n : Nat} (hn : n ≤ 590) : CallOk n f_BT_town f_M_town := by
  intro M hR
  obtain ⟨h1, h2, h3, h4, h5, h6, h7, h8, h9, h10, h11⟩ := id hR
  obtain ⟨t1, t2, t3, t4⟩ := id h4
  have hB : Bt (M 79) (M 78 1) := ⟨t1, t2⟩
  obtain ⟨R, hRR⟩ : ∃ R, R = tnF (M 79) (M 78 1) 71 0 S0 0 (-1) := ⟨_, rfl⟩
  unfold f_BT_town
  refine wq_I (c_read hB t3 t4 h10.1) (fun r M1 ⟨z, f1⟩ => ?_)
  have f1 : Fr lTc M M1 := f1
  rw [← hRR] at z
  unfold f_BT_keepFault
  refine wq_V (P := fun M' => M' = up (up (up M1 0 11 (M1 1 5)) 0 12 (M1 1 6)) 1 1 0) (wq_d (wq_d (by
    rw [up_row (show ¬ (1 : Nat) = 0 by decide)]
    exact wq_d (wq_some rfl)))) (fun M2 e2 => ?_)
  have F2 : Fr [(0, 11), (0, 12), (1, 1)] M1 M2 := by rw [e2]; exact ((Fr.rf.up (by simp)).up (by simp)).up (by simp)
  have k11 : M2 0 11 = M1 1 5 := by rw [e2]; simp [up_at]
  have k12 : M2 0 12 = M1 1 6 := by rw [e2]; simp [up_at]
  have k1 : M2 1 1 = 0 := by rw [e2]; simp [up_at]
  clear e2
  rcases z with ⟨f, z1, z2, z3⟩ | ⟨S, k, z1, z2, z3, z4, z5, z6, z7, p, g, z8⟩
  · have z2 : r = -1 := z2
    have z3 : Fb (M 79) (M 78 1) f.1 f.2 M1 := z3
    rw [z2]
    refine wq_e (fun w => w rfl) ?_
    unfold f_BT_refused
    rw [e_cell_in (n := 6) M2 rfl (by decide) (by decide) (by decide), bI_s, e_set (n := 6) M2 rfl (by decide) (by decide) (by decide), bV_s, bI_s]
    obtain ⟨N, hN⟩ : ∃ N, N = up M2 77 (1 : Int).toNat (M2 77 (1 : Int).toNat + 1) := ⟨_, rfl⟩
    rw [← hN]
    have FN : Fr [(77, 1)] M2 N := by rw [hN]; exact Fr.rf.up (by simp)
    have n77 : ∀ q : Nat, N 77 q = if q = 1 then M2 77 1 + 1 else M2 77 q := by
      intro q
      rw [hN, up_at]
      by_cases c : q = 1
      · rw [if_pos ⟨rfl, c⟩, if_pos c]; rfl
      · rw [if_neg (fun z => c z.2), if_neg c]
    clear hN
    refine wq_some ?_
    have hlow : ∀ i, 78 ≤ i → N i = M i := fun i hi => by rw [FN.low rfl i hi, F2.low rfl i hi, f1.low rfl i hi]
    show wq (f_M_town N) _
    have hmt := m_town (N := N) hB (by rw [hlow 78 (by decide)]) (hlow 79 (by decide)) (fun S n hh => by rw [← hRR, z1] at hh; cases hh)
    rw [← hRR] at hmt
    refine wq_m hmt (fun q ⟨a1, a2⟩ => ?_)
    rcases a2 with ⟨f', b1, b2, b3, b4, b5, b6, b7⟩ | ⟨S', n', b1, -⟩
    · rw [z1] at b1
      injection b1 with b1
      subst b1
      have b7 : Fr lTo N q.2 := b7
      have hFa : Fr lFa M q.2 := (f1.cov rfl : Fr lFa _ _).tr ((F2.cov rfl : Fr lFa _ _).tr ((FN.cov rfl : Fr lFa _ _).tr (b7.cov rfl)))
      have htt : Rt M q.2 := by
        have e98 := hlow 98 (by decide)
        have e99 := hlow 99 (by decide)
        have e100 := hlow 100 (by decide)
        have e101 := hlow 101 (by decide)
        have e102 := hlow 102 (by decide)
        have e104 := hlow 104 (by decide)
        have e105 := hlow 105 (by decide)
        unfold Rt at b6 ⊢
        rw [e98, e99, e100, e101, e102, e104, e105] at b6
        exact b6
      refine ⟨b2.symm, rel_town_f hR hFa htt a1 ?_ ?_ ?_ ?_⟩
      · rw [b7.row 1 rfl, FN.row 1 rfl]; exact k1
      · rw [b3, b7.row 0 rfl, FN.row 0 rfl, k11]; exact z3.2.2.1
      · rw [b4, b7.row 0 rfl, FN.row 0 rfl, k12]; exact z3.2.2.2.1
      · funext y
        rw [b7.row 77 rfl, b5 y, n77 y, hlow 80 (by decide), F2.row 77 rfl, f1.row 77 rfl, h5.2.2.1]
    · rw [z1] at b1
      cases b1
  · have z2 : r = (k : Int) := z2
    have z3 : k ≤ 70 := z3
    have z4 : Dn S M1 := z4
    have z5 : Dr S M1 := z5
    have z8 : Yt (M 79) (M 78 1) p g S.C M1 := z8
    rw [z2, i32_id (x := (k : Int)) (by omega) (by omega), i32_id (x := (-1)) (by decide) (by decide)]
    refine wq_t (by omega) (s_stands (z4.eq (F2.row 21 rfl) (F2.row 22 rfl)) (z5.sc F2 rfl) z6 (by rw [F2.row 33 rfl]; exact z8.2.1) (fun q hq => by rw [F2.row 34 rfl]; exact z8.2.2.1 q hq) z7 (fun N n1 n2 n3 n4 => wq_some ?_))
    have hlow : ∀ i, 78 ≤ i → N i = M i := fun i hi => by rw [n4.low rfl i hi, F2.low rfl i hi, f1.low rfl i hi]
    show wq (f_M_town N) _
    have hmt := m_town (N := N) hB (by rw [hlow 78 (by decide)]) (hlow 79 (by decide)) (fun S' n' hh => by
      rw [← hRR, z1] at hh
      injection hh with hh
      injection hh with hh _
      rw [← hh]
      exact z7)
    rw [← hRR] at hmt
    refine wq_m hmt (fun q ⟨a1, a2⟩ => ?_)
    rcases a2 with ⟨f', b1, -⟩ | ⟨S', n', b1, b2, b3, b4, b5, b6, b7⟩
    · rw [z1] at b1
      cases b1
    · rw [z1] at b1
      injection b1 with b1
      injection b1 with b8 b9
      subst b8 b9
      have b7 : Fr lTs N q.2 := b7
      refine ⟨b3.symm, rel_town_s hn hR ?_ ?_ b6 z6 z7 ?_ ?_ a1 ?_ ?_ ?_⟩
      · exact (f1.cov rfl : Fr lSa _ _).tr ((F2.cov rfl : Fr lSa _ _).tr ((n4.cov rfl : Fr lSa _ _).tr (b7.cov rfl)))
      · unfold Cd at n1 ⊢
        rw [b7.row 4 rfl, b7.row 5 rfl, b7.row 6 rfl, b7.row 7 rfl, b7.row 8 rfl, b7.row 9 rfl, b7.row 11 rfl, b7.row 12 rfl, b7.row 13 rfl, b7.row 14 rfl, b7.row 15 rfl, b7.row 17 rfl, b7.row 39 rfl, b7.row 40 rfl, b7.row 41 rfl, b7.row 42 rfl, b7.row 43 rfl]
        exact n1
      · rw [b7.row 46 rfl, n2, F2.row 46 rfl, f1.row 46 rfl]
      · rw [b7.row 64 rfl]; exact n3
      · rw [b7.row 1 rfl, n4.row 1 rfl]; exact k1
      · rw [b4, b7.row 0 rfl, n4.row 0 rfl, k11]; exact z8.1.2.2.2.2.1
      · rw [b5, b7.row 0 rfl, n4.row 0 rfl, k12]; exact z8.1.2.2.2.2.2.2.2
