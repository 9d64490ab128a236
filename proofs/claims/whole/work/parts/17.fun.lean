abbrev E_Ways_search (d : Nat) : Ev := (Ct (d + 5), "BreathTown$Ways", prog_11_method_8_code, 13, False, 0, (fun _ => 0), (Option.none : Option Jvm.ClassFile.FieldType))
def f_Ways_search_B64 (kH : Int → Int → Int → Int → Int → Int → Int → Mm → Option (Mm)) (kx201 : Int → Int → Int → Int → Int → Mm → Option (Mm)) (v1 v3 v4 v5 v6 v7 v8 : Int) (M : Mm) : Option (Mm) :=
  bI (f_Told_count 3 1 M) (fun r8 M7 =>
  if i32 r8 ≤ i32 v8 then
    kx201 v1 v3 v4 v5 v6 M7
  else
    bI (f_Told_beyond 3 v8 v7 M7) (fun r10 M9 =>
    if i32 r10 = i32 ((-1)) then
      kH v1 v3 v4 v5 v6 v7 (v8 + 1) M9
    else
      if i32 v8 = i32 v4 then
        kH v1 v3 v4 v5 v6 v7 (v8 + 1) M9
      else
        if ¬ i32 (and32 (shr32 v5 r10) 1) = i32 1 then
          bI (f_BT_cell 8 v8 M9) (fun r12 M11 =>
          bI (f_BT_cell 49 r10 M11) (fun r14 M13 =>
          bI (f_Math_min (v3 + 400) (r14 - 1) M13) (fun r16 M15 =>
          bI (f_BT_cell 49 v7 M15) (fun r18 M17 =>
          bI (f_Ways_firstPass v8 v1 r18 (r16 - r12) M17) (fun r20 M19 =>
          if i32 r20 = i32 ((-1)) then
            kH v1 v3 v4 v5 v6 v7 (v8 + 1) M19
          else
            bV (f_BT_setCell 49 r10 (r20 + r12) M19) (fun M21 =>
            kH v1 v3 v4 v5 v6 v7 (v8 + 1) M21))))))
        else
          kH v1 v3 v4 v5 v6 v7 (v8 + 1) M9))
set_option maxRecDepth 20000 in
set_option maxHeartbeats 4000000 in
theorem w_Ways_search_B64 (d : Nat) (kH : Int → Int → Int → Int → Int → Int → Int → Mm → Option (Mm)) (kx201 : Int → Int → Int → Int → Int → Mm → Option (Mm)) (hkH : ∀ (v1 v3 v4 v5 v6 v7 v8 : Int) (M : Mm), T (E_Ways_search d) injV 64 [(0, .ref 48), (1, vI v1), (3, vI v3), (4, vI v4), (5, vI v5), (6, vI v6), (7, vI v7), (8, vI v8)] [] M (kH v1 v3 v4 v5 v6 v7 v8 M)) (hkx201 : ∀ (v1 v3 v4 v5 v6 : Int) (M : Mm), T (E_Ways_search d) injV 201 [(0, .ref 48), (1, vI v1), (3, vI v3), (4, vI v4), (5, vI v5), (6, vI v6)] [] M (kx201 v1 v3 v4 v5 v6 M)) (v1 v3 v4 v5 v6 v7 v8 : Int) (M : Mm) : T (E_Ways_search d) injV 64 [(0, .ref 48), (1, vI v1), (3, vI v3), (4, vI v4), (5, vI v5), (6, vI v6), (7, vI v7), (8, vI v8)] [] M (f_Ways_search_B64 kH kx201 v1 v3 v4 v5 v6 v7 v8 M) := by
  unfold f_Ways_search_B64
  refine tq_iload 7 (E := E_Ways_search d) (pc := 64) (cks_at k_Ways_search 35 rfl rfl) rfl ?_
  refine tq_aload_n 0 (E := E_Ways_search d) (pc := 66) (cks_at k_Ways_search 36 rfl rfl) rfl ?_
  refine tq_getR (j := 3) (E := E_Ways_search d) (pc := 67) (cks_at k_Ways_search 37 rfl rfl) fo_Ways_30 so_48 rfl sp_48_0 ?_
  refine tq_iconst (E := E_Ways_search d) (pc := 70) (cks_at k_Ways_search 38 rfl rfl) ?_
  refine tq_V1 (E := E_Ways_search d) (pc := 71) (cks_at k_Ways_search 39 rfl rfl) mk_Told_count lk_Ways_85 (isTold_rc (Or.inl rfl)) (Nat.le_of_ble_eq_true rfl) (c_Told_count (d + 3) 3 (Or.inl rfl) 1 M) (k_I fun r8 M7 => ?_)
  refine tq_icmp_ge (E := E_Ways_search d) (pc := 74) (tgt := 201) (cks_at k_Ways_search 40 rfl rfl) (by decide) ?_ ?_
  · exact tq_sub [0, 1, 2, 3, 4, 5] rfl (hkx201 v1 v3 v4 v5 v6 M7)
  · refine tq_aload_n 0 (E := E_Ways_search d) (pc := 77) (cks_at k_Ways_search 41 rfl rfl) rfl ?_
    refine tq_getR (j := 3) (E := E_Ways_search d) (pc := 78) (cks_at k_Ways_search 42 rfl rfl) fo_Ways_30 so_48 rfl sp_48_0 ?_
    refine tq_iload 7 (E := E_Ways_search d) (pc := 81) (cks_at k_Ways_search 43 rfl rfl) rfl ?_
    refine tq_iload 6 (E := E_Ways_search d) (pc := 83) (cks_at k_Ways_search 44 rfl rfl) rfl ?_
    refine tq_V2 (E := E_Ways_search d) (pc := 85) (cks_at k_Ways_search 45 rfl rfl) mk_Told_beyond lk_Ways_92 (isTold_rc (Or.inl rfl)) (Nat.le_of_ble_eq_true rfl) (c_Told_beyond (d + 3) 3 (Or.inl rfl) v8 v7 M7) (k_I fun r10 M9 => ?_)
    refine tq_istore (E := E_Ways_search d) (pc := 88) (cks_at k_Ways_search 46 rfl rfl) (show 9 < 13 by decide) rfl ?_
    refine tq_iload 0 (E := E_Ways_search d) (pc := 90) (cks_at k_Ways_search 47 rfl rfl) rfl ?_
    refine tq_iconst (E := E_Ways_search d) (pc := 92) (cks_at k_Ways_search 48 rfl rfl) ?_
    refine tq_icmp_eq (E := E_Ways_search d) (pc := 93) (tgt := 195) (cks_at k_Ways_search 49 rfl rfl) (by decide) ?_ ?_
    · refine tq_iinc 8 (E := E_Ways_search d) (pc := 195) (cks_at k_Ways_search 100 rfl rfl) rfl (show 8 < 13 by decide) rfl ?_
      refine tq_goto (tgt := 64) (E := E_Ways_search d) (pc := 198) (cks_at k_Ways_search 101 rfl rfl) (by decide) ?_
      exact tq_sub [2, 3, 4, 5, 6, 7, 8, 0] rfl (hkH v1 v3 v4 v5 v6 v7 (v8 + 1) M9)
    · refine tq_iload 8 (E := E_Ways_search d) (pc := 96) (cks_at k_Ways_search 50 rfl rfl) rfl ?_
      refine tq_iload 4 (E := E_Ways_search d) (pc := 98) (cks_at k_Ways_search 51 rfl rfl) rfl ?_
      refine tq_icmp_eq (E := E_Ways_search d) (pc := 100) (tgt := 195) (cks_at k_Ways_search 52 rfl rfl) (by decide) ?_ ?_
      · refine tq_iinc 8 (E := E_Ways_search d) (pc := 195) (cks_at k_Ways_search 100 rfl rfl) rfl (show 8 < 13 by decide) rfl ?_
        refine tq_goto (tgt := 64) (E := E_Ways_search d) (pc := 198) (cks_at k_Ways_search 101 rfl rfl) (by decide) ?_
        exact tq_sub [2, 3, 4, 5, 6, 7, 8, 0] rfl (hkH v1 v3 v4 v5 v6 v7 (v8 + 1) M9)
      · refine tq_iload 5 (E := E_Ways_search d) (pc := 103) (cks_at k_Ways_search 53 rfl rfl) rfl ?_
        refine tq_iload 0 (E := E_Ways_search d) (pc := 105) (cks_at k_Ways_search 54 rfl rfl) rfl ?_
        refine tq_ishr (E := E_Ways_search d) (pc := 107) (cks_at k_Ways_search 55 rfl rfl) ?_
        refine tq_iconst (E := E_Ways_search d) (pc := 108) (cks_at k_Ways_search 56 rfl rfl) ?_
        refine tq_iand (E := E_Ways_search d) (pc := 109) (cks_at k_Ways_search 57 rfl rfl) ?_
        refine tq_iconst (E := E_Ways_search d) (pc := 110) (cks_at k_Ways_search 58 rfl rfl) ?_
        refine tq_icmp_ne (E := E_Ways_search d) (pc := 111) (tgt := 117) (cks_at k_Ways_search 59 rfl rfl) (by decide) ?_ ?_
        · refine tq_aload_n 1 (E := E_Ways_search d) (pc := 117) (cks_at k_Ways_search 61 rfl rfl) rfl ?_
          refine tq_getR (j := 3) (E := E_Ways_search d) (pc := 118) (cks_at k_Ways_search 62 rfl rfl) fo_Ways_30 so_48 rfl sp_48_0 ?_
          refine tq_getR (j := 8) (E := E_Ways_search d) (pc := 121) (cks_at k_Ways_search 63 rfl rfl) fo_Ways_42 so_3 rfl sp_3_4 ?_
          refine tq_iload 8 (E := E_Ways_search d) (pc := 124) (cks_at k_Ways_search 64 rfl rfl) rfl ?_
          refine tq_S2 (E := E_Ways_search d) (pc := 126) (cks_at k_Ways_search 65 rfl rfl) mk_BT_cell lk_Ways_47 (Nat.le_of_ble_eq_true rfl) (c_BT_cell (d + 4) 8 sa_8 v8 M9) (k_I fun r12 M11 => ?_)
          refine tq_istore (E := E_Ways_search d) (pc := 129) (cks_at k_Ways_search 66 rfl rfl) (show 10 < 13 by decide) rfl ?_
          refine tq_iload_n 4 (E := E_Ways_search d) (pc := 131) (cks_at k_Ways_search 67 rfl rfl) rfl ?_
          refine tq_sipush (E := E_Ways_search d) (pc := 132) (cks_at k_Ways_search 68 rfl rfl) (by decide) (by decide) ?_
          refine tq_iadd (E := E_Ways_search d) (pc := 135) (cks_at k_Ways_search 69 rfl rfl) ?_
          refine tq_aload_n 2 (E := E_Ways_search d) (pc := 136) (cks_at k_Ways_search 70 rfl rfl) rfl ?_
          refine tq_getR (j := 49) (E := E_Ways_search d) (pc := 137) (cks_at k_Ways_search 71 rfl rfl) fo_Ways_9 so_48 rfl sp_48_3 ?_
          refine tq_iload 1 (E := E_Ways_search d) (pc := 140) (cks_at k_Ways_search 72 rfl rfl) rfl ?_
          refine tq_S2 (E := E_Ways_search d) (pc := 142) (cks_at k_Ways_search 73 rfl rfl) mk_BT_cell lk_Ways_47 (Nat.le_of_ble_eq_true rfl) (c_BT_cell (d + 4) 49 sa_49 r10 M11) (k_I fun r14 M13 => ?_)
          refine tq_iconst (E := E_Ways_search d) (pc := 145) (cks_at k_Ways_search 74 rfl rfl) ?_
          refine tq_isub (E := E_Ways_search d) (pc := 146) (cks_at k_Ways_search 75 rfl rfl) ?_
          refine tq_S2 (E := E_Ways_search d) (pc := 147) (cks_at k_Ways_search 76 rfl rfl) mk_Math_min lk_Ways_95 (Nat.le_of_ble_eq_true rfl) (c_Math_min (d + 4) (v3 + 400) (r14 - 1) M13) (k_I fun r16 M15 => ?_)
          refine tq_istore (E := E_Ways_search d) (pc := 150) (cks_at k_Ways_search 77 rfl rfl) (show 11 < 13 by decide) rfl ?_
          refine tq_aload_n 3 (E := E_Ways_search d) (pc := 152) (cks_at k_Ways_search 78 rfl rfl) rfl ?_
          refine tq_iload 10 (E := E_Ways_search d) (pc := 153) (cks_at k_Ways_search 79 rfl rfl) rfl ?_
          refine tq_iload_n 4 (E := E_Ways_search d) (pc := 155) (cks_at k_Ways_search 80 rfl rfl) rfl ?_
          refine tq_aload_n 3 (E := E_Ways_search d) (pc := 156) (cks_at k_Ways_search 81 rfl rfl) rfl ?_
          refine tq_getR (j := 49) (E := E_Ways_search d) (pc := 157) (cks_at k_Ways_search 82 rfl rfl) fo_Ways_9 so_48 rfl sp_48_3 ?_
          refine tq_iload 9 (E := E_Ways_search d) (pc := 160) (cks_at k_Ways_search 83 rfl rfl) rfl ?_
          refine tq_S2 (E := E_Ways_search d) (pc := 162) (cks_at k_Ways_search 84 rfl rfl) mk_BT_cell lk_Ways_47 (Nat.le_of_ble_eq_true rfl) (c_BT_cell (d + 4) 49 sa_49 v7 M15) (k_I fun r18 M17 => ?_)
          refine tq_iload 0 (E := E_Ways_search d) (pc := 165) (cks_at k_Ways_search 85 rfl rfl) rfl ?_
          refine tq_iload 1 (E := E_Ways_search d) (pc := 167) (cks_at k_Ways_search 86 rfl rfl) rfl ?_
          refine tq_isub (E := E_Ways_search d) (pc := 169) (cks_at k_Ways_search 87 rfl rfl) ?_
          refine tq_V4 (E := E_Ways_search d) (pc := 170) (cks_at k_Ways_search 88 rfl rfl) mk_Ways_firstPass lk_Ways_100 rc_48 (Nat.le_of_ble_eq_true rfl) (c_Ways_firstPass (d + 0) v8 v1 r18 (r16 - r12) M17) (k_I fun r20 M19 => ?_)
          refine tq_istore (E := E_Ways_search d) (pc := 173) (cks_at k_Ways_search 89 rfl rfl) (show 12 < 13 by decide) rfl ?_
          refine tq_iload 0 (E := E_Ways_search d) (pc := 175) (cks_at k_Ways_search 90 rfl rfl) rfl ?_
          refine tq_iconst (E := E_Ways_search d) (pc := 177) (cks_at k_Ways_search 91 rfl rfl) ?_
          refine tq_icmp_eq (E := E_Ways_search d) (pc := 178) (tgt := 195) (cks_at k_Ways_search 92 rfl rfl) (by decide) ?_ ?_
          · refine tq_iinc 11 (E := E_Ways_search d) (pc := 195) (cks_at k_Ways_search 100 rfl rfl) rfl (show 8 < 13 by decide) rfl ?_
            refine tq_goto (tgt := 64) (E := E_Ways_search d) (pc := 198) (cks_at k_Ways_search 101 rfl rfl) (by decide) ?_
            exact tq_sub [5, 6, 7, 8, 9, 10, 11, 0] rfl (hkH v1 v3 v4 v5 v6 v7 (v8 + 1) M19)
          · refine tq_aload_n 4 (E := E_Ways_search d) (pc := 181) (cks_at k_Ways_search 93 rfl rfl) rfl ?_
            refine tq_getR (j := 49) (E := E_Ways_search d) (pc := 182) (cks_at k_Ways_search 94 rfl rfl) fo_Ways_9 so_48 rfl sp_48_3 ?_
            refine tq_iload 3 (E := E_Ways_search d) (pc := 185) (cks_at k_Ways_search 95 rfl rfl) rfl ?_
            refine tq_iload 0 (E := E_Ways_search d) (pc := 187) (cks_at k_Ways_search 96 rfl rfl) rfl ?_
            refine tq_iload 2 (E := E_Ways_search d) (pc := 189) (cks_at k_Ways_search 97 rfl rfl) rfl ?_
            refine tq_iadd (E := E_Ways_search d) (pc := 191) (cks_at k_Ways_search 98 rfl rfl) ?_
            refine tq_S3 (E := E_Ways_search d) (pc := 192) (cks_at k_Ways_search 99 rfl rfl) mk_BT_setCell lk_Ways_76 (Nat.le_of_ble_eq_true rfl) (c_BT_setCell (d + 4) 49 sa_49 r10 (r20 + r12) M19) (k_V fun M21 => ?_)
            refine tq_iinc 11 (E := E_Ways_search d) (pc := 195) (cks_at k_Ways_search 100 rfl rfl) rfl (show 8 < 13 by decide) rfl ?_
            refine tq_goto (tgt := 64) (E := E_Ways_search d) (pc := 198) (cks_at k_Ways_search 101 rfl rfl) (by decide) ?_
            exact tq_sub [5, 6, 7, 8, 9, 10, 11, 0] rfl (hkH v1 v3 v4 v5 v6 v7 (v8 + 1) M21)
        · refine tq_goto (tgt := 195) (E := E_Ways_search d) (pc := 114) (cks_at k_Ways_search 60 rfl rfl) (by decide) ?_
          refine tq_iinc 8 (E := E_Ways_search d) (pc := 195) (cks_at k_Ways_search 100 rfl rfl) rfl (show 8 < 13 by decide) rfl ?_
          refine tq_goto (tgt := 64) (E := E_Ways_search d) (pc := 198) (cks_at k_Ways_search 101 rfl rfl) (by decide) ?_
          exact tq_sub [2, 3, 4, 5, 6, 7, 8, 0] rfl (hkH v1 v3 v4 v5 v6 v7 (v8 + 1) M9)
def f_Ways_search_L64 (kx201 : Int → Int → Int → Int → Int → Mm → Option (Mm)) : Nat → Int × Int × Int × Int × Int × Int × Int × Mm → Option (Mm) := lp fun kH s => f_Ways_search_B64 (fun v1 v3 v4 v5 v6 v7 v8 M => kH (v1, v3, v4, v5, v6, v7, v8, M)) kx201 s.1 s.2.1 s.2.2.1 s.2.2.2.1 s.2.2.2.2.1 s.2.2.2.2.2.1 s.2.2.2.2.2.2.1 s.2.2.2.2.2.2.2
set_option maxRecDepth 20000 in
set_option maxHeartbeats 4000000 in
theorem w_Ways_search_L64 (d : Nat) (kx201 : Int → Int → Int → Int → Int → Mm → Option (Mm)) (hkx201 : ∀ (v1 v3 v4 v5 v6 : Int) (M : Mm), T (E_Ways_search d) injV 201 [(0, .ref 48), (1, vI v1), (3, vI v3), (4, vI v4), (5, vI v5), (6, vI v6)] [] M (kx201 v1 v3 v4 v5 v6 M)) (n : Nat) (s : Int × Int × Int × Int × Int × Int × Int × Mm) : T (E_Ways_search d) injV 64 [(0, .ref 48), (1, vI s.1), (3, vI s.2.1), (4, vI s.2.2.1), (5, vI s.2.2.2.1), (6, vI s.2.2.2.2.1), (7, vI s.2.2.2.2.2.1), (8, vI s.2.2.2.2.2.2.1)] [] s.2.2.2.2.2.2.2 (f_Ways_search_L64 kx201 n s) :=
  tq_lp (fun s => [(0, .ref 48), (1, vI s.1), (3, vI s.2.1), (4, vI s.2.2.1), (5, vI s.2.2.2.1), (6, vI s.2.2.2.2.1), (7, vI s.2.2.2.2.2.1), (8, vI s.2.2.2.2.2.2.1)]) (fun s => s.2.2.2.2.2.2.2) (fun kH hH s => w_Ways_search_B64 d (fun v1 v3 v4 v5 v6 v7 v8 M => kH (v1, v3, v4, v5, v6, v7, v8, M)) kx201 (fun v1 v3 v4 v5 v6 v7 v8 M => hH (v1, v3, v4, v5, v6, v7, v8, M)) hkx201 s.1 s.2.1 s.2.2.1 s.2.2.2.1 s.2.2.2.2.1 s.2.2.2.2.2.1 s.2.2.2.2.2.2.1 s.2.2.2.2.2.2.2) n s
def f_Ways_search_B24 (kH : Int → Int → Int → Int → Int → Mm → Option (Mm)) (v1 v3 v4 v5 v6 : Int) (M : Mm) : Option (Mm) :=
  bI (f_Told_count 3 0 M) (fun r4 M3 =>
  if i32 r4 ≤ i32 v6 then
    some M3
  else
    bI (f_Ways_soonestBut v5 M3) (fun r6 M5 =>
    if ¬ i32 r6 = i32 ((-1)) then
      f_Ways_search_L64 (fun v1 v3 v4 v5 v6 M22 => kH v1 v3 v4 v5 (v6 + 1) M22) FU (v1, v3, v4, (or32 v5 (shl32 1 r6)), v6, r6, 0, M5)
    else
      some M5))
set_option maxRecDepth 20000 in
set_option maxHeartbeats 4000000 in
theorem w_Ways_search_B24 (d : Nat) (kH : Int → Int → Int → Int → Int → Mm → Option (Mm)) (hkH : ∀ (v1 v3 v4 v5 v6 : Int) (M : Mm), T (E_Ways_search d) injV 24 [(0, .ref 48), (1, vI v1), (3, vI v3), (4, vI v4), (5, vI v5), (6, vI v6)] [] M (kH v1 v3 v4 v5 v6 M)) (v1 v3 v4 v5 v6 : Int) (M : Mm) : T (E_Ways_search d) injV 24 [(0, .ref 48), (1, vI v1), (3, vI v3), (4, vI v4), (5, vI v5), (6, vI v6)] [] M (f_Ways_search_B24 kH v1 v3 v4 v5 v6 M) := by
  unfold f_Ways_search_B24
  refine tq_iload 5 (E := E_Ways_search d) (pc := 24) (cks_at k_Ways_search 13 rfl rfl) rfl ?_
  refine tq_aload_n 0 (E := E_Ways_search d) (pc := 26) (cks_at k_Ways_search 14 rfl rfl) rfl ?_
  refine tq_getR (j := 3) (E := E_Ways_search d) (pc := 27) (cks_at k_Ways_search 15 rfl rfl) fo_Ways_30 so_48 rfl sp_48_0 ?_
  refine tq_iconst (E := E_Ways_search d) (pc := 30) (cks_at k_Ways_search 16 rfl rfl) ?_
  refine tq_V1 (E := E_Ways_search d) (pc := 31) (cks_at k_Ways_search 17 rfl rfl) mk_Told_count lk_Ways_85 (isTold_rc (Or.inl rfl)) (Nat.le_of_ble_eq_true rfl) (c_Told_count (d + 3) 3 (Or.inl rfl) 0 M) (k_I fun r4 M3 => ?_)
  refine tq_icmp_ge (E := E_Ways_search d) (pc := 34) (tgt := 207) (cks_at k_Ways_search 18 rfl rfl) (by decide) ?_ ?_
  · exact tq_vret (E := E_Ways_search d) (pc := 207) (cks_at k_Ways_search 104 rfl rfl) rfl
  · refine tq_aload_n 0 (E := E_Ways_search d) (pc := 37) (cks_at k_Ways_search 19 rfl rfl) rfl ?_
    refine tq_iload 4 (E := E_Ways_search d) (pc := 38) (cks_at k_Ways_search 20 rfl rfl) rfl ?_
    refine tq_V1 (E := E_Ways_search d) (pc := 40) (cks_at k_Ways_search 21 rfl rfl) mk_Ways_soonestBut lk_Ways_89 rc_48 (Nat.le_of_ble_eq_true rfl) (c_Ways_soonestBut (d + 2) v5 M3) (k_I fun r6 M5 => ?_)
    refine tq_istore (E := E_Ways_search d) (pc := 43) (cks_at k_Ways_search 22 rfl rfl) (show 7 < 13 by decide) rfl ?_
    refine tq_iload 0 (E := E_Ways_search d) (pc := 45) (cks_at k_Ways_search 23 rfl rfl) rfl ?_
    refine tq_iconst (E := E_Ways_search d) (pc := 47) (cks_at k_Ways_search 24 rfl rfl) ?_
    refine tq_icmp_ne (E := E_Ways_search d) (pc := 48) (tgt := 52) (cks_at k_Ways_search 25 rfl rfl) (by decide) ?_ ?_
    · refine tq_iload 5 (E := E_Ways_search d) (pc := 52) (cks_at k_Ways_search 27 rfl rfl) rfl ?_
      refine tq_iconst (E := E_Ways_search d) (pc := 54) (cks_at k_Ways_search 28 rfl rfl) ?_
      refine tq_iload 0 (E := E_Ways_search d) (pc := 55) (cks_at k_Ways_search 29 rfl rfl) rfl ?_
      refine tq_ishl (E := E_Ways_search d) (pc := 57) (cks_at k_Ways_search 30 rfl rfl) ?_
      refine tq_ior (E := E_Ways_search d) (pc := 58) (cks_at k_Ways_search 31 rfl rfl) ?_
      refine tq_istore (E := E_Ways_search d) (pc := 59) (cks_at k_Ways_search 32 rfl rfl) (show 5 < 13 by decide) rfl ?_
      refine tq_iconst (E := E_Ways_search d) (pc := 61) (cks_at k_Ways_search 33 rfl rfl) ?_
      refine tq_istore (E := E_Ways_search d) (pc := 62) (cks_at k_Ways_search 34 rfl rfl) (show 8 < 13 by decide) rfl ?_
      exact tq_sub [3, 4, 5, 6, 1, 7, 2, 0] rfl (w_Ways_search_L64 d _ (fun v1 v3 v4 v5 v6 M22 => by
          refine tq_iinc 5 (E := E_Ways_search d) (pc := 201) (cks_at k_Ways_search 102 rfl rfl) rfl (show 6 < 13 by decide) rfl ?_
          refine tq_goto (tgt := 24) (E := E_Ways_search d) (pc := 204) (cks_at k_Ways_search 103 rfl rfl) (by decide) ?_
          exact tq_sub [1, 2, 3, 4, 5, 0] rfl (hkH v1 v3 v4 v5 (v6 + 1) M22)) FU (v1, v3, v4, (or32 v5 (shl32 1 r6)), v6, r6, 0, M5))
    · exact tq_vret (E := E_Ways_search d) (pc := 51) (cks_at k_Ways_search 26 rfl rfl) rfl
def f_Ways_search_L24 : Nat → Int × Int × Int × Int × Int × Mm → Option (Mm) := lp fun kH s => f_Ways_search_B24 (fun v1 v3 v4 v5 v6 M => kH (v1, v3, v4, v5, v6, M)) s.1 s.2.1 s.2.2.1 s.2.2.2.1 s.2.2.2.2.1 s.2.2.2.2.2
set_option maxRecDepth 20000 in
set_option maxHeartbeats 4000000 in
theorem w_Ways_search_L24 (d : Nat) (n : Nat) (s : Int × Int × Int × Int × Int × Mm) : T (E_Ways_search d) injV 24 [(0, .ref 48), (1, vI s.1), (3, vI s.2.1), (4, vI s.2.2.1), (5, vI s.2.2.2.1), (6, vI s.2.2.2.2.1)] [] s.2.2.2.2.2 (f_Ways_search_L24 n s) :=
  tq_lp (fun s => [(0, .ref 48), (1, vI s.1), (3, vI s.2.1), (4, vI s.2.2.1), (5, vI s.2.2.2.1), (6, vI s.2.2.2.2.1)]) (fun s => s.2.2.2.2.2) (fun kH hH s => w_Ways_search_B24 d (fun v1 v3 v4 v5 v6 M => kH (v1, v3, v4, v5, v6, M)) (fun v1 v3 v4 v5 v6 M => hH (v1, v3, v4, v5, v6, M)) s.1 s.2.1 s.2.2.1 s.2.2.2.1 s.2.2.2.2.1 s.2.2.2.2.2) n s
def f_Ways_search (v1 : Int) (v2 : Int) (v3 : Int) (v4 : Int) (M : Mm) : Option (Mm) :=
  bV (f_BT_fill 49 1000000 M) (fun M1 =>
  bV (f_BT_setCell 49 v2 v3 M1) (fun M2 =>
  f_Ways_search_L24 FU (v1, v3, v4, 0, 0, M2)))
set_option maxRecDepth 20000 in
set_option maxHeartbeats 4000000 in
theorem c_Ways_search (d : Nat) (v1 : Int) (v2 : Int) (v3 : Int) (v4 : Int) (M : Mm) (Q : Option Value → Mm → Prop) (h : sat injV (f_Ways_search v1 v2 v3 v4 M) Q) : Ct (d + 6) y_Ways_search [.ref 48, vI v1, vI v2, vI v3, vI v4] M Q := by
  refine ct_in (d := d + 5) mk_Ways_search (Nat.le_of_ble_eq_true rfl) (?_ : T (E_Ways_search d) injV 0 [(0, .ref 48), (1, vI v1), (2, vI v2), (3, vI v3), (4, vI v4)] [] M (f_Ways_search v1 v2 v3 v4 M)) h
  unfold f_Ways_search
  refine tq_aload_n 0 (E := E_Ways_search d) (pc := 0) (cks_at k_Ways_search 0 rfl rfl) rfl ?_
  refine tq_getR (j := 49) (E := E_Ways_search d) (pc := 1) (cks_at k_Ways_search 1 rfl rfl) fo_Ways_9 so_48 rfl sp_48_3 ?_
  refine tq_ldc (z := 1000000) (E := E_Ways_search d) (pc := 4) (cks_at k_Ways_search 2 rfl rfl) cst_Ways_80 ?_
  refine tq_S2 (E := E_Ways_search d) (pc := 6) (cks_at k_Ways_search 3 rfl rfl) mk_BT_fill lk_Ways_81 (Nat.le_of_ble_eq_true rfl) (c_BT_fill (d + 4) 49 sa_49 1000000 M) (k_V fun M1 => ?_)
  refine tq_aload_n 0 (E := E_Ways_search d) (pc := 9) (cks_at k_Ways_search 4 rfl rfl) rfl ?_
  refine tq_getR (j := 49) (E := E_Ways_search d) (pc := 10) (cks_at k_Ways_search 5 rfl rfl) fo_Ways_9 so_48 rfl sp_48_3 ?_
  refine tq_iload_n 2 (E := E_Ways_search d) (pc := 13) (cks_at k_Ways_search 6 rfl rfl) rfl ?_
  refine tq_iload_n 3 (E := E_Ways_search d) (pc := 14) (cks_at k_Ways_search 7 rfl rfl) rfl ?_
  refine tq_S3 (E := E_Ways_search d) (pc := 15) (cks_at k_Ways_search 8 rfl rfl) mk_BT_setCell lk_Ways_76 (Nat.le_of_ble_eq_true rfl) (c_BT_setCell (d + 4) 49 sa_49 v2 v3 M1) (k_V fun M2 => ?_)
  refine tq_iconst (E := E_Ways_search d) (pc := 18) (cks_at k_Ways_search 9 rfl rfl) ?_
  refine tq_istore (E := E_Ways_search d) (pc := 19) (cks_at k_Ways_search 10 rfl rfl) (show 5 < 13 by decide) rfl ?_
  refine tq_iconst (E := E_Ways_search d) (pc := 21) (cks_at k_Ways_search 11 rfl rfl) ?_
  refine tq_istore (E := E_Ways_search d) (pc := 22) (cks_at k_Ways_search 12 rfl rfl) (show 6 < 13 by decide) rfl ?_
  exact tq_sub [2, 3, 5, 6, 1, 0] rfl (w_Ways_search_L24 d FU (v1, v3, v4, 0, 0, M2))
abbrev E_Ways_searchFor (d : Nat) : Ev := (Ct (d + 6), "BreathTown$Ways", prog_11_method_10_code, 3, False, 0, (fun _ => 0), (Option.none : Option Jvm.ClassFile.FieldType))
def f_Ways_searchFor (v1 : Int) (v2 : Int) (M : Mm) : Option (Mm) :=
  bI (f_BT_cell 13 v1 M) (fun r2 M1 =>
  bI (f_BT_cell 41 v1 M1) (fun r4 M3 =>
  bI (f_Now_setOut v1 M3) (fun r6 M5 =>
  bV (f_Ways_search r2 r4 r6 v2 M5) (fun M7 =>
  some M7))))
set_option maxRecDepth 20000 in
set_option maxHeartbeats 4000000 in
theorem c_Ways_searchFor (d : Nat) (v1 : Int) (v2 : Int) (M : Mm) (Q : Option Value → Mm → Prop) (h : sat injV (f_Ways_searchFor v1 v2 M) Q) : Ct (d + 7) y_Ways_searchFor [.ref 48, vI v1, vI v2] M Q := by
  refine ct_in (d := d + 6) mk_Ways_searchFor (Nat.le_of_ble_eq_true rfl) (?_ : T (E_Ways_searchFor d) injV 0 [(0, .ref 48), (1, vI v1), (2, vI v2)] [] M (f_Ways_searchFor v1 v2 M)) h
  unfold f_Ways_searchFor
  refine tq_aload_n 0 (E := E_Ways_searchFor d) (pc := 0) (cks_at k_Ways_searchFor 0 rfl rfl) rfl ?_
  refine tq_aload_n 0 (E := E_Ways_searchFor d) (pc := 1) (cks_at k_Ways_searchFor 1 rfl rfl) rfl ?_
  refine tq_getR (j := 3) (E := E_Ways_searchFor d) (pc := 2) (cks_at k_Ways_searchFor 2 rfl rfl) fo_Ways_30 so_48 rfl sp_48_0 ?_
  refine tq_getR (j := 13) (E := E_Ways_searchFor d) (pc := 5) (cks_at k_Ways_searchFor 3 rfl rfl) fo_Ways_104 so_3 rfl sp_3_9 ?_
  refine tq_iload_n 1 (E := E_Ways_searchFor d) (pc := 8) (cks_at k_Ways_searchFor 4 rfl rfl) rfl ?_
  refine tq_S2 (E := E_Ways_searchFor d) (pc := 9) (cks_at k_Ways_searchFor 5 rfl rfl) mk_BT_cell lk_Ways_47 (Nat.le_of_ble_eq_true rfl) (c_BT_cell (d + 5) 13 sa_13 v1 M) (k_I fun r2 M1 => ?_)
  refine tq_aload_n 0 (E := E_Ways_searchFor d) (pc := 12) (cks_at k_Ways_searchFor 6 rfl rfl) rfl ?_
  refine tq_getR (j := 39) (E := E_Ways_searchFor d) (pc := 13) (cks_at k_Ways_searchFor 7 rfl rfl) fo_Ways_34 so_48 rfl sp_48_1 ?_
  refine tq_getR (j := 41) (E := E_Ways_searchFor d) (pc := 16) (cks_at k_Ways_searchFor 8 rfl rfl) fo_Ways_107 so_39 rfl sp_39_2 ?_
  refine tq_iload_n 1 (E := E_Ways_searchFor d) (pc := 19) (cks_at k_Ways_searchFor 9 rfl rfl) rfl ?_
  refine tq_S2 (E := E_Ways_searchFor d) (pc := 20) (cks_at k_Ways_searchFor 10 rfl rfl) mk_BT_cell lk_Ways_47 (Nat.le_of_ble_eq_true rfl) (c_BT_cell (d + 5) 41 sa_41 v1 M1) (k_I fun r4 M3 => ?_)
  refine tq_aload_n 0 (E := E_Ways_searchFor d) (pc := 23) (cks_at k_Ways_searchFor 11 rfl rfl) rfl ?_
  refine tq_getR (j := 39) (E := E_Ways_searchFor d) (pc := 24) (cks_at k_Ways_searchFor 12 rfl rfl) fo_Ways_34 so_48 rfl sp_48_1 ?_
  refine tq_iload_n 1 (E := E_Ways_searchFor d) (pc := 27) (cks_at k_Ways_searchFor 13 rfl rfl) rfl ?_
  refine tq_V1 (E := E_Ways_searchFor d) (pc := 28) (cks_at k_Ways_searchFor 14 rfl rfl) mk_Now_setOut lk_Ways_110 rc_39 (Nat.le_of_ble_eq_true rfl) (c_Now_setOut (d + 4) v1 M3) (k_I fun r6 M5 => ?_)
  refine tq_iload_n 2 (E := E_Ways_searchFor d) (pc := 31) (cks_at k_Ways_searchFor 15 rfl rfl) rfl ?_
  refine tq_V4 (E := E_Ways_searchFor d) (pc := 32) (cks_at k_Ways_searchFor 16 rfl rfl) mk_Ways_search lk_Ways_113 rc_48 (Nat.le_of_ble_eq_true rfl) (c_Ways_search (d + 0) r2 r4 r6 v2 M5) (k_V fun M7 => ?_)
  exact tq_vret (E := E_Ways_searchFor d) (pc := 35) (cks_at k_Ways_searchFor 17 rfl rfl) rfl
abbrev E_Ways_swap (d : Nat) : Ev := (Ct (d + 1), "BreathTown$Ways", prog_11_method_13_code, 4, False, 0, (fun _ => 0), (Option.none : Option Jvm.ClassFile.FieldType))
def f_Ways_swap (row0 : Nat) (v1 : Int) (v2 : Int) (M : Mm) : Option (Mm) :=
  bI (f_BT_cell row0 v1 M) (fun r2 M1 =>
  bI (f_BT_cell row0 v2 M1) (fun r4 M3 =>
  bV (f_BT_setCell row0 v1 r4 M3) (fun M5 =>
  bV (f_BT_setCell row0 v2 r2 M5) (fun M6 =>
  some M6))))
set_option maxRecDepth 20000 in
set_option maxHeartbeats 4000000 in
theorem c_Ways_swap (d : Nat) (row0 : Nat) (hrow0 : skind row0 = 20 ∧ row0 < NC) (v1 : Int) (v2 : Int) (M : Mm) (Q : Option Value → Mm → Prop) (h : sat injV (f_Ways_swap row0 v1 v2 M) Q) : Ct (d + 2) y_Ways_swap [.ref row0, vI v1, vI v2] M Q := by
  refine ct_in (d := d + 1) mk_Ways_swap (Nat.le_of_ble_eq_true rfl) (?_ : T (E_Ways_swap d) injV 0 [(0, .ref row0), (1, vI v1), (2, vI v2)] [] M (f_Ways_swap row0 v1 v2 M)) h
  unfold f_Ways_swap
  refine tq_aload_n 0 (E := E_Ways_swap d) (pc := 0) (cks_at k_Ways_swap 0 rfl rfl) rfl ?_
  refine tq_iload_n 1 (E := E_Ways_swap d) (pc := 1) (cks_at k_Ways_swap 1 rfl rfl) rfl ?_
  refine tq_S2 (E := E_Ways_swap d) (pc := 2) (cks_at k_Ways_swap 2 rfl rfl) mk_BT_cell lk_Ways_47 (Nat.le_of_ble_eq_true rfl) (c_BT_cell (d + 0) row0 hrow0 v1 M) (k_I fun r2 M1 => ?_)
  refine tq_istore_n (E := E_Ways_swap d) (pc := 5) (cks_at k_Ways_swap 3 rfl rfl) (show 3 < 4 by decide) rfl ?_
  refine tq_aload_n 1 (E := E_Ways_swap d) (pc := 6) (cks_at k_Ways_swap 4 rfl rfl) rfl ?_
  refine tq_iload_n 2 (E := E_Ways_swap d) (pc := 7) (cks_at k_Ways_swap 5 rfl rfl) rfl ?_
  refine tq_aload_n 1 (E := E_Ways_swap d) (pc := 8) (cks_at k_Ways_swap 6 rfl rfl) rfl ?_
  refine tq_iload_n 3 (E := E_Ways_swap d) (pc := 9) (cks_at k_Ways_swap 7 rfl rfl) rfl ?_
  refine tq_S2 (E := E_Ways_swap d) (pc := 10) (cks_at k_Ways_swap 8 rfl rfl) mk_BT_cell lk_Ways_47 (Nat.le_of_ble_eq_true rfl) (c_BT_cell (d + 0) row0 hrow0 v2 M1) (k_I fun r4 M3 => ?_)
  refine tq_S3 (E := E_Ways_swap d) (pc := 13) (cks_at k_Ways_swap 9 rfl rfl) mk_BT_setCell lk_Ways_76 (Nat.le_of_ble_eq_true rfl) (c_BT_setCell (d + 0) row0 hrow0 v1 r4 M3) (k_V fun M5 => ?_)
  refine tq_aload_n 1 (E := E_Ways_swap d) (pc := 16) (cks_at k_Ways_swap 10 rfl rfl) rfl ?_
  refine tq_iload_n 3 (E := E_Ways_swap d) (pc := 17) (cks_at k_Ways_swap 11 rfl rfl) rfl ?_
  refine tq_iload_n 0 (E := E_Ways_swap d) (pc := 18) (cks_at k_Ways_swap 12 rfl rfl) rfl ?_
  refine tq_S3 (E := E_Ways_swap d) (pc := 19) (cks_at k_Ways_swap 13 rfl rfl) mk_BT_setCell lk_Ways_76 (Nat.le_of_ble_eq_true rfl) (c_BT_setCell (d + 0) row0 hrow0 v2 r2 M5) (k_V fun M6 => ?_)
  exact tq_vret (E := E_Ways_swap d) (pc := 22) (cks_at k_Ways_swap 14 rfl rfl) rfl
abbrev E_Ways_turnSteps (d : Nat) : Ev := (Ct (d + 2), "BreathTown$Ways", prog_11_method_12_code, 2, False, 0, (fun _ => 0), (Option.none : Option Jvm.ClassFile.FieldType))
def f_Ways_turnSteps_B2 (kH : Int → Mm → Option (Mm)) (v1 : Int) (M : Mm) : Option (Mm) :=
  if i32 ((i32 (M 48 6)).tdiv (i32 2)) ≤ i32 v1 then
    some M
  else
    bV (f_Ways_swap 50 v1 (((M 48 6) - 1) - v1) M) (fun M1 =>
    bV (f_Ways_swap 51 v1 (((M1 48 6) - 1) - v1) M1) (fun M2 =>
    kH (v1 + 1) M2))
set_option maxRecDepth 20000 in
set_option maxHeartbeats 4000000 in
theorem w_Ways_turnSteps_B2 (d : Nat) (kH : Int → Mm → Option (Mm)) (hkH : ∀ (v1 : Int) (M : Mm), T (E_Ways_turnSteps d) injV 2 [(0, .ref 48), (1, vI v1)] [] M (kH v1 M)) (v1 : Int) (M : Mm) : T (E_Ways_turnSteps d) injV 2 [(0, .ref 48), (1, vI v1)] [] M (f_Ways_turnSteps_B2 kH v1 M) := by
  unfold f_Ways_turnSteps_B2
  refine tq_iload_n 1 (E := E_Ways_turnSteps d) (pc := 2) (cks_at k_Ways_turnSteps 2 rfl rfl) rfl ?_
  refine tq_aload_n 0 (E := E_Ways_turnSteps d) (pc := 3) (cks_at k_Ways_turnSteps 3 rfl rfl) rfl ?_
  refine tq_getI (E := E_Ways_turnSteps d) (pc := 4) (cks_at k_Ways_turnSteps 4 rfl rfl) fo_Ways_73 so_48 rfl (by decide) ?_
  refine tq_iconst (E := E_Ways_turnSteps d) (pc := 7) (cks_at k_Ways_turnSteps 5 rfl rfl) ?_
  refine tq_idivC (E := E_Ways_turnSteps d) (pc := 8) (cks_at k_Ways_turnSteps 6 rfl rfl) (by decide) ?_
  refine tq_icmp_ge (E := E_Ways_turnSteps d) (pc := 9) (tgt := 50) (cks_at k_Ways_turnSteps 7 rfl rfl) (by decide) ?_ ?_
  · exact tq_vret (E := E_Ways_turnSteps d) (pc := 50) (cks_at k_Ways_turnSteps 30 rfl rfl) rfl
  · refine tq_aload_n 0 (E := E_Ways_turnSteps d) (pc := 12) (cks_at k_Ways_turnSteps 8 rfl rfl) rfl ?_
    refine tq_getR (j := 50) (E := E_Ways_turnSteps d) (pc := 13) (cks_at k_Ways_turnSteps 9 rfl rfl) fo_Ways_15 so_48 rfl sp_48_4 ?_
    refine tq_iload_n 1 (E := E_Ways_turnSteps d) (pc := 16) (cks_at k_Ways_turnSteps 10 rfl rfl) rfl ?_
    refine tq_aload_n 0 (E := E_Ways_turnSteps d) (pc := 17) (cks_at k_Ways_turnSteps 11 rfl rfl) rfl ?_
    refine tq_getI (E := E_Ways_turnSteps d) (pc := 18) (cks_at k_Ways_turnSteps 12 rfl rfl) fo_Ways_73 so_48 rfl (by decide) ?_
    refine tq_iconst (E := E_Ways_turnSteps d) (pc := 21) (cks_at k_Ways_turnSteps 13 rfl rfl) ?_
    refine tq_isub (E := E_Ways_turnSteps d) (pc := 22) (cks_at k_Ways_turnSteps 14 rfl rfl) ?_
    refine tq_iload_n 1 (E := E_Ways_turnSteps d) (pc := 23) (cks_at k_Ways_turnSteps 15 rfl rfl) rfl ?_
    refine tq_isub (E := E_Ways_turnSteps d) (pc := 24) (cks_at k_Ways_turnSteps 16 rfl rfl) ?_
    refine tq_S3 (E := E_Ways_turnSteps d) (pc := 25) (cks_at k_Ways_turnSteps 17 rfl rfl) mk_Ways_swap lk_Ways_120 (Nat.le_of_ble_eq_true rfl) (c_Ways_swap (d + 0) 50 sa_50 v1 (((M 48 6) - 1) - v1) M) (k_V fun M1 => ?_)
    refine tq_aload_n 0 (E := E_Ways_turnSteps d) (pc := 28) (cks_at k_Ways_turnSteps 18 rfl rfl) rfl ?_
    refine tq_getR (j := 51) (E := E_Ways_turnSteps d) (pc := 29) (cks_at k_Ways_turnSteps 19 rfl rfl) fo_Ways_18 so_48 rfl sp_48_5 ?_
    refine tq_iload_n 1 (E := E_Ways_turnSteps d) (pc := 32) (cks_at k_Ways_turnSteps 20 rfl rfl) rfl ?_
    refine tq_aload_n 0 (E := E_Ways_turnSteps d) (pc := 33) (cks_at k_Ways_turnSteps 21 rfl rfl) rfl ?_
    refine tq_getI (E := E_Ways_turnSteps d) (pc := 34) (cks_at k_Ways_turnSteps 22 rfl rfl) fo_Ways_73 so_48 rfl (by decide) ?_
    refine tq_iconst (E := E_Ways_turnSteps d) (pc := 37) (cks_at k_Ways_turnSteps 23 rfl rfl) ?_
    refine tq_isub (E := E_Ways_turnSteps d) (pc := 38) (cks_at k_Ways_turnSteps 24 rfl rfl) ?_
    refine tq_iload_n 1 (E := E_Ways_turnSteps d) (pc := 39) (cks_at k_Ways_turnSteps 25 rfl rfl) rfl ?_
    refine tq_isub (E := E_Ways_turnSteps d) (pc := 40) (cks_at k_Ways_turnSteps 26 rfl rfl) ?_
    refine tq_S3 (E := E_Ways_turnSteps d) (pc := 41) (cks_at k_Ways_turnSteps 27 rfl rfl) mk_Ways_swap lk_Ways_120 (Nat.le_of_ble_eq_true rfl) (c_Ways_swap (d + 0) 51 sa_51 v1 (((M1 48 6) - 1) - v1) M1) (k_V fun M2 => ?_)
    refine tq_iinc 1 (E := E_Ways_turnSteps d) (pc := 44) (cks_at k_Ways_turnSteps 28 rfl rfl) rfl (show 1 < 2 by decide) rfl ?_
    refine tq_goto (tgt := 2) (E := E_Ways_turnSteps d) (pc := 47) (cks_at k_Ways_turnSteps 29 rfl rfl) (by decide) ?_
    exact tq_sub [1, 0] rfl (hkH (v1 + 1) M2)
def f_Ways_turnSteps_L2 : Nat → Int × Mm → Option (Mm) := lp fun kH s => f_Ways_turnSteps_B2 (fun v1 M => kH (v1, M)) s.1 s.2
set_option maxRecDepth 20000 in
set_option maxHeartbeats 4000000 in
theorem w_Ways_turnSteps_L2 (d : Nat) (n : Nat) (s : Int × Mm) : T (E_Ways_turnSteps d) injV 2 [(0, .ref 48), (1, vI s.1)] [] s.2 (f_Ways_turnSteps_L2 n s) :=
  tq_lp (fun s => [(0, .ref 48), (1, vI s.1)]) (fun s => s.2) (fun kH hH s => w_Ways_turnSteps_B2 d (fun v1 M => kH (v1, M)) (fun v1 M => hH (v1, M)) s.1 s.2) n s
def f_Ways_turnSteps (M : Mm) : Option (Mm) :=
  f_Ways_turnSteps_L2 FU (0, M)
set_option maxRecDepth 20000 in
set_option maxHeartbeats 4000000 in
theorem c_Ways_turnSteps (d : Nat) (M : Mm) (Q : Option Value → Mm → Prop) (h : sat injV (f_Ways_turnSteps M) Q) : Ct (d + 3) y_Ways_turnSteps [.ref 48] M Q := by
  refine ct_in (d := d + 2) mk_Ways_turnSteps (Nat.le_of_ble_eq_true rfl) (?_ : T (E_Ways_turnSteps d) injV 0 [(0, .ref 48)] [] M (f_Ways_turnSteps M)) h
  unfold f_Ways_turnSteps
  refine tq_iconst (E := E_Ways_turnSteps d) (pc := 0) (cks_at k_Ways_turnSteps 0 rfl rfl) ?_
  refine tq_istore_n (E := E_Ways_turnSteps d) (pc := 1) (cks_at k_Ways_turnSteps 1 rfl rfl) (show 1 < 2 by decide) rfl ?_
  exact tq_sub [1, 0] rfl (w_Ways_turnSteps_L2 d FU (0, M))
abbrev E_Ways_trace (d : Nat) : Ev := (Ct (d + 5), "BreathTown$Ways", prog_11_method_11_code, 11, False, 0, (fun _ => 0), (Option.some Jvm.ClassFile.FieldType.boolean))
def f_Ways_trace_B41 (kH : Int → Int → Int → Int → Int → Int → Int → Mm → Option (Int × Mm)) (kx176 : Int → Int → Int → Int → Mm → Option (Int × Mm)) (v1 v2 v4 v5 v6 v7 v8 : Int) (M : Mm) : Option (Int × Mm) :=
  bI (f_Told_count 3 1 M) (fun r7 M6 =>
  if i32 r7 ≤ i32 v8 then
    kx176 v1 v2 v5 v7 M6
  else
    if ¬ i32 v7 = i32 ((-1)) then
      kx176 v1 v2 v5 v7 M6
    else
      bI (f_Told_beyond 3 v8 v4 M6) (fun r9 M8 =>
      bI (f_BT_cell 8 v8 M8) (fun r11 M10 =>
      if i32 r9 = i32 ((-1)) then
        kH v1 v2 v4 v5 v6 v7 (v8 + 1) M10
      else
        if i32 v6 = i32 1000000 then
          kH v1 v2 v4 v5 v6 v7 (v8 + 1) M10
        else
          bI (f_BT_cell 49 r9 M10) (fun r13 M12 =>
          if i32 (v6 - r11) < i32 r13 then
            kH v1 v2 v4 v5 v6 v7 (v8 + 1) M12
          else
            bI (f_BT_cell 49 r9 M12) (fun r15 M14 =>
            bI (f_Ways_firstPass v8 v1 r15 (v6 - r11) M14) (fun r17 M16 =>
            if ¬ i32 r17 = i32 (v6 - r11) then
              kH v1 v2 v4 v5 v6 v7 (v8 + 1) M16
            else
              bV (f_BT_setCell 50 (M16 48 6) v8 M16) (fun M18 =>
              bV (f_BT_setCell 51 (M18 48 6) (v6 - r11) M18) (fun M19 =>
              kH v1 v2 v4 v5 v6 r9 (v8 + 1) M19))))))))
set_option maxRecDepth 20000 in
set_option maxHeartbeats 4000000 in
theorem w_Ways_trace_B41 (d : Nat) (kH : Int → Int → Int → Int → Int → Int → Int → Mm → Option (Int × Mm)) (kx176 : Int → Int → Int → Int → Mm → Option (Int × Mm)) (hkH : ∀ (v1 v2 v4 v5 v6 v7 v8 : Int) (M : Mm), T (E_Ways_trace d) injI 41 [(0, .ref 48), (1, vI v1), (2, vI v2), (4, vI v4), (5, vI v5), (6, vI v6), (7, vI v7), (8, vI v8)] [] M (kH v1 v2 v4 v5 v6 v7 v8 M)) (hkx176 : ∀ (v1 v2 v5 v7 : Int) (M : Mm), T (E_Ways_trace d) injI 176 [(0, .ref 48), (1, vI v1), (2, vI v2), (5, vI v5), (7, vI v7)] [] M (kx176 v1 v2 v5 v7 M)) (v1 v2 v4 v5 v6 v7 v8 : Int) (M : Mm) : T (E_Ways_trace d) injI 41 [(0, .ref 48), (1, vI v1), (2, vI v2), (4, vI v4), (5, vI v5), (6, vI v6), (7, vI v7), (8, vI v8)] [] M (f_Ways_trace_B41 kH kx176 v1 v2 v4 v5 v6 v7 v8 M) := by
  unfold f_Ways_trace_B41
  refine tq_iload 7 (E := E_Ways_trace d) (pc := 41) (cks_at k_Ways_trace 22 rfl rfl) rfl ?_
  refine tq_aload_n 0 (E := E_Ways_trace d) (pc := 43) (cks_at k_Ways_trace 23 rfl rfl) rfl ?_
  refine tq_getR (j := 3) (E := E_Ways_trace d) (pc := 44) (cks_at k_Ways_trace 24 rfl rfl) fo_Ways_30 so_48 rfl sp_48_0 ?_
  refine tq_iconst (E := E_Ways_trace d) (pc := 47) (cks_at k_Ways_trace 25 rfl rfl) ?_
  refine tq_V1 (E := E_Ways_trace d) (pc := 48) (cks_at k_Ways_trace 26 rfl rfl) mk_Told_count lk_Ways_85 (isTold_rc (Or.inl rfl)) (Nat.le_of_ble_eq_true rfl) (c_Told_count (d + 3) 3 (Or.inl rfl) 1 M) (k_I fun r7 M6 => ?_)
  refine tq_icmp_ge (E := E_Ways_trace d) (pc := 51) (tgt := 176) (cks_at k_Ways_trace 27 rfl rfl) (by decide) ?_ ?_
  · exact tq_sub [0, 1, 2, 4, 6] rfl (hkx176 v1 v2 v5 v7 M6)
  · refine tq_iload 6 (E := E_Ways_trace d) (pc := 54) (cks_at k_Ways_trace 28 rfl rfl) rfl ?_
    refine tq_iconst (E := E_Ways_trace d) (pc := 56) (cks_at k_Ways_trace 29 rfl rfl) ?_
    refine tq_icmp_ne (E := E_Ways_trace d) (pc := 57) (tgt := 176) (cks_at k_Ways_trace 30 rfl rfl) (by decide) ?_ ?_
    · exact tq_sub [0, 1, 2, 4, 6] rfl (hkx176 v1 v2 v5 v7 M6)
    · refine tq_aload_n 0 (E := E_Ways_trace d) (pc := 60) (cks_at k_Ways_trace 31 rfl rfl) rfl ?_
      refine tq_getR (j := 3) (E := E_Ways_trace d) (pc := 61) (cks_at k_Ways_trace 32 rfl rfl) fo_Ways_30 so_48 rfl sp_48_0 ?_
      refine tq_iload 7 (E := E_Ways_trace d) (pc := 64) (cks_at k_Ways_trace 33 rfl rfl) rfl ?_
      refine tq_iload 3 (E := E_Ways_trace d) (pc := 66) (cks_at k_Ways_trace 34 rfl rfl) rfl ?_
      refine tq_V2 (E := E_Ways_trace d) (pc := 68) (cks_at k_Ways_trace 35 rfl rfl) mk_Told_beyond lk_Ways_92 (isTold_rc (Or.inl rfl)) (Nat.le_of_ble_eq_true rfl) (c_Told_beyond (d + 3) 3 (Or.inl rfl) v8 v4 M6) (k_I fun r9 M8 => ?_)
      refine tq_istore (E := E_Ways_trace d) (pc := 71) (cks_at k_Ways_trace 36 rfl rfl) (show 9 < 11 by decide) rfl ?_
      refine tq_iload 6 (E := E_Ways_trace d) (pc := 73) (cks_at k_Ways_trace 37 rfl rfl) rfl ?_
      refine tq_aload_n 1 (E := E_Ways_trace d) (pc := 75) (cks_at k_Ways_trace 38 rfl rfl) rfl ?_
      refine tq_getR (j := 3) (E := E_Ways_trace d) (pc := 76) (cks_at k_Ways_trace 39 rfl rfl) fo_Ways_30 so_48 rfl sp_48_0 ?_
      refine tq_getR (j := 8) (E := E_Ways_trace d) (pc := 79) (cks_at k_Ways_trace 40 rfl rfl) fo_Ways_42 so_3 rfl sp_3_4 ?_
      refine tq_iload 8 (E := E_Ways_trace d) (pc := 82) (cks_at k_Ways_trace 41 rfl rfl) rfl ?_
      refine tq_S2 (E := E_Ways_trace d) (pc := 84) (cks_at k_Ways_trace 42 rfl rfl) mk_BT_cell lk_Ways_47 (Nat.le_of_ble_eq_true rfl) (c_BT_cell (d + 4) 8 sa_8 v8 M8) (k_I fun r11 M10 => ?_)
      refine tq_isub (E := E_Ways_trace d) (pc := 87) (cks_at k_Ways_trace 43 rfl rfl) ?_
      refine tq_istore (E := E_Ways_trace d) (pc := 88) (cks_at k_Ways_trace 44 rfl rfl) (show 10 < 11 by decide) rfl ?_
      refine tq_iload 1 (E := E_Ways_trace d) (pc := 90) (cks_at k_Ways_trace 45 rfl rfl) rfl ?_
      refine tq_iconst (E := E_Ways_trace d) (pc := 92) (cks_at k_Ways_trace 46 rfl rfl) ?_
      refine tq_icmp_eq (E := E_Ways_trace d) (pc := 93) (tgt := 170) (cks_at k_Ways_trace 47 rfl rfl) (by decide) ?_ ?_
      · refine tq_iinc 9 (E := E_Ways_trace d) (pc := 170) (cks_at k_Ways_trace 82 rfl rfl) rfl (show 8 < 11 by decide) rfl ?_
        refine tq_goto (tgt := 41) (E := E_Ways_trace d) (pc := 173) (cks_at k_Ways_trace 83 rfl rfl) (by decide) ?_
        exact tq_sub [3, 4, 5, 6, 7, 8, 9, 0] rfl (hkH v1 v2 v4 v5 v6 v7 (v8 + 1) M10)
      · refine tq_iload 7 (E := E_Ways_trace d) (pc := 96) (cks_at k_Ways_trace 48 rfl rfl) rfl ?_
        refine tq_ldc (z := 1000000) (E := E_Ways_trace d) (pc := 98) (cks_at k_Ways_trace 49 rfl rfl) cst_Ways_80 ?_
        refine tq_icmp_eq (E := E_Ways_trace d) (pc := 100) (tgt := 170) (cks_at k_Ways_trace 50 rfl rfl) (by decide) ?_ ?_
        · refine tq_iinc 9 (E := E_Ways_trace d) (pc := 170) (cks_at k_Ways_trace 82 rfl rfl) rfl (show 8 < 11 by decide) rfl ?_
          refine tq_goto (tgt := 41) (E := E_Ways_trace d) (pc := 173) (cks_at k_Ways_trace 83 rfl rfl) (by decide) ?_
          exact tq_sub [3, 4, 5, 6, 7, 8, 9, 0] rfl (hkH v1 v2 v4 v5 v6 v7 (v8 + 1) M10)
        · refine tq_aload_n 2 (E := E_Ways_trace d) (pc := 103) (cks_at k_Ways_trace 51 rfl rfl) rfl ?_
          refine tq_getR (j := 49) (E := E_Ways_trace d) (pc := 104) (cks_at k_Ways_trace 52 rfl rfl) fo_Ways_9 so_48 rfl sp_48_3 ?_
          refine tq_iload 1 (E := E_Ways_trace d) (pc := 107) (cks_at k_Ways_trace 53 rfl rfl) rfl ?_
          refine tq_S2 (E := E_Ways_trace d) (pc := 109) (cks_at k_Ways_trace 54 rfl rfl) mk_BT_cell lk_Ways_47 (Nat.le_of_ble_eq_true rfl) (c_BT_cell (d + 4) 49 sa_49 r9 M10) (k_I fun r13 M12 => ?_)
          refine tq_iload 0 (E := E_Ways_trace d) (pc := 112) (cks_at k_Ways_trace 55 rfl rfl) rfl ?_
          refine tq_icmp_gt (E := E_Ways_trace d) (pc := 114) (tgt := 170) (cks_at k_Ways_trace 56 rfl rfl) (by decide) ?_ ?_
          · refine tq_iinc 9 (E := E_Ways_trace d) (pc := 170) (cks_at k_Ways_trace 82 rfl rfl) rfl (show 8 < 11 by decide) rfl ?_
            refine tq_goto (tgt := 41) (E := E_Ways_trace d) (pc := 173) (cks_at k_Ways_trace 83 rfl rfl) (by decide) ?_
            exact tq_sub [3, 4, 5, 6, 7, 8, 9, 0] rfl (hkH v1 v2 v4 v5 v6 v7 (v8 + 1) M12)
          · refine tq_aload_n 2 (E := E_Ways_trace d) (pc := 117) (cks_at k_Ways_trace 57 rfl rfl) rfl ?_
            refine tq_iload 9 (E := E_Ways_trace d) (pc := 118) (cks_at k_Ways_trace 58 rfl rfl) rfl ?_
            refine tq_iload_n 3 (E := E_Ways_trace d) (pc := 120) (cks_at k_Ways_trace 59 rfl rfl) rfl ?_
            refine tq_aload_n 2 (E := E_Ways_trace d) (pc := 121) (cks_at k_Ways_trace 60 rfl rfl) rfl ?_
            refine tq_getR (j := 49) (E := E_Ways_trace d) (pc := 122) (cks_at k_Ways_trace 61 rfl rfl) fo_Ways_9 so_48 rfl sp_48_3 ?_
            refine tq_iload 1 (E := E_Ways_trace d) (pc := 125) (cks_at k_Ways_trace 62 rfl rfl) rfl ?_
            refine tq_S2 (E := E_Ways_trace d) (pc := 127) (cks_at k_Ways_trace 63 rfl rfl) mk_BT_cell lk_Ways_47 (Nat.le_of_ble_eq_true rfl) (c_BT_cell (d + 4) 49 sa_49 r9 M12) (k_I fun r15 M14 => ?_)
            refine tq_iload 0 (E := E_Ways_trace d) (pc := 130) (cks_at k_Ways_trace 64 rfl rfl) rfl ?_
            refine tq_V4 (E := E_Ways_trace d) (pc := 132) (cks_at k_Ways_trace 65 rfl rfl) mk_Ways_firstPass lk_Ways_100 rc_48 (Nat.le_of_ble_eq_true rfl) (c_Ways_firstPass (d + 0) v8 v1 r15 (v6 - r11) M14) (k_I fun r17 M16 => ?_)
            refine tq_iload 0 (E := E_Ways_trace d) (pc := 135) (cks_at k_Ways_trace 66 rfl rfl) rfl ?_
            refine tq_icmp_ne (E := E_Ways_trace d) (pc := 137) (tgt := 170) (cks_at k_Ways_trace 67 rfl rfl) (by decide) ?_ ?_
            · refine tq_iinc 9 (E := E_Ways_trace d) (pc := 170) (cks_at k_Ways_trace 82 rfl rfl) rfl (show 8 < 11 by decide) rfl ?_
              refine tq_goto (tgt := 41) (E := E_Ways_trace d) (pc := 173) (cks_at k_Ways_trace 83 rfl rfl) (by decide) ?_
              exact tq_sub [3, 4, 5, 6, 7, 8, 9, 0] rfl (hkH v1 v2 v4 v5 v6 v7 (v8 + 1) M16)
            · refine tq_iload 1 (E := E_Ways_trace d) (pc := 140) (cks_at k_Ways_trace 68 rfl rfl) rfl ?_
              refine tq_istore (E := E_Ways_trace d) (pc := 142) (cks_at k_Ways_trace 69 rfl rfl) (show 7 < 11 by decide) rfl ?_
              refine tq_aload_n 3 (E := E_Ways_trace d) (pc := 144) (cks_at k_Ways_trace 70 rfl rfl) rfl ?_
              refine tq_getR (j := 50) (E := E_Ways_trace d) (pc := 145) (cks_at k_Ways_trace 71 rfl rfl) fo_Ways_15 so_48 rfl sp_48_4 ?_
              refine tq_aload_n 3 (E := E_Ways_trace d) (pc := 148) (cks_at k_Ways_trace 72 rfl rfl) rfl ?_
              refine tq_getI (E := E_Ways_trace d) (pc := 149) (cks_at k_Ways_trace 73 rfl rfl) fo_Ways_73 so_48 rfl (by decide) ?_
              refine tq_iload 9 (E := E_Ways_trace d) (pc := 152) (cks_at k_Ways_trace 74 rfl rfl) rfl ?_
              refine tq_S3 (E := E_Ways_trace d) (pc := 154) (cks_at k_Ways_trace 75 rfl rfl) mk_BT_setCell lk_Ways_76 (Nat.le_of_ble_eq_true rfl) (c_BT_setCell (d + 4) 50 sa_50 (M16 48 6) v8 M16) (k_V fun M18 => ?_)
              refine tq_aload_n 3 (E := E_Ways_trace d) (pc := 157) (cks_at k_Ways_trace 76 rfl rfl) rfl ?_
              refine tq_getR (j := 51) (E := E_Ways_trace d) (pc := 158) (cks_at k_Ways_trace 77 rfl rfl) fo_Ways_18 so_48 rfl sp_48_5 ?_
              refine tq_aload_n 3 (E := E_Ways_trace d) (pc := 161) (cks_at k_Ways_trace 78 rfl rfl) rfl ?_
              refine tq_getI (E := E_Ways_trace d) (pc := 162) (cks_at k_Ways_trace 79 rfl rfl) fo_Ways_73 so_48 rfl (by decide) ?_
              refine tq_iload 1 (E := E_Ways_trace d) (pc := 165) (cks_at k_Ways_trace 80 rfl rfl) rfl ?_
              refine tq_S3 (E := E_Ways_trace d) (pc := 167) (cks_at k_Ways_trace 81 rfl rfl) mk_BT_setCell lk_Ways_76 (Nat.le_of_ble_eq_true rfl) (c_BT_setCell (d + 4) 51 sa_51 (M18 48 6) (v6 - r11) M18) (k_V fun M19 => ?_)
              refine tq_iinc 9 (E := E_Ways_trace d) (pc := 170) (cks_at k_Ways_trace 82 rfl rfl) rfl (show 8 < 11 by decide) rfl ?_
              refine tq_goto (tgt := 41) (E := E_Ways_trace d) (pc := 173) (cks_at k_Ways_trace 83 rfl rfl) (by decide) ?_
              exact tq_sub [4, 5, 6, 7, 8, 9, 1, 0] rfl (hkH v1 v2 v4 v5 v6 r9 (v8 + 1) M19)
def f_Ways_trace_L41 (kx176 : Int → Int → Int → Int → Mm → Option (Int × Mm)) : Nat → Int × Int × Int × Int × Int × Int × Int × Mm → Option (Int × Mm) := lp fun kH s => f_Ways_trace_B41 (fun v1 v2 v4 v5 v6 v7 v8 M => kH (v1, v2, v4, v5, v6, v7, v8, M)) kx176 s.1 s.2.1 s.2.2.1 s.2.2.2.1 s.2.2.2.2.1 s.2.2.2.2.2.1 s.2.2.2.2.2.2.1 s.2.2.2.2.2.2.2
set_option maxRecDepth 20000 in
set_option maxHeartbeats 4000000 in
theorem w_Ways_trace_L41 (d : Nat) (kx176 : Int → Int → Int → Int → Mm → Option (Int × Mm)) (hkx176 : ∀ (v1 v2 v5 v7 : Int) (M : Mm), T (E_Ways_trace d) injI 176 [(0, .ref 48), (1, vI v1), (2, vI v2), (5, vI v5), (7, vI v7)] [] M (kx176 v1 v2 v5 v7 M)) (n : Nat) (s : Int × Int × Int × Int × Int × Int × Int × Mm) : T (E_Ways_trace d) injI 41 [(0, .ref 48), (1, vI s.1), (2, vI s.2.1), (4, vI s.2.2.1), (5, vI s.2.2.2.1), (6, vI s.2.2.2.2.1), (7, vI s.2.2.2.2.2.1), (8, vI s.2.2.2.2.2.2.1)] [] s.2.2.2.2.2.2.2 (f_Ways_trace_L41 kx176 n s) :=
  tq_lp (fun s => [(0, .ref 48), (1, vI s.1), (2, vI s.2.1), (4, vI s.2.2.1), (5, vI s.2.2.2.1), (6, vI s.2.2.2.2.1), (7, vI s.2.2.2.2.2.1), (8, vI s.2.2.2.2.2.2.1)]) (fun s => s.2.2.2.2.2.2.2) (fun kH hH s => w_Ways_trace_B41 d (fun v1 v2 v4 v5 v6 v7 v8 M => kH (v1, v2, v4, v5, v6, v7, v8, M)) kx176 (fun v1 v2 v4 v5 v6 v7 v8 M => hH (v1, v2, v4, v5, v6, v7, v8, M)) hkx176 s.1 s.2.1 s.2.2.1 s.2.2.2.1 s.2.2.2.2.1 s.2.2.2.2.2.1 s.2.2.2.2.2.2.1 s.2.2.2.2.2.2.2) n s
def f_Ways_trace_J176 (kH : Int → Int → Int → Int → Mm → Option (Int × Mm)) (v1 v2 v5 v7 : Int) (M : Mm) : Option (Int × Mm) :=
  if ¬ i32 v7 = i32 ((-1)) then
    bd (up M 48 6 ((M 48 6) + 1)) (fun M21 =>
    kH v1 v2 v7 (v5 + 1) M21)
  else
    some (0, M)
set_option maxRecDepth 20000 in
set_option maxHeartbeats 4000000 in
theorem w_Ways_trace_J176 (d : Nat) (kH : Int → Int → Int → Int → Mm → Option (Int × Mm)) (hkH : ∀ (v1 v2 v4 v5 : Int) (M : Mm), T (E_Ways_trace d) injI 11 [(0, .ref 48), (1, vI v1), (2, vI v2), (4, vI v4), (5, vI v5)] [] M (kH v1 v2 v4 v5 M)) (v1 v2 v5 v7 : Int) (M : Mm) : T (E_Ways_trace d) injI 176 [(0, .ref 48), (1, vI v1), (2, vI v2), (5, vI v5), (7, vI v7)] [] M (f_Ways_trace_J176 kH v1 v2 v5 v7 M) := by
  unfold f_Ways_trace_J176
  refine tq_iload 4 (E := E_Ways_trace d) (pc := 176) (cks_at k_Ways_trace 84 rfl rfl) rfl ?_
  refine tq_iconst (E := E_Ways_trace d) (pc := 178) (cks_at k_Ways_trace 85 rfl rfl) ?_
  refine tq_icmp_ne (E := E_Ways_trace d) (pc := 179) (tgt := 184) (cks_at k_Ways_trace 86 rfl rfl) (by decide) ?_ ?_
  · refine tq_aload_n 0 (E := E_Ways_trace d) (pc := 184) (cks_at k_Ways_trace 89 rfl rfl) rfl ?_
    refine tq_dup (E := E_Ways_trace d) (pc := 185) (cks_at k_Ways_trace 90 rfl rfl) rfl ?_
    refine tq_getI (E := E_Ways_trace d) (pc := 186) (cks_at k_Ways_trace 91 rfl rfl) fo_Ways_73 so_48 rfl (by decide) ?_
    refine tq_iconst (E := E_Ways_trace d) (pc := 189) (cks_at k_Ways_trace 92 rfl rfl) ?_
    refine tq_iadd (E := E_Ways_trace d) (pc := 190) (cks_at k_Ways_trace 93 rfl rfl) ?_
    refine tq_putI (E := E_Ways_trace d) (pc := 191) (cks_at k_Ways_trace 94 rfl rfl) fo_Ways_73 so_48 rfl po_9_6 (fun M21 => ?_)
    refine tq_iload 4 (E := E_Ways_trace d) (pc := 194) (cks_at k_Ways_trace 95 rfl rfl) rfl ?_
    refine tq_istore (E := E_Ways_trace d) (pc := 196) (cks_at k_Ways_trace 96 rfl rfl) (show 4 < 11 by decide) rfl ?_
    refine tq_iinc 4 (E := E_Ways_trace d) (pc := 198) (cks_at k_Ways_trace 97 rfl rfl) rfl (show 5 < 11 by decide) rfl ?_
    refine tq_goto (tgt := 11) (E := E_Ways_trace d) (pc := 201) (cks_at k_Ways_trace 98 rfl rfl) (by decide) ?_
    exact tq_sub [2, 3, 4, 1, 0] rfl (hkH v1 v2 v7 (v5 + 1) M21)
  · refine tq_iconst (E := E_Ways_trace d) (pc := 182) (cks_at k_Ways_trace 87 rfl rfl) ?_
    exact tq_zretC (E := E_Ways_trace d) (pc := 183) (cks_at k_Ways_trace 88 rfl rfl) rfl (by decide)
def f_Ways_trace_B11 (kH : Int → Int → Int → Int → Mm → Option (Int × Mm)) (v1 v2 v4 v5 : Int) (M : Mm) : Option (Int × Mm) :=
  if i32 9 ≤ i32 v5 then
    bV (f_Ways_turnSteps M) (fun M2 =>
    some (1, M2))
  else
    if i32 v4 = i32 v2 then
      bV (f_Ways_turnSteps M) (fun M3 =>
      some (1, M3))
    else
      bI (f_BT_cell 49 v4 M) (fun r5 M4 =>
      f_Ways_trace_L41 (fun v1 v2 v5 v7 M20 => f_Ways_trace_J176 kH v1 v2 v5 v7 M20) FU (v1, v2, v4, v5, r5, ((-1)), 0, M4))
set_option maxRecDepth 20000 in
set_option maxHeartbeats 4000000 in
theorem w_Ways_trace_B11 (d : Nat) (kH : Int → Int → Int → Int → Mm → Option (Int × Mm)) (hkH : ∀ (v1 v2 v4 v5 : Int) (M : Mm), T (E_Ways_trace d) injI 11 [(0, .ref 48), (1, vI v1), (2, vI v2), (4, vI v4), (5, vI v5)] [] M (kH v1 v2 v4 v5 M)) (v1 v2 v4 v5 : Int) (M : Mm) : T (E_Ways_trace d) injI 11 [(0, .ref 48), (1, vI v1), (2, vI v2), (4, vI v4), (5, vI v5)] [] M (f_Ways_trace_B11 kH v1 v2 v4 v5 M) := by
  unfold f_Ways_trace_B11
  refine tq_iload 4 (E := E_Ways_trace d) (pc := 11) (cks_at k_Ways_trace 7 rfl rfl) rfl ?_
  refine tq_bipush (E := E_Ways_trace d) (pc := 13) (cks_at k_Ways_trace 8 rfl rfl) (by decide) (by decide) ?_
  refine tq_icmp_ge (E := E_Ways_trace d) (pc := 15) (tgt := 204) (cks_at k_Ways_trace 9 rfl rfl) (by decide) ?_ ?_
  · refine tq_aload_n 0 (E := E_Ways_trace d) (pc := 204) (cks_at k_Ways_trace 99 rfl rfl) rfl ?_
    refine tq_V0 (E := E_Ways_trace d) (pc := 205) (cks_at k_Ways_trace 100 rfl rfl) mk_Ways_turnSteps lk_Ways_117 rc_48 (Nat.le_of_ble_eq_true rfl) (c_Ways_turnSteps (d + 2) M) (k_V fun M2 => ?_)
    refine tq_iconst (E := E_Ways_trace d) (pc := 208) (cks_at k_Ways_trace 101 rfl rfl) ?_
    exact tq_zretC (E := E_Ways_trace d) (pc := 209) (cks_at k_Ways_trace 102 rfl rfl) rfl (by decide)
  · refine tq_iload 3 (E := E_Ways_trace d) (pc := 18) (cks_at k_Ways_trace 10 rfl rfl) rfl ?_
    refine tq_iload_n 2 (E := E_Ways_trace d) (pc := 20) (cks_at k_Ways_trace 11 rfl rfl) rfl ?_
    refine tq_icmp_eq (E := E_Ways_trace d) (pc := 21) (tgt := 204) (cks_at k_Ways_trace 12 rfl rfl) (by decide) ?_ ?_
    · refine tq_aload_n 0 (E := E_Ways_trace d) (pc := 204) (cks_at k_Ways_trace 99 rfl rfl) rfl ?_
      refine tq_V0 (E := E_Ways_trace d) (pc := 205) (cks_at k_Ways_trace 100 rfl rfl) mk_Ways_turnSteps lk_Ways_117 rc_48 (Nat.le_of_ble_eq_true rfl) (c_Ways_turnSteps (d + 2) M) (k_V fun M3 => ?_)
      refine tq_iconst (E := E_Ways_trace d) (pc := 208) (cks_at k_Ways_trace 101 rfl rfl) ?_
      exact tq_zretC (E := E_Ways_trace d) (pc := 209) (cks_at k_Ways_trace 102 rfl rfl) rfl (by decide)
    · refine tq_aload_n 0 (E := E_Ways_trace d) (pc := 24) (cks_at k_Ways_trace 13 rfl rfl) rfl ?_
      refine tq_getR (j := 49) (E := E_Ways_trace d) (pc := 25) (cks_at k_Ways_trace 14 rfl rfl) fo_Ways_9 so_48 rfl sp_48_3 ?_
      refine tq_iload 3 (E := E_Ways_trace d) (pc := 28) (cks_at k_Ways_trace 15 rfl rfl) rfl ?_
      refine tq_S2 (E := E_Ways_trace d) (pc := 30) (cks_at k_Ways_trace 16 rfl rfl) mk_BT_cell lk_Ways_47 (Nat.le_of_ble_eq_true rfl) (c_BT_cell (d + 4) 49 sa_49 v4 M) (k_I fun r5 M4 => ?_)
      refine tq_istore (E := E_Ways_trace d) (pc := 33) (cks_at k_Ways_trace 17 rfl rfl) (show 6 < 11 by decide) rfl ?_
      refine tq_iconst (E := E_Ways_trace d) (pc := 35) (cks_at k_Ways_trace 18 rfl rfl) ?_
      refine tq_istore (E := E_Ways_trace d) (pc := 36) (cks_at k_Ways_trace 19 rfl rfl) (show 7 < 11 by decide) rfl ?_
      refine tq_iconst (E := E_Ways_trace d) (pc := 38) (cks_at k_Ways_trace 20 rfl rfl) ?_
      refine tq_istore (E := E_Ways_trace d) (pc := 39) (cks_at k_Ways_trace 21 rfl rfl) (show 8 < 11 by decide) rfl ?_
      exact tq_sub [3, 4, 5, 6, 7, 2, 1, 0] rfl (w_Ways_trace_L41 d _ (fun v1 v2 v5 v7 M20 => by
          exact tq_sub [0, 1, 2, 3, 4] rfl (w_Ways_trace_J176 d kH hkH v1 v2 v5 v7 M20)) FU (v1, v2, v4, v5, r5, ((-1)), 0, M4))
def f_Ways_trace_L11 : Nat → Int × Int × Int × Int × Mm → Option (Int × Mm) := lp fun kH s => f_Ways_trace_B11 (fun v1 v2 v4 v5 M => kH (v1, v2, v4, v5, M)) s.1 s.2.1 s.2.2.1 s.2.2.2.1 s.2.2.2.2
set_option maxRecDepth 20000 in
set_option maxHeartbeats 4000000 in
theorem w_Ways_trace_L11 (d : Nat) (n : Nat) (s : Int × Int × Int × Int × Mm) : T (E_Ways_trace d) injI 11 [(0, .ref 48), (1, vI s.1), (2, vI s.2.1), (4, vI s.2.2.1), (5, vI s.2.2.2.1)] [] s.2.2.2.2 (f_Ways_trace_L11 n s) :=
  tq_lp (fun s => [(0, .ref 48), (1, vI s.1), (2, vI s.2.1), (4, vI s.2.2.1), (5, vI s.2.2.2.1)]) (fun s => s.2.2.2.2) (fun kH hH s => w_Ways_trace_B11 d (fun v1 v2 v4 v5 M => kH (v1, v2, v4, v5, M)) (fun v1 v2 v4 v5 M => hH (v1, v2, v4, v5, M)) s.1 s.2.1 s.2.2.1 s.2.2.2.1 s.2.2.2.2) n s
def f_Ways_trace (v1 : Int) (v2 : Int) (v3 : Int) (M : Mm) : Option (Int × Mm) :=
  bd (up M 48 6 0) (fun M1 =>
  f_Ways_trace_L11 FU (v1, v2, v3, 0, M1))
set_option maxRecDepth 20000 in
set_option maxHeartbeats 4000000 in
theorem c_Ways_trace (d : Nat) (v1 : Int) (v2 : Int) (v3 : Int) (M : Mm) (Q : Option Value → Mm → Prop) (h : sat injI (f_Ways_trace v1 v2 v3 M) Q) : Ct (d + 6) y_Ways_trace [.ref 48, vI v1, vI v2, vI v3] M Q := by
  refine ct_in (d := d + 5) mk_Ways_trace (Nat.le_of_ble_eq_true rfl) (?_ : T (E_Ways_trace d) injI 0 [(0, .ref 48), (1, vI v1), (2, vI v2), (3, vI v3)] [] M (f_Ways_trace v1 v2 v3 M)) h
  unfold f_Ways_trace
  refine tq_aload_n 0 (E := E_Ways_trace d) (pc := 0) (cks_at k_Ways_trace 0 rfl rfl) rfl ?_
  refine tq_iconst (E := E_Ways_trace d) (pc := 1) (cks_at k_Ways_trace 1 rfl rfl) ?_
  refine tq_putI (E := E_Ways_trace d) (pc := 2) (cks_at k_Ways_trace 2 rfl rfl) fo_Ways_73 so_48 rfl po_9_6 (fun M1 => ?_)
  refine tq_iload_n 3 (E := E_Ways_trace d) (pc := 5) (cks_at k_Ways_trace 3 rfl rfl) rfl ?_
  refine tq_istore (E := E_Ways_trace d) (pc := 6) (cks_at k_Ways_trace 4 rfl rfl) (show 4 < 11 by decide) rfl ?_
  refine tq_iconst (E := E_Ways_trace d) (pc := 8) (cks_at k_Ways_trace 5 rfl rfl) ?_
  refine tq_istore (E := E_Ways_trace d) (pc := 9) (cks_at k_Ways_trace 6 rfl rfl) (show 5 < 11 by decide) rfl ?_
  exact tq_sub [2, 3, 4, 1, 0] rfl (w_Ways_trace_L11 d FU (v1, v2, v3, 0, M1))
abbrev E_Ways_soonestAt (d : Nat) : Ev := (Ct (d + 1), "BreathTown$Ways", prog_11_method_7_code, 3, False, 0, (fun _ => 0), (Option.some Jvm.ClassFile.FieldType.int))
def f_Ways_soonestAt (v1 : Int) (M : Mm) : Option (Int × Mm) :=
  bI (f_BT_cell 49 v1 M) (fun r2 M1 =>
  if ¬ i32 r2 = i32 1000000 then
    some (r2, M1)
  else
    some ((-1), M1))
set_option maxRecDepth 20000 in
set_option maxHeartbeats 4000000 in
theorem c_Ways_soonestAt (d : Nat) (v1 : Int) (M : Mm) (Q : Option Value → Mm → Prop) (h : sat injI (f_Ways_soonestAt v1 M) Q) : Ct (d + 2) y_Ways_soonestAt [.ref 48, vI v1] M Q := by
  refine ct_in (d := d + 1) mk_Ways_soonestAt (Nat.le_of_ble_eq_true rfl) (?_ : T (E_Ways_soonestAt d) injI 0 [(0, .ref 48), (1, vI v1)] [] M (f_Ways_soonestAt v1 M)) h
  unfold f_Ways_soonestAt
  refine tq_aload_n 0 (E := E_Ways_soonestAt d) (pc := 0) (cks_at k_Ways_soonestAt 0 rfl rfl) rfl ?_
  refine tq_getR (j := 49) (E := E_Ways_soonestAt d) (pc := 1) (cks_at k_Ways_soonestAt 1 rfl rfl) fo_Ways_9 so_48 rfl sp_48_3 ?_
  refine tq_iload_n 1 (E := E_Ways_soonestAt d) (pc := 4) (cks_at k_Ways_soonestAt 2 rfl rfl) rfl ?_
  refine tq_S2 (E := E_Ways_soonestAt d) (pc := 5) (cks_at k_Ways_soonestAt 3 rfl rfl) mk_BT_cell lk_Ways_47 (Nat.le_of_ble_eq_true rfl) (c_BT_cell (d + 0) 49 sa_49 v1 M) (k_I fun r2 M1 => ?_)
  refine tq_istore_n (E := E_Ways_soonestAt d) (pc := 8) (cks_at k_Ways_soonestAt 4 rfl rfl) (show 2 < 3 by decide) rfl ?_
  refine tq_iload_n 0 (E := E_Ways_soonestAt d) (pc := 9) (cks_at k_Ways_soonestAt 5 rfl rfl) rfl ?_
  refine tq_ldc (z := 1000000) (E := E_Ways_soonestAt d) (pc := 10) (cks_at k_Ways_soonestAt 6 rfl rfl) cst_Ways_80 ?_
  refine tq_icmp_ne (E := E_Ways_soonestAt d) (pc := 12) (tgt := 19) (cks_at k_Ways_soonestAt 7 rfl rfl) (by decide) ?_ ?_
  · refine tq_iload_n 0 (E := E_Ways_soonestAt d) (pc := 19) (cks_at k_Ways_soonestAt 10 rfl rfl) rfl ?_
    exact tq_iret (E := E_Ways_soonestAt d) (pc := 20) (cks_at k_Ways_soonestAt 11 rfl rfl) rfl
  · refine tq_iconst (E := E_Ways_soonestAt d) (pc := 15) (cks_at k_Ways_soonestAt 8 rfl rfl) ?_
    refine tq_goto (tgt := 20) (E := E_Ways_soonestAt d) (pc := 16) (cks_at k_Ways_soonestAt 9 rfl rfl) (by decide) ?_
    exact tq_iret (E := E_Ways_soonestAt d) (pc := 20) (cks_at k_Ways_soonestAt 11 rfl rfl) rfl
abbrev E_Ways_plan (d : Nat) : Ev := (Ct (d + 7), "BreathTown$Ways", prog_11_method_14_code, 4, False, 0, (fun _ => 0), (Option.some Jvm.ClassFile.FieldType.int))
def f_Ways_plan (v1 : Int) (M : Mm) : Option (Int × Mm) :=
  bd (up M 48 6 0) (fun M1 =>
  bI (f_Told_hasA 3 2 v1 M1) (fun r3 M2 =>
  if ¬ i32 r3 = 0 then
    bV (f_Ways_searchFor v1 ((-1)) M2) (fun M4 =>
    bI (f_BT_cell 42 v1 M4) (fun r6 M5 =>
    bI (f_BT_cell 13 v1 M5) (fun r8 M7 =>
    bI (f_BT_cell 41 v1 M7) (fun r10 M9 =>
    bI (f_Ways_trace r8 r10 r6 M9) (fun r12 M11 =>
    if i32 r12 = 0 then
      some ((-1), M11)
    else
      bI (f_Ways_soonestAt r6 M11) (fun r14 M13 =>
      some (r14, M13)))))))
  else
    some ((-1), M2)))
set_option maxRecDepth 20000 in
set_option maxHeartbeats 4000000 in
theorem c_Ways_plan (d : Nat) (v1 : Int) (M : Mm) (Q : Option Value → Mm → Prop) (h : sat injI (f_Ways_plan v1 M) Q) : Ct (d + 8) y_Ways_plan [.ref 48, vI v1] M Q := by
  refine ct_in (d := d + 7) mk_Ways_plan (Nat.le_of_ble_eq_true rfl) (?_ : T (E_Ways_plan d) injI 0 [(0, .ref 48), (1, vI v1)] [] M (f_Ways_plan v1 M)) h
  unfold f_Ways_plan
  refine tq_aload_n 0 (E := E_Ways_plan d) (pc := 0) (cks_at k_Ways_plan 0 rfl rfl) rfl ?_
  refine tq_iconst (E := E_Ways_plan d) (pc := 1) (cks_at k_Ways_plan 1 rfl rfl) ?_
  refine tq_putI (E := E_Ways_plan d) (pc := 2) (cks_at k_Ways_plan 2 rfl rfl) fo_Ways_73 so_48 rfl po_9_6 (fun M1 => ?_)
  refine tq_aload_n 0 (E := E_Ways_plan d) (pc := 5) (cks_at k_Ways_plan 3 rfl rfl) rfl ?_
  refine tq_getR (j := 3) (E := E_Ways_plan d) (pc := 6) (cks_at k_Ways_plan 4 rfl rfl) fo_Ways_30 so_48 rfl sp_48_0 ?_
  refine tq_iconst (E := E_Ways_plan d) (pc := 9) (cks_at k_Ways_plan 5 rfl rfl) ?_
  refine tq_iload_n 1 (E := E_Ways_plan d) (pc := 10) (cks_at k_Ways_plan 6 rfl rfl) rfl ?_
  refine tq_V2 (E := E_Ways_plan d) (pc := 11) (cks_at k_Ways_plan 7 rfl rfl) mk_Told_hasA lk_Ways_123 (isTold_rc (Or.inl rfl)) (Nat.le_of_ble_eq_true rfl) (c_Told_hasA (d + 4) 3 (Or.inl rfl) 2 v1 M1) (k_I fun r3 M2 => ?_)
  refine tq_if_ne (E := E_Ways_plan d) (pc := 14) (tgt := 19) (cks_at k_Ways_plan 8 rfl rfl) (by decide) ?_ ?_
  · refine tq_aload_n 0 (E := E_Ways_plan d) (pc := 19) (cks_at k_Ways_plan 11 rfl rfl) rfl ?_
    refine tq_iload_n 1 (E := E_Ways_plan d) (pc := 20) (cks_at k_Ways_plan 12 rfl rfl) rfl ?_
    refine tq_iconst (E := E_Ways_plan d) (pc := 21) (cks_at k_Ways_plan 13 rfl rfl) ?_
    refine tq_V2 (E := E_Ways_plan d) (pc := 22) (cks_at k_Ways_plan 14 rfl rfl) mk_Ways_searchFor lk_Ways_127 rc_48 (Nat.le_of_ble_eq_true rfl) (c_Ways_searchFor (d + 0) v1 ((-1)) M2) (k_V fun M4 => ?_)
    refine tq_aload_n 0 (E := E_Ways_plan d) (pc := 25) (cks_at k_Ways_plan 15 rfl rfl) rfl ?_
    refine tq_getR (j := 39) (E := E_Ways_plan d) (pc := 26) (cks_at k_Ways_plan 16 rfl rfl) fo_Ways_34 so_48 rfl sp_48_1 ?_
    refine tq_getR (j := 42) (E := E_Ways_plan d) (pc := 29) (cks_at k_Ways_plan 17 rfl rfl) fo_Ways_131 so_39 rfl sp_39_3 ?_
    refine tq_iload_n 1 (E := E_Ways_plan d) (pc := 32) (cks_at k_Ways_plan 18 rfl rfl) rfl ?_
    refine tq_S2 (E := E_Ways_plan d) (pc := 33) (cks_at k_Ways_plan 19 rfl rfl) mk_BT_cell lk_Ways_47 (Nat.le_of_ble_eq_true rfl) (c_BT_cell (d + 6) 42 sa_42 v1 M4) (k_I fun r6 M5 => ?_)
    refine tq_istore_n (E := E_Ways_plan d) (pc := 36) (cks_at k_Ways_plan 20 rfl rfl) (show 2 < 4 by decide) rfl ?_
    refine tq_aload_n 1 (E := E_Ways_plan d) (pc := 37) (cks_at k_Ways_plan 21 rfl rfl) rfl ?_
    refine tq_aload_n 1 (E := E_Ways_plan d) (pc := 38) (cks_at k_Ways_plan 22 rfl rfl) rfl ?_
    refine tq_getR (j := 3) (E := E_Ways_plan d) (pc := 39) (cks_at k_Ways_plan 23 rfl rfl) fo_Ways_30 so_48 rfl sp_48_0 ?_
    refine tq_getR (j := 13) (E := E_Ways_plan d) (pc := 42) (cks_at k_Ways_plan 24 rfl rfl) fo_Ways_104 so_3 rfl sp_3_9 ?_
    refine tq_iload_n 2 (E := E_Ways_plan d) (pc := 45) (cks_at k_Ways_plan 25 rfl rfl) rfl ?_
    refine tq_S2 (E := E_Ways_plan d) (pc := 46) (cks_at k_Ways_plan 26 rfl rfl) mk_BT_cell lk_Ways_47 (Nat.le_of_ble_eq_true rfl) (c_BT_cell (d + 6) 13 sa_13 v1 M5) (k_I fun r8 M7 => ?_)
    refine tq_aload_n 1 (E := E_Ways_plan d) (pc := 49) (cks_at k_Ways_plan 27 rfl rfl) rfl ?_
    refine tq_getR (j := 39) (E := E_Ways_plan d) (pc := 50) (cks_at k_Ways_plan 28 rfl rfl) fo_Ways_34 so_48 rfl sp_48_1 ?_
    refine tq_getR (j := 41) (E := E_Ways_plan d) (pc := 53) (cks_at k_Ways_plan 29 rfl rfl) fo_Ways_107 so_39 rfl sp_39_2 ?_
    refine tq_iload_n 2 (E := E_Ways_plan d) (pc := 56) (cks_at k_Ways_plan 30 rfl rfl) rfl ?_
    refine tq_S2 (E := E_Ways_plan d) (pc := 57) (cks_at k_Ways_plan 31 rfl rfl) mk_BT_cell lk_Ways_47 (Nat.le_of_ble_eq_true rfl) (c_BT_cell (d + 6) 41 sa_41 v1 M7) (k_I fun r10 M9 => ?_)
    refine tq_iload_n 0 (E := E_Ways_plan d) (pc := 60) (cks_at k_Ways_plan 32 rfl rfl) rfl ?_
    refine tq_V3 (E := E_Ways_plan d) (pc := 61) (cks_at k_Ways_plan 33 rfl rfl) mk_Ways_trace lk_Ways_134 rc_48 (Nat.le_of_ble_eq_true rfl) (c_Ways_trace (d + 1) r8 r10 r6 M9) (k_I fun r12 M11 => ?_)
    refine tq_istore_n (E := E_Ways_plan d) (pc := 64) (cks_at k_Ways_plan 34 rfl rfl) (show 3 < 4 by decide) rfl ?_
    refine tq_iload_n 0 (E := E_Ways_plan d) (pc := 65) (cks_at k_Ways_plan 35 rfl rfl) rfl ?_
    refine tq_if_eq (E := E_Ways_plan d) (pc := 66) (tgt := 77) (cks_at k_Ways_plan 36 rfl rfl) (by decide) ?_ ?_
    · refine tq_iconst (E := E_Ways_plan d) (pc := 77) (cks_at k_Ways_plan 41 rfl rfl) ?_
      exact tq_iret (E := E_Ways_plan d) (pc := 78) (cks_at k_Ways_plan 42 rfl rfl) rfl
    · refine tq_aload_n 2 (E := E_Ways_plan d) (pc := 69) (cks_at k_Ways_plan 37 rfl rfl) rfl ?_
      refine tq_iload_n 1 (E := E_Ways_plan d) (pc := 70) (cks_at k_Ways_plan 38 rfl rfl) rfl ?_
      refine tq_V1 (E := E_Ways_plan d) (pc := 71) (cks_at k_Ways_plan 39 rfl rfl) mk_Ways_soonestAt lk_Ways_138 rc_48 (Nat.le_of_ble_eq_true rfl) (c_Ways_soonestAt (d + 5) r6 M11) (k_I fun r14 M13 => ?_)
      refine tq_goto (tgt := 78) (E := E_Ways_plan d) (pc := 74) (cks_at k_Ways_plan 40 rfl rfl) (by decide) ?_
      exact tq_iret (E := E_Ways_plan d) (pc := 78) (cks_at k_Ways_plan 42 rfl rfl) rfl
  · refine tq_iconst (E := E_Ways_plan d) (pc := 17) (cks_at k_Ways_plan 9 rfl rfl) ?_
    exact tq_iret (E := E_Ways_plan d) (pc := 18) (cks_at k_Ways_plan 10 rfl rfl) rfl
abbrev E_Now_arrive (d : Nat) : Ev := (Ct (d + 1), "BreathTown$Now", prog_4_method_6_code, 4, False, 0, (fun _ => 0), (Option.none : Option Jvm.ClassFile.FieldType))
def f_Now_arrive (v1 : Int) (v2 : Int) (M : Mm) : Option (Mm) :=
  bI (f_BT_cell 41 v1 M) (fun r2 M1 =>
  bI (f_BT_cell 42 v1 M1) (fun r4 M3 =>
  bV (f_BT_setCell 41 v1 r4 M3) (fun M5 =>
  bV (f_BT_setCell 42 v1 r2 M5) (fun M6 =>
  bV (f_BT_setCell 43 v1 v2 M6) (fun M7 =>
  some M7)))))
set_option maxRecDepth 20000 in
set_option maxHeartbeats 4000000 in
theorem c_Now_arrive (d : Nat) (v1 : Int) (v2 : Int) (M : Mm) (Q : Option Value → Mm → Prop) (h : sat injV (f_Now_arrive v1 v2 M) Q) : Ct (d + 2) y_Now_arrive [.ref 39, vI v1, vI v2] M Q := by
  refine ct_in (d := d + 1) mk_Now_arrive (Nat.le_of_ble_eq_true rfl) (?_ : T (E_Now_arrive d) injV 0 [(0, .ref 39), (1, vI v1), (2, vI v2)] [] M (f_Now_arrive v1 v2 M)) h
  unfold f_Now_arrive
  refine tq_aload_n 0 (E := E_Now_arrive d) (pc := 0) (cks_at k_Now_arrive 0 rfl rfl) rfl ?_
  refine tq_getR (j := 41) (E := E_Now_arrive d) (pc := 1) (cks_at k_Now_arrive 1 rfl rfl) fo_Now_15 so_39 rfl sp_39_2 ?_
  refine tq_iload_n 1 (E := E_Now_arrive d) (pc := 4) (cks_at k_Now_arrive 2 rfl rfl) rfl ?_
  refine tq_S2 (E := E_Now_arrive d) (pc := 5) (cks_at k_Now_arrive 3 rfl rfl) mk_BT_cell lk_Now_57 (Nat.le_of_ble_eq_true rfl) (c_BT_cell (d + 0) 41 sa_41 v1 M) (k_I fun r2 M1 => ?_)
  refine tq_istore_n (E := E_Now_arrive d) (pc := 8) (cks_at k_Now_arrive 4 rfl rfl) (show 3 < 4 by decide) rfl ?_
  refine tq_aload_n 1 (E := E_Now_arrive d) (pc := 9) (cks_at k_Now_arrive 5 rfl rfl) rfl ?_
  refine tq_getR (j := 41) (E := E_Now_arrive d) (pc := 10) (cks_at k_Now_arrive 6 rfl rfl) fo_Now_15 so_39 rfl sp_39_2 ?_
  refine tq_iload_n 2 (E := E_Now_arrive d) (pc := 13) (cks_at k_Now_arrive 7 rfl rfl) rfl ?_
  refine tq_aload_n 1 (E := E_Now_arrive d) (pc := 14) (cks_at k_Now_arrive 8 rfl rfl) rfl ?_
  refine tq_getR (j := 42) (E := E_Now_arrive d) (pc := 15) (cks_at k_Now_arrive 9 rfl rfl) fo_Now_18 so_39 rfl sp_39_3 ?_
  refine tq_iload_n 2 (E := E_Now_arrive d) (pc := 18) (cks_at k_Now_arrive 10 rfl rfl) rfl ?_
  refine tq_S2 (E := E_Now_arrive d) (pc := 19) (cks_at k_Now_arrive 11 rfl rfl) mk_BT_cell lk_Now_57 (Nat.le_of_ble_eq_true rfl) (c_BT_cell (d + 0) 42 sa_42 v1 M1) (k_I fun r4 M3 => ?_)
  refine tq_S3 (E := E_Now_arrive d) (pc := 22) (cks_at k_Now_arrive 12 rfl rfl) mk_BT_setCell lk_Now_77 (Nat.le_of_ble_eq_true rfl) (c_BT_setCell (d + 0) 41 sa_41 v1 r4 M3) (k_V fun M5 => ?_)
  refine tq_aload_n 1 (E := E_Now_arrive d) (pc := 25) (cks_at k_Now_arrive 13 rfl rfl) rfl ?_
  refine tq_getR (j := 42) (E := E_Now_arrive d) (pc := 26) (cks_at k_Now_arrive 14 rfl rfl) fo_Now_18 so_39 rfl sp_39_3 ?_
  refine tq_iload_n 2 (E := E_Now_arrive d) (pc := 29) (cks_at k_Now_arrive 15 rfl rfl) rfl ?_
  refine tq_iload_n 0 (E := E_Now_arrive d) (pc := 30) (cks_at k_Now_arrive 16 rfl rfl) rfl ?_
  refine tq_S3 (E := E_Now_arrive d) (pc := 31) (cks_at k_Now_arrive 17 rfl rfl) mk_BT_setCell lk_Now_77 (Nat.le_of_ble_eq_true rfl) (c_BT_setCell (d + 0) 42 sa_42 v1 r2 M5) (k_V fun M6 => ?_)
  refine tq_aload_n 1 (E := E_Now_arrive d) (pc := 34) (cks_at k_Now_arrive 18 rfl rfl) rfl ?_
  refine tq_getR (j := 43) (E := E_Now_arrive d) (pc := 35) (cks_at k_Now_arrive 19 rfl rfl) fo_Now_21 so_39 rfl sp_39_4 ?_
  refine tq_iload_n 2 (E := E_Now_arrive d) (pc := 38) (cks_at k_Now_arrive 20 rfl rfl) rfl ?_
  refine tq_iload_n 3 (E := E_Now_arrive d) (pc := 39) (cks_at k_Now_arrive 21 rfl rfl) rfl ?_
  refine tq_S3 (E := E_Now_arrive d) (pc := 40) (cks_at k_Now_arrive 22 rfl rfl) mk_BT_setCell lk_Now_77 (Nat.le_of_ble_eq_true rfl) (c_BT_setCell (d + 0) 43 sa_43 v1 v2 M6) (k_V fun M7 => ?_)
  exact tq_vret (E := E_Now_arrive d) (pc := 43) (cks_at k_Now_arrive 23 rfl rfl) rfl
abbrev E_BT_send (d : Nat) : Ev := (Ct (d + 8), "BreathTown", prog_1_method_23_code, 3, False, 0, (fun _ => 0), (Option.some Jvm.ClassFile.FieldType.int))
def f_BT_send (v1 : Int) (M : Mm) : Option (Int × Mm) :=
  bI (f_Ways_plan v1 M) (fun r2 M1 =>
  if i32 r2 = i32 ((-1)) then
    bI (f_BT_refused 2 M1) (fun r4 M3 =>
    some (r4, M3))
  else
    if i32 r2 ≤ i32 9999 then
      bV (f_Now_keep M1) (fun M5 =>
      bV (f_Now_arrive v1 r2 M5) (fun M6 =>
      some (r2, M6)))
    else
      bI (f_BT_refused 2 M1) (fun r8 M7 =>
      some (r8, M7)))
set_option maxRecDepth 20000 in
set_option maxHeartbeats 4000000 in
theorem c_BT_send (d : Nat) (v1 : Int) (M : Mm) (Q : Option Value → Mm → Prop) (h : sat injI (f_BT_send v1 M) Q) : Ct (d + 9) y_BT_send [.ref 0, vI v1] M Q := by
  refine ct_in (d := d + 8) mk_BT_send (Nat.le_of_ble_eq_true rfl) (?_ : T (E_BT_send d) injI 0 [(0, .ref 0), (1, vI v1)] [] M (f_BT_send v1 M)) h
  unfold f_BT_send
  refine tq_aload_n 0 (E := E_BT_send d) (pc := 0) (cks_at k_BT_send 0 rfl rfl) rfl ?_
  refine tq_getR (j := 48) (E := E_BT_send d) (pc := 1) (cks_at k_BT_send 1 rfl rfl) fo_BT_58 so_0 rfl sp_0_6 ?_
  refine tq_iload_n 1 (E := E_BT_send d) (pc := 4) (cks_at k_BT_send 2 rfl rfl) rfl ?_
  refine tq_V1 (E := E_BT_send d) (pc := 5) (cks_at k_BT_send 3 rfl rfl) mk_Ways_plan lk_BT_205 rc_48 (Nat.le_of_ble_eq_true rfl) (c_Ways_plan (d + 0) v1 M) (k_I fun r2 M1 => ?_)
  refine tq_istore_n (E := E_BT_send d) (pc := 8) (cks_at k_BT_send 4 rfl rfl) (show 2 < 3 by decide) rfl ?_
  refine tq_iload_n 0 (E := E_BT_send d) (pc := 9) (cks_at k_BT_send 5 rfl rfl) rfl ?_
  refine tq_iconst (E := E_BT_send d) (pc := 10) (cks_at k_BT_send 6 rfl rfl) ?_
  refine tq_icmp_eq (E := E_BT_send d) (pc := 11) (tgt := 21) (cks_at k_BT_send 7 rfl rfl) (by decide) ?_ ?_
  · refine tq_aload_n 1 (E := E_BT_send d) (pc := 21) (cks_at k_BT_send 11 rfl rfl) rfl ?_
    refine tq_iconst (E := E_BT_send d) (pc := 22) (cks_at k_BT_send 12 rfl rfl) ?_
    refine tq_V1 (E := E_BT_send d) (pc := 23) (cks_at k_BT_send 13 rfl rfl) mk_BT_refused lk_BT_105 rc_0 (Nat.le_of_ble_eq_true rfl) (c_BT_refused (d + 6) 2 M1) (k_I fun r4 M3 => ?_)
    exact tq_iret (E := E_BT_send d) (pc := 26) (cks_at k_BT_send 14 rfl rfl) rfl
  · refine tq_iload_n 0 (E := E_BT_send d) (pc := 14) (cks_at k_BT_send 8 rfl rfl) rfl ?_
    refine tq_sipush (E := E_BT_send d) (pc := 15) (cks_at k_BT_send 9 rfl rfl) (by decide) (by decide) ?_
    refine tq_icmp_le (E := E_BT_send d) (pc := 18) (tgt := 27) (cks_at k_BT_send 10 rfl rfl) (by decide) ?_ ?_
    · refine tq_aload_n 1 (E := E_BT_send d) (pc := 27) (cks_at k_BT_send 15 rfl rfl) rfl ?_
      refine tq_getR (j := 39) (E := E_BT_send d) (pc := 28) (cks_at k_BT_send 16 rfl rfl) fo_BT_40 so_0 rfl sp_0_4 ?_
      refine tq_V0 (E := E_BT_send d) (pc := 31) (cks_at k_BT_send 17 rfl rfl) mk_Now_keep lk_BT_251 rc_39 (Nat.le_of_ble_eq_true rfl) (c_Now_keep (d + 5) M1) (k_V fun M5 => ?_)
      refine tq_aload_n 1 (E := E_BT_send d) (pc := 34) (cks_at k_BT_send 18 rfl rfl) rfl ?_
      refine tq_getR (j := 39) (E := E_BT_send d) (pc := 35) (cks_at k_BT_send 19 rfl rfl) fo_BT_40 so_0 rfl sp_0_4 ?_
      refine tq_iload_n 2 (E := E_BT_send d) (pc := 38) (cks_at k_BT_send 20 rfl rfl) rfl ?_
      refine tq_iload_n 0 (E := E_BT_send d) (pc := 39) (cks_at k_BT_send 21 rfl rfl) rfl ?_
      refine tq_V2 (E := E_BT_send d) (pc := 40) (cks_at k_BT_send 22 rfl rfl) mk_Now_arrive lk_BT_254 rc_39 (Nat.le_of_ble_eq_true rfl) (c_Now_arrive (d + 6) v1 r2 M5) (k_V fun M6 => ?_)
      refine tq_iload_n 0 (E := E_BT_send d) (pc := 43) (cks_at k_BT_send 23 rfl rfl) rfl ?_
      exact tq_iret (E := E_BT_send d) (pc := 44) (cks_at k_BT_send 24 rfl rfl) rfl
    · refine tq_aload_n 1 (E := E_BT_send d) (pc := 21) (cks_at k_BT_send 11 rfl rfl) rfl ?_
      refine tq_iconst (E := E_BT_send d) (pc := 22) (cks_at k_BT_send 12 rfl rfl) ?_
      refine tq_V1 (E := E_BT_send d) (pc := 23) (cks_at k_BT_send 13 rfl rfl) mk_BT_refused lk_BT_105 rc_0 (Nat.le_of_ble_eq_true rfl) (c_BT_refused (d + 6) 2 M1) (k_I fun r8 M7 => ?_)
      exact tq_iret (E := E_BT_send d) (pc := 26) (cks_at k_BT_send 14 rfl rfl) rfl
abbrev E_M_go (d : Nat) : Ev := (Ct (d + 1), "BreathTownModel", prog_14_method_103_code, 2, False, 0, (fun _ => 0), (Option.some Jvm.ClassFile.FieldType.int))
def f_M_go_J26 (M : Mm) : Option (Int × Mm) :=
  bd (up M 80 2 ((M 80 2) + 1)) (fun M3 =>
  some ((-1), M3))
set_option maxRecDepth 20000 in
set_option maxHeartbeats 4000000 in
theorem w_M_go_J26 (d : Nat) (M : Mm) : T (E_M_go d) injI 26 [(0, .ref 78)] [] M (f_M_go_J26 M) := by
  unfold f_M_go_J26
  refine tq_aload_n 0 (E := E_M_go d) (pc := 26) (cks_at k_M_go 14 rfl rfl) rfl ?_
  refine tq_getR (j := 80) (E := E_M_go d) (pc := 27) (cks_at k_M_go 15 rfl rfl) fo_M_17 so_78 rfl sp_78_9 ?_
  refine tq_iconst (E := E_M_go d) (pc := 30) (cks_at k_M_go 16 rfl rfl) ?_
  refine tq_dup2 (E := E_M_go d) (pc := 31) (cks_at k_M_go 17 rfl rfl) rfl rfl ?_
  refine tq_ialdC 2 (E := E_M_go d) (pc := 32) (cks_at k_M_go 18 rfl rfl) sa_80 sn_80 (by decide) ?_
  refine tq_iconst (E := E_M_go d) (pc := 33) (cks_at k_M_go 19 rfl rfl) ?_
  refine tq_iadd (E := E_M_go d) (pc := 34) (cks_at k_M_go 20 rfl rfl) ?_
  refine tq_iastC (E := E_M_go d) (pc := 35) 2 (cks_at k_M_go 21 rfl rfl) sa_80 sn_80 (by decide) (fun M3 => ?_)
  refine tq_iconst (E := E_M_go d) (pc := 36) (cks_at k_M_go 22 rfl rfl) ?_
  exact tq_iret (E := E_M_go d) (pc := 37) (cks_at k_M_go 23 rfl rfl) rfl
def f_M_go (v1 : Int) (M : Mm) : Option (Int × Mm) :=
  bI (f_M_isIn (i32 v1) 1 500 M) (fun r2 M1 =>
  if i32 r2 = 0 then
    f_M_go_J26 M1
  else
    if i32 ((M1 108 0) + v1) ≤ i32 9999 then
      bV (f_M_keeps M1) (fun M4 =>
      bd (up M4 108 0 ((M4 108 0) + v1)) (fun M5 =>
      some (M5 108 0, M5)))
    else
      f_M_go_J26 M1)
set_option maxRecDepth 20000 in
set_option maxHeartbeats 4000000 in
theorem c_M_go (d : Nat) (v1 : Int) (M : Mm) (Q : Option Value → Mm → Prop) (h : sat injI (f_M_go v1 M) Q) : Ct (d + 2) y_M_go [.ref 78, vI v1] M Q := by
  refine ct_in (d := d + 1) mk_M_go (Nat.le_of_ble_eq_true rfl) (?_ : T (E_M_go d) injI 0 [(0, .ref 78), (1, vI v1)] [] M (f_M_go v1 M)) h
  unfold f_M_go
  refine tq_iload_n 1 (E := E_M_go d) (pc := 0) (cks_at k_M_go 0 rfl rfl) rfl ?_
  refine tq_i2l (E := E_M_go d) (pc := 1) (cks_at k_M_go 1 rfl rfl) ?_
  refine tq_lconst1 (E := E_M_go d) (pc := 2) (cks_at k_M_go 2 rfl rfl) ?_
  refine tq_ldc2 (z := 500) (E := E_M_go d) (pc := 3) (cks_at k_M_go 3 rfl rfl) cst_M_584 ?_
  refine tq_S3 (E := E_M_go d) (pc := 6) (cks_at k_M_go 4 rfl rfl) mk_M_isIn lk_M_265 (Nat.le_of_ble_eq_true rfl) (c_M_isIn (d + 0) (i32 v1) 1 500 M) (k_I fun r2 M1 => ?_)
  refine tq_if_eq (E := E_M_go d) (pc := 9) (tgt := 26) (cks_at k_M_go 5 rfl rfl) (by decide) ?_ ?_
  · exact tq_sub [0] rfl (w_M_go_J26 d M1)
  · refine tq_aload_n 0 (E := E_M_go d) (pc := 12) (cks_at k_M_go 6 rfl rfl) rfl ?_
    refine tq_getR (j := 108) (E := E_M_go d) (pc := 13) (cks_at k_M_go 7 rfl rfl) fo_M_103 so_78 rfl sp_78_45 ?_
    refine tq_iconst (E := E_M_go d) (pc := 16) (cks_at k_M_go 8 rfl rfl) ?_
    refine tq_ialdC 0 (E := E_M_go d) (pc := 17) (cks_at k_M_go 9 rfl rfl) sa_108 sn_108 (by decide) ?_
    refine tq_iload_n 1 (E := E_M_go d) (pc := 18) (cks_at k_M_go 10 rfl rfl) rfl ?_
    refine tq_iadd (E := E_M_go d) (pc := 19) (cks_at k_M_go 11 rfl rfl) ?_
    refine tq_sipush (E := E_M_go d) (pc := 20) (cks_at k_M_go 12 rfl rfl) (by decide) (by decide) ?_
    refine tq_icmp_le (E := E_M_go d) (pc := 23) (tgt := 38) (cks_at k_M_go 13 rfl rfl) (by decide) ?_ ?_
    · refine tq_aload_n 0 (E := E_M_go d) (pc := 38) (cks_at k_M_go 24 rfl rfl) rfl ?_
      refine tq_V0 (E := E_M_go d) (pc := 39) (cks_at k_M_go 25 rfl rfl) mk_M_keeps lk_M_586 rc_78 (Nat.le_of_ble_eq_true rfl) (c_M_keeps (d + 0) M1) (k_V fun M4 => ?_)
      refine tq_aload_n 0 (E := E_M_go d) (pc := 42) (cks_at k_M_go 26 rfl rfl) rfl ?_
      refine tq_getR (j := 108) (E := E_M_go d) (pc := 43) (cks_at k_M_go 27 rfl rfl) fo_M_103 so_78 rfl sp_78_45 ?_
      refine tq_iconst (E := E_M_go d) (pc := 46) (cks_at k_M_go 28 rfl rfl) ?_
      refine tq_dup2 (E := E_M_go d) (pc := 47) (cks_at k_M_go 29 rfl rfl) rfl rfl ?_
      refine tq_ialdC 0 (E := E_M_go d) (pc := 48) (cks_at k_M_go 30 rfl rfl) sa_108 sn_108 (by decide) ?_
      refine tq_iload_n 1 (E := E_M_go d) (pc := 49) (cks_at k_M_go 31 rfl rfl) rfl ?_
      refine tq_iadd (E := E_M_go d) (pc := 50) (cks_at k_M_go 32 rfl rfl) ?_
      refine tq_iastC (E := E_M_go d) (pc := 51) 0 (cks_at k_M_go 33 rfl rfl) sa_108 sn_108 (by decide) (fun M5 => ?_)
      refine tq_aload_n 0 (E := E_M_go d) (pc := 52) (cks_at k_M_go 34 rfl rfl) rfl ?_
      refine tq_getR (j := 108) (E := E_M_go d) (pc := 53) (cks_at k_M_go 35 rfl rfl) fo_M_103 so_78 rfl sp_78_45 ?_
      refine tq_iconst (E := E_M_go d) (pc := 56) (cks_at k_M_go 36 rfl rfl) ?_
      refine tq_ialdC 0 (E := E_M_go d) (pc := 57) (cks_at k_M_go 37 rfl rfl) sa_108 sn_108 (by decide) ?_
      exact tq_iret (E := E_M_go d) (pc := 58) (cks_at k_M_go 38 rfl rfl) rfl
    · exact tq_sub [0] rfl (w_M_go_J26 d M1)
abbrev E_BT_go (d : Nat) : Ev := (Ct (d + 3), "BreathTown", prog_1_method_22_code, 2, False, 0, (fun _ => 0), (Option.some Jvm.ClassFile.FieldType.int))
def f_BT_go (v1 : Int) (M : Mm) : Option (Int × Mm) :=
  if i32 v1 < i32 1 then
    bI (f_BT_refused 2 M) (fun r2 M1 =>
    some (r2, M1))
  else
    if i32 500 < i32 v1 then
      bI (f_BT_refused 2 M) (fun r4 M3 =>
      some (r4, M3))
    else
      if i32 ((M 39 8) + v1) ≤ i32 9999 then
        bV (f_Now_keep M) (fun M5 =>
        bd (up M5 39 8 ((M5 39 8) + v1)) (fun M6 =>
        some (M6 39 8, M6)))
      else
        bI (f_BT_refused 2 M) (fun r8 M7 =>
        some (r8, M7))
set_option maxRecDepth 20000 in
set_option maxHeartbeats 4000000 in
theorem c_BT_go (d : Nat) (v1 : Int) (M : Mm) (Q : Option Value → Mm → Prop) (h : sat injI (f_BT_go v1 M) Q) : Ct (d + 4) y_BT_go [.ref 0, vI v1] M Q := by
  refine ct_in (d := d + 3) mk_BT_go (Nat.le_of_ble_eq_true rfl) (?_ : T (E_BT_go d) injI 0 [(0, .ref 0), (1, vI v1)] [] M (f_BT_go v1 M)) h
  unfold f_BT_go
  refine tq_iload_n 1 (E := E_BT_go d) (pc := 0) (cks_at k_BT_go 0 rfl rfl) rfl ?_
  refine tq_iconst (E := E_BT_go d) (pc := 1) (cks_at k_BT_go 1 rfl rfl) ?_
  refine tq_icmp_lt (E := E_BT_go d) (pc := 2) (tgt := 27) (cks_at k_BT_go 2 rfl rfl) (by decide) ?_ ?_
  · refine tq_aload_n 0 (E := E_BT_go d) (pc := 27) (cks_at k_BT_go 13 rfl rfl) rfl ?_
    refine tq_iconst (E := E_BT_go d) (pc := 28) (cks_at k_BT_go 14 rfl rfl) ?_
    refine tq_V1 (E := E_BT_go d) (pc := 29) (cks_at k_BT_go 15 rfl rfl) mk_BT_refused lk_BT_105 rc_0 (Nat.le_of_ble_eq_true rfl) (c_BT_refused (d + 1) 2 M) (k_I fun r2 M1 => ?_)
    exact tq_iret (E := E_BT_go d) (pc := 32) (cks_at k_BT_go 16 rfl rfl) rfl
  · refine tq_iload_n 1 (E := E_BT_go d) (pc := 5) (cks_at k_BT_go 3 rfl rfl) rfl ?_
    refine tq_sipush (E := E_BT_go d) (pc := 6) (cks_at k_BT_go 4 rfl rfl) (by decide) (by decide) ?_
    refine tq_icmp_gt (E := E_BT_go d) (pc := 9) (tgt := 27) (cks_at k_BT_go 5 rfl rfl) (by decide) ?_ ?_
    · refine tq_aload_n 0 (E := E_BT_go d) (pc := 27) (cks_at k_BT_go 13 rfl rfl) rfl ?_
      refine tq_iconst (E := E_BT_go d) (pc := 28) (cks_at k_BT_go 14 rfl rfl) ?_
      refine tq_V1 (E := E_BT_go d) (pc := 29) (cks_at k_BT_go 15 rfl rfl) mk_BT_refused lk_BT_105 rc_0 (Nat.le_of_ble_eq_true rfl) (c_BT_refused (d + 1) 2 M) (k_I fun r4 M3 => ?_)
      exact tq_iret (E := E_BT_go d) (pc := 32) (cks_at k_BT_go 16 rfl rfl) rfl
    · refine tq_aload_n 0 (E := E_BT_go d) (pc := 12) (cks_at k_BT_go 6 rfl rfl) rfl ?_
      refine tq_getR (j := 39) (E := E_BT_go d) (pc := 13) (cks_at k_BT_go 7 rfl rfl) fo_BT_40 so_0 rfl sp_0_4 ?_
      refine tq_getI (E := E_BT_go d) (pc := 16) (cks_at k_BT_go 8 rfl rfl) fo_BT_134 so_39 rfl (by decide) ?_
      refine tq_iload_n 1 (E := E_BT_go d) (pc := 19) (cks_at k_BT_go 9 rfl rfl) rfl ?_
      refine tq_iadd (E := E_BT_go d) (pc := 20) (cks_at k_BT_go 10 rfl rfl) ?_
      refine tq_sipush (E := E_BT_go d) (pc := 21) (cks_at k_BT_go 11 rfl rfl) (by decide) (by decide) ?_
      refine tq_icmp_le (E := E_BT_go d) (pc := 24) (tgt := 33) (cks_at k_BT_go 12 rfl rfl) (by decide) ?_ ?_
      · refine tq_aload_n 0 (E := E_BT_go d) (pc := 33) (cks_at k_BT_go 17 rfl rfl) rfl ?_
        refine tq_getR (j := 39) (E := E_BT_go d) (pc := 34) (cks_at k_BT_go 18 rfl rfl) fo_BT_40 so_0 rfl sp_0_4 ?_
        refine tq_V0 (E := E_BT_go d) (pc := 37) (cks_at k_BT_go 19 rfl rfl) mk_Now_keep lk_BT_251 rc_39 (Nat.le_of_ble_eq_true rfl) (c_Now_keep (d + 0) M) (k_V fun M5 => ?_)
        refine tq_aload_n 0 (E := E_BT_go d) (pc := 40) (cks_at k_BT_go 20 rfl rfl) rfl ?_
        refine tq_getR (j := 39) (E := E_BT_go d) (pc := 41) (cks_at k_BT_go 21 rfl rfl) fo_BT_40 so_0 rfl sp_0_4 ?_
        refine tq_dup (E := E_BT_go d) (pc := 44) (cks_at k_BT_go 22 rfl rfl) rfl ?_
        refine tq_getI (E := E_BT_go d) (pc := 45) (cks_at k_BT_go 23 rfl rfl) fo_BT_134 so_39 rfl (by decide) ?_
        refine tq_iload_n 1 (E := E_BT_go d) (pc := 48) (cks_at k_BT_go 24 rfl rfl) rfl ?_
        refine tq_iadd (E := E_BT_go d) (pc := 49) (cks_at k_BT_go 25 rfl rfl) ?_
        refine tq_putI (E := E_BT_go d) (pc := 50) (cks_at k_BT_go 26 rfl rfl) fo_BT_134 so_39 rfl po_2_8 (fun M6 => ?_)
        refine tq_aload_n 0 (E := E_BT_go d) (pc := 53) (cks_at k_BT_go 27 rfl rfl) rfl ?_
        refine tq_getR (j := 39) (E := E_BT_go d) (pc := 54) (cks_at k_BT_go 28 rfl rfl) fo_BT_40 so_0 rfl sp_0_4 ?_
        refine tq_getI (E := E_BT_go d) (pc := 57) (cks_at k_BT_go 29 rfl rfl) fo_BT_134 so_39 rfl (by decide) ?_
        exact tq_iret (E := E_BT_go d) (pc := 60) (cks_at k_BT_go 30 rfl rfl) rfl
      · refine tq_aload_n 0 (E := E_BT_go d) (pc := 27) (cks_at k_BT_go 13 rfl rfl) rfl ?_
        refine tq_iconst (E := E_BT_go d) (pc := 28) (cks_at k_BT_go 14 rfl rfl) ?_
        refine tq_V1 (E := E_BT_go d) (pc := 29) (cks_at k_BT_go 15 rfl rfl) mk_BT_refused lk_BT_105 rc_0 (Nat.le_of_ble_eq_true rfl) (c_BT_refused (d + 1) 2 M) (k_I fun r8 M7 => ?_)
        exact tq_iret (E := E_BT_go d) (pc := 32) (cks_at k_BT_go 16 rfl rfl) rfl
abbrev E_M_placeMany (d : Nat) : Ev := (Ct (d + 0), "BreathTownModel", prog_14_method_43_code, 1, False, 0, (fun _ => 0), (Option.some Jvm.ClassFile.FieldType.int))
def f_M_placeMany (M : Mm) : Option (Int × Mm) :=
  some (M 98 3, M)
set_option maxRecDepth 20000 in
set_option maxHeartbeats 4000000 in
theorem c_M_placeMany (d : Nat) (M : Mm) (Q : Option Value → Mm → Prop) (h : sat injI (f_M_placeMany M) Q) : Ct (d + 1) y_M_placeMany [.ref 78] M Q := by
  refine ct_in (d := d + 0) mk_M_placeMany (Nat.le_of_ble_eq_true rfl) (?_ : T (E_M_placeMany d) injI 0 [(0, .ref 78)] [] M (f_M_placeMany M)) h
  unfold f_M_placeMany
  refine tq_aload_n 0 (E := E_M_placeMany d) (pc := 0) (cks_at k_M_placeMany 0 rfl rfl) rfl ?_
  refine tq_getR (j := 98) (E := E_M_placeMany d) (pc := 1) (cks_at k_M_placeMany 1 rfl rfl) fo_M_72 so_78 rfl sp_78_28 ?_
  refine tq_iconst (E := E_M_placeMany d) (pc := 4) (cks_at k_M_placeMany 2 rfl rfl) ?_
  refine tq_ialdC 3 (E := E_M_placeMany d) (pc := 5) (cks_at k_M_placeMany 3 rfl rfl) sa_98 sn_98 (by decide) ?_
  exact tq_iret (E := E_M_placeMany d) (pc := 6) (cks_at k_M_placeMany 4 rfl rfl) rfl
abbrev E_M_reaches (d : Nat) : Ev := (Ct (d + 11), "BreathTownModel", prog_14_method_96_code, 8, False, 0, (fun _ => 0), (Option.none : Option Jvm.ClassFile.FieldType))
def f_M_reaches_B55 (kH : Int → Int → Int → Int → Int → Int → Int → Mm → Option (Mm)) (kx93 : Int → Int → Int → Int → Int → Mm → Option (Mm)) (v1 v2 v3 v4 v5 v6 v7 : Int) (M : Mm) : Option (Mm) :=
  bI (f_M_placeMany M) (fun r6 M5 =>
  if i32 r6 ≤ i32 v7 then
    kx93 v1 v2 v3 v4 v6 M5
  else
    gd (0 ≤ i32 v7 ∧ i32 v7 < ((9 : Nat) : Int)) <|
    if i32 (v5 + v2) < i32 (M5 110 (i32 v7).toNat) then
      kH v1 v2 v3 v4 v5 v6 (v7 + 1) M5
    else
      kH v1 v2 v3 v4 v5 (or32 v6 (shl32 1 v7)) (v7 + 1) M5)
set_option maxRecDepth 20000 in
set_option maxHeartbeats 4000000 in
theorem w_M_reaches_B55 (d : Nat) (kH : Int → Int → Int → Int → Int → Int → Int → Mm → Option (Mm)) (kx93 : Int → Int → Int → Int → Int → Mm → Option (Mm)) (hkH : ∀ (v1 v2 v3 v4 v5 v6 v7 : Int) (M : Mm), T (E_M_reaches d) injV 55 [(0, .ref 78), (1, vI v1), (2, vI v2), (3, vI v3), (4, vI v4), (5, vI v5), (6, vI v6), (7, vI v7)] [] M (kH v1 v2 v3 v4 v5 v6 v7 M)) (hkx93 : ∀ (v1 v2 v3 v4 v6 : Int) (M : Mm), T (E_M_reaches d) injV 93 [(0, .ref 78), (1, vI v1), (2, vI v2), (3, vI v3), (4, vI v4), (6, vI v6)] [] M (kx93 v1 v2 v3 v4 v6 M)) (v1 v2 v3 v4 v5 v6 v7 : Int) (M : Mm) : T (E_M_reaches d) injV 55 [(0, .ref 78), (1, vI v1), (2, vI v2), (3, vI v3), (4, vI v4), (5, vI v5), (6, vI v6), (7, vI v7)] [] M (f_M_reaches_B55 kH kx93 v1 v2 v3 v4 v5 v6 v7 M) := by
  unfold f_M_reaches_B55
  refine tq_iload 7 (E := E_M_reaches d) (pc := 55) (cks_at k_M_reaches 34 rfl rfl) rfl ?_
  refine tq_aload_n 0 (E := E_M_reaches d) (pc := 57) (cks_at k_M_reaches 35 rfl rfl) rfl ?_
  refine tq_V0 (E := E_M_reaches d) (pc := 58) (cks_at k_M_reaches 36 rfl rfl) mk_M_placeMany lk_M_409 rc_78 (Nat.le_of_ble_eq_true rfl) (c_M_placeMany (d + 10) M) (k_I fun r6 M5 => ?_)
  refine tq_icmp_ge (E := E_M_reaches d) (pc := 61) (tgt := 93) (cks_at k_M_reaches 37 rfl rfl) (by decide) ?_ ?_
  · exact tq_sub [0, 1, 2, 3, 4, 6] rfl (hkx93 v1 v2 v3 v4 v6 M5)
  · refine tq_aload_n 0 (E := E_M_reaches d) (pc := 64) (cks_at k_M_reaches 38 rfl rfl) rfl ?_
    refine tq_getR (j := 110) (E := E_M_reaches d) (pc := 65) (cks_at k_M_reaches 39 rfl rfl) fo_M_109 so_78 rfl sp_78_48 ?_
    refine tq_iload 7 (E := E_M_reaches d) (pc := 68) (cks_at k_M_reaches 40 rfl rfl) rfl ?_
    refine tq_iald (E := E_M_reaches d) (pc := 70) (cks_at k_M_reaches 41 rfl rfl) sa_110 sn_110 ?_
    refine tq_iload 5 (E := E_M_reaches d) (pc := 71) (cks_at k_M_reaches 42 rfl rfl) rfl ?_
    refine tq_iload_n 2 (E := E_M_reaches d) (pc := 73) (cks_at k_M_reaches 43 rfl rfl) rfl ?_
    refine tq_iadd (E := E_M_reaches d) (pc := 74) (cks_at k_M_reaches 44 rfl rfl) ?_
    refine tq_icmp_gt (E := E_M_reaches d) (pc := 75) (tgt := 87) (cks_at k_M_reaches 45 rfl rfl) (by decide) ?_ ?_
    · refine tq_iinc 7 (E := E_M_reaches d) (pc := 87) (cks_at k_M_reaches 52 rfl rfl) rfl (show 7 < 8 by decide) rfl ?_
      refine tq_goto (tgt := 55) (E := E_M_reaches d) (pc := 90) (cks_at k_M_reaches 53 rfl rfl) (by decide) ?_
      exact tq_sub [1, 2, 3, 4, 5, 6, 7, 0] rfl (hkH v1 v2 v3 v4 v5 v6 (v7 + 1) M5)
    · refine tq_iload 6 (E := E_M_reaches d) (pc := 78) (cks_at k_M_reaches 46 rfl rfl) rfl ?_
      refine tq_iconst (E := E_M_reaches d) (pc := 80) (cks_at k_M_reaches 47 rfl rfl) ?_
      refine tq_iload 7 (E := E_M_reaches d) (pc := 81) (cks_at k_M_reaches 48 rfl rfl) rfl ?_
      refine tq_ishl (E := E_M_reaches d) (pc := 83) (cks_at k_M_reaches 49 rfl rfl) ?_
      refine tq_ior (E := E_M_reaches d) (pc := 84) (cks_at k_M_reaches 50 rfl rfl) ?_
      refine tq_istore (E := E_M_reaches d) (pc := 85) (cks_at k_M_reaches 51 rfl rfl) (show 6 < 8 by decide) rfl ?_
      refine tq_iinc 7 (E := E_M_reaches d) (pc := 87) (cks_at k_M_reaches 52 rfl rfl) rfl (show 7 < 8 by decide) rfl ?_
      refine tq_goto (tgt := 55) (E := E_M_reaches d) (pc := 90) (cks_at k_M_reaches 53 rfl rfl) (by decide) ?_
      exact tq_sub [2, 3, 4, 5, 6, 7, 1, 0] rfl (hkH v1 v2 v3 v4 v5 (or32 v6 (shl32 1 v7)) (v7 + 1) M5)
def f_M_reaches_L55 (kx93 : Int → Int → Int → Int → Int → Mm → Option (Mm)) : Nat → Int × Int × Int × Int × Int × Int × Int × Mm → Option (Mm) := lp fun kH s => f_M_reaches_B55 (fun v1 v2 v3 v4 v5 v6 v7 M => kH (v1, v2, v3, v4, v5, v6, v7, M)) kx93 s.1 s.2.1 s.2.2.1 s.2.2.2.1 s.2.2.2.2.1 s.2.2.2.2.2.1 s.2.2.2.2.2.2.1 s.2.2.2.2.2.2.2
set_option maxRecDepth 20000 in
set_option maxHeartbeats 4000000 in
theorem w_M_reaches_L55 (d : Nat) (kx93 : Int → Int → Int → Int → Int → Mm → Option (Mm)) (hkx93 : ∀ (v1 v2 v3 v4 v6 : Int) (M : Mm), T (E_M_reaches d) injV 93 [(0, .ref 78), (1, vI v1), (2, vI v2), (3, vI v3), (4, vI v4), (6, vI v6)] [] M (kx93 v1 v2 v3 v4 v6 M)) (n : Nat) (s : Int × Int × Int × Int × Int × Int × Int × Mm) : T (E_M_reaches d) injV 55 [(0, .ref 78), (1, vI s.1), (2, vI s.2.1), (3, vI s.2.2.1), (4, vI s.2.2.2.1), (5, vI s.2.2.2.2.1), (6, vI s.2.2.2.2.2.1), (7, vI s.2.2.2.2.2.2.1)] [] s.2.2.2.2.2.2.2 (f_M_reaches_L55 kx93 n s) :=
  tq_lp (fun s => [(0, .ref 78), (1, vI s.1), (2, vI s.2.1), (3, vI s.2.2.1), (4, vI s.2.2.2.1), (5, vI s.2.2.2.2.1), (6, vI s.2.2.2.2.2.1), (7, vI s.2.2.2.2.2.2.1)]) (fun s => s.2.2.2.2.2.2.2) (fun kH hH s => w_M_reaches_B55 d (fun v1 v2 v3 v4 v5 v6 v7 M => kH (v1, v2, v3, v4, v5, v6, v7, M)) kx93 (fun v1 v2 v3 v4 v5 v6 v7 M => hH (v1, v2, v3, v4, v5, v6, v7, M)) hkx93 s.1 s.2.1 s.2.2.1 s.2.2.2.1 s.2.2.2.2.1 s.2.2.2.2.2.1 s.2.2.2.2.2.2.1 s.2.2.2.2.2.2.2) n s
def f_M_reaches_B18 (kH : Int → Int → Int → Int → Mm → Option (Mm)) (kx113 : Int → Int → Int → Mm → Option (Mm)) (v1 v2 v3 v4 : Int) (M : Mm) : Option (Mm) :=
  if i32 24 ≤ i32 v4 then
    kx113 v1 v2 v3 M
  else
    bV (f_M_spreads v3 ((M 108 0) + v4) v1 (((M 108 0) + v4) + v2) ((-1)) M) (fun M4 =>
    f_M_reaches_L55 (fun v1 v2 v3 v4 v6 M7 => gd (0 ≤ i32 ((24 * v3) + v4) ∧ i32 ((24 * v3) + v4) < ((216 : Nat) : Int)) <|
        bd (up M7 118 (i32 ((24 * v3) + v4)).toNat v6) (fun M8 =>
        kH v1 v2 v3 (v4 + 1) M8)) FU (v1, v2, v3, v4, ((M 108 0) + v4), 0, 0, M4))
set_option maxRecDepth 20000 in
set_option maxHeartbeats 4000000 in
theorem w_M_reaches_B18 (d : Nat) (kH : Int → Int → Int → Int → Mm → Option (Mm)) (kx113 : Int → Int → Int → Mm → Option (Mm)) (hkH : ∀ (v1 v2 v3 v4 : Int) (M : Mm), T (E_M_reaches d) injV 18 [(0, .ref 78), (1, vI v1), (2, vI v2), (3, vI v3), (4, vI v4)] [] M (kH v1 v2 v3 v4 M)) (hkx113 : ∀ (v1 v2 v3 : Int) (M : Mm), T (E_M_reaches d) injV 113 [(0, .ref 78), (1, vI v1), (2, vI v2), (3, vI v3)] [] M (kx113 v1 v2 v3 M)) (v1 v2 v3 v4 : Int) (M : Mm) : T (E_M_reaches d) injV 18 [(0, .ref 78), (1, vI v1), (2, vI v2), (3, vI v3), (4, vI v4)] [] M (f_M_reaches_B18 kH kx113 v1 v2 v3 v4 M) := by
  unfold f_M_reaches_B18
  refine tq_iload 4 (E := E_M_reaches d) (pc := 18) (cks_at k_M_reaches 11 rfl rfl) rfl ?_
  refine tq_bipush (E := E_M_reaches d) (pc := 20) (cks_at k_M_reaches 12 rfl rfl) (by decide) (by decide) ?_
  refine tq_icmp_ge (E := E_M_reaches d) (pc := 22) (tgt := 113) (cks_at k_M_reaches 13 rfl rfl) (by decide) ?_ ?_
  · exact tq_sub [0, 1, 2, 3] rfl (hkx113 v1 v2 v3 M)
  · refine tq_aload_n 0 (E := E_M_reaches d) (pc := 25) (cks_at k_M_reaches 14 rfl rfl) rfl ?_
    refine tq_getR (j := 108) (E := E_M_reaches d) (pc := 26) (cks_at k_M_reaches 15 rfl rfl) fo_M_103 so_78 rfl sp_78_45 ?_
    refine tq_iconst (E := E_M_reaches d) (pc := 29) (cks_at k_M_reaches 16 rfl rfl) ?_
    refine tq_ialdC 0 (E := E_M_reaches d) (pc := 30) (cks_at k_M_reaches 17 rfl rfl) sa_108 sn_108 (by decide) ?_
    refine tq_iload 4 (E := E_M_reaches d) (pc := 31) (cks_at k_M_reaches 18 rfl rfl) rfl ?_
    refine tq_iadd (E := E_M_reaches d) (pc := 33) (cks_at k_M_reaches 19 rfl rfl) ?_
    refine tq_istore (E := E_M_reaches d) (pc := 34) (cks_at k_M_reaches 20 rfl rfl) (show 5 < 8 by decide) rfl ?_
    refine tq_aload_n 1 (E := E_M_reaches d) (pc := 36) (cks_at k_M_reaches 21 rfl rfl) rfl ?_
    refine tq_iload_n 4 (E := E_M_reaches d) (pc := 37) (cks_at k_M_reaches 22 rfl rfl) rfl ?_
    refine tq_iload 0 (E := E_M_reaches d) (pc := 38) (cks_at k_M_reaches 23 rfl rfl) rfl ?_
    refine tq_iload_n 2 (E := E_M_reaches d) (pc := 40) (cks_at k_M_reaches 24 rfl rfl) rfl ?_
    refine tq_iload 0 (E := E_M_reaches d) (pc := 41) (cks_at k_M_reaches 25 rfl rfl) rfl ?_
    refine tq_iload_n 3 (E := E_M_reaches d) (pc := 43) (cks_at k_M_reaches 26 rfl rfl) rfl ?_
    refine tq_iadd (E := E_M_reaches d) (pc := 44) (cks_at k_M_reaches 27 rfl rfl) ?_
    refine tq_iconst (E := E_M_reaches d) (pc := 45) (cks_at k_M_reaches 28 rfl rfl) ?_
    refine tq_V5 (E := E_M_reaches d) (pc := 46) (cks_at k_M_reaches 29 rfl rfl) mk_M_spreads lk_M_480 rc_78 (Nat.le_of_ble_eq_true rfl) (c_M_spreads (d + 0) v3 ((M 108 0) + v4) v1 (((M 108 0) + v4) + v2) ((-1)) M) (k_V fun M4 => ?_)
    refine tq_iconst (E := E_M_reaches d) (pc := 49) (cks_at k_M_reaches 30 rfl rfl) ?_
    refine tq_istore (E := E_M_reaches d) (pc := 50) (cks_at k_M_reaches 31 rfl rfl) (show 6 < 8 by decide) rfl ?_
    refine tq_iconst (E := E_M_reaches d) (pc := 52) (cks_at k_M_reaches 32 rfl rfl) ?_
    refine tq_istore (E := E_M_reaches d) (pc := 53) (cks_at k_M_reaches 33 rfl rfl) (show 7 < 8 by decide) rfl ?_
    exact tq_sub [3, 4, 5, 6, 7, 2, 1, 0] rfl (w_M_reaches_L55 d _ (fun v1 v2 v3 v4 v6 M7 => by
        refine tq_aload_n 0 (E := E_M_reaches d) (pc := 93) (cks_at k_M_reaches 54 rfl rfl) rfl ?_
        refine tq_getR (j := 118) (E := E_M_reaches d) (pc := 94) (cks_at k_M_reaches 55 rfl rfl) fo_M_133 so_78 rfl sp_78_59 ?_
        refine tq_bipush (E := E_M_reaches d) (pc := 97) (cks_at k_M_reaches 56 rfl rfl) (by decide) (by decide) ?_
        refine tq_iload_n 3 (E := E_M_reaches d) (pc := 99) (cks_at k_M_reaches 57 rfl rfl) rfl ?_
        refine tq_imul (E := E_M_reaches d) (pc := 100) (cks_at k_M_reaches 58 rfl rfl) ?_
        refine tq_iload 4 (E := E_M_reaches d) (pc := 101) (cks_at k_M_reaches 59 rfl rfl) rfl ?_
        refine tq_iadd (E := E_M_reaches d) (pc := 103) (cks_at k_M_reaches 60 rfl rfl) ?_
        refine tq_iload 5 (E := E_M_reaches d) (pc := 104) (cks_at k_M_reaches 61 rfl rfl) rfl ?_
        refine tq_iast (E := E_M_reaches d) (pc := 106) (cks_at k_M_reaches 62 rfl rfl) sa_118 sn_118 (fun M8 => ?_)
        refine tq_iinc 4 (E := E_M_reaches d) (pc := 107) (cks_at k_M_reaches 63 rfl rfl) rfl (show 4 < 8 by decide) rfl ?_
        refine tq_goto (tgt := 18) (E := E_M_reaches d) (pc := 110) (cks_at k_M_reaches 64 rfl rfl) (by decide) ?_
        exact tq_sub [1, 2, 3, 4, 0] rfl (hkH v1 v2 v3 (v4 + 1) M8)) FU (v1, v2, v3, v4, ((M 108 0) + v4), 0, 0, M4))
def f_M_reaches_L18 (kx113 : Int → Int → Int → Mm → Option (Mm)) : Nat → Int × Int × Int × Int × Mm → Option (Mm) := lp fun kH s => f_M_reaches_B18 (fun v1 v2 v3 v4 M => kH (v1, v2, v3, v4, M)) kx113 s.1 s.2.1 s.2.2.1 s.2.2.2.1 s.2.2.2.2
set_option maxRecDepth 20000 in
set_option maxHeartbeats 4000000 in
theorem w_M_reaches_L18 (d : Nat) (kx113 : Int → Int → Int → Mm → Option (Mm)) (hkx113 : ∀ (v1 v2 v3 : Int) (M : Mm), T (E_M_reaches d) injV 113 [(0, .ref 78), (1, vI v1), (2, vI v2), (3, vI v3)] [] M (kx113 v1 v2 v3 M)) (n : Nat) (s : Int × Int × Int × Int × Mm) : T (E_M_reaches d) injV 18 [(0, .ref 78), (1, vI s.1), (2, vI s.2.1), (3, vI s.2.2.1), (4, vI s.2.2.2.1)] [] s.2.2.2.2 (f_M_reaches_L18 kx113 n s) :=
  tq_lp (fun s => [(0, .ref 78), (1, vI s.1), (2, vI s.2.1), (3, vI s.2.2.1), (4, vI s.2.2.2.1)]) (fun s => s.2.2.2.2) (fun kH hH s => w_M_reaches_B18 d (fun v1 v2 v3 v4 M => kH (v1, v2, v3, v4, M)) kx113 (fun v1 v2 v3 v4 M => hH (v1, v2, v3, v4, M)) hkx113 s.1 s.2.1 s.2.2.1 s.2.2.2.1 s.2.2.2.2) n s
def f_M_reaches_B7 (kH : Int → Int → Int → Mm → Option (Mm)) (v1 v2 v3 : Int) (M : Mm) : Option (Mm) :=
  bI (f_M_placeMany M) (fun r3 M2 =>
  if i32 r3 ≤ i32 v3 then
    some M2
  else
    f_M_reaches_L18 (fun v1 v2 v3 M9 => kH v1 v2 (v3 + 1) M9) FU (v1, v2, v3, 0, M2))
set_option maxRecDepth 20000 in
set_option maxHeartbeats 4000000 in
theorem w_M_reaches_B7 (d : Nat) (kH : Int → Int → Int → Mm → Option (Mm)) (hkH : ∀ (v1 v2 v3 : Int) (M : Mm), T (E_M_reaches d) injV 7 [(0, .ref 78), (1, vI v1), (2, vI v2), (3, vI v3)] [] M (kH v1 v2 v3 M)) (v1 v2 v3 : Int) (M : Mm) : T (E_M_reaches d) injV 7 [(0, .ref 78), (1, vI v1), (2, vI v2), (3, vI v3)] [] M (f_M_reaches_B7 kH v1 v2 v3 M) := by
  unfold f_M_reaches_B7
  refine tq_iload_n 3 (E := E_M_reaches d) (pc := 7) (cks_at k_M_reaches 5 rfl rfl) rfl ?_
  refine tq_aload_n 0 (E := E_M_reaches d) (pc := 8) (cks_at k_M_reaches 6 rfl rfl) rfl ?_
  refine tq_V0 (E := E_M_reaches d) (pc := 9) (cks_at k_M_reaches 7 rfl rfl) mk_M_placeMany lk_M_409 rc_78 (Nat.le_of_ble_eq_true rfl) (c_M_placeMany (d + 10) M) (k_I fun r3 M2 => ?_)
  refine tq_icmp_ge (E := E_M_reaches d) (pc := 12) (tgt := 119) (cks_at k_M_reaches 8 rfl rfl) (by decide) ?_ ?_
  · exact tq_vret (E := E_M_reaches d) (pc := 119) (cks_at k_M_reaches 67 rfl rfl) rfl
  · refine tq_iconst (E := E_M_reaches d) (pc := 15) (cks_at k_M_reaches 9 rfl rfl) ?_
    refine tq_istore (E := E_M_reaches d) (pc := 16) (cks_at k_M_reaches 10 rfl rfl) (show 4 < 8 by decide) rfl ?_
    exact tq_sub [1, 2, 3, 4, 0] rfl (w_M_reaches_L18 d _ (fun v1 v2 v3 M9 => by
        refine tq_iinc 3 (E := E_M_reaches d) (pc := 113) (cks_at k_M_reaches 65 rfl rfl) rfl (show 3 < 8 by decide) rfl ?_
        refine tq_goto (tgt := 7) (E := E_M_reaches d) (pc := 116) (cks_at k_M_reaches 66 rfl rfl) (by decide) ?_
        exact tq_sub [1, 2, 3, 0] rfl (hkH v1 v2 (v3 + 1) M9)) FU (v1, v2, v3, 0, M2))
def f_M_reaches_L7 : Nat → Int × Int × Int × Mm → Option (Mm) := lp fun kH s => f_M_reaches_B7 (fun v1 v2 v3 M => kH (v1, v2, v3, M)) s.1 s.2.1 s.2.2.1 s.2.2.2
set_option maxRecDepth 20000 in
set_option maxHeartbeats 4000000 in
theorem w_M_reaches_L7 (d : Nat) (n : Nat) (s : Int × Int × Int × Mm) : T (E_M_reaches d) injV 7 [(0, .ref 78), (1, vI s.1), (2, vI s.2.1), (3, vI s.2.2.1)] [] s.2.2.2 (f_M_reaches_L7 n s) :=
  tq_lp (fun s => [(0, .ref 78), (1, vI s.1), (2, vI s.2.1), (3, vI s.2.2.1)]) (fun s => s.2.2.2) (fun kH hH s => w_M_reaches_B7 d (fun v1 v2 v3 M => kH (v1, v2, v3, M)) (fun v1 v2 v3 M => hH (v1, v2, v3, M)) s.1 s.2.1 s.2.2.1 s.2.2.2) n s
def f_M_reaches (v1 : Int) (v2 : Int) (M : Mm) : Option (Mm) :=
  bd (up M 78 47 0) (fun M1 =>
  f_M_reaches_L7 FU (v1, v2, 0, M1))
set_option maxRecDepth 20000 in
set_option maxHeartbeats 4000000 in
theorem c_M_reaches (d : Nat) (v1 : Int) (v2 : Int) (M : Mm) (Q : Option Value → Mm → Prop) (h : sat injV (f_M_reaches v1 v2 M) Q) : Ct (d + 12) y_M_reaches [.ref 78, vI v1, vI v2] M Q := by
  refine ct_in (d := d + 11) mk_M_reaches (Nat.le_of_ble_eq_true rfl) (?_ : T (E_M_reaches d) injV 0 [(0, .ref 78), (1, vI v1), (2, vI v2)] [] M (f_M_reaches v1 v2 M)) h
  unfold f_M_reaches
  refine tq_aload_n 0 (E := E_M_reaches d) (pc := 0) (cks_at k_M_reaches 0 rfl rfl) rfl ?_
  refine tq_iconst (E := E_M_reaches d) (pc := 1) (cks_at k_M_reaches 1 rfl rfl) ?_
  refine tq_putI (E := E_M_reaches d) (pc := 2) (cks_at k_M_reaches 2 rfl rfl) fo_M_447 so_78 rfl po_12_47 (fun M1 => ?_)
  refine tq_iconst (E := E_M_reaches d) (pc := 5) (cks_at k_M_reaches 3 rfl rfl) ?_
  refine tq_istore_n (E := E_M_reaches d) (pc := 6) (cks_at k_M_reaches 4 rfl rfl) (show 3 < 8 by decide) rfl ?_
  exact tq_sub [1, 2, 3, 0] rfl (w_M_reaches_L7 d FU (v1, v2, 0, M1))
abbrev E_M_areEnough (d : Nat) : Ev := (Ct (d + 1), "BreathTownModel", prog_14_method_97_code, 6, False, 0, (fun _ => 0), (Option.some Jvm.ClassFile.FieldType.boolean))
def f_M_areEnough_B13 (kH : Int → Int → Int → Int → Int → Mm → Option (Int × Mm)) (v1 v2 v3 v4 v5 : Int) (M : Mm) : Option (Int × Mm) :=
  if i32 24 ≤ i32 v5 then
    some (1, M)
  else
    gd (0 ≤ i32 ((24 * v1) + v5) ∧ i32 ((24 * v1) + v5) < ((216 : Nat) : Int)) <|
    gd (0 ≤ i32 ((24 * v2) + v5) ∧ i32 ((24 * v2) + v5) < ((216 : Nat) : Int)) <|
    gd (0 ≤ i32 ((24 * v3) + v5) ∧ i32 ((24 * v3) + v5) < ((216 : Nat) : Int)) <|
    if i32 (or32 (or32 (M 118 (i32 ((24 * v1) + v5)).toNat) (M 118 (i32 ((24 * v2) + v5)).toNat)) (M 118 (i32 ((24 * v3) + v5)).toNat)) = i32 v4 then
      kH v1 v2 v3 v4 (v5 + 1) M
    else
      some (0, M)
set_option maxRecDepth 20000 in
set_option maxHeartbeats 4000000 in
theorem w_M_areEnough_B13 (d : Nat) (kH : Int → Int → Int → Int → Int → Mm → Option (Int × Mm)) (hkH : ∀ (v1 v2 v3 v4 v5 : Int) (M : Mm), T (E_M_areEnough d) injI 13 [(0, .ref 78), (1, vI v1), (2, vI v2), (3, vI v3), (4, vI v4), (5, vI v5)] [] M (kH v1 v2 v3 v4 v5 M)) (v1 v2 v3 v4 v5 : Int) (M : Mm) : T (E_M_areEnough d) injI 13 [(0, .ref 78), (1, vI v1), (2, vI v2), (3, vI v3), (4, vI v4), (5, vI v5)] [] M (f_M_areEnough_B13 kH v1 v2 v3 v4 v5 M) := by
  unfold f_M_areEnough_B13
  refine tq_iload 5 (E := E_M_areEnough d) (pc := 13) (cks_at k_M_areEnough 9 rfl rfl) rfl ?_
  refine tq_bipush (E := E_M_areEnough d) (pc := 15) (cks_at k_M_areEnough 10 rfl rfl) (by decide) (by decide) ?_
  refine tq_icmp_ge (E := E_M_areEnough d) (pc := 17) (tgt := 71) (cks_at k_M_areEnough 11 rfl rfl) (by decide) ?_ ?_
  · refine tq_iconst (E := E_M_areEnough d) (pc := 71) (cks_at k_M_areEnough 44 rfl rfl) ?_
    exact tq_zretC (E := E_M_areEnough d) (pc := 72) (cks_at k_M_areEnough 45 rfl rfl) rfl (by decide)
  · refine tq_aload_n 0 (E := E_M_areEnough d) (pc := 20) (cks_at k_M_areEnough 12 rfl rfl) rfl ?_
    refine tq_getR (j := 118) (E := E_M_areEnough d) (pc := 21) (cks_at k_M_areEnough 13 rfl rfl) fo_M_133 so_78 rfl sp_78_59 ?_
    refine tq_bipush (E := E_M_areEnough d) (pc := 24) (cks_at k_M_areEnough 14 rfl rfl) (by decide) (by decide) ?_
    refine tq_iload_n 1 (E := E_M_areEnough d) (pc := 26) (cks_at k_M_areEnough 15 rfl rfl) rfl ?_
    refine tq_imul (E := E_M_areEnough d) (pc := 27) (cks_at k_M_areEnough 16 rfl rfl) ?_
    refine tq_iload 5 (E := E_M_areEnough d) (pc := 28) (cks_at k_M_areEnough 17 rfl rfl) rfl ?_
    refine tq_iadd (E := E_M_areEnough d) (pc := 30) (cks_at k_M_areEnough 18 rfl rfl) ?_
    refine tq_iald (E := E_M_areEnough d) (pc := 31) (cks_at k_M_areEnough 19 rfl rfl) sa_118 sn_118 ?_
    refine tq_aload_n 0 (E := E_M_areEnough d) (pc := 32) (cks_at k_M_areEnough 20 rfl rfl) rfl ?_
    refine tq_getR (j := 118) (E := E_M_areEnough d) (pc := 33) (cks_at k_M_areEnough 21 rfl rfl) fo_M_133 so_78 rfl sp_78_59 ?_
    refine tq_bipush (E := E_M_areEnough d) (pc := 36) (cks_at k_M_areEnough 22 rfl rfl) (by decide) (by decide) ?_
    refine tq_iload_n 2 (E := E_M_areEnough d) (pc := 38) (cks_at k_M_areEnough 23 rfl rfl) rfl ?_
    refine tq_imul (E := E_M_areEnough d) (pc := 39) (cks_at k_M_areEnough 24 rfl rfl) ?_
    refine tq_iload 5 (E := E_M_areEnough d) (pc := 40) (cks_at k_M_areEnough 25 rfl rfl) rfl ?_
    refine tq_iadd (E := E_M_areEnough d) (pc := 42) (cks_at k_M_areEnough 26 rfl rfl) ?_
    refine tq_iald (E := E_M_areEnough d) (pc := 43) (cks_at k_M_areEnough 27 rfl rfl) sa_118 sn_118 ?_
    refine tq_ior (E := E_M_areEnough d) (pc := 44) (cks_at k_M_areEnough 28 rfl rfl) ?_
    refine tq_aload_n 0 (E := E_M_areEnough d) (pc := 45) (cks_at k_M_areEnough 29 rfl rfl) rfl ?_
    refine tq_getR (j := 118) (E := E_M_areEnough d) (pc := 46) (cks_at k_M_areEnough 30 rfl rfl) fo_M_133 so_78 rfl sp_78_59 ?_
    refine tq_bipush (E := E_M_areEnough d) (pc := 49) (cks_at k_M_areEnough 31 rfl rfl) (by decide) (by decide) ?_
    refine tq_iload_n 3 (E := E_M_areEnough d) (pc := 51) (cks_at k_M_areEnough 32 rfl rfl) rfl ?_
    refine tq_imul (E := E_M_areEnough d) (pc := 52) (cks_at k_M_areEnough 33 rfl rfl) ?_
    refine tq_iload 5 (E := E_M_areEnough d) (pc := 53) (cks_at k_M_areEnough 34 rfl rfl) rfl ?_
    refine tq_iadd (E := E_M_areEnough d) (pc := 55) (cks_at k_M_areEnough 35 rfl rfl) ?_
    refine tq_iald (E := E_M_areEnough d) (pc := 56) (cks_at k_M_areEnough 36 rfl rfl) sa_118 sn_118 ?_
    refine tq_ior (E := E_M_areEnough d) (pc := 57) (cks_at k_M_areEnough 37 rfl rfl) ?_
    refine tq_iload 4 (E := E_M_areEnough d) (pc := 58) (cks_at k_M_areEnough 38 rfl rfl) rfl ?_
    refine tq_icmp_eq (E := E_M_areEnough d) (pc := 60) (tgt := 65) (cks_at k_M_areEnough 39 rfl rfl) (by decide) ?_ ?_
    · refine tq_iinc 5 (E := E_M_areEnough d) (pc := 65) (cks_at k_M_areEnough 42 rfl rfl) rfl (show 5 < 6 by decide) rfl ?_
      refine tq_goto (tgt := 13) (E := E_M_areEnough d) (pc := 68) (cks_at k_M_areEnough 43 rfl rfl) (by decide) ?_
      exact tq_sub [1, 2, 3, 4, 5, 0] rfl (hkH v1 v2 v3 v4 (v5 + 1) M)
    · refine tq_iconst (E := E_M_areEnough d) (pc := 63) (cks_at k_M_areEnough 40 rfl rfl) ?_
      exact tq_zretC (E := E_M_areEnough d) (pc := 64) (cks_at k_M_areEnough 41 rfl rfl) rfl (by decide)
def f_M_areEnough_L13 : Nat → Int × Int × Int × Int × Int × Mm → Option (Int × Mm) := lp fun kH s => f_M_areEnough_B13 (fun v1 v2 v3 v4 v5 M => kH (v1, v2, v3, v4, v5, M)) s.1 s.2.1 s.2.2.1 s.2.2.2.1 s.2.2.2.2.1 s.2.2.2.2.2
set_option maxRecDepth 20000 in
set_option maxHeartbeats 4000000 in
theorem w_M_areEnough_L13 (d : Nat) (n : Nat) (s : Int × Int × Int × Int × Int × Mm) : T (E_M_areEnough d) injI 13 [(0, .ref 78), (1, vI s.1), (2, vI s.2.1), (3, vI s.2.2.1), (4, vI s.2.2.2.1), (5, vI s.2.2.2.2.1)] [] s.2.2.2.2.2 (f_M_areEnough_L13 n s) :=
  tq_lp (fun s => [(0, .ref 78), (1, vI s.1), (2, vI s.2.1), (3, vI s.2.2.1), (4, vI s.2.2.2.1), (5, vI s.2.2.2.2.1)]) (fun s => s.2.2.2.2.2) (fun kH hH s => w_M_areEnough_B13 d (fun v1 v2 v3 v4 v5 M => kH (v1, v2, v3, v4, v5, M)) (fun v1 v2 v3 v4 v5 M => hH (v1, v2, v3, v4, v5, M)) s.1 s.2.1 s.2.2.1 s.2.2.2.1 s.2.2.2.2.1 s.2.2.2.2.2) n s
def f_M_areEnough (v1 : Int) (v2 : Int) (v3 : Int) (M : Mm) : Option (Int × Mm) :=
  bI (f_M_placeMany M) (fun r2 M1 =>
  f_M_areEnough_L13 FU (v1, v2, v3, ((shl32 1 r2) - 1), 0, M1))
set_option maxRecDepth 20000 in
set_option maxHeartbeats 4000000 in
theorem c_M_areEnough (d : Nat) (v1 : Int) (v2 : Int) (v3 : Int) (M : Mm) (Q : Option Value → Mm → Prop) (h : sat injI (f_M_areEnough v1 v2 v3 M) Q) : Ct (d + 2) y_M_areEnough [.ref 78, vI v1, vI v2, vI v3] M Q := by
  refine ct_in (d := d + 1) mk_M_areEnough (Nat.le_of_ble_eq_true rfl) (?_ : T (E_M_areEnough d) injI 0 [(0, .ref 78), (1, vI v1), (2, vI v2), (3, vI v3)] [] M (f_M_areEnough v1 v2 v3 M)) h
  unfold f_M_areEnough
  refine tq_iconst (E := E_M_areEnough d) (pc := 0) (cks_at k_M_areEnough 0 rfl rfl) ?_
  refine tq_aload_n 0 (E := E_M_areEnough d) (pc := 1) (cks_at k_M_areEnough 1 rfl rfl) rfl ?_
  refine tq_V0 (E := E_M_areEnough d) (pc := 2) (cks_at k_M_areEnough 2 rfl rfl) mk_M_placeMany lk_M_409 rc_78 (Nat.le_of_ble_eq_true rfl) (c_M_placeMany (d + 0) M) (k_I fun r2 M1 => ?_)
  refine tq_ishl (E := E_M_areEnough d) (pc := 5) (cks_at k_M_areEnough 3 rfl rfl) ?_
  refine tq_iconst (E := E_M_areEnough d) (pc := 6) (cks_at k_M_areEnough 4 rfl rfl) ?_
  refine tq_isub (E := E_M_areEnough d) (pc := 7) (cks_at k_M_areEnough 5 rfl rfl) ?_
  refine tq_istore (E := E_M_areEnough d) (pc := 8) (cks_at k_M_areEnough 6 rfl rfl) (show 4 < 6 by decide) rfl ?_
  refine tq_iconst (E := E_M_areEnough d) (pc := 10) (cks_at k_M_areEnough 7 rfl rfl) ?_
  refine tq_istore (E := E_M_areEnough d) (pc := 11) (cks_at k_M_areEnough 8 rfl rfl) (show 5 < 6 by decide) rfl ?_
  exact tq_sub [2, 3, 4, 5, 1, 0] rfl (w_M_areEnough_L13 d FU (v1, v2, v3, ((shl32 1 r2) - 1), 0, M1))
abbrev E_M_isFound (d : Nat) : Ev := (Ct (d + 2), "BreathTownModel", prog_14_method_98_code, 4, False, 0, (fun _ => 0), (Option.some Jvm.ClassFile.FieldType.boolean))
def f_M_isFound (v1 : Int) (v2 : Int) (v3 : Int) (M : Mm) : Option (Int × Mm) :=
  bI (f_M_areEnough v1 v2 v3 M) (fun r2 M1 =>
  if ¬ i32 r2 = 0 then
    bd (up M1 119 0 v1) (fun M3 =>
    bd (up M3 119 1 v2) (fun M4 =>
    bd (up M4 119 2 v3) (fun M5 =>
    some (1, M5))))
  else
    some (0, M1))
set_option maxRecDepth 20000 in
set_option maxHeartbeats 4000000 in
theorem c_M_isFound (d : Nat) (v1 : Int) (v2 : Int) (v3 : Int) (M : Mm) (Q : Option Value → Mm → Prop) (h : sat injI (f_M_isFound v1 v2 v3 M) Q) : Ct (d + 3) y_M_isFound [.ref 78, vI v1, vI v2, vI v3] M Q := by
  refine ct_in (d := d + 2) mk_M_isFound (Nat.le_of_ble_eq_true rfl) (?_ : T (E_M_isFound d) injI 0 [(0, .ref 78), (1, vI v1), (2, vI v2), (3, vI v3)] [] M (f_M_isFound v1 v2 v3 M)) h
  unfold f_M_isFound
  refine tq_aload_n 0 (E := E_M_isFound d) (pc := 0) (cks_at k_M_isFound 0 rfl rfl) rfl ?_
  refine tq_iload_n 1 (E := E_M_isFound d) (pc := 1) (cks_at k_M_isFound 1 rfl rfl) rfl ?_
  refine tq_iload_n 2 (E := E_M_isFound d) (pc := 2) (cks_at k_M_isFound 2 rfl rfl) rfl ?_
  refine tq_iload_n 3 (E := E_M_isFound d) (pc := 3) (cks_at k_M_isFound 3 rfl rfl) rfl ?_
  refine tq_V3 (E := E_M_isFound d) (pc := 4) (cks_at k_M_isFound 4 rfl rfl) mk_M_areEnough lk_M_564 rc_78 (Nat.le_of_ble_eq_true rfl) (c_M_areEnough (d + 0) v1 v2 v3 M) (k_I fun r2 M1 => ?_)
  refine tq_if_ne (E := E_M_isFound d) (pc := 7) (tgt := 12) (cks_at k_M_isFound 5 rfl rfl) (by decide) ?_ ?_
  · refine tq_aload_n 0 (E := E_M_isFound d) (pc := 12) (cks_at k_M_isFound 8 rfl rfl) rfl ?_
    refine tq_getR (j := 119) (E := E_M_isFound d) (pc := 13) (cks_at k_M_isFound 9 rfl rfl) fo_M_136 so_78 rfl sp_78_61 ?_
    refine tq_iconst (E := E_M_isFound d) (pc := 16) (cks_at k_M_isFound 10 rfl rfl) ?_
    refine tq_iload_n 1 (E := E_M_isFound d) (pc := 17) (cks_at k_M_isFound 11 rfl rfl) rfl ?_
    refine tq_iastC (E := E_M_isFound d) (pc := 18) 0 (cks_at k_M_isFound 12 rfl rfl) sa_119 sn_119 (by decide) (fun M3 => ?_)
    refine tq_aload_n 0 (E := E_M_isFound d) (pc := 19) (cks_at k_M_isFound 13 rfl rfl) rfl ?_
    refine tq_getR (j := 119) (E := E_M_isFound d) (pc := 20) (cks_at k_M_isFound 14 rfl rfl) fo_M_136 so_78 rfl sp_78_61 ?_
    refine tq_iconst (E := E_M_isFound d) (pc := 23) (cks_at k_M_isFound 15 rfl rfl) ?_
    refine tq_iload_n 2 (E := E_M_isFound d) (pc := 24) (cks_at k_M_isFound 16 rfl rfl) rfl ?_
    refine tq_iastC (E := E_M_isFound d) (pc := 25) 1 (cks_at k_M_isFound 17 rfl rfl) sa_119 sn_119 (by decide) (fun M4 => ?_)
    refine tq_aload_n 0 (E := E_M_isFound d) (pc := 26) (cks_at k_M_isFound 18 rfl rfl) rfl ?_
    refine tq_getR (j := 119) (E := E_M_isFound d) (pc := 27) (cks_at k_M_isFound 19 rfl rfl) fo_M_136 so_78 rfl sp_78_61 ?_
    refine tq_iconst (E := E_M_isFound d) (pc := 30) (cks_at k_M_isFound 20 rfl rfl) ?_
    refine tq_iload_n 3 (E := E_M_isFound d) (pc := 31) (cks_at k_M_isFound 21 rfl rfl) rfl ?_
    refine tq_iastC (E := E_M_isFound d) (pc := 32) 2 (cks_at k_M_isFound 22 rfl rfl) sa_119 sn_119 (by decide) (fun M5 => ?_)
    refine tq_iconst (E := E_M_isFound d) (pc := 33) (cks_at k_M_isFound 23 rfl rfl) ?_
    exact tq_zretC (E := E_M_isFound d) (pc := 34) (cks_at k_M_isFound 24 rfl rfl) rfl (by decide)
  · refine tq_iconst (E := E_M_isFound d) (pc := 10) (cks_at k_M_isFound 6 rfl rfl) ?_
    exact tq_zretC (E := E_M_isFound d) (pc := 11) (cks_at k_M_isFound 7 rfl rfl) rfl (by decide)
abbrev E_M_seeksDoctors (d : Nat) : Ev := (Ct (d + 3), "BreathTownModel", prog_14_method_99_code, 5, False, 0, (fun _ => 0), (Option.none : Option Jvm.ClassFile.FieldType))
def f_M_seeksDoctors_B12 (kH : Int → Int → Mm → Option (Mm)) (kx46 : Int → Mm → Option (Mm)) (v1 v2 : Int) (M : Mm) : Option (Mm) :=
  if i32 v1 ≤ i32 v2 then
    kx46 v1 M
  else
    if ¬ i32 (M 78 60) = i32 ((-1)) then
      kx46 v1 M
    else
      bI (f_M_isFound v2 v2 v2 M) (fun r5 M4 =>
      if i32 r5 = 0 then
        kH v1 (v2 + 1) M4
      else
        bd (up M4 78 60 1) (fun M6 =>
        kH v1 (v2 + 1) M6))
set_option maxRecDepth 20000 in
set_option maxHeartbeats 4000000 in
theorem w_M_seeksDoctors_B12 (d : Nat) (kH : Int → Int → Mm → Option (Mm)) (kx46 : Int → Mm → Option (Mm)) (hkH : ∀ (v1 v2 : Int) (M : Mm), T (E_M_seeksDoctors d) injV 12 [(0, .ref 78), (1, vI v1), (2, vI v2)] [] M (kH v1 v2 M)) (hkx46 : ∀ (v1 : Int) (M : Mm), T (E_M_seeksDoctors d) injV 46 [(0, .ref 78), (1, vI v1)] [] M (kx46 v1 M)) (v1 v2 : Int) (M : Mm) : T (E_M_seeksDoctors d) injV 12 [(0, .ref 78), (1, vI v1), (2, vI v2)] [] M (f_M_seeksDoctors_B12 kH kx46 v1 v2 M) := by
  unfold f_M_seeksDoctors_B12
  refine tq_iload_n 2 (E := E_M_seeksDoctors d) (pc := 12) (cks_at k_M_seeksDoctors 8 rfl rfl) rfl ?_
  refine tq_iload_n 1 (E := E_M_seeksDoctors d) (pc := 13) (cks_at k_M_seeksDoctors 9 rfl rfl) rfl ?_
  refine tq_icmp_ge (E := E_M_seeksDoctors d) (pc := 14) (tgt := 46) (cks_at k_M_seeksDoctors 10 rfl rfl) (by decide) ?_ ?_
  · exact tq_sub [0, 1] rfl (hkx46 v1 M)
  · refine tq_aload_n 0 (E := E_M_seeksDoctors d) (pc := 17) (cks_at k_M_seeksDoctors 11 rfl rfl) rfl ?_
    refine tq_getI (E := E_M_seeksDoctors d) (pc := 18) (cks_at k_M_seeksDoctors 12 rfl rfl) fo_M_567 so_78 rfl (by decide) ?_
    refine tq_iconst (E := E_M_seeksDoctors d) (pc := 21) (cks_at k_M_seeksDoctors 13 rfl rfl) ?_
    refine tq_icmp_ne (E := E_M_seeksDoctors d) (pc := 22) (tgt := 46) (cks_at k_M_seeksDoctors 14 rfl rfl) (by decide) ?_ ?_
    · exact tq_sub [0, 1] rfl (hkx46 v1 M)
    · refine tq_aload_n 0 (E := E_M_seeksDoctors d) (pc := 25) (cks_at k_M_seeksDoctors 15 rfl rfl) rfl ?_
      refine tq_iload_n 2 (E := E_M_seeksDoctors d) (pc := 26) (cks_at k_M_seeksDoctors 16 rfl rfl) rfl ?_
      refine tq_iload_n 2 (E := E_M_seeksDoctors d) (pc := 27) (cks_at k_M_seeksDoctors 17 rfl rfl) rfl ?_
      refine tq_iload_n 2 (E := E_M_seeksDoctors d) (pc := 28) (cks_at k_M_seeksDoctors 18 rfl rfl) rfl ?_
      refine tq_V3 (E := E_M_seeksDoctors d) (pc := 29) (cks_at k_M_seeksDoctors 19 rfl rfl) mk_M_isFound lk_M_570 rc_78 (Nat.le_of_ble_eq_true rfl) (c_M_isFound (d + 0) v2 v2 v2 M) (k_I fun r5 M4 => ?_)
      refine tq_if_eq (E := E_M_seeksDoctors d) (pc := 32) (tgt := 40) (cks_at k_M_seeksDoctors 20 rfl rfl) (by decide) ?_ ?_
      · refine tq_iinc 2 (E := E_M_seeksDoctors d) (pc := 40) (cks_at k_M_seeksDoctors 24 rfl rfl) rfl (show 2 < 5 by decide) rfl ?_
        refine tq_goto (tgt := 12) (E := E_M_seeksDoctors d) (pc := 43) (cks_at k_M_seeksDoctors 25 rfl rfl) (by decide) ?_
        exact tq_sub [1, 2, 0] rfl (hkH v1 (v2 + 1) M4)
      · refine tq_aload_n 0 (E := E_M_seeksDoctors d) (pc := 35) (cks_at k_M_seeksDoctors 21 rfl rfl) rfl ?_
        refine tq_iconst (E := E_M_seeksDoctors d) (pc := 36) (cks_at k_M_seeksDoctors 22 rfl rfl) ?_
        refine tq_putI (E := E_M_seeksDoctors d) (pc := 37) (cks_at k_M_seeksDoctors 23 rfl rfl) fo_M_567 so_78 rfl po_12_60 (fun M6 => ?_)
        refine tq_iinc 2 (E := E_M_seeksDoctors d) (pc := 40) (cks_at k_M_seeksDoctors 24 rfl rfl) rfl (show 2 < 5 by decide) rfl ?_
        refine tq_goto (tgt := 12) (E := E_M_seeksDoctors d) (pc := 43) (cks_at k_M_seeksDoctors 25 rfl rfl) (by decide) ?_
        exact tq_sub [1, 2, 0] rfl (hkH v1 (v2 + 1) M6)
def f_M_seeksDoctors_L12 (kx46 : Int → Mm → Option (Mm)) : Nat → Int × Int × Mm → Option (Mm) := lp fun kH s => f_M_seeksDoctors_B12 (fun v1 v2 M => kH (v1, v2, M)) kx46 s.1 s.2.1 s.2.2
set_option maxRecDepth 20000 in
set_option maxHeartbeats 4000000 in
theorem w_M_seeksDoctors_L12 (d : Nat) (kx46 : Int → Mm → Option (Mm)) (hkx46 : ∀ (v1 : Int) (M : Mm), T (E_M_seeksDoctors d) injV 46 [(0, .ref 78), (1, vI v1)] [] M (kx46 v1 M)) (n : Nat) (s : Int × Int × Mm) : T (E_M_seeksDoctors d) injV 12 [(0, .ref 78), (1, vI s.1), (2, vI s.2.1)] [] s.2.2 (f_M_seeksDoctors_L12 kx46 n s) :=
  tq_lp (fun s => [(0, .ref 78), (1, vI s.1), (2, vI s.2.1)]) (fun s => s.2.2) (fun kH hH s => w_M_seeksDoctors_B12 d (fun v1 v2 M => kH (v1, v2, M)) kx46 (fun v1 v2 M => hH (v1, v2, M)) hkx46 s.1 s.2.1 s.2.2) n s
def f_M_seeksDoctors_B65 (kH : Int → Int → Int → Mm → Option (Mm)) (kx99 : Int → Int → Mm → Option (Mm)) (v1 v2 v3 : Int) (M : Mm) : Option (Mm) :=
  if i32 v1 ≤ i32 v3 then
    kx99 v1 v2 M
  else
    if ¬ i32 (M 78 60) = i32 ((-1)) then
      kx99 v1 v2 M
    else
      bI (f_M_isFound v2 v3 v3 M) (fun r9 M8 =>
      if i32 r9 = 0 then
        kH v1 v2 (v3 + 1) M8
      else
        bd (up M8 78 60 2) (fun M10 =>
        kH v1 v2 (v3 + 1) M10))
set_option maxRecDepth 20000 in
set_option maxHeartbeats 4000000 in
theorem w_M_seeksDoctors_B65 (d : Nat) (kH : Int → Int → Int → Mm → Option (Mm)) (kx99 : Int → Int → Mm → Option (Mm)) (hkH : ∀ (v1 v2 v3 : Int) (M : Mm), T (E_M_seeksDoctors d) injV 65 [(0, .ref 78), (1, vI v1), (2, vI v2), (3, vI v3)] [] M (kH v1 v2 v3 M)) (hkx99 : ∀ (v1 v2 : Int) (M : Mm), T (E_M_seeksDoctors d) injV 99 [(0, .ref 78), (1, vI v1), (2, vI v2)] [] M (kx99 v1 v2 M)) (v1 v2 v3 : Int) (M : Mm) : T (E_M_seeksDoctors d) injV 65 [(0, .ref 78), (1, vI v1), (2, vI v2), (3, vI v3)] [] M (f_M_seeksDoctors_B65 kH kx99 v1 v2 v3 M) := by
  unfold f_M_seeksDoctors_B65
  refine tq_iload_n 3 (E := E_M_seeksDoctors d) (pc := 65) (cks_at k_M_seeksDoctors 39 rfl rfl) rfl ?_
  refine tq_iload_n 1 (E := E_M_seeksDoctors d) (pc := 66) (cks_at k_M_seeksDoctors 40 rfl rfl) rfl ?_
  refine tq_icmp_ge (E := E_M_seeksDoctors d) (pc := 67) (tgt := 99) (cks_at k_M_seeksDoctors 41 rfl rfl) (by decide) ?_ ?_
  · exact tq_sub [0, 1, 2] rfl (hkx99 v1 v2 M)
  · refine tq_aload_n 0 (E := E_M_seeksDoctors d) (pc := 70) (cks_at k_M_seeksDoctors 42 rfl rfl) rfl ?_
    refine tq_getI (E := E_M_seeksDoctors d) (pc := 71) (cks_at k_M_seeksDoctors 43 rfl rfl) fo_M_567 so_78 rfl (by decide) ?_
    refine tq_iconst (E := E_M_seeksDoctors d) (pc := 74) (cks_at k_M_seeksDoctors 44 rfl rfl) ?_
    refine tq_icmp_ne (E := E_M_seeksDoctors d) (pc := 75) (tgt := 99) (cks_at k_M_seeksDoctors 45 rfl rfl) (by decide) ?_ ?_
    · exact tq_sub [0, 1, 2] rfl (hkx99 v1 v2 M)
    · refine tq_aload_n 0 (E := E_M_seeksDoctors d) (pc := 78) (cks_at k_M_seeksDoctors 46 rfl rfl) rfl ?_
      refine tq_iload_n 2 (E := E_M_seeksDoctors d) (pc := 79) (cks_at k_M_seeksDoctors 47 rfl rfl) rfl ?_
      refine tq_iload_n 3 (E := E_M_seeksDoctors d) (pc := 80) (cks_at k_M_seeksDoctors 48 rfl rfl) rfl ?_
      refine tq_iload_n 3 (E := E_M_seeksDoctors d) (pc := 81) (cks_at k_M_seeksDoctors 49 rfl rfl) rfl ?_
      refine tq_V3 (E := E_M_seeksDoctors d) (pc := 82) (cks_at k_M_seeksDoctors 50 rfl rfl) mk_M_isFound lk_M_570 rc_78 (Nat.le_of_ble_eq_true rfl) (c_M_isFound (d + 0) v2 v3 v3 M) (k_I fun r9 M8 => ?_)
      refine tq_if_eq (E := E_M_seeksDoctors d) (pc := 85) (tgt := 93) (cks_at k_M_seeksDoctors 51 rfl rfl) (by decide) ?_ ?_
      · refine tq_iinc 3 (E := E_M_seeksDoctors d) (pc := 93) (cks_at k_M_seeksDoctors 55 rfl rfl) rfl (show 3 < 5 by decide) rfl ?_
        refine tq_goto (tgt := 65) (E := E_M_seeksDoctors d) (pc := 96) (cks_at k_M_seeksDoctors 56 rfl rfl) (by decide) ?_
        exact tq_sub [1, 2, 3, 0] rfl (hkH v1 v2 (v3 + 1) M8)
      · refine tq_aload_n 0 (E := E_M_seeksDoctors d) (pc := 88) (cks_at k_M_seeksDoctors 52 rfl rfl) rfl ?_
        refine tq_iconst (E := E_M_seeksDoctors d) (pc := 89) (cks_at k_M_seeksDoctors 53 rfl rfl) ?_
        refine tq_putI (E := E_M_seeksDoctors d) (pc := 90) (cks_at k_M_seeksDoctors 54 rfl rfl) fo_M_567 so_78 rfl po_12_60 (fun M10 => ?_)
        refine tq_iinc 3 (E := E_M_seeksDoctors d) (pc := 93) (cks_at k_M_seeksDoctors 55 rfl rfl) rfl (show 3 < 5 by decide) rfl ?_
        refine tq_goto (tgt := 65) (E := E_M_seeksDoctors d) (pc := 96) (cks_at k_M_seeksDoctors 56 rfl rfl) (by decide) ?_
        exact tq_sub [1, 2, 3, 0] rfl (hkH v1 v2 (v3 + 1) M10)
def f_M_seeksDoctors_L65 (kx99 : Int → Int → Mm → Option (Mm)) : Nat → Int × Int × Int × Mm → Option (Mm) := lp fun kH s => f_M_seeksDoctors_B65 (fun v1 v2 v3 M => kH (v1, v2, v3, M)) kx99 s.1 s.2.1 s.2.2.1 s.2.2.2
set_option maxRecDepth 20000 in
set_option maxHeartbeats 4000000 in
theorem w_M_seeksDoctors_L65 (d : Nat) (kx99 : Int → Int → Mm → Option (Mm)) (hkx99 : ∀ (v1 v2 : Int) (M : Mm), T (E_M_seeksDoctors d) injV 99 [(0, .ref 78), (1, vI v1), (2, vI v2)] [] M (kx99 v1 v2 M)) (n : Nat) (s : Int × Int × Int × Mm) : T (E_M_seeksDoctors d) injV 65 [(0, .ref 78), (1, vI s.1), (2, vI s.2.1), (3, vI s.2.2.1)] [] s.2.2.2 (f_M_seeksDoctors_L65 kx99 n s) :=
  tq_lp (fun s => [(0, .ref 78), (1, vI s.1), (2, vI s.2.1), (3, vI s.2.2.1)]) (fun s => s.2.2.2) (fun kH hH s => w_M_seeksDoctors_B65 d (fun v1 v2 v3 M => kH (v1, v2, v3, M)) kx99 (fun v1 v2 v3 M => hH (v1, v2, v3, M)) hkx99 s.1 s.2.1 s.2.2.1 s.2.2.2) n s
def f_M_seeksDoctors_B48 (kH : Int → Int → Mm → Option (Mm)) (kx105 : Int → Mm → Option (Mm)) (v1 v2 : Int) (M : Mm) : Option (Mm) :=
  if i32 v1 ≤ i32 v2 then
    kx105 v1 M
  else
    if ¬ i32 (M 78 60) = i32 ((-1)) then
      kx105 v1 M
    else
      f_M_seeksDoctors_L65 (fun v1 v2 M11 => kH v1 (v2 + 1) M11) FU (v1, v2, (v2 + 1), M)
set_option maxRecDepth 20000 in
set_option maxHeartbeats 4000000 in
theorem w_M_seeksDoctors_B48 (d : Nat) (kH : Int → Int → Mm → Option (Mm)) (kx105 : Int → Mm → Option (Mm)) (hkH : ∀ (v1 v2 : Int) (M : Mm), T (E_M_seeksDoctors d) injV 48 [(0, .ref 78), (1, vI v1), (2, vI v2)] [] M (kH v1 v2 M)) (hkx105 : ∀ (v1 : Int) (M : Mm), T (E_M_seeksDoctors d) injV 105 [(0, .ref 78), (1, vI v1)] [] M (kx105 v1 M)) (v1 v2 : Int) (M : Mm) : T (E_M_seeksDoctors d) injV 48 [(0, .ref 78), (1, vI v1), (2, vI v2)] [] M (f_M_seeksDoctors_B48 kH kx105 v1 v2 M) := by
  unfold f_M_seeksDoctors_B48
  refine tq_iload_n 2 (E := E_M_seeksDoctors d) (pc := 48) (cks_at k_M_seeksDoctors 28 rfl rfl) rfl ?_
  refine tq_iload_n 1 (E := E_M_seeksDoctors d) (pc := 49) (cks_at k_M_seeksDoctors 29 rfl rfl) rfl ?_
  refine tq_icmp_ge (E := E_M_seeksDoctors d) (pc := 50) (tgt := 105) (cks_at k_M_seeksDoctors 30 rfl rfl) (by decide) ?_ ?_
  · exact tq_sub [0, 1] rfl (hkx105 v1 M)
  · refine tq_aload_n 0 (E := E_M_seeksDoctors d) (pc := 53) (cks_at k_M_seeksDoctors 31 rfl rfl) rfl ?_
    refine tq_getI (E := E_M_seeksDoctors d) (pc := 54) (cks_at k_M_seeksDoctors 32 rfl rfl) fo_M_567 so_78 rfl (by decide) ?_
    refine tq_iconst (E := E_M_seeksDoctors d) (pc := 57) (cks_at k_M_seeksDoctors 33 rfl rfl) ?_
    refine tq_icmp_ne (E := E_M_seeksDoctors d) (pc := 58) (tgt := 105) (cks_at k_M_seeksDoctors 34 rfl rfl) (by decide) ?_ ?_
    · exact tq_sub [0, 1] rfl (hkx105 v1 M)
    · refine tq_iload_n 2 (E := E_M_seeksDoctors d) (pc := 61) (cks_at k_M_seeksDoctors 35 rfl rfl) rfl ?_
      refine tq_iconst (E := E_M_seeksDoctors d) (pc := 62) (cks_at k_M_seeksDoctors 36 rfl rfl) ?_
      refine tq_iadd (E := E_M_seeksDoctors d) (pc := 63) (cks_at k_M_seeksDoctors 37 rfl rfl) ?_
      refine tq_istore_n (E := E_M_seeksDoctors d) (pc := 64) (cks_at k_M_seeksDoctors 38 rfl rfl) (show 3 < 5 by decide) rfl ?_
      exact tq_sub [1, 2, 3, 0] rfl (w_M_seeksDoctors_L65 d _ (fun v1 v2 M11 => by
          refine tq_iinc 2 (E := E_M_seeksDoctors d) (pc := 99) (cks_at k_M_seeksDoctors 57 rfl rfl) rfl (show 2 < 5 by decide) rfl ?_
          refine tq_goto (tgt := 48) (E := E_M_seeksDoctors d) (pc := 102) (cks_at k_M_seeksDoctors 58 rfl rfl) (by decide) ?_
          exact tq_sub [1, 2, 0] rfl (hkH v1 (v2 + 1) M11)) FU (v1, v2, (v2 + 1), M))
def f_M_seeksDoctors_L48 (kx105 : Int → Mm → Option (Mm)) : Nat → Int × Int × Mm → Option (Mm) := lp fun kH s => f_M_seeksDoctors_B48 (fun v1 v2 M => kH (v1, v2, M)) kx105 s.1 s.2.1 s.2.2
set_option maxRecDepth 20000 in
set_option maxHeartbeats 4000000 in
theorem w_M_seeksDoctors_L48 (d : Nat) (kx105 : Int → Mm → Option (Mm)) (hkx105 : ∀ (v1 : Int) (M : Mm), T (E_M_seeksDoctors d) injV 105 [(0, .ref 78), (1, vI v1)] [] M (kx105 v1 M)) (n : Nat) (s : Int × Int × Mm) : T (E_M_seeksDoctors d) injV 48 [(0, .ref 78), (1, vI s.1), (2, vI s.2.1)] [] s.2.2 (f_M_seeksDoctors_L48 kx105 n s) :=
  tq_lp (fun s => [(0, .ref 78), (1, vI s.1), (2, vI s.2.1)]) (fun s => s.2.2) (fun kH hH s => w_M_seeksDoctors_B48 d (fun v1 v2 M => kH (v1, v2, M)) kx105 (fun v1 v2 M => hH (v1, v2, M)) hkx105 s.1 s.2.1 s.2.2) n s
def f_M_seeksDoctors_B142 (kH : Int → Int → Int → Int → Mm → Option (Mm)) (kx178 : Int → Int → Int → Mm → Option (Mm)) (v1 v2 v3 v4 : Int) (M : Mm) : Option (Mm) :=
  if i32 v1 ≤ i32 v4 then
    kx178 v1 v2 v3 M
  else
    if ¬ i32 (M 78 60) = i32 ((-1)) then
      kx178 v1 v2 v3 M
    else
      bI (f_M_isFound v2 v3 v4 M) (fun r14 M13 =>
      if i32 r14 = 0 then
        kH v1 v2 v3 (v4 + 1) M13
      else
        bd (up M13 78 60 3) (fun M15 =>
        kH v1 v2 v3 (v4 + 1) M15))
set_option maxRecDepth 20000 in
set_option maxHeartbeats 4000000 in
theorem w_M_seeksDoctors_B142 (d : Nat) (kH : Int → Int → Int → Int → Mm → Option (Mm)) (kx178 : Int → Int → Int → Mm → Option (Mm)) (hkH : ∀ (v1 v2 v3 v4 : Int) (M : Mm), T (E_M_seeksDoctors d) injV 142 [(0, .ref 78), (1, vI v1), (2, vI v2), (3, vI v3), (4, vI v4)] [] M (kH v1 v2 v3 v4 M)) (hkx178 : ∀ (v1 v2 v3 : Int) (M : Mm), T (E_M_seeksDoctors d) injV 178 [(0, .ref 78), (1, vI v1), (2, vI v2), (3, vI v3)] [] M (kx178 v1 v2 v3 M)) (v1 v2 v3 v4 : Int) (M : Mm) : T (E_M_seeksDoctors d) injV 142 [(0, .ref 78), (1, vI v1), (2, vI v2), (3, vI v3), (4, vI v4)] [] M (f_M_seeksDoctors_B142 kH kx178 v1 v2 v3 v4 M) := by
  unfold f_M_seeksDoctors_B142
  refine tq_iload 4 (E := E_M_seeksDoctors d) (pc := 142) (cks_at k_M_seeksDoctors 83 rfl rfl) rfl ?_
  refine tq_iload_n 1 (E := E_M_seeksDoctors d) (pc := 144) (cks_at k_M_seeksDoctors 84 rfl rfl) rfl ?_
  refine tq_icmp_ge (E := E_M_seeksDoctors d) (pc := 145) (tgt := 178) (cks_at k_M_seeksDoctors 85 rfl rfl) (by decide) ?_ ?_
  · exact tq_sub [0, 1, 2, 3] rfl (hkx178 v1 v2 v3 M)
  · refine tq_aload_n 0 (E := E_M_seeksDoctors d) (pc := 148) (cks_at k_M_seeksDoctors 86 rfl rfl) rfl ?_
    refine tq_getI (E := E_M_seeksDoctors d) (pc := 149) (cks_at k_M_seeksDoctors 87 rfl rfl) fo_M_567 so_78 rfl (by decide) ?_
    refine tq_iconst (E := E_M_seeksDoctors d) (pc := 152) (cks_at k_M_seeksDoctors 88 rfl rfl) ?_
    refine tq_icmp_ne (E := E_M_seeksDoctors d) (pc := 153) (tgt := 178) (cks_at k_M_seeksDoctors 89 rfl rfl) (by decide) ?_ ?_
    · exact tq_sub [0, 1, 2, 3] rfl (hkx178 v1 v2 v3 M)
    · refine tq_aload_n 0 (E := E_M_seeksDoctors d) (pc := 156) (cks_at k_M_seeksDoctors 90 rfl rfl) rfl ?_
      refine tq_iload_n 2 (E := E_M_seeksDoctors d) (pc := 157) (cks_at k_M_seeksDoctors 91 rfl rfl) rfl ?_
      refine tq_iload_n 3 (E := E_M_seeksDoctors d) (pc := 158) (cks_at k_M_seeksDoctors 92 rfl rfl) rfl ?_
      refine tq_iload 4 (E := E_M_seeksDoctors d) (pc := 159) (cks_at k_M_seeksDoctors 93 rfl rfl) rfl ?_
      refine tq_V3 (E := E_M_seeksDoctors d) (pc := 161) (cks_at k_M_seeksDoctors 94 rfl rfl) mk_M_isFound lk_M_570 rc_78 (Nat.le_of_ble_eq_true rfl) (c_M_isFound (d + 0) v2 v3 v4 M) (k_I fun r14 M13 => ?_)
      refine tq_if_eq (E := E_M_seeksDoctors d) (pc := 164) (tgt := 172) (cks_at k_M_seeksDoctors 95 rfl rfl) (by decide) ?_ ?_
      · refine tq_iinc 4 (E := E_M_seeksDoctors d) (pc := 172) (cks_at k_M_seeksDoctors 99 rfl rfl) rfl (show 4 < 5 by decide) rfl ?_
        refine tq_goto (tgt := 142) (E := E_M_seeksDoctors d) (pc := 175) (cks_at k_M_seeksDoctors 100 rfl rfl) (by decide) ?_
        exact tq_sub [1, 2, 3, 4, 0] rfl (hkH v1 v2 v3 (v4 + 1) M13)
      · refine tq_aload_n 0 (E := E_M_seeksDoctors d) (pc := 167) (cks_at k_M_seeksDoctors 96 rfl rfl) rfl ?_
        refine tq_iconst (E := E_M_seeksDoctors d) (pc := 168) (cks_at k_M_seeksDoctors 97 rfl rfl) ?_
        refine tq_putI (E := E_M_seeksDoctors d) (pc := 169) (cks_at k_M_seeksDoctors 98 rfl rfl) fo_M_567 so_78 rfl po_12_60 (fun M15 => ?_)
        refine tq_iinc 4 (E := E_M_seeksDoctors d) (pc := 172) (cks_at k_M_seeksDoctors 99 rfl rfl) rfl (show 4 < 5 by decide) rfl ?_
        refine tq_goto (tgt := 142) (E := E_M_seeksDoctors d) (pc := 175) (cks_at k_M_seeksDoctors 100 rfl rfl) (by decide) ?_
        exact tq_sub [1, 2, 3, 4, 0] rfl (hkH v1 v2 v3 (v4 + 1) M15)
def f_M_seeksDoctors_L142 (kx178 : Int → Int → Int → Mm → Option (Mm)) : Nat → Int × Int × Int × Int × Mm → Option (Mm) := lp fun kH s => f_M_seeksDoctors_B142 (fun v1 v2 v3 v4 M => kH (v1, v2, v3, v4, M)) kx178 s.1 s.2.1 s.2.2.1 s.2.2.2.1 s.2.2.2.2
set_option maxRecDepth 20000 in
set_option maxHeartbeats 4000000 in
theorem w_M_seeksDoctors_L142 (d : Nat) (kx178 : Int → Int → Int → Mm → Option (Mm)) (hkx178 : ∀ (v1 v2 v3 : Int) (M : Mm), T (E_M_seeksDoctors d) injV 178 [(0, .ref 78), (1, vI v1), (2, vI v2), (3, vI v3)] [] M (kx178 v1 v2 v3 M)) (n : Nat) (s : Int × Int × Int × Int × Mm) : T (E_M_seeksDoctors d) injV 142 [(0, .ref 78), (1, vI s.1), (2, vI s.2.1), (3, vI s.2.2.1), (4, vI s.2.2.2.1)] [] s.2.2.2.2 (f_M_seeksDoctors_L142 kx178 n s) :=
  tq_lp (fun s => [(0, .ref 78), (1, vI s.1), (2, vI s.2.1), (3, vI s.2.2.1), (4, vI s.2.2.2.1)]) (fun s => s.2.2.2.2) (fun kH hH s => w_M_seeksDoctors_B142 d (fun v1 v2 v3 v4 M => kH (v1, v2, v3, v4, M)) kx178 (fun v1 v2 v3 v4 M => hH (v1, v2, v3, v4, M)) hkx178 s.1 s.2.1 s.2.2.1 s.2.2.2.1 s.2.2.2.2) n s
def f_M_seeksDoctors_B124 (kH : Int → Int → Int → Mm → Option (Mm)) (kx184 : Int → Int → Mm → Option (Mm)) (v1 v2 v3 : Int) (M : Mm) : Option (Mm) :=
  if i32 v1 ≤ i32 v3 then
    kx184 v1 v2 M
  else
    if ¬ i32 (M 78 60) = i32 ((-1)) then
      kx184 v1 v2 M
    else
      f_M_seeksDoctors_L142 (fun v1 v2 v3 M16 => kH v1 v2 (v3 + 1) M16) FU (v1, v2, v3, (v3 + 1), M)
set_option maxRecDepth 20000 in
set_option maxHeartbeats 4000000 in
theorem w_M_seeksDoctors_B124 (d : Nat) (kH : Int → Int → Int → Mm → Option (Mm)) (kx184 : Int → Int → Mm → Option (Mm)) (hkH : ∀ (v1 v2 v3 : Int) (M : Mm), T (E_M_seeksDoctors d) injV 124 [(0, .ref 78), (1, vI v1), (2, vI v2), (3, vI v3)] [] M (kH v1 v2 v3 M)) (hkx184 : ∀ (v1 v2 : Int) (M : Mm), T (E_M_seeksDoctors d) injV 184 [(0, .ref 78), (1, vI v1), (2, vI v2)] [] M (kx184 v1 v2 M)) (v1 v2 v3 : Int) (M : Mm) : T (E_M_seeksDoctors d) injV 124 [(0, .ref 78), (1, vI v1), (2, vI v2), (3, vI v3)] [] M (f_M_seeksDoctors_B124 kH kx184 v1 v2 v3 M) := by
  unfold f_M_seeksDoctors_B124
  refine tq_iload_n 3 (E := E_M_seeksDoctors d) (pc := 124) (cks_at k_M_seeksDoctors 72 rfl rfl) rfl ?_
  refine tq_iload_n 1 (E := E_M_seeksDoctors d) (pc := 125) (cks_at k_M_seeksDoctors 73 rfl rfl) rfl ?_
  refine tq_icmp_ge (E := E_M_seeksDoctors d) (pc := 126) (tgt := 184) (cks_at k_M_seeksDoctors 74 rfl rfl) (by decide) ?_ ?_
  · exact tq_sub [0, 1, 2] rfl (hkx184 v1 v2 M)
  · refine tq_aload_n 0 (E := E_M_seeksDoctors d) (pc := 129) (cks_at k_M_seeksDoctors 75 rfl rfl) rfl ?_
    refine tq_getI (E := E_M_seeksDoctors d) (pc := 130) (cks_at k_M_seeksDoctors 76 rfl rfl) fo_M_567 so_78 rfl (by decide) ?_
    refine tq_iconst (E := E_M_seeksDoctors d) (pc := 133) (cks_at k_M_seeksDoctors 77 rfl rfl) ?_
    refine tq_icmp_ne (E := E_M_seeksDoctors d) (pc := 134) (tgt := 184) (cks_at k_M_seeksDoctors 78 rfl rfl) (by decide) ?_ ?_
    · exact tq_sub [0, 1, 2] rfl (hkx184 v1 v2 M)
    · refine tq_iload_n 3 (E := E_M_seeksDoctors d) (pc := 137) (cks_at k_M_seeksDoctors 79 rfl rfl) rfl ?_
      refine tq_iconst (E := E_M_seeksDoctors d) (pc := 138) (cks_at k_M_seeksDoctors 80 rfl rfl) ?_
      refine tq_iadd (E := E_M_seeksDoctors d) (pc := 139) (cks_at k_M_seeksDoctors 81 rfl rfl) ?_
      refine tq_istore (E := E_M_seeksDoctors d) (pc := 140) (cks_at k_M_seeksDoctors 82 rfl rfl) (show 4 < 5 by decide) rfl ?_
      exact tq_sub [1, 2, 3, 4, 0] rfl (w_M_seeksDoctors_L142 d _ (fun v1 v2 v3 M16 => by
          refine tq_iinc 3 (E := E_M_seeksDoctors d) (pc := 178) (cks_at k_M_seeksDoctors 101 rfl rfl) rfl (show 3 < 5 by decide) rfl ?_
          refine tq_goto (tgt := 124) (E := E_M_seeksDoctors d) (pc := 181) (cks_at k_M_seeksDoctors 102 rfl rfl) (by decide) ?_
          exact tq_sub [1, 2, 3, 0] rfl (hkH v1 v2 (v3 + 1) M16)) FU (v1, v2, v3, (v3 + 1), M))
def f_M_seeksDoctors_L124 (kx184 : Int → Int → Mm → Option (Mm)) : Nat → Int × Int × Int × Mm → Option (Mm) := lp fun kH s => f_M_seeksDoctors_B124 (fun v1 v2 v3 M => kH (v1, v2, v3, M)) kx184 s.1 s.2.1 s.2.2.1 s.2.2.2
set_option maxRecDepth 20000 in
set_option maxHeartbeats 4000000 in
theorem w_M_seeksDoctors_L124 (d : Nat) (kx184 : Int → Int → Mm → Option (Mm)) (hkx184 : ∀ (v1 v2 : Int) (M : Mm), T (E_M_seeksDoctors d) injV 184 [(0, .ref 78), (1, vI v1), (2, vI v2)] [] M (kx184 v1 v2 M)) (n : Nat) (s : Int × Int × Int × Mm) : T (E_M_seeksDoctors d) injV 124 [(0, .ref 78), (1, vI s.1), (2, vI s.2.1), (3, vI s.2.2.1)] [] s.2.2.2 (f_M_seeksDoctors_L124 kx184 n s) :=
  tq_lp (fun s => [(0, .ref 78), (1, vI s.1), (2, vI s.2.1), (3, vI s.2.2.1)]) (fun s => s.2.2.2) (fun kH hH s => w_M_seeksDoctors_B124 d (fun v1 v2 v3 M => kH (v1, v2, v3, M)) kx184 (fun v1 v2 v3 M => hH (v1, v2, v3, M)) hkx184 s.1 s.2.1 s.2.2.1 s.2.2.2) n s
def f_M_seeksDoctors_B107 (kH : Int → Int → Mm → Option (Mm)) (v1 v2 : Int) (M : Mm) : Option (Mm) :=
  if i32 v1 ≤ i32 v2 then
    some M
  else
    if ¬ i32 (M 78 60) = i32 ((-1)) then
      some M
    else
      f_M_seeksDoctors_L124 (fun v1 v2 M17 => kH v1 (v2 + 1) M17) FU (v1, v2, (v2 + 1), M)
set_option maxRecDepth 20000 in
set_option maxHeartbeats 4000000 in
theorem w_M_seeksDoctors_B107 (d : Nat) (kH : Int → Int → Mm → Option (Mm)) (hkH : ∀ (v1 v2 : Int) (M : Mm), T (E_M_seeksDoctors d) injV 107 [(0, .ref 78), (1, vI v1), (2, vI v2)] [] M (kH v1 v2 M)) (v1 v2 : Int) (M : Mm) : T (E_M_seeksDoctors d) injV 107 [(0, .ref 78), (1, vI v1), (2, vI v2)] [] M (f_M_seeksDoctors_B107 kH v1 v2 M) := by
  unfold f_M_seeksDoctors_B107
  refine tq_iload_n 2 (E := E_M_seeksDoctors d) (pc := 107) (cks_at k_M_seeksDoctors 61 rfl rfl) rfl ?_
  refine tq_iload_n 1 (E := E_M_seeksDoctors d) (pc := 108) (cks_at k_M_seeksDoctors 62 rfl rfl) rfl ?_
  refine tq_icmp_ge (E := E_M_seeksDoctors d) (pc := 109) (tgt := 190) (cks_at k_M_seeksDoctors 63 rfl rfl) (by decide) ?_ ?_
  · exact tq_vret (E := E_M_seeksDoctors d) (pc := 190) (cks_at k_M_seeksDoctors 105 rfl rfl) rfl
  · refine tq_aload_n 0 (E := E_M_seeksDoctors d) (pc := 112) (cks_at k_M_seeksDoctors 64 rfl rfl) rfl ?_
    refine tq_getI (E := E_M_seeksDoctors d) (pc := 113) (cks_at k_M_seeksDoctors 65 rfl rfl) fo_M_567 so_78 rfl (by decide) ?_
    refine tq_iconst (E := E_M_seeksDoctors d) (pc := 116) (cks_at k_M_seeksDoctors 66 rfl rfl) ?_
    refine tq_icmp_ne (E := E_M_seeksDoctors d) (pc := 117) (tgt := 190) (cks_at k_M_seeksDoctors 67 rfl rfl) (by decide) ?_ ?_
    · exact tq_vret (E := E_M_seeksDoctors d) (pc := 190) (cks_at k_M_seeksDoctors 105 rfl rfl) rfl
    · refine tq_iload_n 2 (E := E_M_seeksDoctors d) (pc := 120) (cks_at k_M_seeksDoctors 68 rfl rfl) rfl ?_
      refine tq_iconst (E := E_M_seeksDoctors d) (pc := 121) (cks_at k_M_seeksDoctors 69 rfl rfl) ?_
      refine tq_iadd (E := E_M_seeksDoctors d) (pc := 122) (cks_at k_M_seeksDoctors 70 rfl rfl) ?_
      refine tq_istore_n (E := E_M_seeksDoctors d) (pc := 123) (cks_at k_M_seeksDoctors 71 rfl rfl) (show 3 < 5 by decide) rfl ?_
      exact tq_sub [1, 2, 3, 0] rfl (w_M_seeksDoctors_L124 d _ (fun v1 v2 M17 => by
          refine tq_iinc 2 (E := E_M_seeksDoctors d) (pc := 184) (cks_at k_M_seeksDoctors 103 rfl rfl) rfl (show 2 < 5 by decide) rfl ?_
          refine tq_goto (tgt := 107) (E := E_M_seeksDoctors d) (pc := 187) (cks_at k_M_seeksDoctors 104 rfl rfl) (by decide) ?_
          exact tq_sub [1, 2, 0] rfl (hkH v1 (v2 + 1) M17)) FU (v1, v2, (v2 + 1), M))
def f_M_seeksDoctors_L107 : Nat → Int × Int × Mm → Option (Mm) := lp fun kH s => f_M_seeksDoctors_B107 (fun v1 v2 M => kH (v1, v2, M)) s.1 s.2.1 s.2.2
set_option maxRecDepth 20000 in
set_option maxHeartbeats 4000000 in
theorem w_M_seeksDoctors_L107 (d : Nat) (n : Nat) (s : Int × Int × Mm) : T (E_M_seeksDoctors d) injV 107 [(0, .ref 78), (1, vI s.1), (2, vI s.2.1)] [] s.2.2 (f_M_seeksDoctors_L107 n s) :=
  tq_lp (fun s => [(0, .ref 78), (1, vI s.1), (2, vI s.2.1)]) (fun s => s.2.2) (fun kH hH s => w_M_seeksDoctors_B107 d (fun v1 v2 M => kH (v1, v2, M)) (fun v1 v2 M => hH (v1, v2, M)) s.1 s.2.1 s.2.2) n s
def f_M_seeksDoctors (M : Mm) : Option (Mm) :=
  bI (f_M_placeMany M) (fun r2 M1 =>
  bd (up M1 78 60 ((-1))) (fun M3 =>
  f_M_seeksDoctors_L12 (fun v1 M7 => f_M_seeksDoctors_L48 (fun v1 M12 => f_M_seeksDoctors_L107 FU (v1, 0, M12)) FU (v1, 0, M7)) FU (r2, 0, M3)))
set_option maxRecDepth 20000 in
set_option maxHeartbeats 4000000 in
theorem c_M_seeksDoctors (d : Nat) (M : Mm) (Q : Option Value → Mm → Prop) (h : sat injV (f_M_seeksDoctors M) Q) : Ct (d + 4) y_M_seeksDoctors [.ref 78] M Q := by
  refine ct_in (d := d + 3) mk_M_seeksDoctors (Nat.le_of_ble_eq_true rfl) (?_ : T (E_M_seeksDoctors d) injV 0 [(0, .ref 78)] [] M (f_M_seeksDoctors M)) h
  unfold f_M_seeksDoctors
  refine tq_aload_n 0 (E := E_M_seeksDoctors d) (pc := 0) (cks_at k_M_seeksDoctors 0 rfl rfl) rfl ?_
  refine tq_V0 (E := E_M_seeksDoctors d) (pc := 1) (cks_at k_M_seeksDoctors 1 rfl rfl) mk_M_placeMany lk_M_409 rc_78 (Nat.le_of_ble_eq_true rfl) (c_M_placeMany (d + 2) M) (k_I fun r2 M1 => ?_)
  refine tq_istore_n (E := E_M_seeksDoctors d) (pc := 4) (cks_at k_M_seeksDoctors 2 rfl rfl) (show 1 < 5 by decide) rfl ?_
  refine tq_aload_n 1 (E := E_M_seeksDoctors d) (pc := 5) (cks_at k_M_seeksDoctors 3 rfl rfl) rfl ?_
  refine tq_iconst (E := E_M_seeksDoctors d) (pc := 6) (cks_at k_M_seeksDoctors 4 rfl rfl) ?_
  refine tq_putI (E := E_M_seeksDoctors d) (pc := 7) (cks_at k_M_seeksDoctors 5 rfl rfl) fo_M_567 so_78 rfl po_12_60 (fun M3 => ?_)
  refine tq_iconst (E := E_M_seeksDoctors d) (pc := 10) (cks_at k_M_seeksDoctors 6 rfl rfl) ?_
  refine tq_istore_n (E := E_M_seeksDoctors d) (pc := 11) (cks_at k_M_seeksDoctors 7 rfl rfl) (show 2 < 5 by decide) rfl ?_
  exact tq_sub [2, 1, 0] rfl (w_M_seeksDoctors_L12 d _ (fun v1 M7 => by
      refine tq_iconst (E := E_M_seeksDoctors d) (pc := 46) (cks_at k_M_seeksDoctors 26 rfl rfl) ?_
      refine tq_istore_n (E := E_M_seeksDoctors d) (pc := 47) (cks_at k_M_seeksDoctors 27 rfl rfl) (show 2 < 5 by decide) rfl ?_
      exact tq_sub [1, 2, 0] rfl (w_M_seeksDoctors_L48 d _ (fun v1 M12 => by
          refine tq_iconst (E := E_M_seeksDoctors d) (pc := 105) (cks_at k_M_seeksDoctors 59 rfl rfl) ?_
          refine tq_istore_n (E := E_M_seeksDoctors d) (pc := 106) (cks_at k_M_seeksDoctors 60 rfl rfl) (show 2 < 5 by decide) rfl ?_
          exact tq_sub [1, 2, 0] rfl (w_M_seeksDoctors_L107 d FU (v1, 0, M12))) FU (v1, 0, M7))) FU (r2, 0, M3))
abbrev E_M_doctors (d : Nat) : Ev := (Ct (d + 12), "BreathTownModel", prog_14_method_100_code, 4, False, 0, (fun _ => 0), (Option.some Jvm.ClassFile.FieldType.int))
def f_M_doctors (v1 : Int) (v2 : Int) (v3 : Int) (M : Mm) : Option (Int × Mm) :=
  bI (f_M_isIn (i32 v1) 1 99 M) (fun r2 M1 =>
  if i32 r2 = 0 then
    some ((-1), M1)
  else
    bI (f_M_isIn (i32 v2) 0 400 M1) (fun r4 M3 =>
    if i32 r4 = 0 then
      some ((-1), M3)
    else
      bI (f_M_placeMany M3) (fun r6 M5 =>
      if i32 r6 = 0 then
        some ((-1), M5)
      else
        bI (f_M_isIn (i32 v3) ((-1)) 2 M5) (fun r8 M7 =>
        if ¬ i32 r8 = 0 then
          bV (f_M_reaches v1 v2 M7) (fun M9 =>
          bV (f_M_seeksDoctors M9) (fun M10 =>
          if ¬ i32 v3 = i32 ((-1)) then
            if i32 (M10 78 60) ≤ i32 v3 then
              some ((-1), M10)
            else
              gd (0 ≤ i32 v3 ∧ i32 v3 < ((3 : Nat) : Int)) <|
              some (M10 119 (i32 v3).toNat, M10)
          else
            some (M10 78 60, M10)))
        else
          some ((-1), M7)))))
set_option maxRecDepth 20000 in
set_option maxHeartbeats 4000000 in
theorem c_M_doctors (d : Nat) (v1 : Int) (v2 : Int) (v3 : Int) (M : Mm) (Q : Option Value → Mm → Prop) (h : sat injI (f_M_doctors v1 v2 v3 M) Q) : Ct (d + 13) y_M_doctors [.ref 78, vI v1, vI v2, vI v3] M Q := by
  refine ct_in (d := d + 12) mk_M_doctors (Nat.le_of_ble_eq_true rfl) (?_ : T (E_M_doctors d) injI 0 [(0, .ref 78), (1, vI v1), (2, vI v2), (3, vI v3)] [] M (f_M_doctors v1 v2 v3 M)) h
  unfold f_M_doctors
  refine tq_iload_n 1 (E := E_M_doctors d) (pc := 0) (cks_at k_M_doctors 0 rfl rfl) rfl ?_
  refine tq_i2l (E := E_M_doctors d) (pc := 1) (cks_at k_M_doctors 1 rfl rfl) ?_
  refine tq_lconst1 (E := E_M_doctors d) (pc := 2) (cks_at k_M_doctors 2 rfl rfl) ?_
  refine tq_ldc2 (z := 99) (E := E_M_doctors d) (pc := 3) (cks_at k_M_doctors 3 rfl rfl) cst_M_429 ?_
  refine tq_S3 (E := E_M_doctors d) (pc := 6) (cks_at k_M_doctors 4 rfl rfl) mk_M_isIn lk_M_265 (Nat.le_of_ble_eq_true rfl) (c_M_isIn (d + 11) (i32 v1) 1 99 M) (k_I fun r2 M1 => ?_)
  refine tq_if_eq (E := E_M_doctors d) (pc := 9) (tgt := 45) (cks_at k_M_doctors 5 rfl rfl) (by decide) ?_ ?_
  · refine tq_iconst (E := E_M_doctors d) (pc := 45) (cks_at k_M_doctors 21 rfl rfl) ?_
    exact tq_iret (E := E_M_doctors d) (pc := 46) (cks_at k_M_doctors 22 rfl rfl) rfl
  · refine tq_iload_n 2 (E := E_M_doctors d) (pc := 12) (cks_at k_M_doctors 6 rfl rfl) rfl ?_
    refine tq_i2l (E := E_M_doctors d) (pc := 13) (cks_at k_M_doctors 7 rfl rfl) ?_
    refine tq_lconst0 (E := E_M_doctors d) (pc := 14) (cks_at k_M_doctors 8 rfl rfl) ?_
    refine tq_ldc2 (z := 400) (E := E_M_doctors d) (pc := 15) (cks_at k_M_doctors 9 rfl rfl) cst_M_573 ?_
    refine tq_S3 (E := E_M_doctors d) (pc := 18) (cks_at k_M_doctors 10 rfl rfl) mk_M_isIn lk_M_265 (Nat.le_of_ble_eq_true rfl) (c_M_isIn (d + 11) (i32 v2) 0 400 M1) (k_I fun r4 M3 => ?_)
    refine tq_if_eq (E := E_M_doctors d) (pc := 21) (tgt := 45) (cks_at k_M_doctors 11 rfl rfl) (by decide) ?_ ?_
    · refine tq_iconst (E := E_M_doctors d) (pc := 45) (cks_at k_M_doctors 21 rfl rfl) ?_
      exact tq_iret (E := E_M_doctors d) (pc := 46) (cks_at k_M_doctors 22 rfl rfl) rfl
    · refine tq_aload_n 0 (E := E_M_doctors d) (pc := 24) (cks_at k_M_doctors 12 rfl rfl) rfl ?_
      refine tq_V0 (E := E_M_doctors d) (pc := 25) (cks_at k_M_doctors 13 rfl rfl) mk_M_placeMany lk_M_409 rc_78 (Nat.le_of_ble_eq_true rfl) (c_M_placeMany (d + 11) M3) (k_I fun r6 M5 => ?_)
      refine tq_if_eq (E := E_M_doctors d) (pc := 28) (tgt := 45) (cks_at k_M_doctors 14 rfl rfl) (by decide) ?_ ?_
      · refine tq_iconst (E := E_M_doctors d) (pc := 45) (cks_at k_M_doctors 21 rfl rfl) ?_
        exact tq_iret (E := E_M_doctors d) (pc := 46) (cks_at k_M_doctors 22 rfl rfl) rfl
      · refine tq_iload_n 3 (E := E_M_doctors d) (pc := 31) (cks_at k_M_doctors 15 rfl rfl) rfl ?_
        refine tq_i2l (E := E_M_doctors d) (pc := 32) (cks_at k_M_doctors 16 rfl rfl) ?_
        refine tq_ldc2 (z := (-1)) (E := E_M_doctors d) (pc := 33) (cks_at k_M_doctors 17 rfl rfl) cst_M_552 ?_
        refine tq_ldc2 (z := 2) (E := E_M_doctors d) (pc := 36) (cks_at k_M_doctors 18 rfl rfl) cst_M_505 ?_
        refine tq_S3 (E := E_M_doctors d) (pc := 39) (cks_at k_M_doctors 19 rfl rfl) mk_M_isIn lk_M_265 (Nat.le_of_ble_eq_true rfl) (c_M_isIn (d + 11) (i32 v3) ((-1)) 2 M5) (k_I fun r8 M7 => ?_)
        refine tq_if_ne (E := E_M_doctors d) (pc := 42) (tgt := 47) (cks_at k_M_doctors 20 rfl rfl) (by decide) ?_ ?_
        · refine tq_aload_n 0 (E := E_M_doctors d) (pc := 47) (cks_at k_M_doctors 23 rfl rfl) rfl ?_
          refine tq_iload_n 1 (E := E_M_doctors d) (pc := 48) (cks_at k_M_doctors 24 rfl rfl) rfl ?_
          refine tq_iload_n 2 (E := E_M_doctors d) (pc := 49) (cks_at k_M_doctors 25 rfl rfl) rfl ?_
          refine tq_V2 (E := E_M_doctors d) (pc := 50) (cks_at k_M_doctors 26 rfl rfl) mk_M_reaches lk_M_575 rc_78 (Nat.le_of_ble_eq_true rfl) (c_M_reaches (d + 0) v1 v2 M7) (k_V fun M9 => ?_)
          refine tq_aload_n 0 (E := E_M_doctors d) (pc := 53) (cks_at k_M_doctors 27 rfl rfl) rfl ?_
          refine tq_V0 (E := E_M_doctors d) (pc := 54) (cks_at k_M_doctors 28 rfl rfl) mk_M_seeksDoctors lk_M_578 rc_78 (Nat.le_of_ble_eq_true rfl) (c_M_seeksDoctors (d + 8) M9) (k_V fun M10 => ?_)
          refine tq_iload_n 3 (E := E_M_doctors d) (pc := 57) (cks_at k_M_doctors 29 rfl rfl) rfl ?_
          refine tq_iconst (E := E_M_doctors d) (pc := 58) (cks_at k_M_doctors 30 rfl rfl) ?_
          refine tq_icmp_ne (E := E_M_doctors d) (pc := 59) (tgt := 69) (cks_at k_M_doctors 31 rfl rfl) (by decide) ?_ ?_
          · refine tq_iload_n 3 (E := E_M_doctors d) (pc := 69) (cks_at k_M_doctors 35 rfl rfl) rfl ?_
            refine tq_aload_n 0 (E := E_M_doctors d) (pc := 70) (cks_at k_M_doctors 36 rfl rfl) rfl ?_
            refine tq_getI (E := E_M_doctors d) (pc := 71) (cks_at k_M_doctors 37 rfl rfl) fo_M_567 so_78 rfl (by decide) ?_
            refine tq_icmp_ge (E := E_M_doctors d) (pc := 74) (tgt := 86) (cks_at k_M_doctors 38 rfl rfl) (by decide) ?_ ?_
            · refine tq_iconst (E := E_M_doctors d) (pc := 86) (cks_at k_M_doctors 44 rfl rfl) ?_
              exact tq_iret (E := E_M_doctors d) (pc := 87) (cks_at k_M_doctors 45 rfl rfl) rfl
            · refine tq_aload_n 0 (E := E_M_doctors d) (pc := 77) (cks_at k_M_doctors 39 rfl rfl) rfl ?_
              refine tq_getR (j := 119) (E := E_M_doctors d) (pc := 78) (cks_at k_M_doctors 40 rfl rfl) fo_M_136 so_78 rfl sp_78_61 ?_
              refine tq_iload_n 3 (E := E_M_doctors d) (pc := 81) (cks_at k_M_doctors 41 rfl rfl) rfl ?_
              refine tq_iald (E := E_M_doctors d) (pc := 82) (cks_at k_M_doctors 42 rfl rfl) sa_119 sn_119 ?_
              refine tq_goto (tgt := 87) (E := E_M_doctors d) (pc := 83) (cks_at k_M_doctors 43 rfl rfl) (by decide) ?_
              exact tq_iret (E := E_M_doctors d) (pc := 87) (cks_at k_M_doctors 45 rfl rfl) rfl
          · refine tq_aload_n 0 (E := E_M_doctors d) (pc := 62) (cks_at k_M_doctors 32 rfl rfl) rfl ?_
            refine tq_getI (E := E_M_doctors d) (pc := 63) (cks_at k_M_doctors 33 rfl rfl) fo_M_567 so_78 rfl (by decide) ?_
            refine tq_goto (tgt := 87) (E := E_M_doctors d) (pc := 66) (cks_at k_M_doctors 34 rfl rfl) (by decide) ?_
            exact tq_iret (E := E_M_doctors d) (pc := 87) (cks_at k_M_doctors 45 rfl rfl) rfl
        · refine tq_iconst (E := E_M_doctors d) (pc := 45) (cks_at k_M_doctors 21 rfl rfl) ?_
          exact tq_iret (E := E_M_doctors d) (pc := 46) (cks_at k_M_doctors 22 rfl rfl) rfl
abbrev E_BT_isBreadth (d : Nat) : Ev := (Ct (d + 0), "BreathTown", prog_1_method_40_code, 1, False, 0, (fun _ => 0), (Option.some Jvm.ClassFile.FieldType.boolean))
def f_BT_isBreadth (v0 : Int) (M : Mm) : Option (Int × Mm) :=
  if i32 v0 < i32 1 then
    some (0, M)
  else
    if i32 99 < i32 v0 then
      some (0, M)
    else
      some (1, M)
set_option maxRecDepth 20000 in
set_option maxHeartbeats 4000000 in
theorem c_BT_isBreadth (d : Nat) (v0 : Int) (M : Mm) (Q : Option Value → Mm → Prop) (h : sat injI (f_BT_isBreadth v0 M) Q) : Ct (d + 1) y_BT_isBreadth [vI v0] M Q := by
  refine ct_in (d := d + 0) mk_BT_isBreadth (Nat.le_of_ble_eq_true rfl) (?_ : T (E_BT_isBreadth d) injI 0 [(0, vI v0)] [] M (f_BT_isBreadth v0 M)) h
  unfold f_BT_isBreadth
  refine tq_iload_n 0 (E := E_BT_isBreadth d) (pc := 0) (cks_at k_BT_isBreadth 0 rfl rfl) rfl ?_
  refine tq_iconst (E := E_BT_isBreadth d) (pc := 1) (cks_at k_BT_isBreadth 1 rfl rfl) ?_
  refine tq_icmp_lt (E := E_BT_isBreadth d) (pc := 2) (tgt := 15) (cks_at k_BT_isBreadth 2 rfl rfl) (by decide) ?_ ?_
  · refine tq_iconst (E := E_BT_isBreadth d) (pc := 15) (cks_at k_BT_isBreadth 8 rfl rfl) ?_
    exact tq_zretC (E := E_BT_isBreadth d) (pc := 16) (cks_at k_BT_isBreadth 9 rfl rfl) rfl (by decide)
  · refine tq_iload_n 0 (E := E_BT_isBreadth d) (pc := 5) (cks_at k_BT_isBreadth 3 rfl rfl) rfl ?_
    refine tq_bipush (E := E_BT_isBreadth d) (pc := 6) (cks_at k_BT_isBreadth 4 rfl rfl) (by decide) (by decide) ?_
    refine tq_icmp_gt (E := E_BT_isBreadth d) (pc := 8) (tgt := 15) (cks_at k_BT_isBreadth 5 rfl rfl) (by decide) ?_ ?_
    · refine tq_iconst (E := E_BT_isBreadth d) (pc := 15) (cks_at k_BT_isBreadth 8 rfl rfl) ?_
      exact tq_zretC (E := E_BT_isBreadth d) (pc := 16) (cks_at k_BT_isBreadth 9 rfl rfl) rfl (by decide)
    · refine tq_iconst (E := E_BT_isBreadth d) (pc := 11) (cks_at k_BT_isBreadth 6 rfl rfl) ?_
      refine tq_goto (tgt := 16) (E := E_BT_isBreadth d) (pc := 12) (cks_at k_BT_isBreadth 7 rfl rfl) (by decide) ?_
      exact tq_zretC (E := E_BT_isBreadth d) (pc := 16) (cks_at k_BT_isBreadth 9 rfl rfl) rfl (by decide)
abbrev E_Many_slot (d : Nat) : Ev := (Ct (d + 0), "BreathTown$Many", prog_3_method_10_code, 2, False, 0, (fun _ => 0), (Option.some Jvm.ClassFile.FieldType.int))
def f_Many_slot (v0 : Int) (v1 : Int) (M : Mm) : Option (Int × Mm) :=
  some ((((i32 v0).tmod (i32 5)) * 81) + (v1 * 9), M)
set_option maxRecDepth 20000 in
set_option maxHeartbeats 4000000 in
theorem c_Many_slot (d : Nat) (v0 : Int) (v1 : Int) (M : Mm) (Q : Option Value → Mm → Prop) (h : sat injI (f_Many_slot v0 v1 M) Q) : Ct (d + 1) y_Many_slot [vI v0, vI v1] M Q := by
  refine ct_in (d := d + 0) mk_Many_slot (Nat.le_of_ble_eq_true rfl) (?_ : T (E_Many_slot d) injI 0 [(0, vI v0), (1, vI v1)] [] M (f_Many_slot v0 v1 M)) h
  unfold f_Many_slot
  refine tq_iload_n 0 (E := E_Many_slot d) (pc := 0) (cks_at k_Many_slot 0 rfl rfl) rfl ?_
  refine tq_iconst (E := E_Many_slot d) (pc := 1) (cks_at k_Many_slot 1 rfl rfl) ?_
  refine tq_iremC (E := E_Many_slot d) (pc := 2) (cks_at k_Many_slot 2 rfl rfl) (by decide) ?_
  refine tq_bipush (E := E_Many_slot d) (pc := 3) (cks_at k_Many_slot 3 rfl rfl) (by decide) (by decide) ?_
  refine tq_imul (E := E_Many_slot d) (pc := 5) (cks_at k_Many_slot 4 rfl rfl) ?_
  refine tq_iload_n 1 (E := E_Many_slot d) (pc := 6) (cks_at k_Many_slot 5 rfl rfl) rfl ?_
  refine tq_bipush (E := E_Many_slot d) (pc := 7) (cks_at k_Many_slot 6 rfl rfl) (by decide) (by decide) ?_
  refine tq_imul (E := E_Many_slot d) (pc := 9) (cks_at k_Many_slot 7 rfl rfl) ?_
  refine tq_iadd (E := E_Many_slot d) (pc := 10) (cks_at k_Many_slot 8 rfl rfl) ?_
  exact tq_iret (E := E_Many_slot d) (pc := 11) (cks_at k_Many_slot 9 rfl rfl) rfl
abbrev E_Many_areIn (d : Nat) : Ev := (Ct (d + 2), "BreathTown$Many", prog_3_method_11_code, 4, False, 0, (fun _ => 0), (Option.some Jvm.ClassFile.FieldType.boolean))
def f_Many_areIn (v1 : Int) (v2 : Int) (M : Mm) : Option (Int × Mm) :=
  bI (f_Told_count 3 0 M) (fun r2 M1 =>
  if i32 v1 < 0 then
    some (0, M1)
  else
    if i32 ((((405 : Nat) : Int)) - r2) < i32 v1 then
      some (0, M1)
    else
      if i32 v2 < 0 then
        some (0, M1)
      else
        if i32 ((((405 : Nat) : Int)) - r2) < i32 v2 then
          some (0, M1)
        else
          some (1, M1))
set_option maxRecDepth 20000 in
set_option maxHeartbeats 4000000 in
theorem c_Many_areIn (d : Nat) (v1 : Int) (v2 : Int) (M : Mm) (Q : Option Value → Mm → Prop) (h : sat injI (f_Many_areIn v1 v2 M) Q) : Ct (d + 3) y_Many_areIn [.ref 55, vI v1, vI v2] M Q := by
  refine ct_in (d := d + 2) mk_Many_areIn (Nat.le_of_ble_eq_true rfl) (?_ : T (E_Many_areIn d) injI 0 [(0, .ref 55), (1, vI v1), (2, vI v2)] [] M (f_Many_areIn v1 v2 M)) h
  unfold f_Many_areIn
  refine tq_aload_n 0 (E := E_Many_areIn d) (pc := 0) (cks_at k_Many_areIn 0 rfl rfl) rfl ?_
  refine tq_getR (j := 61) (E := E_Many_areIn d) (pc := 1) (cks_at k_Many_areIn 1 rfl rfl) fo_Many_27 so_55 rfl sp_55_11 ?_
  refine tq_alen (E := E_Many_areIn d) (pc := 4) (cks_at k_Many_areIn 2 rfl rfl) ⟨by rw [(sa_61).1]; decide, by rw [(sa_61).1]; decide, (sa_61).2⟩ sn_61 ?_
  refine tq_aload_n 0 (E := E_Many_areIn d) (pc := 5) (cks_at k_Many_areIn 3 rfl rfl) rfl ?_
  refine tq_getR (j := 3) (E := E_Many_areIn d) (pc := 6) (cks_at k_Many_areIn 4 rfl rfl) fo_Many_36 so_55 rfl sp_55_0 ?_
  refine tq_iconst (E := E_Many_areIn d) (pc := 9) (cks_at k_Many_areIn 5 rfl rfl) ?_
  refine tq_V1 (E := E_Many_areIn d) (pc := 10) (cks_at k_Many_areIn 6 rfl rfl) mk_Told_count lk_Many_130 (isTold_rc (Or.inl rfl)) (Nat.le_of_ble_eq_true rfl) (c_Told_count (d + 0) 3 (Or.inl rfl) 0 M) (k_I fun r2 M1 => ?_)
  refine tq_isub (E := E_Many_areIn d) (pc := 13) (cks_at k_Many_areIn 7 rfl rfl) ?_
  refine tq_istore_n (E := E_Many_areIn d) (pc := 14) (cks_at k_Many_areIn 8 rfl rfl) (show 3 < 4 by decide) rfl ?_
  refine tq_iload_n 2 (E := E_Many_areIn d) (pc := 15) (cks_at k_Many_areIn 9 rfl rfl) rfl ?_
  refine tq_if_lt (E := E_Many_areIn d) (pc := 16) (tgt := 37) (cks_at k_Many_areIn 10 rfl rfl) (by decide) ?_ ?_
  · refine tq_iconst (E := E_Many_areIn d) (pc := 37) (cks_at k_Many_areIn 21 rfl rfl) ?_
    exact tq_zretC (E := E_Many_areIn d) (pc := 38) (cks_at k_Many_areIn 22 rfl rfl) rfl (by decide)
  · refine tq_iload_n 2 (E := E_Many_areIn d) (pc := 19) (cks_at k_Many_areIn 11 rfl rfl) rfl ?_
    refine tq_iload_n 0 (E := E_Many_areIn d) (pc := 20) (cks_at k_Many_areIn 12 rfl rfl) rfl ?_
    refine tq_icmp_gt (E := E_Many_areIn d) (pc := 21) (tgt := 37) (cks_at k_Many_areIn 13 rfl rfl) (by decide) ?_ ?_
    · refine tq_iconst (E := E_Many_areIn d) (pc := 37) (cks_at k_Many_areIn 21 rfl rfl) ?_
      exact tq_zretC (E := E_Many_areIn d) (pc := 38) (cks_at k_Many_areIn 22 rfl rfl) rfl (by decide)
    · refine tq_iload_n 3 (E := E_Many_areIn d) (pc := 24) (cks_at k_Many_areIn 14 rfl rfl) rfl ?_
      refine tq_if_lt (E := E_Many_areIn d) (pc := 25) (tgt := 37) (cks_at k_Many_areIn 15 rfl rfl) (by decide) ?_ ?_
      · refine tq_iconst (E := E_Many_areIn d) (pc := 37) (cks_at k_Many_areIn 21 rfl rfl) ?_
        exact tq_zretC (E := E_Many_areIn d) (pc := 38) (cks_at k_Many_areIn 22 rfl rfl) rfl (by decide)
      · refine tq_iload_n 3 (E := E_Many_areIn d) (pc := 28) (cks_at k_Many_areIn 16 rfl rfl) rfl ?_
        refine tq_iload_n 0 (E := E_Many_areIn d) (pc := 29) (cks_at k_Many_areIn 17 rfl rfl) rfl ?_
        refine tq_icmp_gt (E := E_Many_areIn d) (pc := 30) (tgt := 37) (cks_at k_Many_areIn 18 rfl rfl) (by decide) ?_ ?_
        · refine tq_iconst (E := E_Many_areIn d) (pc := 37) (cks_at k_Many_areIn 21 rfl rfl) ?_
          exact tq_zretC (E := E_Many_areIn d) (pc := 38) (cks_at k_Many_areIn 22 rfl rfl) rfl (by decide)
        · refine tq_iconst (E := E_Many_areIn d) (pc := 33) (cks_at k_Many_areIn 19 rfl rfl) ?_
          refine tq_goto (tgt := 38) (E := E_Many_areIn d) (pc := 34) (cks_at k_Many_areIn 20 rfl rfl) (by decide) ?_
          exact tq_zretC (E := E_Many_areIn d) (pc := 38) (cks_at k_Many_areIn 22 rfl rfl) rfl (by decide)
abbrev E_Many_waitOn (d : Nat) : Ev := (Ct (d + 3), "BreathTown$Many", prog_3_method_12_code, 7, False, 0, (fun _ => 0), (Option.none : Option Jvm.ClassFile.FieldType))
def f_Many_waitOn_B47 (kH : Int → Int → Int → Int → Int → Int → Mm → Option (Mm)) (kx89 : Int → Int → Int → Mm → Option (Mm)) (v1 v2 v3 v4 v5 v6 : Int) (M : Mm) : Option (Mm) :=
  if i32 v2 ≤ i32 v6 then
    kx89 v1 v2 v3 M
  else
    if ¬ i32 v3 = i32 v6 then
      gd (0 ≤ i32 (v5 + v6) ∧ i32 (v5 + v6) < ((405 : Nat) : Int)) <|
      gd (0 ≤ i32 (v4 + v6) ∧ i32 (v4 + v6) < ((405 : Nat) : Int)) <|
      bd (up M 61 (i32 (v4 + v6)).toNat (M 61 (i32 (v5 + v6)).toNat)) (fun M9 =>
      kH v1 v2 v3 v4 v5 (v6 + 1) M9)
    else
      gd (0 ≤ i32 (v4 + v6) ∧ i32 (v4 + v6) < ((405 : Nat) : Int)) <|
      bd (up M 61 (i32 (v4 + v6)).toNat v1) (fun M10 =>
      kH v1 v2 v3 v4 v5 (v6 + 1) M10)
set_option maxRecDepth 20000 in
set_option maxHeartbeats 4000000 in
theorem w_Many_waitOn_B47 (d : Nat) (kH : Int → Int → Int → Int → Int → Int → Mm → Option (Mm)) (kx89 : Int → Int → Int → Mm → Option (Mm)) (hkH : ∀ (v1 v2 v3 v4 v5 v6 : Int) (M : Mm), T (E_Many_waitOn d) injV 47 [(0, .ref 55), (1, vI v1), (2, vI v2), (3, vI v3), (4, vI v4), (5, vI v5), (6, vI v6)] [] M (kH v1 v2 v3 v4 v5 v6 M)) (hkx89 : ∀ (v1 v2 v3 : Int) (M : Mm), T (E_Many_waitOn d) injV 89 [(0, .ref 55), (1, vI v1), (2, vI v2), (3, vI v3)] [] M (kx89 v1 v2 v3 M)) (v1 v2 v3 v4 v5 v6 : Int) (M : Mm) : T (E_Many_waitOn d) injV 47 [(0, .ref 55), (1, vI v1), (2, vI v2), (3, vI v3), (4, vI v4), (5, vI v5), (6, vI v6)] [] M (f_Many_waitOn_B47 kH kx89 v1 v2 v3 v4 v5 v6 M) := by
  unfold f_Many_waitOn_B47
  refine tq_iload 6 (E := E_Many_waitOn d) (pc := 47) (cks_at k_Many_waitOn 28 rfl rfl) rfl ?_
  refine tq_iload_n 2 (E := E_Many_waitOn d) (pc := 49) (cks_at k_Many_waitOn 29 rfl rfl) rfl ?_
  refine tq_icmp_ge (E := E_Many_waitOn d) (pc := 50) (tgt := 89) (cks_at k_Many_waitOn 30 rfl rfl) (by decide) ?_ ?_
  · exact tq_sub [0, 1, 2, 3] rfl (hkx89 v1 v2 v3 M)
  · refine tq_aload_n 0 (E := E_Many_waitOn d) (pc := 53) (cks_at k_Many_waitOn 31 rfl rfl) rfl ?_
    refine tq_getR (j := 61) (E := E_Many_waitOn d) (pc := 54) (cks_at k_Many_waitOn 32 rfl rfl) fo_Many_27 so_55 rfl sp_55_11 ?_
    refine tq_iload 4 (E := E_Many_waitOn d) (pc := 57) (cks_at k_Many_waitOn 33 rfl rfl) rfl ?_
    refine tq_iload 6 (E := E_Many_waitOn d) (pc := 59) (cks_at k_Many_waitOn 34 rfl rfl) rfl ?_
    refine tq_iadd (E := E_Many_waitOn d) (pc := 61) (cks_at k_Many_waitOn 35 rfl rfl) ?_
    refine tq_iload_n 3 (E := E_Many_waitOn d) (pc := 62) (cks_at k_Many_waitOn 36 rfl rfl) rfl ?_
    refine tq_iload 6 (E := E_Many_waitOn d) (pc := 63) (cks_at k_Many_waitOn 37 rfl rfl) rfl ?_
    refine tq_icmp_ne (E := E_Many_waitOn d) (pc := 65) (tgt := 72) (cks_at k_Many_waitOn 38 rfl rfl) (by decide) ?_ ?_
    · refine tq_aload_n 0 (E := E_Many_waitOn d) (pc := 72) (cks_at k_Many_waitOn 41 rfl rfl) rfl ?_
      refine tq_getR (j := 61) (E := E_Many_waitOn d) (pc := 73) (cks_at k_Many_waitOn 42 rfl rfl) fo_Many_27 so_55 rfl sp_55_11 ?_
      refine tq_iload 5 (E := E_Many_waitOn d) (pc := 76) (cks_at k_Many_waitOn 43 rfl rfl) rfl ?_
      refine tq_iload 6 (E := E_Many_waitOn d) (pc := 78) (cks_at k_Many_waitOn 44 rfl rfl) rfl ?_
      refine tq_iadd (E := E_Many_waitOn d) (pc := 80) (cks_at k_Many_waitOn 45 rfl rfl) ?_
      refine tq_iald (E := E_Many_waitOn d) (pc := 81) (cks_at k_Many_waitOn 46 rfl rfl) sa_61 sn_61 ?_
      refine tq_iast (E := E_Many_waitOn d) (pc := 82) (cks_at k_Many_waitOn 47 rfl rfl) sa_61 sn_61 (fun M9 => ?_)
      refine tq_iinc 6 (E := E_Many_waitOn d) (pc := 83) (cks_at k_Many_waitOn 48 rfl rfl) rfl (show 6 < 7 by decide) rfl ?_
      refine tq_goto (tgt := 47) (E := E_Many_waitOn d) (pc := 86) (cks_at k_Many_waitOn 49 rfl rfl) (by decide) ?_
      exact tq_sub [1, 2, 3, 4, 5, 6, 0] rfl (hkH v1 v2 v3 v4 v5 (v6 + 1) M9)
    · refine tq_iload_n 1 (E := E_Many_waitOn d) (pc := 68) (cks_at k_Many_waitOn 39 rfl rfl) rfl ?_
      refine tq_goto (tgt := 82) (E := E_Many_waitOn d) (pc := 69) (cks_at k_Many_waitOn 40 rfl rfl) (by decide) ?_
      refine tq_iast (E := E_Many_waitOn d) (pc := 82) (cks_at k_Many_waitOn 47 rfl rfl) sa_61 sn_61 (fun M10 => ?_)
      refine tq_iinc 6 (E := E_Many_waitOn d) (pc := 83) (cks_at k_Many_waitOn 48 rfl rfl) rfl (show 6 < 7 by decide) rfl ?_
      refine tq_goto (tgt := 47) (E := E_Many_waitOn d) (pc := 86) (cks_at k_Many_waitOn 49 rfl rfl) (by decide) ?_
      exact tq_sub [1, 2, 3, 4, 5, 6, 0] rfl (hkH v1 v2 v3 v4 v5 (v6 + 1) M10)
def f_Many_waitOn_L47 (kx89 : Int → Int → Int → Mm → Option (Mm)) : Nat → Int × Int × Int × Int × Int × Int × Mm → Option (Mm) := lp fun kH s => f_Many_waitOn_B47 (fun v1 v2 v3 v4 v5 v6 M => kH (v1, v2, v3, v4, v5, v6, M)) kx89 s.1 s.2.1 s.2.2.1 s.2.2.2.1 s.2.2.2.2.1 s.2.2.2.2.2.1 s.2.2.2.2.2.2
set_option maxRecDepth 20000 in
set_option maxHeartbeats 4000000 in
theorem w_Many_waitOn_L47 (d : Nat) (kx89 : Int → Int → Int → Mm → Option (Mm)) (hkx89 : ∀ (v1 v2 v3 : Int) (M : Mm), T (E_Many_waitOn d) injV 89 [(0, .ref 55), (1, vI v1), (2, vI v2), (3, vI v3)] [] M (kx89 v1 v2 v3 M)) (n : Nat) (s : Int × Int × Int × Int × Int × Int × Mm) : T (E_Many_waitOn d) injV 47 [(0, .ref 55), (1, vI s.1), (2, vI s.2.1), (3, vI s.2.2.1), (4, vI s.2.2.2.1), (5, vI s.2.2.2.2.1), (6, vI s.2.2.2.2.2.1)] [] s.2.2.2.2.2.2 (f_Many_waitOn_L47 kx89 n s) :=
  tq_lp (fun s => [(0, .ref 55), (1, vI s.1), (2, vI s.2.1), (3, vI s.2.2.1), (4, vI s.2.2.2.1), (5, vI s.2.2.2.2.1), (6, vI s.2.2.2.2.2.1)]) (fun s => s.2.2.2.2.2.2) (fun kH hH s => w_Many_waitOn_B47 d (fun v1 v2 v3 v4 v5 v6 M => kH (v1, v2, v3, v4, v5, v6, M)) kx89 (fun v1 v2 v3 v4 v5 v6 M => hH (v1, v2, v3, v4, v5, v6, M)) hkx89 s.1 s.2.1 s.2.2.1 s.2.2.2.1 s.2.2.2.2.1 s.2.2.2.2.2.1 s.2.2.2.2.2.2) n s
def f_Many_waitOn_B11 (kH : Int → Int → Int → Mm → Option (Mm)) (v1 v2 v3 : Int) (M : Mm) : Option (Mm) :=
  if i32 v2 ≤ i32 v3 then
    some M
  else
    bI (f_Many_slot v1 v3 M) (fun r4 M3 =>
    bI (f_Many_slot (v1 + 1) v3 M3) (fun r6 M5 =>
    bI (f_Many_areIn r4 r6 M5) (fun r8 M7 =>
    if ¬ i32 r8 = 0 then
      f_Many_waitOn_L47 (fun v1 v2 v3 M11 => kH v1 v2 (v3 + 1) M11) FU (v1, v2, v3, r4, r6, 0, M7)
    else
      some M7)))
set_option maxRecDepth 20000 in
set_option maxHeartbeats 4000000 in
theorem w_Many_waitOn_B11 (d : Nat) (kH : Int → Int → Int → Mm → Option (Mm)) (hkH : ∀ (v1 v2 v3 : Int) (M : Mm), T (E_Many_waitOn d) injV 11 [(0, .ref 55), (1, vI v1), (2, vI v2), (3, vI v3)] [] M (kH v1 v2 v3 M)) (v1 v2 v3 : Int) (M : Mm) : T (E_Many_waitOn d) injV 11 [(0, .ref 55), (1, vI v1), (2, vI v2), (3, vI v3)] [] M (f_Many_waitOn_B11 kH v1 v2 v3 M) := by
  unfold f_Many_waitOn_B11
  refine tq_iload_n 3 (E := E_Many_waitOn d) (pc := 11) (cks_at k_Many_waitOn 7 rfl rfl) rfl ?_
  refine tq_iload_n 2 (E := E_Many_waitOn d) (pc := 12) (cks_at k_Many_waitOn 8 rfl rfl) rfl ?_
  refine tq_icmp_ge (E := E_Many_waitOn d) (pc := 13) (tgt := 95) (cks_at k_Many_waitOn 9 rfl rfl) (by decide) ?_ ?_
  · exact tq_vret (E := E_Many_waitOn d) (pc := 95) (cks_at k_Many_waitOn 52 rfl rfl) rfl
  · refine tq_iload_n 1 (E := E_Many_waitOn d) (pc := 16) (cks_at k_Many_waitOn 10 rfl rfl) rfl ?_
    refine tq_iload_n 3 (E := E_Many_waitOn d) (pc := 17) (cks_at k_Many_waitOn 11 rfl rfl) rfl ?_
    refine tq_S2 (E := E_Many_waitOn d) (pc := 18) (cks_at k_Many_waitOn 12 rfl rfl) mk_Many_slot lk_Many_170 (Nat.le_of_ble_eq_true rfl) (c_Many_slot (d + 2) v1 v3 M) (k_I fun r4 M3 => ?_)
    refine tq_istore (E := E_Many_waitOn d) (pc := 21) (cks_at k_Many_waitOn 13 rfl rfl) (show 4 < 7 by decide) rfl ?_
    refine tq_iload_n 2 (E := E_Many_waitOn d) (pc := 23) (cks_at k_Many_waitOn 14 rfl rfl) rfl ?_
    refine tq_iconst (E := E_Many_waitOn d) (pc := 24) (cks_at k_Many_waitOn 15 rfl rfl) ?_
    refine tq_iadd (E := E_Many_waitOn d) (pc := 25) (cks_at k_Many_waitOn 16 rfl rfl) ?_
    refine tq_iload_n 4 (E := E_Many_waitOn d) (pc := 26) (cks_at k_Many_waitOn 17 rfl rfl) rfl ?_
    refine tq_S2 (E := E_Many_waitOn d) (pc := 27) (cks_at k_Many_waitOn 18 rfl rfl) mk_Many_slot lk_Many_170 (Nat.le_of_ble_eq_true rfl) (c_Many_slot (d + 2) (v1 + 1) v3 M3) (k_I fun r6 M5 => ?_)
    refine tq_istore (E := E_Many_waitOn d) (pc := 30) (cks_at k_Many_waitOn 19 rfl rfl) (show 5 < 7 by decide) rfl ?_
    refine tq_aload_n 2 (E := E_Many_waitOn d) (pc := 32) (cks_at k_Many_waitOn 20 rfl rfl) rfl ?_
    refine tq_iload 1 (E := E_Many_waitOn d) (pc := 33) (cks_at k_Many_waitOn 21 rfl rfl) rfl ?_
    refine tq_iload 0 (E := E_Many_waitOn d) (pc := 35) (cks_at k_Many_waitOn 22 rfl rfl) rfl ?_
    refine tq_V2 (E := E_Many_waitOn d) (pc := 37) (cks_at k_Many_waitOn 23 rfl rfl) mk_Many_areIn lk_Many_173 rc_55 (Nat.le_of_ble_eq_true rfl) (c_Many_areIn (d + 0) r4 r6 M5) (k_I fun r8 M7 => ?_)
    refine tq_if_ne (E := E_Many_waitOn d) (pc := 40) (tgt := 44) (cks_at k_Many_waitOn 24 rfl rfl) (by decide) ?_ ?_
    · refine tq_iconst (E := E_Many_waitOn d) (pc := 44) (cks_at k_Many_waitOn 26 rfl rfl) ?_
      refine tq_istore (E := E_Many_waitOn d) (pc := 45) (cks_at k_Many_waitOn 27 rfl rfl) (show 6 < 7 by decide) rfl ?_
      exact tq_sub [3, 4, 5, 6, 2, 1, 0] rfl (w_Many_waitOn_L47 d _ (fun v1 v2 v3 M11 => by
          refine tq_iinc 3 (E := E_Many_waitOn d) (pc := 89) (cks_at k_Many_waitOn 50 rfl rfl) rfl (show 3 < 7 by decide) rfl ?_
          refine tq_goto (tgt := 11) (E := E_Many_waitOn d) (pc := 92) (cks_at k_Many_waitOn 51 rfl rfl) (by decide) ?_
          exact tq_sub [1, 2, 3, 0] rfl (hkH v1 v2 (v3 + 1) M11)) FU (v1, v2, v3, r4, r6, 0, M7))
    · exact tq_vret (E := E_Many_waitOn d) (pc := 43) (cks_at k_Many_waitOn 25 rfl rfl) rfl
def f_Many_waitOn_L11 : Nat → Int × Int × Int × Mm → Option (Mm) := lp fun kH s => f_Many_waitOn_B11 (fun v1 v2 v3 M => kH (v1, v2, v3, M)) s.1 s.2.1 s.2.2.1 s.2.2.2
set_option maxRecDepth 20000 in
set_option maxHeartbeats 4000000 in
theorem w_Many_waitOn_L11 (d : Nat) (n : Nat) (s : Int × Int × Int × Mm) : T (E_Many_waitOn d) injV 11 [(0, .ref 55), (1, vI s.1), (2, vI s.2.1), (3, vI s.2.2.1)] [] s.2.2.2 (f_Many_waitOn_L11 n s) :=
  tq_lp (fun s => [(0, .ref 55), (1, vI s.1), (2, vI s.2.1), (3, vI s.2.2.1)]) (fun s => s.2.2.2) (fun kH hH s => w_Many_waitOn_B11 d (fun v1 v2 v3 M => kH (v1, v2, v3, M)) (fun v1 v2 v3 M => hH (v1, v2, v3, M)) s.1 s.2.1 s.2.2.1 s.2.2.2) n s
def f_Many_waitOn (v1 : Int) (M : Mm) : Option (Mm) :=
  bI (f_Told_count 3 0 M) (fun r2 M1 =>
  f_Many_waitOn_L11 FU (v1, r2, 0, M1))
set_option maxRecDepth 20000 in
set_option maxHeartbeats 4000000 in
theorem c_Many_waitOn (d : Nat) (v1 : Int) (M : Mm) (Q : Option Value → Mm → Prop) (h : sat injV (f_Many_waitOn v1 M) Q) : Ct (d + 4) y_Many_waitOn [.ref 55, vI v1] M Q := by
  refine ct_in (d := d + 3) mk_Many_waitOn (Nat.le_of_ble_eq_true rfl) (?_ : T (E_Many_waitOn d) injV 0 [(0, .ref 55), (1, vI v1)] [] M (f_Many_waitOn v1 M)) h
  unfold f_Many_waitOn
  refine tq_aload_n 0 (E := E_Many_waitOn d) (pc := 0) (cks_at k_Many_waitOn 0 rfl rfl) rfl ?_
  refine tq_getR (j := 3) (E := E_Many_waitOn d) (pc := 1) (cks_at k_Many_waitOn 1 rfl rfl) fo_Many_36 so_55 rfl sp_55_0 ?_
  refine tq_iconst (E := E_Many_waitOn d) (pc := 4) (cks_at k_Many_waitOn 2 rfl rfl) ?_
  refine tq_V1 (E := E_Many_waitOn d) (pc := 5) (cks_at k_Many_waitOn 3 rfl rfl) mk_Told_count lk_Many_130 (isTold_rc (Or.inl rfl)) (Nat.le_of_ble_eq_true rfl) (c_Told_count (d + 1) 3 (Or.inl rfl) 0 M) (k_I fun r2 M1 => ?_)
  refine tq_istore_n (E := E_Many_waitOn d) (pc := 8) (cks_at k_Many_waitOn 4 rfl rfl) (show 2 < 7 by decide) rfl ?_
  refine tq_iconst (E := E_Many_waitOn d) (pc := 9) (cks_at k_Many_waitOn 5 rfl rfl) ?_
  refine tq_istore_n (E := E_Many_waitOn d) (pc := 10) (cks_at k_Many_waitOn 6 rfl rfl) (show 3 < 7 by decide) rfl ?_
  exact tq_sub [2, 3, 1, 0] rfl (w_Many_waitOn_L11 d FU (v1, r2, 0, M1))
abbrev E_Many_passOn (d : Nat) : Ev := (Ct (d + 3), "BreathTown$Many", prog_3_method_13_code, 9, False, 0, (fun _ => 0), (Option.none : Option Jvm.ClassFile.FieldType))
def f_Many_passOn_B42 (kH : Int → Int → Int → Int → Mm → Option (Mm)) (v5 v6 v7 v8 : Int) (M : Mm) : Option (Mm) :=
  if i32 v5 ≤ i32 v8 then
    some M
  else
    gd (0 ≤ i32 (v7 + v8) ∧ i32 (v7 + v8) < ((405 : Nat) : Int)) <|
    gd (0 ≤ i32 (v6 + v8) ∧ i32 (v6 + v8) < ((405 : Nat) : Int)) <|
    if i32 (M 61 (i32 (v6 + v8)).toNat) ≤ i32 (M 61 (i32 (v7 + v8)).toNat) then
      kH v5 v6 v7 (v8 + 1) M
    else
      gd (0 ≤ i32 (v7 + v8) ∧ i32 (v7 + v8) < ((405 : Nat) : Int)) <|
      gd (0 ≤ i32 (v6 + v8) ∧ i32 (v6 + v8) < ((405 : Nat) : Int)) <|
      bd (up M 61 (i32 (v6 + v8)).toNat (M 61 (i32 (v7 + v8)).toNat)) (fun M9 =>
      kH v5 v6 v7 (v8 + 1) M9)
set_option maxRecDepth 20000 in
set_option maxHeartbeats 4000000 in
theorem w_Many_passOn_B42 (d : Nat) (kH : Int → Int → Int → Int → Mm → Option (Mm)) (hkH : ∀ (v5 v6 v7 v8 : Int) (M : Mm), T (E_Many_passOn d) injV 42 [(0, .ref 55), (5, vI v5), (6, vI v6), (7, vI v7), (8, vI v8)] [] M (kH v5 v6 v7 v8 M)) (v5 v6 v7 v8 : Int) (M : Mm) : T (E_Many_passOn d) injV 42 [(0, .ref 55), (5, vI v5), (6, vI v6), (7, vI v7), (8, vI v8)] [] M (f_Many_passOn_B42 kH v5 v6 v7 v8 M) := by
  unfold f_Many_passOn_B42
  refine tq_iload 4 (E := E_Many_passOn d) (pc := 42) (cks_at k_Many_passOn 23 rfl rfl) rfl ?_
  refine tq_iload 1 (E := E_Many_passOn d) (pc := 44) (cks_at k_Many_passOn 24 rfl rfl) rfl ?_
  refine tq_icmp_ge (E := E_Many_passOn d) (pc := 46) (tgt := 98) (cks_at k_Many_passOn 25 rfl rfl) (by decide) ?_ ?_
  · exact tq_vret (E := E_Many_passOn d) (pc := 98) (cks_at k_Many_passOn 53 rfl rfl) rfl
  · refine tq_aload_n 0 (E := E_Many_passOn d) (pc := 49) (cks_at k_Many_passOn 26 rfl rfl) rfl ?_
    refine tq_getR (j := 61) (E := E_Many_passOn d) (pc := 50) (cks_at k_Many_passOn 27 rfl rfl) fo_Many_27 so_55 rfl sp_55_11 ?_
    refine tq_iload 3 (E := E_Many_passOn d) (pc := 53) (cks_at k_Many_passOn 28 rfl rfl) rfl ?_
    refine tq_iload 4 (E := E_Many_passOn d) (pc := 55) (cks_at k_Many_passOn 29 rfl rfl) rfl ?_
    refine tq_iadd (E := E_Many_passOn d) (pc := 57) (cks_at k_Many_passOn 30 rfl rfl) ?_
    refine tq_iald (E := E_Many_passOn d) (pc := 58) (cks_at k_Many_passOn 31 rfl rfl) sa_61 sn_61 ?_
    refine tq_aload_n 0 (E := E_Many_passOn d) (pc := 59) (cks_at k_Many_passOn 32 rfl rfl) rfl ?_
    refine tq_getR (j := 61) (E := E_Many_passOn d) (pc := 60) (cks_at k_Many_passOn 33 rfl rfl) fo_Many_27 so_55 rfl sp_55_11 ?_
    refine tq_iload 2 (E := E_Many_passOn d) (pc := 63) (cks_at k_Many_passOn 34 rfl rfl) rfl ?_
    refine tq_iload 4 (E := E_Many_passOn d) (pc := 65) (cks_at k_Many_passOn 35 rfl rfl) rfl ?_
    refine tq_iadd (E := E_Many_passOn d) (pc := 67) (cks_at k_Many_passOn 36 rfl rfl) ?_
    refine tq_iald (E := E_Many_passOn d) (pc := 68) (cks_at k_Many_passOn 37 rfl rfl) sa_61 sn_61 ?_
    refine tq_icmp_ge (E := E_Many_passOn d) (pc := 69) (tgt := 92) (cks_at k_Many_passOn 38 rfl rfl) (by decide) ?_ ?_
    · refine tq_iinc 4 (E := E_Many_passOn d) (pc := 92) (cks_at k_Many_passOn 51 rfl rfl) rfl (show 8 < 9 by decide) rfl ?_
      refine tq_goto (tgt := 42) (E := E_Many_passOn d) (pc := 95) (cks_at k_Many_passOn 52 rfl rfl) (by decide) ?_
      exact tq_sub [1, 2, 3, 4, 0] rfl (hkH v5 v6 v7 (v8 + 1) M)
    · refine tq_aload_n 0 (E := E_Many_passOn d) (pc := 72) (cks_at k_Many_passOn 39 rfl rfl) rfl ?_
      refine tq_getR (j := 61) (E := E_Many_passOn d) (pc := 73) (cks_at k_Many_passOn 40 rfl rfl) fo_Many_27 so_55 rfl sp_55_11 ?_
      refine tq_iload 2 (E := E_Many_passOn d) (pc := 76) (cks_at k_Many_passOn 41 rfl rfl) rfl ?_
      refine tq_iload 4 (E := E_Many_passOn d) (pc := 78) (cks_at k_Many_passOn 42 rfl rfl) rfl ?_
      refine tq_iadd (E := E_Many_passOn d) (pc := 80) (cks_at k_Many_passOn 43 rfl rfl) ?_
      refine tq_aload_n 0 (E := E_Many_passOn d) (pc := 81) (cks_at k_Many_passOn 44 rfl rfl) rfl ?_
      refine tq_getR (j := 61) (E := E_Many_passOn d) (pc := 82) (cks_at k_Many_passOn 45 rfl rfl) fo_Many_27 so_55 rfl sp_55_11 ?_
      refine tq_iload 3 (E := E_Many_passOn d) (pc := 85) (cks_at k_Many_passOn 46 rfl rfl) rfl ?_
      refine tq_iload 4 (E := E_Many_passOn d) (pc := 87) (cks_at k_Many_passOn 47 rfl rfl) rfl ?_
      refine tq_iadd (E := E_Many_passOn d) (pc := 89) (cks_at k_Many_passOn 48 rfl rfl) ?_
      refine tq_iald (E := E_Many_passOn d) (pc := 90) (cks_at k_Many_passOn 49 rfl rfl) sa_61 sn_61 ?_
      refine tq_iast (E := E_Many_passOn d) (pc := 91) (cks_at k_Many_passOn 50 rfl rfl) sa_61 sn_61 (fun M9 => ?_)
      refine tq_iinc 4 (E := E_Many_passOn d) (pc := 92) (cks_at k_Many_passOn 51 rfl rfl) rfl (show 8 < 9 by decide) rfl ?_
      refine tq_goto (tgt := 42) (E := E_Many_passOn d) (pc := 95) (cks_at k_Many_passOn 52 rfl rfl) (by decide) ?_
      exact tq_sub [1, 2, 3, 4, 0] rfl (hkH v5 v6 v7 (v8 + 1) M9)
def f_Many_passOn_L42 : Nat → Int × Int × Int × Int × Mm → Option (Mm) := lp fun kH s => f_Many_passOn_B42 (fun v5 v6 v7 v8 M => kH (v5, v6, v7, v8, M)) s.1 s.2.1 s.2.2.1 s.2.2.2.1 s.2.2.2.2
set_option maxRecDepth 20000 in
set_option maxHeartbeats 4000000 in
theorem w_Many_passOn_L42 (d : Nat) (n : Nat) (s : Int × Int × Int × Int × Mm) : T (E_Many_passOn d) injV 42 [(0, .ref 55), (5, vI s.1), (6, vI s.2.1), (7, vI s.2.2.1), (8, vI s.2.2.2.1)] [] s.2.2.2.2 (f_Many_passOn_L42 n s) :=
  tq_lp (fun s => [(0, .ref 55), (5, vI s.1), (6, vI s.2.1), (7, vI s.2.2.1), (8, vI s.2.2.2.1)]) (fun s => s.2.2.2.2) (fun kH hH s => w_Many_passOn_B42 d (fun v5 v6 v7 v8 M => kH (v5, v6, v7, v8, M)) (fun v5 v6 v7 v8 M => hH (v5, v6, v7, v8, M)) s.1 s.2.1 s.2.2.1 s.2.2.2.1 s.2.2.2.2) n s
def f_Many_passOn (v1 : Int) (v2 : Int) (v3 : Int) (v4 : Int) (M : Mm) : Option (Mm) :=
  bI (f_Told_count 3 0 M) (fun r2 M1 =>
  bI (f_Many_slot v1 v3 M1) (fun r4 M3 =>
  bI (f_Many_slot (v1 + v2) v4 M3) (fun r6 M5 =>
  bI (f_Many_areIn r4 r6 M5) (fun r8 M7 =>
  if ¬ i32 r8 = 0 then
    f_Many_passOn_L42 FU (r2, r4, r6, 0, M7)
  else
    some M7))))
set_option maxRecDepth 20000 in
set_option maxHeartbeats 4000000 in
theorem c_Many_passOn (d : Nat) (v1 : Int) (v2 : Int) (v3 : Int) (v4 : Int) (M : Mm) (Q : Option Value → Mm → Prop) (h : sat injV (f_Many_passOn v1 v2 v3 v4 M) Q) : Ct (d + 4) y_Many_passOn [.ref 55, vI v1, vI v2, vI v3, vI v4] M Q := by
  refine ct_in (d := d + 3) mk_Many_passOn (Nat.le_of_ble_eq_true rfl) (?_ : T (E_Many_passOn d) injV 0 [(0, .ref 55), (1, vI v1), (2, vI v2), (3, vI v3), (4, vI v4)] [] M (f_Many_passOn v1 v2 v3 v4 M)) h
  unfold f_Many_passOn
  refine tq_aload_n 0 (E := E_Many_passOn d) (pc := 0) (cks_at k_Many_passOn 0 rfl rfl) rfl ?_
  refine tq_getR (j := 3) (E := E_Many_passOn d) (pc := 1) (cks_at k_Many_passOn 1 rfl rfl) fo_Many_36 so_55 rfl sp_55_0 ?_
  refine tq_iconst (E := E_Many_passOn d) (pc := 4) (cks_at k_Many_passOn 2 rfl rfl) ?_
  refine tq_V1 (E := E_Many_passOn d) (pc := 5) (cks_at k_Many_passOn 3 rfl rfl) mk_Told_count lk_Many_130 (isTold_rc (Or.inl rfl)) (Nat.le_of_ble_eq_true rfl) (c_Told_count (d + 1) 3 (Or.inl rfl) 0 M) (k_I fun r2 M1 => ?_)
  refine tq_istore (E := E_Many_passOn d) (pc := 8) (cks_at k_Many_passOn 4 rfl rfl) (show 5 < 9 by decide) rfl ?_
  refine tq_iload_n 2 (E := E_Many_passOn d) (pc := 10) (cks_at k_Many_passOn 5 rfl rfl) rfl ?_
  refine tq_iload_n 4 (E := E_Many_passOn d) (pc := 11) (cks_at k_Many_passOn 6 rfl rfl) rfl ?_
  refine tq_S2 (E := E_Many_passOn d) (pc := 12) (cks_at k_Many_passOn 7 rfl rfl) mk_Many_slot lk_Many_170 (Nat.le_of_ble_eq_true rfl) (c_Many_slot (d + 2) v1 v3 M1) (k_I fun r4 M3 => ?_)
  refine tq_istore (E := E_Many_passOn d) (pc := 15) (cks_at k_Many_passOn 8 rfl rfl) (show 6 < 9 by decide) rfl ?_
  refine tq_iload_n 3 (E := E_Many_passOn d) (pc := 17) (cks_at k_Many_passOn 9 rfl rfl) rfl ?_
  refine tq_iload_n 4 (E := E_Many_passOn d) (pc := 18) (cks_at k_Many_passOn 10 rfl rfl) rfl ?_
  refine tq_iadd (E := E_Many_passOn d) (pc := 19) (cks_at k_Many_passOn 11 rfl rfl) ?_
  refine tq_iload 6 (E := E_Many_passOn d) (pc := 20) (cks_at k_Many_passOn 12 rfl rfl) rfl ?_
  refine tq_S2 (E := E_Many_passOn d) (pc := 22) (cks_at k_Many_passOn 13 rfl rfl) mk_Many_slot lk_Many_170 (Nat.le_of_ble_eq_true rfl) (c_Many_slot (d + 2) (v1 + v2) v4 M3) (k_I fun r6 M5 => ?_)
  refine tq_istore (E := E_Many_passOn d) (pc := 25) (cks_at k_Many_passOn 14 rfl rfl) (show 7 < 9 by decide) rfl ?_
  refine tq_aload_n 3 (E := E_Many_passOn d) (pc := 27) (cks_at k_Many_passOn 15 rfl rfl) rfl ?_
  refine tq_iload 1 (E := E_Many_passOn d) (pc := 28) (cks_at k_Many_passOn 16 rfl rfl) rfl ?_
  refine tq_iload 0 (E := E_Many_passOn d) (pc := 30) (cks_at k_Many_passOn 17 rfl rfl) rfl ?_
  refine tq_V2 (E := E_Many_passOn d) (pc := 32) (cks_at k_Many_passOn 18 rfl rfl) mk_Many_areIn lk_Many_173 rc_55 (Nat.le_of_ble_eq_true rfl) (c_Many_areIn (d + 0) r4 r6 M5) (k_I fun r8 M7 => ?_)
  refine tq_if_ne (E := E_Many_passOn d) (pc := 35) (tgt := 39) (cks_at k_Many_passOn 19 rfl rfl) (by decide) ?_ ?_
  · refine tq_iconst (E := E_Many_passOn d) (pc := 39) (cks_at k_Many_passOn 21 rfl rfl) ?_
    refine tq_istore (E := E_Many_passOn d) (pc := 40) (cks_at k_Many_passOn 22 rfl rfl) (show 8 < 9 by decide) rfl ?_
    exact tq_sub [4, 3, 2, 1, 0] rfl (w_Many_passOn_L42 d FU (r2, r4, r6, 0, M7))
  · exact tq_vret (E := E_Many_passOn d) (pc := 38) (cks_at k_Many_passOn 20 rfl rfl) rfl
abbrev E_Many_keepReached (d : Nat) : Ev := (Ct (d + 2), "BreathTown$Many", prog_3_method_14_code, 6, False, 0, (fun _ => 0), (Option.none : Option Jvm.ClassFile.FieldType))
def f_Many_keepReached_B20 (kH : Int → Int → Int → Int → Int → Mm → Option (Mm)) (kx71 : Int → Int → Int → Int → Mm → Option (Mm)) (v1 v2 v3 v4 v5 : Int) (M : Mm) : Option (Mm) :=
  bI (f_Told_count 3 0 M) (fun r4 M3 =>
  if i32 r4 ≤ i32 v5 then
    kx71 v1 v2 v3 v4 M3
  else
    bI (f_Many_slot v1 v3 M3) (fun r6 M5 =>
    bI (f_BT_cell 61 (r6 + v5) M5) (fun r8 M7 =>
    if i32 v2 < i32 r8 then
      kH v1 v2 v3 (or32 v4 0) (v5 + 1) M7
    else
      kH v1 v2 v3 (or32 v4 (shl32 1 v5)) (v5 + 1) M7)))
set_option maxRecDepth 20000 in
set_option maxHeartbeats 4000000 in
theorem w_Many_keepReached_B20 (d : Nat) (kH : Int → Int → Int → Int → Int → Mm → Option (Mm)) (kx71 : Int → Int → Int → Int → Mm → Option (Mm)) (hkH : ∀ (v1 v2 v3 v4 v5 : Int) (M : Mm), T (E_Many_keepReached d) injV 20 [(0, .ref 55), (1, vI v1), (2, vI v2), (3, vI v3), (4, vI v4), (5, vI v5)] [] M (kH v1 v2 v3 v4 v5 M)) (hkx71 : ∀ (v1 v2 v3 v4 : Int) (M : Mm), T (E_Many_keepReached d) injV 71 [(0, .ref 55), (1, vI v1), (2, vI v2), (3, vI v3), (4, vI v4)] [] M (kx71 v1 v2 v3 v4 M)) (v1 v2 v3 v4 v5 : Int) (M : Mm) : T (E_Many_keepReached d) injV 20 [(0, .ref 55), (1, vI v1), (2, vI v2), (3, vI v3), (4, vI v4), (5, vI v5)] [] M (f_Many_keepReached_B20 kH kx71 v1 v2 v3 v4 v5 M) := by
  unfold f_Many_keepReached_B20
  refine tq_iload 5 (E := E_Many_keepReached d) (pc := 20) (cks_at k_Many_keepReached 12 rfl rfl) rfl ?_
  refine tq_aload_n 0 (E := E_Many_keepReached d) (pc := 22) (cks_at k_Many_keepReached 13 rfl rfl) rfl ?_
  refine tq_getR (j := 3) (E := E_Many_keepReached d) (pc := 23) (cks_at k_Many_keepReached 14 rfl rfl) fo_Many_36 so_55 rfl sp_55_0 ?_
  refine tq_iconst (E := E_Many_keepReached d) (pc := 26) (cks_at k_Many_keepReached 15 rfl rfl) ?_
  refine tq_V1 (E := E_Many_keepReached d) (pc := 27) (cks_at k_Many_keepReached 16 rfl rfl) mk_Told_count lk_Many_130 (isTold_rc (Or.inl rfl)) (Nat.le_of_ble_eq_true rfl) (c_Told_count (d + 0) 3 (Or.inl rfl) 0 M) (k_I fun r4 M3 => ?_)
  refine tq_icmp_ge (E := E_Many_keepReached d) (pc := 30) (tgt := 71) (cks_at k_Many_keepReached 17 rfl rfl) (by decide) ?_ ?_
  · exact tq_sub [0, 1, 2, 3, 4] rfl (hkx71 v1 v2 v3 v4 M3)
  · refine tq_iload 4 (E := E_Many_keepReached d) (pc := 33) (cks_at k_Many_keepReached 18 rfl rfl) rfl ?_
    refine tq_aload_n 0 (E := E_Many_keepReached d) (pc := 35) (cks_at k_Many_keepReached 19 rfl rfl) rfl ?_
    refine tq_getR (j := 61) (E := E_Many_keepReached d) (pc := 36) (cks_at k_Many_keepReached 20 rfl rfl) fo_Many_27 so_55 rfl sp_55_11 ?_
    refine tq_iload_n 1 (E := E_Many_keepReached d) (pc := 39) (cks_at k_Many_keepReached 21 rfl rfl) rfl ?_
    refine tq_iload_n 3 (E := E_Many_keepReached d) (pc := 40) (cks_at k_Many_keepReached 22 rfl rfl) rfl ?_
    refine tq_S2 (E := E_Many_keepReached d) (pc := 41) (cks_at k_Many_keepReached 23 rfl rfl) mk_Many_slot lk_Many_170 (Nat.le_of_ble_eq_true rfl) (c_Many_slot (d + 1) v1 v3 M3) (k_I fun r6 M5 => ?_)
    refine tq_iload 5 (E := E_Many_keepReached d) (pc := 44) (cks_at k_Many_keepReached 24 rfl rfl) rfl ?_
    refine tq_iadd (E := E_Many_keepReached d) (pc := 46) (cks_at k_Many_keepReached 25 rfl rfl) ?_
    refine tq_S2 (E := E_Many_keepReached d) (pc := 47) (cks_at k_Many_keepReached 26 rfl rfl) mk_BT_cell lk_Many_81 (Nat.le_of_ble_eq_true rfl) (c_BT_cell (d + 1) 61 sa_61 (r6 + v5) M5) (k_I fun r8 M7 => ?_)
    refine tq_iload_n 2 (E := E_Many_keepReached d) (pc := 50) (cks_at k_Many_keepReached 27 rfl rfl) rfl ?_
    refine tq_icmp_gt (E := E_Many_keepReached d) (pc := 51) (tgt := 61) (cks_at k_Many_keepReached 28 rfl rfl) (by decide) ?_ ?_
    · refine tq_iconst (E := E_Many_keepReached d) (pc := 61) (cks_at k_Many_keepReached 33 rfl rfl) ?_
      refine tq_ior (E := E_Many_keepReached d) (pc := 62) (cks_at k_Many_keepReached 34 rfl rfl) ?_
      refine tq_istore (E := E_Many_keepReached d) (pc := 63) (cks_at k_Many_keepReached 35 rfl rfl) (show 4 < 6 by decide) rfl ?_
      refine tq_iinc 5 (E := E_Many_keepReached d) (pc := 65) (cks_at k_Many_keepReached 36 rfl rfl) rfl (show 5 < 6 by decide) rfl ?_
      refine tq_goto (tgt := 20) (E := E_Many_keepReached d) (pc := 68) (cks_at k_Many_keepReached 37 rfl rfl) (by decide) ?_
      exact tq_sub [2, 3, 4, 5, 1, 0] rfl (hkH v1 v2 v3 (or32 v4 0) (v5 + 1) M7)
    · refine tq_iconst (E := E_Many_keepReached d) (pc := 54) (cks_at k_Many_keepReached 29 rfl rfl) ?_
      refine tq_iload 5 (E := E_Many_keepReached d) (pc := 55) (cks_at k_Many_keepReached 30 rfl rfl) rfl ?_
      refine tq_ishl (E := E_Many_keepReached d) (pc := 57) (cks_at k_Many_keepReached 31 rfl rfl) ?_
      refine tq_goto (tgt := 62) (E := E_Many_keepReached d) (pc := 58) (cks_at k_Many_keepReached 32 rfl rfl) (by decide) ?_
      refine tq_ior (E := E_Many_keepReached d) (pc := 62) (cks_at k_Many_keepReached 34 rfl rfl) ?_
      refine tq_istore (E := E_Many_keepReached d) (pc := 63) (cks_at k_Many_keepReached 35 rfl rfl) (show 4 < 6 by decide) rfl ?_
      refine tq_iinc 5 (E := E_Many_keepReached d) (pc := 65) (cks_at k_Many_keepReached 36 rfl rfl) rfl (show 5 < 6 by decide) rfl ?_
      refine tq_goto (tgt := 20) (E := E_Many_keepReached d) (pc := 68) (cks_at k_Many_keepReached 37 rfl rfl) (by decide) ?_
      exact tq_sub [2, 3, 4, 5, 1, 0] rfl (hkH v1 v2 v3 (or32 v4 (shl32 1 v5)) (v5 + 1) M7)
def f_Many_keepReached_L20 (kx71 : Int → Int → Int → Int → Mm → Option (Mm)) : Nat → Int × Int × Int × Int × Int × Mm → Option (Mm) := lp fun kH s => f_Many_keepReached_B20 (fun v1 v2 v3 v4 v5 M => kH (v1, v2, v3, v4, v5, M)) kx71 s.1 s.2.1 s.2.2.1 s.2.2.2.1 s.2.2.2.2.1 s.2.2.2.2.2
set_option maxRecDepth 20000 in
set_option maxHeartbeats 4000000 in
theorem w_Many_keepReached_L20 (d : Nat) (kx71 : Int → Int → Int → Int → Mm → Option (Mm)) (hkx71 : ∀ (v1 v2 v3 v4 : Int) (M : Mm), T (E_Many_keepReached d) injV 71 [(0, .ref 55), (1, vI v1), (2, vI v2), (3, vI v3), (4, vI v4)] [] M (kx71 v1 v2 v3 v4 M)) (n : Nat) (s : Int × Int × Int × Int × Int × Mm) : T (E_Many_keepReached d) injV 20 [(0, .ref 55), (1, vI s.1), (2, vI s.2.1), (3, vI s.2.2.1), (4, vI s.2.2.2.1), (5, vI s.2.2.2.2.1)] [] s.2.2.2.2.2 (f_Many_keepReached_L20 kx71 n s) :=
  tq_lp (fun s => [(0, .ref 55), (1, vI s.1), (2, vI s.2.1), (3, vI s.2.2.1), (4, vI s.2.2.2.1), (5, vI s.2.2.2.2.1)]) (fun s => s.2.2.2.2.2) (fun kH hH s => w_Many_keepReached_B20 d (fun v1 v2 v3 v4 v5 M => kH (v1, v2, v3, v4, v5, M)) kx71 (fun v1 v2 v3 v4 v5 M => hH (v1, v2, v3, v4, v5, M)) hkx71 s.1 s.2.1 s.2.2.1 s.2.2.2.1 s.2.2.2.2.1 s.2.2.2.2.2) n s
def f_Many_keepReached_B2 (kH : Int → Int → Int → Mm → Option (Mm)) (v1 v2 v3 : Int) (M : Mm) : Option (Mm) :=
  bI (f_Told_count 3 0 M) (fun r2 M1 =>
  if i32 r2 ≤ i32 v3 then
    some M1
  else
    f_Many_keepReached_L20 (fun v1 v2 v3 v4 M9 => bV (f_BT_setCell 63 ((v3 * 24) + v1) v4 M9) (fun M10 =>
        kH v1 v2 (v3 + 1) M10)) FU (v1, v2, v3, 0, 0, M1))
set_option maxRecDepth 20000 in
set_option maxHeartbeats 4000000 in
theorem w_Many_keepReached_B2 (d : Nat) (kH : Int → Int → Int → Mm → Option (Mm)) (hkH : ∀ (v1 v2 v3 : Int) (M : Mm), T (E_Many_keepReached d) injV 2 [(0, .ref 55), (1, vI v1), (2, vI v2), (3, vI v3)] [] M (kH v1 v2 v3 M)) (v1 v2 v3 : Int) (M : Mm) : T (E_Many_keepReached d) injV 2 [(0, .ref 55), (1, vI v1), (2, vI v2), (3, vI v3)] [] M (f_Many_keepReached_B2 kH v1 v2 v3 M) := by
  unfold f_Many_keepReached_B2
  refine tq_iload_n 3 (E := E_Many_keepReached d) (pc := 2) (cks_at k_Many_keepReached 2 rfl rfl) rfl ?_
  refine tq_aload_n 0 (E := E_Many_keepReached d) (pc := 3) (cks_at k_Many_keepReached 3 rfl rfl) rfl ?_
  refine tq_getR (j := 3) (E := E_Many_keepReached d) (pc := 4) (cks_at k_Many_keepReached 4 rfl rfl) fo_Many_36 so_55 rfl sp_55_0 ?_
  refine tq_iconst (E := E_Many_keepReached d) (pc := 7) (cks_at k_Many_keepReached 5 rfl rfl) ?_
  refine tq_V1 (E := E_Many_keepReached d) (pc := 8) (cks_at k_Many_keepReached 6 rfl rfl) mk_Told_count lk_Many_130 (isTold_rc (Or.inl rfl)) (Nat.le_of_ble_eq_true rfl) (c_Told_count (d + 0) 3 (Or.inl rfl) 0 M) (k_I fun r2 M1 => ?_)
  refine tq_icmp_ge (E := E_Many_keepReached d) (pc := 11) (tgt := 92) (cks_at k_Many_keepReached 7 rfl rfl) (by decide) ?_ ?_
  · exact tq_vret (E := E_Many_keepReached d) (pc := 92) (cks_at k_Many_keepReached 49 rfl rfl) rfl
  · refine tq_iconst (E := E_Many_keepReached d) (pc := 14) (cks_at k_Many_keepReached 8 rfl rfl) ?_
    refine tq_istore (E := E_Many_keepReached d) (pc := 15) (cks_at k_Many_keepReached 9 rfl rfl) (show 4 < 6 by decide) rfl ?_
    refine tq_iconst (E := E_Many_keepReached d) (pc := 17) (cks_at k_Many_keepReached 10 rfl rfl) ?_
    refine tq_istore (E := E_Many_keepReached d) (pc := 18) (cks_at k_Many_keepReached 11 rfl rfl) (show 5 < 6 by decide) rfl ?_
    exact tq_sub [2, 3, 4, 5, 1, 0] rfl (w_Many_keepReached_L20 d _ (fun v1 v2 v3 v4 M9 => by
        refine tq_aload_n 0 (E := E_Many_keepReached d) (pc := 71) (cks_at k_Many_keepReached 38 rfl rfl) rfl ?_
        refine tq_getR (j := 63) (E := E_Many_keepReached d) (pc := 72) (cks_at k_Many_keepReached 39 rfl rfl) fo_Many_33 so_55 rfl sp_55_13 ?_
        refine tq_iload_n 3 (E := E_Many_keepReached d) (pc := 75) (cks_at k_Many_keepReached 40 rfl rfl) rfl ?_
        refine tq_bipush (E := E_Many_keepReached d) (pc := 76) (cks_at k_Many_keepReached 41 rfl rfl) (by decide) (by decide) ?_
        refine tq_imul (E := E_Many_keepReached d) (pc := 78) (cks_at k_Many_keepReached 42 rfl rfl) ?_
        refine tq_iload_n 1 (E := E_Many_keepReached d) (pc := 79) (cks_at k_Many_keepReached 43 rfl rfl) rfl ?_
        refine tq_iadd (E := E_Many_keepReached d) (pc := 80) (cks_at k_Many_keepReached 44 rfl rfl) ?_
        refine tq_iload 4 (E := E_Many_keepReached d) (pc := 81) (cks_at k_Many_keepReached 45 rfl rfl) rfl ?_
        refine tq_S3 (E := E_Many_keepReached d) (pc := 83) (cks_at k_Many_keepReached 46 rfl rfl) mk_BT_setCell lk_Many_77 (Nat.le_of_ble_eq_true rfl) (c_BT_setCell (d + 1) 63 sa_63 ((v3 * 24) + v1) v4 M9) (k_V fun M10 => ?_)
        refine tq_iinc 3 (E := E_Many_keepReached d) (pc := 86) (cks_at k_Many_keepReached 47 rfl rfl) rfl (show 3 < 6 by decide) rfl ?_
        refine tq_goto (tgt := 2) (E := E_Many_keepReached d) (pc := 89) (cks_at k_Many_keepReached 48 rfl rfl) (by decide) ?_
        exact tq_sub [1, 2, 3, 0] rfl (hkH v1 v2 (v3 + 1) M10)) FU (v1, v2, v3, 0, 0, M1))
def f_Many_keepReached_L2 : Nat → Int × Int × Int × Mm → Option (Mm) := lp fun kH s => f_Many_keepReached_B2 (fun v1 v2 v3 M => kH (v1, v2, v3, M)) s.1 s.2.1 s.2.2.1 s.2.2.2
set_option maxRecDepth 20000 in
set_option maxHeartbeats 4000000 in
theorem w_Many_keepReached_L2 (d : Nat) (n : Nat) (s : Int × Int × Int × Mm) : T (E_Many_keepReached d) injV 2 [(0, .ref 55), (1, vI s.1), (2, vI s.2.1), (3, vI s.2.2.1)] [] s.2.2.2 (f_Many_keepReached_L2 n s) :=
  tq_lp (fun s => [(0, .ref 55), (1, vI s.1), (2, vI s.2.1), (3, vI s.2.2.1)]) (fun s => s.2.2.2) (fun kH hH s => w_Many_keepReached_B2 d (fun v1 v2 v3 M => kH (v1, v2, v3, M)) (fun v1 v2 v3 M => hH (v1, v2, v3, M)) s.1 s.2.1 s.2.2.1 s.2.2.2) n s
def f_Many_keepReached (v1 : Int) (v2 : Int) (M : Mm) : Option (Mm) :=
  f_Many_keepReached_L2 FU (v1, v2, 0, M)
set_option maxRecDepth 20000 in
set_option maxHeartbeats 4000000 in
theorem c_Many_keepReached (d : Nat) (v1 : Int) (v2 : Int) (M : Mm) (Q : Option Value → Mm → Prop) (h : sat injV (f_Many_keepReached v1 v2 M) Q) : Ct (d + 3) y_Many_keepReached [.ref 55, vI v1, vI v2] M Q := by
  refine ct_in (d := d + 2) mk_Many_keepReached (Nat.le_of_ble_eq_true rfl) (?_ : T (E_Many_keepReached d) injV 0 [(0, .ref 55), (1, vI v1), (2, vI v2)] [] M (f_Many_keepReached v1 v2 M)) h
  unfold f_Many_keepReached
  refine tq_iconst (E := E_Many_keepReached d) (pc := 0) (cks_at k_Many_keepReached 0 rfl rfl) ?_
  refine tq_istore_n (E := E_Many_keepReached d) (pc := 1) (cks_at k_Many_keepReached 1 rfl rfl) (show 3 < 6 by decide) rfl ?_
  exact tq_sub [1, 2, 3, 0] rfl (w_Many_keepReached_L2 d FU (v1, v2, 0, M))
abbrev E_Many_lookBack (d : Nat) : Ev := (Ct (d + 5), "BreathTown$Many", prog_3_method_9_code, 7, False, 0, (fun _ => 0), (Option.none : Option Jvm.ClassFile.FieldType))
def f_Many_lookBack_J102 (kH : Int → Int → Int → Int → Mm → Option (Mm)) (kx201 : Int → Int → Int → Mm → Option (Mm)) (v1 v2 v3 v4 s0 s1 : Int) (M : Mm) : Option (Mm) :=
  bV (f_BT_setCell 62 s1 s0 M) (fun M8 =>
  bI (f_BT_cell 8 v4 M8) (fun r10 M9 =>
  bI (f_BT_cell 62 v4 M9) (fun r12 M11 =>
  if i32 r12 < i32 r10 then
    kH v1 v2 v3 (v4 + 1) M11
  else
    bI (f_BT_cell 6 v4 M11) (fun r14 M13 =>
    bI (f_BT_cell 7 v4 M13) (fun r16 M15 =>
    bV (f_Many_passOn v3 r10 r14 r16 M15) (fun M17 =>
    bI (f_BT_cell 7 v4 M17) (fun r19 M18 =>
    bI (f_BT_cell 6 v4 M18) (fun r21 M20 =>
    bV (f_Many_passOn v3 r10 r19 r21 M20) (fun M22 =>
    kH v1 v2 v3 (v4 + 1) M22)))))))))
set_option maxRecDepth 20000 in
set_option maxHeartbeats 4000000 in
theorem w_Many_lookBack_J102 (d : Nat) (kH : Int → Int → Int → Int → Mm → Option (Mm)) (kx201 : Int → Int → Int → Mm → Option (Mm)) (hkH : ∀ (v1 v2 v3 v4 : Int) (M : Mm), T (E_Many_lookBack d) injV 34 [(0, .ref 55), (1, vI v1), (2, vI v2), (3, vI v3), (4, vI v4)] [] M (kH v1 v2 v3 v4 M)) (hkx201 : ∀ (v1 v2 v3 : Int) (M : Mm), T (E_Many_lookBack d) injV 201 [(0, .ref 55), (1, vI v1), (2, vI v2), (3, vI v3)] [] M (kx201 v1 v2 v3 M)) (v1 v2 v3 v4 s0 s1 : Int) (M : Mm) : T (E_Many_lookBack d) injV 102 [(0, .ref 55), (1, vI v1), (2, vI v2), (3, vI v3), (4, vI v4)] [vI s0, vI s1, .ref 62] M (f_Many_lookBack_J102 kH kx201 v1 v2 v3 v4 s0 s1 M) := by
  unfold f_Many_lookBack_J102
  refine tq_S3 (E := E_Many_lookBack d) (pc := 102) (cks_at k_Many_lookBack 53 rfl rfl) mk_BT_setCell lk_Many_77 (Nat.le_of_ble_eq_true rfl) (c_BT_setCell (d + 4) 62 sa_62 s1 s0 M) (k_V fun M8 => ?_)
  refine tq_aload_n 0 (E := E_Many_lookBack d) (pc := 105) (cks_at k_Many_lookBack 54 rfl rfl) rfl ?_
  refine tq_getR (j := 3) (E := E_Many_lookBack d) (pc := 106) (cks_at k_Many_lookBack 55 rfl rfl) fo_Many_36 so_55 rfl sp_55_0 ?_
  refine tq_getR (j := 8) (E := E_Many_lookBack d) (pc := 109) (cks_at k_Many_lookBack 56 rfl rfl) fo_Many_155 so_3 rfl sp_3_4 ?_
  refine tq_iload 4 (E := E_Many_lookBack d) (pc := 112) (cks_at k_Many_lookBack 57 rfl rfl) rfl ?_
  refine tq_S2 (E := E_Many_lookBack d) (pc := 114) (cks_at k_Many_lookBack 58 rfl rfl) mk_BT_cell lk_Many_81 (Nat.le_of_ble_eq_true rfl) (c_BT_cell (d + 4) 8 sa_8 v4 M8) (k_I fun r10 M9 => ?_)
  refine tq_istore (E := E_Many_lookBack d) (pc := 117) (cks_at k_Many_lookBack 59 rfl rfl) (show 6 < 7 by decide) rfl ?_
  refine tq_aload_n 1 (E := E_Many_lookBack d) (pc := 119) (cks_at k_Many_lookBack 60 rfl rfl) rfl ?_
  refine tq_getR (j := 62) (E := E_Many_lookBack d) (pc := 120) (cks_at k_Many_lookBack 61 rfl rfl) fo_Many_30 so_55 rfl sp_55_12 ?_
  refine tq_iload 5 (E := E_Many_lookBack d) (pc := 123) (cks_at k_Many_lookBack 62 rfl rfl) rfl ?_
  refine tq_S2 (E := E_Many_lookBack d) (pc := 125) (cks_at k_Many_lookBack 63 rfl rfl) mk_BT_cell lk_Many_81 (Nat.le_of_ble_eq_true rfl) (c_BT_cell (d + 4) 62 sa_62 v4 M9) (k_I fun r12 M11 => ?_)
  refine tq_iload 0 (E := E_Many_lookBack d) (pc := 128) (cks_at k_Many_lookBack 64 rfl rfl) rfl ?_
  refine tq_icmp_lt (E := E_Many_lookBack d) (pc := 130) (tgt := 195) (cks_at k_Many_lookBack 65 rfl rfl) (by decide) ?_ ?_
  · refine tq_iinc 5 (E := E_Many_lookBack d) (pc := 195) (cks_at k_Many_lookBack 94 rfl rfl) rfl (show 4 < 7 by decide) rfl ?_
    refine tq_goto (tgt := 34) (E := E_Many_lookBack d) (pc := 198) (cks_at k_Many_lookBack 95 rfl rfl) (by decide) ?_
    exact tq_sub [2, 3, 4, 5, 0] rfl (hkH v1 v2 v3 (v4 + 1) M11)
  · refine tq_aload_n 1 (E := E_Many_lookBack d) (pc := 133) (cks_at k_Many_lookBack 66 rfl rfl) rfl ?_
    refine tq_iload_n 4 (E := E_Many_lookBack d) (pc := 134) (cks_at k_Many_lookBack 67 rfl rfl) rfl ?_
    refine tq_iload 0 (E := E_Many_lookBack d) (pc := 135) (cks_at k_Many_lookBack 68 rfl rfl) rfl ?_
    refine tq_aload_n 1 (E := E_Many_lookBack d) (pc := 137) (cks_at k_Many_lookBack 69 rfl rfl) rfl ?_
    refine tq_getR (j := 3) (E := E_Many_lookBack d) (pc := 138) (cks_at k_Many_lookBack 70 rfl rfl) fo_Many_36 so_55 rfl sp_55_0 ?_
    refine tq_getR (j := 6) (E := E_Many_lookBack d) (pc := 141) (cks_at k_Many_lookBack 71 rfl rfl) fo_Many_158 so_3 rfl sp_3_2 ?_
    refine tq_iload 5 (E := E_Many_lookBack d) (pc := 144) (cks_at k_Many_lookBack 72 rfl rfl) rfl ?_
    refine tq_S2 (E := E_Many_lookBack d) (pc := 146) (cks_at k_Many_lookBack 73 rfl rfl) mk_BT_cell lk_Many_81 (Nat.le_of_ble_eq_true rfl) (c_BT_cell (d + 4) 6 sa_6 v4 M11) (k_I fun r14 M13 => ?_)
    refine tq_aload_n 1 (E := E_Many_lookBack d) (pc := 149) (cks_at k_Many_lookBack 74 rfl rfl) rfl ?_
    refine tq_getR (j := 3) (E := E_Many_lookBack d) (pc := 150) (cks_at k_Many_lookBack 75 rfl rfl) fo_Many_36 so_55 rfl sp_55_0 ?_
    refine tq_getR (j := 7) (E := E_Many_lookBack d) (pc := 153) (cks_at k_Many_lookBack 76 rfl rfl) fo_Many_161 so_3 rfl sp_3_3 ?_
    refine tq_iload 5 (E := E_Many_lookBack d) (pc := 156) (cks_at k_Many_lookBack 77 rfl rfl) rfl ?_
    refine tq_S2 (E := E_Many_lookBack d) (pc := 158) (cks_at k_Many_lookBack 78 rfl rfl) mk_BT_cell lk_Many_81 (Nat.le_of_ble_eq_true rfl) (c_BT_cell (d + 4) 7 sa_7 v4 M13) (k_I fun r16 M15 => ?_)
    refine tq_V4 (E := E_Many_lookBack d) (pc := 161) (cks_at k_Many_lookBack 79 rfl rfl) mk_Many_passOn lk_Many_164 rc_55 (Nat.le_of_ble_eq_true rfl) (c_Many_passOn (d + 1) v3 r10 r14 r16 M15) (k_V fun M17 => ?_)
    refine tq_aload_n 1 (E := E_Many_lookBack d) (pc := 164) (cks_at k_Many_lookBack 80 rfl rfl) rfl ?_
    refine tq_iload_n 4 (E := E_Many_lookBack d) (pc := 165) (cks_at k_Many_lookBack 81 rfl rfl) rfl ?_
    refine tq_iload 0 (E := E_Many_lookBack d) (pc := 166) (cks_at k_Many_lookBack 82 rfl rfl) rfl ?_
    refine tq_aload_n 1 (E := E_Many_lookBack d) (pc := 168) (cks_at k_Many_lookBack 83 rfl rfl) rfl ?_
    refine tq_getR (j := 3) (E := E_Many_lookBack d) (pc := 169) (cks_at k_Many_lookBack 84 rfl rfl) fo_Many_36 so_55 rfl sp_55_0 ?_
    refine tq_getR (j := 7) (E := E_Many_lookBack d) (pc := 172) (cks_at k_Many_lookBack 85 rfl rfl) fo_Many_161 so_3 rfl sp_3_3 ?_
    refine tq_iload 5 (E := E_Many_lookBack d) (pc := 175) (cks_at k_Many_lookBack 86 rfl rfl) rfl ?_
    refine tq_S2 (E := E_Many_lookBack d) (pc := 177) (cks_at k_Many_lookBack 87 rfl rfl) mk_BT_cell lk_Many_81 (Nat.le_of_ble_eq_true rfl) (c_BT_cell (d + 4) 7 sa_7 v4 M17) (k_I fun r19 M18 => ?_)
    refine tq_aload_n 1 (E := E_Many_lookBack d) (pc := 180) (cks_at k_Many_lookBack 88 rfl rfl) rfl ?_
    refine tq_getR (j := 3) (E := E_Many_lookBack d) (pc := 181) (cks_at k_Many_lookBack 89 rfl rfl) fo_Many_36 so_55 rfl sp_55_0 ?_
    refine tq_getR (j := 6) (E := E_Many_lookBack d) (pc := 184) (cks_at k_Many_lookBack 90 rfl rfl) fo_Many_158 so_3 rfl sp_3_2 ?_
    refine tq_iload 5 (E := E_Many_lookBack d) (pc := 187) (cks_at k_Many_lookBack 91 rfl rfl) rfl ?_
    refine tq_S2 (E := E_Many_lookBack d) (pc := 189) (cks_at k_Many_lookBack 92 rfl rfl) mk_BT_cell lk_Many_81 (Nat.le_of_ble_eq_true rfl) (c_BT_cell (d + 4) 6 sa_6 v4 M18) (k_I fun r21 M20 => ?_)
    refine tq_V4 (E := E_Many_lookBack d) (pc := 192) (cks_at k_Many_lookBack 93 rfl rfl) mk_Many_passOn lk_Many_164 rc_55 (Nat.le_of_ble_eq_true rfl) (c_Many_passOn (d + 1) v3 r10 r19 r21 M20) (k_V fun M22 => ?_)
    refine tq_iinc 5 (E := E_Many_lookBack d) (pc := 195) (cks_at k_Many_lookBack 94 rfl rfl) rfl (show 4 < 7 by decide) rfl ?_
    refine tq_goto (tgt := 34) (E := E_Many_lookBack d) (pc := 198) (cks_at k_Many_lookBack 95 rfl rfl) (by decide) ?_
    exact tq_sub [2, 3, 4, 5, 0] rfl (hkH v1 v2 v3 (v4 + 1) M22)
def f_Many_lookBack_J74 (kH : Int → Int → Int → Int → Mm → Option (Mm)) (kx201 : Int → Int → Int → Mm → Option (Mm)) (v1 v2 v3 v4 s0 : Int) (M : Mm) : Option (Mm) :=
  if i32 s0 = 0 then
    f_Many_lookBack_J102 kH kx201 v1 v2 v3 v4 0 v4 M
  else
    bI (f_BT_cell 62 v4 M) (fun r24 M23 =>
    f_Many_lookBack_J102 kH kx201 v1 v2 v3 v4 (r24 + 1) v4 M23)
set_option maxRecDepth 20000 in
set_option maxHeartbeats 4000000 in
theorem w_Many_lookBack_J74 (d : Nat) (kH : Int → Int → Int → Int → Mm → Option (Mm)) (kx201 : Int → Int → Int → Mm → Option (Mm)) (hkH : ∀ (v1 v2 v3 v4 : Int) (M : Mm), T (E_Many_lookBack d) injV 34 [(0, .ref 55), (1, vI v1), (2, vI v2), (3, vI v3), (4, vI v4)] [] M (kH v1 v2 v3 v4 M)) (hkx201 : ∀ (v1 v2 v3 : Int) (M : Mm), T (E_Many_lookBack d) injV 201 [(0, .ref 55), (1, vI v1), (2, vI v2), (3, vI v3)] [] M (kx201 v1 v2 v3 M)) (v1 v2 v3 v4 s0 : Int) (M : Mm) : T (E_Many_lookBack d) injV 74 [(0, .ref 55), (1, vI v1), (2, vI v2), (3, vI v3), (4, vI v4)] [vI s0] M (f_Many_lookBack_J74 kH kx201 v1 v2 v3 v4 s0 M) := by
  unfold f_Many_lookBack_J74
  refine tq_istore (E := E_Many_lookBack d) (pc := 74) (cks_at k_Many_lookBack 39 rfl rfl) (show 5 < 7 by decide) rfl ?_
  refine tq_aload_n 1 (E := E_Many_lookBack d) (pc := 76) (cks_at k_Many_lookBack 40 rfl rfl) rfl ?_
  refine tq_getR (j := 62) (E := E_Many_lookBack d) (pc := 77) (cks_at k_Many_lookBack 41 rfl rfl) fo_Many_30 so_55 rfl sp_55_12 ?_
  refine tq_iload 5 (E := E_Many_lookBack d) (pc := 80) (cks_at k_Many_lookBack 42 rfl rfl) rfl ?_
  refine tq_iload 0 (E := E_Many_lookBack d) (pc := 82) (cks_at k_Many_lookBack 43 rfl rfl) rfl ?_
  refine tq_if_eq (E := E_Many_lookBack d) (pc := 84) (tgt := 101) (cks_at k_Many_lookBack 44 rfl rfl) (by decide) ?_ ?_
  · refine tq_iconst (E := E_Many_lookBack d) (pc := 101) (cks_at k_Many_lookBack 52 rfl rfl) ?_
    exact tq_sub [1, 2, 3, 4, 5] rfl (w_Many_lookBack_J102 d kH kx201 hkH hkx201 v1 v2 v3 v4 0 v4 M)
  · refine tq_aload_n 1 (E := E_Many_lookBack d) (pc := 87) (cks_at k_Many_lookBack 45 rfl rfl) rfl ?_
    refine tq_getR (j := 62) (E := E_Many_lookBack d) (pc := 88) (cks_at k_Many_lookBack 46 rfl rfl) fo_Many_30 so_55 rfl sp_55_12 ?_
    refine tq_iload 5 (E := E_Many_lookBack d) (pc := 91) (cks_at k_Many_lookBack 47 rfl rfl) rfl ?_
    refine tq_S2 (E := E_Many_lookBack d) (pc := 93) (cks_at k_Many_lookBack 48 rfl rfl) mk_BT_cell lk_Many_81 (Nat.le_of_ble_eq_true rfl) (c_BT_cell (d + 4) 62 sa_62 v4 M) (k_I fun r24 M23 => ?_)
    refine tq_iconst (E := E_Many_lookBack d) (pc := 96) (cks_at k_Many_lookBack 49 rfl rfl) ?_
    refine tq_iadd (E := E_Many_lookBack d) (pc := 97) (cks_at k_Many_lookBack 50 rfl rfl) ?_
    refine tq_goto (tgt := 102) (E := E_Many_lookBack d) (pc := 98) (cks_at k_Many_lookBack 51 rfl rfl) (by decide) ?_
    exact tq_sub [1, 2, 3, 4, 5] rfl (w_Many_lookBack_J102 d kH kx201 hkH hkx201 v1 v2 v3 v4 (r24 + 1) v4 M23)
def f_Many_lookBack_B34 (kH : Int → Int → Int → Int → Mm → Option (Mm)) (kx201 : Int → Int → Int → Mm → Option (Mm)) (v1 v2 v3 v4 : Int) (M : Mm) : Option (Mm) :=
  bI (f_Told_count 3 1 M) (fun r5 M4 =>
  if i32 r5 ≤ i32 v4 then
    kx201 v1 v2 v3 M4
  else
    bI (f_Widths_widthAt v4 ((M4 39 8) + v3) M4) (fun r7 M6 =>
    if i32 r7 < i32 v1 then
      f_Many_lookBack_J74 kH kx201 v1 v2 v3 v4 0 M6
    else
      f_Many_lookBack_J74 kH kx201 v1 v2 v3 v4 1 M6))
set_option maxRecDepth 20000 in
set_option maxHeartbeats 4000000 in
theorem w_Many_lookBack_B34 (d : Nat) (kH : Int → Int → Int → Int → Mm → Option (Mm)) (kx201 : Int → Int → Int → Mm → Option (Mm)) (hkH : ∀ (v1 v2 v3 v4 : Int) (M : Mm), T (E_Many_lookBack d) injV 34 [(0, .ref 55), (1, vI v1), (2, vI v2), (3, vI v3), (4, vI v4)] [] M (kH v1 v2 v3 v4 M)) (hkx201 : ∀ (v1 v2 v3 : Int) (M : Mm), T (E_Many_lookBack d) injV 201 [(0, .ref 55), (1, vI v1), (2, vI v2), (3, vI v3)] [] M (kx201 v1 v2 v3 M)) (v1 v2 v3 v4 : Int) (M : Mm) : T (E_Many_lookBack d) injV 34 [(0, .ref 55), (1, vI v1), (2, vI v2), (3, vI v3), (4, vI v4)] [] M (f_Many_lookBack_B34 kH kx201 v1 v2 v3 v4 M) := by
  unfold f_Many_lookBack_B34
  refine tq_iload 4 (E := E_Many_lookBack d) (pc := 34) (cks_at k_Many_lookBack 19 rfl rfl) rfl ?_
  refine tq_aload_n 0 (E := E_Many_lookBack d) (pc := 36) (cks_at k_Many_lookBack 20 rfl rfl) rfl ?_
  refine tq_getR (j := 3) (E := E_Many_lookBack d) (pc := 37) (cks_at k_Many_lookBack 21 rfl rfl) fo_Many_36 so_55 rfl sp_55_0 ?_
  refine tq_iconst (E := E_Many_lookBack d) (pc := 40) (cks_at k_Many_lookBack 22 rfl rfl) ?_
  refine tq_V1 (E := E_Many_lookBack d) (pc := 41) (cks_at k_Many_lookBack 23 rfl rfl) mk_Told_count lk_Many_130 (isTold_rc (Or.inl rfl)) (Nat.le_of_ble_eq_true rfl) (c_Told_count (d + 3) 3 (Or.inl rfl) 1 M) (k_I fun r5 M4 => ?_)
  refine tq_icmp_ge (E := E_Many_lookBack d) (pc := 44) (tgt := 201) (cks_at k_Many_lookBack 24 rfl rfl) (by decide) ?_ ?_
  · exact tq_sub [0, 1, 2, 3] rfl (hkx201 v1 v2 v3 M4)
  · refine tq_aload_n 0 (E := E_Many_lookBack d) (pc := 47) (cks_at k_Many_lookBack 25 rfl rfl) rfl ?_
    refine tq_getR (j := 46) (E := E_Many_lookBack d) (pc := 48) (cks_at k_Many_lookBack 26 rfl rfl) fo_Many_44 so_55 rfl sp_55_2 ?_
    refine tq_iload 4 (E := E_Many_lookBack d) (pc := 51) (cks_at k_Many_lookBack 27 rfl rfl) rfl ?_
    refine tq_aload_n 0 (E := E_Many_lookBack d) (pc := 53) (cks_at k_Many_lookBack 28 rfl rfl) rfl ?_
    refine tq_getR (j := 39) (E := E_Many_lookBack d) (pc := 54) (cks_at k_Many_lookBack 29 rfl rfl) fo_Many_40 so_55 rfl sp_55_1 ?_
    refine tq_getI (E := E_Many_lookBack d) (pc := 57) (cks_at k_Many_lookBack 30 rfl rfl) fo_Many_147 so_39 rfl (by decide) ?_
    refine tq_iload_n 3 (E := E_Many_lookBack d) (pc := 60) (cks_at k_Many_lookBack 31 rfl rfl) rfl ?_
    refine tq_iadd (E := E_Many_lookBack d) (pc := 61) (cks_at k_Many_lookBack 32 rfl rfl) ?_
    refine tq_V2 (E := E_Many_lookBack d) (pc := 62) (cks_at k_Many_lookBack 33 rfl rfl) mk_Widths_widthAt lk_Many_150 rc_46 (Nat.le_of_ble_eq_true rfl) (c_Widths_widthAt (d + 0) v4 ((M4 39 8) + v3) M4) (k_I fun r7 M6 => ?_)
    refine tq_iload_n 1 (E := E_Many_lookBack d) (pc := 65) (cks_at k_Many_lookBack 34 rfl rfl) rfl ?_
    refine tq_icmp_lt (E := E_Many_lookBack d) (pc := 66) (tgt := 73) (cks_at k_Many_lookBack 35 rfl rfl) (by decide) ?_ ?_
    · refine tq_iconst (E := E_Many_lookBack d) (pc := 73) (cks_at k_Many_lookBack 38 rfl rfl) ?_
      exact tq_sub [0, 1, 2, 3, 4] rfl (w_Many_lookBack_J74 d kH kx201 hkH hkx201 v1 v2 v3 v4 0 M6)
    · refine tq_iconst (E := E_Many_lookBack d) (pc := 69) (cks_at k_Many_lookBack 36 rfl rfl) ?_
      refine tq_goto (tgt := 74) (E := E_Many_lookBack d) (pc := 70) (cks_at k_Many_lookBack 37 rfl rfl) (by decide) ?_
      exact tq_sub [0, 1, 2, 3, 4] rfl (w_Many_lookBack_J74 d kH kx201 hkH hkx201 v1 v2 v3 v4 1 M6)
def f_Many_lookBack_L34 (kx201 : Int → Int → Int → Mm → Option (Mm)) : Nat → Int × Int × Int × Int × Mm → Option (Mm) := lp fun kH s => f_Many_lookBack_B34 (fun v1 v2 v3 v4 M => kH (v1, v2, v3, v4, M)) kx201 s.1 s.2.1 s.2.2.1 s.2.2.2.1 s.2.2.2.2
set_option maxRecDepth 20000 in
set_option maxHeartbeats 4000000 in
theorem w_Many_lookBack_L34 (d : Nat) (kx201 : Int → Int → Int → Mm → Option (Mm)) (hkx201 : ∀ (v1 v2 v3 : Int) (M : Mm), T (E_Many_lookBack d) injV 201 [(0, .ref 55), (1, vI v1), (2, vI v2), (3, vI v3)] [] M (kx201 v1 v2 v3 M)) (n : Nat) (s : Int × Int × Int × Int × Mm) : T (E_Many_lookBack d) injV 34 [(0, .ref 55), (1, vI s.1), (2, vI s.2.1), (3, vI s.2.2.1), (4, vI s.2.2.2.1)] [] s.2.2.2.2 (f_Many_lookBack_L34 kx201 n s) :=
  tq_lp (fun s => [(0, .ref 55), (1, vI s.1), (2, vI s.2.1), (3, vI s.2.2.1), (4, vI s.2.2.2.1)]) (fun s => s.2.2.2.2) (fun kH hH s => w_Many_lookBack_B34 d (fun v1 v2 v3 v4 M => kH (v1, v2, v3, v4, M)) kx201 (fun v1 v2 v3 v4 M => hH (v1, v2, v3, v4, M)) hkx201 s.1 s.2.1 s.2.2.1 s.2.2.2.1 s.2.2.2.2) n s
def f_Many_lookBack_B22 (kH : Int → Int → Int → Mm → Option (Mm)) (v1 v2 v3 : Int) (M : Mm) : Option (Mm) :=
  if i32 v3 < 0 then
    some M
  else
    bV (f_Many_waitOn v3 M) (fun M3 =>
    f_Many_lookBack_L34 (fun v1 v2 v3 M25 => if i32 24 ≤ i32 v3 then
          kH v1 v2 (v3 + (-1)) M25
        else
          bV (f_Many_keepReached v3 (v3 + v2) M25) (fun M26 =>
          kH v1 v2 (v3 + (-1)) M26)) FU (v1, v2, v3, 0, M3))
set_option maxRecDepth 20000 in
set_option maxHeartbeats 4000000 in
theorem w_Many_lookBack_B22 (d : Nat) (kH : Int → Int → Int → Mm → Option (Mm)) (hkH : ∀ (v1 v2 v3 : Int) (M : Mm), T (E_Many_lookBack d) injV 22 [(0, .ref 55), (1, vI v1), (2, vI v2), (3, vI v3)] [] M (kH v1 v2 v3 M)) (v1 v2 v3 : Int) (M : Mm) : T (E_Many_lookBack d) injV 22 [(0, .ref 55), (1, vI v1), (2, vI v2), (3, vI v3)] [] M (f_Many_lookBack_B22 kH v1 v2 v3 M) := by
  unfold f_Many_lookBack_B22
  refine tq_iload_n 3 (E := E_Many_lookBack d) (pc := 22) (cks_at k_Many_lookBack 12 rfl rfl) rfl ?_
  refine tq_if_lt (E := E_Many_lookBack d) (pc := 23) (tgt := 221) (cks_at k_Many_lookBack 13 rfl rfl) (by decide) ?_ ?_
  · exact tq_vret (E := E_Many_lookBack d) (pc := 221) (cks_at k_Many_lookBack 107 rfl rfl) rfl
  · refine tq_aload_n 0 (E := E_Many_lookBack d) (pc := 26) (cks_at k_Many_lookBack 14 rfl rfl) rfl ?_
    refine tq_iload_n 3 (E := E_Many_lookBack d) (pc := 27) (cks_at k_Many_lookBack 15 rfl rfl) rfl ?_
    refine tq_V1 (E := E_Many_lookBack d) (pc := 28) (cks_at k_Many_lookBack 16 rfl rfl) mk_Many_waitOn lk_Many_144 rc_55 (Nat.le_of_ble_eq_true rfl) (c_Many_waitOn (d + 1) v3 M) (k_V fun M3 => ?_)
    refine tq_iconst (E := E_Many_lookBack d) (pc := 31) (cks_at k_Many_lookBack 17 rfl rfl) ?_
    refine tq_istore (E := E_Many_lookBack d) (pc := 32) (cks_at k_Many_lookBack 18 rfl rfl) (show 4 < 7 by decide) rfl ?_
    exact tq_sub [1, 2, 3, 4, 0] rfl (w_Many_lookBack_L34 d _ (fun v1 v2 v3 M25 => by
        refine tq_iload_n 3 (E := E_Many_lookBack d) (pc := 201) (cks_at k_Many_lookBack 96 rfl rfl) rfl ?_
        refine tq_bipush (E := E_Many_lookBack d) (pc := 202) (cks_at k_Many_lookBack 97 rfl rfl) (by decide) (by decide) ?_
        refine tq_icmp_ge (E := E_Many_lookBack d) (pc := 204) (tgt := 215) (cks_at k_Many_lookBack 98 rfl rfl) (by decide) ?_ ?_
        · refine tq_iinc 3 (E := E_Many_lookBack d) (pc := 215) (cks_at k_Many_lookBack 105 rfl rfl) rfl (show 3 < 7 by decide) rfl ?_
          refine tq_goto (tgt := 22) (E := E_Many_lookBack d) (pc := 218) (cks_at k_Many_lookBack 106 rfl rfl) (by decide) ?_
          exact tq_sub [1, 2, 3, 0] rfl (hkH v1 v2 (v3 + (-1)) M25)
        · refine tq_aload_n 0 (E := E_Many_lookBack d) (pc := 207) (cks_at k_Many_lookBack 99 rfl rfl) rfl ?_
          refine tq_iload_n 3 (E := E_Many_lookBack d) (pc := 208) (cks_at k_Many_lookBack 100 rfl rfl) rfl ?_
          refine tq_iload_n 3 (E := E_Many_lookBack d) (pc := 209) (cks_at k_Many_lookBack 101 rfl rfl) rfl ?_
          refine tq_iload_n 2 (E := E_Many_lookBack d) (pc := 210) (cks_at k_Many_lookBack 102 rfl rfl) rfl ?_
          refine tq_iadd (E := E_Many_lookBack d) (pc := 211) (cks_at k_Many_lookBack 103 rfl rfl) ?_
          refine tq_V2 (E := E_Many_lookBack d) (pc := 212) (cks_at k_Many_lookBack 104 rfl rfl) mk_Many_keepReached lk_Many_167 rc_55 (Nat.le_of_ble_eq_true rfl) (c_Many_keepReached (d + 2) v3 (v3 + v2) M25) (k_V fun M26 => ?_)
          refine tq_iinc 3 (E := E_Many_lookBack d) (pc := 215) (cks_at k_Many_lookBack 105 rfl rfl) rfl (show 3 < 7 by decide) rfl ?_
          refine tq_goto (tgt := 22) (E := E_Many_lookBack d) (pc := 218) (cks_at k_Many_lookBack 106 rfl rfl) (by decide) ?_
          exact tq_sub [1, 2, 3, 0] rfl (hkH v1 v2 (v3 + (-1)) M26)) FU (v1, v2, v3, 0, M3))
def f_Many_lookBack_L22 : Nat → Int × Int × Int × Mm → Option (Mm) := lp fun kH s => f_Many_lookBack_B22 (fun v1 v2 v3 M => kH (v1, v2, v3, M)) s.1 s.2.1 s.2.2.1 s.2.2.2
set_option maxRecDepth 20000 in
set_option maxHeartbeats 4000000 in
theorem w_Many_lookBack_L22 (d : Nat) (n : Nat) (s : Int × Int × Int × Mm) : T (E_Many_lookBack d) injV 22 [(0, .ref 55), (1, vI s.1), (2, vI s.2.1), (3, vI s.2.2.1)] [] s.2.2.2 (f_Many_lookBack_L22 n s) :=
  tq_lp (fun s => [(0, .ref 55), (1, vI s.1), (2, vI s.2.1), (3, vI s.2.2.1)]) (fun s => s.2.2.2) (fun kH hH s => w_Many_lookBack_B22 d (fun v1 v2 v3 M => kH (v1, v2, v3, M)) (fun v1 v2 v3 M => hH (v1, v2, v3, M)) s.1 s.2.1 s.2.2.1 s.2.2.2) n s
def f_Many_lookBack (v1 : Int) (v2 : Int) (M : Mm) : Option (Mm) :=
  bV (f_BT_fill 61 1000000 M) (fun M1 =>
  bV (f_BT_fill 62 0 M1) (fun M2 =>
  f_Many_lookBack_L22 FU (v1, v2, (23 + v2), M2)))
set_option maxRecDepth 20000 in
set_option maxHeartbeats 4000000 in
theorem c_Many_lookBack (d : Nat) (v1 : Int) (v2 : Int) (M : Mm) (Q : Option Value → Mm → Prop) (h : sat injV (f_Many_lookBack v1 v2 M) Q) : Ct (d + 6) y_Many_lookBack [.ref 55, vI v1, vI v2] M Q := by
  refine ct_in (d := d + 5) mk_Many_lookBack (Nat.le_of_ble_eq_true rfl) (?_ : T (E_Many_lookBack d) injV 0 [(0, .ref 55), (1, vI v1), (2, vI v2)] [] M (f_Many_lookBack v1 v2 M)) h
  unfold f_Many_lookBack
  refine tq_aload_n 0 (E := E_Many_lookBack d) (pc := 0) (cks_at k_Many_lookBack 0 rfl rfl) rfl ?_
  refine tq_getR (j := 61) (E := E_Many_lookBack d) (pc := 1) (cks_at k_Many_lookBack 1 rfl rfl) fo_Many_27 so_55 rfl sp_55_11 ?_
  refine tq_ldc (z := 1000000) (E := E_Many_lookBack d) (pc := 4) (cks_at k_Many_lookBack 2 rfl rfl) cst_Many_52 ?_
  refine tq_S2 (E := E_Many_lookBack d) (pc := 6) (cks_at k_Many_lookBack 3 rfl rfl) mk_BT_fill lk_Many_140 (Nat.le_of_ble_eq_true rfl) (c_BT_fill (d + 4) 61 sa_61 1000000 M) (k_V fun M1 => ?_)
  refine tq_aload_n 0 (E := E_Many_lookBack d) (pc := 9) (cks_at k_Many_lookBack 4 rfl rfl) rfl ?_
  refine tq_getR (j := 62) (E := E_Many_lookBack d) (pc := 10) (cks_at k_Many_lookBack 5 rfl rfl) fo_Many_30 so_55 rfl sp_55_12 ?_
  refine tq_iconst (E := E_Many_lookBack d) (pc := 13) (cks_at k_Many_lookBack 6 rfl rfl) ?_
  refine tq_S2 (E := E_Many_lookBack d) (pc := 14) (cks_at k_Many_lookBack 7 rfl rfl) mk_BT_fill lk_Many_140 (Nat.le_of_ble_eq_true rfl) (c_BT_fill (d + 4) 62 sa_62 0 M1) (k_V fun M2 => ?_)
  refine tq_bipush (E := E_Many_lookBack d) (pc := 17) (cks_at k_Many_lookBack 8 rfl rfl) (by decide) (by decide) ?_
  refine tq_iload_n 2 (E := E_Many_lookBack d) (pc := 19) (cks_at k_Many_lookBack 9 rfl rfl) rfl ?_
  refine tq_iadd (E := E_Many_lookBack d) (pc := 20) (cks_at k_Many_lookBack 10 rfl rfl) ?_
  refine tq_istore_n (E := E_Many_lookBack d) (pc := 21) (cks_at k_Many_lookBack 11 rfl rfl) (show 3 < 7 by decide) rfl ?_
  exact tq_sub [1, 2, 3, 0] rfl (w_Many_lookBack_L22 d FU (v1, v2, (23 + v2), M2))
