abbrev E_TownR_numberAsked (d : Nat) : Ev := (Ct (d + 6), "BreathTown$TownReader", prog_10_method_8_code, 7, False, 0, (fun _ => 0), (Option.some Jvm.ClassFile.FieldType.boolean))
def f_TownR_numberAsked (w1 : Nat) (r4 : Nat) (v2 : Int) (v3 : Int) (v5 : Int) (M : Mm) : Option (Int × Mm) :=
  bI (f_Scan_takeWord w1 M) (fun r2 M1 =>
  if ¬ i32 r2 = 0 then
    bI (f_Scan_number v2 v3 M1) (fun r4 M3 =>
    bV (f_BT_setCell r4 v5 r4 M3) (fun M5 =>
    if i32 r4 = i32 ((-1)) then
      some (0, M5)
    else
      some (1, M5)))
  else
    bI (f_Scan_unexpected M1) (fun r7 M6 =>
    gd (i32 r7 = 0 ∨ i32 r7 = 1) (some (r7, M6))))
set_option maxRecDepth 20000 in
set_option maxHeartbeats 4000000 in
theorem c_TownR_numberAsked (d : Nat) (w1 : Nat) (hw1 : w1 < NSt) (r4 : Nat) (hr4 : skind r4 = 20 ∧ r4 < NC) (v2 : Int) (v3 : Int) (v5 : Int) (M : Mm) (Q : Option Value → Mm → Prop) (h : sat injI (f_TownR_numberAsked w1 r4 v2 v3 v5 M) Q) : Ct (d + 7) y_TownR_numberAsked [.ref 37, .ref (1000 + w1), vI v2, vI v3, .ref r4, vI v5] M Q := by
  refine ct_in (d := d + 6) mk_TownR_numberAsked (Nat.le_of_ble_eq_true rfl) (?_ : T (E_TownR_numberAsked d) injI 0 [(0, .ref 37), (1, .ref (1000 + w1)), (2, vI v2), (3, vI v3), (4, .ref r4), (5, vI v5)] [] M (f_TownR_numberAsked w1 r4 v2 v3 v5 M)) h
  unfold f_TownR_numberAsked
  refine tq_aload_n 0 (E := E_TownR_numberAsked d) (pc := 0) (cks_at k_TownR_numberAsked 0 rfl rfl) rfl ?_
  refine tq_getR (j := 1) (E := E_TownR_numberAsked d) (pc := 1) (cks_at k_TownR_numberAsked 1 rfl rfl) fo_TownR_9 so_37 rfl sp_37_0 ?_
  refine tq_aload_n 1 (E := E_TownR_numberAsked d) (pc := 4) (cks_at k_TownR_numberAsked 2 rfl rfl) rfl ?_
  refine tq_V1 (E := E_TownR_numberAsked d) (pc := 5) (cks_at k_TownR_numberAsked 3 rfl rfl) mk_Scan_takeWord lk_TownR_81 rc_1 (Nat.le_of_ble_eq_true rfl) (c_Scan_takeWord (d + 0) w1 hw1 M) (k_I fun r2 M1 => ?_)
  refine tq_if_ne (E := E_TownR_numberAsked d) (pc := 8) (tgt := 19) (cks_at k_TownR_numberAsked 4 rfl rfl) (by decide) ?_ ?_
  · refine tq_aload_n 0 (E := E_TownR_numberAsked d) (pc := 19) (cks_at k_TownR_numberAsked 9 rfl rfl) rfl ?_
    refine tq_getR (j := 1) (E := E_TownR_numberAsked d) (pc := 20) (cks_at k_TownR_numberAsked 10 rfl rfl) fo_TownR_9 so_37 rfl sp_37_0 ?_
    refine tq_iload_n 2 (E := E_TownR_numberAsked d) (pc := 23) (cks_at k_TownR_numberAsked 11 rfl rfl) rfl ?_
    refine tq_iload_n 3 (E := E_TownR_numberAsked d) (pc := 24) (cks_at k_TownR_numberAsked 12 rfl rfl) rfl ?_
    refine tq_V2 (E := E_TownR_numberAsked d) (pc := 25) (cks_at k_TownR_numberAsked 13 rfl rfl) mk_Scan_number lk_TownR_87 rc_1 (Nat.le_of_ble_eq_true rfl) (c_Scan_number (d + 3) v2 v3 M1) (k_I fun r4 M3 => ?_)
    refine tq_istore (E := E_TownR_numberAsked d) (pc := 28) (cks_at k_TownR_numberAsked 14 rfl rfl) (show 6 < 7 by decide) rfl ?_
    refine tq_aload 5 (E := E_TownR_numberAsked d) (pc := 30) (cks_at k_TownR_numberAsked 15 rfl rfl) rfl ?_
    refine tq_iload 6 (E := E_TownR_numberAsked d) (pc := 32) (cks_at k_TownR_numberAsked 16 rfl rfl) rfl ?_
    refine tq_iload 0 (E := E_TownR_numberAsked d) (pc := 34) (cks_at k_TownR_numberAsked 17 rfl rfl) rfl ?_
    refine tq_S3 (E := E_TownR_numberAsked d) (pc := 36) (cks_at k_TownR_numberAsked 18 rfl rfl) mk_BT_setCell lk_TownR_147 (Nat.le_of_ble_eq_true rfl) (c_BT_setCell (d + 5) r4 hr4 v5 r4 M3) (k_V fun M5 => ?_)
    refine tq_iload 0 (E := E_TownR_numberAsked d) (pc := 39) (cks_at k_TownR_numberAsked 19 rfl rfl) rfl ?_
    refine tq_iconst (E := E_TownR_numberAsked d) (pc := 41) (cks_at k_TownR_numberAsked 20 rfl rfl) ?_
    refine tq_icmp_eq (E := E_TownR_numberAsked d) (pc := 42) (tgt := 49) (cks_at k_TownR_numberAsked 21 rfl rfl) (by decide) ?_ ?_
    · refine tq_iconst (E := E_TownR_numberAsked d) (pc := 49) (cks_at k_TownR_numberAsked 24 rfl rfl) ?_
      exact tq_zretC (E := E_TownR_numberAsked d) (pc := 50) (cks_at k_TownR_numberAsked 25 rfl rfl) rfl (by decide)
    · refine tq_iconst (E := E_TownR_numberAsked d) (pc := 45) (cks_at k_TownR_numberAsked 22 rfl rfl) ?_
      refine tq_goto (tgt := 50) (E := E_TownR_numberAsked d) (pc := 46) (cks_at k_TownR_numberAsked 23 rfl rfl) (by decide) ?_
      exact tq_zretC (E := E_TownR_numberAsked d) (pc := 50) (cks_at k_TownR_numberAsked 25 rfl rfl) rfl (by decide)
  · refine tq_aload_n 0 (E := E_TownR_numberAsked d) (pc := 11) (cks_at k_TownR_numberAsked 5 rfl rfl) rfl ?_
    refine tq_getR (j := 1) (E := E_TownR_numberAsked d) (pc := 12) (cks_at k_TownR_numberAsked 6 rfl rfl) fo_TownR_9 so_37 rfl sp_37_0 ?_
    refine tq_V0 (E := E_TownR_numberAsked d) (pc := 15) (cks_at k_TownR_numberAsked 7 rfl rfl) mk_Scan_unexpected lk_TownR_84 rc_1 (Nat.le_of_ble_eq_true rfl) (c_Scan_unexpected (d + 4) M1) (k_I fun r7 M6 => ?_)
    exact tq_zret (E := E_TownR_numberAsked d) (pc := 18) (cks_at k_TownR_numberAsked 8 rfl rfl) rfl
abbrev E_TownR_streetTold (d : Nat) : Ev := (Ct (d + 127), "BreathTown$TownReader", prog_10_method_5_code, 4, False, 0, (fun _ => 0), (Option.some Jvm.ClassFile.FieldType.boolean))
def f_TownR_streetTold_J183 (v1 s0 s1 : Int) (M : Mm) : Option (Int × Mm) :=
  bV (f_BT_setCell 27 s1 s0 M) (fun M19 =>
  bV (f_BT_setCell 28 v1 (M19 33 3) M19) (fun M20 =>
  bI (f_Reader_readSum 38 M20) (fun r22 M21 =>
  bV (f_BT_setCell 29 v1 (M21 33 3) M21) (fun M23 =>
  gd (i32 r22 = 0 ∨ i32 r22 = 1) (some (r22, M23))))))
set_option maxRecDepth 20000 in
set_option maxHeartbeats 4000000 in
theorem w_TownR_streetTold_J183 (d : Nat) (v1 s0 s1 : Int) (M : Mm) : T (E_TownR_streetTold d) injI 183 [(0, .ref 37), (1, vI v1)] [vI s0, vI s1, .ref 27] M (f_TownR_streetTold_J183 v1 s0 s1 M) := by
  unfold f_TownR_streetTold_J183
  refine tq_S3 (E := E_TownR_streetTold d) (pc := 183) (cks_at k_TownR_streetTold 93 rfl rfl) mk_BT_setCell lk_TownR_147 (Nat.le_of_ble_eq_true rfl) (c_BT_setCell (d + 126) 27 sa_27 s1 s0 M) (k_V fun M19 => ?_)
  refine tq_aload_n 0 (E := E_TownR_streetTold d) (pc := 186) (cks_at k_TownR_streetTold 94 rfl rfl) rfl ?_
  refine tq_getR (j := 20) (E := E_TownR_streetTold d) (pc := 187) (cks_at k_TownR_streetTold 95 rfl rfl) fo_TownR_15 so_37 rfl sp_37_1 ?_
  refine tq_getR (j := 28) (E := E_TownR_streetTold d) (pc := 190) (cks_at k_TownR_streetTold 96 rfl rfl) fo_TownR_151 so_20 rfl sp_20_7 ?_
  refine tq_iload_n 1 (E := E_TownR_streetTold d) (pc := 193) (cks_at k_TownR_streetTold 97 rfl rfl) rfl ?_
  refine tq_aload_n 0 (E := E_TownR_streetTold d) (pc := 194) (cks_at k_TownR_streetTold 98 rfl rfl) rfl ?_
  refine tq_getR (j := 20) (E := E_TownR_streetTold d) (pc := 195) (cks_at k_TownR_streetTold 99 rfl rfl) fo_TownR_15 so_37 rfl sp_37_1 ?_
  refine tq_getR (j := 33) (E := E_TownR_streetTold d) (pc := 198) (cks_at k_TownR_streetTold 100 rfl rfl) fo_TownR_21 so_20 rfl sp_20_12 ?_
  refine tq_getI (E := E_TownR_streetTold d) (pc := 201) (cks_at k_TownR_streetTold 101 rfl rfl) fo_TownR_154 so_33 rfl (by decide) ?_
  refine tq_S3 (E := E_TownR_streetTold d) (pc := 204) (cks_at k_TownR_streetTold 102 rfl rfl) mk_BT_setCell lk_TownR_147 (Nat.le_of_ble_eq_true rfl) (c_BT_setCell (d + 126) 28 sa_28 v1 (M19 33 3) M19) (k_V fun M20 => ?_)
  refine tq_aload_n 0 (E := E_TownR_streetTold d) (pc := 207) (cks_at k_TownR_streetTold 103 rfl rfl) rfl ?_
  refine tq_getR (j := 38) (E := E_TownR_streetTold d) (pc := 208) (cks_at k_TownR_streetTold 104 rfl rfl) fo_TownR_30 so_37 rfl sp_37_2 ?_
  refine tq_V0 (E := E_TownR_streetTold d) (pc := 211) (cks_at k_TownR_streetTold 105 rfl rfl) mk_Reader_readSum lk_TownR_159 (isReader_rc (Or.inl rfl)) (Nat.le_of_ble_eq_true rfl) (c_Reader_readSum (d + 0) 38 (Or.inl rfl) M20) (k_I fun r22 M21 => ?_)
  refine tq_istore_n (E := E_TownR_streetTold d) (pc := 214) (cks_at k_TownR_streetTold 106 rfl rfl) (show 3 < 4 by decide) rfl ?_
  refine tq_aload_n 1 (E := E_TownR_streetTold d) (pc := 215) (cks_at k_TownR_streetTold 107 rfl rfl) rfl ?_
  refine tq_getR (j := 20) (E := E_TownR_streetTold d) (pc := 216) (cks_at k_TownR_streetTold 108 rfl rfl) fo_TownR_15 so_37 rfl sp_37_1 ?_
  refine tq_getR (j := 29) (E := E_TownR_streetTold d) (pc := 219) (cks_at k_TownR_streetTold 109 rfl rfl) fo_TownR_162 so_20 rfl sp_20_8 ?_
  refine tq_iload_n 2 (E := E_TownR_streetTold d) (pc := 222) (cks_at k_TownR_streetTold 110 rfl rfl) rfl ?_
  refine tq_aload_n 1 (E := E_TownR_streetTold d) (pc := 223) (cks_at k_TownR_streetTold 111 rfl rfl) rfl ?_
  refine tq_getR (j := 20) (E := E_TownR_streetTold d) (pc := 224) (cks_at k_TownR_streetTold 112 rfl rfl) fo_TownR_15 so_37 rfl sp_37_1 ?_
  refine tq_getR (j := 33) (E := E_TownR_streetTold d) (pc := 227) (cks_at k_TownR_streetTold 113 rfl rfl) fo_TownR_21 so_20 rfl sp_20_12 ?_
  refine tq_getI (E := E_TownR_streetTold d) (pc := 230) (cks_at k_TownR_streetTold 114 rfl rfl) fo_TownR_154 so_33 rfl (by decide) ?_
  refine tq_S3 (E := E_TownR_streetTold d) (pc := 233) (cks_at k_TownR_streetTold 115 rfl rfl) mk_BT_setCell lk_TownR_147 (Nat.le_of_ble_eq_true rfl) (c_BT_setCell (d + 126) 29 sa_29 v1 (M21 33 3) M21) (k_V fun M23 => ?_)
  refine tq_iload_n 0 (E := E_TownR_streetTold d) (pc := 236) (cks_at k_TownR_streetTold 116 rfl rfl) rfl ?_
  exact tq_zret (E := E_TownR_streetTold d) (pc := 237) (cks_at k_TownR_streetTold 117 rfl rfl) rfl
def f_TownR_streetTold (M : Mm) : Option (Int × Mm) :=
  bI (f_TownR_newName 2 1 12 M) (fun r2 M1 =>
  if i32 r2 = i32 ((-1)) then
    some (0, M1)
  else
    bI (f_TownR_placeAsked 3 23 ((-1)) r2 M1) (fun r4 M3 =>
    if i32 r4 = 0 then
      some (0, M3)
    else
      bI (f_BT_cell 23 r2 M3) (fun r6 M5 =>
      bI (f_TownR_placeAsked 4 24 r6 r2 M5) (fun r8 M7 =>
      if i32 r8 = 0 then
        some (0, M7)
      else
        bI (f_TownR_numberAsked 5 25 1 4 r2 M7) (fun r10 M9 =>
        if i32 r10 = 0 then
          some (0, M9)
        else
          bI (f_TownR_numberAsked 6 26 1 48 r2 M9) (fun r12 M11 =>
          if i32 r12 = 0 then
            some (0, M11)
          else
            bI (f_TownR_numberAsked 7 27 0 47 r2 M11) (fun r14 M13 =>
            if ¬ i32 r14 = 0 then
              bI (f_Scan_takeWord 8 M13) (fun r16 M15 =>
              if ¬ i32 r16 = 0 then
                bI (f_BT_cell 26 r2 M15) (fun r18 M17 =>
                if i32 r18 ≤ 0 then
                  f_TownR_streetTold_J183 r2 0 r2 M17
                else
                  bI (f_BT_cell 27 r2 M17) (fun r25 M24 =>
                  gd (¬ i32 r18 = 0) <|
                  f_TownR_streetTold_J183 r2 ((i32 r25).tmod (i32 r18)) r2 M24))
              else
                bI (f_Scan_unexpected M15) (fun r27 M26 =>
                gd (i32 r27 = 0 ∨ i32 r27 = 1) (some (r27, M26))))
            else
              some (0, M13))))))))
set_option maxRecDepth 20000 in
set_option maxHeartbeats 4000000 in
theorem c_TownR_streetTold (d : Nat) (M : Mm) (Q : Option Value → Mm → Prop) (h : sat injI (f_TownR_streetTold M) Q) : Ct (d + 128) y_TownR_streetTold [.ref 37] M Q := by
  refine ct_in (d := d + 127) mk_TownR_streetTold (Nat.le_of_ble_eq_true rfl) (?_ : T (E_TownR_streetTold d) injI 0 [(0, .ref 37)] [] M (f_TownR_streetTold M)) h
  unfold f_TownR_streetTold
  refine tq_aload_n 0 (E := E_TownR_streetTold d) (pc := 0) (cks_at k_TownR_streetTold 0 rfl rfl) rfl ?_
  refine tq_ldcS (j := 2) (s := 2) (E := E_TownR_streetTold d) (pc := 1) (cks_at k_TownR_streetTold 1 rfl rfl) rfl ?_
  refine tq_iconst (E := E_TownR_streetTold d) (pc := 3) (cks_at k_TownR_streetTold 2 rfl rfl) ?_
  refine tq_bipush (E := E_TownR_streetTold d) (pc := 4) (cks_at k_TownR_streetTold 3 rfl rfl) (by decide) (by decide) ?_
  refine tq_V3 (E := E_TownR_streetTold d) (pc := 6) (cks_at k_TownR_streetTold 4 rfl rfl) mk_TownR_newName lk_TownR_58 rc_37 (Nat.le_of_ble_eq_true rfl) (c_TownR_newName (d + 120) 2 (by decide) 1 12 M) (k_I fun r2 M1 => ?_)
  refine tq_istore_n (E := E_TownR_streetTold d) (pc := 9) (cks_at k_TownR_streetTold 5 rfl rfl) (show 1 < 4 by decide) rfl ?_
  refine tq_iload_n 0 (E := E_TownR_streetTold d) (pc := 10) (cks_at k_TownR_streetTold 6 rfl rfl) rfl ?_
  refine tq_iconst (E := E_TownR_streetTold d) (pc := 11) (cks_at k_TownR_streetTold 7 rfl rfl) ?_
  refine tq_icmp_eq (E := E_TownR_streetTold d) (pc := 12) (tgt := 120) (cks_at k_TownR_streetTold 8 rfl rfl) (by decide) ?_ ?_
  · refine tq_iconst (E := E_TownR_streetTold d) (pc := 120) (cks_at k_TownR_streetTold 61 rfl rfl) ?_
    exact tq_zretC (E := E_TownR_streetTold d) (pc := 121) (cks_at k_TownR_streetTold 62 rfl rfl) rfl (by decide)
  · refine tq_aload_n 1 (E := E_TownR_streetTold d) (pc := 15) (cks_at k_TownR_streetTold 9 rfl rfl) rfl ?_
    refine tq_ldcS (j := 3) (s := 3) (E := E_TownR_streetTold d) (pc := 16) (cks_at k_TownR_streetTold 10 rfl rfl) rfl ?_
    refine tq_iconst (E := E_TownR_streetTold d) (pc := 18) (cks_at k_TownR_streetTold 11 rfl rfl) ?_
    refine tq_aload_n 1 (E := E_TownR_streetTold d) (pc := 19) (cks_at k_TownR_streetTold 12 rfl rfl) rfl ?_
    refine tq_getR (j := 20) (E := E_TownR_streetTold d) (pc := 20) (cks_at k_TownR_streetTold 13 rfl rfl) fo_TownR_15 so_37 rfl sp_37_1 ?_
    refine tq_getR (j := 23) (E := E_TownR_streetTold d) (pc := 23) (cks_at k_TownR_streetTold 14 rfl rfl) fo_TownR_112 so_20 rfl sp_20_2 ?_
    refine tq_iload_n 0 (E := E_TownR_streetTold d) (pc := 26) (cks_at k_TownR_streetTold 15 rfl rfl) rfl ?_
    refine tq_V4 (E := E_TownR_streetTold d) (pc := 27) (cks_at k_TownR_streetTold 16 rfl rfl) mk_TownR_placeAsked lk_TownR_115 rc_37 (Nat.le_of_ble_eq_true rfl) (c_TownR_placeAsked (d + 120) 3 (by decide) 23 sa_23 ((-1)) r2 M1) (k_I fun r4 M3 => ?_)
    refine tq_if_eq (E := E_TownR_streetTold d) (pc := 30) (tgt := 120) (cks_at k_TownR_streetTold 17 rfl rfl) (by decide) ?_ ?_
    · refine tq_iconst (E := E_TownR_streetTold d) (pc := 120) (cks_at k_TownR_streetTold 61 rfl rfl) ?_
      exact tq_zretC (E := E_TownR_streetTold d) (pc := 121) (cks_at k_TownR_streetTold 62 rfl rfl) rfl (by decide)
    · refine tq_aload_n 1 (E := E_TownR_streetTold d) (pc := 33) (cks_at k_TownR_streetTold 18 rfl rfl) rfl ?_
      refine tq_ldcS (j := 4) (s := 4) (E := E_TownR_streetTold d) (pc := 34) (cks_at k_TownR_streetTold 19 rfl rfl) rfl ?_
      refine tq_aload_n 1 (E := E_TownR_streetTold d) (pc := 36) (cks_at k_TownR_streetTold 20 rfl rfl) rfl ?_
      refine tq_getR (j := 20) (E := E_TownR_streetTold d) (pc := 37) (cks_at k_TownR_streetTold 21 rfl rfl) fo_TownR_15 so_37 rfl sp_37_1 ?_
      refine tq_getR (j := 23) (E := E_TownR_streetTold d) (pc := 40) (cks_at k_TownR_streetTold 22 rfl rfl) fo_TownR_112 so_20 rfl sp_20_2 ?_
      refine tq_iload_n 0 (E := E_TownR_streetTold d) (pc := 43) (cks_at k_TownR_streetTold 23 rfl rfl) rfl ?_
      refine tq_S2 (E := E_TownR_streetTold d) (pc := 44) (cks_at k_TownR_streetTold 24 rfl rfl) mk_BT_cell lk_TownR_121 (Nat.le_of_ble_eq_true rfl) (c_BT_cell (d + 126) 23 sa_23 r2 M3) (k_I fun r6 M5 => ?_)
      refine tq_aload_n 1 (E := E_TownR_streetTold d) (pc := 47) (cks_at k_TownR_streetTold 25 rfl rfl) rfl ?_
      refine tq_getR (j := 20) (E := E_TownR_streetTold d) (pc := 48) (cks_at k_TownR_streetTold 26 rfl rfl) fo_TownR_15 so_37 rfl sp_37_1 ?_
      refine tq_getR (j := 24) (E := E_TownR_streetTold d) (pc := 51) (cks_at k_TownR_streetTold 27 rfl rfl) fo_TownR_125 so_20 rfl sp_20_3 ?_
      refine tq_iload_n 0 (E := E_TownR_streetTold d) (pc := 54) (cks_at k_TownR_streetTold 28 rfl rfl) rfl ?_
      refine tq_V4 (E := E_TownR_streetTold d) (pc := 55) (cks_at k_TownR_streetTold 29 rfl rfl) mk_TownR_placeAsked lk_TownR_115 rc_37 (Nat.le_of_ble_eq_true rfl) (c_TownR_placeAsked (d + 120) 4 (by decide) 24 sa_24 r6 r2 M5) (k_I fun r8 M7 => ?_)
      refine tq_if_eq (E := E_TownR_streetTold d) (pc := 58) (tgt := 120) (cks_at k_TownR_streetTold 30 rfl rfl) (by decide) ?_ ?_
      · refine tq_iconst (E := E_TownR_streetTold d) (pc := 120) (cks_at k_TownR_streetTold 61 rfl rfl) ?_
        exact tq_zretC (E := E_TownR_streetTold d) (pc := 121) (cks_at k_TownR_streetTold 62 rfl rfl) rfl (by decide)
      · refine tq_aload_n 1 (E := E_TownR_streetTold d) (pc := 61) (cks_at k_TownR_streetTold 31 rfl rfl) rfl ?_
        refine tq_ldcS (j := 5) (s := 5) (E := E_TownR_streetTold d) (pc := 62) (cks_at k_TownR_streetTold 32 rfl rfl) rfl ?_
        refine tq_iconst (E := E_TownR_streetTold d) (pc := 64) (cks_at k_TownR_streetTold 33 rfl rfl) ?_
        refine tq_iconst (E := E_TownR_streetTold d) (pc := 65) (cks_at k_TownR_streetTold 34 rfl rfl) ?_
        refine tq_aload_n 1 (E := E_TownR_streetTold d) (pc := 66) (cks_at k_TownR_streetTold 35 rfl rfl) rfl ?_
        refine tq_getR (j := 20) (E := E_TownR_streetTold d) (pc := 67) (cks_at k_TownR_streetTold 36 rfl rfl) fo_TownR_15 so_37 rfl sp_37_1 ?_
        refine tq_getR (j := 25) (E := E_TownR_streetTold d) (pc := 70) (cks_at k_TownR_streetTold 37 rfl rfl) fo_TownR_129 so_20 rfl sp_20_4 ?_
        refine tq_iload_n 0 (E := E_TownR_streetTold d) (pc := 73) (cks_at k_TownR_streetTold 38 rfl rfl) rfl ?_
        refine tq_V5 (E := E_TownR_streetTold d) (pc := 74) (cks_at k_TownR_streetTold 39 rfl rfl) mk_TownR_numberAsked lk_TownR_131 rc_37 (Nat.le_of_ble_eq_true rfl) (c_TownR_numberAsked (d + 120) 5 (by decide) 25 sa_25 1 4 r2 M7) (k_I fun r10 M9 => ?_)
        refine tq_if_eq (E := E_TownR_streetTold d) (pc := 77) (tgt := 120) (cks_at k_TownR_streetTold 40 rfl rfl) (by decide) ?_ ?_
        · refine tq_iconst (E := E_TownR_streetTold d) (pc := 120) (cks_at k_TownR_streetTold 61 rfl rfl) ?_
          exact tq_zretC (E := E_TownR_streetTold d) (pc := 121) (cks_at k_TownR_streetTold 62 rfl rfl) rfl (by decide)
        · refine tq_aload_n 1 (E := E_TownR_streetTold d) (pc := 80) (cks_at k_TownR_streetTold 41 rfl rfl) rfl ?_
          refine tq_ldcS (j := 6) (s := 6) (E := E_TownR_streetTold d) (pc := 81) (cks_at k_TownR_streetTold 42 rfl rfl) rfl ?_
          refine tq_iconst (E := E_TownR_streetTold d) (pc := 83) (cks_at k_TownR_streetTold 43 rfl rfl) ?_
          refine tq_bipush (E := E_TownR_streetTold d) (pc := 84) (cks_at k_TownR_streetTold 44 rfl rfl) (by decide) (by decide) ?_
          refine tq_aload_n 1 (E := E_TownR_streetTold d) (pc := 86) (cks_at k_TownR_streetTold 45 rfl rfl) rfl ?_
          refine tq_getR (j := 20) (E := E_TownR_streetTold d) (pc := 87) (cks_at k_TownR_streetTold 46 rfl rfl) fo_TownR_15 so_37 rfl sp_37_1 ?_
          refine tq_getR (j := 26) (E := E_TownR_streetTold d) (pc := 90) (cks_at k_TownR_streetTold 47 rfl rfl) fo_TownR_137 so_20 rfl sp_20_5 ?_
          refine tq_iload_n 0 (E := E_TownR_streetTold d) (pc := 93) (cks_at k_TownR_streetTold 48 rfl rfl) rfl ?_
          refine tq_V5 (E := E_TownR_streetTold d) (pc := 94) (cks_at k_TownR_streetTold 49 rfl rfl) mk_TownR_numberAsked lk_TownR_131 rc_37 (Nat.le_of_ble_eq_true rfl) (c_TownR_numberAsked (d + 120) 6 (by decide) 26 sa_26 1 48 r2 M9) (k_I fun r12 M11 => ?_)
          refine tq_if_eq (E := E_TownR_streetTold d) (pc := 97) (tgt := 120) (cks_at k_TownR_streetTold 50 rfl rfl) (by decide) ?_ ?_
          · refine tq_iconst (E := E_TownR_streetTold d) (pc := 120) (cks_at k_TownR_streetTold 61 rfl rfl) ?_
            exact tq_zretC (E := E_TownR_streetTold d) (pc := 121) (cks_at k_TownR_streetTold 62 rfl rfl) rfl (by decide)
          · refine tq_aload_n 1 (E := E_TownR_streetTold d) (pc := 100) (cks_at k_TownR_streetTold 51 rfl rfl) rfl ?_
            refine tq_ldcS (j := 7) (s := 7) (E := E_TownR_streetTold d) (pc := 101) (cks_at k_TownR_streetTold 52 rfl rfl) rfl ?_
            refine tq_iconst (E := E_TownR_streetTold d) (pc := 103) (cks_at k_TownR_streetTold 53 rfl rfl) ?_
            refine tq_bipush (E := E_TownR_streetTold d) (pc := 104) (cks_at k_TownR_streetTold 54 rfl rfl) (by decide) (by decide) ?_
            refine tq_aload_n 1 (E := E_TownR_streetTold d) (pc := 106) (cks_at k_TownR_streetTold 55 rfl rfl) rfl ?_
            refine tq_getR (j := 20) (E := E_TownR_streetTold d) (pc := 107) (cks_at k_TownR_streetTold 56 rfl rfl) fo_TownR_15 so_37 rfl sp_37_1 ?_
            refine tq_getR (j := 27) (E := E_TownR_streetTold d) (pc := 110) (cks_at k_TownR_streetTold 57 rfl rfl) fo_TownR_142 so_20 rfl sp_20_6 ?_
            refine tq_iload_n 0 (E := E_TownR_streetTold d) (pc := 113) (cks_at k_TownR_streetTold 58 rfl rfl) rfl ?_
            refine tq_V5 (E := E_TownR_streetTold d) (pc := 114) (cks_at k_TownR_streetTold 59 rfl rfl) mk_TownR_numberAsked lk_TownR_131 rc_37 (Nat.le_of_ble_eq_true rfl) (c_TownR_numberAsked (d + 120) 7 (by decide) 27 sa_27 0 47 r2 M11) (k_I fun r14 M13 => ?_)
            refine tq_if_ne (E := E_TownR_streetTold d) (pc := 117) (tgt := 122) (cks_at k_TownR_streetTold 60 rfl rfl) (by decide) ?_ ?_
            · refine tq_aload_n 1 (E := E_TownR_streetTold d) (pc := 122) (cks_at k_TownR_streetTold 63 rfl rfl) rfl ?_
              refine tq_getR (j := 1) (E := E_TownR_streetTold d) (pc := 123) (cks_at k_TownR_streetTold 64 rfl rfl) fo_TownR_9 so_37 rfl sp_37_0 ?_
              refine tq_ldcS (j := 8) (s := 8) (E := E_TownR_streetTold d) (pc := 126) (cks_at k_TownR_streetTold 65 rfl rfl) rfl ?_
              refine tq_V1 (E := E_TownR_streetTold d) (pc := 128) (cks_at k_TownR_streetTold 66 rfl rfl) mk_Scan_takeWord lk_TownR_81 rc_1 (Nat.le_of_ble_eq_true rfl) (c_Scan_takeWord (d + 121) 8 (by decide) M13) (k_I fun r16 M15 => ?_)
              refine tq_if_ne (E := E_TownR_streetTold d) (pc := 131) (tgt := 142) (cks_at k_TownR_streetTold 67 rfl rfl) (by decide) ?_ ?_
              · refine tq_aload_n 1 (E := E_TownR_streetTold d) (pc := 142) (cks_at k_TownR_streetTold 72 rfl rfl) rfl ?_
                refine tq_getR (j := 20) (E := E_TownR_streetTold d) (pc := 143) (cks_at k_TownR_streetTold 73 rfl rfl) fo_TownR_15 so_37 rfl sp_37_1 ?_
                refine tq_getR (j := 26) (E := E_TownR_streetTold d) (pc := 146) (cks_at k_TownR_streetTold 74 rfl rfl) fo_TownR_137 so_20 rfl sp_20_5 ?_
                refine tq_iload_n 0 (E := E_TownR_streetTold d) (pc := 149) (cks_at k_TownR_streetTold 75 rfl rfl) rfl ?_
                refine tq_S2 (E := E_TownR_streetTold d) (pc := 150) (cks_at k_TownR_streetTold 76 rfl rfl) mk_BT_cell lk_TownR_121 (Nat.le_of_ble_eq_true rfl) (c_BT_cell (d + 126) 26 sa_26 r2 M15) (k_I fun r18 M17 => ?_)
                refine tq_istore_n (E := E_TownR_streetTold d) (pc := 153) (cks_at k_TownR_streetTold 77 rfl rfl) (show 2 < 4 by decide) rfl ?_
                refine tq_aload_n 2 (E := E_TownR_streetTold d) (pc := 154) (cks_at k_TownR_streetTold 78 rfl rfl) rfl ?_
                refine tq_getR (j := 20) (E := E_TownR_streetTold d) (pc := 155) (cks_at k_TownR_streetTold 79 rfl rfl) fo_TownR_15 so_37 rfl sp_37_1 ?_
                refine tq_getR (j := 27) (E := E_TownR_streetTold d) (pc := 158) (cks_at k_TownR_streetTold 80 rfl rfl) fo_TownR_142 so_20 rfl sp_20_6 ?_
                refine tq_iload_n 1 (E := E_TownR_streetTold d) (pc := 161) (cks_at k_TownR_streetTold 81 rfl rfl) rfl ?_
                refine tq_iload_n 0 (E := E_TownR_streetTold d) (pc := 162) (cks_at k_TownR_streetTold 82 rfl rfl) rfl ?_
                refine tq_if_le (E := E_TownR_streetTold d) (pc := 163) (tgt := 182) (cks_at k_TownR_streetTold 83 rfl rfl) (by decide) ?_ ?_
                · refine tq_iconst (E := E_TownR_streetTold d) (pc := 182) (cks_at k_TownR_streetTold 92 rfl rfl) ?_
                  exact tq_sub [2, 1] rfl (w_TownR_streetTold_J183 d r2 0 r2 M17)
                · refine tq_aload_n 2 (E := E_TownR_streetTold d) (pc := 166) (cks_at k_TownR_streetTold 84 rfl rfl) rfl ?_
                  refine tq_getR (j := 20) (E := E_TownR_streetTold d) (pc := 167) (cks_at k_TownR_streetTold 85 rfl rfl) fo_TownR_15 so_37 rfl sp_37_1 ?_
                  refine tq_getR (j := 27) (E := E_TownR_streetTold d) (pc := 170) (cks_at k_TownR_streetTold 86 rfl rfl) fo_TownR_142 so_20 rfl sp_20_6 ?_
                  refine tq_iload_n 1 (E := E_TownR_streetTold d) (pc := 173) (cks_at k_TownR_streetTold 87 rfl rfl) rfl ?_
                  refine tq_S2 (E := E_TownR_streetTold d) (pc := 174) (cks_at k_TownR_streetTold 88 rfl rfl) mk_BT_cell lk_TownR_121 (Nat.le_of_ble_eq_true rfl) (c_BT_cell (d + 126) 27 sa_27 r2 M17) (k_I fun r25 M24 => ?_)
                  refine tq_iload_n 0 (E := E_TownR_streetTold d) (pc := 177) (cks_at k_TownR_streetTold 89 rfl rfl) rfl ?_
                  refine tq_irem (E := E_TownR_streetTold d) (pc := 178) (cks_at k_TownR_streetTold 90 rfl rfl) ?_
                  refine tq_goto (tgt := 183) (E := E_TownR_streetTold d) (pc := 179) (cks_at k_TownR_streetTold 91 rfl rfl) (by decide) ?_
                  exact tq_sub [2, 1] rfl (w_TownR_streetTold_J183 d r2 ((i32 r25).tmod (i32 r18)) r2 M24)
              · refine tq_aload_n 1 (E := E_TownR_streetTold d) (pc := 134) (cks_at k_TownR_streetTold 68 rfl rfl) rfl ?_
                refine tq_getR (j := 1) (E := E_TownR_streetTold d) (pc := 135) (cks_at k_TownR_streetTold 69 rfl rfl) fo_TownR_9 so_37 rfl sp_37_0 ?_
                refine tq_V0 (E := E_TownR_streetTold d) (pc := 138) (cks_at k_TownR_streetTold 70 rfl rfl) mk_Scan_unexpected lk_TownR_84 rc_1 (Nat.le_of_ble_eq_true rfl) (c_Scan_unexpected (d + 125) M15) (k_I fun r27 M26 => ?_)
                exact tq_zret (E := E_TownR_streetTold d) (pc := 141) (cks_at k_TownR_streetTold 71 rfl rfl) rfl
            · refine tq_iconst (E := E_TownR_streetTold d) (pc := 120) (cks_at k_TownR_streetTold 61 rfl rfl) ?_
              exact tq_zretC (E := E_TownR_streetTold d) (pc := 121) (cks_at k_TownR_streetTold 62 rfl rfl) rfl (by decide)
abbrev E_TownR_walkerTold (d : Nat) : Ev := (Ct (d + 7), "BreathTown$TownReader", prog_10_method_6_code, 2, False, 0, (fun _ => 0), (Option.some Jvm.ClassFile.FieldType.boolean))
def f_TownR_walkerTold (M : Mm) : Option (Int × Mm) :=
  bI (f_TownR_newName 17 2 6 M) (fun r2 M1 =>
  if i32 r2 = i32 ((-1)) then
    some (0, M1)
  else
    bI (f_TownR_numberAsked 18 30 1 99 r2 M1) (fun r4 M3 =>
    if i32 r4 = 0 then
      some (0, M3)
    else
      bI (f_TownR_placeAsked 19 31 ((-1)) r2 M3) (fun r6 M5 =>
      if i32 r6 = 0 then
        some (0, M5)
      else
        bI (f_BT_cell 31 r2 M5) (fun r8 M7 =>
        bI (f_TownR_placeAsked 4 32 r8 r2 M7) (fun r10 M9 =>
        if i32 r10 = 0 then
          some (0, M9)
        else
          some (1, M9))))))
set_option maxRecDepth 20000 in
set_option maxHeartbeats 4000000 in
theorem c_TownR_walkerTold (d : Nat) (M : Mm) (Q : Option Value → Mm → Prop) (h : sat injI (f_TownR_walkerTold M) Q) : Ct (d + 8) y_TownR_walkerTold [.ref 37] M Q := by
  refine ct_in (d := d + 7) mk_TownR_walkerTold (Nat.le_of_ble_eq_true rfl) (?_ : T (E_TownR_walkerTold d) injI 0 [(0, .ref 37)] [] M (f_TownR_walkerTold M)) h
  unfold f_TownR_walkerTold
  refine tq_aload_n 0 (E := E_TownR_walkerTold d) (pc := 0) (cks_at k_TownR_walkerTold 0 rfl rfl) rfl ?_
  refine tq_ldcS (j := 18) (s := 17) (E := E_TownR_walkerTold d) (pc := 1) (cks_at k_TownR_walkerTold 1 rfl rfl) rfl ?_
  refine tq_iconst (E := E_TownR_walkerTold d) (pc := 3) (cks_at k_TownR_walkerTold 2 rfl rfl) ?_
  refine tq_bipush (E := E_TownR_walkerTold d) (pc := 4) (cks_at k_TownR_walkerTold 3 rfl rfl) (by decide) (by decide) ?_
  refine tq_V3 (E := E_TownR_walkerTold d) (pc := 6) (cks_at k_TownR_walkerTold 4 rfl rfl) mk_TownR_newName lk_TownR_58 rc_37 (Nat.le_of_ble_eq_true rfl) (c_TownR_newName (d + 0) 17 (by decide) 2 6 M) (k_I fun r2 M1 => ?_)
  refine tq_istore_n (E := E_TownR_walkerTold d) (pc := 9) (cks_at k_TownR_walkerTold 5 rfl rfl) (show 1 < 2 by decide) rfl ?_
  refine tq_iload_n 0 (E := E_TownR_walkerTold d) (pc := 10) (cks_at k_TownR_walkerTold 6 rfl rfl) rfl ?_
  refine tq_iconst (E := E_TownR_walkerTold d) (pc := 11) (cks_at k_TownR_walkerTold 7 rfl rfl) ?_
  refine tq_icmp_eq (E := E_TownR_walkerTold d) (pc := 12) (tgt := 85) (cks_at k_TownR_walkerTold 8 rfl rfl) (by decide) ?_ ?_
  · refine tq_iconst (E := E_TownR_walkerTold d) (pc := 85) (cks_at k_TownR_walkerTold 43 rfl rfl) ?_
    exact tq_zretC (E := E_TownR_walkerTold d) (pc := 86) (cks_at k_TownR_walkerTold 44 rfl rfl) rfl (by decide)
  · refine tq_aload_n 1 (E := E_TownR_walkerTold d) (pc := 15) (cks_at k_TownR_walkerTold 9 rfl rfl) rfl ?_
    refine tq_ldcS (j := 19) (s := 18) (E := E_TownR_walkerTold d) (pc := 16) (cks_at k_TownR_walkerTold 10 rfl rfl) rfl ?_
    refine tq_iconst (E := E_TownR_walkerTold d) (pc := 18) (cks_at k_TownR_walkerTold 11 rfl rfl) ?_
    refine tq_bipush (E := E_TownR_walkerTold d) (pc := 19) (cks_at k_TownR_walkerTold 12 rfl rfl) (by decide) (by decide) ?_
    refine tq_aload_n 1 (E := E_TownR_walkerTold d) (pc := 21) (cks_at k_TownR_walkerTold 13 rfl rfl) rfl ?_
    refine tq_getR (j := 20) (E := E_TownR_walkerTold d) (pc := 22) (cks_at k_TownR_walkerTold 14 rfl rfl) fo_TownR_15 so_37 rfl sp_37_1 ?_
    refine tq_getR (j := 30) (E := E_TownR_walkerTold d) (pc := 25) (cks_at k_TownR_walkerTold 15 rfl rfl) fo_TownR_167 so_20 rfl sp_20_9 ?_
    refine tq_iload_n 0 (E := E_TownR_walkerTold d) (pc := 28) (cks_at k_TownR_walkerTold 16 rfl rfl) rfl ?_
    refine tq_V5 (E := E_TownR_walkerTold d) (pc := 29) (cks_at k_TownR_walkerTold 17 rfl rfl) mk_TownR_numberAsked lk_TownR_131 rc_37 (Nat.le_of_ble_eq_true rfl) (c_TownR_numberAsked (d + 0) 18 (by decide) 30 sa_30 1 99 r2 M1) (k_I fun r4 M3 => ?_)
    refine tq_if_eq (E := E_TownR_walkerTold d) (pc := 32) (tgt := 85) (cks_at k_TownR_walkerTold 18 rfl rfl) (by decide) ?_ ?_
    · refine tq_iconst (E := E_TownR_walkerTold d) (pc := 85) (cks_at k_TownR_walkerTold 43 rfl rfl) ?_
      exact tq_zretC (E := E_TownR_walkerTold d) (pc := 86) (cks_at k_TownR_walkerTold 44 rfl rfl) rfl (by decide)
    · refine tq_aload_n 1 (E := E_TownR_walkerTold d) (pc := 35) (cks_at k_TownR_walkerTold 19 rfl rfl) rfl ?_
      refine tq_ldcS (j := 20) (s := 19) (E := E_TownR_walkerTold d) (pc := 36) (cks_at k_TownR_walkerTold 20 rfl rfl) rfl ?_
      refine tq_iconst (E := E_TownR_walkerTold d) (pc := 38) (cks_at k_TownR_walkerTold 21 rfl rfl) ?_
      refine tq_aload_n 1 (E := E_TownR_walkerTold d) (pc := 39) (cks_at k_TownR_walkerTold 22 rfl rfl) rfl ?_
      refine tq_getR (j := 20) (E := E_TownR_walkerTold d) (pc := 40) (cks_at k_TownR_walkerTold 23 rfl rfl) fo_TownR_15 so_37 rfl sp_37_1 ?_
      refine tq_getR (j := 31) (E := E_TownR_walkerTold d) (pc := 43) (cks_at k_TownR_walkerTold 24 rfl rfl) fo_TownR_172 so_20 rfl sp_20_10 ?_
      refine tq_iload_n 0 (E := E_TownR_walkerTold d) (pc := 46) (cks_at k_TownR_walkerTold 25 rfl rfl) rfl ?_
      refine tq_V4 (E := E_TownR_walkerTold d) (pc := 47) (cks_at k_TownR_walkerTold 26 rfl rfl) mk_TownR_placeAsked lk_TownR_115 rc_37 (Nat.le_of_ble_eq_true rfl) (c_TownR_placeAsked (d + 0) 19 (by decide) 31 sa_31 ((-1)) r2 M3) (k_I fun r6 M5 => ?_)
      refine tq_if_eq (E := E_TownR_walkerTold d) (pc := 50) (tgt := 85) (cks_at k_TownR_walkerTold 27 rfl rfl) (by decide) ?_ ?_
      · refine tq_iconst (E := E_TownR_walkerTold d) (pc := 85) (cks_at k_TownR_walkerTold 43 rfl rfl) ?_
        exact tq_zretC (E := E_TownR_walkerTold d) (pc := 86) (cks_at k_TownR_walkerTold 44 rfl rfl) rfl (by decide)
      · refine tq_aload_n 1 (E := E_TownR_walkerTold d) (pc := 53) (cks_at k_TownR_walkerTold 28 rfl rfl) rfl ?_
        refine tq_ldcS (j := 4) (s := 4) (E := E_TownR_walkerTold d) (pc := 54) (cks_at k_TownR_walkerTold 29 rfl rfl) rfl ?_
        refine tq_aload_n 1 (E := E_TownR_walkerTold d) (pc := 56) (cks_at k_TownR_walkerTold 30 rfl rfl) rfl ?_
        refine tq_getR (j := 20) (E := E_TownR_walkerTold d) (pc := 57) (cks_at k_TownR_walkerTold 31 rfl rfl) fo_TownR_15 so_37 rfl sp_37_1 ?_
        refine tq_getR (j := 31) (E := E_TownR_walkerTold d) (pc := 60) (cks_at k_TownR_walkerTold 32 rfl rfl) fo_TownR_172 so_20 rfl sp_20_10 ?_
        refine tq_iload_n 0 (E := E_TownR_walkerTold d) (pc := 63) (cks_at k_TownR_walkerTold 33 rfl rfl) rfl ?_
        refine tq_S2 (E := E_TownR_walkerTold d) (pc := 64) (cks_at k_TownR_walkerTold 34 rfl rfl) mk_BT_cell lk_TownR_121 (Nat.le_of_ble_eq_true rfl) (c_BT_cell (d + 6) 31 sa_31 r2 M5) (k_I fun r8 M7 => ?_)
        refine tq_aload_n 1 (E := E_TownR_walkerTold d) (pc := 67) (cks_at k_TownR_walkerTold 35 rfl rfl) rfl ?_
        refine tq_getR (j := 20) (E := E_TownR_walkerTold d) (pc := 68) (cks_at k_TownR_walkerTold 36 rfl rfl) fo_TownR_15 so_37 rfl sp_37_1 ?_
        refine tq_getR (j := 32) (E := E_TownR_walkerTold d) (pc := 71) (cks_at k_TownR_walkerTold 37 rfl rfl) fo_TownR_175 so_20 rfl sp_20_11 ?_
        refine tq_iload_n 0 (E := E_TownR_walkerTold d) (pc := 74) (cks_at k_TownR_walkerTold 38 rfl rfl) rfl ?_
        refine tq_V4 (E := E_TownR_walkerTold d) (pc := 75) (cks_at k_TownR_walkerTold 39 rfl rfl) mk_TownR_placeAsked lk_TownR_115 rc_37 (Nat.le_of_ble_eq_true rfl) (c_TownR_placeAsked (d + 0) 4 (by decide) 32 sa_32 r8 r2 M7) (k_I fun r10 M9 => ?_)
        refine tq_if_eq (E := E_TownR_walkerTold d) (pc := 78) (tgt := 85) (cks_at k_TownR_walkerTold 40 rfl rfl) (by decide) ?_ ?_
        · refine tq_iconst (E := E_TownR_walkerTold d) (pc := 85) (cks_at k_TownR_walkerTold 43 rfl rfl) ?_
          exact tq_zretC (E := E_TownR_walkerTold d) (pc := 86) (cks_at k_TownR_walkerTold 44 rfl rfl) rfl (by decide)
        · refine tq_iconst (E := E_TownR_walkerTold d) (pc := 81) (cks_at k_TownR_walkerTold 41 rfl rfl) ?_
          refine tq_goto (tgt := 86) (E := E_TownR_walkerTold d) (pc := 82) (cks_at k_TownR_walkerTold 42 rfl rfl) (by decide) ?_
          exact tq_zretC (E := E_TownR_walkerTold d) (pc := 86) (cks_at k_TownR_walkerTold 44 rfl rfl) rfl (by decide)
abbrev E_TownR_beginTold (d : Nat) : Ev := (Ct (d + 6), "BreathTown$TownReader", prog_10_method_3_code, 1, False, 0, (fun _ => 0), (Option.some Jvm.ClassFile.FieldType.boolean))
def f_TownR_beginTold (M : Mm) : Option (Int × Mm) :=
  bI (f_Scan_takeWord 20 M) (fun r2 M1 =>
  if ¬ i32 r2 = 0 then
    bI (f_Scan_number 0 999 M1) (fun r4 M3 =>
    bd (up M3 20 13 r4) (fun M5 =>
    if i32 (M5 20 13) = i32 ((-1)) then
      some (0, M5)
    else
      some (1, M5)))
  else
    bI (f_Scan_unexpected M1) (fun r7 M6 =>
    gd (i32 r7 = 0 ∨ i32 r7 = 1) (some (r7, M6))))
set_option maxRecDepth 20000 in
set_option maxHeartbeats 4000000 in
theorem c_TownR_beginTold (d : Nat) (M : Mm) (Q : Option Value → Mm → Prop) (h : sat injI (f_TownR_beginTold M) Q) : Ct (d + 7) y_TownR_beginTold [.ref 37] M Q := by
  refine ct_in (d := d + 6) mk_TownR_beginTold (Nat.le_of_ble_eq_true rfl) (?_ : T (E_TownR_beginTold d) injI 0 [(0, .ref 37)] [] M (f_TownR_beginTold M)) h
  unfold f_TownR_beginTold
  refine tq_aload_n 0 (E := E_TownR_beginTold d) (pc := 0) (cks_at k_TownR_beginTold 0 rfl rfl) rfl ?_
  refine tq_getR (j := 1) (E := E_TownR_beginTold d) (pc := 1) (cks_at k_TownR_beginTold 1 rfl rfl) fo_TownR_9 so_37 rfl sp_37_0 ?_
  refine tq_ldcS (j := 21) (s := 20) (E := E_TownR_beginTold d) (pc := 4) (cks_at k_TownR_beginTold 2 rfl rfl) rfl ?_
  refine tq_V1 (E := E_TownR_beginTold d) (pc := 6) (cks_at k_TownR_beginTold 3 rfl rfl) mk_Scan_takeWord lk_TownR_81 rc_1 (Nat.le_of_ble_eq_true rfl) (c_Scan_takeWord (d + 0) 20 (by decide) M) (k_I fun r2 M1 => ?_)
  refine tq_if_ne (E := E_TownR_beginTold d) (pc := 9) (tgt := 20) (cks_at k_TownR_beginTold 4 rfl rfl) (by decide) ?_ ?_
  · refine tq_aload_n 0 (E := E_TownR_beginTold d) (pc := 20) (cks_at k_TownR_beginTold 9 rfl rfl) rfl ?_
    refine tq_getR (j := 20) (E := E_TownR_beginTold d) (pc := 21) (cks_at k_TownR_beginTold 10 rfl rfl) fo_TownR_15 so_37 rfl sp_37_1 ?_
    refine tq_aload_n 0 (E := E_TownR_beginTold d) (pc := 24) (cks_at k_TownR_beginTold 11 rfl rfl) rfl ?_
    refine tq_getR (j := 1) (E := E_TownR_beginTold d) (pc := 25) (cks_at k_TownR_beginTold 12 rfl rfl) fo_TownR_9 so_37 rfl sp_37_0 ?_
    refine tq_iconst (E := E_TownR_beginTold d) (pc := 28) (cks_at k_TownR_beginTold 13 rfl rfl) ?_
    refine tq_sipush (E := E_TownR_beginTold d) (pc := 29) (cks_at k_TownR_beginTold 14 rfl rfl) (by decide) (by decide) ?_
    refine tq_V2 (E := E_TownR_beginTold d) (pc := 32) (cks_at k_TownR_beginTold 15 rfl rfl) mk_Scan_number lk_TownR_87 rc_1 (Nat.le_of_ble_eq_true rfl) (c_Scan_number (d + 3) 0 999 M1) (k_I fun r4 M3 => ?_)
    refine tq_putI (E := E_TownR_beginTold d) (pc := 35) (cks_at k_TownR_beginTold 16 rfl rfl) fo_TownR_91 so_20 rfl po_7_13 (fun M5 => ?_)
    refine tq_aload_n 0 (E := E_TownR_beginTold d) (pc := 38) (cks_at k_TownR_beginTold 17 rfl rfl) rfl ?_
    refine tq_getR (j := 20) (E := E_TownR_beginTold d) (pc := 39) (cks_at k_TownR_beginTold 18 rfl rfl) fo_TownR_15 so_37 rfl sp_37_1 ?_
    refine tq_getI (E := E_TownR_beginTold d) (pc := 42) (cks_at k_TownR_beginTold 19 rfl rfl) fo_TownR_91 so_20 rfl (by decide) ?_
    refine tq_iconst (E := E_TownR_beginTold d) (pc := 45) (cks_at k_TownR_beginTold 20 rfl rfl) ?_
    refine tq_icmp_eq (E := E_TownR_beginTold d) (pc := 46) (tgt := 53) (cks_at k_TownR_beginTold 21 rfl rfl) (by decide) ?_ ?_
    · refine tq_iconst (E := E_TownR_beginTold d) (pc := 53) (cks_at k_TownR_beginTold 24 rfl rfl) ?_
      exact tq_zretC (E := E_TownR_beginTold d) (pc := 54) (cks_at k_TownR_beginTold 25 rfl rfl) rfl (by decide)
    · refine tq_iconst (E := E_TownR_beginTold d) (pc := 49) (cks_at k_TownR_beginTold 22 rfl rfl) ?_
      refine tq_goto (tgt := 54) (E := E_TownR_beginTold d) (pc := 50) (cks_at k_TownR_beginTold 23 rfl rfl) (by decide) ?_
      exact tq_zretC (E := E_TownR_beginTold d) (pc := 54) (cks_at k_TownR_beginTold 25 rfl rfl) rfl (by decide)
  · refine tq_aload_n 0 (E := E_TownR_beginTold d) (pc := 12) (cks_at k_TownR_beginTold 5 rfl rfl) rfl ?_
    refine tq_getR (j := 1) (E := E_TownR_beginTold d) (pc := 13) (cks_at k_TownR_beginTold 6 rfl rfl) fo_TownR_9 so_37 rfl sp_37_0 ?_
    refine tq_V0 (E := E_TownR_beginTold d) (pc := 16) (cks_at k_TownR_beginTold 7 rfl rfl) mk_Scan_unexpected lk_TownR_84 rc_1 (Nat.le_of_ble_eq_true rfl) (c_Scan_unexpected (d + 4) M1) (k_I fun r7 M6 => ?_)
    exact tq_zret (E := E_TownR_beginTold d) (pc := 19) (cks_at k_TownR_beginTold 8 rfl rfl) rfl
abbrev E_TownR_read (d : Nat) : Ev := (Ct (d + 128), "BreathTown$TownReader", prog_10_method_2_code, 3, False, 0, (fun _ => 0), (Option.some Jvm.ClassFile.FieldType.int))
def f_TownR_read_J133 (kH : Int → Mm → Option (Int × Mm)) (kx158 : Mm → Option (Int × Mm)) (kx32 : Int → Mm → Option (Int × Mm)) (kx40 : Mm → Option (Int × Mm)) (v1 s0 : Int) (M : Mm) : Option (Int × Mm) :=
  if i32 s0 = 0 then
    some ((-1), M)
  else
    bI (f_Scan_needSign 59 M) (fun r14 M13 =>
    if ¬ i32 r14 = 0 then
      kH (v1 + 1) M13
    else
      some ((-1), M13))
set_option maxRecDepth 20000 in
set_option maxHeartbeats 4000000 in
theorem w_TownR_read_J133 (d : Nat) (kH : Int → Mm → Option (Int × Mm)) (kx158 : Mm → Option (Int × Mm)) (kx32 : Int → Mm → Option (Int × Mm)) (kx40 : Mm → Option (Int × Mm)) (hkH : ∀ (v1 : Int) (M : Mm), T (E_TownR_read d) injI 16 [(0, .ref 37), (1, vI v1)] [] M (kH v1 M)) (hkx158 : ∀  (M : Mm), T (E_TownR_read d) injI 158 [] [] M (kx158 M)) (hkx32 : ∀ (v1 : Int) (M : Mm), T (E_TownR_read d) injI 32 [(1, vI v1)] [] M (kx32 v1 M)) (hkx40 : ∀  (M : Mm), T (E_TownR_read d) injI 40 [(0, .ref 37)] [] M (kx40 M)) (v1 s0 : Int) (M : Mm) : T (E_TownR_read d) injI 133 [(0, .ref 37), (1, vI v1)] [vI s0] M (f_TownR_read_J133 kH kx158 kx32 kx40 v1 s0 M) := by
  unfold f_TownR_read_J133
  refine tq_istore_n (E := E_TownR_read d) (pc := 133) (cks_at k_TownR_read 64 rfl rfl) (show 2 < 3 by decide) rfl ?_
  refine tq_iload_n 0 (E := E_TownR_read d) (pc := 134) (cks_at k_TownR_read 65 rfl rfl) rfl ?_
  refine tq_if_eq (E := E_TownR_read d) (pc := 135) (tgt := 150) (cks_at k_TownR_read 66 rfl rfl) (by decide) ?_ ?_
  · refine tq_iconst (E := E_TownR_read d) (pc := 150) (cks_at k_TownR_read 72 rfl rfl) ?_
    exact tq_iret (E := E_TownR_read d) (pc := 151) (cks_at k_TownR_read 73 rfl rfl) rfl
  · refine tq_aload_n 1 (E := E_TownR_read d) (pc := 138) (cks_at k_TownR_read 67 rfl rfl) rfl ?_
    refine tq_getR (j := 1) (E := E_TownR_read d) (pc := 139) (cks_at k_TownR_read 68 rfl rfl) fo_TownR_9 so_37 rfl sp_37_0 ?_
    refine tq_bipush (E := E_TownR_read d) (pc := 142) (cks_at k_TownR_read 69 rfl rfl) (by decide) (by decide) ?_
    refine tq_V1 (E := E_TownR_read d) (pc := 144) (cks_at k_TownR_read 70 rfl rfl) mk_Scan_needSign lk_TownR_75 rc_1 (Nat.le_of_ble_eq_true rfl) (c_Scan_needSign (d + 125) 59 M) (k_I fun r14 M13 => ?_)
    refine tq_if_ne (E := E_TownR_read d) (pc := 147) (tgt := 152) (cks_at k_TownR_read 71 rfl rfl) (by decide) ?_ ?_
    · refine tq_iinc 2 (E := E_TownR_read d) (pc := 152) (cks_at k_TownR_read 74 rfl rfl) rfl (show 1 < 3 by decide) rfl ?_
      refine tq_goto (tgt := 16) (E := E_TownR_read d) (pc := 155) (cks_at k_TownR_read 75 rfl rfl) (by decide) ?_
      exact tq_sub [2, 0] rfl (hkH (v1 + 1) M13)
    · refine tq_iconst (E := E_TownR_read d) (pc := 150) (cks_at k_TownR_read 72 rfl rfl) ?_
      exact tq_iret (E := E_TownR_read d) (pc := 151) (cks_at k_TownR_read 73 rfl rfl) rfl
def f_TownR_read_B16 (kH : Int → Mm → Option (Int × Mm)) (kx158 : Mm → Option (Int × Mm)) (kx32 : Int → Mm → Option (Int × Mm)) (kx40 : Mm → Option (Int × Mm)) (v1 : Int) (M : Mm) : Option (Int × Mm) :=
  if i32 70 < i32 v1 then
    kx158 M
  else
    bI (f_Scan_atEnd M) (fun r4 M3 =>
    if i32 r4 = 0 then
      if ¬ i32 v1 = i32 70 then
        bI (f_Scan_atWord 0 M3) (fun r6 M5 =>
        if i32 r6 = 0 then
          bI (f_Scan_atWord 2 M5) (fun r8 M7 =>
          if i32 r8 = 0 then
            bI (f_Scan_atWord 17 M7) (fun r10 M9 =>
            if i32 r10 = 0 then
              bI (f_TownR_beginTold M9) (fun r12 M11 =>
              f_TownR_read_J133 kH kx158 kx32 kx40 v1 r12 M11)
            else
              bI (f_TownR_walkerTold M9) (fun r16 M15 =>
              f_TownR_read_J133 kH kx158 kx32 kx40 v1 r16 M15))
          else
            bI (f_TownR_streetTold M7) (fun r18 M17 =>
            f_TownR_read_J133 kH kx158 kx32 kx40 v1 r18 M17))
        else
          bI (f_TownR_newName 0 0 9 M5) (fun r20 M19 =>
          if i32 r20 = i32 ((-1)) then
            f_TownR_read_J133 kH kx158 kx32 kx40 v1 0 M19
          else
            f_TownR_read_J133 kH kx158 kx32 kx40 v1 1 M19))
      else
        kx40 M3
    else
      kx32 v1 M3)
set_option maxRecDepth 20000 in
set_option maxHeartbeats 4000000 in
theorem w_TownR_read_B16 (d : Nat) (kH : Int → Mm → Option (Int × Mm)) (kx158 : Mm → Option (Int × Mm)) (kx32 : Int → Mm → Option (Int × Mm)) (kx40 : Mm → Option (Int × Mm)) (hkH : ∀ (v1 : Int) (M : Mm), T (E_TownR_read d) injI 16 [(0, .ref 37), (1, vI v1)] [] M (kH v1 M)) (hkx158 : ∀  (M : Mm), T (E_TownR_read d) injI 158 [] [] M (kx158 M)) (hkx32 : ∀ (v1 : Int) (M : Mm), T (E_TownR_read d) injI 32 [(1, vI v1)] [] M (kx32 v1 M)) (hkx40 : ∀  (M : Mm), T (E_TownR_read d) injI 40 [(0, .ref 37)] [] M (kx40 M)) (v1 : Int) (M : Mm) : T (E_TownR_read d) injI 16 [(0, .ref 37), (1, vI v1)] [] M (f_TownR_read_B16 kH kx158 kx32 kx40 v1 M) := by
  unfold f_TownR_read_B16
  refine tq_iload_n 1 (E := E_TownR_read d) (pc := 16) (cks_at k_TownR_read 8 rfl rfl) rfl ?_
  refine tq_bipush (E := E_TownR_read d) (pc := 17) (cks_at k_TownR_read 9 rfl rfl) (by decide) (by decide) ?_
  refine tq_icmp_gt (E := E_TownR_read d) (pc := 19) (tgt := 158) (cks_at k_TownR_read 10 rfl rfl) (by decide) ?_ ?_
  · exact tq_sub [] rfl (hkx158 M)
  · refine tq_aload_n 0 (E := E_TownR_read d) (pc := 22) (cks_at k_TownR_read 11 rfl rfl) rfl ?_
    refine tq_getR (j := 1) (E := E_TownR_read d) (pc := 23) (cks_at k_TownR_read 12 rfl rfl) fo_TownR_9 so_37 rfl sp_37_0 ?_
    refine tq_V0 (E := E_TownR_read d) (pc := 26) (cks_at k_TownR_read 13 rfl rfl) mk_Scan_atEnd lk_TownR_41 rc_1 (Nat.le_of_ble_eq_true rfl) (c_Scan_atEnd (d + 126) M) (k_I fun r4 M3 => ?_)
    refine tq_if_eq (E := E_TownR_read d) (pc := 29) (tgt := 34) (cks_at k_TownR_read 14 rfl rfl) (by decide) ?_ ?_
    · refine tq_iload_n 1 (E := E_TownR_read d) (pc := 34) (cks_at k_TownR_read 17 rfl rfl) rfl ?_
      refine tq_bipush (E := E_TownR_read d) (pc := 35) (cks_at k_TownR_read 18 rfl rfl) (by decide) (by decide) ?_
      refine tq_icmp_ne (E := E_TownR_read d) (pc := 37) (tgt := 58) (cks_at k_TownR_read 19 rfl rfl) (by decide) ?_ ?_
      · refine tq_aload_n 0 (E := E_TownR_read d) (pc := 58) (cks_at k_TownR_read 30 rfl rfl) rfl ?_
        refine tq_getR (j := 1) (E := E_TownR_read d) (pc := 59) (cks_at k_TownR_read 31 rfl rfl) fo_TownR_9 so_37 rfl sp_37_0 ?_
        refine tq_ldcS (j := 0) (s := 0) (E := E_TownR_read d) (pc := 62) (cks_at k_TownR_read 32 rfl rfl) rfl ?_
        refine tq_V1 (E := E_TownR_read d) (pc := 64) (cks_at k_TownR_read 33 rfl rfl) mk_Scan_atWord lk_TownR_54 rc_1 (Nat.le_of_ble_eq_true rfl) (c_Scan_atWord (d + 123) 0 (by decide) M3) (k_I fun r6 M5 => ?_)
        refine tq_if_eq (E := E_TownR_read d) (pc := 67) (tgt := 91) (cks_at k_TownR_read 34 rfl rfl) (by decide) ?_ ?_
        · refine tq_aload_n 0 (E := E_TownR_read d) (pc := 91) (cks_at k_TownR_read 46 rfl rfl) rfl ?_
          refine tq_getR (j := 1) (E := E_TownR_read d) (pc := 92) (cks_at k_TownR_read 47 rfl rfl) fo_TownR_9 so_37 rfl sp_37_0 ?_
          refine tq_ldcS (j := 2) (s := 2) (E := E_TownR_read d) (pc := 95) (cks_at k_TownR_read 48 rfl rfl) rfl ?_
          refine tq_V1 (E := E_TownR_read d) (pc := 97) (cks_at k_TownR_read 49 rfl rfl) mk_Scan_atWord lk_TownR_54 rc_1 (Nat.le_of_ble_eq_true rfl) (c_Scan_atWord (d + 123) 2 (by decide) M5) (k_I fun r8 M7 => ?_)
          refine tq_if_eq (E := E_TownR_read d) (pc := 100) (tgt := 110) (cks_at k_TownR_read 50 rfl rfl) (by decide) ?_ ?_
          · refine tq_aload_n 0 (E := E_TownR_read d) (pc := 110) (cks_at k_TownR_read 54 rfl rfl) rfl ?_
            refine tq_getR (j := 1) (E := E_TownR_read d) (pc := 111) (cks_at k_TownR_read 55 rfl rfl) fo_TownR_9 so_37 rfl sp_37_0 ?_
            refine tq_ldcS (j := 18) (s := 17) (E := E_TownR_read d) (pc := 114) (cks_at k_TownR_read 56 rfl rfl) rfl ?_
            refine tq_V1 (E := E_TownR_read d) (pc := 116) (cks_at k_TownR_read 57 rfl rfl) mk_Scan_atWord lk_TownR_54 rc_1 (Nat.le_of_ble_eq_true rfl) (c_Scan_atWord (d + 123) 17 (by decide) M7) (k_I fun r10 M9 => ?_)
            refine tq_if_eq (E := E_TownR_read d) (pc := 119) (tgt := 129) (cks_at k_TownR_read 58 rfl rfl) (by decide) ?_ ?_
            · refine tq_aload_n 0 (E := E_TownR_read d) (pc := 129) (cks_at k_TownR_read 62 rfl rfl) rfl ?_
              refine tq_V0 (E := E_TownR_read d) (pc := 130) (cks_at k_TownR_read 63 rfl rfl) mk_TownR_beginTold lk_TownR_72 rc_37 (Nat.le_of_ble_eq_true rfl) (c_TownR_beginTold (d + 121) M9) (k_I fun r12 M11 => ?_)
              exact tq_sub [0, 1] rfl (w_TownR_read_J133 d kH kx158 kx32 kx40 hkH hkx158 hkx32 hkx40 v1 r12 M11)
            · refine tq_aload_n 0 (E := E_TownR_read d) (pc := 122) (cks_at k_TownR_read 59 rfl rfl) rfl ?_
              refine tq_V0 (E := E_TownR_read d) (pc := 123) (cks_at k_TownR_read 60 rfl rfl) mk_TownR_walkerTold lk_TownR_69 rc_37 (Nat.le_of_ble_eq_true rfl) (c_TownR_walkerTold (d + 120) M9) (k_I fun r16 M15 => ?_)
              refine tq_goto (tgt := 133) (E := E_TownR_read d) (pc := 126) (cks_at k_TownR_read 61 rfl rfl) (by decide) ?_
              exact tq_sub [0, 1] rfl (w_TownR_read_J133 d kH kx158 kx32 kx40 hkH hkx158 hkx32 hkx40 v1 r16 M15)
          · refine tq_aload_n 0 (E := E_TownR_read d) (pc := 103) (cks_at k_TownR_read 51 rfl rfl) rfl ?_
            refine tq_V0 (E := E_TownR_read d) (pc := 104) (cks_at k_TownR_read 52 rfl rfl) mk_TownR_streetTold lk_TownR_64 rc_37 (Nat.le_of_ble_eq_true rfl) (c_TownR_streetTold (d + 0) M7) (k_I fun r18 M17 => ?_)
            refine tq_goto (tgt := 133) (E := E_TownR_read d) (pc := 107) (cks_at k_TownR_read 53 rfl rfl) (by decide) ?_
            exact tq_sub [0, 1] rfl (w_TownR_read_J133 d kH kx158 kx32 kx40 hkH hkx158 hkx32 hkx40 v1 r18 M17)
        · refine tq_aload_n 0 (E := E_TownR_read d) (pc := 70) (cks_at k_TownR_read 35 rfl rfl) rfl ?_
          refine tq_ldcS (j := 0) (s := 0) (E := E_TownR_read d) (pc := 71) (cks_at k_TownR_read 36 rfl rfl) rfl ?_
          refine tq_iconst (E := E_TownR_read d) (pc := 73) (cks_at k_TownR_read 37 rfl rfl) ?_
          refine tq_bipush (E := E_TownR_read d) (pc := 74) (cks_at k_TownR_read 38 rfl rfl) (by decide) (by decide) ?_
          refine tq_V3 (E := E_TownR_read d) (pc := 76) (cks_at k_TownR_read 39 rfl rfl) mk_TownR_newName lk_TownR_58 rc_37 (Nat.le_of_ble_eq_true rfl) (c_TownR_newName (d + 121) 0 (by decide) 0 9 M5) (k_I fun r20 M19 => ?_)
          refine tq_iconst (E := E_TownR_read d) (pc := 79) (cks_at k_TownR_read 40 rfl rfl) ?_
          refine tq_icmp_eq (E := E_TownR_read d) (pc := 80) (tgt := 87) (cks_at k_TownR_read 41 rfl rfl) (by decide) ?_ ?_
          · refine tq_iconst (E := E_TownR_read d) (pc := 87) (cks_at k_TownR_read 44 rfl rfl) ?_
            refine tq_goto (tgt := 133) (E := E_TownR_read d) (pc := 88) (cks_at k_TownR_read 45 rfl rfl) (by decide) ?_
            exact tq_sub [0, 1] rfl (w_TownR_read_J133 d kH kx158 kx32 kx40 hkH hkx158 hkx32 hkx40 v1 0 M19)
          · refine tq_iconst (E := E_TownR_read d) (pc := 83) (cks_at k_TownR_read 42 rfl rfl) ?_
            refine tq_goto (tgt := 133) (E := E_TownR_read d) (pc := 84) (cks_at k_TownR_read 43 rfl rfl) (by decide) ?_
            exact tq_sub [0, 1] rfl (w_TownR_read_J133 d kH kx158 kx32 kx40 hkH hkx158 hkx32 hkx40 v1 1 M19)
      · exact tq_sub [0] rfl (hkx40 M3)
    · exact tq_sub [1] rfl (hkx32 v1 M3)
def f_TownR_read_L16 (kx158 : Mm → Option (Int × Mm)) (kx32 : Int → Mm → Option (Int × Mm)) (kx40 : Mm → Option (Int × Mm)) : Nat → Int × Mm → Option (Int × Mm) := lp fun kH s => f_TownR_read_B16 (fun v1 M => kH (v1, M)) kx158 kx32 kx40 s.1 s.2
set_option maxRecDepth 20000 in
set_option maxHeartbeats 4000000 in
theorem w_TownR_read_L16 (d : Nat) (kx158 : Mm → Option (Int × Mm)) (kx32 : Int → Mm → Option (Int × Mm)) (kx40 : Mm → Option (Int × Mm)) (hkx158 : ∀  (M : Mm), T (E_TownR_read d) injI 158 [] [] M (kx158 M)) (hkx32 : ∀ (v1 : Int) (M : Mm), T (E_TownR_read d) injI 32 [(1, vI v1)] [] M (kx32 v1 M)) (hkx40 : ∀  (M : Mm), T (E_TownR_read d) injI 40 [(0, .ref 37)] [] M (kx40 M)) (n : Nat) (s : Int × Mm) : T (E_TownR_read d) injI 16 [(0, .ref 37), (1, vI s.1)] [] s.2 (f_TownR_read_L16 kx158 kx32 kx40 n s) :=
  tq_lp (fun s => [(0, .ref 37), (1, vI s.1)]) (fun s => s.2) (fun kH hH s => w_TownR_read_B16 d (fun v1 M => kH (v1, M)) kx158 kx32 kx40 (fun v1 M => hH (v1, M)) hkx158 hkx32 hkx40 s.1 s.2) n s
def f_TownR_read (M : Mm) : Option (Int × Mm) :=
  bV (f_Scan_start M) (fun M1 =>
  bV (f_Told_clear 20 M1) (fun M2 =>
  f_TownR_read_L16 (fun M21 => some ((-1), M21)) (fun v1 M22 => some (v1, M22)) (fun M23 => bI (f_Scan_fail 5 (M23 1 2) M23) (fun r25 M24 =>
      some ((-1), M24))) FU (0, M2)))
set_option maxRecDepth 20000 in
set_option maxHeartbeats 4000000 in
theorem c_TownR_read (d : Nat) (M : Mm) (Q : Option Value → Mm → Prop) (h : sat injI (f_TownR_read M) Q) : Ct (d + 129) y_TownR_read [.ref 37] M Q := by
  refine ct_in (d := d + 128) mk_TownR_read (Nat.le_of_ble_eq_true rfl) (?_ : T (E_TownR_read d) injI 0 [(0, .ref 37)] [] M (f_TownR_read M)) h
  unfold f_TownR_read
  refine tq_aload_n 0 (E := E_TownR_read d) (pc := 0) (cks_at k_TownR_read 0 rfl rfl) rfl ?_
  refine tq_getR (j := 1) (E := E_TownR_read d) (pc := 1) (cks_at k_TownR_read 1 rfl rfl) fo_TownR_9 so_37 rfl sp_37_0 ?_
  refine tq_V0 (E := E_TownR_read d) (pc := 4) (cks_at k_TownR_read 2 rfl rfl) mk_Scan_start lk_TownR_33 rc_1 (Nat.le_of_ble_eq_true rfl) (c_Scan_start (d + 127) M) (k_V fun M1 => ?_)
  refine tq_aload_n 0 (E := E_TownR_read d) (pc := 7) (cks_at k_TownR_read 3 rfl rfl) rfl ?_
  refine tq_getR (j := 20) (E := E_TownR_read d) (pc := 8) (cks_at k_TownR_read 4 rfl rfl) fo_TownR_15 so_37 rfl sp_37_1 ?_
  refine tq_V0 (E := E_TownR_read d) (pc := 11) (cks_at k_TownR_read 5 rfl rfl) mk_Told_clear lk_TownR_38 (isTold_rc (Or.inr rfl)) (Nat.le_of_ble_eq_true rfl) (c_Told_clear (d + 126) 20 (Or.inr rfl) M1) (k_V fun M2 => ?_)
  refine tq_iconst (E := E_TownR_read d) (pc := 14) (cks_at k_TownR_read 6 rfl rfl) ?_
  refine tq_istore_n (E := E_TownR_read d) (pc := 15) (cks_at k_TownR_read 7 rfl rfl) (show 1 < 3 by decide) rfl ?_
  exact tq_sub [1, 0] rfl (w_TownR_read_L16 d _ _ _ (fun M21 => by
      refine tq_iconst (E := E_TownR_read d) (pc := 158) (cks_at k_TownR_read 76 rfl rfl) ?_
      exact tq_iret (E := E_TownR_read d) (pc := 159) (cks_at k_TownR_read 77 rfl rfl) rfl) (fun v1 M22 => by
      refine tq_iload_n 0 (E := E_TownR_read d) (pc := 32) (cks_at k_TownR_read 15 rfl rfl) rfl ?_
      exact tq_iret (E := E_TownR_read d) (pc := 33) (cks_at k_TownR_read 16 rfl rfl) rfl) (fun M23 => by
      refine tq_aload_n 0 (E := E_TownR_read d) (pc := 40) (cks_at k_TownR_read 20 rfl rfl) rfl ?_
      refine tq_getR (j := 1) (E := E_TownR_read d) (pc := 41) (cks_at k_TownR_read 21 rfl rfl) fo_TownR_9 so_37 rfl sp_37_0 ?_
      refine tq_iconst (E := E_TownR_read d) (pc := 44) (cks_at k_TownR_read 22 rfl rfl) ?_
      refine tq_aload_n 0 (E := E_TownR_read d) (pc := 45) (cks_at k_TownR_read 23 rfl rfl) rfl ?_
      refine tq_getR (j := 1) (E := E_TownR_read d) (pc := 46) (cks_at k_TownR_read 24 rfl rfl) fo_TownR_9 so_37 rfl sp_37_0 ?_
      refine tq_getI (E := E_TownR_read d) (pc := 49) (cks_at k_TownR_read 25 rfl rfl) fo_TownR_45 so_1 rfl (by decide) ?_
      refine tq_V2 (E := E_TownR_read d) (pc := 52) (cks_at k_TownR_read 26 rfl rfl) mk_Scan_fail lk_TownR_49 rc_1 (Nat.le_of_ble_eq_true rfl) (c_Scan_fail (d + 127) 5 (M23 1 2) M23) (k_I fun r25 M24 => ?_)
      refine tq_pop (E := E_TownR_read d) (pc := 55) (cks_at k_TownR_read 27 rfl rfl) rfl ?_
      refine tq_iconst (E := E_TownR_read d) (pc := 56) (cks_at k_TownR_read 28 rfl rfl) ?_
      exact tq_iret (E := E_TownR_read d) (pc := 57) (cks_at k_TownR_read 29 rfl rfl) rfl) FU (0, M2))
abbrev E_Code_copy (d : Nat) : Ev := (Ct (d + 1), "BreathTown$Code", prog_2_method_5_code, 3, False, 0, (fun _ => 0), (Option.none : Option Jvm.ClassFile.FieldType))
def f_Code_copy_B18 (this : Nat) (o1 : Nat) (kH : Int → Mm → Option (Mm)) (kx48 : Mm → Option (Mm)) (v2 : Int) (M : Mm) : Option (Mm) :=
  if i32 (M this 3) ≤ i32 v2 then
    kx48 M
  else
    bI (f_BT_cell (ptr o1 0) v2 M) (fun r4 M3 =>
    bV (f_BT_setCell (ptr this 0) v2 r4 M3) (fun M5 =>
    kH (v2 + 1) M5))
set_option maxRecDepth 20000 in
set_option maxHeartbeats 4000000 in
theorem w_Code_copy_B18 (d : Nat) (this : Nat) (o1 : Nat) (hthis : isCode this) (ho1 : isCode o1) (kH : Int → Mm → Option (Mm)) (kx48 : Mm → Option (Mm)) (hkH : ∀ (v2 : Int) (M : Mm), T (E_Code_copy d) injV 18 [(0, .ref this), (1, .ref o1), (2, vI v2)] [] M (kH v2 M)) (hkx48 : ∀  (M : Mm), T (E_Code_copy d) injV 48 [] [] M (kx48 M)) (v2 : Int) (M : Mm) : T (E_Code_copy d) injV 18 [(0, .ref this), (1, .ref o1), (2, vI v2)] [] M (f_Code_copy_B18 this o1 kH kx48 v2 M) := by
  unfold f_Code_copy_B18
  refine tq_iload_n 2 (E := E_Code_copy d) (pc := 18) (cks_at k_Code_copy 10 rfl rfl) rfl ?_
  refine tq_aload_n 0 (E := E_Code_copy d) (pc := 19) (cks_at k_Code_copy 11 rfl rfl) rfl ?_
  refine tq_getI (E := E_Code_copy d) (pc := 20) (cks_at k_Code_copy 12 rfl rfl) fo_Code_21 (isCode_ok hthis) rfl (by decide) ?_
  refine tq_icmp_ge (E := E_Code_copy d) (pc := 23) (tgt := 48) (cks_at k_Code_copy 13 rfl rfl) (by decide) ?_ ?_
  · exact tq_sub [] rfl (hkx48 M)
  · refine tq_aload_n 0 (E := E_Code_copy d) (pc := 26) (cks_at k_Code_copy 14 rfl rfl) rfl ?_
    refine tq_getR (j := ptr this 0) (E := E_Code_copy d) (pc := 27) (cks_at k_Code_copy 15 rfl rfl) fo_Code_9 (isCode_ok hthis) rfl rfl ?_
    refine tq_iload_n 2 (E := E_Code_copy d) (pc := 30) (cks_at k_Code_copy 16 rfl rfl) rfl ?_
    refine tq_aload_n 1 (E := E_Code_copy d) (pc := 31) (cks_at k_Code_copy 17 rfl rfl) rfl ?_
    refine tq_getR (j := ptr o1 0) (E := E_Code_copy d) (pc := 32) (cks_at k_Code_copy 18 rfl rfl) fo_Code_9 (isCode_ok ho1) rfl rfl ?_
    refine tq_iload_n 2 (E := E_Code_copy d) (pc := 35) (cks_at k_Code_copy 19 rfl rfl) rfl ?_
    refine tq_S2 (E := E_Code_copy d) (pc := 36) (cks_at k_Code_copy 20 rfl rfl) mk_BT_cell lk_Code_28 (Nat.le_of_ble_eq_true rfl) (c_BT_cell (d + 0) (ptr o1 0) (sa_Code_0 ho1) v2 M) (k_I fun r4 M3 => ?_)
    refine tq_S3 (E := E_Code_copy d) (pc := 39) (cks_at k_Code_copy 21 rfl rfl) mk_BT_setCell lk_Code_32 (Nat.le_of_ble_eq_true rfl) (c_BT_setCell (d + 0) (ptr this 0) (sa_Code_0 hthis) v2 r4 M3) (k_V fun M5 => ?_)
    refine tq_iinc 2 (E := E_Code_copy d) (pc := 42) (cks_at k_Code_copy 22 rfl rfl) rfl (show 2 < 3 by decide) rfl ?_
    refine tq_goto (tgt := 18) (E := E_Code_copy d) (pc := 45) (cks_at k_Code_copy 23 rfl rfl) (by decide) ?_
    exact tq_sub [1, 2, 0] rfl (hkH (v2 + 1) M5)
def f_Code_copy_L18 (this : Nat) (o1 : Nat) (kx48 : Mm → Option (Mm)) : Nat → Int × Mm → Option (Mm) := lp fun kH s => f_Code_copy_B18 this o1 (fun v2 M => kH (v2, M)) kx48 s.1 s.2
set_option maxRecDepth 20000 in
set_option maxHeartbeats 4000000 in
theorem w_Code_copy_L18 (d : Nat) (this : Nat) (o1 : Nat) (hthis : isCode this) (ho1 : isCode o1) (kx48 : Mm → Option (Mm)) (hkx48 : ∀  (M : Mm), T (E_Code_copy d) injV 48 [] [] M (kx48 M)) (n : Nat) (s : Int × Mm) : T (E_Code_copy d) injV 18 [(0, .ref this), (1, .ref o1), (2, vI s.1)] [] s.2 (f_Code_copy_L18 this o1 kx48 n s) :=
  tq_lp (fun s => [(0, .ref this), (1, .ref o1), (2, vI s.1)]) (fun s => s.2) (fun kH hH s => w_Code_copy_B18 d this o1 hthis ho1 (fun v2 M => kH (v2, M)) kx48 (fun v2 M => hH (v2, M)) hkx48 s.1 s.2) n s
def f_Code_copy (this : Nat) (o1 : Nat) (M : Mm) : Option (Mm) :=
  bd (up M this 3 (M o1 3)) (fun M1 =>
  bd (up M1 this 4 (M1 o1 4)) (fun M2 =>
  f_Code_copy_L18 this o1 (fun M6 => some M6) FU (0, M2)))
set_option maxRecDepth 20000 in
set_option maxHeartbeats 4000000 in
theorem c_Code_copy (d : Nat) (this : Nat) (hthis : isCode this) (o1 : Nat) (ho1 : isCode o1) (M : Mm) (Q : Option Value → Mm → Prop) (h : sat injV (f_Code_copy this o1 M) Q) : Ct (d + 2) y_Code_copy [.ref this, .ref o1] M Q := by
  refine ct_in (d := d + 1) mk_Code_copy (Nat.le_of_ble_eq_true rfl) (?_ : T (E_Code_copy d) injV 0 [(0, .ref this), (1, .ref o1)] [] M (f_Code_copy this o1 M)) h
  unfold f_Code_copy
  refine tq_aload_n 0 (E := E_Code_copy d) (pc := 0) (cks_at k_Code_copy 0 rfl rfl) rfl ?_
  refine tq_aload_n 1 (E := E_Code_copy d) (pc := 1) (cks_at k_Code_copy 1 rfl rfl) rfl ?_
  refine tq_getI (E := E_Code_copy d) (pc := 2) (cks_at k_Code_copy 2 rfl rfl) fo_Code_21 (isCode_ok ho1) rfl (by decide) ?_
  refine tq_putI (E := E_Code_copy d) (pc := 5) (cks_at k_Code_copy 3 rfl rfl) fo_Code_21 (isCode_ok hthis) rfl po_0_3 (fun M1 => ?_)
  refine tq_aload_n 0 (E := E_Code_copy d) (pc := 8) (cks_at k_Code_copy 4 rfl rfl) rfl ?_
  refine tq_aload_n 1 (E := E_Code_copy d) (pc := 9) (cks_at k_Code_copy 5 rfl rfl) rfl ?_
  refine tq_getI (E := E_Code_copy d) (pc := 10) (cks_at k_Code_copy 6 rfl rfl) fo_Code_25 (isCode_ok ho1) rfl (by decide) ?_
  refine tq_putI (E := E_Code_copy d) (pc := 13) (cks_at k_Code_copy 7 rfl rfl) fo_Code_25 (isCode_ok hthis) rfl po_0_4 (fun M2 => ?_)
  refine tq_iconst (E := E_Code_copy d) (pc := 16) (cks_at k_Code_copy 8 rfl rfl) ?_
  refine tq_istore_n (E := E_Code_copy d) (pc := 17) (cks_at k_Code_copy 9 rfl rfl) (show 2 < 3 by decide) rfl ?_
  exact tq_sub [1, 2, 0] rfl (w_Code_copy_L18 d this o1 hthis ho1 _ (fun M6 => by
      exact tq_vret (E := E_Code_copy d) (pc := 48) (cks_at k_Code_copy 24 rfl rfl) rfl) FU (0, M2))
abbrev E_Told_copy (d : Nat) : Ev := (Ct (d + 2), "BreathTown$Told", prog_9_method_3_code, 2, False, 0, (fun _ => 0), (Option.none : Option Jvm.ClassFile.FieldType))
def f_Told_copy (this : Nat) (o1 : Nat) (M : Mm) : Option (Mm) :=
  bV (f_BT_copyAll (ptr o1 0) (ptr this 0) M) (fun M1 =>
  bV (f_BT_copyAll (ptr o1 1) (ptr this 1) M1) (fun M2 =>
  bV (f_BT_copyAll (ptr o1 2) (ptr this 2) M2) (fun M3 =>
  bV (f_BT_copyAll (ptr o1 3) (ptr this 3) M3) (fun M4 =>
  bV (f_BT_copyAll (ptr o1 4) (ptr this 4) M4) (fun M5 =>
  bV (f_BT_copyAll (ptr o1 5) (ptr this 5) M5) (fun M6 =>
  bV (f_BT_copyAll (ptr o1 6) (ptr this 6) M6) (fun M7 =>
  bV (f_BT_copyAll (ptr o1 7) (ptr this 7) M7) (fun M8 =>
  bV (f_BT_copyAll (ptr o1 8) (ptr this 8) M8) (fun M9 =>
  bV (f_BT_copyAll (ptr o1 9) (ptr this 9) M9) (fun M10 =>
  bV (f_BT_copyAll (ptr o1 10) (ptr this 10) M10) (fun M11 =>
  bV (f_BT_copyAll (ptr o1 11) (ptr this 11) M11) (fun M12 =>
  bV (f_Code_copy (ptr this 12) (ptr o1 12) M12) (fun M13 =>
  bd (up M13 this 13 (M13 o1 13)) (fun M14 =>
  some M14))))))))))))))
set_option maxRecDepth 20000 in
set_option maxHeartbeats 4000000 in
theorem c_Told_copy (d : Nat) (this : Nat) (hthis : isTold this) (o1 : Nat) (ho1 : isTold o1) (M : Mm) (Q : Option Value → Mm → Prop) (h : sat injV (f_Told_copy this o1 M) Q) : Ct (d + 3) y_Told_copy [.ref this, .ref o1] M Q := by
  refine ct_in (d := d + 2) mk_Told_copy (Nat.le_of_ble_eq_true rfl) (?_ : T (E_Told_copy d) injV 0 [(0, .ref this), (1, .ref o1)] [] M (f_Told_copy this o1 M)) h
  unfold f_Told_copy
  refine tq_aload_n 1 (E := E_Told_copy d) (pc := 0) (cks_at k_Told_copy 0 rfl rfl) rfl ?_
  refine tq_getR (j := ptr o1 0) (E := E_Told_copy d) (pc := 1) (cks_at k_Told_copy 1 rfl rfl) fo_Told_9 (isTold_ok ho1) rfl rfl ?_
  refine tq_aload_n 0 (E := E_Told_copy d) (pc := 4) (cks_at k_Told_copy 2 rfl rfl) rfl ?_
  refine tq_getR (j := ptr this 0) (E := E_Told_copy d) (pc := 5) (cks_at k_Told_copy 3 rfl rfl) fo_Told_9 (isTold_ok hthis) rfl rfl ?_
  refine tq_S2 (E := E_Told_copy d) (pc := 8) (cks_at k_Told_copy 4 rfl rfl) mk_BT_copyAll lk_Told_66 (Nat.le_of_ble_eq_true rfl) (c_BT_copyAll (d + 1) (ptr o1 0) (sa_Told_0 ho1) (ptr this 0) (sa_Told_0 hthis) M) (k_V fun M1 => ?_)
  refine tq_aload_n 1 (E := E_Told_copy d) (pc := 11) (cks_at k_Told_copy 5 rfl rfl) rfl ?_
  refine tq_getR (j := ptr o1 1) (E := E_Told_copy d) (pc := 12) (cks_at k_Told_copy 6 rfl rfl) fo_Told_15 (isTold_ok ho1) rfl rfl ?_
  refine tq_aload_n 0 (E := E_Told_copy d) (pc := 15) (cks_at k_Told_copy 7 rfl rfl) rfl ?_
  refine tq_getR (j := ptr this 1) (E := E_Told_copy d) (pc := 16) (cks_at k_Told_copy 8 rfl rfl) fo_Told_15 (isTold_ok hthis) rfl rfl ?_
  refine tq_S2 (E := E_Told_copy d) (pc := 19) (cks_at k_Told_copy 9 rfl rfl) mk_BT_copyAll lk_Told_66 (Nat.le_of_ble_eq_true rfl) (c_BT_copyAll (d + 1) (ptr o1 1) (sa_Told_1 ho1) (ptr this 1) (sa_Told_1 hthis) M1) (k_V fun M2 => ?_)
  refine tq_aload_n 1 (E := E_Told_copy d) (pc := 22) (cks_at k_Told_copy 10 rfl rfl) rfl ?_
  refine tq_getR (j := ptr o1 2) (E := E_Told_copy d) (pc := 23) (cks_at k_Told_copy 11 rfl rfl) fo_Told_18 (isTold_ok ho1) rfl rfl ?_
  refine tq_aload_n 0 (E := E_Told_copy d) (pc := 26) (cks_at k_Told_copy 12 rfl rfl) rfl ?_
  refine tq_getR (j := ptr this 2) (E := E_Told_copy d) (pc := 27) (cks_at k_Told_copy 13 rfl rfl) fo_Told_18 (isTold_ok hthis) rfl rfl ?_
  refine tq_S2 (E := E_Told_copy d) (pc := 30) (cks_at k_Told_copy 14 rfl rfl) mk_BT_copyAll lk_Told_66 (Nat.le_of_ble_eq_true rfl) (c_BT_copyAll (d + 1) (ptr o1 2) (sa_Told_2 ho1) (ptr this 2) (sa_Told_2 hthis) M2) (k_V fun M3 => ?_)
  refine tq_aload_n 1 (E := E_Told_copy d) (pc := 33) (cks_at k_Told_copy 15 rfl rfl) rfl ?_
  refine tq_getR (j := ptr o1 3) (E := E_Told_copy d) (pc := 34) (cks_at k_Told_copy 16 rfl rfl) fo_Told_21 (isTold_ok ho1) rfl rfl ?_
  refine tq_aload_n 0 (E := E_Told_copy d) (pc := 37) (cks_at k_Told_copy 17 rfl rfl) rfl ?_
  refine tq_getR (j := ptr this 3) (E := E_Told_copy d) (pc := 38) (cks_at k_Told_copy 18 rfl rfl) fo_Told_21 (isTold_ok hthis) rfl rfl ?_
  refine tq_S2 (E := E_Told_copy d) (pc := 41) (cks_at k_Told_copy 19 rfl rfl) mk_BT_copyAll lk_Told_66 (Nat.le_of_ble_eq_true rfl) (c_BT_copyAll (d + 1) (ptr o1 3) (sa_Told_3 ho1) (ptr this 3) (sa_Told_3 hthis) M3) (k_V fun M4 => ?_)
  refine tq_aload_n 1 (E := E_Told_copy d) (pc := 44) (cks_at k_Told_copy 20 rfl rfl) rfl ?_
  refine tq_getR (j := ptr o1 4) (E := E_Told_copy d) (pc := 45) (cks_at k_Told_copy 21 rfl rfl) fo_Told_24 (isTold_ok ho1) rfl rfl ?_
  refine tq_aload_n 0 (E := E_Told_copy d) (pc := 48) (cks_at k_Told_copy 22 rfl rfl) rfl ?_
  refine tq_getR (j := ptr this 4) (E := E_Told_copy d) (pc := 49) (cks_at k_Told_copy 23 rfl rfl) fo_Told_24 (isTold_ok hthis) rfl rfl ?_
  refine tq_S2 (E := E_Told_copy d) (pc := 52) (cks_at k_Told_copy 24 rfl rfl) mk_BT_copyAll lk_Told_66 (Nat.le_of_ble_eq_true rfl) (c_BT_copyAll (d + 1) (ptr o1 4) (sa_Told_4 ho1) (ptr this 4) (sa_Told_4 hthis) M4) (k_V fun M5 => ?_)
  refine tq_aload_n 1 (E := E_Told_copy d) (pc := 55) (cks_at k_Told_copy 25 rfl rfl) rfl ?_
  refine tq_getR (j := ptr o1 5) (E := E_Told_copy d) (pc := 56) (cks_at k_Told_copy 26 rfl rfl) fo_Told_27 (isTold_ok ho1) rfl rfl ?_
  refine tq_aload_n 0 (E := E_Told_copy d) (pc := 59) (cks_at k_Told_copy 27 rfl rfl) rfl ?_
  refine tq_getR (j := ptr this 5) (E := E_Told_copy d) (pc := 60) (cks_at k_Told_copy 28 rfl rfl) fo_Told_27 (isTold_ok hthis) rfl rfl ?_
  refine tq_S2 (E := E_Told_copy d) (pc := 63) (cks_at k_Told_copy 29 rfl rfl) mk_BT_copyAll lk_Told_66 (Nat.le_of_ble_eq_true rfl) (c_BT_copyAll (d + 1) (ptr o1 5) (sa_Told_5 ho1) (ptr this 5) (sa_Told_5 hthis) M5) (k_V fun M6 => ?_)
  refine tq_aload_n 1 (E := E_Told_copy d) (pc := 66) (cks_at k_Told_copy 30 rfl rfl) rfl ?_
  refine tq_getR (j := ptr o1 6) (E := E_Told_copy d) (pc := 67) (cks_at k_Told_copy 31 rfl rfl) fo_Told_30 (isTold_ok ho1) rfl rfl ?_
  refine tq_aload_n 0 (E := E_Told_copy d) (pc := 70) (cks_at k_Told_copy 32 rfl rfl) rfl ?_
  refine tq_getR (j := ptr this 6) (E := E_Told_copy d) (pc := 71) (cks_at k_Told_copy 33 rfl rfl) fo_Told_30 (isTold_ok hthis) rfl rfl ?_
  refine tq_S2 (E := E_Told_copy d) (pc := 74) (cks_at k_Told_copy 34 rfl rfl) mk_BT_copyAll lk_Told_66 (Nat.le_of_ble_eq_true rfl) (c_BT_copyAll (d + 1) (ptr o1 6) (sa_Told_6 ho1) (ptr this 6) (sa_Told_6 hthis) M6) (k_V fun M7 => ?_)
  refine tq_aload_n 1 (E := E_Told_copy d) (pc := 77) (cks_at k_Told_copy 35 rfl rfl) rfl ?_
  refine tq_getR (j := ptr o1 7) (E := E_Told_copy d) (pc := 78) (cks_at k_Told_copy 36 rfl rfl) fo_Told_33 (isTold_ok ho1) rfl rfl ?_
  refine tq_aload_n 0 (E := E_Told_copy d) (pc := 81) (cks_at k_Told_copy 37 rfl rfl) rfl ?_
  refine tq_getR (j := ptr this 7) (E := E_Told_copy d) (pc := 82) (cks_at k_Told_copy 38 rfl rfl) fo_Told_33 (isTold_ok hthis) rfl rfl ?_
  refine tq_S2 (E := E_Told_copy d) (pc := 85) (cks_at k_Told_copy 39 rfl rfl) mk_BT_copyAll lk_Told_66 (Nat.le_of_ble_eq_true rfl) (c_BT_copyAll (d + 1) (ptr o1 7) (sa_Told_7 ho1) (ptr this 7) (sa_Told_7 hthis) M7) (k_V fun M8 => ?_)
  refine tq_aload_n 1 (E := E_Told_copy d) (pc := 88) (cks_at k_Told_copy 40 rfl rfl) rfl ?_
  refine tq_getR (j := ptr o1 8) (E := E_Told_copy d) (pc := 89) (cks_at k_Told_copy 41 rfl rfl) fo_Told_36 (isTold_ok ho1) rfl rfl ?_
  refine tq_aload_n 0 (E := E_Told_copy d) (pc := 92) (cks_at k_Told_copy 42 rfl rfl) rfl ?_
  refine tq_getR (j := ptr this 8) (E := E_Told_copy d) (pc := 93) (cks_at k_Told_copy 43 rfl rfl) fo_Told_36 (isTold_ok hthis) rfl rfl ?_
  refine tq_S2 (E := E_Told_copy d) (pc := 96) (cks_at k_Told_copy 44 rfl rfl) mk_BT_copyAll lk_Told_66 (Nat.le_of_ble_eq_true rfl) (c_BT_copyAll (d + 1) (ptr o1 8) (sa_Told_8 ho1) (ptr this 8) (sa_Told_8 hthis) M8) (k_V fun M9 => ?_)
  refine tq_aload_n 1 (E := E_Told_copy d) (pc := 99) (cks_at k_Told_copy 45 rfl rfl) rfl ?_
  refine tq_getR (j := ptr o1 9) (E := E_Told_copy d) (pc := 100) (cks_at k_Told_copy 46 rfl rfl) fo_Told_39 (isTold_ok ho1) rfl rfl ?_
  refine tq_aload_n 0 (E := E_Told_copy d) (pc := 103) (cks_at k_Told_copy 47 rfl rfl) rfl ?_
  refine tq_getR (j := ptr this 9) (E := E_Told_copy d) (pc := 104) (cks_at k_Told_copy 48 rfl rfl) fo_Told_39 (isTold_ok hthis) rfl rfl ?_
  refine tq_S2 (E := E_Told_copy d) (pc := 107) (cks_at k_Told_copy 49 rfl rfl) mk_BT_copyAll lk_Told_66 (Nat.le_of_ble_eq_true rfl) (c_BT_copyAll (d + 1) (ptr o1 9) (sa_Told_9 ho1) (ptr this 9) (sa_Told_9 hthis) M9) (k_V fun M10 => ?_)
  refine tq_aload_n 1 (E := E_Told_copy d) (pc := 110) (cks_at k_Told_copy 50 rfl rfl) rfl ?_
  refine tq_getR (j := ptr o1 10) (E := E_Told_copy d) (pc := 111) (cks_at k_Told_copy 51 rfl rfl) fo_Told_42 (isTold_ok ho1) rfl rfl ?_
  refine tq_aload_n 0 (E := E_Told_copy d) (pc := 114) (cks_at k_Told_copy 52 rfl rfl) rfl ?_
  refine tq_getR (j := ptr this 10) (E := E_Told_copy d) (pc := 115) (cks_at k_Told_copy 53 rfl rfl) fo_Told_42 (isTold_ok hthis) rfl rfl ?_
  refine tq_S2 (E := E_Told_copy d) (pc := 118) (cks_at k_Told_copy 54 rfl rfl) mk_BT_copyAll lk_Told_66 (Nat.le_of_ble_eq_true rfl) (c_BT_copyAll (d + 1) (ptr o1 10) (sa_Told_10 ho1) (ptr this 10) (sa_Told_10 hthis) M10) (k_V fun M11 => ?_)
  refine tq_aload_n 1 (E := E_Told_copy d) (pc := 121) (cks_at k_Told_copy 55 rfl rfl) rfl ?_
  refine tq_getR (j := ptr o1 11) (E := E_Told_copy d) (pc := 122) (cks_at k_Told_copy 56 rfl rfl) fo_Told_45 (isTold_ok ho1) rfl rfl ?_
  refine tq_aload_n 0 (E := E_Told_copy d) (pc := 125) (cks_at k_Told_copy 57 rfl rfl) rfl ?_
  refine tq_getR (j := ptr this 11) (E := E_Told_copy d) (pc := 126) (cks_at k_Told_copy 58 rfl rfl) fo_Told_45 (isTold_ok hthis) rfl rfl ?_
  refine tq_S2 (E := E_Told_copy d) (pc := 129) (cks_at k_Told_copy 59 rfl rfl) mk_BT_copyAll lk_Told_66 (Nat.le_of_ble_eq_true rfl) (c_BT_copyAll (d + 1) (ptr o1 11) (sa_Told_11 ho1) (ptr this 11) (sa_Told_11 hthis) M11) (k_V fun M12 => ?_)
  refine tq_aload_n 0 (E := E_Told_copy d) (pc := 132) (cks_at k_Told_copy 60 rfl rfl) rfl ?_
  refine tq_getR (j := ptr this 12) (E := E_Told_copy d) (pc := 133) (cks_at k_Told_copy 61 rfl rfl) fo_Told_51 (isTold_ok hthis) rfl rfl ?_
  refine tq_aload_n 1 (E := E_Told_copy d) (pc := 136) (cks_at k_Told_copy 62 rfl rfl) rfl ?_
  refine tq_getR (j := ptr o1 12) (E := E_Told_copy d) (pc := 137) (cks_at k_Told_copy 63 rfl rfl) fo_Told_51 (isTold_ok ho1) rfl rfl ?_
  refine tq_V1 (E := E_Told_copy d) (pc := 140) (cks_at k_Told_copy 64 rfl rfl) mk_Code_copy lk_Told_70 (isCode_rc (sm_Told_12 hthis)) (Nat.le_of_ble_eq_true rfl) (c_Code_copy (d + 0) (ptr this 12) (sm_Told_12 hthis) (ptr o1 12) (sm_Told_12 ho1) M12) (k_V fun M13 => ?_)
  refine tq_aload_n 0 (E := E_Told_copy d) (pc := 143) (cks_at k_Told_copy 65 rfl rfl) rfl ?_
  refine tq_aload_n 1 (E := E_Told_copy d) (pc := 144) (cks_at k_Told_copy 66 rfl rfl) rfl ?_
  refine tq_getI (E := E_Told_copy d) (pc := 145) (cks_at k_Told_copy 67 rfl rfl) fo_Told_62 (isTold_ok ho1) rfl (by decide) ?_
  refine tq_putI (E := E_Told_copy d) (pc := 148) (cks_at k_Told_copy 68 rfl rfl) fo_Told_62 (isTold_ok hthis) rfl po_7_13 (fun M14 => ?_)
  exact tq_vret (E := E_Told_copy d) (pc := 151) (cks_at k_Told_copy 69 rfl rfl) rfl
abbrev E_Now_begin (d : Nat) : Ev := (Ct (d + 1), "BreathTown$Now", prog_4_method_2_code, 1, False, 0, (fun _ => 0), (Option.none : Option Jvm.ClassFile.FieldType))
def f_Now_begin (M : Mm) : Option (Mm) :=
  bd (up M 39 8 (M 3 13)) (fun M1 =>
  bd (up M1 39 9 0) (fun M2 =>
  bV (f_BT_copyAll 10 40 M2) (fun M3 =>
  bV (f_BT_copyAll 14 41 M3) (fun M4 =>
  bV (f_BT_copyAll 15 42 M4) (fun M5 =>
  bV (f_BT_fill 43 0 M5) (fun M6 =>
  some M6))))))
set_option maxRecDepth 20000 in
set_option maxHeartbeats 4000000 in
theorem c_Now_begin (d : Nat) (M : Mm) (Q : Option Value → Mm → Prop) (h : sat injV (f_Now_begin M) Q) : Ct (d + 2) y_Now_begin [.ref 39] M Q := by
  refine ct_in (d := d + 1) mk_Now_begin (Nat.le_of_ble_eq_true rfl) (?_ : T (E_Now_begin d) injV 0 [(0, .ref 39)] [] M (f_Now_begin M)) h
  unfold f_Now_begin
  refine tq_aload_n 0 (E := E_Now_begin d) (pc := 0) (cks_at k_Now_begin 0 rfl rfl) rfl ?_
  refine tq_aload_n 0 (E := E_Now_begin d) (pc := 1) (cks_at k_Now_begin 1 rfl rfl) rfl ?_
  refine tq_getR (j := 3) (E := E_Now_begin d) (pc := 2) (cks_at k_Now_begin 2 rfl rfl) fo_Now_30 so_39 rfl sp_39_0 ?_
  refine tq_getI (E := E_Now_begin d) (pc := 5) (cks_at k_Now_begin 3 rfl rfl) fo_Now_34 so_3 rfl (by decide) ?_
  refine tq_putI (E := E_Now_begin d) (pc := 8) (cks_at k_Now_begin 4 rfl rfl) fo_Now_40 so_39 rfl po_2_8 (fun M1 => ?_)
  refine tq_aload_n 0 (E := E_Now_begin d) (pc := 11) (cks_at k_Now_begin 5 rfl rfl) rfl ?_
  refine tq_iconst (E := E_Now_begin d) (pc := 12) (cks_at k_Now_begin 6 rfl rfl) ?_
  refine tq_putI (E := E_Now_begin d) (pc := 13) (cks_at k_Now_begin 7 rfl rfl) fo_Now_43 so_39 rfl po_2_9 (fun M2 => ?_)
  refine tq_aload_n 0 (E := E_Now_begin d) (pc := 16) (cks_at k_Now_begin 8 rfl rfl) rfl ?_
  refine tq_getR (j := 3) (E := E_Now_begin d) (pc := 17) (cks_at k_Now_begin 9 rfl rfl) fo_Now_30 so_39 rfl sp_39_0 ?_
  refine tq_getR (j := 10) (E := E_Now_begin d) (pc := 20) (cks_at k_Now_begin 10 rfl rfl) fo_Now_46 so_3 rfl sp_3_6 ?_
  refine tq_aload_n 0 (E := E_Now_begin d) (pc := 23) (cks_at k_Now_begin 11 rfl rfl) rfl ?_
  refine tq_getR (j := 40) (E := E_Now_begin d) (pc := 24) (cks_at k_Now_begin 12 rfl rfl) fo_Now_9 so_39 rfl sp_39_1 ?_
  refine tq_S2 (E := E_Now_begin d) (pc := 27) (cks_at k_Now_begin 13 rfl rfl) mk_BT_copyAll lk_Now_47 (Nat.le_of_ble_eq_true rfl) (c_BT_copyAll (d + 0) 10 sa_10 40 sa_40 M2) (k_V fun M3 => ?_)
  refine tq_aload_n 0 (E := E_Now_begin d) (pc := 30) (cks_at k_Now_begin 14 rfl rfl) rfl ?_
  refine tq_getR (j := 3) (E := E_Now_begin d) (pc := 31) (cks_at k_Now_begin 15 rfl rfl) fo_Now_30 so_39 rfl sp_39_0 ?_
  refine tq_getR (j := 14) (E := E_Now_begin d) (pc := 34) (cks_at k_Now_begin 16 rfl rfl) fo_Now_51 so_3 rfl sp_3_10 ?_
  refine tq_aload_n 0 (E := E_Now_begin d) (pc := 37) (cks_at k_Now_begin 17 rfl rfl) rfl ?_
  refine tq_getR (j := 41) (E := E_Now_begin d) (pc := 38) (cks_at k_Now_begin 18 rfl rfl) fo_Now_15 so_39 rfl sp_39_2 ?_
  refine tq_S2 (E := E_Now_begin d) (pc := 41) (cks_at k_Now_begin 19 rfl rfl) mk_BT_copyAll lk_Now_47 (Nat.le_of_ble_eq_true rfl) (c_BT_copyAll (d + 0) 14 sa_14 41 sa_41 M3) (k_V fun M4 => ?_)
  refine tq_aload_n 0 (E := E_Now_begin d) (pc := 44) (cks_at k_Now_begin 20 rfl rfl) rfl ?_
  refine tq_getR (j := 3) (E := E_Now_begin d) (pc := 45) (cks_at k_Now_begin 21 rfl rfl) fo_Now_30 so_39 rfl sp_39_0 ?_
  refine tq_getR (j := 15) (E := E_Now_begin d) (pc := 48) (cks_at k_Now_begin 22 rfl rfl) fo_Now_52 so_3 rfl sp_3_11 ?_
  refine tq_aload_n 0 (E := E_Now_begin d) (pc := 51) (cks_at k_Now_begin 23 rfl rfl) rfl ?_
  refine tq_getR (j := 42) (E := E_Now_begin d) (pc := 52) (cks_at k_Now_begin 24 rfl rfl) fo_Now_18 so_39 rfl sp_39_3 ?_
  refine tq_S2 (E := E_Now_begin d) (pc := 55) (cks_at k_Now_begin 25 rfl rfl) mk_BT_copyAll lk_Now_47 (Nat.le_of_ble_eq_true rfl) (c_BT_copyAll (d + 0) 15 sa_15 42 sa_42 M4) (k_V fun M5 => ?_)
  refine tq_aload_n 0 (E := E_Now_begin d) (pc := 58) (cks_at k_Now_begin 26 rfl rfl) rfl ?_
  refine tq_getR (j := 43) (E := E_Now_begin d) (pc := 59) (cks_at k_Now_begin 27 rfl rfl) fo_Now_21 so_39 rfl sp_39_4 ?_
  refine tq_iconst (E := E_Now_begin d) (pc := 62) (cks_at k_Now_begin 28 rfl rfl) ?_
  refine tq_S2 (E := E_Now_begin d) (pc := 63) (cks_at k_Now_begin 29 rfl rfl) mk_BT_fill lk_Now_53 (Nat.le_of_ble_eq_true rfl) (c_BT_fill (d + 0) 43 sa_43 0 M5) (k_V fun M6 => ?_)
  exact tq_vret (E := E_Now_begin d) (pc := 66) (cks_at k_Now_begin 30 rfl rfl) rfl
abbrev E_Widths_forget (d : Nat) : Ev := (Ct (d + 0), "BreathTown$Widths", prog_12_method_2_code, 1, False, 0, (fun _ => 0), (Option.none : Option Jvm.ClassFile.FieldType))
def f_Widths_forget (M : Mm) : Option (Mm) :=
  bd (up M 46 3 ((M 46 3) + 1)) (fun M1 =>
  some M1)
set_option maxRecDepth 20000 in
set_option maxHeartbeats 4000000 in
theorem c_Widths_forget (d : Nat) (M : Mm) (Q : Option Value → Mm → Prop) (h : sat injV (f_Widths_forget M) Q) : Ct (d + 1) y_Widths_forget [.ref 46] M Q := by
  refine ct_in (d := d + 0) mk_Widths_forget (Nat.le_of_ble_eq_true rfl) (?_ : T (E_Widths_forget d) injV 0 [(0, .ref 46)] [] M (f_Widths_forget M)) h
  unfold f_Widths_forget
  refine tq_aload_n 0 (E := E_Widths_forget d) (pc := 0) (cks_at k_Widths_forget 0 rfl rfl) rfl ?_
  refine tq_dup (E := E_Widths_forget d) (pc := 1) (cks_at k_Widths_forget 1 rfl rfl) rfl ?_
  refine tq_getJ (E := E_Widths_forget d) (pc := 2) (cks_at k_Widths_forget 2 rfl rfl) fo_Widths_23 so_46 rfl ?_
  refine tq_lconst1 (E := E_Widths_forget d) (pc := 5) (cks_at k_Widths_forget 3 rfl rfl) ?_
  refine tq_ladd (E := E_Widths_forget d) (pc := 6) (cks_at k_Widths_forget 4 rfl rfl) ?_
  refine tq_putJ (E := E_Widths_forget d) (pc := 7) (cks_at k_Widths_forget 5 rfl rfl) fo_Widths_23 so_46 rfl po_10_3 (fun M1 => ?_)
  exact tq_vret (E := E_Widths_forget d) (pc := 10) (cks_at k_Widths_forget 6 rfl rfl) rfl
abbrev E_BT_town (d : Nat) : Ev := (Ct (d + 129), "BreathTown", prog_1_method_4_code, 2, False, 0, (fun _ => 0), (Option.some Jvm.ClassFile.FieldType.int))
def f_BT_town (M : Mm) : Option (Int × Mm) :=
  bI (f_TownR_read M) (fun r2 M1 =>
  bV (f_BT_keepFault M1) (fun M3 =>
  if ¬ i32 r2 = i32 ((-1)) then
    bV (f_Told_copy 3 20 M3) (fun M4 =>
    bV (f_Now_begin M4) (fun M5 =>
    bV (f_Widths_forget M5) (fun M6 =>
    bd (up M6 64 6 0) (fun M7 =>
    some (r2, M7)))))
  else
    bI (f_BT_refused 1 M3) (fun r9 M8 =>
    some (r9, M8))))
set_option maxRecDepth 20000 in
set_option maxHeartbeats 4000000 in
theorem c_BT_town (d : Nat) (M : Mm) (Q : Option Value → Mm → Prop) (h : sat injI (f_BT_town M) Q) : Ct (d + 130) y_BT_town [.ref 0] M Q := by
  refine ct_in (d := d + 129) mk_BT_town (Nat.le_of_ble_eq_true rfl) (?_ : T (E_BT_town d) injI 0 [(0, .ref 0)] [] M (f_BT_town M)) h
  unfold f_BT_town
  refine tq_aload_n 0 (E := E_BT_town d) (pc := 0) (cks_at k_BT_town 0 rfl rfl) rfl ?_
  refine tq_getR (j := 37) (E := E_BT_town d) (pc := 1) (cks_at k_BT_town 1 rfl rfl) fo_BT_31 so_0 rfl sp_0_3 ?_
  refine tq_V0 (E := E_BT_town d) (pc := 4) (cks_at k_BT_town 2 rfl rfl) mk_TownR_read lk_BT_113 rc_37 (Nat.le_of_ble_eq_true rfl) (c_TownR_read (d + 0) M) (k_I fun r2 M1 => ?_)
  refine tq_istore_n (E := E_BT_town d) (pc := 7) (cks_at k_BT_town 3 rfl rfl) (show 1 < 2 by decide) rfl ?_
  refine tq_aload_n 1 (E := E_BT_town d) (pc := 8) (cks_at k_BT_town 4 rfl rfl) rfl ?_
  refine tq_V0 (E := E_BT_town d) (pc := 9) (cks_at k_BT_town 5 rfl rfl) mk_BT_keepFault lk_BT_117 rc_0 (Nat.le_of_ble_eq_true rfl) (c_BT_keepFault (d + 128) M1) (k_V fun M3 => ?_)
  refine tq_iload_n 0 (E := E_BT_town d) (pc := 12) (cks_at k_BT_town 6 rfl rfl) rfl ?_
  refine tq_iconst (E := E_BT_town d) (pc := 13) (cks_at k_BT_town 7 rfl rfl) ?_
  refine tq_icmp_ne (E := E_BT_town d) (pc := 14) (tgt := 23) (cks_at k_BT_town 8 rfl rfl) (by decide) ?_ ?_
  · refine tq_aload_n 1 (E := E_BT_town d) (pc := 23) (cks_at k_BT_town 13 rfl rfl) rfl ?_
    refine tq_getR (j := 3) (E := E_BT_town d) (pc := 24) (cks_at k_BT_town 14 rfl rfl) fo_BT_19 so_0 rfl sp_0_1 ?_
    refine tq_aload_n 1 (E := E_BT_town d) (pc := 27) (cks_at k_BT_town 15 rfl rfl) rfl ?_
    refine tq_getR (j := 20) (E := E_BT_town d) (pc := 28) (cks_at k_BT_town 16 rfl rfl) fo_BT_23 so_0 rfl sp_0_2 ?_
    refine tq_V1 (E := E_BT_town d) (pc := 31) (cks_at k_BT_town 17 rfl rfl) mk_Told_copy lk_BT_120 (isTold_rc (Or.inl rfl)) (Nat.le_of_ble_eq_true rfl) (c_Told_copy (d + 126) 3 (Or.inl rfl) 20 (Or.inr rfl) M3) (k_V fun M4 => ?_)
    refine tq_aload_n 1 (E := E_BT_town d) (pc := 34) (cks_at k_BT_town 18 rfl rfl) rfl ?_
    refine tq_getR (j := 39) (E := E_BT_town d) (pc := 35) (cks_at k_BT_town 19 rfl rfl) fo_BT_40 so_0 rfl sp_0_4 ?_
    refine tq_V0 (E := E_BT_town d) (pc := 38) (cks_at k_BT_town 20 rfl rfl) mk_Now_begin lk_BT_123 rc_39 (Nat.le_of_ble_eq_true rfl) (c_Now_begin (d + 127) M4) (k_V fun M5 => ?_)
    refine tq_aload_n 1 (E := E_BT_town d) (pc := 41) (cks_at k_BT_town 21 rfl rfl) rfl ?_
    refine tq_getR (j := 46) (E := E_BT_town d) (pc := 42) (cks_at k_BT_town 22 rfl rfl) fo_BT_49 so_0 rfl sp_0_5 ?_
    refine tq_V0 (E := E_BT_town d) (pc := 45) (cks_at k_BT_town 23 rfl rfl) mk_Widths_forget lk_BT_126 rc_46 (Nat.le_of_ble_eq_true rfl) (c_Widths_forget (d + 128) M5) (k_V fun M6 => ?_)
    refine tq_aload_n 1 (E := E_BT_town d) (pc := 48) (cks_at k_BT_town 24 rfl rfl) rfl ?_
    refine tq_getR (j := 64) (E := E_BT_town d) (pc := 49) (cks_at k_BT_town 25 rfl rfl) fo_BT_74 so_0 rfl sp_0_8 ?_
    refine tq_iconst (E := E_BT_town d) (pc := 52) (cks_at k_BT_town 26 rfl rfl) ?_
    refine tq_putI (E := E_BT_town d) (pc := 53) (cks_at k_BT_town 27 rfl rfl) fo_BT_129 so_64 rfl po_6_6 (fun M7 => ?_)
    refine tq_iload_n 0 (E := E_BT_town d) (pc := 56) (cks_at k_BT_town 28 rfl rfl) rfl ?_
    exact tq_iret (E := E_BT_town d) (pc := 57) (cks_at k_BT_town 29 rfl rfl) rfl
  · refine tq_aload_n 1 (E := E_BT_town d) (pc := 17) (cks_at k_BT_town 9 rfl rfl) rfl ?_
    refine tq_iconst (E := E_BT_town d) (pc := 18) (cks_at k_BT_town 10 rfl rfl) ?_
    refine tq_V1 (E := E_BT_town d) (pc := 19) (cks_at k_BT_town 11 rfl rfl) mk_BT_refused lk_BT_105 rc_0 (Nat.le_of_ble_eq_true rfl) (c_BT_refused (d + 127) 1 M3) (k_I fun r9 M8 => ?_)
    exact tq_iret (E := E_BT_town d) (pc := 22) (cks_at k_BT_town 12 rfl rfl) rfl
abbrev E_M_end (d : Nat) : Ev := (Ct (d + 0), "BreathTownModel", prog_14_method_4_code, 2, False, 0, (fun _ => 0), (Option.some Jvm.ClassFile.FieldType.boolean))
def f_M_end_J12 (M : Mm) : Option (Int × Mm) :=
  bd (up M 80 0 ((M 80 0) + 1)) (fun M1 =>
  some (0, M1))
set_option maxRecDepth 20000 in
set_option maxHeartbeats 4000000 in
theorem w_M_end_J12 (d : Nat) (M : Mm) : T (E_M_end d) injI 12 [(0, .ref 78)] [] M (f_M_end_J12 M) := by
  unfold f_M_end_J12
  refine tq_aload_n 0 (E := E_M_end d) (pc := 12) (cks_at k_M_end 6 rfl rfl) rfl ?_
  refine tq_getR (j := 80) (E := E_M_end d) (pc := 13) (cks_at k_M_end 7 rfl rfl) fo_M_17 so_78 rfl sp_78_9 ?_
  refine tq_iconst (E := E_M_end d) (pc := 16) (cks_at k_M_end 8 rfl rfl) ?_
  refine tq_dup2 (E := E_M_end d) (pc := 17) (cks_at k_M_end 9 rfl rfl) rfl rfl ?_
  refine tq_ialdC 0 (E := E_M_end d) (pc := 18) (cks_at k_M_end 10 rfl rfl) sa_80 sn_80 (by decide) ?_
  refine tq_iconst (E := E_M_end d) (pc := 19) (cks_at k_M_end 11 rfl rfl) ?_
  refine tq_iadd (E := E_M_end d) (pc := 20) (cks_at k_M_end 12 rfl rfl) ?_
  refine tq_iastC (E := E_M_end d) (pc := 21) 0 (cks_at k_M_end 13 rfl rfl) sa_80 sn_80 (by decide) (fun M1 => ?_)
  refine tq_iconst (E := E_M_end d) (pc := 22) (cks_at k_M_end 14 rfl rfl) ?_
  exact tq_zretC (E := E_M_end d) (pc := 23) (cks_at k_M_end 15 rfl rfl) rfl (by decide)
def f_M_end (v1 : Int) (M : Mm) : Option (Int × Mm) :=
  if i32 v1 < 0 then
    f_M_end_J12 M
  else
    if i32 v1 ≤ i32 (M 78 1) then
      bd (up M 78 1 v1) (fun M2 =>
      some (1, M2))
    else
      f_M_end_J12 M
set_option maxRecDepth 20000 in
set_option maxHeartbeats 4000000 in
theorem c_M_end (d : Nat) (v1 : Int) (M : Mm) (Q : Option Value → Mm → Prop) (h : sat injI (f_M_end v1 M) Q) : Ct (d + 1) y_M_end [.ref 78, vI v1] M Q := by
  refine ct_in (d := d + 0) mk_M_end (Nat.le_of_ble_eq_true rfl) (?_ : T (E_M_end d) injI 0 [(0, .ref 78), (1, vI v1)] [] M (f_M_end v1 M)) h
  unfold f_M_end
  refine tq_iload_n 1 (E := E_M_end d) (pc := 0) (cks_at k_M_end 0 rfl rfl) rfl ?_
  refine tq_if_lt (E := E_M_end d) (pc := 1) (tgt := 12) (cks_at k_M_end 1 rfl rfl) (by decide) ?_ ?_
  · exact tq_sub [0] rfl (w_M_end_J12 d M)
  · refine tq_iload_n 1 (E := E_M_end d) (pc := 4) (cks_at k_M_end 2 rfl rfl) rfl ?_
    refine tq_aload_n 0 (E := E_M_end d) (pc := 5) (cks_at k_M_end 3 rfl rfl) rfl ?_
    refine tq_getI (E := E_M_end d) (pc := 6) (cks_at k_M_end 4 rfl rfl) fo_M_222 so_78 rfl (by decide) ?_
    refine tq_icmp_le (E := E_M_end d) (pc := 9) (tgt := 24) (cks_at k_M_end 5 rfl rfl) (by decide) ?_ ?_
    · refine tq_aload_n 0 (E := E_M_end d) (pc := 24) (cks_at k_M_end 16 rfl rfl) rfl ?_
      refine tq_iload_n 1 (E := E_M_end d) (pc := 25) (cks_at k_M_end 17 rfl rfl) rfl ?_
      refine tq_putI (E := E_M_end d) (pc := 26) (cks_at k_M_end 18 rfl rfl) fo_M_222 so_78 rfl po_12_1 (fun M2 => ?_)
      refine tq_iconst (E := E_M_end d) (pc := 29) (cks_at k_M_end 19 rfl rfl) ?_
      exact tq_zretC (E := E_M_end d) (pc := 30) (cks_at k_M_end 20 rfl rfl) rfl (by decide)
    · exact tq_sub [0] rfl (w_M_end_J12 d M)
abbrev E_BT_end (d : Nat) : Ev := (Ct (d + 2), "BreathTown", prog_1_method_3_code, 2, False, 0, (fun _ => 0), (Option.some Jvm.ClassFile.FieldType.boolean))
def f_BT_end (v1 : Int) (M : Mm) : Option (Int × Mm) :=
  if i32 v1 < 0 then
    bI (f_BT_refused 0 M) (fun r2 M1 =>
    some (0, M1))
  else
    if i32 v1 ≤ i32 (M 1 1) then
      bd (up M 1 1 v1) (fun M3 =>
      some (1, M3))
    else
      bI (f_BT_refused 0 M) (fun r5 M4 =>
      some (0, M4))
set_option maxRecDepth 20000 in
set_option maxHeartbeats 4000000 in
theorem c_BT_end (d : Nat) (v1 : Int) (M : Mm) (Q : Option Value → Mm → Prop) (h : sat injI (f_BT_end v1 M) Q) : Ct (d + 3) y_BT_end [.ref 0, vI v1] M Q := by
  refine ct_in (d := d + 2) mk_BT_end (Nat.le_of_ble_eq_true rfl) (?_ : T (E_BT_end d) injI 0 [(0, .ref 0), (1, vI v1)] [] M (f_BT_end v1 M)) h
  unfold f_BT_end
  refine tq_iload_n 1 (E := E_BT_end d) (pc := 0) (cks_at k_BT_end 0 rfl rfl) rfl ?_
  refine tq_if_lt (E := E_BT_end d) (pc := 1) (tgt := 15) (cks_at k_BT_end 1 rfl rfl) (by decide) ?_ ?_
  · refine tq_aload_n 0 (E := E_BT_end d) (pc := 15) (cks_at k_BT_end 7 rfl rfl) rfl ?_
    refine tq_iconst (E := E_BT_end d) (pc := 16) (cks_at k_BT_end 8 rfl rfl) ?_
    refine tq_V1 (E := E_BT_end d) (pc := 17) (cks_at k_BT_end 9 rfl rfl) mk_BT_refused lk_BT_105 rc_0 (Nat.le_of_ble_eq_true rfl) (c_BT_refused (d + 0) 0 M) (k_I fun r2 M1 => ?_)
    refine tq_pop (E := E_BT_end d) (pc := 20) (cks_at k_BT_end 10 rfl rfl) rfl ?_
    refine tq_iconst (E := E_BT_end d) (pc := 21) (cks_at k_BT_end 11 rfl rfl) ?_
    exact tq_zretC (E := E_BT_end d) (pc := 22) (cks_at k_BT_end 12 rfl rfl) rfl (by decide)
  · refine tq_iload_n 1 (E := E_BT_end d) (pc := 4) (cks_at k_BT_end 2 rfl rfl) rfl ?_
    refine tq_aload_n 0 (E := E_BT_end d) (pc := 5) (cks_at k_BT_end 3 rfl rfl) rfl ?_
    refine tq_getR (j := 1) (E := E_BT_end d) (pc := 6) (cks_at k_BT_end 4 rfl rfl) fo_BT_10 so_0 rfl sp_0_0 ?_
    refine tq_getI (E := E_BT_end d) (pc := 9) (cks_at k_BT_end 5 rfl rfl) fo_BT_102 so_1 rfl (by decide) ?_
    refine tq_icmp_le (E := E_BT_end d) (pc := 12) (tgt := 23) (cks_at k_BT_end 6 rfl rfl) (by decide) ?_ ?_
    · refine tq_aload_n 0 (E := E_BT_end d) (pc := 23) (cks_at k_BT_end 13 rfl rfl) rfl ?_
      refine tq_getR (j := 1) (E := E_BT_end d) (pc := 24) (cks_at k_BT_end 14 rfl rfl) fo_BT_10 so_0 rfl sp_0_0 ?_
      refine tq_iload_n 1 (E := E_BT_end d) (pc := 27) (cks_at k_BT_end 15 rfl rfl) rfl ?_
      refine tq_putI (E := E_BT_end d) (pc := 28) (cks_at k_BT_end 16 rfl rfl) fo_BT_102 so_1 rfl po_5_1 (fun M3 => ?_)
      refine tq_iconst (E := E_BT_end d) (pc := 31) (cks_at k_BT_end 17 rfl rfl) ?_
      exact tq_zretC (E := E_BT_end d) (pc := 32) (cks_at k_BT_end 18 rfl rfl) rfl (by decide)
    · refine tq_aload_n 0 (E := E_BT_end d) (pc := 15) (cks_at k_BT_end 7 rfl rfl) rfl ?_
      refine tq_iconst (E := E_BT_end d) (pc := 16) (cks_at k_BT_end 8 rfl rfl) ?_
      refine tq_V1 (E := E_BT_end d) (pc := 17) (cks_at k_BT_end 9 rfl rfl) mk_BT_refused lk_BT_105 rc_0 (Nat.le_of_ble_eq_true rfl) (c_BT_refused (d + 0) 0 M) (k_I fun r5 M4 => ?_)
      refine tq_pop (E := E_BT_end d) (pc := 20) (cks_at k_BT_end 10 rfl rfl) rfl ?_
      refine tq_iconst (E := E_BT_end d) (pc := 21) (cks_at k_BT_end 11 rfl rfl) ?_
      exact tq_zretC (E := E_BT_end d) (pc := 22) (cks_at k_BT_end 12 rfl rfl) rfl (by decide)
abbrev E_M_feed (d : Nat) : Ev := (Ct (d + 0), "BreathTownModel", prog_14_method_3_code, 8, False, 0, (fun _ => 0), (Option.some Jvm.ClassFile.FieldType.int))
def f_M_feed_J81 (kH : Int → Int → Int → Int → Int → Int → Mm → Option (Int × Mm)) (kx124 : Mm → Option (Int × Mm)) (v1 v2 v3 v4 v5 v6 s0 : Int) (M : Mm) : Option (Int × Mm) :=
  gd (0 ≤ i32 (M 78 1) ∧ i32 (M 78 1) < ((1600 : Nat) : Int)) <|
  bd (up M 79 (i32 (M 78 1)).toNat (and32 (shr32 s0 (8 * (3 - ((i32 v6).tmod (i32 4))))) 255)) (fun M1 =>
  bd (up M1 78 1 ((M1 78 1) + 1)) (fun M2 =>
  kH v1 v2 v3 v4 v5 (v6 + 1) M2))
set_option maxRecDepth 20000 in
set_option maxHeartbeats 4000000 in
theorem w_M_feed_J81 (d : Nat) (kH : Int → Int → Int → Int → Int → Int → Mm → Option (Int × Mm)) (kx124 : Mm → Option (Int × Mm)) (hkH : ∀ (v1 v2 v3 v4 v5 v6 : Int) (M : Mm), T (E_M_feed d) injI 28 [(0, .ref 78), (1, vI v1), (2, vI v2), (3, vI v3), (4, vI v4), (5, vI v5), (6, vI v6)] [] M (kH v1 v2 v3 v4 v5 v6 M)) (hkx124 : ∀  (M : Mm), T (E_M_feed d) injI 124 [(0, .ref 78)] [] M (kx124 M)) (v1 v2 v3 v4 v5 v6 s0 : Int) (M : Mm) : T (E_M_feed d) injI 81 [(0, .ref 78), (1, vI v1), (2, vI v2), (3, vI v3), (4, vI v4), (5, vI v5), (6, vI v6)] [vI s0] M (f_M_feed_J81 kH kx124 v1 v2 v3 v4 v5 v6 s0 M) := by
  unfold f_M_feed_J81
  refine tq_istore (E := E_M_feed d) (pc := 81) (cks_at k_M_feed 42 rfl rfl) (show 7 < 8 by decide) rfl ?_
  refine tq_aload_n 1 (E := E_M_feed d) (pc := 83) (cks_at k_M_feed 43 rfl rfl) rfl ?_
  refine tq_getR (j := 79) (E := E_M_feed d) (pc := 84) (cks_at k_M_feed 44 rfl rfl) fo_M_7 so_78 rfl sp_78_0 ?_
  refine tq_aload_n 1 (E := E_M_feed d) (pc := 87) (cks_at k_M_feed 45 rfl rfl) rfl ?_
  refine tq_getI (E := E_M_feed d) (pc := 88) (cks_at k_M_feed 46 rfl rfl) fo_M_222 so_78 rfl (by decide) ?_
  refine tq_iload 0 (E := E_M_feed d) (pc := 91) (cks_at k_M_feed 47 rfl rfl) rfl ?_
  refine tq_bipush (E := E_M_feed d) (pc := 93) (cks_at k_M_feed 48 rfl rfl) (by decide) (by decide) ?_
  refine tq_iconst (E := E_M_feed d) (pc := 95) (cks_at k_M_feed 49 rfl rfl) ?_
  refine tq_iload 7 (E := E_M_feed d) (pc := 96) (cks_at k_M_feed 50 rfl rfl) rfl ?_
  refine tq_iconst (E := E_M_feed d) (pc := 98) (cks_at k_M_feed 51 rfl rfl) ?_
  refine tq_iremC (E := E_M_feed d) (pc := 99) (cks_at k_M_feed 52 rfl rfl) (by decide) ?_
  refine tq_isub (E := E_M_feed d) (pc := 100) (cks_at k_M_feed 53 rfl rfl) ?_
  refine tq_imul (E := E_M_feed d) (pc := 101) (cks_at k_M_feed 54 rfl rfl) ?_
  refine tq_ishr (E := E_M_feed d) (pc := 102) (cks_at k_M_feed 55 rfl rfl) ?_
  refine tq_sipush (E := E_M_feed d) (pc := 103) (cks_at k_M_feed 56 rfl rfl) (by decide) (by decide) ?_
  refine tq_iand (E := E_M_feed d) (pc := 106) (cks_at k_M_feed 57 rfl rfl) ?_
  refine tq_iast (E := E_M_feed d) (pc := 107) (cks_at k_M_feed 58 rfl rfl) sa_79 sn_79 (fun M1 => ?_)
  refine tq_aload_n 1 (E := E_M_feed d) (pc := 108) (cks_at k_M_feed 59 rfl rfl) rfl ?_
  refine tq_dup (E := E_M_feed d) (pc := 109) (cks_at k_M_feed 60 rfl rfl) rfl ?_
  refine tq_getI (E := E_M_feed d) (pc := 110) (cks_at k_M_feed 61 rfl rfl) fo_M_222 so_78 rfl (by decide) ?_
  refine tq_iconst (E := E_M_feed d) (pc := 113) (cks_at k_M_feed 62 rfl rfl) ?_
  refine tq_iadd (E := E_M_feed d) (pc := 114) (cks_at k_M_feed 63 rfl rfl) ?_
  refine tq_putI (E := E_M_feed d) (pc := 115) (cks_at k_M_feed 64 rfl rfl) fo_M_222 so_78 rfl po_12_1 (fun M2 => ?_)
  refine tq_iinc 7 (E := E_M_feed d) (pc := 118) (cks_at k_M_feed 65 rfl rfl) rfl (show 6 < 8 by decide) rfl ?_
  refine tq_goto (tgt := 28) (E := E_M_feed d) (pc := 121) (cks_at k_M_feed 66 rfl rfl) (by decide) ?_
  exact tq_sub [2, 3, 4, 5, 6, 7, 0] rfl (hkH v1 v2 v3 v4 v5 (v6 + 1) M2)
def f_M_feed_B28 (kH : Int → Int → Int → Int → Int → Int → Mm → Option (Int × Mm)) (kx124 : Mm → Option (Int × Mm)) (v1 v2 v3 v4 v5 v6 : Int) (M : Mm) : Option (Int × Mm) :=
  if i32 20 ≤ i32 v6 then
    kx124 M
  else
    if i32 4 ≤ i32 v6 then
      if i32 8 ≤ i32 v6 then
        if i32 12 ≤ i32 v6 then
          if i32 16 ≤ i32 v6 then
            f_M_feed_J81 kH kx124 v1 v2 v3 v4 v5 v6 v5 M
          else
            f_M_feed_J81 kH kx124 v1 v2 v3 v4 v5 v6 v4 M
        else
          f_M_feed_J81 kH kx124 v1 v2 v3 v4 v5 v6 v3 M
      else
        f_M_feed_J81 kH kx124 v1 v2 v3 v4 v5 v6 v2 M
    else
      f_M_feed_J81 kH kx124 v1 v2 v3 v4 v5 v6 v1 M
set_option maxRecDepth 20000 in
set_option maxHeartbeats 4000000 in
theorem w_M_feed_B28 (d : Nat) (kH : Int → Int → Int → Int → Int → Int → Mm → Option (Int × Mm)) (kx124 : Mm → Option (Int × Mm)) (hkH : ∀ (v1 v2 v3 v4 v5 v6 : Int) (M : Mm), T (E_M_feed d) injI 28 [(0, .ref 78), (1, vI v1), (2, vI v2), (3, vI v3), (4, vI v4), (5, vI v5), (6, vI v6)] [] M (kH v1 v2 v3 v4 v5 v6 M)) (hkx124 : ∀  (M : Mm), T (E_M_feed d) injI 124 [(0, .ref 78)] [] M (kx124 M)) (v1 v2 v3 v4 v5 v6 : Int) (M : Mm) : T (E_M_feed d) injI 28 [(0, .ref 78), (1, vI v1), (2, vI v2), (3, vI v3), (4, vI v4), (5, vI v5), (6, vI v6)] [] M (f_M_feed_B28 kH kx124 v1 v2 v3 v4 v5 v6 M) := by
  unfold f_M_feed_B28
  refine tq_iload 6 (E := E_M_feed d) (pc := 28) (cks_at k_M_feed 18 rfl rfl) rfl ?_
  refine tq_bipush (E := E_M_feed d) (pc := 30) (cks_at k_M_feed 19 rfl rfl) (by decide) (by decide) ?_
  refine tq_icmp_ge (E := E_M_feed d) (pc := 32) (tgt := 124) (cks_at k_M_feed 20 rfl rfl) (by decide) ?_ ?_
  · exact tq_sub [0] rfl (hkx124 M)
  · refine tq_iload 6 (E := E_M_feed d) (pc := 35) (cks_at k_M_feed 21 rfl rfl) rfl ?_
    refine tq_iconst (E := E_M_feed d) (pc := 37) (cks_at k_M_feed 22 rfl rfl) ?_
    refine tq_icmp_ge (E := E_M_feed d) (pc := 38) (tgt := 45) (cks_at k_M_feed 23 rfl rfl) (by decide) ?_ ?_
    · refine tq_iload 6 (E := E_M_feed d) (pc := 45) (cks_at k_M_feed 26 rfl rfl) rfl ?_
      refine tq_bipush (E := E_M_feed d) (pc := 47) (cks_at k_M_feed 27 rfl rfl) (by decide) (by decide) ?_
      refine tq_icmp_ge (E := E_M_feed d) (pc := 49) (tgt := 56) (cks_at k_M_feed 28 rfl rfl) (by decide) ?_ ?_
      · refine tq_iload 6 (E := E_M_feed d) (pc := 56) (cks_at k_M_feed 31 rfl rfl) rfl ?_
        refine tq_bipush (E := E_M_feed d) (pc := 58) (cks_at k_M_feed 32 rfl rfl) (by decide) (by decide) ?_
        refine tq_icmp_ge (E := E_M_feed d) (pc := 60) (tgt := 67) (cks_at k_M_feed 33 rfl rfl) (by decide) ?_ ?_
        · refine tq_iload 6 (E := E_M_feed d) (pc := 67) (cks_at k_M_feed 36 rfl rfl) rfl ?_
          refine tq_bipush (E := E_M_feed d) (pc := 69) (cks_at k_M_feed 37 rfl rfl) (by decide) (by decide) ?_
          refine tq_icmp_ge (E := E_M_feed d) (pc := 71) (tgt := 79) (cks_at k_M_feed 38 rfl rfl) (by decide) ?_ ?_
          · refine tq_iload 5 (E := E_M_feed d) (pc := 79) (cks_at k_M_feed 41 rfl rfl) rfl ?_
            exact tq_sub [0, 1, 2, 3, 4, 5, 6] rfl (w_M_feed_J81 d kH kx124 hkH hkx124 v1 v2 v3 v4 v5 v6 v5 M)
          · refine tq_iload 4 (E := E_M_feed d) (pc := 74) (cks_at k_M_feed 39 rfl rfl) rfl ?_
            refine tq_goto (tgt := 81) (E := E_M_feed d) (pc := 76) (cks_at k_M_feed 40 rfl rfl) (by decide) ?_
            exact tq_sub [0, 1, 2, 3, 4, 5, 6] rfl (w_M_feed_J81 d kH kx124 hkH hkx124 v1 v2 v3 v4 v5 v6 v4 M)
        · refine tq_iload_n 3 (E := E_M_feed d) (pc := 63) (cks_at k_M_feed 34 rfl rfl) rfl ?_
          refine tq_goto (tgt := 81) (E := E_M_feed d) (pc := 64) (cks_at k_M_feed 35 rfl rfl) (by decide) ?_
          exact tq_sub [0, 1, 2, 3, 4, 5, 6] rfl (w_M_feed_J81 d kH kx124 hkH hkx124 v1 v2 v3 v4 v5 v6 v3 M)
      · refine tq_iload_n 2 (E := E_M_feed d) (pc := 52) (cks_at k_M_feed 29 rfl rfl) rfl ?_
        refine tq_goto (tgt := 81) (E := E_M_feed d) (pc := 53) (cks_at k_M_feed 30 rfl rfl) (by decide) ?_
        exact tq_sub [0, 1, 2, 3, 4, 5, 6] rfl (w_M_feed_J81 d kH kx124 hkH hkx124 v1 v2 v3 v4 v5 v6 v2 M)
    · refine tq_iload_n 1 (E := E_M_feed d) (pc := 41) (cks_at k_M_feed 24 rfl rfl) rfl ?_
      refine tq_goto (tgt := 81) (E := E_M_feed d) (pc := 42) (cks_at k_M_feed 25 rfl rfl) (by decide) ?_
      exact tq_sub [0, 1, 2, 3, 4, 5, 6] rfl (w_M_feed_J81 d kH kx124 hkH hkx124 v1 v2 v3 v4 v5 v6 v1 M)
def f_M_feed_L28 (kx124 : Mm → Option (Int × Mm)) : Nat → Int × Int × Int × Int × Int × Int × Mm → Option (Int × Mm) := lp fun kH s => f_M_feed_B28 (fun v1 v2 v3 v4 v5 v6 M => kH (v1, v2, v3, v4, v5, v6, M)) kx124 s.1 s.2.1 s.2.2.1 s.2.2.2.1 s.2.2.2.2.1 s.2.2.2.2.2.1 s.2.2.2.2.2.2
set_option maxRecDepth 20000 in
set_option maxHeartbeats 4000000 in
theorem w_M_feed_L28 (d : Nat) (kx124 : Mm → Option (Int × Mm)) (hkx124 : ∀  (M : Mm), T (E_M_feed d) injI 124 [(0, .ref 78)] [] M (kx124 M)) (n : Nat) (s : Int × Int × Int × Int × Int × Int × Mm) : T (E_M_feed d) injI 28 [(0, .ref 78), (1, vI s.1), (2, vI s.2.1), (3, vI s.2.2.1), (4, vI s.2.2.2.1), (5, vI s.2.2.2.2.1), (6, vI s.2.2.2.2.2.1)] [] s.2.2.2.2.2.2 (f_M_feed_L28 kx124 n s) :=
  tq_lp (fun s => [(0, .ref 78), (1, vI s.1), (2, vI s.2.1), (3, vI s.2.2.1), (4, vI s.2.2.2.1), (5, vI s.2.2.2.2.1), (6, vI s.2.2.2.2.2.1)]) (fun s => s.2.2.2.2.2.2) (fun kH hH s => w_M_feed_B28 d (fun v1 v2 v3 v4 v5 v6 M => kH (v1, v2, v3, v4, v5, v6, M)) kx124 (fun v1 v2 v3 v4 v5 v6 M => hH (v1, v2, v3, v4, v5, v6, M)) hkx124 s.1 s.2.1 s.2.2.1 s.2.2.2.1 s.2.2.2.2.1 s.2.2.2.2.2.1 s.2.2.2.2.2.2) n s
def f_M_feed (v1 : Int) (v2 : Int) (v3 : Int) (v4 : Int) (v5 : Int) (M : Mm) : Option (Int × Mm) :=
  if i32 ((M 78 1) + 20) ≤ i32 1600 then
    f_M_feed_L28 (fun M3 => some (M3 78 1, M3)) FU (v1, v2, v3, v4, v5, 0, M)
  else
    bd (up M 80 0 ((M 80 0) + 1)) (fun M4 =>
    some ((-1), M4))
set_option maxRecDepth 20000 in
set_option maxHeartbeats 4000000 in
theorem c_M_feed (d : Nat) (v1 : Int) (v2 : Int) (v3 : Int) (v4 : Int) (v5 : Int) (M : Mm) (Q : Option Value → Mm → Prop) (h : sat injI (f_M_feed v1 v2 v3 v4 v5 M) Q) : Ct (d + 1) y_M_feed [.ref 78, vI v1, vI v2, vI v3, vI v4, vI v5] M Q := by
  refine ct_in (d := d + 0) mk_M_feed (Nat.le_of_ble_eq_true rfl) (?_ : T (E_M_feed d) injI 0 [(0, .ref 78), (1, vI v1), (2, vI v2), (3, vI v3), (4, vI v4), (5, vI v5)] [] M (f_M_feed v1 v2 v3 v4 v5 M)) h
  unfold f_M_feed
  refine tq_aload_n 0 (E := E_M_feed d) (pc := 0) (cks_at k_M_feed 0 rfl rfl) rfl ?_
  refine tq_getI (E := E_M_feed d) (pc := 1) (cks_at k_M_feed 1 rfl rfl) fo_M_222 so_78 rfl (by decide) ?_
  refine tq_bipush (E := E_M_feed d) (pc := 4) (cks_at k_M_feed 2 rfl rfl) (by decide) (by decide) ?_
  refine tq_iadd (E := E_M_feed d) (pc := 6) (cks_at k_M_feed 3 rfl rfl) ?_
  refine tq_sipush (E := E_M_feed d) (pc := 7) (cks_at k_M_feed 4 rfl rfl) (by decide) (by decide) ?_
  refine tq_icmp_le (E := E_M_feed d) (pc := 10) (tgt := 25) (cks_at k_M_feed 5 rfl rfl) (by decide) ?_ ?_
  · refine tq_iconst (E := E_M_feed d) (pc := 25) (cks_at k_M_feed 16 rfl rfl) ?_
    refine tq_istore (E := E_M_feed d) (pc := 26) (cks_at k_M_feed 17 rfl rfl) (show 6 < 8 by decide) rfl ?_
    exact tq_sub [1, 2, 3, 4, 5, 6, 0] rfl (w_M_feed_L28 d _ (fun M3 => by
        refine tq_aload_n 0 (E := E_M_feed d) (pc := 124) (cks_at k_M_feed 67 rfl rfl) rfl ?_
        refine tq_getI (E := E_M_feed d) (pc := 125) (cks_at k_M_feed 68 rfl rfl) fo_M_222 so_78 rfl (by decide) ?_
        exact tq_iret (E := E_M_feed d) (pc := 128) (cks_at k_M_feed 69 rfl rfl) rfl) FU (v1, v2, v3, v4, v5, 0, M))
  · refine tq_aload_n 0 (E := E_M_feed d) (pc := 13) (cks_at k_M_feed 6 rfl rfl) rfl ?_
    refine tq_getR (j := 80) (E := E_M_feed d) (pc := 14) (cks_at k_M_feed 7 rfl rfl) fo_M_17 so_78 rfl sp_78_9 ?_
    refine tq_iconst (E := E_M_feed d) (pc := 17) (cks_at k_M_feed 8 rfl rfl) ?_
    refine tq_dup2 (E := E_M_feed d) (pc := 18) (cks_at k_M_feed 9 rfl rfl) rfl rfl ?_
    refine tq_ialdC 0 (E := E_M_feed d) (pc := 19) (cks_at k_M_feed 10 rfl rfl) sa_80 sn_80 (by decide) ?_
    refine tq_iconst (E := E_M_feed d) (pc := 20) (cks_at k_M_feed 11 rfl rfl) ?_
    refine tq_iadd (E := E_M_feed d) (pc := 21) (cks_at k_M_feed 12 rfl rfl) ?_
    refine tq_iastC (E := E_M_feed d) (pc := 22) 0 (cks_at k_M_feed 13 rfl rfl) sa_80 sn_80 (by decide) (fun M4 => ?_)
    refine tq_iconst (E := E_M_feed d) (pc := 23) (cks_at k_M_feed 14 rfl rfl) ?_
    exact tq_iret (E := E_M_feed d) (pc := 24) (cks_at k_M_feed 15 rfl rfl) rfl
abbrev E_Scan_append (d : Nat) : Ev := (Ct (d + 1), "BreathTown$Scan", prog_7_method_2_code, 3, False, 0, (fun _ => 0), (Option.none : Option Jvm.ClassFile.FieldType))
def f_Scan_append_B3 (kH : Int → Int → Mm → Option (Mm)) (kx41 : Mm → Option (Mm)) (v1 v2 : Int) (M : Mm) : Option (Mm) :=
  if i32 v2 < 0 then
    kx41 M
  else
    bV (f_BT_setCell 2 (M 1 1) (and32 (shr32 v1 v2) 255) M) (fun M1 =>
    bd (up M1 1 1 ((M1 1 1) + 1)) (fun M2 =>
    kH v1 (v2 + (-8)) M2))
set_option maxRecDepth 20000 in
set_option maxHeartbeats 4000000 in
theorem w_Scan_append_B3 (d : Nat) (kH : Int → Int → Mm → Option (Mm)) (kx41 : Mm → Option (Mm)) (hkH : ∀ (v1 v2 : Int) (M : Mm), T (E_Scan_append d) injV 3 [(0, .ref 1), (1, vI v1), (2, vI v2)] [] M (kH v1 v2 M)) (hkx41 : ∀  (M : Mm), T (E_Scan_append d) injV 41 [] [] M (kx41 M)) (v1 v2 : Int) (M : Mm) : T (E_Scan_append d) injV 3 [(0, .ref 1), (1, vI v1), (2, vI v2)] [] M (f_Scan_append_B3 kH kx41 v1 v2 M) := by
  unfold f_Scan_append_B3
  refine tq_iload_n 2 (E := E_Scan_append d) (pc := 3) (cks_at k_Scan_append 2 rfl rfl) rfl ?_
  refine tq_if_lt (E := E_Scan_append d) (pc := 4) (tgt := 41) (cks_at k_Scan_append 3 rfl rfl) (by decide) ?_ ?_
  · exact tq_sub [] rfl (hkx41 M)
  · refine tq_aload_n 0 (E := E_Scan_append d) (pc := 7) (cks_at k_Scan_append 4 rfl rfl) rfl ?_
    refine tq_getR (j := 2) (E := E_Scan_append d) (pc := 8) (cks_at k_Scan_append 5 rfl rfl) fo_Scan_9 so_1 rfl sp_1_0 ?_
    refine tq_aload_n 0 (E := E_Scan_append d) (pc := 11) (cks_at k_Scan_append 6 rfl rfl) rfl ?_
    refine tq_getI (E := E_Scan_append d) (pc := 12) (cks_at k_Scan_append 7 rfl rfl) fo_Scan_15 so_1 rfl (by decide) ?_
    refine tq_iload_n 1 (E := E_Scan_append d) (pc := 15) (cks_at k_Scan_append 8 rfl rfl) rfl ?_
    refine tq_iload_n 2 (E := E_Scan_append d) (pc := 16) (cks_at k_Scan_append 9 rfl rfl) rfl ?_
    refine tq_ishr (E := E_Scan_append d) (pc := 17) (cks_at k_Scan_append 10 rfl rfl) ?_
    refine tq_sipush (E := E_Scan_append d) (pc := 18) (cks_at k_Scan_append 11 rfl rfl) (by decide) (by decide) ?_
    refine tq_iand (E := E_Scan_append d) (pc := 21) (cks_at k_Scan_append 12 rfl rfl) ?_
    refine tq_S3 (E := E_Scan_append d) (pc := 22) (cks_at k_Scan_append 13 rfl rfl) mk_BT_setCell lk_Scan_19 (Nat.le_of_ble_eq_true rfl) (c_BT_setCell (d + 0) 2 sa_2 (M 1 1) (and32 (shr32 v1 v2) 255) M) (k_V fun M1 => ?_)
    refine tq_aload_n 0 (E := E_Scan_append d) (pc := 25) (cks_at k_Scan_append 14 rfl rfl) rfl ?_
    refine tq_dup (E := E_Scan_append d) (pc := 26) (cks_at k_Scan_append 15 rfl rfl) rfl ?_
    refine tq_getI (E := E_Scan_append d) (pc := 27) (cks_at k_Scan_append 16 rfl rfl) fo_Scan_15 so_1 rfl (by decide) ?_
    refine tq_iconst (E := E_Scan_append d) (pc := 30) (cks_at k_Scan_append 17 rfl rfl) ?_
    refine tq_iadd (E := E_Scan_append d) (pc := 31) (cks_at k_Scan_append 18 rfl rfl) ?_
    refine tq_putI (E := E_Scan_append d) (pc := 32) (cks_at k_Scan_append 19 rfl rfl) fo_Scan_15 so_1 rfl po_5_1 (fun M2 => ?_)
    refine tq_iinc 2 (E := E_Scan_append d) (pc := 35) (cks_at k_Scan_append 20 rfl rfl) rfl (show 2 < 3 by decide) rfl ?_
    refine tq_goto (tgt := 3) (E := E_Scan_append d) (pc := 38) (cks_at k_Scan_append 21 rfl rfl) (by decide) ?_
    exact tq_sub [1, 2, 0] rfl (hkH v1 (v2 + (-8)) M2)
def f_Scan_append_L3 (kx41 : Mm → Option (Mm)) : Nat → Int × Int × Mm → Option (Mm) := lp fun kH s => f_Scan_append_B3 (fun v1 v2 M => kH (v1, v2, M)) kx41 s.1 s.2.1 s.2.2
set_option maxRecDepth 20000 in
set_option maxHeartbeats 4000000 in
theorem w_Scan_append_L3 (d : Nat) (kx41 : Mm → Option (Mm)) (hkx41 : ∀  (M : Mm), T (E_Scan_append d) injV 41 [] [] M (kx41 M)) (n : Nat) (s : Int × Int × Mm) : T (E_Scan_append d) injV 3 [(0, .ref 1), (1, vI s.1), (2, vI s.2.1)] [] s.2.2 (f_Scan_append_L3 kx41 n s) :=
  tq_lp (fun s => [(0, .ref 1), (1, vI s.1), (2, vI s.2.1)]) (fun s => s.2.2) (fun kH hH s => w_Scan_append_B3 d (fun v1 v2 M => kH (v1, v2, M)) kx41 (fun v1 v2 M => hH (v1, v2, M)) hkx41 s.1 s.2.1 s.2.2) n s
def f_Scan_append (v1 : Int) (M : Mm) : Option (Mm) :=
  f_Scan_append_L3 (fun M3 => some M3) FU (v1, 24, M)
set_option maxRecDepth 20000 in
set_option maxHeartbeats 4000000 in
theorem c_Scan_append (d : Nat) (v1 : Int) (M : Mm) (Q : Option Value → Mm → Prop) (h : sat injV (f_Scan_append v1 M) Q) : Ct (d + 2) y_Scan_append [.ref 1, vI v1] M Q := by
  refine ct_in (d := d + 1) mk_Scan_append (Nat.le_of_ble_eq_true rfl) (?_ : T (E_Scan_append d) injV 0 [(0, .ref 1), (1, vI v1)] [] M (f_Scan_append v1 M)) h
  unfold f_Scan_append
  refine tq_bipush (E := E_Scan_append d) (pc := 0) (cks_at k_Scan_append 0 rfl rfl) (by decide) (by decide) ?_
  refine tq_istore_n (E := E_Scan_append d) (pc := 2) (cks_at k_Scan_append 1 rfl rfl) (show 2 < 3 by decide) rfl ?_
  exact tq_sub [1, 2, 0] rfl (w_Scan_append_L3 d _ (fun M3 => by
      exact tq_vret (E := E_Scan_append d) (pc := 41) (cks_at k_Scan_append 22 rfl rfl) rfl) FU (v1, 24, M))
abbrev E_BT_feed (d : Nat) : Ev := (Ct (d + 2), "BreathTown", prog_1_method_2_code, 6, False, 0, (fun _ => 0), (Option.some Jvm.ClassFile.FieldType.int))
def f_BT_feed (v1 : Int) (v2 : Int) (v3 : Int) (v4 : Int) (v5 : Int) (M : Mm) : Option (Int × Mm) :=
  if i32 ((M 1 1) + 20) ≤ i32 1600 then
    bV (f_Scan_append v1 M) (fun M1 =>
    bV (f_Scan_append v2 M1) (fun M2 =>
    bV (f_Scan_append v3 M2) (fun M3 =>
    bV (f_Scan_append v4 M3) (fun M4 =>
    bV (f_Scan_append v5 M4) (fun M5 =>
    some (M5 1 1, M5))))))
  else
    bI (f_BT_refused 0 M) (fun r7 M6 =>
    some (r7, M6))
set_option maxRecDepth 20000 in
set_option maxHeartbeats 4000000 in
theorem c_BT_feed (d : Nat) (v1 : Int) (v2 : Int) (v3 : Int) (v4 : Int) (v5 : Int) (M : Mm) (Q : Option Value → Mm → Prop) (h : sat injI (f_BT_feed v1 v2 v3 v4 v5 M) Q) : Ct (d + 3) y_BT_feed [.ref 0, vI v1, vI v2, vI v3, vI v4, vI v5] M Q := by
  refine ct_in (d := d + 2) mk_BT_feed (Nat.le_of_ble_eq_true rfl) (?_ : T (E_BT_feed d) injI 0 [(0, .ref 0), (1, vI v1), (2, vI v2), (3, vI v3), (4, vI v4), (5, vI v5)] [] M (f_BT_feed v1 v2 v3 v4 v5 M)) h
  unfold f_BT_feed
  refine tq_aload_n 0 (E := E_BT_feed d) (pc := 0) (cks_at k_BT_feed 0 rfl rfl) rfl ?_
  refine tq_getR (j := 1) (E := E_BT_feed d) (pc := 1) (cks_at k_BT_feed 1 rfl rfl) fo_BT_10 so_0 rfl sp_0_0 ?_
  refine tq_getI (E := E_BT_feed d) (pc := 4) (cks_at k_BT_feed 2 rfl rfl) fo_BT_102 so_1 rfl (by decide) ?_
  refine tq_bipush (E := E_BT_feed d) (pc := 7) (cks_at k_BT_feed 3 rfl rfl) (by decide) (by decide) ?_
  refine tq_iadd (E := E_BT_feed d) (pc := 9) (cks_at k_BT_feed 4 rfl rfl) ?_
  refine tq_sipush (E := E_BT_feed d) (pc := 10) (cks_at k_BT_feed 5 rfl rfl) (by decide) (by decide) ?_
  refine tq_icmp_le (E := E_BT_feed d) (pc := 13) (tgt := 22) (cks_at k_BT_feed 6 rfl rfl) (by decide) ?_ ?_
  · refine tq_aload_n 0 (E := E_BT_feed d) (pc := 22) (cks_at k_BT_feed 11 rfl rfl) rfl ?_
    refine tq_getR (j := 1) (E := E_BT_feed d) (pc := 23) (cks_at k_BT_feed 12 rfl rfl) fo_BT_10 so_0 rfl sp_0_0 ?_
    refine tq_iload_n 1 (E := E_BT_feed d) (pc := 26) (cks_at k_BT_feed 13 rfl rfl) rfl ?_
    refine tq_V1 (E := E_BT_feed d) (pc := 27) (cks_at k_BT_feed 14 rfl rfl) mk_Scan_append lk_BT_109 rc_1 (Nat.le_of_ble_eq_true rfl) (c_Scan_append (d + 0) v1 M) (k_V fun M1 => ?_)
    refine tq_aload_n 0 (E := E_BT_feed d) (pc := 30) (cks_at k_BT_feed 15 rfl rfl) rfl ?_
    refine tq_getR (j := 1) (E := E_BT_feed d) (pc := 31) (cks_at k_BT_feed 16 rfl rfl) fo_BT_10 so_0 rfl sp_0_0 ?_
    refine tq_iload_n 2 (E := E_BT_feed d) (pc := 34) (cks_at k_BT_feed 17 rfl rfl) rfl ?_
    refine tq_V1 (E := E_BT_feed d) (pc := 35) (cks_at k_BT_feed 18 rfl rfl) mk_Scan_append lk_BT_109 rc_1 (Nat.le_of_ble_eq_true rfl) (c_Scan_append (d + 0) v2 M1) (k_V fun M2 => ?_)
    refine tq_aload_n 0 (E := E_BT_feed d) (pc := 38) (cks_at k_BT_feed 19 rfl rfl) rfl ?_
    refine tq_getR (j := 1) (E := E_BT_feed d) (pc := 39) (cks_at k_BT_feed 20 rfl rfl) fo_BT_10 so_0 rfl sp_0_0 ?_
    refine tq_iload_n 3 (E := E_BT_feed d) (pc := 42) (cks_at k_BT_feed 21 rfl rfl) rfl ?_
    refine tq_V1 (E := E_BT_feed d) (pc := 43) (cks_at k_BT_feed 22 rfl rfl) mk_Scan_append lk_BT_109 rc_1 (Nat.le_of_ble_eq_true rfl) (c_Scan_append (d + 0) v3 M2) (k_V fun M3 => ?_)
    refine tq_aload_n 0 (E := E_BT_feed d) (pc := 46) (cks_at k_BT_feed 23 rfl rfl) rfl ?_
    refine tq_getR (j := 1) (E := E_BT_feed d) (pc := 47) (cks_at k_BT_feed 24 rfl rfl) fo_BT_10 so_0 rfl sp_0_0 ?_
    refine tq_iload 4 (E := E_BT_feed d) (pc := 50) (cks_at k_BT_feed 25 rfl rfl) rfl ?_
    refine tq_V1 (E := E_BT_feed d) (pc := 52) (cks_at k_BT_feed 26 rfl rfl) mk_Scan_append lk_BT_109 rc_1 (Nat.le_of_ble_eq_true rfl) (c_Scan_append (d + 0) v4 M3) (k_V fun M4 => ?_)
    refine tq_aload_n 0 (E := E_BT_feed d) (pc := 55) (cks_at k_BT_feed 27 rfl rfl) rfl ?_
    refine tq_getR (j := 1) (E := E_BT_feed d) (pc := 56) (cks_at k_BT_feed 28 rfl rfl) fo_BT_10 so_0 rfl sp_0_0 ?_
    refine tq_iload 5 (E := E_BT_feed d) (pc := 59) (cks_at k_BT_feed 29 rfl rfl) rfl ?_
    refine tq_V1 (E := E_BT_feed d) (pc := 61) (cks_at k_BT_feed 30 rfl rfl) mk_Scan_append lk_BT_109 rc_1 (Nat.le_of_ble_eq_true rfl) (c_Scan_append (d + 0) v5 M4) (k_V fun M5 => ?_)
    refine tq_aload_n 0 (E := E_BT_feed d) (pc := 64) (cks_at k_BT_feed 31 rfl rfl) rfl ?_
    refine tq_getR (j := 1) (E := E_BT_feed d) (pc := 65) (cks_at k_BT_feed 32 rfl rfl) fo_BT_10 so_0 rfl sp_0_0 ?_
    refine tq_getI (E := E_BT_feed d) (pc := 68) (cks_at k_BT_feed 33 rfl rfl) fo_BT_102 so_1 rfl (by decide) ?_
    exact tq_iret (E := E_BT_feed d) (pc := 71) (cks_at k_BT_feed 34 rfl rfl) rfl
  · refine tq_aload_n 0 (E := E_BT_feed d) (pc := 16) (cks_at k_BT_feed 7 rfl rfl) rfl ?_
    refine tq_iconst (E := E_BT_feed d) (pc := 17) (cks_at k_BT_feed 8 rfl rfl) ?_
    refine tq_V1 (E := E_BT_feed d) (pc := 18) (cks_at k_BT_feed 9 rfl rfl) mk_BT_refused lk_BT_105 rc_0 (Nat.le_of_ble_eq_true rfl) (c_BT_refused (d + 0) 0 M) (k_I fun r7 M6 => ?_)
    exact tq_iret (E := E_BT_feed d) (pc := 21) (cks_at k_BT_feed 10 rfl rfl) rfl
