abbrev E_M_street (d : Nat) : Ev := (Ct (d + 5), "BreathTownModel", prog_14_method_75_code, 3, False, 0, (fun _ => 0), (Option.some Jvm.ClassFile.FieldType.int))
def f_M_street (v1 : Int) (v2 : Int) (M : Mm) : Option (Int × Mm) :=
  bI (f_M_isStreet v1 M) (fun r2 M1 =>
  if ¬ i32 r2 = 0 then
    if i32 v2 = 0 then
      bI (f_M_endOf v1 v2 M1) (fun r5 M4 =>
      some (r5, M4))
    else
    if i32 v2 = 1 then
      bI (f_M_endOf v1 v2 M1) (fun r8 M7 =>
      some (r8, M7))
    else
    if i32 v2 = 2 then
      bI (f_M_endOf v1 v2 M1) (fun r11 M10 =>
      some (r11, M10))
    else
    if i32 v2 = 3 then
      bI (f_M_endOf v1 v2 M1) (fun r14 M13 =>
      some (r14, M13))
    else
    if i32 v2 = 4 then
      bI (f_M_shiftOf v1 M1) (fun r17 M16 =>
      some (r17, M16))
    else
    if i32 v2 = 5 then
      bI (f_M_shiftOf v1 M1) (fun r20 M19 =>
      bI (f_M_tideOf v1 (M1 108 0) r20 M19) (fun r22 M21 =>
      some (r22, M21)))
    else
    if i32 v2 = 6 then
      bI (f_M_widthOf v1 (M1 108 0) M1) (fun r25 M24 =>
      some (r25, M24))
    else
    some ((-1), M1)
  else
    some ((-1), M1))
set_option maxRecDepth 20000 in
set_option maxHeartbeats 4000000 in
theorem c_M_street (d : Nat) (v1 : Int) (v2 : Int) (M : Mm) (Q : Option Value → Mm → Prop) (h : sat injI (f_M_street v1 v2 M) Q) : Ct (d + 6) y_M_street [.ref 78, vI v1, vI v2] M Q := by
  refine ct_in (d := d + 5) mk_M_street (Nat.le_of_ble_eq_true rfl) (?_ : T (E_M_street d) injI 0 [(0, .ref 78), (1, vI v1), (2, vI v2)] [] M (f_M_street v1 v2 M)) h
  unfold f_M_street
  refine tq_aload_n 0 (E := E_M_street d) (pc := 0) (cks_at k_M_street 0 rfl rfl) rfl ?_
  refine tq_iload_n 1 (E := E_M_street d) (pc := 1) (cks_at k_M_street 1 rfl rfl) rfl ?_
  refine tq_V1 (E := E_M_street d) (pc := 2) (cks_at k_M_street 2 rfl rfl) mk_M_isStreet lk_M_509 rc_78 (Nat.le_of_ble_eq_true rfl) (c_M_isStreet (d + 3) v1 M) (k_I fun r2 M1 => ?_)
  refine tq_if_ne (E := E_M_street d) (pc := 5) (tgt := 10) (cks_at k_M_street 3 rfl rfl) (by decide) ?_ ?_
  · refine tq_iload_n 2 (E := E_M_street d) (pc := 10) (cks_at k_M_street 6 rfl rfl) rfl ?_
    refine tq_tsC (E := E_M_street d) (pc := 11) (tgt := 52) (off := 41) (w := 0) 0 k_M_street_11 (by decide) rfl (by decide) ?_ (fun h3 => ?_)
    · refine tq_aload_n 0 (E := E_M_street d) (pc := 52) (cks_at k_M_street 8 rfl rfl) rfl ?_
      refine tq_iload_n 1 (E := E_M_street d) (pc := 53) (cks_at k_M_street 9 rfl rfl) rfl ?_
      refine tq_iload_n 2 (E := E_M_street d) (pc := 54) (cks_at k_M_street 10 rfl rfl) rfl ?_
      refine tq_V2 (E := E_M_street d) (pc := 55) (cks_at k_M_street 11 rfl rfl) mk_M_endOf lk_M_464 rc_78 (Nat.le_of_ble_eq_true rfl) (c_M_endOf (d + 4) v1 v2 M1) (k_I fun r5 M4 => ?_)
      exact tq_iret (E := E_M_street d) (pc := 58) (cks_at k_M_street 12 rfl rfl) rfl
    refine tq_tsC (E := E_M_street d) (pc := 11) (tgt := 52) (off := 41) (w := 1) 1 k_M_street_11 (by decide) rfl (by decide) ?_ (fun h6 => ?_)
    · refine tq_aload_n 0 (E := E_M_street d) (pc := 52) (cks_at k_M_street 8 rfl rfl) rfl ?_
      refine tq_iload_n 1 (E := E_M_street d) (pc := 53) (cks_at k_M_street 9 rfl rfl) rfl ?_
      refine tq_iload_n 2 (E := E_M_street d) (pc := 54) (cks_at k_M_street 10 rfl rfl) rfl ?_
      refine tq_V2 (E := E_M_street d) (pc := 55) (cks_at k_M_street 11 rfl rfl) mk_M_endOf lk_M_464 rc_78 (Nat.le_of_ble_eq_true rfl) (c_M_endOf (d + 4) v1 v2 M1) (k_I fun r8 M7 => ?_)
      exact tq_iret (E := E_M_street d) (pc := 58) (cks_at k_M_street 12 rfl rfl) rfl
    refine tq_tsC (E := E_M_street d) (pc := 11) (tgt := 52) (off := 41) (w := 2) 2 k_M_street_11 (by decide) rfl (by decide) ?_ (fun h9 => ?_)
    · refine tq_aload_n 0 (E := E_M_street d) (pc := 52) (cks_at k_M_street 8 rfl rfl) rfl ?_
      refine tq_iload_n 1 (E := E_M_street d) (pc := 53) (cks_at k_M_street 9 rfl rfl) rfl ?_
      refine tq_iload_n 2 (E := E_M_street d) (pc := 54) (cks_at k_M_street 10 rfl rfl) rfl ?_
      refine tq_V2 (E := E_M_street d) (pc := 55) (cks_at k_M_street 11 rfl rfl) mk_M_endOf lk_M_464 rc_78 (Nat.le_of_ble_eq_true rfl) (c_M_endOf (d + 4) v1 v2 M1) (k_I fun r11 M10 => ?_)
      exact tq_iret (E := E_M_street d) (pc := 58) (cks_at k_M_street 12 rfl rfl) rfl
    refine tq_tsC (E := E_M_street d) (pc := 11) (tgt := 52) (off := 41) (w := 3) 3 k_M_street_11 (by decide) rfl (by decide) ?_ (fun h12 => ?_)
    · refine tq_aload_n 0 (E := E_M_street d) (pc := 52) (cks_at k_M_street 8 rfl rfl) rfl ?_
      refine tq_iload_n 1 (E := E_M_street d) (pc := 53) (cks_at k_M_street 9 rfl rfl) rfl ?_
      refine tq_iload_n 2 (E := E_M_street d) (pc := 54) (cks_at k_M_street 10 rfl rfl) rfl ?_
      refine tq_V2 (E := E_M_street d) (pc := 55) (cks_at k_M_street 11 rfl rfl) mk_M_endOf lk_M_464 rc_78 (Nat.le_of_ble_eq_true rfl) (c_M_endOf (d + 4) v1 v2 M1) (k_I fun r14 M13 => ?_)
      exact tq_iret (E := E_M_street d) (pc := 58) (cks_at k_M_street 12 rfl rfl) rfl
    refine tq_tsC (E := E_M_street d) (pc := 11) (tgt := 59) (off := 48) (w := 4) 4 k_M_street_11 (by decide) rfl (by decide) ?_ (fun h15 => ?_)
    · refine tq_aload_n 0 (E := E_M_street d) (pc := 59) (cks_at k_M_street 13 rfl rfl) rfl ?_
      refine tq_iload_n 1 (E := E_M_street d) (pc := 60) (cks_at k_M_street 14 rfl rfl) rfl ?_
      refine tq_V1 (E := E_M_street d) (pc := 61) (cks_at k_M_street 15 rfl rfl) mk_M_shiftOf lk_M_431 rc_78 (Nat.le_of_ble_eq_true rfl) (c_M_shiftOf (d + 4) v1 M1) (k_I fun r17 M16 => ?_)
      exact tq_iret (E := E_M_street d) (pc := 64) (cks_at k_M_street 16 rfl rfl) rfl
    refine tq_tsC (E := E_M_street d) (pc := 11) (tgt := 65) (off := 54) (w := 5) 5 k_M_street_11 (by decide) rfl (by decide) ?_ (fun h18 => ?_)
    · refine tq_aload_n 0 (E := E_M_street d) (pc := 65) (cks_at k_M_street 17 rfl rfl) rfl ?_
      refine tq_iload_n 1 (E := E_M_street d) (pc := 66) (cks_at k_M_street 18 rfl rfl) rfl ?_
      refine tq_aload_n 0 (E := E_M_street d) (pc := 67) (cks_at k_M_street 19 rfl rfl) rfl ?_
      refine tq_getR (j := 108) (E := E_M_street d) (pc := 68) (cks_at k_M_street 20 rfl rfl) fo_M_103 so_78 rfl sp_78_45 ?_
      refine tq_iconst (E := E_M_street d) (pc := 71) (cks_at k_M_street 21 rfl rfl) ?_
      refine tq_ialdC 0 (E := E_M_street d) (pc := 72) (cks_at k_M_street 22 rfl rfl) sa_108 sn_108 (by decide) ?_
      refine tq_aload_n 0 (E := E_M_street d) (pc := 73) (cks_at k_M_street 23 rfl rfl) rfl ?_
      refine tq_iload_n 1 (E := E_M_street d) (pc := 74) (cks_at k_M_street 24 rfl rfl) rfl ?_
      refine tq_V1 (E := E_M_street d) (pc := 75) (cks_at k_M_street 25 rfl rfl) mk_M_shiftOf lk_M_431 rc_78 (Nat.le_of_ble_eq_true rfl) (c_M_shiftOf (d + 4) v1 M1) (k_I fun r20 M19 => ?_)
      refine tq_V3 (E := E_M_street d) (pc := 78) (cks_at k_M_street 26 rfl rfl) mk_M_tideOf lk_M_421 rc_78 (Nat.le_of_ble_eq_true rfl) (c_M_tideOf (d + 3) v1 (M1 108 0) r20 M19) (k_I fun r22 M21 => ?_)
      exact tq_iret (E := E_M_street d) (pc := 81) (cks_at k_M_street 27 rfl rfl) rfl
    refine tq_tsC (E := E_M_street d) (pc := 11) (tgt := 82) (off := 71) (w := 6) 6 k_M_street_11 (by decide) rfl (by decide) ?_ (fun h23 => ?_)
    · refine tq_aload_n 0 (E := E_M_street d) (pc := 82) (cks_at k_M_street 28 rfl rfl) rfl ?_
      refine tq_iload_n 1 (E := E_M_street d) (pc := 83) (cks_at k_M_street 29 rfl rfl) rfl ?_
      refine tq_aload_n 0 (E := E_M_street d) (pc := 84) (cks_at k_M_street 30 rfl rfl) rfl ?_
      refine tq_getR (j := 108) (E := E_M_street d) (pc := 85) (cks_at k_M_street 31 rfl rfl) fo_M_103 so_78 rfl sp_78_45 ?_
      refine tq_iconst (E := E_M_street d) (pc := 88) (cks_at k_M_street 32 rfl rfl) ?_
      refine tq_ialdC 0 (E := E_M_street d) (pc := 89) (cks_at k_M_street 33 rfl rfl) sa_108 sn_108 (by decide) ?_
      refine tq_V2 (E := E_M_street d) (pc := 90) (cks_at k_M_street 34 rfl rfl) mk_M_widthOf lk_M_437 rc_78 (Nat.le_of_ble_eq_true rfl) (c_M_widthOf (d + 0) v1 (M1 108 0) M1) (k_I fun r25 M24 => ?_)
      exact tq_iret (E := E_M_street d) (pc := 93) (cks_at k_M_street 35 rfl rfl) rfl
    refine tq_tsD (E := E_M_street d) (pc := 11) (tgt := 94) k_M_street_11 (by omega) (by decide) ?_
    refine tq_iconst (E := E_M_street d) (pc := 94) (cks_at k_M_street 36 rfl rfl) ?_
    exact tq_iret (E := E_M_street d) (pc := 95) (cks_at k_M_street 37 rfl rfl) rfl
  · refine tq_iconst (E := E_M_street d) (pc := 8) (cks_at k_M_street 4 rfl rfl) ?_
    exact tq_iret (E := E_M_street d) (pc := 9) (cks_at k_M_street 5 rfl rfl) rfl
abbrev E_BT_street (d : Nat) : Ev := (Ct (d + 5), "BreathTown", prog_1_method_8_code, 3, False, 0, (fun _ => 0), (Option.some Jvm.ClassFile.FieldType.int))
def f_BT_street (v1 : Int) (v2 : Int) (M : Mm) : Option (Int × Mm) :=
  bI (f_Told_hasA 3 1 v1 M) (fun r2 M1 =>
  if ¬ i32 r2 = 0 then
    if i32 v2 = 0 then
      bI (f_BT_cell 6 v1 M1) (fun r5 M4 =>
      some (r5, M4))
    else
    if i32 v2 = 1 then
      bI (f_BT_cell 7 v1 M1) (fun r8 M7 =>
      some (r8, M7))
    else
    if i32 v2 = 2 then
      bI (f_BT_cell 8 v1 M1) (fun r11 M10 =>
      some (r11, M10))
    else
    if i32 v2 = 3 then
      bI (f_BT_cell 9 v1 M1) (fun r14 M13 =>
      some (r14, M13))
    else
    if i32 v2 = 4 then
      bI (f_BT_cell 40 v1 M1) (fun r17 M16 =>
      some (r17, M16))
    else
    if i32 v2 = 5 then
      bI (f_Widths_tideAt v1 (M1 39 8) M1) (fun r20 M19 =>
      some (r20, M19))
    else
    if i32 v2 = 6 then
      bI (f_Widths_widthAt v1 (M1 39 8) M1) (fun r23 M22 =>
      some (r23, M22))
    else
    some ((-1), M1)
  else
    some ((-1), M1))
set_option maxRecDepth 20000 in
set_option maxHeartbeats 4000000 in
theorem c_BT_street (d : Nat) (v1 : Int) (v2 : Int) (M : Mm) (Q : Option Value → Mm → Prop) (h : sat injI (f_BT_street v1 v2 M) Q) : Ct (d + 6) y_BT_street [.ref 0, vI v1, vI v2] M Q := by
  refine ct_in (d := d + 5) mk_BT_street (Nat.le_of_ble_eq_true rfl) (?_ : T (E_BT_street d) injI 0 [(0, .ref 0), (1, vI v1), (2, vI v2)] [] M (f_BT_street v1 v2 M)) h
  unfold f_BT_street
  refine tq_aload_n 0 (E := E_BT_street d) (pc := 0) (cks_at k_BT_street 0 rfl rfl) rfl ?_
  refine tq_getR (j := 3) (E := E_BT_street d) (pc := 1) (cks_at k_BT_street 1 rfl rfl) fo_BT_19 so_0 rfl sp_0_1 ?_
  refine tq_iconst (E := E_BT_street d) (pc := 4) (cks_at k_BT_street 2 rfl rfl) ?_
  refine tq_iload_n 1 (E := E_BT_street d) (pc := 5) (cks_at k_BT_street 3 rfl rfl) rfl ?_
  refine tq_V2 (E := E_BT_street d) (pc := 6) (cks_at k_BT_street 4 rfl rfl) mk_Told_hasA lk_BT_143 (isTold_rc (Or.inl rfl)) (Nat.le_of_ble_eq_true rfl) (c_Told_hasA (d + 2) 3 (Or.inl rfl) 1 v1 M) (k_I fun r2 M1 => ?_)
  refine tq_if_ne (E := E_BT_street d) (pc := 9) (tgt := 14) (cks_at k_BT_street 5 rfl rfl) (by decide) ?_ ?_
  · refine tq_iload_n 2 (E := E_BT_street d) (pc := 14) (cks_at k_BT_street 8 rfl rfl) rfl ?_
    refine tq_tsC (E := E_BT_street d) (pc := 15) (tgt := 56) (off := 41) (w := 0) 0 k_BT_street_15 (by decide) rfl (by decide) ?_ (fun h3 => ?_)
    · refine tq_aload_n 0 (E := E_BT_street d) (pc := 56) (cks_at k_BT_street 10 rfl rfl) rfl ?_
      refine tq_getR (j := 3) (E := E_BT_street d) (pc := 57) (cks_at k_BT_street 11 rfl rfl) fo_BT_19 so_0 rfl sp_0_1 ?_
      refine tq_getR (j := 6) (E := E_BT_street d) (pc := 60) (cks_at k_BT_street 12 rfl rfl) fo_BT_154 so_3 rfl sp_3_2 ?_
      refine tq_iload_n 1 (E := E_BT_street d) (pc := 63) (cks_at k_BT_street 13 rfl rfl) rfl ?_
      refine tq_S2 (E := E_BT_street d) (pc := 64) (cks_at k_BT_street 14 rfl rfl) mk_BT_cell lk_BT_150 (Nat.le_of_ble_eq_true rfl) (c_BT_cell (d + 4) 6 sa_6 v1 M1) (k_I fun r5 M4 => ?_)
      exact tq_iret (E := E_BT_street d) (pc := 67) (cks_at k_BT_street 15 rfl rfl) rfl
    refine tq_tsC (E := E_BT_street d) (pc := 15) (tgt := 68) (off := 53) (w := 1) 1 k_BT_street_15 (by decide) rfl (by decide) ?_ (fun h6 => ?_)
    · refine tq_aload_n 0 (E := E_BT_street d) (pc := 68) (cks_at k_BT_street 16 rfl rfl) rfl ?_
      refine tq_getR (j := 3) (E := E_BT_street d) (pc := 69) (cks_at k_BT_street 17 rfl rfl) fo_BT_19 so_0 rfl sp_0_1 ?_
      refine tq_getR (j := 7) (E := E_BT_street d) (pc := 72) (cks_at k_BT_street 18 rfl rfl) fo_BT_157 so_3 rfl sp_3_3 ?_
      refine tq_iload_n 1 (E := E_BT_street d) (pc := 75) (cks_at k_BT_street 19 rfl rfl) rfl ?_
      refine tq_S2 (E := E_BT_street d) (pc := 76) (cks_at k_BT_street 20 rfl rfl) mk_BT_cell lk_BT_150 (Nat.le_of_ble_eq_true rfl) (c_BT_cell (d + 4) 7 sa_7 v1 M1) (k_I fun r8 M7 => ?_)
      exact tq_iret (E := E_BT_street d) (pc := 79) (cks_at k_BT_street 21 rfl rfl) rfl
    refine tq_tsC (E := E_BT_street d) (pc := 15) (tgt := 80) (off := 65) (w := 2) 2 k_BT_street_15 (by decide) rfl (by decide) ?_ (fun h9 => ?_)
    · refine tq_aload_n 0 (E := E_BT_street d) (pc := 80) (cks_at k_BT_street 22 rfl rfl) rfl ?_
      refine tq_getR (j := 3) (E := E_BT_street d) (pc := 81) (cks_at k_BT_street 23 rfl rfl) fo_BT_19 so_0 rfl sp_0_1 ?_
      refine tq_getR (j := 8) (E := E_BT_street d) (pc := 84) (cks_at k_BT_street 24 rfl rfl) fo_BT_160 so_3 rfl sp_3_4 ?_
      refine tq_iload_n 1 (E := E_BT_street d) (pc := 87) (cks_at k_BT_street 25 rfl rfl) rfl ?_
      refine tq_S2 (E := E_BT_street d) (pc := 88) (cks_at k_BT_street 26 rfl rfl) mk_BT_cell lk_BT_150 (Nat.le_of_ble_eq_true rfl) (c_BT_cell (d + 4) 8 sa_8 v1 M1) (k_I fun r11 M10 => ?_)
      exact tq_iret (E := E_BT_street d) (pc := 91) (cks_at k_BT_street 27 rfl rfl) rfl
    refine tq_tsC (E := E_BT_street d) (pc := 15) (tgt := 92) (off := 77) (w := 3) 3 k_BT_street_15 (by decide) rfl (by decide) ?_ (fun h12 => ?_)
    · refine tq_aload_n 0 (E := E_BT_street d) (pc := 92) (cks_at k_BT_street 28 rfl rfl) rfl ?_
      refine tq_getR (j := 3) (E := E_BT_street d) (pc := 93) (cks_at k_BT_street 29 rfl rfl) fo_BT_19 so_0 rfl sp_0_1 ?_
      refine tq_getR (j := 9) (E := E_BT_street d) (pc := 96) (cks_at k_BT_street 30 rfl rfl) fo_BT_163 so_3 rfl sp_3_5 ?_
      refine tq_iload_n 1 (E := E_BT_street d) (pc := 99) (cks_at k_BT_street 31 rfl rfl) rfl ?_
      refine tq_S2 (E := E_BT_street d) (pc := 100) (cks_at k_BT_street 32 rfl rfl) mk_BT_cell lk_BT_150 (Nat.le_of_ble_eq_true rfl) (c_BT_cell (d + 4) 9 sa_9 v1 M1) (k_I fun r14 M13 => ?_)
      exact tq_iret (E := E_BT_street d) (pc := 103) (cks_at k_BT_street 33 rfl rfl) rfl
    refine tq_tsC (E := E_BT_street d) (pc := 15) (tgt := 104) (off := 89) (w := 4) 4 k_BT_street_15 (by decide) rfl (by decide) ?_ (fun h15 => ?_)
    · refine tq_aload_n 0 (E := E_BT_street d) (pc := 104) (cks_at k_BT_street 34 rfl rfl) rfl ?_
      refine tq_getR (j := 39) (E := E_BT_street d) (pc := 105) (cks_at k_BT_street 35 rfl rfl) fo_BT_40 so_0 rfl sp_0_4 ?_
      refine tq_getR (j := 40) (E := E_BT_street d) (pc := 108) (cks_at k_BT_street 36 rfl rfl) fo_BT_166 so_39 rfl sp_39_1 ?_
      refine tq_iload_n 1 (E := E_BT_street d) (pc := 111) (cks_at k_BT_street 37 rfl rfl) rfl ?_
      refine tq_S2 (E := E_BT_street d) (pc := 112) (cks_at k_BT_street 38 rfl rfl) mk_BT_cell lk_BT_150 (Nat.le_of_ble_eq_true rfl) (c_BT_cell (d + 4) 40 sa_40 v1 M1) (k_I fun r17 M16 => ?_)
      exact tq_iret (E := E_BT_street d) (pc := 115) (cks_at k_BT_street 39 rfl rfl) rfl
    refine tq_tsC (E := E_BT_street d) (pc := 15) (tgt := 116) (off := 101) (w := 5) 5 k_BT_street_15 (by decide) rfl (by decide) ?_ (fun h18 => ?_)
    · refine tq_aload_n 0 (E := E_BT_street d) (pc := 116) (cks_at k_BT_street 40 rfl rfl) rfl ?_
      refine tq_getR (j := 46) (E := E_BT_street d) (pc := 117) (cks_at k_BT_street 41 rfl rfl) fo_BT_49 so_0 rfl sp_0_5 ?_
      refine tq_iload_n 1 (E := E_BT_street d) (pc := 120) (cks_at k_BT_street 42 rfl rfl) rfl ?_
      refine tq_aload_n 0 (E := E_BT_street d) (pc := 121) (cks_at k_BT_street 43 rfl rfl) rfl ?_
      refine tq_getR (j := 39) (E := E_BT_street d) (pc := 122) (cks_at k_BT_street 44 rfl rfl) fo_BT_40 so_0 rfl sp_0_4 ?_
      refine tq_getI (E := E_BT_street d) (pc := 125) (cks_at k_BT_street 45 rfl rfl) fo_BT_134 so_39 rfl (by decide) ?_
      refine tq_V2 (E := E_BT_street d) (pc := 128) (cks_at k_BT_street 46 rfl rfl) mk_Widths_tideAt lk_BT_169 rc_46 (Nat.le_of_ble_eq_true rfl) (c_Widths_tideAt (d + 2) v1 (M1 39 8) M1) (k_I fun r20 M19 => ?_)
      exact tq_iret (E := E_BT_street d) (pc := 131) (cks_at k_BT_street 47 rfl rfl) rfl
    refine tq_tsC (E := E_BT_street d) (pc := 15) (tgt := 132) (off := 117) (w := 6) 6 k_BT_street_15 (by decide) rfl (by decide) ?_ (fun h21 => ?_)
    · refine tq_aload_n 0 (E := E_BT_street d) (pc := 132) (cks_at k_BT_street 48 rfl rfl) rfl ?_
      refine tq_getR (j := 46) (E := E_BT_street d) (pc := 133) (cks_at k_BT_street 49 rfl rfl) fo_BT_49 so_0 rfl sp_0_5 ?_
      refine tq_iload_n 1 (E := E_BT_street d) (pc := 136) (cks_at k_BT_street 50 rfl rfl) rfl ?_
      refine tq_aload_n 0 (E := E_BT_street d) (pc := 137) (cks_at k_BT_street 51 rfl rfl) rfl ?_
      refine tq_getR (j := 39) (E := E_BT_street d) (pc := 138) (cks_at k_BT_street 52 rfl rfl) fo_BT_40 so_0 rfl sp_0_4 ?_
      refine tq_getI (E := E_BT_street d) (pc := 141) (cks_at k_BT_street 53 rfl rfl) fo_BT_134 so_39 rfl (by decide) ?_
      refine tq_V2 (E := E_BT_street d) (pc := 144) (cks_at k_BT_street 54 rfl rfl) mk_Widths_widthAt lk_BT_173 rc_46 (Nat.le_of_ble_eq_true rfl) (c_Widths_widthAt (d + 0) v1 (M1 39 8) M1) (k_I fun r23 M22 => ?_)
      exact tq_iret (E := E_BT_street d) (pc := 147) (cks_at k_BT_street 55 rfl rfl) rfl
    refine tq_tsD (E := E_BT_street d) (pc := 15) (tgt := 148) k_BT_street_15 (by omega) (by decide) ?_
    refine tq_iconst (E := E_BT_street d) (pc := 148) (cks_at k_BT_street 56 rfl rfl) ?_
    exact tq_iret (E := E_BT_street d) (pc := 149) (cks_at k_BT_street 57 rfl rfl) rfl
  · refine tq_iconst (E := E_BT_street d) (pc := 12) (cks_at k_BT_street 6 rfl rfl) ?_
    exact tq_iret (E := E_BT_street d) (pc := 13) (cks_at k_BT_street 7 rfl rfl) rfl
abbrev E_M_letter (d : Nat) : Ev := (Ct (d + 1), "BreathTownModel", prog_14_method_74_code, 9, False, 0, (fun _ => 0), (Option.some Jvm.ClassFile.FieldType.int))
def f_M_letter_B69 (kH : Int → Int → Int → Int → Mm → Option (Int × Mm)) (kx90 : Int → Int → Int → Mm → Option (Int × Mm)) (v3 v4 v6 v7 : Int) (M : Mm) : Option (Int × Mm) :=
  if i32 (cmp64 v7 0) ≤ 0 then
    kx90 v3 v4 v6 M
  else
    kH v3 v4 (v6 + 1) ((i64 v7).tdiv (i64 27)) M
set_option maxRecDepth 20000 in
set_option maxHeartbeats 4000000 in
theorem w_M_letter_B69 (d : Nat) (kH : Int → Int → Int → Int → Mm → Option (Int × Mm)) (kx90 : Int → Int → Int → Mm → Option (Int × Mm)) (hkH : ∀ (v3 v4 v6 v7 : Int) (M : Mm), T (E_M_letter d) injI 69 [(3, vI v3), (4, vJ v4), (6, vI v6), (7, vJ v7)] [] M (kH v3 v4 v6 v7 M)) (hkx90 : ∀ (v3 v4 v6 : Int) (M : Mm), T (E_M_letter d) injI 90 [(3, vI v3), (4, vJ v4), (6, vI v6)] [] M (kx90 v3 v4 v6 M)) (v3 v4 v6 v7 : Int) (M : Mm) : T (E_M_letter d) injI 69 [(3, vI v3), (4, vJ v4), (6, vI v6), (7, vJ v7)] [] M (f_M_letter_B69 kH kx90 v3 v4 v6 v7 M) := by
  unfold f_M_letter_B69
  refine tq_lload 3 (E := E_M_letter d) (pc := 69) (cks_at k_M_letter 43 rfl rfl) rfl ?_
  refine tq_lconst0 (E := E_M_letter d) (pc := 71) (cks_at k_M_letter 44 rfl rfl) ?_
  refine tq_lcmp (E := E_M_letter d) (pc := 72) (cks_at k_M_letter 45 rfl rfl) ?_
  refine tq_if_le (E := E_M_letter d) (pc := 73) (tgt := 90) (cks_at k_M_letter 46 rfl rfl) (by decide) ?_ ?_
  · exact tq_sub [0, 1, 2] rfl (hkx90 v3 v4 v6 M)
  · refine tq_iinc 2 (E := E_M_letter d) (pc := 76) (cks_at k_M_letter 47 rfl rfl) rfl (show 6 < 9 by decide) rfl ?_
    refine tq_lload 3 (E := E_M_letter d) (pc := 79) (cks_at k_M_letter 48 rfl rfl) rfl ?_
    refine tq_ldc2 (z := 27) (E := E_M_letter d) (pc := 81) (cks_at k_M_letter 49 rfl rfl) cst_M_276 ?_
    refine tq_ldivC (E := E_M_letter d) (pc := 84) (cks_at k_M_letter 50 rfl rfl) (by decide) ?_
    refine tq_lstore (E := E_M_letter d) (pc := 85) (cks_at k_M_letter 51 rfl rfl) (show 7 + 1 < 9 by decide) rfl ?_
    refine tq_goto (tgt := 69) (E := E_M_letter d) (pc := 87) (cks_at k_M_letter 52 rfl rfl) (by decide) ?_
    exact tq_sub [2, 3, 1, 0] rfl (hkH v3 v4 (v6 + 1) ((i64 v7).tdiv (i64 27)) M)
def f_M_letter_L69 (kx90 : Int → Int → Int → Mm → Option (Int × Mm)) : Nat → Int × Int × Int × Int × Mm → Option (Int × Mm) := lp fun kH s => f_M_letter_B69 (fun v3 v4 v6 v7 M => kH (v3, v4, v6, v7, M)) kx90 s.1 s.2.1 s.2.2.1 s.2.2.2.1 s.2.2.2.2
set_option maxRecDepth 20000 in
set_option maxHeartbeats 4000000 in
theorem w_M_letter_L69 (d : Nat) (kx90 : Int → Int → Int → Mm → Option (Int × Mm)) (hkx90 : ∀ (v3 v4 v6 : Int) (M : Mm), T (E_M_letter d) injI 90 [(3, vI v3), (4, vJ v4), (6, vI v6)] [] M (kx90 v3 v4 v6 M)) (n : Nat) (s : Int × Int × Int × Int × Mm) : T (E_M_letter d) injI 69 [(3, vI s.1), (4, vJ s.2.1), (6, vI s.2.2.1), (7, vJ s.2.2.2.1)] [] s.2.2.2.2 (f_M_letter_L69 kx90 n s) :=
  tq_lp (fun s => [(3, vI s.1), (4, vJ s.2.1), (6, vI s.2.2.1), (7, vJ s.2.2.2.1)]) (fun s => s.2.2.2.2) (fun kH hH s => w_M_letter_B69 d (fun v3 v4 v6 v7 M => kH (v3, v4, v6, v7, M)) kx90 (fun v3 v4 v6 v7 M => hH (v3, v4, v6, v7, M)) hkx90 s.1 s.2.1 s.2.2.1 s.2.2.2.1 s.2.2.2.2) n s
def f_M_letter_B104 (kH : Int → Int → Int → Mm → Option (Int × Mm)) (v3 v4 v7 : Int) (M : Mm) : Option (Int × Mm) :=
  if i32 v7 ≤ i32 v3 then
    some ((i64 v4).tmod (i64 27), M)
  else
    kH v3 ((i64 v4).tdiv (i64 27)) (v7 + (-1)) M
set_option maxRecDepth 20000 in
set_option maxHeartbeats 4000000 in
theorem w_M_letter_B104 (d : Nat) (kH : Int → Int → Int → Mm → Option (Int × Mm)) (hkH : ∀ (v3 v4 v7 : Int) (M : Mm), T (E_M_letter d) injI 104 [(3, vI v3), (4, vJ v4), (7, vI v7)] [] M (kH v3 v4 v7 M)) (v3 v4 v7 : Int) (M : Mm) : T (E_M_letter d) injI 104 [(3, vI v3), (4, vJ v4), (7, vI v7)] [] M (f_M_letter_B104 kH v3 v4 v7 M) := by
  unfold f_M_letter_B104
  refine tq_iload 2 (E := E_M_letter d) (pc := 104) (cks_at k_M_letter 62 rfl rfl) rfl ?_
  refine tq_iload_n 0 (E := E_M_letter d) (pc := 106) (cks_at k_M_letter 63 rfl rfl) rfl ?_
  refine tq_icmp_le (E := E_M_letter d) (pc := 107) (tgt := 124) (cks_at k_M_letter 64 rfl rfl) (by decide) ?_ ?_
  · refine tq_lload 1 (E := E_M_letter d) (pc := 124) (cks_at k_M_letter 71 rfl rfl) rfl ?_
    refine tq_ldc2 (z := 27) (E := E_M_letter d) (pc := 126) (cks_at k_M_letter 72 rfl rfl) cst_M_276 ?_
    refine tq_lremC (E := E_M_letter d) (pc := 129) (cks_at k_M_letter 73 rfl rfl) (by decide) ?_
    refine tq_l2i (E := E_M_letter d) (pc := 130) (cks_at k_M_letter 74 rfl rfl) ?_
    exact tq_iret (E := E_M_letter d) (pc := 131) (cks_at k_M_letter 75 rfl rfl) rfl
  · refine tq_lload 1 (E := E_M_letter d) (pc := 110) (cks_at k_M_letter 65 rfl rfl) rfl ?_
    refine tq_ldc2 (z := 27) (E := E_M_letter d) (pc := 112) (cks_at k_M_letter 66 rfl rfl) cst_M_276 ?_
    refine tq_ldivC (E := E_M_letter d) (pc := 115) (cks_at k_M_letter 67 rfl rfl) (by decide) ?_
    refine tq_lstore (E := E_M_letter d) (pc := 116) (cks_at k_M_letter 68 rfl rfl) (show 4 + 1 < 9 by decide) rfl ?_
    refine tq_iinc 2 (E := E_M_letter d) (pc := 118) (cks_at k_M_letter 69 rfl rfl) rfl (show 7 < 9 by decide) rfl ?_
    refine tq_goto (tgt := 104) (E := E_M_letter d) (pc := 121) (cks_at k_M_letter 70 rfl rfl) (by decide) ?_
    exact tq_sub [2, 1, 0] rfl (hkH v3 ((i64 v4).tdiv (i64 27)) (v7 + (-1)) M)
def f_M_letter_L104 : Nat → Int × Int × Int × Mm → Option (Int × Mm) := lp fun kH s => f_M_letter_B104 (fun v3 v4 v7 M => kH (v3, v4, v7, M)) s.1 s.2.1 s.2.2.1 s.2.2.2
set_option maxRecDepth 20000 in
set_option maxHeartbeats 4000000 in
theorem w_M_letter_L104 (d : Nat) (n : Nat) (s : Int × Int × Int × Mm) : T (E_M_letter d) injI 104 [(3, vI s.1), (4, vJ s.2.1), (7, vI s.2.2.1)] [] s.2.2.2 (f_M_letter_L104 n s) :=
  tq_lp (fun s => [(3, vI s.1), (4, vJ s.2.1), (7, vI s.2.2.1)]) (fun s => s.2.2.2) (fun kH hH s => w_M_letter_B104 d (fun v3 v4 v7 M => kH (v3, v4, v7, M)) (fun v3 v4 v7 M => hH (v3, v4, v7, M)) s.1 s.2.1 s.2.2.1 s.2.2.2) n s
def f_M_letter (v1 : Int) (v2 : Int) (v3 : Int) (M : Mm) : Option (Int × Mm) :=
  bI (f_M_isIn (i32 v1) 0 2 M) (fun r2 M1 =>
  if i32 r2 = 0 then
    some ((-1), M1)
  else
    gd (0 ≤ i32 (3 + v1) ∧ i32 (3 + v1) < ((6 : Nat) : Int)) <|
    bI (f_M_isIn (i32 v2) 0 (i32 ((M1 98 (i32 (3 + v1)).toNat) - 1)) M1) (fun r4 M3 =>
    if i32 r4 = 0 then
      some ((-1), M3)
    else
      bI (f_M_isIn (i32 v3) 0 5 M3) (fun r6 M5 =>
      if ¬ i32 r6 = 0 then
        gd (0 ≤ i32 ((36 + (12 * v1)) + v2) ∧ i32 ((36 + (12 * v1)) + v2) < ((72 : Nat) : Int)) <|
        f_M_letter_L69 (fun v3 v4 v6 M7 => if i32 v3 < i32 v6 then
              f_M_letter_L104 FU (v3, v4, (v6 - 1), M7)
            else
              some (0, M7)) FU (v3, (M5 99 (i32 ((36 + (12 * v1)) + v2)).toNat), 0, (M5 99 (i32 ((36 + (12 * v1)) + v2)).toNat), M5)
      else
        some ((-1), M5))))
set_option maxRecDepth 20000 in
set_option maxHeartbeats 4000000 in
theorem c_M_letter (d : Nat) (v1 : Int) (v2 : Int) (v3 : Int) (M : Mm) (Q : Option Value → Mm → Prop) (h : sat injI (f_M_letter v1 v2 v3 M) Q) : Ct (d + 2) y_M_letter [.ref 78, vI v1, vI v2, vI v3] M Q := by
  refine ct_in (d := d + 1) mk_M_letter (Nat.le_of_ble_eq_true rfl) (?_ : T (E_M_letter d) injI 0 [(0, .ref 78), (1, vI v1), (2, vI v2), (3, vI v3)] [] M (f_M_letter v1 v2 v3 M)) h
  unfold f_M_letter
  refine tq_iload_n 1 (E := E_M_letter d) (pc := 0) (cks_at k_M_letter 0 rfl rfl) rfl ?_
  refine tq_i2l (E := E_M_letter d) (pc := 1) (cks_at k_M_letter 1 rfl rfl) ?_
  refine tq_lconst0 (E := E_M_letter d) (pc := 2) (cks_at k_M_letter 2 rfl rfl) ?_
  refine tq_ldc2 (z := 2) (E := E_M_letter d) (pc := 3) (cks_at k_M_letter 3 rfl rfl) cst_M_505 ?_
  refine tq_S3 (E := E_M_letter d) (pc := 6) (cks_at k_M_letter 4 rfl rfl) mk_M_isIn lk_M_265 (Nat.le_of_ble_eq_true rfl) (c_M_isIn (d + 0) (i32 v1) 0 2 M) (k_I fun r2 M1 => ?_)
  refine tq_if_eq (E := E_M_letter d) (pc := 9) (tgt := 44) (cks_at k_M_letter 5 rfl rfl) (by decide) ?_ ?_
  · refine tq_iconst (E := E_M_letter d) (pc := 44) (cks_at k_M_letter 26 rfl rfl) ?_
    exact tq_iret (E := E_M_letter d) (pc := 45) (cks_at k_M_letter 27 rfl rfl) rfl
  · refine tq_iload_n 2 (E := E_M_letter d) (pc := 12) (cks_at k_M_letter 6 rfl rfl) rfl ?_
    refine tq_i2l (E := E_M_letter d) (pc := 13) (cks_at k_M_letter 7 rfl rfl) ?_
    refine tq_lconst0 (E := E_M_letter d) (pc := 14) (cks_at k_M_letter 8 rfl rfl) ?_
    refine tq_aload_n 0 (E := E_M_letter d) (pc := 15) (cks_at k_M_letter 9 rfl rfl) rfl ?_
    refine tq_getR (j := 98) (E := E_M_letter d) (pc := 16) (cks_at k_M_letter 10 rfl rfl) fo_M_72 so_78 rfl sp_78_28 ?_
    refine tq_iconst (E := E_M_letter d) (pc := 19) (cks_at k_M_letter 11 rfl rfl) ?_
    refine tq_iload_n 1 (E := E_M_letter d) (pc := 20) (cks_at k_M_letter 12 rfl rfl) rfl ?_
    refine tq_iadd (E := E_M_letter d) (pc := 21) (cks_at k_M_letter 13 rfl rfl) ?_
    refine tq_iald (E := E_M_letter d) (pc := 22) (cks_at k_M_letter 14 rfl rfl) sa_98 sn_98 ?_
    refine tq_iconst (E := E_M_letter d) (pc := 23) (cks_at k_M_letter 15 rfl rfl) ?_
    refine tq_isub (E := E_M_letter d) (pc := 24) (cks_at k_M_letter 16 rfl rfl) ?_
    refine tq_i2l (E := E_M_letter d) (pc := 25) (cks_at k_M_letter 17 rfl rfl) ?_
    refine tq_S3 (E := E_M_letter d) (pc := 26) (cks_at k_M_letter 18 rfl rfl) mk_M_isIn lk_M_265 (Nat.le_of_ble_eq_true rfl) (c_M_isIn (d + 0) (i32 v2) 0 (i32 ((M1 98 (i32 (3 + v1)).toNat) - 1)) M1) (k_I fun r4 M3 => ?_)
    refine tq_if_eq (E := E_M_letter d) (pc := 29) (tgt := 44) (cks_at k_M_letter 19 rfl rfl) (by decide) ?_ ?_
    · refine tq_iconst (E := E_M_letter d) (pc := 44) (cks_at k_M_letter 26 rfl rfl) ?_
      exact tq_iret (E := E_M_letter d) (pc := 45) (cks_at k_M_letter 27 rfl rfl) rfl
    · refine tq_iload_n 3 (E := E_M_letter d) (pc := 32) (cks_at k_M_letter 20 rfl rfl) rfl ?_
      refine tq_i2l (E := E_M_letter d) (pc := 33) (cks_at k_M_letter 21 rfl rfl) ?_
      refine tq_lconst0 (E := E_M_letter d) (pc := 34) (cks_at k_M_letter 22 rfl rfl) ?_
      refine tq_ldc2 (z := 5) (E := E_M_letter d) (pc := 35) (cks_at k_M_letter 23 rfl rfl) cst_M_507 ?_
      refine tq_S3 (E := E_M_letter d) (pc := 38) (cks_at k_M_letter 24 rfl rfl) mk_M_isIn lk_M_265 (Nat.le_of_ble_eq_true rfl) (c_M_isIn (d + 0) (i32 v3) 0 5 M3) (k_I fun r6 M5 => ?_)
      refine tq_if_ne (E := E_M_letter d) (pc := 41) (tgt := 46) (cks_at k_M_letter 25 rfl rfl) (by decide) ?_ ?_
      · refine tq_aload_n 0 (E := E_M_letter d) (pc := 46) (cks_at k_M_letter 28 rfl rfl) rfl ?_
        refine tq_getR (j := 99) (E := E_M_letter d) (pc := 47) (cks_at k_M_letter 29 rfl rfl) fo_M_75 so_78 rfl sp_78_29 ?_
        refine tq_bipush (E := E_M_letter d) (pc := 50) (cks_at k_M_letter 30 rfl rfl) (by decide) (by decide) ?_
        refine tq_bipush (E := E_M_letter d) (pc := 52) (cks_at k_M_letter 31 rfl rfl) (by decide) (by decide) ?_
        refine tq_iload_n 1 (E := E_M_letter d) (pc := 54) (cks_at k_M_letter 32 rfl rfl) rfl ?_
        refine tq_imul (E := E_M_letter d) (pc := 55) (cks_at k_M_letter 33 rfl rfl) ?_
        refine tq_iadd (E := E_M_letter d) (pc := 56) (cks_at k_M_letter 34 rfl rfl) ?_
        refine tq_iload_n 2 (E := E_M_letter d) (pc := 57) (cks_at k_M_letter 35 rfl rfl) rfl ?_
        refine tq_iadd (E := E_M_letter d) (pc := 58) (cks_at k_M_letter 36 rfl rfl) ?_
        refine tq_lald (E := E_M_letter d) (pc := 59) (cks_at k_M_letter 37 rfl rfl) sa_99 sn_99 ?_
        refine tq_lstore (E := E_M_letter d) (pc := 60) (cks_at k_M_letter 38 rfl rfl) (show 4 + 1 < 9 by decide) rfl ?_
        refine tq_iconst (E := E_M_letter d) (pc := 62) (cks_at k_M_letter 39 rfl rfl) ?_
        refine tq_istore (E := E_M_letter d) (pc := 63) (cks_at k_M_letter 40 rfl rfl) (show 6 < 9 by decide) rfl ?_
        refine tq_lload 1 (E := E_M_letter d) (pc := 65) (cks_at k_M_letter 41 rfl rfl) rfl ?_
        refine tq_lstore (E := E_M_letter d) (pc := 67) (cks_at k_M_letter 42 rfl rfl) (show 7 + 1 < 9 by decide) rfl ?_
        exact tq_sub [6, 2, 1, 0] rfl (w_M_letter_L69 d _ (fun v3 v4 v6 M7 => by
            refine tq_iload_n 0 (E := E_M_letter d) (pc := 90) (cks_at k_M_letter 53 rfl rfl) rfl ?_
            refine tq_iload 2 (E := E_M_letter d) (pc := 91) (cks_at k_M_letter 54 rfl rfl) rfl ?_
            refine tq_icmp_lt (E := E_M_letter d) (pc := 93) (tgt := 98) (cks_at k_M_letter 55 rfl rfl) (by decide) ?_ ?_
            · refine tq_iload 2 (E := E_M_letter d) (pc := 98) (cks_at k_M_letter 58 rfl rfl) rfl ?_
              refine tq_iconst (E := E_M_letter d) (pc := 100) (cks_at k_M_letter 59 rfl rfl) ?_
              refine tq_isub (E := E_M_letter d) (pc := 101) (cks_at k_M_letter 60 rfl rfl) ?_
              refine tq_istore (E := E_M_letter d) (pc := 102) (cks_at k_M_letter 61 rfl rfl) (show 7 < 9 by decide) rfl ?_
              exact tq_sub [1, 2, 0] rfl (w_M_letter_L104 d FU (v3, v4, (v6 - 1), M7))
            · refine tq_iconst (E := E_M_letter d) (pc := 96) (cks_at k_M_letter 56 rfl rfl) ?_
              exact tq_iret (E := E_M_letter d) (pc := 97) (cks_at k_M_letter 57 rfl rfl) rfl) FU (v3, (M5 99 (i32 ((36 + (12 * v1)) + v2)).toNat), 0, (M5 99 (i32 ((36 + (12 * v1)) + v2)).toNat), M5))
      · refine tq_iconst (E := E_M_letter d) (pc := 44) (cks_at k_M_letter 26 rfl rfl) ?_
        exact tq_iret (E := E_M_letter d) (pc := 45) (cks_at k_M_letter 27 rfl rfl) rfl
abbrev E_BT_letter (d : Nat) : Ev := (Ct (d + 3), "BreathTown", prog_1_method_7_code, 4, False, 0, (fun _ => 0), (Option.some Jvm.ClassFile.FieldType.int))
def f_BT_letter (v1 : Int) (v2 : Int) (v3 : Int) (M : Mm) : Option (Int × Mm) :=
  bI (f_Told_hasA 3 v1 v2 M) (fun r2 M1 =>
  if i32 r2 = 0 then
    some ((-1), M1)
  else
    if i32 v3 < 0 then
      some ((-1), M1)
    else
      if i32 v3 < i32 6 then
        bI (f_BT_cell 5 ((v1 * 12) + v2) M1) (fun r4 M3 =>
        some (and32 (shr32 r4 (5 * v3)) 31, M3))
      else
        some ((-1), M1))
set_option maxRecDepth 20000 in
set_option maxHeartbeats 4000000 in
theorem c_BT_letter (d : Nat) (v1 : Int) (v2 : Int) (v3 : Int) (M : Mm) (Q : Option Value → Mm → Prop) (h : sat injI (f_BT_letter v1 v2 v3 M) Q) : Ct (d + 4) y_BT_letter [.ref 0, vI v1, vI v2, vI v3] M Q := by
  refine ct_in (d := d + 3) mk_BT_letter (Nat.le_of_ble_eq_true rfl) (?_ : T (E_BT_letter d) injI 0 [(0, .ref 0), (1, vI v1), (2, vI v2), (3, vI v3)] [] M (f_BT_letter v1 v2 v3 M)) h
  unfold f_BT_letter
  refine tq_aload_n 0 (E := E_BT_letter d) (pc := 0) (cks_at k_BT_letter 0 rfl rfl) rfl ?_
  refine tq_getR (j := 3) (E := E_BT_letter d) (pc := 1) (cks_at k_BT_letter 1 rfl rfl) fo_BT_19 so_0 rfl sp_0_1 ?_
  refine tq_iload_n 1 (E := E_BT_letter d) (pc := 4) (cks_at k_BT_letter 2 rfl rfl) rfl ?_
  refine tq_iload_n 2 (E := E_BT_letter d) (pc := 5) (cks_at k_BT_letter 3 rfl rfl) rfl ?_
  refine tq_V2 (E := E_BT_letter d) (pc := 6) (cks_at k_BT_letter 4 rfl rfl) mk_Told_hasA lk_BT_143 (isTold_rc (Or.inl rfl)) (Nat.le_of_ble_eq_true rfl) (c_Told_hasA (d + 0) 3 (Or.inl rfl) v1 v2 M) (k_I fun r2 M1 => ?_)
  refine tq_if_eq (E := E_BT_letter d) (pc := 9) (tgt := 22) (cks_at k_BT_letter 5 rfl rfl) (by decide) ?_ ?_
  · refine tq_iconst (E := E_BT_letter d) (pc := 22) (cks_at k_BT_letter 11 rfl rfl) ?_
    exact tq_iret (E := E_BT_letter d) (pc := 23) (cks_at k_BT_letter 12 rfl rfl) rfl
  · refine tq_iload_n 3 (E := E_BT_letter d) (pc := 12) (cks_at k_BT_letter 6 rfl rfl) rfl ?_
    refine tq_if_lt (E := E_BT_letter d) (pc := 13) (tgt := 22) (cks_at k_BT_letter 7 rfl rfl) (by decide) ?_ ?_
    · refine tq_iconst (E := E_BT_letter d) (pc := 22) (cks_at k_BT_letter 11 rfl rfl) ?_
      exact tq_iret (E := E_BT_letter d) (pc := 23) (cks_at k_BT_letter 12 rfl rfl) rfl
    · refine tq_iload_n 3 (E := E_BT_letter d) (pc := 16) (cks_at k_BT_letter 8 rfl rfl) rfl ?_
      refine tq_bipush (E := E_BT_letter d) (pc := 17) (cks_at k_BT_letter 9 rfl rfl) (by decide) (by decide) ?_
      refine tq_icmp_lt (E := E_BT_letter d) (pc := 19) (tgt := 24) (cks_at k_BT_letter 10 rfl rfl) (by decide) ?_ ?_
      · refine tq_aload_n 0 (E := E_BT_letter d) (pc := 24) (cks_at k_BT_letter 13 rfl rfl) rfl ?_
        refine tq_getR (j := 3) (E := E_BT_letter d) (pc := 25) (cks_at k_BT_letter 14 rfl rfl) fo_BT_19 so_0 rfl sp_0_1 ?_
        refine tq_getR (j := 5) (E := E_BT_letter d) (pc := 28) (cks_at k_BT_letter 15 rfl rfl) fo_BT_147 so_3 rfl sp_3_1 ?_
        refine tq_iload_n 1 (E := E_BT_letter d) (pc := 31) (cks_at k_BT_letter 16 rfl rfl) rfl ?_
        refine tq_bipush (E := E_BT_letter d) (pc := 32) (cks_at k_BT_letter 17 rfl rfl) (by decide) (by decide) ?_
        refine tq_imul (E := E_BT_letter d) (pc := 34) (cks_at k_BT_letter 18 rfl rfl) ?_
        refine tq_iload_n 2 (E := E_BT_letter d) (pc := 35) (cks_at k_BT_letter 19 rfl rfl) rfl ?_
        refine tq_iadd (E := E_BT_letter d) (pc := 36) (cks_at k_BT_letter 20 rfl rfl) ?_
        refine tq_S2 (E := E_BT_letter d) (pc := 37) (cks_at k_BT_letter 21 rfl rfl) mk_BT_cell lk_BT_150 (Nat.le_of_ble_eq_true rfl) (c_BT_cell (d + 2) 5 sa_5 ((v1 * 12) + v2) M1) (k_I fun r4 M3 => ?_)
        refine tq_iconst (E := E_BT_letter d) (pc := 40) (cks_at k_BT_letter 22 rfl rfl) ?_
        refine tq_iload_n 3 (E := E_BT_letter d) (pc := 41) (cks_at k_BT_letter 23 rfl rfl) rfl ?_
        refine tq_imul (E := E_BT_letter d) (pc := 42) (cks_at k_BT_letter 24 rfl rfl) ?_
        refine tq_ishr (E := E_BT_letter d) (pc := 43) (cks_at k_BT_letter 25 rfl rfl) ?_
        refine tq_bipush (E := E_BT_letter d) (pc := 44) (cks_at k_BT_letter 26 rfl rfl) (by decide) (by decide) ?_
        refine tq_iand (E := E_BT_letter d) (pc := 46) (cks_at k_BT_letter 27 rfl rfl) ?_
        exact tq_iret (E := E_BT_letter d) (pc := 47) (cks_at k_BT_letter 28 rfl rfl) rfl
      · refine tq_iconst (E := E_BT_letter d) (pc := 22) (cks_at k_BT_letter 11 rfl rfl) ?_
        exact tq_iret (E := E_BT_letter d) (pc := 23) (cks_at k_BT_letter 12 rfl rfl) rfl
abbrev E_M_freeMany (d : Nat) : Ev := (Ct (d + 1), "BreathTownModel", prog_14_method_72_code, 3, False, 0, (fun _ => 0), (Option.some Jvm.ClassFile.FieldType.int))
def f_M_freeMany_B4 (kH : Int → Int → Mm → Option (Int × Mm)) (v1 v2 : Int) (M : Mm) : Option (Int × Mm) :=
  bI (f_M_walkerMany M) (fun r2 M1 =>
  if i32 r2 ≤ i32 v2 then
    some (v1, M1)
  else
    gd (0 ≤ i32 ((13 + (3 * v2)) + 2) ∧ i32 ((13 + (3 * v2)) + 2) < ((31 : Nat) : Int)) <|
    if i32 (M1 108 0) < i32 (M1 108 (i32 ((13 + (3 * v2)) + 2)).toNat) then
      kH v1 (v2 + 1) M1
    else
      kH (v1 + 1) (v2 + 1) M1)
set_option maxRecDepth 20000 in
set_option maxHeartbeats 4000000 in
theorem w_M_freeMany_B4 (d : Nat) (kH : Int → Int → Mm → Option (Int × Mm)) (hkH : ∀ (v1 v2 : Int) (M : Mm), T (E_M_freeMany d) injI 4 [(0, .ref 78), (1, vI v1), (2, vI v2)] [] M (kH v1 v2 M)) (v1 v2 : Int) (M : Mm) : T (E_M_freeMany d) injI 4 [(0, .ref 78), (1, vI v1), (2, vI v2)] [] M (f_M_freeMany_B4 kH v1 v2 M) := by
  unfold f_M_freeMany_B4
  refine tq_iload_n 2 (E := E_M_freeMany d) (pc := 4) (cks_at k_M_freeMany 4 rfl rfl) rfl ?_
  refine tq_aload_n 0 (E := E_M_freeMany d) (pc := 5) (cks_at k_M_freeMany 5 rfl rfl) rfl ?_
  refine tq_V0 (E := E_M_freeMany d) (pc := 6) (cks_at k_M_freeMany 6 rfl rfl) mk_M_walkerMany lk_M_415 rc_78 (Nat.le_of_ble_eq_true rfl) (c_M_walkerMany (d + 0) M) (k_I fun r2 M1 => ?_)
  refine tq_icmp_ge (E := E_M_freeMany d) (pc := 9) (tgt := 43) (cks_at k_M_freeMany 7 rfl rfl) (by decide) ?_ ?_
  · refine tq_iload_n 1 (E := E_M_freeMany d) (pc := 43) (cks_at k_M_freeMany 26 rfl rfl) rfl ?_
    exact tq_iret (E := E_M_freeMany d) (pc := 44) (cks_at k_M_freeMany 27 rfl rfl) rfl
  · refine tq_aload_n 0 (E := E_M_freeMany d) (pc := 12) (cks_at k_M_freeMany 8 rfl rfl) rfl ?_
    refine tq_getR (j := 108) (E := E_M_freeMany d) (pc := 13) (cks_at k_M_freeMany 9 rfl rfl) fo_M_103 so_78 rfl sp_78_45 ?_
    refine tq_bipush (E := E_M_freeMany d) (pc := 16) (cks_at k_M_freeMany 10 rfl rfl) (by decide) (by decide) ?_
    refine tq_iconst (E := E_M_freeMany d) (pc := 18) (cks_at k_M_freeMany 11 rfl rfl) ?_
    refine tq_iload_n 2 (E := E_M_freeMany d) (pc := 19) (cks_at k_M_freeMany 12 rfl rfl) rfl ?_
    refine tq_imul (E := E_M_freeMany d) (pc := 20) (cks_at k_M_freeMany 13 rfl rfl) ?_
    refine tq_iadd (E := E_M_freeMany d) (pc := 21) (cks_at k_M_freeMany 14 rfl rfl) ?_
    refine tq_iconst (E := E_M_freeMany d) (pc := 22) (cks_at k_M_freeMany 15 rfl rfl) ?_
    refine tq_iadd (E := E_M_freeMany d) (pc := 23) (cks_at k_M_freeMany 16 rfl rfl) ?_
    refine tq_iald (E := E_M_freeMany d) (pc := 24) (cks_at k_M_freeMany 17 rfl rfl) sa_108 sn_108 ?_
    refine tq_aload_n 0 (E := E_M_freeMany d) (pc := 25) (cks_at k_M_freeMany 18 rfl rfl) rfl ?_
    refine tq_getR (j := 108) (E := E_M_freeMany d) (pc := 26) (cks_at k_M_freeMany 19 rfl rfl) fo_M_103 so_78 rfl sp_78_45 ?_
    refine tq_iconst (E := E_M_freeMany d) (pc := 29) (cks_at k_M_freeMany 20 rfl rfl) ?_
    refine tq_ialdC 0 (E := E_M_freeMany d) (pc := 30) (cks_at k_M_freeMany 21 rfl rfl) sa_108 sn_108 (by decide) ?_
    refine tq_icmp_gt (E := E_M_freeMany d) (pc := 31) (tgt := 37) (cks_at k_M_freeMany 22 rfl rfl) (by decide) ?_ ?_
    · refine tq_iinc 2 (E := E_M_freeMany d) (pc := 37) (cks_at k_M_freeMany 24 rfl rfl) rfl (show 2 < 3 by decide) rfl ?_
      refine tq_goto (tgt := 4) (E := E_M_freeMany d) (pc := 40) (cks_at k_M_freeMany 25 rfl rfl) (by decide) ?_
      exact tq_sub [1, 2, 0] rfl (hkH v1 (v2 + 1) M1)
    · refine tq_iinc 1 (E := E_M_freeMany d) (pc := 34) (cks_at k_M_freeMany 23 rfl rfl) rfl (show 1 < 3 by decide) rfl ?_
      refine tq_iinc 2 (E := E_M_freeMany d) (pc := 37) (cks_at k_M_freeMany 24 rfl rfl) rfl (show 2 < 3 by decide) rfl ?_
      refine tq_goto (tgt := 4) (E := E_M_freeMany d) (pc := 40) (cks_at k_M_freeMany 25 rfl rfl) (by decide) ?_
      exact tq_sub [2, 1, 0] rfl (hkH (v1 + 1) (v2 + 1) M1)
def f_M_freeMany_L4 : Nat → Int × Int × Mm → Option (Int × Mm) := lp fun kH s => f_M_freeMany_B4 (fun v1 v2 M => kH (v1, v2, M)) s.1 s.2.1 s.2.2
set_option maxRecDepth 20000 in
set_option maxHeartbeats 4000000 in
theorem w_M_freeMany_L4 (d : Nat) (n : Nat) (s : Int × Int × Mm) : T (E_M_freeMany d) injI 4 [(0, .ref 78), (1, vI s.1), (2, vI s.2.1)] [] s.2.2 (f_M_freeMany_L4 n s) :=
  tq_lp (fun s => [(0, .ref 78), (1, vI s.1), (2, vI s.2.1)]) (fun s => s.2.2) (fun kH hH s => w_M_freeMany_B4 d (fun v1 v2 M => kH (v1, v2, M)) (fun v1 v2 M => hH (v1, v2, M)) s.1 s.2.1 s.2.2) n s
def f_M_freeMany (M : Mm) : Option (Int × Mm) :=
  f_M_freeMany_L4 FU (0, 0, M)
set_option maxRecDepth 20000 in
set_option maxHeartbeats 4000000 in
theorem c_M_freeMany (d : Nat) (M : Mm) (Q : Option Value → Mm → Prop) (h : sat injI (f_M_freeMany M) Q) : Ct (d + 2) y_M_freeMany [.ref 78] M Q := by
  refine ct_in (d := d + 1) mk_M_freeMany (Nat.le_of_ble_eq_true rfl) (?_ : T (E_M_freeMany d) injI 0 [(0, .ref 78)] [] M (f_M_freeMany M)) h
  unfold f_M_freeMany
  refine tq_iconst (E := E_M_freeMany d) (pc := 0) (cks_at k_M_freeMany 0 rfl rfl) ?_
  refine tq_istore_n (E := E_M_freeMany d) (pc := 1) (cks_at k_M_freeMany 1 rfl rfl) (show 1 < 3 by decide) rfl ?_
  refine tq_iconst (E := E_M_freeMany d) (pc := 2) (cks_at k_M_freeMany 2 rfl rfl) ?_
  refine tq_istore_n (E := E_M_freeMany d) (pc := 3) (cks_at k_M_freeMany 3 rfl rfl) (show 2 < 3 by decide) rfl ?_
  exact tq_sub [2, 1, 0] rfl (w_M_freeMany_L4 d FU (0, 0, M))
abbrev E_M_has (d : Nat) : Ev := (Ct (d + 2), "BreathTownModel", prog_14_method_73_code, 2, False, 0, (fun _ => 0), (Option.some Jvm.ClassFile.FieldType.int))
def f_M_has (v1 : Int) (M : Mm) : Option (Int × Mm) :=
  if i32 v1 = 0 then
    bI (f_M_placeMany M) (fun r3 M2 =>
    some (r3, M2))
  else
  if i32 v1 = 1 then
    bI (f_M_streetMany M) (fun r6 M5 =>
    some (r6, M5))
  else
  if i32 v1 = 2 then
    bI (f_M_walkerMany M) (fun r9 M8 =>
    some (r9, M8))
  else
  if i32 v1 = 3 then
    some (M 108 0, M)
  else
  if i32 v1 = 4 then
    some ((i32 (M 108 0)).tdiv (i32 24), M)
  else
  if i32 v1 = 5 then
    some ((i32 (M 108 0)).tmod (i32 24), M)
  else
  if i32 v1 = 6 then
    bI (f_M_freeMany M) (fun r15 M14 =>
    some (r15, M14))
  else
  if i32 v1 = 7 then
    some (M 78 66, M)
  else
  if i32 v1 = 8 then
    some (M 78 63, M)
  else
  some ((-1), M)
set_option maxRecDepth 20000 in
set_option maxHeartbeats 4000000 in
theorem c_M_has (d : Nat) (v1 : Int) (M : Mm) (Q : Option Value → Mm → Prop) (h : sat injI (f_M_has v1 M) Q) : Ct (d + 3) y_M_has [.ref 78, vI v1] M Q := by
  refine ct_in (d := d + 2) mk_M_has (Nat.le_of_ble_eq_true rfl) (?_ : T (E_M_has d) injI 0 [(0, .ref 78), (1, vI v1)] [] M (f_M_has v1 M)) h
  unfold f_M_has
  refine tq_iload_n 1 (E := E_M_has d) (pc := 0) (cks_at k_M_has 0 rfl rfl) rfl ?_
  refine tq_tsC (E := E_M_has d) (pc := 1) (tgt := 52) (off := 51) (w := 0) 0 k_M_has_1 (by decide) rfl (by decide) ?_ (fun h1 => ?_)
  · refine tq_aload_n 0 (E := E_M_has d) (pc := 52) (cks_at k_M_has 2 rfl rfl) rfl ?_
    refine tq_V0 (E := E_M_has d) (pc := 53) (cks_at k_M_has 3 rfl rfl) mk_M_placeMany lk_M_409 rc_78 (Nat.le_of_ble_eq_true rfl) (c_M_placeMany (d + 1) M) (k_I fun r3 M2 => ?_)
    exact tq_iret (E := E_M_has d) (pc := 56) (cks_at k_M_has 4 rfl rfl) rfl
  refine tq_tsC (E := E_M_has d) (pc := 1) (tgt := 57) (off := 56) (w := 1) 1 k_M_has_1 (by decide) rfl (by decide) ?_ (fun h4 => ?_)
  · refine tq_aload_n 0 (E := E_M_has d) (pc := 57) (cks_at k_M_has 5 rfl rfl) rfl ?_
    refine tq_V0 (E := E_M_has d) (pc := 58) (cks_at k_M_has 6 rfl rfl) mk_M_streetMany lk_M_412 rc_78 (Nat.le_of_ble_eq_true rfl) (c_M_streetMany (d + 1) M) (k_I fun r6 M5 => ?_)
    exact tq_iret (E := E_M_has d) (pc := 61) (cks_at k_M_has 7 rfl rfl) rfl
  refine tq_tsC (E := E_M_has d) (pc := 1) (tgt := 62) (off := 61) (w := 2) 2 k_M_has_1 (by decide) rfl (by decide) ?_ (fun h7 => ?_)
  · refine tq_aload_n 0 (E := E_M_has d) (pc := 62) (cks_at k_M_has 8 rfl rfl) rfl ?_
    refine tq_V0 (E := E_M_has d) (pc := 63) (cks_at k_M_has 9 rfl rfl) mk_M_walkerMany lk_M_415 rc_78 (Nat.le_of_ble_eq_true rfl) (c_M_walkerMany (d + 1) M) (k_I fun r9 M8 => ?_)
    exact tq_iret (E := E_M_has d) (pc := 66) (cks_at k_M_has 10 rfl rfl) rfl
  refine tq_tsC (E := E_M_has d) (pc := 1) (tgt := 67) (off := 66) (w := 3) 3 k_M_has_1 (by decide) rfl (by decide) ?_ (fun h10 => ?_)
  · refine tq_aload_n 0 (E := E_M_has d) (pc := 67) (cks_at k_M_has 11 rfl rfl) rfl ?_
    refine tq_getR (j := 108) (E := E_M_has d) (pc := 68) (cks_at k_M_has 12 rfl rfl) fo_M_103 so_78 rfl sp_78_45 ?_
    refine tq_iconst (E := E_M_has d) (pc := 71) (cks_at k_M_has 13 rfl rfl) ?_
    refine tq_ialdC 0 (E := E_M_has d) (pc := 72) (cks_at k_M_has 14 rfl rfl) sa_108 sn_108 (by decide) ?_
    exact tq_iret (E := E_M_has d) (pc := 73) (cks_at k_M_has 15 rfl rfl) rfl
  refine tq_tsC (E := E_M_has d) (pc := 1) (tgt := 74) (off := 73) (w := 4) 4 k_M_has_1 (by decide) rfl (by decide) ?_ (fun h11 => ?_)
  · refine tq_aload_n 0 (E := E_M_has d) (pc := 74) (cks_at k_M_has 16 rfl rfl) rfl ?_
    refine tq_getR (j := 108) (E := E_M_has d) (pc := 75) (cks_at k_M_has 17 rfl rfl) fo_M_103 so_78 rfl sp_78_45 ?_
    refine tq_iconst (E := E_M_has d) (pc := 78) (cks_at k_M_has 18 rfl rfl) ?_
    refine tq_ialdC 0 (E := E_M_has d) (pc := 79) (cks_at k_M_has 19 rfl rfl) sa_108 sn_108 (by decide) ?_
    refine tq_bipush (E := E_M_has d) (pc := 80) (cks_at k_M_has 20 rfl rfl) (by decide) (by decide) ?_
    refine tq_idivC (E := E_M_has d) (pc := 82) (cks_at k_M_has 21 rfl rfl) (by decide) ?_
    exact tq_iret (E := E_M_has d) (pc := 83) (cks_at k_M_has 22 rfl rfl) rfl
  refine tq_tsC (E := E_M_has d) (pc := 1) (tgt := 84) (off := 83) (w := 5) 5 k_M_has_1 (by decide) rfl (by decide) ?_ (fun h12 => ?_)
  · refine tq_aload_n 0 (E := E_M_has d) (pc := 84) (cks_at k_M_has 23 rfl rfl) rfl ?_
    refine tq_getR (j := 108) (E := E_M_has d) (pc := 85) (cks_at k_M_has 24 rfl rfl) fo_M_103 so_78 rfl sp_78_45 ?_
    refine tq_iconst (E := E_M_has d) (pc := 88) (cks_at k_M_has 25 rfl rfl) ?_
    refine tq_ialdC 0 (E := E_M_has d) (pc := 89) (cks_at k_M_has 26 rfl rfl) sa_108 sn_108 (by decide) ?_
    refine tq_bipush (E := E_M_has d) (pc := 90) (cks_at k_M_has 27 rfl rfl) (by decide) (by decide) ?_
    refine tq_iremC (E := E_M_has d) (pc := 92) (cks_at k_M_has 28 rfl rfl) (by decide) ?_
    exact tq_iret (E := E_M_has d) (pc := 93) (cks_at k_M_has 29 rfl rfl) rfl
  refine tq_tsC (E := E_M_has d) (pc := 1) (tgt := 94) (off := 93) (w := 6) 6 k_M_has_1 (by decide) rfl (by decide) ?_ (fun h13 => ?_)
  · refine tq_aload_n 0 (E := E_M_has d) (pc := 94) (cks_at k_M_has 30 rfl rfl) rfl ?_
    refine tq_V0 (E := E_M_has d) (pc := 95) (cks_at k_M_has 31 rfl rfl) mk_M_freeMany lk_M_502 rc_78 (Nat.le_of_ble_eq_true rfl) (c_M_freeMany (d + 0) M) (k_I fun r15 M14 => ?_)
    exact tq_iret (E := E_M_has d) (pc := 98) (cks_at k_M_has 32 rfl rfl) rfl
  refine tq_tsC (E := E_M_has d) (pc := 1) (tgt := 99) (off := 98) (w := 7) 7 k_M_has_1 (by decide) rfl (by decide) ?_ (fun h16 => ?_)
  · refine tq_aload_n 0 (E := E_M_has d) (pc := 99) (cks_at k_M_has 33 rfl rfl) rfl ?_
    refine tq_getI (E := E_M_has d) (pc := 100) (cks_at k_M_has 34 rfl rfl) fo_M_353 so_78 rfl (by decide) ?_
    exact tq_iret (E := E_M_has d) (pc := 103) (cks_at k_M_has 35 rfl rfl) rfl
  refine tq_tsC (E := E_M_has d) (pc := 1) (tgt := 104) (off := 103) (w := 8) 8 k_M_has_1 (by decide) rfl (by decide) ?_ (fun h17 => ?_)
  · refine tq_aload_n 0 (E := E_M_has d) (pc := 104) (cks_at k_M_has 36 rfl rfl) rfl ?_
    refine tq_getI (E := E_M_has d) (pc := 105) (cks_at k_M_has 37 rfl rfl) fo_M_350 so_78 rfl (by decide) ?_
    exact tq_iret (E := E_M_has d) (pc := 108) (cks_at k_M_has 38 rfl rfl) rfl
  refine tq_tsD (E := E_M_has d) (pc := 1) (tgt := 109) k_M_has_1 (by omega) (by decide) ?_
  refine tq_iconst (E := E_M_has d) (pc := 109) (cks_at k_M_has 39 rfl rfl) ?_
  exact tq_iret (E := E_M_has d) (pc := 110) (cks_at k_M_has 40 rfl rfl) rfl
abbrev E_Now_freeWalkers (d : Nat) : Ev := (Ct (d + 2), "BreathTown$Now", prog_4_method_4_code, 3, False, 0, (fun _ => 0), (Option.some Jvm.ClassFile.FieldType.int))
def f_Now_freeWalkers_B4 (kH : Int → Int → Mm → Option (Int × Mm)) (v1 v2 : Int) (M : Mm) : Option (Int × Mm) :=
  bI (f_Told_count 3 2 M) (fun r2 M1 =>
  if i32 r2 ≤ i32 v2 then
    some (v1, M1)
  else
    bI (f_BT_cell 43 v2 M1) (fun r4 M3 =>
    if i32 (M3 39 8) < i32 r4 then
      kH (v1 + 0) (v2 + 1) M3
    else
      kH (v1 + 1) (v2 + 1) M3))
set_option maxRecDepth 20000 in
set_option maxHeartbeats 4000000 in
theorem w_Now_freeWalkers_B4 (d : Nat) (kH : Int → Int → Mm → Option (Int × Mm)) (hkH : ∀ (v1 v2 : Int) (M : Mm), T (E_Now_freeWalkers d) injI 4 [(0, .ref 39), (1, vI v1), (2, vI v2)] [] M (kH v1 v2 M)) (v1 v2 : Int) (M : Mm) : T (E_Now_freeWalkers d) injI 4 [(0, .ref 39), (1, vI v1), (2, vI v2)] [] M (f_Now_freeWalkers_B4 kH v1 v2 M) := by
  unfold f_Now_freeWalkers_B4
  refine tq_iload_n 2 (E := E_Now_freeWalkers d) (pc := 4) (cks_at k_Now_freeWalkers 4 rfl rfl) rfl ?_
  refine tq_aload_n 0 (E := E_Now_freeWalkers d) (pc := 5) (cks_at k_Now_freeWalkers 5 rfl rfl) rfl ?_
  refine tq_getR (j := 3) (E := E_Now_freeWalkers d) (pc := 6) (cks_at k_Now_freeWalkers 6 rfl rfl) fo_Now_30 so_39 rfl sp_39_0 ?_
  refine tq_iconst (E := E_Now_freeWalkers d) (pc := 9) (cks_at k_Now_freeWalkers 7 rfl rfl) ?_
  refine tq_V1 (E := E_Now_freeWalkers d) (pc := 10) (cks_at k_Now_freeWalkers 8 rfl rfl) mk_Told_count lk_Now_67 (isTold_rc (Or.inl rfl)) (Nat.le_of_ble_eq_true rfl) (c_Told_count (d + 0) 3 (Or.inl rfl) 2 M) (k_I fun r2 M1 => ?_)
  refine tq_icmp_ge (E := E_Now_freeWalkers d) (pc := 13) (tgt := 45) (cks_at k_Now_freeWalkers 9 rfl rfl) (by decide) ?_ ?_
  · refine tq_iload_n 1 (E := E_Now_freeWalkers d) (pc := 45) (cks_at k_Now_freeWalkers 25 rfl rfl) rfl ?_
    exact tq_iret (E := E_Now_freeWalkers d) (pc := 46) (cks_at k_Now_freeWalkers 26 rfl rfl) rfl
  · refine tq_iload_n 1 (E := E_Now_freeWalkers d) (pc := 16) (cks_at k_Now_freeWalkers 10 rfl rfl) rfl ?_
    refine tq_aload_n 0 (E := E_Now_freeWalkers d) (pc := 17) (cks_at k_Now_freeWalkers 11 rfl rfl) rfl ?_
    refine tq_getR (j := 43) (E := E_Now_freeWalkers d) (pc := 18) (cks_at k_Now_freeWalkers 12 rfl rfl) fo_Now_21 so_39 rfl sp_39_4 ?_
    refine tq_iload_n 2 (E := E_Now_freeWalkers d) (pc := 21) (cks_at k_Now_freeWalkers 13 rfl rfl) rfl ?_
    refine tq_S2 (E := E_Now_freeWalkers d) (pc := 22) (cks_at k_Now_freeWalkers 14 rfl rfl) mk_BT_cell lk_Now_57 (Nat.le_of_ble_eq_true rfl) (c_BT_cell (d + 1) 43 sa_43 v2 M1) (k_I fun r4 M3 => ?_)
    refine tq_aload_n 0 (E := E_Now_freeWalkers d) (pc := 25) (cks_at k_Now_freeWalkers 15 rfl rfl) rfl ?_
    refine tq_getI (E := E_Now_freeWalkers d) (pc := 26) (cks_at k_Now_freeWalkers 16 rfl rfl) fo_Now_40 so_39 rfl (by decide) ?_
    refine tq_icmp_gt (E := E_Now_freeWalkers d) (pc := 29) (tgt := 36) (cks_at k_Now_freeWalkers 17 rfl rfl) (by decide) ?_ ?_
    · refine tq_iconst (E := E_Now_freeWalkers d) (pc := 36) (cks_at k_Now_freeWalkers 20 rfl rfl) ?_
      refine tq_iadd (E := E_Now_freeWalkers d) (pc := 37) (cks_at k_Now_freeWalkers 21 rfl rfl) ?_
      refine tq_istore_n (E := E_Now_freeWalkers d) (pc := 38) (cks_at k_Now_freeWalkers 22 rfl rfl) (show 1 < 3 by decide) rfl ?_
      refine tq_iinc 2 (E := E_Now_freeWalkers d) (pc := 39) (cks_at k_Now_freeWalkers 23 rfl rfl) rfl (show 2 < 3 by decide) rfl ?_
      refine tq_goto (tgt := 4) (E := E_Now_freeWalkers d) (pc := 42) (cks_at k_Now_freeWalkers 24 rfl rfl) (by decide) ?_
      exact tq_sub [2, 1, 0] rfl (hkH (v1 + 0) (v2 + 1) M3)
    · refine tq_iconst (E := E_Now_freeWalkers d) (pc := 32) (cks_at k_Now_freeWalkers 18 rfl rfl) ?_
      refine tq_goto (tgt := 37) (E := E_Now_freeWalkers d) (pc := 33) (cks_at k_Now_freeWalkers 19 rfl rfl) (by decide) ?_
      refine tq_iadd (E := E_Now_freeWalkers d) (pc := 37) (cks_at k_Now_freeWalkers 21 rfl rfl) ?_
      refine tq_istore_n (E := E_Now_freeWalkers d) (pc := 38) (cks_at k_Now_freeWalkers 22 rfl rfl) (show 1 < 3 by decide) rfl ?_
      refine tq_iinc 2 (E := E_Now_freeWalkers d) (pc := 39) (cks_at k_Now_freeWalkers 23 rfl rfl) rfl (show 2 < 3 by decide) rfl ?_
      refine tq_goto (tgt := 4) (E := E_Now_freeWalkers d) (pc := 42) (cks_at k_Now_freeWalkers 24 rfl rfl) (by decide) ?_
      exact tq_sub [2, 1, 0] rfl (hkH (v1 + 1) (v2 + 1) M3)
def f_Now_freeWalkers_L4 : Nat → Int × Int × Mm → Option (Int × Mm) := lp fun kH s => f_Now_freeWalkers_B4 (fun v1 v2 M => kH (v1, v2, M)) s.1 s.2.1 s.2.2
set_option maxRecDepth 20000 in
set_option maxHeartbeats 4000000 in
theorem w_Now_freeWalkers_L4 (d : Nat) (n : Nat) (s : Int × Int × Mm) : T (E_Now_freeWalkers d) injI 4 [(0, .ref 39), (1, vI s.1), (2, vI s.2.1)] [] s.2.2 (f_Now_freeWalkers_L4 n s) :=
  tq_lp (fun s => [(0, .ref 39), (1, vI s.1), (2, vI s.2.1)]) (fun s => s.2.2) (fun kH hH s => w_Now_freeWalkers_B4 d (fun v1 v2 M => kH (v1, v2, M)) (fun v1 v2 M => hH (v1, v2, M)) s.1 s.2.1 s.2.2) n s
def f_Now_freeWalkers (M : Mm) : Option (Int × Mm) :=
  f_Now_freeWalkers_L4 FU (0, 0, M)
set_option maxRecDepth 20000 in
set_option maxHeartbeats 4000000 in
theorem c_Now_freeWalkers (d : Nat) (M : Mm) (Q : Option Value → Mm → Prop) (h : sat injI (f_Now_freeWalkers M) Q) : Ct (d + 3) y_Now_freeWalkers [.ref 39] M Q := by
  refine ct_in (d := d + 2) mk_Now_freeWalkers (Nat.le_of_ble_eq_true rfl) (?_ : T (E_Now_freeWalkers d) injI 0 [(0, .ref 39)] [] M (f_Now_freeWalkers M)) h
  unfold f_Now_freeWalkers
  refine tq_iconst (E := E_Now_freeWalkers d) (pc := 0) (cks_at k_Now_freeWalkers 0 rfl rfl) ?_
  refine tq_istore_n (E := E_Now_freeWalkers d) (pc := 1) (cks_at k_Now_freeWalkers 1 rfl rfl) (show 1 < 3 by decide) rfl ?_
  refine tq_iconst (E := E_Now_freeWalkers d) (pc := 2) (cks_at k_Now_freeWalkers 2 rfl rfl) ?_
  refine tq_istore_n (E := E_Now_freeWalkers d) (pc := 3) (cks_at k_Now_freeWalkers 3 rfl rfl) (show 2 < 3 by decide) rfl ?_
  exact tq_sub [2, 1, 0] rfl (w_Now_freeWalkers_L4 d FU (0, 0, M))
abbrev E_BT_has (d : Nat) : Ev := (Ct (d + 3), "BreathTown", prog_1_method_6_code, 2, False, 0, (fun _ => 0), (Option.some Jvm.ClassFile.FieldType.int))
def f_BT_has (v1 : Int) (M : Mm) : Option (Int × Mm) :=
  if i32 v1 = 0 then
    bI (f_Told_count 3 v1 M) (fun r3 M2 =>
    some (r3, M2))
  else
  if i32 v1 = 1 then
    bI (f_Told_count 3 v1 M) (fun r6 M5 =>
    some (r6, M5))
  else
  if i32 v1 = 2 then
    bI (f_Told_count 3 v1 M) (fun r9 M8 =>
    some (r9, M8))
  else
  if i32 v1 = 3 then
    some (M 39 8, M)
  else
  if i32 v1 = 4 then
    some ((i32 (M 39 8)).tdiv (i32 24), M)
  else
  if i32 v1 = 5 then
    some ((i32 (M 39 8)).tmod (i32 24), M)
  else
  if i32 v1 = 6 then
    bI (f_Now_freeWalkers M) (fun r15 M14 =>
    some (r15, M14))
  else
  if i32 v1 = 7 then
    some (M 64 6, M)
  else
  if i32 v1 = 8 then
    some (M 39 9, M)
  else
  some ((-1), M)
set_option maxRecDepth 20000 in
set_option maxHeartbeats 4000000 in
theorem c_BT_has (d : Nat) (v1 : Int) (M : Mm) (Q : Option Value → Mm → Prop) (h : sat injI (f_BT_has v1 M) Q) : Ct (d + 4) y_BT_has [.ref 0, vI v1] M Q := by
  refine ct_in (d := d + 3) mk_BT_has (Nat.le_of_ble_eq_true rfl) (?_ : T (E_BT_has d) injI 0 [(0, .ref 0), (1, vI v1)] [] M (f_BT_has v1 M)) h
  unfold f_BT_has
  refine tq_iload_n 1 (E := E_BT_has d) (pc := 0) (cks_at k_BT_has 0 rfl rfl) rfl ?_
  refine tq_tsC (E := E_BT_has d) (pc := 1) (tgt := 52) (off := 51) (w := 0) 0 k_BT_has_1 (by decide) rfl (by decide) ?_ (fun h1 => ?_)
  · refine tq_aload_n 0 (E := E_BT_has d) (pc := 52) (cks_at k_BT_has 2 rfl rfl) rfl ?_
    refine tq_getR (j := 3) (E := E_BT_has d) (pc := 53) (cks_at k_BT_has 3 rfl rfl) fo_BT_19 so_0 rfl sp_0_1 ?_
    refine tq_iload_n 1 (E := E_BT_has d) (pc := 56) (cks_at k_BT_has 4 rfl rfl) rfl ?_
    refine tq_V1 (E := E_BT_has d) (pc := 57) (cks_at k_BT_has 5 rfl rfl) mk_Told_count lk_BT_132 (isTold_rc (Or.inl rfl)) (Nat.le_of_ble_eq_true rfl) (c_Told_count (d + 1) 3 (Or.inl rfl) v1 M) (k_I fun r3 M2 => ?_)
    exact tq_iret (E := E_BT_has d) (pc := 60) (cks_at k_BT_has 6 rfl rfl) rfl
  refine tq_tsC (E := E_BT_has d) (pc := 1) (tgt := 52) (off := 51) (w := 1) 1 k_BT_has_1 (by decide) rfl (by decide) ?_ (fun h4 => ?_)
  · refine tq_aload_n 0 (E := E_BT_has d) (pc := 52) (cks_at k_BT_has 2 rfl rfl) rfl ?_
    refine tq_getR (j := 3) (E := E_BT_has d) (pc := 53) (cks_at k_BT_has 3 rfl rfl) fo_BT_19 so_0 rfl sp_0_1 ?_
    refine tq_iload_n 1 (E := E_BT_has d) (pc := 56) (cks_at k_BT_has 4 rfl rfl) rfl ?_
    refine tq_V1 (E := E_BT_has d) (pc := 57) (cks_at k_BT_has 5 rfl rfl) mk_Told_count lk_BT_132 (isTold_rc (Or.inl rfl)) (Nat.le_of_ble_eq_true rfl) (c_Told_count (d + 1) 3 (Or.inl rfl) v1 M) (k_I fun r6 M5 => ?_)
    exact tq_iret (E := E_BT_has d) (pc := 60) (cks_at k_BT_has 6 rfl rfl) rfl
  refine tq_tsC (E := E_BT_has d) (pc := 1) (tgt := 52) (off := 51) (w := 2) 2 k_BT_has_1 (by decide) rfl (by decide) ?_ (fun h7 => ?_)
  · refine tq_aload_n 0 (E := E_BT_has d) (pc := 52) (cks_at k_BT_has 2 rfl rfl) rfl ?_
    refine tq_getR (j := 3) (E := E_BT_has d) (pc := 53) (cks_at k_BT_has 3 rfl rfl) fo_BT_19 so_0 rfl sp_0_1 ?_
    refine tq_iload_n 1 (E := E_BT_has d) (pc := 56) (cks_at k_BT_has 4 rfl rfl) rfl ?_
    refine tq_V1 (E := E_BT_has d) (pc := 57) (cks_at k_BT_has 5 rfl rfl) mk_Told_count lk_BT_132 (isTold_rc (Or.inl rfl)) (Nat.le_of_ble_eq_true rfl) (c_Told_count (d + 1) 3 (Or.inl rfl) v1 M) (k_I fun r9 M8 => ?_)
    exact tq_iret (E := E_BT_has d) (pc := 60) (cks_at k_BT_has 6 rfl rfl) rfl
  refine tq_tsC (E := E_BT_has d) (pc := 1) (tgt := 61) (off := 60) (w := 3) 3 k_BT_has_1 (by decide) rfl (by decide) ?_ (fun h10 => ?_)
  · refine tq_aload_n 0 (E := E_BT_has d) (pc := 61) (cks_at k_BT_has 7 rfl rfl) rfl ?_
    refine tq_getR (j := 39) (E := E_BT_has d) (pc := 62) (cks_at k_BT_has 8 rfl rfl) fo_BT_40 so_0 rfl sp_0_4 ?_
    refine tq_getI (E := E_BT_has d) (pc := 65) (cks_at k_BT_has 9 rfl rfl) fo_BT_134 so_39 rfl (by decide) ?_
    exact tq_iret (E := E_BT_has d) (pc := 68) (cks_at k_BT_has 10 rfl rfl) rfl
  refine tq_tsC (E := E_BT_has d) (pc := 1) (tgt := 69) (off := 68) (w := 4) 4 k_BT_has_1 (by decide) rfl (by decide) ?_ (fun h11 => ?_)
  · refine tq_aload_n 0 (E := E_BT_has d) (pc := 69) (cks_at k_BT_has 11 rfl rfl) rfl ?_
    refine tq_getR (j := 39) (E := E_BT_has d) (pc := 70) (cks_at k_BT_has 12 rfl rfl) fo_BT_40 so_0 rfl sp_0_4 ?_
    refine tq_getI (E := E_BT_has d) (pc := 73) (cks_at k_BT_has 13 rfl rfl) fo_BT_134 so_39 rfl (by decide) ?_
    refine tq_bipush (E := E_BT_has d) (pc := 76) (cks_at k_BT_has 14 rfl rfl) (by decide) (by decide) ?_
    refine tq_idivC (E := E_BT_has d) (pc := 78) (cks_at k_BT_has 15 rfl rfl) (by decide) ?_
    exact tq_iret (E := E_BT_has d) (pc := 79) (cks_at k_BT_has 16 rfl rfl) rfl
  refine tq_tsC (E := E_BT_has d) (pc := 1) (tgt := 80) (off := 79) (w := 5) 5 k_BT_has_1 (by decide) rfl (by decide) ?_ (fun h12 => ?_)
  · refine tq_aload_n 0 (E := E_BT_has d) (pc := 80) (cks_at k_BT_has 17 rfl rfl) rfl ?_
    refine tq_getR (j := 39) (E := E_BT_has d) (pc := 81) (cks_at k_BT_has 18 rfl rfl) fo_BT_40 so_0 rfl sp_0_4 ?_
    refine tq_getI (E := E_BT_has d) (pc := 84) (cks_at k_BT_has 19 rfl rfl) fo_BT_134 so_39 rfl (by decide) ?_
    refine tq_bipush (E := E_BT_has d) (pc := 87) (cks_at k_BT_has 20 rfl rfl) (by decide) (by decide) ?_
    refine tq_iremC (E := E_BT_has d) (pc := 89) (cks_at k_BT_has 21 rfl rfl) (by decide) ?_
    exact tq_iret (E := E_BT_has d) (pc := 90) (cks_at k_BT_has 22 rfl rfl) rfl
  refine tq_tsC (E := E_BT_has d) (pc := 1) (tgt := 91) (off := 90) (w := 6) 6 k_BT_has_1 (by decide) rfl (by decide) ?_ (fun h13 => ?_)
  · refine tq_aload_n 0 (E := E_BT_has d) (pc := 91) (cks_at k_BT_has 23 rfl rfl) rfl ?_
    refine tq_getR (j := 39) (E := E_BT_has d) (pc := 92) (cks_at k_BT_has 24 rfl rfl) fo_BT_40 so_0 rfl sp_0_4 ?_
    refine tq_V0 (E := E_BT_has d) (pc := 95) (cks_at k_BT_has 25 rfl rfl) mk_Now_freeWalkers lk_BT_137 rc_39 (Nat.le_of_ble_eq_true rfl) (c_Now_freeWalkers (d + 0) M) (k_I fun r15 M14 => ?_)
    exact tq_iret (E := E_BT_has d) (pc := 98) (cks_at k_BT_has 26 rfl rfl) rfl
  refine tq_tsC (E := E_BT_has d) (pc := 1) (tgt := 99) (off := 98) (w := 7) 7 k_BT_has_1 (by decide) rfl (by decide) ?_ (fun h16 => ?_)
  · refine tq_aload_n 0 (E := E_BT_has d) (pc := 99) (cks_at k_BT_has 27 rfl rfl) rfl ?_
    refine tq_getR (j := 64) (E := E_BT_has d) (pc := 100) (cks_at k_BT_has 28 rfl rfl) fo_BT_74 so_0 rfl sp_0_8 ?_
    refine tq_getI (E := E_BT_has d) (pc := 103) (cks_at k_BT_has 29 rfl rfl) fo_BT_129 so_64 rfl (by decide) ?_
    exact tq_iret (E := E_BT_has d) (pc := 106) (cks_at k_BT_has 30 rfl rfl) rfl
  refine tq_tsC (E := E_BT_has d) (pc := 1) (tgt := 107) (off := 106) (w := 8) 8 k_BT_has_1 (by decide) rfl (by decide) ?_ (fun h17 => ?_)
  · refine tq_aload_n 0 (E := E_BT_has d) (pc := 107) (cks_at k_BT_has 31 rfl rfl) rfl ?_
    refine tq_getR (j := 39) (E := E_BT_has d) (pc := 108) (cks_at k_BT_has 32 rfl rfl) fo_BT_40 so_0 rfl sp_0_4 ?_
    refine tq_getI (E := E_BT_has d) (pc := 111) (cks_at k_BT_has 33 rfl rfl) fo_BT_140 so_39 rfl (by decide) ?_
    exact tq_iret (E := E_BT_has d) (pc := 114) (cks_at k_BT_has 34 rfl rfl) rfl
  refine tq_tsD (E := E_BT_has d) (pc := 1) (tgt := 115) k_BT_has_1 (by omega) (by decide) ?_
  refine tq_iconst (E := E_BT_has d) (pc := 115) (cks_at k_BT_has 35 rfl rfl) ?_
  exact tq_iret (E := E_BT_has d) (pc := 116) (cks_at k_BT_has 36 rfl rfl) rfl
abbrev E_M_fault (d : Nat) : Ev := (Ct (d + 0), "BreathTownModel", prog_14_method_37_code, 2, False, 0, (fun _ => 0), (Option.some Jvm.ClassFile.FieldType.int))
def f_M_fault (v1 : Int) (M : Mm) : Option (Int × Mm) :=
  if ¬ i32 v1 = 0 then
    if ¬ i32 v1 = i32 1 then
      some ((-1), M)
    else
      some (M 78 8, M)
  else
    some (M 78 7, M)
set_option maxRecDepth 20000 in
set_option maxHeartbeats 4000000 in
theorem c_M_fault (d : Nat) (v1 : Int) (M : Mm) (Q : Option Value → Mm → Prop) (h : sat injI (f_M_fault v1 M) Q) : Ct (d + 1) y_M_fault [.ref 78, vI v1] M Q := by
  refine ct_in (d := d + 0) mk_M_fault (Nat.le_of_ble_eq_true rfl) (?_ : T (E_M_fault d) injI 0 [(0, .ref 78), (1, vI v1)] [] M (f_M_fault v1 M)) h
  unfold f_M_fault
  refine tq_iload_n 1 (E := E_M_fault d) (pc := 0) (cks_at k_M_fault 0 rfl rfl) rfl ?_
  refine tq_if_ne (E := E_M_fault d) (pc := 1) (tgt := 11) (cks_at k_M_fault 1 rfl rfl) (by decide) ?_ ?_
  · refine tq_iload_n 1 (E := E_M_fault d) (pc := 11) (cks_at k_M_fault 5 rfl rfl) rfl ?_
    refine tq_iconst (E := E_M_fault d) (pc := 12) (cks_at k_M_fault 6 rfl rfl) ?_
    refine tq_icmp_ne (E := E_M_fault d) (pc := 13) (tgt := 23) (cks_at k_M_fault 7 rfl rfl) (by decide) ?_ ?_
    · refine tq_iconst (E := E_M_fault d) (pc := 23) (cks_at k_M_fault 11 rfl rfl) ?_
      exact tq_iret (E := E_M_fault d) (pc := 24) (cks_at k_M_fault 12 rfl rfl) rfl
    · refine tq_aload_n 0 (E := E_M_fault d) (pc := 16) (cks_at k_M_fault 8 rfl rfl) rfl ?_
      refine tq_getI (E := E_M_fault d) (pc := 17) (cks_at k_M_fault 9 rfl rfl) fo_M_13 so_78 rfl (by decide) ?_
      refine tq_goto (tgt := 24) (E := E_M_fault d) (pc := 20) (cks_at k_M_fault 10 rfl rfl) (by decide) ?_
      exact tq_iret (E := E_M_fault d) (pc := 24) (cks_at k_M_fault 12 rfl rfl) rfl
  · refine tq_aload_n 0 (E := E_M_fault d) (pc := 4) (cks_at k_M_fault 2 rfl rfl) rfl ?_
    refine tq_getI (E := E_M_fault d) (pc := 5) (cks_at k_M_fault 3 rfl rfl) fo_M_344 so_78 rfl (by decide) ?_
    refine tq_goto (tgt := 24) (E := E_M_fault d) (pc := 8) (cks_at k_M_fault 4 rfl rfl) (by decide) ?_
    exact tq_iret (E := E_M_fault d) (pc := 24) (cks_at k_M_fault 12 rfl rfl) rfl
abbrev E_BT_fault (d : Nat) : Ev := (Ct (d + 0), "BreathTown", prog_1_method_5_code, 2, False, 0, (fun _ => 0), (Option.some Jvm.ClassFile.FieldType.int))
def f_BT_fault (v1 : Int) (M : Mm) : Option (Int × Mm) :=
  if ¬ i32 v1 = 0 then
    if ¬ i32 v1 = i32 1 then
      some ((-1), M)
    else
      some (M 0 12, M)
  else
    some (M 0 11, M)
set_option maxRecDepth 20000 in
set_option maxHeartbeats 4000000 in
theorem c_BT_fault (d : Nat) (v1 : Int) (M : Mm) (Q : Option Value → Mm → Prop) (h : sat injI (f_BT_fault v1 M) Q) : Ct (d + 1) y_BT_fault [.ref 0, vI v1] M Q := by
  refine ct_in (d := d + 0) mk_BT_fault (Nat.le_of_ble_eq_true rfl) (?_ : T (E_BT_fault d) injI 0 [(0, .ref 0), (1, vI v1)] [] M (f_BT_fault v1 M)) h
  unfold f_BT_fault
  refine tq_iload_n 1 (E := E_BT_fault d) (pc := 0) (cks_at k_BT_fault 0 rfl rfl) rfl ?_
  refine tq_if_ne (E := E_BT_fault d) (pc := 1) (tgt := 9) (cks_at k_BT_fault 1 rfl rfl) (by decide) ?_ ?_
  · refine tq_iload_n 1 (E := E_BT_fault d) (pc := 9) (cks_at k_BT_fault 5 rfl rfl) rfl ?_
    refine tq_iconst (E := E_BT_fault d) (pc := 10) (cks_at k_BT_fault 6 rfl rfl) ?_
    refine tq_icmp_ne (E := E_BT_fault d) (pc := 11) (tgt := 21) (cks_at k_BT_fault 7 rfl rfl) (by decide) ?_ ?_
    · refine tq_iconst (E := E_BT_fault d) (pc := 21) (cks_at k_BT_fault 11 rfl rfl) ?_
      exact tq_iret (E := E_BT_fault d) (pc := 22) (cks_at k_BT_fault 12 rfl rfl) rfl
    · refine tq_aload_n 0 (E := E_BT_fault d) (pc := 14) (cks_at k_BT_fault 8 rfl rfl) rfl ?_
      refine tq_getI (E := E_BT_fault d) (pc := 15) (cks_at k_BT_fault 9 rfl rfl) fo_BT_95 so_0 rfl (by decide) ?_
      refine tq_goto (tgt := 22) (E := E_BT_fault d) (pc := 18) (cks_at k_BT_fault 10 rfl rfl) (by decide) ?_
      exact tq_iret (E := E_BT_fault d) (pc := 22) (cks_at k_BT_fault 12 rfl rfl) rfl
  · refine tq_aload_n 0 (E := E_BT_fault d) (pc := 4) (cks_at k_BT_fault 2 rfl rfl) rfl ?_
    refine tq_getI (E := E_BT_fault d) (pc := 5) (cks_at k_BT_fault 3 rfl rfl) fo_BT_91 so_0 rfl (by decide) ?_
    exact tq_iret (E := E_BT_fault d) (pc := 8) (cks_at k_BT_fault 4 rfl rfl) rfl
abbrev E_M_isFull (d : Nat) : Ev := (Ct (d + 1), "BreathTownModel", prog_14_method_17_code, 4, False, 0, (fun _ => 0), (Option.some Jvm.ClassFile.FieldType.boolean))
def f_M_isFull_J23 (M : Mm) : Option (Int × Mm) :=
  if i32 (M 78 5) = 0 then
    some (0, M)
  else
    some (1, M)
set_option maxRecDepth 20000 in
set_option maxHeartbeats 4000000 in
theorem w_M_isFull_J23 (d : Nat) (M : Mm) : T (E_M_isFull d) injI 23 [(0, .ref 78)] [] M (f_M_isFull_J23 M) := by
  unfold f_M_isFull_J23
  refine tq_aload_n 0 (E := E_M_isFull d) (pc := 23) (cks_at k_M_isFull 13 rfl rfl) rfl ?_
  refine tq_getI (E := E_M_isFull d) (pc := 24) (cks_at k_M_isFull 14 rfl rfl) fo_M_225 so_78 rfl (by decide) ?_
  refine tq_if_eq (E := E_M_isFull d) (pc := 27) (tgt := 34) (cks_at k_M_isFull 15 rfl rfl) (by decide) ?_ ?_
  · refine tq_iconst (E := E_M_isFull d) (pc := 34) (cks_at k_M_isFull 18 rfl rfl) ?_
    exact tq_zretC (E := E_M_isFull d) (pc := 35) (cks_at k_M_isFull 19 rfl rfl) rfl (by decide)
  · refine tq_iconst (E := E_M_isFull d) (pc := 30) (cks_at k_M_isFull 16 rfl rfl) ?_
    refine tq_goto (tgt := 35) (E := E_M_isFull d) (pc := 31) (cks_at k_M_isFull 17 rfl rfl) (by decide) ?_
    exact tq_zretC (E := E_M_isFull d) (pc := 35) (cks_at k_M_isFull 19 rfl rfl) rfl (by decide)
def f_M_isFull (v1 : Int) (v2 : Int) (v3 : Int) (M : Mm) : Option (Int × Mm) :=
  if ¬ i32 (M 78 5) = 0 then
    f_M_isFull_J23 M
  else
    gd (0 ≤ i32 v1 ∧ i32 v1 < ((6 : Nat) : Int)) <|
    if ¬ i32 (M 98 (i32 v1).toNat) = i32 v2 then
      f_M_isFull_J23 M
    else
      bV (f_M_fail 5 v3 M) (fun M1 =>
      f_M_isFull_J23 M1)
set_option maxRecDepth 20000 in
set_option maxHeartbeats 4000000 in
theorem c_M_isFull (d : Nat) (v1 : Int) (v2 : Int) (v3 : Int) (M : Mm) (Q : Option Value → Mm → Prop) (h : sat injI (f_M_isFull v1 v2 v3 M) Q) : Ct (d + 2) y_M_isFull [.ref 78, vI v1, vI v2, vI v3] M Q := by
  refine ct_in (d := d + 1) mk_M_isFull (Nat.le_of_ble_eq_true rfl) (?_ : T (E_M_isFull d) injI 0 [(0, .ref 78), (1, vI v1), (2, vI v2), (3, vI v3)] [] M (f_M_isFull v1 v2 v3 M)) h
  unfold f_M_isFull
  refine tq_aload_n 0 (E := E_M_isFull d) (pc := 0) (cks_at k_M_isFull 0 rfl rfl) rfl ?_
  refine tq_getI (E := E_M_isFull d) (pc := 1) (cks_at k_M_isFull 1 rfl rfl) fo_M_225 so_78 rfl (by decide) ?_
  refine tq_if_ne (E := E_M_isFull d) (pc := 4) (tgt := 23) (cks_at k_M_isFull 2 rfl rfl) (by decide) ?_ ?_
  · exact tq_sub [0] rfl (w_M_isFull_J23 d M)
  · refine tq_aload_n 0 (E := E_M_isFull d) (pc := 7) (cks_at k_M_isFull 3 rfl rfl) rfl ?_
    refine tq_getR (j := 98) (E := E_M_isFull d) (pc := 8) (cks_at k_M_isFull 4 rfl rfl) fo_M_72 so_78 rfl sp_78_28 ?_
    refine tq_iload_n 1 (E := E_M_isFull d) (pc := 11) (cks_at k_M_isFull 5 rfl rfl) rfl ?_
    refine tq_iald (E := E_M_isFull d) (pc := 12) (cks_at k_M_isFull 6 rfl rfl) sa_98 sn_98 ?_
    refine tq_iload_n 2 (E := E_M_isFull d) (pc := 13) (cks_at k_M_isFull 7 rfl rfl) rfl ?_
    refine tq_icmp_ne (E := E_M_isFull d) (pc := 14) (tgt := 23) (cks_at k_M_isFull 8 rfl rfl) (by decide) ?_ ?_
    · exact tq_sub [0] rfl (w_M_isFull_J23 d M)
    · refine tq_aload_n 0 (E := E_M_isFull d) (pc := 17) (cks_at k_M_isFull 9 rfl rfl) rfl ?_
      refine tq_iconst (E := E_M_isFull d) (pc := 18) (cks_at k_M_isFull 10 rfl rfl) ?_
      refine tq_iload_n 3 (E := E_M_isFull d) (pc := 19) (cks_at k_M_isFull 11 rfl rfl) rfl ?_
      refine tq_V2 (E := E_M_isFull d) (pc := 20) (cks_at k_M_isFull 12 rfl rfl) mk_M_fail lk_M_255 rc_78 (Nat.le_of_ble_eq_true rfl) (c_M_fail (d + 0) 5 v3 M) (k_V fun M1 => ?_)
      exact tq_sub [0] rfl (w_M_isFull_J23 d M1)
abbrev E_M_isOwnHere (d : Nat) : Ev := (Ct (d + 2), "BreathTownModel", prog_14_method_15_code, 2, False, 0, (fun _ => 0), (Option.some Jvm.ClassFile.FieldType.boolean))
def f_M_isOwnHere_J147 (s0 : Int) (M : Mm) : Option (Int × Mm) :=
  if ¬ i32 s0 = 0 then
    some (1, M)
  else
    bI (f_M_isHere 93 M) (fun r4 M3 =>
    if ¬ i32 r4 = 0 then
      some (1, M3)
    else
      bI (f_M_isHere 94 M3) (fun r6 M5 =>
      if ¬ i32 r6 = 0 then
        some (1, M5)
      else
        bI (f_M_isHere 95 M5) (fun r8 M7 =>
        if ¬ i32 r8 = 0 then
          some (1, M7)
        else
          bI (f_M_isHere 96 M7) (fun r10 M9 =>
          if ¬ i32 r10 = 0 then
            some (1, M9)
          else
            bI (f_M_isHere 97 M9) (fun r12 M11 =>
            if i32 r12 = 0 then
              some (0, M11)
            else
              some (1, M11))))))
set_option maxRecDepth 20000 in
set_option maxHeartbeats 4000000 in
theorem w_M_isOwnHere_J147 (d : Nat) (s0 : Int) (M : Mm) : T (E_M_isOwnHere d) injI 147 [(0, .ref 78)] [vI s0] M (f_M_isOwnHere_J147 s0 M) := by
  unfold f_M_isOwnHere_J147
  refine tq_istore_n (E := E_M_isOwnHere d) (pc := 147) (cks_at k_M_isOwnHere 69 rfl rfl) (show 1 < 2 by decide) rfl ?_
  refine tq_iload_n 0 (E := E_M_isOwnHere d) (pc := 148) (cks_at k_M_isOwnHere 70 rfl rfl) rfl ?_
  refine tq_if_ne (E := E_M_isOwnHere d) (pc := 149) (tgt := 207) (cks_at k_M_isOwnHere 71 rfl rfl) (by decide) ?_ ?_
  · refine tq_iconst (E := E_M_isOwnHere d) (pc := 207) (cks_at k_M_isOwnHere 97 rfl rfl) ?_
    refine tq_goto (tgt := 212) (E := E_M_isOwnHere d) (pc := 208) (cks_at k_M_isOwnHere 98 rfl rfl) (by decide) ?_
    refine tq_istore_n (E := E_M_isOwnHere d) (pc := 212) (cks_at k_M_isOwnHere 100 rfl rfl) (show 1 < 2 by decide) rfl ?_
    refine tq_iload_n 0 (E := E_M_isOwnHere d) (pc := 213) (cks_at k_M_isOwnHere 101 rfl rfl) rfl ?_
    exact tq_zretC (E := E_M_isOwnHere d) (pc := 214) (cks_at k_M_isOwnHere 102 rfl rfl) rfl (by decide)
  · refine tq_aload_n 1 (E := E_M_isOwnHere d) (pc := 152) (cks_at k_M_isOwnHere 72 rfl rfl) rfl ?_
    refine tq_aload_n 1 (E := E_M_isOwnHere d) (pc := 153) (cks_at k_M_isOwnHere 73 rfl rfl) rfl ?_
    refine tq_getR (j := 93) (E := E_M_isOwnHere d) (pc := 154) (cks_at k_M_isOwnHere 74 rfl rfl) fo_M_57 so_78 rfl sp_78_22 ?_
    refine tq_V1 (E := E_M_isOwnHere d) (pc := 157) (cks_at k_M_isOwnHere 75 rfl rfl) mk_M_isHere lk_M_248 rc_78 (Nat.le_of_ble_eq_true rfl) (c_M_isHere (d + 0) 93 sa_93 M) (k_I fun r4 M3 => ?_)
    refine tq_if_ne (E := E_M_isOwnHere d) (pc := 160) (tgt := 207) (cks_at k_M_isOwnHere 76 rfl rfl) (by decide) ?_ ?_
    · refine tq_iconst (E := E_M_isOwnHere d) (pc := 207) (cks_at k_M_isOwnHere 97 rfl rfl) ?_
      refine tq_goto (tgt := 212) (E := E_M_isOwnHere d) (pc := 208) (cks_at k_M_isOwnHere 98 rfl rfl) (by decide) ?_
      refine tq_istore_n (E := E_M_isOwnHere d) (pc := 212) (cks_at k_M_isOwnHere 100 rfl rfl) (show 1 < 2 by decide) rfl ?_
      refine tq_iload_n 0 (E := E_M_isOwnHere d) (pc := 213) (cks_at k_M_isOwnHere 101 rfl rfl) rfl ?_
      exact tq_zretC (E := E_M_isOwnHere d) (pc := 214) (cks_at k_M_isOwnHere 102 rfl rfl) rfl (by decide)
    · refine tq_aload_n 1 (E := E_M_isOwnHere d) (pc := 163) (cks_at k_M_isOwnHere 77 rfl rfl) rfl ?_
      refine tq_aload_n 1 (E := E_M_isOwnHere d) (pc := 164) (cks_at k_M_isOwnHere 78 rfl rfl) rfl ?_
      refine tq_getR (j := 94) (E := E_M_isOwnHere d) (pc := 165) (cks_at k_M_isOwnHere 79 rfl rfl) fo_M_60 so_78 rfl sp_78_23 ?_
      refine tq_V1 (E := E_M_isOwnHere d) (pc := 168) (cks_at k_M_isOwnHere 80 rfl rfl) mk_M_isHere lk_M_248 rc_78 (Nat.le_of_ble_eq_true rfl) (c_M_isHere (d + 0) 94 sa_94 M3) (k_I fun r6 M5 => ?_)
      refine tq_if_ne (E := E_M_isOwnHere d) (pc := 171) (tgt := 207) (cks_at k_M_isOwnHere 81 rfl rfl) (by decide) ?_ ?_
      · refine tq_iconst (E := E_M_isOwnHere d) (pc := 207) (cks_at k_M_isOwnHere 97 rfl rfl) ?_
        refine tq_goto (tgt := 212) (E := E_M_isOwnHere d) (pc := 208) (cks_at k_M_isOwnHere 98 rfl rfl) (by decide) ?_
        refine tq_istore_n (E := E_M_isOwnHere d) (pc := 212) (cks_at k_M_isOwnHere 100 rfl rfl) (show 1 < 2 by decide) rfl ?_
        refine tq_iload_n 0 (E := E_M_isOwnHere d) (pc := 213) (cks_at k_M_isOwnHere 101 rfl rfl) rfl ?_
        exact tq_zretC (E := E_M_isOwnHere d) (pc := 214) (cks_at k_M_isOwnHere 102 rfl rfl) rfl (by decide)
      · refine tq_aload_n 1 (E := E_M_isOwnHere d) (pc := 174) (cks_at k_M_isOwnHere 82 rfl rfl) rfl ?_
        refine tq_aload_n 1 (E := E_M_isOwnHere d) (pc := 175) (cks_at k_M_isOwnHere 83 rfl rfl) rfl ?_
        refine tq_getR (j := 95) (E := E_M_isOwnHere d) (pc := 176) (cks_at k_M_isOwnHere 84 rfl rfl) fo_M_63 so_78 rfl sp_78_24 ?_
        refine tq_V1 (E := E_M_isOwnHere d) (pc := 179) (cks_at k_M_isOwnHere 85 rfl rfl) mk_M_isHere lk_M_248 rc_78 (Nat.le_of_ble_eq_true rfl) (c_M_isHere (d + 0) 95 sa_95 M5) (k_I fun r8 M7 => ?_)
        refine tq_if_ne (E := E_M_isOwnHere d) (pc := 182) (tgt := 207) (cks_at k_M_isOwnHere 86 rfl rfl) (by decide) ?_ ?_
        · refine tq_iconst (E := E_M_isOwnHere d) (pc := 207) (cks_at k_M_isOwnHere 97 rfl rfl) ?_
          refine tq_goto (tgt := 212) (E := E_M_isOwnHere d) (pc := 208) (cks_at k_M_isOwnHere 98 rfl rfl) (by decide) ?_
          refine tq_istore_n (E := E_M_isOwnHere d) (pc := 212) (cks_at k_M_isOwnHere 100 rfl rfl) (show 1 < 2 by decide) rfl ?_
          refine tq_iload_n 0 (E := E_M_isOwnHere d) (pc := 213) (cks_at k_M_isOwnHere 101 rfl rfl) rfl ?_
          exact tq_zretC (E := E_M_isOwnHere d) (pc := 214) (cks_at k_M_isOwnHere 102 rfl rfl) rfl (by decide)
        · refine tq_aload_n 1 (E := E_M_isOwnHere d) (pc := 185) (cks_at k_M_isOwnHere 87 rfl rfl) rfl ?_
          refine tq_aload_n 1 (E := E_M_isOwnHere d) (pc := 186) (cks_at k_M_isOwnHere 88 rfl rfl) rfl ?_
          refine tq_getR (j := 96) (E := E_M_isOwnHere d) (pc := 187) (cks_at k_M_isOwnHere 89 rfl rfl) fo_M_66 so_78 rfl sp_78_25 ?_
          refine tq_V1 (E := E_M_isOwnHere d) (pc := 190) (cks_at k_M_isOwnHere 90 rfl rfl) mk_M_isHere lk_M_248 rc_78 (Nat.le_of_ble_eq_true rfl) (c_M_isHere (d + 0) 96 sa_96 M7) (k_I fun r10 M9 => ?_)
          refine tq_if_ne (E := E_M_isOwnHere d) (pc := 193) (tgt := 207) (cks_at k_M_isOwnHere 91 rfl rfl) (by decide) ?_ ?_
          · refine tq_iconst (E := E_M_isOwnHere d) (pc := 207) (cks_at k_M_isOwnHere 97 rfl rfl) ?_
            refine tq_goto (tgt := 212) (E := E_M_isOwnHere d) (pc := 208) (cks_at k_M_isOwnHere 98 rfl rfl) (by decide) ?_
            refine tq_istore_n (E := E_M_isOwnHere d) (pc := 212) (cks_at k_M_isOwnHere 100 rfl rfl) (show 1 < 2 by decide) rfl ?_
            refine tq_iload_n 0 (E := E_M_isOwnHere d) (pc := 213) (cks_at k_M_isOwnHere 101 rfl rfl) rfl ?_
            exact tq_zretC (E := E_M_isOwnHere d) (pc := 214) (cks_at k_M_isOwnHere 102 rfl rfl) rfl (by decide)
          · refine tq_aload_n 1 (E := E_M_isOwnHere d) (pc := 196) (cks_at k_M_isOwnHere 92 rfl rfl) rfl ?_
            refine tq_aload_n 1 (E := E_M_isOwnHere d) (pc := 197) (cks_at k_M_isOwnHere 93 rfl rfl) rfl ?_
            refine tq_getR (j := 97) (E := E_M_isOwnHere d) (pc := 198) (cks_at k_M_isOwnHere 94 rfl rfl) fo_M_69 so_78 rfl sp_78_26 ?_
            refine tq_V1 (E := E_M_isOwnHere d) (pc := 201) (cks_at k_M_isOwnHere 95 rfl rfl) mk_M_isHere lk_M_248 rc_78 (Nat.le_of_ble_eq_true rfl) (c_M_isHere (d + 0) 97 sa_97 M9) (k_I fun r12 M11 => ?_)
            refine tq_if_eq (E := E_M_isOwnHere d) (pc := 204) (tgt := 211) (cks_at k_M_isOwnHere 96 rfl rfl) (by decide) ?_ ?_
            · refine tq_iconst (E := E_M_isOwnHere d) (pc := 211) (cks_at k_M_isOwnHere 99 rfl rfl) ?_
              refine tq_istore_n (E := E_M_isOwnHere d) (pc := 212) (cks_at k_M_isOwnHere 100 rfl rfl) (show 1 < 2 by decide) rfl ?_
              refine tq_iload_n 0 (E := E_M_isOwnHere d) (pc := 213) (cks_at k_M_isOwnHere 101 rfl rfl) rfl ?_
              exact tq_zretC (E := E_M_isOwnHere d) (pc := 214) (cks_at k_M_isOwnHere 102 rfl rfl) rfl (by decide)
            · refine tq_iconst (E := E_M_isOwnHere d) (pc := 207) (cks_at k_M_isOwnHere 97 rfl rfl) ?_
              refine tq_goto (tgt := 212) (E := E_M_isOwnHere d) (pc := 208) (cks_at k_M_isOwnHere 98 rfl rfl) (by decide) ?_
              refine tq_istore_n (E := E_M_isOwnHere d) (pc := 212) (cks_at k_M_isOwnHere 100 rfl rfl) (show 1 < 2 by decide) rfl ?_
              refine tq_iload_n 0 (E := E_M_isOwnHere d) (pc := 213) (cks_at k_M_isOwnHere 101 rfl rfl) rfl ?_
              exact tq_zretC (E := E_M_isOwnHere d) (pc := 214) (cks_at k_M_isOwnHere 102 rfl rfl) rfl (by decide)
def f_M_isOwnHere_J71 (s0 : Int) (M : Mm) : Option (Int × Mm) :=
  if ¬ i32 s0 = 0 then
    f_M_isOwnHere_J147 1 M
  else
    bI (f_M_isHere 87 M) (fun r14 M13 =>
    if ¬ i32 r14 = 0 then
      f_M_isOwnHere_J147 1 M13
    else
      bI (f_M_isHere 88 M13) (fun r16 M15 =>
      if ¬ i32 r16 = 0 then
        f_M_isOwnHere_J147 1 M15
      else
        bI (f_M_isHere 89 M15) (fun r18 M17 =>
        if ¬ i32 r18 = 0 then
          f_M_isOwnHere_J147 1 M17
        else
          bI (f_M_isHere 90 M17) (fun r20 M19 =>
          if ¬ i32 r20 = 0 then
            f_M_isOwnHere_J147 1 M19
          else
            bI (f_M_isHere 91 M19) (fun r22 M21 =>
            if ¬ i32 r22 = 0 then
              f_M_isOwnHere_J147 1 M21
            else
              bI (f_M_isHere 92 M21) (fun r24 M23 =>
              if i32 r24 = 0 then
                f_M_isOwnHere_J147 0 M23
              else
                f_M_isOwnHere_J147 1 M23))))))
set_option maxRecDepth 20000 in
set_option maxHeartbeats 4000000 in
theorem w_M_isOwnHere_J71 (d : Nat) (s0 : Int) (M : Mm) : T (E_M_isOwnHere d) injI 71 [(0, .ref 78)] [vI s0] M (f_M_isOwnHere_J71 s0 M) := by
  unfold f_M_isOwnHere_J71
  refine tq_istore_n (E := E_M_isOwnHere d) (pc := 71) (cks_at k_M_isOwnHere 33 rfl rfl) (show 1 < 2 by decide) rfl ?_
  refine tq_iload_n 0 (E := E_M_isOwnHere d) (pc := 72) (cks_at k_M_isOwnHere 34 rfl rfl) rfl ?_
  refine tq_if_ne (E := E_M_isOwnHere d) (pc := 73) (tgt := 142) (cks_at k_M_isOwnHere 35 rfl rfl) (by decide) ?_ ?_
  · refine tq_iconst (E := E_M_isOwnHere d) (pc := 142) (cks_at k_M_isOwnHere 66 rfl rfl) ?_
    refine tq_goto (tgt := 147) (E := E_M_isOwnHere d) (pc := 143) (cks_at k_M_isOwnHere 67 rfl rfl) (by decide) ?_
    exact tq_sub [1] rfl (w_M_isOwnHere_J147 d 1 M)
  · refine tq_aload_n 1 (E := E_M_isOwnHere d) (pc := 76) (cks_at k_M_isOwnHere 36 rfl rfl) rfl ?_
    refine tq_aload_n 1 (E := E_M_isOwnHere d) (pc := 77) (cks_at k_M_isOwnHere 37 rfl rfl) rfl ?_
    refine tq_getR (j := 87) (E := E_M_isOwnHere d) (pc := 78) (cks_at k_M_isOwnHere 38 rfl rfl) fo_M_39 so_78 rfl sp_78_16 ?_
    refine tq_V1 (E := E_M_isOwnHere d) (pc := 81) (cks_at k_M_isOwnHere 39 rfl rfl) mk_M_isHere lk_M_248 rc_78 (Nat.le_of_ble_eq_true rfl) (c_M_isHere (d + 0) 87 sa_87 M) (k_I fun r14 M13 => ?_)
    refine tq_if_ne (E := E_M_isOwnHere d) (pc := 84) (tgt := 142) (cks_at k_M_isOwnHere 40 rfl rfl) (by decide) ?_ ?_
    · refine tq_iconst (E := E_M_isOwnHere d) (pc := 142) (cks_at k_M_isOwnHere 66 rfl rfl) ?_
      refine tq_goto (tgt := 147) (E := E_M_isOwnHere d) (pc := 143) (cks_at k_M_isOwnHere 67 rfl rfl) (by decide) ?_
      exact tq_sub [1] rfl (w_M_isOwnHere_J147 d 1 M13)
    · refine tq_aload_n 1 (E := E_M_isOwnHere d) (pc := 87) (cks_at k_M_isOwnHere 41 rfl rfl) rfl ?_
      refine tq_aload_n 1 (E := E_M_isOwnHere d) (pc := 88) (cks_at k_M_isOwnHere 42 rfl rfl) rfl ?_
      refine tq_getR (j := 88) (E := E_M_isOwnHere d) (pc := 89) (cks_at k_M_isOwnHere 43 rfl rfl) fo_M_42 so_78 rfl sp_78_17 ?_
      refine tq_V1 (E := E_M_isOwnHere d) (pc := 92) (cks_at k_M_isOwnHere 44 rfl rfl) mk_M_isHere lk_M_248 rc_78 (Nat.le_of_ble_eq_true rfl) (c_M_isHere (d + 0) 88 sa_88 M13) (k_I fun r16 M15 => ?_)
      refine tq_if_ne (E := E_M_isOwnHere d) (pc := 95) (tgt := 142) (cks_at k_M_isOwnHere 45 rfl rfl) (by decide) ?_ ?_
      · refine tq_iconst (E := E_M_isOwnHere d) (pc := 142) (cks_at k_M_isOwnHere 66 rfl rfl) ?_
        refine tq_goto (tgt := 147) (E := E_M_isOwnHere d) (pc := 143) (cks_at k_M_isOwnHere 67 rfl rfl) (by decide) ?_
        exact tq_sub [1] rfl (w_M_isOwnHere_J147 d 1 M15)
      · refine tq_aload_n 1 (E := E_M_isOwnHere d) (pc := 98) (cks_at k_M_isOwnHere 46 rfl rfl) rfl ?_
        refine tq_aload_n 1 (E := E_M_isOwnHere d) (pc := 99) (cks_at k_M_isOwnHere 47 rfl rfl) rfl ?_
        refine tq_getR (j := 89) (E := E_M_isOwnHere d) (pc := 100) (cks_at k_M_isOwnHere 48 rfl rfl) fo_M_45 so_78 rfl sp_78_18 ?_
        refine tq_V1 (E := E_M_isOwnHere d) (pc := 103) (cks_at k_M_isOwnHere 49 rfl rfl) mk_M_isHere lk_M_248 rc_78 (Nat.le_of_ble_eq_true rfl) (c_M_isHere (d + 0) 89 sa_89 M15) (k_I fun r18 M17 => ?_)
        refine tq_if_ne (E := E_M_isOwnHere d) (pc := 106) (tgt := 142) (cks_at k_M_isOwnHere 50 rfl rfl) (by decide) ?_ ?_
        · refine tq_iconst (E := E_M_isOwnHere d) (pc := 142) (cks_at k_M_isOwnHere 66 rfl rfl) ?_
          refine tq_goto (tgt := 147) (E := E_M_isOwnHere d) (pc := 143) (cks_at k_M_isOwnHere 67 rfl rfl) (by decide) ?_
          exact tq_sub [1] rfl (w_M_isOwnHere_J147 d 1 M17)
        · refine tq_aload_n 1 (E := E_M_isOwnHere d) (pc := 109) (cks_at k_M_isOwnHere 51 rfl rfl) rfl ?_
          refine tq_aload_n 1 (E := E_M_isOwnHere d) (pc := 110) (cks_at k_M_isOwnHere 52 rfl rfl) rfl ?_
          refine tq_getR (j := 90) (E := E_M_isOwnHere d) (pc := 111) (cks_at k_M_isOwnHere 53 rfl rfl) fo_M_48 so_78 rfl sp_78_19 ?_
          refine tq_V1 (E := E_M_isOwnHere d) (pc := 114) (cks_at k_M_isOwnHere 54 rfl rfl) mk_M_isHere lk_M_248 rc_78 (Nat.le_of_ble_eq_true rfl) (c_M_isHere (d + 0) 90 sa_90 M17) (k_I fun r20 M19 => ?_)
          refine tq_if_ne (E := E_M_isOwnHere d) (pc := 117) (tgt := 142) (cks_at k_M_isOwnHere 55 rfl rfl) (by decide) ?_ ?_
          · refine tq_iconst (E := E_M_isOwnHere d) (pc := 142) (cks_at k_M_isOwnHere 66 rfl rfl) ?_
            refine tq_goto (tgt := 147) (E := E_M_isOwnHere d) (pc := 143) (cks_at k_M_isOwnHere 67 rfl rfl) (by decide) ?_
            exact tq_sub [1] rfl (w_M_isOwnHere_J147 d 1 M19)
          · refine tq_aload_n 1 (E := E_M_isOwnHere d) (pc := 120) (cks_at k_M_isOwnHere 56 rfl rfl) rfl ?_
            refine tq_aload_n 1 (E := E_M_isOwnHere d) (pc := 121) (cks_at k_M_isOwnHere 57 rfl rfl) rfl ?_
            refine tq_getR (j := 91) (E := E_M_isOwnHere d) (pc := 122) (cks_at k_M_isOwnHere 58 rfl rfl) fo_M_51 so_78 rfl sp_78_20 ?_
            refine tq_V1 (E := E_M_isOwnHere d) (pc := 125) (cks_at k_M_isOwnHere 59 rfl rfl) mk_M_isHere lk_M_248 rc_78 (Nat.le_of_ble_eq_true rfl) (c_M_isHere (d + 0) 91 sa_91 M19) (k_I fun r22 M21 => ?_)
            refine tq_if_ne (E := E_M_isOwnHere d) (pc := 128) (tgt := 142) (cks_at k_M_isOwnHere 60 rfl rfl) (by decide) ?_ ?_
            · refine tq_iconst (E := E_M_isOwnHere d) (pc := 142) (cks_at k_M_isOwnHere 66 rfl rfl) ?_
              refine tq_goto (tgt := 147) (E := E_M_isOwnHere d) (pc := 143) (cks_at k_M_isOwnHere 67 rfl rfl) (by decide) ?_
              exact tq_sub [1] rfl (w_M_isOwnHere_J147 d 1 M21)
            · refine tq_aload_n 1 (E := E_M_isOwnHere d) (pc := 131) (cks_at k_M_isOwnHere 61 rfl rfl) rfl ?_
              refine tq_aload_n 1 (E := E_M_isOwnHere d) (pc := 132) (cks_at k_M_isOwnHere 62 rfl rfl) rfl ?_
              refine tq_getR (j := 92) (E := E_M_isOwnHere d) (pc := 133) (cks_at k_M_isOwnHere 63 rfl rfl) fo_M_54 so_78 rfl sp_78_21 ?_
              refine tq_V1 (E := E_M_isOwnHere d) (pc := 136) (cks_at k_M_isOwnHere 64 rfl rfl) mk_M_isHere lk_M_248 rc_78 (Nat.le_of_ble_eq_true rfl) (c_M_isHere (d + 0) 92 sa_92 M21) (k_I fun r24 M23 => ?_)
              refine tq_if_eq (E := E_M_isOwnHere d) (pc := 139) (tgt := 146) (cks_at k_M_isOwnHere 65 rfl rfl) (by decide) ?_ ?_
              · refine tq_iconst (E := E_M_isOwnHere d) (pc := 146) (cks_at k_M_isOwnHere 68 rfl rfl) ?_
                exact tq_sub [1] rfl (w_M_isOwnHere_J147 d 0 M23)
              · refine tq_iconst (E := E_M_isOwnHere d) (pc := 142) (cks_at k_M_isOwnHere 66 rfl rfl) ?_
                refine tq_goto (tgt := 147) (E := E_M_isOwnHere d) (pc := 143) (cks_at k_M_isOwnHere 67 rfl rfl) (by decide) ?_
                exact tq_sub [1] rfl (w_M_isOwnHere_J147 d 1 M23)
def f_M_isOwnHere (M : Mm) : Option (Int × Mm) :=
  bI (f_M_isHere 81 M) (fun r2 M1 =>
  if ¬ i32 r2 = 0 then
    f_M_isOwnHere_J71 1 M1
  else
    bI (f_M_isHere 82 M1) (fun r26 M25 =>
    if ¬ i32 r26 = 0 then
      f_M_isOwnHere_J71 1 M25
    else
      bI (f_M_isHere 83 M25) (fun r28 M27 =>
      if ¬ i32 r28 = 0 then
        f_M_isOwnHere_J71 1 M27
      else
        bI (f_M_isHere 84 M27) (fun r30 M29 =>
        if ¬ i32 r30 = 0 then
          f_M_isOwnHere_J71 1 M29
        else
          bI (f_M_isHere 85 M29) (fun r32 M31 =>
          if ¬ i32 r32 = 0 then
            f_M_isOwnHere_J71 1 M31
          else
            bI (f_M_isHere 86 M31) (fun r34 M33 =>
            if i32 r34 = 0 then
              f_M_isOwnHere_J71 0 M33
            else
              f_M_isOwnHere_J71 1 M33))))))
set_option maxRecDepth 20000 in
set_option maxHeartbeats 4000000 in
theorem c_M_isOwnHere (d : Nat) (M : Mm) (Q : Option Value → Mm → Prop) (h : sat injI (f_M_isOwnHere M) Q) : Ct (d + 3) y_M_isOwnHere [.ref 78] M Q := by
  refine ct_in (d := d + 2) mk_M_isOwnHere (Nat.le_of_ble_eq_true rfl) (?_ : T (E_M_isOwnHere d) injI 0 [(0, .ref 78)] [] M (f_M_isOwnHere M)) h
  unfold f_M_isOwnHere
  refine tq_aload_n 0 (E := E_M_isOwnHere d) (pc := 0) (cks_at k_M_isOwnHere 0 rfl rfl) rfl ?_
  refine tq_aload_n 0 (E := E_M_isOwnHere d) (pc := 1) (cks_at k_M_isOwnHere 1 rfl rfl) rfl ?_
  refine tq_getR (j := 81) (E := E_M_isOwnHere d) (pc := 2) (cks_at k_M_isOwnHere 2 rfl rfl) fo_M_20 so_78 rfl sp_78_10 ?_
  refine tq_V1 (E := E_M_isOwnHere d) (pc := 5) (cks_at k_M_isOwnHere 3 rfl rfl) mk_M_isHere lk_M_248 rc_78 (Nat.le_of_ble_eq_true rfl) (c_M_isHere (d + 0) 81 sa_81 M) (k_I fun r2 M1 => ?_)
  refine tq_if_ne (E := E_M_isOwnHere d) (pc := 8) (tgt := 66) (cks_at k_M_isOwnHere 4 rfl rfl) (by decide) ?_ ?_
  · refine tq_iconst (E := E_M_isOwnHere d) (pc := 66) (cks_at k_M_isOwnHere 30 rfl rfl) ?_
    refine tq_goto (tgt := 71) (E := E_M_isOwnHere d) (pc := 67) (cks_at k_M_isOwnHere 31 rfl rfl) (by decide) ?_
    exact tq_sub [0] rfl (w_M_isOwnHere_J71 d 1 M1)
  · refine tq_aload_n 0 (E := E_M_isOwnHere d) (pc := 11) (cks_at k_M_isOwnHere 5 rfl rfl) rfl ?_
    refine tq_aload_n 0 (E := E_M_isOwnHere d) (pc := 12) (cks_at k_M_isOwnHere 6 rfl rfl) rfl ?_
    refine tq_getR (j := 82) (E := E_M_isOwnHere d) (pc := 13) (cks_at k_M_isOwnHere 7 rfl rfl) fo_M_24 so_78 rfl sp_78_11 ?_
    refine tq_V1 (E := E_M_isOwnHere d) (pc := 16) (cks_at k_M_isOwnHere 8 rfl rfl) mk_M_isHere lk_M_248 rc_78 (Nat.le_of_ble_eq_true rfl) (c_M_isHere (d + 0) 82 sa_82 M1) (k_I fun r26 M25 => ?_)
    refine tq_if_ne (E := E_M_isOwnHere d) (pc := 19) (tgt := 66) (cks_at k_M_isOwnHere 9 rfl rfl) (by decide) ?_ ?_
    · refine tq_iconst (E := E_M_isOwnHere d) (pc := 66) (cks_at k_M_isOwnHere 30 rfl rfl) ?_
      refine tq_goto (tgt := 71) (E := E_M_isOwnHere d) (pc := 67) (cks_at k_M_isOwnHere 31 rfl rfl) (by decide) ?_
      exact tq_sub [0] rfl (w_M_isOwnHere_J71 d 1 M25)
    · refine tq_aload_n 0 (E := E_M_isOwnHere d) (pc := 22) (cks_at k_M_isOwnHere 10 rfl rfl) rfl ?_
      refine tq_aload_n 0 (E := E_M_isOwnHere d) (pc := 23) (cks_at k_M_isOwnHere 11 rfl rfl) rfl ?_
      refine tq_getR (j := 83) (E := E_M_isOwnHere d) (pc := 24) (cks_at k_M_isOwnHere 12 rfl rfl) fo_M_27 so_78 rfl sp_78_12 ?_
      refine tq_V1 (E := E_M_isOwnHere d) (pc := 27) (cks_at k_M_isOwnHere 13 rfl rfl) mk_M_isHere lk_M_248 rc_78 (Nat.le_of_ble_eq_true rfl) (c_M_isHere (d + 0) 83 sa_83 M25) (k_I fun r28 M27 => ?_)
      refine tq_if_ne (E := E_M_isOwnHere d) (pc := 30) (tgt := 66) (cks_at k_M_isOwnHere 14 rfl rfl) (by decide) ?_ ?_
      · refine tq_iconst (E := E_M_isOwnHere d) (pc := 66) (cks_at k_M_isOwnHere 30 rfl rfl) ?_
        refine tq_goto (tgt := 71) (E := E_M_isOwnHere d) (pc := 67) (cks_at k_M_isOwnHere 31 rfl rfl) (by decide) ?_
        exact tq_sub [0] rfl (w_M_isOwnHere_J71 d 1 M27)
      · refine tq_aload_n 0 (E := E_M_isOwnHere d) (pc := 33) (cks_at k_M_isOwnHere 15 rfl rfl) rfl ?_
        refine tq_aload_n 0 (E := E_M_isOwnHere d) (pc := 34) (cks_at k_M_isOwnHere 16 rfl rfl) rfl ?_
        refine tq_getR (j := 84) (E := E_M_isOwnHere d) (pc := 35) (cks_at k_M_isOwnHere 17 rfl rfl) fo_M_30 so_78 rfl sp_78_13 ?_
        refine tq_V1 (E := E_M_isOwnHere d) (pc := 38) (cks_at k_M_isOwnHere 18 rfl rfl) mk_M_isHere lk_M_248 rc_78 (Nat.le_of_ble_eq_true rfl) (c_M_isHere (d + 0) 84 sa_84 M27) (k_I fun r30 M29 => ?_)
        refine tq_if_ne (E := E_M_isOwnHere d) (pc := 41) (tgt := 66) (cks_at k_M_isOwnHere 19 rfl rfl) (by decide) ?_ ?_
        · refine tq_iconst (E := E_M_isOwnHere d) (pc := 66) (cks_at k_M_isOwnHere 30 rfl rfl) ?_
          refine tq_goto (tgt := 71) (E := E_M_isOwnHere d) (pc := 67) (cks_at k_M_isOwnHere 31 rfl rfl) (by decide) ?_
          exact tq_sub [0] rfl (w_M_isOwnHere_J71 d 1 M29)
        · refine tq_aload_n 0 (E := E_M_isOwnHere d) (pc := 44) (cks_at k_M_isOwnHere 20 rfl rfl) rfl ?_
          refine tq_aload_n 0 (E := E_M_isOwnHere d) (pc := 45) (cks_at k_M_isOwnHere 21 rfl rfl) rfl ?_
          refine tq_getR (j := 85) (E := E_M_isOwnHere d) (pc := 46) (cks_at k_M_isOwnHere 22 rfl rfl) fo_M_33 so_78 rfl sp_78_14 ?_
          refine tq_V1 (E := E_M_isOwnHere d) (pc := 49) (cks_at k_M_isOwnHere 23 rfl rfl) mk_M_isHere lk_M_248 rc_78 (Nat.le_of_ble_eq_true rfl) (c_M_isHere (d + 0) 85 sa_85 M29) (k_I fun r32 M31 => ?_)
          refine tq_if_ne (E := E_M_isOwnHere d) (pc := 52) (tgt := 66) (cks_at k_M_isOwnHere 24 rfl rfl) (by decide) ?_ ?_
          · refine tq_iconst (E := E_M_isOwnHere d) (pc := 66) (cks_at k_M_isOwnHere 30 rfl rfl) ?_
            refine tq_goto (tgt := 71) (E := E_M_isOwnHere d) (pc := 67) (cks_at k_M_isOwnHere 31 rfl rfl) (by decide) ?_
            exact tq_sub [0] rfl (w_M_isOwnHere_J71 d 1 M31)
          · refine tq_aload_n 0 (E := E_M_isOwnHere d) (pc := 55) (cks_at k_M_isOwnHere 25 rfl rfl) rfl ?_
            refine tq_aload_n 0 (E := E_M_isOwnHere d) (pc := 56) (cks_at k_M_isOwnHere 26 rfl rfl) rfl ?_
            refine tq_getR (j := 86) (E := E_M_isOwnHere d) (pc := 57) (cks_at k_M_isOwnHere 27 rfl rfl) fo_M_36 so_78 rfl sp_78_15 ?_
            refine tq_V1 (E := E_M_isOwnHere d) (pc := 60) (cks_at k_M_isOwnHere 28 rfl rfl) mk_M_isHere lk_M_248 rc_78 (Nat.le_of_ble_eq_true rfl) (c_M_isHere (d + 0) 86 sa_86 M31) (k_I fun r34 M33 => ?_)
            refine tq_if_eq (E := E_M_isOwnHere d) (pc := 63) (tgt := 70) (cks_at k_M_isOwnHere 29 rfl rfl) (by decide) ?_ ?_
            · refine tq_iconst (E := E_M_isOwnHere d) (pc := 70) (cks_at k_M_isOwnHere 32 rfl rfl) ?_
              exact tq_sub [0] rfl (w_M_isOwnHere_J71 d 0 M33)
            · refine tq_iconst (E := E_M_isOwnHere d) (pc := 66) (cks_at k_M_isOwnHere 30 rfl rfl) ?_
              refine tq_goto (tgt := 71) (E := E_M_isOwnHere d) (pc := 67) (cks_at k_M_isOwnHere 31 rfl rfl) (by decide) ?_
              exact tq_sub [0] rfl (w_M_isOwnHere_J71 d 1 M33)
abbrev E_M_name (d : Nat) : Ev := (Ct (d + 3), "BreathTownModel", prog_14_method_16_code, 3, False, 0, (fun _ => 0), (Option.some Jvm.ClassFile.FieldType.long))
def f_M_name_J37 (M : Mm) : Option (Int × Mm) :=
  bV (f_M_fail 1 (M 78 2) M) (fun M5 =>
  some (0, M5))
set_option maxRecDepth 20000 in
set_option maxHeartbeats 4000000 in
theorem w_M_name_J37 (d : Nat) (M : Mm) : T (E_M_name d) injJ 37 [(0, .ref 78)] [] M (f_M_name_J37 M) := by
  unfold f_M_name_J37
  refine tq_aload_n 0 (E := E_M_name d) (pc := 37) (cks_at k_M_name 17 rfl rfl) rfl ?_
  refine tq_iconst (E := E_M_name d) (pc := 38) (cks_at k_M_name 18 rfl rfl) ?_
  refine tq_aload_n 0 (E := E_M_name d) (pc := 39) (cks_at k_M_name 19 rfl rfl) rfl ?_
  refine tq_getI (E := E_M_name d) (pc := 40) (cks_at k_M_name 20 rfl rfl) fo_M_231 so_78 rfl (by decide) ?_
  refine tq_V2 (E := E_M_name d) (pc := 43) (cks_at k_M_name 21 rfl rfl) mk_M_fail lk_M_255 rc_78 (Nat.le_of_ble_eq_true rfl) (c_M_fail (d + 2) 1 (M 78 2) M) (k_V fun M5 => ?_)
  refine tq_lconst0 (E := E_M_name d) (pc := 46) (cks_at k_M_name 22 rfl rfl) ?_
  exact tq_lret (E := E_M_name d) (pc := 47) (cks_at k_M_name 23 rfl rfl) rfl
def f_M_name_B58 (kH : Int → Mm → Option (Int × Mm)) (kx98 : Mm → Option (Int × Mm)) (v1 : Int) (M : Mm) : Option (Int × Mm) :=
  if i32 (M 78 3) ≤ i32 (M 78 2) then
    bd (up M 78 4 (M 78 2)) (fun M9 =>
    some (v1, M9))
  else
    gd (0 ≤ i32 (M 78 2) ∧ i32 (M 78 2) < ((1600 : Nat) : Int)) <|
    bI (f_M_isLetter (M 79 (i32 (M 78 2)).toNat) M) (fun r11 M10 =>
    if i32 r11 = 0 then
      bd (up M10 78 4 (M10 78 2)) (fun M12 =>
      some (v1, M12))
    else
      if ¬ i32 ((M10 78 2) - (M10 78 27)) = i32 6 then
        gd (0 ≤ i32 (M10 78 2) ∧ i32 (M10 78 2) < ((1600 : Nat) : Int)) <|
        bd (up M10 78 2 ((M10 78 2) + 1)) (fun M13 =>
        kH ((((27 * v1) + (i32 (M10 79 (i32 (M10 78 2)).toNat))) - 97) + 1) M13)
      else
        kx98 M10)
set_option maxRecDepth 20000 in
set_option maxHeartbeats 4000000 in
theorem w_M_name_B58 (d : Nat) (kH : Int → Mm → Option (Int × Mm)) (kx98 : Mm → Option (Int × Mm)) (hkH : ∀ (v1 : Int) (M : Mm), T (E_M_name d) injJ 58 [(0, .ref 78), (1, vJ v1)] [] M (kH v1 M)) (hkx98 : ∀  (M : Mm), T (E_M_name d) injJ 98 [(0, .ref 78)] [] M (kx98 M)) (v1 : Int) (M : Mm) : T (E_M_name d) injJ 58 [(0, .ref 78), (1, vJ v1)] [] M (f_M_name_B58 kH kx98 v1 M) := by
  unfold f_M_name_B58
  refine tq_aload_n 0 (E := E_M_name d) (pc := 58) (cks_at k_M_name 30 rfl rfl) rfl ?_
  refine tq_getI (E := E_M_name d) (pc := 59) (cks_at k_M_name 31 rfl rfl) fo_M_231 so_78 rfl (by decide) ?_
  refine tq_aload_n 0 (E := E_M_name d) (pc := 62) (cks_at k_M_name 32 rfl rfl) rfl ?_
  refine tq_getI (E := E_M_name d) (pc := 63) (cks_at k_M_name 33 rfl rfl) fo_M_234 so_78 rfl (by decide) ?_
  refine tq_icmp_ge (E := E_M_name d) (pc := 66) (tgt := 145) (cks_at k_M_name 34 rfl rfl) (by decide) ?_ ?_
  · refine tq_aload_n 0 (E := E_M_name d) (pc := 145) (cks_at k_M_name 78 rfl rfl) rfl ?_
    refine tq_aload_n 0 (E := E_M_name d) (pc := 146) (cks_at k_M_name 79 rfl rfl) rfl ?_
    refine tq_getI (E := E_M_name d) (pc := 147) (cks_at k_M_name 80 rfl rfl) fo_M_231 so_78 rfl (by decide) ?_
    refine tq_putI (E := E_M_name d) (pc := 150) (cks_at k_M_name 81 rfl rfl) fo_M_245 so_78 rfl po_12_4 (fun M9 => ?_)
    refine tq_lload_n 1 (E := E_M_name d) (pc := 153) (cks_at k_M_name 82 rfl rfl) rfl ?_
    exact tq_lret (E := E_M_name d) (pc := 154) (cks_at k_M_name 83 rfl rfl) rfl
  · refine tq_aload_n 0 (E := E_M_name d) (pc := 69) (cks_at k_M_name 35 rfl rfl) rfl ?_
    refine tq_getR (j := 79) (E := E_M_name d) (pc := 70) (cks_at k_M_name 36 rfl rfl) fo_M_7 so_78 rfl sp_78_0 ?_
    refine tq_aload_n 0 (E := E_M_name d) (pc := 73) (cks_at k_M_name 37 rfl rfl) rfl ?_
    refine tq_getI (E := E_M_name d) (pc := 74) (cks_at k_M_name 38 rfl rfl) fo_M_231 so_78 rfl (by decide) ?_
    refine tq_iald (E := E_M_name d) (pc := 77) (cks_at k_M_name 39 rfl rfl) sa_79 sn_79 ?_
    refine tq_S1 (E := E_M_name d) (pc := 78) (cks_at k_M_name 40 rfl rfl) mk_M_isLetter lk_M_241 (Nat.le_of_ble_eq_true rfl) (c_M_isLetter (d + 2) (M 79 (i32 (M 78 2)).toNat) M) (k_I fun r11 M10 => ?_)
    refine tq_if_eq (E := E_M_name d) (pc := 81) (tgt := 145) (cks_at k_M_name 41 rfl rfl) (by decide) ?_ ?_
    · refine tq_aload_n 0 (E := E_M_name d) (pc := 145) (cks_at k_M_name 78 rfl rfl) rfl ?_
      refine tq_aload_n 0 (E := E_M_name d) (pc := 146) (cks_at k_M_name 79 rfl rfl) rfl ?_
      refine tq_getI (E := E_M_name d) (pc := 147) (cks_at k_M_name 80 rfl rfl) fo_M_231 so_78 rfl (by decide) ?_
      refine tq_putI (E := E_M_name d) (pc := 150) (cks_at k_M_name 81 rfl rfl) fo_M_245 so_78 rfl po_12_4 (fun M12 => ?_)
      refine tq_lload_n 1 (E := E_M_name d) (pc := 153) (cks_at k_M_name 82 rfl rfl) rfl ?_
      exact tq_lret (E := E_M_name d) (pc := 154) (cks_at k_M_name 83 rfl rfl) rfl
    · refine tq_aload_n 0 (E := E_M_name d) (pc := 84) (cks_at k_M_name 42 rfl rfl) rfl ?_
      refine tq_getI (E := E_M_name d) (pc := 85) (cks_at k_M_name 43 rfl rfl) fo_M_231 so_78 rfl (by decide) ?_
      refine tq_aload_n 0 (E := E_M_name d) (pc := 88) (cks_at k_M_name 44 rfl rfl) rfl ?_
      refine tq_getI (E := E_M_name d) (pc := 89) (cks_at k_M_name 45 rfl rfl) fo_M_273 so_78 rfl (by decide) ?_
      refine tq_isub (E := E_M_name d) (pc := 92) (cks_at k_M_name 46 rfl rfl) ?_
      refine tq_bipush (E := E_M_name d) (pc := 93) (cks_at k_M_name 47 rfl rfl) (by decide) (by decide) ?_
      refine tq_icmp_ne (E := E_M_name d) (pc := 95) (tgt := 109) (cks_at k_M_name 48 rfl rfl) (by decide) ?_ ?_
      · refine tq_ldc2 (z := 27) (E := E_M_name d) (pc := 109) (cks_at k_M_name 56 rfl rfl) cst_M_276 ?_
        refine tq_lload_n 1 (E := E_M_name d) (pc := 112) (cks_at k_M_name 57 rfl rfl) rfl ?_
        refine tq_lmul (E := E_M_name d) (pc := 113) (cks_at k_M_name 58 rfl rfl) ?_
        refine tq_aload_n 0 (E := E_M_name d) (pc := 114) (cks_at k_M_name 59 rfl rfl) rfl ?_
        refine tq_getR (j := 79) (E := E_M_name d) (pc := 115) (cks_at k_M_name 60 rfl rfl) fo_M_7 so_78 rfl sp_78_0 ?_
        refine tq_aload_n 0 (E := E_M_name d) (pc := 118) (cks_at k_M_name 61 rfl rfl) rfl ?_
        refine tq_getI (E := E_M_name d) (pc := 119) (cks_at k_M_name 62 rfl rfl) fo_M_231 so_78 rfl (by decide) ?_
        refine tq_iald (E := E_M_name d) (pc := 122) (cks_at k_M_name 63 rfl rfl) sa_79 sn_79 ?_
        refine tq_i2l (E := E_M_name d) (pc := 123) (cks_at k_M_name 64 rfl rfl) ?_
        refine tq_ladd (E := E_M_name d) (pc := 124) (cks_at k_M_name 65 rfl rfl) ?_
        refine tq_ldc2 (z := 97) (E := E_M_name d) (pc := 125) (cks_at k_M_name 66 rfl rfl) cst_M_278 ?_
        refine tq_lsub (E := E_M_name d) (pc := 128) (cks_at k_M_name 67 rfl rfl) ?_
        refine tq_lconst1 (E := E_M_name d) (pc := 129) (cks_at k_M_name 68 rfl rfl) ?_
        refine tq_ladd (E := E_M_name d) (pc := 130) (cks_at k_M_name 69 rfl rfl) ?_
        refine tq_lstore_n (E := E_M_name d) (pc := 131) (cks_at k_M_name 70 rfl rfl) (show 1 + 1 < 3 by decide) rfl ?_
        refine tq_aload_n 1 (E := E_M_name d) (pc := 132) (cks_at k_M_name 71 rfl rfl) rfl ?_
        refine tq_dup (E := E_M_name d) (pc := 133) (cks_at k_M_name 72 rfl rfl) rfl ?_
        refine tq_getI (E := E_M_name d) (pc := 134) (cks_at k_M_name 73 rfl rfl) fo_M_231 so_78 rfl (by decide) ?_
        refine tq_iconst (E := E_M_name d) (pc := 137) (cks_at k_M_name 74 rfl rfl) ?_
        refine tq_iadd (E := E_M_name d) (pc := 138) (cks_at k_M_name 75 rfl rfl) ?_
        refine tq_putI (E := E_M_name d) (pc := 139) (cks_at k_M_name 76 rfl rfl) fo_M_231 so_78 rfl po_12_2 (fun M13 => ?_)
        refine tq_goto (tgt := 58) (E := E_M_name d) (pc := 142) (cks_at k_M_name 77 rfl rfl) (by decide) ?_
        exact tq_sub [1, 0] rfl (hkH ((((27 * v1) + (i32 (M10 79 (i32 (M10 78 2)).toNat))) - 97) + 1) M13)
      · exact tq_sub [0] rfl (hkx98 M10)
def f_M_name_L58 (kx98 : Mm → Option (Int × Mm)) : Nat → Int × Mm → Option (Int × Mm) := lp fun kH s => f_M_name_B58 (fun v1 M => kH (v1, M)) kx98 s.1 s.2
set_option maxRecDepth 20000 in
set_option maxHeartbeats 4000000 in
theorem w_M_name_L58 (d : Nat) (kx98 : Mm → Option (Int × Mm)) (hkx98 : ∀  (M : Mm), T (E_M_name d) injJ 98 [(0, .ref 78)] [] M (kx98 M)) (n : Nat) (s : Int × Mm) : T (E_M_name d) injJ 58 [(0, .ref 78), (1, vJ s.1)] [] s.2 (f_M_name_L58 kx98 n s) :=
  tq_lp (fun s => [(0, .ref 78), (1, vJ s.1)]) (fun s => s.2) (fun kH hH s => w_M_name_B58 d (fun v1 M => kH (v1, M)) kx98 (fun v1 M => hH (v1, M)) hkx98 s.1 s.2) n s
def f_M_name (M : Mm) : Option (Int × Mm) :=
  if i32 (M 78 5) = 0 then
    bI (f_M_look M) (fun r2 M1 =>
    bI (f_M_isLetter r2 M1) (fun r4 M3 =>
    if i32 r4 = 0 then
      f_M_name_J37 M3
    else
      if i32 (M3 78 2) = i32 (M3 78 4) then
        f_M_name_J37 M3
      else
        bI (f_M_isOwnHere M3) (fun r7 M6 =>
        if i32 r7 = 0 then
          bd (up M6 78 27 (M6 78 2)) (fun M8 =>
          f_M_name_L58 (fun M14 => bV (f_M_fail 1 (M14 78 2) M14) (fun M15 =>
              some (0, M15))) FU (0, M8))
        else
          f_M_name_J37 M6)))
  else
    some (0, M)
set_option maxRecDepth 20000 in
set_option maxHeartbeats 4000000 in
theorem c_M_name (d : Nat) (M : Mm) (Q : Option Value → Mm → Prop) (h : sat injJ (f_M_name M) Q) : Ct (d + 4) y_M_name [.ref 78] M Q := by
  refine ct_in (d := d + 3) mk_M_name (Nat.le_of_ble_eq_true rfl) (?_ : T (E_M_name d) injJ 0 [(0, .ref 78)] [] M (f_M_name M)) h
  unfold f_M_name
  refine tq_aload_n 0 (E := E_M_name d) (pc := 0) (cks_at k_M_name 0 rfl rfl) rfl ?_
  refine tq_getI (E := E_M_name d) (pc := 1) (cks_at k_M_name 1 rfl rfl) fo_M_225 so_78 rfl (by decide) ?_
  refine tq_if_eq (E := E_M_name d) (pc := 4) (tgt := 9) (cks_at k_M_name 2 rfl rfl) (by decide) ?_ ?_
  · refine tq_aload_n 0 (E := E_M_name d) (pc := 9) (cks_at k_M_name 5 rfl rfl) rfl ?_
    refine tq_V0 (E := E_M_name d) (pc := 10) (cks_at k_M_name 6 rfl rfl) mk_M_look lk_M_237 rc_78 (Nat.le_of_ble_eq_true rfl) (c_M_look (d + 2) M) (k_I fun r2 M1 => ?_)
    refine tq_S1 (E := E_M_name d) (pc := 13) (cks_at k_M_name 7 rfl rfl) mk_M_isLetter lk_M_241 (Nat.le_of_ble_eq_true rfl) (c_M_isLetter (d + 2) r2 M1) (k_I fun r4 M3 => ?_)
    refine tq_if_eq (E := E_M_name d) (pc := 16) (tgt := 37) (cks_at k_M_name 8 rfl rfl) (by decide) ?_ ?_
    · exact tq_sub [0] rfl (w_M_name_J37 d M3)
    · refine tq_aload_n 0 (E := E_M_name d) (pc := 19) (cks_at k_M_name 9 rfl rfl) rfl ?_
      refine tq_getI (E := E_M_name d) (pc := 20) (cks_at k_M_name 10 rfl rfl) fo_M_231 so_78 rfl (by decide) ?_
      refine tq_aload_n 0 (E := E_M_name d) (pc := 23) (cks_at k_M_name 11 rfl rfl) rfl ?_
      refine tq_getI (E := E_M_name d) (pc := 24) (cks_at k_M_name 12 rfl rfl) fo_M_245 so_78 rfl (by decide) ?_
      refine tq_icmp_eq (E := E_M_name d) (pc := 27) (tgt := 37) (cks_at k_M_name 13 rfl rfl) (by decide) ?_ ?_
      · exact tq_sub [0] rfl (w_M_name_J37 d M3)
      · refine tq_aload_n 0 (E := E_M_name d) (pc := 30) (cks_at k_M_name 14 rfl rfl) rfl ?_
        refine tq_V0 (E := E_M_name d) (pc := 31) (cks_at k_M_name 15 rfl rfl) mk_M_isOwnHere lk_M_269 rc_78 (Nat.le_of_ble_eq_true rfl) (c_M_isOwnHere (d + 0) M3) (k_I fun r7 M6 => ?_)
        refine tq_if_eq (E := E_M_name d) (pc := 34) (tgt := 48) (cks_at k_M_name 16 rfl rfl) (by decide) ?_ ?_
        · refine tq_aload_n 0 (E := E_M_name d) (pc := 48) (cks_at k_M_name 24 rfl rfl) rfl ?_
          refine tq_aload_n 0 (E := E_M_name d) (pc := 49) (cks_at k_M_name 25 rfl rfl) rfl ?_
          refine tq_getI (E := E_M_name d) (pc := 50) (cks_at k_M_name 26 rfl rfl) fo_M_231 so_78 rfl (by decide) ?_
          refine tq_putI (E := E_M_name d) (pc := 53) (cks_at k_M_name 27 rfl rfl) fo_M_273 so_78 rfl po_12_27 (fun M8 => ?_)
          refine tq_lconst0 (E := E_M_name d) (pc := 56) (cks_at k_M_name 28 rfl rfl) ?_
          refine tq_lstore_n (E := E_M_name d) (pc := 57) (cks_at k_M_name 29 rfl rfl) (show 1 + 1 < 3 by decide) rfl ?_
          exact tq_sub [1, 0] rfl (w_M_name_L58 d _ (fun M14 => by
              refine tq_aload_n 0 (E := E_M_name d) (pc := 98) (cks_at k_M_name 49 rfl rfl) rfl ?_
              refine tq_iconst (E := E_M_name d) (pc := 99) (cks_at k_M_name 50 rfl rfl) ?_
              refine tq_aload_n 0 (E := E_M_name d) (pc := 100) (cks_at k_M_name 51 rfl rfl) rfl ?_
              refine tq_getI (E := E_M_name d) (pc := 101) (cks_at k_M_name 52 rfl rfl) fo_M_231 so_78 rfl (by decide) ?_
              refine tq_V2 (E := E_M_name d) (pc := 104) (cks_at k_M_name 53 rfl rfl) mk_M_fail lk_M_255 rc_78 (Nat.le_of_ble_eq_true rfl) (c_M_fail (d + 2) 1 (M14 78 2) M14) (k_V fun M15 => ?_)
              refine tq_lconst0 (E := E_M_name d) (pc := 107) (cks_at k_M_name 54 rfl rfl) ?_
              exact tq_lret (E := E_M_name d) (pc := 108) (cks_at k_M_name 55 rfl rfl) rfl) FU (0, M8))
        · exact tq_sub [0] rfl (w_M_name_J37 d M6)
  · refine tq_lconst0 (E := E_M_name d) (pc := 7) (cks_at k_M_name 3 rfl rfl) ?_
    exact tq_lret (E := E_M_name d) (pc := 8) (cks_at k_M_name 4 rfl rfl) rfl
abbrev E_M_nameOf (d : Nat) : Ev := (Ct (d + 0), "BreathTownModel", prog_14_method_18_code, 5, False, 0, (fun _ => 0), (Option.some Jvm.ClassFile.FieldType.int))
def f_M_nameOf_B3 (kH : Int → Int → Int → Mm → Option (Int × Mm)) (v1 v2 v4 : Int) (M : Mm) : Option (Int × Mm) :=
  gd (0 ≤ i32 v1 ∧ i32 v1 < ((6 : Nat) : Int)) <|
  if i32 (M 98 (i32 v1).toNat) ≤ i32 v4 then
    some ((-1), M)
  else
    gd (0 ≤ i32 ((12 * v1) + v4) ∧ i32 ((12 * v1) + v4) < ((72 : Nat) : Int)) <|
    if ¬ i32 (cmp64 (M 99 (i32 ((12 * v1) + v4)).toNat) v2) = 0 then
      kH v1 v2 (v4 + 1) M
    else
      some (v4, M)
set_option maxRecDepth 20000 in
set_option maxHeartbeats 4000000 in
theorem w_M_nameOf_B3 (d : Nat) (kH : Int → Int → Int → Mm → Option (Int × Mm)) (hkH : ∀ (v1 v2 v4 : Int) (M : Mm), T (E_M_nameOf d) injI 3 [(0, .ref 78), (1, vI v1), (2, vJ v2), (4, vI v4)] [] M (kH v1 v2 v4 M)) (v1 v2 v4 : Int) (M : Mm) : T (E_M_nameOf d) injI 3 [(0, .ref 78), (1, vI v1), (2, vJ v2), (4, vI v4)] [] M (f_M_nameOf_B3 kH v1 v2 v4 M) := by
  unfold f_M_nameOf_B3
  refine tq_iload 3 (E := E_M_nameOf d) (pc := 3) (cks_at k_M_nameOf 2 rfl rfl) rfl ?_
  refine tq_aload_n 0 (E := E_M_nameOf d) (pc := 5) (cks_at k_M_nameOf 3 rfl rfl) rfl ?_
  refine tq_getR (j := 98) (E := E_M_nameOf d) (pc := 6) (cks_at k_M_nameOf 4 rfl rfl) fo_M_72 so_78 rfl sp_78_28 ?_
  refine tq_iload_n 1 (E := E_M_nameOf d) (pc := 9) (cks_at k_M_nameOf 5 rfl rfl) rfl ?_
  refine tq_iald (E := E_M_nameOf d) (pc := 10) (cks_at k_M_nameOf 6 rfl rfl) sa_98 sn_98 ?_
  refine tq_icmp_ge (E := E_M_nameOf d) (pc := 11) (tgt := 40) (cks_at k_M_nameOf 7 rfl rfl) (by decide) ?_ ?_
  · refine tq_iconst (E := E_M_nameOf d) (pc := 40) (cks_at k_M_nameOf 23 rfl rfl) ?_
    exact tq_iret (E := E_M_nameOf d) (pc := 41) (cks_at k_M_nameOf 24 rfl rfl) rfl
  · refine tq_aload_n 0 (E := E_M_nameOf d) (pc := 14) (cks_at k_M_nameOf 8 rfl rfl) rfl ?_
    refine tq_getR (j := 99) (E := E_M_nameOf d) (pc := 15) (cks_at k_M_nameOf 9 rfl rfl) fo_M_75 so_78 rfl sp_78_29 ?_
    refine tq_bipush (E := E_M_nameOf d) (pc := 18) (cks_at k_M_nameOf 10 rfl rfl) (by decide) (by decide) ?_
    refine tq_iload_n 1 (E := E_M_nameOf d) (pc := 20) (cks_at k_M_nameOf 11 rfl rfl) rfl ?_
    refine tq_imul (E := E_M_nameOf d) (pc := 21) (cks_at k_M_nameOf 12 rfl rfl) ?_
    refine tq_iload 3 (E := E_M_nameOf d) (pc := 22) (cks_at k_M_nameOf 13 rfl rfl) rfl ?_
    refine tq_iadd (E := E_M_nameOf d) (pc := 24) (cks_at k_M_nameOf 14 rfl rfl) ?_
    refine tq_lald (E := E_M_nameOf d) (pc := 25) (cks_at k_M_nameOf 15 rfl rfl) sa_99 sn_99 ?_
    refine tq_lload_n 2 (E := E_M_nameOf d) (pc := 26) (cks_at k_M_nameOf 16 rfl rfl) rfl ?_
    refine tq_lcmp (E := E_M_nameOf d) (pc := 27) (cks_at k_M_nameOf 17 rfl rfl) ?_
    refine tq_if_ne (E := E_M_nameOf d) (pc := 28) (tgt := 34) (cks_at k_M_nameOf 18 rfl rfl) (by decide) ?_ ?_
    · refine tq_iinc 3 (E := E_M_nameOf d) (pc := 34) (cks_at k_M_nameOf 21 rfl rfl) rfl (show 4 < 5 by decide) rfl ?_
      refine tq_goto (tgt := 3) (E := E_M_nameOf d) (pc := 37) (cks_at k_M_nameOf 22 rfl rfl) (by decide) ?_
      exact tq_sub [1, 2, 3, 0] rfl (hkH v1 v2 (v4 + 1) M)
    · refine tq_iload 3 (E := E_M_nameOf d) (pc := 31) (cks_at k_M_nameOf 19 rfl rfl) rfl ?_
      exact tq_iret (E := E_M_nameOf d) (pc := 33) (cks_at k_M_nameOf 20 rfl rfl) rfl
def f_M_nameOf_L3 : Nat → Int × Int × Int × Mm → Option (Int × Mm) := lp fun kH s => f_M_nameOf_B3 (fun v1 v2 v4 M => kH (v1, v2, v4, M)) s.1 s.2.1 s.2.2.1 s.2.2.2
set_option maxRecDepth 20000 in
set_option maxHeartbeats 4000000 in
theorem w_M_nameOf_L3 (d : Nat) (n : Nat) (s : Int × Int × Int × Mm) : T (E_M_nameOf d) injI 3 [(0, .ref 78), (1, vI s.1), (2, vJ s.2.1), (4, vI s.2.2.1)] [] s.2.2.2 (f_M_nameOf_L3 n s) :=
  tq_lp (fun s => [(0, .ref 78), (1, vI s.1), (2, vJ s.2.1), (4, vI s.2.2.1)]) (fun s => s.2.2.2) (fun kH hH s => w_M_nameOf_B3 d (fun v1 v2 v4 M => kH (v1, v2, v4, M)) (fun v1 v2 v4 M => hH (v1, v2, v4, M)) s.1 s.2.1 s.2.2.1 s.2.2.2) n s
def f_M_nameOf (v1 : Int) (v2 : Int) (M : Mm) : Option (Int × Mm) :=
  f_M_nameOf_L3 FU (v1, v2, 0, M)
set_option maxRecDepth 20000 in
set_option maxHeartbeats 4000000 in
theorem c_M_nameOf (d : Nat) (v1 : Int) (v2 : Int) (M : Mm) (Q : Option Value → Mm → Prop) (h : sat injI (f_M_nameOf v1 v2 M) Q) : Ct (d + 1) y_M_nameOf [.ref 78, vI v1, vJ v2] M Q := by
  refine ct_in (d := d + 0) mk_M_nameOf (Nat.le_of_ble_eq_true rfl) (?_ : T (E_M_nameOf d) injI 0 [(0, .ref 78), (1, vI v1), (2, vJ v2)] [] M (f_M_nameOf v1 v2 M)) h
  unfold f_M_nameOf
  refine tq_iconst (E := E_M_nameOf d) (pc := 0) (cks_at k_M_nameOf 0 rfl rfl) ?_
  refine tq_istore (E := E_M_nameOf d) (pc := 1) (cks_at k_M_nameOf 1 rfl rfl) (show 4 < 5 by decide) rfl ?_
  exact tq_sub [1, 2, 3, 0] rfl (w_M_nameOf_L3 d FU (v1, v2, 0, M))
abbrev E_M_newName (d : Nat) : Ev := (Ct (d + 4), "BreathTownModel", prog_14_method_19_code, 4, False, 0, (fun _ => 0), (Option.some Jvm.ClassFile.FieldType.long))
def f_M_newName_B7 (kH : Int → Int → Mm → Option (Int × Mm)) (v1 v3 : Int) (M : Mm) : Option (Int × Mm) :=
  if i32 3 ≤ i32 v3 then
    some (v1, M)
  else
    if ¬ i32 (M 78 5) = 0 then
      kH v1 (v3 + 1) M
    else
      bI (f_M_nameOf v3 v1 M) (fun r4 M3 =>
      if i32 r4 = i32 ((-1)) then
        kH v1 (v3 + 1) M3
      else
        bV (f_M_fail 3 (M3 78 27) M3) (fun M5 =>
        kH v1 (v3 + 1) M5))
set_option maxRecDepth 20000 in
set_option maxHeartbeats 4000000 in
theorem w_M_newName_B7 (d : Nat) (kH : Int → Int → Mm → Option (Int × Mm)) (hkH : ∀ (v1 v3 : Int) (M : Mm), T (E_M_newName d) injJ 7 [(0, .ref 78), (1, vJ v1), (3, vI v3)] [] M (kH v1 v3 M)) (v1 v3 : Int) (M : Mm) : T (E_M_newName d) injJ 7 [(0, .ref 78), (1, vJ v1), (3, vI v3)] [] M (f_M_newName_B7 kH v1 v3 M) := by
  unfold f_M_newName_B7
  refine tq_iload_n 2 (E := E_M_newName d) (pc := 7) (cks_at k_M_newName 5 rfl rfl) rfl ?_
  refine tq_iconst (E := E_M_newName d) (pc := 8) (cks_at k_M_newName 6 rfl rfl) ?_
  refine tq_icmp_ge (E := E_M_newName d) (pc := 9) (tgt := 44) (cks_at k_M_newName 7 rfl rfl) (by decide) ?_ ?_
  · refine tq_lload_n 1 (E := E_M_newName d) (pc := 44) (cks_at k_M_newName 24 rfl rfl) rfl ?_
    exact tq_lret (E := E_M_newName d) (pc := 45) (cks_at k_M_newName 25 rfl rfl) rfl
  · refine tq_aload_n 0 (E := E_M_newName d) (pc := 12) (cks_at k_M_newName 8 rfl rfl) rfl ?_
    refine tq_getI (E := E_M_newName d) (pc := 13) (cks_at k_M_newName 9 rfl rfl) fo_M_225 so_78 rfl (by decide) ?_
    refine tq_if_ne (E := E_M_newName d) (pc := 16) (tgt := 38) (cks_at k_M_newName 10 rfl rfl) (by decide) ?_ ?_
    · refine tq_iinc 2 (E := E_M_newName d) (pc := 38) (cks_at k_M_newName 22 rfl rfl) rfl (show 3 < 4 by decide) rfl ?_
      refine tq_goto (tgt := 7) (E := E_M_newName d) (pc := 41) (cks_at k_M_newName 23 rfl rfl) (by decide) ?_
      exact tq_sub [1, 2, 0] rfl (hkH v1 (v3 + 1) M)
    · refine tq_aload_n 0 (E := E_M_newName d) (pc := 19) (cks_at k_M_newName 11 rfl rfl) rfl ?_
      refine tq_iload_n 2 (E := E_M_newName d) (pc := 20) (cks_at k_M_newName 12 rfl rfl) rfl ?_
      refine tq_lload_n 1 (E := E_M_newName d) (pc := 21) (cks_at k_M_newName 13 rfl rfl) rfl ?_
      refine tq_V2 (E := E_M_newName d) (pc := 22) (cks_at k_M_newName 14 rfl rfl) mk_M_nameOf lk_M_284 rc_78 (Nat.le_of_ble_eq_true rfl) (c_M_nameOf (d + 3) v3 v1 M) (k_I fun r4 M3 => ?_)
      refine tq_iconst (E := E_M_newName d) (pc := 25) (cks_at k_M_newName 15 rfl rfl) ?_
      refine tq_icmp_eq (E := E_M_newName d) (pc := 26) (tgt := 38) (cks_at k_M_newName 16 rfl rfl) (by decide) ?_ ?_
      · refine tq_iinc 2 (E := E_M_newName d) (pc := 38) (cks_at k_M_newName 22 rfl rfl) rfl (show 3 < 4 by decide) rfl ?_
        refine tq_goto (tgt := 7) (E := E_M_newName d) (pc := 41) (cks_at k_M_newName 23 rfl rfl) (by decide) ?_
        exact tq_sub [1, 2, 0] rfl (hkH v1 (v3 + 1) M3)
      · refine tq_aload_n 0 (E := E_M_newName d) (pc := 29) (cks_at k_M_newName 17 rfl rfl) rfl ?_
        refine tq_iconst (E := E_M_newName d) (pc := 30) (cks_at k_M_newName 18 rfl rfl) ?_
        refine tq_aload_n 0 (E := E_M_newName d) (pc := 31) (cks_at k_M_newName 19 rfl rfl) rfl ?_
        refine tq_getI (E := E_M_newName d) (pc := 32) (cks_at k_M_newName 20 rfl rfl) fo_M_273 so_78 rfl (by decide) ?_
        refine tq_V2 (E := E_M_newName d) (pc := 35) (cks_at k_M_newName 21 rfl rfl) mk_M_fail lk_M_255 rc_78 (Nat.le_of_ble_eq_true rfl) (c_M_fail (d + 3) 3 (M3 78 27) M3) (k_V fun M5 => ?_)
        refine tq_iinc 2 (E := E_M_newName d) (pc := 38) (cks_at k_M_newName 22 rfl rfl) rfl (show 3 < 4 by decide) rfl ?_
        refine tq_goto (tgt := 7) (E := E_M_newName d) (pc := 41) (cks_at k_M_newName 23 rfl rfl) (by decide) ?_
        exact tq_sub [1, 2, 0] rfl (hkH v1 (v3 + 1) M5)
def f_M_newName_L7 : Nat → Int × Int × Mm → Option (Int × Mm) := lp fun kH s => f_M_newName_B7 (fun v1 v3 M => kH (v1, v3, M)) s.1 s.2.1 s.2.2
set_option maxRecDepth 20000 in
set_option maxHeartbeats 4000000 in
theorem w_M_newName_L7 (d : Nat) (n : Nat) (s : Int × Int × Mm) : T (E_M_newName d) injJ 7 [(0, .ref 78), (1, vJ s.1), (3, vI s.2.1)] [] s.2.2 (f_M_newName_L7 n s) :=
  tq_lp (fun s => [(0, .ref 78), (1, vJ s.1), (3, vI s.2.1)]) (fun s => s.2.2) (fun kH hH s => w_M_newName_B7 d (fun v1 v3 M => kH (v1, v3, M)) (fun v1 v3 M => hH (v1, v3, M)) s.1 s.2.1 s.2.2) n s
def f_M_newName (M : Mm) : Option (Int × Mm) :=
  bI (f_M_name M) (fun r2 M1 =>
  f_M_newName_L7 FU (r2, 0, M1))
set_option maxRecDepth 20000 in
set_option maxHeartbeats 4000000 in
theorem c_M_newName (d : Nat) (M : Mm) (Q : Option Value → Mm → Prop) (h : sat injJ (f_M_newName M) Q) : Ct (d + 5) y_M_newName [.ref 78] M Q := by
  refine ct_in (d := d + 4) mk_M_newName (Nat.le_of_ble_eq_true rfl) (?_ : T (E_M_newName d) injJ 0 [(0, .ref 78)] [] M (f_M_newName M)) h
  unfold f_M_newName
  refine tq_aload_n 0 (E := E_M_newName d) (pc := 0) (cks_at k_M_newName 0 rfl rfl) rfl ?_
  refine tq_V0 (E := E_M_newName d) (pc := 1) (cks_at k_M_newName 1 rfl rfl) mk_M_name lk_M_280 rc_78 (Nat.le_of_ble_eq_true rfl) (c_M_name (d + 0) M) (k_J fun r2 M1 => ?_)
  refine tq_lstore_n (E := E_M_newName d) (pc := 4) (cks_at k_M_newName 2 rfl rfl) (show 1 + 1 < 4 by decide) rfl ?_
  refine tq_iconst (E := E_M_newName d) (pc := 5) (cks_at k_M_newName 3 rfl rfl) ?_
  refine tq_istore_n (E := E_M_newName d) (pc := 6) (cks_at k_M_newName 4 rfl rfl) (show 3 < 4 by decide) rfl ?_
  exact tq_sub [2, 1, 0] rfl (w_M_newName_L7 d FU (r2, 0, M1))
abbrev E_M_newPlace (d : Nat) : Ev := (Ct (d + 5), "BreathTownModel", prog_14_method_21_code, 4, False, 0, (fun _ => 0), (Option.none : Option Jvm.ClassFile.FieldType))
def f_M_newPlace (v1 : Int) (M : Mm) : Option (Mm) :=
  bI (f_M_isFull 0 9 v1 M) (fun r2 M1 =>
  if i32 r2 = 0 then
    bI (f_M_newName M1) (fun r4 M3 =>
    if i32 (M3 78 5) = 0 then
      gd (0 ≤ i32 (M3 98 0) ∧ i32 (M3 98 0) < ((72 : Nat) : Int)) <|
      bd (up M3 99 (i32 (M3 98 0)).toNat r4) (fun M5 =>
      bd (up M5 98 0 ((M5 98 0) + 1)) (fun M6 =>
      some M6))
    else
      some M3)
  else
    some M1)
set_option maxRecDepth 20000 in
set_option maxHeartbeats 4000000 in
theorem c_M_newPlace (d : Nat) (v1 : Int) (M : Mm) (Q : Option Value → Mm → Prop) (h : sat injV (f_M_newPlace v1 M) Q) : Ct (d + 6) y_M_newPlace [.ref 78, vI v1] M Q := by
  refine ct_in (d := d + 5) mk_M_newPlace (Nat.le_of_ble_eq_true rfl) (?_ : T (E_M_newPlace d) injV 0 [(0, .ref 78), (1, vI v1)] [] M (f_M_newPlace v1 M)) h
  unfold f_M_newPlace
  refine tq_aload_n 0 (E := E_M_newPlace d) (pc := 0) (cks_at k_M_newPlace 0 rfl rfl) rfl ?_
  refine tq_iconst (E := E_M_newPlace d) (pc := 1) (cks_at k_M_newPlace 1 rfl rfl) ?_
  refine tq_bipush (E := E_M_newPlace d) (pc := 2) (cks_at k_M_newPlace 2 rfl rfl) (by decide) (by decide) ?_
  refine tq_iload_n 1 (E := E_M_newPlace d) (pc := 4) (cks_at k_M_newPlace 3 rfl rfl) rfl ?_
  refine tq_V3 (E := E_M_newPlace d) (pc := 5) (cks_at k_M_newPlace 4 rfl rfl) mk_M_isFull lk_M_288 rc_78 (Nat.le_of_ble_eq_true rfl) (c_M_isFull (d + 3) 0 9 v1 M) (k_I fun r2 M1 => ?_)
  refine tq_if_eq (E := E_M_newPlace d) (pc := 8) (tgt := 12) (cks_at k_M_newPlace 5 rfl rfl) (by decide) ?_ ?_
  · refine tq_aload_n 0 (E := E_M_newPlace d) (pc := 12) (cks_at k_M_newPlace 7 rfl rfl) rfl ?_
    refine tq_V0 (E := E_M_newPlace d) (pc := 13) (cks_at k_M_newPlace 8 rfl rfl) mk_M_newName lk_M_292 rc_78 (Nat.le_of_ble_eq_true rfl) (c_M_newName (d + 0) M1) (k_J fun r4 M3 => ?_)
    refine tq_lstore_n (E := E_M_newPlace d) (pc := 16) (cks_at k_M_newPlace 9 rfl rfl) (show 2 + 1 < 4 by decide) rfl ?_
    refine tq_aload_n 1 (E := E_M_newPlace d) (pc := 17) (cks_at k_M_newPlace 10 rfl rfl) rfl ?_
    refine tq_getI (E := E_M_newPlace d) (pc := 18) (cks_at k_M_newPlace 11 rfl rfl) fo_M_225 so_78 rfl (by decide) ?_
    refine tq_if_eq (E := E_M_newPlace d) (pc := 21) (tgt := 25) (cks_at k_M_newPlace 12 rfl rfl) (by decide) ?_ ?_
    · refine tq_aload_n 1 (E := E_M_newPlace d) (pc := 25) (cks_at k_M_newPlace 14 rfl rfl) rfl ?_
      refine tq_getR (j := 99) (E := E_M_newPlace d) (pc := 26) (cks_at k_M_newPlace 15 rfl rfl) fo_M_75 so_78 rfl sp_78_29 ?_
      refine tq_aload_n 1 (E := E_M_newPlace d) (pc := 29) (cks_at k_M_newPlace 16 rfl rfl) rfl ?_
      refine tq_getR (j := 98) (E := E_M_newPlace d) (pc := 30) (cks_at k_M_newPlace 17 rfl rfl) fo_M_72 so_78 rfl sp_78_28 ?_
      refine tq_iconst (E := E_M_newPlace d) (pc := 33) (cks_at k_M_newPlace 18 rfl rfl) ?_
      refine tq_ialdC 0 (E := E_M_newPlace d) (pc := 34) (cks_at k_M_newPlace 19 rfl rfl) sa_98 sn_98 (by decide) ?_
      refine tq_lload_n 0 (E := E_M_newPlace d) (pc := 35) (cks_at k_M_newPlace 20 rfl rfl) rfl ?_
      refine tq_last (E := E_M_newPlace d) (pc := 36) (cks_at k_M_newPlace 21 rfl rfl) sa_99 sn_99 (fun M5 => ?_)
      refine tq_aload_n 1 (E := E_M_newPlace d) (pc := 37) (cks_at k_M_newPlace 22 rfl rfl) rfl ?_
      refine tq_getR (j := 98) (E := E_M_newPlace d) (pc := 38) (cks_at k_M_newPlace 23 rfl rfl) fo_M_72 so_78 rfl sp_78_28 ?_
      refine tq_iconst (E := E_M_newPlace d) (pc := 41) (cks_at k_M_newPlace 24 rfl rfl) ?_
      refine tq_dup2 (E := E_M_newPlace d) (pc := 42) (cks_at k_M_newPlace 25 rfl rfl) rfl rfl ?_
      refine tq_ialdC 0 (E := E_M_newPlace d) (pc := 43) (cks_at k_M_newPlace 26 rfl rfl) sa_98 sn_98 (by decide) ?_
      refine tq_iconst (E := E_M_newPlace d) (pc := 44) (cks_at k_M_newPlace 27 rfl rfl) ?_
      refine tq_iadd (E := E_M_newPlace d) (pc := 45) (cks_at k_M_newPlace 28 rfl rfl) ?_
      refine tq_iastC (E := E_M_newPlace d) (pc := 46) 0 (cks_at k_M_newPlace 29 rfl rfl) sa_98 sn_98 (by decide) (fun M6 => ?_)
      exact tq_vret (E := E_M_newPlace d) (pc := 47) (cks_at k_M_newPlace 30 rfl rfl) rfl
    · exact tq_vret (E := E_M_newPlace d) (pc := 24) (cks_at k_M_newPlace 13 rfl rfl) rfl
  · exact tq_vret (E := E_M_newPlace d) (pc := 11) (cks_at k_M_newPlace 6 rfl rfl) rfl
abbrev E_M_placeTold (d : Nat) : Ev := (Ct (d + 4), "BreathTownModel", prog_14_method_20_code, 5, False, 0, (fun _ => 0), (Option.some Jvm.ClassFile.FieldType.int))
def f_M_placeTold_J41 (v4 : Int) (M : Mm) : Option (Int × Mm) :=
  if ¬ i32 (M 78 5) = 0 then
    some (0, M)
  else
    some (v4, M)
set_option maxRecDepth 20000 in
set_option maxHeartbeats 4000000 in
theorem w_M_placeTold_J41 (d : Nat) (v4 : Int) (M : Mm) : T (E_M_placeTold d) injI 41 [(0, .ref 78), (4, vI v4)] [] M (f_M_placeTold_J41 v4 M) := by
  unfold f_M_placeTold_J41
  refine tq_aload_n 0 (E := E_M_placeTold d) (pc := 41) (cks_at k_M_placeTold 22 rfl rfl) rfl ?_
  refine tq_getI (E := E_M_placeTold d) (pc := 42) (cks_at k_M_placeTold 23 rfl rfl) fo_M_225 so_78 rfl (by decide) ?_
  refine tq_if_ne (E := E_M_placeTold d) (pc := 45) (tgt := 53) (cks_at k_M_placeTold 24 rfl rfl) (by decide) ?_ ?_
  · refine tq_iconst (E := E_M_placeTold d) (pc := 53) (cks_at k_M_placeTold 27 rfl rfl) ?_
    exact tq_iret (E := E_M_placeTold d) (pc := 54) (cks_at k_M_placeTold 28 rfl rfl) rfl
  · refine tq_iload 1 (E := E_M_placeTold d) (pc := 48) (cks_at k_M_placeTold 25 rfl rfl) rfl ?_
    refine tq_goto (tgt := 54) (E := E_M_placeTold d) (pc := 50) (cks_at k_M_placeTold 26 rfl rfl) (by decide) ?_
    exact tq_iret (E := E_M_placeTold d) (pc := 54) (cks_at k_M_placeTold 28 rfl rfl) rfl
def f_M_placeTold (v1 : Int) (M : Mm) : Option (Int × Mm) :=
  bI (f_M_name M) (fun r2 M1 =>
  bI (f_M_nameOf 0 r2 M1) (fun r4 M3 =>
  if ¬ i32 (M3 78 5) = 0 then
    f_M_placeTold_J41 r4 M3
  else
    if i32 r4 = i32 ((-1)) then
      bV (f_M_fail 3 (M3 78 27) M3) (fun M5 =>
      f_M_placeTold_J41 r4 M5)
    else
      if ¬ i32 r4 = i32 v1 then
        f_M_placeTold_J41 r4 M3
      else
        bV (f_M_fail 3 (M3 78 27) M3) (fun M6 =>
        f_M_placeTold_J41 r4 M6)))
set_option maxRecDepth 20000 in
set_option maxHeartbeats 4000000 in
theorem c_M_placeTold (d : Nat) (v1 : Int) (M : Mm) (Q : Option Value → Mm → Prop) (h : sat injI (f_M_placeTold v1 M) Q) : Ct (d + 5) y_M_placeTold [.ref 78, vI v1] M Q := by
  refine ct_in (d := d + 4) mk_M_placeTold (Nat.le_of_ble_eq_true rfl) (?_ : T (E_M_placeTold d) injI 0 [(0, .ref 78), (1, vI v1)] [] M (f_M_placeTold v1 M)) h
  unfold f_M_placeTold
  refine tq_aload_n 0 (E := E_M_placeTold d) (pc := 0) (cks_at k_M_placeTold 0 rfl rfl) rfl ?_
  refine tq_V0 (E := E_M_placeTold d) (pc := 1) (cks_at k_M_placeTold 1 rfl rfl) mk_M_name lk_M_280 rc_78 (Nat.le_of_ble_eq_true rfl) (c_M_name (d + 0) M) (k_J fun r2 M1 => ?_)
  refine tq_lstore_n (E := E_M_placeTold d) (pc := 4) (cks_at k_M_placeTold 2 rfl rfl) (show 2 + 1 < 5 by decide) rfl ?_
  refine tq_aload_n 1 (E := E_M_placeTold d) (pc := 5) (cks_at k_M_placeTold 3 rfl rfl) rfl ?_
  refine tq_iconst (E := E_M_placeTold d) (pc := 6) (cks_at k_M_placeTold 4 rfl rfl) ?_
  refine tq_lload_n 0 (E := E_M_placeTold d) (pc := 7) (cks_at k_M_placeTold 5 rfl rfl) rfl ?_
  refine tq_V2 (E := E_M_placeTold d) (pc := 8) (cks_at k_M_placeTold 6 rfl rfl) mk_M_nameOf lk_M_284 rc_78 (Nat.le_of_ble_eq_true rfl) (c_M_nameOf (d + 3) 0 r2 M1) (k_I fun r4 M3 => ?_)
  refine tq_istore (E := E_M_placeTold d) (pc := 11) (cks_at k_M_placeTold 7 rfl rfl) (show 4 < 5 by decide) rfl ?_
  refine tq_aload_n 2 (E := E_M_placeTold d) (pc := 13) (cks_at k_M_placeTold 8 rfl rfl) rfl ?_
  refine tq_getI (E := E_M_placeTold d) (pc := 14) (cks_at k_M_placeTold 9 rfl rfl) fo_M_225 so_78 rfl (by decide) ?_
  refine tq_if_ne (E := E_M_placeTold d) (pc := 17) (tgt := 41) (cks_at k_M_placeTold 10 rfl rfl) (by decide) ?_ ?_
  · exact tq_sub [2, 0] rfl (w_M_placeTold_J41 d r4 M3)
  · refine tq_iload 0 (E := E_M_placeTold d) (pc := 20) (cks_at k_M_placeTold 11 rfl rfl) rfl ?_
    refine tq_iconst (E := E_M_placeTold d) (pc := 22) (cks_at k_M_placeTold 12 rfl rfl) ?_
    refine tq_icmp_eq (E := E_M_placeTold d) (pc := 23) (tgt := 32) (cks_at k_M_placeTold 13 rfl rfl) (by decide) ?_ ?_
    · refine tq_aload_n 2 (E := E_M_placeTold d) (pc := 32) (cks_at k_M_placeTold 17 rfl rfl) rfl ?_
      refine tq_iconst (E := E_M_placeTold d) (pc := 33) (cks_at k_M_placeTold 18 rfl rfl) ?_
      refine tq_aload_n 2 (E := E_M_placeTold d) (pc := 34) (cks_at k_M_placeTold 19 rfl rfl) rfl ?_
      refine tq_getI (E := E_M_placeTold d) (pc := 35) (cks_at k_M_placeTold 20 rfl rfl) fo_M_273 so_78 rfl (by decide) ?_
      refine tq_V2 (E := E_M_placeTold d) (pc := 38) (cks_at k_M_placeTold 21 rfl rfl) mk_M_fail lk_M_255 rc_78 (Nat.le_of_ble_eq_true rfl) (c_M_fail (d + 3) 3 (M3 78 27) M3) (k_V fun M5 => ?_)
      exact tq_sub [2, 0] rfl (w_M_placeTold_J41 d r4 M5)
    · refine tq_iload 0 (E := E_M_placeTold d) (pc := 26) (cks_at k_M_placeTold 14 rfl rfl) rfl ?_
      refine tq_iload_n 3 (E := E_M_placeTold d) (pc := 28) (cks_at k_M_placeTold 15 rfl rfl) rfl ?_
      refine tq_icmp_ne (E := E_M_placeTold d) (pc := 29) (tgt := 41) (cks_at k_M_placeTold 16 rfl rfl) (by decide) ?_ ?_
      · exact tq_sub [2, 0] rfl (w_M_placeTold_J41 d r4 M3)
      · refine tq_aload_n 2 (E := E_M_placeTold d) (pc := 32) (cks_at k_M_placeTold 17 rfl rfl) rfl ?_
        refine tq_iconst (E := E_M_placeTold d) (pc := 33) (cks_at k_M_placeTold 18 rfl rfl) ?_
        refine tq_aload_n 2 (E := E_M_placeTold d) (pc := 34) (cks_at k_M_placeTold 19 rfl rfl) rfl ?_
        refine tq_getI (E := E_M_placeTold d) (pc := 35) (cks_at k_M_placeTold 20 rfl rfl) fo_M_273 so_78 rfl (by decide) ?_
        refine tq_V2 (E := E_M_placeTold d) (pc := 38) (cks_at k_M_placeTold 21 rfl rfl) mk_M_fail lk_M_255 rc_78 (Nat.le_of_ble_eq_true rfl) (c_M_fail (d + 3) 3 (M3 78 27) M3) (k_V fun M6 => ?_)
        exact tq_sub [2, 0] rfl (w_M_placeTold_J41 d r4 M6)
abbrev E_M_opens (d : Nat) : Ev := (Ct (d + 1), "BreathTownModel", prog_14_method_28_code, 3, False, 0, (fun _ => 0), (Option.none : Option Jvm.ClassFile.FieldType))
def f_M_opens (v1 : Int) (v2 : Int) (M : Mm) : Option (Mm) :=
  if ¬ i32 (M 78 38) = i32 6 then
    bd (up M 78 38 ((M 78 38) + 1)) (fun M1 =>
    gd (0 ≤ i32 (M1 78 37) ∧ i32 (M1 78 37) < ((1700 : Nat) : Int)) <|
    bd (up M1 103 (i32 (M1 78 37)).toNat v1) (fun M2 =>
    bd (up M2 78 37 ((M2 78 37) + 1)) (fun M3 =>
    some M3)))
  else
    bV (f_M_fail 4 v2 M) (fun M4 =>
    some M4)
set_option maxRecDepth 20000 in
set_option maxHeartbeats 4000000 in
theorem c_M_opens (d : Nat) (v1 : Int) (v2 : Int) (M : Mm) (Q : Option Value → Mm → Prop) (h : sat injV (f_M_opens v1 v2 M) Q) : Ct (d + 2) y_M_opens [.ref 78, vI v1, vI v2] M Q := by
  refine ct_in (d := d + 1) mk_M_opens (Nat.le_of_ble_eq_true rfl) (?_ : T (E_M_opens d) injV 0 [(0, .ref 78), (1, vI v1), (2, vI v2)] [] M (f_M_opens v1 v2 M)) h
  unfold f_M_opens
  refine tq_aload_n 0 (E := E_M_opens d) (pc := 0) (cks_at k_M_opens 0 rfl rfl) rfl ?_
  refine tq_getI (E := E_M_opens d) (pc := 1) (cks_at k_M_opens 1 rfl rfl) fo_M_313 so_78 rfl (by decide) ?_
  refine tq_bipush (E := E_M_opens d) (pc := 4) (cks_at k_M_opens 2 rfl rfl) (by decide) (by decide) ?_
  refine tq_icmp_ne (E := E_M_opens d) (pc := 6) (tgt := 16) (cks_at k_M_opens 3 rfl rfl) (by decide) ?_ ?_
  · refine tq_aload_n 0 (E := E_M_opens d) (pc := 16) (cks_at k_M_opens 9 rfl rfl) rfl ?_
    refine tq_dup (E := E_M_opens d) (pc := 17) (cks_at k_M_opens 10 rfl rfl) rfl ?_
    refine tq_getI (E := E_M_opens d) (pc := 18) (cks_at k_M_opens 11 rfl rfl) fo_M_313 so_78 rfl (by decide) ?_
    refine tq_iconst (E := E_M_opens d) (pc := 21) (cks_at k_M_opens 12 rfl rfl) ?_
    refine tq_iadd (E := E_M_opens d) (pc := 22) (cks_at k_M_opens 13 rfl rfl) ?_
    refine tq_putI (E := E_M_opens d) (pc := 23) (cks_at k_M_opens 14 rfl rfl) fo_M_313 so_78 rfl po_12_38 (fun M1 => ?_)
    refine tq_aload_n 0 (E := E_M_opens d) (pc := 26) (cks_at k_M_opens 15 rfl rfl) rfl ?_
    refine tq_getR (j := 103) (E := E_M_opens d) (pc := 27) (cks_at k_M_opens 16 rfl rfl) fo_M_88 so_78 rfl sp_78_36 ?_
    refine tq_aload_n 0 (E := E_M_opens d) (pc := 30) (cks_at k_M_opens 17 rfl rfl) rfl ?_
    refine tq_getI (E := E_M_opens d) (pc := 31) (cks_at k_M_opens 18 rfl rfl) fo_M_310 so_78 rfl (by decide) ?_
    refine tq_iload_n 1 (E := E_M_opens d) (pc := 34) (cks_at k_M_opens 19 rfl rfl) rfl ?_
    refine tq_iast (E := E_M_opens d) (pc := 35) (cks_at k_M_opens 20 rfl rfl) sa_103 sn_103 (fun M2 => ?_)
    refine tq_aload_n 0 (E := E_M_opens d) (pc := 36) (cks_at k_M_opens 21 rfl rfl) rfl ?_
    refine tq_dup (E := E_M_opens d) (pc := 37) (cks_at k_M_opens 22 rfl rfl) rfl ?_
    refine tq_getI (E := E_M_opens d) (pc := 38) (cks_at k_M_opens 23 rfl rfl) fo_M_310 so_78 rfl (by decide) ?_
    refine tq_iconst (E := E_M_opens d) (pc := 41) (cks_at k_M_opens 24 rfl rfl) ?_
    refine tq_iadd (E := E_M_opens d) (pc := 42) (cks_at k_M_opens 25 rfl rfl) ?_
    refine tq_putI (E := E_M_opens d) (pc := 43) (cks_at k_M_opens 26 rfl rfl) fo_M_310 so_78 rfl po_12_37 (fun M3 => ?_)
    exact tq_vret (E := E_M_opens d) (pc := 46) (cks_at k_M_opens 27 rfl rfl) rfl
  · refine tq_aload_n 0 (E := E_M_opens d) (pc := 9) (cks_at k_M_opens 4 rfl rfl) rfl ?_
    refine tq_iconst (E := E_M_opens d) (pc := 10) (cks_at k_M_opens 5 rfl rfl) ?_
    refine tq_iload_n 2 (E := E_M_opens d) (pc := 11) (cks_at k_M_opens 6 rfl rfl) rfl ?_
    refine tq_V2 (E := E_M_opens d) (pc := 12) (cks_at k_M_opens 7 rfl rfl) mk_M_fail lk_M_255 rc_78 (Nat.le_of_ble_eq_true rfl) (c_M_fail (d + 0) 4 v2 M) (k_V fun M4 => ?_)
    exact tq_vret (E := E_M_opens d) (pc := 15) (cks_at k_M_opens 8 rfl rfl) rfl
abbrev E_M_code (d : Nat) : Ev := (Ct (d + 0), "BreathTownModel", prog_14_method_27_code, 2, False, 0, (fun _ => 0), (Option.none : Option Jvm.ClassFile.FieldType))
def f_M_code (v1 : Int) (M : Mm) : Option (Mm) :=
  gd (0 ≤ i32 (0 + (M 78 35)) ∧ i32 (0 + (M 78 35)) < ((3200 : Nat) : Int)) <|
  bd (up M 102 (i32 (0 + (M 78 35))).toNat v1) (fun M1 =>
  bd (up M1 78 35 ((M1 78 35) + 1)) (fun M2 =>
  some M2))
set_option maxRecDepth 20000 in
set_option maxHeartbeats 4000000 in
theorem c_M_code (d : Nat) (v1 : Int) (M : Mm) (Q : Option Value → Mm → Prop) (h : sat injV (f_M_code v1 M) Q) : Ct (d + 1) y_M_code [.ref 78, vI v1] M Q := by
  refine ct_in (d := d + 0) mk_M_code (Nat.le_of_ble_eq_true rfl) (?_ : T (E_M_code d) injV 0 [(0, .ref 78), (1, vI v1)] [] M (f_M_code v1 M)) h
  unfold f_M_code
  refine tq_aload_n 0 (E := E_M_code d) (pc := 0) (cks_at k_M_code 0 rfl rfl) rfl ?_
  refine tq_getR (j := 102) (E := E_M_code d) (pc := 1) (cks_at k_M_code 1 rfl rfl) fo_M_85 so_78 rfl sp_78_34 ?_
  refine tq_iconst (E := E_M_code d) (pc := 4) (cks_at k_M_code 2 rfl rfl) ?_
  refine tq_aload_n 0 (E := E_M_code d) (pc := 5) (cks_at k_M_code 3 rfl rfl) rfl ?_
  refine tq_getI (E := E_M_code d) (pc := 6) (cks_at k_M_code 4 rfl rfl) fo_M_307 so_78 rfl (by decide) ?_
  refine tq_iadd (E := E_M_code d) (pc := 9) (cks_at k_M_code 5 rfl rfl) ?_
  refine tq_iload_n 1 (E := E_M_code d) (pc := 10) (cks_at k_M_code 6 rfl rfl) rfl ?_
  refine tq_iast (E := E_M_code d) (pc := 11) (cks_at k_M_code 7 rfl rfl) sa_102 sn_102 (fun M1 => ?_)
  refine tq_aload_n 0 (E := E_M_code d) (pc := 12) (cks_at k_M_code 8 rfl rfl) rfl ?_
  refine tq_dup (E := E_M_code d) (pc := 13) (cks_at k_M_code 9 rfl rfl) rfl ?_
  refine tq_getI (E := E_M_code d) (pc := 14) (cks_at k_M_code 10 rfl rfl) fo_M_307 so_78 rfl (by decide) ?_
  refine tq_iconst (E := E_M_code d) (pc := 17) (cks_at k_M_code 11 rfl rfl) ?_
  refine tq_iadd (E := E_M_code d) (pc := 18) (cks_at k_M_code 12 rfl rfl) ?_
  refine tq_putI (E := E_M_code d) (pc := 19) (cks_at k_M_code 13 rfl rfl) fo_M_307 so_78 rfl po_12_35 (fun M2 => ?_)
  exact tq_vret (E := E_M_code d) (pc := 22) (cks_at k_M_code 14 rfl rfl) rfl
abbrev E_M_onePart (d : Nat) : Ev := (Ct (d + 4), "BreathTownModel", prog_14_method_34_code, 5, False, 0, (fun _ => 0), (Option.none : Option Jvm.ClassFile.FieldType))
def f_M_onePart_J107 (kH : Int → Mm → Option (Mm)) (kx146 : Mm → Option (Mm)) (v1 v3 s0 : Int) (M : Mm) : Option (Mm) :=
  if i32 s0 = i32 ((-1)) then
    bV (f_M_asksSign 40 M) (fun M9 =>
    kH v1 M9)
  else
    if i32 v3 = 0 then
      bV (f_M_opens 22 s0 M) (fun M10 =>
      bV (f_M_asksSign 40 M10) (fun M11 =>
      kH v1 M11))
    else
      bV (f_M_opens 21 s0 M) (fun M12 =>
      bV (f_M_asksSign 40 M12) (fun M13 =>
      kH v1 M13))
set_option maxRecDepth 20000 in
set_option maxHeartbeats 4000000 in
theorem w_M_onePart_J107 (d : Nat) (kH : Int → Mm → Option (Mm)) (kx146 : Mm → Option (Mm)) (hkH : ∀ (v1 : Int) (M : Mm), T (E_M_onePart d) injV 2 [(0, .ref 78), (1, vI v1)] [] M (kH v1 M)) (hkx146 : ∀  (M : Mm), T (E_M_onePart d) injV 146 [(0, .ref 78)] [] M (kx146 M)) (v1 v3 s0 : Int) (M : Mm) : T (E_M_onePart d) injV 107 [(0, .ref 78), (1, vI v1), (3, vI v3)] [vI s0] M (f_M_onePart_J107 kH kx146 v1 v3 s0 M) := by
  unfold f_M_onePart_J107
  refine tq_istore (E := E_M_onePart d) (pc := 107) (cks_at k_M_onePart 54 rfl rfl) (show 4 < 5 by decide) rfl ?_
  refine tq_iload 0 (E := E_M_onePart d) (pc := 109) (cks_at k_M_onePart 55 rfl rfl) rfl ?_
  refine tq_iconst (E := E_M_onePart d) (pc := 111) (cks_at k_M_onePart 56 rfl rfl) ?_
  refine tq_icmp_eq (E := E_M_onePart d) (pc := 112) (tgt := 132) (cks_at k_M_onePart 57 rfl rfl) (by decide) ?_ ?_
  · refine tq_aload_n 1 (E := E_M_onePart d) (pc := 132) (cks_at k_M_onePart 66 rfl rfl) rfl ?_
    refine tq_bipush (E := E_M_onePart d) (pc := 133) (cks_at k_M_onePart 67 rfl rfl) (by decide) (by decide) ?_
    refine tq_V1 (E := E_M_onePart d) (pc := 135) (cks_at k_M_onePart 68 rfl rfl) mk_M_asksSign lk_M_338 rc_78 (Nat.le_of_ble_eq_true rfl) (c_M_asksSign (d + 1) 40 M) (k_V fun M9 => ?_)
    refine tq_goto (tgt := 143) (E := E_M_onePart d) (pc := 138) (cks_at k_M_onePart 69 rfl rfl) (by decide) ?_
    refine tq_goto (tgt := 2) (E := E_M_onePart d) (pc := 143) (cks_at k_M_onePart 72 rfl rfl) (by decide) ?_
    exact tq_sub [1, 2] rfl (hkH v1 M9)
  · refine tq_aload_n 1 (E := E_M_onePart d) (pc := 115) (cks_at k_M_onePart 58 rfl rfl) rfl ?_
    refine tq_iload_n 3 (E := E_M_onePart d) (pc := 116) (cks_at k_M_onePart 59 rfl rfl) rfl ?_
    refine tq_if_eq (E := E_M_onePart d) (pc := 117) (tgt := 125) (cks_at k_M_onePart 60 rfl rfl) (by decide) ?_ ?_
    · refine tq_bipush (E := E_M_onePart d) (pc := 125) (cks_at k_M_onePart 63 rfl rfl) (by decide) (by decide) ?_
      refine tq_iload 0 (E := E_M_onePart d) (pc := 127) (cks_at k_M_onePart 64 rfl rfl) rfl ?_
      refine tq_V2 (E := E_M_onePart d) (pc := 129) (cks_at k_M_onePart 65 rfl rfl) mk_M_opens lk_M_365 rc_78 (Nat.le_of_ble_eq_true rfl) (c_M_opens (d + 2) 22 s0 M) (k_V fun M10 => ?_)
      refine tq_aload_n 1 (E := E_M_onePart d) (pc := 132) (cks_at k_M_onePart 66 rfl rfl) rfl ?_
      refine tq_bipush (E := E_M_onePart d) (pc := 133) (cks_at k_M_onePart 67 rfl rfl) (by decide) (by decide) ?_
      refine tq_V1 (E := E_M_onePart d) (pc := 135) (cks_at k_M_onePart 68 rfl rfl) mk_M_asksSign lk_M_338 rc_78 (Nat.le_of_ble_eq_true rfl) (c_M_asksSign (d + 1) 40 M10) (k_V fun M11 => ?_)
      refine tq_goto (tgt := 143) (E := E_M_onePart d) (pc := 138) (cks_at k_M_onePart 69 rfl rfl) (by decide) ?_
      refine tq_goto (tgt := 2) (E := E_M_onePart d) (pc := 143) (cks_at k_M_onePart 72 rfl rfl) (by decide) ?_
      exact tq_sub [1, 2] rfl (hkH v1 M11)
    · refine tq_bipush (E := E_M_onePart d) (pc := 120) (cks_at k_M_onePart 61 rfl rfl) (by decide) (by decide) ?_
      refine tq_goto (tgt := 127) (E := E_M_onePart d) (pc := 122) (cks_at k_M_onePart 62 rfl rfl) (by decide) ?_
      refine tq_iload 0 (E := E_M_onePart d) (pc := 127) (cks_at k_M_onePart 64 rfl rfl) rfl ?_
      refine tq_V2 (E := E_M_onePart d) (pc := 129) (cks_at k_M_onePart 65 rfl rfl) mk_M_opens lk_M_365 rc_78 (Nat.le_of_ble_eq_true rfl) (c_M_opens (d + 2) 21 s0 M) (k_V fun M12 => ?_)
      refine tq_aload_n 1 (E := E_M_onePart d) (pc := 132) (cks_at k_M_onePart 66 rfl rfl) rfl ?_
      refine tq_bipush (E := E_M_onePart d) (pc := 133) (cks_at k_M_onePart 67 rfl rfl) (by decide) (by decide) ?_
      refine tq_V1 (E := E_M_onePart d) (pc := 135) (cks_at k_M_onePart 68 rfl rfl) mk_M_asksSign lk_M_338 rc_78 (Nat.le_of_ble_eq_true rfl) (c_M_asksSign (d + 1) 40 M12) (k_V fun M13 => ?_)
      refine tq_goto (tgt := 143) (E := E_M_onePart d) (pc := 138) (cks_at k_M_onePart 69 rfl rfl) (by decide) ?_
      refine tq_goto (tgt := 2) (E := E_M_onePart d) (pc := 143) (cks_at k_M_onePart 72 rfl rfl) (by decide) ?_
      exact tq_sub [1, 2] rfl (hkH v1 M13)
def f_M_onePart_J90 (kH : Int → Mm → Option (Mm)) (kx146 : Mm → Option (Mm)) (v1 v3 : Int) (M : Mm) : Option (Mm) :=
  bI (f_M_look M) (fun r8 M7 =>
  if ¬ i32 r8 = i32 40 then
    f_M_onePart_J107 kH kx146 v1 v3 ((-1)) M7
  else
    f_M_onePart_J107 kH kx146 v1 v3 (M7 78 2) M7)
set_option maxRecDepth 20000 in
set_option maxHeartbeats 4000000 in
theorem w_M_onePart_J90 (d : Nat) (kH : Int → Mm → Option (Mm)) (kx146 : Mm → Option (Mm)) (hkH : ∀ (v1 : Int) (M : Mm), T (E_M_onePart d) injV 2 [(0, .ref 78), (1, vI v1)] [] M (kH v1 M)) (hkx146 : ∀  (M : Mm), T (E_M_onePart d) injV 146 [(0, .ref 78)] [] M (kx146 M)) (v1 v3 : Int) (M : Mm) : T (E_M_onePart d) injV 90 [(0, .ref 78), (1, vI v1), (3, vI v3)] [] M (f_M_onePart_J90 kH kx146 v1 v3 M) := by
  unfold f_M_onePart_J90
  refine tq_aload_n 0 (E := E_M_onePart d) (pc := 90) (cks_at k_M_onePart 46 rfl rfl) rfl ?_
  refine tq_V0 (E := E_M_onePart d) (pc := 91) (cks_at k_M_onePart 47 rfl rfl) mk_M_look lk_M_237 rc_78 (Nat.le_of_ble_eq_true rfl) (c_M_look (d + 3) M) (k_I fun r8 M7 => ?_)
  refine tq_bipush (E := E_M_onePart d) (pc := 94) (cks_at k_M_onePart 48 rfl rfl) (by decide) (by decide) ?_
  refine tq_icmp_ne (E := E_M_onePart d) (pc := 96) (tgt := 106) (cks_at k_M_onePart 49 rfl rfl) (by decide) ?_ ?_
  · refine tq_iconst (E := E_M_onePart d) (pc := 106) (cks_at k_M_onePart 53 rfl rfl) ?_
    exact tq_sub [0, 1, 2] rfl (w_M_onePart_J107 d kH kx146 hkH hkx146 v1 v3 ((-1)) M7)
  · refine tq_aload_n 0 (E := E_M_onePart d) (pc := 99) (cks_at k_M_onePart 50 rfl rfl) rfl ?_
    refine tq_getI (E := E_M_onePart d) (pc := 100) (cks_at k_M_onePart 51 rfl rfl) fo_M_231 so_78 rfl (by decide) ?_
    refine tq_goto (tgt := 107) (E := E_M_onePart d) (pc := 103) (cks_at k_M_onePart 52 rfl rfl) (by decide) ?_
    exact tq_sub [0, 1, 2] rfl (w_M_onePart_J107 d kH kx146 hkH hkx146 v1 v3 (M7 78 2) M7)
def f_M_onePart_J69 (kH : Int → Mm → Option (Mm)) (kx146 : Mm → Option (Mm)) (v1 : Int) (M : Mm) : Option (Mm) :=
  bI (f_M_takes 96 M) (fun r6 M5 =>
  if ¬ i32 r6 = 0 then
    f_M_onePart_J90 kH kx146 v1 r6 M5
  else
    bV (f_M_asks 97 M5) (fun M14 =>
    f_M_onePart_J90 kH kx146 v1 r6 M14))
set_option maxRecDepth 20000 in
set_option maxHeartbeats 4000000 in
theorem w_M_onePart_J69 (d : Nat) (kH : Int → Mm → Option (Mm)) (kx146 : Mm → Option (Mm)) (hkH : ∀ (v1 : Int) (M : Mm), T (E_M_onePart d) injV 2 [(0, .ref 78), (1, vI v1)] [] M (kH v1 M)) (hkx146 : ∀  (M : Mm), T (E_M_onePart d) injV 146 [(0, .ref 78)] [] M (kx146 M)) (v1 : Int) (M : Mm) : T (E_M_onePart d) injV 69 [(0, .ref 78), (1, vI v1)] [] M (f_M_onePart_J69 kH kx146 v1 M) := by
  unfold f_M_onePart_J69
  refine tq_aload_n 0 (E := E_M_onePart d) (pc := 69) (cks_at k_M_onePart 35 rfl rfl) rfl ?_
  refine tq_aload_n 0 (E := E_M_onePart d) (pc := 70) (cks_at k_M_onePart 36 rfl rfl) rfl ?_
  refine tq_getR (j := 96) (E := E_M_onePart d) (pc := 71) (cks_at k_M_onePart 37 rfl rfl) fo_M_66 so_78 rfl sp_78_25 ?_
  refine tq_V1 (E := E_M_onePart d) (pc := 74) (cks_at k_M_onePart 38 rfl rfl) mk_M_takes lk_M_252 rc_78 (Nat.le_of_ble_eq_true rfl) (c_M_takes (d + 1) 96 sa_96 M) (k_I fun r6 M5 => ?_)
  refine tq_istore_n (E := E_M_onePart d) (pc := 77) (cks_at k_M_onePart 39 rfl rfl) (show 3 < 5 by decide) rfl ?_
  refine tq_iload_n 0 (E := E_M_onePart d) (pc := 78) (cks_at k_M_onePart 40 rfl rfl) rfl ?_
  refine tq_if_ne (E := E_M_onePart d) (pc := 79) (tgt := 90) (cks_at k_M_onePart 41 rfl rfl) (by decide) ?_ ?_
  · exact tq_sub [1, 2, 0] rfl (w_M_onePart_J90 d kH kx146 hkH hkx146 v1 r6 M5)
  · refine tq_aload_n 1 (E := E_M_onePart d) (pc := 82) (cks_at k_M_onePart 42 rfl rfl) rfl ?_
    refine tq_aload_n 1 (E := E_M_onePart d) (pc := 83) (cks_at k_M_onePart 43 rfl rfl) rfl ?_
    refine tq_getR (j := 97) (E := E_M_onePart d) (pc := 84) (cks_at k_M_onePart 44 rfl rfl) fo_M_69 so_78 rfl sp_78_26 ?_
    refine tq_V1 (E := E_M_onePart d) (pc := 87) (cks_at k_M_onePart 45 rfl rfl) mk_M_asks lk_M_295 rc_78 (Nat.le_of_ble_eq_true rfl) (c_M_asks (d + 0) 97 sa_97 M5) (k_V fun M14 => ?_)
    exact tq_sub [1, 2, 0] rfl (w_M_onePart_J90 d kH kx146 hkH hkx146 v1 r6 M14)
def f_M_onePart_B2 (kH : Int → Mm → Option (Mm)) (kx146 : Mm → Option (Mm)) (v1 : Int) (M : Mm) : Option (Mm) :=
  if i32 v1 = 0 then
    kx146 M
  else
    if ¬ i32 (M 78 5) = 0 then
      kx146 M
    else
      bI (f_M_look M) (fun r2 M1 =>
      if ¬ i32 r2 = i32 40 then
        bI (f_M_isHere 96 M1) (fun r4 M3 =>
        if ¬ i32 r4 = 0 then
          f_M_onePart_J69 kH kx146 v1 M3
        else
          bI (f_M_isHere 97 M3) (fun r16 M15 =>
          if i32 r16 = 0 then
            kH 0 M15
          else
            f_M_onePart_J69 kH kx146 v1 M15))
      else
        bV (f_M_opens 20 (M1 78 2) M1) (fun M17 =>
        bd (up M17 78 2 ((M17 78 2) + 1)) (fun M18 =>
        kH v1 M18)))
set_option maxRecDepth 20000 in
set_option maxHeartbeats 4000000 in
theorem w_M_onePart_B2 (d : Nat) (kH : Int → Mm → Option (Mm)) (kx146 : Mm → Option (Mm)) (hkH : ∀ (v1 : Int) (M : Mm), T (E_M_onePart d) injV 2 [(0, .ref 78), (1, vI v1)] [] M (kH v1 M)) (hkx146 : ∀  (M : Mm), T (E_M_onePart d) injV 146 [(0, .ref 78)] [] M (kx146 M)) (v1 : Int) (M : Mm) : T (E_M_onePart d) injV 2 [(0, .ref 78), (1, vI v1)] [] M (f_M_onePart_B2 kH kx146 v1 M) := by
  unfold f_M_onePart_B2
  refine tq_iload_n 1 (E := E_M_onePart d) (pc := 2) (cks_at k_M_onePart 2 rfl rfl) rfl ?_
  refine tq_if_eq (E := E_M_onePart d) (pc := 3) (tgt := 146) (cks_at k_M_onePart 3 rfl rfl) (by decide) ?_ ?_
  · exact tq_sub [0] rfl (hkx146 M)
  · refine tq_aload_n 0 (E := E_M_onePart d) (pc := 6) (cks_at k_M_onePart 4 rfl rfl) rfl ?_
    refine tq_getI (E := E_M_onePart d) (pc := 7) (cks_at k_M_onePart 5 rfl rfl) fo_M_225 so_78 rfl (by decide) ?_
    refine tq_if_ne (E := E_M_onePart d) (pc := 10) (tgt := 146) (cks_at k_M_onePart 6 rfl rfl) (by decide) ?_ ?_
    · exact tq_sub [0] rfl (hkx146 M)
    · refine tq_aload_n 0 (E := E_M_onePart d) (pc := 13) (cks_at k_M_onePart 7 rfl rfl) rfl ?_
      refine tq_V0 (E := E_M_onePart d) (pc := 14) (cks_at k_M_onePart 8 rfl rfl) mk_M_look lk_M_237 rc_78 (Nat.le_of_ble_eq_true rfl) (c_M_look (d + 3) M) (k_I fun r2 M1 => ?_)
      refine tq_istore_n (E := E_M_onePart d) (pc := 17) (cks_at k_M_onePart 9 rfl rfl) (show 2 < 5 by decide) rfl ?_
      refine tq_iload_n 0 (E := E_M_onePart d) (pc := 18) (cks_at k_M_onePart 10 rfl rfl) rfl ?_
      refine tq_bipush (E := E_M_onePart d) (pc := 19) (cks_at k_M_onePart 11 rfl rfl) (by decide) (by decide) ?_
      refine tq_icmp_ne (E := E_M_onePart d) (pc := 21) (tgt := 47) (cks_at k_M_onePart 12 rfl rfl) (by decide) ?_ ?_
      · refine tq_aload_n 1 (E := E_M_onePart d) (pc := 47) (cks_at k_M_onePart 25 rfl rfl) rfl ?_
        refine tq_aload_n 1 (E := E_M_onePart d) (pc := 48) (cks_at k_M_onePart 26 rfl rfl) rfl ?_
        refine tq_getR (j := 96) (E := E_M_onePart d) (pc := 49) (cks_at k_M_onePart 27 rfl rfl) fo_M_66 so_78 rfl sp_78_25 ?_
        refine tq_V1 (E := E_M_onePart d) (pc := 52) (cks_at k_M_onePart 28 rfl rfl) mk_M_isHere lk_M_248 rc_78 (Nat.le_of_ble_eq_true rfl) (c_M_isHere (d + 2) 96 sa_96 M1) (k_I fun r4 M3 => ?_)
        refine tq_if_ne (E := E_M_onePart d) (pc := 55) (tgt := 69) (cks_at k_M_onePart 29 rfl rfl) (by decide) ?_ ?_
        · exact tq_sub [1, 2] rfl (w_M_onePart_J69 d kH kx146 hkH hkx146 v1 M3)
        · refine tq_aload_n 1 (E := E_M_onePart d) (pc := 58) (cks_at k_M_onePart 30 rfl rfl) rfl ?_
          refine tq_aload_n 1 (E := E_M_onePart d) (pc := 59) (cks_at k_M_onePart 31 rfl rfl) rfl ?_
          refine tq_getR (j := 97) (E := E_M_onePart d) (pc := 60) (cks_at k_M_onePart 32 rfl rfl) fo_M_69 so_78 rfl sp_78_26 ?_
          refine tq_V1 (E := E_M_onePart d) (pc := 63) (cks_at k_M_onePart 33 rfl rfl) mk_M_isHere lk_M_248 rc_78 (Nat.le_of_ble_eq_true rfl) (c_M_isHere (d + 2) 97 sa_97 M3) (k_I fun r16 M15 => ?_)
          refine tq_if_eq (E := E_M_onePart d) (pc := 66) (tgt := 141) (cks_at k_M_onePart 34 rfl rfl) (by decide) ?_ ?_
          · refine tq_iconst (E := E_M_onePart d) (pc := 141) (cks_at k_M_onePart 70 rfl rfl) ?_
            refine tq_istore_n (E := E_M_onePart d) (pc := 142) (cks_at k_M_onePart 71 rfl rfl) (show 1 < 5 by decide) rfl ?_
            refine tq_goto (tgt := 2) (E := E_M_onePart d) (pc := 143) (cks_at k_M_onePart 72 rfl rfl) (by decide) ?_
            exact tq_sub [2, 0] rfl (hkH 0 M15)
          · exact tq_sub [1, 2] rfl (w_M_onePart_J69 d kH kx146 hkH hkx146 v1 M15)
      · refine tq_aload_n 1 (E := E_M_onePart d) (pc := 24) (cks_at k_M_onePart 13 rfl rfl) rfl ?_
        refine tq_bipush (E := E_M_onePart d) (pc := 25) (cks_at k_M_onePart 14 rfl rfl) (by decide) (by decide) ?_
        refine tq_aload_n 1 (E := E_M_onePart d) (pc := 27) (cks_at k_M_onePart 15 rfl rfl) rfl ?_
        refine tq_getI (E := E_M_onePart d) (pc := 28) (cks_at k_M_onePart 16 rfl rfl) fo_M_231 so_78 rfl (by decide) ?_
        refine tq_V2 (E := E_M_onePart d) (pc := 31) (cks_at k_M_onePart 17 rfl rfl) mk_M_opens lk_M_365 rc_78 (Nat.le_of_ble_eq_true rfl) (c_M_opens (d + 2) 20 (M1 78 2) M1) (k_V fun M17 => ?_)
        refine tq_aload_n 1 (E := E_M_onePart d) (pc := 34) (cks_at k_M_onePart 18 rfl rfl) rfl ?_
        refine tq_dup (E := E_M_onePart d) (pc := 35) (cks_at k_M_onePart 19 rfl rfl) rfl ?_
        refine tq_getI (E := E_M_onePart d) (pc := 36) (cks_at k_M_onePart 20 rfl rfl) fo_M_231 so_78 rfl (by decide) ?_
        refine tq_iconst (E := E_M_onePart d) (pc := 39) (cks_at k_M_onePart 21 rfl rfl) ?_
        refine tq_iadd (E := E_M_onePart d) (pc := 40) (cks_at k_M_onePart 22 rfl rfl) ?_
        refine tq_putI (E := E_M_onePart d) (pc := 41) (cks_at k_M_onePart 23 rfl rfl) fo_M_231 so_78 rfl po_12_2 (fun M18 => ?_)
        refine tq_goto (tgt := 143) (E := E_M_onePart d) (pc := 44) (cks_at k_M_onePart 24 rfl rfl) (by decide) ?_
        refine tq_goto (tgt := 2) (E := E_M_onePart d) (pc := 143) (cks_at k_M_onePart 72 rfl rfl) (by decide) ?_
        exact tq_sub [1, 2] rfl (hkH v1 M18)
def f_M_onePart_L2 (kx146 : Mm → Option (Mm)) : Nat → Int × Mm → Option (Mm) := lp fun kH s => f_M_onePart_B2 (fun v1 M => kH (v1, M)) kx146 s.1 s.2
set_option maxRecDepth 20000 in
set_option maxHeartbeats 4000000 in
theorem w_M_onePart_L2 (d : Nat) (kx146 : Mm → Option (Mm)) (hkx146 : ∀  (M : Mm), T (E_M_onePart d) injV 146 [(0, .ref 78)] [] M (kx146 M)) (n : Nat) (s : Int × Mm) : T (E_M_onePart d) injV 2 [(0, .ref 78), (1, vI s.1)] [] s.2 (f_M_onePart_L2 kx146 n s) :=
  tq_lp (fun s => [(0, .ref 78), (1, vI s.1)]) (fun s => s.2) (fun kH hH s => w_M_onePart_B2 d (fun v1 M => kH (v1, M)) kx146 (fun v1 M => hH (v1, M)) hkx146 s.1 s.2) n s
def f_M_onePart_J219 (s0 : Int) (M : Mm) : Option (Mm) :=
  if i32 s0 = i32 ((-1)) then
    bI (f_M_number 0 9999 M) (fun r29 M28 =>
    bV (f_M_code (1000 + r29) M28) (fun M30 =>
    some M30))
  else
    bV (f_M_code s0 M) (fun M31 =>
    some M31)
set_option maxRecDepth 20000 in
set_option maxHeartbeats 4000000 in
theorem w_M_onePart_J219 (d : Nat) (s0 : Int) (M : Mm) : T (E_M_onePart d) injV 219 [(0, .ref 78)] [vI s0] M (f_M_onePart_J219 s0 M) := by
  unfold f_M_onePart_J219
  refine tq_istore_n (E := E_M_onePart d) (pc := 219) (cks_at k_M_onePart 106 rfl rfl) (show 2 < 5 by decide) rfl ?_
  refine tq_aload_n 1 (E := E_M_onePart d) (pc := 220) (cks_at k_M_onePart 107 rfl rfl) rfl ?_
  refine tq_iload_n 0 (E := E_M_onePart d) (pc := 221) (cks_at k_M_onePart 108 rfl rfl) rfl ?_
  refine tq_iconst (E := E_M_onePart d) (pc := 222) (cks_at k_M_onePart 109 rfl rfl) ?_
  refine tq_icmp_eq (E := E_M_onePart d) (pc := 223) (tgt := 230) (cks_at k_M_onePart 110 rfl rfl) (by decide) ?_ ?_
  · refine tq_sipush (E := E_M_onePart d) (pc := 230) (cks_at k_M_onePart 113 rfl rfl) (by decide) (by decide) ?_
    refine tq_aload_n 1 (E := E_M_onePart d) (pc := 233) (cks_at k_M_onePart 114 rfl rfl) rfl ?_
    refine tq_iconst (E := E_M_onePart d) (pc := 234) (cks_at k_M_onePart 115 rfl rfl) ?_
    refine tq_sipush (E := E_M_onePart d) (pc := 235) (cks_at k_M_onePart 116 rfl rfl) (by decide) (by decide) ?_
    refine tq_V2 (E := E_M_onePart d) (pc := 238) (cks_at k_M_onePart 117 rfl rfl) mk_M_number lk_M_303 rc_78 (Nat.le_of_ble_eq_true rfl) (c_M_number (d + 2) 0 9999 M) (k_I fun r29 M28 => ?_)
    refine tq_iadd (E := E_M_onePart d) (pc := 241) (cks_at k_M_onePart 118 rfl rfl) ?_
    refine tq_V1 (E := E_M_onePart d) (pc := 242) (cks_at k_M_onePart 119 rfl rfl) mk_M_code lk_M_356 rc_78 (Nat.le_of_ble_eq_true rfl) (c_M_code (d + 3) (1000 + r29) M28) (k_V fun M30 => ?_)
    exact tq_vret (E := E_M_onePart d) (pc := 245) (cks_at k_M_onePart 120 rfl rfl) rfl
  · refine tq_iload_n 0 (E := E_M_onePart d) (pc := 226) (cks_at k_M_onePart 111 rfl rfl) rfl ?_
    refine tq_goto (tgt := 242) (E := E_M_onePart d) (pc := 227) (cks_at k_M_onePart 112 rfl rfl) (by decide) ?_
    refine tq_V1 (E := E_M_onePart d) (pc := 242) (cks_at k_M_onePart 119 rfl rfl) mk_M_code lk_M_356 rc_78 (Nat.le_of_ble_eq_true rfl) (c_M_code (d + 3) s0 M) (k_V fun M31 => ?_)
    exact tq_vret (E := E_M_onePart d) (pc := 245) (cks_at k_M_onePart 120 rfl rfl) rfl
def f_M_onePart_J146 (M : Mm) : Option (Mm) :=
  if i32 (M 78 5) = 0 then
    bI (f_M_takes 93 M) (fun r21 M20 =>
    if i32 r21 = 0 then
      bI (f_M_takes 86 M20) (fun r23 M22 =>
      if i32 r23 = 0 then
        bI (f_M_takes 94 M22) (fun r25 M24 =>
        if i32 r25 = 0 then
          bI (f_M_takes 95 M24) (fun r27 M26 =>
          if i32 r27 = 0 then
            f_M_onePart_J219 ((-1)) M26
          else
            f_M_onePart_J219 10 M26)
        else
          f_M_onePart_J219 9 M24)
      else
        f_M_onePart_J219 8 M22)
    else
      f_M_onePart_J219 7 M20)
  else
    some M
set_option maxRecDepth 20000 in
set_option maxHeartbeats 4000000 in
theorem w_M_onePart_J146 (d : Nat) (M : Mm) : T (E_M_onePart d) injV 146 [(0, .ref 78)] [] M (f_M_onePart_J146 M) := by
  unfold f_M_onePart_J146
  refine tq_aload_n 0 (E := E_M_onePart d) (pc := 146) (cks_at k_M_onePart 73 rfl rfl) rfl ?_
  refine tq_getI (E := E_M_onePart d) (pc := 147) (cks_at k_M_onePart 74 rfl rfl) fo_M_225 so_78 rfl (by decide) ?_
  refine tq_if_eq (E := E_M_onePart d) (pc := 150) (tgt := 154) (cks_at k_M_onePart 75 rfl rfl) (by decide) ?_ ?_
  · refine tq_aload_n 0 (E := E_M_onePart d) (pc := 154) (cks_at k_M_onePart 77 rfl rfl) rfl ?_
    refine tq_aload_n 0 (E := E_M_onePart d) (pc := 155) (cks_at k_M_onePart 78 rfl rfl) rfl ?_
    refine tq_getR (j := 93) (E := E_M_onePart d) (pc := 156) (cks_at k_M_onePart 79 rfl rfl) fo_M_57 so_78 rfl sp_78_22 ?_
    refine tq_V1 (E := E_M_onePart d) (pc := 159) (cks_at k_M_onePart 80 rfl rfl) mk_M_takes lk_M_252 rc_78 (Nat.le_of_ble_eq_true rfl) (c_M_takes (d + 1) 93 sa_93 M) (k_I fun r21 M20 => ?_)
    refine tq_if_eq (E := E_M_onePart d) (pc := 162) (tgt := 170) (cks_at k_M_onePart 81 rfl rfl) (by decide) ?_ ?_
    · refine tq_aload_n 0 (E := E_M_onePart d) (pc := 170) (cks_at k_M_onePart 84 rfl rfl) rfl ?_
      refine tq_aload_n 0 (E := E_M_onePart d) (pc := 171) (cks_at k_M_onePart 85 rfl rfl) rfl ?_
      refine tq_getR (j := 86) (E := E_M_onePart d) (pc := 172) (cks_at k_M_onePart 86 rfl rfl) fo_M_36 so_78 rfl sp_78_15 ?_
      refine tq_V1 (E := E_M_onePart d) (pc := 175) (cks_at k_M_onePart 87 rfl rfl) mk_M_takes lk_M_252 rc_78 (Nat.le_of_ble_eq_true rfl) (c_M_takes (d + 1) 86 sa_86 M20) (k_I fun r23 M22 => ?_)
      refine tq_if_eq (E := E_M_onePart d) (pc := 178) (tgt := 186) (cks_at k_M_onePart 88 rfl rfl) (by decide) ?_ ?_
      · refine tq_aload_n 0 (E := E_M_onePart d) (pc := 186) (cks_at k_M_onePart 91 rfl rfl) rfl ?_
        refine tq_aload_n 0 (E := E_M_onePart d) (pc := 187) (cks_at k_M_onePart 92 rfl rfl) rfl ?_
        refine tq_getR (j := 94) (E := E_M_onePart d) (pc := 188) (cks_at k_M_onePart 93 rfl rfl) fo_M_60 so_78 rfl sp_78_23 ?_
        refine tq_V1 (E := E_M_onePart d) (pc := 191) (cks_at k_M_onePart 94 rfl rfl) mk_M_takes lk_M_252 rc_78 (Nat.le_of_ble_eq_true rfl) (c_M_takes (d + 1) 94 sa_94 M22) (k_I fun r25 M24 => ?_)
        refine tq_if_eq (E := E_M_onePart d) (pc := 194) (tgt := 202) (cks_at k_M_onePart 95 rfl rfl) (by decide) ?_ ?_
        · refine tq_aload_n 0 (E := E_M_onePart d) (pc := 202) (cks_at k_M_onePart 98 rfl rfl) rfl ?_
          refine tq_aload_n 0 (E := E_M_onePart d) (pc := 203) (cks_at k_M_onePart 99 rfl rfl) rfl ?_
          refine tq_getR (j := 95) (E := E_M_onePart d) (pc := 204) (cks_at k_M_onePart 100 rfl rfl) fo_M_63 so_78 rfl sp_78_24 ?_
          refine tq_V1 (E := E_M_onePart d) (pc := 207) (cks_at k_M_onePart 101 rfl rfl) mk_M_takes lk_M_252 rc_78 (Nat.le_of_ble_eq_true rfl) (c_M_takes (d + 1) 95 sa_95 M24) (k_I fun r27 M26 => ?_)
          refine tq_if_eq (E := E_M_onePart d) (pc := 210) (tgt := 218) (cks_at k_M_onePart 102 rfl rfl) (by decide) ?_ ?_
          · refine tq_iconst (E := E_M_onePart d) (pc := 218) (cks_at k_M_onePart 105 rfl rfl) ?_
            exact tq_sub [0] rfl (w_M_onePart_J219 d ((-1)) M26)
          · refine tq_bipush (E := E_M_onePart d) (pc := 213) (cks_at k_M_onePart 103 rfl rfl) (by decide) (by decide) ?_
            refine tq_goto (tgt := 219) (E := E_M_onePart d) (pc := 215) (cks_at k_M_onePart 104 rfl rfl) (by decide) ?_
            exact tq_sub [0] rfl (w_M_onePart_J219 d 10 M26)
        · refine tq_bipush (E := E_M_onePart d) (pc := 197) (cks_at k_M_onePart 96 rfl rfl) (by decide) (by decide) ?_
          refine tq_goto (tgt := 219) (E := E_M_onePart d) (pc := 199) (cks_at k_M_onePart 97 rfl rfl) (by decide) ?_
          exact tq_sub [0] rfl (w_M_onePart_J219 d 9 M24)
      · refine tq_bipush (E := E_M_onePart d) (pc := 181) (cks_at k_M_onePart 89 rfl rfl) (by decide) (by decide) ?_
        refine tq_goto (tgt := 219) (E := E_M_onePart d) (pc := 183) (cks_at k_M_onePart 90 rfl rfl) (by decide) ?_
        exact tq_sub [0] rfl (w_M_onePart_J219 d 8 M22)
    · refine tq_bipush (E := E_M_onePart d) (pc := 165) (cks_at k_M_onePart 82 rfl rfl) (by decide) (by decide) ?_
      refine tq_goto (tgt := 219) (E := E_M_onePart d) (pc := 167) (cks_at k_M_onePart 83 rfl rfl) (by decide) ?_
      exact tq_sub [0] rfl (w_M_onePart_J219 d 7 M20)
  · exact tq_vret (E := E_M_onePart d) (pc := 153) (cks_at k_M_onePart 76 rfl rfl) rfl
def f_M_onePart (M : Mm) : Option (Mm) :=
  f_M_onePart_L2 (fun M19 => f_M_onePart_J146 M19) FU (1, M)
set_option maxRecDepth 20000 in
set_option maxHeartbeats 4000000 in
theorem c_M_onePart (d : Nat) (M : Mm) (Q : Option Value → Mm → Prop) (h : sat injV (f_M_onePart M) Q) : Ct (d + 5) y_M_onePart [.ref 78] M Q := by
  refine ct_in (d := d + 4) mk_M_onePart (Nat.le_of_ble_eq_true rfl) (?_ : T (E_M_onePart d) injV 0 [(0, .ref 78)] [] M (f_M_onePart M)) h
  unfold f_M_onePart
  refine tq_iconst (E := E_M_onePart d) (pc := 0) (cks_at k_M_onePart 0 rfl rfl) ?_
  refine tq_istore_n (E := E_M_onePart d) (pc := 1) (cks_at k_M_onePart 1 rfl rfl) (show 1 < 5 by decide) rfl ?_
  exact tq_sub [1, 0] rfl (w_M_onePart_L2 d _ (fun M19 => by
      exact tq_sub [0] rfl (w_M_onePart_J146 d M19)) FU (1, M))
abbrev E_M_isMark (d : Nat) : Ev := (Ct (d + 0), "BreathTownModel", prog_14_method_31_code, 2, False, 0, (fun _ => 0), (Option.some Jvm.ClassFile.FieldType.boolean))
def f_M_isMark (v1 : Int) (M : Mm) : Option (Int × Mm) :=
  if i32 v1 < i32 20 then
    some (0, M)
  else
    if i32 24 < i32 v1 then
      some (0, M)
    else
      some (1, M)
set_option maxRecDepth 20000 in
set_option maxHeartbeats 4000000 in
theorem c_M_isMark (d : Nat) (v1 : Int) (M : Mm) (Q : Option Value → Mm → Prop) (h : sat injI (f_M_isMark v1 M) Q) : Ct (d + 1) y_M_isMark [.ref 78, vI v1] M Q := by
  refine ct_in (d := d + 0) mk_M_isMark (Nat.le_of_ble_eq_true rfl) (?_ : T (E_M_isMark d) injI 0 [(0, .ref 78), (1, vI v1)] [] M (f_M_isMark v1 M)) h
  unfold f_M_isMark
  refine tq_iload_n 1 (E := E_M_isMark d) (pc := 0) (cks_at k_M_isMark 0 rfl rfl) rfl ?_
  refine tq_bipush (E := E_M_isMark d) (pc := 1) (cks_at k_M_isMark 1 rfl rfl) (by decide) (by decide) ?_
  refine tq_icmp_lt (E := E_M_isMark d) (pc := 3) (tgt := 16) (cks_at k_M_isMark 2 rfl rfl) (by decide) ?_ ?_
  · refine tq_iconst (E := E_M_isMark d) (pc := 16) (cks_at k_M_isMark 8 rfl rfl) ?_
    exact tq_zretC (E := E_M_isMark d) (pc := 17) (cks_at k_M_isMark 9 rfl rfl) rfl (by decide)
  · refine tq_iload_n 1 (E := E_M_isMark d) (pc := 6) (cks_at k_M_isMark 3 rfl rfl) rfl ?_
    refine tq_bipush (E := E_M_isMark d) (pc := 7) (cks_at k_M_isMark 4 rfl rfl) (by decide) (by decide) ?_
    refine tq_icmp_gt (E := E_M_isMark d) (pc := 9) (tgt := 16) (cks_at k_M_isMark 5 rfl rfl) (by decide) ?_ ?_
    · refine tq_iconst (E := E_M_isMark d) (pc := 16) (cks_at k_M_isMark 8 rfl rfl) ?_
      exact tq_zretC (E := E_M_isMark d) (pc := 17) (cks_at k_M_isMark 9 rfl rfl) rfl (by decide)
    · refine tq_iconst (E := E_M_isMark d) (pc := 12) (cks_at k_M_isMark 6 rfl rfl) ?_
      refine tq_goto (tgt := 17) (E := E_M_isMark d) (pc := 13) (cks_at k_M_isMark 7 rfl rfl) (by decide) ?_
      exact tq_zretC (E := E_M_isMark d) (pc := 17) (cks_at k_M_isMark 9 rfl rfl) rfl (by decide)
abbrev E_M_waitsLast (d : Nat) : Ev := (Ct (d + 1), "BreathTownModel", prog_14_method_32_code, 2, False, 0, (fun _ => 0), (Option.some Jvm.ClassFile.FieldType.int))
def f_M_waitsLast_B7 (kH : Int → Mm → Option (Int × Mm)) (kx34 : Int → Mm → Option (Int × Mm)) (v1 : Int) (M : Mm) : Option (Int × Mm) :=
  if i32 v1 < i32 (M 78 41) then
    kx34 v1 M
  else
    gd (0 ≤ i32 v1 ∧ i32 v1 < ((1700 : Nat) : Int)) <|
    bI (f_M_isMark (M 103 (i32 v1).toNat) M) (fun r2 M1 =>
    if ¬ i32 r2 = 0 then
      kx34 v1 M1
    else
      kH (v1 + (-1)) M1)
set_option maxRecDepth 20000 in
set_option maxHeartbeats 4000000 in
theorem w_M_waitsLast_B7 (d : Nat) (kH : Int → Mm → Option (Int × Mm)) (kx34 : Int → Mm → Option (Int × Mm)) (hkH : ∀ (v1 : Int) (M : Mm), T (E_M_waitsLast d) injI 7 [(0, .ref 78), (1, vI v1)] [] M (kH v1 M)) (hkx34 : ∀ (v1 : Int) (M : Mm), T (E_M_waitsLast d) injI 34 [(0, .ref 78), (1, vI v1)] [] M (kx34 v1 M)) (v1 : Int) (M : Mm) : T (E_M_waitsLast d) injI 7 [(0, .ref 78), (1, vI v1)] [] M (f_M_waitsLast_B7 kH kx34 v1 M) := by
  unfold f_M_waitsLast_B7
  refine tq_iload_n 1 (E := E_M_waitsLast d) (pc := 7) (cks_at k_M_waitsLast 5 rfl rfl) rfl ?_
  refine tq_aload_n 0 (E := E_M_waitsLast d) (pc := 8) (cks_at k_M_waitsLast 6 rfl rfl) rfl ?_
  refine tq_getI (E := E_M_waitsLast d) (pc := 9) (cks_at k_M_waitsLast 7 rfl rfl) fo_M_316 so_78 rfl (by decide) ?_
  refine tq_icmp_lt (E := E_M_waitsLast d) (pc := 12) (tgt := 34) (cks_at k_M_waitsLast 8 rfl rfl) (by decide) ?_ ?_
  · exact tq_sub [0, 1] rfl (hkx34 v1 M)
  · refine tq_aload_n 0 (E := E_M_waitsLast d) (pc := 15) (cks_at k_M_waitsLast 9 rfl rfl) rfl ?_
    refine tq_aload_n 0 (E := E_M_waitsLast d) (pc := 16) (cks_at k_M_waitsLast 10 rfl rfl) rfl ?_
    refine tq_getR (j := 103) (E := E_M_waitsLast d) (pc := 17) (cks_at k_M_waitsLast 11 rfl rfl) fo_M_88 so_78 rfl sp_78_36 ?_
    refine tq_iload_n 1 (E := E_M_waitsLast d) (pc := 20) (cks_at k_M_waitsLast 12 rfl rfl) rfl ?_
    refine tq_iald (E := E_M_waitsLast d) (pc := 21) (cks_at k_M_waitsLast 13 rfl rfl) sa_103 sn_103 ?_
    refine tq_V1 (E := E_M_waitsLast d) (pc := 22) (cks_at k_M_waitsLast 14 rfl rfl) mk_M_isMark lk_M_359 rc_78 (Nat.le_of_ble_eq_true rfl) (c_M_isMark (d + 0) (M 103 (i32 v1).toNat) M) (k_I fun r2 M1 => ?_)
    refine tq_if_ne (E := E_M_waitsLast d) (pc := 25) (tgt := 34) (cks_at k_M_waitsLast 15 rfl rfl) (by decide) ?_ ?_
    · exact tq_sub [0, 1] rfl (hkx34 v1 M1)
    · refine tq_iinc 1 (E := E_M_waitsLast d) (pc := 28) (cks_at k_M_waitsLast 16 rfl rfl) rfl (show 1 < 2 by decide) rfl ?_
      refine tq_goto (tgt := 7) (E := E_M_waitsLast d) (pc := 31) (cks_at k_M_waitsLast 17 rfl rfl) (by decide) ?_
      exact tq_sub [1, 0] rfl (hkH (v1 + (-1)) M1)
def f_M_waitsLast_L7 (kx34 : Int → Mm → Option (Int × Mm)) : Nat → Int × Mm → Option (Int × Mm) := lp fun kH s => f_M_waitsLast_B7 (fun v1 M => kH (v1, M)) kx34 s.1 s.2
set_option maxRecDepth 20000 in
set_option maxHeartbeats 4000000 in
theorem w_M_waitsLast_L7 (d : Nat) (kx34 : Int → Mm → Option (Int × Mm)) (hkx34 : ∀ (v1 : Int) (M : Mm), T (E_M_waitsLast d) injI 34 [(0, .ref 78), (1, vI v1)] [] M (kx34 v1 M)) (n : Nat) (s : Int × Mm) : T (E_M_waitsLast d) injI 7 [(0, .ref 78), (1, vI s.1)] [] s.2 (f_M_waitsLast_L7 kx34 n s) :=
  tq_lp (fun s => [(0, .ref 78), (1, vI s.1)]) (fun s => s.2) (fun kH hH s => w_M_waitsLast_B7 d (fun v1 M => kH (v1, M)) kx34 (fun v1 M => hH (v1, M)) hkx34 s.1 s.2) n s
def f_M_waitsLast_J34 (v1 : Int) (M : Mm) : Option (Int × Mm) :=
  if i32 v1 < i32 (M 78 41) then
    some ((-1), M)
  else
    gd (0 ≤ i32 v1 ∧ i32 v1 < ((1700 : Nat) : Int)) <|
    some (M 103 (i32 v1).toNat, M)
set_option maxRecDepth 20000 in
set_option maxHeartbeats 4000000 in
theorem w_M_waitsLast_J34 (d : Nat) (v1 : Int) (M : Mm) : T (E_M_waitsLast d) injI 34 [(0, .ref 78), (1, vI v1)] [] M (f_M_waitsLast_J34 v1 M) := by
  unfold f_M_waitsLast_J34
  refine tq_iload_n 1 (E := E_M_waitsLast d) (pc := 34) (cks_at k_M_waitsLast 18 rfl rfl) rfl ?_
  refine tq_aload_n 0 (E := E_M_waitsLast d) (pc := 35) (cks_at k_M_waitsLast 19 rfl rfl) rfl ?_
  refine tq_getI (E := E_M_waitsLast d) (pc := 36) (cks_at k_M_waitsLast 20 rfl rfl) fo_M_316 so_78 rfl (by decide) ?_
  refine tq_icmp_lt (E := E_M_waitsLast d) (pc := 39) (tgt := 51) (cks_at k_M_waitsLast 21 rfl rfl) (by decide) ?_ ?_
  · refine tq_iconst (E := E_M_waitsLast d) (pc := 51) (cks_at k_M_waitsLast 27 rfl rfl) ?_
    exact tq_iret (E := E_M_waitsLast d) (pc := 52) (cks_at k_M_waitsLast 28 rfl rfl) rfl
  · refine tq_aload_n 0 (E := E_M_waitsLast d) (pc := 42) (cks_at k_M_waitsLast 22 rfl rfl) rfl ?_
    refine tq_getR (j := 103) (E := E_M_waitsLast d) (pc := 43) (cks_at k_M_waitsLast 23 rfl rfl) fo_M_88 so_78 rfl sp_78_36 ?_
    refine tq_iload_n 1 (E := E_M_waitsLast d) (pc := 46) (cks_at k_M_waitsLast 24 rfl rfl) rfl ?_
    refine tq_iald (E := E_M_waitsLast d) (pc := 47) (cks_at k_M_waitsLast 25 rfl rfl) sa_103 sn_103 ?_
    refine tq_goto (tgt := 52) (E := E_M_waitsLast d) (pc := 48) (cks_at k_M_waitsLast 26 rfl rfl) (by decide) ?_
    exact tq_iret (E := E_M_waitsLast d) (pc := 52) (cks_at k_M_waitsLast 28 rfl rfl) rfl
def f_M_waitsLast (M : Mm) : Option (Int × Mm) :=
  f_M_waitsLast_L7 (fun v1 M3 => f_M_waitsLast_J34 v1 M3) FU (((M 78 37) - 1), M)
set_option maxRecDepth 20000 in
set_option maxHeartbeats 4000000 in
theorem c_M_waitsLast (d : Nat) (M : Mm) (Q : Option Value → Mm → Prop) (h : sat injI (f_M_waitsLast M) Q) : Ct (d + 2) y_M_waitsLast [.ref 78] M Q := by
  refine ct_in (d := d + 1) mk_M_waitsLast (Nat.le_of_ble_eq_true rfl) (?_ : T (E_M_waitsLast d) injI 0 [(0, .ref 78)] [] M (f_M_waitsLast M)) h
  unfold f_M_waitsLast
  refine tq_aload_n 0 (E := E_M_waitsLast d) (pc := 0) (cks_at k_M_waitsLast 0 rfl rfl) rfl ?_
  refine tq_getI (E := E_M_waitsLast d) (pc := 1) (cks_at k_M_waitsLast 1 rfl rfl) fo_M_310 so_78 rfl (by decide) ?_
  refine tq_iconst (E := E_M_waitsLast d) (pc := 4) (cks_at k_M_waitsLast 2 rfl rfl) ?_
  refine tq_isub (E := E_M_waitsLast d) (pc := 5) (cks_at k_M_waitsLast 3 rfl rfl) ?_
  refine tq_istore_n (E := E_M_waitsLast d) (pc := 6) (cks_at k_M_waitsLast 4 rfl rfl) (show 1 < 2 by decide) rfl ?_
  exact tq_sub [1, 0] rfl (w_M_waitsLast_L7 d _ (fun v1 M3 => by
      exact tq_sub [0, 1] rfl (w_M_waitsLast_J34 d v1 M3)) FU (((M 78 37) - 1), M))
abbrev E_M_drops (d : Nat) : Ev := (Ct (d + 1), "BreathTownModel", prog_14_method_30_code, 1, False, 0, (fun _ => 0), (Option.none : Option Jvm.ClassFile.FieldType))
def f_M_drops (M : Mm) : Option (Mm) :=
  bd (up M 78 37 ((M 78 37) - 1)) (fun M1 =>
  gd (0 ≤ i32 (M1 78 37) ∧ i32 (M1 78 37) < ((1700 : Nat) : Int)) <|
  bV (f_M_code (M1 103 (i32 (M1 78 37)).toNat) M1) (fun M2 =>
  some M2))
set_option maxRecDepth 20000 in
set_option maxHeartbeats 4000000 in
theorem c_M_drops (d : Nat) (M : Mm) (Q : Option Value → Mm → Prop) (h : sat injV (f_M_drops M) Q) : Ct (d + 2) y_M_drops [.ref 78] M Q := by
  refine ct_in (d := d + 1) mk_M_drops (Nat.le_of_ble_eq_true rfl) (?_ : T (E_M_drops d) injV 0 [(0, .ref 78)] [] M (f_M_drops M)) h
  unfold f_M_drops
  refine tq_aload_n 0 (E := E_M_drops d) (pc := 0) (cks_at k_M_drops 0 rfl rfl) rfl ?_
  refine tq_dup (E := E_M_drops d) (pc := 1) (cks_at k_M_drops 1 rfl rfl) rfl ?_
  refine tq_getI (E := E_M_drops d) (pc := 2) (cks_at k_M_drops 2 rfl rfl) fo_M_310 so_78 rfl (by decide) ?_
  refine tq_iconst (E := E_M_drops d) (pc := 5) (cks_at k_M_drops 3 rfl rfl) ?_
  refine tq_isub (E := E_M_drops d) (pc := 6) (cks_at k_M_drops 4 rfl rfl) ?_
  refine tq_putI (E := E_M_drops d) (pc := 7) (cks_at k_M_drops 5 rfl rfl) fo_M_310 so_78 rfl po_12_37 (fun M1 => ?_)
  refine tq_aload_n 0 (E := E_M_drops d) (pc := 10) (cks_at k_M_drops 6 rfl rfl) rfl ?_
  refine tq_aload_n 0 (E := E_M_drops d) (pc := 11) (cks_at k_M_drops 7 rfl rfl) rfl ?_
  refine tq_getR (j := 103) (E := E_M_drops d) (pc := 12) (cks_at k_M_drops 8 rfl rfl) fo_M_88 so_78 rfl sp_78_36 ?_
  refine tq_aload_n 0 (E := E_M_drops d) (pc := 15) (cks_at k_M_drops 9 rfl rfl) rfl ?_
  refine tq_getI (E := E_M_drops d) (pc := 16) (cks_at k_M_drops 10 rfl rfl) fo_M_310 so_78 rfl (by decide) ?_
  refine tq_iald (E := E_M_drops d) (pc := 19) (cks_at k_M_drops 11 rfl rfl) sa_103 sn_103 ?_
  refine tq_V1 (E := E_M_drops d) (pc := 20) (cks_at k_M_drops 12 rfl rfl) mk_M_code lk_M_356 rc_78 (Nat.le_of_ble_eq_true rfl) (c_M_code (d + 0) (M1 103 (i32 (M1 78 37)).toNat) M1) (k_V fun M2 => ?_)
  exact tq_vret (E := E_M_drops d) (pc := 23) (cks_at k_M_drops 13 rfl rfl) rfl
abbrev E_M_dropsToMark (d : Nat) : Ev := (Ct (d + 2), "BreathTownModel", prog_14_method_33_code, 1, False, 0, (fun _ => 0), (Option.none : Option Jvm.ClassFile.FieldType))
def f_M_dropsToMark_B0 (kH : Mm → Option (Mm)) (M : Mm) : Option (Mm) :=
  if i32 (M 78 37) ≤ i32 (M 78 41) then
    some M
  else
    gd (0 ≤ i32 ((M 78 37) - 1) ∧ i32 ((M 78 37) - 1) < ((1700 : Nat) : Int)) <|
    bI (f_M_isMark (M 103 (i32 ((M 78 37) - 1)).toNat) M) (fun r2 M1 =>
    if ¬ i32 r2 = 0 then
      some M1
    else
      bV (f_M_drops M1) (fun M3 =>
      kH M3))
set_option maxRecDepth 20000 in
set_option maxHeartbeats 4000000 in
theorem w_M_dropsToMark_B0 (d : Nat) (kH : Mm → Option (Mm)) (hkH : ∀  (M : Mm), T (E_M_dropsToMark d) injV 0 [(0, .ref 78)] [] M (kH M)) (M : Mm) : T (E_M_dropsToMark d) injV 0 [(0, .ref 78)] [] M (f_M_dropsToMark_B0 kH M) := by
  unfold f_M_dropsToMark_B0
  refine tq_aload_n 0 (E := E_M_dropsToMark d) (pc := 0) (cks_at k_M_dropsToMark 0 rfl rfl) rfl ?_
  refine tq_getI (E := E_M_dropsToMark d) (pc := 1) (cks_at k_M_dropsToMark 1 rfl rfl) fo_M_310 so_78 rfl (by decide) ?_
  refine tq_aload_n 0 (E := E_M_dropsToMark d) (pc := 4) (cks_at k_M_dropsToMark 2 rfl rfl) rfl ?_
  refine tq_getI (E := E_M_dropsToMark d) (pc := 5) (cks_at k_M_dropsToMark 3 rfl rfl) fo_M_316 so_78 rfl (by decide) ?_
  refine tq_icmp_le (E := E_M_dropsToMark d) (pc := 8) (tgt := 36) (cks_at k_M_dropsToMark 4 rfl rfl) (by decide) ?_ ?_
  · exact tq_vret (E := E_M_dropsToMark d) (pc := 36) (cks_at k_M_dropsToMark 18 rfl rfl) rfl
  · refine tq_aload_n 0 (E := E_M_dropsToMark d) (pc := 11) (cks_at k_M_dropsToMark 5 rfl rfl) rfl ?_
    refine tq_aload_n 0 (E := E_M_dropsToMark d) (pc := 12) (cks_at k_M_dropsToMark 6 rfl rfl) rfl ?_
    refine tq_getR (j := 103) (E := E_M_dropsToMark d) (pc := 13) (cks_at k_M_dropsToMark 7 rfl rfl) fo_M_88 so_78 rfl sp_78_36 ?_
    refine tq_aload_n 0 (E := E_M_dropsToMark d) (pc := 16) (cks_at k_M_dropsToMark 8 rfl rfl) rfl ?_
    refine tq_getI (E := E_M_dropsToMark d) (pc := 17) (cks_at k_M_dropsToMark 9 rfl rfl) fo_M_310 so_78 rfl (by decide) ?_
    refine tq_iconst (E := E_M_dropsToMark d) (pc := 20) (cks_at k_M_dropsToMark 10 rfl rfl) ?_
    refine tq_isub (E := E_M_dropsToMark d) (pc := 21) (cks_at k_M_dropsToMark 11 rfl rfl) ?_
    refine tq_iald (E := E_M_dropsToMark d) (pc := 22) (cks_at k_M_dropsToMark 12 rfl rfl) sa_103 sn_103 ?_
    refine tq_V1 (E := E_M_dropsToMark d) (pc := 23) (cks_at k_M_dropsToMark 13 rfl rfl) mk_M_isMark lk_M_359 rc_78 (Nat.le_of_ble_eq_true rfl) (c_M_isMark (d + 1) (M 103 (i32 ((M 78 37) - 1)).toNat) M) (k_I fun r2 M1 => ?_)
    refine tq_if_ne (E := E_M_dropsToMark d) (pc := 26) (tgt := 36) (cks_at k_M_dropsToMark 14 rfl rfl) (by decide) ?_ ?_
    · exact tq_vret (E := E_M_dropsToMark d) (pc := 36) (cks_at k_M_dropsToMark 18 rfl rfl) rfl
    · refine tq_aload_n 0 (E := E_M_dropsToMark d) (pc := 29) (cks_at k_M_dropsToMark 15 rfl rfl) rfl ?_
      refine tq_V0 (E := E_M_dropsToMark d) (pc := 30) (cks_at k_M_dropsToMark 16 rfl rfl) mk_M_drops lk_M_362 rc_78 (Nat.le_of_ble_eq_true rfl) (c_M_drops (d + 0) M1) (k_V fun M3 => ?_)
      refine tq_goto (tgt := 0) (E := E_M_dropsToMark d) (pc := 33) (cks_at k_M_dropsToMark 17 rfl rfl) (by decide) ?_
      exact tq_sub [0] rfl (hkH M3)
def f_M_dropsToMark_L0 : Nat → Mm → Option (Mm) := lp fun kH s => f_M_dropsToMark_B0 kH s
set_option maxRecDepth 20000 in
set_option maxHeartbeats 4000000 in
theorem w_M_dropsToMark_L0 (d : Nat) (n : Nat) (s : Mm) : T (E_M_dropsToMark d) injV 0 [(0, .ref 78)] [] s (f_M_dropsToMark_L0 n s) :=
  tq_lp (fun s => [(0, .ref 78)]) (fun s => s) (fun kH hH s => w_M_dropsToMark_B0 d kH (fun M => hH (M)) s) n s
def f_M_dropsToMark (M : Mm) : Option (Mm) :=
  f_M_dropsToMark_L0 FU M
set_option maxRecDepth 20000 in
set_option maxHeartbeats 4000000 in
theorem c_M_dropsToMark (d : Nat) (M : Mm) (Q : Option Value → Mm → Prop) (h : sat injV (f_M_dropsToMark M) Q) : Ct (d + 3) y_M_dropsToMark [.ref 78] M Q := by
  refine ct_in (d := d + 2) mk_M_dropsToMark (Nat.le_of_ble_eq_true rfl) (?_ : T (E_M_dropsToMark d) injV 0 [(0, .ref 78)] [] M (f_M_dropsToMark M)) h
  unfold f_M_dropsToMark
  exact tq_sub [0] rfl (w_M_dropsToMark_L0 d FU M)
abbrev E_M_isOn (d : Nat) : Ev := (Ct (d + 0), "BreathTownModel", prog_14_method_29_code, 2, False, 0, (fun _ => 0), (Option.some Jvm.ClassFile.FieldType.boolean))
def f_M_isOn (v1 : Int) (M : Mm) : Option (Int × Mm) :=
  if i32 (M 78 37) ≤ 0 then
    some (0, M)
  else
    gd (0 ≤ i32 ((M 78 37) - 1) ∧ i32 ((M 78 37) - 1) < ((1700 : Nat) : Int)) <|
    if ¬ i32 (M 103 (i32 ((M 78 37) - 1)).toNat) = i32 v1 then
      some (0, M)
    else
      some (1, M)
set_option maxRecDepth 20000 in
set_option maxHeartbeats 4000000 in
theorem c_M_isOn (d : Nat) (v1 : Int) (M : Mm) (Q : Option Value → Mm → Prop) (h : sat injI (f_M_isOn v1 M) Q) : Ct (d + 1) y_M_isOn [.ref 78, vI v1] M Q := by
  refine ct_in (d := d + 0) mk_M_isOn (Nat.le_of_ble_eq_true rfl) (?_ : T (E_M_isOn d) injI 0 [(0, .ref 78), (1, vI v1)] [] M (f_M_isOn v1 M)) h
  unfold f_M_isOn
  refine tq_aload_n 0 (E := E_M_isOn d) (pc := 0) (cks_at k_M_isOn 0 rfl rfl) rfl ?_
  refine tq_getI (E := E_M_isOn d) (pc := 1) (cks_at k_M_isOn 1 rfl rfl) fo_M_310 so_78 rfl (by decide) ?_
  refine tq_if_le (E := E_M_isOn d) (pc := 4) (tgt := 26) (cks_at k_M_isOn 2 rfl rfl) (by decide) ?_ ?_
  · refine tq_iconst (E := E_M_isOn d) (pc := 26) (cks_at k_M_isOn 14 rfl rfl) ?_
    exact tq_zretC (E := E_M_isOn d) (pc := 27) (cks_at k_M_isOn 15 rfl rfl) rfl (by decide)
  · refine tq_aload_n 0 (E := E_M_isOn d) (pc := 7) (cks_at k_M_isOn 3 rfl rfl) rfl ?_
    refine tq_getR (j := 103) (E := E_M_isOn d) (pc := 8) (cks_at k_M_isOn 4 rfl rfl) fo_M_88 so_78 rfl sp_78_36 ?_
    refine tq_aload_n 0 (E := E_M_isOn d) (pc := 11) (cks_at k_M_isOn 5 rfl rfl) rfl ?_
    refine tq_getI (E := E_M_isOn d) (pc := 12) (cks_at k_M_isOn 6 rfl rfl) fo_M_310 so_78 rfl (by decide) ?_
    refine tq_iconst (E := E_M_isOn d) (pc := 15) (cks_at k_M_isOn 7 rfl rfl) ?_
    refine tq_isub (E := E_M_isOn d) (pc := 16) (cks_at k_M_isOn 8 rfl rfl) ?_
    refine tq_iald (E := E_M_isOn d) (pc := 17) (cks_at k_M_isOn 9 rfl rfl) sa_103 sn_103 ?_
    refine tq_iload_n 1 (E := E_M_isOn d) (pc := 18) (cks_at k_M_isOn 10 rfl rfl) rfl ?_
    refine tq_icmp_ne (E := E_M_isOn d) (pc := 19) (tgt := 26) (cks_at k_M_isOn 11 rfl rfl) (by decide) ?_ ?_
    · refine tq_iconst (E := E_M_isOn d) (pc := 26) (cks_at k_M_isOn 14 rfl rfl) ?_
      exact tq_zretC (E := E_M_isOn d) (pc := 27) (cks_at k_M_isOn 15 rfl rfl) rfl (by decide)
    · refine tq_iconst (E := E_M_isOn d) (pc := 22) (cks_at k_M_isOn 12 rfl rfl) ?_
      refine tq_goto (tgt := 27) (E := E_M_isOn d) (pc := 23) (cks_at k_M_isOn 13 rfl rfl) (by decide) ?_
      exact tq_zretC (E := E_M_isOn d) (pc := 27) (cks_at k_M_isOn 15 rfl rfl) rfl (by decide)
abbrev E_M_goesOn (d : Nat) : Ev := (Ct (d + 3), "BreathTownModel", prog_14_method_35_code, 2, False, 0, (fun _ => 0), (Option.some Jvm.ClassFile.FieldType.boolean))
def f_M_goesOn_J43 (kH : Mm → Option (Int × Mm)) (kx118 : Mm → Option (Int × Mm)) (M : Mm) : Option (Int × Mm) :=
  bd (up M 78 2 ((M 78 2) + 1)) (fun M5 =>
  bV (f_M_dropsToMark M5) (fun M6 =>
  bd (up M6 78 37 ((M6 78 37) - 1)) (fun M7 =>
  bd (up M7 78 38 ((M7 78 38) - 1)) (fun M8 =>
  gd (0 ≤ i32 (M8 78 37) ∧ i32 (M8 78 37) < ((1700 : Nat) : Int)) <|
  if i32 (M8 103 (i32 (M8 78 37)).toNat) = i32 20 then
    kH M8
  else
    gd (0 ≤ i32 (M8 78 37) ∧ i32 (M8 78 37) < ((1700 : Nat) : Int)) <|
    if ¬ i32 (M8 103 (i32 (M8 78 37)).toNat) = i32 23 then
      bV (f_M_code 6 M8) (fun M9 =>
      kH M9)
    else
      bV (f_M_code 5 M8) (fun M10 =>
      kH M10)))))
set_option maxRecDepth 20000 in
set_option maxHeartbeats 4000000 in
theorem w_M_goesOn_J43 (d : Nat) (kH : Mm → Option (Int × Mm)) (kx118 : Mm → Option (Int × Mm)) (hkH : ∀  (M : Mm), T (E_M_goesOn d) injI 0 [(0, .ref 78)] [] M (kH M)) (hkx118 : ∀  (M : Mm), T (E_M_goesOn d) injI 118 [(0, .ref 78)] [] M (kx118 M)) (M : Mm) : T (E_M_goesOn d) injI 43 [(0, .ref 78)] [] M (f_M_goesOn_J43 kH kx118 M) := by
  unfold f_M_goesOn_J43
  refine tq_aload_n 0 (E := E_M_goesOn d) (pc := 43) (cks_at k_M_goesOn 19 rfl rfl) rfl ?_
  refine tq_dup (E := E_M_goesOn d) (pc := 44) (cks_at k_M_goesOn 20 rfl rfl) rfl ?_
  refine tq_getI (E := E_M_goesOn d) (pc := 45) (cks_at k_M_goesOn 21 rfl rfl) fo_M_231 so_78 rfl (by decide) ?_
  refine tq_iconst (E := E_M_goesOn d) (pc := 48) (cks_at k_M_goesOn 22 rfl rfl) ?_
  refine tq_iadd (E := E_M_goesOn d) (pc := 49) (cks_at k_M_goesOn 23 rfl rfl) ?_
  refine tq_putI (E := E_M_goesOn d) (pc := 50) (cks_at k_M_goesOn 24 rfl rfl) fo_M_231 so_78 rfl po_12_2 (fun M5 => ?_)
  refine tq_aload_n 0 (E := E_M_goesOn d) (pc := 53) (cks_at k_M_goesOn 25 rfl rfl) rfl ?_
  refine tq_V0 (E := E_M_goesOn d) (pc := 54) (cks_at k_M_goesOn 26 rfl rfl) mk_M_dropsToMark lk_M_371 rc_78 (Nat.le_of_ble_eq_true rfl) (c_M_dropsToMark (d + 0) M5) (k_V fun M6 => ?_)
  refine tq_aload_n 0 (E := E_M_goesOn d) (pc := 57) (cks_at k_M_goesOn 27 rfl rfl) rfl ?_
  refine tq_dup (E := E_M_goesOn d) (pc := 58) (cks_at k_M_goesOn 28 rfl rfl) rfl ?_
  refine tq_getI (E := E_M_goesOn d) (pc := 59) (cks_at k_M_goesOn 29 rfl rfl) fo_M_310 so_78 rfl (by decide) ?_
  refine tq_iconst (E := E_M_goesOn d) (pc := 62) (cks_at k_M_goesOn 30 rfl rfl) ?_
  refine tq_isub (E := E_M_goesOn d) (pc := 63) (cks_at k_M_goesOn 31 rfl rfl) ?_
  refine tq_putI (E := E_M_goesOn d) (pc := 64) (cks_at k_M_goesOn 32 rfl rfl) fo_M_310 so_78 rfl po_12_37 (fun M7 => ?_)
  refine tq_aload_n 0 (E := E_M_goesOn d) (pc := 67) (cks_at k_M_goesOn 33 rfl rfl) rfl ?_
  refine tq_dup (E := E_M_goesOn d) (pc := 68) (cks_at k_M_goesOn 34 rfl rfl) rfl ?_
  refine tq_getI (E := E_M_goesOn d) (pc := 69) (cks_at k_M_goesOn 35 rfl rfl) fo_M_313 so_78 rfl (by decide) ?_
  refine tq_iconst (E := E_M_goesOn d) (pc := 72) (cks_at k_M_goesOn 36 rfl rfl) ?_
  refine tq_isub (E := E_M_goesOn d) (pc := 73) (cks_at k_M_goesOn 37 rfl rfl) ?_
  refine tq_putI (E := E_M_goesOn d) (pc := 74) (cks_at k_M_goesOn 38 rfl rfl) fo_M_313 so_78 rfl po_12_38 (fun M8 => ?_)
  refine tq_aload_n 0 (E := E_M_goesOn d) (pc := 77) (cks_at k_M_goesOn 39 rfl rfl) rfl ?_
  refine tq_getR (j := 103) (E := E_M_goesOn d) (pc := 78) (cks_at k_M_goesOn 40 rfl rfl) fo_M_88 so_78 rfl sp_78_36 ?_
  refine tq_aload_n 0 (E := E_M_goesOn d) (pc := 81) (cks_at k_M_goesOn 41 rfl rfl) rfl ?_
  refine tq_getI (E := E_M_goesOn d) (pc := 82) (cks_at k_M_goesOn 42 rfl rfl) fo_M_310 so_78 rfl (by decide) ?_
  refine tq_iald (E := E_M_goesOn d) (pc := 85) (cks_at k_M_goesOn 43 rfl rfl) sa_103 sn_103 ?_
  refine tq_bipush (E := E_M_goesOn d) (pc := 86) (cks_at k_M_goesOn 44 rfl rfl) (by decide) (by decide) ?_
  refine tq_icmp_eq (E := E_M_goesOn d) (pc := 88) (tgt := 0) (cks_at k_M_goesOn 45 rfl rfl) (by decide) ?_ ?_
  · exact tq_sub [0] rfl (hkH M8)
  · refine tq_aload_n 0 (E := E_M_goesOn d) (pc := 91) (cks_at k_M_goesOn 46 rfl rfl) rfl ?_
    refine tq_aload_n 0 (E := E_M_goesOn d) (pc := 92) (cks_at k_M_goesOn 47 rfl rfl) rfl ?_
    refine tq_getR (j := 103) (E := E_M_goesOn d) (pc := 93) (cks_at k_M_goesOn 48 rfl rfl) fo_M_88 so_78 rfl sp_78_36 ?_
    refine tq_aload_n 0 (E := E_M_goesOn d) (pc := 96) (cks_at k_M_goesOn 49 rfl rfl) rfl ?_
    refine tq_getI (E := E_M_goesOn d) (pc := 97) (cks_at k_M_goesOn 50 rfl rfl) fo_M_310 so_78 rfl (by decide) ?_
    refine tq_iald (E := E_M_goesOn d) (pc := 100) (cks_at k_M_goesOn 51 rfl rfl) sa_103 sn_103 ?_
    refine tq_bipush (E := E_M_goesOn d) (pc := 101) (cks_at k_M_goesOn 52 rfl rfl) (by decide) (by decide) ?_
    refine tq_icmp_ne (E := E_M_goesOn d) (pc := 103) (tgt := 110) (cks_at k_M_goesOn 53 rfl rfl) (by decide) ?_ ?_
    · refine tq_bipush (E := E_M_goesOn d) (pc := 110) (cks_at k_M_goesOn 56 rfl rfl) (by decide) (by decide) ?_
      refine tq_V1 (E := E_M_goesOn d) (pc := 112) (cks_at k_M_goesOn 57 rfl rfl) mk_M_code lk_M_356 rc_78 (Nat.le_of_ble_eq_true rfl) (c_M_code (d + 2) 6 M8) (k_V fun M9 => ?_)
      refine tq_goto (tgt := 0) (E := E_M_goesOn d) (pc := 115) (cks_at k_M_goesOn 58 rfl rfl) (by decide) ?_
      exact tq_sub [0] rfl (hkH M9)
    · refine tq_iconst (E := E_M_goesOn d) (pc := 106) (cks_at k_M_goesOn 54 rfl rfl) ?_
      refine tq_goto (tgt := 112) (E := E_M_goesOn d) (pc := 107) (cks_at k_M_goesOn 55 rfl rfl) (by decide) ?_
      refine tq_V1 (E := E_M_goesOn d) (pc := 112) (cks_at k_M_goesOn 57 rfl rfl) mk_M_code lk_M_356 rc_78 (Nat.le_of_ble_eq_true rfl) (c_M_code (d + 2) 5 M8) (k_V fun M10 => ?_)
      refine tq_goto (tgt := 0) (E := E_M_goesOn d) (pc := 115) (cks_at k_M_goesOn 58 rfl rfl) (by decide) ?_
      exact tq_sub [0] rfl (hkH M10)
def f_M_goesOn_B0 (kH : Mm → Option (Int × Mm)) (kx118 : Mm → Option (Int × Mm)) (M : Mm) : Option (Int × Mm) :=
  if ¬ i32 (M 78 5) = 0 then
    kx118 M
  else
    bI (f_M_look M) (fun r2 M1 =>
    if ¬ i32 r2 = i32 41 then
      kx118 M1
    else
      bI (f_M_waitsLast M1) (fun r4 M3 =>
      if i32 r4 = i32 20 then
        f_M_goesOn_J43 kH kx118 M3
      else
        bI (f_M_waitsLast M3) (fun r12 M11 =>
        if i32 r12 = i32 23 then
          f_M_goesOn_J43 kH kx118 M11
        else
          bI (f_M_waitsLast M11) (fun r14 M13 =>
          if ¬ i32 r14 = i32 24 then
            kx118 M13
          else
            f_M_goesOn_J43 kH kx118 M13))))
set_option maxRecDepth 20000 in
set_option maxHeartbeats 4000000 in
theorem w_M_goesOn_B0 (d : Nat) (kH : Mm → Option (Int × Mm)) (kx118 : Mm → Option (Int × Mm)) (hkH : ∀  (M : Mm), T (E_M_goesOn d) injI 0 [(0, .ref 78)] [] M (kH M)) (hkx118 : ∀  (M : Mm), T (E_M_goesOn d) injI 118 [(0, .ref 78)] [] M (kx118 M)) (M : Mm) : T (E_M_goesOn d) injI 0 [(0, .ref 78)] [] M (f_M_goesOn_B0 kH kx118 M) := by
  unfold f_M_goesOn_B0
  refine tq_aload_n 0 (E := E_M_goesOn d) (pc := 0) (cks_at k_M_goesOn 0 rfl rfl) rfl ?_
  refine tq_getI (E := E_M_goesOn d) (pc := 1) (cks_at k_M_goesOn 1 rfl rfl) fo_M_225 so_78 rfl (by decide) ?_
  refine tq_if_ne (E := E_M_goesOn d) (pc := 4) (tgt := 118) (cks_at k_M_goesOn 2 rfl rfl) (by decide) ?_ ?_
  · exact tq_sub [0] rfl (hkx118 M)
  · refine tq_aload_n 0 (E := E_M_goesOn d) (pc := 7) (cks_at k_M_goesOn 3 rfl rfl) rfl ?_
    refine tq_V0 (E := E_M_goesOn d) (pc := 8) (cks_at k_M_goesOn 4 rfl rfl) mk_M_look lk_M_237 rc_78 (Nat.le_of_ble_eq_true rfl) (c_M_look (d + 2) M) (k_I fun r2 M1 => ?_)
    refine tq_bipush (E := E_M_goesOn d) (pc := 11) (cks_at k_M_goesOn 5 rfl rfl) (by decide) (by decide) ?_
    refine tq_icmp_ne (E := E_M_goesOn d) (pc := 13) (tgt := 118) (cks_at k_M_goesOn 6 rfl rfl) (by decide) ?_ ?_
    · exact tq_sub [0] rfl (hkx118 M1)
    · refine tq_aload_n 0 (E := E_M_goesOn d) (pc := 16) (cks_at k_M_goesOn 7 rfl rfl) rfl ?_
      refine tq_V0 (E := E_M_goesOn d) (pc := 17) (cks_at k_M_goesOn 8 rfl rfl) mk_M_waitsLast lk_M_368 rc_78 (Nat.le_of_ble_eq_true rfl) (c_M_waitsLast (d + 1) M1) (k_I fun r4 M3 => ?_)
      refine tq_bipush (E := E_M_goesOn d) (pc := 20) (cks_at k_M_goesOn 9 rfl rfl) (by decide) (by decide) ?_
      refine tq_icmp_eq (E := E_M_goesOn d) (pc := 22) (tgt := 43) (cks_at k_M_goesOn 10 rfl rfl) (by decide) ?_ ?_
      · exact tq_sub [0] rfl (w_M_goesOn_J43 d kH kx118 hkH hkx118 M3)
      · refine tq_aload_n 0 (E := E_M_goesOn d) (pc := 25) (cks_at k_M_goesOn 11 rfl rfl) rfl ?_
        refine tq_V0 (E := E_M_goesOn d) (pc := 26) (cks_at k_M_goesOn 12 rfl rfl) mk_M_waitsLast lk_M_368 rc_78 (Nat.le_of_ble_eq_true rfl) (c_M_waitsLast (d + 1) M3) (k_I fun r12 M11 => ?_)
        refine tq_bipush (E := E_M_goesOn d) (pc := 29) (cks_at k_M_goesOn 13 rfl rfl) (by decide) (by decide) ?_
        refine tq_icmp_eq (E := E_M_goesOn d) (pc := 31) (tgt := 43) (cks_at k_M_goesOn 14 rfl rfl) (by decide) ?_ ?_
        · exact tq_sub [0] rfl (w_M_goesOn_J43 d kH kx118 hkH hkx118 M11)
        · refine tq_aload_n 0 (E := E_M_goesOn d) (pc := 34) (cks_at k_M_goesOn 15 rfl rfl) rfl ?_
          refine tq_V0 (E := E_M_goesOn d) (pc := 35) (cks_at k_M_goesOn 16 rfl rfl) mk_M_waitsLast lk_M_368 rc_78 (Nat.le_of_ble_eq_true rfl) (c_M_waitsLast (d + 1) M11) (k_I fun r14 M13 => ?_)
          refine tq_bipush (E := E_M_goesOn d) (pc := 38) (cks_at k_M_goesOn 17 rfl rfl) (by decide) (by decide) ?_
          refine tq_icmp_ne (E := E_M_goesOn d) (pc := 40) (tgt := 118) (cks_at k_M_goesOn 18 rfl rfl) (by decide) ?_ ?_
          · exact tq_sub [0] rfl (hkx118 M13)
          · exact tq_sub [0] rfl (w_M_goesOn_J43 d kH kx118 hkH hkx118 M13)
def f_M_goesOn_L0 (kx118 : Mm → Option (Int × Mm)) : Nat → Mm → Option (Int × Mm) := lp fun kH s => f_M_goesOn_B0 kH kx118 s
set_option maxRecDepth 20000 in
set_option maxHeartbeats 4000000 in
theorem w_M_goesOn_L0 (d : Nat) (kx118 : Mm → Option (Int × Mm)) (hkx118 : ∀  (M : Mm), T (E_M_goesOn d) injI 118 [(0, .ref 78)] [] M (kx118 M)) (n : Nat) (s : Mm) : T (E_M_goesOn d) injI 0 [(0, .ref 78)] [] s (f_M_goesOn_L0 kx118 n s) :=
  tq_lp (fun s => [(0, .ref 78)]) (fun s => s) (fun kH hH s => w_M_goesOn_B0 d kH kx118 (fun M => hH (M)) hkx118 s) n s
def f_M_goesOn_B158 (kH : Int → Mm → Option (Int × Mm)) (kx181 : Int → Mm → Option (Int × Mm)) (v1 : Int) (M : Mm) : Option (Int × Mm) :=
  bI (f_M_isOn 3 M) (fun r19 M18 =>
  if ¬ i32 r19 = 0 then
    bV (f_M_drops M18) (fun M20 =>
    kH v1 M20)
  else
    bI (f_M_isOn 4 M18) (fun r22 M21 =>
    if i32 r22 = 0 then
      kx181 v1 M21
    else
      bV (f_M_drops M21) (fun M23 =>
      kH v1 M23)))
set_option maxRecDepth 20000 in
set_option maxHeartbeats 4000000 in
theorem w_M_goesOn_B158 (d : Nat) (kH : Int → Mm → Option (Int × Mm)) (kx181 : Int → Mm → Option (Int × Mm)) (hkH : ∀ (v1 : Int) (M : Mm), T (E_M_goesOn d) injI 158 [(0, .ref 78), (1, vI v1)] [] M (kH v1 M)) (hkx181 : ∀ (v1 : Int) (M : Mm), T (E_M_goesOn d) injI 181 [(0, .ref 78), (1, vI v1)] [] M (kx181 v1 M)) (v1 : Int) (M : Mm) : T (E_M_goesOn d) injI 158 [(0, .ref 78), (1, vI v1)] [] M (f_M_goesOn_B158 kH kx181 v1 M) := by
  unfold f_M_goesOn_B158
  refine tq_aload_n 0 (E := E_M_goesOn d) (pc := 158) (cks_at k_M_goesOn 80 rfl rfl) rfl ?_
  refine tq_iconst (E := E_M_goesOn d) (pc := 159) (cks_at k_M_goesOn 81 rfl rfl) ?_
  refine tq_V1 (E := E_M_goesOn d) (pc := 160) (cks_at k_M_goesOn 82 rfl rfl) mk_M_isOn lk_M_374 rc_78 (Nat.le_of_ble_eq_true rfl) (c_M_isOn (d + 2) 3 M) (k_I fun r19 M18 => ?_)
  refine tq_if_ne (E := E_M_goesOn d) (pc := 163) (tgt := 174) (cks_at k_M_goesOn 83 rfl rfl) (by decide) ?_ ?_
  · refine tq_aload_n 0 (E := E_M_goesOn d) (pc := 174) (cks_at k_M_goesOn 88 rfl rfl) rfl ?_
    refine tq_V0 (E := E_M_goesOn d) (pc := 175) (cks_at k_M_goesOn 89 rfl rfl) mk_M_drops lk_M_362 rc_78 (Nat.le_of_ble_eq_true rfl) (c_M_drops (d + 1) M18) (k_V fun M20 => ?_)
    refine tq_goto (tgt := 158) (E := E_M_goesOn d) (pc := 178) (cks_at k_M_goesOn 90 rfl rfl) (by decide) ?_
    exact tq_sub [0, 1] rfl (hkH v1 M20)
  · refine tq_aload_n 0 (E := E_M_goesOn d) (pc := 166) (cks_at k_M_goesOn 84 rfl rfl) rfl ?_
    refine tq_iconst (E := E_M_goesOn d) (pc := 167) (cks_at k_M_goesOn 85 rfl rfl) ?_
    refine tq_V1 (E := E_M_goesOn d) (pc := 168) (cks_at k_M_goesOn 86 rfl rfl) mk_M_isOn lk_M_374 rc_78 (Nat.le_of_ble_eq_true rfl) (c_M_isOn (d + 2) 4 M18) (k_I fun r22 M21 => ?_)
    refine tq_if_eq (E := E_M_goesOn d) (pc := 171) (tgt := 181) (cks_at k_M_goesOn 87 rfl rfl) (by decide) ?_ ?_
    · exact tq_sub [0, 1] rfl (hkx181 v1 M21)
    · refine tq_aload_n 0 (E := E_M_goesOn d) (pc := 174) (cks_at k_M_goesOn 88 rfl rfl) rfl ?_
      refine tq_V0 (E := E_M_goesOn d) (pc := 175) (cks_at k_M_goesOn 89 rfl rfl) mk_M_drops lk_M_362 rc_78 (Nat.le_of_ble_eq_true rfl) (c_M_drops (d + 1) M21) (k_V fun M23 => ?_)
      refine tq_goto (tgt := 158) (E := E_M_goesOn d) (pc := 178) (cks_at k_M_goesOn 90 rfl rfl) (by decide) ?_
      exact tq_sub [0, 1] rfl (hkH v1 M23)
def f_M_goesOn_L158 (kx181 : Int → Mm → Option (Int × Mm)) : Nat → Int × Mm → Option (Int × Mm) := lp fun kH s => f_M_goesOn_B158 (fun v1 M => kH (v1, M)) kx181 s.1 s.2
set_option maxRecDepth 20000 in
set_option maxHeartbeats 4000000 in
theorem w_M_goesOn_L158 (d : Nat) (kx181 : Int → Mm → Option (Int × Mm)) (hkx181 : ∀ (v1 : Int) (M : Mm), T (E_M_goesOn d) injI 181 [(0, .ref 78), (1, vI v1)] [] M (kx181 v1 M)) (n : Nat) (s : Int × Mm) : T (E_M_goesOn d) injI 158 [(0, .ref 78), (1, vI s.1)] [] s.2 (f_M_goesOn_L158 kx181 n s) :=
  tq_lp (fun s => [(0, .ref 78), (1, vI s.1)]) (fun s => s.2) (fun kH hH s => w_M_goesOn_B158 d (fun v1 M => kH (v1, M)) kx181 (fun v1 M => hH (v1, M)) hkx181 s.1 s.2) n s
def f_M_goesOn_J136 (M : Mm) : Option (Int × Mm) :=
  gd (0 ≤ i32 ((M 78 2) - 1) ∧ i32 ((M 78 2) - 1) < ((1600 : Nat) : Int)) <|
  if ¬ i32 (M 79 (i32 ((M 78 2) - 1)).toNat) = i32 42 then
    f_M_goesOn_L158 (fun v1 M24 => gd (0 ≤ i32 (M24 78 37) ∧ i32 (M24 78 37) < ((1700 : Nat) : Int)) <|
        bd (up M24 103 (i32 (M24 78 37)).toNat v1) (fun M25 =>
        bd (up M25 78 37 ((M25 78 37) + 1)) (fun M26 =>
        some (1, M26)))) FU (4, M)
  else
    f_M_goesOn_L158 (fun v1 M27 => gd (0 ≤ i32 (M27 78 37) ∧ i32 (M27 78 37) < ((1700 : Nat) : Int)) <|
        bd (up M27 103 (i32 (M27 78 37)).toNat v1) (fun M28 =>
        bd (up M28 78 37 ((M28 78 37) + 1)) (fun M29 =>
        some (1, M29)))) FU (3, M)
set_option maxRecDepth 20000 in
set_option maxHeartbeats 4000000 in
theorem w_M_goesOn_J136 (d : Nat) (M : Mm) : T (E_M_goesOn d) injI 136 [(0, .ref 78)] [] M (f_M_goesOn_J136 M) := by
  unfold f_M_goesOn_J136
  refine tq_aload_n 0 (E := E_M_goesOn d) (pc := 136) (cks_at k_M_goesOn 67 rfl rfl) rfl ?_
  refine tq_getR (j := 79) (E := E_M_goesOn d) (pc := 137) (cks_at k_M_goesOn 68 rfl rfl) fo_M_7 so_78 rfl sp_78_0 ?_
  refine tq_aload_n 0 (E := E_M_goesOn d) (pc := 140) (cks_at k_M_goesOn 69 rfl rfl) rfl ?_
  refine tq_getI (E := E_M_goesOn d) (pc := 141) (cks_at k_M_goesOn 70 rfl rfl) fo_M_231 so_78 rfl (by decide) ?_
  refine tq_iconst (E := E_M_goesOn d) (pc := 144) (cks_at k_M_goesOn 71 rfl rfl) ?_
  refine tq_isub (E := E_M_goesOn d) (pc := 145) (cks_at k_M_goesOn 72 rfl rfl) ?_
  refine tq_iald (E := E_M_goesOn d) (pc := 146) (cks_at k_M_goesOn 73 rfl rfl) sa_79 sn_79 ?_
  refine tq_bipush (E := E_M_goesOn d) (pc := 147) (cks_at k_M_goesOn 74 rfl rfl) (by decide) (by decide) ?_
  refine tq_icmp_ne (E := E_M_goesOn d) (pc := 149) (tgt := 156) (cks_at k_M_goesOn 75 rfl rfl) (by decide) ?_ ?_
  · refine tq_iconst (E := E_M_goesOn d) (pc := 156) (cks_at k_M_goesOn 78 rfl rfl) ?_
    refine tq_istore_n (E := E_M_goesOn d) (pc := 157) (cks_at k_M_goesOn 79 rfl rfl) (show 1 < 2 by decide) rfl ?_
    exact tq_sub [1, 0] rfl (w_M_goesOn_L158 d _ (fun v1 M24 => by
        refine tq_aload_n 0 (E := E_M_goesOn d) (pc := 181) (cks_at k_M_goesOn 91 rfl rfl) rfl ?_
        refine tq_getR (j := 103) (E := E_M_goesOn d) (pc := 182) (cks_at k_M_goesOn 92 rfl rfl) fo_M_88 so_78 rfl sp_78_36 ?_
        refine tq_aload_n 0 (E := E_M_goesOn d) (pc := 185) (cks_at k_M_goesOn 93 rfl rfl) rfl ?_
        refine tq_getI (E := E_M_goesOn d) (pc := 186) (cks_at k_M_goesOn 94 rfl rfl) fo_M_310 so_78 rfl (by decide) ?_
        refine tq_iload_n 1 (E := E_M_goesOn d) (pc := 189) (cks_at k_M_goesOn 95 rfl rfl) rfl ?_
        refine tq_iast (E := E_M_goesOn d) (pc := 190) (cks_at k_M_goesOn 96 rfl rfl) sa_103 sn_103 (fun M25 => ?_)
        refine tq_aload_n 0 (E := E_M_goesOn d) (pc := 191) (cks_at k_M_goesOn 97 rfl rfl) rfl ?_
        refine tq_dup (E := E_M_goesOn d) (pc := 192) (cks_at k_M_goesOn 98 rfl rfl) rfl ?_
        refine tq_getI (E := E_M_goesOn d) (pc := 193) (cks_at k_M_goesOn 99 rfl rfl) fo_M_310 so_78 rfl (by decide) ?_
        refine tq_iconst (E := E_M_goesOn d) (pc := 196) (cks_at k_M_goesOn 100 rfl rfl) ?_
        refine tq_iadd (E := E_M_goesOn d) (pc := 197) (cks_at k_M_goesOn 101 rfl rfl) ?_
        refine tq_putI (E := E_M_goesOn d) (pc := 198) (cks_at k_M_goesOn 102 rfl rfl) fo_M_310 so_78 rfl po_12_37 (fun M26 => ?_)
        refine tq_iconst (E := E_M_goesOn d) (pc := 201) (cks_at k_M_goesOn 103 rfl rfl) ?_
        exact tq_zretC (E := E_M_goesOn d) (pc := 202) (cks_at k_M_goesOn 104 rfl rfl) rfl (by decide)) FU (4, M))
  · refine tq_iconst (E := E_M_goesOn d) (pc := 152) (cks_at k_M_goesOn 76 rfl rfl) ?_
    refine tq_goto (tgt := 157) (E := E_M_goesOn d) (pc := 153) (cks_at k_M_goesOn 77 rfl rfl) (by decide) ?_
    refine tq_istore_n (E := E_M_goesOn d) (pc := 157) (cks_at k_M_goesOn 79 rfl rfl) (show 1 < 2 by decide) rfl ?_
    exact tq_sub [1, 0] rfl (w_M_goesOn_L158 d _ (fun v1 M27 => by
        refine tq_aload_n 0 (E := E_M_goesOn d) (pc := 181) (cks_at k_M_goesOn 91 rfl rfl) rfl ?_
        refine tq_getR (j := 103) (E := E_M_goesOn d) (pc := 182) (cks_at k_M_goesOn 92 rfl rfl) fo_M_88 so_78 rfl sp_78_36 ?_
        refine tq_aload_n 0 (E := E_M_goesOn d) (pc := 185) (cks_at k_M_goesOn 93 rfl rfl) rfl ?_
        refine tq_getI (E := E_M_goesOn d) (pc := 186) (cks_at k_M_goesOn 94 rfl rfl) fo_M_310 so_78 rfl (by decide) ?_
        refine tq_iload_n 1 (E := E_M_goesOn d) (pc := 189) (cks_at k_M_goesOn 95 rfl rfl) rfl ?_
        refine tq_iast (E := E_M_goesOn d) (pc := 190) (cks_at k_M_goesOn 96 rfl rfl) sa_103 sn_103 (fun M28 => ?_)
        refine tq_aload_n 0 (E := E_M_goesOn d) (pc := 191) (cks_at k_M_goesOn 97 rfl rfl) rfl ?_
        refine tq_dup (E := E_M_goesOn d) (pc := 192) (cks_at k_M_goesOn 98 rfl rfl) rfl ?_
        refine tq_getI (E := E_M_goesOn d) (pc := 193) (cks_at k_M_goesOn 99 rfl rfl) fo_M_310 so_78 rfl (by decide) ?_
        refine tq_iconst (E := E_M_goesOn d) (pc := 196) (cks_at k_M_goesOn 100 rfl rfl) ?_
        refine tq_iadd (E := E_M_goesOn d) (pc := 197) (cks_at k_M_goesOn 101 rfl rfl) ?_
        refine tq_putI (E := E_M_goesOn d) (pc := 198) (cks_at k_M_goesOn 102 rfl rfl) fo_M_310 so_78 rfl po_12_37 (fun M29 => ?_)
        refine tq_iconst (E := E_M_goesOn d) (pc := 201) (cks_at k_M_goesOn 103 rfl rfl) ?_
        exact tq_zretC (E := E_M_goesOn d) (pc := 202) (cks_at k_M_goesOn 104 rfl rfl) rfl (by decide)) FU (3, M))
def f_M_goesOn_B243 (kH : Int → Mm → Option (Int × Mm)) (kx282 : Int → Mm → Option (Int × Mm)) (v1 : Int) (M : Mm) : Option (Int × Mm) :=
  bI (f_M_isOn 3 M) (fun r35 M34 =>
  if ¬ i32 r35 = 0 then
    bV (f_M_drops M34) (fun M36 =>
    kH v1 M36)
  else
    bI (f_M_isOn 4 M34) (fun r38 M37 =>
    if ¬ i32 r38 = 0 then
      bV (f_M_drops M37) (fun M39 =>
      kH v1 M39)
    else
      bI (f_M_isOn 1 M37) (fun r41 M40 =>
      if ¬ i32 r41 = 0 then
        bV (f_M_drops M40) (fun M42 =>
        kH v1 M42)
      else
        bI (f_M_isOn 2 M40) (fun r44 M43 =>
        if i32 r44 = 0 then
          kx282 v1 M43
        else
          bV (f_M_drops M43) (fun M45 =>
          kH v1 M45)))))
set_option maxRecDepth 20000 in
set_option maxHeartbeats 4000000 in
theorem w_M_goesOn_B243 (d : Nat) (kH : Int → Mm → Option (Int × Mm)) (kx282 : Int → Mm → Option (Int × Mm)) (hkH : ∀ (v1 : Int) (M : Mm), T (E_M_goesOn d) injI 243 [(0, .ref 78), (1, vI v1)] [] M (kH v1 M)) (hkx282 : ∀ (v1 : Int) (M : Mm), T (E_M_goesOn d) injI 282 [(0, .ref 78), (1, vI v1)] [] M (kx282 v1 M)) (v1 : Int) (M : Mm) : T (E_M_goesOn d) injI 243 [(0, .ref 78), (1, vI v1)] [] M (f_M_goesOn_B243 kH kx282 v1 M) := by
  unfold f_M_goesOn_B243
  refine tq_aload_n 0 (E := E_M_goesOn d) (pc := 243) (cks_at k_M_goesOn 126 rfl rfl) rfl ?_
  refine tq_iconst (E := E_M_goesOn d) (pc := 244) (cks_at k_M_goesOn 127 rfl rfl) ?_
  refine tq_V1 (E := E_M_goesOn d) (pc := 245) (cks_at k_M_goesOn 128 rfl rfl) mk_M_isOn lk_M_374 rc_78 (Nat.le_of_ble_eq_true rfl) (c_M_isOn (d + 2) 3 M) (k_I fun r35 M34 => ?_)
  refine tq_if_ne (E := E_M_goesOn d) (pc := 248) (tgt := 275) (cks_at k_M_goesOn 129 rfl rfl) (by decide) ?_ ?_
  · refine tq_aload_n 0 (E := E_M_goesOn d) (pc := 275) (cks_at k_M_goesOn 142 rfl rfl) rfl ?_
    refine tq_V0 (E := E_M_goesOn d) (pc := 276) (cks_at k_M_goesOn 143 rfl rfl) mk_M_drops lk_M_362 rc_78 (Nat.le_of_ble_eq_true rfl) (c_M_drops (d + 1) M34) (k_V fun M36 => ?_)
    refine tq_goto (tgt := 243) (E := E_M_goesOn d) (pc := 279) (cks_at k_M_goesOn 144 rfl rfl) (by decide) ?_
    exact tq_sub [0, 1] rfl (hkH v1 M36)
  · refine tq_aload_n 0 (E := E_M_goesOn d) (pc := 251) (cks_at k_M_goesOn 130 rfl rfl) rfl ?_
    refine tq_iconst (E := E_M_goesOn d) (pc := 252) (cks_at k_M_goesOn 131 rfl rfl) ?_
    refine tq_V1 (E := E_M_goesOn d) (pc := 253) (cks_at k_M_goesOn 132 rfl rfl) mk_M_isOn lk_M_374 rc_78 (Nat.le_of_ble_eq_true rfl) (c_M_isOn (d + 2) 4 M34) (k_I fun r38 M37 => ?_)
    refine tq_if_ne (E := E_M_goesOn d) (pc := 256) (tgt := 275) (cks_at k_M_goesOn 133 rfl rfl) (by decide) ?_ ?_
    · refine tq_aload_n 0 (E := E_M_goesOn d) (pc := 275) (cks_at k_M_goesOn 142 rfl rfl) rfl ?_
      refine tq_V0 (E := E_M_goesOn d) (pc := 276) (cks_at k_M_goesOn 143 rfl rfl) mk_M_drops lk_M_362 rc_78 (Nat.le_of_ble_eq_true rfl) (c_M_drops (d + 1) M37) (k_V fun M39 => ?_)
      refine tq_goto (tgt := 243) (E := E_M_goesOn d) (pc := 279) (cks_at k_M_goesOn 144 rfl rfl) (by decide) ?_
      exact tq_sub [0, 1] rfl (hkH v1 M39)
    · refine tq_aload_n 0 (E := E_M_goesOn d) (pc := 259) (cks_at k_M_goesOn 134 rfl rfl) rfl ?_
      refine tq_iconst (E := E_M_goesOn d) (pc := 260) (cks_at k_M_goesOn 135 rfl rfl) ?_
      refine tq_V1 (E := E_M_goesOn d) (pc := 261) (cks_at k_M_goesOn 136 rfl rfl) mk_M_isOn lk_M_374 rc_78 (Nat.le_of_ble_eq_true rfl) (c_M_isOn (d + 2) 1 M37) (k_I fun r41 M40 => ?_)
      refine tq_if_ne (E := E_M_goesOn d) (pc := 264) (tgt := 275) (cks_at k_M_goesOn 137 rfl rfl) (by decide) ?_ ?_
      · refine tq_aload_n 0 (E := E_M_goesOn d) (pc := 275) (cks_at k_M_goesOn 142 rfl rfl) rfl ?_
        refine tq_V0 (E := E_M_goesOn d) (pc := 276) (cks_at k_M_goesOn 143 rfl rfl) mk_M_drops lk_M_362 rc_78 (Nat.le_of_ble_eq_true rfl) (c_M_drops (d + 1) M40) (k_V fun M42 => ?_)
        refine tq_goto (tgt := 243) (E := E_M_goesOn d) (pc := 279) (cks_at k_M_goesOn 144 rfl rfl) (by decide) ?_
        exact tq_sub [0, 1] rfl (hkH v1 M42)
      · refine tq_aload_n 0 (E := E_M_goesOn d) (pc := 267) (cks_at k_M_goesOn 138 rfl rfl) rfl ?_
        refine tq_iconst (E := E_M_goesOn d) (pc := 268) (cks_at k_M_goesOn 139 rfl rfl) ?_
        refine tq_V1 (E := E_M_goesOn d) (pc := 269) (cks_at k_M_goesOn 140 rfl rfl) mk_M_isOn lk_M_374 rc_78 (Nat.le_of_ble_eq_true rfl) (c_M_isOn (d + 2) 2 M40) (k_I fun r44 M43 => ?_)
        refine tq_if_eq (E := E_M_goesOn d) (pc := 272) (tgt := 282) (cks_at k_M_goesOn 141 rfl rfl) (by decide) ?_ ?_
        · exact tq_sub [0, 1] rfl (hkx282 v1 M43)
        · refine tq_aload_n 0 (E := E_M_goesOn d) (pc := 275) (cks_at k_M_goesOn 142 rfl rfl) rfl ?_
          refine tq_V0 (E := E_M_goesOn d) (pc := 276) (cks_at k_M_goesOn 143 rfl rfl) mk_M_drops lk_M_362 rc_78 (Nat.le_of_ble_eq_true rfl) (c_M_drops (d + 1) M43) (k_V fun M45 => ?_)
          refine tq_goto (tgt := 243) (E := E_M_goesOn d) (pc := 279) (cks_at k_M_goesOn 144 rfl rfl) (by decide) ?_
          exact tq_sub [0, 1] rfl (hkH v1 M45)
def f_M_goesOn_L243 (kx282 : Int → Mm → Option (Int × Mm)) : Nat → Int × Mm → Option (Int × Mm) := lp fun kH s => f_M_goesOn_B243 (fun v1 M => kH (v1, M)) kx282 s.1 s.2
set_option maxRecDepth 20000 in
set_option maxHeartbeats 4000000 in
theorem w_M_goesOn_L243 (d : Nat) (kx282 : Int → Mm → Option (Int × Mm)) (hkx282 : ∀ (v1 : Int) (M : Mm), T (E_M_goesOn d) injI 282 [(0, .ref 78), (1, vI v1)] [] M (kx282 v1 M)) (n : Nat) (s : Int × Mm) : T (E_M_goesOn d) injI 243 [(0, .ref 78), (1, vI s.1)] [] s.2 (f_M_goesOn_L243 kx282 n s) :=
  tq_lp (fun s => [(0, .ref 78), (1, vI s.1)]) (fun s => s.2) (fun kH hH s => w_M_goesOn_B243 d (fun v1 M => kH (v1, M)) kx282 (fun v1 M => hH (v1, M)) hkx282 s.1 s.2) n s
def f_M_goesOn_J221 (M : Mm) : Option (Int × Mm) :=
  gd (0 ≤ i32 ((M 78 2) - 1) ∧ i32 ((M 78 2) - 1) < ((1600 : Nat) : Int)) <|
  if ¬ i32 (M 79 (i32 ((M 78 2) - 1)).toNat) = i32 43 then
    f_M_goesOn_L243 (fun v1 M46 => gd (0 ≤ i32 (M46 78 37) ∧ i32 (M46 78 37) < ((1700 : Nat) : Int)) <|
        bd (up M46 103 (i32 (M46 78 37)).toNat v1) (fun M47 =>
        bd (up M47 78 37 ((M47 78 37) + 1)) (fun M48 =>
        some (1, M48)))) FU (2, M)
  else
    f_M_goesOn_L243 (fun v1 M49 => gd (0 ≤ i32 (M49 78 37) ∧ i32 (M49 78 37) < ((1700 : Nat) : Int)) <|
        bd (up M49 103 (i32 (M49 78 37)).toNat v1) (fun M50 =>
        bd (up M50 78 37 ((M50 78 37) + 1)) (fun M51 =>
        some (1, M51)))) FU (1, M)
set_option maxRecDepth 20000 in
set_option maxHeartbeats 4000000 in
theorem w_M_goesOn_J221 (d : Nat) (M : Mm) : T (E_M_goesOn d) injI 221 [(0, .ref 78)] [] M (f_M_goesOn_J221 M) := by
  unfold f_M_goesOn_J221
  refine tq_aload_n 0 (E := E_M_goesOn d) (pc := 221) (cks_at k_M_goesOn 113 rfl rfl) rfl ?_
  refine tq_getR (j := 79) (E := E_M_goesOn d) (pc := 222) (cks_at k_M_goesOn 114 rfl rfl) fo_M_7 so_78 rfl sp_78_0 ?_
  refine tq_aload_n 0 (E := E_M_goesOn d) (pc := 225) (cks_at k_M_goesOn 115 rfl rfl) rfl ?_
  refine tq_getI (E := E_M_goesOn d) (pc := 226) (cks_at k_M_goesOn 116 rfl rfl) fo_M_231 so_78 rfl (by decide) ?_
  refine tq_iconst (E := E_M_goesOn d) (pc := 229) (cks_at k_M_goesOn 117 rfl rfl) ?_
  refine tq_isub (E := E_M_goesOn d) (pc := 230) (cks_at k_M_goesOn 118 rfl rfl) ?_
  refine tq_iald (E := E_M_goesOn d) (pc := 231) (cks_at k_M_goesOn 119 rfl rfl) sa_79 sn_79 ?_
  refine tq_bipush (E := E_M_goesOn d) (pc := 232) (cks_at k_M_goesOn 120 rfl rfl) (by decide) (by decide) ?_
  refine tq_icmp_ne (E := E_M_goesOn d) (pc := 234) (tgt := 241) (cks_at k_M_goesOn 121 rfl rfl) (by decide) ?_ ?_
  · refine tq_iconst (E := E_M_goesOn d) (pc := 241) (cks_at k_M_goesOn 124 rfl rfl) ?_
    refine tq_istore_n (E := E_M_goesOn d) (pc := 242) (cks_at k_M_goesOn 125 rfl rfl) (show 1 < 2 by decide) rfl ?_
    exact tq_sub [1, 0] rfl (w_M_goesOn_L243 d _ (fun v1 M46 => by
        refine tq_aload_n 0 (E := E_M_goesOn d) (pc := 282) (cks_at k_M_goesOn 145 rfl rfl) rfl ?_
        refine tq_getR (j := 103) (E := E_M_goesOn d) (pc := 283) (cks_at k_M_goesOn 146 rfl rfl) fo_M_88 so_78 rfl sp_78_36 ?_
        refine tq_aload_n 0 (E := E_M_goesOn d) (pc := 286) (cks_at k_M_goesOn 147 rfl rfl) rfl ?_
        refine tq_getI (E := E_M_goesOn d) (pc := 287) (cks_at k_M_goesOn 148 rfl rfl) fo_M_310 so_78 rfl (by decide) ?_
        refine tq_iload_n 1 (E := E_M_goesOn d) (pc := 290) (cks_at k_M_goesOn 149 rfl rfl) rfl ?_
        refine tq_iast (E := E_M_goesOn d) (pc := 291) (cks_at k_M_goesOn 150 rfl rfl) sa_103 sn_103 (fun M47 => ?_)
        refine tq_aload_n 0 (E := E_M_goesOn d) (pc := 292) (cks_at k_M_goesOn 151 rfl rfl) rfl ?_
        refine tq_dup (E := E_M_goesOn d) (pc := 293) (cks_at k_M_goesOn 152 rfl rfl) rfl ?_
        refine tq_getI (E := E_M_goesOn d) (pc := 294) (cks_at k_M_goesOn 153 rfl rfl) fo_M_310 so_78 rfl (by decide) ?_
        refine tq_iconst (E := E_M_goesOn d) (pc := 297) (cks_at k_M_goesOn 154 rfl rfl) ?_
        refine tq_iadd (E := E_M_goesOn d) (pc := 298) (cks_at k_M_goesOn 155 rfl rfl) ?_
        refine tq_putI (E := E_M_goesOn d) (pc := 299) (cks_at k_M_goesOn 156 rfl rfl) fo_M_310 so_78 rfl po_12_37 (fun M48 => ?_)
        refine tq_iconst (E := E_M_goesOn d) (pc := 302) (cks_at k_M_goesOn 157 rfl rfl) ?_
        exact tq_zretC (E := E_M_goesOn d) (pc := 303) (cks_at k_M_goesOn 158 rfl rfl) rfl (by decide)) FU (2, M))
  · refine tq_iconst (E := E_M_goesOn d) (pc := 237) (cks_at k_M_goesOn 122 rfl rfl) ?_
    refine tq_goto (tgt := 242) (E := E_M_goesOn d) (pc := 238) (cks_at k_M_goesOn 123 rfl rfl) (by decide) ?_
    refine tq_istore_n (E := E_M_goesOn d) (pc := 242) (cks_at k_M_goesOn 125 rfl rfl) (show 1 < 2 by decide) rfl ?_
    exact tq_sub [1, 0] rfl (w_M_goesOn_L243 d _ (fun v1 M49 => by
        refine tq_aload_n 0 (E := E_M_goesOn d) (pc := 282) (cks_at k_M_goesOn 145 rfl rfl) rfl ?_
        refine tq_getR (j := 103) (E := E_M_goesOn d) (pc := 283) (cks_at k_M_goesOn 146 rfl rfl) fo_M_88 so_78 rfl sp_78_36 ?_
        refine tq_aload_n 0 (E := E_M_goesOn d) (pc := 286) (cks_at k_M_goesOn 147 rfl rfl) rfl ?_
        refine tq_getI (E := E_M_goesOn d) (pc := 287) (cks_at k_M_goesOn 148 rfl rfl) fo_M_310 so_78 rfl (by decide) ?_
        refine tq_iload_n 1 (E := E_M_goesOn d) (pc := 290) (cks_at k_M_goesOn 149 rfl rfl) rfl ?_
        refine tq_iast (E := E_M_goesOn d) (pc := 291) (cks_at k_M_goesOn 150 rfl rfl) sa_103 sn_103 (fun M50 => ?_)
        refine tq_aload_n 0 (E := E_M_goesOn d) (pc := 292) (cks_at k_M_goesOn 151 rfl rfl) rfl ?_
        refine tq_dup (E := E_M_goesOn d) (pc := 293) (cks_at k_M_goesOn 152 rfl rfl) rfl ?_
        refine tq_getI (E := E_M_goesOn d) (pc := 294) (cks_at k_M_goesOn 153 rfl rfl) fo_M_310 so_78 rfl (by decide) ?_
        refine tq_iconst (E := E_M_goesOn d) (pc := 297) (cks_at k_M_goesOn 154 rfl rfl) ?_
        refine tq_iadd (E := E_M_goesOn d) (pc := 298) (cks_at k_M_goesOn 155 rfl rfl) ?_
        refine tq_putI (E := E_M_goesOn d) (pc := 299) (cks_at k_M_goesOn 156 rfl rfl) fo_M_310 so_78 rfl po_12_37 (fun M51 => ?_)
        refine tq_iconst (E := E_M_goesOn d) (pc := 302) (cks_at k_M_goesOn 157 rfl rfl) ?_
        exact tq_zretC (E := E_M_goesOn d) (pc := 303) (cks_at k_M_goesOn 158 rfl rfl) rfl (by decide)) FU (1, M))
def f_M_goesOn_J322 (M : Mm) : Option (Int × Mm) :=
  bV (f_M_asksSign 44 M) (fun M56 =>
  if i32 (M56 78 5) = 0 then
    bV (f_M_dropsToMark M56) (fun M57 =>
    gd (0 ≤ i32 ((M57 78 37) - 1) ∧ i32 ((M57 78 37) - 1) < ((1700 : Nat) : Int)) <|
    gd (0 ≤ i32 ((M57 78 37) - 1) ∧ i32 ((M57 78 37) - 1) < ((1700 : Nat) : Int)) <|
    bd (up M57 103 (i32 ((M57 78 37) - 1)).toNat ((M57 103 (i32 ((M57 78 37) - 1)).toNat) + 2)) (fun M58 =>
    some (1, M58)))
  else
    some (0, M56))
set_option maxRecDepth 20000 in
set_option maxHeartbeats 4000000 in
theorem w_M_goesOn_J322 (d : Nat) (M : Mm) : T (E_M_goesOn d) injI 322 [(0, .ref 78)] [] M (f_M_goesOn_J322 M) := by
  unfold f_M_goesOn_J322
  refine tq_aload_n 0 (E := E_M_goesOn d) (pc := 322) (cks_at k_M_goesOn 167 rfl rfl) rfl ?_
  refine tq_bipush (E := E_M_goesOn d) (pc := 323) (cks_at k_M_goesOn 168 rfl rfl) (by decide) (by decide) ?_
  refine tq_V1 (E := E_M_goesOn d) (pc := 325) (cks_at k_M_goesOn 169 rfl rfl) mk_M_asksSign lk_M_338 rc_78 (Nat.le_of_ble_eq_true rfl) (c_M_asksSign (d + 0) 44 M) (k_V fun M56 => ?_)
  refine tq_aload_n 0 (E := E_M_goesOn d) (pc := 328) (cks_at k_M_goesOn 170 rfl rfl) rfl ?_
  refine tq_getI (E := E_M_goesOn d) (pc := 329) (cks_at k_M_goesOn 171 rfl rfl) fo_M_225 so_78 rfl (by decide) ?_
  refine tq_if_eq (E := E_M_goesOn d) (pc := 332) (tgt := 337) (cks_at k_M_goesOn 172 rfl rfl) (by decide) ?_ ?_
  · refine tq_aload_n 0 (E := E_M_goesOn d) (pc := 337) (cks_at k_M_goesOn 175 rfl rfl) rfl ?_
    refine tq_V0 (E := E_M_goesOn d) (pc := 338) (cks_at k_M_goesOn 176 rfl rfl) mk_M_dropsToMark lk_M_371 rc_78 (Nat.le_of_ble_eq_true rfl) (c_M_dropsToMark (d + 0) M56) (k_V fun M57 => ?_)
    refine tq_aload_n 0 (E := E_M_goesOn d) (pc := 341) (cks_at k_M_goesOn 177 rfl rfl) rfl ?_
    refine tq_getR (j := 103) (E := E_M_goesOn d) (pc := 342) (cks_at k_M_goesOn 178 rfl rfl) fo_M_88 so_78 rfl sp_78_36 ?_
    refine tq_aload_n 0 (E := E_M_goesOn d) (pc := 345) (cks_at k_M_goesOn 179 rfl rfl) rfl ?_
    refine tq_getI (E := E_M_goesOn d) (pc := 346) (cks_at k_M_goesOn 180 rfl rfl) fo_M_310 so_78 rfl (by decide) ?_
    refine tq_iconst (E := E_M_goesOn d) (pc := 349) (cks_at k_M_goesOn 181 rfl rfl) ?_
    refine tq_isub (E := E_M_goesOn d) (pc := 350) (cks_at k_M_goesOn 182 rfl rfl) ?_
    refine tq_dup2 (E := E_M_goesOn d) (pc := 351) (cks_at k_M_goesOn 183 rfl rfl) rfl rfl ?_
    refine tq_iald (E := E_M_goesOn d) (pc := 352) (cks_at k_M_goesOn 184 rfl rfl) sa_103 sn_103 ?_
    refine tq_iconst (E := E_M_goesOn d) (pc := 353) (cks_at k_M_goesOn 185 rfl rfl) ?_
    refine tq_iadd (E := E_M_goesOn d) (pc := 354) (cks_at k_M_goesOn 186 rfl rfl) ?_
    refine tq_iast (E := E_M_goesOn d) (pc := 355) (cks_at k_M_goesOn 187 rfl rfl) sa_103 sn_103 (fun M58 => ?_)
    refine tq_iconst (E := E_M_goesOn d) (pc := 356) (cks_at k_M_goesOn 188 rfl rfl) ?_
    exact tq_zretC (E := E_M_goesOn d) (pc := 357) (cks_at k_M_goesOn 189 rfl rfl) rfl (by decide)
  · refine tq_iconst (E := E_M_goesOn d) (pc := 335) (cks_at k_M_goesOn 173 rfl rfl) ?_
    exact tq_zretC (E := E_M_goesOn d) (pc := 336) (cks_at k_M_goesOn 174 rfl rfl) rfl (by decide)
def f_M_goesOn_J118 (M : Mm) : Option (Int × Mm) :=
  bI (f_M_takesSign 42 M) (fun r17 M16 =>
  if ¬ i32 r17 = 0 then
    f_M_goesOn_J136 M16
  else
    bI (f_M_takesSign 47 M16) (fun r31 M30 =>
    if i32 r31 = 0 then
      bI (f_M_takesSign 43 M30) (fun r33 M32 =>
      if ¬ i32 r33 = 0 then
        f_M_goesOn_J221 M32
      else
        bI (f_M_takesSign 45 M32) (fun r53 M52 =>
        if i32 r53 = 0 then
          bI (f_M_waitsLast M52) (fun r55 M54 =>
          if i32 r55 = i32 21 then
            f_M_goesOn_J322 M54
          else
            bI (f_M_waitsLast M54) (fun r60 M59 =>
            if ¬ i32 r60 = i32 22 then
              bI (f_M_waitsLast M59) (fun r62 M61 =>
              if i32 r62 = i32 ((-1)) then
                some (0, M61)
              else
                if ¬ i32 (M61 78 5) = 0 then
                  some (0, M61)
                else
                  bV (f_M_fail 1 (M61 78 2) M61) (fun M63 =>
                  some (0, M63)))
            else
              f_M_goesOn_J322 M59))
        else
          f_M_goesOn_J221 M52))
    else
      f_M_goesOn_J136 M30))
set_option maxRecDepth 20000 in
set_option maxHeartbeats 4000000 in
theorem w_M_goesOn_J118 (d : Nat) (M : Mm) : T (E_M_goesOn d) injI 118 [(0, .ref 78)] [] M (f_M_goesOn_J118 M) := by
  unfold f_M_goesOn_J118
  refine tq_aload_n 0 (E := E_M_goesOn d) (pc := 118) (cks_at k_M_goesOn 59 rfl rfl) rfl ?_
  refine tq_bipush (E := E_M_goesOn d) (pc := 119) (cks_at k_M_goesOn 60 rfl rfl) (by decide) (by decide) ?_
  refine tq_V1 (E := E_M_goesOn d) (pc := 121) (cks_at k_M_goesOn 61 rfl rfl) mk_M_takesSign lk_M_259 rc_78 (Nat.le_of_ble_eq_true rfl) (c_M_takesSign (d + 1) 42 M) (k_I fun r17 M16 => ?_)
  refine tq_if_ne (E := E_M_goesOn d) (pc := 124) (tgt := 136) (cks_at k_M_goesOn 62 rfl rfl) (by decide) ?_ ?_
  · exact tq_sub [0] rfl (w_M_goesOn_J136 d M16)
  · refine tq_aload_n 0 (E := E_M_goesOn d) (pc := 127) (cks_at k_M_goesOn 63 rfl rfl) rfl ?_
    refine tq_bipush (E := E_M_goesOn d) (pc := 128) (cks_at k_M_goesOn 64 rfl rfl) (by decide) (by decide) ?_
    refine tq_V1 (E := E_M_goesOn d) (pc := 130) (cks_at k_M_goesOn 65 rfl rfl) mk_M_takesSign lk_M_259 rc_78 (Nat.le_of_ble_eq_true rfl) (c_M_takesSign (d + 1) 47 M16) (k_I fun r31 M30 => ?_)
    refine tq_if_eq (E := E_M_goesOn d) (pc := 133) (tgt := 203) (cks_at k_M_goesOn 66 rfl rfl) (by decide) ?_ ?_
    · refine tq_aload_n 0 (E := E_M_goesOn d) (pc := 203) (cks_at k_M_goesOn 105 rfl rfl) rfl ?_
      refine tq_bipush (E := E_M_goesOn d) (pc := 204) (cks_at k_M_goesOn 106 rfl rfl) (by decide) (by decide) ?_
      refine tq_V1 (E := E_M_goesOn d) (pc := 206) (cks_at k_M_goesOn 107 rfl rfl) mk_M_takesSign lk_M_259 rc_78 (Nat.le_of_ble_eq_true rfl) (c_M_takesSign (d + 1) 43 M30) (k_I fun r33 M32 => ?_)
      refine tq_if_ne (E := E_M_goesOn d) (pc := 209) (tgt := 221) (cks_at k_M_goesOn 108 rfl rfl) (by decide) ?_ ?_
      · exact tq_sub [0] rfl (w_M_goesOn_J221 d M32)
      · refine tq_aload_n 0 (E := E_M_goesOn d) (pc := 212) (cks_at k_M_goesOn 109 rfl rfl) rfl ?_
        refine tq_bipush (E := E_M_goesOn d) (pc := 213) (cks_at k_M_goesOn 110 rfl rfl) (by decide) (by decide) ?_
        refine tq_V1 (E := E_M_goesOn d) (pc := 215) (cks_at k_M_goesOn 111 rfl rfl) mk_M_takesSign lk_M_259 rc_78 (Nat.le_of_ble_eq_true rfl) (c_M_takesSign (d + 1) 45 M32) (k_I fun r53 M52 => ?_)
        refine tq_if_eq (E := E_M_goesOn d) (pc := 218) (tgt := 304) (cks_at k_M_goesOn 112 rfl rfl) (by decide) ?_ ?_
        · refine tq_aload_n 0 (E := E_M_goesOn d) (pc := 304) (cks_at k_M_goesOn 159 rfl rfl) rfl ?_
          refine tq_V0 (E := E_M_goesOn d) (pc := 305) (cks_at k_M_goesOn 160 rfl rfl) mk_M_waitsLast lk_M_368 rc_78 (Nat.le_of_ble_eq_true rfl) (c_M_waitsLast (d + 1) M52) (k_I fun r55 M54 => ?_)
          refine tq_bipush (E := E_M_goesOn d) (pc := 308) (cks_at k_M_goesOn 161 rfl rfl) (by decide) (by decide) ?_
          refine tq_icmp_eq (E := E_M_goesOn d) (pc := 310) (tgt := 322) (cks_at k_M_goesOn 162 rfl rfl) (by decide) ?_ ?_
          · exact tq_sub [0] rfl (w_M_goesOn_J322 d M54)
          · refine tq_aload_n 0 (E := E_M_goesOn d) (pc := 313) (cks_at k_M_goesOn 163 rfl rfl) rfl ?_
            refine tq_V0 (E := E_M_goesOn d) (pc := 314) (cks_at k_M_goesOn 164 rfl rfl) mk_M_waitsLast lk_M_368 rc_78 (Nat.le_of_ble_eq_true rfl) (c_M_waitsLast (d + 1) M54) (k_I fun r60 M59 => ?_)
            refine tq_bipush (E := E_M_goesOn d) (pc := 317) (cks_at k_M_goesOn 165 rfl rfl) (by decide) (by decide) ?_
            refine tq_icmp_ne (E := E_M_goesOn d) (pc := 319) (tgt := 358) (cks_at k_M_goesOn 166 rfl rfl) (by decide) ?_ ?_
            · refine tq_aload_n 0 (E := E_M_goesOn d) (pc := 358) (cks_at k_M_goesOn 190 rfl rfl) rfl ?_
              refine tq_V0 (E := E_M_goesOn d) (pc := 359) (cks_at k_M_goesOn 191 rfl rfl) mk_M_waitsLast lk_M_368 rc_78 (Nat.le_of_ble_eq_true rfl) (c_M_waitsLast (d + 1) M59) (k_I fun r62 M61 => ?_)
              refine tq_iconst (E := E_M_goesOn d) (pc := 362) (cks_at k_M_goesOn 192 rfl rfl) ?_
              refine tq_icmp_eq (E := E_M_goesOn d) (pc := 363) (tgt := 382) (cks_at k_M_goesOn 193 rfl rfl) (by decide) ?_ ?_
              · refine tq_iconst (E := E_M_goesOn d) (pc := 382) (cks_at k_M_goesOn 202 rfl rfl) ?_
                exact tq_zretC (E := E_M_goesOn d) (pc := 383) (cks_at k_M_goesOn 203 rfl rfl) rfl (by decide)
              · refine tq_aload_n 0 (E := E_M_goesOn d) (pc := 366) (cks_at k_M_goesOn 194 rfl rfl) rfl ?_
                refine tq_getI (E := E_M_goesOn d) (pc := 367) (cks_at k_M_goesOn 195 rfl rfl) fo_M_225 so_78 rfl (by decide) ?_
                refine tq_if_ne (E := E_M_goesOn d) (pc := 370) (tgt := 382) (cks_at k_M_goesOn 196 rfl rfl) (by decide) ?_ ?_
                · refine tq_iconst (E := E_M_goesOn d) (pc := 382) (cks_at k_M_goesOn 202 rfl rfl) ?_
                  exact tq_zretC (E := E_M_goesOn d) (pc := 383) (cks_at k_M_goesOn 203 rfl rfl) rfl (by decide)
                · refine tq_aload_n 0 (E := E_M_goesOn d) (pc := 373) (cks_at k_M_goesOn 197 rfl rfl) rfl ?_
                  refine tq_iconst (E := E_M_goesOn d) (pc := 374) (cks_at k_M_goesOn 198 rfl rfl) ?_
                  refine tq_aload_n 0 (E := E_M_goesOn d) (pc := 375) (cks_at k_M_goesOn 199 rfl rfl) rfl ?_
                  refine tq_getI (E := E_M_goesOn d) (pc := 376) (cks_at k_M_goesOn 200 rfl rfl) fo_M_231 so_78 rfl (by decide) ?_
                  refine tq_V2 (E := E_M_goesOn d) (pc := 379) (cks_at k_M_goesOn 201 rfl rfl) mk_M_fail lk_M_255 rc_78 (Nat.le_of_ble_eq_true rfl) (c_M_fail (d + 2) 1 (M61 78 2) M61) (k_V fun M63 => ?_)
                  refine tq_iconst (E := E_M_goesOn d) (pc := 382) (cks_at k_M_goesOn 202 rfl rfl) ?_
                  exact tq_zretC (E := E_M_goesOn d) (pc := 383) (cks_at k_M_goesOn 203 rfl rfl) rfl (by decide)
            · exact tq_sub [0] rfl (w_M_goesOn_J322 d M59)
        · exact tq_sub [0] rfl (w_M_goesOn_J221 d M52)
    · exact tq_sub [0] rfl (w_M_goesOn_J136 d M30)
def f_M_goesOn (M : Mm) : Option (Int × Mm) :=
  f_M_goesOn_L0 (fun M15 => f_M_goesOn_J118 M15) FU M
set_option maxRecDepth 20000 in
set_option maxHeartbeats 4000000 in
theorem c_M_goesOn (d : Nat) (M : Mm) (Q : Option Value → Mm → Prop) (h : sat injI (f_M_goesOn M) Q) : Ct (d + 4) y_M_goesOn [.ref 78] M Q := by
  refine ct_in (d := d + 3) mk_M_goesOn (Nat.le_of_ble_eq_true rfl) (?_ : T (E_M_goesOn d) injI 0 [(0, .ref 78)] [] M (f_M_goesOn M)) h
  unfold f_M_goesOn
  exact tq_sub [0] rfl (w_M_goesOn_L0 d _ (fun M15 => by
      exact tq_sub [0] rfl (w_M_goesOn_J118 d M15)) FU M)
