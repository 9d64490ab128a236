abbrev E_M_widthBy (d : Nat) : Ev := (Ct (d + 3), "BreathTownModel", prog_14_method_58_code, 6, False, 0, (fun _ => 0), (Option.some Jvm.ClassFile.FieldType.int))
def f_M_widthBy (v1 : Int) (v2 : Int) (v3 : Int) (M : Mm) : Option (Int × Mm) :=
  bI (f_M_tideOf v1 v2 v3 M) (fun r2 M1 =>
  bd (up M1 107 0 r2) (fun M3 =>
  bI (f_M_roundOf v1 M3) (fun r5 M4 =>
  bd (up M4 107 1 r5) (fun M6 =>
  bd (up M6 107 2 ((i32 v2).tmod (i32 24))) (fun M7 =>
  bd (up M7 107 3 ((i32 v2).tdiv (i32 24))) (fun M8 =>
  gd (0 ≤ i32 (12 + v1) ∧ i32 (12 + v1) < ((24 : Nat) : Int)) <|
  gd (0 ≤ i32 (12 + v1) ∧ i32 (12 + v1) < ((24 : Nat) : Int)) <|
  bI (f_M_told (M8 104 (i32 (12 + v1)).toNat) (M8 105 (i32 (12 + v1)).toNat) M8) (fun r10 M9 =>
  if 0 ≤ i32 (cmp64 r10 0) then
    if i32 (cmp64 r10 99) ≤ 0 then
      some (r10, M9)
    else
      some (99, M9)
  else
    some (0, M9))))))))
set_option maxRecDepth 20000 in
set_option maxHeartbeats 4000000 in
theorem c_M_widthBy (d : Nat) (v1 : Int) (v2 : Int) (v3 : Int) (M : Mm) (Q : Option Value → Mm → Prop) (h : sat injI (f_M_widthBy v1 v2 v3 M) Q) : Ct (d + 4) y_M_widthBy [.ref 78, vI v1, vI v2, vI v3] M Q := by
  refine ct_in (d := d + 3) mk_M_widthBy (Nat.le_of_ble_eq_true rfl) (?_ : T (E_M_widthBy d) injI 0 [(0, .ref 78), (1, vI v1), (2, vI v2), (3, vI v3)] [] M (f_M_widthBy v1 v2 v3 M)) h
  unfold f_M_widthBy
  refine tq_aload_n 0 (E := E_M_widthBy d) (pc := 0) (cks_at k_M_widthBy 0 rfl rfl) rfl ?_
  refine tq_getR (j := 107) (E := E_M_widthBy d) (pc := 1) (cks_at k_M_widthBy 1 rfl rfl) fo_M_100 so_78 rfl sp_78_44 ?_
  refine tq_iconst (E := E_M_widthBy d) (pc := 4) (cks_at k_M_widthBy 2 rfl rfl) ?_
  refine tq_aload_n 0 (E := E_M_widthBy d) (pc := 5) (cks_at k_M_widthBy 3 rfl rfl) rfl ?_
  refine tq_iload_n 1 (E := E_M_widthBy d) (pc := 6) (cks_at k_M_widthBy 4 rfl rfl) rfl ?_
  refine tq_iload_n 2 (E := E_M_widthBy d) (pc := 7) (cks_at k_M_widthBy 5 rfl rfl) rfl ?_
  refine tq_iload_n 3 (E := E_M_widthBy d) (pc := 8) (cks_at k_M_widthBy 6 rfl rfl) rfl ?_
  refine tq_V3 (E := E_M_widthBy d) (pc := 9) (cks_at k_M_widthBy 7 rfl rfl) mk_M_tideOf lk_M_421 rc_78 (Nat.le_of_ble_eq_true rfl) (c_M_tideOf (d + 1) v1 v2 v3 M) (k_I fun r2 M1 => ?_)
  refine tq_iastC (E := E_M_widthBy d) (pc := 12) 0 (cks_at k_M_widthBy 8 rfl rfl) sa_107 sn_107 (by decide) (fun M3 => ?_)
  refine tq_aload_n 0 (E := E_M_widthBy d) (pc := 13) (cks_at k_M_widthBy 9 rfl rfl) rfl ?_
  refine tq_getR (j := 107) (E := E_M_widthBy d) (pc := 14) (cks_at k_M_widthBy 10 rfl rfl) fo_M_100 so_78 rfl sp_78_44 ?_
  refine tq_iconst (E := E_M_widthBy d) (pc := 17) (cks_at k_M_widthBy 11 rfl rfl) ?_
  refine tq_aload_n 0 (E := E_M_widthBy d) (pc := 18) (cks_at k_M_widthBy 12 rfl rfl) rfl ?_
  refine tq_iload_n 1 (E := E_M_widthBy d) (pc := 19) (cks_at k_M_widthBy 13 rfl rfl) rfl ?_
  refine tq_V1 (E := E_M_widthBy d) (pc := 20) (cks_at k_M_widthBy 14 rfl rfl) mk_M_roundOf lk_M_418 rc_78 (Nat.le_of_ble_eq_true rfl) (c_M_roundOf (d + 2) v1 M3) (k_I fun r5 M4 => ?_)
  refine tq_iastC (E := E_M_widthBy d) (pc := 23) 1 (cks_at k_M_widthBy 15 rfl rfl) sa_107 sn_107 (by decide) (fun M6 => ?_)
  refine tq_aload_n 0 (E := E_M_widthBy d) (pc := 24) (cks_at k_M_widthBy 16 rfl rfl) rfl ?_
  refine tq_getR (j := 107) (E := E_M_widthBy d) (pc := 25) (cks_at k_M_widthBy 17 rfl rfl) fo_M_100 so_78 rfl sp_78_44 ?_
  refine tq_iconst (E := E_M_widthBy d) (pc := 28) (cks_at k_M_widthBy 18 rfl rfl) ?_
  refine tq_iload_n 2 (E := E_M_widthBy d) (pc := 29) (cks_at k_M_widthBy 19 rfl rfl) rfl ?_
  refine tq_bipush (E := E_M_widthBy d) (pc := 30) (cks_at k_M_widthBy 20 rfl rfl) (by decide) (by decide) ?_
  refine tq_iremC (E := E_M_widthBy d) (pc := 32) (cks_at k_M_widthBy 21 rfl rfl) (by decide) ?_
  refine tq_iastC (E := E_M_widthBy d) (pc := 33) 2 (cks_at k_M_widthBy 22 rfl rfl) sa_107 sn_107 (by decide) (fun M7 => ?_)
  refine tq_aload_n 0 (E := E_M_widthBy d) (pc := 34) (cks_at k_M_widthBy 23 rfl rfl) rfl ?_
  refine tq_getR (j := 107) (E := E_M_widthBy d) (pc := 35) (cks_at k_M_widthBy 24 rfl rfl) fo_M_100 so_78 rfl sp_78_44 ?_
  refine tq_iconst (E := E_M_widthBy d) (pc := 38) (cks_at k_M_widthBy 25 rfl rfl) ?_
  refine tq_iload_n 2 (E := E_M_widthBy d) (pc := 39) (cks_at k_M_widthBy 26 rfl rfl) rfl ?_
  refine tq_bipush (E := E_M_widthBy d) (pc := 40) (cks_at k_M_widthBy 27 rfl rfl) (by decide) (by decide) ?_
  refine tq_idivC (E := E_M_widthBy d) (pc := 42) (cks_at k_M_widthBy 28 rfl rfl) (by decide) ?_
  refine tq_iastC (E := E_M_widthBy d) (pc := 43) 3 (cks_at k_M_widthBy 29 rfl rfl) sa_107 sn_107 (by decide) (fun M8 => ?_)
  refine tq_aload_n 0 (E := E_M_widthBy d) (pc := 44) (cks_at k_M_widthBy 30 rfl rfl) rfl ?_
  refine tq_aload_n 0 (E := E_M_widthBy d) (pc := 45) (cks_at k_M_widthBy 31 rfl rfl) rfl ?_
  refine tq_getR (j := 104) (E := E_M_widthBy d) (pc := 46) (cks_at k_M_widthBy 32 rfl rfl) fo_M_91 so_78 rfl sp_78_39 ?_
  refine tq_bipush (E := E_M_widthBy d) (pc := 49) (cks_at k_M_widthBy 33 rfl rfl) (by decide) (by decide) ?_
  refine tq_iload_n 1 (E := E_M_widthBy d) (pc := 51) (cks_at k_M_widthBy 34 rfl rfl) rfl ?_
  refine tq_iadd (E := E_M_widthBy d) (pc := 52) (cks_at k_M_widthBy 35 rfl rfl) ?_
  refine tq_iald (E := E_M_widthBy d) (pc := 53) (cks_at k_M_widthBy 36 rfl rfl) sa_104 sn_104 ?_
  refine tq_aload_n 0 (E := E_M_widthBy d) (pc := 54) (cks_at k_M_widthBy 37 rfl rfl) rfl ?_
  refine tq_getR (j := 105) (E := E_M_widthBy d) (pc := 55) (cks_at k_M_widthBy 38 rfl rfl) fo_M_94 so_78 rfl sp_78_40 ?_
  refine tq_bipush (E := E_M_widthBy d) (pc := 58) (cks_at k_M_widthBy 39 rfl rfl) (by decide) (by decide) ?_
  refine tq_iload_n 1 (E := E_M_widthBy d) (pc := 60) (cks_at k_M_widthBy 40 rfl rfl) rfl ?_
  refine tq_iadd (E := E_M_widthBy d) (pc := 61) (cks_at k_M_widthBy 41 rfl rfl) ?_
  refine tq_iald (E := E_M_widthBy d) (pc := 62) (cks_at k_M_widthBy 42 rfl rfl) sa_105 sn_105 ?_
  refine tq_V2 (E := E_M_widthBy d) (pc := 63) (cks_at k_M_widthBy 43 rfl rfl) mk_M_told lk_M_425 rc_78 (Nat.le_of_ble_eq_true rfl) (c_M_told (d + 0) (M8 104 (i32 (12 + v1)).toNat) (M8 105 (i32 (12 + v1)).toNat) M8) (k_J fun r10 M9 => ?_)
  refine tq_lstore (E := E_M_widthBy d) (pc := 66) (cks_at k_M_widthBy 44 rfl rfl) (show 4 + 1 < 6 by decide) rfl ?_
  refine tq_lload 0 (E := E_M_widthBy d) (pc := 68) (cks_at k_M_widthBy 45 rfl rfl) rfl ?_
  refine tq_lconst0 (E := E_M_widthBy d) (pc := 70) (cks_at k_M_widthBy 46 rfl rfl) ?_
  refine tq_lcmp (E := E_M_widthBy d) (pc := 71) (cks_at k_M_widthBy 47 rfl rfl) ?_
  refine tq_if_ge (E := E_M_widthBy d) (pc := 72) (tgt := 79) (cks_at k_M_widthBy 48 rfl rfl) (by decide) ?_ ?_
  · refine tq_lload 0 (E := E_M_widthBy d) (pc := 79) (cks_at k_M_widthBy 51 rfl rfl) rfl ?_
    refine tq_ldc2 (z := 99) (E := E_M_widthBy d) (pc := 81) (cks_at k_M_widthBy 52 rfl rfl) cst_M_429 ?_
    refine tq_lcmp (E := E_M_widthBy d) (pc := 84) (cks_at k_M_widthBy 53 rfl rfl) ?_
    refine tq_if_le (E := E_M_widthBy d) (pc := 85) (tgt := 93) (cks_at k_M_widthBy 54 rfl rfl) (by decide) ?_ ?_
    · refine tq_lload 0 (E := E_M_widthBy d) (pc := 93) (cks_at k_M_widthBy 57 rfl rfl) rfl ?_
      refine tq_l2i (E := E_M_widthBy d) (pc := 95) (cks_at k_M_widthBy 58 rfl rfl) ?_
      exact tq_iret (E := E_M_widthBy d) (pc := 96) (cks_at k_M_widthBy 59 rfl rfl) rfl
    · refine tq_bipush (E := E_M_widthBy d) (pc := 88) (cks_at k_M_widthBy 55 rfl rfl) (by decide) (by decide) ?_
      refine tq_goto (tgt := 96) (E := E_M_widthBy d) (pc := 90) (cks_at k_M_widthBy 56 rfl rfl) (by decide) ?_
      exact tq_iret (E := E_M_widthBy d) (pc := 96) (cks_at k_M_widthBy 59 rfl rfl) rfl
  · refine tq_iconst (E := E_M_widthBy d) (pc := 75) (cks_at k_M_widthBy 49 rfl rfl) ?_
    refine tq_goto (tgt := 96) (E := E_M_widthBy d) (pc := 76) (cks_at k_M_widthBy 50 rfl rfl) (by decide) ?_
    exact tq_iret (E := E_M_widthBy d) (pc := 96) (cks_at k_M_widthBy 59 rfl rfl) rfl
abbrev E_M_widthOf (d : Nat) : Ev := (Ct (d + 4), "BreathTownModel", prog_14_method_59_code, 3, False, 0, (fun _ => 0), (Option.some Jvm.ClassFile.FieldType.int))
def f_M_widthOf (v1 : Int) (v2 : Int) (M : Mm) : Option (Int × Mm) :=
  bI (f_M_shiftOf v1 M) (fun r2 M1 =>
  bI (f_M_widthBy v1 v2 r2 M1) (fun r4 M3 =>
  some (r4, M3)))
set_option maxRecDepth 20000 in
set_option maxHeartbeats 4000000 in
theorem c_M_widthOf (d : Nat) (v1 : Int) (v2 : Int) (M : Mm) (Q : Option Value → Mm → Prop) (h : sat injI (f_M_widthOf v1 v2 M) Q) : Ct (d + 5) y_M_widthOf [.ref 78, vI v1, vI v2] M Q := by
  refine ct_in (d := d + 4) mk_M_widthOf (Nat.le_of_ble_eq_true rfl) (?_ : T (E_M_widthOf d) injI 0 [(0, .ref 78), (1, vI v1), (2, vI v2)] [] M (f_M_widthOf v1 v2 M)) h
  unfold f_M_widthOf
  refine tq_aload_n 0 (E := E_M_widthOf d) (pc := 0) (cks_at k_M_widthOf 0 rfl rfl) rfl ?_
  refine tq_iload_n 1 (E := E_M_widthOf d) (pc := 1) (cks_at k_M_widthOf 1 rfl rfl) rfl ?_
  refine tq_iload_n 2 (E := E_M_widthOf d) (pc := 2) (cks_at k_M_widthOf 2 rfl rfl) rfl ?_
  refine tq_aload_n 0 (E := E_M_widthOf d) (pc := 3) (cks_at k_M_widthOf 3 rfl rfl) rfl ?_
  refine tq_iload_n 1 (E := E_M_widthOf d) (pc := 4) (cks_at k_M_widthOf 4 rfl rfl) rfl ?_
  refine tq_V1 (E := E_M_widthOf d) (pc := 5) (cks_at k_M_widthOf 5 rfl rfl) mk_M_shiftOf lk_M_431 rc_78 (Nat.le_of_ble_eq_true rfl) (c_M_shiftOf (d + 3) v1 M) (k_I fun r2 M1 => ?_)
  refine tq_V3 (E := E_M_widthOf d) (pc := 8) (cks_at k_M_widthOf 6 rfl rfl) mk_M_widthBy lk_M_434 rc_78 (Nat.le_of_ble_eq_true rfl) (c_M_widthBy (d + 0) v1 v2 r2 M1) (k_I fun r4 M3 => ?_)
  exact tq_iret (E := E_M_widthOf d) (pc := 11) (cks_at k_M_widthOf 7 rfl rfl) rfl
abbrev E_M_broadOf (d : Nat) : Ev := (Ct (d + 0), "BreathTownModel", prog_14_method_53_code, 2, False, 0, (fun _ => 0), (Option.some Jvm.ClassFile.FieldType.int))
def f_M_broadOf (v1 : Int) (M : Mm) : Option (Int × Mm) :=
  gd (0 ≤ i32 (18 + (3 * v1)) ∧ i32 (18 + (3 * v1)) < ((36 : Nat) : Int)) <|
  some (M 101 (i32 (18 + (3 * v1))).toNat, M)
set_option maxRecDepth 20000 in
set_option maxHeartbeats 4000000 in
theorem c_M_broadOf (d : Nat) (v1 : Int) (M : Mm) (Q : Option Value → Mm → Prop) (h : sat injI (f_M_broadOf v1 M) Q) : Ct (d + 1) y_M_broadOf [.ref 78, vI v1] M Q := by
  refine ct_in (d := d + 0) mk_M_broadOf (Nat.le_of_ble_eq_true rfl) (?_ : T (E_M_broadOf d) injI 0 [(0, .ref 78), (1, vI v1)] [] M (f_M_broadOf v1 M)) h
  unfold f_M_broadOf
  refine tq_aload_n 0 (E := E_M_broadOf d) (pc := 0) (cks_at k_M_broadOf 0 rfl rfl) rfl ?_
  refine tq_getR (j := 101) (E := E_M_broadOf d) (pc := 1) (cks_at k_M_broadOf 1 rfl rfl) fo_M_82 so_78 rfl sp_78_31 ?_
  refine tq_bipush (E := E_M_broadOf d) (pc := 4) (cks_at k_M_broadOf 2 rfl rfl) (by decide) (by decide) ?_
  refine tq_iconst (E := E_M_broadOf d) (pc := 6) (cks_at k_M_broadOf 3 rfl rfl) ?_
  refine tq_iload_n 1 (E := E_M_broadOf d) (pc := 7) (cks_at k_M_broadOf 4 rfl rfl) rfl ?_
  refine tq_imul (E := E_M_broadOf d) (pc := 8) (cks_at k_M_broadOf 5 rfl rfl) ?_
  refine tq_iadd (E := E_M_broadOf d) (pc := 9) (cks_at k_M_broadOf 6 rfl rfl) ?_
  refine tq_iald (E := E_M_broadOf d) (pc := 10) (cks_at k_M_broadOf 7 rfl rfl) sa_101 sn_101 ?_
  exact tq_iret (E := E_M_broadOf d) (pc := 11) (cks_at k_M_broadOf 8 rfl rfl) rfl
abbrev E_M_takesOf (d : Nat) : Ev := (Ct (d + 0), "BreathTownModel", prog_14_method_50_code, 2, False, 0, (fun _ => 0), (Option.some Jvm.ClassFile.FieldType.int))
def f_M_takesOf (v1 : Int) (M : Mm) : Option (Int × Mm) :=
  gd (0 ≤ i32 ((60 + (5 * v1)) + 2) ∧ i32 ((60 + (5 * v1)) + 2) < ((120 : Nat) : Int)) <|
  some (M 100 (i32 ((60 + (5 * v1)) + 2)).toNat, M)
set_option maxRecDepth 20000 in
set_option maxHeartbeats 4000000 in
theorem c_M_takesOf (d : Nat) (v1 : Int) (M : Mm) (Q : Option Value → Mm → Prop) (h : sat injI (f_M_takesOf v1 M) Q) : Ct (d + 1) y_M_takesOf [.ref 78, vI v1] M Q := by
  refine ct_in (d := d + 0) mk_M_takesOf (Nat.le_of_ble_eq_true rfl) (?_ : T (E_M_takesOf d) injI 0 [(0, .ref 78), (1, vI v1)] [] M (f_M_takesOf v1 M)) h
  unfold f_M_takesOf
  refine tq_aload_n 0 (E := E_M_takesOf d) (pc := 0) (cks_at k_M_takesOf 0 rfl rfl) rfl ?_
  refine tq_getR (j := 100) (E := E_M_takesOf d) (pc := 1) (cks_at k_M_takesOf 1 rfl rfl) fo_M_79 so_78 rfl sp_78_30 ?_
  refine tq_bipush (E := E_M_takesOf d) (pc := 4) (cks_at k_M_takesOf 2 rfl rfl) (by decide) (by decide) ?_
  refine tq_iconst (E := E_M_takesOf d) (pc := 6) (cks_at k_M_takesOf 3 rfl rfl) ?_
  refine tq_iload_n 1 (E := E_M_takesOf d) (pc := 7) (cks_at k_M_takesOf 4 rfl rfl) rfl ?_
  refine tq_imul (E := E_M_takesOf d) (pc := 8) (cks_at k_M_takesOf 5 rfl rfl) ?_
  refine tq_iadd (E := E_M_takesOf d) (pc := 9) (cks_at k_M_takesOf 6 rfl rfl) ?_
  refine tq_iconst (E := E_M_takesOf d) (pc := 10) (cks_at k_M_takesOf 7 rfl rfl) ?_
  refine tq_iadd (E := E_M_takesOf d) (pc := 11) (cks_at k_M_takesOf 8 rfl rfl) ?_
  refine tq_iald (E := E_M_takesOf d) (pc := 12) (cks_at k_M_takesOf 9 rfl rfl) sa_100 sn_100 ?_
  exact tq_iret (E := E_M_takesOf d) (pc := 13) (cks_at k_M_takesOf 10 rfl rfl) rfl
abbrev E_M_isWide (d : Nat) : Ev := (Ct (d + 5), "BreathTownModel", prog_14_method_60_code, 6, False, 0, (fun _ => 0), (Option.some Jvm.ClassFile.FieldType.boolean))
def f_M_isWide_B3 (kH : Int → Int → Int → Int → Int → Mm → Option (Int × Mm)) (v1 v2 v3 v4 v5 : Int) (M : Mm) : Option (Int × Mm) :=
  if i32 v4 ≤ i32 v5 then
    some (1, M)
  else
    bI (f_M_widthOf v1 (v3 + v5) M) (fun r2 M1 =>
    if i32 v2 ≤ i32 r2 then
      kH v1 v2 v3 v4 (v5 + 1) M1
    else
      some (0, M1))
set_option maxRecDepth 20000 in
set_option maxHeartbeats 4000000 in
theorem w_M_isWide_B3 (d : Nat) (kH : Int → Int → Int → Int → Int → Mm → Option (Int × Mm)) (hkH : ∀ (v1 v2 v3 v4 v5 : Int) (M : Mm), T (E_M_isWide d) injI 3 [(0, .ref 78), (1, vI v1), (2, vI v2), (3, vI v3), (4, vI v4), (5, vI v5)] [] M (kH v1 v2 v3 v4 v5 M)) (v1 v2 v3 v4 v5 : Int) (M : Mm) : T (E_M_isWide d) injI 3 [(0, .ref 78), (1, vI v1), (2, vI v2), (3, vI v3), (4, vI v4), (5, vI v5)] [] M (f_M_isWide_B3 kH v1 v2 v3 v4 v5 M) := by
  unfold f_M_isWide_B3
  refine tq_iload 5 (E := E_M_isWide d) (pc := 3) (cks_at k_M_isWide 2 rfl rfl) rfl ?_
  refine tq_iload 4 (E := E_M_isWide d) (pc := 5) (cks_at k_M_isWide 3 rfl rfl) rfl ?_
  refine tq_icmp_ge (E := E_M_isWide d) (pc := 7) (tgt := 31) (cks_at k_M_isWide 4 rfl rfl) (by decide) ?_ ?_
  · refine tq_iconst (E := E_M_isWide d) (pc := 31) (cks_at k_M_isWide 17 rfl rfl) ?_
    exact tq_zretC (E := E_M_isWide d) (pc := 32) (cks_at k_M_isWide 18 rfl rfl) rfl (by decide)
  · refine tq_aload_n 0 (E := E_M_isWide d) (pc := 10) (cks_at k_M_isWide 5 rfl rfl) rfl ?_
    refine tq_iload_n 1 (E := E_M_isWide d) (pc := 11) (cks_at k_M_isWide 6 rfl rfl) rfl ?_
    refine tq_iload_n 3 (E := E_M_isWide d) (pc := 12) (cks_at k_M_isWide 7 rfl rfl) rfl ?_
    refine tq_iload 5 (E := E_M_isWide d) (pc := 13) (cks_at k_M_isWide 8 rfl rfl) rfl ?_
    refine tq_iadd (E := E_M_isWide d) (pc := 15) (cks_at k_M_isWide 9 rfl rfl) ?_
    refine tq_V2 (E := E_M_isWide d) (pc := 16) (cks_at k_M_isWide 10 rfl rfl) mk_M_widthOf lk_M_437 rc_78 (Nat.le_of_ble_eq_true rfl) (c_M_widthOf (d + 0) v1 (v3 + v5) M) (k_I fun r2 M1 => ?_)
    refine tq_iload_n 2 (E := E_M_isWide d) (pc := 19) (cks_at k_M_isWide 11 rfl rfl) rfl ?_
    refine tq_icmp_ge (E := E_M_isWide d) (pc := 20) (tgt := 25) (cks_at k_M_isWide 12 rfl rfl) (by decide) ?_ ?_
    · refine tq_iinc 5 (E := E_M_isWide d) (pc := 25) (cks_at k_M_isWide 15 rfl rfl) rfl (show 5 < 6 by decide) rfl ?_
      refine tq_goto (tgt := 3) (E := E_M_isWide d) (pc := 28) (cks_at k_M_isWide 16 rfl rfl) (by decide) ?_
      exact tq_sub [1, 2, 3, 4, 5, 0] rfl (hkH v1 v2 v3 v4 (v5 + 1) M1)
    · refine tq_iconst (E := E_M_isWide d) (pc := 23) (cks_at k_M_isWide 13 rfl rfl) ?_
      exact tq_zretC (E := E_M_isWide d) (pc := 24) (cks_at k_M_isWide 14 rfl rfl) rfl (by decide)
def f_M_isWide_L3 : Nat → Int × Int × Int × Int × Int × Mm → Option (Int × Mm) := lp fun kH s => f_M_isWide_B3 (fun v1 v2 v3 v4 v5 M => kH (v1, v2, v3, v4, v5, M)) s.1 s.2.1 s.2.2.1 s.2.2.2.1 s.2.2.2.2.1 s.2.2.2.2.2
set_option maxRecDepth 20000 in
set_option maxHeartbeats 4000000 in
theorem w_M_isWide_L3 (d : Nat) (n : Nat) (s : Int × Int × Int × Int × Int × Mm) : T (E_M_isWide d) injI 3 [(0, .ref 78), (1, vI s.1), (2, vI s.2.1), (3, vI s.2.2.1), (4, vI s.2.2.2.1), (5, vI s.2.2.2.2.1)] [] s.2.2.2.2.2 (f_M_isWide_L3 n s) :=
  tq_lp (fun s => [(0, .ref 78), (1, vI s.1), (2, vI s.2.1), (3, vI s.2.2.1), (4, vI s.2.2.2.1), (5, vI s.2.2.2.2.1)]) (fun s => s.2.2.2.2.2) (fun kH hH s => w_M_isWide_B3 d (fun v1 v2 v3 v4 v5 M => kH (v1, v2, v3, v4, v5, M)) (fun v1 v2 v3 v4 v5 M => hH (v1, v2, v3, v4, v5, M)) s.1 s.2.1 s.2.2.1 s.2.2.2.1 s.2.2.2.2.1 s.2.2.2.2.2) n s
def f_M_isWide (v1 : Int) (v2 : Int) (v3 : Int) (v4 : Int) (M : Mm) : Option (Int × Mm) :=
  f_M_isWide_L3 FU (v1, v2, v3, v4, 0, M)
set_option maxRecDepth 20000 in
set_option maxHeartbeats 4000000 in
theorem c_M_isWide (d : Nat) (v1 : Int) (v2 : Int) (v3 : Int) (v4 : Int) (M : Mm) (Q : Option Value → Mm → Prop) (h : sat injI (f_M_isWide v1 v2 v3 v4 M) Q) : Ct (d + 6) y_M_isWide [.ref 78, vI v1, vI v2, vI v3, vI v4] M Q := by
  refine ct_in (d := d + 5) mk_M_isWide (Nat.le_of_ble_eq_true rfl) (?_ : T (E_M_isWide d) injI 0 [(0, .ref 78), (1, vI v1), (2, vI v2), (3, vI v3), (4, vI v4)] [] M (f_M_isWide v1 v2 v3 v4 M)) h
  unfold f_M_isWide
  refine tq_iconst (E := E_M_isWide d) (pc := 0) (cks_at k_M_isWide 0 rfl rfl) ?_
  refine tq_istore (E := E_M_isWide d) (pc := 1) (cks_at k_M_isWide 1 rfl rfl) (show 5 < 6 by decide) rfl ?_
  exact tq_sub [1, 2, 3, 4, 5, 0] rfl (w_M_isWide_L3 d FU (v1, v2, v3, v4, 0, M))
abbrev E_M_isPassed (d : Nat) : Ev := (Ct (d + 6), "BreathTownModel", prog_14_method_61_code, 4, False, 0, (fun _ => 0), (Option.some Jvm.ClassFile.FieldType.boolean))
def f_M_isPassed (v1 : Int) (v2 : Int) (v3 : Int) (M : Mm) : Option (Int × Mm) :=
  bI (f_M_takesOf v1 M) (fun r2 M1 =>
  bI (f_M_isWide v1 v2 v3 r2 M1) (fun r4 M3 =>
  gd (i32 r4 = 0 ∨ i32 r4 = 1) (some (r4, M3))))
set_option maxRecDepth 20000 in
set_option maxHeartbeats 4000000 in
theorem c_M_isPassed (d : Nat) (v1 : Int) (v2 : Int) (v3 : Int) (M : Mm) (Q : Option Value → Mm → Prop) (h : sat injI (f_M_isPassed v1 v2 v3 M) Q) : Ct (d + 7) y_M_isPassed [.ref 78, vI v1, vI v2, vI v3] M Q := by
  refine ct_in (d := d + 6) mk_M_isPassed (Nat.le_of_ble_eq_true rfl) (?_ : T (E_M_isPassed d) injI 0 [(0, .ref 78), (1, vI v1), (2, vI v2), (3, vI v3)] [] M (f_M_isPassed v1 v2 v3 M)) h
  unfold f_M_isPassed
  refine tq_aload_n 0 (E := E_M_isPassed d) (pc := 0) (cks_at k_M_isPassed 0 rfl rfl) rfl ?_
  refine tq_iload_n 1 (E := E_M_isPassed d) (pc := 1) (cks_at k_M_isPassed 1 rfl rfl) rfl ?_
  refine tq_iload_n 2 (E := E_M_isPassed d) (pc := 2) (cks_at k_M_isPassed 2 rfl rfl) rfl ?_
  refine tq_iload_n 3 (E := E_M_isPassed d) (pc := 3) (cks_at k_M_isPassed 3 rfl rfl) rfl ?_
  refine tq_aload_n 0 (E := E_M_isPassed d) (pc := 4) (cks_at k_M_isPassed 4 rfl rfl) rfl ?_
  refine tq_iload_n 1 (E := E_M_isPassed d) (pc := 5) (cks_at k_M_isPassed 5 rfl rfl) rfl ?_
  refine tq_V1 (E := E_M_isPassed d) (pc := 6) (cks_at k_M_isPassed 6 rfl rfl) mk_M_takesOf lk_M_440 rc_78 (Nat.le_of_ble_eq_true rfl) (c_M_takesOf (d + 5) v1 M) (k_I fun r2 M1 => ?_)
  refine tq_V4 (E := E_M_isPassed d) (pc := 9) (cks_at k_M_isPassed 7 rfl rfl) mk_M_isWide lk_M_443 rc_78 (Nat.le_of_ble_eq_true rfl) (c_M_isWide (d + 0) v1 v2 v3 r2 M1) (k_I fun r4 M3 => ?_)
  exact tq_zret (E := E_M_isPassed d) (pc := 12) (cks_at k_M_isPassed 8 rfl rfl) rfl
abbrev E_M_passedBy (d : Nat) : Ev := (Ct (d + 7), "BreathTownModel", prog_14_method_145_code, 5, False, 0, (fun _ => 0), (Option.some Jvm.ClassFile.FieldType.long))
def f_M_passedBy_B5 (kH : Int → Int → Int → Int → Mm → Option (Int × Mm)) (v1 v2 v3 v4 : Int) (M : Mm) : Option (Int × Mm) :=
  bI (f_M_streetMany M) (fun r2 M1 =>
  if i32 r2 ≤ i32 v4 then
    some (i32 v3, M1)
  else
    bI (f_M_broadOf v1 M1) (fun r4 M3 =>
    bI (f_M_isPassed v4 r4 v2 M3) (fun r6 M5 =>
    if i32 r6 = 0 then
      kH v1 v2 v3 (v4 + 1) M5
    else
      kH v1 v2 (v3 + 1) (v4 + 1) M5)))
set_option maxRecDepth 20000 in
set_option maxHeartbeats 4000000 in
theorem w_M_passedBy_B5 (d : Nat) (kH : Int → Int → Int → Int → Mm → Option (Int × Mm)) (hkH : ∀ (v1 v2 v3 v4 : Int) (M : Mm), T (E_M_passedBy d) injJ 5 [(0, .ref 78), (1, vI v1), (2, vI v2), (3, vI v3), (4, vI v4)] [] M (kH v1 v2 v3 v4 M)) (v1 v2 v3 v4 : Int) (M : Mm) : T (E_M_passedBy d) injJ 5 [(0, .ref 78), (1, vI v1), (2, vI v2), (3, vI v3), (4, vI v4)] [] M (f_M_passedBy_B5 kH v1 v2 v3 v4 M) := by
  unfold f_M_passedBy_B5
  refine tq_iload 4 (E := E_M_passedBy d) (pc := 5) (cks_at k_M_passedBy 4 rfl rfl) rfl ?_
  refine tq_aload_n 0 (E := E_M_passedBy d) (pc := 7) (cks_at k_M_passedBy 5 rfl rfl) rfl ?_
  refine tq_V0 (E := E_M_passedBy d) (pc := 8) (cks_at k_M_passedBy 6 rfl rfl) mk_M_streetMany lk_M_412 rc_78 (Nat.le_of_ble_eq_true rfl) (c_M_streetMany (d + 6) M) (k_I fun r2 M1 => ?_)
  refine tq_icmp_ge (E := E_M_passedBy d) (pc := 11) (tgt := 38) (cks_at k_M_passedBy 7 rfl rfl) (by decide) ?_ ?_
  · refine tq_iload_n 3 (E := E_M_passedBy d) (pc := 38) (cks_at k_M_passedBy 19 rfl rfl) rfl ?_
    refine tq_i2l (E := E_M_passedBy d) (pc := 39) (cks_at k_M_passedBy 20 rfl rfl) ?_
    exact tq_lret (E := E_M_passedBy d) (pc := 40) (cks_at k_M_passedBy 21 rfl rfl) rfl
  · refine tq_aload_n 0 (E := E_M_passedBy d) (pc := 14) (cks_at k_M_passedBy 8 rfl rfl) rfl ?_
    refine tq_iload 4 (E := E_M_passedBy d) (pc := 15) (cks_at k_M_passedBy 9 rfl rfl) rfl ?_
    refine tq_aload_n 0 (E := E_M_passedBy d) (pc := 17) (cks_at k_M_passedBy 10 rfl rfl) rfl ?_
    refine tq_iload_n 1 (E := E_M_passedBy d) (pc := 18) (cks_at k_M_passedBy 11 rfl rfl) rfl ?_
    refine tq_V1 (E := E_M_passedBy d) (pc := 19) (cks_at k_M_passedBy 12 rfl rfl) mk_M_broadOf lk_M_477 rc_78 (Nat.le_of_ble_eq_true rfl) (c_M_broadOf (d + 6) v1 M1) (k_I fun r4 M3 => ?_)
    refine tq_iload_n 2 (E := E_M_passedBy d) (pc := 22) (cks_at k_M_passedBy 13 rfl rfl) rfl ?_
    refine tq_V3 (E := E_M_passedBy d) (pc := 23) (cks_at k_M_passedBy 14 rfl rfl) mk_M_isPassed lk_M_450 rc_78 (Nat.le_of_ble_eq_true rfl) (c_M_isPassed (d + 0) v4 r4 v2 M3) (k_I fun r6 M5 => ?_)
    refine tq_if_eq (E := E_M_passedBy d) (pc := 26) (tgt := 32) (cks_at k_M_passedBy 15 rfl rfl) (by decide) ?_ ?_
    · refine tq_iinc 4 (E := E_M_passedBy d) (pc := 32) (cks_at k_M_passedBy 17 rfl rfl) rfl (show 4 < 5 by decide) rfl ?_
      refine tq_goto (tgt := 5) (E := E_M_passedBy d) (pc := 35) (cks_at k_M_passedBy 18 rfl rfl) (by decide) ?_
      exact tq_sub [1, 2, 3, 4, 0] rfl (hkH v1 v2 v3 (v4 + 1) M5)
    · refine tq_iinc 3 (E := E_M_passedBy d) (pc := 29) (cks_at k_M_passedBy 16 rfl rfl) rfl (show 3 < 5 by decide) rfl ?_
      refine tq_iinc 4 (E := E_M_passedBy d) (pc := 32) (cks_at k_M_passedBy 17 rfl rfl) rfl (show 4 < 5 by decide) rfl ?_
      refine tq_goto (tgt := 5) (E := E_M_passedBy d) (pc := 35) (cks_at k_M_passedBy 18 rfl rfl) (by decide) ?_
      exact tq_sub [2, 3, 4, 1, 0] rfl (hkH v1 v2 (v3 + 1) (v4 + 1) M5)
def f_M_passedBy_L5 : Nat → Int × Int × Int × Int × Mm → Option (Int × Mm) := lp fun kH s => f_M_passedBy_B5 (fun v1 v2 v3 v4 M => kH (v1, v2, v3, v4, M)) s.1 s.2.1 s.2.2.1 s.2.2.2.1 s.2.2.2.2
set_option maxRecDepth 20000 in
set_option maxHeartbeats 4000000 in
theorem w_M_passedBy_L5 (d : Nat) (n : Nat) (s : Int × Int × Int × Int × Mm) : T (E_M_passedBy d) injJ 5 [(0, .ref 78), (1, vI s.1), (2, vI s.2.1), (3, vI s.2.2.1), (4, vI s.2.2.2.1)] [] s.2.2.2.2 (f_M_passedBy_L5 n s) :=
  tq_lp (fun s => [(0, .ref 78), (1, vI s.1), (2, vI s.2.1), (3, vI s.2.2.1), (4, vI s.2.2.2.1)]) (fun s => s.2.2.2.2) (fun kH hH s => w_M_passedBy_B5 d (fun v1 v2 v3 v4 M => kH (v1, v2, v3, v4, M)) (fun v1 v2 v3 v4 M => hH (v1, v2, v3, v4, M)) s.1 s.2.1 s.2.2.1 s.2.2.2.1 s.2.2.2.2) n s
def f_M_passedBy (v1 : Int) (v2 : Int) (M : Mm) : Option (Int × Mm) :=
  f_M_passedBy_L5 FU (v1, v2, 0, 0, M)
set_option maxRecDepth 20000 in
set_option maxHeartbeats 4000000 in
theorem c_M_passedBy (d : Nat) (v1 : Int) (v2 : Int) (M : Mm) (Q : Option Value → Mm → Prop) (h : sat injJ (f_M_passedBy v1 v2 M) Q) : Ct (d + 8) y_M_passedBy [.ref 78, vI v1, vI v2] M Q := by
  refine ct_in (d := d + 7) mk_M_passedBy (Nat.le_of_ble_eq_true rfl) (?_ : T (E_M_passedBy d) injJ 0 [(0, .ref 78), (1, vI v1), (2, vI v2)] [] M (f_M_passedBy v1 v2 M)) h
  unfold f_M_passedBy
  refine tq_iconst (E := E_M_passedBy d) (pc := 0) (cks_at k_M_passedBy 0 rfl rfl) ?_
  refine tq_istore_n (E := E_M_passedBy d) (pc := 1) (cks_at k_M_passedBy 1 rfl rfl) (show 3 < 5 by decide) rfl ?_
  refine tq_iconst (E := E_M_passedBy d) (pc := 2) (cks_at k_M_passedBy 2 rfl rfl) ?_
  refine tq_istore (E := E_M_passedBy d) (pc := 3) (cks_at k_M_passedBy 3 rfl rfl) (show 4 < 5 by decide) rfl ?_
  exact tq_sub [2, 3, 4, 1, 0] rfl (w_M_passedBy_L5 d FU (v1, v2, 0, 0, M))
abbrev E_M_qOf (d : Nat) : Ev := (Ct (d + 8), "BreathTownModel", prog_14_method_140_code, 5, False, 0, (fun _ => 0), (Option.some Jvm.ClassFile.FieldType.long))
def f_M_qOf (v1 : Int) (v2 : Int) (v4 : Int) (M : Mm) : Option (Int × Mm) :=
  if i32 v1 = 0 then
    bI (f_M_streetMany M) (fun r3 M2 =>
    bI (f_M_isIn v2 0 (i32 (r3 - 1)) M2) (fun r5 M4 =>
    if i32 r5 = 0 then
      some (0, M4)
    else
      bI (f_M_widthOf v2 v4 M4) (fun r7 M6 =>
      some (i32 r7, M6))))
  else
  if i32 v1 = 1 then
    bI (f_M_streetMany M) (fun r10 M9 =>
    bI (f_M_isIn v2 0 (i32 (r10 - 1)) M9) (fun r12 M11 =>
    if i32 r12 = 0 then
      some (0, M11)
    else
      bI (f_M_shiftOf v2 M11) (fun r14 M13 =>
      bI (f_M_tideOf v2 v4 r14 M13) (fun r16 M15 =>
      some (i32 r16, M15)))))
  else
  bI (f_M_walkerMany M) (fun r18 M17 =>
  bI (f_M_isIn v2 0 (i32 (r18 - 1)) M17) (fun r20 M19 =>
  if i32 r20 = 0 then
    some (0, M19)
  else
    bI (f_M_passedBy v2 v4 M19) (fun r22 M21 =>
    some (r22, M21))))
set_option maxRecDepth 20000 in
set_option maxHeartbeats 4000000 in
theorem c_M_qOf (d : Nat) (v1 : Int) (v2 : Int) (v4 : Int) (M : Mm) (Q : Option Value → Mm → Prop) (h : sat injJ (f_M_qOf v1 v2 v4 M) Q) : Ct (d + 9) y_M_qOf [.ref 78, vI v1, vJ v2, vI v4] M Q := by
  refine ct_in (d := d + 8) mk_M_qOf (Nat.le_of_ble_eq_true rfl) (?_ : T (E_M_qOf d) injJ 0 [(0, .ref 78), (1, vI v1), (2, vJ v2), (4, vI v4)] [] M (f_M_qOf v1 v2 v4 M)) h
  unfold f_M_qOf
  refine tq_iload_n 1 (E := E_M_qOf d) (pc := 0) (cks_at k_M_qOf 0 rfl rfl) rfl ?_
  refine tq_lsC (E := E_M_qOf d) (pc := 1) (tgt := 28) (off := 27) (w := 0) k_M_qOf_1 (by decide) (by decide) (by decide) ?_ (fun h1 => ?_)
  · refine tq_lload_n 2 (E := E_M_qOf d) (pc := 28) (cks_at k_M_qOf 2 rfl rfl) rfl ?_
    refine tq_lconst0 (E := E_M_qOf d) (pc := 29) (cks_at k_M_qOf 3 rfl rfl) ?_
    refine tq_aload_n 0 (E := E_M_qOf d) (pc := 30) (cks_at k_M_qOf 4 rfl rfl) rfl ?_
    refine tq_V0 (E := E_M_qOf d) (pc := 31) (cks_at k_M_qOf 5 rfl rfl) mk_M_streetMany lk_M_412 rc_78 (Nat.le_of_ble_eq_true rfl) (c_M_streetMany (d + 7) M) (k_I fun r3 M2 => ?_)
    refine tq_iconst (E := E_M_qOf d) (pc := 34) (cks_at k_M_qOf 6 rfl rfl) ?_
    refine tq_isub (E := E_M_qOf d) (pc := 35) (cks_at k_M_qOf 7 rfl rfl) ?_
    refine tq_i2l (E := E_M_qOf d) (pc := 36) (cks_at k_M_qOf 8 rfl rfl) ?_
    refine tq_S3 (E := E_M_qOf d) (pc := 37) (cks_at k_M_qOf 9 rfl rfl) mk_M_isIn lk_M_265 (Nat.le_of_ble_eq_true rfl) (c_M_isIn (d + 7) v2 0 (i32 (r3 - 1)) M2) (k_I fun r5 M4 => ?_)
    refine tq_if_eq (E := E_M_qOf d) (pc := 40) (tgt := 55) (cks_at k_M_qOf 10 rfl rfl) (by decide) ?_ ?_
    · refine tq_lconst0 (E := E_M_qOf d) (pc := 55) (cks_at k_M_qOf 18 rfl rfl) ?_
      exact tq_lret (E := E_M_qOf d) (pc := 56) (cks_at k_M_qOf 19 rfl rfl) rfl
    · refine tq_aload_n 0 (E := E_M_qOf d) (pc := 43) (cks_at k_M_qOf 11 rfl rfl) rfl ?_
      refine tq_lload_n 2 (E := E_M_qOf d) (pc := 44) (cks_at k_M_qOf 12 rfl rfl) rfl ?_
      refine tq_l2i (E := E_M_qOf d) (pc := 45) (cks_at k_M_qOf 13 rfl rfl) ?_
      refine tq_iload 3 (E := E_M_qOf d) (pc := 46) (cks_at k_M_qOf 14 rfl rfl) rfl ?_
      refine tq_V2 (E := E_M_qOf d) (pc := 48) (cks_at k_M_qOf 15 rfl rfl) mk_M_widthOf lk_M_437 rc_78 (Nat.le_of_ble_eq_true rfl) (c_M_widthOf (d + 3) v2 v4 M4) (k_I fun r7 M6 => ?_)
      refine tq_i2l (E := E_M_qOf d) (pc := 51) (cks_at k_M_qOf 16 rfl rfl) ?_
      refine tq_goto (tgt := 56) (E := E_M_qOf d) (pc := 52) (cks_at k_M_qOf 17 rfl rfl) (by decide) ?_
      exact tq_lret (E := E_M_qOf d) (pc := 56) (cks_at k_M_qOf 19 rfl rfl) rfl
  refine tq_lsC (E := E_M_qOf d) (pc := 1) (tgt := 57) (off := 56) (w := 1) k_M_qOf_1 (by decide) (by decide) (by decide) ?_ (fun h8 => ?_)
  · refine tq_lload_n 2 (E := E_M_qOf d) (pc := 57) (cks_at k_M_qOf 20 rfl rfl) rfl ?_
    refine tq_lconst0 (E := E_M_qOf d) (pc := 58) (cks_at k_M_qOf 21 rfl rfl) ?_
    refine tq_aload_n 0 (E := E_M_qOf d) (pc := 59) (cks_at k_M_qOf 22 rfl rfl) rfl ?_
    refine tq_V0 (E := E_M_qOf d) (pc := 60) (cks_at k_M_qOf 23 rfl rfl) mk_M_streetMany lk_M_412 rc_78 (Nat.le_of_ble_eq_true rfl) (c_M_streetMany (d + 7) M) (k_I fun r10 M9 => ?_)
    refine tq_iconst (E := E_M_qOf d) (pc := 63) (cks_at k_M_qOf 24 rfl rfl) ?_
    refine tq_isub (E := E_M_qOf d) (pc := 64) (cks_at k_M_qOf 25 rfl rfl) ?_
    refine tq_i2l (E := E_M_qOf d) (pc := 65) (cks_at k_M_qOf 26 rfl rfl) ?_
    refine tq_S3 (E := E_M_qOf d) (pc := 66) (cks_at k_M_qOf 27 rfl rfl) mk_M_isIn lk_M_265 (Nat.le_of_ble_eq_true rfl) (c_M_isIn (d + 7) v2 0 (i32 (r10 - 1)) M9) (k_I fun r12 M11 => ?_)
    refine tq_if_eq (E := E_M_qOf d) (pc := 69) (tgt := 90) (cks_at k_M_qOf 28 rfl rfl) (by decide) ?_ ?_
    · refine tq_lconst0 (E := E_M_qOf d) (pc := 90) (cks_at k_M_qOf 40 rfl rfl) ?_
      exact tq_lret (E := E_M_qOf d) (pc := 91) (cks_at k_M_qOf 41 rfl rfl) rfl
    · refine tq_aload_n 0 (E := E_M_qOf d) (pc := 72) (cks_at k_M_qOf 29 rfl rfl) rfl ?_
      refine tq_lload_n 2 (E := E_M_qOf d) (pc := 73) (cks_at k_M_qOf 30 rfl rfl) rfl ?_
      refine tq_l2i (E := E_M_qOf d) (pc := 74) (cks_at k_M_qOf 31 rfl rfl) ?_
      refine tq_iload 3 (E := E_M_qOf d) (pc := 75) (cks_at k_M_qOf 32 rfl rfl) rfl ?_
      refine tq_aload_n 0 (E := E_M_qOf d) (pc := 77) (cks_at k_M_qOf 33 rfl rfl) rfl ?_
      refine tq_lload_n 2 (E := E_M_qOf d) (pc := 78) (cks_at k_M_qOf 34 rfl rfl) rfl ?_
      refine tq_l2i (E := E_M_qOf d) (pc := 79) (cks_at k_M_qOf 35 rfl rfl) ?_
      refine tq_V1 (E := E_M_qOf d) (pc := 80) (cks_at k_M_qOf 36 rfl rfl) mk_M_shiftOf lk_M_431 rc_78 (Nat.le_of_ble_eq_true rfl) (c_M_shiftOf (d + 7) v2 M11) (k_I fun r14 M13 => ?_)
      refine tq_V3 (E := E_M_qOf d) (pc := 83) (cks_at k_M_qOf 37 rfl rfl) mk_M_tideOf lk_M_421 rc_78 (Nat.le_of_ble_eq_true rfl) (c_M_tideOf (d + 6) v2 v4 r14 M13) (k_I fun r16 M15 => ?_)
      refine tq_i2l (E := E_M_qOf d) (pc := 86) (cks_at k_M_qOf 38 rfl rfl) ?_
      refine tq_goto (tgt := 91) (E := E_M_qOf d) (pc := 87) (cks_at k_M_qOf 39 rfl rfl) (by decide) ?_
      exact tq_lret (E := E_M_qOf d) (pc := 91) (cks_at k_M_qOf 41 rfl rfl) rfl
  refine tq_lsD (E := E_M_qOf d) (pc := 1) (tgt := 92) k_M_qOf_1 (by decide) (by simp [Op.lookupswitch.offset, Ne.symm h1, Ne.symm h8]) (by decide) ?_
  refine tq_lload_n 2 (E := E_M_qOf d) (pc := 92) (cks_at k_M_qOf 42 rfl rfl) rfl ?_
  refine tq_lconst0 (E := E_M_qOf d) (pc := 93) (cks_at k_M_qOf 43 rfl rfl) ?_
  refine tq_aload_n 0 (E := E_M_qOf d) (pc := 94) (cks_at k_M_qOf 44 rfl rfl) rfl ?_
  refine tq_V0 (E := E_M_qOf d) (pc := 95) (cks_at k_M_qOf 45 rfl rfl) mk_M_walkerMany lk_M_415 rc_78 (Nat.le_of_ble_eq_true rfl) (c_M_walkerMany (d + 7) M) (k_I fun r18 M17 => ?_)
  refine tq_iconst (E := E_M_qOf d) (pc := 98) (cks_at k_M_qOf 46 rfl rfl) ?_
  refine tq_isub (E := E_M_qOf d) (pc := 99) (cks_at k_M_qOf 47 rfl rfl) ?_
  refine tq_i2l (E := E_M_qOf d) (pc := 100) (cks_at k_M_qOf 48 rfl rfl) ?_
  refine tq_S3 (E := E_M_qOf d) (pc := 101) (cks_at k_M_qOf 49 rfl rfl) mk_M_isIn lk_M_265 (Nat.le_of_ble_eq_true rfl) (c_M_isIn (d + 7) v2 0 (i32 (r18 - 1)) M17) (k_I fun r20 M19 => ?_)
  refine tq_if_eq (E := E_M_qOf d) (pc := 104) (tgt := 118) (cks_at k_M_qOf 50 rfl rfl) (by decide) ?_ ?_
  · refine tq_lconst0 (E := E_M_qOf d) (pc := 118) (cks_at k_M_qOf 57 rfl rfl) ?_
    exact tq_lret (E := E_M_qOf d) (pc := 119) (cks_at k_M_qOf 58 rfl rfl) rfl
  · refine tq_aload_n 0 (E := E_M_qOf d) (pc := 107) (cks_at k_M_qOf 51 rfl rfl) rfl ?_
    refine tq_lload_n 2 (E := E_M_qOf d) (pc := 108) (cks_at k_M_qOf 52 rfl rfl) rfl ?_
    refine tq_l2i (E := E_M_qOf d) (pc := 109) (cks_at k_M_qOf 53 rfl rfl) ?_
    refine tq_iload 3 (E := E_M_qOf d) (pc := 110) (cks_at k_M_qOf 54 rfl rfl) rfl ?_
    refine tq_V2 (E := E_M_qOf d) (pc := 112) (cks_at k_M_qOf 55 rfl rfl) mk_M_passedBy lk_M_692 rc_78 (Nat.le_of_ble_eq_true rfl) (c_M_passedBy (d + 0) v2 v4 M19) (k_J fun r22 M21 => ?_)
    refine tq_goto (tgt := 119) (E := E_M_qOf d) (pc := 115) (cks_at k_M_qOf 56 rfl rfl) (by decide) ?_
    exact tq_lret (E := E_M_qOf d) (pc := 119) (cks_at k_M_qOf 58 rfl rfl) rfl
abbrev E_M_qClip (d : Nat) : Ev := (Ct (d + 0), "BreathTownModel", prog_14_method_135_code, 2, False, 0, (fun _ => 0), (Option.some Jvm.ClassFile.FieldType.long))
def f_M_qClip (v0 : Int) (M : Mm) : Option (Int × Mm) :=
  if i32 (cmp64 v0 1000000) ≤ 0 then
    if 0 ≤ i32 (cmp64 v0 ((-1000000))) then
      some (v0, M)
    else
      some ((-1000000), M)
  else
    some (1000000, M)
set_option maxRecDepth 20000 in
set_option maxHeartbeats 4000000 in
theorem c_M_qClip (d : Nat) (v0 : Int) (M : Mm) (Q : Option Value → Mm → Prop) (h : sat injJ (f_M_qClip v0 M) Q) : Ct (d + 1) y_M_qClip [vJ v0] M Q := by
  refine ct_in (d := d + 0) mk_M_qClip (Nat.le_of_ble_eq_true rfl) (?_ : T (E_M_qClip d) injJ 0 [(0, vJ v0)] [] M (f_M_qClip v0 M)) h
  unfold f_M_qClip
  refine tq_lload_n 0 (E := E_M_qClip d) (pc := 0) (cks_at k_M_qClip 0 rfl rfl) rfl ?_
  refine tq_ldc2 (z := 1000000) (E := E_M_qClip d) (pc := 1) (cks_at k_M_qClip 1 rfl rfl) cst_M_383 ?_
  refine tq_lcmp (E := E_M_qClip d) (pc := 4) (cks_at k_M_qClip 2 rfl rfl) ?_
  refine tq_if_le (E := E_M_qClip d) (pc := 5) (tgt := 14) (cks_at k_M_qClip 3 rfl rfl) (by decide) ?_ ?_
  · refine tq_lload_n 0 (E := E_M_qClip d) (pc := 14) (cks_at k_M_qClip 6 rfl rfl) rfl ?_
    refine tq_ldc2 (z := (-1000000)) (E := E_M_qClip d) (pc := 15) (cks_at k_M_qClip 7 rfl rfl) cst_M_385 ?_
    refine tq_lcmp (E := E_M_qClip d) (pc := 18) (cks_at k_M_qClip 8 rfl rfl) ?_
    refine tq_if_ge (E := E_M_qClip d) (pc := 19) (tgt := 28) (cks_at k_M_qClip 9 rfl rfl) (by decide) ?_ ?_
    · refine tq_lload_n 0 (E := E_M_qClip d) (pc := 28) (cks_at k_M_qClip 12 rfl rfl) rfl ?_
      exact tq_lret (E := E_M_qClip d) (pc := 29) (cks_at k_M_qClip 13 rfl rfl) rfl
    · refine tq_ldc2 (z := (-1000000)) (E := E_M_qClip d) (pc := 22) (cks_at k_M_qClip 10 rfl rfl) cst_M_385 ?_
      refine tq_goto (tgt := 29) (E := E_M_qClip d) (pc := 25) (cks_at k_M_qClip 11 rfl rfl) (by decide) ?_
      exact tq_lret (E := E_M_qClip d) (pc := 29) (cks_at k_M_qClip 13 rfl rfl) rfl
  · refine tq_ldc2 (z := 1000000) (E := E_M_qClip d) (pc := 8) (cks_at k_M_qClip 4 rfl rfl) cst_M_383 ?_
    refine tq_goto (tgt := 29) (E := E_M_qClip d) (pc := 11) (cks_at k_M_qClip 5 rfl rfl) (by decide) ?_
    exact tq_lret (E := E_M_qClip d) (pc := 29) (cks_at k_M_qClip 13 rfl rfl) rfl
abbrev E_M_qPartOf (d : Nat) : Ev := (Ct (d + 0), "BreathTownModel", prog_14_method_139_code, 3, False, 0, (fun _ => 0), (Option.some Jvm.ClassFile.FieldType.long))
def f_M_qPartOf (v1 : Int) (v2 : Int) (M : Mm) : Option (Int × Mm) :=
  if i32 v1 = 0 then
    some (i32 v2, M)
  else
  if i32 v1 = 1 then
    some (i32 ((i32 v2).tmod (i32 24)), M)
  else
  some (i32 ((i32 v2).tdiv (i32 24)), M)
set_option maxRecDepth 20000 in
set_option maxHeartbeats 4000000 in
theorem c_M_qPartOf (d : Nat) (v1 : Int) (v2 : Int) (M : Mm) (Q : Option Value → Mm → Prop) (h : sat injJ (f_M_qPartOf v1 v2 M) Q) : Ct (d + 1) y_M_qPartOf [.ref 78, vI v1, vI v2] M Q := by
  refine ct_in (d := d + 0) mk_M_qPartOf (Nat.le_of_ble_eq_true rfl) (?_ : T (E_M_qPartOf d) injJ 0 [(0, .ref 78), (1, vI v1), (2, vI v2)] [] M (f_M_qPartOf v1 v2 M)) h
  unfold f_M_qPartOf
  refine tq_iload_n 1 (E := E_M_qPartOf d) (pc := 0) (cks_at k_M_qPartOf 0 rfl rfl) rfl ?_
  refine tq_lsC (E := E_M_qPartOf d) (pc := 1) (tgt := 28) (off := 27) (w := 0) k_M_qPartOf_1 (by decide) (by decide) (by decide) ?_ (fun h1 => ?_)
  · refine tq_iload_n 2 (E := E_M_qPartOf d) (pc := 28) (cks_at k_M_qPartOf 2 rfl rfl) rfl ?_
    refine tq_i2l (E := E_M_qPartOf d) (pc := 29) (cks_at k_M_qPartOf 3 rfl rfl) ?_
    exact tq_lret (E := E_M_qPartOf d) (pc := 30) (cks_at k_M_qPartOf 4 rfl rfl) rfl
  refine tq_lsC (E := E_M_qPartOf d) (pc := 1) (tgt := 31) (off := 30) (w := 1) k_M_qPartOf_1 (by decide) (by decide) (by decide) ?_ (fun h2 => ?_)
  · refine tq_iload_n 2 (E := E_M_qPartOf d) (pc := 31) (cks_at k_M_qPartOf 5 rfl rfl) rfl ?_
    refine tq_bipush (E := E_M_qPartOf d) (pc := 32) (cks_at k_M_qPartOf 6 rfl rfl) (by decide) (by decide) ?_
    refine tq_iremC (E := E_M_qPartOf d) (pc := 34) (cks_at k_M_qPartOf 7 rfl rfl) (by decide) ?_
    refine tq_i2l (E := E_M_qPartOf d) (pc := 35) (cks_at k_M_qPartOf 8 rfl rfl) ?_
    exact tq_lret (E := E_M_qPartOf d) (pc := 36) (cks_at k_M_qPartOf 9 rfl rfl) rfl
  refine tq_lsD (E := E_M_qPartOf d) (pc := 1) (tgt := 37) k_M_qPartOf_1 (by decide) (by simp [Op.lookupswitch.offset, Ne.symm h1, Ne.symm h2]) (by decide) ?_
  refine tq_iload_n 2 (E := E_M_qPartOf d) (pc := 37) (cks_at k_M_qPartOf 10 rfl rfl) rfl ?_
  refine tq_bipush (E := E_M_qPartOf d) (pc := 38) (cks_at k_M_qPartOf 11 rfl rfl) (by decide) (by decide) ?_
  refine tq_idivC (E := E_M_qPartOf d) (pc := 40) (cks_at k_M_qPartOf 12 rfl rfl) (by decide) ?_
  refine tq_i2l (E := E_M_qPartOf d) (pc := 41) (cks_at k_M_qPartOf 13 rfl rfl) ?_
  exact tq_lret (E := E_M_qPartOf d) (pc := 42) (cks_at k_M_qPartOf 14 rfl rfl) rfl
abbrev E_M_qFloor (d : Nat) : Ev := (Ct (d + 0), "BreathTownModel", prog_14_method_136_code, 6, False, 0, (fun _ => 0), (Option.some Jvm.ClassFile.FieldType.long))
def f_M_qFloor_J43 (v4 s0 s1 : Int) (M : Mm) : Option (Int × Mm) :=
  if i32 s1 = i32 s0 then
    some (v4, M)
  else
    some (v4 - 1, M)
set_option maxRecDepth 20000 in
set_option maxHeartbeats 4000000 in
theorem w_M_qFloor_J43 (d : Nat) (v4 s0 s1 : Int) (M : Mm) : T (E_M_qFloor d) injJ 43 [(4, vJ v4)] [vI s0, vI s1] M (f_M_qFloor_J43 v4 s0 s1 M) := by
  unfold f_M_qFloor_J43
  refine tq_icmp_eq (E := E_M_qFloor d) (pc := 43) (tgt := 53) (cks_at k_M_qFloor 30 rfl rfl) (by decide) ?_ ?_
  · refine tq_lload 0 (E := E_M_qFloor d) (pc := 53) (cks_at k_M_qFloor 35 rfl rfl) rfl ?_
    exact tq_lret (E := E_M_qFloor d) (pc := 55) (cks_at k_M_qFloor 36 rfl rfl) rfl
  · refine tq_lload 0 (E := E_M_qFloor d) (pc := 46) (cks_at k_M_qFloor 31 rfl rfl) rfl ?_
    refine tq_lconst1 (E := E_M_qFloor d) (pc := 48) (cks_at k_M_qFloor 32 rfl rfl) ?_
    refine tq_lsub (E := E_M_qFloor d) (pc := 49) (cks_at k_M_qFloor 33 rfl rfl) ?_
    refine tq_goto (tgt := 55) (E := E_M_qFloor d) (pc := 50) (cks_at k_M_qFloor 34 rfl rfl) (by decide) ?_
    exact tq_lret (E := E_M_qFloor d) (pc := 55) (cks_at k_M_qFloor 36 rfl rfl) rfl
def f_M_qFloor_J32 (v2 v4 s0 : Int) (M : Mm) : Option (Int × Mm) :=
  if 0 ≤ i32 (cmp64 v2 0) then
    f_M_qFloor_J43 v4 0 s0 M
  else
    f_M_qFloor_J43 v4 1 s0 M
set_option maxRecDepth 20000 in
set_option maxHeartbeats 4000000 in
theorem w_M_qFloor_J32 (d : Nat) (v2 v4 s0 : Int) (M : Mm) : T (E_M_qFloor d) injJ 32 [(2, vJ v2), (4, vJ v4)] [vI s0] M (f_M_qFloor_J32 v2 v4 s0 M) := by
  unfold f_M_qFloor_J32
  refine tq_lload_n 0 (E := E_M_qFloor d) (pc := 32) (cks_at k_M_qFloor 23 rfl rfl) rfl ?_
  refine tq_lconst0 (E := E_M_qFloor d) (pc := 33) (cks_at k_M_qFloor 24 rfl rfl) ?_
  refine tq_lcmp (E := E_M_qFloor d) (pc := 34) (cks_at k_M_qFloor 25 rfl rfl) ?_
  refine tq_if_ge (E := E_M_qFloor d) (pc := 35) (tgt := 42) (cks_at k_M_qFloor 26 rfl rfl) (by decide) ?_ ?_
  · refine tq_iconst (E := E_M_qFloor d) (pc := 42) (cks_at k_M_qFloor 29 rfl rfl) ?_
    exact tq_sub [1] rfl (w_M_qFloor_J43 d v4 0 s0 M)
  · refine tq_iconst (E := E_M_qFloor d) (pc := 38) (cks_at k_M_qFloor 27 rfl rfl) ?_
    refine tq_goto (tgt := 43) (E := E_M_qFloor d) (pc := 39) (cks_at k_M_qFloor 28 rfl rfl) (by decide) ?_
    exact tq_sub [1] rfl (w_M_qFloor_J43 d v4 1 s0 M)
def f_M_qFloor (v0 : Int) (v2 : Int) (M : Mm) : Option (Int × Mm) :=
  if ¬ i32 (cmp64 v2 0) = 0 then
    gd (¬ i64 v2 = 0) <|
    gd (¬ i64 v2 = 0) <|
    if i32 (cmp64 ((i64 v0).tmod (i64 v2)) 0) = 0 then
      some ((i64 v0).tdiv (i64 v2), M)
    else
      if 0 ≤ i32 (cmp64 v0 0) then
        f_M_qFloor_J32 v2 ((i64 v0).tdiv (i64 v2)) 0 M
      else
        f_M_qFloor_J32 v2 ((i64 v0).tdiv (i64 v2)) 1 M
  else
    some (0, M)
set_option maxRecDepth 20000 in
set_option maxHeartbeats 4000000 in
theorem c_M_qFloor (d : Nat) (v0 : Int) (v2 : Int) (M : Mm) (Q : Option Value → Mm → Prop) (h : sat injJ (f_M_qFloor v0 v2 M) Q) : Ct (d + 1) y_M_qFloor [vJ v0, vJ v2] M Q := by
  refine ct_in (d := d + 0) mk_M_qFloor (Nat.le_of_ble_eq_true rfl) (?_ : T (E_M_qFloor d) injJ 0 [(0, vJ v0), (2, vJ v2)] [] M (f_M_qFloor v0 v2 M)) h
  unfold f_M_qFloor
  refine tq_lload_n 1 (E := E_M_qFloor d) (pc := 0) (cks_at k_M_qFloor 0 rfl rfl) rfl ?_
  refine tq_lconst0 (E := E_M_qFloor d) (pc := 1) (cks_at k_M_qFloor 1 rfl rfl) ?_
  refine tq_lcmp (E := E_M_qFloor d) (pc := 2) (cks_at k_M_qFloor 2 rfl rfl) ?_
  refine tq_if_ne (E := E_M_qFloor d) (pc := 3) (tgt := 8) (cks_at k_M_qFloor 3 rfl rfl) (by decide) ?_ ?_
  · refine tq_lload_n 0 (E := E_M_qFloor d) (pc := 8) (cks_at k_M_qFloor 6 rfl rfl) rfl ?_
    refine tq_lload_n 1 (E := E_M_qFloor d) (pc := 9) (cks_at k_M_qFloor 7 rfl rfl) rfl ?_
    refine tq_ldiv (E := E_M_qFloor d) (pc := 10) (cks_at k_M_qFloor 8 rfl rfl) ?_
    refine tq_lstore (E := E_M_qFloor d) (pc := 11) (cks_at k_M_qFloor 9 rfl rfl) (show 4 + 1 < 6 by decide) rfl ?_
    refine tq_lload_n 1 (E := E_M_qFloor d) (pc := 13) (cks_at k_M_qFloor 10 rfl rfl) rfl ?_
    refine tq_lload_n 2 (E := E_M_qFloor d) (pc := 14) (cks_at k_M_qFloor 11 rfl rfl) rfl ?_
    refine tq_lrem (E := E_M_qFloor d) (pc := 15) (cks_at k_M_qFloor 12 rfl rfl) ?_
    refine tq_lconst0 (E := E_M_qFloor d) (pc := 16) (cks_at k_M_qFloor 13 rfl rfl) ?_
    refine tq_lcmp (E := E_M_qFloor d) (pc := 17) (cks_at k_M_qFloor 14 rfl rfl) ?_
    refine tq_if_eq (E := E_M_qFloor d) (pc := 18) (tgt := 53) (cks_at k_M_qFloor 15 rfl rfl) (by decide) ?_ ?_
    · refine tq_lload 0 (E := E_M_qFloor d) (pc := 53) (cks_at k_M_qFloor 35 rfl rfl) rfl ?_
      exact tq_lret (E := E_M_qFloor d) (pc := 55) (cks_at k_M_qFloor 36 rfl rfl) rfl
    · refine tq_lload_n 1 (E := E_M_qFloor d) (pc := 21) (cks_at k_M_qFloor 16 rfl rfl) rfl ?_
      refine tq_lconst0 (E := E_M_qFloor d) (pc := 22) (cks_at k_M_qFloor 17 rfl rfl) ?_
      refine tq_lcmp (E := E_M_qFloor d) (pc := 23) (cks_at k_M_qFloor 18 rfl rfl) ?_
      refine tq_if_ge (E := E_M_qFloor d) (pc := 24) (tgt := 31) (cks_at k_M_qFloor 19 rfl rfl) (by decide) ?_ ?_
      · refine tq_iconst (E := E_M_qFloor d) (pc := 31) (cks_at k_M_qFloor 22 rfl rfl) ?_
        exact tq_sub [2, 0] rfl (w_M_qFloor_J32 d v2 ((i64 v0).tdiv (i64 v2)) 0 M)
      · refine tq_iconst (E := E_M_qFloor d) (pc := 27) (cks_at k_M_qFloor 20 rfl rfl) ?_
        refine tq_goto (tgt := 32) (E := E_M_qFloor d) (pc := 28) (cks_at k_M_qFloor 21 rfl rfl) (by decide) ?_
        exact tq_sub [2, 0] rfl (w_M_qFloor_J32 d v2 ((i64 v0).tdiv (i64 v2)) 1 M)
  · refine tq_lconst0 (E := E_M_qFloor d) (pc := 6) (cks_at k_M_qFloor 4 rfl rfl) ?_
    exact tq_lret (E := E_M_qFloor d) (pc := 7) (cks_at k_M_qFloor 5 rfl rfl) rfl
abbrev E_M_qJoins (d : Nat) : Ev := (Ct (d + 1), "BreathTownModel", prog_14_method_138_code, 6, False, 0, (fun _ => 0), (Option.none : Option Jvm.ClassFile.FieldType))
def f_M_qJoins (v1 : Int) (M : Mm) : Option (Mm) :=
  gd (0 ≤ i32 ((M 78 95) - 1) ∧ i32 ((M 78 95) - 1) < ((1700 : Nat) : Int)) <|
  gd (0 ≤ i32 ((M 78 95) - 2) ∧ i32 ((M 78 95) - 2) < ((1700 : Nat) : Int)) <|
  bd (up M 78 95 ((M 78 95) - 2)) (fun M1 =>
  if i32 v1 = 1 then
    bI (f_M_qClip ((M 144 (i32 ((M 78 95) - 2)).toNat) + (M 144 (i32 ((M 78 95) - 1)).toNat)) M1) (fun r4 M3 =>
    bV (f_M_qPuts r4 M3) (fun M5 =>
    some M5))
  else
  if i32 v1 = 2 then
    bI (f_M_qClip ((M 144 (i32 ((M 78 95) - 2)).toNat) - (M 144 (i32 ((M 78 95) - 1)).toNat)) M1) (fun r8 M7 =>
    bV (f_M_qPuts r8 M7) (fun M9 =>
    some M9))
  else
  if i32 v1 = 3 then
    bI (f_M_qClip ((M 144 (i32 ((M 78 95) - 2)).toNat) * (M 144 (i32 ((M 78 95) - 1)).toNat)) M1) (fun r12 M11 =>
    bV (f_M_qPuts r12 M11) (fun M13 =>
    some M13))
  else
  if i32 v1 = 4 then
    bI (f_M_qFloor (M 144 (i32 ((M 78 95) - 2)).toNat) (M 144 (i32 ((M 78 95) - 1)).toNat) M1) (fun r16 M15 =>
    bV (f_M_qPuts r16 M15) (fun M17 =>
    some M17))
  else
  if i32 v1 = 5 then
    if 0 ≤ i32 (cmp64 (M 144 (i32 ((M 78 95) - 2)).toNat) (M 144 (i32 ((M 78 95) - 1)).toNat)) then
      bV (f_M_qPuts (M 144 (i32 ((M 78 95) - 1)).toNat) M1) (fun M19 =>
      some M19)
    else
      bV (f_M_qPuts (M 144 (i32 ((M 78 95) - 2)).toNat) M1) (fun M20 =>
      some M20)
  else
  if i32 v1 = 6 then
    if i32 (cmp64 (M 144 (i32 ((M 78 95) - 2)).toNat) (M 144 (i32 ((M 78 95) - 1)).toNat)) ≤ 0 then
      bV (f_M_qPuts (M 144 (i32 ((M 78 95) - 1)).toNat) M1) (fun M22 =>
      some M22)
    else
      bV (f_M_qPuts (M 144 (i32 ((M 78 95) - 2)).toNat) M1) (fun M23 =>
      some M23)
  else
  if i32 v1 = 7 then
    if 0 ≤ i32 (cmp64 (M 144 (i32 ((M 78 95) - 2)).toNat) (M 144 (i32 ((M 78 95) - 1)).toNat)) then
      bV (f_M_qPuts 0 M1) (fun M25 =>
      some M25)
    else
      bV (f_M_qPuts 1 M1) (fun M26 =>
      some M26)
  else
  if i32 v1 = 8 then
    if i32 (cmp64 (M 144 (i32 ((M 78 95) - 2)).toNat) (M 144 (i32 ((M 78 95) - 1)).toNat)) ≤ 0 then
      bV (f_M_qPuts 0 M1) (fun M28 =>
      some M28)
    else
      bV (f_M_qPuts 1 M1) (fun M29 =>
      some M29)
  else
  if i32 v1 = 9 then
    if ¬ i32 (cmp64 (M 144 (i32 ((M 78 95) - 2)).toNat) (M 144 (i32 ((M 78 95) - 1)).toNat)) = 0 then
      bV (f_M_qPuts 0 M1) (fun M31 =>
      some M31)
    else
      bV (f_M_qPuts 1 M1) (fun M32 =>
      some M32)
  else
  if i32 v1 = 10 then
    bV (f_M_qPuts ((M 144 (i32 ((M 78 95) - 2)).toNat) * (M 144 (i32 ((M 78 95) - 1)).toNat)) M1) (fun M34 =>
    some M34)
  else
  if i32 (cmp64 ((M 144 (i32 ((M 78 95) - 2)).toNat) + (M 144 (i32 ((M 78 95) - 1)).toNat)) 0) ≤ 0 then
    bV (f_M_qPuts 0 M1) (fun M35 =>
    some M35)
  else
    bV (f_M_qPuts 1 M1) (fun M36 =>
    some M36))
set_option maxRecDepth 20000 in
set_option maxHeartbeats 4000000 in
theorem c_M_qJoins (d : Nat) (v1 : Int) (M : Mm) (Q : Option Value → Mm → Prop) (h : sat injV (f_M_qJoins v1 M) Q) : Ct (d + 2) y_M_qJoins [.ref 78, vI v1] M Q := by
  refine ct_in (d := d + 1) mk_M_qJoins (Nat.le_of_ble_eq_true rfl) (?_ : T (E_M_qJoins d) injV 0 [(0, .ref 78), (1, vI v1)] [] M (f_M_qJoins v1 M)) h
  unfold f_M_qJoins
  refine tq_aload_n 0 (E := E_M_qJoins d) (pc := 0) (cks_at k_M_qJoins 0 rfl rfl) rfl ?_
  refine tq_getR (j := 144) (E := E_M_qJoins d) (pc := 1) (cks_at k_M_qJoins 1 rfl rfl) fo_M_216 so_78 rfl sp_78_94 ?_
  refine tq_aload_n 0 (E := E_M_qJoins d) (pc := 4) (cks_at k_M_qJoins 2 rfl rfl) rfl ?_
  refine tq_getI (E := E_M_qJoins d) (pc := 5) (cks_at k_M_qJoins 3 rfl rfl) fo_M_680 so_78 rfl (by decide) ?_
  refine tq_iconst (E := E_M_qJoins d) (pc := 8) (cks_at k_M_qJoins 4 rfl rfl) ?_
  refine tq_isub (E := E_M_qJoins d) (pc := 9) (cks_at k_M_qJoins 5 rfl rfl) ?_
  refine tq_lald (E := E_M_qJoins d) (pc := 10) (cks_at k_M_qJoins 6 rfl rfl) sa_144 sn_144 ?_
  refine tq_lstore_n (E := E_M_qJoins d) (pc := 11) (cks_at k_M_qJoins 7 rfl rfl) (show 2 + 1 < 6 by decide) rfl ?_
  refine tq_aload_n 1 (E := E_M_qJoins d) (pc := 12) (cks_at k_M_qJoins 8 rfl rfl) rfl ?_
  refine tq_getR (j := 144) (E := E_M_qJoins d) (pc := 13) (cks_at k_M_qJoins 9 rfl rfl) fo_M_216 so_78 rfl sp_78_94 ?_
  refine tq_aload_n 1 (E := E_M_qJoins d) (pc := 16) (cks_at k_M_qJoins 10 rfl rfl) rfl ?_
  refine tq_getI (E := E_M_qJoins d) (pc := 17) (cks_at k_M_qJoins 11 rfl rfl) fo_M_680 so_78 rfl (by decide) ?_
  refine tq_iconst (E := E_M_qJoins d) (pc := 20) (cks_at k_M_qJoins 12 rfl rfl) ?_
  refine tq_isub (E := E_M_qJoins d) (pc := 21) (cks_at k_M_qJoins 13 rfl rfl) ?_
  refine tq_lald (E := E_M_qJoins d) (pc := 22) (cks_at k_M_qJoins 14 rfl rfl) sa_144 sn_144 ?_
  refine tq_lstore (E := E_M_qJoins d) (pc := 23) (cks_at k_M_qJoins 15 rfl rfl) (show 4 + 1 < 6 by decide) rfl ?_
  refine tq_aload_n 2 (E := E_M_qJoins d) (pc := 25) (cks_at k_M_qJoins 16 rfl rfl) rfl ?_
  refine tq_dup (E := E_M_qJoins d) (pc := 26) (cks_at k_M_qJoins 17 rfl rfl) rfl ?_
  refine tq_getI (E := E_M_qJoins d) (pc := 27) (cks_at k_M_qJoins 18 rfl rfl) fo_M_680 so_78 rfl (by decide) ?_
  refine tq_iconst (E := E_M_qJoins d) (pc := 30) (cks_at k_M_qJoins 19 rfl rfl) ?_
  refine tq_isub (E := E_M_qJoins d) (pc := 31) (cks_at k_M_qJoins 20 rfl rfl) ?_
  refine tq_putI (E := E_M_qJoins d) (pc := 32) (cks_at k_M_qJoins 21 rfl rfl) fo_M_680 so_78 rfl po_12_95 (fun M1 => ?_)
  refine tq_iload_n 3 (E := E_M_qJoins d) (pc := 35) (cks_at k_M_qJoins 22 rfl rfl) rfl ?_
  refine tq_tsC (E := E_M_qJoins d) (pc := 36) (tgt := 92) (off := 56) (w := 1) 0 k_M_qJoins_36 (by decide) rfl (by decide) ?_ (fun h2 => ?_)
  · refine tq_aload_n 2 (E := E_M_qJoins d) (pc := 92) (cks_at k_M_qJoins 24 rfl rfl) rfl ?_
    refine tq_lload 0 (E := E_M_qJoins d) (pc := 93) (cks_at k_M_qJoins 25 rfl rfl) rfl ?_
    refine tq_lload_n 1 (E := E_M_qJoins d) (pc := 95) (cks_at k_M_qJoins 26 rfl rfl) rfl ?_
    refine tq_ladd (E := E_M_qJoins d) (pc := 96) (cks_at k_M_qJoins 27 rfl rfl) ?_
    refine tq_S1 (E := E_M_qJoins d) (pc := 97) (cks_at k_M_qJoins 28 rfl rfl) mk_M_qClip lk_M_683 (Nat.le_of_ble_eq_true rfl) (c_M_qClip (d + 0) ((M 144 (i32 ((M 78 95) - 2)).toNat) + (M 144 (i32 ((M 78 95) - 1)).toNat)) M1) (k_J fun r4 M3 => ?_)
    refine tq_V1 (E := E_M_qJoins d) (pc := 100) (cks_at k_M_qJoins 29 rfl rfl) mk_M_qPuts lk_M_686 rc_78 (Nat.le_of_ble_eq_true rfl) (c_M_qPuts (d + 0) r4 M3) (k_V fun M5 => ?_)
    refine tq_goto (tgt := 273) (E := E_M_qJoins d) (pc := 103) (cks_at k_M_qJoins 30 rfl rfl) (by decide) ?_
    exact tq_vret (E := E_M_qJoins d) (pc := 273) (cks_at k_M_qJoins 118 rfl rfl) rfl
  refine tq_tsC (E := E_M_qJoins d) (pc := 36) (tgt := 106) (off := 70) (w := 2) 1 k_M_qJoins_36 (by decide) rfl (by decide) ?_ (fun h6 => ?_)
  · refine tq_aload_n 2 (E := E_M_qJoins d) (pc := 106) (cks_at k_M_qJoins 31 rfl rfl) rfl ?_
    refine tq_lload 0 (E := E_M_qJoins d) (pc := 107) (cks_at k_M_qJoins 32 rfl rfl) rfl ?_
    refine tq_lload_n 1 (E := E_M_qJoins d) (pc := 109) (cks_at k_M_qJoins 33 rfl rfl) rfl ?_
    refine tq_lsub (E := E_M_qJoins d) (pc := 110) (cks_at k_M_qJoins 34 rfl rfl) ?_
    refine tq_S1 (E := E_M_qJoins d) (pc := 111) (cks_at k_M_qJoins 35 rfl rfl) mk_M_qClip lk_M_683 (Nat.le_of_ble_eq_true rfl) (c_M_qClip (d + 0) ((M 144 (i32 ((M 78 95) - 2)).toNat) - (M 144 (i32 ((M 78 95) - 1)).toNat)) M1) (k_J fun r8 M7 => ?_)
    refine tq_V1 (E := E_M_qJoins d) (pc := 114) (cks_at k_M_qJoins 36 rfl rfl) mk_M_qPuts lk_M_686 rc_78 (Nat.le_of_ble_eq_true rfl) (c_M_qPuts (d + 0) r8 M7) (k_V fun M9 => ?_)
    refine tq_goto (tgt := 273) (E := E_M_qJoins d) (pc := 117) (cks_at k_M_qJoins 37 rfl rfl) (by decide) ?_
    exact tq_vret (E := E_M_qJoins d) (pc := 273) (cks_at k_M_qJoins 118 rfl rfl) rfl
  refine tq_tsC (E := E_M_qJoins d) (pc := 36) (tgt := 120) (off := 84) (w := 3) 2 k_M_qJoins_36 (by decide) rfl (by decide) ?_ (fun h10 => ?_)
  · refine tq_aload_n 2 (E := E_M_qJoins d) (pc := 120) (cks_at k_M_qJoins 38 rfl rfl) rfl ?_
    refine tq_lload 0 (E := E_M_qJoins d) (pc := 121) (cks_at k_M_qJoins 39 rfl rfl) rfl ?_
    refine tq_lload_n 1 (E := E_M_qJoins d) (pc := 123) (cks_at k_M_qJoins 40 rfl rfl) rfl ?_
    refine tq_lmul (E := E_M_qJoins d) (pc := 124) (cks_at k_M_qJoins 41 rfl rfl) ?_
    refine tq_S1 (E := E_M_qJoins d) (pc := 125) (cks_at k_M_qJoins 42 rfl rfl) mk_M_qClip lk_M_683 (Nat.le_of_ble_eq_true rfl) (c_M_qClip (d + 0) ((M 144 (i32 ((M 78 95) - 2)).toNat) * (M 144 (i32 ((M 78 95) - 1)).toNat)) M1) (k_J fun r12 M11 => ?_)
    refine tq_V1 (E := E_M_qJoins d) (pc := 128) (cks_at k_M_qJoins 43 rfl rfl) mk_M_qPuts lk_M_686 rc_78 (Nat.le_of_ble_eq_true rfl) (c_M_qPuts (d + 0) r12 M11) (k_V fun M13 => ?_)
    refine tq_goto (tgt := 273) (E := E_M_qJoins d) (pc := 131) (cks_at k_M_qJoins 44 rfl rfl) (by decide) ?_
    exact tq_vret (E := E_M_qJoins d) (pc := 273) (cks_at k_M_qJoins 118 rfl rfl) rfl
  refine tq_tsC (E := E_M_qJoins d) (pc := 36) (tgt := 134) (off := 98) (w := 4) 3 k_M_qJoins_36 (by decide) rfl (by decide) ?_ (fun h14 => ?_)
  · refine tq_aload_n 2 (E := E_M_qJoins d) (pc := 134) (cks_at k_M_qJoins 45 rfl rfl) rfl ?_
    refine tq_lload 0 (E := E_M_qJoins d) (pc := 135) (cks_at k_M_qJoins 46 rfl rfl) rfl ?_
    refine tq_lload_n 1 (E := E_M_qJoins d) (pc := 137) (cks_at k_M_qJoins 47 rfl rfl) rfl ?_
    refine tq_S2 (E := E_M_qJoins d) (pc := 138) (cks_at k_M_qJoins 48 rfl rfl) mk_M_qFloor lk_M_689 (Nat.le_of_ble_eq_true rfl) (c_M_qFloor (d + 0) (M 144 (i32 ((M 78 95) - 2)).toNat) (M 144 (i32 ((M 78 95) - 1)).toNat) M1) (k_J fun r16 M15 => ?_)
    refine tq_V1 (E := E_M_qJoins d) (pc := 141) (cks_at k_M_qJoins 49 rfl rfl) mk_M_qPuts lk_M_686 rc_78 (Nat.le_of_ble_eq_true rfl) (c_M_qPuts (d + 0) r16 M15) (k_V fun M17 => ?_)
    refine tq_goto (tgt := 273) (E := E_M_qJoins d) (pc := 144) (cks_at k_M_qJoins 50 rfl rfl) (by decide) ?_
    exact tq_vret (E := E_M_qJoins d) (pc := 273) (cks_at k_M_qJoins 118 rfl rfl) rfl
  refine tq_tsC (E := E_M_qJoins d) (pc := 36) (tgt := 147) (off := 111) (w := 5) 4 k_M_qJoins_36 (by decide) rfl (by decide) ?_ (fun h18 => ?_)
  · refine tq_aload_n 2 (E := E_M_qJoins d) (pc := 147) (cks_at k_M_qJoins 51 rfl rfl) rfl ?_
    refine tq_lload 0 (E := E_M_qJoins d) (pc := 148) (cks_at k_M_qJoins 52 rfl rfl) rfl ?_
    refine tq_lload_n 1 (E := E_M_qJoins d) (pc := 150) (cks_at k_M_qJoins 53 rfl rfl) rfl ?_
    refine tq_lcmp (E := E_M_qJoins d) (pc := 151) (cks_at k_M_qJoins 54 rfl rfl) ?_
    refine tq_if_ge (E := E_M_qJoins d) (pc := 152) (tgt := 160) (cks_at k_M_qJoins 55 rfl rfl) (by decide) ?_ ?_
    · refine tq_lload_n 1 (E := E_M_qJoins d) (pc := 160) (cks_at k_M_qJoins 58 rfl rfl) rfl ?_
      refine tq_V1 (E := E_M_qJoins d) (pc := 161) (cks_at k_M_qJoins 59 rfl rfl) mk_M_qPuts lk_M_686 rc_78 (Nat.le_of_ble_eq_true rfl) (c_M_qPuts (d + 0) (M 144 (i32 ((M 78 95) - 1)).toNat) M1) (k_V fun M19 => ?_)
      refine tq_goto (tgt := 273) (E := E_M_qJoins d) (pc := 164) (cks_at k_M_qJoins 60 rfl rfl) (by decide) ?_
      exact tq_vret (E := E_M_qJoins d) (pc := 273) (cks_at k_M_qJoins 118 rfl rfl) rfl
    · refine tq_lload 0 (E := E_M_qJoins d) (pc := 155) (cks_at k_M_qJoins 56 rfl rfl) rfl ?_
      refine tq_goto (tgt := 161) (E := E_M_qJoins d) (pc := 157) (cks_at k_M_qJoins 57 rfl rfl) (by decide) ?_
      refine tq_V1 (E := E_M_qJoins d) (pc := 161) (cks_at k_M_qJoins 59 rfl rfl) mk_M_qPuts lk_M_686 rc_78 (Nat.le_of_ble_eq_true rfl) (c_M_qPuts (d + 0) (M 144 (i32 ((M 78 95) - 2)).toNat) M1) (k_V fun M20 => ?_)
      refine tq_goto (tgt := 273) (E := E_M_qJoins d) (pc := 164) (cks_at k_M_qJoins 60 rfl rfl) (by decide) ?_
      exact tq_vret (E := E_M_qJoins d) (pc := 273) (cks_at k_M_qJoins 118 rfl rfl) rfl
  refine tq_tsC (E := E_M_qJoins d) (pc := 36) (tgt := 167) (off := 131) (w := 6) 5 k_M_qJoins_36 (by decide) rfl (by decide) ?_ (fun h21 => ?_)
  · refine tq_aload_n 2 (E := E_M_qJoins d) (pc := 167) (cks_at k_M_qJoins 61 rfl rfl) rfl ?_
    refine tq_lload 0 (E := E_M_qJoins d) (pc := 168) (cks_at k_M_qJoins 62 rfl rfl) rfl ?_
    refine tq_lload_n 1 (E := E_M_qJoins d) (pc := 170) (cks_at k_M_qJoins 63 rfl rfl) rfl ?_
    refine tq_lcmp (E := E_M_qJoins d) (pc := 171) (cks_at k_M_qJoins 64 rfl rfl) ?_
    refine tq_if_le (E := E_M_qJoins d) (pc := 172) (tgt := 180) (cks_at k_M_qJoins 65 rfl rfl) (by decide) ?_ ?_
    · refine tq_lload_n 1 (E := E_M_qJoins d) (pc := 180) (cks_at k_M_qJoins 68 rfl rfl) rfl ?_
      refine tq_V1 (E := E_M_qJoins d) (pc := 181) (cks_at k_M_qJoins 69 rfl rfl) mk_M_qPuts lk_M_686 rc_78 (Nat.le_of_ble_eq_true rfl) (c_M_qPuts (d + 0) (M 144 (i32 ((M 78 95) - 1)).toNat) M1) (k_V fun M22 => ?_)
      refine tq_goto (tgt := 273) (E := E_M_qJoins d) (pc := 184) (cks_at k_M_qJoins 70 rfl rfl) (by decide) ?_
      exact tq_vret (E := E_M_qJoins d) (pc := 273) (cks_at k_M_qJoins 118 rfl rfl) rfl
    · refine tq_lload 0 (E := E_M_qJoins d) (pc := 175) (cks_at k_M_qJoins 66 rfl rfl) rfl ?_
      refine tq_goto (tgt := 181) (E := E_M_qJoins d) (pc := 177) (cks_at k_M_qJoins 67 rfl rfl) (by decide) ?_
      refine tq_V1 (E := E_M_qJoins d) (pc := 181) (cks_at k_M_qJoins 69 rfl rfl) mk_M_qPuts lk_M_686 rc_78 (Nat.le_of_ble_eq_true rfl) (c_M_qPuts (d + 0) (M 144 (i32 ((M 78 95) - 2)).toNat) M1) (k_V fun M23 => ?_)
      refine tq_goto (tgt := 273) (E := E_M_qJoins d) (pc := 184) (cks_at k_M_qJoins 70 rfl rfl) (by decide) ?_
      exact tq_vret (E := E_M_qJoins d) (pc := 273) (cks_at k_M_qJoins 118 rfl rfl) rfl
  refine tq_tsC (E := E_M_qJoins d) (pc := 36) (tgt := 187) (off := 151) (w := 7) 6 k_M_qJoins_36 (by decide) rfl (by decide) ?_ (fun h24 => ?_)
  · refine tq_aload_n 2 (E := E_M_qJoins d) (pc := 187) (cks_at k_M_qJoins 71 rfl rfl) rfl ?_
    refine tq_lload 0 (E := E_M_qJoins d) (pc := 188) (cks_at k_M_qJoins 72 rfl rfl) rfl ?_
    refine tq_lload_n 1 (E := E_M_qJoins d) (pc := 190) (cks_at k_M_qJoins 73 rfl rfl) rfl ?_
    refine tq_lcmp (E := E_M_qJoins d) (pc := 191) (cks_at k_M_qJoins 74 rfl rfl) ?_
    refine tq_if_ge (E := E_M_qJoins d) (pc := 192) (tgt := 199) (cks_at k_M_qJoins 75 rfl rfl) (by decide) ?_ ?_
    · refine tq_lconst0 (E := E_M_qJoins d) (pc := 199) (cks_at k_M_qJoins 78 rfl rfl) ?_
      refine tq_V1 (E := E_M_qJoins d) (pc := 200) (cks_at k_M_qJoins 79 rfl rfl) mk_M_qPuts lk_M_686 rc_78 (Nat.le_of_ble_eq_true rfl) (c_M_qPuts (d + 0) 0 M1) (k_V fun M25 => ?_)
      refine tq_goto (tgt := 273) (E := E_M_qJoins d) (pc := 203) (cks_at k_M_qJoins 80 rfl rfl) (by decide) ?_
      exact tq_vret (E := E_M_qJoins d) (pc := 273) (cks_at k_M_qJoins 118 rfl rfl) rfl
    · refine tq_lconst1 (E := E_M_qJoins d) (pc := 195) (cks_at k_M_qJoins 76 rfl rfl) ?_
      refine tq_goto (tgt := 200) (E := E_M_qJoins d) (pc := 196) (cks_at k_M_qJoins 77 rfl rfl) (by decide) ?_
      refine tq_V1 (E := E_M_qJoins d) (pc := 200) (cks_at k_M_qJoins 79 rfl rfl) mk_M_qPuts lk_M_686 rc_78 (Nat.le_of_ble_eq_true rfl) (c_M_qPuts (d + 0) 1 M1) (k_V fun M26 => ?_)
      refine tq_goto (tgt := 273) (E := E_M_qJoins d) (pc := 203) (cks_at k_M_qJoins 80 rfl rfl) (by decide) ?_
      exact tq_vret (E := E_M_qJoins d) (pc := 273) (cks_at k_M_qJoins 118 rfl rfl) rfl
  refine tq_tsC (E := E_M_qJoins d) (pc := 36) (tgt := 206) (off := 170) (w := 8) 7 k_M_qJoins_36 (by decide) rfl (by decide) ?_ (fun h27 => ?_)
  · refine tq_aload_n 2 (E := E_M_qJoins d) (pc := 206) (cks_at k_M_qJoins 81 rfl rfl) rfl ?_
    refine tq_lload 0 (E := E_M_qJoins d) (pc := 207) (cks_at k_M_qJoins 82 rfl rfl) rfl ?_
    refine tq_lload_n 1 (E := E_M_qJoins d) (pc := 209) (cks_at k_M_qJoins 83 rfl rfl) rfl ?_
    refine tq_lcmp (E := E_M_qJoins d) (pc := 210) (cks_at k_M_qJoins 84 rfl rfl) ?_
    refine tq_if_le (E := E_M_qJoins d) (pc := 211) (tgt := 218) (cks_at k_M_qJoins 85 rfl rfl) (by decide) ?_ ?_
    · refine tq_lconst0 (E := E_M_qJoins d) (pc := 218) (cks_at k_M_qJoins 88 rfl rfl) ?_
      refine tq_V1 (E := E_M_qJoins d) (pc := 219) (cks_at k_M_qJoins 89 rfl rfl) mk_M_qPuts lk_M_686 rc_78 (Nat.le_of_ble_eq_true rfl) (c_M_qPuts (d + 0) 0 M1) (k_V fun M28 => ?_)
      refine tq_goto (tgt := 273) (E := E_M_qJoins d) (pc := 222) (cks_at k_M_qJoins 90 rfl rfl) (by decide) ?_
      exact tq_vret (E := E_M_qJoins d) (pc := 273) (cks_at k_M_qJoins 118 rfl rfl) rfl
    · refine tq_lconst1 (E := E_M_qJoins d) (pc := 214) (cks_at k_M_qJoins 86 rfl rfl) ?_
      refine tq_goto (tgt := 219) (E := E_M_qJoins d) (pc := 215) (cks_at k_M_qJoins 87 rfl rfl) (by decide) ?_
      refine tq_V1 (E := E_M_qJoins d) (pc := 219) (cks_at k_M_qJoins 89 rfl rfl) mk_M_qPuts lk_M_686 rc_78 (Nat.le_of_ble_eq_true rfl) (c_M_qPuts (d + 0) 1 M1) (k_V fun M29 => ?_)
      refine tq_goto (tgt := 273) (E := E_M_qJoins d) (pc := 222) (cks_at k_M_qJoins 90 rfl rfl) (by decide) ?_
      exact tq_vret (E := E_M_qJoins d) (pc := 273) (cks_at k_M_qJoins 118 rfl rfl) rfl
  refine tq_tsC (E := E_M_qJoins d) (pc := 36) (tgt := 225) (off := 189) (w := 9) 8 k_M_qJoins_36 (by decide) rfl (by decide) ?_ (fun h30 => ?_)
  · refine tq_aload_n 2 (E := E_M_qJoins d) (pc := 225) (cks_at k_M_qJoins 91 rfl rfl) rfl ?_
    refine tq_lload 0 (E := E_M_qJoins d) (pc := 226) (cks_at k_M_qJoins 92 rfl rfl) rfl ?_
    refine tq_lload_n 1 (E := E_M_qJoins d) (pc := 228) (cks_at k_M_qJoins 93 rfl rfl) rfl ?_
    refine tq_lcmp (E := E_M_qJoins d) (pc := 229) (cks_at k_M_qJoins 94 rfl rfl) ?_
    refine tq_if_ne (E := E_M_qJoins d) (pc := 230) (tgt := 237) (cks_at k_M_qJoins 95 rfl rfl) (by decide) ?_ ?_
    · refine tq_lconst0 (E := E_M_qJoins d) (pc := 237) (cks_at k_M_qJoins 98 rfl rfl) ?_
      refine tq_V1 (E := E_M_qJoins d) (pc := 238) (cks_at k_M_qJoins 99 rfl rfl) mk_M_qPuts lk_M_686 rc_78 (Nat.le_of_ble_eq_true rfl) (c_M_qPuts (d + 0) 0 M1) (k_V fun M31 => ?_)
      refine tq_goto (tgt := 273) (E := E_M_qJoins d) (pc := 241) (cks_at k_M_qJoins 100 rfl rfl) (by decide) ?_
      exact tq_vret (E := E_M_qJoins d) (pc := 273) (cks_at k_M_qJoins 118 rfl rfl) rfl
    · refine tq_lconst1 (E := E_M_qJoins d) (pc := 233) (cks_at k_M_qJoins 96 rfl rfl) ?_
      refine tq_goto (tgt := 238) (E := E_M_qJoins d) (pc := 234) (cks_at k_M_qJoins 97 rfl rfl) (by decide) ?_
      refine tq_V1 (E := E_M_qJoins d) (pc := 238) (cks_at k_M_qJoins 99 rfl rfl) mk_M_qPuts lk_M_686 rc_78 (Nat.le_of_ble_eq_true rfl) (c_M_qPuts (d + 0) 1 M1) (k_V fun M32 => ?_)
      refine tq_goto (tgt := 273) (E := E_M_qJoins d) (pc := 241) (cks_at k_M_qJoins 100 rfl rfl) (by decide) ?_
      exact tq_vret (E := E_M_qJoins d) (pc := 273) (cks_at k_M_qJoins 118 rfl rfl) rfl
  refine tq_tsC (E := E_M_qJoins d) (pc := 36) (tgt := 244) (off := 208) (w := 10) 9 k_M_qJoins_36 (by decide) rfl (by decide) ?_ (fun h33 => ?_)
  · refine tq_aload_n 2 (E := E_M_qJoins d) (pc := 244) (cks_at k_M_qJoins 101 rfl rfl) rfl ?_
    refine tq_lload 0 (E := E_M_qJoins d) (pc := 245) (cks_at k_M_qJoins 102 rfl rfl) rfl ?_
    refine tq_lload_n 1 (E := E_M_qJoins d) (pc := 247) (cks_at k_M_qJoins 103 rfl rfl) rfl ?_
    refine tq_lmul (E := E_M_qJoins d) (pc := 248) (cks_at k_M_qJoins 104 rfl rfl) ?_
    refine tq_V1 (E := E_M_qJoins d) (pc := 249) (cks_at k_M_qJoins 105 rfl rfl) mk_M_qPuts lk_M_686 rc_78 (Nat.le_of_ble_eq_true rfl) (c_M_qPuts (d + 0) ((M 144 (i32 ((M 78 95) - 2)).toNat) * (M 144 (i32 ((M 78 95) - 1)).toNat)) M1) (k_V fun M34 => ?_)
    refine tq_goto (tgt := 273) (E := E_M_qJoins d) (pc := 252) (cks_at k_M_qJoins 106 rfl rfl) (by decide) ?_
    exact tq_vret (E := E_M_qJoins d) (pc := 273) (cks_at k_M_qJoins 118 rfl rfl) rfl
  refine tq_tsD (E := E_M_qJoins d) (pc := 36) (tgt := 255) k_M_qJoins_36 (by omega) (by decide) ?_
  refine tq_aload_n 2 (E := E_M_qJoins d) (pc := 255) (cks_at k_M_qJoins 107 rfl rfl) rfl ?_
  refine tq_lload 0 (E := E_M_qJoins d) (pc := 256) (cks_at k_M_qJoins 108 rfl rfl) rfl ?_
  refine tq_lload_n 1 (E := E_M_qJoins d) (pc := 258) (cks_at k_M_qJoins 109 rfl rfl) rfl ?_
  refine tq_ladd (E := E_M_qJoins d) (pc := 259) (cks_at k_M_qJoins 110 rfl rfl) ?_
  refine tq_lconst0 (E := E_M_qJoins d) (pc := 260) (cks_at k_M_qJoins 111 rfl rfl) ?_
  refine tq_lcmp (E := E_M_qJoins d) (pc := 261) (cks_at k_M_qJoins 112 rfl rfl) ?_
  refine tq_if_le (E := E_M_qJoins d) (pc := 262) (tgt := 269) (cks_at k_M_qJoins 113 rfl rfl) (by decide) ?_ ?_
  · refine tq_lconst0 (E := E_M_qJoins d) (pc := 269) (cks_at k_M_qJoins 116 rfl rfl) ?_
    refine tq_V1 (E := E_M_qJoins d) (pc := 270) (cks_at k_M_qJoins 117 rfl rfl) mk_M_qPuts lk_M_686 rc_78 (Nat.le_of_ble_eq_true rfl) (c_M_qPuts (d + 0) 0 M1) (k_V fun M35 => ?_)
    exact tq_vret (E := E_M_qJoins d) (pc := 273) (cks_at k_M_qJoins 118 rfl rfl) rfl
  · refine tq_lconst1 (E := E_M_qJoins d) (pc := 265) (cks_at k_M_qJoins 114 rfl rfl) ?_
    refine tq_goto (tgt := 270) (E := E_M_qJoins d) (pc := 266) (cks_at k_M_qJoins 115 rfl rfl) (by decide) ?_
    refine tq_V1 (E := E_M_qJoins d) (pc := 270) (cks_at k_M_qJoins 117 rfl rfl) mk_M_qPuts lk_M_686 rc_78 (Nat.le_of_ble_eq_true rfl) (c_M_qPuts (d + 0) 1 M1) (k_V fun M36 => ?_)
    exact tq_vret (E := E_M_qJoins d) (pc := 273) (cks_at k_M_qJoins 118 rfl rfl) rfl
abbrev E_M_qTold (d : Nat) : Ev := (Ct (d + 9), "BreathTownModel", prog_14_method_141_code, 4, False, 0, (fun _ => 0), (Option.some Jvm.ClassFile.FieldType.long))
def f_M_qTold_B7 (kH : Int → Int → Mm → Option (Int × Mm)) (v1 v2 : Int) (M : Mm) : Option (Int × Mm) :=
  if i32 (M 78 89) ≤ i32 v2 then
    some (M 144 0, M)
  else
    gd (0 ≤ i32 v2 ∧ i32 v2 < ((1700 : Nat) : Int)) <|
    if i32 (M 142 (i32 v2).toNat) < i32 1000 then
      if i32 (M 142 (i32 v2).toNat) < i32 60 then
        if i32 (M 142 (i32 v2).toNat) < i32 40 then
          if ¬ i32 (M 142 (i32 v2).toNat) = i32 13 then
            if ¬ i32 (M 142 (i32 v2).toNat) = i32 12 then
              bV (f_M_qJoins (M 142 (i32 v2).toNat) M) (fun M2 =>
              kH v1 (v2 + 1) M2)
            else
              gd (0 ≤ i32 ((M 78 95) - 1) ∧ i32 ((M 78 95) - 1) < ((1700 : Nat) : Int)) <|
              gd (0 ≤ i32 ((M 78 95) - 1) ∧ i32 ((M 78 95) - 1) < ((1700 : Nat) : Int)) <|
              bd (up M 144 (i32 ((M 78 95) - 1)).toNat (1 - (M 144 (i32 ((M 78 95) - 1)).toNat))) (fun M3 =>
              kH v1 (v2 + 1) M3)
          else
            bV (f_M_qPuts 1 M) (fun M4 =>
            kH v1 (v2 + 1) M4)
        else
          bI (f_M_qPartOf ((M 142 (i32 v2).toNat) - 40) v1 M) (fun r6 M5 =>
          bI (f_M_qClip r6 M5) (fun r8 M7 =>
          bV (f_M_qPuts r8 M7) (fun M9 =>
          kH v1 (v2 + 1) M9)))
      else
        gd (0 ≤ i32 ((M 78 95) - 1) ∧ i32 ((M 78 95) - 1) < ((1700 : Nat) : Int)) <|
        bI (f_M_qOf ((M 142 (i32 v2).toNat) - 60) (M 144 (i32 ((M 78 95) - 1)).toNat) v1 M) (fun r11 M10 =>
        bI (f_M_qClip r11 M10) (fun r13 M12 =>
        gd (0 ≤ i32 ((M 78 95) - 1) ∧ i32 ((M 78 95) - 1) < ((1700 : Nat) : Int)) <|
        bd (up M12 144 (i32 ((M 78 95) - 1)).toNat r13) (fun M14 =>
        kH v1 (v2 + 1) M14)))
    else
      bV (f_M_qPuts (i32 ((M 142 (i32 v2).toNat) - 1000)) M) (fun M15 =>
      kH v1 (v2 + 1) M15)
set_option maxRecDepth 20000 in
set_option maxHeartbeats 4000000 in
theorem w_M_qTold_B7 (d : Nat) (kH : Int → Int → Mm → Option (Int × Mm)) (hkH : ∀ (v1 v2 : Int) (M : Mm), T (E_M_qTold d) injJ 7 [(0, .ref 78), (1, vI v1), (2, vI v2)] [] M (kH v1 v2 M)) (v1 v2 : Int) (M : Mm) : T (E_M_qTold d) injJ 7 [(0, .ref 78), (1, vI v1), (2, vI v2)] [] M (f_M_qTold_B7 kH v1 v2 M) := by
  unfold f_M_qTold_B7
  refine tq_iload_n 2 (E := E_M_qTold d) (pc := 7) (cks_at k_M_qTold 5 rfl rfl) rfl ?_
  refine tq_aload_n 0 (E := E_M_qTold d) (pc := 8) (cks_at k_M_qTold 6 rfl rfl) rfl ?_
  refine tq_getI (E := E_M_qTold d) (pc := 9) (cks_at k_M_qTold 7 rfl rfl) fo_M_614 so_78 rfl (by decide) ?_
  refine tq_icmp_ge (E := E_M_qTold d) (pc := 12) (tgt := 168) (cks_at k_M_qTold 8 rfl rfl) (by decide) ?_ ?_
  · refine tq_aload_n 0 (E := E_M_qTold d) (pc := 168) (cks_at k_M_qTold 94 rfl rfl) rfl ?_
    refine tq_getR (j := 144) (E := E_M_qTold d) (pc := 169) (cks_at k_M_qTold 95 rfl rfl) fo_M_216 so_78 rfl sp_78_94 ?_
    refine tq_iconst (E := E_M_qTold d) (pc := 172) (cks_at k_M_qTold 96 rfl rfl) ?_
    refine tq_laldC 0 (E := E_M_qTold d) (pc := 173) (cks_at k_M_qTold 97 rfl rfl) sa_144 sn_144 (by decide) ?_
    exact tq_lret (E := E_M_qTold d) (pc := 174) (cks_at k_M_qTold 98 rfl rfl) rfl
  · refine tq_aload_n 0 (E := E_M_qTold d) (pc := 15) (cks_at k_M_qTold 9 rfl rfl) rfl ?_
    refine tq_getR (j := 142) (E := E_M_qTold d) (pc := 16) (cks_at k_M_qTold 10 rfl rfl) fo_M_210 so_78 rfl sp_78_88 ?_
    refine tq_iload_n 2 (E := E_M_qTold d) (pc := 19) (cks_at k_M_qTold 11 rfl rfl) rfl ?_
    refine tq_iald (E := E_M_qTold d) (pc := 20) (cks_at k_M_qTold 12 rfl rfl) sa_142 sn_142 ?_
    refine tq_istore_n (E := E_M_qTold d) (pc := 21) (cks_at k_M_qTold 13 rfl rfl) (show 3 < 4 by decide) rfl ?_
    refine tq_iload_n 0 (E := E_M_qTold d) (pc := 22) (cks_at k_M_qTold 14 rfl rfl) rfl ?_
    refine tq_sipush (E := E_M_qTold d) (pc := 23) (cks_at k_M_qTold 15 rfl rfl) (by decide) (by decide) ?_
    refine tq_icmp_lt (E := E_M_qTold d) (pc := 26) (tgt := 42) (cks_at k_M_qTold 16 rfl rfl) (by decide) ?_ ?_
    · refine tq_iload_n 0 (E := E_M_qTold d) (pc := 42) (cks_at k_M_qTold 24 rfl rfl) rfl ?_
      refine tq_bipush (E := E_M_qTold d) (pc := 43) (cks_at k_M_qTold 25 rfl rfl) (by decide) (by decide) ?_
      refine tq_icmp_lt (E := E_M_qTold d) (pc := 45) (tgt := 85) (cks_at k_M_qTold 26 rfl rfl) (by decide) ?_ ?_
      · refine tq_iload_n 0 (E := E_M_qTold d) (pc := 85) (cks_at k_M_qTold 49 rfl rfl) rfl ?_
        refine tq_bipush (E := E_M_qTold d) (pc := 86) (cks_at k_M_qTold 50 rfl rfl) (by decide) (by decide) ?_
        refine tq_icmp_lt (E := E_M_qTold d) (pc := 88) (tgt := 110) (cks_at k_M_qTold 51 rfl rfl) (by decide) ?_ ?_
        · refine tq_iload_n 0 (E := E_M_qTold d) (pc := 110) (cks_at k_M_qTold 62 rfl rfl) rfl ?_
          refine tq_bipush (E := E_M_qTold d) (pc := 111) (cks_at k_M_qTold 63 rfl rfl) (by decide) (by decide) ?_
          refine tq_icmp_ne (E := E_M_qTold d) (pc := 113) (tgt := 124) (cks_at k_M_qTold 64 rfl rfl) (by decide) ?_ ?_
          · refine tq_iload_n 0 (E := E_M_qTold d) (pc := 124) (cks_at k_M_qTold 69 rfl rfl) rfl ?_
            refine tq_bipush (E := E_M_qTold d) (pc := 125) (cks_at k_M_qTold 70 rfl rfl) (by decide) (by decide) ?_
            refine tq_icmp_ne (E := E_M_qTold d) (pc := 127) (tgt := 157) (cks_at k_M_qTold 71 rfl rfl) (by decide) ?_ ?_
            · refine tq_aload_n 1 (E := E_M_qTold d) (pc := 157) (cks_at k_M_qTold 89 rfl rfl) rfl ?_
              refine tq_iload_n 0 (E := E_M_qTold d) (pc := 158) (cks_at k_M_qTold 90 rfl rfl) rfl ?_
              refine tq_V1 (E := E_M_qTold d) (pc := 159) (cks_at k_M_qTold 91 rfl rfl) mk_M_qJoins lk_M_702 rc_78 (Nat.le_of_ble_eq_true rfl) (c_M_qJoins (d + 7) (M 142 (i32 v2).toNat) M) (k_V fun M2 => ?_)
              refine tq_iinc 3 (E := E_M_qTold d) (pc := 162) (cks_at k_M_qTold 92 rfl rfl) rfl (show 2 < 4 by decide) rfl ?_
              refine tq_goto (tgt := 7) (E := E_M_qTold d) (pc := 165) (cks_at k_M_qTold 93 rfl rfl) (by decide) ?_
              exact tq_sub [2, 3, 0] rfl (hkH v1 (v2 + 1) M2)
            · refine tq_aload_n 1 (E := E_M_qTold d) (pc := 130) (cks_at k_M_qTold 72 rfl rfl) rfl ?_
              refine tq_getR (j := 144) (E := E_M_qTold d) (pc := 131) (cks_at k_M_qTold 73 rfl rfl) fo_M_216 so_78 rfl sp_78_94 ?_
              refine tq_aload_n 1 (E := E_M_qTold d) (pc := 134) (cks_at k_M_qTold 74 rfl rfl) rfl ?_
              refine tq_getI (E := E_M_qTold d) (pc := 135) (cks_at k_M_qTold 75 rfl rfl) fo_M_680 so_78 rfl (by decide) ?_
              refine tq_iconst (E := E_M_qTold d) (pc := 138) (cks_at k_M_qTold 76 rfl rfl) ?_
              refine tq_isub (E := E_M_qTold d) (pc := 139) (cks_at k_M_qTold 77 rfl rfl) ?_
              refine tq_lconst1 (E := E_M_qTold d) (pc := 140) (cks_at k_M_qTold 78 rfl rfl) ?_
              refine tq_aload_n 1 (E := E_M_qTold d) (pc := 141) (cks_at k_M_qTold 79 rfl rfl) rfl ?_
              refine tq_getR (j := 144) (E := E_M_qTold d) (pc := 142) (cks_at k_M_qTold 80 rfl rfl) fo_M_216 so_78 rfl sp_78_94 ?_
              refine tq_aload_n 1 (E := E_M_qTold d) (pc := 145) (cks_at k_M_qTold 81 rfl rfl) rfl ?_
              refine tq_getI (E := E_M_qTold d) (pc := 146) (cks_at k_M_qTold 82 rfl rfl) fo_M_680 so_78 rfl (by decide) ?_
              refine tq_iconst (E := E_M_qTold d) (pc := 149) (cks_at k_M_qTold 83 rfl rfl) ?_
              refine tq_isub (E := E_M_qTold d) (pc := 150) (cks_at k_M_qTold 84 rfl rfl) ?_
              refine tq_lald (E := E_M_qTold d) (pc := 151) (cks_at k_M_qTold 85 rfl rfl) sa_144 sn_144 ?_
              refine tq_lsub (E := E_M_qTold d) (pc := 152) (cks_at k_M_qTold 86 rfl rfl) ?_
              refine tq_last (E := E_M_qTold d) (pc := 153) (cks_at k_M_qTold 87 rfl rfl) sa_144 sn_144 (fun M3 => ?_)
              refine tq_goto (tgt := 162) (E := E_M_qTold d) (pc := 154) (cks_at k_M_qTold 88 rfl rfl) (by decide) ?_
              refine tq_iinc 3 (E := E_M_qTold d) (pc := 162) (cks_at k_M_qTold 92 rfl rfl) rfl (show 2 < 4 by decide) rfl ?_
              refine tq_goto (tgt := 7) (E := E_M_qTold d) (pc := 165) (cks_at k_M_qTold 93 rfl rfl) (by decide) ?_
              exact tq_sub [2, 3, 0] rfl (hkH v1 (v2 + 1) M3)
          · refine tq_aload_n 1 (E := E_M_qTold d) (pc := 116) (cks_at k_M_qTold 65 rfl rfl) rfl ?_
            refine tq_lconst1 (E := E_M_qTold d) (pc := 117) (cks_at k_M_qTold 66 rfl rfl) ?_
            refine tq_V1 (E := E_M_qTold d) (pc := 118) (cks_at k_M_qTold 67 rfl rfl) mk_M_qPuts lk_M_686 rc_78 (Nat.le_of_ble_eq_true rfl) (c_M_qPuts (d + 8) 1 M) (k_V fun M4 => ?_)
            refine tq_goto (tgt := 162) (E := E_M_qTold d) (pc := 121) (cks_at k_M_qTold 68 rfl rfl) (by decide) ?_
            refine tq_iinc 3 (E := E_M_qTold d) (pc := 162) (cks_at k_M_qTold 92 rfl rfl) rfl (show 2 < 4 by decide) rfl ?_
            refine tq_goto (tgt := 7) (E := E_M_qTold d) (pc := 165) (cks_at k_M_qTold 93 rfl rfl) (by decide) ?_
            exact tq_sub [2, 3, 0] rfl (hkH v1 (v2 + 1) M4)
        · refine tq_aload_n 1 (E := E_M_qTold d) (pc := 91) (cks_at k_M_qTold 52 rfl rfl) rfl ?_
          refine tq_aload_n 1 (E := E_M_qTold d) (pc := 92) (cks_at k_M_qTold 53 rfl rfl) rfl ?_
          refine tq_iload_n 0 (E := E_M_qTold d) (pc := 93) (cks_at k_M_qTold 54 rfl rfl) rfl ?_
          refine tq_bipush (E := E_M_qTold d) (pc := 94) (cks_at k_M_qTold 55 rfl rfl) (by decide) (by decide) ?_
          refine tq_isub (E := E_M_qTold d) (pc := 96) (cks_at k_M_qTold 56 rfl rfl) ?_
          refine tq_iload_n 2 (E := E_M_qTold d) (pc := 97) (cks_at k_M_qTold 57 rfl rfl) rfl ?_
          refine tq_V2 (E := E_M_qTold d) (pc := 98) (cks_at k_M_qTold 58 rfl rfl) mk_M_qPartOf lk_M_699 rc_78 (Nat.le_of_ble_eq_true rfl) (c_M_qPartOf (d + 8) ((M 142 (i32 v2).toNat) - 40) v1 M) (k_J fun r6 M5 => ?_)
          refine tq_S1 (E := E_M_qTold d) (pc := 101) (cks_at k_M_qTold 59 rfl rfl) mk_M_qClip lk_M_683 (Nat.le_of_ble_eq_true rfl) (c_M_qClip (d + 8) r6 M5) (k_J fun r8 M7 => ?_)
          refine tq_V1 (E := E_M_qTold d) (pc := 104) (cks_at k_M_qTold 60 rfl rfl) mk_M_qPuts lk_M_686 rc_78 (Nat.le_of_ble_eq_true rfl) (c_M_qPuts (d + 8) r8 M7) (k_V fun M9 => ?_)
          refine tq_goto (tgt := 162) (E := E_M_qTold d) (pc := 107) (cks_at k_M_qTold 61 rfl rfl) (by decide) ?_
          refine tq_iinc 3 (E := E_M_qTold d) (pc := 162) (cks_at k_M_qTold 92 rfl rfl) rfl (show 2 < 4 by decide) rfl ?_
          refine tq_goto (tgt := 7) (E := E_M_qTold d) (pc := 165) (cks_at k_M_qTold 93 rfl rfl) (by decide) ?_
          exact tq_sub [2, 3, 0] rfl (hkH v1 (v2 + 1) M9)
      · refine tq_aload_n 1 (E := E_M_qTold d) (pc := 48) (cks_at k_M_qTold 27 rfl rfl) rfl ?_
        refine tq_getR (j := 144) (E := E_M_qTold d) (pc := 49) (cks_at k_M_qTold 28 rfl rfl) fo_M_216 so_78 rfl sp_78_94 ?_
        refine tq_aload_n 1 (E := E_M_qTold d) (pc := 52) (cks_at k_M_qTold 29 rfl rfl) rfl ?_
        refine tq_getI (E := E_M_qTold d) (pc := 53) (cks_at k_M_qTold 30 rfl rfl) fo_M_680 so_78 rfl (by decide) ?_
        refine tq_iconst (E := E_M_qTold d) (pc := 56) (cks_at k_M_qTold 31 rfl rfl) ?_
        refine tq_isub (E := E_M_qTold d) (pc := 57) (cks_at k_M_qTold 32 rfl rfl) ?_
        refine tq_aload_n 1 (E := E_M_qTold d) (pc := 58) (cks_at k_M_qTold 33 rfl rfl) rfl ?_
        refine tq_iload_n 0 (E := E_M_qTold d) (pc := 59) (cks_at k_M_qTold 34 rfl rfl) rfl ?_
        refine tq_bipush (E := E_M_qTold d) (pc := 60) (cks_at k_M_qTold 35 rfl rfl) (by decide) (by decide) ?_
        refine tq_isub (E := E_M_qTold d) (pc := 62) (cks_at k_M_qTold 36 rfl rfl) ?_
        refine tq_aload_n 1 (E := E_M_qTold d) (pc := 63) (cks_at k_M_qTold 37 rfl rfl) rfl ?_
        refine tq_getR (j := 144) (E := E_M_qTold d) (pc := 64) (cks_at k_M_qTold 38 rfl rfl) fo_M_216 so_78 rfl sp_78_94 ?_
        refine tq_aload_n 1 (E := E_M_qTold d) (pc := 67) (cks_at k_M_qTold 39 rfl rfl) rfl ?_
        refine tq_getI (E := E_M_qTold d) (pc := 68) (cks_at k_M_qTold 40 rfl rfl) fo_M_680 so_78 rfl (by decide) ?_
        refine tq_iconst (E := E_M_qTold d) (pc := 71) (cks_at k_M_qTold 41 rfl rfl) ?_
        refine tq_isub (E := E_M_qTold d) (pc := 72) (cks_at k_M_qTold 42 rfl rfl) ?_
        refine tq_lald (E := E_M_qTold d) (pc := 73) (cks_at k_M_qTold 43 rfl rfl) sa_144 sn_144 ?_
        refine tq_iload_n 2 (E := E_M_qTold d) (pc := 74) (cks_at k_M_qTold 44 rfl rfl) rfl ?_
        refine tq_V3 (E := E_M_qTold d) (pc := 75) (cks_at k_M_qTold 45 rfl rfl) mk_M_qOf lk_M_695 rc_78 (Nat.le_of_ble_eq_true rfl) (c_M_qOf (d + 0) ((M 142 (i32 v2).toNat) - 60) (M 144 (i32 ((M 78 95) - 1)).toNat) v1 M) (k_J fun r11 M10 => ?_)
        refine tq_S1 (E := E_M_qTold d) (pc := 78) (cks_at k_M_qTold 46 rfl rfl) mk_M_qClip lk_M_683 (Nat.le_of_ble_eq_true rfl) (c_M_qClip (d + 8) r11 M10) (k_J fun r13 M12 => ?_)
        refine tq_last (E := E_M_qTold d) (pc := 81) (cks_at k_M_qTold 47 rfl rfl) sa_144 sn_144 (fun M14 => ?_)
        refine tq_goto (tgt := 162) (E := E_M_qTold d) (pc := 82) (cks_at k_M_qTold 48 rfl rfl) (by decide) ?_
        refine tq_iinc 3 (E := E_M_qTold d) (pc := 162) (cks_at k_M_qTold 92 rfl rfl) rfl (show 2 < 4 by decide) rfl ?_
        refine tq_goto (tgt := 7) (E := E_M_qTold d) (pc := 165) (cks_at k_M_qTold 93 rfl rfl) (by decide) ?_
        exact tq_sub [2, 3, 0] rfl (hkH v1 (v2 + 1) M14)
    · refine tq_aload_n 1 (E := E_M_qTold d) (pc := 29) (cks_at k_M_qTold 17 rfl rfl) rfl ?_
      refine tq_iload_n 0 (E := E_M_qTold d) (pc := 30) (cks_at k_M_qTold 18 rfl rfl) rfl ?_
      refine tq_sipush (E := E_M_qTold d) (pc := 31) (cks_at k_M_qTold 19 rfl rfl) (by decide) (by decide) ?_
      refine tq_isub (E := E_M_qTold d) (pc := 34) (cks_at k_M_qTold 20 rfl rfl) ?_
      refine tq_i2l (E := E_M_qTold d) (pc := 35) (cks_at k_M_qTold 21 rfl rfl) ?_
      refine tq_V1 (E := E_M_qTold d) (pc := 36) (cks_at k_M_qTold 22 rfl rfl) mk_M_qPuts lk_M_686 rc_78 (Nat.le_of_ble_eq_true rfl) (c_M_qPuts (d + 8) (i32 ((M 142 (i32 v2).toNat) - 1000)) M) (k_V fun M15 => ?_)
      refine tq_goto (tgt := 162) (E := E_M_qTold d) (pc := 39) (cks_at k_M_qTold 23 rfl rfl) (by decide) ?_
      refine tq_iinc 3 (E := E_M_qTold d) (pc := 162) (cks_at k_M_qTold 92 rfl rfl) rfl (show 2 < 4 by decide) rfl ?_
      refine tq_goto (tgt := 7) (E := E_M_qTold d) (pc := 165) (cks_at k_M_qTold 93 rfl rfl) (by decide) ?_
      exact tq_sub [2, 3, 0] rfl (hkH v1 (v2 + 1) M15)
def f_M_qTold_L7 : Nat → Int × Int × Mm → Option (Int × Mm) := lp fun kH s => f_M_qTold_B7 (fun v1 v2 M => kH (v1, v2, M)) s.1 s.2.1 s.2.2
set_option maxRecDepth 20000 in
set_option maxHeartbeats 4000000 in
theorem w_M_qTold_L7 (d : Nat) (n : Nat) (s : Int × Int × Mm) : T (E_M_qTold d) injJ 7 [(0, .ref 78), (1, vI s.1), (2, vI s.2.1)] [] s.2.2 (f_M_qTold_L7 n s) :=
  tq_lp (fun s => [(0, .ref 78), (1, vI s.1), (2, vI s.2.1)]) (fun s => s.2.2) (fun kH hH s => w_M_qTold_B7 d (fun v1 v2 M => kH (v1, v2, M)) (fun v1 v2 M => hH (v1, v2, M)) s.1 s.2.1 s.2.2) n s
def f_M_qTold (v1 : Int) (M : Mm) : Option (Int × Mm) :=
  bd (up M 78 95 0) (fun M1 =>
  f_M_qTold_L7 FU (v1, 0, M1))
set_option maxRecDepth 20000 in
set_option maxHeartbeats 4000000 in
theorem c_M_qTold (d : Nat) (v1 : Int) (M : Mm) (Q : Option Value → Mm → Prop) (h : sat injJ (f_M_qTold v1 M) Q) : Ct (d + 10) y_M_qTold [.ref 78, vI v1] M Q := by
  refine ct_in (d := d + 9) mk_M_qTold (Nat.le_of_ble_eq_true rfl) (?_ : T (E_M_qTold d) injJ 0 [(0, .ref 78), (1, vI v1)] [] M (f_M_qTold v1 M)) h
  unfold f_M_qTold
  refine tq_aload_n 0 (E := E_M_qTold d) (pc := 0) (cks_at k_M_qTold 0 rfl rfl) rfl ?_
  refine tq_iconst (E := E_M_qTold d) (pc := 1) (cks_at k_M_qTold 1 rfl rfl) ?_
  refine tq_putI (E := E_M_qTold d) (pc := 2) (cks_at k_M_qTold 2 rfl rfl) fo_M_680 so_78 rfl po_12_95 (fun M1 => ?_)
  refine tq_iconst (E := E_M_qTold d) (pc := 5) (cks_at k_M_qTold 3 rfl rfl) ?_
  refine tq_istore_n (E := E_M_qTold d) (pc := 6) (cks_at k_M_qTold 4 rfl rfl) (show 2 < 4 by decide) rfl ?_
  exact tq_sub [1, 2, 0] rfl (w_M_qTold_L7 d FU (v1, 0, M1))
abbrev E_M_qTakes (d : Nat) : Ev := (Ct (d + 0), "BreathTownModel", prog_14_method_143_code, 6, False, 0, (fun _ => 0), (Option.none : Option Jvm.ClassFile.FieldType))
def f_M_qTakes_J90 (v1 v2 : Int) (M : Mm) : Option (Mm) :=
  if i32 v1 ≤ i32 3 then
    gd (i32 0 = 0 ∨ i32 0 = 1) <|
    bd (up M 78 97 0) (fun M1 =>
    some M1)
  else
    if ¬ i32 (M 78 97) = 0 then
      bd (up M 78 96 v2) (fun M2 =>
      gd (i32 0 = 0 ∨ i32 0 = 1) <|
      bd (up M2 78 97 0) (fun M3 =>
      some M3))
    else
      if ¬ i32 v1 = i32 4 then
        if 0 ≤ i32 (cmp64 v2 (M 78 96)) then
          gd (i32 0 = 0 ∨ i32 0 = 1) <|
          bd (up M 78 97 0) (fun M4 =>
          some M4)
        else
          bd (up M 78 96 v2) (fun M5 =>
          gd (i32 0 = 0 ∨ i32 0 = 1) <|
          bd (up M5 78 97 0) (fun M6 =>
          some M6))
      else
        if i32 (cmp64 v2 (M 78 96)) ≤ 0 then
          gd (i32 0 = 0 ∨ i32 0 = 1) <|
          bd (up M 78 97 0) (fun M7 =>
          some M7)
        else
          bd (up M 78 96 v2) (fun M8 =>
          gd (i32 0 = 0 ∨ i32 0 = 1) <|
          bd (up M8 78 97 0) (fun M9 =>
          some M9))
set_option maxRecDepth 20000 in
set_option maxHeartbeats 4000000 in
theorem w_M_qTakes_J90 (d : Nat) (v1 v2 : Int) (M : Mm) : T (E_M_qTakes d) injV 90 [(0, .ref 78), (1, vI v1), (2, vJ v2)] [] M (f_M_qTakes_J90 v1 v2 M) := by
  unfold f_M_qTakes_J90
  refine tq_iload_n 1 (E := E_M_qTakes d) (pc := 90) (cks_at k_M_qTakes 49 rfl rfl) rfl ?_
  refine tq_iconst (E := E_M_qTakes d) (pc := 91) (cks_at k_M_qTakes 50 rfl rfl) ?_
  refine tq_icmp_le (E := E_M_qTakes d) (pc := 92) (tgt := 133) (cks_at k_M_qTakes 51 rfl rfl) (by decide) ?_ ?_
  · refine tq_aload_n 0 (E := E_M_qTakes d) (pc := 133) (cks_at k_M_qTakes 72 rfl rfl) rfl ?_
    refine tq_iconst (E := E_M_qTakes d) (pc := 134) (cks_at k_M_qTakes 73 rfl rfl) ?_
    refine tq_putZ (E := E_M_qTakes d) (pc := 135) (cks_at k_M_qTakes 74 rfl rfl) fo_M_708 so_78 rfl po_12_97 (fun M1 => ?_)
    exact tq_vret (E := E_M_qTakes d) (pc := 138) (cks_at k_M_qTakes 75 rfl rfl) rfl
  · refine tq_aload_n 0 (E := E_M_qTakes d) (pc := 95) (cks_at k_M_qTakes 52 rfl rfl) rfl ?_
    refine tq_getI (E := E_M_qTakes d) (pc := 96) (cks_at k_M_qTakes 53 rfl rfl) fo_M_708 so_78 rfl (by decide) ?_
    refine tq_if_ne (E := E_M_qTakes d) (pc := 99) (tgt := 128) (cks_at k_M_qTakes 54 rfl rfl) (by decide) ?_ ?_
    · refine tq_aload_n 0 (E := E_M_qTakes d) (pc := 128) (cks_at k_M_qTakes 69 rfl rfl) rfl ?_
      refine tq_lload_n 2 (E := E_M_qTakes d) (pc := 129) (cks_at k_M_qTakes 70 rfl rfl) rfl ?_
      refine tq_putJ (E := E_M_qTakes d) (pc := 130) (cks_at k_M_qTakes 71 rfl rfl) fo_M_705 so_78 rfl po_12_96 (fun M2 => ?_)
      refine tq_aload_n 0 (E := E_M_qTakes d) (pc := 133) (cks_at k_M_qTakes 72 rfl rfl) rfl ?_
      refine tq_iconst (E := E_M_qTakes d) (pc := 134) (cks_at k_M_qTakes 73 rfl rfl) ?_
      refine tq_putZ (E := E_M_qTakes d) (pc := 135) (cks_at k_M_qTakes 74 rfl rfl) fo_M_708 so_78 rfl po_12_97 (fun M3 => ?_)
      exact tq_vret (E := E_M_qTakes d) (pc := 138) (cks_at k_M_qTakes 75 rfl rfl) rfl
    · refine tq_iload_n 1 (E := E_M_qTakes d) (pc := 102) (cks_at k_M_qTakes 55 rfl rfl) rfl ?_
      refine tq_iconst (E := E_M_qTakes d) (pc := 103) (cks_at k_M_qTakes 56 rfl rfl) ?_
      refine tq_icmp_ne (E := E_M_qTakes d) (pc := 104) (tgt := 119) (cks_at k_M_qTakes 57 rfl rfl) (by decide) ?_ ?_
      · refine tq_lload_n 2 (E := E_M_qTakes d) (pc := 119) (cks_at k_M_qTakes 64 rfl rfl) rfl ?_
        refine tq_aload_n 0 (E := E_M_qTakes d) (pc := 120) (cks_at k_M_qTakes 65 rfl rfl) rfl ?_
        refine tq_getJ (E := E_M_qTakes d) (pc := 121) (cks_at k_M_qTakes 66 rfl rfl) fo_M_705 so_78 rfl ?_
        refine tq_lcmp (E := E_M_qTakes d) (pc := 124) (cks_at k_M_qTakes 67 rfl rfl) ?_
        refine tq_if_ge (E := E_M_qTakes d) (pc := 125) (tgt := 133) (cks_at k_M_qTakes 68 rfl rfl) (by decide) ?_ ?_
        · refine tq_aload_n 0 (E := E_M_qTakes d) (pc := 133) (cks_at k_M_qTakes 72 rfl rfl) rfl ?_
          refine tq_iconst (E := E_M_qTakes d) (pc := 134) (cks_at k_M_qTakes 73 rfl rfl) ?_
          refine tq_putZ (E := E_M_qTakes d) (pc := 135) (cks_at k_M_qTakes 74 rfl rfl) fo_M_708 so_78 rfl po_12_97 (fun M4 => ?_)
          exact tq_vret (E := E_M_qTakes d) (pc := 138) (cks_at k_M_qTakes 75 rfl rfl) rfl
        · refine tq_aload_n 0 (E := E_M_qTakes d) (pc := 128) (cks_at k_M_qTakes 69 rfl rfl) rfl ?_
          refine tq_lload_n 2 (E := E_M_qTakes d) (pc := 129) (cks_at k_M_qTakes 70 rfl rfl) rfl ?_
          refine tq_putJ (E := E_M_qTakes d) (pc := 130) (cks_at k_M_qTakes 71 rfl rfl) fo_M_705 so_78 rfl po_12_96 (fun M5 => ?_)
          refine tq_aload_n 0 (E := E_M_qTakes d) (pc := 133) (cks_at k_M_qTakes 72 rfl rfl) rfl ?_
          refine tq_iconst (E := E_M_qTakes d) (pc := 134) (cks_at k_M_qTakes 73 rfl rfl) ?_
          refine tq_putZ (E := E_M_qTakes d) (pc := 135) (cks_at k_M_qTakes 74 rfl rfl) fo_M_708 so_78 rfl po_12_97 (fun M6 => ?_)
          exact tq_vret (E := E_M_qTakes d) (pc := 138) (cks_at k_M_qTakes 75 rfl rfl) rfl
      · refine tq_lload_n 2 (E := E_M_qTakes d) (pc := 107) (cks_at k_M_qTakes 58 rfl rfl) rfl ?_
        refine tq_aload_n 0 (E := E_M_qTakes d) (pc := 108) (cks_at k_M_qTakes 59 rfl rfl) rfl ?_
        refine tq_getJ (E := E_M_qTakes d) (pc := 109) (cks_at k_M_qTakes 60 rfl rfl) fo_M_705 so_78 rfl ?_
        refine tq_lcmp (E := E_M_qTakes d) (pc := 112) (cks_at k_M_qTakes 61 rfl rfl) ?_
        refine tq_if_le (E := E_M_qTakes d) (pc := 113) (tgt := 133) (cks_at k_M_qTakes 62 rfl rfl) (by decide) ?_ ?_
        · refine tq_aload_n 0 (E := E_M_qTakes d) (pc := 133) (cks_at k_M_qTakes 72 rfl rfl) rfl ?_
          refine tq_iconst (E := E_M_qTakes d) (pc := 134) (cks_at k_M_qTakes 73 rfl rfl) ?_
          refine tq_putZ (E := E_M_qTakes d) (pc := 135) (cks_at k_M_qTakes 74 rfl rfl) fo_M_708 so_78 rfl po_12_97 (fun M7 => ?_)
          exact tq_vret (E := E_M_qTakes d) (pc := 138) (cks_at k_M_qTakes 75 rfl rfl) rfl
        · refine tq_goto (tgt := 128) (E := E_M_qTakes d) (pc := 116) (cks_at k_M_qTakes 63 rfl rfl) (by decide) ?_
          refine tq_aload_n 0 (E := E_M_qTakes d) (pc := 128) (cks_at k_M_qTakes 69 rfl rfl) rfl ?_
          refine tq_lload_n 2 (E := E_M_qTakes d) (pc := 129) (cks_at k_M_qTakes 70 rfl rfl) rfl ?_
          refine tq_putJ (E := E_M_qTakes d) (pc := 130) (cks_at k_M_qTakes 71 rfl rfl) fo_M_705 so_78 rfl po_12_96 (fun M8 => ?_)
          refine tq_aload_n 0 (E := E_M_qTakes d) (pc := 133) (cks_at k_M_qTakes 72 rfl rfl) rfl ?_
          refine tq_iconst (E := E_M_qTakes d) (pc := 134) (cks_at k_M_qTakes 73 rfl rfl) ?_
          refine tq_putZ (E := E_M_qTakes d) (pc := 135) (cks_at k_M_qTakes 74 rfl rfl) fo_M_708 so_78 rfl po_12_97 (fun M9 => ?_)
          exact tq_vret (E := E_M_qTakes d) (pc := 138) (cks_at k_M_qTakes 75 rfl rfl) rfl
def f_M_qTakes_J75 (v1 v2 : Int) (M : Mm) : Option (Mm) :=
  if ¬ i32 v1 = i32 3 then
    f_M_qTakes_J90 v1 v2 M
  else
    bd (up M 78 96 ((M 78 96) + v2)) (fun M10 =>
    f_M_qTakes_J90 v1 v2 M10)
set_option maxRecDepth 20000 in
set_option maxHeartbeats 4000000 in
theorem w_M_qTakes_J75 (d : Nat) (v1 v2 : Int) (M : Mm) : T (E_M_qTakes d) injV 75 [(0, .ref 78), (1, vI v1), (2, vJ v2)] [] M (f_M_qTakes_J75 v1 v2 M) := by
  unfold f_M_qTakes_J75
  refine tq_iload_n 1 (E := E_M_qTakes d) (pc := 75) (cks_at k_M_qTakes 40 rfl rfl) rfl ?_
  refine tq_iconst (E := E_M_qTakes d) (pc := 76) (cks_at k_M_qTakes 41 rfl rfl) ?_
  refine tq_icmp_ne (E := E_M_qTakes d) (pc := 77) (tgt := 90) (cks_at k_M_qTakes 42 rfl rfl) (by decide) ?_ ?_
  · exact tq_sub [0, 1, 2] rfl (w_M_qTakes_J90 d v1 v2 M)
  · refine tq_aload_n 0 (E := E_M_qTakes d) (pc := 80) (cks_at k_M_qTakes 43 rfl rfl) rfl ?_
    refine tq_dup (E := E_M_qTakes d) (pc := 81) (cks_at k_M_qTakes 44 rfl rfl) rfl ?_
    refine tq_getJ (E := E_M_qTakes d) (pc := 82) (cks_at k_M_qTakes 45 rfl rfl) fo_M_705 so_78 rfl ?_
    refine tq_lload_n 2 (E := E_M_qTakes d) (pc := 85) (cks_at k_M_qTakes 46 rfl rfl) rfl ?_
    refine tq_ladd (E := E_M_qTakes d) (pc := 86) (cks_at k_M_qTakes 47 rfl rfl) ?_
    refine tq_putJ (E := E_M_qTakes d) (pc := 87) (cks_at k_M_qTakes 48 rfl rfl) fo_M_705 so_78 rfl po_12_96 (fun M10 => ?_)
    exact tq_sub [0, 1, 2] rfl (w_M_qTakes_J90 d v1 v2 M10)
def f_M_qTakes_J55 (v1 v2 v5 : Int) (M : Mm) : Option (Mm) :=
  if ¬ i32 v1 = i32 2 then
    f_M_qTakes_J75 v1 v2 M
  else
    if i32 v5 = 0 then
      f_M_qTakes_J75 v1 v2 M
    else
      bd (up M 78 96 ((M 78 96) + 1)) (fun M11 =>
      f_M_qTakes_J75 v1 v2 M11)
set_option maxRecDepth 20000 in
set_option maxHeartbeats 4000000 in
theorem w_M_qTakes_J55 (d : Nat) (v1 v2 v5 : Int) (M : Mm) : T (E_M_qTakes d) injV 55 [(0, .ref 78), (1, vI v1), (2, vJ v2), (5, vI v5)] [] M (f_M_qTakes_J55 v1 v2 v5 M) := by
  unfold f_M_qTakes_J55
  refine tq_iload_n 1 (E := E_M_qTakes d) (pc := 55) (cks_at k_M_qTakes 29 rfl rfl) rfl ?_
  refine tq_iconst (E := E_M_qTakes d) (pc := 56) (cks_at k_M_qTakes 30 rfl rfl) ?_
  refine tq_icmp_ne (E := E_M_qTakes d) (pc := 57) (tgt := 75) (cks_at k_M_qTakes 31 rfl rfl) (by decide) ?_ ?_
  · exact tq_sub [0, 1, 2] rfl (w_M_qTakes_J75 d v1 v2 M)
  · refine tq_iload 3 (E := E_M_qTakes d) (pc := 60) (cks_at k_M_qTakes 32 rfl rfl) rfl ?_
    refine tq_if_eq (E := E_M_qTakes d) (pc := 62) (tgt := 75) (cks_at k_M_qTakes 33 rfl rfl) (by decide) ?_ ?_
    · exact tq_sub [0, 1, 2] rfl (w_M_qTakes_J75 d v1 v2 M)
    · refine tq_aload_n 0 (E := E_M_qTakes d) (pc := 65) (cks_at k_M_qTakes 34 rfl rfl) rfl ?_
      refine tq_dup (E := E_M_qTakes d) (pc := 66) (cks_at k_M_qTakes 35 rfl rfl) rfl ?_
      refine tq_getJ (E := E_M_qTakes d) (pc := 67) (cks_at k_M_qTakes 36 rfl rfl) fo_M_705 so_78 rfl ?_
      refine tq_lconst1 (E := E_M_qTakes d) (pc := 70) (cks_at k_M_qTakes 37 rfl rfl) ?_
      refine tq_ladd (E := E_M_qTakes d) (pc := 71) (cks_at k_M_qTakes 38 rfl rfl) ?_
      refine tq_putJ (E := E_M_qTakes d) (pc := 72) (cks_at k_M_qTakes 39 rfl rfl) fo_M_705 so_78 rfl po_12_96 (fun M11 => ?_)
      exact tq_sub [0, 1, 2] rfl (w_M_qTakes_J75 d v1 v2 M11)
def f_M_qTakes_J38 (v1 v2 v4 v5 : Int) (M : Mm) : Option (Mm) :=
  if ¬ i32 v1 = i32 1 then
    f_M_qTakes_J55 v1 v2 v5 M
  else
    if i32 v5 = 0 then
      f_M_qTakes_J55 v1 v2 v5 M
    else
      bd (up M 78 96 (i32 v4)) (fun M12 =>
      f_M_qTakes_J55 v1 v2 v5 M12)
set_option maxRecDepth 20000 in
set_option maxHeartbeats 4000000 in
theorem w_M_qTakes_J38 (d : Nat) (v1 v2 v4 v5 : Int) (M : Mm) : T (E_M_qTakes d) injV 38 [(0, .ref 78), (1, vI v1), (2, vJ v2), (4, vI v4), (5, vI v5)] [] M (f_M_qTakes_J38 v1 v2 v4 v5 M) := by
  unfold f_M_qTakes_J38
  refine tq_iload_n 1 (E := E_M_qTakes d) (pc := 38) (cks_at k_M_qTakes 20 rfl rfl) rfl ?_
  refine tq_iconst (E := E_M_qTakes d) (pc := 39) (cks_at k_M_qTakes 21 rfl rfl) ?_
  refine tq_icmp_ne (E := E_M_qTakes d) (pc := 40) (tgt := 55) (cks_at k_M_qTakes 22 rfl rfl) (by decide) ?_ ?_
  · exact tq_sub [0, 1, 2, 4] rfl (w_M_qTakes_J55 d v1 v2 v5 M)
  · refine tq_iload 4 (E := E_M_qTakes d) (pc := 43) (cks_at k_M_qTakes 23 rfl rfl) rfl ?_
    refine tq_if_eq (E := E_M_qTakes d) (pc := 45) (tgt := 55) (cks_at k_M_qTakes 24 rfl rfl) (by decide) ?_ ?_
    · exact tq_sub [0, 1, 2, 4] rfl (w_M_qTakes_J55 d v1 v2 v5 M)
    · refine tq_aload_n 0 (E := E_M_qTakes d) (pc := 48) (cks_at k_M_qTakes 25 rfl rfl) rfl ?_
      refine tq_iload 3 (E := E_M_qTakes d) (pc := 49) (cks_at k_M_qTakes 26 rfl rfl) rfl ?_
      refine tq_i2l (E := E_M_qTakes d) (pc := 51) (cks_at k_M_qTakes 27 rfl rfl) ?_
      refine tq_putJ (E := E_M_qTakes d) (pc := 52) (cks_at k_M_qTakes 28 rfl rfl) fo_M_705 so_78 rfl po_12_96 (fun M12 => ?_)
      exact tq_sub [0, 1, 2, 4] rfl (w_M_qTakes_J55 d v1 v2 v5 M12)
def f_M_qTakes_J16 (v1 v2 v4 s0 : Int) (M : Mm) : Option (Mm) :=
  if ¬ i32 v1 = 0 then
    f_M_qTakes_J38 v1 v2 v4 s0 M
  else
    if i32 s0 = 0 then
      f_M_qTakes_J38 v1 v2 v4 s0 M
    else
      if i32 (cmp64 (M 78 96) ((-1))) = 0 then
        bd (up M 78 96 (i32 v4)) (fun M13 =>
        f_M_qTakes_J55 v1 v2 s0 M13)
      else
        f_M_qTakes_J38 v1 v2 v4 s0 M
set_option maxRecDepth 20000 in
set_option maxHeartbeats 4000000 in
theorem w_M_qTakes_J16 (d : Nat) (v1 v2 v4 s0 : Int) (M : Mm) : T (E_M_qTakes d) injV 16 [(0, .ref 78), (1, vI v1), (2, vJ v2), (4, vI v4)] [vI s0] M (f_M_qTakes_J16 v1 v2 v4 s0 M) := by
  unfold f_M_qTakes_J16
  refine tq_istore (E := E_M_qTakes d) (pc := 16) (cks_at k_M_qTakes 10 rfl rfl) (show 5 < 6 by decide) rfl ?_
  refine tq_iload_n 2 (E := E_M_qTakes d) (pc := 18) (cks_at k_M_qTakes 11 rfl rfl) rfl ?_
  refine tq_if_ne (E := E_M_qTakes d) (pc := 19) (tgt := 38) (cks_at k_M_qTakes 12 rfl rfl) (by decide) ?_ ?_
  · exact tq_sub [1, 2, 3, 4, 0] rfl (w_M_qTakes_J38 d v1 v2 v4 s0 M)
  · refine tq_iload 0 (E := E_M_qTakes d) (pc := 22) (cks_at k_M_qTakes 13 rfl rfl) rfl ?_
    refine tq_if_eq (E := E_M_qTakes d) (pc := 24) (tgt := 38) (cks_at k_M_qTakes 14 rfl rfl) (by decide) ?_ ?_
    · exact tq_sub [1, 2, 3, 4, 0] rfl (w_M_qTakes_J38 d v1 v2 v4 s0 M)
    · refine tq_aload_n 1 (E := E_M_qTakes d) (pc := 27) (cks_at k_M_qTakes 15 rfl rfl) rfl ?_
      refine tq_getJ (E := E_M_qTakes d) (pc := 28) (cks_at k_M_qTakes 16 rfl rfl) fo_M_705 so_78 rfl ?_
      refine tq_ldc2 (z := (-1)) (E := E_M_qTakes d) (pc := 31) (cks_at k_M_qTakes 17 rfl rfl) cst_M_552 ?_
      refine tq_lcmp (E := E_M_qTakes d) (pc := 34) (cks_at k_M_qTakes 18 rfl rfl) ?_
      refine tq_if_eq (E := E_M_qTakes d) (pc := 35) (tgt := 48) (cks_at k_M_qTakes 19 rfl rfl) (by decide) ?_ ?_
      · refine tq_aload_n 1 (E := E_M_qTakes d) (pc := 48) (cks_at k_M_qTakes 25 rfl rfl) rfl ?_
        refine tq_iload 4 (E := E_M_qTakes d) (pc := 49) (cks_at k_M_qTakes 26 rfl rfl) rfl ?_
        refine tq_i2l (E := E_M_qTakes d) (pc := 51) (cks_at k_M_qTakes 27 rfl rfl) ?_
        refine tq_putJ (E := E_M_qTakes d) (pc := 52) (cks_at k_M_qTakes 28 rfl rfl) fo_M_705 so_78 rfl po_12_96 (fun M13 => ?_)
        exact tq_sub [1, 2, 3, 0] rfl (w_M_qTakes_J55 d v1 v2 s0 M13)
      · exact tq_sub [1, 2, 3, 4, 0] rfl (w_M_qTakes_J38 d v1 v2 v4 s0 M)
def f_M_qTakes (v1 : Int) (v2 : Int) (v4 : Int) (M : Mm) : Option (Mm) :=
  if i32 3 ≤ i32 v1 then
    f_M_qTakes_J16 v1 v2 v4 0 M
  else
    if ¬ i32 (cmp64 v2 1) = 0 then
      f_M_qTakes_J16 v1 v2 v4 0 M
    else
      f_M_qTakes_J16 v1 v2 v4 1 M
set_option maxRecDepth 20000 in
set_option maxHeartbeats 4000000 in
theorem c_M_qTakes (d : Nat) (v1 : Int) (v2 : Int) (v4 : Int) (M : Mm) (Q : Option Value → Mm → Prop) (h : sat injV (f_M_qTakes v1 v2 v4 M) Q) : Ct (d + 1) y_M_qTakes [.ref 78, vI v1, vJ v2, vI v4] M Q := by
  refine ct_in (d := d + 0) mk_M_qTakes (Nat.le_of_ble_eq_true rfl) (?_ : T (E_M_qTakes d) injV 0 [(0, .ref 78), (1, vI v1), (2, vJ v2), (4, vI v4)] [] M (f_M_qTakes v1 v2 v4 M)) h
  unfold f_M_qTakes
  refine tq_iload_n 1 (E := E_M_qTakes d) (pc := 0) (cks_at k_M_qTakes 0 rfl rfl) rfl ?_
  refine tq_iconst (E := E_M_qTakes d) (pc := 1) (cks_at k_M_qTakes 1 rfl rfl) ?_
  refine tq_icmp_ge (E := E_M_qTakes d) (pc := 2) (tgt := 15) (cks_at k_M_qTakes 2 rfl rfl) (by decide) ?_ ?_
  · refine tq_iconst (E := E_M_qTakes d) (pc := 15) (cks_at k_M_qTakes 9 rfl rfl) ?_
    exact tq_sub [0, 1, 2, 3] rfl (w_M_qTakes_J16 d v1 v2 v4 0 M)
  · refine tq_lload_n 2 (E := E_M_qTakes d) (pc := 5) (cks_at k_M_qTakes 3 rfl rfl) rfl ?_
    refine tq_lconst1 (E := E_M_qTakes d) (pc := 6) (cks_at k_M_qTakes 4 rfl rfl) ?_
    refine tq_lcmp (E := E_M_qTakes d) (pc := 7) (cks_at k_M_qTakes 5 rfl rfl) ?_
    refine tq_if_ne (E := E_M_qTakes d) (pc := 8) (tgt := 15) (cks_at k_M_qTakes 6 rfl rfl) (by decide) ?_ ?_
    · refine tq_iconst (E := E_M_qTakes d) (pc := 15) (cks_at k_M_qTakes 9 rfl rfl) ?_
      exact tq_sub [0, 1, 2, 3] rfl (w_M_qTakes_J16 d v1 v2 v4 0 M)
    · refine tq_iconst (E := E_M_qTakes d) (pc := 11) (cks_at k_M_qTakes 7 rfl rfl) ?_
      refine tq_goto (tgt := 16) (E := E_M_qTakes d) (pc := 12) (cks_at k_M_qTakes 8 rfl rfl) (by decide) ?_
      exact tq_sub [0, 1, 2, 3] rfl (w_M_qTakes_J16 d v1 v2 v4 1 M)
abbrev E_M_ask (d : Nat) : Ev := (Ct (d + 10), "BreathTownModel", prog_14_method_144_code, 3, False, 0, (fun _ => 0), (Option.some Jvm.ClassFile.FieldType.long))
def f_M_ask_B167 (kH : Int → Int → Mm → Option (Int × Mm)) (v1 v2 : Int) (M : Mm) : Option (Int × Mm) :=
  if i32 ((M 108 0) + 200) < i32 v2 then
    some (M 78 96, M)
  else
    bI (f_M_qTold v2 M) (fun r18 M17 =>
    bV (f_M_qTakes v1 r18 v2 M17) (fun M19 =>
    kH v1 (v2 + 1) M19))
set_option maxRecDepth 20000 in
set_option maxHeartbeats 4000000 in
theorem w_M_ask_B167 (d : Nat) (kH : Int → Int → Mm → Option (Int × Mm)) (hkH : ∀ (v1 v2 : Int) (M : Mm), T (E_M_ask d) injJ 167 [(0, .ref 78), (1, vI v1), (2, vI v2)] [] M (kH v1 v2 M)) (v1 v2 : Int) (M : Mm) : T (E_M_ask d) injJ 167 [(0, .ref 78), (1, vI v1), (2, vI v2)] [] M (f_M_ask_B167 kH v1 v2 M) := by
  unfold f_M_ask_B167
  refine tq_iload_n 2 (E := E_M_ask d) (pc := 167) (cks_at k_M_ask 89 rfl rfl) rfl ?_
  refine tq_aload_n 0 (E := E_M_ask d) (pc := 168) (cks_at k_M_ask 90 rfl rfl) rfl ?_
  refine tq_getR (j := 108) (E := E_M_ask d) (pc := 169) (cks_at k_M_ask 91 rfl rfl) fo_M_103 so_78 rfl sp_78_45 ?_
  refine tq_iconst (E := E_M_ask d) (pc := 172) (cks_at k_M_ask 92 rfl rfl) ?_
  refine tq_ialdC 0 (E := E_M_ask d) (pc := 173) (cks_at k_M_ask 93 rfl rfl) sa_108 sn_108 (by decide) ?_
  refine tq_sipush (E := E_M_ask d) (pc := 174) (cks_at k_M_ask 94 rfl rfl) (by decide) (by decide) ?_
  refine tq_iadd (E := E_M_ask d) (pc := 177) (cks_at k_M_ask 95 rfl rfl) ?_
  refine tq_icmp_gt (E := E_M_ask d) (pc := 178) (tgt := 198) (cks_at k_M_ask 96 rfl rfl) (by decide) ?_ ?_
  · refine tq_aload_n 0 (E := E_M_ask d) (pc := 198) (cks_at k_M_ask 106 rfl rfl) rfl ?_
    refine tq_getJ (E := E_M_ask d) (pc := 199) (cks_at k_M_ask 107 rfl rfl) fo_M_705 so_78 rfl ?_
    exact tq_lret (E := E_M_ask d) (pc := 202) (cks_at k_M_ask 108 rfl rfl) rfl
  · refine tq_aload_n 0 (E := E_M_ask d) (pc := 181) (cks_at k_M_ask 97 rfl rfl) rfl ?_
    refine tq_iload_n 1 (E := E_M_ask d) (pc := 182) (cks_at k_M_ask 98 rfl rfl) rfl ?_
    refine tq_aload_n 0 (E := E_M_ask d) (pc := 183) (cks_at k_M_ask 99 rfl rfl) rfl ?_
    refine tq_iload_n 2 (E := E_M_ask d) (pc := 184) (cks_at k_M_ask 100 rfl rfl) rfl ?_
    refine tq_V1 (E := E_M_ask d) (pc := 185) (cks_at k_M_ask 101 rfl rfl) mk_M_qTold lk_M_720 rc_78 (Nat.le_of_ble_eq_true rfl) (c_M_qTold (d + 0) v2 M) (k_J fun r18 M17 => ?_)
    refine tq_iload_n 2 (E := E_M_ask d) (pc := 188) (cks_at k_M_ask 102 rfl rfl) rfl ?_
    refine tq_V3 (E := E_M_ask d) (pc := 189) (cks_at k_M_ask 103 rfl rfl) mk_M_qTakes lk_M_724 rc_78 (Nat.le_of_ble_eq_true rfl) (c_M_qTakes (d + 9) v1 r18 v2 M17) (k_V fun M19 => ?_)
    refine tq_iinc 2 (E := E_M_ask d) (pc := 192) (cks_at k_M_ask 104 rfl rfl) rfl (show 2 < 3 by decide) rfl ?_
    refine tq_goto (tgt := 167) (E := E_M_ask d) (pc := 195) (cks_at k_M_ask 105 rfl rfl) (by decide) ?_
    exact tq_sub [1, 2, 0] rfl (hkH v1 (v2 + 1) M19)
def f_M_ask_L167 : Nat → Int × Int × Mm → Option (Int × Mm) := lp fun kH s => f_M_ask_B167 (fun v1 v2 M => kH (v1, v2, M)) s.1 s.2.1 s.2.2
set_option maxRecDepth 20000 in
set_option maxHeartbeats 4000000 in
theorem w_M_ask_L167 (d : Nat) (n : Nat) (s : Int × Int × Mm) : T (E_M_ask d) injJ 167 [(0, .ref 78), (1, vI s.1), (2, vI s.2.1)] [] s.2.2 (f_M_ask_L167 n s) :=
  tq_lp (fun s => [(0, .ref 78), (1, vI s.1), (2, vI s.2.1)]) (fun s => s.2.2) (fun kH hH s => w_M_ask_B167 d (fun v1 v2 M => kH (v1, v2, M)) (fun v1 v2 M => hH (v1, v2, M)) s.1 s.2.1 s.2.2) n s
def f_M_ask_J152 (v1 s0 : Int) (M : Mm) : Option (Int × Mm) :=
  bd (up M 78 96 s0) (fun M15 =>
  gd (i32 1 = 0 ∨ i32 1 = 1) <|
  bd (up M15 78 97 1) (fun M16 =>
  f_M_ask_L167 FU (v1, (M16 108 0), M16)))
set_option maxRecDepth 20000 in
set_option maxHeartbeats 4000000 in
theorem w_M_ask_J152 (d : Nat) (v1 s0 : Int) (M : Mm) : T (E_M_ask d) injJ 152 [(0, .ref 78), (1, vI v1)] [vJ s0, .ref 78] M (f_M_ask_J152 v1 s0 M) := by
  unfold f_M_ask_J152
  refine tq_putJ (E := E_M_ask d) (pc := 152) (cks_at k_M_ask 80 rfl rfl) fo_M_705 so_78 rfl po_12_96 (fun M15 => ?_)
  refine tq_aload_n 0 (E := E_M_ask d) (pc := 155) (cks_at k_M_ask 81 rfl rfl) rfl ?_
  refine tq_iconst (E := E_M_ask d) (pc := 156) (cks_at k_M_ask 82 rfl rfl) ?_
  refine tq_putZ (E := E_M_ask d) (pc := 157) (cks_at k_M_ask 83 rfl rfl) fo_M_708 so_78 rfl po_12_97 (fun M16 => ?_)
  refine tq_aload_n 0 (E := E_M_ask d) (pc := 160) (cks_at k_M_ask 84 rfl rfl) rfl ?_
  refine tq_getR (j := 108) (E := E_M_ask d) (pc := 161) (cks_at k_M_ask 85 rfl rfl) fo_M_103 so_78 rfl sp_78_45 ?_
  refine tq_iconst (E := E_M_ask d) (pc := 164) (cks_at k_M_ask 86 rfl rfl) ?_
  refine tq_ialdC 0 (E := E_M_ask d) (pc := 165) (cks_at k_M_ask 87 rfl rfl) sa_108 sn_108 (by decide) ?_
  refine tq_istore_n (E := E_M_ask d) (pc := 166) (cks_at k_M_ask 88 rfl rfl) (show 2 < 3 by decide) rfl ?_
  exact tq_sub [1, 2, 0] rfl (w_M_ask_L167 d FU (v1, (M16 108 0), M16))
def f_M_ask_J112 (v1 : Int) (M : Mm) : Option (Int × Mm) :=
  bd (up M 78 7 (M 78 5)) (fun M13 =>
  bd (up M13 78 8 (M13 78 6)) (fun M14 =>
  if i32 (M14 78 5) = 0 then
    if i32 2 ≤ i32 v1 then
      f_M_ask_J152 v1 0 M14
    else
      f_M_ask_J152 v1 ((-1)) M14
  else
    some ((-1000000000000000), M14)))
set_option maxRecDepth 20000 in
set_option maxHeartbeats 4000000 in
theorem w_M_ask_J112 (d : Nat) (v1 : Int) (M : Mm) : T (E_M_ask d) injJ 112 [(0, .ref 78), (1, vI v1)] [] M (f_M_ask_J112 v1 M) := by
  unfold f_M_ask_J112
  refine tq_aload_n 0 (E := E_M_ask d) (pc := 112) (cks_at k_M_ask 60 rfl rfl) rfl ?_
  refine tq_aload_n 0 (E := E_M_ask d) (pc := 113) (cks_at k_M_ask 61 rfl rfl) rfl ?_
  refine tq_getI (E := E_M_ask d) (pc := 114) (cks_at k_M_ask 62 rfl rfl) fo_M_225 so_78 rfl (by decide) ?_
  refine tq_putI (E := E_M_ask d) (pc := 117) (cks_at k_M_ask 63 rfl rfl) fo_M_344 so_78 rfl po_12_7 (fun M13 => ?_)
  refine tq_aload_n 0 (E := E_M_ask d) (pc := 120) (cks_at k_M_ask 64 rfl rfl) rfl ?_
  refine tq_aload_n 0 (E := E_M_ask d) (pc := 121) (cks_at k_M_ask 65 rfl rfl) rfl ?_
  refine tq_getI (E := E_M_ask d) (pc := 122) (cks_at k_M_ask 66 rfl rfl) fo_M_228 so_78 rfl (by decide) ?_
  refine tq_putI (E := E_M_ask d) (pc := 125) (cks_at k_M_ask 67 rfl rfl) fo_M_13 so_78 rfl po_12_8 (fun M14 => ?_)
  refine tq_aload_n 0 (E := E_M_ask d) (pc := 128) (cks_at k_M_ask 68 rfl rfl) rfl ?_
  refine tq_getI (E := E_M_ask d) (pc := 129) (cks_at k_M_ask 69 rfl rfl) fo_M_225 so_78 rfl (by decide) ?_
  refine tq_if_eq (E := E_M_ask d) (pc := 132) (tgt := 139) (cks_at k_M_ask 70 rfl rfl) (by decide) ?_ ?_
  · refine tq_aload_n 0 (E := E_M_ask d) (pc := 139) (cks_at k_M_ask 73 rfl rfl) rfl ?_
    refine tq_iload_n 1 (E := E_M_ask d) (pc := 140) (cks_at k_M_ask 74 rfl rfl) rfl ?_
    refine tq_iconst (E := E_M_ask d) (pc := 141) (cks_at k_M_ask 75 rfl rfl) ?_
    refine tq_icmp_ge (E := E_M_ask d) (pc := 142) (tgt := 151) (cks_at k_M_ask 76 rfl rfl) (by decide) ?_ ?_
    · refine tq_lconst0 (E := E_M_ask d) (pc := 151) (cks_at k_M_ask 79 rfl rfl) ?_
      exact tq_sub [0, 1] rfl (w_M_ask_J152 d v1 0 M14)
    · refine tq_ldc2 (z := (-1)) (E := E_M_ask d) (pc := 145) (cks_at k_M_ask 77 rfl rfl) cst_M_552 ?_
      refine tq_goto (tgt := 152) (E := E_M_ask d) (pc := 148) (cks_at k_M_ask 78 rfl rfl) (by decide) ?_
      exact tq_sub [0, 1] rfl (w_M_ask_J152 d v1 ((-1)) M14)
  · refine tq_ldc2 (z := (-1000000000000000)) (E := E_M_ask d) (pc := 135) (cks_at k_M_ask 71 rfl rfl) cst_M_718 ?_
    exact tq_lret (E := E_M_ask d) (pc := 138) (cks_at k_M_ask 72 rfl rfl) rfl
def f_M_ask_J88 (v1 : Int) (M : Mm) : Option (Int × Mm) :=
  if ¬ i32 (M 78 5) = 0 then
    f_M_ask_J112 v1 M
  else
    bI (f_M_look M) (fun r21 M20 =>
    if i32 r21 = i32 ((-1)) then
      f_M_ask_J112 v1 M20
    else
      bV (f_M_fail 1 (M20 78 2) M20) (fun M22 =>
      f_M_ask_J112 v1 M22))
set_option maxRecDepth 20000 in
set_option maxHeartbeats 4000000 in
theorem w_M_ask_J88 (d : Nat) (v1 : Int) (M : Mm) : T (E_M_ask d) injJ 88 [(0, .ref 78), (1, vI v1)] [] M (f_M_ask_J88 v1 M) := by
  unfold f_M_ask_J88
  refine tq_aload_n 0 (E := E_M_ask d) (pc := 88) (cks_at k_M_ask 48 rfl rfl) rfl ?_
  refine tq_getI (E := E_M_ask d) (pc := 89) (cks_at k_M_ask 49 rfl rfl) fo_M_225 so_78 rfl (by decide) ?_
  refine tq_if_ne (E := E_M_ask d) (pc := 92) (tgt := 112) (cks_at k_M_ask 50 rfl rfl) (by decide) ?_ ?_
  · exact tq_sub [0, 1] rfl (w_M_ask_J112 d v1 M)
  · refine tq_aload_n 0 (E := E_M_ask d) (pc := 95) (cks_at k_M_ask 51 rfl rfl) rfl ?_
    refine tq_V0 (E := E_M_ask d) (pc := 96) (cks_at k_M_ask 52 rfl rfl) mk_M_look lk_M_237 rc_78 (Nat.le_of_ble_eq_true rfl) (c_M_look (d + 9) M) (k_I fun r21 M20 => ?_)
    refine tq_iconst (E := E_M_ask d) (pc := 99) (cks_at k_M_ask 53 rfl rfl) ?_
    refine tq_icmp_eq (E := E_M_ask d) (pc := 100) (tgt := 112) (cks_at k_M_ask 54 rfl rfl) (by decide) ?_ ?_
    · exact tq_sub [0, 1] rfl (w_M_ask_J112 d v1 M20)
    · refine tq_aload_n 0 (E := E_M_ask d) (pc := 103) (cks_at k_M_ask 55 rfl rfl) rfl ?_
      refine tq_iconst (E := E_M_ask d) (pc := 104) (cks_at k_M_ask 56 rfl rfl) ?_
      refine tq_aload_n 0 (E := E_M_ask d) (pc := 105) (cks_at k_M_ask 57 rfl rfl) rfl ?_
      refine tq_getI (E := E_M_ask d) (pc := 106) (cks_at k_M_ask 58 rfl rfl) fo_M_231 so_78 rfl (by decide) ?_
      refine tq_V2 (E := E_M_ask d) (pc := 109) (cks_at k_M_ask 59 rfl rfl) mk_M_fail lk_M_255 rc_78 (Nat.le_of_ble_eq_true rfl) (c_M_fail (d + 9) 1 (M20 78 2) M20) (k_V fun M22 => ?_)
      exact tq_sub [0, 1] rfl (w_M_ask_J112 d v1 M22)
def f_M_ask_J77 (v1 : Int) (M : Mm) : Option (Int × Mm) :=
  if ¬ i32 (M 78 5) = 0 then
    f_M_ask_J88 v1 M
  else
    bV (f_M_qSums M) (fun M23 =>
    f_M_ask_J88 v1 M23)
set_option maxRecDepth 20000 in
set_option maxHeartbeats 4000000 in
theorem w_M_ask_J77 (d : Nat) (v1 : Int) (M : Mm) : T (E_M_ask d) injJ 77 [(0, .ref 78), (1, vI v1)] [] M (f_M_ask_J77 v1 M) := by
  unfold f_M_ask_J77
  refine tq_aload_n 0 (E := E_M_ask d) (pc := 77) (cks_at k_M_ask 43 rfl rfl) rfl ?_
  refine tq_getI (E := E_M_ask d) (pc := 78) (cks_at k_M_ask 44 rfl rfl) fo_M_225 so_78 rfl (by decide) ?_
  refine tq_if_ne (E := E_M_ask d) (pc := 81) (tgt := 88) (cks_at k_M_ask 45 rfl rfl) (by decide) ?_ ?_
  · exact tq_sub [0, 1] rfl (w_M_ask_J88 d v1 M)
  · refine tq_aload_n 0 (E := E_M_ask d) (pc := 84) (cks_at k_M_ask 46 rfl rfl) rfl ?_
    refine tq_V0 (E := E_M_ask d) (pc := 85) (cks_at k_M_ask 47 rfl rfl) mk_M_qSums lk_M_665 rc_78 (Nat.le_of_ble_eq_true rfl) (c_M_qSums (d + 3) M) (k_V fun M23 => ?_)
    exact tq_sub [0, 1] rfl (w_M_ask_J88 d v1 M23)
def f_M_ask (M : Mm) : Option (Int × Mm) :=
  bd (up M 78 3 (M 78 1)) (fun M1 =>
  bd (up M1 78 1 0) (fun M2 =>
  bd (up M2 78 2 0) (fun M3 =>
  bd (up M3 78 4 ((-1))) (fun M4 =>
  bd (up M4 78 5 0) (fun M5 =>
  bd (up M5 78 6 ((-1))) (fun M6 =>
  bd (up M6 78 89 0) (fun M7 =>
  bd (up M7 78 91 0) (fun M8 =>
  bd (up M8 78 92 0) (fun M9 =>
  bd (up M9 78 93 0) (fun M10 =>
  bI (f_M_qKind M10) (fun r12 M11 =>
  if ¬ i32 (M11 78 5) = 0 then
    f_M_ask_J77 r12 M11
  else
    if i32 3 ≤ i32 r12 then
      f_M_ask_J77 r12 M11
    else
      bV (f_M_qTest M11) (fun M24 =>
      f_M_ask_J88 r12 M24))))))))))))
set_option maxRecDepth 20000 in
set_option maxHeartbeats 4000000 in
theorem c_M_ask (d : Nat) (M : Mm) (Q : Option Value → Mm → Prop) (h : sat injJ (f_M_ask M) Q) : Ct (d + 11) y_M_ask [.ref 78] M Q := by
  refine ct_in (d := d + 10) mk_M_ask (Nat.le_of_ble_eq_true rfl) (?_ : T (E_M_ask d) injJ 0 [(0, .ref 78)] [] M (f_M_ask M)) h
  unfold f_M_ask
  refine tq_aload_n 0 (E := E_M_ask d) (pc := 0) (cks_at k_M_ask 0 rfl rfl) rfl ?_
  refine tq_aload_n 0 (E := E_M_ask d) (pc := 1) (cks_at k_M_ask 1 rfl rfl) rfl ?_
  refine tq_getI (E := E_M_ask d) (pc := 2) (cks_at k_M_ask 2 rfl rfl) fo_M_222 so_78 rfl (by decide) ?_
  refine tq_putI (E := E_M_ask d) (pc := 5) (cks_at k_M_ask 3 rfl rfl) fo_M_234 so_78 rfl po_12_3 (fun M1 => ?_)
  refine tq_aload_n 0 (E := E_M_ask d) (pc := 8) (cks_at k_M_ask 4 rfl rfl) rfl ?_
  refine tq_iconst (E := E_M_ask d) (pc := 9) (cks_at k_M_ask 5 rfl rfl) ?_
  refine tq_putI (E := E_M_ask d) (pc := 10) (cks_at k_M_ask 6 rfl rfl) fo_M_222 so_78 rfl po_12_1 (fun M2 => ?_)
  refine tq_aload_n 0 (E := E_M_ask d) (pc := 13) (cks_at k_M_ask 7 rfl rfl) rfl ?_
  refine tq_iconst (E := E_M_ask d) (pc := 14) (cks_at k_M_ask 8 rfl rfl) ?_
  refine tq_putI (E := E_M_ask d) (pc := 15) (cks_at k_M_ask 9 rfl rfl) fo_M_231 so_78 rfl po_12_2 (fun M3 => ?_)
  refine tq_aload_n 0 (E := E_M_ask d) (pc := 18) (cks_at k_M_ask 10 rfl rfl) rfl ?_
  refine tq_iconst (E := E_M_ask d) (pc := 19) (cks_at k_M_ask 11 rfl rfl) ?_
  refine tq_putI (E := E_M_ask d) (pc := 20) (cks_at k_M_ask 12 rfl rfl) fo_M_245 so_78 rfl po_12_4 (fun M4 => ?_)
  refine tq_aload_n 0 (E := E_M_ask d) (pc := 23) (cks_at k_M_ask 13 rfl rfl) rfl ?_
  refine tq_iconst (E := E_M_ask d) (pc := 24) (cks_at k_M_ask 14 rfl rfl) ?_
  refine tq_putI (E := E_M_ask d) (pc := 25) (cks_at k_M_ask 15 rfl rfl) fo_M_225 so_78 rfl po_12_5 (fun M5 => ?_)
  refine tq_aload_n 0 (E := E_M_ask d) (pc := 28) (cks_at k_M_ask 16 rfl rfl) rfl ?_
  refine tq_iconst (E := E_M_ask d) (pc := 29) (cks_at k_M_ask 17 rfl rfl) ?_
  refine tq_putI (E := E_M_ask d) (pc := 30) (cks_at k_M_ask 18 rfl rfl) fo_M_228 so_78 rfl po_12_6 (fun M6 => ?_)
  refine tq_aload_n 0 (E := E_M_ask d) (pc := 33) (cks_at k_M_ask 19 rfl rfl) rfl ?_
  refine tq_iconst (E := E_M_ask d) (pc := 34) (cks_at k_M_ask 20 rfl rfl) ?_
  refine tq_putI (E := E_M_ask d) (pc := 35) (cks_at k_M_ask 21 rfl rfl) fo_M_614 so_78 rfl po_12_89 (fun M7 => ?_)
  refine tq_aload_n 0 (E := E_M_ask d) (pc := 38) (cks_at k_M_ask 22 rfl rfl) rfl ?_
  refine tq_iconst (E := E_M_ask d) (pc := 39) (cks_at k_M_ask 23 rfl rfl) ?_
  refine tq_putI (E := E_M_ask d) (pc := 40) (cks_at k_M_ask 24 rfl rfl) fo_M_620 so_78 rfl po_12_91 (fun M8 => ?_)
  refine tq_aload_n 0 (E := E_M_ask d) (pc := 43) (cks_at k_M_ask 25 rfl rfl) rfl ?_
  refine tq_iconst (E := E_M_ask d) (pc := 44) (cks_at k_M_ask 26 rfl rfl) ?_
  refine tq_putI (E := E_M_ask d) (pc := 45) (cks_at k_M_ask 27 rfl rfl) fo_M_617 so_78 rfl po_12_92 (fun M9 => ?_)
  refine tq_aload_n 0 (E := E_M_ask d) (pc := 48) (cks_at k_M_ask 28 rfl rfl) rfl ?_
  refine tq_iconst (E := E_M_ask d) (pc := 49) (cks_at k_M_ask 29 rfl rfl) ?_
  refine tq_putI (E := E_M_ask d) (pc := 50) (cks_at k_M_ask 30 rfl rfl) fo_M_626 so_78 rfl po_12_93 (fun M10 => ?_)
  refine tq_aload_n 0 (E := E_M_ask d) (pc := 53) (cks_at k_M_ask 31 rfl rfl) rfl ?_
  refine tq_V0 (E := E_M_ask d) (pc := 54) (cks_at k_M_ask 32 rfl rfl) mk_M_qKind lk_M_712 rc_78 (Nat.le_of_ble_eq_true rfl) (c_M_qKind (d + 5) M10) (k_I fun r12 M11 => ?_)
  refine tq_istore_n (E := E_M_ask d) (pc := 57) (cks_at k_M_ask 33 rfl rfl) (show 1 < 3 by decide) rfl ?_
  refine tq_aload_n 1 (E := E_M_ask d) (pc := 58) (cks_at k_M_ask 34 rfl rfl) rfl ?_
  refine tq_getI (E := E_M_ask d) (pc := 59) (cks_at k_M_ask 35 rfl rfl) fo_M_225 so_78 rfl (by decide) ?_
  refine tq_if_ne (E := E_M_ask d) (pc := 62) (tgt := 77) (cks_at k_M_ask 36 rfl rfl) (by decide) ?_ ?_
  · exact tq_sub [1, 0] rfl (w_M_ask_J77 d r12 M11)
  · refine tq_iload_n 0 (E := E_M_ask d) (pc := 65) (cks_at k_M_ask 37 rfl rfl) rfl ?_
    refine tq_iconst (E := E_M_ask d) (pc := 66) (cks_at k_M_ask 38 rfl rfl) ?_
    refine tq_icmp_ge (E := E_M_ask d) (pc := 67) (tgt := 77) (cks_at k_M_ask 39 rfl rfl) (by decide) ?_ ?_
    · exact tq_sub [1, 0] rfl (w_M_ask_J77 d r12 M11)
    · refine tq_aload_n 1 (E := E_M_ask d) (pc := 70) (cks_at k_M_ask 40 rfl rfl) rfl ?_
      refine tq_V0 (E := E_M_ask d) (pc := 71) (cks_at k_M_ask 41 rfl rfl) mk_M_qTest lk_M_715 rc_78 (Nat.le_of_ble_eq_true rfl) (c_M_qTest (d + 1) M11) (k_V fun M24 => ?_)
      refine tq_goto (tgt := 88) (E := E_M_ask d) (pc := 74) (cks_at k_M_ask 42 rfl rfl) (by decide) ?_
      exact tq_sub [1, 0] rfl (w_M_ask_J88 d r12 M24)
abbrev E_Scan_start (d : Nat) : Ev := (Ct (d + 0), "BreathTown$Scan", prog_7_method_3_code, 1, False, 0, (fun _ => 0), (Option.none : Option Jvm.ClassFile.FieldType))
def f_Scan_start (M : Mm) : Option (Mm) :=
  bd (up M 1 2 0) (fun M1 =>
  bd (up M1 1 3 ((-1))) (fun M2 =>
  bd (up M2 1 4 0) (fun M3 =>
  bd (up M3 1 5 0) (fun M4 =>
  bd (up M4 1 6 ((-1))) (fun M5 =>
  some M5)))))
set_option maxRecDepth 20000 in
set_option maxHeartbeats 4000000 in
theorem c_Scan_start (d : Nat) (M : Mm) (Q : Option Value → Mm → Prop) (h : sat injV (f_Scan_start M) Q) : Ct (d + 1) y_Scan_start [.ref 1] M Q := by
  refine ct_in (d := d + 0) mk_Scan_start (Nat.le_of_ble_eq_true rfl) (?_ : T (E_Scan_start d) injV 0 [(0, .ref 1)] [] M (f_Scan_start M)) h
  unfold f_Scan_start
  refine tq_aload_n 0 (E := E_Scan_start d) (pc := 0) (cks_at k_Scan_start 0 rfl rfl) rfl ?_
  refine tq_iconst (E := E_Scan_start d) (pc := 1) (cks_at k_Scan_start 1 rfl rfl) ?_
  refine tq_putI (E := E_Scan_start d) (pc := 2) (cks_at k_Scan_start 2 rfl rfl) fo_Scan_23 so_1 rfl po_5_2 (fun M1 => ?_)
  refine tq_aload_n 0 (E := E_Scan_start d) (pc := 5) (cks_at k_Scan_start 3 rfl rfl) rfl ?_
  refine tq_iconst (E := E_Scan_start d) (pc := 6) (cks_at k_Scan_start 4 rfl rfl) ?_
  refine tq_putI (E := E_Scan_start d) (pc := 7) (cks_at k_Scan_start 5 rfl rfl) fo_Scan_26 so_1 rfl po_5_3 (fun M2 => ?_)
  refine tq_aload_n 0 (E := E_Scan_start d) (pc := 10) (cks_at k_Scan_start 6 rfl rfl) rfl ?_
  refine tq_iconst (E := E_Scan_start d) (pc := 11) (cks_at k_Scan_start 7 rfl rfl) ?_
  refine tq_putI (E := E_Scan_start d) (pc := 12) (cks_at k_Scan_start 8 rfl rfl) fo_Scan_29 so_1 rfl po_5_4 (fun M3 => ?_)
  refine tq_aload_n 0 (E := E_Scan_start d) (pc := 15) (cks_at k_Scan_start 9 rfl rfl) rfl ?_
  refine tq_iconst (E := E_Scan_start d) (pc := 16) (cks_at k_Scan_start 10 rfl rfl) ?_
  refine tq_putI (E := E_Scan_start d) (pc := 17) (cks_at k_Scan_start 11 rfl rfl) fo_Scan_32 so_1 rfl po_5_5 (fun M4 => ?_)
  refine tq_aload_n 0 (E := E_Scan_start d) (pc := 20) (cks_at k_Scan_start 12 rfl rfl) rfl ?_
  refine tq_iconst (E := E_Scan_start d) (pc := 21) (cks_at k_Scan_start 13 rfl rfl) ?_
  refine tq_putI (E := E_Scan_start d) (pc := 22) (cks_at k_Scan_start 14 rfl rfl) fo_Scan_35 so_1 rfl po_5_6 (fun M5 => ?_)
  exact tq_vret (E := E_Scan_start d) (pc := 25) (cks_at k_Scan_start 15 rfl rfl) rfl
abbrev E_Code_clear (d : Nat) : Ev := (Ct (d + 0), "BreathTown$Code", prog_2_method_2_code, 1, False, 0, (fun _ => 0), (Option.none : Option Jvm.ClassFile.FieldType))
def f_Code_clear (this : Nat) (M : Mm) : Option (Mm) :=
  bd (up M this 3 0) (fun M1 =>
  bd (up M1 this 4 0) (fun M2 =>
  some M2))
set_option maxRecDepth 20000 in
set_option maxHeartbeats 4000000 in
theorem c_Code_clear (d : Nat) (this : Nat) (hthis : isCode this) (M : Mm) (Q : Option Value → Mm → Prop) (h : sat injV (f_Code_clear this M) Q) : Ct (d + 1) y_Code_clear [.ref this] M Q := by
  refine ct_in (d := d + 0) mk_Code_clear (Nat.le_of_ble_eq_true rfl) (?_ : T (E_Code_clear d) injV 0 [(0, .ref this)] [] M (f_Code_clear this M)) h
  unfold f_Code_clear
  refine tq_aload_n 0 (E := E_Code_clear d) (pc := 0) (cks_at k_Code_clear 0 rfl rfl) rfl ?_
  refine tq_iconst (E := E_Code_clear d) (pc := 1) (cks_at k_Code_clear 1 rfl rfl) ?_
  refine tq_putI (E := E_Code_clear d) (pc := 2) (cks_at k_Code_clear 2 rfl rfl) fo_Code_21 (isCode_ok hthis) rfl po_0_3 (fun M1 => ?_)
  refine tq_aload_n 0 (E := E_Code_clear d) (pc := 5) (cks_at k_Code_clear 3 rfl rfl) rfl ?_
  refine tq_iconst (E := E_Code_clear d) (pc := 6) (cks_at k_Code_clear 4 rfl rfl) ?_
  refine tq_putI (E := E_Code_clear d) (pc := 7) (cks_at k_Code_clear 5 rfl rfl) fo_Code_25 (isCode_ok hthis) rfl po_0_4 (fun M2 => ?_)
  exact tq_vret (E := E_Code_clear d) (pc := 10) (cks_at k_Code_clear 6 rfl rfl) rfl
abbrev E_Quest_head (d : Nat) : Ev := (Ct (d + 6), "BreathTown$Question", prog_5_method_3_code, 1, False, 0, (fun _ => 0), (Option.some Jvm.ClassFile.FieldType.int))
def f_Quest_head (M : Mm) : Option (Int × Mm) :=
  bI (f_Scan_takeWord 21 M) (fun r2 M1 =>
  if i32 r2 = 0 then
    bI (f_Scan_takeWord 22 M1) (fun r4 M3 =>
    if i32 r4 = 0 then
      bI (f_Scan_takeWord 23 M3) (fun r6 M5 =>
      if i32 r6 = 0 then
        bI (f_Scan_takeWord 24 M5) (fun r8 M7 =>
        if i32 r8 = 0 then
          bI (f_Scan_takeWord 25 M7) (fun r10 M9 =>
          if i32 r10 = 0 then
            bI (f_Scan_takeWord 26 M9) (fun r12 M11 =>
            if i32 r12 = 0 then
              some ((-1), M11)
            else
              some (5, M11))
          else
            some (4, M9))
        else
          some (3, M7))
      else
        some (2, M5))
    else
      some (1, M3))
  else
    some (0, M1))
set_option maxRecDepth 20000 in
set_option maxHeartbeats 4000000 in
theorem c_Quest_head (d : Nat) (M : Mm) (Q : Option Value → Mm → Prop) (h : sat injI (f_Quest_head M) Q) : Ct (d + 7) y_Quest_head [.ref 70] M Q := by
  refine ct_in (d := d + 6) mk_Quest_head (Nat.le_of_ble_eq_true rfl) (?_ : T (E_Quest_head d) injI 0 [(0, .ref 70)] [] M (f_Quest_head M)) h
  unfold f_Quest_head
  refine tq_aload_n 0 (E := E_Quest_head d) (pc := 0) (cks_at k_Quest_head 0 rfl rfl) rfl ?_
  refine tq_getR (j := 1) (E := E_Quest_head d) (pc := 1) (cks_at k_Quest_head 1 rfl rfl) fo_Quest_22 so_70 rfl sp_70_0 ?_
  refine tq_ldcS (j := 22) (s := 21) (E := E_Quest_head d) (pc := 4) (cks_at k_Quest_head 2 rfl rfl) rfl ?_
  refine tq_V1 (E := E_Quest_head d) (pc := 6) (cks_at k_Quest_head 3 rfl rfl) mk_Scan_takeWord lk_Quest_78 rc_1 (Nat.le_of_ble_eq_true rfl) (c_Scan_takeWord (d + 0) 21 (by decide) M) (k_I fun r2 M1 => ?_)
  refine tq_if_eq (E := E_Quest_head d) (pc := 9) (tgt := 14) (cks_at k_Quest_head 4 rfl rfl) (by decide) ?_ ?_
  · refine tq_aload_n 0 (E := E_Quest_head d) (pc := 14) (cks_at k_Quest_head 7 rfl rfl) rfl ?_
    refine tq_getR (j := 1) (E := E_Quest_head d) (pc := 15) (cks_at k_Quest_head 8 rfl rfl) fo_Quest_22 so_70 rfl sp_70_0 ?_
    refine tq_ldcS (j := 23) (s := 22) (E := E_Quest_head d) (pc := 18) (cks_at k_Quest_head 9 rfl rfl) rfl ?_
    refine tq_V1 (E := E_Quest_head d) (pc := 20) (cks_at k_Quest_head 10 rfl rfl) mk_Scan_takeWord lk_Quest_78 rc_1 (Nat.le_of_ble_eq_true rfl) (c_Scan_takeWord (d + 0) 22 (by decide) M1) (k_I fun r4 M3 => ?_)
    refine tq_if_eq (E := E_Quest_head d) (pc := 23) (tgt := 28) (cks_at k_Quest_head 11 rfl rfl) (by decide) ?_ ?_
    · refine tq_aload_n 0 (E := E_Quest_head d) (pc := 28) (cks_at k_Quest_head 14 rfl rfl) rfl ?_
      refine tq_getR (j := 1) (E := E_Quest_head d) (pc := 29) (cks_at k_Quest_head 15 rfl rfl) fo_Quest_22 so_70 rfl sp_70_0 ?_
      refine tq_ldcS (j := 24) (s := 23) (E := E_Quest_head d) (pc := 32) (cks_at k_Quest_head 16 rfl rfl) rfl ?_
      refine tq_V1 (E := E_Quest_head d) (pc := 34) (cks_at k_Quest_head 17 rfl rfl) mk_Scan_takeWord lk_Quest_78 rc_1 (Nat.le_of_ble_eq_true rfl) (c_Scan_takeWord (d + 0) 23 (by decide) M3) (k_I fun r6 M5 => ?_)
      refine tq_if_eq (E := E_Quest_head d) (pc := 37) (tgt := 42) (cks_at k_Quest_head 18 rfl rfl) (by decide) ?_ ?_
      · refine tq_aload_n 0 (E := E_Quest_head d) (pc := 42) (cks_at k_Quest_head 21 rfl rfl) rfl ?_
        refine tq_getR (j := 1) (E := E_Quest_head d) (pc := 43) (cks_at k_Quest_head 22 rfl rfl) fo_Quest_22 so_70 rfl sp_70_0 ?_
        refine tq_ldcS (j := 25) (s := 24) (E := E_Quest_head d) (pc := 46) (cks_at k_Quest_head 23 rfl rfl) rfl ?_
        refine tq_V1 (E := E_Quest_head d) (pc := 48) (cks_at k_Quest_head 24 rfl rfl) mk_Scan_takeWord lk_Quest_78 rc_1 (Nat.le_of_ble_eq_true rfl) (c_Scan_takeWord (d + 0) 24 (by decide) M5) (k_I fun r8 M7 => ?_)
        refine tq_if_eq (E := E_Quest_head d) (pc := 51) (tgt := 56) (cks_at k_Quest_head 25 rfl rfl) (by decide) ?_ ?_
        · refine tq_aload_n 0 (E := E_Quest_head d) (pc := 56) (cks_at k_Quest_head 28 rfl rfl) rfl ?_
          refine tq_getR (j := 1) (E := E_Quest_head d) (pc := 57) (cks_at k_Quest_head 29 rfl rfl) fo_Quest_22 so_70 rfl sp_70_0 ?_
          refine tq_ldcS (j := 26) (s := 25) (E := E_Quest_head d) (pc := 60) (cks_at k_Quest_head 30 rfl rfl) rfl ?_
          refine tq_V1 (E := E_Quest_head d) (pc := 62) (cks_at k_Quest_head 31 rfl rfl) mk_Scan_takeWord lk_Quest_78 rc_1 (Nat.le_of_ble_eq_true rfl) (c_Scan_takeWord (d + 0) 25 (by decide) M7) (k_I fun r10 M9 => ?_)
          refine tq_if_eq (E := E_Quest_head d) (pc := 65) (tgt := 70) (cks_at k_Quest_head 32 rfl rfl) (by decide) ?_ ?_
          · refine tq_aload_n 0 (E := E_Quest_head d) (pc := 70) (cks_at k_Quest_head 35 rfl rfl) rfl ?_
            refine tq_getR (j := 1) (E := E_Quest_head d) (pc := 71) (cks_at k_Quest_head 36 rfl rfl) fo_Quest_22 so_70 rfl sp_70_0 ?_
            refine tq_ldcS (j := 27) (s := 26) (E := E_Quest_head d) (pc := 74) (cks_at k_Quest_head 37 rfl rfl) rfl ?_
            refine tq_V1 (E := E_Quest_head d) (pc := 76) (cks_at k_Quest_head 38 rfl rfl) mk_Scan_takeWord lk_Quest_78 rc_1 (Nat.le_of_ble_eq_true rfl) (c_Scan_takeWord (d + 0) 26 (by decide) M9) (k_I fun r12 M11 => ?_)
            refine tq_if_eq (E := E_Quest_head d) (pc := 79) (tgt := 86) (cks_at k_Quest_head 39 rfl rfl) (by decide) ?_ ?_
            · refine tq_iconst (E := E_Quest_head d) (pc := 86) (cks_at k_Quest_head 42 rfl rfl) ?_
              exact tq_iret (E := E_Quest_head d) (pc := 87) (cks_at k_Quest_head 43 rfl rfl) rfl
            · refine tq_iconst (E := E_Quest_head d) (pc := 82) (cks_at k_Quest_head 40 rfl rfl) ?_
              refine tq_goto (tgt := 87) (E := E_Quest_head d) (pc := 83) (cks_at k_Quest_head 41 rfl rfl) (by decide) ?_
              exact tq_iret (E := E_Quest_head d) (pc := 87) (cks_at k_Quest_head 43 rfl rfl) rfl
          · refine tq_iconst (E := E_Quest_head d) (pc := 68) (cks_at k_Quest_head 33 rfl rfl) ?_
            exact tq_iret (E := E_Quest_head d) (pc := 69) (cks_at k_Quest_head 34 rfl rfl) rfl
        · refine tq_iconst (E := E_Quest_head d) (pc := 54) (cks_at k_Quest_head 26 rfl rfl) ?_
          exact tq_iret (E := E_Quest_head d) (pc := 55) (cks_at k_Quest_head 27 rfl rfl) rfl
      · refine tq_iconst (E := E_Quest_head d) (pc := 40) (cks_at k_Quest_head 19 rfl rfl) ?_
        exact tq_iret (E := E_Quest_head d) (pc := 41) (cks_at k_Quest_head 20 rfl rfl) rfl
    · refine tq_iconst (E := E_Quest_head d) (pc := 26) (cks_at k_Quest_head 12 rfl rfl) ?_
      exact tq_iret (E := E_Quest_head d) (pc := 27) (cks_at k_Quest_head 13 rfl rfl) rfl
  · refine tq_iconst (E := E_Quest_head d) (pc := 12) (cks_at k_Quest_head 5 rfl rfl) ?_
    exact tq_iret (E := E_Quest_head d) (pc := 13) (cks_at k_Quest_head 6 rfl rfl) rfl
abbrev E_Reader_readTest (d : Nat) : Ev := (Ct (d + 126), "BreathTown$Reader", prog_6_method_3_code, 1, False, 0, (fun _ => 0), (Option.some Jvm.ClassFile.FieldType.boolean))
def f_Reader_readTest (this : Nat) (M : Mm) : Option (Int × Mm) :=
  bI (f_R FUR 5 this 0 M) (fun r2 M1 =>
  gd (i32 r2 = 0 ∨ i32 r2 = 1) (some (r2, M1)))
set_option maxRecDepth 20000 in
set_option maxHeartbeats 4000000 in
theorem c_Reader_readTest (d : Nat) (this : Nat) (hthis : isReader this) (M : Mm) (Q : Option Value → Mm → Prop) (h : sat injI (f_Reader_readTest this M) Q) : Ct (d + 127) y_Reader_readTest [.ref this] M Q := by
  refine ct_in (d := d + 126) mk_Reader_readTest (Nat.le_of_ble_eq_true rfl) (?_ : T (E_Reader_readTest d) injI 0 [(0, .ref this)] [] M (f_Reader_readTest this M)) h
  unfold f_Reader_readTest
  refine tq_aload_n 0 (E := E_Reader_readTest d) (pc := 0) (cks_at k_Reader_readTest 0 rfl rfl) rfl ?_
  refine tq_iconst (E := E_Reader_readTest d) (pc := 1) (cks_at k_Reader_readTest 1 rfl rfl) ?_
  refine tq_V1 (E := E_Reader_readTest d) (pc := 2) (cks_at k_Reader_readTest 2 rfl rfl) mk_Reader_test lk_Reader_27 (isReader_rc hthis) (Nat.le_of_ble_eq_true rfl) (fun Q h => c_R (d + 0) FUR 5 this 0 M Q hthis h) (k_I fun r2 M1 => ?_)
  exact tq_zret (E := E_Reader_readTest d) (pc := 5) (cks_at k_Reader_readTest 3 rfl rfl) rfl
abbrev E_Reader_readSum (d : Nat) : Ev := (Ct (d + 126), "BreathTown$Reader", prog_6_method_2_code, 1, False, 0, (fun _ => 0), (Option.some Jvm.ClassFile.FieldType.boolean))
def f_Reader_readSum (this : Nat) (M : Mm) : Option (Int × Mm) :=
  bI (f_R FUR 0 this 0 M) (fun r2 M1 =>
  gd (i32 r2 = 0 ∨ i32 r2 = 1) (some (r2, M1)))
set_option maxRecDepth 20000 in
set_option maxHeartbeats 4000000 in
theorem c_Reader_readSum (d : Nat) (this : Nat) (hthis : isReader this) (M : Mm) (Q : Option Value → Mm → Prop) (h : sat injI (f_Reader_readSum this M) Q) : Ct (d + 127) y_Reader_readSum [.ref this] M Q := by
  refine ct_in (d := d + 126) mk_Reader_readSum (Nat.le_of_ble_eq_true rfl) (?_ : T (E_Reader_readSum d) injI 0 [(0, .ref this)] [] M (f_Reader_readSum this M)) h
  unfold f_Reader_readSum
  refine tq_aload_n 0 (E := E_Reader_readSum d) (pc := 0) (cks_at k_Reader_readSum 0 rfl rfl) rfl ?_
  refine tq_iconst (E := E_Reader_readSum d) (pc := 1) (cks_at k_Reader_readSum 1 rfl rfl) ?_
  refine tq_V1 (E := E_Reader_readSum d) (pc := 2) (cks_at k_Reader_readSum 2 rfl rfl) mk_Reader_sum lk_Reader_23 (isReader_rc hthis) (Nat.le_of_ble_eq_true rfl) (fun Q h => c_R (d + 0) FUR 0 this 0 M Q hthis h) (k_I fun r2 M1 => ?_)
  exact tq_zret (E := E_Reader_readSum d) (pc := 5) (cks_at k_Reader_readSum 3 rfl rfl) rfl
abbrev E_Scan_atEnd (d : Nat) : Ev := (Ct (d + 1), "BreathTown$Scan", prog_7_method_10_code, 1, False, 0, (fun _ => 0), (Option.some Jvm.ClassFile.FieldType.boolean))
def f_Scan_atEnd (M : Mm) : Option (Int × Mm) :=
  bV (f_Scan_skip M) (fun M1 =>
  if i32 (M1 1 2) < i32 (M1 1 1) then
    some (0, M1)
  else
    some (1, M1))
set_option maxRecDepth 20000 in
set_option maxHeartbeats 4000000 in
theorem c_Scan_atEnd (d : Nat) (M : Mm) (Q : Option Value → Mm → Prop) (h : sat injI (f_Scan_atEnd M) Q) : Ct (d + 2) y_Scan_atEnd [.ref 1] M Q := by
  refine ct_in (d := d + 1) mk_Scan_atEnd (Nat.le_of_ble_eq_true rfl) (?_ : T (E_Scan_atEnd d) injI 0 [(0, .ref 1)] [] M (f_Scan_atEnd M)) h
  unfold f_Scan_atEnd
  refine tq_aload_n 0 (E := E_Scan_atEnd d) (pc := 0) (cks_at k_Scan_atEnd 0 rfl rfl) rfl ?_
  refine tq_V0 (E := E_Scan_atEnd d) (pc := 1) (cks_at k_Scan_atEnd 1 rfl rfl) mk_Scan_skip lk_Scan_38 rc_1 (Nat.le_of_ble_eq_true rfl) (c_Scan_skip (d + 0) M) (k_V fun M1 => ?_)
  refine tq_aload_n 0 (E := E_Scan_atEnd d) (pc := 4) (cks_at k_Scan_atEnd 2 rfl rfl) rfl ?_
  refine tq_getI (E := E_Scan_atEnd d) (pc := 5) (cks_at k_Scan_atEnd 3 rfl rfl) fo_Scan_23 so_1 rfl (by decide) ?_
  refine tq_aload_n 0 (E := E_Scan_atEnd d) (pc := 8) (cks_at k_Scan_atEnd 4 rfl rfl) rfl ?_
  refine tq_getI (E := E_Scan_atEnd d) (pc := 9) (cks_at k_Scan_atEnd 5 rfl rfl) fo_Scan_15 so_1 rfl (by decide) ?_
  refine tq_icmp_lt (E := E_Scan_atEnd d) (pc := 12) (tgt := 19) (cks_at k_Scan_atEnd 6 rfl rfl) (by decide) ?_ ?_
  · refine tq_iconst (E := E_Scan_atEnd d) (pc := 19) (cks_at k_Scan_atEnd 9 rfl rfl) ?_
    exact tq_zretC (E := E_Scan_atEnd d) (pc := 20) (cks_at k_Scan_atEnd 10 rfl rfl) rfl (by decide)
  · refine tq_iconst (E := E_Scan_atEnd d) (pc := 15) (cks_at k_Scan_atEnd 7 rfl rfl) ?_
    refine tq_goto (tgt := 20) (E := E_Scan_atEnd d) (pc := 16) (cks_at k_Scan_atEnd 8 rfl rfl) (by decide) ?_
    exact tq_zretC (E := E_Scan_atEnd d) (pc := 20) (cks_at k_Scan_atEnd 10 rfl rfl) rfl (by decide)
abbrev E_Quest_read (d : Nat) : Ev := (Ct (d + 127), "BreathTown$Question", prog_5_method_2_code, 3, False, 0, (fun _ => 0), (Option.some Jvm.ClassFile.FieldType.int))
def f_Quest_read_J56 (v1 s0 : Int) (M : Mm) : Option (Int × Mm) :=
  if ¬ i32 s0 = 0 then
    bI (f_Scan_atEnd M) (fun r8 M7 =>
    if ¬ i32 r8 = 0 then
      some (v1, M7)
    else
      bI (f_Scan_unexpected M7) (fun r10 M9 =>
      if i32 r10 = 0 then
        some ((-1), M9)
      else
        some (v1, M9)))
  else
    some ((-1), M)
set_option maxRecDepth 20000 in
set_option maxHeartbeats 4000000 in
theorem w_Quest_read_J56 (d : Nat) (v1 s0 : Int) (M : Mm) : T (E_Quest_read d) injI 56 [(0, .ref 70), (1, vI v1)] [vI s0] M (f_Quest_read_J56 v1 s0 M) := by
  unfold f_Quest_read_J56
  refine tq_istore_n (E := E_Quest_read d) (pc := 56) (cks_at k_Quest_read 28 rfl rfl) (show 2 < 3 by decide) rfl ?_
  refine tq_iload_n 0 (E := E_Quest_read d) (pc := 57) (cks_at k_Quest_read 29 rfl rfl) rfl ?_
  refine tq_if_ne (E := E_Quest_read d) (pc := 58) (tgt := 63) (cks_at k_Quest_read 30 rfl rfl) (by decide) ?_ ?_
  · refine tq_aload_n 1 (E := E_Quest_read d) (pc := 63) (cks_at k_Quest_read 33 rfl rfl) rfl ?_
    refine tq_getR (j := 1) (E := E_Quest_read d) (pc := 64) (cks_at k_Quest_read 34 rfl rfl) fo_Quest_22 so_70 rfl sp_70_0 ?_
    refine tq_V0 (E := E_Quest_read d) (pc := 67) (cks_at k_Quest_read 35 rfl rfl) mk_Scan_atEnd lk_Quest_73 rc_1 (Nat.le_of_ble_eq_true rfl) (c_Scan_atEnd (d + 125) M) (k_I fun r8 M7 => ?_)
    refine tq_if_ne (E := E_Quest_read d) (pc := 70) (tgt := 83) (cks_at k_Quest_read 36 rfl rfl) (by decide) ?_ ?_
    · refine tq_iload_n 2 (E := E_Quest_read d) (pc := 83) (cks_at k_Quest_read 41 rfl rfl) rfl ?_
      refine tq_goto (tgt := 88) (E := E_Quest_read d) (pc := 84) (cks_at k_Quest_read 42 rfl rfl) (by decide) ?_
      exact tq_iret (E := E_Quest_read d) (pc := 88) (cks_at k_Quest_read 44 rfl rfl) rfl
    · refine tq_aload_n 1 (E := E_Quest_read d) (pc := 73) (cks_at k_Quest_read 37 rfl rfl) rfl ?_
      refine tq_getR (j := 1) (E := E_Quest_read d) (pc := 74) (cks_at k_Quest_read 38 rfl rfl) fo_Quest_22 so_70 rfl sp_70_0 ?_
      refine tq_V0 (E := E_Quest_read d) (pc := 77) (cks_at k_Quest_read 39 rfl rfl) mk_Scan_unexpected lk_Quest_63 rc_1 (Nat.le_of_ble_eq_true rfl) (c_Scan_unexpected (d + 125) M7) (k_I fun r10 M9 => ?_)
      refine tq_if_eq (E := E_Quest_read d) (pc := 80) (tgt := 87) (cks_at k_Quest_read 40 rfl rfl) (by decide) ?_ ?_
      · refine tq_iconst (E := E_Quest_read d) (pc := 87) (cks_at k_Quest_read 43 rfl rfl) ?_
        exact tq_iret (E := E_Quest_read d) (pc := 88) (cks_at k_Quest_read 44 rfl rfl) rfl
      · refine tq_iload_n 2 (E := E_Quest_read d) (pc := 83) (cks_at k_Quest_read 41 rfl rfl) rfl ?_
        refine tq_goto (tgt := 88) (E := E_Quest_read d) (pc := 84) (cks_at k_Quest_read 42 rfl rfl) (by decide) ?_
        exact tq_iret (E := E_Quest_read d) (pc := 88) (cks_at k_Quest_read 44 rfl rfl) rfl
  · refine tq_iconst (E := E_Quest_read d) (pc := 61) (cks_at k_Quest_read 31 rfl rfl) ?_
    exact tq_iret (E := E_Quest_read d) (pc := 62) (cks_at k_Quest_read 32 rfl rfl) rfl
def f_Quest_read (M : Mm) : Option (Int × Mm) :=
  bV (f_Scan_start M) (fun M1 =>
  bV (f_Code_clear 71 M1) (fun M2 =>
  bI (f_Quest_head M2) (fun r4 M3 =>
  if ¬ i32 r4 = i32 ((-1)) then
    if i32 2 < i32 r4 then
      bI (f_Reader_readSum 76 M3) (fun r6 M5 =>
      f_Quest_read_J56 r4 r6 M5)
    else
      bI (f_Reader_readTest 76 M3) (fun r12 M11 =>
      f_Quest_read_J56 r4 r12 M11)
  else
    bI (f_Scan_unexpected M3) (fun r14 M13 =>
    some ((-1), M13)))))
set_option maxRecDepth 20000 in
set_option maxHeartbeats 4000000 in
theorem c_Quest_read (d : Nat) (M : Mm) (Q : Option Value → Mm → Prop) (h : sat injI (f_Quest_read M) Q) : Ct (d + 128) y_Quest_read [.ref 70] M Q := by
  refine ct_in (d := d + 127) mk_Quest_read (Nat.le_of_ble_eq_true rfl) (?_ : T (E_Quest_read d) injI 0 [(0, .ref 70)] [] M (f_Quest_read M)) h
  unfold f_Quest_read
  refine tq_aload_n 0 (E := E_Quest_read d) (pc := 0) (cks_at k_Quest_read 0 rfl rfl) rfl ?_
  refine tq_getR (j := 1) (E := E_Quest_read d) (pc := 1) (cks_at k_Quest_read 1 rfl rfl) fo_Quest_22 so_70 rfl sp_70_0 ?_
  refine tq_V0 (E := E_Quest_read d) (pc := 4) (cks_at k_Quest_read 2 rfl rfl) mk_Scan_start lk_Quest_51 rc_1 (Nat.le_of_ble_eq_true rfl) (c_Scan_start (d + 126) M) (k_V fun M1 => ?_)
  refine tq_aload_n 0 (E := E_Quest_read d) (pc := 7) (cks_at k_Quest_read 3 rfl rfl) rfl ?_
  refine tq_getR (j := 71) (E := E_Quest_read d) (pc := 8) (cks_at k_Quest_read 4 rfl rfl) fo_Quest_12 so_70 rfl sp_70_5 ?_
  refine tq_V0 (E := E_Quest_read d) (pc := 11) (cks_at k_Quest_read 5 rfl rfl) mk_Code_clear lk_Quest_56 (isCode_rc (Or.inr (Or.inr rfl))) (Nat.le_of_ble_eq_true rfl) (c_Code_clear (d + 126) 71 (Or.inr (Or.inr rfl)) M1) (k_V fun M2 => ?_)
  refine tq_aload_n 0 (E := E_Quest_read d) (pc := 14) (cks_at k_Quest_read 6 rfl rfl) rfl ?_
  refine tq_V0 (E := E_Quest_read d) (pc := 15) (cks_at k_Quest_read 7 rfl rfl) mk_Quest_head lk_Quest_59 rc_70 (Nat.le_of_ble_eq_true rfl) (c_Quest_head (d + 120) M2) (k_I fun r4 M3 => ?_)
  refine tq_istore_n (E := E_Quest_read d) (pc := 18) (cks_at k_Quest_read 8 rfl rfl) (show 1 < 3 by decide) rfl ?_
  refine tq_iload_n 0 (E := E_Quest_read d) (pc := 19) (cks_at k_Quest_read 9 rfl rfl) rfl ?_
  refine tq_iconst (E := E_Quest_read d) (pc := 20) (cks_at k_Quest_read 10 rfl rfl) ?_
  refine tq_icmp_ne (E := E_Quest_read d) (pc := 21) (tgt := 34) (cks_at k_Quest_read 11 rfl rfl) (by decide) ?_ ?_
  · refine tq_iload_n 0 (E := E_Quest_read d) (pc := 34) (cks_at k_Quest_read 18 rfl rfl) rfl ?_
    refine tq_iconst (E := E_Quest_read d) (pc := 35) (cks_at k_Quest_read 19 rfl rfl) ?_
    refine tq_icmp_gt (E := E_Quest_read d) (pc := 36) (tgt := 49) (cks_at k_Quest_read 20 rfl rfl) (by decide) ?_ ?_
    · refine tq_aload_n 1 (E := E_Quest_read d) (pc := 49) (cks_at k_Quest_read 25 rfl rfl) rfl ?_
      refine tq_getR (j := 76) (E := E_Quest_read d) (pc := 50) (cks_at k_Quest_read 26 rfl rfl) fo_Quest_47 so_70 rfl sp_70_6 ?_
      refine tq_V0 (E := E_Quest_read d) (pc := 53) (cks_at k_Quest_read 27 rfl rfl) mk_Reader_readSum lk_Quest_70 (isReader_rc (Or.inr rfl)) (Nat.le_of_ble_eq_true rfl) (c_Reader_readSum (d + 0) 76 (Or.inr rfl) M3) (k_I fun r6 M5 => ?_)
      exact tq_sub [1, 0] rfl (w_Quest_read_J56 d r4 r6 M5)
    · refine tq_aload_n 1 (E := E_Quest_read d) (pc := 39) (cks_at k_Quest_read 21 rfl rfl) rfl ?_
      refine tq_getR (j := 76) (E := E_Quest_read d) (pc := 40) (cks_at k_Quest_read 22 rfl rfl) fo_Quest_47 so_70 rfl sp_70_6 ?_
      refine tq_V0 (E := E_Quest_read d) (pc := 43) (cks_at k_Quest_read 23 rfl rfl) mk_Reader_readTest lk_Quest_67 (isReader_rc (Or.inr rfl)) (Nat.le_of_ble_eq_true rfl) (c_Reader_readTest (d + 0) 76 (Or.inr rfl) M3) (k_I fun r12 M11 => ?_)
      refine tq_goto (tgt := 56) (E := E_Quest_read d) (pc := 46) (cks_at k_Quest_read 24 rfl rfl) (by decide) ?_
      exact tq_sub [1, 0] rfl (w_Quest_read_J56 d r4 r12 M11)
  · refine tq_aload_n 1 (E := E_Quest_read d) (pc := 24) (cks_at k_Quest_read 12 rfl rfl) rfl ?_
    refine tq_getR (j := 1) (E := E_Quest_read d) (pc := 25) (cks_at k_Quest_read 13 rfl rfl) fo_Quest_22 so_70 rfl sp_70_0 ?_
    refine tq_V0 (E := E_Quest_read d) (pc := 28) (cks_at k_Quest_read 14 rfl rfl) mk_Scan_unexpected lk_Quest_63 rc_1 (Nat.le_of_ble_eq_true rfl) (c_Scan_unexpected (d + 125) M3) (k_I fun r14 M13 => ?_)
    refine tq_pop (E := E_Quest_read d) (pc := 31) (cks_at k_Quest_read 15 rfl rfl) rfl ?_
    refine tq_iconst (E := E_Quest_read d) (pc := 32) (cks_at k_Quest_read 16 rfl rfl) ?_
    exact tq_iret (E := E_Quest_read d) (pc := 33) (cks_at k_Quest_read 17 rfl rfl) rfl
abbrev E_BT_keepFault (d : Nat) : Ev := (Ct (d + 0), "BreathTown", prog_1_method_37_code, 1, False, 0, (fun _ => 0), (Option.none : Option Jvm.ClassFile.FieldType))
def f_BT_keepFault (M : Mm) : Option (Mm) :=
  bd (up M 0 11 (M 1 5)) (fun M1 =>
  bd (up M1 0 12 (M1 1 6)) (fun M2 =>
  bd (up M2 1 1 0) (fun M3 =>
  some M3)))
set_option maxRecDepth 20000 in
set_option maxHeartbeats 4000000 in
theorem c_BT_keepFault (d : Nat) (M : Mm) (Q : Option Value → Mm → Prop) (h : sat injV (f_BT_keepFault M) Q) : Ct (d + 1) y_BT_keepFault [.ref 0] M Q := by
  refine ct_in (d := d + 0) mk_BT_keepFault (Nat.le_of_ble_eq_true rfl) (?_ : T (E_BT_keepFault d) injV 0 [(0, .ref 0)] [] M (f_BT_keepFault M)) h
  unfold f_BT_keepFault
  refine tq_aload_n 0 (E := E_BT_keepFault d) (pc := 0) (cks_at k_BT_keepFault 0 rfl rfl) rfl ?_
  refine tq_aload_n 0 (E := E_BT_keepFault d) (pc := 1) (cks_at k_BT_keepFault 1 rfl rfl) rfl ?_
  refine tq_getR (j := 1) (E := E_BT_keepFault d) (pc := 2) (cks_at k_BT_keepFault 2 rfl rfl) fo_BT_10 so_0 rfl sp_0_0 ?_
  refine tq_getI (E := E_BT_keepFault d) (pc := 5) (cks_at k_BT_keepFault 3 rfl rfl) fo_BT_309 so_1 rfl (by decide) ?_
  refine tq_putI (E := E_BT_keepFault d) (pc := 8) (cks_at k_BT_keepFault 4 rfl rfl) fo_BT_91 so_0 rfl po_11_11 (fun M1 => ?_)
  refine tq_aload_n 0 (E := E_BT_keepFault d) (pc := 11) (cks_at k_BT_keepFault 5 rfl rfl) rfl ?_
  refine tq_aload_n 0 (E := E_BT_keepFault d) (pc := 12) (cks_at k_BT_keepFault 6 rfl rfl) rfl ?_
  refine tq_getR (j := 1) (E := E_BT_keepFault d) (pc := 13) (cks_at k_BT_keepFault 7 rfl rfl) fo_BT_10 so_0 rfl sp_0_0 ?_
  refine tq_getI (E := E_BT_keepFault d) (pc := 16) (cks_at k_BT_keepFault 8 rfl rfl) fo_BT_312 so_1 rfl (by decide) ?_
  refine tq_putI (E := E_BT_keepFault d) (pc := 19) (cks_at k_BT_keepFault 9 rfl rfl) fo_BT_95 so_0 rfl po_11_12 (fun M2 => ?_)
  refine tq_aload_n 0 (E := E_BT_keepFault d) (pc := 22) (cks_at k_BT_keepFault 10 rfl rfl) rfl ?_
  refine tq_getR (j := 1) (E := E_BT_keepFault d) (pc := 23) (cks_at k_BT_keepFault 11 rfl rfl) fo_BT_10 so_0 rfl sp_0_0 ?_
  refine tq_iconst (E := E_BT_keepFault d) (pc := 26) (cks_at k_BT_keepFault 12 rfl rfl) ?_
  refine tq_putI (E := E_BT_keepFault d) (pc := 27) (cks_at k_BT_keepFault 13 rfl rfl) fo_BT_102 so_1 rfl po_5_1 (fun M3 => ?_)
  exact tq_vret (E := E_BT_keepFault d) (pc := 30) (cks_at k_BT_keepFault 14 rfl rfl) rfl
abbrev E_BT_fill (d : Nat) : Ev := (Ct (d + 0), "BreathTown", prog_1_method_44_code, 3, False, 0, (fun _ => 0), (Option.none : Option Jvm.ClassFile.FieldType))
def f_BT_fill_B2 (row0 : Nat) (kH : Int → Int → Mm → Option (Mm)) (v1 v2 : Int) (M : Mm) : Option (Mm) :=
  if i32 (((slen row0 : Nat) : Int)) ≤ i32 v2 then
    some M
  else
    gd (0 ≤ i32 v2 ∧ i32 v2 < ((slen row0 : Nat) : Int)) <|
    bd (up M row0 (i32 v2).toNat v1) (fun M1 =>
    kH v1 (v2 + 1) M1)
set_option maxRecDepth 20000 in
set_option maxHeartbeats 4000000 in
theorem w_BT_fill_B2 (d : Nat) (row0 : Nat) (hrow0 : skind row0 = 20 ∧ row0 < NC) (kH : Int → Int → Mm → Option (Mm)) (hkH : ∀ (v1 v2 : Int) (M : Mm), T (E_BT_fill d) injV 2 [(0, .ref row0), (1, vI v1), (2, vI v2)] [] M (kH v1 v2 M)) (v1 v2 : Int) (M : Mm) : T (E_BT_fill d) injV 2 [(0, .ref row0), (1, vI v1), (2, vI v2)] [] M (f_BT_fill_B2 row0 kH v1 v2 M) := by
  unfold f_BT_fill_B2
  refine tq_iload_n 2 (E := E_BT_fill d) (pc := 2) (cks_at k_BT_fill 2 rfl rfl) rfl ?_
  refine tq_aload_n 0 (E := E_BT_fill d) (pc := 3) (cks_at k_BT_fill 3 rfl rfl) rfl ?_
  refine tq_alen (E := E_BT_fill d) (pc := 4) (cks_at k_BT_fill 4 rfl rfl) ⟨by rw [(hrow0).1]; decide, by rw [(hrow0).1]; decide, (hrow0).2⟩ rfl ?_
  refine tq_icmp_ge (E := E_BT_fill d) (pc := 5) (tgt := 18) (cks_at k_BT_fill 5 rfl rfl) (by decide) ?_ ?_
  · exact tq_vret (E := E_BT_fill d) (pc := 18) (cks_at k_BT_fill 12 rfl rfl) rfl
  · refine tq_aload_n 0 (E := E_BT_fill d) (pc := 8) (cks_at k_BT_fill 6 rfl rfl) rfl ?_
    refine tq_iload_n 2 (E := E_BT_fill d) (pc := 9) (cks_at k_BT_fill 7 rfl rfl) rfl ?_
    refine tq_iload_n 1 (E := E_BT_fill d) (pc := 10) (cks_at k_BT_fill 8 rfl rfl) rfl ?_
    refine tq_iast (E := E_BT_fill d) (pc := 11) (cks_at k_BT_fill 9 rfl rfl) hrow0 rfl (fun M1 => ?_)
    refine tq_iinc 2 (E := E_BT_fill d) (pc := 12) (cks_at k_BT_fill 10 rfl rfl) rfl (show 2 < 3 by decide) rfl ?_
    refine tq_goto (tgt := 2) (E := E_BT_fill d) (pc := 15) (cks_at k_BT_fill 11 rfl rfl) (by decide) ?_
    exact tq_sub [1, 2, 0] rfl (hkH v1 (v2 + 1) M1)
def f_BT_fill_L2 (row0 : Nat) : Nat → Int × Int × Mm → Option (Mm) := lp fun kH s => f_BT_fill_B2 row0 (fun v1 v2 M => kH (v1, v2, M)) s.1 s.2.1 s.2.2
set_option maxRecDepth 20000 in
set_option maxHeartbeats 4000000 in
theorem w_BT_fill_L2 (d : Nat) (row0 : Nat) (hrow0 : skind row0 = 20 ∧ row0 < NC) (n : Nat) (s : Int × Int × Mm) : T (E_BT_fill d) injV 2 [(0, .ref row0), (1, vI s.1), (2, vI s.2.1)] [] s.2.2 (f_BT_fill_L2 row0 n s) :=
  tq_lp (fun s => [(0, .ref row0), (1, vI s.1), (2, vI s.2.1)]) (fun s => s.2.2) (fun kH hH s => w_BT_fill_B2 d row0 hrow0 (fun v1 v2 M => kH (v1, v2, M)) (fun v1 v2 M => hH (v1, v2, M)) s.1 s.2.1 s.2.2) n s
def f_BT_fill (row0 : Nat) (v1 : Int) (M : Mm) : Option (Mm) :=
  f_BT_fill_L2 row0 FU (v1, 0, M)
set_option maxRecDepth 20000 in
set_option maxHeartbeats 4000000 in
theorem c_BT_fill (d : Nat) (row0 : Nat) (hrow0 : skind row0 = 20 ∧ row0 < NC) (v1 : Int) (M : Mm) (Q : Option Value → Mm → Prop) (h : sat injV (f_BT_fill row0 v1 M) Q) : Ct (d + 1) y_BT_fill [.ref row0, vI v1] M Q := by
  refine ct_in (d := d + 0) mk_BT_fill (Nat.le_of_ble_eq_true rfl) (?_ : T (E_BT_fill d) injV 0 [(0, .ref row0), (1, vI v1)] [] M (f_BT_fill row0 v1 M)) h
  unfold f_BT_fill
  refine tq_iconst (E := E_BT_fill d) (pc := 0) (cks_at k_BT_fill 0 rfl rfl) ?_
  refine tq_istore_n (E := E_BT_fill d) (pc := 1) (cks_at k_BT_fill 1 rfl rfl) (show 2 < 3 by decide) rfl ?_
  exact tq_sub [1, 2, 0] rfl (w_BT_fill_L2 d row0 hrow0 FU (v1, 0, M))
abbrev E_Code_uses (d : Nat) : Ev := (Ct (d + 0), "BreathTown$Code", prog_2_method_4_code, 2, False, 0, (fun _ => 0), (Option.some Jvm.ClassFile.FieldType.boolean))
def f_Code_uses (this : Nat) (v1 : Int) (M : Mm) : Option (Int × Mm) :=
  if ¬ i32 (and32 (shr32 (M this 4) (((-6)) - v1)) 1) = i32 1 then
    some (0, M)
  else
    some (1, M)
set_option maxRecDepth 20000 in
set_option maxHeartbeats 4000000 in
theorem c_Code_uses (d : Nat) (this : Nat) (hthis : isCode this) (v1 : Int) (M : Mm) (Q : Option Value → Mm → Prop) (h : sat injI (f_Code_uses this v1 M) Q) : Ct (d + 1) y_Code_uses [.ref this, vI v1] M Q := by
  refine ct_in (d := d + 0) mk_Code_uses (Nat.le_of_ble_eq_true rfl) (?_ : T (E_Code_uses d) injI 0 [(0, .ref this), (1, vI v1)] [] M (f_Code_uses this v1 M)) h
  unfold f_Code_uses
  refine tq_aload_n 0 (E := E_Code_uses d) (pc := 0) (cks_at k_Code_uses 0 rfl rfl) rfl ?_
  refine tq_getI (E := E_Code_uses d) (pc := 1) (cks_at k_Code_uses 1 rfl rfl) fo_Code_25 (isCode_ok hthis) rfl (by decide) ?_
  refine tq_bipush (E := E_Code_uses d) (pc := 4) (cks_at k_Code_uses 2 rfl rfl) (by decide) (by decide) ?_
  refine tq_iload_n 1 (E := E_Code_uses d) (pc := 6) (cks_at k_Code_uses 3 rfl rfl) rfl ?_
  refine tq_isub (E := E_Code_uses d) (pc := 7) (cks_at k_Code_uses 4 rfl rfl) ?_
  refine tq_ishr (E := E_Code_uses d) (pc := 8) (cks_at k_Code_uses 5 rfl rfl) ?_
  refine tq_iconst (E := E_Code_uses d) (pc := 9) (cks_at k_Code_uses 6 rfl rfl) ?_
  refine tq_iand (E := E_Code_uses d) (pc := 10) (cks_at k_Code_uses 7 rfl rfl) ?_
  refine tq_iconst (E := E_Code_uses d) (pc := 11) (cks_at k_Code_uses 8 rfl rfl) ?_
  refine tq_icmp_ne (E := E_Code_uses d) (pc := 12) (tgt := 19) (cks_at k_Code_uses 9 rfl rfl) (by decide) ?_ ?_
  · refine tq_iconst (E := E_Code_uses d) (pc := 19) (cks_at k_Code_uses 12 rfl rfl) ?_
    exact tq_zretC (E := E_Code_uses d) (pc := 20) (cks_at k_Code_uses 13 rfl rfl) rfl (by decide)
  · refine tq_iconst (E := E_Code_uses d) (pc := 15) (cks_at k_Code_uses 10 rfl rfl) ?_
    refine tq_goto (tgt := 20) (E := E_Code_uses d) (pc := 16) (cks_at k_Code_uses 11 rfl rfl) (by decide) ?_
    exact tq_zretC (E := E_Code_uses d) (pc := 20) (cks_at k_Code_uses 13 rfl rfl) rfl (by decide)
abbrev E_Math_floorMod (d : Nat) : Ev := (Ct (d + 0), "java/lang/Math", prog_15_method_50_code, 3, False, 0, (fun _ => 0), (Option.some Jvm.ClassFile.FieldType.int))
def f_Math_floorMod (v0 : Int) (v1 : Int) (M : Mm) : Option (Int × Mm) :=
  gd (¬ i32 v1 = 0) <|
  if 0 ≤ i32 (xor32 v0 v1) then
    some ((i32 v0).tmod (i32 v1), M)
  else
    if i32 ((i32 v0).tmod (i32 v1)) = 0 then
      some ((i32 v0).tmod (i32 v1), M)
    else
      some (((i32 v0).tmod (i32 v1)) + v1, M)
set_option maxRecDepth 20000 in
set_option maxHeartbeats 4000000 in
theorem c_Math_floorMod (d : Nat) (v0 : Int) (v1 : Int) (M : Mm) (Q : Option Value → Mm → Prop) (h : sat injI (f_Math_floorMod v0 v1 M) Q) : Ct (d + 1) y_Math_floorMod [vI v0, vI v1] M Q := by
  refine ct_in (d := d + 0) mk_Math_floorMod (Nat.le_of_ble_eq_true rfl) (?_ : T (E_Math_floorMod d) injI 0 [(0, vI v0), (1, vI v1)] [] M (f_Math_floorMod v0 v1 M)) h
  unfold f_Math_floorMod
  refine tq_iload_n 0 (E := E_Math_floorMod d) (pc := 0) (cks_at k_Math_floorMod 0 rfl rfl) rfl ?_
  refine tq_iload_n 1 (E := E_Math_floorMod d) (pc := 1) (cks_at k_Math_floorMod 1 rfl rfl) rfl ?_
  refine tq_irem (E := E_Math_floorMod d) (pc := 2) (cks_at k_Math_floorMod 2 rfl rfl) ?_
  refine tq_istore_n (E := E_Math_floorMod d) (pc := 3) (cks_at k_Math_floorMod 3 rfl rfl) (show 2 < 3 by decide) rfl ?_
  refine tq_iload_n 1 (E := E_Math_floorMod d) (pc := 4) (cks_at k_Math_floorMod 4 rfl rfl) rfl ?_
  refine tq_iload_n 2 (E := E_Math_floorMod d) (pc := 5) (cks_at k_Math_floorMod 5 rfl rfl) rfl ?_
  refine tq_ixor (E := E_Math_floorMod d) (pc := 6) (cks_at k_Math_floorMod 6 rfl rfl) ?_
  refine tq_if_ge (E := E_Math_floorMod d) (pc := 7) (tgt := 18) (cks_at k_Math_floorMod 7 rfl rfl) (by decide) ?_ ?_
  · refine tq_iload_n 0 (E := E_Math_floorMod d) (pc := 18) (cks_at k_Math_floorMod 14 rfl rfl) rfl ?_
    exact tq_iret (E := E_Math_floorMod d) (pc := 19) (cks_at k_Math_floorMod 15 rfl rfl) rfl
  · refine tq_iload_n 0 (E := E_Math_floorMod d) (pc := 10) (cks_at k_Math_floorMod 8 rfl rfl) rfl ?_
    refine tq_if_eq (E := E_Math_floorMod d) (pc := 11) (tgt := 18) (cks_at k_Math_floorMod 9 rfl rfl) (by decide) ?_ ?_
    · refine tq_iload_n 0 (E := E_Math_floorMod d) (pc := 18) (cks_at k_Math_floorMod 14 rfl rfl) rfl ?_
      exact tq_iret (E := E_Math_floorMod d) (pc := 19) (cks_at k_Math_floorMod 15 rfl rfl) rfl
    · refine tq_iload_n 0 (E := E_Math_floorMod d) (pc := 14) (cks_at k_Math_floorMod 10 rfl rfl) rfl ?_
      refine tq_iload_n 2 (E := E_Math_floorMod d) (pc := 15) (cks_at k_Math_floorMod 11 rfl rfl) rfl ?_
      refine tq_iadd (E := E_Math_floorMod d) (pc := 16) (cks_at k_Math_floorMod 12 rfl rfl) ?_
      exact tq_iret (E := E_Math_floorMod d) (pc := 17) (cks_at k_Math_floorMod 13 rfl rfl) rfl
abbrev E_Widths_tideBy (d : Nat) : Ev := (Ct (d + 1), "BreathTown$Widths", prog_12_method_3_code, 5, False, 0, (fun _ => 0), (Option.some Jvm.ClassFile.FieldType.int))
def f_Widths_tideBy (v1 : Int) (v2 : Int) (v3 : Int) (M : Mm) : Option (Int × Mm) :=
  bI (f_BT_cell 9 v1 M) (fun r2 M1 =>
  if i32 r2 ≤ 0 then
    some (0, M1)
  else
    bI (f_Math_floorMod (v3 + v2) r2 M1) (fun r4 M3 =>
    some (r4, M3)))
set_option maxRecDepth 20000 in
set_option maxHeartbeats 4000000 in
theorem c_Widths_tideBy (d : Nat) (v1 : Int) (v2 : Int) (v3 : Int) (M : Mm) (Q : Option Value → Mm → Prop) (h : sat injI (f_Widths_tideBy v1 v2 v3 M) Q) : Ct (d + 2) y_Widths_tideBy [.ref 46, vI v1, vI v2, vI v3] M Q := by
  refine ct_in (d := d + 1) mk_Widths_tideBy (Nat.le_of_ble_eq_true rfl) (?_ : T (E_Widths_tideBy d) injI 0 [(0, .ref 46), (1, vI v1), (2, vI v2), (3, vI v3)] [] M (f_Widths_tideBy v1 v2 v3 M)) h
  unfold f_Widths_tideBy
  refine tq_aload_n 0 (E := E_Widths_tideBy d) (pc := 0) (cks_at k_Widths_tideBy 0 rfl rfl) rfl ?_
  refine tq_getR (j := 3) (E := E_Widths_tideBy d) (pc := 1) (cks_at k_Widths_tideBy 1 rfl rfl) fo_Widths_15 so_46 rfl sp_46_0 ?_
  refine tq_getR (j := 9) (E := E_Widths_tideBy d) (pc := 4) (cks_at k_Widths_tideBy 2 rfl rfl) fo_Widths_27 so_3 rfl sp_3_5 ?_
  refine tq_iload_n 1 (E := E_Widths_tideBy d) (pc := 7) (cks_at k_Widths_tideBy 3 rfl rfl) rfl ?_
  refine tq_S2 (E := E_Widths_tideBy d) (pc := 8) (cks_at k_Widths_tideBy 4 rfl rfl) mk_BT_cell lk_Widths_33 (Nat.le_of_ble_eq_true rfl) (c_BT_cell (d + 0) 9 sa_9 v1 M) (k_I fun r2 M1 => ?_)
  refine tq_istore (E := E_Widths_tideBy d) (pc := 11) (cks_at k_Widths_tideBy 5 rfl rfl) (show 4 < 5 by decide) rfl ?_
  refine tq_iload 0 (E := E_Widths_tideBy d) (pc := 13) (cks_at k_Widths_tideBy 6 rfl rfl) rfl ?_
  refine tq_if_le (E := E_Widths_tideBy d) (pc := 15) (tgt := 29) (cks_at k_Widths_tideBy 7 rfl rfl) (by decide) ?_ ?_
  · refine tq_iconst (E := E_Widths_tideBy d) (pc := 29) (cks_at k_Widths_tideBy 14 rfl rfl) ?_
    exact tq_iret (E := E_Widths_tideBy d) (pc := 30) (cks_at k_Widths_tideBy 15 rfl rfl) rfl
  · refine tq_iload_n 4 (E := E_Widths_tideBy d) (pc := 18) (cks_at k_Widths_tideBy 8 rfl rfl) rfl ?_
    refine tq_iload_n 3 (E := E_Widths_tideBy d) (pc := 19) (cks_at k_Widths_tideBy 9 rfl rfl) rfl ?_
    refine tq_iadd (E := E_Widths_tideBy d) (pc := 20) (cks_at k_Widths_tideBy 10 rfl rfl) ?_
    refine tq_iload 0 (E := E_Widths_tideBy d) (pc := 21) (cks_at k_Widths_tideBy 11 rfl rfl) rfl ?_
    refine tq_S2 (E := E_Widths_tideBy d) (pc := 23) (cks_at k_Widths_tideBy 12 rfl rfl) mk_Math_floorMod lk_Widths_37 (Nat.le_of_ble_eq_true rfl) (c_Math_floorMod (d + 0) (v3 + v2) r2 M1) (k_I fun r4 M3 => ?_)
    refine tq_goto (tgt := 30) (E := E_Widths_tideBy d) (pc := 26) (cks_at k_Widths_tideBy 13 rfl rfl) (by decide) ?_
    exact tq_iret (E := E_Widths_tideBy d) (pc := 30) (cks_at k_Widths_tideBy 15 rfl rfl) rfl
abbrev E_Math_floorDiv (d : Nat) : Ev := (Ct (d + 0), "java/lang/Math", prog_15_method_47_code, 3, False, 0, (fun _ => 0), (Option.some Jvm.ClassFile.FieldType.int))
def f_Math_floorDiv (v0 : Int) (v1 : Int) (M : Mm) : Option (Int × Mm) :=
  gd (¬ i32 v1 = 0) <|
  if 0 ≤ i32 (xor32 v0 v1) then
    some ((i32 v0).tdiv (i32 v1), M)
  else
    if i32 (((i32 v0).tdiv (i32 v1)) * v1) = i32 v0 then
      some ((i32 v0).tdiv (i32 v1), M)
    else
      some (((i32 v0).tdiv (i32 v1)) - 1, M)
set_option maxRecDepth 20000 in
set_option maxHeartbeats 4000000 in
theorem c_Math_floorDiv (d : Nat) (v0 : Int) (v1 : Int) (M : Mm) (Q : Option Value → Mm → Prop) (h : sat injI (f_Math_floorDiv v0 v1 M) Q) : Ct (d + 1) y_Math_floorDiv [vI v0, vI v1] M Q := by
  refine ct_in (d := d + 0) mk_Math_floorDiv (Nat.le_of_ble_eq_true rfl) (?_ : T (E_Math_floorDiv d) injI 0 [(0, vI v0), (1, vI v1)] [] M (f_Math_floorDiv v0 v1 M)) h
  unfold f_Math_floorDiv
  refine tq_iload_n 0 (E := E_Math_floorDiv d) (pc := 0) (cks_at k_Math_floorDiv 0 rfl rfl) rfl ?_
  refine tq_iload_n 1 (E := E_Math_floorDiv d) (pc := 1) (cks_at k_Math_floorDiv 1 rfl rfl) rfl ?_
  refine tq_idiv (E := E_Math_floorDiv d) (pc := 2) (cks_at k_Math_floorDiv 2 rfl rfl) ?_
  refine tq_istore_n (E := E_Math_floorDiv d) (pc := 3) (cks_at k_Math_floorDiv 3 rfl rfl) (show 2 < 3 by decide) rfl ?_
  refine tq_iload_n 1 (E := E_Math_floorDiv d) (pc := 4) (cks_at k_Math_floorDiv 4 rfl rfl) rfl ?_
  refine tq_iload_n 2 (E := E_Math_floorDiv d) (pc := 5) (cks_at k_Math_floorDiv 5 rfl rfl) rfl ?_
  refine tq_ixor (E := E_Math_floorDiv d) (pc := 6) (cks_at k_Math_floorDiv 6 rfl rfl) ?_
  refine tq_if_ge (E := E_Math_floorDiv d) (pc := 7) (tgt := 21) (cks_at k_Math_floorDiv 7 rfl rfl) (by decide) ?_ ?_
  · refine tq_iload_n 0 (E := E_Math_floorDiv d) (pc := 21) (cks_at k_Math_floorDiv 17 rfl rfl) rfl ?_
    exact tq_iret (E := E_Math_floorDiv d) (pc := 22) (cks_at k_Math_floorDiv 18 rfl rfl) rfl
  · refine tq_iload_n 0 (E := E_Math_floorDiv d) (pc := 10) (cks_at k_Math_floorDiv 8 rfl rfl) rfl ?_
    refine tq_iload_n 2 (E := E_Math_floorDiv d) (pc := 11) (cks_at k_Math_floorDiv 9 rfl rfl) rfl ?_
    refine tq_imul (E := E_Math_floorDiv d) (pc := 12) (cks_at k_Math_floorDiv 10 rfl rfl) ?_
    refine tq_iload_n 1 (E := E_Math_floorDiv d) (pc := 13) (cks_at k_Math_floorDiv 11 rfl rfl) rfl ?_
    refine tq_icmp_eq (E := E_Math_floorDiv d) (pc := 14) (tgt := 21) (cks_at k_Math_floorDiv 12 rfl rfl) (by decide) ?_ ?_
    · refine tq_iload_n 0 (E := E_Math_floorDiv d) (pc := 21) (cks_at k_Math_floorDiv 17 rfl rfl) rfl ?_
      exact tq_iret (E := E_Math_floorDiv d) (pc := 22) (cks_at k_Math_floorDiv 18 rfl rfl) rfl
    · refine tq_iload_n 0 (E := E_Math_floorDiv d) (pc := 17) (cks_at k_Math_floorDiv 13 rfl rfl) rfl ?_
      refine tq_iconst (E := E_Math_floorDiv d) (pc := 18) (cks_at k_Math_floorDiv 14 rfl rfl) ?_
      refine tq_isub (E := E_Math_floorDiv d) (pc := 19) (cks_at k_Math_floorDiv 15 rfl rfl) ?_
      exact tq_iret (E := E_Math_floorDiv d) (pc := 20) (cks_at k_Math_floorDiv 16 rfl rfl) rfl
abbrev E_Code_combined (d : Nat) : Ev := (Ct (d + 1), "BreathTown$Code", prog_2_method_8_code, 3, False, 0, (fun _ => 0), (Option.some Jvm.ClassFile.FieldType.long))
def f_Code_combined (v0 : Int) (v1 : Int) (v2 : Int) (M : Mm) : Option (Int × Mm) :=
  if i32 v0 = (-20) then
    if ¬ i32 v1 = 0 then
      some (1, M)
    else
      if i32 v2 = 0 then
        some (0, M)
      else
        some (1, M)
  else
  if i32 v0 = (-19) then
    if i32 v1 = 0 then
      some (0, M)
    else
      if i32 v2 = 0 then
        some (0, M)
      else
        some (1, M)
  else
  if i32 v0 = (-18) then
    if ¬ i32 v1 = i32 v2 then
      some (0, M)
    else
      some (1, M)
  else
  if i32 v0 = (-17) then
    if i32 v1 ≤ i32 v2 then
      some (0, M)
    else
      some (1, M)
  else
  if i32 v0 = (-16) then
    if i32 v2 ≤ i32 v1 then
      some (0, M)
    else
      some (1, M)
  else
  if i32 v0 = (-15) then
    if i32 v1 ≤ i32 v2 then
      some (i32 v2, M)
    else
      some (i32 v1, M)
  else
  if i32 v0 = (-14) then
    if i32 v2 ≤ i32 v1 then
      some (i32 v2, M)
    else
      some (i32 v1, M)
  else
  if i32 v0 = (-13) then
    if ¬ i32 v2 = 0 then
      bI (f_Math_floorDiv v1 v2 M) (fun r10 M9 =>
      some (i32 r10, M9))
    else
      some (0, M)
  else
  if i32 v0 = (-12) then
    some ((i32 v1) * (i32 v2), M)
  else
  if i32 v0 = (-11) then
    some ((i32 v1) - (i32 v2), M)
  else
  if i32 v0 = (-10) then
    some ((i32 v1) + (i32 v2), M)
  else
  some (0, M)
set_option maxRecDepth 20000 in
set_option maxHeartbeats 4000000 in
theorem c_Code_combined (d : Nat) (v0 : Int) (v1 : Int) (v2 : Int) (M : Mm) (Q : Option Value → Mm → Prop) (h : sat injJ (f_Code_combined v0 v1 v2 M) Q) : Ct (d + 2) y_Code_combined [vI v0, vI v1, vI v2] M Q := by
  refine ct_in (d := d + 1) mk_Code_combined (Nat.le_of_ble_eq_true rfl) (?_ : T (E_Code_combined d) injJ 0 [(0, vI v0), (1, vI v1), (2, vI v2)] [] M (f_Code_combined v0 v1 v2 M)) h
  unfold f_Code_combined
  refine tq_iload_n 0 (E := E_Code_combined d) (pc := 0) (cks_at k_Code_combined 0 rfl rfl) rfl ?_
  refine tq_tsC (E := E_Code_combined d) (pc := 1) (tgt := 166) (off := 165) (w := (-20)) 0 k_Code_combined_1 (by decide) rfl (by decide) ?_ (fun h1 => ?_)
  · refine tq_iload_n 1 (E := E_Code_combined d) (pc := 166) (cks_at k_Code_combined 76 rfl rfl) rfl ?_
    refine tq_if_ne (E := E_Code_combined d) (pc := 167) (tgt := 174) (cks_at k_Code_combined 77 rfl rfl) (by decide) ?_ ?_
    · refine tq_lconst1 (E := E_Code_combined d) (pc := 174) (cks_at k_Code_combined 80 rfl rfl) ?_
      refine tq_goto (tgt := 179) (E := E_Code_combined d) (pc := 175) (cks_at k_Code_combined 81 rfl rfl) (by decide) ?_
      exact tq_lret (E := E_Code_combined d) (pc := 179) (cks_at k_Code_combined 83 rfl rfl) rfl
    · refine tq_iload_n 2 (E := E_Code_combined d) (pc := 170) (cks_at k_Code_combined 78 rfl rfl) rfl ?_
      refine tq_if_eq (E := E_Code_combined d) (pc := 171) (tgt := 178) (cks_at k_Code_combined 79 rfl rfl) (by decide) ?_ ?_
      · refine tq_lconst0 (E := E_Code_combined d) (pc := 178) (cks_at k_Code_combined 82 rfl rfl) ?_
        exact tq_lret (E := E_Code_combined d) (pc := 179) (cks_at k_Code_combined 83 rfl rfl) rfl
      · refine tq_lconst1 (E := E_Code_combined d) (pc := 174) (cks_at k_Code_combined 80 rfl rfl) ?_
        refine tq_goto (tgt := 179) (E := E_Code_combined d) (pc := 175) (cks_at k_Code_combined 81 rfl rfl) (by decide) ?_
        exact tq_lret (E := E_Code_combined d) (pc := 179) (cks_at k_Code_combined 83 rfl rfl) rfl
  refine tq_tsC (E := E_Code_combined d) (pc := 1) (tgt := 152) (off := 151) (w := (-19)) 1 k_Code_combined_1 (by decide) rfl (by decide) ?_ (fun h2 => ?_)
  · refine tq_iload_n 1 (E := E_Code_combined d) (pc := 152) (cks_at k_Code_combined 68 rfl rfl) rfl ?_
    refine tq_if_eq (E := E_Code_combined d) (pc := 153) (tgt := 164) (cks_at k_Code_combined 69 rfl rfl) (by decide) ?_ ?_
    · refine tq_lconst0 (E := E_Code_combined d) (pc := 164) (cks_at k_Code_combined 74 rfl rfl) ?_
      exact tq_lret (E := E_Code_combined d) (pc := 165) (cks_at k_Code_combined 75 rfl rfl) rfl
    · refine tq_iload_n 2 (E := E_Code_combined d) (pc := 156) (cks_at k_Code_combined 70 rfl rfl) rfl ?_
      refine tq_if_eq (E := E_Code_combined d) (pc := 157) (tgt := 164) (cks_at k_Code_combined 71 rfl rfl) (by decide) ?_ ?_
      · refine tq_lconst0 (E := E_Code_combined d) (pc := 164) (cks_at k_Code_combined 74 rfl rfl) ?_
        exact tq_lret (E := E_Code_combined d) (pc := 165) (cks_at k_Code_combined 75 rfl rfl) rfl
      · refine tq_lconst1 (E := E_Code_combined d) (pc := 160) (cks_at k_Code_combined 72 rfl rfl) ?_
        refine tq_goto (tgt := 165) (E := E_Code_combined d) (pc := 161) (cks_at k_Code_combined 73 rfl rfl) (by decide) ?_
        exact tq_lret (E := E_Code_combined d) (pc := 165) (cks_at k_Code_combined 75 rfl rfl) rfl
  refine tq_tsC (E := E_Code_combined d) (pc := 1) (tgt := 141) (off := 140) (w := (-18)) 2 k_Code_combined_1 (by decide) rfl (by decide) ?_ (fun h3 => ?_)
  · refine tq_iload_n 1 (E := E_Code_combined d) (pc := 141) (cks_at k_Code_combined 61 rfl rfl) rfl ?_
    refine tq_iload_n 2 (E := E_Code_combined d) (pc := 142) (cks_at k_Code_combined 62 rfl rfl) rfl ?_
    refine tq_icmp_ne (E := E_Code_combined d) (pc := 143) (tgt := 150) (cks_at k_Code_combined 63 rfl rfl) (by decide) ?_ ?_
    · refine tq_lconst0 (E := E_Code_combined d) (pc := 150) (cks_at k_Code_combined 66 rfl rfl) ?_
      exact tq_lret (E := E_Code_combined d) (pc := 151) (cks_at k_Code_combined 67 rfl rfl) rfl
    · refine tq_lconst1 (E := E_Code_combined d) (pc := 146) (cks_at k_Code_combined 64 rfl rfl) ?_
      refine tq_goto (tgt := 151) (E := E_Code_combined d) (pc := 147) (cks_at k_Code_combined 65 rfl rfl) (by decide) ?_
      exact tq_lret (E := E_Code_combined d) (pc := 151) (cks_at k_Code_combined 67 rfl rfl) rfl
  refine tq_tsC (E := E_Code_combined d) (pc := 1) (tgt := 130) (off := 129) (w := (-17)) 3 k_Code_combined_1 (by decide) rfl (by decide) ?_ (fun h4 => ?_)
  · refine tq_iload_n 1 (E := E_Code_combined d) (pc := 130) (cks_at k_Code_combined 54 rfl rfl) rfl ?_
    refine tq_iload_n 2 (E := E_Code_combined d) (pc := 131) (cks_at k_Code_combined 55 rfl rfl) rfl ?_
    refine tq_icmp_le (E := E_Code_combined d) (pc := 132) (tgt := 139) (cks_at k_Code_combined 56 rfl rfl) (by decide) ?_ ?_
    · refine tq_lconst0 (E := E_Code_combined d) (pc := 139) (cks_at k_Code_combined 59 rfl rfl) ?_
      exact tq_lret (E := E_Code_combined d) (pc := 140) (cks_at k_Code_combined 60 rfl rfl) rfl
    · refine tq_lconst1 (E := E_Code_combined d) (pc := 135) (cks_at k_Code_combined 57 rfl rfl) ?_
      refine tq_goto (tgt := 140) (E := E_Code_combined d) (pc := 136) (cks_at k_Code_combined 58 rfl rfl) (by decide) ?_
      exact tq_lret (E := E_Code_combined d) (pc := 140) (cks_at k_Code_combined 60 rfl rfl) rfl
  refine tq_tsC (E := E_Code_combined d) (pc := 1) (tgt := 119) (off := 118) (w := (-16)) 4 k_Code_combined_1 (by decide) rfl (by decide) ?_ (fun h5 => ?_)
  · refine tq_iload_n 1 (E := E_Code_combined d) (pc := 119) (cks_at k_Code_combined 47 rfl rfl) rfl ?_
    refine tq_iload_n 2 (E := E_Code_combined d) (pc := 120) (cks_at k_Code_combined 48 rfl rfl) rfl ?_
    refine tq_icmp_ge (E := E_Code_combined d) (pc := 121) (tgt := 128) (cks_at k_Code_combined 49 rfl rfl) (by decide) ?_ ?_
    · refine tq_lconst0 (E := E_Code_combined d) (pc := 128) (cks_at k_Code_combined 52 rfl rfl) ?_
      exact tq_lret (E := E_Code_combined d) (pc := 129) (cks_at k_Code_combined 53 rfl rfl) rfl
    · refine tq_lconst1 (E := E_Code_combined d) (pc := 124) (cks_at k_Code_combined 50 rfl rfl) ?_
      refine tq_goto (tgt := 129) (E := E_Code_combined d) (pc := 125) (cks_at k_Code_combined 51 rfl rfl) (by decide) ?_
      exact tq_lret (E := E_Code_combined d) (pc := 129) (cks_at k_Code_combined 53 rfl rfl) rfl
  refine tq_tsC (E := E_Code_combined d) (pc := 1) (tgt := 106) (off := 105) (w := (-15)) 5 k_Code_combined_1 (by decide) rfl (by decide) ?_ (fun h6 => ?_)
  · refine tq_iload_n 1 (E := E_Code_combined d) (pc := 106) (cks_at k_Code_combined 38 rfl rfl) rfl ?_
    refine tq_iload_n 2 (E := E_Code_combined d) (pc := 107) (cks_at k_Code_combined 39 rfl rfl) rfl ?_
    refine tq_icmp_le (E := E_Code_combined d) (pc := 108) (tgt := 116) (cks_at k_Code_combined 40 rfl rfl) (by decide) ?_ ?_
    · refine tq_iload_n 2 (E := E_Code_combined d) (pc := 116) (cks_at k_Code_combined 44 rfl rfl) rfl ?_
      refine tq_i2l (E := E_Code_combined d) (pc := 117) (cks_at k_Code_combined 45 rfl rfl) ?_
      exact tq_lret (E := E_Code_combined d) (pc := 118) (cks_at k_Code_combined 46 rfl rfl) rfl
    · refine tq_iload_n 1 (E := E_Code_combined d) (pc := 111) (cks_at k_Code_combined 41 rfl rfl) rfl ?_
      refine tq_i2l (E := E_Code_combined d) (pc := 112) (cks_at k_Code_combined 42 rfl rfl) ?_
      refine tq_goto (tgt := 118) (E := E_Code_combined d) (pc := 113) (cks_at k_Code_combined 43 rfl rfl) (by decide) ?_
      exact tq_lret (E := E_Code_combined d) (pc := 118) (cks_at k_Code_combined 46 rfl rfl) rfl
  refine tq_tsC (E := E_Code_combined d) (pc := 1) (tgt := 93) (off := 92) (w := (-14)) 6 k_Code_combined_1 (by decide) rfl (by decide) ?_ (fun h7 => ?_)
  · refine tq_iload_n 1 (E := E_Code_combined d) (pc := 93) (cks_at k_Code_combined 29 rfl rfl) rfl ?_
    refine tq_iload_n 2 (E := E_Code_combined d) (pc := 94) (cks_at k_Code_combined 30 rfl rfl) rfl ?_
    refine tq_icmp_ge (E := E_Code_combined d) (pc := 95) (tgt := 103) (cks_at k_Code_combined 31 rfl rfl) (by decide) ?_ ?_
    · refine tq_iload_n 2 (E := E_Code_combined d) (pc := 103) (cks_at k_Code_combined 35 rfl rfl) rfl ?_
      refine tq_i2l (E := E_Code_combined d) (pc := 104) (cks_at k_Code_combined 36 rfl rfl) ?_
      exact tq_lret (E := E_Code_combined d) (pc := 105) (cks_at k_Code_combined 37 rfl rfl) rfl
    · refine tq_iload_n 1 (E := E_Code_combined d) (pc := 98) (cks_at k_Code_combined 32 rfl rfl) rfl ?_
      refine tq_i2l (E := E_Code_combined d) (pc := 99) (cks_at k_Code_combined 33 rfl rfl) ?_
      refine tq_goto (tgt := 105) (E := E_Code_combined d) (pc := 100) (cks_at k_Code_combined 34 rfl rfl) (by decide) ?_
      exact tq_lret (E := E_Code_combined d) (pc := 105) (cks_at k_Code_combined 37 rfl rfl) rfl
  refine tq_tsC (E := E_Code_combined d) (pc := 1) (tgt := 78) (off := 77) (w := (-13)) 7 k_Code_combined_1 (by decide) rfl (by decide) ?_ (fun h8 => ?_)
  · refine tq_iload_n 2 (E := E_Code_combined d) (pc := 78) (cks_at k_Code_combined 20 rfl rfl) rfl ?_
    refine tq_if_ne (E := E_Code_combined d) (pc := 79) (tgt := 86) (cks_at k_Code_combined 21 rfl rfl) (by decide) ?_ ?_
    · refine tq_iload_n 1 (E := E_Code_combined d) (pc := 86) (cks_at k_Code_combined 24 rfl rfl) rfl ?_
      refine tq_iload_n 2 (E := E_Code_combined d) (pc := 87) (cks_at k_Code_combined 25 rfl rfl) rfl ?_
      refine tq_S2 (E := E_Code_combined d) (pc := 88) (cks_at k_Code_combined 26 rfl rfl) mk_Math_floorDiv lk_Code_48 (Nat.le_of_ble_eq_true rfl) (c_Math_floorDiv (d + 0) v1 v2 M) (k_I fun r10 M9 => ?_)
      refine tq_i2l (E := E_Code_combined d) (pc := 91) (cks_at k_Code_combined 27 rfl rfl) ?_
      exact tq_lret (E := E_Code_combined d) (pc := 92) (cks_at k_Code_combined 28 rfl rfl) rfl
    · refine tq_lconst0 (E := E_Code_combined d) (pc := 82) (cks_at k_Code_combined 22 rfl rfl) ?_
      refine tq_goto (tgt := 92) (E := E_Code_combined d) (pc := 83) (cks_at k_Code_combined 23 rfl rfl) (by decide) ?_
      exact tq_lret (E := E_Code_combined d) (pc := 92) (cks_at k_Code_combined 28 rfl rfl) rfl
  refine tq_tsC (E := E_Code_combined d) (pc := 1) (tgt := 72) (off := 71) (w := (-12)) 8 k_Code_combined_1 (by decide) rfl (by decide) ?_ (fun h11 => ?_)
  · refine tq_iload_n 1 (E := E_Code_combined d) (pc := 72) (cks_at k_Code_combined 14 rfl rfl) rfl ?_
    refine tq_i2l (E := E_Code_combined d) (pc := 73) (cks_at k_Code_combined 15 rfl rfl) ?_
    refine tq_iload_n 2 (E := E_Code_combined d) (pc := 74) (cks_at k_Code_combined 16 rfl rfl) rfl ?_
    refine tq_i2l (E := E_Code_combined d) (pc := 75) (cks_at k_Code_combined 17 rfl rfl) ?_
    refine tq_lmul (E := E_Code_combined d) (pc := 76) (cks_at k_Code_combined 18 rfl rfl) ?_
    exact tq_lret (E := E_Code_combined d) (pc := 77) (cks_at k_Code_combined 19 rfl rfl) rfl
  refine tq_tsC (E := E_Code_combined d) (pc := 1) (tgt := 66) (off := 65) (w := (-11)) 9 k_Code_combined_1 (by decide) rfl (by decide) ?_ (fun h12 => ?_)
  · refine tq_iload_n 1 (E := E_Code_combined d) (pc := 66) (cks_at k_Code_combined 8 rfl rfl) rfl ?_
    refine tq_i2l (E := E_Code_combined d) (pc := 67) (cks_at k_Code_combined 9 rfl rfl) ?_
    refine tq_iload_n 2 (E := E_Code_combined d) (pc := 68) (cks_at k_Code_combined 10 rfl rfl) rfl ?_
    refine tq_i2l (E := E_Code_combined d) (pc := 69) (cks_at k_Code_combined 11 rfl rfl) ?_
    refine tq_lsub (E := E_Code_combined d) (pc := 70) (cks_at k_Code_combined 12 rfl rfl) ?_
    exact tq_lret (E := E_Code_combined d) (pc := 71) (cks_at k_Code_combined 13 rfl rfl) rfl
  refine tq_tsC (E := E_Code_combined d) (pc := 1) (tgt := 60) (off := 59) (w := (-10)) 10 k_Code_combined_1 (by decide) rfl (by decide) ?_ (fun h13 => ?_)
  · refine tq_iload_n 1 (E := E_Code_combined d) (pc := 60) (cks_at k_Code_combined 2 rfl rfl) rfl ?_
    refine tq_i2l (E := E_Code_combined d) (pc := 61) (cks_at k_Code_combined 3 rfl rfl) ?_
    refine tq_iload_n 2 (E := E_Code_combined d) (pc := 62) (cks_at k_Code_combined 4 rfl rfl) rfl ?_
    refine tq_i2l (E := E_Code_combined d) (pc := 63) (cks_at k_Code_combined 5 rfl rfl) ?_
    refine tq_ladd (E := E_Code_combined d) (pc := 64) (cks_at k_Code_combined 6 rfl rfl) ?_
    exact tq_lret (E := E_Code_combined d) (pc := 65) (cks_at k_Code_combined 7 rfl rfl) rfl
  refine tq_tsD (E := E_Code_combined d) (pc := 1) (tgt := 180) k_Code_combined_1 (by omega) (by decide) ?_
  refine tq_lconst0 (E := E_Code_combined d) (pc := 180) (cks_at k_Code_combined 84 rfl rfl) ?_
  exact tq_lret (E := E_Code_combined d) (pc := 181) (cks_at k_Code_combined 85 rfl rfl) rfl
abbrev E_Code_plain (d : Nat) : Ev := (Ct (d + 0), "BreathTown$Code", prog_2_method_7_code, 4, False, 0, (fun _ => 0), (Option.some Jvm.ClassFile.FieldType.int))
def f_Code_plain (v0 : Int) (v1 : Int) (v2 : Int) (v3 : Int) (M : Mm) : Option (Int × Mm) :=
  if i32 v0 = (-5) then
    some (v3, M)
  else
  if i32 v0 = (-4) then
    some ((i32 v3).tdiv (i32 24), M)
  else
  if i32 v0 = (-3) then
    some ((i32 v3).tmod (i32 24), M)
  else
  if i32 v0 = (-2) then
    some (v2, M)
  else
  if i32 v0 = (-1) then
    some (v1, M)
  else
  some (v0, M)
set_option maxRecDepth 20000 in
set_option maxHeartbeats 4000000 in
theorem c_Code_plain (d : Nat) (v0 : Int) (v1 : Int) (v2 : Int) (v3 : Int) (M : Mm) (Q : Option Value → Mm → Prop) (h : sat injI (f_Code_plain v0 v1 v2 v3 M) Q) : Ct (d + 1) y_Code_plain [vI v0, vI v1, vI v2, vI v3] M Q := by
  refine ct_in (d := d + 0) mk_Code_plain (Nat.le_of_ble_eq_true rfl) (?_ : T (E_Code_plain d) injI 0 [(0, vI v0), (1, vI v1), (2, vI v2), (3, vI v3)] [] M (f_Code_plain v0 v1 v2 v3 M)) h
  unfold f_Code_plain
  refine tq_iload_n 0 (E := E_Code_plain d) (pc := 0) (cks_at k_Code_plain 0 rfl rfl) rfl ?_
  refine tq_tsC (E := E_Code_plain d) (pc := 1) (tgt := 50) (off := 49) (w := (-5)) 0 k_Code_plain_1 (by decide) rfl (by decide) ?_ (fun h1 => ?_)
  · refine tq_iload_n 3 (E := E_Code_plain d) (pc := 50) (cks_at k_Code_plain 14 rfl rfl) rfl ?_
    exact tq_iret (E := E_Code_plain d) (pc := 51) (cks_at k_Code_plain 15 rfl rfl) rfl
  refine tq_tsC (E := E_Code_plain d) (pc := 1) (tgt := 45) (off := 44) (w := (-4)) 1 k_Code_plain_1 (by decide) rfl (by decide) ?_ (fun h2 => ?_)
  · refine tq_iload_n 3 (E := E_Code_plain d) (pc := 45) (cks_at k_Code_plain 10 rfl rfl) rfl ?_
    refine tq_bipush (E := E_Code_plain d) (pc := 46) (cks_at k_Code_plain 11 rfl rfl) (by decide) (by decide) ?_
    refine tq_idivC (E := E_Code_plain d) (pc := 48) (cks_at k_Code_plain 12 rfl rfl) (by decide) ?_
    exact tq_iret (E := E_Code_plain d) (pc := 49) (cks_at k_Code_plain 13 rfl rfl) rfl
  refine tq_tsC (E := E_Code_plain d) (pc := 1) (tgt := 40) (off := 39) (w := (-3)) 2 k_Code_plain_1 (by decide) rfl (by decide) ?_ (fun h3 => ?_)
  · refine tq_iload_n 3 (E := E_Code_plain d) (pc := 40) (cks_at k_Code_plain 6 rfl rfl) rfl ?_
    refine tq_bipush (E := E_Code_plain d) (pc := 41) (cks_at k_Code_plain 7 rfl rfl) (by decide) (by decide) ?_
    refine tq_iremC (E := E_Code_plain d) (pc := 43) (cks_at k_Code_plain 8 rfl rfl) (by decide) ?_
    exact tq_iret (E := E_Code_plain d) (pc := 44) (cks_at k_Code_plain 9 rfl rfl) rfl
  refine tq_tsC (E := E_Code_plain d) (pc := 1) (tgt := 38) (off := 37) (w := (-2)) 3 k_Code_plain_1 (by decide) rfl (by decide) ?_ (fun h4 => ?_)
  · refine tq_iload_n 2 (E := E_Code_plain d) (pc := 38) (cks_at k_Code_plain 4 rfl rfl) rfl ?_
    exact tq_iret (E := E_Code_plain d) (pc := 39) (cks_at k_Code_plain 5 rfl rfl) rfl
  refine tq_tsC (E := E_Code_plain d) (pc := 1) (tgt := 36) (off := 35) (w := (-1)) 4 k_Code_plain_1 (by decide) rfl (by decide) ?_ (fun h5 => ?_)
  · refine tq_iload_n 1 (E := E_Code_plain d) (pc := 36) (cks_at k_Code_plain 2 rfl rfl) rfl ?_
    exact tq_iret (E := E_Code_plain d) (pc := 37) (cks_at k_Code_plain 3 rfl rfl) rfl
  refine tq_tsD (E := E_Code_plain d) (pc := 1) (tgt := 52) k_Code_plain_1 (by omega) (by decide) ?_
  refine tq_iload_n 0 (E := E_Code_plain d) (pc := 52) (cks_at k_Code_plain 16 rfl rfl) rfl ?_
  exact tq_iret (E := E_Code_plain d) (pc := 53) (cks_at k_Code_plain 17 rfl rfl) rfl
abbrev E_Code_value (d : Nat) : Ev := (Ct (d + 2), "BreathTown$Code", prog_2_method_6_code, 12, False, 0, (fun _ => 0), (Option.some Jvm.ClassFile.FieldType.int))
def f_Code_value_J206 (this : Nat) (kH : Int → Int → Int → Int → Int → Int → Mm → Option (Int × Mm)) (v2 v3 v4 v5 v6 v7 s0 : Int) (M : Mm) : Option (Int × Mm) :=
  bI (f_BT_cell (ptr this 2) s0 M) (fun r11 M10 =>
  bV (f_BT_setCell (ptr this 1) (v6 - 1) r11 M10) (fun M12 =>
  kH v2 v3 v4 v5 v6 (v7 + 1) M12))
set_option maxRecDepth 20000 in
set_option maxHeartbeats 4000000 in
theorem w_Code_value_J206 (d : Nat) (this : Nat) (hthis : isCode this) (kH : Int → Int → Int → Int → Int → Int → Mm → Option (Int × Mm)) (hkH : ∀ (v2 v3 v4 v5 v6 v7 : Int) (M : Mm), T (E_Code_value d) injI 6 [(0, .ref this), (2, vI v2), (3, vI v3), (4, vI v4), (5, vI v5), (6, vI v6), (7, vI v7)] [] M (kH v2 v3 v4 v5 v6 v7 M)) (v2 v3 v4 v5 v6 v7 s0 : Int) (M : Mm) : T (E_Code_value d) injI 206 [(0, .ref this), (2, vI v2), (3, vI v3), (4, vI v4), (5, vI v5), (6, vI v6), (7, vI v7)] [vI s0] M (f_Code_value_J206 this kH v2 v3 v4 v5 v6 v7 s0 M) := by
  unfold f_Code_value_J206
  refine tq_istore (E := E_Code_value d) (pc := 206) (cks_at k_Code_value 100 rfl rfl) (show 11 < 12 by decide) rfl ?_
  refine tq_aload_n 1 (E := E_Code_value d) (pc := 208) (cks_at k_Code_value 101 rfl rfl) rfl ?_
  refine tq_getR (j := ptr this 1) (E := E_Code_value d) (pc := 209) (cks_at k_Code_value 102 rfl rfl) fo_Code_15 (isCode_ok hthis) rfl rfl ?_
  refine tq_iload 6 (E := E_Code_value d) (pc := 212) (cks_at k_Code_value 103 rfl rfl) rfl ?_
  refine tq_iconst (E := E_Code_value d) (pc := 214) (cks_at k_Code_value 104 rfl rfl) ?_
  refine tq_isub (E := E_Code_value d) (pc := 215) (cks_at k_Code_value 105 rfl rfl) ?_
  refine tq_aload_n 1 (E := E_Code_value d) (pc := 216) (cks_at k_Code_value 106 rfl rfl) rfl ?_
  refine tq_getR (j := ptr this 2) (E := E_Code_value d) (pc := 217) (cks_at k_Code_value 107 rfl rfl) fo_Code_18 (isCode_ok hthis) rfl rfl ?_
  refine tq_iload 0 (E := E_Code_value d) (pc := 220) (cks_at k_Code_value 108 rfl rfl) rfl ?_
  refine tq_S2 (E := E_Code_value d) (pc := 222) (cks_at k_Code_value 109 rfl rfl) mk_BT_cell lk_Code_28 (Nat.le_of_ble_eq_true rfl) (c_BT_cell (d + 1) (ptr this 2) (sa_Code_2 hthis) s0 M) (k_I fun r11 M10 => ?_)
  refine tq_S3 (E := E_Code_value d) (pc := 225) (cks_at k_Code_value 110 rfl rfl) mk_BT_setCell lk_Code_32 (Nat.le_of_ble_eq_true rfl) (c_BT_setCell (d + 1) (ptr this 1) (sa_Code_1 hthis) (v6 - 1) r11 M10) (k_V fun M12 => ?_)
  refine tq_goto (tgt := 253) (E := E_Code_value d) (pc := 228) (cks_at k_Code_value 111 rfl rfl) (by decide) ?_
  refine tq_iinc 7 (E := E_Code_value d) (pc := 253) (cks_at k_Code_value 122 rfl rfl) rfl (show 7 < 12 by decide) rfl ?_
  refine tq_goto (tgt := 6) (E := E_Code_value d) (pc := 256) (cks_at k_Code_value 123 rfl rfl) (by decide) ?_
  exact tq_sub [2, 3, 4, 5, 6, 7, 0] rfl (hkH v2 v3 v4 v5 v6 (v7 + 1) M12)
def f_Code_value_J184 (this : Nat) (kH : Int → Int → Int → Int → Int → Int → Mm → Option (Int × Mm)) (v2 v3 v4 v5 v6 v7 v8 v9 s0 : Int) (M : Mm) : Option (Int × Mm) :=
  if i32 s0 = 0 then
    f_Code_value_J206 this kH v2 v3 v4 v5 v6 v7 ((-1)) M
  else
    f_Code_value_J206 this kH v2 v3 v4 v5 v6 v7 (((((-6)) - v8) * 12) + v9) M
set_option maxRecDepth 20000 in
set_option maxHeartbeats 4000000 in
theorem w_Code_value_J184 (d : Nat) (this : Nat) (hthis : isCode this) (kH : Int → Int → Int → Int → Int → Int → Mm → Option (Int × Mm)) (hkH : ∀ (v2 v3 v4 v5 v6 v7 : Int) (M : Mm), T (E_Code_value d) injI 6 [(0, .ref this), (2, vI v2), (3, vI v3), (4, vI v4), (5, vI v5), (6, vI v6), (7, vI v7)] [] M (kH v2 v3 v4 v5 v6 v7 M)) (v2 v3 v4 v5 v6 v7 v8 v9 s0 : Int) (M : Mm) : T (E_Code_value d) injI 184 [(0, .ref this), (2, vI v2), (3, vI v3), (4, vI v4), (5, vI v5), (6, vI v6), (7, vI v7), (8, vI v8), (9, vI v9)] [vI s0] M (f_Code_value_J184 this kH v2 v3 v4 v5 v6 v7 v8 v9 s0 M) := by
  unfold f_Code_value_J184
  refine tq_istore (E := E_Code_value d) (pc := 184) (cks_at k_Code_value 88 rfl rfl) (show 10 < 12 by decide) rfl ?_
  refine tq_iload 0 (E := E_Code_value d) (pc := 186) (cks_at k_Code_value 89 rfl rfl) rfl ?_
  refine tq_if_eq (E := E_Code_value d) (pc := 188) (tgt := 205) (cks_at k_Code_value 90 rfl rfl) (by decide) ?_ ?_
  · refine tq_iconst (E := E_Code_value d) (pc := 205) (cks_at k_Code_value 99 rfl rfl) ?_
    exact tq_sub [1, 2, 3, 4, 5, 6, 7] rfl (w_Code_value_J206 d this hthis kH hkH v2 v3 v4 v5 v6 v7 ((-1)) M)
  · refine tq_bipush (E := E_Code_value d) (pc := 191) (cks_at k_Code_value 91 rfl rfl) (by decide) (by decide) ?_
    refine tq_iload 8 (E := E_Code_value d) (pc := 193) (cks_at k_Code_value 92 rfl rfl) rfl ?_
    refine tq_isub (E := E_Code_value d) (pc := 195) (cks_at k_Code_value 93 rfl rfl) ?_
    refine tq_bipush (E := E_Code_value d) (pc := 196) (cks_at k_Code_value 94 rfl rfl) (by decide) (by decide) ?_
    refine tq_imul (E := E_Code_value d) (pc := 198) (cks_at k_Code_value 95 rfl rfl) ?_
    refine tq_iload 9 (E := E_Code_value d) (pc := 199) (cks_at k_Code_value 96 rfl rfl) rfl ?_
    refine tq_iadd (E := E_Code_value d) (pc := 201) (cks_at k_Code_value 97 rfl rfl) ?_
    refine tq_goto (tgt := 206) (E := E_Code_value d) (pc := 202) (cks_at k_Code_value 98 rfl rfl) (by decide) ?_
    exact tq_sub [1, 2, 3, 4, 5, 6, 7] rfl (w_Code_value_J206 d this hthis kH hkH v2 v3 v4 v5 v6 v7 (((((-6)) - v8) * 12) + v9) M)
def f_Code_value_B6 (this : Nat) (kH : Int → Int → Int → Int → Int → Int → Mm → Option (Int × Mm)) (v2 v3 v4 v5 v6 v7 : Int) (M : Mm) : Option (Int × Mm) :=
  if i32 v2 ≤ i32 v7 then
    bI (f_BT_cell (ptr this 1) 0 M) (fun r2 M1 =>
    some (r2, M1))
  else
    bI (f_BT_cell (ptr this 0) v7 M) (fun r4 M3 =>
    if i32 ((-10)) < i32 r4 then
      if ¬ i32 r4 = i32 ((-9)) then
        if i32 ((-6)) < i32 r4 then
          bI (f_Code_plain r4 v3 v4 v5 M3) (fun r6 M5 =>
          bV (f_BT_setCell (ptr this 1) v6 r6 M5) (fun M7 =>
          kH v2 v3 v4 v5 (v6 + 1) (v7 + 1) M7))
        else
          bI (f_BT_cell (ptr this 1) (v6 - 1) M3) (fun r9 M8 =>
          if i32 r9 < 0 then
            f_Code_value_J184 this kH v2 v3 v4 v5 v6 v7 r4 r9 0 M8
          else
            if i32 12 ≤ i32 r9 then
              f_Code_value_J184 this kH v2 v3 v4 v5 v6 v7 r4 r9 0 M8
            else
              f_Code_value_J184 this kH v2 v3 v4 v5 v6 v7 r4 r9 1 M8)
      else
        bI (f_BT_cell (ptr this 1) (v6 - 1) M3) (fun r14 M13 =>
        if ¬ i32 r14 = 0 then
          bV (f_BT_setCell (ptr this 1) (v6 - 1) 0 M13) (fun M15 =>
          kH v2 v3 v4 v5 v6 (v7 + 1) M15)
        else
          bV (f_BT_setCell (ptr this 1) (v6 - 1) 1 M13) (fun M16 =>
          kH v2 v3 v4 v5 v6 (v7 + 1) M16))
    else
      bI (f_BT_cell (ptr this 1) ((v6 + (-1)) - 1) M3) (fun r18 M17 =>
      bI (f_BT_cell (ptr this 1) (v6 + (-1)) M17) (fun r20 M19 =>
      bI (f_Code_combined r4 r18 r20 M19) (fun r22 M21 =>
      if i32 (cmp64 r22 1000000) ≤ 0 then
        if 0 ≤ i32 (cmp64 r22 ((-1000000))) then
          bV (f_BT_setCell (ptr this 1) ((v6 + (-1)) - 1) r22 M21) (fun M23 =>
          kH v2 v3 v4 v5 (v6 + (-1)) (v7 + 1) M23)
        else
          bV (f_BT_setCell (ptr this 1) ((v6 + (-1)) - 1) ((-1000000)) M21) (fun M24 =>
          kH v2 v3 v4 v5 (v6 + (-1)) (v7 + 1) M24)
      else
        bV (f_BT_setCell (ptr this 1) ((v6 + (-1)) - 1) 1000000 M21) (fun M25 =>
        kH v2 v3 v4 v5 (v6 + (-1)) (v7 + 1) M25)))))
set_option maxRecDepth 20000 in
set_option maxHeartbeats 4000000 in
theorem w_Code_value_B6 (d : Nat) (this : Nat) (hthis : isCode this) (kH : Int → Int → Int → Int → Int → Int → Mm → Option (Int × Mm)) (hkH : ∀ (v2 v3 v4 v5 v6 v7 : Int) (M : Mm), T (E_Code_value d) injI 6 [(0, .ref this), (2, vI v2), (3, vI v3), (4, vI v4), (5, vI v5), (6, vI v6), (7, vI v7)] [] M (kH v2 v3 v4 v5 v6 v7 M)) (v2 v3 v4 v5 v6 v7 : Int) (M : Mm) : T (E_Code_value d) injI 6 [(0, .ref this), (2, vI v2), (3, vI v3), (4, vI v4), (5, vI v5), (6, vI v6), (7, vI v7)] [] M (f_Code_value_B6 this kH v2 v3 v4 v5 v6 v7 M) := by
  unfold f_Code_value_B6
  refine tq_iload 6 (E := E_Code_value d) (pc := 6) (cks_at k_Code_value 4 rfl rfl) rfl ?_
  refine tq_iload_n 1 (E := E_Code_value d) (pc := 8) (cks_at k_Code_value 5 rfl rfl) rfl ?_
  refine tq_icmp_ge (E := E_Code_value d) (pc := 9) (tgt := 259) (cks_at k_Code_value 6 rfl rfl) (by decide) ?_ ?_
  · refine tq_aload_n 0 (E := E_Code_value d) (pc := 259) (cks_at k_Code_value 124 rfl rfl) rfl ?_
    refine tq_getR (j := ptr this 1) (E := E_Code_value d) (pc := 260) (cks_at k_Code_value 125 rfl rfl) fo_Code_15 (isCode_ok hthis) rfl rfl ?_
    refine tq_iconst (E := E_Code_value d) (pc := 263) (cks_at k_Code_value 126 rfl rfl) ?_
    refine tq_S2 (E := E_Code_value d) (pc := 264) (cks_at k_Code_value 127 rfl rfl) mk_BT_cell lk_Code_28 (Nat.le_of_ble_eq_true rfl) (c_BT_cell (d + 1) (ptr this 1) (sa_Code_1 hthis) 0 M) (k_I fun r2 M1 => ?_)
    exact tq_iret (E := E_Code_value d) (pc := 267) (cks_at k_Code_value 128 rfl rfl) rfl
  · refine tq_aload_n 0 (E := E_Code_value d) (pc := 12) (cks_at k_Code_value 7 rfl rfl) rfl ?_
    refine tq_getR (j := ptr this 0) (E := E_Code_value d) (pc := 13) (cks_at k_Code_value 8 rfl rfl) fo_Code_9 (isCode_ok hthis) rfl rfl ?_
    refine tq_iload 6 (E := E_Code_value d) (pc := 16) (cks_at k_Code_value 9 rfl rfl) rfl ?_
    refine tq_S2 (E := E_Code_value d) (pc := 18) (cks_at k_Code_value 10 rfl rfl) mk_BT_cell lk_Code_28 (Nat.le_of_ble_eq_true rfl) (c_BT_cell (d + 1) (ptr this 0) (sa_Code_0 hthis) v7 M) (k_I fun r4 M3 => ?_)
    refine tq_istore (E := E_Code_value d) (pc := 21) (cks_at k_Code_value 11 rfl rfl) (show 8 < 12 by decide) rfl ?_
    refine tq_iload 0 (E := E_Code_value d) (pc := 23) (cks_at k_Code_value 12 rfl rfl) rfl ?_
    refine tq_bipush (E := E_Code_value d) (pc := 25) (cks_at k_Code_value 13 rfl rfl) (by decide) (by decide) ?_
    refine tq_icmp_gt (E := E_Code_value d) (pc := 27) (tgt := 107) (cks_at k_Code_value 14 rfl rfl) (by decide) ?_ ?_
    · refine tq_iload 0 (E := E_Code_value d) (pc := 107) (cks_at k_Code_value 50 rfl rfl) rfl ?_
      refine tq_bipush (E := E_Code_value d) (pc := 109) (cks_at k_Code_value 51 rfl rfl) (by decide) (by decide) ?_
      refine tq_icmp_ne (E := E_Code_value d) (pc := 111) (tgt := 147) (cks_at k_Code_value 52 rfl rfl) (by decide) ?_ ?_
      · refine tq_iload 0 (E := E_Code_value d) (pc := 147) (cks_at k_Code_value 70 rfl rfl) rfl ?_
        refine tq_bipush (E := E_Code_value d) (pc := 149) (cks_at k_Code_value 71 rfl rfl) (by decide) (by decide) ?_
        refine tq_icmp_gt (E := E_Code_value d) (pc := 151) (tgt := 231) (cks_at k_Code_value 72 rfl rfl) (by decide) ?_ ?_
        · refine tq_aload_n 1 (E := E_Code_value d) (pc := 231) (cks_at k_Code_value 112 rfl rfl) rfl ?_
          refine tq_getR (j := ptr this 1) (E := E_Code_value d) (pc := 232) (cks_at k_Code_value 113 rfl rfl) fo_Code_15 (isCode_ok hthis) rfl rfl ?_
          refine tq_iload 6 (E := E_Code_value d) (pc := 235) (cks_at k_Code_value 114 rfl rfl) rfl ?_
          refine tq_iload 0 (E := E_Code_value d) (pc := 237) (cks_at k_Code_value 115 rfl rfl) rfl ?_
          refine tq_iload_n 3 (E := E_Code_value d) (pc := 239) (cks_at k_Code_value 116 rfl rfl) rfl ?_
          refine tq_iload 4 (E := E_Code_value d) (pc := 240) (cks_at k_Code_value 117 rfl rfl) rfl ?_
          refine tq_iload 5 (E := E_Code_value d) (pc := 242) (cks_at k_Code_value 118 rfl rfl) rfl ?_
          refine tq_S4 (E := E_Code_value d) (pc := 244) (cks_at k_Code_value 119 rfl rfl) mk_Code_plain lk_Code_44 (Nat.le_of_ble_eq_true rfl) (c_Code_plain (d + 1) r4 v3 v4 v5 M3) (k_I fun r6 M5 => ?_)
          refine tq_S3 (E := E_Code_value d) (pc := 247) (cks_at k_Code_value 120 rfl rfl) mk_BT_setCell lk_Code_32 (Nat.le_of_ble_eq_true rfl) (c_BT_setCell (d + 1) (ptr this 1) (sa_Code_1 hthis) v6 r6 M5) (k_V fun M7 => ?_)
          refine tq_iinc 6 (E := E_Code_value d) (pc := 250) (cks_at k_Code_value 121 rfl rfl) rfl (show 6 < 12 by decide) rfl ?_
          refine tq_iinc 7 (E := E_Code_value d) (pc := 253) (cks_at k_Code_value 122 rfl rfl) rfl (show 7 < 12 by decide) rfl ?_
          refine tq_goto (tgt := 6) (E := E_Code_value d) (pc := 256) (cks_at k_Code_value 123 rfl rfl) (by decide) ?_
          exact tq_sub [3, 4, 5, 6, 7, 1, 0] rfl (hkH v2 v3 v4 v5 (v6 + 1) (v7 + 1) M7)
        · refine tq_aload_n 1 (E := E_Code_value d) (pc := 154) (cks_at k_Code_value 73 rfl rfl) rfl ?_
          refine tq_getR (j := ptr this 1) (E := E_Code_value d) (pc := 155) (cks_at k_Code_value 74 rfl rfl) fo_Code_15 (isCode_ok hthis) rfl rfl ?_
          refine tq_iload 6 (E := E_Code_value d) (pc := 158) (cks_at k_Code_value 75 rfl rfl) rfl ?_
          refine tq_iconst (E := E_Code_value d) (pc := 160) (cks_at k_Code_value 76 rfl rfl) ?_
          refine tq_isub (E := E_Code_value d) (pc := 161) (cks_at k_Code_value 77 rfl rfl) ?_
          refine tq_S2 (E := E_Code_value d) (pc := 162) (cks_at k_Code_value 78 rfl rfl) mk_BT_cell lk_Code_28 (Nat.le_of_ble_eq_true rfl) (c_BT_cell (d + 1) (ptr this 1) (sa_Code_1 hthis) (v6 - 1) M3) (k_I fun r9 M8 => ?_)
          refine tq_istore (E := E_Code_value d) (pc := 165) (cks_at k_Code_value 79 rfl rfl) (show 9 < 12 by decide) rfl ?_
          refine tq_iload 0 (E := E_Code_value d) (pc := 167) (cks_at k_Code_value 80 rfl rfl) rfl ?_
          refine tq_if_lt (E := E_Code_value d) (pc := 169) (tgt := 183) (cks_at k_Code_value 81 rfl rfl) (by decide) ?_ ?_
          · refine tq_iconst (E := E_Code_value d) (pc := 183) (cks_at k_Code_value 87 rfl rfl) ?_
            exact tq_sub [2, 3, 4, 5, 6, 7, 8, 1, 0] rfl (w_Code_value_J184 d this hthis kH hkH v2 v3 v4 v5 v6 v7 r4 r9 0 M8)
          · refine tq_iload 0 (E := E_Code_value d) (pc := 172) (cks_at k_Code_value 82 rfl rfl) rfl ?_
            refine tq_bipush (E := E_Code_value d) (pc := 174) (cks_at k_Code_value 83 rfl rfl) (by decide) (by decide) ?_
            refine tq_icmp_ge (E := E_Code_value d) (pc := 176) (tgt := 183) (cks_at k_Code_value 84 rfl rfl) (by decide) ?_ ?_
            · refine tq_iconst (E := E_Code_value d) (pc := 183) (cks_at k_Code_value 87 rfl rfl) ?_
              exact tq_sub [2, 3, 4, 5, 6, 7, 8, 1, 0] rfl (w_Code_value_J184 d this hthis kH hkH v2 v3 v4 v5 v6 v7 r4 r9 0 M8)
            · refine tq_iconst (E := E_Code_value d) (pc := 179) (cks_at k_Code_value 85 rfl rfl) ?_
              refine tq_goto (tgt := 184) (E := E_Code_value d) (pc := 180) (cks_at k_Code_value 86 rfl rfl) (by decide) ?_
              exact tq_sub [2, 3, 4, 5, 6, 7, 8, 1, 0] rfl (w_Code_value_J184 d this hthis kH hkH v2 v3 v4 v5 v6 v7 r4 r9 1 M8)
      · refine tq_aload_n 1 (E := E_Code_value d) (pc := 114) (cks_at k_Code_value 53 rfl rfl) rfl ?_
        refine tq_getR (j := ptr this 1) (E := E_Code_value d) (pc := 115) (cks_at k_Code_value 54 rfl rfl) fo_Code_15 (isCode_ok hthis) rfl rfl ?_
        refine tq_iload 6 (E := E_Code_value d) (pc := 118) (cks_at k_Code_value 55 rfl rfl) rfl ?_
        refine tq_iconst (E := E_Code_value d) (pc := 120) (cks_at k_Code_value 56 rfl rfl) ?_
        refine tq_isub (E := E_Code_value d) (pc := 121) (cks_at k_Code_value 57 rfl rfl) ?_
        refine tq_aload_n 1 (E := E_Code_value d) (pc := 122) (cks_at k_Code_value 58 rfl rfl) rfl ?_
        refine tq_getR (j := ptr this 1) (E := E_Code_value d) (pc := 123) (cks_at k_Code_value 59 rfl rfl) fo_Code_15 (isCode_ok hthis) rfl rfl ?_
        refine tq_iload 6 (E := E_Code_value d) (pc := 126) (cks_at k_Code_value 60 rfl rfl) rfl ?_
        refine tq_iconst (E := E_Code_value d) (pc := 128) (cks_at k_Code_value 61 rfl rfl) ?_
        refine tq_isub (E := E_Code_value d) (pc := 129) (cks_at k_Code_value 62 rfl rfl) ?_
        refine tq_S2 (E := E_Code_value d) (pc := 130) (cks_at k_Code_value 63 rfl rfl) mk_BT_cell lk_Code_28 (Nat.le_of_ble_eq_true rfl) (c_BT_cell (d + 1) (ptr this 1) (sa_Code_1 hthis) (v6 - 1) M3) (k_I fun r14 M13 => ?_)
        refine tq_if_ne (E := E_Code_value d) (pc := 133) (tgt := 140) (cks_at k_Code_value 64 rfl rfl) (by decide) ?_ ?_
        · refine tq_iconst (E := E_Code_value d) (pc := 140) (cks_at k_Code_value 67 rfl rfl) ?_
          refine tq_S3 (E := E_Code_value d) (pc := 141) (cks_at k_Code_value 68 rfl rfl) mk_BT_setCell lk_Code_32 (Nat.le_of_ble_eq_true rfl) (c_BT_setCell (d + 1) (ptr this 1) (sa_Code_1 hthis) (v6 - 1) 0 M13) (k_V fun M15 => ?_)
          refine tq_goto (tgt := 253) (E := E_Code_value d) (pc := 144) (cks_at k_Code_value 69 rfl rfl) (by decide) ?_
          refine tq_iinc 7 (E := E_Code_value d) (pc := 253) (cks_at k_Code_value 122 rfl rfl) rfl (show 7 < 12 by decide) rfl ?_
          refine tq_goto (tgt := 6) (E := E_Code_value d) (pc := 256) (cks_at k_Code_value 123 rfl rfl) (by decide) ?_
          exact tq_sub [2, 3, 4, 5, 6, 7, 0] rfl (hkH v2 v3 v4 v5 v6 (v7 + 1) M15)
        · refine tq_iconst (E := E_Code_value d) (pc := 136) (cks_at k_Code_value 65 rfl rfl) ?_
          refine tq_goto (tgt := 141) (E := E_Code_value d) (pc := 137) (cks_at k_Code_value 66 rfl rfl) (by decide) ?_
          refine tq_S3 (E := E_Code_value d) (pc := 141) (cks_at k_Code_value 68 rfl rfl) mk_BT_setCell lk_Code_32 (Nat.le_of_ble_eq_true rfl) (c_BT_setCell (d + 1) (ptr this 1) (sa_Code_1 hthis) (v6 - 1) 1 M13) (k_V fun M16 => ?_)
          refine tq_goto (tgt := 253) (E := E_Code_value d) (pc := 144) (cks_at k_Code_value 69 rfl rfl) (by decide) ?_
          refine tq_iinc 7 (E := E_Code_value d) (pc := 253) (cks_at k_Code_value 122 rfl rfl) rfl (show 7 < 12 by decide) rfl ?_
          refine tq_goto (tgt := 6) (E := E_Code_value d) (pc := 256) (cks_at k_Code_value 123 rfl rfl) (by decide) ?_
          exact tq_sub [2, 3, 4, 5, 6, 7, 0] rfl (hkH v2 v3 v4 v5 v6 (v7 + 1) M16)
    · refine tq_iinc 6 (E := E_Code_value d) (pc := 30) (cks_at k_Code_value 15 rfl rfl) rfl (show 6 < 12 by decide) rfl ?_
      refine tq_iload 1 (E := E_Code_value d) (pc := 33) (cks_at k_Code_value 16 rfl rfl) rfl ?_
      refine tq_aload_n 2 (E := E_Code_value d) (pc := 35) (cks_at k_Code_value 17 rfl rfl) rfl ?_
      refine tq_getR (j := ptr this 1) (E := E_Code_value d) (pc := 36) (cks_at k_Code_value 18 rfl rfl) fo_Code_15 (isCode_ok hthis) rfl rfl ?_
      refine tq_iload 0 (E := E_Code_value d) (pc := 39) (cks_at k_Code_value 19 rfl rfl) rfl ?_
      refine tq_iconst (E := E_Code_value d) (pc := 41) (cks_at k_Code_value 20 rfl rfl) ?_
      refine tq_isub (E := E_Code_value d) (pc := 42) (cks_at k_Code_value 21 rfl rfl) ?_
      refine tq_S2 (E := E_Code_value d) (pc := 43) (cks_at k_Code_value 22 rfl rfl) mk_BT_cell lk_Code_28 (Nat.le_of_ble_eq_true rfl) (c_BT_cell (d + 1) (ptr this 1) (sa_Code_1 hthis) ((v6 + (-1)) - 1) M3) (k_I fun r18 M17 => ?_)
      refine tq_aload_n 2 (E := E_Code_value d) (pc := 46) (cks_at k_Code_value 23 rfl rfl) rfl ?_
      refine tq_getR (j := ptr this 1) (E := E_Code_value d) (pc := 47) (cks_at k_Code_value 24 rfl rfl) fo_Code_15 (isCode_ok hthis) rfl rfl ?_
      refine tq_iload 0 (E := E_Code_value d) (pc := 50) (cks_at k_Code_value 25 rfl rfl) rfl ?_
      refine tq_S2 (E := E_Code_value d) (pc := 52) (cks_at k_Code_value 26 rfl rfl) mk_BT_cell lk_Code_28 (Nat.le_of_ble_eq_true rfl) (c_BT_cell (d + 1) (ptr this 1) (sa_Code_1 hthis) (v6 + (-1)) M17) (k_I fun r20 M19 => ?_)
      refine tq_S3 (E := E_Code_value d) (pc := 55) (cks_at k_Code_value 27 rfl rfl) mk_Code_combined lk_Code_36 (Nat.le_of_ble_eq_true rfl) (c_Code_combined (d + 0) r4 r18 r20 M19) (k_J fun r22 M21 => ?_)
      refine tq_lstore (E := E_Code_value d) (pc := 58) (cks_at k_Code_value 28 rfl rfl) (show 9 + 1 < 12 by decide) rfl ?_
      refine tq_aload_n 3 (E := E_Code_value d) (pc := 60) (cks_at k_Code_value 29 rfl rfl) rfl ?_
      refine tq_getR (j := ptr this 1) (E := E_Code_value d) (pc := 61) (cks_at k_Code_value 30 rfl rfl) fo_Code_15 (isCode_ok hthis) rfl rfl ?_
      refine tq_iload 1 (E := E_Code_value d) (pc := 64) (cks_at k_Code_value 31 rfl rfl) rfl ?_
      refine tq_iconst (E := E_Code_value d) (pc := 66) (cks_at k_Code_value 32 rfl rfl) ?_
      refine tq_isub (E := E_Code_value d) (pc := 67) (cks_at k_Code_value 33 rfl rfl) ?_
      refine tq_lload 0 (E := E_Code_value d) (pc := 68) (cks_at k_Code_value 34 rfl rfl) rfl ?_
      refine tq_ldc2 (z := 1000000) (E := E_Code_value d) (pc := 70) (cks_at k_Code_value 35 rfl rfl) cst_Code_40 ?_
      refine tq_lcmp (E := E_Code_value d) (pc := 73) (cks_at k_Code_value 36 rfl rfl) ?_
      refine tq_if_le (E := E_Code_value d) (pc := 74) (tgt := 83) (cks_at k_Code_value 37 rfl rfl) (by decide) ?_ ?_
      · refine tq_lload 0 (E := E_Code_value d) (pc := 83) (cks_at k_Code_value 40 rfl rfl) rfl ?_
        refine tq_ldc2 (z := (-1000000)) (E := E_Code_value d) (pc := 85) (cks_at k_Code_value 41 rfl rfl) cst_Code_42 ?_
        refine tq_lcmp (E := E_Code_value d) (pc := 88) (cks_at k_Code_value 42 rfl rfl) ?_
        refine tq_if_ge (E := E_Code_value d) (pc := 89) (tgt := 98) (cks_at k_Code_value 43 rfl rfl) (by decide) ?_ ?_
        · refine tq_lload 0 (E := E_Code_value d) (pc := 98) (cks_at k_Code_value 46 rfl rfl) rfl ?_
          refine tq_l2i (E := E_Code_value d) (pc := 100) (cks_at k_Code_value 47 rfl rfl) ?_
          refine tq_S3 (E := E_Code_value d) (pc := 101) (cks_at k_Code_value 48 rfl rfl) mk_BT_setCell lk_Code_32 (Nat.le_of_ble_eq_true rfl) (c_BT_setCell (d + 1) (ptr this 1) (sa_Code_1 hthis) ((v6 + (-1)) - 1) r22 M21) (k_V fun M23 => ?_)
          refine tq_goto (tgt := 253) (E := E_Code_value d) (pc := 104) (cks_at k_Code_value 49 rfl rfl) (by decide) ?_
          refine tq_iinc 8 (E := E_Code_value d) (pc := 253) (cks_at k_Code_value 122 rfl rfl) rfl (show 7 < 12 by decide) rfl ?_
          refine tq_goto (tgt := 6) (E := E_Code_value d) (pc := 256) (cks_at k_Code_value 123 rfl rfl) (by decide) ?_
          exact tq_sub [4, 5, 6, 7, 8, 2, 0] rfl (hkH v2 v3 v4 v5 (v6 + (-1)) (v7 + 1) M23)
        · refine tq_ldc2 (z := (-1000000)) (E := E_Code_value d) (pc := 92) (cks_at k_Code_value 44 rfl rfl) cst_Code_42 ?_
          refine tq_goto (tgt := 100) (E := E_Code_value d) (pc := 95) (cks_at k_Code_value 45 rfl rfl) (by decide) ?_
          refine tq_l2i (E := E_Code_value d) (pc := 100) (cks_at k_Code_value 47 rfl rfl) ?_
          refine tq_S3 (E := E_Code_value d) (pc := 101) (cks_at k_Code_value 48 rfl rfl) mk_BT_setCell lk_Code_32 (Nat.le_of_ble_eq_true rfl) (c_BT_setCell (d + 1) (ptr this 1) (sa_Code_1 hthis) ((v6 + (-1)) - 1) ((-1000000)) M21) (k_V fun M24 => ?_)
          refine tq_goto (tgt := 253) (E := E_Code_value d) (pc := 104) (cks_at k_Code_value 49 rfl rfl) (by decide) ?_
          refine tq_iinc 8 (E := E_Code_value d) (pc := 253) (cks_at k_Code_value 122 rfl rfl) rfl (show 7 < 12 by decide) rfl ?_
          refine tq_goto (tgt := 6) (E := E_Code_value d) (pc := 256) (cks_at k_Code_value 123 rfl rfl) (by decide) ?_
          exact tq_sub [4, 5, 6, 7, 8, 2, 0] rfl (hkH v2 v3 v4 v5 (v6 + (-1)) (v7 + 1) M24)
      · refine tq_ldc2 (z := 1000000) (E := E_Code_value d) (pc := 77) (cks_at k_Code_value 38 rfl rfl) cst_Code_40 ?_
        refine tq_goto (tgt := 100) (E := E_Code_value d) (pc := 80) (cks_at k_Code_value 39 rfl rfl) (by decide) ?_
        refine tq_l2i (E := E_Code_value d) (pc := 100) (cks_at k_Code_value 47 rfl rfl) ?_
        refine tq_S3 (E := E_Code_value d) (pc := 101) (cks_at k_Code_value 48 rfl rfl) mk_BT_setCell lk_Code_32 (Nat.le_of_ble_eq_true rfl) (c_BT_setCell (d + 1) (ptr this 1) (sa_Code_1 hthis) ((v6 + (-1)) - 1) 1000000 M21) (k_V fun M25 => ?_)
        refine tq_goto (tgt := 253) (E := E_Code_value d) (pc := 104) (cks_at k_Code_value 49 rfl rfl) (by decide) ?_
        refine tq_iinc 8 (E := E_Code_value d) (pc := 253) (cks_at k_Code_value 122 rfl rfl) rfl (show 7 < 12 by decide) rfl ?_
        refine tq_goto (tgt := 6) (E := E_Code_value d) (pc := 256) (cks_at k_Code_value 123 rfl rfl) (by decide) ?_
        exact tq_sub [4, 5, 6, 7, 8, 2, 0] rfl (hkH v2 v3 v4 v5 (v6 + (-1)) (v7 + 1) M25)
def f_Code_value_L6 (this : Nat) : Nat → Int × Int × Int × Int × Int × Int × Mm → Option (Int × Mm) := lp fun kH s => f_Code_value_B6 this (fun v2 v3 v4 v5 v6 v7 M => kH (v2, v3, v4, v5, v6, v7, M)) s.1 s.2.1 s.2.2.1 s.2.2.2.1 s.2.2.2.2.1 s.2.2.2.2.2.1 s.2.2.2.2.2.2
set_option maxRecDepth 20000 in
set_option maxHeartbeats 4000000 in
theorem w_Code_value_L6 (d : Nat) (this : Nat) (hthis : isCode this) (n : Nat) (s : Int × Int × Int × Int × Int × Int × Mm) : T (E_Code_value d) injI 6 [(0, .ref this), (2, vI s.1), (3, vI s.2.1), (4, vI s.2.2.1), (5, vI s.2.2.2.1), (6, vI s.2.2.2.2.1), (7, vI s.2.2.2.2.2.1)] [] s.2.2.2.2.2.2 (f_Code_value_L6 this n s) :=
  tq_lp (fun s => [(0, .ref this), (2, vI s.1), (3, vI s.2.1), (4, vI s.2.2.1), (5, vI s.2.2.2.1), (6, vI s.2.2.2.2.1), (7, vI s.2.2.2.2.2.1)]) (fun s => s.2.2.2.2.2.2) (fun kH hH s => w_Code_value_B6 d this hthis (fun v2 v3 v4 v5 v6 v7 M => kH (v2, v3, v4, v5, v6, v7, M)) (fun v2 v3 v4 v5 v6 v7 M => hH (v2, v3, v4, v5, v6, v7, M)) s.1 s.2.1 s.2.2.1 s.2.2.2.1 s.2.2.2.2.1 s.2.2.2.2.2.1 s.2.2.2.2.2.2) n s
def f_Code_value (this : Nat) (v1 : Int) (v2 : Int) (v3 : Int) (v4 : Int) (v5 : Int) (M : Mm) : Option (Int × Mm) :=
  f_Code_value_L6 this FU (v2, v3, v4, v5, 0, v1, M)
set_option maxRecDepth 20000 in
set_option maxHeartbeats 4000000 in
theorem c_Code_value (d : Nat) (this : Nat) (hthis : isCode this) (v1 : Int) (v2 : Int) (v3 : Int) (v4 : Int) (v5 : Int) (M : Mm) (Q : Option Value → Mm → Prop) (h : sat injI (f_Code_value this v1 v2 v3 v4 v5 M) Q) : Ct (d + 3) y_Code_value [.ref this, vI v1, vI v2, vI v3, vI v4, vI v5] M Q := by
  refine ct_in (d := d + 2) mk_Code_value (Nat.le_of_ble_eq_true rfl) (?_ : T (E_Code_value d) injI 0 [(0, .ref this), (1, vI v1), (2, vI v2), (3, vI v3), (4, vI v4), (5, vI v5)] [] M (f_Code_value this v1 v2 v3 v4 v5 M)) h
  unfold f_Code_value
  refine tq_iconst (E := E_Code_value d) (pc := 0) (cks_at k_Code_value 0 rfl rfl) ?_
  refine tq_istore (E := E_Code_value d) (pc := 1) (cks_at k_Code_value 1 rfl rfl) (show 6 < 12 by decide) rfl ?_
  refine tq_iload_n 2 (E := E_Code_value d) (pc := 3) (cks_at k_Code_value 2 rfl rfl) rfl ?_
  refine tq_istore (E := E_Code_value d) (pc := 4) (cks_at k_Code_value 3 rfl rfl) (show 7 < 12 by decide) rfl ?_
  exact tq_sub [2, 4, 5, 6, 7, 1, 0] rfl (w_Code_value_L6 d this hthis FU (v2, v3, v4, v5, 0, v1, M))
abbrev E_Widths_widthBy (d : Nat) : Ev := (Ct (d + 3), "BreathTown$Widths", prog_12_method_6_code, 9, False, 0, (fun _ => 0), (Option.some Jvm.ClassFile.FieldType.int))
def f_Widths_widthBy_J153 (v4 v5 s0 : Int) (M : Mm) : Option (Int × Mm) :=
  gd (0 ≤ i32 v4 ∧ i32 v4 < ((6144 : Nat) : Int)) <|
  bd (up M 47 (i32 v4).toNat ((shl64 v5 7) + (i32 s0))) (fun M11 =>
  some (s0, M11))
set_option maxRecDepth 20000 in
set_option maxHeartbeats 4000000 in
theorem w_Widths_widthBy_J153 (d : Nat) (v4 v5 s0 : Int) (M : Mm) : T (E_Widths_widthBy d) injI 153 [(0, .ref 46), (4, vI v4), (5, vJ v5)] [vI s0] M (f_Widths_widthBy_J153 v4 v5 s0 M) := by
  unfold f_Widths_widthBy_J153
  refine tq_istore (E := E_Widths_widthBy d) (pc := 153) (cks_at k_Widths_widthBy 83 rfl rfl) (show 8 < 9 by decide) rfl ?_
  refine tq_aload_n 1 (E := E_Widths_widthBy d) (pc := 155) (cks_at k_Widths_widthBy 84 rfl rfl) rfl ?_
  refine tq_getR (j := 47) (E := E_Widths_widthBy d) (pc := 156) (cks_at k_Widths_widthBy 85 rfl rfl) fo_Widths_11 so_46 rfl sp_46_2 ?_
  refine tq_iload 2 (E := E_Widths_widthBy d) (pc := 159) (cks_at k_Widths_widthBy 86 rfl rfl) rfl ?_
  refine tq_lload 3 (E := E_Widths_widthBy d) (pc := 161) (cks_at k_Widths_widthBy 87 rfl rfl) rfl ?_
  refine tq_bipush (E := E_Widths_widthBy d) (pc := 163) (cks_at k_Widths_widthBy 88 rfl rfl) (by decide) (by decide) ?_
  refine tq_lshl (E := E_Widths_widthBy d) (pc := 165) (cks_at k_Widths_widthBy 89 rfl rfl) ?_
  refine tq_iload 0 (E := E_Widths_widthBy d) (pc := 166) (cks_at k_Widths_widthBy 90 rfl rfl) rfl ?_
  refine tq_i2l (E := E_Widths_widthBy d) (pc := 168) (cks_at k_Widths_widthBy 91 rfl rfl) ?_
  refine tq_ladd (E := E_Widths_widthBy d) (pc := 169) (cks_at k_Widths_widthBy 92 rfl rfl) ?_
  refine tq_last (E := E_Widths_widthBy d) (pc := 170) (cks_at k_Widths_widthBy 93 rfl rfl) sa_47 sn_47 (fun M11 => ?_)
  refine tq_iload 0 (E := E_Widths_widthBy d) (pc := 171) (cks_at k_Widths_widthBy 94 rfl rfl) rfl ?_
  exact tq_iret (E := E_Widths_widthBy d) (pc := 173) (cks_at k_Widths_widthBy 95 rfl rfl) rfl
def f_Widths_widthBy (v1 : Int) (v2 : Int) (v3 : Int) (M : Mm) : Option (Int × Mm) :=
  if i32 ((v1 * 512) + (and32 v3 511)) < 0 then
    some (0, M)
  else
    if i32 ((v1 * 512) + (and32 v3 511)) < i32 (((6144 : Nat) : Int)) then
      gd (0 ≤ i32 ((v1 * 512) + (and32 v3 511)) ∧ i32 ((v1 * 512) + (and32 v3 511)) < ((6144 : Nat) : Int)) <|
      if ¬ i32 (cmp64 (shr64 (M 47 (i32 ((v1 * 512) + (and32 v3 511))).toNat) 7) ((shl64 ((shl64 (M 46 3) 6) + (i32 v2)) 20) + (i32 v3))) = 0 then
        bI (f_BT_cell 11 v1 M) (fun r2 M1 =>
        bI (f_BT_cell 12 v1 M1) (fun r4 M3 =>
        bI (f_Widths_tideBy v1 v2 v3 M3) (fun r6 M5 =>
        bI (f_BT_cell 9 v1 M5) (fun r8 M7 =>
        bI (f_Code_value 16 r2 r4 r6 r8 v3 M7) (fun r10 M9 =>
        if 0 ≤ i32 r10 then
          if i32 r10 ≤ i32 99 then
            f_Widths_widthBy_J153 ((v1 * 512) + (and32 v3 511)) ((shl64 ((shl64 (M 46 3) 6) + (i32 v2)) 20) + (i32 v3)) r10 M9
          else
            f_Widths_widthBy_J153 ((v1 * 512) + (and32 v3 511)) ((shl64 ((shl64 (M 46 3) 6) + (i32 v2)) 20) + (i32 v3)) 99 M9
        else
          f_Widths_widthBy_J153 ((v1 * 512) + (and32 v3 511)) ((shl64 ((shl64 (M 46 3) 6) + (i32 v2)) 20) + (i32 v3)) 0 M9)))))
      else
        gd (0 ≤ i32 ((v1 * 512) + (and32 v3 511)) ∧ i32 ((v1 * 512) + (and32 v3 511)) < ((6144 : Nat) : Int)) <|
        some (and64 (M 47 (i32 ((v1 * 512) + (and32 v3 511))).toNat) 127, M)
    else
      some (0, M)
set_option maxRecDepth 20000 in
set_option maxHeartbeats 4000000 in
theorem c_Widths_widthBy (d : Nat) (v1 : Int) (v2 : Int) (v3 : Int) (M : Mm) (Q : Option Value → Mm → Prop) (h : sat injI (f_Widths_widthBy v1 v2 v3 M) Q) : Ct (d + 4) y_Widths_widthBy [.ref 46, vI v1, vI v2, vI v3] M Q := by
  refine ct_in (d := d + 3) mk_Widths_widthBy (Nat.le_of_ble_eq_true rfl) (?_ : T (E_Widths_widthBy d) injI 0 [(0, .ref 46), (1, vI v1), (2, vI v2), (3, vI v3)] [] M (f_Widths_widthBy v1 v2 v3 M)) h
  unfold f_Widths_widthBy
  refine tq_iload_n 1 (E := E_Widths_widthBy d) (pc := 0) (cks_at k_Widths_widthBy 0 rfl rfl) rfl ?_
  refine tq_sipush (E := E_Widths_widthBy d) (pc := 1) (cks_at k_Widths_widthBy 1 rfl rfl) (by decide) (by decide) ?_
  refine tq_imul (E := E_Widths_widthBy d) (pc := 4) (cks_at k_Widths_widthBy 2 rfl rfl) ?_
  refine tq_iload_n 3 (E := E_Widths_widthBy d) (pc := 5) (cks_at k_Widths_widthBy 3 rfl rfl) rfl ?_
  refine tq_sipush (E := E_Widths_widthBy d) (pc := 6) (cks_at k_Widths_widthBy 4 rfl rfl) (by decide) (by decide) ?_
  refine tq_iand (E := E_Widths_widthBy d) (pc := 9) (cks_at k_Widths_widthBy 5 rfl rfl) ?_
  refine tq_iadd (E := E_Widths_widthBy d) (pc := 10) (cks_at k_Widths_widthBy 6 rfl rfl) ?_
  refine tq_istore (E := E_Widths_widthBy d) (pc := 11) (cks_at k_Widths_widthBy 7 rfl rfl) (show 4 < 9 by decide) rfl ?_
  refine tq_iload 0 (E := E_Widths_widthBy d) (pc := 13) (cks_at k_Widths_widthBy 8 rfl rfl) rfl ?_
  refine tq_if_lt (E := E_Widths_widthBy d) (pc := 15) (tgt := 28) (cks_at k_Widths_widthBy 9 rfl rfl) (by decide) ?_ ?_
  · refine tq_iconst (E := E_Widths_widthBy d) (pc := 28) (cks_at k_Widths_widthBy 15 rfl rfl) ?_
    exact tq_iret (E := E_Widths_widthBy d) (pc := 29) (cks_at k_Widths_widthBy 16 rfl rfl) rfl
  · refine tq_iload 0 (E := E_Widths_widthBy d) (pc := 18) (cks_at k_Widths_widthBy 10 rfl rfl) rfl ?_
    refine tq_aload_n 1 (E := E_Widths_widthBy d) (pc := 20) (cks_at k_Widths_widthBy 11 rfl rfl) rfl ?_
    refine tq_getR (j := 47) (E := E_Widths_widthBy d) (pc := 21) (cks_at k_Widths_widthBy 12 rfl rfl) fo_Widths_11 so_46 rfl sp_46_2 ?_
    refine tq_alen (E := E_Widths_widthBy d) (pc := 24) (cks_at k_Widths_widthBy 13 rfl rfl) ⟨by rw [(sa_47).1]; decide, by rw [(sa_47).1]; decide, (sa_47).2⟩ sn_47 ?_
    refine tq_icmp_lt (E := E_Widths_widthBy d) (pc := 25) (tgt := 30) (cks_at k_Widths_widthBy 14 rfl rfl) (by decide) ?_ ?_
    · refine tq_aload_n 1 (E := E_Widths_widthBy d) (pc := 30) (cks_at k_Widths_widthBy 17 rfl rfl) rfl ?_
      refine tq_getJ (E := E_Widths_widthBy d) (pc := 31) (cks_at k_Widths_widthBy 18 rfl rfl) fo_Widths_23 so_46 rfl ?_
      refine tq_bipush (E := E_Widths_widthBy d) (pc := 34) (cks_at k_Widths_widthBy 19 rfl rfl) (by decide) (by decide) ?_
      refine tq_lshl (E := E_Widths_widthBy d) (pc := 36) (cks_at k_Widths_widthBy 20 rfl rfl) ?_
      refine tq_iload_n 3 (E := E_Widths_widthBy d) (pc := 37) (cks_at k_Widths_widthBy 21 rfl rfl) rfl ?_
      refine tq_i2l (E := E_Widths_widthBy d) (pc := 38) (cks_at k_Widths_widthBy 22 rfl rfl) ?_
      refine tq_ladd (E := E_Widths_widthBy d) (pc := 39) (cks_at k_Widths_widthBy 23 rfl rfl) ?_
      refine tq_bipush (E := E_Widths_widthBy d) (pc := 40) (cks_at k_Widths_widthBy 24 rfl rfl) (by decide) (by decide) ?_
      refine tq_lshl (E := E_Widths_widthBy d) (pc := 42) (cks_at k_Widths_widthBy 25 rfl rfl) ?_
      refine tq_iload_n 4 (E := E_Widths_widthBy d) (pc := 43) (cks_at k_Widths_widthBy 26 rfl rfl) rfl ?_
      refine tq_i2l (E := E_Widths_widthBy d) (pc := 44) (cks_at k_Widths_widthBy 27 rfl rfl) ?_
      refine tq_ladd (E := E_Widths_widthBy d) (pc := 45) (cks_at k_Widths_widthBy 28 rfl rfl) ?_
      refine tq_lstore (E := E_Widths_widthBy d) (pc := 46) (cks_at k_Widths_widthBy 29 rfl rfl) (show 5 + 1 < 9 by decide) rfl ?_
      refine tq_aload_n 2 (E := E_Widths_widthBy d) (pc := 48) (cks_at k_Widths_widthBy 30 rfl rfl) rfl ?_
      refine tq_getR (j := 47) (E := E_Widths_widthBy d) (pc := 49) (cks_at k_Widths_widthBy 31 rfl rfl) fo_Widths_11 so_46 rfl sp_46_2 ?_
      refine tq_iload 1 (E := E_Widths_widthBy d) (pc := 52) (cks_at k_Widths_widthBy 32 rfl rfl) rfl ?_
      refine tq_lald (E := E_Widths_widthBy d) (pc := 54) (cks_at k_Widths_widthBy 33 rfl rfl) sa_47 sn_47 ?_
      refine tq_bipush (E := E_Widths_widthBy d) (pc := 55) (cks_at k_Widths_widthBy 34 rfl rfl) (by decide) (by decide) ?_
      refine tq_lshr (E := E_Widths_widthBy d) (pc := 57) (cks_at k_Widths_widthBy 35 rfl rfl) ?_
      refine tq_lload 0 (E := E_Widths_widthBy d) (pc := 58) (cks_at k_Widths_widthBy 36 rfl rfl) rfl ?_
      refine tq_lcmp (E := E_Widths_widthBy d) (pc := 60) (cks_at k_Widths_widthBy 37 rfl rfl) ?_
      refine tq_if_ne (E := E_Widths_widthBy d) (pc := 61) (tgt := 77) (cks_at k_Widths_widthBy 38 rfl rfl) (by decide) ?_ ?_
      · refine tq_aload_n 2 (E := E_Widths_widthBy d) (pc := 77) (cks_at k_Widths_widthBy 47 rfl rfl) rfl ?_
        refine tq_getR (j := 3) (E := E_Widths_widthBy d) (pc := 78) (cks_at k_Widths_widthBy 48 rfl rfl) fo_Widths_15 so_46 rfl sp_46_0 ?_
        refine tq_getR (j := 16) (E := E_Widths_widthBy d) (pc := 81) (cks_at k_Widths_widthBy 49 rfl rfl) fo_Widths_57 so_3 rfl sp_3_12 ?_
        refine tq_aload_n 2 (E := E_Widths_widthBy d) (pc := 84) (cks_at k_Widths_widthBy 50 rfl rfl) rfl ?_
        refine tq_getR (j := 3) (E := E_Widths_widthBy d) (pc := 85) (cks_at k_Widths_widthBy 51 rfl rfl) fo_Widths_15 so_46 rfl sp_46_0 ?_
        refine tq_getR (j := 11) (E := E_Widths_widthBy d) (pc := 88) (cks_at k_Widths_widthBy 52 rfl rfl) fo_Widths_61 so_3 rfl sp_3_7 ?_
        refine tq_iload_n 3 (E := E_Widths_widthBy d) (pc := 91) (cks_at k_Widths_widthBy 53 rfl rfl) rfl ?_
        refine tq_S2 (E := E_Widths_widthBy d) (pc := 92) (cks_at k_Widths_widthBy 54 rfl rfl) mk_BT_cell lk_Widths_33 (Nat.le_of_ble_eq_true rfl) (c_BT_cell (d + 2) 11 sa_11 v1 M) (k_I fun r2 M1 => ?_)
        refine tq_aload_n 2 (E := E_Widths_widthBy d) (pc := 95) (cks_at k_Widths_widthBy 55 rfl rfl) rfl ?_
        refine tq_getR (j := 3) (E := E_Widths_widthBy d) (pc := 96) (cks_at k_Widths_widthBy 56 rfl rfl) fo_Widths_15 so_46 rfl sp_46_0 ?_
        refine tq_getR (j := 12) (E := E_Widths_widthBy d) (pc := 99) (cks_at k_Widths_widthBy 57 rfl rfl) fo_Widths_64 so_3 rfl sp_3_8 ?_
        refine tq_iload_n 3 (E := E_Widths_widthBy d) (pc := 102) (cks_at k_Widths_widthBy 58 rfl rfl) rfl ?_
        refine tq_S2 (E := E_Widths_widthBy d) (pc := 103) (cks_at k_Widths_widthBy 59 rfl rfl) mk_BT_cell lk_Widths_33 (Nat.le_of_ble_eq_true rfl) (c_BT_cell (d + 2) 12 sa_12 v1 M1) (k_I fun r4 M3 => ?_)
        refine tq_aload_n 2 (E := E_Widths_widthBy d) (pc := 106) (cks_at k_Widths_widthBy 60 rfl rfl) rfl ?_
        refine tq_iload_n 3 (E := E_Widths_widthBy d) (pc := 107) (cks_at k_Widths_widthBy 61 rfl rfl) rfl ?_
        refine tq_iload_n 4 (E := E_Widths_widthBy d) (pc := 108) (cks_at k_Widths_widthBy 62 rfl rfl) rfl ?_
        refine tq_iload_n 5 (E := E_Widths_widthBy d) (pc := 109) (cks_at k_Widths_widthBy 63 rfl rfl) rfl ?_
        refine tq_V3 (E := E_Widths_widthBy d) (pc := 110) (cks_at k_Widths_widthBy 64 rfl rfl) mk_Widths_tideBy lk_Widths_48 rc_46 (Nat.le_of_ble_eq_true rfl) (c_Widths_tideBy (d + 1) v1 v2 v3 M3) (k_I fun r6 M5 => ?_)
        refine tq_aload_n 2 (E := E_Widths_widthBy d) (pc := 113) (cks_at k_Widths_widthBy 65 rfl rfl) rfl ?_
        refine tq_getR (j := 3) (E := E_Widths_widthBy d) (pc := 114) (cks_at k_Widths_widthBy 66 rfl rfl) fo_Widths_15 so_46 rfl sp_46_0 ?_
        refine tq_getR (j := 9) (E := E_Widths_widthBy d) (pc := 117) (cks_at k_Widths_widthBy 67 rfl rfl) fo_Widths_27 so_3 rfl sp_3_5 ?_
        refine tq_iload_n 3 (E := E_Widths_widthBy d) (pc := 120) (cks_at k_Widths_widthBy 68 rfl rfl) rfl ?_
        refine tq_S2 (E := E_Widths_widthBy d) (pc := 121) (cks_at k_Widths_widthBy 69 rfl rfl) mk_BT_cell lk_Widths_33 (Nat.le_of_ble_eq_true rfl) (c_BT_cell (d + 2) 9 sa_9 v1 M5) (k_I fun r8 M7 => ?_)
        refine tq_iload_n 5 (E := E_Widths_widthBy d) (pc := 124) (cks_at k_Widths_widthBy 70 rfl rfl) rfl ?_
        refine tq_V5 (E := E_Widths_widthBy d) (pc := 125) (cks_at k_Widths_widthBy 71 rfl rfl) mk_Code_value lk_Widths_67 (isCode_rc (Or.inl rfl)) (Nat.le_of_ble_eq_true rfl) (c_Code_value (d + 0) 16 (Or.inl rfl) r2 r4 r6 r8 v3 M7) (k_I fun r10 M9 => ?_)
        refine tq_istore (E := E_Widths_widthBy d) (pc := 128) (cks_at k_Widths_widthBy 72 rfl rfl) (show 7 < 9 by decide) rfl ?_
        refine tq_iload 0 (E := E_Widths_widthBy d) (pc := 130) (cks_at k_Widths_widthBy 73 rfl rfl) rfl ?_
        refine tq_if_ge (E := E_Widths_widthBy d) (pc := 132) (tgt := 139) (cks_at k_Widths_widthBy 74 rfl rfl) (by decide) ?_ ?_
        · refine tq_iload 0 (E := E_Widths_widthBy d) (pc := 139) (cks_at k_Widths_widthBy 77 rfl rfl) rfl ?_
          refine tq_bipush (E := E_Widths_widthBy d) (pc := 141) (cks_at k_Widths_widthBy 78 rfl rfl) (by decide) (by decide) ?_
          refine tq_icmp_le (E := E_Widths_widthBy d) (pc := 143) (tgt := 151) (cks_at k_Widths_widthBy 79 rfl rfl) (by decide) ?_ ?_
          · refine tq_iload 0 (E := E_Widths_widthBy d) (pc := 151) (cks_at k_Widths_widthBy 82 rfl rfl) rfl ?_
            exact tq_sub [3, 2, 1] rfl (w_Widths_widthBy_J153 d ((v1 * 512) + (and32 v3 511)) ((shl64 ((shl64 (M 46 3) 6) + (i32 v2)) 20) + (i32 v3)) r10 M9)
          · refine tq_bipush (E := E_Widths_widthBy d) (pc := 146) (cks_at k_Widths_widthBy 80 rfl rfl) (by decide) (by decide) ?_
            refine tq_goto (tgt := 153) (E := E_Widths_widthBy d) (pc := 148) (cks_at k_Widths_widthBy 81 rfl rfl) (by decide) ?_
            exact tq_sub [3, 2, 1] rfl (w_Widths_widthBy_J153 d ((v1 * 512) + (and32 v3 511)) ((shl64 ((shl64 (M 46 3) 6) + (i32 v2)) 20) + (i32 v3)) 99 M9)
        · refine tq_iconst (E := E_Widths_widthBy d) (pc := 135) (cks_at k_Widths_widthBy 75 rfl rfl) ?_
          refine tq_goto (tgt := 153) (E := E_Widths_widthBy d) (pc := 136) (cks_at k_Widths_widthBy 76 rfl rfl) (by decide) ?_
          exact tq_sub [3, 2, 1] rfl (w_Widths_widthBy_J153 d ((v1 * 512) + (and32 v3 511)) ((shl64 ((shl64 (M 46 3) 6) + (i32 v2)) 20) + (i32 v3)) 0 M9)
      · refine tq_aload_n 2 (E := E_Widths_widthBy d) (pc := 64) (cks_at k_Widths_widthBy 39 rfl rfl) rfl ?_
        refine tq_getR (j := 47) (E := E_Widths_widthBy d) (pc := 65) (cks_at k_Widths_widthBy 40 rfl rfl) fo_Widths_11 so_46 rfl sp_46_2 ?_
        refine tq_iload 1 (E := E_Widths_widthBy d) (pc := 68) (cks_at k_Widths_widthBy 41 rfl rfl) rfl ?_
        refine tq_lald (E := E_Widths_widthBy d) (pc := 70) (cks_at k_Widths_widthBy 42 rfl rfl) sa_47 sn_47 ?_
        refine tq_ldc2 (z := 127) (E := E_Widths_widthBy d) (pc := 71) (cks_at k_Widths_widthBy 43 rfl rfl) cst_Widths_55 ?_
        refine tq_land (E := E_Widths_widthBy d) (pc := 74) (cks_at k_Widths_widthBy 44 rfl rfl) ?_
        refine tq_l2i (E := E_Widths_widthBy d) (pc := 75) (cks_at k_Widths_widthBy 45 rfl rfl) ?_
        exact tq_iret (E := E_Widths_widthBy d) (pc := 76) (cks_at k_Widths_widthBy 46 rfl rfl) rfl
    · refine tq_iconst (E := E_Widths_widthBy d) (pc := 28) (cks_at k_Widths_widthBy 15 rfl rfl) ?_
      exact tq_iret (E := E_Widths_widthBy d) (pc := 29) (cks_at k_Widths_widthBy 16 rfl rfl) rfl
