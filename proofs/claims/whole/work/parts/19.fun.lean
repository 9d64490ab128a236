abbrev E_Ways_paradeHour (d : Nat) : Ev := (Ct (d + 7), "BreathTown$Ways", prog_11_method_18_code, 5, False, 0, (fun _ => 0), (Option.some Jvm.ClassFile.FieldType.int))
def f_Ways_paradeHour_B21 (kH : Int → Int → Int → Mm → Option (Int × Mm)) (v2 v3 v4 : Int) (M : Mm) : Option (Int × Mm) :=
  if i32 ((M 39 8) + 400) < i32 v4 then
    some ((-1), M)
  else
    bI (f_Ways_canParade v3 v2 v4 M) (fun r4 M3 =>
    if i32 r4 = 0 then
      kH v2 v3 (v4 + 1) M3
    else
      some (v4, M3))
set_option maxRecDepth 20000 in
set_option maxHeartbeats 4000000 in
theorem w_Ways_paradeHour_B21 (d : Nat) (kH : Int → Int → Int → Mm → Option (Int × Mm)) (hkH : ∀ (v2 v3 v4 : Int) (M : Mm), T (E_Ways_paradeHour d) injI 21 [(0, .ref 48), (2, vI v2), (3, vI v3), (4, vI v4)] [] M (kH v2 v3 v4 M)) (v2 v3 v4 : Int) (M : Mm) : T (E_Ways_paradeHour d) injI 21 [(0, .ref 48), (2, vI v2), (3, vI v3), (4, vI v4)] [] M (f_Ways_paradeHour_B21 kH v2 v3 v4 M) := by
  unfold f_Ways_paradeHour_B21
  refine tq_iload 3 (E := E_Ways_paradeHour d) (pc := 21) (cks_at k_Ways_paradeHour 10 rfl rfl) rfl ?_
  refine tq_aload_n 0 (E := E_Ways_paradeHour d) (pc := 23) (cks_at k_Ways_paradeHour 11 rfl rfl) rfl ?_
  refine tq_getR (j := 39) (E := E_Ways_paradeHour d) (pc := 24) (cks_at k_Ways_paradeHour 12 rfl rfl) fo_Ways_34 so_48 rfl sp_48_1 ?_
  refine tq_getI (E := E_Ways_paradeHour d) (pc := 27) (cks_at k_Ways_paradeHour 13 rfl rfl) fo_Ways_144 so_39 rfl (by decide) ?_
  refine tq_sipush (E := E_Ways_paradeHour d) (pc := 30) (cks_at k_Ways_paradeHour 14 rfl rfl) (by decide) (by decide) ?_
  refine tq_iadd (E := E_Ways_paradeHour d) (pc := 33) (cks_at k_Ways_paradeHour 15 rfl rfl) ?_
  refine tq_icmp_gt (E := E_Ways_paradeHour d) (pc := 34) (tgt := 57) (cks_at k_Ways_paradeHour 16 rfl rfl) (by decide) ?_ ?_
  · refine tq_iconst (E := E_Ways_paradeHour d) (pc := 57) (cks_at k_Ways_paradeHour 27 rfl rfl) ?_
    exact tq_iret (E := E_Ways_paradeHour d) (pc := 58) (cks_at k_Ways_paradeHour 28 rfl rfl) rfl
  · refine tq_aload_n 0 (E := E_Ways_paradeHour d) (pc := 37) (cks_at k_Ways_paradeHour 17 rfl rfl) rfl ?_
    refine tq_iload_n 2 (E := E_Ways_paradeHour d) (pc := 38) (cks_at k_Ways_paradeHour 18 rfl rfl) rfl ?_
    refine tq_iload_n 1 (E := E_Ways_paradeHour d) (pc := 39) (cks_at k_Ways_paradeHour 19 rfl rfl) rfl ?_
    refine tq_iload 3 (E := E_Ways_paradeHour d) (pc := 40) (cks_at k_Ways_paradeHour 20 rfl rfl) rfl ?_
    refine tq_V3 (E := E_Ways_paradeHour d) (pc := 42) (cks_at k_Ways_paradeHour 21 rfl rfl) mk_Ways_canParade lk_Ways_147 rc_48 (Nat.le_of_ble_eq_true rfl) (c_Ways_canParade (d + 0) v3 v2 v4 M) (k_I fun r4 M3 => ?_)
    refine tq_if_eq (E := E_Ways_paradeHour d) (pc := 45) (tgt := 51) (cks_at k_Ways_paradeHour 22 rfl rfl) (by decide) ?_ ?_
    · refine tq_iinc 3 (E := E_Ways_paradeHour d) (pc := 51) (cks_at k_Ways_paradeHour 25 rfl rfl) rfl (show 4 < 5 by decide) rfl ?_
      refine tq_goto (tgt := 21) (E := E_Ways_paradeHour d) (pc := 54) (cks_at k_Ways_paradeHour 26 rfl rfl) (by decide) ?_
      exact tq_sub [1, 2, 3, 0] rfl (hkH v2 v3 (v4 + 1) M3)
    · refine tq_iload 3 (E := E_Ways_paradeHour d) (pc := 48) (cks_at k_Ways_paradeHour 23 rfl rfl) rfl ?_
      exact tq_iret (E := E_Ways_paradeHour d) (pc := 50) (cks_at k_Ways_paradeHour 24 rfl rfl) rfl
def f_Ways_paradeHour_L21 : Nat → Int × Int × Int × Mm → Option (Int × Mm) := lp fun kH s => f_Ways_paradeHour_B21 (fun v2 v3 v4 M => kH (v2, v3, v4, M)) s.1 s.2.1 s.2.2.1 s.2.2.2
set_option maxRecDepth 20000 in
set_option maxHeartbeats 4000000 in
theorem w_Ways_paradeHour_L21 (d : Nat) (n : Nat) (s : Int × Int × Int × Mm) : T (E_Ways_paradeHour d) injI 21 [(0, .ref 48), (2, vI s.1), (3, vI s.2.1), (4, vI s.2.2.1)] [] s.2.2.2 (f_Ways_paradeHour_L21 n s) :=
  tq_lp (fun s => [(0, .ref 48), (2, vI s.1), (3, vI s.2.1), (4, vI s.2.2.1)]) (fun s => s.2.2.2) (fun kH hH s => w_Ways_paradeHour_B21 d (fun v2 v3 v4 M => kH (v2, v3, v4, M)) (fun v2 v3 v4 M => hH (v2, v3, v4, M)) s.1 s.2.1 s.2.2.1 s.2.2.2) n s
def f_Ways_paradeHour (v1 : Int) (v2 : Int) (M : Mm) : Option (Int × Mm) :=
  bI (f_BT_cell 13 v1 M) (fun r2 M1 =>
  f_Ways_paradeHour_L21 FU (v2, r2, (M1 39 8), M1))
set_option maxRecDepth 20000 in
set_option maxHeartbeats 4000000 in
theorem c_Ways_paradeHour (d : Nat) (v1 : Int) (v2 : Int) (M : Mm) (Q : Option Value → Mm → Prop) (h : sat injI (f_Ways_paradeHour v1 v2 M) Q) : Ct (d + 8) y_Ways_paradeHour [.ref 48, vI v1, vI v2] M Q := by
  refine ct_in (d := d + 7) mk_Ways_paradeHour (Nat.le_of_ble_eq_true rfl) (?_ : T (E_Ways_paradeHour d) injI 0 [(0, .ref 48), (1, vI v1), (2, vI v2)] [] M (f_Ways_paradeHour v1 v2 M)) h
  unfold f_Ways_paradeHour
  refine tq_aload_n 0 (E := E_Ways_paradeHour d) (pc := 0) (cks_at k_Ways_paradeHour 0 rfl rfl) rfl ?_
  refine tq_getR (j := 3) (E := E_Ways_paradeHour d) (pc := 1) (cks_at k_Ways_paradeHour 1 rfl rfl) fo_Ways_30 so_48 rfl sp_48_0 ?_
  refine tq_getR (j := 13) (E := E_Ways_paradeHour d) (pc := 4) (cks_at k_Ways_paradeHour 2 rfl rfl) fo_Ways_104 so_3 rfl sp_3_9 ?_
  refine tq_iload_n 1 (E := E_Ways_paradeHour d) (pc := 7) (cks_at k_Ways_paradeHour 3 rfl rfl) rfl ?_
  refine tq_S2 (E := E_Ways_paradeHour d) (pc := 8) (cks_at k_Ways_paradeHour 4 rfl rfl) mk_BT_cell lk_Ways_47 (Nat.le_of_ble_eq_true rfl) (c_BT_cell (d + 6) 13 sa_13 v1 M) (k_I fun r2 M1 => ?_)
  refine tq_istore_n (E := E_Ways_paradeHour d) (pc := 11) (cks_at k_Ways_paradeHour 5 rfl rfl) (show 3 < 5 by decide) rfl ?_
  refine tq_aload_n 1 (E := E_Ways_paradeHour d) (pc := 12) (cks_at k_Ways_paradeHour 6 rfl rfl) rfl ?_
  refine tq_getR (j := 39) (E := E_Ways_paradeHour d) (pc := 13) (cks_at k_Ways_paradeHour 7 rfl rfl) fo_Ways_34 so_48 rfl sp_48_1 ?_
  refine tq_getI (E := E_Ways_paradeHour d) (pc := 16) (cks_at k_Ways_paradeHour 8 rfl rfl) fo_Ways_144 so_39 rfl (by decide) ?_
  refine tq_istore (E := E_Ways_paradeHour d) (pc := 19) (cks_at k_Ways_paradeHour 9 rfl rfl) (show 4 < 5 by decide) rfl ?_
  exact tq_sub [2, 4, 1, 0] rfl (w_Ways_paradeHour_L21 d FU (v2, r2, (M1 39 8), M1))
abbrev E_BT_parade (d : Nat) : Ev := (Ct (d + 8), "BreathTown", prog_1_method_19_code, 3, False, 0, (fun _ => 0), (Option.some Jvm.ClassFile.FieldType.int))
def f_BT_parade (v1 : Int) (v2 : Int) (M : Mm) : Option (Int × Mm) :=
  if i32 v2 < 0 then
    some ((-1), M)
  else
    if i32 48 < i32 v2 then
      some ((-1), M)
    else
      bI (f_Ways_plan v1 M) (fun r2 M1 =>
      if ¬ i32 r2 = i32 ((-1)) then
        bI (f_Ways_paradeHour v1 v2 M1) (fun r4 M3 =>
        some (r4, M3))
      else
        some ((-1), M1))
set_option maxRecDepth 20000 in
set_option maxHeartbeats 4000000 in
theorem c_BT_parade (d : Nat) (v1 : Int) (v2 : Int) (M : Mm) (Q : Option Value → Mm → Prop) (h : sat injI (f_BT_parade v1 v2 M) Q) : Ct (d + 9) y_BT_parade [.ref 0, vI v1, vI v2] M Q := by
  refine ct_in (d := d + 8) mk_BT_parade (Nat.le_of_ble_eq_true rfl) (?_ : T (E_BT_parade d) injI 0 [(0, .ref 0), (1, vI v1), (2, vI v2)] [] M (f_BT_parade v1 v2 M)) h
  unfold f_BT_parade
  refine tq_iload_n 2 (E := E_BT_parade d) (pc := 0) (cks_at k_BT_parade 0 rfl rfl) rfl ?_
  refine tq_if_lt (E := E_BT_parade d) (pc := 1) (tgt := 22) (cks_at k_BT_parade 1 rfl rfl) (by decide) ?_ ?_
  · refine tq_iconst (E := E_BT_parade d) (pc := 22) (cks_at k_BT_parade 11 rfl rfl) ?_
    refine tq_goto (tgt := 35) (E := E_BT_parade d) (pc := 23) (cks_at k_BT_parade 12 rfl rfl) (by decide) ?_
    exact tq_iret (E := E_BT_parade d) (pc := 35) (cks_at k_BT_parade 18 rfl rfl) rfl
  · refine tq_iload_n 2 (E := E_BT_parade d) (pc := 4) (cks_at k_BT_parade 2 rfl rfl) rfl ?_
    refine tq_bipush (E := E_BT_parade d) (pc := 5) (cks_at k_BT_parade 3 rfl rfl) (by decide) (by decide) ?_
    refine tq_icmp_gt (E := E_BT_parade d) (pc := 7) (tgt := 22) (cks_at k_BT_parade 4 rfl rfl) (by decide) ?_ ?_
    · refine tq_iconst (E := E_BT_parade d) (pc := 22) (cks_at k_BT_parade 11 rfl rfl) ?_
      refine tq_goto (tgt := 35) (E := E_BT_parade d) (pc := 23) (cks_at k_BT_parade 12 rfl rfl) (by decide) ?_
      exact tq_iret (E := E_BT_parade d) (pc := 35) (cks_at k_BT_parade 18 rfl rfl) rfl
    · refine tq_aload_n 0 (E := E_BT_parade d) (pc := 10) (cks_at k_BT_parade 5 rfl rfl) rfl ?_
      refine tq_getR (j := 48) (E := E_BT_parade d) (pc := 11) (cks_at k_BT_parade 6 rfl rfl) fo_BT_58 so_0 rfl sp_0_6 ?_
      refine tq_iload_n 1 (E := E_BT_parade d) (pc := 14) (cks_at k_BT_parade 7 rfl rfl) rfl ?_
      refine tq_V1 (E := E_BT_parade d) (pc := 15) (cks_at k_BT_parade 8 rfl rfl) mk_Ways_plan lk_BT_205 rc_48 (Nat.le_of_ble_eq_true rfl) (c_Ways_plan (d + 0) v1 M) (k_I fun r2 M1 => ?_)
      refine tq_iconst (E := E_BT_parade d) (pc := 18) (cks_at k_BT_parade 9 rfl rfl) ?_
      refine tq_icmp_ne (E := E_BT_parade d) (pc := 19) (tgt := 26) (cks_at k_BT_parade 10 rfl rfl) (by decide) ?_ ?_
      · refine tq_aload_n 0 (E := E_BT_parade d) (pc := 26) (cks_at k_BT_parade 13 rfl rfl) rfl ?_
        refine tq_getR (j := 48) (E := E_BT_parade d) (pc := 27) (cks_at k_BT_parade 14 rfl rfl) fo_BT_58 so_0 rfl sp_0_6 ?_
        refine tq_iload_n 1 (E := E_BT_parade d) (pc := 30) (cks_at k_BT_parade 15 rfl rfl) rfl ?_
        refine tq_iload_n 2 (E := E_BT_parade d) (pc := 31) (cks_at k_BT_parade 16 rfl rfl) rfl ?_
        refine tq_V2 (E := E_BT_parade d) (pc := 32) (cks_at k_BT_parade 17 rfl rfl) mk_Ways_paradeHour lk_BT_230 rc_48 (Nat.le_of_ble_eq_true rfl) (c_Ways_paradeHour (d + 0) v1 v2 M1) (k_I fun r4 M3 => ?_)
        exact tq_iret (E := E_BT_parade d) (pc := 35) (cks_at k_BT_parade 18 rfl rfl) rfl
      · refine tq_iconst (E := E_BT_parade d) (pc := 22) (cks_at k_BT_parade 11 rfl rfl) ?_
        refine tq_goto (tgt := 35) (E := E_BT_parade d) (pc := 23) (cks_at k_BT_parade 12 rfl rfl) (by decide) ?_
        exact tq_iret (E := E_BT_parade d) (pc := 35) (cks_at k_BT_parade 18 rfl rfl) rfl
abbrev E_M_needed (d : Nat) : Ev := (Ct (d + 14), "BreathTownModel", prog_14_method_89_code, 4, False, 0, (fun _ => 0), (Option.some Jvm.ClassFile.FieldType.int))
def f_M_needed_B22 (kH : Int → Int → Int → Mm → Option (Int × Mm)) (v1 v2 v3 : Int) (M : Mm) : Option (Int × Mm) :=
  bI (f_M_streetMany M) (fun r6 M5 =>
  if i32 r6 ≤ i32 v3 then
    some (v2, M5)
  else
    bV (f_M_spreadsFor v1 v3 M5) (fun M7 =>
    bI (f_M_goalOf v1 M7) (fun r9 M8 =>
    gd (0 ≤ i32 r9 ∧ i32 r9 < ((9 : Nat) : Int)) <|
    if ¬ i32 (M8 110 (i32 r9).toNat) = i32 1000000 then
      kH v1 v2 (v3 + 1) M8
    else
      kH v1 (or32 v2 (shl32 1 v3)) (v3 + 1) M8)))
set_option maxRecDepth 20000 in
set_option maxHeartbeats 4000000 in
theorem w_M_needed_B22 (d : Nat) (kH : Int → Int → Int → Mm → Option (Int × Mm)) (hkH : ∀ (v1 v2 v3 : Int) (M : Mm), T (E_M_needed d) injI 22 [(0, .ref 78), (1, vI v1), (2, vI v2), (3, vI v3)] [] M (kH v1 v2 v3 M)) (v1 v2 v3 : Int) (M : Mm) : T (E_M_needed d) injI 22 [(0, .ref 78), (1, vI v1), (2, vI v2), (3, vI v3)] [] M (f_M_needed_B22 kH v1 v2 v3 M) := by
  unfold f_M_needed_B22
  refine tq_iload_n 3 (E := E_M_needed d) (pc := 22) (cks_at k_M_needed 14 rfl rfl) rfl ?_
  refine tq_aload_n 0 (E := E_M_needed d) (pc := 23) (cks_at k_M_needed 15 rfl rfl) rfl ?_
  refine tq_V0 (E := E_M_needed d) (pc := 24) (cks_at k_M_needed 16 rfl rfl) mk_M_streetMany lk_M_412 rc_78 (Nat.le_of_ble_eq_true rfl) (c_M_streetMany (d + 13) M) (k_I fun r6 M5 => ?_)
  refine tq_icmp_ge (E := E_M_needed d) (pc := 27) (tgt := 64) (cks_at k_M_needed 17 rfl rfl) (by decide) ?_ ?_
  · refine tq_iload_n 2 (E := E_M_needed d) (pc := 64) (cks_at k_M_needed 38 rfl rfl) rfl ?_
    exact tq_iret (E := E_M_needed d) (pc := 65) (cks_at k_M_needed 39 rfl rfl) rfl
  · refine tq_aload_n 0 (E := E_M_needed d) (pc := 30) (cks_at k_M_needed 18 rfl rfl) rfl ?_
    refine tq_iload_n 1 (E := E_M_needed d) (pc := 31) (cks_at k_M_needed 19 rfl rfl) rfl ?_
    refine tq_iload_n 3 (E := E_M_needed d) (pc := 32) (cks_at k_M_needed 20 rfl rfl) rfl ?_
    refine tq_V2 (E := E_M_needed d) (pc := 33) (cks_at k_M_needed 21 rfl rfl) mk_M_spreadsFor lk_M_487 rc_78 (Nat.le_of_ble_eq_true rfl) (c_M_spreadsFor (d + 2) v1 v3 M5) (k_V fun M7 => ?_)
    refine tq_aload_n 0 (E := E_M_needed d) (pc := 36) (cks_at k_M_needed 22 rfl rfl) rfl ?_
    refine tq_getR (j := 110) (E := E_M_needed d) (pc := 37) (cks_at k_M_needed 23 rfl rfl) fo_M_109 so_78 rfl sp_78_48 ?_
    refine tq_aload_n 0 (E := E_M_needed d) (pc := 40) (cks_at k_M_needed 24 rfl rfl) rfl ?_
    refine tq_iload_n 1 (E := E_M_needed d) (pc := 41) (cks_at k_M_needed 25 rfl rfl) rfl ?_
    refine tq_V1 (E := E_M_needed d) (pc := 42) (cks_at k_M_needed 26 rfl rfl) mk_M_goalOf lk_M_493 rc_78 (Nat.le_of_ble_eq_true rfl) (c_M_goalOf (d + 13) v1 M7) (k_I fun r9 M8 => ?_)
    refine tq_iald (E := E_M_needed d) (pc := 45) (cks_at k_M_needed 27 rfl rfl) sa_110 sn_110 ?_
    refine tq_ldcw (z := 1000000) (E := E_M_needed d) (pc := 46) (cks_at k_M_needed 28 rfl rfl) cst_M_459 ?_
    refine tq_icmp_ne (E := E_M_needed d) (pc := 49) (tgt := 58) (cks_at k_M_needed 29 rfl rfl) (by decide) ?_ ?_
    · refine tq_iinc 3 (E := E_M_needed d) (pc := 58) (cks_at k_M_needed 36 rfl rfl) rfl (show 3 < 4 by decide) rfl ?_
      refine tq_goto (tgt := 22) (E := E_M_needed d) (pc := 61) (cks_at k_M_needed 37 rfl rfl) (by decide) ?_
      exact tq_sub [1, 2, 3, 0] rfl (hkH v1 v2 (v3 + 1) M8)
    · refine tq_iload_n 2 (E := E_M_needed d) (pc := 52) (cks_at k_M_needed 30 rfl rfl) rfl ?_
      refine tq_iconst (E := E_M_needed d) (pc := 53) (cks_at k_M_needed 31 rfl rfl) ?_
      refine tq_iload_n 3 (E := E_M_needed d) (pc := 54) (cks_at k_M_needed 32 rfl rfl) rfl ?_
      refine tq_ishl (E := E_M_needed d) (pc := 55) (cks_at k_M_needed 33 rfl rfl) ?_
      refine tq_ior (E := E_M_needed d) (pc := 56) (cks_at k_M_needed 34 rfl rfl) ?_
      refine tq_istore_n (E := E_M_needed d) (pc := 57) (cks_at k_M_needed 35 rfl rfl) (show 2 < 4 by decide) rfl ?_
      refine tq_iinc 3 (E := E_M_needed d) (pc := 58) (cks_at k_M_needed 36 rfl rfl) rfl (show 3 < 4 by decide) rfl ?_
      refine tq_goto (tgt := 22) (E := E_M_needed d) (pc := 61) (cks_at k_M_needed 37 rfl rfl) (by decide) ?_
      exact tq_sub [2, 3, 1, 0] rfl (hkH v1 (or32 v2 (shl32 1 v3)) (v3 + 1) M8)
def f_M_needed_L22 : Nat → Int × Int × Int × Mm → Option (Int × Mm) := lp fun kH s => f_M_needed_B22 (fun v1 v2 v3 M => kH (v1, v2, v3, M)) s.1 s.2.1 s.2.2.1 s.2.2.2
set_option maxRecDepth 20000 in
set_option maxHeartbeats 4000000 in
theorem w_M_needed_L22 (d : Nat) (n : Nat) (s : Int × Int × Int × Mm) : T (E_M_needed d) injI 22 [(0, .ref 78), (1, vI s.1), (2, vI s.2.1), (3, vI s.2.2.1)] [] s.2.2.2 (f_M_needed_L22 n s) :=
  tq_lp (fun s => [(0, .ref 78), (1, vI s.1), (2, vI s.2.1), (3, vI s.2.2.1)]) (fun s => s.2.2.2) (fun kH hH s => w_M_needed_B22 d (fun v1 v2 v3 M => kH (v1, v2, v3, M)) (fun v1 v2 v3 M => hH (v1, v2, v3, M)) s.1 s.2.1 s.2.2.1 s.2.2.2) n s
def f_M_needed (v1 : Int) (M : Mm) : Option (Int × Mm) :=
  bI (f_M_isWalker v1 M) (fun r2 M1 =>
  if i32 r2 = 0 then
    some ((-1), M1)
  else
    bI (f_M_hasWay v1 M1) (fun r4 M3 =>
    if ¬ i32 r4 = 0 then
      f_M_needed_L22 FU (v1, 0, 0, M3)
    else
      some ((-1), M3)))
set_option maxRecDepth 20000 in
set_option maxHeartbeats 4000000 in
theorem c_M_needed (d : Nat) (v1 : Int) (M : Mm) (Q : Option Value → Mm → Prop) (h : sat injI (f_M_needed v1 M) Q) : Ct (d + 15) y_M_needed [.ref 78, vI v1] M Q := by
  refine ct_in (d := d + 14) mk_M_needed (Nat.le_of_ble_eq_true rfl) (?_ : T (E_M_needed d) injI 0 [(0, .ref 78), (1, vI v1)] [] M (f_M_needed v1 M)) h
  unfold f_M_needed
  refine tq_aload_n 0 (E := E_M_needed d) (pc := 0) (cks_at k_M_needed 0 rfl rfl) rfl ?_
  refine tq_iload_n 1 (E := E_M_needed d) (pc := 1) (cks_at k_M_needed 1 rfl rfl) rfl ?_
  refine tq_V1 (E := E_M_needed d) (pc := 2) (cks_at k_M_needed 2 rfl rfl) mk_M_isWalker lk_M_512 rc_78 (Nat.le_of_ble_eq_true rfl) (c_M_isWalker (d + 12) v1 M) (k_I fun r2 M1 => ?_)
  refine tq_if_eq (E := E_M_needed d) (pc := 5) (tgt := 16) (cks_at k_M_needed 3 rfl rfl) (by decide) ?_ ?_
  · refine tq_iconst (E := E_M_needed d) (pc := 16) (cks_at k_M_needed 8 rfl rfl) ?_
    exact tq_iret (E := E_M_needed d) (pc := 17) (cks_at k_M_needed 9 rfl rfl) rfl
  · refine tq_aload_n 0 (E := E_M_needed d) (pc := 8) (cks_at k_M_needed 4 rfl rfl) rfl ?_
    refine tq_iload_n 1 (E := E_M_needed d) (pc := 9) (cks_at k_M_needed 5 rfl rfl) rfl ?_
    refine tq_V1 (E := E_M_needed d) (pc := 10) (cks_at k_M_needed 6 rfl rfl) mk_M_hasWay lk_M_525 rc_78 (Nat.le_of_ble_eq_true rfl) (c_M_hasWay (d + 0) v1 M1) (k_I fun r4 M3 => ?_)
    refine tq_if_ne (E := E_M_needed d) (pc := 13) (tgt := 18) (cks_at k_M_needed 7 rfl rfl) (by decide) ?_ ?_
    · refine tq_iconst (E := E_M_needed d) (pc := 18) (cks_at k_M_needed 10 rfl rfl) ?_
      refine tq_istore_n (E := E_M_needed d) (pc := 19) (cks_at k_M_needed 11 rfl rfl) (show 2 < 4 by decide) rfl ?_
      refine tq_iconst (E := E_M_needed d) (pc := 20) (cks_at k_M_needed 12 rfl rfl) ?_
      refine tq_istore_n (E := E_M_needed d) (pc := 21) (cks_at k_M_needed 13 rfl rfl) (show 3 < 4 by decide) rfl ?_
      exact tq_sub [2, 3, 1, 0] rfl (w_M_needed_L22 d FU (v1, 0, 0, M3))
    · refine tq_iconst (E := E_M_needed d) (pc := 16) (cks_at k_M_needed 8 rfl rfl) ?_
      exact tq_iret (E := E_M_needed d) (pc := 17) (cks_at k_M_needed 9 rfl rfl) rfl
abbrev E_Ways_neededStreets (d : Nat) : Ev := (Ct (d + 7), "BreathTown$Ways", prog_11_method_17_code, 5, False, 0, (fun _ => 0), (Option.some Jvm.ClassFile.FieldType.int))
def f_Ways_neededStreets_B4 (kH : Int → Int → Int → Mm → Option (Int × Mm)) (v1 v2 v3 : Int) (M : Mm) : Option (Int × Mm) :=
  if i32 (M 48 6) ≤ i32 v3 then
    some (v2, M)
  else
    bI (f_BT_cell 50 v3 M) (fun r2 M1 =>
    bV (f_Ways_searchFor v1 r2 M1) (fun M3 =>
    bI (f_BT_cell 42 v1 M3) (fun r5 M4 =>
    bI (f_BT_cell 49 r5 M4) (fun r7 M6 =>
    if ¬ i32 r7 = i32 1000000 then
      kH v1 v2 (v3 + 1) M6
    else
      kH v1 (or32 v2 (shl32 1 r2)) (v3 + 1) M6))))
set_option maxRecDepth 20000 in
set_option maxHeartbeats 4000000 in
theorem w_Ways_neededStreets_B4 (d : Nat) (kH : Int → Int → Int → Mm → Option (Int × Mm)) (hkH : ∀ (v1 v2 v3 : Int) (M : Mm), T (E_Ways_neededStreets d) injI 4 [(0, .ref 48), (1, vI v1), (2, vI v2), (3, vI v3)] [] M (kH v1 v2 v3 M)) (v1 v2 v3 : Int) (M : Mm) : T (E_Ways_neededStreets d) injI 4 [(0, .ref 48), (1, vI v1), (2, vI v2), (3, vI v3)] [] M (f_Ways_neededStreets_B4 kH v1 v2 v3 M) := by
  unfold f_Ways_neededStreets_B4
  refine tq_iload_n 3 (E := E_Ways_neededStreets d) (pc := 4) (cks_at k_Ways_neededStreets 4 rfl rfl) rfl ?_
  refine tq_aload_n 0 (E := E_Ways_neededStreets d) (pc := 5) (cks_at k_Ways_neededStreets 5 rfl rfl) rfl ?_
  refine tq_getI (E := E_Ways_neededStreets d) (pc := 6) (cks_at k_Ways_neededStreets 6 rfl rfl) fo_Ways_73 so_48 rfl (by decide) ?_
  refine tq_icmp_ge (E := E_Ways_neededStreets d) (pc := 9) (tgt := 65) (cks_at k_Ways_neededStreets 7 rfl rfl) (by decide) ?_ ?_
  · refine tq_iload_n 2 (E := E_Ways_neededStreets d) (pc := 65) (cks_at k_Ways_neededStreets 35 rfl rfl) rfl ?_
    exact tq_iret (E := E_Ways_neededStreets d) (pc := 66) (cks_at k_Ways_neededStreets 36 rfl rfl) rfl
  · refine tq_aload_n 0 (E := E_Ways_neededStreets d) (pc := 12) (cks_at k_Ways_neededStreets 8 rfl rfl) rfl ?_
    refine tq_getR (j := 50) (E := E_Ways_neededStreets d) (pc := 13) (cks_at k_Ways_neededStreets 9 rfl rfl) fo_Ways_15 so_48 rfl sp_48_4 ?_
    refine tq_iload_n 3 (E := E_Ways_neededStreets d) (pc := 16) (cks_at k_Ways_neededStreets 10 rfl rfl) rfl ?_
    refine tq_S2 (E := E_Ways_neededStreets d) (pc := 17) (cks_at k_Ways_neededStreets 11 rfl rfl) mk_BT_cell lk_Ways_47 (Nat.le_of_ble_eq_true rfl) (c_BT_cell (d + 6) 50 sa_50 v3 M) (k_I fun r2 M1 => ?_)
    refine tq_istore (E := E_Ways_neededStreets d) (pc := 20) (cks_at k_Ways_neededStreets 12 rfl rfl) (show 4 < 5 by decide) rfl ?_
    refine tq_aload_n 1 (E := E_Ways_neededStreets d) (pc := 22) (cks_at k_Ways_neededStreets 13 rfl rfl) rfl ?_
    refine tq_iload_n 2 (E := E_Ways_neededStreets d) (pc := 23) (cks_at k_Ways_neededStreets 14 rfl rfl) rfl ?_
    refine tq_iload 0 (E := E_Ways_neededStreets d) (pc := 24) (cks_at k_Ways_neededStreets 15 rfl rfl) rfl ?_
    refine tq_V2 (E := E_Ways_neededStreets d) (pc := 26) (cks_at k_Ways_neededStreets 16 rfl rfl) mk_Ways_searchFor lk_Ways_127 rc_48 (Nat.le_of_ble_eq_true rfl) (c_Ways_searchFor (d + 0) v1 r2 M1) (k_V fun M3 => ?_)
    refine tq_aload_n 1 (E := E_Ways_neededStreets d) (pc := 29) (cks_at k_Ways_neededStreets 17 rfl rfl) rfl ?_
    refine tq_getR (j := 49) (E := E_Ways_neededStreets d) (pc := 30) (cks_at k_Ways_neededStreets 18 rfl rfl) fo_Ways_9 so_48 rfl sp_48_3 ?_
    refine tq_aload_n 1 (E := E_Ways_neededStreets d) (pc := 33) (cks_at k_Ways_neededStreets 19 rfl rfl) rfl ?_
    refine tq_getR (j := 39) (E := E_Ways_neededStreets d) (pc := 34) (cks_at k_Ways_neededStreets 20 rfl rfl) fo_Ways_34 so_48 rfl sp_48_1 ?_
    refine tq_getR (j := 42) (E := E_Ways_neededStreets d) (pc := 37) (cks_at k_Ways_neededStreets 21 rfl rfl) fo_Ways_131 so_39 rfl sp_39_3 ?_
    refine tq_iload_n 2 (E := E_Ways_neededStreets d) (pc := 40) (cks_at k_Ways_neededStreets 22 rfl rfl) rfl ?_
    refine tq_S2 (E := E_Ways_neededStreets d) (pc := 41) (cks_at k_Ways_neededStreets 23 rfl rfl) mk_BT_cell lk_Ways_47 (Nat.le_of_ble_eq_true rfl) (c_BT_cell (d + 6) 42 sa_42 v1 M3) (k_I fun r5 M4 => ?_)
    refine tq_S2 (E := E_Ways_neededStreets d) (pc := 44) (cks_at k_Ways_neededStreets 24 rfl rfl) mk_BT_cell lk_Ways_47 (Nat.le_of_ble_eq_true rfl) (c_BT_cell (d + 6) 49 sa_49 r5 M4) (k_I fun r7 M6 => ?_)
    refine tq_ldc (z := 1000000) (E := E_Ways_neededStreets d) (pc := 47) (cks_at k_Ways_neededStreets 25 rfl rfl) cst_Ways_80 ?_
    refine tq_icmp_ne (E := E_Ways_neededStreets d) (pc := 49) (tgt := 59) (cks_at k_Ways_neededStreets 26 rfl rfl) (by decide) ?_ ?_
    · refine tq_iinc 4 (E := E_Ways_neededStreets d) (pc := 59) (cks_at k_Ways_neededStreets 33 rfl rfl) rfl (show 3 < 5 by decide) rfl ?_
      refine tq_goto (tgt := 4) (E := E_Ways_neededStreets d) (pc := 62) (cks_at k_Ways_neededStreets 34 rfl rfl) (by decide) ?_
      exact tq_sub [2, 3, 4, 0] rfl (hkH v1 v2 (v3 + 1) M6)
    · refine tq_iload_n 3 (E := E_Ways_neededStreets d) (pc := 52) (cks_at k_Ways_neededStreets 27 rfl rfl) rfl ?_
      refine tq_iconst (E := E_Ways_neededStreets d) (pc := 53) (cks_at k_Ways_neededStreets 28 rfl rfl) ?_
      refine tq_iload 0 (E := E_Ways_neededStreets d) (pc := 54) (cks_at k_Ways_neededStreets 29 rfl rfl) rfl ?_
      refine tq_ishl (E := E_Ways_neededStreets d) (pc := 56) (cks_at k_Ways_neededStreets 30 rfl rfl) ?_
      refine tq_ior (E := E_Ways_neededStreets d) (pc := 57) (cks_at k_Ways_neededStreets 31 rfl rfl) ?_
      refine tq_istore_n (E := E_Ways_neededStreets d) (pc := 58) (cks_at k_Ways_neededStreets 32 rfl rfl) (show 2 < 5 by decide) rfl ?_
      refine tq_iinc 4 (E := E_Ways_neededStreets d) (pc := 59) (cks_at k_Ways_neededStreets 33 rfl rfl) rfl (show 3 < 5 by decide) rfl ?_
      refine tq_goto (tgt := 4) (E := E_Ways_neededStreets d) (pc := 62) (cks_at k_Ways_neededStreets 34 rfl rfl) (by decide) ?_
      exact tq_sub [3, 4, 1, 0] rfl (hkH v1 (or32 v2 (shl32 1 r2)) (v3 + 1) M6)
def f_Ways_neededStreets_L4 : Nat → Int × Int × Int × Mm → Option (Int × Mm) := lp fun kH s => f_Ways_neededStreets_B4 (fun v1 v2 v3 M => kH (v1, v2, v3, M)) s.1 s.2.1 s.2.2.1 s.2.2.2
set_option maxRecDepth 20000 in
set_option maxHeartbeats 4000000 in
theorem w_Ways_neededStreets_L4 (d : Nat) (n : Nat) (s : Int × Int × Int × Mm) : T (E_Ways_neededStreets d) injI 4 [(0, .ref 48), (1, vI s.1), (2, vI s.2.1), (3, vI s.2.2.1)] [] s.2.2.2 (f_Ways_neededStreets_L4 n s) :=
  tq_lp (fun s => [(0, .ref 48), (1, vI s.1), (2, vI s.2.1), (3, vI s.2.2.1)]) (fun s => s.2.2.2) (fun kH hH s => w_Ways_neededStreets_B4 d (fun v1 v2 v3 M => kH (v1, v2, v3, M)) (fun v1 v2 v3 M => hH (v1, v2, v3, M)) s.1 s.2.1 s.2.2.1 s.2.2.2) n s
def f_Ways_neededStreets (v1 : Int) (M : Mm) : Option (Int × Mm) :=
  f_Ways_neededStreets_L4 FU (v1, 0, 0, M)
set_option maxRecDepth 20000 in
set_option maxHeartbeats 4000000 in
theorem c_Ways_neededStreets (d : Nat) (v1 : Int) (M : Mm) (Q : Option Value → Mm → Prop) (h : sat injI (f_Ways_neededStreets v1 M) Q) : Ct (d + 8) y_Ways_neededStreets [.ref 48, vI v1] M Q := by
  refine ct_in (d := d + 7) mk_Ways_neededStreets (Nat.le_of_ble_eq_true rfl) (?_ : T (E_Ways_neededStreets d) injI 0 [(0, .ref 48), (1, vI v1)] [] M (f_Ways_neededStreets v1 M)) h
  unfold f_Ways_neededStreets
  refine tq_iconst (E := E_Ways_neededStreets d) (pc := 0) (cks_at k_Ways_neededStreets 0 rfl rfl) ?_
  refine tq_istore_n (E := E_Ways_neededStreets d) (pc := 1) (cks_at k_Ways_neededStreets 1 rfl rfl) (show 2 < 5 by decide) rfl ?_
  refine tq_iconst (E := E_Ways_neededStreets d) (pc := 2) (cks_at k_Ways_neededStreets 2 rfl rfl) ?_
  refine tq_istore_n (E := E_Ways_neededStreets d) (pc := 3) (cks_at k_Ways_neededStreets 3 rfl rfl) (show 3 < 5 by decide) rfl ?_
  exact tq_sub [2, 3, 1, 0] rfl (w_Ways_neededStreets_L4 d FU (v1, 0, 0, M))
abbrev E_BT_needed (d : Nat) : Ev := (Ct (d + 8), "BreathTown", prog_1_method_18_code, 2, False, 0, (fun _ => 0), (Option.some Jvm.ClassFile.FieldType.int))
def f_BT_needed (v1 : Int) (M : Mm) : Option (Int × Mm) :=
  bI (f_Ways_plan v1 M) (fun r2 M1 =>
  if ¬ i32 r2 = i32 ((-1)) then
    bI (f_Ways_neededStreets v1 M1) (fun r4 M3 =>
    some (r4, M3))
  else
    some ((-1), M1))
set_option maxRecDepth 20000 in
set_option maxHeartbeats 4000000 in
theorem c_BT_needed (d : Nat) (v1 : Int) (M : Mm) (Q : Option Value → Mm → Prop) (h : sat injI (f_BT_needed v1 M) Q) : Ct (d + 9) y_BT_needed [.ref 0, vI v1] M Q := by
  refine ct_in (d := d + 8) mk_BT_needed (Nat.le_of_ble_eq_true rfl) (?_ : T (E_BT_needed d) injI 0 [(0, .ref 0), (1, vI v1)] [] M (f_BT_needed v1 M)) h
  unfold f_BT_needed
  refine tq_aload_n 0 (E := E_BT_needed d) (pc := 0) (cks_at k_BT_needed 0 rfl rfl) rfl ?_
  refine tq_getR (j := 48) (E := E_BT_needed d) (pc := 1) (cks_at k_BT_needed 1 rfl rfl) fo_BT_58 so_0 rfl sp_0_6 ?_
  refine tq_iload_n 1 (E := E_BT_needed d) (pc := 4) (cks_at k_BT_needed 2 rfl rfl) rfl ?_
  refine tq_V1 (E := E_BT_needed d) (pc := 5) (cks_at k_BT_needed 3 rfl rfl) mk_Ways_plan lk_BT_205 rc_48 (Nat.le_of_ble_eq_true rfl) (c_Ways_plan (d + 0) v1 M) (k_I fun r2 M1 => ?_)
  refine tq_iconst (E := E_BT_needed d) (pc := 8) (cks_at k_BT_needed 4 rfl rfl) ?_
  refine tq_icmp_ne (E := E_BT_needed d) (pc := 9) (tgt := 16) (cks_at k_BT_needed 5 rfl rfl) (by decide) ?_ ?_
  · refine tq_aload_n 0 (E := E_BT_needed d) (pc := 16) (cks_at k_BT_needed 8 rfl rfl) rfl ?_
    refine tq_getR (j := 48) (E := E_BT_needed d) (pc := 17) (cks_at k_BT_needed 9 rfl rfl) fo_BT_58 so_0 rfl sp_0_6 ?_
    refine tq_iload_n 1 (E := E_BT_needed d) (pc := 20) (cks_at k_BT_needed 10 rfl rfl) rfl ?_
    refine tq_V1 (E := E_BT_needed d) (pc := 21) (cks_at k_BT_needed 11 rfl rfl) mk_Ways_neededStreets lk_BT_227 rc_48 (Nat.le_of_ble_eq_true rfl) (c_Ways_neededStreets (d + 0) v1 M1) (k_I fun r4 M3 => ?_)
    exact tq_iret (E := E_BT_needed d) (pc := 24) (cks_at k_BT_needed 12 rfl rfl) rfl
  · refine tq_iconst (E := E_BT_needed d) (pc := 12) (cks_at k_BT_needed 6 rfl rfl) ?_
    refine tq_goto (tgt := 24) (E := E_BT_needed d) (pc := 13) (cks_at k_BT_needed 7 rfl rfl) (by decide) ?_
    exact tq_iret (E := E_BT_needed d) (pc := 24) (cks_at k_BT_needed 12 rfl rfl) rfl
abbrev E_M_measures (d : Nat) : Ev := (Ct (d + 1), "BreathTownModel", prog_14_method_86_code, 6, False, 0, (fun _ => 0), (Option.none : Option Jvm.ClassFile.FieldType))
def f_M_measures_B2 (kH : Int → Int → Mm → Option (Mm)) (kx23 : Int → Mm → Option (Mm)) (v1 v2 : Int) (M : Mm) : Option (Mm) :=
  if i32 9 ≤ i32 v2 then
    kx23 v1 M
  else
    gd (0 ≤ i32 v2 ∧ i32 v2 < ((9 : Nat) : Int)) <|
    bd (up M 113 (i32 v2).toNat 1000000) (fun M1 =>
    kH v1 (v2 + 1) M1)
set_option maxRecDepth 20000 in
set_option maxHeartbeats 4000000 in
theorem w_M_measures_B2 (d : Nat) (kH : Int → Int → Mm → Option (Mm)) (kx23 : Int → Mm → Option (Mm)) (hkH : ∀ (v1 v2 : Int) (M : Mm), T (E_M_measures d) injV 2 [(0, .ref 78), (1, vI v1), (2, vI v2)] [] M (kH v1 v2 M)) (hkx23 : ∀ (v1 : Int) (M : Mm), T (E_M_measures d) injV 23 [(0, .ref 78), (1, vI v1)] [] M (kx23 v1 M)) (v1 v2 : Int) (M : Mm) : T (E_M_measures d) injV 2 [(0, .ref 78), (1, vI v1), (2, vI v2)] [] M (f_M_measures_B2 kH kx23 v1 v2 M) := by
  unfold f_M_measures_B2
  refine tq_iload_n 2 (E := E_M_measures d) (pc := 2) (cks_at k_M_measures 2 rfl rfl) rfl ?_
  refine tq_bipush (E := E_M_measures d) (pc := 3) (cks_at k_M_measures 3 rfl rfl) (by decide) (by decide) ?_
  refine tq_icmp_ge (E := E_M_measures d) (pc := 5) (tgt := 23) (cks_at k_M_measures 4 rfl rfl) (by decide) ?_ ?_
  · exact tq_sub [0, 1] rfl (hkx23 v1 M)
  · refine tq_aload_n 0 (E := E_M_measures d) (pc := 8) (cks_at k_M_measures 5 rfl rfl) rfl ?_
    refine tq_getR (j := 113) (E := E_M_measures d) (pc := 9) (cks_at k_M_measures 6 rfl rfl) fo_M_118 so_78 rfl sp_78_52 ?_
    refine tq_iload_n 2 (E := E_M_measures d) (pc := 12) (cks_at k_M_measures 7 rfl rfl) rfl ?_
    refine tq_ldcw (z := 1000000) (E := E_M_measures d) (pc := 13) (cks_at k_M_measures 8 rfl rfl) cst_M_459 ?_
    refine tq_iast (E := E_M_measures d) (pc := 16) (cks_at k_M_measures 9 rfl rfl) sa_113 sn_113 (fun M1 => ?_)
    refine tq_iinc 2 (E := E_M_measures d) (pc := 17) (cks_at k_M_measures 10 rfl rfl) rfl (show 2 < 6 by decide) rfl ?_
    refine tq_goto (tgt := 2) (E := E_M_measures d) (pc := 20) (cks_at k_M_measures 11 rfl rfl) (by decide) ?_
    exact tq_sub [1, 2, 0] rfl (hkH v1 (v2 + 1) M1)
def f_M_measures_L2 (kx23 : Int → Mm → Option (Mm)) : Nat → Int × Int × Mm → Option (Mm) := lp fun kH s => f_M_measures_B2 (fun v1 v2 M => kH (v1, v2, M)) kx23 s.1 s.2.1 s.2.2
set_option maxRecDepth 20000 in
set_option maxHeartbeats 4000000 in
theorem w_M_measures_L2 (d : Nat) (kx23 : Int → Mm → Option (Mm)) (hkx23 : ∀ (v1 : Int) (M : Mm), T (E_M_measures d) injV 23 [(0, .ref 78), (1, vI v1)] [] M (kx23 v1 M)) (n : Nat) (s : Int × Int × Mm) : T (E_M_measures d) injV 2 [(0, .ref 78), (1, vI s.1), (2, vI s.2.1)] [] s.2.2 (f_M_measures_L2 kx23 n s) :=
  tq_lp (fun s => [(0, .ref 78), (1, vI s.1), (2, vI s.2.1)]) (fun s => s.2.2) (fun kH hH s => w_M_measures_B2 d (fun v1 v2 M => kH (v1, v2, M)) kx23 (fun v1 v2 M => hH (v1, v2, M)) hkx23 s.1 s.2.1 s.2.2) n s
def f_M_measures_J107 (kH : Int → Int → Mm → Option (Mm)) (kx156 : Int → Mm → Option (Mm)) (v2 v3 v4 v5 : Int) (M : Mm) : Option (Mm) :=
  gd (0 ≤ i32 v5 ∧ i32 v5 < ((9 : Nat) : Int)) <|
  bI (f_M_takesOf v3 M) (fun r13 M12 =>
  gd (0 ≤ i32 v4 ∧ i32 v4 < ((9 : Nat) : Int)) <|
  if i32 (M12 113 (i32 v4).toNat) ≤ i32 ((M 113 (i32 v5).toNat) + r13) then
    kH v2 (v3 + 1) M12
  else
    gd (0 ≤ i32 v5 ∧ i32 v5 < ((9 : Nat) : Int)) <|
    bI (f_M_takesOf v3 M12) (fun r15 M14 =>
    gd (0 ≤ i32 v4 ∧ i32 v4 < ((9 : Nat) : Int)) <|
    bd (up M14 113 (i32 v4).toNat ((M12 113 (i32 v5).toNat) + r15)) (fun M16 =>
    kH v2 (v3 + 1) M16)))
set_option maxRecDepth 20000 in
set_option maxHeartbeats 4000000 in
theorem w_M_measures_J107 (d : Nat) (kH : Int → Int → Mm → Option (Mm)) (kx156 : Int → Mm → Option (Mm)) (hkH : ∀ (v2 v3 : Int) (M : Mm), T (E_M_measures d) injV 40 [(0, .ref 78), (2, vI v2), (3, vI v3)] [] M (kH v2 v3 M)) (hkx156 : ∀ (v2 : Int) (M : Mm), T (E_M_measures d) injV 156 [(0, .ref 78), (2, vI v2)] [] M (kx156 v2 M)) (v2 v3 v4 v5 : Int) (M : Mm) : T (E_M_measures d) injV 107 [(0, .ref 78), (2, vI v2), (3, vI v3), (4, vI v4), (5, vI v5)] [] M (f_M_measures_J107 kH kx156 v2 v3 v4 v5 M) := by
  unfold f_M_measures_J107
  refine tq_aload_n 0 (E := E_M_measures d) (pc := 107) (cks_at k_M_measures 63 rfl rfl) rfl ?_
  refine tq_getR (j := 113) (E := E_M_measures d) (pc := 108) (cks_at k_M_measures 64 rfl rfl) fo_M_118 so_78 rfl sp_78_52 ?_
  refine tq_iload 4 (E := E_M_measures d) (pc := 111) (cks_at k_M_measures 65 rfl rfl) rfl ?_
  refine tq_iald (E := E_M_measures d) (pc := 113) (cks_at k_M_measures 66 rfl rfl) sa_113 sn_113 ?_
  refine tq_aload_n 0 (E := E_M_measures d) (pc := 114) (cks_at k_M_measures 67 rfl rfl) rfl ?_
  refine tq_iload_n 2 (E := E_M_measures d) (pc := 115) (cks_at k_M_measures 68 rfl rfl) rfl ?_
  refine tq_V1 (E := E_M_measures d) (pc := 116) (cks_at k_M_measures 69 rfl rfl) mk_M_takesOf lk_M_440 rc_78 (Nat.le_of_ble_eq_true rfl) (c_M_takesOf (d + 0) v3 M) (k_I fun r13 M12 => ?_)
  refine tq_iadd (E := E_M_measures d) (pc := 119) (cks_at k_M_measures 70 rfl rfl) ?_
  refine tq_aload_n 0 (E := E_M_measures d) (pc := 120) (cks_at k_M_measures 71 rfl rfl) rfl ?_
  refine tq_getR (j := 113) (E := E_M_measures d) (pc := 121) (cks_at k_M_measures 72 rfl rfl) fo_M_118 so_78 rfl sp_78_52 ?_
  refine tq_iload 3 (E := E_M_measures d) (pc := 124) (cks_at k_M_measures 73 rfl rfl) rfl ?_
  refine tq_iald (E := E_M_measures d) (pc := 126) (cks_at k_M_measures 74 rfl rfl) sa_113 sn_113 ?_
  refine tq_icmp_ge (E := E_M_measures d) (pc := 127) (tgt := 150) (cks_at k_M_measures 75 rfl rfl) (by decide) ?_ ?_
  · refine tq_iinc 2 (E := E_M_measures d) (pc := 150) (cks_at k_M_measures 88 rfl rfl) rfl (show 3 < 6 by decide) rfl ?_
    refine tq_goto (tgt := 40) (E := E_M_measures d) (pc := 153) (cks_at k_M_measures 89 rfl rfl) (by decide) ?_
    exact tq_sub [1, 2, 0] rfl (hkH v2 (v3 + 1) M12)
  · refine tq_aload_n 0 (E := E_M_measures d) (pc := 130) (cks_at k_M_measures 76 rfl rfl) rfl ?_
    refine tq_getR (j := 113) (E := E_M_measures d) (pc := 131) (cks_at k_M_measures 77 rfl rfl) fo_M_118 so_78 rfl sp_78_52 ?_
    refine tq_iload 3 (E := E_M_measures d) (pc := 134) (cks_at k_M_measures 78 rfl rfl) rfl ?_
    refine tq_aload_n 0 (E := E_M_measures d) (pc := 136) (cks_at k_M_measures 79 rfl rfl) rfl ?_
    refine tq_getR (j := 113) (E := E_M_measures d) (pc := 137) (cks_at k_M_measures 80 rfl rfl) fo_M_118 so_78 rfl sp_78_52 ?_
    refine tq_iload 4 (E := E_M_measures d) (pc := 140) (cks_at k_M_measures 81 rfl rfl) rfl ?_
    refine tq_iald (E := E_M_measures d) (pc := 142) (cks_at k_M_measures 82 rfl rfl) sa_113 sn_113 ?_
    refine tq_aload_n 0 (E := E_M_measures d) (pc := 143) (cks_at k_M_measures 83 rfl rfl) rfl ?_
    refine tq_iload_n 2 (E := E_M_measures d) (pc := 144) (cks_at k_M_measures 84 rfl rfl) rfl ?_
    refine tq_V1 (E := E_M_measures d) (pc := 145) (cks_at k_M_measures 85 rfl rfl) mk_M_takesOf lk_M_440 rc_78 (Nat.le_of_ble_eq_true rfl) (c_M_takesOf (d + 0) v3 M12) (k_I fun r15 M14 => ?_)
    refine tq_iadd (E := E_M_measures d) (pc := 148) (cks_at k_M_measures 86 rfl rfl) ?_
    refine tq_iast (E := E_M_measures d) (pc := 149) (cks_at k_M_measures 87 rfl rfl) sa_113 sn_113 (fun M16 => ?_)
    refine tq_iinc 2 (E := E_M_measures d) (pc := 150) (cks_at k_M_measures 88 rfl rfl) rfl (show 3 < 6 by decide) rfl ?_
    refine tq_goto (tgt := 40) (E := E_M_measures d) (pc := 153) (cks_at k_M_measures 89 rfl rfl) (by decide) ?_
    exact tq_sub [1, 2, 0] rfl (hkH v2 (v3 + 1) M16)
def f_M_measures_B40 (kH : Int → Int → Mm → Option (Mm)) (kx156 : Int → Mm → Option (Mm)) (v2 v3 : Int) (M : Mm) : Option (Mm) :=
  bI (f_M_streetMany M) (fun r5 M4 =>
  if i32 r5 ≤ i32 v3 then
    kx156 v2 M4
  else
    bI (f_M_endOf v3 0 M4) (fun r7 M6 =>
    bI (f_M_endOf v3 1 M6) (fun r9 M8 =>
    gd (0 ≤ i32 r7 ∧ i32 r7 < ((9 : Nat) : Int)) <|
    bI (f_M_takesOf v3 M8) (fun r11 M10 =>
    gd (0 ≤ i32 r9 ∧ i32 r9 < ((9 : Nat) : Int)) <|
    if i32 (M10 113 (i32 r9).toNat) ≤ i32 ((M8 113 (i32 r7).toNat) + r11) then
      f_M_measures_J107 kH kx156 v2 v3 r7 r9 M10
    else
      gd (0 ≤ i32 r7 ∧ i32 r7 < ((9 : Nat) : Int)) <|
      bI (f_M_takesOf v3 M10) (fun r18 M17 =>
      gd (0 ≤ i32 r9 ∧ i32 r9 < ((9 : Nat) : Int)) <|
      bd (up M17 113 (i32 r9).toNat ((M10 113 (i32 r7).toNat) + r18)) (fun M19 =>
      f_M_measures_J107 kH kx156 v2 v3 r7 r9 M19))))))
set_option maxRecDepth 20000 in
set_option maxHeartbeats 4000000 in
theorem w_M_measures_B40 (d : Nat) (kH : Int → Int → Mm → Option (Mm)) (kx156 : Int → Mm → Option (Mm)) (hkH : ∀ (v2 v3 : Int) (M : Mm), T (E_M_measures d) injV 40 [(0, .ref 78), (2, vI v2), (3, vI v3)] [] M (kH v2 v3 M)) (hkx156 : ∀ (v2 : Int) (M : Mm), T (E_M_measures d) injV 156 [(0, .ref 78), (2, vI v2)] [] M (kx156 v2 M)) (v2 v3 : Int) (M : Mm) : T (E_M_measures d) injV 40 [(0, .ref 78), (2, vI v2), (3, vI v3)] [] M (f_M_measures_B40 kH kx156 v2 v3 M) := by
  unfold f_M_measures_B40
  refine tq_iload_n 2 (E := E_M_measures d) (pc := 40) (cks_at k_M_measures 24 rfl rfl) rfl ?_
  refine tq_aload_n 0 (E := E_M_measures d) (pc := 41) (cks_at k_M_measures 25 rfl rfl) rfl ?_
  refine tq_V0 (E := E_M_measures d) (pc := 42) (cks_at k_M_measures 26 rfl rfl) mk_M_streetMany lk_M_412 rc_78 (Nat.le_of_ble_eq_true rfl) (c_M_streetMany (d + 0) M) (k_I fun r5 M4 => ?_)
  refine tq_icmp_ge (E := E_M_measures d) (pc := 45) (tgt := 156) (cks_at k_M_measures 27 rfl rfl) (by decide) ?_ ?_
  · exact tq_sub [0, 1] rfl (hkx156 v2 M4)
  · refine tq_aload_n 0 (E := E_M_measures d) (pc := 48) (cks_at k_M_measures 28 rfl rfl) rfl ?_
    refine tq_iload_n 2 (E := E_M_measures d) (pc := 49) (cks_at k_M_measures 29 rfl rfl) rfl ?_
    refine tq_iconst (E := E_M_measures d) (pc := 50) (cks_at k_M_measures 30 rfl rfl) ?_
    refine tq_V2 (E := E_M_measures d) (pc := 51) (cks_at k_M_measures 31 rfl rfl) mk_M_endOf lk_M_464 rc_78 (Nat.le_of_ble_eq_true rfl) (c_M_endOf (d + 0) v3 0 M4) (k_I fun r7 M6 => ?_)
    refine tq_istore (E := E_M_measures d) (pc := 54) (cks_at k_M_measures 32 rfl rfl) (show 4 < 6 by decide) rfl ?_
    refine tq_aload_n 1 (E := E_M_measures d) (pc := 56) (cks_at k_M_measures 33 rfl rfl) rfl ?_
    refine tq_iload_n 3 (E := E_M_measures d) (pc := 57) (cks_at k_M_measures 34 rfl rfl) rfl ?_
    refine tq_iconst (E := E_M_measures d) (pc := 58) (cks_at k_M_measures 35 rfl rfl) ?_
    refine tq_V2 (E := E_M_measures d) (pc := 59) (cks_at k_M_measures 36 rfl rfl) mk_M_endOf lk_M_464 rc_78 (Nat.le_of_ble_eq_true rfl) (c_M_endOf (d + 0) v3 1 M6) (k_I fun r9 M8 => ?_)
    refine tq_istore (E := E_M_measures d) (pc := 62) (cks_at k_M_measures 37 rfl rfl) (show 5 < 6 by decide) rfl ?_
    refine tq_aload_n 2 (E := E_M_measures d) (pc := 64) (cks_at k_M_measures 38 rfl rfl) rfl ?_
    refine tq_getR (j := 113) (E := E_M_measures d) (pc := 65) (cks_at k_M_measures 39 rfl rfl) fo_M_118 so_78 rfl sp_78_52 ?_
    refine tq_iload 1 (E := E_M_measures d) (pc := 68) (cks_at k_M_measures 40 rfl rfl) rfl ?_
    refine tq_iald (E := E_M_measures d) (pc := 70) (cks_at k_M_measures 41 rfl rfl) sa_113 sn_113 ?_
    refine tq_aload_n 2 (E := E_M_measures d) (pc := 71) (cks_at k_M_measures 42 rfl rfl) rfl ?_
    refine tq_iload_n 4 (E := E_M_measures d) (pc := 72) (cks_at k_M_measures 43 rfl rfl) rfl ?_
    refine tq_V1 (E := E_M_measures d) (pc := 73) (cks_at k_M_measures 44 rfl rfl) mk_M_takesOf lk_M_440 rc_78 (Nat.le_of_ble_eq_true rfl) (c_M_takesOf (d + 0) v3 M8) (k_I fun r11 M10 => ?_)
    refine tq_iadd (E := E_M_measures d) (pc := 76) (cks_at k_M_measures 45 rfl rfl) ?_
    refine tq_aload_n 2 (E := E_M_measures d) (pc := 77) (cks_at k_M_measures 46 rfl rfl) rfl ?_
    refine tq_getR (j := 113) (E := E_M_measures d) (pc := 78) (cks_at k_M_measures 47 rfl rfl) fo_M_118 so_78 rfl sp_78_52 ?_
    refine tq_iload 0 (E := E_M_measures d) (pc := 81) (cks_at k_M_measures 48 rfl rfl) rfl ?_
    refine tq_iald (E := E_M_measures d) (pc := 83) (cks_at k_M_measures 49 rfl rfl) sa_113 sn_113 ?_
    refine tq_icmp_ge (E := E_M_measures d) (pc := 84) (tgt := 107) (cks_at k_M_measures 50 rfl rfl) (by decide) ?_ ?_
    · exact tq_sub [2, 3, 4, 1, 0] rfl (w_M_measures_J107 d kH kx156 hkH hkx156 v2 v3 r7 r9 M10)
    · refine tq_aload_n 2 (E := E_M_measures d) (pc := 87) (cks_at k_M_measures 51 rfl rfl) rfl ?_
      refine tq_getR (j := 113) (E := E_M_measures d) (pc := 88) (cks_at k_M_measures 52 rfl rfl) fo_M_118 so_78 rfl sp_78_52 ?_
      refine tq_iload 0 (E := E_M_measures d) (pc := 91) (cks_at k_M_measures 53 rfl rfl) rfl ?_
      refine tq_aload_n 2 (E := E_M_measures d) (pc := 93) (cks_at k_M_measures 54 rfl rfl) rfl ?_
      refine tq_getR (j := 113) (E := E_M_measures d) (pc := 94) (cks_at k_M_measures 55 rfl rfl) fo_M_118 so_78 rfl sp_78_52 ?_
      refine tq_iload 1 (E := E_M_measures d) (pc := 97) (cks_at k_M_measures 56 rfl rfl) rfl ?_
      refine tq_iald (E := E_M_measures d) (pc := 99) (cks_at k_M_measures 57 rfl rfl) sa_113 sn_113 ?_
      refine tq_aload_n 2 (E := E_M_measures d) (pc := 100) (cks_at k_M_measures 58 rfl rfl) rfl ?_
      refine tq_iload_n 4 (E := E_M_measures d) (pc := 101) (cks_at k_M_measures 59 rfl rfl) rfl ?_
      refine tq_V1 (E := E_M_measures d) (pc := 102) (cks_at k_M_measures 60 rfl rfl) mk_M_takesOf lk_M_440 rc_78 (Nat.le_of_ble_eq_true rfl) (c_M_takesOf (d + 0) v3 M10) (k_I fun r18 M17 => ?_)
      refine tq_iadd (E := E_M_measures d) (pc := 105) (cks_at k_M_measures 61 rfl rfl) ?_
      refine tq_iast (E := E_M_measures d) (pc := 106) (cks_at k_M_measures 62 rfl rfl) sa_113 sn_113 (fun M19 => ?_)
      exact tq_sub [2, 3, 4, 1, 0] rfl (w_M_measures_J107 d kH kx156 hkH hkx156 v2 v3 r7 r9 M19)
def f_M_measures_L40 (kx156 : Int → Mm → Option (Mm)) : Nat → Int × Int × Mm → Option (Mm) := lp fun kH s => f_M_measures_B40 (fun v2 v3 M => kH (v2, v3, M)) kx156 s.1 s.2.1 s.2.2
set_option maxRecDepth 20000 in
set_option maxHeartbeats 4000000 in
theorem w_M_measures_L40 (d : Nat) (kx156 : Int → Mm → Option (Mm)) (hkx156 : ∀ (v2 : Int) (M : Mm), T (E_M_measures d) injV 156 [(0, .ref 78), (2, vI v2)] [] M (kx156 v2 M)) (n : Nat) (s : Int × Int × Mm) : T (E_M_measures d) injV 40 [(0, .ref 78), (2, vI s.1), (3, vI s.2.1)] [] s.2.2 (f_M_measures_L40 kx156 n s) :=
  tq_lp (fun s => [(0, .ref 78), (2, vI s.1), (3, vI s.2.1)]) (fun s => s.2.2) (fun kH hH s => w_M_measures_B40 d (fun v2 v3 M => kH (v2, v3, M)) kx156 (fun v2 v3 M => hH (v2, v3, M)) hkx156 s.1 s.2.1 s.2.2) n s
def f_M_measures_B32 (kH : Int → Mm → Option (Mm)) (v2 : Int) (M : Mm) : Option (Mm) :=
  if i32 9 ≤ i32 v2 then
    some M
  else
    f_M_measures_L40 (fun v2 M20 => kH (v2 + 1) M20) FU (v2, 0, M)
set_option maxRecDepth 20000 in
set_option maxHeartbeats 4000000 in
theorem w_M_measures_B32 (d : Nat) (kH : Int → Mm → Option (Mm)) (hkH : ∀ (v2 : Int) (M : Mm), T (E_M_measures d) injV 32 [(0, .ref 78), (2, vI v2)] [] M (kH v2 M)) (v2 : Int) (M : Mm) : T (E_M_measures d) injV 32 [(0, .ref 78), (2, vI v2)] [] M (f_M_measures_B32 kH v2 M) := by
  unfold f_M_measures_B32
  refine tq_iload_n 1 (E := E_M_measures d) (pc := 32) (cks_at k_M_measures 19 rfl rfl) rfl ?_
  refine tq_bipush (E := E_M_measures d) (pc := 33) (cks_at k_M_measures 20 rfl rfl) (by decide) (by decide) ?_
  refine tq_icmp_ge (E := E_M_measures d) (pc := 35) (tgt := 162) (cks_at k_M_measures 21 rfl rfl) (by decide) ?_ ?_
  · exact tq_vret (E := E_M_measures d) (pc := 162) (cks_at k_M_measures 92 rfl rfl) rfl
  · refine tq_iconst (E := E_M_measures d) (pc := 38) (cks_at k_M_measures 22 rfl rfl) ?_
    refine tq_istore_n (E := E_M_measures d) (pc := 39) (cks_at k_M_measures 23 rfl rfl) (show 3 < 6 by decide) rfl ?_
    exact tq_sub [1, 2, 0] rfl (w_M_measures_L40 d _ (fun v2 M20 => by
        refine tq_iinc 1 (E := E_M_measures d) (pc := 156) (cks_at k_M_measures 90 rfl rfl) rfl (show 2 < 6 by decide) rfl ?_
        refine tq_goto (tgt := 32) (E := E_M_measures d) (pc := 159) (cks_at k_M_measures 91 rfl rfl) (by decide) ?_
        exact tq_sub [1, 0] rfl (hkH (v2 + 1) M20)) FU (v2, 0, M))
def f_M_measures_L32 : Nat → Int × Mm → Option (Mm) := lp fun kH s => f_M_measures_B32 (fun v2 M => kH (v2, M)) s.1 s.2
set_option maxRecDepth 20000 in
set_option maxHeartbeats 4000000 in
theorem w_M_measures_L32 (d : Nat) (n : Nat) (s : Int × Mm) : T (E_M_measures d) injV 32 [(0, .ref 78), (2, vI s.1)] [] s.2 (f_M_measures_L32 n s) :=
  tq_lp (fun s => [(0, .ref 78), (2, vI s.1)]) (fun s => s.2) (fun kH hH s => w_M_measures_B32 d (fun v2 M => kH (v2, M)) (fun v2 M => hH (v2, M)) s.1 s.2) n s
def f_M_measures (v1 : Int) (M : Mm) : Option (Mm) :=
  f_M_measures_L2 (fun v1 M2 => gd (0 ≤ i32 v1 ∧ i32 v1 < ((9 : Nat) : Int)) <|
      bd (up M2 113 (i32 v1).toNat 0) (fun M3 =>
      f_M_measures_L32 FU (0, M3))) FU (v1, 0, M)
set_option maxRecDepth 20000 in
set_option maxHeartbeats 4000000 in
theorem c_M_measures (d : Nat) (v1 : Int) (M : Mm) (Q : Option Value → Mm → Prop) (h : sat injV (f_M_measures v1 M) Q) : Ct (d + 2) y_M_measures [.ref 78, vI v1] M Q := by
  refine ct_in (d := d + 1) mk_M_measures (Nat.le_of_ble_eq_true rfl) (?_ : T (E_M_measures d) injV 0 [(0, .ref 78), (1, vI v1)] [] M (f_M_measures v1 M)) h
  unfold f_M_measures
  refine tq_iconst (E := E_M_measures d) (pc := 0) (cks_at k_M_measures 0 rfl rfl) ?_
  refine tq_istore_n (E := E_M_measures d) (pc := 1) (cks_at k_M_measures 1 rfl rfl) (show 2 < 6 by decide) rfl ?_
  exact tq_sub [1, 2, 0] rfl (w_M_measures_L2 d _ (fun v1 M2 => by
      refine tq_aload_n 0 (E := E_M_measures d) (pc := 23) (cks_at k_M_measures 12 rfl rfl) rfl ?_
      refine tq_getR (j := 113) (E := E_M_measures d) (pc := 24) (cks_at k_M_measures 13 rfl rfl) fo_M_118 so_78 rfl sp_78_52 ?_
      refine tq_iload_n 1 (E := E_M_measures d) (pc := 27) (cks_at k_M_measures 14 rfl rfl) rfl ?_
      refine tq_iconst (E := E_M_measures d) (pc := 28) (cks_at k_M_measures 15 rfl rfl) ?_
      refine tq_iast (E := E_M_measures d) (pc := 29) (cks_at k_M_measures 16 rfl rfl) sa_113 sn_113 (fun M3 => ?_)
      refine tq_iconst (E := E_M_measures d) (pc := 30) (cks_at k_M_measures 17 rfl rfl) ?_
      refine tq_istore_n (E := E_M_measures d) (pc := 31) (cks_at k_M_measures 18 rfl rfl) (show 2 < 6 by decide) rfl ?_
      exact tq_sub [1, 0] rfl (w_M_measures_L32 d FU (0, M3))) FU (v1, 0, M))
abbrev E_M_shortBack (d : Nat) : Ev := (Ct (d + 2), "BreathTownModel", prog_14_method_87_code, 3, False, 0, (fun _ => 0), (Option.some Jvm.ClassFile.FieldType.int))
def f_M_shortBack_B2 (kH : Int → Int → Mm → Option (Int × Mm)) (v1 v2 : Int) (M : Mm) : Option (Int × Mm) :=
  bI (f_M_other v2 v1 M) (fun r2 M1 =>
  if i32 r2 = i32 ((-1)) then
    kH v1 (v2 + 1) M1
  else
    bI (f_M_other v2 v1 M1) (fun r4 M3 =>
    gd (0 ≤ i32 r4 ∧ i32 r4 < ((9 : Nat) : Int)) <|
    bI (f_M_takesOf v2 M3) (fun r6 M5 =>
    gd (0 ≤ i32 v1 ∧ i32 v1 < ((9 : Nat) : Int)) <|
    if i32 ((M3 113 (i32 r4).toNat) + r6) = i32 (M5 113 (i32 v1).toNat) then
      some (v2, M5)
    else
      kH v1 (v2 + 1) M5)))
set_option maxRecDepth 20000 in
set_option maxHeartbeats 4000000 in
theorem w_M_shortBack_B2 (d : Nat) (kH : Int → Int → Mm → Option (Int × Mm)) (hkH : ∀ (v1 v2 : Int) (M : Mm), T (E_M_shortBack d) injI 2 [(0, .ref 78), (1, vI v1), (2, vI v2)] [] M (kH v1 v2 M)) (v1 v2 : Int) (M : Mm) : T (E_M_shortBack d) injI 2 [(0, .ref 78), (1, vI v1), (2, vI v2)] [] M (f_M_shortBack_B2 kH v1 v2 M) := by
  unfold f_M_shortBack_B2
  refine tq_aload_n 0 (E := E_M_shortBack d) (pc := 2) (cks_at k_M_shortBack 2 rfl rfl) rfl ?_
  refine tq_iload_n 2 (E := E_M_shortBack d) (pc := 3) (cks_at k_M_shortBack 3 rfl rfl) rfl ?_
  refine tq_iload_n 1 (E := E_M_shortBack d) (pc := 4) (cks_at k_M_shortBack 4 rfl rfl) rfl ?_
  refine tq_V2 (E := E_M_shortBack d) (pc := 5) (cks_at k_M_shortBack 5 rfl rfl) mk_M_other lk_M_499 rc_78 (Nat.le_of_ble_eq_true rfl) (c_M_other (d + 0) v2 v1 M) (k_I fun r2 M1 => ?_)
  refine tq_iconst (E := E_M_shortBack d) (pc := 8) (cks_at k_M_shortBack 6 rfl rfl) ?_
  refine tq_icmp_eq (E := E_M_shortBack d) (pc := 9) (tgt := 38) (cks_at k_M_shortBack 7 rfl rfl) (by decide) ?_ ?_
  · refine tq_iinc 2 (E := E_M_shortBack d) (pc := 38) (cks_at k_M_shortBack 24 rfl rfl) rfl (show 2 < 3 by decide) rfl ?_
    refine tq_goto (tgt := 2) (E := E_M_shortBack d) (pc := 41) (cks_at k_M_shortBack 25 rfl rfl) (by decide) ?_
    exact tq_sub [1, 2, 0] rfl (hkH v1 (v2 + 1) M1)
  · refine tq_aload_n 0 (E := E_M_shortBack d) (pc := 12) (cks_at k_M_shortBack 8 rfl rfl) rfl ?_
    refine tq_getR (j := 113) (E := E_M_shortBack d) (pc := 13) (cks_at k_M_shortBack 9 rfl rfl) fo_M_118 so_78 rfl sp_78_52 ?_
    refine tq_aload_n 0 (E := E_M_shortBack d) (pc := 16) (cks_at k_M_shortBack 10 rfl rfl) rfl ?_
    refine tq_iload_n 2 (E := E_M_shortBack d) (pc := 17) (cks_at k_M_shortBack 11 rfl rfl) rfl ?_
    refine tq_iload_n 1 (E := E_M_shortBack d) (pc := 18) (cks_at k_M_shortBack 12 rfl rfl) rfl ?_
    refine tq_V2 (E := E_M_shortBack d) (pc := 19) (cks_at k_M_shortBack 13 rfl rfl) mk_M_other lk_M_499 rc_78 (Nat.le_of_ble_eq_true rfl) (c_M_other (d + 0) v2 v1 M1) (k_I fun r4 M3 => ?_)
    refine tq_iald (E := E_M_shortBack d) (pc := 22) (cks_at k_M_shortBack 14 rfl rfl) sa_113 sn_113 ?_
    refine tq_aload_n 0 (E := E_M_shortBack d) (pc := 23) (cks_at k_M_shortBack 15 rfl rfl) rfl ?_
    refine tq_iload_n 2 (E := E_M_shortBack d) (pc := 24) (cks_at k_M_shortBack 16 rfl rfl) rfl ?_
    refine tq_V1 (E := E_M_shortBack d) (pc := 25) (cks_at k_M_shortBack 17 rfl rfl) mk_M_takesOf lk_M_440 rc_78 (Nat.le_of_ble_eq_true rfl) (c_M_takesOf (d + 1) v2 M3) (k_I fun r6 M5 => ?_)
    refine tq_iadd (E := E_M_shortBack d) (pc := 28) (cks_at k_M_shortBack 18 rfl rfl) ?_
    refine tq_aload_n 0 (E := E_M_shortBack d) (pc := 29) (cks_at k_M_shortBack 19 rfl rfl) rfl ?_
    refine tq_getR (j := 113) (E := E_M_shortBack d) (pc := 30) (cks_at k_M_shortBack 20 rfl rfl) fo_M_118 so_78 rfl sp_78_52 ?_
    refine tq_iload_n 1 (E := E_M_shortBack d) (pc := 33) (cks_at k_M_shortBack 21 rfl rfl) rfl ?_
    refine tq_iald (E := E_M_shortBack d) (pc := 34) (cks_at k_M_shortBack 22 rfl rfl) sa_113 sn_113 ?_
    refine tq_icmp_eq (E := E_M_shortBack d) (pc := 35) (tgt := 44) (cks_at k_M_shortBack 23 rfl rfl) (by decide) ?_ ?_
    · refine tq_iload_n 2 (E := E_M_shortBack d) (pc := 44) (cks_at k_M_shortBack 26 rfl rfl) rfl ?_
      exact tq_iret (E := E_M_shortBack d) (pc := 45) (cks_at k_M_shortBack 27 rfl rfl) rfl
    · refine tq_iinc 2 (E := E_M_shortBack d) (pc := 38) (cks_at k_M_shortBack 24 rfl rfl) rfl (show 2 < 3 by decide) rfl ?_
      refine tq_goto (tgt := 2) (E := E_M_shortBack d) (pc := 41) (cks_at k_M_shortBack 25 rfl rfl) (by decide) ?_
      exact tq_sub [1, 2, 0] rfl (hkH v1 (v2 + 1) M5)
def f_M_shortBack_L2 : Nat → Int × Int × Mm → Option (Int × Mm) := lp fun kH s => f_M_shortBack_B2 (fun v1 v2 M => kH (v1, v2, M)) s.1 s.2.1 s.2.2
set_option maxRecDepth 20000 in
set_option maxHeartbeats 4000000 in
theorem w_M_shortBack_L2 (d : Nat) (n : Nat) (s : Int × Int × Mm) : T (E_M_shortBack d) injI 2 [(0, .ref 78), (1, vI s.1), (2, vI s.2.1)] [] s.2.2 (f_M_shortBack_L2 n s) :=
  tq_lp (fun s => [(0, .ref 78), (1, vI s.1), (2, vI s.2.1)]) (fun s => s.2.2) (fun kH hH s => w_M_shortBack_B2 d (fun v1 v2 M => kH (v1, v2, M)) (fun v1 v2 M => hH (v1, v2, M)) s.1 s.2.1 s.2.2) n s
def f_M_shortBack (v1 : Int) (M : Mm) : Option (Int × Mm) :=
  f_M_shortBack_L2 FU (v1, 0, M)
set_option maxRecDepth 20000 in
set_option maxHeartbeats 4000000 in
theorem c_M_shortBack (d : Nat) (v1 : Int) (M : Mm) (Q : Option Value → Mm → Prop) (h : sat injI (f_M_shortBack v1 M) Q) : Ct (d + 3) y_M_shortBack [.ref 78, vI v1] M Q := by
  refine ct_in (d := d + 2) mk_M_shortBack (Nat.le_of_ble_eq_true rfl) (?_ : T (E_M_shortBack d) injI 0 [(0, .ref 78), (1, vI v1)] [] M (f_M_shortBack v1 M)) h
  unfold f_M_shortBack
  refine tq_iconst (E := E_M_shortBack d) (pc := 0) (cks_at k_M_shortBack 0 rfl rfl) ?_
  refine tq_istore_n (E := E_M_shortBack d) (pc := 1) (cks_at k_M_shortBack 1 rfl rfl) (show 2 < 3 by decide) rfl ?_
  exact tq_sub [1, 2, 0] rfl (w_M_shortBack_L2 d FU (v1, 0, M))
abbrev E_M_stuck (d : Nat) : Ev := (Ct (d + 5), "BreathTownModel", prog_14_method_88_code, 10, False, 0, (fun _ => 0), (Option.some Jvm.ClassFile.FieldType.int))
def f_M_stuck_B90 (kH : Int → Int → Int → Int → Int → Int → Int → Mm → Option (Int × Mm)) (kx146 : Int → Int → Int → Int → Int → Mm → Option (Int × Mm)) (v1 v2 v4 v5 v6 v7 v8 : Int) (M : Mm) : Option (Int × Mm) :=
  if i32 v8 < 0 then
    kx146 v1 v2 v4 v5 v7 M
  else
    bI (f_M_setsOut v1 M) (fun r19 M18 =>
    gd (0 ≤ i32 v7 ∧ i32 v7 < ((9 : Nat) : Int)) <|
    bI (f_M_widthOf v6 ((r19 + (M18 113 (i32 v7).toNat)) + v8) M18) (fun r21 M20 =>
    bI (f_M_broadOf v1 M20) (fun r23 M22 =>
    if i32 r21 < i32 r23 then
      kH v1 v2 ((r19 + (M18 113 (i32 v7).toNat)) + v8) v6 v6 v7 (v8 + (-1)) M22
    else
      kH v1 v2 v4 v5 v6 v7 (v8 + (-1)) M22)))
set_option maxRecDepth 20000 in
set_option maxHeartbeats 4000000 in
theorem w_M_stuck_B90 (d : Nat) (kH : Int → Int → Int → Int → Int → Int → Int → Mm → Option (Int × Mm)) (kx146 : Int → Int → Int → Int → Int → Mm → Option (Int × Mm)) (hkH : ∀ (v1 v2 v4 v5 v6 v7 v8 : Int) (M : Mm), T (E_M_stuck d) injI 90 [(0, .ref 78), (1, vI v1), (2, vI v2), (4, vI v4), (5, vI v5), (6, vI v6), (7, vI v7), (8, vI v8)] [] M (kH v1 v2 v4 v5 v6 v7 v8 M)) (hkx146 : ∀ (v1 v2 v4 v5 v7 : Int) (M : Mm), T (E_M_stuck d) injI 146 [(0, .ref 78), (1, vI v1), (2, vI v2), (4, vI v4), (5, vI v5), (7, vI v7)] [] M (kx146 v1 v2 v4 v5 v7 M)) (v1 v2 v4 v5 v6 v7 v8 : Int) (M : Mm) : T (E_M_stuck d) injI 90 [(0, .ref 78), (1, vI v1), (2, vI v2), (4, vI v4), (5, vI v5), (6, vI v6), (7, vI v7), (8, vI v8)] [] M (f_M_stuck_B90 kH kx146 v1 v2 v4 v5 v6 v7 v8 M) := by
  unfold f_M_stuck_B90
  refine tq_iload 7 (E := E_M_stuck d) (pc := 90) (cks_at k_M_stuck 53 rfl rfl) rfl ?_
  refine tq_if_lt (E := E_M_stuck d) (pc := 92) (tgt := 146) (cks_at k_M_stuck 54 rfl rfl) (by decide) ?_ ?_
  · exact tq_sub [0, 1, 2, 3, 4, 6] rfl (hkx146 v1 v2 v4 v5 v7 M)
  · refine tq_aload_n 0 (E := E_M_stuck d) (pc := 95) (cks_at k_M_stuck 55 rfl rfl) rfl ?_
    refine tq_iload_n 1 (E := E_M_stuck d) (pc := 96) (cks_at k_M_stuck 56 rfl rfl) rfl ?_
    refine tq_V1 (E := E_M_stuck d) (pc := 97) (cks_at k_M_stuck 57 rfl rfl) mk_M_setsOut lk_M_474 rc_78 (Nat.le_of_ble_eq_true rfl) (c_M_setsOut (d + 4) v1 M) (k_I fun r19 M18 => ?_)
    refine tq_aload_n 0 (E := E_M_stuck d) (pc := 100) (cks_at k_M_stuck 58 rfl rfl) rfl ?_
    refine tq_getR (j := 113) (E := E_M_stuck d) (pc := 101) (cks_at k_M_stuck 59 rfl rfl) fo_M_118 so_78 rfl sp_78_52 ?_
    refine tq_iload 6 (E := E_M_stuck d) (pc := 104) (cks_at k_M_stuck 60 rfl rfl) rfl ?_
    refine tq_iald (E := E_M_stuck d) (pc := 106) (cks_at k_M_stuck 61 rfl rfl) sa_113 sn_113 ?_
    refine tq_iadd (E := E_M_stuck d) (pc := 107) (cks_at k_M_stuck 62 rfl rfl) ?_
    refine tq_iload 7 (E := E_M_stuck d) (pc := 108) (cks_at k_M_stuck 63 rfl rfl) rfl ?_
    refine tq_iadd (E := E_M_stuck d) (pc := 110) (cks_at k_M_stuck 64 rfl rfl) ?_
    refine tq_istore (E := E_M_stuck d) (pc := 111) (cks_at k_M_stuck 65 rfl rfl) (show 9 < 10 by decide) rfl ?_
    refine tq_aload_n 1 (E := E_M_stuck d) (pc := 113) (cks_at k_M_stuck 66 rfl rfl) rfl ?_
    refine tq_iload 6 (E := E_M_stuck d) (pc := 114) (cks_at k_M_stuck 67 rfl rfl) rfl ?_
    refine tq_iload 0 (E := E_M_stuck d) (pc := 116) (cks_at k_M_stuck 68 rfl rfl) rfl ?_
    refine tq_V2 (E := E_M_stuck d) (pc := 118) (cks_at k_M_stuck 69 rfl rfl) mk_M_widthOf lk_M_437 rc_78 (Nat.le_of_ble_eq_true rfl) (c_M_widthOf (d + 0) v6 ((r19 + (M18 113 (i32 v7).toNat)) + v8) M18) (k_I fun r21 M20 => ?_)
    refine tq_aload_n 1 (E := E_M_stuck d) (pc := 121) (cks_at k_M_stuck 70 rfl rfl) rfl ?_
    refine tq_iload_n 2 (E := E_M_stuck d) (pc := 122) (cks_at k_M_stuck 71 rfl rfl) rfl ?_
    refine tq_V1 (E := E_M_stuck d) (pc := 123) (cks_at k_M_stuck 72 rfl rfl) mk_M_broadOf lk_M_477 rc_78 (Nat.le_of_ble_eq_true rfl) (c_M_broadOf (d + 4) v1 M20) (k_I fun r23 M22 => ?_)
    refine tq_icmp_lt (E := E_M_stuck d) (pc := 126) (tgt := 132) (cks_at k_M_stuck 73 rfl rfl) (by decide) ?_ ?_
    · refine tq_iload 0 (E := E_M_stuck d) (pc := 132) (cks_at k_M_stuck 75 rfl rfl) rfl ?_
      refine tq_istore (E := E_M_stuck d) (pc := 134) (cks_at k_M_stuck 76 rfl rfl) (show 4 < 10 by decide) rfl ?_
      refine tq_iload 6 (E := E_M_stuck d) (pc := 136) (cks_at k_M_stuck 77 rfl rfl) rfl ?_
      refine tq_istore (E := E_M_stuck d) (pc := 138) (cks_at k_M_stuck 78 rfl rfl) (show 5 < 10 by decide) rfl ?_
      refine tq_iinc 8 (E := E_M_stuck d) (pc := 140) (cks_at k_M_stuck 79 rfl rfl) rfl (show 8 < 10 by decide) rfl ?_
      refine tq_goto (tgt := 90) (E := E_M_stuck d) (pc := 143) (cks_at k_M_stuck 80 rfl rfl) (by decide) ?_
      exact tq_sub [4, 5, 6, 2, 1, 7, 8, 0] rfl (hkH v1 v2 ((r19 + (M18 113 (i32 v7).toNat)) + v8) v6 v6 v7 (v8 + (-1)) M22)
    · refine tq_goto (tgt := 140) (E := E_M_stuck d) (pc := 129) (cks_at k_M_stuck 74 rfl rfl) (by decide) ?_
      refine tq_iinc 8 (E := E_M_stuck d) (pc := 140) (cks_at k_M_stuck 79 rfl rfl) rfl (show 8 < 10 by decide) rfl ?_
      refine tq_goto (tgt := 90) (E := E_M_stuck d) (pc := 143) (cks_at k_M_stuck 80 rfl rfl) (by decide) ?_
      exact tq_sub [2, 3, 4, 5, 6, 7, 8, 0] rfl (hkH v1 v2 v4 v5 v6 v7 (v8 + (-1)) M22)
def f_M_stuck_L90 (kx146 : Int → Int → Int → Int → Int → Mm → Option (Int × Mm)) : Nat → Int × Int × Int × Int × Int × Int × Int × Mm → Option (Int × Mm) := lp fun kH s => f_M_stuck_B90 (fun v1 v2 v4 v5 v6 v7 v8 M => kH (v1, v2, v4, v5, v6, v7, v8, M)) kx146 s.1 s.2.1 s.2.2.1 s.2.2.2.1 s.2.2.2.2.1 s.2.2.2.2.2.1 s.2.2.2.2.2.2.1 s.2.2.2.2.2.2.2
set_option maxRecDepth 20000 in
set_option maxHeartbeats 4000000 in
theorem w_M_stuck_L90 (d : Nat) (kx146 : Int → Int → Int → Int → Int → Mm → Option (Int × Mm)) (hkx146 : ∀ (v1 v2 v4 v5 v7 : Int) (M : Mm), T (E_M_stuck d) injI 146 [(0, .ref 78), (1, vI v1), (2, vI v2), (4, vI v4), (5, vI v5), (7, vI v7)] [] M (kx146 v1 v2 v4 v5 v7 M)) (n : Nat) (s : Int × Int × Int × Int × Int × Int × Int × Mm) : T (E_M_stuck d) injI 90 [(0, .ref 78), (1, vI s.1), (2, vI s.2.1), (4, vI s.2.2.1), (5, vI s.2.2.2.1), (6, vI s.2.2.2.2.1), (7, vI s.2.2.2.2.2.1), (8, vI s.2.2.2.2.2.2.1)] [] s.2.2.2.2.2.2.2 (f_M_stuck_L90 kx146 n s) :=
  tq_lp (fun s => [(0, .ref 78), (1, vI s.1), (2, vI s.2.1), (4, vI s.2.2.1), (5, vI s.2.2.2.1), (6, vI s.2.2.2.2.1), (7, vI s.2.2.2.2.2.1), (8, vI s.2.2.2.2.2.2.1)]) (fun s => s.2.2.2.2.2.2.2) (fun kH hH s => w_M_stuck_B90 d (fun v1 v2 v4 v5 v6 v7 v8 M => kH (v1, v2, v4, v5, v6, v7, v8, M)) kx146 (fun v1 v2 v4 v5 v6 v7 v8 M => hH (v1, v2, v4, v5, v6, v7, v8, M)) hkx146 s.1 s.2.1 s.2.2.1 s.2.2.2.1 s.2.2.2.2.1 s.2.2.2.2.2.1 s.2.2.2.2.2.2.1 s.2.2.2.2.2.2.2) n s
def f_M_stuck_B55 (kH : Int → Int → Int → Int → Int → Mm → Option (Int × Mm)) (kx152 : Int → Int → Int → Mm → Option (Int × Mm)) (v1 v2 v3 v4 v5 : Int) (M : Mm) : Option (Int × Mm) :=
  bI (f_M_placeOf v1 M) (fun r11 M10 =>
  if i32 v3 = i32 r11 then
    kx152 v2 v4 v5 M10
  else
    bI (f_M_shortBack v3 M10) (fun r13 M12 =>
    bI (f_M_other r13 v3 M12) (fun r15 M14 =>
    bI (f_M_takesOf r13 M14) (fun r17 M16 =>
    f_M_stuck_L90 (fun v1 v2 v4 v5 v7 M24 => kH v1 v2 v7 v4 v5 M24) FU (v1, v2, v4, v5, r13, r15, (r17 - 1), M16)))))
set_option maxRecDepth 20000 in
set_option maxHeartbeats 4000000 in
theorem w_M_stuck_B55 (d : Nat) (kH : Int → Int → Int → Int → Int → Mm → Option (Int × Mm)) (kx152 : Int → Int → Int → Mm → Option (Int × Mm)) (hkH : ∀ (v1 v2 v3 v4 v5 : Int) (M : Mm), T (E_M_stuck d) injI 55 [(0, .ref 78), (1, vI v1), (2, vI v2), (3, vI v3), (4, vI v4), (5, vI v5)] [] M (kH v1 v2 v3 v4 v5 M)) (hkx152 : ∀ (v2 v4 v5 : Int) (M : Mm), T (E_M_stuck d) injI 152 [(2, vI v2), (4, vI v4), (5, vI v5)] [] M (kx152 v2 v4 v5 M)) (v1 v2 v3 v4 v5 : Int) (M : Mm) : T (E_M_stuck d) injI 55 [(0, .ref 78), (1, vI v1), (2, vI v2), (3, vI v3), (4, vI v4), (5, vI v5)] [] M (f_M_stuck_B55 kH kx152 v1 v2 v3 v4 v5 M) := by
  unfold f_M_stuck_B55
  refine tq_iload_n 3 (E := E_M_stuck d) (pc := 55) (cks_at k_M_stuck 33 rfl rfl) rfl ?_
  refine tq_aload_n 0 (E := E_M_stuck d) (pc := 56) (cks_at k_M_stuck 34 rfl rfl) rfl ?_
  refine tq_iload_n 1 (E := E_M_stuck d) (pc := 57) (cks_at k_M_stuck 35 rfl rfl) rfl ?_
  refine tq_V1 (E := E_M_stuck d) (pc := 58) (cks_at k_M_stuck 36 rfl rfl) mk_M_placeOf lk_M_471 rc_78 (Nat.le_of_ble_eq_true rfl) (c_M_placeOf (d + 4) v1 M) (k_I fun r11 M10 => ?_)
  refine tq_icmp_eq (E := E_M_stuck d) (pc := 61) (tgt := 152) (cks_at k_M_stuck 37 rfl rfl) (by decide) ?_ ?_
  · exact tq_sub [2, 4, 5] rfl (hkx152 v2 v4 v5 M10)
  · refine tq_aload_n 0 (E := E_M_stuck d) (pc := 64) (cks_at k_M_stuck 38 rfl rfl) rfl ?_
    refine tq_iload_n 3 (E := E_M_stuck d) (pc := 65) (cks_at k_M_stuck 39 rfl rfl) rfl ?_
    refine tq_V1 (E := E_M_stuck d) (pc := 66) (cks_at k_M_stuck 40 rfl rfl) mk_M_shortBack lk_M_536 rc_78 (Nat.le_of_ble_eq_true rfl) (c_M_shortBack (d + 2) v3 M10) (k_I fun r13 M12 => ?_)
    refine tq_istore (E := E_M_stuck d) (pc := 69) (cks_at k_M_stuck 41 rfl rfl) (show 6 < 10 by decide) rfl ?_
    refine tq_aload_n 1 (E := E_M_stuck d) (pc := 71) (cks_at k_M_stuck 42 rfl rfl) rfl ?_
    refine tq_iload 0 (E := E_M_stuck d) (pc := 72) (cks_at k_M_stuck 43 rfl rfl) rfl ?_
    refine tq_iload_n 4 (E := E_M_stuck d) (pc := 74) (cks_at k_M_stuck 44 rfl rfl) rfl ?_
    refine tq_V2 (E := E_M_stuck d) (pc := 75) (cks_at k_M_stuck 45 rfl rfl) mk_M_other lk_M_499 rc_78 (Nat.le_of_ble_eq_true rfl) (c_M_other (d + 3) r13 v3 M12) (k_I fun r15 M14 => ?_)
    refine tq_istore (E := E_M_stuck d) (pc := 78) (cks_at k_M_stuck 46 rfl rfl) (show 7 < 10 by decide) rfl ?_
    refine tq_aload_n 2 (E := E_M_stuck d) (pc := 80) (cks_at k_M_stuck 47 rfl rfl) rfl ?_
    refine tq_iload 1 (E := E_M_stuck d) (pc := 81) (cks_at k_M_stuck 48 rfl rfl) rfl ?_
    refine tq_V1 (E := E_M_stuck d) (pc := 83) (cks_at k_M_stuck 49 rfl rfl) mk_M_takesOf lk_M_440 rc_78 (Nat.le_of_ble_eq_true rfl) (c_M_takesOf (d + 4) r13 M14) (k_I fun r17 M16 => ?_)
    refine tq_iconst (E := E_M_stuck d) (pc := 86) (cks_at k_M_stuck 50 rfl rfl) ?_
    refine tq_isub (E := E_M_stuck d) (pc := 87) (cks_at k_M_stuck 51 rfl rfl) ?_
    refine tq_istore (E := E_M_stuck d) (pc := 88) (cks_at k_M_stuck 52 rfl rfl) (show 8 < 10 by decide) rfl ?_
    exact tq_sub [3, 4, 5, 7, 8, 2, 1, 0] rfl (w_M_stuck_L90 d _ (fun v1 v2 v4 v5 v7 M24 => by
        refine tq_iload 5 (E := E_M_stuck d) (pc := 146) (cks_at k_M_stuck 81 rfl rfl) rfl ?_
        refine tq_istore_n (E := E_M_stuck d) (pc := 148) (cks_at k_M_stuck 82 rfl rfl) (show 3 < 10 by decide) rfl ?_
        refine tq_goto (tgt := 55) (E := E_M_stuck d) (pc := 149) (cks_at k_M_stuck 83 rfl rfl) (by decide) ?_
        exact tq_sub [1, 2, 3, 0, 4, 5] rfl (hkH v1 v2 v7 v4 v5 M24)) FU (v1, v2, v4, v5, r13, r15, (r17 - 1), M16))
def f_M_stuck_L55 (kx152 : Int → Int → Int → Mm → Option (Int × Mm)) : Nat → Int × Int × Int × Int × Int × Mm → Option (Int × Mm) := lp fun kH s => f_M_stuck_B55 (fun v1 v2 v3 v4 v5 M => kH (v1, v2, v3, v4, v5, M)) kx152 s.1 s.2.1 s.2.2.1 s.2.2.2.1 s.2.2.2.2.1 s.2.2.2.2.2
set_option maxRecDepth 20000 in
set_option maxHeartbeats 4000000 in
theorem w_M_stuck_L55 (d : Nat) (kx152 : Int → Int → Int → Mm → Option (Int × Mm)) (hkx152 : ∀ (v2 v4 v5 : Int) (M : Mm), T (E_M_stuck d) injI 152 [(2, vI v2), (4, vI v4), (5, vI v5)] [] M (kx152 v2 v4 v5 M)) (n : Nat) (s : Int × Int × Int × Int × Int × Mm) : T (E_M_stuck d) injI 55 [(0, .ref 78), (1, vI s.1), (2, vI s.2.1), (3, vI s.2.2.1), (4, vI s.2.2.2.1), (5, vI s.2.2.2.2.1)] [] s.2.2.2.2.2 (f_M_stuck_L55 kx152 n s) :=
  tq_lp (fun s => [(0, .ref 78), (1, vI s.1), (2, vI s.2.1), (3, vI s.2.2.1), (4, vI s.2.2.2.1), (5, vI s.2.2.2.2.1)]) (fun s => s.2.2.2.2.2) (fun kH hH s => w_M_stuck_B55 d (fun v1 v2 v3 v4 v5 M => kH (v1, v2, v3, v4, v5, M)) kx152 (fun v1 v2 v3 v4 v5 M => hH (v1, v2, v3, v4, v5, M)) hkx152 s.1 s.2.1 s.2.2.1 s.2.2.2.1 s.2.2.2.2.1 s.2.2.2.2.2) n s
def f_M_stuck (v1 : Int) (v2 : Int) (M : Mm) : Option (Int × Mm) :=
  bI (f_M_isWalker v1 M) (fun r2 M1 =>
  if i32 r2 = 0 then
    some ((-1), M1)
  else
    bI (f_M_isIn (i32 v2) 0 1 M1) (fun r4 M3 =>
    if ¬ i32 r4 = 0 then
      bI (f_M_placeOf v1 M3) (fun r6 M5 =>
      bV (f_M_measures r6 M5) (fun M7 =>
      bI (f_M_goalOf v1 M7) (fun r9 M8 =>
      gd (0 ≤ i32 r9 ∧ i32 r9 < ((9 : Nat) : Int)) <|
      if i32 (M8 113 (i32 r9).toNat) < i32 1000000 then
        f_M_stuck_L55 (fun v2 v4 v5 M25 => if ¬ i32 v2 = 0 then
              some (v5, M25)
            else
              some (v4, M25)) FU (v1, v2, r9, ((-1)), ((-1)), M8)
      else
        some ((-1), M8))))
    else
      some ((-1), M3)))
set_option maxRecDepth 20000 in
set_option maxHeartbeats 4000000 in
theorem c_M_stuck (d : Nat) (v1 : Int) (v2 : Int) (M : Mm) (Q : Option Value → Mm → Prop) (h : sat injI (f_M_stuck v1 v2 M) Q) : Ct (d + 6) y_M_stuck [.ref 78, vI v1, vI v2] M Q := by
  refine ct_in (d := d + 5) mk_M_stuck (Nat.le_of_ble_eq_true rfl) (?_ : T (E_M_stuck d) injI 0 [(0, .ref 78), (1, vI v1), (2, vI v2)] [] M (f_M_stuck v1 v2 M)) h
  unfold f_M_stuck
  refine tq_aload_n 0 (E := E_M_stuck d) (pc := 0) (cks_at k_M_stuck 0 rfl rfl) rfl ?_
  refine tq_iload_n 1 (E := E_M_stuck d) (pc := 1) (cks_at k_M_stuck 1 rfl rfl) rfl ?_
  refine tq_V1 (E := E_M_stuck d) (pc := 2) (cks_at k_M_stuck 2 rfl rfl) mk_M_isWalker lk_M_512 rc_78 (Nat.le_of_ble_eq_true rfl) (c_M_isWalker (d + 3) v1 M) (k_I fun r2 M1 => ?_)
  refine tq_if_eq (E := E_M_stuck d) (pc := 5) (tgt := 18) (cks_at k_M_stuck 3 rfl rfl) (by decide) ?_ ?_
  · refine tq_iconst (E := E_M_stuck d) (pc := 18) (cks_at k_M_stuck 10 rfl rfl) ?_
    exact tq_iret (E := E_M_stuck d) (pc := 19) (cks_at k_M_stuck 11 rfl rfl) rfl
  · refine tq_iload_n 2 (E := E_M_stuck d) (pc := 8) (cks_at k_M_stuck 4 rfl rfl) rfl ?_
    refine tq_i2l (E := E_M_stuck d) (pc := 9) (cks_at k_M_stuck 5 rfl rfl) ?_
    refine tq_lconst0 (E := E_M_stuck d) (pc := 10) (cks_at k_M_stuck 6 rfl rfl) ?_
    refine tq_lconst1 (E := E_M_stuck d) (pc := 11) (cks_at k_M_stuck 7 rfl rfl) ?_
    refine tq_S3 (E := E_M_stuck d) (pc := 12) (cks_at k_M_stuck 8 rfl rfl) mk_M_isIn lk_M_265 (Nat.le_of_ble_eq_true rfl) (c_M_isIn (d + 4) (i32 v2) 0 1 M1) (k_I fun r4 M3 => ?_)
    refine tq_if_ne (E := E_M_stuck d) (pc := 15) (tgt := 20) (cks_at k_M_stuck 9 rfl rfl) (by decide) ?_ ?_
    · refine tq_aload_n 0 (E := E_M_stuck d) (pc := 20) (cks_at k_M_stuck 12 rfl rfl) rfl ?_
      refine tq_aload_n 0 (E := E_M_stuck d) (pc := 21) (cks_at k_M_stuck 13 rfl rfl) rfl ?_
      refine tq_iload_n 1 (E := E_M_stuck d) (pc := 22) (cks_at k_M_stuck 14 rfl rfl) rfl ?_
      refine tq_V1 (E := E_M_stuck d) (pc := 23) (cks_at k_M_stuck 15 rfl rfl) mk_M_placeOf lk_M_471 rc_78 (Nat.le_of_ble_eq_true rfl) (c_M_placeOf (d + 4) v1 M3) (k_I fun r6 M5 => ?_)
      refine tq_V1 (E := E_M_stuck d) (pc := 26) (cks_at k_M_stuck 16 rfl rfl) mk_M_measures lk_M_533 rc_78 (Nat.le_of_ble_eq_true rfl) (c_M_measures (d + 3) r6 M5) (k_V fun M7 => ?_)
      refine tq_aload_n 0 (E := E_M_stuck d) (pc := 29) (cks_at k_M_stuck 17 rfl rfl) rfl ?_
      refine tq_iload_n 1 (E := E_M_stuck d) (pc := 30) (cks_at k_M_stuck 18 rfl rfl) rfl ?_
      refine tq_V1 (E := E_M_stuck d) (pc := 31) (cks_at k_M_stuck 19 rfl rfl) mk_M_goalOf lk_M_493 rc_78 (Nat.le_of_ble_eq_true rfl) (c_M_goalOf (d + 4) v1 M7) (k_I fun r9 M8 => ?_)
      refine tq_istore_n (E := E_M_stuck d) (pc := 34) (cks_at k_M_stuck 20 rfl rfl) (show 3 < 10 by decide) rfl ?_
      refine tq_aload_n 1 (E := E_M_stuck d) (pc := 35) (cks_at k_M_stuck 21 rfl rfl) rfl ?_
      refine tq_getR (j := 113) (E := E_M_stuck d) (pc := 36) (cks_at k_M_stuck 22 rfl rfl) fo_M_118 so_78 rfl sp_78_52 ?_
      refine tq_iload_n 0 (E := E_M_stuck d) (pc := 39) (cks_at k_M_stuck 23 rfl rfl) rfl ?_
      refine tq_iald (E := E_M_stuck d) (pc := 40) (cks_at k_M_stuck 24 rfl rfl) sa_113 sn_113 ?_
      refine tq_ldcw (z := 1000000) (E := E_M_stuck d) (pc := 41) (cks_at k_M_stuck 25 rfl rfl) cst_M_459 ?_
      refine tq_icmp_lt (E := E_M_stuck d) (pc := 44) (tgt := 49) (cks_at k_M_stuck 26 rfl rfl) (by decide) ?_ ?_
      · refine tq_iconst (E := E_M_stuck d) (pc := 49) (cks_at k_M_stuck 29 rfl rfl) ?_
        refine tq_istore (E := E_M_stuck d) (pc := 50) (cks_at k_M_stuck 30 rfl rfl) (show 4 < 10 by decide) rfl ?_
        refine tq_iconst (E := E_M_stuck d) (pc := 52) (cks_at k_M_stuck 31 rfl rfl) ?_
        refine tq_istore (E := E_M_stuck d) (pc := 53) (cks_at k_M_stuck 32 rfl rfl) (show 5 < 10 by decide) rfl ?_
        exact tq_sub [3, 4, 5, 2, 1, 0] rfl (w_M_stuck_L55 d _ (fun v2 v4 v5 M25 => by
            refine tq_iload_n 0 (E := E_M_stuck d) (pc := 152) (cks_at k_M_stuck 84 rfl rfl) rfl ?_
            refine tq_if_ne (E := E_M_stuck d) (pc := 153) (tgt := 161) (cks_at k_M_stuck 85 rfl rfl) (by decide) ?_ ?_
            · refine tq_iload 2 (E := E_M_stuck d) (pc := 161) (cks_at k_M_stuck 88 rfl rfl) rfl ?_
              exact tq_iret (E := E_M_stuck d) (pc := 163) (cks_at k_M_stuck 89 rfl rfl) rfl
            · refine tq_iload 1 (E := E_M_stuck d) (pc := 156) (cks_at k_M_stuck 86 rfl rfl) rfl ?_
              refine tq_goto (tgt := 163) (E := E_M_stuck d) (pc := 158) (cks_at k_M_stuck 87 rfl rfl) (by decide) ?_
              exact tq_iret (E := E_M_stuck d) (pc := 163) (cks_at k_M_stuck 89 rfl rfl) rfl) FU (v1, v2, r9, ((-1)), ((-1)), M8))
      · refine tq_iconst (E := E_M_stuck d) (pc := 47) (cks_at k_M_stuck 27 rfl rfl) ?_
        exact tq_iret (E := E_M_stuck d) (pc := 48) (cks_at k_M_stuck 28 rfl rfl) rfl
    · refine tq_iconst (E := E_M_stuck d) (pc := 18) (cks_at k_M_stuck 10 rfl rfl) ?_
      exact tq_iret (E := E_M_stuck d) (pc := 19) (cks_at k_M_stuck 11 rfl rfl) rfl
abbrev E_Ways_stuckAt (d : Nat) : Ev := (Ct (d + 6), "BreathTown$Ways", prog_11_method_15_code, 8, False, 0, (fun _ => 0), (Option.some Jvm.ClassFile.FieldType.int))
def f_Ways_stuckAt_B52 (kH : Int → Int → Int → Mm → Option (Int × Mm)) (kx125 : Int → Int → Int → Mm → Option (Int × Mm)) (v1 v2 v4 : Int) (M : Mm) : Option (Int × Mm) :=
  if i32 (M 48 6) ≤ i32 v4 then
    some ((-1), M)
  else
    bI (f_BT_cell 50 v4 M) (fun r11 M10 =>
    bI (f_BT_cell 51 v4 M10) (fun r13 M12 =>
    bI (f_BT_cell 13 v1 M12) (fun r15 M14 =>
    bI (f_BT_cell 8 r11 M14) (fun r17 M16 =>
    bI (f_Ways_firstNarrow r11 r15 r13 (r13 + r17) M16) (fun r19 M18 =>
    if i32 r19 = i32 ((-1)) then
      kH v1 v2 (v4 + 1) M18
    else
      kx125 v2 r11 r19 M18)))))
set_option maxRecDepth 20000 in
set_option maxHeartbeats 4000000 in
theorem w_Ways_stuckAt_B52 (d : Nat) (kH : Int → Int → Int → Mm → Option (Int × Mm)) (kx125 : Int → Int → Int → Mm → Option (Int × Mm)) (hkH : ∀ (v1 v2 v4 : Int) (M : Mm), T (E_Ways_stuckAt d) injI 52 [(0, .ref 48), (1, vI v1), (2, vI v2), (4, vI v4)] [] M (kH v1 v2 v4 M)) (hkx125 : ∀ (v2 v5 v7 : Int) (M : Mm), T (E_Ways_stuckAt d) injI 125 [(2, vI v2), (5, vI v5), (7, vI v7)] [] M (kx125 v2 v5 v7 M)) (v1 v2 v4 : Int) (M : Mm) : T (E_Ways_stuckAt d) injI 52 [(0, .ref 48), (1, vI v1), (2, vI v2), (4, vI v4)] [] M (f_Ways_stuckAt_B52 kH kx125 v1 v2 v4 M) := by
  unfold f_Ways_stuckAt_B52
  refine tq_iload 3 (E := E_Ways_stuckAt d) (pc := 52) (cks_at k_Ways_stuckAt 29 rfl rfl) rfl ?_
  refine tq_aload_n 0 (E := E_Ways_stuckAt d) (pc := 54) (cks_at k_Ways_stuckAt 30 rfl rfl) rfl ?_
  refine tq_getI (E := E_Ways_stuckAt d) (pc := 55) (cks_at k_Ways_stuckAt 31 rfl rfl) fo_Ways_73 so_48 rfl (by decide) ?_
  refine tq_icmp_ge (E := E_Ways_stuckAt d) (pc := 58) (tgt := 143) (cks_at k_Ways_stuckAt 32 rfl rfl) (by decide) ?_ ?_
  · refine tq_iconst (E := E_Ways_stuckAt d) (pc := 143) (cks_at k_Ways_stuckAt 71 rfl rfl) ?_
    exact tq_iret (E := E_Ways_stuckAt d) (pc := 144) (cks_at k_Ways_stuckAt 72 rfl rfl) rfl
  · refine tq_aload_n 0 (E := E_Ways_stuckAt d) (pc := 61) (cks_at k_Ways_stuckAt 33 rfl rfl) rfl ?_
    refine tq_getR (j := 50) (E := E_Ways_stuckAt d) (pc := 62) (cks_at k_Ways_stuckAt 34 rfl rfl) fo_Ways_15 so_48 rfl sp_48_4 ?_
    refine tq_iload 3 (E := E_Ways_stuckAt d) (pc := 65) (cks_at k_Ways_stuckAt 35 rfl rfl) rfl ?_
    refine tq_S2 (E := E_Ways_stuckAt d) (pc := 67) (cks_at k_Ways_stuckAt 36 rfl rfl) mk_BT_cell lk_Ways_47 (Nat.le_of_ble_eq_true rfl) (c_BT_cell (d + 5) 50 sa_50 v4 M) (k_I fun r11 M10 => ?_)
    refine tq_istore (E := E_Ways_stuckAt d) (pc := 70) (cks_at k_Ways_stuckAt 37 rfl rfl) (show 5 < 8 by decide) rfl ?_
    refine tq_aload_n 1 (E := E_Ways_stuckAt d) (pc := 72) (cks_at k_Ways_stuckAt 38 rfl rfl) rfl ?_
    refine tq_getR (j := 51) (E := E_Ways_stuckAt d) (pc := 73) (cks_at k_Ways_stuckAt 39 rfl rfl) fo_Ways_18 so_48 rfl sp_48_5 ?_
    refine tq_iload 4 (E := E_Ways_stuckAt d) (pc := 76) (cks_at k_Ways_stuckAt 40 rfl rfl) rfl ?_
    refine tq_S2 (E := E_Ways_stuckAt d) (pc := 78) (cks_at k_Ways_stuckAt 41 rfl rfl) mk_BT_cell lk_Ways_47 (Nat.le_of_ble_eq_true rfl) (c_BT_cell (d + 5) 51 sa_51 v4 M10) (k_I fun r13 M12 => ?_)
    refine tq_istore (E := E_Ways_stuckAt d) (pc := 81) (cks_at k_Ways_stuckAt 42 rfl rfl) (show 6 < 8 by decide) rfl ?_
    refine tq_aload_n 2 (E := E_Ways_stuckAt d) (pc := 83) (cks_at k_Ways_stuckAt 43 rfl rfl) rfl ?_
    refine tq_iload 1 (E := E_Ways_stuckAt d) (pc := 84) (cks_at k_Ways_stuckAt 44 rfl rfl) rfl ?_
    refine tq_aload_n 2 (E := E_Ways_stuckAt d) (pc := 86) (cks_at k_Ways_stuckAt 45 rfl rfl) rfl ?_
    refine tq_getR (j := 3) (E := E_Ways_stuckAt d) (pc := 87) (cks_at k_Ways_stuckAt 46 rfl rfl) fo_Ways_30 so_48 rfl sp_48_0 ?_
    refine tq_getR (j := 13) (E := E_Ways_stuckAt d) (pc := 90) (cks_at k_Ways_stuckAt 47 rfl rfl) fo_Ways_104 so_3 rfl sp_3_9 ?_
    refine tq_iload_n 3 (E := E_Ways_stuckAt d) (pc := 93) (cks_at k_Ways_stuckAt 48 rfl rfl) rfl ?_
    refine tq_S2 (E := E_Ways_stuckAt d) (pc := 94) (cks_at k_Ways_stuckAt 49 rfl rfl) mk_BT_cell lk_Ways_47 (Nat.le_of_ble_eq_true rfl) (c_BT_cell (d + 5) 13 sa_13 v1 M12) (k_I fun r15 M14 => ?_)
    refine tq_iload 0 (E := E_Ways_stuckAt d) (pc := 97) (cks_at k_Ways_stuckAt 50 rfl rfl) rfl ?_
    refine tq_iload 0 (E := E_Ways_stuckAt d) (pc := 99) (cks_at k_Ways_stuckAt 51 rfl rfl) rfl ?_
    refine tq_aload_n 2 (E := E_Ways_stuckAt d) (pc := 101) (cks_at k_Ways_stuckAt 52 rfl rfl) rfl ?_
    refine tq_getR (j := 3) (E := E_Ways_stuckAt d) (pc := 102) (cks_at k_Ways_stuckAt 53 rfl rfl) fo_Ways_30 so_48 rfl sp_48_0 ?_
    refine tq_getR (j := 8) (E := E_Ways_stuckAt d) (pc := 105) (cks_at k_Ways_stuckAt 54 rfl rfl) fo_Ways_42 so_3 rfl sp_3_4 ?_
    refine tq_iload 1 (E := E_Ways_stuckAt d) (pc := 108) (cks_at k_Ways_stuckAt 55 rfl rfl) rfl ?_
    refine tq_S2 (E := E_Ways_stuckAt d) (pc := 110) (cks_at k_Ways_stuckAt 56 rfl rfl) mk_BT_cell lk_Ways_47 (Nat.le_of_ble_eq_true rfl) (c_BT_cell (d + 5) 8 sa_8 r11 M14) (k_I fun r17 M16 => ?_)
    refine tq_iadd (E := E_Ways_stuckAt d) (pc := 113) (cks_at k_Ways_stuckAt 57 rfl rfl) ?_
    refine tq_V4 (E := E_Ways_stuckAt d) (pc := 114) (cks_at k_Ways_stuckAt 58 rfl rfl) mk_Ways_firstNarrow lk_Ways_141 rc_48 (Nat.le_of_ble_eq_true rfl) (c_Ways_firstNarrow (d + 0) r11 r15 r13 (r13 + r17) M16) (k_I fun r19 M18 => ?_)
    refine tq_istore (E := E_Ways_stuckAt d) (pc := 117) (cks_at k_Ways_stuckAt 59 rfl rfl) (show 7 < 8 by decide) rfl ?_
    refine tq_iload 0 (E := E_Ways_stuckAt d) (pc := 119) (cks_at k_Ways_stuckAt 60 rfl rfl) rfl ?_
    refine tq_iconst (E := E_Ways_stuckAt d) (pc := 121) (cks_at k_Ways_stuckAt 61 rfl rfl) ?_
    refine tq_icmp_eq (E := E_Ways_stuckAt d) (pc := 122) (tgt := 137) (cks_at k_Ways_stuckAt 62 rfl rfl) (by decide) ?_ ?_
    · refine tq_iinc 6 (E := E_Ways_stuckAt d) (pc := 137) (cks_at k_Ways_stuckAt 69 rfl rfl) rfl (show 4 < 8 by decide) rfl ?_
      refine tq_goto (tgt := 52) (E := E_Ways_stuckAt d) (pc := 140) (cks_at k_Ways_stuckAt 70 rfl rfl) (by decide) ?_
      exact tq_sub [4, 5, 6, 0] rfl (hkH v1 v2 (v4 + 1) M18)
    · exact tq_sub [5, 2, 0] rfl (hkx125 v2 r11 r19 M18)
def f_Ways_stuckAt_L52 (kx125 : Int → Int → Int → Mm → Option (Int × Mm)) : Nat → Int × Int × Int × Mm → Option (Int × Mm) := lp fun kH s => f_Ways_stuckAt_B52 (fun v1 v2 v4 M => kH (v1, v2, v4, M)) kx125 s.1 s.2.1 s.2.2.1 s.2.2.2
set_option maxRecDepth 20000 in
set_option maxHeartbeats 4000000 in
theorem w_Ways_stuckAt_L52 (d : Nat) (kx125 : Int → Int → Int → Mm → Option (Int × Mm)) (hkx125 : ∀ (v2 v5 v7 : Int) (M : Mm), T (E_Ways_stuckAt d) injI 125 [(2, vI v2), (5, vI v5), (7, vI v7)] [] M (kx125 v2 v5 v7 M)) (n : Nat) (s : Int × Int × Int × Mm) : T (E_Ways_stuckAt d) injI 52 [(0, .ref 48), (1, vI s.1), (2, vI s.2.1), (4, vI s.2.2.1)] [] s.2.2.2 (f_Ways_stuckAt_L52 kx125 n s) :=
  tq_lp (fun s => [(0, .ref 48), (1, vI s.1), (2, vI s.2.1), (4, vI s.2.2.1)]) (fun s => s.2.2.2) (fun kH hH s => w_Ways_stuckAt_B52 d (fun v1 v2 v4 M => kH (v1, v2, v4, M)) kx125 (fun v1 v2 v4 M => hH (v1, v2, v4, M)) hkx125 s.1 s.2.1 s.2.2.1 s.2.2.2) n s
def f_Ways_stuckAt (v1 : Int) (v2 : Int) (M : Mm) : Option (Int × Mm) :=
  bI (f_BT_cell 41 v1 M) (fun r2 M1 =>
  bI (f_Now_setOut v1 M1) (fun r4 M3 =>
  bV (f_Ways_search 0 r2 r4 ((-1)) M3) (fun M5 =>
  bI (f_BT_cell 42 v1 M5) (fun r7 M6 =>
  bI (f_Ways_trace 0 r2 r7 M6) (fun r9 M8 =>
  if ¬ i32 r9 = 0 then
    f_Ways_stuckAt_L52 (fun v2 v5 v7 M20 => if ¬ i32 v2 = 0 then
          some (v5, M20)
        else
          some (v7, M20)) FU (v1, v2, 0, M8)
  else
    some ((-1), M8))))))
set_option maxRecDepth 20000 in
set_option maxHeartbeats 4000000 in
theorem c_Ways_stuckAt (d : Nat) (v1 : Int) (v2 : Int) (M : Mm) (Q : Option Value → Mm → Prop) (h : sat injI (f_Ways_stuckAt v1 v2 M) Q) : Ct (d + 7) y_Ways_stuckAt [.ref 48, vI v1, vI v2] M Q := by
  refine ct_in (d := d + 6) mk_Ways_stuckAt (Nat.le_of_ble_eq_true rfl) (?_ : T (E_Ways_stuckAt d) injI 0 [(0, .ref 48), (1, vI v1), (2, vI v2)] [] M (f_Ways_stuckAt v1 v2 M)) h
  unfold f_Ways_stuckAt
  refine tq_aload_n 0 (E := E_Ways_stuckAt d) (pc := 0) (cks_at k_Ways_stuckAt 0 rfl rfl) rfl ?_
  refine tq_getR (j := 39) (E := E_Ways_stuckAt d) (pc := 1) (cks_at k_Ways_stuckAt 1 rfl rfl) fo_Ways_34 so_48 rfl sp_48_1 ?_
  refine tq_getR (j := 41) (E := E_Ways_stuckAt d) (pc := 4) (cks_at k_Ways_stuckAt 2 rfl rfl) fo_Ways_107 so_39 rfl sp_39_2 ?_
  refine tq_iload_n 1 (E := E_Ways_stuckAt d) (pc := 7) (cks_at k_Ways_stuckAt 3 rfl rfl) rfl ?_
  refine tq_S2 (E := E_Ways_stuckAt d) (pc := 8) (cks_at k_Ways_stuckAt 4 rfl rfl) mk_BT_cell lk_Ways_47 (Nat.le_of_ble_eq_true rfl) (c_BT_cell (d + 5) 41 sa_41 v1 M) (k_I fun r2 M1 => ?_)
  refine tq_istore_n (E := E_Ways_stuckAt d) (pc := 11) (cks_at k_Ways_stuckAt 5 rfl rfl) (show 3 < 8 by decide) rfl ?_
  refine tq_aload_n 1 (E := E_Ways_stuckAt d) (pc := 12) (cks_at k_Ways_stuckAt 6 rfl rfl) rfl ?_
  refine tq_iconst (E := E_Ways_stuckAt d) (pc := 13) (cks_at k_Ways_stuckAt 7 rfl rfl) ?_
  refine tq_iload_n 0 (E := E_Ways_stuckAt d) (pc := 14) (cks_at k_Ways_stuckAt 8 rfl rfl) rfl ?_
  refine tq_aload_n 1 (E := E_Ways_stuckAt d) (pc := 15) (cks_at k_Ways_stuckAt 9 rfl rfl) rfl ?_
  refine tq_getR (j := 39) (E := E_Ways_stuckAt d) (pc := 16) (cks_at k_Ways_stuckAt 10 rfl rfl) fo_Ways_34 so_48 rfl sp_48_1 ?_
  refine tq_iload_n 2 (E := E_Ways_stuckAt d) (pc := 19) (cks_at k_Ways_stuckAt 11 rfl rfl) rfl ?_
  refine tq_V1 (E := E_Ways_stuckAt d) (pc := 20) (cks_at k_Ways_stuckAt 12 rfl rfl) mk_Now_setOut lk_Ways_110 rc_39 (Nat.le_of_ble_eq_true rfl) (c_Now_setOut (d + 4) v1 M1) (k_I fun r4 M3 => ?_)
  refine tq_iconst (E := E_Ways_stuckAt d) (pc := 23) (cks_at k_Ways_stuckAt 13 rfl rfl) ?_
  refine tq_V4 (E := E_Ways_stuckAt d) (pc := 24) (cks_at k_Ways_stuckAt 14 rfl rfl) mk_Ways_search lk_Ways_113 rc_48 (Nat.le_of_ble_eq_true rfl) (c_Ways_search (d + 0) 0 r2 r4 ((-1)) M3) (k_V fun M5 => ?_)
  refine tq_aload_n 1 (E := E_Ways_stuckAt d) (pc := 27) (cks_at k_Ways_stuckAt 15 rfl rfl) rfl ?_
  refine tq_iconst (E := E_Ways_stuckAt d) (pc := 28) (cks_at k_Ways_stuckAt 16 rfl rfl) ?_
  refine tq_iload_n 0 (E := E_Ways_stuckAt d) (pc := 29) (cks_at k_Ways_stuckAt 17 rfl rfl) rfl ?_
  refine tq_aload_n 1 (E := E_Ways_stuckAt d) (pc := 30) (cks_at k_Ways_stuckAt 18 rfl rfl) rfl ?_
  refine tq_getR (j := 39) (E := E_Ways_stuckAt d) (pc := 31) (cks_at k_Ways_stuckAt 19 rfl rfl) fo_Ways_34 so_48 rfl sp_48_1 ?_
  refine tq_getR (j := 42) (E := E_Ways_stuckAt d) (pc := 34) (cks_at k_Ways_stuckAt 20 rfl rfl) fo_Ways_131 so_39 rfl sp_39_3 ?_
  refine tq_iload_n 2 (E := E_Ways_stuckAt d) (pc := 37) (cks_at k_Ways_stuckAt 21 rfl rfl) rfl ?_
  refine tq_S2 (E := E_Ways_stuckAt d) (pc := 38) (cks_at k_Ways_stuckAt 22 rfl rfl) mk_BT_cell lk_Ways_47 (Nat.le_of_ble_eq_true rfl) (c_BT_cell (d + 5) 42 sa_42 v1 M5) (k_I fun r7 M6 => ?_)
  refine tq_V3 (E := E_Ways_stuckAt d) (pc := 41) (cks_at k_Ways_stuckAt 23 rfl rfl) mk_Ways_trace lk_Ways_134 rc_48 (Nat.le_of_ble_eq_true rfl) (c_Ways_trace (d + 0) 0 r2 r7 M6) (k_I fun r9 M8 => ?_)
  refine tq_if_ne (E := E_Ways_stuckAt d) (pc := 44) (tgt := 49) (cks_at k_Ways_stuckAt 24 rfl rfl) (by decide) ?_ ?_
  · refine tq_iconst (E := E_Ways_stuckAt d) (pc := 49) (cks_at k_Ways_stuckAt 27 rfl rfl) ?_
    refine tq_istore (E := E_Ways_stuckAt d) (pc := 50) (cks_at k_Ways_stuckAt 28 rfl rfl) (show 4 < 8 by decide) rfl ?_
    exact tq_sub [2, 3, 4, 0] rfl (w_Ways_stuckAt_L52 d _ (fun v2 v5 v7 M20 => by
        refine tq_iload_n 0 (E := E_Ways_stuckAt d) (pc := 125) (cks_at k_Ways_stuckAt 63 rfl rfl) rfl ?_
        refine tq_if_ne (E := E_Ways_stuckAt d) (pc := 126) (tgt := 134) (cks_at k_Ways_stuckAt 64 rfl rfl) (by decide) ?_ ?_
        · refine tq_iload 1 (E := E_Ways_stuckAt d) (pc := 134) (cks_at k_Ways_stuckAt 67 rfl rfl) rfl ?_
          exact tq_iret (E := E_Ways_stuckAt d) (pc := 136) (cks_at k_Ways_stuckAt 68 rfl rfl) rfl
        · refine tq_iload 2 (E := E_Ways_stuckAt d) (pc := 129) (cks_at k_Ways_stuckAt 65 rfl rfl) rfl ?_
          refine tq_goto (tgt := 136) (E := E_Ways_stuckAt d) (pc := 131) (cks_at k_Ways_stuckAt 66 rfl rfl) (by decide) ?_
          exact tq_iret (E := E_Ways_stuckAt d) (pc := 136) (cks_at k_Ways_stuckAt 68 rfl rfl) rfl) FU (v1, v2, 0, M8))
  · refine tq_iconst (E := E_Ways_stuckAt d) (pc := 47) (cks_at k_Ways_stuckAt 25 rfl rfl) ?_
    exact tq_iret (E := E_Ways_stuckAt d) (pc := 48) (cks_at k_Ways_stuckAt 26 rfl rfl) rfl
abbrev E_BT_stuck (d : Nat) : Ev := (Ct (d + 7), "BreathTown", prog_1_method_17_code, 3, False, 0, (fun _ => 0), (Option.some Jvm.ClassFile.FieldType.int))
def f_BT_stuck (v1 : Int) (v2 : Int) (M : Mm) : Option (Int × Mm) :=
  bI (f_Told_hasA 3 2 v1 M) (fun r2 M1 =>
  if i32 r2 = 0 then
    some ((-1), M1)
  else
    if i32 v2 < 0 then
      some ((-1), M1)
    else
      if i32 v2 ≤ i32 1 then
        bI (f_Ways_stuckAt v1 v2 M1) (fun r4 M3 =>
        some (r4, M3))
      else
        some ((-1), M1))
set_option maxRecDepth 20000 in
set_option maxHeartbeats 4000000 in
theorem c_BT_stuck (d : Nat) (v1 : Int) (v2 : Int) (M : Mm) (Q : Option Value → Mm → Prop) (h : sat injI (f_BT_stuck v1 v2 M) Q) : Ct (d + 8) y_BT_stuck [.ref 0, vI v1, vI v2] M Q := by
  refine ct_in (d := d + 7) mk_BT_stuck (Nat.le_of_ble_eq_true rfl) (?_ : T (E_BT_stuck d) injI 0 [(0, .ref 0), (1, vI v1), (2, vI v2)] [] M (f_BT_stuck v1 v2 M)) h
  unfold f_BT_stuck
  refine tq_aload_n 0 (E := E_BT_stuck d) (pc := 0) (cks_at k_BT_stuck 0 rfl rfl) rfl ?_
  refine tq_getR (j := 3) (E := E_BT_stuck d) (pc := 1) (cks_at k_BT_stuck 1 rfl rfl) fo_BT_19 so_0 rfl sp_0_1 ?_
  refine tq_iconst (E := E_BT_stuck d) (pc := 4) (cks_at k_BT_stuck 2 rfl rfl) ?_
  refine tq_iload_n 1 (E := E_BT_stuck d) (pc := 5) (cks_at k_BT_stuck 3 rfl rfl) rfl ?_
  refine tq_V2 (E := E_BT_stuck d) (pc := 6) (cks_at k_BT_stuck 4 rfl rfl) mk_Told_hasA lk_BT_143 (isTold_rc (Or.inl rfl)) (Nat.le_of_ble_eq_true rfl) (c_Told_hasA (d + 4) 3 (Or.inl rfl) 2 v1 M) (k_I fun r2 M1 => ?_)
  refine tq_if_eq (E := E_BT_stuck d) (pc := 9) (tgt := 21) (cks_at k_BT_stuck 5 rfl rfl) (by decide) ?_ ?_
  · refine tq_iconst (E := E_BT_stuck d) (pc := 21) (cks_at k_BT_stuck 11 rfl rfl) ?_
    exact tq_iret (E := E_BT_stuck d) (pc := 22) (cks_at k_BT_stuck 12 rfl rfl) rfl
  · refine tq_iload_n 2 (E := E_BT_stuck d) (pc := 12) (cks_at k_BT_stuck 6 rfl rfl) rfl ?_
    refine tq_if_lt (E := E_BT_stuck d) (pc := 13) (tgt := 21) (cks_at k_BT_stuck 7 rfl rfl) (by decide) ?_ ?_
    · refine tq_iconst (E := E_BT_stuck d) (pc := 21) (cks_at k_BT_stuck 11 rfl rfl) ?_
      exact tq_iret (E := E_BT_stuck d) (pc := 22) (cks_at k_BT_stuck 12 rfl rfl) rfl
    · refine tq_iload_n 2 (E := E_BT_stuck d) (pc := 16) (cks_at k_BT_stuck 8 rfl rfl) rfl ?_
      refine tq_iconst (E := E_BT_stuck d) (pc := 17) (cks_at k_BT_stuck 9 rfl rfl) ?_
      refine tq_icmp_le (E := E_BT_stuck d) (pc := 18) (tgt := 23) (cks_at k_BT_stuck 10 rfl rfl) (by decide) ?_ ?_
      · refine tq_aload_n 0 (E := E_BT_stuck d) (pc := 23) (cks_at k_BT_stuck 13 rfl rfl) rfl ?_
        refine tq_getR (j := 48) (E := E_BT_stuck d) (pc := 24) (cks_at k_BT_stuck 14 rfl rfl) fo_BT_58 so_0 rfl sp_0_6 ?_
        refine tq_iload_n 1 (E := E_BT_stuck d) (pc := 27) (cks_at k_BT_stuck 15 rfl rfl) rfl ?_
        refine tq_iload_n 2 (E := E_BT_stuck d) (pc := 28) (cks_at k_BT_stuck 16 rfl rfl) rfl ?_
        refine tq_V2 (E := E_BT_stuck d) (pc := 29) (cks_at k_BT_stuck 17 rfl rfl) mk_Ways_stuckAt lk_BT_224 rc_48 (Nat.le_of_ble_eq_true rfl) (c_Ways_stuckAt (d + 0) v1 v2 M1) (k_I fun r4 M3 => ?_)
        exact tq_iret (E := E_BT_stuck d) (pc := 32) (cks_at k_BT_stuck 18 rfl rfl) rfl
      · refine tq_iconst (E := E_BT_stuck d) (pc := 21) (cks_at k_BT_stuck 11 rfl rfl) ?_
        exact tq_iret (E := E_BT_stuck d) (pc := 22) (cks_at k_BT_stuck 12 rfl rfl) rfl
abbrev E_M_isPlace (d : Nat) : Ev := (Ct (d + 1), "BreathTownModel", prog_14_method_46_code, 2, False, 0, (fun _ => 0), (Option.some Jvm.ClassFile.FieldType.boolean))
def f_M_isPlace (v1 : Int) (M : Mm) : Option (Int × Mm) :=
  bI (f_M_placeMany M) (fun r2 M1 =>
  bI (f_M_isIn (i32 v1) 0 (i32 (r2 - 1)) M1) (fun r4 M3 =>
  gd (i32 r4 = 0 ∨ i32 r4 = 1) (some (r4, M3))))
set_option maxRecDepth 20000 in
set_option maxHeartbeats 4000000 in
theorem c_M_isPlace (d : Nat) (v1 : Int) (M : Mm) (Q : Option Value → Mm → Prop) (h : sat injI (f_M_isPlace v1 M) Q) : Ct (d + 2) y_M_isPlace [.ref 78, vI v1] M Q := by
  refine ct_in (d := d + 1) mk_M_isPlace (Nat.le_of_ble_eq_true rfl) (?_ : T (E_M_isPlace d) injI 0 [(0, .ref 78), (1, vI v1)] [] M (f_M_isPlace v1 M)) h
  unfold f_M_isPlace
  refine tq_iload_n 1 (E := E_M_isPlace d) (pc := 0) (cks_at k_M_isPlace 0 rfl rfl) rfl ?_
  refine tq_i2l (E := E_M_isPlace d) (pc := 1) (cks_at k_M_isPlace 1 rfl rfl) ?_
  refine tq_lconst0 (E := E_M_isPlace d) (pc := 2) (cks_at k_M_isPlace 2 rfl rfl) ?_
  refine tq_aload_n 0 (E := E_M_isPlace d) (pc := 3) (cks_at k_M_isPlace 3 rfl rfl) rfl ?_
  refine tq_V0 (E := E_M_isPlace d) (pc := 4) (cks_at k_M_isPlace 4 rfl rfl) mk_M_placeMany lk_M_409 rc_78 (Nat.le_of_ble_eq_true rfl) (c_M_placeMany (d + 0) M) (k_I fun r2 M1 => ?_)
  refine tq_iconst (E := E_M_isPlace d) (pc := 7) (cks_at k_M_isPlace 5 rfl rfl) ?_
  refine tq_isub (E := E_M_isPlace d) (pc := 8) (cks_at k_M_isPlace 6 rfl rfl) ?_
  refine tq_i2l (E := E_M_isPlace d) (pc := 9) (cks_at k_M_isPlace 7 rfl rfl) ?_
  refine tq_S3 (E := E_M_isPlace d) (pc := 10) (cks_at k_M_isPlace 8 rfl rfl) mk_M_isIn lk_M_265 (Nat.le_of_ble_eq_true rfl) (c_M_isIn (d + 0) (i32 v1) 0 (i32 (r2 - 1)) M1) (k_I fun r4 M3 => ?_)
  exact tq_zret (E := E_M_isPlace d) (pc := 13) (cks_at k_M_isPlace 9 rfl rfl) rfl
abbrev E_M_arrival (d : Nat) : Ev := (Ct (d + 12), "BreathTownModel", prog_14_method_85_code, 3, False, 0, (fun _ => 0), (Option.some Jvm.ClassFile.FieldType.int))
def f_M_arrival (v1 : Int) (v2 : Int) (M : Mm) : Option (Int × Mm) :=
  bI (f_M_isWalker v1 M) (fun r2 M1 =>
  if i32 r2 = 0 then
    some ((-1), M1)
  else
    bI (f_M_isPlace v2 M1) (fun r4 M3 =>
    if ¬ i32 r4 = 0 then
      bd (up M3 78 47 0) (fun M5 =>
      bV (f_M_spreadsFor v1 ((-1)) M5) (fun M6 =>
      gd (0 ≤ i32 v2 ∧ i32 v2 < ((9 : Nat) : Int)) <|
      if ¬ i32 (M6 110 (i32 v2).toNat) = i32 1000000 then
        gd (0 ≤ i32 v2 ∧ i32 v2 < ((9 : Nat) : Int)) <|
        some (M6 110 (i32 v2).toNat, M6)
      else
        some ((-1), M6)))
    else
      some ((-1), M3)))
set_option maxRecDepth 20000 in
set_option maxHeartbeats 4000000 in
theorem c_M_arrival (d : Nat) (v1 : Int) (v2 : Int) (M : Mm) (Q : Option Value → Mm → Prop) (h : sat injI (f_M_arrival v1 v2 M) Q) : Ct (d + 13) y_M_arrival [.ref 78, vI v1, vI v2] M Q := by
  refine ct_in (d := d + 12) mk_M_arrival (Nat.le_of_ble_eq_true rfl) (?_ : T (E_M_arrival d) injI 0 [(0, .ref 78), (1, vI v1), (2, vI v2)] [] M (f_M_arrival v1 v2 M)) h
  unfold f_M_arrival
  refine tq_aload_n 0 (E := E_M_arrival d) (pc := 0) (cks_at k_M_arrival 0 rfl rfl) rfl ?_
  refine tq_iload_n 1 (E := E_M_arrival d) (pc := 1) (cks_at k_M_arrival 1 rfl rfl) rfl ?_
  refine tq_V1 (E := E_M_arrival d) (pc := 2) (cks_at k_M_arrival 2 rfl rfl) mk_M_isWalker lk_M_512 rc_78 (Nat.le_of_ble_eq_true rfl) (c_M_isWalker (d + 10) v1 M) (k_I fun r2 M1 => ?_)
  refine tq_if_eq (E := E_M_arrival d) (pc := 5) (tgt := 16) (cks_at k_M_arrival 3 rfl rfl) (by decide) ?_ ?_
  · refine tq_iconst (E := E_M_arrival d) (pc := 16) (cks_at k_M_arrival 8 rfl rfl) ?_
    exact tq_iret (E := E_M_arrival d) (pc := 17) (cks_at k_M_arrival 9 rfl rfl) rfl
  · refine tq_aload_n 0 (E := E_M_arrival d) (pc := 8) (cks_at k_M_arrival 4 rfl rfl) rfl ?_
    refine tq_iload_n 2 (E := E_M_arrival d) (pc := 9) (cks_at k_M_arrival 5 rfl rfl) rfl ?_
    refine tq_V1 (E := E_M_arrival d) (pc := 10) (cks_at k_M_arrival 6 rfl rfl) mk_M_isPlace lk_M_530 rc_78 (Nat.le_of_ble_eq_true rfl) (c_M_isPlace (d + 10) v2 M1) (k_I fun r4 M3 => ?_)
    refine tq_if_ne (E := E_M_arrival d) (pc := 13) (tgt := 18) (cks_at k_M_arrival 7 rfl rfl) (by decide) ?_ ?_
    · refine tq_aload_n 0 (E := E_M_arrival d) (pc := 18) (cks_at k_M_arrival 10 rfl rfl) rfl ?_
      refine tq_iconst (E := E_M_arrival d) (pc := 19) (cks_at k_M_arrival 11 rfl rfl) ?_
      refine tq_putI (E := E_M_arrival d) (pc := 20) (cks_at k_M_arrival 12 rfl rfl) fo_M_447 so_78 rfl po_12_47 (fun M5 => ?_)
      refine tq_aload_n 0 (E := E_M_arrival d) (pc := 23) (cks_at k_M_arrival 13 rfl rfl) rfl ?_
      refine tq_iload_n 1 (E := E_M_arrival d) (pc := 24) (cks_at k_M_arrival 14 rfl rfl) rfl ?_
      refine tq_iconst (E := E_M_arrival d) (pc := 25) (cks_at k_M_arrival 15 rfl rfl) ?_
      refine tq_V2 (E := E_M_arrival d) (pc := 26) (cks_at k_M_arrival 16 rfl rfl) mk_M_spreadsFor lk_M_487 rc_78 (Nat.le_of_ble_eq_true rfl) (c_M_spreadsFor (d + 0) v1 ((-1)) M5) (k_V fun M6 => ?_)
      refine tq_aload_n 0 (E := E_M_arrival d) (pc := 29) (cks_at k_M_arrival 17 rfl rfl) rfl ?_
      refine tq_getR (j := 110) (E := E_M_arrival d) (pc := 30) (cks_at k_M_arrival 18 rfl rfl) fo_M_109 so_78 rfl sp_78_48 ?_
      refine tq_iload_n 2 (E := E_M_arrival d) (pc := 33) (cks_at k_M_arrival 19 rfl rfl) rfl ?_
      refine tq_iald (E := E_M_arrival d) (pc := 34) (cks_at k_M_arrival 20 rfl rfl) sa_110 sn_110 ?_
      refine tq_ldcw (z := 1000000) (E := E_M_arrival d) (pc := 35) (cks_at k_M_arrival 21 rfl rfl) cst_M_459 ?_
      refine tq_icmp_ne (E := E_M_arrival d) (pc := 38) (tgt := 45) (cks_at k_M_arrival 22 rfl rfl) (by decide) ?_ ?_
      · refine tq_aload_n 0 (E := E_M_arrival d) (pc := 45) (cks_at k_M_arrival 25 rfl rfl) rfl ?_
        refine tq_getR (j := 110) (E := E_M_arrival d) (pc := 46) (cks_at k_M_arrival 26 rfl rfl) fo_M_109 so_78 rfl sp_78_48 ?_
        refine tq_iload_n 2 (E := E_M_arrival d) (pc := 49) (cks_at k_M_arrival 27 rfl rfl) rfl ?_
        refine tq_iald (E := E_M_arrival d) (pc := 50) (cks_at k_M_arrival 28 rfl rfl) sa_110 sn_110 ?_
        exact tq_iret (E := E_M_arrival d) (pc := 51) (cks_at k_M_arrival 29 rfl rfl) rfl
      · refine tq_iconst (E := E_M_arrival d) (pc := 41) (cks_at k_M_arrival 23 rfl rfl) ?_
        refine tq_goto (tgt := 51) (E := E_M_arrival d) (pc := 42) (cks_at k_M_arrival 24 rfl rfl) (by decide) ?_
        exact tq_iret (E := E_M_arrival d) (pc := 51) (cks_at k_M_arrival 29 rfl rfl) rfl
    · refine tq_iconst (E := E_M_arrival d) (pc := 16) (cks_at k_M_arrival 8 rfl rfl) ?_
      exact tq_iret (E := E_M_arrival d) (pc := 17) (cks_at k_M_arrival 9 rfl rfl) rfl
abbrev E_BT_arrival (d : Nat) : Ev := (Ct (d + 7), "BreathTown", prog_1_method_16_code, 3, False, 0, (fun _ => 0), (Option.some Jvm.ClassFile.FieldType.int))
def f_BT_arrival (v1 : Int) (v2 : Int) (M : Mm) : Option (Int × Mm) :=
  bI (f_Told_hasA 3 2 v1 M) (fun r2 M1 =>
  if i32 r2 = 0 then
    some ((-1), M1)
  else
    bI (f_Told_hasA 3 0 v2 M1) (fun r4 M3 =>
    if ¬ i32 r4 = 0 then
      bV (f_Ways_searchFor v1 ((-1)) M3) (fun M5 =>
      bI (f_Ways_soonestAt v2 M5) (fun r7 M6 =>
      some (r7, M6)))
    else
      some ((-1), M3)))
set_option maxRecDepth 20000 in
set_option maxHeartbeats 4000000 in
theorem c_BT_arrival (d : Nat) (v1 : Int) (v2 : Int) (M : Mm) (Q : Option Value → Mm → Prop) (h : sat injI (f_BT_arrival v1 v2 M) Q) : Ct (d + 8) y_BT_arrival [.ref 0, vI v1, vI v2] M Q := by
  refine ct_in (d := d + 7) mk_BT_arrival (Nat.le_of_ble_eq_true rfl) (?_ : T (E_BT_arrival d) injI 0 [(0, .ref 0), (1, vI v1), (2, vI v2)] [] M (f_BT_arrival v1 v2 M)) h
  unfold f_BT_arrival
  refine tq_aload_n 0 (E := E_BT_arrival d) (pc := 0) (cks_at k_BT_arrival 0 rfl rfl) rfl ?_
  refine tq_getR (j := 3) (E := E_BT_arrival d) (pc := 1) (cks_at k_BT_arrival 1 rfl rfl) fo_BT_19 so_0 rfl sp_0_1 ?_
  refine tq_iconst (E := E_BT_arrival d) (pc := 4) (cks_at k_BT_arrival 2 rfl rfl) ?_
  refine tq_iload_n 1 (E := E_BT_arrival d) (pc := 5) (cks_at k_BT_arrival 3 rfl rfl) rfl ?_
  refine tq_V2 (E := E_BT_arrival d) (pc := 6) (cks_at k_BT_arrival 4 rfl rfl) mk_Told_hasA lk_BT_143 (isTold_rc (Or.inl rfl)) (Nat.le_of_ble_eq_true rfl) (c_Told_hasA (d + 4) 3 (Or.inl rfl) 2 v1 M) (k_I fun r2 M1 => ?_)
  refine tq_if_eq (E := E_BT_arrival d) (pc := 9) (tgt := 24) (cks_at k_BT_arrival 5 rfl rfl) (by decide) ?_ ?_
  · refine tq_iconst (E := E_BT_arrival d) (pc := 24) (cks_at k_BT_arrival 12 rfl rfl) ?_
    exact tq_iret (E := E_BT_arrival d) (pc := 25) (cks_at k_BT_arrival 13 rfl rfl) rfl
  · refine tq_aload_n 0 (E := E_BT_arrival d) (pc := 12) (cks_at k_BT_arrival 6 rfl rfl) rfl ?_
    refine tq_getR (j := 3) (E := E_BT_arrival d) (pc := 13) (cks_at k_BT_arrival 7 rfl rfl) fo_BT_19 so_0 rfl sp_0_1 ?_
    refine tq_iconst (E := E_BT_arrival d) (pc := 16) (cks_at k_BT_arrival 8 rfl rfl) ?_
    refine tq_iload_n 2 (E := E_BT_arrival d) (pc := 17) (cks_at k_BT_arrival 9 rfl rfl) rfl ?_
    refine tq_V2 (E := E_BT_arrival d) (pc := 18) (cks_at k_BT_arrival 10 rfl rfl) mk_Told_hasA lk_BT_143 (isTold_rc (Or.inl rfl)) (Nat.le_of_ble_eq_true rfl) (c_Told_hasA (d + 4) 3 (Or.inl rfl) 0 v2 M1) (k_I fun r4 M3 => ?_)
    refine tq_if_ne (E := E_BT_arrival d) (pc := 21) (tgt := 26) (cks_at k_BT_arrival 11 rfl rfl) (by decide) ?_ ?_
    · refine tq_aload_n 0 (E := E_BT_arrival d) (pc := 26) (cks_at k_BT_arrival 14 rfl rfl) rfl ?_
      refine tq_getR (j := 48) (E := E_BT_arrival d) (pc := 27) (cks_at k_BT_arrival 15 rfl rfl) fo_BT_58 so_0 rfl sp_0_6 ?_
      refine tq_iload_n 1 (E := E_BT_arrival d) (pc := 30) (cks_at k_BT_arrival 16 rfl rfl) rfl ?_
      refine tq_iconst (E := E_BT_arrival d) (pc := 31) (cks_at k_BT_arrival 17 rfl rfl) ?_
      refine tq_V2 (E := E_BT_arrival d) (pc := 32) (cks_at k_BT_arrival 18 rfl rfl) mk_Ways_searchFor lk_BT_217 rc_48 (Nat.le_of_ble_eq_true rfl) (c_Ways_searchFor (d + 0) v1 ((-1)) M3) (k_V fun M5 => ?_)
      refine tq_aload_n 0 (E := E_BT_arrival d) (pc := 35) (cks_at k_BT_arrival 19 rfl rfl) rfl ?_
      refine tq_getR (j := 48) (E := E_BT_arrival d) (pc := 36) (cks_at k_BT_arrival 20 rfl rfl) fo_BT_58 so_0 rfl sp_0_6 ?_
      refine tq_iload_n 2 (E := E_BT_arrival d) (pc := 39) (cks_at k_BT_arrival 21 rfl rfl) rfl ?_
      refine tq_V1 (E := E_BT_arrival d) (pc := 40) (cks_at k_BT_arrival 22 rfl rfl) mk_Ways_soonestAt lk_BT_221 rc_48 (Nat.le_of_ble_eq_true rfl) (c_Ways_soonestAt (d + 5) v2 M5) (k_I fun r7 M6 => ?_)
      exact tq_iret (E := E_BT_arrival d) (pc := 43) (cks_at k_BT_arrival 23 rfl rfl) rfl
    · refine tq_iconst (E := E_BT_arrival d) (pc := 24) (cks_at k_BT_arrival 12 rfl rfl) ?_
      exact tq_iret (E := E_BT_arrival d) (pc := 25) (cks_at k_BT_arrival 13 rfl rfl) rfl
abbrev E_M_way (d : Nat) : Ev := (Ct (d + 14), "BreathTownModel", prog_14_method_84_code, 3, False, 0, (fun _ => 0), (Option.some Jvm.ClassFile.FieldType.int))
def f_M_way (v1 : Int) (v2 : Int) (M : Mm) : Option (Int × Mm) :=
  bI (f_M_isWalker v1 M) (fun r2 M1 =>
  if i32 r2 = 0 then
    some ((-1), M1)
  else
    bI (f_M_hasWay v1 M1) (fun r4 M3 =>
    if ¬ i32 r4 = 0 then
      if ¬ i32 v2 = i32 ((-1)) then
        if ¬ i32 v2 = i32 20 then
          bI (f_M_isIn (i32 v2) 0 (i32 ((M3 78 51) - 1)) M3) (fun r6 M5 =>
          if i32 r6 = 0 then
            bI (f_M_isIn (i32 v2) 100 (i32 (99 + (M5 78 51))) M5) (fun r8 M7 =>
            if i32 r8 = 0 then
              some ((-1), M7)
            else
              gd (0 ≤ i32 (((M7 78 51) + 99) - v2) ∧ i32 (((M7 78 51) + 99) - v2) < ((12 : Nat) : Int)) <|
              some (M7 112 (i32 (((M7 78 51) + 99) - v2)).toNat, M7))
          else
            gd (0 ≤ i32 (((M5 78 51) - 1) - v2) ∧ i32 (((M5 78 51) - 1) - v2) < ((12 : Nat) : Int)) <|
            some (M5 111 (i32 (((M5 78 51) - 1) - v2)).toNat, M5))
        else
          some (M3 78 51, M3)
      else
        bI (f_M_goalOf v1 M3) (fun r10 M9 =>
        gd (0 ≤ i32 r10 ∧ i32 r10 < ((9 : Nat) : Int)) <|
        some (M9 110 (i32 r10).toNat, M9))
    else
      some ((-1), M3)))
set_option maxRecDepth 20000 in
set_option maxHeartbeats 4000000 in
theorem c_M_way (d : Nat) (v1 : Int) (v2 : Int) (M : Mm) (Q : Option Value → Mm → Prop) (h : sat injI (f_M_way v1 v2 M) Q) : Ct (d + 15) y_M_way [.ref 78, vI v1, vI v2] M Q := by
  refine ct_in (d := d + 14) mk_M_way (Nat.le_of_ble_eq_true rfl) (?_ : T (E_M_way d) injI 0 [(0, .ref 78), (1, vI v1), (2, vI v2)] [] M (f_M_way v1 v2 M)) h
  unfold f_M_way
  refine tq_aload_n 0 (E := E_M_way d) (pc := 0) (cks_at k_M_way 0 rfl rfl) rfl ?_
  refine tq_iload_n 1 (E := E_M_way d) (pc := 1) (cks_at k_M_way 1 rfl rfl) rfl ?_
  refine tq_V1 (E := E_M_way d) (pc := 2) (cks_at k_M_way 2 rfl rfl) mk_M_isWalker lk_M_512 rc_78 (Nat.le_of_ble_eq_true rfl) (c_M_isWalker (d + 12) v1 M) (k_I fun r2 M1 => ?_)
  refine tq_if_eq (E := E_M_way d) (pc := 5) (tgt := 16) (cks_at k_M_way 3 rfl rfl) (by decide) ?_ ?_
  · refine tq_iconst (E := E_M_way d) (pc := 16) (cks_at k_M_way 8 rfl rfl) ?_
    exact tq_iret (E := E_M_way d) (pc := 17) (cks_at k_M_way 9 rfl rfl) rfl
  · refine tq_aload_n 0 (E := E_M_way d) (pc := 8) (cks_at k_M_way 4 rfl rfl) rfl ?_
    refine tq_iload_n 1 (E := E_M_way d) (pc := 9) (cks_at k_M_way 5 rfl rfl) rfl ?_
    refine tq_V1 (E := E_M_way d) (pc := 10) (cks_at k_M_way 6 rfl rfl) mk_M_hasWay lk_M_525 rc_78 (Nat.le_of_ble_eq_true rfl) (c_M_hasWay (d + 0) v1 M1) (k_I fun r4 M3 => ?_)
    refine tq_if_ne (E := E_M_way d) (pc := 13) (tgt := 18) (cks_at k_M_way 7 rfl rfl) (by decide) ?_ ?_
    · refine tq_iload_n 2 (E := E_M_way d) (pc := 18) (cks_at k_M_way 10 rfl rfl) rfl ?_
      refine tq_iconst (E := E_M_way d) (pc := 19) (cks_at k_M_way 11 rfl rfl) ?_
      refine tq_icmp_ne (E := E_M_way d) (pc := 20) (tgt := 34) (cks_at k_M_way 12 rfl rfl) (by decide) ?_ ?_
      · refine tq_iload_n 2 (E := E_M_way d) (pc := 34) (cks_at k_M_way 20 rfl rfl) rfl ?_
        refine tq_bipush (E := E_M_way d) (pc := 35) (cks_at k_M_way 21 rfl rfl) (by decide) (by decide) ?_
        refine tq_icmp_ne (E := E_M_way d) (pc := 37) (tgt := 45) (cks_at k_M_way 22 rfl rfl) (by decide) ?_ ?_
        · refine tq_iload_n 2 (E := E_M_way d) (pc := 45) (cks_at k_M_way 26 rfl rfl) rfl ?_
          refine tq_i2l (E := E_M_way d) (pc := 46) (cks_at k_M_way 27 rfl rfl) ?_
          refine tq_lconst0 (E := E_M_way d) (pc := 47) (cks_at k_M_way 28 rfl rfl) ?_
          refine tq_aload_n 0 (E := E_M_way d) (pc := 48) (cks_at k_M_way 29 rfl rfl) rfl ?_
          refine tq_getI (E := E_M_way d) (pc := 49) (cks_at k_M_way 30 rfl rfl) fo_M_490 so_78 rfl (by decide) ?_
          refine tq_iconst (E := E_M_way d) (pc := 52) (cks_at k_M_way 31 rfl rfl) ?_
          refine tq_isub (E := E_M_way d) (pc := 53) (cks_at k_M_way 32 rfl rfl) ?_
          refine tq_i2l (E := E_M_way d) (pc := 54) (cks_at k_M_way 33 rfl rfl) ?_
          refine tq_S3 (E := E_M_way d) (pc := 55) (cks_at k_M_way 34 rfl rfl) mk_M_isIn lk_M_265 (Nat.le_of_ble_eq_true rfl) (c_M_isIn (d + 13) (i32 v2) 0 (i32 ((M3 78 51) - 1)) M3) (k_I fun r6 M5 => ?_)
          refine tq_if_eq (E := E_M_way d) (pc := 58) (tgt := 75) (cks_at k_M_way 35 rfl rfl) (by decide) ?_ ?_
          · refine tq_iload_n 2 (E := E_M_way d) (pc := 75) (cks_at k_M_way 46 rfl rfl) rfl ?_
            refine tq_i2l (E := E_M_way d) (pc := 76) (cks_at k_M_way 47 rfl rfl) ?_
            refine tq_ldc2 (z := 100) (E := E_M_way d) (pc := 77) (cks_at k_M_way 48 rfl rfl) cst_M_528 ?_
            refine tq_bipush (E := E_M_way d) (pc := 80) (cks_at k_M_way 49 rfl rfl) (by decide) (by decide) ?_
            refine tq_aload_n 0 (E := E_M_way d) (pc := 82) (cks_at k_M_way 50 rfl rfl) rfl ?_
            refine tq_getI (E := E_M_way d) (pc := 83) (cks_at k_M_way 51 rfl rfl) fo_M_490 so_78 rfl (by decide) ?_
            refine tq_iadd (E := E_M_way d) (pc := 86) (cks_at k_M_way 52 rfl rfl) ?_
            refine tq_i2l (E := E_M_way d) (pc := 87) (cks_at k_M_way 53 rfl rfl) ?_
            refine tq_S3 (E := E_M_way d) (pc := 88) (cks_at k_M_way 54 rfl rfl) mk_M_isIn lk_M_265 (Nat.le_of_ble_eq_true rfl) (c_M_isIn (d + 13) (i32 v2) 100 (i32 (99 + (M5 78 51))) M5) (k_I fun r8 M7 => ?_)
            refine tq_if_eq (E := E_M_way d) (pc := 91) (tgt := 111) (cks_at k_M_way 55 rfl rfl) (by decide) ?_ ?_
            · refine tq_iconst (E := E_M_way d) (pc := 111) (cks_at k_M_way 66 rfl rfl) ?_
              exact tq_iret (E := E_M_way d) (pc := 112) (cks_at k_M_way 67 rfl rfl) rfl
            · refine tq_aload_n 0 (E := E_M_way d) (pc := 94) (cks_at k_M_way 56 rfl rfl) rfl ?_
              refine tq_getR (j := 112) (E := E_M_way d) (pc := 95) (cks_at k_M_way 57 rfl rfl) fo_M_115 so_78 rfl sp_78_50 ?_
              refine tq_aload_n 0 (E := E_M_way d) (pc := 98) (cks_at k_M_way 58 rfl rfl) rfl ?_
              refine tq_getI (E := E_M_way d) (pc := 99) (cks_at k_M_way 59 rfl rfl) fo_M_490 so_78 rfl (by decide) ?_
              refine tq_bipush (E := E_M_way d) (pc := 102) (cks_at k_M_way 60 rfl rfl) (by decide) (by decide) ?_
              refine tq_iadd (E := E_M_way d) (pc := 104) (cks_at k_M_way 61 rfl rfl) ?_
              refine tq_iload_n 2 (E := E_M_way d) (pc := 105) (cks_at k_M_way 62 rfl rfl) rfl ?_
              refine tq_isub (E := E_M_way d) (pc := 106) (cks_at k_M_way 63 rfl rfl) ?_
              refine tq_iald (E := E_M_way d) (pc := 107) (cks_at k_M_way 64 rfl rfl) sa_112 sn_112 ?_
              refine tq_goto (tgt := 112) (E := E_M_way d) (pc := 108) (cks_at k_M_way 65 rfl rfl) (by decide) ?_
              exact tq_iret (E := E_M_way d) (pc := 112) (cks_at k_M_way 67 rfl rfl) rfl
          · refine tq_aload_n 0 (E := E_M_way d) (pc := 61) (cks_at k_M_way 36 rfl rfl) rfl ?_
            refine tq_getR (j := 111) (E := E_M_way d) (pc := 62) (cks_at k_M_way 37 rfl rfl) fo_M_112 so_78 rfl sp_78_49 ?_
            refine tq_aload_n 0 (E := E_M_way d) (pc := 65) (cks_at k_M_way 38 rfl rfl) rfl ?_
            refine tq_getI (E := E_M_way d) (pc := 66) (cks_at k_M_way 39 rfl rfl) fo_M_490 so_78 rfl (by decide) ?_
            refine tq_iconst (E := E_M_way d) (pc := 69) (cks_at k_M_way 40 rfl rfl) ?_
            refine tq_isub (E := E_M_way d) (pc := 70) (cks_at k_M_way 41 rfl rfl) ?_
            refine tq_iload_n 2 (E := E_M_way d) (pc := 71) (cks_at k_M_way 42 rfl rfl) rfl ?_
            refine tq_isub (E := E_M_way d) (pc := 72) (cks_at k_M_way 43 rfl rfl) ?_
            refine tq_iald (E := E_M_way d) (pc := 73) (cks_at k_M_way 44 rfl rfl) sa_111 sn_111 ?_
            exact tq_iret (E := E_M_way d) (pc := 74) (cks_at k_M_way 45 rfl rfl) rfl
        · refine tq_aload_n 0 (E := E_M_way d) (pc := 40) (cks_at k_M_way 23 rfl rfl) rfl ?_
          refine tq_getI (E := E_M_way d) (pc := 41) (cks_at k_M_way 24 rfl rfl) fo_M_490 so_78 rfl (by decide) ?_
          exact tq_iret (E := E_M_way d) (pc := 44) (cks_at k_M_way 25 rfl rfl) rfl
      · refine tq_aload_n 0 (E := E_M_way d) (pc := 23) (cks_at k_M_way 13 rfl rfl) rfl ?_
        refine tq_getR (j := 110) (E := E_M_way d) (pc := 24) (cks_at k_M_way 14 rfl rfl) fo_M_109 so_78 rfl sp_78_48 ?_
        refine tq_aload_n 0 (E := E_M_way d) (pc := 27) (cks_at k_M_way 15 rfl rfl) rfl ?_
        refine tq_iload_n 1 (E := E_M_way d) (pc := 28) (cks_at k_M_way 16 rfl rfl) rfl ?_
        refine tq_V1 (E := E_M_way d) (pc := 29) (cks_at k_M_way 17 rfl rfl) mk_M_goalOf lk_M_493 rc_78 (Nat.le_of_ble_eq_true rfl) (c_M_goalOf (d + 13) v1 M3) (k_I fun r10 M9 => ?_)
        refine tq_iald (E := E_M_way d) (pc := 32) (cks_at k_M_way 18 rfl rfl) sa_110 sn_110 ?_
        exact tq_iret (E := E_M_way d) (pc := 33) (cks_at k_M_way 19 rfl rfl) rfl
    · refine tq_iconst (E := E_M_way d) (pc := 16) (cks_at k_M_way 8 rfl rfl) ?_
      exact tq_iret (E := E_M_way d) (pc := 17) (cks_at k_M_way 9 rfl rfl) rfl
abbrev E_BT_way (d : Nat) : Ev := (Ct (d + 8), "BreathTown", prog_1_method_15_code, 4, False, 0, (fun _ => 0), (Option.some Jvm.ClassFile.FieldType.int))
def f_BT_way_J62 (v2 : Int) (M : Mm) : Option (Int × Mm) :=
  if i32 v2 < i32 100 then
    some ((-1), M)
  else
    if i32 (M 48 6) ≤ i32 (v2 - 100) then
      some ((-1), M)
    else
      bI (f_BT_cell 51 (v2 - 100) M) (fun r4 M3 =>
      some (r4, M3))
set_option maxRecDepth 20000 in
set_option maxHeartbeats 4000000 in
theorem w_BT_way_J62 (d : Nat) (v2 : Int) (M : Mm) : T (E_BT_way d) injI 62 [(0, .ref 0), (2, vI v2)] [] M (f_BT_way_J62 v2 M) := by
  unfold f_BT_way_J62
  refine tq_iload_n 1 (E := E_BT_way d) (pc := 62) (cks_at k_BT_way 33 rfl rfl) rfl ?_
  refine tq_bipush (E := E_BT_way d) (pc := 63) (cks_at k_BT_way 34 rfl rfl) (by decide) (by decide) ?_
  refine tq_icmp_lt (E := E_BT_way d) (pc := 65) (tgt := 99) (cks_at k_BT_way 35 rfl rfl) (by decide) ?_ ?_
  · refine tq_iconst (E := E_BT_way d) (pc := 99) (cks_at k_BT_way 51 rfl rfl) ?_
    exact tq_iret (E := E_BT_way d) (pc := 100) (cks_at k_BT_way 52 rfl rfl) rfl
  · refine tq_iload_n 1 (E := E_BT_way d) (pc := 68) (cks_at k_BT_way 36 rfl rfl) rfl ?_
    refine tq_bipush (E := E_BT_way d) (pc := 69) (cks_at k_BT_way 37 rfl rfl) (by decide) (by decide) ?_
    refine tq_isub (E := E_BT_way d) (pc := 71) (cks_at k_BT_way 38 rfl rfl) ?_
    refine tq_aload_n 0 (E := E_BT_way d) (pc := 72) (cks_at k_BT_way 39 rfl rfl) rfl ?_
    refine tq_getR (j := 48) (E := E_BT_way d) (pc := 73) (cks_at k_BT_way 40 rfl rfl) fo_BT_58 so_0 rfl sp_0_6 ?_
    refine tq_getI (E := E_BT_way d) (pc := 76) (cks_at k_BT_way 41 rfl rfl) fo_BT_208 so_48 rfl (by decide) ?_
    refine tq_icmp_ge (E := E_BT_way d) (pc := 79) (tgt := 99) (cks_at k_BT_way 42 rfl rfl) (by decide) ?_ ?_
    · refine tq_iconst (E := E_BT_way d) (pc := 99) (cks_at k_BT_way 51 rfl rfl) ?_
      exact tq_iret (E := E_BT_way d) (pc := 100) (cks_at k_BT_way 52 rfl rfl) rfl
    · refine tq_aload_n 0 (E := E_BT_way d) (pc := 82) (cks_at k_BT_way 43 rfl rfl) rfl ?_
      refine tq_getR (j := 48) (E := E_BT_way d) (pc := 83) (cks_at k_BT_way 44 rfl rfl) fo_BT_58 so_0 rfl sp_0_6 ?_
      refine tq_getR (j := 51) (E := E_BT_way d) (pc := 86) (cks_at k_BT_way 45 rfl rfl) fo_BT_214 so_48 rfl sp_48_5 ?_
      refine tq_iload_n 1 (E := E_BT_way d) (pc := 89) (cks_at k_BT_way 46 rfl rfl) rfl ?_
      refine tq_bipush (E := E_BT_way d) (pc := 90) (cks_at k_BT_way 47 rfl rfl) (by decide) (by decide) ?_
      refine tq_isub (E := E_BT_way d) (pc := 92) (cks_at k_BT_way 48 rfl rfl) ?_
      refine tq_S2 (E := E_BT_way d) (pc := 93) (cks_at k_BT_way 49 rfl rfl) mk_BT_cell lk_BT_150 (Nat.le_of_ble_eq_true rfl) (c_BT_cell (d + 7) 51 sa_51 (v2 - 100) M) (k_I fun r4 M3 => ?_)
      refine tq_goto (tgt := 100) (E := E_BT_way d) (pc := 96) (cks_at k_BT_way 50 rfl rfl) (by decide) ?_
      exact tq_iret (E := E_BT_way d) (pc := 100) (cks_at k_BT_way 52 rfl rfl) rfl
def f_BT_way (v1 : Int) (v2 : Int) (M : Mm) : Option (Int × Mm) :=
  bI (f_Ways_plan v1 M) (fun r2 M1 =>
  if i32 r2 = i32 ((-1)) then
    some (r2, M1)
  else
    if ¬ i32 v2 = i32 ((-1)) then
      if ¬ i32 v2 = i32 20 then
        if i32 v2 < 0 then
          f_BT_way_J62 v2 M1
        else
          if i32 (M1 48 6) ≤ i32 v2 then
            f_BT_way_J62 v2 M1
          else
            bI (f_BT_cell 50 v2 M1) (fun r6 M5 =>
            some (r6, M5))
      else
        some (M1 48 6, M1)
    else
      some (r2, M1))
set_option maxRecDepth 20000 in
set_option maxHeartbeats 4000000 in
theorem c_BT_way (d : Nat) (v1 : Int) (v2 : Int) (M : Mm) (Q : Option Value → Mm → Prop) (h : sat injI (f_BT_way v1 v2 M) Q) : Ct (d + 9) y_BT_way [.ref 0, vI v1, vI v2] M Q := by
  refine ct_in (d := d + 8) mk_BT_way (Nat.le_of_ble_eq_true rfl) (?_ : T (E_BT_way d) injI 0 [(0, .ref 0), (1, vI v1), (2, vI v2)] [] M (f_BT_way v1 v2 M)) h
  unfold f_BT_way
  refine tq_aload_n 0 (E := E_BT_way d) (pc := 0) (cks_at k_BT_way 0 rfl rfl) rfl ?_
  refine tq_getR (j := 48) (E := E_BT_way d) (pc := 1) (cks_at k_BT_way 1 rfl rfl) fo_BT_58 so_0 rfl sp_0_6 ?_
  refine tq_iload_n 1 (E := E_BT_way d) (pc := 4) (cks_at k_BT_way 2 rfl rfl) rfl ?_
  refine tq_V1 (E := E_BT_way d) (pc := 5) (cks_at k_BT_way 3 rfl rfl) mk_Ways_plan lk_BT_205 rc_48 (Nat.le_of_ble_eq_true rfl) (c_Ways_plan (d + 0) v1 M) (k_I fun r2 M1 => ?_)
  refine tq_istore_n (E := E_BT_way d) (pc := 8) (cks_at k_BT_way 4 rfl rfl) (show 3 < 4 by decide) rfl ?_
  refine tq_iload_n 0 (E := E_BT_way d) (pc := 9) (cks_at k_BT_way 5 rfl rfl) rfl ?_
  refine tq_iconst (E := E_BT_way d) (pc := 10) (cks_at k_BT_way 6 rfl rfl) ?_
  refine tq_icmp_eq (E := E_BT_way d) (pc := 11) (tgt := 19) (cks_at k_BT_way 7 rfl rfl) (by decide) ?_ ?_
  · refine tq_iload_n 0 (E := E_BT_way d) (pc := 19) (cks_at k_BT_way 11 rfl rfl) rfl ?_
    exact tq_iret (E := E_BT_way d) (pc := 20) (cks_at k_BT_way 12 rfl rfl) rfl
  · refine tq_iload_n 3 (E := E_BT_way d) (pc := 14) (cks_at k_BT_way 8 rfl rfl) rfl ?_
    refine tq_iconst (E := E_BT_way d) (pc := 15) (cks_at k_BT_way 9 rfl rfl) ?_
    refine tq_icmp_ne (E := E_BT_way d) (pc := 16) (tgt := 21) (cks_at k_BT_way 10 rfl rfl) (by decide) ?_ ?_
    · refine tq_iload_n 3 (E := E_BT_way d) (pc := 21) (cks_at k_BT_way 13 rfl rfl) rfl ?_
      refine tq_bipush (E := E_BT_way d) (pc := 22) (cks_at k_BT_way 14 rfl rfl) (by decide) (by decide) ?_
      refine tq_icmp_ne (E := E_BT_way d) (pc := 24) (tgt := 35) (cks_at k_BT_way 15 rfl rfl) (by decide) ?_ ?_
      · refine tq_iload_n 3 (E := E_BT_way d) (pc := 35) (cks_at k_BT_way 20 rfl rfl) rfl ?_
        refine tq_if_lt (E := E_BT_way d) (pc := 36) (tgt := 62) (cks_at k_BT_way 21 rfl rfl) (by decide) ?_ ?_
        · exact tq_sub [1, 3] rfl (w_BT_way_J62 d v2 M1)
        · refine tq_iload_n 3 (E := E_BT_way d) (pc := 39) (cks_at k_BT_way 22 rfl rfl) rfl ?_
          refine tq_aload_n 1 (E := E_BT_way d) (pc := 40) (cks_at k_BT_way 23 rfl rfl) rfl ?_
          refine tq_getR (j := 48) (E := E_BT_way d) (pc := 41) (cks_at k_BT_way 24 rfl rfl) fo_BT_58 so_0 rfl sp_0_6 ?_
          refine tq_getI (E := E_BT_way d) (pc := 44) (cks_at k_BT_way 25 rfl rfl) fo_BT_208 so_48 rfl (by decide) ?_
          refine tq_icmp_ge (E := E_BT_way d) (pc := 47) (tgt := 62) (cks_at k_BT_way 26 rfl rfl) (by decide) ?_ ?_
          · exact tq_sub [1, 3] rfl (w_BT_way_J62 d v2 M1)
          · refine tq_aload_n 1 (E := E_BT_way d) (pc := 50) (cks_at k_BT_way 27 rfl rfl) rfl ?_
            refine tq_getR (j := 48) (E := E_BT_way d) (pc := 51) (cks_at k_BT_way 28 rfl rfl) fo_BT_58 so_0 rfl sp_0_6 ?_
            refine tq_getR (j := 50) (E := E_BT_way d) (pc := 54) (cks_at k_BT_way 29 rfl rfl) fo_BT_211 so_48 rfl sp_48_4 ?_
            refine tq_iload_n 3 (E := E_BT_way d) (pc := 57) (cks_at k_BT_way 30 rfl rfl) rfl ?_
            refine tq_S2 (E := E_BT_way d) (pc := 58) (cks_at k_BT_way 31 rfl rfl) mk_BT_cell lk_BT_150 (Nat.le_of_ble_eq_true rfl) (c_BT_cell (d + 7) 50 sa_50 v2 M1) (k_I fun r6 M5 => ?_)
            exact tq_iret (E := E_BT_way d) (pc := 61) (cks_at k_BT_way 32 rfl rfl) rfl
      · refine tq_aload_n 1 (E := E_BT_way d) (pc := 27) (cks_at k_BT_way 16 rfl rfl) rfl ?_
        refine tq_getR (j := 48) (E := E_BT_way d) (pc := 28) (cks_at k_BT_way 17 rfl rfl) fo_BT_58 so_0 rfl sp_0_6 ?_
        refine tq_getI (E := E_BT_way d) (pc := 31) (cks_at k_BT_way 18 rfl rfl) fo_BT_208 so_48 rfl (by decide) ?_
        exact tq_iret (E := E_BT_way d) (pc := 34) (cks_at k_BT_way 19 rfl rfl) rfl
    · refine tq_iload_n 0 (E := E_BT_way d) (pc := 19) (cks_at k_BT_way 11 rfl rfl) rfl ?_
      exact tq_iret (E := E_BT_way d) (pc := 20) (cks_at k_BT_way 12 rfl rfl) rfl
abbrev E_M_areWide (d : Nat) : Ev := (Ct (d + 5), "BreathTownModel", prog_14_method_82_code, 5, False, 0, (fun _ => 0), (Option.some Jvm.ClassFile.FieldType.boolean))
def f_M_areWide_B3 (kH : Int → Int → Int → Int → Mm → Option (Int × Mm)) (v1 v2 v3 v4 : Int) (M : Mm) : Option (Int × Mm) :=
  bI (f_M_streetMany M) (fun r2 M1 =>
  if i32 r2 ≤ i32 v4 then
    some (1, M1)
  else
    if ¬ i32 (and32 (shr32 v1 v4) 1) = i32 1 then
      kH v1 v2 v3 (v4 + 1) M1
    else
      bI (f_M_widthOf v4 v3 M1) (fun r4 M3 =>
      if i32 v2 ≤ i32 r4 then
        kH v1 v2 v3 (v4 + 1) M3
      else
        some (0, M3)))
set_option maxRecDepth 20000 in
set_option maxHeartbeats 4000000 in
theorem w_M_areWide_B3 (d : Nat) (kH : Int → Int → Int → Int → Mm → Option (Int × Mm)) (hkH : ∀ (v1 v2 v3 v4 : Int) (M : Mm), T (E_M_areWide d) injI 3 [(0, .ref 78), (1, vI v1), (2, vI v2), (3, vI v3), (4, vI v4)] [] M (kH v1 v2 v3 v4 M)) (v1 v2 v3 v4 : Int) (M : Mm) : T (E_M_areWide d) injI 3 [(0, .ref 78), (1, vI v1), (2, vI v2), (3, vI v3), (4, vI v4)] [] M (f_M_areWide_B3 kH v1 v2 v3 v4 M) := by
  unfold f_M_areWide_B3
  refine tq_iload 4 (E := E_M_areWide d) (pc := 3) (cks_at k_M_areWide 2 rfl rfl) rfl ?_
  refine tq_aload_n 0 (E := E_M_areWide d) (pc := 5) (cks_at k_M_areWide 3 rfl rfl) rfl ?_
  refine tq_V0 (E := E_M_areWide d) (pc := 6) (cks_at k_M_areWide 4 rfl rfl) mk_M_streetMany lk_M_412 rc_78 (Nat.le_of_ble_eq_true rfl) (c_M_streetMany (d + 4) M) (k_I fun r2 M1 => ?_)
  refine tq_icmp_ge (E := E_M_areWide d) (pc := 9) (tgt := 41) (cks_at k_M_areWide 5 rfl rfl) (by decide) ?_ ?_
  · refine tq_iconst (E := E_M_areWide d) (pc := 41) (cks_at k_M_areWide 23 rfl rfl) ?_
    exact tq_zretC (E := E_M_areWide d) (pc := 42) (cks_at k_M_areWide 24 rfl rfl) rfl (by decide)
  · refine tq_iload_n 1 (E := E_M_areWide d) (pc := 12) (cks_at k_M_areWide 6 rfl rfl) rfl ?_
    refine tq_iload 4 (E := E_M_areWide d) (pc := 13) (cks_at k_M_areWide 7 rfl rfl) rfl ?_
    refine tq_ishr (E := E_M_areWide d) (pc := 15) (cks_at k_M_areWide 8 rfl rfl) ?_
    refine tq_iconst (E := E_M_areWide d) (pc := 16) (cks_at k_M_areWide 9 rfl rfl) ?_
    refine tq_iand (E := E_M_areWide d) (pc := 17) (cks_at k_M_areWide 10 rfl rfl) ?_
    refine tq_iconst (E := E_M_areWide d) (pc := 18) (cks_at k_M_areWide 11 rfl rfl) ?_
    refine tq_icmp_ne (E := E_M_areWide d) (pc := 19) (tgt := 35) (cks_at k_M_areWide 12 rfl rfl) (by decide) ?_ ?_
    · refine tq_iinc 4 (E := E_M_areWide d) (pc := 35) (cks_at k_M_areWide 21 rfl rfl) rfl (show 4 < 5 by decide) rfl ?_
      refine tq_goto (tgt := 3) (E := E_M_areWide d) (pc := 38) (cks_at k_M_areWide 22 rfl rfl) (by decide) ?_
      exact tq_sub [1, 2, 3, 4, 0] rfl (hkH v1 v2 v3 (v4 + 1) M1)
    · refine tq_aload_n 0 (E := E_M_areWide d) (pc := 22) (cks_at k_M_areWide 13 rfl rfl) rfl ?_
      refine tq_iload 4 (E := E_M_areWide d) (pc := 23) (cks_at k_M_areWide 14 rfl rfl) rfl ?_
      refine tq_iload_n 3 (E := E_M_areWide d) (pc := 25) (cks_at k_M_areWide 15 rfl rfl) rfl ?_
      refine tq_V2 (E := E_M_areWide d) (pc := 26) (cks_at k_M_areWide 16 rfl rfl) mk_M_widthOf lk_M_437 rc_78 (Nat.le_of_ble_eq_true rfl) (c_M_widthOf (d + 0) v4 v3 M1) (k_I fun r4 M3 => ?_)
      refine tq_iload_n 2 (E := E_M_areWide d) (pc := 29) (cks_at k_M_areWide 17 rfl rfl) rfl ?_
      refine tq_icmp_ge (E := E_M_areWide d) (pc := 30) (tgt := 35) (cks_at k_M_areWide 18 rfl rfl) (by decide) ?_ ?_
      · refine tq_iinc 4 (E := E_M_areWide d) (pc := 35) (cks_at k_M_areWide 21 rfl rfl) rfl (show 4 < 5 by decide) rfl ?_
        refine tq_goto (tgt := 3) (E := E_M_areWide d) (pc := 38) (cks_at k_M_areWide 22 rfl rfl) (by decide) ?_
        exact tq_sub [1, 2, 3, 4, 0] rfl (hkH v1 v2 v3 (v4 + 1) M3)
      · refine tq_iconst (E := E_M_areWide d) (pc := 33) (cks_at k_M_areWide 19 rfl rfl) ?_
        exact tq_zretC (E := E_M_areWide d) (pc := 34) (cks_at k_M_areWide 20 rfl rfl) rfl (by decide)
def f_M_areWide_L3 : Nat → Int × Int × Int × Int × Mm → Option (Int × Mm) := lp fun kH s => f_M_areWide_B3 (fun v1 v2 v3 v4 M => kH (v1, v2, v3, v4, M)) s.1 s.2.1 s.2.2.1 s.2.2.2.1 s.2.2.2.2
set_option maxRecDepth 20000 in
set_option maxHeartbeats 4000000 in
theorem w_M_areWide_L3 (d : Nat) (n : Nat) (s : Int × Int × Int × Int × Mm) : T (E_M_areWide d) injI 3 [(0, .ref 78), (1, vI s.1), (2, vI s.2.1), (3, vI s.2.2.1), (4, vI s.2.2.2.1)] [] s.2.2.2.2 (f_M_areWide_L3 n s) :=
  tq_lp (fun s => [(0, .ref 78), (1, vI s.1), (2, vI s.2.1), (3, vI s.2.2.1), (4, vI s.2.2.2.1)]) (fun s => s.2.2.2.2) (fun kH hH s => w_M_areWide_B3 d (fun v1 v2 v3 v4 M => kH (v1, v2, v3, v4, M)) (fun v1 v2 v3 v4 M => hH (v1, v2, v3, v4, M)) s.1 s.2.1 s.2.2.1 s.2.2.2.1 s.2.2.2.2) n s
def f_M_areWide (v1 : Int) (v2 : Int) (v3 : Int) (M : Mm) : Option (Int × Mm) :=
  f_M_areWide_L3 FU (v1, v2, v3, 0, M)
set_option maxRecDepth 20000 in
set_option maxHeartbeats 4000000 in
theorem c_M_areWide (d : Nat) (v1 : Int) (v2 : Int) (v3 : Int) (M : Mm) (Q : Option Value → Mm → Prop) (h : sat injI (f_M_areWide v1 v2 v3 M) Q) : Ct (d + 6) y_M_areWide [.ref 78, vI v1, vI v2, vI v3] M Q := by
  refine ct_in (d := d + 5) mk_M_areWide (Nat.le_of_ble_eq_true rfl) (?_ : T (E_M_areWide d) injI 0 [(0, .ref 78), (1, vI v1), (2, vI v2), (3, vI v3)] [] M (f_M_areWide v1 v2 v3 M)) h
  unfold f_M_areWide
  refine tq_iconst (E := E_M_areWide d) (pc := 0) (cks_at k_M_areWide 0 rfl rfl) ?_
  refine tq_istore (E := E_M_areWide d) (pc := 1) (cks_at k_M_areWide 1 rfl rfl) (show 4 < 5 by decide) rfl ?_
  exact tq_sub [1, 2, 3, 4, 0] rfl (w_M_areWide_L3 d FU (v1, v2, v3, 0, M))
abbrev E_M_wide (d : Nat) : Ev := (Ct (d + 6), "BreathTownModel", prog_14_method_83_code, 4, False, 0, (fun _ => 0), (Option.some Jvm.ClassFile.FieldType.int))
def f_M_wide_B39 (kH : Int → Int → Int → Mm → Option (Int × Mm)) (v1 v2 v3 : Int) (M : Mm) : Option (Int × Mm) :=
  if i32 ((M 108 0) + 400) < i32 v3 then
    some ((-1), M)
  else
    bI (f_M_areWide v1 v2 v3 M) (fun r8 M7 =>
    if i32 r8 = 0 then
      kH v1 v2 (v3 + 1) M7
    else
      some (v3, M7))
set_option maxRecDepth 20000 in
set_option maxHeartbeats 4000000 in
theorem w_M_wide_B39 (d : Nat) (kH : Int → Int → Int → Mm → Option (Int × Mm)) (hkH : ∀ (v1 v2 v3 : Int) (M : Mm), T (E_M_wide d) injI 39 [(0, .ref 78), (1, vI v1), (2, vI v2), (3, vI v3)] [] M (kH v1 v2 v3 M)) (v1 v2 v3 : Int) (M : Mm) : T (E_M_wide d) injI 39 [(0, .ref 78), (1, vI v1), (2, vI v2), (3, vI v3)] [] M (f_M_wide_B39 kH v1 v2 v3 M) := by
  unfold f_M_wide_B39
  refine tq_iload_n 3 (E := E_M_wide d) (pc := 39) (cks_at k_M_wide 25 rfl rfl) rfl ?_
  refine tq_aload_n 0 (E := E_M_wide d) (pc := 40) (cks_at k_M_wide 26 rfl rfl) rfl ?_
  refine tq_getR (j := 108) (E := E_M_wide d) (pc := 41) (cks_at k_M_wide 27 rfl rfl) fo_M_103 so_78 rfl sp_78_45 ?_
  refine tq_iconst (E := E_M_wide d) (pc := 44) (cks_at k_M_wide 28 rfl rfl) ?_
  refine tq_ialdC 0 (E := E_M_wide d) (pc := 45) (cks_at k_M_wide 29 rfl rfl) sa_108 sn_108 (by decide) ?_
  refine tq_sipush (E := E_M_wide d) (pc := 46) (cks_at k_M_wide 30 rfl rfl) (by decide) (by decide) ?_
  refine tq_iadd (E := E_M_wide d) (pc := 49) (cks_at k_M_wide 31 rfl rfl) ?_
  refine tq_icmp_gt (E := E_M_wide d) (pc := 50) (tgt := 71) (cks_at k_M_wide 32 rfl rfl) (by decide) ?_ ?_
  · refine tq_iconst (E := E_M_wide d) (pc := 71) (cks_at k_M_wide 43 rfl rfl) ?_
    exact tq_iret (E := E_M_wide d) (pc := 72) (cks_at k_M_wide 44 rfl rfl) rfl
  · refine tq_aload_n 0 (E := E_M_wide d) (pc := 53) (cks_at k_M_wide 33 rfl rfl) rfl ?_
    refine tq_iload_n 1 (E := E_M_wide d) (pc := 54) (cks_at k_M_wide 34 rfl rfl) rfl ?_
    refine tq_iload_n 2 (E := E_M_wide d) (pc := 55) (cks_at k_M_wide 35 rfl rfl) rfl ?_
    refine tq_iload_n 3 (E := E_M_wide d) (pc := 56) (cks_at k_M_wide 36 rfl rfl) rfl ?_
    refine tq_V3 (E := E_M_wide d) (pc := 57) (cks_at k_M_wide 37 rfl rfl) mk_M_areWide lk_M_522 rc_78 (Nat.le_of_ble_eq_true rfl) (c_M_areWide (d + 0) v1 v2 v3 M) (k_I fun r8 M7 => ?_)
    refine tq_if_eq (E := E_M_wide d) (pc := 60) (tgt := 65) (cks_at k_M_wide 38 rfl rfl) (by decide) ?_ ?_
    · refine tq_iinc 3 (E := E_M_wide d) (pc := 65) (cks_at k_M_wide 41 rfl rfl) rfl (show 3 < 4 by decide) rfl ?_
      refine tq_goto (tgt := 39) (E := E_M_wide d) (pc := 68) (cks_at k_M_wide 42 rfl rfl) (by decide) ?_
      exact tq_sub [1, 2, 3, 0] rfl (hkH v1 v2 (v3 + 1) M7)
    · refine tq_iload_n 3 (E := E_M_wide d) (pc := 63) (cks_at k_M_wide 39 rfl rfl) rfl ?_
      exact tq_iret (E := E_M_wide d) (pc := 64) (cks_at k_M_wide 40 rfl rfl) rfl
def f_M_wide_L39 : Nat → Int × Int × Int × Mm → Option (Int × Mm) := lp fun kH s => f_M_wide_B39 (fun v1 v2 v3 M => kH (v1, v2, v3, M)) s.1 s.2.1 s.2.2.1 s.2.2.2
set_option maxRecDepth 20000 in
set_option maxHeartbeats 4000000 in
theorem w_M_wide_L39 (d : Nat) (n : Nat) (s : Int × Int × Int × Mm) : T (E_M_wide d) injI 39 [(0, .ref 78), (1, vI s.1), (2, vI s.2.1), (3, vI s.2.2.1)] [] s.2.2.2 (f_M_wide_L39 n s) :=
  tq_lp (fun s => [(0, .ref 78), (1, vI s.1), (2, vI s.2.1), (3, vI s.2.2.1)]) (fun s => s.2.2.2) (fun kH hH s => w_M_wide_B39 d (fun v1 v2 v3 M => kH (v1, v2, v3, M)) (fun v1 v2 v3 M => hH (v1, v2, v3, M)) s.1 s.2.1 s.2.2.1 s.2.2.2) n s
def f_M_wide (v1 : Int) (v2 : Int) (M : Mm) : Option (Int × Mm) :=
  bI (f_M_streetMany M) (fun r2 M1 =>
  bI (f_M_isIn (i32 v1) 1 (i32 ((shl32 1 r2) - 1)) M1) (fun r4 M3 =>
  if i32 r4 = 0 then
    some ((-1), M3)
  else
    bI (f_M_isIn (i32 v2) 1 99 M3) (fun r6 M5 =>
    if ¬ i32 r6 = 0 then
      f_M_wide_L39 FU (v1, v2, (M5 108 0), M5)
    else
      some ((-1), M5))))
set_option maxRecDepth 20000 in
set_option maxHeartbeats 4000000 in
theorem c_M_wide (d : Nat) (v1 : Int) (v2 : Int) (M : Mm) (Q : Option Value → Mm → Prop) (h : sat injI (f_M_wide v1 v2 M) Q) : Ct (d + 7) y_M_wide [.ref 78, vI v1, vI v2] M Q := by
  refine ct_in (d := d + 6) mk_M_wide (Nat.le_of_ble_eq_true rfl) (?_ : T (E_M_wide d) injI 0 [(0, .ref 78), (1, vI v1), (2, vI v2)] [] M (f_M_wide v1 v2 M)) h
  unfold f_M_wide
  refine tq_iload_n 1 (E := E_M_wide d) (pc := 0) (cks_at k_M_wide 0 rfl rfl) rfl ?_
  refine tq_i2l (E := E_M_wide d) (pc := 1) (cks_at k_M_wide 1 rfl rfl) ?_
  refine tq_lconst1 (E := E_M_wide d) (pc := 2) (cks_at k_M_wide 2 rfl rfl) ?_
  refine tq_iconst (E := E_M_wide d) (pc := 3) (cks_at k_M_wide 3 rfl rfl) ?_
  refine tq_aload_n 0 (E := E_M_wide d) (pc := 4) (cks_at k_M_wide 4 rfl rfl) rfl ?_
  refine tq_V0 (E := E_M_wide d) (pc := 5) (cks_at k_M_wide 5 rfl rfl) mk_M_streetMany lk_M_412 rc_78 (Nat.le_of_ble_eq_true rfl) (c_M_streetMany (d + 5) M) (k_I fun r2 M1 => ?_)
  refine tq_ishl (E := E_M_wide d) (pc := 8) (cks_at k_M_wide 6 rfl rfl) ?_
  refine tq_iconst (E := E_M_wide d) (pc := 9) (cks_at k_M_wide 7 rfl rfl) ?_
  refine tq_isub (E := E_M_wide d) (pc := 10) (cks_at k_M_wide 8 rfl rfl) ?_
  refine tq_i2l (E := E_M_wide d) (pc := 11) (cks_at k_M_wide 9 rfl rfl) ?_
  refine tq_S3 (E := E_M_wide d) (pc := 12) (cks_at k_M_wide 10 rfl rfl) mk_M_isIn lk_M_265 (Nat.le_of_ble_eq_true rfl) (c_M_isIn (d + 5) (i32 v1) 1 (i32 ((shl32 1 r2) - 1)) M1) (k_I fun r4 M3 => ?_)
  refine tq_if_eq (E := E_M_wide d) (pc := 15) (tgt := 30) (cks_at k_M_wide 11 rfl rfl) (by decide) ?_ ?_
  · refine tq_iconst (E := E_M_wide d) (pc := 30) (cks_at k_M_wide 18 rfl rfl) ?_
    exact tq_iret (E := E_M_wide d) (pc := 31) (cks_at k_M_wide 19 rfl rfl) rfl
  · refine tq_iload_n 2 (E := E_M_wide d) (pc := 18) (cks_at k_M_wide 12 rfl rfl) rfl ?_
    refine tq_i2l (E := E_M_wide d) (pc := 19) (cks_at k_M_wide 13 rfl rfl) ?_
    refine tq_lconst1 (E := E_M_wide d) (pc := 20) (cks_at k_M_wide 14 rfl rfl) ?_
    refine tq_ldc2 (z := 99) (E := E_M_wide d) (pc := 21) (cks_at k_M_wide 15 rfl rfl) cst_M_429 ?_
    refine tq_S3 (E := E_M_wide d) (pc := 24) (cks_at k_M_wide 16 rfl rfl) mk_M_isIn lk_M_265 (Nat.le_of_ble_eq_true rfl) (c_M_isIn (d + 5) (i32 v2) 1 99 M3) (k_I fun r6 M5 => ?_)
    refine tq_if_ne (E := E_M_wide d) (pc := 27) (tgt := 32) (cks_at k_M_wide 17 rfl rfl) (by decide) ?_ ?_
    · refine tq_aload_n 0 (E := E_M_wide d) (pc := 32) (cks_at k_M_wide 20 rfl rfl) rfl ?_
      refine tq_getR (j := 108) (E := E_M_wide d) (pc := 33) (cks_at k_M_wide 21 rfl rfl) fo_M_103 so_78 rfl sp_78_45 ?_
      refine tq_iconst (E := E_M_wide d) (pc := 36) (cks_at k_M_wide 22 rfl rfl) ?_
      refine tq_ialdC 0 (E := E_M_wide d) (pc := 37) (cks_at k_M_wide 23 rfl rfl) sa_108 sn_108 (by decide) ?_
      refine tq_istore_n (E := E_M_wide d) (pc := 38) (cks_at k_M_wide 24 rfl rfl) (show 3 < 4 by decide) rfl ?_
      exact tq_sub [1, 2, 3, 0] rfl (w_M_wide_L39 d FU (v1, v2, (M5 108 0), M5))
    · refine tq_iconst (E := E_M_wide d) (pc := 30) (cks_at k_M_wide 18 rfl rfl) ?_
      exact tq_iret (E := E_M_wide d) (pc := 31) (cks_at k_M_wide 19 rfl rfl) rfl
abbrev E_Widths_areWide (d : Nat) : Ev := (Ct (d + 5), "BreathTown$Widths", prog_12_method_8_code, 5, False, 0, (fun _ => 0), (Option.some Jvm.ClassFile.FieldType.boolean))
def f_Widths_areWide_B3 (kH : Int → Int → Int → Int → Mm → Option (Int × Mm)) (v1 v2 v3 v4 : Int) (M : Mm) : Option (Int × Mm) :=
  bI (f_Told_count 3 1 M) (fun r2 M1 =>
  if i32 r2 ≤ i32 v4 then
    some (1, M1)
  else
    if ¬ i32 (and32 (shr32 v1 v4) 1) = i32 1 then
      kH v1 v2 v3 (v4 + 1) M1
    else
      bI (f_Widths_widthAt v4 v3 M1) (fun r4 M3 =>
      if i32 v2 ≤ i32 r4 then
        kH v1 v2 v3 (v4 + 1) M3
      else
        some (0, M3)))
set_option maxRecDepth 20000 in
set_option maxHeartbeats 4000000 in
theorem w_Widths_areWide_B3 (d : Nat) (kH : Int → Int → Int → Int → Mm → Option (Int × Mm)) (hkH : ∀ (v1 v2 v3 v4 : Int) (M : Mm), T (E_Widths_areWide d) injI 3 [(0, .ref 46), (1, vI v1), (2, vI v2), (3, vI v3), (4, vI v4)] [] M (kH v1 v2 v3 v4 M)) (v1 v2 v3 v4 : Int) (M : Mm) : T (E_Widths_areWide d) injI 3 [(0, .ref 46), (1, vI v1), (2, vI v2), (3, vI v3), (4, vI v4)] [] M (f_Widths_areWide_B3 kH v1 v2 v3 v4 M) := by
  unfold f_Widths_areWide_B3
  refine tq_iload 4 (E := E_Widths_areWide d) (pc := 3) (cks_at k_Widths_areWide 2 rfl rfl) rfl ?_
  refine tq_aload_n 0 (E := E_Widths_areWide d) (pc := 5) (cks_at k_Widths_areWide 3 rfl rfl) rfl ?_
  refine tq_getR (j := 3) (E := E_Widths_areWide d) (pc := 6) (cks_at k_Widths_areWide 4 rfl rfl) fo_Widths_15 so_46 rfl sp_46_0 ?_
  refine tq_iconst (E := E_Widths_areWide d) (pc := 9) (cks_at k_Widths_areWide 5 rfl rfl) ?_
  refine tq_V1 (E := E_Widths_areWide d) (pc := 10) (cks_at k_Widths_areWide 6 rfl rfl) mk_Told_count lk_Widths_81 (isTold_rc (Or.inl rfl)) (Nat.le_of_ble_eq_true rfl) (c_Told_count (d + 3) 3 (Or.inl rfl) 1 M) (k_I fun r2 M1 => ?_)
  refine tq_icmp_ge (E := E_Widths_areWide d) (pc := 13) (tgt := 45) (cks_at k_Widths_areWide 7 rfl rfl) (by decide) ?_ ?_
  · refine tq_iconst (E := E_Widths_areWide d) (pc := 45) (cks_at k_Widths_areWide 25 rfl rfl) ?_
    exact tq_zretC (E := E_Widths_areWide d) (pc := 46) (cks_at k_Widths_areWide 26 rfl rfl) rfl (by decide)
  · refine tq_iload_n 1 (E := E_Widths_areWide d) (pc := 16) (cks_at k_Widths_areWide 8 rfl rfl) rfl ?_
    refine tq_iload 4 (E := E_Widths_areWide d) (pc := 17) (cks_at k_Widths_areWide 9 rfl rfl) rfl ?_
    refine tq_ishr (E := E_Widths_areWide d) (pc := 19) (cks_at k_Widths_areWide 10 rfl rfl) ?_
    refine tq_iconst (E := E_Widths_areWide d) (pc := 20) (cks_at k_Widths_areWide 11 rfl rfl) ?_
    refine tq_iand (E := E_Widths_areWide d) (pc := 21) (cks_at k_Widths_areWide 12 rfl rfl) ?_
    refine tq_iconst (E := E_Widths_areWide d) (pc := 22) (cks_at k_Widths_areWide 13 rfl rfl) ?_
    refine tq_icmp_ne (E := E_Widths_areWide d) (pc := 23) (tgt := 39) (cks_at k_Widths_areWide 14 rfl rfl) (by decide) ?_ ?_
    · refine tq_iinc 4 (E := E_Widths_areWide d) (pc := 39) (cks_at k_Widths_areWide 23 rfl rfl) rfl (show 4 < 5 by decide) rfl ?_
      refine tq_goto (tgt := 3) (E := E_Widths_areWide d) (pc := 42) (cks_at k_Widths_areWide 24 rfl rfl) (by decide) ?_
      exact tq_sub [1, 2, 3, 4, 0] rfl (hkH v1 v2 v3 (v4 + 1) M1)
    · refine tq_aload_n 0 (E := E_Widths_areWide d) (pc := 26) (cks_at k_Widths_areWide 15 rfl rfl) rfl ?_
      refine tq_iload 4 (E := E_Widths_areWide d) (pc := 27) (cks_at k_Widths_areWide 16 rfl rfl) rfl ?_
      refine tq_iload_n 3 (E := E_Widths_areWide d) (pc := 29) (cks_at k_Widths_areWide 17 rfl rfl) rfl ?_
      refine tq_V2 (E := E_Widths_areWide d) (pc := 30) (cks_at k_Widths_areWide 18 rfl rfl) mk_Widths_widthAt lk_Widths_85 rc_46 (Nat.le_of_ble_eq_true rfl) (c_Widths_widthAt (d + 0) v4 v3 M1) (k_I fun r4 M3 => ?_)
      refine tq_iload_n 2 (E := E_Widths_areWide d) (pc := 33) (cks_at k_Widths_areWide 19 rfl rfl) rfl ?_
      refine tq_icmp_ge (E := E_Widths_areWide d) (pc := 34) (tgt := 39) (cks_at k_Widths_areWide 20 rfl rfl) (by decide) ?_ ?_
      · refine tq_iinc 4 (E := E_Widths_areWide d) (pc := 39) (cks_at k_Widths_areWide 23 rfl rfl) rfl (show 4 < 5 by decide) rfl ?_
        refine tq_goto (tgt := 3) (E := E_Widths_areWide d) (pc := 42) (cks_at k_Widths_areWide 24 rfl rfl) (by decide) ?_
        exact tq_sub [1, 2, 3, 4, 0] rfl (hkH v1 v2 v3 (v4 + 1) M3)
      · refine tq_iconst (E := E_Widths_areWide d) (pc := 37) (cks_at k_Widths_areWide 21 rfl rfl) ?_
        exact tq_zretC (E := E_Widths_areWide d) (pc := 38) (cks_at k_Widths_areWide 22 rfl rfl) rfl (by decide)
def f_Widths_areWide_L3 : Nat → Int × Int × Int × Int × Mm → Option (Int × Mm) := lp fun kH s => f_Widths_areWide_B3 (fun v1 v2 v3 v4 M => kH (v1, v2, v3, v4, M)) s.1 s.2.1 s.2.2.1 s.2.2.2.1 s.2.2.2.2
set_option maxRecDepth 20000 in
set_option maxHeartbeats 4000000 in
theorem w_Widths_areWide_L3 (d : Nat) (n : Nat) (s : Int × Int × Int × Int × Mm) : T (E_Widths_areWide d) injI 3 [(0, .ref 46), (1, vI s.1), (2, vI s.2.1), (3, vI s.2.2.1), (4, vI s.2.2.2.1)] [] s.2.2.2.2 (f_Widths_areWide_L3 n s) :=
  tq_lp (fun s => [(0, .ref 46), (1, vI s.1), (2, vI s.2.1), (3, vI s.2.2.1), (4, vI s.2.2.2.1)]) (fun s => s.2.2.2.2) (fun kH hH s => w_Widths_areWide_B3 d (fun v1 v2 v3 v4 M => kH (v1, v2, v3, v4, M)) (fun v1 v2 v3 v4 M => hH (v1, v2, v3, v4, M)) s.1 s.2.1 s.2.2.1 s.2.2.2.1 s.2.2.2.2) n s
def f_Widths_areWide (v1 : Int) (v2 : Int) (v3 : Int) (M : Mm) : Option (Int × Mm) :=
  f_Widths_areWide_L3 FU (v1, v2, v3, 0, M)
set_option maxRecDepth 20000 in
set_option maxHeartbeats 4000000 in
theorem c_Widths_areWide (d : Nat) (v1 : Int) (v2 : Int) (v3 : Int) (M : Mm) (Q : Option Value → Mm → Prop) (h : sat injI (f_Widths_areWide v1 v2 v3 M) Q) : Ct (d + 6) y_Widths_areWide [.ref 46, vI v1, vI v2, vI v3] M Q := by
  refine ct_in (d := d + 5) mk_Widths_areWide (Nat.le_of_ble_eq_true rfl) (?_ : T (E_Widths_areWide d) injI 0 [(0, .ref 46), (1, vI v1), (2, vI v2), (3, vI v3)] [] M (f_Widths_areWide v1 v2 v3 M)) h
  unfold f_Widths_areWide
  refine tq_iconst (E := E_Widths_areWide d) (pc := 0) (cks_at k_Widths_areWide 0 rfl rfl) ?_
  refine tq_istore (E := E_Widths_areWide d) (pc := 1) (cks_at k_Widths_areWide 1 rfl rfl) (show 4 < 5 by decide) rfl ?_
  exact tq_sub [1, 2, 3, 4, 0] rfl (w_Widths_areWide_L3 d FU (v1, v2, v3, 0, M))
abbrev E_Widths_firstWide (d : Nat) : Ev := (Ct (d + 6), "BreathTown$Widths", prog_12_method_7_code, 4, False, 0, (fun _ => 0), (Option.some Jvm.ClassFile.FieldType.int))
def f_Widths_firstWide_B8 (kH : Int → Int → Int → Mm → Option (Int × Mm)) (v1 v2 v3 : Int) (M : Mm) : Option (Int × Mm) :=
  if i32 ((M 39 8) + 400) < i32 v3 then
    some ((-1), M)
  else
    bI (f_Widths_areWide v1 v2 v3 M) (fun r2 M1 =>
    if i32 r2 = 0 then
      kH v1 v2 (v3 + 1) M1
    else
      some (v3, M1))
set_option maxRecDepth 20000 in
set_option maxHeartbeats 4000000 in
theorem w_Widths_firstWide_B8 (d : Nat) (kH : Int → Int → Int → Mm → Option (Int × Mm)) (hkH : ∀ (v1 v2 v3 : Int) (M : Mm), T (E_Widths_firstWide d) injI 8 [(0, .ref 46), (1, vI v1), (2, vI v2), (3, vI v3)] [] M (kH v1 v2 v3 M)) (v1 v2 v3 : Int) (M : Mm) : T (E_Widths_firstWide d) injI 8 [(0, .ref 46), (1, vI v1), (2, vI v2), (3, vI v3)] [] M (f_Widths_firstWide_B8 kH v1 v2 v3 M) := by
  unfold f_Widths_firstWide_B8
  refine tq_iload_n 3 (E := E_Widths_firstWide d) (pc := 8) (cks_at k_Widths_firstWide 4 rfl rfl) rfl ?_
  refine tq_aload_n 0 (E := E_Widths_firstWide d) (pc := 9) (cks_at k_Widths_firstWide 5 rfl rfl) rfl ?_
  refine tq_getR (j := 39) (E := E_Widths_firstWide d) (pc := 10) (cks_at k_Widths_firstWide 6 rfl rfl) fo_Widths_19 so_46 rfl sp_46_1 ?_
  refine tq_getI (E := E_Widths_firstWide d) (pc := 13) (cks_at k_Widths_firstWide 7 rfl rfl) fo_Widths_73 so_39 rfl (by decide) ?_
  refine tq_sipush (E := E_Widths_firstWide d) (pc := 16) (cks_at k_Widths_firstWide 8 rfl rfl) (by decide) (by decide) ?_
  refine tq_iadd (E := E_Widths_firstWide d) (pc := 19) (cks_at k_Widths_firstWide 9 rfl rfl) ?_
  refine tq_icmp_gt (E := E_Widths_firstWide d) (pc := 20) (tgt := 41) (cks_at k_Widths_firstWide 10 rfl rfl) (by decide) ?_ ?_
  · refine tq_iconst (E := E_Widths_firstWide d) (pc := 41) (cks_at k_Widths_firstWide 21 rfl rfl) ?_
    exact tq_iret (E := E_Widths_firstWide d) (pc := 42) (cks_at k_Widths_firstWide 22 rfl rfl) rfl
  · refine tq_aload_n 0 (E := E_Widths_firstWide d) (pc := 23) (cks_at k_Widths_firstWide 11 rfl rfl) rfl ?_
    refine tq_iload_n 1 (E := E_Widths_firstWide d) (pc := 24) (cks_at k_Widths_firstWide 12 rfl rfl) rfl ?_
    refine tq_iload_n 2 (E := E_Widths_firstWide d) (pc := 25) (cks_at k_Widths_firstWide 13 rfl rfl) rfl ?_
    refine tq_iload_n 3 (E := E_Widths_firstWide d) (pc := 26) (cks_at k_Widths_firstWide 14 rfl rfl) rfl ?_
    refine tq_V3 (E := E_Widths_firstWide d) (pc := 27) (cks_at k_Widths_firstWide 15 rfl rfl) mk_Widths_areWide lk_Widths_77 rc_46 (Nat.le_of_ble_eq_true rfl) (c_Widths_areWide (d + 0) v1 v2 v3 M) (k_I fun r2 M1 => ?_)
    refine tq_if_eq (E := E_Widths_firstWide d) (pc := 30) (tgt := 35) (cks_at k_Widths_firstWide 16 rfl rfl) (by decide) ?_ ?_
    · refine tq_iinc 3 (E := E_Widths_firstWide d) (pc := 35) (cks_at k_Widths_firstWide 19 rfl rfl) rfl (show 3 < 4 by decide) rfl ?_
      refine tq_goto (tgt := 8) (E := E_Widths_firstWide d) (pc := 38) (cks_at k_Widths_firstWide 20 rfl rfl) (by decide) ?_
      exact tq_sub [1, 2, 3, 0] rfl (hkH v1 v2 (v3 + 1) M1)
    · refine tq_iload_n 3 (E := E_Widths_firstWide d) (pc := 33) (cks_at k_Widths_firstWide 17 rfl rfl) rfl ?_
      exact tq_iret (E := E_Widths_firstWide d) (pc := 34) (cks_at k_Widths_firstWide 18 rfl rfl) rfl
def f_Widths_firstWide_L8 : Nat → Int × Int × Int × Mm → Option (Int × Mm) := lp fun kH s => f_Widths_firstWide_B8 (fun v1 v2 v3 M => kH (v1, v2, v3, M)) s.1 s.2.1 s.2.2.1 s.2.2.2
set_option maxRecDepth 20000 in
set_option maxHeartbeats 4000000 in
theorem w_Widths_firstWide_L8 (d : Nat) (n : Nat) (s : Int × Int × Int × Mm) : T (E_Widths_firstWide d) injI 8 [(0, .ref 46), (1, vI s.1), (2, vI s.2.1), (3, vI s.2.2.1)] [] s.2.2.2 (f_Widths_firstWide_L8 n s) :=
  tq_lp (fun s => [(0, .ref 46), (1, vI s.1), (2, vI s.2.1), (3, vI s.2.2.1)]) (fun s => s.2.2.2) (fun kH hH s => w_Widths_firstWide_B8 d (fun v1 v2 v3 M => kH (v1, v2, v3, M)) (fun v1 v2 v3 M => hH (v1, v2, v3, M)) s.1 s.2.1 s.2.2.1 s.2.2.2) n s
def f_Widths_firstWide (v1 : Int) (v2 : Int) (M : Mm) : Option (Int × Mm) :=
  f_Widths_firstWide_L8 FU (v1, v2, (M 39 8), M)
set_option maxRecDepth 20000 in
set_option maxHeartbeats 4000000 in
theorem c_Widths_firstWide (d : Nat) (v1 : Int) (v2 : Int) (M : Mm) (Q : Option Value → Mm → Prop) (h : sat injI (f_Widths_firstWide v1 v2 M) Q) : Ct (d + 7) y_Widths_firstWide [.ref 46, vI v1, vI v2] M Q := by
  refine ct_in (d := d + 6) mk_Widths_firstWide (Nat.le_of_ble_eq_true rfl) (?_ : T (E_Widths_firstWide d) injI 0 [(0, .ref 46), (1, vI v1), (2, vI v2)] [] M (f_Widths_firstWide v1 v2 M)) h
  unfold f_Widths_firstWide
  refine tq_aload_n 0 (E := E_Widths_firstWide d) (pc := 0) (cks_at k_Widths_firstWide 0 rfl rfl) rfl ?_
  refine tq_getR (j := 39) (E := E_Widths_firstWide d) (pc := 1) (cks_at k_Widths_firstWide 1 rfl rfl) fo_Widths_19 so_46 rfl sp_46_1 ?_
  refine tq_getI (E := E_Widths_firstWide d) (pc := 4) (cks_at k_Widths_firstWide 2 rfl rfl) fo_Widths_73 so_39 rfl (by decide) ?_
  refine tq_istore_n (E := E_Widths_firstWide d) (pc := 7) (cks_at k_Widths_firstWide 3 rfl rfl) (show 3 < 4 by decide) rfl ?_
  exact tq_sub [1, 2, 3, 0] rfl (w_Widths_firstWide_L8 d FU (v1, v2, (M 39 8), M))
abbrev E_BT_wide (d : Nat) : Ev := (Ct (d + 7), "BreathTown", prog_1_method_14_code, 3, False, 0, (fun _ => 0), (Option.some Jvm.ClassFile.FieldType.int))
def f_BT_wide (v1 : Int) (v2 : Int) (M : Mm) : Option (Int × Mm) :=
  if i32 v1 < i32 1 then
    some ((-1), M)
  else
    bI (f_Told_count 3 1 M) (fun r2 M1 =>
    if i32 (shl32 1 r2) ≤ i32 v1 then
      some ((-1), M1)
    else
      bI (f_BT_isBreadth v2 M1) (fun r4 M3 =>
      if ¬ i32 r4 = 0 then
        bI (f_Widths_firstWide v1 v2 M3) (fun r6 M5 =>
        some (r6, M5))
      else
        some ((-1), M3)))
set_option maxRecDepth 20000 in
set_option maxHeartbeats 4000000 in
theorem c_BT_wide (d : Nat) (v1 : Int) (v2 : Int) (M : Mm) (Q : Option Value → Mm → Prop) (h : sat injI (f_BT_wide v1 v2 M) Q) : Ct (d + 8) y_BT_wide [.ref 0, vI v1, vI v2] M Q := by
  refine ct_in (d := d + 7) mk_BT_wide (Nat.le_of_ble_eq_true rfl) (?_ : T (E_BT_wide d) injI 0 [(0, .ref 0), (1, vI v1), (2, vI v2)] [] M (f_BT_wide v1 v2 M)) h
  unfold f_BT_wide
  refine tq_iload_n 1 (E := E_BT_wide d) (pc := 0) (cks_at k_BT_wide 0 rfl rfl) rfl ?_
  refine tq_iconst (E := E_BT_wide d) (pc := 1) (cks_at k_BT_wide 1 rfl rfl) ?_
  refine tq_icmp_lt (E := E_BT_wide d) (pc := 2) (tgt := 26) (cks_at k_BT_wide 2 rfl rfl) (by decide) ?_ ?_
  · refine tq_iconst (E := E_BT_wide d) (pc := 26) (cks_at k_BT_wide 14 rfl rfl) ?_
    exact tq_iret (E := E_BT_wide d) (pc := 27) (cks_at k_BT_wide 15 rfl rfl) rfl
  · refine tq_iload_n 1 (E := E_BT_wide d) (pc := 5) (cks_at k_BT_wide 3 rfl rfl) rfl ?_
    refine tq_iconst (E := E_BT_wide d) (pc := 6) (cks_at k_BT_wide 4 rfl rfl) ?_
    refine tq_aload_n 0 (E := E_BT_wide d) (pc := 7) (cks_at k_BT_wide 5 rfl rfl) rfl ?_
    refine tq_getR (j := 3) (E := E_BT_wide d) (pc := 8) (cks_at k_BT_wide 6 rfl rfl) fo_BT_19 so_0 rfl sp_0_1 ?_
    refine tq_iconst (E := E_BT_wide d) (pc := 11) (cks_at k_BT_wide 7 rfl rfl) ?_
    refine tq_V1 (E := E_BT_wide d) (pc := 12) (cks_at k_BT_wide 8 rfl rfl) mk_Told_count lk_BT_132 (isTold_rc (Or.inl rfl)) (Nat.le_of_ble_eq_true rfl) (c_Told_count (d + 5) 3 (Or.inl rfl) 1 M) (k_I fun r2 M1 => ?_)
    refine tq_ishl (E := E_BT_wide d) (pc := 15) (cks_at k_BT_wide 9 rfl rfl) ?_
    refine tq_icmp_ge (E := E_BT_wide d) (pc := 16) (tgt := 26) (cks_at k_BT_wide 10 rfl rfl) (by decide) ?_ ?_
    · refine tq_iconst (E := E_BT_wide d) (pc := 26) (cks_at k_BT_wide 14 rfl rfl) ?_
      exact tq_iret (E := E_BT_wide d) (pc := 27) (cks_at k_BT_wide 15 rfl rfl) rfl
    · refine tq_iload_n 2 (E := E_BT_wide d) (pc := 19) (cks_at k_BT_wide 11 rfl rfl) rfl ?_
      refine tq_S1 (E := E_BT_wide d) (pc := 20) (cks_at k_BT_wide 12 rfl rfl) mk_BT_isBreadth lk_BT_192 (Nat.le_of_ble_eq_true rfl) (c_BT_isBreadth (d + 6) v2 M1) (k_I fun r4 M3 => ?_)
      refine tq_if_ne (E := E_BT_wide d) (pc := 23) (tgt := 28) (cks_at k_BT_wide 13 rfl rfl) (by decide) ?_ ?_
      · refine tq_aload_n 0 (E := E_BT_wide d) (pc := 28) (cks_at k_BT_wide 16 rfl rfl) rfl ?_
        refine tq_getR (j := 46) (E := E_BT_wide d) (pc := 29) (cks_at k_BT_wide 17 rfl rfl) fo_BT_49 so_0 rfl sp_0_5 ?_
        refine tq_iload_n 1 (E := E_BT_wide d) (pc := 32) (cks_at k_BT_wide 18 rfl rfl) rfl ?_
        refine tq_iload_n 2 (E := E_BT_wide d) (pc := 33) (cks_at k_BT_wide 19 rfl rfl) rfl ?_
        refine tq_V2 (E := E_BT_wide d) (pc := 34) (cks_at k_BT_wide 20 rfl rfl) mk_Widths_firstWide lk_BT_202 rc_46 (Nat.le_of_ble_eq_true rfl) (c_Widths_firstWide (d + 0) v1 v2 M3) (k_I fun r6 M5 => ?_)
        exact tq_iret (E := E_BT_wide d) (pc := 37) (cks_at k_BT_wide 21 rfl rfl) rfl
      · refine tq_iconst (E := E_BT_wide d) (pc := 26) (cks_at k_BT_wide 14 rfl rfl) ?_
        exact tq_iret (E := E_BT_wide d) (pc := 27) (cks_at k_BT_wide 15 rfl rfl) rfl
abbrev E_M_isHour (d : Nat) : Ev := (Ct (d + 1), "BreathTownModel", prog_14_method_77_code, 1, False, 0, (fun _ => 0), (Option.some Jvm.ClassFile.FieldType.boolean))
def f_M_isHour (v0 : Int) (M : Mm) : Option (Int × Mm) :=
  bI (f_M_isIn (i32 v0) 0 99999 M) (fun r2 M1 =>
  gd (i32 r2 = 0 ∨ i32 r2 = 1) (some (r2, M1)))
set_option maxRecDepth 20000 in
set_option maxHeartbeats 4000000 in
theorem c_M_isHour (d : Nat) (v0 : Int) (M : Mm) (Q : Option Value → Mm → Prop) (h : sat injI (f_M_isHour v0 M) Q) : Ct (d + 2) y_M_isHour [vI v0] M Q := by
  refine ct_in (d := d + 1) mk_M_isHour (Nat.le_of_ble_eq_true rfl) (?_ : T (E_M_isHour d) injI 0 [(0, vI v0)] [] M (f_M_isHour v0 M)) h
  unfold f_M_isHour
  refine tq_iload_n 0 (E := E_M_isHour d) (pc := 0) (cks_at k_M_isHour 0 rfl rfl) rfl ?_
  refine tq_i2l (E := E_M_isHour d) (pc := 1) (cks_at k_M_isHour 1 rfl rfl) ?_
  refine tq_lconst0 (E := E_M_isHour d) (pc := 2) (cks_at k_M_isHour 2 rfl rfl) ?_
  refine tq_ldc2 (z := 99999) (E := E_M_isHour d) (pc := 3) (cks_at k_M_isHour 3 rfl rfl) cst_M_515 ?_
  refine tq_S3 (E := E_M_isHour d) (pc := 6) (cks_at k_M_isHour 4 rfl rfl) mk_M_isIn lk_M_265 (Nat.le_of_ble_eq_true rfl) (c_M_isIn (d + 0) (i32 v0) 0 99999 M) (k_I fun r2 M1 => ?_)
  exact tq_zret (E := E_M_isHour d) (pc := 9) (cks_at k_M_isHour 5 rfl rfl) rfl
abbrev E_M_often (d : Nat) : Ev := (Ct (d + 7), "BreathTownModel", prog_14_method_81_code, 7, False, 0, (fun _ => 0), (Option.some Jvm.ClassFile.FieldType.int))
def f_M_often_B48 (kH : Int → Int → Int → Int → Int → Int → Mm → Option (Int × Mm)) (v1 v2 v3 v4 v5 v6 : Int) (M : Mm) : Option (Int × Mm) :=
  if i32 (v3 + v4) ≤ i32 v6 then
    some (v5, M)
  else
    bI (f_M_isPassed v1 v2 v6 M) (fun r10 M9 =>
    if i32 r10 = 0 then
      kH v1 v2 v3 v4 v5 (v6 + 1) M9
    else
      kH v1 v2 v3 v4 (v5 + 1) (v6 + 1) M9)
set_option maxRecDepth 20000 in
set_option maxHeartbeats 4000000 in
theorem w_M_often_B48 (d : Nat) (kH : Int → Int → Int → Int → Int → Int → Mm → Option (Int × Mm)) (hkH : ∀ (v1 v2 v3 v4 v5 v6 : Int) (M : Mm), T (E_M_often d) injI 48 [(0, .ref 78), (1, vI v1), (2, vI v2), (3, vI v3), (4, vI v4), (5, vI v5), (6, vI v6)] [] M (kH v1 v2 v3 v4 v5 v6 M)) (v1 v2 v3 v4 v5 v6 : Int) (M : Mm) : T (E_M_often d) injI 48 [(0, .ref 78), (1, vI v1), (2, vI v2), (3, vI v3), (4, vI v4), (5, vI v5), (6, vI v6)] [] M (f_M_often_B48 kH v1 v2 v3 v4 v5 v6 M) := by
  unfold f_M_often_B48
  refine tq_iload 6 (E := E_M_often d) (pc := 48) (cks_at k_M_often 25 rfl rfl) rfl ?_
  refine tq_iload_n 3 (E := E_M_often d) (pc := 50) (cks_at k_M_often 26 rfl rfl) rfl ?_
  refine tq_iload 4 (E := E_M_often d) (pc := 51) (cks_at k_M_often 27 rfl rfl) rfl ?_
  refine tq_iadd (E := E_M_often d) (pc := 53) (cks_at k_M_often 28 rfl rfl) ?_
  refine tq_icmp_ge (E := E_M_often d) (pc := 54) (tgt := 77) (cks_at k_M_often 29 rfl rfl) (by decide) ?_ ?_
  · refine tq_iload 5 (E := E_M_often d) (pc := 77) (cks_at k_M_often 39 rfl rfl) rfl ?_
    exact tq_iret (E := E_M_often d) (pc := 79) (cks_at k_M_often 40 rfl rfl) rfl
  · refine tq_aload_n 0 (E := E_M_often d) (pc := 57) (cks_at k_M_often 30 rfl rfl) rfl ?_
    refine tq_iload_n 1 (E := E_M_often d) (pc := 58) (cks_at k_M_often 31 rfl rfl) rfl ?_
    refine tq_iload_n 2 (E := E_M_often d) (pc := 59) (cks_at k_M_often 32 rfl rfl) rfl ?_
    refine tq_iload 6 (E := E_M_often d) (pc := 60) (cks_at k_M_often 33 rfl rfl) rfl ?_
    refine tq_V3 (E := E_M_often d) (pc := 62) (cks_at k_M_often 34 rfl rfl) mk_M_isPassed lk_M_450 rc_78 (Nat.le_of_ble_eq_true rfl) (c_M_isPassed (d + 0) v1 v2 v6 M) (k_I fun r10 M9 => ?_)
    refine tq_if_eq (E := E_M_often d) (pc := 65) (tgt := 71) (cks_at k_M_often 35 rfl rfl) (by decide) ?_ ?_
    · refine tq_iinc 6 (E := E_M_often d) (pc := 71) (cks_at k_M_often 37 rfl rfl) rfl (show 6 < 7 by decide) rfl ?_
      refine tq_goto (tgt := 48) (E := E_M_often d) (pc := 74) (cks_at k_M_often 38 rfl rfl) (by decide) ?_
      exact tq_sub [1, 2, 3, 4, 5, 6, 0] rfl (hkH v1 v2 v3 v4 v5 (v6 + 1) M9)
    · refine tq_iinc 5 (E := E_M_often d) (pc := 68) (cks_at k_M_often 36 rfl rfl) rfl (show 5 < 7 by decide) rfl ?_
      refine tq_iinc 6 (E := E_M_often d) (pc := 71) (cks_at k_M_often 37 rfl rfl) rfl (show 6 < 7 by decide) rfl ?_
      refine tq_goto (tgt := 48) (E := E_M_often d) (pc := 74) (cks_at k_M_often 38 rfl rfl) (by decide) ?_
      exact tq_sub [2, 3, 4, 5, 6, 1, 0] rfl (hkH v1 v2 v3 v4 (v5 + 1) (v6 + 1) M9)
def f_M_often_L48 : Nat → Int × Int × Int × Int × Int × Int × Mm → Option (Int × Mm) := lp fun kH s => f_M_often_B48 (fun v1 v2 v3 v4 v5 v6 M => kH (v1, v2, v3, v4, v5, v6, M)) s.1 s.2.1 s.2.2.1 s.2.2.2.1 s.2.2.2.2.1 s.2.2.2.2.2.1 s.2.2.2.2.2.2
set_option maxRecDepth 20000 in
set_option maxHeartbeats 4000000 in
theorem w_M_often_L48 (d : Nat) (n : Nat) (s : Int × Int × Int × Int × Int × Int × Mm) : T (E_M_often d) injI 48 [(0, .ref 78), (1, vI s.1), (2, vI s.2.1), (3, vI s.2.2.1), (4, vI s.2.2.2.1), (5, vI s.2.2.2.2.1), (6, vI s.2.2.2.2.2.1)] [] s.2.2.2.2.2.2 (f_M_often_L48 n s) :=
  tq_lp (fun s => [(0, .ref 78), (1, vI s.1), (2, vI s.2.1), (3, vI s.2.2.1), (4, vI s.2.2.2.1), (5, vI s.2.2.2.2.1), (6, vI s.2.2.2.2.2.1)]) (fun s => s.2.2.2.2.2.2) (fun kH hH s => w_M_often_B48 d (fun v1 v2 v3 v4 v5 v6 M => kH (v1, v2, v3, v4, v5, v6, M)) (fun v1 v2 v3 v4 v5 v6 M => hH (v1, v2, v3, v4, v5, v6, M)) s.1 s.2.1 s.2.2.1 s.2.2.2.1 s.2.2.2.2.1 s.2.2.2.2.2.1 s.2.2.2.2.2.2) n s
def f_M_often (v1 : Int) (v2 : Int) (v3 : Int) (v4 : Int) (M : Mm) : Option (Int × Mm) :=
  bI (f_M_isStreet v1 M) (fun r2 M1 =>
  if i32 r2 = 0 then
    some ((-1), M1)
  else
    bI (f_M_isIn (i32 v2) 1 99 M1) (fun r4 M3 =>
    if i32 r4 = 0 then
      some ((-1), M3)
    else
      bI (f_M_isHour v3 M3) (fun r6 M5 =>
      if i32 r6 = 0 then
        some ((-1), M5)
      else
        bI (f_M_isIn (i32 v4) 1 1000 M5) (fun r8 M7 =>
        if ¬ i32 r8 = 0 then
          f_M_often_L48 FU (v1, v2, v3, v4, 0, v3, M7)
        else
          some ((-1), M7)))))
set_option maxRecDepth 20000 in
set_option maxHeartbeats 4000000 in
theorem c_M_often (d : Nat) (v1 : Int) (v2 : Int) (v3 : Int) (v4 : Int) (M : Mm) (Q : Option Value → Mm → Prop) (h : sat injI (f_M_often v1 v2 v3 v4 M) Q) : Ct (d + 8) y_M_often [.ref 78, vI v1, vI v2, vI v3, vI v4] M Q := by
  refine ct_in (d := d + 7) mk_M_often (Nat.le_of_ble_eq_true rfl) (?_ : T (E_M_often d) injI 0 [(0, .ref 78), (1, vI v1), (2, vI v2), (3, vI v3), (4, vI v4)] [] M (f_M_often v1 v2 v3 v4 M)) h
  unfold f_M_often
  refine tq_aload_n 0 (E := E_M_often d) (pc := 0) (cks_at k_M_often 0 rfl rfl) rfl ?_
  refine tq_iload_n 1 (E := E_M_often d) (pc := 1) (cks_at k_M_often 1 rfl rfl) rfl ?_
  refine tq_V1 (E := E_M_often d) (pc := 2) (cks_at k_M_often 2 rfl rfl) mk_M_isStreet lk_M_509 rc_78 (Nat.le_of_ble_eq_true rfl) (c_M_isStreet (d + 5) v1 M) (k_I fun r2 M1 => ?_)
  refine tq_if_eq (E := E_M_often d) (pc := 5) (tgt := 40) (cks_at k_M_often 3 rfl rfl) (by decide) ?_ ?_
  · refine tq_iconst (E := E_M_often d) (pc := 40) (cks_at k_M_often 19 rfl rfl) ?_
    exact tq_iret (E := E_M_often d) (pc := 41) (cks_at k_M_often 20 rfl rfl) rfl
  · refine tq_iload_n 2 (E := E_M_often d) (pc := 8) (cks_at k_M_often 4 rfl rfl) rfl ?_
    refine tq_i2l (E := E_M_often d) (pc := 9) (cks_at k_M_often 5 rfl rfl) ?_
    refine tq_lconst1 (E := E_M_often d) (pc := 10) (cks_at k_M_often 6 rfl rfl) ?_
    refine tq_ldc2 (z := 99) (E := E_M_often d) (pc := 11) (cks_at k_M_often 7 rfl rfl) cst_M_429 ?_
    refine tq_S3 (E := E_M_often d) (pc := 14) (cks_at k_M_often 8 rfl rfl) mk_M_isIn lk_M_265 (Nat.le_of_ble_eq_true rfl) (c_M_isIn (d + 6) (i32 v2) 1 99 M1) (k_I fun r4 M3 => ?_)
    refine tq_if_eq (E := E_M_often d) (pc := 17) (tgt := 40) (cks_at k_M_often 9 rfl rfl) (by decide) ?_ ?_
    · refine tq_iconst (E := E_M_often d) (pc := 40) (cks_at k_M_often 19 rfl rfl) ?_
      exact tq_iret (E := E_M_often d) (pc := 41) (cks_at k_M_often 20 rfl rfl) rfl
    · refine tq_iload_n 3 (E := E_M_often d) (pc := 20) (cks_at k_M_often 10 rfl rfl) rfl ?_
      refine tq_S1 (E := E_M_often d) (pc := 21) (cks_at k_M_often 11 rfl rfl) mk_M_isHour lk_M_517 (Nat.le_of_ble_eq_true rfl) (c_M_isHour (d + 5) v3 M3) (k_I fun r6 M5 => ?_)
      refine tq_if_eq (E := E_M_often d) (pc := 24) (tgt := 40) (cks_at k_M_often 12 rfl rfl) (by decide) ?_ ?_
      · refine tq_iconst (E := E_M_often d) (pc := 40) (cks_at k_M_often 19 rfl rfl) ?_
        exact tq_iret (E := E_M_often d) (pc := 41) (cks_at k_M_often 20 rfl rfl) rfl
      · refine tq_iload 4 (E := E_M_often d) (pc := 27) (cks_at k_M_often 13 rfl rfl) rfl ?_
        refine tq_i2l (E := E_M_often d) (pc := 29) (cks_at k_M_often 14 rfl rfl) ?_
        refine tq_lconst1 (E := E_M_often d) (pc := 30) (cks_at k_M_often 15 rfl rfl) ?_
        refine tq_ldc2 (z := 1000) (E := E_M_often d) (pc := 31) (cks_at k_M_often 16 rfl rfl) cst_M_520 ?_
        refine tq_S3 (E := E_M_often d) (pc := 34) (cks_at k_M_often 17 rfl rfl) mk_M_isIn lk_M_265 (Nat.le_of_ble_eq_true rfl) (c_M_isIn (d + 6) (i32 v4) 1 1000 M5) (k_I fun r8 M7 => ?_)
        refine tq_if_ne (E := E_M_often d) (pc := 37) (tgt := 42) (cks_at k_M_often 18 rfl rfl) (by decide) ?_ ?_
        · refine tq_iconst (E := E_M_often d) (pc := 42) (cks_at k_M_often 21 rfl rfl) ?_
          refine tq_istore (E := E_M_often d) (pc := 43) (cks_at k_M_often 22 rfl rfl) (show 5 < 7 by decide) rfl ?_
          refine tq_iload_n 4 (E := E_M_often d) (pc := 45) (cks_at k_M_often 23 rfl rfl) rfl ?_
          refine tq_istore (E := E_M_often d) (pc := 46) (cks_at k_M_often 24 rfl rfl) (show 6 < 7 by decide) rfl ?_
          exact tq_sub [2, 3, 4, 5, 6, 1, 0] rfl (w_M_often_L48 d FU (v1, v2, v3, v4, 0, v3, M7))
        · refine tq_iconst (E := E_M_often d) (pc := 40) (cks_at k_M_often 19 rfl rfl) ?_
          exact tq_iret (E := E_M_often d) (pc := 41) (cks_at k_M_often 20 rfl rfl) rfl
abbrev E_BT_isAsked (d : Nat) : Ev := (Ct (d + 0), "BreathTown", prog_1_method_41_code, 1, False, 0, (fun _ => 0), (Option.some Jvm.ClassFile.FieldType.boolean))
def f_BT_isAsked (v0 : Int) (M : Mm) : Option (Int × Mm) :=
  if i32 v0 < 0 then
    some (0, M)
  else
    if i32 99999 < i32 v0 then
      some (0, M)
    else
      some (1, M)
set_option maxRecDepth 20000 in
set_option maxHeartbeats 4000000 in
theorem c_BT_isAsked (d : Nat) (v0 : Int) (M : Mm) (Q : Option Value → Mm → Prop) (h : sat injI (f_BT_isAsked v0 M) Q) : Ct (d + 1) y_BT_isAsked [vI v0] M Q := by
  refine ct_in (d := d + 0) mk_BT_isAsked (Nat.le_of_ble_eq_true rfl) (?_ : T (E_BT_isAsked d) injI 0 [(0, vI v0)] [] M (f_BT_isAsked v0 M)) h
  unfold f_BT_isAsked
  refine tq_iload_n 0 (E := E_BT_isAsked d) (pc := 0) (cks_at k_BT_isAsked 0 rfl rfl) rfl ?_
  refine tq_if_lt (E := E_BT_isAsked d) (pc := 1) (tgt := 15) (cks_at k_BT_isAsked 1 rfl rfl) (by decide) ?_ ?_
  · refine tq_iconst (E := E_BT_isAsked d) (pc := 15) (cks_at k_BT_isAsked 7 rfl rfl) ?_
    exact tq_zretC (E := E_BT_isAsked d) (pc := 16) (cks_at k_BT_isAsked 8 rfl rfl) rfl (by decide)
  · refine tq_iload_n 0 (E := E_BT_isAsked d) (pc := 4) (cks_at k_BT_isAsked 2 rfl rfl) rfl ?_
    refine tq_ldcw (z := 99999) (E := E_BT_isAsked d) (pc := 5) (cks_at k_BT_isAsked 3 rfl rfl) cst_BT_326 ?_
    refine tq_icmp_gt (E := E_BT_isAsked d) (pc := 8) (tgt := 15) (cks_at k_BT_isAsked 4 rfl rfl) (by decide) ?_ ?_
    · refine tq_iconst (E := E_BT_isAsked d) (pc := 15) (cks_at k_BT_isAsked 7 rfl rfl) ?_
      exact tq_zretC (E := E_BT_isAsked d) (pc := 16) (cks_at k_BT_isAsked 8 rfl rfl) rfl (by decide)
    · refine tq_iconst (E := E_BT_isAsked d) (pc := 11) (cks_at k_BT_isAsked 5 rfl rfl) ?_
      refine tq_goto (tgt := 16) (E := E_BT_isAsked d) (pc := 12) (cks_at k_BT_isAsked 6 rfl rfl) (by decide) ?_
      exact tq_zretC (E := E_BT_isAsked d) (pc := 16) (cks_at k_BT_isAsked 8 rfl rfl) rfl (by decide)
abbrev E_Ways_passCount (d : Nat) : Ev := (Ct (d + 5), "BreathTown$Ways", prog_11_method_3_code, 9, False, 0, (fun _ => 0), (Option.some Jvm.ClassFile.FieldType.int))
def f_Ways_passCount_J54 (kH : Int → Int → Int → Int → Int → Int → Int → Mm → Option (Int × Mm)) (v1 v2 v4 v5 v7 v8 s0 : Int) (M : Mm) : Option (Int × Mm) :=
  if i32 s0 < i32 v5 then
    kH v1 v2 v4 v5 s0 (v7 + 0) (v8 + 1) M
  else
    kH v1 v2 v4 v5 s0 (v7 + 1) (v8 + 1) M
set_option maxRecDepth 20000 in
set_option maxHeartbeats 4000000 in
theorem w_Ways_passCount_J54 (d : Nat) (kH : Int → Int → Int → Int → Int → Int → Int → Mm → Option (Int × Mm)) (hkH : ∀ (v1 v2 v4 v5 v6 v7 v8 : Int) (M : Mm), T (E_Ways_passCount d) injI 22 [(0, .ref 48), (1, vI v1), (2, vI v2), (4, vI v4), (5, vI v5), (6, vI v6), (7, vI v7), (8, vI v8)] [] M (kH v1 v2 v4 v5 v6 v7 v8 M)) (v1 v2 v4 v5 v7 v8 s0 : Int) (M : Mm) : T (E_Ways_passCount d) injI 54 [(0, .ref 48), (1, vI v1), (2, vI v2), (4, vI v4), (5, vI v5), (7, vI v7), (8, vI v8)] [vI s0] M (f_Ways_passCount_J54 kH v1 v2 v4 v5 v7 v8 s0 M) := by
  unfold f_Ways_passCount_J54
  refine tq_istore (E := E_Ways_passCount d) (pc := 54) (cks_at k_Ways_passCount 29 rfl rfl) (show 6 < 9 by decide) rfl ?_
  refine tq_iload 6 (E := E_Ways_passCount d) (pc := 56) (cks_at k_Ways_passCount 30 rfl rfl) rfl ?_
  refine tq_iload 0 (E := E_Ways_passCount d) (pc := 58) (cks_at k_Ways_passCount 31 rfl rfl) rfl ?_
  refine tq_iload 5 (E := E_Ways_passCount d) (pc := 60) (cks_at k_Ways_passCount 32 rfl rfl) rfl ?_
  refine tq_icmp_lt (E := E_Ways_passCount d) (pc := 62) (tgt := 69) (cks_at k_Ways_passCount 33 rfl rfl) (by decide) ?_ ?_
  · refine tq_iconst (E := E_Ways_passCount d) (pc := 69) (cks_at k_Ways_passCount 36 rfl rfl) ?_
    refine tq_iadd (E := E_Ways_passCount d) (pc := 70) (cks_at k_Ways_passCount 37 rfl rfl) ?_
    refine tq_istore (E := E_Ways_passCount d) (pc := 71) (cks_at k_Ways_passCount 38 rfl rfl) (show 7 < 9 by decide) rfl ?_
    refine tq_iinc 7 (E := E_Ways_passCount d) (pc := 73) (cks_at k_Ways_passCount 39 rfl rfl) rfl (show 8 < 9 by decide) rfl ?_
    refine tq_goto (tgt := 22) (E := E_Ways_passCount d) (pc := 76) (cks_at k_Ways_passCount 40 rfl rfl) (by decide) ?_
    exact tq_sub [3, 4, 5, 6, 7, 2, 1, 0] rfl (hkH v1 v2 v4 v5 s0 (v7 + 0) (v8 + 1) M)
  · refine tq_iconst (E := E_Ways_passCount d) (pc := 65) (cks_at k_Ways_passCount 34 rfl rfl) ?_
    refine tq_goto (tgt := 70) (E := E_Ways_passCount d) (pc := 66) (cks_at k_Ways_passCount 35 rfl rfl) (by decide) ?_
    refine tq_iadd (E := E_Ways_passCount d) (pc := 70) (cks_at k_Ways_passCount 37 rfl rfl) ?_
    refine tq_istore (E := E_Ways_passCount d) (pc := 71) (cks_at k_Ways_passCount 38 rfl rfl) (show 7 < 9 by decide) rfl ?_
    refine tq_iinc 7 (E := E_Ways_passCount d) (pc := 73) (cks_at k_Ways_passCount 39 rfl rfl) rfl (show 8 < 9 by decide) rfl ?_
    refine tq_goto (tgt := 22) (E := E_Ways_passCount d) (pc := 76) (cks_at k_Ways_passCount 40 rfl rfl) (by decide) ?_
    exact tq_sub [3, 4, 5, 6, 7, 2, 1, 0] rfl (hkH v1 v2 v4 v5 s0 (v7 + 1) (v8 + 1) M)
def f_Ways_passCount_B22 (kH : Int → Int → Int → Int → Int → Int → Int → Mm → Option (Int × Mm)) (v1 v2 v4 v5 v6 v7 v8 : Int) (M : Mm) : Option (Int × Mm) :=
  if i32 (v4 + v5) ≤ i32 v8 then
    some (v7, M)
  else
    bI (f_Widths_widthAt v1 v8 M) (fun r4 M3 =>
    if i32 r4 < i32 v2 then
      f_Ways_passCount_J54 kH v1 v2 v4 v5 v7 v8 0 M3
    else
      f_Ways_passCount_J54 kH v1 v2 v4 v5 v7 v8 (v6 + 1) M3)
set_option maxRecDepth 20000 in
set_option maxHeartbeats 4000000 in
theorem w_Ways_passCount_B22 (d : Nat) (kH : Int → Int → Int → Int → Int → Int → Int → Mm → Option (Int × Mm)) (hkH : ∀ (v1 v2 v4 v5 v6 v7 v8 : Int) (M : Mm), T (E_Ways_passCount d) injI 22 [(0, .ref 48), (1, vI v1), (2, vI v2), (4, vI v4), (5, vI v5), (6, vI v6), (7, vI v7), (8, vI v8)] [] M (kH v1 v2 v4 v5 v6 v7 v8 M)) (v1 v2 v4 v5 v6 v7 v8 : Int) (M : Mm) : T (E_Ways_passCount d) injI 22 [(0, .ref 48), (1, vI v1), (2, vI v2), (4, vI v4), (5, vI v5), (6, vI v6), (7, vI v7), (8, vI v8)] [] M (f_Ways_passCount_B22 kH v1 v2 v4 v5 v6 v7 v8 M) := by
  unfold f_Ways_passCount_B22
  refine tq_iload 7 (E := E_Ways_passCount d) (pc := 22) (cks_at k_Ways_passCount 12 rfl rfl) rfl ?_
  refine tq_iload 3 (E := E_Ways_passCount d) (pc := 24) (cks_at k_Ways_passCount 13 rfl rfl) rfl ?_
  refine tq_iload 4 (E := E_Ways_passCount d) (pc := 26) (cks_at k_Ways_passCount 14 rfl rfl) rfl ?_
  refine tq_iadd (E := E_Ways_passCount d) (pc := 28) (cks_at k_Ways_passCount 15 rfl rfl) ?_
  refine tq_icmp_ge (E := E_Ways_passCount d) (pc := 29) (tgt := 79) (cks_at k_Ways_passCount 16 rfl rfl) (by decide) ?_ ?_
  · refine tq_iload 6 (E := E_Ways_passCount d) (pc := 79) (cks_at k_Ways_passCount 41 rfl rfl) rfl ?_
    exact tq_iret (E := E_Ways_passCount d) (pc := 81) (cks_at k_Ways_passCount 42 rfl rfl) rfl
  · refine tq_aload_n 0 (E := E_Ways_passCount d) (pc := 32) (cks_at k_Ways_passCount 17 rfl rfl) rfl ?_
    refine tq_getR (j := 46) (E := E_Ways_passCount d) (pc := 33) (cks_at k_Ways_passCount 18 rfl rfl) fo_Ways_38 so_48 rfl sp_48_2 ?_
    refine tq_iload_n 1 (E := E_Ways_passCount d) (pc := 36) (cks_at k_Ways_passCount 19 rfl rfl) rfl ?_
    refine tq_iload 7 (E := E_Ways_passCount d) (pc := 37) (cks_at k_Ways_passCount 20 rfl rfl) rfl ?_
    refine tq_V2 (E := E_Ways_passCount d) (pc := 39) (cks_at k_Ways_passCount 21 rfl rfl) mk_Widths_widthAt lk_Ways_70 rc_46 (Nat.le_of_ble_eq_true rfl) (c_Widths_widthAt (d + 0) v1 v8 M) (k_I fun r4 M3 => ?_)
    refine tq_iload_n 2 (E := E_Ways_passCount d) (pc := 42) (cks_at k_Ways_passCount 22 rfl rfl) rfl ?_
    refine tq_icmp_lt (E := E_Ways_passCount d) (pc := 43) (tgt := 53) (cks_at k_Ways_passCount 23 rfl rfl) (by decide) ?_ ?_
    · refine tq_iconst (E := E_Ways_passCount d) (pc := 53) (cks_at k_Ways_passCount 28 rfl rfl) ?_
      exact tq_sub [0, 1, 2, 3, 4, 6, 7] rfl (w_Ways_passCount_J54 d kH hkH v1 v2 v4 v5 v7 v8 0 M3)
    · refine tq_iload 5 (E := E_Ways_passCount d) (pc := 46) (cks_at k_Ways_passCount 24 rfl rfl) rfl ?_
      refine tq_iconst (E := E_Ways_passCount d) (pc := 48) (cks_at k_Ways_passCount 25 rfl rfl) ?_
      refine tq_iadd (E := E_Ways_passCount d) (pc := 49) (cks_at k_Ways_passCount 26 rfl rfl) ?_
      refine tq_goto (tgt := 54) (E := E_Ways_passCount d) (pc := 50) (cks_at k_Ways_passCount 27 rfl rfl) (by decide) ?_
      exact tq_sub [0, 1, 2, 3, 4, 6, 7] rfl (w_Ways_passCount_J54 d kH hkH v1 v2 v4 v5 v7 v8 (v6 + 1) M3)
def f_Ways_passCount_L22 : Nat → Int × Int × Int × Int × Int × Int × Int × Mm → Option (Int × Mm) := lp fun kH s => f_Ways_passCount_B22 (fun v1 v2 v4 v5 v6 v7 v8 M => kH (v1, v2, v4, v5, v6, v7, v8, M)) s.1 s.2.1 s.2.2.1 s.2.2.2.1 s.2.2.2.2.1 s.2.2.2.2.2.1 s.2.2.2.2.2.2.1 s.2.2.2.2.2.2.2
set_option maxRecDepth 20000 in
set_option maxHeartbeats 4000000 in
theorem w_Ways_passCount_L22 (d : Nat) (n : Nat) (s : Int × Int × Int × Int × Int × Int × Int × Mm) : T (E_Ways_passCount d) injI 22 [(0, .ref 48), (1, vI s.1), (2, vI s.2.1), (4, vI s.2.2.1), (5, vI s.2.2.2.1), (6, vI s.2.2.2.2.1), (7, vI s.2.2.2.2.2.1), (8, vI s.2.2.2.2.2.2.1)] [] s.2.2.2.2.2.2.2 (f_Ways_passCount_L22 n s) :=
  tq_lp (fun s => [(0, .ref 48), (1, vI s.1), (2, vI s.2.1), (4, vI s.2.2.1), (5, vI s.2.2.2.1), (6, vI s.2.2.2.2.1), (7, vI s.2.2.2.2.2.1), (8, vI s.2.2.2.2.2.2.1)]) (fun s => s.2.2.2.2.2.2.2) (fun kH hH s => w_Ways_passCount_B22 d (fun v1 v2 v4 v5 v6 v7 v8 M => kH (v1, v2, v4, v5, v6, v7, v8, M)) (fun v1 v2 v4 v5 v6 v7 v8 M => hH (v1, v2, v4, v5, v6, v7, v8, M)) s.1 s.2.1 s.2.2.1 s.2.2.2.1 s.2.2.2.2.1 s.2.2.2.2.2.1 s.2.2.2.2.2.2.1 s.2.2.2.2.2.2.2) n s
def f_Ways_passCount (v1 : Int) (v2 : Int) (v3 : Int) (v4 : Int) (M : Mm) : Option (Int × Mm) :=
  bI (f_BT_cell 8 v1 M) (fun r2 M1 =>
  f_Ways_passCount_L22 FU (v1, v2, v4, r2, 0, 0, v3, M1))
set_option maxRecDepth 20000 in
set_option maxHeartbeats 4000000 in
theorem c_Ways_passCount (d : Nat) (v1 : Int) (v2 : Int) (v3 : Int) (v4 : Int) (M : Mm) (Q : Option Value → Mm → Prop) (h : sat injI (f_Ways_passCount v1 v2 v3 v4 M) Q) : Ct (d + 6) y_Ways_passCount [.ref 48, vI v1, vI v2, vI v3, vI v4] M Q := by
  refine ct_in (d := d + 5) mk_Ways_passCount (Nat.le_of_ble_eq_true rfl) (?_ : T (E_Ways_passCount d) injI 0 [(0, .ref 48), (1, vI v1), (2, vI v2), (3, vI v3), (4, vI v4)] [] M (f_Ways_passCount v1 v2 v3 v4 M)) h
  unfold f_Ways_passCount
  refine tq_aload_n 0 (E := E_Ways_passCount d) (pc := 0) (cks_at k_Ways_passCount 0 rfl rfl) rfl ?_
  refine tq_getR (j := 3) (E := E_Ways_passCount d) (pc := 1) (cks_at k_Ways_passCount 1 rfl rfl) fo_Ways_30 so_48 rfl sp_48_0 ?_
  refine tq_getR (j := 8) (E := E_Ways_passCount d) (pc := 4) (cks_at k_Ways_passCount 2 rfl rfl) fo_Ways_42 so_3 rfl sp_3_4 ?_
  refine tq_iload_n 1 (E := E_Ways_passCount d) (pc := 7) (cks_at k_Ways_passCount 3 rfl rfl) rfl ?_
  refine tq_S2 (E := E_Ways_passCount d) (pc := 8) (cks_at k_Ways_passCount 4 rfl rfl) mk_BT_cell lk_Ways_47 (Nat.le_of_ble_eq_true rfl) (c_BT_cell (d + 4) 8 sa_8 v1 M) (k_I fun r2 M1 => ?_)
  refine tq_istore (E := E_Ways_passCount d) (pc := 11) (cks_at k_Ways_passCount 5 rfl rfl) (show 5 < 9 by decide) rfl ?_
  refine tq_iconst (E := E_Ways_passCount d) (pc := 13) (cks_at k_Ways_passCount 6 rfl rfl) ?_
  refine tq_istore (E := E_Ways_passCount d) (pc := 14) (cks_at k_Ways_passCount 7 rfl rfl) (show 6 < 9 by decide) rfl ?_
  refine tq_iconst (E := E_Ways_passCount d) (pc := 16) (cks_at k_Ways_passCount 8 rfl rfl) ?_
  refine tq_istore (E := E_Ways_passCount d) (pc := 17) (cks_at k_Ways_passCount 9 rfl rfl) (show 7 < 9 by decide) rfl ?_
  refine tq_iload_n 6 (E := E_Ways_passCount d) (pc := 19) (cks_at k_Ways_passCount 10 rfl rfl) rfl ?_
  refine tq_istore (E := E_Ways_passCount d) (pc := 20) (cks_at k_Ways_passCount 11 rfl rfl) (show 8 < 9 by decide) rfl ?_
  exact tq_sub [4, 5, 6, 8, 3, 2, 1, 0] rfl (w_Ways_passCount_L22 d FU (v1, v2, v4, r2, 0, 0, v3, M1))
abbrev E_BT_often (d : Nat) : Ev := (Ct (d + 6), "BreathTown", prog_1_method_13_code, 5, False, 0, (fun _ => 0), (Option.some Jvm.ClassFile.FieldType.int))
def f_BT_often (v1 : Int) (v2 : Int) (v3 : Int) (v4 : Int) (M : Mm) : Option (Int × Mm) :=
  bI (f_Told_hasA 3 1 v1 M) (fun r2 M1 =>
  if i32 r2 = 0 then
    some ((-1), M1)
  else
    bI (f_BT_isBreadth v2 M1) (fun r4 M3 =>
    if i32 r4 = 0 then
      some ((-1), M3)
    else
      bI (f_BT_isAsked v3 M3) (fun r6 M5 =>
      if i32 r6 = 0 then
        some ((-1), M5)
      else
        if i32 v4 < i32 1 then
          some ((-1), M5)
        else
          if i32 v4 ≤ i32 1000 then
            bI (f_Ways_passCount v1 v2 v3 ((v3 + v4) - 1) M5) (fun r8 M7 =>
            some (r8, M7))
          else
            some ((-1), M5))))
set_option maxRecDepth 20000 in
set_option maxHeartbeats 4000000 in
theorem c_BT_often (d : Nat) (v1 : Int) (v2 : Int) (v3 : Int) (v4 : Int) (M : Mm) (Q : Option Value → Mm → Prop) (h : sat injI (f_BT_often v1 v2 v3 v4 M) Q) : Ct (d + 7) y_BT_often [.ref 0, vI v1, vI v2, vI v3, vI v4] M Q := by
  refine ct_in (d := d + 6) mk_BT_often (Nat.le_of_ble_eq_true rfl) (?_ : T (E_BT_often d) injI 0 [(0, .ref 0), (1, vI v1), (2, vI v2), (3, vI v3), (4, vI v4)] [] M (f_BT_often v1 v2 v3 v4 M)) h
  unfold f_BT_often
  refine tq_aload_n 0 (E := E_BT_often d) (pc := 0) (cks_at k_BT_often 0 rfl rfl) rfl ?_
  refine tq_getR (j := 3) (E := E_BT_often d) (pc := 1) (cks_at k_BT_often 1 rfl rfl) fo_BT_19 so_0 rfl sp_0_1 ?_
  refine tq_iconst (E := E_BT_often d) (pc := 4) (cks_at k_BT_often 2 rfl rfl) ?_
  refine tq_iload_n 1 (E := E_BT_often d) (pc := 5) (cks_at k_BT_often 3 rfl rfl) rfl ?_
  refine tq_V2 (E := E_BT_often d) (pc := 6) (cks_at k_BT_often 4 rfl rfl) mk_Told_hasA lk_BT_143 (isTold_rc (Or.inl rfl)) (Nat.le_of_ble_eq_true rfl) (c_Told_hasA (d + 3) 3 (Or.inl rfl) 1 v1 M) (k_I fun r2 M1 => ?_)
  refine tq_if_eq (E := E_BT_often d) (pc := 9) (tgt := 40) (cks_at k_BT_often 5 rfl rfl) (by decide) ?_ ?_
  · refine tq_iconst (E := E_BT_often d) (pc := 40) (cks_at k_BT_often 18 rfl rfl) ?_
    exact tq_iret (E := E_BT_often d) (pc := 41) (cks_at k_BT_often 19 rfl rfl) rfl
  · refine tq_iload_n 2 (E := E_BT_often d) (pc := 12) (cks_at k_BT_often 6 rfl rfl) rfl ?_
    refine tq_S1 (E := E_BT_often d) (pc := 13) (cks_at k_BT_often 7 rfl rfl) mk_BT_isBreadth lk_BT_192 (Nat.le_of_ble_eq_true rfl) (c_BT_isBreadth (d + 5) v2 M1) (k_I fun r4 M3 => ?_)
    refine tq_if_eq (E := E_BT_often d) (pc := 16) (tgt := 40) (cks_at k_BT_often 8 rfl rfl) (by decide) ?_ ?_
    · refine tq_iconst (E := E_BT_often d) (pc := 40) (cks_at k_BT_often 18 rfl rfl) ?_
      exact tq_iret (E := E_BT_often d) (pc := 41) (cks_at k_BT_often 19 rfl rfl) rfl
    · refine tq_iload_n 3 (E := E_BT_often d) (pc := 19) (cks_at k_BT_often 9 rfl rfl) rfl ?_
      refine tq_S1 (E := E_BT_often d) (pc := 20) (cks_at k_BT_often 10 rfl rfl) mk_BT_isAsked lk_BT_188 (Nat.le_of_ble_eq_true rfl) (c_BT_isAsked (d + 5) v3 M3) (k_I fun r6 M5 => ?_)
      refine tq_if_eq (E := E_BT_often d) (pc := 23) (tgt := 40) (cks_at k_BT_often 11 rfl rfl) (by decide) ?_ ?_
      · refine tq_iconst (E := E_BT_often d) (pc := 40) (cks_at k_BT_often 18 rfl rfl) ?_
        exact tq_iret (E := E_BT_often d) (pc := 41) (cks_at k_BT_often 19 rfl rfl) rfl
      · refine tq_iload 4 (E := E_BT_often d) (pc := 26) (cks_at k_BT_often 12 rfl rfl) rfl ?_
        refine tq_iconst (E := E_BT_often d) (pc := 28) (cks_at k_BT_often 13 rfl rfl) ?_
        refine tq_icmp_lt (E := E_BT_often d) (pc := 29) (tgt := 40) (cks_at k_BT_often 14 rfl rfl) (by decide) ?_ ?_
        · refine tq_iconst (E := E_BT_often d) (pc := 40) (cks_at k_BT_often 18 rfl rfl) ?_
          exact tq_iret (E := E_BT_often d) (pc := 41) (cks_at k_BT_often 19 rfl rfl) rfl
        · refine tq_iload 4 (E := E_BT_often d) (pc := 32) (cks_at k_BT_often 15 rfl rfl) rfl ?_
          refine tq_sipush (E := E_BT_often d) (pc := 34) (cks_at k_BT_often 16 rfl rfl) (by decide) (by decide) ?_
          refine tq_icmp_le (E := E_BT_often d) (pc := 37) (tgt := 42) (cks_at k_BT_often 17 rfl rfl) (by decide) ?_ ?_
          · refine tq_aload_n 0 (E := E_BT_often d) (pc := 42) (cks_at k_BT_often 20 rfl rfl) rfl ?_
            refine tq_getR (j := 48) (E := E_BT_often d) (pc := 43) (cks_at k_BT_often 21 rfl rfl) fo_BT_58 so_0 rfl sp_0_6 ?_
            refine tq_iload_n 1 (E := E_BT_often d) (pc := 46) (cks_at k_BT_often 22 rfl rfl) rfl ?_
            refine tq_iload_n 2 (E := E_BT_often d) (pc := 47) (cks_at k_BT_often 23 rfl rfl) rfl ?_
            refine tq_iload_n 3 (E := E_BT_often d) (pc := 48) (cks_at k_BT_often 24 rfl rfl) rfl ?_
            refine tq_iload_n 3 (E := E_BT_often d) (pc := 49) (cks_at k_BT_often 25 rfl rfl) rfl ?_
            refine tq_iload 4 (E := E_BT_often d) (pc := 50) (cks_at k_BT_often 26 rfl rfl) rfl ?_
            refine tq_iadd (E := E_BT_often d) (pc := 52) (cks_at k_BT_often 27 rfl rfl) ?_
            refine tq_iconst (E := E_BT_often d) (pc := 53) (cks_at k_BT_often 28 rfl rfl) ?_
            refine tq_isub (E := E_BT_often d) (pc := 54) (cks_at k_BT_often 29 rfl rfl) ?_
            refine tq_V4 (E := E_BT_often d) (pc := 55) (cks_at k_BT_often 30 rfl rfl) mk_Ways_passCount lk_BT_199 rc_48 (Nat.le_of_ble_eq_true rfl) (c_Ways_passCount (d + 0) v1 v2 v3 ((v3 + v4) - 1) M5) (k_I fun r8 M7 => ?_)
            exact tq_iret (E := E_BT_often d) (pc := 58) (cks_at k_BT_often 31 rfl rfl) rfl
          · refine tq_iconst (E := E_BT_often d) (pc := 40) (cks_at k_BT_often 18 rfl rfl) ?_
            exact tq_iret (E := E_BT_often d) (pc := 41) (cks_at k_BT_often 19 rfl rfl) rfl
abbrev E_M_next (d : Nat) : Ev := (Ct (d + 7), "BreathTownModel", prog_14_method_80_code, 5, False, 0, (fun _ => 0), (Option.some Jvm.ClassFile.FieldType.int))
def f_M_next_B32 (kH : Int → Int → Int → Int → Mm → Option (Int × Mm)) (v1 v2 v3 v4 : Int) (M : Mm) : Option (Int × Mm) :=
  if i32 (v3 + 400) < i32 v4 then
    some ((-1), M)
  else
    bI (f_M_isPassed v1 v2 v4 M) (fun r8 M7 =>
    if i32 r8 = 0 then
      kH v1 v2 v3 (v4 + 1) M7
    else
      some (v4, M7))
set_option maxRecDepth 20000 in
set_option maxHeartbeats 4000000 in
theorem w_M_next_B32 (d : Nat) (kH : Int → Int → Int → Int → Mm → Option (Int × Mm)) (hkH : ∀ (v1 v2 v3 v4 : Int) (M : Mm), T (E_M_next d) injI 32 [(0, .ref 78), (1, vI v1), (2, vI v2), (3, vI v3), (4, vI v4)] [] M (kH v1 v2 v3 v4 M)) (v1 v2 v3 v4 : Int) (M : Mm) : T (E_M_next d) injI 32 [(0, .ref 78), (1, vI v1), (2, vI v2), (3, vI v3), (4, vI v4)] [] M (f_M_next_B32 kH v1 v2 v3 v4 M) := by
  unfold f_M_next_B32
  refine tq_iload 4 (E := E_M_next d) (pc := 32) (cks_at k_M_next 17 rfl rfl) rfl ?_
  refine tq_iload_n 3 (E := E_M_next d) (pc := 34) (cks_at k_M_next 18 rfl rfl) rfl ?_
  refine tq_sipush (E := E_M_next d) (pc := 35) (cks_at k_M_next 19 rfl rfl) (by decide) (by decide) ?_
  refine tq_iadd (E := E_M_next d) (pc := 38) (cks_at k_M_next 20 rfl rfl) ?_
  refine tq_icmp_gt (E := E_M_next d) (pc := 39) (tgt := 62) (cks_at k_M_next 21 rfl rfl) (by decide) ?_ ?_
  · refine tq_iconst (E := E_M_next d) (pc := 62) (cks_at k_M_next 32 rfl rfl) ?_
    exact tq_iret (E := E_M_next d) (pc := 63) (cks_at k_M_next 33 rfl rfl) rfl
  · refine tq_aload_n 0 (E := E_M_next d) (pc := 42) (cks_at k_M_next 22 rfl rfl) rfl ?_
    refine tq_iload_n 1 (E := E_M_next d) (pc := 43) (cks_at k_M_next 23 rfl rfl) rfl ?_
    refine tq_iload_n 2 (E := E_M_next d) (pc := 44) (cks_at k_M_next 24 rfl rfl) rfl ?_
    refine tq_iload 4 (E := E_M_next d) (pc := 45) (cks_at k_M_next 25 rfl rfl) rfl ?_
    refine tq_V3 (E := E_M_next d) (pc := 47) (cks_at k_M_next 26 rfl rfl) mk_M_isPassed lk_M_450 rc_78 (Nat.le_of_ble_eq_true rfl) (c_M_isPassed (d + 0) v1 v2 v4 M) (k_I fun r8 M7 => ?_)
    refine tq_if_eq (E := E_M_next d) (pc := 50) (tgt := 56) (cks_at k_M_next 27 rfl rfl) (by decide) ?_ ?_
    · refine tq_iinc 4 (E := E_M_next d) (pc := 56) (cks_at k_M_next 30 rfl rfl) rfl (show 4 < 5 by decide) rfl ?_
      refine tq_goto (tgt := 32) (E := E_M_next d) (pc := 59) (cks_at k_M_next 31 rfl rfl) (by decide) ?_
      exact tq_sub [1, 2, 3, 4, 0] rfl (hkH v1 v2 v3 (v4 + 1) M7)
    · refine tq_iload 4 (E := E_M_next d) (pc := 53) (cks_at k_M_next 28 rfl rfl) rfl ?_
      exact tq_iret (E := E_M_next d) (pc := 55) (cks_at k_M_next 29 rfl rfl) rfl
def f_M_next_L32 : Nat → Int × Int × Int × Int × Mm → Option (Int × Mm) := lp fun kH s => f_M_next_B32 (fun v1 v2 v3 v4 M => kH (v1, v2, v3, v4, M)) s.1 s.2.1 s.2.2.1 s.2.2.2.1 s.2.2.2.2
set_option maxRecDepth 20000 in
set_option maxHeartbeats 4000000 in
theorem w_M_next_L32 (d : Nat) (n : Nat) (s : Int × Int × Int × Int × Mm) : T (E_M_next d) injI 32 [(0, .ref 78), (1, vI s.1), (2, vI s.2.1), (3, vI s.2.2.1), (4, vI s.2.2.2.1)] [] s.2.2.2.2 (f_M_next_L32 n s) :=
  tq_lp (fun s => [(0, .ref 78), (1, vI s.1), (2, vI s.2.1), (3, vI s.2.2.1), (4, vI s.2.2.2.1)]) (fun s => s.2.2.2.2) (fun kH hH s => w_M_next_B32 d (fun v1 v2 v3 v4 M => kH (v1, v2, v3, v4, M)) (fun v1 v2 v3 v4 M => hH (v1, v2, v3, v4, M)) s.1 s.2.1 s.2.2.1 s.2.2.2.1 s.2.2.2.2) n s
def f_M_next (v1 : Int) (v2 : Int) (v3 : Int) (M : Mm) : Option (Int × Mm) :=
  bI (f_M_isStreet v1 M) (fun r2 M1 =>
  if i32 r2 = 0 then
    some ((-1), M1)
  else
    bI (f_M_isIn (i32 v2) 1 99 M1) (fun r4 M3 =>
    if i32 r4 = 0 then
      some ((-1), M3)
    else
      bI (f_M_isHour v3 M3) (fun r6 M5 =>
      if ¬ i32 r6 = 0 then
        f_M_next_L32 FU (v1, v2, v3, v3, M5)
      else
        some ((-1), M5))))
set_option maxRecDepth 20000 in
set_option maxHeartbeats 4000000 in
theorem c_M_next (d : Nat) (v1 : Int) (v2 : Int) (v3 : Int) (M : Mm) (Q : Option Value → Mm → Prop) (h : sat injI (f_M_next v1 v2 v3 M) Q) : Ct (d + 8) y_M_next [.ref 78, vI v1, vI v2, vI v3] M Q := by
  refine ct_in (d := d + 7) mk_M_next (Nat.le_of_ble_eq_true rfl) (?_ : T (E_M_next d) injI 0 [(0, .ref 78), (1, vI v1), (2, vI v2), (3, vI v3)] [] M (f_M_next v1 v2 v3 M)) h
  unfold f_M_next
  refine tq_aload_n 0 (E := E_M_next d) (pc := 0) (cks_at k_M_next 0 rfl rfl) rfl ?_
  refine tq_iload_n 1 (E := E_M_next d) (pc := 1) (cks_at k_M_next 1 rfl rfl) rfl ?_
  refine tq_V1 (E := E_M_next d) (pc := 2) (cks_at k_M_next 2 rfl rfl) mk_M_isStreet lk_M_509 rc_78 (Nat.le_of_ble_eq_true rfl) (c_M_isStreet (d + 5) v1 M) (k_I fun r2 M1 => ?_)
  refine tq_if_eq (E := E_M_next d) (pc := 5) (tgt := 27) (cks_at k_M_next 3 rfl rfl) (by decide) ?_ ?_
  · refine tq_iconst (E := E_M_next d) (pc := 27) (cks_at k_M_next 13 rfl rfl) ?_
    exact tq_iret (E := E_M_next d) (pc := 28) (cks_at k_M_next 14 rfl rfl) rfl
  · refine tq_iload_n 2 (E := E_M_next d) (pc := 8) (cks_at k_M_next 4 rfl rfl) rfl ?_
    refine tq_i2l (E := E_M_next d) (pc := 9) (cks_at k_M_next 5 rfl rfl) ?_
    refine tq_lconst1 (E := E_M_next d) (pc := 10) (cks_at k_M_next 6 rfl rfl) ?_
    refine tq_ldc2 (z := 99) (E := E_M_next d) (pc := 11) (cks_at k_M_next 7 rfl rfl) cst_M_429 ?_
    refine tq_S3 (E := E_M_next d) (pc := 14) (cks_at k_M_next 8 rfl rfl) mk_M_isIn lk_M_265 (Nat.le_of_ble_eq_true rfl) (c_M_isIn (d + 6) (i32 v2) 1 99 M1) (k_I fun r4 M3 => ?_)
    refine tq_if_eq (E := E_M_next d) (pc := 17) (tgt := 27) (cks_at k_M_next 9 rfl rfl) (by decide) ?_ ?_
    · refine tq_iconst (E := E_M_next d) (pc := 27) (cks_at k_M_next 13 rfl rfl) ?_
      exact tq_iret (E := E_M_next d) (pc := 28) (cks_at k_M_next 14 rfl rfl) rfl
    · refine tq_iload_n 3 (E := E_M_next d) (pc := 20) (cks_at k_M_next 10 rfl rfl) rfl ?_
      refine tq_S1 (E := E_M_next d) (pc := 21) (cks_at k_M_next 11 rfl rfl) mk_M_isHour lk_M_517 (Nat.le_of_ble_eq_true rfl) (c_M_isHour (d + 5) v3 M3) (k_I fun r6 M5 => ?_)
      refine tq_if_ne (E := E_M_next d) (pc := 24) (tgt := 29) (cks_at k_M_next 12 rfl rfl) (by decide) ?_ ?_
      · refine tq_iload_n 3 (E := E_M_next d) (pc := 29) (cks_at k_M_next 15 rfl rfl) rfl ?_
        refine tq_istore (E := E_M_next d) (pc := 30) (cks_at k_M_next 16 rfl rfl) (show 4 < 5 by decide) rfl ?_
        exact tq_sub [1, 2, 3, 4, 0] rfl (w_M_next_L32 d FU (v1, v2, v3, v3, M5))
      · refine tq_iconst (E := E_M_next d) (pc := 27) (cks_at k_M_next 13 rfl rfl) ?_
        exact tq_iret (E := E_M_next d) (pc := 28) (cks_at k_M_next 14 rfl rfl) rfl
abbrev E_BT_next (d : Nat) : Ev := (Ct (d + 5), "BreathTown", prog_1_method_12_code, 4, False, 0, (fun _ => 0), (Option.some Jvm.ClassFile.FieldType.int))
def f_BT_next (v1 : Int) (v2 : Int) (v3 : Int) (M : Mm) : Option (Int × Mm) :=
  bI (f_Told_hasA 3 1 v1 M) (fun r2 M1 =>
  if i32 r2 = 0 then
    some ((-1), M1)
  else
    bI (f_BT_isBreadth v2 M1) (fun r4 M3 =>
    if i32 r4 = 0 then
      some ((-1), M3)
    else
      bI (f_BT_isAsked v3 M3) (fun r6 M5 =>
      if ¬ i32 r6 = 0 then
        bI (f_Ways_firstPass v1 v2 v3 (v3 + 400) M5) (fun r8 M7 =>
        some (r8, M7))
      else
        some ((-1), M5))))
set_option maxRecDepth 20000 in
set_option maxHeartbeats 4000000 in
theorem c_BT_next (d : Nat) (v1 : Int) (v2 : Int) (v3 : Int) (M : Mm) (Q : Option Value → Mm → Prop) (h : sat injI (f_BT_next v1 v2 v3 M) Q) : Ct (d + 6) y_BT_next [.ref 0, vI v1, vI v2, vI v3] M Q := by
  refine ct_in (d := d + 5) mk_BT_next (Nat.le_of_ble_eq_true rfl) (?_ : T (E_BT_next d) injI 0 [(0, .ref 0), (1, vI v1), (2, vI v2), (3, vI v3)] [] M (f_BT_next v1 v2 v3 M)) h
  unfold f_BT_next
  refine tq_aload_n 0 (E := E_BT_next d) (pc := 0) (cks_at k_BT_next 0 rfl rfl) rfl ?_
  refine tq_getR (j := 3) (E := E_BT_next d) (pc := 1) (cks_at k_BT_next 1 rfl rfl) fo_BT_19 so_0 rfl sp_0_1 ?_
  refine tq_iconst (E := E_BT_next d) (pc := 4) (cks_at k_BT_next 2 rfl rfl) ?_
  refine tq_iload_n 1 (E := E_BT_next d) (pc := 5) (cks_at k_BT_next 3 rfl rfl) rfl ?_
  refine tq_V2 (E := E_BT_next d) (pc := 6) (cks_at k_BT_next 4 rfl rfl) mk_Told_hasA lk_BT_143 (isTold_rc (Or.inl rfl)) (Nat.le_of_ble_eq_true rfl) (c_Told_hasA (d + 2) 3 (Or.inl rfl) 1 v1 M) (k_I fun r2 M1 => ?_)
  refine tq_if_eq (E := E_BT_next d) (pc := 9) (tgt := 26) (cks_at k_BT_next 5 rfl rfl) (by decide) ?_ ?_
  · refine tq_iconst (E := E_BT_next d) (pc := 26) (cks_at k_BT_next 12 rfl rfl) ?_
    exact tq_iret (E := E_BT_next d) (pc := 27) (cks_at k_BT_next 13 rfl rfl) rfl
  · refine tq_iload_n 2 (E := E_BT_next d) (pc := 12) (cks_at k_BT_next 6 rfl rfl) rfl ?_
    refine tq_S1 (E := E_BT_next d) (pc := 13) (cks_at k_BT_next 7 rfl rfl) mk_BT_isBreadth lk_BT_192 (Nat.le_of_ble_eq_true rfl) (c_BT_isBreadth (d + 4) v2 M1) (k_I fun r4 M3 => ?_)
    refine tq_if_eq (E := E_BT_next d) (pc := 16) (tgt := 26) (cks_at k_BT_next 8 rfl rfl) (by decide) ?_ ?_
    · refine tq_iconst (E := E_BT_next d) (pc := 26) (cks_at k_BT_next 12 rfl rfl) ?_
      exact tq_iret (E := E_BT_next d) (pc := 27) (cks_at k_BT_next 13 rfl rfl) rfl
    · refine tq_iload_n 3 (E := E_BT_next d) (pc := 19) (cks_at k_BT_next 9 rfl rfl) rfl ?_
      refine tq_S1 (E := E_BT_next d) (pc := 20) (cks_at k_BT_next 10 rfl rfl) mk_BT_isAsked lk_BT_188 (Nat.le_of_ble_eq_true rfl) (c_BT_isAsked (d + 4) v3 M3) (k_I fun r6 M5 => ?_)
      refine tq_if_ne (E := E_BT_next d) (pc := 23) (tgt := 28) (cks_at k_BT_next 11 rfl rfl) (by decide) ?_ ?_
      · refine tq_aload_n 0 (E := E_BT_next d) (pc := 28) (cks_at k_BT_next 14 rfl rfl) rfl ?_
        refine tq_getR (j := 48) (E := E_BT_next d) (pc := 29) (cks_at k_BT_next 15 rfl rfl) fo_BT_58 so_0 rfl sp_0_6 ?_
        refine tq_iload_n 1 (E := E_BT_next d) (pc := 32) (cks_at k_BT_next 16 rfl rfl) rfl ?_
        refine tq_iload_n 2 (E := E_BT_next d) (pc := 33) (cks_at k_BT_next 17 rfl rfl) rfl ?_
        refine tq_iload_n 3 (E := E_BT_next d) (pc := 34) (cks_at k_BT_next 18 rfl rfl) rfl ?_
        refine tq_iload_n 3 (E := E_BT_next d) (pc := 35) (cks_at k_BT_next 19 rfl rfl) rfl ?_
        refine tq_sipush (E := E_BT_next d) (pc := 36) (cks_at k_BT_next 20 rfl rfl) (by decide) (by decide) ?_
        refine tq_iadd (E := E_BT_next d) (pc := 39) (cks_at k_BT_next 21 rfl rfl) ?_
        refine tq_V4 (E := E_BT_next d) (pc := 40) (cks_at k_BT_next 22 rfl rfl) mk_Ways_firstPass lk_BT_195 rc_48 (Nat.le_of_ble_eq_true rfl) (c_Ways_firstPass (d + 0) v1 v2 v3 (v3 + 400) M5) (k_I fun r8 M7 => ?_)
        exact tq_iret (E := E_BT_next d) (pc := 43) (cks_at k_BT_next 23 rfl rfl) rfl
      · refine tq_iconst (E := E_BT_next d) (pc := 26) (cks_at k_BT_next 12 rfl rfl) ?_
        exact tq_iret (E := E_BT_next d) (pc := 27) (cks_at k_BT_next 13 rfl rfl) rfl
abbrev E_M_passes (d : Nat) : Ev := (Ct (d + 7), "BreathTownModel", prog_14_method_79_code, 4, False, 0, (fun _ => 0), (Option.some Jvm.ClassFile.FieldType.int))
def f_M_passes (v1 : Int) (v2 : Int) (v3 : Int) (M : Mm) : Option (Int × Mm) :=
  bI (f_M_isStreet v1 M) (fun r2 M1 =>
  if i32 r2 = 0 then
    some ((-1), M1)
  else
    bI (f_M_isIn (i32 v2) 1 99 M1) (fun r4 M3 =>
    if i32 r4 = 0 then
      some ((-1), M3)
    else
      bI (f_M_isHour v3 M3) (fun r6 M5 =>
      if ¬ i32 r6 = 0 then
        bI (f_M_isPassed v1 v2 v3 M5) (fun r8 M7 =>
        if i32 r8 = 0 then
          some (0, M7)
        else
          some (1, M7))
      else
        some ((-1), M5))))
set_option maxRecDepth 20000 in
set_option maxHeartbeats 4000000 in
theorem c_M_passes (d : Nat) (v1 : Int) (v2 : Int) (v3 : Int) (M : Mm) (Q : Option Value → Mm → Prop) (h : sat injI (f_M_passes v1 v2 v3 M) Q) : Ct (d + 8) y_M_passes [.ref 78, vI v1, vI v2, vI v3] M Q := by
  refine ct_in (d := d + 7) mk_M_passes (Nat.le_of_ble_eq_true rfl) (?_ : T (E_M_passes d) injI 0 [(0, .ref 78), (1, vI v1), (2, vI v2), (3, vI v3)] [] M (f_M_passes v1 v2 v3 M)) h
  unfold f_M_passes
  refine tq_aload_n 0 (E := E_M_passes d) (pc := 0) (cks_at k_M_passes 0 rfl rfl) rfl ?_
  refine tq_iload_n 1 (E := E_M_passes d) (pc := 1) (cks_at k_M_passes 1 rfl rfl) rfl ?_
  refine tq_V1 (E := E_M_passes d) (pc := 2) (cks_at k_M_passes 2 rfl rfl) mk_M_isStreet lk_M_509 rc_78 (Nat.le_of_ble_eq_true rfl) (c_M_isStreet (d + 5) v1 M) (k_I fun r2 M1 => ?_)
  refine tq_if_eq (E := E_M_passes d) (pc := 5) (tgt := 27) (cks_at k_M_passes 3 rfl rfl) (by decide) ?_ ?_
  · refine tq_iconst (E := E_M_passes d) (pc := 27) (cks_at k_M_passes 13 rfl rfl) ?_
    exact tq_iret (E := E_M_passes d) (pc := 28) (cks_at k_M_passes 14 rfl rfl) rfl
  · refine tq_iload_n 2 (E := E_M_passes d) (pc := 8) (cks_at k_M_passes 4 rfl rfl) rfl ?_
    refine tq_i2l (E := E_M_passes d) (pc := 9) (cks_at k_M_passes 5 rfl rfl) ?_
    refine tq_lconst1 (E := E_M_passes d) (pc := 10) (cks_at k_M_passes 6 rfl rfl) ?_
    refine tq_ldc2 (z := 99) (E := E_M_passes d) (pc := 11) (cks_at k_M_passes 7 rfl rfl) cst_M_429 ?_
    refine tq_S3 (E := E_M_passes d) (pc := 14) (cks_at k_M_passes 8 rfl rfl) mk_M_isIn lk_M_265 (Nat.le_of_ble_eq_true rfl) (c_M_isIn (d + 6) (i32 v2) 1 99 M1) (k_I fun r4 M3 => ?_)
    refine tq_if_eq (E := E_M_passes d) (pc := 17) (tgt := 27) (cks_at k_M_passes 9 rfl rfl) (by decide) ?_ ?_
    · refine tq_iconst (E := E_M_passes d) (pc := 27) (cks_at k_M_passes 13 rfl rfl) ?_
      exact tq_iret (E := E_M_passes d) (pc := 28) (cks_at k_M_passes 14 rfl rfl) rfl
    · refine tq_iload_n 3 (E := E_M_passes d) (pc := 20) (cks_at k_M_passes 10 rfl rfl) rfl ?_
      refine tq_S1 (E := E_M_passes d) (pc := 21) (cks_at k_M_passes 11 rfl rfl) mk_M_isHour lk_M_517 (Nat.le_of_ble_eq_true rfl) (c_M_isHour (d + 5) v3 M3) (k_I fun r6 M5 => ?_)
      refine tq_if_ne (E := E_M_passes d) (pc := 24) (tgt := 29) (cks_at k_M_passes 12 rfl rfl) (by decide) ?_ ?_
      · refine tq_aload_n 0 (E := E_M_passes d) (pc := 29) (cks_at k_M_passes 15 rfl rfl) rfl ?_
        refine tq_iload_n 1 (E := E_M_passes d) (pc := 30) (cks_at k_M_passes 16 rfl rfl) rfl ?_
        refine tq_iload_n 2 (E := E_M_passes d) (pc := 31) (cks_at k_M_passes 17 rfl rfl) rfl ?_
        refine tq_iload_n 3 (E := E_M_passes d) (pc := 32) (cks_at k_M_passes 18 rfl rfl) rfl ?_
        refine tq_V3 (E := E_M_passes d) (pc := 33) (cks_at k_M_passes 19 rfl rfl) mk_M_isPassed lk_M_450 rc_78 (Nat.le_of_ble_eq_true rfl) (c_M_isPassed (d + 0) v1 v2 v3 M5) (k_I fun r8 M7 => ?_)
        refine tq_if_eq (E := E_M_passes d) (pc := 36) (tgt := 43) (cks_at k_M_passes 20 rfl rfl) (by decide) ?_ ?_
        · refine tq_iconst (E := E_M_passes d) (pc := 43) (cks_at k_M_passes 23 rfl rfl) ?_
          exact tq_iret (E := E_M_passes d) (pc := 44) (cks_at k_M_passes 24 rfl rfl) rfl
        · refine tq_iconst (E := E_M_passes d) (pc := 39) (cks_at k_M_passes 21 rfl rfl) ?_
          refine tq_goto (tgt := 44) (E := E_M_passes d) (pc := 40) (cks_at k_M_passes 22 rfl rfl) (by decide) ?_
          exact tq_iret (E := E_M_passes d) (pc := 44) (cks_at k_M_passes 24 rfl rfl) rfl
      · refine tq_iconst (E := E_M_passes d) (pc := 27) (cks_at k_M_passes 13 rfl rfl) ?_
        exact tq_iret (E := E_M_passes d) (pc := 28) (cks_at k_M_passes 14 rfl rfl) rfl
abbrev E_BT_passes (d : Nat) : Ev := (Ct (d + 5), "BreathTown", prog_1_method_11_code, 4, False, 0, (fun _ => 0), (Option.some Jvm.ClassFile.FieldType.int))
def f_BT_passes (v1 : Int) (v2 : Int) (v3 : Int) (M : Mm) : Option (Int × Mm) :=
  bI (f_Told_hasA 3 1 v1 M) (fun r2 M1 =>
  if i32 r2 = 0 then
    some ((-1), M1)
  else
    bI (f_BT_isBreadth v2 M1) (fun r4 M3 =>
    if i32 r4 = 0 then
      some ((-1), M3)
    else
      bI (f_BT_isAsked v3 M3) (fun r6 M5 =>
      if ¬ i32 r6 = 0 then
        bI (f_Ways_firstPass v1 v2 v3 v3 M5) (fun r8 M7 =>
        if ¬ i32 r8 = i32 ((-1)) then
          some (1, M7)
        else
          some (0, M7))
      else
        some ((-1), M5))))
set_option maxRecDepth 20000 in
set_option maxHeartbeats 4000000 in
theorem c_BT_passes (d : Nat) (v1 : Int) (v2 : Int) (v3 : Int) (M : Mm) (Q : Option Value → Mm → Prop) (h : sat injI (f_BT_passes v1 v2 v3 M) Q) : Ct (d + 6) y_BT_passes [.ref 0, vI v1, vI v2, vI v3] M Q := by
  refine ct_in (d := d + 5) mk_BT_passes (Nat.le_of_ble_eq_true rfl) (?_ : T (E_BT_passes d) injI 0 [(0, .ref 0), (1, vI v1), (2, vI v2), (3, vI v3)] [] M (f_BT_passes v1 v2 v3 M)) h
  unfold f_BT_passes
  refine tq_aload_n 0 (E := E_BT_passes d) (pc := 0) (cks_at k_BT_passes 0 rfl rfl) rfl ?_
  refine tq_getR (j := 3) (E := E_BT_passes d) (pc := 1) (cks_at k_BT_passes 1 rfl rfl) fo_BT_19 so_0 rfl sp_0_1 ?_
  refine tq_iconst (E := E_BT_passes d) (pc := 4) (cks_at k_BT_passes 2 rfl rfl) ?_
  refine tq_iload_n 1 (E := E_BT_passes d) (pc := 5) (cks_at k_BT_passes 3 rfl rfl) rfl ?_
  refine tq_V2 (E := E_BT_passes d) (pc := 6) (cks_at k_BT_passes 4 rfl rfl) mk_Told_hasA lk_BT_143 (isTold_rc (Or.inl rfl)) (Nat.le_of_ble_eq_true rfl) (c_Told_hasA (d + 2) 3 (Or.inl rfl) 1 v1 M) (k_I fun r2 M1 => ?_)
  refine tq_if_eq (E := E_BT_passes d) (pc := 9) (tgt := 26) (cks_at k_BT_passes 5 rfl rfl) (by decide) ?_ ?_
  · refine tq_iconst (E := E_BT_passes d) (pc := 26) (cks_at k_BT_passes 12 rfl rfl) ?_
    exact tq_iret (E := E_BT_passes d) (pc := 27) (cks_at k_BT_passes 13 rfl rfl) rfl
  · refine tq_iload_n 2 (E := E_BT_passes d) (pc := 12) (cks_at k_BT_passes 6 rfl rfl) rfl ?_
    refine tq_S1 (E := E_BT_passes d) (pc := 13) (cks_at k_BT_passes 7 rfl rfl) mk_BT_isBreadth lk_BT_192 (Nat.le_of_ble_eq_true rfl) (c_BT_isBreadth (d + 4) v2 M1) (k_I fun r4 M3 => ?_)
    refine tq_if_eq (E := E_BT_passes d) (pc := 16) (tgt := 26) (cks_at k_BT_passes 8 rfl rfl) (by decide) ?_ ?_
    · refine tq_iconst (E := E_BT_passes d) (pc := 26) (cks_at k_BT_passes 12 rfl rfl) ?_
      exact tq_iret (E := E_BT_passes d) (pc := 27) (cks_at k_BT_passes 13 rfl rfl) rfl
    · refine tq_iload_n 3 (E := E_BT_passes d) (pc := 19) (cks_at k_BT_passes 9 rfl rfl) rfl ?_
      refine tq_S1 (E := E_BT_passes d) (pc := 20) (cks_at k_BT_passes 10 rfl rfl) mk_BT_isAsked lk_BT_188 (Nat.le_of_ble_eq_true rfl) (c_BT_isAsked (d + 4) v3 M3) (k_I fun r6 M5 => ?_)
      refine tq_if_ne (E := E_BT_passes d) (pc := 23) (tgt := 28) (cks_at k_BT_passes 11 rfl rfl) (by decide) ?_ ?_
      · refine tq_aload_n 0 (E := E_BT_passes d) (pc := 28) (cks_at k_BT_passes 14 rfl rfl) rfl ?_
        refine tq_getR (j := 48) (E := E_BT_passes d) (pc := 29) (cks_at k_BT_passes 15 rfl rfl) fo_BT_58 so_0 rfl sp_0_6 ?_
        refine tq_iload_n 1 (E := E_BT_passes d) (pc := 32) (cks_at k_BT_passes 16 rfl rfl) rfl ?_
        refine tq_iload_n 2 (E := E_BT_passes d) (pc := 33) (cks_at k_BT_passes 17 rfl rfl) rfl ?_
        refine tq_iload_n 3 (E := E_BT_passes d) (pc := 34) (cks_at k_BT_passes 18 rfl rfl) rfl ?_
        refine tq_iload_n 3 (E := E_BT_passes d) (pc := 35) (cks_at k_BT_passes 19 rfl rfl) rfl ?_
        refine tq_V4 (E := E_BT_passes d) (pc := 36) (cks_at k_BT_passes 20 rfl rfl) mk_Ways_firstPass lk_BT_195 rc_48 (Nat.le_of_ble_eq_true rfl) (c_Ways_firstPass (d + 0) v1 v2 v3 v3 M5) (k_I fun r8 M7 => ?_)
        refine tq_iconst (E := E_BT_passes d) (pc := 39) (cks_at k_BT_passes 21 rfl rfl) ?_
        refine tq_icmp_ne (E := E_BT_passes d) (pc := 40) (tgt := 47) (cks_at k_BT_passes 22 rfl rfl) (by decide) ?_ ?_
        · refine tq_iconst (E := E_BT_passes d) (pc := 47) (cks_at k_BT_passes 25 rfl rfl) ?_
          exact tq_iret (E := E_BT_passes d) (pc := 48) (cks_at k_BT_passes 26 rfl rfl) rfl
        · refine tq_iconst (E := E_BT_passes d) (pc := 43) (cks_at k_BT_passes 23 rfl rfl) ?_
          refine tq_goto (tgt := 48) (E := E_BT_passes d) (pc := 44) (cks_at k_BT_passes 24 rfl rfl) (by decide) ?_
          exact tq_iret (E := E_BT_passes d) (pc := 48) (cks_at k_BT_passes 26 rfl rfl) rfl
      · refine tq_iconst (E := E_BT_passes d) (pc := 26) (cks_at k_BT_passes 12 rfl rfl) ?_
        exact tq_iret (E := E_BT_passes d) (pc := 27) (cks_at k_BT_passes 13 rfl rfl) rfl
abbrev E_M_width (d : Nat) : Ev := (Ct (d + 5), "BreathTownModel", prog_14_method_78_code, 3, False, 0, (fun _ => 0), (Option.some Jvm.ClassFile.FieldType.int))
def f_M_width (v1 : Int) (v2 : Int) (M : Mm) : Option (Int × Mm) :=
  bI (f_M_isStreet v1 M) (fun r2 M1 =>
  if i32 r2 = 0 then
    some ((-1), M1)
  else
    bI (f_M_isHour v2 M1) (fun r4 M3 =>
    if i32 r4 = 0 then
      some ((-1), M3)
    else
      bI (f_M_widthOf v1 v2 M3) (fun r6 M5 =>
      some (r6, M5))))
set_option maxRecDepth 20000 in
set_option maxHeartbeats 4000000 in
theorem c_M_width (d : Nat) (v1 : Int) (v2 : Int) (M : Mm) (Q : Option Value → Mm → Prop) (h : sat injI (f_M_width v1 v2 M) Q) : Ct (d + 6) y_M_width [.ref 78, vI v1, vI v2] M Q := by
  refine ct_in (d := d + 5) mk_M_width (Nat.le_of_ble_eq_true rfl) (?_ : T (E_M_width d) injI 0 [(0, .ref 78), (1, vI v1), (2, vI v2)] [] M (f_M_width v1 v2 M)) h
  unfold f_M_width
  refine tq_aload_n 0 (E := E_M_width d) (pc := 0) (cks_at k_M_width 0 rfl rfl) rfl ?_
  refine tq_iload_n 1 (E := E_M_width d) (pc := 1) (cks_at k_M_width 1 rfl rfl) rfl ?_
  refine tq_V1 (E := E_M_width d) (pc := 2) (cks_at k_M_width 2 rfl rfl) mk_M_isStreet lk_M_509 rc_78 (Nat.le_of_ble_eq_true rfl) (c_M_isStreet (d + 3) v1 M) (k_I fun r2 M1 => ?_)
  refine tq_if_eq (E := E_M_width d) (pc := 5) (tgt := 24) (cks_at k_M_width 3 rfl rfl) (by decide) ?_ ?_
  · refine tq_iconst (E := E_M_width d) (pc := 24) (cks_at k_M_width 12 rfl rfl) ?_
    exact tq_iret (E := E_M_width d) (pc := 25) (cks_at k_M_width 13 rfl rfl) rfl
  · refine tq_iload_n 2 (E := E_M_width d) (pc := 8) (cks_at k_M_width 4 rfl rfl) rfl ?_
    refine tq_S1 (E := E_M_width d) (pc := 9) (cks_at k_M_width 5 rfl rfl) mk_M_isHour lk_M_517 (Nat.le_of_ble_eq_true rfl) (c_M_isHour (d + 3) v2 M1) (k_I fun r4 M3 => ?_)
    refine tq_if_eq (E := E_M_width d) (pc := 12) (tgt := 24) (cks_at k_M_width 6 rfl rfl) (by decide) ?_ ?_
    · refine tq_iconst (E := E_M_width d) (pc := 24) (cks_at k_M_width 12 rfl rfl) ?_
      exact tq_iret (E := E_M_width d) (pc := 25) (cks_at k_M_width 13 rfl rfl) rfl
    · refine tq_aload_n 0 (E := E_M_width d) (pc := 15) (cks_at k_M_width 7 rfl rfl) rfl ?_
      refine tq_iload_n 1 (E := E_M_width d) (pc := 16) (cks_at k_M_width 8 rfl rfl) rfl ?_
      refine tq_iload_n 2 (E := E_M_width d) (pc := 17) (cks_at k_M_width 9 rfl rfl) rfl ?_
      refine tq_V2 (E := E_M_width d) (pc := 18) (cks_at k_M_width 10 rfl rfl) mk_M_widthOf lk_M_437 rc_78 (Nat.le_of_ble_eq_true rfl) (c_M_widthOf (d + 0) v1 v2 M3) (k_I fun r6 M5 => ?_)
      refine tq_goto (tgt := 25) (E := E_M_width d) (pc := 21) (cks_at k_M_width 11 rfl rfl) (by decide) ?_
      exact tq_iret (E := E_M_width d) (pc := 25) (cks_at k_M_width 13 rfl rfl) rfl
abbrev E_BT_width (d : Nat) : Ev := (Ct (d + 5), "BreathTown", prog_1_method_10_code, 3, False, 0, (fun _ => 0), (Option.some Jvm.ClassFile.FieldType.int))
def f_BT_width (v1 : Int) (v2 : Int) (M : Mm) : Option (Int × Mm) :=
  bI (f_Told_hasA 3 1 v1 M) (fun r2 M1 =>
  if i32 r2 = 0 then
    some ((-1), M1)
  else
    bI (f_BT_isAsked v2 M1) (fun r4 M3 =>
    if i32 r4 = 0 then
      some ((-1), M3)
    else
      bI (f_Widths_widthAt v1 v2 M3) (fun r6 M5 =>
      some (r6, M5))))
set_option maxRecDepth 20000 in
set_option maxHeartbeats 4000000 in
theorem c_BT_width (d : Nat) (v1 : Int) (v2 : Int) (M : Mm) (Q : Option Value → Mm → Prop) (h : sat injI (f_BT_width v1 v2 M) Q) : Ct (d + 6) y_BT_width [.ref 0, vI v1, vI v2] M Q := by
  refine ct_in (d := d + 5) mk_BT_width (Nat.le_of_ble_eq_true rfl) (?_ : T (E_BT_width d) injI 0 [(0, .ref 0), (1, vI v1), (2, vI v2)] [] M (f_BT_width v1 v2 M)) h
  unfold f_BT_width
  refine tq_aload_n 0 (E := E_BT_width d) (pc := 0) (cks_at k_BT_width 0 rfl rfl) rfl ?_
  refine tq_getR (j := 3) (E := E_BT_width d) (pc := 1) (cks_at k_BT_width 1 rfl rfl) fo_BT_19 so_0 rfl sp_0_1 ?_
  refine tq_iconst (E := E_BT_width d) (pc := 4) (cks_at k_BT_width 2 rfl rfl) ?_
  refine tq_iload_n 1 (E := E_BT_width d) (pc := 5) (cks_at k_BT_width 3 rfl rfl) rfl ?_
  refine tq_V2 (E := E_BT_width d) (pc := 6) (cks_at k_BT_width 4 rfl rfl) mk_Told_hasA lk_BT_143 (isTold_rc (Or.inl rfl)) (Nat.le_of_ble_eq_true rfl) (c_Told_hasA (d + 2) 3 (Or.inl rfl) 1 v1 M) (k_I fun r2 M1 => ?_)
  refine tq_if_eq (E := E_BT_width d) (pc := 9) (tgt := 31) (cks_at k_BT_width 5 rfl rfl) (by decide) ?_ ?_
  · refine tq_iconst (E := E_BT_width d) (pc := 31) (cks_at k_BT_width 15 rfl rfl) ?_
    exact tq_iret (E := E_BT_width d) (pc := 32) (cks_at k_BT_width 16 rfl rfl) rfl
  · refine tq_iload_n 2 (E := E_BT_width d) (pc := 12) (cks_at k_BT_width 6 rfl rfl) rfl ?_
    refine tq_S1 (E := E_BT_width d) (pc := 13) (cks_at k_BT_width 7 rfl rfl) mk_BT_isAsked lk_BT_188 (Nat.le_of_ble_eq_true rfl) (c_BT_isAsked (d + 4) v2 M1) (k_I fun r4 M3 => ?_)
    refine tq_if_eq (E := E_BT_width d) (pc := 16) (tgt := 31) (cks_at k_BT_width 8 rfl rfl) (by decide) ?_ ?_
    · refine tq_iconst (E := E_BT_width d) (pc := 31) (cks_at k_BT_width 15 rfl rfl) ?_
      exact tq_iret (E := E_BT_width d) (pc := 32) (cks_at k_BT_width 16 rfl rfl) rfl
    · refine tq_aload_n 0 (E := E_BT_width d) (pc := 19) (cks_at k_BT_width 9 rfl rfl) rfl ?_
      refine tq_getR (j := 46) (E := E_BT_width d) (pc := 20) (cks_at k_BT_width 10 rfl rfl) fo_BT_49 so_0 rfl sp_0_5 ?_
      refine tq_iload_n 1 (E := E_BT_width d) (pc := 23) (cks_at k_BT_width 11 rfl rfl) rfl ?_
      refine tq_iload_n 2 (E := E_BT_width d) (pc := 24) (cks_at k_BT_width 12 rfl rfl) rfl ?_
      refine tq_V2 (E := E_BT_width d) (pc := 25) (cks_at k_BT_width 13 rfl rfl) mk_Widths_widthAt lk_BT_173 rc_46 (Nat.le_of_ble_eq_true rfl) (c_Widths_widthAt (d + 0) v1 v2 M3) (k_I fun r6 M5 => ?_)
      refine tq_goto (tgt := 32) (E := E_BT_width d) (pc := 28) (cks_at k_BT_width 14 rfl rfl) (by decide) ?_
      exact tq_iret (E := E_BT_width d) (pc := 32) (cks_at k_BT_width 16 rfl rfl) rfl
abbrev E_M_walker (d : Nat) : Ev := (Ct (d + 2), "BreathTownModel", prog_14_method_76_code, 3, False, 0, (fun _ => 0), (Option.some Jvm.ClassFile.FieldType.int))
def f_M_walker (v1 : Int) (v2 : Int) (M : Mm) : Option (Int × Mm) :=
  bI (f_M_isWalker v1 M) (fun r2 M1 =>
  if ¬ i32 r2 = 0 then
    if i32 v2 = 0 then
      bI (f_M_broadOf v1 M1) (fun r5 M4 =>
      some (r5, M4))
    else
    if i32 v2 = 1 then
      bI (f_M_placeOf v1 M1) (fun r8 M7 =>
      some (r8, M7))
    else
    if i32 v2 = 2 then
      bI (f_M_goalOf v1 M1) (fun r11 M10 =>
      some (r11, M10))
    else
    if i32 v2 = 3 then
      gd (0 ≤ i32 ((13 + (3 * v1)) + 2) ∧ i32 ((13 + (3 * v1)) + 2) < ((31 : Nat) : Int)) <|
      some (M1 108 (i32 ((13 + (3 * v1)) + 2)).toNat, M1)
    else
    some ((-1), M1)
  else
    some ((-1), M1))
set_option maxRecDepth 20000 in
set_option maxHeartbeats 4000000 in
theorem c_M_walker (d : Nat) (v1 : Int) (v2 : Int) (M : Mm) (Q : Option Value → Mm → Prop) (h : sat injI (f_M_walker v1 v2 M) Q) : Ct (d + 3) y_M_walker [.ref 78, vI v1, vI v2] M Q := by
  refine ct_in (d := d + 2) mk_M_walker (Nat.le_of_ble_eq_true rfl) (?_ : T (E_M_walker d) injI 0 [(0, .ref 78), (1, vI v1), (2, vI v2)] [] M (f_M_walker v1 v2 M)) h
  unfold f_M_walker
  refine tq_aload_n 0 (E := E_M_walker d) (pc := 0) (cks_at k_M_walker 0 rfl rfl) rfl ?_
  refine tq_iload_n 1 (E := E_M_walker d) (pc := 1) (cks_at k_M_walker 1 rfl rfl) rfl ?_
  refine tq_V1 (E := E_M_walker d) (pc := 2) (cks_at k_M_walker 2 rfl rfl) mk_M_isWalker lk_M_512 rc_78 (Nat.le_of_ble_eq_true rfl) (c_M_isWalker (d + 0) v1 M) (k_I fun r2 M1 => ?_)
  refine tq_if_ne (E := E_M_walker d) (pc := 5) (tgt := 10) (cks_at k_M_walker 3 rfl rfl) (by decide) ?_ ?_
  · refine tq_iload_n 2 (E := E_M_walker d) (pc := 10) (cks_at k_M_walker 6 rfl rfl) rfl ?_
    refine tq_tsC (E := E_M_walker d) (pc := 11) (tgt := 40) (off := 29) (w := 0) 0 k_M_walker_11 (by decide) rfl (by decide) ?_ (fun h3 => ?_)
    · refine tq_aload_n 0 (E := E_M_walker d) (pc := 40) (cks_at k_M_walker 8 rfl rfl) rfl ?_
      refine tq_iload_n 1 (E := E_M_walker d) (pc := 41) (cks_at k_M_walker 9 rfl rfl) rfl ?_
      refine tq_V1 (E := E_M_walker d) (pc := 42) (cks_at k_M_walker 10 rfl rfl) mk_M_broadOf lk_M_477 rc_78 (Nat.le_of_ble_eq_true rfl) (c_M_broadOf (d + 1) v1 M1) (k_I fun r5 M4 => ?_)
      exact tq_iret (E := E_M_walker d) (pc := 45) (cks_at k_M_walker 11 rfl rfl) rfl
    refine tq_tsC (E := E_M_walker d) (pc := 11) (tgt := 46) (off := 35) (w := 1) 1 k_M_walker_11 (by decide) rfl (by decide) ?_ (fun h6 => ?_)
    · refine tq_aload_n 0 (E := E_M_walker d) (pc := 46) (cks_at k_M_walker 12 rfl rfl) rfl ?_
      refine tq_iload_n 1 (E := E_M_walker d) (pc := 47) (cks_at k_M_walker 13 rfl rfl) rfl ?_
      refine tq_V1 (E := E_M_walker d) (pc := 48) (cks_at k_M_walker 14 rfl rfl) mk_M_placeOf lk_M_471 rc_78 (Nat.le_of_ble_eq_true rfl) (c_M_placeOf (d + 1) v1 M1) (k_I fun r8 M7 => ?_)
      exact tq_iret (E := E_M_walker d) (pc := 51) (cks_at k_M_walker 15 rfl rfl) rfl
    refine tq_tsC (E := E_M_walker d) (pc := 11) (tgt := 52) (off := 41) (w := 2) 2 k_M_walker_11 (by decide) rfl (by decide) ?_ (fun h9 => ?_)
    · refine tq_aload_n 0 (E := E_M_walker d) (pc := 52) (cks_at k_M_walker 16 rfl rfl) rfl ?_
      refine tq_iload_n 1 (E := E_M_walker d) (pc := 53) (cks_at k_M_walker 17 rfl rfl) rfl ?_
      refine tq_V1 (E := E_M_walker d) (pc := 54) (cks_at k_M_walker 18 rfl rfl) mk_M_goalOf lk_M_493 rc_78 (Nat.le_of_ble_eq_true rfl) (c_M_goalOf (d + 1) v1 M1) (k_I fun r11 M10 => ?_)
      exact tq_iret (E := E_M_walker d) (pc := 57) (cks_at k_M_walker 19 rfl rfl) rfl
    refine tq_tsC (E := E_M_walker d) (pc := 11) (tgt := 58) (off := 47) (w := 3) 3 k_M_walker_11 (by decide) rfl (by decide) ?_ (fun h12 => ?_)
    · refine tq_aload_n 0 (E := E_M_walker d) (pc := 58) (cks_at k_M_walker 20 rfl rfl) rfl ?_
      refine tq_getR (j := 108) (E := E_M_walker d) (pc := 59) (cks_at k_M_walker 21 rfl rfl) fo_M_103 so_78 rfl sp_78_45 ?_
      refine tq_bipush (E := E_M_walker d) (pc := 62) (cks_at k_M_walker 22 rfl rfl) (by decide) (by decide) ?_
      refine tq_iconst (E := E_M_walker d) (pc := 64) (cks_at k_M_walker 23 rfl rfl) ?_
      refine tq_iload_n 1 (E := E_M_walker d) (pc := 65) (cks_at k_M_walker 24 rfl rfl) rfl ?_
      refine tq_imul (E := E_M_walker d) (pc := 66) (cks_at k_M_walker 25 rfl rfl) ?_
      refine tq_iadd (E := E_M_walker d) (pc := 67) (cks_at k_M_walker 26 rfl rfl) ?_
      refine tq_iconst (E := E_M_walker d) (pc := 68) (cks_at k_M_walker 27 rfl rfl) ?_
      refine tq_iadd (E := E_M_walker d) (pc := 69) (cks_at k_M_walker 28 rfl rfl) ?_
      refine tq_iald (E := E_M_walker d) (pc := 70) (cks_at k_M_walker 29 rfl rfl) sa_108 sn_108 ?_
      exact tq_iret (E := E_M_walker d) (pc := 71) (cks_at k_M_walker 30 rfl rfl) rfl
    refine tq_tsD (E := E_M_walker d) (pc := 11) (tgt := 72) k_M_walker_11 (by omega) (by decide) ?_
    refine tq_iconst (E := E_M_walker d) (pc := 72) (cks_at k_M_walker 31 rfl rfl) ?_
    exact tq_iret (E := E_M_walker d) (pc := 73) (cks_at k_M_walker 32 rfl rfl) rfl
  · refine tq_iconst (E := E_M_walker d) (pc := 8) (cks_at k_M_walker 4 rfl rfl) ?_
    exact tq_iret (E := E_M_walker d) (pc := 9) (cks_at k_M_walker 5 rfl rfl) rfl
abbrev E_BT_walker (d : Nat) : Ev := (Ct (d + 3), "BreathTown", prog_1_method_9_code, 3, False, 0, (fun _ => 0), (Option.some Jvm.ClassFile.FieldType.int))
def f_BT_walker (v1 : Int) (v2 : Int) (M : Mm) : Option (Int × Mm) :=
  bI (f_Told_hasA 3 2 v1 M) (fun r2 M1 =>
  if ¬ i32 r2 = 0 then
    if i32 v2 = 0 then
      bI (f_BT_cell 13 v1 M1) (fun r5 M4 =>
      some (r5, M4))
    else
    if i32 v2 = 1 then
      bI (f_BT_cell 41 v1 M1) (fun r8 M7 =>
      some (r8, M7))
    else
    if i32 v2 = 2 then
      bI (f_BT_cell 42 v1 M1) (fun r11 M10 =>
      some (r11, M10))
    else
    if i32 v2 = 3 then
      bI (f_BT_cell 43 v1 M1) (fun r14 M13 =>
      some (r14, M13))
    else
    some ((-1), M1)
  else
    some ((-1), M1))
set_option maxRecDepth 20000 in
set_option maxHeartbeats 4000000 in
theorem c_BT_walker (d : Nat) (v1 : Int) (v2 : Int) (M : Mm) (Q : Option Value → Mm → Prop) (h : sat injI (f_BT_walker v1 v2 M) Q) : Ct (d + 4) y_BT_walker [.ref 0, vI v1, vI v2] M Q := by
  refine ct_in (d := d + 3) mk_BT_walker (Nat.le_of_ble_eq_true rfl) (?_ : T (E_BT_walker d) injI 0 [(0, .ref 0), (1, vI v1), (2, vI v2)] [] M (f_BT_walker v1 v2 M)) h
  unfold f_BT_walker
  refine tq_aload_n 0 (E := E_BT_walker d) (pc := 0) (cks_at k_BT_walker 0 rfl rfl) rfl ?_
  refine tq_getR (j := 3) (E := E_BT_walker d) (pc := 1) (cks_at k_BT_walker 1 rfl rfl) fo_BT_19 so_0 rfl sp_0_1 ?_
  refine tq_iconst (E := E_BT_walker d) (pc := 4) (cks_at k_BT_walker 2 rfl rfl) ?_
  refine tq_iload_n 1 (E := E_BT_walker d) (pc := 5) (cks_at k_BT_walker 3 rfl rfl) rfl ?_
  refine tq_V2 (E := E_BT_walker d) (pc := 6) (cks_at k_BT_walker 4 rfl rfl) mk_Told_hasA lk_BT_143 (isTold_rc (Or.inl rfl)) (Nat.le_of_ble_eq_true rfl) (c_Told_hasA (d + 0) 3 (Or.inl rfl) 2 v1 M) (k_I fun r2 M1 => ?_)
  refine tq_if_ne (E := E_BT_walker d) (pc := 9) (tgt := 14) (cks_at k_BT_walker 5 rfl rfl) (by decide) ?_ ?_
  · refine tq_iload_n 2 (E := E_BT_walker d) (pc := 14) (cks_at k_BT_walker 8 rfl rfl) rfl ?_
    refine tq_tsC (E := E_BT_walker d) (pc := 15) (tgt := 44) (off := 29) (w := 0) 0 k_BT_walker_15 (by decide) rfl (by decide) ?_ (fun h3 => ?_)
    · refine tq_aload_n 0 (E := E_BT_walker d) (pc := 44) (cks_at k_BT_walker 10 rfl rfl) rfl ?_
      refine tq_getR (j := 3) (E := E_BT_walker d) (pc := 45) (cks_at k_BT_walker 11 rfl rfl) fo_BT_19 so_0 rfl sp_0_1 ?_
      refine tq_getR (j := 13) (E := E_BT_walker d) (pc := 48) (cks_at k_BT_walker 12 rfl rfl) fo_BT_176 so_3 rfl sp_3_9 ?_
      refine tq_iload_n 1 (E := E_BT_walker d) (pc := 51) (cks_at k_BT_walker 13 rfl rfl) rfl ?_
      refine tq_S2 (E := E_BT_walker d) (pc := 52) (cks_at k_BT_walker 14 rfl rfl) mk_BT_cell lk_BT_150 (Nat.le_of_ble_eq_true rfl) (c_BT_cell (d + 2) 13 sa_13 v1 M1) (k_I fun r5 M4 => ?_)
      exact tq_iret (E := E_BT_walker d) (pc := 55) (cks_at k_BT_walker 15 rfl rfl) rfl
    refine tq_tsC (E := E_BT_walker d) (pc := 15) (tgt := 56) (off := 41) (w := 1) 1 k_BT_walker_15 (by decide) rfl (by decide) ?_ (fun h6 => ?_)
    · refine tq_aload_n 0 (E := E_BT_walker d) (pc := 56) (cks_at k_BT_walker 16 rfl rfl) rfl ?_
      refine tq_getR (j := 39) (E := E_BT_walker d) (pc := 57) (cks_at k_BT_walker 17 rfl rfl) fo_BT_40 so_0 rfl sp_0_4 ?_
      refine tq_getR (j := 41) (E := E_BT_walker d) (pc := 60) (cks_at k_BT_walker 18 rfl rfl) fo_BT_179 so_39 rfl sp_39_2 ?_
      refine tq_iload_n 1 (E := E_BT_walker d) (pc := 63) (cks_at k_BT_walker 19 rfl rfl) rfl ?_
      refine tq_S2 (E := E_BT_walker d) (pc := 64) (cks_at k_BT_walker 20 rfl rfl) mk_BT_cell lk_BT_150 (Nat.le_of_ble_eq_true rfl) (c_BT_cell (d + 2) 41 sa_41 v1 M1) (k_I fun r8 M7 => ?_)
      exact tq_iret (E := E_BT_walker d) (pc := 67) (cks_at k_BT_walker 21 rfl rfl) rfl
    refine tq_tsC (E := E_BT_walker d) (pc := 15) (tgt := 68) (off := 53) (w := 2) 2 k_BT_walker_15 (by decide) rfl (by decide) ?_ (fun h9 => ?_)
    · refine tq_aload_n 0 (E := E_BT_walker d) (pc := 68) (cks_at k_BT_walker 22 rfl rfl) rfl ?_
      refine tq_getR (j := 39) (E := E_BT_walker d) (pc := 69) (cks_at k_BT_walker 23 rfl rfl) fo_BT_40 so_0 rfl sp_0_4 ?_
      refine tq_getR (j := 42) (E := E_BT_walker d) (pc := 72) (cks_at k_BT_walker 24 rfl rfl) fo_BT_182 so_39 rfl sp_39_3 ?_
      refine tq_iload_n 1 (E := E_BT_walker d) (pc := 75) (cks_at k_BT_walker 25 rfl rfl) rfl ?_
      refine tq_S2 (E := E_BT_walker d) (pc := 76) (cks_at k_BT_walker 26 rfl rfl) mk_BT_cell lk_BT_150 (Nat.le_of_ble_eq_true rfl) (c_BT_cell (d + 2) 42 sa_42 v1 M1) (k_I fun r11 M10 => ?_)
      exact tq_iret (E := E_BT_walker d) (pc := 79) (cks_at k_BT_walker 27 rfl rfl) rfl
    refine tq_tsC (E := E_BT_walker d) (pc := 15) (tgt := 80) (off := 65) (w := 3) 3 k_BT_walker_15 (by decide) rfl (by decide) ?_ (fun h12 => ?_)
    · refine tq_aload_n 0 (E := E_BT_walker d) (pc := 80) (cks_at k_BT_walker 28 rfl rfl) rfl ?_
      refine tq_getR (j := 39) (E := E_BT_walker d) (pc := 81) (cks_at k_BT_walker 29 rfl rfl) fo_BT_40 so_0 rfl sp_0_4 ?_
      refine tq_getR (j := 43) (E := E_BT_walker d) (pc := 84) (cks_at k_BT_walker 30 rfl rfl) fo_BT_185 so_39 rfl sp_39_4 ?_
      refine tq_iload_n 1 (E := E_BT_walker d) (pc := 87) (cks_at k_BT_walker 31 rfl rfl) rfl ?_
      refine tq_S2 (E := E_BT_walker d) (pc := 88) (cks_at k_BT_walker 32 rfl rfl) mk_BT_cell lk_BT_150 (Nat.le_of_ble_eq_true rfl) (c_BT_cell (d + 2) 43 sa_43 v1 M1) (k_I fun r14 M13 => ?_)
      exact tq_iret (E := E_BT_walker d) (pc := 91) (cks_at k_BT_walker 33 rfl rfl) rfl
    refine tq_tsD (E := E_BT_walker d) (pc := 15) (tgt := 92) k_BT_walker_15 (by omega) (by decide) ?_
    refine tq_iconst (E := E_BT_walker d) (pc := 92) (cks_at k_BT_walker 34 rfl rfl) ?_
    exact tq_iret (E := E_BT_walker d) (pc := 93) (cks_at k_BT_walker 35 rfl rfl) rfl
  · refine tq_iconst (E := E_BT_walker d) (pc := 12) (cks_at k_BT_walker 6 rfl rfl) ?_
    exact tq_iret (E := E_BT_walker d) (pc := 13) (cks_at k_BT_walker 7 rfl rfl) rfl
