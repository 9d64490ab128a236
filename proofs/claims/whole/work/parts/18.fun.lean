abbrev E_Many_allReached (d : Nat) : Ev := (Ct (d + 2), "BreathTown$Many", prog_3_method_8_code, 7, False, 0, (fun _ => 0), (Option.some Jvm.ClassFile.FieldType.boolean))
def f_Many_allReached_B17 (kH : Int → Int → Int → Int → Int → Mm → Option (Int × Mm)) (v1 v2 v3 v4 v5 : Int) (M : Mm) : Option (Int × Mm) :=
  if i32 24 ≤ i32 v5 then
    some (1, M)
  else
    bI (f_BT_cell 63 ((v1 * 24) + v5) M) (fun r4 M3 =>
    bI (f_BT_cell 63 ((v2 * 24) + v5) M3) (fun r6 M5 =>
    bI (f_BT_cell 63 ((v3 * 24) + v5) M5) (fun r8 M7 =>
    if i32 (or32 (or32 r4 r6) r8) = i32 v4 then
      kH v1 v2 v3 v4 (v5 + 1) M7
    else
      some (0, M7))))
set_option maxRecDepth 20000 in
set_option maxHeartbeats 4000000 in
theorem w_Many_allReached_B17 (d : Nat) (kH : Int → Int → Int → Int → Int → Mm → Option (Int × Mm)) (hkH : ∀ (v1 v2 v3 v4 v5 : Int) (M : Mm), T (E_Many_allReached d) injI 17 [(0, .ref 55), (1, vI v1), (2, vI v2), (3, vI v3), (4, vI v4), (5, vI v5)] [] M (kH v1 v2 v3 v4 v5 M)) (v1 v2 v3 v4 v5 : Int) (M : Mm) : T (E_Many_allReached d) injI 17 [(0, .ref 55), (1, vI v1), (2, vI v2), (3, vI v3), (4, vI v4), (5, vI v5)] [] M (f_Many_allReached_B17 kH v1 v2 v3 v4 v5 M) := by
  unfold f_Many_allReached_B17
  refine tq_iload 5 (E := E_Many_allReached d) (pc := 17) (cks_at k_Many_allReached 11 rfl rfl) rfl ?_
  refine tq_bipush (E := E_Many_allReached d) (pc := 19) (cks_at k_Many_allReached 12 rfl rfl) (by decide) (by decide) ?_
  refine tq_icmp_ge (E := E_Many_allReached d) (pc := 21) (tgt := 85) (cks_at k_Many_allReached 13 rfl rfl) (by decide) ?_ ?_
  · refine tq_iconst (E := E_Many_allReached d) (pc := 85) (cks_at k_Many_allReached 48 rfl rfl) ?_
    exact tq_zretC (E := E_Many_allReached d) (pc := 86) (cks_at k_Many_allReached 49 rfl rfl) rfl (by decide)
  · refine tq_aload_n 0 (E := E_Many_allReached d) (pc := 24) (cks_at k_Many_allReached 14 rfl rfl) rfl ?_
    refine tq_getR (j := 63) (E := E_Many_allReached d) (pc := 25) (cks_at k_Many_allReached 15 rfl rfl) fo_Many_33 so_55 rfl sp_55_13 ?_
    refine tq_iload_n 1 (E := E_Many_allReached d) (pc := 28) (cks_at k_Many_allReached 16 rfl rfl) rfl ?_
    refine tq_bipush (E := E_Many_allReached d) (pc := 29) (cks_at k_Many_allReached 17 rfl rfl) (by decide) (by decide) ?_
    refine tq_imul (E := E_Many_allReached d) (pc := 31) (cks_at k_Many_allReached 18 rfl rfl) ?_
    refine tq_iload 5 (E := E_Many_allReached d) (pc := 32) (cks_at k_Many_allReached 19 rfl rfl) rfl ?_
    refine tq_iadd (E := E_Many_allReached d) (pc := 34) (cks_at k_Many_allReached 20 rfl rfl) ?_
    refine tq_S2 (E := E_Many_allReached d) (pc := 35) (cks_at k_Many_allReached 21 rfl rfl) mk_BT_cell lk_Many_81 (Nat.le_of_ble_eq_true rfl) (c_BT_cell (d + 1) 63 sa_63 ((v1 * 24) + v5) M) (k_I fun r4 M3 => ?_)
    refine tq_aload_n 0 (E := E_Many_allReached d) (pc := 38) (cks_at k_Many_allReached 22 rfl rfl) rfl ?_
    refine tq_getR (j := 63) (E := E_Many_allReached d) (pc := 39) (cks_at k_Many_allReached 23 rfl rfl) fo_Many_33 so_55 rfl sp_55_13 ?_
    refine tq_iload_n 2 (E := E_Many_allReached d) (pc := 42) (cks_at k_Many_allReached 24 rfl rfl) rfl ?_
    refine tq_bipush (E := E_Many_allReached d) (pc := 43) (cks_at k_Many_allReached 25 rfl rfl) (by decide) (by decide) ?_
    refine tq_imul (E := E_Many_allReached d) (pc := 45) (cks_at k_Many_allReached 26 rfl rfl) ?_
    refine tq_iload 5 (E := E_Many_allReached d) (pc := 46) (cks_at k_Many_allReached 27 rfl rfl) rfl ?_
    refine tq_iadd (E := E_Many_allReached d) (pc := 48) (cks_at k_Many_allReached 28 rfl rfl) ?_
    refine tq_S2 (E := E_Many_allReached d) (pc := 49) (cks_at k_Many_allReached 29 rfl rfl) mk_BT_cell lk_Many_81 (Nat.le_of_ble_eq_true rfl) (c_BT_cell (d + 1) 63 sa_63 ((v2 * 24) + v5) M3) (k_I fun r6 M5 => ?_)
    refine tq_ior (E := E_Many_allReached d) (pc := 52) (cks_at k_Many_allReached 30 rfl rfl) ?_
    refine tq_aload_n 0 (E := E_Many_allReached d) (pc := 53) (cks_at k_Many_allReached 31 rfl rfl) rfl ?_
    refine tq_getR (j := 63) (E := E_Many_allReached d) (pc := 54) (cks_at k_Many_allReached 32 rfl rfl) fo_Many_33 so_55 rfl sp_55_13 ?_
    refine tq_iload_n 3 (E := E_Many_allReached d) (pc := 57) (cks_at k_Many_allReached 33 rfl rfl) rfl ?_
    refine tq_bipush (E := E_Many_allReached d) (pc := 58) (cks_at k_Many_allReached 34 rfl rfl) (by decide) (by decide) ?_
    refine tq_imul (E := E_Many_allReached d) (pc := 60) (cks_at k_Many_allReached 35 rfl rfl) ?_
    refine tq_iload 5 (E := E_Many_allReached d) (pc := 61) (cks_at k_Many_allReached 36 rfl rfl) rfl ?_
    refine tq_iadd (E := E_Many_allReached d) (pc := 63) (cks_at k_Many_allReached 37 rfl rfl) ?_
    refine tq_S2 (E := E_Many_allReached d) (pc := 64) (cks_at k_Many_allReached 38 rfl rfl) mk_BT_cell lk_Many_81 (Nat.le_of_ble_eq_true rfl) (c_BT_cell (d + 1) 63 sa_63 ((v3 * 24) + v5) M5) (k_I fun r8 M7 => ?_)
    refine tq_ior (E := E_Many_allReached d) (pc := 67) (cks_at k_Many_allReached 39 rfl rfl) ?_
    refine tq_istore (E := E_Many_allReached d) (pc := 68) (cks_at k_Many_allReached 40 rfl rfl) (show 6 < 7 by decide) rfl ?_
    refine tq_iload 0 (E := E_Many_allReached d) (pc := 70) (cks_at k_Many_allReached 41 rfl rfl) rfl ?_
    refine tq_iload 5 (E := E_Many_allReached d) (pc := 72) (cks_at k_Many_allReached 42 rfl rfl) rfl ?_
    refine tq_icmp_eq (E := E_Many_allReached d) (pc := 74) (tgt := 79) (cks_at k_Many_allReached 43 rfl rfl) (by decide) ?_ ?_
    · refine tq_iinc 6 (E := E_Many_allReached d) (pc := 79) (cks_at k_Many_allReached 46 rfl rfl) rfl (show 5 < 7 by decide) rfl ?_
      refine tq_goto (tgt := 17) (E := E_Many_allReached d) (pc := 82) (cks_at k_Many_allReached 47 rfl rfl) (by decide) ?_
      exact tq_sub [2, 3, 4, 5, 6, 0] rfl (hkH v1 v2 v3 v4 (v5 + 1) M7)
    · refine tq_iconst (E := E_Many_allReached d) (pc := 77) (cks_at k_Many_allReached 44 rfl rfl) ?_
      exact tq_zretC (E := E_Many_allReached d) (pc := 78) (cks_at k_Many_allReached 45 rfl rfl) rfl (by decide)
def f_Many_allReached_L17 : Nat → Int × Int × Int × Int × Int × Mm → Option (Int × Mm) := lp fun kH s => f_Many_allReached_B17 (fun v1 v2 v3 v4 v5 M => kH (v1, v2, v3, v4, v5, M)) s.1 s.2.1 s.2.2.1 s.2.2.2.1 s.2.2.2.2.1 s.2.2.2.2.2
set_option maxRecDepth 20000 in
set_option maxHeartbeats 4000000 in
theorem w_Many_allReached_L17 (d : Nat) (n : Nat) (s : Int × Int × Int × Int × Int × Mm) : T (E_Many_allReached d) injI 17 [(0, .ref 55), (1, vI s.1), (2, vI s.2.1), (3, vI s.2.2.1), (4, vI s.2.2.2.1), (5, vI s.2.2.2.2.1)] [] s.2.2.2.2.2 (f_Many_allReached_L17 n s) :=
  tq_lp (fun s => [(0, .ref 55), (1, vI s.1), (2, vI s.2.1), (3, vI s.2.2.1), (4, vI s.2.2.2.1), (5, vI s.2.2.2.2.1)]) (fun s => s.2.2.2.2.2) (fun kH hH s => w_Many_allReached_B17 d (fun v1 v2 v3 v4 v5 M => kH (v1, v2, v3, v4, v5, M)) (fun v1 v2 v3 v4 v5 M => hH (v1, v2, v3, v4, v5, M)) s.1 s.2.1 s.2.2.1 s.2.2.2.1 s.2.2.2.2.1 s.2.2.2.2.2) n s
def f_Many_allReached (v1 : Int) (v2 : Int) (v3 : Int) (M : Mm) : Option (Int × Mm) :=
  bI (f_Told_count 3 0 M) (fun r2 M1 =>
  f_Many_allReached_L17 FU (v1, v2, v3, ((shl32 1 r2) - 1), 0, M1))
set_option maxRecDepth 20000 in
set_option maxHeartbeats 4000000 in
theorem c_Many_allReached (d : Nat) (v1 : Int) (v2 : Int) (v3 : Int) (M : Mm) (Q : Option Value → Mm → Prop) (h : sat injI (f_Many_allReached v1 v2 v3 M) Q) : Ct (d + 3) y_Many_allReached [.ref 55, vI v1, vI v2, vI v3] M Q := by
  refine ct_in (d := d + 2) mk_Many_allReached (Nat.le_of_ble_eq_true rfl) (?_ : T (E_Many_allReached d) injI 0 [(0, .ref 55), (1, vI v1), (2, vI v2), (3, vI v3)] [] M (f_Many_allReached v1 v2 v3 M)) h
  unfold f_Many_allReached
  refine tq_iconst (E := E_Many_allReached d) (pc := 0) (cks_at k_Many_allReached 0 rfl rfl) ?_
  refine tq_aload_n 0 (E := E_Many_allReached d) (pc := 1) (cks_at k_Many_allReached 1 rfl rfl) rfl ?_
  refine tq_getR (j := 3) (E := E_Many_allReached d) (pc := 2) (cks_at k_Many_allReached 2 rfl rfl) fo_Many_36 so_55 rfl sp_55_0 ?_
  refine tq_iconst (E := E_Many_allReached d) (pc := 5) (cks_at k_Many_allReached 3 rfl rfl) ?_
  refine tq_V1 (E := E_Many_allReached d) (pc := 6) (cks_at k_Many_allReached 4 rfl rfl) mk_Told_count lk_Many_130 (isTold_rc (Or.inl rfl)) (Nat.le_of_ble_eq_true rfl) (c_Told_count (d + 0) 3 (Or.inl rfl) 0 M) (k_I fun r2 M1 => ?_)
  refine tq_ishl (E := E_Many_allReached d) (pc := 9) (cks_at k_Many_allReached 5 rfl rfl) ?_
  refine tq_iconst (E := E_Many_allReached d) (pc := 10) (cks_at k_Many_allReached 6 rfl rfl) ?_
  refine tq_isub (E := E_Many_allReached d) (pc := 11) (cks_at k_Many_allReached 7 rfl rfl) ?_
  refine tq_istore (E := E_Many_allReached d) (pc := 12) (cks_at k_Many_allReached 8 rfl rfl) (show 4 < 7 by decide) rfl ?_
  refine tq_iconst (E := E_Many_allReached d) (pc := 14) (cks_at k_Many_allReached 9 rfl rfl) ?_
  refine tq_istore (E := E_Many_allReached d) (pc := 15) (cks_at k_Many_allReached 10 rfl rfl) (show 5 < 7 by decide) rfl ?_
  exact tq_sub [2, 3, 4, 5, 1, 0] rfl (w_Many_allReached_L17 d FU (v1, v2, v3, ((shl32 1 r2) - 1), 0, M1))
abbrev E_Many_keepFound (d : Nat) : Ev := (Ct (d + 1), "BreathTown$Many", prog_3_method_7_code, 5, False, 0, (fun _ => 0), (Option.some Jvm.ClassFile.FieldType.int))
def f_Many_keepFound (v1 : Int) (v2 : Int) (v3 : Int) (v4 : Int) (M : Mm) : Option (Int × Mm) :=
  bV (f_BT_setCell 60 0 v1 M) (fun M1 =>
  bV (f_BT_setCell 60 1 v2 M1) (fun M2 =>
  bV (f_BT_setCell 60 2 v3 M2) (fun M3 =>
  some (v4, M3))))
set_option maxRecDepth 20000 in
set_option maxHeartbeats 4000000 in
theorem c_Many_keepFound (d : Nat) (v1 : Int) (v2 : Int) (v3 : Int) (v4 : Int) (M : Mm) (Q : Option Value → Mm → Prop) (h : sat injI (f_Many_keepFound v1 v2 v3 v4 M) Q) : Ct (d + 2) y_Many_keepFound [.ref 55, vI v1, vI v2, vI v3, vI v4] M Q := by
  refine ct_in (d := d + 1) mk_Many_keepFound (Nat.le_of_ble_eq_true rfl) (?_ : T (E_Many_keepFound d) injI 0 [(0, .ref 55), (1, vI v1), (2, vI v2), (3, vI v3), (4, vI v4)] [] M (f_Many_keepFound v1 v2 v3 v4 M)) h
  unfold f_Many_keepFound
  refine tq_aload_n 0 (E := E_Many_keepFound d) (pc := 0) (cks_at k_Many_keepFound 0 rfl rfl) rfl ?_
  refine tq_getR (j := 60) (E := E_Many_keepFound d) (pc := 1) (cks_at k_Many_keepFound 1 rfl rfl) fo_Many_24 so_55 rfl sp_55_10 ?_
  refine tq_iconst (E := E_Many_keepFound d) (pc := 4) (cks_at k_Many_keepFound 2 rfl rfl) ?_
  refine tq_iload_n 1 (E := E_Many_keepFound d) (pc := 5) (cks_at k_Many_keepFound 3 rfl rfl) rfl ?_
  refine tq_S3 (E := E_Many_keepFound d) (pc := 6) (cks_at k_Many_keepFound 4 rfl rfl) mk_BT_setCell lk_Many_77 (Nat.le_of_ble_eq_true rfl) (c_BT_setCell (d + 0) 60 sa_60 0 v1 M) (k_V fun M1 => ?_)
  refine tq_aload_n 0 (E := E_Many_keepFound d) (pc := 9) (cks_at k_Many_keepFound 5 rfl rfl) rfl ?_
  refine tq_getR (j := 60) (E := E_Many_keepFound d) (pc := 10) (cks_at k_Many_keepFound 6 rfl rfl) fo_Many_24 so_55 rfl sp_55_10 ?_
  refine tq_iconst (E := E_Many_keepFound d) (pc := 13) (cks_at k_Many_keepFound 7 rfl rfl) ?_
  refine tq_iload_n 2 (E := E_Many_keepFound d) (pc := 14) (cks_at k_Many_keepFound 8 rfl rfl) rfl ?_
  refine tq_S3 (E := E_Many_keepFound d) (pc := 15) (cks_at k_Many_keepFound 9 rfl rfl) mk_BT_setCell lk_Many_77 (Nat.le_of_ble_eq_true rfl) (c_BT_setCell (d + 0) 60 sa_60 1 v2 M1) (k_V fun M2 => ?_)
  refine tq_aload_n 0 (E := E_Many_keepFound d) (pc := 18) (cks_at k_Many_keepFound 10 rfl rfl) rfl ?_
  refine tq_getR (j := 60) (E := E_Many_keepFound d) (pc := 19) (cks_at k_Many_keepFound 11 rfl rfl) fo_Many_24 so_55 rfl sp_55_10 ?_
  refine tq_iconst (E := E_Many_keepFound d) (pc := 22) (cks_at k_Many_keepFound 12 rfl rfl) ?_
  refine tq_iload_n 3 (E := E_Many_keepFound d) (pc := 23) (cks_at k_Many_keepFound 13 rfl rfl) rfl ?_
  refine tq_S3 (E := E_Many_keepFound d) (pc := 24) (cks_at k_Many_keepFound 14 rfl rfl) mk_BT_setCell lk_Many_77 (Nat.le_of_ble_eq_true rfl) (c_BT_setCell (d + 0) 60 sa_60 2 v3 M2) (k_V fun M3 => ?_)
  refine tq_iload 4 (E := E_Many_keepFound d) (pc := 27) (cks_at k_Many_keepFound 15 rfl rfl) rfl ?_
  exact tq_iret (E := E_Many_keepFound d) (pc := 29) (cks_at k_Many_keepFound 16 rfl rfl) rfl
abbrev E_Many_findDoctors (d : Nat) : Ev := (Ct (d + 6), "BreathTown$Many", prog_3_method_6_code, 7, False, 0, (fun _ => 0), (Option.some Jvm.ClassFile.FieldType.int))
def f_Many_findDoctors_B18 (kH : Int → Int → Mm → Option (Int × Mm)) (kx55 : Int → Mm → Option (Int × Mm)) (kx37 : Int → Mm → Option (Int × Mm)) (v3 v4 : Int) (M : Mm) : Option (Int × Mm) :=
  if i32 v3 ≤ i32 v4 then
    kx55 v3 M
  else
    bI (f_Many_allReached v4 v4 v4 M) (fun r5 M4 =>
    if i32 r5 = 0 then
      kH v3 (v4 + 1) M4
    else
      kx37 v4 M4)
set_option maxRecDepth 20000 in
set_option maxHeartbeats 4000000 in
theorem w_Many_findDoctors_B18 (d : Nat) (kH : Int → Int → Mm → Option (Int × Mm)) (kx55 : Int → Mm → Option (Int × Mm)) (kx37 : Int → Mm → Option (Int × Mm)) (hkH : ∀ (v3 v4 : Int) (M : Mm), T (E_Many_findDoctors d) injI 18 [(0, .ref 55), (3, vI v3), (4, vI v4)] [] M (kH v3 v4 M)) (hkx55 : ∀ (v3 : Int) (M : Mm), T (E_Many_findDoctors d) injI 55 [(0, .ref 55), (3, vI v3)] [] M (kx55 v3 M)) (hkx37 : ∀ (v4 : Int) (M : Mm), T (E_Many_findDoctors d) injI 37 [(0, .ref 55), (4, vI v4)] [] M (kx37 v4 M)) (v3 v4 : Int) (M : Mm) : T (E_Many_findDoctors d) injI 18 [(0, .ref 55), (3, vI v3), (4, vI v4)] [] M (f_Many_findDoctors_B18 kH kx55 kx37 v3 v4 M) := by
  unfold f_Many_findDoctors_B18
  refine tq_iload 2 (E := E_Many_findDoctors d) (pc := 18) (cks_at k_Many_findDoctors 11 rfl rfl) rfl ?_
  refine tq_iload_n 1 (E := E_Many_findDoctors d) (pc := 20) (cks_at k_Many_findDoctors 12 rfl rfl) rfl ?_
  refine tq_icmp_ge (E := E_Many_findDoctors d) (pc := 21) (tgt := 55) (cks_at k_Many_findDoctors 13 rfl rfl) (by decide) ?_ ?_
  · exact tq_sub [0, 1] rfl (hkx55 v3 M)
  · refine tq_aload_n 0 (E := E_Many_findDoctors d) (pc := 24) (cks_at k_Many_findDoctors 14 rfl rfl) rfl ?_
    refine tq_iload 2 (E := E_Many_findDoctors d) (pc := 25) (cks_at k_Many_findDoctors 15 rfl rfl) rfl ?_
    refine tq_iload 2 (E := E_Many_findDoctors d) (pc := 27) (cks_at k_Many_findDoctors 16 rfl rfl) rfl ?_
    refine tq_iload 2 (E := E_Many_findDoctors d) (pc := 29) (cks_at k_Many_findDoctors 17 rfl rfl) rfl ?_
    refine tq_V3 (E := E_Many_findDoctors d) (pc := 31) (cks_at k_Many_findDoctors 18 rfl rfl) mk_Many_allReached lk_Many_133 rc_55 (Nat.le_of_ble_eq_true rfl) (c_Many_allReached (d + 3) v4 v4 v4 M) (k_I fun r5 M4 => ?_)
    refine tq_if_eq (E := E_Many_findDoctors d) (pc := 34) (tgt := 49) (cks_at k_Many_findDoctors 19 rfl rfl) (by decide) ?_ ?_
    · refine tq_iinc 2 (E := E_Many_findDoctors d) (pc := 49) (cks_at k_Many_findDoctors 27 rfl rfl) rfl (show 4 < 7 by decide) rfl ?_
      refine tq_goto (tgt := 18) (E := E_Many_findDoctors d) (pc := 52) (cks_at k_Many_findDoctors 28 rfl rfl) (by decide) ?_
      exact tq_sub [1, 2, 0] rfl (hkH v3 (v4 + 1) M4)
    · exact tq_sub [0, 2] rfl (hkx37 v4 M4)
def f_Many_findDoctors_L18 (kx55 : Int → Mm → Option (Int × Mm)) (kx37 : Int → Mm → Option (Int × Mm)) : Nat → Int × Int × Mm → Option (Int × Mm) := lp fun kH s => f_Many_findDoctors_B18 (fun v3 v4 M => kH (v3, v4, M)) kx55 kx37 s.1 s.2.1 s.2.2
set_option maxRecDepth 20000 in
set_option maxHeartbeats 4000000 in
theorem w_Many_findDoctors_L18 (d : Nat) (kx55 : Int → Mm → Option (Int × Mm)) (kx37 : Int → Mm → Option (Int × Mm)) (hkx55 : ∀ (v3 : Int) (M : Mm), T (E_Many_findDoctors d) injI 55 [(0, .ref 55), (3, vI v3)] [] M (kx55 v3 M)) (hkx37 : ∀ (v4 : Int) (M : Mm), T (E_Many_findDoctors d) injI 37 [(0, .ref 55), (4, vI v4)] [] M (kx37 v4 M)) (n : Nat) (s : Int × Int × Mm) : T (E_Many_findDoctors d) injI 18 [(0, .ref 55), (3, vI s.1), (4, vI s.2.1)] [] s.2.2 (f_Many_findDoctors_L18 kx55 kx37 n s) :=
  tq_lp (fun s => [(0, .ref 55), (3, vI s.1), (4, vI s.2.1)]) (fun s => s.2.2) (fun kH hH s => w_Many_findDoctors_B18 d (fun v3 v4 M => kH (v3, v4, M)) kx55 kx37 (fun v3 v4 M => hH (v3, v4, M)) hkx55 hkx37 s.1 s.2.1 s.2.2) n s
def f_Many_findDoctors_B70 (kH : Int → Int → Int → Mm → Option (Int × Mm)) (kx107 : Int → Int → Mm → Option (Int × Mm)) (kx89 : Int → Int → Mm → Option (Int × Mm)) (v3 v4 v5 : Int) (M : Mm) : Option (Int × Mm) :=
  if i32 v3 ≤ i32 v5 then
    kx107 v3 v4 M
  else
    bI (f_Many_allReached v4 v5 v5 M) (fun r8 M7 =>
    if i32 r8 = 0 then
      kH v3 v4 (v5 + 1) M7
    else
      kx89 v4 v5 M7)
set_option maxRecDepth 20000 in
set_option maxHeartbeats 4000000 in
theorem w_Many_findDoctors_B70 (d : Nat) (kH : Int → Int → Int → Mm → Option (Int × Mm)) (kx107 : Int → Int → Mm → Option (Int × Mm)) (kx89 : Int → Int → Mm → Option (Int × Mm)) (hkH : ∀ (v3 v4 v5 : Int) (M : Mm), T (E_Many_findDoctors d) injI 70 [(0, .ref 55), (3, vI v3), (4, vI v4), (5, vI v5)] [] M (kH v3 v4 v5 M)) (hkx107 : ∀ (v3 v4 : Int) (M : Mm), T (E_Many_findDoctors d) injI 107 [(0, .ref 55), (3, vI v3), (4, vI v4)] [] M (kx107 v3 v4 M)) (hkx89 : ∀ (v4 v5 : Int) (M : Mm), T (E_Many_findDoctors d) injI 89 [(0, .ref 55), (4, vI v4), (5, vI v5)] [] M (kx89 v4 v5 M)) (v3 v4 v5 : Int) (M : Mm) : T (E_Many_findDoctors d) injI 70 [(0, .ref 55), (3, vI v3), (4, vI v4), (5, vI v5)] [] M (f_Many_findDoctors_B70 kH kx107 kx89 v3 v4 v5 M) := by
  unfold f_Many_findDoctors_B70
  refine tq_iload 3 (E := E_Many_findDoctors d) (pc := 70) (cks_at k_Many_findDoctors 38 rfl rfl) rfl ?_
  refine tq_iload_n 1 (E := E_Many_findDoctors d) (pc := 72) (cks_at k_Many_findDoctors 39 rfl rfl) rfl ?_
  refine tq_icmp_ge (E := E_Many_findDoctors d) (pc := 73) (tgt := 107) (cks_at k_Many_findDoctors 40 rfl rfl) (by decide) ?_ ?_
  · exact tq_sub [0, 1, 2] rfl (hkx107 v3 v4 M)
  · refine tq_aload_n 0 (E := E_Many_findDoctors d) (pc := 76) (cks_at k_Many_findDoctors 41 rfl rfl) rfl ?_
    refine tq_iload 2 (E := E_Many_findDoctors d) (pc := 77) (cks_at k_Many_findDoctors 42 rfl rfl) rfl ?_
    refine tq_iload 3 (E := E_Many_findDoctors d) (pc := 79) (cks_at k_Many_findDoctors 43 rfl rfl) rfl ?_
    refine tq_iload 3 (E := E_Many_findDoctors d) (pc := 81) (cks_at k_Many_findDoctors 44 rfl rfl) rfl ?_
    refine tq_V3 (E := E_Many_findDoctors d) (pc := 83) (cks_at k_Many_findDoctors 45 rfl rfl) mk_Many_allReached lk_Many_133 rc_55 (Nat.le_of_ble_eq_true rfl) (c_Many_allReached (d + 3) v4 v5 v5 M) (k_I fun r8 M7 => ?_)
    refine tq_if_eq (E := E_Many_findDoctors d) (pc := 86) (tgt := 101) (cks_at k_Many_findDoctors 46 rfl rfl) (by decide) ?_ ?_
    · refine tq_iinc 3 (E := E_Many_findDoctors d) (pc := 101) (cks_at k_Many_findDoctors 54 rfl rfl) rfl (show 5 < 7 by decide) rfl ?_
      refine tq_goto (tgt := 70) (E := E_Many_findDoctors d) (pc := 104) (cks_at k_Many_findDoctors 55 rfl rfl) (by decide) ?_
      exact tq_sub [1, 2, 3, 0] rfl (hkH v3 v4 (v5 + 1) M7)
    · exact tq_sub [0, 2, 3] rfl (hkx89 v4 v5 M7)
def f_Many_findDoctors_L70 (kx107 : Int → Int → Mm → Option (Int × Mm)) (kx89 : Int → Int → Mm → Option (Int × Mm)) : Nat → Int × Int × Int × Mm → Option (Int × Mm) := lp fun kH s => f_Many_findDoctors_B70 (fun v3 v4 v5 M => kH (v3, v4, v5, M)) kx107 kx89 s.1 s.2.1 s.2.2.1 s.2.2.2
set_option maxRecDepth 20000 in
set_option maxHeartbeats 4000000 in
theorem w_Many_findDoctors_L70 (d : Nat) (kx107 : Int → Int → Mm → Option (Int × Mm)) (kx89 : Int → Int → Mm → Option (Int × Mm)) (hkx107 : ∀ (v3 v4 : Int) (M : Mm), T (E_Many_findDoctors d) injI 107 [(0, .ref 55), (3, vI v3), (4, vI v4)] [] M (kx107 v3 v4 M)) (hkx89 : ∀ (v4 v5 : Int) (M : Mm), T (E_Many_findDoctors d) injI 89 [(0, .ref 55), (4, vI v4), (5, vI v5)] [] M (kx89 v4 v5 M)) (n : Nat) (s : Int × Int × Int × Mm) : T (E_Many_findDoctors d) injI 70 [(0, .ref 55), (3, vI s.1), (4, vI s.2.1), (5, vI s.2.2.1)] [] s.2.2.2 (f_Many_findDoctors_L70 kx107 kx89 n s) :=
  tq_lp (fun s => [(0, .ref 55), (3, vI s.1), (4, vI s.2.1), (5, vI s.2.2.1)]) (fun s => s.2.2.2) (fun kH hH s => w_Many_findDoctors_B70 d (fun v3 v4 v5 M => kH (v3, v4, v5, M)) kx107 kx89 (fun v3 v4 v5 M => hH (v3, v4, v5, M)) hkx107 hkx89 s.1 s.2.1 s.2.2.1 s.2.2.2) n s
def f_Many_findDoctors_B58 (kH : Int → Int → Mm → Option (Int × Mm)) (kx113 : Int → Mm → Option (Int × Mm)) (kx89 : Int → Int → Mm → Option (Int × Mm)) (v3 v4 : Int) (M : Mm) : Option (Int × Mm) :=
  if i32 v3 ≤ i32 v4 then
    kx113 v3 M
  else
    f_Many_findDoctors_L70 (fun v3 v4 M9 => kH v3 (v4 + 1) M9) kx89 FU (v3, v4, (v4 + 1), M)
set_option maxRecDepth 20000 in
set_option maxHeartbeats 4000000 in
theorem w_Many_findDoctors_B58 (d : Nat) (kH : Int → Int → Mm → Option (Int × Mm)) (kx113 : Int → Mm → Option (Int × Mm)) (kx89 : Int → Int → Mm → Option (Int × Mm)) (hkH : ∀ (v3 v4 : Int) (M : Mm), T (E_Many_findDoctors d) injI 58 [(0, .ref 55), (3, vI v3), (4, vI v4)] [] M (kH v3 v4 M)) (hkx113 : ∀ (v3 : Int) (M : Mm), T (E_Many_findDoctors d) injI 113 [(0, .ref 55), (3, vI v3)] [] M (kx113 v3 M)) (hkx89 : ∀ (v4 v5 : Int) (M : Mm), T (E_Many_findDoctors d) injI 89 [(0, .ref 55), (4, vI v4), (5, vI v5)] [] M (kx89 v4 v5 M)) (v3 v4 : Int) (M : Mm) : T (E_Many_findDoctors d) injI 58 [(0, .ref 55), (3, vI v3), (4, vI v4)] [] M (f_Many_findDoctors_B58 kH kx113 kx89 v3 v4 M) := by
  unfold f_Many_findDoctors_B58
  refine tq_iload 2 (E := E_Many_findDoctors d) (pc := 58) (cks_at k_Many_findDoctors 31 rfl rfl) rfl ?_
  refine tq_iload_n 1 (E := E_Many_findDoctors d) (pc := 60) (cks_at k_Many_findDoctors 32 rfl rfl) rfl ?_
  refine tq_icmp_ge (E := E_Many_findDoctors d) (pc := 61) (tgt := 113) (cks_at k_Many_findDoctors 33 rfl rfl) (by decide) ?_ ?_
  · exact tq_sub [0, 1] rfl (hkx113 v3 M)
  · refine tq_iload 2 (E := E_Many_findDoctors d) (pc := 64) (cks_at k_Many_findDoctors 34 rfl rfl) rfl ?_
    refine tq_iconst (E := E_Many_findDoctors d) (pc := 66) (cks_at k_Many_findDoctors 35 rfl rfl) ?_
    refine tq_iadd (E := E_Many_findDoctors d) (pc := 67) (cks_at k_Many_findDoctors 36 rfl rfl) ?_
    refine tq_istore (E := E_Many_findDoctors d) (pc := 68) (cks_at k_Many_findDoctors 37 rfl rfl) (show 5 < 7 by decide) rfl ?_
    exact tq_sub [1, 2, 3, 0] rfl (w_Many_findDoctors_L70 d _ kx89 (fun v3 v4 M9 => by
        refine tq_iinc 2 (E := E_Many_findDoctors d) (pc := 107) (cks_at k_Many_findDoctors 56 rfl rfl) rfl (show 4 < 7 by decide) rfl ?_
        refine tq_goto (tgt := 58) (E := E_Many_findDoctors d) (pc := 110) (cks_at k_Many_findDoctors 57 rfl rfl) (by decide) ?_
        exact tq_sub [1, 2, 0] rfl (hkH v3 (v4 + 1) M9)) hkx89 FU (v3, v4, (v4 + 1), M))
def f_Many_findDoctors_L58 (kx113 : Int → Mm → Option (Int × Mm)) (kx89 : Int → Int → Mm → Option (Int × Mm)) : Nat → Int × Int × Mm → Option (Int × Mm) := lp fun kH s => f_Many_findDoctors_B58 (fun v3 v4 M => kH (v3, v4, M)) kx113 kx89 s.1 s.2.1 s.2.2
set_option maxRecDepth 20000 in
set_option maxHeartbeats 4000000 in
theorem w_Many_findDoctors_L58 (d : Nat) (kx113 : Int → Mm → Option (Int × Mm)) (kx89 : Int → Int → Mm → Option (Int × Mm)) (hkx113 : ∀ (v3 : Int) (M : Mm), T (E_Many_findDoctors d) injI 113 [(0, .ref 55), (3, vI v3)] [] M (kx113 v3 M)) (hkx89 : ∀ (v4 v5 : Int) (M : Mm), T (E_Many_findDoctors d) injI 89 [(0, .ref 55), (4, vI v4), (5, vI v5)] [] M (kx89 v4 v5 M)) (n : Nat) (s : Int × Int × Mm) : T (E_Many_findDoctors d) injI 58 [(0, .ref 55), (3, vI s.1), (4, vI s.2.1)] [] s.2.2 (f_Many_findDoctors_L58 kx113 kx89 n s) :=
  tq_lp (fun s => [(0, .ref 55), (3, vI s.1), (4, vI s.2.1)]) (fun s => s.2.2) (fun kH hH s => w_Many_findDoctors_B58 d (fun v3 v4 M => kH (v3, v4, M)) kx113 kx89 (fun v3 v4 M => hH (v3, v4, M)) hkx113 hkx89 s.1 s.2.1 s.2.2) n s
def f_Many_findDoctors_B140 (kH : Int → Int → Int → Int → Mm → Option (Int × Mm)) (kx177 : Int → Int → Int → Mm → Option (Int × Mm)) (kx159 : Int → Int → Int → Mm → Option (Int × Mm)) (v3 v4 v5 v6 : Int) (M : Mm) : Option (Int × Mm) :=
  if i32 v3 ≤ i32 v6 then
    kx177 v3 v4 v5 M
  else
    bI (f_Many_allReached v4 v5 v6 M) (fun r12 M11 =>
    if i32 r12 = 0 then
      kH v3 v4 v5 (v6 + 1) M11
    else
      kx159 v4 v5 v6 M11)
set_option maxRecDepth 20000 in
set_option maxHeartbeats 4000000 in
theorem w_Many_findDoctors_B140 (d : Nat) (kH : Int → Int → Int → Int → Mm → Option (Int × Mm)) (kx177 : Int → Int → Int → Mm → Option (Int × Mm)) (kx159 : Int → Int → Int → Mm → Option (Int × Mm)) (hkH : ∀ (v3 v4 v5 v6 : Int) (M : Mm), T (E_Many_findDoctors d) injI 140 [(0, .ref 55), (3, vI v3), (4, vI v4), (5, vI v5), (6, vI v6)] [] M (kH v3 v4 v5 v6 M)) (hkx177 : ∀ (v3 v4 v5 : Int) (M : Mm), T (E_Many_findDoctors d) injI 177 [(0, .ref 55), (3, vI v3), (4, vI v4), (5, vI v5)] [] M (kx177 v3 v4 v5 M)) (hkx159 : ∀ (v4 v5 v6 : Int) (M : Mm), T (E_Many_findDoctors d) injI 159 [(0, .ref 55), (4, vI v4), (5, vI v5), (6, vI v6)] [] M (kx159 v4 v5 v6 M)) (v3 v4 v5 v6 : Int) (M : Mm) : T (E_Many_findDoctors d) injI 140 [(0, .ref 55), (3, vI v3), (4, vI v4), (5, vI v5), (6, vI v6)] [] M (f_Many_findDoctors_B140 kH kx177 kx159 v3 v4 v5 v6 M) := by
  unfold f_Many_findDoctors_B140
  refine tq_iload 4 (E := E_Many_findDoctors d) (pc := 140) (cks_at k_Many_findDoctors 74 rfl rfl) rfl ?_
  refine tq_iload_n 1 (E := E_Many_findDoctors d) (pc := 142) (cks_at k_Many_findDoctors 75 rfl rfl) rfl ?_
  refine tq_icmp_ge (E := E_Many_findDoctors d) (pc := 143) (tgt := 177) (cks_at k_Many_findDoctors 76 rfl rfl) (by decide) ?_ ?_
  · exact tq_sub [0, 1, 2, 3] rfl (hkx177 v3 v4 v5 M)
  · refine tq_aload_n 0 (E := E_Many_findDoctors d) (pc := 146) (cks_at k_Many_findDoctors 77 rfl rfl) rfl ?_
    refine tq_iload 2 (E := E_Many_findDoctors d) (pc := 147) (cks_at k_Many_findDoctors 78 rfl rfl) rfl ?_
    refine tq_iload 3 (E := E_Many_findDoctors d) (pc := 149) (cks_at k_Many_findDoctors 79 rfl rfl) rfl ?_
    refine tq_iload 4 (E := E_Many_findDoctors d) (pc := 151) (cks_at k_Many_findDoctors 80 rfl rfl) rfl ?_
    refine tq_V3 (E := E_Many_findDoctors d) (pc := 153) (cks_at k_Many_findDoctors 81 rfl rfl) mk_Many_allReached lk_Many_133 rc_55 (Nat.le_of_ble_eq_true rfl) (c_Many_allReached (d + 3) v4 v5 v6 M) (k_I fun r12 M11 => ?_)
    refine tq_if_eq (E := E_Many_findDoctors d) (pc := 156) (tgt := 171) (cks_at k_Many_findDoctors 82 rfl rfl) (by decide) ?_ ?_
    · refine tq_iinc 4 (E := E_Many_findDoctors d) (pc := 171) (cks_at k_Many_findDoctors 90 rfl rfl) rfl (show 6 < 7 by decide) rfl ?_
      refine tq_goto (tgt := 140) (E := E_Many_findDoctors d) (pc := 174) (cks_at k_Many_findDoctors 91 rfl rfl) (by decide) ?_
      exact tq_sub [1, 2, 3, 4, 0] rfl (hkH v3 v4 v5 (v6 + 1) M11)
    · exact tq_sub [0, 2, 3, 4] rfl (hkx159 v4 v5 v6 M11)
def f_Many_findDoctors_L140 (kx177 : Int → Int → Int → Mm → Option (Int × Mm)) (kx159 : Int → Int → Int → Mm → Option (Int × Mm)) : Nat → Int × Int × Int × Int × Mm → Option (Int × Mm) := lp fun kH s => f_Many_findDoctors_B140 (fun v3 v4 v5 v6 M => kH (v3, v4, v5, v6, M)) kx177 kx159 s.1 s.2.1 s.2.2.1 s.2.2.2.1 s.2.2.2.2
set_option maxRecDepth 20000 in
set_option maxHeartbeats 4000000 in
theorem w_Many_findDoctors_L140 (d : Nat) (kx177 : Int → Int → Int → Mm → Option (Int × Mm)) (kx159 : Int → Int → Int → Mm → Option (Int × Mm)) (hkx177 : ∀ (v3 v4 v5 : Int) (M : Mm), T (E_Many_findDoctors d) injI 177 [(0, .ref 55), (3, vI v3), (4, vI v4), (5, vI v5)] [] M (kx177 v3 v4 v5 M)) (hkx159 : ∀ (v4 v5 v6 : Int) (M : Mm), T (E_Many_findDoctors d) injI 159 [(0, .ref 55), (4, vI v4), (5, vI v5), (6, vI v6)] [] M (kx159 v4 v5 v6 M)) (n : Nat) (s : Int × Int × Int × Int × Mm) : T (E_Many_findDoctors d) injI 140 [(0, .ref 55), (3, vI s.1), (4, vI s.2.1), (5, vI s.2.2.1), (6, vI s.2.2.2.1)] [] s.2.2.2.2 (f_Many_findDoctors_L140 kx177 kx159 n s) :=
  tq_lp (fun s => [(0, .ref 55), (3, vI s.1), (4, vI s.2.1), (5, vI s.2.2.1), (6, vI s.2.2.2.1)]) (fun s => s.2.2.2.2) (fun kH hH s => w_Many_findDoctors_B140 d (fun v3 v4 v5 v6 M => kH (v3, v4, v5, v6, M)) kx177 kx159 (fun v3 v4 v5 v6 M => hH (v3, v4, v5, v6, M)) hkx177 hkx159 s.1 s.2.1 s.2.2.1 s.2.2.2.1 s.2.2.2.2) n s
def f_Many_findDoctors_B128 (kH : Int → Int → Int → Mm → Option (Int × Mm)) (kx183 : Int → Int → Mm → Option (Int × Mm)) (kx159 : Int → Int → Int → Mm → Option (Int × Mm)) (v3 v4 v5 : Int) (M : Mm) : Option (Int × Mm) :=
  if i32 v3 ≤ i32 v5 then
    kx183 v3 v4 M
  else
    f_Many_findDoctors_L140 (fun v3 v4 v5 M13 => kH v3 v4 (v5 + 1) M13) kx159 FU (v3, v4, v5, (v5 + 1), M)
set_option maxRecDepth 20000 in
set_option maxHeartbeats 4000000 in
theorem w_Many_findDoctors_B128 (d : Nat) (kH : Int → Int → Int → Mm → Option (Int × Mm)) (kx183 : Int → Int → Mm → Option (Int × Mm)) (kx159 : Int → Int → Int → Mm → Option (Int × Mm)) (hkH : ∀ (v3 v4 v5 : Int) (M : Mm), T (E_Many_findDoctors d) injI 128 [(0, .ref 55), (3, vI v3), (4, vI v4), (5, vI v5)] [] M (kH v3 v4 v5 M)) (hkx183 : ∀ (v3 v4 : Int) (M : Mm), T (E_Many_findDoctors d) injI 183 [(0, .ref 55), (3, vI v3), (4, vI v4)] [] M (kx183 v3 v4 M)) (hkx159 : ∀ (v4 v5 v6 : Int) (M : Mm), T (E_Many_findDoctors d) injI 159 [(0, .ref 55), (4, vI v4), (5, vI v5), (6, vI v6)] [] M (kx159 v4 v5 v6 M)) (v3 v4 v5 : Int) (M : Mm) : T (E_Many_findDoctors d) injI 128 [(0, .ref 55), (3, vI v3), (4, vI v4), (5, vI v5)] [] M (f_Many_findDoctors_B128 kH kx183 kx159 v3 v4 v5 M) := by
  unfold f_Many_findDoctors_B128
  refine tq_iload 3 (E := E_Many_findDoctors d) (pc := 128) (cks_at k_Many_findDoctors 67 rfl rfl) rfl ?_
  refine tq_iload_n 1 (E := E_Many_findDoctors d) (pc := 130) (cks_at k_Many_findDoctors 68 rfl rfl) rfl ?_
  refine tq_icmp_ge (E := E_Many_findDoctors d) (pc := 131) (tgt := 183) (cks_at k_Many_findDoctors 69 rfl rfl) (by decide) ?_ ?_
  · exact tq_sub [0, 1, 2] rfl (hkx183 v3 v4 M)
  · refine tq_iload 3 (E := E_Many_findDoctors d) (pc := 134) (cks_at k_Many_findDoctors 70 rfl rfl) rfl ?_
    refine tq_iconst (E := E_Many_findDoctors d) (pc := 136) (cks_at k_Many_findDoctors 71 rfl rfl) ?_
    refine tq_iadd (E := E_Many_findDoctors d) (pc := 137) (cks_at k_Many_findDoctors 72 rfl rfl) ?_
    refine tq_istore (E := E_Many_findDoctors d) (pc := 138) (cks_at k_Many_findDoctors 73 rfl rfl) (show 6 < 7 by decide) rfl ?_
    exact tq_sub [1, 2, 3, 4, 0] rfl (w_Many_findDoctors_L140 d _ kx159 (fun v3 v4 v5 M13 => by
        refine tq_iinc 3 (E := E_Many_findDoctors d) (pc := 177) (cks_at k_Many_findDoctors 92 rfl rfl) rfl (show 5 < 7 by decide) rfl ?_
        refine tq_goto (tgt := 128) (E := E_Many_findDoctors d) (pc := 180) (cks_at k_Many_findDoctors 93 rfl rfl) (by decide) ?_
        exact tq_sub [1, 2, 3, 0] rfl (hkH v3 v4 (v5 + 1) M13)) hkx159 FU (v3, v4, v5, (v5 + 1), M))
def f_Many_findDoctors_L128 (kx183 : Int → Int → Mm → Option (Int × Mm)) (kx159 : Int → Int → Int → Mm → Option (Int × Mm)) : Nat → Int × Int × Int × Mm → Option (Int × Mm) := lp fun kH s => f_Many_findDoctors_B128 (fun v3 v4 v5 M => kH (v3, v4, v5, M)) kx183 kx159 s.1 s.2.1 s.2.2.1 s.2.2.2
set_option maxRecDepth 20000 in
set_option maxHeartbeats 4000000 in
theorem w_Many_findDoctors_L128 (d : Nat) (kx183 : Int → Int → Mm → Option (Int × Mm)) (kx159 : Int → Int → Int → Mm → Option (Int × Mm)) (hkx183 : ∀ (v3 v4 : Int) (M : Mm), T (E_Many_findDoctors d) injI 183 [(0, .ref 55), (3, vI v3), (4, vI v4)] [] M (kx183 v3 v4 M)) (hkx159 : ∀ (v4 v5 v6 : Int) (M : Mm), T (E_Many_findDoctors d) injI 159 [(0, .ref 55), (4, vI v4), (5, vI v5), (6, vI v6)] [] M (kx159 v4 v5 v6 M)) (n : Nat) (s : Int × Int × Int × Mm) : T (E_Many_findDoctors d) injI 128 [(0, .ref 55), (3, vI s.1), (4, vI s.2.1), (5, vI s.2.2.1)] [] s.2.2.2 (f_Many_findDoctors_L128 kx183 kx159 n s) :=
  tq_lp (fun s => [(0, .ref 55), (3, vI s.1), (4, vI s.2.1), (5, vI s.2.2.1)]) (fun s => s.2.2.2) (fun kH hH s => w_Many_findDoctors_B128 d (fun v3 v4 v5 M => kH (v3, v4, v5, M)) kx183 kx159 (fun v3 v4 v5 M => hH (v3, v4, v5, M)) hkx183 hkx159 s.1 s.2.1 s.2.2.1 s.2.2.2) n s
def f_Many_findDoctors_B116 (kH : Int → Int → Mm → Option (Int × Mm)) (kx159 : Int → Int → Int → Mm → Option (Int × Mm)) (v3 v4 : Int) (M : Mm) : Option (Int × Mm) :=
  if i32 v3 ≤ i32 v4 then
    some ((-1), M)
  else
    f_Many_findDoctors_L128 (fun v3 v4 M14 => kH v3 (v4 + 1) M14) kx159 FU (v3, v4, (v4 + 1), M)
set_option maxRecDepth 20000 in
set_option maxHeartbeats 4000000 in
theorem w_Many_findDoctors_B116 (d : Nat) (kH : Int → Int → Mm → Option (Int × Mm)) (kx159 : Int → Int → Int → Mm → Option (Int × Mm)) (hkH : ∀ (v3 v4 : Int) (M : Mm), T (E_Many_findDoctors d) injI 116 [(0, .ref 55), (3, vI v3), (4, vI v4)] [] M (kH v3 v4 M)) (hkx159 : ∀ (v4 v5 v6 : Int) (M : Mm), T (E_Many_findDoctors d) injI 159 [(0, .ref 55), (4, vI v4), (5, vI v5), (6, vI v6)] [] M (kx159 v4 v5 v6 M)) (v3 v4 : Int) (M : Mm) : T (E_Many_findDoctors d) injI 116 [(0, .ref 55), (3, vI v3), (4, vI v4)] [] M (f_Many_findDoctors_B116 kH kx159 v3 v4 M) := by
  unfold f_Many_findDoctors_B116
  refine tq_iload 2 (E := E_Many_findDoctors d) (pc := 116) (cks_at k_Many_findDoctors 60 rfl rfl) rfl ?_
  refine tq_iload_n 1 (E := E_Many_findDoctors d) (pc := 118) (cks_at k_Many_findDoctors 61 rfl rfl) rfl ?_
  refine tq_icmp_ge (E := E_Many_findDoctors d) (pc := 119) (tgt := 189) (cks_at k_Many_findDoctors 62 rfl rfl) (by decide) ?_ ?_
  · refine tq_iconst (E := E_Many_findDoctors d) (pc := 189) (cks_at k_Many_findDoctors 96 rfl rfl) ?_
    exact tq_iret (E := E_Many_findDoctors d) (pc := 190) (cks_at k_Many_findDoctors 97 rfl rfl) rfl
  · refine tq_iload 2 (E := E_Many_findDoctors d) (pc := 122) (cks_at k_Many_findDoctors 63 rfl rfl) rfl ?_
    refine tq_iconst (E := E_Many_findDoctors d) (pc := 124) (cks_at k_Many_findDoctors 64 rfl rfl) ?_
    refine tq_iadd (E := E_Many_findDoctors d) (pc := 125) (cks_at k_Many_findDoctors 65 rfl rfl) ?_
    refine tq_istore (E := E_Many_findDoctors d) (pc := 126) (cks_at k_Many_findDoctors 66 rfl rfl) (show 5 < 7 by decide) rfl ?_
    exact tq_sub [1, 2, 3, 0] rfl (w_Many_findDoctors_L128 d _ kx159 (fun v3 v4 M14 => by
        refine tq_iinc 2 (E := E_Many_findDoctors d) (pc := 183) (cks_at k_Many_findDoctors 94 rfl rfl) rfl (show 4 < 7 by decide) rfl ?_
        refine tq_goto (tgt := 116) (E := E_Many_findDoctors d) (pc := 186) (cks_at k_Many_findDoctors 95 rfl rfl) (by decide) ?_
        exact tq_sub [1, 2, 0] rfl (hkH v3 (v4 + 1) M14)) hkx159 FU (v3, v4, (v4 + 1), M))
def f_Many_findDoctors_L116 (kx159 : Int → Int → Int → Mm → Option (Int × Mm)) : Nat → Int × Int × Mm → Option (Int × Mm) := lp fun kH s => f_Many_findDoctors_B116 (fun v3 v4 M => kH (v3, v4, M)) kx159 s.1 s.2.1 s.2.2
set_option maxRecDepth 20000 in
set_option maxHeartbeats 4000000 in
theorem w_Many_findDoctors_L116 (d : Nat) (kx159 : Int → Int → Int → Mm → Option (Int × Mm)) (hkx159 : ∀ (v4 v5 v6 : Int) (M : Mm), T (E_Many_findDoctors d) injI 159 [(0, .ref 55), (4, vI v4), (5, vI v5), (6, vI v6)] [] M (kx159 v4 v5 v6 M)) (n : Nat) (s : Int × Int × Mm) : T (E_Many_findDoctors d) injI 116 [(0, .ref 55), (3, vI s.1), (4, vI s.2.1)] [] s.2.2 (f_Many_findDoctors_L116 kx159 n s) :=
  tq_lp (fun s => [(0, .ref 55), (3, vI s.1), (4, vI s.2.1)]) (fun s => s.2.2) (fun kH hH s => w_Many_findDoctors_B116 d (fun v3 v4 M => kH (v3, v4, M)) kx159 (fun v3 v4 M => hH (v3, v4, M)) hkx159 s.1 s.2.1 s.2.2) n s
def f_Many_findDoctors (v1 : Int) (v2 : Int) (M : Mm) : Option (Int × Mm) :=
  bV (f_Many_lookBack v1 v2 M) (fun M1 =>
  bI (f_Told_count 3 0 M1) (fun r3 M2 =>
  f_Many_findDoctors_L18 (fun v3 M6 => f_Many_findDoctors_L58 (fun v3 M10 => f_Many_findDoctors_L116 (fun v4 v5 v6 M15 => bI (f_Many_keepFound v4 v5 v6 3 M15) (fun r17 M16 =>
              some (r17, M16))) FU (v3, 0, M10)) (fun v4 v5 M18 => bI (f_Many_keepFound v4 v5 v5 2 M18) (fun r20 M19 =>
          some (r20, M19))) FU (v3, 0, M6)) (fun v4 M21 => bI (f_Many_keepFound v4 v4 v4 1 M21) (fun r23 M22 =>
      some (r23, M22))) FU (r3, 0, M2)))
set_option maxRecDepth 20000 in
set_option maxHeartbeats 4000000 in
theorem c_Many_findDoctors (d : Nat) (v1 : Int) (v2 : Int) (M : Mm) (Q : Option Value → Mm → Prop) (h : sat injI (f_Many_findDoctors v1 v2 M) Q) : Ct (d + 7) y_Many_findDoctors [.ref 55, vI v1, vI v2] M Q := by
  refine ct_in (d := d + 6) mk_Many_findDoctors (Nat.le_of_ble_eq_true rfl) (?_ : T (E_Many_findDoctors d) injI 0 [(0, .ref 55), (1, vI v1), (2, vI v2)] [] M (f_Many_findDoctors v1 v2 M)) h
  unfold f_Many_findDoctors
  refine tq_aload_n 0 (E := E_Many_findDoctors d) (pc := 0) (cks_at k_Many_findDoctors 0 rfl rfl) rfl ?_
  refine tq_iload_n 1 (E := E_Many_findDoctors d) (pc := 1) (cks_at k_Many_findDoctors 1 rfl rfl) rfl ?_
  refine tq_iload_n 2 (E := E_Many_findDoctors d) (pc := 2) (cks_at k_Many_findDoctors 2 rfl rfl) rfl ?_
  refine tq_V2 (E := E_Many_findDoctors d) (pc := 3) (cks_at k_Many_findDoctors 3 rfl rfl) mk_Many_lookBack lk_Many_126 rc_55 (Nat.le_of_ble_eq_true rfl) (c_Many_lookBack (d + 0) v1 v2 M) (k_V fun M1 => ?_)
  refine tq_aload_n 0 (E := E_Many_findDoctors d) (pc := 6) (cks_at k_Many_findDoctors 4 rfl rfl) rfl ?_
  refine tq_getR (j := 3) (E := E_Many_findDoctors d) (pc := 7) (cks_at k_Many_findDoctors 5 rfl rfl) fo_Many_36 so_55 rfl sp_55_0 ?_
  refine tq_iconst (E := E_Many_findDoctors d) (pc := 10) (cks_at k_Many_findDoctors 6 rfl rfl) ?_
  refine tq_V1 (E := E_Many_findDoctors d) (pc := 11) (cks_at k_Many_findDoctors 7 rfl rfl) mk_Told_count lk_Many_130 (isTold_rc (Or.inl rfl)) (Nat.le_of_ble_eq_true rfl) (c_Told_count (d + 4) 3 (Or.inl rfl) 0 M1) (k_I fun r3 M2 => ?_)
  refine tq_istore_n (E := E_Many_findDoctors d) (pc := 14) (cks_at k_Many_findDoctors 8 rfl rfl) (show 3 < 7 by decide) rfl ?_
  refine tq_iconst (E := E_Many_findDoctors d) (pc := 15) (cks_at k_Many_findDoctors 9 rfl rfl) ?_
  refine tq_istore (E := E_Many_findDoctors d) (pc := 16) (cks_at k_Many_findDoctors 10 rfl rfl) (show 4 < 7 by decide) rfl ?_
  exact tq_sub [2, 1, 0] rfl (w_Many_findDoctors_L18 d _ _ (fun v3 M6 => by
      refine tq_iconst (E := E_Many_findDoctors d) (pc := 55) (cks_at k_Many_findDoctors 29 rfl rfl) ?_
      refine tq_istore (E := E_Many_findDoctors d) (pc := 56) (cks_at k_Many_findDoctors 30 rfl rfl) (show 4 < 7 by decide) rfl ?_
      exact tq_sub [1, 2, 0] rfl (w_Many_findDoctors_L58 d _ _ (fun v3 M10 => by
          refine tq_iconst (E := E_Many_findDoctors d) (pc := 113) (cks_at k_Many_findDoctors 58 rfl rfl) ?_
          refine tq_istore (E := E_Many_findDoctors d) (pc := 114) (cks_at k_Many_findDoctors 59 rfl rfl) (show 4 < 7 by decide) rfl ?_
          exact tq_sub [1, 2, 0] rfl (w_Many_findDoctors_L116 d _ (fun v4 v5 v6 M15 => by
              refine tq_aload_n 0 (E := E_Many_findDoctors d) (pc := 159) (cks_at k_Many_findDoctors 83 rfl rfl) rfl ?_
              refine tq_iload 1 (E := E_Many_findDoctors d) (pc := 160) (cks_at k_Many_findDoctors 84 rfl rfl) rfl ?_
              refine tq_iload 2 (E := E_Many_findDoctors d) (pc := 162) (cks_at k_Many_findDoctors 85 rfl rfl) rfl ?_
              refine tq_iload 3 (E := E_Many_findDoctors d) (pc := 164) (cks_at k_Many_findDoctors 86 rfl rfl) rfl ?_
              refine tq_iconst (E := E_Many_findDoctors d) (pc := 166) (cks_at k_Many_findDoctors 87 rfl rfl) ?_
              refine tq_V4 (E := E_Many_findDoctors d) (pc := 167) (cks_at k_Many_findDoctors 88 rfl rfl) mk_Many_keepFound lk_Many_136 rc_55 (Nat.le_of_ble_eq_true rfl) (c_Many_keepFound (d + 4) v4 v5 v6 3 M15) (k_I fun r17 M16 => ?_)
              exact tq_iret (E := E_Many_findDoctors d) (pc := 170) (cks_at k_Many_findDoctors 89 rfl rfl) rfl) FU (v3, 0, M10))) (fun v4 v5 M18 => by
          refine tq_aload_n 0 (E := E_Many_findDoctors d) (pc := 89) (cks_at k_Many_findDoctors 47 rfl rfl) rfl ?_
          refine tq_iload 1 (E := E_Many_findDoctors d) (pc := 90) (cks_at k_Many_findDoctors 48 rfl rfl) rfl ?_
          refine tq_iload 2 (E := E_Many_findDoctors d) (pc := 92) (cks_at k_Many_findDoctors 49 rfl rfl) rfl ?_
          refine tq_iload 2 (E := E_Many_findDoctors d) (pc := 94) (cks_at k_Many_findDoctors 50 rfl rfl) rfl ?_
          refine tq_iconst (E := E_Many_findDoctors d) (pc := 96) (cks_at k_Many_findDoctors 51 rfl rfl) ?_
          refine tq_V4 (E := E_Many_findDoctors d) (pc := 97) (cks_at k_Many_findDoctors 52 rfl rfl) mk_Many_keepFound lk_Many_136 rc_55 (Nat.le_of_ble_eq_true rfl) (c_Many_keepFound (d + 4) v4 v5 v5 2 M18) (k_I fun r20 M19 => ?_)
          exact tq_iret (E := E_Many_findDoctors d) (pc := 100) (cks_at k_Many_findDoctors 53 rfl rfl) rfl) FU (v3, 0, M6))) (fun v4 M21 => by
      refine tq_aload_n 0 (E := E_Many_findDoctors d) (pc := 37) (cks_at k_Many_findDoctors 20 rfl rfl) rfl ?_
      refine tq_iload 1 (E := E_Many_findDoctors d) (pc := 38) (cks_at k_Many_findDoctors 21 rfl rfl) rfl ?_
      refine tq_iload 1 (E := E_Many_findDoctors d) (pc := 40) (cks_at k_Many_findDoctors 22 rfl rfl) rfl ?_
      refine tq_iload 1 (E := E_Many_findDoctors d) (pc := 42) (cks_at k_Many_findDoctors 23 rfl rfl) rfl ?_
      refine tq_iconst (E := E_Many_findDoctors d) (pc := 44) (cks_at k_Many_findDoctors 24 rfl rfl) ?_
      refine tq_V4 (E := E_Many_findDoctors d) (pc := 45) (cks_at k_Many_findDoctors 25 rfl rfl) mk_Many_keepFound lk_Many_136 rc_55 (Nat.le_of_ble_eq_true rfl) (c_Many_keepFound (d + 4) v4 v4 v4 1 M21) (k_I fun r23 M22 => ?_)
      exact tq_iret (E := E_Many_findDoctors d) (pc := 48) (cks_at k_Many_findDoctors 26 rfl rfl) rfl) FU (r3, 0, M2))
abbrev E_BT_doctors (d : Nat) : Ev := (Ct (d + 7), "BreathTown", prog_1_method_21_code, 5, False, 0, (fun _ => 0), (Option.some Jvm.ClassFile.FieldType.int))
def f_BT_doctors (v1 : Int) (v2 : Int) (v3 : Int) (M : Mm) : Option (Int × Mm) :=
  bI (f_BT_isBreadth v1 M) (fun r2 M1 =>
  if i32 r2 = 0 then
    some ((-1), M1)
  else
    if i32 v2 < 0 then
      some ((-1), M1)
    else
      if i32 400 < i32 v2 then
        some ((-1), M1)
      else
        bI (f_Told_count 3 0 M1) (fun r4 M3 =>
        if i32 1 ≤ i32 r4 then
          bI (f_Many_findDoctors v1 v2 M3) (fun r6 M5 =>
          if ¬ i32 v3 = i32 ((-1)) then
            if i32 v3 < 0 then
              some ((-1), M5)
            else
              if i32 r6 ≤ i32 v3 then
                some ((-1), M5)
              else
                bI (f_BT_cell 60 v3 M5) (fun r8 M7 =>
                some (r8, M7))
          else
            some (r6, M5))
        else
          some ((-1), M3)))
set_option maxRecDepth 20000 in
set_option maxHeartbeats 4000000 in
theorem c_BT_doctors (d : Nat) (v1 : Int) (v2 : Int) (v3 : Int) (M : Mm) (Q : Option Value → Mm → Prop) (h : sat injI (f_BT_doctors v1 v2 v3 M) Q) : Ct (d + 8) y_BT_doctors [.ref 0, vI v1, vI v2, vI v3] M Q := by
  refine ct_in (d := d + 7) mk_BT_doctors (Nat.le_of_ble_eq_true rfl) (?_ : T (E_BT_doctors d) injI 0 [(0, .ref 0), (1, vI v1), (2, vI v2), (3, vI v3)] [] M (f_BT_doctors v1 v2 v3 M)) h
  unfold f_BT_doctors
  refine tq_iload_n 1 (E := E_BT_doctors d) (pc := 0) (cks_at k_BT_doctors 0 rfl rfl) rfl ?_
  refine tq_S1 (E := E_BT_doctors d) (pc := 1) (cks_at k_BT_doctors 1 rfl rfl) mk_BT_isBreadth lk_BT_192 (Nat.le_of_ble_eq_true rfl) (c_BT_isBreadth (d + 6) v1 M) (k_I fun r2 M1 => ?_)
  refine tq_if_eq (E := E_BT_doctors d) (pc := 4) (tgt := 30) (cks_at k_BT_doctors 2 rfl rfl) (by decide) ?_ ?_
  · refine tq_iconst (E := E_BT_doctors d) (pc := 30) (cks_at k_BT_doctors 14 rfl rfl) ?_
    exact tq_iret (E := E_BT_doctors d) (pc := 31) (cks_at k_BT_doctors 15 rfl rfl) rfl
  · refine tq_iload_n 2 (E := E_BT_doctors d) (pc := 7) (cks_at k_BT_doctors 3 rfl rfl) rfl ?_
    refine tq_if_lt (E := E_BT_doctors d) (pc := 8) (tgt := 30) (cks_at k_BT_doctors 4 rfl rfl) (by decide) ?_ ?_
    · refine tq_iconst (E := E_BT_doctors d) (pc := 30) (cks_at k_BT_doctors 14 rfl rfl) ?_
      exact tq_iret (E := E_BT_doctors d) (pc := 31) (cks_at k_BT_doctors 15 rfl rfl) rfl
    · refine tq_iload_n 2 (E := E_BT_doctors d) (pc := 11) (cks_at k_BT_doctors 5 rfl rfl) rfl ?_
      refine tq_sipush (E := E_BT_doctors d) (pc := 12) (cks_at k_BT_doctors 6 rfl rfl) (by decide) (by decide) ?_
      refine tq_icmp_gt (E := E_BT_doctors d) (pc := 15) (tgt := 30) (cks_at k_BT_doctors 7 rfl rfl) (by decide) ?_ ?_
      · refine tq_iconst (E := E_BT_doctors d) (pc := 30) (cks_at k_BT_doctors 14 rfl rfl) ?_
        exact tq_iret (E := E_BT_doctors d) (pc := 31) (cks_at k_BT_doctors 15 rfl rfl) rfl
      · refine tq_aload_n 0 (E := E_BT_doctors d) (pc := 18) (cks_at k_BT_doctors 8 rfl rfl) rfl ?_
        refine tq_getR (j := 3) (E := E_BT_doctors d) (pc := 19) (cks_at k_BT_doctors 9 rfl rfl) fo_BT_19 so_0 rfl sp_0_1 ?_
        refine tq_iconst (E := E_BT_doctors d) (pc := 22) (cks_at k_BT_doctors 10 rfl rfl) ?_
        refine tq_V1 (E := E_BT_doctors d) (pc := 23) (cks_at k_BT_doctors 11 rfl rfl) mk_Told_count lk_BT_132 (isTold_rc (Or.inl rfl)) (Nat.le_of_ble_eq_true rfl) (c_Told_count (d + 5) 3 (Or.inl rfl) 0 M1) (k_I fun r4 M3 => ?_)
        refine tq_iconst (E := E_BT_doctors d) (pc := 26) (cks_at k_BT_doctors 12 rfl rfl) ?_
        refine tq_icmp_ge (E := E_BT_doctors d) (pc := 27) (tgt := 32) (cks_at k_BT_doctors 13 rfl rfl) (by decide) ?_ ?_
        · refine tq_aload_n 0 (E := E_BT_doctors d) (pc := 32) (cks_at k_BT_doctors 16 rfl rfl) rfl ?_
          refine tq_getR (j := 55) (E := E_BT_doctors d) (pc := 33) (cks_at k_BT_doctors 17 rfl rfl) fo_BT_67 so_0 rfl sp_0_7 ?_
          refine tq_iload_n 1 (E := E_BT_doctors d) (pc := 36) (cks_at k_BT_doctors 18 rfl rfl) rfl ?_
          refine tq_iload_n 2 (E := E_BT_doctors d) (pc := 37) (cks_at k_BT_doctors 19 rfl rfl) rfl ?_
          refine tq_V2 (E := E_BT_doctors d) (pc := 38) (cks_at k_BT_doctors 20 rfl rfl) mk_Many_findDoctors lk_BT_245 rc_55 (Nat.le_of_ble_eq_true rfl) (c_Many_findDoctors (d + 0) v1 v2 M3) (k_I fun r6 M5 => ?_)
          refine tq_istore (E := E_BT_doctors d) (pc := 41) (cks_at k_BT_doctors 21 rfl rfl) (show 4 < 5 by decide) rfl ?_
          refine tq_iload_n 4 (E := E_BT_doctors d) (pc := 43) (cks_at k_BT_doctors 22 rfl rfl) rfl ?_
          refine tq_iconst (E := E_BT_doctors d) (pc := 44) (cks_at k_BT_doctors 23 rfl rfl) ?_
          refine tq_icmp_ne (E := E_BT_doctors d) (pc := 45) (tgt := 51) (cks_at k_BT_doctors 24 rfl rfl) (by decide) ?_ ?_
          · refine tq_iload_n 4 (E := E_BT_doctors d) (pc := 51) (cks_at k_BT_doctors 27 rfl rfl) rfl ?_
            refine tq_if_lt (E := E_BT_doctors d) (pc := 52) (tgt := 75) (cks_at k_BT_doctors 28 rfl rfl) (by decide) ?_ ?_
            · refine tq_iconst (E := E_BT_doctors d) (pc := 75) (cks_at k_BT_doctors 38 rfl rfl) ?_
              exact tq_iret (E := E_BT_doctors d) (pc := 76) (cks_at k_BT_doctors 39 rfl rfl) rfl
            · refine tq_iload_n 4 (E := E_BT_doctors d) (pc := 55) (cks_at k_BT_doctors 29 rfl rfl) rfl ?_
              refine tq_iload 0 (E := E_BT_doctors d) (pc := 56) (cks_at k_BT_doctors 30 rfl rfl) rfl ?_
              refine tq_icmp_ge (E := E_BT_doctors d) (pc := 58) (tgt := 75) (cks_at k_BT_doctors 31 rfl rfl) (by decide) ?_ ?_
              · refine tq_iconst (E := E_BT_doctors d) (pc := 75) (cks_at k_BT_doctors 38 rfl rfl) ?_
                exact tq_iret (E := E_BT_doctors d) (pc := 76) (cks_at k_BT_doctors 39 rfl rfl) rfl
              · refine tq_aload_n 1 (E := E_BT_doctors d) (pc := 61) (cks_at k_BT_doctors 32 rfl rfl) rfl ?_
                refine tq_getR (j := 55) (E := E_BT_doctors d) (pc := 62) (cks_at k_BT_doctors 33 rfl rfl) fo_BT_67 so_0 rfl sp_0_7 ?_
                refine tq_getR (j := 60) (E := E_BT_doctors d) (pc := 65) (cks_at k_BT_doctors 34 rfl rfl) fo_BT_248 so_55 rfl sp_55_10 ?_
                refine tq_iload_n 4 (E := E_BT_doctors d) (pc := 68) (cks_at k_BT_doctors 35 rfl rfl) rfl ?_
                refine tq_S2 (E := E_BT_doctors d) (pc := 69) (cks_at k_BT_doctors 36 rfl rfl) mk_BT_cell lk_BT_150 (Nat.le_of_ble_eq_true rfl) (c_BT_cell (d + 6) 60 sa_60 v3 M5) (k_I fun r8 M7 => ?_)
                refine tq_goto (tgt := 76) (E := E_BT_doctors d) (pc := 72) (cks_at k_BT_doctors 37 rfl rfl) (by decide) ?_
                exact tq_iret (E := E_BT_doctors d) (pc := 76) (cks_at k_BT_doctors 39 rfl rfl) rfl
          · refine tq_iload 0 (E := E_BT_doctors d) (pc := 48) (cks_at k_BT_doctors 25 rfl rfl) rfl ?_
            exact tq_iret (E := E_BT_doctors d) (pc := 50) (cks_at k_BT_doctors 26 rfl rfl) rfl
        · refine tq_iconst (E := E_BT_doctors d) (pc := 30) (cks_at k_BT_doctors 14 rfl rfl) ?_
          exact tq_iret (E := E_BT_doctors d) (pc := 31) (cks_at k_BT_doctors 15 rfl rfl) rfl
abbrev E_M_isOrder (d : Nat) : Ev := (Ct (d + 0), "BreathTownModel", prog_14_method_92_code, 6, False, 0, (fun _ => 0), (Option.some Jvm.ClassFile.FieldType.boolean))
def f_M_isOrder_B10 (kH : Int → Int → Int → Int → Mm → Option (Int × Mm)) (kx49 : Int → Int → Mm → Option (Int × Mm)) (v2 v3 v4 v5 : Int) (M : Mm) : Option (Int × Mm) :=
  if i32 v5 < 0 then
    kx49 v2 v4 M
  else
    gd (¬ i32 v2 = 0) <|
    gd (0 ≤ i32 v5 ∧ i32 v5 < ((4 : Nat) : Int)) <|
    bd (up M 114 (i32 v5).toNat ((i32 v3).tmod (i32 v2))) (fun M1 =>
    gd (¬ i32 v2 = 0) <|
    gd (0 ≤ i32 v5 ∧ i32 v5 < ((4 : Nat) : Int)) <|
    kH v2 ((i32 v3).tdiv (i32 v2)) (or32 v4 (shl32 1 (M1 114 (i32 v5).toNat))) (v5 + (-1)) M1)
set_option maxRecDepth 20000 in
set_option maxHeartbeats 4000000 in
theorem w_M_isOrder_B10 (d : Nat) (kH : Int → Int → Int → Int → Mm → Option (Int × Mm)) (kx49 : Int → Int → Mm → Option (Int × Mm)) (hkH : ∀ (v2 v3 v4 v5 : Int) (M : Mm), T (E_M_isOrder d) injI 10 [(0, .ref 78), (2, vI v2), (3, vI v3), (4, vI v4), (5, vI v5)] [] M (kH v2 v3 v4 v5 M)) (hkx49 : ∀ (v2 v4 : Int) (M : Mm), T (E_M_isOrder d) injI 49 [(2, vI v2), (4, vI v4)] [] M (kx49 v2 v4 M)) (v2 v3 v4 v5 : Int) (M : Mm) : T (E_M_isOrder d) injI 10 [(0, .ref 78), (2, vI v2), (3, vI v3), (4, vI v4), (5, vI v5)] [] M (f_M_isOrder_B10 kH kx49 v2 v3 v4 v5 M) := by
  unfold f_M_isOrder_B10
  refine tq_iload 4 (E := E_M_isOrder d) (pc := 10) (cks_at k_M_isOrder 8 rfl rfl) rfl ?_
  refine tq_if_lt (E := E_M_isOrder d) (pc := 12) (tgt := 49) (cks_at k_M_isOrder 9 rfl rfl) (by decide) ?_ ?_
  · exact tq_sub [1, 3] rfl (hkx49 v2 v4 M)
  · refine tq_aload_n 0 (E := E_M_isOrder d) (pc := 15) (cks_at k_M_isOrder 10 rfl rfl) rfl ?_
    refine tq_getR (j := 114) (E := E_M_isOrder d) (pc := 16) (cks_at k_M_isOrder 11 rfl rfl) fo_M_121 so_78 rfl sp_78_53 ?_
    refine tq_iload 4 (E := E_M_isOrder d) (pc := 19) (cks_at k_M_isOrder 12 rfl rfl) rfl ?_
    refine tq_iload_n 2 (E := E_M_isOrder d) (pc := 21) (cks_at k_M_isOrder 13 rfl rfl) rfl ?_
    refine tq_iload_n 1 (E := E_M_isOrder d) (pc := 22) (cks_at k_M_isOrder 14 rfl rfl) rfl ?_
    refine tq_irem (E := E_M_isOrder d) (pc := 23) (cks_at k_M_isOrder 15 rfl rfl) ?_
    refine tq_iast (E := E_M_isOrder d) (pc := 24) (cks_at k_M_isOrder 16 rfl rfl) sa_114 sn_114 (fun M1 => ?_)
    refine tq_iload_n 2 (E := E_M_isOrder d) (pc := 25) (cks_at k_M_isOrder 17 rfl rfl) rfl ?_
    refine tq_iload_n 1 (E := E_M_isOrder d) (pc := 26) (cks_at k_M_isOrder 18 rfl rfl) rfl ?_
    refine tq_idiv (E := E_M_isOrder d) (pc := 27) (cks_at k_M_isOrder 19 rfl rfl) ?_
    refine tq_istore_n (E := E_M_isOrder d) (pc := 28) (cks_at k_M_isOrder 20 rfl rfl) (show 3 < 6 by decide) rfl ?_
    refine tq_iload 3 (E := E_M_isOrder d) (pc := 29) (cks_at k_M_isOrder 21 rfl rfl) rfl ?_
    refine tq_iconst (E := E_M_isOrder d) (pc := 31) (cks_at k_M_isOrder 22 rfl rfl) ?_
    refine tq_aload_n 1 (E := E_M_isOrder d) (pc := 32) (cks_at k_M_isOrder 23 rfl rfl) rfl ?_
    refine tq_getR (j := 114) (E := E_M_isOrder d) (pc := 33) (cks_at k_M_isOrder 24 rfl rfl) fo_M_121 so_78 rfl sp_78_53 ?_
    refine tq_iload 4 (E := E_M_isOrder d) (pc := 36) (cks_at k_M_isOrder 25 rfl rfl) rfl ?_
    refine tq_iald (E := E_M_isOrder d) (pc := 38) (cks_at k_M_isOrder 26 rfl rfl) sa_114 sn_114 ?_
    refine tq_ishl (E := E_M_isOrder d) (pc := 39) (cks_at k_M_isOrder 27 rfl rfl) ?_
    refine tq_ior (E := E_M_isOrder d) (pc := 40) (cks_at k_M_isOrder 28 rfl rfl) ?_
    refine tq_istore (E := E_M_isOrder d) (pc := 41) (cks_at k_M_isOrder 29 rfl rfl) (show 4 < 6 by decide) rfl ?_
    refine tq_iinc 4 (E := E_M_isOrder d) (pc := 43) (cks_at k_M_isOrder 30 rfl rfl) rfl (show 5 < 6 by decide) rfl ?_
    refine tq_goto (tgt := 10) (E := E_M_isOrder d) (pc := 46) (cks_at k_M_isOrder 31 rfl rfl) (by decide) ?_
    exact tq_sub [3, 4, 2, 1, 0] rfl (hkH v2 ((i32 v3).tdiv (i32 v2)) (or32 v4 (shl32 1 (M1 114 (i32 v5).toNat))) (v5 + (-1)) M1)
def f_M_isOrder_L10 (kx49 : Int → Int → Mm → Option (Int × Mm)) : Nat → Int × Int × Int × Int × Mm → Option (Int × Mm) := lp fun kH s => f_M_isOrder_B10 (fun v2 v3 v4 v5 M => kH (v2, v3, v4, v5, M)) kx49 s.1 s.2.1 s.2.2.1 s.2.2.2.1 s.2.2.2.2
set_option maxRecDepth 20000 in
set_option maxHeartbeats 4000000 in
theorem w_M_isOrder_L10 (d : Nat) (kx49 : Int → Int → Mm → Option (Int × Mm)) (hkx49 : ∀ (v2 v4 : Int) (M : Mm), T (E_M_isOrder d) injI 49 [(2, vI v2), (4, vI v4)] [] M (kx49 v2 v4 M)) (n : Nat) (s : Int × Int × Int × Int × Mm) : T (E_M_isOrder d) injI 10 [(0, .ref 78), (2, vI s.1), (3, vI s.2.1), (4, vI s.2.2.1), (5, vI s.2.2.2.1)] [] s.2.2.2.2 (f_M_isOrder_L10 kx49 n s) :=
  tq_lp (fun s => [(0, .ref 78), (2, vI s.1), (3, vI s.2.1), (4, vI s.2.2.1), (5, vI s.2.2.2.1)]) (fun s => s.2.2.2.2) (fun kH hH s => w_M_isOrder_B10 d (fun v2 v3 v4 v5 M => kH (v2, v3, v4, v5, M)) kx49 (fun v2 v3 v4 v5 M => hH (v2, v3, v4, v5, M)) hkx49 s.1 s.2.1 s.2.2.1 s.2.2.2.1 s.2.2.2.2) n s
def f_M_isOrder (v1 : Int) (v2 : Int) (M : Mm) : Option (Int × Mm) :=
  f_M_isOrder_L10 (fun v2 v4 M2 => if ¬ i32 v4 = i32 ((shl32 1 v2) - 1) then
        some (0, M2)
      else
        some (1, M2)) FU (v2, v1, 0, (v2 - 1), M)
set_option maxRecDepth 20000 in
set_option maxHeartbeats 4000000 in
theorem c_M_isOrder (d : Nat) (v1 : Int) (v2 : Int) (M : Mm) (Q : Option Value → Mm → Prop) (h : sat injI (f_M_isOrder v1 v2 M) Q) : Ct (d + 1) y_M_isOrder [.ref 78, vI v1, vI v2] M Q := by
  refine ct_in (d := d + 0) mk_M_isOrder (Nat.le_of_ble_eq_true rfl) (?_ : T (E_M_isOrder d) injI 0 [(0, .ref 78), (1, vI v1), (2, vI v2)] [] M (f_M_isOrder v1 v2 M)) h
  unfold f_M_isOrder
  refine tq_iload_n 1 (E := E_M_isOrder d) (pc := 0) (cks_at k_M_isOrder 0 rfl rfl) rfl ?_
  refine tq_istore_n (E := E_M_isOrder d) (pc := 1) (cks_at k_M_isOrder 1 rfl rfl) (show 3 < 6 by decide) rfl ?_
  refine tq_iconst (E := E_M_isOrder d) (pc := 2) (cks_at k_M_isOrder 2 rfl rfl) ?_
  refine tq_istore (E := E_M_isOrder d) (pc := 3) (cks_at k_M_isOrder 3 rfl rfl) (show 4 < 6 by decide) rfl ?_
  refine tq_iload_n 4 (E := E_M_isOrder d) (pc := 5) (cks_at k_M_isOrder 4 rfl rfl) rfl ?_
  refine tq_iconst (E := E_M_isOrder d) (pc := 6) (cks_at k_M_isOrder 5 rfl rfl) ?_
  refine tq_isub (E := E_M_isOrder d) (pc := 7) (cks_at k_M_isOrder 6 rfl rfl) ?_
  refine tq_istore (E := E_M_isOrder d) (pc := 8) (cks_at k_M_isOrder 7 rfl rfl) (show 5 < 6 by decide) rfl ?_
  exact tq_sub [3, 5, 2, 1, 0] rfl (w_M_isOrder_L10 d _ (fun v2 v4 M2 => by
      refine tq_iload 1 (E := E_M_isOrder d) (pc := 49) (cks_at k_M_isOrder 32 rfl rfl) rfl ?_
      refine tq_iconst (E := E_M_isOrder d) (pc := 51) (cks_at k_M_isOrder 33 rfl rfl) ?_
      refine tq_iload_n 0 (E := E_M_isOrder d) (pc := 52) (cks_at k_M_isOrder 34 rfl rfl) rfl ?_
      refine tq_ishl (E := E_M_isOrder d) (pc := 53) (cks_at k_M_isOrder 35 rfl rfl) ?_
      refine tq_iconst (E := E_M_isOrder d) (pc := 54) (cks_at k_M_isOrder 36 rfl rfl) ?_
      refine tq_isub (E := E_M_isOrder d) (pc := 55) (cks_at k_M_isOrder 37 rfl rfl) ?_
      refine tq_icmp_ne (E := E_M_isOrder d) (pc := 56) (tgt := 63) (cks_at k_M_isOrder 38 rfl rfl) (by decide) ?_ ?_
      · refine tq_iconst (E := E_M_isOrder d) (pc := 63) (cks_at k_M_isOrder 41 rfl rfl) ?_
        exact tq_zretC (E := E_M_isOrder d) (pc := 64) (cks_at k_M_isOrder 42 rfl rfl) rfl (by decide)
      · refine tq_iconst (E := E_M_isOrder d) (pc := 59) (cks_at k_M_isOrder 39 rfl rfl) ?_
        refine tq_goto (tgt := 64) (E := E_M_isOrder d) (pc := 60) (cks_at k_M_isOrder 40 rfl rfl) (by decide) ?_
        exact tq_zretC (E := E_M_isOrder d) (pc := 64) (cks_at k_M_isOrder 42 rfl rfl) rfl (by decide)) FU (v2, v1, 0, (v2 - 1), M))
abbrev E_M_allGo (d : Nat) : Ev := (Ct (d + 13), "BreathTownModel", prog_14_method_93_code, 5, False, 0, (fun _ => 0), (Option.some Jvm.ClassFile.FieldType.boolean))
def f_M_allGo_B48 (kH : Int → Int → Int → Int → Mm → Option (Int × Mm)) (kx129 : Int → Int → Mm → Option (Int × Mm)) (v1 v2 v3 v4 : Int) (M : Mm) : Option (Int × Mm) :=
  if i32 (M 78 51) ≤ i32 v4 then
    kx129 v1 v2 M
  else
    gd (0 ≤ i32 v4 ∧ i32 v4 < ((12 : Nat) : Int)) <|
    gd (0 ≤ i32 (3 * (M 78 47)) ∧ i32 (3 * (M 78 47)) < ((200 : Nat) : Int)) <|
    bd (up M 109 (i32 (3 * (M 78 47))).toNat (M 111 (i32 v4).toNat)) (fun M7 =>
    gd (0 ≤ i32 v4 ∧ i32 v4 < ((12 : Nat) : Int)) <|
    gd (0 ≤ i32 ((3 * (M7 78 47)) + 1) ∧ i32 ((3 * (M7 78 47)) + 1) < ((200 : Nat) : Int)) <|
    bd (up M7 109 (i32 ((3 * (M7 78 47)) + 1)).toNat (M7 112 (i32 v4).toNat)) (fun M8 =>
    bI (f_M_broadOf v3 M8) (fun r10 M9 =>
    gd (0 ≤ i32 ((3 * (M8 78 47)) + 2) ∧ i32 ((3 * (M8 78 47)) + 2) < ((200 : Nat) : Int)) <|
    bd (up M9 109 (i32 ((3 * (M8 78 47)) + 2)).toNat r10) (fun M11 =>
    bd (up M11 78 47 ((M11 78 47) + 1)) (fun M12 =>
    kH v1 v2 v3 (v4 + 1) M12)))))
set_option maxRecDepth 20000 in
set_option maxHeartbeats 4000000 in
theorem w_M_allGo_B48 (d : Nat) (kH : Int → Int → Int → Int → Mm → Option (Int × Mm)) (kx129 : Int → Int → Mm → Option (Int × Mm)) (hkH : ∀ (v1 v2 v3 v4 : Int) (M : Mm), T (E_M_allGo d) injI 48 [(0, .ref 78), (1, vI v1), (2, vI v2), (3, vI v3), (4, vI v4)] [] M (kH v1 v2 v3 v4 M)) (hkx129 : ∀ (v1 v2 : Int) (M : Mm), T (E_M_allGo d) injI 129 [(0, .ref 78), (1, vI v1), (2, vI v2)] [] M (kx129 v1 v2 M)) (v1 v2 v3 v4 : Int) (M : Mm) : T (E_M_allGo d) injI 48 [(0, .ref 78), (1, vI v1), (2, vI v2), (3, vI v3), (4, vI v4)] [] M (f_M_allGo_B48 kH kx129 v1 v2 v3 v4 M) := by
  unfold f_M_allGo_B48
  refine tq_iload 4 (E := E_M_allGo d) (pc := 48) (cks_at k_M_allGo 31 rfl rfl) rfl ?_
  refine tq_aload_n 0 (E := E_M_allGo d) (pc := 50) (cks_at k_M_allGo 32 rfl rfl) rfl ?_
  refine tq_getI (E := E_M_allGo d) (pc := 51) (cks_at k_M_allGo 33 rfl rfl) fo_M_490 so_78 rfl (by decide) ?_
  refine tq_icmp_ge (E := E_M_allGo d) (pc := 54) (tgt := 129) (cks_at k_M_allGo 34 rfl rfl) (by decide) ?_ ?_
  · exact tq_sub [0, 1, 2] rfl (hkx129 v1 v2 M)
  · refine tq_aload_n 0 (E := E_M_allGo d) (pc := 57) (cks_at k_M_allGo 35 rfl rfl) rfl ?_
    refine tq_getR (j := 109) (E := E_M_allGo d) (pc := 58) (cks_at k_M_allGo 36 rfl rfl) fo_M_106 so_78 rfl sp_78_46 ?_
    refine tq_iconst (E := E_M_allGo d) (pc := 61) (cks_at k_M_allGo 37 rfl rfl) ?_
    refine tq_aload_n 0 (E := E_M_allGo d) (pc := 62) (cks_at k_M_allGo 38 rfl rfl) rfl ?_
    refine tq_getI (E := E_M_allGo d) (pc := 63) (cks_at k_M_allGo 39 rfl rfl) fo_M_447 so_78 rfl (by decide) ?_
    refine tq_imul (E := E_M_allGo d) (pc := 66) (cks_at k_M_allGo 40 rfl rfl) ?_
    refine tq_aload_n 0 (E := E_M_allGo d) (pc := 67) (cks_at k_M_allGo 41 rfl rfl) rfl ?_
    refine tq_getR (j := 111) (E := E_M_allGo d) (pc := 68) (cks_at k_M_allGo 42 rfl rfl) fo_M_112 so_78 rfl sp_78_49 ?_
    refine tq_iload 4 (E := E_M_allGo d) (pc := 71) (cks_at k_M_allGo 43 rfl rfl) rfl ?_
    refine tq_iald (E := E_M_allGo d) (pc := 73) (cks_at k_M_allGo 44 rfl rfl) sa_111 sn_111 ?_
    refine tq_iast (E := E_M_allGo d) (pc := 74) (cks_at k_M_allGo 45 rfl rfl) sa_109 sn_109 (fun M7 => ?_)
    refine tq_aload_n 0 (E := E_M_allGo d) (pc := 75) (cks_at k_M_allGo 46 rfl rfl) rfl ?_
    refine tq_getR (j := 109) (E := E_M_allGo d) (pc := 76) (cks_at k_M_allGo 47 rfl rfl) fo_M_106 so_78 rfl sp_78_46 ?_
    refine tq_iconst (E := E_M_allGo d) (pc := 79) (cks_at k_M_allGo 48 rfl rfl) ?_
    refine tq_aload_n 0 (E := E_M_allGo d) (pc := 80) (cks_at k_M_allGo 49 rfl rfl) rfl ?_
    refine tq_getI (E := E_M_allGo d) (pc := 81) (cks_at k_M_allGo 50 rfl rfl) fo_M_447 so_78 rfl (by decide) ?_
    refine tq_imul (E := E_M_allGo d) (pc := 84) (cks_at k_M_allGo 51 rfl rfl) ?_
    refine tq_iconst (E := E_M_allGo d) (pc := 85) (cks_at k_M_allGo 52 rfl rfl) ?_
    refine tq_iadd (E := E_M_allGo d) (pc := 86) (cks_at k_M_allGo 53 rfl rfl) ?_
    refine tq_aload_n 0 (E := E_M_allGo d) (pc := 87) (cks_at k_M_allGo 54 rfl rfl) rfl ?_
    refine tq_getR (j := 112) (E := E_M_allGo d) (pc := 88) (cks_at k_M_allGo 55 rfl rfl) fo_M_115 so_78 rfl sp_78_50 ?_
    refine tq_iload 4 (E := E_M_allGo d) (pc := 91) (cks_at k_M_allGo 56 rfl rfl) rfl ?_
    refine tq_iald (E := E_M_allGo d) (pc := 93) (cks_at k_M_allGo 57 rfl rfl) sa_112 sn_112 ?_
    refine tq_iast (E := E_M_allGo d) (pc := 94) (cks_at k_M_allGo 58 rfl rfl) sa_109 sn_109 (fun M8 => ?_)
    refine tq_aload_n 0 (E := E_M_allGo d) (pc := 95) (cks_at k_M_allGo 59 rfl rfl) rfl ?_
    refine tq_getR (j := 109) (E := E_M_allGo d) (pc := 96) (cks_at k_M_allGo 60 rfl rfl) fo_M_106 so_78 rfl sp_78_46 ?_
    refine tq_iconst (E := E_M_allGo d) (pc := 99) (cks_at k_M_allGo 61 rfl rfl) ?_
    refine tq_aload_n 0 (E := E_M_allGo d) (pc := 100) (cks_at k_M_allGo 62 rfl rfl) rfl ?_
    refine tq_getI (E := E_M_allGo d) (pc := 101) (cks_at k_M_allGo 63 rfl rfl) fo_M_447 so_78 rfl (by decide) ?_
    refine tq_imul (E := E_M_allGo d) (pc := 104) (cks_at k_M_allGo 64 rfl rfl) ?_
    refine tq_iconst (E := E_M_allGo d) (pc := 105) (cks_at k_M_allGo 65 rfl rfl) ?_
    refine tq_iadd (E := E_M_allGo d) (pc := 106) (cks_at k_M_allGo 66 rfl rfl) ?_
    refine tq_aload_n 0 (E := E_M_allGo d) (pc := 107) (cks_at k_M_allGo 67 rfl rfl) rfl ?_
    refine tq_iload_n 3 (E := E_M_allGo d) (pc := 108) (cks_at k_M_allGo 68 rfl rfl) rfl ?_
    refine tq_V1 (E := E_M_allGo d) (pc := 109) (cks_at k_M_allGo 69 rfl rfl) mk_M_broadOf lk_M_477 rc_78 (Nat.le_of_ble_eq_true rfl) (c_M_broadOf (d + 12) v3 M8) (k_I fun r10 M9 => ?_)
    refine tq_iast (E := E_M_allGo d) (pc := 112) (cks_at k_M_allGo 70 rfl rfl) sa_109 sn_109 (fun M11 => ?_)
    refine tq_aload_n 0 (E := E_M_allGo d) (pc := 113) (cks_at k_M_allGo 71 rfl rfl) rfl ?_
    refine tq_dup (E := E_M_allGo d) (pc := 114) (cks_at k_M_allGo 72 rfl rfl) rfl ?_
    refine tq_getI (E := E_M_allGo d) (pc := 115) (cks_at k_M_allGo 73 rfl rfl) fo_M_447 so_78 rfl (by decide) ?_
    refine tq_iconst (E := E_M_allGo d) (pc := 118) (cks_at k_M_allGo 74 rfl rfl) ?_
    refine tq_iadd (E := E_M_allGo d) (pc := 119) (cks_at k_M_allGo 75 rfl rfl) ?_
    refine tq_putI (E := E_M_allGo d) (pc := 120) (cks_at k_M_allGo 76 rfl rfl) fo_M_447 so_78 rfl po_12_47 (fun M12 => ?_)
    refine tq_iinc 4 (E := E_M_allGo d) (pc := 123) (cks_at k_M_allGo 77 rfl rfl) rfl (show 4 < 5 by decide) rfl ?_
    refine tq_goto (tgt := 48) (E := E_M_allGo d) (pc := 126) (cks_at k_M_allGo 78 rfl rfl) (by decide) ?_
    exact tq_sub [1, 2, 3, 4, 0] rfl (hkH v1 v2 v3 (v4 + 1) M12)
def f_M_allGo_L48 (kx129 : Int → Int → Mm → Option (Int × Mm)) : Nat → Int × Int × Int × Int × Mm → Option (Int × Mm) := lp fun kH s => f_M_allGo_B48 (fun v1 v2 v3 v4 M => kH (v1, v2, v3, v4, M)) kx129 s.1 s.2.1 s.2.2.1 s.2.2.2.1 s.2.2.2.2
set_option maxRecDepth 20000 in
set_option maxHeartbeats 4000000 in
theorem w_M_allGo_L48 (d : Nat) (kx129 : Int → Int → Mm → Option (Int × Mm)) (hkx129 : ∀ (v1 v2 : Int) (M : Mm), T (E_M_allGo d) injI 129 [(0, .ref 78), (1, vI v1), (2, vI v2)] [] M (kx129 v1 v2 M)) (n : Nat) (s : Int × Int × Int × Int × Mm) : T (E_M_allGo d) injI 48 [(0, .ref 78), (1, vI s.1), (2, vI s.2.1), (3, vI s.2.2.1), (4, vI s.2.2.2.1)] [] s.2.2.2.2 (f_M_allGo_L48 kx129 n s) :=
  tq_lp (fun s => [(0, .ref 78), (1, vI s.1), (2, vI s.2.1), (3, vI s.2.2.1), (4, vI s.2.2.2.1)]) (fun s => s.2.2.2.2) (fun kH hH s => w_M_allGo_B48 d (fun v1 v2 v3 v4 M => kH (v1, v2, v3, v4, M)) kx129 (fun v1 v2 v3 v4 M => hH (v1, v2, v3, v4, M)) hkx129 s.1 s.2.1 s.2.2.1 s.2.2.2.1 s.2.2.2.2) n s
def f_M_allGo_B7 (kH : Int → Int → Mm → Option (Int × Mm)) (v1 v2 : Int) (M : Mm) : Option (Int × Mm) :=
  if i32 v1 ≤ i32 v2 then
    some (1, M)
  else
    gd (0 ≤ i32 v2 ∧ i32 v2 < ((4 : Nat) : Int)) <|
    bI (f_M_findsWay (M 114 (i32 v2).toNat) M) (fun r3 M2 =>
    if ¬ i32 r3 = 0 then
      bI (f_M_goalOf (M 114 (i32 v2).toNat) M2) (fun r5 M4 =>
      gd (0 ≤ i32 r5 ∧ i32 r5 < ((9 : Nat) : Int)) <|
      gd (0 ≤ i32 (M 114 (i32 v2).toNat) ∧ i32 (M 114 (i32 v2).toNat) < ((4 : Nat) : Int)) <|
      bd (up M4 116 (i32 (M 114 (i32 v2).toNat)).toNat (M4 110 (i32 r5).toNat)) (fun M6 =>
      f_M_allGo_L48 (fun v1 v2 M13 => kH v1 (v2 + 1) M13) FU (v1, v2, (M 114 (i32 v2).toNat), 0, M6)))
    else
      some (0, M2))
set_option maxRecDepth 20000 in
set_option maxHeartbeats 4000000 in
theorem w_M_allGo_B7 (d : Nat) (kH : Int → Int → Mm → Option (Int × Mm)) (hkH : ∀ (v1 v2 : Int) (M : Mm), T (E_M_allGo d) injI 7 [(0, .ref 78), (1, vI v1), (2, vI v2)] [] M (kH v1 v2 M)) (v1 v2 : Int) (M : Mm) : T (E_M_allGo d) injI 7 [(0, .ref 78), (1, vI v1), (2, vI v2)] [] M (f_M_allGo_B7 kH v1 v2 M) := by
  unfold f_M_allGo_B7
  refine tq_iload_n 2 (E := E_M_allGo d) (pc := 7) (cks_at k_M_allGo 5 rfl rfl) rfl ?_
  refine tq_iload_n 1 (E := E_M_allGo d) (pc := 8) (cks_at k_M_allGo 6 rfl rfl) rfl ?_
  refine tq_icmp_ge (E := E_M_allGo d) (pc := 9) (tgt := 135) (cks_at k_M_allGo 7 rfl rfl) (by decide) ?_ ?_
  · refine tq_iconst (E := E_M_allGo d) (pc := 135) (cks_at k_M_allGo 81 rfl rfl) ?_
    exact tq_zretC (E := E_M_allGo d) (pc := 136) (cks_at k_M_allGo 82 rfl rfl) rfl (by decide)
  · refine tq_aload_n 0 (E := E_M_allGo d) (pc := 12) (cks_at k_M_allGo 8 rfl rfl) rfl ?_
    refine tq_getR (j := 114) (E := E_M_allGo d) (pc := 13) (cks_at k_M_allGo 9 rfl rfl) fo_M_121 so_78 rfl sp_78_53 ?_
    refine tq_iload_n 2 (E := E_M_allGo d) (pc := 16) (cks_at k_M_allGo 10 rfl rfl) rfl ?_
    refine tq_iald (E := E_M_allGo d) (pc := 17) (cks_at k_M_allGo 11 rfl rfl) sa_114 sn_114 ?_
    refine tq_istore_n (E := E_M_allGo d) (pc := 18) (cks_at k_M_allGo 12 rfl rfl) (show 3 < 5 by decide) rfl ?_
    refine tq_aload_n 1 (E := E_M_allGo d) (pc := 19) (cks_at k_M_allGo 13 rfl rfl) rfl ?_
    refine tq_iload_n 0 (E := E_M_allGo d) (pc := 20) (cks_at k_M_allGo 14 rfl rfl) rfl ?_
    refine tq_V1 (E := E_M_allGo d) (pc := 21) (cks_at k_M_allGo 15 rfl rfl) mk_M_findsWay lk_M_484 rc_78 (Nat.le_of_ble_eq_true rfl) (c_M_findsWay (d + 0) (M 114 (i32 v2).toNat) M) (k_I fun r3 M2 => ?_)
    refine tq_if_ne (E := E_M_allGo d) (pc := 24) (tgt := 29) (cks_at k_M_allGo 16 rfl rfl) (by decide) ?_ ?_
    · refine tq_aload_n 1 (E := E_M_allGo d) (pc := 29) (cks_at k_M_allGo 19 rfl rfl) rfl ?_
      refine tq_getR (j := 116) (E := E_M_allGo d) (pc := 30) (cks_at k_M_allGo 20 rfl rfl) fo_M_127 so_78 rfl sp_78_55 ?_
      refine tq_iload_n 0 (E := E_M_allGo d) (pc := 33) (cks_at k_M_allGo 21 rfl rfl) rfl ?_
      refine tq_aload_n 1 (E := E_M_allGo d) (pc := 34) (cks_at k_M_allGo 22 rfl rfl) rfl ?_
      refine tq_getR (j := 110) (E := E_M_allGo d) (pc := 35) (cks_at k_M_allGo 23 rfl rfl) fo_M_109 so_78 rfl sp_78_48 ?_
      refine tq_aload_n 1 (E := E_M_allGo d) (pc := 38) (cks_at k_M_allGo 24 rfl rfl) rfl ?_
      refine tq_iload_n 0 (E := E_M_allGo d) (pc := 39) (cks_at k_M_allGo 25 rfl rfl) rfl ?_
      refine tq_V1 (E := E_M_allGo d) (pc := 40) (cks_at k_M_allGo 26 rfl rfl) mk_M_goalOf lk_M_493 rc_78 (Nat.le_of_ble_eq_true rfl) (c_M_goalOf (d + 12) (M 114 (i32 v2).toNat) M2) (k_I fun r5 M4 => ?_)
      refine tq_iald (E := E_M_allGo d) (pc := 43) (cks_at k_M_allGo 27 rfl rfl) sa_110 sn_110 ?_
      refine tq_iast (E := E_M_allGo d) (pc := 44) (cks_at k_M_allGo 28 rfl rfl) sa_116 sn_116 (fun M6 => ?_)
      refine tq_iconst (E := E_M_allGo d) (pc := 45) (cks_at k_M_allGo 29 rfl rfl) ?_
      refine tq_istore (E := E_M_allGo d) (pc := 46) (cks_at k_M_allGo 30 rfl rfl) (show 4 < 5 by decide) rfl ?_
      exact tq_sub [2, 3, 4, 1, 0] rfl (w_M_allGo_L48 d _ (fun v1 v2 M13 => by
          refine tq_iinc 2 (E := E_M_allGo d) (pc := 129) (cks_at k_M_allGo 79 rfl rfl) rfl (show 2 < 5 by decide) rfl ?_
          refine tq_goto (tgt := 7) (E := E_M_allGo d) (pc := 132) (cks_at k_M_allGo 80 rfl rfl) (by decide) ?_
          exact tq_sub [1, 2, 0] rfl (hkH v1 (v2 + 1) M13)) FU (v1, v2, (M 114 (i32 v2).toNat), 0, M6))
    · refine tq_iconst (E := E_M_allGo d) (pc := 27) (cks_at k_M_allGo 17 rfl rfl) ?_
      exact tq_zretC (E := E_M_allGo d) (pc := 28) (cks_at k_M_allGo 18 rfl rfl) rfl (by decide)
def f_M_allGo_L7 : Nat → Int × Int × Mm → Option (Int × Mm) := lp fun kH s => f_M_allGo_B7 (fun v1 v2 M => kH (v1, v2, M)) s.1 s.2.1 s.2.2
set_option maxRecDepth 20000 in
set_option maxHeartbeats 4000000 in
theorem w_M_allGo_L7 (d : Nat) (n : Nat) (s : Int × Int × Mm) : T (E_M_allGo d) injI 7 [(0, .ref 78), (1, vI s.1), (2, vI s.2.1)] [] s.2.2 (f_M_allGo_L7 n s) :=
  tq_lp (fun s => [(0, .ref 78), (1, vI s.1), (2, vI s.2.1)]) (fun s => s.2.2) (fun kH hH s => w_M_allGo_B7 d (fun v1 v2 M => kH (v1, v2, M)) (fun v1 v2 M => hH (v1, v2, M)) s.1 s.2.1 s.2.2) n s
def f_M_allGo (v1 : Int) (M : Mm) : Option (Int × Mm) :=
  bd (up M 78 47 0) (fun M1 =>
  f_M_allGo_L7 FU (v1, 0, M1))
set_option maxRecDepth 20000 in
set_option maxHeartbeats 4000000 in
theorem c_M_allGo (d : Nat) (v1 : Int) (M : Mm) (Q : Option Value → Mm → Prop) (h : sat injI (f_M_allGo v1 M) Q) : Ct (d + 14) y_M_allGo [.ref 78, vI v1] M Q := by
  refine ct_in (d := d + 13) mk_M_allGo (Nat.le_of_ble_eq_true rfl) (?_ : T (E_M_allGo d) injI 0 [(0, .ref 78), (1, vI v1)] [] M (f_M_allGo v1 M)) h
  unfold f_M_allGo
  refine tq_aload_n 0 (E := E_M_allGo d) (pc := 0) (cks_at k_M_allGo 0 rfl rfl) rfl ?_
  refine tq_iconst (E := E_M_allGo d) (pc := 1) (cks_at k_M_allGo 1 rfl rfl) ?_
  refine tq_putI (E := E_M_allGo d) (pc := 2) (cks_at k_M_allGo 2 rfl rfl) fo_M_447 so_78 rfl po_12_47 (fun M1 => ?_)
  refine tq_iconst (E := E_M_allGo d) (pc := 5) (cks_at k_M_allGo 3 rfl rfl) ?_
  refine tq_istore_n (E := E_M_allGo d) (pc := 6) (cks_at k_M_allGo 4 rfl rfl) (show 2 < 5 by decide) rfl ?_
  exact tq_sub [1, 2, 0] rfl (w_M_allGo_L7 d FU (v1, 0, M1))
abbrev E_M_weighs (d : Nat) : Ev := (Ct (d + 0), "BreathTownModel", prog_14_method_94_code, 5, False, 0, (fun _ => 0), (Option.none : Option Jvm.ClassFile.FieldType))
def f_M_weighs_J32 (kH : Int → Int → Int → Int → Mm → Option (Mm)) (kx48 : Int → Int → Int → Mm → Option (Mm)) (v1 v2 v3 v4 : Int) (M : Mm) : Option (Mm) :=
  gd (0 ≤ i32 v4 ∧ i32 v4 < ((4 : Nat) : Int)) <|
  kH v1 v2 (v3 + (M 116 (i32 v4).toNat)) (v4 + 1) M
set_option maxRecDepth 20000 in
set_option maxHeartbeats 4000000 in
theorem w_M_weighs_J32 (d : Nat) (kH : Int → Int → Int → Int → Mm → Option (Mm)) (kx48 : Int → Int → Int → Mm → Option (Mm)) (hkH : ∀ (v1 v2 v3 v4 : Int) (M : Mm), T (E_M_weighs d) injV 7 [(0, .ref 78), (1, vI v1), (2, vI v2), (3, vI v3), (4, vI v4)] [] M (kH v1 v2 v3 v4 M)) (hkx48 : ∀ (v1 v2 v3 : Int) (M : Mm), T (E_M_weighs d) injV 48 [(0, .ref 78), (1, vI v1), (2, vI v2), (3, vI v3)] [] M (kx48 v1 v2 v3 M)) (v1 v2 v3 v4 : Int) (M : Mm) : T (E_M_weighs d) injV 32 [(0, .ref 78), (1, vI v1), (2, vI v2), (3, vI v3), (4, vI v4)] [] M (f_M_weighs_J32 kH kx48 v1 v2 v3 v4 M) := by
  unfold f_M_weighs_J32
  refine tq_iload_n 3 (E := E_M_weighs d) (pc := 32) (cks_at k_M_weighs 20 rfl rfl) rfl ?_
  refine tq_aload_n 0 (E := E_M_weighs d) (pc := 33) (cks_at k_M_weighs 21 rfl rfl) rfl ?_
  refine tq_getR (j := 116) (E := E_M_weighs d) (pc := 34) (cks_at k_M_weighs 22 rfl rfl) fo_M_127 so_78 rfl sp_78_55 ?_
  refine tq_iload 4 (E := E_M_weighs d) (pc := 37) (cks_at k_M_weighs 23 rfl rfl) rfl ?_
  refine tq_iald (E := E_M_weighs d) (pc := 39) (cks_at k_M_weighs 24 rfl rfl) sa_116 sn_116 ?_
  refine tq_iadd (E := E_M_weighs d) (pc := 40) (cks_at k_M_weighs 25 rfl rfl) ?_
  refine tq_istore_n (E := E_M_weighs d) (pc := 41) (cks_at k_M_weighs 26 rfl rfl) (show 3 < 5 by decide) rfl ?_
  refine tq_iinc 4 (E := E_M_weighs d) (pc := 42) (cks_at k_M_weighs 27 rfl rfl) rfl (show 4 < 5 by decide) rfl ?_
  refine tq_goto (tgt := 7) (E := E_M_weighs d) (pc := 45) (cks_at k_M_weighs 28 rfl rfl) (by decide) ?_
  exact tq_sub [2, 3, 4, 1, 0] rfl (hkH v1 v2 (v3 + (M 116 (i32 v4).toNat)) (v4 + 1) M)
def f_M_weighs_B7 (kH : Int → Int → Int → Int → Mm → Option (Mm)) (kx48 : Int → Int → Int → Mm → Option (Mm)) (v1 v2 v3 v4 : Int) (M : Mm) : Option (Mm) :=
  if i32 v1 ≤ i32 v4 then
    kx48 v1 v2 v3 M
  else
    gd (0 ≤ i32 v4 ∧ i32 v4 < ((4 : Nat) : Int)) <|
    if i32 (M 116 (i32 v4).toNat) ≤ i32 v2 then
      f_M_weighs_J32 kH kx48 v1 v2 v3 v4 M
    else
      gd (0 ≤ i32 v4 ∧ i32 v4 < ((4 : Nat) : Int)) <|
      f_M_weighs_J32 kH kx48 v1 (M 116 (i32 v4).toNat) v3 v4 M
set_option maxRecDepth 20000 in
set_option maxHeartbeats 4000000 in
theorem w_M_weighs_B7 (d : Nat) (kH : Int → Int → Int → Int → Mm → Option (Mm)) (kx48 : Int → Int → Int → Mm → Option (Mm)) (hkH : ∀ (v1 v2 v3 v4 : Int) (M : Mm), T (E_M_weighs d) injV 7 [(0, .ref 78), (1, vI v1), (2, vI v2), (3, vI v3), (4, vI v4)] [] M (kH v1 v2 v3 v4 M)) (hkx48 : ∀ (v1 v2 v3 : Int) (M : Mm), T (E_M_weighs d) injV 48 [(0, .ref 78), (1, vI v1), (2, vI v2), (3, vI v3)] [] M (kx48 v1 v2 v3 M)) (v1 v2 v3 v4 : Int) (M : Mm) : T (E_M_weighs d) injV 7 [(0, .ref 78), (1, vI v1), (2, vI v2), (3, vI v3), (4, vI v4)] [] M (f_M_weighs_B7 kH kx48 v1 v2 v3 v4 M) := by
  unfold f_M_weighs_B7
  refine tq_iload 4 (E := E_M_weighs d) (pc := 7) (cks_at k_M_weighs 6 rfl rfl) rfl ?_
  refine tq_iload_n 1 (E := E_M_weighs d) (pc := 9) (cks_at k_M_weighs 7 rfl rfl) rfl ?_
  refine tq_icmp_ge (E := E_M_weighs d) (pc := 10) (tgt := 48) (cks_at k_M_weighs 8 rfl rfl) (by decide) ?_ ?_
  · exact tq_sub [0, 1, 2, 3] rfl (hkx48 v1 v2 v3 M)
  · refine tq_aload_n 0 (E := E_M_weighs d) (pc := 13) (cks_at k_M_weighs 9 rfl rfl) rfl ?_
    refine tq_getR (j := 116) (E := E_M_weighs d) (pc := 14) (cks_at k_M_weighs 10 rfl rfl) fo_M_127 so_78 rfl sp_78_55 ?_
    refine tq_iload 4 (E := E_M_weighs d) (pc := 17) (cks_at k_M_weighs 11 rfl rfl) rfl ?_
    refine tq_iald (E := E_M_weighs d) (pc := 19) (cks_at k_M_weighs 12 rfl rfl) sa_116 sn_116 ?_
    refine tq_iload_n 2 (E := E_M_weighs d) (pc := 20) (cks_at k_M_weighs 13 rfl rfl) rfl ?_
    refine tq_icmp_le (E := E_M_weighs d) (pc := 21) (tgt := 32) (cks_at k_M_weighs 14 rfl rfl) (by decide) ?_ ?_
    · exact tq_sub [0, 1, 2, 3, 4] rfl (w_M_weighs_J32 d kH kx48 hkH hkx48 v1 v2 v3 v4 M)
    · refine tq_aload_n 0 (E := E_M_weighs d) (pc := 24) (cks_at k_M_weighs 15 rfl rfl) rfl ?_
      refine tq_getR (j := 116) (E := E_M_weighs d) (pc := 25) (cks_at k_M_weighs 16 rfl rfl) fo_M_127 so_78 rfl sp_78_55 ?_
      refine tq_iload 4 (E := E_M_weighs d) (pc := 28) (cks_at k_M_weighs 17 rfl rfl) rfl ?_
      refine tq_iald (E := E_M_weighs d) (pc := 30) (cks_at k_M_weighs 18 rfl rfl) sa_116 sn_116 ?_
      refine tq_istore_n (E := E_M_weighs d) (pc := 31) (cks_at k_M_weighs 19 rfl rfl) (show 2 < 5 by decide) rfl ?_
      exact tq_sub [1, 2, 0, 3, 4] rfl (w_M_weighs_J32 d kH kx48 hkH hkx48 v1 (M 116 (i32 v4).toNat) v3 v4 M)
def f_M_weighs_L7 (kx48 : Int → Int → Int → Mm → Option (Mm)) : Nat → Int × Int × Int × Int × Mm → Option (Mm) := lp fun kH s => f_M_weighs_B7 (fun v1 v2 v3 v4 M => kH (v1, v2, v3, v4, M)) kx48 s.1 s.2.1 s.2.2.1 s.2.2.2.1 s.2.2.2.2
set_option maxRecDepth 20000 in
set_option maxHeartbeats 4000000 in
theorem w_M_weighs_L7 (d : Nat) (kx48 : Int → Int → Int → Mm → Option (Mm)) (hkx48 : ∀ (v1 v2 v3 : Int) (M : Mm), T (E_M_weighs d) injV 48 [(0, .ref 78), (1, vI v1), (2, vI v2), (3, vI v3)] [] M (kx48 v1 v2 v3 M)) (n : Nat) (s : Int × Int × Int × Int × Mm) : T (E_M_weighs d) injV 7 [(0, .ref 78), (1, vI s.1), (2, vI s.2.1), (3, vI s.2.2.1), (4, vI s.2.2.2.1)] [] s.2.2.2.2 (f_M_weighs_L7 kx48 n s) :=
  tq_lp (fun s => [(0, .ref 78), (1, vI s.1), (2, vI s.2.1), (3, vI s.2.2.1), (4, vI s.2.2.2.1)]) (fun s => s.2.2.2.2) (fun kH hH s => w_M_weighs_B7 d (fun v1 v2 v3 v4 M => kH (v1, v2, v3, v4, M)) kx48 (fun v1 v2 v3 v4 M => hH (v1, v2, v3, v4, M)) hkx48 s.1 s.2.1 s.2.2.1 s.2.2.2.1 s.2.2.2.2) n s
def f_M_weighs_B86 (kH : Int → Int → Mm → Option (Mm)) (v1 v4 : Int) (M : Mm) : Option (Mm) :=
  if i32 v1 ≤ i32 v4 then
    some M
  else
    gd (0 ≤ i32 v4 ∧ i32 v4 < ((4 : Nat) : Int)) <|
    gd (0 ≤ i32 v4 ∧ i32 v4 < ((4 : Nat) : Int)) <|
    bd (up M 115 (i32 v4).toNat (M 114 (i32 v4).toNat)) (fun M4 =>
    gd (0 ≤ i32 v4 ∧ i32 v4 < ((4 : Nat) : Int)) <|
    gd (0 ≤ i32 v4 ∧ i32 v4 < ((4 : Nat) : Int)) <|
    bd (up M4 117 (i32 v4).toNat (M4 116 (i32 v4).toNat)) (fun M5 =>
    kH v1 (v4 + 1) M5))
set_option maxRecDepth 20000 in
set_option maxHeartbeats 4000000 in
theorem w_M_weighs_B86 (d : Nat) (kH : Int → Int → Mm → Option (Mm)) (hkH : ∀ (v1 v4 : Int) (M : Mm), T (E_M_weighs d) injV 86 [(0, .ref 78), (1, vI v1), (4, vI v4)] [] M (kH v1 v4 M)) (v1 v4 : Int) (M : Mm) : T (E_M_weighs d) injV 86 [(0, .ref 78), (1, vI v1), (4, vI v4)] [] M (f_M_weighs_B86 kH v1 v4 M) := by
  unfold f_M_weighs_B86
  refine tq_iload 2 (E := E_M_weighs d) (pc := 86) (cks_at k_M_weighs 50 rfl rfl) rfl ?_
  refine tq_iload_n 1 (E := E_M_weighs d) (pc := 88) (cks_at k_M_weighs 51 rfl rfl) rfl ?_
  refine tq_icmp_ge (E := E_M_weighs d) (pc := 89) (tgt := 126) (cks_at k_M_weighs 52 rfl rfl) (by decide) ?_ ?_
  · exact tq_vret (E := E_M_weighs d) (pc := 126) (cks_at k_M_weighs 71 rfl rfl) rfl
  · refine tq_aload_n 0 (E := E_M_weighs d) (pc := 92) (cks_at k_M_weighs 53 rfl rfl) rfl ?_
    refine tq_getR (j := 115) (E := E_M_weighs d) (pc := 93) (cks_at k_M_weighs 54 rfl rfl) fo_M_124 so_78 rfl sp_78_54 ?_
    refine tq_iload 2 (E := E_M_weighs d) (pc := 96) (cks_at k_M_weighs 55 rfl rfl) rfl ?_
    refine tq_aload_n 0 (E := E_M_weighs d) (pc := 98) (cks_at k_M_weighs 56 rfl rfl) rfl ?_
    refine tq_getR (j := 114) (E := E_M_weighs d) (pc := 99) (cks_at k_M_weighs 57 rfl rfl) fo_M_121 so_78 rfl sp_78_53 ?_
    refine tq_iload 2 (E := E_M_weighs d) (pc := 102) (cks_at k_M_weighs 58 rfl rfl) rfl ?_
    refine tq_iald (E := E_M_weighs d) (pc := 104) (cks_at k_M_weighs 59 rfl rfl) sa_114 sn_114 ?_
    refine tq_iast (E := E_M_weighs d) (pc := 105) (cks_at k_M_weighs 60 rfl rfl) sa_115 sn_115 (fun M4 => ?_)
    refine tq_aload_n 0 (E := E_M_weighs d) (pc := 106) (cks_at k_M_weighs 61 rfl rfl) rfl ?_
    refine tq_getR (j := 117) (E := E_M_weighs d) (pc := 107) (cks_at k_M_weighs 62 rfl rfl) fo_M_130 so_78 rfl sp_78_56 ?_
    refine tq_iload 2 (E := E_M_weighs d) (pc := 110) (cks_at k_M_weighs 63 rfl rfl) rfl ?_
    refine tq_aload_n 0 (E := E_M_weighs d) (pc := 112) (cks_at k_M_weighs 64 rfl rfl) rfl ?_
    refine tq_getR (j := 116) (E := E_M_weighs d) (pc := 113) (cks_at k_M_weighs 65 rfl rfl) fo_M_127 so_78 rfl sp_78_55 ?_
    refine tq_iload 2 (E := E_M_weighs d) (pc := 116) (cks_at k_M_weighs 66 rfl rfl) rfl ?_
    refine tq_iald (E := E_M_weighs d) (pc := 118) (cks_at k_M_weighs 67 rfl rfl) sa_116 sn_116 ?_
    refine tq_iast (E := E_M_weighs d) (pc := 119) (cks_at k_M_weighs 68 rfl rfl) sa_117 sn_117 (fun M5 => ?_)
    refine tq_iinc 2 (E := E_M_weighs d) (pc := 120) (cks_at k_M_weighs 69 rfl rfl) rfl (show 4 < 5 by decide) rfl ?_
    refine tq_goto (tgt := 86) (E := E_M_weighs d) (pc := 123) (cks_at k_M_weighs 70 rfl rfl) (by decide) ?_
    exact tq_sub [1, 2, 0] rfl (hkH v1 (v4 + 1) M5)
def f_M_weighs_L86 : Nat → Int × Int × Mm → Option (Mm) := lp fun kH s => f_M_weighs_B86 (fun v1 v4 M => kH (v1, v4, M)) s.1 s.2.1 s.2.2
set_option maxRecDepth 20000 in
set_option maxHeartbeats 4000000 in
theorem w_M_weighs_L86 (d : Nat) (n : Nat) (s : Int × Int × Mm) : T (E_M_weighs d) injV 86 [(0, .ref 78), (1, vI s.1), (4, vI s.2.1)] [] s.2.2 (f_M_weighs_L86 n s) :=
  tq_lp (fun s => [(0, .ref 78), (1, vI s.1), (4, vI s.2.1)]) (fun s => s.2.2) (fun kH hH s => w_M_weighs_B86 d (fun v1 v4 M => kH (v1, v4, M)) (fun v1 v4 M => hH (v1, v4, M)) s.1 s.2.1 s.2.2) n s
def f_M_weighs_J73 (v1 v2 v3 : Int) (M : Mm) : Option (Mm) :=
  bd (up M 78 57 v2) (fun M2 =>
  bd (up M2 78 58 v3) (fun M3 =>
  f_M_weighs_L86 FU (v1, 0, M3)))
set_option maxRecDepth 20000 in
set_option maxHeartbeats 4000000 in
theorem w_M_weighs_J73 (d : Nat) (v1 v2 v3 : Int) (M : Mm) : T (E_M_weighs d) injV 73 [(0, .ref 78), (1, vI v1), (2, vI v2), (3, vI v3)] [] M (f_M_weighs_J73 v1 v2 v3 M) := by
  unfold f_M_weighs_J73
  refine tq_aload_n 0 (E := E_M_weighs d) (pc := 73) (cks_at k_M_weighs 42 rfl rfl) rfl ?_
  refine tq_iload_n 2 (E := E_M_weighs d) (pc := 74) (cks_at k_M_weighs 43 rfl rfl) rfl ?_
  refine tq_putI (E := E_M_weighs d) (pc := 75) (cks_at k_M_weighs 44 rfl rfl) fo_M_544 so_78 rfl po_12_57 (fun M2 => ?_)
  refine tq_aload_n 0 (E := E_M_weighs d) (pc := 78) (cks_at k_M_weighs 45 rfl rfl) rfl ?_
  refine tq_iload_n 3 (E := E_M_weighs d) (pc := 79) (cks_at k_M_weighs 46 rfl rfl) rfl ?_
  refine tq_putI (E := E_M_weighs d) (pc := 80) (cks_at k_M_weighs 47 rfl rfl) fo_M_547 so_78 rfl po_12_58 (fun M3 => ?_)
  refine tq_iconst (E := E_M_weighs d) (pc := 83) (cks_at k_M_weighs 48 rfl rfl) ?_
  refine tq_istore (E := E_M_weighs d) (pc := 84) (cks_at k_M_weighs 49 rfl rfl) (show 4 < 5 by decide) rfl ?_
  exact tq_sub [1, 2, 0] rfl (w_M_weighs_L86 d FU (v1, 0, M3))
def f_M_weighs (v1 : Int) (M : Mm) : Option (Mm) :=
  f_M_weighs_L7 (fun v1 v2 v3 M1 => if i32 (M1 78 57) < i32 v2 then
        some M1
      else
        if ¬ i32 v2 = i32 (M1 78 57) then
          f_M_weighs_J73 v1 v2 v3 M1
        else
          if i32 v3 < i32 (M1 78 58) then
            f_M_weighs_J73 v1 v2 v3 M1
          else
            some M1) FU (v1, 0, 0, 0, M)
set_option maxRecDepth 20000 in
set_option maxHeartbeats 4000000 in
theorem c_M_weighs (d : Nat) (v1 : Int) (M : Mm) (Q : Option Value → Mm → Prop) (h : sat injV (f_M_weighs v1 M) Q) : Ct (d + 1) y_M_weighs [.ref 78, vI v1] M Q := by
  refine ct_in (d := d + 0) mk_M_weighs (Nat.le_of_ble_eq_true rfl) (?_ : T (E_M_weighs d) injV 0 [(0, .ref 78), (1, vI v1)] [] M (f_M_weighs v1 M)) h
  unfold f_M_weighs
  refine tq_iconst (E := E_M_weighs d) (pc := 0) (cks_at k_M_weighs 0 rfl rfl) ?_
  refine tq_istore_n (E := E_M_weighs d) (pc := 1) (cks_at k_M_weighs 1 rfl rfl) (show 2 < 5 by decide) rfl ?_
  refine tq_iconst (E := E_M_weighs d) (pc := 2) (cks_at k_M_weighs 2 rfl rfl) ?_
  refine tq_istore_n (E := E_M_weighs d) (pc := 3) (cks_at k_M_weighs 3 rfl rfl) (show 3 < 5 by decide) rfl ?_
  refine tq_iconst (E := E_M_weighs d) (pc := 4) (cks_at k_M_weighs 4 rfl rfl) ?_
  refine tq_istore (E := E_M_weighs d) (pc := 5) (cks_at k_M_weighs 5 rfl rfl) (show 4 < 5 by decide) rfl ?_
  exact tq_sub [3, 4, 2, 1, 0] rfl (w_M_weighs_L7 d _ (fun v1 v2 v3 M1 => by
      refine tq_iload_n 2 (E := E_M_weighs d) (pc := 48) (cks_at k_M_weighs 29 rfl rfl) rfl ?_
      refine tq_aload_n 0 (E := E_M_weighs d) (pc := 49) (cks_at k_M_weighs 30 rfl rfl) rfl ?_
      refine tq_getI (E := E_M_weighs d) (pc := 50) (cks_at k_M_weighs 31 rfl rfl) fo_M_544 so_78 rfl (by decide) ?_
      refine tq_icmp_gt (E := E_M_weighs d) (pc := 53) (tgt := 72) (cks_at k_M_weighs 32 rfl rfl) (by decide) ?_ ?_
      · exact tq_vret (E := E_M_weighs d) (pc := 72) (cks_at k_M_weighs 41 rfl rfl) rfl
      · refine tq_iload_n 2 (E := E_M_weighs d) (pc := 56) (cks_at k_M_weighs 33 rfl rfl) rfl ?_
        refine tq_aload_n 0 (E := E_M_weighs d) (pc := 57) (cks_at k_M_weighs 34 rfl rfl) rfl ?_
        refine tq_getI (E := E_M_weighs d) (pc := 58) (cks_at k_M_weighs 35 rfl rfl) fo_M_544 so_78 rfl (by decide) ?_
        refine tq_icmp_ne (E := E_M_weighs d) (pc := 61) (tgt := 73) (cks_at k_M_weighs 36 rfl rfl) (by decide) ?_ ?_
        · exact tq_sub [0, 1, 2, 3] rfl (w_M_weighs_J73 d v1 v2 v3 M1)
        · refine tq_iload_n 3 (E := E_M_weighs d) (pc := 64) (cks_at k_M_weighs 37 rfl rfl) rfl ?_
          refine tq_aload_n 0 (E := E_M_weighs d) (pc := 65) (cks_at k_M_weighs 38 rfl rfl) rfl ?_
          refine tq_getI (E := E_M_weighs d) (pc := 66) (cks_at k_M_weighs 39 rfl rfl) fo_M_547 so_78 rfl (by decide) ?_
          refine tq_icmp_lt (E := E_M_weighs d) (pc := 69) (tgt := 73) (cks_at k_M_weighs 40 rfl rfl) (by decide) ?_ ?_
          · exact tq_sub [0, 1, 2, 3] rfl (w_M_weighs_J73 d v1 v2 v3 M1)
          · exact tq_vret (E := E_M_weighs d) (pc := 72) (cks_at k_M_weighs 41 rfl rfl) rfl) FU (v1, 0, 0, 0, M))
abbrev E_M_rows (d : Nat) : Ev := (Ct (d + 14), "BreathTownModel", prog_14_method_95_code, 5, False, 0, (fun _ => 0), (Option.some Jvm.ClassFile.FieldType.int))
def f_M_rows_B58 (kH : Int → Int → Int → Int → Mm → Option (Int × Mm)) (kx74 : Int → Int → Int → Mm → Option (Int × Mm)) (v1 v2 v3 v4 : Int) (M : Mm) : Option (Int × Mm) :=
  if i32 v1 ≤ i32 v4 then
    kx74 v1 v2 v3 M
  else
    kH v1 v2 (v3 * v1) (v4 + 1) M
set_option maxRecDepth 20000 in
set_option maxHeartbeats 4000000 in
theorem w_M_rows_B58 (d : Nat) (kH : Int → Int → Int → Int → Mm → Option (Int × Mm)) (kx74 : Int → Int → Int → Mm → Option (Int × Mm)) (hkH : ∀ (v1 v2 v3 v4 : Int) (M : Mm), T (E_M_rows d) injI 58 [(0, .ref 78), (1, vI v1), (2, vI v2), (3, vI v3), (4, vI v4)] [] M (kH v1 v2 v3 v4 M)) (hkx74 : ∀ (v1 v2 v3 : Int) (M : Mm), T (E_M_rows d) injI 74 [(0, .ref 78), (1, vI v1), (2, vI v2), (3, vI v3)] [] M (kx74 v1 v2 v3 M)) (v1 v2 v3 v4 : Int) (M : Mm) : T (E_M_rows d) injI 58 [(0, .ref 78), (1, vI v1), (2, vI v2), (3, vI v3), (4, vI v4)] [] M (f_M_rows_B58 kH kx74 v1 v2 v3 v4 M) := by
  unfold f_M_rows_B58
  refine tq_iload 4 (E := E_M_rows d) (pc := 58) (cks_at k_M_rows 34 rfl rfl) rfl ?_
  refine tq_iload_n 1 (E := E_M_rows d) (pc := 60) (cks_at k_M_rows 35 rfl rfl) rfl ?_
  refine tq_icmp_ge (E := E_M_rows d) (pc := 61) (tgt := 74) (cks_at k_M_rows 36 rfl rfl) (by decide) ?_ ?_
  · exact tq_sub [0, 1, 2, 3] rfl (hkx74 v1 v2 v3 M)
  · refine tq_iload_n 3 (E := E_M_rows d) (pc := 64) (cks_at k_M_rows 37 rfl rfl) rfl ?_
    refine tq_iload_n 1 (E := E_M_rows d) (pc := 65) (cks_at k_M_rows 38 rfl rfl) rfl ?_
    refine tq_imul (E := E_M_rows d) (pc := 66) (cks_at k_M_rows 39 rfl rfl) ?_
    refine tq_istore_n (E := E_M_rows d) (pc := 67) (cks_at k_M_rows 40 rfl rfl) (show 3 < 5 by decide) rfl ?_
    refine tq_iinc 4 (E := E_M_rows d) (pc := 68) (cks_at k_M_rows 41 rfl rfl) rfl (show 4 < 5 by decide) rfl ?_
    refine tq_goto (tgt := 58) (E := E_M_rows d) (pc := 71) (cks_at k_M_rows 42 rfl rfl) (by decide) ?_
    exact tq_sub [2, 3, 4, 1, 0] rfl (hkH v1 v2 (v3 * v1) (v4 + 1) M)
def f_M_rows_L58 (kx74 : Int → Int → Int → Mm → Option (Int × Mm)) : Nat → Int × Int × Int × Int × Mm → Option (Int × Mm) := lp fun kH s => f_M_rows_B58 (fun v1 v2 v3 v4 M => kH (v1, v2, v3, v4, M)) kx74 s.1 s.2.1 s.2.2.1 s.2.2.2.1 s.2.2.2.2
set_option maxRecDepth 20000 in
set_option maxHeartbeats 4000000 in
theorem w_M_rows_L58 (d : Nat) (kx74 : Int → Int → Int → Mm → Option (Int × Mm)) (hkx74 : ∀ (v1 v2 v3 : Int) (M : Mm), T (E_M_rows d) injI 74 [(0, .ref 78), (1, vI v1), (2, vI v2), (3, vI v3)] [] M (kx74 v1 v2 v3 M)) (n : Nat) (s : Int × Int × Int × Int × Mm) : T (E_M_rows d) injI 58 [(0, .ref 78), (1, vI s.1), (2, vI s.2.1), (3, vI s.2.2.1), (4, vI s.2.2.2.1)] [] s.2.2.2.2 (f_M_rows_L58 kx74 n s) :=
  tq_lp (fun s => [(0, .ref 78), (1, vI s.1), (2, vI s.2.1), (3, vI s.2.2.1), (4, vI s.2.2.2.1)]) (fun s => s.2.2.2.2) (fun kH hH s => w_M_rows_B58 d (fun v1 v2 v3 v4 M => kH (v1, v2, v3, v4, M)) kx74 (fun v1 v2 v3 v4 M => hH (v1, v2, v3, v4, M)) hkx74 s.1 s.2.1 s.2.2.1 s.2.2.2.1 s.2.2.2.2) n s
def f_M_rows_B89 (kH : Int → Int → Int → Int → Mm → Option (Int × Mm)) (kx124 : Int → Mm → Option (Int × Mm)) (v1 v2 v3 v4 : Int) (M : Mm) : Option (Int × Mm) :=
  if i32 v3 ≤ i32 v4 then
    kx124 v2 M
  else
    bI (f_M_isOrder v4 v1 M) (fun r11 M10 =>
    if i32 r11 = 0 then
      kH v1 v2 v3 (v4 + 1) M10
    else
      bI (f_M_allGo v1 M10) (fun r13 M12 =>
      if i32 r13 = 0 then
        kH v1 v2 v3 (v4 + 1) M12
      else
        bV (f_M_weighs v1 M12) (fun M14 =>
        kH v1 v2 v3 (v4 + 1) M14)))
set_option maxRecDepth 20000 in
set_option maxHeartbeats 4000000 in
theorem w_M_rows_B89 (d : Nat) (kH : Int → Int → Int → Int → Mm → Option (Int × Mm)) (kx124 : Int → Mm → Option (Int × Mm)) (hkH : ∀ (v1 v2 v3 v4 : Int) (M : Mm), T (E_M_rows d) injI 89 [(0, .ref 78), (1, vI v1), (2, vI v2), (3, vI v3), (4, vI v4)] [] M (kH v1 v2 v3 v4 M)) (hkx124 : ∀ (v2 : Int) (M : Mm), T (E_M_rows d) injI 124 [(0, .ref 78), (2, vI v2)] [] M (kx124 v2 M)) (v1 v2 v3 v4 : Int) (M : Mm) : T (E_M_rows d) injI 89 [(0, .ref 78), (1, vI v1), (2, vI v2), (3, vI v3), (4, vI v4)] [] M (f_M_rows_B89 kH kx124 v1 v2 v3 v4 M) := by
  unfold f_M_rows_B89
  refine tq_iload 4 (E := E_M_rows d) (pc := 89) (cks_at k_M_rows 51 rfl rfl) rfl ?_
  refine tq_iload_n 3 (E := E_M_rows d) (pc := 91) (cks_at k_M_rows 52 rfl rfl) rfl ?_
  refine tq_icmp_ge (E := E_M_rows d) (pc := 92) (tgt := 124) (cks_at k_M_rows 53 rfl rfl) (by decide) ?_ ?_
  · exact tq_sub [0, 2] rfl (hkx124 v2 M)
  · refine tq_aload_n 0 (E := E_M_rows d) (pc := 95) (cks_at k_M_rows 54 rfl rfl) rfl ?_
    refine tq_iload 4 (E := E_M_rows d) (pc := 96) (cks_at k_M_rows 55 rfl rfl) rfl ?_
    refine tq_iload_n 1 (E := E_M_rows d) (pc := 98) (cks_at k_M_rows 56 rfl rfl) rfl ?_
    refine tq_V2 (E := E_M_rows d) (pc := 99) (cks_at k_M_rows 57 rfl rfl) mk_M_isOrder lk_M_554 rc_78 (Nat.le_of_ble_eq_true rfl) (c_M_isOrder (d + 13) v4 v1 M) (k_I fun r11 M10 => ?_)
    refine tq_if_eq (E := E_M_rows d) (pc := 102) (tgt := 118) (cks_at k_M_rows 58 rfl rfl) (by decide) ?_ ?_
    · refine tq_iinc 4 (E := E_M_rows d) (pc := 118) (cks_at k_M_rows 66 rfl rfl) rfl (show 4 < 5 by decide) rfl ?_
      refine tq_goto (tgt := 89) (E := E_M_rows d) (pc := 121) (cks_at k_M_rows 67 rfl rfl) (by decide) ?_
      exact tq_sub [1, 2, 3, 4, 0] rfl (hkH v1 v2 v3 (v4 + 1) M10)
    · refine tq_aload_n 0 (E := E_M_rows d) (pc := 105) (cks_at k_M_rows 59 rfl rfl) rfl ?_
      refine tq_iload_n 1 (E := E_M_rows d) (pc := 106) (cks_at k_M_rows 60 rfl rfl) rfl ?_
      refine tq_V1 (E := E_M_rows d) (pc := 107) (cks_at k_M_rows 61 rfl rfl) mk_M_allGo lk_M_558 rc_78 (Nat.le_of_ble_eq_true rfl) (c_M_allGo (d + 0) v1 M10) (k_I fun r13 M12 => ?_)
      refine tq_if_eq (E := E_M_rows d) (pc := 110) (tgt := 118) (cks_at k_M_rows 62 rfl rfl) (by decide) ?_ ?_
      · refine tq_iinc 4 (E := E_M_rows d) (pc := 118) (cks_at k_M_rows 66 rfl rfl) rfl (show 4 < 5 by decide) rfl ?_
        refine tq_goto (tgt := 89) (E := E_M_rows d) (pc := 121) (cks_at k_M_rows 67 rfl rfl) (by decide) ?_
        exact tq_sub [1, 2, 3, 4, 0] rfl (hkH v1 v2 v3 (v4 + 1) M12)
      · refine tq_aload_n 0 (E := E_M_rows d) (pc := 113) (cks_at k_M_rows 63 rfl rfl) rfl ?_
        refine tq_iload_n 1 (E := E_M_rows d) (pc := 114) (cks_at k_M_rows 64 rfl rfl) rfl ?_
        refine tq_V1 (E := E_M_rows d) (pc := 115) (cks_at k_M_rows 65 rfl rfl) mk_M_weighs lk_M_561 rc_78 (Nat.le_of_ble_eq_true rfl) (c_M_weighs (d + 13) v1 M12) (k_V fun M14 => ?_)
        refine tq_iinc 4 (E := E_M_rows d) (pc := 118) (cks_at k_M_rows 66 rfl rfl) rfl (show 4 < 5 by decide) rfl ?_
        refine tq_goto (tgt := 89) (E := E_M_rows d) (pc := 121) (cks_at k_M_rows 67 rfl rfl) (by decide) ?_
        exact tq_sub [1, 2, 3, 4, 0] rfl (hkH v1 v2 v3 (v4 + 1) M14)
def f_M_rows_L89 (kx124 : Int → Mm → Option (Int × Mm)) : Nat → Int × Int × Int × Int × Mm → Option (Int × Mm) := lp fun kH s => f_M_rows_B89 (fun v1 v2 v3 v4 M => kH (v1, v2, v3, v4, M)) kx124 s.1 s.2.1 s.2.2.1 s.2.2.2.1 s.2.2.2.2
set_option maxRecDepth 20000 in
set_option maxHeartbeats 4000000 in
theorem w_M_rows_L89 (d : Nat) (kx124 : Int → Mm → Option (Int × Mm)) (hkx124 : ∀ (v2 : Int) (M : Mm), T (E_M_rows d) injI 124 [(0, .ref 78), (2, vI v2)] [] M (kx124 v2 M)) (n : Nat) (s : Int × Int × Int × Int × Mm) : T (E_M_rows d) injI 89 [(0, .ref 78), (1, vI s.1), (2, vI s.2.1), (3, vI s.2.2.1), (4, vI s.2.2.2.1)] [] s.2.2.2.2 (f_M_rows_L89 kx124 n s) :=
  tq_lp (fun s => [(0, .ref 78), (1, vI s.1), (2, vI s.2.1), (3, vI s.2.2.1), (4, vI s.2.2.2.1)]) (fun s => s.2.2.2.2) (fun kH hH s => w_M_rows_B89 d (fun v1 v2 v3 v4 M => kH (v1, v2, v3, v4, M)) kx124 (fun v1 v2 v3 v4 M => hH (v1, v2, v3, v4, M)) hkx124 s.1 s.2.1 s.2.2.1 s.2.2.2.1 s.2.2.2.2) n s
def f_M_rows (v1 : Int) (v2 : Int) (M : Mm) : Option (Int × Mm) :=
  bI (f_M_isIn (i32 v1) 1 4 M) (fun r2 M1 =>
  if i32 r2 = 0 then
    some ((-1), M1)
  else
    bI (f_M_walkerMany M1) (fun r4 M3 =>
    if i32 r4 < i32 v1 then
      some ((-1), M3)
    else
      bI (f_M_isIn (i32 v2) ((-1)) (i32 (v1 - 1)) M3) (fun r6 M5 =>
      if ¬ i32 r6 = 0 then
        f_M_rows_L58 (fun v1 v2 v3 M7 => bd (up M7 78 57 1000000) (fun M8 =>
            bd (up M8 78 58 0) (fun M9 =>
            f_M_rows_L89 (fun v2 M15 => bd (up M15 78 47 0) (fun M16 =>
                if ¬ i32 (M16 78 57) = i32 1000000 then
                  if ¬ i32 v2 = i32 ((-1)) then
                    if i32 10 ≤ i32 v2 then
                      gd (0 ≤ i32 (v2 - 10) ∧ i32 (v2 - 10) < ((4 : Nat) : Int)) <|
                      some (M16 117 (i32 (v2 - 10)).toNat, M16)
                    else
                      gd (0 ≤ i32 v2 ∧ i32 v2 < ((4 : Nat) : Int)) <|
                      some (M16 115 (i32 v2).toNat, M16)
                  else
                    some (M16 78 57, M16)
                else
                  some ((-1), M16))) FU (v1, v2, v3, 0, M9)))) FU (v1, v2, 1, 0, M5)
      else
        bI (f_M_isIn (i32 v2) 10 (i32 (v1 + 9)) M5) (fun r18 M17 =>
        if ¬ i32 r18 = 0 then
          f_M_rows_L58 (fun v1 v2 v3 M19 => bd (up M19 78 57 1000000) (fun M20 =>
              bd (up M20 78 58 0) (fun M21 =>
              f_M_rows_L89 (fun v2 M22 => bd (up M22 78 47 0) (fun M23 =>
                  if ¬ i32 (M23 78 57) = i32 1000000 then
                    if ¬ i32 v2 = i32 ((-1)) then
                      if i32 10 ≤ i32 v2 then
                        gd (0 ≤ i32 (v2 - 10) ∧ i32 (v2 - 10) < ((4 : Nat) : Int)) <|
                        some (M23 117 (i32 (v2 - 10)).toNat, M23)
                      else
                        gd (0 ≤ i32 v2 ∧ i32 v2 < ((4 : Nat) : Int)) <|
                        some (M23 115 (i32 v2).toNat, M23)
                    else
                      some (M23 78 57, M23)
                  else
                    some ((-1), M23))) FU (v1, v2, v3, 0, M21)))) FU (v1, v2, 1, 0, M17)
        else
          some ((-1), M17)))))
set_option maxRecDepth 20000 in
set_option maxHeartbeats 4000000 in
theorem c_M_rows (d : Nat) (v1 : Int) (v2 : Int) (M : Mm) (Q : Option Value → Mm → Prop) (h : sat injI (f_M_rows v1 v2 M) Q) : Ct (d + 15) y_M_rows [.ref 78, vI v1, vI v2] M Q := by
  refine ct_in (d := d + 14) mk_M_rows (Nat.le_of_ble_eq_true rfl) (?_ : T (E_M_rows d) injI 0 [(0, .ref 78), (1, vI v1), (2, vI v2)] [] M (f_M_rows v1 v2 M)) h
  unfold f_M_rows
  refine tq_iload_n 1 (E := E_M_rows d) (pc := 0) (cks_at k_M_rows 0 rfl rfl) rfl ?_
  refine tq_i2l (E := E_M_rows d) (pc := 1) (cks_at k_M_rows 1 rfl rfl) ?_
  refine tq_lconst1 (E := E_M_rows d) (pc := 2) (cks_at k_M_rows 2 rfl rfl) ?_
  refine tq_ldc2 (z := 4) (E := E_M_rows d) (pc := 3) (cks_at k_M_rows 3 rfl rfl) cst_M_550 ?_
  refine tq_S3 (E := E_M_rows d) (pc := 6) (cks_at k_M_rows 4 rfl rfl) mk_M_isIn lk_M_265 (Nat.le_of_ble_eq_true rfl) (c_M_isIn (d + 13) (i32 v1) 1 4 M) (k_I fun r2 M1 => ?_)
  refine tq_if_eq (E := E_M_rows d) (pc := 9) (tgt := 51) (cks_at k_M_rows 5 rfl rfl) (by decide) ?_ ?_
  · refine tq_iconst (E := E_M_rows d) (pc := 51) (cks_at k_M_rows 28 rfl rfl) ?_
    exact tq_iret (E := E_M_rows d) (pc := 52) (cks_at k_M_rows 29 rfl rfl) rfl
  · refine tq_iload_n 1 (E := E_M_rows d) (pc := 12) (cks_at k_M_rows 6 rfl rfl) rfl ?_
    refine tq_aload_n 0 (E := E_M_rows d) (pc := 13) (cks_at k_M_rows 7 rfl rfl) rfl ?_
    refine tq_V0 (E := E_M_rows d) (pc := 14) (cks_at k_M_rows 8 rfl rfl) mk_M_walkerMany lk_M_415 rc_78 (Nat.le_of_ble_eq_true rfl) (c_M_walkerMany (d + 13) M1) (k_I fun r4 M3 => ?_)
    refine tq_icmp_gt (E := E_M_rows d) (pc := 17) (tgt := 51) (cks_at k_M_rows 9 rfl rfl) (by decide) ?_ ?_
    · refine tq_iconst (E := E_M_rows d) (pc := 51) (cks_at k_M_rows 28 rfl rfl) ?_
      exact tq_iret (E := E_M_rows d) (pc := 52) (cks_at k_M_rows 29 rfl rfl) rfl
    · refine tq_iload_n 2 (E := E_M_rows d) (pc := 20) (cks_at k_M_rows 10 rfl rfl) rfl ?_
      refine tq_i2l (E := E_M_rows d) (pc := 21) (cks_at k_M_rows 11 rfl rfl) ?_
      refine tq_ldc2 (z := (-1)) (E := E_M_rows d) (pc := 22) (cks_at k_M_rows 12 rfl rfl) cst_M_552 ?_
      refine tq_iload_n 1 (E := E_M_rows d) (pc := 25) (cks_at k_M_rows 13 rfl rfl) rfl ?_
      refine tq_iconst (E := E_M_rows d) (pc := 26) (cks_at k_M_rows 14 rfl rfl) ?_
      refine tq_isub (E := E_M_rows d) (pc := 27) (cks_at k_M_rows 15 rfl rfl) ?_
      refine tq_i2l (E := E_M_rows d) (pc := 28) (cks_at k_M_rows 16 rfl rfl) ?_
      refine tq_S3 (E := E_M_rows d) (pc := 29) (cks_at k_M_rows 17 rfl rfl) mk_M_isIn lk_M_265 (Nat.le_of_ble_eq_true rfl) (c_M_isIn (d + 13) (i32 v2) ((-1)) (i32 (v1 - 1)) M3) (k_I fun r6 M5 => ?_)
      refine tq_if_ne (E := E_M_rows d) (pc := 32) (tgt := 53) (cks_at k_M_rows 18 rfl rfl) (by decide) ?_ ?_
      · refine tq_iconst (E := E_M_rows d) (pc := 53) (cks_at k_M_rows 30 rfl rfl) ?_
        refine tq_istore_n (E := E_M_rows d) (pc := 54) (cks_at k_M_rows 31 rfl rfl) (show 3 < 5 by decide) rfl ?_
        refine tq_iconst (E := E_M_rows d) (pc := 55) (cks_at k_M_rows 32 rfl rfl) ?_
        refine tq_istore (E := E_M_rows d) (pc := 56) (cks_at k_M_rows 33 rfl rfl) (show 4 < 5 by decide) rfl ?_
        exact tq_sub [2, 3, 4, 1, 0] rfl (w_M_rows_L58 d _ (fun v1 v2 v3 M7 => by
            refine tq_aload_n 0 (E := E_M_rows d) (pc := 74) (cks_at k_M_rows 43 rfl rfl) rfl ?_
            refine tq_ldcw (z := 1000000) (E := E_M_rows d) (pc := 75) (cks_at k_M_rows 44 rfl rfl) cst_M_459 ?_
            refine tq_putI (E := E_M_rows d) (pc := 78) (cks_at k_M_rows 45 rfl rfl) fo_M_544 so_78 rfl po_12_57 (fun M8 => ?_)
            refine tq_aload_n 0 (E := E_M_rows d) (pc := 81) (cks_at k_M_rows 46 rfl rfl) rfl ?_
            refine tq_iconst (E := E_M_rows d) (pc := 82) (cks_at k_M_rows 47 rfl rfl) ?_
            refine tq_putI (E := E_M_rows d) (pc := 83) (cks_at k_M_rows 48 rfl rfl) fo_M_547 so_78 rfl po_12_58 (fun M9 => ?_)
            refine tq_iconst (E := E_M_rows d) (pc := 86) (cks_at k_M_rows 49 rfl rfl) ?_
            refine tq_istore (E := E_M_rows d) (pc := 87) (cks_at k_M_rows 50 rfl rfl) (show 4 < 5 by decide) rfl ?_
            exact tq_sub [1, 2, 3, 4, 0] rfl (w_M_rows_L89 d _ (fun v2 M15 => by
                refine tq_aload_n 0 (E := E_M_rows d) (pc := 124) (cks_at k_M_rows 68 rfl rfl) rfl ?_
                refine tq_iconst (E := E_M_rows d) (pc := 125) (cks_at k_M_rows 69 rfl rfl) ?_
                refine tq_putI (E := E_M_rows d) (pc := 126) (cks_at k_M_rows 70 rfl rfl) fo_M_447 so_78 rfl po_12_47 (fun M16 => ?_)
                refine tq_aload_n 0 (E := E_M_rows d) (pc := 129) (cks_at k_M_rows 71 rfl rfl) rfl ?_
                refine tq_getI (E := E_M_rows d) (pc := 130) (cks_at k_M_rows 72 rfl rfl) fo_M_544 so_78 rfl (by decide) ?_
                refine tq_ldcw (z := 1000000) (E := E_M_rows d) (pc := 133) (cks_at k_M_rows 73 rfl rfl) cst_M_459 ?_
                refine tq_icmp_ne (E := E_M_rows d) (pc := 136) (tgt := 141) (cks_at k_M_rows 74 rfl rfl) (by decide) ?_ ?_
                · refine tq_iload_n 1 (E := E_M_rows d) (pc := 141) (cks_at k_M_rows 77 rfl rfl) rfl ?_
                  refine tq_iconst (E := E_M_rows d) (pc := 142) (cks_at k_M_rows 78 rfl rfl) ?_
                  refine tq_icmp_ne (E := E_M_rows d) (pc := 143) (tgt := 153) (cks_at k_M_rows 79 rfl rfl) (by decide) ?_ ?_
                  · refine tq_iload_n 1 (E := E_M_rows d) (pc := 153) (cks_at k_M_rows 83 rfl rfl) rfl ?_
                    refine tq_bipush (E := E_M_rows d) (pc := 154) (cks_at k_M_rows 84 rfl rfl) (by decide) (by decide) ?_
                    refine tq_icmp_ge (E := E_M_rows d) (pc := 156) (tgt := 168) (cks_at k_M_rows 85 rfl rfl) (by decide) ?_ ?_
                    · refine tq_aload_n 0 (E := E_M_rows d) (pc := 168) (cks_at k_M_rows 91 rfl rfl) rfl ?_
                      refine tq_getR (j := 117) (E := E_M_rows d) (pc := 169) (cks_at k_M_rows 92 rfl rfl) fo_M_130 so_78 rfl sp_78_56 ?_
                      refine tq_iload_n 1 (E := E_M_rows d) (pc := 172) (cks_at k_M_rows 93 rfl rfl) rfl ?_
                      refine tq_bipush (E := E_M_rows d) (pc := 173) (cks_at k_M_rows 94 rfl rfl) (by decide) (by decide) ?_
                      refine tq_isub (E := E_M_rows d) (pc := 175) (cks_at k_M_rows 95 rfl rfl) ?_
                      refine tq_iald (E := E_M_rows d) (pc := 176) (cks_at k_M_rows 96 rfl rfl) sa_117 sn_117 ?_
                      exact tq_iret (E := E_M_rows d) (pc := 177) (cks_at k_M_rows 97 rfl rfl) rfl
                    · refine tq_aload_n 0 (E := E_M_rows d) (pc := 159) (cks_at k_M_rows 86 rfl rfl) rfl ?_
                      refine tq_getR (j := 115) (E := E_M_rows d) (pc := 160) (cks_at k_M_rows 87 rfl rfl) fo_M_124 so_78 rfl sp_78_54 ?_
                      refine tq_iload_n 1 (E := E_M_rows d) (pc := 163) (cks_at k_M_rows 88 rfl rfl) rfl ?_
                      refine tq_iald (E := E_M_rows d) (pc := 164) (cks_at k_M_rows 89 rfl rfl) sa_115 sn_115 ?_
                      refine tq_goto (tgt := 177) (E := E_M_rows d) (pc := 165) (cks_at k_M_rows 90 rfl rfl) (by decide) ?_
                      exact tq_iret (E := E_M_rows d) (pc := 177) (cks_at k_M_rows 97 rfl rfl) rfl
                  · refine tq_aload_n 0 (E := E_M_rows d) (pc := 146) (cks_at k_M_rows 80 rfl rfl) rfl ?_
                    refine tq_getI (E := E_M_rows d) (pc := 147) (cks_at k_M_rows 81 rfl rfl) fo_M_544 so_78 rfl (by decide) ?_
                    refine tq_goto (tgt := 177) (E := E_M_rows d) (pc := 150) (cks_at k_M_rows 82 rfl rfl) (by decide) ?_
                    exact tq_iret (E := E_M_rows d) (pc := 177) (cks_at k_M_rows 97 rfl rfl) rfl
                · refine tq_iconst (E := E_M_rows d) (pc := 139) (cks_at k_M_rows 75 rfl rfl) ?_
                  exact tq_iret (E := E_M_rows d) (pc := 140) (cks_at k_M_rows 76 rfl rfl) rfl) FU (v1, v2, v3, 0, M9))) FU (v1, v2, 1, 0, M5))
      · refine tq_iload_n 2 (E := E_M_rows d) (pc := 35) (cks_at k_M_rows 19 rfl rfl) rfl ?_
        refine tq_i2l (E := E_M_rows d) (pc := 36) (cks_at k_M_rows 20 rfl rfl) ?_
        refine tq_ldc2 (z := 10) (E := E_M_rows d) (pc := 37) (cks_at k_M_rows 21 rfl rfl) cst_M_404 ?_
        refine tq_iload_n 1 (E := E_M_rows d) (pc := 40) (cks_at k_M_rows 22 rfl rfl) rfl ?_
        refine tq_bipush (E := E_M_rows d) (pc := 41) (cks_at k_M_rows 23 rfl rfl) (by decide) (by decide) ?_
        refine tq_iadd (E := E_M_rows d) (pc := 43) (cks_at k_M_rows 24 rfl rfl) ?_
        refine tq_i2l (E := E_M_rows d) (pc := 44) (cks_at k_M_rows 25 rfl rfl) ?_
        refine tq_S3 (E := E_M_rows d) (pc := 45) (cks_at k_M_rows 26 rfl rfl) mk_M_isIn lk_M_265 (Nat.le_of_ble_eq_true rfl) (c_M_isIn (d + 13) (i32 v2) 10 (i32 (v1 + 9)) M5) (k_I fun r18 M17 => ?_)
        refine tq_if_ne (E := E_M_rows d) (pc := 48) (tgt := 53) (cks_at k_M_rows 27 rfl rfl) (by decide) ?_ ?_
        · refine tq_iconst (E := E_M_rows d) (pc := 53) (cks_at k_M_rows 30 rfl rfl) ?_
          refine tq_istore_n (E := E_M_rows d) (pc := 54) (cks_at k_M_rows 31 rfl rfl) (show 3 < 5 by decide) rfl ?_
          refine tq_iconst (E := E_M_rows d) (pc := 55) (cks_at k_M_rows 32 rfl rfl) ?_
          refine tq_istore (E := E_M_rows d) (pc := 56) (cks_at k_M_rows 33 rfl rfl) (show 4 < 5 by decide) rfl ?_
          exact tq_sub [2, 3, 4, 1, 0] rfl (w_M_rows_L58 d _ (fun v1 v2 v3 M19 => by
              refine tq_aload_n 0 (E := E_M_rows d) (pc := 74) (cks_at k_M_rows 43 rfl rfl) rfl ?_
              refine tq_ldcw (z := 1000000) (E := E_M_rows d) (pc := 75) (cks_at k_M_rows 44 rfl rfl) cst_M_459 ?_
              refine tq_putI (E := E_M_rows d) (pc := 78) (cks_at k_M_rows 45 rfl rfl) fo_M_544 so_78 rfl po_12_57 (fun M20 => ?_)
              refine tq_aload_n 0 (E := E_M_rows d) (pc := 81) (cks_at k_M_rows 46 rfl rfl) rfl ?_
              refine tq_iconst (E := E_M_rows d) (pc := 82) (cks_at k_M_rows 47 rfl rfl) ?_
              refine tq_putI (E := E_M_rows d) (pc := 83) (cks_at k_M_rows 48 rfl rfl) fo_M_547 so_78 rfl po_12_58 (fun M21 => ?_)
              refine tq_iconst (E := E_M_rows d) (pc := 86) (cks_at k_M_rows 49 rfl rfl) ?_
              refine tq_istore (E := E_M_rows d) (pc := 87) (cks_at k_M_rows 50 rfl rfl) (show 4 < 5 by decide) rfl ?_
              exact tq_sub [1, 2, 3, 4, 0] rfl (w_M_rows_L89 d _ (fun v2 M22 => by
                  refine tq_aload_n 0 (E := E_M_rows d) (pc := 124) (cks_at k_M_rows 68 rfl rfl) rfl ?_
                  refine tq_iconst (E := E_M_rows d) (pc := 125) (cks_at k_M_rows 69 rfl rfl) ?_
                  refine tq_putI (E := E_M_rows d) (pc := 126) (cks_at k_M_rows 70 rfl rfl) fo_M_447 so_78 rfl po_12_47 (fun M23 => ?_)
                  refine tq_aload_n 0 (E := E_M_rows d) (pc := 129) (cks_at k_M_rows 71 rfl rfl) rfl ?_
                  refine tq_getI (E := E_M_rows d) (pc := 130) (cks_at k_M_rows 72 rfl rfl) fo_M_544 so_78 rfl (by decide) ?_
                  refine tq_ldcw (z := 1000000) (E := E_M_rows d) (pc := 133) (cks_at k_M_rows 73 rfl rfl) cst_M_459 ?_
                  refine tq_icmp_ne (E := E_M_rows d) (pc := 136) (tgt := 141) (cks_at k_M_rows 74 rfl rfl) (by decide) ?_ ?_
                  · refine tq_iload_n 1 (E := E_M_rows d) (pc := 141) (cks_at k_M_rows 77 rfl rfl) rfl ?_
                    refine tq_iconst (E := E_M_rows d) (pc := 142) (cks_at k_M_rows 78 rfl rfl) ?_
                    refine tq_icmp_ne (E := E_M_rows d) (pc := 143) (tgt := 153) (cks_at k_M_rows 79 rfl rfl) (by decide) ?_ ?_
                    · refine tq_iload_n 1 (E := E_M_rows d) (pc := 153) (cks_at k_M_rows 83 rfl rfl) rfl ?_
                      refine tq_bipush (E := E_M_rows d) (pc := 154) (cks_at k_M_rows 84 rfl rfl) (by decide) (by decide) ?_
                      refine tq_icmp_ge (E := E_M_rows d) (pc := 156) (tgt := 168) (cks_at k_M_rows 85 rfl rfl) (by decide) ?_ ?_
                      · refine tq_aload_n 0 (E := E_M_rows d) (pc := 168) (cks_at k_M_rows 91 rfl rfl) rfl ?_
                        refine tq_getR (j := 117) (E := E_M_rows d) (pc := 169) (cks_at k_M_rows 92 rfl rfl) fo_M_130 so_78 rfl sp_78_56 ?_
                        refine tq_iload_n 1 (E := E_M_rows d) (pc := 172) (cks_at k_M_rows 93 rfl rfl) rfl ?_
                        refine tq_bipush (E := E_M_rows d) (pc := 173) (cks_at k_M_rows 94 rfl rfl) (by decide) (by decide) ?_
                        refine tq_isub (E := E_M_rows d) (pc := 175) (cks_at k_M_rows 95 rfl rfl) ?_
                        refine tq_iald (E := E_M_rows d) (pc := 176) (cks_at k_M_rows 96 rfl rfl) sa_117 sn_117 ?_
                        exact tq_iret (E := E_M_rows d) (pc := 177) (cks_at k_M_rows 97 rfl rfl) rfl
                      · refine tq_aload_n 0 (E := E_M_rows d) (pc := 159) (cks_at k_M_rows 86 rfl rfl) rfl ?_
                        refine tq_getR (j := 115) (E := E_M_rows d) (pc := 160) (cks_at k_M_rows 87 rfl rfl) fo_M_124 so_78 rfl sp_78_54 ?_
                        refine tq_iload_n 1 (E := E_M_rows d) (pc := 163) (cks_at k_M_rows 88 rfl rfl) rfl ?_
                        refine tq_iald (E := E_M_rows d) (pc := 164) (cks_at k_M_rows 89 rfl rfl) sa_115 sn_115 ?_
                        refine tq_goto (tgt := 177) (E := E_M_rows d) (pc := 165) (cks_at k_M_rows 90 rfl rfl) (by decide) ?_
                        exact tq_iret (E := E_M_rows d) (pc := 177) (cks_at k_M_rows 97 rfl rfl) rfl
                    · refine tq_aload_n 0 (E := E_M_rows d) (pc := 146) (cks_at k_M_rows 80 rfl rfl) rfl ?_
                      refine tq_getI (E := E_M_rows d) (pc := 147) (cks_at k_M_rows 81 rfl rfl) fo_M_544 so_78 rfl (by decide) ?_
                      refine tq_goto (tgt := 177) (E := E_M_rows d) (pc := 150) (cks_at k_M_rows 82 rfl rfl) (by decide) ?_
                      exact tq_iret (E := E_M_rows d) (pc := 177) (cks_at k_M_rows 97 rfl rfl) rfl
                  · refine tq_iconst (E := E_M_rows d) (pc := 139) (cks_at k_M_rows 75 rfl rfl) ?_
                    exact tq_iret (E := E_M_rows d) (pc := 140) (cks_at k_M_rows 76 rfl rfl) rfl) FU (v1, v2, v3, 0, M21))) FU (v1, v2, 1, 0, M17))
        · refine tq_iconst (E := E_M_rows d) (pc := 51) (cks_at k_M_rows 28 rfl rfl) ?_
          exact tq_iret (E := E_M_rows d) (pc := 52) (cks_at k_M_rows 29 rfl rfl) rfl
abbrev E_Many_isOrder (d : Nat) : Ev := (Ct (d + 1), "BreathTown$Many", prog_3_method_3_code, 7, False, 0, (fun _ => 0), (Option.some Jvm.ClassFile.FieldType.boolean))
def f_Many_isOrder_J41 (kH : Int → Int → Int → Int → Mm → Option (Int × Mm)) (kx67 : Int → Int → Mm → Option (Int × Mm)) (v2 v3 v5 v6 s0 : Int) (M : Mm) : Option (Int × Mm) :=
  bV (f_BT_setCell 58 v5 v6 M) (fun M1 =>
  kH v2 (or32 v3 (shl32 1 v6)) s0 (v5 + (-1)) M1)
set_option maxRecDepth 20000 in
set_option maxHeartbeats 4000000 in
theorem w_Many_isOrder_J41 (d : Nat) (kH : Int → Int → Int → Int → Mm → Option (Int × Mm)) (kx67 : Int → Int → Mm → Option (Int × Mm)) (hkH : ∀ (v2 v3 v4 v5 : Int) (M : Mm), T (E_Many_isOrder d) injI 10 [(0, .ref 55), (2, vI v2), (3, vI v3), (4, vI v4), (5, vI v5)] [] M (kH v2 v3 v4 v5 M)) (hkx67 : ∀ (v2 v3 : Int) (M : Mm), T (E_Many_isOrder d) injI 67 [(2, vI v2), (3, vI v3)] [] M (kx67 v2 v3 M)) (v2 v3 v5 v6 s0 : Int) (M : Mm) : T (E_Many_isOrder d) injI 41 [(0, .ref 55), (2, vI v2), (3, vI v3), (5, vI v5), (6, vI v6)] [vI s0] M (f_Many_isOrder_J41 kH kx67 v2 v3 v5 v6 s0 M) := by
  unfold f_Many_isOrder_J41
  refine tq_istore (E := E_Many_isOrder d) (pc := 41) (cks_at k_Many_isOrder 25 rfl rfl) (show 4 < 7 by decide) rfl ?_
  refine tq_aload_n 1 (E := E_Many_isOrder d) (pc := 43) (cks_at k_Many_isOrder 26 rfl rfl) rfl ?_
  refine tq_getR (j := 58) (E := E_Many_isOrder d) (pc := 44) (cks_at k_Many_isOrder 27 rfl rfl) fo_Many_18 so_55 rfl sp_55_8 ?_
  refine tq_iload 4 (E := E_Many_isOrder d) (pc := 47) (cks_at k_Many_isOrder 28 rfl rfl) rfl ?_
  refine tq_iload 5 (E := E_Many_isOrder d) (pc := 49) (cks_at k_Many_isOrder 29 rfl rfl) rfl ?_
  refine tq_S3 (E := E_Many_isOrder d) (pc := 51) (cks_at k_Many_isOrder 30 rfl rfl) mk_BT_setCell lk_Many_77 (Nat.le_of_ble_eq_true rfl) (c_BT_setCell (d + 0) 58 sa_58 v5 v6 M) (k_V fun M1 => ?_)
  refine tq_iload_n 3 (E := E_Many_isOrder d) (pc := 54) (cks_at k_Many_isOrder 31 rfl rfl) rfl ?_
  refine tq_iconst (E := E_Many_isOrder d) (pc := 55) (cks_at k_Many_isOrder 32 rfl rfl) ?_
  refine tq_iload 5 (E := E_Many_isOrder d) (pc := 56) (cks_at k_Many_isOrder 33 rfl rfl) rfl ?_
  refine tq_ishl (E := E_Many_isOrder d) (pc := 58) (cks_at k_Many_isOrder 34 rfl rfl) ?_
  refine tq_ior (E := E_Many_isOrder d) (pc := 59) (cks_at k_Many_isOrder 35 rfl rfl) ?_
  refine tq_istore_n (E := E_Many_isOrder d) (pc := 60) (cks_at k_Many_isOrder 36 rfl rfl) (show 3 < 7 by decide) rfl ?_
  refine tq_iinc 4 (E := E_Many_isOrder d) (pc := 61) (cks_at k_Many_isOrder 37 rfl rfl) rfl (show 5 < 7 by decide) rfl ?_
  refine tq_goto (tgt := 10) (E := E_Many_isOrder d) (pc := 64) (cks_at k_Many_isOrder 38 rfl rfl) (by decide) ?_
  exact tq_sub [3, 4, 1, 2, 0] rfl (hkH v2 (or32 v3 (shl32 1 v6)) s0 (v5 + (-1)) M1)
def f_Many_isOrder_J27 (kH : Int → Int → Int → Int → Mm → Option (Int × Mm)) (kx67 : Int → Int → Mm → Option (Int × Mm)) (v2 v3 v4 v5 s0 : Int) (M : Mm) : Option (Int × Mm) :=
  if i32 v2 ≤ 0 then
    f_Many_isOrder_J41 kH kx67 v2 v3 v5 s0 0 M
  else
    gd (¬ i32 v2 = 0) <|
    f_Many_isOrder_J41 kH kx67 v2 v3 v5 s0 ((i32 v4).tdiv (i32 v2)) M
set_option maxRecDepth 20000 in
set_option maxHeartbeats 4000000 in
theorem w_Many_isOrder_J27 (d : Nat) (kH : Int → Int → Int → Int → Mm → Option (Int × Mm)) (kx67 : Int → Int → Mm → Option (Int × Mm)) (hkH : ∀ (v2 v3 v4 v5 : Int) (M : Mm), T (E_Many_isOrder d) injI 10 [(0, .ref 55), (2, vI v2), (3, vI v3), (4, vI v4), (5, vI v5)] [] M (kH v2 v3 v4 v5 M)) (hkx67 : ∀ (v2 v3 : Int) (M : Mm), T (E_Many_isOrder d) injI 67 [(2, vI v2), (3, vI v3)] [] M (kx67 v2 v3 M)) (v2 v3 v4 v5 s0 : Int) (M : Mm) : T (E_Many_isOrder d) injI 27 [(0, .ref 55), (2, vI v2), (3, vI v3), (4, vI v4), (5, vI v5)] [vI s0] M (f_Many_isOrder_J27 kH kx67 v2 v3 v4 v5 s0 M) := by
  unfold f_Many_isOrder_J27
  refine tq_istore (E := E_Many_isOrder d) (pc := 27) (cks_at k_Many_isOrder 17 rfl rfl) (show 6 < 7 by decide) rfl ?_
  refine tq_iload_n 2 (E := E_Many_isOrder d) (pc := 29) (cks_at k_Many_isOrder 18 rfl rfl) rfl ?_
  refine tq_if_le (E := E_Many_isOrder d) (pc := 30) (tgt := 40) (cks_at k_Many_isOrder 19 rfl rfl) (by decide) ?_ ?_
  · refine tq_iconst (E := E_Many_isOrder d) (pc := 40) (cks_at k_Many_isOrder 24 rfl rfl) ?_
    exact tq_sub [1, 2, 3, 5, 0] rfl (w_Many_isOrder_J41 d kH kx67 hkH hkx67 v2 v3 v5 s0 0 M)
  · refine tq_iload 4 (E := E_Many_isOrder d) (pc := 33) (cks_at k_Many_isOrder 20 rfl rfl) rfl ?_
    refine tq_iload_n 2 (E := E_Many_isOrder d) (pc := 35) (cks_at k_Many_isOrder 21 rfl rfl) rfl ?_
    refine tq_idiv (E := E_Many_isOrder d) (pc := 36) (cks_at k_Many_isOrder 22 rfl rfl) ?_
    refine tq_goto (tgt := 41) (E := E_Many_isOrder d) (pc := 37) (cks_at k_Many_isOrder 23 rfl rfl) (by decide) ?_
    exact tq_sub [1, 2, 3, 5, 0] rfl (w_Many_isOrder_J41 d kH kx67 hkH hkx67 v2 v3 v5 s0 ((i32 v4).tdiv (i32 v2)) M)
def f_Many_isOrder_B10 (kH : Int → Int → Int → Int → Mm → Option (Int × Mm)) (kx67 : Int → Int → Mm → Option (Int × Mm)) (v2 v3 v4 v5 : Int) (M : Mm) : Option (Int × Mm) :=
  if i32 v5 < 0 then
    kx67 v2 v3 M
  else
    if i32 v2 ≤ 0 then
      f_Many_isOrder_J27 kH kx67 v2 v3 v4 v5 0 M
    else
      gd (¬ i32 v2 = 0) <|
      f_Many_isOrder_J27 kH kx67 v2 v3 v4 v5 ((i32 v4).tmod (i32 v2)) M
set_option maxRecDepth 20000 in
set_option maxHeartbeats 4000000 in
theorem w_Many_isOrder_B10 (d : Nat) (kH : Int → Int → Int → Int → Mm → Option (Int × Mm)) (kx67 : Int → Int → Mm → Option (Int × Mm)) (hkH : ∀ (v2 v3 v4 v5 : Int) (M : Mm), T (E_Many_isOrder d) injI 10 [(0, .ref 55), (2, vI v2), (3, vI v3), (4, vI v4), (5, vI v5)] [] M (kH v2 v3 v4 v5 M)) (hkx67 : ∀ (v2 v3 : Int) (M : Mm), T (E_Many_isOrder d) injI 67 [(2, vI v2), (3, vI v3)] [] M (kx67 v2 v3 M)) (v2 v3 v4 v5 : Int) (M : Mm) : T (E_Many_isOrder d) injI 10 [(0, .ref 55), (2, vI v2), (3, vI v3), (4, vI v4), (5, vI v5)] [] M (f_Many_isOrder_B10 kH kx67 v2 v3 v4 v5 M) := by
  unfold f_Many_isOrder_B10
  refine tq_iload 4 (E := E_Many_isOrder d) (pc := 10) (cks_at k_Many_isOrder 8 rfl rfl) rfl ?_
  refine tq_if_lt (E := E_Many_isOrder d) (pc := 12) (tgt := 67) (cks_at k_Many_isOrder 9 rfl rfl) (by decide) ?_ ?_
  · exact tq_sub [1, 2] rfl (hkx67 v2 v3 M)
  · refine tq_iload_n 1 (E := E_Many_isOrder d) (pc := 15) (cks_at k_Many_isOrder 10 rfl rfl) rfl ?_
    refine tq_if_le (E := E_Many_isOrder d) (pc := 16) (tgt := 26) (cks_at k_Many_isOrder 11 rfl rfl) (by decide) ?_ ?_
    · refine tq_iconst (E := E_Many_isOrder d) (pc := 26) (cks_at k_Many_isOrder 16 rfl rfl) ?_
      exact tq_sub [0, 1, 2, 3, 4] rfl (w_Many_isOrder_J27 d kH kx67 hkH hkx67 v2 v3 v4 v5 0 M)
    · refine tq_iload 3 (E := E_Many_isOrder d) (pc := 19) (cks_at k_Many_isOrder 12 rfl rfl) rfl ?_
      refine tq_iload_n 1 (E := E_Many_isOrder d) (pc := 21) (cks_at k_Many_isOrder 13 rfl rfl) rfl ?_
      refine tq_irem (E := E_Many_isOrder d) (pc := 22) (cks_at k_Many_isOrder 14 rfl rfl) ?_
      refine tq_goto (tgt := 27) (E := E_Many_isOrder d) (pc := 23) (cks_at k_Many_isOrder 15 rfl rfl) (by decide) ?_
      exact tq_sub [0, 1, 2, 3, 4] rfl (w_Many_isOrder_J27 d kH kx67 hkH hkx67 v2 v3 v4 v5 ((i32 v4).tmod (i32 v2)) M)
def f_Many_isOrder_L10 (kx67 : Int → Int → Mm → Option (Int × Mm)) : Nat → Int × Int × Int × Int × Mm → Option (Int × Mm) := lp fun kH s => f_Many_isOrder_B10 (fun v2 v3 v4 v5 M => kH (v2, v3, v4, v5, M)) kx67 s.1 s.2.1 s.2.2.1 s.2.2.2.1 s.2.2.2.2
set_option maxRecDepth 20000 in
set_option maxHeartbeats 4000000 in
theorem w_Many_isOrder_L10 (d : Nat) (kx67 : Int → Int → Mm → Option (Int × Mm)) (hkx67 : ∀ (v2 v3 : Int) (M : Mm), T (E_Many_isOrder d) injI 67 [(2, vI v2), (3, vI v3)] [] M (kx67 v2 v3 M)) (n : Nat) (s : Int × Int × Int × Int × Mm) : T (E_Many_isOrder d) injI 10 [(0, .ref 55), (2, vI s.1), (3, vI s.2.1), (4, vI s.2.2.1), (5, vI s.2.2.2.1)] [] s.2.2.2.2 (f_Many_isOrder_L10 kx67 n s) :=
  tq_lp (fun s => [(0, .ref 55), (2, vI s.1), (3, vI s.2.1), (4, vI s.2.2.1), (5, vI s.2.2.2.1)]) (fun s => s.2.2.2.2) (fun kH hH s => w_Many_isOrder_B10 d (fun v2 v3 v4 v5 M => kH (v2, v3, v4, v5, M)) kx67 (fun v2 v3 v4 v5 M => hH (v2, v3, v4, v5, M)) hkx67 s.1 s.2.1 s.2.2.1 s.2.2.2.1 s.2.2.2.2) n s
def f_Many_isOrder (v1 : Int) (v2 : Int) (M : Mm) : Option (Int × Mm) :=
  f_Many_isOrder_L10 (fun v2 v3 M2 => if ¬ i32 v3 = i32 ((shl32 1 v2) - 1) then
        some (0, M2)
      else
        some (1, M2)) FU (v2, 0, v1, (v2 - 1), M)
set_option maxRecDepth 20000 in
set_option maxHeartbeats 4000000 in
theorem c_Many_isOrder (d : Nat) (v1 : Int) (v2 : Int) (M : Mm) (Q : Option Value → Mm → Prop) (h : sat injI (f_Many_isOrder v1 v2 M) Q) : Ct (d + 2) y_Many_isOrder [.ref 55, vI v1, vI v2] M Q := by
  refine ct_in (d := d + 1) mk_Many_isOrder (Nat.le_of_ble_eq_true rfl) (?_ : T (E_Many_isOrder d) injI 0 [(0, .ref 55), (1, vI v1), (2, vI v2)] [] M (f_Many_isOrder v1 v2 M)) h
  unfold f_Many_isOrder
  refine tq_iconst (E := E_Many_isOrder d) (pc := 0) (cks_at k_Many_isOrder 0 rfl rfl) ?_
  refine tq_istore_n (E := E_Many_isOrder d) (pc := 1) (cks_at k_Many_isOrder 1 rfl rfl) (show 3 < 7 by decide) rfl ?_
  refine tq_iload_n 2 (E := E_Many_isOrder d) (pc := 2) (cks_at k_Many_isOrder 2 rfl rfl) rfl ?_
  refine tq_istore (E := E_Many_isOrder d) (pc := 3) (cks_at k_Many_isOrder 3 rfl rfl) (show 4 < 7 by decide) rfl ?_
  refine tq_iload_n 4 (E := E_Many_isOrder d) (pc := 5) (cks_at k_Many_isOrder 4 rfl rfl) rfl ?_
  refine tq_iconst (E := E_Many_isOrder d) (pc := 6) (cks_at k_Many_isOrder 5 rfl rfl) ?_
  refine tq_isub (E := E_Many_isOrder d) (pc := 7) (cks_at k_Many_isOrder 6 rfl rfl) ?_
  refine tq_istore (E := E_Many_isOrder d) (pc := 8) (cks_at k_Many_isOrder 7 rfl rfl) (show 5 < 7 by decide) rfl ?_
  exact tq_sub [3, 5, 2, 1, 0] rfl (w_Many_isOrder_L10 d _ (fun v2 v3 M2 => by
      refine tq_iload_n 1 (E := E_Many_isOrder d) (pc := 67) (cks_at k_Many_isOrder 39 rfl rfl) rfl ?_
      refine tq_iconst (E := E_Many_isOrder d) (pc := 68) (cks_at k_Many_isOrder 40 rfl rfl) ?_
      refine tq_iload_n 0 (E := E_Many_isOrder d) (pc := 69) (cks_at k_Many_isOrder 41 rfl rfl) rfl ?_
      refine tq_ishl (E := E_Many_isOrder d) (pc := 70) (cks_at k_Many_isOrder 42 rfl rfl) ?_
      refine tq_iconst (E := E_Many_isOrder d) (pc := 71) (cks_at k_Many_isOrder 43 rfl rfl) ?_
      refine tq_isub (E := E_Many_isOrder d) (pc := 72) (cks_at k_Many_isOrder 44 rfl rfl) ?_
      refine tq_icmp_ne (E := E_Many_isOrder d) (pc := 73) (tgt := 80) (cks_at k_Many_isOrder 45 rfl rfl) (by decide) ?_ ?_
      · refine tq_iconst (E := E_Many_isOrder d) (pc := 80) (cks_at k_Many_isOrder 48 rfl rfl) ?_
        exact tq_zretC (E := E_Many_isOrder d) (pc := 81) (cks_at k_Many_isOrder 49 rfl rfl) rfl (by decide)
      · refine tq_iconst (E := E_Many_isOrder d) (pc := 76) (cks_at k_Many_isOrder 46 rfl rfl) ?_
        refine tq_goto (tgt := 81) (E := E_Many_isOrder d) (pc := 77) (cks_at k_Many_isOrder 47 rfl rfl) (by decide) ?_
        exact tq_zretC (E := E_Many_isOrder d) (pc := 81) (cks_at k_Many_isOrder 49 rfl rfl) rfl (by decide)) FU (v2, 0, v1, (v2 - 1), M))
abbrev E_Ways_clearBusy (d : Nat) : Ev := (Ct (d + 0), "BreathTown$Ways", prog_11_method_5_code, 1, False, 0, (fun _ => 0), (Option.none : Option Jvm.ClassFile.FieldType))
def f_Ways_clearBusy (M : Mm) : Option (Mm) :=
  bd (up M 48 10 0) (fun M1 =>
  some M1)
set_option maxRecDepth 20000 in
set_option maxHeartbeats 4000000 in
theorem c_Ways_clearBusy (d : Nat) (M : Mm) (Q : Option Value → Mm → Prop) (h : sat injV (f_Ways_clearBusy M) Q) : Ct (d + 1) y_Ways_clearBusy [.ref 48] M Q := by
  refine ct_in (d := d + 0) mk_Ways_clearBusy (Nat.le_of_ble_eq_true rfl) (?_ : T (E_Ways_clearBusy d) injV 0 [(0, .ref 48)] [] M (f_Ways_clearBusy M)) h
  unfold f_Ways_clearBusy
  refine tq_aload_n 0 (E := E_Ways_clearBusy d) (pc := 0) (cks_at k_Ways_clearBusy 0 rfl rfl) rfl ?_
  refine tq_iconst (E := E_Ways_clearBusy d) (pc := 1) (cks_at k_Ways_clearBusy 1 rfl rfl) ?_
  refine tq_putI (E := E_Ways_clearBusy d) (pc := 2) (cks_at k_Ways_clearBusy 2 rfl rfl) fo_Ways_56 so_48 rfl po_9_10 (fun M1 => ?_)
  exact tq_vret (E := E_Ways_clearBusy d) (pc := 5) (cks_at k_Ways_clearBusy 3 rfl rfl) rfl
abbrev E_Ways_occupy (d : Nat) : Ev := (Ct (d + 1), "BreathTown$Ways", prog_11_method_6_code, 3, False, 0, (fun _ => 0), (Option.none : Option Jvm.ClassFile.FieldType))
def f_Ways_occupy_B2 (kH : Int → Int → Mm → Option (Mm)) (v1 v2 : Int) (M : Mm) : Option (Mm) :=
  if i32 (M 48 6) ≤ i32 v2 then
    some M
  else
    if i32 36 ≤ i32 (M 48 10) then
      some M
    else
      bI (f_BT_cell 50 v2 M) (fun r2 M1 =>
      bV (f_BT_setCell 52 (M 48 10) r2 M1) (fun M3 =>
      bI (f_BT_cell 51 v2 M3) (fun r5 M4 =>
      bV (f_BT_setCell 53 (M3 48 10) r5 M4) (fun M6 =>
      bV (f_BT_setCell 54 (M6 48 10) v1 M6) (fun M7 =>
      bd (up M7 48 10 ((M7 48 10) + 1)) (fun M8 =>
      kH v1 (v2 + 1) M8))))))
set_option maxRecDepth 20000 in
set_option maxHeartbeats 4000000 in
theorem w_Ways_occupy_B2 (d : Nat) (kH : Int → Int → Mm → Option (Mm)) (hkH : ∀ (v1 v2 : Int) (M : Mm), T (E_Ways_occupy d) injV 2 [(0, .ref 48), (1, vI v1), (2, vI v2)] [] M (kH v1 v2 M)) (v1 v2 : Int) (M : Mm) : T (E_Ways_occupy d) injV 2 [(0, .ref 48), (1, vI v1), (2, vI v2)] [] M (f_Ways_occupy_B2 kH v1 v2 M) := by
  unfold f_Ways_occupy_B2
  refine tq_iload_n 2 (E := E_Ways_occupy d) (pc := 2) (cks_at k_Ways_occupy 2 rfl rfl) rfl ?_
  refine tq_aload_n 0 (E := E_Ways_occupy d) (pc := 3) (cks_at k_Ways_occupy 3 rfl rfl) rfl ?_
  refine tq_getI (E := E_Ways_occupy d) (pc := 4) (cks_at k_Ways_occupy 4 rfl rfl) fo_Ways_73 so_48 rfl (by decide) ?_
  refine tq_icmp_ge (E := E_Ways_occupy d) (pc := 7) (tgt := 85) (cks_at k_Ways_occupy 5 rfl rfl) (by decide) ?_ ?_
  · exact tq_vret (E := E_Ways_occupy d) (pc := 85) (cks_at k_Ways_occupy 42 rfl rfl) rfl
  · refine tq_aload_n 0 (E := E_Ways_occupy d) (pc := 10) (cks_at k_Ways_occupy 6 rfl rfl) rfl ?_
    refine tq_getI (E := E_Ways_occupy d) (pc := 11) (cks_at k_Ways_occupy 7 rfl rfl) fo_Ways_56 so_48 rfl (by decide) ?_
    refine tq_bipush (E := E_Ways_occupy d) (pc := 14) (cks_at k_Ways_occupy 8 rfl rfl) (by decide) (by decide) ?_
    refine tq_icmp_ge (E := E_Ways_occupy d) (pc := 16) (tgt := 85) (cks_at k_Ways_occupy 9 rfl rfl) (by decide) ?_ ?_
    · exact tq_vret (E := E_Ways_occupy d) (pc := 85) (cks_at k_Ways_occupy 42 rfl rfl) rfl
    · refine tq_aload_n 0 (E := E_Ways_occupy d) (pc := 19) (cks_at k_Ways_occupy 10 rfl rfl) rfl ?_
      refine tq_getR (j := 52) (E := E_Ways_occupy d) (pc := 20) (cks_at k_Ways_occupy 11 rfl rfl) fo_Ways_21 so_48 rfl sp_48_7 ?_
      refine tq_aload_n 0 (E := E_Ways_occupy d) (pc := 23) (cks_at k_Ways_occupy 12 rfl rfl) rfl ?_
      refine tq_getI (E := E_Ways_occupy d) (pc := 24) (cks_at k_Ways_occupy 13 rfl rfl) fo_Ways_56 so_48 rfl (by decide) ?_
      refine tq_aload_n 0 (E := E_Ways_occupy d) (pc := 27) (cks_at k_Ways_occupy 14 rfl rfl) rfl ?_
      refine tq_getR (j := 50) (E := E_Ways_occupy d) (pc := 28) (cks_at k_Ways_occupy 15 rfl rfl) fo_Ways_15 so_48 rfl sp_48_4 ?_
      refine tq_iload_n 2 (E := E_Ways_occupy d) (pc := 31) (cks_at k_Ways_occupy 16 rfl rfl) rfl ?_
      refine tq_S2 (E := E_Ways_occupy d) (pc := 32) (cks_at k_Ways_occupy 17 rfl rfl) mk_BT_cell lk_Ways_47 (Nat.le_of_ble_eq_true rfl) (c_BT_cell (d + 0) 50 sa_50 v2 M) (k_I fun r2 M1 => ?_)
      refine tq_S3 (E := E_Ways_occupy d) (pc := 35) (cks_at k_Ways_occupy 18 rfl rfl) mk_BT_setCell lk_Ways_76 (Nat.le_of_ble_eq_true rfl) (c_BT_setCell (d + 0) 52 sa_52 (M 48 10) r2 M1) (k_V fun M3 => ?_)
      refine tq_aload_n 0 (E := E_Ways_occupy d) (pc := 38) (cks_at k_Ways_occupy 19 rfl rfl) rfl ?_
      refine tq_getR (j := 53) (E := E_Ways_occupy d) (pc := 39) (cks_at k_Ways_occupy 20 rfl rfl) fo_Ways_24 so_48 rfl sp_48_8 ?_
      refine tq_aload_n 0 (E := E_Ways_occupy d) (pc := 42) (cks_at k_Ways_occupy 21 rfl rfl) rfl ?_
      refine tq_getI (E := E_Ways_occupy d) (pc := 43) (cks_at k_Ways_occupy 22 rfl rfl) fo_Ways_56 so_48 rfl (by decide) ?_
      refine tq_aload_n 0 (E := E_Ways_occupy d) (pc := 46) (cks_at k_Ways_occupy 23 rfl rfl) rfl ?_
      refine tq_getR (j := 51) (E := E_Ways_occupy d) (pc := 47) (cks_at k_Ways_occupy 24 rfl rfl) fo_Ways_18 so_48 rfl sp_48_5 ?_
      refine tq_iload_n 2 (E := E_Ways_occupy d) (pc := 50) (cks_at k_Ways_occupy 25 rfl rfl) rfl ?_
      refine tq_S2 (E := E_Ways_occupy d) (pc := 51) (cks_at k_Ways_occupy 26 rfl rfl) mk_BT_cell lk_Ways_47 (Nat.le_of_ble_eq_true rfl) (c_BT_cell (d + 0) 51 sa_51 v2 M3) (k_I fun r5 M4 => ?_)
      refine tq_S3 (E := E_Ways_occupy d) (pc := 54) (cks_at k_Ways_occupy 27 rfl rfl) mk_BT_setCell lk_Ways_76 (Nat.le_of_ble_eq_true rfl) (c_BT_setCell (d + 0) 53 sa_53 (M3 48 10) r5 M4) (k_V fun M6 => ?_)
      refine tq_aload_n 0 (E := E_Ways_occupy d) (pc := 57) (cks_at k_Ways_occupy 28 rfl rfl) rfl ?_
      refine tq_getR (j := 54) (E := E_Ways_occupy d) (pc := 58) (cks_at k_Ways_occupy 29 rfl rfl) fo_Ways_27 so_48 rfl sp_48_9 ?_
      refine tq_aload_n 0 (E := E_Ways_occupy d) (pc := 61) (cks_at k_Ways_occupy 30 rfl rfl) rfl ?_
      refine tq_getI (E := E_Ways_occupy d) (pc := 62) (cks_at k_Ways_occupy 31 rfl rfl) fo_Ways_56 so_48 rfl (by decide) ?_
      refine tq_iload_n 1 (E := E_Ways_occupy d) (pc := 65) (cks_at k_Ways_occupy 32 rfl rfl) rfl ?_
      refine tq_S3 (E := E_Ways_occupy d) (pc := 66) (cks_at k_Ways_occupy 33 rfl rfl) mk_BT_setCell lk_Ways_76 (Nat.le_of_ble_eq_true rfl) (c_BT_setCell (d + 0) 54 sa_54 (M6 48 10) v1 M6) (k_V fun M7 => ?_)
      refine tq_aload_n 0 (E := E_Ways_occupy d) (pc := 69) (cks_at k_Ways_occupy 34 rfl rfl) rfl ?_
      refine tq_dup (E := E_Ways_occupy d) (pc := 70) (cks_at k_Ways_occupy 35 rfl rfl) rfl ?_
      refine tq_getI (E := E_Ways_occupy d) (pc := 71) (cks_at k_Ways_occupy 36 rfl rfl) fo_Ways_56 so_48 rfl (by decide) ?_
      refine tq_iconst (E := E_Ways_occupy d) (pc := 74) (cks_at k_Ways_occupy 37 rfl rfl) ?_
      refine tq_iadd (E := E_Ways_occupy d) (pc := 75) (cks_at k_Ways_occupy 38 rfl rfl) ?_
      refine tq_putI (E := E_Ways_occupy d) (pc := 76) (cks_at k_Ways_occupy 39 rfl rfl) fo_Ways_56 so_48 rfl po_9_10 (fun M8 => ?_)
      refine tq_iinc 2 (E := E_Ways_occupy d) (pc := 79) (cks_at k_Ways_occupy 40 rfl rfl) rfl (show 2 < 3 by decide) rfl ?_
      refine tq_goto (tgt := 2) (E := E_Ways_occupy d) (pc := 82) (cks_at k_Ways_occupy 41 rfl rfl) (by decide) ?_
      exact tq_sub [1, 2, 0] rfl (hkH v1 (v2 + 1) M8)
def f_Ways_occupy_L2 : Nat → Int × Int × Mm → Option (Mm) := lp fun kH s => f_Ways_occupy_B2 (fun v1 v2 M => kH (v1, v2, M)) s.1 s.2.1 s.2.2
set_option maxRecDepth 20000 in
set_option maxHeartbeats 4000000 in
theorem w_Ways_occupy_L2 (d : Nat) (n : Nat) (s : Int × Int × Mm) : T (E_Ways_occupy d) injV 2 [(0, .ref 48), (1, vI s.1), (2, vI s.2.1)] [] s.2.2 (f_Ways_occupy_L2 n s) :=
  tq_lp (fun s => [(0, .ref 48), (1, vI s.1), (2, vI s.2.1)]) (fun s => s.2.2) (fun kH hH s => w_Ways_occupy_B2 d (fun v1 v2 M => kH (v1, v2, M)) (fun v1 v2 M => hH (v1, v2, M)) s.1 s.2.1 s.2.2) n s
def f_Ways_occupy (v1 : Int) (M : Mm) : Option (Mm) :=
  f_Ways_occupy_L2 FU (v1, 0, M)
set_option maxRecDepth 20000 in
set_option maxHeartbeats 4000000 in
theorem c_Ways_occupy (d : Nat) (v1 : Int) (M : Mm) (Q : Option Value → Mm → Prop) (h : sat injV (f_Ways_occupy v1 M) Q) : Ct (d + 2) y_Ways_occupy [.ref 48, vI v1] M Q := by
  refine ct_in (d := d + 1) mk_Ways_occupy (Nat.le_of_ble_eq_true rfl) (?_ : T (E_Ways_occupy d) injV 0 [(0, .ref 48), (1, vI v1)] [] M (f_Ways_occupy v1 M)) h
  unfold f_Ways_occupy
  refine tq_iconst (E := E_Ways_occupy d) (pc := 0) (cks_at k_Ways_occupy 0 rfl rfl) ?_
  refine tq_istore_n (E := E_Ways_occupy d) (pc := 1) (cks_at k_Ways_occupy 1 rfl rfl) (show 2 < 3 by decide) rfl ?_
  exact tq_sub [1, 2, 0] rfl (w_Ways_occupy_L2 d FU (v1, 0, M))
abbrev E_Many_allArrive (d : Nat) : Ev := (Ct (d + 6), "BreathTown$Many", prog_3_method_4_code, 6, False, 0, (fun _ => 0), (Option.some Jvm.ClassFile.FieldType.boolean))
def f_Many_allArrive_B9 (kH : Int → Int → Mm → Option (Int × Mm)) (v1 v2 : Int) (M : Mm) : Option (Int × Mm) :=
  if i32 v1 ≤ i32 v2 then
    some (1, M)
  else
    bI (f_BT_cell 58 v2 M) (fun r3 M2 =>
    bI (f_BT_cell 13 r3 M2) (fun r5 M4 =>
    bI (f_BT_cell 41 r3 M4) (fun r7 M6 =>
    bI (f_Now_setOut r3 M6) (fun r9 M8 =>
    bV (f_Ways_search r5 r7 r9 ((-1)) M8) (fun M10 =>
    bI (f_BT_cell 42 r3 M10) (fun r12 M11 =>
    bI (f_Ways_trace r5 r7 r12 M11) (fun r14 M13 =>
    if ¬ i32 r14 = 0 then
      bI (f_BT_cell 42 r3 M13) (fun r16 M15 =>
      bI (f_Ways_soonestAt r16 M15) (fun r18 M17 =>
      bV (f_BT_setCell 59 r3 r18 M17) (fun M19 =>
      bV (f_Ways_occupy r5 M19) (fun M20 =>
      kH v1 (v2 + 1) M20))))
    else
      some (0, M13))))))))
set_option maxRecDepth 20000 in
set_option maxHeartbeats 4000000 in
theorem w_Many_allArrive_B9 (d : Nat) (kH : Int → Int → Mm → Option (Int × Mm)) (hkH : ∀ (v1 v2 : Int) (M : Mm), T (E_Many_allArrive d) injI 9 [(0, .ref 55), (1, vI v1), (2, vI v2)] [] M (kH v1 v2 M)) (v1 v2 : Int) (M : Mm) : T (E_Many_allArrive d) injI 9 [(0, .ref 55), (1, vI v1), (2, vI v2)] [] M (f_Many_allArrive_B9 kH v1 v2 M) := by
  unfold f_Many_allArrive_B9
  refine tq_iload_n 2 (E := E_Many_allArrive d) (pc := 9) (cks_at k_Many_allArrive 5 rfl rfl) rfl ?_
  refine tq_iload_n 1 (E := E_Many_allArrive d) (pc := 10) (cks_at k_Many_allArrive 6 rfl rfl) rfl ?_
  refine tq_icmp_ge (E := E_Many_allArrive d) (pc := 11) (tgt := 137) (cks_at k_Many_allArrive 7 rfl rfl) (by decide) ?_ ?_
  · refine tq_iconst (E := E_Many_allArrive d) (pc := 137) (cks_at k_Many_allArrive 66 rfl rfl) ?_
    exact tq_zretC (E := E_Many_allArrive d) (pc := 138) (cks_at k_Many_allArrive 67 rfl rfl) rfl (by decide)
  · refine tq_aload_n 0 (E := E_Many_allArrive d) (pc := 14) (cks_at k_Many_allArrive 8 rfl rfl) rfl ?_
    refine tq_getR (j := 58) (E := E_Many_allArrive d) (pc := 15) (cks_at k_Many_allArrive 9 rfl rfl) fo_Many_18 so_55 rfl sp_55_8 ?_
    refine tq_iload_n 2 (E := E_Many_allArrive d) (pc := 18) (cks_at k_Many_allArrive 10 rfl rfl) rfl ?_
    refine tq_S2 (E := E_Many_allArrive d) (pc := 19) (cks_at k_Many_allArrive 11 rfl rfl) mk_BT_cell lk_Many_81 (Nat.le_of_ble_eq_true rfl) (c_BT_cell (d + 5) 58 sa_58 v2 M) (k_I fun r3 M2 => ?_)
    refine tq_istore_n (E := E_Many_allArrive d) (pc := 22) (cks_at k_Many_allArrive 12 rfl rfl) (show 3 < 6 by decide) rfl ?_
    refine tq_aload_n 1 (E := E_Many_allArrive d) (pc := 23) (cks_at k_Many_allArrive 13 rfl rfl) rfl ?_
    refine tq_getR (j := 3) (E := E_Many_allArrive d) (pc := 24) (cks_at k_Many_allArrive 14 rfl rfl) fo_Many_36 so_55 rfl sp_55_0 ?_
    refine tq_getR (j := 13) (E := E_Many_allArrive d) (pc := 27) (cks_at k_Many_allArrive 15 rfl rfl) fo_Many_85 so_3 rfl sp_3_9 ?_
    refine tq_iload_n 0 (E := E_Many_allArrive d) (pc := 30) (cks_at k_Many_allArrive 16 rfl rfl) rfl ?_
    refine tq_S2 (E := E_Many_allArrive d) (pc := 31) (cks_at k_Many_allArrive 17 rfl rfl) mk_BT_cell lk_Many_81 (Nat.le_of_ble_eq_true rfl) (c_BT_cell (d + 5) 13 sa_13 r3 M2) (k_I fun r5 M4 => ?_)
    refine tq_istore (E := E_Many_allArrive d) (pc := 34) (cks_at k_Many_allArrive 18 rfl rfl) (show 4 < 6 by decide) rfl ?_
    refine tq_aload_n 2 (E := E_Many_allArrive d) (pc := 36) (cks_at k_Many_allArrive 19 rfl rfl) rfl ?_
    refine tq_getR (j := 39) (E := E_Many_allArrive d) (pc := 37) (cks_at k_Many_allArrive 20 rfl rfl) fo_Many_40 so_55 rfl sp_55_1 ?_
    refine tq_getR (j := 41) (E := E_Many_allArrive d) (pc := 40) (cks_at k_Many_allArrive 21 rfl rfl) fo_Many_90 so_39 rfl sp_39_2 ?_
    refine tq_iload_n 1 (E := E_Many_allArrive d) (pc := 43) (cks_at k_Many_allArrive 22 rfl rfl) rfl ?_
    refine tq_S2 (E := E_Many_allArrive d) (pc := 44) (cks_at k_Many_allArrive 23 rfl rfl) mk_BT_cell lk_Many_81 (Nat.le_of_ble_eq_true rfl) (c_BT_cell (d + 5) 41 sa_41 r3 M4) (k_I fun r7 M6 => ?_)
    refine tq_istore (E := E_Many_allArrive d) (pc := 47) (cks_at k_Many_allArrive 24 rfl rfl) (show 5 < 6 by decide) rfl ?_
    refine tq_aload_n 3 (E := E_Many_allArrive d) (pc := 49) (cks_at k_Many_allArrive 25 rfl rfl) rfl ?_
    refine tq_getR (j := 48) (E := E_Many_allArrive d) (pc := 50) (cks_at k_Many_allArrive 26 rfl rfl) fo_Many_48 so_55 rfl sp_55_3 ?_
    refine tq_iload 1 (E := E_Many_allArrive d) (pc := 53) (cks_at k_Many_allArrive 27 rfl rfl) rfl ?_
    refine tq_iload 0 (E := E_Many_allArrive d) (pc := 55) (cks_at k_Many_allArrive 28 rfl rfl) rfl ?_
    refine tq_aload_n 3 (E := E_Many_allArrive d) (pc := 57) (cks_at k_Many_allArrive 29 rfl rfl) rfl ?_
    refine tq_getR (j := 39) (E := E_Many_allArrive d) (pc := 58) (cks_at k_Many_allArrive 30 rfl rfl) fo_Many_40 so_55 rfl sp_55_1 ?_
    refine tq_iload_n 2 (E := E_Many_allArrive d) (pc := 61) (cks_at k_Many_allArrive 31 rfl rfl) rfl ?_
    refine tq_V1 (E := E_Many_allArrive d) (pc := 62) (cks_at k_Many_allArrive 32 rfl rfl) mk_Now_setOut lk_Many_95 rc_39 (Nat.le_of_ble_eq_true rfl) (c_Now_setOut (d + 4) r3 M6) (k_I fun r9 M8 => ?_)
    refine tq_iconst (E := E_Many_allArrive d) (pc := 65) (cks_at k_Many_allArrive 33 rfl rfl) ?_
    refine tq_V4 (E := E_Many_allArrive d) (pc := 66) (cks_at k_Many_allArrive 34 rfl rfl) mk_Ways_search lk_Many_99 rc_48 (Nat.le_of_ble_eq_true rfl) (c_Ways_search (d + 0) r5 r7 r9 ((-1)) M8) (k_V fun M10 => ?_)
    refine tq_aload_n 3 (E := E_Many_allArrive d) (pc := 69) (cks_at k_Many_allArrive 35 rfl rfl) rfl ?_
    refine tq_getR (j := 48) (E := E_Many_allArrive d) (pc := 70) (cks_at k_Many_allArrive 36 rfl rfl) fo_Many_48 so_55 rfl sp_55_3 ?_
    refine tq_iload 1 (E := E_Many_allArrive d) (pc := 73) (cks_at k_Many_allArrive 37 rfl rfl) rfl ?_
    refine tq_iload 0 (E := E_Many_allArrive d) (pc := 75) (cks_at k_Many_allArrive 38 rfl rfl) rfl ?_
    refine tq_aload_n 3 (E := E_Many_allArrive d) (pc := 77) (cks_at k_Many_allArrive 39 rfl rfl) rfl ?_
    refine tq_getR (j := 39) (E := E_Many_allArrive d) (pc := 78) (cks_at k_Many_allArrive 40 rfl rfl) fo_Many_40 so_55 rfl sp_55_1 ?_
    refine tq_getR (j := 42) (E := E_Many_allArrive d) (pc := 81) (cks_at k_Many_allArrive 41 rfl rfl) fo_Many_103 so_39 rfl sp_39_3 ?_
    refine tq_iload_n 2 (E := E_Many_allArrive d) (pc := 84) (cks_at k_Many_allArrive 42 rfl rfl) rfl ?_
    refine tq_S2 (E := E_Many_allArrive d) (pc := 85) (cks_at k_Many_allArrive 43 rfl rfl) mk_BT_cell lk_Many_81 (Nat.le_of_ble_eq_true rfl) (c_BT_cell (d + 5) 42 sa_42 r3 M10) (k_I fun r12 M11 => ?_)
    refine tq_V3 (E := E_Many_allArrive d) (pc := 88) (cks_at k_Many_allArrive 44 rfl rfl) mk_Ways_trace lk_Many_106 rc_48 (Nat.le_of_ble_eq_true rfl) (c_Ways_trace (d + 0) r5 r7 r12 M11) (k_I fun r14 M13 => ?_)
    refine tq_if_ne (E := E_Many_allArrive d) (pc := 91) (tgt := 96) (cks_at k_Many_allArrive 45 rfl rfl) (by decide) ?_ ?_
    · refine tq_aload_n 3 (E := E_Many_allArrive d) (pc := 96) (cks_at k_Many_allArrive 48 rfl rfl) rfl ?_
      refine tq_getR (j := 59) (E := E_Many_allArrive d) (pc := 97) (cks_at k_Many_allArrive 49 rfl rfl) fo_Many_21 so_55 rfl sp_55_9 ?_
      refine tq_iload_n 2 (E := E_Many_allArrive d) (pc := 100) (cks_at k_Many_allArrive 50 rfl rfl) rfl ?_
      refine tq_aload_n 3 (E := E_Many_allArrive d) (pc := 101) (cks_at k_Many_allArrive 51 rfl rfl) rfl ?_
      refine tq_getR (j := 48) (E := E_Many_allArrive d) (pc := 102) (cks_at k_Many_allArrive 52 rfl rfl) fo_Many_48 so_55 rfl sp_55_3 ?_
      refine tq_aload_n 3 (E := E_Many_allArrive d) (pc := 105) (cks_at k_Many_allArrive 53 rfl rfl) rfl ?_
      refine tq_getR (j := 39) (E := E_Many_allArrive d) (pc := 106) (cks_at k_Many_allArrive 54 rfl rfl) fo_Many_40 so_55 rfl sp_55_1 ?_
      refine tq_getR (j := 42) (E := E_Many_allArrive d) (pc := 109) (cks_at k_Many_allArrive 55 rfl rfl) fo_Many_103 so_39 rfl sp_39_3 ?_
      refine tq_iload_n 2 (E := E_Many_allArrive d) (pc := 112) (cks_at k_Many_allArrive 56 rfl rfl) rfl ?_
      refine tq_S2 (E := E_Many_allArrive d) (pc := 113) (cks_at k_Many_allArrive 57 rfl rfl) mk_BT_cell lk_Many_81 (Nat.le_of_ble_eq_true rfl) (c_BT_cell (d + 5) 42 sa_42 r3 M13) (k_I fun r16 M15 => ?_)
      refine tq_V1 (E := E_Many_allArrive d) (pc := 116) (cks_at k_Many_allArrive 58 rfl rfl) mk_Ways_soonestAt lk_Many_110 rc_48 (Nat.le_of_ble_eq_true rfl) (c_Ways_soonestAt (d + 4) r16 M15) (k_I fun r18 M17 => ?_)
      refine tq_S3 (E := E_Many_allArrive d) (pc := 119) (cks_at k_Many_allArrive 59 rfl rfl) mk_BT_setCell lk_Many_77 (Nat.le_of_ble_eq_true rfl) (c_BT_setCell (d + 5) 59 sa_59 r3 r18 M17) (k_V fun M19 => ?_)
      refine tq_aload_n 3 (E := E_Many_allArrive d) (pc := 122) (cks_at k_Many_allArrive 60 rfl rfl) rfl ?_
      refine tq_getR (j := 48) (E := E_Many_allArrive d) (pc := 123) (cks_at k_Many_allArrive 61 rfl rfl) fo_Many_48 so_55 rfl sp_55_3 ?_
      refine tq_iload 1 (E := E_Many_allArrive d) (pc := 126) (cks_at k_Many_allArrive 62 rfl rfl) rfl ?_
      refine tq_V1 (E := E_Many_allArrive d) (pc := 128) (cks_at k_Many_allArrive 63 rfl rfl) mk_Ways_occupy lk_Many_113 rc_48 (Nat.le_of_ble_eq_true rfl) (c_Ways_occupy (d + 4) r5 M19) (k_V fun M20 => ?_)
      refine tq_iinc 5 (E := E_Many_allArrive d) (pc := 131) (cks_at k_Many_allArrive 64 rfl rfl) rfl (show 2 < 6 by decide) rfl ?_
      refine tq_goto (tgt := 9) (E := E_Many_allArrive d) (pc := 134) (cks_at k_Many_allArrive 65 rfl rfl) (by decide) ?_
      exact tq_sub [4, 5, 0] rfl (hkH v1 (v2 + 1) M20)
    · refine tq_iconst (E := E_Many_allArrive d) (pc := 94) (cks_at k_Many_allArrive 46 rfl rfl) ?_
      exact tq_zretC (E := E_Many_allArrive d) (pc := 95) (cks_at k_Many_allArrive 47 rfl rfl) rfl (by decide)
def f_Many_allArrive_L9 : Nat → Int × Int × Mm → Option (Int × Mm) := lp fun kH s => f_Many_allArrive_B9 (fun v1 v2 M => kH (v1, v2, M)) s.1 s.2.1 s.2.2
set_option maxRecDepth 20000 in
set_option maxHeartbeats 4000000 in
theorem w_Many_allArrive_L9 (d : Nat) (n : Nat) (s : Int × Int × Mm) : T (E_Many_allArrive d) injI 9 [(0, .ref 55), (1, vI s.1), (2, vI s.2.1)] [] s.2.2 (f_Many_allArrive_L9 n s) :=
  tq_lp (fun s => [(0, .ref 55), (1, vI s.1), (2, vI s.2.1)]) (fun s => s.2.2) (fun kH hH s => w_Many_allArrive_B9 d (fun v1 v2 M => kH (v1, v2, M)) (fun v1 v2 M => hH (v1, v2, M)) s.1 s.2.1 s.2.2) n s
def f_Many_allArrive (v1 : Int) (M : Mm) : Option (Int × Mm) :=
  bV (f_Ways_clearBusy M) (fun M1 =>
  f_Many_allArrive_L9 FU (v1, 0, M1))
set_option maxRecDepth 20000 in
set_option maxHeartbeats 4000000 in
theorem c_Many_allArrive (d : Nat) (v1 : Int) (M : Mm) (Q : Option Value → Mm → Prop) (h : sat injI (f_Many_allArrive v1 M) Q) : Ct (d + 7) y_Many_allArrive [.ref 55, vI v1] M Q := by
  refine ct_in (d := d + 6) mk_Many_allArrive (Nat.le_of_ble_eq_true rfl) (?_ : T (E_Many_allArrive d) injI 0 [(0, .ref 55), (1, vI v1)] [] M (f_Many_allArrive v1 M)) h
  unfold f_Many_allArrive
  refine tq_aload_n 0 (E := E_Many_allArrive d) (pc := 0) (cks_at k_Many_allArrive 0 rfl rfl) rfl ?_
  refine tq_getR (j := 48) (E := E_Many_allArrive d) (pc := 1) (cks_at k_Many_allArrive 1 rfl rfl) fo_Many_48 so_55 rfl sp_55_3 ?_
  refine tq_V0 (E := E_Many_allArrive d) (pc := 4) (cks_at k_Many_allArrive 2 rfl rfl) mk_Ways_clearBusy lk_Many_72 rc_48 (Nat.le_of_ble_eq_true rfl) (c_Ways_clearBusy (d + 5) M) (k_V fun M1 => ?_)
  refine tq_iconst (E := E_Many_allArrive d) (pc := 7) (cks_at k_Many_allArrive 3 rfl rfl) ?_
  refine tq_istore_n (E := E_Many_allArrive d) (pc := 8) (cks_at k_Many_allArrive 4 rfl rfl) (show 2 < 6 by decide) rfl ?_
  exact tq_sub [1, 2, 0] rfl (w_Many_allArrive_L9 d FU (v1, 0, M1))
abbrev E_BT_copyAll (d : Nat) : Ev := (Ct (d + 0), "BreathTown", prog_1_method_45_code, 3, False, 0, (fun _ => 0), (Option.none : Option Jvm.ClassFile.FieldType))
def f_BT_copyAll_B2 (row0 : Nat) (row1 : Nat) (kH : Int → Mm → Option (Mm)) (v2 : Int) (M : Mm) : Option (Mm) :=
  if i32 (((slen row0 : Nat) : Int)) ≤ i32 v2 then
    some M
  else
    if i32 (((slen row1 : Nat) : Int)) ≤ i32 v2 then
      some M
    else
      gd (0 ≤ i32 v2 ∧ i32 v2 < ((slen row0 : Nat) : Int)) <|
      gd (0 ≤ i32 v2 ∧ i32 v2 < ((slen row1 : Nat) : Int)) <|
      bd (up M row1 (i32 v2).toNat (M row0 (i32 v2).toNat)) (fun M1 =>
      kH (v2 + 1) M1)
set_option maxRecDepth 20000 in
set_option maxHeartbeats 4000000 in
theorem w_BT_copyAll_B2 (d : Nat) (row0 : Nat) (row1 : Nat) (hrow0 : skind row0 = 20 ∧ row0 < NC) (hrow1 : skind row1 = 20 ∧ row1 < NC) (kH : Int → Mm → Option (Mm)) (hkH : ∀ (v2 : Int) (M : Mm), T (E_BT_copyAll d) injV 2 [(0, .ref row0), (1, .ref row1), (2, vI v2)] [] M (kH v2 M)) (v2 : Int) (M : Mm) : T (E_BT_copyAll d) injV 2 [(0, .ref row0), (1, .ref row1), (2, vI v2)] [] M (f_BT_copyAll_B2 row0 row1 kH v2 M) := by
  unfold f_BT_copyAll_B2
  refine tq_iload_n 2 (E := E_BT_copyAll d) (pc := 2) (cks_at k_BT_copyAll 2 rfl rfl) rfl ?_
  refine tq_aload_n 0 (E := E_BT_copyAll d) (pc := 3) (cks_at k_BT_copyAll 3 rfl rfl) rfl ?_
  refine tq_alen (E := E_BT_copyAll d) (pc := 4) (cks_at k_BT_copyAll 4 rfl rfl) ⟨by rw [(hrow0).1]; decide, by rw [(hrow0).1]; decide, (hrow0).2⟩ rfl ?_
  refine tq_icmp_ge (E := E_BT_copyAll d) (pc := 5) (tgt := 26) (cks_at k_BT_copyAll 5 rfl rfl) (by decide) ?_ ?_
  · exact tq_vret (E := E_BT_copyAll d) (pc := 26) (cks_at k_BT_copyAll 18 rfl rfl) rfl
  · refine tq_iload_n 2 (E := E_BT_copyAll d) (pc := 8) (cks_at k_BT_copyAll 6 rfl rfl) rfl ?_
    refine tq_aload_n 1 (E := E_BT_copyAll d) (pc := 9) (cks_at k_BT_copyAll 7 rfl rfl) rfl ?_
    refine tq_alen (E := E_BT_copyAll d) (pc := 10) (cks_at k_BT_copyAll 8 rfl rfl) ⟨by rw [(hrow1).1]; decide, by rw [(hrow1).1]; decide, (hrow1).2⟩ rfl ?_
    refine tq_icmp_ge (E := E_BT_copyAll d) (pc := 11) (tgt := 26) (cks_at k_BT_copyAll 9 rfl rfl) (by decide) ?_ ?_
    · exact tq_vret (E := E_BT_copyAll d) (pc := 26) (cks_at k_BT_copyAll 18 rfl rfl) rfl
    · refine tq_aload_n 1 (E := E_BT_copyAll d) (pc := 14) (cks_at k_BT_copyAll 10 rfl rfl) rfl ?_
      refine tq_iload_n 2 (E := E_BT_copyAll d) (pc := 15) (cks_at k_BT_copyAll 11 rfl rfl) rfl ?_
      refine tq_aload_n 0 (E := E_BT_copyAll d) (pc := 16) (cks_at k_BT_copyAll 12 rfl rfl) rfl ?_
      refine tq_iload_n 2 (E := E_BT_copyAll d) (pc := 17) (cks_at k_BT_copyAll 13 rfl rfl) rfl ?_
      refine tq_iald (E := E_BT_copyAll d) (pc := 18) (cks_at k_BT_copyAll 14 rfl rfl) hrow0 rfl ?_
      refine tq_iast (E := E_BT_copyAll d) (pc := 19) (cks_at k_BT_copyAll 15 rfl rfl) hrow1 rfl (fun M1 => ?_)
      refine tq_iinc 2 (E := E_BT_copyAll d) (pc := 20) (cks_at k_BT_copyAll 16 rfl rfl) rfl (show 2 < 3 by decide) rfl ?_
      refine tq_goto (tgt := 2) (E := E_BT_copyAll d) (pc := 23) (cks_at k_BT_copyAll 17 rfl rfl) (by decide) ?_
      exact tq_sub [1, 2, 0] rfl (hkH (v2 + 1) M1)
def f_BT_copyAll_L2 (row0 : Nat) (row1 : Nat) : Nat → Int × Mm → Option (Mm) := lp fun kH s => f_BT_copyAll_B2 row0 row1 (fun v2 M => kH (v2, M)) s.1 s.2
set_option maxRecDepth 20000 in
set_option maxHeartbeats 4000000 in
theorem w_BT_copyAll_L2 (d : Nat) (row0 : Nat) (row1 : Nat) (hrow0 : skind row0 = 20 ∧ row0 < NC) (hrow1 : skind row1 = 20 ∧ row1 < NC) (n : Nat) (s : Int × Mm) : T (E_BT_copyAll d) injV 2 [(0, .ref row0), (1, .ref row1), (2, vI s.1)] [] s.2 (f_BT_copyAll_L2 row0 row1 n s) :=
  tq_lp (fun s => [(0, .ref row0), (1, .ref row1), (2, vI s.1)]) (fun s => s.2) (fun kH hH s => w_BT_copyAll_B2 d row0 row1 hrow0 hrow1 (fun v2 M => kH (v2, M)) (fun v2 M => hH (v2, M)) s.1 s.2) n s
def f_BT_copyAll (row0 : Nat) (row1 : Nat) (M : Mm) : Option (Mm) :=
  f_BT_copyAll_L2 row0 row1 FU (0, M)
set_option maxRecDepth 20000 in
set_option maxHeartbeats 4000000 in
theorem c_BT_copyAll (d : Nat) (row0 : Nat) (hrow0 : skind row0 = 20 ∧ row0 < NC) (row1 : Nat) (hrow1 : skind row1 = 20 ∧ row1 < NC) (M : Mm) (Q : Option Value → Mm → Prop) (h : sat injV (f_BT_copyAll row0 row1 M) Q) : Ct (d + 1) y_BT_copyAll [.ref row0, .ref row1] M Q := by
  refine ct_in (d := d + 0) mk_BT_copyAll (Nat.le_of_ble_eq_true rfl) (?_ : T (E_BT_copyAll d) injV 0 [(0, .ref row0), (1, .ref row1)] [] M (f_BT_copyAll row0 row1 M)) h
  unfold f_BT_copyAll
  refine tq_iconst (E := E_BT_copyAll d) (pc := 0) (cks_at k_BT_copyAll 0 rfl rfl) ?_
  refine tq_istore_n (E := E_BT_copyAll d) (pc := 1) (cks_at k_BT_copyAll 1 rfl rfl) (show 2 < 3 by decide) rfl ?_
  exact tq_sub [1, 2, 0] rfl (w_BT_copyAll_L2 d row0 row1 hrow0 hrow1 FU (0, M))
abbrev E_Many_keepBetter (d : Nat) : Ev := (Ct (d + 1), "BreathTown$Many", prog_3_method_5_code, 5, False, 0, (fun _ => 0), (Option.none : Option Jvm.ClassFile.FieldType))
def f_Many_keepBetter_B7 (kH : Int → Int → Int → Int → Mm → Option (Mm)) (kx45 : Int → Int → Mm → Option (Mm)) (v1 v2 v3 v4 : Int) (M : Mm) : Option (Mm) :=
  if i32 v1 ≤ i32 v4 then
    kx45 v2 v3 M
  else
    bI (f_BT_cell 59 v4 M) (fun r2 M1 =>
    bI (f_Math_max v2 r2 M1) (fun r4 M3 =>
    bI (f_BT_cell 59 v4 M3) (fun r6 M5 =>
    kH v1 r4 (v3 + r6) (v4 + 1) M5)))
set_option maxRecDepth 20000 in
set_option maxHeartbeats 4000000 in
theorem w_Many_keepBetter_B7 (d : Nat) (kH : Int → Int → Int → Int → Mm → Option (Mm)) (kx45 : Int → Int → Mm → Option (Mm)) (hkH : ∀ (v1 v2 v3 v4 : Int) (M : Mm), T (E_Many_keepBetter d) injV 7 [(0, .ref 55), (1, vI v1), (2, vI v2), (3, vI v3), (4, vI v4)] [] M (kH v1 v2 v3 v4 M)) (hkx45 : ∀ (v2 v3 : Int) (M : Mm), T (E_Many_keepBetter d) injV 45 [(0, .ref 55), (2, vI v2), (3, vI v3)] [] M (kx45 v2 v3 M)) (v1 v2 v3 v4 : Int) (M : Mm) : T (E_Many_keepBetter d) injV 7 [(0, .ref 55), (1, vI v1), (2, vI v2), (3, vI v3), (4, vI v4)] [] M (f_Many_keepBetter_B7 kH kx45 v1 v2 v3 v4 M) := by
  unfold f_Many_keepBetter_B7
  refine tq_iload 4 (E := E_Many_keepBetter d) (pc := 7) (cks_at k_Many_keepBetter 6 rfl rfl) rfl ?_
  refine tq_iload_n 1 (E := E_Many_keepBetter d) (pc := 9) (cks_at k_Many_keepBetter 7 rfl rfl) rfl ?_
  refine tq_icmp_ge (E := E_Many_keepBetter d) (pc := 10) (tgt := 45) (cks_at k_Many_keepBetter 8 rfl rfl) (by decide) ?_ ?_
  · exact tq_sub [0, 2, 3] rfl (hkx45 v2 v3 M)
  · refine tq_iload_n 2 (E := E_Many_keepBetter d) (pc := 13) (cks_at k_Many_keepBetter 9 rfl rfl) rfl ?_
    refine tq_aload_n 0 (E := E_Many_keepBetter d) (pc := 14) (cks_at k_Many_keepBetter 10 rfl rfl) rfl ?_
    refine tq_getR (j := 59) (E := E_Many_keepBetter d) (pc := 15) (cks_at k_Many_keepBetter 11 rfl rfl) fo_Many_21 so_55 rfl sp_55_9 ?_
    refine tq_iload 4 (E := E_Many_keepBetter d) (pc := 18) (cks_at k_Many_keepBetter 12 rfl rfl) rfl ?_
    refine tq_S2 (E := E_Many_keepBetter d) (pc := 20) (cks_at k_Many_keepBetter 13 rfl rfl) mk_BT_cell lk_Many_81 (Nat.le_of_ble_eq_true rfl) (c_BT_cell (d + 0) 59 sa_59 v4 M) (k_I fun r2 M1 => ?_)
    refine tq_S2 (E := E_Many_keepBetter d) (pc := 23) (cks_at k_Many_keepBetter 14 rfl rfl) mk_Math_max lk_Many_116 (Nat.le_of_ble_eq_true rfl) (c_Math_max (d + 0) v2 r2 M1) (k_I fun r4 M3 => ?_)
    refine tq_istore_n (E := E_Many_keepBetter d) (pc := 26) (cks_at k_Many_keepBetter 15 rfl rfl) (show 2 < 5 by decide) rfl ?_
    refine tq_iload_n 3 (E := E_Many_keepBetter d) (pc := 27) (cks_at k_Many_keepBetter 16 rfl rfl) rfl ?_
    refine tq_aload_n 1 (E := E_Many_keepBetter d) (pc := 28) (cks_at k_Many_keepBetter 17 rfl rfl) rfl ?_
    refine tq_getR (j := 59) (E := E_Many_keepBetter d) (pc := 29) (cks_at k_Many_keepBetter 18 rfl rfl) fo_Many_21 so_55 rfl sp_55_9 ?_
    refine tq_iload 4 (E := E_Many_keepBetter d) (pc := 32) (cks_at k_Many_keepBetter 19 rfl rfl) rfl ?_
    refine tq_S2 (E := E_Many_keepBetter d) (pc := 34) (cks_at k_Many_keepBetter 20 rfl rfl) mk_BT_cell lk_Many_81 (Nat.le_of_ble_eq_true rfl) (c_BT_cell (d + 0) 59 sa_59 v4 M3) (k_I fun r6 M5 => ?_)
    refine tq_iadd (E := E_Many_keepBetter d) (pc := 37) (cks_at k_Many_keepBetter 21 rfl rfl) ?_
    refine tq_istore_n (E := E_Many_keepBetter d) (pc := 38) (cks_at k_Many_keepBetter 22 rfl rfl) (show 3 < 5 by decide) rfl ?_
    refine tq_iinc 4 (E := E_Many_keepBetter d) (pc := 39) (cks_at k_Many_keepBetter 23 rfl rfl) rfl (show 4 < 5 by decide) rfl ?_
    refine tq_goto (tgt := 7) (E := E_Many_keepBetter d) (pc := 42) (cks_at k_Many_keepBetter 24 rfl rfl) (by decide) ?_
    exact tq_sub [3, 4, 2, 1, 0] rfl (hkH v1 r4 (v3 + r6) (v4 + 1) M5)
def f_Many_keepBetter_L7 (kx45 : Int → Int → Mm → Option (Mm)) : Nat → Int × Int × Int × Int × Mm → Option (Mm) := lp fun kH s => f_Many_keepBetter_B7 (fun v1 v2 v3 v4 M => kH (v1, v2, v3, v4, M)) kx45 s.1 s.2.1 s.2.2.1 s.2.2.2.1 s.2.2.2.2
set_option maxRecDepth 20000 in
set_option maxHeartbeats 4000000 in
theorem w_Many_keepBetter_L7 (d : Nat) (kx45 : Int → Int → Mm → Option (Mm)) (hkx45 : ∀ (v2 v3 : Int) (M : Mm), T (E_Many_keepBetter d) injV 45 [(0, .ref 55), (2, vI v2), (3, vI v3)] [] M (kx45 v2 v3 M)) (n : Nat) (s : Int × Int × Int × Int × Mm) : T (E_Many_keepBetter d) injV 7 [(0, .ref 55), (1, vI s.1), (2, vI s.2.1), (3, vI s.2.2.1), (4, vI s.2.2.2.1)] [] s.2.2.2.2 (f_Many_keepBetter_L7 kx45 n s) :=
  tq_lp (fun s => [(0, .ref 55), (1, vI s.1), (2, vI s.2.1), (3, vI s.2.2.1), (4, vI s.2.2.2.1)]) (fun s => s.2.2.2.2) (fun kH hH s => w_Many_keepBetter_B7 d (fun v1 v2 v3 v4 M => kH (v1, v2, v3, v4, M)) kx45 (fun v1 v2 v3 v4 M => hH (v1, v2, v3, v4, M)) hkx45 s.1 s.2.1 s.2.2.1 s.2.2.2.1 s.2.2.2.2) n s
def f_Many_keepBetter_J69 (v2 v3 : Int) (M : Mm) : Option (Mm) :=
  bd (up M 55 6 v2) (fun M8 =>
  bd (up M8 55 7 v3) (fun M9 =>
  bV (f_BT_copyAll 58 56 M9) (fun M10 =>
  bV (f_BT_copyAll 59 57 M10) (fun M11 =>
  some M11))))
set_option maxRecDepth 20000 in
set_option maxHeartbeats 4000000 in
theorem w_Many_keepBetter_J69 (d : Nat) (v2 v3 : Int) (M : Mm) : T (E_Many_keepBetter d) injV 69 [(0, .ref 55), (2, vI v2), (3, vI v3)] [] M (f_Many_keepBetter_J69 v2 v3 M) := by
  unfold f_Many_keepBetter_J69
  refine tq_aload_n 0 (E := E_Many_keepBetter d) (pc := 69) (cks_at k_Many_keepBetter 37 rfl rfl) rfl ?_
  refine tq_iload_n 1 (E := E_Many_keepBetter d) (pc := 70) (cks_at k_Many_keepBetter 38 rfl rfl) rfl ?_
  refine tq_putI (E := E_Many_keepBetter d) (pc := 71) (cks_at k_Many_keepBetter 39 rfl rfl) fo_Many_53 so_55 rfl po_1_6 (fun M8 => ?_)
  refine tq_aload_n 0 (E := E_Many_keepBetter d) (pc := 74) (cks_at k_Many_keepBetter 40 rfl rfl) rfl ?_
  refine tq_iload_n 2 (E := E_Many_keepBetter d) (pc := 75) (cks_at k_Many_keepBetter 41 rfl rfl) rfl ?_
  refine tq_putI (E := E_Many_keepBetter d) (pc := 76) (cks_at k_Many_keepBetter 42 rfl rfl) fo_Many_57 so_55 rfl po_1_7 (fun M9 => ?_)
  refine tq_aload_n 0 (E := E_Many_keepBetter d) (pc := 79) (cks_at k_Many_keepBetter 43 rfl rfl) rfl ?_
  refine tq_getR (j := 58) (E := E_Many_keepBetter d) (pc := 80) (cks_at k_Many_keepBetter 44 rfl rfl) fo_Many_18 so_55 rfl sp_55_8 ?_
  refine tq_aload_n 0 (E := E_Many_keepBetter d) (pc := 83) (cks_at k_Many_keepBetter 45 rfl rfl) rfl ?_
  refine tq_getR (j := 56) (E := E_Many_keepBetter d) (pc := 84) (cks_at k_Many_keepBetter 46 rfl rfl) fo_Many_9 so_55 rfl sp_55_4 ?_
  refine tq_S2 (E := E_Many_keepBetter d) (pc := 87) (cks_at k_Many_keepBetter 47 rfl rfl) mk_BT_copyAll lk_Many_122 (Nat.le_of_ble_eq_true rfl) (c_BT_copyAll (d + 0) 58 sa_58 56 sa_56 M9) (k_V fun M10 => ?_)
  refine tq_aload_n 0 (E := E_Many_keepBetter d) (pc := 90) (cks_at k_Many_keepBetter 48 rfl rfl) rfl ?_
  refine tq_getR (j := 59) (E := E_Many_keepBetter d) (pc := 91) (cks_at k_Many_keepBetter 49 rfl rfl) fo_Many_21 so_55 rfl sp_55_9 ?_
  refine tq_aload_n 0 (E := E_Many_keepBetter d) (pc := 94) (cks_at k_Many_keepBetter 50 rfl rfl) rfl ?_
  refine tq_getR (j := 57) (E := E_Many_keepBetter d) (pc := 95) (cks_at k_Many_keepBetter 51 rfl rfl) fo_Many_15 so_55 rfl sp_55_5 ?_
  refine tq_S2 (E := E_Many_keepBetter d) (pc := 98) (cks_at k_Many_keepBetter 52 rfl rfl) mk_BT_copyAll lk_Many_122 (Nat.le_of_ble_eq_true rfl) (c_BT_copyAll (d + 0) 59 sa_59 57 sa_57 M10) (k_V fun M11 => ?_)
  exact tq_vret (E := E_Many_keepBetter d) (pc := 101) (cks_at k_Many_keepBetter 53 rfl rfl) rfl
def f_Many_keepBetter (v1 : Int) (M : Mm) : Option (Mm) :=
  f_Many_keepBetter_L7 (fun v2 v3 M7 => if i32 v2 < i32 (M7 55 6) then
        f_Many_keepBetter_J69 v2 v3 M7
      else
        if ¬ i32 v2 = i32 (M7 55 6) then
          some M7
        else
          if i32 (M7 55 7) ≤ i32 v3 then
            some M7
          else
            f_Many_keepBetter_J69 v2 v3 M7) FU (v1, 0, 0, 0, M)
set_option maxRecDepth 20000 in
set_option maxHeartbeats 4000000 in
theorem c_Many_keepBetter (d : Nat) (v1 : Int) (M : Mm) (Q : Option Value → Mm → Prop) (h : sat injV (f_Many_keepBetter v1 M) Q) : Ct (d + 2) y_Many_keepBetter [.ref 55, vI v1] M Q := by
  refine ct_in (d := d + 1) mk_Many_keepBetter (Nat.le_of_ble_eq_true rfl) (?_ : T (E_Many_keepBetter d) injV 0 [(0, .ref 55), (1, vI v1)] [] M (f_Many_keepBetter v1 M)) h
  unfold f_Many_keepBetter
  refine tq_iconst (E := E_Many_keepBetter d) (pc := 0) (cks_at k_Many_keepBetter 0 rfl rfl) ?_
  refine tq_istore_n (E := E_Many_keepBetter d) (pc := 1) (cks_at k_Many_keepBetter 1 rfl rfl) (show 2 < 5 by decide) rfl ?_
  refine tq_iconst (E := E_Many_keepBetter d) (pc := 2) (cks_at k_Many_keepBetter 2 rfl rfl) ?_
  refine tq_istore_n (E := E_Many_keepBetter d) (pc := 3) (cks_at k_Many_keepBetter 3 rfl rfl) (show 3 < 5 by decide) rfl ?_
  refine tq_iconst (E := E_Many_keepBetter d) (pc := 4) (cks_at k_Many_keepBetter 4 rfl rfl) ?_
  refine tq_istore (E := E_Many_keepBetter d) (pc := 5) (cks_at k_Many_keepBetter 5 rfl rfl) (show 4 < 5 by decide) rfl ?_
  exact tq_sub [3, 4, 2, 1, 0] rfl (w_Many_keepBetter_L7 d _ (fun v2 v3 M7 => by
      refine tq_iload_n 1 (E := E_Many_keepBetter d) (pc := 45) (cks_at k_Many_keepBetter 25 rfl rfl) rfl ?_
      refine tq_aload_n 0 (E := E_Many_keepBetter d) (pc := 46) (cks_at k_Many_keepBetter 26 rfl rfl) rfl ?_
      refine tq_getI (E := E_Many_keepBetter d) (pc := 47) (cks_at k_Many_keepBetter 27 rfl rfl) fo_Many_53 so_55 rfl (by decide) ?_
      refine tq_icmp_lt (E := E_Many_keepBetter d) (pc := 50) (tgt := 69) (cks_at k_Many_keepBetter 28 rfl rfl) (by decide) ?_ ?_
      · exact tq_sub [0, 1, 2] rfl (w_Many_keepBetter_J69 d v2 v3 M7)
      · refine tq_iload_n 1 (E := E_Many_keepBetter d) (pc := 53) (cks_at k_Many_keepBetter 29 rfl rfl) rfl ?_
        refine tq_aload_n 0 (E := E_Many_keepBetter d) (pc := 54) (cks_at k_Many_keepBetter 30 rfl rfl) rfl ?_
        refine tq_getI (E := E_Many_keepBetter d) (pc := 55) (cks_at k_Many_keepBetter 31 rfl rfl) fo_Many_53 so_55 rfl (by decide) ?_
        refine tq_icmp_ne (E := E_Many_keepBetter d) (pc := 58) (tgt := 101) (cks_at k_Many_keepBetter 32 rfl rfl) (by decide) ?_ ?_
        · exact tq_vret (E := E_Many_keepBetter d) (pc := 101) (cks_at k_Many_keepBetter 53 rfl rfl) rfl
        · refine tq_iload_n 2 (E := E_Many_keepBetter d) (pc := 61) (cks_at k_Many_keepBetter 33 rfl rfl) rfl ?_
          refine tq_aload_n 0 (E := E_Many_keepBetter d) (pc := 62) (cks_at k_Many_keepBetter 34 rfl rfl) rfl ?_
          refine tq_getI (E := E_Many_keepBetter d) (pc := 63) (cks_at k_Many_keepBetter 35 rfl rfl) fo_Many_57 so_55 rfl (by decide) ?_
          refine tq_icmp_ge (E := E_Many_keepBetter d) (pc := 66) (tgt := 101) (cks_at k_Many_keepBetter 36 rfl rfl) (by decide) ?_ ?_
          · exact tq_vret (E := E_Many_keepBetter d) (pc := 101) (cks_at k_Many_keepBetter 53 rfl rfl) rfl
          · exact tq_sub [0, 1, 2] rfl (w_Many_keepBetter_J69 d v2 v3 M7)) FU (v1, 0, 0, 0, M))
abbrev E_Many_findOrder (d : Nat) : Ev := (Ct (d + 7), "BreathTown$Many", prog_3_method_2_code, 4, False, 0, (fun _ => 0), (Option.some Jvm.ClassFile.FieldType.boolean))
def f_Many_findOrder_B4 (kH : Int → Int → Int → Mm → Option (Int × Mm)) (kx19 : Int → Int → Mm → Option (Int × Mm)) (v1 v2 v3 : Int) (M : Mm) : Option (Int × Mm) :=
  if i32 v1 ≤ i32 v3 then
    kx19 v1 v2 M
  else
    kH v1 (v2 * v1) (v3 + 1) M
set_option maxRecDepth 20000 in
set_option maxHeartbeats 4000000 in
theorem w_Many_findOrder_B4 (d : Nat) (kH : Int → Int → Int → Mm → Option (Int × Mm)) (kx19 : Int → Int → Mm → Option (Int × Mm)) (hkH : ∀ (v1 v2 v3 : Int) (M : Mm), T (E_Many_findOrder d) injI 4 [(0, .ref 55), (1, vI v1), (2, vI v2), (3, vI v3)] [] M (kH v1 v2 v3 M)) (hkx19 : ∀ (v1 v2 : Int) (M : Mm), T (E_Many_findOrder d) injI 19 [(0, .ref 55), (1, vI v1), (2, vI v2)] [] M (kx19 v1 v2 M)) (v1 v2 v3 : Int) (M : Mm) : T (E_Many_findOrder d) injI 4 [(0, .ref 55), (1, vI v1), (2, vI v2), (3, vI v3)] [] M (f_Many_findOrder_B4 kH kx19 v1 v2 v3 M) := by
  unfold f_Many_findOrder_B4
  refine tq_iload_n 3 (E := E_Many_findOrder d) (pc := 4) (cks_at k_Many_findOrder 4 rfl rfl) rfl ?_
  refine tq_iload_n 1 (E := E_Many_findOrder d) (pc := 5) (cks_at k_Many_findOrder 5 rfl rfl) rfl ?_
  refine tq_icmp_ge (E := E_Many_findOrder d) (pc := 6) (tgt := 19) (cks_at k_Many_findOrder 6 rfl rfl) (by decide) ?_ ?_
  · exact tq_sub [0, 1, 2] rfl (hkx19 v1 v2 M)
  · refine tq_iload_n 2 (E := E_Many_findOrder d) (pc := 9) (cks_at k_Many_findOrder 7 rfl rfl) rfl ?_
    refine tq_iload_n 1 (E := E_Many_findOrder d) (pc := 10) (cks_at k_Many_findOrder 8 rfl rfl) rfl ?_
    refine tq_imul (E := E_Many_findOrder d) (pc := 11) (cks_at k_Many_findOrder 9 rfl rfl) ?_
    refine tq_istore_n (E := E_Many_findOrder d) (pc := 12) (cks_at k_Many_findOrder 10 rfl rfl) (show 2 < 4 by decide) rfl ?_
    refine tq_iinc 3 (E := E_Many_findOrder d) (pc := 13) (cks_at k_Many_findOrder 11 rfl rfl) rfl (show 3 < 4 by decide) rfl ?_
    refine tq_goto (tgt := 4) (E := E_Many_findOrder d) (pc := 16) (cks_at k_Many_findOrder 12 rfl rfl) (by decide) ?_
    exact tq_sub [2, 3, 1, 0] rfl (hkH v1 (v2 * v1) (v3 + 1) M)
def f_Many_findOrder_L4 (kx19 : Int → Int → Mm → Option (Int × Mm)) : Nat → Int × Int × Int × Mm → Option (Int × Mm) := lp fun kH s => f_Many_findOrder_B4 (fun v1 v2 v3 M => kH (v1, v2, v3, M)) kx19 s.1 s.2.1 s.2.2.1 s.2.2.2
set_option maxRecDepth 20000 in
set_option maxHeartbeats 4000000 in
theorem w_Many_findOrder_L4 (d : Nat) (kx19 : Int → Int → Mm → Option (Int × Mm)) (hkx19 : ∀ (v1 v2 : Int) (M : Mm), T (E_Many_findOrder d) injI 19 [(0, .ref 55), (1, vI v1), (2, vI v2)] [] M (kx19 v1 v2 M)) (n : Nat) (s : Int × Int × Int × Mm) : T (E_Many_findOrder d) injI 4 [(0, .ref 55), (1, vI s.1), (2, vI s.2.1), (3, vI s.2.2.1)] [] s.2.2.2 (f_Many_findOrder_L4 kx19 n s) :=
  tq_lp (fun s => [(0, .ref 55), (1, vI s.1), (2, vI s.2.1), (3, vI s.2.2.1)]) (fun s => s.2.2.2) (fun kH hH s => w_Many_findOrder_B4 d (fun v1 v2 v3 M => kH (v1, v2, v3, M)) kx19 (fun v1 v2 v3 M => hH (v1, v2, v3, M)) hkx19 s.1 s.2.1 s.2.2.1 s.2.2.2) n s
def f_Many_findOrder_B32 (kH : Int → Int → Int → Mm → Option (Int × Mm)) (kx65 : Mm → Option (Int × Mm)) (v1 v2 v3 : Int) (M : Mm) : Option (Int × Mm) :=
  if i32 v2 ≤ i32 v3 then
    kx65 M
  else
    bI (f_Many_isOrder v3 v1 M) (fun r5 M4 =>
    if i32 r5 = 0 then
      kH v1 v2 (v3 + 1) M4
    else
      bI (f_Many_allArrive v1 M4) (fun r7 M6 =>
      if i32 r7 = 0 then
        kH v1 v2 (v3 + 1) M6
      else
        bV (f_Many_keepBetter v1 M6) (fun M8 =>
        kH v1 v2 (v3 + 1) M8)))
set_option maxRecDepth 20000 in
set_option maxHeartbeats 4000000 in
theorem w_Many_findOrder_B32 (d : Nat) (kH : Int → Int → Int → Mm → Option (Int × Mm)) (kx65 : Mm → Option (Int × Mm)) (hkH : ∀ (v1 v2 v3 : Int) (M : Mm), T (E_Many_findOrder d) injI 32 [(0, .ref 55), (1, vI v1), (2, vI v2), (3, vI v3)] [] M (kH v1 v2 v3 M)) (hkx65 : ∀  (M : Mm), T (E_Many_findOrder d) injI 65 [(0, .ref 55)] [] M (kx65 M)) (v1 v2 v3 : Int) (M : Mm) : T (E_Many_findOrder d) injI 32 [(0, .ref 55), (1, vI v1), (2, vI v2), (3, vI v3)] [] M (f_Many_findOrder_B32 kH kx65 v1 v2 v3 M) := by
  unfold f_Many_findOrder_B32
  refine tq_iload_n 3 (E := E_Many_findOrder d) (pc := 32) (cks_at k_Many_findOrder 21 rfl rfl) rfl ?_
  refine tq_iload_n 2 (E := E_Many_findOrder d) (pc := 33) (cks_at k_Many_findOrder 22 rfl rfl) rfl ?_
  refine tq_icmp_ge (E := E_Many_findOrder d) (pc := 34) (tgt := 65) (cks_at k_Many_findOrder 23 rfl rfl) (by decide) ?_ ?_
  · exact tq_sub [0] rfl (hkx65 M)
  · refine tq_aload_n 0 (E := E_Many_findOrder d) (pc := 37) (cks_at k_Many_findOrder 24 rfl rfl) rfl ?_
    refine tq_iload_n 3 (E := E_Many_findOrder d) (pc := 38) (cks_at k_Many_findOrder 25 rfl rfl) rfl ?_
    refine tq_iload_n 1 (E := E_Many_findOrder d) (pc := 39) (cks_at k_Many_findOrder 26 rfl rfl) rfl ?_
    refine tq_V2 (E := E_Many_findOrder d) (pc := 40) (cks_at k_Many_findOrder 27 rfl rfl) mk_Many_isOrder lk_Many_60 rc_55 (Nat.le_of_ble_eq_true rfl) (c_Many_isOrder (d + 5) v3 v1 M) (k_I fun r5 M4 => ?_)
    refine tq_if_eq (E := E_Many_findOrder d) (pc := 43) (tgt := 59) (cks_at k_Many_findOrder 28 rfl rfl) (by decide) ?_ ?_
    · refine tq_iinc 3 (E := E_Many_findOrder d) (pc := 59) (cks_at k_Many_findOrder 36 rfl rfl) rfl (show 3 < 4 by decide) rfl ?_
      refine tq_goto (tgt := 32) (E := E_Many_findOrder d) (pc := 62) (cks_at k_Many_findOrder 37 rfl rfl) (by decide) ?_
      exact tq_sub [1, 2, 3, 0] rfl (hkH v1 v2 (v3 + 1) M4)
    · refine tq_aload_n 0 (E := E_Many_findOrder d) (pc := 46) (cks_at k_Many_findOrder 29 rfl rfl) rfl ?_
      refine tq_iload_n 1 (E := E_Many_findOrder d) (pc := 47) (cks_at k_Many_findOrder 30 rfl rfl) rfl ?_
      refine tq_V1 (E := E_Many_findOrder d) (pc := 48) (cks_at k_Many_findOrder 31 rfl rfl) mk_Many_allArrive lk_Many_64 rc_55 (Nat.le_of_ble_eq_true rfl) (c_Many_allArrive (d + 0) v1 M4) (k_I fun r7 M6 => ?_)
      refine tq_if_eq (E := E_Many_findOrder d) (pc := 51) (tgt := 59) (cks_at k_Many_findOrder 32 rfl rfl) (by decide) ?_ ?_
      · refine tq_iinc 3 (E := E_Many_findOrder d) (pc := 59) (cks_at k_Many_findOrder 36 rfl rfl) rfl (show 3 < 4 by decide) rfl ?_
        refine tq_goto (tgt := 32) (E := E_Many_findOrder d) (pc := 62) (cks_at k_Many_findOrder 37 rfl rfl) (by decide) ?_
        exact tq_sub [1, 2, 3, 0] rfl (hkH v1 v2 (v3 + 1) M6)
      · refine tq_aload_n 0 (E := E_Many_findOrder d) (pc := 54) (cks_at k_Many_findOrder 33 rfl rfl) rfl ?_
        refine tq_iload_n 1 (E := E_Many_findOrder d) (pc := 55) (cks_at k_Many_findOrder 34 rfl rfl) rfl ?_
        refine tq_V1 (E := E_Many_findOrder d) (pc := 56) (cks_at k_Many_findOrder 35 rfl rfl) mk_Many_keepBetter lk_Many_68 rc_55 (Nat.le_of_ble_eq_true rfl) (c_Many_keepBetter (d + 5) v1 M6) (k_V fun M8 => ?_)
        refine tq_iinc 3 (E := E_Many_findOrder d) (pc := 59) (cks_at k_Many_findOrder 36 rfl rfl) rfl (show 3 < 4 by decide) rfl ?_
        refine tq_goto (tgt := 32) (E := E_Many_findOrder d) (pc := 62) (cks_at k_Many_findOrder 37 rfl rfl) (by decide) ?_
        exact tq_sub [1, 2, 3, 0] rfl (hkH v1 v2 (v3 + 1) M8)
def f_Many_findOrder_L32 (kx65 : Mm → Option (Int × Mm)) : Nat → Int × Int × Int × Mm → Option (Int × Mm) := lp fun kH s => f_Many_findOrder_B32 (fun v1 v2 v3 M => kH (v1, v2, v3, M)) kx65 s.1 s.2.1 s.2.2.1 s.2.2.2
set_option maxRecDepth 20000 in
set_option maxHeartbeats 4000000 in
theorem w_Many_findOrder_L32 (d : Nat) (kx65 : Mm → Option (Int × Mm)) (hkx65 : ∀  (M : Mm), T (E_Many_findOrder d) injI 65 [(0, .ref 55)] [] M (kx65 M)) (n : Nat) (s : Int × Int × Int × Mm) : T (E_Many_findOrder d) injI 32 [(0, .ref 55), (1, vI s.1), (2, vI s.2.1), (3, vI s.2.2.1)] [] s.2.2.2 (f_Many_findOrder_L32 kx65 n s) :=
  tq_lp (fun s => [(0, .ref 55), (1, vI s.1), (2, vI s.2.1), (3, vI s.2.2.1)]) (fun s => s.2.2.2) (fun kH hH s => w_Many_findOrder_B32 d (fun v1 v2 v3 M => kH (v1, v2, v3, M)) kx65 (fun v1 v2 v3 M => hH (v1, v2, v3, M)) hkx65 s.1 s.2.1 s.2.2.1 s.2.2.2) n s
def f_Many_findOrder (v1 : Int) (M : Mm) : Option (Int × Mm) :=
  f_Many_findOrder_L4 (fun v1 v2 M1 => bd (up M1 55 6 1000000) (fun M2 =>
      bd (up M2 55 7 0) (fun M3 =>
      f_Many_findOrder_L32 (fun M9 => bV (f_Ways_clearBusy M9) (fun M10 =>
          if i32 (M10 55 6) = i32 1000000 then
            some (0, M10)
          else
            some (1, M10))) FU (v1, v2, 0, M3)))) FU (v1, 1, 0, M)
set_option maxRecDepth 20000 in
set_option maxHeartbeats 4000000 in
theorem c_Many_findOrder (d : Nat) (v1 : Int) (M : Mm) (Q : Option Value → Mm → Prop) (h : sat injI (f_Many_findOrder v1 M) Q) : Ct (d + 8) y_Many_findOrder [.ref 55, vI v1] M Q := by
  refine ct_in (d := d + 7) mk_Many_findOrder (Nat.le_of_ble_eq_true rfl) (?_ : T (E_Many_findOrder d) injI 0 [(0, .ref 55), (1, vI v1)] [] M (f_Many_findOrder v1 M)) h
  unfold f_Many_findOrder
  refine tq_iconst (E := E_Many_findOrder d) (pc := 0) (cks_at k_Many_findOrder 0 rfl rfl) ?_
  refine tq_istore_n (E := E_Many_findOrder d) (pc := 1) (cks_at k_Many_findOrder 1 rfl rfl) (show 2 < 4 by decide) rfl ?_
  refine tq_iconst (E := E_Many_findOrder d) (pc := 2) (cks_at k_Many_findOrder 2 rfl rfl) ?_
  refine tq_istore_n (E := E_Many_findOrder d) (pc := 3) (cks_at k_Many_findOrder 3 rfl rfl) (show 3 < 4 by decide) rfl ?_
  exact tq_sub [2, 3, 1, 0] rfl (w_Many_findOrder_L4 d _ (fun v1 v2 M1 => by
      refine tq_aload_n 0 (E := E_Many_findOrder d) (pc := 19) (cks_at k_Many_findOrder 13 rfl rfl) rfl ?_
      refine tq_ldc (z := 1000000) (E := E_Many_findOrder d) (pc := 20) (cks_at k_Many_findOrder 14 rfl rfl) cst_Many_52 ?_
      refine tq_putI (E := E_Many_findOrder d) (pc := 22) (cks_at k_Many_findOrder 15 rfl rfl) fo_Many_53 so_55 rfl po_1_6 (fun M2 => ?_)
      refine tq_aload_n 0 (E := E_Many_findOrder d) (pc := 25) (cks_at k_Many_findOrder 16 rfl rfl) rfl ?_
      refine tq_iconst (E := E_Many_findOrder d) (pc := 26) (cks_at k_Many_findOrder 17 rfl rfl) ?_
      refine tq_putI (E := E_Many_findOrder d) (pc := 27) (cks_at k_Many_findOrder 18 rfl rfl) fo_Many_57 so_55 rfl po_1_7 (fun M3 => ?_)
      refine tq_iconst (E := E_Many_findOrder d) (pc := 30) (cks_at k_Many_findOrder 19 rfl rfl) ?_
      refine tq_istore_n (E := E_Many_findOrder d) (pc := 31) (cks_at k_Many_findOrder 20 rfl rfl) (show 3 < 4 by decide) rfl ?_
      exact tq_sub [1, 2, 3, 0] rfl (w_Many_findOrder_L32 d _ (fun M9 => by
          refine tq_aload_n 0 (E := E_Many_findOrder d) (pc := 65) (cks_at k_Many_findOrder 38 rfl rfl) rfl ?_
          refine tq_getR (j := 48) (E := E_Many_findOrder d) (pc := 66) (cks_at k_Many_findOrder 39 rfl rfl) fo_Many_48 so_55 rfl sp_55_3 ?_
          refine tq_V0 (E := E_Many_findOrder d) (pc := 69) (cks_at k_Many_findOrder 40 rfl rfl) mk_Ways_clearBusy lk_Many_72 rc_48 (Nat.le_of_ble_eq_true rfl) (c_Ways_clearBusy (d + 6) M9) (k_V fun M10 => ?_)
          refine tq_aload_n 0 (E := E_Many_findOrder d) (pc := 72) (cks_at k_Many_findOrder 41 rfl rfl) rfl ?_
          refine tq_getI (E := E_Many_findOrder d) (pc := 73) (cks_at k_Many_findOrder 42 rfl rfl) fo_Many_53 so_55 rfl (by decide) ?_
          refine tq_ldc (z := 1000000) (E := E_Many_findOrder d) (pc := 76) (cks_at k_Many_findOrder 43 rfl rfl) cst_Many_52 ?_
          refine tq_icmp_eq (E := E_Many_findOrder d) (pc := 78) (tgt := 85) (cks_at k_Many_findOrder 44 rfl rfl) (by decide) ?_ ?_
          · refine tq_iconst (E := E_Many_findOrder d) (pc := 85) (cks_at k_Many_findOrder 47 rfl rfl) ?_
            exact tq_zretC (E := E_Many_findOrder d) (pc := 86) (cks_at k_Many_findOrder 48 rfl rfl) rfl (by decide)
          · refine tq_iconst (E := E_Many_findOrder d) (pc := 81) (cks_at k_Many_findOrder 45 rfl rfl) ?_
            refine tq_goto (tgt := 86) (E := E_Many_findOrder d) (pc := 82) (cks_at k_Many_findOrder 46 rfl rfl) (by decide) ?_
            exact tq_zretC (E := E_Many_findOrder d) (pc := 86) (cks_at k_Many_findOrder 48 rfl rfl) rfl (by decide)) FU (v1, v2, 0, M3))) FU (v1, 1, 0, M))
abbrev E_BT_rows (d : Nat) : Ev := (Ct (d + 8), "BreathTown", prog_1_method_20_code, 3, False, 0, (fun _ => 0), (Option.some Jvm.ClassFile.FieldType.int))
def f_BT_rows_J69 (v1 v2 : Int) (M : Mm) : Option (Int × Mm) :=
  if i32 v2 < i32 10 then
    some ((-1), M)
  else
    if i32 v1 ≤ i32 (v2 - 10) then
      some ((-1), M)
    else
      bI (f_BT_cell 57 (v2 - 10) M) (fun r6 M5 =>
      some (r6, M5))
set_option maxRecDepth 20000 in
set_option maxHeartbeats 4000000 in
theorem w_BT_rows_J69 (d : Nat) (v1 v2 : Int) (M : Mm) : T (E_BT_rows d) injI 69 [(0, .ref 0), (1, vI v1), (2, vI v2)] [] M (f_BT_rows_J69 v1 v2 M) := by
  unfold f_BT_rows_J69
  refine tq_iload_n 2 (E := E_BT_rows d) (pc := 69) (cks_at k_BT_rows 37 rfl rfl) rfl ?_
  refine tq_bipush (E := E_BT_rows d) (pc := 70) (cks_at k_BT_rows 38 rfl rfl) (by decide) (by decide) ?_
  refine tq_icmp_lt (E := E_BT_rows d) (pc := 72) (tgt := 100) (cks_at k_BT_rows 39 rfl rfl) (by decide) ?_ ?_
  · refine tq_iconst (E := E_BT_rows d) (pc := 100) (cks_at k_BT_rows 53 rfl rfl) ?_
    exact tq_iret (E := E_BT_rows d) (pc := 101) (cks_at k_BT_rows 54 rfl rfl) rfl
  · refine tq_iload_n 2 (E := E_BT_rows d) (pc := 75) (cks_at k_BT_rows 40 rfl rfl) rfl ?_
    refine tq_bipush (E := E_BT_rows d) (pc := 76) (cks_at k_BT_rows 41 rfl rfl) (by decide) (by decide) ?_
    refine tq_isub (E := E_BT_rows d) (pc := 78) (cks_at k_BT_rows 42 rfl rfl) ?_
    refine tq_iload_n 1 (E := E_BT_rows d) (pc := 79) (cks_at k_BT_rows 43 rfl rfl) rfl ?_
    refine tq_icmp_ge (E := E_BT_rows d) (pc := 80) (tgt := 100) (cks_at k_BT_rows 44 rfl rfl) (by decide) ?_ ?_
    · refine tq_iconst (E := E_BT_rows d) (pc := 100) (cks_at k_BT_rows 53 rfl rfl) ?_
      exact tq_iret (E := E_BT_rows d) (pc := 101) (cks_at k_BT_rows 54 rfl rfl) rfl
    · refine tq_aload_n 0 (E := E_BT_rows d) (pc := 83) (cks_at k_BT_rows 45 rfl rfl) rfl ?_
      refine tq_getR (j := 55) (E := E_BT_rows d) (pc := 84) (cks_at k_BT_rows 46 rfl rfl) fo_BT_67 so_0 rfl sp_0_7 ?_
      refine tq_getR (j := 57) (E := E_BT_rows d) (pc := 87) (cks_at k_BT_rows 47 rfl rfl) fo_BT_242 so_55 rfl sp_55_5 ?_
      refine tq_iload_n 2 (E := E_BT_rows d) (pc := 90) (cks_at k_BT_rows 48 rfl rfl) rfl ?_
      refine tq_bipush (E := E_BT_rows d) (pc := 91) (cks_at k_BT_rows 49 rfl rfl) (by decide) (by decide) ?_
      refine tq_isub (E := E_BT_rows d) (pc := 93) (cks_at k_BT_rows 50 rfl rfl) ?_
      refine tq_S2 (E := E_BT_rows d) (pc := 94) (cks_at k_BT_rows 51 rfl rfl) mk_BT_cell lk_BT_150 (Nat.le_of_ble_eq_true rfl) (c_BT_cell (d + 7) 57 sa_57 (v2 - 10) M) (k_I fun r6 M5 => ?_)
      refine tq_goto (tgt := 101) (E := E_BT_rows d) (pc := 97) (cks_at k_BT_rows 52 rfl rfl) (by decide) ?_
      exact tq_iret (E := E_BT_rows d) (pc := 101) (cks_at k_BT_rows 54 rfl rfl) rfl
def f_BT_rows (v1 : Int) (v2 : Int) (M : Mm) : Option (Int × Mm) :=
  if i32 v1 < i32 1 then
    some ((-1), M)
  else
    if i32 4 < i32 v1 then
      some ((-1), M)
    else
      bI (f_Told_count 3 2 M) (fun r2 M1 =>
      if i32 r2 < i32 v1 then
        some ((-1), M1)
      else
        bI (f_Many_findOrder v1 M1) (fun r4 M3 =>
        if ¬ i32 r4 = 0 then
          if ¬ i32 v2 = i32 ((-1)) then
            if i32 v2 < 0 then
              f_BT_rows_J69 v1 v2 M3
            else
              if i32 v1 ≤ i32 v2 then
                f_BT_rows_J69 v1 v2 M3
              else
                bI (f_BT_cell 56 v2 M3) (fun r8 M7 =>
                some (r8, M7))
          else
            some (M3 55 6, M3)
        else
          some ((-1), M3)))
set_option maxRecDepth 20000 in
set_option maxHeartbeats 4000000 in
theorem c_BT_rows (d : Nat) (v1 : Int) (v2 : Int) (M : Mm) (Q : Option Value → Mm → Prop) (h : sat injI (f_BT_rows v1 v2 M) Q) : Ct (d + 9) y_BT_rows [.ref 0, vI v1, vI v2] M Q := by
  refine ct_in (d := d + 8) mk_BT_rows (Nat.le_of_ble_eq_true rfl) (?_ : T (E_BT_rows d) injI 0 [(0, .ref 0), (1, vI v1), (2, vI v2)] [] M (f_BT_rows v1 v2 M)) h
  unfold f_BT_rows
  refine tq_iload_n 1 (E := E_BT_rows d) (pc := 0) (cks_at k_BT_rows 0 rfl rfl) rfl ?_
  refine tq_iconst (E := E_BT_rows d) (pc := 1) (cks_at k_BT_rows 1 rfl rfl) ?_
  refine tq_icmp_lt (E := E_BT_rows d) (pc := 2) (tgt := 33) (cks_at k_BT_rows 2 rfl rfl) (by decide) ?_ ?_
  · refine tq_iconst (E := E_BT_rows d) (pc := 33) (cks_at k_BT_rows 17 rfl rfl) ?_
    exact tq_iret (E := E_BT_rows d) (pc := 34) (cks_at k_BT_rows 18 rfl rfl) rfl
  · refine tq_iload_n 1 (E := E_BT_rows d) (pc := 5) (cks_at k_BT_rows 3 rfl rfl) rfl ?_
    refine tq_iconst (E := E_BT_rows d) (pc := 6) (cks_at k_BT_rows 4 rfl rfl) ?_
    refine tq_icmp_gt (E := E_BT_rows d) (pc := 7) (tgt := 33) (cks_at k_BT_rows 5 rfl rfl) (by decide) ?_ ?_
    · refine tq_iconst (E := E_BT_rows d) (pc := 33) (cks_at k_BT_rows 17 rfl rfl) ?_
      exact tq_iret (E := E_BT_rows d) (pc := 34) (cks_at k_BT_rows 18 rfl rfl) rfl
    · refine tq_iload_n 1 (E := E_BT_rows d) (pc := 10) (cks_at k_BT_rows 6 rfl rfl) rfl ?_
      refine tq_aload_n 0 (E := E_BT_rows d) (pc := 11) (cks_at k_BT_rows 7 rfl rfl) rfl ?_
      refine tq_getR (j := 3) (E := E_BT_rows d) (pc := 12) (cks_at k_BT_rows 8 rfl rfl) fo_BT_19 so_0 rfl sp_0_1 ?_
      refine tq_iconst (E := E_BT_rows d) (pc := 15) (cks_at k_BT_rows 9 rfl rfl) ?_
      refine tq_V1 (E := E_BT_rows d) (pc := 16) (cks_at k_BT_rows 10 rfl rfl) mk_Told_count lk_BT_132 (isTold_rc (Or.inl rfl)) (Nat.le_of_ble_eq_true rfl) (c_Told_count (d + 6) 3 (Or.inl rfl) 2 M) (k_I fun r2 M1 => ?_)
      refine tq_icmp_gt (E := E_BT_rows d) (pc := 19) (tgt := 33) (cks_at k_BT_rows 11 rfl rfl) (by decide) ?_ ?_
      · refine tq_iconst (E := E_BT_rows d) (pc := 33) (cks_at k_BT_rows 17 rfl rfl) ?_
        exact tq_iret (E := E_BT_rows d) (pc := 34) (cks_at k_BT_rows 18 rfl rfl) rfl
      · refine tq_aload_n 0 (E := E_BT_rows d) (pc := 22) (cks_at k_BT_rows 12 rfl rfl) rfl ?_
        refine tq_getR (j := 55) (E := E_BT_rows d) (pc := 23) (cks_at k_BT_rows 13 rfl rfl) fo_BT_67 so_0 rfl sp_0_7 ?_
        refine tq_iload_n 1 (E := E_BT_rows d) (pc := 26) (cks_at k_BT_rows 14 rfl rfl) rfl ?_
        refine tq_V1 (E := E_BT_rows d) (pc := 27) (cks_at k_BT_rows 15 rfl rfl) mk_Many_findOrder lk_BT_233 rc_55 (Nat.le_of_ble_eq_true rfl) (c_Many_findOrder (d + 0) v1 M1) (k_I fun r4 M3 => ?_)
        refine tq_if_ne (E := E_BT_rows d) (pc := 30) (tgt := 35) (cks_at k_BT_rows 16 rfl rfl) (by decide) ?_ ?_
        · refine tq_iload_n 2 (E := E_BT_rows d) (pc := 35) (cks_at k_BT_rows 19 rfl rfl) rfl ?_
          refine tq_iconst (E := E_BT_rows d) (pc := 36) (cks_at k_BT_rows 20 rfl rfl) ?_
          refine tq_icmp_ne (E := E_BT_rows d) (pc := 37) (tgt := 48) (cks_at k_BT_rows 21 rfl rfl) (by decide) ?_ ?_
          · refine tq_iload_n 2 (E := E_BT_rows d) (pc := 48) (cks_at k_BT_rows 26 rfl rfl) rfl ?_
            refine tq_if_lt (E := E_BT_rows d) (pc := 49) (tgt := 69) (cks_at k_BT_rows 27 rfl rfl) (by decide) ?_ ?_
            · exact tq_sub [0, 1, 2] rfl (w_BT_rows_J69 d v1 v2 M3)
            · refine tq_iload_n 2 (E := E_BT_rows d) (pc := 52) (cks_at k_BT_rows 28 rfl rfl) rfl ?_
              refine tq_iload_n 1 (E := E_BT_rows d) (pc := 53) (cks_at k_BT_rows 29 rfl rfl) rfl ?_
              refine tq_icmp_ge (E := E_BT_rows d) (pc := 54) (tgt := 69) (cks_at k_BT_rows 30 rfl rfl) (by decide) ?_ ?_
              · exact tq_sub [0, 1, 2] rfl (w_BT_rows_J69 d v1 v2 M3)
              · refine tq_aload_n 0 (E := E_BT_rows d) (pc := 57) (cks_at k_BT_rows 31 rfl rfl) rfl ?_
                refine tq_getR (j := 55) (E := E_BT_rows d) (pc := 58) (cks_at k_BT_rows 32 rfl rfl) fo_BT_67 so_0 rfl sp_0_7 ?_
                refine tq_getR (j := 56) (E := E_BT_rows d) (pc := 61) (cks_at k_BT_rows 33 rfl rfl) fo_BT_239 so_55 rfl sp_55_4 ?_
                refine tq_iload_n 2 (E := E_BT_rows d) (pc := 64) (cks_at k_BT_rows 34 rfl rfl) rfl ?_
                refine tq_S2 (E := E_BT_rows d) (pc := 65) (cks_at k_BT_rows 35 rfl rfl) mk_BT_cell lk_BT_150 (Nat.le_of_ble_eq_true rfl) (c_BT_cell (d + 7) 56 sa_56 v2 M3) (k_I fun r8 M7 => ?_)
                exact tq_iret (E := E_BT_rows d) (pc := 68) (cks_at k_BT_rows 36 rfl rfl) rfl
          · refine tq_aload_n 0 (E := E_BT_rows d) (pc := 40) (cks_at k_BT_rows 22 rfl rfl) rfl ?_
            refine tq_getR (j := 55) (E := E_BT_rows d) (pc := 41) (cks_at k_BT_rows 23 rfl rfl) fo_BT_67 so_0 rfl sp_0_7 ?_
            refine tq_getI (E := E_BT_rows d) (pc := 44) (cks_at k_BT_rows 24 rfl rfl) fo_BT_236 so_55 rfl (by decide) ?_
            exact tq_iret (E := E_BT_rows d) (pc := 47) (cks_at k_BT_rows 25 rfl rfl) rfl
        · refine tq_iconst (E := E_BT_rows d) (pc := 33) (cks_at k_BT_rows 17 rfl rfl) ?_
          exact tq_iret (E := E_BT_rows d) (pc := 34) (cks_at k_BT_rows 18 rfl rfl) rfl
abbrev E_M_isParade (d : Nat) : Ev := (Ct (d + 6), "BreathTownModel", prog_14_method_90_code, 7, False, 0, (fun _ => 0), (Option.some Jvm.ClassFile.FieldType.boolean))
def f_M_isParade_B11 (kH : Int → Int → Int → Int → Mm → Option (Int × Mm)) (v1 v2 v4 v5 : Int) (M : Mm) : Option (Int × Mm) :=
  if i32 v5 < 0 then
    some (1, M)
  else
    gd (0 ≤ i32 v5 ∧ i32 v5 < ((12 : Nat) : Int)) <|
    bI (f_M_broadOf v1 M) (fun r2 M1 =>
    bI (f_M_takesOf (M 111 (i32 v5).toNat) M1) (fun r4 M3 =>
    bI (f_M_isWide (M 111 (i32 v5).toNat) r2 v4 (r4 + v2) M3) (fun r6 M5 =>
    if ¬ i32 r6 = 0 then
      bI (f_M_takesOf (M 111 (i32 v5).toNat) M5) (fun r8 M7 =>
      kH v1 v2 (v4 + r8) (v5 + (-1)) M7)
    else
      some (0, M5))))
set_option maxRecDepth 20000 in
set_option maxHeartbeats 4000000 in
theorem w_M_isParade_B11 (d : Nat) (kH : Int → Int → Int → Int → Mm → Option (Int × Mm)) (hkH : ∀ (v1 v2 v4 v5 : Int) (M : Mm), T (E_M_isParade d) injI 11 [(0, .ref 78), (1, vI v1), (2, vI v2), (4, vI v4), (5, vI v5)] [] M (kH v1 v2 v4 v5 M)) (v1 v2 v4 v5 : Int) (M : Mm) : T (E_M_isParade d) injI 11 [(0, .ref 78), (1, vI v1), (2, vI v2), (4, vI v4), (5, vI v5)] [] M (f_M_isParade_B11 kH v1 v2 v4 v5 M) := by
  unfold f_M_isParade_B11
  refine tq_iload 4 (E := E_M_isParade d) (pc := 11) (cks_at k_M_isParade 7 rfl rfl) rfl ?_
  refine tq_if_lt (E := E_M_isParade d) (pc := 13) (tgt := 68) (cks_at k_M_isParade 8 rfl rfl) (by decide) ?_ ?_
  · refine tq_iconst (E := E_M_isParade d) (pc := 68) (cks_at k_M_isParade 37 rfl rfl) ?_
    exact tq_zretC (E := E_M_isParade d) (pc := 69) (cks_at k_M_isParade 38 rfl rfl) rfl (by decide)
  · refine tq_aload_n 0 (E := E_M_isParade d) (pc := 16) (cks_at k_M_isParade 9 rfl rfl) rfl ?_
    refine tq_getR (j := 111) (E := E_M_isParade d) (pc := 17) (cks_at k_M_isParade 10 rfl rfl) fo_M_112 so_78 rfl sp_78_49 ?_
    refine tq_iload 4 (E := E_M_isParade d) (pc := 20) (cks_at k_M_isParade 11 rfl rfl) rfl ?_
    refine tq_iald (E := E_M_isParade d) (pc := 22) (cks_at k_M_isParade 12 rfl rfl) sa_111 sn_111 ?_
    refine tq_istore (E := E_M_isParade d) (pc := 23) (cks_at k_M_isParade 13 rfl rfl) (show 6 < 7 by decide) rfl ?_
    refine tq_aload_n 1 (E := E_M_isParade d) (pc := 25) (cks_at k_M_isParade 14 rfl rfl) rfl ?_
    refine tq_iload 0 (E := E_M_isParade d) (pc := 26) (cks_at k_M_isParade 15 rfl rfl) rfl ?_
    refine tq_aload_n 1 (E := E_M_isParade d) (pc := 28) (cks_at k_M_isParade 16 rfl rfl) rfl ?_
    refine tq_iload_n 2 (E := E_M_isParade d) (pc := 29) (cks_at k_M_isParade 17 rfl rfl) rfl ?_
    refine tq_V1 (E := E_M_isParade d) (pc := 30) (cks_at k_M_isParade 18 rfl rfl) mk_M_broadOf lk_M_477 rc_78 (Nat.le_of_ble_eq_true rfl) (c_M_broadOf (d + 5) v1 M) (k_I fun r2 M1 => ?_)
    refine tq_iload 4 (E := E_M_isParade d) (pc := 33) (cks_at k_M_isParade 19 rfl rfl) rfl ?_
    refine tq_aload_n 1 (E := E_M_isParade d) (pc := 35) (cks_at k_M_isParade 20 rfl rfl) rfl ?_
    refine tq_iload 0 (E := E_M_isParade d) (pc := 36) (cks_at k_M_isParade 21 rfl rfl) rfl ?_
    refine tq_V1 (E := E_M_isParade d) (pc := 38) (cks_at k_M_isParade 22 rfl rfl) mk_M_takesOf lk_M_440 rc_78 (Nat.le_of_ble_eq_true rfl) (c_M_takesOf (d + 5) (M 111 (i32 v5).toNat) M1) (k_I fun r4 M3 => ?_)
    refine tq_iload_n 3 (E := E_M_isParade d) (pc := 41) (cks_at k_M_isParade 23 rfl rfl) rfl ?_
    refine tq_iadd (E := E_M_isParade d) (pc := 42) (cks_at k_M_isParade 24 rfl rfl) ?_
    refine tq_V4 (E := E_M_isParade d) (pc := 43) (cks_at k_M_isParade 25 rfl rfl) mk_M_isWide lk_M_443 rc_78 (Nat.le_of_ble_eq_true rfl) (c_M_isWide (d + 0) (M 111 (i32 v5).toNat) r2 v4 (r4 + v2) M3) (k_I fun r6 M5 => ?_)
    refine tq_if_ne (E := E_M_isParade d) (pc := 46) (tgt := 51) (cks_at k_M_isParade 26 rfl rfl) (by decide) ?_ ?_
    · refine tq_iload 4 (E := E_M_isParade d) (pc := 51) (cks_at k_M_isParade 29 rfl rfl) rfl ?_
      refine tq_aload_n 1 (E := E_M_isParade d) (pc := 53) (cks_at k_M_isParade 30 rfl rfl) rfl ?_
      refine tq_iload 0 (E := E_M_isParade d) (pc := 54) (cks_at k_M_isParade 31 rfl rfl) rfl ?_
      refine tq_V1 (E := E_M_isParade d) (pc := 56) (cks_at k_M_isParade 32 rfl rfl) mk_M_takesOf lk_M_440 rc_78 (Nat.le_of_ble_eq_true rfl) (c_M_takesOf (d + 5) (M 111 (i32 v5).toNat) M5) (k_I fun r8 M7 => ?_)
      refine tq_iadd (E := E_M_isParade d) (pc := 59) (cks_at k_M_isParade 33 rfl rfl) ?_
      refine tq_istore (E := E_M_isParade d) (pc := 60) (cks_at k_M_isParade 34 rfl rfl) (show 4 < 7 by decide) rfl ?_
      refine tq_iinc 5 (E := E_M_isParade d) (pc := 62) (cks_at k_M_isParade 35 rfl rfl) rfl (show 5 < 7 by decide) rfl ?_
      refine tq_goto (tgt := 11) (E := E_M_isParade d) (pc := 65) (cks_at k_M_isParade 36 rfl rfl) (by decide) ?_
      exact tq_sub [3, 4, 5, 1, 0] rfl (hkH v1 v2 (v4 + r8) (v5 + (-1)) M7)
    · refine tq_iconst (E := E_M_isParade d) (pc := 49) (cks_at k_M_isParade 27 rfl rfl) ?_
      exact tq_zretC (E := E_M_isParade d) (pc := 50) (cks_at k_M_isParade 28 rfl rfl) rfl (by decide)
def f_M_isParade_L11 : Nat → Int × Int × Int × Int × Mm → Option (Int × Mm) := lp fun kH s => f_M_isParade_B11 (fun v1 v2 v4 v5 M => kH (v1, v2, v4, v5, M)) s.1 s.2.1 s.2.2.1 s.2.2.2.1 s.2.2.2.2
set_option maxRecDepth 20000 in
set_option maxHeartbeats 4000000 in
theorem w_M_isParade_L11 (d : Nat) (n : Nat) (s : Int × Int × Int × Int × Mm) : T (E_M_isParade d) injI 11 [(0, .ref 78), (1, vI s.1), (2, vI s.2.1), (4, vI s.2.2.1), (5, vI s.2.2.2.1)] [] s.2.2.2.2 (f_M_isParade_L11 n s) :=
  tq_lp (fun s => [(0, .ref 78), (1, vI s.1), (2, vI s.2.1), (4, vI s.2.2.1), (5, vI s.2.2.2.1)]) (fun s => s.2.2.2.2) (fun kH hH s => w_M_isParade_B11 d (fun v1 v2 v4 v5 M => kH (v1, v2, v4, v5, M)) (fun v1 v2 v4 v5 M => hH (v1, v2, v4, v5, M)) s.1 s.2.1 s.2.2.1 s.2.2.2.1 s.2.2.2.2) n s
def f_M_isParade (v1 : Int) (v2 : Int) (v3 : Int) (M : Mm) : Option (Int × Mm) :=
  f_M_isParade_L11 FU (v1, v2, v3, ((M 78 51) - 1), M)
set_option maxRecDepth 20000 in
set_option maxHeartbeats 4000000 in
theorem c_M_isParade (d : Nat) (v1 : Int) (v2 : Int) (v3 : Int) (M : Mm) (Q : Option Value → Mm → Prop) (h : sat injI (f_M_isParade v1 v2 v3 M) Q) : Ct (d + 7) y_M_isParade [.ref 78, vI v1, vI v2, vI v3] M Q := by
  refine ct_in (d := d + 6) mk_M_isParade (Nat.le_of_ble_eq_true rfl) (?_ : T (E_M_isParade d) injI 0 [(0, .ref 78), (1, vI v1), (2, vI v2), (3, vI v3)] [] M (f_M_isParade v1 v2 v3 M)) h
  unfold f_M_isParade
  refine tq_iload_n 3 (E := E_M_isParade d) (pc := 0) (cks_at k_M_isParade 0 rfl rfl) rfl ?_
  refine tq_istore (E := E_M_isParade d) (pc := 1) (cks_at k_M_isParade 1 rfl rfl) (show 4 < 7 by decide) rfl ?_
  refine tq_aload_n 1 (E := E_M_isParade d) (pc := 3) (cks_at k_M_isParade 2 rfl rfl) rfl ?_
  refine tq_getI (E := E_M_isParade d) (pc := 4) (cks_at k_M_isParade 3 rfl rfl) fo_M_490 so_78 rfl (by decide) ?_
  refine tq_iconst (E := E_M_isParade d) (pc := 7) (cks_at k_M_isParade 4 rfl rfl) ?_
  refine tq_isub (E := E_M_isParade d) (pc := 8) (cks_at k_M_isParade 5 rfl rfl) ?_
  refine tq_istore (E := E_M_isParade d) (pc := 9) (cks_at k_M_isParade 6 rfl rfl) (show 5 < 7 by decide) rfl ?_
  exact tq_sub [2, 3, 4, 1, 0] rfl (w_M_isParade_L11 d FU (v1, v2, v3, ((M 78 51) - 1), M))
abbrev E_M_parade (d : Nat) : Ev := (Ct (d + 14), "BreathTownModel", prog_14_method_91_code, 4, False, 0, (fun _ => 0), (Option.some Jvm.ClassFile.FieldType.int))
def f_M_parade_B37 (kH : Int → Int → Int → Mm → Option (Int × Mm)) (v1 v2 v3 : Int) (M : Mm) : Option (Int × Mm) :=
  if i32 ((M 108 0) + 400) < i32 v3 then
    some ((-1), M)
  else
    bI (f_M_isParade v1 v2 v3 M) (fun r8 M7 =>
    if i32 r8 = 0 then
      kH v1 v2 (v3 + 1) M7
    else
      some (v3, M7))
set_option maxRecDepth 20000 in
set_option maxHeartbeats 4000000 in
theorem w_M_parade_B37 (d : Nat) (kH : Int → Int → Int → Mm → Option (Int × Mm)) (hkH : ∀ (v1 v2 v3 : Int) (M : Mm), T (E_M_parade d) injI 37 [(0, .ref 78), (1, vI v1), (2, vI v2), (3, vI v3)] [] M (kH v1 v2 v3 M)) (v1 v2 v3 : Int) (M : Mm) : T (E_M_parade d) injI 37 [(0, .ref 78), (1, vI v1), (2, vI v2), (3, vI v3)] [] M (f_M_parade_B37 kH v1 v2 v3 M) := by
  unfold f_M_parade_B37
  refine tq_iload_n 3 (E := E_M_parade d) (pc := 37) (cks_at k_M_parade 21 rfl rfl) rfl ?_
  refine tq_aload_n 0 (E := E_M_parade d) (pc := 38) (cks_at k_M_parade 22 rfl rfl) rfl ?_
  refine tq_getR (j := 108) (E := E_M_parade d) (pc := 39) (cks_at k_M_parade 23 rfl rfl) fo_M_103 so_78 rfl sp_78_45 ?_
  refine tq_iconst (E := E_M_parade d) (pc := 42) (cks_at k_M_parade 24 rfl rfl) ?_
  refine tq_ialdC 0 (E := E_M_parade d) (pc := 43) (cks_at k_M_parade 25 rfl rfl) sa_108 sn_108 (by decide) ?_
  refine tq_sipush (E := E_M_parade d) (pc := 44) (cks_at k_M_parade 26 rfl rfl) (by decide) (by decide) ?_
  refine tq_iadd (E := E_M_parade d) (pc := 47) (cks_at k_M_parade 27 rfl rfl) ?_
  refine tq_icmp_gt (E := E_M_parade d) (pc := 48) (tgt := 69) (cks_at k_M_parade 28 rfl rfl) (by decide) ?_ ?_
  · refine tq_iconst (E := E_M_parade d) (pc := 69) (cks_at k_M_parade 39 rfl rfl) ?_
    exact tq_iret (E := E_M_parade d) (pc := 70) (cks_at k_M_parade 40 rfl rfl) rfl
  · refine tq_aload_n 0 (E := E_M_parade d) (pc := 51) (cks_at k_M_parade 29 rfl rfl) rfl ?_
    refine tq_iload_n 1 (E := E_M_parade d) (pc := 52) (cks_at k_M_parade 30 rfl rfl) rfl ?_
    refine tq_iload_n 2 (E := E_M_parade d) (pc := 53) (cks_at k_M_parade 31 rfl rfl) rfl ?_
    refine tq_iload_n 3 (E := E_M_parade d) (pc := 54) (cks_at k_M_parade 32 rfl rfl) rfl ?_
    refine tq_V3 (E := E_M_parade d) (pc := 55) (cks_at k_M_parade 33 rfl rfl) mk_M_isParade lk_M_541 rc_78 (Nat.le_of_ble_eq_true rfl) (c_M_isParade (d + 7) v1 v2 v3 M) (k_I fun r8 M7 => ?_)
    refine tq_if_eq (E := E_M_parade d) (pc := 58) (tgt := 63) (cks_at k_M_parade 34 rfl rfl) (by decide) ?_ ?_
    · refine tq_iinc 3 (E := E_M_parade d) (pc := 63) (cks_at k_M_parade 37 rfl rfl) rfl (show 3 < 4 by decide) rfl ?_
      refine tq_goto (tgt := 37) (E := E_M_parade d) (pc := 66) (cks_at k_M_parade 38 rfl rfl) (by decide) ?_
      exact tq_sub [1, 2, 3, 0] rfl (hkH v1 v2 (v3 + 1) M7)
    · refine tq_iload_n 3 (E := E_M_parade d) (pc := 61) (cks_at k_M_parade 35 rfl rfl) rfl ?_
      exact tq_iret (E := E_M_parade d) (pc := 62) (cks_at k_M_parade 36 rfl rfl) rfl
def f_M_parade_L37 : Nat → Int × Int × Int × Mm → Option (Int × Mm) := lp fun kH s => f_M_parade_B37 (fun v1 v2 v3 M => kH (v1, v2, v3, M)) s.1 s.2.1 s.2.2.1 s.2.2.2
set_option maxRecDepth 20000 in
set_option maxHeartbeats 4000000 in
theorem w_M_parade_L37 (d : Nat) (n : Nat) (s : Int × Int × Int × Mm) : T (E_M_parade d) injI 37 [(0, .ref 78), (1, vI s.1), (2, vI s.2.1), (3, vI s.2.2.1)] [] s.2.2.2 (f_M_parade_L37 n s) :=
  tq_lp (fun s => [(0, .ref 78), (1, vI s.1), (2, vI s.2.1), (3, vI s.2.2.1)]) (fun s => s.2.2.2) (fun kH hH s => w_M_parade_B37 d (fun v1 v2 v3 M => kH (v1, v2, v3, M)) (fun v1 v2 v3 M => hH (v1, v2, v3, M)) s.1 s.2.1 s.2.2.1 s.2.2.2) n s
def f_M_parade (v1 : Int) (v2 : Int) (M : Mm) : Option (Int × Mm) :=
  bI (f_M_isWalker v1 M) (fun r2 M1 =>
  if i32 r2 = 0 then
    some ((-1), M1)
  else
    bI (f_M_isIn (i32 v2) 0 48 M1) (fun r4 M3 =>
    if i32 r4 = 0 then
      some ((-1), M3)
    else
      bI (f_M_hasWay v1 M3) (fun r6 M5 =>
      if ¬ i32 r6 = 0 then
        f_M_parade_L37 FU (v1, v2, (M5 108 0), M5)
      else
        some ((-1), M5))))
set_option maxRecDepth 20000 in
set_option maxHeartbeats 4000000 in
theorem c_M_parade (d : Nat) (v1 : Int) (v2 : Int) (M : Mm) (Q : Option Value → Mm → Prop) (h : sat injI (f_M_parade v1 v2 M) Q) : Ct (d + 15) y_M_parade [.ref 78, vI v1, vI v2] M Q := by
  refine ct_in (d := d + 14) mk_M_parade (Nat.le_of_ble_eq_true rfl) (?_ : T (E_M_parade d) injI 0 [(0, .ref 78), (1, vI v1), (2, vI v2)] [] M (f_M_parade v1 v2 M)) h
  unfold f_M_parade
  refine tq_aload_n 0 (E := E_M_parade d) (pc := 0) (cks_at k_M_parade 0 rfl rfl) rfl ?_
  refine tq_iload_n 1 (E := E_M_parade d) (pc := 1) (cks_at k_M_parade 1 rfl rfl) rfl ?_
  refine tq_V1 (E := E_M_parade d) (pc := 2) (cks_at k_M_parade 2 rfl rfl) mk_M_isWalker lk_M_512 rc_78 (Nat.le_of_ble_eq_true rfl) (c_M_isWalker (d + 12) v1 M) (k_I fun r2 M1 => ?_)
  refine tq_if_eq (E := E_M_parade d) (pc := 5) (tgt := 28) (cks_at k_M_parade 3 rfl rfl) (by decide) ?_ ?_
  · refine tq_iconst (E := E_M_parade d) (pc := 28) (cks_at k_M_parade 14 rfl rfl) ?_
    exact tq_iret (E := E_M_parade d) (pc := 29) (cks_at k_M_parade 15 rfl rfl) rfl
  · refine tq_iload_n 2 (E := E_M_parade d) (pc := 8) (cks_at k_M_parade 4 rfl rfl) rfl ?_
    refine tq_i2l (E := E_M_parade d) (pc := 9) (cks_at k_M_parade 5 rfl rfl) ?_
    refine tq_lconst0 (E := E_M_parade d) (pc := 10) (cks_at k_M_parade 6 rfl rfl) ?_
    refine tq_ldc2 (z := 48) (E := E_M_parade d) (pc := 11) (cks_at k_M_parade 7 rfl rfl) cst_M_539 ?_
    refine tq_S3 (E := E_M_parade d) (pc := 14) (cks_at k_M_parade 8 rfl rfl) mk_M_isIn lk_M_265 (Nat.le_of_ble_eq_true rfl) (c_M_isIn (d + 13) (i32 v2) 0 48 M1) (k_I fun r4 M3 => ?_)
    refine tq_if_eq (E := E_M_parade d) (pc := 17) (tgt := 28) (cks_at k_M_parade 9 rfl rfl) (by decide) ?_ ?_
    · refine tq_iconst (E := E_M_parade d) (pc := 28) (cks_at k_M_parade 14 rfl rfl) ?_
      exact tq_iret (E := E_M_parade d) (pc := 29) (cks_at k_M_parade 15 rfl rfl) rfl
    · refine tq_aload_n 0 (E := E_M_parade d) (pc := 20) (cks_at k_M_parade 10 rfl rfl) rfl ?_
      refine tq_iload_n 1 (E := E_M_parade d) (pc := 21) (cks_at k_M_parade 11 rfl rfl) rfl ?_
      refine tq_V1 (E := E_M_parade d) (pc := 22) (cks_at k_M_parade 12 rfl rfl) mk_M_hasWay lk_M_525 rc_78 (Nat.le_of_ble_eq_true rfl) (c_M_hasWay (d + 0) v1 M3) (k_I fun r6 M5 => ?_)
      refine tq_if_ne (E := E_M_parade d) (pc := 25) (tgt := 30) (cks_at k_M_parade 13 rfl rfl) (by decide) ?_ ?_
      · refine tq_aload_n 0 (E := E_M_parade d) (pc := 30) (cks_at k_M_parade 16 rfl rfl) rfl ?_
        refine tq_getR (j := 108) (E := E_M_parade d) (pc := 31) (cks_at k_M_parade 17 rfl rfl) fo_M_103 so_78 rfl sp_78_45 ?_
        refine tq_iconst (E := E_M_parade d) (pc := 34) (cks_at k_M_parade 18 rfl rfl) ?_
        refine tq_ialdC 0 (E := E_M_parade d) (pc := 35) (cks_at k_M_parade 19 rfl rfl) sa_108 sn_108 (by decide) ?_
        refine tq_istore_n (E := E_M_parade d) (pc := 36) (cks_at k_M_parade 20 rfl rfl) (show 3 < 4 by decide) rfl ?_
        exact tq_sub [1, 2, 3, 0] rfl (w_M_parade_L37 d FU (v1, v2, (M5 108 0), M5))
      · refine tq_iconst (E := E_M_parade d) (pc := 28) (cks_at k_M_parade 14 rfl rfl) ?_
        exact tq_iret (E := E_M_parade d) (pc := 29) (cks_at k_M_parade 15 rfl rfl) rfl
abbrev E_Ways_firstNarrow (d : Nat) : Ev := (Ct (d + 5), "BreathTown$Ways", prog_11_method_16_code, 6, False, 0, (fun _ => 0), (Option.some Jvm.ClassFile.FieldType.int))
def f_Ways_firstNarrow_B3 (kH : Int → Int → Int → Int → Mm → Option (Int × Mm)) (v1 v2 v4 v5 : Int) (M : Mm) : Option (Int × Mm) :=
  if i32 v4 ≤ i32 v5 then
    some ((-1), M)
  else
    bI (f_Widths_widthAt v1 v5 M) (fun r2 M1 =>
    if i32 v2 ≤ i32 r2 then
      kH v1 v2 v4 (v5 + 1) M1
    else
      some (v5, M1))
set_option maxRecDepth 20000 in
set_option maxHeartbeats 4000000 in
theorem w_Ways_firstNarrow_B3 (d : Nat) (kH : Int → Int → Int → Int → Mm → Option (Int × Mm)) (hkH : ∀ (v1 v2 v4 v5 : Int) (M : Mm), T (E_Ways_firstNarrow d) injI 3 [(0, .ref 48), (1, vI v1), (2, vI v2), (4, vI v4), (5, vI v5)] [] M (kH v1 v2 v4 v5 M)) (v1 v2 v4 v5 : Int) (M : Mm) : T (E_Ways_firstNarrow d) injI 3 [(0, .ref 48), (1, vI v1), (2, vI v2), (4, vI v4), (5, vI v5)] [] M (f_Ways_firstNarrow_B3 kH v1 v2 v4 v5 M) := by
  unfold f_Ways_firstNarrow_B3
  refine tq_iload 4 (E := E_Ways_firstNarrow d) (pc := 3) (cks_at k_Ways_firstNarrow 2 rfl rfl) rfl ?_
  refine tq_iload 3 (E := E_Ways_firstNarrow d) (pc := 5) (cks_at k_Ways_firstNarrow 3 rfl rfl) rfl ?_
  refine tq_icmp_ge (E := E_Ways_firstNarrow d) (pc := 7) (tgt := 33) (cks_at k_Ways_firstNarrow 4 rfl rfl) (by decide) ?_ ?_
  · refine tq_iconst (E := E_Ways_firstNarrow d) (pc := 33) (cks_at k_Ways_firstNarrow 16 rfl rfl) ?_
    exact tq_iret (E := E_Ways_firstNarrow d) (pc := 34) (cks_at k_Ways_firstNarrow 17 rfl rfl) rfl
  · refine tq_aload_n 0 (E := E_Ways_firstNarrow d) (pc := 10) (cks_at k_Ways_firstNarrow 5 rfl rfl) rfl ?_
    refine tq_getR (j := 46) (E := E_Ways_firstNarrow d) (pc := 11) (cks_at k_Ways_firstNarrow 6 rfl rfl) fo_Ways_38 so_48 rfl sp_48_2 ?_
    refine tq_iload_n 1 (E := E_Ways_firstNarrow d) (pc := 14) (cks_at k_Ways_firstNarrow 7 rfl rfl) rfl ?_
    refine tq_iload 4 (E := E_Ways_firstNarrow d) (pc := 15) (cks_at k_Ways_firstNarrow 8 rfl rfl) rfl ?_
    refine tq_V2 (E := E_Ways_firstNarrow d) (pc := 17) (cks_at k_Ways_firstNarrow 9 rfl rfl) mk_Widths_widthAt lk_Ways_70 rc_46 (Nat.le_of_ble_eq_true rfl) (c_Widths_widthAt (d + 0) v1 v5 M) (k_I fun r2 M1 => ?_)
    refine tq_iload_n 2 (E := E_Ways_firstNarrow d) (pc := 20) (cks_at k_Ways_firstNarrow 10 rfl rfl) rfl ?_
    refine tq_icmp_ge (E := E_Ways_firstNarrow d) (pc := 21) (tgt := 27) (cks_at k_Ways_firstNarrow 11 rfl rfl) (by decide) ?_ ?_
    · refine tq_iinc 4 (E := E_Ways_firstNarrow d) (pc := 27) (cks_at k_Ways_firstNarrow 14 rfl rfl) rfl (show 5 < 6 by decide) rfl ?_
      refine tq_goto (tgt := 3) (E := E_Ways_firstNarrow d) (pc := 30) (cks_at k_Ways_firstNarrow 15 rfl rfl) (by decide) ?_
      exact tq_sub [1, 2, 3, 4, 0] rfl (hkH v1 v2 v4 (v5 + 1) M1)
    · refine tq_iload 4 (E := E_Ways_firstNarrow d) (pc := 24) (cks_at k_Ways_firstNarrow 12 rfl rfl) rfl ?_
      exact tq_iret (E := E_Ways_firstNarrow d) (pc := 26) (cks_at k_Ways_firstNarrow 13 rfl rfl) rfl
def f_Ways_firstNarrow_L3 : Nat → Int × Int × Int × Int × Mm → Option (Int × Mm) := lp fun kH s => f_Ways_firstNarrow_B3 (fun v1 v2 v4 v5 M => kH (v1, v2, v4, v5, M)) s.1 s.2.1 s.2.2.1 s.2.2.2.1 s.2.2.2.2
set_option maxRecDepth 20000 in
set_option maxHeartbeats 4000000 in
theorem w_Ways_firstNarrow_L3 (d : Nat) (n : Nat) (s : Int × Int × Int × Int × Mm) : T (E_Ways_firstNarrow d) injI 3 [(0, .ref 48), (1, vI s.1), (2, vI s.2.1), (4, vI s.2.2.1), (5, vI s.2.2.2.1)] [] s.2.2.2.2 (f_Ways_firstNarrow_L3 n s) :=
  tq_lp (fun s => [(0, .ref 48), (1, vI s.1), (2, vI s.2.1), (4, vI s.2.2.1), (5, vI s.2.2.2.1)]) (fun s => s.2.2.2.2) (fun kH hH s => w_Ways_firstNarrow_B3 d (fun v1 v2 v4 v5 M => kH (v1, v2, v4, v5, M)) (fun v1 v2 v4 v5 M => hH (v1, v2, v4, v5, M)) s.1 s.2.1 s.2.2.1 s.2.2.2.1 s.2.2.2.2) n s
def f_Ways_firstNarrow (v1 : Int) (v2 : Int) (v3 : Int) (v4 : Int) (M : Mm) : Option (Int × Mm) :=
  f_Ways_firstNarrow_L3 FU (v1, v2, v4, v3, M)
set_option maxRecDepth 20000 in
set_option maxHeartbeats 4000000 in
theorem c_Ways_firstNarrow (d : Nat) (v1 : Int) (v2 : Int) (v3 : Int) (v4 : Int) (M : Mm) (Q : Option Value → Mm → Prop) (h : sat injI (f_Ways_firstNarrow v1 v2 v3 v4 M) Q) : Ct (d + 6) y_Ways_firstNarrow [.ref 48, vI v1, vI v2, vI v3, vI v4] M Q := by
  refine ct_in (d := d + 5) mk_Ways_firstNarrow (Nat.le_of_ble_eq_true rfl) (?_ : T (E_Ways_firstNarrow d) injI 0 [(0, .ref 48), (1, vI v1), (2, vI v2), (3, vI v3), (4, vI v4)] [] M (f_Ways_firstNarrow v1 v2 v3 v4 M)) h
  unfold f_Ways_firstNarrow
  refine tq_iload_n 3 (E := E_Ways_firstNarrow d) (pc := 0) (cks_at k_Ways_firstNarrow 0 rfl rfl) rfl ?_
  refine tq_istore (E := E_Ways_firstNarrow d) (pc := 1) (cks_at k_Ways_firstNarrow 1 rfl rfl) (show 5 < 6 by decide) rfl ?_
  exact tq_sub [1, 2, 3, 5, 0] rfl (w_Ways_firstNarrow_L3 d FU (v1, v2, v4, v3, M))
abbrev E_Ways_canParade (d : Nat) : Ev := (Ct (d + 6), "BreathTown$Ways", prog_11_method_19_code, 8, False, 0, (fun _ => 0), (Option.some Jvm.ClassFile.FieldType.boolean))
def f_Ways_canParade_B6 (kH : Int → Int → Int → Int → Mm → Option (Int × Mm)) (v1 v2 v4 v5 : Int) (M : Mm) : Option (Int × Mm) :=
  if i32 (M 48 6) ≤ i32 v5 then
    some (1, M)
  else
    bI (f_BT_cell 50 v5 M) (fun r2 M1 =>
    bI (f_BT_cell 8 r2 M1) (fun r4 M3 =>
    bI (f_Ways_firstNarrow r2 v1 v4 ((v4 + r4) + v2) M3) (fun r6 M5 =>
    if i32 r6 = i32 ((-1)) then
      kH v1 v2 (v4 + r4) (v5 + 1) M5
    else
      some (0, M5))))
set_option maxRecDepth 20000 in
set_option maxHeartbeats 4000000 in
theorem w_Ways_canParade_B6 (d : Nat) (kH : Int → Int → Int → Int → Mm → Option (Int × Mm)) (hkH : ∀ (v1 v2 v4 v5 : Int) (M : Mm), T (E_Ways_canParade d) injI 6 [(0, .ref 48), (1, vI v1), (2, vI v2), (4, vI v4), (5, vI v5)] [] M (kH v1 v2 v4 v5 M)) (v1 v2 v4 v5 : Int) (M : Mm) : T (E_Ways_canParade d) injI 6 [(0, .ref 48), (1, vI v1), (2, vI v2), (4, vI v4), (5, vI v5)] [] M (f_Ways_canParade_B6 kH v1 v2 v4 v5 M) := by
  unfold f_Ways_canParade_B6
  refine tq_iload 4 (E := E_Ways_canParade d) (pc := 6) (cks_at k_Ways_canParade 4 rfl rfl) rfl ?_
  refine tq_aload_n 0 (E := E_Ways_canParade d) (pc := 8) (cks_at k_Ways_canParade 5 rfl rfl) rfl ?_
  refine tq_getI (E := E_Ways_canParade d) (pc := 9) (cks_at k_Ways_canParade 6 rfl rfl) fo_Ways_73 so_48 rfl (by decide) ?_
  refine tq_icmp_ge (E := E_Ways_canParade d) (pc := 12) (tgt := 75) (cks_at k_Ways_canParade 7 rfl rfl) (by decide) ?_ ?_
  · refine tq_iconst (E := E_Ways_canParade d) (pc := 75) (cks_at k_Ways_canParade 39 rfl rfl) ?_
    exact tq_zretC (E := E_Ways_canParade d) (pc := 76) (cks_at k_Ways_canParade 40 rfl rfl) rfl (by decide)
  · refine tq_aload_n 0 (E := E_Ways_canParade d) (pc := 15) (cks_at k_Ways_canParade 8 rfl rfl) rfl ?_
    refine tq_getR (j := 50) (E := E_Ways_canParade d) (pc := 16) (cks_at k_Ways_canParade 9 rfl rfl) fo_Ways_15 so_48 rfl sp_48_4 ?_
    refine tq_iload 4 (E := E_Ways_canParade d) (pc := 19) (cks_at k_Ways_canParade 10 rfl rfl) rfl ?_
    refine tq_S2 (E := E_Ways_canParade d) (pc := 21) (cks_at k_Ways_canParade 11 rfl rfl) mk_BT_cell lk_Ways_47 (Nat.le_of_ble_eq_true rfl) (c_BT_cell (d + 5) 50 sa_50 v5 M) (k_I fun r2 M1 => ?_)
    refine tq_istore (E := E_Ways_canParade d) (pc := 24) (cks_at k_Ways_canParade 12 rfl rfl) (show 6 < 8 by decide) rfl ?_
    refine tq_aload_n 1 (E := E_Ways_canParade d) (pc := 26) (cks_at k_Ways_canParade 13 rfl rfl) rfl ?_
    refine tq_getR (j := 3) (E := E_Ways_canParade d) (pc := 27) (cks_at k_Ways_canParade 14 rfl rfl) fo_Ways_30 so_48 rfl sp_48_0 ?_
    refine tq_getR (j := 8) (E := E_Ways_canParade d) (pc := 30) (cks_at k_Ways_canParade 15 rfl rfl) fo_Ways_42 so_3 rfl sp_3_4 ?_
    refine tq_iload 0 (E := E_Ways_canParade d) (pc := 33) (cks_at k_Ways_canParade 16 rfl rfl) rfl ?_
    refine tq_S2 (E := E_Ways_canParade d) (pc := 35) (cks_at k_Ways_canParade 17 rfl rfl) mk_BT_cell lk_Ways_47 (Nat.le_of_ble_eq_true rfl) (c_BT_cell (d + 5) 8 sa_8 r2 M1) (k_I fun r4 M3 => ?_)
    refine tq_istore (E := E_Ways_canParade d) (pc := 38) (cks_at k_Ways_canParade 18 rfl rfl) (show 7 < 8 by decide) rfl ?_
    refine tq_aload_n 2 (E := E_Ways_canParade d) (pc := 40) (cks_at k_Ways_canParade 19 rfl rfl) rfl ?_
    refine tq_iload 1 (E := E_Ways_canParade d) (pc := 41) (cks_at k_Ways_canParade 20 rfl rfl) rfl ?_
    refine tq_iload_n 3 (E := E_Ways_canParade d) (pc := 43) (cks_at k_Ways_canParade 21 rfl rfl) rfl ?_
    refine tq_iload 5 (E := E_Ways_canParade d) (pc := 44) (cks_at k_Ways_canParade 22 rfl rfl) rfl ?_
    refine tq_iload 5 (E := E_Ways_canParade d) (pc := 46) (cks_at k_Ways_canParade 23 rfl rfl) rfl ?_
    refine tq_iload 0 (E := E_Ways_canParade d) (pc := 48) (cks_at k_Ways_canParade 24 rfl rfl) rfl ?_
    refine tq_iadd (E := E_Ways_canParade d) (pc := 50) (cks_at k_Ways_canParade 25 rfl rfl) ?_
    refine tq_iload_n 4 (E := E_Ways_canParade d) (pc := 51) (cks_at k_Ways_canParade 26 rfl rfl) rfl ?_
    refine tq_iadd (E := E_Ways_canParade d) (pc := 52) (cks_at k_Ways_canParade 27 rfl rfl) ?_
    refine tq_V4 (E := E_Ways_canParade d) (pc := 53) (cks_at k_Ways_canParade 28 rfl rfl) mk_Ways_firstNarrow lk_Ways_141 rc_48 (Nat.le_of_ble_eq_true rfl) (c_Ways_firstNarrow (d + 0) r2 v1 v4 ((v4 + r4) + v2) M3) (k_I fun r6 M5 => ?_)
    refine tq_iconst (E := E_Ways_canParade d) (pc := 56) (cks_at k_Ways_canParade 29 rfl rfl) ?_
    refine tq_icmp_eq (E := E_Ways_canParade d) (pc := 57) (tgt := 62) (cks_at k_Ways_canParade 30 rfl rfl) (by decide) ?_ ?_
    · refine tq_iload 5 (E := E_Ways_canParade d) (pc := 62) (cks_at k_Ways_canParade 33 rfl rfl) rfl ?_
      refine tq_iload 0 (E := E_Ways_canParade d) (pc := 64) (cks_at k_Ways_canParade 34 rfl rfl) rfl ?_
      refine tq_iadd (E := E_Ways_canParade d) (pc := 66) (cks_at k_Ways_canParade 35 rfl rfl) ?_
      refine tq_istore (E := E_Ways_canParade d) (pc := 67) (cks_at k_Ways_canParade 36 rfl rfl) (show 4 < 8 by decide) rfl ?_
      refine tq_iinc 6 (E := E_Ways_canParade d) (pc := 69) (cks_at k_Ways_canParade 37 rfl rfl) rfl (show 5 < 8 by decide) rfl ?_
      refine tq_goto (tgt := 6) (E := E_Ways_canParade d) (pc := 72) (cks_at k_Ways_canParade 38 rfl rfl) (by decide) ?_
      exact tq_sub [4, 5, 6, 1, 0] rfl (hkH v1 v2 (v4 + r4) (v5 + 1) M5)
    · refine tq_iconst (E := E_Ways_canParade d) (pc := 60) (cks_at k_Ways_canParade 31 rfl rfl) ?_
      exact tq_zretC (E := E_Ways_canParade d) (pc := 61) (cks_at k_Ways_canParade 32 rfl rfl) rfl (by decide)
def f_Ways_canParade_L6 : Nat → Int × Int × Int × Int × Mm → Option (Int × Mm) := lp fun kH s => f_Ways_canParade_B6 (fun v1 v2 v4 v5 M => kH (v1, v2, v4, v5, M)) s.1 s.2.1 s.2.2.1 s.2.2.2.1 s.2.2.2.2
set_option maxRecDepth 20000 in
set_option maxHeartbeats 4000000 in
theorem w_Ways_canParade_L6 (d : Nat) (n : Nat) (s : Int × Int × Int × Int × Mm) : T (E_Ways_canParade d) injI 6 [(0, .ref 48), (1, vI s.1), (2, vI s.2.1), (4, vI s.2.2.1), (5, vI s.2.2.2.1)] [] s.2.2.2.2 (f_Ways_canParade_L6 n s) :=
  tq_lp (fun s => [(0, .ref 48), (1, vI s.1), (2, vI s.2.1), (4, vI s.2.2.1), (5, vI s.2.2.2.1)]) (fun s => s.2.2.2.2) (fun kH hH s => w_Ways_canParade_B6 d (fun v1 v2 v4 v5 M => kH (v1, v2, v4, v5, M)) (fun v1 v2 v4 v5 M => hH (v1, v2, v4, v5, M)) s.1 s.2.1 s.2.2.1 s.2.2.2.1 s.2.2.2.2) n s
def f_Ways_canParade (v1 : Int) (v2 : Int) (v3 : Int) (M : Mm) : Option (Int × Mm) :=
  f_Ways_canParade_L6 FU (v1, v2, v3, 0, M)
set_option maxRecDepth 20000 in
set_option maxHeartbeats 4000000 in
theorem c_Ways_canParade (d : Nat) (v1 : Int) (v2 : Int) (v3 : Int) (M : Mm) (Q : Option Value → Mm → Prop) (h : sat injI (f_Ways_canParade v1 v2 v3 M) Q) : Ct (d + 7) y_Ways_canParade [.ref 48, vI v1, vI v2, vI v3] M Q := by
  refine ct_in (d := d + 6) mk_Ways_canParade (Nat.le_of_ble_eq_true rfl) (?_ : T (E_Ways_canParade d) injI 0 [(0, .ref 48), (1, vI v1), (2, vI v2), (3, vI v3)] [] M (f_Ways_canParade v1 v2 v3 M)) h
  unfold f_Ways_canParade
  refine tq_iload_n 3 (E := E_Ways_canParade d) (pc := 0) (cks_at k_Ways_canParade 0 rfl rfl) rfl ?_
  refine tq_istore (E := E_Ways_canParade d) (pc := 1) (cks_at k_Ways_canParade 1 rfl rfl) (show 4 < 8 by decide) rfl ?_
  refine tq_iconst (E := E_Ways_canParade d) (pc := 3) (cks_at k_Ways_canParade 2 rfl rfl) ?_
  refine tq_istore (E := E_Ways_canParade d) (pc := 4) (cks_at k_Ways_canParade 3 rfl rfl) (show 5 < 8 by decide) rfl ?_
  exact tq_sub [2, 3, 4, 1, 0] rfl (w_Ways_canParade_L6 d FU (v1, v2, v3, 0, M))
