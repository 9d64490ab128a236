abbrev E_BT_see (d : Nat) : Ev := (Ct (d + 4), "BreathTown", prog_1_method_28_code, 2, False, 0, (fun _ => 0), (Option.some Jvm.ClassFile.FieldType.int))
def f_BT_see (M : Mm) : Option (Int × Mm) :=
  bI (f_Seen_take M) (fun r2 M1 =>
  bd (up M1 1 1 0) (fun M3 =>
  if i32 r2 = 0 then
    bI (f_BT_refused 1 M3) (fun r5 M4 =>
    some (r5, M4))
  else
    some (M3 64 6, M3)))
set_option maxRecDepth 20000 in
set_option maxHeartbeats 4000000 in
theorem c_BT_see (d : Nat) (M : Mm) (Q : Option Value → Mm → Prop) (h : sat injI (f_BT_see M) Q) : Ct (d + 5) y_BT_see [.ref 0] M Q := by
  refine ct_in (d := d + 4) mk_BT_see (Nat.le_of_ble_eq_true rfl) (?_ : T (E_BT_see d) injI 0 [(0, .ref 0)] [] M (f_BT_see M)) h
  unfold f_BT_see
  refine tq_aload_n 0 (E := E_BT_see d) (pc := 0) (cks_at k_BT_see 0 rfl rfl) rfl ?_
  refine tq_getR (j := 64) (E := E_BT_see d) (pc := 1) (cks_at k_BT_see 1 rfl rfl) fo_BT_74 so_0 rfl sp_0_8 ?_
  refine tq_aload_n 0 (E := E_BT_see d) (pc := 4) (cks_at k_BT_see 2 rfl rfl) rfl ?_
  refine tq_getR (j := 1) (E := E_BT_see d) (pc := 5) (cks_at k_BT_see 3 rfl rfl) fo_BT_10 so_0 rfl sp_0_0 ?_
  refine tq_V1 (E := E_BT_see d) (pc := 8) (cks_at k_BT_see 4 rfl rfl) mk_Seen_take lk_BT_266 rc_64 (Nat.le_of_ble_eq_true rfl) (c_Seen_take (d + 0) M) (k_I fun r2 M1 => ?_)
  refine tq_istore_n (E := E_BT_see d) (pc := 11) (cks_at k_BT_see 5 rfl rfl) (show 1 < 2 by decide) rfl ?_
  refine tq_aload_n 1 (E := E_BT_see d) (pc := 12) (cks_at k_BT_see 6 rfl rfl) rfl ?_
  refine tq_getR (j := 1) (E := E_BT_see d) (pc := 13) (cks_at k_BT_see 7 rfl rfl) fo_BT_10 so_0 rfl sp_0_0 ?_
  refine tq_iconst (E := E_BT_see d) (pc := 16) (cks_at k_BT_see 8 rfl rfl) ?_
  refine tq_putI (E := E_BT_see d) (pc := 17) (cks_at k_BT_see 9 rfl rfl) fo_BT_102 so_1 rfl po_5_1 (fun M3 => ?_)
  refine tq_iload_n 0 (E := E_BT_see d) (pc := 20) (cks_at k_BT_see 10 rfl rfl) rfl ?_
  refine tq_if_eq (E := E_BT_see d) (pc := 21) (tgt := 34) (cks_at k_BT_see 11 rfl rfl) (by decide) ?_ ?_
  · refine tq_aload_n 1 (E := E_BT_see d) (pc := 34) (cks_at k_BT_see 16 rfl rfl) rfl ?_
    refine tq_iconst (E := E_BT_see d) (pc := 35) (cks_at k_BT_see 17 rfl rfl) ?_
    refine tq_V1 (E := E_BT_see d) (pc := 36) (cks_at k_BT_see 18 rfl rfl) mk_BT_refused lk_BT_105 rc_0 (Nat.le_of_ble_eq_true rfl) (c_BT_refused (d + 2) 1 M3) (k_I fun r5 M4 => ?_)
    exact tq_iret (E := E_BT_see d) (pc := 39) (cks_at k_BT_see 19 rfl rfl) rfl
  · refine tq_aload_n 1 (E := E_BT_see d) (pc := 24) (cks_at k_BT_see 12 rfl rfl) rfl ?_
    refine tq_getR (j := 64) (E := E_BT_see d) (pc := 25) (cks_at k_BT_see 13 rfl rfl) fo_BT_74 so_0 rfl sp_0_8 ?_
    refine tq_getI (E := E_BT_see d) (pc := 28) (cks_at k_BT_see 14 rfl rfl) fo_BT_129 so_64 rfl (by decide) ?_
    refine tq_goto (tgt := 39) (E := E_BT_see d) (pc := 31) (cks_at k_BT_see 15 rfl rfl) (by decide) ?_
    exact tq_iret (E := E_BT_see d) (pc := 39) (cks_at k_BT_see 19 rfl rfl) rfl
abbrev E_M_seed (d : Nat) : Ev := (Ct (d + 0), "BreathTownModel", prog_14_method_107_code, 2, False, 0, (fun _ => 0), (Option.some Jvm.ClassFile.FieldType.boolean))
def f_M_seed (v1 : Int) (M : Mm) : Option (Int × Mm) :=
  if 0 ≤ i32 v1 then
    bd (up M 78 65 (i32 v1)) (fun M1 =>
    some (1, M1))
  else
    bd (up M 80 4 ((M 80 4) + 1)) (fun M2 =>
    some (0, M2))
set_option maxRecDepth 20000 in
set_option maxHeartbeats 4000000 in
theorem c_M_seed (d : Nat) (v1 : Int) (M : Mm) (Q : Option Value → Mm → Prop) (h : sat injI (f_M_seed v1 M) Q) : Ct (d + 1) y_M_seed [.ref 78, vI v1] M Q := by
  refine ct_in (d := d + 0) mk_M_seed (Nat.le_of_ble_eq_true rfl) (?_ : T (E_M_seed d) injI 0 [(0, .ref 78), (1, vI v1)] [] M (f_M_seed v1 M)) h
  unfold f_M_seed
  refine tq_iload_n 1 (E := E_M_seed d) (pc := 0) (cks_at k_M_seed 0 rfl rfl) rfl ?_
  refine tq_if_ge (E := E_M_seed d) (pc := 1) (tgt := 16) (cks_at k_M_seed 1 rfl rfl) (by decide) ?_ ?_
  · refine tq_aload_n 0 (E := E_M_seed d) (pc := 16) (cks_at k_M_seed 12 rfl rfl) rfl ?_
    refine tq_iload_n 1 (E := E_M_seed d) (pc := 17) (cks_at k_M_seed 13 rfl rfl) rfl ?_
    refine tq_i2l (E := E_M_seed d) (pc := 18) (cks_at k_M_seed 14 rfl rfl) ?_
    refine tq_putJ (E := E_M_seed d) (pc := 19) (cks_at k_M_seed 15 rfl rfl) fo_M_142 so_78 rfl po_12_65 (fun M1 => ?_)
    refine tq_iconst (E := E_M_seed d) (pc := 22) (cks_at k_M_seed 16 rfl rfl) ?_
    exact tq_zretC (E := E_M_seed d) (pc := 23) (cks_at k_M_seed 17 rfl rfl) rfl (by decide)
  · refine tq_aload_n 0 (E := E_M_seed d) (pc := 4) (cks_at k_M_seed 2 rfl rfl) rfl ?_
    refine tq_getR (j := 80) (E := E_M_seed d) (pc := 5) (cks_at k_M_seed 3 rfl rfl) fo_M_17 so_78 rfl sp_78_9 ?_
    refine tq_iconst (E := E_M_seed d) (pc := 8) (cks_at k_M_seed 4 rfl rfl) ?_
    refine tq_dup2 (E := E_M_seed d) (pc := 9) (cks_at k_M_seed 5 rfl rfl) rfl rfl ?_
    refine tq_ialdC 4 (E := E_M_seed d) (pc := 10) (cks_at k_M_seed 6 rfl rfl) sa_80 sn_80 (by decide) ?_
    refine tq_iconst (E := E_M_seed d) (pc := 11) (cks_at k_M_seed 7 rfl rfl) ?_
    refine tq_iadd (E := E_M_seed d) (pc := 12) (cks_at k_M_seed 8 rfl rfl) ?_
    refine tq_iastC (E := E_M_seed d) (pc := 13) 4 (cks_at k_M_seed 9 rfl rfl) sa_80 sn_80 (by decide) (fun M2 => ?_)
    refine tq_iconst (E := E_M_seed d) (pc := 14) (cks_at k_M_seed 10 rfl rfl) ?_
    exact tq_zretC (E := E_M_seed d) (pc := 15) (cks_at k_M_seed 11 rfl rfl) rfl (by decide)
abbrev E_BT_seed (d : Nat) : Ev := (Ct (d + 2), "BreathTown", prog_1_method_27_code, 2, False, 0, (fun _ => 0), (Option.some Jvm.ClassFile.FieldType.boolean))
def f_BT_seed (v1 : Int) (M : Mm) : Option (Int × Mm) :=
  if 0 ≤ i32 v1 then
    bd (up M 0 13 (i32 v1)) (fun M1 =>
    some (1, M1))
  else
    bI (f_BT_refused 4 M) (fun r3 M2 =>
    some (0, M2))
set_option maxRecDepth 20000 in
set_option maxHeartbeats 4000000 in
theorem c_BT_seed (d : Nat) (v1 : Int) (M : Mm) (Q : Option Value → Mm → Prop) (h : sat injI (f_BT_seed v1 M) Q) : Ct (d + 3) y_BT_seed [.ref 0, vI v1] M Q := by
  refine ct_in (d := d + 2) mk_BT_seed (Nat.le_of_ble_eq_true rfl) (?_ : T (E_BT_seed d) injI 0 [(0, .ref 0), (1, vI v1)] [] M (f_BT_seed v1 M)) h
  unfold f_BT_seed
  refine tq_iload_n 1 (E := E_BT_seed d) (pc := 0) (cks_at k_BT_seed 0 rfl rfl) rfl ?_
  refine tq_if_ge (E := E_BT_seed d) (pc := 1) (tgt := 12) (cks_at k_BT_seed 1 rfl rfl) (by decide) ?_ ?_
  · refine tq_aload_n 0 (E := E_BT_seed d) (pc := 12) (cks_at k_BT_seed 8 rfl rfl) rfl ?_
    refine tq_iload_n 1 (E := E_BT_seed d) (pc := 13) (cks_at k_BT_seed 9 rfl rfl) rfl ?_
    refine tq_i2l (E := E_BT_seed d) (pc := 14) (cks_at k_BT_seed 10 rfl rfl) ?_
    refine tq_putJ (E := E_BT_seed d) (pc := 15) (cks_at k_BT_seed 11 rfl rfl) fo_BT_98 so_0 rfl po_11_13 (fun M1 => ?_)
    refine tq_iconst (E := E_BT_seed d) (pc := 18) (cks_at k_BT_seed 12 rfl rfl) ?_
    exact tq_zretC (E := E_BT_seed d) (pc := 19) (cks_at k_BT_seed 13 rfl rfl) rfl (by decide)
  · refine tq_aload_n 0 (E := E_BT_seed d) (pc := 4) (cks_at k_BT_seed 2 rfl rfl) rfl ?_
    refine tq_iconst (E := E_BT_seed d) (pc := 5) (cks_at k_BT_seed 3 rfl rfl) ?_
    refine tq_V1 (E := E_BT_seed d) (pc := 6) (cks_at k_BT_seed 4 rfl rfl) mk_BT_refused lk_BT_105 rc_0 (Nat.le_of_ble_eq_true rfl) (c_BT_refused (d + 0) 4 M) (k_I fun r3 M2 => ?_)
    refine tq_pop (E := E_BT_seed d) (pc := 9) (cks_at k_BT_seed 5 rfl rfl) rfl ?_
    refine tq_iconst (E := E_BT_seed d) (pc := 10) (cks_at k_BT_seed 6 rfl rfl) ?_
    exact tq_zretC (E := E_BT_seed d) (pc := 11) (cks_at k_BT_seed 7 rfl rfl) rfl (by decide)
abbrev E_M_undo (d : Nat) : Ev := (Ct (d + 0), "BreathTownModel", prog_14_method_102_code, 2, False, 0, (fun _ => 0), (Option.some Jvm.ClassFile.FieldType.boolean))
def f_M_undo_B21 (kH : Int → Mm → Option (Int × Mm)) (kx53 : Mm → Option (Int × Mm)) (v1 : Int) (M : Mm) : Option (Int × Mm) :=
  if i32 31 ≤ i32 v1 then
    kx53 M
  else
    gd (0 ≤ i32 ((31 * (M 78 64)) + v1) ∧ i32 ((31 * (M 78 64)) + v1) < ((620 : Nat) : Int)) <|
    gd (0 ≤ i32 v1 ∧ i32 v1 < ((31 : Nat) : Int)) <|
    bd (up M 108 (i32 v1).toNat (M 120 (i32 ((31 * (M 78 64)) + v1)).toNat)) (fun M1 =>
    kH (v1 + 1) M1)
set_option maxRecDepth 20000 in
set_option maxHeartbeats 4000000 in
theorem w_M_undo_B21 (d : Nat) (kH : Int → Mm → Option (Int × Mm)) (kx53 : Mm → Option (Int × Mm)) (hkH : ∀ (v1 : Int) (M : Mm), T (E_M_undo d) injI 21 [(0, .ref 78), (1, vI v1)] [] M (kH v1 M)) (hkx53 : ∀  (M : Mm), T (E_M_undo d) injI 53 [(0, .ref 78)] [] M (kx53 M)) (v1 : Int) (M : Mm) : T (E_M_undo d) injI 21 [(0, .ref 78), (1, vI v1)] [] M (f_M_undo_B21 kH kx53 v1 M) := by
  unfold f_M_undo_B21
  refine tq_iload_n 1 (E := E_M_undo d) (pc := 21) (cks_at k_M_undo 15 rfl rfl) rfl ?_
  refine tq_bipush (E := E_M_undo d) (pc := 22) (cks_at k_M_undo 16 rfl rfl) (by decide) (by decide) ?_
  refine tq_icmp_ge (E := E_M_undo d) (pc := 24) (tgt := 53) (cks_at k_M_undo 17 rfl rfl) (by decide) ?_ ?_
  · exact tq_sub [0] rfl (hkx53 M)
  · refine tq_aload_n 0 (E := E_M_undo d) (pc := 27) (cks_at k_M_undo 18 rfl rfl) rfl ?_
    refine tq_getR (j := 108) (E := E_M_undo d) (pc := 28) (cks_at k_M_undo 19 rfl rfl) fo_M_103 so_78 rfl sp_78_45 ?_
    refine tq_iload_n 1 (E := E_M_undo d) (pc := 31) (cks_at k_M_undo 20 rfl rfl) rfl ?_
    refine tq_aload_n 0 (E := E_M_undo d) (pc := 32) (cks_at k_M_undo 21 rfl rfl) rfl ?_
    refine tq_getR (j := 120) (E := E_M_undo d) (pc := 33) (cks_at k_M_undo 22 rfl rfl) fo_M_139 so_78 rfl sp_78_62 ?_
    refine tq_bipush (E := E_M_undo d) (pc := 36) (cks_at k_M_undo 23 rfl rfl) (by decide) (by decide) ?_
    refine tq_aload_n 0 (E := E_M_undo d) (pc := 38) (cks_at k_M_undo 24 rfl rfl) rfl ?_
    refine tq_getI (E := E_M_undo d) (pc := 39) (cks_at k_M_undo 25 rfl rfl) fo_M_581 so_78 rfl (by decide) ?_
    refine tq_imul (E := E_M_undo d) (pc := 42) (cks_at k_M_undo 26 rfl rfl) ?_
    refine tq_iload_n 1 (E := E_M_undo d) (pc := 43) (cks_at k_M_undo 27 rfl rfl) rfl ?_
    refine tq_iadd (E := E_M_undo d) (pc := 44) (cks_at k_M_undo 28 rfl rfl) ?_
    refine tq_iald (E := E_M_undo d) (pc := 45) (cks_at k_M_undo 29 rfl rfl) sa_120 sn_120 ?_
    refine tq_iast (E := E_M_undo d) (pc := 46) (cks_at k_M_undo 30 rfl rfl) sa_108 sn_108 (fun M1 => ?_)
    refine tq_iinc 1 (E := E_M_undo d) (pc := 47) (cks_at k_M_undo 31 rfl rfl) rfl (show 1 < 2 by decide) rfl ?_
    refine tq_goto (tgt := 21) (E := E_M_undo d) (pc := 50) (cks_at k_M_undo 32 rfl rfl) (by decide) ?_
    exact tq_sub [1, 0] rfl (hkH (v1 + 1) M1)
def f_M_undo_L21 (kx53 : Mm → Option (Int × Mm)) : Nat → Int × Mm → Option (Int × Mm) := lp fun kH s => f_M_undo_B21 (fun v1 M => kH (v1, M)) kx53 s.1 s.2
set_option maxRecDepth 20000 in
set_option maxHeartbeats 4000000 in
theorem w_M_undo_L21 (d : Nat) (kx53 : Mm → Option (Int × Mm)) (hkx53 : ∀  (M : Mm), T (E_M_undo d) injI 53 [(0, .ref 78)] [] M (kx53 M)) (n : Nat) (s : Int × Mm) : T (E_M_undo d) injI 21 [(0, .ref 78), (1, vI s.1)] [] s.2 (f_M_undo_L21 kx53 n s) :=
  tq_lp (fun s => [(0, .ref 78), (1, vI s.1)]) (fun s => s.2) (fun kH hH s => w_M_undo_B21 d (fun v1 M => kH (v1, M)) kx53 (fun v1 M => hH (v1, M)) hkx53 s.1 s.2) n s
def f_M_undo (M : Mm) : Option (Int × Mm) :=
  if ¬ i32 (M 78 63) = 0 then
    f_M_undo_L21 (fun M2 => bd (up M2 78 64 ((i32 (((M2 78 64) + 20) - 1)).tmod (i32 20))) (fun M3 =>
        bd (up M3 78 63 ((M3 78 63) - 1)) (fun M4 =>
        some (1, M4)))) FU (0, M)
  else
    bd (up M 80 3 ((M 80 3) + 1)) (fun M5 =>
    some (0, M5))
set_option maxRecDepth 20000 in
set_option maxHeartbeats 4000000 in
theorem c_M_undo (d : Nat) (M : Mm) (Q : Option Value → Mm → Prop) (h : sat injI (f_M_undo M) Q) : Ct (d + 1) y_M_undo [.ref 78] M Q := by
  refine ct_in (d := d + 0) mk_M_undo (Nat.le_of_ble_eq_true rfl) (?_ : T (E_M_undo d) injI 0 [(0, .ref 78)] [] M (f_M_undo M)) h
  unfold f_M_undo
  refine tq_aload_n 0 (E := E_M_undo d) (pc := 0) (cks_at k_M_undo 0 rfl rfl) rfl ?_
  refine tq_getI (E := E_M_undo d) (pc := 1) (cks_at k_M_undo 1 rfl rfl) fo_M_350 so_78 rfl (by decide) ?_
  refine tq_if_ne (E := E_M_undo d) (pc := 4) (tgt := 19) (cks_at k_M_undo 2 rfl rfl) (by decide) ?_ ?_
  · refine tq_iconst (E := E_M_undo d) (pc := 19) (cks_at k_M_undo 13 rfl rfl) ?_
    refine tq_istore_n (E := E_M_undo d) (pc := 20) (cks_at k_M_undo 14 rfl rfl) (show 1 < 2 by decide) rfl ?_
    exact tq_sub [1, 0] rfl (w_M_undo_L21 d _ (fun M2 => by
        refine tq_aload_n 0 (E := E_M_undo d) (pc := 53) (cks_at k_M_undo 33 rfl rfl) rfl ?_
        refine tq_aload_n 0 (E := E_M_undo d) (pc := 54) (cks_at k_M_undo 34 rfl rfl) rfl ?_
        refine tq_getI (E := E_M_undo d) (pc := 55) (cks_at k_M_undo 35 rfl rfl) fo_M_581 so_78 rfl (by decide) ?_
        refine tq_bipush (E := E_M_undo d) (pc := 58) (cks_at k_M_undo 36 rfl rfl) (by decide) (by decide) ?_
        refine tq_iadd (E := E_M_undo d) (pc := 60) (cks_at k_M_undo 37 rfl rfl) ?_
        refine tq_iconst (E := E_M_undo d) (pc := 61) (cks_at k_M_undo 38 rfl rfl) ?_
        refine tq_isub (E := E_M_undo d) (pc := 62) (cks_at k_M_undo 39 rfl rfl) ?_
        refine tq_bipush (E := E_M_undo d) (pc := 63) (cks_at k_M_undo 40 rfl rfl) (by decide) (by decide) ?_
        refine tq_iremC (E := E_M_undo d) (pc := 65) (cks_at k_M_undo 41 rfl rfl) (by decide) ?_
        refine tq_putI (E := E_M_undo d) (pc := 66) (cks_at k_M_undo 42 rfl rfl) fo_M_581 so_78 rfl po_12_64 (fun M3 => ?_)
        refine tq_aload_n 0 (E := E_M_undo d) (pc := 69) (cks_at k_M_undo 43 rfl rfl) rfl ?_
        refine tq_dup (E := E_M_undo d) (pc := 70) (cks_at k_M_undo 44 rfl rfl) rfl ?_
        refine tq_getI (E := E_M_undo d) (pc := 71) (cks_at k_M_undo 45 rfl rfl) fo_M_350 so_78 rfl (by decide) ?_
        refine tq_iconst (E := E_M_undo d) (pc := 74) (cks_at k_M_undo 46 rfl rfl) ?_
        refine tq_isub (E := E_M_undo d) (pc := 75) (cks_at k_M_undo 47 rfl rfl) ?_
        refine tq_putI (E := E_M_undo d) (pc := 76) (cks_at k_M_undo 48 rfl rfl) fo_M_350 so_78 rfl po_12_63 (fun M4 => ?_)
        refine tq_iconst (E := E_M_undo d) (pc := 79) (cks_at k_M_undo 49 rfl rfl) ?_
        exact tq_zretC (E := E_M_undo d) (pc := 80) (cks_at k_M_undo 50 rfl rfl) rfl (by decide)) FU (0, M))
  · refine tq_aload_n 0 (E := E_M_undo d) (pc := 7) (cks_at k_M_undo 3 rfl rfl) rfl ?_
    refine tq_getR (j := 80) (E := E_M_undo d) (pc := 8) (cks_at k_M_undo 4 rfl rfl) fo_M_17 so_78 rfl sp_78_9 ?_
    refine tq_iconst (E := E_M_undo d) (pc := 11) (cks_at k_M_undo 5 rfl rfl) ?_
    refine tq_dup2 (E := E_M_undo d) (pc := 12) (cks_at k_M_undo 6 rfl rfl) rfl rfl ?_
    refine tq_ialdC 3 (E := E_M_undo d) (pc := 13) (cks_at k_M_undo 7 rfl rfl) sa_80 sn_80 (by decide) ?_
    refine tq_iconst (E := E_M_undo d) (pc := 14) (cks_at k_M_undo 8 rfl rfl) ?_
    refine tq_iadd (E := E_M_undo d) (pc := 15) (cks_at k_M_undo 9 rfl rfl) ?_
    refine tq_iastC (E := E_M_undo d) (pc := 16) 3 (cks_at k_M_undo 10 rfl rfl) sa_80 sn_80 (by decide) (fun M5 => ?_)
    refine tq_iconst (E := E_M_undo d) (pc := 17) (cks_at k_M_undo 11 rfl rfl) ?_
    exact tq_zretC (E := E_M_undo d) (pc := 18) (cks_at k_M_undo 12 rfl rfl) rfl (by decide)
abbrev E_Now_move (d : Nat) : Ev := (Ct (d + 1), "BreathTown$Now", prog_4_method_9_code, 5, False, 0, (fun _ => 0), (Option.none : Option Jvm.ClassFile.FieldType))
def f_Now_move_B3 (row1 : Nat) (kH : Int → Int → Int → Mm → Option (Mm)) (v2 v3 v4 : Int) (M : Mm) : Option (Mm) :=
  if i32 (((slen row1 : Nat) : Int)) ≤ i32 v4 then
    some M
  else
    if i32 v3 = 0 then
      bI (f_BT_cell 44 (v2 + v4) M) (fun r2 M1 =>
      bV (f_BT_setCell row1 v4 r2 M1) (fun M3 =>
      kH v2 v3 (v4 + 1) M3))
    else
      bI (f_BT_cell row1 v4 M) (fun r5 M4 =>
      bV (f_BT_setCell 44 (v2 + v4) r5 M4) (fun M6 =>
      kH v2 v3 (v4 + 1) M6))
set_option maxRecDepth 20000 in
set_option maxHeartbeats 4000000 in
theorem w_Now_move_B3 (d : Nat) (row1 : Nat) (hrow1 : skind row1 = 20 ∧ row1 < NC) (kH : Int → Int → Int → Mm → Option (Mm)) (hkH : ∀ (v2 v3 v4 : Int) (M : Mm), T (E_Now_move d) injV 3 [(0, .ref 39), (1, .ref row1), (2, vI v2), (3, vI v3), (4, vI v4)] [] M (kH v2 v3 v4 M)) (v2 v3 v4 : Int) (M : Mm) : T (E_Now_move d) injV 3 [(0, .ref 39), (1, .ref row1), (2, vI v2), (3, vI v3), (4, vI v4)] [] M (f_Now_move_B3 row1 kH v2 v3 v4 M) := by
  unfold f_Now_move_B3
  refine tq_iload 4 (E := E_Now_move d) (pc := 3) (cks_at k_Now_move 2 rfl rfl) rfl ?_
  refine tq_aload_n 1 (E := E_Now_move d) (pc := 5) (cks_at k_Now_move 3 rfl rfl) rfl ?_
  refine tq_alen (E := E_Now_move d) (pc := 6) (cks_at k_Now_move 4 rfl rfl) ⟨by rw [(hrow1).1]; decide, by rw [(hrow1).1]; decide, (hrow1).2⟩ rfl ?_
  refine tq_icmp_ge (E := E_Now_move d) (pc := 7) (tgt := 57) (cks_at k_Now_move 5 rfl rfl) (by decide) ?_ ?_
  · exact tq_vret (E := E_Now_move d) (pc := 57) (cks_at k_Now_move 29 rfl rfl) rfl
  · refine tq_iload_n 3 (E := E_Now_move d) (pc := 10) (cks_at k_Now_move 6 rfl rfl) rfl ?_
    refine tq_if_eq (E := E_Now_move d) (pc := 11) (tgt := 34) (cks_at k_Now_move 7 rfl rfl) (by decide) ?_ ?_
    · refine tq_aload_n 1 (E := E_Now_move d) (pc := 34) (cks_at k_Now_move 18 rfl rfl) rfl ?_
      refine tq_iload 4 (E := E_Now_move d) (pc := 35) (cks_at k_Now_move 19 rfl rfl) rfl ?_
      refine tq_aload_n 0 (E := E_Now_move d) (pc := 37) (cks_at k_Now_move 20 rfl rfl) rfl ?_
      refine tq_getR (j := 44) (E := E_Now_move d) (pc := 38) (cks_at k_Now_move 21 rfl rfl) fo_Now_24 so_39 rfl sp_39_5 ?_
      refine tq_iload_n 2 (E := E_Now_move d) (pc := 41) (cks_at k_Now_move 22 rfl rfl) rfl ?_
      refine tq_iload 4 (E := E_Now_move d) (pc := 42) (cks_at k_Now_move 23 rfl rfl) rfl ?_
      refine tq_iadd (E := E_Now_move d) (pc := 44) (cks_at k_Now_move 24 rfl rfl) ?_
      refine tq_S2 (E := E_Now_move d) (pc := 45) (cks_at k_Now_move 25 rfl rfl) mk_BT_cell lk_Now_57 (Nat.le_of_ble_eq_true rfl) (c_BT_cell (d + 0) 44 sa_44 (v2 + v4) M) (k_I fun r2 M1 => ?_)
      refine tq_S3 (E := E_Now_move d) (pc := 48) (cks_at k_Now_move 26 rfl rfl) mk_BT_setCell lk_Now_77 (Nat.le_of_ble_eq_true rfl) (c_BT_setCell (d + 0) row1 hrow1 v4 r2 M1) (k_V fun M3 => ?_)
      refine tq_iinc 4 (E := E_Now_move d) (pc := 51) (cks_at k_Now_move 27 rfl rfl) rfl (show 4 < 5 by decide) rfl ?_
      refine tq_goto (tgt := 3) (E := E_Now_move d) (pc := 54) (cks_at k_Now_move 28 rfl rfl) (by decide) ?_
      exact tq_sub [1, 2, 3, 4, 0] rfl (hkH v2 v3 (v4 + 1) M3)
    · refine tq_aload_n 0 (E := E_Now_move d) (pc := 14) (cks_at k_Now_move 8 rfl rfl) rfl ?_
      refine tq_getR (j := 44) (E := E_Now_move d) (pc := 15) (cks_at k_Now_move 9 rfl rfl) fo_Now_24 so_39 rfl sp_39_5 ?_
      refine tq_iload_n 2 (E := E_Now_move d) (pc := 18) (cks_at k_Now_move 10 rfl rfl) rfl ?_
      refine tq_iload 4 (E := E_Now_move d) (pc := 19) (cks_at k_Now_move 11 rfl rfl) rfl ?_
      refine tq_iadd (E := E_Now_move d) (pc := 21) (cks_at k_Now_move 12 rfl rfl) ?_
      refine tq_aload_n 1 (E := E_Now_move d) (pc := 22) (cks_at k_Now_move 13 rfl rfl) rfl ?_
      refine tq_iload 4 (E := E_Now_move d) (pc := 23) (cks_at k_Now_move 14 rfl rfl) rfl ?_
      refine tq_S2 (E := E_Now_move d) (pc := 25) (cks_at k_Now_move 15 rfl rfl) mk_BT_cell lk_Now_57 (Nat.le_of_ble_eq_true rfl) (c_BT_cell (d + 0) row1 hrow1 v4 M) (k_I fun r5 M4 => ?_)
      refine tq_S3 (E := E_Now_move d) (pc := 28) (cks_at k_Now_move 16 rfl rfl) mk_BT_setCell lk_Now_77 (Nat.le_of_ble_eq_true rfl) (c_BT_setCell (d + 0) 44 sa_44 (v2 + v4) r5 M4) (k_V fun M6 => ?_)
      refine tq_goto (tgt := 51) (E := E_Now_move d) (pc := 31) (cks_at k_Now_move 17 rfl rfl) (by decide) ?_
      refine tq_iinc 4 (E := E_Now_move d) (pc := 51) (cks_at k_Now_move 27 rfl rfl) rfl (show 4 < 5 by decide) rfl ?_
      refine tq_goto (tgt := 3) (E := E_Now_move d) (pc := 54) (cks_at k_Now_move 28 rfl rfl) (by decide) ?_
      exact tq_sub [1, 2, 3, 4, 0] rfl (hkH v2 v3 (v4 + 1) M6)
def f_Now_move_L3 (row1 : Nat) : Nat → Int × Int × Int × Mm → Option (Mm) := lp fun kH s => f_Now_move_B3 row1 (fun v2 v3 v4 M => kH (v2, v3, v4, M)) s.1 s.2.1 s.2.2.1 s.2.2.2
set_option maxRecDepth 20000 in
set_option maxHeartbeats 4000000 in
theorem w_Now_move_L3 (d : Nat) (row1 : Nat) (hrow1 : skind row1 = 20 ∧ row1 < NC) (n : Nat) (s : Int × Int × Int × Mm) : T (E_Now_move d) injV 3 [(0, .ref 39), (1, .ref row1), (2, vI s.1), (3, vI s.2.1), (4, vI s.2.2.1)] [] s.2.2.2 (f_Now_move_L3 row1 n s) :=
  tq_lp (fun s => [(0, .ref 39), (1, .ref row1), (2, vI s.1), (3, vI s.2.1), (4, vI s.2.2.1)]) (fun s => s.2.2.2) (fun kH hH s => w_Now_move_B3 d row1 hrow1 (fun v2 v3 v4 M => kH (v2, v3, v4, M)) (fun v2 v3 v4 M => hH (v2, v3, v4, M)) s.1 s.2.1 s.2.2.1 s.2.2.2) n s
def f_Now_move (row1 : Nat) (v2 : Int) (v3 : Int) (M : Mm) : Option (Mm) :=
  f_Now_move_L3 row1 FU (v2, v3, 0, M)
set_option maxRecDepth 20000 in
set_option maxHeartbeats 4000000 in
theorem c_Now_move (d : Nat) (row1 : Nat) (hrow1 : skind row1 = 20 ∧ row1 < NC) (v2 : Int) (v3 : Int) (M : Mm) (Q : Option Value → Mm → Prop) (h : sat injV (f_Now_move row1 v2 v3 M) Q) : Ct (d + 2) y_Now_move [.ref 39, .ref row1, vI v2, vI v3] M Q := by
  refine ct_in (d := d + 1) mk_Now_move (Nat.le_of_ble_eq_true rfl) (?_ : T (E_Now_move d) injV 0 [(0, .ref 39), (1, .ref row1), (2, vI v2), (3, vI v3)] [] M (f_Now_move row1 v2 v3 M)) h
  unfold f_Now_move
  refine tq_iconst (E := E_Now_move d) (pc := 0) (cks_at k_Now_move 0 rfl rfl) ?_
  refine tq_istore (E := E_Now_move d) (pc := 1) (cks_at k_Now_move 1 rfl rfl) (show 4 < 5 by decide) rfl ?_
  exact tq_sub [1, 2, 3, 4, 0] rfl (w_Now_move_L3 d row1 hrow1 FU (v2, v3, 0, M))
abbrev E_Now_takeBack (d : Nat) : Ev := (Ct (d + 2), "BreathTown$Now", prog_4_method_8_code, 2, False, 0, (fun _ => 0), (Option.none : Option Jvm.ClassFile.FieldType))
def f_Now_takeBack (M : Mm) : Option (Mm) :=
  if i32 1 ≤ i32 (M 39 9) then
    bd (up M 39 9 ((M 39 9) - 1)) (fun M1 =>
    bI (f_BT_cell 44 ((M1 39 9) * 31) M1) (fun r3 M2 =>
    bd (up M2 39 8 r3) (fun M4 =>
    bV (f_Now_move 40 (((M1 39 9) * 31) + 1) 0 M4) (fun M5 =>
    bV (f_Now_move 41 ((((M1 39 9) * 31) + 1) + 12) 0 M5) (fun M6 =>
    bV (f_Now_move 42 (((((M1 39 9) * 31) + 1) + 12) + 6) 0 M6) (fun M7 =>
    bV (f_Now_move 43 (((((M1 39 9) * 31) + 1) + 12) + 12) 0 M7) (fun M8 =>
    some M8)))))))
  else
    some M
set_option maxRecDepth 20000 in
set_option maxHeartbeats 4000000 in
theorem c_Now_takeBack (d : Nat) (M : Mm) (Q : Option Value → Mm → Prop) (h : sat injV (f_Now_takeBack M) Q) : Ct (d + 3) y_Now_takeBack [.ref 39] M Q := by
  refine ct_in (d := d + 2) mk_Now_takeBack (Nat.le_of_ble_eq_true rfl) (?_ : T (E_Now_takeBack d) injV 0 [(0, .ref 39)] [] M (f_Now_takeBack M)) h
  unfold f_Now_takeBack
  refine tq_aload_n 0 (E := E_Now_takeBack d) (pc := 0) (cks_at k_Now_takeBack 0 rfl rfl) rfl ?_
  refine tq_getI (E := E_Now_takeBack d) (pc := 1) (cks_at k_Now_takeBack 1 rfl rfl) fo_Now_43 so_39 rfl (by decide) ?_
  refine tq_iconst (E := E_Now_takeBack d) (pc := 4) (cks_at k_Now_takeBack 2 rfl rfl) ?_
  refine tq_icmp_ge (E := E_Now_takeBack d) (pc := 5) (tgt := 9) (cks_at k_Now_takeBack 3 rfl rfl) (by decide) ?_ ?_
  · refine tq_aload_n 0 (E := E_Now_takeBack d) (pc := 9) (cks_at k_Now_takeBack 5 rfl rfl) rfl ?_
    refine tq_dup (E := E_Now_takeBack d) (pc := 10) (cks_at k_Now_takeBack 6 rfl rfl) rfl ?_
    refine tq_getI (E := E_Now_takeBack d) (pc := 11) (cks_at k_Now_takeBack 7 rfl rfl) fo_Now_43 so_39 rfl (by decide) ?_
    refine tq_iconst (E := E_Now_takeBack d) (pc := 14) (cks_at k_Now_takeBack 8 rfl rfl) ?_
    refine tq_isub (E := E_Now_takeBack d) (pc := 15) (cks_at k_Now_takeBack 9 rfl rfl) ?_
    refine tq_putI (E := E_Now_takeBack d) (pc := 16) (cks_at k_Now_takeBack 10 rfl rfl) fo_Now_43 so_39 rfl po_2_9 (fun M1 => ?_)
    refine tq_aload_n 0 (E := E_Now_takeBack d) (pc := 19) (cks_at k_Now_takeBack 11 rfl rfl) rfl ?_
    refine tq_getI (E := E_Now_takeBack d) (pc := 20) (cks_at k_Now_takeBack 12 rfl rfl) fo_Now_43 so_39 rfl (by decide) ?_
    refine tq_bipush (E := E_Now_takeBack d) (pc := 23) (cks_at k_Now_takeBack 13 rfl rfl) (by decide) (by decide) ?_
    refine tq_imul (E := E_Now_takeBack d) (pc := 25) (cks_at k_Now_takeBack 14 rfl rfl) ?_
    refine tq_istore_n (E := E_Now_takeBack d) (pc := 26) (cks_at k_Now_takeBack 15 rfl rfl) (show 1 < 2 by decide) rfl ?_
    refine tq_aload_n 1 (E := E_Now_takeBack d) (pc := 27) (cks_at k_Now_takeBack 16 rfl rfl) rfl ?_
    refine tq_aload_n 1 (E := E_Now_takeBack d) (pc := 28) (cks_at k_Now_takeBack 17 rfl rfl) rfl ?_
    refine tq_getR (j := 44) (E := E_Now_takeBack d) (pc := 29) (cks_at k_Now_takeBack 18 rfl rfl) fo_Now_24 so_39 rfl sp_39_5 ?_
    refine tq_iload_n 0 (E := E_Now_takeBack d) (pc := 32) (cks_at k_Now_takeBack 19 rfl rfl) rfl ?_
    refine tq_S2 (E := E_Now_takeBack d) (pc := 33) (cks_at k_Now_takeBack 20 rfl rfl) mk_BT_cell lk_Now_57 (Nat.le_of_ble_eq_true rfl) (c_BT_cell (d + 1) 44 sa_44 ((M1 39 9) * 31) M1) (k_I fun r3 M2 => ?_)
    refine tq_putI (E := E_Now_takeBack d) (pc := 36) (cks_at k_Now_takeBack 21 rfl rfl) fo_Now_40 so_39 rfl po_2_8 (fun M4 => ?_)
    refine tq_aload_n 1 (E := E_Now_takeBack d) (pc := 39) (cks_at k_Now_takeBack 22 rfl rfl) rfl ?_
    refine tq_aload_n 1 (E := E_Now_takeBack d) (pc := 40) (cks_at k_Now_takeBack 23 rfl rfl) rfl ?_
    refine tq_getR (j := 40) (E := E_Now_takeBack d) (pc := 41) (cks_at k_Now_takeBack 24 rfl rfl) fo_Now_9 so_39 rfl sp_39_1 ?_
    refine tq_iload_n 0 (E := E_Now_takeBack d) (pc := 44) (cks_at k_Now_takeBack 25 rfl rfl) rfl ?_
    refine tq_iconst (E := E_Now_takeBack d) (pc := 45) (cks_at k_Now_takeBack 26 rfl rfl) ?_
    refine tq_iadd (E := E_Now_takeBack d) (pc := 46) (cks_at k_Now_takeBack 27 rfl rfl) ?_
    refine tq_iconst (E := E_Now_takeBack d) (pc := 47) (cks_at k_Now_takeBack 28 rfl rfl) ?_
    refine tq_V3 (E := E_Now_takeBack d) (pc := 48) (cks_at k_Now_takeBack 29 rfl rfl) mk_Now_move lk_Now_81 rc_39 (Nat.le_of_ble_eq_true rfl) (c_Now_move (d + 0) 40 sa_40 (((M1 39 9) * 31) + 1) 0 M4) (k_V fun M5 => ?_)
    refine tq_aload_n 1 (E := E_Now_takeBack d) (pc := 51) (cks_at k_Now_takeBack 30 rfl rfl) rfl ?_
    refine tq_aload_n 1 (E := E_Now_takeBack d) (pc := 52) (cks_at k_Now_takeBack 31 rfl rfl) rfl ?_
    refine tq_getR (j := 41) (E := E_Now_takeBack d) (pc := 53) (cks_at k_Now_takeBack 32 rfl rfl) fo_Now_15 so_39 rfl sp_39_2 ?_
    refine tq_iload_n 0 (E := E_Now_takeBack d) (pc := 56) (cks_at k_Now_takeBack 33 rfl rfl) rfl ?_
    refine tq_iconst (E := E_Now_takeBack d) (pc := 57) (cks_at k_Now_takeBack 34 rfl rfl) ?_
    refine tq_iadd (E := E_Now_takeBack d) (pc := 58) (cks_at k_Now_takeBack 35 rfl rfl) ?_
    refine tq_bipush (E := E_Now_takeBack d) (pc := 59) (cks_at k_Now_takeBack 36 rfl rfl) (by decide) (by decide) ?_
    refine tq_iadd (E := E_Now_takeBack d) (pc := 61) (cks_at k_Now_takeBack 37 rfl rfl) ?_
    refine tq_iconst (E := E_Now_takeBack d) (pc := 62) (cks_at k_Now_takeBack 38 rfl rfl) ?_
    refine tq_V3 (E := E_Now_takeBack d) (pc := 63) (cks_at k_Now_takeBack 39 rfl rfl) mk_Now_move lk_Now_81 rc_39 (Nat.le_of_ble_eq_true rfl) (c_Now_move (d + 0) 41 sa_41 ((((M1 39 9) * 31) + 1) + 12) 0 M5) (k_V fun M6 => ?_)
    refine tq_aload_n 1 (E := E_Now_takeBack d) (pc := 66) (cks_at k_Now_takeBack 40 rfl rfl) rfl ?_
    refine tq_aload_n 1 (E := E_Now_takeBack d) (pc := 67) (cks_at k_Now_takeBack 41 rfl rfl) rfl ?_
    refine tq_getR (j := 42) (E := E_Now_takeBack d) (pc := 68) (cks_at k_Now_takeBack 42 rfl rfl) fo_Now_18 so_39 rfl sp_39_3 ?_
    refine tq_iload_n 0 (E := E_Now_takeBack d) (pc := 71) (cks_at k_Now_takeBack 43 rfl rfl) rfl ?_
    refine tq_iconst (E := E_Now_takeBack d) (pc := 72) (cks_at k_Now_takeBack 44 rfl rfl) ?_
    refine tq_iadd (E := E_Now_takeBack d) (pc := 73) (cks_at k_Now_takeBack 45 rfl rfl) ?_
    refine tq_bipush (E := E_Now_takeBack d) (pc := 74) (cks_at k_Now_takeBack 46 rfl rfl) (by decide) (by decide) ?_
    refine tq_iadd (E := E_Now_takeBack d) (pc := 76) (cks_at k_Now_takeBack 47 rfl rfl) ?_
    refine tq_bipush (E := E_Now_takeBack d) (pc := 77) (cks_at k_Now_takeBack 48 rfl rfl) (by decide) (by decide) ?_
    refine tq_iadd (E := E_Now_takeBack d) (pc := 79) (cks_at k_Now_takeBack 49 rfl rfl) ?_
    refine tq_iconst (E := E_Now_takeBack d) (pc := 80) (cks_at k_Now_takeBack 50 rfl rfl) ?_
    refine tq_V3 (E := E_Now_takeBack d) (pc := 81) (cks_at k_Now_takeBack 51 rfl rfl) mk_Now_move lk_Now_81 rc_39 (Nat.le_of_ble_eq_true rfl) (c_Now_move (d + 0) 42 sa_42 (((((M1 39 9) * 31) + 1) + 12) + 6) 0 M6) (k_V fun M7 => ?_)
    refine tq_aload_n 1 (E := E_Now_takeBack d) (pc := 84) (cks_at k_Now_takeBack 52 rfl rfl) rfl ?_
    refine tq_aload_n 1 (E := E_Now_takeBack d) (pc := 85) (cks_at k_Now_takeBack 53 rfl rfl) rfl ?_
    refine tq_getR (j := 43) (E := E_Now_takeBack d) (pc := 86) (cks_at k_Now_takeBack 54 rfl rfl) fo_Now_21 so_39 rfl sp_39_4 ?_
    refine tq_iload_n 0 (E := E_Now_takeBack d) (pc := 89) (cks_at k_Now_takeBack 55 rfl rfl) rfl ?_
    refine tq_iconst (E := E_Now_takeBack d) (pc := 90) (cks_at k_Now_takeBack 56 rfl rfl) ?_
    refine tq_iadd (E := E_Now_takeBack d) (pc := 91) (cks_at k_Now_takeBack 57 rfl rfl) ?_
    refine tq_bipush (E := E_Now_takeBack d) (pc := 92) (cks_at k_Now_takeBack 58 rfl rfl) (by decide) (by decide) ?_
    refine tq_iadd (E := E_Now_takeBack d) (pc := 94) (cks_at k_Now_takeBack 59 rfl rfl) ?_
    refine tq_bipush (E := E_Now_takeBack d) (pc := 95) (cks_at k_Now_takeBack 60 rfl rfl) (by decide) (by decide) ?_
    refine tq_iadd (E := E_Now_takeBack d) (pc := 97) (cks_at k_Now_takeBack 61 rfl rfl) ?_
    refine tq_iconst (E := E_Now_takeBack d) (pc := 98) (cks_at k_Now_takeBack 62 rfl rfl) ?_
    refine tq_V3 (E := E_Now_takeBack d) (pc := 99) (cks_at k_Now_takeBack 63 rfl rfl) mk_Now_move lk_Now_81 rc_39 (Nat.le_of_ble_eq_true rfl) (c_Now_move (d + 0) 43 sa_43 (((((M1 39 9) * 31) + 1) + 12) + 12) 0 M7) (k_V fun M8 => ?_)
    exact tq_vret (E := E_Now_takeBack d) (pc := 102) (cks_at k_Now_takeBack 64 rfl rfl) rfl
  · exact tq_vret (E := E_Now_takeBack d) (pc := 8) (cks_at k_Now_takeBack 4 rfl rfl) rfl
abbrev E_BT_undo (d : Nat) : Ev := (Ct (d + 3), "BreathTown", prog_1_method_26_code, 1, False, 0, (fun _ => 0), (Option.some Jvm.ClassFile.FieldType.boolean))
def f_BT_undo (M : Mm) : Option (Int × Mm) :=
  if i32 1 ≤ i32 (M 39 9) then
    bV (f_Now_takeBack M) (fun M1 =>
    some (1, M1))
  else
    bI (f_BT_refused 3 M) (fun r3 M2 =>
    some (0, M2))
set_option maxRecDepth 20000 in
set_option maxHeartbeats 4000000 in
theorem c_BT_undo (d : Nat) (M : Mm) (Q : Option Value → Mm → Prop) (h : sat injI (f_BT_undo M) Q) : Ct (d + 4) y_BT_undo [.ref 0] M Q := by
  refine ct_in (d := d + 3) mk_BT_undo (Nat.le_of_ble_eq_true rfl) (?_ : T (E_BT_undo d) injI 0 [(0, .ref 0)] [] M (f_BT_undo M)) h
  unfold f_BT_undo
  refine tq_aload_n 0 (E := E_BT_undo d) (pc := 0) (cks_at k_BT_undo 0 rfl rfl) rfl ?_
  refine tq_getR (j := 39) (E := E_BT_undo d) (pc := 1) (cks_at k_BT_undo 1 rfl rfl) fo_BT_40 so_0 rfl sp_0_4 ?_
  refine tq_getI (E := E_BT_undo d) (pc := 4) (cks_at k_BT_undo 2 rfl rfl) fo_BT_140 so_39 rfl (by decide) ?_
  refine tq_iconst (E := E_BT_undo d) (pc := 7) (cks_at k_BT_undo 3 rfl rfl) ?_
  refine tq_icmp_ge (E := E_BT_undo d) (pc := 8) (tgt := 19) (cks_at k_BT_undo 4 rfl rfl) (by decide) ?_ ?_
  · refine tq_aload_n 0 (E := E_BT_undo d) (pc := 19) (cks_at k_BT_undo 11 rfl rfl) rfl ?_
    refine tq_getR (j := 39) (E := E_BT_undo d) (pc := 20) (cks_at k_BT_undo 12 rfl rfl) fo_BT_40 so_0 rfl sp_0_4 ?_
    refine tq_V0 (E := E_BT_undo d) (pc := 23) (cks_at k_BT_undo 13 rfl rfl) mk_Now_takeBack lk_BT_263 rc_39 (Nat.le_of_ble_eq_true rfl) (c_Now_takeBack (d + 0) M) (k_V fun M1 => ?_)
    refine tq_iconst (E := E_BT_undo d) (pc := 26) (cks_at k_BT_undo 14 rfl rfl) ?_
    exact tq_zretC (E := E_BT_undo d) (pc := 27) (cks_at k_BT_undo 15 rfl rfl) rfl (by decide)
  · refine tq_aload_n 0 (E := E_BT_undo d) (pc := 11) (cks_at k_BT_undo 5 rfl rfl) rfl ?_
    refine tq_iconst (E := E_BT_undo d) (pc := 12) (cks_at k_BT_undo 6 rfl rfl) ?_
    refine tq_V1 (E := E_BT_undo d) (pc := 13) (cks_at k_BT_undo 7 rfl rfl) mk_BT_refused lk_BT_105 rc_0 (Nat.le_of_ble_eq_true rfl) (c_BT_refused (d + 1) 3 M) (k_I fun r3 M2 => ?_)
    refine tq_pop (E := E_BT_undo d) (pc := 16) (cks_at k_BT_undo 8 rfl rfl) rfl ?_
    refine tq_iconst (E := E_BT_undo d) (pc := 17) (cks_at k_BT_undo 9 rfl rfl) ?_
    exact tq_zretC (E := E_BT_undo d) (pc := 18) (cks_at k_BT_undo 10 rfl rfl) rfl (by decide)
abbrev E_M_keeps (d : Nat) : Ev := (Ct (d + 0), "BreathTownModel", prog_14_method_101_code, 2, False, 0, (fun _ => 0), (Option.none : Option Jvm.ClassFile.FieldType))
def f_M_keeps_B15 (kH : Int → Mm → Option (Mm)) (kx47 : Mm → Option (Mm)) (v1 : Int) (M : Mm) : Option (Mm) :=
  if i32 31 ≤ i32 v1 then
    kx47 M
  else
    gd (0 ≤ i32 v1 ∧ i32 v1 < ((31 : Nat) : Int)) <|
    gd (0 ≤ i32 ((31 * (M 78 64)) + v1) ∧ i32 ((31 * (M 78 64)) + v1) < ((620 : Nat) : Int)) <|
    bd (up M 120 (i32 ((31 * (M 78 64)) + v1)).toNat (M 108 (i32 v1).toNat)) (fun M2 =>
    kH (v1 + 1) M2)
set_option maxRecDepth 20000 in
set_option maxHeartbeats 4000000 in
theorem w_M_keeps_B15 (d : Nat) (kH : Int → Mm → Option (Mm)) (kx47 : Mm → Option (Mm)) (hkH : ∀ (v1 : Int) (M : Mm), T (E_M_keeps d) injV 15 [(0, .ref 78), (1, vI v1)] [] M (kH v1 M)) (hkx47 : ∀  (M : Mm), T (E_M_keeps d) injV 47 [(0, .ref 78)] [] M (kx47 M)) (v1 : Int) (M : Mm) : T (E_M_keeps d) injV 15 [(0, .ref 78), (1, vI v1)] [] M (f_M_keeps_B15 kH kx47 v1 M) := by
  unfold f_M_keeps_B15
  refine tq_iload_n 1 (E := E_M_keeps d) (pc := 15) (cks_at k_M_keeps 10 rfl rfl) rfl ?_
  refine tq_bipush (E := E_M_keeps d) (pc := 16) (cks_at k_M_keeps 11 rfl rfl) (by decide) (by decide) ?_
  refine tq_icmp_ge (E := E_M_keeps d) (pc := 18) (tgt := 47) (cks_at k_M_keeps 12 rfl rfl) (by decide) ?_ ?_
  · exact tq_sub [0] rfl (hkx47 M)
  · refine tq_aload_n 0 (E := E_M_keeps d) (pc := 21) (cks_at k_M_keeps 13 rfl rfl) rfl ?_
    refine tq_getR (j := 120) (E := E_M_keeps d) (pc := 22) (cks_at k_M_keeps 14 rfl rfl) fo_M_139 so_78 rfl sp_78_62 ?_
    refine tq_bipush (E := E_M_keeps d) (pc := 25) (cks_at k_M_keeps 15 rfl rfl) (by decide) (by decide) ?_
    refine tq_aload_n 0 (E := E_M_keeps d) (pc := 27) (cks_at k_M_keeps 16 rfl rfl) rfl ?_
    refine tq_getI (E := E_M_keeps d) (pc := 28) (cks_at k_M_keeps 17 rfl rfl) fo_M_581 so_78 rfl (by decide) ?_
    refine tq_imul (E := E_M_keeps d) (pc := 31) (cks_at k_M_keeps 18 rfl rfl) ?_
    refine tq_iload_n 1 (E := E_M_keeps d) (pc := 32) (cks_at k_M_keeps 19 rfl rfl) rfl ?_
    refine tq_iadd (E := E_M_keeps d) (pc := 33) (cks_at k_M_keeps 20 rfl rfl) ?_
    refine tq_aload_n 0 (E := E_M_keeps d) (pc := 34) (cks_at k_M_keeps 21 rfl rfl) rfl ?_
    refine tq_getR (j := 108) (E := E_M_keeps d) (pc := 35) (cks_at k_M_keeps 22 rfl rfl) fo_M_103 so_78 rfl sp_78_45 ?_
    refine tq_iload_n 1 (E := E_M_keeps d) (pc := 38) (cks_at k_M_keeps 23 rfl rfl) rfl ?_
    refine tq_iald (E := E_M_keeps d) (pc := 39) (cks_at k_M_keeps 24 rfl rfl) sa_108 sn_108 ?_
    refine tq_iast (E := E_M_keeps d) (pc := 40) (cks_at k_M_keeps 25 rfl rfl) sa_120 sn_120 (fun M2 => ?_)
    refine tq_iinc 1 (E := E_M_keeps d) (pc := 41) (cks_at k_M_keeps 26 rfl rfl) rfl (show 1 < 2 by decide) rfl ?_
    refine tq_goto (tgt := 15) (E := E_M_keeps d) (pc := 44) (cks_at k_M_keeps 27 rfl rfl) (by decide) ?_
    exact tq_sub [1, 0] rfl (hkH (v1 + 1) M2)
def f_M_keeps_L15 (kx47 : Mm → Option (Mm)) : Nat → Int × Mm → Option (Mm) := lp fun kH s => f_M_keeps_B15 (fun v1 M => kH (v1, M)) kx47 s.1 s.2
set_option maxRecDepth 20000 in
set_option maxHeartbeats 4000000 in
theorem w_M_keeps_L15 (d : Nat) (kx47 : Mm → Option (Mm)) (hkx47 : ∀  (M : Mm), T (E_M_keeps d) injV 47 [(0, .ref 78)] [] M (kx47 M)) (n : Nat) (s : Int × Mm) : T (E_M_keeps d) injV 15 [(0, .ref 78), (1, vI s.1)] [] s.2 (f_M_keeps_L15 kx47 n s) :=
  tq_lp (fun s => [(0, .ref 78), (1, vI s.1)]) (fun s => s.2) (fun kH hH s => w_M_keeps_B15 d (fun v1 M => kH (v1, M)) kx47 (fun v1 M => hH (v1, M)) hkx47 s.1 s.2) n s
def f_M_keeps (M : Mm) : Option (Mm) :=
  bd (up M 78 64 ((i32 ((M 78 64) + 1)).tmod (i32 20))) (fun M1 =>
  f_M_keeps_L15 (fun M3 => if i32 20 ≤ i32 (M3 78 63) then
        some M3
      else
        bd (up M3 78 63 ((M3 78 63) + 1)) (fun M4 =>
        some M4)) FU (0, M1))
set_option maxRecDepth 20000 in
set_option maxHeartbeats 4000000 in
theorem c_M_keeps (d : Nat) (M : Mm) (Q : Option Value → Mm → Prop) (h : sat injV (f_M_keeps M) Q) : Ct (d + 1) y_M_keeps [.ref 78] M Q := by
  refine ct_in (d := d + 0) mk_M_keeps (Nat.le_of_ble_eq_true rfl) (?_ : T (E_M_keeps d) injV 0 [(0, .ref 78)] [] M (f_M_keeps M)) h
  unfold f_M_keeps
  refine tq_aload_n 0 (E := E_M_keeps d) (pc := 0) (cks_at k_M_keeps 0 rfl rfl) rfl ?_
  refine tq_aload_n 0 (E := E_M_keeps d) (pc := 1) (cks_at k_M_keeps 1 rfl rfl) rfl ?_
  refine tq_getI (E := E_M_keeps d) (pc := 2) (cks_at k_M_keeps 2 rfl rfl) fo_M_581 so_78 rfl (by decide) ?_
  refine tq_iconst (E := E_M_keeps d) (pc := 5) (cks_at k_M_keeps 3 rfl rfl) ?_
  refine tq_iadd (E := E_M_keeps d) (pc := 6) (cks_at k_M_keeps 4 rfl rfl) ?_
  refine tq_bipush (E := E_M_keeps d) (pc := 7) (cks_at k_M_keeps 5 rfl rfl) (by decide) (by decide) ?_
  refine tq_iremC (E := E_M_keeps d) (pc := 9) (cks_at k_M_keeps 6 rfl rfl) (by decide) ?_
  refine tq_putI (E := E_M_keeps d) (pc := 10) (cks_at k_M_keeps 7 rfl rfl) fo_M_581 so_78 rfl po_12_64 (fun M1 => ?_)
  refine tq_iconst (E := E_M_keeps d) (pc := 13) (cks_at k_M_keeps 8 rfl rfl) ?_
  refine tq_istore_n (E := E_M_keeps d) (pc := 14) (cks_at k_M_keeps 9 rfl rfl) (show 1 < 2 by decide) rfl ?_
  exact tq_sub [1, 0] rfl (w_M_keeps_L15 d _ (fun M3 => by
      refine tq_aload_n 0 (E := E_M_keeps d) (pc := 47) (cks_at k_M_keeps 28 rfl rfl) rfl ?_
      refine tq_getI (E := E_M_keeps d) (pc := 48) (cks_at k_M_keeps 29 rfl rfl) fo_M_350 so_78 rfl (by decide) ?_
      refine tq_bipush (E := E_M_keeps d) (pc := 51) (cks_at k_M_keeps 30 rfl rfl) (by decide) (by decide) ?_
      refine tq_icmp_ge (E := E_M_keeps d) (pc := 53) (tgt := 66) (cks_at k_M_keeps 31 rfl rfl) (by decide) ?_ ?_
      · exact tq_vret (E := E_M_keeps d) (pc := 66) (cks_at k_M_keeps 38 rfl rfl) rfl
      · refine tq_aload_n 0 (E := E_M_keeps d) (pc := 56) (cks_at k_M_keeps 32 rfl rfl) rfl ?_
        refine tq_dup (E := E_M_keeps d) (pc := 57) (cks_at k_M_keeps 33 rfl rfl) rfl ?_
        refine tq_getI (E := E_M_keeps d) (pc := 58) (cks_at k_M_keeps 34 rfl rfl) fo_M_350 so_78 rfl (by decide) ?_
        refine tq_iconst (E := E_M_keeps d) (pc := 61) (cks_at k_M_keeps 35 rfl rfl) ?_
        refine tq_iadd (E := E_M_keeps d) (pc := 62) (cks_at k_M_keeps 36 rfl rfl) ?_
        refine tq_putI (E := E_M_keeps d) (pc := 63) (cks_at k_M_keeps 37 rfl rfl) fo_M_350 so_78 rfl po_12_63 (fun M4 => ?_)
        exact tq_vret (E := E_M_keeps d) (pc := 66) (cks_at k_M_keeps 38 rfl rfl) rfl) FU (0, M1))
abbrev E_M_drawOf (d : Nat) : Ev := (Ct (d + 0), "BreathTownModel", prog_14_method_108_code, 2, False, 0, (fun _ => 0), (Option.some Jvm.ClassFile.FieldType.int))
def f_M_drawOf (v1 : Int) (M : Mm) : Option (Int × Mm) :=
  bd (up M 78 65 ((i64 ((1103515245 * (M 78 65)) + 12345)).tmod (i64 2147483648))) (fun M1 =>
  gd (¬ i64 (i32 v1) = 0) <|
  some ((i64 ((i64 (M1 78 65)).tdiv (i64 64))).tmod (i64 (i32 v1)), M1))
set_option maxRecDepth 20000 in
set_option maxHeartbeats 4000000 in
theorem c_M_drawOf (d : Nat) (v1 : Int) (M : Mm) (Q : Option Value → Mm → Prop) (h : sat injI (f_M_drawOf v1 M) Q) : Ct (d + 1) y_M_drawOf [.ref 78, vI v1] M Q := by
  refine ct_in (d := d + 0) mk_M_drawOf (Nat.le_of_ble_eq_true rfl) (?_ : T (E_M_drawOf d) injI 0 [(0, .ref 78), (1, vI v1)] [] M (f_M_drawOf v1 M)) h
  unfold f_M_drawOf
  refine tq_aload_n 0 (E := E_M_drawOf d) (pc := 0) (cks_at k_M_drawOf 0 rfl rfl) rfl ?_
  refine tq_ldc2 (z := 1103515245) (E := E_M_drawOf d) (pc := 1) (cks_at k_M_drawOf 1 rfl rfl) cst_M_592 ?_
  refine tq_aload_n 0 (E := E_M_drawOf d) (pc := 4) (cks_at k_M_drawOf 2 rfl rfl) rfl ?_
  refine tq_getJ (E := E_M_drawOf d) (pc := 5) (cks_at k_M_drawOf 3 rfl rfl) fo_M_142 so_78 rfl ?_
  refine tq_lmul (E := E_M_drawOf d) (pc := 8) (cks_at k_M_drawOf 4 rfl rfl) ?_
  refine tq_ldc2 (z := 12345) (E := E_M_drawOf d) (pc := 9) (cks_at k_M_drawOf 5 rfl rfl) cst_M_594 ?_
  refine tq_ladd (E := E_M_drawOf d) (pc := 12) (cks_at k_M_drawOf 6 rfl rfl) ?_
  refine tq_ldc2 (z := 2147483648) (E := E_M_drawOf d) (pc := 13) (cks_at k_M_drawOf 7 rfl rfl) cst_M_596 ?_
  refine tq_lremC (E := E_M_drawOf d) (pc := 16) (cks_at k_M_drawOf 8 rfl rfl) (by decide) ?_
  refine tq_putJ (E := E_M_drawOf d) (pc := 17) (cks_at k_M_drawOf 9 rfl rfl) fo_M_142 so_78 rfl po_12_65 (fun M1 => ?_)
  refine tq_aload_n 0 (E := E_M_drawOf d) (pc := 20) (cks_at k_M_drawOf 10 rfl rfl) rfl ?_
  refine tq_getJ (E := E_M_drawOf d) (pc := 21) (cks_at k_M_drawOf 11 rfl rfl) fo_M_142 so_78 rfl ?_
  refine tq_ldc2 (z := 64) (E := E_M_drawOf d) (pc := 24) (cks_at k_M_drawOf 12 rfl rfl) cst_M_598 ?_
  refine tq_ldivC (E := E_M_drawOf d) (pc := 27) (cks_at k_M_drawOf 13 rfl rfl) (by decide) ?_
  refine tq_iload_n 1 (E := E_M_drawOf d) (pc := 28) (cks_at k_M_drawOf 14 rfl rfl) rfl ?_
  refine tq_i2l (E := E_M_drawOf d) (pc := 29) (cks_at k_M_drawOf 15 rfl rfl) ?_
  refine tq_lrem (E := E_M_drawOf d) (pc := 30) (cks_at k_M_drawOf 16 rfl rfl) ?_
  refine tq_l2i (E := E_M_drawOf d) (pc := 31) (cks_at k_M_drawOf 17 rfl rfl) ?_
  exact tq_iret (E := E_M_drawOf d) (pc := 32) (cks_at k_M_drawOf 18 rfl rfl) rfl
abbrev E_M_shifts0 (d : Nat) : Ev := (Ct (d + 1), "BreathTownModel", prog_14_method_105_code, 3, False, 0, (fun _ => 0), (Option.none : Option Jvm.ClassFile.FieldType))
def f_M_shifts0 (v1 : Int) (v2 : Int) (M : Mm) : Option (Mm) :=
  bI (f_M_shiftOf v1 M) (fun r2 M1 =>
  bI (f_M_roundOf v1 M1) (fun r4 M3 =>
  bI (f_M_roundOf v1 M3) (fun r6 M5 =>
  gd (¬ i32 r6 = 0) <|
  gd (0 ≤ i32 (1 + v1) ∧ i32 (1 + v1) < ((31 : Nat) : Int)) <|
  bd (up M5 108 (i32 (1 + v1)).toNat ((i32 ((r2 + v2) + (100 * r4))).tmod (i32 r6))) (fun M7 =>
  some M7))))
set_option maxRecDepth 20000 in
set_option maxHeartbeats 4000000 in
theorem c_M_shifts0 (d : Nat) (v1 : Int) (v2 : Int) (M : Mm) (Q : Option Value → Mm → Prop) (h : sat injV (f_M_shifts0 v1 v2 M) Q) : Ct (d + 2) y_M_shifts0 [.ref 78, vI v1, vI v2] M Q := by
  refine ct_in (d := d + 1) mk_M_shifts0 (Nat.le_of_ble_eq_true rfl) (?_ : T (E_M_shifts0 d) injV 0 [(0, .ref 78), (1, vI v1), (2, vI v2)] [] M (f_M_shifts0 v1 v2 M)) h
  unfold f_M_shifts0
  refine tq_aload_n 0 (E := E_M_shifts0 d) (pc := 0) (cks_at k_M_shifts0 0 rfl rfl) rfl ?_
  refine tq_getR (j := 108) (E := E_M_shifts0 d) (pc := 1) (cks_at k_M_shifts0 1 rfl rfl) fo_M_103 so_78 rfl sp_78_45 ?_
  refine tq_iconst (E := E_M_shifts0 d) (pc := 4) (cks_at k_M_shifts0 2 rfl rfl) ?_
  refine tq_iload_n 1 (E := E_M_shifts0 d) (pc := 5) (cks_at k_M_shifts0 3 rfl rfl) rfl ?_
  refine tq_iadd (E := E_M_shifts0 d) (pc := 6) (cks_at k_M_shifts0 4 rfl rfl) ?_
  refine tq_aload_n 0 (E := E_M_shifts0 d) (pc := 7) (cks_at k_M_shifts0 5 rfl rfl) rfl ?_
  refine tq_iload_n 1 (E := E_M_shifts0 d) (pc := 8) (cks_at k_M_shifts0 6 rfl rfl) rfl ?_
  refine tq_V1 (E := E_M_shifts0 d) (pc := 9) (cks_at k_M_shifts0 7 rfl rfl) mk_M_shiftOf lk_M_431 rc_78 (Nat.le_of_ble_eq_true rfl) (c_M_shiftOf (d + 0) v1 M) (k_I fun r2 M1 => ?_)
  refine tq_iload_n 2 (E := E_M_shifts0 d) (pc := 12) (cks_at k_M_shifts0 8 rfl rfl) rfl ?_
  refine tq_iadd (E := E_M_shifts0 d) (pc := 13) (cks_at k_M_shifts0 9 rfl rfl) ?_
  refine tq_bipush (E := E_M_shifts0 d) (pc := 14) (cks_at k_M_shifts0 10 rfl rfl) (by decide) (by decide) ?_
  refine tq_aload_n 0 (E := E_M_shifts0 d) (pc := 16) (cks_at k_M_shifts0 11 rfl rfl) rfl ?_
  refine tq_iload_n 1 (E := E_M_shifts0 d) (pc := 17) (cks_at k_M_shifts0 12 rfl rfl) rfl ?_
  refine tq_V1 (E := E_M_shifts0 d) (pc := 18) (cks_at k_M_shifts0 13 rfl rfl) mk_M_roundOf lk_M_418 rc_78 (Nat.le_of_ble_eq_true rfl) (c_M_roundOf (d + 0) v1 M1) (k_I fun r4 M3 => ?_)
  refine tq_imul (E := E_M_shifts0 d) (pc := 21) (cks_at k_M_shifts0 14 rfl rfl) ?_
  refine tq_iadd (E := E_M_shifts0 d) (pc := 22) (cks_at k_M_shifts0 15 rfl rfl) ?_
  refine tq_aload_n 0 (E := E_M_shifts0 d) (pc := 23) (cks_at k_M_shifts0 16 rfl rfl) rfl ?_
  refine tq_iload_n 1 (E := E_M_shifts0 d) (pc := 24) (cks_at k_M_shifts0 17 rfl rfl) rfl ?_
  refine tq_V1 (E := E_M_shifts0 d) (pc := 25) (cks_at k_M_shifts0 18 rfl rfl) mk_M_roundOf lk_M_418 rc_78 (Nat.le_of_ble_eq_true rfl) (c_M_roundOf (d + 0) v1 M3) (k_I fun r6 M5 => ?_)
  refine tq_irem (E := E_M_shifts0 d) (pc := 28) (cks_at k_M_shifts0 19 rfl rfl) ?_
  refine tq_iast (E := E_M_shifts0 d) (pc := 29) (cks_at k_M_shifts0 20 rfl rfl) sa_108 sn_108 (fun M7 => ?_)
  exact tq_vret (E := E_M_shifts0 d) (pc := 30) (cks_at k_M_shifts0 21 rfl rfl) rfl
abbrev E_M_days (d : Nat) : Ev := (Ct (d + 2), "BreathTownModel", prog_14_method_109_code, 4, False, 0, (fun _ => 0), (Option.some Jvm.ClassFile.FieldType.int))
def f_M_days_J29 (M : Mm) : Option (Int × Mm) :=
  bd (up M 80 2 ((M 80 2) + 1)) (fun M3 =>
  some ((-1), M3))
set_option maxRecDepth 20000 in
set_option maxHeartbeats 4000000 in
theorem w_M_days_J29 (d : Nat) (M : Mm) : T (E_M_days d) injI 29 [(0, .ref 78)] [] M (f_M_days_J29 M) := by
  unfold f_M_days_J29
  refine tq_aload_n 0 (E := E_M_days d) (pc := 29) (cks_at k_M_days 16 rfl rfl) rfl ?_
  refine tq_getR (j := 80) (E := E_M_days d) (pc := 30) (cks_at k_M_days 17 rfl rfl) fo_M_17 so_78 rfl sp_78_9 ?_
  refine tq_iconst (E := E_M_days d) (pc := 33) (cks_at k_M_days 18 rfl rfl) ?_
  refine tq_dup2 (E := E_M_days d) (pc := 34) (cks_at k_M_days 19 rfl rfl) rfl rfl ?_
  refine tq_ialdC 2 (E := E_M_days d) (pc := 35) (cks_at k_M_days 20 rfl rfl) sa_80 sn_80 (by decide) ?_
  refine tq_iconst (E := E_M_days d) (pc := 36) (cks_at k_M_days 21 rfl rfl) ?_
  refine tq_iadd (E := E_M_days d) (pc := 37) (cks_at k_M_days 22 rfl rfl) ?_
  refine tq_iastC (E := E_M_days d) (pc := 38) 2 (cks_at k_M_days 23 rfl rfl) sa_80 sn_80 (by decide) (fun M3 => ?_)
  refine tq_iconst (E := E_M_days d) (pc := 39) (cks_at k_M_days 24 rfl rfl) ?_
  exact tq_iret (E := E_M_days d) (pc := 40) (cks_at k_M_days 25 rfl rfl) rfl
def f_M_days_B47 (kH : Int → Int → Mm → Option (Int × Mm)) (v1 v2 : Int) (M : Mm) : Option (Int × Mm) :=
  if i32 v1 ≤ i32 v2 then
    some (M 108 0, M)
  else
    bd (up M 108 0 ((M 108 0) + 24)) (fun M5 =>
    bI (f_M_streetMany M5) (fun r7 M6 =>
    if ¬ i32 r7 = 0 then
      bI (f_M_streetMany M6) (fun r9 M8 =>
      bI (f_M_drawOf r9 M8) (fun r11 M10 =>
      bI (f_M_drawOf 3 M10) (fun r13 M12 =>
      bV (f_M_shifts0 r11 (r13 - 1) M12) (fun M14 =>
      kH v1 (v2 + 1) M14))))
    else
      kH v1 (v2 + 1) M6))
set_option maxRecDepth 20000 in
set_option maxHeartbeats 4000000 in
theorem w_M_days_B47 (d : Nat) (kH : Int → Int → Mm → Option (Int × Mm)) (hkH : ∀ (v1 v2 : Int) (M : Mm), T (E_M_days d) injI 47 [(0, .ref 78), (1, vI v1), (2, vI v2)] [] M (kH v1 v2 M)) (v1 v2 : Int) (M : Mm) : T (E_M_days d) injI 47 [(0, .ref 78), (1, vI v1), (2, vI v2)] [] M (f_M_days_B47 kH v1 v2 M) := by
  unfold f_M_days_B47
  refine tq_iload_n 2 (E := E_M_days d) (pc := 47) (cks_at k_M_days 30 rfl rfl) rfl ?_
  refine tq_iload_n 1 (E := E_M_days d) (pc := 48) (cks_at k_M_days 31 rfl rfl) rfl ?_
  refine tq_icmp_ge (E := E_M_days d) (pc := 49) (tgt := 100) (cks_at k_M_days 32 rfl rfl) (by decide) ?_ ?_
  · refine tq_aload_n 0 (E := E_M_days d) (pc := 100) (cks_at k_M_days 60 rfl rfl) rfl ?_
    refine tq_getR (j := 108) (E := E_M_days d) (pc := 101) (cks_at k_M_days 61 rfl rfl) fo_M_103 so_78 rfl sp_78_45 ?_
    refine tq_iconst (E := E_M_days d) (pc := 104) (cks_at k_M_days 62 rfl rfl) ?_
    refine tq_ialdC 0 (E := E_M_days d) (pc := 105) (cks_at k_M_days 63 rfl rfl) sa_108 sn_108 (by decide) ?_
    exact tq_iret (E := E_M_days d) (pc := 106) (cks_at k_M_days 64 rfl rfl) rfl
  · refine tq_aload_n 0 (E := E_M_days d) (pc := 52) (cks_at k_M_days 33 rfl rfl) rfl ?_
    refine tq_getR (j := 108) (E := E_M_days d) (pc := 53) (cks_at k_M_days 34 rfl rfl) fo_M_103 so_78 rfl sp_78_45 ?_
    refine tq_iconst (E := E_M_days d) (pc := 56) (cks_at k_M_days 35 rfl rfl) ?_
    refine tq_dup2 (E := E_M_days d) (pc := 57) (cks_at k_M_days 36 rfl rfl) rfl rfl ?_
    refine tq_ialdC 0 (E := E_M_days d) (pc := 58) (cks_at k_M_days 37 rfl rfl) sa_108 sn_108 (by decide) ?_
    refine tq_bipush (E := E_M_days d) (pc := 59) (cks_at k_M_days 38 rfl rfl) (by decide) (by decide) ?_
    refine tq_iadd (E := E_M_days d) (pc := 61) (cks_at k_M_days 39 rfl rfl) ?_
    refine tq_iastC (E := E_M_days d) (pc := 62) 0 (cks_at k_M_days 40 rfl rfl) sa_108 sn_108 (by decide) (fun M5 => ?_)
    refine tq_aload_n 0 (E := E_M_days d) (pc := 63) (cks_at k_M_days 41 rfl rfl) rfl ?_
    refine tq_V0 (E := E_M_days d) (pc := 64) (cks_at k_M_days 42 rfl rfl) mk_M_streetMany lk_M_412 rc_78 (Nat.le_of_ble_eq_true rfl) (c_M_streetMany (d + 1) M5) (k_I fun r7 M6 => ?_)
    refine tq_if_ne (E := E_M_days d) (pc := 67) (tgt := 73) (cks_at k_M_days 43 rfl rfl) (by decide) ?_ ?_
    · refine tq_aload_n 0 (E := E_M_days d) (pc := 73) (cks_at k_M_days 45 rfl rfl) rfl ?_
      refine tq_aload_n 0 (E := E_M_days d) (pc := 74) (cks_at k_M_days 46 rfl rfl) rfl ?_
      refine tq_V0 (E := E_M_days d) (pc := 75) (cks_at k_M_days 47 rfl rfl) mk_M_streetMany lk_M_412 rc_78 (Nat.le_of_ble_eq_true rfl) (c_M_streetMany (d + 1) M6) (k_I fun r9 M8 => ?_)
      refine tq_V1 (E := E_M_days d) (pc := 78) (cks_at k_M_days 48 rfl rfl) mk_M_drawOf lk_M_602 rc_78 (Nat.le_of_ble_eq_true rfl) (c_M_drawOf (d + 1) r9 M8) (k_I fun r11 M10 => ?_)
      refine tq_istore_n (E := E_M_days d) (pc := 81) (cks_at k_M_days 49 rfl rfl) (show 3 < 4 by decide) rfl ?_
      refine tq_aload_n 1 (E := E_M_days d) (pc := 82) (cks_at k_M_days 50 rfl rfl) rfl ?_
      refine tq_iload_n 0 (E := E_M_days d) (pc := 83) (cks_at k_M_days 51 rfl rfl) rfl ?_
      refine tq_aload_n 1 (E := E_M_days d) (pc := 84) (cks_at k_M_days 52 rfl rfl) rfl ?_
      refine tq_iconst (E := E_M_days d) (pc := 85) (cks_at k_M_days 53 rfl rfl) ?_
      refine tq_V1 (E := E_M_days d) (pc := 86) (cks_at k_M_days 54 rfl rfl) mk_M_drawOf lk_M_602 rc_78 (Nat.le_of_ble_eq_true rfl) (c_M_drawOf (d + 1) 3 M10) (k_I fun r13 M12 => ?_)
      refine tq_iconst (E := E_M_days d) (pc := 89) (cks_at k_M_days 55 rfl rfl) ?_
      refine tq_isub (E := E_M_days d) (pc := 90) (cks_at k_M_days 56 rfl rfl) ?_
      refine tq_V2 (E := E_M_days d) (pc := 91) (cks_at k_M_days 57 rfl rfl) mk_M_shifts0 lk_M_589 rc_78 (Nat.le_of_ble_eq_true rfl) (c_M_shifts0 (d + 0) r11 (r13 - 1) M12) (k_V fun M14 => ?_)
      refine tq_iinc 3 (E := E_M_days d) (pc := 94) (cks_at k_M_days 58 rfl rfl) rfl (show 2 < 4 by decide) rfl ?_
      refine tq_goto (tgt := 47) (E := E_M_days d) (pc := 97) (cks_at k_M_days 59 rfl rfl) (by decide) ?_
      exact tq_sub [2, 3, 0] rfl (hkH v1 (v2 + 1) M14)
    · refine tq_goto (tgt := 94) (E := E_M_days d) (pc := 70) (cks_at k_M_days 44 rfl rfl) (by decide) ?_
      refine tq_iinc 2 (E := E_M_days d) (pc := 94) (cks_at k_M_days 58 rfl rfl) rfl (show 2 < 4 by decide) rfl ?_
      refine tq_goto (tgt := 47) (E := E_M_days d) (pc := 97) (cks_at k_M_days 59 rfl rfl) (by decide) ?_
      exact tq_sub [1, 2, 0] rfl (hkH v1 (v2 + 1) M6)
def f_M_days_L47 : Nat → Int × Int × Mm → Option (Int × Mm) := lp fun kH s => f_M_days_B47 (fun v1 v2 M => kH (v1, v2, M)) s.1 s.2.1 s.2.2
set_option maxRecDepth 20000 in
set_option maxHeartbeats 4000000 in
theorem w_M_days_L47 (d : Nat) (n : Nat) (s : Int × Int × Mm) : T (E_M_days d) injI 47 [(0, .ref 78), (1, vI s.1), (2, vI s.2.1)] [] s.2.2 (f_M_days_L47 n s) :=
  tq_lp (fun s => [(0, .ref 78), (1, vI s.1), (2, vI s.2.1)]) (fun s => s.2.2) (fun kH hH s => w_M_days_B47 d (fun v1 v2 M => kH (v1, v2, M)) (fun v1 v2 M => hH (v1, v2, M)) s.1 s.2.1 s.2.2) n s
def f_M_days (v1 : Int) (M : Mm) : Option (Int × Mm) :=
  bI (f_M_isIn (i32 v1) 1 30 M) (fun r2 M1 =>
  if i32 r2 = 0 then
    f_M_days_J29 M1
  else
    if i32 ((M1 108 0) + (24 * v1)) ≤ i32 9999 then
      bV (f_M_keeps M1) (fun M4 =>
      f_M_days_L47 FU (v1, 0, M4))
    else
      f_M_days_J29 M1)
set_option maxRecDepth 20000 in
set_option maxHeartbeats 4000000 in
theorem c_M_days (d : Nat) (v1 : Int) (M : Mm) (Q : Option Value → Mm → Prop) (h : sat injI (f_M_days v1 M) Q) : Ct (d + 3) y_M_days [.ref 78, vI v1] M Q := by
  refine ct_in (d := d + 2) mk_M_days (Nat.le_of_ble_eq_true rfl) (?_ : T (E_M_days d) injI 0 [(0, .ref 78), (1, vI v1)] [] M (f_M_days v1 M)) h
  unfold f_M_days
  refine tq_iload_n 1 (E := E_M_days d) (pc := 0) (cks_at k_M_days 0 rfl rfl) rfl ?_
  refine tq_i2l (E := E_M_days d) (pc := 1) (cks_at k_M_days 1 rfl rfl) ?_
  refine tq_lconst1 (E := E_M_days d) (pc := 2) (cks_at k_M_days 2 rfl rfl) ?_
  refine tq_ldc2 (z := 30) (E := E_M_days d) (pc := 3) (cks_at k_M_days 3 rfl rfl) cst_M_600 ?_
  refine tq_S3 (E := E_M_days d) (pc := 6) (cks_at k_M_days 4 rfl rfl) mk_M_isIn lk_M_265 (Nat.le_of_ble_eq_true rfl) (c_M_isIn (d + 1) (i32 v1) 1 30 M) (k_I fun r2 M1 => ?_)
  refine tq_if_eq (E := E_M_days d) (pc := 9) (tgt := 29) (cks_at k_M_days 5 rfl rfl) (by decide) ?_ ?_
  · exact tq_sub [0] rfl (w_M_days_J29 d M1)
  · refine tq_aload_n 0 (E := E_M_days d) (pc := 12) (cks_at k_M_days 6 rfl rfl) rfl ?_
    refine tq_getR (j := 108) (E := E_M_days d) (pc := 13) (cks_at k_M_days 7 rfl rfl) fo_M_103 so_78 rfl sp_78_45 ?_
    refine tq_iconst (E := E_M_days d) (pc := 16) (cks_at k_M_days 8 rfl rfl) ?_
    refine tq_ialdC 0 (E := E_M_days d) (pc := 17) (cks_at k_M_days 9 rfl rfl) sa_108 sn_108 (by decide) ?_
    refine tq_bipush (E := E_M_days d) (pc := 18) (cks_at k_M_days 10 rfl rfl) (by decide) (by decide) ?_
    refine tq_iload_n 1 (E := E_M_days d) (pc := 20) (cks_at k_M_days 11 rfl rfl) rfl ?_
    refine tq_imul (E := E_M_days d) (pc := 21) (cks_at k_M_days 12 rfl rfl) ?_
    refine tq_iadd (E := E_M_days d) (pc := 22) (cks_at k_M_days 13 rfl rfl) ?_
    refine tq_sipush (E := E_M_days d) (pc := 23) (cks_at k_M_days 14 rfl rfl) (by decide) (by decide) ?_
    refine tq_icmp_le (E := E_M_days d) (pc := 26) (tgt := 41) (cks_at k_M_days 15 rfl rfl) (by decide) ?_ ?_
    · refine tq_aload_n 0 (E := E_M_days d) (pc := 41) (cks_at k_M_days 26 rfl rfl) rfl ?_
      refine tq_V0 (E := E_M_days d) (pc := 42) (cks_at k_M_days 27 rfl rfl) mk_M_keeps lk_M_586 rc_78 (Nat.le_of_ble_eq_true rfl) (c_M_keeps (d + 1) M1) (k_V fun M4 => ?_)
      refine tq_iconst (E := E_M_days d) (pc := 45) (cks_at k_M_days 28 rfl rfl) ?_
      refine tq_istore_n (E := E_M_days d) (pc := 46) (cks_at k_M_days 29 rfl rfl) (show 2 < 4 by decide) rfl ?_
      exact tq_sub [1, 2, 0] rfl (w_M_days_L47 d FU (v1, 0, M4))
    · exact tq_sub [0] rfl (w_M_days_J29 d M1)
abbrev E_Now_keep (d : Nat) : Ev := (Ct (d + 2), "BreathTown$Now", prog_4_method_7_code, 2, False, 0, (fun _ => 0), (Option.none : Option Jvm.ClassFile.FieldType))
def f_Now_keep_J52 (M : Mm) : Option (Mm) :=
  bV (f_BT_setCell 44 ((M 39 9) * 31) (M 39 8) M) (fun M1 =>
  bV (f_Now_move 40 (((M 39 9) * 31) + 1) 1 M1) (fun M2 =>
  bV (f_Now_move 41 ((((M 39 9) * 31) + 1) + 12) 1 M2) (fun M3 =>
  bV (f_Now_move 42 (((((M 39 9) * 31) + 1) + 12) + 6) 1 M3) (fun M4 =>
  bV (f_Now_move 43 (((((M 39 9) * 31) + 1) + 12) + 12) 1 M4) (fun M5 =>
  bd (up M5 39 9 ((M5 39 9) + 1)) (fun M6 =>
  some M6))))))
set_option maxRecDepth 20000 in
set_option maxHeartbeats 4000000 in
theorem w_Now_keep_J52 (d : Nat) (M : Mm) : T (E_Now_keep d) injV 52 [(0, .ref 39)] [] M (f_Now_keep_J52 M) := by
  unfold f_Now_keep_J52
  refine tq_aload_n 0 (E := E_Now_keep d) (pc := 52) (cks_at k_Now_keep 26 rfl rfl) rfl ?_
  refine tq_getI (E := E_Now_keep d) (pc := 53) (cks_at k_Now_keep 27 rfl rfl) fo_Now_43 so_39 rfl (by decide) ?_
  refine tq_bipush (E := E_Now_keep d) (pc := 56) (cks_at k_Now_keep 28 rfl rfl) (by decide) (by decide) ?_
  refine tq_imul (E := E_Now_keep d) (pc := 58) (cks_at k_Now_keep 29 rfl rfl) ?_
  refine tq_istore_n (E := E_Now_keep d) (pc := 59) (cks_at k_Now_keep 30 rfl rfl) (show 1 < 2 by decide) rfl ?_
  refine tq_aload_n 1 (E := E_Now_keep d) (pc := 60) (cks_at k_Now_keep 31 rfl rfl) rfl ?_
  refine tq_getR (j := 44) (E := E_Now_keep d) (pc := 61) (cks_at k_Now_keep 32 rfl rfl) fo_Now_24 so_39 rfl sp_39_5 ?_
  refine tq_iload_n 0 (E := E_Now_keep d) (pc := 64) (cks_at k_Now_keep 33 rfl rfl) rfl ?_
  refine tq_aload_n 1 (E := E_Now_keep d) (pc := 65) (cks_at k_Now_keep 34 rfl rfl) rfl ?_
  refine tq_getI (E := E_Now_keep d) (pc := 66) (cks_at k_Now_keep 35 rfl rfl) fo_Now_40 so_39 rfl (by decide) ?_
  refine tq_S3 (E := E_Now_keep d) (pc := 69) (cks_at k_Now_keep 36 rfl rfl) mk_BT_setCell lk_Now_77 (Nat.le_of_ble_eq_true rfl) (c_BT_setCell (d + 1) 44 sa_44 ((M 39 9) * 31) (M 39 8) M) (k_V fun M1 => ?_)
  refine tq_aload_n 1 (E := E_Now_keep d) (pc := 72) (cks_at k_Now_keep 37 rfl rfl) rfl ?_
  refine tq_aload_n 1 (E := E_Now_keep d) (pc := 73) (cks_at k_Now_keep 38 rfl rfl) rfl ?_
  refine tq_getR (j := 40) (E := E_Now_keep d) (pc := 74) (cks_at k_Now_keep 39 rfl rfl) fo_Now_9 so_39 rfl sp_39_1 ?_
  refine tq_iload_n 0 (E := E_Now_keep d) (pc := 77) (cks_at k_Now_keep 40 rfl rfl) rfl ?_
  refine tq_iconst (E := E_Now_keep d) (pc := 78) (cks_at k_Now_keep 41 rfl rfl) ?_
  refine tq_iadd (E := E_Now_keep d) (pc := 79) (cks_at k_Now_keep 42 rfl rfl) ?_
  refine tq_iconst (E := E_Now_keep d) (pc := 80) (cks_at k_Now_keep 43 rfl rfl) ?_
  refine tq_V3 (E := E_Now_keep d) (pc := 81) (cks_at k_Now_keep 44 rfl rfl) mk_Now_move lk_Now_81 rc_39 (Nat.le_of_ble_eq_true rfl) (c_Now_move (d + 0) 40 sa_40 (((M 39 9) * 31) + 1) 1 M1) (k_V fun M2 => ?_)
  refine tq_aload_n 1 (E := E_Now_keep d) (pc := 84) (cks_at k_Now_keep 45 rfl rfl) rfl ?_
  refine tq_aload_n 1 (E := E_Now_keep d) (pc := 85) (cks_at k_Now_keep 46 rfl rfl) rfl ?_
  refine tq_getR (j := 41) (E := E_Now_keep d) (pc := 86) (cks_at k_Now_keep 47 rfl rfl) fo_Now_15 so_39 rfl sp_39_2 ?_
  refine tq_iload_n 0 (E := E_Now_keep d) (pc := 89) (cks_at k_Now_keep 48 rfl rfl) rfl ?_
  refine tq_iconst (E := E_Now_keep d) (pc := 90) (cks_at k_Now_keep 49 rfl rfl) ?_
  refine tq_iadd (E := E_Now_keep d) (pc := 91) (cks_at k_Now_keep 50 rfl rfl) ?_
  refine tq_bipush (E := E_Now_keep d) (pc := 92) (cks_at k_Now_keep 51 rfl rfl) (by decide) (by decide) ?_
  refine tq_iadd (E := E_Now_keep d) (pc := 94) (cks_at k_Now_keep 52 rfl rfl) ?_
  refine tq_iconst (E := E_Now_keep d) (pc := 95) (cks_at k_Now_keep 53 rfl rfl) ?_
  refine tq_V3 (E := E_Now_keep d) (pc := 96) (cks_at k_Now_keep 54 rfl rfl) mk_Now_move lk_Now_81 rc_39 (Nat.le_of_ble_eq_true rfl) (c_Now_move (d + 0) 41 sa_41 ((((M 39 9) * 31) + 1) + 12) 1 M2) (k_V fun M3 => ?_)
  refine tq_aload_n 1 (E := E_Now_keep d) (pc := 99) (cks_at k_Now_keep 55 rfl rfl) rfl ?_
  refine tq_aload_n 1 (E := E_Now_keep d) (pc := 100) (cks_at k_Now_keep 56 rfl rfl) rfl ?_
  refine tq_getR (j := 42) (E := E_Now_keep d) (pc := 101) (cks_at k_Now_keep 57 rfl rfl) fo_Now_18 so_39 rfl sp_39_3 ?_
  refine tq_iload_n 0 (E := E_Now_keep d) (pc := 104) (cks_at k_Now_keep 58 rfl rfl) rfl ?_
  refine tq_iconst (E := E_Now_keep d) (pc := 105) (cks_at k_Now_keep 59 rfl rfl) ?_
  refine tq_iadd (E := E_Now_keep d) (pc := 106) (cks_at k_Now_keep 60 rfl rfl) ?_
  refine tq_bipush (E := E_Now_keep d) (pc := 107) (cks_at k_Now_keep 61 rfl rfl) (by decide) (by decide) ?_
  refine tq_iadd (E := E_Now_keep d) (pc := 109) (cks_at k_Now_keep 62 rfl rfl) ?_
  refine tq_bipush (E := E_Now_keep d) (pc := 110) (cks_at k_Now_keep 63 rfl rfl) (by decide) (by decide) ?_
  refine tq_iadd (E := E_Now_keep d) (pc := 112) (cks_at k_Now_keep 64 rfl rfl) ?_
  refine tq_iconst (E := E_Now_keep d) (pc := 113) (cks_at k_Now_keep 65 rfl rfl) ?_
  refine tq_V3 (E := E_Now_keep d) (pc := 114) (cks_at k_Now_keep 66 rfl rfl) mk_Now_move lk_Now_81 rc_39 (Nat.le_of_ble_eq_true rfl) (c_Now_move (d + 0) 42 sa_42 (((((M 39 9) * 31) + 1) + 12) + 6) 1 M3) (k_V fun M4 => ?_)
  refine tq_aload_n 1 (E := E_Now_keep d) (pc := 117) (cks_at k_Now_keep 67 rfl rfl) rfl ?_
  refine tq_aload_n 1 (E := E_Now_keep d) (pc := 118) (cks_at k_Now_keep 68 rfl rfl) rfl ?_
  refine tq_getR (j := 43) (E := E_Now_keep d) (pc := 119) (cks_at k_Now_keep 69 rfl rfl) fo_Now_21 so_39 rfl sp_39_4 ?_
  refine tq_iload_n 0 (E := E_Now_keep d) (pc := 122) (cks_at k_Now_keep 70 rfl rfl) rfl ?_
  refine tq_iconst (E := E_Now_keep d) (pc := 123) (cks_at k_Now_keep 71 rfl rfl) ?_
  refine tq_iadd (E := E_Now_keep d) (pc := 124) (cks_at k_Now_keep 72 rfl rfl) ?_
  refine tq_bipush (E := E_Now_keep d) (pc := 125) (cks_at k_Now_keep 73 rfl rfl) (by decide) (by decide) ?_
  refine tq_iadd (E := E_Now_keep d) (pc := 127) (cks_at k_Now_keep 74 rfl rfl) ?_
  refine tq_bipush (E := E_Now_keep d) (pc := 128) (cks_at k_Now_keep 75 rfl rfl) (by decide) (by decide) ?_
  refine tq_iadd (E := E_Now_keep d) (pc := 130) (cks_at k_Now_keep 76 rfl rfl) ?_
  refine tq_iconst (E := E_Now_keep d) (pc := 131) (cks_at k_Now_keep 77 rfl rfl) ?_
  refine tq_V3 (E := E_Now_keep d) (pc := 132) (cks_at k_Now_keep 78 rfl rfl) mk_Now_move lk_Now_81 rc_39 (Nat.le_of_ble_eq_true rfl) (c_Now_move (d + 0) 43 sa_43 (((((M 39 9) * 31) + 1) + 12) + 12) 1 M4) (k_V fun M5 => ?_)
  refine tq_aload_n 1 (E := E_Now_keep d) (pc := 135) (cks_at k_Now_keep 79 rfl rfl) rfl ?_
  refine tq_dup (E := E_Now_keep d) (pc := 136) (cks_at k_Now_keep 80 rfl rfl) rfl ?_
  refine tq_getI (E := E_Now_keep d) (pc := 137) (cks_at k_Now_keep 81 rfl rfl) fo_Now_43 so_39 rfl (by decide) ?_
  refine tq_iconst (E := E_Now_keep d) (pc := 140) (cks_at k_Now_keep 82 rfl rfl) ?_
  refine tq_iadd (E := E_Now_keep d) (pc := 141) (cks_at k_Now_keep 83 rfl rfl) ?_
  refine tq_putI (E := E_Now_keep d) (pc := 142) (cks_at k_Now_keep 84 rfl rfl) fo_Now_43 so_39 rfl po_2_9 (fun M6 => ?_)
  exact tq_vret (E := E_Now_keep d) (pc := 145) (cks_at k_Now_keep 85 rfl rfl) rfl
def f_Now_keep_B12 (kH : Int → Mm → Option (Mm)) (kx46 : Mm → Option (Mm)) (v1 : Int) (M : Mm) : Option (Mm) :=
  if i32 (((620 : Nat) : Int)) ≤ i32 v1 then
    kx46 M
  else
    bI (f_BT_cell 44 v1 M) (fun r8 M7 =>
    bV (f_BT_setCell 44 (v1 - 31) r8 M7) (fun M9 =>
    kH (v1 + 1) M9))
set_option maxRecDepth 20000 in
set_option maxHeartbeats 4000000 in
theorem w_Now_keep_B12 (d : Nat) (kH : Int → Mm → Option (Mm)) (kx46 : Mm → Option (Mm)) (hkH : ∀ (v1 : Int) (M : Mm), T (E_Now_keep d) injV 12 [(0, .ref 39), (1, vI v1)] [] M (kH v1 M)) (hkx46 : ∀  (M : Mm), T (E_Now_keep d) injV 46 [(0, .ref 39)] [] M (kx46 M)) (v1 : Int) (M : Mm) : T (E_Now_keep d) injV 12 [(0, .ref 39), (1, vI v1)] [] M (f_Now_keep_B12 kH kx46 v1 M) := by
  unfold f_Now_keep_B12
  refine tq_iload_n 1 (E := E_Now_keep d) (pc := 12) (cks_at k_Now_keep 6 rfl rfl) rfl ?_
  refine tq_aload_n 0 (E := E_Now_keep d) (pc := 13) (cks_at k_Now_keep 7 rfl rfl) rfl ?_
  refine tq_getR (j := 44) (E := E_Now_keep d) (pc := 14) (cks_at k_Now_keep 8 rfl rfl) fo_Now_24 so_39 rfl sp_39_5 ?_
  refine tq_alen (E := E_Now_keep d) (pc := 17) (cks_at k_Now_keep 9 rfl rfl) ⟨by rw [(sa_44).1]; decide, by rw [(sa_44).1]; decide, (sa_44).2⟩ sn_44 ?_
  refine tq_icmp_ge (E := E_Now_keep d) (pc := 18) (tgt := 46) (cks_at k_Now_keep 10 rfl rfl) (by decide) ?_ ?_
  · exact tq_sub [0] rfl (hkx46 M)
  · refine tq_aload_n 0 (E := E_Now_keep d) (pc := 21) (cks_at k_Now_keep 11 rfl rfl) rfl ?_
    refine tq_getR (j := 44) (E := E_Now_keep d) (pc := 22) (cks_at k_Now_keep 12 rfl rfl) fo_Now_24 so_39 rfl sp_39_5 ?_
    refine tq_iload_n 1 (E := E_Now_keep d) (pc := 25) (cks_at k_Now_keep 13 rfl rfl) rfl ?_
    refine tq_bipush (E := E_Now_keep d) (pc := 26) (cks_at k_Now_keep 14 rfl rfl) (by decide) (by decide) ?_
    refine tq_isub (E := E_Now_keep d) (pc := 28) (cks_at k_Now_keep 15 rfl rfl) ?_
    refine tq_aload_n 0 (E := E_Now_keep d) (pc := 29) (cks_at k_Now_keep 16 rfl rfl) rfl ?_
    refine tq_getR (j := 44) (E := E_Now_keep d) (pc := 30) (cks_at k_Now_keep 17 rfl rfl) fo_Now_24 so_39 rfl sp_39_5 ?_
    refine tq_iload_n 1 (E := E_Now_keep d) (pc := 33) (cks_at k_Now_keep 18 rfl rfl) rfl ?_
    refine tq_S2 (E := E_Now_keep d) (pc := 34) (cks_at k_Now_keep 19 rfl rfl) mk_BT_cell lk_Now_57 (Nat.le_of_ble_eq_true rfl) (c_BT_cell (d + 1) 44 sa_44 v1 M) (k_I fun r8 M7 => ?_)
    refine tq_S3 (E := E_Now_keep d) (pc := 37) (cks_at k_Now_keep 20 rfl rfl) mk_BT_setCell lk_Now_77 (Nat.le_of_ble_eq_true rfl) (c_BT_setCell (d + 1) 44 sa_44 (v1 - 31) r8 M7) (k_V fun M9 => ?_)
    refine tq_iinc 1 (E := E_Now_keep d) (pc := 40) (cks_at k_Now_keep 21 rfl rfl) rfl (show 1 < 2 by decide) rfl ?_
    refine tq_goto (tgt := 12) (E := E_Now_keep d) (pc := 43) (cks_at k_Now_keep 22 rfl rfl) (by decide) ?_
    exact tq_sub [1, 0] rfl (hkH (v1 + 1) M9)
def f_Now_keep_L12 (kx46 : Mm → Option (Mm)) : Nat → Int × Mm → Option (Mm) := lp fun kH s => f_Now_keep_B12 (fun v1 M => kH (v1, M)) kx46 s.1 s.2
set_option maxRecDepth 20000 in
set_option maxHeartbeats 4000000 in
theorem w_Now_keep_L12 (d : Nat) (kx46 : Mm → Option (Mm)) (hkx46 : ∀  (M : Mm), T (E_Now_keep d) injV 46 [(0, .ref 39)] [] M (kx46 M)) (n : Nat) (s : Int × Mm) : T (E_Now_keep d) injV 12 [(0, .ref 39), (1, vI s.1)] [] s.2 (f_Now_keep_L12 kx46 n s) :=
  tq_lp (fun s => [(0, .ref 39), (1, vI s.1)]) (fun s => s.2) (fun kH hH s => w_Now_keep_B12 d (fun v1 M => kH (v1, M)) kx46 (fun v1 M => hH (v1, M)) hkx46 s.1 s.2) n s
def f_Now_keep (M : Mm) : Option (Mm) :=
  if i32 (M 39 9) < i32 20 then
    f_Now_keep_J52 M
  else
    f_Now_keep_L12 (fun M10 => bd (up M10 39 9 19) (fun M11 =>
        f_Now_keep_J52 M11)) FU (31, M)
set_option maxRecDepth 20000 in
set_option maxHeartbeats 4000000 in
theorem c_Now_keep (d : Nat) (M : Mm) (Q : Option Value → Mm → Prop) (h : sat injV (f_Now_keep M) Q) : Ct (d + 3) y_Now_keep [.ref 39] M Q := by
  refine ct_in (d := d + 2) mk_Now_keep (Nat.le_of_ble_eq_true rfl) (?_ : T (E_Now_keep d) injV 0 [(0, .ref 39)] [] M (f_Now_keep M)) h
  unfold f_Now_keep
  refine tq_aload_n 0 (E := E_Now_keep d) (pc := 0) (cks_at k_Now_keep 0 rfl rfl) rfl ?_
  refine tq_getI (E := E_Now_keep d) (pc := 1) (cks_at k_Now_keep 1 rfl rfl) fo_Now_43 so_39 rfl (by decide) ?_
  refine tq_bipush (E := E_Now_keep d) (pc := 4) (cks_at k_Now_keep 2 rfl rfl) (by decide) (by decide) ?_
  refine tq_icmp_lt (E := E_Now_keep d) (pc := 6) (tgt := 52) (cks_at k_Now_keep 3 rfl rfl) (by decide) ?_ ?_
  · exact tq_sub [0] rfl (w_Now_keep_J52 d M)
  · refine tq_bipush (E := E_Now_keep d) (pc := 9) (cks_at k_Now_keep 4 rfl rfl) (by decide) (by decide) ?_
    refine tq_istore_n (E := E_Now_keep d) (pc := 11) (cks_at k_Now_keep 5 rfl rfl) (show 1 < 2 by decide) rfl ?_
    exact tq_sub [1, 0] rfl (w_Now_keep_L12 d _ (fun M10 => by
        refine tq_aload_n 0 (E := E_Now_keep d) (pc := 46) (cks_at k_Now_keep 23 rfl rfl) rfl ?_
        refine tq_bipush (E := E_Now_keep d) (pc := 47) (cks_at k_Now_keep 24 rfl rfl) (by decide) (by decide) ?_
        refine tq_putI (E := E_Now_keep d) (pc := 49) (cks_at k_Now_keep 25 rfl rfl) fo_Now_43 so_39 rfl po_2_9 (fun M11 => ?_)
        exact tq_sub [0] rfl (w_Now_keep_J52 d M11)) FU (31, M))
abbrev E_BT_drawn (d : Nat) : Ev := (Ct (d + 0), "BreathTown", prog_1_method_39_code, 2, False, 0, (fun _ => 0), (Option.some Jvm.ClassFile.FieldType.int))
def f_BT_drawn (v1 : Int) (M : Mm) : Option (Int × Mm) :=
  bd (up M 0 13 (and64 ((1103515245 * (M 0 13)) + 12345) 2147483647)) (fun M1 =>
  if i32 v1 ≤ 0 then
    some (0, M1)
  else
    gd (¬ i64 (i32 v1) = 0) <|
    some ((i64 ((i64 (M1 0 13)).tdiv (i64 64))).tmod (i64 (i32 v1)), M1))
set_option maxRecDepth 20000 in
set_option maxHeartbeats 4000000 in
theorem c_BT_drawn (d : Nat) (v1 : Int) (M : Mm) (Q : Option Value → Mm → Prop) (h : sat injI (f_BT_drawn v1 M) Q) : Ct (d + 1) y_BT_drawn [.ref 0, vI v1] M Q := by
  refine ct_in (d := d + 0) mk_BT_drawn (Nat.le_of_ble_eq_true rfl) (?_ : T (E_BT_drawn d) injI 0 [(0, .ref 0), (1, vI v1)] [] M (f_BT_drawn v1 M)) h
  unfold f_BT_drawn
  refine tq_aload_n 0 (E := E_BT_drawn d) (pc := 0) (cks_at k_BT_drawn 0 rfl rfl) rfl ?_
  refine tq_ldc2 (z := 1103515245) (E := E_BT_drawn d) (pc := 1) (cks_at k_BT_drawn 1 rfl rfl) cst_BT_318 ?_
  refine tq_aload_n 0 (E := E_BT_drawn d) (pc := 4) (cks_at k_BT_drawn 2 rfl rfl) rfl ?_
  refine tq_getJ (E := E_BT_drawn d) (pc := 5) (cks_at k_BT_drawn 3 rfl rfl) fo_BT_98 so_0 rfl ?_
  refine tq_lmul (E := E_BT_drawn d) (pc := 8) (cks_at k_BT_drawn 4 rfl rfl) ?_
  refine tq_ldc2 (z := 12345) (E := E_BT_drawn d) (pc := 9) (cks_at k_BT_drawn 5 rfl rfl) cst_BT_320 ?_
  refine tq_ladd (E := E_BT_drawn d) (pc := 12) (cks_at k_BT_drawn 6 rfl rfl) ?_
  refine tq_ldc2 (z := 2147483647) (E := E_BT_drawn d) (pc := 13) (cks_at k_BT_drawn 7 rfl rfl) cst_BT_322 ?_
  refine tq_land (E := E_BT_drawn d) (pc := 16) (cks_at k_BT_drawn 8 rfl rfl) ?_
  refine tq_putJ (E := E_BT_drawn d) (pc := 17) (cks_at k_BT_drawn 9 rfl rfl) fo_BT_98 so_0 rfl po_11_13 (fun M1 => ?_)
  refine tq_iload_n 1 (E := E_BT_drawn d) (pc := 20) (cks_at k_BT_drawn 10 rfl rfl) rfl ?_
  refine tq_if_le (E := E_BT_drawn d) (pc := 21) (tgt := 39) (cks_at k_BT_drawn 11 rfl rfl) (by decide) ?_ ?_
  · refine tq_iconst (E := E_BT_drawn d) (pc := 39) (cks_at k_BT_drawn 21 rfl rfl) ?_
    exact tq_iret (E := E_BT_drawn d) (pc := 40) (cks_at k_BT_drawn 22 rfl rfl) rfl
  · refine tq_aload_n 0 (E := E_BT_drawn d) (pc := 24) (cks_at k_BT_drawn 12 rfl rfl) rfl ?_
    refine tq_getJ (E := E_BT_drawn d) (pc := 25) (cks_at k_BT_drawn 13 rfl rfl) fo_BT_98 so_0 rfl ?_
    refine tq_ldc2 (z := 64) (E := E_BT_drawn d) (pc := 28) (cks_at k_BT_drawn 14 rfl rfl) cst_BT_324 ?_
    refine tq_ldivC (E := E_BT_drawn d) (pc := 31) (cks_at k_BT_drawn 15 rfl rfl) (by decide) ?_
    refine tq_iload_n 1 (E := E_BT_drawn d) (pc := 32) (cks_at k_BT_drawn 16 rfl rfl) rfl ?_
    refine tq_i2l (E := E_BT_drawn d) (pc := 33) (cks_at k_BT_drawn 17 rfl rfl) ?_
    refine tq_lrem (E := E_BT_drawn d) (pc := 34) (cks_at k_BT_drawn 18 rfl rfl) ?_
    refine tq_l2i (E := E_BT_drawn d) (pc := 35) (cks_at k_BT_drawn 19 rfl rfl) ?_
    refine tq_goto (tgt := 40) (E := E_BT_drawn d) (pc := 36) (cks_at k_BT_drawn 20 rfl rfl) (by decide) ?_
    exact tq_iret (E := E_BT_drawn d) (pc := 40) (cks_at k_BT_drawn 22 rfl rfl) rfl
abbrev E_Now_turn (d : Nat) : Ev := (Ct (d + 1), "BreathTown$Now", prog_4_method_5_code, 4, False, 0, (fun _ => 0), (Option.none : Option Jvm.ClassFile.FieldType))
def f_Now_turn (v1 : Int) (v2 : Int) (M : Mm) : Option (Mm) :=
  bI (f_BT_cell 9 v1 M) (fun r2 M1 =>
  if i32 r2 ≤ 0 then
    bV (f_BT_setCell 40 v1 0 M1) (fun M3 =>
    some M3)
  else
    bI (f_BT_cell 40 v1 M1) (fun r5 M4 =>
    bI (f_Math_floorMod (r5 + v2) r2 M4) (fun r7 M6 =>
    bV (f_BT_setCell 40 v1 r7 M6) (fun M8 =>
    some M8))))
set_option maxRecDepth 20000 in
set_option maxHeartbeats 4000000 in
theorem c_Now_turn (d : Nat) (v1 : Int) (v2 : Int) (M : Mm) (Q : Option Value → Mm → Prop) (h : sat injV (f_Now_turn v1 v2 M) Q) : Ct (d + 2) y_Now_turn [.ref 39, vI v1, vI v2] M Q := by
  refine ct_in (d := d + 1) mk_Now_turn (Nat.le_of_ble_eq_true rfl) (?_ : T (E_Now_turn d) injV 0 [(0, .ref 39), (1, vI v1), (2, vI v2)] [] M (f_Now_turn v1 v2 M)) h
  unfold f_Now_turn
  refine tq_aload_n 0 (E := E_Now_turn d) (pc := 0) (cks_at k_Now_turn 0 rfl rfl) rfl ?_
  refine tq_getR (j := 3) (E := E_Now_turn d) (pc := 1) (cks_at k_Now_turn 1 rfl rfl) fo_Now_30 so_39 rfl sp_39_0 ?_
  refine tq_getR (j := 9) (E := E_Now_turn d) (pc := 4) (cks_at k_Now_turn 2 rfl rfl) fo_Now_71 so_3 rfl sp_3_5 ?_
  refine tq_iload_n 1 (E := E_Now_turn d) (pc := 7) (cks_at k_Now_turn 3 rfl rfl) rfl ?_
  refine tq_S2 (E := E_Now_turn d) (pc := 8) (cks_at k_Now_turn 4 rfl rfl) mk_BT_cell lk_Now_57 (Nat.le_of_ble_eq_true rfl) (c_BT_cell (d + 0) 9 sa_9 v1 M) (k_I fun r2 M1 => ?_)
  refine tq_istore_n (E := E_Now_turn d) (pc := 11) (cks_at k_Now_turn 5 rfl rfl) (show 3 < 4 by decide) rfl ?_
  refine tq_aload_n 1 (E := E_Now_turn d) (pc := 12) (cks_at k_Now_turn 6 rfl rfl) rfl ?_
  refine tq_getR (j := 40) (E := E_Now_turn d) (pc := 13) (cks_at k_Now_turn 7 rfl rfl) fo_Now_9 so_39 rfl sp_39_1 ?_
  refine tq_iload_n 2 (E := E_Now_turn d) (pc := 16) (cks_at k_Now_turn 8 rfl rfl) rfl ?_
  refine tq_iload_n 0 (E := E_Now_turn d) (pc := 17) (cks_at k_Now_turn 9 rfl rfl) rfl ?_
  refine tq_if_le (E := E_Now_turn d) (pc := 18) (tgt := 38) (cks_at k_Now_turn 10 rfl rfl) (by decide) ?_ ?_
  · refine tq_iconst (E := E_Now_turn d) (pc := 38) (cks_at k_Now_turn 20 rfl rfl) ?_
    refine tq_S3 (E := E_Now_turn d) (pc := 39) (cks_at k_Now_turn 21 rfl rfl) mk_BT_setCell lk_Now_77 (Nat.le_of_ble_eq_true rfl) (c_BT_setCell (d + 0) 40 sa_40 v1 0 M1) (k_V fun M3 => ?_)
    exact tq_vret (E := E_Now_turn d) (pc := 42) (cks_at k_Now_turn 22 rfl rfl) rfl
  · refine tq_aload_n 1 (E := E_Now_turn d) (pc := 21) (cks_at k_Now_turn 11 rfl rfl) rfl ?_
    refine tq_getR (j := 40) (E := E_Now_turn d) (pc := 22) (cks_at k_Now_turn 12 rfl rfl) fo_Now_9 so_39 rfl sp_39_1 ?_
    refine tq_iload_n 2 (E := E_Now_turn d) (pc := 25) (cks_at k_Now_turn 13 rfl rfl) rfl ?_
    refine tq_S2 (E := E_Now_turn d) (pc := 26) (cks_at k_Now_turn 14 rfl rfl) mk_BT_cell lk_Now_57 (Nat.le_of_ble_eq_true rfl) (c_BT_cell (d + 0) 40 sa_40 v1 M1) (k_I fun r5 M4 => ?_)
    refine tq_iload_n 3 (E := E_Now_turn d) (pc := 29) (cks_at k_Now_turn 15 rfl rfl) rfl ?_
    refine tq_iadd (E := E_Now_turn d) (pc := 30) (cks_at k_Now_turn 16 rfl rfl) ?_
    refine tq_iload_n 0 (E := E_Now_turn d) (pc := 31) (cks_at k_Now_turn 17 rfl rfl) rfl ?_
    refine tq_S2 (E := E_Now_turn d) (pc := 32) (cks_at k_Now_turn 18 rfl rfl) mk_Math_floorMod lk_Now_74 (Nat.le_of_ble_eq_true rfl) (c_Math_floorMod (d + 0) (r5 + v2) r2 M4) (k_I fun r7 M6 => ?_)
    refine tq_goto (tgt := 39) (E := E_Now_turn d) (pc := 35) (cks_at k_Now_turn 19 rfl rfl) (by decide) ?_
    refine tq_S3 (E := E_Now_turn d) (pc := 39) (cks_at k_Now_turn 21 rfl rfl) mk_BT_setCell lk_Now_77 (Nat.le_of_ble_eq_true rfl) (c_BT_setCell (d + 0) 40 sa_40 v1 r7 M6) (k_V fun M8 => ?_)
    exact tq_vret (E := E_Now_turn d) (pc := 42) (cks_at k_Now_turn 22 rfl rfl) rfl
abbrev E_BT_passDay (d : Nat) : Ev := (Ct (d + 2), "BreathTown", prog_1_method_38_code, 3, False, 0, (fun _ => 0), (Option.none : Option Jvm.ClassFile.FieldType))
def f_BT_passDay (M : Mm) : Option (Mm) :=
  bd (up M 39 8 ((M 39 8) + 24)) (fun M1 =>
  bI (f_Told_count 3 1 M1) (fun r3 M2 =>
  if i32 r3 ≤ 0 then
    some M2
  else
    bI (f_BT_drawn r3 M2) (fun r5 M4 =>
    bI (f_BT_drawn 3 M4) (fun r7 M6 =>
    bV (f_Now_turn r5 (r7 - 1) M6) (fun M8 =>
    some M8)))))
set_option maxRecDepth 20000 in
set_option maxHeartbeats 4000000 in
theorem c_BT_passDay (d : Nat) (M : Mm) (Q : Option Value → Mm → Prop) (h : sat injV (f_BT_passDay M) Q) : Ct (d + 3) y_BT_passDay [.ref 0] M Q := by
  refine ct_in (d := d + 2) mk_BT_passDay (Nat.le_of_ble_eq_true rfl) (?_ : T (E_BT_passDay d) injV 0 [(0, .ref 0)] [] M (f_BT_passDay M)) h
  unfold f_BT_passDay
  refine tq_aload_n 0 (E := E_BT_passDay d) (pc := 0) (cks_at k_BT_passDay 0 rfl rfl) rfl ?_
  refine tq_getR (j := 39) (E := E_BT_passDay d) (pc := 1) (cks_at k_BT_passDay 1 rfl rfl) fo_BT_40 so_0 rfl sp_0_4 ?_
  refine tq_dup (E := E_BT_passDay d) (pc := 4) (cks_at k_BT_passDay 2 rfl rfl) rfl ?_
  refine tq_getI (E := E_BT_passDay d) (pc := 5) (cks_at k_BT_passDay 3 rfl rfl) fo_BT_134 so_39 rfl (by decide) ?_
  refine tq_bipush (E := E_BT_passDay d) (pc := 8) (cks_at k_BT_passDay 4 rfl rfl) (by decide) (by decide) ?_
  refine tq_iadd (E := E_BT_passDay d) (pc := 10) (cks_at k_BT_passDay 5 rfl rfl) ?_
  refine tq_putI (E := E_BT_passDay d) (pc := 11) (cks_at k_BT_passDay 6 rfl rfl) fo_BT_134 so_39 rfl po_2_8 (fun M1 => ?_)
  refine tq_aload_n 0 (E := E_BT_passDay d) (pc := 14) (cks_at k_BT_passDay 7 rfl rfl) rfl ?_
  refine tq_getR (j := 3) (E := E_BT_passDay d) (pc := 15) (cks_at k_BT_passDay 8 rfl rfl) fo_BT_19 so_0 rfl sp_0_1 ?_
  refine tq_iconst (E := E_BT_passDay d) (pc := 18) (cks_at k_BT_passDay 9 rfl rfl) ?_
  refine tq_V1 (E := E_BT_passDay d) (pc := 19) (cks_at k_BT_passDay 10 rfl rfl) mk_Told_count lk_BT_132 (isTold_rc (Or.inl rfl)) (Nat.le_of_ble_eq_true rfl) (c_Told_count (d + 0) 3 (Or.inl rfl) 1 M1) (k_I fun r3 M2 => ?_)
  refine tq_istore_n (E := E_BT_passDay d) (pc := 22) (cks_at k_BT_passDay 11 rfl rfl) (show 1 < 3 by decide) rfl ?_
  refine tq_iload_n 0 (E := E_BT_passDay d) (pc := 23) (cks_at k_BT_passDay 12 rfl rfl) rfl ?_
  refine tq_if_le (E := E_BT_passDay d) (pc := 24) (tgt := 48) (cks_at k_BT_passDay 13 rfl rfl) (by decide) ?_ ?_
  · exact tq_vret (E := E_BT_passDay d) (pc := 48) (cks_at k_BT_passDay 27 rfl rfl) rfl
  · refine tq_aload_n 1 (E := E_BT_passDay d) (pc := 27) (cks_at k_BT_passDay 14 rfl rfl) rfl ?_
    refine tq_iload_n 0 (E := E_BT_passDay d) (pc := 28) (cks_at k_BT_passDay 15 rfl rfl) rfl ?_
    refine tq_V1 (E := E_BT_passDay d) (pc := 29) (cks_at k_BT_passDay 16 rfl rfl) mk_BT_drawn lk_BT_315 rc_0 (Nat.le_of_ble_eq_true rfl) (c_BT_drawn (d + 1) r3 M2) (k_I fun r5 M4 => ?_)
    refine tq_istore_n (E := E_BT_passDay d) (pc := 32) (cks_at k_BT_passDay 17 rfl rfl) (show 2 < 3 by decide) rfl ?_
    refine tq_aload_n 2 (E := E_BT_passDay d) (pc := 33) (cks_at k_BT_passDay 18 rfl rfl) rfl ?_
    refine tq_getR (j := 39) (E := E_BT_passDay d) (pc := 34) (cks_at k_BT_passDay 19 rfl rfl) fo_BT_40 so_0 rfl sp_0_4 ?_
    refine tq_iload_n 0 (E := E_BT_passDay d) (pc := 37) (cks_at k_BT_passDay 20 rfl rfl) rfl ?_
    refine tq_aload_n 2 (E := E_BT_passDay d) (pc := 38) (cks_at k_BT_passDay 21 rfl rfl) rfl ?_
    refine tq_iconst (E := E_BT_passDay d) (pc := 39) (cks_at k_BT_passDay 22 rfl rfl) ?_
    refine tq_V1 (E := E_BT_passDay d) (pc := 40) (cks_at k_BT_passDay 23 rfl rfl) mk_BT_drawn lk_BT_315 rc_0 (Nat.le_of_ble_eq_true rfl) (c_BT_drawn (d + 1) 3 M4) (k_I fun r7 M6 => ?_)
    refine tq_iconst (E := E_BT_passDay d) (pc := 43) (cks_at k_BT_passDay 24 rfl rfl) ?_
    refine tq_isub (E := E_BT_passDay d) (pc := 44) (cks_at k_BT_passDay 25 rfl rfl) ?_
    refine tq_V2 (E := E_BT_passDay d) (pc := 45) (cks_at k_BT_passDay 26 rfl rfl) mk_Now_turn lk_BT_257 rc_39 (Nat.le_of_ble_eq_true rfl) (c_Now_turn (d + 0) r5 (r7 - 1) M6) (k_V fun M8 => ?_)
    exact tq_vret (E := E_BT_passDay d) (pc := 48) (cks_at k_BT_passDay 27 rfl rfl) rfl
abbrev E_BT_days (d : Nat) : Ev := (Ct (d + 3), "BreathTown", prog_1_method_25_code, 3, False, 0, (fun _ => 0), (Option.some Jvm.ClassFile.FieldType.int))
def f_BT_days_B44 (kH : Int → Int → Mm → Option (Int × Mm)) (v1 v2 : Int) (M : Mm) : Option (Int × Mm) :=
  if i32 v1 ≤ i32 v2 then
    some (M 39 8, M)
  else
    bV (f_BT_passDay M) (fun M6 =>
    kH v1 (v2 + 1) M6)
set_option maxRecDepth 20000 in
set_option maxHeartbeats 4000000 in
theorem w_BT_days_B44 (d : Nat) (kH : Int → Int → Mm → Option (Int × Mm)) (hkH : ∀ (v1 v2 : Int) (M : Mm), T (E_BT_days d) injI 44 [(0, .ref 0), (1, vI v1), (2, vI v2)] [] M (kH v1 v2 M)) (v1 v2 : Int) (M : Mm) : T (E_BT_days d) injI 44 [(0, .ref 0), (1, vI v1), (2, vI v2)] [] M (f_BT_days_B44 kH v1 v2 M) := by
  unfold f_BT_days_B44
  refine tq_iload_n 2 (E := E_BT_days d) (pc := 44) (cks_at k_BT_days 24 rfl rfl) rfl ?_
  refine tq_iload_n 1 (E := E_BT_days d) (pc := 45) (cks_at k_BT_days 25 rfl rfl) rfl ?_
  refine tq_icmp_ge (E := E_BT_days d) (pc := 46) (tgt := 59) (cks_at k_BT_days 26 rfl rfl) (by decide) ?_ ?_
  · refine tq_aload_n 0 (E := E_BT_days d) (pc := 59) (cks_at k_BT_days 31 rfl rfl) rfl ?_
    refine tq_getR (j := 39) (E := E_BT_days d) (pc := 60) (cks_at k_BT_days 32 rfl rfl) fo_BT_40 so_0 rfl sp_0_4 ?_
    refine tq_getI (E := E_BT_days d) (pc := 63) (cks_at k_BT_days 33 rfl rfl) fo_BT_134 so_39 rfl (by decide) ?_
    exact tq_iret (E := E_BT_days d) (pc := 66) (cks_at k_BT_days 34 rfl rfl) rfl
  · refine tq_aload_n 0 (E := E_BT_days d) (pc := 49) (cks_at k_BT_days 27 rfl rfl) rfl ?_
    refine tq_V0 (E := E_BT_days d) (pc := 50) (cks_at k_BT_days 28 rfl rfl) mk_BT_passDay lk_BT_260 rc_0 (Nat.le_of_ble_eq_true rfl) (c_BT_passDay (d + 0) M) (k_V fun M6 => ?_)
    refine tq_iinc 2 (E := E_BT_days d) (pc := 53) (cks_at k_BT_days 29 rfl rfl) rfl (show 2 < 3 by decide) rfl ?_
    refine tq_goto (tgt := 44) (E := E_BT_days d) (pc := 56) (cks_at k_BT_days 30 rfl rfl) (by decide) ?_
    exact tq_sub [1, 2, 0] rfl (hkH v1 (v2 + 1) M6)
def f_BT_days_L44 : Nat → Int × Int × Mm → Option (Int × Mm) := lp fun kH s => f_BT_days_B44 (fun v1 v2 M => kH (v1, v2, M)) s.1 s.2.1 s.2.2
set_option maxRecDepth 20000 in
set_option maxHeartbeats 4000000 in
theorem w_BT_days_L44 (d : Nat) (n : Nat) (s : Int × Int × Mm) : T (E_BT_days d) injI 44 [(0, .ref 0), (1, vI s.1), (2, vI s.2.1)] [] s.2.2 (f_BT_days_L44 n s) :=
  tq_lp (fun s => [(0, .ref 0), (1, vI s.1), (2, vI s.2.1)]) (fun s => s.2.2) (fun kH hH s => w_BT_days_B44 d (fun v1 v2 M => kH (v1, v2, M)) (fun v1 v2 M => hH (v1, v2, M)) s.1 s.2.1 s.2.2) n s
def f_BT_days (v1 : Int) (M : Mm) : Option (Int × Mm) :=
  if i32 v1 < i32 1 then
    bI (f_BT_refused 2 M) (fun r2 M1 =>
    some (r2, M1))
  else
    if i32 30 < i32 v1 then
      bI (f_BT_refused 2 M) (fun r4 M3 =>
      some (r4, M3))
    else
      if i32 ((M 39 8) + (v1 * 24)) ≤ i32 9999 then
        bV (f_Now_keep M) (fun M5 =>
        f_BT_days_L44 FU (v1, 0, M5))
      else
        bI (f_BT_refused 2 M) (fun r8 M7 =>
        some (r8, M7))
set_option maxRecDepth 20000 in
set_option maxHeartbeats 4000000 in
theorem c_BT_days (d : Nat) (v1 : Int) (M : Mm) (Q : Option Value → Mm → Prop) (h : sat injI (f_BT_days v1 M) Q) : Ct (d + 4) y_BT_days [.ref 0, vI v1] M Q := by
  refine ct_in (d := d + 3) mk_BT_days (Nat.le_of_ble_eq_true rfl) (?_ : T (E_BT_days d) injI 0 [(0, .ref 0), (1, vI v1)] [] M (f_BT_days v1 M)) h
  unfold f_BT_days
  refine tq_iload_n 1 (E := E_BT_days d) (pc := 0) (cks_at k_BT_days 0 rfl rfl) rfl ?_
  refine tq_iconst (E := E_BT_days d) (pc := 1) (cks_at k_BT_days 1 rfl rfl) ?_
  refine tq_icmp_lt (E := E_BT_days d) (pc := 2) (tgt := 29) (cks_at k_BT_days 2 rfl rfl) (by decide) ?_ ?_
  · refine tq_aload_n 0 (E := E_BT_days d) (pc := 29) (cks_at k_BT_days 15 rfl rfl) rfl ?_
    refine tq_iconst (E := E_BT_days d) (pc := 30) (cks_at k_BT_days 16 rfl rfl) ?_
    refine tq_V1 (E := E_BT_days d) (pc := 31) (cks_at k_BT_days 17 rfl rfl) mk_BT_refused lk_BT_105 rc_0 (Nat.le_of_ble_eq_true rfl) (c_BT_refused (d + 1) 2 M) (k_I fun r2 M1 => ?_)
    exact tq_iret (E := E_BT_days d) (pc := 34) (cks_at k_BT_days 18 rfl rfl) rfl
  · refine tq_iload_n 1 (E := E_BT_days d) (pc := 5) (cks_at k_BT_days 3 rfl rfl) rfl ?_
    refine tq_bipush (E := E_BT_days d) (pc := 6) (cks_at k_BT_days 4 rfl rfl) (by decide) (by decide) ?_
    refine tq_icmp_gt (E := E_BT_days d) (pc := 8) (tgt := 29) (cks_at k_BT_days 5 rfl rfl) (by decide) ?_ ?_
    · refine tq_aload_n 0 (E := E_BT_days d) (pc := 29) (cks_at k_BT_days 15 rfl rfl) rfl ?_
      refine tq_iconst (E := E_BT_days d) (pc := 30) (cks_at k_BT_days 16 rfl rfl) ?_
      refine tq_V1 (E := E_BT_days d) (pc := 31) (cks_at k_BT_days 17 rfl rfl) mk_BT_refused lk_BT_105 rc_0 (Nat.le_of_ble_eq_true rfl) (c_BT_refused (d + 1) 2 M) (k_I fun r4 M3 => ?_)
      exact tq_iret (E := E_BT_days d) (pc := 34) (cks_at k_BT_days 18 rfl rfl) rfl
    · refine tq_aload_n 0 (E := E_BT_days d) (pc := 11) (cks_at k_BT_days 6 rfl rfl) rfl ?_
      refine tq_getR (j := 39) (E := E_BT_days d) (pc := 12) (cks_at k_BT_days 7 rfl rfl) fo_BT_40 so_0 rfl sp_0_4 ?_
      refine tq_getI (E := E_BT_days d) (pc := 15) (cks_at k_BT_days 8 rfl rfl) fo_BT_134 so_39 rfl (by decide) ?_
      refine tq_iload_n 1 (E := E_BT_days d) (pc := 18) (cks_at k_BT_days 9 rfl rfl) rfl ?_
      refine tq_bipush (E := E_BT_days d) (pc := 19) (cks_at k_BT_days 10 rfl rfl) (by decide) (by decide) ?_
      refine tq_imul (E := E_BT_days d) (pc := 21) (cks_at k_BT_days 11 rfl rfl) ?_
      refine tq_iadd (E := E_BT_days d) (pc := 22) (cks_at k_BT_days 12 rfl rfl) ?_
      refine tq_sipush (E := E_BT_days d) (pc := 23) (cks_at k_BT_days 13 rfl rfl) (by decide) (by decide) ?_
      refine tq_icmp_le (E := E_BT_days d) (pc := 26) (tgt := 35) (cks_at k_BT_days 14 rfl rfl) (by decide) ?_ ?_
      · refine tq_aload_n 0 (E := E_BT_days d) (pc := 35) (cks_at k_BT_days 19 rfl rfl) rfl ?_
        refine tq_getR (j := 39) (E := E_BT_days d) (pc := 36) (cks_at k_BT_days 20 rfl rfl) fo_BT_40 so_0 rfl sp_0_4 ?_
        refine tq_V0 (E := E_BT_days d) (pc := 39) (cks_at k_BT_days 21 rfl rfl) mk_Now_keep lk_BT_251 rc_39 (Nat.le_of_ble_eq_true rfl) (c_Now_keep (d + 0) M) (k_V fun M5 => ?_)
        refine tq_iconst (E := E_BT_days d) (pc := 42) (cks_at k_BT_days 22 rfl rfl) ?_
        refine tq_istore_n (E := E_BT_days d) (pc := 43) (cks_at k_BT_days 23 rfl rfl) (show 2 < 3 by decide) rfl ?_
        exact tq_sub [1, 2, 0] rfl (w_BT_days_L44 d FU (v1, 0, M5))
      · refine tq_aload_n 0 (E := E_BT_days d) (pc := 29) (cks_at k_BT_days 15 rfl rfl) rfl ?_
        refine tq_iconst (E := E_BT_days d) (pc := 30) (cks_at k_BT_days 16 rfl rfl) ?_
        refine tq_V1 (E := E_BT_days d) (pc := 31) (cks_at k_BT_days 17 rfl rfl) mk_BT_refused lk_BT_105 rc_0 (Nat.le_of_ble_eq_true rfl) (c_BT_refused (d + 1) 2 M) (k_I fun r8 M7 => ?_)
        exact tq_iret (E := E_BT_days d) (pc := 34) (cks_at k_BT_days 18 rfl rfl) rfl
abbrev E_M_hold (d : Nat) : Ev := (Ct (d + 2), "BreathTownModel", prog_14_method_106_code, 3, False, 0, (fun _ => 0), (Option.some Jvm.ClassFile.FieldType.int))
def f_M_hold_J20 (M : Mm) : Option (Int × Mm) :=
  bd (up M 80 2 ((M 80 2) + 1)) (fun M3 =>
  some ((-1), M3))
set_option maxRecDepth 20000 in
set_option maxHeartbeats 4000000 in
theorem w_M_hold_J20 (d : Nat) (M : Mm) : T (E_M_hold d) injI 20 [(0, .ref 78)] [] M (f_M_hold_J20 M) := by
  unfold f_M_hold_J20
  refine tq_aload_n 0 (E := E_M_hold d) (pc := 20) (cks_at k_M_hold 10 rfl rfl) rfl ?_
  refine tq_getR (j := 80) (E := E_M_hold d) (pc := 21) (cks_at k_M_hold 11 rfl rfl) fo_M_17 so_78 rfl sp_78_9 ?_
  refine tq_iconst (E := E_M_hold d) (pc := 24) (cks_at k_M_hold 12 rfl rfl) ?_
  refine tq_dup2 (E := E_M_hold d) (pc := 25) (cks_at k_M_hold 13 rfl rfl) rfl rfl ?_
  refine tq_ialdC 2 (E := E_M_hold d) (pc := 26) (cks_at k_M_hold 14 rfl rfl) sa_80 sn_80 (by decide) ?_
  refine tq_iconst (E := E_M_hold d) (pc := 27) (cks_at k_M_hold 15 rfl rfl) ?_
  refine tq_iadd (E := E_M_hold d) (pc := 28) (cks_at k_M_hold 16 rfl rfl) ?_
  refine tq_iastC (E := E_M_hold d) (pc := 29) 2 (cks_at k_M_hold 17 rfl rfl) sa_80 sn_80 (by decide) (fun M3 => ?_)
  refine tq_iconst (E := E_M_hold d) (pc := 30) (cks_at k_M_hold 18 rfl rfl) ?_
  exact tq_iret (E := E_M_hold d) (pc := 31) (cks_at k_M_hold 19 rfl rfl) rfl
def f_M_hold (v1 : Int) (v2 : Int) (M : Mm) : Option (Int × Mm) :=
  bI (f_M_isStreet v1 M) (fun r2 M1 =>
  if i32 r2 = 0 then
    f_M_hold_J20 M1
  else
    bI (f_M_isIn (i32 v2) 1 99 M1) (fun r5 M4 =>
    if ¬ i32 r5 = 0 then
      bV (f_M_keeps M4) (fun M6 =>
      bV (f_M_shifts0 v1 (-v2) M6) (fun M7 =>
      bI (f_M_shiftOf v1 M7) (fun r9 M8 =>
      some (r9, M8))))
    else
      f_M_hold_J20 M4))
set_option maxRecDepth 20000 in
set_option maxHeartbeats 4000000 in
theorem c_M_hold (d : Nat) (v1 : Int) (v2 : Int) (M : Mm) (Q : Option Value → Mm → Prop) (h : sat injI (f_M_hold v1 v2 M) Q) : Ct (d + 3) y_M_hold [.ref 78, vI v1, vI v2] M Q := by
  refine ct_in (d := d + 2) mk_M_hold (Nat.le_of_ble_eq_true rfl) (?_ : T (E_M_hold d) injI 0 [(0, .ref 78), (1, vI v1), (2, vI v2)] [] M (f_M_hold v1 v2 M)) h
  unfold f_M_hold
  refine tq_aload_n 0 (E := E_M_hold d) (pc := 0) (cks_at k_M_hold 0 rfl rfl) rfl ?_
  refine tq_iload_n 1 (E := E_M_hold d) (pc := 1) (cks_at k_M_hold 1 rfl rfl) rfl ?_
  refine tq_V1 (E := E_M_hold d) (pc := 2) (cks_at k_M_hold 2 rfl rfl) mk_M_isStreet lk_M_509 rc_78 (Nat.le_of_ble_eq_true rfl) (c_M_isStreet (d + 0) v1 M) (k_I fun r2 M1 => ?_)
  refine tq_if_eq (E := E_M_hold d) (pc := 5) (tgt := 20) (cks_at k_M_hold 3 rfl rfl) (by decide) ?_ ?_
  · exact tq_sub [0] rfl (w_M_hold_J20 d M1)
  · refine tq_iload_n 2 (E := E_M_hold d) (pc := 8) (cks_at k_M_hold 4 rfl rfl) rfl ?_
    refine tq_i2l (E := E_M_hold d) (pc := 9) (cks_at k_M_hold 5 rfl rfl) ?_
    refine tq_lconst1 (E := E_M_hold d) (pc := 10) (cks_at k_M_hold 6 rfl rfl) ?_
    refine tq_ldc2 (z := 99) (E := E_M_hold d) (pc := 11) (cks_at k_M_hold 7 rfl rfl) cst_M_429 ?_
    refine tq_S3 (E := E_M_hold d) (pc := 14) (cks_at k_M_hold 8 rfl rfl) mk_M_isIn lk_M_265 (Nat.le_of_ble_eq_true rfl) (c_M_isIn (d + 1) (i32 v2) 1 99 M1) (k_I fun r5 M4 => ?_)
    refine tq_if_ne (E := E_M_hold d) (pc := 17) (tgt := 32) (cks_at k_M_hold 9 rfl rfl) (by decide) ?_ ?_
    · refine tq_aload_n 0 (E := E_M_hold d) (pc := 32) (cks_at k_M_hold 20 rfl rfl) rfl ?_
      refine tq_V0 (E := E_M_hold d) (pc := 33) (cks_at k_M_hold 21 rfl rfl) mk_M_keeps lk_M_586 rc_78 (Nat.le_of_ble_eq_true rfl) (c_M_keeps (d + 1) M4) (k_V fun M6 => ?_)
      refine tq_aload_n 0 (E := E_M_hold d) (pc := 36) (cks_at k_M_hold 22 rfl rfl) rfl ?_
      refine tq_iload_n 1 (E := E_M_hold d) (pc := 37) (cks_at k_M_hold 23 rfl rfl) rfl ?_
      refine tq_iload_n 2 (E := E_M_hold d) (pc := 38) (cks_at k_M_hold 24 rfl rfl) rfl ?_
      refine tq_ineg (E := E_M_hold d) (pc := 39) (cks_at k_M_hold 25 rfl rfl) ?_
      refine tq_V2 (E := E_M_hold d) (pc := 40) (cks_at k_M_hold 26 rfl rfl) mk_M_shifts0 lk_M_589 rc_78 (Nat.le_of_ble_eq_true rfl) (c_M_shifts0 (d + 0) v1 (-v2) M6) (k_V fun M7 => ?_)
      refine tq_aload_n 0 (E := E_M_hold d) (pc := 43) (cks_at k_M_hold 27 rfl rfl) rfl ?_
      refine tq_iload_n 1 (E := E_M_hold d) (pc := 44) (cks_at k_M_hold 28 rfl rfl) rfl ?_
      refine tq_V1 (E := E_M_hold d) (pc := 45) (cks_at k_M_hold 29 rfl rfl) mk_M_shiftOf lk_M_431 rc_78 (Nat.le_of_ble_eq_true rfl) (c_M_shiftOf (d + 1) v1 M7) (k_I fun r9 M8 => ?_)
      exact tq_iret (E := E_M_hold d) (pc := 48) (cks_at k_M_hold 30 rfl rfl) rfl
    · exact tq_sub [0] rfl (w_M_hold_J20 d M4)
abbrev E_BT_hold (d : Nat) : Ev := (Ct (d + 3), "BreathTown", prog_1_method_24_code, 3, False, 0, (fun _ => 0), (Option.some Jvm.ClassFile.FieldType.int))
def f_BT_hold (v1 : Int) (v2 : Int) (M : Mm) : Option (Int × Mm) :=
  bI (f_Told_hasA 3 1 v1 M) (fun r2 M1 =>
  if i32 r2 = 0 then
    bI (f_BT_refused 2 M1) (fun r4 M3 =>
    some (r4, M3))
  else
    if i32 v2 < i32 1 then
      bI (f_BT_refused 2 M1) (fun r6 M5 =>
      some (r6, M5))
    else
      if i32 v2 ≤ i32 99 then
        bV (f_Now_keep M1) (fun M7 =>
        bV (f_Now_turn v1 (-v2) M7) (fun M8 =>
        bI (f_BT_cell 40 v1 M8) (fun r10 M9 =>
        some (r10, M9))))
      else
        bI (f_BT_refused 2 M1) (fun r12 M11 =>
        some (r12, M11)))
set_option maxRecDepth 20000 in
set_option maxHeartbeats 4000000 in
theorem c_BT_hold (d : Nat) (v1 : Int) (v2 : Int) (M : Mm) (Q : Option Value → Mm → Prop) (h : sat injI (f_BT_hold v1 v2 M) Q) : Ct (d + 4) y_BT_hold [.ref 0, vI v1, vI v2] M Q := by
  refine ct_in (d := d + 3) mk_BT_hold (Nat.le_of_ble_eq_true rfl) (?_ : T (E_BT_hold d) injI 0 [(0, .ref 0), (1, vI v1), (2, vI v2)] [] M (f_BT_hold v1 v2 M)) h
  unfold f_BT_hold
  refine tq_aload_n 0 (E := E_BT_hold d) (pc := 0) (cks_at k_BT_hold 0 rfl rfl) rfl ?_
  refine tq_getR (j := 3) (E := E_BT_hold d) (pc := 1) (cks_at k_BT_hold 1 rfl rfl) fo_BT_19 so_0 rfl sp_0_1 ?_
  refine tq_iconst (E := E_BT_hold d) (pc := 4) (cks_at k_BT_hold 2 rfl rfl) ?_
  refine tq_iload_n 1 (E := E_BT_hold d) (pc := 5) (cks_at k_BT_hold 3 rfl rfl) rfl ?_
  refine tq_V2 (E := E_BT_hold d) (pc := 6) (cks_at k_BT_hold 4 rfl rfl) mk_Told_hasA lk_BT_143 (isTold_rc (Or.inl rfl)) (Nat.le_of_ble_eq_true rfl) (c_Told_hasA (d + 0) 3 (Or.inl rfl) 1 v1 M) (k_I fun r2 M1 => ?_)
  refine tq_if_eq (E := E_BT_hold d) (pc := 9) (tgt := 23) (cks_at k_BT_hold 5 rfl rfl) (by decide) ?_ ?_
  · refine tq_aload_n 0 (E := E_BT_hold d) (pc := 23) (cks_at k_BT_hold 12 rfl rfl) rfl ?_
    refine tq_iconst (E := E_BT_hold d) (pc := 24) (cks_at k_BT_hold 13 rfl rfl) ?_
    refine tq_V1 (E := E_BT_hold d) (pc := 25) (cks_at k_BT_hold 14 rfl rfl) mk_BT_refused lk_BT_105 rc_0 (Nat.le_of_ble_eq_true rfl) (c_BT_refused (d + 1) 2 M1) (k_I fun r4 M3 => ?_)
    exact tq_iret (E := E_BT_hold d) (pc := 28) (cks_at k_BT_hold 15 rfl rfl) rfl
  · refine tq_iload_n 2 (E := E_BT_hold d) (pc := 12) (cks_at k_BT_hold 6 rfl rfl) rfl ?_
    refine tq_iconst (E := E_BT_hold d) (pc := 13) (cks_at k_BT_hold 7 rfl rfl) ?_
    refine tq_icmp_lt (E := E_BT_hold d) (pc := 14) (tgt := 23) (cks_at k_BT_hold 8 rfl rfl) (by decide) ?_ ?_
    · refine tq_aload_n 0 (E := E_BT_hold d) (pc := 23) (cks_at k_BT_hold 12 rfl rfl) rfl ?_
      refine tq_iconst (E := E_BT_hold d) (pc := 24) (cks_at k_BT_hold 13 rfl rfl) ?_
      refine tq_V1 (E := E_BT_hold d) (pc := 25) (cks_at k_BT_hold 14 rfl rfl) mk_BT_refused lk_BT_105 rc_0 (Nat.le_of_ble_eq_true rfl) (c_BT_refused (d + 1) 2 M1) (k_I fun r6 M5 => ?_)
      exact tq_iret (E := E_BT_hold d) (pc := 28) (cks_at k_BT_hold 15 rfl rfl) rfl
    · refine tq_iload_n 2 (E := E_BT_hold d) (pc := 17) (cks_at k_BT_hold 9 rfl rfl) rfl ?_
      refine tq_bipush (E := E_BT_hold d) (pc := 18) (cks_at k_BT_hold 10 rfl rfl) (by decide) (by decide) ?_
      refine tq_icmp_le (E := E_BT_hold d) (pc := 20) (tgt := 29) (cks_at k_BT_hold 11 rfl rfl) (by decide) ?_ ?_
      · refine tq_aload_n 0 (E := E_BT_hold d) (pc := 29) (cks_at k_BT_hold 16 rfl rfl) rfl ?_
        refine tq_getR (j := 39) (E := E_BT_hold d) (pc := 30) (cks_at k_BT_hold 17 rfl rfl) fo_BT_40 so_0 rfl sp_0_4 ?_
        refine tq_V0 (E := E_BT_hold d) (pc := 33) (cks_at k_BT_hold 18 rfl rfl) mk_Now_keep lk_BT_251 rc_39 (Nat.le_of_ble_eq_true rfl) (c_Now_keep (d + 0) M1) (k_V fun M7 => ?_)
        refine tq_aload_n 0 (E := E_BT_hold d) (pc := 36) (cks_at k_BT_hold 19 rfl rfl) rfl ?_
        refine tq_getR (j := 39) (E := E_BT_hold d) (pc := 37) (cks_at k_BT_hold 20 rfl rfl) fo_BT_40 so_0 rfl sp_0_4 ?_
        refine tq_iload_n 1 (E := E_BT_hold d) (pc := 40) (cks_at k_BT_hold 21 rfl rfl) rfl ?_
        refine tq_iload_n 2 (E := E_BT_hold d) (pc := 41) (cks_at k_BT_hold 22 rfl rfl) rfl ?_
        refine tq_ineg (E := E_BT_hold d) (pc := 42) (cks_at k_BT_hold 23 rfl rfl) ?_
        refine tq_V2 (E := E_BT_hold d) (pc := 43) (cks_at k_BT_hold 24 rfl rfl) mk_Now_turn lk_BT_257 rc_39 (Nat.le_of_ble_eq_true rfl) (c_Now_turn (d + 1) v1 (-v2) M7) (k_V fun M8 => ?_)
        refine tq_aload_n 0 (E := E_BT_hold d) (pc := 46) (cks_at k_BT_hold 25 rfl rfl) rfl ?_
        refine tq_getR (j := 39) (E := E_BT_hold d) (pc := 47) (cks_at k_BT_hold 26 rfl rfl) fo_BT_40 so_0 rfl sp_0_4 ?_
        refine tq_getR (j := 40) (E := E_BT_hold d) (pc := 50) (cks_at k_BT_hold 27 rfl rfl) fo_BT_166 so_39 rfl sp_39_1 ?_
        refine tq_iload_n 1 (E := E_BT_hold d) (pc := 53) (cks_at k_BT_hold 28 rfl rfl) rfl ?_
        refine tq_S2 (E := E_BT_hold d) (pc := 54) (cks_at k_BT_hold 29 rfl rfl) mk_BT_cell lk_BT_150 (Nat.le_of_ble_eq_true rfl) (c_BT_cell (d + 2) 40 sa_40 v1 M8) (k_I fun r10 M9 => ?_)
        exact tq_iret (E := E_BT_hold d) (pc := 57) (cks_at k_BT_hold 30 rfl rfl) rfl
      · refine tq_aload_n 0 (E := E_BT_hold d) (pc := 23) (cks_at k_BT_hold 12 rfl rfl) rfl ?_
        refine tq_iconst (E := E_BT_hold d) (pc := 24) (cks_at k_BT_hold 13 rfl rfl) ?_
        refine tq_V1 (E := E_BT_hold d) (pc := 25) (cks_at k_BT_hold 14 rfl rfl) mk_BT_refused lk_BT_105 rc_0 (Nat.le_of_ble_eq_true rfl) (c_BT_refused (d + 1) 2 M1) (k_I fun r12 M11 => ?_)
        exact tq_iret (E := E_BT_hold d) (pc := 28) (cks_at k_BT_hold 15 rfl rfl) rfl
abbrev E_M_isWalker (d : Nat) : Ev := (Ct (d + 1), "BreathTownModel", prog_14_method_48_code, 2, False, 0, (fun _ => 0), (Option.some Jvm.ClassFile.FieldType.boolean))
def f_M_isWalker (v1 : Int) (M : Mm) : Option (Int × Mm) :=
  bI (f_M_walkerMany M) (fun r2 M1 =>
  bI (f_M_isIn (i32 v1) 0 (i32 (r2 - 1)) M1) (fun r4 M3 =>
  gd (i32 r4 = 0 ∨ i32 r4 = 1) (some (r4, M3))))
set_option maxRecDepth 20000 in
set_option maxHeartbeats 4000000 in
theorem c_M_isWalker (d : Nat) (v1 : Int) (M : Mm) (Q : Option Value → Mm → Prop) (h : sat injI (f_M_isWalker v1 M) Q) : Ct (d + 2) y_M_isWalker [.ref 78, vI v1] M Q := by
  refine ct_in (d := d + 1) mk_M_isWalker (Nat.le_of_ble_eq_true rfl) (?_ : T (E_M_isWalker d) injI 0 [(0, .ref 78), (1, vI v1)] [] M (f_M_isWalker v1 M)) h
  unfold f_M_isWalker
  refine tq_iload_n 1 (E := E_M_isWalker d) (pc := 0) (cks_at k_M_isWalker 0 rfl rfl) rfl ?_
  refine tq_i2l (E := E_M_isWalker d) (pc := 1) (cks_at k_M_isWalker 1 rfl rfl) ?_
  refine tq_lconst0 (E := E_M_isWalker d) (pc := 2) (cks_at k_M_isWalker 2 rfl rfl) ?_
  refine tq_aload_n 0 (E := E_M_isWalker d) (pc := 3) (cks_at k_M_isWalker 3 rfl rfl) rfl ?_
  refine tq_V0 (E := E_M_isWalker d) (pc := 4) (cks_at k_M_isWalker 4 rfl rfl) mk_M_walkerMany lk_M_415 rc_78 (Nat.le_of_ble_eq_true rfl) (c_M_walkerMany (d + 0) M) (k_I fun r2 M1 => ?_)
  refine tq_iconst (E := E_M_isWalker d) (pc := 7) (cks_at k_M_isWalker 5 rfl rfl) ?_
  refine tq_isub (E := E_M_isWalker d) (pc := 8) (cks_at k_M_isWalker 6 rfl rfl) ?_
  refine tq_i2l (E := E_M_isWalker d) (pc := 9) (cks_at k_M_isWalker 7 rfl rfl) ?_
  refine tq_S3 (E := E_M_isWalker d) (pc := 10) (cks_at k_M_isWalker 8 rfl rfl) mk_M_isIn lk_M_265 (Nat.le_of_ble_eq_true rfl) (c_M_isIn (d + 0) (i32 v1) 0 (i32 (r2 - 1)) M1) (k_I fun r4 M3 => ?_)
  exact tq_zret (E := E_M_isWalker d) (pc := 13) (cks_at k_M_isWalker 9 rfl rfl) rfl
abbrev E_M_setsOut (d : Nat) : Ev := (Ct (d + 0), "BreathTownModel", prog_14_method_56_code, 3, False, 0, (fun _ => 0), (Option.some Jvm.ClassFile.FieldType.int))
def f_M_setsOut (v1 : Int) (M : Mm) : Option (Int × Mm) :=
  gd (0 ≤ i32 ((13 + (3 * v1)) + 2) ∧ i32 ((13 + (3 * v1)) + 2) < ((31 : Nat) : Int)) <|
  if i32 (M 108 (i32 ((13 + (3 * v1)) + 2)).toNat) ≤ i32 (M 108 0) then
    some (M 108 0, M)
  else
    some (M 108 (i32 ((13 + (3 * v1)) + 2)).toNat, M)
set_option maxRecDepth 20000 in
set_option maxHeartbeats 4000000 in
theorem c_M_setsOut (d : Nat) (v1 : Int) (M : Mm) (Q : Option Value → Mm → Prop) (h : sat injI (f_M_setsOut v1 M) Q) : Ct (d + 1) y_M_setsOut [.ref 78, vI v1] M Q := by
  refine ct_in (d := d + 0) mk_M_setsOut (Nat.le_of_ble_eq_true rfl) (?_ : T (E_M_setsOut d) injI 0 [(0, .ref 78), (1, vI v1)] [] M (f_M_setsOut v1 M)) h
  unfold f_M_setsOut
  refine tq_aload_n 0 (E := E_M_setsOut d) (pc := 0) (cks_at k_M_setsOut 0 rfl rfl) rfl ?_
  refine tq_getR (j := 108) (E := E_M_setsOut d) (pc := 1) (cks_at k_M_setsOut 1 rfl rfl) fo_M_103 so_78 rfl sp_78_45 ?_
  refine tq_bipush (E := E_M_setsOut d) (pc := 4) (cks_at k_M_setsOut 2 rfl rfl) (by decide) (by decide) ?_
  refine tq_iconst (E := E_M_setsOut d) (pc := 6) (cks_at k_M_setsOut 3 rfl rfl) ?_
  refine tq_iload_n 1 (E := E_M_setsOut d) (pc := 7) (cks_at k_M_setsOut 4 rfl rfl) rfl ?_
  refine tq_imul (E := E_M_setsOut d) (pc := 8) (cks_at k_M_setsOut 5 rfl rfl) ?_
  refine tq_iadd (E := E_M_setsOut d) (pc := 9) (cks_at k_M_setsOut 6 rfl rfl) ?_
  refine tq_iconst (E := E_M_setsOut d) (pc := 10) (cks_at k_M_setsOut 7 rfl rfl) ?_
  refine tq_iadd (E := E_M_setsOut d) (pc := 11) (cks_at k_M_setsOut 8 rfl rfl) ?_
  refine tq_iald (E := E_M_setsOut d) (pc := 12) (cks_at k_M_setsOut 9 rfl rfl) sa_108 sn_108 ?_
  refine tq_istore_n (E := E_M_setsOut d) (pc := 13) (cks_at k_M_setsOut 10 rfl rfl) (show 2 < 3 by decide) rfl ?_
  refine tq_iload_n 0 (E := E_M_setsOut d) (pc := 14) (cks_at k_M_setsOut 11 rfl rfl) rfl ?_
  refine tq_aload_n 1 (E := E_M_setsOut d) (pc := 15) (cks_at k_M_setsOut 12 rfl rfl) rfl ?_
  refine tq_getR (j := 108) (E := E_M_setsOut d) (pc := 16) (cks_at k_M_setsOut 13 rfl rfl) fo_M_103 so_78 rfl sp_78_45 ?_
  refine tq_iconst (E := E_M_setsOut d) (pc := 19) (cks_at k_M_setsOut 14 rfl rfl) ?_
  refine tq_ialdC 0 (E := E_M_setsOut d) (pc := 20) (cks_at k_M_setsOut 15 rfl rfl) sa_108 sn_108 (by decide) ?_
  refine tq_icmp_le (E := E_M_setsOut d) (pc := 21) (tgt := 28) (cks_at k_M_setsOut 16 rfl rfl) (by decide) ?_ ?_
  · refine tq_aload_n 1 (E := E_M_setsOut d) (pc := 28) (cks_at k_M_setsOut 19 rfl rfl) rfl ?_
    refine tq_getR (j := 108) (E := E_M_setsOut d) (pc := 29) (cks_at k_M_setsOut 20 rfl rfl) fo_M_103 so_78 rfl sp_78_45 ?_
    refine tq_iconst (E := E_M_setsOut d) (pc := 32) (cks_at k_M_setsOut 21 rfl rfl) ?_
    refine tq_ialdC 0 (E := E_M_setsOut d) (pc := 33) (cks_at k_M_setsOut 22 rfl rfl) sa_108 sn_108 (by decide) ?_
    exact tq_iret (E := E_M_setsOut d) (pc := 34) (cks_at k_M_setsOut 23 rfl rfl) rfl
  · refine tq_iload_n 0 (E := E_M_setsOut d) (pc := 24) (cks_at k_M_setsOut 17 rfl rfl) rfl ?_
    refine tq_goto (tgt := 34) (E := E_M_setsOut d) (pc := 25) (cks_at k_M_setsOut 18 rfl rfl) (by decide) ?_
    exact tq_iret (E := E_M_setsOut d) (pc := 34) (cks_at k_M_setsOut 23 rfl rfl) rfl
abbrev E_M_endOf (d : Nat) : Ev := (Ct (d + 0), "BreathTownModel", prog_14_method_49_code, 3, False, 0, (fun _ => 0), (Option.some Jvm.ClassFile.FieldType.int))
def f_M_endOf (v1 : Int) (v2 : Int) (M : Mm) : Option (Int × Mm) :=
  gd (0 ≤ i32 ((60 + (5 * v1)) + v2) ∧ i32 ((60 + (5 * v1)) + v2) < ((120 : Nat) : Int)) <|
  some (M 100 (i32 ((60 + (5 * v1)) + v2)).toNat, M)
set_option maxRecDepth 20000 in
set_option maxHeartbeats 4000000 in
theorem c_M_endOf (d : Nat) (v1 : Int) (v2 : Int) (M : Mm) (Q : Option Value → Mm → Prop) (h : sat injI (f_M_endOf v1 v2 M) Q) : Ct (d + 1) y_M_endOf [.ref 78, vI v1, vI v2] M Q := by
  refine ct_in (d := d + 0) mk_M_endOf (Nat.le_of_ble_eq_true rfl) (?_ : T (E_M_endOf d) injI 0 [(0, .ref 78), (1, vI v1), (2, vI v2)] [] M (f_M_endOf v1 v2 M)) h
  unfold f_M_endOf
  refine tq_aload_n 0 (E := E_M_endOf d) (pc := 0) (cks_at k_M_endOf 0 rfl rfl) rfl ?_
  refine tq_getR (j := 100) (E := E_M_endOf d) (pc := 1) (cks_at k_M_endOf 1 rfl rfl) fo_M_79 so_78 rfl sp_78_30 ?_
  refine tq_bipush (E := E_M_endOf d) (pc := 4) (cks_at k_M_endOf 2 rfl rfl) (by decide) (by decide) ?_
  refine tq_iconst (E := E_M_endOf d) (pc := 6) (cks_at k_M_endOf 3 rfl rfl) ?_
  refine tq_iload_n 1 (E := E_M_endOf d) (pc := 7) (cks_at k_M_endOf 4 rfl rfl) rfl ?_
  refine tq_imul (E := E_M_endOf d) (pc := 8) (cks_at k_M_endOf 5 rfl rfl) ?_
  refine tq_iadd (E := E_M_endOf d) (pc := 9) (cks_at k_M_endOf 6 rfl rfl) ?_
  refine tq_iload_n 2 (E := E_M_endOf d) (pc := 10) (cks_at k_M_endOf 7 rfl rfl) rfl ?_
  refine tq_iadd (E := E_M_endOf d) (pc := 11) (cks_at k_M_endOf 8 rfl rfl) ?_
  refine tq_iald (E := E_M_endOf d) (pc := 12) (cks_at k_M_endOf 9 rfl rfl) sa_100 sn_100 ?_
  exact tq_iret (E := E_M_endOf d) (pc := 13) (cks_at k_M_endOf 10 rfl rfl) rfl
abbrev E_M_crowdIn (d : Nat) : Ev := (Ct (d + 1), "BreathTownModel", prog_14_method_62_code, 5, False, 0, (fun _ => 0), (Option.some Jvm.ClassFile.FieldType.int))
def f_M_crowdIn_B5 (kH : Int → Int → Int → Int → Mm → Option (Int × Mm)) (v1 v2 v3 v4 : Int) (M : Mm) : Option (Int × Mm) :=
  if i32 (M 78 47) ≤ i32 v4 then
    some (v3, M)
  else
    gd (0 ≤ i32 (3 * v4) ∧ i32 (3 * v4) < ((200 : Nat) : Int)) <|
    if ¬ i32 (M 109 (i32 (3 * v4)).toNat) = i32 v1 then
      kH v1 v2 v3 (v4 + 1) M
    else
      gd (0 ≤ i32 ((3 * v4) + 1) ∧ i32 ((3 * v4) + 1) < ((200 : Nat) : Int)) <|
      if i32 v2 < i32 (M 109 (i32 ((3 * v4) + 1)).toNat) then
        kH v1 v2 v3 (v4 + 1) M
      else
        gd (0 ≤ i32 ((3 * v4) + 1) ∧ i32 ((3 * v4) + 1) < ((200 : Nat) : Int)) <|
        bI (f_M_takesOf v1 M) (fun r2 M1 =>
        if i32 ((M 109 (i32 ((3 * v4) + 1)).toNat) + r2) ≤ i32 v2 then
          kH v1 v2 v3 (v4 + 1) M1
        else
          gd (0 ≤ i32 ((3 * v4) + 2) ∧ i32 ((3 * v4) + 2) < ((200 : Nat) : Int)) <|
          kH v1 v2 (v3 + (M1 109 (i32 ((3 * v4) + 2)).toNat)) (v4 + 1) M1)
set_option maxRecDepth 20000 in
set_option maxHeartbeats 4000000 in
theorem w_M_crowdIn_B5 (d : Nat) (kH : Int → Int → Int → Int → Mm → Option (Int × Mm)) (hkH : ∀ (v1 v2 v3 v4 : Int) (M : Mm), T (E_M_crowdIn d) injI 5 [(0, .ref 78), (1, vI v1), (2, vI v2), (3, vI v3), (4, vI v4)] [] M (kH v1 v2 v3 v4 M)) (v1 v2 v3 v4 : Int) (M : Mm) : T (E_M_crowdIn d) injI 5 [(0, .ref 78), (1, vI v1), (2, vI v2), (3, vI v3), (4, vI v4)] [] M (f_M_crowdIn_B5 kH v1 v2 v3 v4 M) := by
  unfold f_M_crowdIn_B5
  refine tq_iload 4 (E := E_M_crowdIn d) (pc := 5) (cks_at k_M_crowdIn 4 rfl rfl) rfl ?_
  refine tq_aload_n 0 (E := E_M_crowdIn d) (pc := 7) (cks_at k_M_crowdIn 5 rfl rfl) rfl ?_
  refine tq_getI (E := E_M_crowdIn d) (pc := 8) (cks_at k_M_crowdIn 6 rfl rfl) fo_M_447 so_78 rfl (by decide) ?_
  refine tq_icmp_ge (E := E_M_crowdIn d) (pc := 11) (tgt := 83) (cks_at k_M_crowdIn 7 rfl rfl) (by decide) ?_ ?_
  · refine tq_iload_n 3 (E := E_M_crowdIn d) (pc := 83) (cks_at k_M_crowdIn 53 rfl rfl) rfl ?_
    exact tq_iret (E := E_M_crowdIn d) (pc := 84) (cks_at k_M_crowdIn 54 rfl rfl) rfl
  · refine tq_aload_n 0 (E := E_M_crowdIn d) (pc := 14) (cks_at k_M_crowdIn 8 rfl rfl) rfl ?_
    refine tq_getR (j := 109) (E := E_M_crowdIn d) (pc := 15) (cks_at k_M_crowdIn 9 rfl rfl) fo_M_106 so_78 rfl sp_78_46 ?_
    refine tq_iconst (E := E_M_crowdIn d) (pc := 18) (cks_at k_M_crowdIn 10 rfl rfl) ?_
    refine tq_iload 4 (E := E_M_crowdIn d) (pc := 19) (cks_at k_M_crowdIn 11 rfl rfl) rfl ?_
    refine tq_imul (E := E_M_crowdIn d) (pc := 21) (cks_at k_M_crowdIn 12 rfl rfl) ?_
    refine tq_iald (E := E_M_crowdIn d) (pc := 22) (cks_at k_M_crowdIn 13 rfl rfl) sa_109 sn_109 ?_
    refine tq_iload_n 1 (E := E_M_crowdIn d) (pc := 23) (cks_at k_M_crowdIn 14 rfl rfl) rfl ?_
    refine tq_icmp_ne (E := E_M_crowdIn d) (pc := 24) (tgt := 77) (cks_at k_M_crowdIn 15 rfl rfl) (by decide) ?_ ?_
    · refine tq_iinc 4 (E := E_M_crowdIn d) (pc := 77) (cks_at k_M_crowdIn 51 rfl rfl) rfl (show 4 < 5 by decide) rfl ?_
      refine tq_goto (tgt := 5) (E := E_M_crowdIn d) (pc := 80) (cks_at k_M_crowdIn 52 rfl rfl) (by decide) ?_
      exact tq_sub [1, 2, 3, 4, 0] rfl (hkH v1 v2 v3 (v4 + 1) M)
    · refine tq_iload_n 2 (E := E_M_crowdIn d) (pc := 27) (cks_at k_M_crowdIn 16 rfl rfl) rfl ?_
      refine tq_aload_n 0 (E := E_M_crowdIn d) (pc := 28) (cks_at k_M_crowdIn 17 rfl rfl) rfl ?_
      refine tq_getR (j := 109) (E := E_M_crowdIn d) (pc := 29) (cks_at k_M_crowdIn 18 rfl rfl) fo_M_106 so_78 rfl sp_78_46 ?_
      refine tq_iconst (E := E_M_crowdIn d) (pc := 32) (cks_at k_M_crowdIn 19 rfl rfl) ?_
      refine tq_iload 4 (E := E_M_crowdIn d) (pc := 33) (cks_at k_M_crowdIn 20 rfl rfl) rfl ?_
      refine tq_imul (E := E_M_crowdIn d) (pc := 35) (cks_at k_M_crowdIn 21 rfl rfl) ?_
      refine tq_iconst (E := E_M_crowdIn d) (pc := 36) (cks_at k_M_crowdIn 22 rfl rfl) ?_
      refine tq_iadd (E := E_M_crowdIn d) (pc := 37) (cks_at k_M_crowdIn 23 rfl rfl) ?_
      refine tq_iald (E := E_M_crowdIn d) (pc := 38) (cks_at k_M_crowdIn 24 rfl rfl) sa_109 sn_109 ?_
      refine tq_icmp_lt (E := E_M_crowdIn d) (pc := 39) (tgt := 77) (cks_at k_M_crowdIn 25 rfl rfl) (by decide) ?_ ?_
      · refine tq_iinc 4 (E := E_M_crowdIn d) (pc := 77) (cks_at k_M_crowdIn 51 rfl rfl) rfl (show 4 < 5 by decide) rfl ?_
        refine tq_goto (tgt := 5) (E := E_M_crowdIn d) (pc := 80) (cks_at k_M_crowdIn 52 rfl rfl) (by decide) ?_
        exact tq_sub [1, 2, 3, 4, 0] rfl (hkH v1 v2 v3 (v4 + 1) M)
      · refine tq_iload_n 2 (E := E_M_crowdIn d) (pc := 42) (cks_at k_M_crowdIn 26 rfl rfl) rfl ?_
        refine tq_aload_n 0 (E := E_M_crowdIn d) (pc := 43) (cks_at k_M_crowdIn 27 rfl rfl) rfl ?_
        refine tq_getR (j := 109) (E := E_M_crowdIn d) (pc := 44) (cks_at k_M_crowdIn 28 rfl rfl) fo_M_106 so_78 rfl sp_78_46 ?_
        refine tq_iconst (E := E_M_crowdIn d) (pc := 47) (cks_at k_M_crowdIn 29 rfl rfl) ?_
        refine tq_iload 4 (E := E_M_crowdIn d) (pc := 48) (cks_at k_M_crowdIn 30 rfl rfl) rfl ?_
        refine tq_imul (E := E_M_crowdIn d) (pc := 50) (cks_at k_M_crowdIn 31 rfl rfl) ?_
        refine tq_iconst (E := E_M_crowdIn d) (pc := 51) (cks_at k_M_crowdIn 32 rfl rfl) ?_
        refine tq_iadd (E := E_M_crowdIn d) (pc := 52) (cks_at k_M_crowdIn 33 rfl rfl) ?_
        refine tq_iald (E := E_M_crowdIn d) (pc := 53) (cks_at k_M_crowdIn 34 rfl rfl) sa_109 sn_109 ?_
        refine tq_aload_n 0 (E := E_M_crowdIn d) (pc := 54) (cks_at k_M_crowdIn 35 rfl rfl) rfl ?_
        refine tq_iload_n 1 (E := E_M_crowdIn d) (pc := 55) (cks_at k_M_crowdIn 36 rfl rfl) rfl ?_
        refine tq_V1 (E := E_M_crowdIn d) (pc := 56) (cks_at k_M_crowdIn 37 rfl rfl) mk_M_takesOf lk_M_440 rc_78 (Nat.le_of_ble_eq_true rfl) (c_M_takesOf (d + 0) v1 M) (k_I fun r2 M1 => ?_)
        refine tq_iadd (E := E_M_crowdIn d) (pc := 59) (cks_at k_M_crowdIn 38 rfl rfl) ?_
        refine tq_icmp_ge (E := E_M_crowdIn d) (pc := 60) (tgt := 77) (cks_at k_M_crowdIn 39 rfl rfl) (by decide) ?_ ?_
        · refine tq_iinc 4 (E := E_M_crowdIn d) (pc := 77) (cks_at k_M_crowdIn 51 rfl rfl) rfl (show 4 < 5 by decide) rfl ?_
          refine tq_goto (tgt := 5) (E := E_M_crowdIn d) (pc := 80) (cks_at k_M_crowdIn 52 rfl rfl) (by decide) ?_
          exact tq_sub [1, 2, 3, 4, 0] rfl (hkH v1 v2 v3 (v4 + 1) M1)
        · refine tq_iload_n 3 (E := E_M_crowdIn d) (pc := 63) (cks_at k_M_crowdIn 40 rfl rfl) rfl ?_
          refine tq_aload_n 0 (E := E_M_crowdIn d) (pc := 64) (cks_at k_M_crowdIn 41 rfl rfl) rfl ?_
          refine tq_getR (j := 109) (E := E_M_crowdIn d) (pc := 65) (cks_at k_M_crowdIn 42 rfl rfl) fo_M_106 so_78 rfl sp_78_46 ?_
          refine tq_iconst (E := E_M_crowdIn d) (pc := 68) (cks_at k_M_crowdIn 43 rfl rfl) ?_
          refine tq_iload 4 (E := E_M_crowdIn d) (pc := 69) (cks_at k_M_crowdIn 44 rfl rfl) rfl ?_
          refine tq_imul (E := E_M_crowdIn d) (pc := 71) (cks_at k_M_crowdIn 45 rfl rfl) ?_
          refine tq_iconst (E := E_M_crowdIn d) (pc := 72) (cks_at k_M_crowdIn 46 rfl rfl) ?_
          refine tq_iadd (E := E_M_crowdIn d) (pc := 73) (cks_at k_M_crowdIn 47 rfl rfl) ?_
          refine tq_iald (E := E_M_crowdIn d) (pc := 74) (cks_at k_M_crowdIn 48 rfl rfl) sa_109 sn_109 ?_
          refine tq_iadd (E := E_M_crowdIn d) (pc := 75) (cks_at k_M_crowdIn 49 rfl rfl) ?_
          refine tq_istore_n (E := E_M_crowdIn d) (pc := 76) (cks_at k_M_crowdIn 50 rfl rfl) (show 3 < 5 by decide) rfl ?_
          refine tq_iinc 4 (E := E_M_crowdIn d) (pc := 77) (cks_at k_M_crowdIn 51 rfl rfl) rfl (show 4 < 5 by decide) rfl ?_
          refine tq_goto (tgt := 5) (E := E_M_crowdIn d) (pc := 80) (cks_at k_M_crowdIn 52 rfl rfl) (by decide) ?_
          exact tq_sub [2, 3, 4, 1, 0] rfl (hkH v1 v2 (v3 + (M1 109 (i32 ((3 * v4) + 2)).toNat)) (v4 + 1) M1)
def f_M_crowdIn_L5 : Nat → Int × Int × Int × Int × Mm → Option (Int × Mm) := lp fun kH s => f_M_crowdIn_B5 (fun v1 v2 v3 v4 M => kH (v1, v2, v3, v4, M)) s.1 s.2.1 s.2.2.1 s.2.2.2.1 s.2.2.2.2
set_option maxRecDepth 20000 in
set_option maxHeartbeats 4000000 in
theorem w_M_crowdIn_L5 (d : Nat) (n : Nat) (s : Int × Int × Int × Int × Mm) : T (E_M_crowdIn d) injI 5 [(0, .ref 78), (1, vI s.1), (2, vI s.2.1), (3, vI s.2.2.1), (4, vI s.2.2.2.1)] [] s.2.2.2.2 (f_M_crowdIn_L5 n s) :=
  tq_lp (fun s => [(0, .ref 78), (1, vI s.1), (2, vI s.2.1), (3, vI s.2.2.1), (4, vI s.2.2.2.1)]) (fun s => s.2.2.2.2) (fun kH hH s => w_M_crowdIn_B5 d (fun v1 v2 v3 v4 M => kH (v1, v2, v3, v4, M)) (fun v1 v2 v3 v4 M => hH (v1, v2, v3, v4, M)) s.1 s.2.1 s.2.2.1 s.2.2.2.1 s.2.2.2.2) n s
def f_M_crowdIn (v1 : Int) (v2 : Int) (M : Mm) : Option (Int × Mm) :=
  f_M_crowdIn_L5 FU (v1, v2, 0, 0, M)
set_option maxRecDepth 20000 in
set_option maxHeartbeats 4000000 in
theorem c_M_crowdIn (d : Nat) (v1 : Int) (v2 : Int) (M : Mm) (Q : Option Value → Mm → Prop) (h : sat injI (f_M_crowdIn v1 v2 M) Q) : Ct (d + 2) y_M_crowdIn [.ref 78, vI v1, vI v2] M Q := by
  refine ct_in (d := d + 1) mk_M_crowdIn (Nat.le_of_ble_eq_true rfl) (?_ : T (E_M_crowdIn d) injI 0 [(0, .ref 78), (1, vI v1), (2, vI v2)] [] M (f_M_crowdIn v1 v2 M)) h
  unfold f_M_crowdIn
  refine tq_iconst (E := E_M_crowdIn d) (pc := 0) (cks_at k_M_crowdIn 0 rfl rfl) ?_
  refine tq_istore_n (E := E_M_crowdIn d) (pc := 1) (cks_at k_M_crowdIn 1 rfl rfl) (show 3 < 5 by decide) rfl ?_
  refine tq_iconst (E := E_M_crowdIn d) (pc := 2) (cks_at k_M_crowdIn 2 rfl rfl) ?_
  refine tq_istore (E := E_M_crowdIn d) (pc := 3) (cks_at k_M_crowdIn 3 rfl rfl) (show 4 < 5 by decide) rfl ?_
  exact tq_sub [2, 3, 4, 1, 0] rfl (w_M_crowdIn_L5 d FU (v1, v2, 0, 0, M))
abbrev E_M_isFree (d : Nat) : Ev := (Ct (d + 7), "BreathTownModel", prog_14_method_63_code, 5, False, 0, (fun _ => 0), (Option.some Jvm.ClassFile.FieldType.boolean))
def f_M_isFree_B18 (kH : Int → Int → Int → Int → Mm → Option (Int × Mm)) (v1 v2 v3 v4 : Int) (M : Mm) : Option (Int × Mm) :=
  bI (f_M_takesOf v1 M) (fun r2 M1 =>
  if i32 r2 ≤ i32 v4 then
    some (1, M1)
  else
    bI (f_M_widthOf v1 (v3 + v4) M1) (fun r4 M3 =>
    bI (f_M_crowdIn v1 (v3 + v4) M3) (fun r6 M5 =>
    if i32 v2 ≤ i32 (r4 - r6) then
      kH v1 v2 v3 (v4 + 1) M5
    else
      some (0, M5))))
set_option maxRecDepth 20000 in
set_option maxHeartbeats 4000000 in
theorem w_M_isFree_B18 (d : Nat) (kH : Int → Int → Int → Int → Mm → Option (Int × Mm)) (hkH : ∀ (v1 v2 v3 v4 : Int) (M : Mm), T (E_M_isFree d) injI 18 [(0, .ref 78), (1, vI v1), (2, vI v2), (3, vI v3), (4, vI v4)] [] M (kH v1 v2 v3 v4 M)) (v1 v2 v3 v4 : Int) (M : Mm) : T (E_M_isFree d) injI 18 [(0, .ref 78), (1, vI v1), (2, vI v2), (3, vI v3), (4, vI v4)] [] M (f_M_isFree_B18 kH v1 v2 v3 v4 M) := by
  unfold f_M_isFree_B18
  refine tq_iload 4 (E := E_M_isFree d) (pc := 18) (cks_at k_M_isFree 11 rfl rfl) rfl ?_
  refine tq_aload_n 0 (E := E_M_isFree d) (pc := 20) (cks_at k_M_isFree 12 rfl rfl) rfl ?_
  refine tq_iload_n 1 (E := E_M_isFree d) (pc := 21) (cks_at k_M_isFree 13 rfl rfl) rfl ?_
  refine tq_V1 (E := E_M_isFree d) (pc := 22) (cks_at k_M_isFree 14 rfl rfl) mk_M_takesOf lk_M_440 rc_78 (Nat.le_of_ble_eq_true rfl) (c_M_takesOf (d + 6) v1 M) (k_I fun r2 M1 => ?_)
  refine tq_icmp_ge (E := E_M_isFree d) (pc := 25) (tgt := 59) (cks_at k_M_isFree 15 rfl rfl) (by decide) ?_ ?_
  · refine tq_iconst (E := E_M_isFree d) (pc := 59) (cks_at k_M_isFree 35 rfl rfl) ?_
    exact tq_zretC (E := E_M_isFree d) (pc := 60) (cks_at k_M_isFree 36 rfl rfl) rfl (by decide)
  · refine tq_aload_n 0 (E := E_M_isFree d) (pc := 28) (cks_at k_M_isFree 16 rfl rfl) rfl ?_
    refine tq_iload_n 1 (E := E_M_isFree d) (pc := 29) (cks_at k_M_isFree 17 rfl rfl) rfl ?_
    refine tq_iload_n 3 (E := E_M_isFree d) (pc := 30) (cks_at k_M_isFree 18 rfl rfl) rfl ?_
    refine tq_iload 4 (E := E_M_isFree d) (pc := 31) (cks_at k_M_isFree 19 rfl rfl) rfl ?_
    refine tq_iadd (E := E_M_isFree d) (pc := 33) (cks_at k_M_isFree 20 rfl rfl) ?_
    refine tq_V2 (E := E_M_isFree d) (pc := 34) (cks_at k_M_isFree 21 rfl rfl) mk_M_widthOf lk_M_437 rc_78 (Nat.le_of_ble_eq_true rfl) (c_M_widthOf (d + 2) v1 (v3 + v4) M1) (k_I fun r4 M3 => ?_)
    refine tq_aload_n 0 (E := E_M_isFree d) (pc := 37) (cks_at k_M_isFree 22 rfl rfl) rfl ?_
    refine tq_iload_n 1 (E := E_M_isFree d) (pc := 38) (cks_at k_M_isFree 23 rfl rfl) rfl ?_
    refine tq_iload_n 3 (E := E_M_isFree d) (pc := 39) (cks_at k_M_isFree 24 rfl rfl) rfl ?_
    refine tq_iload 4 (E := E_M_isFree d) (pc := 40) (cks_at k_M_isFree 25 rfl rfl) rfl ?_
    refine tq_iadd (E := E_M_isFree d) (pc := 42) (cks_at k_M_isFree 26 rfl rfl) ?_
    refine tq_V2 (E := E_M_isFree d) (pc := 43) (cks_at k_M_isFree 27 rfl rfl) mk_M_crowdIn lk_M_453 rc_78 (Nat.le_of_ble_eq_true rfl) (c_M_crowdIn (d + 5) v1 (v3 + v4) M3) (k_I fun r6 M5 => ?_)
    refine tq_isub (E := E_M_isFree d) (pc := 46) (cks_at k_M_isFree 28 rfl rfl) ?_
    refine tq_iload_n 2 (E := E_M_isFree d) (pc := 47) (cks_at k_M_isFree 29 rfl rfl) rfl ?_
    refine tq_icmp_ge (E := E_M_isFree d) (pc := 48) (tgt := 53) (cks_at k_M_isFree 30 rfl rfl) (by decide) ?_ ?_
    · refine tq_iinc 4 (E := E_M_isFree d) (pc := 53) (cks_at k_M_isFree 33 rfl rfl) rfl (show 4 < 5 by decide) rfl ?_
      refine tq_goto (tgt := 18) (E := E_M_isFree d) (pc := 56) (cks_at k_M_isFree 34 rfl rfl) (by decide) ?_
      exact tq_sub [1, 2, 3, 4, 0] rfl (hkH v1 v2 v3 (v4 + 1) M5)
    · refine tq_iconst (E := E_M_isFree d) (pc := 51) (cks_at k_M_isFree 31 rfl rfl) ?_
      exact tq_zretC (E := E_M_isFree d) (pc := 52) (cks_at k_M_isFree 32 rfl rfl) rfl (by decide)
def f_M_isFree_L18 : Nat → Int × Int × Int × Int × Mm → Option (Int × Mm) := lp fun kH s => f_M_isFree_B18 (fun v1 v2 v3 v4 M => kH (v1, v2, v3, v4, M)) s.1 s.2.1 s.2.2.1 s.2.2.2.1 s.2.2.2.2
set_option maxRecDepth 20000 in
set_option maxHeartbeats 4000000 in
theorem w_M_isFree_L18 (d : Nat) (n : Nat) (s : Int × Int × Int × Int × Mm) : T (E_M_isFree d) injI 18 [(0, .ref 78), (1, vI s.1), (2, vI s.2.1), (3, vI s.2.2.1), (4, vI s.2.2.2.1)] [] s.2.2.2.2 (f_M_isFree_L18 n s) :=
  tq_lp (fun s => [(0, .ref 78), (1, vI s.1), (2, vI s.2.1), (3, vI s.2.2.1), (4, vI s.2.2.2.1)]) (fun s => s.2.2.2.2) (fun kH hH s => w_M_isFree_B18 d (fun v1 v2 v3 v4 M => kH (v1, v2, v3, v4, M)) (fun v1 v2 v3 v4 M => hH (v1, v2, v3, v4, M)) s.1 s.2.1 s.2.2.1 s.2.2.2.1 s.2.2.2.2) n s
def f_M_isFree (v1 : Int) (v2 : Int) (v3 : Int) (M : Mm) : Option (Int × Mm) :=
  if ¬ i32 (M 78 47) = 0 then
    f_M_isFree_L18 FU (v1, v2, v3, 0, M)
  else
    bI (f_M_isPassed v1 v2 v3 M) (fun r8 M7 =>
    gd (i32 r8 = 0 ∨ i32 r8 = 1) (some (r8, M7)))
set_option maxRecDepth 20000 in
set_option maxHeartbeats 4000000 in
theorem c_M_isFree (d : Nat) (v1 : Int) (v2 : Int) (v3 : Int) (M : Mm) (Q : Option Value → Mm → Prop) (h : sat injI (f_M_isFree v1 v2 v3 M) Q) : Ct (d + 8) y_M_isFree [.ref 78, vI v1, vI v2, vI v3] M Q := by
  refine ct_in (d := d + 7) mk_M_isFree (Nat.le_of_ble_eq_true rfl) (?_ : T (E_M_isFree d) injI 0 [(0, .ref 78), (1, vI v1), (2, vI v2), (3, vI v3)] [] M (f_M_isFree v1 v2 v3 M)) h
  unfold f_M_isFree
  refine tq_aload_n 0 (E := E_M_isFree d) (pc := 0) (cks_at k_M_isFree 0 rfl rfl) rfl ?_
  refine tq_getI (E := E_M_isFree d) (pc := 1) (cks_at k_M_isFree 1 rfl rfl) fo_M_447 so_78 rfl (by decide) ?_
  refine tq_if_ne (E := E_M_isFree d) (pc := 4) (tgt := 15) (cks_at k_M_isFree 2 rfl rfl) (by decide) ?_ ?_
  · refine tq_iconst (E := E_M_isFree d) (pc := 15) (cks_at k_M_isFree 9 rfl rfl) ?_
    refine tq_istore (E := E_M_isFree d) (pc := 16) (cks_at k_M_isFree 10 rfl rfl) (show 4 < 5 by decide) rfl ?_
    exact tq_sub [1, 2, 3, 4, 0] rfl (w_M_isFree_L18 d FU (v1, v2, v3, 0, M))
  · refine tq_aload_n 0 (E := E_M_isFree d) (pc := 7) (cks_at k_M_isFree 3 rfl rfl) rfl ?_
    refine tq_iload_n 1 (E := E_M_isFree d) (pc := 8) (cks_at k_M_isFree 4 rfl rfl) rfl ?_
    refine tq_iload_n 2 (E := E_M_isFree d) (pc := 9) (cks_at k_M_isFree 5 rfl rfl) rfl ?_
    refine tq_iload_n 3 (E := E_M_isFree d) (pc := 10) (cks_at k_M_isFree 6 rfl rfl) rfl ?_
    refine tq_V3 (E := E_M_isFree d) (pc := 11) (cks_at k_M_isFree 7 rfl rfl) mk_M_isPassed lk_M_450 rc_78 (Nat.le_of_ble_eq_true rfl) (c_M_isPassed (d + 0) v1 v2 v3 M) (k_I fun r8 M7 => ?_)
    exact tq_zret (E := E_M_isFree d) (pc := 14) (cks_at k_M_isFree 8 rfl rfl) rfl
abbrev E_M_taken (d : Nat) : Ev := (Ct (d + 8), "BreathTownModel", prog_14_method_64_code, 6, False, 0, (fun _ => 0), (Option.some Jvm.ClassFile.FieldType.int))
def f_M_taken_B3 (kH : Int → Int → Int → Int → Mm → Option (Int × Mm)) (v1 v2 v4 v5 : Int) (M : Mm) : Option (Int × Mm) :=
  bI (f_M_takesOf v1 M) (fun r2 M1 =>
  if i32 v4 < i32 (v5 + r2) then
    some (1000000, M1)
  else
    bI (f_M_isFree v1 v2 v5 M1) (fun r4 M3 =>
    if i32 r4 = 0 then
      kH v1 v2 v4 (v5 + 1) M3
    else
      some (v5, M3)))
set_option maxRecDepth 20000 in
set_option maxHeartbeats 4000000 in
theorem w_M_taken_B3 (d : Nat) (kH : Int → Int → Int → Int → Mm → Option (Int × Mm)) (hkH : ∀ (v1 v2 v4 v5 : Int) (M : Mm), T (E_M_taken d) injI 3 [(0, .ref 78), (1, vI v1), (2, vI v2), (4, vI v4), (5, vI v5)] [] M (kH v1 v2 v4 v5 M)) (v1 v2 v4 v5 : Int) (M : Mm) : T (E_M_taken d) injI 3 [(0, .ref 78), (1, vI v1), (2, vI v2), (4, vI v4), (5, vI v5)] [] M (f_M_taken_B3 kH v1 v2 v4 v5 M) := by
  unfold f_M_taken_B3
  refine tq_iload 4 (E := E_M_taken d) (pc := 3) (cks_at k_M_taken 2 rfl rfl) rfl ?_
  refine tq_aload_n 0 (E := E_M_taken d) (pc := 5) (cks_at k_M_taken 3 rfl rfl) rfl ?_
  refine tq_iload_n 1 (E := E_M_taken d) (pc := 6) (cks_at k_M_taken 4 rfl rfl) rfl ?_
  refine tq_V1 (E := E_M_taken d) (pc := 7) (cks_at k_M_taken 5 rfl rfl) mk_M_takesOf lk_M_440 rc_78 (Nat.le_of_ble_eq_true rfl) (c_M_takesOf (d + 7) v1 M) (k_I fun r2 M1 => ?_)
  refine tq_iadd (E := E_M_taken d) (pc := 10) (cks_at k_M_taken 6 rfl rfl) ?_
  refine tq_iload 3 (E := E_M_taken d) (pc := 11) (cks_at k_M_taken 7 rfl rfl) rfl ?_
  refine tq_icmp_gt (E := E_M_taken d) (pc := 13) (tgt := 36) (cks_at k_M_taken 8 rfl rfl) (by decide) ?_ ?_
  · refine tq_ldcw (z := 1000000) (E := E_M_taken d) (pc := 36) (cks_at k_M_taken 19 rfl rfl) cst_M_459 ?_
    exact tq_iret (E := E_M_taken d) (pc := 39) (cks_at k_M_taken 20 rfl rfl) rfl
  · refine tq_aload_n 0 (E := E_M_taken d) (pc := 16) (cks_at k_M_taken 9 rfl rfl) rfl ?_
    refine tq_iload_n 1 (E := E_M_taken d) (pc := 17) (cks_at k_M_taken 10 rfl rfl) rfl ?_
    refine tq_iload_n 2 (E := E_M_taken d) (pc := 18) (cks_at k_M_taken 11 rfl rfl) rfl ?_
    refine tq_iload 4 (E := E_M_taken d) (pc := 19) (cks_at k_M_taken 12 rfl rfl) rfl ?_
    refine tq_V3 (E := E_M_taken d) (pc := 21) (cks_at k_M_taken 13 rfl rfl) mk_M_isFree lk_M_456 rc_78 (Nat.le_of_ble_eq_true rfl) (c_M_isFree (d + 0) v1 v2 v5 M1) (k_I fun r4 M3 => ?_)
    refine tq_if_eq (E := E_M_taken d) (pc := 24) (tgt := 30) (cks_at k_M_taken 14 rfl rfl) (by decide) ?_ ?_
    · refine tq_iinc 4 (E := E_M_taken d) (pc := 30) (cks_at k_M_taken 17 rfl rfl) rfl (show 5 < 6 by decide) rfl ?_
      refine tq_goto (tgt := 3) (E := E_M_taken d) (pc := 33) (cks_at k_M_taken 18 rfl rfl) (by decide) ?_
      exact tq_sub [1, 2, 3, 4, 0] rfl (hkH v1 v2 v4 (v5 + 1) M3)
    · refine tq_iload 4 (E := E_M_taken d) (pc := 27) (cks_at k_M_taken 15 rfl rfl) rfl ?_
      exact tq_iret (E := E_M_taken d) (pc := 29) (cks_at k_M_taken 16 rfl rfl) rfl
def f_M_taken_L3 : Nat → Int × Int × Int × Int × Mm → Option (Int × Mm) := lp fun kH s => f_M_taken_B3 (fun v1 v2 v4 v5 M => kH (v1, v2, v4, v5, M)) s.1 s.2.1 s.2.2.1 s.2.2.2.1 s.2.2.2.2
set_option maxRecDepth 20000 in
set_option maxHeartbeats 4000000 in
theorem w_M_taken_L3 (d : Nat) (n : Nat) (s : Int × Int × Int × Int × Mm) : T (E_M_taken d) injI 3 [(0, .ref 78), (1, vI s.1), (2, vI s.2.1), (4, vI s.2.2.1), (5, vI s.2.2.2.1)] [] s.2.2.2.2 (f_M_taken_L3 n s) :=
  tq_lp (fun s => [(0, .ref 78), (1, vI s.1), (2, vI s.2.1), (4, vI s.2.2.1), (5, vI s.2.2.2.1)]) (fun s => s.2.2.2.2) (fun kH hH s => w_M_taken_B3 d (fun v1 v2 v4 v5 M => kH (v1, v2, v4, v5, M)) (fun v1 v2 v4 v5 M => hH (v1, v2, v4, v5, M)) s.1 s.2.1 s.2.2.1 s.2.2.2.1 s.2.2.2.2) n s
def f_M_taken (v1 : Int) (v2 : Int) (v3 : Int) (v4 : Int) (M : Mm) : Option (Int × Mm) :=
  f_M_taken_L3 FU (v1, v2, v4, v3, M)
set_option maxRecDepth 20000 in
set_option maxHeartbeats 4000000 in
theorem c_M_taken (d : Nat) (v1 : Int) (v2 : Int) (v3 : Int) (v4 : Int) (M : Mm) (Q : Option Value → Mm → Prop) (h : sat injI (f_M_taken v1 v2 v3 v4 M) Q) : Ct (d + 9) y_M_taken [.ref 78, vI v1, vI v2, vI v3, vI v4] M Q := by
  refine ct_in (d := d + 8) mk_M_taken (Nat.le_of_ble_eq_true rfl) (?_ : T (E_M_taken d) injI 0 [(0, .ref 78), (1, vI v1), (2, vI v2), (3, vI v3), (4, vI v4)] [] M (f_M_taken v1 v2 v3 v4 M)) h
  unfold f_M_taken
  refine tq_iload_n 3 (E := E_M_taken d) (pc := 0) (cks_at k_M_taken 0 rfl rfl) rfl ?_
  refine tq_istore (E := E_M_taken d) (pc := 1) (cks_at k_M_taken 1 rfl rfl) (show 5 < 6 by decide) rfl ?_
  exact tq_sub [1, 2, 3, 5, 0] rfl (w_M_taken_L3 d FU (v1, v2, v4, v3, M))
abbrev E_M_improves (d : Nat) : Ev := (Ct (d + 9), "BreathTownModel", prog_14_method_65_code, 8, False, 0, (fun _ => 0), (Option.some Jvm.ClassFile.FieldType.boolean))
def f_M_improves_J40 (v1 v2 v3 v4 s0 : Int) (M : Mm) : Option (Int × Mm) :=
  gd (0 ≤ i32 v2 ∧ i32 v2 < ((9 : Nat) : Int)) <|
  bI (f_M_taken v1 v4 (M 110 (i32 v2).toNat) s0 M) (fun r2 M1 =>
  if ¬ i32 r2 = i32 1000000 then
    bI (f_M_takesOf v1 M1) (fun r4 M3 =>
    gd (0 ≤ i32 v3 ∧ i32 v3 < ((9 : Nat) : Int)) <|
    bd (up M3 110 (i32 v3).toNat (r2 + r4)) (fun M5 =>
    some (1, M5)))
  else
    some (0, M1))
set_option maxRecDepth 20000 in
set_option maxHeartbeats 4000000 in
theorem w_M_improves_J40 (d : Nat) (v1 v2 v3 v4 s0 : Int) (M : Mm) : T (E_M_improves d) injI 40 [(0, .ref 78), (1, vI v1), (2, vI v2), (3, vI v3), (4, vI v4)] [vI s0] M (f_M_improves_J40 v1 v2 v3 v4 s0 M) := by
  unfold f_M_improves_J40
  refine tq_istore (E := E_M_improves d) (pc := 40) (cks_at k_M_improves 24 rfl rfl) (show 6 < 8 by decide) rfl ?_
  refine tq_aload_n 1 (E := E_M_improves d) (pc := 42) (cks_at k_M_improves 25 rfl rfl) rfl ?_
  refine tq_iload_n 2 (E := E_M_improves d) (pc := 43) (cks_at k_M_improves 26 rfl rfl) rfl ?_
  refine tq_iload 5 (E := E_M_improves d) (pc := 44) (cks_at k_M_improves 27 rfl rfl) rfl ?_
  refine tq_aload_n 1 (E := E_M_improves d) (pc := 46) (cks_at k_M_improves 28 rfl rfl) rfl ?_
  refine tq_getR (j := 110) (E := E_M_improves d) (pc := 47) (cks_at k_M_improves 29 rfl rfl) fo_M_109 so_78 rfl sp_78_48 ?_
  refine tq_iload_n 3 (E := E_M_improves d) (pc := 50) (cks_at k_M_improves 30 rfl rfl) rfl ?_
  refine tq_iald (E := E_M_improves d) (pc := 51) (cks_at k_M_improves 31 rfl rfl) sa_110 sn_110 ?_
  refine tq_iload 0 (E := E_M_improves d) (pc := 52) (cks_at k_M_improves 32 rfl rfl) rfl ?_
  refine tq_V4 (E := E_M_improves d) (pc := 54) (cks_at k_M_improves 33 rfl rfl) mk_M_taken lk_M_460 rc_78 (Nat.le_of_ble_eq_true rfl) (c_M_taken (d + 0) v1 v4 (M 110 (i32 v2).toNat) s0 M) (k_I fun r2 M1 => ?_)
  refine tq_istore (E := E_M_improves d) (pc := 57) (cks_at k_M_improves 34 rfl rfl) (show 7 < 8 by decide) rfl ?_
  refine tq_iload 0 (E := E_M_improves d) (pc := 59) (cks_at k_M_improves 35 rfl rfl) rfl ?_
  refine tq_ldcw (z := 1000000) (E := E_M_improves d) (pc := 61) (cks_at k_M_improves 36 rfl rfl) cst_M_459 ?_
  refine tq_icmp_ne (E := E_M_improves d) (pc := 64) (tgt := 69) (cks_at k_M_improves 37 rfl rfl) (by decide) ?_ ?_
  · refine tq_aload_n 2 (E := E_M_improves d) (pc := 69) (cks_at k_M_improves 40 rfl rfl) rfl ?_
    refine tq_getR (j := 110) (E := E_M_improves d) (pc := 70) (cks_at k_M_improves 41 rfl rfl) fo_M_109 so_78 rfl sp_78_48 ?_
    refine tq_iload_n 5 (E := E_M_improves d) (pc := 73) (cks_at k_M_improves 42 rfl rfl) rfl ?_
    refine tq_iload 0 (E := E_M_improves d) (pc := 74) (cks_at k_M_improves 43 rfl rfl) rfl ?_
    refine tq_aload_n 2 (E := E_M_improves d) (pc := 76) (cks_at k_M_improves 44 rfl rfl) rfl ?_
    refine tq_iload_n 3 (E := E_M_improves d) (pc := 77) (cks_at k_M_improves 45 rfl rfl) rfl ?_
    refine tq_V1 (E := E_M_improves d) (pc := 78) (cks_at k_M_improves 46 rfl rfl) mk_M_takesOf lk_M_440 rc_78 (Nat.le_of_ble_eq_true rfl) (c_M_takesOf (d + 8) v1 M1) (k_I fun r4 M3 => ?_)
    refine tq_iadd (E := E_M_improves d) (pc := 81) (cks_at k_M_improves 47 rfl rfl) ?_
    refine tq_iast (E := E_M_improves d) (pc := 82) (cks_at k_M_improves 48 rfl rfl) sa_110 sn_110 (fun M5 => ?_)
    refine tq_iconst (E := E_M_improves d) (pc := 83) (cks_at k_M_improves 49 rfl rfl) ?_
    exact tq_zretC (E := E_M_improves d) (pc := 84) (cks_at k_M_improves 50 rfl rfl) rfl (by decide)
  · refine tq_iconst (E := E_M_improves d) (pc := 67) (cks_at k_M_improves 38 rfl rfl) ?_
    exact tq_zretC (E := E_M_improves d) (pc := 68) (cks_at k_M_improves 39 rfl rfl) rfl (by decide)
def f_M_improves (v1 : Int) (v2 : Int) (v3 : Int) (v4 : Int) (v5 : Int) (M : Mm) : Option (Int × Mm) :=
  gd (0 ≤ i32 v2 ∧ i32 v2 < ((9 : Nat) : Int)) <|
  if ¬ i32 (M 110 (i32 v2).toNat) = i32 1000000 then
    gd (0 ≤ i32 v3 ∧ i32 v3 < ((9 : Nat) : Int)) <|
    if i32 v5 ≤ i32 ((M 110 (i32 v3).toNat) - 1) then
      f_M_improves_J40 v1 v2 v3 v4 v5 M
    else
      gd (0 ≤ i32 v3 ∧ i32 v3 < ((9 : Nat) : Int)) <|
      f_M_improves_J40 v1 v2 v3 v4 ((M 110 (i32 v3).toNat) - 1) M
  else
    some (0, M)
set_option maxRecDepth 20000 in
set_option maxHeartbeats 4000000 in
theorem c_M_improves (d : Nat) (v1 : Int) (v2 : Int) (v3 : Int) (v4 : Int) (v5 : Int) (M : Mm) (Q : Option Value → Mm → Prop) (h : sat injI (f_M_improves v1 v2 v3 v4 v5 M) Q) : Ct (d + 10) y_M_improves [.ref 78, vI v1, vI v2, vI v3, vI v4, vI v5] M Q := by
  refine ct_in (d := d + 9) mk_M_improves (Nat.le_of_ble_eq_true rfl) (?_ : T (E_M_improves d) injI 0 [(0, .ref 78), (1, vI v1), (2, vI v2), (3, vI v3), (4, vI v4), (5, vI v5)] [] M (f_M_improves v1 v2 v3 v4 v5 M)) h
  unfold f_M_improves
  refine tq_aload_n 0 (E := E_M_improves d) (pc := 0) (cks_at k_M_improves 0 rfl rfl) rfl ?_
  refine tq_getR (j := 110) (E := E_M_improves d) (pc := 1) (cks_at k_M_improves 1 rfl rfl) fo_M_109 so_78 rfl sp_78_48 ?_
  refine tq_iload_n 2 (E := E_M_improves d) (pc := 4) (cks_at k_M_improves 2 rfl rfl) rfl ?_
  refine tq_iald (E := E_M_improves d) (pc := 5) (cks_at k_M_improves 3 rfl rfl) sa_110 sn_110 ?_
  refine tq_ldcw (z := 1000000) (E := E_M_improves d) (pc := 6) (cks_at k_M_improves 4 rfl rfl) cst_M_459 ?_
  refine tq_icmp_ne (E := E_M_improves d) (pc := 9) (tgt := 14) (cks_at k_M_improves 5 rfl rfl) (by decide) ?_ ?_
  · refine tq_aload_n 0 (E := E_M_improves d) (pc := 14) (cks_at k_M_improves 8 rfl rfl) rfl ?_
    refine tq_getR (j := 110) (E := E_M_improves d) (pc := 15) (cks_at k_M_improves 9 rfl rfl) fo_M_109 so_78 rfl sp_78_48 ?_
    refine tq_iload_n 3 (E := E_M_improves d) (pc := 18) (cks_at k_M_improves 10 rfl rfl) rfl ?_
    refine tq_iald (E := E_M_improves d) (pc := 19) (cks_at k_M_improves 11 rfl rfl) sa_110 sn_110 ?_
    refine tq_iconst (E := E_M_improves d) (pc := 20) (cks_at k_M_improves 12 rfl rfl) ?_
    refine tq_isub (E := E_M_improves d) (pc := 21) (cks_at k_M_improves 13 rfl rfl) ?_
    refine tq_iload 5 (E := E_M_improves d) (pc := 22) (cks_at k_M_improves 14 rfl rfl) rfl ?_
    refine tq_icmp_ge (E := E_M_improves d) (pc := 24) (tgt := 38) (cks_at k_M_improves 15 rfl rfl) (by decide) ?_ ?_
    · refine tq_iload 5 (E := E_M_improves d) (pc := 38) (cks_at k_M_improves 23 rfl rfl) rfl ?_
      exact tq_sub [0, 1, 2, 3, 4] rfl (w_M_improves_J40 d v1 v2 v3 v4 v5 M)
    · refine tq_aload_n 0 (E := E_M_improves d) (pc := 27) (cks_at k_M_improves 16 rfl rfl) rfl ?_
      refine tq_getR (j := 110) (E := E_M_improves d) (pc := 28) (cks_at k_M_improves 17 rfl rfl) fo_M_109 so_78 rfl sp_78_48 ?_
      refine tq_iload_n 3 (E := E_M_improves d) (pc := 31) (cks_at k_M_improves 18 rfl rfl) rfl ?_
      refine tq_iald (E := E_M_improves d) (pc := 32) (cks_at k_M_improves 19 rfl rfl) sa_110 sn_110 ?_
      refine tq_iconst (E := E_M_improves d) (pc := 33) (cks_at k_M_improves 20 rfl rfl) ?_
      refine tq_isub (E := E_M_improves d) (pc := 34) (cks_at k_M_improves 21 rfl rfl) ?_
      refine tq_goto (tgt := 40) (E := E_M_improves d) (pc := 35) (cks_at k_M_improves 22 rfl rfl) (by decide) ?_
      exact tq_sub [0, 1, 2, 3, 4] rfl (w_M_improves_J40 d v1 v2 v3 v4 ((M 110 (i32 v3).toNat) - 1) M)
  · refine tq_iconst (E := E_M_improves d) (pc := 12) (cks_at k_M_improves 6 rfl rfl) ?_
    exact tq_zretC (E := E_M_improves d) (pc := 13) (cks_at k_M_improves 7 rfl rfl) rfl (by decide)
abbrev E_M_spreads (d : Nat) : Ev := (Ct (d + 10), "BreathTownModel", prog_14_method_66_code, 10, False, 0, (fun _ => 0), (Option.none : Option Jvm.ClassFile.FieldType))
def f_M_spreads_B3 (kH : Int → Int → Int → Int → Int → Int → Mm → Option (Mm)) (kx26 : Int → Int → Int → Int → Int → Mm → Option (Mm)) (v1 v2 v3 v4 v5 v6 : Int) (M : Mm) : Option (Mm) :=
  if i32 9 ≤ i32 v6 then
    kx26 v1 v2 v3 v4 v5 M
  else
    gd (0 ≤ i32 v6 ∧ i32 v6 < ((9 : Nat) : Int)) <|
    bd (up M 110 (i32 v6).toNat 1000000) (fun M1 =>
    kH v1 v2 v3 v4 v5 (v6 + 1) M1)
set_option maxRecDepth 20000 in
set_option maxHeartbeats 4000000 in
theorem w_M_spreads_B3 (d : Nat) (kH : Int → Int → Int → Int → Int → Int → Mm → Option (Mm)) (kx26 : Int → Int → Int → Int → Int → Mm → Option (Mm)) (hkH : ∀ (v1 v2 v3 v4 v5 v6 : Int) (M : Mm), T (E_M_spreads d) injV 3 [(0, .ref 78), (1, vI v1), (2, vI v2), (3, vI v3), (4, vI v4), (5, vI v5), (6, vI v6)] [] M (kH v1 v2 v3 v4 v5 v6 M)) (hkx26 : ∀ (v1 v2 v3 v4 v5 : Int) (M : Mm), T (E_M_spreads d) injV 26 [(0, .ref 78), (1, vI v1), (2, vI v2), (3, vI v3), (4, vI v4), (5, vI v5)] [] M (kx26 v1 v2 v3 v4 v5 M)) (v1 v2 v3 v4 v5 v6 : Int) (M : Mm) : T (E_M_spreads d) injV 3 [(0, .ref 78), (1, vI v1), (2, vI v2), (3, vI v3), (4, vI v4), (5, vI v5), (6, vI v6)] [] M (f_M_spreads_B3 kH kx26 v1 v2 v3 v4 v5 v6 M) := by
  unfold f_M_spreads_B3
  refine tq_iload 6 (E := E_M_spreads d) (pc := 3) (cks_at k_M_spreads 2 rfl rfl) rfl ?_
  refine tq_bipush (E := E_M_spreads d) (pc := 5) (cks_at k_M_spreads 3 rfl rfl) (by decide) (by decide) ?_
  refine tq_icmp_ge (E := E_M_spreads d) (pc := 7) (tgt := 26) (cks_at k_M_spreads 4 rfl rfl) (by decide) ?_ ?_
  · exact tq_sub [0, 1, 2, 3, 4, 5] rfl (hkx26 v1 v2 v3 v4 v5 M)
  · refine tq_aload_n 0 (E := E_M_spreads d) (pc := 10) (cks_at k_M_spreads 5 rfl rfl) rfl ?_
    refine tq_getR (j := 110) (E := E_M_spreads d) (pc := 11) (cks_at k_M_spreads 6 rfl rfl) fo_M_109 so_78 rfl sp_78_48 ?_
    refine tq_iload 6 (E := E_M_spreads d) (pc := 14) (cks_at k_M_spreads 7 rfl rfl) rfl ?_
    refine tq_ldcw (z := 1000000) (E := E_M_spreads d) (pc := 16) (cks_at k_M_spreads 8 rfl rfl) cst_M_459 ?_
    refine tq_iast (E := E_M_spreads d) (pc := 19) (cks_at k_M_spreads 9 rfl rfl) sa_110 sn_110 (fun M1 => ?_)
    refine tq_iinc 6 (E := E_M_spreads d) (pc := 20) (cks_at k_M_spreads 10 rfl rfl) rfl (show 6 < 10 by decide) rfl ?_
    refine tq_goto (tgt := 3) (E := E_M_spreads d) (pc := 23) (cks_at k_M_spreads 11 rfl rfl) (by decide) ?_
    exact tq_sub [1, 2, 3, 4, 5, 6, 0] rfl (hkH v1 v2 v3 v4 v5 (v6 + 1) M1)
def f_M_spreads_L3 (kx26 : Int → Int → Int → Int → Int → Mm → Option (Mm)) : Nat → Int × Int × Int × Int × Int × Int × Mm → Option (Mm) := lp fun kH s => f_M_spreads_B3 (fun v1 v2 v3 v4 v5 v6 M => kH (v1, v2, v3, v4, v5, v6, M)) kx26 s.1 s.2.1 s.2.2.1 s.2.2.2.1 s.2.2.2.2.1 s.2.2.2.2.2.1 s.2.2.2.2.2.2
set_option maxRecDepth 20000 in
set_option maxHeartbeats 4000000 in
theorem w_M_spreads_L3 (d : Nat) (kx26 : Int → Int → Int → Int → Int → Mm → Option (Mm)) (hkx26 : ∀ (v1 v2 v3 v4 v5 : Int) (M : Mm), T (E_M_spreads d) injV 26 [(0, .ref 78), (1, vI v1), (2, vI v2), (3, vI v3), (4, vI v4), (5, vI v5)] [] M (kx26 v1 v2 v3 v4 v5 M)) (n : Nat) (s : Int × Int × Int × Int × Int × Int × Mm) : T (E_M_spreads d) injV 3 [(0, .ref 78), (1, vI s.1), (2, vI s.2.1), (3, vI s.2.2.1), (4, vI s.2.2.2.1), (5, vI s.2.2.2.2.1), (6, vI s.2.2.2.2.2.1)] [] s.2.2.2.2.2.2 (f_M_spreads_L3 kx26 n s) :=
  tq_lp (fun s => [(0, .ref 78), (1, vI s.1), (2, vI s.2.1), (3, vI s.2.2.1), (4, vI s.2.2.2.1), (5, vI s.2.2.2.2.1), (6, vI s.2.2.2.2.2.1)]) (fun s => s.2.2.2.2.2.2) (fun kH hH s => w_M_spreads_B3 d (fun v1 v2 v3 v4 v5 v6 M => kH (v1, v2, v3, v4, v5, v6, M)) kx26 (fun v1 v2 v3 v4 v5 v6 M => hH (v1, v2, v3, v4, v5, v6, M)) hkx26 s.1 s.2.1 s.2.2.1 s.2.2.2.1 s.2.2.2.2.1 s.2.2.2.2.2.1 s.2.2.2.2.2.2) n s
def f_M_spreads_B47 (kH : Int → Int → Int → Int → Int → Mm → Option (Mm)) (kx144 : Int → Int → Int → Int → Mm → Option (Mm)) (v3 v4 v5 v6 v7 : Int) (M : Mm) : Option (Mm) :=
  bI (f_M_streetMany M) (fun r5 M4 =>
  if i32 r5 ≤ i32 v7 then
    kx144 v3 v4 v5 v6 M4
  else
    if ¬ i32 v7 = i32 v5 then
      bI (f_M_endOf v7 0 M4) (fun r7 M6 =>
      bI (f_M_endOf v7 1 M6) (fun r9 M8 =>
      bI (f_M_improves v7 r7 r9 v3 v4 M8) (fun r11 M10 =>
      bI (f_M_endOf v7 1 M10) (fun r13 M12 =>
      bI (f_M_endOf v7 0 M12) (fun r15 M14 =>
      bI (f_M_improves v7 r13 r15 v3 v4 M14) (fun r17 M16 =>
      if ¬ i32 v6 = 0 then
        kH v3 v4 v5 1 (v7 + 1) M16
      else
        if ¬ i32 r11 = 0 then
          kH v3 v4 v5 1 (v7 + 1) M16
        else
          if i32 r17 = 0 then
            kH v3 v4 v5 0 (v7 + 1) M16
          else
            kH v3 v4 v5 1 (v7 + 1) M16))))))
    else
      kH v3 v4 v5 v6 (v7 + 1) M4)
set_option maxRecDepth 20000 in
set_option maxHeartbeats 4000000 in
theorem w_M_spreads_B47 (d : Nat) (kH : Int → Int → Int → Int → Int → Mm → Option (Mm)) (kx144 : Int → Int → Int → Int → Mm → Option (Mm)) (hkH : ∀ (v3 v4 v5 v6 v7 : Int) (M : Mm), T (E_M_spreads d) injV 47 [(0, .ref 78), (3, vI v3), (4, vI v4), (5, vI v5), (6, vI v6), (7, vI v7)] [] M (kH v3 v4 v5 v6 v7 M)) (hkx144 : ∀ (v3 v4 v5 v6 : Int) (M : Mm), T (E_M_spreads d) injV 144 [(0, .ref 78), (3, vI v3), (4, vI v4), (5, vI v5), (6, vI v6)] [] M (kx144 v3 v4 v5 v6 M)) (v3 v4 v5 v6 v7 : Int) (M : Mm) : T (E_M_spreads d) injV 47 [(0, .ref 78), (3, vI v3), (4, vI v4), (5, vI v5), (6, vI v6), (7, vI v7)] [] M (f_M_spreads_B47 kH kx144 v3 v4 v5 v6 v7 M) := by
  unfold f_M_spreads_B47
  refine tq_iload 5 (E := E_M_spreads d) (pc := 47) (cks_at k_M_spreads 25 rfl rfl) rfl ?_
  refine tq_aload_n 0 (E := E_M_spreads d) (pc := 49) (cks_at k_M_spreads 26 rfl rfl) rfl ?_
  refine tq_V0 (E := E_M_spreads d) (pc := 50) (cks_at k_M_spreads 27 rfl rfl) mk_M_streetMany lk_M_412 rc_78 (Nat.le_of_ble_eq_true rfl) (c_M_streetMany (d + 9) M) (k_I fun r5 M4 => ?_)
  refine tq_icmp_ge (E := E_M_spreads d) (pc := 53) (tgt := 144) (cks_at k_M_spreads 28 rfl rfl) (by decide) ?_ ?_
  · exact tq_sub [0, 1, 2, 3, 4] rfl (hkx144 v3 v4 v5 v6 M4)
  · refine tq_iload 5 (E := E_M_spreads d) (pc := 56) (cks_at k_M_spreads 29 rfl rfl) rfl ?_
    refine tq_iload 3 (E := E_M_spreads d) (pc := 58) (cks_at k_M_spreads 30 rfl rfl) rfl ?_
    refine tq_icmp_ne (E := E_M_spreads d) (pc := 60) (tgt := 66) (cks_at k_M_spreads 31 rfl rfl) (by decide) ?_ ?_
    · refine tq_aload_n 0 (E := E_M_spreads d) (pc := 66) (cks_at k_M_spreads 33 rfl rfl) rfl ?_
      refine tq_iload 5 (E := E_M_spreads d) (pc := 67) (cks_at k_M_spreads 34 rfl rfl) rfl ?_
      refine tq_aload_n 0 (E := E_M_spreads d) (pc := 69) (cks_at k_M_spreads 35 rfl rfl) rfl ?_
      refine tq_iload 5 (E := E_M_spreads d) (pc := 70) (cks_at k_M_spreads 36 rfl rfl) rfl ?_
      refine tq_iconst (E := E_M_spreads d) (pc := 72) (cks_at k_M_spreads 37 rfl rfl) ?_
      refine tq_V2 (E := E_M_spreads d) (pc := 73) (cks_at k_M_spreads 38 rfl rfl) mk_M_endOf lk_M_464 rc_78 (Nat.le_of_ble_eq_true rfl) (c_M_endOf (d + 9) v7 0 M4) (k_I fun r7 M6 => ?_)
      refine tq_aload_n 0 (E := E_M_spreads d) (pc := 76) (cks_at k_M_spreads 39 rfl rfl) rfl ?_
      refine tq_iload 5 (E := E_M_spreads d) (pc := 77) (cks_at k_M_spreads 40 rfl rfl) rfl ?_
      refine tq_iconst (E := E_M_spreads d) (pc := 79) (cks_at k_M_spreads 41 rfl rfl) ?_
      refine tq_V2 (E := E_M_spreads d) (pc := 80) (cks_at k_M_spreads 42 rfl rfl) mk_M_endOf lk_M_464 rc_78 (Nat.le_of_ble_eq_true rfl) (c_M_endOf (d + 9) v7 1 M6) (k_I fun r9 M8 => ?_)
      refine tq_iload_n 1 (E := E_M_spreads d) (pc := 83) (cks_at k_M_spreads 43 rfl rfl) rfl ?_
      refine tq_iload 2 (E := E_M_spreads d) (pc := 84) (cks_at k_M_spreads 44 rfl rfl) rfl ?_
      refine tq_V5 (E := E_M_spreads d) (pc := 86) (cks_at k_M_spreads 45 rfl rfl) mk_M_improves lk_M_467 rc_78 (Nat.le_of_ble_eq_true rfl) (c_M_improves (d + 0) v7 r7 r9 v3 v4 M8) (k_I fun r11 M10 => ?_)
      refine tq_istore (E := E_M_spreads d) (pc := 89) (cks_at k_M_spreads 46 rfl rfl) (show 8 < 10 by decide) rfl ?_
      refine tq_aload_n 1 (E := E_M_spreads d) (pc := 91) (cks_at k_M_spreads 47 rfl rfl) rfl ?_
      refine tq_iload 6 (E := E_M_spreads d) (pc := 92) (cks_at k_M_spreads 48 rfl rfl) rfl ?_
      refine tq_aload_n 1 (E := E_M_spreads d) (pc := 94) (cks_at k_M_spreads 49 rfl rfl) rfl ?_
      refine tq_iload 6 (E := E_M_spreads d) (pc := 95) (cks_at k_M_spreads 50 rfl rfl) rfl ?_
      refine tq_iconst (E := E_M_spreads d) (pc := 97) (cks_at k_M_spreads 51 rfl rfl) ?_
      refine tq_V2 (E := E_M_spreads d) (pc := 98) (cks_at k_M_spreads 52 rfl rfl) mk_M_endOf lk_M_464 rc_78 (Nat.le_of_ble_eq_true rfl) (c_M_endOf (d + 9) v7 1 M10) (k_I fun r13 M12 => ?_)
      refine tq_aload_n 1 (E := E_M_spreads d) (pc := 101) (cks_at k_M_spreads 53 rfl rfl) rfl ?_
      refine tq_iload 6 (E := E_M_spreads d) (pc := 102) (cks_at k_M_spreads 54 rfl rfl) rfl ?_
      refine tq_iconst (E := E_M_spreads d) (pc := 104) (cks_at k_M_spreads 55 rfl rfl) ?_
      refine tq_V2 (E := E_M_spreads d) (pc := 105) (cks_at k_M_spreads 56 rfl rfl) mk_M_endOf lk_M_464 rc_78 (Nat.le_of_ble_eq_true rfl) (c_M_endOf (d + 9) v7 0 M12) (k_I fun r15 M14 => ?_)
      refine tq_iload_n 2 (E := E_M_spreads d) (pc := 108) (cks_at k_M_spreads 57 rfl rfl) rfl ?_
      refine tq_iload 3 (E := E_M_spreads d) (pc := 109) (cks_at k_M_spreads 58 rfl rfl) rfl ?_
      refine tq_V5 (E := E_M_spreads d) (pc := 111) (cks_at k_M_spreads 59 rfl rfl) mk_M_improves lk_M_467 rc_78 (Nat.le_of_ble_eq_true rfl) (c_M_improves (d + 0) v7 r13 r15 v3 v4 M14) (k_I fun r17 M16 => ?_)
      refine tq_istore (E := E_M_spreads d) (pc := 114) (cks_at k_M_spreads 60 rfl rfl) (show 9 < 10 by decide) rfl ?_
      refine tq_iload 6 (E := E_M_spreads d) (pc := 116) (cks_at k_M_spreads 61 rfl rfl) rfl ?_
      refine tq_if_ne (E := E_M_spreads d) (pc := 118) (tgt := 131) (cks_at k_M_spreads 62 rfl rfl) (by decide) ?_ ?_
      · refine tq_iconst (E := E_M_spreads d) (pc := 131) (cks_at k_M_spreads 67 rfl rfl) ?_
        refine tq_goto (tgt := 136) (E := E_M_spreads d) (pc := 132) (cks_at k_M_spreads 68 rfl rfl) (by decide) ?_
        refine tq_istore (E := E_M_spreads d) (pc := 136) (cks_at k_M_spreads 70 rfl rfl) (show 6 < 10 by decide) rfl ?_
        refine tq_iinc 7 (E := E_M_spreads d) (pc := 138) (cks_at k_M_spreads 71 rfl rfl) rfl (show 7 < 10 by decide) rfl ?_
        refine tq_goto (tgt := 47) (E := E_M_spreads d) (pc := 141) (cks_at k_M_spreads 72 rfl rfl) (by decide) ?_
        exact tq_sub [4, 5, 6, 7, 1, 0] rfl (hkH v3 v4 v5 1 (v7 + 1) M16)
      · refine tq_iload 1 (E := E_M_spreads d) (pc := 121) (cks_at k_M_spreads 63 rfl rfl) rfl ?_
        refine tq_if_ne (E := E_M_spreads d) (pc := 123) (tgt := 131) (cks_at k_M_spreads 64 rfl rfl) (by decide) ?_ ?_
        · refine tq_iconst (E := E_M_spreads d) (pc := 131) (cks_at k_M_spreads 67 rfl rfl) ?_
          refine tq_goto (tgt := 136) (E := E_M_spreads d) (pc := 132) (cks_at k_M_spreads 68 rfl rfl) (by decide) ?_
          refine tq_istore (E := E_M_spreads d) (pc := 136) (cks_at k_M_spreads 70 rfl rfl) (show 6 < 10 by decide) rfl ?_
          refine tq_iinc 7 (E := E_M_spreads d) (pc := 138) (cks_at k_M_spreads 71 rfl rfl) rfl (show 7 < 10 by decide) rfl ?_
          refine tq_goto (tgt := 47) (E := E_M_spreads d) (pc := 141) (cks_at k_M_spreads 72 rfl rfl) (by decide) ?_
          exact tq_sub [4, 5, 6, 7, 1, 0] rfl (hkH v3 v4 v5 1 (v7 + 1) M16)
        · refine tq_iload 0 (E := E_M_spreads d) (pc := 126) (cks_at k_M_spreads 65 rfl rfl) rfl ?_
          refine tq_if_eq (E := E_M_spreads d) (pc := 128) (tgt := 135) (cks_at k_M_spreads 66 rfl rfl) (by decide) ?_ ?_
          · refine tq_iconst (E := E_M_spreads d) (pc := 135) (cks_at k_M_spreads 69 rfl rfl) ?_
            refine tq_istore (E := E_M_spreads d) (pc := 136) (cks_at k_M_spreads 70 rfl rfl) (show 6 < 10 by decide) rfl ?_
            refine tq_iinc 7 (E := E_M_spreads d) (pc := 138) (cks_at k_M_spreads 71 rfl rfl) rfl (show 7 < 10 by decide) rfl ?_
            refine tq_goto (tgt := 47) (E := E_M_spreads d) (pc := 141) (cks_at k_M_spreads 72 rfl rfl) (by decide) ?_
            exact tq_sub [4, 5, 6, 7, 1, 0] rfl (hkH v3 v4 v5 0 (v7 + 1) M16)
          · refine tq_iconst (E := E_M_spreads d) (pc := 131) (cks_at k_M_spreads 67 rfl rfl) ?_
            refine tq_goto (tgt := 136) (E := E_M_spreads d) (pc := 132) (cks_at k_M_spreads 68 rfl rfl) (by decide) ?_
            refine tq_istore (E := E_M_spreads d) (pc := 136) (cks_at k_M_spreads 70 rfl rfl) (show 6 < 10 by decide) rfl ?_
            refine tq_iinc 7 (E := E_M_spreads d) (pc := 138) (cks_at k_M_spreads 71 rfl rfl) rfl (show 7 < 10 by decide) rfl ?_
            refine tq_goto (tgt := 47) (E := E_M_spreads d) (pc := 141) (cks_at k_M_spreads 72 rfl rfl) (by decide) ?_
            exact tq_sub [4, 5, 6, 7, 1, 0] rfl (hkH v3 v4 v5 1 (v7 + 1) M16)
    · refine tq_goto (tgt := 138) (E := E_M_spreads d) (pc := 63) (cks_at k_M_spreads 32 rfl rfl) (by decide) ?_
      refine tq_iinc 5 (E := E_M_spreads d) (pc := 138) (cks_at k_M_spreads 71 rfl rfl) rfl (show 7 < 10 by decide) rfl ?_
      refine tq_goto (tgt := 47) (E := E_M_spreads d) (pc := 141) (cks_at k_M_spreads 72 rfl rfl) (by decide) ?_
      exact tq_sub [1, 2, 3, 4, 5, 0] rfl (hkH v3 v4 v5 v6 (v7 + 1) M4)
def f_M_spreads_L47 (kx144 : Int → Int → Int → Int → Mm → Option (Mm)) : Nat → Int × Int × Int × Int × Int × Mm → Option (Mm) := lp fun kH s => f_M_spreads_B47 (fun v3 v4 v5 v6 v7 M => kH (v3, v4, v5, v6, v7, M)) kx144 s.1 s.2.1 s.2.2.1 s.2.2.2.1 s.2.2.2.2.1 s.2.2.2.2.2
set_option maxRecDepth 20000 in
set_option maxHeartbeats 4000000 in
theorem w_M_spreads_L47 (d : Nat) (kx144 : Int → Int → Int → Int → Mm → Option (Mm)) (hkx144 : ∀ (v3 v4 v5 v6 : Int) (M : Mm), T (E_M_spreads d) injV 144 [(0, .ref 78), (3, vI v3), (4, vI v4), (5, vI v5), (6, vI v6)] [] M (kx144 v3 v4 v5 v6 M)) (n : Nat) (s : Int × Int × Int × Int × Int × Mm) : T (E_M_spreads d) injV 47 [(0, .ref 78), (3, vI s.1), (4, vI s.2.1), (5, vI s.2.2.1), (6, vI s.2.2.2.1), (7, vI s.2.2.2.2.1)] [] s.2.2.2.2.2 (f_M_spreads_L47 kx144 n s) :=
  tq_lp (fun s => [(0, .ref 78), (3, vI s.1), (4, vI s.2.1), (5, vI s.2.2.1), (6, vI s.2.2.2.1), (7, vI s.2.2.2.2.1)]) (fun s => s.2.2.2.2.2) (fun kH hH s => w_M_spreads_B47 d (fun v3 v4 v5 v6 v7 M => kH (v3, v4, v5, v6, v7, M)) kx144 (fun v3 v4 v5 v6 v7 M => hH (v3, v4, v5, v6, v7, M)) hkx144 s.1 s.2.1 s.2.2.1 s.2.2.2.1 s.2.2.2.2.1 s.2.2.2.2.2) n s
def f_M_spreads_B36 (kH : Int → Int → Int → Int → Mm → Option (Mm)) (v3 v4 v5 v6 : Int) (M : Mm) : Option (Mm) :=
  if i32 v6 = 0 then
    some M
  else
    f_M_spreads_L47 (fun v3 v4 v5 v6 M18 => kH v3 v4 v5 v6 M18) FU (v3, v4, v5, 0, 0, M)
set_option maxRecDepth 20000 in
set_option maxHeartbeats 4000000 in
theorem w_M_spreads_B36 (d : Nat) (kH : Int → Int → Int → Int → Mm → Option (Mm)) (hkH : ∀ (v3 v4 v5 v6 : Int) (M : Mm), T (E_M_spreads d) injV 36 [(0, .ref 78), (3, vI v3), (4, vI v4), (5, vI v5), (6, vI v6)] [] M (kH v3 v4 v5 v6 M)) (v3 v4 v5 v6 : Int) (M : Mm) : T (E_M_spreads d) injV 36 [(0, .ref 78), (3, vI v3), (4, vI v4), (5, vI v5), (6, vI v6)] [] M (f_M_spreads_B36 kH v3 v4 v5 v6 M) := by
  unfold f_M_spreads_B36
  refine tq_iload 4 (E := E_M_spreads d) (pc := 36) (cks_at k_M_spreads 19 rfl rfl) rfl ?_
  refine tq_if_eq (E := E_M_spreads d) (pc := 38) (tgt := 147) (cks_at k_M_spreads 20 rfl rfl) (by decide) ?_ ?_
  · exact tq_vret (E := E_M_spreads d) (pc := 147) (cks_at k_M_spreads 74 rfl rfl) rfl
  · refine tq_iconst (E := E_M_spreads d) (pc := 41) (cks_at k_M_spreads 21 rfl rfl) ?_
    refine tq_istore (E := E_M_spreads d) (pc := 42) (cks_at k_M_spreads 22 rfl rfl) (show 6 < 10 by decide) rfl ?_
    refine tq_iconst (E := E_M_spreads d) (pc := 44) (cks_at k_M_spreads 23 rfl rfl) ?_
    refine tq_istore (E := E_M_spreads d) (pc := 45) (cks_at k_M_spreads 24 rfl rfl) (show 7 < 10 by decide) rfl ?_
    exact tq_sub [2, 3, 4, 5, 1, 0] rfl (w_M_spreads_L47 d _ (fun v3 v4 v5 v6 M18 => by
        refine tq_goto (tgt := 36) (E := E_M_spreads d) (pc := 144) (cks_at k_M_spreads 73 rfl rfl) (by decide) ?_
        exact tq_sub [0, 1, 2, 3, 4] rfl (hkH v3 v4 v5 v6 M18)) FU (v3, v4, v5, 0, 0, M))
def f_M_spreads_L36 : Nat → Int × Int × Int × Int × Mm → Option (Mm) := lp fun kH s => f_M_spreads_B36 (fun v3 v4 v5 v6 M => kH (v3, v4, v5, v6, M)) s.1 s.2.1 s.2.2.1 s.2.2.2.1 s.2.2.2.2
set_option maxRecDepth 20000 in
set_option maxHeartbeats 4000000 in
theorem w_M_spreads_L36 (d : Nat) (n : Nat) (s : Int × Int × Int × Int × Mm) : T (E_M_spreads d) injV 36 [(0, .ref 78), (3, vI s.1), (4, vI s.2.1), (5, vI s.2.2.1), (6, vI s.2.2.2.1)] [] s.2.2.2.2 (f_M_spreads_L36 n s) :=
  tq_lp (fun s => [(0, .ref 78), (3, vI s.1), (4, vI s.2.1), (5, vI s.2.2.1), (6, vI s.2.2.2.1)]) (fun s => s.2.2.2.2) (fun kH hH s => w_M_spreads_B36 d (fun v3 v4 v5 v6 M => kH (v3, v4, v5, v6, M)) (fun v3 v4 v5 v6 M => hH (v3, v4, v5, v6, M)) s.1 s.2.1 s.2.2.1 s.2.2.2.1 s.2.2.2.2) n s
def f_M_spreads (v1 : Int) (v2 : Int) (v3 : Int) (v4 : Int) (v5 : Int) (M : Mm) : Option (Mm) :=
  f_M_spreads_L3 (fun v1 v2 v3 v4 v5 M2 => gd (0 ≤ i32 v1 ∧ i32 v1 < ((9 : Nat) : Int)) <|
      bd (up M2 110 (i32 v1).toNat v2) (fun M3 =>
      f_M_spreads_L36 FU (v3, v4, v5, 1, M3))) FU (v1, v2, v3, v4, v5, 0, M)
set_option maxRecDepth 20000 in
set_option maxHeartbeats 4000000 in
theorem c_M_spreads (d : Nat) (v1 : Int) (v2 : Int) (v3 : Int) (v4 : Int) (v5 : Int) (M : Mm) (Q : Option Value → Mm → Prop) (h : sat injV (f_M_spreads v1 v2 v3 v4 v5 M) Q) : Ct (d + 11) y_M_spreads [.ref 78, vI v1, vI v2, vI v3, vI v4, vI v5] M Q := by
  refine ct_in (d := d + 10) mk_M_spreads (Nat.le_of_ble_eq_true rfl) (?_ : T (E_M_spreads d) injV 0 [(0, .ref 78), (1, vI v1), (2, vI v2), (3, vI v3), (4, vI v4), (5, vI v5)] [] M (f_M_spreads v1 v2 v3 v4 v5 M)) h
  unfold f_M_spreads
  refine tq_iconst (E := E_M_spreads d) (pc := 0) (cks_at k_M_spreads 0 rfl rfl) ?_
  refine tq_istore (E := E_M_spreads d) (pc := 1) (cks_at k_M_spreads 1 rfl rfl) (show 6 < 10 by decide) rfl ?_
  exact tq_sub [1, 2, 3, 4, 5, 6, 0] rfl (w_M_spreads_L3 d _ (fun v1 v2 v3 v4 v5 M2 => by
      refine tq_aload_n 0 (E := E_M_spreads d) (pc := 26) (cks_at k_M_spreads 12 rfl rfl) rfl ?_
      refine tq_getR (j := 110) (E := E_M_spreads d) (pc := 27) (cks_at k_M_spreads 13 rfl rfl) fo_M_109 so_78 rfl sp_78_48 ?_
      refine tq_iload_n 1 (E := E_M_spreads d) (pc := 30) (cks_at k_M_spreads 14 rfl rfl) rfl ?_
      refine tq_iload_n 2 (E := E_M_spreads d) (pc := 31) (cks_at k_M_spreads 15 rfl rfl) rfl ?_
      refine tq_iast (E := E_M_spreads d) (pc := 32) (cks_at k_M_spreads 16 rfl rfl) sa_110 sn_110 (fun M3 => ?_)
      refine tq_iconst (E := E_M_spreads d) (pc := 33) (cks_at k_M_spreads 17 rfl rfl) ?_
      refine tq_istore (E := E_M_spreads d) (pc := 34) (cks_at k_M_spreads 18 rfl rfl) (show 6 < 10 by decide) rfl ?_
      exact tq_sub [1, 4, 5, 6, 0] rfl (w_M_spreads_L36 d FU (v3, v4, v5, 1, M3))) FU (v1, v2, v3, v4, v5, 0, M))
abbrev E_M_spreadsFor (d : Nat) : Ev := (Ct (d + 11), "BreathTownModel", prog_14_method_67_code, 3, False, 0, (fun _ => 0), (Option.none : Option Jvm.ClassFile.FieldType))
def f_M_spreadsFor (v1 : Int) (v2 : Int) (M : Mm) : Option (Mm) :=
  bI (f_M_placeOf v1 M) (fun r2 M1 =>
  bI (f_M_setsOut v1 M1) (fun r4 M3 =>
  bI (f_M_broadOf v1 M3) (fun r6 M5 =>
  bI (f_M_setsOut v1 M5) (fun r8 M7 =>
  bV (f_M_spreads r2 r4 r6 (r8 + 400) v2 M7) (fun M9 =>
  some M9)))))
set_option maxRecDepth 20000 in
set_option maxHeartbeats 4000000 in
theorem c_M_spreadsFor (d : Nat) (v1 : Int) (v2 : Int) (M : Mm) (Q : Option Value → Mm → Prop) (h : sat injV (f_M_spreadsFor v1 v2 M) Q) : Ct (d + 12) y_M_spreadsFor [.ref 78, vI v1, vI v2] M Q := by
  refine ct_in (d := d + 11) mk_M_spreadsFor (Nat.le_of_ble_eq_true rfl) (?_ : T (E_M_spreadsFor d) injV 0 [(0, .ref 78), (1, vI v1), (2, vI v2)] [] M (f_M_spreadsFor v1 v2 M)) h
  unfold f_M_spreadsFor
  refine tq_aload_n 0 (E := E_M_spreadsFor d) (pc := 0) (cks_at k_M_spreadsFor 0 rfl rfl) rfl ?_
  refine tq_aload_n 0 (E := E_M_spreadsFor d) (pc := 1) (cks_at k_M_spreadsFor 1 rfl rfl) rfl ?_
  refine tq_iload_n 1 (E := E_M_spreadsFor d) (pc := 2) (cks_at k_M_spreadsFor 2 rfl rfl) rfl ?_
  refine tq_V1 (E := E_M_spreadsFor d) (pc := 3) (cks_at k_M_spreadsFor 3 rfl rfl) mk_M_placeOf lk_M_471 rc_78 (Nat.le_of_ble_eq_true rfl) (c_M_placeOf (d + 10) v1 M) (k_I fun r2 M1 => ?_)
  refine tq_aload_n 0 (E := E_M_spreadsFor d) (pc := 6) (cks_at k_M_spreadsFor 4 rfl rfl) rfl ?_
  refine tq_iload_n 1 (E := E_M_spreadsFor d) (pc := 7) (cks_at k_M_spreadsFor 5 rfl rfl) rfl ?_
  refine tq_V1 (E := E_M_spreadsFor d) (pc := 8) (cks_at k_M_spreadsFor 6 rfl rfl) mk_M_setsOut lk_M_474 rc_78 (Nat.le_of_ble_eq_true rfl) (c_M_setsOut (d + 10) v1 M1) (k_I fun r4 M3 => ?_)
  refine tq_aload_n 0 (E := E_M_spreadsFor d) (pc := 11) (cks_at k_M_spreadsFor 7 rfl rfl) rfl ?_
  refine tq_iload_n 1 (E := E_M_spreadsFor d) (pc := 12) (cks_at k_M_spreadsFor 8 rfl rfl) rfl ?_
  refine tq_V1 (E := E_M_spreadsFor d) (pc := 13) (cks_at k_M_spreadsFor 9 rfl rfl) mk_M_broadOf lk_M_477 rc_78 (Nat.le_of_ble_eq_true rfl) (c_M_broadOf (d + 10) v1 M3) (k_I fun r6 M5 => ?_)
  refine tq_aload_n 0 (E := E_M_spreadsFor d) (pc := 16) (cks_at k_M_spreadsFor 10 rfl rfl) rfl ?_
  refine tq_iload_n 1 (E := E_M_spreadsFor d) (pc := 17) (cks_at k_M_spreadsFor 11 rfl rfl) rfl ?_
  refine tq_V1 (E := E_M_spreadsFor d) (pc := 18) (cks_at k_M_spreadsFor 12 rfl rfl) mk_M_setsOut lk_M_474 rc_78 (Nat.le_of_ble_eq_true rfl) (c_M_setsOut (d + 10) v1 M5) (k_I fun r8 M7 => ?_)
  refine tq_sipush (E := E_M_spreadsFor d) (pc := 21) (cks_at k_M_spreadsFor 13 rfl rfl) (by decide) (by decide) ?_
  refine tq_iadd (E := E_M_spreadsFor d) (pc := 24) (cks_at k_M_spreadsFor 14 rfl rfl) ?_
  refine tq_iload_n 2 (E := E_M_spreadsFor d) (pc := 25) (cks_at k_M_spreadsFor 15 rfl rfl) rfl ?_
  refine tq_V5 (E := E_M_spreadsFor d) (pc := 26) (cks_at k_M_spreadsFor 16 rfl rfl) mk_M_spreads lk_M_480 rc_78 (Nat.le_of_ble_eq_true rfl) (c_M_spreads (d + 0) r2 r4 r6 (r8 + 400) v2 M7) (k_V fun M9 => ?_)
  exact tq_vret (E := E_M_spreadsFor d) (pc := 29) (cks_at k_M_spreadsFor 17 rfl rfl) rfl
abbrev E_M_other (d : Nat) : Ev := (Ct (d + 1), "BreathTownModel", prog_14_method_68_code, 3, False, 0, (fun _ => 0), (Option.some Jvm.ClassFile.FieldType.int))
def f_M_other (v1 : Int) (v2 : Int) (M : Mm) : Option (Int × Mm) :=
  bI (f_M_endOf v1 0 M) (fun r2 M1 =>
  if ¬ i32 r2 = i32 v2 then
    bI (f_M_endOf v1 1 M1) (fun r4 M3 =>
    if ¬ i32 r4 = i32 v2 then
      some ((-1), M3)
    else
      bI (f_M_endOf v1 0 M3) (fun r6 M5 =>
      some (r6, M5)))
  else
    bI (f_M_endOf v1 1 M1) (fun r8 M7 =>
    some (r8, M7)))
set_option maxRecDepth 20000 in
set_option maxHeartbeats 4000000 in
theorem c_M_other (d : Nat) (v1 : Int) (v2 : Int) (M : Mm) (Q : Option Value → Mm → Prop) (h : sat injI (f_M_other v1 v2 M) Q) : Ct (d + 2) y_M_other [.ref 78, vI v1, vI v2] M Q := by
  refine ct_in (d := d + 1) mk_M_other (Nat.le_of_ble_eq_true rfl) (?_ : T (E_M_other d) injI 0 [(0, .ref 78), (1, vI v1), (2, vI v2)] [] M (f_M_other v1 v2 M)) h
  unfold f_M_other
  refine tq_aload_n 0 (E := E_M_other d) (pc := 0) (cks_at k_M_other 0 rfl rfl) rfl ?_
  refine tq_iload_n 1 (E := E_M_other d) (pc := 1) (cks_at k_M_other 1 rfl rfl) rfl ?_
  refine tq_iconst (E := E_M_other d) (pc := 2) (cks_at k_M_other 2 rfl rfl) ?_
  refine tq_V2 (E := E_M_other d) (pc := 3) (cks_at k_M_other 3 rfl rfl) mk_M_endOf lk_M_464 rc_78 (Nat.le_of_ble_eq_true rfl) (c_M_endOf (d + 0) v1 0 M) (k_I fun r2 M1 => ?_)
  refine tq_iload_n 2 (E := E_M_other d) (pc := 6) (cks_at k_M_other 4 rfl rfl) rfl ?_
  refine tq_icmp_ne (E := E_M_other d) (pc := 7) (tgt := 19) (cks_at k_M_other 5 rfl rfl) (by decide) ?_ ?_
  · refine tq_aload_n 0 (E := E_M_other d) (pc := 19) (cks_at k_M_other 11 rfl rfl) rfl ?_
    refine tq_iload_n 1 (E := E_M_other d) (pc := 20) (cks_at k_M_other 12 rfl rfl) rfl ?_
    refine tq_iconst (E := E_M_other d) (pc := 21) (cks_at k_M_other 13 rfl rfl) ?_
    refine tq_V2 (E := E_M_other d) (pc := 22) (cks_at k_M_other 14 rfl rfl) mk_M_endOf lk_M_464 rc_78 (Nat.le_of_ble_eq_true rfl) (c_M_endOf (d + 0) v1 1 M1) (k_I fun r4 M3 => ?_)
    refine tq_iload_n 2 (E := E_M_other d) (pc := 25) (cks_at k_M_other 15 rfl rfl) rfl ?_
    refine tq_icmp_ne (E := E_M_other d) (pc := 26) (tgt := 38) (cks_at k_M_other 16 rfl rfl) (by decide) ?_ ?_
    · refine tq_iconst (E := E_M_other d) (pc := 38) (cks_at k_M_other 22 rfl rfl) ?_
      exact tq_iret (E := E_M_other d) (pc := 39) (cks_at k_M_other 23 rfl rfl) rfl
    · refine tq_aload_n 0 (E := E_M_other d) (pc := 29) (cks_at k_M_other 17 rfl rfl) rfl ?_
      refine tq_iload_n 1 (E := E_M_other d) (pc := 30) (cks_at k_M_other 18 rfl rfl) rfl ?_
      refine tq_iconst (E := E_M_other d) (pc := 31) (cks_at k_M_other 19 rfl rfl) ?_
      refine tq_V2 (E := E_M_other d) (pc := 32) (cks_at k_M_other 20 rfl rfl) mk_M_endOf lk_M_464 rc_78 (Nat.le_of_ble_eq_true rfl) (c_M_endOf (d + 0) v1 0 M3) (k_I fun r6 M5 => ?_)
      refine tq_goto (tgt := 39) (E := E_M_other d) (pc := 35) (cks_at k_M_other 21 rfl rfl) (by decide) ?_
      exact tq_iret (E := E_M_other d) (pc := 39) (cks_at k_M_other 23 rfl rfl) rfl
  · refine tq_aload_n 0 (E := E_M_other d) (pc := 10) (cks_at k_M_other 6 rfl rfl) rfl ?_
    refine tq_iload_n 1 (E := E_M_other d) (pc := 11) (cks_at k_M_other 7 rfl rfl) rfl ?_
    refine tq_iconst (E := E_M_other d) (pc := 12) (cks_at k_M_other 8 rfl rfl) ?_
    refine tq_V2 (E := E_M_other d) (pc := 13) (cks_at k_M_other 9 rfl rfl) mk_M_endOf lk_M_464 rc_78 (Nat.le_of_ble_eq_true rfl) (c_M_endOf (d + 0) v1 1 M1) (k_I fun r8 M7 => ?_)
    refine tq_goto (tgt := 39) (E := E_M_other d) (pc := 16) (cks_at k_M_other 10 rfl rfl) (by decide) ?_
    exact tq_iret (E := E_M_other d) (pc := 39) (cks_at k_M_other 23 rfl rfl) rfl
abbrev E_M_stepsBack (d : Nat) : Ev := (Ct (d + 9), "BreathTownModel", prog_14_method_71_code, 6, False, 0, (fun _ => 0), (Option.some Jvm.ClassFile.FieldType.int))
def f_M_stepsBack_B2 (kH : Int → Int → Int → Mm → Option (Int × Mm)) (kx93 : Int → Int → Int → Mm → Option (Int × Mm)) (v1 v2 v3 : Int) (M : Mm) : Option (Int × Mm) :=
  bI (f_M_streetMany M) (fun r2 M1 =>
  if i32 r2 ≤ i32 v3 then
    bI (f_M_placeOf v1 M1) (fun r4 M3 =>
    some (r4, M3))
  else
    bI (f_M_other v3 v2 M1) (fun r6 M5 =>
    if i32 r6 = i32 ((-1)) then
      kH v1 v2 (v3 + 1) M5
    else
      gd (0 ≤ i32 r6 ∧ i32 r6 < ((9 : Nat) : Int)) <|
      if ¬ i32 (M5 110 (i32 r6).toNat) = i32 1000000 then
        bI (f_M_broadOf v1 M5) (fun r8 M7 =>
        gd (0 ≤ i32 r6 ∧ i32 r6 < ((9 : Nat) : Int)) <|
        gd (0 ≤ i32 v2 ∧ i32 v2 < ((9 : Nat) : Int)) <|
        bI (f_M_taken v3 r8 (M7 110 (i32 r6).toNat) (M7 110 (i32 v2).toNat) M7) (fun r10 M9 =>
        if i32 r10 = i32 1000000 then
          kH v1 v2 (v3 + 1) M9
        else
          bI (f_M_takesOf v3 M9) (fun r12 M11 =>
          gd (0 ≤ i32 v2 ∧ i32 v2 < ((9 : Nat) : Int)) <|
          if i32 (r10 + r12) = i32 (M11 110 (i32 v2).toNat) then
            kx93 v3 r6 r10 M11
          else
            kH v1 v2 (v3 + 1) M11)))
      else
        kH v1 v2 (v3 + 1) M5))
set_option maxRecDepth 20000 in
set_option maxHeartbeats 4000000 in
theorem w_M_stepsBack_B2 (d : Nat) (kH : Int → Int → Int → Mm → Option (Int × Mm)) (kx93 : Int → Int → Int → Mm → Option (Int × Mm)) (hkH : ∀ (v1 v2 v3 : Int) (M : Mm), T (E_M_stepsBack d) injI 2 [(0, .ref 78), (1, vI v1), (2, vI v2), (3, vI v3)] [] M (kH v1 v2 v3 M)) (hkx93 : ∀ (v3 v4 v5 : Int) (M : Mm), T (E_M_stepsBack d) injI 93 [(0, .ref 78), (3, vI v3), (4, vI v4), (5, vI v5)] [] M (kx93 v3 v4 v5 M)) (v1 v2 v3 : Int) (M : Mm) : T (E_M_stepsBack d) injI 2 [(0, .ref 78), (1, vI v1), (2, vI v2), (3, vI v3)] [] M (f_M_stepsBack_B2 kH kx93 v1 v2 v3 M) := by
  unfold f_M_stepsBack_B2
  refine tq_iload_n 3 (E := E_M_stepsBack d) (pc := 2) (cks_at k_M_stepsBack 2 rfl rfl) rfl ?_
  refine tq_aload_n 0 (E := E_M_stepsBack d) (pc := 3) (cks_at k_M_stepsBack 3 rfl rfl) rfl ?_
  refine tq_V0 (E := E_M_stepsBack d) (pc := 4) (cks_at k_M_stepsBack 4 rfl rfl) mk_M_streetMany lk_M_412 rc_78 (Nat.le_of_ble_eq_true rfl) (c_M_streetMany (d + 8) M) (k_I fun r2 M1 => ?_)
  refine tq_icmp_ge (E := E_M_stepsBack d) (pc := 7) (tgt := 133) (cks_at k_M_stepsBack 5 rfl rfl) (by decide) ?_ ?_
  · refine tq_aload_n 0 (E := E_M_stepsBack d) (pc := 133) (cks_at k_M_stepsBack 72 rfl rfl) rfl ?_
    refine tq_iload_n 1 (E := E_M_stepsBack d) (pc := 134) (cks_at k_M_stepsBack 73 rfl rfl) rfl ?_
    refine tq_V1 (E := E_M_stepsBack d) (pc := 135) (cks_at k_M_stepsBack 74 rfl rfl) mk_M_placeOf lk_M_471 rc_78 (Nat.le_of_ble_eq_true rfl) (c_M_placeOf (d + 8) v1 M1) (k_I fun r4 M3 => ?_)
    exact tq_iret (E := E_M_stepsBack d) (pc := 138) (cks_at k_M_stepsBack 75 rfl rfl) rfl
  · refine tq_aload_n 0 (E := E_M_stepsBack d) (pc := 10) (cks_at k_M_stepsBack 6 rfl rfl) rfl ?_
    refine tq_iload_n 3 (E := E_M_stepsBack d) (pc := 11) (cks_at k_M_stepsBack 7 rfl rfl) rfl ?_
    refine tq_iload_n 2 (E := E_M_stepsBack d) (pc := 12) (cks_at k_M_stepsBack 8 rfl rfl) rfl ?_
    refine tq_V2 (E := E_M_stepsBack d) (pc := 13) (cks_at k_M_stepsBack 9 rfl rfl) mk_M_other lk_M_499 rc_78 (Nat.le_of_ble_eq_true rfl) (c_M_other (d + 7) v3 v2 M1) (k_I fun r6 M5 => ?_)
    refine tq_istore (E := E_M_stepsBack d) (pc := 16) (cks_at k_M_stepsBack 10 rfl rfl) (show 4 < 6 by decide) rfl ?_
    refine tq_iload 0 (E := E_M_stepsBack d) (pc := 18) (cks_at k_M_stepsBack 11 rfl rfl) rfl ?_
    refine tq_iconst (E := E_M_stepsBack d) (pc := 20) (cks_at k_M_stepsBack 12 rfl rfl) ?_
    refine tq_icmp_eq (E := E_M_stepsBack d) (pc := 21) (tgt := 127) (cks_at k_M_stepsBack 13 rfl rfl) (by decide) ?_ ?_
    · refine tq_iinc 4 (E := E_M_stepsBack d) (pc := 127) (cks_at k_M_stepsBack 70 rfl rfl) rfl (show 3 < 6 by decide) rfl ?_
      refine tq_goto (tgt := 2) (E := E_M_stepsBack d) (pc := 130) (cks_at k_M_stepsBack 71 rfl rfl) (by decide) ?_
      exact tq_sub [2, 3, 4, 0] rfl (hkH v1 v2 (v3 + 1) M5)
    · refine tq_aload_n 1 (E := E_M_stepsBack d) (pc := 24) (cks_at k_M_stepsBack 14 rfl rfl) rfl ?_
      refine tq_getR (j := 110) (E := E_M_stepsBack d) (pc := 25) (cks_at k_M_stepsBack 15 rfl rfl) fo_M_109 so_78 rfl sp_78_48 ?_
      refine tq_iload 0 (E := E_M_stepsBack d) (pc := 28) (cks_at k_M_stepsBack 16 rfl rfl) rfl ?_
      refine tq_iald (E := E_M_stepsBack d) (pc := 30) (cks_at k_M_stepsBack 17 rfl rfl) sa_110 sn_110 ?_
      refine tq_ldcw (z := 1000000) (E := E_M_stepsBack d) (pc := 31) (cks_at k_M_stepsBack 18 rfl rfl) cst_M_459 ?_
      refine tq_icmp_ne (E := E_M_stepsBack d) (pc := 34) (tgt := 40) (cks_at k_M_stepsBack 19 rfl rfl) (by decide) ?_ ?_
      · refine tq_aload_n 1 (E := E_M_stepsBack d) (pc := 40) (cks_at k_M_stepsBack 21 rfl rfl) rfl ?_
        refine tq_iload_n 4 (E := E_M_stepsBack d) (pc := 41) (cks_at k_M_stepsBack 22 rfl rfl) rfl ?_
        refine tq_aload_n 1 (E := E_M_stepsBack d) (pc := 42) (cks_at k_M_stepsBack 23 rfl rfl) rfl ?_
        refine tq_iload_n 2 (E := E_M_stepsBack d) (pc := 43) (cks_at k_M_stepsBack 24 rfl rfl) rfl ?_
        refine tq_V1 (E := E_M_stepsBack d) (pc := 44) (cks_at k_M_stepsBack 25 rfl rfl) mk_M_broadOf lk_M_477 rc_78 (Nat.le_of_ble_eq_true rfl) (c_M_broadOf (d + 8) v1 M5) (k_I fun r8 M7 => ?_)
        refine tq_aload_n 1 (E := E_M_stepsBack d) (pc := 47) (cks_at k_M_stepsBack 26 rfl rfl) rfl ?_
        refine tq_getR (j := 110) (E := E_M_stepsBack d) (pc := 48) (cks_at k_M_stepsBack 27 rfl rfl) fo_M_109 so_78 rfl sp_78_48 ?_
        refine tq_iload 0 (E := E_M_stepsBack d) (pc := 51) (cks_at k_M_stepsBack 28 rfl rfl) rfl ?_
        refine tq_iald (E := E_M_stepsBack d) (pc := 53) (cks_at k_M_stepsBack 29 rfl rfl) sa_110 sn_110 ?_
        refine tq_aload_n 1 (E := E_M_stepsBack d) (pc := 54) (cks_at k_M_stepsBack 30 rfl rfl) rfl ?_
        refine tq_getR (j := 110) (E := E_M_stepsBack d) (pc := 55) (cks_at k_M_stepsBack 31 rfl rfl) fo_M_109 so_78 rfl sp_78_48 ?_
        refine tq_iload_n 3 (E := E_M_stepsBack d) (pc := 58) (cks_at k_M_stepsBack 32 rfl rfl) rfl ?_
        refine tq_iald (E := E_M_stepsBack d) (pc := 59) (cks_at k_M_stepsBack 33 rfl rfl) sa_110 sn_110 ?_
        refine tq_V4 (E := E_M_stepsBack d) (pc := 60) (cks_at k_M_stepsBack 34 rfl rfl) mk_M_taken lk_M_460 rc_78 (Nat.le_of_ble_eq_true rfl) (c_M_taken (d + 0) v3 r8 (M7 110 (i32 r6).toNat) (M7 110 (i32 v2).toNat) M7) (k_I fun r10 M9 => ?_)
        refine tq_istore (E := E_M_stepsBack d) (pc := 63) (cks_at k_M_stepsBack 35 rfl rfl) (show 5 < 6 by decide) rfl ?_
        refine tq_iload 0 (E := E_M_stepsBack d) (pc := 65) (cks_at k_M_stepsBack 36 rfl rfl) rfl ?_
        refine tq_ldcw (z := 1000000) (E := E_M_stepsBack d) (pc := 67) (cks_at k_M_stepsBack 37 rfl rfl) cst_M_459 ?_
        refine tq_icmp_eq (E := E_M_stepsBack d) (pc := 70) (tgt := 127) (cks_at k_M_stepsBack 38 rfl rfl) (by decide) ?_ ?_
        · refine tq_iinc 5 (E := E_M_stepsBack d) (pc := 127) (cks_at k_M_stepsBack 70 rfl rfl) rfl (show 3 < 6 by decide) rfl ?_
          refine tq_goto (tgt := 2) (E := E_M_stepsBack d) (pc := 130) (cks_at k_M_stepsBack 71 rfl rfl) (by decide) ?_
          exact tq_sub [3, 4, 5, 0] rfl (hkH v1 v2 (v3 + 1) M9)
        · refine tq_iload 0 (E := E_M_stepsBack d) (pc := 73) (cks_at k_M_stepsBack 39 rfl rfl) rfl ?_
          refine tq_aload_n 2 (E := E_M_stepsBack d) (pc := 75) (cks_at k_M_stepsBack 40 rfl rfl) rfl ?_
          refine tq_iload_n 5 (E := E_M_stepsBack d) (pc := 76) (cks_at k_M_stepsBack 41 rfl rfl) rfl ?_
          refine tq_V1 (E := E_M_stepsBack d) (pc := 77) (cks_at k_M_stepsBack 42 rfl rfl) mk_M_takesOf lk_M_440 rc_78 (Nat.le_of_ble_eq_true rfl) (c_M_takesOf (d + 8) v3 M9) (k_I fun r12 M11 => ?_)
          refine tq_iadd (E := E_M_stepsBack d) (pc := 80) (cks_at k_M_stepsBack 43 rfl rfl) ?_
          refine tq_aload_n 2 (E := E_M_stepsBack d) (pc := 81) (cks_at k_M_stepsBack 44 rfl rfl) rfl ?_
          refine tq_getR (j := 110) (E := E_M_stepsBack d) (pc := 82) (cks_at k_M_stepsBack 45 rfl rfl) fo_M_109 so_78 rfl sp_78_48 ?_
          refine tq_iload_n 4 (E := E_M_stepsBack d) (pc := 85) (cks_at k_M_stepsBack 46 rfl rfl) rfl ?_
          refine tq_iald (E := E_M_stepsBack d) (pc := 86) (cks_at k_M_stepsBack 47 rfl rfl) sa_110 sn_110 ?_
          refine tq_icmp_eq (E := E_M_stepsBack d) (pc := 87) (tgt := 93) (cks_at k_M_stepsBack 48 rfl rfl) (by decide) ?_ ?_
          · exact tq_sub [2, 5, 1, 0] rfl (hkx93 v3 r6 r10 M11)
          · refine tq_goto (tgt := 127) (E := E_M_stepsBack d) (pc := 90) (cks_at k_M_stepsBack 49 rfl rfl) (by decide) ?_
            refine tq_iinc 5 (E := E_M_stepsBack d) (pc := 127) (cks_at k_M_stepsBack 70 rfl rfl) rfl (show 3 < 6 by decide) rfl ?_
            refine tq_goto (tgt := 2) (E := E_M_stepsBack d) (pc := 130) (cks_at k_M_stepsBack 71 rfl rfl) (by decide) ?_
            exact tq_sub [3, 4, 5, 0] rfl (hkH v1 v2 (v3 + 1) M11)
      · refine tq_goto (tgt := 127) (E := E_M_stepsBack d) (pc := 37) (cks_at k_M_stepsBack 20 rfl rfl) (by decide) ?_
        refine tq_iinc 4 (E := E_M_stepsBack d) (pc := 127) (cks_at k_M_stepsBack 70 rfl rfl) rfl (show 3 < 6 by decide) rfl ?_
        refine tq_goto (tgt := 2) (E := E_M_stepsBack d) (pc := 130) (cks_at k_M_stepsBack 71 rfl rfl) (by decide) ?_
        exact tq_sub [2, 3, 4, 0] rfl (hkH v1 v2 (v3 + 1) M5)
def f_M_stepsBack_L2 (kx93 : Int → Int → Int → Mm → Option (Int × Mm)) : Nat → Int × Int × Int × Mm → Option (Int × Mm) := lp fun kH s => f_M_stepsBack_B2 (fun v1 v2 v3 M => kH (v1, v2, v3, M)) kx93 s.1 s.2.1 s.2.2.1 s.2.2.2
set_option maxRecDepth 20000 in
set_option maxHeartbeats 4000000 in
theorem w_M_stepsBack_L2 (d : Nat) (kx93 : Int → Int → Int → Mm → Option (Int × Mm)) (hkx93 : ∀ (v3 v4 v5 : Int) (M : Mm), T (E_M_stepsBack d) injI 93 [(0, .ref 78), (3, vI v3), (4, vI v4), (5, vI v5)] [] M (kx93 v3 v4 v5 M)) (n : Nat) (s : Int × Int × Int × Mm) : T (E_M_stepsBack d) injI 2 [(0, .ref 78), (1, vI s.1), (2, vI s.2.1), (3, vI s.2.2.1)] [] s.2.2.2 (f_M_stepsBack_L2 kx93 n s) :=
  tq_lp (fun s => [(0, .ref 78), (1, vI s.1), (2, vI s.2.1), (3, vI s.2.2.1)]) (fun s => s.2.2.2) (fun kH hH s => w_M_stepsBack_B2 d (fun v1 v2 v3 M => kH (v1, v2, v3, M)) kx93 (fun v1 v2 v3 M => hH (v1, v2, v3, M)) hkx93 s.1 s.2.1 s.2.2.1 s.2.2.2) n s
def f_M_stepsBack (v1 : Int) (v2 : Int) (M : Mm) : Option (Int × Mm) :=
  f_M_stepsBack_L2 (fun v3 v4 v5 M13 => gd (0 ≤ i32 (M13 78 51) ∧ i32 (M13 78 51) < ((12 : Nat) : Int)) <|
      bd (up M13 111 (i32 (M13 78 51)).toNat v3) (fun M14 =>
      gd (0 ≤ i32 (M14 78 51) ∧ i32 (M14 78 51) < ((12 : Nat) : Int)) <|
      bd (up M14 112 (i32 (M14 78 51)).toNat v5) (fun M15 =>
      bd (up M15 78 51 ((M15 78 51) + 1)) (fun M16 =>
      some (v4, M16))))) FU (v1, v2, 0, M)
set_option maxRecDepth 20000 in
set_option maxHeartbeats 4000000 in
theorem c_M_stepsBack (d : Nat) (v1 : Int) (v2 : Int) (M : Mm) (Q : Option Value → Mm → Prop) (h : sat injI (f_M_stepsBack v1 v2 M) Q) : Ct (d + 10) y_M_stepsBack [.ref 78, vI v1, vI v2] M Q := by
  refine ct_in (d := d + 9) mk_M_stepsBack (Nat.le_of_ble_eq_true rfl) (?_ : T (E_M_stepsBack d) injI 0 [(0, .ref 78), (1, vI v1), (2, vI v2)] [] M (f_M_stepsBack v1 v2 M)) h
  unfold f_M_stepsBack
  refine tq_iconst (E := E_M_stepsBack d) (pc := 0) (cks_at k_M_stepsBack 0 rfl rfl) ?_
  refine tq_istore_n (E := E_M_stepsBack d) (pc := 1) (cks_at k_M_stepsBack 1 rfl rfl) (show 3 < 6 by decide) rfl ?_
  exact tq_sub [1, 2, 3, 0] rfl (w_M_stepsBack_L2 d _ (fun v3 v4 v5 M13 => by
      refine tq_aload_n 0 (E := E_M_stepsBack d) (pc := 93) (cks_at k_M_stepsBack 50 rfl rfl) rfl ?_
      refine tq_getR (j := 111) (E := E_M_stepsBack d) (pc := 94) (cks_at k_M_stepsBack 51 rfl rfl) fo_M_112 so_78 rfl sp_78_49 ?_
      refine tq_aload_n 0 (E := E_M_stepsBack d) (pc := 97) (cks_at k_M_stepsBack 52 rfl rfl) rfl ?_
      refine tq_getI (E := E_M_stepsBack d) (pc := 98) (cks_at k_M_stepsBack 53 rfl rfl) fo_M_490 so_78 rfl (by decide) ?_
      refine tq_iload_n 1 (E := E_M_stepsBack d) (pc := 101) (cks_at k_M_stepsBack 54 rfl rfl) rfl ?_
      refine tq_iast (E := E_M_stepsBack d) (pc := 102) (cks_at k_M_stepsBack 55 rfl rfl) sa_111 sn_111 (fun M14 => ?_)
      refine tq_aload_n 0 (E := E_M_stepsBack d) (pc := 103) (cks_at k_M_stepsBack 56 rfl rfl) rfl ?_
      refine tq_getR (j := 112) (E := E_M_stepsBack d) (pc := 104) (cks_at k_M_stepsBack 57 rfl rfl) fo_M_115 so_78 rfl sp_78_50 ?_
      refine tq_aload_n 0 (E := E_M_stepsBack d) (pc := 107) (cks_at k_M_stepsBack 58 rfl rfl) rfl ?_
      refine tq_getI (E := E_M_stepsBack d) (pc := 108) (cks_at k_M_stepsBack 59 rfl rfl) fo_M_490 so_78 rfl (by decide) ?_
      refine tq_iload 3 (E := E_M_stepsBack d) (pc := 111) (cks_at k_M_stepsBack 60 rfl rfl) rfl ?_
      refine tq_iast (E := E_M_stepsBack d) (pc := 113) (cks_at k_M_stepsBack 61 rfl rfl) sa_112 sn_112 (fun M15 => ?_)
      refine tq_aload_n 0 (E := E_M_stepsBack d) (pc := 114) (cks_at k_M_stepsBack 62 rfl rfl) rfl ?_
      refine tq_dup (E := E_M_stepsBack d) (pc := 115) (cks_at k_M_stepsBack 63 rfl rfl) rfl ?_
      refine tq_getI (E := E_M_stepsBack d) (pc := 116) (cks_at k_M_stepsBack 64 rfl rfl) fo_M_490 so_78 rfl (by decide) ?_
      refine tq_iconst (E := E_M_stepsBack d) (pc := 119) (cks_at k_M_stepsBack 65 rfl rfl) ?_
      refine tq_iadd (E := E_M_stepsBack d) (pc := 120) (cks_at k_M_stepsBack 66 rfl rfl) ?_
      refine tq_putI (E := E_M_stepsBack d) (pc := 121) (cks_at k_M_stepsBack 67 rfl rfl) fo_M_490 so_78 rfl po_12_51 (fun M16 => ?_)
      refine tq_iload 2 (E := E_M_stepsBack d) (pc := 124) (cks_at k_M_stepsBack 68 rfl rfl) rfl ?_
      exact tq_iret (E := E_M_stepsBack d) (pc := 126) (cks_at k_M_stepsBack 69 rfl rfl) rfl) FU (v1, v2, 0, M))
abbrev E_M_findsWay (d : Nat) : Ev := (Ct (d + 12), "BreathTownModel", prog_14_method_70_code, 3, False, 0, (fun _ => 0), (Option.some Jvm.ClassFile.FieldType.boolean))
def f_M_findsWay_B31 (kH : Int → Int → Mm → Option (Int × Mm)) (v1 v2 : Int) (M : Mm) : Option (Int × Mm) :=
  bI (f_M_placeOf v1 M) (fun r6 M5 =>
  if i32 v2 = i32 r6 then
    some (1, M5)
  else
    bI (f_M_stepsBack v1 v2 M5) (fun r8 M7 =>
    kH v1 r8 M7))
set_option maxRecDepth 20000 in
set_option maxHeartbeats 4000000 in
theorem w_M_findsWay_B31 (d : Nat) (kH : Int → Int → Mm → Option (Int × Mm)) (hkH : ∀ (v1 v2 : Int) (M : Mm), T (E_M_findsWay d) injI 31 [(0, .ref 78), (1, vI v1), (2, vI v2)] [] M (kH v1 v2 M)) (v1 v2 : Int) (M : Mm) : T (E_M_findsWay d) injI 31 [(0, .ref 78), (1, vI v1), (2, vI v2)] [] M (f_M_findsWay_B31 kH v1 v2 M) := by
  unfold f_M_findsWay_B31
  refine tq_iload_n 2 (E := E_M_findsWay d) (pc := 31) (cks_at k_M_findsWay 19 rfl rfl) rfl ?_
  refine tq_aload_n 0 (E := E_M_findsWay d) (pc := 32) (cks_at k_M_findsWay 20 rfl rfl) rfl ?_
  refine tq_iload_n 1 (E := E_M_findsWay d) (pc := 33) (cks_at k_M_findsWay 21 rfl rfl) rfl ?_
  refine tq_V1 (E := E_M_findsWay d) (pc := 34) (cks_at k_M_findsWay 22 rfl rfl) mk_M_placeOf lk_M_471 rc_78 (Nat.le_of_ble_eq_true rfl) (c_M_placeOf (d + 11) v1 M) (k_I fun r6 M5 => ?_)
  refine tq_icmp_eq (E := E_M_findsWay d) (pc := 37) (tgt := 50) (cks_at k_M_findsWay 23 rfl rfl) (by decide) ?_ ?_
  · refine tq_iconst (E := E_M_findsWay d) (pc := 50) (cks_at k_M_findsWay 30 rfl rfl) ?_
    exact tq_zretC (E := E_M_findsWay d) (pc := 51) (cks_at k_M_findsWay 31 rfl rfl) rfl (by decide)
  · refine tq_aload_n 0 (E := E_M_findsWay d) (pc := 40) (cks_at k_M_findsWay 24 rfl rfl) rfl ?_
    refine tq_iload_n 1 (E := E_M_findsWay d) (pc := 41) (cks_at k_M_findsWay 25 rfl rfl) rfl ?_
    refine tq_iload_n 2 (E := E_M_findsWay d) (pc := 42) (cks_at k_M_findsWay 26 rfl rfl) rfl ?_
    refine tq_V2 (E := E_M_findsWay d) (pc := 43) (cks_at k_M_findsWay 27 rfl rfl) mk_M_stepsBack lk_M_496 rc_78 (Nat.le_of_ble_eq_true rfl) (c_M_stepsBack (d + 2) v1 v2 M5) (k_I fun r8 M7 => ?_)
    refine tq_istore_n (E := E_M_findsWay d) (pc := 46) (cks_at k_M_findsWay 28 rfl rfl) (show 2 < 3 by decide) rfl ?_
    refine tq_goto (tgt := 31) (E := E_M_findsWay d) (pc := 47) (cks_at k_M_findsWay 29 rfl rfl) (by decide) ?_
    exact tq_sub [1, 2, 0] rfl (hkH v1 r8 M7)
def f_M_findsWay_L31 : Nat → Int × Int × Mm → Option (Int × Mm) := lp fun kH s => f_M_findsWay_B31 (fun v1 v2 M => kH (v1, v2, M)) s.1 s.2.1 s.2.2
set_option maxRecDepth 20000 in
set_option maxHeartbeats 4000000 in
theorem w_M_findsWay_L31 (d : Nat) (n : Nat) (s : Int × Int × Mm) : T (E_M_findsWay d) injI 31 [(0, .ref 78), (1, vI s.1), (2, vI s.2.1)] [] s.2.2 (f_M_findsWay_L31 n s) :=
  tq_lp (fun s => [(0, .ref 78), (1, vI s.1), (2, vI s.2.1)]) (fun s => s.2.2) (fun kH hH s => w_M_findsWay_B31 d (fun v1 v2 M => kH (v1, v2, M)) (fun v1 v2 M => hH (v1, v2, M)) s.1 s.2.1 s.2.2) n s
def f_M_findsWay (v1 : Int) (M : Mm) : Option (Int × Mm) :=
  bV (f_M_spreadsFor v1 ((-1)) M) (fun M1 =>
  bd (up M1 78 51 0) (fun M2 =>
  bI (f_M_goalOf v1 M2) (fun r4 M3 =>
  gd (0 ≤ i32 r4 ∧ i32 r4 < ((9 : Nat) : Int)) <|
  if ¬ i32 (M3 110 (i32 r4).toNat) = i32 1000000 then
    f_M_findsWay_L31 FU (v1, r4, M3)
  else
    some (0, M3))))
set_option maxRecDepth 20000 in
set_option maxHeartbeats 4000000 in
theorem c_M_findsWay (d : Nat) (v1 : Int) (M : Mm) (Q : Option Value → Mm → Prop) (h : sat injI (f_M_findsWay v1 M) Q) : Ct (d + 13) y_M_findsWay [.ref 78, vI v1] M Q := by
  refine ct_in (d := d + 12) mk_M_findsWay (Nat.le_of_ble_eq_true rfl) (?_ : T (E_M_findsWay d) injI 0 [(0, .ref 78), (1, vI v1)] [] M (f_M_findsWay v1 M)) h
  unfold f_M_findsWay
  refine tq_aload_n 0 (E := E_M_findsWay d) (pc := 0) (cks_at k_M_findsWay 0 rfl rfl) rfl ?_
  refine tq_iload_n 1 (E := E_M_findsWay d) (pc := 1) (cks_at k_M_findsWay 1 rfl rfl) rfl ?_
  refine tq_iconst (E := E_M_findsWay d) (pc := 2) (cks_at k_M_findsWay 2 rfl rfl) ?_
  refine tq_V2 (E := E_M_findsWay d) (pc := 3) (cks_at k_M_findsWay 3 rfl rfl) mk_M_spreadsFor lk_M_487 rc_78 (Nat.le_of_ble_eq_true rfl) (c_M_spreadsFor (d + 0) v1 ((-1)) M) (k_V fun M1 => ?_)
  refine tq_aload_n 0 (E := E_M_findsWay d) (pc := 6) (cks_at k_M_findsWay 4 rfl rfl) rfl ?_
  refine tq_iconst (E := E_M_findsWay d) (pc := 7) (cks_at k_M_findsWay 5 rfl rfl) ?_
  refine tq_putI (E := E_M_findsWay d) (pc := 8) (cks_at k_M_findsWay 6 rfl rfl) fo_M_490 so_78 rfl po_12_51 (fun M2 => ?_)
  refine tq_aload_n 0 (E := E_M_findsWay d) (pc := 11) (cks_at k_M_findsWay 7 rfl rfl) rfl ?_
  refine tq_iload_n 1 (E := E_M_findsWay d) (pc := 12) (cks_at k_M_findsWay 8 rfl rfl) rfl ?_
  refine tq_V1 (E := E_M_findsWay d) (pc := 13) (cks_at k_M_findsWay 9 rfl rfl) mk_M_goalOf lk_M_493 rc_78 (Nat.le_of_ble_eq_true rfl) (c_M_goalOf (d + 11) v1 M2) (k_I fun r4 M3 => ?_)
  refine tq_istore_n (E := E_M_findsWay d) (pc := 16) (cks_at k_M_findsWay 10 rfl rfl) (show 2 < 3 by decide) rfl ?_
  refine tq_aload_n 1 (E := E_M_findsWay d) (pc := 17) (cks_at k_M_findsWay 11 rfl rfl) rfl ?_
  refine tq_getR (j := 110) (E := E_M_findsWay d) (pc := 18) (cks_at k_M_findsWay 12 rfl rfl) fo_M_109 so_78 rfl sp_78_48 ?_
  refine tq_iload_n 0 (E := E_M_findsWay d) (pc := 21) (cks_at k_M_findsWay 13 rfl rfl) rfl ?_
  refine tq_iald (E := E_M_findsWay d) (pc := 22) (cks_at k_M_findsWay 14 rfl rfl) sa_110 sn_110 ?_
  refine tq_ldcw (z := 1000000) (E := E_M_findsWay d) (pc := 23) (cks_at k_M_findsWay 15 rfl rfl) cst_M_459 ?_
  refine tq_icmp_ne (E := E_M_findsWay d) (pc := 26) (tgt := 31) (cks_at k_M_findsWay 16 rfl rfl) (by decide) ?_ ?_
  · exact tq_sub [1, 2, 0] rfl (w_M_findsWay_L31 d FU (v1, r4, M3))
  · refine tq_iconst (E := E_M_findsWay d) (pc := 29) (cks_at k_M_findsWay 17 rfl rfl) ?_
    exact tq_zretC (E := E_M_findsWay d) (pc := 30) (cks_at k_M_findsWay 18 rfl rfl) rfl (by decide)
abbrev E_M_hasWay (d : Nat) : Ev := (Ct (d + 13), "BreathTownModel", prog_14_method_69_code, 2, False, 0, (fun _ => 0), (Option.some Jvm.ClassFile.FieldType.boolean))
def f_M_hasWay (v1 : Int) (M : Mm) : Option (Int × Mm) :=
  bd (up M 78 47 0) (fun M1 =>
  bI (f_M_findsWay v1 M1) (fun r3 M2 =>
  gd (i32 r3 = 0 ∨ i32 r3 = 1) (some (r3, M2))))
set_option maxRecDepth 20000 in
set_option maxHeartbeats 4000000 in
theorem c_M_hasWay (d : Nat) (v1 : Int) (M : Mm) (Q : Option Value → Mm → Prop) (h : sat injI (f_M_hasWay v1 M) Q) : Ct (d + 14) y_M_hasWay [.ref 78, vI v1] M Q := by
  refine ct_in (d := d + 13) mk_M_hasWay (Nat.le_of_ble_eq_true rfl) (?_ : T (E_M_hasWay d) injI 0 [(0, .ref 78), (1, vI v1)] [] M (f_M_hasWay v1 M)) h
  unfold f_M_hasWay
  refine tq_aload_n 0 (E := E_M_hasWay d) (pc := 0) (cks_at k_M_hasWay 0 rfl rfl) rfl ?_
  refine tq_iconst (E := E_M_hasWay d) (pc := 1) (cks_at k_M_hasWay 1 rfl rfl) ?_
  refine tq_putI (E := E_M_hasWay d) (pc := 2) (cks_at k_M_hasWay 2 rfl rfl) fo_M_447 so_78 rfl po_12_47 (fun M1 => ?_)
  refine tq_aload_n 0 (E := E_M_hasWay d) (pc := 5) (cks_at k_M_hasWay 3 rfl rfl) rfl ?_
  refine tq_iload_n 1 (E := E_M_hasWay d) (pc := 6) (cks_at k_M_hasWay 4 rfl rfl) rfl ?_
  refine tq_V1 (E := E_M_hasWay d) (pc := 7) (cks_at k_M_hasWay 5 rfl rfl) mk_M_findsWay lk_M_484 rc_78 (Nat.le_of_ble_eq_true rfl) (c_M_findsWay (d + 0) v1 M1) (k_I fun r3 M2 => ?_)
  exact tq_zret (E := E_M_hasWay d) (pc := 10) (cks_at k_M_hasWay 6 rfl rfl) rfl
abbrev E_M_send (d : Nat) : Ev := (Ct (d + 14), "BreathTownModel", prog_14_method_104_code, 4, False, 0, (fun _ => 0), (Option.some Jvm.ClassFile.FieldType.int))
def f_M_send_J32 (M : Mm) : Option (Int × Mm) :=
  bd (up M 80 2 ((M 80 2) + 1)) (fun M3 =>
  some ((-1), M3))
set_option maxRecDepth 20000 in
set_option maxHeartbeats 4000000 in
theorem w_M_send_J32 (d : Nat) (M : Mm) : T (E_M_send d) injI 32 [(0, .ref 78)] [] M (f_M_send_J32 M) := by
  unfold f_M_send_J32
  refine tq_aload_n 0 (E := E_M_send d) (pc := 32) (cks_at k_M_send 16 rfl rfl) rfl ?_
  refine tq_getR (j := 80) (E := E_M_send d) (pc := 33) (cks_at k_M_send 17 rfl rfl) fo_M_17 so_78 rfl sp_78_9 ?_
  refine tq_iconst (E := E_M_send d) (pc := 36) (cks_at k_M_send 18 rfl rfl) ?_
  refine tq_dup2 (E := E_M_send d) (pc := 37) (cks_at k_M_send 19 rfl rfl) rfl rfl ?_
  refine tq_ialdC 2 (E := E_M_send d) (pc := 38) (cks_at k_M_send 20 rfl rfl) sa_80 sn_80 (by decide) ?_
  refine tq_iconst (E := E_M_send d) (pc := 39) (cks_at k_M_send 21 rfl rfl) ?_
  refine tq_iadd (E := E_M_send d) (pc := 40) (cks_at k_M_send 22 rfl rfl) ?_
  refine tq_iastC (E := E_M_send d) (pc := 41) 2 (cks_at k_M_send 23 rfl rfl) sa_80 sn_80 (by decide) (fun M3 => ?_)
  refine tq_iconst (E := E_M_send d) (pc := 42) (cks_at k_M_send 24 rfl rfl) ?_
  exact tq_iret (E := E_M_send d) (pc := 43) (cks_at k_M_send 25 rfl rfl) rfl
def f_M_send (v1 : Int) (M : Mm) : Option (Int × Mm) :=
  bI (f_M_isWalker v1 M) (fun r2 M1 =>
  if i32 r2 = 0 then
    f_M_send_J32 M1
  else
    bI (f_M_hasWay v1 M1) (fun r5 M4 =>
    if i32 r5 = 0 then
      f_M_send_J32 M4
    else
      bI (f_M_goalOf v1 M4) (fun r7 M6 =>
      gd (0 ≤ i32 r7 ∧ i32 r7 < ((9 : Nat) : Int)) <|
      if i32 (M6 110 (i32 r7).toNat) ≤ i32 9999 then
        bI (f_M_goalOf v1 M6) (fun r9 M8 =>
        gd (0 ≤ i32 r9 ∧ i32 r9 < ((9 : Nat) : Int)) <|
        bV (f_M_keeps M8) (fun M10 =>
        bI (f_M_placeOf v1 M10) (fun r12 M11 =>
        bI (f_M_goalOf v1 M11) (fun r14 M13 =>
        gd (0 ≤ i32 (13 + (3 * v1)) ∧ i32 (13 + (3 * v1)) < ((31 : Nat) : Int)) <|
        bd (up M13 108 (i32 (13 + (3 * v1))).toNat r14) (fun M15 =>
        gd (0 ≤ i32 ((13 + (3 * v1)) + 1) ∧ i32 ((13 + (3 * v1)) + 1) < ((31 : Nat) : Int)) <|
        bd (up M15 108 (i32 ((13 + (3 * v1)) + 1)).toNat r12) (fun M16 =>
        gd (0 ≤ i32 ((13 + (3 * v1)) + 2) ∧ i32 ((13 + (3 * v1)) + 2) < ((31 : Nat) : Int)) <|
        bd (up M16 108 (i32 ((13 + (3 * v1)) + 2)).toNat (M8 110 (i32 r9).toNat)) (fun M17 =>
        some (M8 110 (i32 r9).toNat, M17))))))))
      else
        f_M_send_J32 M6)))
set_option maxRecDepth 20000 in
set_option maxHeartbeats 4000000 in
theorem c_M_send (d : Nat) (v1 : Int) (M : Mm) (Q : Option Value → Mm → Prop) (h : sat injI (f_M_send v1 M) Q) : Ct (d + 15) y_M_send [.ref 78, vI v1] M Q := by
  refine ct_in (d := d + 14) mk_M_send (Nat.le_of_ble_eq_true rfl) (?_ : T (E_M_send d) injI 0 [(0, .ref 78), (1, vI v1)] [] M (f_M_send v1 M)) h
  unfold f_M_send
  refine tq_aload_n 0 (E := E_M_send d) (pc := 0) (cks_at k_M_send 0 rfl rfl) rfl ?_
  refine tq_iload_n 1 (E := E_M_send d) (pc := 1) (cks_at k_M_send 1 rfl rfl) rfl ?_
  refine tq_V1 (E := E_M_send d) (pc := 2) (cks_at k_M_send 2 rfl rfl) mk_M_isWalker lk_M_512 rc_78 (Nat.le_of_ble_eq_true rfl) (c_M_isWalker (d + 12) v1 M) (k_I fun r2 M1 => ?_)
  refine tq_if_eq (E := E_M_send d) (pc := 5) (tgt := 32) (cks_at k_M_send 3 rfl rfl) (by decide) ?_ ?_
  · exact tq_sub [0] rfl (w_M_send_J32 d M1)
  · refine tq_aload_n 0 (E := E_M_send d) (pc := 8) (cks_at k_M_send 4 rfl rfl) rfl ?_
    refine tq_iload_n 1 (E := E_M_send d) (pc := 9) (cks_at k_M_send 5 rfl rfl) rfl ?_
    refine tq_V1 (E := E_M_send d) (pc := 10) (cks_at k_M_send 6 rfl rfl) mk_M_hasWay lk_M_525 rc_78 (Nat.le_of_ble_eq_true rfl) (c_M_hasWay (d + 0) v1 M1) (k_I fun r5 M4 => ?_)
    refine tq_if_eq (E := E_M_send d) (pc := 13) (tgt := 32) (cks_at k_M_send 7 rfl rfl) (by decide) ?_ ?_
    · exact tq_sub [0] rfl (w_M_send_J32 d M4)
    · refine tq_aload_n 0 (E := E_M_send d) (pc := 16) (cks_at k_M_send 8 rfl rfl) rfl ?_
      refine tq_getR (j := 110) (E := E_M_send d) (pc := 17) (cks_at k_M_send 9 rfl rfl) fo_M_109 so_78 rfl sp_78_48 ?_
      refine tq_aload_n 0 (E := E_M_send d) (pc := 20) (cks_at k_M_send 10 rfl rfl) rfl ?_
      refine tq_iload_n 1 (E := E_M_send d) (pc := 21) (cks_at k_M_send 11 rfl rfl) rfl ?_
      refine tq_V1 (E := E_M_send d) (pc := 22) (cks_at k_M_send 12 rfl rfl) mk_M_goalOf lk_M_493 rc_78 (Nat.le_of_ble_eq_true rfl) (c_M_goalOf (d + 13) v1 M4) (k_I fun r7 M6 => ?_)
      refine tq_iald (E := E_M_send d) (pc := 25) (cks_at k_M_send 13 rfl rfl) sa_110 sn_110 ?_
      refine tq_sipush (E := E_M_send d) (pc := 26) (cks_at k_M_send 14 rfl rfl) (by decide) (by decide) ?_
      refine tq_icmp_le (E := E_M_send d) (pc := 29) (tgt := 44) (cks_at k_M_send 15 rfl rfl) (by decide) ?_ ?_
      · refine tq_aload_n 0 (E := E_M_send d) (pc := 44) (cks_at k_M_send 26 rfl rfl) rfl ?_
        refine tq_getR (j := 110) (E := E_M_send d) (pc := 45) (cks_at k_M_send 27 rfl rfl) fo_M_109 so_78 rfl sp_78_48 ?_
        refine tq_aload_n 0 (E := E_M_send d) (pc := 48) (cks_at k_M_send 28 rfl rfl) rfl ?_
        refine tq_iload_n 1 (E := E_M_send d) (pc := 49) (cks_at k_M_send 29 rfl rfl) rfl ?_
        refine tq_V1 (E := E_M_send d) (pc := 50) (cks_at k_M_send 30 rfl rfl) mk_M_goalOf lk_M_493 rc_78 (Nat.le_of_ble_eq_true rfl) (c_M_goalOf (d + 13) v1 M6) (k_I fun r9 M8 => ?_)
        refine tq_iald (E := E_M_send d) (pc := 53) (cks_at k_M_send 31 rfl rfl) sa_110 sn_110 ?_
        refine tq_istore_n (E := E_M_send d) (pc := 54) (cks_at k_M_send 32 rfl rfl) (show 2 < 4 by decide) rfl ?_
        refine tq_aload_n 1 (E := E_M_send d) (pc := 55) (cks_at k_M_send 33 rfl rfl) rfl ?_
        refine tq_V0 (E := E_M_send d) (pc := 56) (cks_at k_M_send 34 rfl rfl) mk_M_keeps lk_M_586 rc_78 (Nat.le_of_ble_eq_true rfl) (c_M_keeps (d + 13) M8) (k_V fun M10 => ?_)
        refine tq_aload_n 1 (E := E_M_send d) (pc := 59) (cks_at k_M_send 35 rfl rfl) rfl ?_
        refine tq_iload_n 2 (E := E_M_send d) (pc := 60) (cks_at k_M_send 36 rfl rfl) rfl ?_
        refine tq_V1 (E := E_M_send d) (pc := 61) (cks_at k_M_send 37 rfl rfl) mk_M_placeOf lk_M_471 rc_78 (Nat.le_of_ble_eq_true rfl) (c_M_placeOf (d + 13) v1 M10) (k_I fun r12 M11 => ?_)
        refine tq_istore_n (E := E_M_send d) (pc := 64) (cks_at k_M_send 38 rfl rfl) (show 3 < 4 by decide) rfl ?_
        refine tq_aload_n 2 (E := E_M_send d) (pc := 65) (cks_at k_M_send 39 rfl rfl) rfl ?_
        refine tq_getR (j := 108) (E := E_M_send d) (pc := 66) (cks_at k_M_send 40 rfl rfl) fo_M_103 so_78 rfl sp_78_45 ?_
        refine tq_bipush (E := E_M_send d) (pc := 69) (cks_at k_M_send 41 rfl rfl) (by decide) (by decide) ?_
        refine tq_iconst (E := E_M_send d) (pc := 71) (cks_at k_M_send 42 rfl rfl) ?_
        refine tq_iload_n 3 (E := E_M_send d) (pc := 72) (cks_at k_M_send 43 rfl rfl) rfl ?_
        refine tq_imul (E := E_M_send d) (pc := 73) (cks_at k_M_send 44 rfl rfl) ?_
        refine tq_iadd (E := E_M_send d) (pc := 74) (cks_at k_M_send 45 rfl rfl) ?_
        refine tq_aload_n 2 (E := E_M_send d) (pc := 75) (cks_at k_M_send 46 rfl rfl) rfl ?_
        refine tq_iload_n 3 (E := E_M_send d) (pc := 76) (cks_at k_M_send 47 rfl rfl) rfl ?_
        refine tq_V1 (E := E_M_send d) (pc := 77) (cks_at k_M_send 48 rfl rfl) mk_M_goalOf lk_M_493 rc_78 (Nat.le_of_ble_eq_true rfl) (c_M_goalOf (d + 13) v1 M11) (k_I fun r14 M13 => ?_)
        refine tq_iast (E := E_M_send d) (pc := 80) (cks_at k_M_send 49 rfl rfl) sa_108 sn_108 (fun M15 => ?_)
        refine tq_aload_n 2 (E := E_M_send d) (pc := 81) (cks_at k_M_send 50 rfl rfl) rfl ?_
        refine tq_getR (j := 108) (E := E_M_send d) (pc := 82) (cks_at k_M_send 51 rfl rfl) fo_M_103 so_78 rfl sp_78_45 ?_
        refine tq_bipush (E := E_M_send d) (pc := 85) (cks_at k_M_send 52 rfl rfl) (by decide) (by decide) ?_
        refine tq_iconst (E := E_M_send d) (pc := 87) (cks_at k_M_send 53 rfl rfl) ?_
        refine tq_iload_n 3 (E := E_M_send d) (pc := 88) (cks_at k_M_send 54 rfl rfl) rfl ?_
        refine tq_imul (E := E_M_send d) (pc := 89) (cks_at k_M_send 55 rfl rfl) ?_
        refine tq_iadd (E := E_M_send d) (pc := 90) (cks_at k_M_send 56 rfl rfl) ?_
        refine tq_iconst (E := E_M_send d) (pc := 91) (cks_at k_M_send 57 rfl rfl) ?_
        refine tq_iadd (E := E_M_send d) (pc := 92) (cks_at k_M_send 58 rfl rfl) ?_
        refine tq_iload_n 0 (E := E_M_send d) (pc := 93) (cks_at k_M_send 59 rfl rfl) rfl ?_
        refine tq_iast (E := E_M_send d) (pc := 94) (cks_at k_M_send 60 rfl rfl) sa_108 sn_108 (fun M16 => ?_)
        refine tq_aload_n 2 (E := E_M_send d) (pc := 95) (cks_at k_M_send 61 rfl rfl) rfl ?_
        refine tq_getR (j := 108) (E := E_M_send d) (pc := 96) (cks_at k_M_send 62 rfl rfl) fo_M_103 so_78 rfl sp_78_45 ?_
        refine tq_bipush (E := E_M_send d) (pc := 99) (cks_at k_M_send 63 rfl rfl) (by decide) (by decide) ?_
        refine tq_iconst (E := E_M_send d) (pc := 101) (cks_at k_M_send 64 rfl rfl) ?_
        refine tq_iload_n 3 (E := E_M_send d) (pc := 102) (cks_at k_M_send 65 rfl rfl) rfl ?_
        refine tq_imul (E := E_M_send d) (pc := 103) (cks_at k_M_send 66 rfl rfl) ?_
        refine tq_iadd (E := E_M_send d) (pc := 104) (cks_at k_M_send 67 rfl rfl) ?_
        refine tq_iconst (E := E_M_send d) (pc := 105) (cks_at k_M_send 68 rfl rfl) ?_
        refine tq_iadd (E := E_M_send d) (pc := 106) (cks_at k_M_send 69 rfl rfl) ?_
        refine tq_iload_n 1 (E := E_M_send d) (pc := 107) (cks_at k_M_send 70 rfl rfl) rfl ?_
        refine tq_iast (E := E_M_send d) (pc := 108) (cks_at k_M_send 71 rfl rfl) sa_108 sn_108 (fun M17 => ?_)
        refine tq_iload_n 1 (E := E_M_send d) (pc := 109) (cks_at k_M_send 72 rfl rfl) rfl ?_
        exact tq_iret (E := E_M_send d) (pc := 110) (cks_at k_M_send 73 rfl rfl) rfl
      · exact tq_sub [0] rfl (w_M_send_J32 d M6)
abbrev E_Now_setOut (d : Nat) : Ev := (Ct (d + 1), "BreathTown$Now", prog_4_method_3_code, 2, False, 0, (fun _ => 0), (Option.some Jvm.ClassFile.FieldType.int))
def f_Now_setOut (v1 : Int) (M : Mm) : Option (Int × Mm) :=
  bI (f_BT_cell 43 v1 M) (fun r2 M1 =>
  bI (f_Math_max (M 39 8) r2 M1) (fun r4 M3 =>
  some (r4, M3)))
set_option maxRecDepth 20000 in
set_option maxHeartbeats 4000000 in
theorem c_Now_setOut (d : Nat) (v1 : Int) (M : Mm) (Q : Option Value → Mm → Prop) (h : sat injI (f_Now_setOut v1 M) Q) : Ct (d + 2) y_Now_setOut [.ref 39, vI v1] M Q := by
  refine ct_in (d := d + 1) mk_Now_setOut (Nat.le_of_ble_eq_true rfl) (?_ : T (E_Now_setOut d) injI 0 [(0, .ref 39), (1, vI v1)] [] M (f_Now_setOut v1 M)) h
  unfold f_Now_setOut
  refine tq_aload_n 0 (E := E_Now_setOut d) (pc := 0) (cks_at k_Now_setOut 0 rfl rfl) rfl ?_
  refine tq_getI (E := E_Now_setOut d) (pc := 1) (cks_at k_Now_setOut 1 rfl rfl) fo_Now_40 so_39 rfl (by decide) ?_
  refine tq_aload_n 0 (E := E_Now_setOut d) (pc := 4) (cks_at k_Now_setOut 2 rfl rfl) rfl ?_
  refine tq_getR (j := 43) (E := E_Now_setOut d) (pc := 5) (cks_at k_Now_setOut 3 rfl rfl) fo_Now_21 so_39 rfl sp_39_4 ?_
  refine tq_iload_n 1 (E := E_Now_setOut d) (pc := 8) (cks_at k_Now_setOut 4 rfl rfl) rfl ?_
  refine tq_S2 (E := E_Now_setOut d) (pc := 9) (cks_at k_Now_setOut 5 rfl rfl) mk_BT_cell lk_Now_57 (Nat.le_of_ble_eq_true rfl) (c_BT_cell (d + 0) 43 sa_43 v1 M) (k_I fun r2 M1 => ?_)
  refine tq_S2 (E := E_Now_setOut d) (pc := 12) (cks_at k_Now_setOut 6 rfl rfl) mk_Math_max lk_Now_61 (Nat.le_of_ble_eq_true rfl) (c_Math_max (d + 0) (M 39 8) r2 M1) (k_I fun r4 M3 => ?_)
  exact tq_iret (E := E_Now_setOut d) (pc := 15) (cks_at k_Now_setOut 7 rfl rfl) rfl
abbrev E_Ways_soonestBut (d : Nat) : Ev := (Ct (d + 2), "BreathTown$Ways", prog_11_method_9_code, 5, False, 0, (fun _ => 0), (Option.some Jvm.ClassFile.FieldType.int))
def f_Ways_soonestBut_B8 (kH : Int → Int → Int → Int → Mm → Option (Int × Mm)) (v1 v2 v3 v4 : Int) (M : Mm) : Option (Int × Mm) :=
  bI (f_Told_count 3 0 M) (fun r2 M1 =>
  if i32 r2 ≤ i32 v4 then
    some (v2, M1)
  else
    if ¬ i32 (and32 (shr32 v1 v4) 1) = 0 then
      kH v1 v2 v3 (v4 + 1) M1
    else
      bI (f_BT_cell 49 v4 M1) (fun r4 M3 =>
      if i32 v3 ≤ i32 r4 then
        kH v1 v2 v3 (v4 + 1) M3
      else
        bI (f_BT_cell 49 v4 M3) (fun r6 M5 =>
        kH v1 v4 r6 (v4 + 1) M5)))
set_option maxRecDepth 20000 in
set_option maxHeartbeats 4000000 in
theorem w_Ways_soonestBut_B8 (d : Nat) (kH : Int → Int → Int → Int → Mm → Option (Int × Mm)) (hkH : ∀ (v1 v2 v3 v4 : Int) (M : Mm), T (E_Ways_soonestBut d) injI 8 [(0, .ref 48), (1, vI v1), (2, vI v2), (3, vI v3), (4, vI v4)] [] M (kH v1 v2 v3 v4 M)) (v1 v2 v3 v4 : Int) (M : Mm) : T (E_Ways_soonestBut d) injI 8 [(0, .ref 48), (1, vI v1), (2, vI v2), (3, vI v3), (4, vI v4)] [] M (f_Ways_soonestBut_B8 kH v1 v2 v3 v4 M) := by
  unfold f_Ways_soonestBut_B8
  refine tq_iload 4 (E := E_Ways_soonestBut d) (pc := 8) (cks_at k_Ways_soonestBut 6 rfl rfl) rfl ?_
  refine tq_aload_n 0 (E := E_Ways_soonestBut d) (pc := 10) (cks_at k_Ways_soonestBut 7 rfl rfl) rfl ?_
  refine tq_getR (j := 3) (E := E_Ways_soonestBut d) (pc := 11) (cks_at k_Ways_soonestBut 8 rfl rfl) fo_Ways_30 so_48 rfl sp_48_0 ?_
  refine tq_iconst (E := E_Ways_soonestBut d) (pc := 14) (cks_at k_Ways_soonestBut 9 rfl rfl) ?_
  refine tq_V1 (E := E_Ways_soonestBut d) (pc := 15) (cks_at k_Ways_soonestBut 10 rfl rfl) mk_Told_count lk_Ways_85 (isTold_rc (Or.inl rfl)) (Nat.le_of_ble_eq_true rfl) (c_Told_count (d + 0) 3 (Or.inl rfl) 0 M) (k_I fun r2 M1 => ?_)
  refine tq_icmp_ge (E := E_Ways_soonestBut d) (pc := 18) (tgt := 62) (cks_at k_Ways_soonestBut 11 rfl rfl) (by decide) ?_ ?_
  · refine tq_iload_n 2 (E := E_Ways_soonestBut d) (pc := 62) (cks_at k_Ways_soonestBut 33 rfl rfl) rfl ?_
    exact tq_iret (E := E_Ways_soonestBut d) (pc := 63) (cks_at k_Ways_soonestBut 34 rfl rfl) rfl
  · refine tq_iload_n 1 (E := E_Ways_soonestBut d) (pc := 21) (cks_at k_Ways_soonestBut 12 rfl rfl) rfl ?_
    refine tq_iload 4 (E := E_Ways_soonestBut d) (pc := 22) (cks_at k_Ways_soonestBut 13 rfl rfl) rfl ?_
    refine tq_ishr (E := E_Ways_soonestBut d) (pc := 24) (cks_at k_Ways_soonestBut 14 rfl rfl) ?_
    refine tq_iconst (E := E_Ways_soonestBut d) (pc := 25) (cks_at k_Ways_soonestBut 15 rfl rfl) ?_
    refine tq_iand (E := E_Ways_soonestBut d) (pc := 26) (cks_at k_Ways_soonestBut 16 rfl rfl) ?_
    refine tq_if_ne (E := E_Ways_soonestBut d) (pc := 27) (tgt := 56) (cks_at k_Ways_soonestBut 17 rfl rfl) (by decide) ?_ ?_
    · refine tq_iinc 4 (E := E_Ways_soonestBut d) (pc := 56) (cks_at k_Ways_soonestBut 31 rfl rfl) rfl (show 4 < 5 by decide) rfl ?_
      refine tq_goto (tgt := 8) (E := E_Ways_soonestBut d) (pc := 59) (cks_at k_Ways_soonestBut 32 rfl rfl) (by decide) ?_
      exact tq_sub [1, 2, 3, 4, 0] rfl (hkH v1 v2 v3 (v4 + 1) M1)
    · refine tq_aload_n 0 (E := E_Ways_soonestBut d) (pc := 30) (cks_at k_Ways_soonestBut 18 rfl rfl) rfl ?_
      refine tq_getR (j := 49) (E := E_Ways_soonestBut d) (pc := 31) (cks_at k_Ways_soonestBut 19 rfl rfl) fo_Ways_9 so_48 rfl sp_48_3 ?_
      refine tq_iload 4 (E := E_Ways_soonestBut d) (pc := 34) (cks_at k_Ways_soonestBut 20 rfl rfl) rfl ?_
      refine tq_S2 (E := E_Ways_soonestBut d) (pc := 36) (cks_at k_Ways_soonestBut 21 rfl rfl) mk_BT_cell lk_Ways_47 (Nat.le_of_ble_eq_true rfl) (c_BT_cell (d + 1) 49 sa_49 v4 M1) (k_I fun r4 M3 => ?_)
      refine tq_iload_n 3 (E := E_Ways_soonestBut d) (pc := 39) (cks_at k_Ways_soonestBut 22 rfl rfl) rfl ?_
      refine tq_icmp_ge (E := E_Ways_soonestBut d) (pc := 40) (tgt := 56) (cks_at k_Ways_soonestBut 23 rfl rfl) (by decide) ?_ ?_
      · refine tq_iinc 4 (E := E_Ways_soonestBut d) (pc := 56) (cks_at k_Ways_soonestBut 31 rfl rfl) rfl (show 4 < 5 by decide) rfl ?_
        refine tq_goto (tgt := 8) (E := E_Ways_soonestBut d) (pc := 59) (cks_at k_Ways_soonestBut 32 rfl rfl) (by decide) ?_
        exact tq_sub [1, 2, 3, 4, 0] rfl (hkH v1 v2 v3 (v4 + 1) M3)
      · refine tq_iload 4 (E := E_Ways_soonestBut d) (pc := 43) (cks_at k_Ways_soonestBut 24 rfl rfl) rfl ?_
        refine tq_istore_n (E := E_Ways_soonestBut d) (pc := 45) (cks_at k_Ways_soonestBut 25 rfl rfl) (show 2 < 5 by decide) rfl ?_
        refine tq_aload_n 1 (E := E_Ways_soonestBut d) (pc := 46) (cks_at k_Ways_soonestBut 26 rfl rfl) rfl ?_
        refine tq_getR (j := 49) (E := E_Ways_soonestBut d) (pc := 47) (cks_at k_Ways_soonestBut 27 rfl rfl) fo_Ways_9 so_48 rfl sp_48_3 ?_
        refine tq_iload 4 (E := E_Ways_soonestBut d) (pc := 50) (cks_at k_Ways_soonestBut 28 rfl rfl) rfl ?_
        refine tq_S2 (E := E_Ways_soonestBut d) (pc := 52) (cks_at k_Ways_soonestBut 29 rfl rfl) mk_BT_cell lk_Ways_47 (Nat.le_of_ble_eq_true rfl) (c_BT_cell (d + 1) 49 sa_49 v4 M3) (k_I fun r6 M5 => ?_)
        refine tq_istore_n (E := E_Ways_soonestBut d) (pc := 55) (cks_at k_Ways_soonestBut 30 rfl rfl) (show 3 < 5 by decide) rfl ?_
        refine tq_iinc 4 (E := E_Ways_soonestBut d) (pc := 56) (cks_at k_Ways_soonestBut 31 rfl rfl) rfl (show 4 < 5 by decide) rfl ?_
        refine tq_goto (tgt := 8) (E := E_Ways_soonestBut d) (pc := 59) (cks_at k_Ways_soonestBut 32 rfl rfl) (by decide) ?_
        exact tq_sub [3, 4, 2, 1, 0] rfl (hkH v1 v4 r6 (v4 + 1) M5)
def f_Ways_soonestBut_L8 : Nat → Int × Int × Int × Int × Mm → Option (Int × Mm) := lp fun kH s => f_Ways_soonestBut_B8 (fun v1 v2 v3 v4 M => kH (v1, v2, v3, v4, M)) s.1 s.2.1 s.2.2.1 s.2.2.2.1 s.2.2.2.2
set_option maxRecDepth 20000 in
set_option maxHeartbeats 4000000 in
theorem w_Ways_soonestBut_L8 (d : Nat) (n : Nat) (s : Int × Int × Int × Int × Mm) : T (E_Ways_soonestBut d) injI 8 [(0, .ref 48), (1, vI s.1), (2, vI s.2.1), (3, vI s.2.2.1), (4, vI s.2.2.2.1)] [] s.2.2.2.2 (f_Ways_soonestBut_L8 n s) :=
  tq_lp (fun s => [(0, .ref 48), (1, vI s.1), (2, vI s.2.1), (3, vI s.2.2.1), (4, vI s.2.2.2.1)]) (fun s => s.2.2.2.2) (fun kH hH s => w_Ways_soonestBut_B8 d (fun v1 v2 v3 v4 M => kH (v1, v2, v3, v4, M)) (fun v1 v2 v3 v4 M => hH (v1, v2, v3, v4, M)) s.1 s.2.1 s.2.2.1 s.2.2.2.1 s.2.2.2.2) n s
def f_Ways_soonestBut (v1 : Int) (M : Mm) : Option (Int × Mm) :=
  f_Ways_soonestBut_L8 FU (v1, ((-1)), 1000000, 0, M)
set_option maxRecDepth 20000 in
set_option maxHeartbeats 4000000 in
theorem c_Ways_soonestBut (d : Nat) (v1 : Int) (M : Mm) (Q : Option Value → Mm → Prop) (h : sat injI (f_Ways_soonestBut v1 M) Q) : Ct (d + 3) y_Ways_soonestBut [.ref 48, vI v1] M Q := by
  refine ct_in (d := d + 2) mk_Ways_soonestBut (Nat.le_of_ble_eq_true rfl) (?_ : T (E_Ways_soonestBut d) injI 0 [(0, .ref 48), (1, vI v1)] [] M (f_Ways_soonestBut v1 M)) h
  unfold f_Ways_soonestBut
  refine tq_iconst (E := E_Ways_soonestBut d) (pc := 0) (cks_at k_Ways_soonestBut 0 rfl rfl) ?_
  refine tq_istore_n (E := E_Ways_soonestBut d) (pc := 1) (cks_at k_Ways_soonestBut 1 rfl rfl) (show 2 < 5 by decide) rfl ?_
  refine tq_ldc (z := 1000000) (E := E_Ways_soonestBut d) (pc := 2) (cks_at k_Ways_soonestBut 2 rfl rfl) cst_Ways_80 ?_
  refine tq_istore_n (E := E_Ways_soonestBut d) (pc := 4) (cks_at k_Ways_soonestBut 3 rfl rfl) (show 3 < 5 by decide) rfl ?_
  refine tq_iconst (E := E_Ways_soonestBut d) (pc := 5) (cks_at k_Ways_soonestBut 4 rfl rfl) ?_
  refine tq_istore (E := E_Ways_soonestBut d) (pc := 6) (cks_at k_Ways_soonestBut 5 rfl rfl) (show 4 < 5 by decide) rfl ?_
  exact tq_sub [3, 4, 2, 1, 0] rfl (w_Ways_soonestBut_L8 d FU (v1, ((-1)), 1000000, 0, M))
abbrev E_Told_beyond (d : Nat) : Ev := (Ct (d + 1), "BreathTown$Told", prog_9_method_9_code, 5, False, 0, (fun _ => 0), (Option.some Jvm.ClassFile.FieldType.int))
def f_Told_beyond (this : Nat) (v1 : Int) (v2 : Int) (M : Mm) : Option (Int × Mm) :=
  bI (f_BT_cell (ptr this 2) v1 M) (fun r2 M1 =>
  bI (f_BT_cell (ptr this 3) v1 M1) (fun r4 M3 =>
  if ¬ i32 r2 = i32 v2 then
    if ¬ i32 r4 = i32 v2 then
      some ((-1), M3)
    else
      some (r2, M3)
  else
    some (r4, M3)))
set_option maxRecDepth 20000 in
set_option maxHeartbeats 4000000 in
theorem c_Told_beyond (d : Nat) (this : Nat) (hthis : isTold this) (v1 : Int) (v2 : Int) (M : Mm) (Q : Option Value → Mm → Prop) (h : sat injI (f_Told_beyond this v1 v2 M) Q) : Ct (d + 2) y_Told_beyond [.ref this, vI v1, vI v2] M Q := by
  refine ct_in (d := d + 1) mk_Told_beyond (Nat.le_of_ble_eq_true rfl) (?_ : T (E_Told_beyond d) injI 0 [(0, .ref this), (1, vI v1), (2, vI v2)] [] M (f_Told_beyond this v1 v2 M)) h
  unfold f_Told_beyond
  refine tq_aload_n 0 (E := E_Told_beyond d) (pc := 0) (cks_at k_Told_beyond 0 rfl rfl) rfl ?_
  refine tq_getR (j := ptr this 2) (E := E_Told_beyond d) (pc := 1) (cks_at k_Told_beyond 1 rfl rfl) fo_Told_18 (isTold_ok hthis) rfl rfl ?_
  refine tq_iload_n 1 (E := E_Told_beyond d) (pc := 4) (cks_at k_Told_beyond 2 rfl rfl) rfl ?_
  refine tq_S2 (E := E_Told_beyond d) (pc := 5) (cks_at k_Told_beyond 3 rfl rfl) mk_BT_cell lk_Told_74 (Nat.le_of_ble_eq_true rfl) (c_BT_cell (d + 0) (ptr this 2) (sa_Told_2 hthis) v1 M) (k_I fun r2 M1 => ?_)
  refine tq_istore_n (E := E_Told_beyond d) (pc := 8) (cks_at k_Told_beyond 4 rfl rfl) (show 3 < 5 by decide) rfl ?_
  refine tq_aload_n 1 (E := E_Told_beyond d) (pc := 9) (cks_at k_Told_beyond 5 rfl rfl) rfl ?_
  refine tq_getR (j := ptr this 3) (E := E_Told_beyond d) (pc := 10) (cks_at k_Told_beyond 6 rfl rfl) fo_Told_21 (isTold_ok hthis) rfl rfl ?_
  refine tq_iload_n 2 (E := E_Told_beyond d) (pc := 13) (cks_at k_Told_beyond 7 rfl rfl) rfl ?_
  refine tq_S2 (E := E_Told_beyond d) (pc := 14) (cks_at k_Told_beyond 8 rfl rfl) mk_BT_cell lk_Told_74 (Nat.le_of_ble_eq_true rfl) (c_BT_cell (d + 0) (ptr this 3) (sa_Told_3 hthis) v1 M1) (k_I fun r4 M3 => ?_)
  refine tq_istore (E := E_Told_beyond d) (pc := 17) (cks_at k_Told_beyond 9 rfl rfl) (show 4 < 5 by decide) rfl ?_
  refine tq_iload_n 1 (E := E_Told_beyond d) (pc := 19) (cks_at k_Told_beyond 10 rfl rfl) rfl ?_
  refine tq_iload_n 4 (E := E_Told_beyond d) (pc := 20) (cks_at k_Told_beyond 11 rfl rfl) rfl ?_
  refine tq_icmp_ne (E := E_Told_beyond d) (pc := 21) (tgt := 27) (cks_at k_Told_beyond 12 rfl rfl) (by decide) ?_ ?_
  · refine tq_iload 0 (E := E_Told_beyond d) (pc := 27) (cks_at k_Told_beyond 15 rfl rfl) rfl ?_
    refine tq_iload_n 4 (E := E_Told_beyond d) (pc := 29) (cks_at k_Told_beyond 16 rfl rfl) rfl ?_
    refine tq_icmp_ne (E := E_Told_beyond d) (pc := 30) (tgt := 37) (cks_at k_Told_beyond 17 rfl rfl) (by decide) ?_ ?_
    · refine tq_iconst (E := E_Told_beyond d) (pc := 37) (cks_at k_Told_beyond 20 rfl rfl) ?_
      exact tq_iret (E := E_Told_beyond d) (pc := 38) (cks_at k_Told_beyond 21 rfl rfl) rfl
    · refine tq_iload_n 1 (E := E_Told_beyond d) (pc := 33) (cks_at k_Told_beyond 18 rfl rfl) rfl ?_
      refine tq_goto (tgt := 38) (E := E_Told_beyond d) (pc := 34) (cks_at k_Told_beyond 19 rfl rfl) (by decide) ?_
      exact tq_iret (E := E_Told_beyond d) (pc := 38) (cks_at k_Told_beyond 21 rfl rfl) rfl
  · refine tq_iload 0 (E := E_Told_beyond d) (pc := 24) (cks_at k_Told_beyond 13 rfl rfl) rfl ?_
    exact tq_iret (E := E_Told_beyond d) (pc := 26) (cks_at k_Told_beyond 14 rfl rfl) rfl
