abbrev E_Widths_widthAt (d : Nat) : Ev := (Ct (d + 4), "BreathTown$Widths", prog_12_method_5_code, 3, False, 0, (fun _ => 0), (Option.some Jvm.ClassFile.FieldType.int))
def f_Widths_widthAt (v1 : Int) (v2 : Int) (M : Mm) : Option (Int × Mm) :=
  bI (f_BT_cell 40 v1 M) (fun r2 M1 =>
  bI (f_Widths_widthBy v1 r2 v2 M1) (fun r4 M3 =>
  some (r4, M3)))
set_option maxRecDepth 20000 in
set_option maxHeartbeats 4000000 in
theorem c_Widths_widthAt (d : Nat) (v1 : Int) (v2 : Int) (M : Mm) (Q : Option Value → Mm → Prop) (h : sat injI (f_Widths_widthAt v1 v2 M) Q) : Ct (d + 5) y_Widths_widthAt [.ref 46, vI v1, vI v2] M Q := by
  refine ct_in (d := d + 4) mk_Widths_widthAt (Nat.le_of_ble_eq_true rfl) (?_ : T (E_Widths_widthAt d) injI 0 [(0, .ref 46), (1, vI v1), (2, vI v2)] [] M (f_Widths_widthAt v1 v2 M)) h
  unfold f_Widths_widthAt
  refine tq_aload_n 0 (E := E_Widths_widthAt d) (pc := 0) (cks_at k_Widths_widthAt 0 rfl rfl) rfl ?_
  refine tq_iload_n 1 (E := E_Widths_widthAt d) (pc := 1) (cks_at k_Widths_widthAt 1 rfl rfl) rfl ?_
  refine tq_aload_n 0 (E := E_Widths_widthAt d) (pc := 2) (cks_at k_Widths_widthAt 2 rfl rfl) rfl ?_
  refine tq_getR (j := 39) (E := E_Widths_widthAt d) (pc := 3) (cks_at k_Widths_widthAt 3 rfl rfl) fo_Widths_19 so_46 rfl sp_46_1 ?_
  refine tq_getR (j := 40) (E := E_Widths_widthAt d) (pc := 6) (cks_at k_Widths_widthAt 4 rfl rfl) fo_Widths_43 so_39 rfl sp_39_1 ?_
  refine tq_iload_n 1 (E := E_Widths_widthAt d) (pc := 9) (cks_at k_Widths_widthAt 5 rfl rfl) rfl ?_
  refine tq_S2 (E := E_Widths_widthAt d) (pc := 10) (cks_at k_Widths_widthAt 6 rfl rfl) mk_BT_cell lk_Widths_33 (Nat.le_of_ble_eq_true rfl) (c_BT_cell (d + 3) 40 sa_40 v1 M) (k_I fun r2 M1 => ?_)
  refine tq_iload_n 2 (E := E_Widths_widthAt d) (pc := 13) (cks_at k_Widths_widthAt 7 rfl rfl) rfl ?_
  refine tq_V3 (E := E_Widths_widthAt d) (pc := 14) (cks_at k_Widths_widthAt 8 rfl rfl) mk_Widths_widthBy lk_Widths_52 rc_46 (Nat.le_of_ble_eq_true rfl) (c_Widths_widthBy (d + 0) v1 r2 v2 M1) (k_I fun r4 M3 => ?_)
  exact tq_iret (E := E_Widths_widthAt d) (pc := 17) (cks_at k_Widths_widthAt 9 rfl rfl) rfl
abbrev E_Widths_tideAt (d : Nat) : Ev := (Ct (d + 2), "BreathTown$Widths", prog_12_method_4_code, 3, False, 0, (fun _ => 0), (Option.some Jvm.ClassFile.FieldType.int))
def f_Widths_tideAt (v1 : Int) (v2 : Int) (M : Mm) : Option (Int × Mm) :=
  bI (f_BT_cell 40 v1 M) (fun r2 M1 =>
  bI (f_Widths_tideBy v1 r2 v2 M1) (fun r4 M3 =>
  some (r4, M3)))
set_option maxRecDepth 20000 in
set_option maxHeartbeats 4000000 in
theorem c_Widths_tideAt (d : Nat) (v1 : Int) (v2 : Int) (M : Mm) (Q : Option Value → Mm → Prop) (h : sat injI (f_Widths_tideAt v1 v2 M) Q) : Ct (d + 3) y_Widths_tideAt [.ref 46, vI v1, vI v2] M Q := by
  refine ct_in (d := d + 2) mk_Widths_tideAt (Nat.le_of_ble_eq_true rfl) (?_ : T (E_Widths_tideAt d) injI 0 [(0, .ref 46), (1, vI v1), (2, vI v2)] [] M (f_Widths_tideAt v1 v2 M)) h
  unfold f_Widths_tideAt
  refine tq_aload_n 0 (E := E_Widths_tideAt d) (pc := 0) (cks_at k_Widths_tideAt 0 rfl rfl) rfl ?_
  refine tq_iload_n 1 (E := E_Widths_tideAt d) (pc := 1) (cks_at k_Widths_tideAt 1 rfl rfl) rfl ?_
  refine tq_aload_n 0 (E := E_Widths_tideAt d) (pc := 2) (cks_at k_Widths_tideAt 2 rfl rfl) rfl ?_
  refine tq_getR (j := 39) (E := E_Widths_tideAt d) (pc := 3) (cks_at k_Widths_tideAt 3 rfl rfl) fo_Widths_19 so_46 rfl sp_46_1 ?_
  refine tq_getR (j := 40) (E := E_Widths_tideAt d) (pc := 6) (cks_at k_Widths_tideAt 4 rfl rfl) fo_Widths_43 so_39 rfl sp_39_1 ?_
  refine tq_iload_n 1 (E := E_Widths_tideAt d) (pc := 9) (cks_at k_Widths_tideAt 5 rfl rfl) rfl ?_
  refine tq_S2 (E := E_Widths_tideAt d) (pc := 10) (cks_at k_Widths_tideAt 6 rfl rfl) mk_BT_cell lk_Widths_33 (Nat.le_of_ble_eq_true rfl) (c_BT_cell (d + 1) 40 sa_40 v1 M) (k_I fun r2 M1 => ?_)
  refine tq_iload_n 2 (E := E_Widths_tideAt d) (pc := 13) (cks_at k_Widths_tideAt 7 rfl rfl) rfl ?_
  refine tq_V3 (E := E_Widths_tideAt d) (pc := 14) (cks_at k_Widths_tideAt 8 rfl rfl) mk_Widths_tideBy lk_Widths_48 rc_46 (Nat.le_of_ble_eq_true rfl) (c_Widths_tideBy (d + 0) v1 r2 v2 M1) (k_I fun r4 M3 => ?_)
  exact tq_iret (E := E_Widths_tideAt d) (pc := 17) (cks_at k_Widths_tideAt 9 rfl rfl) rfl
abbrev E_Ways_load (d : Nat) : Ev := (Ct (d + 1), "BreathTown$Ways", prog_11_method_4_code, 6, False, 0, (fun _ => 0), (Option.some Jvm.ClassFile.FieldType.int))
def f_Ways_load_B5 (kH : Int → Int → Int → Int → Mm → Option (Int × Mm)) (v1 v2 v3 v4 : Int) (M : Mm) : Option (Int × Mm) :=
  if i32 (M 48 10) ≤ i32 v4 then
    some (v3, M)
  else
    bI (f_BT_cell 53 v4 M) (fun r2 M1 =>
    bI (f_BT_cell 52 v4 M1) (fun r4 M3 =>
    if ¬ i32 r4 = i32 v1 then
      kH v1 v2 v3 (v4 + 1) M3
    else
      if i32 (v2 - r2) < 0 then
        kH v1 v2 v3 (v4 + 1) M3
      else
        bI (f_BT_cell 8 v1 M3) (fun r6 M5 =>
        if i32 r6 ≤ i32 (v2 - r2) then
          kH v1 v2 v3 (v4 + 1) M5
        else
          bI (f_BT_cell 54 v4 M5) (fun r8 M7 =>
          kH v1 v2 (v3 + r8) (v4 + 1) M7))))
set_option maxRecDepth 20000 in
set_option maxHeartbeats 4000000 in
theorem w_Ways_load_B5 (d : Nat) (kH : Int → Int → Int → Int → Mm → Option (Int × Mm)) (hkH : ∀ (v1 v2 v3 v4 : Int) (M : Mm), T (E_Ways_load d) injI 5 [(0, .ref 48), (1, vI v1), (2, vI v2), (3, vI v3), (4, vI v4)] [] M (kH v1 v2 v3 v4 M)) (v1 v2 v3 v4 : Int) (M : Mm) : T (E_Ways_load d) injI 5 [(0, .ref 48), (1, vI v1), (2, vI v2), (3, vI v3), (4, vI v4)] [] M (f_Ways_load_B5 kH v1 v2 v3 v4 M) := by
  unfold f_Ways_load_B5
  refine tq_iload 4 (E := E_Ways_load d) (pc := 5) (cks_at k_Ways_load 4 rfl rfl) rfl ?_
  refine tq_aload_n 0 (E := E_Ways_load d) (pc := 7) (cks_at k_Ways_load 5 rfl rfl) rfl ?_
  refine tq_getI (E := E_Ways_load d) (pc := 8) (cks_at k_Ways_load 6 rfl rfl) fo_Ways_56 so_48 rfl (by decide) ?_
  refine tq_icmp_ge (E := E_Ways_load d) (pc := 11) (tgt := 79) (cks_at k_Ways_load 7 rfl rfl) (by decide) ?_ ?_
  · refine tq_iload_n 3 (E := E_Ways_load d) (pc := 79) (cks_at k_Ways_load 39 rfl rfl) rfl ?_
    exact tq_iret (E := E_Ways_load d) (pc := 80) (cks_at k_Ways_load 40 rfl rfl) rfl
  · refine tq_iload_n 2 (E := E_Ways_load d) (pc := 14) (cks_at k_Ways_load 8 rfl rfl) rfl ?_
    refine tq_aload_n 0 (E := E_Ways_load d) (pc := 15) (cks_at k_Ways_load 9 rfl rfl) rfl ?_
    refine tq_getR (j := 53) (E := E_Ways_load d) (pc := 16) (cks_at k_Ways_load 10 rfl rfl) fo_Ways_24 so_48 rfl sp_48_8 ?_
    refine tq_iload 4 (E := E_Ways_load d) (pc := 19) (cks_at k_Ways_load 11 rfl rfl) rfl ?_
    refine tq_S2 (E := E_Ways_load d) (pc := 21) (cks_at k_Ways_load 12 rfl rfl) mk_BT_cell lk_Ways_47 (Nat.le_of_ble_eq_true rfl) (c_BT_cell (d + 0) 53 sa_53 v4 M) (k_I fun r2 M1 => ?_)
    refine tq_isub (E := E_Ways_load d) (pc := 24) (cks_at k_Ways_load 13 rfl rfl) ?_
    refine tq_istore (E := E_Ways_load d) (pc := 25) (cks_at k_Ways_load 14 rfl rfl) (show 5 < 6 by decide) rfl ?_
    refine tq_aload_n 1 (E := E_Ways_load d) (pc := 27) (cks_at k_Ways_load 15 rfl rfl) rfl ?_
    refine tq_getR (j := 52) (E := E_Ways_load d) (pc := 28) (cks_at k_Ways_load 16 rfl rfl) fo_Ways_21 so_48 rfl sp_48_7 ?_
    refine tq_iload 5 (E := E_Ways_load d) (pc := 31) (cks_at k_Ways_load 17 rfl rfl) rfl ?_
    refine tq_S2 (E := E_Ways_load d) (pc := 33) (cks_at k_Ways_load 18 rfl rfl) mk_BT_cell lk_Ways_47 (Nat.le_of_ble_eq_true rfl) (c_BT_cell (d + 0) 52 sa_52 v4 M1) (k_I fun r4 M3 => ?_)
    refine tq_iload_n 2 (E := E_Ways_load d) (pc := 36) (cks_at k_Ways_load 19 rfl rfl) rfl ?_
    refine tq_icmp_ne (E := E_Ways_load d) (pc := 37) (tgt := 73) (cks_at k_Ways_load 20 rfl rfl) (by decide) ?_ ?_
    · refine tq_iinc 5 (E := E_Ways_load d) (pc := 73) (cks_at k_Ways_load 37 rfl rfl) rfl (show 4 < 6 by decide) rfl ?_
      refine tq_goto (tgt := 5) (E := E_Ways_load d) (pc := 76) (cks_at k_Ways_load 38 rfl rfl) (by decide) ?_
      exact tq_sub [2, 3, 4, 5, 0] rfl (hkH v1 v2 v3 (v4 + 1) M3)
    · refine tq_iload 0 (E := E_Ways_load d) (pc := 40) (cks_at k_Ways_load 21 rfl rfl) rfl ?_
      refine tq_if_lt (E := E_Ways_load d) (pc := 42) (tgt := 73) (cks_at k_Ways_load 22 rfl rfl) (by decide) ?_ ?_
      · refine tq_iinc 5 (E := E_Ways_load d) (pc := 73) (cks_at k_Ways_load 37 rfl rfl) rfl (show 4 < 6 by decide) rfl ?_
        refine tq_goto (tgt := 5) (E := E_Ways_load d) (pc := 76) (cks_at k_Ways_load 38 rfl rfl) (by decide) ?_
        exact tq_sub [2, 3, 4, 5, 0] rfl (hkH v1 v2 v3 (v4 + 1) M3)
      · refine tq_iload 0 (E := E_Ways_load d) (pc := 45) (cks_at k_Ways_load 23 rfl rfl) rfl ?_
        refine tq_aload_n 1 (E := E_Ways_load d) (pc := 47) (cks_at k_Ways_load 24 rfl rfl) rfl ?_
        refine tq_getR (j := 3) (E := E_Ways_load d) (pc := 48) (cks_at k_Ways_load 25 rfl rfl) fo_Ways_30 so_48 rfl sp_48_0 ?_
        refine tq_getR (j := 8) (E := E_Ways_load d) (pc := 51) (cks_at k_Ways_load 26 rfl rfl) fo_Ways_42 so_3 rfl sp_3_4 ?_
        refine tq_iload_n 2 (E := E_Ways_load d) (pc := 54) (cks_at k_Ways_load 27 rfl rfl) rfl ?_
        refine tq_S2 (E := E_Ways_load d) (pc := 55) (cks_at k_Ways_load 28 rfl rfl) mk_BT_cell lk_Ways_47 (Nat.le_of_ble_eq_true rfl) (c_BT_cell (d + 0) 8 sa_8 v1 M3) (k_I fun r6 M5 => ?_)
        refine tq_icmp_ge (E := E_Ways_load d) (pc := 58) (tgt := 73) (cks_at k_Ways_load 29 rfl rfl) (by decide) ?_ ?_
        · refine tq_iinc 5 (E := E_Ways_load d) (pc := 73) (cks_at k_Ways_load 37 rfl rfl) rfl (show 4 < 6 by decide) rfl ?_
          refine tq_goto (tgt := 5) (E := E_Ways_load d) (pc := 76) (cks_at k_Ways_load 38 rfl rfl) (by decide) ?_
          exact tq_sub [2, 3, 4, 5, 0] rfl (hkH v1 v2 v3 (v4 + 1) M5)
        · refine tq_iload_n 4 (E := E_Ways_load d) (pc := 61) (cks_at k_Ways_load 30 rfl rfl) rfl ?_
          refine tq_aload_n 1 (E := E_Ways_load d) (pc := 62) (cks_at k_Ways_load 31 rfl rfl) rfl ?_
          refine tq_getR (j := 54) (E := E_Ways_load d) (pc := 63) (cks_at k_Ways_load 32 rfl rfl) fo_Ways_27 so_48 rfl sp_48_9 ?_
          refine tq_iload 5 (E := E_Ways_load d) (pc := 66) (cks_at k_Ways_load 33 rfl rfl) rfl ?_
          refine tq_S2 (E := E_Ways_load d) (pc := 68) (cks_at k_Ways_load 34 rfl rfl) mk_BT_cell lk_Ways_47 (Nat.le_of_ble_eq_true rfl) (c_BT_cell (d + 0) 54 sa_54 v4 M5) (k_I fun r8 M7 => ?_)
          refine tq_iadd (E := E_Ways_load d) (pc := 71) (cks_at k_Ways_load 35 rfl rfl) ?_
          refine tq_istore_n (E := E_Ways_load d) (pc := 72) (cks_at k_Ways_load 36 rfl rfl) (show 3 < 6 by decide) rfl ?_
          refine tq_iinc 5 (E := E_Ways_load d) (pc := 73) (cks_at k_Ways_load 37 rfl rfl) rfl (show 4 < 6 by decide) rfl ?_
          refine tq_goto (tgt := 5) (E := E_Ways_load d) (pc := 76) (cks_at k_Ways_load 38 rfl rfl) (by decide) ?_
          exact tq_sub [3, 4, 5, 1, 0] rfl (hkH v1 v2 (v3 + r8) (v4 + 1) M7)
def f_Ways_load_L5 : Nat → Int × Int × Int × Int × Mm → Option (Int × Mm) := lp fun kH s => f_Ways_load_B5 (fun v1 v2 v3 v4 M => kH (v1, v2, v3, v4, M)) s.1 s.2.1 s.2.2.1 s.2.2.2.1 s.2.2.2.2
set_option maxRecDepth 20000 in
set_option maxHeartbeats 4000000 in
theorem w_Ways_load_L5 (d : Nat) (n : Nat) (s : Int × Int × Int × Int × Mm) : T (E_Ways_load d) injI 5 [(0, .ref 48), (1, vI s.1), (2, vI s.2.1), (3, vI s.2.2.1), (4, vI s.2.2.2.1)] [] s.2.2.2.2 (f_Ways_load_L5 n s) :=
  tq_lp (fun s => [(0, .ref 48), (1, vI s.1), (2, vI s.2.1), (3, vI s.2.2.1), (4, vI s.2.2.2.1)]) (fun s => s.2.2.2.2) (fun kH hH s => w_Ways_load_B5 d (fun v1 v2 v3 v4 M => kH (v1, v2, v3, v4, M)) (fun v1 v2 v3 v4 M => hH (v1, v2, v3, v4, M)) s.1 s.2.1 s.2.2.1 s.2.2.2.1 s.2.2.2.2) n s
def f_Ways_load (v1 : Int) (v2 : Int) (M : Mm) : Option (Int × Mm) :=
  f_Ways_load_L5 FU (v1, v2, 0, 0, M)
set_option maxRecDepth 20000 in
set_option maxHeartbeats 4000000 in
theorem c_Ways_load (d : Nat) (v1 : Int) (v2 : Int) (M : Mm) (Q : Option Value → Mm → Prop) (h : sat injI (f_Ways_load v1 v2 M) Q) : Ct (d + 2) y_Ways_load [.ref 48, vI v1, vI v2] M Q := by
  refine ct_in (d := d + 1) mk_Ways_load (Nat.le_of_ble_eq_true rfl) (?_ : T (E_Ways_load d) injI 0 [(0, .ref 48), (1, vI v1), (2, vI v2)] [] M (f_Ways_load v1 v2 M)) h
  unfold f_Ways_load
  refine tq_iconst (E := E_Ways_load d) (pc := 0) (cks_at k_Ways_load 0 rfl rfl) ?_
  refine tq_istore_n (E := E_Ways_load d) (pc := 1) (cks_at k_Ways_load 1 rfl rfl) (show 3 < 6 by decide) rfl ?_
  refine tq_iconst (E := E_Ways_load d) (pc := 2) (cks_at k_Ways_load 2 rfl rfl) ?_
  refine tq_istore (E := E_Ways_load d) (pc := 3) (cks_at k_Ways_load 3 rfl rfl) (show 4 < 6 by decide) rfl ?_
  exact tq_sub [2, 3, 4, 1, 0] rfl (w_Ways_load_L5 d FU (v1, v2, 0, 0, M))
abbrev E_Ways_firstPass (d : Nat) : Ev := (Ct (d + 4), "BreathTown$Ways", prog_11_method_2_code, 10, False, 0, (fun _ => 0), (Option.some Jvm.ClassFile.FieldType.int))
def f_Ways_firstPass_J89 (kH : Int → Int → Int → Int → Int → Int → Int → Mm → Option (Int × Mm)) (v1 v2 v4 v5 v6 v8 s0 : Int) (M : Mm) : Option (Int × Mm) :=
  if i32 s0 < i32 v5 then
    kH v1 v2 v4 v5 v6 s0 (v8 + 1) M
  else
    some ((v8 - v5) + 1, M)
set_option maxRecDepth 20000 in
set_option maxHeartbeats 4000000 in
theorem w_Ways_firstPass_J89 (d : Nat) (kH : Int → Int → Int → Int → Int → Int → Int → Mm → Option (Int × Mm)) (hkH : ∀ (v1 v2 v4 v5 v6 v7 v8 : Int) (M : Mm), T (E_Ways_firstPass d) injI 32 [(0, .ref 48), (1, vI v1), (2, vI v2), (4, vI v4), (5, vI v5), (6, vI v6), (7, vI v7), (8, vI v8)] [] M (kH v1 v2 v4 v5 v6 v7 v8 M)) (v1 v2 v4 v5 v6 v8 s0 : Int) (M : Mm) : T (E_Ways_firstPass d) injI 89 [(0, .ref 48), (1, vI v1), (2, vI v2), (4, vI v4), (5, vI v5), (6, vI v6), (8, vI v8)] [vI s0] M (f_Ways_firstPass_J89 kH v1 v2 v4 v5 v6 v8 s0 M) := by
  unfold f_Ways_firstPass_J89
  refine tq_istore (E := E_Ways_firstPass d) (pc := 89) (cks_at k_Ways_firstPass 46 rfl rfl) (show 7 < 10 by decide) rfl ?_
  refine tq_iload 0 (E := E_Ways_firstPass d) (pc := 91) (cks_at k_Ways_firstPass 47 rfl rfl) rfl ?_
  refine tq_iload 5 (E := E_Ways_firstPass d) (pc := 93) (cks_at k_Ways_firstPass 48 rfl rfl) rfl ?_
  refine tq_icmp_lt (E := E_Ways_firstPass d) (pc := 95) (tgt := 106) (cks_at k_Ways_firstPass 49 rfl rfl) (by decide) ?_ ?_
  · refine tq_iinc 7 (E := E_Ways_firstPass d) (pc := 106) (cks_at k_Ways_firstPass 56 rfl rfl) rfl (show 8 < 10 by decide) rfl ?_
    refine tq_goto (tgt := 32) (E := E_Ways_firstPass d) (pc := 109) (cks_at k_Ways_firstPass 57 rfl rfl) (by decide) ?_
    exact tq_sub [2, 3, 4, 5, 6, 7, 1, 0] rfl (hkH v1 v2 v4 v5 v6 s0 (v8 + 1) M)
  · refine tq_iload 7 (E := E_Ways_firstPass d) (pc := 98) (cks_at k_Ways_firstPass 50 rfl rfl) rfl ?_
    refine tq_iload 5 (E := E_Ways_firstPass d) (pc := 100) (cks_at k_Ways_firstPass 51 rfl rfl) rfl ?_
    refine tq_isub (E := E_Ways_firstPass d) (pc := 102) (cks_at k_Ways_firstPass 52 rfl rfl) ?_
    refine tq_iconst (E := E_Ways_firstPass d) (pc := 103) (cks_at k_Ways_firstPass 53 rfl rfl) ?_
    refine tq_iadd (E := E_Ways_firstPass d) (pc := 104) (cks_at k_Ways_firstPass 54 rfl rfl) ?_
    exact tq_iret (E := E_Ways_firstPass d) (pc := 105) (cks_at k_Ways_firstPass 55 rfl rfl) rfl
def f_Ways_firstPass_J62 (kH : Int → Int → Int → Int → Int → Int → Int → Mm → Option (Int × Mm)) (v1 v2 v4 v5 v6 v7 v8 s0 : Int) (M : Mm) : Option (Int × Mm) :=
  bI (f_Widths_widthBy v1 v6 v8 M) (fun r8 M7 =>
  if i32 r8 < i32 s0 then
    f_Ways_firstPass_J89 kH v1 v2 v4 v5 v6 v8 0 M7
  else
    f_Ways_firstPass_J89 kH v1 v2 v4 v5 v6 v8 (v7 + 1) M7)
set_option maxRecDepth 20000 in
set_option maxHeartbeats 4000000 in
theorem w_Ways_firstPass_J62 (d : Nat) (kH : Int → Int → Int → Int → Int → Int → Int → Mm → Option (Int × Mm)) (hkH : ∀ (v1 v2 v4 v5 v6 v7 v8 : Int) (M : Mm), T (E_Ways_firstPass d) injI 32 [(0, .ref 48), (1, vI v1), (2, vI v2), (4, vI v4), (5, vI v5), (6, vI v6), (7, vI v7), (8, vI v8)] [] M (kH v1 v2 v4 v5 v6 v7 v8 M)) (v1 v2 v4 v5 v6 v7 v8 s0 : Int) (M : Mm) : T (E_Ways_firstPass d) injI 62 [(0, .ref 48), (1, vI v1), (2, vI v2), (4, vI v4), (5, vI v5), (6, vI v6), (7, vI v7), (8, vI v8)] [vI s0] M (f_Ways_firstPass_J62 kH v1 v2 v4 v5 v6 v7 v8 s0 M) := by
  unfold f_Ways_firstPass_J62
  refine tq_istore (E := E_Ways_firstPass d) (pc := 62) (cks_at k_Ways_firstPass 32 rfl rfl) (show 9 < 10 by decide) rfl ?_
  refine tq_aload_n 1 (E := E_Ways_firstPass d) (pc := 64) (cks_at k_Ways_firstPass 33 rfl rfl) rfl ?_
  refine tq_getR (j := 46) (E := E_Ways_firstPass d) (pc := 65) (cks_at k_Ways_firstPass 34 rfl rfl) fo_Ways_38 so_48 rfl sp_48_2 ?_
  refine tq_iload_n 2 (E := E_Ways_firstPass d) (pc := 68) (cks_at k_Ways_firstPass 35 rfl rfl) rfl ?_
  refine tq_iload 6 (E := E_Ways_firstPass d) (pc := 69) (cks_at k_Ways_firstPass 36 rfl rfl) rfl ?_
  refine tq_iload 8 (E := E_Ways_firstPass d) (pc := 71) (cks_at k_Ways_firstPass 37 rfl rfl) rfl ?_
  refine tq_V3 (E := E_Ways_firstPass d) (pc := 73) (cks_at k_Ways_firstPass 38 rfl rfl) mk_Widths_widthBy lk_Ways_64 rc_46 (Nat.le_of_ble_eq_true rfl) (c_Widths_widthBy (d + 0) v1 v6 v8 M) (k_I fun r8 M7 => ?_)
  refine tq_iload 0 (E := E_Ways_firstPass d) (pc := 76) (cks_at k_Ways_firstPass 39 rfl rfl) rfl ?_
  refine tq_icmp_lt (E := E_Ways_firstPass d) (pc := 78) (tgt := 88) (cks_at k_Ways_firstPass 40 rfl rfl) (by decide) ?_ ?_
  · refine tq_iconst (E := E_Ways_firstPass d) (pc := 88) (cks_at k_Ways_firstPass 45 rfl rfl) ?_
    exact tq_sub [1, 2, 3, 4, 5, 6, 8] rfl (w_Ways_firstPass_J89 d kH hkH v1 v2 v4 v5 v6 v8 0 M7)
  · refine tq_iload 7 (E := E_Ways_firstPass d) (pc := 81) (cks_at k_Ways_firstPass 41 rfl rfl) rfl ?_
    refine tq_iconst (E := E_Ways_firstPass d) (pc := 83) (cks_at k_Ways_firstPass 42 rfl rfl) ?_
    refine tq_iadd (E := E_Ways_firstPass d) (pc := 84) (cks_at k_Ways_firstPass 43 rfl rfl) ?_
    refine tq_goto (tgt := 89) (E := E_Ways_firstPass d) (pc := 85) (cks_at k_Ways_firstPass 44 rfl rfl) (by decide) ?_
    exact tq_sub [1, 2, 3, 4, 5, 6, 8] rfl (w_Ways_firstPass_J89 d kH hkH v1 v2 v4 v5 v6 v8 (v7 + 1) M7)
def f_Ways_firstPass_B32 (kH : Int → Int → Int → Int → Int → Int → Int → Mm → Option (Int × Mm)) (v1 v2 v4 v5 v6 v7 v8 : Int) (M : Mm) : Option (Int × Mm) :=
  if i32 (v4 + v5) ≤ i32 v8 then
    some ((-1), M)
  else
    if ¬ i32 (M 48 10) = 0 then
      bI (f_Ways_load v1 v8 M) (fun r6 M5 =>
      f_Ways_firstPass_J62 kH v1 v2 v4 v5 v6 v7 v8 (v2 + r6) M5)
    else
      f_Ways_firstPass_J62 kH v1 v2 v4 v5 v6 v7 v8 v2 M
set_option maxRecDepth 20000 in
set_option maxHeartbeats 4000000 in
theorem w_Ways_firstPass_B32 (d : Nat) (kH : Int → Int → Int → Int → Int → Int → Int → Mm → Option (Int × Mm)) (hkH : ∀ (v1 v2 v4 v5 v6 v7 v8 : Int) (M : Mm), T (E_Ways_firstPass d) injI 32 [(0, .ref 48), (1, vI v1), (2, vI v2), (4, vI v4), (5, vI v5), (6, vI v6), (7, vI v7), (8, vI v8)] [] M (kH v1 v2 v4 v5 v6 v7 v8 M)) (v1 v2 v4 v5 v6 v7 v8 : Int) (M : Mm) : T (E_Ways_firstPass d) injI 32 [(0, .ref 48), (1, vI v1), (2, vI v2), (4, vI v4), (5, vI v5), (6, vI v6), (7, vI v7), (8, vI v8)] [] M (f_Ways_firstPass_B32 kH v1 v2 v4 v5 v6 v7 v8 M) := by
  unfold f_Ways_firstPass_B32
  refine tq_iload 7 (E := E_Ways_firstPass d) (pc := 32) (cks_at k_Ways_firstPass 16 rfl rfl) rfl ?_
  refine tq_iload 3 (E := E_Ways_firstPass d) (pc := 34) (cks_at k_Ways_firstPass 17 rfl rfl) rfl ?_
  refine tq_iload 4 (E := E_Ways_firstPass d) (pc := 36) (cks_at k_Ways_firstPass 18 rfl rfl) rfl ?_
  refine tq_iadd (E := E_Ways_firstPass d) (pc := 38) (cks_at k_Ways_firstPass 19 rfl rfl) ?_
  refine tq_icmp_ge (E := E_Ways_firstPass d) (pc := 39) (tgt := 112) (cks_at k_Ways_firstPass 20 rfl rfl) (by decide) ?_ ?_
  · refine tq_iconst (E := E_Ways_firstPass d) (pc := 112) (cks_at k_Ways_firstPass 58 rfl rfl) ?_
    exact tq_iret (E := E_Ways_firstPass d) (pc := 113) (cks_at k_Ways_firstPass 59 rfl rfl) rfl
  · refine tq_aload_n 0 (E := E_Ways_firstPass d) (pc := 42) (cks_at k_Ways_firstPass 21 rfl rfl) rfl ?_
    refine tq_getI (E := E_Ways_firstPass d) (pc := 43) (cks_at k_Ways_firstPass 22 rfl rfl) fo_Ways_56 so_48 rfl (by decide) ?_
    refine tq_if_ne (E := E_Ways_firstPass d) (pc := 46) (tgt := 53) (cks_at k_Ways_firstPass 23 rfl rfl) (by decide) ?_ ?_
    · refine tq_iload_n 2 (E := E_Ways_firstPass d) (pc := 53) (cks_at k_Ways_firstPass 26 rfl rfl) rfl ?_
      refine tq_aload_n 0 (E := E_Ways_firstPass d) (pc := 54) (cks_at k_Ways_firstPass 27 rfl rfl) rfl ?_
      refine tq_iload_n 1 (E := E_Ways_firstPass d) (pc := 55) (cks_at k_Ways_firstPass 28 rfl rfl) rfl ?_
      refine tq_iload 7 (E := E_Ways_firstPass d) (pc := 56) (cks_at k_Ways_firstPass 29 rfl rfl) rfl ?_
      refine tq_V2 (E := E_Ways_firstPass d) (pc := 58) (cks_at k_Ways_firstPass 30 rfl rfl) mk_Ways_load lk_Ways_60 rc_48 (Nat.le_of_ble_eq_true rfl) (c_Ways_load (d + 2) v1 v8 M) (k_I fun r6 M5 => ?_)
      refine tq_iadd (E := E_Ways_firstPass d) (pc := 61) (cks_at k_Ways_firstPass 31 rfl rfl) ?_
      exact tq_sub [0, 1, 2, 3, 4, 5, 6, 7] rfl (w_Ways_firstPass_J62 d kH hkH v1 v2 v4 v5 v6 v7 v8 (v2 + r6) M5)
    · refine tq_iload_n 2 (E := E_Ways_firstPass d) (pc := 49) (cks_at k_Ways_firstPass 24 rfl rfl) rfl ?_
      refine tq_goto (tgt := 62) (E := E_Ways_firstPass d) (pc := 50) (cks_at k_Ways_firstPass 25 rfl rfl) (by decide) ?_
      exact tq_sub [0, 1, 2, 3, 4, 5, 6, 7] rfl (w_Ways_firstPass_J62 d kH hkH v1 v2 v4 v5 v6 v7 v8 v2 M)
def f_Ways_firstPass_L32 : Nat → Int × Int × Int × Int × Int × Int × Int × Mm → Option (Int × Mm) := lp fun kH s => f_Ways_firstPass_B32 (fun v1 v2 v4 v5 v6 v7 v8 M => kH (v1, v2, v4, v5, v6, v7, v8, M)) s.1 s.2.1 s.2.2.1 s.2.2.2.1 s.2.2.2.2.1 s.2.2.2.2.2.1 s.2.2.2.2.2.2.1 s.2.2.2.2.2.2.2
set_option maxRecDepth 20000 in
set_option maxHeartbeats 4000000 in
theorem w_Ways_firstPass_L32 (d : Nat) (n : Nat) (s : Int × Int × Int × Int × Int × Int × Int × Mm) : T (E_Ways_firstPass d) injI 32 [(0, .ref 48), (1, vI s.1), (2, vI s.2.1), (4, vI s.2.2.1), (5, vI s.2.2.2.1), (6, vI s.2.2.2.2.1), (7, vI s.2.2.2.2.2.1), (8, vI s.2.2.2.2.2.2.1)] [] s.2.2.2.2.2.2.2 (f_Ways_firstPass_L32 n s) :=
  tq_lp (fun s => [(0, .ref 48), (1, vI s.1), (2, vI s.2.1), (4, vI s.2.2.1), (5, vI s.2.2.2.1), (6, vI s.2.2.2.2.1), (7, vI s.2.2.2.2.2.1), (8, vI s.2.2.2.2.2.2.1)]) (fun s => s.2.2.2.2.2.2.2) (fun kH hH s => w_Ways_firstPass_B32 d (fun v1 v2 v4 v5 v6 v7 v8 M => kH (v1, v2, v4, v5, v6, v7, v8, M)) (fun v1 v2 v4 v5 v6 v7 v8 M => hH (v1, v2, v4, v5, v6, v7, v8, M)) s.1 s.2.1 s.2.2.1 s.2.2.2.1 s.2.2.2.2.1 s.2.2.2.2.2.1 s.2.2.2.2.2.2.1 s.2.2.2.2.2.2.2) n s
def f_Ways_firstPass (v1 : Int) (v2 : Int) (v3 : Int) (v4 : Int) (M : Mm) : Option (Int × Mm) :=
  bI (f_BT_cell 8 v1 M) (fun r2 M1 =>
  bI (f_BT_cell 40 v1 M1) (fun r4 M3 =>
  f_Ways_firstPass_L32 FU (v1, v2, v4, r2, r4, 0, v3, M3)))
set_option maxRecDepth 20000 in
set_option maxHeartbeats 4000000 in
theorem c_Ways_firstPass (d : Nat) (v1 : Int) (v2 : Int) (v3 : Int) (v4 : Int) (M : Mm) (Q : Option Value → Mm → Prop) (h : sat injI (f_Ways_firstPass v1 v2 v3 v4 M) Q) : Ct (d + 5) y_Ways_firstPass [.ref 48, vI v1, vI v2, vI v3, vI v4] M Q := by
  refine ct_in (d := d + 4) mk_Ways_firstPass (Nat.le_of_ble_eq_true rfl) (?_ : T (E_Ways_firstPass d) injI 0 [(0, .ref 48), (1, vI v1), (2, vI v2), (3, vI v3), (4, vI v4)] [] M (f_Ways_firstPass v1 v2 v3 v4 M)) h
  unfold f_Ways_firstPass
  refine tq_aload_n 0 (E := E_Ways_firstPass d) (pc := 0) (cks_at k_Ways_firstPass 0 rfl rfl) rfl ?_
  refine tq_getR (j := 3) (E := E_Ways_firstPass d) (pc := 1) (cks_at k_Ways_firstPass 1 rfl rfl) fo_Ways_30 so_48 rfl sp_48_0 ?_
  refine tq_getR (j := 8) (E := E_Ways_firstPass d) (pc := 4) (cks_at k_Ways_firstPass 2 rfl rfl) fo_Ways_42 so_3 rfl sp_3_4 ?_
  refine tq_iload_n 1 (E := E_Ways_firstPass d) (pc := 7) (cks_at k_Ways_firstPass 3 rfl rfl) rfl ?_
  refine tq_S2 (E := E_Ways_firstPass d) (pc := 8) (cks_at k_Ways_firstPass 4 rfl rfl) mk_BT_cell lk_Ways_47 (Nat.le_of_ble_eq_true rfl) (c_BT_cell (d + 3) 8 sa_8 v1 M) (k_I fun r2 M1 => ?_)
  refine tq_istore (E := E_Ways_firstPass d) (pc := 11) (cks_at k_Ways_firstPass 5 rfl rfl) (show 5 < 10 by decide) rfl ?_
  refine tq_aload_n 1 (E := E_Ways_firstPass d) (pc := 13) (cks_at k_Ways_firstPass 6 rfl rfl) rfl ?_
  refine tq_getR (j := 39) (E := E_Ways_firstPass d) (pc := 14) (cks_at k_Ways_firstPass 7 rfl rfl) fo_Ways_34 so_48 rfl sp_48_1 ?_
  refine tq_getR (j := 40) (E := E_Ways_firstPass d) (pc := 17) (cks_at k_Ways_firstPass 8 rfl rfl) fo_Ways_51 so_39 rfl sp_39_1 ?_
  refine tq_iload_n 2 (E := E_Ways_firstPass d) (pc := 20) (cks_at k_Ways_firstPass 9 rfl rfl) rfl ?_
  refine tq_S2 (E := E_Ways_firstPass d) (pc := 21) (cks_at k_Ways_firstPass 10 rfl rfl) mk_BT_cell lk_Ways_47 (Nat.le_of_ble_eq_true rfl) (c_BT_cell (d + 3) 40 sa_40 v1 M1) (k_I fun r4 M3 => ?_)
  refine tq_istore (E := E_Ways_firstPass d) (pc := 24) (cks_at k_Ways_firstPass 11 rfl rfl) (show 6 < 10 by decide) rfl ?_
  refine tq_iconst (E := E_Ways_firstPass d) (pc := 26) (cks_at k_Ways_firstPass 12 rfl rfl) ?_
  refine tq_istore (E := E_Ways_firstPass d) (pc := 27) (cks_at k_Ways_firstPass 13 rfl rfl) (show 7 < 10 by decide) rfl ?_
  refine tq_iload_n 6 (E := E_Ways_firstPass d) (pc := 29) (cks_at k_Ways_firstPass 14 rfl rfl) rfl ?_
  refine tq_istore (E := E_Ways_firstPass d) (pc := 30) (cks_at k_Ways_firstPass 15 rfl rfl) (show 8 < 10 by decide) rfl ?_
  exact tq_sub [4, 5, 6, 8, 3, 2, 1, 0] rfl (w_Ways_firstPass_L32 d FU (v1, v2, v4, r2, r4, 0, v3, M3))
abbrev E_Quest_passed (d : Nat) : Ev := (Ct (d + 5), "BreathTown$Question", prog_5_method_7_code, 5, False, 0, (fun _ => 0), (Option.some Jvm.ClassFile.FieldType.int))
def f_Quest_passed_B5 (kH : Int → Int → Int → Int → Mm → Option (Int × Mm)) (v1 v2 v3 v4 : Int) (M : Mm) : Option (Int × Mm) :=
  bI (f_Told_count 3 1 M) (fun r2 M1 =>
  if i32 r2 ≤ i32 v4 then
    some (v3, M1)
  else
    bI (f_BT_cell 13 v1 M1) (fun r4 M3 =>
    bI (f_Ways_firstPass v4 r4 v2 v2 M3) (fun r6 M5 =>
    if i32 r6 = i32 ((-1)) then
      kH v1 v2 (v3 + 0) (v4 + 1) M5
    else
      kH v1 v2 (v3 + 1) (v4 + 1) M5)))
set_option maxRecDepth 20000 in
set_option maxHeartbeats 4000000 in
theorem w_Quest_passed_B5 (d : Nat) (kH : Int → Int → Int → Int → Mm → Option (Int × Mm)) (hkH : ∀ (v1 v2 v3 v4 : Int) (M : Mm), T (E_Quest_passed d) injI 5 [(0, .ref 70), (1, vI v1), (2, vI v2), (3, vI v3), (4, vI v4)] [] M (kH v1 v2 v3 v4 M)) (v1 v2 v3 v4 : Int) (M : Mm) : T (E_Quest_passed d) injI 5 [(0, .ref 70), (1, vI v1), (2, vI v2), (3, vI v3), (4, vI v4)] [] M (f_Quest_passed_B5 kH v1 v2 v3 v4 M) := by
  unfold f_Quest_passed_B5
  refine tq_iload 4 (E := E_Quest_passed d) (pc := 5) (cks_at k_Quest_passed 4 rfl rfl) rfl ?_
  refine tq_aload_n 0 (E := E_Quest_passed d) (pc := 7) (cks_at k_Quest_passed 5 rfl rfl) rfl ?_
  refine tq_getR (j := 3) (E := E_Quest_passed d) (pc := 8) (cks_at k_Quest_passed 6 rfl rfl) fo_Quest_26 so_70 rfl sp_70_1 ?_
  refine tq_iconst (E := E_Quest_passed d) (pc := 11) (cks_at k_Quest_passed 7 rfl rfl) ?_
  refine tq_V1 (E := E_Quest_passed d) (pc := 12) (cks_at k_Quest_passed 8 rfl rfl) mk_Told_count lk_Quest_137 (isTold_rc (Or.inl rfl)) (Nat.le_of_ble_eq_true rfl) (c_Told_count (d + 3) 3 (Or.inl rfl) 1 M) (k_I fun r2 M1 => ?_)
  refine tq_icmp_ge (E := E_Quest_passed d) (pc := 15) (tgt := 58) (cks_at k_Quest_passed 9 rfl rfl) (by decide) ?_ ?_
  · refine tq_iload_n 3 (E := E_Quest_passed d) (pc := 58) (cks_at k_Quest_passed 31 rfl rfl) rfl ?_
    exact tq_iret (E := E_Quest_passed d) (pc := 59) (cks_at k_Quest_passed 32 rfl rfl) rfl
  · refine tq_iload_n 3 (E := E_Quest_passed d) (pc := 18) (cks_at k_Quest_passed 10 rfl rfl) rfl ?_
    refine tq_aload_n 0 (E := E_Quest_passed d) (pc := 19) (cks_at k_Quest_passed 11 rfl rfl) rfl ?_
    refine tq_getR (j := 48) (E := E_Quest_passed d) (pc := 20) (cks_at k_Quest_passed 12 rfl rfl) fo_Quest_38 so_70 rfl sp_70_4 ?_
    refine tq_iload 4 (E := E_Quest_passed d) (pc := 23) (cks_at k_Quest_passed 13 rfl rfl) rfl ?_
    refine tq_aload_n 0 (E := E_Quest_passed d) (pc := 25) (cks_at k_Quest_passed 14 rfl rfl) rfl ?_
    refine tq_getR (j := 3) (E := E_Quest_passed d) (pc := 26) (cks_at k_Quest_passed 15 rfl rfl) fo_Quest_26 so_70 rfl sp_70_1 ?_
    refine tq_getR (j := 13) (E := E_Quest_passed d) (pc := 29) (cks_at k_Quest_passed 16 rfl rfl) fo_Quest_154 so_3 rfl sp_3_9 ?_
    refine tq_iload_n 1 (E := E_Quest_passed d) (pc := 32) (cks_at k_Quest_passed 17 rfl rfl) rfl ?_
    refine tq_S2 (E := E_Quest_passed d) (pc := 33) (cks_at k_Quest_passed 18 rfl rfl) mk_BT_cell lk_Quest_113 (Nat.le_of_ble_eq_true rfl) (c_BT_cell (d + 4) 13 sa_13 v1 M1) (k_I fun r4 M3 => ?_)
    refine tq_iload_n 2 (E := E_Quest_passed d) (pc := 36) (cks_at k_Quest_passed 19 rfl rfl) rfl ?_
    refine tq_iload_n 2 (E := E_Quest_passed d) (pc := 37) (cks_at k_Quest_passed 20 rfl rfl) rfl ?_
    refine tq_V4 (E := E_Quest_passed d) (pc := 38) (cks_at k_Quest_passed 21 rfl rfl) mk_Ways_firstPass lk_Quest_157 rc_48 (Nat.le_of_ble_eq_true rfl) (c_Ways_firstPass (d + 0) v4 r4 v2 v2 M3) (k_I fun r6 M5 => ?_)
    refine tq_iconst (E := E_Quest_passed d) (pc := 41) (cks_at k_Quest_passed 22 rfl rfl) ?_
    refine tq_icmp_eq (E := E_Quest_passed d) (pc := 42) (tgt := 49) (cks_at k_Quest_passed 23 rfl rfl) (by decide) ?_ ?_
    · refine tq_iconst (E := E_Quest_passed d) (pc := 49) (cks_at k_Quest_passed 26 rfl rfl) ?_
      refine tq_iadd (E := E_Quest_passed d) (pc := 50) (cks_at k_Quest_passed 27 rfl rfl) ?_
      refine tq_istore_n (E := E_Quest_passed d) (pc := 51) (cks_at k_Quest_passed 28 rfl rfl) (show 3 < 5 by decide) rfl ?_
      refine tq_iinc 4 (E := E_Quest_passed d) (pc := 52) (cks_at k_Quest_passed 29 rfl rfl) rfl (show 4 < 5 by decide) rfl ?_
      refine tq_goto (tgt := 5) (E := E_Quest_passed d) (pc := 55) (cks_at k_Quest_passed 30 rfl rfl) (by decide) ?_
      exact tq_sub [2, 3, 4, 1, 0] rfl (hkH v1 v2 (v3 + 0) (v4 + 1) M5)
    · refine tq_iconst (E := E_Quest_passed d) (pc := 45) (cks_at k_Quest_passed 24 rfl rfl) ?_
      refine tq_goto (tgt := 50) (E := E_Quest_passed d) (pc := 46) (cks_at k_Quest_passed 25 rfl rfl) (by decide) ?_
      refine tq_iadd (E := E_Quest_passed d) (pc := 50) (cks_at k_Quest_passed 27 rfl rfl) ?_
      refine tq_istore_n (E := E_Quest_passed d) (pc := 51) (cks_at k_Quest_passed 28 rfl rfl) (show 3 < 5 by decide) rfl ?_
      refine tq_iinc 4 (E := E_Quest_passed d) (pc := 52) (cks_at k_Quest_passed 29 rfl rfl) rfl (show 4 < 5 by decide) rfl ?_
      refine tq_goto (tgt := 5) (E := E_Quest_passed d) (pc := 55) (cks_at k_Quest_passed 30 rfl rfl) (by decide) ?_
      exact tq_sub [2, 3, 4, 1, 0] rfl (hkH v1 v2 (v3 + 1) (v4 + 1) M5)
def f_Quest_passed_L5 : Nat → Int × Int × Int × Int × Mm → Option (Int × Mm) := lp fun kH s => f_Quest_passed_B5 (fun v1 v2 v3 v4 M => kH (v1, v2, v3, v4, M)) s.1 s.2.1 s.2.2.1 s.2.2.2.1 s.2.2.2.2
set_option maxRecDepth 20000 in
set_option maxHeartbeats 4000000 in
theorem w_Quest_passed_L5 (d : Nat) (n : Nat) (s : Int × Int × Int × Int × Mm) : T (E_Quest_passed d) injI 5 [(0, .ref 70), (1, vI s.1), (2, vI s.2.1), (3, vI s.2.2.1), (4, vI s.2.2.2.1)] [] s.2.2.2.2 (f_Quest_passed_L5 n s) :=
  tq_lp (fun s => [(0, .ref 70), (1, vI s.1), (2, vI s.2.1), (3, vI s.2.2.1), (4, vI s.2.2.2.1)]) (fun s => s.2.2.2.2) (fun kH hH s => w_Quest_passed_B5 d (fun v1 v2 v3 v4 M => kH (v1, v2, v3, v4, M)) (fun v1 v2 v3 v4 M => hH (v1, v2, v3, v4, M)) s.1 s.2.1 s.2.2.1 s.2.2.2.1 s.2.2.2.2) n s
def f_Quest_passed (v1 : Int) (v2 : Int) (M : Mm) : Option (Int × Mm) :=
  f_Quest_passed_L5 FU (v1, v2, 0, 0, M)
set_option maxRecDepth 20000 in
set_option maxHeartbeats 4000000 in
theorem c_Quest_passed (d : Nat) (v1 : Int) (v2 : Int) (M : Mm) (Q : Option Value → Mm → Prop) (h : sat injI (f_Quest_passed v1 v2 M) Q) : Ct (d + 6) y_Quest_passed [.ref 70, vI v1, vI v2] M Q := by
  refine ct_in (d := d + 5) mk_Quest_passed (Nat.le_of_ble_eq_true rfl) (?_ : T (E_Quest_passed d) injI 0 [(0, .ref 70), (1, vI v1), (2, vI v2)] [] M (f_Quest_passed v1 v2 M)) h
  unfold f_Quest_passed
  refine tq_iconst (E := E_Quest_passed d) (pc := 0) (cks_at k_Quest_passed 0 rfl rfl) ?_
  refine tq_istore_n (E := E_Quest_passed d) (pc := 1) (cks_at k_Quest_passed 1 rfl rfl) (show 3 < 5 by decide) rfl ?_
  refine tq_iconst (E := E_Quest_passed d) (pc := 2) (cks_at k_Quest_passed 2 rfl rfl) ?_
  refine tq_istore (E := E_Quest_passed d) (pc := 3) (cks_at k_Quest_passed 3 rfl rfl) (show 4 < 5 by decide) rfl ?_
  exact tq_sub [2, 3, 4, 1, 0] rfl (w_Quest_passed_L5 d FU (v1, v2, 0, 0, M))
abbrev E_Quest_fillTables (d : Nat) : Ev := (Ct (d + 6), "BreathTown$Question", prog_5_method_6_code, 3, False, 0, (fun _ => 0), (Option.none : Option Jvm.ClassFile.FieldType))
def f_Quest_fillTables_B132 (kH : Int → Int → Mm → Option (Mm)) (v1 v2 : Int) (M : Mm) : Option (Mm) :=
  bI (f_Told_count 3 2 M) (fun r9 M8 =>
  if i32 r9 ≤ i32 v2 then
    some M8
  else
    bI (f_Quest_passed v2 v1 M8) (fun r11 M10 =>
    bV (f_BT_setCell 74 (24 + v2) r11 M10) (fun M12 =>
    kH v1 (v2 + 1) M12)))
set_option maxRecDepth 20000 in
set_option maxHeartbeats 4000000 in
theorem w_Quest_fillTables_B132 (d : Nat) (kH : Int → Int → Mm → Option (Mm)) (hkH : ∀ (v1 v2 : Int) (M : Mm), T (E_Quest_fillTables d) injV 132 [(0, .ref 70), (1, vI v1), (2, vI v2)] [] M (kH v1 v2 M)) (v1 v2 : Int) (M : Mm) : T (E_Quest_fillTables d) injV 132 [(0, .ref 70), (1, vI v1), (2, vI v2)] [] M (f_Quest_fillTables_B132 kH v1 v2 M) := by
  unfold f_Quest_fillTables_B132
  refine tq_iload_n 2 (E := E_Quest_fillTables d) (pc := 132) (cks_at k_Quest_fillTables 64 rfl rfl) rfl ?_
  refine tq_aload_n 0 (E := E_Quest_fillTables d) (pc := 133) (cks_at k_Quest_fillTables 65 rfl rfl) rfl ?_
  refine tq_getR (j := 3) (E := E_Quest_fillTables d) (pc := 134) (cks_at k_Quest_fillTables 66 rfl rfl) fo_Quest_26 so_70 rfl sp_70_1 ?_
  refine tq_iconst (E := E_Quest_fillTables d) (pc := 137) (cks_at k_Quest_fillTables 67 rfl rfl) ?_
  refine tq_V1 (E := E_Quest_fillTables d) (pc := 138) (cks_at k_Quest_fillTables 68 rfl rfl) mk_Told_count lk_Quest_137 (isTold_rc (Or.inl rfl)) (Nat.le_of_ble_eq_true rfl) (c_Told_count (d + 4) 3 (Or.inl rfl) 2 M) (k_I fun r9 M8 => ?_)
  refine tq_icmp_ge (E := E_Quest_fillTables d) (pc := 141) (tgt := 170) (cks_at k_Quest_fillTables 69 rfl rfl) (by decide) ?_ ?_
  · exact tq_vret (E := E_Quest_fillTables d) (pc := 170) (cks_at k_Quest_fillTables 83 rfl rfl) rfl
  · refine tq_aload_n 0 (E := E_Quest_fillTables d) (pc := 144) (cks_at k_Quest_fillTables 70 rfl rfl) rfl ?_
    refine tq_getR (j := 71) (E := E_Quest_fillTables d) (pc := 145) (cks_at k_Quest_fillTables 71 rfl rfl) fo_Quest_12 so_70 rfl sp_70_5 ?_
    refine tq_getR (j := 74) (E := E_Quest_fillTables d) (pc := 148) (cks_at k_Quest_fillTables 72 rfl rfl) fo_Quest_126 so_71 rfl sp_71_2 ?_
    refine tq_bipush (E := E_Quest_fillTables d) (pc := 151) (cks_at k_Quest_fillTables 73 rfl rfl) (by decide) (by decide) ?_
    refine tq_iload_n 2 (E := E_Quest_fillTables d) (pc := 153) (cks_at k_Quest_fillTables 74 rfl rfl) rfl ?_
    refine tq_iadd (E := E_Quest_fillTables d) (pc := 154) (cks_at k_Quest_fillTables 75 rfl rfl) ?_
    refine tq_aload_n 0 (E := E_Quest_fillTables d) (pc := 155) (cks_at k_Quest_fillTables 76 rfl rfl) rfl ?_
    refine tq_iload_n 2 (E := E_Quest_fillTables d) (pc := 156) (cks_at k_Quest_fillTables 77 rfl rfl) rfl ?_
    refine tq_iload_n 1 (E := E_Quest_fillTables d) (pc := 157) (cks_at k_Quest_fillTables 78 rfl rfl) rfl ?_
    refine tq_V2 (E := E_Quest_fillTables d) (pc := 158) (cks_at k_Quest_fillTables 79 rfl rfl) mk_Quest_passed lk_Quest_151 rc_70 (Nat.le_of_ble_eq_true rfl) (c_Quest_passed (d + 0) v2 v1 M8) (k_I fun r11 M10 => ?_)
    refine tq_S3 (E := E_Quest_fillTables d) (pc := 161) (cks_at k_Quest_fillTables 80 rfl rfl) mk_BT_setCell lk_Quest_109 (Nat.le_of_ble_eq_true rfl) (c_BT_setCell (d + 5) 74 sa_74 (24 + v2) r11 M10) (k_V fun M12 => ?_)
    refine tq_iinc 2 (E := E_Quest_fillTables d) (pc := 164) (cks_at k_Quest_fillTables 81 rfl rfl) rfl (show 2 < 3 by decide) rfl ?_
    refine tq_goto (tgt := 132) (E := E_Quest_fillTables d) (pc := 167) (cks_at k_Quest_fillTables 82 rfl rfl) (by decide) ?_
    exact tq_sub [1, 2, 0] rfl (hkH v1 (v2 + 1) M12)
def f_Quest_fillTables_L132 : Nat → Int × Int × Mm → Option (Mm) := lp fun kH s => f_Quest_fillTables_B132 (fun v1 v2 M => kH (v1, v2, M)) s.1 s.2.1 s.2.2
set_option maxRecDepth 20000 in
set_option maxHeartbeats 4000000 in
theorem w_Quest_fillTables_L132 (d : Nat) (n : Nat) (s : Int × Int × Mm) : T (E_Quest_fillTables d) injV 132 [(0, .ref 70), (1, vI s.1), (2, vI s.2.1)] [] s.2.2 (f_Quest_fillTables_L132 n s) :=
  tq_lp (fun s => [(0, .ref 70), (1, vI s.1), (2, vI s.2.1)]) (fun s => s.2.2) (fun kH hH s => w_Quest_fillTables_B132 d (fun v1 v2 M => kH (v1, v2, M)) (fun v1 v2 M => hH (v1, v2, M)) s.1 s.2.1 s.2.2) n s
def f_Quest_fillTables_J118 (v1 : Int) (M : Mm) : Option (Mm) :=
  bI (f_Code_uses 71 ((-8)) M) (fun r7 M6 =>
  if i32 r7 = 0 then
    some M6
  else
    f_Quest_fillTables_L132 FU (v1, 0, M6))
set_option maxRecDepth 20000 in
set_option maxHeartbeats 4000000 in
theorem w_Quest_fillTables_J118 (d : Nat) (v1 : Int) (M : Mm) : T (E_Quest_fillTables d) injV 118 [(0, .ref 70), (1, vI v1)] [] M (f_Quest_fillTables_J118 v1 M) := by
  unfold f_Quest_fillTables_J118
  refine tq_aload_n 0 (E := E_Quest_fillTables d) (pc := 118) (cks_at k_Quest_fillTables 57 rfl rfl) rfl ?_
  refine tq_getR (j := 71) (E := E_Quest_fillTables d) (pc := 119) (cks_at k_Quest_fillTables 58 rfl rfl) fo_Quest_12 so_70 rfl sp_70_5 ?_
  refine tq_bipush (E := E_Quest_fillTables d) (pc := 122) (cks_at k_Quest_fillTables 59 rfl rfl) (by decide) (by decide) ?_
  refine tq_V1 (E := E_Quest_fillTables d) (pc := 124) (cks_at k_Quest_fillTables 60 rfl rfl) mk_Code_uses lk_Quest_133 (isCode_rc (Or.inr (Or.inr rfl))) (Nat.le_of_ble_eq_true rfl) (c_Code_uses (d + 5) 71 (Or.inr (Or.inr rfl)) ((-8)) M) (k_I fun r7 M6 => ?_)
  refine tq_if_eq (E := E_Quest_fillTables d) (pc := 127) (tgt := 170) (cks_at k_Quest_fillTables 61 rfl rfl) (by decide) ?_ ?_
  · exact tq_vret (E := E_Quest_fillTables d) (pc := 170) (cks_at k_Quest_fillTables 83 rfl rfl) rfl
  · refine tq_iconst (E := E_Quest_fillTables d) (pc := 130) (cks_at k_Quest_fillTables 62 rfl rfl) ?_
    refine tq_istore_n (E := E_Quest_fillTables d) (pc := 131) (cks_at k_Quest_fillTables 63 rfl rfl) (show 2 < 3 by decide) rfl ?_
    exact tq_sub [1, 2, 0] rfl (w_Quest_fillTables_L132 d FU (v1, 0, M6))
def f_Quest_fillTables_B77 (kH : Int → Int → Mm → Option (Mm)) (kx118 : Int → Mm → Option (Mm)) (v1 v2 : Int) (M : Mm) : Option (Mm) :=
  bI (f_Told_count 3 1 M) (fun r14 M13 =>
  if i32 r14 ≤ i32 v2 then
    kx118 v1 M13
  else
    bI (f_Widths_tideAt v2 v1 M13) (fun r16 M15 =>
    bV (f_BT_setCell 74 (12 + v2) r16 M15) (fun M17 =>
    kH v1 (v2 + 1) M17)))
set_option maxRecDepth 20000 in
set_option maxHeartbeats 4000000 in
theorem w_Quest_fillTables_B77 (d : Nat) (kH : Int → Int → Mm → Option (Mm)) (kx118 : Int → Mm → Option (Mm)) (hkH : ∀ (v1 v2 : Int) (M : Mm), T (E_Quest_fillTables d) injV 77 [(0, .ref 70), (1, vI v1), (2, vI v2)] [] M (kH v1 v2 M)) (hkx118 : ∀ (v1 : Int) (M : Mm), T (E_Quest_fillTables d) injV 118 [(0, .ref 70), (1, vI v1)] [] M (kx118 v1 M)) (v1 v2 : Int) (M : Mm) : T (E_Quest_fillTables d) injV 77 [(0, .ref 70), (1, vI v1), (2, vI v2)] [] M (f_Quest_fillTables_B77 kH kx118 v1 v2 M) := by
  unfold f_Quest_fillTables_B77
  refine tq_iload_n 2 (E := E_Quest_fillTables d) (pc := 77) (cks_at k_Quest_fillTables 37 rfl rfl) rfl ?_
  refine tq_aload_n 0 (E := E_Quest_fillTables d) (pc := 78) (cks_at k_Quest_fillTables 38 rfl rfl) rfl ?_
  refine tq_getR (j := 3) (E := E_Quest_fillTables d) (pc := 79) (cks_at k_Quest_fillTables 39 rfl rfl) fo_Quest_26 so_70 rfl sp_70_1 ?_
  refine tq_iconst (E := E_Quest_fillTables d) (pc := 82) (cks_at k_Quest_fillTables 40 rfl rfl) ?_
  refine tq_V1 (E := E_Quest_fillTables d) (pc := 83) (cks_at k_Quest_fillTables 41 rfl rfl) mk_Told_count lk_Quest_137 (isTold_rc (Or.inl rfl)) (Nat.le_of_ble_eq_true rfl) (c_Told_count (d + 4) 3 (Or.inl rfl) 1 M) (k_I fun r14 M13 => ?_)
  refine tq_icmp_ge (E := E_Quest_fillTables d) (pc := 86) (tgt := 118) (cks_at k_Quest_fillTables 42 rfl rfl) (by decide) ?_ ?_
  · exact tq_sub [0, 1] rfl (hkx118 v1 M13)
  · refine tq_aload_n 0 (E := E_Quest_fillTables d) (pc := 89) (cks_at k_Quest_fillTables 43 rfl rfl) rfl ?_
    refine tq_getR (j := 71) (E := E_Quest_fillTables d) (pc := 90) (cks_at k_Quest_fillTables 44 rfl rfl) fo_Quest_12 so_70 rfl sp_70_5 ?_
    refine tq_getR (j := 74) (E := E_Quest_fillTables d) (pc := 93) (cks_at k_Quest_fillTables 45 rfl rfl) fo_Quest_126 so_71 rfl sp_71_2 ?_
    refine tq_bipush (E := E_Quest_fillTables d) (pc := 96) (cks_at k_Quest_fillTables 46 rfl rfl) (by decide) (by decide) ?_
    refine tq_iload_n 2 (E := E_Quest_fillTables d) (pc := 98) (cks_at k_Quest_fillTables 47 rfl rfl) rfl ?_
    refine tq_iadd (E := E_Quest_fillTables d) (pc := 99) (cks_at k_Quest_fillTables 48 rfl rfl) ?_
    refine tq_aload_n 0 (E := E_Quest_fillTables d) (pc := 100) (cks_at k_Quest_fillTables 49 rfl rfl) rfl ?_
    refine tq_getR (j := 46) (E := E_Quest_fillTables d) (pc := 101) (cks_at k_Quest_fillTables 50 rfl rfl) fo_Quest_34 so_70 rfl sp_70_3 ?_
    refine tq_iload_n 2 (E := E_Quest_fillTables d) (pc := 104) (cks_at k_Quest_fillTables 51 rfl rfl) rfl ?_
    refine tq_iload_n 1 (E := E_Quest_fillTables d) (pc := 105) (cks_at k_Quest_fillTables 52 rfl rfl) rfl ?_
    refine tq_V2 (E := E_Quest_fillTables d) (pc := 106) (cks_at k_Quest_fillTables 53 rfl rfl) mk_Widths_tideAt lk_Quest_148 rc_46 (Nat.le_of_ble_eq_true rfl) (c_Widths_tideAt (d + 3) v2 v1 M13) (k_I fun r16 M15 => ?_)
    refine tq_S3 (E := E_Quest_fillTables d) (pc := 109) (cks_at k_Quest_fillTables 54 rfl rfl) mk_BT_setCell lk_Quest_109 (Nat.le_of_ble_eq_true rfl) (c_BT_setCell (d + 5) 74 sa_74 (12 + v2) r16 M15) (k_V fun M17 => ?_)
    refine tq_iinc 2 (E := E_Quest_fillTables d) (pc := 112) (cks_at k_Quest_fillTables 55 rfl rfl) rfl (show 2 < 3 by decide) rfl ?_
    refine tq_goto (tgt := 77) (E := E_Quest_fillTables d) (pc := 115) (cks_at k_Quest_fillTables 56 rfl rfl) (by decide) ?_
    exact tq_sub [1, 2, 0] rfl (hkH v1 (v2 + 1) M17)
def f_Quest_fillTables_L77 (kx118 : Int → Mm → Option (Mm)) : Nat → Int × Int × Mm → Option (Mm) := lp fun kH s => f_Quest_fillTables_B77 (fun v1 v2 M => kH (v1, v2, M)) kx118 s.1 s.2.1 s.2.2
set_option maxRecDepth 20000 in
set_option maxHeartbeats 4000000 in
theorem w_Quest_fillTables_L77 (d : Nat) (kx118 : Int → Mm → Option (Mm)) (hkx118 : ∀ (v1 : Int) (M : Mm), T (E_Quest_fillTables d) injV 118 [(0, .ref 70), (1, vI v1)] [] M (kx118 v1 M)) (n : Nat) (s : Int × Int × Mm) : T (E_Quest_fillTables d) injV 77 [(0, .ref 70), (1, vI s.1), (2, vI s.2.1)] [] s.2.2 (f_Quest_fillTables_L77 kx118 n s) :=
  tq_lp (fun s => [(0, .ref 70), (1, vI s.1), (2, vI s.2.1)]) (fun s => s.2.2) (fun kH hH s => w_Quest_fillTables_B77 d (fun v1 v2 M => kH (v1, v2, M)) kx118 (fun v1 v2 M => hH (v1, v2, M)) hkx118 s.1 s.2.1 s.2.2) n s
def f_Quest_fillTables_J63 (v1 : Int) (M : Mm) : Option (Mm) :=
  bI (f_Code_uses 71 ((-7)) M) (fun r5 M4 =>
  if i32 r5 = 0 then
    f_Quest_fillTables_J118 v1 M4
  else
    f_Quest_fillTables_L77 (fun v1 M18 => f_Quest_fillTables_J118 v1 M18) FU (v1, 0, M4))
set_option maxRecDepth 20000 in
set_option maxHeartbeats 4000000 in
theorem w_Quest_fillTables_J63 (d : Nat) (v1 : Int) (M : Mm) : T (E_Quest_fillTables d) injV 63 [(0, .ref 70), (1, vI v1)] [] M (f_Quest_fillTables_J63 v1 M) := by
  unfold f_Quest_fillTables_J63
  refine tq_aload_n 0 (E := E_Quest_fillTables d) (pc := 63) (cks_at k_Quest_fillTables 30 rfl rfl) rfl ?_
  refine tq_getR (j := 71) (E := E_Quest_fillTables d) (pc := 64) (cks_at k_Quest_fillTables 31 rfl rfl) fo_Quest_12 so_70 rfl sp_70_5 ?_
  refine tq_bipush (E := E_Quest_fillTables d) (pc := 67) (cks_at k_Quest_fillTables 32 rfl rfl) (by decide) (by decide) ?_
  refine tq_V1 (E := E_Quest_fillTables d) (pc := 69) (cks_at k_Quest_fillTables 33 rfl rfl) mk_Code_uses lk_Quest_133 (isCode_rc (Or.inr (Or.inr rfl))) (Nat.le_of_ble_eq_true rfl) (c_Code_uses (d + 5) 71 (Or.inr (Or.inr rfl)) ((-7)) M) (k_I fun r5 M4 => ?_)
  refine tq_if_eq (E := E_Quest_fillTables d) (pc := 72) (tgt := 118) (cks_at k_Quest_fillTables 34 rfl rfl) (by decide) ?_ ?_
  · exact tq_sub [0, 1] rfl (w_Quest_fillTables_J118 d v1 M4)
  · refine tq_iconst (E := E_Quest_fillTables d) (pc := 75) (cks_at k_Quest_fillTables 35 rfl rfl) ?_
    refine tq_istore_n (E := E_Quest_fillTables d) (pc := 76) (cks_at k_Quest_fillTables 36 rfl rfl) (show 2 < 3 by decide) rfl ?_
    exact tq_sub [1, 2, 0] rfl (w_Quest_fillTables_L77 d _ (fun v1 M18 => by
        exact tq_sub [0, 1] rfl (w_Quest_fillTables_J118 d v1 M18)) FU (v1, 0, M4))
def f_Quest_fillTables_B25 (kH : Int → Int → Mm → Option (Mm)) (kx63 : Int → Mm → Option (Mm)) (v1 v2 : Int) (M : Mm) : Option (Mm) :=
  bI (f_Told_count 3 1 M) (fun r20 M19 =>
  if i32 r20 ≤ i32 v2 then
    kx63 v1 M19
  else
    bI (f_Widths_widthAt v2 v1 M19) (fun r22 M21 =>
    bV (f_BT_setCell 74 v2 r22 M21) (fun M23 =>
    kH v1 (v2 + 1) M23)))
set_option maxRecDepth 20000 in
set_option maxHeartbeats 4000000 in
theorem w_Quest_fillTables_B25 (d : Nat) (kH : Int → Int → Mm → Option (Mm)) (kx63 : Int → Mm → Option (Mm)) (hkH : ∀ (v1 v2 : Int) (M : Mm), T (E_Quest_fillTables d) injV 25 [(0, .ref 70), (1, vI v1), (2, vI v2)] [] M (kH v1 v2 M)) (hkx63 : ∀ (v1 : Int) (M : Mm), T (E_Quest_fillTables d) injV 63 [(0, .ref 70), (1, vI v1)] [] M (kx63 v1 M)) (v1 v2 : Int) (M : Mm) : T (E_Quest_fillTables d) injV 25 [(0, .ref 70), (1, vI v1), (2, vI v2)] [] M (f_Quest_fillTables_B25 kH kx63 v1 v2 M) := by
  unfold f_Quest_fillTables_B25
  refine tq_iload_n 2 (E := E_Quest_fillTables d) (pc := 25) (cks_at k_Quest_fillTables 12 rfl rfl) rfl ?_
  refine tq_aload_n 0 (E := E_Quest_fillTables d) (pc := 26) (cks_at k_Quest_fillTables 13 rfl rfl) rfl ?_
  refine tq_getR (j := 3) (E := E_Quest_fillTables d) (pc := 27) (cks_at k_Quest_fillTables 14 rfl rfl) fo_Quest_26 so_70 rfl sp_70_1 ?_
  refine tq_iconst (E := E_Quest_fillTables d) (pc := 30) (cks_at k_Quest_fillTables 15 rfl rfl) ?_
  refine tq_V1 (E := E_Quest_fillTables d) (pc := 31) (cks_at k_Quest_fillTables 16 rfl rfl) mk_Told_count lk_Quest_137 (isTold_rc (Or.inl rfl)) (Nat.le_of_ble_eq_true rfl) (c_Told_count (d + 4) 3 (Or.inl rfl) 1 M) (k_I fun r20 M19 => ?_)
  refine tq_icmp_ge (E := E_Quest_fillTables d) (pc := 34) (tgt := 63) (cks_at k_Quest_fillTables 17 rfl rfl) (by decide) ?_ ?_
  · exact tq_sub [0, 1] rfl (hkx63 v1 M19)
  · refine tq_aload_n 0 (E := E_Quest_fillTables d) (pc := 37) (cks_at k_Quest_fillTables 18 rfl rfl) rfl ?_
    refine tq_getR (j := 71) (E := E_Quest_fillTables d) (pc := 38) (cks_at k_Quest_fillTables 19 rfl rfl) fo_Quest_12 so_70 rfl sp_70_5 ?_
    refine tq_getR (j := 74) (E := E_Quest_fillTables d) (pc := 41) (cks_at k_Quest_fillTables 20 rfl rfl) fo_Quest_126 so_71 rfl sp_71_2 ?_
    refine tq_iload_n 2 (E := E_Quest_fillTables d) (pc := 44) (cks_at k_Quest_fillTables 21 rfl rfl) rfl ?_
    refine tq_aload_n 0 (E := E_Quest_fillTables d) (pc := 45) (cks_at k_Quest_fillTables 22 rfl rfl) rfl ?_
    refine tq_getR (j := 46) (E := E_Quest_fillTables d) (pc := 46) (cks_at k_Quest_fillTables 23 rfl rfl) fo_Quest_34 so_70 rfl sp_70_3 ?_
    refine tq_iload_n 2 (E := E_Quest_fillTables d) (pc := 49) (cks_at k_Quest_fillTables 24 rfl rfl) rfl ?_
    refine tq_iload_n 1 (E := E_Quest_fillTables d) (pc := 50) (cks_at k_Quest_fillTables 25 rfl rfl) rfl ?_
    refine tq_V2 (E := E_Quest_fillTables d) (pc := 51) (cks_at k_Quest_fillTables 26 rfl rfl) mk_Widths_widthAt lk_Quest_143 rc_46 (Nat.le_of_ble_eq_true rfl) (c_Widths_widthAt (d + 1) v2 v1 M19) (k_I fun r22 M21 => ?_)
    refine tq_S3 (E := E_Quest_fillTables d) (pc := 54) (cks_at k_Quest_fillTables 27 rfl rfl) mk_BT_setCell lk_Quest_109 (Nat.le_of_ble_eq_true rfl) (c_BT_setCell (d + 5) 74 sa_74 v2 r22 M21) (k_V fun M23 => ?_)
    refine tq_iinc 2 (E := E_Quest_fillTables d) (pc := 57) (cks_at k_Quest_fillTables 28 rfl rfl) rfl (show 2 < 3 by decide) rfl ?_
    refine tq_goto (tgt := 25) (E := E_Quest_fillTables d) (pc := 60) (cks_at k_Quest_fillTables 29 rfl rfl) (by decide) ?_
    exact tq_sub [1, 2, 0] rfl (hkH v1 (v2 + 1) M23)
def f_Quest_fillTables_L25 (kx63 : Int → Mm → Option (Mm)) : Nat → Int × Int × Mm → Option (Mm) := lp fun kH s => f_Quest_fillTables_B25 (fun v1 v2 M => kH (v1, v2, M)) kx63 s.1 s.2.1 s.2.2
set_option maxRecDepth 20000 in
set_option maxHeartbeats 4000000 in
theorem w_Quest_fillTables_L25 (d : Nat) (kx63 : Int → Mm → Option (Mm)) (hkx63 : ∀ (v1 : Int) (M : Mm), T (E_Quest_fillTables d) injV 63 [(0, .ref 70), (1, vI v1)] [] M (kx63 v1 M)) (n : Nat) (s : Int × Int × Mm) : T (E_Quest_fillTables d) injV 25 [(0, .ref 70), (1, vI s.1), (2, vI s.2.1)] [] s.2.2 (f_Quest_fillTables_L25 kx63 n s) :=
  tq_lp (fun s => [(0, .ref 70), (1, vI s.1), (2, vI s.2.1)]) (fun s => s.2.2) (fun kH hH s => w_Quest_fillTables_B25 d (fun v1 v2 M => kH (v1, v2, M)) kx63 (fun v1 v2 M => hH (v1, v2, M)) hkx63 s.1 s.2.1 s.2.2) n s
def f_Quest_fillTables (v1 : Int) (M : Mm) : Option (Mm) :=
  bV (f_BT_fill 74 0 M) (fun M1 =>
  bI (f_Code_uses 71 ((-6)) M1) (fun r3 M2 =>
  if i32 r3 = 0 then
    f_Quest_fillTables_J63 v1 M2
  else
    f_Quest_fillTables_L25 (fun v1 M24 => f_Quest_fillTables_J63 v1 M24) FU (v1, 0, M2)))
set_option maxRecDepth 20000 in
set_option maxHeartbeats 4000000 in
theorem c_Quest_fillTables (d : Nat) (v1 : Int) (M : Mm) (Q : Option Value → Mm → Prop) (h : sat injV (f_Quest_fillTables v1 M) Q) : Ct (d + 7) y_Quest_fillTables [.ref 70, vI v1] M Q := by
  refine ct_in (d := d + 6) mk_Quest_fillTables (Nat.le_of_ble_eq_true rfl) (?_ : T (E_Quest_fillTables d) injV 0 [(0, .ref 70), (1, vI v1)] [] M (f_Quest_fillTables v1 M)) h
  unfold f_Quest_fillTables
  refine tq_aload_n 0 (E := E_Quest_fillTables d) (pc := 0) (cks_at k_Quest_fillTables 0 rfl rfl) rfl ?_
  refine tq_getR (j := 71) (E := E_Quest_fillTables d) (pc := 1) (cks_at k_Quest_fillTables 1 rfl rfl) fo_Quest_12 so_70 rfl sp_70_5 ?_
  refine tq_getR (j := 74) (E := E_Quest_fillTables d) (pc := 4) (cks_at k_Quest_fillTables 2 rfl rfl) fo_Quest_126 so_71 rfl sp_71_2 ?_
  refine tq_iconst (E := E_Quest_fillTables d) (pc := 7) (cks_at k_Quest_fillTables 3 rfl rfl) ?_
  refine tq_S2 (E := E_Quest_fillTables d) (pc := 8) (cks_at k_Quest_fillTables 4 rfl rfl) mk_BT_fill lk_Quest_129 (Nat.le_of_ble_eq_true rfl) (c_BT_fill (d + 5) 74 sa_74 0 M) (k_V fun M1 => ?_)
  refine tq_aload_n 0 (E := E_Quest_fillTables d) (pc := 11) (cks_at k_Quest_fillTables 5 rfl rfl) rfl ?_
  refine tq_getR (j := 71) (E := E_Quest_fillTables d) (pc := 12) (cks_at k_Quest_fillTables 6 rfl rfl) fo_Quest_12 so_70 rfl sp_70_5 ?_
  refine tq_bipush (E := E_Quest_fillTables d) (pc := 15) (cks_at k_Quest_fillTables 7 rfl rfl) (by decide) (by decide) ?_
  refine tq_V1 (E := E_Quest_fillTables d) (pc := 17) (cks_at k_Quest_fillTables 8 rfl rfl) mk_Code_uses lk_Quest_133 (isCode_rc (Or.inr (Or.inr rfl))) (Nat.le_of_ble_eq_true rfl) (c_Code_uses (d + 5) 71 (Or.inr (Or.inr rfl)) ((-6)) M1) (k_I fun r3 M2 => ?_)
  refine tq_if_eq (E := E_Quest_fillTables d) (pc := 20) (tgt := 63) (cks_at k_Quest_fillTables 9 rfl rfl) (by decide) ?_ ?_
  · exact tq_sub [0, 1] rfl (w_Quest_fillTables_J63 d v1 M2)
  · refine tq_iconst (E := E_Quest_fillTables d) (pc := 23) (cks_at k_Quest_fillTables 10 rfl rfl) ?_
    refine tq_istore_n (E := E_Quest_fillTables d) (pc := 24) (cks_at k_Quest_fillTables 11 rfl rfl) (show 2 < 3 by decide) rfl ?_
    exact tq_sub [1, 2, 0] rfl (w_Quest_fillTables_L25 d _ (fun v1 M24 => by
        exact tq_sub [0, 1] rfl (w_Quest_fillTables_J63 d v1 M24)) FU (v1, 0, M2))
abbrev E_Quest_workOut (d : Nat) : Ev := (Ct (d + 7), "BreathTown$Question", prog_5_method_4_code, 2, False, 0, (fun _ => 0), (Option.none : Option Jvm.ClassFile.FieldType))
def f_Quest_workOut_B2 (kH : Int → Mm → Option (Mm)) (v1 : Int) (M : Mm) : Option (Mm) :=
  if i32 201 ≤ i32 v1 then
    some M
  else
    bV (f_Quest_fillTables ((M 39 8) + v1) M) (fun M1 =>
    bI (f_Code_value 71 0 (M1 71 3) 0 0 ((M1 39 8) + v1) M1) (fun r3 M2 =>
    bV (f_BT_setCell 75 v1 r3 M2) (fun M4 =>
    kH (v1 + 1) M4)))
set_option maxRecDepth 20000 in
set_option maxHeartbeats 4000000 in
theorem w_Quest_workOut_B2 (d : Nat) (kH : Int → Mm → Option (Mm)) (hkH : ∀ (v1 : Int) (M : Mm), T (E_Quest_workOut d) injV 2 [(0, .ref 70), (1, vI v1)] [] M (kH v1 M)) (v1 : Int) (M : Mm) : T (E_Quest_workOut d) injV 2 [(0, .ref 70), (1, vI v1)] [] M (f_Quest_workOut_B2 kH v1 M) := by
  unfold f_Quest_workOut_B2
  refine tq_iload_n 1 (E := E_Quest_workOut d) (pc := 2) (cks_at k_Quest_workOut 2 rfl rfl) rfl ?_
  refine tq_sipush (E := E_Quest_workOut d) (pc := 3) (cks_at k_Quest_workOut 3 rfl rfl) (by decide) (by decide) ?_
  refine tq_icmp_ge (E := E_Quest_workOut d) (pc := 6) (tgt := 62) (cks_at k_Quest_workOut 4 rfl rfl) (by decide) ?_ ?_
  · exact tq_vret (E := E_Quest_workOut d) (pc := 62) (cks_at k_Quest_workOut 32 rfl rfl) rfl
  · refine tq_aload_n 0 (E := E_Quest_workOut d) (pc := 9) (cks_at k_Quest_workOut 5 rfl rfl) rfl ?_
    refine tq_aload_n 0 (E := E_Quest_workOut d) (pc := 10) (cks_at k_Quest_workOut 6 rfl rfl) rfl ?_
    refine tq_getR (j := 39) (E := E_Quest_workOut d) (pc := 11) (cks_at k_Quest_workOut 7 rfl rfl) fo_Quest_30 so_70 rfl sp_70_2 ?_
    refine tq_getI (E := E_Quest_workOut d) (pc := 14) (cks_at k_Quest_workOut 8 rfl rfl) fo_Quest_92 so_39 rfl (by decide) ?_
    refine tq_iload_n 1 (E := E_Quest_workOut d) (pc := 17) (cks_at k_Quest_workOut 9 rfl rfl) rfl ?_
    refine tq_iadd (E := E_Quest_workOut d) (pc := 18) (cks_at k_Quest_workOut 10 rfl rfl) ?_
    refine tq_V1 (E := E_Quest_workOut d) (pc := 19) (cks_at k_Quest_workOut 11 rfl rfl) mk_Quest_fillTables lk_Quest_98 rc_70 (Nat.le_of_ble_eq_true rfl) (c_Quest_fillTables (d + 0) ((M 39 8) + v1) M) (k_V fun M1 => ?_)
    refine tq_aload_n 0 (E := E_Quest_workOut d) (pc := 22) (cks_at k_Quest_workOut 12 rfl rfl) rfl ?_
    refine tq_getR (j := 75) (E := E_Quest_workOut d) (pc := 23) (cks_at k_Quest_workOut 13 rfl rfl) fo_Quest_18 so_70 rfl sp_70_7 ?_
    refine tq_iload_n 1 (E := E_Quest_workOut d) (pc := 26) (cks_at k_Quest_workOut 14 rfl rfl) rfl ?_
    refine tq_aload_n 0 (E := E_Quest_workOut d) (pc := 27) (cks_at k_Quest_workOut 15 rfl rfl) rfl ?_
    refine tq_getR (j := 71) (E := E_Quest_workOut d) (pc := 28) (cks_at k_Quest_workOut 16 rfl rfl) fo_Quest_12 so_70 rfl sp_70_5 ?_
    refine tq_iconst (E := E_Quest_workOut d) (pc := 31) (cks_at k_Quest_workOut 17 rfl rfl) ?_
    refine tq_aload_n 0 (E := E_Quest_workOut d) (pc := 32) (cks_at k_Quest_workOut 18 rfl rfl) rfl ?_
    refine tq_getR (j := 71) (E := E_Quest_workOut d) (pc := 33) (cks_at k_Quest_workOut 19 rfl rfl) fo_Quest_12 so_70 rfl sp_70_5 ?_
    refine tq_getI (E := E_Quest_workOut d) (pc := 36) (cks_at k_Quest_workOut 20 rfl rfl) fo_Quest_102 so_71 rfl (by decide) ?_
    refine tq_iconst (E := E_Quest_workOut d) (pc := 39) (cks_at k_Quest_workOut 21 rfl rfl) ?_
    refine tq_iconst (E := E_Quest_workOut d) (pc := 40) (cks_at k_Quest_workOut 22 rfl rfl) ?_
    refine tq_aload_n 0 (E := E_Quest_workOut d) (pc := 41) (cks_at k_Quest_workOut 23 rfl rfl) rfl ?_
    refine tq_getR (j := 39) (E := E_Quest_workOut d) (pc := 42) (cks_at k_Quest_workOut 24 rfl rfl) fo_Quest_30 so_70 rfl sp_70_2 ?_
    refine tq_getI (E := E_Quest_workOut d) (pc := 45) (cks_at k_Quest_workOut 25 rfl rfl) fo_Quest_92 so_39 rfl (by decide) ?_
    refine tq_iload_n 1 (E := E_Quest_workOut d) (pc := 48) (cks_at k_Quest_workOut 26 rfl rfl) rfl ?_
    refine tq_iadd (E := E_Quest_workOut d) (pc := 49) (cks_at k_Quest_workOut 27 rfl rfl) ?_
    refine tq_V5 (E := E_Quest_workOut d) (pc := 50) (cks_at k_Quest_workOut 28 rfl rfl) mk_Code_value lk_Quest_105 (isCode_rc (Or.inr (Or.inr rfl))) (Nat.le_of_ble_eq_true rfl) (c_Code_value (d + 4) 71 (Or.inr (Or.inr rfl)) 0 (M1 71 3) 0 0 ((M1 39 8) + v1) M1) (k_I fun r3 M2 => ?_)
    refine tq_S3 (E := E_Quest_workOut d) (pc := 53) (cks_at k_Quest_workOut 29 rfl rfl) mk_BT_setCell lk_Quest_109 (Nat.le_of_ble_eq_true rfl) (c_BT_setCell (d + 6) 75 sa_75 v1 r3 M2) (k_V fun M4 => ?_)
    refine tq_iinc 1 (E := E_Quest_workOut d) (pc := 56) (cks_at k_Quest_workOut 30 rfl rfl) rfl (show 1 < 2 by decide) rfl ?_
    refine tq_goto (tgt := 2) (E := E_Quest_workOut d) (pc := 59) (cks_at k_Quest_workOut 31 rfl rfl) (by decide) ?_
    exact tq_sub [1, 0] rfl (hkH (v1 + 1) M4)
def f_Quest_workOut_L2 : Nat → Int × Mm → Option (Mm) := lp fun kH s => f_Quest_workOut_B2 (fun v1 M => kH (v1, M)) s.1 s.2
set_option maxRecDepth 20000 in
set_option maxHeartbeats 4000000 in
theorem w_Quest_workOut_L2 (d : Nat) (n : Nat) (s : Int × Mm) : T (E_Quest_workOut d) injV 2 [(0, .ref 70), (1, vI s.1)] [] s.2 (f_Quest_workOut_L2 n s) :=
  tq_lp (fun s => [(0, .ref 70), (1, vI s.1)]) (fun s => s.2) (fun kH hH s => w_Quest_workOut_B2 d (fun v1 M => kH (v1, M)) (fun v1 M => hH (v1, M)) s.1 s.2) n s
def f_Quest_workOut (M : Mm) : Option (Mm) :=
  f_Quest_workOut_L2 FU (0, M)
set_option maxRecDepth 20000 in
set_option maxHeartbeats 4000000 in
theorem c_Quest_workOut (d : Nat) (M : Mm) (Q : Option Value → Mm → Prop) (h : sat injV (f_Quest_workOut M) Q) : Ct (d + 8) y_Quest_workOut [.ref 70] M Q := by
  refine ct_in (d := d + 7) mk_Quest_workOut (Nat.le_of_ble_eq_true rfl) (?_ : T (E_Quest_workOut d) injV 0 [(0, .ref 70)] [] M (f_Quest_workOut M)) h
  unfold f_Quest_workOut
  refine tq_iconst (E := E_Quest_workOut d) (pc := 0) (cks_at k_Quest_workOut 0 rfl rfl) ?_
  refine tq_istore_n (E := E_Quest_workOut d) (pc := 1) (cks_at k_Quest_workOut 1 rfl rfl) (show 1 < 2 by decide) rfl ?_
  exact tq_sub [1, 0] rfl (w_Quest_workOut_L2 d FU (0, M))
abbrev E_Math_max (d : Nat) : Ev := (Ct (d + 0), "java/lang/Math", prog_15_method_65_code, 2, False, 0, (fun _ => 0), (Option.some Jvm.ClassFile.FieldType.int))
def f_Math_max (v0 : Int) (v1 : Int) (M : Mm) : Option (Int × Mm) :=
  if i32 v0 < i32 v1 then
    some (v1, M)
  else
    some (v0, M)
set_option maxRecDepth 20000 in
set_option maxHeartbeats 4000000 in
theorem c_Math_max (d : Nat) (v0 : Int) (v1 : Int) (M : Mm) (Q : Option Value → Mm → Prop) (h : sat injI (f_Math_max v0 v1 M) Q) : Ct (d + 1) y_Math_max [vI v0, vI v1] M Q := by
  refine ct_in (d := d + 0) mk_Math_max (Nat.le_of_ble_eq_true rfl) (?_ : T (E_Math_max d) injI 0 [(0, vI v0), (1, vI v1)] [] M (f_Math_max v0 v1 M)) h
  unfold f_Math_max
  refine tq_iload_n 0 (E := E_Math_max d) (pc := 0) (cks_at k_Math_max 0 rfl rfl) rfl ?_
  refine tq_iload_n 1 (E := E_Math_max d) (pc := 1) (cks_at k_Math_max 1 rfl rfl) rfl ?_
  refine tq_icmp_lt (E := E_Math_max d) (pc := 2) (tgt := 9) (cks_at k_Math_max 2 rfl rfl) (by decide) ?_ ?_
  · refine tq_iload_n 1 (E := E_Math_max d) (pc := 9) (cks_at k_Math_max 5 rfl rfl) rfl ?_
    exact tq_iret (E := E_Math_max d) (pc := 10) (cks_at k_Math_max 6 rfl rfl) rfl
  · refine tq_iload_n 0 (E := E_Math_max d) (pc := 5) (cks_at k_Math_max 3 rfl rfl) rfl ?_
    refine tq_goto (tgt := 10) (E := E_Math_max d) (pc := 6) (cks_at k_Math_max 4 rfl rfl) (by decide) ?_
    exact tq_iret (E := E_Math_max d) (pc := 10) (cks_at k_Math_max 6 rfl rfl) rfl
abbrev E_Math_min (d : Nat) : Ev := (Ct (d + 0), "java/lang/Math", prog_15_method_69_code, 2, False, 0, (fun _ => 0), (Option.some Jvm.ClassFile.FieldType.int))
def f_Math_min (v0 : Int) (v1 : Int) (M : Mm) : Option (Int × Mm) :=
  if i32 v1 < i32 v0 then
    some (v1, M)
  else
    some (v0, M)
set_option maxRecDepth 20000 in
set_option maxHeartbeats 4000000 in
theorem c_Math_min (d : Nat) (v0 : Int) (v1 : Int) (M : Mm) (Q : Option Value → Mm → Prop) (h : sat injI (f_Math_min v0 v1 M) Q) : Ct (d + 1) y_Math_min [vI v0, vI v1] M Q := by
  refine ct_in (d := d + 0) mk_Math_min (Nat.le_of_ble_eq_true rfl) (?_ : T (E_Math_min d) injI 0 [(0, vI v0), (1, vI v1)] [] M (f_Math_min v0 v1 M)) h
  unfold f_Math_min
  refine tq_iload_n 0 (E := E_Math_min d) (pc := 0) (cks_at k_Math_min 0 rfl rfl) rfl ?_
  refine tq_iload_n 1 (E := E_Math_min d) (pc := 1) (cks_at k_Math_min 1 rfl rfl) rfl ?_
  refine tq_icmp_gt (E := E_Math_min d) (pc := 2) (tgt := 9) (cks_at k_Math_min 2 rfl rfl) (by decide) ?_ ?_
  · refine tq_iload_n 1 (E := E_Math_min d) (pc := 9) (cks_at k_Math_min 5 rfl rfl) rfl ?_
    exact tq_iret (E := E_Math_min d) (pc := 10) (cks_at k_Math_min 6 rfl rfl) rfl
  · refine tq_iload_n 0 (E := E_Math_min d) (pc := 5) (cks_at k_Math_min 3 rfl rfl) rfl ?_
    refine tq_goto (tgt := 10) (E := E_Math_min d) (pc := 6) (cks_at k_Math_min 4 rfl rfl) (by decide) ?_
    exact tq_iret (E := E_Math_min d) (pc := 10) (cks_at k_Math_min 6 rfl rfl) rfl
abbrev E_Quest_answer (d : Nat) : Ev := (Ct (d + 1), "BreathTown$Question", prog_5_method_5_code, 10, False, 0, (fun _ => 0), (Option.some Jvm.ClassFile.FieldType.long))
def f_Quest_answer_J88 (kH : Int → Int → Int → Int → Int → Int → Int → Mm → Option (Int × Mm)) (kx124 : Int → Int → Int → Int → Int → Int → Mm → Option (Int × Mm)) (v1 v2 v4 v5 v6 v8 v9 s0 : Int) (M : Mm) : Option (Int × Mm) :=
  if i32 v9 = 0 then
    kH v1 v2 v4 v5 v6 s0 (v8 + 1) M
  else
    if ¬ i32 v6 = i32 ((-1)) then
      kH v1 v2 v4 v5 v6 s0 (v8 + 1) M
    else
      kH v1 v2 v4 v5 ((M 39 8) + v8) s0 (v8 + 1) M
set_option maxRecDepth 20000 in
set_option maxHeartbeats 4000000 in
theorem w_Quest_answer_J88 (d : Nat) (kH : Int → Int → Int → Int → Int → Int → Int → Mm → Option (Int × Mm)) (kx124 : Int → Int → Int → Int → Int → Int → Mm → Option (Int × Mm)) (hkH : ∀ (v1 v2 v4 v5 v6 v7 v8 : Int) (M : Mm), T (E_Quest_answer d) injJ 25 [(0, .ref 70), (1, vI v1), (2, vJ v2), (4, vI v4), (5, vI v5), (6, vI v6), (7, vI v7), (8, vI v8)] [] M (kH v1 v2 v4 v5 v6 v7 v8 M)) (hkx124 : ∀ (v1 v2 v4 v5 v6 v7 : Int) (M : Mm), T (E_Quest_answer d) injJ 124 [(1, vI v1), (2, vJ v2), (4, vI v4), (5, vI v5), (6, vI v6), (7, vI v7)] [] M (kx124 v1 v2 v4 v5 v6 v7 M)) (v1 v2 v4 v5 v6 v8 v9 s0 : Int) (M : Mm) : T (E_Quest_answer d) injJ 88 [(0, .ref 70), (1, vI v1), (2, vJ v2), (4, vI v4), (5, vI v5), (6, vI v6), (8, vI v8), (9, vI v9)] [vI s0] M (f_Quest_answer_J88 kH kx124 v1 v2 v4 v5 v6 v8 v9 s0 M) := by
  unfold f_Quest_answer_J88
  refine tq_istore (E := E_Quest_answer d) (pc := 88) (cks_at k_Quest_answer 45 rfl rfl) (show 7 < 10 by decide) rfl ?_
  refine tq_iload 8 (E := E_Quest_answer d) (pc := 90) (cks_at k_Quest_answer 46 rfl rfl) rfl ?_
  refine tq_if_eq (E := E_Quest_answer d) (pc := 92) (tgt := 114) (cks_at k_Quest_answer 47 rfl rfl) (by decide) ?_ ?_
  · refine tq_iload 6 (E := E_Quest_answer d) (pc := 114) (cks_at k_Quest_answer 57 rfl rfl) rfl ?_
    refine tq_istore (E := E_Quest_answer d) (pc := 116) (cks_at k_Quest_answer 58 rfl rfl) (show 6 < 10 by decide) rfl ?_
    refine tq_iinc 7 (E := E_Quest_answer d) (pc := 118) (cks_at k_Quest_answer 59 rfl rfl) rfl (show 8 < 10 by decide) rfl ?_
    refine tq_goto (tgt := 25) (E := E_Quest_answer d) (pc := 121) (cks_at k_Quest_answer 60 rfl rfl) (by decide) ?_
    exact tq_sub [3, 4, 5, 6, 7, 1, 2, 0] rfl (hkH v1 v2 v4 v5 v6 s0 (v8 + 1) M)
  · refine tq_iload 6 (E := E_Quest_answer d) (pc := 95) (cks_at k_Quest_answer 48 rfl rfl) rfl ?_
    refine tq_iconst (E := E_Quest_answer d) (pc := 97) (cks_at k_Quest_answer 49 rfl rfl) ?_
    refine tq_icmp_ne (E := E_Quest_answer d) (pc := 98) (tgt := 114) (cks_at k_Quest_answer 50 rfl rfl) (by decide) ?_ ?_
    · refine tq_iload 6 (E := E_Quest_answer d) (pc := 114) (cks_at k_Quest_answer 57 rfl rfl) rfl ?_
      refine tq_istore (E := E_Quest_answer d) (pc := 116) (cks_at k_Quest_answer 58 rfl rfl) (show 6 < 10 by decide) rfl ?_
      refine tq_iinc 7 (E := E_Quest_answer d) (pc := 118) (cks_at k_Quest_answer 59 rfl rfl) rfl (show 8 < 10 by decide) rfl ?_
      refine tq_goto (tgt := 25) (E := E_Quest_answer d) (pc := 121) (cks_at k_Quest_answer 60 rfl rfl) (by decide) ?_
      exact tq_sub [3, 4, 5, 6, 7, 1, 2, 0] rfl (hkH v1 v2 v4 v5 v6 s0 (v8 + 1) M)
    · refine tq_aload_n 1 (E := E_Quest_answer d) (pc := 101) (cks_at k_Quest_answer 51 rfl rfl) rfl ?_
      refine tq_getR (j := 39) (E := E_Quest_answer d) (pc := 102) (cks_at k_Quest_answer 52 rfl rfl) fo_Quest_30 so_70 rfl sp_70_2 ?_
      refine tq_getI (E := E_Quest_answer d) (pc := 105) (cks_at k_Quest_answer 53 rfl rfl) fo_Quest_92 so_39 rfl (by decide) ?_
      refine tq_iload 7 (E := E_Quest_answer d) (pc := 108) (cks_at k_Quest_answer 54 rfl rfl) rfl ?_
      refine tq_iadd (E := E_Quest_answer d) (pc := 110) (cks_at k_Quest_answer 55 rfl rfl) ?_
      refine tq_goto (tgt := 116) (E := E_Quest_answer d) (pc := 111) (cks_at k_Quest_answer 56 rfl rfl) (by decide) ?_
      refine tq_istore (E := E_Quest_answer d) (pc := 116) (cks_at k_Quest_answer 58 rfl rfl) (show 6 < 10 by decide) rfl ?_
      refine tq_iinc 7 (E := E_Quest_answer d) (pc := 118) (cks_at k_Quest_answer 59 rfl rfl) rfl (show 8 < 10 by decide) rfl ?_
      refine tq_goto (tgt := 25) (E := E_Quest_answer d) (pc := 121) (cks_at k_Quest_answer 60 rfl rfl) (by decide) ?_
      exact tq_sub [3, 4, 5, 6, 7, 1, 2, 0] rfl (hkH v1 v2 v4 v5 ((M 39 8) + v8) s0 (v8 + 1) M)
def f_Quest_answer_B25 (kH : Int → Int → Int → Int → Int → Int → Int → Mm → Option (Int × Mm)) (kx124 : Int → Int → Int → Int → Int → Int → Mm → Option (Int × Mm)) (v1 v2 v4 v5 v6 v7 v8 : Int) (M : Mm) : Option (Int × Mm) :=
  if i32 201 ≤ i32 v8 then
    kx124 v1 v2 v4 v5 v6 v7 M
  else
    bI (f_BT_cell 75 v8 M) (fun r4 M3 =>
    bI (f_Math_max v4 r4 M3) (fun r6 M5 =>
    bI (f_Math_min v5 r4 M5) (fun r8 M7 =>
    if i32 r4 = 0 then
      f_Quest_answer_J88 kH kx124 v1 (v2 + (i32 r4)) r6 r8 v6 v8 r4 v7 M7
    else
      f_Quest_answer_J88 kH kx124 v1 (v2 + (i32 r4)) r6 r8 v6 v8 r4 ((M7 39 8) + v8) M7)))
set_option maxRecDepth 20000 in
set_option maxHeartbeats 4000000 in
theorem w_Quest_answer_B25 (d : Nat) (kH : Int → Int → Int → Int → Int → Int → Int → Mm → Option (Int × Mm)) (kx124 : Int → Int → Int → Int → Int → Int → Mm → Option (Int × Mm)) (hkH : ∀ (v1 v2 v4 v5 v6 v7 v8 : Int) (M : Mm), T (E_Quest_answer d) injJ 25 [(0, .ref 70), (1, vI v1), (2, vJ v2), (4, vI v4), (5, vI v5), (6, vI v6), (7, vI v7), (8, vI v8)] [] M (kH v1 v2 v4 v5 v6 v7 v8 M)) (hkx124 : ∀ (v1 v2 v4 v5 v6 v7 : Int) (M : Mm), T (E_Quest_answer d) injJ 124 [(1, vI v1), (2, vJ v2), (4, vI v4), (5, vI v5), (6, vI v6), (7, vI v7)] [] M (kx124 v1 v2 v4 v5 v6 v7 M)) (v1 v2 v4 v5 v6 v7 v8 : Int) (M : Mm) : T (E_Quest_answer d) injJ 25 [(0, .ref 70), (1, vI v1), (2, vJ v2), (4, vI v4), (5, vI v5), (6, vI v6), (7, vI v7), (8, vI v8)] [] M (f_Quest_answer_B25 kH kx124 v1 v2 v4 v5 v6 v7 v8 M) := by
  unfold f_Quest_answer_B25
  refine tq_iload 7 (E := E_Quest_answer d) (pc := 25) (cks_at k_Quest_answer 15 rfl rfl) rfl ?_
  refine tq_sipush (E := E_Quest_answer d) (pc := 27) (cks_at k_Quest_answer 16 rfl rfl) (by decide) (by decide) ?_
  refine tq_icmp_ge (E := E_Quest_answer d) (pc := 30) (tgt := 124) (cks_at k_Quest_answer 17 rfl rfl) (by decide) ?_ ?_
  · exact tq_sub [1, 2, 3, 4, 5, 6] rfl (hkx124 v1 v2 v4 v5 v6 v7 M)
  · refine tq_aload_n 0 (E := E_Quest_answer d) (pc := 33) (cks_at k_Quest_answer 18 rfl rfl) rfl ?_
    refine tq_getR (j := 75) (E := E_Quest_answer d) (pc := 34) (cks_at k_Quest_answer 19 rfl rfl) fo_Quest_18 so_70 rfl sp_70_7 ?_
    refine tq_iload 7 (E := E_Quest_answer d) (pc := 37) (cks_at k_Quest_answer 20 rfl rfl) rfl ?_
    refine tq_S2 (E := E_Quest_answer d) (pc := 39) (cks_at k_Quest_answer 21 rfl rfl) mk_BT_cell lk_Quest_113 (Nat.le_of_ble_eq_true rfl) (c_BT_cell (d + 0) 75 sa_75 v8 M) (k_I fun r4 M3 => ?_)
    refine tq_istore (E := E_Quest_answer d) (pc := 42) (cks_at k_Quest_answer 22 rfl rfl) (show 9 < 10 by decide) rfl ?_
    refine tq_lload_n 3 (E := E_Quest_answer d) (pc := 44) (cks_at k_Quest_answer 23 rfl rfl) rfl ?_
    refine tq_iload 0 (E := E_Quest_answer d) (pc := 45) (cks_at k_Quest_answer 24 rfl rfl) rfl ?_
    refine tq_i2l (E := E_Quest_answer d) (pc := 47) (cks_at k_Quest_answer 25 rfl rfl) ?_
    refine tq_ladd (E := E_Quest_answer d) (pc := 48) (cks_at k_Quest_answer 26 rfl rfl) ?_
    refine tq_lstore_n (E := E_Quest_answer d) (pc := 49) (cks_at k_Quest_answer 27 rfl rfl) (show 2 + 1 < 10 by decide) rfl ?_
    refine tq_iload 4 (E := E_Quest_answer d) (pc := 50) (cks_at k_Quest_answer 28 rfl rfl) rfl ?_
    refine tq_iload 1 (E := E_Quest_answer d) (pc := 52) (cks_at k_Quest_answer 29 rfl rfl) rfl ?_
    refine tq_S2 (E := E_Quest_answer d) (pc := 54) (cks_at k_Quest_answer 30 rfl rfl) mk_Math_max lk_Quest_117 (Nat.le_of_ble_eq_true rfl) (c_Math_max (d + 0) v4 r4 M3) (k_I fun r6 M5 => ?_)
    refine tq_istore (E := E_Quest_answer d) (pc := 57) (cks_at k_Quest_answer 31 rfl rfl) (show 4 < 10 by decide) rfl ?_
    refine tq_iload 5 (E := E_Quest_answer d) (pc := 59) (cks_at k_Quest_answer 32 rfl rfl) rfl ?_
    refine tq_iload 2 (E := E_Quest_answer d) (pc := 61) (cks_at k_Quest_answer 33 rfl rfl) rfl ?_
    refine tq_S2 (E := E_Quest_answer d) (pc := 63) (cks_at k_Quest_answer 34 rfl rfl) mk_Math_min lk_Quest_123 (Nat.le_of_ble_eq_true rfl) (c_Math_min (d + 0) v5 r4 M5) (k_I fun r8 M7 => ?_)
    refine tq_istore (E := E_Quest_answer d) (pc := 66) (cks_at k_Quest_answer 35 rfl rfl) (show 5 < 10 by decide) rfl ?_
    refine tq_iload 3 (E := E_Quest_answer d) (pc := 68) (cks_at k_Quest_answer 36 rfl rfl) rfl ?_
    refine tq_if_eq (E := E_Quest_answer d) (pc := 70) (tgt := 86) (cks_at k_Quest_answer 37 rfl rfl) (by decide) ?_ ?_
    · refine tq_iload 7 (E := E_Quest_answer d) (pc := 86) (cks_at k_Quest_answer 44 rfl rfl) rfl ?_
      exact tq_sub [4, 5, 2, 1, 0, 6, 8, 3] rfl (w_Quest_answer_J88 d kH kx124 hkH hkx124 v1 (v2 + (i32 r4)) r6 r8 v6 v8 r4 v7 M7)
    · refine tq_aload_n 4 (E := E_Quest_answer d) (pc := 73) (cks_at k_Quest_answer 38 rfl rfl) rfl ?_
      refine tq_getR (j := 39) (E := E_Quest_answer d) (pc := 74) (cks_at k_Quest_answer 39 rfl rfl) fo_Quest_30 so_70 rfl sp_70_2 ?_
      refine tq_getI (E := E_Quest_answer d) (pc := 77) (cks_at k_Quest_answer 40 rfl rfl) fo_Quest_92 so_39 rfl (by decide) ?_
      refine tq_iload 8 (E := E_Quest_answer d) (pc := 80) (cks_at k_Quest_answer 41 rfl rfl) rfl ?_
      refine tq_iadd (E := E_Quest_answer d) (pc := 82) (cks_at k_Quest_answer 42 rfl rfl) ?_
      refine tq_goto (tgt := 88) (E := E_Quest_answer d) (pc := 83) (cks_at k_Quest_answer 43 rfl rfl) (by decide) ?_
      exact tq_sub [4, 5, 2, 1, 0, 6, 8, 3] rfl (w_Quest_answer_J88 d kH kx124 hkH hkx124 v1 (v2 + (i32 r4)) r6 r8 v6 v8 r4 ((M7 39 8) + v8) M7)
def f_Quest_answer_L25 (kx124 : Int → Int → Int → Int → Int → Int → Mm → Option (Int × Mm)) : Nat → Int × Int × Int × Int × Int × Int × Int × Mm → Option (Int × Mm) := lp fun kH s => f_Quest_answer_B25 (fun v1 v2 v4 v5 v6 v7 v8 M => kH (v1, v2, v4, v5, v6, v7, v8, M)) kx124 s.1 s.2.1 s.2.2.1 s.2.2.2.1 s.2.2.2.2.1 s.2.2.2.2.2.1 s.2.2.2.2.2.2.1 s.2.2.2.2.2.2.2
set_option maxRecDepth 20000 in
set_option maxHeartbeats 4000000 in
theorem w_Quest_answer_L25 (d : Nat) (kx124 : Int → Int → Int → Int → Int → Int → Mm → Option (Int × Mm)) (hkx124 : ∀ (v1 v2 v4 v5 v6 v7 : Int) (M : Mm), T (E_Quest_answer d) injJ 124 [(1, vI v1), (2, vJ v2), (4, vI v4), (5, vI v5), (6, vI v6), (7, vI v7)] [] M (kx124 v1 v2 v4 v5 v6 v7 M)) (n : Nat) (s : Int × Int × Int × Int × Int × Int × Int × Mm) : T (E_Quest_answer d) injJ 25 [(0, .ref 70), (1, vI s.1), (2, vJ s.2.1), (4, vI s.2.2.1), (5, vI s.2.2.2.1), (6, vI s.2.2.2.2.1), (7, vI s.2.2.2.2.2.1), (8, vI s.2.2.2.2.2.2.1)] [] s.2.2.2.2.2.2.2 (f_Quest_answer_L25 kx124 n s) :=
  tq_lp (fun s => [(0, .ref 70), (1, vI s.1), (2, vJ s.2.1), (4, vI s.2.2.1), (5, vI s.2.2.2.1), (6, vI s.2.2.2.2.1), (7, vI s.2.2.2.2.2.1), (8, vI s.2.2.2.2.2.2.1)]) (fun s => s.2.2.2.2.2.2.2) (fun kH hH s => w_Quest_answer_B25 d (fun v1 v2 v4 v5 v6 v7 v8 M => kH (v1, v2, v4, v5, v6, v7, v8, M)) kx124 (fun v1 v2 v4 v5 v6 v7 v8 M => hH (v1, v2, v4, v5, v6, v7, v8, M)) hkx124 s.1 s.2.1 s.2.2.1 s.2.2.2.1 s.2.2.2.2.1 s.2.2.2.2.2.1 s.2.2.2.2.2.2.1 s.2.2.2.2.2.2.2) n s
def f_Quest_answer (v1 : Int) (M : Mm) : Option (Int × Mm) :=
  bI (f_BT_cell 75 0 M) (fun r2 M1 =>
  f_Quest_answer_L25 (fun v1 v2 v4 v5 v6 v7 M9 => if i32 v1 = 0 then
        some (i32 v6, M9)
      else
      if i32 v1 = 1 then
        some (i32 v7, M9)
      else
      if i32 v1 = 2 then
        some (v2, M9)
      else
      if i32 v1 = 3 then
        some (v2, M9)
      else
      if i32 v1 = 4 then
        some (i32 v4, M9)
      else
      if i32 v1 = 5 then
        some (i32 v5, M9)
      else
      some (v2, M9)) FU (v1, 0, r2, r2, ((-1)), ((-1)), 0, M1))
set_option maxRecDepth 20000 in
set_option maxHeartbeats 4000000 in
theorem c_Quest_answer (d : Nat) (v1 : Int) (M : Mm) (Q : Option Value → Mm → Prop) (h : sat injJ (f_Quest_answer v1 M) Q) : Ct (d + 2) y_Quest_answer [.ref 70, vI v1] M Q := by
  refine ct_in (d := d + 1) mk_Quest_answer (Nat.le_of_ble_eq_true rfl) (?_ : T (E_Quest_answer d) injJ 0 [(0, .ref 70), (1, vI v1)] [] M (f_Quest_answer v1 M)) h
  unfold f_Quest_answer
  refine tq_lconst0 (E := E_Quest_answer d) (pc := 0) (cks_at k_Quest_answer 0 rfl rfl) ?_
  refine tq_lstore_n (E := E_Quest_answer d) (pc := 1) (cks_at k_Quest_answer 1 rfl rfl) (show 2 + 1 < 10 by decide) rfl ?_
  refine tq_aload_n 1 (E := E_Quest_answer d) (pc := 2) (cks_at k_Quest_answer 2 rfl rfl) rfl ?_
  refine tq_getR (j := 75) (E := E_Quest_answer d) (pc := 3) (cks_at k_Quest_answer 3 rfl rfl) fo_Quest_18 so_70 rfl sp_70_7 ?_
  refine tq_iconst (E := E_Quest_answer d) (pc := 6) (cks_at k_Quest_answer 4 rfl rfl) ?_
  refine tq_S2 (E := E_Quest_answer d) (pc := 7) (cks_at k_Quest_answer 5 rfl rfl) mk_BT_cell lk_Quest_113 (Nat.le_of_ble_eq_true rfl) (c_BT_cell (d + 0) 75 sa_75 0 M) (k_I fun r2 M1 => ?_)
  refine tq_istore (E := E_Quest_answer d) (pc := 10) (cks_at k_Quest_answer 6 rfl rfl) (show 4 < 10 by decide) rfl ?_
  refine tq_iload 0 (E := E_Quest_answer d) (pc := 12) (cks_at k_Quest_answer 7 rfl rfl) rfl ?_
  refine tq_istore (E := E_Quest_answer d) (pc := 14) (cks_at k_Quest_answer 8 rfl rfl) (show 5 < 10 by decide) rfl ?_
  refine tq_iconst (E := E_Quest_answer d) (pc := 16) (cks_at k_Quest_answer 9 rfl rfl) ?_
  refine tq_istore (E := E_Quest_answer d) (pc := 17) (cks_at k_Quest_answer 10 rfl rfl) (show 6 < 10 by decide) rfl ?_
  refine tq_iconst (E := E_Quest_answer d) (pc := 19) (cks_at k_Quest_answer 11 rfl rfl) ?_
  refine tq_istore (E := E_Quest_answer d) (pc := 20) (cks_at k_Quest_answer 12 rfl rfl) (show 7 < 10 by decide) rfl ?_
  refine tq_iconst (E := E_Quest_answer d) (pc := 22) (cks_at k_Quest_answer 13 rfl rfl) ?_
  refine tq_istore (E := E_Quest_answer d) (pc := 23) (cks_at k_Quest_answer 14 rfl rfl) (show 8 < 10 by decide) rfl ?_
  exact tq_sub [6, 7, 5, 4, 3, 2, 1, 0] rfl (w_Quest_answer_L25 d _ (fun v1 v2 v4 v5 v6 v7 M9 => by
      refine tq_iload_n 0 (E := E_Quest_answer d) (pc := 124) (cks_at k_Quest_answer 61 rfl rfl) rfl ?_
      refine tq_tsC (E := E_Quest_answer d) (pc := 125) (tgt := 164) (off := 39) (w := 0) 0 k_Quest_answer_125 (by decide) rfl (by decide) ?_ (fun h10 => ?_)
      · refine tq_iload 4 (E := E_Quest_answer d) (pc := 164) (cks_at k_Quest_answer 63 rfl rfl) rfl ?_
        refine tq_i2l (E := E_Quest_answer d) (pc := 166) (cks_at k_Quest_answer 64 rfl rfl) ?_
        exact tq_lret (E := E_Quest_answer d) (pc := 167) (cks_at k_Quest_answer 65 rfl rfl) rfl
      refine tq_tsC (E := E_Quest_answer d) (pc := 125) (tgt := 168) (off := 43) (w := 1) 1 k_Quest_answer_125 (by decide) rfl (by decide) ?_ (fun h11 => ?_)
      · refine tq_iload 5 (E := E_Quest_answer d) (pc := 168) (cks_at k_Quest_answer 66 rfl rfl) rfl ?_
        refine tq_i2l (E := E_Quest_answer d) (pc := 170) (cks_at k_Quest_answer 67 rfl rfl) ?_
        exact tq_lret (E := E_Quest_answer d) (pc := 171) (cks_at k_Quest_answer 68 rfl rfl) rfl
      refine tq_tsC (E := E_Quest_answer d) (pc := 125) (tgt := 180) (off := 55) (w := 2) 2 k_Quest_answer_125 (by decide) rfl (by decide) ?_ (fun h12 => ?_)
      · refine tq_lload_n 1 (E := E_Quest_answer d) (pc := 180) (cks_at k_Quest_answer 75 rfl rfl) rfl ?_
        exact tq_lret (E := E_Quest_answer d) (pc := 181) (cks_at k_Quest_answer 76 rfl rfl) rfl
      refine tq_tsC (E := E_Quest_answer d) (pc := 125) (tgt := 180) (off := 55) (w := 3) 3 k_Quest_answer_125 (by decide) rfl (by decide) ?_ (fun h13 => ?_)
      · refine tq_lload_n 1 (E := E_Quest_answer d) (pc := 180) (cks_at k_Quest_answer 75 rfl rfl) rfl ?_
        exact tq_lret (E := E_Quest_answer d) (pc := 181) (cks_at k_Quest_answer 76 rfl rfl) rfl
      refine tq_tsC (E := E_Quest_answer d) (pc := 125) (tgt := 172) (off := 47) (w := 4) 4 k_Quest_answer_125 (by decide) rfl (by decide) ?_ (fun h14 => ?_)
      · refine tq_iload 2 (E := E_Quest_answer d) (pc := 172) (cks_at k_Quest_answer 69 rfl rfl) rfl ?_
        refine tq_i2l (E := E_Quest_answer d) (pc := 174) (cks_at k_Quest_answer 70 rfl rfl) ?_
        exact tq_lret (E := E_Quest_answer d) (pc := 175) (cks_at k_Quest_answer 71 rfl rfl) rfl
      refine tq_tsC (E := E_Quest_answer d) (pc := 125) (tgt := 176) (off := 51) (w := 5) 5 k_Quest_answer_125 (by decide) rfl (by decide) ?_ (fun h15 => ?_)
      · refine tq_iload 3 (E := E_Quest_answer d) (pc := 176) (cks_at k_Quest_answer 72 rfl rfl) rfl ?_
        refine tq_i2l (E := E_Quest_answer d) (pc := 178) (cks_at k_Quest_answer 73 rfl rfl) ?_
        exact tq_lret (E := E_Quest_answer d) (pc := 179) (cks_at k_Quest_answer 74 rfl rfl) rfl
      refine tq_tsD (E := E_Quest_answer d) (pc := 125) (tgt := 180) k_Quest_answer_125 (by omega) (by decide) ?_
      refine tq_lload_n 1 (E := E_Quest_answer d) (pc := 180) (cks_at k_Quest_answer 75 rfl rfl) rfl ?_
      exact tq_lret (E := E_Quest_answer d) (pc := 181) (cks_at k_Quest_answer 76 rfl rfl) rfl) FU (v1, 0, r2, r2, ((-1)), ((-1)), 0, M1))
abbrev E_BT_ask (d : Nat) : Ev := (Ct (d + 128), "BreathTown", prog_1_method_31_code, 2, False, 0, (fun _ => 0), (Option.some Jvm.ClassFile.FieldType.long))
def f_BT_ask (M : Mm) : Option (Int × Mm) :=
  bI (f_Quest_read M) (fun r2 M1 =>
  bV (f_BT_keepFault M1) (fun M3 =>
  if ¬ i32 r2 = i32 ((-1)) then
    bV (f_Quest_workOut M3) (fun M4 =>
    bI (f_Quest_answer r2 M4) (fun r6 M5 =>
    some (r6, M5)))
  else
    some ((-1000000000000000), M3)))
set_option maxRecDepth 20000 in
set_option maxHeartbeats 4000000 in
theorem c_BT_ask (d : Nat) (M : Mm) (Q : Option Value → Mm → Prop) (h : sat injJ (f_BT_ask M) Q) : Ct (d + 129) y_BT_ask [.ref 0] M Q := by
  refine ct_in (d := d + 128) mk_BT_ask (Nat.le_of_ble_eq_true rfl) (?_ : T (E_BT_ask d) injJ 0 [(0, .ref 0)] [] M (f_BT_ask M)) h
  unfold f_BT_ask
  refine tq_aload_n 0 (E := E_BT_ask d) (pc := 0) (cks_at k_BT_ask 0 rfl rfl) rfl ?_
  refine tq_getR (j := 70) (E := E_BT_ask d) (pc := 1) (cks_at k_BT_ask 1 rfl rfl) fo_BT_83 so_0 rfl sp_0_9 ?_
  refine tq_V0 (E := E_BT_ask d) (pc := 4) (cks_at k_BT_ask 2 rfl rfl) mk_Quest_read lk_BT_279 rc_70 (Nat.le_of_ble_eq_true rfl) (c_Quest_read (d + 0) M) (k_I fun r2 M1 => ?_)
  refine tq_istore_n (E := E_BT_ask d) (pc := 7) (cks_at k_BT_ask 3 rfl rfl) (show 1 < 2 by decide) rfl ?_
  refine tq_aload_n 1 (E := E_BT_ask d) (pc := 8) (cks_at k_BT_ask 4 rfl rfl) rfl ?_
  refine tq_V0 (E := E_BT_ask d) (pc := 9) (cks_at k_BT_ask 5 rfl rfl) mk_BT_keepFault lk_BT_117 rc_0 (Nat.le_of_ble_eq_true rfl) (c_BT_keepFault (d + 127) M1) (k_V fun M3 => ?_)
  refine tq_iload_n 0 (E := E_BT_ask d) (pc := 12) (cks_at k_BT_ask 6 rfl rfl) rfl ?_
  refine tq_iconst (E := E_BT_ask d) (pc := 13) (cks_at k_BT_ask 7 rfl rfl) ?_
  refine tq_icmp_ne (E := E_BT_ask d) (pc := 14) (tgt := 21) (cks_at k_BT_ask 8 rfl rfl) (by decide) ?_ ?_
  · refine tq_aload_n 1 (E := E_BT_ask d) (pc := 21) (cks_at k_BT_ask 11 rfl rfl) rfl ?_
    refine tq_getR (j := 70) (E := E_BT_ask d) (pc := 22) (cks_at k_BT_ask 12 rfl rfl) fo_BT_83 so_0 rfl sp_0_9 ?_
    refine tq_V0 (E := E_BT_ask d) (pc := 25) (cks_at k_BT_ask 13 rfl rfl) mk_Quest_workOut lk_BT_282 rc_70 (Nat.le_of_ble_eq_true rfl) (c_Quest_workOut (d + 120) M3) (k_V fun M4 => ?_)
    refine tq_aload_n 1 (E := E_BT_ask d) (pc := 28) (cks_at k_BT_ask 14 rfl rfl) rfl ?_
    refine tq_getR (j := 70) (E := E_BT_ask d) (pc := 29) (cks_at k_BT_ask 15 rfl rfl) fo_BT_83 so_0 rfl sp_0_9 ?_
    refine tq_iload_n 0 (E := E_BT_ask d) (pc := 32) (cks_at k_BT_ask 16 rfl rfl) rfl ?_
    refine tq_V1 (E := E_BT_ask d) (pc := 33) (cks_at k_BT_ask 17 rfl rfl) mk_Quest_answer lk_BT_285 rc_70 (Nat.le_of_ble_eq_true rfl) (c_Quest_answer (d + 126) r2 M4) (k_J fun r6 M5 => ?_)
    exact tq_lret (E := E_BT_ask d) (pc := 36) (cks_at k_BT_ask 18 rfl rfl) rfl
  · refine tq_ldc2 (z := (-1000000000000000)) (E := E_BT_ask d) (pc := 17) (cks_at k_BT_ask 9 rfl rfl) cst_BT_280 ?_
    exact tq_lret (E := E_BT_ask d) (pc := 20) (cks_at k_BT_ask 10 rfl rfl) rfl
abbrev E_M_isStreet (d : Nat) : Ev := (Ct (d + 1), "BreathTownModel", prog_14_method_47_code, 2, False, 0, (fun _ => 0), (Option.some Jvm.ClassFile.FieldType.boolean))
def f_M_isStreet (v1 : Int) (M : Mm) : Option (Int × Mm) :=
  bI (f_M_streetMany M) (fun r2 M1 =>
  bI (f_M_isIn (i32 v1) 0 (i32 (r2 - 1)) M1) (fun r4 M3 =>
  gd (i32 r4 = 0 ∨ i32 r4 = 1) (some (r4, M3))))
set_option maxRecDepth 20000 in
set_option maxHeartbeats 4000000 in
theorem c_M_isStreet (d : Nat) (v1 : Int) (M : Mm) (Q : Option Value → Mm → Prop) (h : sat injI (f_M_isStreet v1 M) Q) : Ct (d + 2) y_M_isStreet [.ref 78, vI v1] M Q := by
  refine ct_in (d := d + 1) mk_M_isStreet (Nat.le_of_ble_eq_true rfl) (?_ : T (E_M_isStreet d) injI 0 [(0, .ref 78), (1, vI v1)] [] M (f_M_isStreet v1 M)) h
  unfold f_M_isStreet
  refine tq_iload_n 1 (E := E_M_isStreet d) (pc := 0) (cks_at k_M_isStreet 0 rfl rfl) rfl ?_
  refine tq_i2l (E := E_M_isStreet d) (pc := 1) (cks_at k_M_isStreet 1 rfl rfl) ?_
  refine tq_lconst0 (E := E_M_isStreet d) (pc := 2) (cks_at k_M_isStreet 2 rfl rfl) ?_
  refine tq_aload_n 0 (E := E_M_isStreet d) (pc := 3) (cks_at k_M_isStreet 3 rfl rfl) rfl ?_
  refine tq_V0 (E := E_M_isStreet d) (pc := 4) (cks_at k_M_isStreet 4 rfl rfl) mk_M_streetMany lk_M_412 rc_78 (Nat.le_of_ble_eq_true rfl) (c_M_streetMany (d + 0) M) (k_I fun r2 M1 => ?_)
  refine tq_iconst (E := E_M_isStreet d) (pc := 7) (cks_at k_M_isStreet 5 rfl rfl) ?_
  refine tq_isub (E := E_M_isStreet d) (pc := 8) (cks_at k_M_isStreet 6 rfl rfl) ?_
  refine tq_i2l (E := E_M_isStreet d) (pc := 9) (cks_at k_M_isStreet 7 rfl rfl) ?_
  refine tq_S3 (E := E_M_isStreet d) (pc := 10) (cks_at k_M_isStreet 8 rfl rfl) mk_M_isIn lk_M_265 (Nat.le_of_ble_eq_true rfl) (c_M_isIn (d + 0) (i32 v1) 0 (i32 (r2 - 1)) M1) (k_I fun r4 M3 => ?_)
  exact tq_zret (E := E_M_isStreet d) (pc := 13) (cks_at k_M_isStreet 9 rfl rfl) rfl
abbrev E_M_isShift (d : Nat) : Ev := (Ct (d + 4), "BreathTownModel", prog_14_method_112_code, 4, False, 0, (fun _ => 0), (Option.some Jvm.ClassFile.FieldType.boolean))
def f_M_isShift_B2 (kH : Int → Int → Int → Mm → Option (Int × Mm)) (v1 v2 v3 : Int) (M : Mm) : Option (Int × Mm) :=
  if i32 (M 78 66) ≤ i32 v3 then
    some (1, M)
  else
    gd (0 ≤ i32 (3 * v3) ∧ i32 (3 * v3) < ((60 : Nat) : Int)) <|
    if ¬ i32 (M 121 (i32 (3 * v3)).toNat) = i32 v1 then
      kH v1 v2 (v3 + 1) M
    else
      gd (0 ≤ i32 ((3 * v3) + 1) ∧ i32 ((3 * v3) + 1) < ((60 : Nat) : Int)) <|
      bI (f_M_widthBy v1 (M 121 (i32 ((3 * v3) + 1)).toNat) v2 M) (fun r2 M1 =>
      gd (0 ≤ i32 ((3 * v3) + 2) ∧ i32 ((3 * v3) + 2) < ((60 : Nat) : Int)) <|
      if i32 r2 = i32 (M1 121 (i32 ((3 * v3) + 2)).toNat) then
        kH v1 v2 (v3 + 1) M1
      else
        some (0, M1))
set_option maxRecDepth 20000 in
set_option maxHeartbeats 4000000 in
theorem w_M_isShift_B2 (d : Nat) (kH : Int → Int → Int → Mm → Option (Int × Mm)) (hkH : ∀ (v1 v2 v3 : Int) (M : Mm), T (E_M_isShift d) injI 2 [(0, .ref 78), (1, vI v1), (2, vI v2), (3, vI v3)] [] M (kH v1 v2 v3 M)) (v1 v2 v3 : Int) (M : Mm) : T (E_M_isShift d) injI 2 [(0, .ref 78), (1, vI v1), (2, vI v2), (3, vI v3)] [] M (f_M_isShift_B2 kH v1 v2 v3 M) := by
  unfold f_M_isShift_B2
  refine tq_iload_n 3 (E := E_M_isShift d) (pc := 2) (cks_at k_M_isShift 2 rfl rfl) rfl ?_
  refine tq_aload_n 0 (E := E_M_isShift d) (pc := 3) (cks_at k_M_isShift 3 rfl rfl) rfl ?_
  refine tq_getI (E := E_M_isShift d) (pc := 4) (cks_at k_M_isShift 4 rfl rfl) fo_M_353 so_78 rfl (by decide) ?_
  refine tq_icmp_ge (E := E_M_isShift d) (pc := 7) (tgt := 59) (cks_at k_M_isShift 5 rfl rfl) (by decide) ?_ ?_
  · refine tq_iconst (E := E_M_isShift d) (pc := 59) (cks_at k_M_isShift 39 rfl rfl) ?_
    exact tq_zretC (E := E_M_isShift d) (pc := 60) (cks_at k_M_isShift 40 rfl rfl) rfl (by decide)
  · refine tq_aload_n 0 (E := E_M_isShift d) (pc := 10) (cks_at k_M_isShift 6 rfl rfl) rfl ?_
    refine tq_getR (j := 121) (E := E_M_isShift d) (pc := 11) (cks_at k_M_isShift 7 rfl rfl) fo_M_146 so_78 rfl sp_78_67 ?_
    refine tq_iconst (E := E_M_isShift d) (pc := 14) (cks_at k_M_isShift 8 rfl rfl) ?_
    refine tq_iload_n 3 (E := E_M_isShift d) (pc := 15) (cks_at k_M_isShift 9 rfl rfl) rfl ?_
    refine tq_imul (E := E_M_isShift d) (pc := 16) (cks_at k_M_isShift 10 rfl rfl) ?_
    refine tq_iald (E := E_M_isShift d) (pc := 17) (cks_at k_M_isShift 11 rfl rfl) sa_121 sn_121 ?_
    refine tq_iload_n 1 (E := E_M_isShift d) (pc := 18) (cks_at k_M_isShift 12 rfl rfl) rfl ?_
    refine tq_icmp_ne (E := E_M_isShift d) (pc := 19) (tgt := 53) (cks_at k_M_isShift 13 rfl rfl) (by decide) ?_ ?_
    · refine tq_iinc 3 (E := E_M_isShift d) (pc := 53) (cks_at k_M_isShift 37 rfl rfl) rfl (show 3 < 4 by decide) rfl ?_
      refine tq_goto (tgt := 2) (E := E_M_isShift d) (pc := 56) (cks_at k_M_isShift 38 rfl rfl) (by decide) ?_
      exact tq_sub [1, 2, 3, 0] rfl (hkH v1 v2 (v3 + 1) M)
    · refine tq_aload_n 0 (E := E_M_isShift d) (pc := 22) (cks_at k_M_isShift 14 rfl rfl) rfl ?_
      refine tq_iload_n 1 (E := E_M_isShift d) (pc := 23) (cks_at k_M_isShift 15 rfl rfl) rfl ?_
      refine tq_aload_n 0 (E := E_M_isShift d) (pc := 24) (cks_at k_M_isShift 16 rfl rfl) rfl ?_
      refine tq_getR (j := 121) (E := E_M_isShift d) (pc := 25) (cks_at k_M_isShift 17 rfl rfl) fo_M_146 so_78 rfl sp_78_67 ?_
      refine tq_iconst (E := E_M_isShift d) (pc := 28) (cks_at k_M_isShift 18 rfl rfl) ?_
      refine tq_iload_n 3 (E := E_M_isShift d) (pc := 29) (cks_at k_M_isShift 19 rfl rfl) rfl ?_
      refine tq_imul (E := E_M_isShift d) (pc := 30) (cks_at k_M_isShift 20 rfl rfl) ?_
      refine tq_iconst (E := E_M_isShift d) (pc := 31) (cks_at k_M_isShift 21 rfl rfl) ?_
      refine tq_iadd (E := E_M_isShift d) (pc := 32) (cks_at k_M_isShift 22 rfl rfl) ?_
      refine tq_iald (E := E_M_isShift d) (pc := 33) (cks_at k_M_isShift 23 rfl rfl) sa_121 sn_121 ?_
      refine tq_iload_n 2 (E := E_M_isShift d) (pc := 34) (cks_at k_M_isShift 24 rfl rfl) rfl ?_
      refine tq_V3 (E := E_M_isShift d) (pc := 35) (cks_at k_M_isShift 25 rfl rfl) mk_M_widthBy lk_M_434 rc_78 (Nat.le_of_ble_eq_true rfl) (c_M_widthBy (d + 0) v1 (M 121 (i32 ((3 * v3) + 1)).toNat) v2 M) (k_I fun r2 M1 => ?_)
      refine tq_aload_n 0 (E := E_M_isShift d) (pc := 38) (cks_at k_M_isShift 26 rfl rfl) rfl ?_
      refine tq_getR (j := 121) (E := E_M_isShift d) (pc := 39) (cks_at k_M_isShift 27 rfl rfl) fo_M_146 so_78 rfl sp_78_67 ?_
      refine tq_iconst (E := E_M_isShift d) (pc := 42) (cks_at k_M_isShift 28 rfl rfl) ?_
      refine tq_iload_n 3 (E := E_M_isShift d) (pc := 43) (cks_at k_M_isShift 29 rfl rfl) rfl ?_
      refine tq_imul (E := E_M_isShift d) (pc := 44) (cks_at k_M_isShift 30 rfl rfl) ?_
      refine tq_iconst (E := E_M_isShift d) (pc := 45) (cks_at k_M_isShift 31 rfl rfl) ?_
      refine tq_iadd (E := E_M_isShift d) (pc := 46) (cks_at k_M_isShift 32 rfl rfl) ?_
      refine tq_iald (E := E_M_isShift d) (pc := 47) (cks_at k_M_isShift 33 rfl rfl) sa_121 sn_121 ?_
      refine tq_icmp_eq (E := E_M_isShift d) (pc := 48) (tgt := 53) (cks_at k_M_isShift 34 rfl rfl) (by decide) ?_ ?_
      · refine tq_iinc 3 (E := E_M_isShift d) (pc := 53) (cks_at k_M_isShift 37 rfl rfl) rfl (show 3 < 4 by decide) rfl ?_
        refine tq_goto (tgt := 2) (E := E_M_isShift d) (pc := 56) (cks_at k_M_isShift 38 rfl rfl) (by decide) ?_
        exact tq_sub [1, 2, 3, 0] rfl (hkH v1 v2 (v3 + 1) M1)
      · refine tq_iconst (E := E_M_isShift d) (pc := 51) (cks_at k_M_isShift 35 rfl rfl) ?_
        exact tq_zretC (E := E_M_isShift d) (pc := 52) (cks_at k_M_isShift 36 rfl rfl) rfl (by decide)
def f_M_isShift_L2 : Nat → Int × Int × Int × Mm → Option (Int × Mm) := lp fun kH s => f_M_isShift_B2 (fun v1 v2 v3 M => kH (v1, v2, v3, M)) s.1 s.2.1 s.2.2.1 s.2.2.2
set_option maxRecDepth 20000 in
set_option maxHeartbeats 4000000 in
theorem w_M_isShift_L2 (d : Nat) (n : Nat) (s : Int × Int × Int × Mm) : T (E_M_isShift d) injI 2 [(0, .ref 78), (1, vI s.1), (2, vI s.2.1), (3, vI s.2.2.1)] [] s.2.2.2 (f_M_isShift_L2 n s) :=
  tq_lp (fun s => [(0, .ref 78), (1, vI s.1), (2, vI s.2.1), (3, vI s.2.2.1)]) (fun s => s.2.2.2) (fun kH hH s => w_M_isShift_B2 d (fun v1 v2 v3 M => kH (v1, v2, v3, M)) (fun v1 v2 v3 M => hH (v1, v2, v3, M)) s.1 s.2.1 s.2.2.1 s.2.2.2) n s
def f_M_isShift (v1 : Int) (v2 : Int) (M : Mm) : Option (Int × Mm) :=
  f_M_isShift_L2 FU (v1, v2, 0, M)
set_option maxRecDepth 20000 in
set_option maxHeartbeats 4000000 in
theorem c_M_isShift (d : Nat) (v1 : Int) (v2 : Int) (M : Mm) (Q : Option Value → Mm → Prop) (h : sat injI (f_M_isShift v1 v2 M) Q) : Ct (d + 5) y_M_isShift [.ref 78, vI v1, vI v2] M Q := by
  refine ct_in (d := d + 4) mk_M_isShift (Nat.le_of_ble_eq_true rfl) (?_ : T (E_M_isShift d) injI 0 [(0, .ref 78), (1, vI v1), (2, vI v2)] [] M (f_M_isShift v1 v2 M)) h
  unfold f_M_isShift
  refine tq_iconst (E := E_M_isShift d) (pc := 0) (cks_at k_M_isShift 0 rfl rfl) ?_
  refine tq_istore_n (E := E_M_isShift d) (pc := 1) (cks_at k_M_isShift 1 rfl rfl) (show 3 < 4 by decide) rfl ?_
  exact tq_sub [1, 2, 3, 0] rfl (w_M_isShift_L2 d FU (v1, v2, 0, M))
abbrev E_M_alikeIn (d : Nat) : Ev := (Ct (d + 4), "BreathTownModel", prog_14_method_114_code, 6, False, 0, (fun _ => 0), (Option.some Jvm.ClassFile.FieldType.int))
def f_M_alikeIn_B5 (kH : Int → Int → Int → Int → Mm → Option (Int × Mm)) (kx26 : Int → Int → Int → Mm → Option (Int × Mm)) (v1 v2 v3 v4 : Int) (M : Mm) : Option (Int × Mm) :=
  if i32 100 ≤ i32 v4 then
    kx26 v1 v2 v3 M
  else
    gd (0 ≤ i32 v4 ∧ i32 v4 < ((100 : Nat) : Int)) <|
    bd (up M 123 (i32 v4).toNat 0) (fun M1 =>
    kH v1 v2 v3 (v4 + 1) M1)
set_option maxRecDepth 20000 in
set_option maxHeartbeats 4000000 in
theorem w_M_alikeIn_B5 (d : Nat) (kH : Int → Int → Int → Int → Mm → Option (Int × Mm)) (kx26 : Int → Int → Int → Mm → Option (Int × Mm)) (hkH : ∀ (v1 v2 v3 v4 : Int) (M : Mm), T (E_M_alikeIn d) injI 5 [(0, .ref 78), (1, vI v1), (2, vI v2), (3, vI v3), (4, vI v4)] [] M (kH v1 v2 v3 v4 M)) (hkx26 : ∀ (v1 v2 v3 : Int) (M : Mm), T (E_M_alikeIn d) injI 26 [(0, .ref 78), (1, vI v1), (2, vI v2), (3, vI v3)] [] M (kx26 v1 v2 v3 M)) (v1 v2 v3 v4 : Int) (M : Mm) : T (E_M_alikeIn d) injI 5 [(0, .ref 78), (1, vI v1), (2, vI v2), (3, vI v3), (4, vI v4)] [] M (f_M_alikeIn_B5 kH kx26 v1 v2 v3 v4 M) := by
  unfold f_M_alikeIn_B5
  refine tq_iload 4 (E := E_M_alikeIn d) (pc := 5) (cks_at k_M_alikeIn 4 rfl rfl) rfl ?_
  refine tq_bipush (E := E_M_alikeIn d) (pc := 7) (cks_at k_M_alikeIn 5 rfl rfl) (by decide) (by decide) ?_
  refine tq_icmp_ge (E := E_M_alikeIn d) (pc := 9) (tgt := 26) (cks_at k_M_alikeIn 6 rfl rfl) (by decide) ?_ ?_
  · exact tq_sub [0, 1, 2, 3] rfl (hkx26 v1 v2 v3 M)
  · refine tq_aload_n 0 (E := E_M_alikeIn d) (pc := 12) (cks_at k_M_alikeIn 7 rfl rfl) rfl ?_
    refine tq_getR (j := 123) (E := E_M_alikeIn d) (pc := 13) (cks_at k_M_alikeIn 8 rfl rfl) fo_M_153 so_78 rfl sp_78_69 ?_
    refine tq_iload 4 (E := E_M_alikeIn d) (pc := 16) (cks_at k_M_alikeIn 9 rfl rfl) rfl ?_
    refine tq_iconst (E := E_M_alikeIn d) (pc := 18) (cks_at k_M_alikeIn 10 rfl rfl) ?_
    refine tq_iast (E := E_M_alikeIn d) (pc := 19) (cks_at k_M_alikeIn 11 rfl rfl) sa_123 sn_123 (fun M1 => ?_)
    refine tq_iinc 4 (E := E_M_alikeIn d) (pc := 20) (cks_at k_M_alikeIn 12 rfl rfl) rfl (show 4 < 6 by decide) rfl ?_
    refine tq_goto (tgt := 5) (E := E_M_alikeIn d) (pc := 23) (cks_at k_M_alikeIn 13 rfl rfl) (by decide) ?_
    exact tq_sub [1, 2, 3, 4, 0] rfl (hkH v1 v2 v3 (v4 + 1) M1)
def f_M_alikeIn_L5 (kx26 : Int → Int → Int → Mm → Option (Int × Mm)) : Nat → Int × Int × Int × Int × Mm → Option (Int × Mm) := lp fun kH s => f_M_alikeIn_B5 (fun v1 v2 v3 v4 M => kH (v1, v2, v3, v4, M)) kx26 s.1 s.2.1 s.2.2.1 s.2.2.2.1 s.2.2.2.2
set_option maxRecDepth 20000 in
set_option maxHeartbeats 4000000 in
theorem w_M_alikeIn_L5 (d : Nat) (kx26 : Int → Int → Int → Mm → Option (Int × Mm)) (hkx26 : ∀ (v1 v2 v3 : Int) (M : Mm), T (E_M_alikeIn d) injI 26 [(0, .ref 78), (1, vI v1), (2, vI v2), (3, vI v3)] [] M (kx26 v1 v2 v3 M)) (n : Nat) (s : Int × Int × Int × Int × Mm) : T (E_M_alikeIn d) injI 5 [(0, .ref 78), (1, vI s.1), (2, vI s.2.1), (3, vI s.2.2.1), (4, vI s.2.2.2.1)] [] s.2.2.2.2 (f_M_alikeIn_L5 kx26 n s) :=
  tq_lp (fun s => [(0, .ref 78), (1, vI s.1), (2, vI s.2.1), (3, vI s.2.2.1), (4, vI s.2.2.2.1)]) (fun s => s.2.2.2.2) (fun kH hH s => w_M_alikeIn_B5 d (fun v1 v2 v3 v4 M => kH (v1, v2, v3, v4, M)) kx26 (fun v1 v2 v3 v4 M => hH (v1, v2, v3, v4, M)) hkx26 s.1 s.2.1 s.2.2.1 s.2.2.2.1 s.2.2.2.2) n s
def f_M_alikeIn_B29 (kH : Int → Int → Int → Int → Mm → Option (Int × Mm)) (v1 v2 v3 v4 : Int) (M : Mm) : Option (Int × Mm) :=
  bI (f_M_roundOf v1 M) (fun r4 M3 =>
  if i32 r4 ≤ i32 v4 then
    some (v3, M3)
  else
    gd (0 ≤ i32 v4 ∧ i32 v4 < ((48 : Nat) : Int)) <|
    if ¬ i32 (M3 122 (i32 v4).toNat) = 0 then
      bI (f_M_widthBy v1 v2 v4 M3) (fun r6 M5 =>
      gd (0 ≤ i32 r6 ∧ i32 r6 < ((100 : Nat) : Int)) <|
      gd (0 ≤ i32 r6 ∧ i32 r6 < ((100 : Nat) : Int)) <|
      bd (up M5 123 (i32 r6).toNat ((M5 123 (i32 r6).toNat) + 1)) (fun M7 =>
      gd (0 ≤ i32 r6 ∧ i32 r6 < ((100 : Nat) : Int)) <|
      if i32 (M7 123 (i32 r6).toNat) ≤ i32 v3 then
        kH v1 v2 v3 (v4 + 1) M7
      else
        gd (0 ≤ i32 r6 ∧ i32 r6 < ((100 : Nat) : Int)) <|
        kH v1 v2 (M7 123 (i32 r6).toNat) (v4 + 1) M7))
    else
      kH v1 v2 v3 (v4 + 1) M3)
set_option maxRecDepth 20000 in
set_option maxHeartbeats 4000000 in
theorem w_M_alikeIn_B29 (d : Nat) (kH : Int → Int → Int → Int → Mm → Option (Int × Mm)) (hkH : ∀ (v1 v2 v3 v4 : Int) (M : Mm), T (E_M_alikeIn d) injI 29 [(0, .ref 78), (1, vI v1), (2, vI v2), (3, vI v3), (4, vI v4)] [] M (kH v1 v2 v3 v4 M)) (v1 v2 v3 v4 : Int) (M : Mm) : T (E_M_alikeIn d) injI 29 [(0, .ref 78), (1, vI v1), (2, vI v2), (3, vI v3), (4, vI v4)] [] M (f_M_alikeIn_B29 kH v1 v2 v3 v4 M) := by
  unfold f_M_alikeIn_B29
  refine tq_iload 4 (E := E_M_alikeIn d) (pc := 29) (cks_at k_M_alikeIn 16 rfl rfl) rfl ?_
  refine tq_aload_n 0 (E := E_M_alikeIn d) (pc := 31) (cks_at k_M_alikeIn 17 rfl rfl) rfl ?_
  refine tq_iload_n 1 (E := E_M_alikeIn d) (pc := 32) (cks_at k_M_alikeIn 18 rfl rfl) rfl ?_
  refine tq_V1 (E := E_M_alikeIn d) (pc := 33) (cks_at k_M_alikeIn 19 rfl rfl) mk_M_roundOf lk_M_418 rc_78 (Nat.le_of_ble_eq_true rfl) (c_M_roundOf (d + 3) v1 M) (k_I fun r4 M3 => ?_)
  refine tq_icmp_ge (E := E_M_alikeIn d) (pc := 36) (tgt := 98) (cks_at k_M_alikeIn 20 rfl rfl) (by decide) ?_ ?_
  · refine tq_iload_n 3 (E := E_M_alikeIn d) (pc := 98) (cks_at k_M_alikeIn 54 rfl rfl) rfl ?_
    exact tq_iret (E := E_M_alikeIn d) (pc := 99) (cks_at k_M_alikeIn 55 rfl rfl) rfl
  · refine tq_aload_n 0 (E := E_M_alikeIn d) (pc := 39) (cks_at k_M_alikeIn 21 rfl rfl) rfl ?_
    refine tq_getR (j := 122) (E := E_M_alikeIn d) (pc := 40) (cks_at k_M_alikeIn 22 rfl rfl) fo_M_149 so_78 rfl sp_78_68 ?_
    refine tq_iload 4 (E := E_M_alikeIn d) (pc := 43) (cks_at k_M_alikeIn 23 rfl rfl) rfl ?_
    refine tq_zald (E := E_M_alikeIn d) (pc := 45) (cks_at k_M_alikeIn 24 rfl rfl) sa_122 sn_122 ?_
    refine tq_if_ne (E := E_M_alikeIn d) (pc := 46) (tgt := 52) (cks_at k_M_alikeIn 25 rfl rfl) (by decide) ?_ ?_
    · refine tq_aload_n 0 (E := E_M_alikeIn d) (pc := 52) (cks_at k_M_alikeIn 27 rfl rfl) rfl ?_
      refine tq_iload_n 1 (E := E_M_alikeIn d) (pc := 53) (cks_at k_M_alikeIn 28 rfl rfl) rfl ?_
      refine tq_iload_n 2 (E := E_M_alikeIn d) (pc := 54) (cks_at k_M_alikeIn 29 rfl rfl) rfl ?_
      refine tq_iload 4 (E := E_M_alikeIn d) (pc := 55) (cks_at k_M_alikeIn 30 rfl rfl) rfl ?_
      refine tq_V3 (E := E_M_alikeIn d) (pc := 57) (cks_at k_M_alikeIn 31 rfl rfl) mk_M_widthBy lk_M_434 rc_78 (Nat.le_of_ble_eq_true rfl) (c_M_widthBy (d + 0) v1 v2 v4 M3) (k_I fun r6 M5 => ?_)
      refine tq_istore (E := E_M_alikeIn d) (pc := 60) (cks_at k_M_alikeIn 32 rfl rfl) (show 5 < 6 by decide) rfl ?_
      refine tq_aload_n 1 (E := E_M_alikeIn d) (pc := 62) (cks_at k_M_alikeIn 33 rfl rfl) rfl ?_
      refine tq_getR (j := 123) (E := E_M_alikeIn d) (pc := 63) (cks_at k_M_alikeIn 34 rfl rfl) fo_M_153 so_78 rfl sp_78_69 ?_
      refine tq_iload 0 (E := E_M_alikeIn d) (pc := 66) (cks_at k_M_alikeIn 35 rfl rfl) rfl ?_
      refine tq_dup2 (E := E_M_alikeIn d) (pc := 68) (cks_at k_M_alikeIn 36 rfl rfl) rfl rfl ?_
      refine tq_iald (E := E_M_alikeIn d) (pc := 69) (cks_at k_M_alikeIn 37 rfl rfl) sa_123 sn_123 ?_
      refine tq_iconst (E := E_M_alikeIn d) (pc := 70) (cks_at k_M_alikeIn 38 rfl rfl) ?_
      refine tq_iadd (E := E_M_alikeIn d) (pc := 71) (cks_at k_M_alikeIn 39 rfl rfl) ?_
      refine tq_iast (E := E_M_alikeIn d) (pc := 72) (cks_at k_M_alikeIn 40 rfl rfl) sa_123 sn_123 (fun M7 => ?_)
      refine tq_aload_n 1 (E := E_M_alikeIn d) (pc := 73) (cks_at k_M_alikeIn 41 rfl rfl) rfl ?_
      refine tq_getR (j := 123) (E := E_M_alikeIn d) (pc := 74) (cks_at k_M_alikeIn 42 rfl rfl) fo_M_153 so_78 rfl sp_78_69 ?_
      refine tq_iload 0 (E := E_M_alikeIn d) (pc := 77) (cks_at k_M_alikeIn 43 rfl rfl) rfl ?_
      refine tq_iald (E := E_M_alikeIn d) (pc := 79) (cks_at k_M_alikeIn 44 rfl rfl) sa_123 sn_123 ?_
      refine tq_iload_n 4 (E := E_M_alikeIn d) (pc := 80) (cks_at k_M_alikeIn 45 rfl rfl) rfl ?_
      refine tq_icmp_le (E := E_M_alikeIn d) (pc := 81) (tgt := 92) (cks_at k_M_alikeIn 46 rfl rfl) (by decide) ?_ ?_
      · refine tq_iinc 5 (E := E_M_alikeIn d) (pc := 92) (cks_at k_M_alikeIn 52 rfl rfl) rfl (show 4 < 6 by decide) rfl ?_
        refine tq_goto (tgt := 29) (E := E_M_alikeIn d) (pc := 95) (cks_at k_M_alikeIn 53 rfl rfl) (by decide) ?_
        exact tq_sub [2, 3, 4, 5, 0] rfl (hkH v1 v2 v3 (v4 + 1) M7)
      · refine tq_aload_n 1 (E := E_M_alikeIn d) (pc := 84) (cks_at k_M_alikeIn 47 rfl rfl) rfl ?_
        refine tq_getR (j := 123) (E := E_M_alikeIn d) (pc := 85) (cks_at k_M_alikeIn 48 rfl rfl) fo_M_153 so_78 rfl sp_78_69 ?_
        refine tq_iload 0 (E := E_M_alikeIn d) (pc := 88) (cks_at k_M_alikeIn 49 rfl rfl) rfl ?_
        refine tq_iald (E := E_M_alikeIn d) (pc := 90) (cks_at k_M_alikeIn 50 rfl rfl) sa_123 sn_123 ?_
        refine tq_istore_n (E := E_M_alikeIn d) (pc := 91) (cks_at k_M_alikeIn 51 rfl rfl) (show 3 < 6 by decide) rfl ?_
        refine tq_iinc 5 (E := E_M_alikeIn d) (pc := 92) (cks_at k_M_alikeIn 52 rfl rfl) rfl (show 4 < 6 by decide) rfl ?_
        refine tq_goto (tgt := 29) (E := E_M_alikeIn d) (pc := 95) (cks_at k_M_alikeIn 53 rfl rfl) (by decide) ?_
        exact tq_sub [3, 4, 5, 1, 0] rfl (hkH v1 v2 (M7 123 (i32 r6).toNat) (v4 + 1) M7)
    · refine tq_goto (tgt := 92) (E := E_M_alikeIn d) (pc := 49) (cks_at k_M_alikeIn 26 rfl rfl) (by decide) ?_
      refine tq_iinc 4 (E := E_M_alikeIn d) (pc := 92) (cks_at k_M_alikeIn 52 rfl rfl) rfl (show 4 < 6 by decide) rfl ?_
      refine tq_goto (tgt := 29) (E := E_M_alikeIn d) (pc := 95) (cks_at k_M_alikeIn 53 rfl rfl) (by decide) ?_
      exact tq_sub [1, 2, 3, 4, 0] rfl (hkH v1 v2 v3 (v4 + 1) M3)
def f_M_alikeIn_L29 : Nat → Int × Int × Int × Int × Mm → Option (Int × Mm) := lp fun kH s => f_M_alikeIn_B29 (fun v1 v2 v3 v4 M => kH (v1, v2, v3, v4, M)) s.1 s.2.1 s.2.2.1 s.2.2.2.1 s.2.2.2.2
set_option maxRecDepth 20000 in
set_option maxHeartbeats 4000000 in
theorem w_M_alikeIn_L29 (d : Nat) (n : Nat) (s : Int × Int × Int × Int × Mm) : T (E_M_alikeIn d) injI 29 [(0, .ref 78), (1, vI s.1), (2, vI s.2.1), (3, vI s.2.2.1), (4, vI s.2.2.2.1)] [] s.2.2.2.2 (f_M_alikeIn_L29 n s) :=
  tq_lp (fun s => [(0, .ref 78), (1, vI s.1), (2, vI s.2.1), (3, vI s.2.2.1), (4, vI s.2.2.2.1)]) (fun s => s.2.2.2.2) (fun kH hH s => w_M_alikeIn_B29 d (fun v1 v2 v3 v4 M => kH (v1, v2, v3, v4, M)) (fun v1 v2 v3 v4 M => hH (v1, v2, v3, v4, M)) s.1 s.2.1 s.2.2.1 s.2.2.2.1 s.2.2.2.2) n s
def f_M_alikeIn (v1 : Int) (v2 : Int) (M : Mm) : Option (Int × Mm) :=
  f_M_alikeIn_L5 (fun v1 v2 v3 M2 => f_M_alikeIn_L29 FU (v1, v2, v3, 0, M2)) FU (v1, v2, 0, 0, M)
set_option maxRecDepth 20000 in
set_option maxHeartbeats 4000000 in
theorem c_M_alikeIn (d : Nat) (v1 : Int) (v2 : Int) (M : Mm) (Q : Option Value → Mm → Prop) (h : sat injI (f_M_alikeIn v1 v2 M) Q) : Ct (d + 5) y_M_alikeIn [.ref 78, vI v1, vI v2] M Q := by
  refine ct_in (d := d + 4) mk_M_alikeIn (Nat.le_of_ble_eq_true rfl) (?_ : T (E_M_alikeIn d) injI 0 [(0, .ref 78), (1, vI v1), (2, vI v2)] [] M (f_M_alikeIn v1 v2 M)) h
  unfold f_M_alikeIn
  refine tq_iconst (E := E_M_alikeIn d) (pc := 0) (cks_at k_M_alikeIn 0 rfl rfl) ?_
  refine tq_istore_n (E := E_M_alikeIn d) (pc := 1) (cks_at k_M_alikeIn 1 rfl rfl) (show 3 < 6 by decide) rfl ?_
  refine tq_iconst (E := E_M_alikeIn d) (pc := 2) (cks_at k_M_alikeIn 2 rfl rfl) ?_
  refine tq_istore (E := E_M_alikeIn d) (pc := 3) (cks_at k_M_alikeIn 3 rfl rfl) (show 4 < 6 by decide) rfl ?_
  exact tq_sub [2, 3, 4, 1, 0] rfl (w_M_alikeIn_L5 d _ (fun v1 v2 v3 M2 => by
      refine tq_iconst (E := E_M_alikeIn d) (pc := 26) (cks_at k_M_alikeIn 14 rfl rfl) ?_
      refine tq_istore (E := E_M_alikeIn d) (pc := 27) (cks_at k_M_alikeIn 15 rfl rfl) (show 4 < 6 by decide) rfl ?_
      exact tq_sub [1, 2, 3, 4, 0] rfl (w_M_alikeIn_L29 d FU (v1, v2, v3, 0, M2))) FU (v1, v2, 0, 0, M))
abbrev E_M_telling (d : Nat) : Ev := (Ct (d + 5), "BreathTownModel", prog_14_method_115_code, 8, False, 0, (fun _ => 0), (Option.some Jvm.ClassFile.FieldType.int))
def f_M_telling_B25 (kH : Int → Int → Int → Int → Mm → Option (Int × Mm)) (kx75 : Int → Int → Int → Mm → Option (Int × Mm)) (v1 v2 v3 v4 : Int) (M : Mm) : Option (Int × Mm) :=
  bI (f_M_roundOf v1 M) (fun r6 M5 =>
  if i32 r6 ≤ i32 v4 then
    kx75 v1 v2 v3 M5
  else
    bI (f_M_isShift v1 v4 M5) (fun r8 M7 =>
    gd ((0 ≤ i32 v4 ∧ i32 v4 < ((48 : Nat) : Int)) ∧ (i32 r8 = 0 ∨ i32 r8 = 1)) <|
    bd (up M7 122 (i32 v4).toNat r8) (fun M9 =>
    if ¬ i32 v3 = 0 then
      kH v1 v2 1 (v4 + 1) M9
    else
      gd (0 ≤ i32 v4 ∧ i32 v4 < ((48 : Nat) : Int)) <|
      if i32 (M9 122 (i32 v4).toNat) = 0 then
        kH v1 v2 0 (v4 + 1) M9
      else
        kH v1 v2 1 (v4 + 1) M9)))
set_option maxRecDepth 20000 in
set_option maxHeartbeats 4000000 in
theorem w_M_telling_B25 (d : Nat) (kH : Int → Int → Int → Int → Mm → Option (Int × Mm)) (kx75 : Int → Int → Int → Mm → Option (Int × Mm)) (hkH : ∀ (v1 v2 v3 v4 : Int) (M : Mm), T (E_M_telling d) injI 25 [(0, .ref 78), (1, vI v1), (2, vI v2), (3, vI v3), (4, vI v4)] [] M (kH v1 v2 v3 v4 M)) (hkx75 : ∀ (v1 v2 v3 : Int) (M : Mm), T (E_M_telling d) injI 75 [(0, .ref 78), (1, vI v1), (2, vI v2), (3, vI v3)] [] M (kx75 v1 v2 v3 M)) (v1 v2 v3 v4 : Int) (M : Mm) : T (E_M_telling d) injI 25 [(0, .ref 78), (1, vI v1), (2, vI v2), (3, vI v3), (4, vI v4)] [] M (f_M_telling_B25 kH kx75 v1 v2 v3 v4 M) := by
  unfold f_M_telling_B25
  refine tq_iload 4 (E := E_M_telling d) (pc := 25) (cks_at k_M_telling 16 rfl rfl) rfl ?_
  refine tq_aload_n 0 (E := E_M_telling d) (pc := 27) (cks_at k_M_telling 17 rfl rfl) rfl ?_
  refine tq_iload_n 1 (E := E_M_telling d) (pc := 28) (cks_at k_M_telling 18 rfl rfl) rfl ?_
  refine tq_V1 (E := E_M_telling d) (pc := 29) (cks_at k_M_telling 19 rfl rfl) mk_M_roundOf lk_M_418 rc_78 (Nat.le_of_ble_eq_true rfl) (c_M_roundOf (d + 4) v1 M) (k_I fun r6 M5 => ?_)
  refine tq_icmp_ge (E := E_M_telling d) (pc := 32) (tgt := 75) (cks_at k_M_telling 20 rfl rfl) (by decide) ?_ ?_
  · exact tq_sub [0, 1, 2, 3] rfl (hkx75 v1 v2 v3 M5)
  · refine tq_aload_n 0 (E := E_M_telling d) (pc := 35) (cks_at k_M_telling 21 rfl rfl) rfl ?_
    refine tq_getR (j := 122) (E := E_M_telling d) (pc := 36) (cks_at k_M_telling 22 rfl rfl) fo_M_149 so_78 rfl sp_78_68 ?_
    refine tq_iload 4 (E := E_M_telling d) (pc := 39) (cks_at k_M_telling 23 rfl rfl) rfl ?_
    refine tq_aload_n 0 (E := E_M_telling d) (pc := 41) (cks_at k_M_telling 24 rfl rfl) rfl ?_
    refine tq_iload_n 1 (E := E_M_telling d) (pc := 42) (cks_at k_M_telling 25 rfl rfl) rfl ?_
    refine tq_iload 4 (E := E_M_telling d) (pc := 43) (cks_at k_M_telling 26 rfl rfl) rfl ?_
    refine tq_V2 (E := E_M_telling d) (pc := 45) (cks_at k_M_telling 27 rfl rfl) mk_M_isShift lk_M_608 rc_78 (Nat.le_of_ble_eq_true rfl) (c_M_isShift (d + 0) v1 v4 M5) (k_I fun r8 M7 => ?_)
    refine tq_zast (E := E_M_telling d) (pc := 48) (cks_at k_M_telling 28 rfl rfl) sa_122 sn_122 (fun M9 => ?_)
    refine tq_iload_n 3 (E := E_M_telling d) (pc := 49) (cks_at k_M_telling 29 rfl rfl) rfl ?_
    refine tq_if_ne (E := E_M_telling d) (pc := 50) (tgt := 63) (cks_at k_M_telling 30 rfl rfl) (by decide) ?_ ?_
    · refine tq_iconst (E := E_M_telling d) (pc := 63) (cks_at k_M_telling 36 rfl rfl) ?_
      refine tq_goto (tgt := 68) (E := E_M_telling d) (pc := 64) (cks_at k_M_telling 37 rfl rfl) (by decide) ?_
      refine tq_istore_n (E := E_M_telling d) (pc := 68) (cks_at k_M_telling 39 rfl rfl) (show 3 < 8 by decide) rfl ?_
      refine tq_iinc 4 (E := E_M_telling d) (pc := 69) (cks_at k_M_telling 40 rfl rfl) rfl (show 4 < 8 by decide) rfl ?_
      refine tq_goto (tgt := 25) (E := E_M_telling d) (pc := 72) (cks_at k_M_telling 41 rfl rfl) (by decide) ?_
      exact tq_sub [2, 3, 4, 1, 0] rfl (hkH v1 v2 1 (v4 + 1) M9)
    · refine tq_aload_n 0 (E := E_M_telling d) (pc := 53) (cks_at k_M_telling 31 rfl rfl) rfl ?_
      refine tq_getR (j := 122) (E := E_M_telling d) (pc := 54) (cks_at k_M_telling 32 rfl rfl) fo_M_149 so_78 rfl sp_78_68 ?_
      refine tq_iload 4 (E := E_M_telling d) (pc := 57) (cks_at k_M_telling 33 rfl rfl) rfl ?_
      refine tq_zald (E := E_M_telling d) (pc := 59) (cks_at k_M_telling 34 rfl rfl) sa_122 sn_122 ?_
      refine tq_if_eq (E := E_M_telling d) (pc := 60) (tgt := 67) (cks_at k_M_telling 35 rfl rfl) (by decide) ?_ ?_
      · refine tq_iconst (E := E_M_telling d) (pc := 67) (cks_at k_M_telling 38 rfl rfl) ?_
        refine tq_istore_n (E := E_M_telling d) (pc := 68) (cks_at k_M_telling 39 rfl rfl) (show 3 < 8 by decide) rfl ?_
        refine tq_iinc 4 (E := E_M_telling d) (pc := 69) (cks_at k_M_telling 40 rfl rfl) rfl (show 4 < 8 by decide) rfl ?_
        refine tq_goto (tgt := 25) (E := E_M_telling d) (pc := 72) (cks_at k_M_telling 41 rfl rfl) (by decide) ?_
        exact tq_sub [2, 3, 4, 1, 0] rfl (hkH v1 v2 0 (v4 + 1) M9)
      · refine tq_iconst (E := E_M_telling d) (pc := 63) (cks_at k_M_telling 36 rfl rfl) ?_
        refine tq_goto (tgt := 68) (E := E_M_telling d) (pc := 64) (cks_at k_M_telling 37 rfl rfl) (by decide) ?_
        refine tq_istore_n (E := E_M_telling d) (pc := 68) (cks_at k_M_telling 39 rfl rfl) (show 3 < 8 by decide) rfl ?_
        refine tq_iinc 4 (E := E_M_telling d) (pc := 69) (cks_at k_M_telling 40 rfl rfl) rfl (show 4 < 8 by decide) rfl ?_
        refine tq_goto (tgt := 25) (E := E_M_telling d) (pc := 72) (cks_at k_M_telling 41 rfl rfl) (by decide) ?_
        exact tq_sub [2, 3, 4, 1, 0] rfl (hkH v1 v2 1 (v4 + 1) M9)
def f_M_telling_L25 (kx75 : Int → Int → Int → Mm → Option (Int × Mm)) : Nat → Int × Int × Int × Int × Mm → Option (Int × Mm) := lp fun kH s => f_M_telling_B25 (fun v1 v2 v3 v4 M => kH (v1, v2, v3, v4, M)) kx75 s.1 s.2.1 s.2.2.1 s.2.2.2.1 s.2.2.2.2
set_option maxRecDepth 20000 in
set_option maxHeartbeats 4000000 in
theorem w_M_telling_L25 (d : Nat) (kx75 : Int → Int → Int → Mm → Option (Int × Mm)) (hkx75 : ∀ (v1 v2 v3 : Int) (M : Mm), T (E_M_telling d) injI 75 [(0, .ref 78), (1, vI v1), (2, vI v2), (3, vI v3)] [] M (kx75 v1 v2 v3 M)) (n : Nat) (s : Int × Int × Int × Int × Mm) : T (E_M_telling d) injI 25 [(0, .ref 78), (1, vI s.1), (2, vI s.2.1), (3, vI s.2.2.1), (4, vI s.2.2.2.1)] [] s.2.2.2.2 (f_M_telling_L25 kx75 n s) :=
  tq_lp (fun s => [(0, .ref 78), (1, vI s.1), (2, vI s.2.1), (3, vI s.2.2.1), (4, vI s.2.2.2.1)]) (fun s => s.2.2.2.2) (fun kH hH s => w_M_telling_B25 d (fun v1 v2 v3 v4 M => kH (v1, v2, v3, v4, M)) kx75 (fun v1 v2 v3 v4 M => hH (v1, v2, v3, v4, M)) hkx75 s.1 s.2.1 s.2.2.1 s.2.2.2.1 s.2.2.2.2) n s
def f_M_telling_J132 (kH : Int → Int → Int → Int → Int → Mm → Option (Int × Mm)) (kx153 : Int → Int → Int → Mm → Option (Int × Mm)) (v1 v2 v6 v7 : Int) (M : Mm) : Option (Int × Mm) :=
  kH v1 v2 ((M 108 0) + v6) v7 (v6 + 1) M
set_option maxRecDepth 20000 in
set_option maxHeartbeats 4000000 in
theorem w_M_telling_J132 (d : Nat) (kH : Int → Int → Int → Int → Int → Mm → Option (Int × Mm)) (kx153 : Int → Int → Int → Mm → Option (Int × Mm)) (hkH : ∀ (v1 v2 v4 v5 v6 : Int) (M : Mm), T (E_M_telling d) injI 90 [(0, .ref 78), (1, vI v1), (2, vI v2), (4, vI v4), (5, vI v5), (6, vI v6)] [] M (kH v1 v2 v4 v5 v6 M)) (hkx153 : ∀ (v2 v4 v5 : Int) (M : Mm), T (E_M_telling d) injI 153 [(2, vI v2), (4, vI v4), (5, vI v5)] [] M (kx153 v2 v4 v5 M)) (v1 v2 v6 v7 : Int) (M : Mm) : T (E_M_telling d) injI 132 [(0, .ref 78), (1, vI v1), (2, vI v2), (6, vI v6), (7, vI v7)] [] M (f_M_telling_J132 kH kx153 v1 v2 v6 v7 M) := by
  unfold f_M_telling_J132
  refine tq_aload_n 0 (E := E_M_telling d) (pc := 132) (cks_at k_M_telling 74 rfl rfl) rfl ?_
  refine tq_getR (j := 108) (E := E_M_telling d) (pc := 133) (cks_at k_M_telling 75 rfl rfl) fo_M_103 so_78 rfl sp_78_45 ?_
  refine tq_iconst (E := E_M_telling d) (pc := 136) (cks_at k_M_telling 76 rfl rfl) ?_
  refine tq_ialdC 0 (E := E_M_telling d) (pc := 137) (cks_at k_M_telling 77 rfl rfl) sa_108 sn_108 (by decide) ?_
  refine tq_iload 3 (E := E_M_telling d) (pc := 138) (cks_at k_M_telling 78 rfl rfl) rfl ?_
  refine tq_iadd (E := E_M_telling d) (pc := 140) (cks_at k_M_telling 79 rfl rfl) ?_
  refine tq_istore (E := E_M_telling d) (pc := 141) (cks_at k_M_telling 80 rfl rfl) (show 4 < 8 by decide) rfl ?_
  refine tq_iload 5 (E := E_M_telling d) (pc := 143) (cks_at k_M_telling 81 rfl rfl) rfl ?_
  refine tq_istore (E := E_M_telling d) (pc := 145) (cks_at k_M_telling 82 rfl rfl) (show 5 < 8 by decide) rfl ?_
  refine tq_iinc 5 (E := E_M_telling d) (pc := 147) (cks_at k_M_telling 83 rfl rfl) rfl (show 6 < 8 by decide) rfl ?_
  refine tq_goto (tgt := 90) (E := E_M_telling d) (pc := 150) (cks_at k_M_telling 84 rfl rfl) (by decide) ?_
  exact tq_sub [3, 4, 5, 2, 1, 0] rfl (hkH v1 v2 ((M 108 0) + v6) v7 (v6 + 1) M)
def f_M_telling_B90 (kH : Int → Int → Int → Int → Int → Mm → Option (Int × Mm)) (kx153 : Int → Int → Int → Mm → Option (Int × Mm)) (v1 v2 v4 v5 v6 : Int) (M : Mm) : Option (Int × Mm) :=
  bI (f_M_roundOf v1 M) (fun r12 M11 =>
  if i32 r12 ≤ i32 v6 then
    kx153 v2 v4 v5 M11
  else
    bI (f_M_alikeIn v1 ((M11 108 0) + v6) M11) (fun r14 M13 =>
    if i32 v4 = i32 ((-1)) then
      f_M_telling_J132 kH kx153 v1 v2 v6 r14 M13
    else
      if i32 r14 < i32 v5 then
        f_M_telling_J132 kH kx153 v1 v2 v6 r14 M13
      else
        kH v1 v2 v4 v5 (v6 + 1) M13))
set_option maxRecDepth 20000 in
set_option maxHeartbeats 4000000 in
theorem w_M_telling_B90 (d : Nat) (kH : Int → Int → Int → Int → Int → Mm → Option (Int × Mm)) (kx153 : Int → Int → Int → Mm → Option (Int × Mm)) (hkH : ∀ (v1 v2 v4 v5 v6 : Int) (M : Mm), T (E_M_telling d) injI 90 [(0, .ref 78), (1, vI v1), (2, vI v2), (4, vI v4), (5, vI v5), (6, vI v6)] [] M (kH v1 v2 v4 v5 v6 M)) (hkx153 : ∀ (v2 v4 v5 : Int) (M : Mm), T (E_M_telling d) injI 153 [(2, vI v2), (4, vI v4), (5, vI v5)] [] M (kx153 v2 v4 v5 M)) (v1 v2 v4 v5 v6 : Int) (M : Mm) : T (E_M_telling d) injI 90 [(0, .ref 78), (1, vI v1), (2, vI v2), (4, vI v4), (5, vI v5), (6, vI v6)] [] M (f_M_telling_B90 kH kx153 v1 v2 v4 v5 v6 M) := by
  unfold f_M_telling_B90
  refine tq_iload 5 (E := E_M_telling d) (pc := 90) (cks_at k_M_telling 52 rfl rfl) rfl ?_
  refine tq_aload_n 0 (E := E_M_telling d) (pc := 92) (cks_at k_M_telling 53 rfl rfl) rfl ?_
  refine tq_iload_n 1 (E := E_M_telling d) (pc := 93) (cks_at k_M_telling 54 rfl rfl) rfl ?_
  refine tq_V1 (E := E_M_telling d) (pc := 94) (cks_at k_M_telling 55 rfl rfl) mk_M_roundOf lk_M_418 rc_78 (Nat.le_of_ble_eq_true rfl) (c_M_roundOf (d + 4) v1 M) (k_I fun r12 M11 => ?_)
  refine tq_icmp_ge (E := E_M_telling d) (pc := 97) (tgt := 153) (cks_at k_M_telling 56 rfl rfl) (by decide) ?_ ?_
  · exact tq_sub [2, 3, 4] rfl (hkx153 v2 v4 v5 M11)
  · refine tq_aload_n 0 (E := E_M_telling d) (pc := 100) (cks_at k_M_telling 57 rfl rfl) rfl ?_
    refine tq_iload_n 1 (E := E_M_telling d) (pc := 101) (cks_at k_M_telling 58 rfl rfl) rfl ?_
    refine tq_aload_n 0 (E := E_M_telling d) (pc := 102) (cks_at k_M_telling 59 rfl rfl) rfl ?_
    refine tq_getR (j := 108) (E := E_M_telling d) (pc := 103) (cks_at k_M_telling 60 rfl rfl) fo_M_103 so_78 rfl sp_78_45 ?_
    refine tq_iconst (E := E_M_telling d) (pc := 106) (cks_at k_M_telling 61 rfl rfl) ?_
    refine tq_ialdC 0 (E := E_M_telling d) (pc := 107) (cks_at k_M_telling 62 rfl rfl) sa_108 sn_108 (by decide) ?_
    refine tq_iload 5 (E := E_M_telling d) (pc := 108) (cks_at k_M_telling 63 rfl rfl) rfl ?_
    refine tq_iadd (E := E_M_telling d) (pc := 110) (cks_at k_M_telling 64 rfl rfl) ?_
    refine tq_V2 (E := E_M_telling d) (pc := 111) (cks_at k_M_telling 65 rfl rfl) mk_M_alikeIn lk_M_611 rc_78 (Nat.le_of_ble_eq_true rfl) (c_M_alikeIn (d + 0) v1 ((M11 108 0) + v6) M11) (k_I fun r14 M13 => ?_)
    refine tq_istore (E := E_M_telling d) (pc := 114) (cks_at k_M_telling 66 rfl rfl) (show 7 < 8 by decide) rfl ?_
    refine tq_iload 4 (E := E_M_telling d) (pc := 116) (cks_at k_M_telling 67 rfl rfl) rfl ?_
    refine tq_iconst (E := E_M_telling d) (pc := 118) (cks_at k_M_telling 68 rfl rfl) ?_
    refine tq_icmp_eq (E := E_M_telling d) (pc := 119) (tgt := 132) (cks_at k_M_telling 69 rfl rfl) (by decide) ?_ ?_
    · exact tq_sub [1, 2, 3, 6, 0] rfl (w_M_telling_J132 d kH kx153 hkH hkx153 v1 v2 v6 r14 M13)
    · refine tq_iload 0 (E := E_M_telling d) (pc := 122) (cks_at k_M_telling 70 rfl rfl) rfl ?_
      refine tq_iload 5 (E := E_M_telling d) (pc := 124) (cks_at k_M_telling 71 rfl rfl) rfl ?_
      refine tq_icmp_lt (E := E_M_telling d) (pc := 126) (tgt := 132) (cks_at k_M_telling 72 rfl rfl) (by decide) ?_ ?_
      · exact tq_sub [1, 2, 3, 6, 0] rfl (w_M_telling_J132 d kH kx153 hkH hkx153 v1 v2 v6 r14 M13)
      · refine tq_goto (tgt := 147) (E := E_M_telling d) (pc := 129) (cks_at k_M_telling 73 rfl rfl) (by decide) ?_
        refine tq_iinc 6 (E := E_M_telling d) (pc := 147) (cks_at k_M_telling 83 rfl rfl) rfl (show 6 < 8 by decide) rfl ?_
        refine tq_goto (tgt := 90) (E := E_M_telling d) (pc := 150) (cks_at k_M_telling 84 rfl rfl) (by decide) ?_
        exact tq_sub [2, 3, 4, 5, 6, 0] rfl (hkH v1 v2 v4 v5 (v6 + 1) M13)
def f_M_telling_L90 (kx153 : Int → Int → Int → Mm → Option (Int × Mm)) : Nat → Int × Int × Int × Int × Int × Mm → Option (Int × Mm) := lp fun kH s => f_M_telling_B90 (fun v1 v2 v4 v5 v6 M => kH (v1, v2, v4, v5, v6, M)) kx153 s.1 s.2.1 s.2.2.1 s.2.2.2.1 s.2.2.2.2.1 s.2.2.2.2.2
set_option maxRecDepth 20000 in
set_option maxHeartbeats 4000000 in
theorem w_M_telling_L90 (d : Nat) (kx153 : Int → Int → Int → Mm → Option (Int × Mm)) (hkx153 : ∀ (v2 v4 v5 : Int) (M : Mm), T (E_M_telling d) injI 153 [(2, vI v2), (4, vI v4), (5, vI v5)] [] M (kx153 v2 v4 v5 M)) (n : Nat) (s : Int × Int × Int × Int × Int × Mm) : T (E_M_telling d) injI 90 [(0, .ref 78), (1, vI s.1), (2, vI s.2.1), (4, vI s.2.2.1), (5, vI s.2.2.2.1), (6, vI s.2.2.2.2.1)] [] s.2.2.2.2.2 (f_M_telling_L90 kx153 n s) :=
  tq_lp (fun s => [(0, .ref 78), (1, vI s.1), (2, vI s.2.1), (4, vI s.2.2.1), (5, vI s.2.2.2.1), (6, vI s.2.2.2.2.1)]) (fun s => s.2.2.2.2.2) (fun kH hH s => w_M_telling_B90 d (fun v1 v2 v4 v5 v6 M => kH (v1, v2, v4, v5, v6, M)) kx153 (fun v1 v2 v4 v5 v6 M => hH (v1, v2, v4, v5, v6, M)) hkx153 s.1 s.2.1 s.2.2.1 s.2.2.2.1 s.2.2.2.2.1 s.2.2.2.2.2) n s
def f_M_telling (v1 : Int) (v2 : Int) (M : Mm) : Option (Int × Mm) :=
  bI (f_M_isStreet v1 M) (fun r2 M1 =>
  if i32 r2 = 0 then
    some ((-1), M1)
  else
    bI (f_M_isIn (i32 v2) 0 1 M1) (fun r4 M3 =>
    if ¬ i32 r4 = 0 then
      f_M_telling_L25 (fun v1 v2 v3 M10 => if ¬ i32 v3 = 0 then
            f_M_telling_L90 (fun v2 v4 v5 M15 => if ¬ i32 v2 = 0 then
                  some (v5, M15)
                else
                  some (v4, M15)) FU (v1, v2, ((-1)), 0, 0, M10)
          else
            some ((-1), M10)) FU (v1, v2, 0, 0, M3)
    else
      some ((-1), M3)))
set_option maxRecDepth 20000 in
set_option maxHeartbeats 4000000 in
theorem c_M_telling (d : Nat) (v1 : Int) (v2 : Int) (M : Mm) (Q : Option Value → Mm → Prop) (h : sat injI (f_M_telling v1 v2 M) Q) : Ct (d + 6) y_M_telling [.ref 78, vI v1, vI v2] M Q := by
  refine ct_in (d := d + 5) mk_M_telling (Nat.le_of_ble_eq_true rfl) (?_ : T (E_M_telling d) injI 0 [(0, .ref 78), (1, vI v1), (2, vI v2)] [] M (f_M_telling v1 v2 M)) h
  unfold f_M_telling
  refine tq_aload_n 0 (E := E_M_telling d) (pc := 0) (cks_at k_M_telling 0 rfl rfl) rfl ?_
  refine tq_iload_n 1 (E := E_M_telling d) (pc := 1) (cks_at k_M_telling 1 rfl rfl) rfl ?_
  refine tq_V1 (E := E_M_telling d) (pc := 2) (cks_at k_M_telling 2 rfl rfl) mk_M_isStreet lk_M_509 rc_78 (Nat.le_of_ble_eq_true rfl) (c_M_isStreet (d + 3) v1 M) (k_I fun r2 M1 => ?_)
  refine tq_if_eq (E := E_M_telling d) (pc := 5) (tgt := 18) (cks_at k_M_telling 3 rfl rfl) (by decide) ?_ ?_
  · refine tq_iconst (E := E_M_telling d) (pc := 18) (cks_at k_M_telling 10 rfl rfl) ?_
    exact tq_iret (E := E_M_telling d) (pc := 19) (cks_at k_M_telling 11 rfl rfl) rfl
  · refine tq_iload_n 2 (E := E_M_telling d) (pc := 8) (cks_at k_M_telling 4 rfl rfl) rfl ?_
    refine tq_i2l (E := E_M_telling d) (pc := 9) (cks_at k_M_telling 5 rfl rfl) ?_
    refine tq_lconst0 (E := E_M_telling d) (pc := 10) (cks_at k_M_telling 6 rfl rfl) ?_
    refine tq_lconst1 (E := E_M_telling d) (pc := 11) (cks_at k_M_telling 7 rfl rfl) ?_
    refine tq_S3 (E := E_M_telling d) (pc := 12) (cks_at k_M_telling 8 rfl rfl) mk_M_isIn lk_M_265 (Nat.le_of_ble_eq_true rfl) (c_M_isIn (d + 4) (i32 v2) 0 1 M1) (k_I fun r4 M3 => ?_)
    refine tq_if_ne (E := E_M_telling d) (pc := 15) (tgt := 20) (cks_at k_M_telling 9 rfl rfl) (by decide) ?_ ?_
    · refine tq_iconst (E := E_M_telling d) (pc := 20) (cks_at k_M_telling 12 rfl rfl) ?_
      refine tq_istore_n (E := E_M_telling d) (pc := 21) (cks_at k_M_telling 13 rfl rfl) (show 3 < 8 by decide) rfl ?_
      refine tq_iconst (E := E_M_telling d) (pc := 22) (cks_at k_M_telling 14 rfl rfl) ?_
      refine tq_istore (E := E_M_telling d) (pc := 23) (cks_at k_M_telling 15 rfl rfl) (show 4 < 8 by decide) rfl ?_
      exact tq_sub [2, 3, 4, 1, 0] rfl (w_M_telling_L25 d _ (fun v1 v2 v3 M10 => by
          refine tq_iload_n 3 (E := E_M_telling d) (pc := 75) (cks_at k_M_telling 42 rfl rfl) rfl ?_
          refine tq_if_ne (E := E_M_telling d) (pc := 76) (tgt := 81) (cks_at k_M_telling 43 rfl rfl) (by decide) ?_ ?_
          · refine tq_iconst (E := E_M_telling d) (pc := 81) (cks_at k_M_telling 46 rfl rfl) ?_
            refine tq_istore (E := E_M_telling d) (pc := 82) (cks_at k_M_telling 47 rfl rfl) (show 4 < 8 by decide) rfl ?_
            refine tq_iconst (E := E_M_telling d) (pc := 84) (cks_at k_M_telling 48 rfl rfl) ?_
            refine tq_istore (E := E_M_telling d) (pc := 85) (cks_at k_M_telling 49 rfl rfl) (show 5 < 8 by decide) rfl ?_
            refine tq_iconst (E := E_M_telling d) (pc := 87) (cks_at k_M_telling 50 rfl rfl) ?_
            refine tq_istore (E := E_M_telling d) (pc := 88) (cks_at k_M_telling 51 rfl rfl) (show 6 < 8 by decide) rfl ?_
            exact tq_sub [3, 4, 5, 2, 1, 0] rfl (w_M_telling_L90 d _ (fun v2 v4 v5 M15 => by
                refine tq_iload_n 0 (E := E_M_telling d) (pc := 153) (cks_at k_M_telling 85 rfl rfl) rfl ?_
                refine tq_if_ne (E := E_M_telling d) (pc := 154) (tgt := 162) (cks_at k_M_telling 86 rfl rfl) (by decide) ?_ ?_
                · refine tq_iload 2 (E := E_M_telling d) (pc := 162) (cks_at k_M_telling 89 rfl rfl) rfl ?_
                  exact tq_iret (E := E_M_telling d) (pc := 164) (cks_at k_M_telling 90 rfl rfl) rfl
                · refine tq_iload 1 (E := E_M_telling d) (pc := 157) (cks_at k_M_telling 87 rfl rfl) rfl ?_
                  refine tq_goto (tgt := 164) (E := E_M_telling d) (pc := 159) (cks_at k_M_telling 88 rfl rfl) (by decide) ?_
                  exact tq_iret (E := E_M_telling d) (pc := 164) (cks_at k_M_telling 90 rfl rfl) rfl) FU (v1, v2, ((-1)), 0, 0, M10))
          · refine tq_iconst (E := E_M_telling d) (pc := 79) (cks_at k_M_telling 44 rfl rfl) ?_
            exact tq_iret (E := E_M_telling d) (pc := 80) (cks_at k_M_telling 45 rfl rfl) rfl) FU (v1, v2, 0, 0, M3))
    · refine tq_iconst (E := E_M_telling d) (pc := 18) (cks_at k_M_telling 10 rfl rfl) ?_
      exact tq_iret (E := E_M_telling d) (pc := 19) (cks_at k_M_telling 11 rfl rfl) rfl
abbrev E_Told_hasA (d : Nat) : Ev := (Ct (d + 2), "BreathTown$Told", prog_9_method_5_code, 3, False, 0, (fun _ => 0), (Option.some Jvm.ClassFile.FieldType.boolean))
def f_Told_hasA (this : Nat) (v1 : Int) (v2 : Int) (M : Mm) : Option (Int × Mm) :=
  if i32 v1 < 0 then
    some (0, M)
  else
    if i32 2 < i32 v1 then
      some (0, M)
    else
      if i32 v2 < 0 then
        some (0, M)
      else
        bI (f_Told_count this v1 M) (fun r2 M1 =>
        if i32 r2 ≤ i32 v2 then
          some (0, M1)
        else
          some (1, M1))
set_option maxRecDepth 20000 in
set_option maxHeartbeats 4000000 in
theorem c_Told_hasA (d : Nat) (this : Nat) (hthis : isTold this) (v1 : Int) (v2 : Int) (M : Mm) (Q : Option Value → Mm → Prop) (h : sat injI (f_Told_hasA this v1 v2 M) Q) : Ct (d + 3) y_Told_hasA [.ref this, vI v1, vI v2] M Q := by
  refine ct_in (d := d + 2) mk_Told_hasA (Nat.le_of_ble_eq_true rfl) (?_ : T (E_Told_hasA d) injI 0 [(0, .ref this), (1, vI v1), (2, vI v2)] [] M (f_Told_hasA this v1 v2 M)) h
  unfold f_Told_hasA
  refine tq_iload_n 1 (E := E_Told_hasA d) (pc := 0) (cks_at k_Told_hasA 0 rfl rfl) rfl ?_
  refine tq_if_lt (E := E_Told_hasA d) (pc := 1) (tgt := 26) (cks_at k_Told_hasA 1 rfl rfl) (by decide) ?_ ?_
  · refine tq_iconst (E := E_Told_hasA d) (pc := 26) (cks_at k_Told_hasA 14 rfl rfl) ?_
    exact tq_zretC (E := E_Told_hasA d) (pc := 27) (cks_at k_Told_hasA 15 rfl rfl) rfl (by decide)
  · refine tq_iload_n 1 (E := E_Told_hasA d) (pc := 4) (cks_at k_Told_hasA 2 rfl rfl) rfl ?_
    refine tq_iconst (E := E_Told_hasA d) (pc := 5) (cks_at k_Told_hasA 3 rfl rfl) ?_
    refine tq_icmp_gt (E := E_Told_hasA d) (pc := 6) (tgt := 26) (cks_at k_Told_hasA 4 rfl rfl) (by decide) ?_ ?_
    · refine tq_iconst (E := E_Told_hasA d) (pc := 26) (cks_at k_Told_hasA 14 rfl rfl) ?_
      exact tq_zretC (E := E_Told_hasA d) (pc := 27) (cks_at k_Told_hasA 15 rfl rfl) rfl (by decide)
    · refine tq_iload_n 2 (E := E_Told_hasA d) (pc := 9) (cks_at k_Told_hasA 5 rfl rfl) rfl ?_
      refine tq_if_lt (E := E_Told_hasA d) (pc := 10) (tgt := 26) (cks_at k_Told_hasA 6 rfl rfl) (by decide) ?_ ?_
      · refine tq_iconst (E := E_Told_hasA d) (pc := 26) (cks_at k_Told_hasA 14 rfl rfl) ?_
        exact tq_zretC (E := E_Told_hasA d) (pc := 27) (cks_at k_Told_hasA 15 rfl rfl) rfl (by decide)
      · refine tq_iload_n 2 (E := E_Told_hasA d) (pc := 13) (cks_at k_Told_hasA 7 rfl rfl) rfl ?_
        refine tq_aload_n 0 (E := E_Told_hasA d) (pc := 14) (cks_at k_Told_hasA 8 rfl rfl) rfl ?_
        refine tq_iload_n 1 (E := E_Told_hasA d) (pc := 15) (cks_at k_Told_hasA 9 rfl rfl) rfl ?_
        refine tq_V1 (E := E_Told_hasA d) (pc := 16) (cks_at k_Told_hasA 10 rfl rfl) mk_Told_count lk_Told_78 (isTold_rc hthis) (Nat.le_of_ble_eq_true rfl) (c_Told_count (d + 0) this hthis v1 M) (k_I fun r2 M1 => ?_)
        refine tq_icmp_ge (E := E_Told_hasA d) (pc := 19) (tgt := 26) (cks_at k_Told_hasA 11 rfl rfl) (by decide) ?_ ?_
        · refine tq_iconst (E := E_Told_hasA d) (pc := 26) (cks_at k_Told_hasA 14 rfl rfl) ?_
          exact tq_zretC (E := E_Told_hasA d) (pc := 27) (cks_at k_Told_hasA 15 rfl rfl) rfl (by decide)
        · refine tq_iconst (E := E_Told_hasA d) (pc := 22) (cks_at k_Told_hasA 12 rfl rfl) ?_
          refine tq_goto (tgt := 27) (E := E_Told_hasA d) (pc := 23) (cks_at k_Told_hasA 13 rfl rfl) (by decide) ?_
          exact tq_zretC (E := E_Told_hasA d) (pc := 27) (cks_at k_Told_hasA 15 rfl rfl) rfl (by decide)
abbrev E_Seen_fits (d : Nat) : Ev := (Ct (d + 4), "BreathTown$Seen", prog_8_method_4_code, 4, False, 0, (fun _ => 0), (Option.some Jvm.ClassFile.FieldType.boolean))
def f_Seen_fits_B2 (kH : Int → Int → Int → Mm → Option (Int × Mm)) (v1 v2 v3 : Int) (M : Mm) : Option (Int × Mm) :=
  if i32 (M 64 6) ≤ i32 v3 then
    some (1, M)
  else
    bI (f_BT_cell 65 v3 M) (fun r2 M1 =>
    if ¬ i32 r2 = i32 v1 then
      kH v1 v2 (v3 + 1) M1
    else
      bI (f_BT_cell 66 v3 M1) (fun r4 M3 =>
      bI (f_Widths_widthBy v1 v2 r4 M3) (fun r6 M5 =>
      bI (f_BT_cell 67 v3 M5) (fun r8 M7 =>
      if i32 r6 = i32 r8 then
        kH v1 v2 (v3 + 1) M7
      else
        some (0, M7)))))
set_option maxRecDepth 20000 in
set_option maxHeartbeats 4000000 in
theorem w_Seen_fits_B2 (d : Nat) (kH : Int → Int → Int → Mm → Option (Int × Mm)) (hkH : ∀ (v1 v2 v3 : Int) (M : Mm), T (E_Seen_fits d) injI 2 [(0, .ref 64), (1, vI v1), (2, vI v2), (3, vI v3)] [] M (kH v1 v2 v3 M)) (v1 v2 v3 : Int) (M : Mm) : T (E_Seen_fits d) injI 2 [(0, .ref 64), (1, vI v1), (2, vI v2), (3, vI v3)] [] M (f_Seen_fits_B2 kH v1 v2 v3 M) := by
  unfold f_Seen_fits_B2
  refine tq_iload_n 3 (E := E_Seen_fits d) (pc := 2) (cks_at k_Seen_fits 2 rfl rfl) rfl ?_
  refine tq_aload_n 0 (E := E_Seen_fits d) (pc := 3) (cks_at k_Seen_fits 3 rfl rfl) rfl ?_
  refine tq_getI (E := E_Seen_fits d) (pc := 4) (cks_at k_Seen_fits 4 rfl rfl) fo_Seen_59 so_64 rfl (by decide) ?_
  refine tq_icmp_ge (E := E_Seen_fits d) (pc := 7) (tgt := 58) (cks_at k_Seen_fits 5 rfl rfl) (by decide) ?_ ?_
  · refine tq_iconst (E := E_Seen_fits d) (pc := 58) (cks_at k_Seen_fits 30 rfl rfl) ?_
    exact tq_zretC (E := E_Seen_fits d) (pc := 59) (cks_at k_Seen_fits 31 rfl rfl) rfl (by decide)
  · refine tq_aload_n 0 (E := E_Seen_fits d) (pc := 10) (cks_at k_Seen_fits 6 rfl rfl) rfl ?_
    refine tq_getR (j := 65) (E := E_Seen_fits d) (pc := 11) (cks_at k_Seen_fits 7 rfl rfl) fo_Seen_9 so_64 rfl sp_64_3 ?_
    refine tq_iload_n 3 (E := E_Seen_fits d) (pc := 14) (cks_at k_Seen_fits 8 rfl rfl) rfl ?_
    refine tq_S2 (E := E_Seen_fits d) (pc := 15) (cks_at k_Seen_fits 9 rfl rfl) mk_BT_cell lk_Seen_65 (Nat.le_of_ble_eq_true rfl) (c_BT_cell (d + 3) 65 sa_65 v3 M) (k_I fun r2 M1 => ?_)
    refine tq_iload_n 1 (E := E_Seen_fits d) (pc := 18) (cks_at k_Seen_fits 10 rfl rfl) rfl ?_
    refine tq_icmp_ne (E := E_Seen_fits d) (pc := 19) (tgt := 52) (cks_at k_Seen_fits 11 rfl rfl) (by decide) ?_ ?_
    · refine tq_iinc 3 (E := E_Seen_fits d) (pc := 52) (cks_at k_Seen_fits 28 rfl rfl) rfl (show 3 < 4 by decide) rfl ?_
      refine tq_goto (tgt := 2) (E := E_Seen_fits d) (pc := 55) (cks_at k_Seen_fits 29 rfl rfl) (by decide) ?_
      exact tq_sub [1, 2, 3, 0] rfl (hkH v1 v2 (v3 + 1) M1)
    · refine tq_aload_n 0 (E := E_Seen_fits d) (pc := 22) (cks_at k_Seen_fits 12 rfl rfl) rfl ?_
      refine tq_getR (j := 46) (E := E_Seen_fits d) (pc := 23) (cks_at k_Seen_fits 13 rfl rfl) fo_Seen_35 so_64 rfl sp_64_2 ?_
      refine tq_iload_n 1 (E := E_Seen_fits d) (pc := 26) (cks_at k_Seen_fits 14 rfl rfl) rfl ?_
      refine tq_iload_n 2 (E := E_Seen_fits d) (pc := 27) (cks_at k_Seen_fits 15 rfl rfl) rfl ?_
      refine tq_aload_n 0 (E := E_Seen_fits d) (pc := 28) (cks_at k_Seen_fits 16 rfl rfl) rfl ?_
      refine tq_getR (j := 66) (E := E_Seen_fits d) (pc := 29) (cks_at k_Seen_fits 17 rfl rfl) fo_Seen_15 so_64 rfl sp_64_4 ?_
      refine tq_iload_n 3 (E := E_Seen_fits d) (pc := 32) (cks_at k_Seen_fits 18 rfl rfl) rfl ?_
      refine tq_S2 (E := E_Seen_fits d) (pc := 33) (cks_at k_Seen_fits 19 rfl rfl) mk_BT_cell lk_Seen_65 (Nat.le_of_ble_eq_true rfl) (c_BT_cell (d + 3) 66 sa_66 v3 M1) (k_I fun r4 M3 => ?_)
      refine tq_V3 (E := E_Seen_fits d) (pc := 36) (cks_at k_Seen_fits 20 rfl rfl) mk_Widths_widthBy lk_Seen_72 rc_46 (Nat.le_of_ble_eq_true rfl) (c_Widths_widthBy (d + 0) v1 v2 r4 M3) (k_I fun r6 M5 => ?_)
      refine tq_aload_n 0 (E := E_Seen_fits d) (pc := 39) (cks_at k_Seen_fits 21 rfl rfl) rfl ?_
      refine tq_getR (j := 67) (E := E_Seen_fits d) (pc := 40) (cks_at k_Seen_fits 22 rfl rfl) fo_Seen_18 so_64 rfl sp_64_5 ?_
      refine tq_iload_n 3 (E := E_Seen_fits d) (pc := 43) (cks_at k_Seen_fits 23 rfl rfl) rfl ?_
      refine tq_S2 (E := E_Seen_fits d) (pc := 44) (cks_at k_Seen_fits 24 rfl rfl) mk_BT_cell lk_Seen_65 (Nat.le_of_ble_eq_true rfl) (c_BT_cell (d + 3) 67 sa_67 v3 M5) (k_I fun r8 M7 => ?_)
      refine tq_icmp_eq (E := E_Seen_fits d) (pc := 47) (tgt := 52) (cks_at k_Seen_fits 25 rfl rfl) (by decide) ?_ ?_
      · refine tq_iinc 3 (E := E_Seen_fits d) (pc := 52) (cks_at k_Seen_fits 28 rfl rfl) rfl (show 3 < 4 by decide) rfl ?_
        refine tq_goto (tgt := 2) (E := E_Seen_fits d) (pc := 55) (cks_at k_Seen_fits 29 rfl rfl) (by decide) ?_
        exact tq_sub [1, 2, 3, 0] rfl (hkH v1 v2 (v3 + 1) M7)
      · refine tq_iconst (E := E_Seen_fits d) (pc := 50) (cks_at k_Seen_fits 26 rfl rfl) ?_
        exact tq_zretC (E := E_Seen_fits d) (pc := 51) (cks_at k_Seen_fits 27 rfl rfl) rfl (by decide)
def f_Seen_fits_L2 : Nat → Int × Int × Int × Mm → Option (Int × Mm) := lp fun kH s => f_Seen_fits_B2 (fun v1 v2 v3 M => kH (v1, v2, v3, M)) s.1 s.2.1 s.2.2.1 s.2.2.2
set_option maxRecDepth 20000 in
set_option maxHeartbeats 4000000 in
theorem w_Seen_fits_L2 (d : Nat) (n : Nat) (s : Int × Int × Int × Mm) : T (E_Seen_fits d) injI 2 [(0, .ref 64), (1, vI s.1), (2, vI s.2.1), (3, vI s.2.2.1)] [] s.2.2.2 (f_Seen_fits_L2 n s) :=
  tq_lp (fun s => [(0, .ref 64), (1, vI s.1), (2, vI s.2.1), (3, vI s.2.2.1)]) (fun s => s.2.2.2) (fun kH hH s => w_Seen_fits_B2 d (fun v1 v2 v3 M => kH (v1, v2, v3, M)) (fun v1 v2 v3 M => hH (v1, v2, v3, M)) s.1 s.2.1 s.2.2.1 s.2.2.2) n s
def f_Seen_fits (v1 : Int) (v2 : Int) (M : Mm) : Option (Int × Mm) :=
  f_Seen_fits_L2 FU (v1, v2, 0, M)
set_option maxRecDepth 20000 in
set_option maxHeartbeats 4000000 in
theorem c_Seen_fits (d : Nat) (v1 : Int) (v2 : Int) (M : Mm) (Q : Option Value → Mm → Prop) (h : sat injI (f_Seen_fits v1 v2 M) Q) : Ct (d + 5) y_Seen_fits [.ref 64, vI v1, vI v2] M Q := by
  refine ct_in (d := d + 4) mk_Seen_fits (Nat.le_of_ble_eq_true rfl) (?_ : T (E_Seen_fits d) injI 0 [(0, .ref 64), (1, vI v1), (2, vI v2)] [] M (f_Seen_fits v1 v2 M)) h
  unfold f_Seen_fits
  refine tq_iconst (E := E_Seen_fits d) (pc := 0) (cks_at k_Seen_fits 0 rfl rfl) ?_
  refine tq_istore_n (E := E_Seen_fits d) (pc := 1) (cks_at k_Seen_fits 1 rfl rfl) (show 3 < 4 by decide) rfl ?_
  exact tq_sub [1, 2, 3, 0] rfl (w_Seen_fits_L2 d FU (v1, v2, 0, M))
abbrev E_Seen_findShifts (d : Nat) : Ev := (Ct (d + 5), "BreathTown$Seen", prog_8_method_3_code, 4, False, 0, (fun _ => 0), (Option.some Jvm.ClassFile.FieldType.int))
def f_Seen_findShifts_B4 (kH : Int → Int → Int → Mm → Option (Int × Mm)) (v1 v2 v3 : Int) (M : Mm) : Option (Int × Mm) :=
  bI (f_BT_cell 9 v1 M) (fun r2 M1 =>
  if i32 r2 ≤ i32 v3 then
    some (v2, M1)
  else
    bI (f_Seen_fits v1 v3 M1) (fun r4 M3 =>
    if i32 r4 = 0 then
      kH v1 v2 (v3 + 1) M3
    else
      bV (f_BT_setCell 68 v2 v3 M3) (fun M5 =>
      kH v1 (v2 + 1) (v3 + 1) M5)))
set_option maxRecDepth 20000 in
set_option maxHeartbeats 4000000 in
theorem w_Seen_findShifts_B4 (d : Nat) (kH : Int → Int → Int → Mm → Option (Int × Mm)) (hkH : ∀ (v1 v2 v3 : Int) (M : Mm), T (E_Seen_findShifts d) injI 4 [(0, .ref 64), (1, vI v1), (2, vI v2), (3, vI v3)] [] M (kH v1 v2 v3 M)) (v1 v2 v3 : Int) (M : Mm) : T (E_Seen_findShifts d) injI 4 [(0, .ref 64), (1, vI v1), (2, vI v2), (3, vI v3)] [] M (f_Seen_findShifts_B4 kH v1 v2 v3 M) := by
  unfold f_Seen_findShifts_B4
  refine tq_iload_n 3 (E := E_Seen_findShifts d) (pc := 4) (cks_at k_Seen_findShifts 4 rfl rfl) rfl ?_
  refine tq_aload_n 0 (E := E_Seen_findShifts d) (pc := 5) (cks_at k_Seen_findShifts 5 rfl rfl) rfl ?_
  refine tq_getR (j := 3) (E := E_Seen_findShifts d) (pc := 6) (cks_at k_Seen_findShifts 6 rfl rfl) fo_Seen_27 so_64 rfl sp_64_0 ?_
  refine tq_getR (j := 9) (E := E_Seen_findShifts d) (pc := 9) (cks_at k_Seen_findShifts 7 rfl rfl) fo_Seen_62 so_3 rfl sp_3_5 ?_
  refine tq_iload_n 1 (E := E_Seen_findShifts d) (pc := 12) (cks_at k_Seen_findShifts 8 rfl rfl) rfl ?_
  refine tq_S2 (E := E_Seen_findShifts d) (pc := 13) (cks_at k_Seen_findShifts 9 rfl rfl) mk_BT_cell lk_Seen_65 (Nat.le_of_ble_eq_true rfl) (c_BT_cell (d + 4) 9 sa_9 v1 M) (k_I fun r2 M1 => ?_)
  refine tq_icmp_ge (E := E_Seen_findShifts d) (pc := 16) (tgt := 46) (cks_at k_Seen_findShifts 10 rfl rfl) (by decide) ?_ ?_
  · refine tq_iload_n 2 (E := E_Seen_findShifts d) (pc := 46) (cks_at k_Seen_findShifts 24 rfl rfl) rfl ?_
    exact tq_iret (E := E_Seen_findShifts d) (pc := 47) (cks_at k_Seen_findShifts 25 rfl rfl) rfl
  · refine tq_aload_n 0 (E := E_Seen_findShifts d) (pc := 19) (cks_at k_Seen_findShifts 11 rfl rfl) rfl ?_
    refine tq_iload_n 1 (E := E_Seen_findShifts d) (pc := 20) (cks_at k_Seen_findShifts 12 rfl rfl) rfl ?_
    refine tq_iload_n 3 (E := E_Seen_findShifts d) (pc := 21) (cks_at k_Seen_findShifts 13 rfl rfl) rfl ?_
    refine tq_V2 (E := E_Seen_findShifts d) (pc := 22) (cks_at k_Seen_findShifts 14 rfl rfl) mk_Seen_fits lk_Seen_69 rc_64 (Nat.le_of_ble_eq_true rfl) (c_Seen_fits (d + 0) v1 v3 M1) (k_I fun r4 M3 => ?_)
    refine tq_if_eq (E := E_Seen_findShifts d) (pc := 25) (tgt := 40) (cks_at k_Seen_findShifts 15 rfl rfl) (by decide) ?_ ?_
    · refine tq_iinc 3 (E := E_Seen_findShifts d) (pc := 40) (cks_at k_Seen_findShifts 22 rfl rfl) rfl (show 3 < 4 by decide) rfl ?_
      refine tq_goto (tgt := 4) (E := E_Seen_findShifts d) (pc := 43) (cks_at k_Seen_findShifts 23 rfl rfl) (by decide) ?_
      exact tq_sub [1, 2, 3, 0] rfl (hkH v1 v2 (v3 + 1) M3)
    · refine tq_aload_n 0 (E := E_Seen_findShifts d) (pc := 28) (cks_at k_Seen_findShifts 16 rfl rfl) rfl ?_
      refine tq_getR (j := 68) (E := E_Seen_findShifts d) (pc := 29) (cks_at k_Seen_findShifts 17 rfl rfl) fo_Seen_21 so_64 rfl sp_64_7 ?_
      refine tq_iload_n 2 (E := E_Seen_findShifts d) (pc := 32) (cks_at k_Seen_findShifts 18 rfl rfl) rfl ?_
      refine tq_iload_n 3 (E := E_Seen_findShifts d) (pc := 33) (cks_at k_Seen_findShifts 19 rfl rfl) rfl ?_
      refine tq_S3 (E := E_Seen_findShifts d) (pc := 34) (cks_at k_Seen_findShifts 20 rfl rfl) mk_BT_setCell lk_Seen_55 (Nat.le_of_ble_eq_true rfl) (c_BT_setCell (d + 4) 68 sa_68 v2 v3 M3) (k_V fun M5 => ?_)
      refine tq_iinc 2 (E := E_Seen_findShifts d) (pc := 37) (cks_at k_Seen_findShifts 21 rfl rfl) rfl (show 2 < 4 by decide) rfl ?_
      refine tq_iinc 3 (E := E_Seen_findShifts d) (pc := 40) (cks_at k_Seen_findShifts 22 rfl rfl) rfl (show 3 < 4 by decide) rfl ?_
      refine tq_goto (tgt := 4) (E := E_Seen_findShifts d) (pc := 43) (cks_at k_Seen_findShifts 23 rfl rfl) (by decide) ?_
      exact tq_sub [2, 3, 1, 0] rfl (hkH v1 (v2 + 1) (v3 + 1) M5)
def f_Seen_findShifts_L4 : Nat → Int × Int × Int × Mm → Option (Int × Mm) := lp fun kH s => f_Seen_findShifts_B4 (fun v1 v2 v3 M => kH (v1, v2, v3, M)) s.1 s.2.1 s.2.2.1 s.2.2.2
set_option maxRecDepth 20000 in
set_option maxHeartbeats 4000000 in
theorem w_Seen_findShifts_L4 (d : Nat) (n : Nat) (s : Int × Int × Int × Mm) : T (E_Seen_findShifts d) injI 4 [(0, .ref 64), (1, vI s.1), (2, vI s.2.1), (3, vI s.2.2.1)] [] s.2.2.2 (f_Seen_findShifts_L4 n s) :=
  tq_lp (fun s => [(0, .ref 64), (1, vI s.1), (2, vI s.2.1), (3, vI s.2.2.1)]) (fun s => s.2.2.2) (fun kH hH s => w_Seen_findShifts_B4 d (fun v1 v2 v3 M => kH (v1, v2, v3, M)) (fun v1 v2 v3 M => hH (v1, v2, v3, M)) s.1 s.2.1 s.2.2.1 s.2.2.2) n s
def f_Seen_findShifts (v1 : Int) (M : Mm) : Option (Int × Mm) :=
  f_Seen_findShifts_L4 FU (v1, 0, 0, M)
set_option maxRecDepth 20000 in
set_option maxHeartbeats 4000000 in
theorem c_Seen_findShifts (d : Nat) (v1 : Int) (M : Mm) (Q : Option Value → Mm → Prop) (h : sat injI (f_Seen_findShifts v1 M) Q) : Ct (d + 6) y_Seen_findShifts [.ref 64, vI v1] M Q := by
  refine ct_in (d := d + 5) mk_Seen_findShifts (Nat.le_of_ble_eq_true rfl) (?_ : T (E_Seen_findShifts d) injI 0 [(0, .ref 64), (1, vI v1)] [] M (f_Seen_findShifts v1 M)) h
  unfold f_Seen_findShifts
  refine tq_iconst (E := E_Seen_findShifts d) (pc := 0) (cks_at k_Seen_findShifts 0 rfl rfl) ?_
  refine tq_istore_n (E := E_Seen_findShifts d) (pc := 1) (cks_at k_Seen_findShifts 1 rfl rfl) (show 2 < 4 by decide) rfl ?_
  refine tq_iconst (E := E_Seen_findShifts d) (pc := 2) (cks_at k_Seen_findShifts 2 rfl rfl) ?_
  refine tq_istore_n (E := E_Seen_findShifts d) (pc := 3) (cks_at k_Seen_findShifts 3 rfl rfl) (show 3 < 4 by decide) rfl ?_
  exact tq_sub [2, 3, 1, 0] rfl (w_Seen_findShifts_L4 d FU (v1, 0, 0, M))
abbrev E_Seen_mostAlike (d : Nat) : Ev := (Ct (d + 4), "BreathTown$Seen", prog_8_method_6_code, 7, False, 0, (fun _ => 0), (Option.some Jvm.ClassFile.FieldType.int))
def f_Seen_mostAlike_B14 (kH : Int → Int → Int → Int → Int → Mm → Option (Int × Mm)) (v1 v2 v3 v4 v5 : Int) (M : Mm) : Option (Int × Mm) :=
  if i32 v3 ≤ i32 v5 then
    some (v4, M)
  else
    bI (f_BT_cell 68 v5 M) (fun r3 M2 =>
    bI (f_Widths_widthBy v1 r3 v2 M2) (fun r5 M4 =>
    bI (f_BT_cell 69 r5 M4) (fun r7 M6 =>
    bV (f_BT_setCell 69 r5 (r7 + 1) M6) (fun M8 =>
    bI (f_BT_cell 69 r5 M8) (fun r10 M9 =>
    bI (f_Math_max v4 r10 M9) (fun r12 M11 =>
    kH v1 v2 v3 r12 (v5 + 1) M11))))))
set_option maxRecDepth 20000 in
set_option maxHeartbeats 4000000 in
theorem w_Seen_mostAlike_B14 (d : Nat) (kH : Int → Int → Int → Int → Int → Mm → Option (Int × Mm)) (hkH : ∀ (v1 v2 v3 v4 v5 : Int) (M : Mm), T (E_Seen_mostAlike d) injI 14 [(0, .ref 64), (1, vI v1), (2, vI v2), (3, vI v3), (4, vI v4), (5, vI v5)] [] M (kH v1 v2 v3 v4 v5 M)) (v1 v2 v3 v4 v5 : Int) (M : Mm) : T (E_Seen_mostAlike d) injI 14 [(0, .ref 64), (1, vI v1), (2, vI v2), (3, vI v3), (4, vI v4), (5, vI v5)] [] M (f_Seen_mostAlike_B14 kH v1 v2 v3 v4 v5 M) := by
  unfold f_Seen_mostAlike_B14
  refine tq_iload 5 (E := E_Seen_mostAlike d) (pc := 14) (cks_at k_Seen_mostAlike 8 rfl rfl) rfl ?_
  refine tq_iload_n 3 (E := E_Seen_mostAlike d) (pc := 16) (cks_at k_Seen_mostAlike 9 rfl rfl) rfl ?_
  refine tq_icmp_ge (E := E_Seen_mostAlike d) (pc := 17) (tgt := 82) (cks_at k_Seen_mostAlike 10 rfl rfl) (by decide) ?_ ?_
  · refine tq_iload 4 (E := E_Seen_mostAlike d) (pc := 82) (cks_at k_Seen_mostAlike 40 rfl rfl) rfl ?_
    exact tq_iret (E := E_Seen_mostAlike d) (pc := 84) (cks_at k_Seen_mostAlike 41 rfl rfl) rfl
  · refine tq_aload_n 0 (E := E_Seen_mostAlike d) (pc := 20) (cks_at k_Seen_mostAlike 11 rfl rfl) rfl ?_
    refine tq_getR (j := 46) (E := E_Seen_mostAlike d) (pc := 21) (cks_at k_Seen_mostAlike 12 rfl rfl) fo_Seen_35 so_64 rfl sp_64_2 ?_
    refine tq_iload_n 1 (E := E_Seen_mostAlike d) (pc := 24) (cks_at k_Seen_mostAlike 13 rfl rfl) rfl ?_
    refine tq_aload_n 0 (E := E_Seen_mostAlike d) (pc := 25) (cks_at k_Seen_mostAlike 14 rfl rfl) rfl ?_
    refine tq_getR (j := 68) (E := E_Seen_mostAlike d) (pc := 26) (cks_at k_Seen_mostAlike 15 rfl rfl) fo_Seen_21 so_64 rfl sp_64_7 ?_
    refine tq_iload 5 (E := E_Seen_mostAlike d) (pc := 29) (cks_at k_Seen_mostAlike 16 rfl rfl) rfl ?_
    refine tq_S2 (E := E_Seen_mostAlike d) (pc := 31) (cks_at k_Seen_mostAlike 17 rfl rfl) mk_BT_cell lk_Seen_65 (Nat.le_of_ble_eq_true rfl) (c_BT_cell (d + 3) 68 sa_68 v5 M) (k_I fun r3 M2 => ?_)
    refine tq_iload_n 2 (E := E_Seen_mostAlike d) (pc := 34) (cks_at k_Seen_mostAlike 18 rfl rfl) rfl ?_
    refine tq_V3 (E := E_Seen_mostAlike d) (pc := 35) (cks_at k_Seen_mostAlike 19 rfl rfl) mk_Widths_widthBy lk_Seen_72 rc_46 (Nat.le_of_ble_eq_true rfl) (c_Widths_widthBy (d + 0) v1 r3 v2 M2) (k_I fun r5 M4 => ?_)
    refine tq_istore (E := E_Seen_mostAlike d) (pc := 38) (cks_at k_Seen_mostAlike 20 rfl rfl) (show 6 < 7 by decide) rfl ?_
    refine tq_aload_n 1 (E := E_Seen_mostAlike d) (pc := 40) (cks_at k_Seen_mostAlike 21 rfl rfl) rfl ?_
    refine tq_getR (j := 69) (E := E_Seen_mostAlike d) (pc := 41) (cks_at k_Seen_mostAlike 22 rfl rfl) fo_Seen_24 so_64 rfl sp_64_8 ?_
    refine tq_iload 0 (E := E_Seen_mostAlike d) (pc := 44) (cks_at k_Seen_mostAlike 23 rfl rfl) rfl ?_
    refine tq_aload_n 1 (E := E_Seen_mostAlike d) (pc := 46) (cks_at k_Seen_mostAlike 24 rfl rfl) rfl ?_
    refine tq_getR (j := 69) (E := E_Seen_mostAlike d) (pc := 47) (cks_at k_Seen_mostAlike 25 rfl rfl) fo_Seen_24 so_64 rfl sp_64_8 ?_
    refine tq_iload 0 (E := E_Seen_mostAlike d) (pc := 50) (cks_at k_Seen_mostAlike 26 rfl rfl) rfl ?_
    refine tq_S2 (E := E_Seen_mostAlike d) (pc := 52) (cks_at k_Seen_mostAlike 27 rfl rfl) mk_BT_cell lk_Seen_65 (Nat.le_of_ble_eq_true rfl) (c_BT_cell (d + 3) 69 sa_69 r5 M4) (k_I fun r7 M6 => ?_)
    refine tq_iconst (E := E_Seen_mostAlike d) (pc := 55) (cks_at k_Seen_mostAlike 28 rfl rfl) ?_
    refine tq_iadd (E := E_Seen_mostAlike d) (pc := 56) (cks_at k_Seen_mostAlike 29 rfl rfl) ?_
    refine tq_S3 (E := E_Seen_mostAlike d) (pc := 57) (cks_at k_Seen_mostAlike 30 rfl rfl) mk_BT_setCell lk_Seen_55 (Nat.le_of_ble_eq_true rfl) (c_BT_setCell (d + 3) 69 sa_69 r5 (r7 + 1) M6) (k_V fun M8 => ?_)
    refine tq_iload 5 (E := E_Seen_mostAlike d) (pc := 60) (cks_at k_Seen_mostAlike 31 rfl rfl) rfl ?_
    refine tq_aload_n 1 (E := E_Seen_mostAlike d) (pc := 62) (cks_at k_Seen_mostAlike 32 rfl rfl) rfl ?_
    refine tq_getR (j := 69) (E := E_Seen_mostAlike d) (pc := 63) (cks_at k_Seen_mostAlike 33 rfl rfl) fo_Seen_24 so_64 rfl sp_64_8 ?_
    refine tq_iload 0 (E := E_Seen_mostAlike d) (pc := 66) (cks_at k_Seen_mostAlike 34 rfl rfl) rfl ?_
    refine tq_S2 (E := E_Seen_mostAlike d) (pc := 68) (cks_at k_Seen_mostAlike 35 rfl rfl) mk_BT_cell lk_Seen_65 (Nat.le_of_ble_eq_true rfl) (c_BT_cell (d + 3) 69 sa_69 r5 M8) (k_I fun r10 M9 => ?_)
    refine tq_S2 (E := E_Seen_mostAlike d) (pc := 71) (cks_at k_Seen_mostAlike 36 rfl rfl) mk_Math_max lk_Seen_94 (Nat.le_of_ble_eq_true rfl) (c_Math_max (d + 3) v4 r10 M9) (k_I fun r12 M11 => ?_)
    refine tq_istore (E := E_Seen_mostAlike d) (pc := 74) (cks_at k_Seen_mostAlike 37 rfl rfl) (show 4 < 7 by decide) rfl ?_
    refine tq_iinc 6 (E := E_Seen_mostAlike d) (pc := 76) (cks_at k_Seen_mostAlike 38 rfl rfl) rfl (show 5 < 7 by decide) rfl ?_
    refine tq_goto (tgt := 14) (E := E_Seen_mostAlike d) (pc := 79) (cks_at k_Seen_mostAlike 39 rfl rfl) (by decide) ?_
    exact tq_sub [3, 4, 5, 6, 1, 0] rfl (hkH v1 v2 v3 r12 (v5 + 1) M11)
def f_Seen_mostAlike_L14 : Nat → Int × Int × Int × Int × Int × Mm → Option (Int × Mm) := lp fun kH s => f_Seen_mostAlike_B14 (fun v1 v2 v3 v4 v5 M => kH (v1, v2, v3, v4, v5, M)) s.1 s.2.1 s.2.2.1 s.2.2.2.1 s.2.2.2.2.1 s.2.2.2.2.2
set_option maxRecDepth 20000 in
set_option maxHeartbeats 4000000 in
theorem w_Seen_mostAlike_L14 (d : Nat) (n : Nat) (s : Int × Int × Int × Int × Int × Mm) : T (E_Seen_mostAlike d) injI 14 [(0, .ref 64), (1, vI s.1), (2, vI s.2.1), (3, vI s.2.2.1), (4, vI s.2.2.2.1), (5, vI s.2.2.2.2.1)] [] s.2.2.2.2.2 (f_Seen_mostAlike_L14 n s) :=
  tq_lp (fun s => [(0, .ref 64), (1, vI s.1), (2, vI s.2.1), (3, vI s.2.2.1), (4, vI s.2.2.2.1), (5, vI s.2.2.2.2.1)]) (fun s => s.2.2.2.2.2) (fun kH hH s => w_Seen_mostAlike_B14 d (fun v1 v2 v3 v4 v5 M => kH (v1, v2, v3, v4, v5, M)) (fun v1 v2 v3 v4 v5 M => hH (v1, v2, v3, v4, v5, M)) s.1 s.2.1 s.2.2.1 s.2.2.2.1 s.2.2.2.2.1 s.2.2.2.2.2) n s
def f_Seen_mostAlike (v1 : Int) (v2 : Int) (v3 : Int) (M : Mm) : Option (Int × Mm) :=
  bV (f_BT_fill 69 0 M) (fun M1 =>
  f_Seen_mostAlike_L14 FU (v1, v2, v3, 0, 0, M1))
set_option maxRecDepth 20000 in
set_option maxHeartbeats 4000000 in
theorem c_Seen_mostAlike (d : Nat) (v1 : Int) (v2 : Int) (v3 : Int) (M : Mm) (Q : Option Value → Mm → Prop) (h : sat injI (f_Seen_mostAlike v1 v2 v3 M) Q) : Ct (d + 5) y_Seen_mostAlike [.ref 64, vI v1, vI v2, vI v3] M Q := by
  refine ct_in (d := d + 4) mk_Seen_mostAlike (Nat.le_of_ble_eq_true rfl) (?_ : T (E_Seen_mostAlike d) injI 0 [(0, .ref 64), (1, vI v1), (2, vI v2), (3, vI v3)] [] M (f_Seen_mostAlike v1 v2 v3 M)) h
  unfold f_Seen_mostAlike
  refine tq_aload_n 0 (E := E_Seen_mostAlike d) (pc := 0) (cks_at k_Seen_mostAlike 0 rfl rfl) rfl ?_
  refine tq_getR (j := 69) (E := E_Seen_mostAlike d) (pc := 1) (cks_at k_Seen_mostAlike 1 rfl rfl) fo_Seen_24 so_64 rfl sp_64_8 ?_
  refine tq_iconst (E := E_Seen_mostAlike d) (pc := 4) (cks_at k_Seen_mostAlike 2 rfl rfl) ?_
  refine tq_S2 (E := E_Seen_mostAlike d) (pc := 5) (cks_at k_Seen_mostAlike 3 rfl rfl) mk_BT_fill lk_Seen_90 (Nat.le_of_ble_eq_true rfl) (c_BT_fill (d + 3) 69 sa_69 0 M) (k_V fun M1 => ?_)
  refine tq_iconst (E := E_Seen_mostAlike d) (pc := 8) (cks_at k_Seen_mostAlike 4 rfl rfl) ?_
  refine tq_istore (E := E_Seen_mostAlike d) (pc := 9) (cks_at k_Seen_mostAlike 5 rfl rfl) (show 4 < 7 by decide) rfl ?_
  refine tq_iconst (E := E_Seen_mostAlike d) (pc := 11) (cks_at k_Seen_mostAlike 6 rfl rfl) ?_
  refine tq_istore (E := E_Seen_mostAlike d) (pc := 12) (cks_at k_Seen_mostAlike 7 rfl rfl) (show 5 < 7 by decide) rfl ?_
  exact tq_sub [2, 3, 4, 5, 1, 0] rfl (w_Seen_mostAlike_L14 d FU (v1, v2, v3, 0, 0, M1))
abbrev E_Seen_tellingHour (d : Nat) : Ev := (Ct (d + 6), "BreathTown$Seen", prog_8_method_5_code, 8, False, 0, (fun _ => 0), (Option.some Jvm.ClassFile.FieldType.int))
def f_Seen_tellingHour_B28 (kH : Int → Int → Int → Int → Int → Int → Mm → Option (Int × Mm)) (kx83 : Int → Int → Int → Mm → Option (Int × Mm)) (v1 v2 v3 v4 v5 v6 : Int) (M : Mm) : Option (Int × Mm) :=
  bI (f_BT_cell 9 v1 M) (fun r4 M3 =>
  if i32 ((M 39 8) + r4) ≤ i32 v6 then
    kx83 v2 v4 v5 M3
  else
    bI (f_Seen_mostAlike v1 v6 v3 M3) (fun r6 M5 =>
    if i32 v5 ≤ i32 r6 then
      kH v1 v2 v3 v4 v5 (v6 + 1) M5
    else
      kH v1 v2 v3 v6 r6 (v6 + 1) M5))
set_option maxRecDepth 20000 in
set_option maxHeartbeats 4000000 in
theorem w_Seen_tellingHour_B28 (d : Nat) (kH : Int → Int → Int → Int → Int → Int → Mm → Option (Int × Mm)) (kx83 : Int → Int → Int → Mm → Option (Int × Mm)) (hkH : ∀ (v1 v2 v3 v4 v5 v6 : Int) (M : Mm), T (E_Seen_tellingHour d) injI 28 [(0, .ref 64), (1, vI v1), (2, vI v2), (3, vI v3), (4, vI v4), (5, vI v5), (6, vI v6)] [] M (kH v1 v2 v3 v4 v5 v6 M)) (hkx83 : ∀ (v2 v4 v5 : Int) (M : Mm), T (E_Seen_tellingHour d) injI 83 [(2, vI v2), (4, vI v4), (5, vI v5)] [] M (kx83 v2 v4 v5 M)) (v1 v2 v3 v4 v5 v6 : Int) (M : Mm) : T (E_Seen_tellingHour d) injI 28 [(0, .ref 64), (1, vI v1), (2, vI v2), (3, vI v3), (4, vI v4), (5, vI v5), (6, vI v6)] [] M (f_Seen_tellingHour_B28 kH kx83 v1 v2 v3 v4 v5 v6 M) := by
  unfold f_Seen_tellingHour_B28
  refine tq_iload 6 (E := E_Seen_tellingHour d) (pc := 28) (cks_at k_Seen_tellingHour 16 rfl rfl) rfl ?_
  refine tq_aload_n 0 (E := E_Seen_tellingHour d) (pc := 30) (cks_at k_Seen_tellingHour 17 rfl rfl) rfl ?_
  refine tq_getR (j := 39) (E := E_Seen_tellingHour d) (pc := 31) (cks_at k_Seen_tellingHour 18 rfl rfl) fo_Seen_31 so_64 rfl sp_64_1 ?_
  refine tq_getI (E := E_Seen_tellingHour d) (pc := 34) (cks_at k_Seen_tellingHour 19 rfl rfl) fo_Seen_82 so_39 rfl (by decide) ?_
  refine tq_aload_n 0 (E := E_Seen_tellingHour d) (pc := 37) (cks_at k_Seen_tellingHour 20 rfl rfl) rfl ?_
  refine tq_getR (j := 3) (E := E_Seen_tellingHour d) (pc := 38) (cks_at k_Seen_tellingHour 21 rfl rfl) fo_Seen_27 so_64 rfl sp_64_0 ?_
  refine tq_getR (j := 9) (E := E_Seen_tellingHour d) (pc := 41) (cks_at k_Seen_tellingHour 22 rfl rfl) fo_Seen_62 so_3 rfl sp_3_5 ?_
  refine tq_iload_n 1 (E := E_Seen_tellingHour d) (pc := 44) (cks_at k_Seen_tellingHour 23 rfl rfl) rfl ?_
  refine tq_S2 (E := E_Seen_tellingHour d) (pc := 45) (cks_at k_Seen_tellingHour 24 rfl rfl) mk_BT_cell lk_Seen_65 (Nat.le_of_ble_eq_true rfl) (c_BT_cell (d + 5) 9 sa_9 v1 M) (k_I fun r4 M3 => ?_)
  refine tq_iadd (E := E_Seen_tellingHour d) (pc := 48) (cks_at k_Seen_tellingHour 25 rfl rfl) ?_
  refine tq_icmp_ge (E := E_Seen_tellingHour d) (pc := 49) (tgt := 83) (cks_at k_Seen_tellingHour 26 rfl rfl) (by decide) ?_ ?_
  · exact tq_sub [2, 4, 5] rfl (hkx83 v2 v4 v5 M3)
  · refine tq_aload_n 0 (E := E_Seen_tellingHour d) (pc := 52) (cks_at k_Seen_tellingHour 27 rfl rfl) rfl ?_
    refine tq_iload_n 1 (E := E_Seen_tellingHour d) (pc := 53) (cks_at k_Seen_tellingHour 28 rfl rfl) rfl ?_
    refine tq_iload 6 (E := E_Seen_tellingHour d) (pc := 54) (cks_at k_Seen_tellingHour 29 rfl rfl) rfl ?_
    refine tq_iload_n 3 (E := E_Seen_tellingHour d) (pc := 56) (cks_at k_Seen_tellingHour 30 rfl rfl) rfl ?_
    refine tq_V3 (E := E_Seen_tellingHour d) (pc := 57) (cks_at k_Seen_tellingHour 31 rfl rfl) mk_Seen_mostAlike lk_Seen_87 rc_64 (Nat.le_of_ble_eq_true rfl) (c_Seen_mostAlike (d + 1) v1 v6 v3 M3) (k_I fun r6 M5 => ?_)
    refine tq_istore (E := E_Seen_tellingHour d) (pc := 60) (cks_at k_Seen_tellingHour 32 rfl rfl) (show 7 < 8 by decide) rfl ?_
    refine tq_iload 0 (E := E_Seen_tellingHour d) (pc := 62) (cks_at k_Seen_tellingHour 33 rfl rfl) rfl ?_
    refine tq_iload 6 (E := E_Seen_tellingHour d) (pc := 64) (cks_at k_Seen_tellingHour 34 rfl rfl) rfl ?_
    refine tq_icmp_ge (E := E_Seen_tellingHour d) (pc := 66) (tgt := 77) (cks_at k_Seen_tellingHour 35 rfl rfl) (by decide) ?_ ?_
    · refine tq_iinc 7 (E := E_Seen_tellingHour d) (pc := 77) (cks_at k_Seen_tellingHour 40 rfl rfl) rfl (show 6 < 8 by decide) rfl ?_
      refine tq_goto (tgt := 28) (E := E_Seen_tellingHour d) (pc := 80) (cks_at k_Seen_tellingHour 41 rfl rfl) (by decide) ?_
      exact tq_sub [2, 3, 4, 5, 6, 7, 0] rfl (hkH v1 v2 v3 v4 v5 (v6 + 1) M5)
    · refine tq_iload 7 (E := E_Seen_tellingHour d) (pc := 69) (cks_at k_Seen_tellingHour 36 rfl rfl) rfl ?_
      refine tq_istore (E := E_Seen_tellingHour d) (pc := 71) (cks_at k_Seen_tellingHour 37 rfl rfl) (show 4 < 8 by decide) rfl ?_
      refine tq_iload 1 (E := E_Seen_tellingHour d) (pc := 73) (cks_at k_Seen_tellingHour 38 rfl rfl) rfl ?_
      refine tq_istore (E := E_Seen_tellingHour d) (pc := 75) (cks_at k_Seen_tellingHour 39 rfl rfl) (show 5 < 8 by decide) rfl ?_
      refine tq_iinc 7 (E := E_Seen_tellingHour d) (pc := 77) (cks_at k_Seen_tellingHour 40 rfl rfl) rfl (show 6 < 8 by decide) rfl ?_
      refine tq_goto (tgt := 28) (E := E_Seen_tellingHour d) (pc := 80) (cks_at k_Seen_tellingHour 41 rfl rfl) (by decide) ?_
      exact tq_sub [4, 5, 6, 7, 2, 1, 0] rfl (hkH v1 v2 v3 v6 r6 (v6 + 1) M5)
def f_Seen_tellingHour_L28 (kx83 : Int → Int → Int → Mm → Option (Int × Mm)) : Nat → Int × Int × Int × Int × Int × Int × Mm → Option (Int × Mm) := lp fun kH s => f_Seen_tellingHour_B28 (fun v1 v2 v3 v4 v5 v6 M => kH (v1, v2, v3, v4, v5, v6, M)) kx83 s.1 s.2.1 s.2.2.1 s.2.2.2.1 s.2.2.2.2.1 s.2.2.2.2.2.1 s.2.2.2.2.2.2
set_option maxRecDepth 20000 in
set_option maxHeartbeats 4000000 in
theorem w_Seen_tellingHour_L28 (d : Nat) (kx83 : Int → Int → Int → Mm → Option (Int × Mm)) (hkx83 : ∀ (v2 v4 v5 : Int) (M : Mm), T (E_Seen_tellingHour d) injI 83 [(2, vI v2), (4, vI v4), (5, vI v5)] [] M (kx83 v2 v4 v5 M)) (n : Nat) (s : Int × Int × Int × Int × Int × Int × Mm) : T (E_Seen_tellingHour d) injI 28 [(0, .ref 64), (1, vI s.1), (2, vI s.2.1), (3, vI s.2.2.1), (4, vI s.2.2.2.1), (5, vI s.2.2.2.2.1), (6, vI s.2.2.2.2.2.1)] [] s.2.2.2.2.2.2 (f_Seen_tellingHour_L28 kx83 n s) :=
  tq_lp (fun s => [(0, .ref 64), (1, vI s.1), (2, vI s.2.1), (3, vI s.2.2.1), (4, vI s.2.2.2.1), (5, vI s.2.2.2.2.1), (6, vI s.2.2.2.2.2.1)]) (fun s => s.2.2.2.2.2.2) (fun kH hH s => w_Seen_tellingHour_B28 d (fun v1 v2 v3 v4 v5 v6 M => kH (v1, v2, v3, v4, v5, v6, M)) kx83 (fun v1 v2 v3 v4 v5 v6 M => hH (v1, v2, v3, v4, v5, v6, M)) hkx83 s.1 s.2.1 s.2.2.1 s.2.2.2.1 s.2.2.2.2.1 s.2.2.2.2.2.1 s.2.2.2.2.2.2) n s
def f_Seen_tellingHour (v1 : Int) (v2 : Int) (M : Mm) : Option (Int × Mm) :=
  bI (f_Seen_findShifts v1 M) (fun r2 M1 =>
  if ¬ i32 r2 = 0 then
    f_Seen_tellingHour_L28 (fun v2 v4 v5 M7 => if ¬ i32 v2 = 0 then
          some (v5, M7)
        else
          some (v4, M7)) FU (v1, v2, r2, ((-1)), 1000000, (M1 39 8), M1)
  else
    some ((-1), M1))
set_option maxRecDepth 20000 in
set_option maxHeartbeats 4000000 in
theorem c_Seen_tellingHour (d : Nat) (v1 : Int) (v2 : Int) (M : Mm) (Q : Option Value → Mm → Prop) (h : sat injI (f_Seen_tellingHour v1 v2 M) Q) : Ct (d + 7) y_Seen_tellingHour [.ref 64, vI v1, vI v2] M Q := by
  refine ct_in (d := d + 6) mk_Seen_tellingHour (Nat.le_of_ble_eq_true rfl) (?_ : T (E_Seen_tellingHour d) injI 0 [(0, .ref 64), (1, vI v1), (2, vI v2)] [] M (f_Seen_tellingHour v1 v2 M)) h
  unfold f_Seen_tellingHour
  refine tq_aload_n 0 (E := E_Seen_tellingHour d) (pc := 0) (cks_at k_Seen_tellingHour 0 rfl rfl) rfl ?_
  refine tq_iload_n 1 (E := E_Seen_tellingHour d) (pc := 1) (cks_at k_Seen_tellingHour 1 rfl rfl) rfl ?_
  refine tq_V1 (E := E_Seen_tellingHour d) (pc := 2) (cks_at k_Seen_tellingHour 2 rfl rfl) mk_Seen_findShifts lk_Seen_78 rc_64 (Nat.le_of_ble_eq_true rfl) (c_Seen_findShifts (d + 0) v1 M) (k_I fun r2 M1 => ?_)
  refine tq_istore_n (E := E_Seen_tellingHour d) (pc := 5) (cks_at k_Seen_tellingHour 3 rfl rfl) (show 3 < 8 by decide) rfl ?_
  refine tq_iload_n 0 (E := E_Seen_tellingHour d) (pc := 6) (cks_at k_Seen_tellingHour 4 rfl rfl) rfl ?_
  refine tq_if_ne (E := E_Seen_tellingHour d) (pc := 7) (tgt := 12) (cks_at k_Seen_tellingHour 5 rfl rfl) (by decide) ?_ ?_
  · refine tq_iconst (E := E_Seen_tellingHour d) (pc := 12) (cks_at k_Seen_tellingHour 8 rfl rfl) ?_
    refine tq_istore (E := E_Seen_tellingHour d) (pc := 13) (cks_at k_Seen_tellingHour 9 rfl rfl) (show 4 < 8 by decide) rfl ?_
    refine tq_ldc (z := 1000000) (E := E_Seen_tellingHour d) (pc := 15) (cks_at k_Seen_tellingHour 10 rfl rfl) cst_Seen_81 ?_
    refine tq_istore (E := E_Seen_tellingHour d) (pc := 17) (cks_at k_Seen_tellingHour 11 rfl rfl) (show 5 < 8 by decide) rfl ?_
    refine tq_aload_n 3 (E := E_Seen_tellingHour d) (pc := 19) (cks_at k_Seen_tellingHour 12 rfl rfl) rfl ?_
    refine tq_getR (j := 39) (E := E_Seen_tellingHour d) (pc := 20) (cks_at k_Seen_tellingHour 13 rfl rfl) fo_Seen_31 so_64 rfl sp_64_1 ?_
    refine tq_getI (E := E_Seen_tellingHour d) (pc := 23) (cks_at k_Seen_tellingHour 14 rfl rfl) fo_Seen_82 so_39 rfl (by decide) ?_
    refine tq_istore (E := E_Seen_tellingHour d) (pc := 26) (cks_at k_Seen_tellingHour 15 rfl rfl) (show 6 < 8 by decide) rfl ?_
    exact tq_sub [4, 5, 6, 3, 2, 1, 0] rfl (w_Seen_tellingHour_L28 d _ (fun v2 v4 v5 M7 => by
        refine tq_iload_n 0 (E := E_Seen_tellingHour d) (pc := 83) (cks_at k_Seen_tellingHour 42 rfl rfl) rfl ?_
        refine tq_if_ne (E := E_Seen_tellingHour d) (pc := 84) (tgt := 92) (cks_at k_Seen_tellingHour 43 rfl rfl) (by decide) ?_ ?_
        · refine tq_iload 2 (E := E_Seen_tellingHour d) (pc := 92) (cks_at k_Seen_tellingHour 46 rfl rfl) rfl ?_
          exact tq_iret (E := E_Seen_tellingHour d) (pc := 94) (cks_at k_Seen_tellingHour 47 rfl rfl) rfl
        · refine tq_iload 1 (E := E_Seen_tellingHour d) (pc := 87) (cks_at k_Seen_tellingHour 44 rfl rfl) rfl ?_
          refine tq_goto (tgt := 94) (E := E_Seen_tellingHour d) (pc := 89) (cks_at k_Seen_tellingHour 45 rfl rfl) (by decide) ?_
          exact tq_iret (E := E_Seen_tellingHour d) (pc := 94) (cks_at k_Seen_tellingHour 47 rfl rfl) rfl) FU (v1, v2, r2, ((-1)), 1000000, (M1 39 8), M1))
  · refine tq_iconst (E := E_Seen_tellingHour d) (pc := 10) (cks_at k_Seen_tellingHour 6 rfl rfl) ?_
    exact tq_iret (E := E_Seen_tellingHour d) (pc := 11) (cks_at k_Seen_tellingHour 7 rfl rfl) rfl
abbrev E_BT_telling (d : Nat) : Ev := (Ct (d + 7), "BreathTown", prog_1_method_30_code, 3, False, 0, (fun _ => 0), (Option.some Jvm.ClassFile.FieldType.int))
def f_BT_telling (v1 : Int) (v2 : Int) (M : Mm) : Option (Int × Mm) :=
  bI (f_Told_hasA 3 1 v1 M) (fun r2 M1 =>
  if i32 r2 = 0 then
    some ((-1), M1)
  else
    if i32 v2 < 0 then
      some ((-1), M1)
    else
      if i32 v2 ≤ i32 1 then
        bI (f_Seen_tellingHour v1 v2 M1) (fun r4 M3 =>
        some (r4, M3))
      else
        some ((-1), M1))
set_option maxRecDepth 20000 in
set_option maxHeartbeats 4000000 in
theorem c_BT_telling (d : Nat) (v1 : Int) (v2 : Int) (M : Mm) (Q : Option Value → Mm → Prop) (h : sat injI (f_BT_telling v1 v2 M) Q) : Ct (d + 8) y_BT_telling [.ref 0, vI v1, vI v2] M Q := by
  refine ct_in (d := d + 7) mk_BT_telling (Nat.le_of_ble_eq_true rfl) (?_ : T (E_BT_telling d) injI 0 [(0, .ref 0), (1, vI v1), (2, vI v2)] [] M (f_BT_telling v1 v2 M)) h
  unfold f_BT_telling
  refine tq_aload_n 0 (E := E_BT_telling d) (pc := 0) (cks_at k_BT_telling 0 rfl rfl) rfl ?_
  refine tq_getR (j := 3) (E := E_BT_telling d) (pc := 1) (cks_at k_BT_telling 1 rfl rfl) fo_BT_19 so_0 rfl sp_0_1 ?_
  refine tq_iconst (E := E_BT_telling d) (pc := 4) (cks_at k_BT_telling 2 rfl rfl) ?_
  refine tq_iload_n 1 (E := E_BT_telling d) (pc := 5) (cks_at k_BT_telling 3 rfl rfl) rfl ?_
  refine tq_V2 (E := E_BT_telling d) (pc := 6) (cks_at k_BT_telling 4 rfl rfl) mk_Told_hasA lk_BT_143 (isTold_rc (Or.inl rfl)) (Nat.le_of_ble_eq_true rfl) (c_Told_hasA (d + 4) 3 (Or.inl rfl) 1 v1 M) (k_I fun r2 M1 => ?_)
  refine tq_if_eq (E := E_BT_telling d) (pc := 9) (tgt := 21) (cks_at k_BT_telling 5 rfl rfl) (by decide) ?_ ?_
  · refine tq_iconst (E := E_BT_telling d) (pc := 21) (cks_at k_BT_telling 11 rfl rfl) ?_
    exact tq_iret (E := E_BT_telling d) (pc := 22) (cks_at k_BT_telling 12 rfl rfl) rfl
  · refine tq_iload_n 2 (E := E_BT_telling d) (pc := 12) (cks_at k_BT_telling 6 rfl rfl) rfl ?_
    refine tq_if_lt (E := E_BT_telling d) (pc := 13) (tgt := 21) (cks_at k_BT_telling 7 rfl rfl) (by decide) ?_ ?_
    · refine tq_iconst (E := E_BT_telling d) (pc := 21) (cks_at k_BT_telling 11 rfl rfl) ?_
      exact tq_iret (E := E_BT_telling d) (pc := 22) (cks_at k_BT_telling 12 rfl rfl) rfl
    · refine tq_iload_n 2 (E := E_BT_telling d) (pc := 16) (cks_at k_BT_telling 8 rfl rfl) rfl ?_
      refine tq_iconst (E := E_BT_telling d) (pc := 17) (cks_at k_BT_telling 9 rfl rfl) ?_
      refine tq_icmp_le (E := E_BT_telling d) (pc := 18) (tgt := 23) (cks_at k_BT_telling 10 rfl rfl) (by decide) ?_ ?_
      · refine tq_aload_n 0 (E := E_BT_telling d) (pc := 23) (cks_at k_BT_telling 13 rfl rfl) rfl ?_
        refine tq_getR (j := 64) (E := E_BT_telling d) (pc := 24) (cks_at k_BT_telling 14 rfl rfl) fo_BT_74 so_0 rfl sp_0_8 ?_
        refine tq_iload_n 1 (E := E_BT_telling d) (pc := 27) (cks_at k_BT_telling 15 rfl rfl) rfl ?_
        refine tq_iload_n 2 (E := E_BT_telling d) (pc := 28) (cks_at k_BT_telling 16 rfl rfl) rfl ?_
        refine tq_V2 (E := E_BT_telling d) (pc := 29) (cks_at k_BT_telling 17 rfl rfl) mk_Seen_tellingHour lk_BT_276 rc_64 (Nat.le_of_ble_eq_true rfl) (c_Seen_tellingHour (d + 0) v1 v2 M1) (k_I fun r4 M3 => ?_)
        exact tq_iret (E := E_BT_telling d) (pc := 32) (cks_at k_BT_telling 18 rfl rfl) rfl
      · refine tq_iconst (E := E_BT_telling d) (pc := 21) (cks_at k_BT_telling 11 rfl rfl) ?_
        exact tq_iret (E := E_BT_telling d) (pc := 22) (cks_at k_BT_telling 12 rfl rfl) rfl
abbrev E_M_shifts (d : Nat) : Ev := (Ct (d + 5), "BreathTownModel", prog_14_method_113_code, 5, False, 0, (fun _ => 0), (Option.some Jvm.ClassFile.FieldType.int))
def f_M_shifts_B15 (kH : Int → Int → Int → Int → Mm → Option (Int × Mm)) (kx55 : Int → Int → Mm → Option (Int × Mm)) (v1 v2 v3 v4 : Int) (M : Mm) : Option (Int × Mm) :=
  bI (f_M_roundOf v1 M) (fun r4 M3 =>
  if i32 r4 ≤ i32 v4 then
    kx55 v2 v3 M3
  else
    bI (f_M_isShift v1 v4 M3) (fun r6 M5 =>
    if ¬ i32 r6 = 0 then
      if ¬ i32 v3 = i32 v2 then
        kH v1 v2 (v3 + 1) (v4 + 1) M5
      else
        some (v4, M5)
    else
      kH v1 v2 v3 (v4 + 1) M5))
set_option maxRecDepth 20000 in
set_option maxHeartbeats 4000000 in
theorem w_M_shifts_B15 (d : Nat) (kH : Int → Int → Int → Int → Mm → Option (Int × Mm)) (kx55 : Int → Int → Mm → Option (Int × Mm)) (hkH : ∀ (v1 v2 v3 v4 : Int) (M : Mm), T (E_M_shifts d) injI 15 [(0, .ref 78), (1, vI v1), (2, vI v2), (3, vI v3), (4, vI v4)] [] M (kH v1 v2 v3 v4 M)) (hkx55 : ∀ (v2 v3 : Int) (M : Mm), T (E_M_shifts d) injI 55 [(2, vI v2), (3, vI v3)] [] M (kx55 v2 v3 M)) (v1 v2 v3 v4 : Int) (M : Mm) : T (E_M_shifts d) injI 15 [(0, .ref 78), (1, vI v1), (2, vI v2), (3, vI v3), (4, vI v4)] [] M (f_M_shifts_B15 kH kx55 v1 v2 v3 v4 M) := by
  unfold f_M_shifts_B15
  refine tq_iload 4 (E := E_M_shifts d) (pc := 15) (cks_at k_M_shifts 10 rfl rfl) rfl ?_
  refine tq_aload_n 0 (E := E_M_shifts d) (pc := 17) (cks_at k_M_shifts 11 rfl rfl) rfl ?_
  refine tq_iload_n 1 (E := E_M_shifts d) (pc := 18) (cks_at k_M_shifts 12 rfl rfl) rfl ?_
  refine tq_V1 (E := E_M_shifts d) (pc := 19) (cks_at k_M_shifts 13 rfl rfl) mk_M_roundOf lk_M_418 rc_78 (Nat.le_of_ble_eq_true rfl) (c_M_roundOf (d + 4) v1 M) (k_I fun r4 M3 => ?_)
  refine tq_icmp_ge (E := E_M_shifts d) (pc := 22) (tgt := 55) (cks_at k_M_shifts 14 rfl rfl) (by decide) ?_ ?_
  · exact tq_sub [2, 3] rfl (hkx55 v2 v3 M3)
  · refine tq_aload_n 0 (E := E_M_shifts d) (pc := 25) (cks_at k_M_shifts 15 rfl rfl) rfl ?_
    refine tq_iload_n 1 (E := E_M_shifts d) (pc := 26) (cks_at k_M_shifts 16 rfl rfl) rfl ?_
    refine tq_iload 4 (E := E_M_shifts d) (pc := 27) (cks_at k_M_shifts 17 rfl rfl) rfl ?_
    refine tq_V2 (E := E_M_shifts d) (pc := 29) (cks_at k_M_shifts 18 rfl rfl) mk_M_isShift lk_M_608 rc_78 (Nat.le_of_ble_eq_true rfl) (c_M_isShift (d + 0) v1 v4 M3) (k_I fun r6 M5 => ?_)
    refine tq_if_ne (E := E_M_shifts d) (pc := 32) (tgt := 38) (cks_at k_M_shifts 19 rfl rfl) (by decide) ?_ ?_
    · refine tq_iload_n 3 (E := E_M_shifts d) (pc := 38) (cks_at k_M_shifts 21 rfl rfl) rfl ?_
      refine tq_iload_n 2 (E := E_M_shifts d) (pc := 39) (cks_at k_M_shifts 22 rfl rfl) rfl ?_
      refine tq_icmp_ne (E := E_M_shifts d) (pc := 40) (tgt := 46) (cks_at k_M_shifts 23 rfl rfl) (by decide) ?_ ?_
      · refine tq_iinc 3 (E := E_M_shifts d) (pc := 46) (cks_at k_M_shifts 26 rfl rfl) rfl (show 3 < 5 by decide) rfl ?_
        refine tq_iinc 4 (E := E_M_shifts d) (pc := 49) (cks_at k_M_shifts 27 rfl rfl) rfl (show 4 < 5 by decide) rfl ?_
        refine tq_goto (tgt := 15) (E := E_M_shifts d) (pc := 52) (cks_at k_M_shifts 28 rfl rfl) (by decide) ?_
        exact tq_sub [2, 3, 4, 1, 0] rfl (hkH v1 v2 (v3 + 1) (v4 + 1) M5)
      · refine tq_iload 4 (E := E_M_shifts d) (pc := 43) (cks_at k_M_shifts 24 rfl rfl) rfl ?_
        exact tq_iret (E := E_M_shifts d) (pc := 45) (cks_at k_M_shifts 25 rfl rfl) rfl
    · refine tq_goto (tgt := 49) (E := E_M_shifts d) (pc := 35) (cks_at k_M_shifts 20 rfl rfl) (by decide) ?_
      refine tq_iinc 4 (E := E_M_shifts d) (pc := 49) (cks_at k_M_shifts 27 rfl rfl) rfl (show 4 < 5 by decide) rfl ?_
      refine tq_goto (tgt := 15) (E := E_M_shifts d) (pc := 52) (cks_at k_M_shifts 28 rfl rfl) (by decide) ?_
      exact tq_sub [1, 2, 3, 4, 0] rfl (hkH v1 v2 v3 (v4 + 1) M5)
def f_M_shifts_L15 (kx55 : Int → Int → Mm → Option (Int × Mm)) : Nat → Int × Int × Int × Int × Mm → Option (Int × Mm) := lp fun kH s => f_M_shifts_B15 (fun v1 v2 v3 v4 M => kH (v1, v2, v3, v4, M)) kx55 s.1 s.2.1 s.2.2.1 s.2.2.2.1 s.2.2.2.2
set_option maxRecDepth 20000 in
set_option maxHeartbeats 4000000 in
theorem w_M_shifts_L15 (d : Nat) (kx55 : Int → Int → Mm → Option (Int × Mm)) (hkx55 : ∀ (v2 v3 : Int) (M : Mm), T (E_M_shifts d) injI 55 [(2, vI v2), (3, vI v3)] [] M (kx55 v2 v3 M)) (n : Nat) (s : Int × Int × Int × Int × Mm) : T (E_M_shifts d) injI 15 [(0, .ref 78), (1, vI s.1), (2, vI s.2.1), (3, vI s.2.2.1), (4, vI s.2.2.2.1)] [] s.2.2.2.2 (f_M_shifts_L15 kx55 n s) :=
  tq_lp (fun s => [(0, .ref 78), (1, vI s.1), (2, vI s.2.1), (3, vI s.2.2.1), (4, vI s.2.2.2.1)]) (fun s => s.2.2.2.2) (fun kH hH s => w_M_shifts_B15 d (fun v1 v2 v3 v4 M => kH (v1, v2, v3, v4, M)) kx55 (fun v1 v2 v3 v4 M => hH (v1, v2, v3, v4, M)) hkx55 s.1 s.2.1 s.2.2.1 s.2.2.2.1 s.2.2.2.2) n s
def f_M_shifts (v1 : Int) (v2 : Int) (M : Mm) : Option (Int × Mm) :=
  bI (f_M_isStreet v1 M) (fun r2 M1 =>
  if ¬ i32 r2 = 0 then
    f_M_shifts_L15 (fun v2 v3 M7 => if ¬ i32 v2 = i32 ((-1)) then
          some ((-1), M7)
        else
          some (v3, M7)) FU (v1, v2, 0, 0, M1)
  else
    some ((-1), M1))
set_option maxRecDepth 20000 in
set_option maxHeartbeats 4000000 in
theorem c_M_shifts (d : Nat) (v1 : Int) (v2 : Int) (M : Mm) (Q : Option Value → Mm → Prop) (h : sat injI (f_M_shifts v1 v2 M) Q) : Ct (d + 6) y_M_shifts [.ref 78, vI v1, vI v2] M Q := by
  refine ct_in (d := d + 5) mk_M_shifts (Nat.le_of_ble_eq_true rfl) (?_ : T (E_M_shifts d) injI 0 [(0, .ref 78), (1, vI v1), (2, vI v2)] [] M (f_M_shifts v1 v2 M)) h
  unfold f_M_shifts
  refine tq_aload_n 0 (E := E_M_shifts d) (pc := 0) (cks_at k_M_shifts 0 rfl rfl) rfl ?_
  refine tq_iload_n 1 (E := E_M_shifts d) (pc := 1) (cks_at k_M_shifts 1 rfl rfl) rfl ?_
  refine tq_V1 (E := E_M_shifts d) (pc := 2) (cks_at k_M_shifts 2 rfl rfl) mk_M_isStreet lk_M_509 rc_78 (Nat.le_of_ble_eq_true rfl) (c_M_isStreet (d + 3) v1 M) (k_I fun r2 M1 => ?_)
  refine tq_if_ne (E := E_M_shifts d) (pc := 5) (tgt := 10) (cks_at k_M_shifts 3 rfl rfl) (by decide) ?_ ?_
  · refine tq_iconst (E := E_M_shifts d) (pc := 10) (cks_at k_M_shifts 6 rfl rfl) ?_
    refine tq_istore_n (E := E_M_shifts d) (pc := 11) (cks_at k_M_shifts 7 rfl rfl) (show 3 < 5 by decide) rfl ?_
    refine tq_iconst (E := E_M_shifts d) (pc := 12) (cks_at k_M_shifts 8 rfl rfl) ?_
    refine tq_istore (E := E_M_shifts d) (pc := 13) (cks_at k_M_shifts 9 rfl rfl) (show 4 < 5 by decide) rfl ?_
    exact tq_sub [2, 3, 4, 1, 0] rfl (w_M_shifts_L15 d _ (fun v2 v3 M7 => by
        refine tq_iload_n 0 (E := E_M_shifts d) (pc := 55) (cks_at k_M_shifts 29 rfl rfl) rfl ?_
        refine tq_iconst (E := E_M_shifts d) (pc := 56) (cks_at k_M_shifts 30 rfl rfl) ?_
        refine tq_icmp_ne (E := E_M_shifts d) (pc := 57) (tgt := 64) (cks_at k_M_shifts 31 rfl rfl) (by decide) ?_ ?_
        · refine tq_iconst (E := E_M_shifts d) (pc := 64) (cks_at k_M_shifts 34 rfl rfl) ?_
          exact tq_iret (E := E_M_shifts d) (pc := 65) (cks_at k_M_shifts 35 rfl rfl) rfl
        · refine tq_iload_n 1 (E := E_M_shifts d) (pc := 60) (cks_at k_M_shifts 32 rfl rfl) rfl ?_
          refine tq_goto (tgt := 65) (E := E_M_shifts d) (pc := 61) (cks_at k_M_shifts 33 rfl rfl) (by decide) ?_
          exact tq_iret (E := E_M_shifts d) (pc := 65) (cks_at k_M_shifts 35 rfl rfl) rfl) FU (v1, v2, 0, 0, M1))
  · refine tq_iconst (E := E_M_shifts d) (pc := 8) (cks_at k_M_shifts 4 rfl rfl) ?_
    exact tq_iret (E := E_M_shifts d) (pc := 9) (cks_at k_M_shifts 5 rfl rfl) rfl
abbrev E_BT_shifts (d : Nat) : Ev := (Ct (d + 6), "BreathTown", prog_1_method_29_code, 4, False, 0, (fun _ => 0), (Option.some Jvm.ClassFile.FieldType.int))
def f_BT_shifts (v1 : Int) (v2 : Int) (M : Mm) : Option (Int × Mm) :=
  bI (f_Told_hasA 3 1 v1 M) (fun r2 M1 =>
  if ¬ i32 r2 = 0 then
    bI (f_Seen_findShifts v1 M1) (fun r4 M3 =>
    if ¬ i32 v2 = i32 ((-1)) then
      if i32 v2 < 0 then
        some ((-1), M3)
      else
        if i32 r4 ≤ i32 v2 then
          some ((-1), M3)
        else
          bI (f_BT_cell 68 v2 M3) (fun r6 M5 =>
          some (r6, M5))
    else
      some (r4, M3))
  else
    some ((-1), M1))
set_option maxRecDepth 20000 in
set_option maxHeartbeats 4000000 in
theorem c_BT_shifts (d : Nat) (v1 : Int) (v2 : Int) (M : Mm) (Q : Option Value → Mm → Prop) (h : sat injI (f_BT_shifts v1 v2 M) Q) : Ct (d + 7) y_BT_shifts [.ref 0, vI v1, vI v2] M Q := by
  refine ct_in (d := d + 6) mk_BT_shifts (Nat.le_of_ble_eq_true rfl) (?_ : T (E_BT_shifts d) injI 0 [(0, .ref 0), (1, vI v1), (2, vI v2)] [] M (f_BT_shifts v1 v2 M)) h
  unfold f_BT_shifts
  refine tq_aload_n 0 (E := E_BT_shifts d) (pc := 0) (cks_at k_BT_shifts 0 rfl rfl) rfl ?_
  refine tq_getR (j := 3) (E := E_BT_shifts d) (pc := 1) (cks_at k_BT_shifts 1 rfl rfl) fo_BT_19 so_0 rfl sp_0_1 ?_
  refine tq_iconst (E := E_BT_shifts d) (pc := 4) (cks_at k_BT_shifts 2 rfl rfl) ?_
  refine tq_iload_n 1 (E := E_BT_shifts d) (pc := 5) (cks_at k_BT_shifts 3 rfl rfl) rfl ?_
  refine tq_V2 (E := E_BT_shifts d) (pc := 6) (cks_at k_BT_shifts 4 rfl rfl) mk_Told_hasA lk_BT_143 (isTold_rc (Or.inl rfl)) (Nat.le_of_ble_eq_true rfl) (c_Told_hasA (d + 3) 3 (Or.inl rfl) 1 v1 M) (k_I fun r2 M1 => ?_)
  refine tq_if_ne (E := E_BT_shifts d) (pc := 9) (tgt := 14) (cks_at k_BT_shifts 5 rfl rfl) (by decide) ?_ ?_
  · refine tq_aload_n 0 (E := E_BT_shifts d) (pc := 14) (cks_at k_BT_shifts 8 rfl rfl) rfl ?_
    refine tq_getR (j := 64) (E := E_BT_shifts d) (pc := 15) (cks_at k_BT_shifts 9 rfl rfl) fo_BT_74 so_0 rfl sp_0_8 ?_
    refine tq_iload_n 1 (E := E_BT_shifts d) (pc := 18) (cks_at k_BT_shifts 10 rfl rfl) rfl ?_
    refine tq_V1 (E := E_BT_shifts d) (pc := 19) (cks_at k_BT_shifts 11 rfl rfl) mk_Seen_findShifts lk_BT_270 rc_64 (Nat.le_of_ble_eq_true rfl) (c_Seen_findShifts (d + 0) v1 M1) (k_I fun r4 M3 => ?_)
    refine tq_istore_n (E := E_BT_shifts d) (pc := 22) (cks_at k_BT_shifts 12 rfl rfl) (show 3 < 4 by decide) rfl ?_
    refine tq_iload_n 3 (E := E_BT_shifts d) (pc := 23) (cks_at k_BT_shifts 13 rfl rfl) rfl ?_
    refine tq_iconst (E := E_BT_shifts d) (pc := 24) (cks_at k_BT_shifts 14 rfl rfl) ?_
    refine tq_icmp_ne (E := E_BT_shifts d) (pc := 25) (tgt := 30) (cks_at k_BT_shifts 15 rfl rfl) (by decide) ?_ ?_
    · refine tq_iload_n 3 (E := E_BT_shifts d) (pc := 30) (cks_at k_BT_shifts 18 rfl rfl) rfl ?_
      refine tq_if_lt (E := E_BT_shifts d) (pc := 31) (tgt := 53) (cks_at k_BT_shifts 19 rfl rfl) (by decide) ?_ ?_
      · refine tq_iconst (E := E_BT_shifts d) (pc := 53) (cks_at k_BT_shifts 29 rfl rfl) ?_
        exact tq_iret (E := E_BT_shifts d) (pc := 54) (cks_at k_BT_shifts 30 rfl rfl) rfl
      · refine tq_iload_n 3 (E := E_BT_shifts d) (pc := 34) (cks_at k_BT_shifts 20 rfl rfl) rfl ?_
        refine tq_iload_n 0 (E := E_BT_shifts d) (pc := 35) (cks_at k_BT_shifts 21 rfl rfl) rfl ?_
        refine tq_icmp_ge (E := E_BT_shifts d) (pc := 36) (tgt := 53) (cks_at k_BT_shifts 22 rfl rfl) (by decide) ?_ ?_
        · refine tq_iconst (E := E_BT_shifts d) (pc := 53) (cks_at k_BT_shifts 29 rfl rfl) ?_
          exact tq_iret (E := E_BT_shifts d) (pc := 54) (cks_at k_BT_shifts 30 rfl rfl) rfl
        · refine tq_aload_n 1 (E := E_BT_shifts d) (pc := 39) (cks_at k_BT_shifts 23 rfl rfl) rfl ?_
          refine tq_getR (j := 64) (E := E_BT_shifts d) (pc := 40) (cks_at k_BT_shifts 24 rfl rfl) fo_BT_74 so_0 rfl sp_0_8 ?_
          refine tq_getR (j := 68) (E := E_BT_shifts d) (pc := 43) (cks_at k_BT_shifts 25 rfl rfl) fo_BT_273 so_64 rfl sp_64_7 ?_
          refine tq_iload_n 3 (E := E_BT_shifts d) (pc := 46) (cks_at k_BT_shifts 26 rfl rfl) rfl ?_
          refine tq_S2 (E := E_BT_shifts d) (pc := 47) (cks_at k_BT_shifts 27 rfl rfl) mk_BT_cell lk_BT_150 (Nat.le_of_ble_eq_true rfl) (c_BT_cell (d + 5) 68 sa_68 v2 M3) (k_I fun r6 M5 => ?_)
          refine tq_goto (tgt := 54) (E := E_BT_shifts d) (pc := 50) (cks_at k_BT_shifts 28 rfl rfl) (by decide) ?_
          exact tq_iret (E := E_BT_shifts d) (pc := 54) (cks_at k_BT_shifts 30 rfl rfl) rfl
    · refine tq_iload_n 0 (E := E_BT_shifts d) (pc := 28) (cks_at k_BT_shifts 16 rfl rfl) rfl ?_
      exact tq_iret (E := E_BT_shifts d) (pc := 29) (cks_at k_BT_shifts 17 rfl rfl) rfl
  · refine tq_iconst (E := E_BT_shifts d) (pc := 12) (cks_at k_BT_shifts 6 rfl rfl) ?_
    exact tq_iret (E := E_BT_shifts d) (pc := 13) (cks_at k_BT_shifts 7 rfl rfl) rfl
abbrev E_M_areRows (d : Nat) : Ev := (Ct (d + 2), "BreathTownModel", prog_14_method_110_code, 3, False, 0, (fun _ => 0), (Option.some Jvm.ClassFile.FieldType.boolean))
def f_M_areRows_B22 (kH : Int → Int → Mm → Option (Int × Mm)) (v1 v2 : Int) (M : Mm) : Option (Int × Mm) :=
  if i32 v1 ≤ i32 v2 then
    some (1, M)
  else
    gd (0 ≤ i32 v2 ∧ i32 v2 < ((1600 : Nat) : Int)) <|
    bI (f_M_isStreet (M 79 (i32 v2).toNat) M) (fun r2 M1 =>
    if i32 r2 = 0 then
      some (0, M1)
    else
      gd (0 ≤ i32 (v2 + 3) ∧ i32 (v2 + 3) < ((1600 : Nat) : Int)) <|
      if i32 (M1 79 (i32 (v2 + 3)).toNat) ≤ i32 99 then
        kH v1 (v2 + 4) M1
      else
        some (0, M1))
set_option maxRecDepth 20000 in
set_option maxHeartbeats 4000000 in
theorem w_M_areRows_B22 (d : Nat) (kH : Int → Int → Mm → Option (Int × Mm)) (hkH : ∀ (v1 v2 : Int) (M : Mm), T (E_M_areRows d) injI 22 [(0, .ref 78), (1, vI v1), (2, vI v2)] [] M (kH v1 v2 M)) (v1 v2 : Int) (M : Mm) : T (E_M_areRows d) injI 22 [(0, .ref 78), (1, vI v1), (2, vI v2)] [] M (f_M_areRows_B22 kH v1 v2 M) := by
  unfold f_M_areRows_B22
  refine tq_iload_n 2 (E := E_M_areRows d) (pc := 22) (cks_at k_M_areRows 15 rfl rfl) rfl ?_
  refine tq_iload_n 1 (E := E_M_areRows d) (pc := 23) (cks_at k_M_areRows 16 rfl rfl) rfl ?_
  refine tq_icmp_ge (E := E_M_areRows d) (pc := 24) (tgt := 61) (cks_at k_M_areRows 17 rfl rfl) (by decide) ?_ ?_
  · refine tq_iconst (E := E_M_areRows d) (pc := 61) (cks_at k_M_areRows 37 rfl rfl) ?_
    exact tq_zretC (E := E_M_areRows d) (pc := 62) (cks_at k_M_areRows 38 rfl rfl) rfl (by decide)
  · refine tq_aload_n 0 (E := E_M_areRows d) (pc := 27) (cks_at k_M_areRows 18 rfl rfl) rfl ?_
    refine tq_aload_n 0 (E := E_M_areRows d) (pc := 28) (cks_at k_M_areRows 19 rfl rfl) rfl ?_
    refine tq_getR (j := 79) (E := E_M_areRows d) (pc := 29) (cks_at k_M_areRows 20 rfl rfl) fo_M_7 so_78 rfl sp_78_0 ?_
    refine tq_iload_n 2 (E := E_M_areRows d) (pc := 32) (cks_at k_M_areRows 21 rfl rfl) rfl ?_
    refine tq_iald (E := E_M_areRows d) (pc := 33) (cks_at k_M_areRows 22 rfl rfl) sa_79 sn_79 ?_
    refine tq_V1 (E := E_M_areRows d) (pc := 34) (cks_at k_M_areRows 23 rfl rfl) mk_M_isStreet lk_M_509 rc_78 (Nat.le_of_ble_eq_true rfl) (c_M_isStreet (d + 0) (M 79 (i32 v2).toNat) M) (k_I fun r2 M1 => ?_)
    refine tq_if_eq (E := E_M_areRows d) (pc := 37) (tgt := 53) (cks_at k_M_areRows 24 rfl rfl) (by decide) ?_ ?_
    · refine tq_iconst (E := E_M_areRows d) (pc := 53) (cks_at k_M_areRows 33 rfl rfl) ?_
      exact tq_zretC (E := E_M_areRows d) (pc := 54) (cks_at k_M_areRows 34 rfl rfl) rfl (by decide)
    · refine tq_aload_n 0 (E := E_M_areRows d) (pc := 40) (cks_at k_M_areRows 25 rfl rfl) rfl ?_
      refine tq_getR (j := 79) (E := E_M_areRows d) (pc := 41) (cks_at k_M_areRows 26 rfl rfl) fo_M_7 so_78 rfl sp_78_0 ?_
      refine tq_iload_n 2 (E := E_M_areRows d) (pc := 44) (cks_at k_M_areRows 27 rfl rfl) rfl ?_
      refine tq_iconst (E := E_M_areRows d) (pc := 45) (cks_at k_M_areRows 28 rfl rfl) ?_
      refine tq_iadd (E := E_M_areRows d) (pc := 46) (cks_at k_M_areRows 29 rfl rfl) ?_
      refine tq_iald (E := E_M_areRows d) (pc := 47) (cks_at k_M_areRows 30 rfl rfl) sa_79 sn_79 ?_
      refine tq_bipush (E := E_M_areRows d) (pc := 48) (cks_at k_M_areRows 31 rfl rfl) (by decide) (by decide) ?_
      refine tq_icmp_le (E := E_M_areRows d) (pc := 50) (tgt := 55) (cks_at k_M_areRows 32 rfl rfl) (by decide) ?_ ?_
      · refine tq_iinc 2 (E := E_M_areRows d) (pc := 55) (cks_at k_M_areRows 35 rfl rfl) rfl (show 2 < 3 by decide) rfl ?_
        refine tq_goto (tgt := 22) (E := E_M_areRows d) (pc := 58) (cks_at k_M_areRows 36 rfl rfl) (by decide) ?_
        exact tq_sub [1, 2, 0] rfl (hkH v1 (v2 + 4) M1)
      · refine tq_iconst (E := E_M_areRows d) (pc := 53) (cks_at k_M_areRows 33 rfl rfl) ?_
        exact tq_zretC (E := E_M_areRows d) (pc := 54) (cks_at k_M_areRows 34 rfl rfl) rfl (by decide)
def f_M_areRows_L22 : Nat → Int × Int × Mm → Option (Int × Mm) := lp fun kH s => f_M_areRows_B22 (fun v1 v2 M => kH (v1, v2, M)) s.1 s.2.1 s.2.2
set_option maxRecDepth 20000 in
set_option maxHeartbeats 4000000 in
theorem w_M_areRows_L22 (d : Nat) (n : Nat) (s : Int × Int × Mm) : T (E_M_areRows d) injI 22 [(0, .ref 78), (1, vI s.1), (2, vI s.2.1)] [] s.2.2 (f_M_areRows_L22 n s) :=
  tq_lp (fun s => [(0, .ref 78), (1, vI s.1), (2, vI s.2.1)]) (fun s => s.2.2) (fun kH hH s => w_M_areRows_B22 d (fun v1 v2 M => kH (v1, v2, M)) (fun v1 v2 M => hH (v1, v2, M)) s.1 s.2.1 s.2.2) n s
def f_M_areRows (v1 : Int) (M : Mm) : Option (Int × Mm) :=
  if i32 v1 = 0 then
    some (0, M)
  else
    if ¬ i32 ((i32 v1).tmod (i32 4)) = 0 then
      some (0, M)
    else
      if i32 ((i32 v1).tdiv (i32 4)) ≤ i32 20 then
        f_M_areRows_L22 FU (v1, 0, M)
      else
        some (0, M)
set_option maxRecDepth 20000 in
set_option maxHeartbeats 4000000 in
theorem c_M_areRows (d : Nat) (v1 : Int) (M : Mm) (Q : Option Value → Mm → Prop) (h : sat injI (f_M_areRows v1 M) Q) : Ct (d + 3) y_M_areRows [.ref 78, vI v1] M Q := by
  refine ct_in (d := d + 2) mk_M_areRows (Nat.le_of_ble_eq_true rfl) (?_ : T (E_M_areRows d) injI 0 [(0, .ref 78), (1, vI v1)] [] M (f_M_areRows v1 M)) h
  unfold f_M_areRows
  refine tq_iload_n 1 (E := E_M_areRows d) (pc := 0) (cks_at k_M_areRows 0 rfl rfl) rfl ?_
  refine tq_if_eq (E := E_M_areRows d) (pc := 1) (tgt := 18) (cks_at k_M_areRows 1 rfl rfl) (by decide) ?_ ?_
  · refine tq_iconst (E := E_M_areRows d) (pc := 18) (cks_at k_M_areRows 11 rfl rfl) ?_
    exact tq_zretC (E := E_M_areRows d) (pc := 19) (cks_at k_M_areRows 12 rfl rfl) rfl (by decide)
  · refine tq_iload_n 1 (E := E_M_areRows d) (pc := 4) (cks_at k_M_areRows 2 rfl rfl) rfl ?_
    refine tq_iconst (E := E_M_areRows d) (pc := 5) (cks_at k_M_areRows 3 rfl rfl) ?_
    refine tq_iremC (E := E_M_areRows d) (pc := 6) (cks_at k_M_areRows 4 rfl rfl) (by decide) ?_
    refine tq_if_ne (E := E_M_areRows d) (pc := 7) (tgt := 18) (cks_at k_M_areRows 5 rfl rfl) (by decide) ?_ ?_
    · refine tq_iconst (E := E_M_areRows d) (pc := 18) (cks_at k_M_areRows 11 rfl rfl) ?_
      exact tq_zretC (E := E_M_areRows d) (pc := 19) (cks_at k_M_areRows 12 rfl rfl) rfl (by decide)
    · refine tq_iload_n 1 (E := E_M_areRows d) (pc := 10) (cks_at k_M_areRows 6 rfl rfl) rfl ?_
      refine tq_iconst (E := E_M_areRows d) (pc := 11) (cks_at k_M_areRows 7 rfl rfl) ?_
      refine tq_idivC (E := E_M_areRows d) (pc := 12) (cks_at k_M_areRows 8 rfl rfl) (by decide) ?_
      refine tq_bipush (E := E_M_areRows d) (pc := 13) (cks_at k_M_areRows 9 rfl rfl) (by decide) (by decide) ?_
      refine tq_icmp_le (E := E_M_areRows d) (pc := 15) (tgt := 20) (cks_at k_M_areRows 10 rfl rfl) (by decide) ?_ ?_
      · refine tq_iconst (E := E_M_areRows d) (pc := 20) (cks_at k_M_areRows 13 rfl rfl) ?_
        refine tq_istore_n (E := E_M_areRows d) (pc := 21) (cks_at k_M_areRows 14 rfl rfl) (show 2 < 3 by decide) rfl ?_
        exact tq_sub [1, 2, 0] rfl (w_M_areRows_L22 d FU (v1, 0, M))
      · refine tq_iconst (E := E_M_areRows d) (pc := 18) (cks_at k_M_areRows 11 rfl rfl) ?_
        exact tq_zretC (E := E_M_areRows d) (pc := 19) (cks_at k_M_areRows 12 rfl rfl) rfl (by decide)
abbrev E_M_see (d : Nat) : Ev := (Ct (d + 3), "BreathTownModel", prog_14_method_111_code, 3, False, 0, (fun _ => 0), (Option.some Jvm.ClassFile.FieldType.int))
def f_M_see_B39 (kH : Int → Mm → Option (Int × Mm)) (v2 : Int) (M : Mm) : Option (Int × Mm) :=
  if i32 (M 78 66) ≤ i32 v2 then
    some (M 78 66, M)
  else
    gd (0 ≤ i32 (4 * v2) ∧ i32 (4 * v2) < ((1600 : Nat) : Int)) <|
    gd (0 ≤ i32 (3 * v2) ∧ i32 (3 * v2) < ((60 : Nat) : Int)) <|
    bd (up M 121 (i32 (3 * v2)).toNat (M 79 (i32 (4 * v2)).toNat)) (fun M5 =>
    gd (0 ≤ i32 ((4 * v2) + 1) ∧ i32 ((4 * v2) + 1) < ((1600 : Nat) : Int)) <|
    gd (0 ≤ i32 ((4 * v2) + 2) ∧ i32 ((4 * v2) + 2) < ((1600 : Nat) : Int)) <|
    gd (0 ≤ i32 ((3 * v2) + 1) ∧ i32 ((3 * v2) + 1) < ((60 : Nat) : Int)) <|
    bd (up M5 121 (i32 ((3 * v2) + 1)).toNat ((256 * (M5 79 (i32 ((4 * v2) + 1)).toNat)) + (M5 79 (i32 ((4 * v2) + 2)).toNat))) (fun M6 =>
    gd (0 ≤ i32 ((4 * v2) + 3) ∧ i32 ((4 * v2) + 3) < ((1600 : Nat) : Int)) <|
    gd (0 ≤ i32 ((3 * v2) + 2) ∧ i32 ((3 * v2) + 2) < ((60 : Nat) : Int)) <|
    bd (up M6 121 (i32 ((3 * v2) + 2)).toNat (M6 79 (i32 ((4 * v2) + 3)).toNat)) (fun M7 =>
    kH (v2 + 1) M7)))
set_option maxRecDepth 20000 in
set_option maxHeartbeats 4000000 in
theorem w_M_see_B39 (d : Nat) (kH : Int → Mm → Option (Int × Mm)) (hkH : ∀ (v2 : Int) (M : Mm), T (E_M_see d) injI 39 [(0, .ref 78), (2, vI v2)] [] M (kH v2 M)) (v2 : Int) (M : Mm) : T (E_M_see d) injI 39 [(0, .ref 78), (2, vI v2)] [] M (f_M_see_B39 kH v2 M) := by
  unfold f_M_see_B39
  refine tq_iload_n 1 (E := E_M_see d) (pc := 39) (cks_at k_M_see 27 rfl rfl) rfl ?_
  refine tq_aload_n 0 (E := E_M_see d) (pc := 40) (cks_at k_M_see 28 rfl rfl) rfl ?_
  refine tq_getI (E := E_M_see d) (pc := 41) (cks_at k_M_see 29 rfl rfl) fo_M_353 so_78 rfl (by decide) ?_
  refine tq_icmp_ge (E := E_M_see d) (pc := 44) (tgt := 124) (cks_at k_M_see 30 rfl rfl) (by decide) ?_ ?_
  · refine tq_aload_n 0 (E := E_M_see d) (pc := 124) (cks_at k_M_see 88 rfl rfl) rfl ?_
    refine tq_getI (E := E_M_see d) (pc := 125) (cks_at k_M_see 89 rfl rfl) fo_M_353 so_78 rfl (by decide) ?_
    exact tq_iret (E := E_M_see d) (pc := 128) (cks_at k_M_see 90 rfl rfl) rfl
  · refine tq_aload_n 0 (E := E_M_see d) (pc := 47) (cks_at k_M_see 31 rfl rfl) rfl ?_
    refine tq_getR (j := 121) (E := E_M_see d) (pc := 48) (cks_at k_M_see 32 rfl rfl) fo_M_146 so_78 rfl sp_78_67 ?_
    refine tq_iconst (E := E_M_see d) (pc := 51) (cks_at k_M_see 33 rfl rfl) ?_
    refine tq_iload_n 1 (E := E_M_see d) (pc := 52) (cks_at k_M_see 34 rfl rfl) rfl ?_
    refine tq_imul (E := E_M_see d) (pc := 53) (cks_at k_M_see 35 rfl rfl) ?_
    refine tq_aload_n 0 (E := E_M_see d) (pc := 54) (cks_at k_M_see 36 rfl rfl) rfl ?_
    refine tq_getR (j := 79) (E := E_M_see d) (pc := 55) (cks_at k_M_see 37 rfl rfl) fo_M_7 so_78 rfl sp_78_0 ?_
    refine tq_iconst (E := E_M_see d) (pc := 58) (cks_at k_M_see 38 rfl rfl) ?_
    refine tq_iload_n 1 (E := E_M_see d) (pc := 59) (cks_at k_M_see 39 rfl rfl) rfl ?_
    refine tq_imul (E := E_M_see d) (pc := 60) (cks_at k_M_see 40 rfl rfl) ?_
    refine tq_iald (E := E_M_see d) (pc := 61) (cks_at k_M_see 41 rfl rfl) sa_79 sn_79 ?_
    refine tq_iast (E := E_M_see d) (pc := 62) (cks_at k_M_see 42 rfl rfl) sa_121 sn_121 (fun M5 => ?_)
    refine tq_aload_n 0 (E := E_M_see d) (pc := 63) (cks_at k_M_see 43 rfl rfl) rfl ?_
    refine tq_getR (j := 121) (E := E_M_see d) (pc := 64) (cks_at k_M_see 44 rfl rfl) fo_M_146 so_78 rfl sp_78_67 ?_
    refine tq_iconst (E := E_M_see d) (pc := 67) (cks_at k_M_see 45 rfl rfl) ?_
    refine tq_iload_n 1 (E := E_M_see d) (pc := 68) (cks_at k_M_see 46 rfl rfl) rfl ?_
    refine tq_imul (E := E_M_see d) (pc := 69) (cks_at k_M_see 47 rfl rfl) ?_
    refine tq_iconst (E := E_M_see d) (pc := 70) (cks_at k_M_see 48 rfl rfl) ?_
    refine tq_iadd (E := E_M_see d) (pc := 71) (cks_at k_M_see 49 rfl rfl) ?_
    refine tq_sipush (E := E_M_see d) (pc := 72) (cks_at k_M_see 50 rfl rfl) (by decide) (by decide) ?_
    refine tq_aload_n 0 (E := E_M_see d) (pc := 75) (cks_at k_M_see 51 rfl rfl) rfl ?_
    refine tq_getR (j := 79) (E := E_M_see d) (pc := 76) (cks_at k_M_see 52 rfl rfl) fo_M_7 so_78 rfl sp_78_0 ?_
    refine tq_iconst (E := E_M_see d) (pc := 79) (cks_at k_M_see 53 rfl rfl) ?_
    refine tq_iload_n 1 (E := E_M_see d) (pc := 80) (cks_at k_M_see 54 rfl rfl) rfl ?_
    refine tq_imul (E := E_M_see d) (pc := 81) (cks_at k_M_see 55 rfl rfl) ?_
    refine tq_iconst (E := E_M_see d) (pc := 82) (cks_at k_M_see 56 rfl rfl) ?_
    refine tq_iadd (E := E_M_see d) (pc := 83) (cks_at k_M_see 57 rfl rfl) ?_
    refine tq_iald (E := E_M_see d) (pc := 84) (cks_at k_M_see 58 rfl rfl) sa_79 sn_79 ?_
    refine tq_imul (E := E_M_see d) (pc := 85) (cks_at k_M_see 59 rfl rfl) ?_
    refine tq_aload_n 0 (E := E_M_see d) (pc := 86) (cks_at k_M_see 60 rfl rfl) rfl ?_
    refine tq_getR (j := 79) (E := E_M_see d) (pc := 87) (cks_at k_M_see 61 rfl rfl) fo_M_7 so_78 rfl sp_78_0 ?_
    refine tq_iconst (E := E_M_see d) (pc := 90) (cks_at k_M_see 62 rfl rfl) ?_
    refine tq_iload_n 1 (E := E_M_see d) (pc := 91) (cks_at k_M_see 63 rfl rfl) rfl ?_
    refine tq_imul (E := E_M_see d) (pc := 92) (cks_at k_M_see 64 rfl rfl) ?_
    refine tq_iconst (E := E_M_see d) (pc := 93) (cks_at k_M_see 65 rfl rfl) ?_
    refine tq_iadd (E := E_M_see d) (pc := 94) (cks_at k_M_see 66 rfl rfl) ?_
    refine tq_iald (E := E_M_see d) (pc := 95) (cks_at k_M_see 67 rfl rfl) sa_79 sn_79 ?_
    refine tq_iadd (E := E_M_see d) (pc := 96) (cks_at k_M_see 68 rfl rfl) ?_
    refine tq_iast (E := E_M_see d) (pc := 97) (cks_at k_M_see 69 rfl rfl) sa_121 sn_121 (fun M6 => ?_)
    refine tq_aload_n 0 (E := E_M_see d) (pc := 98) (cks_at k_M_see 70 rfl rfl) rfl ?_
    refine tq_getR (j := 121) (E := E_M_see d) (pc := 99) (cks_at k_M_see 71 rfl rfl) fo_M_146 so_78 rfl sp_78_67 ?_
    refine tq_iconst (E := E_M_see d) (pc := 102) (cks_at k_M_see 72 rfl rfl) ?_
    refine tq_iload_n 1 (E := E_M_see d) (pc := 103) (cks_at k_M_see 73 rfl rfl) rfl ?_
    refine tq_imul (E := E_M_see d) (pc := 104) (cks_at k_M_see 74 rfl rfl) ?_
    refine tq_iconst (E := E_M_see d) (pc := 105) (cks_at k_M_see 75 rfl rfl) ?_
    refine tq_iadd (E := E_M_see d) (pc := 106) (cks_at k_M_see 76 rfl rfl) ?_
    refine tq_aload_n 0 (E := E_M_see d) (pc := 107) (cks_at k_M_see 77 rfl rfl) rfl ?_
    refine tq_getR (j := 79) (E := E_M_see d) (pc := 108) (cks_at k_M_see 78 rfl rfl) fo_M_7 so_78 rfl sp_78_0 ?_
    refine tq_iconst (E := E_M_see d) (pc := 111) (cks_at k_M_see 79 rfl rfl) ?_
    refine tq_iload_n 1 (E := E_M_see d) (pc := 112) (cks_at k_M_see 80 rfl rfl) rfl ?_
    refine tq_imul (E := E_M_see d) (pc := 113) (cks_at k_M_see 81 rfl rfl) ?_
    refine tq_iconst (E := E_M_see d) (pc := 114) (cks_at k_M_see 82 rfl rfl) ?_
    refine tq_iadd (E := E_M_see d) (pc := 115) (cks_at k_M_see 83 rfl rfl) ?_
    refine tq_iald (E := E_M_see d) (pc := 116) (cks_at k_M_see 84 rfl rfl) sa_79 sn_79 ?_
    refine tq_iast (E := E_M_see d) (pc := 117) (cks_at k_M_see 85 rfl rfl) sa_121 sn_121 (fun M7 => ?_)
    refine tq_iinc 1 (E := E_M_see d) (pc := 118) (cks_at k_M_see 86 rfl rfl) rfl (show 2 < 3 by decide) rfl ?_
    refine tq_goto (tgt := 39) (E := E_M_see d) (pc := 121) (cks_at k_M_see 87 rfl rfl) (by decide) ?_
    exact tq_sub [1, 0] rfl (hkH (v2 + 1) M7)
def f_M_see_L39 : Nat → Int × Mm → Option (Int × Mm) := lp fun kH s => f_M_see_B39 (fun v2 M => kH (v2, M)) s.1 s.2
set_option maxRecDepth 20000 in
set_option maxHeartbeats 4000000 in
theorem w_M_see_L39 (d : Nat) (n : Nat) (s : Int × Mm) : T (E_M_see d) injI 39 [(0, .ref 78), (2, vI s.1)] [] s.2 (f_M_see_L39 n s) :=
  tq_lp (fun s => [(0, .ref 78), (2, vI s.1)]) (fun s => s.2) (fun kH hH s => w_M_see_B39 d (fun v2 M => kH (v2, M)) (fun v2 M => hH (v2, M)) s.1 s.2) n s
def f_M_see (M : Mm) : Option (Int × Mm) :=
  bd (up M 78 1 0) (fun M1 =>
  bI (f_M_areRows (M 78 1) M1) (fun r3 M2 =>
  if ¬ i32 r3 = 0 then
    bd (up M2 78 66 ((i32 (M 78 1)).tdiv (i32 4))) (fun M4 =>
    f_M_see_L39 FU (0, M4))
  else
    bd (up M2 80 1 ((M2 80 1) + 1)) (fun M8 =>
    some ((-1), M8))))
set_option maxRecDepth 20000 in
set_option maxHeartbeats 4000000 in
theorem c_M_see (d : Nat) (M : Mm) (Q : Option Value → Mm → Prop) (h : sat injI (f_M_see M) Q) : Ct (d + 4) y_M_see [.ref 78] M Q := by
  refine ct_in (d := d + 3) mk_M_see (Nat.le_of_ble_eq_true rfl) (?_ : T (E_M_see d) injI 0 [(0, .ref 78)] [] M (f_M_see M)) h
  unfold f_M_see
  refine tq_aload_n 0 (E := E_M_see d) (pc := 0) (cks_at k_M_see 0 rfl rfl) rfl ?_
  refine tq_getI (E := E_M_see d) (pc := 1) (cks_at k_M_see 1 rfl rfl) fo_M_222 so_78 rfl (by decide) ?_
  refine tq_istore_n (E := E_M_see d) (pc := 4) (cks_at k_M_see 2 rfl rfl) (show 1 < 3 by decide) rfl ?_
  refine tq_aload_n 1 (E := E_M_see d) (pc := 5) (cks_at k_M_see 3 rfl rfl) rfl ?_
  refine tq_iconst (E := E_M_see d) (pc := 6) (cks_at k_M_see 4 rfl rfl) ?_
  refine tq_putI (E := E_M_see d) (pc := 7) (cks_at k_M_see 5 rfl rfl) fo_M_222 so_78 rfl po_12_1 (fun M1 => ?_)
  refine tq_aload_n 1 (E := E_M_see d) (pc := 10) (cks_at k_M_see 6 rfl rfl) rfl ?_
  refine tq_iload_n 0 (E := E_M_see d) (pc := 11) (cks_at k_M_see 7 rfl rfl) rfl ?_
  refine tq_V1 (E := E_M_see d) (pc := 12) (cks_at k_M_see 8 rfl rfl) mk_M_areRows lk_M_605 rc_78 (Nat.le_of_ble_eq_true rfl) (c_M_areRows (d + 0) (M 78 1) M1) (k_I fun r3 M2 => ?_)
  refine tq_if_ne (E := E_M_see d) (pc := 15) (tgt := 30) (cks_at k_M_see 9 rfl rfl) (by decide) ?_ ?_
  · refine tq_aload_n 1 (E := E_M_see d) (pc := 30) (cks_at k_M_see 20 rfl rfl) rfl ?_
    refine tq_iload_n 0 (E := E_M_see d) (pc := 31) (cks_at k_M_see 21 rfl rfl) rfl ?_
    refine tq_iconst (E := E_M_see d) (pc := 32) (cks_at k_M_see 22 rfl rfl) ?_
    refine tq_idivC (E := E_M_see d) (pc := 33) (cks_at k_M_see 23 rfl rfl) (by decide) ?_
    refine tq_putI (E := E_M_see d) (pc := 34) (cks_at k_M_see 24 rfl rfl) fo_M_353 so_78 rfl po_12_66 (fun M4 => ?_)
    refine tq_iconst (E := E_M_see d) (pc := 37) (cks_at k_M_see 25 rfl rfl) ?_
    refine tq_istore_n (E := E_M_see d) (pc := 38) (cks_at k_M_see 26 rfl rfl) (show 2 < 3 by decide) rfl ?_
    exact tq_sub [2, 0] rfl (w_M_see_L39 d FU (0, M4))
  · refine tq_aload_n 1 (E := E_M_see d) (pc := 18) (cks_at k_M_see 10 rfl rfl) rfl ?_
    refine tq_getR (j := 80) (E := E_M_see d) (pc := 19) (cks_at k_M_see 11 rfl rfl) fo_M_17 so_78 rfl sp_78_9 ?_
    refine tq_iconst (E := E_M_see d) (pc := 22) (cks_at k_M_see 12 rfl rfl) ?_
    refine tq_dup2 (E := E_M_see d) (pc := 23) (cks_at k_M_see 13 rfl rfl) rfl rfl ?_
    refine tq_ialdC 1 (E := E_M_see d) (pc := 24) (cks_at k_M_see 14 rfl rfl) sa_80 sn_80 (by decide) ?_
    refine tq_iconst (E := E_M_see d) (pc := 25) (cks_at k_M_see 15 rfl rfl) ?_
    refine tq_iadd (E := E_M_see d) (pc := 26) (cks_at k_M_see 16 rfl rfl) ?_
    refine tq_iastC (E := E_M_see d) (pc := 27) 1 (cks_at k_M_see 17 rfl rfl) sa_80 sn_80 (by decide) (fun M8 => ?_)
    refine tq_iconst (E := E_M_see d) (pc := 28) (cks_at k_M_see 18 rfl rfl) ?_
    exact tq_iret (E := E_M_see d) (pc := 29) (cks_at k_M_see 19 rfl rfl) rfl
abbrev E_Seen_take (d : Nat) : Ev := (Ct (d + 3), "BreathTown$Seen", prog_8_method_2_code, 4, False, 0, (fun _ => 0), (Option.some Jvm.ClassFile.FieldType.boolean))
def f_Seen_take_B31 (kH : Int → Int → Mm → Option (Int × Mm)) (kx76 : Int → Mm → Option (Int × Mm)) (v2 v3 : Int) (M : Mm) : Option (Int × Mm) :=
  if i32 v2 ≤ i32 v3 then
    kx76 v2 M
  else
    bI (f_Scan_byteAt (4 * v3) M) (fun r2 M1 =>
    bI (f_Told_hasA 3 1 r2 M1) (fun r4 M3 =>
    if i32 r4 = 0 then
      some (0, M3)
    else
      bI (f_Scan_byteAt ((4 * v3) + 3) M3) (fun r6 M5 =>
      if i32 r6 ≤ i32 99 then
        kH v2 (v3 + 1) M5
      else
        some (0, M5))))
set_option maxRecDepth 20000 in
set_option maxHeartbeats 4000000 in
theorem w_Seen_take_B31 (d : Nat) (kH : Int → Int → Mm → Option (Int × Mm)) (kx76 : Int → Mm → Option (Int × Mm)) (hkH : ∀ (v2 v3 : Int) (M : Mm), T (E_Seen_take d) injI 31 [(0, .ref 64), (1, .ref 1), (2, vI v2), (3, vI v3)] [] M (kH v2 v3 M)) (hkx76 : ∀ (v2 : Int) (M : Mm), T (E_Seen_take d) injI 76 [(0, .ref 64), (1, .ref 1), (2, vI v2)] [] M (kx76 v2 M)) (v2 v3 : Int) (M : Mm) : T (E_Seen_take d) injI 31 [(0, .ref 64), (1, .ref 1), (2, vI v2), (3, vI v3)] [] M (f_Seen_take_B31 kH kx76 v2 v3 M) := by
  unfold f_Seen_take_B31
  refine tq_iload_n 3 (E := E_Seen_take d) (pc := 31) (cks_at k_Seen_take 20 rfl rfl) rfl ?_
  refine tq_iload_n 2 (E := E_Seen_take d) (pc := 32) (cks_at k_Seen_take 21 rfl rfl) rfl ?_
  refine tq_icmp_ge (E := E_Seen_take d) (pc := 33) (tgt := 76) (cks_at k_Seen_take 22 rfl rfl) (by decide) ?_ ?_
  · exact tq_sub [0, 1, 2] rfl (hkx76 v2 M)
  · refine tq_aload_n 0 (E := E_Seen_take d) (pc := 36) (cks_at k_Seen_take 23 rfl rfl) rfl ?_
    refine tq_getR (j := 3) (E := E_Seen_take d) (pc := 37) (cks_at k_Seen_take 24 rfl rfl) fo_Seen_27 so_64 rfl sp_64_0 ?_
    refine tq_iconst (E := E_Seen_take d) (pc := 40) (cks_at k_Seen_take 25 rfl rfl) ?_
    refine tq_aload_n 1 (E := E_Seen_take d) (pc := 41) (cks_at k_Seen_take 26 rfl rfl) rfl ?_
    refine tq_iconst (E := E_Seen_take d) (pc := 42) (cks_at k_Seen_take 27 rfl rfl) ?_
    refine tq_iload_n 3 (E := E_Seen_take d) (pc := 43) (cks_at k_Seen_take 28 rfl rfl) rfl ?_
    refine tq_imul (E := E_Seen_take d) (pc := 44) (cks_at k_Seen_take 29 rfl rfl) ?_
    refine tq_V1 (E := E_Seen_take d) (pc := 45) (cks_at k_Seen_take 30 rfl rfl) mk_Scan_byteAt lk_Seen_45 rc_1 (Nat.le_of_ble_eq_true rfl) (c_Scan_byteAt (d + 2) (4 * v3) M) (k_I fun r2 M1 => ?_)
    refine tq_V2 (E := E_Seen_take d) (pc := 48) (cks_at k_Seen_take 31 rfl rfl) mk_Told_hasA lk_Seen_49 (isTold_rc (Or.inl rfl)) (Nat.le_of_ble_eq_true rfl) (c_Told_hasA (d + 0) 3 (Or.inl rfl) 1 r2 M1) (k_I fun r4 M3 => ?_)
    refine tq_if_eq (E := E_Seen_take d) (pc := 51) (tgt := 68) (cks_at k_Seen_take 32 rfl rfl) (by decide) ?_ ?_
    · refine tq_iconst (E := E_Seen_take d) (pc := 68) (cks_at k_Seen_take 42 rfl rfl) ?_
      exact tq_zretC (E := E_Seen_take d) (pc := 69) (cks_at k_Seen_take 43 rfl rfl) rfl (by decide)
    · refine tq_aload_n 1 (E := E_Seen_take d) (pc := 54) (cks_at k_Seen_take 33 rfl rfl) rfl ?_
      refine tq_iconst (E := E_Seen_take d) (pc := 55) (cks_at k_Seen_take 34 rfl rfl) ?_
      refine tq_iload_n 3 (E := E_Seen_take d) (pc := 56) (cks_at k_Seen_take 35 rfl rfl) rfl ?_
      refine tq_imul (E := E_Seen_take d) (pc := 57) (cks_at k_Seen_take 36 rfl rfl) ?_
      refine tq_iconst (E := E_Seen_take d) (pc := 58) (cks_at k_Seen_take 37 rfl rfl) ?_
      refine tq_iadd (E := E_Seen_take d) (pc := 59) (cks_at k_Seen_take 38 rfl rfl) ?_
      refine tq_V1 (E := E_Seen_take d) (pc := 60) (cks_at k_Seen_take 39 rfl rfl) mk_Scan_byteAt lk_Seen_45 rc_1 (Nat.le_of_ble_eq_true rfl) (c_Scan_byteAt (d + 2) ((4 * v3) + 3) M3) (k_I fun r6 M5 => ?_)
      refine tq_bipush (E := E_Seen_take d) (pc := 63) (cks_at k_Seen_take 40 rfl rfl) (by decide) (by decide) ?_
      refine tq_icmp_le (E := E_Seen_take d) (pc := 65) (tgt := 70) (cks_at k_Seen_take 41 rfl rfl) (by decide) ?_ ?_
      · refine tq_iinc 3 (E := E_Seen_take d) (pc := 70) (cks_at k_Seen_take 44 rfl rfl) rfl (show 3 < 4 by decide) rfl ?_
        refine tq_goto (tgt := 31) (E := E_Seen_take d) (pc := 73) (cks_at k_Seen_take 45 rfl rfl) (by decide) ?_
        exact tq_sub [1, 2, 3, 0] rfl (hkH v2 (v3 + 1) M5)
      · refine tq_iconst (E := E_Seen_take d) (pc := 68) (cks_at k_Seen_take 42 rfl rfl) ?_
        exact tq_zretC (E := E_Seen_take d) (pc := 69) (cks_at k_Seen_take 43 rfl rfl) rfl (by decide)
def f_Seen_take_L31 (kx76 : Int → Mm → Option (Int × Mm)) : Nat → Int × Int × Mm → Option (Int × Mm) := lp fun kH s => f_Seen_take_B31 (fun v2 v3 M => kH (v2, v3, M)) kx76 s.1 s.2.1 s.2.2
set_option maxRecDepth 20000 in
set_option maxHeartbeats 4000000 in
theorem w_Seen_take_L31 (d : Nat) (kx76 : Int → Mm → Option (Int × Mm)) (hkx76 : ∀ (v2 : Int) (M : Mm), T (E_Seen_take d) injI 76 [(0, .ref 64), (1, .ref 1), (2, vI v2)] [] M (kx76 v2 M)) (n : Nat) (s : Int × Int × Mm) : T (E_Seen_take d) injI 31 [(0, .ref 64), (1, .ref 1), (2, vI s.1), (3, vI s.2.1)] [] s.2.2 (f_Seen_take_L31 kx76 n s) :=
  tq_lp (fun s => [(0, .ref 64), (1, .ref 1), (2, vI s.1), (3, vI s.2.1)]) (fun s => s.2.2) (fun kH hH s => w_Seen_take_B31 d (fun v2 v3 M => kH (v2, v3, M)) kx76 (fun v2 v3 M => hH (v2, v3, M)) hkx76 s.1 s.2.1 s.2.2) n s
def f_Seen_take_B78 (kH : Int → Int → Mm → Option (Int × Mm)) (v2 v3 : Int) (M : Mm) : Option (Int × Mm) :=
  if i32 v2 ≤ i32 v3 then
    bd (up M 64 6 v2) (fun M8 =>
    some (1, M8))
  else
    bI (f_Scan_byteAt (4 * v3) M) (fun r10 M9 =>
    bV (f_BT_setCell 65 v3 r10 M9) (fun M11 =>
    bI (f_Scan_byteAt ((4 * v3) + 1) M11) (fun r13 M12 =>
    bI (f_Scan_byteAt ((4 * v3) + 2) M12) (fun r15 M14 =>
    bV (f_BT_setCell 66 v3 ((r13 * 256) + r15) M14) (fun M16 =>
    bI (f_Scan_byteAt ((4 * v3) + 3) M16) (fun r18 M17 =>
    bV (f_BT_setCell 67 v3 r18 M17) (fun M19 =>
    kH v2 (v3 + 1) M19)))))))
set_option maxRecDepth 20000 in
set_option maxHeartbeats 4000000 in
theorem w_Seen_take_B78 (d : Nat) (kH : Int → Int → Mm → Option (Int × Mm)) (hkH : ∀ (v2 v3 : Int) (M : Mm), T (E_Seen_take d) injI 78 [(0, .ref 64), (1, .ref 1), (2, vI v2), (3, vI v3)] [] M (kH v2 v3 M)) (v2 v3 : Int) (M : Mm) : T (E_Seen_take d) injI 78 [(0, .ref 64), (1, .ref 1), (2, vI v2), (3, vI v3)] [] M (f_Seen_take_B78 kH v2 v3 M) := by
  unfold f_Seen_take_B78
  refine tq_iload_n 3 (E := E_Seen_take d) (pc := 78) (cks_at k_Seen_take 48 rfl rfl) rfl ?_
  refine tq_iload_n 2 (E := E_Seen_take d) (pc := 79) (cks_at k_Seen_take 49 rfl rfl) rfl ?_
  refine tq_icmp_ge (E := E_Seen_take d) (pc := 80) (tgt := 152) (cks_at k_Seen_take 50 rfl rfl) (by decide) ?_ ?_
  · refine tq_aload_n 0 (E := E_Seen_take d) (pc := 152) (cks_at k_Seen_take 94 rfl rfl) rfl ?_
    refine tq_iload_n 2 (E := E_Seen_take d) (pc := 153) (cks_at k_Seen_take 95 rfl rfl) rfl ?_
    refine tq_putI (E := E_Seen_take d) (pc := 154) (cks_at k_Seen_take 96 rfl rfl) fo_Seen_59 so_64 rfl po_6_6 (fun M8 => ?_)
    refine tq_iconst (E := E_Seen_take d) (pc := 157) (cks_at k_Seen_take 97 rfl rfl) ?_
    exact tq_zretC (E := E_Seen_take d) (pc := 158) (cks_at k_Seen_take 98 rfl rfl) rfl (by decide)
  · refine tq_aload_n 0 (E := E_Seen_take d) (pc := 83) (cks_at k_Seen_take 51 rfl rfl) rfl ?_
    refine tq_getR (j := 65) (E := E_Seen_take d) (pc := 84) (cks_at k_Seen_take 52 rfl rfl) fo_Seen_9 so_64 rfl sp_64_3 ?_
    refine tq_iload_n 3 (E := E_Seen_take d) (pc := 87) (cks_at k_Seen_take 53 rfl rfl) rfl ?_
    refine tq_aload_n 1 (E := E_Seen_take d) (pc := 88) (cks_at k_Seen_take 54 rfl rfl) rfl ?_
    refine tq_iconst (E := E_Seen_take d) (pc := 89) (cks_at k_Seen_take 55 rfl rfl) ?_
    refine tq_iload_n 3 (E := E_Seen_take d) (pc := 90) (cks_at k_Seen_take 56 rfl rfl) rfl ?_
    refine tq_imul (E := E_Seen_take d) (pc := 91) (cks_at k_Seen_take 57 rfl rfl) ?_
    refine tq_V1 (E := E_Seen_take d) (pc := 92) (cks_at k_Seen_take 58 rfl rfl) mk_Scan_byteAt lk_Seen_45 rc_1 (Nat.le_of_ble_eq_true rfl) (c_Scan_byteAt (d + 2) (4 * v3) M) (k_I fun r10 M9 => ?_)
    refine tq_S3 (E := E_Seen_take d) (pc := 95) (cks_at k_Seen_take 59 rfl rfl) mk_BT_setCell lk_Seen_55 (Nat.le_of_ble_eq_true rfl) (c_BT_setCell (d + 2) 65 sa_65 v3 r10 M9) (k_V fun M11 => ?_)
    refine tq_aload_n 0 (E := E_Seen_take d) (pc := 98) (cks_at k_Seen_take 60 rfl rfl) rfl ?_
    refine tq_getR (j := 66) (E := E_Seen_take d) (pc := 99) (cks_at k_Seen_take 61 rfl rfl) fo_Seen_15 so_64 rfl sp_64_4 ?_
    refine tq_iload_n 3 (E := E_Seen_take d) (pc := 102) (cks_at k_Seen_take 62 rfl rfl) rfl ?_
    refine tq_aload_n 1 (E := E_Seen_take d) (pc := 103) (cks_at k_Seen_take 63 rfl rfl) rfl ?_
    refine tq_iconst (E := E_Seen_take d) (pc := 104) (cks_at k_Seen_take 64 rfl rfl) ?_
    refine tq_iload_n 3 (E := E_Seen_take d) (pc := 105) (cks_at k_Seen_take 65 rfl rfl) rfl ?_
    refine tq_imul (E := E_Seen_take d) (pc := 106) (cks_at k_Seen_take 66 rfl rfl) ?_
    refine tq_iconst (E := E_Seen_take d) (pc := 107) (cks_at k_Seen_take 67 rfl rfl) ?_
    refine tq_iadd (E := E_Seen_take d) (pc := 108) (cks_at k_Seen_take 68 rfl rfl) ?_
    refine tq_V1 (E := E_Seen_take d) (pc := 109) (cks_at k_Seen_take 69 rfl rfl) mk_Scan_byteAt lk_Seen_45 rc_1 (Nat.le_of_ble_eq_true rfl) (c_Scan_byteAt (d + 2) ((4 * v3) + 1) M11) (k_I fun r13 M12 => ?_)
    refine tq_sipush (E := E_Seen_take d) (pc := 112) (cks_at k_Seen_take 70 rfl rfl) (by decide) (by decide) ?_
    refine tq_imul (E := E_Seen_take d) (pc := 115) (cks_at k_Seen_take 71 rfl rfl) ?_
    refine tq_aload_n 1 (E := E_Seen_take d) (pc := 116) (cks_at k_Seen_take 72 rfl rfl) rfl ?_
    refine tq_iconst (E := E_Seen_take d) (pc := 117) (cks_at k_Seen_take 73 rfl rfl) ?_
    refine tq_iload_n 3 (E := E_Seen_take d) (pc := 118) (cks_at k_Seen_take 74 rfl rfl) rfl ?_
    refine tq_imul (E := E_Seen_take d) (pc := 119) (cks_at k_Seen_take 75 rfl rfl) ?_
    refine tq_iconst (E := E_Seen_take d) (pc := 120) (cks_at k_Seen_take 76 rfl rfl) ?_
    refine tq_iadd (E := E_Seen_take d) (pc := 121) (cks_at k_Seen_take 77 rfl rfl) ?_
    refine tq_V1 (E := E_Seen_take d) (pc := 122) (cks_at k_Seen_take 78 rfl rfl) mk_Scan_byteAt lk_Seen_45 rc_1 (Nat.le_of_ble_eq_true rfl) (c_Scan_byteAt (d + 2) ((4 * v3) + 2) M12) (k_I fun r15 M14 => ?_)
    refine tq_iadd (E := E_Seen_take d) (pc := 125) (cks_at k_Seen_take 79 rfl rfl) ?_
    refine tq_S3 (E := E_Seen_take d) (pc := 126) (cks_at k_Seen_take 80 rfl rfl) mk_BT_setCell lk_Seen_55 (Nat.le_of_ble_eq_true rfl) (c_BT_setCell (d + 2) 66 sa_66 v3 ((r13 * 256) + r15) M14) (k_V fun M16 => ?_)
    refine tq_aload_n 0 (E := E_Seen_take d) (pc := 129) (cks_at k_Seen_take 81 rfl rfl) rfl ?_
    refine tq_getR (j := 67) (E := E_Seen_take d) (pc := 130) (cks_at k_Seen_take 82 rfl rfl) fo_Seen_18 so_64 rfl sp_64_5 ?_
    refine tq_iload_n 3 (E := E_Seen_take d) (pc := 133) (cks_at k_Seen_take 83 rfl rfl) rfl ?_
    refine tq_aload_n 1 (E := E_Seen_take d) (pc := 134) (cks_at k_Seen_take 84 rfl rfl) rfl ?_
    refine tq_iconst (E := E_Seen_take d) (pc := 135) (cks_at k_Seen_take 85 rfl rfl) ?_
    refine tq_iload_n 3 (E := E_Seen_take d) (pc := 136) (cks_at k_Seen_take 86 rfl rfl) rfl ?_
    refine tq_imul (E := E_Seen_take d) (pc := 137) (cks_at k_Seen_take 87 rfl rfl) ?_
    refine tq_iconst (E := E_Seen_take d) (pc := 138) (cks_at k_Seen_take 88 rfl rfl) ?_
    refine tq_iadd (E := E_Seen_take d) (pc := 139) (cks_at k_Seen_take 89 rfl rfl) ?_
    refine tq_V1 (E := E_Seen_take d) (pc := 140) (cks_at k_Seen_take 90 rfl rfl) mk_Scan_byteAt lk_Seen_45 rc_1 (Nat.le_of_ble_eq_true rfl) (c_Scan_byteAt (d + 2) ((4 * v3) + 3) M16) (k_I fun r18 M17 => ?_)
    refine tq_S3 (E := E_Seen_take d) (pc := 143) (cks_at k_Seen_take 91 rfl rfl) mk_BT_setCell lk_Seen_55 (Nat.le_of_ble_eq_true rfl) (c_BT_setCell (d + 2) 67 sa_67 v3 r18 M17) (k_V fun M19 => ?_)
    refine tq_iinc 3 (E := E_Seen_take d) (pc := 146) (cks_at k_Seen_take 92 rfl rfl) rfl (show 3 < 4 by decide) rfl ?_
    refine tq_goto (tgt := 78) (E := E_Seen_take d) (pc := 149) (cks_at k_Seen_take 93 rfl rfl) (by decide) ?_
    exact tq_sub [1, 2, 3, 0] rfl (hkH v2 (v3 + 1) M19)
def f_Seen_take_L78 : Nat → Int × Int × Mm → Option (Int × Mm) := lp fun kH s => f_Seen_take_B78 (fun v2 v3 M => kH (v2, v3, M)) s.1 s.2.1 s.2.2
set_option maxRecDepth 20000 in
set_option maxHeartbeats 4000000 in
theorem w_Seen_take_L78 (d : Nat) (n : Nat) (s : Int × Int × Mm) : T (E_Seen_take d) injI 78 [(0, .ref 64), (1, .ref 1), (2, vI s.1), (3, vI s.2.1)] [] s.2.2 (f_Seen_take_L78 n s) :=
  tq_lp (fun s => [(0, .ref 64), (1, .ref 1), (2, vI s.1), (3, vI s.2.1)]) (fun s => s.2.2) (fun kH hH s => w_Seen_take_B78 d (fun v2 v3 M => kH (v2, v3, M)) (fun v2 v3 M => hH (v2, v3, M)) s.1 s.2.1 s.2.2) n s
def f_Seen_take (M : Mm) : Option (Int × Mm) :=
  if ¬ i32 ((i32 (M 1 1)).tmod (i32 4)) = 0 then
    some (0, M)
  else
    if i32 ((i32 (M 1 1)).tdiv (i32 4)) < i32 1 then
      some (0, M)
    else
      if i32 ((i32 (M 1 1)).tdiv (i32 4)) ≤ i32 20 then
        f_Seen_take_L31 (fun v2 M7 => f_Seen_take_L78 FU (v2, 0, M7)) FU (((i32 (M 1 1)).tdiv (i32 4)), 0, M)
      else
        some (0, M)
set_option maxRecDepth 20000 in
set_option maxHeartbeats 4000000 in
theorem c_Seen_take (d : Nat) (M : Mm) (Q : Option Value → Mm → Prop) (h : sat injI (f_Seen_take M) Q) : Ct (d + 4) y_Seen_take [.ref 64, .ref 1] M Q := by
  refine ct_in (d := d + 3) mk_Seen_take (Nat.le_of_ble_eq_true rfl) (?_ : T (E_Seen_take d) injI 0 [(0, .ref 64), (1, .ref 1)] [] M (f_Seen_take M)) h
  unfold f_Seen_take
  refine tq_aload_n 1 (E := E_Seen_take d) (pc := 0) (cks_at k_Seen_take 0 rfl rfl) rfl ?_
  refine tq_getI (E := E_Seen_take d) (pc := 1) (cks_at k_Seen_take 1 rfl rfl) fo_Seen_39 so_1 rfl (by decide) ?_
  refine tq_iconst (E := E_Seen_take d) (pc := 4) (cks_at k_Seen_take 2 rfl rfl) ?_
  refine tq_idivC (E := E_Seen_take d) (pc := 5) (cks_at k_Seen_take 3 rfl rfl) (by decide) ?_
  refine tq_istore_n (E := E_Seen_take d) (pc := 6) (cks_at k_Seen_take 4 rfl rfl) (show 2 < 4 by decide) rfl ?_
  refine tq_aload_n 2 (E := E_Seen_take d) (pc := 7) (cks_at k_Seen_take 5 rfl rfl) rfl ?_
  refine tq_getI (E := E_Seen_take d) (pc := 8) (cks_at k_Seen_take 6 rfl rfl) fo_Seen_39 so_1 rfl (by decide) ?_
  refine tq_iconst (E := E_Seen_take d) (pc := 11) (cks_at k_Seen_take 7 rfl rfl) ?_
  refine tq_iremC (E := E_Seen_take d) (pc := 12) (cks_at k_Seen_take 8 rfl rfl) (by decide) ?_
  refine tq_if_ne (E := E_Seen_take d) (pc := 13) (tgt := 27) (cks_at k_Seen_take 9 rfl rfl) (by decide) ?_ ?_
  · refine tq_iconst (E := E_Seen_take d) (pc := 27) (cks_at k_Seen_take 16 rfl rfl) ?_
    exact tq_zretC (E := E_Seen_take d) (pc := 28) (cks_at k_Seen_take 17 rfl rfl) rfl (by decide)
  · refine tq_iload_n 0 (E := E_Seen_take d) (pc := 16) (cks_at k_Seen_take 10 rfl rfl) rfl ?_
    refine tq_iconst (E := E_Seen_take d) (pc := 17) (cks_at k_Seen_take 11 rfl rfl) ?_
    refine tq_icmp_lt (E := E_Seen_take d) (pc := 18) (tgt := 27) (cks_at k_Seen_take 12 rfl rfl) (by decide) ?_ ?_
    · refine tq_iconst (E := E_Seen_take d) (pc := 27) (cks_at k_Seen_take 16 rfl rfl) ?_
      exact tq_zretC (E := E_Seen_take d) (pc := 28) (cks_at k_Seen_take 17 rfl rfl) rfl (by decide)
    · refine tq_iload_n 0 (E := E_Seen_take d) (pc := 21) (cks_at k_Seen_take 13 rfl rfl) rfl ?_
      refine tq_bipush (E := E_Seen_take d) (pc := 22) (cks_at k_Seen_take 14 rfl rfl) (by decide) (by decide) ?_
      refine tq_icmp_le (E := E_Seen_take d) (pc := 24) (tgt := 29) (cks_at k_Seen_take 15 rfl rfl) (by decide) ?_ ?_
      · refine tq_iconst (E := E_Seen_take d) (pc := 29) (cks_at k_Seen_take 18 rfl rfl) ?_
        refine tq_istore_n (E := E_Seen_take d) (pc := 30) (cks_at k_Seen_take 19 rfl rfl) (show 3 < 4 by decide) rfl ?_
        exact tq_sub [2, 3, 1, 0] rfl (w_Seen_take_L31 d _ (fun v2 M7 => by
            refine tq_iconst (E := E_Seen_take d) (pc := 76) (cks_at k_Seen_take 46 rfl rfl) ?_
            refine tq_istore_n (E := E_Seen_take d) (pc := 77) (cks_at k_Seen_take 47 rfl rfl) (show 3 < 4 by decide) rfl ?_
            exact tq_sub [1, 2, 3, 0] rfl (w_Seen_take_L78 d FU (v2, 0, M7))) FU (((i32 (M 1 1)).tdiv (i32 4)), 0, M))
      · refine tq_iconst (E := E_Seen_take d) (pc := 27) (cks_at k_Seen_take 16 rfl rfl) ?_
        exact tq_zretC (E := E_Seen_take d) (pc := 28) (cks_at k_Seen_take 17 rfl rfl) rfl (by decide)
