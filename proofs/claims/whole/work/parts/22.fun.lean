abbrev E_Code_copy (d : Nat) : Ev := (Ct (d + 1), "BreathTown$Code", prog_2_method_5_code, 3, False, 0, (fun _ => 0), (Option.none : Option Jvm.ClassFile.FieldType))
def f_Code_copy_B18 (this : Nat) (o1 : Nat) (kH : Int → Mm → Option (Mm)) (v2 : Int) (M : Mm) : Option (Mm) :=
  if i32 (M this 3) ≤ i32 v2 then
    some M
  else
    bI (f_BT_cell (ptr o1 0) v2 M) (fun r4 M3 =>
    bV (f_BT_setCell (ptr this 0) v2 r4 M3) (fun M5 =>
    kH (v2 + 1) M5))
set_option maxRecDepth 20000 in
set_option maxHeartbeats 4000000 in
theorem w_Code_copy_B18 (d : Nat) (this : Nat) (o1 : Nat) (hthis : isCode this) (ho1 : isCode o1) (kH : Int → Mm → Option (Mm)) (hkH : ∀ (v2 : Int) (M : Mm), T (E_Code_copy d) injV 18 [(0, .ref this), (1, .ref o1), (2, vI v2)] [] M (kH v2 M)) (v2 : Int) (M : Mm) : T (E_Code_copy d) injV 18 [(0, .ref this), (1, .ref o1), (2, vI v2)] [] M (f_Code_copy_B18 this o1 kH v2 M) := by
  unfold f_Code_copy_B18
  refine tq_iload_n 2 (E := E_Code_copy d) (pc := 18) (cks_at k_Code_copy 10 rfl rfl) rfl ?_
  refine tq_aload_n 0 (E := E_Code_copy d) (pc := 19) (cks_at k_Code_copy 11 rfl rfl) rfl ?_
  refine tq_getI (E := E_Code_copy d) (pc := 20) (cks_at k_Code_copy 12 rfl rfl) fo_Code_21 (isCode_ok hthis) rfl (by decide) ?_
  refine tq_icmp_ge (E := E_Code_copy d) (pc := 23) (tgt := 48) (cks_at k_Code_copy 13 rfl rfl) (by decide) ?_ ?_
  · exact tq_vret (E := E_Code_copy d) (pc := 48) (cks_at k_Code_copy 24 rfl rfl) rfl
  · refine tq_aload_n 0 (E := E_Code_copy d) (pc := 26) (cks_at k_Code_copy 14 rfl rfl) rfl ?_
    refine tq_getR (j := ptr this 0) (E := E_Code_copy d) (pc := 27) (cks_at k_Code_copy 15 rfl rfl) fo_Code_9 (isCode_ok hthis) rfl rfl ?_
    refine tq_iload_n 2 (E := E_Code_copy d) (pc := 30) (cks_at k_Code_copy 16 rfl rfl) rfl ?_
    refine tq_aload_n 1 (E := E_Code_copy d) (pc := 31) (cks_at k_Code_copy 17 rfl rfl) rfl ?_
    refine tq_getR (j := ptr o1 0) (E := E_Code_copy d) (pc := 32) (cks_at k_Code_copy 18 rfl rfl) fo_Code_9 (isCode_ok ho1) rfl rfl ?_
    refine tq_iload_n 2 (E := E_Code_copy d) (pc := 35) (cks_at k_Code_copy 19 rfl rfl) rfl ?_
    refine tq_S2 (E := E_Code_copy d) (pc := 36) (cks_at k_Code_copy 20 rfl rfl) mk_BT_cell lk_Code_28 (Nat.le_of_ble_eq_true rfl) (c_BT_cell (d + 0) (ptr o1 0) (sa_Code_0 ho1) v2 M) (k_I fun r4 M3 => ?_)
    refine tq_S3 (E := E_Code_copy d) (pc := 39) (cks_at k_Code_copy 21 rfl rfl) mk_BT_setCell lk_Code_32 (Nat.le_of_ble_eq_true rfl) (c_BT_setCell (d + 0) (ptr this 0) (sa_Code_0 hthis) v2 r4 M3) (k_V fun M5 => ?_)
    refine tq_iinc 2 (E := E_Code_copy d) (pc := 42) (cks_at k_Code_copy 22 rfl rfl) rfl (show 2 < 3 by decide) rfl ?_
    refine tq_goto (tgt := 18) (E := E_Code_copy d) (pc := 45) (cks_at k_Code_copy 23 rfl rfl) (by decide) ?_
    exact tq_sub [1, 2, 0] rfl (hkH (v2 + 1) M5)
def f_Code_copy_L18 (this : Nat) (o1 : Nat) : Nat → Int × Mm → Option (Mm) := lp fun kH s => f_Code_copy_B18 this o1 (fun v2 M => kH (v2, M)) s.1 s.2
set_option maxRecDepth 20000 in
set_option maxHeartbeats 4000000 in
theorem w_Code_copy_L18 (d : Nat) (this : Nat) (o1 : Nat) (hthis : isCode this) (ho1 : isCode o1) (n : Nat) (s : Int × Mm) : T (E_Code_copy d) injV 18 [(0, .ref this), (1, .ref o1), (2, vI s.1)] [] s.2 (f_Code_copy_L18 this o1 n s) :=
  tq_lp (fun s => [(0, .ref this), (1, .ref o1), (2, vI s.1)]) (fun s => s.2) (fun kH hH s => w_Code_copy_B18 d this o1 hthis ho1 (fun v2 M => kH (v2, M)) (fun v2 M => hH (v2, M)) s.1 s.2) n s
def f_Code_copy (this : Nat) (o1 : Nat) (M : Mm) : Option (Mm) :=
  bd (up M this 3 (M o1 3)) (fun M1 =>
  bd (up M1 this 4 (M1 o1 4)) (fun M2 =>
  f_Code_copy_L18 this o1 FU (0, M2)))
set_option maxRecDepth 20000 in
set_option maxHeartbeats 4000000 in
theorem c_Code_copy (d : Nat) (this : Nat) (hthis : isCode this) (o1 : Nat) (ho1 : isCode o1) (M : Mm) (Q : Option Value → Mm → Prop) (h : sat injV (f_Code_copy this o1 M) Q) : Ct (d + 2) y_Code_copy [.ref this, .ref o1] M Q := by
  refine ct_in (d := d + 1) mk_Code_copy (Nat.le_of_ble_eq_true rfl) (?_ : T (E_Code_copy d) injV 0 [(0, .ref this), (1, .ref o1)] [] M (f_Code_copy this o1 M)) h
  unfold f_Code_copy
  refine tq_aload_n 0 (E := E_Code_copy d) (pc := 0) (cks_at k_Code_copy 0 rfl rfl) rfl ?_
  refine tq_aload_n 1 (E := E_Code_copy d) (pc := 1) (cks_at k_Code_copy 1 rfl rfl) rfl ?_
  refine tq_getI (E := E_Code_copy d) (pc := 2) (cks_at k_Code_copy 2 rfl rfl) fo_Code_21 (isCode_ok ho1) rfl (by decide) ?_
  refine tq_putI (E := E_Code_copy d) (pc := 5) (cks_at k_Code_copy 3 rfl rfl) fo_Code_21 (isCode_ok hthis) rfl po_0_3 (fun M1 => ?_)
  refine tq_aload_n 0 (E := E_Code_copy d) (pc := 8) (cks_at k_Code_copy 4 rfl rfl) rfl ?_
  refine tq_aload_n 1 (E := E_Code_copy d) (pc := 9) (cks_at k_Code_copy 5 rfl rfl) rfl ?_
  refine tq_getI (E := E_Code_copy d) (pc := 10) (cks_at k_Code_copy 6 rfl rfl) fo_Code_25 (isCode_ok ho1) rfl (by decide) ?_
  refine tq_putI (E := E_Code_copy d) (pc := 13) (cks_at k_Code_copy 7 rfl rfl) fo_Code_25 (isCode_ok hthis) rfl po_0_4 (fun M2 => ?_)
  refine tq_iconst (E := E_Code_copy d) (pc := 16) (cks_at k_Code_copy 8 rfl rfl) ?_
  refine tq_istore_n (E := E_Code_copy d) (pc := 17) (cks_at k_Code_copy 9 rfl rfl) (show 2 < 3 by decide) rfl ?_
  exact tq_sub [1, 2, 0] rfl (w_Code_copy_L18 d this o1 hthis ho1 FU (0, M2))
abbrev E_Told_copy (d : Nat) : Ev := (Ct (d + 2), "BreathTown$Told", prog_9_method_3_code, 2, False, 0, (fun _ => 0), (Option.none : Option Jvm.ClassFile.FieldType))
def f_Told_copy (this : Nat) (o1 : Nat) (M : Mm) : Option (Mm) :=
  bV (f_BT_copyAll (ptr o1 0) (ptr this 0) M) (fun M1 =>
  bV (f_BT_copyAll (ptr o1 1) (ptr this 1) M1) (fun M2 =>
  bV (f_BT_copyAll (ptr o1 2) (ptr this 2) M2) (fun M3 =>
  bV (f_BT_copyAll (ptr o1 3) (ptr this 3) M3) (fun M4 =>
  bV (f_BT_copyAll (ptr o1 4) (ptr this 4) M4) (fun M5 =>
  bV (f_BT_copyAll (ptr o1 5) (ptr this 5) M5) (fun M6 =>
  bV (f_BT_copyAll (ptr o1 6) (ptr this 6) M6) (fun M7 =>
  bV (f_BT_copyAll (ptr o1 7) (ptr this 7) M7) (fun M8 =>
  bV (f_BT_copyAll (ptr o1 8) (ptr this 8) M8) (fun M9 =>
  bV (f_BT_copyAll (ptr o1 9) (ptr this 9) M9) (fun M10 =>
  bV (f_BT_copyAll (ptr o1 10) (ptr this 10) M10) (fun M11 =>
  bV (f_BT_copyAll (ptr o1 11) (ptr this 11) M11) (fun M12 =>
  bV (f_Code_copy (ptr this 12) (ptr o1 12) M12) (fun M13 =>
  bd (up M13 this 13 (M13 o1 13)) (fun M14 =>
  some M14))))))))))))))
set_option maxRecDepth 20000 in
set_option maxHeartbeats 4000000 in
theorem c_Told_copy (d : Nat) (this : Nat) (hthis : isTold this) (o1 : Nat) (ho1 : isTold o1) (M : Mm) (Q : Option Value → Mm → Prop) (h : sat injV (f_Told_copy this o1 M) Q) : Ct (d + 3) y_Told_copy [.ref this, .ref o1] M Q := by
  refine ct_in (d := d + 2) mk_Told_copy (Nat.le_of_ble_eq_true rfl) (?_ : T (E_Told_copy d) injV 0 [(0, .ref this), (1, .ref o1)] [] M (f_Told_copy this o1 M)) h
  unfold f_Told_copy
  refine tq_aload_n 1 (E := E_Told_copy d) (pc := 0) (cks_at k_Told_copy 0 rfl rfl) rfl ?_
  refine tq_getR (j := ptr o1 0) (E := E_Told_copy d) (pc := 1) (cks_at k_Told_copy 1 rfl rfl) fo_Told_9 (isTold_ok ho1) rfl rfl ?_
  refine tq_aload_n 0 (E := E_Told_copy d) (pc := 4) (cks_at k_Told_copy 2 rfl rfl) rfl ?_
  refine tq_getR (j := ptr this 0) (E := E_Told_copy d) (pc := 5) (cks_at k_Told_copy 3 rfl rfl) fo_Told_9 (isTold_ok hthis) rfl rfl ?_
  refine tq_S2 (E := E_Told_copy d) (pc := 8) (cks_at k_Told_copy 4 rfl rfl) mk_BT_copyAll lk_Told_66 (Nat.le_of_ble_eq_true rfl) (c_BT_copyAll (d + 1) (ptr o1 0) (sa_Told_0 ho1) (ptr this 0) (sa_Told_0 hthis) M) (k_V fun M1 => ?_)
  refine tq_aload_n 1 (E := E_Told_copy d) (pc := 11) (cks_at k_Told_copy 5 rfl rfl) rfl ?_
  refine tq_getR (j := ptr o1 1) (E := E_Told_copy d) (pc := 12) (cks_at k_Told_copy 6 rfl rfl) fo_Told_15 (isTold_ok ho1) rfl rfl ?_
  refine tq_aload_n 0 (E := E_Told_copy d) (pc := 15) (cks_at k_Told_copy 7 rfl rfl) rfl ?_
  refine tq_getR (j := ptr this 1) (E := E_Told_copy d) (pc := 16) (cks_at k_Told_copy 8 rfl rfl) fo_Told_15 (isTold_ok hthis) rfl rfl ?_
  refine tq_S2 (E := E_Told_copy d) (pc := 19) (cks_at k_Told_copy 9 rfl rfl) mk_BT_copyAll lk_Told_66 (Nat.le_of_ble_eq_true rfl) (c_BT_copyAll (d + 1) (ptr o1 1) (sa_Told_1 ho1) (ptr this 1) (sa_Told_1 hthis) M1) (k_V fun M2 => ?_)
  refine tq_aload_n 1 (E := E_Told_copy d) (pc := 22) (cks_at k_Told_copy 10 rfl rfl) rfl ?_
  refine tq_getR (j := ptr o1 2) (E := E_Told_copy d) (pc := 23) (cks_at k_Told_copy 11 rfl rfl) fo_Told_18 (isTold_ok ho1) rfl rfl ?_
  refine tq_aload_n 0 (E := E_Told_copy d) (pc := 26) (cks_at k_Told_copy 12 rfl rfl) rfl ?_
  refine tq_getR (j := ptr this 2) (E := E_Told_copy d) (pc := 27) (cks_at k_Told_copy 13 rfl rfl) fo_Told_18 (isTold_ok hthis) rfl rfl ?_
  refine tq_S2 (E := E_Told_copy d) (pc := 30) (cks_at k_Told_copy 14 rfl rfl) mk_BT_copyAll lk_Told_66 (Nat.le_of_ble_eq_true rfl) (c_BT_copyAll (d + 1) (ptr o1 2) (sa_Told_2 ho1) (ptr this 2) (sa_Told_2 hthis) M2) (k_V fun M3 => ?_)
  refine tq_aload_n 1 (E := E_Told_copy d) (pc := 33) (cks_at k_Told_copy 15 rfl rfl) rfl ?_
  refine tq_getR (j := ptr o1 3) (E := E_Told_copy d) (pc := 34) (cks_at k_Told_copy 16 rfl rfl) fo_Told_21 (isTold_ok ho1) rfl rfl ?_
  refine tq_aload_n 0 (E := E_Told_copy d) (pc := 37) (cks_at k_Told_copy 17 rfl rfl) rfl ?_
  refine tq_getR (j := ptr this 3) (E := E_Told_copy d) (pc := 38) (cks_at k_Told_copy 18 rfl rfl) fo_Told_21 (isTold_ok hthis) rfl rfl ?_
  refine tq_S2 (E := E_Told_copy d) (pc := 41) (cks_at k_Told_copy 19 rfl rfl) mk_BT_copyAll lk_Told_66 (Nat.le_of_ble_eq_true rfl) (c_BT_copyAll (d + 1) (ptr o1 3) (sa_Told_3 ho1) (ptr this 3) (sa_Told_3 hthis) M3) (k_V fun M4 => ?_)
  refine tq_aload_n 1 (E := E_Told_copy d) (pc := 44) (cks_at k_Told_copy 20 rfl rfl) rfl ?_
  refine tq_getR (j := ptr o1 4) (E := E_Told_copy d) (pc := 45) (cks_at k_Told_copy 21 rfl rfl) fo_Told_24 (isTold_ok ho1) rfl rfl ?_
  refine tq_aload_n 0 (E := E_Told_copy d) (pc := 48) (cks_at k_Told_copy 22 rfl rfl) rfl ?_
  refine tq_getR (j := ptr this 4) (E := E_Told_copy d) (pc := 49) (cks_at k_Told_copy 23 rfl rfl) fo_Told_24 (isTold_ok hthis) rfl rfl ?_
  refine tq_S2 (E := E_Told_copy d) (pc := 52) (cks_at k_Told_copy 24 rfl rfl) mk_BT_copyAll lk_Told_66 (Nat.le_of_ble_eq_true rfl) (c_BT_copyAll (d + 1) (ptr o1 4) (sa_Told_4 ho1) (ptr this 4) (sa_Told_4 hthis) M4) (k_V fun M5 => ?_)
  refine tq_aload_n 1 (E := E_Told_copy d) (pc := 55) (cks_at k_Told_copy 25 rfl rfl) rfl ?_
  refine tq_getR (j := ptr o1 5) (E := E_Told_copy d) (pc := 56) (cks_at k_Told_copy 26 rfl rfl) fo_Told_27 (isTold_ok ho1) rfl rfl ?_
  refine tq_aload_n 0 (E := E_Told_copy d) (pc := 59) (cks_at k_Told_copy 27 rfl rfl) rfl ?_
  refine tq_getR (j := ptr this 5) (E := E_Told_copy d) (pc := 60) (cks_at k_Told_copy 28 rfl rfl) fo_Told_27 (isTold_ok hthis) rfl rfl ?_
  refine tq_S2 (E := E_Told_copy d) (pc := 63) (cks_at k_Told_copy 29 rfl rfl) mk_BT_copyAll lk_Told_66 (Nat.le_of_ble_eq_true rfl) (c_BT_copyAll (d + 1) (ptr o1 5) (sa_Told_5 ho1) (ptr this 5) (sa_Told_5 hthis) M5) (k_V fun M6 => ?_)
  refine tq_aload_n 1 (E := E_Told_copy d) (pc := 66) (cks_at k_Told_copy 30 rfl rfl) rfl ?_
  refine tq_getR (j := ptr o1 6) (E := E_Told_copy d) (pc := 67) (cks_at k_Told_copy 31 rfl rfl) fo_Told_30 (isTold_ok ho1) rfl rfl ?_
  refine tq_aload_n 0 (E := E_Told_copy d) (pc := 70) (cks_at k_Told_copy 32 rfl rfl) rfl ?_
  refine tq_getR (j := ptr this 6) (E := E_Told_copy d) (pc := 71) (cks_at k_Told_copy 33 rfl rfl) fo_Told_30 (isTold_ok hthis) rfl rfl ?_
  refine tq_S2 (E := E_Told_copy d) (pc := 74) (cks_at k_Told_copy 34 rfl rfl) mk_BT_copyAll lk_Told_66 (Nat.le_of_ble_eq_true rfl) (c_BT_copyAll (d + 1) (ptr o1 6) (sa_Told_6 ho1) (ptr this 6) (sa_Told_6 hthis) M6) (k_V fun M7 => ?_)
  refine tq_aload_n 1 (E := E_Told_copy d) (pc := 77) (cks_at k_Told_copy 35 rfl rfl) rfl ?_
  refine tq_getR (j := ptr o1 7) (E := E_Told_copy d) (pc := 78) (cks_at k_Told_copy 36 rfl rfl) fo_Told_33 (isTold_ok ho1) rfl rfl ?_
  refine tq_aload_n 0 (E := E_Told_copy d) (pc := 81) (cks_at k_Told_copy 37 rfl rfl) rfl ?_
  refine tq_getR (j := ptr this 7) (E := E_Told_copy d) (pc := 82) (cks_at k_Told_copy 38 rfl rfl) fo_Told_33 (isTold_ok hthis) rfl rfl ?_
  refine tq_S2 (E := E_Told_copy d) (pc := 85) (cks_at k_Told_copy 39 rfl rfl) mk_BT_copyAll lk_Told_66 (Nat.le_of_ble_eq_true rfl) (c_BT_copyAll (d + 1) (ptr o1 7) (sa_Told_7 ho1) (ptr this 7) (sa_Told_7 hthis) M7) (k_V fun M8 => ?_)
  refine tq_aload_n 1 (E := E_Told_copy d) (pc := 88) (cks_at k_Told_copy 40 rfl rfl) rfl ?_
  refine tq_getR (j := ptr o1 8) (E := E_Told_copy d) (pc := 89) (cks_at k_Told_copy 41 rfl rfl) fo_Told_36 (isTold_ok ho1) rfl rfl ?_
  refine tq_aload_n 0 (E := E_Told_copy d) (pc := 92) (cks_at k_Told_copy 42 rfl rfl) rfl ?_
  refine tq_getR (j := ptr this 8) (E := E_Told_copy d) (pc := 93) (cks_at k_Told_copy 43 rfl rfl) fo_Told_36 (isTold_ok hthis) rfl rfl ?_
  refine tq_S2 (E := E_Told_copy d) (pc := 96) (cks_at k_Told_copy 44 rfl rfl) mk_BT_copyAll lk_Told_66 (Nat.le_of_ble_eq_true rfl) (c_BT_copyAll (d + 1) (ptr o1 8) (sa_Told_8 ho1) (ptr this 8) (sa_Told_8 hthis) M8) (k_V fun M9 => ?_)
  refine tq_aload_n 1 (E := E_Told_copy d) (pc := 99) (cks_at k_Told_copy 45 rfl rfl) rfl ?_
  refine tq_getR (j := ptr o1 9) (E := E_Told_copy d) (pc := 100) (cks_at k_Told_copy 46 rfl rfl) fo_Told_39 (isTold_ok ho1) rfl rfl ?_
  refine tq_aload_n 0 (E := E_Told_copy d) (pc := 103) (cks_at k_Told_copy 47 rfl rfl) rfl ?_
  refine tq_getR (j := ptr this 9) (E := E_Told_copy d) (pc := 104) (cks_at k_Told_copy 48 rfl rfl) fo_Told_39 (isTold_ok hthis) rfl rfl ?_
  refine tq_S2 (E := E_Told_copy d) (pc := 107) (cks_at k_Told_copy 49 rfl rfl) mk_BT_copyAll lk_Told_66 (Nat.le_of_ble_eq_true rfl) (c_BT_copyAll (d + 1) (ptr o1 9) (sa_Told_9 ho1) (ptr this 9) (sa_Told_9 hthis) M9) (k_V fun M10 => ?_)
  refine tq_aload_n 1 (E := E_Told_copy d) (pc := 110) (cks_at k_Told_copy 50 rfl rfl) rfl ?_
  refine tq_getR (j := ptr o1 10) (E := E_Told_copy d) (pc := 111) (cks_at k_Told_copy 51 rfl rfl) fo_Told_42 (isTold_ok ho1) rfl rfl ?_
  refine tq_aload_n 0 (E := E_Told_copy d) (pc := 114) (cks_at k_Told_copy 52 rfl rfl) rfl ?_
  refine tq_getR (j := ptr this 10) (E := E_Told_copy d) (pc := 115) (cks_at k_Told_copy 53 rfl rfl) fo_Told_42 (isTold_ok hthis) rfl rfl ?_
  refine tq_S2 (E := E_Told_copy d) (pc := 118) (cks_at k_Told_copy 54 rfl rfl) mk_BT_copyAll lk_Told_66 (Nat.le_of_ble_eq_true rfl) (c_BT_copyAll (d + 1) (ptr o1 10) (sa_Told_10 ho1) (ptr this 10) (sa_Told_10 hthis) M10) (k_V fun M11 => ?_)
  refine tq_aload_n 1 (E := E_Told_copy d) (pc := 121) (cks_at k_Told_copy 55 rfl rfl) rfl ?_
  refine tq_getR (j := ptr o1 11) (E := E_Told_copy d) (pc := 122) (cks_at k_Told_copy 56 rfl rfl) fo_Told_45 (isTold_ok ho1) rfl rfl ?_
  refine tq_aload_n 0 (E := E_Told_copy d) (pc := 125) (cks_at k_Told_copy 57 rfl rfl) rfl ?_
  refine tq_getR (j := ptr this 11) (E := E_Told_copy d) (pc := 126) (cks_at k_Told_copy 58 rfl rfl) fo_Told_45 (isTold_ok hthis) rfl rfl ?_
  refine tq_S2 (E := E_Told_copy d) (pc := 129) (cks_at k_Told_copy 59 rfl rfl) mk_BT_copyAll lk_Told_66 (Nat.le_of_ble_eq_true rfl) (c_BT_copyAll (d + 1) (ptr o1 11) (sa_Told_11 ho1) (ptr this 11) (sa_Told_11 hthis) M11) (k_V fun M12 => ?_)
  refine tq_aload_n 0 (E := E_Told_copy d) (pc := 132) (cks_at k_Told_copy 60 rfl rfl) rfl ?_
  refine tq_getR (j := ptr this 12) (E := E_Told_copy d) (pc := 133) (cks_at k_Told_copy 61 rfl rfl) fo_Told_51 (isTold_ok hthis) rfl rfl ?_
  refine tq_aload_n 1 (E := E_Told_copy d) (pc := 136) (cks_at k_Told_copy 62 rfl rfl) rfl ?_
  refine tq_getR (j := ptr o1 12) (E := E_Told_copy d) (pc := 137) (cks_at k_Told_copy 63 rfl rfl) fo_Told_51 (isTold_ok ho1) rfl rfl ?_
  refine tq_V1 (E := E_Told_copy d) (pc := 140) (cks_at k_Told_copy 64 rfl rfl) mk_Code_copy lk_Told_70 (isCode_rc (sm_Told_12 hthis)) (Nat.le_of_ble_eq_true rfl) (c_Code_copy (d + 0) (ptr this 12) (sm_Told_12 hthis) (ptr o1 12) (sm_Told_12 ho1) M12) (k_V fun M13 => ?_)
  refine tq_aload_n 0 (E := E_Told_copy d) (pc := 143) (cks_at k_Told_copy 65 rfl rfl) rfl ?_
  refine tq_aload_n 1 (E := E_Told_copy d) (pc := 144) (cks_at k_Told_copy 66 rfl rfl) rfl ?_
  refine tq_getI (E := E_Told_copy d) (pc := 145) (cks_at k_Told_copy 67 rfl rfl) fo_Told_62 (isTold_ok ho1) rfl (by decide) ?_
  refine tq_putI (E := E_Told_copy d) (pc := 148) (cks_at k_Told_copy 68 rfl rfl) fo_Told_62 (isTold_ok hthis) rfl po_7_13 (fun M14 => ?_)
  exact tq_vret (E := E_Told_copy d) (pc := 151) (cks_at k_Told_copy 69 rfl rfl) rfl
abbrev E_Now_begin (d : Nat) : Ev := (Ct (d + 1), "BreathTown$Now", prog_4_method_2_code, 1, False, 0, (fun _ => 0), (Option.none : Option Jvm.ClassFile.FieldType))
def f_Now_begin (M : Mm) : Option (Mm) :=
  bd (up M 39 8 (M 3 13)) (fun M1 =>
  bd (up M1 39 9 0) (fun M2 =>
  bV (f_BT_copyAll 10 40 M2) (fun M3 =>
  bV (f_BT_copyAll 14 41 M3) (fun M4 =>
  bV (f_BT_copyAll 15 42 M4) (fun M5 =>
  bV (f_BT_fill 43 0 M5) (fun M6 =>
  some M6))))))
set_option maxRecDepth 20000 in
set_option maxHeartbeats 4000000 in
theorem c_Now_begin (d : Nat) (M : Mm) (Q : Option Value → Mm → Prop) (h : sat injV (f_Now_begin M) Q) : Ct (d + 2) y_Now_begin [.ref 39] M Q := by
  refine ct_in (d := d + 1) mk_Now_begin (Nat.le_of_ble_eq_true rfl) (?_ : T (E_Now_begin d) injV 0 [(0, .ref 39)] [] M (f_Now_begin M)) h
  unfold f_Now_begin
  refine tq_aload_n 0 (E := E_Now_begin d) (pc := 0) (cks_at k_Now_begin 0 rfl rfl) rfl ?_
  refine tq_aload_n 0 (E := E_Now_begin d) (pc := 1) (cks_at k_Now_begin 1 rfl rfl) rfl ?_
  refine tq_getR (j := 3) (E := E_Now_begin d) (pc := 2) (cks_at k_Now_begin 2 rfl rfl) fo_Now_30 so_39 rfl sp_39_0 ?_
  refine tq_getI (E := E_Now_begin d) (pc := 5) (cks_at k_Now_begin 3 rfl rfl) fo_Now_34 so_3 rfl (by decide) ?_
  refine tq_putI (E := E_Now_begin d) (pc := 8) (cks_at k_Now_begin 4 rfl rfl) fo_Now_40 so_39 rfl po_2_8 (fun M1 => ?_)
  refine tq_aload_n 0 (E := E_Now_begin d) (pc := 11) (cks_at k_Now_begin 5 rfl rfl) rfl ?_
  refine tq_iconst (E := E_Now_begin d) (pc := 12) (cks_at k_Now_begin 6 rfl rfl) ?_
  refine tq_putI (E := E_Now_begin d) (pc := 13) (cks_at k_Now_begin 7 rfl rfl) fo_Now_43 so_39 rfl po_2_9 (fun M2 => ?_)
  refine tq_aload_n 0 (E := E_Now_begin d) (pc := 16) (cks_at k_Now_begin 8 rfl rfl) rfl ?_
  refine tq_getR (j := 3) (E := E_Now_begin d) (pc := 17) (cks_at k_Now_begin 9 rfl rfl) fo_Now_30 so_39 rfl sp_39_0 ?_
  refine tq_getR (j := 10) (E := E_Now_begin d) (pc := 20) (cks_at k_Now_begin 10 rfl rfl) fo_Now_46 so_3 rfl sp_3_6 ?_
  refine tq_aload_n 0 (E := E_Now_begin d) (pc := 23) (cks_at k_Now_begin 11 rfl rfl) rfl ?_
  refine tq_getR (j := 40) (E := E_Now_begin d) (pc := 24) (cks_at k_Now_begin 12 rfl rfl) fo_Now_9 so_39 rfl sp_39_1 ?_
  refine tq_S2 (E := E_Now_begin d) (pc := 27) (cks_at k_Now_begin 13 rfl rfl) mk_BT_copyAll lk_Now_47 (Nat.le_of_ble_eq_true rfl) (c_BT_copyAll (d + 0) 10 sa_10 40 sa_40 M2) (k_V fun M3 => ?_)
  refine tq_aload_n 0 (E := E_Now_begin d) (pc := 30) (cks_at k_Now_begin 14 rfl rfl) rfl ?_
  refine tq_getR (j := 3) (E := E_Now_begin d) (pc := 31) (cks_at k_Now_begin 15 rfl rfl) fo_Now_30 so_39 rfl sp_39_0 ?_
  refine tq_getR (j := 14) (E := E_Now_begin d) (pc := 34) (cks_at k_Now_begin 16 rfl rfl) fo_Now_51 so_3 rfl sp_3_10 ?_
  refine tq_aload_n 0 (E := E_Now_begin d) (pc := 37) (cks_at k_Now_begin 17 rfl rfl) rfl ?_
  refine tq_getR (j := 41) (E := E_Now_begin d) (pc := 38) (cks_at k_Now_begin 18 rfl rfl) fo_Now_15 so_39 rfl sp_39_2 ?_
  refine tq_S2 (E := E_Now_begin d) (pc := 41) (cks_at k_Now_begin 19 rfl rfl) mk_BT_copyAll lk_Now_47 (Nat.le_of_ble_eq_true rfl) (c_BT_copyAll (d + 0) 14 sa_14 41 sa_41 M3) (k_V fun M4 => ?_)
  refine tq_aload_n 0 (E := E_Now_begin d) (pc := 44) (cks_at k_Now_begin 20 rfl rfl) rfl ?_
  refine tq_getR (j := 3) (E := E_Now_begin d) (pc := 45) (cks_at k_Now_begin 21 rfl rfl) fo_Now_30 so_39 rfl sp_39_0 ?_
  refine tq_getR (j := 15) (E := E_Now_begin d) (pc := 48) (cks_at k_Now_begin 22 rfl rfl) fo_Now_52 so_3 rfl sp_3_11 ?_
  refine tq_aload_n 0 (E := E_Now_begin d) (pc := 51) (cks_at k_Now_begin 23 rfl rfl) rfl ?_
  refine tq_getR (j := 42) (E := E_Now_begin d) (pc := 52) (cks_at k_Now_begin 24 rfl rfl) fo_Now_18 so_39 rfl sp_39_3 ?_
  refine tq_S2 (E := E_Now_begin d) (pc := 55) (cks_at k_Now_begin 25 rfl rfl) mk_BT_copyAll lk_Now_47 (Nat.le_of_ble_eq_true rfl) (c_BT_copyAll (d + 0) 15 sa_15 42 sa_42 M4) (k_V fun M5 => ?_)
  refine tq_aload_n 0 (E := E_Now_begin d) (pc := 58) (cks_at k_Now_begin 26 rfl rfl) rfl ?_
  refine tq_getR (j := 43) (E := E_Now_begin d) (pc := 59) (cks_at k_Now_begin 27 rfl rfl) fo_Now_21 so_39 rfl sp_39_4 ?_
  refine tq_iconst (E := E_Now_begin d) (pc := 62) (cks_at k_Now_begin 28 rfl rfl) ?_
  refine tq_S2 (E := E_Now_begin d) (pc := 63) (cks_at k_Now_begin 29 rfl rfl) mk_BT_fill lk_Now_53 (Nat.le_of_ble_eq_true rfl) (c_BT_fill (d + 0) 43 sa_43 0 M5) (k_V fun M6 => ?_)
  exact tq_vret (E := E_Now_begin d) (pc := 66) (cks_at k_Now_begin 30 rfl rfl) rfl
abbrev E_Widths_forget (d : Nat) : Ev := (Ct (d + 0), "BreathTown$Widths", prog_12_method_2_code, 1, False, 0, (fun _ => 0), (Option.none : Option Jvm.ClassFile.FieldType))
def f_Widths_forget (M : Mm) : Option (Mm) :=
  bd (up M 46 3 ((M 46 3) + 1)) (fun M1 =>
  some M1)
set_option maxRecDepth 20000 in
set_option maxHeartbeats 4000000 in
theorem c_Widths_forget (d : Nat) (M : Mm) (Q : Option Value → Mm → Prop) (h : sat injV (f_Widths_forget M) Q) : Ct (d + 1) y_Widths_forget [.ref 46] M Q := by
  refine ct_in (d := d + 0) mk_Widths_forget (Nat.le_of_ble_eq_true rfl) (?_ : T (E_Widths_forget d) injV 0 [(0, .ref 46)] [] M (f_Widths_forget M)) h
  unfold f_Widths_forget
  refine tq_aload_n 0 (E := E_Widths_forget d) (pc := 0) (cks_at k_Widths_forget 0 rfl rfl) rfl ?_
  refine tq_dup (E := E_Widths_forget d) (pc := 1) (cks_at k_Widths_forget 1 rfl rfl) rfl ?_
  refine tq_getJ (E := E_Widths_forget d) (pc := 2) (cks_at k_Widths_forget 2 rfl rfl) fo_Widths_23 so_46 rfl ?_
  refine tq_lconst1 (E := E_Widths_forget d) (pc := 5) (cks_at k_Widths_forget 3 rfl rfl) ?_
  refine tq_ladd (E := E_Widths_forget d) (pc := 6) (cks_at k_Widths_forget 4 rfl rfl) ?_
  refine tq_putJ (E := E_Widths_forget d) (pc := 7) (cks_at k_Widths_forget 5 rfl rfl) fo_Widths_23 so_46 rfl po_10_3 (fun M1 => ?_)
  exact tq_vret (E := E_Widths_forget d) (pc := 10) (cks_at k_Widths_forget 6 rfl rfl) rfl
abbrev E_BT_town (d : Nat) : Ev := (Ct (d + 129), "BreathTown", prog_1_method_4_code, 2, False, 0, (fun _ => 0), (Option.some Jvm.ClassFile.FieldType.int))
def f_BT_town (M : Mm) : Option (Int × Mm) :=
  bI (f_TownR_read M) (fun r2 M1 =>
  bV (f_BT_keepFault M1) (fun M3 =>
  if ¬ i32 r2 = i32 ((-1)) then
    bV (f_Told_copy 3 20 M3) (fun M4 =>
    bV (f_Now_begin M4) (fun M5 =>
    bV (f_Widths_forget M5) (fun M6 =>
    bd (up M6 64 6 0) (fun M7 =>
    some (r2, M7)))))
  else
    bI (f_BT_refused 1 M3) (fun r9 M8 =>
    some (r9, M8))))
set_option maxRecDepth 20000 in
set_option maxHeartbeats 4000000 in
theorem c_BT_town (d : Nat) (M : Mm) (Q : Option Value → Mm → Prop) (h : sat injI (f_BT_town M) Q) : Ct (d + 130) y_BT_town [.ref 0] M Q := by
  refine ct_in (d := d + 129) mk_BT_town (Nat.le_of_ble_eq_true rfl) (?_ : T (E_BT_town d) injI 0 [(0, .ref 0)] [] M (f_BT_town M)) h
  unfold f_BT_town
  refine tq_aload_n 0 (E := E_BT_town d) (pc := 0) (cks_at k_BT_town 0 rfl rfl) rfl ?_
  refine tq_getR (j := 37) (E := E_BT_town d) (pc := 1) (cks_at k_BT_town 1 rfl rfl) fo_BT_31 so_0 rfl sp_0_3 ?_
  refine tq_V0 (E := E_BT_town d) (pc := 4) (cks_at k_BT_town 2 rfl rfl) mk_TownR_read lk_BT_113 rc_37 (Nat.le_of_ble_eq_true rfl) (c_TownR_read (d + 0) M) (k_I fun r2 M1 => ?_)
  refine tq_istore_n (E := E_BT_town d) (pc := 7) (cks_at k_BT_town 3 rfl rfl) (show 1 < 2 by decide) rfl ?_
  refine tq_aload_n 1 (E := E_BT_town d) (pc := 8) (cks_at k_BT_town 4 rfl rfl) rfl ?_
  refine tq_V0 (E := E_BT_town d) (pc := 9) (cks_at k_BT_town 5 rfl rfl) mk_BT_keepFault lk_BT_117 rc_0 (Nat.le_of_ble_eq_true rfl) (c_BT_keepFault (d + 128) M1) (k_V fun M3 => ?_)
  refine tq_iload_n 0 (E := E_BT_town d) (pc := 12) (cks_at k_BT_town 6 rfl rfl) rfl ?_
  refine tq_iconst (E := E_BT_town d) (pc := 13) (cks_at k_BT_town 7 rfl rfl) ?_
  refine tq_icmp_ne (E := E_BT_town d) (pc := 14) (tgt := 23) (cks_at k_BT_town 8 rfl rfl) (by decide) ?_ ?_
  · refine tq_aload_n 1 (E := E_BT_town d) (pc := 23) (cks_at k_BT_town 13 rfl rfl) rfl ?_
    refine tq_getR (j := 3) (E := E_BT_town d) (pc := 24) (cks_at k_BT_town 14 rfl rfl) fo_BT_19 so_0 rfl sp_0_1 ?_
    refine tq_aload_n 1 (E := E_BT_town d) (pc := 27) (cks_at k_BT_town 15 rfl rfl) rfl ?_
    refine tq_getR (j := 20) (E := E_BT_town d) (pc := 28) (cks_at k_BT_town 16 rfl rfl) fo_BT_23 so_0 rfl sp_0_2 ?_
    refine tq_V1 (E := E_BT_town d) (pc := 31) (cks_at k_BT_town 17 rfl rfl) mk_Told_copy lk_BT_120 (isTold_rc (Or.inl rfl)) (Nat.le_of_ble_eq_true rfl) (c_Told_copy (d + 126) 3 (Or.inl rfl) 20 (Or.inr rfl) M3) (k_V fun M4 => ?_)
    refine tq_aload_n 1 (E := E_BT_town d) (pc := 34) (cks_at k_BT_town 18 rfl rfl) rfl ?_
    refine tq_getR (j := 39) (E := E_BT_town d) (pc := 35) (cks_at k_BT_town 19 rfl rfl) fo_BT_40 so_0 rfl sp_0_4 ?_
    refine tq_V0 (E := E_BT_town d) (pc := 38) (cks_at k_BT_town 20 rfl rfl) mk_Now_begin lk_BT_123 rc_39 (Nat.le_of_ble_eq_true rfl) (c_Now_begin (d + 127) M4) (k_V fun M5 => ?_)
    refine tq_aload_n 1 (E := E_BT_town d) (pc := 41) (cks_at k_BT_town 21 rfl rfl) rfl ?_
    refine tq_getR (j := 46) (E := E_BT_town d) (pc := 42) (cks_at k_BT_town 22 rfl rfl) fo_BT_49 so_0 rfl sp_0_5 ?_
    refine tq_V0 (E := E_BT_town d) (pc := 45) (cks_at k_BT_town 23 rfl rfl) mk_Widths_forget lk_BT_126 rc_46 (Nat.le_of_ble_eq_true rfl) (c_Widths_forget (d + 128) M5) (k_V fun M6 => ?_)
    refine tq_aload_n 1 (E := E_BT_town d) (pc := 48) (cks_at k_BT_town 24 rfl rfl) rfl ?_
    refine tq_getR (j := 64) (E := E_BT_town d) (pc := 49) (cks_at k_BT_town 25 rfl rfl) fo_BT_74 so_0 rfl sp_0_8 ?_
    refine tq_iconst (E := E_BT_town d) (pc := 52) (cks_at k_BT_town 26 rfl rfl) ?_
    refine tq_putI (E := E_BT_town d) (pc := 53) (cks_at k_BT_town 27 rfl rfl) fo_BT_129 so_64 rfl po_6_6 (fun M7 => ?_)
    refine tq_iload_n 0 (E := E_BT_town d) (pc := 56) (cks_at k_BT_town 28 rfl rfl) rfl ?_
    exact tq_iret (E := E_BT_town d) (pc := 57) (cks_at k_BT_town 29 rfl rfl) rfl
  · refine tq_aload_n 1 (E := E_BT_town d) (pc := 17) (cks_at k_BT_town 9 rfl rfl) rfl ?_
    refine tq_iconst (E := E_BT_town d) (pc := 18) (cks_at k_BT_town 10 rfl rfl) ?_
    refine tq_V1 (E := E_BT_town d) (pc := 19) (cks_at k_BT_town 11 rfl rfl) mk_BT_refused lk_BT_105 rc_0 (Nat.le_of_ble_eq_true rfl) (c_BT_refused (d + 127) 1 M3) (k_I fun r9 M8 => ?_)
    exact tq_iret (E := E_BT_town d) (pc := 22) (cks_at k_BT_town 12 rfl rfl) rfl
abbrev E_M_end (d : Nat) : Ev := (Ct (d + 0), "BreathTownModel", prog_14_method_4_code, 2, False, 0, (fun _ => 0), (Option.some Jvm.ClassFile.FieldType.boolean))
def f_M_end_J12 (M : Mm) : Option (Int × Mm) :=
  bd (up M 80 0 ((M 80 0) + 1)) (fun M1 =>
  some (0, M1))
set_option maxRecDepth 20000 in
set_option maxHeartbeats 4000000 in
theorem w_M_end_J12 (d : Nat) (M : Mm) : T (E_M_end d) injI 12 [(0, .ref 78)] [] M (f_M_end_J12 M) := by
  unfold f_M_end_J12
  refine tq_aload_n 0 (E := E_M_end d) (pc := 12) (cks_at k_M_end 6 rfl rfl) rfl ?_
  refine tq_getR (j := 80) (E := E_M_end d) (pc := 13) (cks_at k_M_end 7 rfl rfl) fo_M_17 so_78 rfl sp_78_9 ?_
  refine tq_iconst (E := E_M_end d) (pc := 16) (cks_at k_M_end 8 rfl rfl) ?_
  refine tq_dup2 (E := E_M_end d) (pc := 17) (cks_at k_M_end 9 rfl rfl) rfl rfl ?_
  refine tq_ialdC 0 (E := E_M_end d) (pc := 18) (cks_at k_M_end 10 rfl rfl) sa_80 sn_80 (by decide) ?_
  refine tq_iconst (E := E_M_end d) (pc := 19) (cks_at k_M_end 11 rfl rfl) ?_
  refine tq_iadd (E := E_M_end d) (pc := 20) (cks_at k_M_end 12 rfl rfl) ?_
  refine tq_iastC (E := E_M_end d) (pc := 21) 0 (cks_at k_M_end 13 rfl rfl) sa_80 sn_80 (by decide) (fun M1 => ?_)
  refine tq_iconst (E := E_M_end d) (pc := 22) (cks_at k_M_end 14 rfl rfl) ?_
  exact tq_zretC (E := E_M_end d) (pc := 23) (cks_at k_M_end 15 rfl rfl) rfl (by decide)
def f_M_end (v1 : Int) (M : Mm) : Option (Int × Mm) :=
  if i32 v1 < 0 then
    f_M_end_J12 M
  else
    if i32 v1 ≤ i32 (M 78 1) then
      bd (up M 78 1 v1) (fun M2 =>
      some (1, M2))
    else
      f_M_end_J12 M
set_option maxRecDepth 20000 in
set_option maxHeartbeats 4000000 in
theorem c_M_end (d : Nat) (v1 : Int) (M : Mm) (Q : Option Value → Mm → Prop) (h : sat injI (f_M_end v1 M) Q) : Ct (d + 1) y_M_end [.ref 78, vI v1] M Q := by
  refine ct_in (d := d + 0) mk_M_end (Nat.le_of_ble_eq_true rfl) (?_ : T (E_M_end d) injI 0 [(0, .ref 78), (1, vI v1)] [] M (f_M_end v1 M)) h
  unfold f_M_end
  refine tq_iload_n 1 (E := E_M_end d) (pc := 0) (cks_at k_M_end 0 rfl rfl) rfl ?_
  refine tq_if_lt (E := E_M_end d) (pc := 1) (tgt := 12) (cks_at k_M_end 1 rfl rfl) (by decide) ?_ ?_
  · exact tq_sub [0] rfl (w_M_end_J12 d M)
  · refine tq_iload_n 1 (E := E_M_end d) (pc := 4) (cks_at k_M_end 2 rfl rfl) rfl ?_
    refine tq_aload_n 0 (E := E_M_end d) (pc := 5) (cks_at k_M_end 3 rfl rfl) rfl ?_
    refine tq_getI (E := E_M_end d) (pc := 6) (cks_at k_M_end 4 rfl rfl) fo_M_222 so_78 rfl (by decide) ?_
    refine tq_icmp_le (E := E_M_end d) (pc := 9) (tgt := 24) (cks_at k_M_end 5 rfl rfl) (by decide) ?_ ?_
    · refine tq_aload_n 0 (E := E_M_end d) (pc := 24) (cks_at k_M_end 16 rfl rfl) rfl ?_
      refine tq_iload_n 1 (E := E_M_end d) (pc := 25) (cks_at k_M_end 17 rfl rfl) rfl ?_
      refine tq_putI (E := E_M_end d) (pc := 26) (cks_at k_M_end 18 rfl rfl) fo_M_222 so_78 rfl po_12_1 (fun M2 => ?_)
      refine tq_iconst (E := E_M_end d) (pc := 29) (cks_at k_M_end 19 rfl rfl) ?_
      exact tq_zretC (E := E_M_end d) (pc := 30) (cks_at k_M_end 20 rfl rfl) rfl (by decide)
    · exact tq_sub [0] rfl (w_M_end_J12 d M)
abbrev E_BT_end (d : Nat) : Ev := (Ct (d + 2), "BreathTown", prog_1_method_3_code, 2, False, 0, (fun _ => 0), (Option.some Jvm.ClassFile.FieldType.boolean))
def f_BT_end (v1 : Int) (M : Mm) : Option (Int × Mm) :=
  if i32 v1 < 0 then
    bI (f_BT_refused 0 M) (fun r2 M1 =>
    some (0, M1))
  else
    if i32 v1 ≤ i32 (M 1 1) then
      bd (up M 1 1 v1) (fun M3 =>
      some (1, M3))
    else
      bI (f_BT_refused 0 M) (fun r5 M4 =>
      some (0, M4))
set_option maxRecDepth 20000 in
set_option maxHeartbeats 4000000 in
theorem c_BT_end (d : Nat) (v1 : Int) (M : Mm) (Q : Option Value → Mm → Prop) (h : sat injI (f_BT_end v1 M) Q) : Ct (d + 3) y_BT_end [.ref 0, vI v1] M Q := by
  refine ct_in (d := d + 2) mk_BT_end (Nat.le_of_ble_eq_true rfl) (?_ : T (E_BT_end d) injI 0 [(0, .ref 0), (1, vI v1)] [] M (f_BT_end v1 M)) h
  unfold f_BT_end
  refine tq_iload_n 1 (E := E_BT_end d) (pc := 0) (cks_at k_BT_end 0 rfl rfl) rfl ?_
  refine tq_if_lt (E := E_BT_end d) (pc := 1) (tgt := 15) (cks_at k_BT_end 1 rfl rfl) (by decide) ?_ ?_
  · refine tq_aload_n 0 (E := E_BT_end d) (pc := 15) (cks_at k_BT_end 7 rfl rfl) rfl ?_
    refine tq_iconst (E := E_BT_end d) (pc := 16) (cks_at k_BT_end 8 rfl rfl) ?_
    refine tq_V1 (E := E_BT_end d) (pc := 17) (cks_at k_BT_end 9 rfl rfl) mk_BT_refused lk_BT_105 rc_0 (Nat.le_of_ble_eq_true rfl) (c_BT_refused (d + 0) 0 M) (k_I fun r2 M1 => ?_)
    refine tq_pop (E := E_BT_end d) (pc := 20) (cks_at k_BT_end 10 rfl rfl) rfl ?_
    refine tq_iconst (E := E_BT_end d) (pc := 21) (cks_at k_BT_end 11 rfl rfl) ?_
    exact tq_zretC (E := E_BT_end d) (pc := 22) (cks_at k_BT_end 12 rfl rfl) rfl (by decide)
  · refine tq_iload_n 1 (E := E_BT_end d) (pc := 4) (cks_at k_BT_end 2 rfl rfl) rfl ?_
    refine tq_aload_n 0 (E := E_BT_end d) (pc := 5) (cks_at k_BT_end 3 rfl rfl) rfl ?_
    refine tq_getR (j := 1) (E := E_BT_end d) (pc := 6) (cks_at k_BT_end 4 rfl rfl) fo_BT_10 so_0 rfl sp_0_0 ?_
    refine tq_getI (E := E_BT_end d) (pc := 9) (cks_at k_BT_end 5 rfl rfl) fo_BT_102 so_1 rfl (by decide) ?_
    refine tq_icmp_le (E := E_BT_end d) (pc := 12) (tgt := 23) (cks_at k_BT_end 6 rfl rfl) (by decide) ?_ ?_
    · refine tq_aload_n 0 (E := E_BT_end d) (pc := 23) (cks_at k_BT_end 13 rfl rfl) rfl ?_
      refine tq_getR (j := 1) (E := E_BT_end d) (pc := 24) (cks_at k_BT_end 14 rfl rfl) fo_BT_10 so_0 rfl sp_0_0 ?_
      refine tq_iload_n 1 (E := E_BT_end d) (pc := 27) (cks_at k_BT_end 15 rfl rfl) rfl ?_
      refine tq_putI (E := E_BT_end d) (pc := 28) (cks_at k_BT_end 16 rfl rfl) fo_BT_102 so_1 rfl po_5_1 (fun M3 => ?_)
      refine tq_iconst (E := E_BT_end d) (pc := 31) (cks_at k_BT_end 17 rfl rfl) ?_
      exact tq_zretC (E := E_BT_end d) (pc := 32) (cks_at k_BT_end 18 rfl rfl) rfl (by decide)
    · refine tq_aload_n 0 (E := E_BT_end d) (pc := 15) (cks_at k_BT_end 7 rfl rfl) rfl ?_
      refine tq_iconst (E := E_BT_end d) (pc := 16) (cks_at k_BT_end 8 rfl rfl) ?_
      refine tq_V1 (E := E_BT_end d) (pc := 17) (cks_at k_BT_end 9 rfl rfl) mk_BT_refused lk_BT_105 rc_0 (Nat.le_of_ble_eq_true rfl) (c_BT_refused (d + 0) 0 M) (k_I fun r5 M4 => ?_)
      refine tq_pop (E := E_BT_end d) (pc := 20) (cks_at k_BT_end 10 rfl rfl) rfl ?_
      refine tq_iconst (E := E_BT_end d) (pc := 21) (cks_at k_BT_end 11 rfl rfl) ?_
      exact tq_zretC (E := E_BT_end d) (pc := 22) (cks_at k_BT_end 12 rfl rfl) rfl (by decide)
abbrev E_M_feed (d : Nat) : Ev := (Ct (d + 0), "BreathTownModel", prog_14_method_3_code, 8, False, 0, (fun _ => 0), (Option.some Jvm.ClassFile.FieldType.int))
def f_M_feed_J81 (kH : Int → Int → Int → Int → Int → Int → Mm → Option (Int × Mm)) (v1 v2 v3 v4 v5 v6 s0 : Int) (M : Mm) : Option (Int × Mm) :=
  gd (0 ≤ i32 (M 78 1) ∧ i32 (M 78 1) < ((1600 : Nat) : Int)) <|
  bd (up M 79 (i32 (M 78 1)).toNat (and32 (shr32 s0 (8 * (3 - ((i32 v6).tmod (i32 4))))) 255)) (fun M1 =>
  bd (up M1 78 1 ((M1 78 1) + 1)) (fun M2 =>
  kH v1 v2 v3 v4 v5 (v6 + 1) M2))
set_option maxRecDepth 20000 in
set_option maxHeartbeats 4000000 in
theorem w_M_feed_J81 (d : Nat) (kH : Int → Int → Int → Int → Int → Int → Mm → Option (Int × Mm)) (hkH : ∀ (v1 v2 v3 v4 v5 v6 : Int) (M : Mm), T (E_M_feed d) injI 28 [(0, .ref 78), (1, vI v1), (2, vI v2), (3, vI v3), (4, vI v4), (5, vI v5), (6, vI v6)] [] M (kH v1 v2 v3 v4 v5 v6 M)) (v1 v2 v3 v4 v5 v6 s0 : Int) (M : Mm) : T (E_M_feed d) injI 81 [(0, .ref 78), (1, vI v1), (2, vI v2), (3, vI v3), (4, vI v4), (5, vI v5), (6, vI v6)] [vI s0] M (f_M_feed_J81 kH v1 v2 v3 v4 v5 v6 s0 M) := by
  unfold f_M_feed_J81
  refine tq_istore (E := E_M_feed d) (pc := 81) (cks_at k_M_feed 42 rfl rfl) (show 7 < 8 by decide) rfl ?_
  refine tq_aload_n 1 (E := E_M_feed d) (pc := 83) (cks_at k_M_feed 43 rfl rfl) rfl ?_
  refine tq_getR (j := 79) (E := E_M_feed d) (pc := 84) (cks_at k_M_feed 44 rfl rfl) fo_M_7 so_78 rfl sp_78_0 ?_
  refine tq_aload_n 1 (E := E_M_feed d) (pc := 87) (cks_at k_M_feed 45 rfl rfl) rfl ?_
  refine tq_getI (E := E_M_feed d) (pc := 88) (cks_at k_M_feed 46 rfl rfl) fo_M_222 so_78 rfl (by decide) ?_
  refine tq_iload 0 (E := E_M_feed d) (pc := 91) (cks_at k_M_feed 47 rfl rfl) rfl ?_
  refine tq_bipush (E := E_M_feed d) (pc := 93) (cks_at k_M_feed 48 rfl rfl) (by decide) (by decide) ?_
  refine tq_iconst (E := E_M_feed d) (pc := 95) (cks_at k_M_feed 49 rfl rfl) ?_
  refine tq_iload 7 (E := E_M_feed d) (pc := 96) (cks_at k_M_feed 50 rfl rfl) rfl ?_
  refine tq_iconst (E := E_M_feed d) (pc := 98) (cks_at k_M_feed 51 rfl rfl) ?_
  refine tq_iremC (E := E_M_feed d) (pc := 99) (cks_at k_M_feed 52 rfl rfl) (by decide) ?_
  refine tq_isub (E := E_M_feed d) (pc := 100) (cks_at k_M_feed 53 rfl rfl) ?_
  refine tq_imul (E := E_M_feed d) (pc := 101) (cks_at k_M_feed 54 rfl rfl) ?_
  refine tq_ishr (E := E_M_feed d) (pc := 102) (cks_at k_M_feed 55 rfl rfl) ?_
  refine tq_sipush (E := E_M_feed d) (pc := 103) (cks_at k_M_feed 56 rfl rfl) (by decide) (by decide) ?_
  refine tq_iand (E := E_M_feed d) (pc := 106) (cks_at k_M_feed 57 rfl rfl) ?_
  refine tq_iast (E := E_M_feed d) (pc := 107) (cks_at k_M_feed 58 rfl rfl) sa_79 sn_79 (fun M1 => ?_)
  refine tq_aload_n 1 (E := E_M_feed d) (pc := 108) (cks_at k_M_feed 59 rfl rfl) rfl ?_
  refine tq_dup (E := E_M_feed d) (pc := 109) (cks_at k_M_feed 60 rfl rfl) rfl ?_
  refine tq_getI (E := E_M_feed d) (pc := 110) (cks_at k_M_feed 61 rfl rfl) fo_M_222 so_78 rfl (by decide) ?_
  refine tq_iconst (E := E_M_feed d) (pc := 113) (cks_at k_M_feed 62 rfl rfl) ?_
  refine tq_iadd (E := E_M_feed d) (pc := 114) (cks_at k_M_feed 63 rfl rfl) ?_
  refine tq_putI (E := E_M_feed d) (pc := 115) (cks_at k_M_feed 64 rfl rfl) fo_M_222 so_78 rfl po_12_1 (fun M2 => ?_)
  refine tq_iinc 7 (E := E_M_feed d) (pc := 118) (cks_at k_M_feed 65 rfl rfl) rfl (show 6 < 8 by decide) rfl ?_
  refine tq_goto (tgt := 28) (E := E_M_feed d) (pc := 121) (cks_at k_M_feed 66 rfl rfl) (by decide) ?_
  exact tq_sub [2, 3, 4, 5, 6, 7, 0] rfl (hkH v1 v2 v3 v4 v5 (v6 + 1) M2)
def f_M_feed_B28 (kH : Int → Int → Int → Int → Int → Int → Mm → Option (Int × Mm)) (v1 v2 v3 v4 v5 v6 : Int) (M : Mm) : Option (Int × Mm) :=
  if i32 20 ≤ i32 v6 then
    some (M 78 1, M)
  else
    if i32 4 ≤ i32 v6 then
      if i32 8 ≤ i32 v6 then
        if i32 12 ≤ i32 v6 then
          if i32 16 ≤ i32 v6 then
            f_M_feed_J81 kH v1 v2 v3 v4 v5 v6 v5 M
          else
            f_M_feed_J81 kH v1 v2 v3 v4 v5 v6 v4 M
        else
          f_M_feed_J81 kH v1 v2 v3 v4 v5 v6 v3 M
      else
        f_M_feed_J81 kH v1 v2 v3 v4 v5 v6 v2 M
    else
      f_M_feed_J81 kH v1 v2 v3 v4 v5 v6 v1 M
set_option maxRecDepth 20000 in
set_option maxHeartbeats 4000000 in
theorem w_M_feed_B28 (d : Nat) (kH : Int → Int → Int → Int → Int → Int → Mm → Option (Int × Mm)) (hkH : ∀ (v1 v2 v3 v4 v5 v6 : Int) (M : Mm), T (E_M_feed d) injI 28 [(0, .ref 78), (1, vI v1), (2, vI v2), (3, vI v3), (4, vI v4), (5, vI v5), (6, vI v6)] [] M (kH v1 v2 v3 v4 v5 v6 M)) (v1 v2 v3 v4 v5 v6 : Int) (M : Mm) : T (E_M_feed d) injI 28 [(0, .ref 78), (1, vI v1), (2, vI v2), (3, vI v3), (4, vI v4), (5, vI v5), (6, vI v6)] [] M (f_M_feed_B28 kH v1 v2 v3 v4 v5 v6 M) := by
  unfold f_M_feed_B28
  refine tq_iload 6 (E := E_M_feed d) (pc := 28) (cks_at k_M_feed 18 rfl rfl) rfl ?_
  refine tq_bipush (E := E_M_feed d) (pc := 30) (cks_at k_M_feed 19 rfl rfl) (by decide) (by decide) ?_
  refine tq_icmp_ge (E := E_M_feed d) (pc := 32) (tgt := 124) (cks_at k_M_feed 20 rfl rfl) (by decide) ?_ ?_
  · refine tq_aload_n 0 (E := E_M_feed d) (pc := 124) (cks_at k_M_feed 67 rfl rfl) rfl ?_
    refine tq_getI (E := E_M_feed d) (pc := 125) (cks_at k_M_feed 68 rfl rfl) fo_M_222 so_78 rfl (by decide) ?_
    exact tq_iret (E := E_M_feed d) (pc := 128) (cks_at k_M_feed 69 rfl rfl) rfl
  · refine tq_iload 6 (E := E_M_feed d) (pc := 35) (cks_at k_M_feed 21 rfl rfl) rfl ?_
    refine tq_iconst (E := E_M_feed d) (pc := 37) (cks_at k_M_feed 22 rfl rfl) ?_
    refine tq_icmp_ge (E := E_M_feed d) (pc := 38) (tgt := 45) (cks_at k_M_feed 23 rfl rfl) (by decide) ?_ ?_
    · refine tq_iload 6 (E := E_M_feed d) (pc := 45) (cks_at k_M_feed 26 rfl rfl) rfl ?_
      refine tq_bipush (E := E_M_feed d) (pc := 47) (cks_at k_M_feed 27 rfl rfl) (by decide) (by decide) ?_
      refine tq_icmp_ge (E := E_M_feed d) (pc := 49) (tgt := 56) (cks_at k_M_feed 28 rfl rfl) (by decide) ?_ ?_
      · refine tq_iload 6 (E := E_M_feed d) (pc := 56) (cks_at k_M_feed 31 rfl rfl) rfl ?_
        refine tq_bipush (E := E_M_feed d) (pc := 58) (cks_at k_M_feed 32 rfl rfl) (by decide) (by decide) ?_
        refine tq_icmp_ge (E := E_M_feed d) (pc := 60) (tgt := 67) (cks_at k_M_feed 33 rfl rfl) (by decide) ?_ ?_
        · refine tq_iload 6 (E := E_M_feed d) (pc := 67) (cks_at k_M_feed 36 rfl rfl) rfl ?_
          refine tq_bipush (E := E_M_feed d) (pc := 69) (cks_at k_M_feed 37 rfl rfl) (by decide) (by decide) ?_
          refine tq_icmp_ge (E := E_M_feed d) (pc := 71) (tgt := 79) (cks_at k_M_feed 38 rfl rfl) (by decide) ?_ ?_
          · refine tq_iload 5 (E := E_M_feed d) (pc := 79) (cks_at k_M_feed 41 rfl rfl) rfl ?_
            exact tq_sub [0, 1, 2, 3, 4, 5, 6] rfl (w_M_feed_J81 d kH hkH v1 v2 v3 v4 v5 v6 v5 M)
          · refine tq_iload 4 (E := E_M_feed d) (pc := 74) (cks_at k_M_feed 39 rfl rfl) rfl ?_
            refine tq_goto (tgt := 81) (E := E_M_feed d) (pc := 76) (cks_at k_M_feed 40 rfl rfl) (by decide) ?_
            exact tq_sub [0, 1, 2, 3, 4, 5, 6] rfl (w_M_feed_J81 d kH hkH v1 v2 v3 v4 v5 v6 v4 M)
        · refine tq_iload_n 3 (E := E_M_feed d) (pc := 63) (cks_at k_M_feed 34 rfl rfl) rfl ?_
          refine tq_goto (tgt := 81) (E := E_M_feed d) (pc := 64) (cks_at k_M_feed 35 rfl rfl) (by decide) ?_
          exact tq_sub [0, 1, 2, 3, 4, 5, 6] rfl (w_M_feed_J81 d kH hkH v1 v2 v3 v4 v5 v6 v3 M)
      · refine tq_iload_n 2 (E := E_M_feed d) (pc := 52) (cks_at k_M_feed 29 rfl rfl) rfl ?_
        refine tq_goto (tgt := 81) (E := E_M_feed d) (pc := 53) (cks_at k_M_feed 30 rfl rfl) (by decide) ?_
        exact tq_sub [0, 1, 2, 3, 4, 5, 6] rfl (w_M_feed_J81 d kH hkH v1 v2 v3 v4 v5 v6 v2 M)
    · refine tq_iload_n 1 (E := E_M_feed d) (pc := 41) (cks_at k_M_feed 24 rfl rfl) rfl ?_
      refine tq_goto (tgt := 81) (E := E_M_feed d) (pc := 42) (cks_at k_M_feed 25 rfl rfl) (by decide) ?_
      exact tq_sub [0, 1, 2, 3, 4, 5, 6] rfl (w_M_feed_J81 d kH hkH v1 v2 v3 v4 v5 v6 v1 M)
def f_M_feed_L28 : Nat → Int × Int × Int × Int × Int × Int × Mm → Option (Int × Mm) := lp fun kH s => f_M_feed_B28 (fun v1 v2 v3 v4 v5 v6 M => kH (v1, v2, v3, v4, v5, v6, M)) s.1 s.2.1 s.2.2.1 s.2.2.2.1 s.2.2.2.2.1 s.2.2.2.2.2.1 s.2.2.2.2.2.2
set_option maxRecDepth 20000 in
set_option maxHeartbeats 4000000 in
theorem w_M_feed_L28 (d : Nat) (n : Nat) (s : Int × Int × Int × Int × Int × Int × Mm) : T (E_M_feed d) injI 28 [(0, .ref 78), (1, vI s.1), (2, vI s.2.1), (3, vI s.2.2.1), (4, vI s.2.2.2.1), (5, vI s.2.2.2.2.1), (6, vI s.2.2.2.2.2.1)] [] s.2.2.2.2.2.2 (f_M_feed_L28 n s) :=
  tq_lp (fun s => [(0, .ref 78), (1, vI s.1), (2, vI s.2.1), (3, vI s.2.2.1), (4, vI s.2.2.2.1), (5, vI s.2.2.2.2.1), (6, vI s.2.2.2.2.2.1)]) (fun s => s.2.2.2.2.2.2) (fun kH hH s => w_M_feed_B28 d (fun v1 v2 v3 v4 v5 v6 M => kH (v1, v2, v3, v4, v5, v6, M)) (fun v1 v2 v3 v4 v5 v6 M => hH (v1, v2, v3, v4, v5, v6, M)) s.1 s.2.1 s.2.2.1 s.2.2.2.1 s.2.2.2.2.1 s.2.2.2.2.2.1 s.2.2.2.2.2.2) n s
def f_M_feed (v1 : Int) (v2 : Int) (v3 : Int) (v4 : Int) (v5 : Int) (M : Mm) : Option (Int × Mm) :=
  if i32 ((M 78 1) + 20) ≤ i32 1600 then
    f_M_feed_L28 FU (v1, v2, v3, v4, v5, 0, M)
  else
    bd (up M 80 0 ((M 80 0) + 1)) (fun M3 =>
    some ((-1), M3))
set_option maxRecDepth 20000 in
set_option maxHeartbeats 4000000 in
theorem c_M_feed (d : Nat) (v1 : Int) (v2 : Int) (v3 : Int) (v4 : Int) (v5 : Int) (M : Mm) (Q : Option Value → Mm → Prop) (h : sat injI (f_M_feed v1 v2 v3 v4 v5 M) Q) : Ct (d + 1) y_M_feed [.ref 78, vI v1, vI v2, vI v3, vI v4, vI v5] M Q := by
  refine ct_in (d := d + 0) mk_M_feed (Nat.le_of_ble_eq_true rfl) (?_ : T (E_M_feed d) injI 0 [(0, .ref 78), (1, vI v1), (2, vI v2), (3, vI v3), (4, vI v4), (5, vI v5)] [] M (f_M_feed v1 v2 v3 v4 v5 M)) h
  unfold f_M_feed
  refine tq_aload_n 0 (E := E_M_feed d) (pc := 0) (cks_at k_M_feed 0 rfl rfl) rfl ?_
  refine tq_getI (E := E_M_feed d) (pc := 1) (cks_at k_M_feed 1 rfl rfl) fo_M_222 so_78 rfl (by decide) ?_
  refine tq_bipush (E := E_M_feed d) (pc := 4) (cks_at k_M_feed 2 rfl rfl) (by decide) (by decide) ?_
  refine tq_iadd (E := E_M_feed d) (pc := 6) (cks_at k_M_feed 3 rfl rfl) ?_
  refine tq_sipush (E := E_M_feed d) (pc := 7) (cks_at k_M_feed 4 rfl rfl) (by decide) (by decide) ?_
  refine tq_icmp_le (E := E_M_feed d) (pc := 10) (tgt := 25) (cks_at k_M_feed 5 rfl rfl) (by decide) ?_ ?_
  · refine tq_iconst (E := E_M_feed d) (pc := 25) (cks_at k_M_feed 16 rfl rfl) ?_
    refine tq_istore (E := E_M_feed d) (pc := 26) (cks_at k_M_feed 17 rfl rfl) (show 6 < 8 by decide) rfl ?_
    exact tq_sub [1, 2, 3, 4, 5, 6, 0] rfl (w_M_feed_L28 d FU (v1, v2, v3, v4, v5, 0, M))
  · refine tq_aload_n 0 (E := E_M_feed d) (pc := 13) (cks_at k_M_feed 6 rfl rfl) rfl ?_
    refine tq_getR (j := 80) (E := E_M_feed d) (pc := 14) (cks_at k_M_feed 7 rfl rfl) fo_M_17 so_78 rfl sp_78_9 ?_
    refine tq_iconst (E := E_M_feed d) (pc := 17) (cks_at k_M_feed 8 rfl rfl) ?_
    refine tq_dup2 (E := E_M_feed d) (pc := 18) (cks_at k_M_feed 9 rfl rfl) rfl rfl ?_
    refine tq_ialdC 0 (E := E_M_feed d) (pc := 19) (cks_at k_M_feed 10 rfl rfl) sa_80 sn_80 (by decide) ?_
    refine tq_iconst (E := E_M_feed d) (pc := 20) (cks_at k_M_feed 11 rfl rfl) ?_
    refine tq_iadd (E := E_M_feed d) (pc := 21) (cks_at k_M_feed 12 rfl rfl) ?_
    refine tq_iastC (E := E_M_feed d) (pc := 22) 0 (cks_at k_M_feed 13 rfl rfl) sa_80 sn_80 (by decide) (fun M3 => ?_)
    refine tq_iconst (E := E_M_feed d) (pc := 23) (cks_at k_M_feed 14 rfl rfl) ?_
    exact tq_iret (E := E_M_feed d) (pc := 24) (cks_at k_M_feed 15 rfl rfl) rfl
abbrev E_Scan_append (d : Nat) : Ev := (Ct (d + 1), "BreathTown$Scan", prog_7_method_2_code, 3, False, 0, (fun _ => 0), (Option.none : Option Jvm.ClassFile.FieldType))
def f_Scan_append_B3 (kH : Int → Int → Mm → Option (Mm)) (v1 v2 : Int) (M : Mm) : Option (Mm) :=
  if i32 v2 < 0 then
    some M
  else
    bV (f_BT_setCell 2 (M 1 1) (and32 (shr32 v1 v2) 255) M) (fun M1 =>
    bd (up M1 1 1 ((M1 1 1) + 1)) (fun M2 =>
    kH v1 (v2 + (-8)) M2))
set_option maxRecDepth 20000 in
set_option maxHeartbeats 4000000 in
theorem w_Scan_append_B3 (d : Nat) (kH : Int → Int → Mm → Option (Mm)) (hkH : ∀ (v1 v2 : Int) (M : Mm), T (E_Scan_append d) injV 3 [(0, .ref 1), (1, vI v1), (2, vI v2)] [] M (kH v1 v2 M)) (v1 v2 : Int) (M : Mm) : T (E_Scan_append d) injV 3 [(0, .ref 1), (1, vI v1), (2, vI v2)] [] M (f_Scan_append_B3 kH v1 v2 M) := by
  unfold f_Scan_append_B3
  refine tq_iload_n 2 (E := E_Scan_append d) (pc := 3) (cks_at k_Scan_append 2 rfl rfl) rfl ?_
  refine tq_if_lt (E := E_Scan_append d) (pc := 4) (tgt := 41) (cks_at k_Scan_append 3 rfl rfl) (by decide) ?_ ?_
  · exact tq_vret (E := E_Scan_append d) (pc := 41) (cks_at k_Scan_append 22 rfl rfl) rfl
  · refine tq_aload_n 0 (E := E_Scan_append d) (pc := 7) (cks_at k_Scan_append 4 rfl rfl) rfl ?_
    refine tq_getR (j := 2) (E := E_Scan_append d) (pc := 8) (cks_at k_Scan_append 5 rfl rfl) fo_Scan_9 so_1 rfl sp_1_0 ?_
    refine tq_aload_n 0 (E := E_Scan_append d) (pc := 11) (cks_at k_Scan_append 6 rfl rfl) rfl ?_
    refine tq_getI (E := E_Scan_append d) (pc := 12) (cks_at k_Scan_append 7 rfl rfl) fo_Scan_15 so_1 rfl (by decide) ?_
    refine tq_iload_n 1 (E := E_Scan_append d) (pc := 15) (cks_at k_Scan_append 8 rfl rfl) rfl ?_
    refine tq_iload_n 2 (E := E_Scan_append d) (pc := 16) (cks_at k_Scan_append 9 rfl rfl) rfl ?_
    refine tq_ishr (E := E_Scan_append d) (pc := 17) (cks_at k_Scan_append 10 rfl rfl) ?_
    refine tq_sipush (E := E_Scan_append d) (pc := 18) (cks_at k_Scan_append 11 rfl rfl) (by decide) (by decide) ?_
    refine tq_iand (E := E_Scan_append d) (pc := 21) (cks_at k_Scan_append 12 rfl rfl) ?_
    refine tq_S3 (E := E_Scan_append d) (pc := 22) (cks_at k_Scan_append 13 rfl rfl) mk_BT_setCell lk_Scan_19 (Nat.le_of_ble_eq_true rfl) (c_BT_setCell (d + 0) 2 sa_2 (M 1 1) (and32 (shr32 v1 v2) 255) M) (k_V fun M1 => ?_)
    refine tq_aload_n 0 (E := E_Scan_append d) (pc := 25) (cks_at k_Scan_append 14 rfl rfl) rfl ?_
    refine tq_dup (E := E_Scan_append d) (pc := 26) (cks_at k_Scan_append 15 rfl rfl) rfl ?_
    refine tq_getI (E := E_Scan_append d) (pc := 27) (cks_at k_Scan_append 16 rfl rfl) fo_Scan_15 so_1 rfl (by decide) ?_
    refine tq_iconst (E := E_Scan_append d) (pc := 30) (cks_at k_Scan_append 17 rfl rfl) ?_
    refine tq_iadd (E := E_Scan_append d) (pc := 31) (cks_at k_Scan_append 18 rfl rfl) ?_
    refine tq_putI (E := E_Scan_append d) (pc := 32) (cks_at k_Scan_append 19 rfl rfl) fo_Scan_15 so_1 rfl po_5_1 (fun M2 => ?_)
    refine tq_iinc 2 (E := E_Scan_append d) (pc := 35) (cks_at k_Scan_append 20 rfl rfl) rfl (show 2 < 3 by decide) rfl ?_
    refine tq_goto (tgt := 3) (E := E_Scan_append d) (pc := 38) (cks_at k_Scan_append 21 rfl rfl) (by decide) ?_
    exact tq_sub [1, 2, 0] rfl (hkH v1 (v2 + (-8)) M2)
def f_Scan_append_L3 : Nat → Int × Int × Mm → Option (Mm) := lp fun kH s => f_Scan_append_B3 (fun v1 v2 M => kH (v1, v2, M)) s.1 s.2.1 s.2.2
set_option maxRecDepth 20000 in
set_option maxHeartbeats 4000000 in
theorem w_Scan_append_L3 (d : Nat) (n : Nat) (s : Int × Int × Mm) : T (E_Scan_append d) injV 3 [(0, .ref 1), (1, vI s.1), (2, vI s.2.1)] [] s.2.2 (f_Scan_append_L3 n s) :=
  tq_lp (fun s => [(0, .ref 1), (1, vI s.1), (2, vI s.2.1)]) (fun s => s.2.2) (fun kH hH s => w_Scan_append_B3 d (fun v1 v2 M => kH (v1, v2, M)) (fun v1 v2 M => hH (v1, v2, M)) s.1 s.2.1 s.2.2) n s
def f_Scan_append (v1 : Int) (M : Mm) : Option (Mm) :=
  f_Scan_append_L3 FU (v1, 24, M)
set_option maxRecDepth 20000 in
set_option maxHeartbeats 4000000 in
theorem c_Scan_append (d : Nat) (v1 : Int) (M : Mm) (Q : Option Value → Mm → Prop) (h : sat injV (f_Scan_append v1 M) Q) : Ct (d + 2) y_Scan_append [.ref 1, vI v1] M Q := by
  refine ct_in (d := d + 1) mk_Scan_append (Nat.le_of_ble_eq_true rfl) (?_ : T (E_Scan_append d) injV 0 [(0, .ref 1), (1, vI v1)] [] M (f_Scan_append v1 M)) h
  unfold f_Scan_append
  refine tq_bipush (E := E_Scan_append d) (pc := 0) (cks_at k_Scan_append 0 rfl rfl) (by decide) (by decide) ?_
  refine tq_istore_n (E := E_Scan_append d) (pc := 2) (cks_at k_Scan_append 1 rfl rfl) (show 2 < 3 by decide) rfl ?_
  exact tq_sub [1, 2, 0] rfl (w_Scan_append_L3 d FU (v1, 24, M))
abbrev E_BT_feed (d : Nat) : Ev := (Ct (d + 2), "BreathTown", prog_1_method_2_code, 6, False, 0, (fun _ => 0), (Option.some Jvm.ClassFile.FieldType.int))
def f_BT_feed (v1 : Int) (v2 : Int) (v3 : Int) (v4 : Int) (v5 : Int) (M : Mm) : Option (Int × Mm) :=
  if i32 ((M 1 1) + 20) ≤ i32 1600 then
    bV (f_Scan_append v1 M) (fun M1 =>
    bV (f_Scan_append v2 M1) (fun M2 =>
    bV (f_Scan_append v3 M2) (fun M3 =>
    bV (f_Scan_append v4 M3) (fun M4 =>
    bV (f_Scan_append v5 M4) (fun M5 =>
    some (M5 1 1, M5))))))
  else
    bI (f_BT_refused 0 M) (fun r7 M6 =>
    some (r7, M6))
set_option maxRecDepth 20000 in
set_option maxHeartbeats 4000000 in
theorem c_BT_feed (d : Nat) (v1 : Int) (v2 : Int) (v3 : Int) (v4 : Int) (v5 : Int) (M : Mm) (Q : Option Value → Mm → Prop) (h : sat injI (f_BT_feed v1 v2 v3 v4 v5 M) Q) : Ct (d + 3) y_BT_feed [.ref 0, vI v1, vI v2, vI v3, vI v4, vI v5] M Q := by
  refine ct_in (d := d + 2) mk_BT_feed (Nat.le_of_ble_eq_true rfl) (?_ : T (E_BT_feed d) injI 0 [(0, .ref 0), (1, vI v1), (2, vI v2), (3, vI v3), (4, vI v4), (5, vI v5)] [] M (f_BT_feed v1 v2 v3 v4 v5 M)) h
  unfold f_BT_feed
  refine tq_aload_n 0 (E := E_BT_feed d) (pc := 0) (cks_at k_BT_feed 0 rfl rfl) rfl ?_
  refine tq_getR (j := 1) (E := E_BT_feed d) (pc := 1) (cks_at k_BT_feed 1 rfl rfl) fo_BT_10 so_0 rfl sp_0_0 ?_
  refine tq_getI (E := E_BT_feed d) (pc := 4) (cks_at k_BT_feed 2 rfl rfl) fo_BT_102 so_1 rfl (by decide) ?_
  refine tq_bipush (E := E_BT_feed d) (pc := 7) (cks_at k_BT_feed 3 rfl rfl) (by decide) (by decide) ?_
  refine tq_iadd (E := E_BT_feed d) (pc := 9) (cks_at k_BT_feed 4 rfl rfl) ?_
  refine tq_sipush (E := E_BT_feed d) (pc := 10) (cks_at k_BT_feed 5 rfl rfl) (by decide) (by decide) ?_
  refine tq_icmp_le (E := E_BT_feed d) (pc := 13) (tgt := 22) (cks_at k_BT_feed 6 rfl rfl) (by decide) ?_ ?_
  · refine tq_aload_n 0 (E := E_BT_feed d) (pc := 22) (cks_at k_BT_feed 11 rfl rfl) rfl ?_
    refine tq_getR (j := 1) (E := E_BT_feed d) (pc := 23) (cks_at k_BT_feed 12 rfl rfl) fo_BT_10 so_0 rfl sp_0_0 ?_
    refine tq_iload_n 1 (E := E_BT_feed d) (pc := 26) (cks_at k_BT_feed 13 rfl rfl) rfl ?_
    refine tq_V1 (E := E_BT_feed d) (pc := 27) (cks_at k_BT_feed 14 rfl rfl) mk_Scan_append lk_BT_109 rc_1 (Nat.le_of_ble_eq_true rfl) (c_Scan_append (d + 0) v1 M) (k_V fun M1 => ?_)
    refine tq_aload_n 0 (E := E_BT_feed d) (pc := 30) (cks_at k_BT_feed 15 rfl rfl) rfl ?_
    refine tq_getR (j := 1) (E := E_BT_feed d) (pc := 31) (cks_at k_BT_feed 16 rfl rfl) fo_BT_10 so_0 rfl sp_0_0 ?_
    refine tq_iload_n 2 (E := E_BT_feed d) (pc := 34) (cks_at k_BT_feed 17 rfl rfl) rfl ?_
    refine tq_V1 (E := E_BT_feed d) (pc := 35) (cks_at k_BT_feed 18 rfl rfl) mk_Scan_append lk_BT_109 rc_1 (Nat.le_of_ble_eq_true rfl) (c_Scan_append (d + 0) v2 M1) (k_V fun M2 => ?_)
    refine tq_aload_n 0 (E := E_BT_feed d) (pc := 38) (cks_at k_BT_feed 19 rfl rfl) rfl ?_
    refine tq_getR (j := 1) (E := E_BT_feed d) (pc := 39) (cks_at k_BT_feed 20 rfl rfl) fo_BT_10 so_0 rfl sp_0_0 ?_
    refine tq_iload_n 3 (E := E_BT_feed d) (pc := 42) (cks_at k_BT_feed 21 rfl rfl) rfl ?_
    refine tq_V1 (E := E_BT_feed d) (pc := 43) (cks_at k_BT_feed 22 rfl rfl) mk_Scan_append lk_BT_109 rc_1 (Nat.le_of_ble_eq_true rfl) (c_Scan_append (d + 0) v3 M2) (k_V fun M3 => ?_)
    refine tq_aload_n 0 (E := E_BT_feed d) (pc := 46) (cks_at k_BT_feed 23 rfl rfl) rfl ?_
    refine tq_getR (j := 1) (E := E_BT_feed d) (pc := 47) (cks_at k_BT_feed 24 rfl rfl) fo_BT_10 so_0 rfl sp_0_0 ?_
    refine tq_iload 4 (E := E_BT_feed d) (pc := 50) (cks_at k_BT_feed 25 rfl rfl) rfl ?_
    refine tq_V1 (E := E_BT_feed d) (pc := 52) (cks_at k_BT_feed 26 rfl rfl) mk_Scan_append lk_BT_109 rc_1 (Nat.le_of_ble_eq_true rfl) (c_Scan_append (d + 0) v4 M3) (k_V fun M4 => ?_)
    refine tq_aload_n 0 (E := E_BT_feed d) (pc := 55) (cks_at k_BT_feed 27 rfl rfl) rfl ?_
    refine tq_getR (j := 1) (E := E_BT_feed d) (pc := 56) (cks_at k_BT_feed 28 rfl rfl) fo_BT_10 so_0 rfl sp_0_0 ?_
    refine tq_iload 5 (E := E_BT_feed d) (pc := 59) (cks_at k_BT_feed 29 rfl rfl) rfl ?_
    refine tq_V1 (E := E_BT_feed d) (pc := 61) (cks_at k_BT_feed 30 rfl rfl) mk_Scan_append lk_BT_109 rc_1 (Nat.le_of_ble_eq_true rfl) (c_Scan_append (d + 0) v5 M4) (k_V fun M5 => ?_)
    refine tq_aload_n 0 (E := E_BT_feed d) (pc := 64) (cks_at k_BT_feed 31 rfl rfl) rfl ?_
    refine tq_getR (j := 1) (E := E_BT_feed d) (pc := 65) (cks_at k_BT_feed 32 rfl rfl) fo_BT_10 so_0 rfl sp_0_0 ?_
    refine tq_getI (E := E_BT_feed d) (pc := 68) (cks_at k_BT_feed 33 rfl rfl) fo_BT_102 so_1 rfl (by decide) ?_
    exact tq_iret (E := E_BT_feed d) (pc := 71) (cks_at k_BT_feed 34 rfl rfl) rfl
  · refine tq_aload_n 0 (E := E_BT_feed d) (pc := 16) (cks_at k_BT_feed 7 rfl rfl) rfl ?_
    refine tq_iconst (E := E_BT_feed d) (pc := 17) (cks_at k_BT_feed 8 rfl rfl) ?_
    refine tq_V1 (E := E_BT_feed d) (pc := 18) (cks_at k_BT_feed 9 rfl rfl) mk_BT_refused lk_BT_105 rc_0 (Nat.le_of_ble_eq_true rfl) (c_BT_refused (d + 0) 0 M) (k_I fun r7 M6 => ?_)
    exact tq_iret (E := E_BT_feed d) (pc := 21) (cks_at k_BT_feed 10 rfl rfl) rfl
abbrev E_Law_law (L : Nat) (xs : Nat → Int32) : Ev := (Ct 130, "BreathTownLaw", code, 4, True, L, xs, (Option.some Jvm.ClassFile.FieldType.boolean))
def f_Law_law_B18 (L : Nat) (xs : Nat → Int32) (kH : Int → Mm → Option (Int × Mm)) (v3 : Int) (M : Mm) : Option (Int × Mm) :=
  if i32 (((L : Int)) - 6) < i32 v3 then
    some (1, M)
  else
    gd (0 ≤ i32 v3 ∧ i32 v3 < (L : Int)) <|
    if i32 (and32 ((xs (i32 v3).toNat).toInt) 63) = 0 then
      gd (0 ≤ i32 (v3 + 1) ∧ i32 (v3 + 1) < (L : Int)) <|
      gd (0 ≤ i32 (v3 + 2) ∧ i32 (v3 + 2) < (L : Int)) <|
      gd (0 ≤ i32 (v3 + 3) ∧ i32 (v3 + 3) < (L : Int)) <|
      gd (0 ≤ i32 (v3 + 4) ∧ i32 (v3 + 4) < (L : Int)) <|
      gd (0 ≤ i32 (v3 + 5) ∧ i32 (v3 + 5) < (L : Int)) <|
      bI (f_BT_feed ((xs (i32 (v3 + 1)).toNat).toInt) ((xs (i32 (v3 + 2)).toNat).toInt) ((xs (i32 (v3 + 3)).toNat).toInt) ((xs (i32 (v3 + 4)).toNat).toInt) ((xs (i32 (v3 + 5)).toNat).toInt) M) (fun r3 M2 =>
      gd (0 ≤ i32 (v3 + 1) ∧ i32 (v3 + 1) < (L : Int)) <|
      gd (0 ≤ i32 (v3 + 2) ∧ i32 (v3 + 2) < (L : Int)) <|
      gd (0 ≤ i32 (v3 + 3) ∧ i32 (v3 + 3) < (L : Int)) <|
      gd (0 ≤ i32 (v3 + 4) ∧ i32 (v3 + 4) < (L : Int)) <|
      gd (0 ≤ i32 (v3 + 5) ∧ i32 (v3 + 5) < (L : Int)) <|
      bI (f_M_feed ((xs (i32 (v3 + 1)).toNat).toInt) ((xs (i32 (v3 + 2)).toNat).toInt) ((xs (i32 (v3 + 3)).toNat).toInt) ((xs (i32 (v3 + 4)).toNat).toInt) ((xs (i32 (v3 + 5)).toNat).toInt) M2) (fun r5 M4 =>
      if i32 r3 = i32 r5 then
        kH (v3 + 6) M4
      else
        some (0, M4)))
    else
    if i32 (and32 ((xs (i32 v3).toNat).toInt) 63) = 1 then
      gd (0 ≤ i32 (v3 + 1) ∧ i32 (v3 + 1) < (L : Int)) <|
      bI (f_BT_end ((xs (i32 (v3 + 1)).toNat).toInt) M) (fun r8 M7 =>
      gd (0 ≤ i32 (v3 + 1) ∧ i32 (v3 + 1) < (L : Int)) <|
      bI (f_M_end ((xs (i32 (v3 + 1)).toNat).toInt) M7) (fun r10 M9 =>
      if i32 r8 = i32 r10 then
        kH (v3 + 6) M9
      else
        some (0, M9)))
    else
    if i32 (and32 ((xs (i32 v3).toNat).toInt) 63) = 2 then
      bI (f_BT_town M) (fun r13 M12 =>
      bI (f_M_town M12) (fun r15 M14 =>
      if i32 r13 = i32 r15 then
        kH (v3 + 6) M14
      else
        some (0, M14)))
    else
    if i32 (and32 ((xs (i32 v3).toNat).toInt) 63) = 3 then
      gd (0 ≤ i32 (v3 + 1) ∧ i32 (v3 + 1) < (L : Int)) <|
      bI (f_BT_fault ((xs (i32 (v3 + 1)).toNat).toInt) M) (fun r18 M17 =>
      gd (0 ≤ i32 (v3 + 1) ∧ i32 (v3 + 1) < (L : Int)) <|
      bI (f_M_fault ((xs (i32 (v3 + 1)).toNat).toInt) M17) (fun r20 M19 =>
      if i32 r18 = i32 r20 then
        kH (v3 + 6) M19
      else
        some (0, M19)))
    else
    if i32 (and32 ((xs (i32 v3).toNat).toInt) 63) = 4 then
      gd (0 ≤ i32 (v3 + 1) ∧ i32 (v3 + 1) < (L : Int)) <|
      bI (f_BT_has ((xs (i32 (v3 + 1)).toNat).toInt) M) (fun r23 M22 =>
      gd (0 ≤ i32 (v3 + 1) ∧ i32 (v3 + 1) < (L : Int)) <|
      bI (f_M_has ((xs (i32 (v3 + 1)).toNat).toInt) M22) (fun r25 M24 =>
      if i32 r23 = i32 r25 then
        kH (v3 + 6) M24
      else
        some (0, M24)))
    else
    if i32 (and32 ((xs (i32 v3).toNat).toInt) 63) = 5 then
      gd (0 ≤ i32 (v3 + 1) ∧ i32 (v3 + 1) < (L : Int)) <|
      gd (0 ≤ i32 (v3 + 2) ∧ i32 (v3 + 2) < (L : Int)) <|
      gd (0 ≤ i32 (v3 + 3) ∧ i32 (v3 + 3) < (L : Int)) <|
      bI (f_BT_letter ((xs (i32 (v3 + 1)).toNat).toInt) ((xs (i32 (v3 + 2)).toNat).toInt) ((xs (i32 (v3 + 3)).toNat).toInt) M) (fun r28 M27 =>
      gd (0 ≤ i32 (v3 + 1) ∧ i32 (v3 + 1) < (L : Int)) <|
      gd (0 ≤ i32 (v3 + 2) ∧ i32 (v3 + 2) < (L : Int)) <|
      gd (0 ≤ i32 (v3 + 3) ∧ i32 (v3 + 3) < (L : Int)) <|
      bI (f_M_letter ((xs (i32 (v3 + 1)).toNat).toInt) ((xs (i32 (v3 + 2)).toNat).toInt) ((xs (i32 (v3 + 3)).toNat).toInt) M27) (fun r30 M29 =>
      if i32 r28 = i32 r30 then
        kH (v3 + 6) M29
      else
        some (0, M29)))
    else
    if i32 (and32 ((xs (i32 v3).toNat).toInt) 63) = 6 then
      gd (0 ≤ i32 (v3 + 1) ∧ i32 (v3 + 1) < (L : Int)) <|
      gd (0 ≤ i32 (v3 + 2) ∧ i32 (v3 + 2) < (L : Int)) <|
      bI (f_BT_street ((xs (i32 (v3 + 1)).toNat).toInt) ((xs (i32 (v3 + 2)).toNat).toInt) M) (fun r33 M32 =>
      gd (0 ≤ i32 (v3 + 1) ∧ i32 (v3 + 1) < (L : Int)) <|
      gd (0 ≤ i32 (v3 + 2) ∧ i32 (v3 + 2) < (L : Int)) <|
      bI (f_M_street ((xs (i32 (v3 + 1)).toNat).toInt) ((xs (i32 (v3 + 2)).toNat).toInt) M32) (fun r35 M34 =>
      if i32 r33 = i32 r35 then
        kH (v3 + 6) M34
      else
        some (0, M34)))
    else
    if i32 (and32 ((xs (i32 v3).toNat).toInt) 63) = 7 then
      gd (0 ≤ i32 (v3 + 1) ∧ i32 (v3 + 1) < (L : Int)) <|
      gd (0 ≤ i32 (v3 + 2) ∧ i32 (v3 + 2) < (L : Int)) <|
      bI (f_BT_walker ((xs (i32 (v3 + 1)).toNat).toInt) ((xs (i32 (v3 + 2)).toNat).toInt) M) (fun r38 M37 =>
      gd (0 ≤ i32 (v3 + 1) ∧ i32 (v3 + 1) < (L : Int)) <|
      gd (0 ≤ i32 (v3 + 2) ∧ i32 (v3 + 2) < (L : Int)) <|
      bI (f_M_walker ((xs (i32 (v3 + 1)).toNat).toInt) ((xs (i32 (v3 + 2)).toNat).toInt) M37) (fun r40 M39 =>
      if i32 r38 = i32 r40 then
        kH (v3 + 6) M39
      else
        some (0, M39)))
    else
    if i32 (and32 ((xs (i32 v3).toNat).toInt) 63) = 8 then
      gd (0 ≤ i32 (v3 + 1) ∧ i32 (v3 + 1) < (L : Int)) <|
      gd (0 ≤ i32 (v3 + 2) ∧ i32 (v3 + 2) < (L : Int)) <|
      bI (f_BT_width ((xs (i32 (v3 + 1)).toNat).toInt) ((xs (i32 (v3 + 2)).toNat).toInt) M) (fun r43 M42 =>
      gd (0 ≤ i32 (v3 + 1) ∧ i32 (v3 + 1) < (L : Int)) <|
      gd (0 ≤ i32 (v3 + 2) ∧ i32 (v3 + 2) < (L : Int)) <|
      bI (f_M_width ((xs (i32 (v3 + 1)).toNat).toInt) ((xs (i32 (v3 + 2)).toNat).toInt) M42) (fun r45 M44 =>
      if i32 r43 = i32 r45 then
        kH (v3 + 6) M44
      else
        some (0, M44)))
    else
    if i32 (and32 ((xs (i32 v3).toNat).toInt) 63) = 9 then
      gd (0 ≤ i32 (v3 + 1) ∧ i32 (v3 + 1) < (L : Int)) <|
      gd (0 ≤ i32 (v3 + 2) ∧ i32 (v3 + 2) < (L : Int)) <|
      gd (0 ≤ i32 (v3 + 3) ∧ i32 (v3 + 3) < (L : Int)) <|
      bI (f_BT_passes ((xs (i32 (v3 + 1)).toNat).toInt) ((xs (i32 (v3 + 2)).toNat).toInt) ((xs (i32 (v3 + 3)).toNat).toInt) M) (fun r48 M47 =>
      gd (0 ≤ i32 (v3 + 1) ∧ i32 (v3 + 1) < (L : Int)) <|
      gd (0 ≤ i32 (v3 + 2) ∧ i32 (v3 + 2) < (L : Int)) <|
      gd (0 ≤ i32 (v3 + 3) ∧ i32 (v3 + 3) < (L : Int)) <|
      bI (f_M_passes ((xs (i32 (v3 + 1)).toNat).toInt) ((xs (i32 (v3 + 2)).toNat).toInt) ((xs (i32 (v3 + 3)).toNat).toInt) M47) (fun r50 M49 =>
      if i32 r48 = i32 r50 then
        kH (v3 + 6) M49
      else
        some (0, M49)))
    else
    if i32 (and32 ((xs (i32 v3).toNat).toInt) 63) = 10 then
      gd (0 ≤ i32 (v3 + 1) ∧ i32 (v3 + 1) < (L : Int)) <|
      gd (0 ≤ i32 (v3 + 2) ∧ i32 (v3 + 2) < (L : Int)) <|
      gd (0 ≤ i32 (v3 + 3) ∧ i32 (v3 + 3) < (L : Int)) <|
      bI (f_BT_next ((xs (i32 (v3 + 1)).toNat).toInt) ((xs (i32 (v3 + 2)).toNat).toInt) ((xs (i32 (v3 + 3)).toNat).toInt) M) (fun r53 M52 =>
      gd (0 ≤ i32 (v3 + 1) ∧ i32 (v3 + 1) < (L : Int)) <|
      gd (0 ≤ i32 (v3 + 2) ∧ i32 (v3 + 2) < (L : Int)) <|
      gd (0 ≤ i32 (v3 + 3) ∧ i32 (v3 + 3) < (L : Int)) <|
      bI (f_M_next ((xs (i32 (v3 + 1)).toNat).toInt) ((xs (i32 (v3 + 2)).toNat).toInt) ((xs (i32 (v3 + 3)).toNat).toInt) M52) (fun r55 M54 =>
      if i32 r53 = i32 r55 then
        kH (v3 + 6) M54
      else
        some (0, M54)))
    else
    if i32 (and32 ((xs (i32 v3).toNat).toInt) 63) = 11 then
      gd (0 ≤ i32 (v3 + 1) ∧ i32 (v3 + 1) < (L : Int)) <|
      gd (0 ≤ i32 (v3 + 2) ∧ i32 (v3 + 2) < (L : Int)) <|
      gd (0 ≤ i32 (v3 + 3) ∧ i32 (v3 + 3) < (L : Int)) <|
      gd (0 ≤ i32 (v3 + 4) ∧ i32 (v3 + 4) < (L : Int)) <|
      bI (f_BT_often ((xs (i32 (v3 + 1)).toNat).toInt) ((xs (i32 (v3 + 2)).toNat).toInt) ((xs (i32 (v3 + 3)).toNat).toInt) ((xs (i32 (v3 + 4)).toNat).toInt) M) (fun r58 M57 =>
      gd (0 ≤ i32 (v3 + 1) ∧ i32 (v3 + 1) < (L : Int)) <|
      gd (0 ≤ i32 (v3 + 2) ∧ i32 (v3 + 2) < (L : Int)) <|
      gd (0 ≤ i32 (v3 + 3) ∧ i32 (v3 + 3) < (L : Int)) <|
      gd (0 ≤ i32 (v3 + 4) ∧ i32 (v3 + 4) < (L : Int)) <|
      bI (f_M_often ((xs (i32 (v3 + 1)).toNat).toInt) ((xs (i32 (v3 + 2)).toNat).toInt) ((xs (i32 (v3 + 3)).toNat).toInt) ((xs (i32 (v3 + 4)).toNat).toInt) M57) (fun r60 M59 =>
      if i32 r58 = i32 r60 then
        kH (v3 + 6) M59
      else
        some (0, M59)))
    else
    if i32 (and32 ((xs (i32 v3).toNat).toInt) 63) = 12 then
      gd (0 ≤ i32 (v3 + 1) ∧ i32 (v3 + 1) < (L : Int)) <|
      gd (0 ≤ i32 (v3 + 2) ∧ i32 (v3 + 2) < (L : Int)) <|
      bI (f_BT_wide ((xs (i32 (v3 + 1)).toNat).toInt) ((xs (i32 (v3 + 2)).toNat).toInt) M) (fun r63 M62 =>
      gd (0 ≤ i32 (v3 + 1) ∧ i32 (v3 + 1) < (L : Int)) <|
      gd (0 ≤ i32 (v3 + 2) ∧ i32 (v3 + 2) < (L : Int)) <|
      bI (f_M_wide ((xs (i32 (v3 + 1)).toNat).toInt) ((xs (i32 (v3 + 2)).toNat).toInt) M62) (fun r65 M64 =>
      if i32 r63 = i32 r65 then
        kH (v3 + 6) M64
      else
        some (0, M64)))
    else
    if i32 (and32 ((xs (i32 v3).toNat).toInt) 63) = 13 then
      gd (0 ≤ i32 (v3 + 1) ∧ i32 (v3 + 1) < (L : Int)) <|
      gd (0 ≤ i32 (v3 + 2) ∧ i32 (v3 + 2) < (L : Int)) <|
      bI (f_BT_way ((xs (i32 (v3 + 1)).toNat).toInt) ((xs (i32 (v3 + 2)).toNat).toInt) M) (fun r68 M67 =>
      gd (0 ≤ i32 (v3 + 1) ∧ i32 (v3 + 1) < (L : Int)) <|
      gd (0 ≤ i32 (v3 + 2) ∧ i32 (v3 + 2) < (L : Int)) <|
      bI (f_M_way ((xs (i32 (v3 + 1)).toNat).toInt) ((xs (i32 (v3 + 2)).toNat).toInt) M67) (fun r70 M69 =>
      if i32 r68 = i32 r70 then
        kH (v3 + 6) M69
      else
        some (0, M69)))
    else
    if i32 (and32 ((xs (i32 v3).toNat).toInt) 63) = 14 then
      gd (0 ≤ i32 (v3 + 1) ∧ i32 (v3 + 1) < (L : Int)) <|
      gd (0 ≤ i32 (v3 + 2) ∧ i32 (v3 + 2) < (L : Int)) <|
      bI (f_BT_arrival ((xs (i32 (v3 + 1)).toNat).toInt) ((xs (i32 (v3 + 2)).toNat).toInt) M) (fun r73 M72 =>
      gd (0 ≤ i32 (v3 + 1) ∧ i32 (v3 + 1) < (L : Int)) <|
      gd (0 ≤ i32 (v3 + 2) ∧ i32 (v3 + 2) < (L : Int)) <|
      bI (f_M_arrival ((xs (i32 (v3 + 1)).toNat).toInt) ((xs (i32 (v3 + 2)).toNat).toInt) M72) (fun r75 M74 =>
      if i32 r73 = i32 r75 then
        kH (v3 + 6) M74
      else
        some (0, M74)))
    else
    if i32 (and32 ((xs (i32 v3).toNat).toInt) 63) = 15 then
      gd (0 ≤ i32 (v3 + 1) ∧ i32 (v3 + 1) < (L : Int)) <|
      gd (0 ≤ i32 (v3 + 2) ∧ i32 (v3 + 2) < (L : Int)) <|
      bI (f_BT_stuck ((xs (i32 (v3 + 1)).toNat).toInt) ((xs (i32 (v3 + 2)).toNat).toInt) M) (fun r78 M77 =>
      gd (0 ≤ i32 (v3 + 1) ∧ i32 (v3 + 1) < (L : Int)) <|
      gd (0 ≤ i32 (v3 + 2) ∧ i32 (v3 + 2) < (L : Int)) <|
      bI (f_M_stuck ((xs (i32 (v3 + 1)).toNat).toInt) ((xs (i32 (v3 + 2)).toNat).toInt) M77) (fun r80 M79 =>
      if i32 r78 = i32 r80 then
        kH (v3 + 6) M79
      else
        some (0, M79)))
    else
    if i32 (and32 ((xs (i32 v3).toNat).toInt) 63) = 16 then
      gd (0 ≤ i32 (v3 + 1) ∧ i32 (v3 + 1) < (L : Int)) <|
      bI (f_BT_needed ((xs (i32 (v3 + 1)).toNat).toInt) M) (fun r83 M82 =>
      gd (0 ≤ i32 (v3 + 1) ∧ i32 (v3 + 1) < (L : Int)) <|
      bI (f_M_needed ((xs (i32 (v3 + 1)).toNat).toInt) M82) (fun r85 M84 =>
      if i32 r83 = i32 r85 then
        kH (v3 + 6) M84
      else
        some (0, M84)))
    else
    if i32 (and32 ((xs (i32 v3).toNat).toInt) 63) = 17 then
      gd (0 ≤ i32 (v3 + 1) ∧ i32 (v3 + 1) < (L : Int)) <|
      gd (0 ≤ i32 (v3 + 2) ∧ i32 (v3 + 2) < (L : Int)) <|
      bI (f_BT_parade ((xs (i32 (v3 + 1)).toNat).toInt) ((xs (i32 (v3 + 2)).toNat).toInt) M) (fun r88 M87 =>
      gd (0 ≤ i32 (v3 + 1) ∧ i32 (v3 + 1) < (L : Int)) <|
      gd (0 ≤ i32 (v3 + 2) ∧ i32 (v3 + 2) < (L : Int)) <|
      bI (f_M_parade ((xs (i32 (v3 + 1)).toNat).toInt) ((xs (i32 (v3 + 2)).toNat).toInt) M87) (fun r90 M89 =>
      if i32 r88 = i32 r90 then
        kH (v3 + 6) M89
      else
        some (0, M89)))
    else
    if i32 (and32 ((xs (i32 v3).toNat).toInt) 63) = 18 then
      gd (0 ≤ i32 (v3 + 1) ∧ i32 (v3 + 1) < (L : Int)) <|
      gd (0 ≤ i32 (v3 + 2) ∧ i32 (v3 + 2) < (L : Int)) <|
      bI (f_BT_rows ((xs (i32 (v3 + 1)).toNat).toInt) ((xs (i32 (v3 + 2)).toNat).toInt) M) (fun r93 M92 =>
      gd (0 ≤ i32 (v3 + 1) ∧ i32 (v3 + 1) < (L : Int)) <|
      gd (0 ≤ i32 (v3 + 2) ∧ i32 (v3 + 2) < (L : Int)) <|
      bI (f_M_rows ((xs (i32 (v3 + 1)).toNat).toInt) ((xs (i32 (v3 + 2)).toNat).toInt) M92) (fun r95 M94 =>
      if i32 r93 = i32 r95 then
        kH (v3 + 6) M94
      else
        some (0, M94)))
    else
    if i32 (and32 ((xs (i32 v3).toNat).toInt) 63) = 19 then
      gd (0 ≤ i32 (v3 + 1) ∧ i32 (v3 + 1) < (L : Int)) <|
      gd (0 ≤ i32 (v3 + 2) ∧ i32 (v3 + 2) < (L : Int)) <|
      gd (0 ≤ i32 (v3 + 3) ∧ i32 (v3 + 3) < (L : Int)) <|
      bI (f_BT_doctors ((xs (i32 (v3 + 1)).toNat).toInt) ((xs (i32 (v3 + 2)).toNat).toInt) ((xs (i32 (v3 + 3)).toNat).toInt) M) (fun r98 M97 =>
      gd (0 ≤ i32 (v3 + 1) ∧ i32 (v3 + 1) < (L : Int)) <|
      gd (0 ≤ i32 (v3 + 2) ∧ i32 (v3 + 2) < (L : Int)) <|
      gd (0 ≤ i32 (v3 + 3) ∧ i32 (v3 + 3) < (L : Int)) <|
      bI (f_M_doctors ((xs (i32 (v3 + 1)).toNat).toInt) ((xs (i32 (v3 + 2)).toNat).toInt) ((xs (i32 (v3 + 3)).toNat).toInt) M97) (fun r100 M99 =>
      if i32 r98 = i32 r100 then
        kH (v3 + 6) M99
      else
        some (0, M99)))
    else
    if i32 (and32 ((xs (i32 v3).toNat).toInt) 63) = 20 then
      gd (0 ≤ i32 (v3 + 1) ∧ i32 (v3 + 1) < (L : Int)) <|
      bI (f_BT_go ((xs (i32 (v3 + 1)).toNat).toInt) M) (fun r103 M102 =>
      gd (0 ≤ i32 (v3 + 1) ∧ i32 (v3 + 1) < (L : Int)) <|
      bI (f_M_go ((xs (i32 (v3 + 1)).toNat).toInt) M102) (fun r105 M104 =>
      if i32 r103 = i32 r105 then
        kH (v3 + 6) M104
      else
        some (0, M104)))
    else
    if i32 (and32 ((xs (i32 v3).toNat).toInt) 63) = 21 then
      gd (0 ≤ i32 (v3 + 1) ∧ i32 (v3 + 1) < (L : Int)) <|
      bI (f_BT_send ((xs (i32 (v3 + 1)).toNat).toInt) M) (fun r108 M107 =>
      gd (0 ≤ i32 (v3 + 1) ∧ i32 (v3 + 1) < (L : Int)) <|
      bI (f_M_send ((xs (i32 (v3 + 1)).toNat).toInt) M107) (fun r110 M109 =>
      if i32 r108 = i32 r110 then
        kH (v3 + 6) M109
      else
        some (0, M109)))
    else
    if i32 (and32 ((xs (i32 v3).toNat).toInt) 63) = 22 then
      gd (0 ≤ i32 (v3 + 1) ∧ i32 (v3 + 1) < (L : Int)) <|
      gd (0 ≤ i32 (v3 + 2) ∧ i32 (v3 + 2) < (L : Int)) <|
      bI (f_BT_hold ((xs (i32 (v3 + 1)).toNat).toInt) ((xs (i32 (v3 + 2)).toNat).toInt) M) (fun r113 M112 =>
      gd (0 ≤ i32 (v3 + 1) ∧ i32 (v3 + 1) < (L : Int)) <|
      gd (0 ≤ i32 (v3 + 2) ∧ i32 (v3 + 2) < (L : Int)) <|
      bI (f_M_hold ((xs (i32 (v3 + 1)).toNat).toInt) ((xs (i32 (v3 + 2)).toNat).toInt) M112) (fun r115 M114 =>
      if i32 r113 = i32 r115 then
        kH (v3 + 6) M114
      else
        some (0, M114)))
    else
    if i32 (and32 ((xs (i32 v3).toNat).toInt) 63) = 23 then
      gd (0 ≤ i32 (v3 + 1) ∧ i32 (v3 + 1) < (L : Int)) <|
      bI (f_BT_days ((xs (i32 (v3 + 1)).toNat).toInt) M) (fun r118 M117 =>
      gd (0 ≤ i32 (v3 + 1) ∧ i32 (v3 + 1) < (L : Int)) <|
      bI (f_M_days ((xs (i32 (v3 + 1)).toNat).toInt) M117) (fun r120 M119 =>
      if i32 r118 = i32 r120 then
        kH (v3 + 6) M119
      else
        some (0, M119)))
    else
    if i32 (and32 ((xs (i32 v3).toNat).toInt) 63) = 24 then
      bI (f_BT_undo M) (fun r123 M122 =>
      bI (f_M_undo M122) (fun r125 M124 =>
      if i32 r123 = i32 r125 then
        kH (v3 + 6) M124
      else
        some (0, M124)))
    else
    if i32 (and32 ((xs (i32 v3).toNat).toInt) 63) = 25 then
      gd (0 ≤ i32 (v3 + 1) ∧ i32 (v3 + 1) < (L : Int)) <|
      bI (f_BT_seed ((xs (i32 (v3 + 1)).toNat).toInt) M) (fun r128 M127 =>
      gd (0 ≤ i32 (v3 + 1) ∧ i32 (v3 + 1) < (L : Int)) <|
      bI (f_M_seed ((xs (i32 (v3 + 1)).toNat).toInt) M127) (fun r130 M129 =>
      if i32 r128 = i32 r130 then
        kH (v3 + 6) M129
      else
        some (0, M129)))
    else
    if i32 (and32 ((xs (i32 v3).toNat).toInt) 63) = 26 then
      bI (f_BT_see M) (fun r133 M132 =>
      bI (f_M_see M132) (fun r135 M134 =>
      if i32 r133 = i32 r135 then
        kH (v3 + 6) M134
      else
        some (0, M134)))
    else
    if i32 (and32 ((xs (i32 v3).toNat).toInt) 63) = 27 then
      gd (0 ≤ i32 (v3 + 1) ∧ i32 (v3 + 1) < (L : Int)) <|
      gd (0 ≤ i32 (v3 + 2) ∧ i32 (v3 + 2) < (L : Int)) <|
      bI (f_BT_shifts ((xs (i32 (v3 + 1)).toNat).toInt) ((xs (i32 (v3 + 2)).toNat).toInt) M) (fun r138 M137 =>
      gd (0 ≤ i32 (v3 + 1) ∧ i32 (v3 + 1) < (L : Int)) <|
      gd (0 ≤ i32 (v3 + 2) ∧ i32 (v3 + 2) < (L : Int)) <|
      bI (f_M_shifts ((xs (i32 (v3 + 1)).toNat).toInt) ((xs (i32 (v3 + 2)).toNat).toInt) M137) (fun r140 M139 =>
      if i32 r138 = i32 r140 then
        kH (v3 + 6) M139
      else
        some (0, M139)))
    else
    if i32 (and32 ((xs (i32 v3).toNat).toInt) 63) = 28 then
      gd (0 ≤ i32 (v3 + 1) ∧ i32 (v3 + 1) < (L : Int)) <|
      gd (0 ≤ i32 (v3 + 2) ∧ i32 (v3 + 2) < (L : Int)) <|
      bI (f_BT_telling ((xs (i32 (v3 + 1)).toNat).toInt) ((xs (i32 (v3 + 2)).toNat).toInt) M) (fun r143 M142 =>
      gd (0 ≤ i32 (v3 + 1) ∧ i32 (v3 + 1) < (L : Int)) <|
      gd (0 ≤ i32 (v3 + 2) ∧ i32 (v3 + 2) < (L : Int)) <|
      bI (f_M_telling ((xs (i32 (v3 + 1)).toNat).toInt) ((xs (i32 (v3 + 2)).toNat).toInt) M142) (fun r145 M144 =>
      if i32 r143 = i32 r145 then
        kH (v3 + 6) M144
      else
        some (0, M144)))
    else
    if i32 (and32 ((xs (i32 v3).toNat).toInt) 63) = 29 then
      bI (f_BT_ask M) (fun r148 M147 =>
      bI (f_M_ask M147) (fun r150 M149 =>
      if i32 (cmp64 r148 r150) = 0 then
        kH (v3 + 6) M149
      else
        some (0, M149)))
    else
    if i32 (and32 ((xs (i32 v3).toNat).toInt) 63) = 30 then
      bI (f_BT_image M) (fun r153 M152 =>
      bI (f_M_image M152) (fun r155 M154 =>
      if i32 r153 = i32 r155 then
        kH (v3 + 6) M154
      else
        some (0, M154)))
    else
    if i32 (and32 ((xs (i32 v3).toNat).toInt) 63) = 31 then
      gd (0 ≤ i32 (v3 + 1) ∧ i32 (v3 + 1) < (L : Int)) <|
      bI (f_BT_octet ((xs (i32 (v3 + 1)).toNat).toInt) M) (fun r158 M157 =>
      gd (0 ≤ i32 (v3 + 1) ∧ i32 (v3 + 1) < (L : Int)) <|
      bI (f_M_octet ((xs (i32 (v3 + 1)).toNat).toInt) M157) (fun r160 M159 =>
      if i32 r158 = i32 r160 then
        kH (v3 + 6) M159
      else
        some (0, M159)))
    else
    if i32 (and32 ((xs (i32 v3).toNat).toInt) 63) = 32 then
      bI (f_BT_on M) (fun r163 M162 =>
      bI (f_M_on M162) (fun r165 M164 =>
      if i32 r163 = i32 r165 then
        kH (v3 + 6) M164
      else
        some (0, M164)))
    else
    if i32 (and32 ((xs (i32 v3).toNat).toInt) 63) = 33 then
      gd (0 ≤ i32 (v3 + 1) ∧ i32 (v3 + 1) < (L : Int)) <|
      bI (f_BT_status ((xs (i32 (v3 + 1)).toNat).toInt) M) (fun r168 M167 =>
      gd (0 ≤ i32 (v3 + 1) ∧ i32 (v3 + 1) < (L : Int)) <|
      bI (f_M_status ((xs (i32 (v3 + 1)).toNat).toInt) M167) (fun r170 M169 =>
      if i32 r168 = i32 r170 then
        kH (v3 + 6) M169
      else
        some (0, M169)))
    else
    kH (v3 + 6) M
set_option maxRecDepth 20000 in
set_option maxHeartbeats 4000000 in
theorem w_Law_law_B18 (L : Nat) (xs : Nat → Int32) (kH : Int → Mm → Option (Int × Mm)) (hkH : ∀ (v3 : Int) (M : Mm), T (E_Law_law L xs) injI 18 [(0, .ref 900), (1, .ref 0), (2, .ref 78), (3, vI v3)] [] M (kH v3 M)) (v3 : Int) (M : Mm) : T (E_Law_law L xs) injI 18 [(0, .ref 900), (1, .ref 0), (2, .ref 78), (3, vI v3)] [] M (f_Law_law_B18 L xs kH v3 M) := by
  unfold f_Law_law_B18
  refine tq_iload_n 3 (E := E_Law_law L xs) (pc := 18) (cks_at k_Law_law 10 rfl rfl) rfl ?_
  refine tq_aload_n 0 (E := E_Law_law L xs) (pc := 19) (cks_at k_Law_law 11 rfl rfl) rfl ?_
  refine tq_scrN (E := E_Law_law L xs) (pc := 20) trivial (cks_at k_Law_law 12 rfl rfl) ?_
  refine tq_bipush (E := E_Law_law L xs) (pc := 21) (cks_at k_Law_law 13 rfl rfl) (by decide) (by decide) ?_
  refine tq_isub (E := E_Law_law L xs) (pc := 23) (cks_at k_Law_law 14 rfl rfl) ?_
  refine tq_icmp_gt (E := E_Law_law L xs) (pc := 24) (tgt := 1183) (cks_at k_Law_law 15 rfl rfl) (by decide) ?_ ?_
  · refine tq_iconst (E := E_Law_law L xs) (pc := 1183) (cks_at k_Law_law 813 rfl rfl) ?_
    exact tq_zretC (E := E_Law_law L xs) (pc := 1184) (cks_at k_Law_law 814 rfl rfl) rfl (by decide)
  · refine tq_aload_n 0 (E := E_Law_law L xs) (pc := 27) (cks_at k_Law_law 16 rfl rfl) rfl ?_
    refine tq_iload_n 3 (E := E_Law_law L xs) (pc := 28) (cks_at k_Law_law 17 rfl rfl) rfl ?_
    refine tq_scrL (E := E_Law_law L xs) (pc := 29) trivial (cks_at k_Law_law 18 rfl rfl) ?_
    refine tq_bipush (E := E_Law_law L xs) (pc := 30) (cks_at k_Law_law 19 rfl rfl) (by decide) (by decide) ?_
    refine tq_iand (E := E_Law_law L xs) (pc := 32) (cks_at k_Law_law 20 rfl rfl) ?_
    refine tq_tsC (E := E_Law_law L xs) (pc := 33) (tgt := 184) (off := 151) (w := 0) 0 k_Law_law_33 (by decide) rfl (by decide) ?_ (fun h1 => ?_)
    · refine tq_aload_n 1 (E := E_Law_law L xs) (pc := 184) (cks_at k_Law_law 22 rfl rfl) rfl ?_
      refine tq_aload_n 0 (E := E_Law_law L xs) (pc := 185) (cks_at k_Law_law 23 rfl rfl) rfl ?_
      refine tq_iload_n 3 (E := E_Law_law L xs) (pc := 186) (cks_at k_Law_law 24 rfl rfl) rfl ?_
      refine tq_iconst (E := E_Law_law L xs) (pc := 187) (cks_at k_Law_law 25 rfl rfl) ?_
      refine tq_iadd (E := E_Law_law L xs) (pc := 188) (cks_at k_Law_law 26 rfl rfl) ?_
      refine tq_scrL (E := E_Law_law L xs) (pc := 189) trivial (cks_at k_Law_law 27 rfl rfl) ?_
      refine tq_aload_n 0 (E := E_Law_law L xs) (pc := 190) (cks_at k_Law_law 28 rfl rfl) rfl ?_
      refine tq_iload_n 3 (E := E_Law_law L xs) (pc := 191) (cks_at k_Law_law 29 rfl rfl) rfl ?_
      refine tq_iconst (E := E_Law_law L xs) (pc := 192) (cks_at k_Law_law 30 rfl rfl) ?_
      refine tq_iadd (E := E_Law_law L xs) (pc := 193) (cks_at k_Law_law 31 rfl rfl) ?_
      refine tq_scrL (E := E_Law_law L xs) (pc := 194) trivial (cks_at k_Law_law 32 rfl rfl) ?_
      refine tq_aload_n 0 (E := E_Law_law L xs) (pc := 195) (cks_at k_Law_law 33 rfl rfl) rfl ?_
      refine tq_iload_n 3 (E := E_Law_law L xs) (pc := 196) (cks_at k_Law_law 34 rfl rfl) rfl ?_
      refine tq_iconst (E := E_Law_law L xs) (pc := 197) (cks_at k_Law_law 35 rfl rfl) ?_
      refine tq_iadd (E := E_Law_law L xs) (pc := 198) (cks_at k_Law_law 36 rfl rfl) ?_
      refine tq_scrL (E := E_Law_law L xs) (pc := 199) trivial (cks_at k_Law_law 37 rfl rfl) ?_
      refine tq_aload_n 0 (E := E_Law_law L xs) (pc := 200) (cks_at k_Law_law 38 rfl rfl) rfl ?_
      refine tq_iload_n 3 (E := E_Law_law L xs) (pc := 201) (cks_at k_Law_law 39 rfl rfl) rfl ?_
      refine tq_iconst (E := E_Law_law L xs) (pc := 202) (cks_at k_Law_law 40 rfl rfl) ?_
      refine tq_iadd (E := E_Law_law L xs) (pc := 203) (cks_at k_Law_law 41 rfl rfl) ?_
      refine tq_scrL (E := E_Law_law L xs) (pc := 204) trivial (cks_at k_Law_law 42 rfl rfl) ?_
      refine tq_aload_n 0 (E := E_Law_law L xs) (pc := 205) (cks_at k_Law_law 43 rfl rfl) rfl ?_
      refine tq_iload_n 3 (E := E_Law_law L xs) (pc := 206) (cks_at k_Law_law 44 rfl rfl) rfl ?_
      refine tq_iconst (E := E_Law_law L xs) (pc := 207) (cks_at k_Law_law 45 rfl rfl) ?_
      refine tq_iadd (E := E_Law_law L xs) (pc := 208) (cks_at k_Law_law 46 rfl rfl) ?_
      refine tq_scrL (E := E_Law_law L xs) (pc := 209) trivial (cks_at k_Law_law 47 rfl rfl) ?_
      refine tq_V5 (E := E_Law_law L xs) (pc := 210) (cks_at k_Law_law 48 rfl rfl) mk_BT_feed lk_Law_13 rc_0 (Nat.le_of_ble_eq_true rfl) (c_BT_feed (0 + 127) ((xs (i32 (v3 + 1)).toNat).toInt) ((xs (i32 (v3 + 2)).toNat).toInt) ((xs (i32 (v3 + 3)).toNat).toInt) ((xs (i32 (v3 + 4)).toNat).toInt) ((xs (i32 (v3 + 5)).toNat).toInt) M) (k_I fun r3 M2 => ?_)
      refine tq_aload_n 2 (E := E_Law_law L xs) (pc := 213) (cks_at k_Law_law 49 rfl rfl) rfl ?_
      refine tq_aload_n 0 (E := E_Law_law L xs) (pc := 214) (cks_at k_Law_law 50 rfl rfl) rfl ?_
      refine tq_iload_n 3 (E := E_Law_law L xs) (pc := 215) (cks_at k_Law_law 51 rfl rfl) rfl ?_
      refine tq_iconst (E := E_Law_law L xs) (pc := 216) (cks_at k_Law_law 52 rfl rfl) ?_
      refine tq_iadd (E := E_Law_law L xs) (pc := 217) (cks_at k_Law_law 53 rfl rfl) ?_
      refine tq_scrL (E := E_Law_law L xs) (pc := 218) trivial (cks_at k_Law_law 54 rfl rfl) ?_
      refine tq_aload_n 0 (E := E_Law_law L xs) (pc := 219) (cks_at k_Law_law 55 rfl rfl) rfl ?_
      refine tq_iload_n 3 (E := E_Law_law L xs) (pc := 220) (cks_at k_Law_law 56 rfl rfl) rfl ?_
      refine tq_iconst (E := E_Law_law L xs) (pc := 221) (cks_at k_Law_law 57 rfl rfl) ?_
      refine tq_iadd (E := E_Law_law L xs) (pc := 222) (cks_at k_Law_law 58 rfl rfl) ?_
      refine tq_scrL (E := E_Law_law L xs) (pc := 223) trivial (cks_at k_Law_law 59 rfl rfl) ?_
      refine tq_aload_n 0 (E := E_Law_law L xs) (pc := 224) (cks_at k_Law_law 60 rfl rfl) rfl ?_
      refine tq_iload_n 3 (E := E_Law_law L xs) (pc := 225) (cks_at k_Law_law 61 rfl rfl) rfl ?_
      refine tq_iconst (E := E_Law_law L xs) (pc := 226) (cks_at k_Law_law 62 rfl rfl) ?_
      refine tq_iadd (E := E_Law_law L xs) (pc := 227) (cks_at k_Law_law 63 rfl rfl) ?_
      refine tq_scrL (E := E_Law_law L xs) (pc := 228) trivial (cks_at k_Law_law 64 rfl rfl) ?_
      refine tq_aload_n 0 (E := E_Law_law L xs) (pc := 229) (cks_at k_Law_law 65 rfl rfl) rfl ?_
      refine tq_iload_n 3 (E := E_Law_law L xs) (pc := 230) (cks_at k_Law_law 66 rfl rfl) rfl ?_
      refine tq_iconst (E := E_Law_law L xs) (pc := 231) (cks_at k_Law_law 67 rfl rfl) ?_
      refine tq_iadd (E := E_Law_law L xs) (pc := 232) (cks_at k_Law_law 68 rfl rfl) ?_
      refine tq_scrL (E := E_Law_law L xs) (pc := 233) trivial (cks_at k_Law_law 69 rfl rfl) ?_
      refine tq_aload_n 0 (E := E_Law_law L xs) (pc := 234) (cks_at k_Law_law 70 rfl rfl) rfl ?_
      refine tq_iload_n 3 (E := E_Law_law L xs) (pc := 235) (cks_at k_Law_law 71 rfl rfl) rfl ?_
      refine tq_iconst (E := E_Law_law L xs) (pc := 236) (cks_at k_Law_law 72 rfl rfl) ?_
      refine tq_iadd (E := E_Law_law L xs) (pc := 237) (cks_at k_Law_law 73 rfl rfl) ?_
      refine tq_scrL (E := E_Law_law L xs) (pc := 238) trivial (cks_at k_Law_law 74 rfl rfl) ?_
      refine tq_V5 (E := E_Law_law L xs) (pc := 239) (cks_at k_Law_law 75 rfl rfl) mk_M_feed lk_Law_17 rc_78 (Nat.le_of_ble_eq_true rfl) (c_M_feed (0 + 129) ((xs (i32 (v3 + 1)).toNat).toInt) ((xs (i32 (v3 + 2)).toNat).toInt) ((xs (i32 (v3 + 3)).toNat).toInt) ((xs (i32 (v3 + 4)).toNat).toInt) ((xs (i32 (v3 + 5)).toNat).toInt) M2) (k_I fun r5 M4 => ?_)
      refine tq_icmp_eq (E := E_Law_law L xs) (pc := 242) (tgt := 1177) (cks_at k_Law_law 76 rfl rfl) (by decide) ?_ ?_
      · refine tq_iinc 3 (E := E_Law_law L xs) (pc := 1177) (cks_at k_Law_law 811 rfl rfl) rfl (show 3 < 4 by decide) rfl ?_
        refine tq_goto (tgt := 18) (E := E_Law_law L xs) (pc := 1180) (cks_at k_Law_law 812 rfl rfl) (by decide) ?_
        exact tq_sub [1, 2, 3, 0] rfl (hkH (v3 + 6) M4)
      · refine tq_iconst (E := E_Law_law L xs) (pc := 245) (cks_at k_Law_law 77 rfl rfl) ?_
        exact tq_zretC (E := E_Law_law L xs) (pc := 246) (cks_at k_Law_law 78 rfl rfl) rfl (by decide)
    refine tq_tsC (E := E_Law_law L xs) (pc := 33) (tgt := 247) (off := 214) (w := 1) 1 k_Law_law_33 (by decide) rfl (by decide) ?_ (fun h6 => ?_)
    · refine tq_aload_n 1 (E := E_Law_law L xs) (pc := 247) (cks_at k_Law_law 79 rfl rfl) rfl ?_
      refine tq_aload_n 0 (E := E_Law_law L xs) (pc := 248) (cks_at k_Law_law 80 rfl rfl) rfl ?_
      refine tq_iload_n 3 (E := E_Law_law L xs) (pc := 249) (cks_at k_Law_law 81 rfl rfl) rfl ?_
      refine tq_iconst (E := E_Law_law L xs) (pc := 250) (cks_at k_Law_law 82 rfl rfl) ?_
      refine tq_iadd (E := E_Law_law L xs) (pc := 251) (cks_at k_Law_law 83 rfl rfl) ?_
      refine tq_scrL (E := E_Law_law L xs) (pc := 252) trivial (cks_at k_Law_law 84 rfl rfl) ?_
      refine tq_V1 (E := E_Law_law L xs) (pc := 253) (cks_at k_Law_law 85 rfl rfl) mk_BT_end lk_Law_18 rc_0 (Nat.le_of_ble_eq_true rfl) (c_BT_end (0 + 127) ((xs (i32 (v3 + 1)).toNat).toInt) M) (k_I fun r8 M7 => ?_)
      refine tq_aload_n 2 (E := E_Law_law L xs) (pc := 256) (cks_at k_Law_law 86 rfl rfl) rfl ?_
      refine tq_aload_n 0 (E := E_Law_law L xs) (pc := 257) (cks_at k_Law_law 87 rfl rfl) rfl ?_
      refine tq_iload_n 3 (E := E_Law_law L xs) (pc := 258) (cks_at k_Law_law 88 rfl rfl) rfl ?_
      refine tq_iconst (E := E_Law_law L xs) (pc := 259) (cks_at k_Law_law 89 rfl rfl) ?_
      refine tq_iadd (E := E_Law_law L xs) (pc := 260) (cks_at k_Law_law 90 rfl rfl) ?_
      refine tq_scrL (E := E_Law_law L xs) (pc := 261) trivial (cks_at k_Law_law 91 rfl rfl) ?_
      refine tq_V1 (E := E_Law_law L xs) (pc := 262) (cks_at k_Law_law 92 rfl rfl) mk_M_end lk_Law_22 rc_78 (Nat.le_of_ble_eq_true rfl) (c_M_end (0 + 129) ((xs (i32 (v3 + 1)).toNat).toInt) M7) (k_I fun r10 M9 => ?_)
      refine tq_icmp_eq (E := E_Law_law L xs) (pc := 265) (tgt := 1177) (cks_at k_Law_law 93 rfl rfl) (by decide) ?_ ?_
      · refine tq_iinc 3 (E := E_Law_law L xs) (pc := 1177) (cks_at k_Law_law 811 rfl rfl) rfl (show 3 < 4 by decide) rfl ?_
        refine tq_goto (tgt := 18) (E := E_Law_law L xs) (pc := 1180) (cks_at k_Law_law 812 rfl rfl) (by decide) ?_
        exact tq_sub [1, 2, 3, 0] rfl (hkH (v3 + 6) M9)
      · refine tq_iconst (E := E_Law_law L xs) (pc := 268) (cks_at k_Law_law 94 rfl rfl) ?_
        exact tq_zretC (E := E_Law_law L xs) (pc := 269) (cks_at k_Law_law 95 rfl rfl) rfl (by decide)
    refine tq_tsC (E := E_Law_law L xs) (pc := 33) (tgt := 270) (off := 237) (w := 2) 2 k_Law_law_33 (by decide) rfl (by decide) ?_ (fun h11 => ?_)
    · refine tq_aload_n 1 (E := E_Law_law L xs) (pc := 270) (cks_at k_Law_law 96 rfl rfl) rfl ?_
      refine tq_V0 (E := E_Law_law L xs) (pc := 271) (cks_at k_Law_law 97 rfl rfl) mk_BT_town lk_Law_23 rc_0 (Nat.le_of_ble_eq_true rfl) (c_BT_town (0 + 0) M) (k_I fun r13 M12 => ?_)
      refine tq_aload_n 2 (E := E_Law_law L xs) (pc := 274) (cks_at k_Law_law 98 rfl rfl) rfl ?_
      refine tq_V0 (E := E_Law_law L xs) (pc := 275) (cks_at k_Law_law 99 rfl rfl) mk_M_town lk_Law_27 rc_78 (Nat.le_of_ble_eq_true rfl) (c_M_town (0 + 121) M12) (k_I fun r15 M14 => ?_)
      refine tq_icmp_eq (E := E_Law_law L xs) (pc := 278) (tgt := 1177) (cks_at k_Law_law 100 rfl rfl) (by decide) ?_ ?_
      · refine tq_iinc 3 (E := E_Law_law L xs) (pc := 1177) (cks_at k_Law_law 811 rfl rfl) rfl (show 3 < 4 by decide) rfl ?_
        refine tq_goto (tgt := 18) (E := E_Law_law L xs) (pc := 1180) (cks_at k_Law_law 812 rfl rfl) (by decide) ?_
        exact tq_sub [1, 2, 3, 0] rfl (hkH (v3 + 6) M14)
      · refine tq_iconst (E := E_Law_law L xs) (pc := 281) (cks_at k_Law_law 101 rfl rfl) ?_
        exact tq_zretC (E := E_Law_law L xs) (pc := 282) (cks_at k_Law_law 102 rfl rfl) rfl (by decide)
    refine tq_tsC (E := E_Law_law L xs) (pc := 33) (tgt := 283) (off := 250) (w := 3) 3 k_Law_law_33 (by decide) rfl (by decide) ?_ (fun h16 => ?_)
    · refine tq_aload_n 1 (E := E_Law_law L xs) (pc := 283) (cks_at k_Law_law 103 rfl rfl) rfl ?_
      refine tq_aload_n 0 (E := E_Law_law L xs) (pc := 284) (cks_at k_Law_law 104 rfl rfl) rfl ?_
      refine tq_iload_n 3 (E := E_Law_law L xs) (pc := 285) (cks_at k_Law_law 105 rfl rfl) rfl ?_
      refine tq_iconst (E := E_Law_law L xs) (pc := 286) (cks_at k_Law_law 106 rfl rfl) ?_
      refine tq_iadd (E := E_Law_law L xs) (pc := 287) (cks_at k_Law_law 107 rfl rfl) ?_
      refine tq_scrL (E := E_Law_law L xs) (pc := 288) trivial (cks_at k_Law_law 108 rfl rfl) ?_
      refine tq_V1 (E := E_Law_law L xs) (pc := 289) (cks_at k_Law_law 109 rfl rfl) mk_BT_fault lk_Law_28 rc_0 (Nat.le_of_ble_eq_true rfl) (c_BT_fault (0 + 129) ((xs (i32 (v3 + 1)).toNat).toInt) M) (k_I fun r18 M17 => ?_)
      refine tq_aload_n 2 (E := E_Law_law L xs) (pc := 292) (cks_at k_Law_law 110 rfl rfl) rfl ?_
      refine tq_aload_n 0 (E := E_Law_law L xs) (pc := 293) (cks_at k_Law_law 111 rfl rfl) rfl ?_
      refine tq_iload_n 3 (E := E_Law_law L xs) (pc := 294) (cks_at k_Law_law 112 rfl rfl) rfl ?_
      refine tq_iconst (E := E_Law_law L xs) (pc := 295) (cks_at k_Law_law 113 rfl rfl) ?_
      refine tq_iadd (E := E_Law_law L xs) (pc := 296) (cks_at k_Law_law 114 rfl rfl) ?_
      refine tq_scrL (E := E_Law_law L xs) (pc := 297) trivial (cks_at k_Law_law 115 rfl rfl) ?_
      refine tq_V1 (E := E_Law_law L xs) (pc := 298) (cks_at k_Law_law 116 rfl rfl) mk_M_fault lk_Law_32 rc_78 (Nat.le_of_ble_eq_true rfl) (c_M_fault (0 + 129) ((xs (i32 (v3 + 1)).toNat).toInt) M17) (k_I fun r20 M19 => ?_)
      refine tq_icmp_eq (E := E_Law_law L xs) (pc := 301) (tgt := 1177) (cks_at k_Law_law 117 rfl rfl) (by decide) ?_ ?_
      · refine tq_iinc 3 (E := E_Law_law L xs) (pc := 1177) (cks_at k_Law_law 811 rfl rfl) rfl (show 3 < 4 by decide) rfl ?_
        refine tq_goto (tgt := 18) (E := E_Law_law L xs) (pc := 1180) (cks_at k_Law_law 812 rfl rfl) (by decide) ?_
        exact tq_sub [1, 2, 3, 0] rfl (hkH (v3 + 6) M19)
      · refine tq_iconst (E := E_Law_law L xs) (pc := 304) (cks_at k_Law_law 118 rfl rfl) ?_
        exact tq_zretC (E := E_Law_law L xs) (pc := 305) (cks_at k_Law_law 119 rfl rfl) rfl (by decide)
    refine tq_tsC (E := E_Law_law L xs) (pc := 33) (tgt := 306) (off := 273) (w := 4) 4 k_Law_law_33 (by decide) rfl (by decide) ?_ (fun h21 => ?_)
    · refine tq_aload_n 1 (E := E_Law_law L xs) (pc := 306) (cks_at k_Law_law 120 rfl rfl) rfl ?_
      refine tq_aload_n 0 (E := E_Law_law L xs) (pc := 307) (cks_at k_Law_law 121 rfl rfl) rfl ?_
      refine tq_iload_n 3 (E := E_Law_law L xs) (pc := 308) (cks_at k_Law_law 122 rfl rfl) rfl ?_
      refine tq_iconst (E := E_Law_law L xs) (pc := 309) (cks_at k_Law_law 123 rfl rfl) ?_
      refine tq_iadd (E := E_Law_law L xs) (pc := 310) (cks_at k_Law_law 124 rfl rfl) ?_
      refine tq_scrL (E := E_Law_law L xs) (pc := 311) trivial (cks_at k_Law_law 125 rfl rfl) ?_
      refine tq_V1 (E := E_Law_law L xs) (pc := 312) (cks_at k_Law_law 126 rfl rfl) mk_BT_has lk_Law_33 rc_0 (Nat.le_of_ble_eq_true rfl) (c_BT_has (0 + 126) ((xs (i32 (v3 + 1)).toNat).toInt) M) (k_I fun r23 M22 => ?_)
      refine tq_aload_n 2 (E := E_Law_law L xs) (pc := 315) (cks_at k_Law_law 127 rfl rfl) rfl ?_
      refine tq_aload_n 0 (E := E_Law_law L xs) (pc := 316) (cks_at k_Law_law 128 rfl rfl) rfl ?_
      refine tq_iload_n 3 (E := E_Law_law L xs) (pc := 317) (cks_at k_Law_law 129 rfl rfl) rfl ?_
      refine tq_iconst (E := E_Law_law L xs) (pc := 318) (cks_at k_Law_law 130 rfl rfl) ?_
      refine tq_iadd (E := E_Law_law L xs) (pc := 319) (cks_at k_Law_law 131 rfl rfl) ?_
      refine tq_scrL (E := E_Law_law L xs) (pc := 320) trivial (cks_at k_Law_law 132 rfl rfl) ?_
      refine tq_V1 (E := E_Law_law L xs) (pc := 321) (cks_at k_Law_law 133 rfl rfl) mk_M_has lk_Law_36 rc_78 (Nat.le_of_ble_eq_true rfl) (c_M_has (0 + 127) ((xs (i32 (v3 + 1)).toNat).toInt) M22) (k_I fun r25 M24 => ?_)
      refine tq_icmp_eq (E := E_Law_law L xs) (pc := 324) (tgt := 1177) (cks_at k_Law_law 134 rfl rfl) (by decide) ?_ ?_
      · refine tq_iinc 3 (E := E_Law_law L xs) (pc := 1177) (cks_at k_Law_law 811 rfl rfl) rfl (show 3 < 4 by decide) rfl ?_
        refine tq_goto (tgt := 18) (E := E_Law_law L xs) (pc := 1180) (cks_at k_Law_law 812 rfl rfl) (by decide) ?_
        exact tq_sub [1, 2, 3, 0] rfl (hkH (v3 + 6) M24)
      · refine tq_iconst (E := E_Law_law L xs) (pc := 327) (cks_at k_Law_law 135 rfl rfl) ?_
        exact tq_zretC (E := E_Law_law L xs) (pc := 328) (cks_at k_Law_law 136 rfl rfl) rfl (by decide)
    refine tq_tsC (E := E_Law_law L xs) (pc := 33) (tgt := 329) (off := 296) (w := 5) 5 k_Law_law_33 (by decide) rfl (by decide) ?_ (fun h26 => ?_)
    · refine tq_aload_n 1 (E := E_Law_law L xs) (pc := 329) (cks_at k_Law_law 137 rfl rfl) rfl ?_
      refine tq_aload_n 0 (E := E_Law_law L xs) (pc := 330) (cks_at k_Law_law 138 rfl rfl) rfl ?_
      refine tq_iload_n 3 (E := E_Law_law L xs) (pc := 331) (cks_at k_Law_law 139 rfl rfl) rfl ?_
      refine tq_iconst (E := E_Law_law L xs) (pc := 332) (cks_at k_Law_law 140 rfl rfl) ?_
      refine tq_iadd (E := E_Law_law L xs) (pc := 333) (cks_at k_Law_law 141 rfl rfl) ?_
      refine tq_scrL (E := E_Law_law L xs) (pc := 334) trivial (cks_at k_Law_law 142 rfl rfl) ?_
      refine tq_aload_n 0 (E := E_Law_law L xs) (pc := 335) (cks_at k_Law_law 143 rfl rfl) rfl ?_
      refine tq_iload_n 3 (E := E_Law_law L xs) (pc := 336) (cks_at k_Law_law 144 rfl rfl) rfl ?_
      refine tq_iconst (E := E_Law_law L xs) (pc := 337) (cks_at k_Law_law 145 rfl rfl) ?_
      refine tq_iadd (E := E_Law_law L xs) (pc := 338) (cks_at k_Law_law 146 rfl rfl) ?_
      refine tq_scrL (E := E_Law_law L xs) (pc := 339) trivial (cks_at k_Law_law 147 rfl rfl) ?_
      refine tq_aload_n 0 (E := E_Law_law L xs) (pc := 340) (cks_at k_Law_law 148 rfl rfl) rfl ?_
      refine tq_iload_n 3 (E := E_Law_law L xs) (pc := 341) (cks_at k_Law_law 149 rfl rfl) rfl ?_
      refine tq_iconst (E := E_Law_law L xs) (pc := 342) (cks_at k_Law_law 150 rfl rfl) ?_
      refine tq_iadd (E := E_Law_law L xs) (pc := 343) (cks_at k_Law_law 151 rfl rfl) ?_
      refine tq_scrL (E := E_Law_law L xs) (pc := 344) trivial (cks_at k_Law_law 152 rfl rfl) ?_
      refine tq_V3 (E := E_Law_law L xs) (pc := 345) (cks_at k_Law_law 153 rfl rfl) mk_BT_letter lk_Law_37 rc_0 (Nat.le_of_ble_eq_true rfl) (c_BT_letter (0 + 126) ((xs (i32 (v3 + 1)).toNat).toInt) ((xs (i32 (v3 + 2)).toNat).toInt) ((xs (i32 (v3 + 3)).toNat).toInt) M) (k_I fun r28 M27 => ?_)
      refine tq_aload_n 2 (E := E_Law_law L xs) (pc := 348) (cks_at k_Law_law 154 rfl rfl) rfl ?_
      refine tq_aload_n 0 (E := E_Law_law L xs) (pc := 349) (cks_at k_Law_law 155 rfl rfl) rfl ?_
      refine tq_iload_n 3 (E := E_Law_law L xs) (pc := 350) (cks_at k_Law_law 156 rfl rfl) rfl ?_
      refine tq_iconst (E := E_Law_law L xs) (pc := 351) (cks_at k_Law_law 157 rfl rfl) ?_
      refine tq_iadd (E := E_Law_law L xs) (pc := 352) (cks_at k_Law_law 158 rfl rfl) ?_
      refine tq_scrL (E := E_Law_law L xs) (pc := 353) trivial (cks_at k_Law_law 159 rfl rfl) ?_
      refine tq_aload_n 0 (E := E_Law_law L xs) (pc := 354) (cks_at k_Law_law 160 rfl rfl) rfl ?_
      refine tq_iload_n 3 (E := E_Law_law L xs) (pc := 355) (cks_at k_Law_law 161 rfl rfl) rfl ?_
      refine tq_iconst (E := E_Law_law L xs) (pc := 356) (cks_at k_Law_law 162 rfl rfl) ?_
      refine tq_iadd (E := E_Law_law L xs) (pc := 357) (cks_at k_Law_law 163 rfl rfl) ?_
      refine tq_scrL (E := E_Law_law L xs) (pc := 358) trivial (cks_at k_Law_law 164 rfl rfl) ?_
      refine tq_aload_n 0 (E := E_Law_law L xs) (pc := 359) (cks_at k_Law_law 165 rfl rfl) rfl ?_
      refine tq_iload_n 3 (E := E_Law_law L xs) (pc := 360) (cks_at k_Law_law 166 rfl rfl) rfl ?_
      refine tq_iconst (E := E_Law_law L xs) (pc := 361) (cks_at k_Law_law 167 rfl rfl) ?_
      refine tq_iadd (E := E_Law_law L xs) (pc := 362) (cks_at k_Law_law 168 rfl rfl) ?_
      refine tq_scrL (E := E_Law_law L xs) (pc := 363) trivial (cks_at k_Law_law 169 rfl rfl) ?_
      refine tq_V3 (E := E_Law_law L xs) (pc := 364) (cks_at k_Law_law 170 rfl rfl) mk_M_letter lk_Law_41 rc_78 (Nat.le_of_ble_eq_true rfl) (c_M_letter (0 + 128) ((xs (i32 (v3 + 1)).toNat).toInt) ((xs (i32 (v3 + 2)).toNat).toInt) ((xs (i32 (v3 + 3)).toNat).toInt) M27) (k_I fun r30 M29 => ?_)
      refine tq_icmp_eq (E := E_Law_law L xs) (pc := 367) (tgt := 1177) (cks_at k_Law_law 171 rfl rfl) (by decide) ?_ ?_
      · refine tq_iinc 3 (E := E_Law_law L xs) (pc := 1177) (cks_at k_Law_law 811 rfl rfl) rfl (show 3 < 4 by decide) rfl ?_
        refine tq_goto (tgt := 18) (E := E_Law_law L xs) (pc := 1180) (cks_at k_Law_law 812 rfl rfl) (by decide) ?_
        exact tq_sub [1, 2, 3, 0] rfl (hkH (v3 + 6) M29)
      · refine tq_iconst (E := E_Law_law L xs) (pc := 370) (cks_at k_Law_law 172 rfl rfl) ?_
        exact tq_zretC (E := E_Law_law L xs) (pc := 371) (cks_at k_Law_law 173 rfl rfl) rfl (by decide)
    refine tq_tsC (E := E_Law_law L xs) (pc := 33) (tgt := 372) (off := 339) (w := 6) 6 k_Law_law_33 (by decide) rfl (by decide) ?_ (fun h31 => ?_)
    · refine tq_aload_n 1 (E := E_Law_law L xs) (pc := 372) (cks_at k_Law_law 174 rfl rfl) rfl ?_
      refine tq_aload_n 0 (E := E_Law_law L xs) (pc := 373) (cks_at k_Law_law 175 rfl rfl) rfl ?_
      refine tq_iload_n 3 (E := E_Law_law L xs) (pc := 374) (cks_at k_Law_law 176 rfl rfl) rfl ?_
      refine tq_iconst (E := E_Law_law L xs) (pc := 375) (cks_at k_Law_law 177 rfl rfl) ?_
      refine tq_iadd (E := E_Law_law L xs) (pc := 376) (cks_at k_Law_law 178 rfl rfl) ?_
      refine tq_scrL (E := E_Law_law L xs) (pc := 377) trivial (cks_at k_Law_law 179 rfl rfl) ?_
      refine tq_aload_n 0 (E := E_Law_law L xs) (pc := 378) (cks_at k_Law_law 180 rfl rfl) rfl ?_
      refine tq_iload_n 3 (E := E_Law_law L xs) (pc := 379) (cks_at k_Law_law 181 rfl rfl) rfl ?_
      refine tq_iconst (E := E_Law_law L xs) (pc := 380) (cks_at k_Law_law 182 rfl rfl) ?_
      refine tq_iadd (E := E_Law_law L xs) (pc := 381) (cks_at k_Law_law 183 rfl rfl) ?_
      refine tq_scrL (E := E_Law_law L xs) (pc := 382) trivial (cks_at k_Law_law 184 rfl rfl) ?_
      refine tq_V2 (E := E_Law_law L xs) (pc := 383) (cks_at k_Law_law 185 rfl rfl) mk_BT_street lk_Law_42 rc_0 (Nat.le_of_ble_eq_true rfl) (c_BT_street (0 + 124) ((xs (i32 (v3 + 1)).toNat).toInt) ((xs (i32 (v3 + 2)).toNat).toInt) M) (k_I fun r33 M32 => ?_)
      refine tq_aload_n 2 (E := E_Law_law L xs) (pc := 386) (cks_at k_Law_law 186 rfl rfl) rfl ?_
      refine tq_aload_n 0 (E := E_Law_law L xs) (pc := 387) (cks_at k_Law_law 187 rfl rfl) rfl ?_
      refine tq_iload_n 3 (E := E_Law_law L xs) (pc := 388) (cks_at k_Law_law 188 rfl rfl) rfl ?_
      refine tq_iconst (E := E_Law_law L xs) (pc := 389) (cks_at k_Law_law 189 rfl rfl) ?_
      refine tq_iadd (E := E_Law_law L xs) (pc := 390) (cks_at k_Law_law 190 rfl rfl) ?_
      refine tq_scrL (E := E_Law_law L xs) (pc := 391) trivial (cks_at k_Law_law 191 rfl rfl) ?_
      refine tq_aload_n 0 (E := E_Law_law L xs) (pc := 392) (cks_at k_Law_law 192 rfl rfl) rfl ?_
      refine tq_iload_n 3 (E := E_Law_law L xs) (pc := 393) (cks_at k_Law_law 193 rfl rfl) rfl ?_
      refine tq_iconst (E := E_Law_law L xs) (pc := 394) (cks_at k_Law_law 194 rfl rfl) ?_
      refine tq_iadd (E := E_Law_law L xs) (pc := 395) (cks_at k_Law_law 195 rfl rfl) ?_
      refine tq_scrL (E := E_Law_law L xs) (pc := 396) trivial (cks_at k_Law_law 196 rfl rfl) ?_
      refine tq_V2 (E := E_Law_law L xs) (pc := 397) (cks_at k_Law_law 197 rfl rfl) mk_M_street lk_Law_46 rc_78 (Nat.le_of_ble_eq_true rfl) (c_M_street (0 + 124) ((xs (i32 (v3 + 1)).toNat).toInt) ((xs (i32 (v3 + 2)).toNat).toInt) M32) (k_I fun r35 M34 => ?_)
      refine tq_icmp_eq (E := E_Law_law L xs) (pc := 400) (tgt := 1177) (cks_at k_Law_law 198 rfl rfl) (by decide) ?_ ?_
      · refine tq_iinc 3 (E := E_Law_law L xs) (pc := 1177) (cks_at k_Law_law 811 rfl rfl) rfl (show 3 < 4 by decide) rfl ?_
        refine tq_goto (tgt := 18) (E := E_Law_law L xs) (pc := 1180) (cks_at k_Law_law 812 rfl rfl) (by decide) ?_
        exact tq_sub [1, 2, 3, 0] rfl (hkH (v3 + 6) M34)
      · refine tq_iconst (E := E_Law_law L xs) (pc := 403) (cks_at k_Law_law 199 rfl rfl) ?_
        exact tq_zretC (E := E_Law_law L xs) (pc := 404) (cks_at k_Law_law 200 rfl rfl) rfl (by decide)
    refine tq_tsC (E := E_Law_law L xs) (pc := 33) (tgt := 405) (off := 372) (w := 7) 7 k_Law_law_33 (by decide) rfl (by decide) ?_ (fun h36 => ?_)
    · refine tq_aload_n 1 (E := E_Law_law L xs) (pc := 405) (cks_at k_Law_law 201 rfl rfl) rfl ?_
      refine tq_aload_n 0 (E := E_Law_law L xs) (pc := 406) (cks_at k_Law_law 202 rfl rfl) rfl ?_
      refine tq_iload_n 3 (E := E_Law_law L xs) (pc := 407) (cks_at k_Law_law 203 rfl rfl) rfl ?_
      refine tq_iconst (E := E_Law_law L xs) (pc := 408) (cks_at k_Law_law 204 rfl rfl) ?_
      refine tq_iadd (E := E_Law_law L xs) (pc := 409) (cks_at k_Law_law 205 rfl rfl) ?_
      refine tq_scrL (E := E_Law_law L xs) (pc := 410) trivial (cks_at k_Law_law 206 rfl rfl) ?_
      refine tq_aload_n 0 (E := E_Law_law L xs) (pc := 411) (cks_at k_Law_law 207 rfl rfl) rfl ?_
      refine tq_iload_n 3 (E := E_Law_law L xs) (pc := 412) (cks_at k_Law_law 208 rfl rfl) rfl ?_
      refine tq_iconst (E := E_Law_law L xs) (pc := 413) (cks_at k_Law_law 209 rfl rfl) ?_
      refine tq_iadd (E := E_Law_law L xs) (pc := 414) (cks_at k_Law_law 210 rfl rfl) ?_
      refine tq_scrL (E := E_Law_law L xs) (pc := 415) trivial (cks_at k_Law_law 211 rfl rfl) ?_
      refine tq_V2 (E := E_Law_law L xs) (pc := 416) (cks_at k_Law_law 212 rfl rfl) mk_BT_walker lk_Law_47 rc_0 (Nat.le_of_ble_eq_true rfl) (c_BT_walker (0 + 126) ((xs (i32 (v3 + 1)).toNat).toInt) ((xs (i32 (v3 + 2)).toNat).toInt) M) (k_I fun r38 M37 => ?_)
      refine tq_aload_n 2 (E := E_Law_law L xs) (pc := 419) (cks_at k_Law_law 213 rfl rfl) rfl ?_
      refine tq_aload_n 0 (E := E_Law_law L xs) (pc := 420) (cks_at k_Law_law 214 rfl rfl) rfl ?_
      refine tq_iload_n 3 (E := E_Law_law L xs) (pc := 421) (cks_at k_Law_law 215 rfl rfl) rfl ?_
      refine tq_iconst (E := E_Law_law L xs) (pc := 422) (cks_at k_Law_law 216 rfl rfl) ?_
      refine tq_iadd (E := E_Law_law L xs) (pc := 423) (cks_at k_Law_law 217 rfl rfl) ?_
      refine tq_scrL (E := E_Law_law L xs) (pc := 424) trivial (cks_at k_Law_law 218 rfl rfl) ?_
      refine tq_aload_n 0 (E := E_Law_law L xs) (pc := 425) (cks_at k_Law_law 219 rfl rfl) rfl ?_
      refine tq_iload_n 3 (E := E_Law_law L xs) (pc := 426) (cks_at k_Law_law 220 rfl rfl) rfl ?_
      refine tq_iconst (E := E_Law_law L xs) (pc := 427) (cks_at k_Law_law 221 rfl rfl) ?_
      refine tq_iadd (E := E_Law_law L xs) (pc := 428) (cks_at k_Law_law 222 rfl rfl) ?_
      refine tq_scrL (E := E_Law_law L xs) (pc := 429) trivial (cks_at k_Law_law 223 rfl rfl) ?_
      refine tq_V2 (E := E_Law_law L xs) (pc := 430) (cks_at k_Law_law 224 rfl rfl) mk_M_walker lk_Law_50 rc_78 (Nat.le_of_ble_eq_true rfl) (c_M_walker (0 + 127) ((xs (i32 (v3 + 1)).toNat).toInt) ((xs (i32 (v3 + 2)).toNat).toInt) M37) (k_I fun r40 M39 => ?_)
      refine tq_icmp_eq (E := E_Law_law L xs) (pc := 433) (tgt := 1177) (cks_at k_Law_law 225 rfl rfl) (by decide) ?_ ?_
      · refine tq_iinc 3 (E := E_Law_law L xs) (pc := 1177) (cks_at k_Law_law 811 rfl rfl) rfl (show 3 < 4 by decide) rfl ?_
        refine tq_goto (tgt := 18) (E := E_Law_law L xs) (pc := 1180) (cks_at k_Law_law 812 rfl rfl) (by decide) ?_
        exact tq_sub [1, 2, 3, 0] rfl (hkH (v3 + 6) M39)
      · refine tq_iconst (E := E_Law_law L xs) (pc := 436) (cks_at k_Law_law 226 rfl rfl) ?_
        exact tq_zretC (E := E_Law_law L xs) (pc := 437) (cks_at k_Law_law 227 rfl rfl) rfl (by decide)
    refine tq_tsC (E := E_Law_law L xs) (pc := 33) (tgt := 438) (off := 405) (w := 8) 8 k_Law_law_33 (by decide) rfl (by decide) ?_ (fun h41 => ?_)
    · refine tq_aload_n 1 (E := E_Law_law L xs) (pc := 438) (cks_at k_Law_law 228 rfl rfl) rfl ?_
      refine tq_aload_n 0 (E := E_Law_law L xs) (pc := 439) (cks_at k_Law_law 229 rfl rfl) rfl ?_
      refine tq_iload_n 3 (E := E_Law_law L xs) (pc := 440) (cks_at k_Law_law 230 rfl rfl) rfl ?_
      refine tq_iconst (E := E_Law_law L xs) (pc := 441) (cks_at k_Law_law 231 rfl rfl) ?_
      refine tq_iadd (E := E_Law_law L xs) (pc := 442) (cks_at k_Law_law 232 rfl rfl) ?_
      refine tq_scrL (E := E_Law_law L xs) (pc := 443) trivial (cks_at k_Law_law 233 rfl rfl) ?_
      refine tq_aload_n 0 (E := E_Law_law L xs) (pc := 444) (cks_at k_Law_law 234 rfl rfl) rfl ?_
      refine tq_iload_n 3 (E := E_Law_law L xs) (pc := 445) (cks_at k_Law_law 235 rfl rfl) rfl ?_
      refine tq_iconst (E := E_Law_law L xs) (pc := 446) (cks_at k_Law_law 236 rfl rfl) ?_
      refine tq_iadd (E := E_Law_law L xs) (pc := 447) (cks_at k_Law_law 237 rfl rfl) ?_
      refine tq_scrL (E := E_Law_law L xs) (pc := 448) trivial (cks_at k_Law_law 238 rfl rfl) ?_
      refine tq_V2 (E := E_Law_law L xs) (pc := 449) (cks_at k_Law_law 239 rfl rfl) mk_BT_width lk_Law_51 rc_0 (Nat.le_of_ble_eq_true rfl) (c_BT_width (0 + 124) ((xs (i32 (v3 + 1)).toNat).toInt) ((xs (i32 (v3 + 2)).toNat).toInt) M) (k_I fun r43 M42 => ?_)
      refine tq_aload_n 2 (E := E_Law_law L xs) (pc := 452) (cks_at k_Law_law 240 rfl rfl) rfl ?_
      refine tq_aload_n 0 (E := E_Law_law L xs) (pc := 453) (cks_at k_Law_law 241 rfl rfl) rfl ?_
      refine tq_iload_n 3 (E := E_Law_law L xs) (pc := 454) (cks_at k_Law_law 242 rfl rfl) rfl ?_
      refine tq_iconst (E := E_Law_law L xs) (pc := 455) (cks_at k_Law_law 243 rfl rfl) ?_
      refine tq_iadd (E := E_Law_law L xs) (pc := 456) (cks_at k_Law_law 244 rfl rfl) ?_
      refine tq_scrL (E := E_Law_law L xs) (pc := 457) trivial (cks_at k_Law_law 245 rfl rfl) ?_
      refine tq_aload_n 0 (E := E_Law_law L xs) (pc := 458) (cks_at k_Law_law 246 rfl rfl) rfl ?_
      refine tq_iload_n 3 (E := E_Law_law L xs) (pc := 459) (cks_at k_Law_law 247 rfl rfl) rfl ?_
      refine tq_iconst (E := E_Law_law L xs) (pc := 460) (cks_at k_Law_law 248 rfl rfl) ?_
      refine tq_iadd (E := E_Law_law L xs) (pc := 461) (cks_at k_Law_law 249 rfl rfl) ?_
      refine tq_scrL (E := E_Law_law L xs) (pc := 462) trivial (cks_at k_Law_law 250 rfl rfl) ?_
      refine tq_V2 (E := E_Law_law L xs) (pc := 463) (cks_at k_Law_law 251 rfl rfl) mk_M_width lk_Law_54 rc_78 (Nat.le_of_ble_eq_true rfl) (c_M_width (0 + 124) ((xs (i32 (v3 + 1)).toNat).toInt) ((xs (i32 (v3 + 2)).toNat).toInt) M42) (k_I fun r45 M44 => ?_)
      refine tq_icmp_eq (E := E_Law_law L xs) (pc := 466) (tgt := 1177) (cks_at k_Law_law 252 rfl rfl) (by decide) ?_ ?_
      · refine tq_iinc 3 (E := E_Law_law L xs) (pc := 1177) (cks_at k_Law_law 811 rfl rfl) rfl (show 3 < 4 by decide) rfl ?_
        refine tq_goto (tgt := 18) (E := E_Law_law L xs) (pc := 1180) (cks_at k_Law_law 812 rfl rfl) (by decide) ?_
        exact tq_sub [1, 2, 3, 0] rfl (hkH (v3 + 6) M44)
      · refine tq_iconst (E := E_Law_law L xs) (pc := 469) (cks_at k_Law_law 253 rfl rfl) ?_
        exact tq_zretC (E := E_Law_law L xs) (pc := 470) (cks_at k_Law_law 254 rfl rfl) rfl (by decide)
    refine tq_tsC (E := E_Law_law L xs) (pc := 33) (tgt := 471) (off := 438) (w := 9) 9 k_Law_law_33 (by decide) rfl (by decide) ?_ (fun h46 => ?_)
    · refine tq_aload_n 1 (E := E_Law_law L xs) (pc := 471) (cks_at k_Law_law 255 rfl rfl) rfl ?_
      refine tq_aload_n 0 (E := E_Law_law L xs) (pc := 472) (cks_at k_Law_law 256 rfl rfl) rfl ?_
      refine tq_iload_n 3 (E := E_Law_law L xs) (pc := 473) (cks_at k_Law_law 257 rfl rfl) rfl ?_
      refine tq_iconst (E := E_Law_law L xs) (pc := 474) (cks_at k_Law_law 258 rfl rfl) ?_
      refine tq_iadd (E := E_Law_law L xs) (pc := 475) (cks_at k_Law_law 259 rfl rfl) ?_
      refine tq_scrL (E := E_Law_law L xs) (pc := 476) trivial (cks_at k_Law_law 260 rfl rfl) ?_
      refine tq_aload_n 0 (E := E_Law_law L xs) (pc := 477) (cks_at k_Law_law 261 rfl rfl) rfl ?_
      refine tq_iload_n 3 (E := E_Law_law L xs) (pc := 478) (cks_at k_Law_law 262 rfl rfl) rfl ?_
      refine tq_iconst (E := E_Law_law L xs) (pc := 479) (cks_at k_Law_law 263 rfl rfl) ?_
      refine tq_iadd (E := E_Law_law L xs) (pc := 480) (cks_at k_Law_law 264 rfl rfl) ?_
      refine tq_scrL (E := E_Law_law L xs) (pc := 481) trivial (cks_at k_Law_law 265 rfl rfl) ?_
      refine tq_aload_n 0 (E := E_Law_law L xs) (pc := 482) (cks_at k_Law_law 266 rfl rfl) rfl ?_
      refine tq_iload_n 3 (E := E_Law_law L xs) (pc := 483) (cks_at k_Law_law 267 rfl rfl) rfl ?_
      refine tq_iconst (E := E_Law_law L xs) (pc := 484) (cks_at k_Law_law 268 rfl rfl) ?_
      refine tq_iadd (E := E_Law_law L xs) (pc := 485) (cks_at k_Law_law 269 rfl rfl) ?_
      refine tq_scrL (E := E_Law_law L xs) (pc := 486) trivial (cks_at k_Law_law 270 rfl rfl) ?_
      refine tq_V3 (E := E_Law_law L xs) (pc := 487) (cks_at k_Law_law 271 rfl rfl) mk_BT_passes lk_Law_55 rc_0 (Nat.le_of_ble_eq_true rfl) (c_BT_passes (0 + 124) ((xs (i32 (v3 + 1)).toNat).toInt) ((xs (i32 (v3 + 2)).toNat).toInt) ((xs (i32 (v3 + 3)).toNat).toInt) M) (k_I fun r48 M47 => ?_)
      refine tq_aload_n 2 (E := E_Law_law L xs) (pc := 490) (cks_at k_Law_law 272 rfl rfl) rfl ?_
      refine tq_aload_n 0 (E := E_Law_law L xs) (pc := 491) (cks_at k_Law_law 273 rfl rfl) rfl ?_
      refine tq_iload_n 3 (E := E_Law_law L xs) (pc := 492) (cks_at k_Law_law 274 rfl rfl) rfl ?_
      refine tq_iconst (E := E_Law_law L xs) (pc := 493) (cks_at k_Law_law 275 rfl rfl) ?_
      refine tq_iadd (E := E_Law_law L xs) (pc := 494) (cks_at k_Law_law 276 rfl rfl) ?_
      refine tq_scrL (E := E_Law_law L xs) (pc := 495) trivial (cks_at k_Law_law 277 rfl rfl) ?_
      refine tq_aload_n 0 (E := E_Law_law L xs) (pc := 496) (cks_at k_Law_law 278 rfl rfl) rfl ?_
      refine tq_iload_n 3 (E := E_Law_law L xs) (pc := 497) (cks_at k_Law_law 279 rfl rfl) rfl ?_
      refine tq_iconst (E := E_Law_law L xs) (pc := 498) (cks_at k_Law_law 280 rfl rfl) ?_
      refine tq_iadd (E := E_Law_law L xs) (pc := 499) (cks_at k_Law_law 281 rfl rfl) ?_
      refine tq_scrL (E := E_Law_law L xs) (pc := 500) trivial (cks_at k_Law_law 282 rfl rfl) ?_
      refine tq_aload_n 0 (E := E_Law_law L xs) (pc := 501) (cks_at k_Law_law 283 rfl rfl) rfl ?_
      refine tq_iload_n 3 (E := E_Law_law L xs) (pc := 502) (cks_at k_Law_law 284 rfl rfl) rfl ?_
      refine tq_iconst (E := E_Law_law L xs) (pc := 503) (cks_at k_Law_law 285 rfl rfl) ?_
      refine tq_iadd (E := E_Law_law L xs) (pc := 504) (cks_at k_Law_law 286 rfl rfl) ?_
      refine tq_scrL (E := E_Law_law L xs) (pc := 505) trivial (cks_at k_Law_law 287 rfl rfl) ?_
      refine tq_V3 (E := E_Law_law L xs) (pc := 506) (cks_at k_Law_law 288 rfl rfl) mk_M_passes lk_Law_58 rc_78 (Nat.le_of_ble_eq_true rfl) (c_M_passes (0 + 122) ((xs (i32 (v3 + 1)).toNat).toInt) ((xs (i32 (v3 + 2)).toNat).toInt) ((xs (i32 (v3 + 3)).toNat).toInt) M47) (k_I fun r50 M49 => ?_)
      refine tq_icmp_eq (E := E_Law_law L xs) (pc := 509) (tgt := 1177) (cks_at k_Law_law 289 rfl rfl) (by decide) ?_ ?_
      · refine tq_iinc 3 (E := E_Law_law L xs) (pc := 1177) (cks_at k_Law_law 811 rfl rfl) rfl (show 3 < 4 by decide) rfl ?_
        refine tq_goto (tgt := 18) (E := E_Law_law L xs) (pc := 1180) (cks_at k_Law_law 812 rfl rfl) (by decide) ?_
        exact tq_sub [1, 2, 3, 0] rfl (hkH (v3 + 6) M49)
      · refine tq_iconst (E := E_Law_law L xs) (pc := 512) (cks_at k_Law_law 290 rfl rfl) ?_
        exact tq_zretC (E := E_Law_law L xs) (pc := 513) (cks_at k_Law_law 291 rfl rfl) rfl (by decide)
    refine tq_tsC (E := E_Law_law L xs) (pc := 33) (tgt := 514) (off := 481) (w := 10) 10 k_Law_law_33 (by decide) rfl (by decide) ?_ (fun h51 => ?_)
    · refine tq_aload_n 1 (E := E_Law_law L xs) (pc := 514) (cks_at k_Law_law 292 rfl rfl) rfl ?_
      refine tq_aload_n 0 (E := E_Law_law L xs) (pc := 515) (cks_at k_Law_law 293 rfl rfl) rfl ?_
      refine tq_iload_n 3 (E := E_Law_law L xs) (pc := 516) (cks_at k_Law_law 294 rfl rfl) rfl ?_
      refine tq_iconst (E := E_Law_law L xs) (pc := 517) (cks_at k_Law_law 295 rfl rfl) ?_
      refine tq_iadd (E := E_Law_law L xs) (pc := 518) (cks_at k_Law_law 296 rfl rfl) ?_
      refine tq_scrL (E := E_Law_law L xs) (pc := 519) trivial (cks_at k_Law_law 297 rfl rfl) ?_
      refine tq_aload_n 0 (E := E_Law_law L xs) (pc := 520) (cks_at k_Law_law 298 rfl rfl) rfl ?_
      refine tq_iload_n 3 (E := E_Law_law L xs) (pc := 521) (cks_at k_Law_law 299 rfl rfl) rfl ?_
      refine tq_iconst (E := E_Law_law L xs) (pc := 522) (cks_at k_Law_law 300 rfl rfl) ?_
      refine tq_iadd (E := E_Law_law L xs) (pc := 523) (cks_at k_Law_law 301 rfl rfl) ?_
      refine tq_scrL (E := E_Law_law L xs) (pc := 524) trivial (cks_at k_Law_law 302 rfl rfl) ?_
      refine tq_aload_n 0 (E := E_Law_law L xs) (pc := 525) (cks_at k_Law_law 303 rfl rfl) rfl ?_
      refine tq_iload_n 3 (E := E_Law_law L xs) (pc := 526) (cks_at k_Law_law 304 rfl rfl) rfl ?_
      refine tq_iconst (E := E_Law_law L xs) (pc := 527) (cks_at k_Law_law 305 rfl rfl) ?_
      refine tq_iadd (E := E_Law_law L xs) (pc := 528) (cks_at k_Law_law 306 rfl rfl) ?_
      refine tq_scrL (E := E_Law_law L xs) (pc := 529) trivial (cks_at k_Law_law 307 rfl rfl) ?_
      refine tq_V3 (E := E_Law_law L xs) (pc := 530) (cks_at k_Law_law 308 rfl rfl) mk_BT_next lk_Law_59 rc_0 (Nat.le_of_ble_eq_true rfl) (c_BT_next (0 + 124) ((xs (i32 (v3 + 1)).toNat).toInt) ((xs (i32 (v3 + 2)).toNat).toInt) ((xs (i32 (v3 + 3)).toNat).toInt) M) (k_I fun r53 M52 => ?_)
      refine tq_aload_n 2 (E := E_Law_law L xs) (pc := 533) (cks_at k_Law_law 309 rfl rfl) rfl ?_
      refine tq_aload_n 0 (E := E_Law_law L xs) (pc := 534) (cks_at k_Law_law 310 rfl rfl) rfl ?_
      refine tq_iload_n 3 (E := E_Law_law L xs) (pc := 535) (cks_at k_Law_law 311 rfl rfl) rfl ?_
      refine tq_iconst (E := E_Law_law L xs) (pc := 536) (cks_at k_Law_law 312 rfl rfl) ?_
      refine tq_iadd (E := E_Law_law L xs) (pc := 537) (cks_at k_Law_law 313 rfl rfl) ?_
      refine tq_scrL (E := E_Law_law L xs) (pc := 538) trivial (cks_at k_Law_law 314 rfl rfl) ?_
      refine tq_aload_n 0 (E := E_Law_law L xs) (pc := 539) (cks_at k_Law_law 315 rfl rfl) rfl ?_
      refine tq_iload_n 3 (E := E_Law_law L xs) (pc := 540) (cks_at k_Law_law 316 rfl rfl) rfl ?_
      refine tq_iconst (E := E_Law_law L xs) (pc := 541) (cks_at k_Law_law 317 rfl rfl) ?_
      refine tq_iadd (E := E_Law_law L xs) (pc := 542) (cks_at k_Law_law 318 rfl rfl) ?_
      refine tq_scrL (E := E_Law_law L xs) (pc := 543) trivial (cks_at k_Law_law 319 rfl rfl) ?_
      refine tq_aload_n 0 (E := E_Law_law L xs) (pc := 544) (cks_at k_Law_law 320 rfl rfl) rfl ?_
      refine tq_iload_n 3 (E := E_Law_law L xs) (pc := 545) (cks_at k_Law_law 321 rfl rfl) rfl ?_
      refine tq_iconst (E := E_Law_law L xs) (pc := 546) (cks_at k_Law_law 322 rfl rfl) ?_
      refine tq_iadd (E := E_Law_law L xs) (pc := 547) (cks_at k_Law_law 323 rfl rfl) ?_
      refine tq_scrL (E := E_Law_law L xs) (pc := 548) trivial (cks_at k_Law_law 324 rfl rfl) ?_
      refine tq_V3 (E := E_Law_law L xs) (pc := 549) (cks_at k_Law_law 325 rfl rfl) mk_M_next lk_Law_62 rc_78 (Nat.le_of_ble_eq_true rfl) (c_M_next (0 + 122) ((xs (i32 (v3 + 1)).toNat).toInt) ((xs (i32 (v3 + 2)).toNat).toInt) ((xs (i32 (v3 + 3)).toNat).toInt) M52) (k_I fun r55 M54 => ?_)
      refine tq_icmp_eq (E := E_Law_law L xs) (pc := 552) (tgt := 1177) (cks_at k_Law_law 326 rfl rfl) (by decide) ?_ ?_
      · refine tq_iinc 3 (E := E_Law_law L xs) (pc := 1177) (cks_at k_Law_law 811 rfl rfl) rfl (show 3 < 4 by decide) rfl ?_
        refine tq_goto (tgt := 18) (E := E_Law_law L xs) (pc := 1180) (cks_at k_Law_law 812 rfl rfl) (by decide) ?_
        exact tq_sub [1, 2, 3, 0] rfl (hkH (v3 + 6) M54)
      · refine tq_iconst (E := E_Law_law L xs) (pc := 555) (cks_at k_Law_law 327 rfl rfl) ?_
        exact tq_zretC (E := E_Law_law L xs) (pc := 556) (cks_at k_Law_law 328 rfl rfl) rfl (by decide)
    refine tq_tsC (E := E_Law_law L xs) (pc := 33) (tgt := 557) (off := 524) (w := 11) 11 k_Law_law_33 (by decide) rfl (by decide) ?_ (fun h56 => ?_)
    · refine tq_aload_n 1 (E := E_Law_law L xs) (pc := 557) (cks_at k_Law_law 329 rfl rfl) rfl ?_
      refine tq_aload_n 0 (E := E_Law_law L xs) (pc := 558) (cks_at k_Law_law 330 rfl rfl) rfl ?_
      refine tq_iload_n 3 (E := E_Law_law L xs) (pc := 559) (cks_at k_Law_law 331 rfl rfl) rfl ?_
      refine tq_iconst (E := E_Law_law L xs) (pc := 560) (cks_at k_Law_law 332 rfl rfl) ?_
      refine tq_iadd (E := E_Law_law L xs) (pc := 561) (cks_at k_Law_law 333 rfl rfl) ?_
      refine tq_scrL (E := E_Law_law L xs) (pc := 562) trivial (cks_at k_Law_law 334 rfl rfl) ?_
      refine tq_aload_n 0 (E := E_Law_law L xs) (pc := 563) (cks_at k_Law_law 335 rfl rfl) rfl ?_
      refine tq_iload_n 3 (E := E_Law_law L xs) (pc := 564) (cks_at k_Law_law 336 rfl rfl) rfl ?_
      refine tq_iconst (E := E_Law_law L xs) (pc := 565) (cks_at k_Law_law 337 rfl rfl) ?_
      refine tq_iadd (E := E_Law_law L xs) (pc := 566) (cks_at k_Law_law 338 rfl rfl) ?_
      refine tq_scrL (E := E_Law_law L xs) (pc := 567) trivial (cks_at k_Law_law 339 rfl rfl) ?_
      refine tq_aload_n 0 (E := E_Law_law L xs) (pc := 568) (cks_at k_Law_law 340 rfl rfl) rfl ?_
      refine tq_iload_n 3 (E := E_Law_law L xs) (pc := 569) (cks_at k_Law_law 341 rfl rfl) rfl ?_
      refine tq_iconst (E := E_Law_law L xs) (pc := 570) (cks_at k_Law_law 342 rfl rfl) ?_
      refine tq_iadd (E := E_Law_law L xs) (pc := 571) (cks_at k_Law_law 343 rfl rfl) ?_
      refine tq_scrL (E := E_Law_law L xs) (pc := 572) trivial (cks_at k_Law_law 344 rfl rfl) ?_
      refine tq_aload_n 0 (E := E_Law_law L xs) (pc := 573) (cks_at k_Law_law 345 rfl rfl) rfl ?_
      refine tq_iload_n 3 (E := E_Law_law L xs) (pc := 574) (cks_at k_Law_law 346 rfl rfl) rfl ?_
      refine tq_iconst (E := E_Law_law L xs) (pc := 575) (cks_at k_Law_law 347 rfl rfl) ?_
      refine tq_iadd (E := E_Law_law L xs) (pc := 576) (cks_at k_Law_law 348 rfl rfl) ?_
      refine tq_scrL (E := E_Law_law L xs) (pc := 577) trivial (cks_at k_Law_law 349 rfl rfl) ?_
      refine tq_V4 (E := E_Law_law L xs) (pc := 578) (cks_at k_Law_law 350 rfl rfl) mk_BT_often lk_Law_63 rc_0 (Nat.le_of_ble_eq_true rfl) (c_BT_often (0 + 123) ((xs (i32 (v3 + 1)).toNat).toInt) ((xs (i32 (v3 + 2)).toNat).toInt) ((xs (i32 (v3 + 3)).toNat).toInt) ((xs (i32 (v3 + 4)).toNat).toInt) M) (k_I fun r58 M57 => ?_)
      refine tq_aload_n 2 (E := E_Law_law L xs) (pc := 581) (cks_at k_Law_law 351 rfl rfl) rfl ?_
      refine tq_aload_n 0 (E := E_Law_law L xs) (pc := 582) (cks_at k_Law_law 352 rfl rfl) rfl ?_
      refine tq_iload_n 3 (E := E_Law_law L xs) (pc := 583) (cks_at k_Law_law 353 rfl rfl) rfl ?_
      refine tq_iconst (E := E_Law_law L xs) (pc := 584) (cks_at k_Law_law 354 rfl rfl) ?_
      refine tq_iadd (E := E_Law_law L xs) (pc := 585) (cks_at k_Law_law 355 rfl rfl) ?_
      refine tq_scrL (E := E_Law_law L xs) (pc := 586) trivial (cks_at k_Law_law 356 rfl rfl) ?_
      refine tq_aload_n 0 (E := E_Law_law L xs) (pc := 587) (cks_at k_Law_law 357 rfl rfl) rfl ?_
      refine tq_iload_n 3 (E := E_Law_law L xs) (pc := 588) (cks_at k_Law_law 358 rfl rfl) rfl ?_
      refine tq_iconst (E := E_Law_law L xs) (pc := 589) (cks_at k_Law_law 359 rfl rfl) ?_
      refine tq_iadd (E := E_Law_law L xs) (pc := 590) (cks_at k_Law_law 360 rfl rfl) ?_
      refine tq_scrL (E := E_Law_law L xs) (pc := 591) trivial (cks_at k_Law_law 361 rfl rfl) ?_
      refine tq_aload_n 0 (E := E_Law_law L xs) (pc := 592) (cks_at k_Law_law 362 rfl rfl) rfl ?_
      refine tq_iload_n 3 (E := E_Law_law L xs) (pc := 593) (cks_at k_Law_law 363 rfl rfl) rfl ?_
      refine tq_iconst (E := E_Law_law L xs) (pc := 594) (cks_at k_Law_law 364 rfl rfl) ?_
      refine tq_iadd (E := E_Law_law L xs) (pc := 595) (cks_at k_Law_law 365 rfl rfl) ?_
      refine tq_scrL (E := E_Law_law L xs) (pc := 596) trivial (cks_at k_Law_law 366 rfl rfl) ?_
      refine tq_aload_n 0 (E := E_Law_law L xs) (pc := 597) (cks_at k_Law_law 367 rfl rfl) rfl ?_
      refine tq_iload_n 3 (E := E_Law_law L xs) (pc := 598) (cks_at k_Law_law 368 rfl rfl) rfl ?_
      refine tq_iconst (E := E_Law_law L xs) (pc := 599) (cks_at k_Law_law 369 rfl rfl) ?_
      refine tq_iadd (E := E_Law_law L xs) (pc := 600) (cks_at k_Law_law 370 rfl rfl) ?_
      refine tq_scrL (E := E_Law_law L xs) (pc := 601) trivial (cks_at k_Law_law 371 rfl rfl) ?_
      refine tq_V4 (E := E_Law_law L xs) (pc := 602) (cks_at k_Law_law 372 rfl rfl) mk_M_often lk_Law_67 rc_78 (Nat.le_of_ble_eq_true rfl) (c_M_often (0 + 122) ((xs (i32 (v3 + 1)).toNat).toInt) ((xs (i32 (v3 + 2)).toNat).toInt) ((xs (i32 (v3 + 3)).toNat).toInt) ((xs (i32 (v3 + 4)).toNat).toInt) M57) (k_I fun r60 M59 => ?_)
      refine tq_icmp_eq (E := E_Law_law L xs) (pc := 605) (tgt := 1177) (cks_at k_Law_law 373 rfl rfl) (by decide) ?_ ?_
      · refine tq_iinc 3 (E := E_Law_law L xs) (pc := 1177) (cks_at k_Law_law 811 rfl rfl) rfl (show 3 < 4 by decide) rfl ?_
        refine tq_goto (tgt := 18) (E := E_Law_law L xs) (pc := 1180) (cks_at k_Law_law 812 rfl rfl) (by decide) ?_
        exact tq_sub [1, 2, 3, 0] rfl (hkH (v3 + 6) M59)
      · refine tq_iconst (E := E_Law_law L xs) (pc := 608) (cks_at k_Law_law 374 rfl rfl) ?_
        exact tq_zretC (E := E_Law_law L xs) (pc := 609) (cks_at k_Law_law 375 rfl rfl) rfl (by decide)
    refine tq_tsC (E := E_Law_law L xs) (pc := 33) (tgt := 610) (off := 577) (w := 12) 12 k_Law_law_33 (by decide) rfl (by decide) ?_ (fun h61 => ?_)
    · refine tq_aload_n 1 (E := E_Law_law L xs) (pc := 610) (cks_at k_Law_law 376 rfl rfl) rfl ?_
      refine tq_aload_n 0 (E := E_Law_law L xs) (pc := 611) (cks_at k_Law_law 377 rfl rfl) rfl ?_
      refine tq_iload_n 3 (E := E_Law_law L xs) (pc := 612) (cks_at k_Law_law 378 rfl rfl) rfl ?_
      refine tq_iconst (E := E_Law_law L xs) (pc := 613) (cks_at k_Law_law 379 rfl rfl) ?_
      refine tq_iadd (E := E_Law_law L xs) (pc := 614) (cks_at k_Law_law 380 rfl rfl) ?_
      refine tq_scrL (E := E_Law_law L xs) (pc := 615) trivial (cks_at k_Law_law 381 rfl rfl) ?_
      refine tq_aload_n 0 (E := E_Law_law L xs) (pc := 616) (cks_at k_Law_law 382 rfl rfl) rfl ?_
      refine tq_iload_n 3 (E := E_Law_law L xs) (pc := 617) (cks_at k_Law_law 383 rfl rfl) rfl ?_
      refine tq_iconst (E := E_Law_law L xs) (pc := 618) (cks_at k_Law_law 384 rfl rfl) ?_
      refine tq_iadd (E := E_Law_law L xs) (pc := 619) (cks_at k_Law_law 385 rfl rfl) ?_
      refine tq_scrL (E := E_Law_law L xs) (pc := 620) trivial (cks_at k_Law_law 386 rfl rfl) ?_
      refine tq_V2 (E := E_Law_law L xs) (pc := 621) (cks_at k_Law_law 387 rfl rfl) mk_BT_wide lk_Law_68 rc_0 (Nat.le_of_ble_eq_true rfl) (c_BT_wide (0 + 122) ((xs (i32 (v3 + 1)).toNat).toInt) ((xs (i32 (v3 + 2)).toNat).toInt) M) (k_I fun r63 M62 => ?_)
      refine tq_aload_n 2 (E := E_Law_law L xs) (pc := 624) (cks_at k_Law_law 388 rfl rfl) rfl ?_
      refine tq_aload_n 0 (E := E_Law_law L xs) (pc := 625) (cks_at k_Law_law 389 rfl rfl) rfl ?_
      refine tq_iload_n 3 (E := E_Law_law L xs) (pc := 626) (cks_at k_Law_law 390 rfl rfl) rfl ?_
      refine tq_iconst (E := E_Law_law L xs) (pc := 627) (cks_at k_Law_law 391 rfl rfl) ?_
      refine tq_iadd (E := E_Law_law L xs) (pc := 628) (cks_at k_Law_law 392 rfl rfl) ?_
      refine tq_scrL (E := E_Law_law L xs) (pc := 629) trivial (cks_at k_Law_law 393 rfl rfl) ?_
      refine tq_aload_n 0 (E := E_Law_law L xs) (pc := 630) (cks_at k_Law_law 394 rfl rfl) rfl ?_
      refine tq_iload_n 3 (E := E_Law_law L xs) (pc := 631) (cks_at k_Law_law 395 rfl rfl) rfl ?_
      refine tq_iconst (E := E_Law_law L xs) (pc := 632) (cks_at k_Law_law 396 rfl rfl) ?_
      refine tq_iadd (E := E_Law_law L xs) (pc := 633) (cks_at k_Law_law 397 rfl rfl) ?_
      refine tq_scrL (E := E_Law_law L xs) (pc := 634) trivial (cks_at k_Law_law 398 rfl rfl) ?_
      refine tq_V2 (E := E_Law_law L xs) (pc := 635) (cks_at k_Law_law 399 rfl rfl) mk_M_wide lk_Law_71 rc_78 (Nat.le_of_ble_eq_true rfl) (c_M_wide (0 + 123) ((xs (i32 (v3 + 1)).toNat).toInt) ((xs (i32 (v3 + 2)).toNat).toInt) M62) (k_I fun r65 M64 => ?_)
      refine tq_icmp_eq (E := E_Law_law L xs) (pc := 638) (tgt := 1177) (cks_at k_Law_law 400 rfl rfl) (by decide) ?_ ?_
      · refine tq_iinc 3 (E := E_Law_law L xs) (pc := 1177) (cks_at k_Law_law 811 rfl rfl) rfl (show 3 < 4 by decide) rfl ?_
        refine tq_goto (tgt := 18) (E := E_Law_law L xs) (pc := 1180) (cks_at k_Law_law 812 rfl rfl) (by decide) ?_
        exact tq_sub [1, 2, 3, 0] rfl (hkH (v3 + 6) M64)
      · refine tq_iconst (E := E_Law_law L xs) (pc := 641) (cks_at k_Law_law 401 rfl rfl) ?_
        exact tq_zretC (E := E_Law_law L xs) (pc := 642) (cks_at k_Law_law 402 rfl rfl) rfl (by decide)
    refine tq_tsC (E := E_Law_law L xs) (pc := 33) (tgt := 643) (off := 610) (w := 13) 13 k_Law_law_33 (by decide) rfl (by decide) ?_ (fun h66 => ?_)
    · refine tq_aload_n 1 (E := E_Law_law L xs) (pc := 643) (cks_at k_Law_law 403 rfl rfl) rfl ?_
      refine tq_aload_n 0 (E := E_Law_law L xs) (pc := 644) (cks_at k_Law_law 404 rfl rfl) rfl ?_
      refine tq_iload_n 3 (E := E_Law_law L xs) (pc := 645) (cks_at k_Law_law 405 rfl rfl) rfl ?_
      refine tq_iconst (E := E_Law_law L xs) (pc := 646) (cks_at k_Law_law 406 rfl rfl) ?_
      refine tq_iadd (E := E_Law_law L xs) (pc := 647) (cks_at k_Law_law 407 rfl rfl) ?_
      refine tq_scrL (E := E_Law_law L xs) (pc := 648) trivial (cks_at k_Law_law 408 rfl rfl) ?_
      refine tq_aload_n 0 (E := E_Law_law L xs) (pc := 649) (cks_at k_Law_law 409 rfl rfl) rfl ?_
      refine tq_iload_n 3 (E := E_Law_law L xs) (pc := 650) (cks_at k_Law_law 410 rfl rfl) rfl ?_
      refine tq_iconst (E := E_Law_law L xs) (pc := 651) (cks_at k_Law_law 411 rfl rfl) ?_
      refine tq_iadd (E := E_Law_law L xs) (pc := 652) (cks_at k_Law_law 412 rfl rfl) ?_
      refine tq_scrL (E := E_Law_law L xs) (pc := 653) trivial (cks_at k_Law_law 413 rfl rfl) ?_
      refine tq_V2 (E := E_Law_law L xs) (pc := 654) (cks_at k_Law_law 414 rfl rfl) mk_BT_way lk_Law_72 rc_0 (Nat.le_of_ble_eq_true rfl) (c_BT_way (0 + 121) ((xs (i32 (v3 + 1)).toNat).toInt) ((xs (i32 (v3 + 2)).toNat).toInt) M) (k_I fun r68 M67 => ?_)
      refine tq_aload_n 2 (E := E_Law_law L xs) (pc := 657) (cks_at k_Law_law 415 rfl rfl) rfl ?_
      refine tq_aload_n 0 (E := E_Law_law L xs) (pc := 658) (cks_at k_Law_law 416 rfl rfl) rfl ?_
      refine tq_iload_n 3 (E := E_Law_law L xs) (pc := 659) (cks_at k_Law_law 417 rfl rfl) rfl ?_
      refine tq_iconst (E := E_Law_law L xs) (pc := 660) (cks_at k_Law_law 418 rfl rfl) ?_
      refine tq_iadd (E := E_Law_law L xs) (pc := 661) (cks_at k_Law_law 419 rfl rfl) ?_
      refine tq_scrL (E := E_Law_law L xs) (pc := 662) trivial (cks_at k_Law_law 420 rfl rfl) ?_
      refine tq_aload_n 0 (E := E_Law_law L xs) (pc := 663) (cks_at k_Law_law 421 rfl rfl) rfl ?_
      refine tq_iload_n 3 (E := E_Law_law L xs) (pc := 664) (cks_at k_Law_law 422 rfl rfl) rfl ?_
      refine tq_iconst (E := E_Law_law L xs) (pc := 665) (cks_at k_Law_law 423 rfl rfl) ?_
      refine tq_iadd (E := E_Law_law L xs) (pc := 666) (cks_at k_Law_law 424 rfl rfl) ?_
      refine tq_scrL (E := E_Law_law L xs) (pc := 667) trivial (cks_at k_Law_law 425 rfl rfl) ?_
      refine tq_V2 (E := E_Law_law L xs) (pc := 668) (cks_at k_Law_law 426 rfl rfl) mk_M_way lk_Law_75 rc_78 (Nat.le_of_ble_eq_true rfl) (c_M_way (0 + 115) ((xs (i32 (v3 + 1)).toNat).toInt) ((xs (i32 (v3 + 2)).toNat).toInt) M67) (k_I fun r70 M69 => ?_)
      refine tq_icmp_eq (E := E_Law_law L xs) (pc := 671) (tgt := 1177) (cks_at k_Law_law 427 rfl rfl) (by decide) ?_ ?_
      · refine tq_iinc 3 (E := E_Law_law L xs) (pc := 1177) (cks_at k_Law_law 811 rfl rfl) rfl (show 3 < 4 by decide) rfl ?_
        refine tq_goto (tgt := 18) (E := E_Law_law L xs) (pc := 1180) (cks_at k_Law_law 812 rfl rfl) (by decide) ?_
        exact tq_sub [1, 2, 3, 0] rfl (hkH (v3 + 6) M69)
      · refine tq_iconst (E := E_Law_law L xs) (pc := 674) (cks_at k_Law_law 428 rfl rfl) ?_
        exact tq_zretC (E := E_Law_law L xs) (pc := 675) (cks_at k_Law_law 429 rfl rfl) rfl (by decide)
    refine tq_tsC (E := E_Law_law L xs) (pc := 33) (tgt := 676) (off := 643) (w := 14) 14 k_Law_law_33 (by decide) rfl (by decide) ?_ (fun h71 => ?_)
    · refine tq_aload_n 1 (E := E_Law_law L xs) (pc := 676) (cks_at k_Law_law 430 rfl rfl) rfl ?_
      refine tq_aload_n 0 (E := E_Law_law L xs) (pc := 677) (cks_at k_Law_law 431 rfl rfl) rfl ?_
      refine tq_iload_n 3 (E := E_Law_law L xs) (pc := 678) (cks_at k_Law_law 432 rfl rfl) rfl ?_
      refine tq_iconst (E := E_Law_law L xs) (pc := 679) (cks_at k_Law_law 433 rfl rfl) ?_
      refine tq_iadd (E := E_Law_law L xs) (pc := 680) (cks_at k_Law_law 434 rfl rfl) ?_
      refine tq_scrL (E := E_Law_law L xs) (pc := 681) trivial (cks_at k_Law_law 435 rfl rfl) ?_
      refine tq_aload_n 0 (E := E_Law_law L xs) (pc := 682) (cks_at k_Law_law 436 rfl rfl) rfl ?_
      refine tq_iload_n 3 (E := E_Law_law L xs) (pc := 683) (cks_at k_Law_law 437 rfl rfl) rfl ?_
      refine tq_iconst (E := E_Law_law L xs) (pc := 684) (cks_at k_Law_law 438 rfl rfl) ?_
      refine tq_iadd (E := E_Law_law L xs) (pc := 685) (cks_at k_Law_law 439 rfl rfl) ?_
      refine tq_scrL (E := E_Law_law L xs) (pc := 686) trivial (cks_at k_Law_law 440 rfl rfl) ?_
      refine tq_V2 (E := E_Law_law L xs) (pc := 687) (cks_at k_Law_law 441 rfl rfl) mk_BT_arrival lk_Law_76 rc_0 (Nat.le_of_ble_eq_true rfl) (c_BT_arrival (0 + 122) ((xs (i32 (v3 + 1)).toNat).toInt) ((xs (i32 (v3 + 2)).toNat).toInt) M) (k_I fun r73 M72 => ?_)
      refine tq_aload_n 2 (E := E_Law_law L xs) (pc := 690) (cks_at k_Law_law 442 rfl rfl) rfl ?_
      refine tq_aload_n 0 (E := E_Law_law L xs) (pc := 691) (cks_at k_Law_law 443 rfl rfl) rfl ?_
      refine tq_iload_n 3 (E := E_Law_law L xs) (pc := 692) (cks_at k_Law_law 444 rfl rfl) rfl ?_
      refine tq_iconst (E := E_Law_law L xs) (pc := 693) (cks_at k_Law_law 445 rfl rfl) ?_
      refine tq_iadd (E := E_Law_law L xs) (pc := 694) (cks_at k_Law_law 446 rfl rfl) ?_
      refine tq_scrL (E := E_Law_law L xs) (pc := 695) trivial (cks_at k_Law_law 447 rfl rfl) ?_
      refine tq_aload_n 0 (E := E_Law_law L xs) (pc := 696) (cks_at k_Law_law 448 rfl rfl) rfl ?_
      refine tq_iload_n 3 (E := E_Law_law L xs) (pc := 697) (cks_at k_Law_law 449 rfl rfl) rfl ?_
      refine tq_iconst (E := E_Law_law L xs) (pc := 698) (cks_at k_Law_law 450 rfl rfl) ?_
      refine tq_iadd (E := E_Law_law L xs) (pc := 699) (cks_at k_Law_law 451 rfl rfl) ?_
      refine tq_scrL (E := E_Law_law L xs) (pc := 700) trivial (cks_at k_Law_law 452 rfl rfl) ?_
      refine tq_V2 (E := E_Law_law L xs) (pc := 701) (cks_at k_Law_law 453 rfl rfl) mk_M_arrival lk_Law_79 rc_78 (Nat.le_of_ble_eq_true rfl) (c_M_arrival (0 + 117) ((xs (i32 (v3 + 1)).toNat).toInt) ((xs (i32 (v3 + 2)).toNat).toInt) M72) (k_I fun r75 M74 => ?_)
      refine tq_icmp_eq (E := E_Law_law L xs) (pc := 704) (tgt := 1177) (cks_at k_Law_law 454 rfl rfl) (by decide) ?_ ?_
      · refine tq_iinc 3 (E := E_Law_law L xs) (pc := 1177) (cks_at k_Law_law 811 rfl rfl) rfl (show 3 < 4 by decide) rfl ?_
        refine tq_goto (tgt := 18) (E := E_Law_law L xs) (pc := 1180) (cks_at k_Law_law 812 rfl rfl) (by decide) ?_
        exact tq_sub [1, 2, 3, 0] rfl (hkH (v3 + 6) M74)
      · refine tq_iconst (E := E_Law_law L xs) (pc := 707) (cks_at k_Law_law 455 rfl rfl) ?_
        exact tq_zretC (E := E_Law_law L xs) (pc := 708) (cks_at k_Law_law 456 rfl rfl) rfl (by decide)
    refine tq_tsC (E := E_Law_law L xs) (pc := 33) (tgt := 709) (off := 676) (w := 15) 15 k_Law_law_33 (by decide) rfl (by decide) ?_ (fun h76 => ?_)
    · refine tq_aload_n 1 (E := E_Law_law L xs) (pc := 709) (cks_at k_Law_law 457 rfl rfl) rfl ?_
      refine tq_aload_n 0 (E := E_Law_law L xs) (pc := 710) (cks_at k_Law_law 458 rfl rfl) rfl ?_
      refine tq_iload_n 3 (E := E_Law_law L xs) (pc := 711) (cks_at k_Law_law 459 rfl rfl) rfl ?_
      refine tq_iconst (E := E_Law_law L xs) (pc := 712) (cks_at k_Law_law 460 rfl rfl) ?_
      refine tq_iadd (E := E_Law_law L xs) (pc := 713) (cks_at k_Law_law 461 rfl rfl) ?_
      refine tq_scrL (E := E_Law_law L xs) (pc := 714) trivial (cks_at k_Law_law 462 rfl rfl) ?_
      refine tq_aload_n 0 (E := E_Law_law L xs) (pc := 715) (cks_at k_Law_law 463 rfl rfl) rfl ?_
      refine tq_iload_n 3 (E := E_Law_law L xs) (pc := 716) (cks_at k_Law_law 464 rfl rfl) rfl ?_
      refine tq_iconst (E := E_Law_law L xs) (pc := 717) (cks_at k_Law_law 465 rfl rfl) ?_
      refine tq_iadd (E := E_Law_law L xs) (pc := 718) (cks_at k_Law_law 466 rfl rfl) ?_
      refine tq_scrL (E := E_Law_law L xs) (pc := 719) trivial (cks_at k_Law_law 467 rfl rfl) ?_
      refine tq_V2 (E := E_Law_law L xs) (pc := 720) (cks_at k_Law_law 468 rfl rfl) mk_BT_stuck lk_Law_80 rc_0 (Nat.le_of_ble_eq_true rfl) (c_BT_stuck (0 + 122) ((xs (i32 (v3 + 1)).toNat).toInt) ((xs (i32 (v3 + 2)).toNat).toInt) M) (k_I fun r78 M77 => ?_)
      refine tq_aload_n 2 (E := E_Law_law L xs) (pc := 723) (cks_at k_Law_law 469 rfl rfl) rfl ?_
      refine tq_aload_n 0 (E := E_Law_law L xs) (pc := 724) (cks_at k_Law_law 470 rfl rfl) rfl ?_
      refine tq_iload_n 3 (E := E_Law_law L xs) (pc := 725) (cks_at k_Law_law 471 rfl rfl) rfl ?_
      refine tq_iconst (E := E_Law_law L xs) (pc := 726) (cks_at k_Law_law 472 rfl rfl) ?_
      refine tq_iadd (E := E_Law_law L xs) (pc := 727) (cks_at k_Law_law 473 rfl rfl) ?_
      refine tq_scrL (E := E_Law_law L xs) (pc := 728) trivial (cks_at k_Law_law 474 rfl rfl) ?_
      refine tq_aload_n 0 (E := E_Law_law L xs) (pc := 729) (cks_at k_Law_law 475 rfl rfl) rfl ?_
      refine tq_iload_n 3 (E := E_Law_law L xs) (pc := 730) (cks_at k_Law_law 476 rfl rfl) rfl ?_
      refine tq_iconst (E := E_Law_law L xs) (pc := 731) (cks_at k_Law_law 477 rfl rfl) ?_
      refine tq_iadd (E := E_Law_law L xs) (pc := 732) (cks_at k_Law_law 478 rfl rfl) ?_
      refine tq_scrL (E := E_Law_law L xs) (pc := 733) trivial (cks_at k_Law_law 479 rfl rfl) ?_
      refine tq_V2 (E := E_Law_law L xs) (pc := 734) (cks_at k_Law_law 480 rfl rfl) mk_M_stuck lk_Law_83 rc_78 (Nat.le_of_ble_eq_true rfl) (c_M_stuck (0 + 124) ((xs (i32 (v3 + 1)).toNat).toInt) ((xs (i32 (v3 + 2)).toNat).toInt) M77) (k_I fun r80 M79 => ?_)
      refine tq_icmp_eq (E := E_Law_law L xs) (pc := 737) (tgt := 1177) (cks_at k_Law_law 481 rfl rfl) (by decide) ?_ ?_
      · refine tq_iinc 3 (E := E_Law_law L xs) (pc := 1177) (cks_at k_Law_law 811 rfl rfl) rfl (show 3 < 4 by decide) rfl ?_
        refine tq_goto (tgt := 18) (E := E_Law_law L xs) (pc := 1180) (cks_at k_Law_law 812 rfl rfl) (by decide) ?_
        exact tq_sub [1, 2, 3, 0] rfl (hkH (v3 + 6) M79)
      · refine tq_iconst (E := E_Law_law L xs) (pc := 740) (cks_at k_Law_law 482 rfl rfl) ?_
        exact tq_zretC (E := E_Law_law L xs) (pc := 741) (cks_at k_Law_law 483 rfl rfl) rfl (by decide)
    refine tq_tsC (E := E_Law_law L xs) (pc := 33) (tgt := 742) (off := 709) (w := 16) 16 k_Law_law_33 (by decide) rfl (by decide) ?_ (fun h81 => ?_)
    · refine tq_aload_n 1 (E := E_Law_law L xs) (pc := 742) (cks_at k_Law_law 484 rfl rfl) rfl ?_
      refine tq_aload_n 0 (E := E_Law_law L xs) (pc := 743) (cks_at k_Law_law 485 rfl rfl) rfl ?_
      refine tq_iload_n 3 (E := E_Law_law L xs) (pc := 744) (cks_at k_Law_law 486 rfl rfl) rfl ?_
      refine tq_iconst (E := E_Law_law L xs) (pc := 745) (cks_at k_Law_law 487 rfl rfl) ?_
      refine tq_iadd (E := E_Law_law L xs) (pc := 746) (cks_at k_Law_law 488 rfl rfl) ?_
      refine tq_scrL (E := E_Law_law L xs) (pc := 747) trivial (cks_at k_Law_law 489 rfl rfl) ?_
      refine tq_V1 (E := E_Law_law L xs) (pc := 748) (cks_at k_Law_law 490 rfl rfl) mk_BT_needed lk_Law_84 rc_0 (Nat.le_of_ble_eq_true rfl) (c_BT_needed (0 + 121) ((xs (i32 (v3 + 1)).toNat).toInt) M) (k_I fun r83 M82 => ?_)
      refine tq_aload_n 2 (E := E_Law_law L xs) (pc := 751) (cks_at k_Law_law 491 rfl rfl) rfl ?_
      refine tq_aload_n 0 (E := E_Law_law L xs) (pc := 752) (cks_at k_Law_law 492 rfl rfl) rfl ?_
      refine tq_iload_n 3 (E := E_Law_law L xs) (pc := 753) (cks_at k_Law_law 493 rfl rfl) rfl ?_
      refine tq_iconst (E := E_Law_law L xs) (pc := 754) (cks_at k_Law_law 494 rfl rfl) ?_
      refine tq_iadd (E := E_Law_law L xs) (pc := 755) (cks_at k_Law_law 495 rfl rfl) ?_
      refine tq_scrL (E := E_Law_law L xs) (pc := 756) trivial (cks_at k_Law_law 496 rfl rfl) ?_
      refine tq_V1 (E := E_Law_law L xs) (pc := 757) (cks_at k_Law_law 497 rfl rfl) mk_M_needed lk_Law_87 rc_78 (Nat.le_of_ble_eq_true rfl) (c_M_needed (0 + 115) ((xs (i32 (v3 + 1)).toNat).toInt) M82) (k_I fun r85 M84 => ?_)
      refine tq_icmp_eq (E := E_Law_law L xs) (pc := 760) (tgt := 1177) (cks_at k_Law_law 498 rfl rfl) (by decide) ?_ ?_
      · refine tq_iinc 3 (E := E_Law_law L xs) (pc := 1177) (cks_at k_Law_law 811 rfl rfl) rfl (show 3 < 4 by decide) rfl ?_
        refine tq_goto (tgt := 18) (E := E_Law_law L xs) (pc := 1180) (cks_at k_Law_law 812 rfl rfl) (by decide) ?_
        exact tq_sub [1, 2, 3, 0] rfl (hkH (v3 + 6) M84)
      · refine tq_iconst (E := E_Law_law L xs) (pc := 763) (cks_at k_Law_law 499 rfl rfl) ?_
        exact tq_zretC (E := E_Law_law L xs) (pc := 764) (cks_at k_Law_law 500 rfl rfl) rfl (by decide)
    refine tq_tsC (E := E_Law_law L xs) (pc := 33) (tgt := 765) (off := 732) (w := 17) 17 k_Law_law_33 (by decide) rfl (by decide) ?_ (fun h86 => ?_)
    · refine tq_aload_n 1 (E := E_Law_law L xs) (pc := 765) (cks_at k_Law_law 501 rfl rfl) rfl ?_
      refine tq_aload_n 0 (E := E_Law_law L xs) (pc := 766) (cks_at k_Law_law 502 rfl rfl) rfl ?_
      refine tq_iload_n 3 (E := E_Law_law L xs) (pc := 767) (cks_at k_Law_law 503 rfl rfl) rfl ?_
      refine tq_iconst (E := E_Law_law L xs) (pc := 768) (cks_at k_Law_law 504 rfl rfl) ?_
      refine tq_iadd (E := E_Law_law L xs) (pc := 769) (cks_at k_Law_law 505 rfl rfl) ?_
      refine tq_scrL (E := E_Law_law L xs) (pc := 770) trivial (cks_at k_Law_law 506 rfl rfl) ?_
      refine tq_aload_n 0 (E := E_Law_law L xs) (pc := 771) (cks_at k_Law_law 507 rfl rfl) rfl ?_
      refine tq_iload_n 3 (E := E_Law_law L xs) (pc := 772) (cks_at k_Law_law 508 rfl rfl) rfl ?_
      refine tq_iconst (E := E_Law_law L xs) (pc := 773) (cks_at k_Law_law 509 rfl rfl) ?_
      refine tq_iadd (E := E_Law_law L xs) (pc := 774) (cks_at k_Law_law 510 rfl rfl) ?_
      refine tq_scrL (E := E_Law_law L xs) (pc := 775) trivial (cks_at k_Law_law 511 rfl rfl) ?_
      refine tq_V2 (E := E_Law_law L xs) (pc := 776) (cks_at k_Law_law 512 rfl rfl) mk_BT_parade lk_Law_88 rc_0 (Nat.le_of_ble_eq_true rfl) (c_BT_parade (0 + 121) ((xs (i32 (v3 + 1)).toNat).toInt) ((xs (i32 (v3 + 2)).toNat).toInt) M) (k_I fun r88 M87 => ?_)
      refine tq_aload_n 2 (E := E_Law_law L xs) (pc := 779) (cks_at k_Law_law 513 rfl rfl) rfl ?_
      refine tq_aload_n 0 (E := E_Law_law L xs) (pc := 780) (cks_at k_Law_law 514 rfl rfl) rfl ?_
      refine tq_iload_n 3 (E := E_Law_law L xs) (pc := 781) (cks_at k_Law_law 515 rfl rfl) rfl ?_
      refine tq_iconst (E := E_Law_law L xs) (pc := 782) (cks_at k_Law_law 516 rfl rfl) ?_
      refine tq_iadd (E := E_Law_law L xs) (pc := 783) (cks_at k_Law_law 517 rfl rfl) ?_
      refine tq_scrL (E := E_Law_law L xs) (pc := 784) trivial (cks_at k_Law_law 518 rfl rfl) ?_
      refine tq_aload_n 0 (E := E_Law_law L xs) (pc := 785) (cks_at k_Law_law 519 rfl rfl) rfl ?_
      refine tq_iload_n 3 (E := E_Law_law L xs) (pc := 786) (cks_at k_Law_law 520 rfl rfl) rfl ?_
      refine tq_iconst (E := E_Law_law L xs) (pc := 787) (cks_at k_Law_law 521 rfl rfl) ?_
      refine tq_iadd (E := E_Law_law L xs) (pc := 788) (cks_at k_Law_law 522 rfl rfl) ?_
      refine tq_scrL (E := E_Law_law L xs) (pc := 789) trivial (cks_at k_Law_law 523 rfl rfl) ?_
      refine tq_V2 (E := E_Law_law L xs) (pc := 790) (cks_at k_Law_law 524 rfl rfl) mk_M_parade lk_Law_91 rc_78 (Nat.le_of_ble_eq_true rfl) (c_M_parade (0 + 115) ((xs (i32 (v3 + 1)).toNat).toInt) ((xs (i32 (v3 + 2)).toNat).toInt) M87) (k_I fun r90 M89 => ?_)
      refine tq_icmp_eq (E := E_Law_law L xs) (pc := 793) (tgt := 1177) (cks_at k_Law_law 525 rfl rfl) (by decide) ?_ ?_
      · refine tq_iinc 3 (E := E_Law_law L xs) (pc := 1177) (cks_at k_Law_law 811 rfl rfl) rfl (show 3 < 4 by decide) rfl ?_
        refine tq_goto (tgt := 18) (E := E_Law_law L xs) (pc := 1180) (cks_at k_Law_law 812 rfl rfl) (by decide) ?_
        exact tq_sub [1, 2, 3, 0] rfl (hkH (v3 + 6) M89)
      · refine tq_iconst (E := E_Law_law L xs) (pc := 796) (cks_at k_Law_law 526 rfl rfl) ?_
        exact tq_zretC (E := E_Law_law L xs) (pc := 797) (cks_at k_Law_law 527 rfl rfl) rfl (by decide)
    refine tq_tsC (E := E_Law_law L xs) (pc := 33) (tgt := 798) (off := 765) (w := 18) 18 k_Law_law_33 (by decide) rfl (by decide) ?_ (fun h91 => ?_)
    · refine tq_aload_n 1 (E := E_Law_law L xs) (pc := 798) (cks_at k_Law_law 528 rfl rfl) rfl ?_
      refine tq_aload_n 0 (E := E_Law_law L xs) (pc := 799) (cks_at k_Law_law 529 rfl rfl) rfl ?_
      refine tq_iload_n 3 (E := E_Law_law L xs) (pc := 800) (cks_at k_Law_law 530 rfl rfl) rfl ?_
      refine tq_iconst (E := E_Law_law L xs) (pc := 801) (cks_at k_Law_law 531 rfl rfl) ?_
      refine tq_iadd (E := E_Law_law L xs) (pc := 802) (cks_at k_Law_law 532 rfl rfl) ?_
      refine tq_scrL (E := E_Law_law L xs) (pc := 803) trivial (cks_at k_Law_law 533 rfl rfl) ?_
      refine tq_aload_n 0 (E := E_Law_law L xs) (pc := 804) (cks_at k_Law_law 534 rfl rfl) rfl ?_
      refine tq_iload_n 3 (E := E_Law_law L xs) (pc := 805) (cks_at k_Law_law 535 rfl rfl) rfl ?_
      refine tq_iconst (E := E_Law_law L xs) (pc := 806) (cks_at k_Law_law 536 rfl rfl) ?_
      refine tq_iadd (E := E_Law_law L xs) (pc := 807) (cks_at k_Law_law 537 rfl rfl) ?_
      refine tq_scrL (E := E_Law_law L xs) (pc := 808) trivial (cks_at k_Law_law 538 rfl rfl) ?_
      refine tq_V2 (E := E_Law_law L xs) (pc := 809) (cks_at k_Law_law 539 rfl rfl) mk_BT_rows lk_Law_92 rc_0 (Nat.le_of_ble_eq_true rfl) (c_BT_rows (0 + 121) ((xs (i32 (v3 + 1)).toNat).toInt) ((xs (i32 (v3 + 2)).toNat).toInt) M) (k_I fun r93 M92 => ?_)
      refine tq_aload_n 2 (E := E_Law_law L xs) (pc := 812) (cks_at k_Law_law 540 rfl rfl) rfl ?_
      refine tq_aload_n 0 (E := E_Law_law L xs) (pc := 813) (cks_at k_Law_law 541 rfl rfl) rfl ?_
      refine tq_iload_n 3 (E := E_Law_law L xs) (pc := 814) (cks_at k_Law_law 542 rfl rfl) rfl ?_
      refine tq_iconst (E := E_Law_law L xs) (pc := 815) (cks_at k_Law_law 543 rfl rfl) ?_
      refine tq_iadd (E := E_Law_law L xs) (pc := 816) (cks_at k_Law_law 544 rfl rfl) ?_
      refine tq_scrL (E := E_Law_law L xs) (pc := 817) trivial (cks_at k_Law_law 545 rfl rfl) ?_
      refine tq_aload_n 0 (E := E_Law_law L xs) (pc := 818) (cks_at k_Law_law 546 rfl rfl) rfl ?_
      refine tq_iload_n 3 (E := E_Law_law L xs) (pc := 819) (cks_at k_Law_law 547 rfl rfl) rfl ?_
      refine tq_iconst (E := E_Law_law L xs) (pc := 820) (cks_at k_Law_law 548 rfl rfl) ?_
      refine tq_iadd (E := E_Law_law L xs) (pc := 821) (cks_at k_Law_law 549 rfl rfl) ?_
      refine tq_scrL (E := E_Law_law L xs) (pc := 822) trivial (cks_at k_Law_law 550 rfl rfl) ?_
      refine tq_V2 (E := E_Law_law L xs) (pc := 823) (cks_at k_Law_law 551 rfl rfl) mk_M_rows lk_Law_95 rc_78 (Nat.le_of_ble_eq_true rfl) (c_M_rows (0 + 115) ((xs (i32 (v3 + 1)).toNat).toInt) ((xs (i32 (v3 + 2)).toNat).toInt) M92) (k_I fun r95 M94 => ?_)
      refine tq_icmp_eq (E := E_Law_law L xs) (pc := 826) (tgt := 1177) (cks_at k_Law_law 552 rfl rfl) (by decide) ?_ ?_
      · refine tq_iinc 3 (E := E_Law_law L xs) (pc := 1177) (cks_at k_Law_law 811 rfl rfl) rfl (show 3 < 4 by decide) rfl ?_
        refine tq_goto (tgt := 18) (E := E_Law_law L xs) (pc := 1180) (cks_at k_Law_law 812 rfl rfl) (by decide) ?_
        exact tq_sub [1, 2, 3, 0] rfl (hkH (v3 + 6) M94)
      · refine tq_iconst (E := E_Law_law L xs) (pc := 829) (cks_at k_Law_law 553 rfl rfl) ?_
        exact tq_zretC (E := E_Law_law L xs) (pc := 830) (cks_at k_Law_law 554 rfl rfl) rfl (by decide)
    refine tq_tsC (E := E_Law_law L xs) (pc := 33) (tgt := 831) (off := 798) (w := 19) 19 k_Law_law_33 (by decide) rfl (by decide) ?_ (fun h96 => ?_)
    · refine tq_aload_n 1 (E := E_Law_law L xs) (pc := 831) (cks_at k_Law_law 555 rfl rfl) rfl ?_
      refine tq_aload_n 0 (E := E_Law_law L xs) (pc := 832) (cks_at k_Law_law 556 rfl rfl) rfl ?_
      refine tq_iload_n 3 (E := E_Law_law L xs) (pc := 833) (cks_at k_Law_law 557 rfl rfl) rfl ?_
      refine tq_iconst (E := E_Law_law L xs) (pc := 834) (cks_at k_Law_law 558 rfl rfl) ?_
      refine tq_iadd (E := E_Law_law L xs) (pc := 835) (cks_at k_Law_law 559 rfl rfl) ?_
      refine tq_scrL (E := E_Law_law L xs) (pc := 836) trivial (cks_at k_Law_law 560 rfl rfl) ?_
      refine tq_aload_n 0 (E := E_Law_law L xs) (pc := 837) (cks_at k_Law_law 561 rfl rfl) rfl ?_
      refine tq_iload_n 3 (E := E_Law_law L xs) (pc := 838) (cks_at k_Law_law 562 rfl rfl) rfl ?_
      refine tq_iconst (E := E_Law_law L xs) (pc := 839) (cks_at k_Law_law 563 rfl rfl) ?_
      refine tq_iadd (E := E_Law_law L xs) (pc := 840) (cks_at k_Law_law 564 rfl rfl) ?_
      refine tq_scrL (E := E_Law_law L xs) (pc := 841) trivial (cks_at k_Law_law 565 rfl rfl) ?_
      refine tq_aload_n 0 (E := E_Law_law L xs) (pc := 842) (cks_at k_Law_law 566 rfl rfl) rfl ?_
      refine tq_iload_n 3 (E := E_Law_law L xs) (pc := 843) (cks_at k_Law_law 567 rfl rfl) rfl ?_
      refine tq_iconst (E := E_Law_law L xs) (pc := 844) (cks_at k_Law_law 568 rfl rfl) ?_
      refine tq_iadd (E := E_Law_law L xs) (pc := 845) (cks_at k_Law_law 569 rfl rfl) ?_
      refine tq_scrL (E := E_Law_law L xs) (pc := 846) trivial (cks_at k_Law_law 570 rfl rfl) ?_
      refine tq_V3 (E := E_Law_law L xs) (pc := 847) (cks_at k_Law_law 571 rfl rfl) mk_BT_doctors lk_Law_96 rc_0 (Nat.le_of_ble_eq_true rfl) (c_BT_doctors (0 + 122) ((xs (i32 (v3 + 1)).toNat).toInt) ((xs (i32 (v3 + 2)).toNat).toInt) ((xs (i32 (v3 + 3)).toNat).toInt) M) (k_I fun r98 M97 => ?_)
      refine tq_aload_n 2 (E := E_Law_law L xs) (pc := 850) (cks_at k_Law_law 572 rfl rfl) rfl ?_
      refine tq_aload_n 0 (E := E_Law_law L xs) (pc := 851) (cks_at k_Law_law 573 rfl rfl) rfl ?_
      refine tq_iload_n 3 (E := E_Law_law L xs) (pc := 852) (cks_at k_Law_law 574 rfl rfl) rfl ?_
      refine tq_iconst (E := E_Law_law L xs) (pc := 853) (cks_at k_Law_law 575 rfl rfl) ?_
      refine tq_iadd (E := E_Law_law L xs) (pc := 854) (cks_at k_Law_law 576 rfl rfl) ?_
      refine tq_scrL (E := E_Law_law L xs) (pc := 855) trivial (cks_at k_Law_law 577 rfl rfl) ?_
      refine tq_aload_n 0 (E := E_Law_law L xs) (pc := 856) (cks_at k_Law_law 578 rfl rfl) rfl ?_
      refine tq_iload_n 3 (E := E_Law_law L xs) (pc := 857) (cks_at k_Law_law 579 rfl rfl) rfl ?_
      refine tq_iconst (E := E_Law_law L xs) (pc := 858) (cks_at k_Law_law 580 rfl rfl) ?_
      refine tq_iadd (E := E_Law_law L xs) (pc := 859) (cks_at k_Law_law 581 rfl rfl) ?_
      refine tq_scrL (E := E_Law_law L xs) (pc := 860) trivial (cks_at k_Law_law 582 rfl rfl) ?_
      refine tq_aload_n 0 (E := E_Law_law L xs) (pc := 861) (cks_at k_Law_law 583 rfl rfl) rfl ?_
      refine tq_iload_n 3 (E := E_Law_law L xs) (pc := 862) (cks_at k_Law_law 584 rfl rfl) rfl ?_
      refine tq_iconst (E := E_Law_law L xs) (pc := 863) (cks_at k_Law_law 585 rfl rfl) ?_
      refine tq_iadd (E := E_Law_law L xs) (pc := 864) (cks_at k_Law_law 586 rfl rfl) ?_
      refine tq_scrL (E := E_Law_law L xs) (pc := 865) trivial (cks_at k_Law_law 587 rfl rfl) ?_
      refine tq_V3 (E := E_Law_law L xs) (pc := 866) (cks_at k_Law_law 588 rfl rfl) mk_M_doctors lk_Law_99 rc_78 (Nat.le_of_ble_eq_true rfl) (c_M_doctors (0 + 117) ((xs (i32 (v3 + 1)).toNat).toInt) ((xs (i32 (v3 + 2)).toNat).toInt) ((xs (i32 (v3 + 3)).toNat).toInt) M97) (k_I fun r100 M99 => ?_)
      refine tq_icmp_eq (E := E_Law_law L xs) (pc := 869) (tgt := 1177) (cks_at k_Law_law 589 rfl rfl) (by decide) ?_ ?_
      · refine tq_iinc 3 (E := E_Law_law L xs) (pc := 1177) (cks_at k_Law_law 811 rfl rfl) rfl (show 3 < 4 by decide) rfl ?_
        refine tq_goto (tgt := 18) (E := E_Law_law L xs) (pc := 1180) (cks_at k_Law_law 812 rfl rfl) (by decide) ?_
        exact tq_sub [1, 2, 3, 0] rfl (hkH (v3 + 6) M99)
      · refine tq_iconst (E := E_Law_law L xs) (pc := 872) (cks_at k_Law_law 590 rfl rfl) ?_
        exact tq_zretC (E := E_Law_law L xs) (pc := 873) (cks_at k_Law_law 591 rfl rfl) rfl (by decide)
    refine tq_tsC (E := E_Law_law L xs) (pc := 33) (tgt := 874) (off := 841) (w := 20) 20 k_Law_law_33 (by decide) rfl (by decide) ?_ (fun h101 => ?_)
    · refine tq_aload_n 1 (E := E_Law_law L xs) (pc := 874) (cks_at k_Law_law 592 rfl rfl) rfl ?_
      refine tq_aload_n 0 (E := E_Law_law L xs) (pc := 875) (cks_at k_Law_law 593 rfl rfl) rfl ?_
      refine tq_iload_n 3 (E := E_Law_law L xs) (pc := 876) (cks_at k_Law_law 594 rfl rfl) rfl ?_
      refine tq_iconst (E := E_Law_law L xs) (pc := 877) (cks_at k_Law_law 595 rfl rfl) ?_
      refine tq_iadd (E := E_Law_law L xs) (pc := 878) (cks_at k_Law_law 596 rfl rfl) ?_
      refine tq_scrL (E := E_Law_law L xs) (pc := 879) trivial (cks_at k_Law_law 597 rfl rfl) ?_
      refine tq_V1 (E := E_Law_law L xs) (pc := 880) (cks_at k_Law_law 598 rfl rfl) mk_BT_go lk_Law_100 rc_0 (Nat.le_of_ble_eq_true rfl) (c_BT_go (0 + 126) ((xs (i32 (v3 + 1)).toNat).toInt) M) (k_I fun r103 M102 => ?_)
      refine tq_aload_n 2 (E := E_Law_law L xs) (pc := 883) (cks_at k_Law_law 599 rfl rfl) rfl ?_
      refine tq_aload_n 0 (E := E_Law_law L xs) (pc := 884) (cks_at k_Law_law 600 rfl rfl) rfl ?_
      refine tq_iload_n 3 (E := E_Law_law L xs) (pc := 885) (cks_at k_Law_law 601 rfl rfl) rfl ?_
      refine tq_iconst (E := E_Law_law L xs) (pc := 886) (cks_at k_Law_law 602 rfl rfl) ?_
      refine tq_iadd (E := E_Law_law L xs) (pc := 887) (cks_at k_Law_law 603 rfl rfl) ?_
      refine tq_scrL (E := E_Law_law L xs) (pc := 888) trivial (cks_at k_Law_law 604 rfl rfl) ?_
      refine tq_V1 (E := E_Law_law L xs) (pc := 889) (cks_at k_Law_law 605 rfl rfl) mk_M_go lk_Law_103 rc_78 (Nat.le_of_ble_eq_true rfl) (c_M_go (0 + 128) ((xs (i32 (v3 + 1)).toNat).toInt) M102) (k_I fun r105 M104 => ?_)
      refine tq_icmp_eq (E := E_Law_law L xs) (pc := 892) (tgt := 1177) (cks_at k_Law_law 606 rfl rfl) (by decide) ?_ ?_
      · refine tq_iinc 3 (E := E_Law_law L xs) (pc := 1177) (cks_at k_Law_law 811 rfl rfl) rfl (show 3 < 4 by decide) rfl ?_
        refine tq_goto (tgt := 18) (E := E_Law_law L xs) (pc := 1180) (cks_at k_Law_law 812 rfl rfl) (by decide) ?_
        exact tq_sub [1, 2, 3, 0] rfl (hkH (v3 + 6) M104)
      · refine tq_iconst (E := E_Law_law L xs) (pc := 895) (cks_at k_Law_law 607 rfl rfl) ?_
        exact tq_zretC (E := E_Law_law L xs) (pc := 896) (cks_at k_Law_law 608 rfl rfl) rfl (by decide)
    refine tq_tsC (E := E_Law_law L xs) (pc := 33) (tgt := 897) (off := 864) (w := 21) 21 k_Law_law_33 (by decide) rfl (by decide) ?_ (fun h106 => ?_)
    · refine tq_aload_n 1 (E := E_Law_law L xs) (pc := 897) (cks_at k_Law_law 609 rfl rfl) rfl ?_
      refine tq_aload_n 0 (E := E_Law_law L xs) (pc := 898) (cks_at k_Law_law 610 rfl rfl) rfl ?_
      refine tq_iload_n 3 (E := E_Law_law L xs) (pc := 899) (cks_at k_Law_law 611 rfl rfl) rfl ?_
      refine tq_iconst (E := E_Law_law L xs) (pc := 900) (cks_at k_Law_law 612 rfl rfl) ?_
      refine tq_iadd (E := E_Law_law L xs) (pc := 901) (cks_at k_Law_law 613 rfl rfl) ?_
      refine tq_scrL (E := E_Law_law L xs) (pc := 902) trivial (cks_at k_Law_law 614 rfl rfl) ?_
      refine tq_V1 (E := E_Law_law L xs) (pc := 903) (cks_at k_Law_law 615 rfl rfl) mk_BT_send lk_Law_104 rc_0 (Nat.le_of_ble_eq_true rfl) (c_BT_send (0 + 121) ((xs (i32 (v3 + 1)).toNat).toInt) M) (k_I fun r108 M107 => ?_)
      refine tq_aload_n 2 (E := E_Law_law L xs) (pc := 906) (cks_at k_Law_law 616 rfl rfl) rfl ?_
      refine tq_aload_n 0 (E := E_Law_law L xs) (pc := 907) (cks_at k_Law_law 617 rfl rfl) rfl ?_
      refine tq_iload_n 3 (E := E_Law_law L xs) (pc := 908) (cks_at k_Law_law 618 rfl rfl) rfl ?_
      refine tq_iconst (E := E_Law_law L xs) (pc := 909) (cks_at k_Law_law 619 rfl rfl) ?_
      refine tq_iadd (E := E_Law_law L xs) (pc := 910) (cks_at k_Law_law 620 rfl rfl) ?_
      refine tq_scrL (E := E_Law_law L xs) (pc := 911) trivial (cks_at k_Law_law 621 rfl rfl) ?_
      refine tq_V1 (E := E_Law_law L xs) (pc := 912) (cks_at k_Law_law 622 rfl rfl) mk_M_send lk_Law_107 rc_78 (Nat.le_of_ble_eq_true rfl) (c_M_send (0 + 115) ((xs (i32 (v3 + 1)).toNat).toInt) M107) (k_I fun r110 M109 => ?_)
      refine tq_icmp_eq (E := E_Law_law L xs) (pc := 915) (tgt := 1177) (cks_at k_Law_law 623 rfl rfl) (by decide) ?_ ?_
      · refine tq_iinc 3 (E := E_Law_law L xs) (pc := 1177) (cks_at k_Law_law 811 rfl rfl) rfl (show 3 < 4 by decide) rfl ?_
        refine tq_goto (tgt := 18) (E := E_Law_law L xs) (pc := 1180) (cks_at k_Law_law 812 rfl rfl) (by decide) ?_
        exact tq_sub [1, 2, 3, 0] rfl (hkH (v3 + 6) M109)
      · refine tq_iconst (E := E_Law_law L xs) (pc := 918) (cks_at k_Law_law 624 rfl rfl) ?_
        exact tq_zretC (E := E_Law_law L xs) (pc := 919) (cks_at k_Law_law 625 rfl rfl) rfl (by decide)
    refine tq_tsC (E := E_Law_law L xs) (pc := 33) (tgt := 920) (off := 887) (w := 22) 22 k_Law_law_33 (by decide) rfl (by decide) ?_ (fun h111 => ?_)
    · refine tq_aload_n 1 (E := E_Law_law L xs) (pc := 920) (cks_at k_Law_law 626 rfl rfl) rfl ?_
      refine tq_aload_n 0 (E := E_Law_law L xs) (pc := 921) (cks_at k_Law_law 627 rfl rfl) rfl ?_
      refine tq_iload_n 3 (E := E_Law_law L xs) (pc := 922) (cks_at k_Law_law 628 rfl rfl) rfl ?_
      refine tq_iconst (E := E_Law_law L xs) (pc := 923) (cks_at k_Law_law 629 rfl rfl) ?_
      refine tq_iadd (E := E_Law_law L xs) (pc := 924) (cks_at k_Law_law 630 rfl rfl) ?_
      refine tq_scrL (E := E_Law_law L xs) (pc := 925) trivial (cks_at k_Law_law 631 rfl rfl) ?_
      refine tq_aload_n 0 (E := E_Law_law L xs) (pc := 926) (cks_at k_Law_law 632 rfl rfl) rfl ?_
      refine tq_iload_n 3 (E := E_Law_law L xs) (pc := 927) (cks_at k_Law_law 633 rfl rfl) rfl ?_
      refine tq_iconst (E := E_Law_law L xs) (pc := 928) (cks_at k_Law_law 634 rfl rfl) ?_
      refine tq_iadd (E := E_Law_law L xs) (pc := 929) (cks_at k_Law_law 635 rfl rfl) ?_
      refine tq_scrL (E := E_Law_law L xs) (pc := 930) trivial (cks_at k_Law_law 636 rfl rfl) ?_
      refine tq_V2 (E := E_Law_law L xs) (pc := 931) (cks_at k_Law_law 637 rfl rfl) mk_BT_hold lk_Law_108 rc_0 (Nat.le_of_ble_eq_true rfl) (c_BT_hold (0 + 126) ((xs (i32 (v3 + 1)).toNat).toInt) ((xs (i32 (v3 + 2)).toNat).toInt) M) (k_I fun r113 M112 => ?_)
      refine tq_aload_n 2 (E := E_Law_law L xs) (pc := 934) (cks_at k_Law_law 638 rfl rfl) rfl ?_
      refine tq_aload_n 0 (E := E_Law_law L xs) (pc := 935) (cks_at k_Law_law 639 rfl rfl) rfl ?_
      refine tq_iload_n 3 (E := E_Law_law L xs) (pc := 936) (cks_at k_Law_law 640 rfl rfl) rfl ?_
      refine tq_iconst (E := E_Law_law L xs) (pc := 937) (cks_at k_Law_law 641 rfl rfl) ?_
      refine tq_iadd (E := E_Law_law L xs) (pc := 938) (cks_at k_Law_law 642 rfl rfl) ?_
      refine tq_scrL (E := E_Law_law L xs) (pc := 939) trivial (cks_at k_Law_law 643 rfl rfl) ?_
      refine tq_aload_n 0 (E := E_Law_law L xs) (pc := 940) (cks_at k_Law_law 644 rfl rfl) rfl ?_
      refine tq_iload_n 3 (E := E_Law_law L xs) (pc := 941) (cks_at k_Law_law 645 rfl rfl) rfl ?_
      refine tq_iconst (E := E_Law_law L xs) (pc := 942) (cks_at k_Law_law 646 rfl rfl) ?_
      refine tq_iadd (E := E_Law_law L xs) (pc := 943) (cks_at k_Law_law 647 rfl rfl) ?_
      refine tq_scrL (E := E_Law_law L xs) (pc := 944) trivial (cks_at k_Law_law 648 rfl rfl) ?_
      refine tq_V2 (E := E_Law_law L xs) (pc := 945) (cks_at k_Law_law 649 rfl rfl) mk_M_hold lk_Law_111 rc_78 (Nat.le_of_ble_eq_true rfl) (c_M_hold (0 + 127) ((xs (i32 (v3 + 1)).toNat).toInt) ((xs (i32 (v3 + 2)).toNat).toInt) M112) (k_I fun r115 M114 => ?_)
      refine tq_icmp_eq (E := E_Law_law L xs) (pc := 948) (tgt := 1177) (cks_at k_Law_law 650 rfl rfl) (by decide) ?_ ?_
      · refine tq_iinc 3 (E := E_Law_law L xs) (pc := 1177) (cks_at k_Law_law 811 rfl rfl) rfl (show 3 < 4 by decide) rfl ?_
        refine tq_goto (tgt := 18) (E := E_Law_law L xs) (pc := 1180) (cks_at k_Law_law 812 rfl rfl) (by decide) ?_
        exact tq_sub [1, 2, 3, 0] rfl (hkH (v3 + 6) M114)
      · refine tq_iconst (E := E_Law_law L xs) (pc := 951) (cks_at k_Law_law 651 rfl rfl) ?_
        exact tq_zretC (E := E_Law_law L xs) (pc := 952) (cks_at k_Law_law 652 rfl rfl) rfl (by decide)
    refine tq_tsC (E := E_Law_law L xs) (pc := 33) (tgt := 953) (off := 920) (w := 23) 23 k_Law_law_33 (by decide) rfl (by decide) ?_ (fun h116 => ?_)
    · refine tq_aload_n 1 (E := E_Law_law L xs) (pc := 953) (cks_at k_Law_law 653 rfl rfl) rfl ?_
      refine tq_aload_n 0 (E := E_Law_law L xs) (pc := 954) (cks_at k_Law_law 654 rfl rfl) rfl ?_
      refine tq_iload_n 3 (E := E_Law_law L xs) (pc := 955) (cks_at k_Law_law 655 rfl rfl) rfl ?_
      refine tq_iconst (E := E_Law_law L xs) (pc := 956) (cks_at k_Law_law 656 rfl rfl) ?_
      refine tq_iadd (E := E_Law_law L xs) (pc := 957) (cks_at k_Law_law 657 rfl rfl) ?_
      refine tq_scrL (E := E_Law_law L xs) (pc := 958) trivial (cks_at k_Law_law 658 rfl rfl) ?_
      refine tq_V1 (E := E_Law_law L xs) (pc := 959) (cks_at k_Law_law 659 rfl rfl) mk_BT_days lk_Law_112 rc_0 (Nat.le_of_ble_eq_true rfl) (c_BT_days (0 + 126) ((xs (i32 (v3 + 1)).toNat).toInt) M) (k_I fun r118 M117 => ?_)
      refine tq_aload_n 2 (E := E_Law_law L xs) (pc := 962) (cks_at k_Law_law 660 rfl rfl) rfl ?_
      refine tq_aload_n 0 (E := E_Law_law L xs) (pc := 963) (cks_at k_Law_law 661 rfl rfl) rfl ?_
      refine tq_iload_n 3 (E := E_Law_law L xs) (pc := 964) (cks_at k_Law_law 662 rfl rfl) rfl ?_
      refine tq_iconst (E := E_Law_law L xs) (pc := 965) (cks_at k_Law_law 663 rfl rfl) ?_
      refine tq_iadd (E := E_Law_law L xs) (pc := 966) (cks_at k_Law_law 664 rfl rfl) ?_
      refine tq_scrL (E := E_Law_law L xs) (pc := 967) trivial (cks_at k_Law_law 665 rfl rfl) ?_
      refine tq_V1 (E := E_Law_law L xs) (pc := 968) (cks_at k_Law_law 666 rfl rfl) mk_M_days lk_Law_115 rc_78 (Nat.le_of_ble_eq_true rfl) (c_M_days (0 + 127) ((xs (i32 (v3 + 1)).toNat).toInt) M117) (k_I fun r120 M119 => ?_)
      refine tq_icmp_eq (E := E_Law_law L xs) (pc := 971) (tgt := 1177) (cks_at k_Law_law 667 rfl rfl) (by decide) ?_ ?_
      · refine tq_iinc 3 (E := E_Law_law L xs) (pc := 1177) (cks_at k_Law_law 811 rfl rfl) rfl (show 3 < 4 by decide) rfl ?_
        refine tq_goto (tgt := 18) (E := E_Law_law L xs) (pc := 1180) (cks_at k_Law_law 812 rfl rfl) (by decide) ?_
        exact tq_sub [1, 2, 3, 0] rfl (hkH (v3 + 6) M119)
      · refine tq_iconst (E := E_Law_law L xs) (pc := 974) (cks_at k_Law_law 668 rfl rfl) ?_
        exact tq_zretC (E := E_Law_law L xs) (pc := 975) (cks_at k_Law_law 669 rfl rfl) rfl (by decide)
    refine tq_tsC (E := E_Law_law L xs) (pc := 33) (tgt := 976) (off := 943) (w := 24) 24 k_Law_law_33 (by decide) rfl (by decide) ?_ (fun h121 => ?_)
    · refine tq_aload_n 1 (E := E_Law_law L xs) (pc := 976) (cks_at k_Law_law 670 rfl rfl) rfl ?_
      refine tq_V0 (E := E_Law_law L xs) (pc := 977) (cks_at k_Law_law 671 rfl rfl) mk_BT_undo lk_Law_116 rc_0 (Nat.le_of_ble_eq_true rfl) (c_BT_undo (0 + 126) M) (k_I fun r123 M122 => ?_)
      refine tq_aload_n 2 (E := E_Law_law L xs) (pc := 980) (cks_at k_Law_law 672 rfl rfl) rfl ?_
      refine tq_V0 (E := E_Law_law L xs) (pc := 981) (cks_at k_Law_law 673 rfl rfl) mk_M_undo lk_Law_120 rc_78 (Nat.le_of_ble_eq_true rfl) (c_M_undo (0 + 129) M122) (k_I fun r125 M124 => ?_)
      refine tq_icmp_eq (E := E_Law_law L xs) (pc := 984) (tgt := 1177) (cks_at k_Law_law 674 rfl rfl) (by decide) ?_ ?_
      · refine tq_iinc 3 (E := E_Law_law L xs) (pc := 1177) (cks_at k_Law_law 811 rfl rfl) rfl (show 3 < 4 by decide) rfl ?_
        refine tq_goto (tgt := 18) (E := E_Law_law L xs) (pc := 1180) (cks_at k_Law_law 812 rfl rfl) (by decide) ?_
        exact tq_sub [1, 2, 3, 0] rfl (hkH (v3 + 6) M124)
      · refine tq_iconst (E := E_Law_law L xs) (pc := 987) (cks_at k_Law_law 675 rfl rfl) ?_
        exact tq_zretC (E := E_Law_law L xs) (pc := 988) (cks_at k_Law_law 676 rfl rfl) rfl (by decide)
    refine tq_tsC (E := E_Law_law L xs) (pc := 33) (tgt := 989) (off := 956) (w := 25) 25 k_Law_law_33 (by decide) rfl (by decide) ?_ (fun h126 => ?_)
    · refine tq_aload_n 1 (E := E_Law_law L xs) (pc := 989) (cks_at k_Law_law 677 rfl rfl) rfl ?_
      refine tq_aload_n 0 (E := E_Law_law L xs) (pc := 990) (cks_at k_Law_law 678 rfl rfl) rfl ?_
      refine tq_iload_n 3 (E := E_Law_law L xs) (pc := 991) (cks_at k_Law_law 679 rfl rfl) rfl ?_
      refine tq_iconst (E := E_Law_law L xs) (pc := 992) (cks_at k_Law_law 680 rfl rfl) ?_
      refine tq_iadd (E := E_Law_law L xs) (pc := 993) (cks_at k_Law_law 681 rfl rfl) ?_
      refine tq_scrL (E := E_Law_law L xs) (pc := 994) trivial (cks_at k_Law_law 682 rfl rfl) ?_
      refine tq_V1 (E := E_Law_law L xs) (pc := 995) (cks_at k_Law_law 683 rfl rfl) mk_BT_seed lk_Law_121 rc_0 (Nat.le_of_ble_eq_true rfl) (c_BT_seed (0 + 127) ((xs (i32 (v3 + 1)).toNat).toInt) M) (k_I fun r128 M127 => ?_)
      refine tq_aload_n 2 (E := E_Law_law L xs) (pc := 998) (cks_at k_Law_law 684 rfl rfl) rfl ?_
      refine tq_aload_n 0 (E := E_Law_law L xs) (pc := 999) (cks_at k_Law_law 685 rfl rfl) rfl ?_
      refine tq_iload_n 3 (E := E_Law_law L xs) (pc := 1000) (cks_at k_Law_law 686 rfl rfl) rfl ?_
      refine tq_iconst (E := E_Law_law L xs) (pc := 1001) (cks_at k_Law_law 687 rfl rfl) ?_
      refine tq_iadd (E := E_Law_law L xs) (pc := 1002) (cks_at k_Law_law 688 rfl rfl) ?_
      refine tq_scrL (E := E_Law_law L xs) (pc := 1003) trivial (cks_at k_Law_law 689 rfl rfl) ?_
      refine tq_V1 (E := E_Law_law L xs) (pc := 1004) (cks_at k_Law_law 690 rfl rfl) mk_M_seed lk_Law_124 rc_78 (Nat.le_of_ble_eq_true rfl) (c_M_seed (0 + 129) ((xs (i32 (v3 + 1)).toNat).toInt) M127) (k_I fun r130 M129 => ?_)
      refine tq_icmp_eq (E := E_Law_law L xs) (pc := 1007) (tgt := 1177) (cks_at k_Law_law 691 rfl rfl) (by decide) ?_ ?_
      · refine tq_iinc 3 (E := E_Law_law L xs) (pc := 1177) (cks_at k_Law_law 811 rfl rfl) rfl (show 3 < 4 by decide) rfl ?_
        refine tq_goto (tgt := 18) (E := E_Law_law L xs) (pc := 1180) (cks_at k_Law_law 812 rfl rfl) (by decide) ?_
        exact tq_sub [1, 2, 3, 0] rfl (hkH (v3 + 6) M129)
      · refine tq_iconst (E := E_Law_law L xs) (pc := 1010) (cks_at k_Law_law 692 rfl rfl) ?_
        exact tq_zretC (E := E_Law_law L xs) (pc := 1011) (cks_at k_Law_law 693 rfl rfl) rfl (by decide)
    refine tq_tsC (E := E_Law_law L xs) (pc := 33) (tgt := 1012) (off := 979) (w := 26) 26 k_Law_law_33 (by decide) rfl (by decide) ?_ (fun h131 => ?_)
    · refine tq_aload_n 1 (E := E_Law_law L xs) (pc := 1012) (cks_at k_Law_law 694 rfl rfl) rfl ?_
      refine tq_V0 (E := E_Law_law L xs) (pc := 1013) (cks_at k_Law_law 695 rfl rfl) mk_BT_see lk_Law_125 rc_0 (Nat.le_of_ble_eq_true rfl) (c_BT_see (0 + 125) M) (k_I fun r133 M132 => ?_)
      refine tq_aload_n 2 (E := E_Law_law L xs) (pc := 1016) (cks_at k_Law_law 696 rfl rfl) rfl ?_
      refine tq_V0 (E := E_Law_law L xs) (pc := 1017) (cks_at k_Law_law 697 rfl rfl) mk_M_see lk_Law_128 rc_78 (Nat.le_of_ble_eq_true rfl) (c_M_see (0 + 126) M132) (k_I fun r135 M134 => ?_)
      refine tq_icmp_eq (E := E_Law_law L xs) (pc := 1020) (tgt := 1177) (cks_at k_Law_law 698 rfl rfl) (by decide) ?_ ?_
      · refine tq_iinc 3 (E := E_Law_law L xs) (pc := 1177) (cks_at k_Law_law 811 rfl rfl) rfl (show 3 < 4 by decide) rfl ?_
        refine tq_goto (tgt := 18) (E := E_Law_law L xs) (pc := 1180) (cks_at k_Law_law 812 rfl rfl) (by decide) ?_
        exact tq_sub [1, 2, 3, 0] rfl (hkH (v3 + 6) M134)
      · refine tq_iconst (E := E_Law_law L xs) (pc := 1023) (cks_at k_Law_law 699 rfl rfl) ?_
        exact tq_zretC (E := E_Law_law L xs) (pc := 1024) (cks_at k_Law_law 700 rfl rfl) rfl (by decide)
    refine tq_tsC (E := E_Law_law L xs) (pc := 33) (tgt := 1025) (off := 992) (w := 27) 27 k_Law_law_33 (by decide) rfl (by decide) ?_ (fun h136 => ?_)
    · refine tq_aload_n 1 (E := E_Law_law L xs) (pc := 1025) (cks_at k_Law_law 701 rfl rfl) rfl ?_
      refine tq_aload_n 0 (E := E_Law_law L xs) (pc := 1026) (cks_at k_Law_law 702 rfl rfl) rfl ?_
      refine tq_iload_n 3 (E := E_Law_law L xs) (pc := 1027) (cks_at k_Law_law 703 rfl rfl) rfl ?_
      refine tq_iconst (E := E_Law_law L xs) (pc := 1028) (cks_at k_Law_law 704 rfl rfl) ?_
      refine tq_iadd (E := E_Law_law L xs) (pc := 1029) (cks_at k_Law_law 705 rfl rfl) ?_
      refine tq_scrL (E := E_Law_law L xs) (pc := 1030) trivial (cks_at k_Law_law 706 rfl rfl) ?_
      refine tq_aload_n 0 (E := E_Law_law L xs) (pc := 1031) (cks_at k_Law_law 707 rfl rfl) rfl ?_
      refine tq_iload_n 3 (E := E_Law_law L xs) (pc := 1032) (cks_at k_Law_law 708 rfl rfl) rfl ?_
      refine tq_iconst (E := E_Law_law L xs) (pc := 1033) (cks_at k_Law_law 709 rfl rfl) ?_
      refine tq_iadd (E := E_Law_law L xs) (pc := 1034) (cks_at k_Law_law 710 rfl rfl) ?_
      refine tq_scrL (E := E_Law_law L xs) (pc := 1035) trivial (cks_at k_Law_law 711 rfl rfl) ?_
      refine tq_V2 (E := E_Law_law L xs) (pc := 1036) (cks_at k_Law_law 712 rfl rfl) mk_BT_shifts lk_Law_129 rc_0 (Nat.le_of_ble_eq_true rfl) (c_BT_shifts (0 + 123) ((xs (i32 (v3 + 1)).toNat).toInt) ((xs (i32 (v3 + 2)).toNat).toInt) M) (k_I fun r138 M137 => ?_)
      refine tq_aload_n 2 (E := E_Law_law L xs) (pc := 1039) (cks_at k_Law_law 713 rfl rfl) rfl ?_
      refine tq_aload_n 0 (E := E_Law_law L xs) (pc := 1040) (cks_at k_Law_law 714 rfl rfl) rfl ?_
      refine tq_iload_n 3 (E := E_Law_law L xs) (pc := 1041) (cks_at k_Law_law 715 rfl rfl) rfl ?_
      refine tq_iconst (E := E_Law_law L xs) (pc := 1042) (cks_at k_Law_law 716 rfl rfl) ?_
      refine tq_iadd (E := E_Law_law L xs) (pc := 1043) (cks_at k_Law_law 717 rfl rfl) ?_
      refine tq_scrL (E := E_Law_law L xs) (pc := 1044) trivial (cks_at k_Law_law 718 rfl rfl) ?_
      refine tq_aload_n 0 (E := E_Law_law L xs) (pc := 1045) (cks_at k_Law_law 719 rfl rfl) rfl ?_
      refine tq_iload_n 3 (E := E_Law_law L xs) (pc := 1046) (cks_at k_Law_law 720 rfl rfl) rfl ?_
      refine tq_iconst (E := E_Law_law L xs) (pc := 1047) (cks_at k_Law_law 721 rfl rfl) ?_
      refine tq_iadd (E := E_Law_law L xs) (pc := 1048) (cks_at k_Law_law 722 rfl rfl) ?_
      refine tq_scrL (E := E_Law_law L xs) (pc := 1049) trivial (cks_at k_Law_law 723 rfl rfl) ?_
      refine tq_V2 (E := E_Law_law L xs) (pc := 1050) (cks_at k_Law_law 724 rfl rfl) mk_M_shifts lk_Law_132 rc_78 (Nat.le_of_ble_eq_true rfl) (c_M_shifts (0 + 124) ((xs (i32 (v3 + 1)).toNat).toInt) ((xs (i32 (v3 + 2)).toNat).toInt) M137) (k_I fun r140 M139 => ?_)
      refine tq_icmp_eq (E := E_Law_law L xs) (pc := 1053) (tgt := 1177) (cks_at k_Law_law 725 rfl rfl) (by decide) ?_ ?_
      · refine tq_iinc 3 (E := E_Law_law L xs) (pc := 1177) (cks_at k_Law_law 811 rfl rfl) rfl (show 3 < 4 by decide) rfl ?_
        refine tq_goto (tgt := 18) (E := E_Law_law L xs) (pc := 1180) (cks_at k_Law_law 812 rfl rfl) (by decide) ?_
        exact tq_sub [1, 2, 3, 0] rfl (hkH (v3 + 6) M139)
      · refine tq_iconst (E := E_Law_law L xs) (pc := 1056) (cks_at k_Law_law 726 rfl rfl) ?_
        exact tq_zretC (E := E_Law_law L xs) (pc := 1057) (cks_at k_Law_law 727 rfl rfl) rfl (by decide)
    refine tq_tsC (E := E_Law_law L xs) (pc := 33) (tgt := 1058) (off := 1025) (w := 28) 28 k_Law_law_33 (by decide) rfl (by decide) ?_ (fun h141 => ?_)
    · refine tq_aload_n 1 (E := E_Law_law L xs) (pc := 1058) (cks_at k_Law_law 728 rfl rfl) rfl ?_
      refine tq_aload_n 0 (E := E_Law_law L xs) (pc := 1059) (cks_at k_Law_law 729 rfl rfl) rfl ?_
      refine tq_iload_n 3 (E := E_Law_law L xs) (pc := 1060) (cks_at k_Law_law 730 rfl rfl) rfl ?_
      refine tq_iconst (E := E_Law_law L xs) (pc := 1061) (cks_at k_Law_law 731 rfl rfl) ?_
      refine tq_iadd (E := E_Law_law L xs) (pc := 1062) (cks_at k_Law_law 732 rfl rfl) ?_
      refine tq_scrL (E := E_Law_law L xs) (pc := 1063) trivial (cks_at k_Law_law 733 rfl rfl) ?_
      refine tq_aload_n 0 (E := E_Law_law L xs) (pc := 1064) (cks_at k_Law_law 734 rfl rfl) rfl ?_
      refine tq_iload_n 3 (E := E_Law_law L xs) (pc := 1065) (cks_at k_Law_law 735 rfl rfl) rfl ?_
      refine tq_iconst (E := E_Law_law L xs) (pc := 1066) (cks_at k_Law_law 736 rfl rfl) ?_
      refine tq_iadd (E := E_Law_law L xs) (pc := 1067) (cks_at k_Law_law 737 rfl rfl) ?_
      refine tq_scrL (E := E_Law_law L xs) (pc := 1068) trivial (cks_at k_Law_law 738 rfl rfl) ?_
      refine tq_V2 (E := E_Law_law L xs) (pc := 1069) (cks_at k_Law_law 739 rfl rfl) mk_BT_telling lk_Law_133 rc_0 (Nat.le_of_ble_eq_true rfl) (c_BT_telling (0 + 122) ((xs (i32 (v3 + 1)).toNat).toInt) ((xs (i32 (v3 + 2)).toNat).toInt) M) (k_I fun r143 M142 => ?_)
      refine tq_aload_n 2 (E := E_Law_law L xs) (pc := 1072) (cks_at k_Law_law 740 rfl rfl) rfl ?_
      refine tq_aload_n 0 (E := E_Law_law L xs) (pc := 1073) (cks_at k_Law_law 741 rfl rfl) rfl ?_
      refine tq_iload_n 3 (E := E_Law_law L xs) (pc := 1074) (cks_at k_Law_law 742 rfl rfl) rfl ?_
      refine tq_iconst (E := E_Law_law L xs) (pc := 1075) (cks_at k_Law_law 743 rfl rfl) ?_
      refine tq_iadd (E := E_Law_law L xs) (pc := 1076) (cks_at k_Law_law 744 rfl rfl) ?_
      refine tq_scrL (E := E_Law_law L xs) (pc := 1077) trivial (cks_at k_Law_law 745 rfl rfl) ?_
      refine tq_aload_n 0 (E := E_Law_law L xs) (pc := 1078) (cks_at k_Law_law 746 rfl rfl) rfl ?_
      refine tq_iload_n 3 (E := E_Law_law L xs) (pc := 1079) (cks_at k_Law_law 747 rfl rfl) rfl ?_
      refine tq_iconst (E := E_Law_law L xs) (pc := 1080) (cks_at k_Law_law 748 rfl rfl) ?_
      refine tq_iadd (E := E_Law_law L xs) (pc := 1081) (cks_at k_Law_law 749 rfl rfl) ?_
      refine tq_scrL (E := E_Law_law L xs) (pc := 1082) trivial (cks_at k_Law_law 750 rfl rfl) ?_
      refine tq_V2 (E := E_Law_law L xs) (pc := 1083) (cks_at k_Law_law 751 rfl rfl) mk_M_telling lk_Law_136 rc_78 (Nat.le_of_ble_eq_true rfl) (c_M_telling (0 + 124) ((xs (i32 (v3 + 1)).toNat).toInt) ((xs (i32 (v3 + 2)).toNat).toInt) M142) (k_I fun r145 M144 => ?_)
      refine tq_icmp_eq (E := E_Law_law L xs) (pc := 1086) (tgt := 1177) (cks_at k_Law_law 752 rfl rfl) (by decide) ?_ ?_
      · refine tq_iinc 3 (E := E_Law_law L xs) (pc := 1177) (cks_at k_Law_law 811 rfl rfl) rfl (show 3 < 4 by decide) rfl ?_
        refine tq_goto (tgt := 18) (E := E_Law_law L xs) (pc := 1180) (cks_at k_Law_law 812 rfl rfl) (by decide) ?_
        exact tq_sub [1, 2, 3, 0] rfl (hkH (v3 + 6) M144)
      · refine tq_iconst (E := E_Law_law L xs) (pc := 1089) (cks_at k_Law_law 753 rfl rfl) ?_
        exact tq_zretC (E := E_Law_law L xs) (pc := 1090) (cks_at k_Law_law 754 rfl rfl) rfl (by decide)
    refine tq_tsC (E := E_Law_law L xs) (pc := 33) (tgt := 1091) (off := 1058) (w := 29) 29 k_Law_law_33 (by decide) rfl (by decide) ?_ (fun h146 => ?_)
    · refine tq_aload_n 1 (E := E_Law_law L xs) (pc := 1091) (cks_at k_Law_law 755 rfl rfl) rfl ?_
      refine tq_V0 (E := E_Law_law L xs) (pc := 1092) (cks_at k_Law_law 756 rfl rfl) mk_BT_ask lk_Law_137 rc_0 (Nat.le_of_ble_eq_true rfl) (c_BT_ask (0 + 1) M) (k_J fun r148 M147 => ?_)
      refine tq_aload_n 2 (E := E_Law_law L xs) (pc := 1095) (cks_at k_Law_law 757 rfl rfl) rfl ?_
      refine tq_V0 (E := E_Law_law L xs) (pc := 1096) (cks_at k_Law_law 758 rfl rfl) mk_M_ask lk_Law_141 rc_78 (Nat.le_of_ble_eq_true rfl) (c_M_ask (0 + 119) M147) (k_J fun r150 M149 => ?_)
      refine tq_lcmp (E := E_Law_law L xs) (pc := 1099) (cks_at k_Law_law 759 rfl rfl) ?_
      refine tq_if_eq (E := E_Law_law L xs) (pc := 1100) (tgt := 1177) (cks_at k_Law_law 760 rfl rfl) (by decide) ?_ ?_
      · refine tq_iinc 3 (E := E_Law_law L xs) (pc := 1177) (cks_at k_Law_law 811 rfl rfl) rfl (show 3 < 4 by decide) rfl ?_
        refine tq_goto (tgt := 18) (E := E_Law_law L xs) (pc := 1180) (cks_at k_Law_law 812 rfl rfl) (by decide) ?_
        exact tq_sub [1, 2, 3, 0] rfl (hkH (v3 + 6) M149)
      · refine tq_iconst (E := E_Law_law L xs) (pc := 1103) (cks_at k_Law_law 761 rfl rfl) ?_
        exact tq_zretC (E := E_Law_law L xs) (pc := 1104) (cks_at k_Law_law 762 rfl rfl) rfl (by decide)
    refine tq_tsC (E := E_Law_law L xs) (pc := 33) (tgt := 1105) (off := 1072) (w := 30) 30 k_Law_law_33 (by decide) rfl (by decide) ?_ (fun h151 => ?_)
    · refine tq_aload_n 1 (E := E_Law_law L xs) (pc := 1105) (cks_at k_Law_law 763 rfl rfl) rfl ?_
      refine tq_V0 (E := E_Law_law L xs) (pc := 1106) (cks_at k_Law_law 764 rfl rfl) mk_BT_image lk_Law_142 rc_0 (Nat.le_of_ble_eq_true rfl) (c_BT_image (0 + 125) M) (k_I fun r153 M152 => ?_)
      refine tq_aload_n 2 (E := E_Law_law L xs) (pc := 1109) (cks_at k_Law_law 765 rfl rfl) rfl ?_
      refine tq_V0 (E := E_Law_law L xs) (pc := 1110) (cks_at k_Law_law 766 rfl rfl) mk_M_image lk_Law_145 rc_78 (Nat.le_of_ble_eq_true rfl) (c_M_image (0 + 128) M152) (k_I fun r155 M154 => ?_)
      refine tq_icmp_eq (E := E_Law_law L xs) (pc := 1113) (tgt := 1177) (cks_at k_Law_law 767 rfl rfl) (by decide) ?_ ?_
      · refine tq_iinc 3 (E := E_Law_law L xs) (pc := 1177) (cks_at k_Law_law 811 rfl rfl) rfl (show 3 < 4 by decide) rfl ?_
        refine tq_goto (tgt := 18) (E := E_Law_law L xs) (pc := 1180) (cks_at k_Law_law 812 rfl rfl) (by decide) ?_
        exact tq_sub [1, 2, 3, 0] rfl (hkH (v3 + 6) M154)
      · refine tq_iconst (E := E_Law_law L xs) (pc := 1116) (cks_at k_Law_law 768 rfl rfl) ?_
        exact tq_zretC (E := E_Law_law L xs) (pc := 1117) (cks_at k_Law_law 769 rfl rfl) rfl (by decide)
    refine tq_tsC (E := E_Law_law L xs) (pc := 33) (tgt := 1118) (off := 1085) (w := 31) 31 k_Law_law_33 (by decide) rfl (by decide) ?_ (fun h156 => ?_)
    · refine tq_aload_n 1 (E := E_Law_law L xs) (pc := 1118) (cks_at k_Law_law 770 rfl rfl) rfl ?_
      refine tq_aload_n 0 (E := E_Law_law L xs) (pc := 1119) (cks_at k_Law_law 771 rfl rfl) rfl ?_
      refine tq_iload_n 3 (E := E_Law_law L xs) (pc := 1120) (cks_at k_Law_law 772 rfl rfl) rfl ?_
      refine tq_iconst (E := E_Law_law L xs) (pc := 1121) (cks_at k_Law_law 773 rfl rfl) ?_
      refine tq_iadd (E := E_Law_law L xs) (pc := 1122) (cks_at k_Law_law 774 rfl rfl) ?_
      refine tq_scrL (E := E_Law_law L xs) (pc := 1123) trivial (cks_at k_Law_law 775 rfl rfl) ?_
      refine tq_V1 (E := E_Law_law L xs) (pc := 1124) (cks_at k_Law_law 776 rfl rfl) mk_BT_octet lk_Law_146 rc_0 (Nat.le_of_ble_eq_true rfl) (c_BT_octet (0 + 128) ((xs (i32 (v3 + 1)).toNat).toInt) M) (k_I fun r158 M157 => ?_)
      refine tq_aload_n 2 (E := E_Law_law L xs) (pc := 1127) (cks_at k_Law_law 777 rfl rfl) rfl ?_
      refine tq_aload_n 0 (E := E_Law_law L xs) (pc := 1128) (cks_at k_Law_law 778 rfl rfl) rfl ?_
      refine tq_iload_n 3 (E := E_Law_law L xs) (pc := 1129) (cks_at k_Law_law 779 rfl rfl) rfl ?_
      refine tq_iconst (E := E_Law_law L xs) (pc := 1130) (cks_at k_Law_law 780 rfl rfl) ?_
      refine tq_iadd (E := E_Law_law L xs) (pc := 1131) (cks_at k_Law_law 781 rfl rfl) ?_
      refine tq_scrL (E := E_Law_law L xs) (pc := 1132) trivial (cks_at k_Law_law 782 rfl rfl) ?_
      refine tq_V1 (E := E_Law_law L xs) (pc := 1133) (cks_at k_Law_law 783 rfl rfl) mk_M_octet lk_Law_149 rc_78 (Nat.le_of_ble_eq_true rfl) (c_M_octet (0 + 129) ((xs (i32 (v3 + 1)).toNat).toInt) M157) (k_I fun r160 M159 => ?_)
      refine tq_icmp_eq (E := E_Law_law L xs) (pc := 1136) (tgt := 1177) (cks_at k_Law_law 784 rfl rfl) (by decide) ?_ ?_
      · refine tq_iinc 3 (E := E_Law_law L xs) (pc := 1177) (cks_at k_Law_law 811 rfl rfl) rfl (show 3 < 4 by decide) rfl ?_
        refine tq_goto (tgt := 18) (E := E_Law_law L xs) (pc := 1180) (cks_at k_Law_law 812 rfl rfl) (by decide) ?_
        exact tq_sub [1, 2, 3, 0] rfl (hkH (v3 + 6) M159)
      · refine tq_iconst (E := E_Law_law L xs) (pc := 1139) (cks_at k_Law_law 785 rfl rfl) ?_
        exact tq_zretC (E := E_Law_law L xs) (pc := 1140) (cks_at k_Law_law 786 rfl rfl) rfl (by decide)
    refine tq_tsC (E := E_Law_law L xs) (pc := 33) (tgt := 1141) (off := 1108) (w := 32) 32 k_Law_law_33 (by decide) rfl (by decide) ?_ (fun h161 => ?_)
    · refine tq_aload_n 1 (E := E_Law_law L xs) (pc := 1141) (cks_at k_Law_law 787 rfl rfl) rfl ?_
      refine tq_V0 (E := E_Law_law L xs) (pc := 1142) (cks_at k_Law_law 788 rfl rfl) mk_BT_on lk_Law_150 rc_0 (Nat.le_of_ble_eq_true rfl) (c_BT_on (0 + 125) M) (k_I fun r163 M162 => ?_)
      refine tq_aload_n 2 (E := E_Law_law L xs) (pc := 1145) (cks_at k_Law_law 789 rfl rfl) rfl ?_
      refine tq_V0 (E := E_Law_law L xs) (pc := 1146) (cks_at k_Law_law 790 rfl rfl) mk_M_on lk_Law_153 rc_78 (Nat.le_of_ble_eq_true rfl) (c_M_on (0 + 127) M162) (k_I fun r165 M164 => ?_)
      refine tq_icmp_eq (E := E_Law_law L xs) (pc := 1149) (tgt := 1177) (cks_at k_Law_law 791 rfl rfl) (by decide) ?_ ?_
      · refine tq_iinc 3 (E := E_Law_law L xs) (pc := 1177) (cks_at k_Law_law 811 rfl rfl) rfl (show 3 < 4 by decide) rfl ?_
        refine tq_goto (tgt := 18) (E := E_Law_law L xs) (pc := 1180) (cks_at k_Law_law 812 rfl rfl) (by decide) ?_
        exact tq_sub [1, 2, 3, 0] rfl (hkH (v3 + 6) M164)
      · refine tq_iconst (E := E_Law_law L xs) (pc := 1152) (cks_at k_Law_law 792 rfl rfl) ?_
        exact tq_zretC (E := E_Law_law L xs) (pc := 1153) (cks_at k_Law_law 793 rfl rfl) rfl (by decide)
    refine tq_tsC (E := E_Law_law L xs) (pc := 33) (tgt := 1154) (off := 1121) (w := 33) 33 k_Law_law_33 (by decide) rfl (by decide) ?_ (fun h166 => ?_)
    · refine tq_aload_n 1 (E := E_Law_law L xs) (pc := 1154) (cks_at k_Law_law 794 rfl rfl) rfl ?_
      refine tq_aload_n 0 (E := E_Law_law L xs) (pc := 1155) (cks_at k_Law_law 795 rfl rfl) rfl ?_
      refine tq_iload_n 3 (E := E_Law_law L xs) (pc := 1156) (cks_at k_Law_law 796 rfl rfl) rfl ?_
      refine tq_iconst (E := E_Law_law L xs) (pc := 1157) (cks_at k_Law_law 797 rfl rfl) ?_
      refine tq_iadd (E := E_Law_law L xs) (pc := 1158) (cks_at k_Law_law 798 rfl rfl) ?_
      refine tq_scrL (E := E_Law_law L xs) (pc := 1159) trivial (cks_at k_Law_law 799 rfl rfl) ?_
      refine tq_V1 (E := E_Law_law L xs) (pc := 1160) (cks_at k_Law_law 800 rfl rfl) mk_BT_status lk_Law_154 rc_0 (Nat.le_of_ble_eq_true rfl) (c_BT_status (0 + 128) ((xs (i32 (v3 + 1)).toNat).toInt) M) (k_I fun r168 M167 => ?_)
      refine tq_aload_n 2 (E := E_Law_law L xs) (pc := 1163) (cks_at k_Law_law 801 rfl rfl) rfl ?_
      refine tq_aload_n 0 (E := E_Law_law L xs) (pc := 1164) (cks_at k_Law_law 802 rfl rfl) rfl ?_
      refine tq_iload_n 3 (E := E_Law_law L xs) (pc := 1165) (cks_at k_Law_law 803 rfl rfl) rfl ?_
      refine tq_iconst (E := E_Law_law L xs) (pc := 1166) (cks_at k_Law_law 804 rfl rfl) ?_
      refine tq_iadd (E := E_Law_law L xs) (pc := 1167) (cks_at k_Law_law 805 rfl rfl) ?_
      refine tq_scrL (E := E_Law_law L xs) (pc := 1168) trivial (cks_at k_Law_law 806 rfl rfl) ?_
      refine tq_V1 (E := E_Law_law L xs) (pc := 1169) (cks_at k_Law_law 807 rfl rfl) mk_M_status lk_Law_157 rc_78 (Nat.le_of_ble_eq_true rfl) (c_M_status (0 + 128) ((xs (i32 (v3 + 1)).toNat).toInt) M167) (k_I fun r170 M169 => ?_)
      refine tq_icmp_eq (E := E_Law_law L xs) (pc := 1172) (tgt := 1177) (cks_at k_Law_law 808 rfl rfl) (by decide) ?_ ?_
      · refine tq_iinc 3 (E := E_Law_law L xs) (pc := 1177) (cks_at k_Law_law 811 rfl rfl) rfl (show 3 < 4 by decide) rfl ?_
        refine tq_goto (tgt := 18) (E := E_Law_law L xs) (pc := 1180) (cks_at k_Law_law 812 rfl rfl) (by decide) ?_
        exact tq_sub [1, 2, 3, 0] rfl (hkH (v3 + 6) M169)
      · refine tq_iconst (E := E_Law_law L xs) (pc := 1175) (cks_at k_Law_law 809 rfl rfl) ?_
        exact tq_zretC (E := E_Law_law L xs) (pc := 1176) (cks_at k_Law_law 810 rfl rfl) rfl (by decide)
    refine tq_tsD (E := E_Law_law L xs) (pc := 33) (tgt := 1177) k_Law_law_33 (by omega) (by decide) ?_
    refine tq_iinc 3 (E := E_Law_law L xs) (pc := 1177) (cks_at k_Law_law 811 rfl rfl) rfl (show 3 < 4 by decide) rfl ?_
    refine tq_goto (tgt := 18) (E := E_Law_law L xs) (pc := 1180) (cks_at k_Law_law 812 rfl rfl) (by decide) ?_
    exact tq_sub [1, 2, 3, 0] rfl (hkH (v3 + 6) M)
def f_Law_law_L18 (L : Nat) (xs : Nat → Int32) : Nat → Int × Mm → Option (Int × Mm) := lp fun kH s => f_Law_law_B18 L xs (fun v3 M => kH (v3, M)) s.1 s.2
set_option maxRecDepth 20000 in
set_option maxHeartbeats 4000000 in
theorem w_Law_law_L18 (L : Nat) (xs : Nat → Int32) (n : Nat) (s : Int × Mm) : T (E_Law_law L xs) injI 18 [(0, .ref 900), (1, .ref 0), (2, .ref 78), (3, vI s.1)] [] s.2 (f_Law_law_L18 L xs n s) :=
  tq_lp (fun s => [(0, .ref 900), (1, .ref 0), (2, .ref 78), (3, vI s.1)]) (fun s => s.2) (fun kH hH s => w_Law_law_B18 L xs (fun v3 M => kH (v3, M)) (fun v3 M => hH (v3, M)) s.1 s.2) n s
def f_Law_law (L : Nat) (xs : Nat → Int32) (v3 : Int) (M : Mm) : Option (Int × Mm) :=
  f_Law_law_L18 L xs FU (v3, M)
set_option maxRecDepth 20000 in
set_option maxHeartbeats 4000000 in
theorem w_Law_law (L : Nat) (xs : Nat → Int32) (v3 : Int) (M : Mm) : T (E_Law_law L xs) injI 18 [(0, .ref 900), (1, .ref 0), (2, .ref 78), (3, vI v3)] [] M (f_Law_law L xs v3 M) := by
  unfold f_Law_law
  exact tq_sub [0, 1, 2, 3] rfl (w_Law_law_L18 L xs FU (v3, M))
