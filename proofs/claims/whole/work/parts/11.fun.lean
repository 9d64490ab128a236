def a_Prec_checkIndex : List (Nat × Instr × Nat) := [(0, .iload_n 0, 1), (1, .ifCond .lt 8, 3), (4, .iload_n 0, 1), (5, .iload_n 1, 1), (6, .if_icmp .lt 10, 3), (9, .aload_n 2, 1), (10, .iload_n 0, 1), (11, .iload_n 1, 1), (12, .invokestatic 95, 3), (15, .athrow, 1), (16, .iload_n 0, 1), (17, .ireturn, 1)]
theorem k_Prec_checkIndex : cks prog_19_method_11_code a_Prec_checkIndex = true := by decide +kernel
abbrev E_Scan_skip (d : Nat) : Ev := (Ct (d + 0), "BreathTown$Scan", prog_7_method_7_code, 2, False, 0, (fun _ => 0), (Option.none : Option Jvm.ClassFile.FieldType))
def f_Scan_skip_J49 (kH : Int → Mm → Option (Mm)) (v1 : Int) (M : Mm) : Option (Mm) :=
  bd (up M 1 2 (v1 + 1)) (fun M1 =>
  kH (v1 + 1) M1)
set_option maxRecDepth 20000 in
set_option maxHeartbeats 4000000 in
theorem w_Scan_skip_J49 (d : Nat) (kH : Int → Mm → Option (Mm)) (hkH : ∀ (v1 : Int) (M : Mm), T (E_Scan_skip d) injV 5 [(0, .ref 1), (1, vI v1)] [] M (kH v1 M)) (v1 : Int) (M : Mm) : T (E_Scan_skip d) injV 49 [(0, .ref 1), (1, vI v1)] [] M (f_Scan_skip_J49 kH v1 M) := by
  unfold f_Scan_skip_J49
  refine tq_aload_n 0 (E := E_Scan_skip d) (pc := 49) (cks_at k_Scan_skip 27 rfl rfl) rfl ?_
  refine tq_iload_n 1 (E := E_Scan_skip d) (pc := 50) (cks_at k_Scan_skip 28 rfl rfl) rfl ?_
  refine tq_iconst (E := E_Scan_skip d) (pc := 51) (cks_at k_Scan_skip 29 rfl rfl) ?_
  refine tq_iadd (E := E_Scan_skip d) (pc := 52) (cks_at k_Scan_skip 30 rfl rfl) ?_
  refine tq_putI (E := E_Scan_skip d) (pc := 53) (cks_at k_Scan_skip 31 rfl rfl) fo_Scan_23 so_1 rfl po_5_2 (fun M1 => ?_)
  refine tq_iinc 1 (E := E_Scan_skip d) (pc := 56) (cks_at k_Scan_skip 32 rfl rfl) rfl (show 1 < 2 by decide) rfl ?_
  refine tq_goto (tgt := 5) (E := E_Scan_skip d) (pc := 59) (cks_at k_Scan_skip 33 rfl rfl) (by decide) ?_
  exact tq_sub [1, 0] rfl (hkH (v1 + 1) M1)
def f_Scan_skip_B5 (kH : Int → Mm → Option (Mm)) (v1 : Int) (M : Mm) : Option (Mm) :=
  if i32 v1 < 0 then
    some M
  else
    if i32 (M 1 1) ≤ i32 v1 then
      some M
    else
      if i32 (((1600 : Nat) : Int)) ≤ i32 v1 then
        some M
      else
        gd (0 ≤ i32 v1 ∧ i32 v1 < ((1600 : Nat) : Int)) <|
        if i32 (M 2 (i32 v1).toNat) = i32 10 then
          f_Scan_skip_J49 kH v1 M
        else
          gd (0 ≤ i32 v1 ∧ i32 v1 < ((1600 : Nat) : Int)) <|
          if i32 (M 2 (i32 v1).toNat) = i32 32 then
            f_Scan_skip_J49 kH v1 M
          else
            some M
set_option maxRecDepth 20000 in
set_option maxHeartbeats 4000000 in
theorem w_Scan_skip_B5 (d : Nat) (kH : Int → Mm → Option (Mm)) (hkH : ∀ (v1 : Int) (M : Mm), T (E_Scan_skip d) injV 5 [(0, .ref 1), (1, vI v1)] [] M (kH v1 M)) (v1 : Int) (M : Mm) : T (E_Scan_skip d) injV 5 [(0, .ref 1), (1, vI v1)] [] M (f_Scan_skip_B5 kH v1 M) := by
  unfold f_Scan_skip_B5
  refine tq_iload_n 1 (E := E_Scan_skip d) (pc := 5) (cks_at k_Scan_skip 3 rfl rfl) rfl ?_
  refine tq_if_lt (E := E_Scan_skip d) (pc := 6) (tgt := 62) (cks_at k_Scan_skip 4 rfl rfl) (by decide) ?_ ?_
  · exact tq_vret (E := E_Scan_skip d) (pc := 62) (cks_at k_Scan_skip 34 rfl rfl) rfl
  · refine tq_iload_n 1 (E := E_Scan_skip d) (pc := 9) (cks_at k_Scan_skip 5 rfl rfl) rfl ?_
    refine tq_aload_n 0 (E := E_Scan_skip d) (pc := 10) (cks_at k_Scan_skip 6 rfl rfl) rfl ?_
    refine tq_getI (E := E_Scan_skip d) (pc := 11) (cks_at k_Scan_skip 7 rfl rfl) fo_Scan_15 so_1 rfl (by decide) ?_
    refine tq_icmp_ge (E := E_Scan_skip d) (pc := 14) (tgt := 62) (cks_at k_Scan_skip 8 rfl rfl) (by decide) ?_ ?_
    · exact tq_vret (E := E_Scan_skip d) (pc := 62) (cks_at k_Scan_skip 34 rfl rfl) rfl
    · refine tq_iload_n 1 (E := E_Scan_skip d) (pc := 17) (cks_at k_Scan_skip 9 rfl rfl) rfl ?_
      refine tq_aload_n 0 (E := E_Scan_skip d) (pc := 18) (cks_at k_Scan_skip 10 rfl rfl) rfl ?_
      refine tq_getR (j := 2) (E := E_Scan_skip d) (pc := 19) (cks_at k_Scan_skip 11 rfl rfl) fo_Scan_9 so_1 rfl sp_1_0 ?_
      refine tq_alen (E := E_Scan_skip d) (pc := 22) (cks_at k_Scan_skip 12 rfl rfl) ⟨by rw [(sa_2).1]; decide, by rw [(sa_2).1]; decide, (sa_2).2⟩ sn_2 ?_
      refine tq_icmp_ge (E := E_Scan_skip d) (pc := 23) (tgt := 62) (cks_at k_Scan_skip 13 rfl rfl) (by decide) ?_ ?_
      · exact tq_vret (E := E_Scan_skip d) (pc := 62) (cks_at k_Scan_skip 34 rfl rfl) rfl
      · refine tq_aload_n 0 (E := E_Scan_skip d) (pc := 26) (cks_at k_Scan_skip 14 rfl rfl) rfl ?_
        refine tq_getR (j := 2) (E := E_Scan_skip d) (pc := 27) (cks_at k_Scan_skip 15 rfl rfl) fo_Scan_9 so_1 rfl sp_1_0 ?_
        refine tq_iload_n 1 (E := E_Scan_skip d) (pc := 30) (cks_at k_Scan_skip 16 rfl rfl) rfl ?_
        refine tq_iald (E := E_Scan_skip d) (pc := 31) (cks_at k_Scan_skip 17 rfl rfl) sa_2 sn_2 ?_
        refine tq_bipush (E := E_Scan_skip d) (pc := 32) (cks_at k_Scan_skip 18 rfl rfl) (by decide) (by decide) ?_
        refine tq_icmp_eq (E := E_Scan_skip d) (pc := 34) (tgt := 49) (cks_at k_Scan_skip 19 rfl rfl) (by decide) ?_ ?_
        · exact tq_sub [0, 1] rfl (w_Scan_skip_J49 d kH hkH v1 M)
        · refine tq_aload_n 0 (E := E_Scan_skip d) (pc := 37) (cks_at k_Scan_skip 20 rfl rfl) rfl ?_
          refine tq_getR (j := 2) (E := E_Scan_skip d) (pc := 38) (cks_at k_Scan_skip 21 rfl rfl) fo_Scan_9 so_1 rfl sp_1_0 ?_
          refine tq_iload_n 1 (E := E_Scan_skip d) (pc := 41) (cks_at k_Scan_skip 22 rfl rfl) rfl ?_
          refine tq_iald (E := E_Scan_skip d) (pc := 42) (cks_at k_Scan_skip 23 rfl rfl) sa_2 sn_2 ?_
          refine tq_bipush (E := E_Scan_skip d) (pc := 43) (cks_at k_Scan_skip 24 rfl rfl) (by decide) (by decide) ?_
          refine tq_icmp_eq (E := E_Scan_skip d) (pc := 45) (tgt := 49) (cks_at k_Scan_skip 25 rfl rfl) (by decide) ?_ ?_
          · exact tq_sub [0, 1] rfl (w_Scan_skip_J49 d kH hkH v1 M)
          · exact tq_vret (E := E_Scan_skip d) (pc := 48) (cks_at k_Scan_skip 26 rfl rfl) rfl
def f_Scan_skip_L5 : Nat → Int × Mm → Option (Mm) := lp fun kH s => f_Scan_skip_B5 (fun v1 M => kH (v1, M)) s.1 s.2
set_option maxRecDepth 20000 in
set_option maxHeartbeats 4000000 in
theorem w_Scan_skip_L5 (d : Nat) (n : Nat) (s : Int × Mm) : T (E_Scan_skip d) injV 5 [(0, .ref 1), (1, vI s.1)] [] s.2 (f_Scan_skip_L5 n s) :=
  tq_lp (fun s => [(0, .ref 1), (1, vI s.1)]) (fun s => s.2) (fun kH hH s => w_Scan_skip_B5 d (fun v1 M => kH (v1, M)) (fun v1 M => hH (v1, M)) s.1 s.2) n s
def f_Scan_skip (M : Mm) : Option (Mm) :=
  f_Scan_skip_L5 FU ((M 1 2), M)
set_option maxRecDepth 20000 in
set_option maxHeartbeats 4000000 in
theorem c_Scan_skip (d : Nat) (M : Mm) (Q : Option Value → Mm → Prop) (h : sat injV (f_Scan_skip M) Q) : Ct (d + 1) y_Scan_skip [.ref 1] M Q := by
  refine ct_in (d := d + 0) mk_Scan_skip (Nat.le_of_ble_eq_true rfl) (?_ : T (E_Scan_skip d) injV 0 [(0, .ref 1)] [] M (f_Scan_skip M)) h
  unfold f_Scan_skip
  refine tq_aload_n 0 (E := E_Scan_skip d) (pc := 0) (cks_at k_Scan_skip 0 rfl rfl) rfl ?_
  refine tq_getI (E := E_Scan_skip d) (pc := 1) (cks_at k_Scan_skip 1 rfl rfl) fo_Scan_23 so_1 rfl (by decide) ?_
  refine tq_istore_n (E := E_Scan_skip d) (pc := 4) (cks_at k_Scan_skip 2 rfl rfl) (show 1 < 2 by decide) rfl ?_
  exact tq_sub [1, 0] rfl (w_Scan_skip_L5 d FU ((M 1 2), M))
abbrev E_Scan_byteAt (d : Nat) : Ev := (Ct (d + 0), "BreathTown$Scan", prog_7_method_4_code, 2, False, 0, (fun _ => 0), (Option.some Jvm.ClassFile.FieldType.int))
def f_Scan_byteAt (v1 : Int) (M : Mm) : Option (Int × Mm) :=
  if i32 v1 < 0 then
    some ((-1), M)
  else
    if i32 (M 1 1) ≤ i32 v1 then
      some ((-1), M)
    else
      if i32 (((1600 : Nat) : Int)) ≤ i32 v1 then
        some ((-1), M)
      else
        gd (0 ≤ i32 v1 ∧ i32 v1 < ((1600 : Nat) : Int)) <|
        some (M 2 (i32 v1).toNat, M)
set_option maxRecDepth 20000 in
set_option maxHeartbeats 4000000 in
theorem c_Scan_byteAt (d : Nat) (v1 : Int) (M : Mm) (Q : Option Value → Mm → Prop) (h : sat injI (f_Scan_byteAt v1 M) Q) : Ct (d + 1) y_Scan_byteAt [.ref 1, vI v1] M Q := by
  refine ct_in (d := d + 0) mk_Scan_byteAt (Nat.le_of_ble_eq_true rfl) (?_ : T (E_Scan_byteAt d) injI 0 [(0, .ref 1), (1, vI v1)] [] M (f_Scan_byteAt v1 M)) h
  unfold f_Scan_byteAt
  refine tq_iload_n 1 (E := E_Scan_byteAt d) (pc := 0) (cks_at k_Scan_byteAt 0 rfl rfl) rfl ?_
  refine tq_if_lt (E := E_Scan_byteAt d) (pc := 1) (tgt := 30) (cks_at k_Scan_byteAt 1 rfl rfl) (by decide) ?_ ?_
  · refine tq_iconst (E := E_Scan_byteAt d) (pc := 30) (cks_at k_Scan_byteAt 16 rfl rfl) ?_
    exact tq_iret (E := E_Scan_byteAt d) (pc := 31) (cks_at k_Scan_byteAt 17 rfl rfl) rfl
  · refine tq_iload_n 1 (E := E_Scan_byteAt d) (pc := 4) (cks_at k_Scan_byteAt 2 rfl rfl) rfl ?_
    refine tq_aload_n 0 (E := E_Scan_byteAt d) (pc := 5) (cks_at k_Scan_byteAt 3 rfl rfl) rfl ?_
    refine tq_getI (E := E_Scan_byteAt d) (pc := 6) (cks_at k_Scan_byteAt 4 rfl rfl) fo_Scan_15 so_1 rfl (by decide) ?_
    refine tq_icmp_ge (E := E_Scan_byteAt d) (pc := 9) (tgt := 30) (cks_at k_Scan_byteAt 5 rfl rfl) (by decide) ?_ ?_
    · refine tq_iconst (E := E_Scan_byteAt d) (pc := 30) (cks_at k_Scan_byteAt 16 rfl rfl) ?_
      exact tq_iret (E := E_Scan_byteAt d) (pc := 31) (cks_at k_Scan_byteAt 17 rfl rfl) rfl
    · refine tq_iload_n 1 (E := E_Scan_byteAt d) (pc := 12) (cks_at k_Scan_byteAt 6 rfl rfl) rfl ?_
      refine tq_aload_n 0 (E := E_Scan_byteAt d) (pc := 13) (cks_at k_Scan_byteAt 7 rfl rfl) rfl ?_
      refine tq_getR (j := 2) (E := E_Scan_byteAt d) (pc := 14) (cks_at k_Scan_byteAt 8 rfl rfl) fo_Scan_9 so_1 rfl sp_1_0 ?_
      refine tq_alen (E := E_Scan_byteAt d) (pc := 17) (cks_at k_Scan_byteAt 9 rfl rfl) ⟨by rw [(sa_2).1]; decide, by rw [(sa_2).1]; decide, (sa_2).2⟩ sn_2 ?_
      refine tq_icmp_ge (E := E_Scan_byteAt d) (pc := 18) (tgt := 30) (cks_at k_Scan_byteAt 10 rfl rfl) (by decide) ?_ ?_
      · refine tq_iconst (E := E_Scan_byteAt d) (pc := 30) (cks_at k_Scan_byteAt 16 rfl rfl) ?_
        exact tq_iret (E := E_Scan_byteAt d) (pc := 31) (cks_at k_Scan_byteAt 17 rfl rfl) rfl
      · refine tq_aload_n 0 (E := E_Scan_byteAt d) (pc := 21) (cks_at k_Scan_byteAt 11 rfl rfl) rfl ?_
        refine tq_getR (j := 2) (E := E_Scan_byteAt d) (pc := 22) (cks_at k_Scan_byteAt 12 rfl rfl) fo_Scan_9 so_1 rfl sp_1_0 ?_
        refine tq_iload_n 1 (E := E_Scan_byteAt d) (pc := 25) (cks_at k_Scan_byteAt 13 rfl rfl) rfl ?_
        refine tq_iald (E := E_Scan_byteAt d) (pc := 26) (cks_at k_Scan_byteAt 14 rfl rfl) sa_2 sn_2 ?_
        refine tq_goto (tgt := 31) (E := E_Scan_byteAt d) (pc := 27) (cks_at k_Scan_byteAt 15 rfl rfl) (by decide) ?_
        exact tq_iret (E := E_Scan_byteAt d) (pc := 31) (cks_at k_Scan_byteAt 17 rfl rfl) rfl
abbrev E_Scan_takeSign (d : Nat) : Ev := (Ct (d + 1), "BreathTown$Scan", prog_7_method_12_code, 2, False, 0, (fun _ => 0), (Option.some Jvm.ClassFile.FieldType.boolean))
def f_Scan_takeSign (v1 : Int) (M : Mm) : Option (Int × Mm) :=
  bV (f_Scan_skip M) (fun M1 =>
  bI (f_Scan_byteAt (M1 1 2) M1) (fun r3 M2 =>
  if i32 r3 = i32 v1 then
    bd (up M2 1 2 ((M2 1 2) + 1)) (fun M4 =>
    some (1, M4))
  else
    some (0, M2)))
set_option maxRecDepth 20000 in
set_option maxHeartbeats 4000000 in
theorem c_Scan_takeSign (d : Nat) (v1 : Int) (M : Mm) (Q : Option Value → Mm → Prop) (h : sat injI (f_Scan_takeSign v1 M) Q) : Ct (d + 2) y_Scan_takeSign [.ref 1, vI v1] M Q := by
  refine ct_in (d := d + 1) mk_Scan_takeSign (Nat.le_of_ble_eq_true rfl) (?_ : T (E_Scan_takeSign d) injI 0 [(0, .ref 1), (1, vI v1)] [] M (f_Scan_takeSign v1 M)) h
  unfold f_Scan_takeSign
  refine tq_aload_n 0 (E := E_Scan_takeSign d) (pc := 0) (cks_at k_Scan_takeSign 0 rfl rfl) rfl ?_
  refine tq_V0 (E := E_Scan_takeSign d) (pc := 1) (cks_at k_Scan_takeSign 1 rfl rfl) mk_Scan_skip lk_Scan_38 rc_1 (Nat.le_of_ble_eq_true rfl) (c_Scan_skip (d + 0) M) (k_V fun M1 => ?_)
  refine tq_aload_n 0 (E := E_Scan_takeSign d) (pc := 4) (cks_at k_Scan_takeSign 2 rfl rfl) rfl ?_
  refine tq_aload_n 0 (E := E_Scan_takeSign d) (pc := 5) (cks_at k_Scan_takeSign 3 rfl rfl) rfl ?_
  refine tq_getI (E := E_Scan_takeSign d) (pc := 6) (cks_at k_Scan_takeSign 4 rfl rfl) fo_Scan_23 so_1 rfl (by decide) ?_
  refine tq_V1 (E := E_Scan_takeSign d) (pc := 9) (cks_at k_Scan_takeSign 5 rfl rfl) mk_Scan_byteAt lk_Scan_45 rc_1 (Nat.le_of_ble_eq_true rfl) (c_Scan_byteAt (d + 0) (M1 1 2) M1) (k_I fun r3 M2 => ?_)
  refine tq_iload_n 1 (E := E_Scan_takeSign d) (pc := 12) (cks_at k_Scan_takeSign 6 rfl rfl) rfl ?_
  refine tq_icmp_eq (E := E_Scan_takeSign d) (pc := 13) (tgt := 18) (cks_at k_Scan_takeSign 7 rfl rfl) (by decide) ?_ ?_
  · refine tq_aload_n 0 (E := E_Scan_takeSign d) (pc := 18) (cks_at k_Scan_takeSign 10 rfl rfl) rfl ?_
    refine tq_dup (E := E_Scan_takeSign d) (pc := 19) (cks_at k_Scan_takeSign 11 rfl rfl) rfl ?_
    refine tq_getI (E := E_Scan_takeSign d) (pc := 20) (cks_at k_Scan_takeSign 12 rfl rfl) fo_Scan_23 so_1 rfl (by decide) ?_
    refine tq_iconst (E := E_Scan_takeSign d) (pc := 23) (cks_at k_Scan_takeSign 13 rfl rfl) ?_
    refine tq_iadd (E := E_Scan_takeSign d) (pc := 24) (cks_at k_Scan_takeSign 14 rfl rfl) ?_
    refine tq_putI (E := E_Scan_takeSign d) (pc := 25) (cks_at k_Scan_takeSign 15 rfl rfl) fo_Scan_23 so_1 rfl po_5_2 (fun M4 => ?_)
    refine tq_iconst (E := E_Scan_takeSign d) (pc := 28) (cks_at k_Scan_takeSign 16 rfl rfl) ?_
    exact tq_zretC (E := E_Scan_takeSign d) (pc := 29) (cks_at k_Scan_takeSign 17 rfl rfl) rfl (by decide)
  · refine tq_iconst (E := E_Scan_takeSign d) (pc := 16) (cks_at k_Scan_takeSign 8 rfl rfl) ?_
    exact tq_zretC (E := E_Scan_takeSign d) (pc := 17) (cks_at k_Scan_takeSign 9 rfl rfl) rfl (by decide)
abbrev E_Code_add (d : Nat) : Ev := (Ct (d + 0), "BreathTown$Code", prog_2_method_3_code, 2, False, 0, (fun _ => 0), (Option.none : Option Jvm.ClassFile.FieldType))
def f_Code_add (this : Nat) (v1 : Int) (M : Mm) : Option (Mm) :=
  if i32 (M this 3) < 0 then
    some M
  else
    if i32 (((1600 : Nat) : Int)) ≤ i32 (M this 3) then
      some M
    else
      gd (0 ≤ i32 (M this 3) ∧ i32 (M this 3) < ((1600 : Nat) : Int)) <|
      bd (up M (ptr this 0) (i32 (M this 3)).toNat v1) (fun M1 =>
      bd (up M1 this 3 ((M1 this 3) + 1)) (fun M2 =>
      if i32 ((-6)) < i32 v1 then
        bd (up M2 this 4 (or32 (M2 this 4) 0)) (fun M3 =>
        some M3)
      else
        if i32 v1 < i32 ((-8)) then
          bd (up M2 this 4 (or32 (M2 this 4) 0)) (fun M4 =>
          some M4)
        else
          bd (up M2 this 4 (or32 (M2 this 4) (shl32 1 (((-6)) - v1)))) (fun M5 =>
          some M5)))
set_option maxRecDepth 20000 in
set_option maxHeartbeats 4000000 in
theorem c_Code_add (d : Nat) (this : Nat) (hthis : isCode this) (v1 : Int) (M : Mm) (Q : Option Value → Mm → Prop) (h : sat injV (f_Code_add this v1 M) Q) : Ct (d + 1) y_Code_add [.ref this, vI v1] M Q := by
  refine ct_in (d := d + 0) mk_Code_add (Nat.le_of_ble_eq_true rfl) (?_ : T (E_Code_add d) injV 0 [(0, .ref this), (1, vI v1)] [] M (f_Code_add this v1 M)) h
  unfold f_Code_add
  refine tq_aload_n 0 (E := E_Code_add d) (pc := 0) (cks_at k_Code_add 0 rfl rfl) rfl ?_
  refine tq_getI (E := E_Code_add d) (pc := 1) (cks_at k_Code_add 1 rfl rfl) fo_Code_21 (isCode_ok hthis) rfl (by decide) ?_
  refine tq_if_lt (E := E_Code_add d) (pc := 4) (tgt := 70) (cks_at k_Code_add 2 rfl rfl) (by decide) ?_ ?_
  · exact tq_vret (E := E_Code_add d) (pc := 70) (cks_at k_Code_add 39 rfl rfl) rfl
  · refine tq_aload_n 0 (E := E_Code_add d) (pc := 7) (cks_at k_Code_add 3 rfl rfl) rfl ?_
    refine tq_getI (E := E_Code_add d) (pc := 8) (cks_at k_Code_add 4 rfl rfl) fo_Code_21 (isCode_ok hthis) rfl (by decide) ?_
    refine tq_aload_n 0 (E := E_Code_add d) (pc := 11) (cks_at k_Code_add 5 rfl rfl) rfl ?_
    refine tq_getR (j := ptr this 0) (E := E_Code_add d) (pc := 12) (cks_at k_Code_add 6 rfl rfl) fo_Code_9 (isCode_ok hthis) rfl rfl ?_
    refine tq_alen (E := E_Code_add d) (pc := 15) (cks_at k_Code_add 7 rfl rfl) ⟨by rw [((sa_Code_0 hthis)).1]; decide, by rw [((sa_Code_0 hthis)).1]; decide, ((sa_Code_0 hthis)).2⟩ (sn_Code_0 hthis) ?_
    refine tq_icmp_ge (E := E_Code_add d) (pc := 16) (tgt := 70) (cks_at k_Code_add 8 rfl rfl) (by decide) ?_ ?_
    · exact tq_vret (E := E_Code_add d) (pc := 70) (cks_at k_Code_add 39 rfl rfl) rfl
    · refine tq_aload_n 0 (E := E_Code_add d) (pc := 19) (cks_at k_Code_add 9 rfl rfl) rfl ?_
      refine tq_getR (j := ptr this 0) (E := E_Code_add d) (pc := 20) (cks_at k_Code_add 10 rfl rfl) fo_Code_9 (isCode_ok hthis) rfl rfl ?_
      refine tq_aload_n 0 (E := E_Code_add d) (pc := 23) (cks_at k_Code_add 11 rfl rfl) rfl ?_
      refine tq_getI (E := E_Code_add d) (pc := 24) (cks_at k_Code_add 12 rfl rfl) fo_Code_21 (isCode_ok hthis) rfl (by decide) ?_
      refine tq_iload_n 1 (E := E_Code_add d) (pc := 27) (cks_at k_Code_add 13 rfl rfl) rfl ?_
      refine tq_iast (E := E_Code_add d) (pc := 28) (cks_at k_Code_add 14 rfl rfl) (sa_Code_0 hthis) (sn_Code_0 hthis) (fun M1 => ?_)
      refine tq_aload_n 0 (E := E_Code_add d) (pc := 29) (cks_at k_Code_add 15 rfl rfl) rfl ?_
      refine tq_dup (E := E_Code_add d) (pc := 30) (cks_at k_Code_add 16 rfl rfl) rfl ?_
      refine tq_getI (E := E_Code_add d) (pc := 31) (cks_at k_Code_add 17 rfl rfl) fo_Code_21 (isCode_ok hthis) rfl (by decide) ?_
      refine tq_iconst (E := E_Code_add d) (pc := 34) (cks_at k_Code_add 18 rfl rfl) ?_
      refine tq_iadd (E := E_Code_add d) (pc := 35) (cks_at k_Code_add 19 rfl rfl) ?_
      refine tq_putI (E := E_Code_add d) (pc := 36) (cks_at k_Code_add 20 rfl rfl) fo_Code_21 (isCode_ok hthis) rfl po_0_3 (fun M2 => ?_)
      refine tq_aload_n 0 (E := E_Code_add d) (pc := 39) (cks_at k_Code_add 21 rfl rfl) rfl ?_
      refine tq_dup (E := E_Code_add d) (pc := 40) (cks_at k_Code_add 22 rfl rfl) rfl ?_
      refine tq_getI (E := E_Code_add d) (pc := 41) (cks_at k_Code_add 23 rfl rfl) fo_Code_25 (isCode_ok hthis) rfl (by decide) ?_
      refine tq_iload_n 1 (E := E_Code_add d) (pc := 44) (cks_at k_Code_add 24 rfl rfl) rfl ?_
      refine tq_bipush (E := E_Code_add d) (pc := 45) (cks_at k_Code_add 25 rfl rfl) (by decide) (by decide) ?_
      refine tq_icmp_gt (E := E_Code_add d) (pc := 47) (tgt := 65) (cks_at k_Code_add 26 rfl rfl) (by decide) ?_ ?_
      · refine tq_iconst (E := E_Code_add d) (pc := 65) (cks_at k_Code_add 36 rfl rfl) ?_
        refine tq_ior (E := E_Code_add d) (pc := 66) (cks_at k_Code_add 37 rfl rfl) ?_
        refine tq_putI (E := E_Code_add d) (pc := 67) (cks_at k_Code_add 38 rfl rfl) fo_Code_25 (isCode_ok hthis) rfl po_0_4 (fun M3 => ?_)
        exact tq_vret (E := E_Code_add d) (pc := 70) (cks_at k_Code_add 39 rfl rfl) rfl
      · refine tq_iload_n 1 (E := E_Code_add d) (pc := 50) (cks_at k_Code_add 27 rfl rfl) rfl ?_
        refine tq_bipush (E := E_Code_add d) (pc := 51) (cks_at k_Code_add 28 rfl rfl) (by decide) (by decide) ?_
        refine tq_icmp_lt (E := E_Code_add d) (pc := 53) (tgt := 65) (cks_at k_Code_add 29 rfl rfl) (by decide) ?_ ?_
        · refine tq_iconst (E := E_Code_add d) (pc := 65) (cks_at k_Code_add 36 rfl rfl) ?_
          refine tq_ior (E := E_Code_add d) (pc := 66) (cks_at k_Code_add 37 rfl rfl) ?_
          refine tq_putI (E := E_Code_add d) (pc := 67) (cks_at k_Code_add 38 rfl rfl) fo_Code_25 (isCode_ok hthis) rfl po_0_4 (fun M4 => ?_)
          exact tq_vret (E := E_Code_add d) (pc := 70) (cks_at k_Code_add 39 rfl rfl) rfl
        · refine tq_iconst (E := E_Code_add d) (pc := 56) (cks_at k_Code_add 30 rfl rfl) ?_
          refine tq_bipush (E := E_Code_add d) (pc := 57) (cks_at k_Code_add 31 rfl rfl) (by decide) (by decide) ?_
          refine tq_iload_n 1 (E := E_Code_add d) (pc := 59) (cks_at k_Code_add 32 rfl rfl) rfl ?_
          refine tq_isub (E := E_Code_add d) (pc := 60) (cks_at k_Code_add 33 rfl rfl) ?_
          refine tq_ishl (E := E_Code_add d) (pc := 61) (cks_at k_Code_add 34 rfl rfl) ?_
          refine tq_goto (tgt := 66) (E := E_Code_add d) (pc := 62) (cks_at k_Code_add 35 rfl rfl) (by decide) ?_
          refine tq_ior (E := E_Code_add d) (pc := 66) (cks_at k_Code_add 37 rfl rfl) ?_
          refine tq_putI (E := E_Code_add d) (pc := 67) (cks_at k_Code_add 38 rfl rfl) fo_Code_25 (isCode_ok hthis) rfl po_0_4 (fun M5 => ?_)
          exact tq_vret (E := E_Code_add d) (pc := 70) (cks_at k_Code_add 39 rfl rfl) rfl
abbrev E_Scan_isDigit (d : Nat) : Ev := (Ct (d + 0), "BreathTown$Scan", prog_7_method_6_code, 1, False, 0, (fun _ => 0), (Option.some Jvm.ClassFile.FieldType.boolean))
def f_Scan_isDigit (v0 : Int) (M : Mm) : Option (Int × Mm) :=
  if i32 v0 < i32 48 then
    some (0, M)
  else
    if i32 57 < i32 v0 then
      some (0, M)
    else
      some (1, M)
set_option maxRecDepth 20000 in
set_option maxHeartbeats 4000000 in
theorem c_Scan_isDigit (d : Nat) (v0 : Int) (M : Mm) (Q : Option Value → Mm → Prop) (h : sat injI (f_Scan_isDigit v0 M) Q) : Ct (d + 1) y_Scan_isDigit [vI v0] M Q := by
  refine ct_in (d := d + 0) mk_Scan_isDigit (Nat.le_of_ble_eq_true rfl) (?_ : T (E_Scan_isDigit d) injI 0 [(0, vI v0)] [] M (f_Scan_isDigit v0 M)) h
  unfold f_Scan_isDigit
  refine tq_iload_n 0 (E := E_Scan_isDigit d) (pc := 0) (cks_at k_Scan_isDigit 0 rfl rfl) rfl ?_
  refine tq_bipush (E := E_Scan_isDigit d) (pc := 1) (cks_at k_Scan_isDigit 1 rfl rfl) (by decide) (by decide) ?_
  refine tq_icmp_lt (E := E_Scan_isDigit d) (pc := 3) (tgt := 16) (cks_at k_Scan_isDigit 2 rfl rfl) (by decide) ?_ ?_
  · refine tq_iconst (E := E_Scan_isDigit d) (pc := 16) (cks_at k_Scan_isDigit 8 rfl rfl) ?_
    exact tq_zretC (E := E_Scan_isDigit d) (pc := 17) (cks_at k_Scan_isDigit 9 rfl rfl) rfl (by decide)
  · refine tq_iload_n 0 (E := E_Scan_isDigit d) (pc := 6) (cks_at k_Scan_isDigit 3 rfl rfl) rfl ?_
    refine tq_bipush (E := E_Scan_isDigit d) (pc := 7) (cks_at k_Scan_isDigit 4 rfl rfl) (by decide) (by decide) ?_
    refine tq_icmp_gt (E := E_Scan_isDigit d) (pc := 9) (tgt := 16) (cks_at k_Scan_isDigit 5 rfl rfl) (by decide) ?_ ?_
    · refine tq_iconst (E := E_Scan_isDigit d) (pc := 16) (cks_at k_Scan_isDigit 8 rfl rfl) ?_
      exact tq_zretC (E := E_Scan_isDigit d) (pc := 17) (cks_at k_Scan_isDigit 9 rfl rfl) rfl (by decide)
    · refine tq_iconst (E := E_Scan_isDigit d) (pc := 12) (cks_at k_Scan_isDigit 6 rfl rfl) ?_
      refine tq_goto (tgt := 17) (E := E_Scan_isDigit d) (pc := 13) (cks_at k_Scan_isDigit 7 rfl rfl) (by decide) ?_
      exact tq_zretC (E := E_Scan_isDigit d) (pc := 17) (cks_at k_Scan_isDigit 9 rfl rfl) rfl (by decide)
abbrev E_Scan_atNumber (d : Nat) : Ev := (Ct (d + 1), "BreathTown$Scan", prog_7_method_16_code, 1, False, 0, (fun _ => 0), (Option.some Jvm.ClassFile.FieldType.boolean))
def f_Scan_atNumber (M : Mm) : Option (Int × Mm) :=
  bV (f_Scan_skip M) (fun M1 =>
  if i32 (M1 1 2) = i32 (M1 1 3) then
    some (0, M1)
  else
    bI (f_Scan_byteAt (M1 1 2) M1) (fun r3 M2 =>
    bI (f_Scan_isDigit r3 M2) (fun r5 M4 =>
    if i32 r5 = 0 then
      some (0, M4)
    else
      some (1, M4))))
set_option maxRecDepth 20000 in
set_option maxHeartbeats 4000000 in
theorem c_Scan_atNumber (d : Nat) (M : Mm) (Q : Option Value → Mm → Prop) (h : sat injI (f_Scan_atNumber M) Q) : Ct (d + 2) y_Scan_atNumber [.ref 1] M Q := by
  refine ct_in (d := d + 1) mk_Scan_atNumber (Nat.le_of_ble_eq_true rfl) (?_ : T (E_Scan_atNumber d) injI 0 [(0, .ref 1)] [] M (f_Scan_atNumber M)) h
  unfold f_Scan_atNumber
  refine tq_aload_n 0 (E := E_Scan_atNumber d) (pc := 0) (cks_at k_Scan_atNumber 0 rfl rfl) rfl ?_
  refine tq_V0 (E := E_Scan_atNumber d) (pc := 1) (cks_at k_Scan_atNumber 1 rfl rfl) mk_Scan_skip lk_Scan_38 rc_1 (Nat.le_of_ble_eq_true rfl) (c_Scan_skip (d + 0) M) (k_V fun M1 => ?_)
  refine tq_aload_n 0 (E := E_Scan_atNumber d) (pc := 4) (cks_at k_Scan_atNumber 2 rfl rfl) rfl ?_
  refine tq_getI (E := E_Scan_atNumber d) (pc := 5) (cks_at k_Scan_atNumber 3 rfl rfl) fo_Scan_23 so_1 rfl (by decide) ?_
  refine tq_aload_n 0 (E := E_Scan_atNumber d) (pc := 8) (cks_at k_Scan_atNumber 4 rfl rfl) rfl ?_
  refine tq_getI (E := E_Scan_atNumber d) (pc := 9) (cks_at k_Scan_atNumber 5 rfl rfl) fo_Scan_26 so_1 rfl (by decide) ?_
  refine tq_icmp_eq (E := E_Scan_atNumber d) (pc := 12) (tgt := 33) (cks_at k_Scan_atNumber 6 rfl rfl) (by decide) ?_ ?_
  · refine tq_iconst (E := E_Scan_atNumber d) (pc := 33) (cks_at k_Scan_atNumber 15 rfl rfl) ?_
    exact tq_zretC (E := E_Scan_atNumber d) (pc := 34) (cks_at k_Scan_atNumber 16 rfl rfl) rfl (by decide)
  · refine tq_aload_n 0 (E := E_Scan_atNumber d) (pc := 15) (cks_at k_Scan_atNumber 7 rfl rfl) rfl ?_
    refine tq_aload_n 0 (E := E_Scan_atNumber d) (pc := 16) (cks_at k_Scan_atNumber 8 rfl rfl) rfl ?_
    refine tq_getI (E := E_Scan_atNumber d) (pc := 17) (cks_at k_Scan_atNumber 9 rfl rfl) fo_Scan_23 so_1 rfl (by decide) ?_
    refine tq_V1 (E := E_Scan_atNumber d) (pc := 20) (cks_at k_Scan_atNumber 10 rfl rfl) mk_Scan_byteAt lk_Scan_45 rc_1 (Nat.le_of_ble_eq_true rfl) (c_Scan_byteAt (d + 0) (M1 1 2) M1) (k_I fun r3 M2 => ?_)
    refine tq_S1 (E := E_Scan_atNumber d) (pc := 23) (cks_at k_Scan_atNumber 11 rfl rfl) mk_Scan_isDigit lk_Scan_73 (Nat.le_of_ble_eq_true rfl) (c_Scan_isDigit (d + 0) r3 M2) (k_I fun r5 M4 => ?_)
    refine tq_if_eq (E := E_Scan_atNumber d) (pc := 26) (tgt := 33) (cks_at k_Scan_atNumber 12 rfl rfl) (by decide) ?_ ?_
    · refine tq_iconst (E := E_Scan_atNumber d) (pc := 33) (cks_at k_Scan_atNumber 15 rfl rfl) ?_
      exact tq_zretC (E := E_Scan_atNumber d) (pc := 34) (cks_at k_Scan_atNumber 16 rfl rfl) rfl (by decide)
    · refine tq_iconst (E := E_Scan_atNumber d) (pc := 29) (cks_at k_Scan_atNumber 13 rfl rfl) ?_
      refine tq_goto (tgt := 34) (E := E_Scan_atNumber d) (pc := 30) (cks_at k_Scan_atNumber 14 rfl rfl) (by decide) ?_
      exact tq_zretC (E := E_Scan_atNumber d) (pc := 34) (cks_at k_Scan_atNumber 16 rfl rfl) rfl (by decide)
abbrev E_Scan_fail (d : Nat) : Ev := (Ct (d + 0), "BreathTown$Scan", prog_7_method_8_code, 3, False, 0, (fun _ => 0), (Option.some Jvm.ClassFile.FieldType.boolean))
def f_Scan_fail (v1 : Int) (v2 : Int) (M : Mm) : Option (Int × Mm) :=
  if ¬ i32 (M 1 5) = 0 then
    some (0, M)
  else
    bd (up M 1 5 v1) (fun M1 =>
    bd (up M1 1 6 v2) (fun M2 =>
    some (0, M2)))
set_option maxRecDepth 20000 in
set_option maxHeartbeats 4000000 in
theorem c_Scan_fail (d : Nat) (v1 : Int) (v2 : Int) (M : Mm) (Q : Option Value → Mm → Prop) (h : sat injI (f_Scan_fail v1 v2 M) Q) : Ct (d + 1) y_Scan_fail [.ref 1, vI v1, vI v2] M Q := by
  refine ct_in (d := d + 0) mk_Scan_fail (Nat.le_of_ble_eq_true rfl) (?_ : T (E_Scan_fail d) injI 0 [(0, .ref 1), (1, vI v1), (2, vI v2)] [] M (f_Scan_fail v1 v2 M)) h
  unfold f_Scan_fail
  refine tq_aload_n 0 (E := E_Scan_fail d) (pc := 0) (cks_at k_Scan_fail 0 rfl rfl) rfl ?_
  refine tq_getI (E := E_Scan_fail d) (pc := 1) (cks_at k_Scan_fail 1 rfl rfl) fo_Scan_32 so_1 rfl (by decide) ?_
  refine tq_if_ne (E := E_Scan_fail d) (pc := 4) (tgt := 17) (cks_at k_Scan_fail 2 rfl rfl) (by decide) ?_ ?_
  · refine tq_iconst (E := E_Scan_fail d) (pc := 17) (cks_at k_Scan_fail 9 rfl rfl) ?_
    exact tq_zretC (E := E_Scan_fail d) (pc := 18) (cks_at k_Scan_fail 10 rfl rfl) rfl (by decide)
  · refine tq_aload_n 0 (E := E_Scan_fail d) (pc := 7) (cks_at k_Scan_fail 3 rfl rfl) rfl ?_
    refine tq_iload_n 1 (E := E_Scan_fail d) (pc := 8) (cks_at k_Scan_fail 4 rfl rfl) rfl ?_
    refine tq_putI (E := E_Scan_fail d) (pc := 9) (cks_at k_Scan_fail 5 rfl rfl) fo_Scan_32 so_1 rfl po_5_5 (fun M1 => ?_)
    refine tq_aload_n 0 (E := E_Scan_fail d) (pc := 12) (cks_at k_Scan_fail 6 rfl rfl) rfl ?_
    refine tq_iload_n 2 (E := E_Scan_fail d) (pc := 13) (cks_at k_Scan_fail 7 rfl rfl) rfl ?_
    refine tq_putI (E := E_Scan_fail d) (pc := 14) (cks_at k_Scan_fail 8 rfl rfl) fo_Scan_35 so_1 rfl po_5_6 (fun M2 => ?_)
    refine tq_iconst (E := E_Scan_fail d) (pc := 17) (cks_at k_Scan_fail 9 rfl rfl) ?_
    exact tq_zretC (E := E_Scan_fail d) (pc := 18) (cks_at k_Scan_fail 10 rfl rfl) rfl (by decide)
abbrev E_Scan_unexpected (d : Nat) : Ev := (Ct (d + 1), "BreathTown$Scan", prog_7_method_9_code, 1, False, 0, (fun _ => 0), (Option.some Jvm.ClassFile.FieldType.boolean))
def f_Scan_unexpected (M : Mm) : Option (Int × Mm) :=
  bV (f_Scan_skip M) (fun M1 =>
  bI (f_Scan_fail 1 (M1 1 2) M1) (fun r3 M2 =>
  gd (i32 r3 = 0 ∨ i32 r3 = 1) (some (r3, M2))))
set_option maxRecDepth 20000 in
set_option maxHeartbeats 4000000 in
theorem c_Scan_unexpected (d : Nat) (M : Mm) (Q : Option Value → Mm → Prop) (h : sat injI (f_Scan_unexpected M) Q) : Ct (d + 2) y_Scan_unexpected [.ref 1] M Q := by
  refine ct_in (d := d + 1) mk_Scan_unexpected (Nat.le_of_ble_eq_true rfl) (?_ : T (E_Scan_unexpected d) injI 0 [(0, .ref 1)] [] M (f_Scan_unexpected M)) h
  unfold f_Scan_unexpected
  refine tq_aload_n 0 (E := E_Scan_unexpected d) (pc := 0) (cks_at k_Scan_unexpected 0 rfl rfl) rfl ?_
  refine tq_V0 (E := E_Scan_unexpected d) (pc := 1) (cks_at k_Scan_unexpected 1 rfl rfl) mk_Scan_skip lk_Scan_38 rc_1 (Nat.le_of_ble_eq_true rfl) (c_Scan_skip (d + 0) M) (k_V fun M1 => ?_)
  refine tq_aload_n 0 (E := E_Scan_unexpected d) (pc := 4) (cks_at k_Scan_unexpected 2 rfl rfl) rfl ?_
  refine tq_iconst (E := E_Scan_unexpected d) (pc := 5) (cks_at k_Scan_unexpected 3 rfl rfl) ?_
  refine tq_aload_n 0 (E := E_Scan_unexpected d) (pc := 6) (cks_at k_Scan_unexpected 4 rfl rfl) rfl ?_
  refine tq_getI (E := E_Scan_unexpected d) (pc := 7) (cks_at k_Scan_unexpected 5 rfl rfl) fo_Scan_23 so_1 rfl (by decide) ?_
  refine tq_V2 (E := E_Scan_unexpected d) (pc := 10) (cks_at k_Scan_unexpected 6 rfl rfl) mk_Scan_fail lk_Scan_41 rc_1 (Nat.le_of_ble_eq_true rfl) (c_Scan_fail (d + 0) 1 (M1 1 2) M1) (k_I fun r3 M2 => ?_)
  exact tq_zret (E := E_Scan_unexpected d) (pc := 13) (cks_at k_Scan_unexpected 7 rfl rfl) rfl
abbrev E_Scan_number (d : Nat) : Ev := (Ct (d + 2), "BreathTown$Scan", prog_7_method_17_code, 5, False, 0, (fun _ => 0), (Option.some Jvm.ClassFile.FieldType.int))
def f_Scan_number_B27 (kH : Int → Int → Int → Int → Mm → Option (Int × Mm)) (kx80 : Int → Int → Int → Mm → Option (Int × Mm)) (v1 v2 v3 v4 : Int) (M : Mm) : Option (Int × Mm) :=
  if i32 4 ≤ i32 v4 then
    kx80 v1 v2 v3 M
  else
    bI (f_Scan_byteAt (M 1 2) M) (fun r5 M4 =>
    bI (f_Scan_isDigit r5 M4) (fun r7 M6 =>
    if i32 r7 = 0 then
      kx80 v1 v2 v3 M6
    else
      bI (f_Scan_byteAt (M6 1 2) M6) (fun r9 M8 =>
      bd (up M8 1 2 ((M8 1 2) + 1)) (fun M10 =>
      kH v1 v2 (((10 * v3) + r9) - 48) (v4 + 1) M10))))
set_option maxRecDepth 20000 in
set_option maxHeartbeats 4000000 in
theorem w_Scan_number_B27 (d : Nat) (kH : Int → Int → Int → Int → Mm → Option (Int × Mm)) (kx80 : Int → Int → Int → Mm → Option (Int × Mm)) (hkH : ∀ (v1 v2 v3 v4 : Int) (M : Mm), T (E_Scan_number d) injI 27 [(0, .ref 1), (1, vI v1), (2, vI v2), (3, vI v3), (4, vI v4)] [] M (kH v1 v2 v3 v4 M)) (hkx80 : ∀ (v1 v2 v3 : Int) (M : Mm), T (E_Scan_number d) injI 80 [(0, .ref 1), (1, vI v1), (2, vI v2), (3, vI v3)] [] M (kx80 v1 v2 v3 M)) (v1 v2 v3 v4 : Int) (M : Mm) : T (E_Scan_number d) injI 27 [(0, .ref 1), (1, vI v1), (2, vI v2), (3, vI v3), (4, vI v4)] [] M (f_Scan_number_B27 kH kx80 v1 v2 v3 v4 M) := by
  unfold f_Scan_number_B27
  refine tq_iload 4 (E := E_Scan_number d) (pc := 27) (cks_at k_Scan_number 16 rfl rfl) rfl ?_
  refine tq_iconst (E := E_Scan_number d) (pc := 29) (cks_at k_Scan_number 17 rfl rfl) ?_
  refine tq_icmp_ge (E := E_Scan_number d) (pc := 30) (tgt := 80) (cks_at k_Scan_number 18 rfl rfl) (by decide) ?_ ?_
  · exact tq_sub [0, 1, 2, 3] rfl (hkx80 v1 v2 v3 M)
  · refine tq_aload_n 0 (E := E_Scan_number d) (pc := 33) (cks_at k_Scan_number 19 rfl rfl) rfl ?_
    refine tq_aload_n 0 (E := E_Scan_number d) (pc := 34) (cks_at k_Scan_number 20 rfl rfl) rfl ?_
    refine tq_getI (E := E_Scan_number d) (pc := 35) (cks_at k_Scan_number 21 rfl rfl) fo_Scan_23 so_1 rfl (by decide) ?_
    refine tq_V1 (E := E_Scan_number d) (pc := 38) (cks_at k_Scan_number 22 rfl rfl) mk_Scan_byteAt lk_Scan_45 rc_1 (Nat.le_of_ble_eq_true rfl) (c_Scan_byteAt (d + 1) (M 1 2) M) (k_I fun r5 M4 => ?_)
    refine tq_S1 (E := E_Scan_number d) (pc := 41) (cks_at k_Scan_number 23 rfl rfl) mk_Scan_isDigit lk_Scan_73 (Nat.le_of_ble_eq_true rfl) (c_Scan_isDigit (d + 1) r5 M4) (k_I fun r7 M6 => ?_)
    refine tq_if_eq (E := E_Scan_number d) (pc := 44) (tgt := 80) (cks_at k_Scan_number 24 rfl rfl) (by decide) ?_ ?_
    · exact tq_sub [0, 1, 2, 3] rfl (hkx80 v1 v2 v3 M6)
    · refine tq_bipush (E := E_Scan_number d) (pc := 47) (cks_at k_Scan_number 25 rfl rfl) (by decide) (by decide) ?_
      refine tq_iload_n 3 (E := E_Scan_number d) (pc := 49) (cks_at k_Scan_number 26 rfl rfl) rfl ?_
      refine tq_imul (E := E_Scan_number d) (pc := 50) (cks_at k_Scan_number 27 rfl rfl) ?_
      refine tq_aload_n 0 (E := E_Scan_number d) (pc := 51) (cks_at k_Scan_number 28 rfl rfl) rfl ?_
      refine tq_aload_n 0 (E := E_Scan_number d) (pc := 52) (cks_at k_Scan_number 29 rfl rfl) rfl ?_
      refine tq_getI (E := E_Scan_number d) (pc := 53) (cks_at k_Scan_number 30 rfl rfl) fo_Scan_23 so_1 rfl (by decide) ?_
      refine tq_V1 (E := E_Scan_number d) (pc := 56) (cks_at k_Scan_number 31 rfl rfl) mk_Scan_byteAt lk_Scan_45 rc_1 (Nat.le_of_ble_eq_true rfl) (c_Scan_byteAt (d + 1) (M6 1 2) M6) (k_I fun r9 M8 => ?_)
      refine tq_iadd (E := E_Scan_number d) (pc := 59) (cks_at k_Scan_number 32 rfl rfl) ?_
      refine tq_bipush (E := E_Scan_number d) (pc := 60) (cks_at k_Scan_number 33 rfl rfl) (by decide) (by decide) ?_
      refine tq_isub (E := E_Scan_number d) (pc := 62) (cks_at k_Scan_number 34 rfl rfl) ?_
      refine tq_istore_n (E := E_Scan_number d) (pc := 63) (cks_at k_Scan_number 35 rfl rfl) (show 3 < 5 by decide) rfl ?_
      refine tq_aload_n 1 (E := E_Scan_number d) (pc := 64) (cks_at k_Scan_number 36 rfl rfl) rfl ?_
      refine tq_dup (E := E_Scan_number d) (pc := 65) (cks_at k_Scan_number 37 rfl rfl) rfl ?_
      refine tq_getI (E := E_Scan_number d) (pc := 66) (cks_at k_Scan_number 38 rfl rfl) fo_Scan_23 so_1 rfl (by decide) ?_
      refine tq_iconst (E := E_Scan_number d) (pc := 69) (cks_at k_Scan_number 39 rfl rfl) ?_
      refine tq_iadd (E := E_Scan_number d) (pc := 70) (cks_at k_Scan_number 40 rfl rfl) ?_
      refine tq_putI (E := E_Scan_number d) (pc := 71) (cks_at k_Scan_number 41 rfl rfl) fo_Scan_23 so_1 rfl po_5_2 (fun M10 => ?_)
      refine tq_iinc 4 (E := E_Scan_number d) (pc := 74) (cks_at k_Scan_number 42 rfl rfl) rfl (show 4 < 5 by decide) rfl ?_
      refine tq_goto (tgt := 27) (E := E_Scan_number d) (pc := 77) (cks_at k_Scan_number 43 rfl rfl) (by decide) ?_
      exact tq_sub [2, 3, 4, 1, 0] rfl (hkH v1 v2 (((10 * v3) + r9) - 48) (v4 + 1) M10)
def f_Scan_number_L27 (kx80 : Int → Int → Int → Mm → Option (Int × Mm)) : Nat → Int × Int × Int × Int × Mm → Option (Int × Mm) := lp fun kH s => f_Scan_number_B27 (fun v1 v2 v3 v4 M => kH (v1, v2, v3, v4, M)) kx80 s.1 s.2.1 s.2.2.1 s.2.2.2.1 s.2.2.2.2
set_option maxRecDepth 20000 in
set_option maxHeartbeats 4000000 in
theorem w_Scan_number_L27 (d : Nat) (kx80 : Int → Int → Int → Mm → Option (Int × Mm)) (hkx80 : ∀ (v1 v2 v3 : Int) (M : Mm), T (E_Scan_number d) injI 80 [(0, .ref 1), (1, vI v1), (2, vI v2), (3, vI v3)] [] M (kx80 v1 v2 v3 M)) (n : Nat) (s : Int × Int × Int × Int × Mm) : T (E_Scan_number d) injI 27 [(0, .ref 1), (1, vI s.1), (2, vI s.2.1), (3, vI s.2.2.1), (4, vI s.2.2.2.1)] [] s.2.2.2.2 (f_Scan_number_L27 kx80 n s) :=
  tq_lp (fun s => [(0, .ref 1), (1, vI s.1), (2, vI s.2.1), (3, vI s.2.2.1), (4, vI s.2.2.2.1)]) (fun s => s.2.2.2.2) (fun kH hH s => w_Scan_number_B27 d (fun v1 v2 v3 v4 M => kH (v1, v2, v3, v4, M)) kx80 (fun v1 v2 v3 v4 M => hH (v1, v2, v3, v4, M)) hkx80 s.1 s.2.1 s.2.2.1 s.2.2.2.1 s.2.2.2.2) n s
def f_Scan_number_J124 (M : Mm) : Option (Int × Mm) :=
  bI (f_Scan_fail 2 (M 1 4) M) (fun r18 M17 =>
  some ((-1), M17))
set_option maxRecDepth 20000 in
set_option maxHeartbeats 4000000 in
theorem w_Scan_number_J124 (d : Nat) (M : Mm) : T (E_Scan_number d) injI 124 [(0, .ref 1)] [] M (f_Scan_number_J124 M) := by
  unfold f_Scan_number_J124
  refine tq_aload_n 0 (E := E_Scan_number d) (pc := 124) (cks_at k_Scan_number 68 rfl rfl) rfl ?_
  refine tq_iconst (E := E_Scan_number d) (pc := 125) (cks_at k_Scan_number 69 rfl rfl) ?_
  refine tq_aload_n 0 (E := E_Scan_number d) (pc := 126) (cks_at k_Scan_number 70 rfl rfl) rfl ?_
  refine tq_getI (E := E_Scan_number d) (pc := 127) (cks_at k_Scan_number 71 rfl rfl) fo_Scan_29 so_1 rfl (by decide) ?_
  refine tq_V2 (E := E_Scan_number d) (pc := 130) (cks_at k_Scan_number 72 rfl rfl) mk_Scan_fail lk_Scan_41 rc_1 (Nat.le_of_ble_eq_true rfl) (c_Scan_fail (d + 1) 2 (M 1 4) M) (k_I fun r18 M17 => ?_)
  refine tq_pop (E := E_Scan_number d) (pc := 133) (cks_at k_Scan_number 73 rfl rfl) rfl ?_
  refine tq_iconst (E := E_Scan_number d) (pc := 134) (cks_at k_Scan_number 74 rfl rfl) ?_
  exact tq_iret (E := E_Scan_number d) (pc := 135) (cks_at k_Scan_number 75 rfl rfl) rfl
def f_Scan_number_J80 (v1 v2 v3 : Int) (M : Mm) : Option (Int × Mm) :=
  bd (up M 1 3 (M 1 2)) (fun M12 =>
  bI (f_Scan_byteAt (M12 1 2) M12) (fun r14 M13 =>
  bI (f_Scan_isDigit r14 M13) (fun r16 M15 =>
  if i32 r16 = 0 then
    if i32 v3 < i32 v1 then
      f_Scan_number_J124 M15
    else
      if i32 v3 ≤ i32 v2 then
        some (v3, M15)
      else
        f_Scan_number_J124 M15
  else
    bI (f_Scan_fail 1 (M15 1 2) M15) (fun r20 M19 =>
    some ((-1), M19)))))
set_option maxRecDepth 20000 in
set_option maxHeartbeats 4000000 in
theorem w_Scan_number_J80 (d : Nat) (v1 v2 v3 : Int) (M : Mm) : T (E_Scan_number d) injI 80 [(0, .ref 1), (1, vI v1), (2, vI v2), (3, vI v3)] [] M (f_Scan_number_J80 v1 v2 v3 M) := by
  unfold f_Scan_number_J80
  refine tq_aload_n 0 (E := E_Scan_number d) (pc := 80) (cks_at k_Scan_number 44 rfl rfl) rfl ?_
  refine tq_aload_n 0 (E := E_Scan_number d) (pc := 81) (cks_at k_Scan_number 45 rfl rfl) rfl ?_
  refine tq_getI (E := E_Scan_number d) (pc := 82) (cks_at k_Scan_number 46 rfl rfl) fo_Scan_23 so_1 rfl (by decide) ?_
  refine tq_putI (E := E_Scan_number d) (pc := 85) (cks_at k_Scan_number 47 rfl rfl) fo_Scan_26 so_1 rfl po_5_3 (fun M12 => ?_)
  refine tq_aload_n 0 (E := E_Scan_number d) (pc := 88) (cks_at k_Scan_number 48 rfl rfl) rfl ?_
  refine tq_aload_n 0 (E := E_Scan_number d) (pc := 89) (cks_at k_Scan_number 49 rfl rfl) rfl ?_
  refine tq_getI (E := E_Scan_number d) (pc := 90) (cks_at k_Scan_number 50 rfl rfl) fo_Scan_23 so_1 rfl (by decide) ?_
  refine tq_V1 (E := E_Scan_number d) (pc := 93) (cks_at k_Scan_number 51 rfl rfl) mk_Scan_byteAt lk_Scan_45 rc_1 (Nat.le_of_ble_eq_true rfl) (c_Scan_byteAt (d + 1) (M12 1 2) M12) (k_I fun r14 M13 => ?_)
  refine tq_S1 (E := E_Scan_number d) (pc := 96) (cks_at k_Scan_number 52 rfl rfl) mk_Scan_isDigit lk_Scan_73 (Nat.le_of_ble_eq_true rfl) (c_Scan_isDigit (d + 1) r14 M13) (k_I fun r16 M15 => ?_)
  refine tq_if_eq (E := E_Scan_number d) (pc := 99) (tgt := 114) (cks_at k_Scan_number 53 rfl rfl) (by decide) ?_ ?_
  · refine tq_iload_n 3 (E := E_Scan_number d) (pc := 114) (cks_at k_Scan_number 62 rfl rfl) rfl ?_
    refine tq_iload_n 1 (E := E_Scan_number d) (pc := 115) (cks_at k_Scan_number 63 rfl rfl) rfl ?_
    refine tq_icmp_lt (E := E_Scan_number d) (pc := 116) (tgt := 124) (cks_at k_Scan_number 64 rfl rfl) (by decide) ?_ ?_
    · exact tq_sub [0] rfl (w_Scan_number_J124 d M15)
    · refine tq_iload_n 3 (E := E_Scan_number d) (pc := 119) (cks_at k_Scan_number 65 rfl rfl) rfl ?_
      refine tq_iload_n 2 (E := E_Scan_number d) (pc := 120) (cks_at k_Scan_number 66 rfl rfl) rfl ?_
      refine tq_icmp_le (E := E_Scan_number d) (pc := 121) (tgt := 136) (cks_at k_Scan_number 67 rfl rfl) (by decide) ?_ ?_
      · refine tq_iload_n 3 (E := E_Scan_number d) (pc := 136) (cks_at k_Scan_number 76 rfl rfl) rfl ?_
        exact tq_iret (E := E_Scan_number d) (pc := 137) (cks_at k_Scan_number 77 rfl rfl) rfl
      · exact tq_sub [0] rfl (w_Scan_number_J124 d M15)
  · refine tq_aload_n 0 (E := E_Scan_number d) (pc := 102) (cks_at k_Scan_number 54 rfl rfl) rfl ?_
    refine tq_iconst (E := E_Scan_number d) (pc := 103) (cks_at k_Scan_number 55 rfl rfl) ?_
    refine tq_aload_n 0 (E := E_Scan_number d) (pc := 104) (cks_at k_Scan_number 56 rfl rfl) rfl ?_
    refine tq_getI (E := E_Scan_number d) (pc := 105) (cks_at k_Scan_number 57 rfl rfl) fo_Scan_23 so_1 rfl (by decide) ?_
    refine tq_V2 (E := E_Scan_number d) (pc := 108) (cks_at k_Scan_number 58 rfl rfl) mk_Scan_fail lk_Scan_41 rc_1 (Nat.le_of_ble_eq_true rfl) (c_Scan_fail (d + 1) 1 (M15 1 2) M15) (k_I fun r20 M19 => ?_)
    refine tq_pop (E := E_Scan_number d) (pc := 111) (cks_at k_Scan_number 59 rfl rfl) rfl ?_
    refine tq_iconst (E := E_Scan_number d) (pc := 112) (cks_at k_Scan_number 60 rfl rfl) ?_
    exact tq_iret (E := E_Scan_number d) (pc := 113) (cks_at k_Scan_number 61 rfl rfl) rfl
def f_Scan_number (v1 : Int) (v2 : Int) (M : Mm) : Option (Int × Mm) :=
  bI (f_Scan_atNumber M) (fun r2 M1 =>
  if ¬ i32 r2 = 0 then
    bd (up M1 1 4 (M1 1 2)) (fun M3 =>
    f_Scan_number_L27 (fun v1 v2 v3 M11 => f_Scan_number_J80 v1 v2 v3 M11) FU (v1, v2, 0, 0, M3))
  else
    bI (f_Scan_unexpected M1) (fun r22 M21 =>
    some ((-1), M21)))
set_option maxRecDepth 20000 in
set_option maxHeartbeats 4000000 in
theorem c_Scan_number (d : Nat) (v1 : Int) (v2 : Int) (M : Mm) (Q : Option Value → Mm → Prop) (h : sat injI (f_Scan_number v1 v2 M) Q) : Ct (d + 3) y_Scan_number [.ref 1, vI v1, vI v2] M Q := by
  refine ct_in (d := d + 2) mk_Scan_number (Nat.le_of_ble_eq_true rfl) (?_ : T (E_Scan_number d) injI 0 [(0, .ref 1), (1, vI v1), (2, vI v2)] [] M (f_Scan_number v1 v2 M)) h
  unfold f_Scan_number
  refine tq_aload_n 0 (E := E_Scan_number d) (pc := 0) (cks_at k_Scan_number 0 rfl rfl) rfl ?_
  refine tq_V0 (E := E_Scan_number d) (pc := 1) (cks_at k_Scan_number 1 rfl rfl) mk_Scan_atNumber lk_Scan_76 rc_1 (Nat.le_of_ble_eq_true rfl) (c_Scan_atNumber (d + 0) M) (k_I fun r2 M1 => ?_)
  refine tq_if_ne (E := E_Scan_number d) (pc := 4) (tgt := 14) (cks_at k_Scan_number 2 rfl rfl) (by decide) ?_ ?_
  · refine tq_aload_n 0 (E := E_Scan_number d) (pc := 14) (cks_at k_Scan_number 8 rfl rfl) rfl ?_
    refine tq_aload_n 0 (E := E_Scan_number d) (pc := 15) (cks_at k_Scan_number 9 rfl rfl) rfl ?_
    refine tq_getI (E := E_Scan_number d) (pc := 16) (cks_at k_Scan_number 10 rfl rfl) fo_Scan_23 so_1 rfl (by decide) ?_
    refine tq_putI (E := E_Scan_number d) (pc := 19) (cks_at k_Scan_number 11 rfl rfl) fo_Scan_29 so_1 rfl po_5_4 (fun M3 => ?_)
    refine tq_iconst (E := E_Scan_number d) (pc := 22) (cks_at k_Scan_number 12 rfl rfl) ?_
    refine tq_istore_n (E := E_Scan_number d) (pc := 23) (cks_at k_Scan_number 13 rfl rfl) (show 3 < 5 by decide) rfl ?_
    refine tq_iconst (E := E_Scan_number d) (pc := 24) (cks_at k_Scan_number 14 rfl rfl) ?_
    refine tq_istore (E := E_Scan_number d) (pc := 25) (cks_at k_Scan_number 15 rfl rfl) (show 4 < 5 by decide) rfl ?_
    exact tq_sub [2, 3, 4, 1, 0] rfl (w_Scan_number_L27 d _ (fun v1 v2 v3 M11 => by
        exact tq_sub [0, 1, 2, 3] rfl (w_Scan_number_J80 d v1 v2 v3 M11)) FU (v1, v2, 0, 0, M3))
  · refine tq_aload_n 0 (E := E_Scan_number d) (pc := 7) (cks_at k_Scan_number 3 rfl rfl) rfl ?_
    refine tq_V0 (E := E_Scan_number d) (pc := 8) (cks_at k_Scan_number 4 rfl rfl) mk_Scan_unexpected lk_Scan_53 rc_1 (Nat.le_of_ble_eq_true rfl) (c_Scan_unexpected (d + 0) M1) (k_I fun r22 M21 => ?_)
    refine tq_pop (E := E_Scan_number d) (pc := 11) (cks_at k_Scan_number 5 rfl rfl) rfl ?_
    refine tq_iconst (E := E_Scan_number d) (pc := 12) (cks_at k_Scan_number 6 rfl rfl) ?_
    exact tq_iret (E := E_Scan_number d) (pc := 13) (cks_at k_Scan_number 7 rfl rfl) rfl
abbrev E_Reader_took (d : Nat) : Ev := (Ct (d + 1), "BreathTown$Reader", prog_6_method_5_code, 2, False, 0, (fun _ => 0), (Option.some Jvm.ClassFile.FieldType.boolean))
def f_Reader_took (this : Nat) (v1 : Int) (M : Mm) : Option (Int × Mm) :=
  bV (f_Code_add (ptr this 1) v1 M) (fun M1 =>
  some (1, M1))
set_option maxRecDepth 20000 in
set_option maxHeartbeats 4000000 in
theorem c_Reader_took (d : Nat) (this : Nat) (hthis : isReader this) (v1 : Int) (M : Mm) (Q : Option Value → Mm → Prop) (h : sat injI (f_Reader_took this v1 M) Q) : Ct (d + 2) y_Reader_took [.ref this, vI v1] M Q := by
  refine ct_in (d := d + 1) mk_Reader_took (Nat.le_of_ble_eq_true rfl) (?_ : T (E_Reader_took d) injI 0 [(0, .ref this), (1, vI v1)] [] M (f_Reader_took this v1 M)) h
  unfold f_Reader_took
  refine tq_aload_n 0 (E := E_Reader_took d) (pc := 0) (cks_at k_Reader_took 0 rfl rfl) rfl ?_
  refine tq_getR (j := ptr this 1) (E := E_Reader_took d) (pc := 1) (cks_at k_Reader_took 1 rfl rfl) fo_Reader_15 (isReader_ok hthis) rfl rfl ?_
  refine tq_iload_n 1 (E := E_Reader_took d) (pc := 4) (cks_at k_Reader_took 2 rfl rfl) rfl ?_
  refine tq_V1 (E := E_Reader_took d) (pc := 5) (cks_at k_Reader_took 3 rfl rfl) mk_Code_add lk_Reader_40 (isCode_rc (sm_Reader_1 hthis)) (Nat.le_of_ble_eq_true rfl) (c_Code_add (d + 0) (ptr this 1) (sm_Reader_1 hthis) v1 M) (k_V fun M1 => ?_)
  refine tq_iconst (E := E_Reader_took d) (pc := 8) (cks_at k_Reader_took 4 rfl rfl) ?_
  exact tq_zretC (E := E_Reader_took d) (pc := 9) (cks_at k_Reader_took 5 rfl rfl) rfl (by decide)
abbrev E_Scan_atSign (d : Nat) : Ev := (Ct (d + 1), "BreathTown$Scan", prog_7_method_11_code, 2, False, 0, (fun _ => 0), (Option.some Jvm.ClassFile.FieldType.boolean))
def f_Scan_atSign (v1 : Int) (M : Mm) : Option (Int × Mm) :=
  bV (f_Scan_skip M) (fun M1 =>
  bI (f_Scan_byteAt (M1 1 2) M1) (fun r3 M2 =>
  if ¬ i32 r3 = i32 v1 then
    some (0, M2)
  else
    some (1, M2)))
set_option maxRecDepth 20000 in
set_option maxHeartbeats 4000000 in
theorem c_Scan_atSign (d : Nat) (v1 : Int) (M : Mm) (Q : Option Value → Mm → Prop) (h : sat injI (f_Scan_atSign v1 M) Q) : Ct (d + 2) y_Scan_atSign [.ref 1, vI v1] M Q := by
  refine ct_in (d := d + 1) mk_Scan_atSign (Nat.le_of_ble_eq_true rfl) (?_ : T (E_Scan_atSign d) injI 0 [(0, .ref 1), (1, vI v1)] [] M (f_Scan_atSign v1 M)) h
  unfold f_Scan_atSign
  refine tq_aload_n 0 (E := E_Scan_atSign d) (pc := 0) (cks_at k_Scan_atSign 0 rfl rfl) rfl ?_
  refine tq_V0 (E := E_Scan_atSign d) (pc := 1) (cks_at k_Scan_atSign 1 rfl rfl) mk_Scan_skip lk_Scan_38 rc_1 (Nat.le_of_ble_eq_true rfl) (c_Scan_skip (d + 0) M) (k_V fun M1 => ?_)
  refine tq_aload_n 0 (E := E_Scan_atSign d) (pc := 4) (cks_at k_Scan_atSign 2 rfl rfl) rfl ?_
  refine tq_aload_n 0 (E := E_Scan_atSign d) (pc := 5) (cks_at k_Scan_atSign 3 rfl rfl) rfl ?_
  refine tq_getI (E := E_Scan_atSign d) (pc := 6) (cks_at k_Scan_atSign 4 rfl rfl) fo_Scan_23 so_1 rfl (by decide) ?_
  refine tq_V1 (E := E_Scan_atSign d) (pc := 9) (cks_at k_Scan_atSign 5 rfl rfl) mk_Scan_byteAt lk_Scan_45 rc_1 (Nat.le_of_ble_eq_true rfl) (c_Scan_byteAt (d + 0) (M1 1 2) M1) (k_I fun r3 M2 => ?_)
  refine tq_iload_n 1 (E := E_Scan_atSign d) (pc := 12) (cks_at k_Scan_atSign 6 rfl rfl) rfl ?_
  refine tq_icmp_ne (E := E_Scan_atSign d) (pc := 13) (tgt := 20) (cks_at k_Scan_atSign 7 rfl rfl) (by decide) ?_ ?_
  · refine tq_iconst (E := E_Scan_atSign d) (pc := 20) (cks_at k_Scan_atSign 10 rfl rfl) ?_
    exact tq_zretC (E := E_Scan_atSign d) (pc := 21) (cks_at k_Scan_atSign 11 rfl rfl) rfl (by decide)
  · refine tq_iconst (E := E_Scan_atSign d) (pc := 16) (cks_at k_Scan_atSign 8 rfl rfl) ?_
    refine tq_goto (tgt := 21) (E := E_Scan_atSign d) (pc := 17) (cks_at k_Scan_atSign 9 rfl rfl) (by decide) ?_
    exact tq_zretC (E := E_Scan_atSign d) (pc := 21) (cks_at k_Scan_atSign 11 rfl rfl) rfl (by decide)
abbrev E_Reader_mayOpen (d : Nat) : Ev := (Ct (d + 1), "BreathTown$Reader", prog_6_method_4_code, 2, False, 0, (fun _ => 0), (Option.some Jvm.ClassFile.FieldType.boolean))
def f_Reader_mayOpen (this : Nat) (v1 : Int) (M : Mm) : Option (Int × Mm) :=
  if i32 v1 < i32 6 then
    some (1, M)
  else
    bI (f_Scan_fail 4 (M 1 2) M) (fun r2 M1 =>
    if i32 r2 = 0 then
      some (0, M1)
    else
      some (1, M1))
set_option maxRecDepth 20000 in
set_option maxHeartbeats 4000000 in
theorem c_Reader_mayOpen (d : Nat) (this : Nat) (hthis : isReader this) (v1 : Int) (M : Mm) (Q : Option Value → Mm → Prop) (h : sat injI (f_Reader_mayOpen this v1 M) Q) : Ct (d + 2) y_Reader_mayOpen [.ref this, vI v1] M Q := by
  refine ct_in (d := d + 1) mk_Reader_mayOpen (Nat.le_of_ble_eq_true rfl) (?_ : T (E_Reader_mayOpen d) injI 0 [(0, .ref this), (1, vI v1)] [] M (f_Reader_mayOpen this v1 M)) h
  unfold f_Reader_mayOpen
  refine tq_iload_n 1 (E := E_Reader_mayOpen d) (pc := 0) (cks_at k_Reader_mayOpen 0 rfl rfl) rfl ?_
  refine tq_bipush (E := E_Reader_mayOpen d) (pc := 1) (cks_at k_Reader_mayOpen 1 rfl rfl) (by decide) (by decide) ?_
  refine tq_icmp_lt (E := E_Reader_mayOpen d) (pc := 3) (tgt := 24) (cks_at k_Reader_mayOpen 2 rfl rfl) (by decide) ?_ ?_
  · refine tq_iconst (E := E_Reader_mayOpen d) (pc := 24) (cks_at k_Reader_mayOpen 11 rfl rfl) ?_
    refine tq_goto (tgt := 29) (E := E_Reader_mayOpen d) (pc := 25) (cks_at k_Reader_mayOpen 12 rfl rfl) (by decide) ?_
    exact tq_zretC (E := E_Reader_mayOpen d) (pc := 29) (cks_at k_Reader_mayOpen 14 rfl rfl) rfl (by decide)
  · refine tq_aload_n 0 (E := E_Reader_mayOpen d) (pc := 6) (cks_at k_Reader_mayOpen 3 rfl rfl) rfl ?_
    refine tq_getR (j := 1) (E := E_Reader_mayOpen d) (pc := 7) (cks_at k_Reader_mayOpen 4 rfl rfl) fo_Reader_9 (isReader_ok hthis) rfl (sq_Reader_0 hthis) ?_
    refine tq_iconst (E := E_Reader_mayOpen d) (pc := 10) (cks_at k_Reader_mayOpen 5 rfl rfl) ?_
    refine tq_aload_n 0 (E := E_Reader_mayOpen d) (pc := 11) (cks_at k_Reader_mayOpen 6 rfl rfl) rfl ?_
    refine tq_getR (j := 1) (E := E_Reader_mayOpen d) (pc := 12) (cks_at k_Reader_mayOpen 7 rfl rfl) fo_Reader_9 (isReader_ok hthis) rfl (sq_Reader_0 hthis) ?_
    refine tq_getI (E := E_Reader_mayOpen d) (pc := 15) (cks_at k_Reader_mayOpen 8 rfl rfl) fo_Reader_30 so_1 rfl (by decide) ?_
    refine tq_V2 (E := E_Reader_mayOpen d) (pc := 18) (cks_at k_Reader_mayOpen 9 rfl rfl) mk_Scan_fail lk_Reader_36 rc_1 (Nat.le_of_ble_eq_true rfl) (c_Scan_fail (d + 0) 4 (M 1 2) M) (k_I fun r2 M1 => ?_)
    refine tq_if_eq (E := E_Reader_mayOpen d) (pc := 21) (tgt := 28) (cks_at k_Reader_mayOpen 10 rfl rfl) (by decide) ?_ ?_
    · refine tq_iconst (E := E_Reader_mayOpen d) (pc := 28) (cks_at k_Reader_mayOpen 13 rfl rfl) ?_
      exact tq_zretC (E := E_Reader_mayOpen d) (pc := 29) (cks_at k_Reader_mayOpen 14 rfl rfl) rfl (by decide)
    · refine tq_iconst (E := E_Reader_mayOpen d) (pc := 24) (cks_at k_Reader_mayOpen 11 rfl rfl) ?_
      refine tq_goto (tgt := 29) (E := E_Reader_mayOpen d) (pc := 25) (cks_at k_Reader_mayOpen 12 rfl rfl) (by decide) ?_
      exact tq_zretC (E := E_Reader_mayOpen d) (pc := 29) (cks_at k_Reader_mayOpen 14 rfl rfl) rfl (by decide)
abbrev E_Scan_needSign (d : Nat) : Ev := (Ct (d + 2), "BreathTown$Scan", prog_7_method_13_code, 2, False, 0, (fun _ => 0), (Option.some Jvm.ClassFile.FieldType.boolean))
def f_Scan_needSign (v1 : Int) (M : Mm) : Option (Int × Mm) :=
  bI (f_Scan_takeSign v1 M) (fun r2 M1 =>
  if ¬ i32 r2 = 0 then
    some (1, M1)
  else
    bI (f_Scan_unexpected M1) (fun r4 M3 =>
    if i32 r4 = 0 then
      some (0, M3)
    else
      some (1, M3)))
set_option maxRecDepth 20000 in
set_option maxHeartbeats 4000000 in
theorem c_Scan_needSign (d : Nat) (v1 : Int) (M : Mm) (Q : Option Value → Mm → Prop) (h : sat injI (f_Scan_needSign v1 M) Q) : Ct (d + 3) y_Scan_needSign [.ref 1, vI v1] M Q := by
  refine ct_in (d := d + 2) mk_Scan_needSign (Nat.le_of_ble_eq_true rfl) (?_ : T (E_Scan_needSign d) injI 0 [(0, .ref 1), (1, vI v1)] [] M (f_Scan_needSign v1 M)) h
  unfold f_Scan_needSign
  refine tq_aload_n 0 (E := E_Scan_needSign d) (pc := 0) (cks_at k_Scan_needSign 0 rfl rfl) rfl ?_
  refine tq_iload_n 1 (E := E_Scan_needSign d) (pc := 1) (cks_at k_Scan_needSign 1 rfl rfl) rfl ?_
  refine tq_V1 (E := E_Scan_needSign d) (pc := 2) (cks_at k_Scan_needSign 2 rfl rfl) mk_Scan_takeSign lk_Scan_49 rc_1 (Nat.le_of_ble_eq_true rfl) (c_Scan_takeSign (d + 0) v1 M) (k_I fun r2 M1 => ?_)
  refine tq_if_ne (E := E_Scan_needSign d) (pc := 5) (tgt := 15) (cks_at k_Scan_needSign 3 rfl rfl) (by decide) ?_ ?_
  · refine tq_iconst (E := E_Scan_needSign d) (pc := 15) (cks_at k_Scan_needSign 7 rfl rfl) ?_
    refine tq_goto (tgt := 20) (E := E_Scan_needSign d) (pc := 16) (cks_at k_Scan_needSign 8 rfl rfl) (by decide) ?_
    exact tq_zretC (E := E_Scan_needSign d) (pc := 20) (cks_at k_Scan_needSign 10 rfl rfl) rfl (by decide)
  · refine tq_aload_n 0 (E := E_Scan_needSign d) (pc := 8) (cks_at k_Scan_needSign 4 rfl rfl) rfl ?_
    refine tq_V0 (E := E_Scan_needSign d) (pc := 9) (cks_at k_Scan_needSign 5 rfl rfl) mk_Scan_unexpected lk_Scan_53 rc_1 (Nat.le_of_ble_eq_true rfl) (c_Scan_unexpected (d + 0) M1) (k_I fun r4 M3 => ?_)
    refine tq_if_eq (E := E_Scan_needSign d) (pc := 12) (tgt := 19) (cks_at k_Scan_needSign 6 rfl rfl) (by decide) ?_ ?_
    · refine tq_iconst (E := E_Scan_needSign d) (pc := 19) (cks_at k_Scan_needSign 9 rfl rfl) ?_
      exact tq_zretC (E := E_Scan_needSign d) (pc := 20) (cks_at k_Scan_needSign 10 rfl rfl) rfl (by decide)
    · refine tq_iconst (E := E_Scan_needSign d) (pc := 15) (cks_at k_Scan_needSign 7 rfl rfl) ?_
      refine tq_goto (tgt := 20) (E := E_Scan_needSign d) (pc := 16) (cks_at k_Scan_needSign 8 rfl rfl) (by decide) ?_
      exact tq_zretC (E := E_Scan_needSign d) (pc := 20) (cks_at k_Scan_needSign 10 rfl rfl) rfl (by decide)
abbrev E_Str_coder (d : Nat) : Ev := (Ct (d + 0), "java/lang/String", prog_16_method_152_code, 1, False, 0, (fun _ => 0), (Option.some Jvm.ClassFile.FieldType.byte))
def f_Str_coder (w : Nat) (M : Mm) : Option (Int × Mm) :=
  if i32 1 = 0 then
    some (1, M)
  else
    some (0, M)
set_option maxRecDepth 20000 in
set_option maxHeartbeats 4000000 in
theorem c_Str_coder (d : Nat) (w : Nat) (hw : w < NSt) (M : Mm) (Q : Option Value → Mm → Prop) (h : sat injI (f_Str_coder w M) Q) : Ct (d + 1) y_Str_coder [.ref (1000 + w)] M Q := by
  refine ct_in (d := d + 0) mk_Str_coder (Nat.le_of_ble_eq_true rfl) (?_ : T (E_Str_coder d) injI 0 [(0, .ref (1000 + w))] [] M (f_Str_coder w M)) h
  unfold f_Str_coder
  refine tq_gsC (E := E_Str_coder d) (pc := 0) (cks_at k_Str_coder 0 rfl rfl) (in_3 (List.mem_of_getElem? (i := 83) rfl)) ?_
  refine tq_if_eq (E := E_Str_coder d) (pc := 3) (tgt := 13) (cks_at k_Str_coder 1 rfl rfl) (by decide) ?_ ?_
  · refine tq_iconst (E := E_Str_coder d) (pc := 13) (cks_at k_Str_coder 5 rfl rfl) ?_
    exact tq_bret (E := E_Str_coder d) (pc := 14) (cks_at k_Str_coder 6 rfl rfl) rfl (by decide)
  · refine tq_aload_n 0 (E := E_Str_coder d) (pc := 6) (cks_at k_Str_coder 2 rfl rfl) rfl ?_
    refine tq_strC (j := w) (E := E_Str_coder d) (pc := 7) hw (cks_at k_Str_coder 3 rfl rfl) (in_10 (List.mem_of_getElem? (i := 70) rfl)) ?_
    refine tq_goto (tgt := 14) (E := E_Str_coder d) (pc := 10) (cks_at k_Str_coder 4 rfl rfl) (by decide) ?_
    exact tq_bret (E := E_Str_coder d) (pc := 14) (cks_at k_Str_coder 6 rfl rfl) rfl (by decide)
abbrev E_Str_length (d : Nat) : Ev := (Ct (d + 1), "java/lang/String", prog_16_method_54_code, 1, False, 0, (fun _ => 0), (Option.some Jvm.ClassFile.FieldType.int))
def f_Str_length (w : Nat) (M : Mm) : Option (Int × Mm) :=
  bI (f_Str_coder w M) (fun r2 M1 =>
  some (shr32 (((stLen.getD w 0 : Nat) : Int)) r2, M1))
set_option maxRecDepth 20000 in
set_option maxHeartbeats 4000000 in
theorem c_Str_length (d : Nat) (w : Nat) (hw : w < NSt) (M : Mm) (Q : Option Value → Mm → Prop) (h : sat injI (f_Str_length w M) Q) : Ct (d + 2) y_Str_length [.ref (1000 + w)] M Q := by
  refine ct_in (d := d + 1) mk_Str_length (Nat.le_of_ble_eq_true rfl) (?_ : T (E_Str_length d) injI 0 [(0, .ref (1000 + w))] [] M (f_Str_length w M)) h
  unfold f_Str_length
  refine tq_aload_n 0 (E := E_Str_length d) (pc := 0) (cks_at k_Str_length 0 rfl rfl) rfl ?_
  refine tq_strV (j := w) (E := E_Str_length d) (pc := 1) hw (cks_at k_Str_length 1 rfl rfl) (in_10 (List.mem_of_getElem? (i := 69) rfl)) ?_
  refine tq_strN (j := w) (E := E_Str_length d) (pc := 4) hw (cks_at k_Str_length 2 rfl rfl) ?_
  refine tq_aload_n 0 (E := E_Str_length d) (pc := 5) (cks_at k_Str_length 3 rfl rfl) rfl ?_
  refine tq_V0 (E := E_Str_length d) (pc := 6) (cks_at k_Str_length 4 rfl rfl) mk_Str_coder lk_Str_335 (rc_str hw) (Nat.le_of_ble_eq_true rfl) (c_Str_coder (d + 0) w hw M) (k_I fun r2 M1 => ?_)
  refine tq_ishr (E := E_Str_length d) (pc := 9) (cks_at k_Str_length 5 rfl rfl) ?_
  exact tq_iret (E := E_Str_length d) (pc := 10) (cks_at k_Str_length 6 rfl rfl) rfl
abbrev E_Scan_isLetter (d : Nat) : Ev := (Ct (d + 0), "BreathTown$Scan", prog_7_method_5_code, 1, False, 0, (fun _ => 0), (Option.some Jvm.ClassFile.FieldType.boolean))
def f_Scan_isLetter (v0 : Int) (M : Mm) : Option (Int × Mm) :=
  if i32 v0 < i32 97 then
    some (0, M)
  else
    if i32 122 < i32 v0 then
      some (0, M)
    else
      some (1, M)
set_option maxRecDepth 20000 in
set_option maxHeartbeats 4000000 in
theorem c_Scan_isLetter (d : Nat) (v0 : Int) (M : Mm) (Q : Option Value → Mm → Prop) (h : sat injI (f_Scan_isLetter v0 M) Q) : Ct (d + 1) y_Scan_isLetter [vI v0] M Q := by
  refine ct_in (d := d + 0) mk_Scan_isLetter (Nat.le_of_ble_eq_true rfl) (?_ : T (E_Scan_isLetter d) injI 0 [(0, vI v0)] [] M (f_Scan_isLetter v0 M)) h
  unfold f_Scan_isLetter
  refine tq_iload_n 0 (E := E_Scan_isLetter d) (pc := 0) (cks_at k_Scan_isLetter 0 rfl rfl) rfl ?_
  refine tq_bipush (E := E_Scan_isLetter d) (pc := 1) (cks_at k_Scan_isLetter 1 rfl rfl) (by decide) (by decide) ?_
  refine tq_icmp_lt (E := E_Scan_isLetter d) (pc := 3) (tgt := 16) (cks_at k_Scan_isLetter 2 rfl rfl) (by decide) ?_ ?_
  · refine tq_iconst (E := E_Scan_isLetter d) (pc := 16) (cks_at k_Scan_isLetter 8 rfl rfl) ?_
    exact tq_zretC (E := E_Scan_isLetter d) (pc := 17) (cks_at k_Scan_isLetter 9 rfl rfl) rfl (by decide)
  · refine tq_iload_n 0 (E := E_Scan_isLetter d) (pc := 6) (cks_at k_Scan_isLetter 3 rfl rfl) rfl ?_
    refine tq_bipush (E := E_Scan_isLetter d) (pc := 7) (cks_at k_Scan_isLetter 4 rfl rfl) (by decide) (by decide) ?_
    refine tq_icmp_gt (E := E_Scan_isLetter d) (pc := 9) (tgt := 16) (cks_at k_Scan_isLetter 5 rfl rfl) (by decide) ?_ ?_
    · refine tq_iconst (E := E_Scan_isLetter d) (pc := 16) (cks_at k_Scan_isLetter 8 rfl rfl) ?_
      exact tq_zretC (E := E_Scan_isLetter d) (pc := 17) (cks_at k_Scan_isLetter 9 rfl rfl) rfl (by decide)
    · refine tq_iconst (E := E_Scan_isLetter d) (pc := 12) (cks_at k_Scan_isLetter 6 rfl rfl) ?_
      refine tq_goto (tgt := 17) (E := E_Scan_isLetter d) (pc := 13) (cks_at k_Scan_isLetter 7 rfl rfl) (by decide) ?_
      exact tq_zretC (E := E_Scan_isLetter d) (pc := 17) (cks_at k_Scan_isLetter 9 rfl rfl) rfl (by decide)
abbrev E_Str_isLatin1 (d : Nat) : Ev := (Ct (d + 0), "java/lang/String", prog_16_method_154_code, 1, False, 0, (fun _ => 0), (Option.some Jvm.ClassFile.FieldType.boolean))
def f_Str_isLatin1 (w : Nat) (M : Mm) : Option (Int × Mm) :=
  if i32 1 = 0 then
    some (0, M)
  else
    if ¬ i32 0 = 0 then
      some (0, M)
    else
      some (1, M)
set_option maxRecDepth 20000 in
set_option maxHeartbeats 4000000 in
theorem c_Str_isLatin1 (d : Nat) (w : Nat) (hw : w < NSt) (M : Mm) (Q : Option Value → Mm → Prop) (h : sat injI (f_Str_isLatin1 w M) Q) : Ct (d + 1) y_Str_isLatin1 [.ref (1000 + w)] M Q := by
  refine ct_in (d := d + 0) mk_Str_isLatin1 (Nat.le_of_ble_eq_true rfl) (?_ : T (E_Str_isLatin1 d) injI 0 [(0, .ref (1000 + w))] [] M (f_Str_isLatin1 w M)) h
  unfold f_Str_isLatin1
  refine tq_gsC (E := E_Str_isLatin1 d) (pc := 0) (cks_at k_Str_isLatin1 0 rfl rfl) (in_3 (List.mem_of_getElem? (i := 83) rfl)) ?_
  refine tq_if_eq (E := E_Str_isLatin1 d) (pc := 3) (tgt := 17) (cks_at k_Str_isLatin1 1 rfl rfl) (by decide) ?_ ?_
  · refine tq_iconst (E := E_Str_isLatin1 d) (pc := 17) (cks_at k_Str_isLatin1 7 rfl rfl) ?_
    exact tq_zretC (E := E_Str_isLatin1 d) (pc := 18) (cks_at k_Str_isLatin1 8 rfl rfl) rfl (by decide)
  · refine tq_aload_n 0 (E := E_Str_isLatin1 d) (pc := 6) (cks_at k_Str_isLatin1 2 rfl rfl) rfl ?_
    refine tq_strC (j := w) (E := E_Str_isLatin1 d) (pc := 7) hw (cks_at k_Str_isLatin1 3 rfl rfl) (in_10 (List.mem_of_getElem? (i := 70) rfl)) ?_
    refine tq_if_ne (E := E_Str_isLatin1 d) (pc := 10) (tgt := 17) (cks_at k_Str_isLatin1 4 rfl rfl) (by decide) ?_ ?_
    · refine tq_iconst (E := E_Str_isLatin1 d) (pc := 17) (cks_at k_Str_isLatin1 7 rfl rfl) ?_
      exact tq_zretC (E := E_Str_isLatin1 d) (pc := 18) (cks_at k_Str_isLatin1 8 rfl rfl) rfl (by decide)
    · refine tq_iconst (E := E_Str_isLatin1 d) (pc := 13) (cks_at k_Str_isLatin1 5 rfl rfl) ?_
      refine tq_goto (tgt := 18) (E := E_Str_isLatin1 d) (pc := 14) (cks_at k_Str_isLatin1 6 rfl rfl) (by decide) ?_
      exact tq_zretC (E := E_Str_isLatin1 d) (pc := 18) (cks_at k_Str_isLatin1 8 rfl rfl) rfl (by decide)
abbrev E_Prec_checkIndex (d : Nat) : Ev := (Ct (d + 0), "jdk/internal/util/Preconditions", prog_19_method_11_code, 3, False, 0, (fun _ => 0), (Option.some Jvm.ClassFile.FieldType.int))
def f_Prec_checkIndex (v0 : Int) (v1 : Int) (M : Mm) : Option (Int × Mm) :=
  if i32 v0 < 0 then
    none
  else
    if i32 v0 < i32 v1 then
      some (v0, M)
    else
      none
set_option maxRecDepth 20000 in
set_option maxHeartbeats 4000000 in
theorem c_Prec_checkIndex (d : Nat) (z : Value) (hz : z = .ref 1200 ∨ z = .null) (v0 : Int) (v1 : Int) (M : Mm) (Q : Option Value → Mm → Prop) (h : sat injI (f_Prec_checkIndex v0 v1 M) Q) : Ct (d + 1) y_Prec_checkIndex [vI v0, vI v1, z] M Q := by
  refine ct_in (d := d + 0) mk_Prec_checkIndex (by rcases hz with rfl | rfl <;> exact Nat.le_of_ble_eq_true rfl) (?_ : T (E_Prec_checkIndex d) injI 0 [(0, vI v0), (1, vI v1), (2, z)] [] M (f_Prec_checkIndex v0 v1 M)) h
  unfold f_Prec_checkIndex
  refine tq_iload_n 0 (E := E_Prec_checkIndex d) (pc := 0) (cks_at k_Prec_checkIndex 0 rfl rfl) rfl ?_
  refine tq_if_lt (E := E_Prec_checkIndex d) (pc := 1) (tgt := 9) (cks_at k_Prec_checkIndex 1 rfl rfl) (by decide) ?_ ?_
  · exact tq_none
  · refine tq_iload_n 0 (E := E_Prec_checkIndex d) (pc := 4) (cks_at k_Prec_checkIndex 2 rfl rfl) rfl ?_
    refine tq_iload_n 1 (E := E_Prec_checkIndex d) (pc := 5) (cks_at k_Prec_checkIndex 3 rfl rfl) rfl ?_
    refine tq_icmp_lt (E := E_Prec_checkIndex d) (pc := 6) (tgt := 16) (cks_at k_Prec_checkIndex 4 rfl rfl) (by decide) ?_ ?_
    · refine tq_iload_n 0 (E := E_Prec_checkIndex d) (pc := 16) (cks_at k_Prec_checkIndex 10 rfl rfl) rfl ?_
      exact tq_iret (E := E_Prec_checkIndex d) (pc := 17) (cks_at k_Prec_checkIndex 11 rfl rfl) rfl
    · exact tq_none
abbrev E_Str_checkIndex (d : Nat) : Ev := (Ct (d + 1), "java/lang/String", prog_16_method_155_code, 2, False, 0, (fun _ => 0), (Option.none : Option Jvm.ClassFile.FieldType))
def f_Str_checkIndex (v0 : Int) (v1 : Int) (M : Mm) : Option (Mm) :=
  bI (f_Prec_checkIndex v0 v1 M) (fun r2 M1 =>
  some M1)
set_option maxRecDepth 20000 in
set_option maxHeartbeats 4000000 in
theorem c_Str_checkIndex (d : Nat) (v0 : Int) (v1 : Int) (M : Mm) (Q : Option Value → Mm → Prop) (h : sat injV (f_Str_checkIndex v0 v1 M) Q) : Ct (d + 2) y_Str_checkIndex [vI v0, vI v1] M Q := by
  refine ct_in (d := d + 1) mk_Str_checkIndex (Nat.le_of_ble_eq_true rfl) (?_ : T (E_Str_checkIndex d) injV 0 [(0, vI v0), (1, vI v1)] [] M (f_Str_checkIndex v0 v1 M)) h
  unfold f_Str_checkIndex
  refine tq_iload_n 0 (E := E_Str_checkIndex d) (pc := 0) (cks_at k_Str_checkIndex 0 rfl rfl) rfl ?_
  refine tq_iload_n 1 (E := E_Str_checkIndex d) (pc := 1) (cks_at k_Str_checkIndex 1 rfl rfl) rfl ?_
  refine tq_gsF (E := E_Str_checkIndex d) (pc := 2) (cks_at k_Str_checkIndex 2 rfl rfl) (in_3 (List.mem_of_getElem? (i := 106) rfl)) (fun z hz => ?_)
  refine tq_S3 (E := E_Str_checkIndex d) (pc := 5) (cks_at k_Str_checkIndex 3 rfl rfl) mk_Prec_checkIndex lk_Str_1059 (Nat.le_of_ble_eq_true rfl) (c_Prec_checkIndex (d + 0) z hz v0 v1 M) (k_I fun r2 M1 => ?_)
  refine tq_pop (E := E_Str_checkIndex d) (pc := 8) (cks_at k_Str_checkIndex 4 rfl rfl) rfl ?_
  exact tq_vret (E := E_Str_checkIndex d) (pc := 9) (cks_at k_Str_checkIndex 5 rfl rfl) rfl
abbrev E_Lat_charAt (d : Nat) : Ev := (Ct (d + 2), "java/lang/StringLatin1", prog_17_method_2_code, 2, False, 0, (fun _ => 0), (Option.some Jvm.ClassFile.FieldType.char))
def f_Lat_charAt (w : Nat) (v1 : Int) (M : Mm) : Option (Int × Mm) :=
  bV (f_Str_checkIndex v1 (((stLen.getD w 0 : Nat) : Int)) M) (fun M1 =>
  gd (0 ≤ i32 v1 ∧ i32 v1 < ((stLen.getD w 0 : Nat) : Int)) <|
  gd (0 ≤ i32 (chr16 (and32 (sbyt w (i32 v1).toNat) 255)) ∧ i32 (chr16 (and32 (sbyt w (i32 v1).toNat) 255)) < 65536) (some (chr16 (and32 (sbyt w (i32 v1).toNat) 255), M1)))
set_option maxRecDepth 20000 in
set_option maxHeartbeats 4000000 in
theorem c_Lat_charAt (d : Nat) (w : Nat) (hw : w < NSt) (v1 : Int) (M : Mm) (Q : Option Value → Mm → Prop) (h : sat injI (f_Lat_charAt w v1 M) Q) : Ct (d + 3) y_Lat_charAt [.ref (1100 + w), vI v1] M Q := by
  refine ct_in (d := d + 2) mk_Lat_charAt (Nat.le_of_ble_eq_true rfl) (?_ : T (E_Lat_charAt d) injI 0 [(0, .ref (1100 + w)), (1, vI v1)] [] M (f_Lat_charAt w v1 M)) h
  unfold f_Lat_charAt
  refine tq_iload_n 1 (E := E_Lat_charAt d) (pc := 0) (cks_at k_Lat_charAt 0 rfl rfl) rfl ?_
  refine tq_aload_n 0 (E := E_Lat_charAt d) (pc := 1) (cks_at k_Lat_charAt 1 rfl rfl) rfl ?_
  refine tq_strN (j := w) (E := E_Lat_charAt d) (pc := 2) hw (cks_at k_Lat_charAt 2 rfl rfl) ?_
  refine tq_S2 (E := E_Lat_charAt d) (pc := 3) (cks_at k_Lat_charAt 3 rfl rfl) mk_Str_checkIndex lk_Lat_9 (Nat.le_of_ble_eq_true rfl) (c_Str_checkIndex (d + 0) v1 (((stLen.getD w 0 : Nat) : Int)) M) (k_V fun M1 => ?_)
  refine tq_aload_n 0 (E := E_Lat_charAt d) (pc := 6) (cks_at k_Lat_charAt 4 rfl rfl) rfl ?_
  refine tq_iload_n 1 (E := E_Lat_charAt d) (pc := 7) (cks_at k_Lat_charAt 5 rfl rfl) rfl ?_
  refine tq_strB (j := w) (E := E_Lat_charAt d) (pc := 8) hw (cks_at k_Lat_charAt 6 rfl rfl) ?_
  refine tq_sipush (E := E_Lat_charAt d) (pc := 9) (cks_at k_Lat_charAt 7 rfl rfl) (by decide) (by decide) ?_
  refine tq_iand (E := E_Lat_charAt d) (pc := 12) (cks_at k_Lat_charAt 8 rfl rfl) ?_
  refine tq_i2c (E := E_Lat_charAt d) (pc := 13) (cks_at k_Lat_charAt 9 rfl rfl) ?_
  exact tq_cret (E := E_Lat_charAt d) (pc := 14) (cks_at k_Lat_charAt 10 rfl rfl) rfl
abbrev E_Str_charAt (d : Nat) : Ev := (Ct (d + 3), "java/lang/String", prog_16_method_56_code, 2, False, 0, (fun _ => 0), (Option.some Jvm.ClassFile.FieldType.char))
def f_Str_charAt (w : Nat) (v1 : Int) (M : Mm) : Option (Int × Mm) :=
  bI (f_Str_isLatin1 w M) (fun r2 M1 =>
  if i32 r2 = 0 then
    none
  else
    bI (f_Lat_charAt w v1 M1) (fun r4 M3 =>
    gd (0 ≤ i32 r4 ∧ i32 r4 < 65536) (some (r4, M3))))
set_option maxRecDepth 20000 in
set_option maxHeartbeats 4000000 in
theorem c_Str_charAt (d : Nat) (w : Nat) (hw : w < NSt) (v1 : Int) (M : Mm) (Q : Option Value → Mm → Prop) (h : sat injI (f_Str_charAt w v1 M) Q) : Ct (d + 4) y_Str_charAt [.ref (1000 + w), vI v1] M Q := by
  refine ct_in (d := d + 3) mk_Str_charAt (Nat.le_of_ble_eq_true rfl) (?_ : T (E_Str_charAt d) injI 0 [(0, .ref (1000 + w)), (1, vI v1)] [] M (f_Str_charAt w v1 M)) h
  unfold f_Str_charAt
  refine tq_aload_n 0 (E := E_Str_charAt d) (pc := 0) (cks_at k_Str_charAt 0 rfl rfl) rfl ?_
  refine tq_V0 (E := E_Str_charAt d) (pc := 1) (cks_at k_Str_charAt 1 rfl rfl) mk_Str_isLatin1 lk_Str_492 (rc_str hw) (Nat.le_of_ble_eq_true rfl) (c_Str_isLatin1 (d + 2) w hw M) (k_I fun r2 M1 => ?_)
  refine tq_if_eq (E := E_Str_charAt d) (pc := 4) (tgt := 16) (cks_at k_Str_charAt 2 rfl rfl) (by decide) ?_ ?_
  · exact tq_none
  · refine tq_aload_n 0 (E := E_Str_charAt d) (pc := 7) (cks_at k_Str_charAt 3 rfl rfl) rfl ?_
    refine tq_strV (j := w) (E := E_Str_charAt d) (pc := 8) hw (cks_at k_Str_charAt 4 rfl rfl) (in_10 (List.mem_of_getElem? (i := 69) rfl)) ?_
    refine tq_iload_n 1 (E := E_Str_charAt d) (pc := 11) (cks_at k_Str_charAt 5 rfl rfl) rfl ?_
    refine tq_S2 (E := E_Str_charAt d) (pc := 12) (cks_at k_Str_charAt 6 rfl rfl) mk_Lat_charAt lk_Str_495 (Nat.le_of_ble_eq_true rfl) (c_Lat_charAt (d + 0) w hw v1 M1) (k_I fun r4 M3 => ?_)
    exact tq_cret (E := E_Str_charAt d) (pc := 15) (cks_at k_Str_charAt 7 rfl rfl) rfl
abbrev E_Scan_atWord (d : Nat) : Ev := (Ct (d + 4), "BreathTown$Scan", prog_7_method_14_code, 3, False, 0, (fun _ => 0), (Option.some Jvm.ClassFile.FieldType.boolean))
def f_Scan_atWord_B38 (w1 : Nat) (kH : Int → Mm → Option (Int × Mm)) (v2 : Int) (M : Mm) : Option (Int × Mm) :=
  bI (f_Str_length w1 M) (fun r9 M8 =>
  if i32 r9 ≤ i32 v2 then
    some (1, M8)
  else
    bI (f_Scan_byteAt ((M8 1 2) + v2) M8) (fun r11 M10 =>
    bI (f_Str_charAt w1 v2 M10) (fun r13 M12 =>
    if i32 r11 = i32 r13 then
      kH (v2 + 1) M12
    else
      some (0, M12))))
set_option maxRecDepth 20000 in
set_option maxHeartbeats 4000000 in
theorem w_Scan_atWord_B38 (d : Nat) (w1 : Nat) (hw1 : w1 < NSt) (kH : Int → Mm → Option (Int × Mm)) (hkH : ∀ (v2 : Int) (M : Mm), T (E_Scan_atWord d) injI 38 [(0, .ref 1), (1, .ref (1000 + w1)), (2, vI v2)] [] M (kH v2 M)) (v2 : Int) (M : Mm) : T (E_Scan_atWord d) injI 38 [(0, .ref 1), (1, .ref (1000 + w1)), (2, vI v2)] [] M (f_Scan_atWord_B38 w1 kH v2 M) := by
  unfold f_Scan_atWord_B38
  refine tq_iload_n 2 (E := E_Scan_atWord d) (pc := 38) (cks_at k_Scan_atWord 20 rfl rfl) rfl ?_
  refine tq_aload_n 1 (E := E_Scan_atWord d) (pc := 39) (cks_at k_Scan_atWord 21 rfl rfl) rfl ?_
  refine tq_V0 (E := E_Scan_atWord d) (pc := 40) (cks_at k_Scan_atWord 22 rfl rfl) mk_Str_length lk_Scan_57 (rc_str hw1) (Nat.le_of_ble_eq_true rfl) (c_Str_length (d + 2) w1 hw1 M) (k_I fun r9 M8 => ?_)
  refine tq_icmp_ge (E := E_Scan_atWord d) (pc := 43) (tgt := 72) (cks_at k_Scan_atWord 23 rfl rfl) (by decide) ?_ ?_
  · refine tq_iconst (E := E_Scan_atWord d) (pc := 72) (cks_at k_Scan_atWord 38 rfl rfl) ?_
    exact tq_zretC (E := E_Scan_atWord d) (pc := 73) (cks_at k_Scan_atWord 39 rfl rfl) rfl (by decide)
  · refine tq_aload_n 0 (E := E_Scan_atWord d) (pc := 46) (cks_at k_Scan_atWord 24 rfl rfl) rfl ?_
    refine tq_aload_n 0 (E := E_Scan_atWord d) (pc := 47) (cks_at k_Scan_atWord 25 rfl rfl) rfl ?_
    refine tq_getI (E := E_Scan_atWord d) (pc := 48) (cks_at k_Scan_atWord 26 rfl rfl) fo_Scan_23 so_1 rfl (by decide) ?_
    refine tq_iload_n 2 (E := E_Scan_atWord d) (pc := 51) (cks_at k_Scan_atWord 27 rfl rfl) rfl ?_
    refine tq_iadd (E := E_Scan_atWord d) (pc := 52) (cks_at k_Scan_atWord 28 rfl rfl) ?_
    refine tq_V1 (E := E_Scan_atWord d) (pc := 53) (cks_at k_Scan_atWord 29 rfl rfl) mk_Scan_byteAt lk_Scan_45 rc_1 (Nat.le_of_ble_eq_true rfl) (c_Scan_byteAt (d + 3) ((M8 1 2) + v2) M8) (k_I fun r11 M10 => ?_)
    refine tq_aload_n 1 (E := E_Scan_atWord d) (pc := 56) (cks_at k_Scan_atWord 30 rfl rfl) rfl ?_
    refine tq_iload_n 2 (E := E_Scan_atWord d) (pc := 57) (cks_at k_Scan_atWord 31 rfl rfl) rfl ?_
    refine tq_V1 (E := E_Scan_atWord d) (pc := 58) (cks_at k_Scan_atWord 32 rfl rfl) mk_Str_charAt lk_Scan_65 (rc_str hw1) (Nat.le_of_ble_eq_true rfl) (c_Str_charAt (d + 0) w1 hw1 v2 M10) (k_I fun r13 M12 => ?_)
    refine tq_icmp_eq (E := E_Scan_atWord d) (pc := 61) (tgt := 66) (cks_at k_Scan_atWord 33 rfl rfl) (by decide) ?_ ?_
    · refine tq_iinc 2 (E := E_Scan_atWord d) (pc := 66) (cks_at k_Scan_atWord 36 rfl rfl) rfl (show 2 < 3 by decide) rfl ?_
      refine tq_goto (tgt := 38) (E := E_Scan_atWord d) (pc := 69) (cks_at k_Scan_atWord 37 rfl rfl) (by decide) ?_
      exact tq_sub [1, 2, 0] rfl (hkH (v2 + 1) M12)
    · refine tq_iconst (E := E_Scan_atWord d) (pc := 64) (cks_at k_Scan_atWord 34 rfl rfl) ?_
      exact tq_zretC (E := E_Scan_atWord d) (pc := 65) (cks_at k_Scan_atWord 35 rfl rfl) rfl (by decide)
def f_Scan_atWord_L38 (w1 : Nat) : Nat → Int × Mm → Option (Int × Mm) := lp fun kH s => f_Scan_atWord_B38 w1 (fun v2 M => kH (v2, M)) s.1 s.2
set_option maxRecDepth 20000 in
set_option maxHeartbeats 4000000 in
theorem w_Scan_atWord_L38 (d : Nat) (w1 : Nat) (hw1 : w1 < NSt) (n : Nat) (s : Int × Mm) : T (E_Scan_atWord d) injI 38 [(0, .ref 1), (1, .ref (1000 + w1)), (2, vI s.1)] [] s.2 (f_Scan_atWord_L38 w1 n s) :=
  tq_lp (fun s => [(0, .ref 1), (1, .ref (1000 + w1)), (2, vI s.1)]) (fun s => s.2) (fun kH hH s => w_Scan_atWord_B38 d w1 hw1 (fun v2 M => kH (v2, M)) (fun v2 M => hH (v2, M)) s.1 s.2) n s
def f_Scan_atWord (w1 : Nat) (M : Mm) : Option (Int × Mm) :=
  bV (f_Scan_skip M) (fun M1 =>
  if i32 (M1 1 2) = i32 (M1 1 3) then
    some (0, M1)
  else
    bI (f_Str_length w1 M1) (fun r3 M2 =>
    bI (f_Scan_byteAt ((M1 1 2) + r3) M2) (fun r5 M4 =>
    bI (f_Scan_isLetter r5 M4) (fun r7 M6 =>
    if i32 r7 = 0 then
      f_Scan_atWord_L38 w1 FU (0, M6)
    else
      some (0, M6)))))
set_option maxRecDepth 20000 in
set_option maxHeartbeats 4000000 in
theorem c_Scan_atWord (d : Nat) (w1 : Nat) (hw1 : w1 < NSt) (M : Mm) (Q : Option Value → Mm → Prop) (h : sat injI (f_Scan_atWord w1 M) Q) : Ct (d + 5) y_Scan_atWord [.ref 1, .ref (1000 + w1)] M Q := by
  refine ct_in (d := d + 4) mk_Scan_atWord (Nat.le_of_ble_eq_true rfl) (?_ : T (E_Scan_atWord d) injI 0 [(0, .ref 1), (1, .ref (1000 + w1))] [] M (f_Scan_atWord w1 M)) h
  unfold f_Scan_atWord
  refine tq_aload_n 0 (E := E_Scan_atWord d) (pc := 0) (cks_at k_Scan_atWord 0 rfl rfl) rfl ?_
  refine tq_V0 (E := E_Scan_atWord d) (pc := 1) (cks_at k_Scan_atWord 1 rfl rfl) mk_Scan_skip lk_Scan_38 rc_1 (Nat.le_of_ble_eq_true rfl) (c_Scan_skip (d + 3) M) (k_V fun M1 => ?_)
  refine tq_aload_n 0 (E := E_Scan_atWord d) (pc := 4) (cks_at k_Scan_atWord 2 rfl rfl) rfl ?_
  refine tq_getI (E := E_Scan_atWord d) (pc := 5) (cks_at k_Scan_atWord 3 rfl rfl) fo_Scan_23 so_1 rfl (by decide) ?_
  refine tq_aload_n 0 (E := E_Scan_atWord d) (pc := 8) (cks_at k_Scan_atWord 4 rfl rfl) rfl ?_
  refine tq_getI (E := E_Scan_atWord d) (pc := 9) (cks_at k_Scan_atWord 5 rfl rfl) fo_Scan_26 so_1 rfl (by decide) ?_
  refine tq_icmp_eq (E := E_Scan_atWord d) (pc := 12) (tgt := 34) (cks_at k_Scan_atWord 6 rfl rfl) (by decide) ?_ ?_
  · refine tq_iconst (E := E_Scan_atWord d) (pc := 34) (cks_at k_Scan_atWord 16 rfl rfl) ?_
    exact tq_zretC (E := E_Scan_atWord d) (pc := 35) (cks_at k_Scan_atWord 17 rfl rfl) rfl (by decide)
  · refine tq_aload_n 0 (E := E_Scan_atWord d) (pc := 15) (cks_at k_Scan_atWord 7 rfl rfl) rfl ?_
    refine tq_aload_n 0 (E := E_Scan_atWord d) (pc := 16) (cks_at k_Scan_atWord 8 rfl rfl) rfl ?_
    refine tq_getI (E := E_Scan_atWord d) (pc := 17) (cks_at k_Scan_atWord 9 rfl rfl) fo_Scan_23 so_1 rfl (by decide) ?_
    refine tq_aload_n 1 (E := E_Scan_atWord d) (pc := 20) (cks_at k_Scan_atWord 10 rfl rfl) rfl ?_
    refine tq_V0 (E := E_Scan_atWord d) (pc := 21) (cks_at k_Scan_atWord 11 rfl rfl) mk_Str_length lk_Scan_57 (rc_str hw1) (Nat.le_of_ble_eq_true rfl) (c_Str_length (d + 2) w1 hw1 M1) (k_I fun r3 M2 => ?_)
    refine tq_iadd (E := E_Scan_atWord d) (pc := 24) (cks_at k_Scan_atWord 12 rfl rfl) ?_
    refine tq_V1 (E := E_Scan_atWord d) (pc := 25) (cks_at k_Scan_atWord 13 rfl rfl) mk_Scan_byteAt lk_Scan_45 rc_1 (Nat.le_of_ble_eq_true rfl) (c_Scan_byteAt (d + 3) ((M1 1 2) + r3) M2) (k_I fun r5 M4 => ?_)
    refine tq_S1 (E := E_Scan_atWord d) (pc := 28) (cks_at k_Scan_atWord 14 rfl rfl) mk_Scan_isLetter lk_Scan_62 (Nat.le_of_ble_eq_true rfl) (c_Scan_isLetter (d + 3) r5 M4) (k_I fun r7 M6 => ?_)
    refine tq_if_eq (E := E_Scan_atWord d) (pc := 31) (tgt := 36) (cks_at k_Scan_atWord 15 rfl rfl) (by decide) ?_ ?_
    · refine tq_iconst (E := E_Scan_atWord d) (pc := 36) (cks_at k_Scan_atWord 18 rfl rfl) ?_
      refine tq_istore_n (E := E_Scan_atWord d) (pc := 37) (cks_at k_Scan_atWord 19 rfl rfl) (show 2 < 3 by decide) rfl ?_
      exact tq_sub [1, 2, 0] rfl (w_Scan_atWord_L38 d w1 hw1 FU (0, M6))
    · refine tq_iconst (E := E_Scan_atWord d) (pc := 34) (cks_at k_Scan_atWord 16 rfl rfl) ?_
      exact tq_zretC (E := E_Scan_atWord d) (pc := 35) (cks_at k_Scan_atWord 17 rfl rfl) rfl (by decide)
abbrev E_Scan_takeWord (d : Nat) : Ev := (Ct (d + 5), "BreathTown$Scan", prog_7_method_15_code, 2, False, 0, (fun _ => 0), (Option.some Jvm.ClassFile.FieldType.boolean))
def f_Scan_takeWord (w1 : Nat) (M : Mm) : Option (Int × Mm) :=
  bI (f_Scan_atWord w1 M) (fun r2 M1 =>
  if ¬ i32 r2 = 0 then
    bI (f_Str_length w1 M1) (fun r4 M3 =>
    bd (up M3 1 2 ((M1 1 2) + r4)) (fun M5 =>
    bd (up M5 1 3 (M5 1 2)) (fun M6 =>
    some (1, M6))))
  else
    some (0, M1))
set_option maxRecDepth 20000 in
set_option maxHeartbeats 4000000 in
theorem c_Scan_takeWord (d : Nat) (w1 : Nat) (hw1 : w1 < NSt) (M : Mm) (Q : Option Value → Mm → Prop) (h : sat injI (f_Scan_takeWord w1 M) Q) : Ct (d + 6) y_Scan_takeWord [.ref 1, .ref (1000 + w1)] M Q := by
  refine ct_in (d := d + 5) mk_Scan_takeWord (Nat.le_of_ble_eq_true rfl) (?_ : T (E_Scan_takeWord d) injI 0 [(0, .ref 1), (1, .ref (1000 + w1))] [] M (f_Scan_takeWord w1 M)) h
  unfold f_Scan_takeWord
  refine tq_aload_n 0 (E := E_Scan_takeWord d) (pc := 0) (cks_at k_Scan_takeWord 0 rfl rfl) rfl ?_
  refine tq_aload_n 1 (E := E_Scan_takeWord d) (pc := 1) (cks_at k_Scan_takeWord 1 rfl rfl) rfl ?_
  refine tq_V1 (E := E_Scan_takeWord d) (pc := 2) (cks_at k_Scan_takeWord 2 rfl rfl) mk_Scan_atWord lk_Scan_69 rc_1 (Nat.le_of_ble_eq_true rfl) (c_Scan_atWord (d + 0) w1 hw1 M) (k_I fun r2 M1 => ?_)
  refine tq_if_ne (E := E_Scan_takeWord d) (pc := 5) (tgt := 10) (cks_at k_Scan_takeWord 3 rfl rfl) (by decide) ?_ ?_
  · refine tq_aload_n 0 (E := E_Scan_takeWord d) (pc := 10) (cks_at k_Scan_takeWord 6 rfl rfl) rfl ?_
    refine tq_dup (E := E_Scan_takeWord d) (pc := 11) (cks_at k_Scan_takeWord 7 rfl rfl) rfl ?_
    refine tq_getI (E := E_Scan_takeWord d) (pc := 12) (cks_at k_Scan_takeWord 8 rfl rfl) fo_Scan_23 so_1 rfl (by decide) ?_
    refine tq_aload_n 1 (E := E_Scan_takeWord d) (pc := 15) (cks_at k_Scan_takeWord 9 rfl rfl) rfl ?_
    refine tq_V0 (E := E_Scan_takeWord d) (pc := 16) (cks_at k_Scan_takeWord 10 rfl rfl) mk_Str_length lk_Scan_57 (rc_str hw1) (Nat.le_of_ble_eq_true rfl) (c_Str_length (d + 3) w1 hw1 M1) (k_I fun r4 M3 => ?_)
    refine tq_iadd (E := E_Scan_takeWord d) (pc := 19) (cks_at k_Scan_takeWord 11 rfl rfl) ?_
    refine tq_putI (E := E_Scan_takeWord d) (pc := 20) (cks_at k_Scan_takeWord 12 rfl rfl) fo_Scan_23 so_1 rfl po_5_2 (fun M5 => ?_)
    refine tq_aload_n 0 (E := E_Scan_takeWord d) (pc := 23) (cks_at k_Scan_takeWord 13 rfl rfl) rfl ?_
    refine tq_aload_n 0 (E := E_Scan_takeWord d) (pc := 24) (cks_at k_Scan_takeWord 14 rfl rfl) rfl ?_
    refine tq_getI (E := E_Scan_takeWord d) (pc := 25) (cks_at k_Scan_takeWord 15 rfl rfl) fo_Scan_23 so_1 rfl (by decide) ?_
    refine tq_putI (E := E_Scan_takeWord d) (pc := 28) (cks_at k_Scan_takeWord 16 rfl rfl) fo_Scan_26 so_1 rfl po_5_3 (fun M6 => ?_)
    refine tq_iconst (E := E_Scan_takeWord d) (pc := 31) (cks_at k_Scan_takeWord 17 rfl rfl) ?_
    exact tq_zretC (E := E_Scan_takeWord d) (pc := 32) (cks_at k_Scan_takeWord 18 rfl rfl) rfl (by decide)
  · refine tq_iconst (E := E_Scan_takeWord d) (pc := 8) (cks_at k_Scan_takeWord 4 rfl rfl) ?_
    exact tq_zretC (E := E_Scan_takeWord d) (pc := 9) (cks_at k_Scan_takeWord 5 rfl rfl) rfl (by decide)
abbrev E_Reader_sum (d : Nat) : Ev := (Ct (d + 6), "BreathTown$Reader", prog_6_method_6_code, 4, False, 0, (fun _ => 0), (Option.some Jvm.ClassFile.FieldType.boolean))
def f_Reader_sum_J54 (F : Nat → Nat → Int → Mm → Option (Int × Mm)) (this : Nat) (kH : Int → Int → Mm → Option (Int × Mm)) (v1 v2 s0 : Int) (M : Mm) : Option (Int × Mm) :=
  if ¬ i32 s0 = 0 then
    bI (F 1 this v1 M) (fun r8 M7 =>
    if ¬ i32 r8 = 0 then
      bV (f_Code_add (ptr this 1) s0 M7) (fun M9 =>
      kH v1 (v2 + 1) M9)
    else
      some (0, M7))
  else
    some (1, M)
set_option maxRecDepth 20000 in
set_option maxHeartbeats 4000000 in
theorem w_Reader_sum_J54 (d : Nat) (F : Nat → Nat → Int → Mm → Option (Int × Mm)) (hF : ∀ w this o M Q, isReader this → sat injI (F w this o M) Q → Ct (d + 6) (yG w) [.ref this, vI o] M Q) (this : Nat) (hthis : isReader this) (kH : Int → Int → Mm → Option (Int × Mm)) (hkH : ∀ (v1 v2 : Int) (M : Mm), T (E_Reader_sum d) injI 12 [(0, .ref this), (1, vI v1), (2, vI v2)] [] M (kH v1 v2 M)) (v1 v2 s0 : Int) (M : Mm) : T (E_Reader_sum d) injI 54 [(0, .ref this), (1, vI v1), (2, vI v2)] [vI s0] M (f_Reader_sum_J54 F this kH v1 v2 s0 M) := by
  unfold f_Reader_sum_J54
  refine tq_istore_n (E := E_Reader_sum d) (pc := 54) (cks_at k_Reader_sum 26 rfl rfl) (show 3 < 4 by decide) rfl ?_
  refine tq_iload_n 0 (E := E_Reader_sum d) (pc := 55) (cks_at k_Reader_sum 27 rfl rfl) rfl ?_
  refine tq_if_ne (E := E_Reader_sum d) (pc := 56) (tgt := 61) (cks_at k_Reader_sum 28 rfl rfl) (by decide) ?_ ?_
  · refine tq_aload_n 1 (E := E_Reader_sum d) (pc := 61) (cks_at k_Reader_sum 31 rfl rfl) rfl ?_
    refine tq_iload_n 2 (E := E_Reader_sum d) (pc := 62) (cks_at k_Reader_sum 32 rfl rfl) rfl ?_
    refine tq_V1 (E := E_Reader_sum d) (pc := 63) (cks_at k_Reader_sum 33 rfl rfl) mk_Reader_product lk_Reader_46 (isReader_rc hthis) (Nat.le_of_ble_eq_true rfl) (fun Q h => hF 1 this v1 M Q hthis h) (k_I fun r8 M7 => ?_)
    refine tq_if_ne (E := E_Reader_sum d) (pc := 66) (tgt := 71) (cks_at k_Reader_sum 34 rfl rfl) (by decide) ?_ ?_
    · refine tq_aload_n 1 (E := E_Reader_sum d) (pc := 71) (cks_at k_Reader_sum 37 rfl rfl) rfl ?_
      refine tq_getR (j := ptr this 1) (E := E_Reader_sum d) (pc := 72) (cks_at k_Reader_sum 38 rfl rfl) fo_Reader_15 (isReader_ok hthis) rfl rfl ?_
      refine tq_iload_n 0 (E := E_Reader_sum d) (pc := 75) (cks_at k_Reader_sum 39 rfl rfl) rfl ?_
      refine tq_V1 (E := E_Reader_sum d) (pc := 76) (cks_at k_Reader_sum 40 rfl rfl) mk_Code_add lk_Reader_40 (isCode_rc (sm_Reader_1 hthis)) (Nat.le_of_ble_eq_true rfl) (c_Code_add (d + 5) (ptr this 1) (sm_Reader_1 hthis) s0 M7) (k_V fun M9 => ?_)
      refine tq_iinc 3 (E := E_Reader_sum d) (pc := 79) (cks_at k_Reader_sum 41 rfl rfl) rfl (show 2 < 4 by decide) rfl ?_
      refine tq_goto (tgt := 12) (E := E_Reader_sum d) (pc := 82) (cks_at k_Reader_sum 42 rfl rfl) (by decide) ?_
      exact tq_sub [2, 3, 0] rfl (hkH v1 (v2 + 1) M9)
    · refine tq_iconst (E := E_Reader_sum d) (pc := 69) (cks_at k_Reader_sum 35 rfl rfl) ?_
      exact tq_zretC (E := E_Reader_sum d) (pc := 70) (cks_at k_Reader_sum 36 rfl rfl) rfl (by decide)
  · refine tq_iconst (E := E_Reader_sum d) (pc := 59) (cks_at k_Reader_sum 29 rfl rfl) ?_
    exact tq_zretC (E := E_Reader_sum d) (pc := 60) (cks_at k_Reader_sum 30 rfl rfl) rfl (by decide)
def f_Reader_sum_B12 (F : Nat → Nat → Int → Mm → Option (Int × Mm)) (this : Nat) (kH : Int → Int → Mm → Option (Int × Mm)) (v1 v2 : Int) (M : Mm) : Option (Int × Mm) :=
  if i32 1600 ≤ i32 v2 then
    some (1, M)
  else
    bI (f_Scan_takeSign 43 M) (fun r4 M3 =>
    if i32 r4 = 0 then
      bI (f_Scan_takeSign 45 M3) (fun r6 M5 =>
      if i32 r6 = 0 then
        f_Reader_sum_J54 F this kH v1 v2 0 M5
      else
        f_Reader_sum_J54 F this kH v1 v2 ((-11)) M5)
    else
      f_Reader_sum_J54 F this kH v1 v2 ((-10)) M3)
set_option maxRecDepth 20000 in
set_option maxHeartbeats 4000000 in
theorem w_Reader_sum_B12 (d : Nat) (F : Nat → Nat → Int → Mm → Option (Int × Mm)) (hF : ∀ w this o M Q, isReader this → sat injI (F w this o M) Q → Ct (d + 6) (yG w) [.ref this, vI o] M Q) (this : Nat) (hthis : isReader this) (kH : Int → Int → Mm → Option (Int × Mm)) (hkH : ∀ (v1 v2 : Int) (M : Mm), T (E_Reader_sum d) injI 12 [(0, .ref this), (1, vI v1), (2, vI v2)] [] M (kH v1 v2 M)) (v1 v2 : Int) (M : Mm) : T (E_Reader_sum d) injI 12 [(0, .ref this), (1, vI v1), (2, vI v2)] [] M (f_Reader_sum_B12 F this kH v1 v2 M) := by
  unfold f_Reader_sum_B12
  refine tq_iload_n 2 (E := E_Reader_sum d) (pc := 12) (cks_at k_Reader_sum 8 rfl rfl) rfl ?_
  refine tq_sipush (E := E_Reader_sum d) (pc := 13) (cks_at k_Reader_sum 9 rfl rfl) (by decide) (by decide) ?_
  refine tq_icmp_ge (E := E_Reader_sum d) (pc := 16) (tgt := 85) (cks_at k_Reader_sum 10 rfl rfl) (by decide) ?_ ?_
  · refine tq_iconst (E := E_Reader_sum d) (pc := 85) (cks_at k_Reader_sum 43 rfl rfl) ?_
    exact tq_zretC (E := E_Reader_sum d) (pc := 86) (cks_at k_Reader_sum 44 rfl rfl) rfl (by decide)
  · refine tq_aload_n 0 (E := E_Reader_sum d) (pc := 19) (cks_at k_Reader_sum 11 rfl rfl) rfl ?_
    refine tq_getR (j := 1) (E := E_Reader_sum d) (pc := 20) (cks_at k_Reader_sum 12 rfl rfl) fo_Reader_9 (isReader_ok hthis) rfl (sq_Reader_0 hthis) ?_
    refine tq_bipush (E := E_Reader_sum d) (pc := 23) (cks_at k_Reader_sum 13 rfl rfl) (by decide) (by decide) ?_
    refine tq_V1 (E := E_Reader_sum d) (pc := 25) (cks_at k_Reader_sum 14 rfl rfl) mk_Scan_takeSign lk_Reader_49 rc_1 (Nat.le_of_ble_eq_true rfl) (c_Scan_takeSign (d + 4) 43 M) (k_I fun r4 M3 => ?_)
    refine tq_if_eq (E := E_Reader_sum d) (pc := 28) (tgt := 36) (cks_at k_Reader_sum 15 rfl rfl) (by decide) ?_ ?_
    · refine tq_aload_n 0 (E := E_Reader_sum d) (pc := 36) (cks_at k_Reader_sum 18 rfl rfl) rfl ?_
      refine tq_getR (j := 1) (E := E_Reader_sum d) (pc := 37) (cks_at k_Reader_sum 19 rfl rfl) fo_Reader_9 (isReader_ok hthis) rfl (sq_Reader_0 hthis) ?_
      refine tq_bipush (E := E_Reader_sum d) (pc := 40) (cks_at k_Reader_sum 20 rfl rfl) (by decide) (by decide) ?_
      refine tq_V1 (E := E_Reader_sum d) (pc := 42) (cks_at k_Reader_sum 21 rfl rfl) mk_Scan_takeSign lk_Reader_49 rc_1 (Nat.le_of_ble_eq_true rfl) (c_Scan_takeSign (d + 4) 45 M3) (k_I fun r6 M5 => ?_)
      refine tq_if_eq (E := E_Reader_sum d) (pc := 45) (tgt := 53) (cks_at k_Reader_sum 22 rfl rfl) (by decide) ?_ ?_
      · refine tq_iconst (E := E_Reader_sum d) (pc := 53) (cks_at k_Reader_sum 25 rfl rfl) ?_
        exact tq_sub [0, 1, 2] rfl (w_Reader_sum_J54 d F hF this hthis kH hkH v1 v2 0 M5)
      · refine tq_bipush (E := E_Reader_sum d) (pc := 48) (cks_at k_Reader_sum 23 rfl rfl) (by decide) (by decide) ?_
        refine tq_goto (tgt := 54) (E := E_Reader_sum d) (pc := 50) (cks_at k_Reader_sum 24 rfl rfl) (by decide) ?_
        exact tq_sub [0, 1, 2] rfl (w_Reader_sum_J54 d F hF this hthis kH hkH v1 v2 ((-11)) M5)
    · refine tq_bipush (E := E_Reader_sum d) (pc := 31) (cks_at k_Reader_sum 16 rfl rfl) (by decide) (by decide) ?_
      refine tq_goto (tgt := 54) (E := E_Reader_sum d) (pc := 33) (cks_at k_Reader_sum 17 rfl rfl) (by decide) ?_
      exact tq_sub [0, 1, 2] rfl (w_Reader_sum_J54 d F hF this hthis kH hkH v1 v2 ((-10)) M3)
def f_Reader_sum_L12 (F : Nat → Nat → Int → Mm → Option (Int × Mm)) (this : Nat) : Nat → Int × Int × Mm → Option (Int × Mm) := lp fun kH s => f_Reader_sum_B12 F this (fun v1 v2 M => kH (v1, v2, M)) s.1 s.2.1 s.2.2
set_option maxRecDepth 20000 in
set_option maxHeartbeats 4000000 in
theorem w_Reader_sum_L12 (d : Nat) (F : Nat → Nat → Int → Mm → Option (Int × Mm)) (hF : ∀ w this o M Q, isReader this → sat injI (F w this o M) Q → Ct (d + 6) (yG w) [.ref this, vI o] M Q) (this : Nat) (hthis : isReader this) (n : Nat) (s : Int × Int × Mm) : T (E_Reader_sum d) injI 12 [(0, .ref this), (1, vI s.1), (2, vI s.2.1)] [] s.2.2 (f_Reader_sum_L12 F this n s) :=
  tq_lp (fun s => [(0, .ref this), (1, vI s.1), (2, vI s.2.1)]) (fun s => s.2.2) (fun kH hH s => w_Reader_sum_B12 d F hF this hthis (fun v1 v2 M => kH (v1, v2, M)) (fun v1 v2 M => hH (v1, v2, M)) s.1 s.2.1 s.2.2) n s
def f_Reader_sum (F : Nat → Nat → Int → Mm → Option (Int × Mm)) (this : Nat) (v1 : Int) (M : Mm) : Option (Int × Mm) :=
  bI (F 1 this v1 M) (fun r2 M1 =>
  if ¬ i32 r2 = 0 then
    f_Reader_sum_L12 F this FU (v1, 0, M1)
  else
    some (0, M1))
set_option maxRecDepth 20000 in
set_option maxHeartbeats 4000000 in
theorem w_Reader_sum (d : Nat) (F : Nat → Nat → Int → Mm → Option (Int × Mm)) (hF : ∀ w this o M Q, isReader this → sat injI (F w this o M) Q → Ct (d + 6) (yG w) [.ref this, vI o] M Q) (this : Nat) (hthis : isReader this) (v1 : Int) (M : Mm) : T (E_Reader_sum d) injI 0 [(0, .ref this), (1, vI v1)] [] M (f_Reader_sum F this v1 M) := by
  unfold f_Reader_sum
  refine tq_aload_n 0 (E := E_Reader_sum d) (pc := 0) (cks_at k_Reader_sum 0 rfl rfl) rfl ?_
  refine tq_iload_n 1 (E := E_Reader_sum d) (pc := 1) (cks_at k_Reader_sum 1 rfl rfl) rfl ?_
  refine tq_V1 (E := E_Reader_sum d) (pc := 2) (cks_at k_Reader_sum 2 rfl rfl) mk_Reader_product lk_Reader_46 (isReader_rc hthis) (Nat.le_of_ble_eq_true rfl) (fun Q h => hF 1 this v1 M Q hthis h) (k_I fun r2 M1 => ?_)
  refine tq_if_ne (E := E_Reader_sum d) (pc := 5) (tgt := 10) (cks_at k_Reader_sum 3 rfl rfl) (by decide) ?_ ?_
  · refine tq_iconst (E := E_Reader_sum d) (pc := 10) (cks_at k_Reader_sum 6 rfl rfl) ?_
    refine tq_istore_n (E := E_Reader_sum d) (pc := 11) (cks_at k_Reader_sum 7 rfl rfl) (show 2 < 4 by decide) rfl ?_
    exact tq_sub [1, 2, 0] rfl (w_Reader_sum_L12 d F hF this hthis FU (v1, 0, M1))
  · refine tq_iconst (E := E_Reader_sum d) (pc := 8) (cks_at k_Reader_sum 4 rfl rfl) ?_
    exact tq_zretC (E := E_Reader_sum d) (pc := 9) (cks_at k_Reader_sum 5 rfl rfl) rfl (by decide)
abbrev E_Reader_product (d : Nat) : Ev := (Ct (d + 6), "BreathTown$Reader", prog_6_method_7_code, 4, False, 0, (fun _ => 0), (Option.some Jvm.ClassFile.FieldType.boolean))
def f_Reader_product_J54 (F : Nat → Nat → Int → Mm → Option (Int × Mm)) (this : Nat) (kH : Int → Int → Mm → Option (Int × Mm)) (v1 v2 s0 : Int) (M : Mm) : Option (Int × Mm) :=
  if ¬ i32 s0 = 0 then
    bI (F 2 this v1 M) (fun r8 M7 =>
    if ¬ i32 r8 = 0 then
      bV (f_Code_add (ptr this 1) s0 M7) (fun M9 =>
      kH v1 (v2 + 1) M9)
    else
      some (0, M7))
  else
    some (1, M)
set_option maxRecDepth 20000 in
set_option maxHeartbeats 4000000 in
theorem w_Reader_product_J54 (d : Nat) (F : Nat → Nat → Int → Mm → Option (Int × Mm)) (hF : ∀ w this o M Q, isReader this → sat injI (F w this o M) Q → Ct (d + 6) (yG w) [.ref this, vI o] M Q) (this : Nat) (hthis : isReader this) (kH : Int → Int → Mm → Option (Int × Mm)) (hkH : ∀ (v1 v2 : Int) (M : Mm), T (E_Reader_product d) injI 12 [(0, .ref this), (1, vI v1), (2, vI v2)] [] M (kH v1 v2 M)) (v1 v2 s0 : Int) (M : Mm) : T (E_Reader_product d) injI 54 [(0, .ref this), (1, vI v1), (2, vI v2)] [vI s0] M (f_Reader_product_J54 F this kH v1 v2 s0 M) := by
  unfold f_Reader_product_J54
  refine tq_istore_n (E := E_Reader_product d) (pc := 54) (cks_at k_Reader_product 26 rfl rfl) (show 3 < 4 by decide) rfl ?_
  refine tq_iload_n 0 (E := E_Reader_product d) (pc := 55) (cks_at k_Reader_product 27 rfl rfl) rfl ?_
  refine tq_if_ne (E := E_Reader_product d) (pc := 56) (tgt := 61) (cks_at k_Reader_product 28 rfl rfl) (by decide) ?_ ?_
  · refine tq_aload_n 1 (E := E_Reader_product d) (pc := 61) (cks_at k_Reader_product 31 rfl rfl) rfl ?_
    refine tq_iload_n 2 (E := E_Reader_product d) (pc := 62) (cks_at k_Reader_product 32 rfl rfl) rfl ?_
    refine tq_V1 (E := E_Reader_product d) (pc := 63) (cks_at k_Reader_product 33 rfl rfl) mk_Reader_part lk_Reader_52 (isReader_rc hthis) (Nat.le_of_ble_eq_true rfl) (fun Q h => hF 2 this v1 M Q hthis h) (k_I fun r8 M7 => ?_)
    refine tq_if_ne (E := E_Reader_product d) (pc := 66) (tgt := 71) (cks_at k_Reader_product 34 rfl rfl) (by decide) ?_ ?_
    · refine tq_aload_n 1 (E := E_Reader_product d) (pc := 71) (cks_at k_Reader_product 37 rfl rfl) rfl ?_
      refine tq_getR (j := ptr this 1) (E := E_Reader_product d) (pc := 72) (cks_at k_Reader_product 38 rfl rfl) fo_Reader_15 (isReader_ok hthis) rfl rfl ?_
      refine tq_iload_n 0 (E := E_Reader_product d) (pc := 75) (cks_at k_Reader_product 39 rfl rfl) rfl ?_
      refine tq_V1 (E := E_Reader_product d) (pc := 76) (cks_at k_Reader_product 40 rfl rfl) mk_Code_add lk_Reader_40 (isCode_rc (sm_Reader_1 hthis)) (Nat.le_of_ble_eq_true rfl) (c_Code_add (d + 5) (ptr this 1) (sm_Reader_1 hthis) s0 M7) (k_V fun M9 => ?_)
      refine tq_iinc 3 (E := E_Reader_product d) (pc := 79) (cks_at k_Reader_product 41 rfl rfl) rfl (show 2 < 4 by decide) rfl ?_
      refine tq_goto (tgt := 12) (E := E_Reader_product d) (pc := 82) (cks_at k_Reader_product 42 rfl rfl) (by decide) ?_
      exact tq_sub [2, 3, 0] rfl (hkH v1 (v2 + 1) M9)
    · refine tq_iconst (E := E_Reader_product d) (pc := 69) (cks_at k_Reader_product 35 rfl rfl) ?_
      exact tq_zretC (E := E_Reader_product d) (pc := 70) (cks_at k_Reader_product 36 rfl rfl) rfl (by decide)
  · refine tq_iconst (E := E_Reader_product d) (pc := 59) (cks_at k_Reader_product 29 rfl rfl) ?_
    exact tq_zretC (E := E_Reader_product d) (pc := 60) (cks_at k_Reader_product 30 rfl rfl) rfl (by decide)
def f_Reader_product_B12 (F : Nat → Nat → Int → Mm → Option (Int × Mm)) (this : Nat) (kH : Int → Int → Mm → Option (Int × Mm)) (v1 v2 : Int) (M : Mm) : Option (Int × Mm) :=
  if i32 1600 ≤ i32 v2 then
    some (1, M)
  else
    bI (f_Scan_takeSign 42 M) (fun r4 M3 =>
    if i32 r4 = 0 then
      bI (f_Scan_takeSign 47 M3) (fun r6 M5 =>
      if i32 r6 = 0 then
        f_Reader_product_J54 F this kH v1 v2 0 M5
      else
        f_Reader_product_J54 F this kH v1 v2 ((-13)) M5)
    else
      f_Reader_product_J54 F this kH v1 v2 ((-12)) M3)
set_option maxRecDepth 20000 in
set_option maxHeartbeats 4000000 in
theorem w_Reader_product_B12 (d : Nat) (F : Nat → Nat → Int → Mm → Option (Int × Mm)) (hF : ∀ w this o M Q, isReader this → sat injI (F w this o M) Q → Ct (d + 6) (yG w) [.ref this, vI o] M Q) (this : Nat) (hthis : isReader this) (kH : Int → Int → Mm → Option (Int × Mm)) (hkH : ∀ (v1 v2 : Int) (M : Mm), T (E_Reader_product d) injI 12 [(0, .ref this), (1, vI v1), (2, vI v2)] [] M (kH v1 v2 M)) (v1 v2 : Int) (M : Mm) : T (E_Reader_product d) injI 12 [(0, .ref this), (1, vI v1), (2, vI v2)] [] M (f_Reader_product_B12 F this kH v1 v2 M) := by
  unfold f_Reader_product_B12
  refine tq_iload_n 2 (E := E_Reader_product d) (pc := 12) (cks_at k_Reader_product 8 rfl rfl) rfl ?_
  refine tq_sipush (E := E_Reader_product d) (pc := 13) (cks_at k_Reader_product 9 rfl rfl) (by decide) (by decide) ?_
  refine tq_icmp_ge (E := E_Reader_product d) (pc := 16) (tgt := 85) (cks_at k_Reader_product 10 rfl rfl) (by decide) ?_ ?_
  · refine tq_iconst (E := E_Reader_product d) (pc := 85) (cks_at k_Reader_product 43 rfl rfl) ?_
    exact tq_zretC (E := E_Reader_product d) (pc := 86) (cks_at k_Reader_product 44 rfl rfl) rfl (by decide)
  · refine tq_aload_n 0 (E := E_Reader_product d) (pc := 19) (cks_at k_Reader_product 11 rfl rfl) rfl ?_
    refine tq_getR (j := 1) (E := E_Reader_product d) (pc := 20) (cks_at k_Reader_product 12 rfl rfl) fo_Reader_9 (isReader_ok hthis) rfl (sq_Reader_0 hthis) ?_
    refine tq_bipush (E := E_Reader_product d) (pc := 23) (cks_at k_Reader_product 13 rfl rfl) (by decide) (by decide) ?_
    refine tq_V1 (E := E_Reader_product d) (pc := 25) (cks_at k_Reader_product 14 rfl rfl) mk_Scan_takeSign lk_Reader_49 rc_1 (Nat.le_of_ble_eq_true rfl) (c_Scan_takeSign (d + 4) 42 M) (k_I fun r4 M3 => ?_)
    refine tq_if_eq (E := E_Reader_product d) (pc := 28) (tgt := 36) (cks_at k_Reader_product 15 rfl rfl) (by decide) ?_ ?_
    · refine tq_aload_n 0 (E := E_Reader_product d) (pc := 36) (cks_at k_Reader_product 18 rfl rfl) rfl ?_
      refine tq_getR (j := 1) (E := E_Reader_product d) (pc := 37) (cks_at k_Reader_product 19 rfl rfl) fo_Reader_9 (isReader_ok hthis) rfl (sq_Reader_0 hthis) ?_
      refine tq_bipush (E := E_Reader_product d) (pc := 40) (cks_at k_Reader_product 20 rfl rfl) (by decide) (by decide) ?_
      refine tq_V1 (E := E_Reader_product d) (pc := 42) (cks_at k_Reader_product 21 rfl rfl) mk_Scan_takeSign lk_Reader_49 rc_1 (Nat.le_of_ble_eq_true rfl) (c_Scan_takeSign (d + 4) 47 M3) (k_I fun r6 M5 => ?_)
      refine tq_if_eq (E := E_Reader_product d) (pc := 45) (tgt := 53) (cks_at k_Reader_product 22 rfl rfl) (by decide) ?_ ?_
      · refine tq_iconst (E := E_Reader_product d) (pc := 53) (cks_at k_Reader_product 25 rfl rfl) ?_
        exact tq_sub [0, 1, 2] rfl (w_Reader_product_J54 d F hF this hthis kH hkH v1 v2 0 M5)
      · refine tq_bipush (E := E_Reader_product d) (pc := 48) (cks_at k_Reader_product 23 rfl rfl) (by decide) (by decide) ?_
        refine tq_goto (tgt := 54) (E := E_Reader_product d) (pc := 50) (cks_at k_Reader_product 24 rfl rfl) (by decide) ?_
        exact tq_sub [0, 1, 2] rfl (w_Reader_product_J54 d F hF this hthis kH hkH v1 v2 ((-13)) M5)
    · refine tq_bipush (E := E_Reader_product d) (pc := 31) (cks_at k_Reader_product 16 rfl rfl) (by decide) (by decide) ?_
      refine tq_goto (tgt := 54) (E := E_Reader_product d) (pc := 33) (cks_at k_Reader_product 17 rfl rfl) (by decide) ?_
      exact tq_sub [0, 1, 2] rfl (w_Reader_product_J54 d F hF this hthis kH hkH v1 v2 ((-12)) M3)
def f_Reader_product_L12 (F : Nat → Nat → Int → Mm → Option (Int × Mm)) (this : Nat) : Nat → Int × Int × Mm → Option (Int × Mm) := lp fun kH s => f_Reader_product_B12 F this (fun v1 v2 M => kH (v1, v2, M)) s.1 s.2.1 s.2.2
set_option maxRecDepth 20000 in
set_option maxHeartbeats 4000000 in
theorem w_Reader_product_L12 (d : Nat) (F : Nat → Nat → Int → Mm → Option (Int × Mm)) (hF : ∀ w this o M Q, isReader this → sat injI (F w this o M) Q → Ct (d + 6) (yG w) [.ref this, vI o] M Q) (this : Nat) (hthis : isReader this) (n : Nat) (s : Int × Int × Mm) : T (E_Reader_product d) injI 12 [(0, .ref this), (1, vI s.1), (2, vI s.2.1)] [] s.2.2 (f_Reader_product_L12 F this n s) :=
  tq_lp (fun s => [(0, .ref this), (1, vI s.1), (2, vI s.2.1)]) (fun s => s.2.2) (fun kH hH s => w_Reader_product_B12 d F hF this hthis (fun v1 v2 M => kH (v1, v2, M)) (fun v1 v2 M => hH (v1, v2, M)) s.1 s.2.1 s.2.2) n s
def f_Reader_product (F : Nat → Nat → Int → Mm → Option (Int × Mm)) (this : Nat) (v1 : Int) (M : Mm) : Option (Int × Mm) :=
  bI (F 2 this v1 M) (fun r2 M1 =>
  if ¬ i32 r2 = 0 then
    f_Reader_product_L12 F this FU (v1, 0, M1)
  else
    some (0, M1))
set_option maxRecDepth 20000 in
set_option maxHeartbeats 4000000 in
theorem w_Reader_product (d : Nat) (F : Nat → Nat → Int → Mm → Option (Int × Mm)) (hF : ∀ w this o M Q, isReader this → sat injI (F w this o M) Q → Ct (d + 6) (yG w) [.ref this, vI o] M Q) (this : Nat) (hthis : isReader this) (v1 : Int) (M : Mm) : T (E_Reader_product d) injI 0 [(0, .ref this), (1, vI v1)] [] M (f_Reader_product F this v1 M) := by
  unfold f_Reader_product
  refine tq_aload_n 0 (E := E_Reader_product d) (pc := 0) (cks_at k_Reader_product 0 rfl rfl) rfl ?_
  refine tq_iload_n 1 (E := E_Reader_product d) (pc := 1) (cks_at k_Reader_product 1 rfl rfl) rfl ?_
  refine tq_V1 (E := E_Reader_product d) (pc := 2) (cks_at k_Reader_product 2 rfl rfl) mk_Reader_part lk_Reader_52 (isReader_rc hthis) (Nat.le_of_ble_eq_true rfl) (fun Q h => hF 2 this v1 M Q hthis h) (k_I fun r2 M1 => ?_)
  refine tq_if_ne (E := E_Reader_product d) (pc := 5) (tgt := 10) (cks_at k_Reader_product 3 rfl rfl) (by decide) ?_ ?_
  · refine tq_iconst (E := E_Reader_product d) (pc := 10) (cks_at k_Reader_product 6 rfl rfl) ?_
    refine tq_istore_n (E := E_Reader_product d) (pc := 11) (cks_at k_Reader_product 7 rfl rfl) (show 2 < 4 by decide) rfl ?_
    exact tq_sub [1, 2, 0] rfl (w_Reader_product_L12 d F hF this hthis FU (v1, 0, M1))
  · refine tq_iconst (E := E_Reader_product d) (pc := 8) (cks_at k_Reader_product 4 rfl rfl) ?_
    exact tq_zretC (E := E_Reader_product d) (pc := 9) (cks_at k_Reader_product 5 rfl rfl) rfl (by decide)
abbrev E_Reader_part (d : Nat) : Ev := (Ct (d + 6), "BreathTown$Reader", prog_6_method_8_code, 3, False, 0, (fun _ => 0), (Option.some Jvm.ClassFile.FieldType.boolean))
def f_Reader_part (F : Nat → Nat → Int → Mm → Option (Int × Mm)) (this : Nat) (v1 : Int) (M : Mm) : Option (Int × Mm) :=
  bI (f_Scan_atNumber M) (fun r2 M1 =>
  if i32 r2 = 0 then
    bI (f_Scan_atSign 40 M1) (fun r4 M3 =>
    if i32 r4 = 0 then
      bI (f_Scan_takeWord 9 M3) (fun r6 M5 =>
      if i32 r6 = 0 then
        bI (f_Scan_takeWord 10 M5) (fun r8 M7 =>
        if i32 r8 = 0 then
          bI (f_Scan_takeWord 11 M7) (fun r10 M9 =>
          if i32 r10 = 0 then
            bI (f_Scan_takeWord 12 M9) (fun r12 M11 =>
            if i32 r12 = 0 then
              if i32 (M11 this 2) = 0 then
                bI (f_Scan_takeWord 15 M11) (fun r14 M13 =>
                if i32 r14 = 0 then
                  bI (f_Scan_takeWord 6 M13) (fun r16 M15 =>
                  if i32 r16 = 0 then
                    bI (f_Scan_unexpected M15) (fun r18 M17 =>
                    gd (i32 r18 = 0 ∨ i32 r18 = 1) (some (r18, M17)))
                  else
                    bI (f_Reader_took this ((-2)) M15) (fun r20 M19 =>
                    gd (i32 r20 = 0 ∨ i32 r20 = 1) (some (r20, M19))))
                else
                  bI (f_Reader_took this ((-1)) M13) (fun r22 M21 =>
                  gd (i32 r22 = 0 ∨ i32 r22 = 1) (some (r22, M21))))
              else
                bI (F 4 this v1 M11) (fun r24 M23 =>
                gd (i32 r24 = 0 ∨ i32 r24 = 1) (some (r24, M23)))
            else
              bI (f_Reader_took this ((-4)) M11) (fun r26 M25 =>
              gd (i32 r26 = 0 ∨ i32 r26 = 1) (some (r26, M25))))
          else
            bI (f_Reader_took this ((-3)) M9) (fun r28 M27 =>
            gd (i32 r28 = 0 ∨ i32 r28 = 1) (some (r28, M27))))
        else
          bI (F 3 this v1 M7) (fun r30 M29 =>
          if i32 r30 = 0 then
            some (0, M29)
          else
            bI (f_Reader_took this ((-15)) M29) (fun r32 M31 =>
            if i32 r32 = 0 then
              some (0, M31)
            else
              some (1, M31))))
      else
        bI (F 3 this v1 M5) (fun r34 M33 =>
        if i32 r34 = 0 then
          some (0, M33)
        else
          bI (f_Reader_took this ((-14)) M33) (fun r36 M35 =>
          if i32 r36 = 0 then
            some (0, M35)
          else
            some (1, M35))))
    else
      bI (f_Reader_mayOpen this v1 M3) (fun r38 M37 =>
      if i32 r38 = 0 then
        some (0, M37)
      else
        bI (f_Scan_takeSign 40 M37) (fun r40 M39 =>
        if i32 r40 = 0 then
          some (0, M39)
        else
          bI (F 0 this (v1 + 1) M39) (fun r42 M41 =>
          if i32 r42 = 0 then
            some (0, M41)
          else
            bI (f_Scan_needSign 41 M41) (fun r44 M43 =>
            if i32 r44 = 0 then
              some (0, M43)
            else
              some (1, M43))))))
  else
    bI (f_Scan_number 0 9999 M1) (fun r46 M45 =>
    if i32 r46 = i32 ((-1)) then
      some (0, M45)
    else
      bI (f_Reader_took this r46 M45) (fun r48 M47 =>
      if i32 r48 = 0 then
        some (0, M47)
      else
        some (1, M47))))
set_option maxRecDepth 20000 in
set_option maxHeartbeats 4000000 in
theorem w_Reader_part (d : Nat) (F : Nat → Nat → Int → Mm → Option (Int × Mm)) (hF : ∀ w this o M Q, isReader this → sat injI (F w this o M) Q → Ct (d + 6) (yG w) [.ref this, vI o] M Q) (this : Nat) (hthis : isReader this) (v1 : Int) (M : Mm) : T (E_Reader_part d) injI 0 [(0, .ref this), (1, vI v1)] [] M (f_Reader_part F this v1 M) := by
  unfold f_Reader_part
  refine tq_aload_n 0 (E := E_Reader_part d) (pc := 0) (cks_at k_Reader_part 0 rfl rfl) rfl ?_
  refine tq_getR (j := 1) (E := E_Reader_part d) (pc := 1) (cks_at k_Reader_part 1 rfl rfl) fo_Reader_9 (isReader_ok hthis) rfl (sq_Reader_0 hthis) ?_
  refine tq_V0 (E := E_Reader_part d) (pc := 4) (cks_at k_Reader_part 2 rfl rfl) mk_Scan_atNumber lk_Reader_55 rc_1 (Nat.le_of_ble_eq_true rfl) (c_Scan_atNumber (d + 4) M) (k_I fun r2 M1 => ?_)
  refine tq_if_eq (E := E_Reader_part d) (pc := 7) (tgt := 41) (cks_at k_Reader_part 3 rfl rfl) (by decide) ?_ ?_
  · refine tq_aload_n 0 (E := E_Reader_part d) (pc := 41) (cks_at k_Reader_part 21 rfl rfl) rfl ?_
    refine tq_getR (j := 1) (E := E_Reader_part d) (pc := 42) (cks_at k_Reader_part 22 rfl rfl) fo_Reader_9 (isReader_ok hthis) rfl (sq_Reader_0 hthis) ?_
    refine tq_bipush (E := E_Reader_part d) (pc := 45) (cks_at k_Reader_part 23 rfl rfl) (by decide) (by decide) ?_
    refine tq_V1 (E := E_Reader_part d) (pc := 47) (cks_at k_Reader_part 24 rfl rfl) mk_Scan_atSign lk_Reader_66 rc_1 (Nat.le_of_ble_eq_true rfl) (c_Scan_atSign (d + 4) 40 M1) (k_I fun r4 M3 => ?_)
    refine tq_if_eq (E := E_Reader_part d) (pc := 50) (tgt := 101) (cks_at k_Reader_part 25 rfl rfl) (by decide) ?_ ?_
    · refine tq_aload_n 0 (E := E_Reader_part d) (pc := 101) (cks_at k_Reader_part 50 rfl rfl) rfl ?_
      refine tq_getR (j := 1) (E := E_Reader_part d) (pc := 102) (cks_at k_Reader_part 51 rfl rfl) fo_Reader_9 (isReader_ok hthis) rfl (sq_Reader_0 hthis) ?_
      refine tq_ldcS (j := 9) (s := 9) (E := E_Reader_part d) (pc := 105) (cks_at k_Reader_part 52 rfl rfl) rfl ?_
      refine tq_V1 (E := E_Reader_part d) (pc := 107) (cks_at k_Reader_part 53 rfl rfl) mk_Scan_takeWord lk_Reader_77 rc_1 (Nat.le_of_ble_eq_true rfl) (c_Scan_takeWord (d + 0) 9 (by decide) M3) (k_I fun r6 M5 => ?_)
      refine tq_if_eq (E := E_Reader_part d) (pc := 110) (tgt := 136) (cks_at k_Reader_part 54 rfl rfl) (by decide) ?_ ?_
      · refine tq_aload_n 0 (E := E_Reader_part d) (pc := 136) (cks_at k_Reader_part 67 rfl rfl) rfl ?_
        refine tq_getR (j := 1) (E := E_Reader_part d) (pc := 137) (cks_at k_Reader_part 68 rfl rfl) fo_Reader_9 (isReader_ok hthis) rfl (sq_Reader_0 hthis) ?_
        refine tq_ldcS (j := 10) (s := 10) (E := E_Reader_part d) (pc := 140) (cks_at k_Reader_part 69 rfl rfl) rfl ?_
        refine tq_V1 (E := E_Reader_part d) (pc := 142) (cks_at k_Reader_part 70 rfl rfl) mk_Scan_takeWord lk_Reader_77 rc_1 (Nat.le_of_ble_eq_true rfl) (c_Scan_takeWord (d + 0) 10 (by decide) M5) (k_I fun r8 M7 => ?_)
        refine tq_if_eq (E := E_Reader_part d) (pc := 145) (tgt := 171) (cks_at k_Reader_part 71 rfl rfl) (by decide) ?_ ?_
        · refine tq_aload_n 0 (E := E_Reader_part d) (pc := 171) (cks_at k_Reader_part 84 rfl rfl) rfl ?_
          refine tq_getR (j := 1) (E := E_Reader_part d) (pc := 172) (cks_at k_Reader_part 85 rfl rfl) fo_Reader_9 (isReader_ok hthis) rfl (sq_Reader_0 hthis) ?_
          refine tq_ldcS (j := 11) (s := 11) (E := E_Reader_part d) (pc := 175) (cks_at k_Reader_part 86 rfl rfl) rfl ?_
          refine tq_V1 (E := E_Reader_part d) (pc := 177) (cks_at k_Reader_part 87 rfl rfl) mk_Scan_takeWord lk_Reader_77 rc_1 (Nat.le_of_ble_eq_true rfl) (c_Scan_takeWord (d + 0) 11 (by decide) M7) (k_I fun r10 M9 => ?_)
          refine tq_if_eq (E := E_Reader_part d) (pc := 180) (tgt := 190) (cks_at k_Reader_part 88 rfl rfl) (by decide) ?_ ?_
          · refine tq_aload_n 0 (E := E_Reader_part d) (pc := 190) (cks_at k_Reader_part 93 rfl rfl) rfl ?_
            refine tq_getR (j := 1) (E := E_Reader_part d) (pc := 191) (cks_at k_Reader_part 94 rfl rfl) fo_Reader_9 (isReader_ok hthis) rfl (sq_Reader_0 hthis) ?_
            refine tq_ldcS (j := 12) (s := 12) (E := E_Reader_part d) (pc := 194) (cks_at k_Reader_part 95 rfl rfl) rfl ?_
            refine tq_V1 (E := E_Reader_part d) (pc := 196) (cks_at k_Reader_part 96 rfl rfl) mk_Scan_takeWord lk_Reader_77 rc_1 (Nat.le_of_ble_eq_true rfl) (c_Scan_takeWord (d + 0) 12 (by decide) M9) (k_I fun r12 M11 => ?_)
            refine tq_if_eq (E := E_Reader_part d) (pc := 199) (tgt := 209) (cks_at k_Reader_part 97 rfl rfl) (by decide) ?_ ?_
            · refine tq_aload_n 0 (E := E_Reader_part d) (pc := 209) (cks_at k_Reader_part 102 rfl rfl) rfl ?_
              refine tq_getI (E := E_Reader_part d) (pc := 210) (cks_at k_Reader_part 103 rfl rfl) fo_Reader_19 (isReader_ok hthis) rfl (by decide) ?_
              refine tq_if_eq (E := E_Reader_part d) (pc := 213) (tgt := 222) (cks_at k_Reader_part 104 rfl rfl) (by decide) ?_ ?_
              · refine tq_aload_n 0 (E := E_Reader_part d) (pc := 222) (cks_at k_Reader_part 109 rfl rfl) rfl ?_
                refine tq_getR (j := 1) (E := E_Reader_part d) (pc := 223) (cks_at k_Reader_part 110 rfl rfl) fo_Reader_9 (isReader_ok hthis) rfl (sq_Reader_0 hthis) ?_
                refine tq_ldcS (j := 15) (s := 15) (E := E_Reader_part d) (pc := 226) (cks_at k_Reader_part 111 rfl rfl) rfl ?_
                refine tq_V1 (E := E_Reader_part d) (pc := 228) (cks_at k_Reader_part 112 rfl rfl) mk_Scan_takeWord lk_Reader_77 rc_1 (Nat.le_of_ble_eq_true rfl) (c_Scan_takeWord (d + 0) 15 (by decide) M11) (k_I fun r14 M13 => ?_)
                refine tq_if_eq (E := E_Reader_part d) (pc := 231) (tgt := 240) (cks_at k_Reader_part 113 rfl rfl) (by decide) ?_ ?_
                · refine tq_aload_n 0 (E := E_Reader_part d) (pc := 240) (cks_at k_Reader_part 118 rfl rfl) rfl ?_
                  refine tq_getR (j := 1) (E := E_Reader_part d) (pc := 241) (cks_at k_Reader_part 119 rfl rfl) fo_Reader_9 (isReader_ok hthis) rfl (sq_Reader_0 hthis) ?_
                  refine tq_ldcS (j := 17) (s := 6) (E := E_Reader_part d) (pc := 244) (cks_at k_Reader_part 120 rfl rfl) rfl ?_
                  refine tq_V1 (E := E_Reader_part d) (pc := 246) (cks_at k_Reader_part 121 rfl rfl) mk_Scan_takeWord lk_Reader_77 rc_1 (Nat.le_of_ble_eq_true rfl) (c_Scan_takeWord (d + 0) 6 (by decide) M13) (k_I fun r16 M15 => ?_)
                  refine tq_if_eq (E := E_Reader_part d) (pc := 249) (tgt := 261) (cks_at k_Reader_part 122 rfl rfl) (by decide) ?_ ?_
                  · refine tq_aload_n 0 (E := E_Reader_part d) (pc := 261) (cks_at k_Reader_part 127 rfl rfl) rfl ?_
                    refine tq_getR (j := 1) (E := E_Reader_part d) (pc := 262) (cks_at k_Reader_part 128 rfl rfl) fo_Reader_9 (isReader_ok hthis) rfl (sq_Reader_0 hthis) ?_
                    refine tq_V0 (E := E_Reader_part d) (pc := 265) (cks_at k_Reader_part 129 rfl rfl) mk_Scan_unexpected lk_Reader_97 rc_1 (Nat.le_of_ble_eq_true rfl) (c_Scan_unexpected (d + 4) M15) (k_I fun r18 M17 => ?_)
                    exact tq_zret (E := E_Reader_part d) (pc := 268) (cks_at k_Reader_part 130 rfl rfl) rfl
                  · refine tq_aload_n 0 (E := E_Reader_part d) (pc := 252) (cks_at k_Reader_part 123 rfl rfl) rfl ?_
                    refine tq_bipush (E := E_Reader_part d) (pc := 253) (cks_at k_Reader_part 124 rfl rfl) (by decide) (by decide) ?_
                    refine tq_V1 (E := E_Reader_part d) (pc := 255) (cks_at k_Reader_part 125 rfl rfl) mk_Reader_took lk_Reader_63 (isReader_rc hthis) (Nat.le_of_ble_eq_true rfl) (c_Reader_took (d + 4) this hthis ((-2)) M15) (k_I fun r20 M19 => ?_)
                    refine tq_goto (tgt := 268) (E := E_Reader_part d) (pc := 258) (cks_at k_Reader_part 126 rfl rfl) (by decide) ?_
                    exact tq_zret (E := E_Reader_part d) (pc := 268) (cks_at k_Reader_part 130 rfl rfl) rfl
                · refine tq_aload_n 0 (E := E_Reader_part d) (pc := 234) (cks_at k_Reader_part 114 rfl rfl) rfl ?_
                  refine tq_iconst (E := E_Reader_part d) (pc := 235) (cks_at k_Reader_part 115 rfl rfl) ?_
                  refine tq_V1 (E := E_Reader_part d) (pc := 236) (cks_at k_Reader_part 116 rfl rfl) mk_Reader_took lk_Reader_63 (isReader_rc hthis) (Nat.le_of_ble_eq_true rfl) (c_Reader_took (d + 4) this hthis ((-1)) M13) (k_I fun r22 M21 => ?_)
                  exact tq_zret (E := E_Reader_part d) (pc := 239) (cks_at k_Reader_part 117 rfl rfl) rfl
              · refine tq_aload_n 0 (E := E_Reader_part d) (pc := 216) (cks_at k_Reader_part 105 rfl rfl) rfl ?_
                refine tq_iload_n 1 (E := E_Reader_part d) (pc := 217) (cks_at k_Reader_part 106 rfl rfl) rfl ?_
                refine tq_V1 (E := E_Reader_part d) (pc := 218) (cks_at k_Reader_part 107 rfl rfl) mk_Reader_askedPart lk_Reader_90 (isReader_rc hthis) (Nat.le_of_ble_eq_true rfl) (fun Q h => hF 4 this v1 M11 Q hthis h) (k_I fun r24 M23 => ?_)
                exact tq_zret (E := E_Reader_part d) (pc := 221) (cks_at k_Reader_part 108 rfl rfl) rfl
            · refine tq_aload_n 0 (E := E_Reader_part d) (pc := 202) (cks_at k_Reader_part 98 rfl rfl) rfl ?_
              refine tq_bipush (E := E_Reader_part d) (pc := 203) (cks_at k_Reader_part 99 rfl rfl) (by decide) (by decide) ?_
              refine tq_V1 (E := E_Reader_part d) (pc := 205) (cks_at k_Reader_part 100 rfl rfl) mk_Reader_took lk_Reader_63 (isReader_rc hthis) (Nat.le_of_ble_eq_true rfl) (c_Reader_took (d + 4) this hthis ((-4)) M11) (k_I fun r26 M25 => ?_)
              exact tq_zret (E := E_Reader_part d) (pc := 208) (cks_at k_Reader_part 101 rfl rfl) rfl
          · refine tq_aload_n 0 (E := E_Reader_part d) (pc := 183) (cks_at k_Reader_part 89 rfl rfl) rfl ?_
            refine tq_bipush (E := E_Reader_part d) (pc := 184) (cks_at k_Reader_part 90 rfl rfl) (by decide) (by decide) ?_
            refine tq_V1 (E := E_Reader_part d) (pc := 186) (cks_at k_Reader_part 91 rfl rfl) mk_Reader_took lk_Reader_63 (isReader_rc hthis) (Nat.le_of_ble_eq_true rfl) (c_Reader_took (d + 4) this hthis ((-3)) M9) (k_I fun r28 M27 => ?_)
            exact tq_zret (E := E_Reader_part d) (pc := 189) (cks_at k_Reader_part 92 rfl rfl) rfl
        · refine tq_aload_n 0 (E := E_Reader_part d) (pc := 148) (cks_at k_Reader_part 72 rfl rfl) rfl ?_
          refine tq_iload_n 1 (E := E_Reader_part d) (pc := 149) (cks_at k_Reader_part 73 rfl rfl) rfl ?_
          refine tq_V1 (E := E_Reader_part d) (pc := 150) (cks_at k_Reader_part 74 rfl rfl) mk_Reader_pair lk_Reader_81 (isReader_rc hthis) (Nat.le_of_ble_eq_true rfl) (fun Q h => hF 3 this v1 M7 Q hthis h) (k_I fun r30 M29 => ?_)
          refine tq_if_eq (E := E_Reader_part d) (pc := 153) (tgt := 169) (cks_at k_Reader_part 75 rfl rfl) (by decide) ?_ ?_
          · refine tq_iconst (E := E_Reader_part d) (pc := 169) (cks_at k_Reader_part 82 rfl rfl) ?_
            exact tq_zretC (E := E_Reader_part d) (pc := 170) (cks_at k_Reader_part 83 rfl rfl) rfl (by decide)
          · refine tq_aload_n 0 (E := E_Reader_part d) (pc := 156) (cks_at k_Reader_part 76 rfl rfl) rfl ?_
            refine tq_bipush (E := E_Reader_part d) (pc := 157) (cks_at k_Reader_part 77 rfl rfl) (by decide) (by decide) ?_
            refine tq_V1 (E := E_Reader_part d) (pc := 159) (cks_at k_Reader_part 78 rfl rfl) mk_Reader_took lk_Reader_63 (isReader_rc hthis) (Nat.le_of_ble_eq_true rfl) (c_Reader_took (d + 4) this hthis ((-15)) M29) (k_I fun r32 M31 => ?_)
            refine tq_if_eq (E := E_Reader_part d) (pc := 162) (tgt := 169) (cks_at k_Reader_part 79 rfl rfl) (by decide) ?_ ?_
            · refine tq_iconst (E := E_Reader_part d) (pc := 169) (cks_at k_Reader_part 82 rfl rfl) ?_
              exact tq_zretC (E := E_Reader_part d) (pc := 170) (cks_at k_Reader_part 83 rfl rfl) rfl (by decide)
            · refine tq_iconst (E := E_Reader_part d) (pc := 165) (cks_at k_Reader_part 80 rfl rfl) ?_
              refine tq_goto (tgt := 170) (E := E_Reader_part d) (pc := 166) (cks_at k_Reader_part 81 rfl rfl) (by decide) ?_
              exact tq_zretC (E := E_Reader_part d) (pc := 170) (cks_at k_Reader_part 83 rfl rfl) rfl (by decide)
      · refine tq_aload_n 0 (E := E_Reader_part d) (pc := 113) (cks_at k_Reader_part 55 rfl rfl) rfl ?_
        refine tq_iload_n 1 (E := E_Reader_part d) (pc := 114) (cks_at k_Reader_part 56 rfl rfl) rfl ?_
        refine tq_V1 (E := E_Reader_part d) (pc := 115) (cks_at k_Reader_part 57 rfl rfl) mk_Reader_pair lk_Reader_81 (isReader_rc hthis) (Nat.le_of_ble_eq_true rfl) (fun Q h => hF 3 this v1 M5 Q hthis h) (k_I fun r34 M33 => ?_)
        refine tq_if_eq (E := E_Reader_part d) (pc := 118) (tgt := 134) (cks_at k_Reader_part 58 rfl rfl) (by decide) ?_ ?_
        · refine tq_iconst (E := E_Reader_part d) (pc := 134) (cks_at k_Reader_part 65 rfl rfl) ?_
          exact tq_zretC (E := E_Reader_part d) (pc := 135) (cks_at k_Reader_part 66 rfl rfl) rfl (by decide)
        · refine tq_aload_n 0 (E := E_Reader_part d) (pc := 121) (cks_at k_Reader_part 59 rfl rfl) rfl ?_
          refine tq_bipush (E := E_Reader_part d) (pc := 122) (cks_at k_Reader_part 60 rfl rfl) (by decide) (by decide) ?_
          refine tq_V1 (E := E_Reader_part d) (pc := 124) (cks_at k_Reader_part 61 rfl rfl) mk_Reader_took lk_Reader_63 (isReader_rc hthis) (Nat.le_of_ble_eq_true rfl) (c_Reader_took (d + 4) this hthis ((-14)) M33) (k_I fun r36 M35 => ?_)
          refine tq_if_eq (E := E_Reader_part d) (pc := 127) (tgt := 134) (cks_at k_Reader_part 62 rfl rfl) (by decide) ?_ ?_
          · refine tq_iconst (E := E_Reader_part d) (pc := 134) (cks_at k_Reader_part 65 rfl rfl) ?_
            exact tq_zretC (E := E_Reader_part d) (pc := 135) (cks_at k_Reader_part 66 rfl rfl) rfl (by decide)
          · refine tq_iconst (E := E_Reader_part d) (pc := 130) (cks_at k_Reader_part 63 rfl rfl) ?_
            refine tq_goto (tgt := 135) (E := E_Reader_part d) (pc := 131) (cks_at k_Reader_part 64 rfl rfl) (by decide) ?_
            exact tq_zretC (E := E_Reader_part d) (pc := 135) (cks_at k_Reader_part 66 rfl rfl) rfl (by decide)
    · refine tq_aload_n 0 (E := E_Reader_part d) (pc := 53) (cks_at k_Reader_part 26 rfl rfl) rfl ?_
      refine tq_iload_n 1 (E := E_Reader_part d) (pc := 54) (cks_at k_Reader_part 27 rfl rfl) rfl ?_
      refine tq_V1 (E := E_Reader_part d) (pc := 55) (cks_at k_Reader_part 28 rfl rfl) mk_Reader_mayOpen lk_Reader_69 (isReader_rc hthis) (Nat.le_of_ble_eq_true rfl) (c_Reader_mayOpen (d + 4) this hthis v1 M3) (k_I fun r38 M37 => ?_)
      refine tq_if_eq (E := E_Reader_part d) (pc := 58) (tgt := 99) (cks_at k_Reader_part 29 rfl rfl) (by decide) ?_ ?_
      · refine tq_iconst (E := E_Reader_part d) (pc := 99) (cks_at k_Reader_part 48 rfl rfl) ?_
        exact tq_zretC (E := E_Reader_part d) (pc := 100) (cks_at k_Reader_part 49 rfl rfl) rfl (by decide)
      · refine tq_aload_n 0 (E := E_Reader_part d) (pc := 61) (cks_at k_Reader_part 30 rfl rfl) rfl ?_
        refine tq_getR (j := 1) (E := E_Reader_part d) (pc := 62) (cks_at k_Reader_part 31 rfl rfl) fo_Reader_9 (isReader_ok hthis) rfl (sq_Reader_0 hthis) ?_
        refine tq_bipush (E := E_Reader_part d) (pc := 65) (cks_at k_Reader_part 32 rfl rfl) (by decide) (by decide) ?_
        refine tq_V1 (E := E_Reader_part d) (pc := 67) (cks_at k_Reader_part 33 rfl rfl) mk_Scan_takeSign lk_Reader_49 rc_1 (Nat.le_of_ble_eq_true rfl) (c_Scan_takeSign (d + 4) 40 M37) (k_I fun r40 M39 => ?_)
        refine tq_if_eq (E := E_Reader_part d) (pc := 70) (tgt := 99) (cks_at k_Reader_part 34 rfl rfl) (by decide) ?_ ?_
        · refine tq_iconst (E := E_Reader_part d) (pc := 99) (cks_at k_Reader_part 48 rfl rfl) ?_
          exact tq_zretC (E := E_Reader_part d) (pc := 100) (cks_at k_Reader_part 49 rfl rfl) rfl (by decide)
        · refine tq_aload_n 0 (E := E_Reader_part d) (pc := 73) (cks_at k_Reader_part 35 rfl rfl) rfl ?_
          refine tq_iload_n 1 (E := E_Reader_part d) (pc := 74) (cks_at k_Reader_part 36 rfl rfl) rfl ?_
          refine tq_iconst (E := E_Reader_part d) (pc := 75) (cks_at k_Reader_part 37 rfl rfl) ?_
          refine tq_iadd (E := E_Reader_part d) (pc := 76) (cks_at k_Reader_part 38 rfl rfl) ?_
          refine tq_V1 (E := E_Reader_part d) (pc := 77) (cks_at k_Reader_part 39 rfl rfl) mk_Reader_sum lk_Reader_23 (isReader_rc hthis) (Nat.le_of_ble_eq_true rfl) (fun Q h => hF 0 this (v1 + 1) M39 Q hthis h) (k_I fun r42 M41 => ?_)
          refine tq_if_eq (E := E_Reader_part d) (pc := 80) (tgt := 99) (cks_at k_Reader_part 40 rfl rfl) (by decide) ?_ ?_
          · refine tq_iconst (E := E_Reader_part d) (pc := 99) (cks_at k_Reader_part 48 rfl rfl) ?_
            exact tq_zretC (E := E_Reader_part d) (pc := 100) (cks_at k_Reader_part 49 rfl rfl) rfl (by decide)
          · refine tq_aload_n 0 (E := E_Reader_part d) (pc := 83) (cks_at k_Reader_part 41 rfl rfl) rfl ?_
            refine tq_getR (j := 1) (E := E_Reader_part d) (pc := 84) (cks_at k_Reader_part 42 rfl rfl) fo_Reader_9 (isReader_ok hthis) rfl (sq_Reader_0 hthis) ?_
            refine tq_bipush (E := E_Reader_part d) (pc := 87) (cks_at k_Reader_part 43 rfl rfl) (by decide) (by decide) ?_
            refine tq_V1 (E := E_Reader_part d) (pc := 89) (cks_at k_Reader_part 44 rfl rfl) mk_Scan_needSign lk_Reader_72 rc_1 (Nat.le_of_ble_eq_true rfl) (c_Scan_needSign (d + 3) 41 M41) (k_I fun r44 M43 => ?_)
            refine tq_if_eq (E := E_Reader_part d) (pc := 92) (tgt := 99) (cks_at k_Reader_part 45 rfl rfl) (by decide) ?_ ?_
            · refine tq_iconst (E := E_Reader_part d) (pc := 99) (cks_at k_Reader_part 48 rfl rfl) ?_
              exact tq_zretC (E := E_Reader_part d) (pc := 100) (cks_at k_Reader_part 49 rfl rfl) rfl (by decide)
            · refine tq_iconst (E := E_Reader_part d) (pc := 95) (cks_at k_Reader_part 46 rfl rfl) ?_
              refine tq_goto (tgt := 100) (E := E_Reader_part d) (pc := 96) (cks_at k_Reader_part 47 rfl rfl) (by decide) ?_
              exact tq_zretC (E := E_Reader_part d) (pc := 100) (cks_at k_Reader_part 49 rfl rfl) rfl (by decide)
  · refine tq_aload_n 0 (E := E_Reader_part d) (pc := 10) (cks_at k_Reader_part 4 rfl rfl) rfl ?_
    refine tq_getR (j := 1) (E := E_Reader_part d) (pc := 11) (cks_at k_Reader_part 5 rfl rfl) fo_Reader_9 (isReader_ok hthis) rfl (sq_Reader_0 hthis) ?_
    refine tq_iconst (E := E_Reader_part d) (pc := 14) (cks_at k_Reader_part 6 rfl rfl) ?_
    refine tq_sipush (E := E_Reader_part d) (pc := 15) (cks_at k_Reader_part 7 rfl rfl) (by decide) (by decide) ?_
    refine tq_V2 (E := E_Reader_part d) (pc := 18) (cks_at k_Reader_part 8 rfl rfl) mk_Scan_number lk_Reader_59 rc_1 (Nat.le_of_ble_eq_true rfl) (c_Scan_number (d + 3) 0 9999 M1) (k_I fun r46 M45 => ?_)
    refine tq_istore_n (E := E_Reader_part d) (pc := 21) (cks_at k_Reader_part 9 rfl rfl) (show 2 < 3 by decide) rfl ?_
    refine tq_iload_n 0 (E := E_Reader_part d) (pc := 22) (cks_at k_Reader_part 10 rfl rfl) rfl ?_
    refine tq_iconst (E := E_Reader_part d) (pc := 23) (cks_at k_Reader_part 11 rfl rfl) ?_
    refine tq_icmp_eq (E := E_Reader_part d) (pc := 24) (tgt := 39) (cks_at k_Reader_part 12 rfl rfl) (by decide) ?_ ?_
    · refine tq_iconst (E := E_Reader_part d) (pc := 39) (cks_at k_Reader_part 19 rfl rfl) ?_
      exact tq_zretC (E := E_Reader_part d) (pc := 40) (cks_at k_Reader_part 20 rfl rfl) rfl (by decide)
    · refine tq_aload_n 1 (E := E_Reader_part d) (pc := 27) (cks_at k_Reader_part 13 rfl rfl) rfl ?_
      refine tq_iload_n 0 (E := E_Reader_part d) (pc := 28) (cks_at k_Reader_part 14 rfl rfl) rfl ?_
      refine tq_V1 (E := E_Reader_part d) (pc := 29) (cks_at k_Reader_part 15 rfl rfl) mk_Reader_took lk_Reader_63 (isReader_rc hthis) (Nat.le_of_ble_eq_true rfl) (c_Reader_took (d + 4) this hthis r46 M45) (k_I fun r48 M47 => ?_)
      refine tq_if_eq (E := E_Reader_part d) (pc := 32) (tgt := 39) (cks_at k_Reader_part 16 rfl rfl) (by decide) ?_ ?_
      · refine tq_iconst (E := E_Reader_part d) (pc := 39) (cks_at k_Reader_part 19 rfl rfl) ?_
        exact tq_zretC (E := E_Reader_part d) (pc := 40) (cks_at k_Reader_part 20 rfl rfl) rfl (by decide)
      · refine tq_iconst (E := E_Reader_part d) (pc := 35) (cks_at k_Reader_part 17 rfl rfl) ?_
        refine tq_goto (tgt := 40) (E := E_Reader_part d) (pc := 36) (cks_at k_Reader_part 18 rfl rfl) (by decide) ?_
        exact tq_zretC (E := E_Reader_part d) (pc := 40) (cks_at k_Reader_part 20 rfl rfl) rfl (by decide)
abbrev E_Reader_pair (d : Nat) : Ev := (Ct (d + 6), "BreathTown$Reader", prog_6_method_9_code, 2, False, 0, (fun _ => 0), (Option.some Jvm.ClassFile.FieldType.boolean))
def f_Reader_pair (F : Nat → Nat → Int → Mm → Option (Int × Mm)) (this : Nat) (v1 : Int) (M : Mm) : Option (Int × Mm) :=
  bI (f_Scan_atSign 40 M) (fun r2 M1 =>
  if ¬ i32 r2 = 0 then
    bI (f_Reader_mayOpen this v1 M1) (fun r4 M3 =>
    if i32 r4 = 0 then
      some (0, M3)
    else
      bI (f_Scan_takeSign 40 M3) (fun r6 M5 =>
      if i32 r6 = 0 then
        some (0, M5)
      else
        bI (F 0 this (v1 + 1) M5) (fun r8 M7 =>
        if i32 r8 = 0 then
          some (0, M7)
        else
          bI (f_Scan_needSign 44 M7) (fun r10 M9 =>
          if i32 r10 = 0 then
            some (0, M9)
          else
            bI (F 0 this (v1 + 1) M9) (fun r12 M11 =>
            if i32 r12 = 0 then
              some (0, M11)
            else
              bI (f_Scan_needSign 41 M11) (fun r14 M13 =>
              if i32 r14 = 0 then
                some (0, M13)
              else
                some (1, M13)))))))
  else
    bI (f_Scan_unexpected M1) (fun r16 M15 =>
    gd (i32 r16 = 0 ∨ i32 r16 = 1) (some (r16, M15))))
set_option maxRecDepth 20000 in
set_option maxHeartbeats 4000000 in
theorem w_Reader_pair (d : Nat) (F : Nat → Nat → Int → Mm → Option (Int × Mm)) (hF : ∀ w this o M Q, isReader this → sat injI (F w this o M) Q → Ct (d + 6) (yG w) [.ref this, vI o] M Q) (this : Nat) (hthis : isReader this) (v1 : Int) (M : Mm) : T (E_Reader_pair d) injI 0 [(0, .ref this), (1, vI v1)] [] M (f_Reader_pair F this v1 M) := by
  unfold f_Reader_pair
  refine tq_aload_n 0 (E := E_Reader_pair d) (pc := 0) (cks_at k_Reader_pair 0 rfl rfl) rfl ?_
  refine tq_getR (j := 1) (E := E_Reader_pair d) (pc := 1) (cks_at k_Reader_pair 1 rfl rfl) fo_Reader_9 (isReader_ok hthis) rfl (sq_Reader_0 hthis) ?_
  refine tq_bipush (E := E_Reader_pair d) (pc := 4) (cks_at k_Reader_pair 2 rfl rfl) (by decide) (by decide) ?_
  refine tq_V1 (E := E_Reader_pair d) (pc := 6) (cks_at k_Reader_pair 3 rfl rfl) mk_Scan_atSign lk_Reader_66 rc_1 (Nat.le_of_ble_eq_true rfl) (c_Scan_atSign (d + 4) 40 M) (k_I fun r2 M1 => ?_)
  refine tq_if_ne (E := E_Reader_pair d) (pc := 9) (tgt := 20) (cks_at k_Reader_pair 4 rfl rfl) (by decide) ?_ ?_
  · refine tq_aload_n 0 (E := E_Reader_pair d) (pc := 20) (cks_at k_Reader_pair 9 rfl rfl) rfl ?_
    refine tq_iload_n 1 (E := E_Reader_pair d) (pc := 21) (cks_at k_Reader_pair 10 rfl rfl) rfl ?_
    refine tq_V1 (E := E_Reader_pair d) (pc := 22) (cks_at k_Reader_pair 11 rfl rfl) mk_Reader_mayOpen lk_Reader_69 (isReader_rc hthis) (Nat.le_of_ble_eq_true rfl) (c_Reader_mayOpen (d + 4) this hthis v1 M1) (k_I fun r4 M3 => ?_)
    refine tq_if_eq (E := E_Reader_pair d) (pc := 25) (tgt := 88) (cks_at k_Reader_pair 12 rfl rfl) (by decide) ?_ ?_
    · refine tq_iconst (E := E_Reader_pair d) (pc := 88) (cks_at k_Reader_pair 42 rfl rfl) ?_
      exact tq_zretC (E := E_Reader_pair d) (pc := 89) (cks_at k_Reader_pair 43 rfl rfl) rfl (by decide)
    · refine tq_aload_n 0 (E := E_Reader_pair d) (pc := 28) (cks_at k_Reader_pair 13 rfl rfl) rfl ?_
      refine tq_getR (j := 1) (E := E_Reader_pair d) (pc := 29) (cks_at k_Reader_pair 14 rfl rfl) fo_Reader_9 (isReader_ok hthis) rfl (sq_Reader_0 hthis) ?_
      refine tq_bipush (E := E_Reader_pair d) (pc := 32) (cks_at k_Reader_pair 15 rfl rfl) (by decide) (by decide) ?_
      refine tq_V1 (E := E_Reader_pair d) (pc := 34) (cks_at k_Reader_pair 16 rfl rfl) mk_Scan_takeSign lk_Reader_49 rc_1 (Nat.le_of_ble_eq_true rfl) (c_Scan_takeSign (d + 4) 40 M3) (k_I fun r6 M5 => ?_)
      refine tq_if_eq (E := E_Reader_pair d) (pc := 37) (tgt := 88) (cks_at k_Reader_pair 17 rfl rfl) (by decide) ?_ ?_
      · refine tq_iconst (E := E_Reader_pair d) (pc := 88) (cks_at k_Reader_pair 42 rfl rfl) ?_
        exact tq_zretC (E := E_Reader_pair d) (pc := 89) (cks_at k_Reader_pair 43 rfl rfl) rfl (by decide)
      · refine tq_aload_n 0 (E := E_Reader_pair d) (pc := 40) (cks_at k_Reader_pair 18 rfl rfl) rfl ?_
        refine tq_iload_n 1 (E := E_Reader_pair d) (pc := 41) (cks_at k_Reader_pair 19 rfl rfl) rfl ?_
        refine tq_iconst (E := E_Reader_pair d) (pc := 42) (cks_at k_Reader_pair 20 rfl rfl) ?_
        refine tq_iadd (E := E_Reader_pair d) (pc := 43) (cks_at k_Reader_pair 21 rfl rfl) ?_
        refine tq_V1 (E := E_Reader_pair d) (pc := 44) (cks_at k_Reader_pair 22 rfl rfl) mk_Reader_sum lk_Reader_23 (isReader_rc hthis) (Nat.le_of_ble_eq_true rfl) (fun Q h => hF 0 this (v1 + 1) M5 Q hthis h) (k_I fun r8 M7 => ?_)
        refine tq_if_eq (E := E_Reader_pair d) (pc := 47) (tgt := 88) (cks_at k_Reader_pair 23 rfl rfl) (by decide) ?_ ?_
        · refine tq_iconst (E := E_Reader_pair d) (pc := 88) (cks_at k_Reader_pair 42 rfl rfl) ?_
          exact tq_zretC (E := E_Reader_pair d) (pc := 89) (cks_at k_Reader_pair 43 rfl rfl) rfl (by decide)
        · refine tq_aload_n 0 (E := E_Reader_pair d) (pc := 50) (cks_at k_Reader_pair 24 rfl rfl) rfl ?_
          refine tq_getR (j := 1) (E := E_Reader_pair d) (pc := 51) (cks_at k_Reader_pair 25 rfl rfl) fo_Reader_9 (isReader_ok hthis) rfl (sq_Reader_0 hthis) ?_
          refine tq_bipush (E := E_Reader_pair d) (pc := 54) (cks_at k_Reader_pair 26 rfl rfl) (by decide) (by decide) ?_
          refine tq_V1 (E := E_Reader_pair d) (pc := 56) (cks_at k_Reader_pair 27 rfl rfl) mk_Scan_needSign lk_Reader_72 rc_1 (Nat.le_of_ble_eq_true rfl) (c_Scan_needSign (d + 3) 44 M7) (k_I fun r10 M9 => ?_)
          refine tq_if_eq (E := E_Reader_pair d) (pc := 59) (tgt := 88) (cks_at k_Reader_pair 28 rfl rfl) (by decide) ?_ ?_
          · refine tq_iconst (E := E_Reader_pair d) (pc := 88) (cks_at k_Reader_pair 42 rfl rfl) ?_
            exact tq_zretC (E := E_Reader_pair d) (pc := 89) (cks_at k_Reader_pair 43 rfl rfl) rfl (by decide)
          · refine tq_aload_n 0 (E := E_Reader_pair d) (pc := 62) (cks_at k_Reader_pair 29 rfl rfl) rfl ?_
            refine tq_iload_n 1 (E := E_Reader_pair d) (pc := 63) (cks_at k_Reader_pair 30 rfl rfl) rfl ?_
            refine tq_iconst (E := E_Reader_pair d) (pc := 64) (cks_at k_Reader_pair 31 rfl rfl) ?_
            refine tq_iadd (E := E_Reader_pair d) (pc := 65) (cks_at k_Reader_pair 32 rfl rfl) ?_
            refine tq_V1 (E := E_Reader_pair d) (pc := 66) (cks_at k_Reader_pair 33 rfl rfl) mk_Reader_sum lk_Reader_23 (isReader_rc hthis) (Nat.le_of_ble_eq_true rfl) (fun Q h => hF 0 this (v1 + 1) M9 Q hthis h) (k_I fun r12 M11 => ?_)
            refine tq_if_eq (E := E_Reader_pair d) (pc := 69) (tgt := 88) (cks_at k_Reader_pair 34 rfl rfl) (by decide) ?_ ?_
            · refine tq_iconst (E := E_Reader_pair d) (pc := 88) (cks_at k_Reader_pair 42 rfl rfl) ?_
              exact tq_zretC (E := E_Reader_pair d) (pc := 89) (cks_at k_Reader_pair 43 rfl rfl) rfl (by decide)
            · refine tq_aload_n 0 (E := E_Reader_pair d) (pc := 72) (cks_at k_Reader_pair 35 rfl rfl) rfl ?_
              refine tq_getR (j := 1) (E := E_Reader_pair d) (pc := 73) (cks_at k_Reader_pair 36 rfl rfl) fo_Reader_9 (isReader_ok hthis) rfl (sq_Reader_0 hthis) ?_
              refine tq_bipush (E := E_Reader_pair d) (pc := 76) (cks_at k_Reader_pair 37 rfl rfl) (by decide) (by decide) ?_
              refine tq_V1 (E := E_Reader_pair d) (pc := 78) (cks_at k_Reader_pair 38 rfl rfl) mk_Scan_needSign lk_Reader_72 rc_1 (Nat.le_of_ble_eq_true rfl) (c_Scan_needSign (d + 3) 41 M11) (k_I fun r14 M13 => ?_)
              refine tq_if_eq (E := E_Reader_pair d) (pc := 81) (tgt := 88) (cks_at k_Reader_pair 39 rfl rfl) (by decide) ?_ ?_
              · refine tq_iconst (E := E_Reader_pair d) (pc := 88) (cks_at k_Reader_pair 42 rfl rfl) ?_
                exact tq_zretC (E := E_Reader_pair d) (pc := 89) (cks_at k_Reader_pair 43 rfl rfl) rfl (by decide)
              · refine tq_iconst (E := E_Reader_pair d) (pc := 84) (cks_at k_Reader_pair 40 rfl rfl) ?_
                refine tq_goto (tgt := 89) (E := E_Reader_pair d) (pc := 85) (cks_at k_Reader_pair 41 rfl rfl) (by decide) ?_
                exact tq_zretC (E := E_Reader_pair d) (pc := 89) (cks_at k_Reader_pair 43 rfl rfl) rfl (by decide)
  · refine tq_aload_n 0 (E := E_Reader_pair d) (pc := 12) (cks_at k_Reader_pair 5 rfl rfl) rfl ?_
    refine tq_getR (j := 1) (E := E_Reader_pair d) (pc := 13) (cks_at k_Reader_pair 6 rfl rfl) fo_Reader_9 (isReader_ok hthis) rfl (sq_Reader_0 hthis) ?_
    refine tq_V0 (E := E_Reader_pair d) (pc := 16) (cks_at k_Reader_pair 7 rfl rfl) mk_Scan_unexpected lk_Reader_97 rc_1 (Nat.le_of_ble_eq_true rfl) (c_Scan_unexpected (d + 4) M1) (k_I fun r16 M15 => ?_)
    exact tq_zret (E := E_Reader_pair d) (pc := 19) (cks_at k_Reader_pair 8 rfl rfl) rfl
abbrev E_Reader_askedPart (d : Nat) : Ev := (Ct (d + 6), "BreathTown$Reader", prog_6_method_10_code, 2, False, 0, (fun _ => 0), (Option.some Jvm.ClassFile.FieldType.boolean))
def f_Reader_askedPart (F : Nat → Nat → Int → Mm → Option (Int × Mm)) (this : Nat) (v1 : Int) (M : Mm) : Option (Int × Mm) :=
  bI (f_Scan_takeWord 13 M) (fun r2 M1 =>
  if i32 r2 = 0 then
    bI (f_Scan_atWord 14 M1) (fun r4 M3 =>
    if i32 r4 = 0 then
      bI (f_Scan_atWord 15 M3) (fun r6 M5 =>
      if i32 r6 = 0 then
        bI (f_Scan_atWord 16 M5) (fun r8 M7 =>
        if i32 r8 = 0 then
          bI (f_Scan_unexpected M7) (fun r10 M9 =>
          gd (i32 r10 = 0 ∨ i32 r10 = 1) (some (r10, M9)))
        else
          bI (f_Reader_mayOpen this v1 M7) (fun r12 M11 =>
          if i32 r12 = 0 then
            some (0, M11)
          else
            bI (f_Scan_takeWord 16 M11) (fun r14 M13 =>
            if i32 r14 = 0 then
              some (0, M13)
            else
              bI (F 2 this (v1 + 1) M13) (fun r16 M15 =>
              if i32 r16 = 0 then
                some (0, M15)
              else
                bI (f_Reader_took this ((-8)) M15) (fun r18 M17 =>
                if i32 r18 = 0 then
                  some (0, M17)
                else
                  some (1, M17))))))
      else
        bI (f_Reader_mayOpen this v1 M5) (fun r20 M19 =>
        if i32 r20 = 0 then
          some (0, M19)
        else
          bI (f_Scan_takeWord 15 M19) (fun r22 M21 =>
          if i32 r22 = 0 then
            some (0, M21)
          else
            bI (F 2 this (v1 + 1) M21) (fun r24 M23 =>
            if i32 r24 = 0 then
              some (0, M23)
            else
              bI (f_Reader_took this ((-7)) M23) (fun r26 M25 =>
              if i32 r26 = 0 then
                some (0, M25)
              else
                some (1, M25))))))
    else
      bI (f_Reader_mayOpen this v1 M3) (fun r28 M27 =>
      if i32 r28 = 0 then
        some (0, M27)
      else
        bI (f_Scan_takeWord 14 M27) (fun r30 M29 =>
        if i32 r30 = 0 then
          some (0, M29)
        else
          bI (F 2 this (v1 + 1) M29) (fun r32 M31 =>
          if i32 r32 = 0 then
            some (0, M31)
          else
            bI (f_Reader_took this ((-6)) M31) (fun r34 M33 =>
            if i32 r34 = 0 then
              some (0, M33)
            else
              some (1, M33))))))
  else
    bI (f_Reader_took this ((-5)) M1) (fun r36 M35 =>
    gd (i32 r36 = 0 ∨ i32 r36 = 1) (some (r36, M35))))
set_option maxRecDepth 20000 in
set_option maxHeartbeats 4000000 in
theorem w_Reader_askedPart (d : Nat) (F : Nat → Nat → Int → Mm → Option (Int × Mm)) (hF : ∀ w this o M Q, isReader this → sat injI (F w this o M) Q → Ct (d + 6) (yG w) [.ref this, vI o] M Q) (this : Nat) (hthis : isReader this) (v1 : Int) (M : Mm) : T (E_Reader_askedPart d) injI 0 [(0, .ref this), (1, vI v1)] [] M (f_Reader_askedPart F this v1 M) := by
  unfold f_Reader_askedPart
  refine tq_aload_n 0 (E := E_Reader_askedPart d) (pc := 0) (cks_at k_Reader_askedPart 0 rfl rfl) rfl ?_
  refine tq_getR (j := 1) (E := E_Reader_askedPart d) (pc := 1) (cks_at k_Reader_askedPart 1 rfl rfl) fo_Reader_9 (isReader_ok hthis) rfl (sq_Reader_0 hthis) ?_
  refine tq_ldcS (j := 13) (s := 13) (E := E_Reader_askedPart d) (pc := 4) (cks_at k_Reader_askedPart 2 rfl rfl) rfl ?_
  refine tq_V1 (E := E_Reader_askedPart d) (pc := 6) (cks_at k_Reader_askedPart 3 rfl rfl) mk_Scan_takeWord lk_Reader_77 rc_1 (Nat.le_of_ble_eq_true rfl) (c_Scan_takeWord (d + 0) 13 (by decide) M) (k_I fun r2 M1 => ?_)
  refine tq_if_eq (E := E_Reader_askedPart d) (pc := 9) (tgt := 19) (cks_at k_Reader_askedPart 4 rfl rfl) (by decide) ?_ ?_
  · refine tq_aload_n 0 (E := E_Reader_askedPart d) (pc := 19) (cks_at k_Reader_askedPart 9 rfl rfl) rfl ?_
    refine tq_getR (j := 1) (E := E_Reader_askedPart d) (pc := 20) (cks_at k_Reader_askedPart 10 rfl rfl) fo_Reader_9 (isReader_ok hthis) rfl (sq_Reader_0 hthis) ?_
    refine tq_ldcS (j := 14) (s := 14) (E := E_Reader_askedPart d) (pc := 23) (cks_at k_Reader_askedPart 11 rfl rfl) rfl ?_
    refine tq_V1 (E := E_Reader_askedPart d) (pc := 25) (cks_at k_Reader_askedPart 12 rfl rfl) mk_Scan_atWord lk_Reader_104 rc_1 (Nat.le_of_ble_eq_true rfl) (c_Scan_atWord (d + 1) 14 (by decide) M1) (k_I fun r4 M3 => ?_)
    refine tq_if_eq (E := E_Reader_askedPart d) (pc := 28) (tgt := 76) (cks_at k_Reader_askedPart 13 rfl rfl) (by decide) ?_ ?_
    · refine tq_aload_n 0 (E := E_Reader_askedPart d) (pc := 76) (cks_at k_Reader_askedPart 37 rfl rfl) rfl ?_
      refine tq_getR (j := 1) (E := E_Reader_askedPart d) (pc := 77) (cks_at k_Reader_askedPart 38 rfl rfl) fo_Reader_9 (isReader_ok hthis) rfl (sq_Reader_0 hthis) ?_
      refine tq_ldcS (j := 15) (s := 15) (E := E_Reader_askedPart d) (pc := 80) (cks_at k_Reader_askedPart 39 rfl rfl) rfl ?_
      refine tq_V1 (E := E_Reader_askedPart d) (pc := 82) (cks_at k_Reader_askedPart 40 rfl rfl) mk_Scan_atWord lk_Reader_104 rc_1 (Nat.le_of_ble_eq_true rfl) (c_Scan_atWord (d + 1) 15 (by decide) M3) (k_I fun r6 M5 => ?_)
      refine tq_if_eq (E := E_Reader_askedPart d) (pc := 85) (tgt := 133) (cks_at k_Reader_askedPart 41 rfl rfl) (by decide) ?_ ?_
      · refine tq_aload_n 0 (E := E_Reader_askedPart d) (pc := 133) (cks_at k_Reader_askedPart 65 rfl rfl) rfl ?_
        refine tq_getR (j := 1) (E := E_Reader_askedPart d) (pc := 134) (cks_at k_Reader_askedPart 66 rfl rfl) fo_Reader_9 (isReader_ok hthis) rfl (sq_Reader_0 hthis) ?_
        refine tq_ldcS (j := 16) (s := 16) (E := E_Reader_askedPart d) (pc := 137) (cks_at k_Reader_askedPart 67 rfl rfl) rfl ?_
        refine tq_V1 (E := E_Reader_askedPart d) (pc := 139) (cks_at k_Reader_askedPart 68 rfl rfl) mk_Scan_atWord lk_Reader_104 rc_1 (Nat.le_of_ble_eq_true rfl) (c_Scan_atWord (d + 1) 16 (by decide) M5) (k_I fun r8 M7 => ?_)
        refine tq_if_eq (E := E_Reader_askedPart d) (pc := 142) (tgt := 190) (cks_at k_Reader_askedPart 69 rfl rfl) (by decide) ?_ ?_
        · refine tq_aload_n 0 (E := E_Reader_askedPart d) (pc := 190) (cks_at k_Reader_askedPart 93 rfl rfl) rfl ?_
          refine tq_getR (j := 1) (E := E_Reader_askedPart d) (pc := 191) (cks_at k_Reader_askedPart 94 rfl rfl) fo_Reader_9 (isReader_ok hthis) rfl (sq_Reader_0 hthis) ?_
          refine tq_V0 (E := E_Reader_askedPart d) (pc := 194) (cks_at k_Reader_askedPart 95 rfl rfl) mk_Scan_unexpected lk_Reader_97 rc_1 (Nat.le_of_ble_eq_true rfl) (c_Scan_unexpected (d + 4) M7) (k_I fun r10 M9 => ?_)
          exact tq_zret (E := E_Reader_askedPart d) (pc := 197) (cks_at k_Reader_askedPart 96 rfl rfl) rfl
        · refine tq_aload_n 0 (E := E_Reader_askedPart d) (pc := 145) (cks_at k_Reader_askedPart 70 rfl rfl) rfl ?_
          refine tq_iload_n 1 (E := E_Reader_askedPart d) (pc := 146) (cks_at k_Reader_askedPart 71 rfl rfl) rfl ?_
          refine tq_V1 (E := E_Reader_askedPart d) (pc := 147) (cks_at k_Reader_askedPart 72 rfl rfl) mk_Reader_mayOpen lk_Reader_69 (isReader_rc hthis) (Nat.le_of_ble_eq_true rfl) (c_Reader_mayOpen (d + 4) this hthis v1 M7) (k_I fun r12 M11 => ?_)
          refine tq_if_eq (E := E_Reader_askedPart d) (pc := 150) (tgt := 188) (cks_at k_Reader_askedPart 73 rfl rfl) (by decide) ?_ ?_
          · refine tq_iconst (E := E_Reader_askedPart d) (pc := 188) (cks_at k_Reader_askedPart 91 rfl rfl) ?_
            exact tq_zretC (E := E_Reader_askedPart d) (pc := 189) (cks_at k_Reader_askedPart 92 rfl rfl) rfl (by decide)
          · refine tq_aload_n 0 (E := E_Reader_askedPart d) (pc := 153) (cks_at k_Reader_askedPart 74 rfl rfl) rfl ?_
            refine tq_getR (j := 1) (E := E_Reader_askedPart d) (pc := 154) (cks_at k_Reader_askedPart 75 rfl rfl) fo_Reader_9 (isReader_ok hthis) rfl (sq_Reader_0 hthis) ?_
            refine tq_ldcS (j := 16) (s := 16) (E := E_Reader_askedPart d) (pc := 157) (cks_at k_Reader_askedPart 76 rfl rfl) rfl ?_
            refine tq_V1 (E := E_Reader_askedPart d) (pc := 159) (cks_at k_Reader_askedPart 77 rfl rfl) mk_Scan_takeWord lk_Reader_77 rc_1 (Nat.le_of_ble_eq_true rfl) (c_Scan_takeWord (d + 0) 16 (by decide) M11) (k_I fun r14 M13 => ?_)
            refine tq_if_eq (E := E_Reader_askedPart d) (pc := 162) (tgt := 188) (cks_at k_Reader_askedPart 78 rfl rfl) (by decide) ?_ ?_
            · refine tq_iconst (E := E_Reader_askedPart d) (pc := 188) (cks_at k_Reader_askedPart 91 rfl rfl) ?_
              exact tq_zretC (E := E_Reader_askedPart d) (pc := 189) (cks_at k_Reader_askedPart 92 rfl rfl) rfl (by decide)
            · refine tq_aload_n 0 (E := E_Reader_askedPart d) (pc := 165) (cks_at k_Reader_askedPart 79 rfl rfl) rfl ?_
              refine tq_iload_n 1 (E := E_Reader_askedPart d) (pc := 166) (cks_at k_Reader_askedPart 80 rfl rfl) rfl ?_
              refine tq_iconst (E := E_Reader_askedPart d) (pc := 167) (cks_at k_Reader_askedPart 81 rfl rfl) ?_
              refine tq_iadd (E := E_Reader_askedPart d) (pc := 168) (cks_at k_Reader_askedPart 82 rfl rfl) ?_
              refine tq_V1 (E := E_Reader_askedPart d) (pc := 169) (cks_at k_Reader_askedPart 83 rfl rfl) mk_Reader_part lk_Reader_52 (isReader_rc hthis) (Nat.le_of_ble_eq_true rfl) (fun Q h => hF 2 this (v1 + 1) M13 Q hthis h) (k_I fun r16 M15 => ?_)
              refine tq_if_eq (E := E_Reader_askedPart d) (pc := 172) (tgt := 188) (cks_at k_Reader_askedPart 84 rfl rfl) (by decide) ?_ ?_
              · refine tq_iconst (E := E_Reader_askedPart d) (pc := 188) (cks_at k_Reader_askedPart 91 rfl rfl) ?_
                exact tq_zretC (E := E_Reader_askedPart d) (pc := 189) (cks_at k_Reader_askedPart 92 rfl rfl) rfl (by decide)
              · refine tq_aload_n 0 (E := E_Reader_askedPart d) (pc := 175) (cks_at k_Reader_askedPart 85 rfl rfl) rfl ?_
                refine tq_bipush (E := E_Reader_askedPart d) (pc := 176) (cks_at k_Reader_askedPart 86 rfl rfl) (by decide) (by decide) ?_
                refine tq_V1 (E := E_Reader_askedPart d) (pc := 178) (cks_at k_Reader_askedPart 87 rfl rfl) mk_Reader_took lk_Reader_63 (isReader_rc hthis) (Nat.le_of_ble_eq_true rfl) (c_Reader_took (d + 4) this hthis ((-8)) M15) (k_I fun r18 M17 => ?_)
                refine tq_if_eq (E := E_Reader_askedPart d) (pc := 181) (tgt := 188) (cks_at k_Reader_askedPart 88 rfl rfl) (by decide) ?_ ?_
                · refine tq_iconst (E := E_Reader_askedPart d) (pc := 188) (cks_at k_Reader_askedPart 91 rfl rfl) ?_
                  exact tq_zretC (E := E_Reader_askedPart d) (pc := 189) (cks_at k_Reader_askedPart 92 rfl rfl) rfl (by decide)
                · refine tq_iconst (E := E_Reader_askedPart d) (pc := 184) (cks_at k_Reader_askedPart 89 rfl rfl) ?_
                  refine tq_goto (tgt := 189) (E := E_Reader_askedPart d) (pc := 185) (cks_at k_Reader_askedPart 90 rfl rfl) (by decide) ?_
                  exact tq_zretC (E := E_Reader_askedPart d) (pc := 189) (cks_at k_Reader_askedPart 92 rfl rfl) rfl (by decide)
      · refine tq_aload_n 0 (E := E_Reader_askedPart d) (pc := 88) (cks_at k_Reader_askedPart 42 rfl rfl) rfl ?_
        refine tq_iload_n 1 (E := E_Reader_askedPart d) (pc := 89) (cks_at k_Reader_askedPart 43 rfl rfl) rfl ?_
        refine tq_V1 (E := E_Reader_askedPart d) (pc := 90) (cks_at k_Reader_askedPart 44 rfl rfl) mk_Reader_mayOpen lk_Reader_69 (isReader_rc hthis) (Nat.le_of_ble_eq_true rfl) (c_Reader_mayOpen (d + 4) this hthis v1 M5) (k_I fun r20 M19 => ?_)
        refine tq_if_eq (E := E_Reader_askedPart d) (pc := 93) (tgt := 131) (cks_at k_Reader_askedPart 45 rfl rfl) (by decide) ?_ ?_
        · refine tq_iconst (E := E_Reader_askedPart d) (pc := 131) (cks_at k_Reader_askedPart 63 rfl rfl) ?_
          exact tq_zretC (E := E_Reader_askedPart d) (pc := 132) (cks_at k_Reader_askedPart 64 rfl rfl) rfl (by decide)
        · refine tq_aload_n 0 (E := E_Reader_askedPart d) (pc := 96) (cks_at k_Reader_askedPart 46 rfl rfl) rfl ?_
          refine tq_getR (j := 1) (E := E_Reader_askedPart d) (pc := 97) (cks_at k_Reader_askedPart 47 rfl rfl) fo_Reader_9 (isReader_ok hthis) rfl (sq_Reader_0 hthis) ?_
          refine tq_ldcS (j := 15) (s := 15) (E := E_Reader_askedPart d) (pc := 100) (cks_at k_Reader_askedPart 48 rfl rfl) rfl ?_
          refine tq_V1 (E := E_Reader_askedPart d) (pc := 102) (cks_at k_Reader_askedPart 49 rfl rfl) mk_Scan_takeWord lk_Reader_77 rc_1 (Nat.le_of_ble_eq_true rfl) (c_Scan_takeWord (d + 0) 15 (by decide) M19) (k_I fun r22 M21 => ?_)
          refine tq_if_eq (E := E_Reader_askedPart d) (pc := 105) (tgt := 131) (cks_at k_Reader_askedPart 50 rfl rfl) (by decide) ?_ ?_
          · refine tq_iconst (E := E_Reader_askedPart d) (pc := 131) (cks_at k_Reader_askedPart 63 rfl rfl) ?_
            exact tq_zretC (E := E_Reader_askedPart d) (pc := 132) (cks_at k_Reader_askedPart 64 rfl rfl) rfl (by decide)
          · refine tq_aload_n 0 (E := E_Reader_askedPart d) (pc := 108) (cks_at k_Reader_askedPart 51 rfl rfl) rfl ?_
            refine tq_iload_n 1 (E := E_Reader_askedPart d) (pc := 109) (cks_at k_Reader_askedPart 52 rfl rfl) rfl ?_
            refine tq_iconst (E := E_Reader_askedPart d) (pc := 110) (cks_at k_Reader_askedPart 53 rfl rfl) ?_
            refine tq_iadd (E := E_Reader_askedPart d) (pc := 111) (cks_at k_Reader_askedPart 54 rfl rfl) ?_
            refine tq_V1 (E := E_Reader_askedPart d) (pc := 112) (cks_at k_Reader_askedPart 55 rfl rfl) mk_Reader_part lk_Reader_52 (isReader_rc hthis) (Nat.le_of_ble_eq_true rfl) (fun Q h => hF 2 this (v1 + 1) M21 Q hthis h) (k_I fun r24 M23 => ?_)
            refine tq_if_eq (E := E_Reader_askedPart d) (pc := 115) (tgt := 131) (cks_at k_Reader_askedPart 56 rfl rfl) (by decide) ?_ ?_
            · refine tq_iconst (E := E_Reader_askedPart d) (pc := 131) (cks_at k_Reader_askedPart 63 rfl rfl) ?_
              exact tq_zretC (E := E_Reader_askedPart d) (pc := 132) (cks_at k_Reader_askedPart 64 rfl rfl) rfl (by decide)
            · refine tq_aload_n 0 (E := E_Reader_askedPart d) (pc := 118) (cks_at k_Reader_askedPart 57 rfl rfl) rfl ?_
              refine tq_bipush (E := E_Reader_askedPart d) (pc := 119) (cks_at k_Reader_askedPart 58 rfl rfl) (by decide) (by decide) ?_
              refine tq_V1 (E := E_Reader_askedPart d) (pc := 121) (cks_at k_Reader_askedPart 59 rfl rfl) mk_Reader_took lk_Reader_63 (isReader_rc hthis) (Nat.le_of_ble_eq_true rfl) (c_Reader_took (d + 4) this hthis ((-7)) M23) (k_I fun r26 M25 => ?_)
              refine tq_if_eq (E := E_Reader_askedPart d) (pc := 124) (tgt := 131) (cks_at k_Reader_askedPart 60 rfl rfl) (by decide) ?_ ?_
              · refine tq_iconst (E := E_Reader_askedPart d) (pc := 131) (cks_at k_Reader_askedPart 63 rfl rfl) ?_
                exact tq_zretC (E := E_Reader_askedPart d) (pc := 132) (cks_at k_Reader_askedPart 64 rfl rfl) rfl (by decide)
              · refine tq_iconst (E := E_Reader_askedPart d) (pc := 127) (cks_at k_Reader_askedPart 61 rfl rfl) ?_
                refine tq_goto (tgt := 132) (E := E_Reader_askedPart d) (pc := 128) (cks_at k_Reader_askedPart 62 rfl rfl) (by decide) ?_
                exact tq_zretC (E := E_Reader_askedPart d) (pc := 132) (cks_at k_Reader_askedPart 64 rfl rfl) rfl (by decide)
    · refine tq_aload_n 0 (E := E_Reader_askedPart d) (pc := 31) (cks_at k_Reader_askedPart 14 rfl rfl) rfl ?_
      refine tq_iload_n 1 (E := E_Reader_askedPart d) (pc := 32) (cks_at k_Reader_askedPart 15 rfl rfl) rfl ?_
      refine tq_V1 (E := E_Reader_askedPart d) (pc := 33) (cks_at k_Reader_askedPart 16 rfl rfl) mk_Reader_mayOpen lk_Reader_69 (isReader_rc hthis) (Nat.le_of_ble_eq_true rfl) (c_Reader_mayOpen (d + 4) this hthis v1 M3) (k_I fun r28 M27 => ?_)
      refine tq_if_eq (E := E_Reader_askedPart d) (pc := 36) (tgt := 74) (cks_at k_Reader_askedPart 17 rfl rfl) (by decide) ?_ ?_
      · refine tq_iconst (E := E_Reader_askedPart d) (pc := 74) (cks_at k_Reader_askedPart 35 rfl rfl) ?_
        exact tq_zretC (E := E_Reader_askedPart d) (pc := 75) (cks_at k_Reader_askedPart 36 rfl rfl) rfl (by decide)
      · refine tq_aload_n 0 (E := E_Reader_askedPart d) (pc := 39) (cks_at k_Reader_askedPart 18 rfl rfl) rfl ?_
        refine tq_getR (j := 1) (E := E_Reader_askedPart d) (pc := 40) (cks_at k_Reader_askedPart 19 rfl rfl) fo_Reader_9 (isReader_ok hthis) rfl (sq_Reader_0 hthis) ?_
        refine tq_ldcS (j := 14) (s := 14) (E := E_Reader_askedPart d) (pc := 43) (cks_at k_Reader_askedPart 20 rfl rfl) rfl ?_
        refine tq_V1 (E := E_Reader_askedPart d) (pc := 45) (cks_at k_Reader_askedPart 21 rfl rfl) mk_Scan_takeWord lk_Reader_77 rc_1 (Nat.le_of_ble_eq_true rfl) (c_Scan_takeWord (d + 0) 14 (by decide) M27) (k_I fun r30 M29 => ?_)
        refine tq_if_eq (E := E_Reader_askedPart d) (pc := 48) (tgt := 74) (cks_at k_Reader_askedPart 22 rfl rfl) (by decide) ?_ ?_
        · refine tq_iconst (E := E_Reader_askedPart d) (pc := 74) (cks_at k_Reader_askedPart 35 rfl rfl) ?_
          exact tq_zretC (E := E_Reader_askedPart d) (pc := 75) (cks_at k_Reader_askedPart 36 rfl rfl) rfl (by decide)
        · refine tq_aload_n 0 (E := E_Reader_askedPart d) (pc := 51) (cks_at k_Reader_askedPart 23 rfl rfl) rfl ?_
          refine tq_iload_n 1 (E := E_Reader_askedPart d) (pc := 52) (cks_at k_Reader_askedPart 24 rfl rfl) rfl ?_
          refine tq_iconst (E := E_Reader_askedPart d) (pc := 53) (cks_at k_Reader_askedPart 25 rfl rfl) ?_
          refine tq_iadd (E := E_Reader_askedPart d) (pc := 54) (cks_at k_Reader_askedPart 26 rfl rfl) ?_
          refine tq_V1 (E := E_Reader_askedPart d) (pc := 55) (cks_at k_Reader_askedPart 27 rfl rfl) mk_Reader_part lk_Reader_52 (isReader_rc hthis) (Nat.le_of_ble_eq_true rfl) (fun Q h => hF 2 this (v1 + 1) M29 Q hthis h) (k_I fun r32 M31 => ?_)
          refine tq_if_eq (E := E_Reader_askedPart d) (pc := 58) (tgt := 74) (cks_at k_Reader_askedPart 28 rfl rfl) (by decide) ?_ ?_
          · refine tq_iconst (E := E_Reader_askedPart d) (pc := 74) (cks_at k_Reader_askedPart 35 rfl rfl) ?_
            exact tq_zretC (E := E_Reader_askedPart d) (pc := 75) (cks_at k_Reader_askedPart 36 rfl rfl) rfl (by decide)
          · refine tq_aload_n 0 (E := E_Reader_askedPart d) (pc := 61) (cks_at k_Reader_askedPart 29 rfl rfl) rfl ?_
            refine tq_bipush (E := E_Reader_askedPart d) (pc := 62) (cks_at k_Reader_askedPart 30 rfl rfl) (by decide) (by decide) ?_
            refine tq_V1 (E := E_Reader_askedPart d) (pc := 64) (cks_at k_Reader_askedPart 31 rfl rfl) mk_Reader_took lk_Reader_63 (isReader_rc hthis) (Nat.le_of_ble_eq_true rfl) (c_Reader_took (d + 4) this hthis ((-6)) M31) (k_I fun r34 M33 => ?_)
            refine tq_if_eq (E := E_Reader_askedPart d) (pc := 67) (tgt := 74) (cks_at k_Reader_askedPart 32 rfl rfl) (by decide) ?_ ?_
            · refine tq_iconst (E := E_Reader_askedPart d) (pc := 74) (cks_at k_Reader_askedPart 35 rfl rfl) ?_
              exact tq_zretC (E := E_Reader_askedPart d) (pc := 75) (cks_at k_Reader_askedPart 36 rfl rfl) rfl (by decide)
            · refine tq_iconst (E := E_Reader_askedPart d) (pc := 70) (cks_at k_Reader_askedPart 33 rfl rfl) ?_
              refine tq_goto (tgt := 75) (E := E_Reader_askedPart d) (pc := 71) (cks_at k_Reader_askedPart 34 rfl rfl) (by decide) ?_
              exact tq_zretC (E := E_Reader_askedPart d) (pc := 75) (cks_at k_Reader_askedPart 36 rfl rfl) rfl (by decide)
  · refine tq_aload_n 0 (E := E_Reader_askedPart d) (pc := 12) (cks_at k_Reader_askedPart 5 rfl rfl) rfl ?_
    refine tq_bipush (E := E_Reader_askedPart d) (pc := 13) (cks_at k_Reader_askedPart 6 rfl rfl) (by decide) (by decide) ?_
    refine tq_V1 (E := E_Reader_askedPart d) (pc := 15) (cks_at k_Reader_askedPart 7 rfl rfl) mk_Reader_took lk_Reader_63 (isReader_rc hthis) (Nat.le_of_ble_eq_true rfl) (c_Reader_took (d + 4) this hthis ((-5)) M1) (k_I fun r36 M35 => ?_)
    exact tq_zret (E := E_Reader_askedPart d) (pc := 18) (cks_at k_Reader_askedPart 8 rfl rfl) rfl
abbrev E_Reader_test (d : Nat) : Ev := (Ct (d + 6), "BreathTown$Reader", prog_6_method_11_code, 3, False, 0, (fun _ => 0), (Option.some Jvm.ClassFile.FieldType.boolean))
def f_Reader_test_B12 (F : Nat → Nat → Int → Mm → Option (Int × Mm)) (this : Nat) (kH : Int → Int → Mm → Option (Int × Mm)) (v1 v2 : Int) (M : Mm) : Option (Int × Mm) :=
  if i32 1600 ≤ i32 v2 then
    some (1, M)
  else
    bI (f_Scan_takeWord 30 M) (fun r4 M3 =>
    if ¬ i32 r4 = 0 then
      bI (F 6 this v1 M3) (fun r6 M5 =>
      if ¬ i32 r6 = 0 then
        bV (f_Code_add (ptr this 1) ((-20)) M5) (fun M7 =>
        kH v1 (v2 + 1) M7)
      else
        some (0, M5))
    else
      some (1, M3))
set_option maxRecDepth 20000 in
set_option maxHeartbeats 4000000 in
theorem w_Reader_test_B12 (d : Nat) (F : Nat → Nat → Int → Mm → Option (Int × Mm)) (hF : ∀ w this o M Q, isReader this → sat injI (F w this o M) Q → Ct (d + 6) (yG w) [.ref this, vI o] M Q) (this : Nat) (hthis : isReader this) (kH : Int → Int → Mm → Option (Int × Mm)) (hkH : ∀ (v1 v2 : Int) (M : Mm), T (E_Reader_test d) injI 12 [(0, .ref this), (1, vI v1), (2, vI v2)] [] M (kH v1 v2 M)) (v1 v2 : Int) (M : Mm) : T (E_Reader_test d) injI 12 [(0, .ref this), (1, vI v1), (2, vI v2)] [] M (f_Reader_test_B12 F this kH v1 v2 M) := by
  unfold f_Reader_test_B12
  refine tq_iload_n 2 (E := E_Reader_test d) (pc := 12) (cks_at k_Reader_test 8 rfl rfl) rfl ?_
  refine tq_sipush (E := E_Reader_test d) (pc := 13) (cks_at k_Reader_test 9 rfl rfl) (by decide) (by decide) ?_
  refine tq_icmp_ge (E := E_Reader_test d) (pc := 16) (tgt := 58) (cks_at k_Reader_test 10 rfl rfl) (by decide) ?_ ?_
  · refine tq_iconst (E := E_Reader_test d) (pc := 58) (cks_at k_Reader_test 30 rfl rfl) ?_
    exact tq_zretC (E := E_Reader_test d) (pc := 59) (cks_at k_Reader_test 31 rfl rfl) rfl (by decide)
  · refine tq_aload_n 0 (E := E_Reader_test d) (pc := 19) (cks_at k_Reader_test 11 rfl rfl) rfl ?_
    refine tq_getR (j := 1) (E := E_Reader_test d) (pc := 20) (cks_at k_Reader_test 12 rfl rfl) fo_Reader_9 (isReader_ok hthis) rfl (sq_Reader_0 hthis) ?_
    refine tq_ldcS (j := 31) (s := 30) (E := E_Reader_test d) (pc := 23) (cks_at k_Reader_test 13 rfl rfl) rfl ?_
    refine tq_V1 (E := E_Reader_test d) (pc := 25) (cks_at k_Reader_test 14 rfl rfl) mk_Scan_takeWord lk_Reader_77 rc_1 (Nat.le_of_ble_eq_true rfl) (c_Scan_takeWord (d + 0) 30 (by decide) M) (k_I fun r4 M3 => ?_)
    refine tq_if_ne (E := E_Reader_test d) (pc := 28) (tgt := 33) (cks_at k_Reader_test 15 rfl rfl) (by decide) ?_ ?_
    · refine tq_aload_n 0 (E := E_Reader_test d) (pc := 33) (cks_at k_Reader_test 18 rfl rfl) rfl ?_
      refine tq_iload_n 1 (E := E_Reader_test d) (pc := 34) (cks_at k_Reader_test 19 rfl rfl) rfl ?_
      refine tq_V1 (E := E_Reader_test d) (pc := 35) (cks_at k_Reader_test 20 rfl rfl) mk_Reader_both lk_Reader_109 (isReader_rc hthis) (Nat.le_of_ble_eq_true rfl) (fun Q h => hF 6 this v1 M3 Q hthis h) (k_I fun r6 M5 => ?_)
      refine tq_if_ne (E := E_Reader_test d) (pc := 38) (tgt := 43) (cks_at k_Reader_test 21 rfl rfl) (by decide) ?_ ?_
      · refine tq_aload_n 0 (E := E_Reader_test d) (pc := 43) (cks_at k_Reader_test 24 rfl rfl) rfl ?_
        refine tq_getR (j := ptr this 1) (E := E_Reader_test d) (pc := 44) (cks_at k_Reader_test 25 rfl rfl) fo_Reader_15 (isReader_ok hthis) rfl rfl ?_
        refine tq_bipush (E := E_Reader_test d) (pc := 47) (cks_at k_Reader_test 26 rfl rfl) (by decide) (by decide) ?_
        refine tq_V1 (E := E_Reader_test d) (pc := 49) (cks_at k_Reader_test 27 rfl rfl) mk_Code_add lk_Reader_40 (isCode_rc (sm_Reader_1 hthis)) (Nat.le_of_ble_eq_true rfl) (c_Code_add (d + 5) (ptr this 1) (sm_Reader_1 hthis) ((-20)) M5) (k_V fun M7 => ?_)
        refine tq_iinc 2 (E := E_Reader_test d) (pc := 52) (cks_at k_Reader_test 28 rfl rfl) rfl (show 2 < 3 by decide) rfl ?_
        refine tq_goto (tgt := 12) (E := E_Reader_test d) (pc := 55) (cks_at k_Reader_test 29 rfl rfl) (by decide) ?_
        exact tq_sub [1, 2, 0] rfl (hkH v1 (v2 + 1) M7)
      · refine tq_iconst (E := E_Reader_test d) (pc := 41) (cks_at k_Reader_test 22 rfl rfl) ?_
        exact tq_zretC (E := E_Reader_test d) (pc := 42) (cks_at k_Reader_test 23 rfl rfl) rfl (by decide)
    · refine tq_iconst (E := E_Reader_test d) (pc := 31) (cks_at k_Reader_test 16 rfl rfl) ?_
      exact tq_zretC (E := E_Reader_test d) (pc := 32) (cks_at k_Reader_test 17 rfl rfl) rfl (by decide)
def f_Reader_test_L12 (F : Nat → Nat → Int → Mm → Option (Int × Mm)) (this : Nat) : Nat → Int × Int × Mm → Option (Int × Mm) := lp fun kH s => f_Reader_test_B12 F this (fun v1 v2 M => kH (v1, v2, M)) s.1 s.2.1 s.2.2
set_option maxRecDepth 20000 in
set_option maxHeartbeats 4000000 in
theorem w_Reader_test_L12 (d : Nat) (F : Nat → Nat → Int → Mm → Option (Int × Mm)) (hF : ∀ w this o M Q, isReader this → sat injI (F w this o M) Q → Ct (d + 6) (yG w) [.ref this, vI o] M Q) (this : Nat) (hthis : isReader this) (n : Nat) (s : Int × Int × Mm) : T (E_Reader_test d) injI 12 [(0, .ref this), (1, vI s.1), (2, vI s.2.1)] [] s.2.2 (f_Reader_test_L12 F this n s) :=
  tq_lp (fun s => [(0, .ref this), (1, vI s.1), (2, vI s.2.1)]) (fun s => s.2.2) (fun kH hH s => w_Reader_test_B12 d F hF this hthis (fun v1 v2 M => kH (v1, v2, M)) (fun v1 v2 M => hH (v1, v2, M)) s.1 s.2.1 s.2.2) n s
def f_Reader_test (F : Nat → Nat → Int → Mm → Option (Int × Mm)) (this : Nat) (v1 : Int) (M : Mm) : Option (Int × Mm) :=
  bI (F 6 this v1 M) (fun r2 M1 =>
  if ¬ i32 r2 = 0 then
    f_Reader_test_L12 F this FU (v1, 0, M1)
  else
    some (0, M1))
set_option maxRecDepth 20000 in
set_option maxHeartbeats 4000000 in
theorem w_Reader_test (d : Nat) (F : Nat → Nat → Int → Mm → Option (Int × Mm)) (hF : ∀ w this o M Q, isReader this → sat injI (F w this o M) Q → Ct (d + 6) (yG w) [.ref this, vI o] M Q) (this : Nat) (hthis : isReader this) (v1 : Int) (M : Mm) : T (E_Reader_test d) injI 0 [(0, .ref this), (1, vI v1)] [] M (f_Reader_test F this v1 M) := by
  unfold f_Reader_test
  refine tq_aload_n 0 (E := E_Reader_test d) (pc := 0) (cks_at k_Reader_test 0 rfl rfl) rfl ?_
  refine tq_iload_n 1 (E := E_Reader_test d) (pc := 1) (cks_at k_Reader_test 1 rfl rfl) rfl ?_
  refine tq_V1 (E := E_Reader_test d) (pc := 2) (cks_at k_Reader_test 2 rfl rfl) mk_Reader_both lk_Reader_109 (isReader_rc hthis) (Nat.le_of_ble_eq_true rfl) (fun Q h => hF 6 this v1 M Q hthis h) (k_I fun r2 M1 => ?_)
  refine tq_if_ne (E := E_Reader_test d) (pc := 5) (tgt := 10) (cks_at k_Reader_test 3 rfl rfl) (by decide) ?_ ?_
  · refine tq_iconst (E := E_Reader_test d) (pc := 10) (cks_at k_Reader_test 6 rfl rfl) ?_
    refine tq_istore_n (E := E_Reader_test d) (pc := 11) (cks_at k_Reader_test 7 rfl rfl) (show 2 < 3 by decide) rfl ?_
    exact tq_sub [1, 2, 0] rfl (w_Reader_test_L12 d F hF this hthis FU (v1, 0, M1))
  · refine tq_iconst (E := E_Reader_test d) (pc := 8) (cks_at k_Reader_test 4 rfl rfl) ?_
    exact tq_zretC (E := E_Reader_test d) (pc := 9) (cks_at k_Reader_test 5 rfl rfl) rfl (by decide)
abbrev E_Reader_both (d : Nat) : Ev := (Ct (d + 6), "BreathTown$Reader", prog_6_method_12_code, 3, False, 0, (fun _ => 0), (Option.some Jvm.ClassFile.FieldType.boolean))
def f_Reader_both_B12 (F : Nat → Nat → Int → Mm → Option (Int × Mm)) (this : Nat) (kH : Int → Int → Mm → Option (Int × Mm)) (v1 v2 : Int) (M : Mm) : Option (Int × Mm) :=
  if i32 1600 ≤ i32 v2 then
    some (1, M)
  else
    bI (f_Scan_takeWord 29 M) (fun r4 M3 =>
    if ¬ i32 r4 = 0 then
      bI (F 7 this v1 M3) (fun r6 M5 =>
      if ¬ i32 r6 = 0 then
        bV (f_Code_add (ptr this 1) ((-19)) M5) (fun M7 =>
        kH v1 (v2 + 1) M7)
      else
        some (0, M5))
    else
      some (1, M3))
set_option maxRecDepth 20000 in
set_option maxHeartbeats 4000000 in
theorem w_Reader_both_B12 (d : Nat) (F : Nat → Nat → Int → Mm → Option (Int × Mm)) (hF : ∀ w this o M Q, isReader this → sat injI (F w this o M) Q → Ct (d + 6) (yG w) [.ref this, vI o] M Q) (this : Nat) (hthis : isReader this) (kH : Int → Int → Mm → Option (Int × Mm)) (hkH : ∀ (v1 v2 : Int) (M : Mm), T (E_Reader_both d) injI 12 [(0, .ref this), (1, vI v1), (2, vI v2)] [] M (kH v1 v2 M)) (v1 v2 : Int) (M : Mm) : T (E_Reader_both d) injI 12 [(0, .ref this), (1, vI v1), (2, vI v2)] [] M (f_Reader_both_B12 F this kH v1 v2 M) := by
  unfold f_Reader_both_B12
  refine tq_iload_n 2 (E := E_Reader_both d) (pc := 12) (cks_at k_Reader_both 8 rfl rfl) rfl ?_
  refine tq_sipush (E := E_Reader_both d) (pc := 13) (cks_at k_Reader_both 9 rfl rfl) (by decide) (by decide) ?_
  refine tq_icmp_ge (E := E_Reader_both d) (pc := 16) (tgt := 58) (cks_at k_Reader_both 10 rfl rfl) (by decide) ?_ ?_
  · refine tq_iconst (E := E_Reader_both d) (pc := 58) (cks_at k_Reader_both 30 rfl rfl) ?_
    exact tq_zretC (E := E_Reader_both d) (pc := 59) (cks_at k_Reader_both 31 rfl rfl) rfl (by decide)
  · refine tq_aload_n 0 (E := E_Reader_both d) (pc := 19) (cks_at k_Reader_both 11 rfl rfl) rfl ?_
    refine tq_getR (j := 1) (E := E_Reader_both d) (pc := 20) (cks_at k_Reader_both 12 rfl rfl) fo_Reader_9 (isReader_ok hthis) rfl (sq_Reader_0 hthis) ?_
    refine tq_ldcS (j := 30) (s := 29) (E := E_Reader_both d) (pc := 23) (cks_at k_Reader_both 13 rfl rfl) rfl ?_
    refine tq_V1 (E := E_Reader_both d) (pc := 25) (cks_at k_Reader_both 14 rfl rfl) mk_Scan_takeWord lk_Reader_77 rc_1 (Nat.le_of_ble_eq_true rfl) (c_Scan_takeWord (d + 0) 29 (by decide) M) (k_I fun r4 M3 => ?_)
    refine tq_if_ne (E := E_Reader_both d) (pc := 28) (tgt := 33) (cks_at k_Reader_both 15 rfl rfl) (by decide) ?_ ?_
    · refine tq_aload_n 0 (E := E_Reader_both d) (pc := 33) (cks_at k_Reader_both 18 rfl rfl) rfl ?_
      refine tq_iload_n 1 (E := E_Reader_both d) (pc := 34) (cks_at k_Reader_both 19 rfl rfl) rfl ?_
      refine tq_V1 (E := E_Reader_both d) (pc := 35) (cks_at k_Reader_both 20 rfl rfl) mk_Reader_fact lk_Reader_114 (isReader_rc hthis) (Nat.le_of_ble_eq_true rfl) (fun Q h => hF 7 this v1 M3 Q hthis h) (k_I fun r6 M5 => ?_)
      refine tq_if_ne (E := E_Reader_both d) (pc := 38) (tgt := 43) (cks_at k_Reader_both 21 rfl rfl) (by decide) ?_ ?_
      · refine tq_aload_n 0 (E := E_Reader_both d) (pc := 43) (cks_at k_Reader_both 24 rfl rfl) rfl ?_
        refine tq_getR (j := ptr this 1) (E := E_Reader_both d) (pc := 44) (cks_at k_Reader_both 25 rfl rfl) fo_Reader_15 (isReader_ok hthis) rfl rfl ?_
        refine tq_bipush (E := E_Reader_both d) (pc := 47) (cks_at k_Reader_both 26 rfl rfl) (by decide) (by decide) ?_
        refine tq_V1 (E := E_Reader_both d) (pc := 49) (cks_at k_Reader_both 27 rfl rfl) mk_Code_add lk_Reader_40 (isCode_rc (sm_Reader_1 hthis)) (Nat.le_of_ble_eq_true rfl) (c_Code_add (d + 5) (ptr this 1) (sm_Reader_1 hthis) ((-19)) M5) (k_V fun M7 => ?_)
        refine tq_iinc 2 (E := E_Reader_both d) (pc := 52) (cks_at k_Reader_both 28 rfl rfl) rfl (show 2 < 3 by decide) rfl ?_
        refine tq_goto (tgt := 12) (E := E_Reader_both d) (pc := 55) (cks_at k_Reader_both 29 rfl rfl) (by decide) ?_
        exact tq_sub [1, 2, 0] rfl (hkH v1 (v2 + 1) M7)
      · refine tq_iconst (E := E_Reader_both d) (pc := 41) (cks_at k_Reader_both 22 rfl rfl) ?_
        exact tq_zretC (E := E_Reader_both d) (pc := 42) (cks_at k_Reader_both 23 rfl rfl) rfl (by decide)
    · refine tq_iconst (E := E_Reader_both d) (pc := 31) (cks_at k_Reader_both 16 rfl rfl) ?_
      exact tq_zretC (E := E_Reader_both d) (pc := 32) (cks_at k_Reader_both 17 rfl rfl) rfl (by decide)
def f_Reader_both_L12 (F : Nat → Nat → Int → Mm → Option (Int × Mm)) (this : Nat) : Nat → Int × Int × Mm → Option (Int × Mm) := lp fun kH s => f_Reader_both_B12 F this (fun v1 v2 M => kH (v1, v2, M)) s.1 s.2.1 s.2.2
set_option maxRecDepth 20000 in
set_option maxHeartbeats 4000000 in
theorem w_Reader_both_L12 (d : Nat) (F : Nat → Nat → Int → Mm → Option (Int × Mm)) (hF : ∀ w this o M Q, isReader this → sat injI (F w this o M) Q → Ct (d + 6) (yG w) [.ref this, vI o] M Q) (this : Nat) (hthis : isReader this) (n : Nat) (s : Int × Int × Mm) : T (E_Reader_both d) injI 12 [(0, .ref this), (1, vI s.1), (2, vI s.2.1)] [] s.2.2 (f_Reader_both_L12 F this n s) :=
  tq_lp (fun s => [(0, .ref this), (1, vI s.1), (2, vI s.2.1)]) (fun s => s.2.2) (fun kH hH s => w_Reader_both_B12 d F hF this hthis (fun v1 v2 M => kH (v1, v2, M)) (fun v1 v2 M => hH (v1, v2, M)) s.1 s.2.1 s.2.2) n s
def f_Reader_both (F : Nat → Nat → Int → Mm → Option (Int × Mm)) (this : Nat) (v1 : Int) (M : Mm) : Option (Int × Mm) :=
  bI (F 7 this v1 M) (fun r2 M1 =>
  if ¬ i32 r2 = 0 then
    f_Reader_both_L12 F this FU (v1, 0, M1)
  else
    some (0, M1))
set_option maxRecDepth 20000 in
set_option maxHeartbeats 4000000 in
theorem w_Reader_both (d : Nat) (F : Nat → Nat → Int → Mm → Option (Int × Mm)) (hF : ∀ w this o M Q, isReader this → sat injI (F w this o M) Q → Ct (d + 6) (yG w) [.ref this, vI o] M Q) (this : Nat) (hthis : isReader this) (v1 : Int) (M : Mm) : T (E_Reader_both d) injI 0 [(0, .ref this), (1, vI v1)] [] M (f_Reader_both F this v1 M) := by
  unfold f_Reader_both
  refine tq_aload_n 0 (E := E_Reader_both d) (pc := 0) (cks_at k_Reader_both 0 rfl rfl) rfl ?_
  refine tq_iload_n 1 (E := E_Reader_both d) (pc := 1) (cks_at k_Reader_both 1 rfl rfl) rfl ?_
  refine tq_V1 (E := E_Reader_both d) (pc := 2) (cks_at k_Reader_both 2 rfl rfl) mk_Reader_fact lk_Reader_114 (isReader_rc hthis) (Nat.le_of_ble_eq_true rfl) (fun Q h => hF 7 this v1 M Q hthis h) (k_I fun r2 M1 => ?_)
  refine tq_if_ne (E := E_Reader_both d) (pc := 5) (tgt := 10) (cks_at k_Reader_both 3 rfl rfl) (by decide) ?_ ?_
  · refine tq_iconst (E := E_Reader_both d) (pc := 10) (cks_at k_Reader_both 6 rfl rfl) ?_
    refine tq_istore_n (E := E_Reader_both d) (pc := 11) (cks_at k_Reader_both 7 rfl rfl) (show 2 < 3 by decide) rfl ?_
    exact tq_sub [1, 2, 0] rfl (w_Reader_both_L12 d F hF this hthis FU (v1, 0, M1))
  · refine tq_iconst (E := E_Reader_both d) (pc := 8) (cks_at k_Reader_both 4 rfl rfl) ?_
    exact tq_zretC (E := E_Reader_both d) (pc := 9) (cks_at k_Reader_both 5 rfl rfl) rfl (by decide)
abbrev E_Reader_fact (d : Nat) : Ev := (Ct (d + 6), "BreathTown$Reader", prog_6_method_13_code, 3, False, 0, (fun _ => 0), (Option.some Jvm.ClassFile.FieldType.boolean))
def f_Reader_fact_J197 (F : Nat → Nat → Int → Mm → Option (Int × Mm)) (this : Nat) (v1 s0 : Int) (M : Mm) : Option (Int × Mm) :=
  if ¬ i32 s0 = 0 then
    bI (F 0 this v1 M) (fun r16 M15 =>
    if i32 r16 = 0 then
      some (0, M15)
    else
      bI (f_Reader_took this s0 M15) (fun r18 M17 =>
      if i32 r18 = 0 then
        some (0, M17)
      else
        some (1, M17)))
  else
    bI (f_Scan_unexpected M) (fun r20 M19 =>
    gd (i32 r20 = 0 ∨ i32 r20 = 1) (some (r20, M19)))
set_option maxRecDepth 20000 in
set_option maxHeartbeats 4000000 in
theorem w_Reader_fact_J197 (d : Nat) (F : Nat → Nat → Int → Mm → Option (Int × Mm)) (hF : ∀ w this o M Q, isReader this → sat injI (F w this o M) Q → Ct (d + 6) (yG w) [.ref this, vI o] M Q) (this : Nat) (hthis : isReader this) (v1 s0 : Int) (M : Mm) : T (E_Reader_fact d) injI 197 [(0, .ref this), (1, vI v1)] [vI s0] M (f_Reader_fact_J197 F this v1 s0 M) := by
  unfold f_Reader_fact_J197
  refine tq_istore_n (E := E_Reader_fact d) (pc := 197) (cks_at k_Reader_fact 94 rfl rfl) (show 2 < 3 by decide) rfl ?_
  refine tq_iload_n 0 (E := E_Reader_fact d) (pc := 198) (cks_at k_Reader_fact 95 rfl rfl) rfl ?_
  refine tq_if_ne (E := E_Reader_fact d) (pc := 199) (tgt := 210) (cks_at k_Reader_fact 96 rfl rfl) (by decide) ?_ ?_
  · refine tq_aload_n 1 (E := E_Reader_fact d) (pc := 210) (cks_at k_Reader_fact 101 rfl rfl) rfl ?_
    refine tq_iload_n 2 (E := E_Reader_fact d) (pc := 211) (cks_at k_Reader_fact 102 rfl rfl) rfl ?_
    refine tq_V1 (E := E_Reader_fact d) (pc := 212) (cks_at k_Reader_fact 103 rfl rfl) mk_Reader_sum lk_Reader_23 (isReader_rc hthis) (Nat.le_of_ble_eq_true rfl) (fun Q h => hF 0 this v1 M Q hthis h) (k_I fun r16 M15 => ?_)
    refine tq_if_eq (E := E_Reader_fact d) (pc := 215) (tgt := 230) (cks_at k_Reader_fact 104 rfl rfl) (by decide) ?_ ?_
    · refine tq_iconst (E := E_Reader_fact d) (pc := 230) (cks_at k_Reader_fact 111 rfl rfl) ?_
      exact tq_zretC (E := E_Reader_fact d) (pc := 231) (cks_at k_Reader_fact 112 rfl rfl) rfl (by decide)
    · refine tq_aload_n 1 (E := E_Reader_fact d) (pc := 218) (cks_at k_Reader_fact 105 rfl rfl) rfl ?_
      refine tq_iload_n 0 (E := E_Reader_fact d) (pc := 219) (cks_at k_Reader_fact 106 rfl rfl) rfl ?_
      refine tq_V1 (E := E_Reader_fact d) (pc := 220) (cks_at k_Reader_fact 107 rfl rfl) mk_Reader_took lk_Reader_63 (isReader_rc hthis) (Nat.le_of_ble_eq_true rfl) (c_Reader_took (d + 4) this hthis s0 M15) (k_I fun r18 M17 => ?_)
      refine tq_if_eq (E := E_Reader_fact d) (pc := 223) (tgt := 230) (cks_at k_Reader_fact 108 rfl rfl) (by decide) ?_ ?_
      · refine tq_iconst (E := E_Reader_fact d) (pc := 230) (cks_at k_Reader_fact 111 rfl rfl) ?_
        exact tq_zretC (E := E_Reader_fact d) (pc := 231) (cks_at k_Reader_fact 112 rfl rfl) rfl (by decide)
      · refine tq_iconst (E := E_Reader_fact d) (pc := 226) (cks_at k_Reader_fact 109 rfl rfl) ?_
        refine tq_goto (tgt := 231) (E := E_Reader_fact d) (pc := 227) (cks_at k_Reader_fact 110 rfl rfl) (by decide) ?_
        exact tq_zretC (E := E_Reader_fact d) (pc := 231) (cks_at k_Reader_fact 112 rfl rfl) rfl (by decide)
  · refine tq_aload_n 1 (E := E_Reader_fact d) (pc := 202) (cks_at k_Reader_fact 97 rfl rfl) rfl ?_
    refine tq_getR (j := 1) (E := E_Reader_fact d) (pc := 203) (cks_at k_Reader_fact 98 rfl rfl) fo_Reader_9 (isReader_ok hthis) rfl (sq_Reader_0 hthis) ?_
    refine tq_V0 (E := E_Reader_fact d) (pc := 206) (cks_at k_Reader_fact 99 rfl rfl) mk_Scan_unexpected lk_Reader_97 rc_1 (Nat.le_of_ble_eq_true rfl) (c_Scan_unexpected (d + 4) M) (k_I fun r20 M19 => ?_)
    exact tq_zret (E := E_Reader_fact d) (pc := 209) (cks_at k_Reader_fact 100 rfl rfl) rfl
def f_Reader_fact (F : Nat → Nat → Int → Mm → Option (Int × Mm)) (this : Nat) (v1 : Int) (M : Mm) : Option (Int × Mm) :=
  bI (f_Scan_atWord 27 M) (fun r2 M1 =>
  if i32 r2 = 0 then
    bI (f_Scan_atSign 91 M1) (fun r4 M3 =>
    if i32 r4 = 0 then
      bI (f_Scan_takeWord 28 M3) (fun r6 M5 =>
      if i32 r6 = 0 then
        bI (F 0 this v1 M5) (fun r8 M7 =>
        if ¬ i32 r8 = 0 then
          bI (f_Scan_takeSign 60 M7) (fun r10 M9 =>
          if i32 r10 = 0 then
            bI (f_Scan_takeSign 62 M9) (fun r12 M11 =>
            if i32 r12 = 0 then
              bI (f_Scan_takeSign 61 M11) (fun r14 M13 =>
              if i32 r14 = 0 then
                f_Reader_fact_J197 F this v1 0 M13
              else
                f_Reader_fact_J197 F this v1 ((-18)) M13)
            else
              f_Reader_fact_J197 F this v1 ((-17)) M11)
          else
            f_Reader_fact_J197 F this v1 ((-16)) M9)
        else
          some (0, M7))
      else
        bI (f_Reader_took this 1 M5) (fun r22 M21 =>
        gd (i32 r22 = 0 ∨ i32 r22 = 1) (some (r22, M21))))
    else
      bI (f_Reader_mayOpen this v1 M3) (fun r24 M23 =>
      if i32 r24 = 0 then
        some (0, M23)
      else
        bI (f_Scan_takeSign 91 M23) (fun r26 M25 =>
        if i32 r26 = 0 then
          some (0, M25)
        else
          bI (F 5 this (v1 + 1) M25) (fun r28 M27 =>
          if i32 r28 = 0 then
            some (0, M27)
          else
            bI (f_Scan_needSign 93 M27) (fun r30 M29 =>
            if i32 r30 = 0 then
              some (0, M29)
            else
              some (1, M29))))))
  else
    bI (f_Reader_mayOpen this v1 M1) (fun r32 M31 =>
    if i32 r32 = 0 then
      some (0, M31)
    else
      bI (f_Scan_takeWord 27 M31) (fun r34 M33 =>
      if i32 r34 = 0 then
        some (0, M33)
      else
        bI (F 7 this (v1 + 1) M33) (fun r36 M35 =>
        if i32 r36 = 0 then
          some (0, M35)
        else
          bI (f_Reader_took this ((-9)) M35) (fun r38 M37 =>
          if i32 r38 = 0 then
            some (0, M37)
          else
            some (1, M37))))))
set_option maxRecDepth 20000 in
set_option maxHeartbeats 4000000 in
theorem w_Reader_fact (d : Nat) (F : Nat → Nat → Int → Mm → Option (Int × Mm)) (hF : ∀ w this o M Q, isReader this → sat injI (F w this o M) Q → Ct (d + 6) (yG w) [.ref this, vI o] M Q) (this : Nat) (hthis : isReader this) (v1 : Int) (M : Mm) : T (E_Reader_fact d) injI 0 [(0, .ref this), (1, vI v1)] [] M (f_Reader_fact F this v1 M) := by
  unfold f_Reader_fact
  refine tq_aload_n 0 (E := E_Reader_fact d) (pc := 0) (cks_at k_Reader_fact 0 rfl rfl) rfl ?_
  refine tq_getR (j := 1) (E := E_Reader_fact d) (pc := 1) (cks_at k_Reader_fact 1 rfl rfl) fo_Reader_9 (isReader_ok hthis) rfl (sq_Reader_0 hthis) ?_
  refine tq_ldcS (j := 28) (s := 27) (E := E_Reader_fact d) (pc := 4) (cks_at k_Reader_fact 2 rfl rfl) rfl ?_
  refine tq_V1 (E := E_Reader_fact d) (pc := 6) (cks_at k_Reader_fact 3 rfl rfl) mk_Scan_atWord lk_Reader_104 rc_1 (Nat.le_of_ble_eq_true rfl) (c_Scan_atWord (d + 1) 27 (by decide) M) (k_I fun r2 M1 => ?_)
  refine tq_if_eq (E := E_Reader_fact d) (pc := 9) (tgt := 57) (cks_at k_Reader_fact 4 rfl rfl) (by decide) ?_ ?_
  · refine tq_aload_n 0 (E := E_Reader_fact d) (pc := 57) (cks_at k_Reader_fact 28 rfl rfl) rfl ?_
    refine tq_getR (j := 1) (E := E_Reader_fact d) (pc := 58) (cks_at k_Reader_fact 29 rfl rfl) fo_Reader_9 (isReader_ok hthis) rfl (sq_Reader_0 hthis) ?_
    refine tq_bipush (E := E_Reader_fact d) (pc := 61) (cks_at k_Reader_fact 30 rfl rfl) (by decide) (by decide) ?_
    refine tq_V1 (E := E_Reader_fact d) (pc := 63) (cks_at k_Reader_fact 31 rfl rfl) mk_Scan_atSign lk_Reader_66 rc_1 (Nat.le_of_ble_eq_true rfl) (c_Scan_atSign (d + 4) 91 M1) (k_I fun r4 M3 => ?_)
    refine tq_if_eq (E := E_Reader_fact d) (pc := 66) (tgt := 117) (cks_at k_Reader_fact 32 rfl rfl) (by decide) ?_ ?_
    · refine tq_aload_n 0 (E := E_Reader_fact d) (pc := 117) (cks_at k_Reader_fact 57 rfl rfl) rfl ?_
      refine tq_getR (j := 1) (E := E_Reader_fact d) (pc := 118) (cks_at k_Reader_fact 58 rfl rfl) fo_Reader_9 (isReader_ok hthis) rfl (sq_Reader_0 hthis) ?_
      refine tq_ldcS (j := 29) (s := 28) (E := E_Reader_fact d) (pc := 121) (cks_at k_Reader_fact 59 rfl rfl) rfl ?_
      refine tq_V1 (E := E_Reader_fact d) (pc := 123) (cks_at k_Reader_fact 60 rfl rfl) mk_Scan_takeWord lk_Reader_77 rc_1 (Nat.le_of_ble_eq_true rfl) (c_Scan_takeWord (d + 0) 28 (by decide) M3) (k_I fun r6 M5 => ?_)
      refine tq_if_eq (E := E_Reader_fact d) (pc := 126) (tgt := 135) (cks_at k_Reader_fact 61 rfl rfl) (by decide) ?_ ?_
      · refine tq_aload_n 0 (E := E_Reader_fact d) (pc := 135) (cks_at k_Reader_fact 66 rfl rfl) rfl ?_
        refine tq_iload_n 1 (E := E_Reader_fact d) (pc := 136) (cks_at k_Reader_fact 67 rfl rfl) rfl ?_
        refine tq_V1 (E := E_Reader_fact d) (pc := 137) (cks_at k_Reader_fact 68 rfl rfl) mk_Reader_sum lk_Reader_23 (isReader_rc hthis) (Nat.le_of_ble_eq_true rfl) (fun Q h => hF 0 this v1 M5 Q hthis h) (k_I fun r8 M7 => ?_)
        refine tq_if_ne (E := E_Reader_fact d) (pc := 140) (tgt := 145) (cks_at k_Reader_fact 69 rfl rfl) (by decide) ?_ ?_
        · refine tq_aload_n 0 (E := E_Reader_fact d) (pc := 145) (cks_at k_Reader_fact 72 rfl rfl) rfl ?_
          refine tq_getR (j := 1) (E := E_Reader_fact d) (pc := 146) (cks_at k_Reader_fact 73 rfl rfl) fo_Reader_9 (isReader_ok hthis) rfl (sq_Reader_0 hthis) ?_
          refine tq_bipush (E := E_Reader_fact d) (pc := 149) (cks_at k_Reader_fact 74 rfl rfl) (by decide) (by decide) ?_
          refine tq_V1 (E := E_Reader_fact d) (pc := 151) (cks_at k_Reader_fact 75 rfl rfl) mk_Scan_takeSign lk_Reader_49 rc_1 (Nat.le_of_ble_eq_true rfl) (c_Scan_takeSign (d + 4) 60 M7) (k_I fun r10 M9 => ?_)
          refine tq_if_eq (E := E_Reader_fact d) (pc := 154) (tgt := 162) (cks_at k_Reader_fact 76 rfl rfl) (by decide) ?_ ?_
          · refine tq_aload_n 0 (E := E_Reader_fact d) (pc := 162) (cks_at k_Reader_fact 79 rfl rfl) rfl ?_
            refine tq_getR (j := 1) (E := E_Reader_fact d) (pc := 163) (cks_at k_Reader_fact 80 rfl rfl) fo_Reader_9 (isReader_ok hthis) rfl (sq_Reader_0 hthis) ?_
            refine tq_bipush (E := E_Reader_fact d) (pc := 166) (cks_at k_Reader_fact 81 rfl rfl) (by decide) (by decide) ?_
            refine tq_V1 (E := E_Reader_fact d) (pc := 168) (cks_at k_Reader_fact 82 rfl rfl) mk_Scan_takeSign lk_Reader_49 rc_1 (Nat.le_of_ble_eq_true rfl) (c_Scan_takeSign (d + 4) 62 M9) (k_I fun r12 M11 => ?_)
            refine tq_if_eq (E := E_Reader_fact d) (pc := 171) (tgt := 179) (cks_at k_Reader_fact 83 rfl rfl) (by decide) ?_ ?_
            · refine tq_aload_n 0 (E := E_Reader_fact d) (pc := 179) (cks_at k_Reader_fact 86 rfl rfl) rfl ?_
              refine tq_getR (j := 1) (E := E_Reader_fact d) (pc := 180) (cks_at k_Reader_fact 87 rfl rfl) fo_Reader_9 (isReader_ok hthis) rfl (sq_Reader_0 hthis) ?_
              refine tq_bipush (E := E_Reader_fact d) (pc := 183) (cks_at k_Reader_fact 88 rfl rfl) (by decide) (by decide) ?_
              refine tq_V1 (E := E_Reader_fact d) (pc := 185) (cks_at k_Reader_fact 89 rfl rfl) mk_Scan_takeSign lk_Reader_49 rc_1 (Nat.le_of_ble_eq_true rfl) (c_Scan_takeSign (d + 4) 61 M11) (k_I fun r14 M13 => ?_)
              refine tq_if_eq (E := E_Reader_fact d) (pc := 188) (tgt := 196) (cks_at k_Reader_fact 90 rfl rfl) (by decide) ?_ ?_
              · refine tq_iconst (E := E_Reader_fact d) (pc := 196) (cks_at k_Reader_fact 93 rfl rfl) ?_
                exact tq_sub [0, 1] rfl (w_Reader_fact_J197 d F hF this hthis v1 0 M13)
              · refine tq_bipush (E := E_Reader_fact d) (pc := 191) (cks_at k_Reader_fact 91 rfl rfl) (by decide) (by decide) ?_
                refine tq_goto (tgt := 197) (E := E_Reader_fact d) (pc := 193) (cks_at k_Reader_fact 92 rfl rfl) (by decide) ?_
                exact tq_sub [0, 1] rfl (w_Reader_fact_J197 d F hF this hthis v1 ((-18)) M13)
            · refine tq_bipush (E := E_Reader_fact d) (pc := 174) (cks_at k_Reader_fact 84 rfl rfl) (by decide) (by decide) ?_
              refine tq_goto (tgt := 197) (E := E_Reader_fact d) (pc := 176) (cks_at k_Reader_fact 85 rfl rfl) (by decide) ?_
              exact tq_sub [0, 1] rfl (w_Reader_fact_J197 d F hF this hthis v1 ((-17)) M11)
          · refine tq_bipush (E := E_Reader_fact d) (pc := 157) (cks_at k_Reader_fact 77 rfl rfl) (by decide) (by decide) ?_
            refine tq_goto (tgt := 197) (E := E_Reader_fact d) (pc := 159) (cks_at k_Reader_fact 78 rfl rfl) (by decide) ?_
            exact tq_sub [0, 1] rfl (w_Reader_fact_J197 d F hF this hthis v1 ((-16)) M9)
        · refine tq_iconst (E := E_Reader_fact d) (pc := 143) (cks_at k_Reader_fact 70 rfl rfl) ?_
          exact tq_zretC (E := E_Reader_fact d) (pc := 144) (cks_at k_Reader_fact 71 rfl rfl) rfl (by decide)
      · refine tq_aload_n 0 (E := E_Reader_fact d) (pc := 129) (cks_at k_Reader_fact 62 rfl rfl) rfl ?_
        refine tq_iconst (E := E_Reader_fact d) (pc := 130) (cks_at k_Reader_fact 63 rfl rfl) ?_
        refine tq_V1 (E := E_Reader_fact d) (pc := 131) (cks_at k_Reader_fact 64 rfl rfl) mk_Reader_took lk_Reader_63 (isReader_rc hthis) (Nat.le_of_ble_eq_true rfl) (c_Reader_took (d + 4) this hthis 1 M5) (k_I fun r22 M21 => ?_)
        exact tq_zret (E := E_Reader_fact d) (pc := 134) (cks_at k_Reader_fact 65 rfl rfl) rfl
    · refine tq_aload_n 0 (E := E_Reader_fact d) (pc := 69) (cks_at k_Reader_fact 33 rfl rfl) rfl ?_
      refine tq_iload_n 1 (E := E_Reader_fact d) (pc := 70) (cks_at k_Reader_fact 34 rfl rfl) rfl ?_
      refine tq_V1 (E := E_Reader_fact d) (pc := 71) (cks_at k_Reader_fact 35 rfl rfl) mk_Reader_mayOpen lk_Reader_69 (isReader_rc hthis) (Nat.le_of_ble_eq_true rfl) (c_Reader_mayOpen (d + 4) this hthis v1 M3) (k_I fun r24 M23 => ?_)
      refine tq_if_eq (E := E_Reader_fact d) (pc := 74) (tgt := 115) (cks_at k_Reader_fact 36 rfl rfl) (by decide) ?_ ?_
      · refine tq_iconst (E := E_Reader_fact d) (pc := 115) (cks_at k_Reader_fact 55 rfl rfl) ?_
        exact tq_zretC (E := E_Reader_fact d) (pc := 116) (cks_at k_Reader_fact 56 rfl rfl) rfl (by decide)
      · refine tq_aload_n 0 (E := E_Reader_fact d) (pc := 77) (cks_at k_Reader_fact 37 rfl rfl) rfl ?_
        refine tq_getR (j := 1) (E := E_Reader_fact d) (pc := 78) (cks_at k_Reader_fact 38 rfl rfl) fo_Reader_9 (isReader_ok hthis) rfl (sq_Reader_0 hthis) ?_
        refine tq_bipush (E := E_Reader_fact d) (pc := 81) (cks_at k_Reader_fact 39 rfl rfl) (by decide) (by decide) ?_
        refine tq_V1 (E := E_Reader_fact d) (pc := 83) (cks_at k_Reader_fact 40 rfl rfl) mk_Scan_takeSign lk_Reader_49 rc_1 (Nat.le_of_ble_eq_true rfl) (c_Scan_takeSign (d + 4) 91 M23) (k_I fun r26 M25 => ?_)
        refine tq_if_eq (E := E_Reader_fact d) (pc := 86) (tgt := 115) (cks_at k_Reader_fact 41 rfl rfl) (by decide) ?_ ?_
        · refine tq_iconst (E := E_Reader_fact d) (pc := 115) (cks_at k_Reader_fact 55 rfl rfl) ?_
          exact tq_zretC (E := E_Reader_fact d) (pc := 116) (cks_at k_Reader_fact 56 rfl rfl) rfl (by decide)
        · refine tq_aload_n 0 (E := E_Reader_fact d) (pc := 89) (cks_at k_Reader_fact 42 rfl rfl) rfl ?_
          refine tq_iload_n 1 (E := E_Reader_fact d) (pc := 90) (cks_at k_Reader_fact 43 rfl rfl) rfl ?_
          refine tq_iconst (E := E_Reader_fact d) (pc := 91) (cks_at k_Reader_fact 44 rfl rfl) ?_
          refine tq_iadd (E := E_Reader_fact d) (pc := 92) (cks_at k_Reader_fact 45 rfl rfl) ?_
          refine tq_V1 (E := E_Reader_fact d) (pc := 93) (cks_at k_Reader_fact 46 rfl rfl) mk_Reader_test lk_Reader_27 (isReader_rc hthis) (Nat.le_of_ble_eq_true rfl) (fun Q h => hF 5 this (v1 + 1) M25 Q hthis h) (k_I fun r28 M27 => ?_)
          refine tq_if_eq (E := E_Reader_fact d) (pc := 96) (tgt := 115) (cks_at k_Reader_fact 47 rfl rfl) (by decide) ?_ ?_
          · refine tq_iconst (E := E_Reader_fact d) (pc := 115) (cks_at k_Reader_fact 55 rfl rfl) ?_
            exact tq_zretC (E := E_Reader_fact d) (pc := 116) (cks_at k_Reader_fact 56 rfl rfl) rfl (by decide)
          · refine tq_aload_n 0 (E := E_Reader_fact d) (pc := 99) (cks_at k_Reader_fact 48 rfl rfl) rfl ?_
            refine tq_getR (j := 1) (E := E_Reader_fact d) (pc := 100) (cks_at k_Reader_fact 49 rfl rfl) fo_Reader_9 (isReader_ok hthis) rfl (sq_Reader_0 hthis) ?_
            refine tq_bipush (E := E_Reader_fact d) (pc := 103) (cks_at k_Reader_fact 50 rfl rfl) (by decide) (by decide) ?_
            refine tq_V1 (E := E_Reader_fact d) (pc := 105) (cks_at k_Reader_fact 51 rfl rfl) mk_Scan_needSign lk_Reader_72 rc_1 (Nat.le_of_ble_eq_true rfl) (c_Scan_needSign (d + 3) 93 M27) (k_I fun r30 M29 => ?_)
            refine tq_if_eq (E := E_Reader_fact d) (pc := 108) (tgt := 115) (cks_at k_Reader_fact 52 rfl rfl) (by decide) ?_ ?_
            · refine tq_iconst (E := E_Reader_fact d) (pc := 115) (cks_at k_Reader_fact 55 rfl rfl) ?_
              exact tq_zretC (E := E_Reader_fact d) (pc := 116) (cks_at k_Reader_fact 56 rfl rfl) rfl (by decide)
            · refine tq_iconst (E := E_Reader_fact d) (pc := 111) (cks_at k_Reader_fact 53 rfl rfl) ?_
              refine tq_goto (tgt := 116) (E := E_Reader_fact d) (pc := 112) (cks_at k_Reader_fact 54 rfl rfl) (by decide) ?_
              exact tq_zretC (E := E_Reader_fact d) (pc := 116) (cks_at k_Reader_fact 56 rfl rfl) rfl (by decide)
  · refine tq_aload_n 0 (E := E_Reader_fact d) (pc := 12) (cks_at k_Reader_fact 5 rfl rfl) rfl ?_
    refine tq_iload_n 1 (E := E_Reader_fact d) (pc := 13) (cks_at k_Reader_fact 6 rfl rfl) rfl ?_
    refine tq_V1 (E := E_Reader_fact d) (pc := 14) (cks_at k_Reader_fact 7 rfl rfl) mk_Reader_mayOpen lk_Reader_69 (isReader_rc hthis) (Nat.le_of_ble_eq_true rfl) (c_Reader_mayOpen (d + 4) this hthis v1 M1) (k_I fun r32 M31 => ?_)
    refine tq_if_eq (E := E_Reader_fact d) (pc := 17) (tgt := 55) (cks_at k_Reader_fact 8 rfl rfl) (by decide) ?_ ?_
    · refine tq_iconst (E := E_Reader_fact d) (pc := 55) (cks_at k_Reader_fact 26 rfl rfl) ?_
      exact tq_zretC (E := E_Reader_fact d) (pc := 56) (cks_at k_Reader_fact 27 rfl rfl) rfl (by decide)
    · refine tq_aload_n 0 (E := E_Reader_fact d) (pc := 20) (cks_at k_Reader_fact 9 rfl rfl) rfl ?_
      refine tq_getR (j := 1) (E := E_Reader_fact d) (pc := 21) (cks_at k_Reader_fact 10 rfl rfl) fo_Reader_9 (isReader_ok hthis) rfl (sq_Reader_0 hthis) ?_
      refine tq_ldcS (j := 28) (s := 27) (E := E_Reader_fact d) (pc := 24) (cks_at k_Reader_fact 11 rfl rfl) rfl ?_
      refine tq_V1 (E := E_Reader_fact d) (pc := 26) (cks_at k_Reader_fact 12 rfl rfl) mk_Scan_takeWord lk_Reader_77 rc_1 (Nat.le_of_ble_eq_true rfl) (c_Scan_takeWord (d + 0) 27 (by decide) M31) (k_I fun r34 M33 => ?_)
      refine tq_if_eq (E := E_Reader_fact d) (pc := 29) (tgt := 55) (cks_at k_Reader_fact 13 rfl rfl) (by decide) ?_ ?_
      · refine tq_iconst (E := E_Reader_fact d) (pc := 55) (cks_at k_Reader_fact 26 rfl rfl) ?_
        exact tq_zretC (E := E_Reader_fact d) (pc := 56) (cks_at k_Reader_fact 27 rfl rfl) rfl (by decide)
      · refine tq_aload_n 0 (E := E_Reader_fact d) (pc := 32) (cks_at k_Reader_fact 14 rfl rfl) rfl ?_
        refine tq_iload_n 1 (E := E_Reader_fact d) (pc := 33) (cks_at k_Reader_fact 15 rfl rfl) rfl ?_
        refine tq_iconst (E := E_Reader_fact d) (pc := 34) (cks_at k_Reader_fact 16 rfl rfl) ?_
        refine tq_iadd (E := E_Reader_fact d) (pc := 35) (cks_at k_Reader_fact 17 rfl rfl) ?_
        refine tq_V1 (E := E_Reader_fact d) (pc := 36) (cks_at k_Reader_fact 18 rfl rfl) mk_Reader_fact lk_Reader_114 (isReader_rc hthis) (Nat.le_of_ble_eq_true rfl) (fun Q h => hF 7 this (v1 + 1) M33 Q hthis h) (k_I fun r36 M35 => ?_)
        refine tq_if_eq (E := E_Reader_fact d) (pc := 39) (tgt := 55) (cks_at k_Reader_fact 19 rfl rfl) (by decide) ?_ ?_
        · refine tq_iconst (E := E_Reader_fact d) (pc := 55) (cks_at k_Reader_fact 26 rfl rfl) ?_
          exact tq_zretC (E := E_Reader_fact d) (pc := 56) (cks_at k_Reader_fact 27 rfl rfl) rfl (by decide)
        · refine tq_aload_n 0 (E := E_Reader_fact d) (pc := 42) (cks_at k_Reader_fact 20 rfl rfl) rfl ?_
          refine tq_bipush (E := E_Reader_fact d) (pc := 43) (cks_at k_Reader_fact 21 rfl rfl) (by decide) (by decide) ?_
          refine tq_V1 (E := E_Reader_fact d) (pc := 45) (cks_at k_Reader_fact 22 rfl rfl) mk_Reader_took lk_Reader_63 (isReader_rc hthis) (Nat.le_of_ble_eq_true rfl) (c_Reader_took (d + 4) this hthis ((-9)) M35) (k_I fun r38 M37 => ?_)
          refine tq_if_eq (E := E_Reader_fact d) (pc := 48) (tgt := 55) (cks_at k_Reader_fact 23 rfl rfl) (by decide) ?_ ?_
          · refine tq_iconst (E := E_Reader_fact d) (pc := 55) (cks_at k_Reader_fact 26 rfl rfl) ?_
            exact tq_zretC (E := E_Reader_fact d) (pc := 56) (cks_at k_Reader_fact 27 rfl rfl) rfl (by decide)
          · refine tq_iconst (E := E_Reader_fact d) (pc := 51) (cks_at k_Reader_fact 24 rfl rfl) ?_
            refine tq_goto (tgt := 56) (E := E_Reader_fact d) (pc := 52) (cks_at k_Reader_fact 25 rfl rfl) (by decide) ?_
            exact tq_zretC (E := E_Reader_fact d) (pc := 56) (cks_at k_Reader_fact 27 rfl rfl) rfl (by decide)
def f_R : Nat → Nat → Nat → Int → Mm → Option (Int × Mm)
  | 0 => fun _ _ _ _ => none
  | n + 1 => fun w this o M => match w with
    | 0 => f_Reader_sum (f_R n) this o M
    | 1 => f_Reader_product (f_R n) this o M
    | 2 => f_Reader_part (f_R n) this o M
    | 3 => f_Reader_pair (f_R n) this o M
    | 4 => f_Reader_askedPart (f_R n) this o M
    | 5 => f_Reader_test (f_R n) this o M
    | 6 => f_Reader_both (f_R n) this o M
    | _ => f_Reader_fact (f_R n) this o M
set_option maxRecDepth 20000 in
set_option maxHeartbeats 4000000 in
theorem c_R (d : Nat) : ∀ (n w this : Nat) (o : Int) (M : Mm) (Q : Option Value → Mm → Prop), isReader this → sat injI (f_R n w this o M) Q → Ct (d + n + 6) (yG w) [.ref this, vI o] M Q
  | 0, w, this, o, M, Q, hi, h => by obtain ⟨_, h, -⟩ := h; cases h
  | n + 1, w, this, o, M, Q, hi, h => by
    have hF : ∀ w this o M Q, isReader this → sat injI (f_R n w this o M) Q → Ct (d + n + 6) (yG w) [.ref this, vI o] M Q := fun w this o M Q => c_R d n w this o M Q
    show Ct (d + n + 6 + 1) (yG w) [.ref this, vI o] M Q
    match w, h with
    | 0, h => exact ct_in (d := d + n + 6) mk_Reader_sum (Nat.le_of_ble_eq_true rfl) (w_Reader_sum (d + n) (f_R n) hF this hi o M) h
    | 1, h => exact ct_in (d := d + n + 6) mk_Reader_product (Nat.le_of_ble_eq_true rfl) (w_Reader_product (d + n) (f_R n) hF this hi o M) h
    | 2, h => exact ct_in (d := d + n + 6) mk_Reader_part (Nat.le_of_ble_eq_true rfl) (w_Reader_part (d + n) (f_R n) hF this hi o M) h
    | 3, h => exact ct_in (d := d + n + 6) mk_Reader_pair (Nat.le_of_ble_eq_true rfl) (w_Reader_pair (d + n) (f_R n) hF this hi o M) h
    | 4, h => exact ct_in (d := d + n + 6) mk_Reader_askedPart (Nat.le_of_ble_eq_true rfl) (w_Reader_askedPart (d + n) (f_R n) hF this hi o M) h
    | 5, h => exact ct_in (d := d + n + 6) mk_Reader_test (Nat.le_of_ble_eq_true rfl) (w_Reader_test (d + n) (f_R n) hF this hi o M) h
    | 6, h => exact ct_in (d := d + n + 6) mk_Reader_both (Nat.le_of_ble_eq_true rfl) (w_Reader_both (d + n) (f_R n) hF this hi o M) h
    | k + 7, h => exact ct_in (d := d + n + 6) mk_Reader_fact (Nat.le_of_ble_eq_true rfl) (w_Reader_fact (d + n) (f_R n) hF this hi o M) h
abbrev E_M_isIn (d : Nat) : Ev := (Ct (d + 0), "BreathTownModel", prog_14_method_2_code, 6, False, 0, (fun _ => 0), (Option.some Jvm.ClassFile.FieldType.boolean))
def f_M_isIn (v0 : Int) (v2 : Int) (v4 : Int) (M : Mm) : Option (Int × Mm) :=
  if i32 (cmp64 v0 v2) < 0 then
    some (0, M)
  else
    if 0 < i32 (cmp64 v0 v4) then
      some (0, M)
    else
      some (1, M)
set_option maxRecDepth 20000 in
set_option maxHeartbeats 4000000 in
theorem c_M_isIn (d : Nat) (v0 : Int) (v2 : Int) (v4 : Int) (M : Mm) (Q : Option Value → Mm → Prop) (h : sat injI (f_M_isIn v0 v2 v4 M) Q) : Ct (d + 1) y_M_isIn [vJ v0, vJ v2, vJ v4] M Q := by
  refine ct_in (d := d + 0) mk_M_isIn (Nat.le_of_ble_eq_true rfl) (?_ : T (E_M_isIn d) injI 0 [(0, vJ v0), (2, vJ v2), (4, vJ v4)] [] M (f_M_isIn v0 v2 v4 M)) h
  unfold f_M_isIn
  refine tq_lload_n 0 (E := E_M_isIn d) (pc := 0) (cks_at k_M_isIn 0 rfl rfl) rfl ?_
  refine tq_lload_n 1 (E := E_M_isIn d) (pc := 1) (cks_at k_M_isIn 1 rfl rfl) rfl ?_
  refine tq_lcmp (E := E_M_isIn d) (pc := 2) (cks_at k_M_isIn 2 rfl rfl) ?_
  refine tq_if_lt (E := E_M_isIn d) (pc := 3) (tgt := 17) (cks_at k_M_isIn 3 rfl rfl) (by decide) ?_ ?_
  · refine tq_iconst (E := E_M_isIn d) (pc := 17) (cks_at k_M_isIn 10 rfl rfl) ?_
    exact tq_zretC (E := E_M_isIn d) (pc := 18) (cks_at k_M_isIn 11 rfl rfl) rfl (by decide)
  · refine tq_lload_n 0 (E := E_M_isIn d) (pc := 6) (cks_at k_M_isIn 4 rfl rfl) rfl ?_
    refine tq_lload 2 (E := E_M_isIn d) (pc := 7) (cks_at k_M_isIn 5 rfl rfl) rfl ?_
    refine tq_lcmp (E := E_M_isIn d) (pc := 9) (cks_at k_M_isIn 6 rfl rfl) ?_
    refine tq_if_gt (E := E_M_isIn d) (pc := 10) (tgt := 17) (cks_at k_M_isIn 7 rfl rfl) (by decide) ?_ ?_
    · refine tq_iconst (E := E_M_isIn d) (pc := 17) (cks_at k_M_isIn 10 rfl rfl) ?_
      exact tq_zretC (E := E_M_isIn d) (pc := 18) (cks_at k_M_isIn 11 rfl rfl) rfl (by decide)
    · refine tq_iconst (E := E_M_isIn d) (pc := 13) (cks_at k_M_isIn 8 rfl rfl) ?_
      refine tq_goto (tgt := 18) (E := E_M_isIn d) (pc := 14) (cks_at k_M_isIn 9 rfl rfl) (by decide) ?_
      exact tq_zretC (E := E_M_isIn d) (pc := 18) (cks_at k_M_isIn 11 rfl rfl) rfl (by decide)
abbrev E_M_status (d : Nat) : Ev := (Ct (d + 1), "BreathTownModel", prog_14_method_152_code, 2, False, 0, (fun _ => 0), (Option.some Jvm.ClassFile.FieldType.int))
def f_M_status (v1 : Int) (M : Mm) : Option (Int × Mm) :=
  bI (f_M_isIn (i32 v1) 0 5 M) (fun r2 M1 =>
  if i32 r2 = 0 then
    some ((-1), M1)
  else
    gd (0 ≤ i32 v1 ∧ i32 v1 < ((6 : Nat) : Int)) <|
    some (M1 80 (i32 v1).toNat, M1))
set_option maxRecDepth 20000 in
set_option maxHeartbeats 4000000 in
theorem c_M_status (d : Nat) (v1 : Int) (M : Mm) (Q : Option Value → Mm → Prop) (h : sat injI (f_M_status v1 M) Q) : Ct (d + 2) y_M_status [.ref 78, vI v1] M Q := by
  refine ct_in (d := d + 1) mk_M_status (Nat.le_of_ble_eq_true rfl) (?_ : T (E_M_status d) injI 0 [(0, .ref 78), (1, vI v1)] [] M (f_M_status v1 M)) h
  unfold f_M_status
  refine tq_iload_n 1 (E := E_M_status d) (pc := 0) (cks_at k_M_status 0 rfl rfl) rfl ?_
  refine tq_i2l (E := E_M_status d) (pc := 1) (cks_at k_M_status 1 rfl rfl) ?_
  refine tq_lconst0 (E := E_M_status d) (pc := 2) (cks_at k_M_status 2 rfl rfl) ?_
  refine tq_ldc2 (z := 5) (E := E_M_status d) (pc := 3) (cks_at k_M_status 3 rfl rfl) cst_M_507 ?_
  refine tq_S3 (E := E_M_status d) (pc := 6) (cks_at k_M_status 4 rfl rfl) mk_M_isIn lk_M_265 (Nat.le_of_ble_eq_true rfl) (c_M_isIn (d + 0) (i32 v1) 0 5 M) (k_I fun r2 M1 => ?_)
  refine tq_if_eq (E := E_M_status d) (pc := 9) (tgt := 21) (cks_at k_M_status 5 rfl rfl) (by decide) ?_ ?_
  · refine tq_iconst (E := E_M_status d) (pc := 21) (cks_at k_M_status 11 rfl rfl) ?_
    exact tq_iret (E := E_M_status d) (pc := 22) (cks_at k_M_status 12 rfl rfl) rfl
  · refine tq_aload_n 0 (E := E_M_status d) (pc := 12) (cks_at k_M_status 6 rfl rfl) rfl ?_
    refine tq_getR (j := 80) (E := E_M_status d) (pc := 13) (cks_at k_M_status 7 rfl rfl) fo_M_17 so_78 rfl sp_78_9 ?_
    refine tq_iload_n 1 (E := E_M_status d) (pc := 16) (cks_at k_M_status 8 rfl rfl) rfl ?_
    refine tq_iald (E := E_M_status d) (pc := 17) (cks_at k_M_status 9 rfl rfl) sa_80 sn_80 ?_
    refine tq_goto (tgt := 22) (E := E_M_status d) (pc := 18) (cks_at k_M_status 10 rfl rfl) (by decide) ?_
    exact tq_iret (E := E_M_status d) (pc := 22) (cks_at k_M_status 12 rfl rfl) rfl
abbrev E_BT_cell (d : Nat) : Ev := (Ct (d + 0), "BreathTown", prog_1_method_42_code, 2, False, 0, (fun _ => 0), (Option.some Jvm.ClassFile.FieldType.int))
def f_BT_cell (row0 : Nat) (v1 : Int) (M : Mm) : Option (Int × Mm) :=
  if i32 v1 < 0 then
    some (0, M)
  else
    if i32 (((slen row0 : Nat) : Int)) ≤ i32 v1 then
      some (0, M)
    else
      gd (0 ≤ i32 v1 ∧ i32 v1 < ((slen row0 : Nat) : Int)) <|
      some (M row0 (i32 v1).toNat, M)
set_option maxRecDepth 20000 in
set_option maxHeartbeats 4000000 in
theorem c_BT_cell (d : Nat) (row0 : Nat) (hrow0 : skind row0 = 20 ∧ row0 < NC) (v1 : Int) (M : Mm) (Q : Option Value → Mm → Prop) (h : sat injI (f_BT_cell row0 v1 M) Q) : Ct (d + 1) y_BT_cell [.ref row0, vI v1] M Q := by
  refine ct_in (d := d + 0) mk_BT_cell (Nat.le_of_ble_eq_true rfl) (?_ : T (E_BT_cell d) injI 0 [(0, .ref row0), (1, vI v1)] [] M (f_BT_cell row0 v1 M)) h
  unfold f_BT_cell
  refine tq_iload_n 1 (E := E_BT_cell d) (pc := 0) (cks_at k_BT_cell 0 rfl rfl) rfl ?_
  refine tq_if_lt (E := E_BT_cell d) (pc := 1) (tgt := 16) (cks_at k_BT_cell 1 rfl rfl) (by decide) ?_ ?_
  · refine tq_iconst (E := E_BT_cell d) (pc := 16) (cks_at k_BT_cell 10 rfl rfl) ?_
    exact tq_iret (E := E_BT_cell d) (pc := 17) (cks_at k_BT_cell 11 rfl rfl) rfl
  · refine tq_iload_n 1 (E := E_BT_cell d) (pc := 4) (cks_at k_BT_cell 2 rfl rfl) rfl ?_
    refine tq_aload_n 0 (E := E_BT_cell d) (pc := 5) (cks_at k_BT_cell 3 rfl rfl) rfl ?_
    refine tq_alen (E := E_BT_cell d) (pc := 6) (cks_at k_BT_cell 4 rfl rfl) ⟨by rw [(hrow0).1]; decide, by rw [(hrow0).1]; decide, (hrow0).2⟩ rfl ?_
    refine tq_icmp_ge (E := E_BT_cell d) (pc := 7) (tgt := 16) (cks_at k_BT_cell 5 rfl rfl) (by decide) ?_ ?_
    · refine tq_iconst (E := E_BT_cell d) (pc := 16) (cks_at k_BT_cell 10 rfl rfl) ?_
      exact tq_iret (E := E_BT_cell d) (pc := 17) (cks_at k_BT_cell 11 rfl rfl) rfl
    · refine tq_aload_n 0 (E := E_BT_cell d) (pc := 10) (cks_at k_BT_cell 6 rfl rfl) rfl ?_
      refine tq_iload_n 1 (E := E_BT_cell d) (pc := 11) (cks_at k_BT_cell 7 rfl rfl) rfl ?_
      refine tq_iald (E := E_BT_cell d) (pc := 12) (cks_at k_BT_cell 8 rfl rfl) hrow0 rfl ?_
      refine tq_goto (tgt := 17) (E := E_BT_cell d) (pc := 13) (cks_at k_BT_cell 9 rfl rfl) (by decide) ?_
      exact tq_iret (E := E_BT_cell d) (pc := 17) (cks_at k_BT_cell 11 rfl rfl) rfl
abbrev E_BT_status (d : Nat) : Ev := (Ct (d + 1), "BreathTown", prog_1_method_35_code, 2, False, 0, (fun _ => 0), (Option.some Jvm.ClassFile.FieldType.int))
def f_BT_status (v1 : Int) (M : Mm) : Option (Int × Mm) :=
  if i32 v1 < 0 then
    some ((-1), M)
  else
    if i32 (((6 : Nat) : Int)) ≤ i32 v1 then
      some ((-1), M)
    else
      bI (f_BT_cell 77 v1 M) (fun r2 M1 =>
      some (r2, M1))
set_option maxRecDepth 20000 in
set_option maxHeartbeats 4000000 in
theorem c_BT_status (d : Nat) (v1 : Int) (M : Mm) (Q : Option Value → Mm → Prop) (h : sat injI (f_BT_status v1 M) Q) : Ct (d + 2) y_BT_status [.ref 0, vI v1] M Q := by
  refine ct_in (d := d + 1) mk_BT_status (Nat.le_of_ble_eq_true rfl) (?_ : T (E_BT_status d) injI 0 [(0, .ref 0), (1, vI v1)] [] M (f_BT_status v1 M)) h
  unfold f_BT_status
  refine tq_iload_n 1 (E := E_BT_status d) (pc := 0) (cks_at k_BT_status 0 rfl rfl) rfl ?_
  refine tq_if_lt (E := E_BT_status d) (pc := 1) (tgt := 24) (cks_at k_BT_status 1 rfl rfl) (by decide) ?_ ?_
  · refine tq_iconst (E := E_BT_status d) (pc := 24) (cks_at k_BT_status 12 rfl rfl) ?_
    exact tq_iret (E := E_BT_status d) (pc := 25) (cks_at k_BT_status 13 rfl rfl) rfl
  · refine tq_iload_n 1 (E := E_BT_status d) (pc := 4) (cks_at k_BT_status 2 rfl rfl) rfl ?_
    refine tq_aload_n 0 (E := E_BT_status d) (pc := 5) (cks_at k_BT_status 3 rfl rfl) rfl ?_
    refine tq_getR (j := 77) (E := E_BT_status d) (pc := 6) (cks_at k_BT_status 4 rfl rfl) fo_BT_87 so_0 rfl sp_0_10 ?_
    refine tq_alen (E := E_BT_status d) (pc := 9) (cks_at k_BT_status 5 rfl rfl) ⟨by rw [(sa_77).1]; decide, by rw [(sa_77).1]; decide, (sa_77).2⟩ sn_77 ?_
    refine tq_icmp_ge (E := E_BT_status d) (pc := 10) (tgt := 24) (cks_at k_BT_status 6 rfl rfl) (by decide) ?_ ?_
    · refine tq_iconst (E := E_BT_status d) (pc := 24) (cks_at k_BT_status 12 rfl rfl) ?_
      exact tq_iret (E := E_BT_status d) (pc := 25) (cks_at k_BT_status 13 rfl rfl) rfl
    · refine tq_aload_n 0 (E := E_BT_status d) (pc := 13) (cks_at k_BT_status 7 rfl rfl) rfl ?_
      refine tq_getR (j := 77) (E := E_BT_status d) (pc := 14) (cks_at k_BT_status 8 rfl rfl) fo_BT_87 so_0 rfl sp_0_10 ?_
      refine tq_iload_n 1 (E := E_BT_status d) (pc := 17) (cks_at k_BT_status 9 rfl rfl) rfl ?_
      refine tq_S2 (E := E_BT_status d) (pc := 18) (cks_at k_BT_status 10 rfl rfl) mk_BT_cell lk_BT_150 (Nat.le_of_ble_eq_true rfl) (c_BT_cell (d + 0) 77 sa_77 v1 M) (k_I fun r2 M1 => ?_)
      refine tq_goto (tgt := 25) (E := E_BT_status d) (pc := 21) (cks_at k_BT_status 11 rfl rfl) (by decide) ?_
      exact tq_iret (E := E_BT_status d) (pc := 25) (cks_at k_BT_status 13 rfl rfl) rfl
abbrev E_M_streetMany (d : Nat) : Ev := (Ct (d + 0), "BreathTownModel", prog_14_method_44_code, 1, False, 0, (fun _ => 0), (Option.some Jvm.ClassFile.FieldType.int))
def f_M_streetMany (M : Mm) : Option (Int × Mm) :=
  some (M 98 4, M)
set_option maxRecDepth 20000 in
set_option maxHeartbeats 4000000 in
theorem c_M_streetMany (d : Nat) (M : Mm) (Q : Option Value → Mm → Prop) (h : sat injI (f_M_streetMany M) Q) : Ct (d + 1) y_M_streetMany [.ref 78] M Q := by
  refine ct_in (d := d + 0) mk_M_streetMany (Nat.le_of_ble_eq_true rfl) (?_ : T (E_M_streetMany d) injI 0 [(0, .ref 78)] [] M (f_M_streetMany M)) h
  unfold f_M_streetMany
  refine tq_aload_n 0 (E := E_M_streetMany d) (pc := 0) (cks_at k_M_streetMany 0 rfl rfl) rfl ?_
  refine tq_getR (j := 98) (E := E_M_streetMany d) (pc := 1) (cks_at k_M_streetMany 1 rfl rfl) fo_M_72 so_78 rfl sp_78_28 ?_
  refine tq_iconst (E := E_M_streetMany d) (pc := 4) (cks_at k_M_streetMany 2 rfl rfl) ?_
  refine tq_ialdC 4 (E := E_M_streetMany d) (pc := 5) (cks_at k_M_streetMany 3 rfl rfl) sa_98 sn_98 (by decide) ?_
  exact tq_iret (E := E_M_streetMany d) (pc := 6) (cks_at k_M_streetMany 4 rfl rfl) rfl
abbrev E_M_walkerMany (d : Nat) : Ev := (Ct (d + 0), "BreathTownModel", prog_14_method_45_code, 1, False, 0, (fun _ => 0), (Option.some Jvm.ClassFile.FieldType.int))
def f_M_walkerMany (M : Mm) : Option (Int × Mm) :=
  some (M 98 5, M)
set_option maxRecDepth 20000 in
set_option maxHeartbeats 4000000 in
theorem c_M_walkerMany (d : Nat) (M : Mm) (Q : Option Value → Mm → Prop) (h : sat injI (f_M_walkerMany M) Q) : Ct (d + 1) y_M_walkerMany [.ref 78] M Q := by
  refine ct_in (d := d + 0) mk_M_walkerMany (Nat.le_of_ble_eq_true rfl) (?_ : T (E_M_walkerMany d) injI 0 [(0, .ref 78)] [] M (f_M_walkerMany M)) h
  unfold f_M_walkerMany
  refine tq_aload_n 0 (E := E_M_walkerMany d) (pc := 0) (cks_at k_M_walkerMany 0 rfl rfl) rfl ?_
  refine tq_getR (j := 98) (E := E_M_walkerMany d) (pc := 1) (cks_at k_M_walkerMany 1 rfl rfl) fo_M_72 so_78 rfl sp_78_28 ?_
  refine tq_iconst (E := E_M_walkerMany d) (pc := 4) (cks_at k_M_walkerMany 2 rfl rfl) ?_
  refine tq_ialdC 5 (E := E_M_walkerMany d) (pc := 5) (cks_at k_M_walkerMany 3 rfl rfl) sa_98 sn_98 (by decide) ?_
  exact tq_iret (E := E_M_walkerMany d) (pc := 6) (cks_at k_M_walkerMany 4 rfl rfl) rfl
abbrev E_M_checked (d : Nat) : Ev := (Ct (d + 0), "BreathTownModel", prog_14_method_146_code, 4, False, 0, (fun _ => 0), (Option.some Jvm.ClassFile.FieldType.int))
def f_M_checked_B6 (row0 : Nat) (kH : Int → Int → Int → Mm → Option (Int × Mm)) (v1 v2 v3 : Int) (M : Mm) : Option (Int × Mm) :=
  if i32 v1 ≤ i32 v3 then
    some (v2, M)
  else
    gd (0 ≤ i32 v3 ∧ i32 v3 < ((slen row0 : Nat) : Int)) <|
    kH v1 ((i32 ((3 * v2) + (M row0 (i32 v3).toNat))).tmod (i32 251)) (v3 + 1) M
set_option maxRecDepth 20000 in
set_option maxHeartbeats 4000000 in
theorem w_M_checked_B6 (d : Nat) (row0 : Nat) (hrow0 : skind row0 = 20 ∧ row0 < NC) (kH : Int → Int → Int → Mm → Option (Int × Mm)) (hkH : ∀ (v1 v2 v3 : Int) (M : Mm), T (E_M_checked d) injI 6 [(0, .ref row0), (1, vI v1), (2, vI v2), (3, vI v3)] [] M (kH v1 v2 v3 M)) (v1 v2 v3 : Int) (M : Mm) : T (E_M_checked d) injI 6 [(0, .ref row0), (1, vI v1), (2, vI v2), (3, vI v3)] [] M (f_M_checked_B6 row0 kH v1 v2 v3 M) := by
  unfold f_M_checked_B6
  refine tq_iload_n 3 (E := E_M_checked d) (pc := 6) (cks_at k_M_checked 4 rfl rfl) rfl ?_
  refine tq_iload_n 1 (E := E_M_checked d) (pc := 7) (cks_at k_M_checked 5 rfl rfl) rfl ?_
  refine tq_icmp_ge (E := E_M_checked d) (pc := 8) (tgt := 29) (cks_at k_M_checked 6 rfl rfl) (by decide) ?_ ?_
  · refine tq_iload_n 2 (E := E_M_checked d) (pc := 29) (cks_at k_M_checked 19 rfl rfl) rfl ?_
    exact tq_iret (E := E_M_checked d) (pc := 30) (cks_at k_M_checked 20 rfl rfl) rfl
  · refine tq_iconst (E := E_M_checked d) (pc := 11) (cks_at k_M_checked 7 rfl rfl) ?_
    refine tq_iload_n 2 (E := E_M_checked d) (pc := 12) (cks_at k_M_checked 8 rfl rfl) rfl ?_
    refine tq_imul (E := E_M_checked d) (pc := 13) (cks_at k_M_checked 9 rfl rfl) ?_
    refine tq_aload_n 0 (E := E_M_checked d) (pc := 14) (cks_at k_M_checked 10 rfl rfl) rfl ?_
    refine tq_iload_n 3 (E := E_M_checked d) (pc := 15) (cks_at k_M_checked 11 rfl rfl) rfl ?_
    refine tq_iald (E := E_M_checked d) (pc := 16) (cks_at k_M_checked 12 rfl rfl) hrow0 rfl ?_
    refine tq_iadd (E := E_M_checked d) (pc := 17) (cks_at k_M_checked 13 rfl rfl) ?_
    refine tq_sipush (E := E_M_checked d) (pc := 18) (cks_at k_M_checked 14 rfl rfl) (by decide) (by decide) ?_
    refine tq_iremC (E := E_M_checked d) (pc := 21) (cks_at k_M_checked 15 rfl rfl) (by decide) ?_
    refine tq_istore_n (E := E_M_checked d) (pc := 22) (cks_at k_M_checked 16 rfl rfl) (show 2 < 4 by decide) rfl ?_
    refine tq_iinc 3 (E := E_M_checked d) (pc := 23) (cks_at k_M_checked 17 rfl rfl) rfl (show 3 < 4 by decide) rfl ?_
    refine tq_goto (tgt := 6) (E := E_M_checked d) (pc := 26) (cks_at k_M_checked 18 rfl rfl) (by decide) ?_
    exact tq_sub [2, 3, 1, 0] rfl (hkH v1 ((i32 ((3 * v2) + (M row0 (i32 v3).toNat))).tmod (i32 251)) (v3 + 1) M)
def f_M_checked_L6 (row0 : Nat) : Nat → Int × Int × Int × Mm → Option (Int × Mm) := lp fun kH s => f_M_checked_B6 row0 (fun v1 v2 v3 M => kH (v1, v2, v3, M)) s.1 s.2.1 s.2.2.1 s.2.2.2
set_option maxRecDepth 20000 in
set_option maxHeartbeats 4000000 in
theorem w_M_checked_L6 (d : Nat) (row0 : Nat) (hrow0 : skind row0 = 20 ∧ row0 < NC) (n : Nat) (s : Int × Int × Int × Mm) : T (E_M_checked d) injI 6 [(0, .ref row0), (1, vI s.1), (2, vI s.2.1), (3, vI s.2.2.1)] [] s.2.2.2 (f_M_checked_L6 row0 n s) :=
  tq_lp (fun s => [(0, .ref row0), (1, vI s.1), (2, vI s.2.1), (3, vI s.2.2.1)]) (fun s => s.2.2.2) (fun kH hH s => w_M_checked_B6 d row0 hrow0 (fun v1 v2 v3 M => kH (v1, v2, v3, M)) (fun v1 v2 v3 M => hH (v1, v2, v3, M)) s.1 s.2.1 s.2.2.1 s.2.2.2) n s
def f_M_checked (row0 : Nat) (v1 : Int) (M : Mm) : Option (Int × Mm) :=
  f_M_checked_L6 row0 FU (v1, 163, 0, M)
set_option maxRecDepth 20000 in
set_option maxHeartbeats 4000000 in
theorem c_M_checked (d : Nat) (row0 : Nat) (hrow0 : skind row0 = 20 ∧ row0 < NC) (v1 : Int) (M : Mm) (Q : Option Value → Mm → Prop) (h : sat injI (f_M_checked row0 v1 M) Q) : Ct (d + 1) y_M_checked [.ref row0, vI v1] M Q := by
  refine ct_in (d := d + 0) mk_M_checked (Nat.le_of_ble_eq_true rfl) (?_ : T (E_M_checked d) injI 0 [(0, .ref row0), (1, vI v1)] [] M (f_M_checked row0 v1 M)) h
  unfold f_M_checked
  refine tq_sipush (E := E_M_checked d) (pc := 0) (cks_at k_M_checked 0 rfl rfl) (by decide) (by decide) ?_
  refine tq_istore_n (E := E_M_checked d) (pc := 3) (cks_at k_M_checked 1 rfl rfl) (show 2 < 4 by decide) rfl ?_
  refine tq_iconst (E := E_M_checked d) (pc := 4) (cks_at k_M_checked 2 rfl rfl) ?_
  refine tq_istore_n (E := E_M_checked d) (pc := 5) (cks_at k_M_checked 3 rfl rfl) (show 3 < 4 by decide) rfl ?_
  exact tq_sub [2, 3, 1, 0] rfl (w_M_checked_L6 d row0 hrow0 FU (v1, 163, 0, M))
