abbrev E_M_isDigit (d : Nat) : Ev := (Ct (d + 0), "BreathTownModel", prog_14_method_7_code, 1, False, 0, (fun _ => 0), (Option.some Jvm.ClassFile.FieldType.boolean))
def f_M_isDigit (v0 : Int) (M : Mm) : Option (Int × Mm) :=
  if i32 v0 < i32 48 then
    some (0, M)
  else
    if i32 57 < i32 v0 then
      some (0, M)
    else
      some (1, M)
set_option maxRecDepth 20000 in
set_option maxHeartbeats 4000000 in
theorem c_M_isDigit (d : Nat) (v0 : Int) (M : Mm) (Q : Option Value → Mm → Prop) (h : sat injI (f_M_isDigit v0 M) Q) : Ct (d + 1) y_M_isDigit [vI v0] M Q := by
  refine ct_in (d := d + 0) mk_M_isDigit (Nat.le_of_ble_eq_true rfl) (?_ : T (E_M_isDigit d) injI 0 [(0, vI v0)] [] M (f_M_isDigit v0 M)) h
  unfold f_M_isDigit
  refine tq_iload_n 0 (E := E_M_isDigit d) (pc := 0) (cks_at k_M_isDigit 0 rfl rfl) rfl ?_
  refine tq_bipush (E := E_M_isDigit d) (pc := 1) (cks_at k_M_isDigit 1 rfl rfl) (by decide) (by decide) ?_
  refine tq_icmp_lt (E := E_M_isDigit d) (pc := 3) (tgt := 16) (cks_at k_M_isDigit 2 rfl rfl) (by decide) ?_ ?_
  · refine tq_iconst (E := E_M_isDigit d) (pc := 16) (cks_at k_M_isDigit 8 rfl rfl) ?_
    exact tq_zretC (E := E_M_isDigit d) (pc := 17) (cks_at k_M_isDigit 9 rfl rfl) rfl (by decide)
  · refine tq_iload_n 0 (E := E_M_isDigit d) (pc := 6) (cks_at k_M_isDigit 3 rfl rfl) rfl ?_
    refine tq_bipush (E := E_M_isDigit d) (pc := 7) (cks_at k_M_isDigit 4 rfl rfl) (by decide) (by decide) ?_
    refine tq_icmp_gt (E := E_M_isDigit d) (pc := 9) (tgt := 16) (cks_at k_M_isDigit 5 rfl rfl) (by decide) ?_ ?_
    · refine tq_iconst (E := E_M_isDigit d) (pc := 16) (cks_at k_M_isDigit 8 rfl rfl) ?_
      exact tq_zretC (E := E_M_isDigit d) (pc := 17) (cks_at k_M_isDigit 9 rfl rfl) rfl (by decide)
    · refine tq_iconst (E := E_M_isDigit d) (pc := 12) (cks_at k_M_isDigit 6 rfl rfl) ?_
      refine tq_goto (tgt := 17) (E := E_M_isDigit d) (pc := 13) (cks_at k_M_isDigit 7 rfl rfl) (by decide) ?_
      exact tq_zretC (E := E_M_isDigit d) (pc := 17) (cks_at k_M_isDigit 9 rfl rfl) rfl (by decide)
abbrev E_M_number (d : Nat) : Ev := (Ct (d + 1), "BreathTownModel", prog_14_method_14_code, 5, False, 0, (fun _ => 0), (Option.some Jvm.ClassFile.FieldType.int))
def f_M_number_J30 (M : Mm) : Option (Int × Mm) :=
  bV (f_M_fail 1 (M 78 2) M) (fun M5 =>
  some (0, M5))
set_option maxRecDepth 20000 in
set_option maxHeartbeats 4000000 in
theorem w_M_number_J30 (d : Nat) (M : Mm) : T (E_M_number d) injI 30 [(0, .ref 78)] [] M (f_M_number_J30 M) := by
  unfold f_M_number_J30
  refine tq_aload_n 0 (E := E_M_number d) (pc := 30) (cks_at k_M_number 14 rfl rfl) rfl ?_
  refine tq_iconst (E := E_M_number d) (pc := 31) (cks_at k_M_number 15 rfl rfl) ?_
  refine tq_aload_n 0 (E := E_M_number d) (pc := 32) (cks_at k_M_number 16 rfl rfl) rfl ?_
  refine tq_getI (E := E_M_number d) (pc := 33) (cks_at k_M_number 17 rfl rfl) fo_M_231 so_78 rfl (by decide) ?_
  refine tq_V2 (E := E_M_number d) (pc := 36) (cks_at k_M_number 18 rfl rfl) mk_M_fail lk_M_255 rc_78 (Nat.le_of_ble_eq_true rfl) (c_M_fail (d + 0) 1 (M 78 2) M) (k_V fun M5 => ?_)
  refine tq_iconst (E := E_M_number d) (pc := 39) (cks_at k_M_number 19 rfl rfl) ?_
  exact tq_iret (E := E_M_number d) (pc := 40) (cks_at k_M_number 20 rfl rfl) rfl
def f_M_number_B49 (kH : Int → Int → Int → Int → Mm → Option (Int × Mm)) (kx129 : Int → Int → Int → Int → Mm → Option (Int × Mm)) (kx85 : Mm → Option (Int × Mm)) (v1 v2 v3 v4 : Int) (M : Mm) : Option (Int × Mm) :=
  if i32 (M 78 3) ≤ i32 (M 78 2) then
    kx129 v1 v2 v3 v4 M
  else
    gd (0 ≤ i32 (M 78 2) ∧ i32 (M 78 2) < ((1600 : Nat) : Int)) <|
    bI (f_M_isDigit (M 79 (i32 (M 78 2)).toNat) M) (fun r7 M6 =>
    if i32 r7 = 0 then
      kx129 v1 v2 v3 v4 M6
    else
      if ¬ i32 ((M6 78 2) - v3) = i32 4 then
        gd (0 ≤ i32 (M6 78 2) ∧ i32 (M6 78 2) < ((1600 : Nat) : Int)) <|
        bd (up M6 78 2 ((M6 78 2) + 1)) (fun M8 =>
        kH v1 v2 v3 (((10 * v4) + (M6 79 (i32 (M6 78 2)).toNat)) - 48) M8)
      else
        kx85 M6)
set_option maxRecDepth 20000 in
set_option maxHeartbeats 4000000 in
theorem w_M_number_B49 (d : Nat) (kH : Int → Int → Int → Int → Mm → Option (Int × Mm)) (kx129 : Int → Int → Int → Int → Mm → Option (Int × Mm)) (kx85 : Mm → Option (Int × Mm)) (hkH : ∀ (v1 v2 v3 v4 : Int) (M : Mm), T (E_M_number d) injI 49 [(0, .ref 78), (1, vI v1), (2, vI v2), (3, vI v3), (4, vI v4)] [] M (kH v1 v2 v3 v4 M)) (hkx129 : ∀ (v1 v2 v3 v4 : Int) (M : Mm), T (E_M_number d) injI 129 [(0, .ref 78), (1, vI v1), (2, vI v2), (3, vI v3), (4, vI v4)] [] M (kx129 v1 v2 v3 v4 M)) (hkx85 : ∀  (M : Mm), T (E_M_number d) injI 85 [(0, .ref 78)] [] M (kx85 M)) (v1 v2 v3 v4 : Int) (M : Mm) : T (E_M_number d) injI 49 [(0, .ref 78), (1, vI v1), (2, vI v2), (3, vI v3), (4, vI v4)] [] M (f_M_number_B49 kH kx129 kx85 v1 v2 v3 v4 M) := by
  unfold f_M_number_B49
  refine tq_aload_n 0 (E := E_M_number d) (pc := 49) (cks_at k_M_number 26 rfl rfl) rfl ?_
  refine tq_getI (E := E_M_number d) (pc := 50) (cks_at k_M_number 27 rfl rfl) fo_M_231 so_78 rfl (by decide) ?_
  refine tq_aload_n 0 (E := E_M_number d) (pc := 53) (cks_at k_M_number 28 rfl rfl) rfl ?_
  refine tq_getI (E := E_M_number d) (pc := 54) (cks_at k_M_number 29 rfl rfl) fo_M_234 so_78 rfl (by decide) ?_
  refine tq_icmp_ge (E := E_M_number d) (pc := 57) (tgt := 129) (cks_at k_M_number 30 rfl rfl) (by decide) ?_ ?_
  · exact tq_sub [0, 1, 2, 3, 4] rfl (hkx129 v1 v2 v3 v4 M)
  · refine tq_aload_n 0 (E := E_M_number d) (pc := 60) (cks_at k_M_number 31 rfl rfl) rfl ?_
    refine tq_getR (j := 79) (E := E_M_number d) (pc := 61) (cks_at k_M_number 32 rfl rfl) fo_M_7 so_78 rfl sp_78_0 ?_
    refine tq_aload_n 0 (E := E_M_number d) (pc := 64) (cks_at k_M_number 33 rfl rfl) rfl ?_
    refine tq_getI (E := E_M_number d) (pc := 65) (cks_at k_M_number 34 rfl rfl) fo_M_231 so_78 rfl (by decide) ?_
    refine tq_iald (E := E_M_number d) (pc := 68) (cks_at k_M_number 35 rfl rfl) sa_79 sn_79 ?_
    refine tq_S1 (E := E_M_number d) (pc := 69) (cks_at k_M_number 36 rfl rfl) mk_M_isDigit lk_M_262 (Nat.le_of_ble_eq_true rfl) (c_M_isDigit (d + 0) (M 79 (i32 (M 78 2)).toNat) M) (k_I fun r7 M6 => ?_)
    refine tq_if_eq (E := E_M_number d) (pc := 72) (tgt := 129) (cks_at k_M_number 37 rfl rfl) (by decide) ?_ ?_
    · exact tq_sub [0, 1, 2, 3, 4] rfl (hkx129 v1 v2 v3 v4 M6)
    · refine tq_aload_n 0 (E := E_M_number d) (pc := 75) (cks_at k_M_number 38 rfl rfl) rfl ?_
      refine tq_getI (E := E_M_number d) (pc := 76) (cks_at k_M_number 39 rfl rfl) fo_M_231 so_78 rfl (by decide) ?_
      refine tq_iload_n 3 (E := E_M_number d) (pc := 79) (cks_at k_M_number 40 rfl rfl) rfl ?_
      refine tq_isub (E := E_M_number d) (pc := 80) (cks_at k_M_number 41 rfl rfl) ?_
      refine tq_iconst (E := E_M_number d) (pc := 81) (cks_at k_M_number 42 rfl rfl) ?_
      refine tq_icmp_ne (E := E_M_number d) (pc := 82) (tgt := 96) (cks_at k_M_number 43 rfl rfl) (by decide) ?_ ?_
      · refine tq_bipush (E := E_M_number d) (pc := 96) (cks_at k_M_number 51 rfl rfl) (by decide) (by decide) ?_
        refine tq_iload 4 (E := E_M_number d) (pc := 98) (cks_at k_M_number 52 rfl rfl) rfl ?_
        refine tq_imul (E := E_M_number d) (pc := 100) (cks_at k_M_number 53 rfl rfl) ?_
        refine tq_aload_n 0 (E := E_M_number d) (pc := 101) (cks_at k_M_number 54 rfl rfl) rfl ?_
        refine tq_getR (j := 79) (E := E_M_number d) (pc := 102) (cks_at k_M_number 55 rfl rfl) fo_M_7 so_78 rfl sp_78_0 ?_
        refine tq_aload_n 0 (E := E_M_number d) (pc := 105) (cks_at k_M_number 56 rfl rfl) rfl ?_
        refine tq_getI (E := E_M_number d) (pc := 106) (cks_at k_M_number 57 rfl rfl) fo_M_231 so_78 rfl (by decide) ?_
        refine tq_iald (E := E_M_number d) (pc := 109) (cks_at k_M_number 58 rfl rfl) sa_79 sn_79 ?_
        refine tq_iadd (E := E_M_number d) (pc := 110) (cks_at k_M_number 59 rfl rfl) ?_
        refine tq_bipush (E := E_M_number d) (pc := 111) (cks_at k_M_number 60 rfl rfl) (by decide) (by decide) ?_
        refine tq_isub (E := E_M_number d) (pc := 113) (cks_at k_M_number 61 rfl rfl) ?_
        refine tq_istore (E := E_M_number d) (pc := 114) (cks_at k_M_number 62 rfl rfl) (show 4 < 5 by decide) rfl ?_
        refine tq_aload_n 1 (E := E_M_number d) (pc := 116) (cks_at k_M_number 63 rfl rfl) rfl ?_
        refine tq_dup (E := E_M_number d) (pc := 117) (cks_at k_M_number 64 rfl rfl) rfl ?_
        refine tq_getI (E := E_M_number d) (pc := 118) (cks_at k_M_number 65 rfl rfl) fo_M_231 so_78 rfl (by decide) ?_
        refine tq_iconst (E := E_M_number d) (pc := 121) (cks_at k_M_number 66 rfl rfl) ?_
        refine tq_iadd (E := E_M_number d) (pc := 122) (cks_at k_M_number 67 rfl rfl) ?_
        refine tq_putI (E := E_M_number d) (pc := 123) (cks_at k_M_number 68 rfl rfl) fo_M_231 so_78 rfl po_12_2 (fun M8 => ?_)
        refine tq_goto (tgt := 49) (E := E_M_number d) (pc := 126) (cks_at k_M_number 69 rfl rfl) (by decide) ?_
        exact tq_sub [1, 2, 3, 4, 0] rfl (hkH v1 v2 v3 (((10 * v4) + (M6 79 (i32 (M6 78 2)).toNat)) - 48) M8)
      · exact tq_sub [0] rfl (hkx85 M6)
def f_M_number_L49 (kx129 : Int → Int → Int → Int → Mm → Option (Int × Mm)) (kx85 : Mm → Option (Int × Mm)) : Nat → Int × Int × Int × Int × Mm → Option (Int × Mm) := lp fun kH s => f_M_number_B49 (fun v1 v2 v3 v4 M => kH (v1, v2, v3, v4, M)) kx129 kx85 s.1 s.2.1 s.2.2.1 s.2.2.2.1 s.2.2.2.2
set_option maxRecDepth 20000 in
set_option maxHeartbeats 4000000 in
theorem w_M_number_L49 (d : Nat) (kx129 : Int → Int → Int → Int → Mm → Option (Int × Mm)) (kx85 : Mm → Option (Int × Mm)) (hkx129 : ∀ (v1 v2 v3 v4 : Int) (M : Mm), T (E_M_number d) injI 129 [(0, .ref 78), (1, vI v1), (2, vI v2), (3, vI v3), (4, vI v4)] [] M (kx129 v1 v2 v3 v4 M)) (hkx85 : ∀  (M : Mm), T (E_M_number d) injI 85 [(0, .ref 78)] [] M (kx85 M)) (n : Nat) (s : Int × Int × Int × Int × Mm) : T (E_M_number d) injI 49 [(0, .ref 78), (1, vI s.1), (2, vI s.2.1), (3, vI s.2.2.1), (4, vI s.2.2.2.1)] [] s.2.2.2.2 (f_M_number_L49 kx129 kx85 n s) :=
  tq_lp (fun s => [(0, .ref 78), (1, vI s.1), (2, vI s.2.1), (3, vI s.2.2.1), (4, vI s.2.2.2.1)]) (fun s => s.2.2.2.2) (fun kH hH s => w_M_number_B49 d (fun v1 v2 v3 v4 M => kH (v1, v2, v3, v4, M)) kx129 kx85 (fun v1 v2 v3 v4 M => hH (v1, v2, v3, v4, M)) hkx129 hkx85 s.1 s.2.1 s.2.2.1 s.2.2.2.1 s.2.2.2.2) n s
def f_M_number_J129 (v1 v2 v3 v4 : Int) (M : Mm) : Option (Int × Mm) :=
  bd (up M 78 4 (M 78 2)) (fun M10 =>
  bI (f_M_isIn (i32 v4) (i32 v1) (i32 v2) M10) (fun r12 M11 =>
  if ¬ i32 r12 = 0 then
    some (v4, M11)
  else
    bV (f_M_fail 2 v3 M11) (fun M13 =>
    some (v4, M13))))
set_option maxRecDepth 20000 in
set_option maxHeartbeats 4000000 in
theorem w_M_number_J129 (d : Nat) (v1 v2 v3 v4 : Int) (M : Mm) : T (E_M_number d) injI 129 [(0, .ref 78), (1, vI v1), (2, vI v2), (3, vI v3), (4, vI v4)] [] M (f_M_number_J129 v1 v2 v3 v4 M) := by
  unfold f_M_number_J129
  refine tq_aload_n 0 (E := E_M_number d) (pc := 129) (cks_at k_M_number 70 rfl rfl) rfl ?_
  refine tq_aload_n 0 (E := E_M_number d) (pc := 130) (cks_at k_M_number 71 rfl rfl) rfl ?_
  refine tq_getI (E := E_M_number d) (pc := 131) (cks_at k_M_number 72 rfl rfl) fo_M_231 so_78 rfl (by decide) ?_
  refine tq_putI (E := E_M_number d) (pc := 134) (cks_at k_M_number 73 rfl rfl) fo_M_245 so_78 rfl po_12_4 (fun M10 => ?_)
  refine tq_iload 4 (E := E_M_number d) (pc := 137) (cks_at k_M_number 74 rfl rfl) rfl ?_
  refine tq_i2l (E := E_M_number d) (pc := 139) (cks_at k_M_number 75 rfl rfl) ?_
  refine tq_iload_n 1 (E := E_M_number d) (pc := 140) (cks_at k_M_number 76 rfl rfl) rfl ?_
  refine tq_i2l (E := E_M_number d) (pc := 141) (cks_at k_M_number 77 rfl rfl) ?_
  refine tq_iload_n 2 (E := E_M_number d) (pc := 142) (cks_at k_M_number 78 rfl rfl) rfl ?_
  refine tq_i2l (E := E_M_number d) (pc := 143) (cks_at k_M_number 79 rfl rfl) ?_
  refine tq_S3 (E := E_M_number d) (pc := 144) (cks_at k_M_number 80 rfl rfl) mk_M_isIn lk_M_265 (Nat.le_of_ble_eq_true rfl) (c_M_isIn (d + 0) (i32 v4) (i32 v1) (i32 v2) M10) (k_I fun r12 M11 => ?_)
  refine tq_if_ne (E := E_M_number d) (pc := 147) (tgt := 156) (cks_at k_M_number 81 rfl rfl) (by decide) ?_ ?_
  · refine tq_iload 4 (E := E_M_number d) (pc := 156) (cks_at k_M_number 86 rfl rfl) rfl ?_
    exact tq_iret (E := E_M_number d) (pc := 158) (cks_at k_M_number 87 rfl rfl) rfl
  · refine tq_aload_n 0 (E := E_M_number d) (pc := 150) (cks_at k_M_number 82 rfl rfl) rfl ?_
    refine tq_iconst (E := E_M_number d) (pc := 151) (cks_at k_M_number 83 rfl rfl) ?_
    refine tq_iload_n 3 (E := E_M_number d) (pc := 152) (cks_at k_M_number 84 rfl rfl) rfl ?_
    refine tq_V2 (E := E_M_number d) (pc := 153) (cks_at k_M_number 85 rfl rfl) mk_M_fail lk_M_255 rc_78 (Nat.le_of_ble_eq_true rfl) (c_M_fail (d + 0) 2 v3 M11) (k_V fun M13 => ?_)
    refine tq_iload 4 (E := E_M_number d) (pc := 156) (cks_at k_M_number 86 rfl rfl) rfl ?_
    exact tq_iret (E := E_M_number d) (pc := 158) (cks_at k_M_number 87 rfl rfl) rfl
def f_M_number (v1 : Int) (v2 : Int) (M : Mm) : Option (Int × Mm) :=
  if i32 (M 78 5) = 0 then
    bI (f_M_look M) (fun r2 M1 =>
    bI (f_M_isDigit r2 M1) (fun r4 M3 =>
    if i32 r4 = 0 then
      f_M_number_J30 M3
    else
      if ¬ i32 (M3 78 2) = i32 (M3 78 4) then
        f_M_number_L49 (fun v1 v2 v3 v4 M9 => f_M_number_J129 v1 v2 v3 v4 M9) (fun M14 => bV (f_M_fail 1 (M14 78 2) M14) (fun M15 =>
            some (0, M15))) FU (v1, v2, (M3 78 2), 0, M3)
      else
        f_M_number_J30 M3))
  else
    some (0, M)
set_option maxRecDepth 20000 in
set_option maxHeartbeats 4000000 in
theorem c_M_number (d : Nat) (v1 : Int) (v2 : Int) (M : Mm) (Q : Option Value → Mm → Prop) (h : sat injI (f_M_number v1 v2 M) Q) : Ct (d + 2) y_M_number [.ref 78, vI v1, vI v2] M Q := by
  refine ct_in (d := d + 1) mk_M_number (Nat.le_of_ble_eq_true rfl) (?_ : T (E_M_number d) injI 0 [(0, .ref 78), (1, vI v1), (2, vI v2)] [] M (f_M_number v1 v2 M)) h
  unfold f_M_number
  refine tq_aload_n 0 (E := E_M_number d) (pc := 0) (cks_at k_M_number 0 rfl rfl) rfl ?_
  refine tq_getI (E := E_M_number d) (pc := 1) (cks_at k_M_number 1 rfl rfl) fo_M_225 so_78 rfl (by decide) ?_
  refine tq_if_eq (E := E_M_number d) (pc := 4) (tgt := 9) (cks_at k_M_number 2 rfl rfl) (by decide) ?_ ?_
  · refine tq_aload_n 0 (E := E_M_number d) (pc := 9) (cks_at k_M_number 5 rfl rfl) rfl ?_
    refine tq_V0 (E := E_M_number d) (pc := 10) (cks_at k_M_number 6 rfl rfl) mk_M_look lk_M_237 rc_78 (Nat.le_of_ble_eq_true rfl) (c_M_look (d + 0) M) (k_I fun r2 M1 => ?_)
    refine tq_S1 (E := E_M_number d) (pc := 13) (cks_at k_M_number 7 rfl rfl) mk_M_isDigit lk_M_262 (Nat.le_of_ble_eq_true rfl) (c_M_isDigit (d + 0) r2 M1) (k_I fun r4 M3 => ?_)
    refine tq_if_eq (E := E_M_number d) (pc := 16) (tgt := 30) (cks_at k_M_number 8 rfl rfl) (by decide) ?_ ?_
    · exact tq_sub [0] rfl (w_M_number_J30 d M3)
    · refine tq_aload_n 0 (E := E_M_number d) (pc := 19) (cks_at k_M_number 9 rfl rfl) rfl ?_
      refine tq_getI (E := E_M_number d) (pc := 20) (cks_at k_M_number 10 rfl rfl) fo_M_231 so_78 rfl (by decide) ?_
      refine tq_aload_n 0 (E := E_M_number d) (pc := 23) (cks_at k_M_number 11 rfl rfl) rfl ?_
      refine tq_getI (E := E_M_number d) (pc := 24) (cks_at k_M_number 12 rfl rfl) fo_M_245 so_78 rfl (by decide) ?_
      refine tq_icmp_ne (E := E_M_number d) (pc := 27) (tgt := 41) (cks_at k_M_number 13 rfl rfl) (by decide) ?_ ?_
      · refine tq_aload_n 0 (E := E_M_number d) (pc := 41) (cks_at k_M_number 21 rfl rfl) rfl ?_
        refine tq_getI (E := E_M_number d) (pc := 42) (cks_at k_M_number 22 rfl rfl) fo_M_231 so_78 rfl (by decide) ?_
        refine tq_istore_n (E := E_M_number d) (pc := 45) (cks_at k_M_number 23 rfl rfl) (show 3 < 5 by decide) rfl ?_
        refine tq_iconst (E := E_M_number d) (pc := 46) (cks_at k_M_number 24 rfl rfl) ?_
        refine tq_istore (E := E_M_number d) (pc := 47) (cks_at k_M_number 25 rfl rfl) (show 4 < 5 by decide) rfl ?_
        exact tq_sub [2, 3, 4, 1, 0] rfl (w_M_number_L49 d _ _ (fun v1 v2 v3 v4 M9 => by
            exact tq_sub [0, 1, 2, 3, 4] rfl (w_M_number_J129 d v1 v2 v3 v4 M9)) (fun M14 => by
            refine tq_aload_n 0 (E := E_M_number d) (pc := 85) (cks_at k_M_number 44 rfl rfl) rfl ?_
            refine tq_iconst (E := E_M_number d) (pc := 86) (cks_at k_M_number 45 rfl rfl) ?_
            refine tq_aload_n 0 (E := E_M_number d) (pc := 87) (cks_at k_M_number 46 rfl rfl) rfl ?_
            refine tq_getI (E := E_M_number d) (pc := 88) (cks_at k_M_number 47 rfl rfl) fo_M_231 so_78 rfl (by decide) ?_
            refine tq_V2 (E := E_M_number d) (pc := 91) (cks_at k_M_number 48 rfl rfl) mk_M_fail lk_M_255 rc_78 (Nat.le_of_ble_eq_true rfl) (c_M_fail (d + 0) 1 (M14 78 2) M14) (k_V fun M15 => ?_)
            refine tq_iconst (E := E_M_number d) (pc := 94) (cks_at k_M_number 49 rfl rfl) ?_
            exact tq_iret (E := E_M_number d) (pc := 95) (cks_at k_M_number 50 rfl rfl) rfl) FU (v1, v2, (M3 78 2), 0, M3))
      · exact tq_sub [0] rfl (w_M_number_J30 d M3)
  · refine tq_iconst (E := E_M_number d) (pc := 7) (cks_at k_M_number 3 rfl rfl) ?_
    exact tq_iret (E := E_M_number d) (pc := 8) (cks_at k_M_number 4 rfl rfl) rfl
abbrev E_M_qDrops (d : Nat) : Ev := (Ct (d + 1), "BreathTownModel", prog_14_method_119_code, 1, False, 0, (fun _ => 0), (Option.none : Option Jvm.ClassFile.FieldType))
def f_M_qDrops (M : Mm) : Option (Mm) :=
  bd (up M 78 91 ((M 78 91) - 1)) (fun M1 =>
  gd (0 ≤ i32 (M1 78 91) ∧ i32 (M1 78 91) < ((1700 : Nat) : Int)) <|
  bV (f_M_qCode (M1 143 (i32 (M1 78 91)).toNat) M1) (fun M2 =>
  some M2))
set_option maxRecDepth 20000 in
set_option maxHeartbeats 4000000 in
theorem c_M_qDrops (d : Nat) (M : Mm) (Q : Option Value → Mm → Prop) (h : sat injV (f_M_qDrops M) Q) : Ct (d + 2) y_M_qDrops [.ref 78] M Q := by
  refine ct_in (d := d + 1) mk_M_qDrops (Nat.le_of_ble_eq_true rfl) (?_ : T (E_M_qDrops d) injV 0 [(0, .ref 78)] [] M (f_M_qDrops M)) h
  unfold f_M_qDrops
  refine tq_aload_n 0 (E := E_M_qDrops d) (pc := 0) (cks_at k_M_qDrops 0 rfl rfl) rfl ?_
  refine tq_dup (E := E_M_qDrops d) (pc := 1) (cks_at k_M_qDrops 1 rfl rfl) rfl ?_
  refine tq_getI (E := E_M_qDrops d) (pc := 2) (cks_at k_M_qDrops 2 rfl rfl) fo_M_620 so_78 rfl (by decide) ?_
  refine tq_iconst (E := E_M_qDrops d) (pc := 5) (cks_at k_M_qDrops 3 rfl rfl) ?_
  refine tq_isub (E := E_M_qDrops d) (pc := 6) (cks_at k_M_qDrops 4 rfl rfl) ?_
  refine tq_putI (E := E_M_qDrops d) (pc := 7) (cks_at k_M_qDrops 5 rfl rfl) fo_M_620 so_78 rfl po_12_91 (fun M1 => ?_)
  refine tq_aload_n 0 (E := E_M_qDrops d) (pc := 10) (cks_at k_M_qDrops 6 rfl rfl) rfl ?_
  refine tq_aload_n 0 (E := E_M_qDrops d) (pc := 11) (cks_at k_M_qDrops 7 rfl rfl) rfl ?_
  refine tq_getR (j := 143) (E := E_M_qDrops d) (pc := 12) (cks_at k_M_qDrops 8 rfl rfl) fo_M_213 so_78 rfl sp_78_90 ?_
  refine tq_aload_n 0 (E := E_M_qDrops d) (pc := 15) (cks_at k_M_qDrops 9 rfl rfl) rfl ?_
  refine tq_getI (E := E_M_qDrops d) (pc := 16) (cks_at k_M_qDrops 10 rfl rfl) fo_M_620 so_78 rfl (by decide) ?_
  refine tq_iald (E := E_M_qDrops d) (pc := 19) (cks_at k_M_qDrops 11 rfl rfl) sa_143 sn_143 ?_
  refine tq_V1 (E := E_M_qDrops d) (pc := 20) (cks_at k_M_qDrops 12 rfl rfl) mk_M_qCode lk_M_623 rc_78 (Nat.le_of_ble_eq_true rfl) (c_M_qCode (d + 0) (M1 143 (i32 (M1 78 91)).toNat) M1) (k_V fun M2 => ?_)
  exact tq_vret (E := E_M_qDrops d) (pc := 23) (cks_at k_M_qDrops 13 rfl rfl) rfl
abbrev E_M_qEndsPart (d : Nat) : Ev := (Ct (d + 2), "BreathTownModel", prog_14_method_126_code, 1, False, 0, (fun _ => 0), (Option.none : Option Jvm.ClassFile.FieldType))
def f_M_qEndsPart_B0 (kH : Mm → Option (Mm)) (M : Mm) : Option (Mm) :=
  if ¬ i32 (M 78 5) = 0 then
    some M
  else
    if i32 (M 78 91) ≤ i32 (M 78 93) then
      some M
    else
      gd (0 ≤ i32 ((M 78 91) - 1) ∧ i32 ((M 78 91) - 1) < ((1700 : Nat) : Int)) <|
      if i32 (M 143 (i32 ((M 78 91) - 1)).toNat) < i32 60 then
        some M
      else
        bd (up M 78 92 ((M 78 92) - 1)) (fun M1 =>
        bV (f_M_qDrops M1) (fun M2 =>
        kH M2))
set_option maxRecDepth 20000 in
set_option maxHeartbeats 4000000 in
theorem w_M_qEndsPart_B0 (d : Nat) (kH : Mm → Option (Mm)) (hkH : ∀  (M : Mm), T (E_M_qEndsPart d) injV 0 [(0, .ref 78)] [] M (kH M)) (M : Mm) : T (E_M_qEndsPart d) injV 0 [(0, .ref 78)] [] M (f_M_qEndsPart_B0 kH M) := by
  unfold f_M_qEndsPart_B0
  refine tq_aload_n 0 (E := E_M_qEndsPart d) (pc := 0) (cks_at k_M_qEndsPart 0 rfl rfl) rfl ?_
  refine tq_getI (E := E_M_qEndsPart d) (pc := 1) (cks_at k_M_qEndsPart 1 rfl rfl) fo_M_225 so_78 rfl (by decide) ?_
  refine tq_if_ne (E := E_M_qEndsPart d) (pc := 4) (tgt := 51) (cks_at k_M_qEndsPart 2 rfl rfl) (by decide) ?_ ?_
  · exact tq_vret (E := E_M_qEndsPart d) (pc := 51) (cks_at k_M_qEndsPart 26 rfl rfl) rfl
  · refine tq_aload_n 0 (E := E_M_qEndsPart d) (pc := 7) (cks_at k_M_qEndsPart 3 rfl rfl) rfl ?_
    refine tq_getI (E := E_M_qEndsPart d) (pc := 8) (cks_at k_M_qEndsPart 4 rfl rfl) fo_M_620 so_78 rfl (by decide) ?_
    refine tq_aload_n 0 (E := E_M_qEndsPart d) (pc := 11) (cks_at k_M_qEndsPart 5 rfl rfl) rfl ?_
    refine tq_getI (E := E_M_qEndsPart d) (pc := 12) (cks_at k_M_qEndsPart 6 rfl rfl) fo_M_626 so_78 rfl (by decide) ?_
    refine tq_icmp_le (E := E_M_qEndsPart d) (pc := 15) (tgt := 51) (cks_at k_M_qEndsPart 7 rfl rfl) (by decide) ?_ ?_
    · exact tq_vret (E := E_M_qEndsPart d) (pc := 51) (cks_at k_M_qEndsPart 26 rfl rfl) rfl
    · refine tq_aload_n 0 (E := E_M_qEndsPart d) (pc := 18) (cks_at k_M_qEndsPart 8 rfl rfl) rfl ?_
      refine tq_getR (j := 143) (E := E_M_qEndsPart d) (pc := 19) (cks_at k_M_qEndsPart 9 rfl rfl) fo_M_213 so_78 rfl sp_78_90 ?_
      refine tq_aload_n 0 (E := E_M_qEndsPart d) (pc := 22) (cks_at k_M_qEndsPart 10 rfl rfl) rfl ?_
      refine tq_getI (E := E_M_qEndsPart d) (pc := 23) (cks_at k_M_qEndsPart 11 rfl rfl) fo_M_620 so_78 rfl (by decide) ?_
      refine tq_iconst (E := E_M_qEndsPart d) (pc := 26) (cks_at k_M_qEndsPart 12 rfl rfl) ?_
      refine tq_isub (E := E_M_qEndsPart d) (pc := 27) (cks_at k_M_qEndsPart 13 rfl rfl) ?_
      refine tq_iald (E := E_M_qEndsPart d) (pc := 28) (cks_at k_M_qEndsPart 14 rfl rfl) sa_143 sn_143 ?_
      refine tq_bipush (E := E_M_qEndsPart d) (pc := 29) (cks_at k_M_qEndsPart 15 rfl rfl) (by decide) (by decide) ?_
      refine tq_icmp_lt (E := E_M_qEndsPart d) (pc := 31) (tgt := 51) (cks_at k_M_qEndsPart 16 rfl rfl) (by decide) ?_ ?_
      · exact tq_vret (E := E_M_qEndsPart d) (pc := 51) (cks_at k_M_qEndsPart 26 rfl rfl) rfl
      · refine tq_aload_n 0 (E := E_M_qEndsPart d) (pc := 34) (cks_at k_M_qEndsPart 17 rfl rfl) rfl ?_
        refine tq_dup (E := E_M_qEndsPart d) (pc := 35) (cks_at k_M_qEndsPart 18 rfl rfl) rfl ?_
        refine tq_getI (E := E_M_qEndsPart d) (pc := 36) (cks_at k_M_qEndsPart 19 rfl rfl) fo_M_617 so_78 rfl (by decide) ?_
        refine tq_iconst (E := E_M_qEndsPart d) (pc := 39) (cks_at k_M_qEndsPart 20 rfl rfl) ?_
        refine tq_isub (E := E_M_qEndsPart d) (pc := 40) (cks_at k_M_qEndsPart 21 rfl rfl) ?_
        refine tq_putI (E := E_M_qEndsPart d) (pc := 41) (cks_at k_M_qEndsPart 22 rfl rfl) fo_M_617 so_78 rfl po_12_92 (fun M1 => ?_)
        refine tq_aload_n 0 (E := E_M_qEndsPart d) (pc := 44) (cks_at k_M_qEndsPart 23 rfl rfl) rfl ?_
        refine tq_V0 (E := E_M_qEndsPart d) (pc := 45) (cks_at k_M_qEndsPart 24 rfl rfl) mk_M_qDrops lk_M_632 rc_78 (Nat.le_of_ble_eq_true rfl) (c_M_qDrops (d + 0) M1) (k_V fun M2 => ?_)
        refine tq_goto (tgt := 0) (E := E_M_qEndsPart d) (pc := 48) (cks_at k_M_qEndsPart 25 rfl rfl) (by decide) ?_
        exact tq_sub [0] rfl (hkH M2)
def f_M_qEndsPart_L0 : Nat → Mm → Option (Mm) := lp fun kH s => f_M_qEndsPart_B0 kH s
set_option maxRecDepth 20000 in
set_option maxHeartbeats 4000000 in
theorem w_M_qEndsPart_L0 (d : Nat) (n : Nat) (s : Mm) : T (E_M_qEndsPart d) injV 0 [(0, .ref 78)] [] s (f_M_qEndsPart_L0 n s) :=
  tq_lp (fun s => [(0, .ref 78)]) (fun s => s) (fun kH hH s => w_M_qEndsPart_B0 d kH (fun M => hH (M)) s) n s
def f_M_qEndsPart (M : Mm) : Option (Mm) :=
  f_M_qEndsPart_L0 FU M
set_option maxRecDepth 20000 in
set_option maxHeartbeats 4000000 in
theorem c_M_qEndsPart (d : Nat) (M : Mm) (Q : Option Value → Mm → Prop) (h : sat injV (f_M_qEndsPart M) Q) : Ct (d + 3) y_M_qEndsPart [.ref 78] M Q := by
  refine ct_in (d := d + 2) mk_M_qEndsPart (Nat.le_of_ble_eq_true rfl) (?_ : T (E_M_qEndsPart d) injV 0 [(0, .ref 78)] [] M (f_M_qEndsPart M)) h
  unfold f_M_qEndsPart
  exact tq_sub [0] rfl (w_M_qEndsPart_L0 d FU M)
abbrev E_M_qPartTold (d : Nat) : Ev := (Ct (d + 5), "BreathTownModel", prog_14_method_127_code, 6, False, 0, (fun _ => 0), (Option.none : Option Jvm.ClassFile.FieldType))
def f_M_qPartTold_J117 (kH : Int → Mm → Option (Mm)) (kx184 : Mm → Option (Mm)) (v1 v4 s0 : Int) (M : Mm) : Option (Mm) :=
  if i32 s0 = i32 ((-1)) then
    bV (f_M_asksSign 40 M) (fun M11 =>
    kH v1 M11)
  else
    if i32 v4 = 0 then
      bV (f_M_qOpens 22 s0 M) (fun M12 =>
      bV (f_M_asksSign 40 M12) (fun M13 =>
      kH v1 M13))
    else
      bV (f_M_qOpens 21 s0 M) (fun M14 =>
      bV (f_M_asksSign 40 M14) (fun M15 =>
      kH v1 M15))
set_option maxRecDepth 20000 in
set_option maxHeartbeats 4000000 in
theorem w_M_qPartTold_J117 (d : Nat) (kH : Int → Mm → Option (Mm)) (kx184 : Mm → Option (Mm)) (hkH : ∀ (v1 : Int) (M : Mm), T (E_M_qPartTold d) injV 2 [(0, .ref 78), (1, vI v1)] [] M (kH v1 M)) (hkx184 : ∀  (M : Mm), T (E_M_qPartTold d) injV 184 [(0, .ref 78)] [] M (kx184 M)) (v1 v4 s0 : Int) (M : Mm) : T (E_M_qPartTold d) injV 117 [(0, .ref 78), (1, vI v1), (4, vI v4)] [vI s0] M (f_M_qPartTold_J117 kH kx184 v1 v4 s0 M) := by
  unfold f_M_qPartTold_J117
  refine tq_istore (E := E_M_qPartTold d) (pc := 117) (cks_at k_M_qPartTold 59 rfl rfl) (show 5 < 6 by decide) rfl ?_
  refine tq_iload 0 (E := E_M_qPartTold d) (pc := 119) (cks_at k_M_qPartTold 60 rfl rfl) rfl ?_
  refine tq_iconst (E := E_M_qPartTold d) (pc := 121) (cks_at k_M_qPartTold 61 rfl rfl) ?_
  refine tq_icmp_eq (E := E_M_qPartTold d) (pc := 122) (tgt := 143) (cks_at k_M_qPartTold 62 rfl rfl) (by decide) ?_ ?_
  · refine tq_aload_n 1 (E := E_M_qPartTold d) (pc := 143) (cks_at k_M_qPartTold 71 rfl rfl) rfl ?_
    refine tq_bipush (E := E_M_qPartTold d) (pc := 144) (cks_at k_M_qPartTold 72 rfl rfl) (by decide) (by decide) ?_
    refine tq_V1 (E := E_M_qPartTold d) (pc := 146) (cks_at k_M_qPartTold 73 rfl rfl) mk_M_asksSign lk_M_338 rc_78 (Nat.le_of_ble_eq_true rfl) (c_M_asksSign (d + 2) 40 M) (k_V fun M11 => ?_)
    refine tq_goto (tgt := 181) (E := E_M_qPartTold d) (pc := 149) (cks_at k_M_qPartTold 74 rfl rfl) (by decide) ?_
    refine tq_goto (tgt := 2) (E := E_M_qPartTold d) (pc := 181) (cks_at k_M_qPartTold 93 rfl rfl) (by decide) ?_
    exact tq_sub [1, 2] rfl (hkH v1 M11)
  · refine tq_aload_n 1 (E := E_M_qPartTold d) (pc := 125) (cks_at k_M_qPartTold 63 rfl rfl) rfl ?_
    refine tq_iload 3 (E := E_M_qPartTold d) (pc := 126) (cks_at k_M_qPartTold 64 rfl rfl) rfl ?_
    refine tq_if_eq (E := E_M_qPartTold d) (pc := 128) (tgt := 136) (cks_at k_M_qPartTold 65 rfl rfl) (by decide) ?_ ?_
    · refine tq_bipush (E := E_M_qPartTold d) (pc := 136) (cks_at k_M_qPartTold 68 rfl rfl) (by decide) (by decide) ?_
      refine tq_iload 0 (E := E_M_qPartTold d) (pc := 138) (cks_at k_M_qPartTold 69 rfl rfl) rfl ?_
      refine tq_V2 (E := E_M_qPartTold d) (pc := 140) (cks_at k_M_qPartTold 70 rfl rfl) mk_M_qOpens lk_M_641 rc_78 (Nat.le_of_ble_eq_true rfl) (c_M_qOpens (d + 3) 22 s0 M) (k_V fun M12 => ?_)
      refine tq_aload_n 1 (E := E_M_qPartTold d) (pc := 143) (cks_at k_M_qPartTold 71 rfl rfl) rfl ?_
      refine tq_bipush (E := E_M_qPartTold d) (pc := 144) (cks_at k_M_qPartTold 72 rfl rfl) (by decide) (by decide) ?_
      refine tq_V1 (E := E_M_qPartTold d) (pc := 146) (cks_at k_M_qPartTold 73 rfl rfl) mk_M_asksSign lk_M_338 rc_78 (Nat.le_of_ble_eq_true rfl) (c_M_asksSign (d + 2) 40 M12) (k_V fun M13 => ?_)
      refine tq_goto (tgt := 181) (E := E_M_qPartTold d) (pc := 149) (cks_at k_M_qPartTold 74 rfl rfl) (by decide) ?_
      refine tq_goto (tgt := 2) (E := E_M_qPartTold d) (pc := 181) (cks_at k_M_qPartTold 93 rfl rfl) (by decide) ?_
      exact tq_sub [1, 2] rfl (hkH v1 M13)
    · refine tq_bipush (E := E_M_qPartTold d) (pc := 131) (cks_at k_M_qPartTold 66 rfl rfl) (by decide) (by decide) ?_
      refine tq_goto (tgt := 138) (E := E_M_qPartTold d) (pc := 133) (cks_at k_M_qPartTold 67 rfl rfl) (by decide) ?_
      refine tq_iload 0 (E := E_M_qPartTold d) (pc := 138) (cks_at k_M_qPartTold 69 rfl rfl) rfl ?_
      refine tq_V2 (E := E_M_qPartTold d) (pc := 140) (cks_at k_M_qPartTold 70 rfl rfl) mk_M_qOpens lk_M_641 rc_78 (Nat.le_of_ble_eq_true rfl) (c_M_qOpens (d + 3) 21 s0 M) (k_V fun M14 => ?_)
      refine tq_aload_n 1 (E := E_M_qPartTold d) (pc := 143) (cks_at k_M_qPartTold 71 rfl rfl) rfl ?_
      refine tq_bipush (E := E_M_qPartTold d) (pc := 144) (cks_at k_M_qPartTold 72 rfl rfl) (by decide) (by decide) ?_
      refine tq_V1 (E := E_M_qPartTold d) (pc := 146) (cks_at k_M_qPartTold 73 rfl rfl) mk_M_asksSign lk_M_338 rc_78 (Nat.le_of_ble_eq_true rfl) (c_M_asksSign (d + 2) 40 M14) (k_V fun M15 => ?_)
      refine tq_goto (tgt := 181) (E := E_M_qPartTold d) (pc := 149) (cks_at k_M_qPartTold 74 rfl rfl) (by decide) ?_
      refine tq_goto (tgt := 2) (E := E_M_qPartTold d) (pc := 181) (cks_at k_M_qPartTold 93 rfl rfl) (by decide) ?_
      exact tq_sub [1, 2] rfl (hkH v1 M15)
def f_M_qPartTold_J100 (kH : Int → Mm → Option (Mm)) (kx184 : Mm → Option (Mm)) (v1 v4 : Int) (M : Mm) : Option (Mm) :=
  bI (f_M_look M) (fun r10 M9 =>
  if ¬ i32 r10 = i32 40 then
    f_M_qPartTold_J117 kH kx184 v1 v4 ((-1)) M9
  else
    f_M_qPartTold_J117 kH kx184 v1 v4 (M9 78 2) M9)
set_option maxRecDepth 20000 in
set_option maxHeartbeats 4000000 in
theorem w_M_qPartTold_J100 (d : Nat) (kH : Int → Mm → Option (Mm)) (kx184 : Mm → Option (Mm)) (hkH : ∀ (v1 : Int) (M : Mm), T (E_M_qPartTold d) injV 2 [(0, .ref 78), (1, vI v1)] [] M (kH v1 M)) (hkx184 : ∀  (M : Mm), T (E_M_qPartTold d) injV 184 [(0, .ref 78)] [] M (kx184 M)) (v1 v4 : Int) (M : Mm) : T (E_M_qPartTold d) injV 100 [(0, .ref 78), (1, vI v1), (4, vI v4)] [] M (f_M_qPartTold_J100 kH kx184 v1 v4 M) := by
  unfold f_M_qPartTold_J100
  refine tq_aload_n 0 (E := E_M_qPartTold d) (pc := 100) (cks_at k_M_qPartTold 51 rfl rfl) rfl ?_
  refine tq_V0 (E := E_M_qPartTold d) (pc := 101) (cks_at k_M_qPartTold 52 rfl rfl) mk_M_look lk_M_237 rc_78 (Nat.le_of_ble_eq_true rfl) (c_M_look (d + 4) M) (k_I fun r10 M9 => ?_)
  refine tq_bipush (E := E_M_qPartTold d) (pc := 104) (cks_at k_M_qPartTold 53 rfl rfl) (by decide) (by decide) ?_
  refine tq_icmp_ne (E := E_M_qPartTold d) (pc := 106) (tgt := 116) (cks_at k_M_qPartTold 54 rfl rfl) (by decide) ?_ ?_
  · refine tq_iconst (E := E_M_qPartTold d) (pc := 116) (cks_at k_M_qPartTold 58 rfl rfl) ?_
    exact tq_sub [0, 1, 2] rfl (w_M_qPartTold_J117 d kH kx184 hkH hkx184 v1 v4 ((-1)) M9)
  · refine tq_aload_n 0 (E := E_M_qPartTold d) (pc := 109) (cks_at k_M_qPartTold 55 rfl rfl) rfl ?_
    refine tq_getI (E := E_M_qPartTold d) (pc := 110) (cks_at k_M_qPartTold 56 rfl rfl) fo_M_231 so_78 rfl (by decide) ?_
    refine tq_goto (tgt := 117) (E := E_M_qPartTold d) (pc := 113) (cks_at k_M_qPartTold 57 rfl rfl) (by decide) ?_
    exact tq_sub [0, 1, 2] rfl (w_M_qPartTold_J117 d kH kx184 hkH hkx184 v1 v4 (M9 78 2) M9)
def f_M_qPartTold_J77 (kH : Int → Mm → Option (Mm)) (kx184 : Mm → Option (Mm)) (v1 : Int) (M : Mm) : Option (Mm) :=
  bI (f_M_takes 134 M) (fun r8 M7 =>
  if ¬ i32 r8 = 0 then
    f_M_qPartTold_J100 kH kx184 v1 r8 M7
  else
    bV (f_M_asks 135 M7) (fun M16 =>
    f_M_qPartTold_J100 kH kx184 v1 r8 M16))
set_option maxRecDepth 20000 in
set_option maxHeartbeats 4000000 in
theorem w_M_qPartTold_J77 (d : Nat) (kH : Int → Mm → Option (Mm)) (kx184 : Mm → Option (Mm)) (hkH : ∀ (v1 : Int) (M : Mm), T (E_M_qPartTold d) injV 2 [(0, .ref 78), (1, vI v1)] [] M (kH v1 M)) (hkx184 : ∀  (M : Mm), T (E_M_qPartTold d) injV 184 [(0, .ref 78)] [] M (kx184 M)) (v1 : Int) (M : Mm) : T (E_M_qPartTold d) injV 77 [(0, .ref 78), (1, vI v1)] [] M (f_M_qPartTold_J77 kH kx184 v1 M) := by
  unfold f_M_qPartTold_J77
  refine tq_aload_n 0 (E := E_M_qPartTold d) (pc := 77) (cks_at k_M_qPartTold 40 rfl rfl) rfl ?_
  refine tq_aload_n 0 (E := E_M_qPartTold d) (pc := 78) (cks_at k_M_qPartTold 41 rfl rfl) rfl ?_
  refine tq_getR (j := 134) (E := E_M_qPartTold d) (pc := 79) (cks_at k_M_qPartTold 42 rfl rfl) fo_M_186 so_78 rfl sp_78_80 ?_
  refine tq_V1 (E := E_M_qPartTold d) (pc := 82) (cks_at k_M_qPartTold 43 rfl rfl) mk_M_takes lk_M_252 rc_78 (Nat.le_of_ble_eq_true rfl) (c_M_takes (d + 2) 134 sa_134 M) (k_I fun r8 M7 => ?_)
  refine tq_istore (E := E_M_qPartTold d) (pc := 85) (cks_at k_M_qPartTold 44 rfl rfl) (show 4 < 6 by decide) rfl ?_
  refine tq_iload 0 (E := E_M_qPartTold d) (pc := 87) (cks_at k_M_qPartTold 45 rfl rfl) rfl ?_
  refine tq_if_ne (E := E_M_qPartTold d) (pc := 89) (tgt := 100) (cks_at k_M_qPartTold 46 rfl rfl) (by decide) ?_ ?_
  · exact tq_sub [1, 2, 0] rfl (w_M_qPartTold_J100 d kH kx184 hkH hkx184 v1 r8 M7)
  · refine tq_aload_n 1 (E := E_M_qPartTold d) (pc := 92) (cks_at k_M_qPartTold 47 rfl rfl) rfl ?_
    refine tq_aload_n 1 (E := E_M_qPartTold d) (pc := 93) (cks_at k_M_qPartTold 48 rfl rfl) rfl ?_
    refine tq_getR (j := 135) (E := E_M_qPartTold d) (pc := 94) (cks_at k_M_qPartTold 49 rfl rfl) fo_M_189 so_78 rfl sp_78_81 ?_
    refine tq_V1 (E := E_M_qPartTold d) (pc := 97) (cks_at k_M_qPartTold 50 rfl rfl) mk_M_asks lk_M_295 rc_78 (Nat.le_of_ble_eq_true rfl) (c_M_asks (d + 1) 135 sa_135 M7) (k_V fun M16 => ?_)
    exact tq_sub [1, 2, 0] rfl (w_M_qPartTold_J100 d kH kx184 hkH hkx184 v1 r8 M16)
def f_M_qPartTold_B2 (kH : Int → Mm → Option (Mm)) (kx184 : Mm → Option (Mm)) (v1 : Int) (M : Mm) : Option (Mm) :=
  if i32 v1 = 0 then
    kx184 M
  else
    if ¬ i32 (M 78 5) = 0 then
      kx184 M
    else
      bI (f_M_look M) (fun r2 M1 =>
      bI (f_M_qWordOf 3 6 M1) (fun r4 M3 =>
      if ¬ i32 r2 = i32 40 then
        bI (f_M_isHere 134 M3) (fun r6 M5 =>
        if ¬ i32 r6 = 0 then
          f_M_qPartTold_J77 kH kx184 v1 M5
        else
          bI (f_M_isHere 135 M5) (fun r18 M17 =>
          if i32 r18 = 0 then
            if i32 r4 = i32 ((-1)) then
              kH 0 M17
            else
              bV (f_M_qOpens ((60 + r4) - 3) (M17 78 2) M17) (fun M19 =>
              bV (f_M_qAsksWord r4 M19) (fun M20 =>
              kH v1 M20))
          else
            f_M_qPartTold_J77 kH kx184 v1 M17))
      else
        bV (f_M_qOpens 20 (M3 78 2) M3) (fun M21 =>
        bd (up M21 78 2 ((M21 78 2) + 1)) (fun M22 =>
        kH v1 M22))))
set_option maxRecDepth 20000 in
set_option maxHeartbeats 4000000 in
theorem w_M_qPartTold_B2 (d : Nat) (kH : Int → Mm → Option (Mm)) (kx184 : Mm → Option (Mm)) (hkH : ∀ (v1 : Int) (M : Mm), T (E_M_qPartTold d) injV 2 [(0, .ref 78), (1, vI v1)] [] M (kH v1 M)) (hkx184 : ∀  (M : Mm), T (E_M_qPartTold d) injV 184 [(0, .ref 78)] [] M (kx184 M)) (v1 : Int) (M : Mm) : T (E_M_qPartTold d) injV 2 [(0, .ref 78), (1, vI v1)] [] M (f_M_qPartTold_B2 kH kx184 v1 M) := by
  unfold f_M_qPartTold_B2
  refine tq_iload_n 1 (E := E_M_qPartTold d) (pc := 2) (cks_at k_M_qPartTold 2 rfl rfl) rfl ?_
  refine tq_if_eq (E := E_M_qPartTold d) (pc := 3) (tgt := 184) (cks_at k_M_qPartTold 3 rfl rfl) (by decide) ?_ ?_
  · exact tq_sub [0] rfl (hkx184 M)
  · refine tq_aload_n 0 (E := E_M_qPartTold d) (pc := 6) (cks_at k_M_qPartTold 4 rfl rfl) rfl ?_
    refine tq_getI (E := E_M_qPartTold d) (pc := 7) (cks_at k_M_qPartTold 5 rfl rfl) fo_M_225 so_78 rfl (by decide) ?_
    refine tq_if_ne (E := E_M_qPartTold d) (pc := 10) (tgt := 184) (cks_at k_M_qPartTold 6 rfl rfl) (by decide) ?_ ?_
    · exact tq_sub [0] rfl (hkx184 M)
    · refine tq_aload_n 0 (E := E_M_qPartTold d) (pc := 13) (cks_at k_M_qPartTold 7 rfl rfl) rfl ?_
      refine tq_V0 (E := E_M_qPartTold d) (pc := 14) (cks_at k_M_qPartTold 8 rfl rfl) mk_M_look lk_M_237 rc_78 (Nat.le_of_ble_eq_true rfl) (c_M_look (d + 4) M) (k_I fun r2 M1 => ?_)
      refine tq_istore_n (E := E_M_qPartTold d) (pc := 17) (cks_at k_M_qPartTold 9 rfl rfl) (show 2 < 6 by decide) rfl ?_
      refine tq_aload_n 1 (E := E_M_qPartTold d) (pc := 18) (cks_at k_M_qPartTold 10 rfl rfl) rfl ?_
      refine tq_iconst (E := E_M_qPartTold d) (pc := 19) (cks_at k_M_qPartTold 11 rfl rfl) ?_
      refine tq_bipush (E := E_M_qPartTold d) (pc := 20) (cks_at k_M_qPartTold 12 rfl rfl) (by decide) (by decide) ?_
      refine tq_V2 (E := E_M_qPartTold d) (pc := 22) (cks_at k_M_qPartTold 13 rfl rfl) mk_M_qWordOf lk_M_638 rc_78 (Nat.le_of_ble_eq_true rfl) (c_M_qWordOf (d + 1) 3 6 M1) (k_I fun r4 M3 => ?_)
      refine tq_istore_n (E := E_M_qPartTold d) (pc := 25) (cks_at k_M_qPartTold 14 rfl rfl) (show 3 < 6 by decide) rfl ?_
      refine tq_iload_n 1 (E := E_M_qPartTold d) (pc := 26) (cks_at k_M_qPartTold 15 rfl rfl) rfl ?_
      refine tq_bipush (E := E_M_qPartTold d) (pc := 27) (cks_at k_M_qPartTold 16 rfl rfl) (by decide) (by decide) ?_
      refine tq_icmp_ne (E := E_M_qPartTold d) (pc := 29) (tgt := 55) (cks_at k_M_qPartTold 17 rfl rfl) (by decide) ?_ ?_
      · refine tq_aload_n 2 (E := E_M_qPartTold d) (pc := 55) (cks_at k_M_qPartTold 30 rfl rfl) rfl ?_
        refine tq_aload_n 2 (E := E_M_qPartTold d) (pc := 56) (cks_at k_M_qPartTold 31 rfl rfl) rfl ?_
        refine tq_getR (j := 134) (E := E_M_qPartTold d) (pc := 57) (cks_at k_M_qPartTold 32 rfl rfl) fo_M_186 so_78 rfl sp_78_80 ?_
        refine tq_V1 (E := E_M_qPartTold d) (pc := 60) (cks_at k_M_qPartTold 33 rfl rfl) mk_M_isHere lk_M_248 rc_78 (Nat.le_of_ble_eq_true rfl) (c_M_isHere (d + 3) 134 sa_134 M3) (k_I fun r6 M5 => ?_)
        refine tq_if_ne (E := E_M_qPartTold d) (pc := 63) (tgt := 77) (cks_at k_M_qPartTold 34 rfl rfl) (by decide) ?_ ?_
        · exact tq_sub [2, 3] rfl (w_M_qPartTold_J77 d kH kx184 hkH hkx184 v1 M5)
        · refine tq_aload_n 2 (E := E_M_qPartTold d) (pc := 66) (cks_at k_M_qPartTold 35 rfl rfl) rfl ?_
          refine tq_aload_n 2 (E := E_M_qPartTold d) (pc := 67) (cks_at k_M_qPartTold 36 rfl rfl) rfl ?_
          refine tq_getR (j := 135) (E := E_M_qPartTold d) (pc := 68) (cks_at k_M_qPartTold 37 rfl rfl) fo_M_189 so_78 rfl sp_78_81 ?_
          refine tq_V1 (E := E_M_qPartTold d) (pc := 71) (cks_at k_M_qPartTold 38 rfl rfl) mk_M_isHere lk_M_248 rc_78 (Nat.le_of_ble_eq_true rfl) (c_M_isHere (d + 3) 135 sa_135 M5) (k_I fun r18 M17 => ?_)
          refine tq_if_eq (E := E_M_qPartTold d) (pc := 74) (tgt := 152) (cks_at k_M_qPartTold 39 rfl rfl) (by decide) ?_ ?_
          · refine tq_iload_n 0 (E := E_M_qPartTold d) (pc := 152) (cks_at k_M_qPartTold 75 rfl rfl) rfl ?_
            refine tq_iconst (E := E_M_qPartTold d) (pc := 153) (cks_at k_M_qPartTold 76 rfl rfl) ?_
            refine tq_icmp_eq (E := E_M_qPartTold d) (pc := 154) (tgt := 179) (cks_at k_M_qPartTold 77 rfl rfl) (by decide) ?_ ?_
            · refine tq_iconst (E := E_M_qPartTold d) (pc := 179) (cks_at k_M_qPartTold 91 rfl rfl) ?_
              refine tq_istore_n (E := E_M_qPartTold d) (pc := 180) (cks_at k_M_qPartTold 92 rfl rfl) (show 1 < 6 by decide) rfl ?_
              refine tq_goto (tgt := 2) (E := E_M_qPartTold d) (pc := 181) (cks_at k_M_qPartTold 93 rfl rfl) (by decide) ?_
              exact tq_sub [3, 0] rfl (hkH 0 M17)
            · refine tq_aload_n 2 (E := E_M_qPartTold d) (pc := 157) (cks_at k_M_qPartTold 78 rfl rfl) rfl ?_
              refine tq_bipush (E := E_M_qPartTold d) (pc := 158) (cks_at k_M_qPartTold 79 rfl rfl) (by decide) (by decide) ?_
              refine tq_iload_n 0 (E := E_M_qPartTold d) (pc := 160) (cks_at k_M_qPartTold 80 rfl rfl) rfl ?_
              refine tq_iadd (E := E_M_qPartTold d) (pc := 161) (cks_at k_M_qPartTold 81 rfl rfl) ?_
              refine tq_iconst (E := E_M_qPartTold d) (pc := 162) (cks_at k_M_qPartTold 82 rfl rfl) ?_
              refine tq_isub (E := E_M_qPartTold d) (pc := 163) (cks_at k_M_qPartTold 83 rfl rfl) ?_
              refine tq_aload_n 2 (E := E_M_qPartTold d) (pc := 164) (cks_at k_M_qPartTold 84 rfl rfl) rfl ?_
              refine tq_getI (E := E_M_qPartTold d) (pc := 165) (cks_at k_M_qPartTold 85 rfl rfl) fo_M_231 so_78 rfl (by decide) ?_
              refine tq_V2 (E := E_M_qPartTold d) (pc := 168) (cks_at k_M_qPartTold 86 rfl rfl) mk_M_qOpens lk_M_641 rc_78 (Nat.le_of_ble_eq_true rfl) (c_M_qOpens (d + 3) ((60 + r4) - 3) (M17 78 2) M17) (k_V fun M19 => ?_)
              refine tq_aload_n 2 (E := E_M_qPartTold d) (pc := 171) (cks_at k_M_qPartTold 87 rfl rfl) rfl ?_
              refine tq_iload_n 0 (E := E_M_qPartTold d) (pc := 172) (cks_at k_M_qPartTold 88 rfl rfl) rfl ?_
              refine tq_V1 (E := E_M_qPartTold d) (pc := 173) (cks_at k_M_qPartTold 89 rfl rfl) mk_M_qAsksWord lk_M_644 rc_78 (Nat.le_of_ble_eq_true rfl) (c_M_qAsksWord (d + 0) r4 M19) (k_V fun M20 => ?_)
              refine tq_goto (tgt := 181) (E := E_M_qPartTold d) (pc := 176) (cks_at k_M_qPartTold 90 rfl rfl) (by decide) ?_
              refine tq_goto (tgt := 2) (E := E_M_qPartTold d) (pc := 181) (cks_at k_M_qPartTold 93 rfl rfl) (by decide) ?_
              exact tq_sub [2, 3] rfl (hkH v1 M20)
          · exact tq_sub [2, 3] rfl (w_M_qPartTold_J77 d kH kx184 hkH hkx184 v1 M17)
      · refine tq_aload_n 2 (E := E_M_qPartTold d) (pc := 32) (cks_at k_M_qPartTold 18 rfl rfl) rfl ?_
        refine tq_bipush (E := E_M_qPartTold d) (pc := 33) (cks_at k_M_qPartTold 19 rfl rfl) (by decide) (by decide) ?_
        refine tq_aload_n 2 (E := E_M_qPartTold d) (pc := 35) (cks_at k_M_qPartTold 20 rfl rfl) rfl ?_
        refine tq_getI (E := E_M_qPartTold d) (pc := 36) (cks_at k_M_qPartTold 21 rfl rfl) fo_M_231 so_78 rfl (by decide) ?_
        refine tq_V2 (E := E_M_qPartTold d) (pc := 39) (cks_at k_M_qPartTold 22 rfl rfl) mk_M_qOpens lk_M_641 rc_78 (Nat.le_of_ble_eq_true rfl) (c_M_qOpens (d + 3) 20 (M3 78 2) M3) (k_V fun M21 => ?_)
        refine tq_aload_n 2 (E := E_M_qPartTold d) (pc := 42) (cks_at k_M_qPartTold 23 rfl rfl) rfl ?_
        refine tq_dup (E := E_M_qPartTold d) (pc := 43) (cks_at k_M_qPartTold 24 rfl rfl) rfl ?_
        refine tq_getI (E := E_M_qPartTold d) (pc := 44) (cks_at k_M_qPartTold 25 rfl rfl) fo_M_231 so_78 rfl (by decide) ?_
        refine tq_iconst (E := E_M_qPartTold d) (pc := 47) (cks_at k_M_qPartTold 26 rfl rfl) ?_
        refine tq_iadd (E := E_M_qPartTold d) (pc := 48) (cks_at k_M_qPartTold 27 rfl rfl) ?_
        refine tq_putI (E := E_M_qPartTold d) (pc := 49) (cks_at k_M_qPartTold 28 rfl rfl) fo_M_231 so_78 rfl po_12_2 (fun M22 => ?_)
        refine tq_goto (tgt := 181) (E := E_M_qPartTold d) (pc := 52) (cks_at k_M_qPartTold 29 rfl rfl) (by decide) ?_
        refine tq_goto (tgt := 2) (E := E_M_qPartTold d) (pc := 181) (cks_at k_M_qPartTold 93 rfl rfl) (by decide) ?_
        exact tq_sub [2, 3] rfl (hkH v1 M22)
def f_M_qPartTold_L2 (kx184 : Mm → Option (Mm)) : Nat → Int × Mm → Option (Mm) := lp fun kH s => f_M_qPartTold_B2 (fun v1 M => kH (v1, M)) kx184 s.1 s.2
set_option maxRecDepth 20000 in
set_option maxHeartbeats 4000000 in
theorem w_M_qPartTold_L2 (d : Nat) (kx184 : Mm → Option (Mm)) (hkx184 : ∀  (M : Mm), T (E_M_qPartTold d) injV 184 [(0, .ref 78)] [] M (kx184 M)) (n : Nat) (s : Int × Mm) : T (E_M_qPartTold d) injV 2 [(0, .ref 78), (1, vI s.1)] [] s.2 (f_M_qPartTold_L2 kx184 n s) :=
  tq_lp (fun s => [(0, .ref 78), (1, vI s.1)]) (fun s => s.2) (fun kH hH s => w_M_qPartTold_B2 d (fun v1 M => kH (v1, M)) kx184 (fun v1 M => hH (v1, M)) hkx184 s.1 s.2) n s
def f_M_qPartTold_J209 (v2 : Int) (M : Mm) : Option (Mm) :=
  if i32 v2 = i32 ((-1)) then
    bI (f_M_number 0 9999 M) (fun r27 M26 =>
    bV (f_M_qCode (1000 + r27) M26) (fun M28 =>
    bV (f_M_qEndsPart M28) (fun M29 =>
    some M29)))
  else
    bV (f_M_qCode (40 + v2) M) (fun M30 =>
    bV (f_M_qEndsPart M30) (fun M31 =>
    some M31))
set_option maxRecDepth 20000 in
set_option maxHeartbeats 4000000 in
theorem w_M_qPartTold_J209 (d : Nat) (v2 : Int) (M : Mm) : T (E_M_qPartTold d) injV 209 [(0, .ref 78), (2, vI v2)] [] M (f_M_qPartTold_J209 v2 M) := by
  unfold f_M_qPartTold_J209
  refine tq_aload_n 0 (E := E_M_qPartTold d) (pc := 209) (cks_at k_M_qPartTold 109 rfl rfl) rfl ?_
  refine tq_iload_n 1 (E := E_M_qPartTold d) (pc := 210) (cks_at k_M_qPartTold 110 rfl rfl) rfl ?_
  refine tq_iconst (E := E_M_qPartTold d) (pc := 211) (cks_at k_M_qPartTold 111 rfl rfl) ?_
  refine tq_icmp_eq (E := E_M_qPartTold d) (pc := 212) (tgt := 222) (cks_at k_M_qPartTold 112 rfl rfl) (by decide) ?_ ?_
  · refine tq_sipush (E := E_M_qPartTold d) (pc := 222) (cks_at k_M_qPartTold 117 rfl rfl) (by decide) (by decide) ?_
    refine tq_aload_n 0 (E := E_M_qPartTold d) (pc := 225) (cks_at k_M_qPartTold 118 rfl rfl) rfl ?_
    refine tq_iconst (E := E_M_qPartTold d) (pc := 226) (cks_at k_M_qPartTold 119 rfl rfl) ?_
    refine tq_sipush (E := E_M_qPartTold d) (pc := 227) (cks_at k_M_qPartTold 120 rfl rfl) (by decide) (by decide) ?_
    refine tq_V2 (E := E_M_qPartTold d) (pc := 230) (cks_at k_M_qPartTold 121 rfl rfl) mk_M_number lk_M_303 rc_78 (Nat.le_of_ble_eq_true rfl) (c_M_number (d + 3) 0 9999 M) (k_I fun r27 M26 => ?_)
    refine tq_iadd (E := E_M_qPartTold d) (pc := 233) (cks_at k_M_qPartTold 122 rfl rfl) ?_
    refine tq_V1 (E := E_M_qPartTold d) (pc := 234) (cks_at k_M_qPartTold 123 rfl rfl) mk_M_qCode lk_M_623 rc_78 (Nat.le_of_ble_eq_true rfl) (c_M_qCode (d + 4) (1000 + r27) M26) (k_V fun M28 => ?_)
    refine tq_aload_n 0 (E := E_M_qPartTold d) (pc := 237) (cks_at k_M_qPartTold 124 rfl rfl) rfl ?_
    refine tq_V0 (E := E_M_qPartTold d) (pc := 238) (cks_at k_M_qPartTold 125 rfl rfl) mk_M_qEndsPart lk_M_647 rc_78 (Nat.le_of_ble_eq_true rfl) (c_M_qEndsPart (d + 2) M28) (k_V fun M29 => ?_)
    exact tq_vret (E := E_M_qPartTold d) (pc := 241) (cks_at k_M_qPartTold 126 rfl rfl) rfl
  · refine tq_bipush (E := E_M_qPartTold d) (pc := 215) (cks_at k_M_qPartTold 113 rfl rfl) (by decide) (by decide) ?_
    refine tq_iload_n 1 (E := E_M_qPartTold d) (pc := 217) (cks_at k_M_qPartTold 114 rfl rfl) rfl ?_
    refine tq_iadd (E := E_M_qPartTold d) (pc := 218) (cks_at k_M_qPartTold 115 rfl rfl) ?_
    refine tq_goto (tgt := 234) (E := E_M_qPartTold d) (pc := 219) (cks_at k_M_qPartTold 116 rfl rfl) (by decide) ?_
    refine tq_V1 (E := E_M_qPartTold d) (pc := 234) (cks_at k_M_qPartTold 123 rfl rfl) mk_M_qCode lk_M_623 rc_78 (Nat.le_of_ble_eq_true rfl) (c_M_qCode (d + 4) (40 + v2) M) (k_V fun M30 => ?_)
    refine tq_aload_n 0 (E := E_M_qPartTold d) (pc := 237) (cks_at k_M_qPartTold 124 rfl rfl) rfl ?_
    refine tq_V0 (E := E_M_qPartTold d) (pc := 238) (cks_at k_M_qPartTold 125 rfl rfl) mk_M_qEndsPart lk_M_647 rc_78 (Nat.le_of_ble_eq_true rfl) (c_M_qEndsPart (d + 2) M30) (k_V fun M31 => ?_)
    exact tq_vret (E := E_M_qPartTold d) (pc := 241) (cks_at k_M_qPartTold 126 rfl rfl) rfl
def f_M_qPartTold_J184 (M : Mm) : Option (Mm) :=
  if i32 (M 78 5) = 0 then
    bI (f_M_qWordOf 0 3 M) (fun r25 M24 =>
    if i32 r25 = i32 ((-1)) then
      f_M_qPartTold_J209 r25 M24
    else
      bV (f_M_qAsksWord r25 M24) (fun M32 =>
      f_M_qPartTold_J209 r25 M32))
  else
    some M
set_option maxRecDepth 20000 in
set_option maxHeartbeats 4000000 in
theorem w_M_qPartTold_J184 (d : Nat) (M : Mm) : T (E_M_qPartTold d) injV 184 [(0, .ref 78)] [] M (f_M_qPartTold_J184 M) := by
  unfold f_M_qPartTold_J184
  refine tq_aload_n 0 (E := E_M_qPartTold d) (pc := 184) (cks_at k_M_qPartTold 94 rfl rfl) rfl ?_
  refine tq_getI (E := E_M_qPartTold d) (pc := 185) (cks_at k_M_qPartTold 95 rfl rfl) fo_M_225 so_78 rfl (by decide) ?_
  refine tq_if_eq (E := E_M_qPartTold d) (pc := 188) (tgt := 192) (cks_at k_M_qPartTold 96 rfl rfl) (by decide) ?_ ?_
  · refine tq_aload_n 0 (E := E_M_qPartTold d) (pc := 192) (cks_at k_M_qPartTold 98 rfl rfl) rfl ?_
    refine tq_iconst (E := E_M_qPartTold d) (pc := 193) (cks_at k_M_qPartTold 99 rfl rfl) ?_
    refine tq_iconst (E := E_M_qPartTold d) (pc := 194) (cks_at k_M_qPartTold 100 rfl rfl) ?_
    refine tq_V2 (E := E_M_qPartTold d) (pc := 195) (cks_at k_M_qPartTold 101 rfl rfl) mk_M_qWordOf lk_M_638 rc_78 (Nat.le_of_ble_eq_true rfl) (c_M_qWordOf (d + 1) 0 3 M) (k_I fun r25 M24 => ?_)
    refine tq_istore_n (E := E_M_qPartTold d) (pc := 198) (cks_at k_M_qPartTold 102 rfl rfl) (show 2 < 6 by decide) rfl ?_
    refine tq_iload_n 0 (E := E_M_qPartTold d) (pc := 199) (cks_at k_M_qPartTold 103 rfl rfl) rfl ?_
    refine tq_iconst (E := E_M_qPartTold d) (pc := 200) (cks_at k_M_qPartTold 104 rfl rfl) ?_
    refine tq_icmp_eq (E := E_M_qPartTold d) (pc := 201) (tgt := 209) (cks_at k_M_qPartTold 105 rfl rfl) (by decide) ?_ ?_
    · exact tq_sub [1, 0] rfl (w_M_qPartTold_J209 d r25 M24)
    · refine tq_aload_n 1 (E := E_M_qPartTold d) (pc := 204) (cks_at k_M_qPartTold 106 rfl rfl) rfl ?_
      refine tq_iload_n 0 (E := E_M_qPartTold d) (pc := 205) (cks_at k_M_qPartTold 107 rfl rfl) rfl ?_
      refine tq_V1 (E := E_M_qPartTold d) (pc := 206) (cks_at k_M_qPartTold 108 rfl rfl) mk_M_qAsksWord lk_M_644 rc_78 (Nat.le_of_ble_eq_true rfl) (c_M_qAsksWord (d + 0) r25 M24) (k_V fun M32 => ?_)
      exact tq_sub [1, 0] rfl (w_M_qPartTold_J209 d r25 M32)
  · exact tq_vret (E := E_M_qPartTold d) (pc := 191) (cks_at k_M_qPartTold 97 rfl rfl) rfl
def f_M_qPartTold (M : Mm) : Option (Mm) :=
  f_M_qPartTold_L2 (fun M23 => f_M_qPartTold_J184 M23) FU (1, M)
set_option maxRecDepth 20000 in
set_option maxHeartbeats 4000000 in
theorem c_M_qPartTold (d : Nat) (M : Mm) (Q : Option Value → Mm → Prop) (h : sat injV (f_M_qPartTold M) Q) : Ct (d + 6) y_M_qPartTold [.ref 78] M Q := by
  refine ct_in (d := d + 5) mk_M_qPartTold (Nat.le_of_ble_eq_true rfl) (?_ : T (E_M_qPartTold d) injV 0 [(0, .ref 78)] [] M (f_M_qPartTold M)) h
  unfold f_M_qPartTold
  refine tq_iconst (E := E_M_qPartTold d) (pc := 0) (cks_at k_M_qPartTold 0 rfl rfl) ?_
  refine tq_istore_n (E := E_M_qPartTold d) (pc := 1) (cks_at k_M_qPartTold 1 rfl rfl) (show 1 < 6 by decide) rfl ?_
  exact tq_sub [1, 0] rfl (w_M_qPartTold_L2 d _ (fun M23 => by
      exact tq_sub [0] rfl (w_M_qPartTold_J184 d M23)) FU (1, M))
abbrev E_M_qIsBracket (d : Nat) : Ev := (Ct (d + 0), "BreathTownModel", prog_14_method_120_code, 1, False, 0, (fun _ => 0), (Option.some Jvm.ClassFile.FieldType.boolean))
def f_M_qIsBracket (v0 : Int) (M : Mm) : Option (Int × Mm) :=
  if i32 v0 < i32 20 then
    some (0, M)
  else
    if i32 24 < i32 v0 then
      some (0, M)
    else
      some (1, M)
set_option maxRecDepth 20000 in
set_option maxHeartbeats 4000000 in
theorem c_M_qIsBracket (d : Nat) (v0 : Int) (M : Mm) (Q : Option Value → Mm → Prop) (h : sat injI (f_M_qIsBracket v0 M) Q) : Ct (d + 1) y_M_qIsBracket [vI v0] M Q := by
  refine ct_in (d := d + 0) mk_M_qIsBracket (Nat.le_of_ble_eq_true rfl) (?_ : T (E_M_qIsBracket d) injI 0 [(0, vI v0)] [] M (f_M_qIsBracket v0 M)) h
  unfold f_M_qIsBracket
  refine tq_iload_n 0 (E := E_M_qIsBracket d) (pc := 0) (cks_at k_M_qIsBracket 0 rfl rfl) rfl ?_
  refine tq_bipush (E := E_M_qIsBracket d) (pc := 1) (cks_at k_M_qIsBracket 1 rfl rfl) (by decide) (by decide) ?_
  refine tq_icmp_lt (E := E_M_qIsBracket d) (pc := 3) (tgt := 16) (cks_at k_M_qIsBracket 2 rfl rfl) (by decide) ?_ ?_
  · refine tq_iconst (E := E_M_qIsBracket d) (pc := 16) (cks_at k_M_qIsBracket 8 rfl rfl) ?_
    exact tq_zretC (E := E_M_qIsBracket d) (pc := 17) (cks_at k_M_qIsBracket 9 rfl rfl) rfl (by decide)
  · refine tq_iload_n 0 (E := E_M_qIsBracket d) (pc := 6) (cks_at k_M_qIsBracket 3 rfl rfl) rfl ?_
    refine tq_bipush (E := E_M_qIsBracket d) (pc := 7) (cks_at k_M_qIsBracket 4 rfl rfl) (by decide) (by decide) ?_
    refine tq_icmp_gt (E := E_M_qIsBracket d) (pc := 9) (tgt := 16) (cks_at k_M_qIsBracket 5 rfl rfl) (by decide) ?_ ?_
    · refine tq_iconst (E := E_M_qIsBracket d) (pc := 16) (cks_at k_M_qIsBracket 8 rfl rfl) ?_
      exact tq_zretC (E := E_M_qIsBracket d) (pc := 17) (cks_at k_M_qIsBracket 9 rfl rfl) rfl (by decide)
    · refine tq_iconst (E := E_M_qIsBracket d) (pc := 12) (cks_at k_M_qIsBracket 6 rfl rfl) ?_
      refine tq_goto (tgt := 17) (E := E_M_qIsBracket d) (pc := 13) (cks_at k_M_qIsBracket 7 rfl rfl) (by decide) ?_
      exact tq_zretC (E := E_M_qIsBracket d) (pc := 17) (cks_at k_M_qIsBracket 9 rfl rfl) rfl (by decide)
abbrev E_M_qBracket (d : Nat) : Ev := (Ct (d + 1), "BreathTownModel", prog_14_method_121_code, 2, False, 0, (fun _ => 0), (Option.some Jvm.ClassFile.FieldType.int))
def f_M_qBracket_B7 (kH : Int → Mm → Option (Int × Mm)) (kx33 : Int → Mm → Option (Int × Mm)) (v1 : Int) (M : Mm) : Option (Int × Mm) :=
  if i32 v1 < i32 (M 78 93) then
    kx33 v1 M
  else
    gd (0 ≤ i32 v1 ∧ i32 v1 < ((1700 : Nat) : Int)) <|
    bI (f_M_qIsBracket (M 143 (i32 v1).toNat) M) (fun r2 M1 =>
    if ¬ i32 r2 = 0 then
      kx33 v1 M1
    else
      kH (v1 + (-1)) M1)
set_option maxRecDepth 20000 in
set_option maxHeartbeats 4000000 in
theorem w_M_qBracket_B7 (d : Nat) (kH : Int → Mm → Option (Int × Mm)) (kx33 : Int → Mm → Option (Int × Mm)) (hkH : ∀ (v1 : Int) (M : Mm), T (E_M_qBracket d) injI 7 [(0, .ref 78), (1, vI v1)] [] M (kH v1 M)) (hkx33 : ∀ (v1 : Int) (M : Mm), T (E_M_qBracket d) injI 33 [(0, .ref 78), (1, vI v1)] [] M (kx33 v1 M)) (v1 : Int) (M : Mm) : T (E_M_qBracket d) injI 7 [(0, .ref 78), (1, vI v1)] [] M (f_M_qBracket_B7 kH kx33 v1 M) := by
  unfold f_M_qBracket_B7
  refine tq_iload_n 1 (E := E_M_qBracket d) (pc := 7) (cks_at k_M_qBracket 5 rfl rfl) rfl ?_
  refine tq_aload_n 0 (E := E_M_qBracket d) (pc := 8) (cks_at k_M_qBracket 6 rfl rfl) rfl ?_
  refine tq_getI (E := E_M_qBracket d) (pc := 9) (cks_at k_M_qBracket 7 rfl rfl) fo_M_626 so_78 rfl (by decide) ?_
  refine tq_icmp_lt (E := E_M_qBracket d) (pc := 12) (tgt := 33) (cks_at k_M_qBracket 8 rfl rfl) (by decide) ?_ ?_
  · exact tq_sub [0, 1] rfl (hkx33 v1 M)
  · refine tq_aload_n 0 (E := E_M_qBracket d) (pc := 15) (cks_at k_M_qBracket 9 rfl rfl) rfl ?_
    refine tq_getR (j := 143) (E := E_M_qBracket d) (pc := 16) (cks_at k_M_qBracket 10 rfl rfl) fo_M_213 so_78 rfl sp_78_90 ?_
    refine tq_iload_n 1 (E := E_M_qBracket d) (pc := 19) (cks_at k_M_qBracket 11 rfl rfl) rfl ?_
    refine tq_iald (E := E_M_qBracket d) (pc := 20) (cks_at k_M_qBracket 12 rfl rfl) sa_143 sn_143 ?_
    refine tq_S1 (E := E_M_qBracket d) (pc := 21) (cks_at k_M_qBracket 13 rfl rfl) mk_M_qIsBracket lk_M_629 (Nat.le_of_ble_eq_true rfl) (c_M_qIsBracket (d + 0) (M 143 (i32 v1).toNat) M) (k_I fun r2 M1 => ?_)
    refine tq_if_ne (E := E_M_qBracket d) (pc := 24) (tgt := 33) (cks_at k_M_qBracket 14 rfl rfl) (by decide) ?_ ?_
    · exact tq_sub [0, 1] rfl (hkx33 v1 M1)
    · refine tq_iinc 1 (E := E_M_qBracket d) (pc := 27) (cks_at k_M_qBracket 15 rfl rfl) rfl (show 1 < 2 by decide) rfl ?_
      refine tq_goto (tgt := 7) (E := E_M_qBracket d) (pc := 30) (cks_at k_M_qBracket 16 rfl rfl) (by decide) ?_
      exact tq_sub [1, 0] rfl (hkH (v1 + (-1)) M1)
def f_M_qBracket_L7 (kx33 : Int → Mm → Option (Int × Mm)) : Nat → Int × Mm → Option (Int × Mm) := lp fun kH s => f_M_qBracket_B7 (fun v1 M => kH (v1, M)) kx33 s.1 s.2
set_option maxRecDepth 20000 in
set_option maxHeartbeats 4000000 in
theorem w_M_qBracket_L7 (d : Nat) (kx33 : Int → Mm → Option (Int × Mm)) (hkx33 : ∀ (v1 : Int) (M : Mm), T (E_M_qBracket d) injI 33 [(0, .ref 78), (1, vI v1)] [] M (kx33 v1 M)) (n : Nat) (s : Int × Mm) : T (E_M_qBracket d) injI 7 [(0, .ref 78), (1, vI s.1)] [] s.2 (f_M_qBracket_L7 kx33 n s) :=
  tq_lp (fun s => [(0, .ref 78), (1, vI s.1)]) (fun s => s.2) (fun kH hH s => w_M_qBracket_B7 d (fun v1 M => kH (v1, M)) kx33 (fun v1 M => hH (v1, M)) hkx33 s.1 s.2) n s
def f_M_qBracket_J33 (v1 : Int) (M : Mm) : Option (Int × Mm) :=
  if i32 v1 < i32 (M 78 93) then
    some ((-1), M)
  else
    gd (0 ≤ i32 v1 ∧ i32 v1 < ((1700 : Nat) : Int)) <|
    some (M 143 (i32 v1).toNat, M)
set_option maxRecDepth 20000 in
set_option maxHeartbeats 4000000 in
theorem w_M_qBracket_J33 (d : Nat) (v1 : Int) (M : Mm) : T (E_M_qBracket d) injI 33 [(0, .ref 78), (1, vI v1)] [] M (f_M_qBracket_J33 v1 M) := by
  unfold f_M_qBracket_J33
  refine tq_iload_n 1 (E := E_M_qBracket d) (pc := 33) (cks_at k_M_qBracket 17 rfl rfl) rfl ?_
  refine tq_aload_n 0 (E := E_M_qBracket d) (pc := 34) (cks_at k_M_qBracket 18 rfl rfl) rfl ?_
  refine tq_getI (E := E_M_qBracket d) (pc := 35) (cks_at k_M_qBracket 19 rfl rfl) fo_M_626 so_78 rfl (by decide) ?_
  refine tq_icmp_lt (E := E_M_qBracket d) (pc := 38) (tgt := 50) (cks_at k_M_qBracket 20 rfl rfl) (by decide) ?_ ?_
  · refine tq_iconst (E := E_M_qBracket d) (pc := 50) (cks_at k_M_qBracket 26 rfl rfl) ?_
    exact tq_iret (E := E_M_qBracket d) (pc := 51) (cks_at k_M_qBracket 27 rfl rfl) rfl
  · refine tq_aload_n 0 (E := E_M_qBracket d) (pc := 41) (cks_at k_M_qBracket 21 rfl rfl) rfl ?_
    refine tq_getR (j := 143) (E := E_M_qBracket d) (pc := 42) (cks_at k_M_qBracket 22 rfl rfl) fo_M_213 so_78 rfl sp_78_90 ?_
    refine tq_iload_n 1 (E := E_M_qBracket d) (pc := 45) (cks_at k_M_qBracket 23 rfl rfl) rfl ?_
    refine tq_iald (E := E_M_qBracket d) (pc := 46) (cks_at k_M_qBracket 24 rfl rfl) sa_143 sn_143 ?_
    refine tq_goto (tgt := 51) (E := E_M_qBracket d) (pc := 47) (cks_at k_M_qBracket 25 rfl rfl) (by decide) ?_
    exact tq_iret (E := E_M_qBracket d) (pc := 51) (cks_at k_M_qBracket 27 rfl rfl) rfl
def f_M_qBracket (M : Mm) : Option (Int × Mm) :=
  f_M_qBracket_L7 (fun v1 M3 => f_M_qBracket_J33 v1 M3) FU (((M 78 91) - 1), M)
set_option maxRecDepth 20000 in
set_option maxHeartbeats 4000000 in
theorem c_M_qBracket (d : Nat) (M : Mm) (Q : Option Value → Mm → Prop) (h : sat injI (f_M_qBracket M) Q) : Ct (d + 2) y_M_qBracket [.ref 78] M Q := by
  refine ct_in (d := d + 1) mk_M_qBracket (Nat.le_of_ble_eq_true rfl) (?_ : T (E_M_qBracket d) injI 0 [(0, .ref 78)] [] M (f_M_qBracket M)) h
  unfold f_M_qBracket
  refine tq_aload_n 0 (E := E_M_qBracket d) (pc := 0) (cks_at k_M_qBracket 0 rfl rfl) rfl ?_
  refine tq_getI (E := E_M_qBracket d) (pc := 1) (cks_at k_M_qBracket 1 rfl rfl) fo_M_620 so_78 rfl (by decide) ?_
  refine tq_iconst (E := E_M_qBracket d) (pc := 4) (cks_at k_M_qBracket 2 rfl rfl) ?_
  refine tq_isub (E := E_M_qBracket d) (pc := 5) (cks_at k_M_qBracket 3 rfl rfl) ?_
  refine tq_istore_n (E := E_M_qBracket d) (pc := 6) (cks_at k_M_qBracket 4 rfl rfl) (show 1 < 2 by decide) rfl ?_
  exact tq_sub [1, 0] rfl (w_M_qBracket_L7 d _ (fun v1 M3 => by
      exact tq_sub [0, 1] rfl (w_M_qBracket_J33 d v1 M3)) FU (((M 78 91) - 1), M))
abbrev E_M_qDropsToBracket (d : Nat) : Ev := (Ct (d + 2), "BreathTownModel", prog_14_method_122_code, 1, False, 0, (fun _ => 0), (Option.none : Option Jvm.ClassFile.FieldType))
def f_M_qDropsToBracket_B0 (kH : Mm → Option (Mm)) (M : Mm) : Option (Mm) :=
  if i32 (M 78 91) ≤ i32 (M 78 93) then
    some M
  else
    gd (0 ≤ i32 ((M 78 91) - 1) ∧ i32 ((M 78 91) - 1) < ((1700 : Nat) : Int)) <|
    bI (f_M_qIsBracket (M 143 (i32 ((M 78 91) - 1)).toNat) M) (fun r2 M1 =>
    if ¬ i32 r2 = 0 then
      some M1
    else
      bV (f_M_qDrops M1) (fun M3 =>
      kH M3))
set_option maxRecDepth 20000 in
set_option maxHeartbeats 4000000 in
theorem w_M_qDropsToBracket_B0 (d : Nat) (kH : Mm → Option (Mm)) (hkH : ∀  (M : Mm), T (E_M_qDropsToBracket d) injV 0 [(0, .ref 78)] [] M (kH M)) (M : Mm) : T (E_M_qDropsToBracket d) injV 0 [(0, .ref 78)] [] M (f_M_qDropsToBracket_B0 kH M) := by
  unfold f_M_qDropsToBracket_B0
  refine tq_aload_n 0 (E := E_M_qDropsToBracket d) (pc := 0) (cks_at k_M_qDropsToBracket 0 rfl rfl) rfl ?_
  refine tq_getI (E := E_M_qDropsToBracket d) (pc := 1) (cks_at k_M_qDropsToBracket 1 rfl rfl) fo_M_620 so_78 rfl (by decide) ?_
  refine tq_aload_n 0 (E := E_M_qDropsToBracket d) (pc := 4) (cks_at k_M_qDropsToBracket 2 rfl rfl) rfl ?_
  refine tq_getI (E := E_M_qDropsToBracket d) (pc := 5) (cks_at k_M_qDropsToBracket 3 rfl rfl) fo_M_626 so_78 rfl (by decide) ?_
  refine tq_icmp_le (E := E_M_qDropsToBracket d) (pc := 8) (tgt := 35) (cks_at k_M_qDropsToBracket 4 rfl rfl) (by decide) ?_ ?_
  · exact tq_vret (E := E_M_qDropsToBracket d) (pc := 35) (cks_at k_M_qDropsToBracket 17 rfl rfl) rfl
  · refine tq_aload_n 0 (E := E_M_qDropsToBracket d) (pc := 11) (cks_at k_M_qDropsToBracket 5 rfl rfl) rfl ?_
    refine tq_getR (j := 143) (E := E_M_qDropsToBracket d) (pc := 12) (cks_at k_M_qDropsToBracket 6 rfl rfl) fo_M_213 so_78 rfl sp_78_90 ?_
    refine tq_aload_n 0 (E := E_M_qDropsToBracket d) (pc := 15) (cks_at k_M_qDropsToBracket 7 rfl rfl) rfl ?_
    refine tq_getI (E := E_M_qDropsToBracket d) (pc := 16) (cks_at k_M_qDropsToBracket 8 rfl rfl) fo_M_620 so_78 rfl (by decide) ?_
    refine tq_iconst (E := E_M_qDropsToBracket d) (pc := 19) (cks_at k_M_qDropsToBracket 9 rfl rfl) ?_
    refine tq_isub (E := E_M_qDropsToBracket d) (pc := 20) (cks_at k_M_qDropsToBracket 10 rfl rfl) ?_
    refine tq_iald (E := E_M_qDropsToBracket d) (pc := 21) (cks_at k_M_qDropsToBracket 11 rfl rfl) sa_143 sn_143 ?_
    refine tq_S1 (E := E_M_qDropsToBracket d) (pc := 22) (cks_at k_M_qDropsToBracket 12 rfl rfl) mk_M_qIsBracket lk_M_629 (Nat.le_of_ble_eq_true rfl) (c_M_qIsBracket (d + 1) (M 143 (i32 ((M 78 91) - 1)).toNat) M) (k_I fun r2 M1 => ?_)
    refine tq_if_ne (E := E_M_qDropsToBracket d) (pc := 25) (tgt := 35) (cks_at k_M_qDropsToBracket 13 rfl rfl) (by decide) ?_ ?_
    · exact tq_vret (E := E_M_qDropsToBracket d) (pc := 35) (cks_at k_M_qDropsToBracket 17 rfl rfl) rfl
    · refine tq_aload_n 0 (E := E_M_qDropsToBracket d) (pc := 28) (cks_at k_M_qDropsToBracket 14 rfl rfl) rfl ?_
      refine tq_V0 (E := E_M_qDropsToBracket d) (pc := 29) (cks_at k_M_qDropsToBracket 15 rfl rfl) mk_M_qDrops lk_M_632 rc_78 (Nat.le_of_ble_eq_true rfl) (c_M_qDrops (d + 0) M1) (k_V fun M3 => ?_)
      refine tq_goto (tgt := 0) (E := E_M_qDropsToBracket d) (pc := 32) (cks_at k_M_qDropsToBracket 16 rfl rfl) (by decide) ?_
      exact tq_sub [0] rfl (hkH M3)
def f_M_qDropsToBracket_L0 : Nat → Mm → Option (Mm) := lp fun kH s => f_M_qDropsToBracket_B0 kH s
set_option maxRecDepth 20000 in
set_option maxHeartbeats 4000000 in
theorem w_M_qDropsToBracket_L0 (d : Nat) (n : Nat) (s : Mm) : T (E_M_qDropsToBracket d) injV 0 [(0, .ref 78)] [] s (f_M_qDropsToBracket_L0 n s) :=
  tq_lp (fun s => [(0, .ref 78)]) (fun s => s) (fun kH hH s => w_M_qDropsToBracket_B0 d kH (fun M => hH (M)) s) n s
def f_M_qDropsToBracket (M : Mm) : Option (Mm) :=
  f_M_qDropsToBracket_L0 FU M
set_option maxRecDepth 20000 in
set_option maxHeartbeats 4000000 in
theorem c_M_qDropsToBracket (d : Nat) (M : Mm) (Q : Option Value → Mm → Prop) (h : sat injV (f_M_qDropsToBracket M) Q) : Ct (d + 3) y_M_qDropsToBracket [.ref 78] M Q := by
  refine ct_in (d := d + 2) mk_M_qDropsToBracket (Nat.le_of_ble_eq_true rfl) (?_ : T (E_M_qDropsToBracket d) injV 0 [(0, .ref 78)] [] M (f_M_qDropsToBracket M)) h
  unfold f_M_qDropsToBracket
  exact tq_sub [0] rfl (w_M_qDropsToBracket_L0 d FU M)
abbrev E_M_qIsOn (d : Nat) : Ev := (Ct (d + 0), "BreathTownModel", prog_14_method_118_code, 2, False, 0, (fun _ => 0), (Option.some Jvm.ClassFile.FieldType.boolean))
def f_M_qIsOn (v1 : Int) (M : Mm) : Option (Int × Mm) :=
  if i32 (M 78 91) ≤ 0 then
    some (0, M)
  else
    gd (0 ≤ i32 ((M 78 91) - 1) ∧ i32 ((M 78 91) - 1) < ((1700 : Nat) : Int)) <|
    if ¬ i32 (M 143 (i32 ((M 78 91) - 1)).toNat) = i32 v1 then
      some (0, M)
    else
      some (1, M)
set_option maxRecDepth 20000 in
set_option maxHeartbeats 4000000 in
theorem c_M_qIsOn (d : Nat) (v1 : Int) (M : Mm) (Q : Option Value → Mm → Prop) (h : sat injI (f_M_qIsOn v1 M) Q) : Ct (d + 1) y_M_qIsOn [.ref 78, vI v1] M Q := by
  refine ct_in (d := d + 0) mk_M_qIsOn (Nat.le_of_ble_eq_true rfl) (?_ : T (E_M_qIsOn d) injI 0 [(0, .ref 78), (1, vI v1)] [] M (f_M_qIsOn v1 M)) h
  unfold f_M_qIsOn
  refine tq_aload_n 0 (E := E_M_qIsOn d) (pc := 0) (cks_at k_M_qIsOn 0 rfl rfl) rfl ?_
  refine tq_getI (E := E_M_qIsOn d) (pc := 1) (cks_at k_M_qIsOn 1 rfl rfl) fo_M_620 so_78 rfl (by decide) ?_
  refine tq_if_le (E := E_M_qIsOn d) (pc := 4) (tgt := 26) (cks_at k_M_qIsOn 2 rfl rfl) (by decide) ?_ ?_
  · refine tq_iconst (E := E_M_qIsOn d) (pc := 26) (cks_at k_M_qIsOn 14 rfl rfl) ?_
    exact tq_zretC (E := E_M_qIsOn d) (pc := 27) (cks_at k_M_qIsOn 15 rfl rfl) rfl (by decide)
  · refine tq_aload_n 0 (E := E_M_qIsOn d) (pc := 7) (cks_at k_M_qIsOn 3 rfl rfl) rfl ?_
    refine tq_getR (j := 143) (E := E_M_qIsOn d) (pc := 8) (cks_at k_M_qIsOn 4 rfl rfl) fo_M_213 so_78 rfl sp_78_90 ?_
    refine tq_aload_n 0 (E := E_M_qIsOn d) (pc := 11) (cks_at k_M_qIsOn 5 rfl rfl) rfl ?_
    refine tq_getI (E := E_M_qIsOn d) (pc := 12) (cks_at k_M_qIsOn 6 rfl rfl) fo_M_620 so_78 rfl (by decide) ?_
    refine tq_iconst (E := E_M_qIsOn d) (pc := 15) (cks_at k_M_qIsOn 7 rfl rfl) ?_
    refine tq_isub (E := E_M_qIsOn d) (pc := 16) (cks_at k_M_qIsOn 8 rfl rfl) ?_
    refine tq_iald (E := E_M_qIsOn d) (pc := 17) (cks_at k_M_qIsOn 9 rfl rfl) sa_143 sn_143 ?_
    refine tq_iload_n 1 (E := E_M_qIsOn d) (pc := 18) (cks_at k_M_qIsOn 10 rfl rfl) rfl ?_
    refine tq_icmp_ne (E := E_M_qIsOn d) (pc := 19) (tgt := 26) (cks_at k_M_qIsOn 11 rfl rfl) (by decide) ?_ ?_
    · refine tq_iconst (E := E_M_qIsOn d) (pc := 26) (cks_at k_M_qIsOn 14 rfl rfl) ?_
      exact tq_zretC (E := E_M_qIsOn d) (pc := 27) (cks_at k_M_qIsOn 15 rfl rfl) rfl (by decide)
    · refine tq_iconst (E := E_M_qIsOn d) (pc := 22) (cks_at k_M_qIsOn 12 rfl rfl) ?_
      refine tq_goto (tgt := 27) (E := E_M_qIsOn d) (pc := 23) (cks_at k_M_qIsOn 13 rfl rfl) (by decide) ?_
      exact tq_zretC (E := E_M_qIsOn d) (pc := 27) (cks_at k_M_qIsOn 15 rfl rfl) rfl (by decide)
abbrev E_M_qGoesOn (d : Nat) : Ev := (Ct (d + 3), "BreathTownModel", prog_14_method_128_code, 2, False, 0, (fun _ => 0), (Option.some Jvm.ClassFile.FieldType.boolean))
def f_M_qGoesOn_J43 (kH : Mm → Option (Int × Mm)) (kx122 : Mm → Option (Int × Mm)) (M : Mm) : Option (Int × Mm) :=
  bd (up M 78 2 ((M 78 2) + 1)) (fun M5 =>
  bV (f_M_qDropsToBracket M5) (fun M6 =>
  bd (up M6 78 91 ((M6 78 91) - 1)) (fun M7 =>
  bd (up M7 78 92 ((M7 78 92) - 1)) (fun M8 =>
  gd (0 ≤ i32 (M8 78 91) ∧ i32 (M8 78 91) < ((1700 : Nat) : Int)) <|
  if i32 (M8 143 (i32 (M8 78 91)).toNat) = i32 20 then
    bV (f_M_qEndsPart M8) (fun M9 =>
    kH M9)
  else
    gd (0 ≤ i32 (M8 78 91) ∧ i32 (M8 78 91) < ((1700 : Nat) : Int)) <|
    if ¬ i32 (M8 143 (i32 (M8 78 91)).toNat) = i32 23 then
      bV (f_M_qCode 6 M8) (fun M10 =>
      bV (f_M_qEndsPart M10) (fun M11 =>
      kH M11))
    else
      bV (f_M_qCode 5 M8) (fun M12 =>
      bV (f_M_qEndsPart M12) (fun M13 =>
      kH M13))))))
set_option maxRecDepth 20000 in
set_option maxHeartbeats 4000000 in
theorem w_M_qGoesOn_J43 (d : Nat) (kH : Mm → Option (Int × Mm)) (kx122 : Mm → Option (Int × Mm)) (hkH : ∀  (M : Mm), T (E_M_qGoesOn d) injI 0 [(0, .ref 78)] [] M (kH M)) (hkx122 : ∀  (M : Mm), T (E_M_qGoesOn d) injI 122 [(0, .ref 78)] [] M (kx122 M)) (M : Mm) : T (E_M_qGoesOn d) injI 43 [(0, .ref 78)] [] M (f_M_qGoesOn_J43 kH kx122 M) := by
  unfold f_M_qGoesOn_J43
  refine tq_aload_n 0 (E := E_M_qGoesOn d) (pc := 43) (cks_at k_M_qGoesOn 19 rfl rfl) rfl ?_
  refine tq_dup (E := E_M_qGoesOn d) (pc := 44) (cks_at k_M_qGoesOn 20 rfl rfl) rfl ?_
  refine tq_getI (E := E_M_qGoesOn d) (pc := 45) (cks_at k_M_qGoesOn 21 rfl rfl) fo_M_231 so_78 rfl (by decide) ?_
  refine tq_iconst (E := E_M_qGoesOn d) (pc := 48) (cks_at k_M_qGoesOn 22 rfl rfl) ?_
  refine tq_iadd (E := E_M_qGoesOn d) (pc := 49) (cks_at k_M_qGoesOn 23 rfl rfl) ?_
  refine tq_putI (E := E_M_qGoesOn d) (pc := 50) (cks_at k_M_qGoesOn 24 rfl rfl) fo_M_231 so_78 rfl po_12_2 (fun M5 => ?_)
  refine tq_aload_n 0 (E := E_M_qGoesOn d) (pc := 53) (cks_at k_M_qGoesOn 25 rfl rfl) rfl ?_
  refine tq_V0 (E := E_M_qGoesOn d) (pc := 54) (cks_at k_M_qGoesOn 26 rfl rfl) mk_M_qDropsToBracket lk_M_653 rc_78 (Nat.le_of_ble_eq_true rfl) (c_M_qDropsToBracket (d + 0) M5) (k_V fun M6 => ?_)
  refine tq_aload_n 0 (E := E_M_qGoesOn d) (pc := 57) (cks_at k_M_qGoesOn 27 rfl rfl) rfl ?_
  refine tq_dup (E := E_M_qGoesOn d) (pc := 58) (cks_at k_M_qGoesOn 28 rfl rfl) rfl ?_
  refine tq_getI (E := E_M_qGoesOn d) (pc := 59) (cks_at k_M_qGoesOn 29 rfl rfl) fo_M_620 so_78 rfl (by decide) ?_
  refine tq_iconst (E := E_M_qGoesOn d) (pc := 62) (cks_at k_M_qGoesOn 30 rfl rfl) ?_
  refine tq_isub (E := E_M_qGoesOn d) (pc := 63) (cks_at k_M_qGoesOn 31 rfl rfl) ?_
  refine tq_putI (E := E_M_qGoesOn d) (pc := 64) (cks_at k_M_qGoesOn 32 rfl rfl) fo_M_620 so_78 rfl po_12_91 (fun M7 => ?_)
  refine tq_aload_n 0 (E := E_M_qGoesOn d) (pc := 67) (cks_at k_M_qGoesOn 33 rfl rfl) rfl ?_
  refine tq_dup (E := E_M_qGoesOn d) (pc := 68) (cks_at k_M_qGoesOn 34 rfl rfl) rfl ?_
  refine tq_getI (E := E_M_qGoesOn d) (pc := 69) (cks_at k_M_qGoesOn 35 rfl rfl) fo_M_617 so_78 rfl (by decide) ?_
  refine tq_iconst (E := E_M_qGoesOn d) (pc := 72) (cks_at k_M_qGoesOn 36 rfl rfl) ?_
  refine tq_isub (E := E_M_qGoesOn d) (pc := 73) (cks_at k_M_qGoesOn 37 rfl rfl) ?_
  refine tq_putI (E := E_M_qGoesOn d) (pc := 74) (cks_at k_M_qGoesOn 38 rfl rfl) fo_M_617 so_78 rfl po_12_92 (fun M8 => ?_)
  refine tq_aload_n 0 (E := E_M_qGoesOn d) (pc := 77) (cks_at k_M_qGoesOn 39 rfl rfl) rfl ?_
  refine tq_getR (j := 143) (E := E_M_qGoesOn d) (pc := 78) (cks_at k_M_qGoesOn 40 rfl rfl) fo_M_213 so_78 rfl sp_78_90 ?_
  refine tq_aload_n 0 (E := E_M_qGoesOn d) (pc := 81) (cks_at k_M_qGoesOn 41 rfl rfl) rfl ?_
  refine tq_getI (E := E_M_qGoesOn d) (pc := 82) (cks_at k_M_qGoesOn 42 rfl rfl) fo_M_620 so_78 rfl (by decide) ?_
  refine tq_iald (E := E_M_qGoesOn d) (pc := 85) (cks_at k_M_qGoesOn 43 rfl rfl) sa_143 sn_143 ?_
  refine tq_bipush (E := E_M_qGoesOn d) (pc := 86) (cks_at k_M_qGoesOn 44 rfl rfl) (by decide) (by decide) ?_
  refine tq_icmp_eq (E := E_M_qGoesOn d) (pc := 88) (tgt := 115) (cks_at k_M_qGoesOn 45 rfl rfl) (by decide) ?_ ?_
  · refine tq_aload_n 0 (E := E_M_qGoesOn d) (pc := 115) (cks_at k_M_qGoesOn 58 rfl rfl) rfl ?_
    refine tq_V0 (E := E_M_qGoesOn d) (pc := 116) (cks_at k_M_qGoesOn 59 rfl rfl) mk_M_qEndsPart lk_M_647 rc_78 (Nat.le_of_ble_eq_true rfl) (c_M_qEndsPart (d + 0) M8) (k_V fun M9 => ?_)
    refine tq_goto (tgt := 0) (E := E_M_qGoesOn d) (pc := 119) (cks_at k_M_qGoesOn 60 rfl rfl) (by decide) ?_
    exact tq_sub [0] rfl (hkH M9)
  · refine tq_aload_n 0 (E := E_M_qGoesOn d) (pc := 91) (cks_at k_M_qGoesOn 46 rfl rfl) rfl ?_
    refine tq_aload_n 0 (E := E_M_qGoesOn d) (pc := 92) (cks_at k_M_qGoesOn 47 rfl rfl) rfl ?_
    refine tq_getR (j := 143) (E := E_M_qGoesOn d) (pc := 93) (cks_at k_M_qGoesOn 48 rfl rfl) fo_M_213 so_78 rfl sp_78_90 ?_
    refine tq_aload_n 0 (E := E_M_qGoesOn d) (pc := 96) (cks_at k_M_qGoesOn 49 rfl rfl) rfl ?_
    refine tq_getI (E := E_M_qGoesOn d) (pc := 97) (cks_at k_M_qGoesOn 50 rfl rfl) fo_M_620 so_78 rfl (by decide) ?_
    refine tq_iald (E := E_M_qGoesOn d) (pc := 100) (cks_at k_M_qGoesOn 51 rfl rfl) sa_143 sn_143 ?_
    refine tq_bipush (E := E_M_qGoesOn d) (pc := 101) (cks_at k_M_qGoesOn 52 rfl rfl) (by decide) (by decide) ?_
    refine tq_icmp_ne (E := E_M_qGoesOn d) (pc := 103) (tgt := 110) (cks_at k_M_qGoesOn 53 rfl rfl) (by decide) ?_ ?_
    · refine tq_bipush (E := E_M_qGoesOn d) (pc := 110) (cks_at k_M_qGoesOn 56 rfl rfl) (by decide) (by decide) ?_
      refine tq_V1 (E := E_M_qGoesOn d) (pc := 112) (cks_at k_M_qGoesOn 57 rfl rfl) mk_M_qCode lk_M_623 rc_78 (Nat.le_of_ble_eq_true rfl) (c_M_qCode (d + 2) 6 M8) (k_V fun M10 => ?_)
      refine tq_aload_n 0 (E := E_M_qGoesOn d) (pc := 115) (cks_at k_M_qGoesOn 58 rfl rfl) rfl ?_
      refine tq_V0 (E := E_M_qGoesOn d) (pc := 116) (cks_at k_M_qGoesOn 59 rfl rfl) mk_M_qEndsPart lk_M_647 rc_78 (Nat.le_of_ble_eq_true rfl) (c_M_qEndsPart (d + 0) M10) (k_V fun M11 => ?_)
      refine tq_goto (tgt := 0) (E := E_M_qGoesOn d) (pc := 119) (cks_at k_M_qGoesOn 60 rfl rfl) (by decide) ?_
      exact tq_sub [0] rfl (hkH M11)
    · refine tq_iconst (E := E_M_qGoesOn d) (pc := 106) (cks_at k_M_qGoesOn 54 rfl rfl) ?_
      refine tq_goto (tgt := 112) (E := E_M_qGoesOn d) (pc := 107) (cks_at k_M_qGoesOn 55 rfl rfl) (by decide) ?_
      refine tq_V1 (E := E_M_qGoesOn d) (pc := 112) (cks_at k_M_qGoesOn 57 rfl rfl) mk_M_qCode lk_M_623 rc_78 (Nat.le_of_ble_eq_true rfl) (c_M_qCode (d + 2) 5 M8) (k_V fun M12 => ?_)
      refine tq_aload_n 0 (E := E_M_qGoesOn d) (pc := 115) (cks_at k_M_qGoesOn 58 rfl rfl) rfl ?_
      refine tq_V0 (E := E_M_qGoesOn d) (pc := 116) (cks_at k_M_qGoesOn 59 rfl rfl) mk_M_qEndsPart lk_M_647 rc_78 (Nat.le_of_ble_eq_true rfl) (c_M_qEndsPart (d + 0) M12) (k_V fun M13 => ?_)
      refine tq_goto (tgt := 0) (E := E_M_qGoesOn d) (pc := 119) (cks_at k_M_qGoesOn 60 rfl rfl) (by decide) ?_
      exact tq_sub [0] rfl (hkH M13)
def f_M_qGoesOn_B0 (kH : Mm → Option (Int × Mm)) (kx122 : Mm → Option (Int × Mm)) (M : Mm) : Option (Int × Mm) :=
  if ¬ i32 (M 78 5) = 0 then
    kx122 M
  else
    bI (f_M_look M) (fun r2 M1 =>
    if ¬ i32 r2 = i32 41 then
      kx122 M1
    else
      bI (f_M_qBracket M1) (fun r4 M3 =>
      if i32 r4 = i32 20 then
        f_M_qGoesOn_J43 kH kx122 M3
      else
        bI (f_M_qBracket M3) (fun r15 M14 =>
        if i32 r15 = i32 23 then
          f_M_qGoesOn_J43 kH kx122 M14
        else
          bI (f_M_qBracket M14) (fun r17 M16 =>
          if ¬ i32 r17 = i32 24 then
            kx122 M16
          else
            f_M_qGoesOn_J43 kH kx122 M16))))
set_option maxRecDepth 20000 in
set_option maxHeartbeats 4000000 in
theorem w_M_qGoesOn_B0 (d : Nat) (kH : Mm → Option (Int × Mm)) (kx122 : Mm → Option (Int × Mm)) (hkH : ∀  (M : Mm), T (E_M_qGoesOn d) injI 0 [(0, .ref 78)] [] M (kH M)) (hkx122 : ∀  (M : Mm), T (E_M_qGoesOn d) injI 122 [(0, .ref 78)] [] M (kx122 M)) (M : Mm) : T (E_M_qGoesOn d) injI 0 [(0, .ref 78)] [] M (f_M_qGoesOn_B0 kH kx122 M) := by
  unfold f_M_qGoesOn_B0
  refine tq_aload_n 0 (E := E_M_qGoesOn d) (pc := 0) (cks_at k_M_qGoesOn 0 rfl rfl) rfl ?_
  refine tq_getI (E := E_M_qGoesOn d) (pc := 1) (cks_at k_M_qGoesOn 1 rfl rfl) fo_M_225 so_78 rfl (by decide) ?_
  refine tq_if_ne (E := E_M_qGoesOn d) (pc := 4) (tgt := 122) (cks_at k_M_qGoesOn 2 rfl rfl) (by decide) ?_ ?_
  · exact tq_sub [0] rfl (hkx122 M)
  · refine tq_aload_n 0 (E := E_M_qGoesOn d) (pc := 7) (cks_at k_M_qGoesOn 3 rfl rfl) rfl ?_
    refine tq_V0 (E := E_M_qGoesOn d) (pc := 8) (cks_at k_M_qGoesOn 4 rfl rfl) mk_M_look lk_M_237 rc_78 (Nat.le_of_ble_eq_true rfl) (c_M_look (d + 2) M) (k_I fun r2 M1 => ?_)
    refine tq_bipush (E := E_M_qGoesOn d) (pc := 11) (cks_at k_M_qGoesOn 5 rfl rfl) (by decide) (by decide) ?_
    refine tq_icmp_ne (E := E_M_qGoesOn d) (pc := 13) (tgt := 122) (cks_at k_M_qGoesOn 6 rfl rfl) (by decide) ?_ ?_
    · exact tq_sub [0] rfl (hkx122 M1)
    · refine tq_aload_n 0 (E := E_M_qGoesOn d) (pc := 16) (cks_at k_M_qGoesOn 7 rfl rfl) rfl ?_
      refine tq_V0 (E := E_M_qGoesOn d) (pc := 17) (cks_at k_M_qGoesOn 8 rfl rfl) mk_M_qBracket lk_M_650 rc_78 (Nat.le_of_ble_eq_true rfl) (c_M_qBracket (d + 1) M1) (k_I fun r4 M3 => ?_)
      refine tq_bipush (E := E_M_qGoesOn d) (pc := 20) (cks_at k_M_qGoesOn 9 rfl rfl) (by decide) (by decide) ?_
      refine tq_icmp_eq (E := E_M_qGoesOn d) (pc := 22) (tgt := 43) (cks_at k_M_qGoesOn 10 rfl rfl) (by decide) ?_ ?_
      · exact tq_sub [0] rfl (w_M_qGoesOn_J43 d kH kx122 hkH hkx122 M3)
      · refine tq_aload_n 0 (E := E_M_qGoesOn d) (pc := 25) (cks_at k_M_qGoesOn 11 rfl rfl) rfl ?_
        refine tq_V0 (E := E_M_qGoesOn d) (pc := 26) (cks_at k_M_qGoesOn 12 rfl rfl) mk_M_qBracket lk_M_650 rc_78 (Nat.le_of_ble_eq_true rfl) (c_M_qBracket (d + 1) M3) (k_I fun r15 M14 => ?_)
        refine tq_bipush (E := E_M_qGoesOn d) (pc := 29) (cks_at k_M_qGoesOn 13 rfl rfl) (by decide) (by decide) ?_
        refine tq_icmp_eq (E := E_M_qGoesOn d) (pc := 31) (tgt := 43) (cks_at k_M_qGoesOn 14 rfl rfl) (by decide) ?_ ?_
        · exact tq_sub [0] rfl (w_M_qGoesOn_J43 d kH kx122 hkH hkx122 M14)
        · refine tq_aload_n 0 (E := E_M_qGoesOn d) (pc := 34) (cks_at k_M_qGoesOn 15 rfl rfl) rfl ?_
          refine tq_V0 (E := E_M_qGoesOn d) (pc := 35) (cks_at k_M_qGoesOn 16 rfl rfl) mk_M_qBracket lk_M_650 rc_78 (Nat.le_of_ble_eq_true rfl) (c_M_qBracket (d + 1) M14) (k_I fun r17 M16 => ?_)
          refine tq_bipush (E := E_M_qGoesOn d) (pc := 38) (cks_at k_M_qGoesOn 17 rfl rfl) (by decide) (by decide) ?_
          refine tq_icmp_ne (E := E_M_qGoesOn d) (pc := 40) (tgt := 122) (cks_at k_M_qGoesOn 18 rfl rfl) (by decide) ?_ ?_
          · exact tq_sub [0] rfl (hkx122 M16)
          · exact tq_sub [0] rfl (w_M_qGoesOn_J43 d kH kx122 hkH hkx122 M16)
def f_M_qGoesOn_L0 (kx122 : Mm → Option (Int × Mm)) : Nat → Mm → Option (Int × Mm) := lp fun kH s => f_M_qGoesOn_B0 kH kx122 s
set_option maxRecDepth 20000 in
set_option maxHeartbeats 4000000 in
theorem w_M_qGoesOn_L0 (d : Nat) (kx122 : Mm → Option (Int × Mm)) (hkx122 : ∀  (M : Mm), T (E_M_qGoesOn d) injI 122 [(0, .ref 78)] [] M (kx122 M)) (n : Nat) (s : Mm) : T (E_M_qGoesOn d) injI 0 [(0, .ref 78)] [] s (f_M_qGoesOn_L0 kx122 n s) :=
  tq_lp (fun s => [(0, .ref 78)]) (fun s => s) (fun kH hH s => w_M_qGoesOn_B0 d kH kx122 (fun M => hH (M)) hkx122 s) n s
def f_M_qGoesOn_B162 (kH : Int → Mm → Option (Int × Mm)) (kx185 : Int → Mm → Option (Int × Mm)) (v1 : Int) (M : Mm) : Option (Int × Mm) :=
  bI (f_M_qIsOn 3 M) (fun r22 M21 =>
  if ¬ i32 r22 = 0 then
    bV (f_M_qDrops M21) (fun M23 =>
    kH v1 M23)
  else
    bI (f_M_qIsOn 4 M21) (fun r25 M24 =>
    if i32 r25 = 0 then
      kx185 v1 M24
    else
      bV (f_M_qDrops M24) (fun M26 =>
      kH v1 M26)))
set_option maxRecDepth 20000 in
set_option maxHeartbeats 4000000 in
theorem w_M_qGoesOn_B162 (d : Nat) (kH : Int → Mm → Option (Int × Mm)) (kx185 : Int → Mm → Option (Int × Mm)) (hkH : ∀ (v1 : Int) (M : Mm), T (E_M_qGoesOn d) injI 162 [(0, .ref 78), (1, vI v1)] [] M (kH v1 M)) (hkx185 : ∀ (v1 : Int) (M : Mm), T (E_M_qGoesOn d) injI 185 [(0, .ref 78), (1, vI v1)] [] M (kx185 v1 M)) (v1 : Int) (M : Mm) : T (E_M_qGoesOn d) injI 162 [(0, .ref 78), (1, vI v1)] [] M (f_M_qGoesOn_B162 kH kx185 v1 M) := by
  unfold f_M_qGoesOn_B162
  refine tq_aload_n 0 (E := E_M_qGoesOn d) (pc := 162) (cks_at k_M_qGoesOn 82 rfl rfl) rfl ?_
  refine tq_iconst (E := E_M_qGoesOn d) (pc := 163) (cks_at k_M_qGoesOn 83 rfl rfl) ?_
  refine tq_V1 (E := E_M_qGoesOn d) (pc := 164) (cks_at k_M_qGoesOn 84 rfl rfl) mk_M_qIsOn lk_M_656 rc_78 (Nat.le_of_ble_eq_true rfl) (c_M_qIsOn (d + 2) 3 M) (k_I fun r22 M21 => ?_)
  refine tq_if_ne (E := E_M_qGoesOn d) (pc := 167) (tgt := 178) (cks_at k_M_qGoesOn 85 rfl rfl) (by decide) ?_ ?_
  · refine tq_aload_n 0 (E := E_M_qGoesOn d) (pc := 178) (cks_at k_M_qGoesOn 90 rfl rfl) rfl ?_
    refine tq_V0 (E := E_M_qGoesOn d) (pc := 179) (cks_at k_M_qGoesOn 91 rfl rfl) mk_M_qDrops lk_M_632 rc_78 (Nat.le_of_ble_eq_true rfl) (c_M_qDrops (d + 1) M21) (k_V fun M23 => ?_)
    refine tq_goto (tgt := 162) (E := E_M_qGoesOn d) (pc := 182) (cks_at k_M_qGoesOn 92 rfl rfl) (by decide) ?_
    exact tq_sub [0, 1] rfl (hkH v1 M23)
  · refine tq_aload_n 0 (E := E_M_qGoesOn d) (pc := 170) (cks_at k_M_qGoesOn 86 rfl rfl) rfl ?_
    refine tq_iconst (E := E_M_qGoesOn d) (pc := 171) (cks_at k_M_qGoesOn 87 rfl rfl) ?_
    refine tq_V1 (E := E_M_qGoesOn d) (pc := 172) (cks_at k_M_qGoesOn 88 rfl rfl) mk_M_qIsOn lk_M_656 rc_78 (Nat.le_of_ble_eq_true rfl) (c_M_qIsOn (d + 2) 4 M21) (k_I fun r25 M24 => ?_)
    refine tq_if_eq (E := E_M_qGoesOn d) (pc := 175) (tgt := 185) (cks_at k_M_qGoesOn 89 rfl rfl) (by decide) ?_ ?_
    · exact tq_sub [0, 1] rfl (hkx185 v1 M24)
    · refine tq_aload_n 0 (E := E_M_qGoesOn d) (pc := 178) (cks_at k_M_qGoesOn 90 rfl rfl) rfl ?_
      refine tq_V0 (E := E_M_qGoesOn d) (pc := 179) (cks_at k_M_qGoesOn 91 rfl rfl) mk_M_qDrops lk_M_632 rc_78 (Nat.le_of_ble_eq_true rfl) (c_M_qDrops (d + 1) M24) (k_V fun M26 => ?_)
      refine tq_goto (tgt := 162) (E := E_M_qGoesOn d) (pc := 182) (cks_at k_M_qGoesOn 92 rfl rfl) (by decide) ?_
      exact tq_sub [0, 1] rfl (hkH v1 M26)
def f_M_qGoesOn_L162 (kx185 : Int → Mm → Option (Int × Mm)) : Nat → Int × Mm → Option (Int × Mm) := lp fun kH s => f_M_qGoesOn_B162 (fun v1 M => kH (v1, M)) kx185 s.1 s.2
set_option maxRecDepth 20000 in
set_option maxHeartbeats 4000000 in
theorem w_M_qGoesOn_L162 (d : Nat) (kx185 : Int → Mm → Option (Int × Mm)) (hkx185 : ∀ (v1 : Int) (M : Mm), T (E_M_qGoesOn d) injI 185 [(0, .ref 78), (1, vI v1)] [] M (kx185 v1 M)) (n : Nat) (s : Int × Mm) : T (E_M_qGoesOn d) injI 162 [(0, .ref 78), (1, vI s.1)] [] s.2 (f_M_qGoesOn_L162 kx185 n s) :=
  tq_lp (fun s => [(0, .ref 78), (1, vI s.1)]) (fun s => s.2) (fun kH hH s => w_M_qGoesOn_B162 d (fun v1 M => kH (v1, M)) kx185 (fun v1 M => hH (v1, M)) hkx185 s.1 s.2) n s
def f_M_qGoesOn_J140 (M : Mm) : Option (Int × Mm) :=
  gd (0 ≤ i32 ((M 78 2) - 1) ∧ i32 ((M 78 2) - 1) < ((1600 : Nat) : Int)) <|
  if ¬ i32 (M 79 (i32 ((M 78 2) - 1)).toNat) = i32 42 then
    f_M_qGoesOn_L162 (fun v1 M27 => gd (0 ≤ i32 (M27 78 91) ∧ i32 (M27 78 91) < ((1700 : Nat) : Int)) <|
        bd (up M27 143 (i32 (M27 78 91)).toNat v1) (fun M28 =>
        bd (up M28 78 91 ((M28 78 91) + 1)) (fun M29 =>
        some (1, M29)))) FU (4, M)
  else
    f_M_qGoesOn_L162 (fun v1 M30 => gd (0 ≤ i32 (M30 78 91) ∧ i32 (M30 78 91) < ((1700 : Nat) : Int)) <|
        bd (up M30 143 (i32 (M30 78 91)).toNat v1) (fun M31 =>
        bd (up M31 78 91 ((M31 78 91) + 1)) (fun M32 =>
        some (1, M32)))) FU (3, M)
set_option maxRecDepth 20000 in
set_option maxHeartbeats 4000000 in
theorem w_M_qGoesOn_J140 (d : Nat) (M : Mm) : T (E_M_qGoesOn d) injI 140 [(0, .ref 78)] [] M (f_M_qGoesOn_J140 M) := by
  unfold f_M_qGoesOn_J140
  refine tq_aload_n 0 (E := E_M_qGoesOn d) (pc := 140) (cks_at k_M_qGoesOn 69 rfl rfl) rfl ?_
  refine tq_getR (j := 79) (E := E_M_qGoesOn d) (pc := 141) (cks_at k_M_qGoesOn 70 rfl rfl) fo_M_7 so_78 rfl sp_78_0 ?_
  refine tq_aload_n 0 (E := E_M_qGoesOn d) (pc := 144) (cks_at k_M_qGoesOn 71 rfl rfl) rfl ?_
  refine tq_getI (E := E_M_qGoesOn d) (pc := 145) (cks_at k_M_qGoesOn 72 rfl rfl) fo_M_231 so_78 rfl (by decide) ?_
  refine tq_iconst (E := E_M_qGoesOn d) (pc := 148) (cks_at k_M_qGoesOn 73 rfl rfl) ?_
  refine tq_isub (E := E_M_qGoesOn d) (pc := 149) (cks_at k_M_qGoesOn 74 rfl rfl) ?_
  refine tq_iald (E := E_M_qGoesOn d) (pc := 150) (cks_at k_M_qGoesOn 75 rfl rfl) sa_79 sn_79 ?_
  refine tq_bipush (E := E_M_qGoesOn d) (pc := 151) (cks_at k_M_qGoesOn 76 rfl rfl) (by decide) (by decide) ?_
  refine tq_icmp_ne (E := E_M_qGoesOn d) (pc := 153) (tgt := 160) (cks_at k_M_qGoesOn 77 rfl rfl) (by decide) ?_ ?_
  · refine tq_iconst (E := E_M_qGoesOn d) (pc := 160) (cks_at k_M_qGoesOn 80 rfl rfl) ?_
    refine tq_istore_n (E := E_M_qGoesOn d) (pc := 161) (cks_at k_M_qGoesOn 81 rfl rfl) (show 1 < 2 by decide) rfl ?_
    exact tq_sub [1, 0] rfl (w_M_qGoesOn_L162 d _ (fun v1 M27 => by
        refine tq_aload_n 0 (E := E_M_qGoesOn d) (pc := 185) (cks_at k_M_qGoesOn 93 rfl rfl) rfl ?_
        refine tq_getR (j := 143) (E := E_M_qGoesOn d) (pc := 186) (cks_at k_M_qGoesOn 94 rfl rfl) fo_M_213 so_78 rfl sp_78_90 ?_
        refine tq_aload_n 0 (E := E_M_qGoesOn d) (pc := 189) (cks_at k_M_qGoesOn 95 rfl rfl) rfl ?_
        refine tq_getI (E := E_M_qGoesOn d) (pc := 190) (cks_at k_M_qGoesOn 96 rfl rfl) fo_M_620 so_78 rfl (by decide) ?_
        refine tq_iload_n 1 (E := E_M_qGoesOn d) (pc := 193) (cks_at k_M_qGoesOn 97 rfl rfl) rfl ?_
        refine tq_iast (E := E_M_qGoesOn d) (pc := 194) (cks_at k_M_qGoesOn 98 rfl rfl) sa_143 sn_143 (fun M28 => ?_)
        refine tq_aload_n 0 (E := E_M_qGoesOn d) (pc := 195) (cks_at k_M_qGoesOn 99 rfl rfl) rfl ?_
        refine tq_dup (E := E_M_qGoesOn d) (pc := 196) (cks_at k_M_qGoesOn 100 rfl rfl) rfl ?_
        refine tq_getI (E := E_M_qGoesOn d) (pc := 197) (cks_at k_M_qGoesOn 101 rfl rfl) fo_M_620 so_78 rfl (by decide) ?_
        refine tq_iconst (E := E_M_qGoesOn d) (pc := 200) (cks_at k_M_qGoesOn 102 rfl rfl) ?_
        refine tq_iadd (E := E_M_qGoesOn d) (pc := 201) (cks_at k_M_qGoesOn 103 rfl rfl) ?_
        refine tq_putI (E := E_M_qGoesOn d) (pc := 202) (cks_at k_M_qGoesOn 104 rfl rfl) fo_M_620 so_78 rfl po_12_91 (fun M29 => ?_)
        refine tq_iconst (E := E_M_qGoesOn d) (pc := 205) (cks_at k_M_qGoesOn 105 rfl rfl) ?_
        exact tq_zretC (E := E_M_qGoesOn d) (pc := 206) (cks_at k_M_qGoesOn 106 rfl rfl) rfl (by decide)) FU (4, M))
  · refine tq_iconst (E := E_M_qGoesOn d) (pc := 156) (cks_at k_M_qGoesOn 78 rfl rfl) ?_
    refine tq_goto (tgt := 161) (E := E_M_qGoesOn d) (pc := 157) (cks_at k_M_qGoesOn 79 rfl rfl) (by decide) ?_
    refine tq_istore_n (E := E_M_qGoesOn d) (pc := 161) (cks_at k_M_qGoesOn 81 rfl rfl) (show 1 < 2 by decide) rfl ?_
    exact tq_sub [1, 0] rfl (w_M_qGoesOn_L162 d _ (fun v1 M30 => by
        refine tq_aload_n 0 (E := E_M_qGoesOn d) (pc := 185) (cks_at k_M_qGoesOn 93 rfl rfl) rfl ?_
        refine tq_getR (j := 143) (E := E_M_qGoesOn d) (pc := 186) (cks_at k_M_qGoesOn 94 rfl rfl) fo_M_213 so_78 rfl sp_78_90 ?_
        refine tq_aload_n 0 (E := E_M_qGoesOn d) (pc := 189) (cks_at k_M_qGoesOn 95 rfl rfl) rfl ?_
        refine tq_getI (E := E_M_qGoesOn d) (pc := 190) (cks_at k_M_qGoesOn 96 rfl rfl) fo_M_620 so_78 rfl (by decide) ?_
        refine tq_iload_n 1 (E := E_M_qGoesOn d) (pc := 193) (cks_at k_M_qGoesOn 97 rfl rfl) rfl ?_
        refine tq_iast (E := E_M_qGoesOn d) (pc := 194) (cks_at k_M_qGoesOn 98 rfl rfl) sa_143 sn_143 (fun M31 => ?_)
        refine tq_aload_n 0 (E := E_M_qGoesOn d) (pc := 195) (cks_at k_M_qGoesOn 99 rfl rfl) rfl ?_
        refine tq_dup (E := E_M_qGoesOn d) (pc := 196) (cks_at k_M_qGoesOn 100 rfl rfl) rfl ?_
        refine tq_getI (E := E_M_qGoesOn d) (pc := 197) (cks_at k_M_qGoesOn 101 rfl rfl) fo_M_620 so_78 rfl (by decide) ?_
        refine tq_iconst (E := E_M_qGoesOn d) (pc := 200) (cks_at k_M_qGoesOn 102 rfl rfl) ?_
        refine tq_iadd (E := E_M_qGoesOn d) (pc := 201) (cks_at k_M_qGoesOn 103 rfl rfl) ?_
        refine tq_putI (E := E_M_qGoesOn d) (pc := 202) (cks_at k_M_qGoesOn 104 rfl rfl) fo_M_620 so_78 rfl po_12_91 (fun M32 => ?_)
        refine tq_iconst (E := E_M_qGoesOn d) (pc := 205) (cks_at k_M_qGoesOn 105 rfl rfl) ?_
        exact tq_zretC (E := E_M_qGoesOn d) (pc := 206) (cks_at k_M_qGoesOn 106 rfl rfl) rfl (by decide)) FU (3, M))
def f_M_qGoesOn_B247 (kH : Int → Mm → Option (Int × Mm)) (kx286 : Int → Mm → Option (Int × Mm)) (v1 : Int) (M : Mm) : Option (Int × Mm) :=
  bI (f_M_qIsOn 3 M) (fun r38 M37 =>
  if ¬ i32 r38 = 0 then
    bV (f_M_qDrops M37) (fun M39 =>
    kH v1 M39)
  else
    bI (f_M_qIsOn 4 M37) (fun r41 M40 =>
    if ¬ i32 r41 = 0 then
      bV (f_M_qDrops M40) (fun M42 =>
      kH v1 M42)
    else
      bI (f_M_qIsOn 1 M40) (fun r44 M43 =>
      if ¬ i32 r44 = 0 then
        bV (f_M_qDrops M43) (fun M45 =>
        kH v1 M45)
      else
        bI (f_M_qIsOn 2 M43) (fun r47 M46 =>
        if i32 r47 = 0 then
          kx286 v1 M46
        else
          bV (f_M_qDrops M46) (fun M48 =>
          kH v1 M48)))))
set_option maxRecDepth 20000 in
set_option maxHeartbeats 4000000 in
theorem w_M_qGoesOn_B247 (d : Nat) (kH : Int → Mm → Option (Int × Mm)) (kx286 : Int → Mm → Option (Int × Mm)) (hkH : ∀ (v1 : Int) (M : Mm), T (E_M_qGoesOn d) injI 247 [(0, .ref 78), (1, vI v1)] [] M (kH v1 M)) (hkx286 : ∀ (v1 : Int) (M : Mm), T (E_M_qGoesOn d) injI 286 [(0, .ref 78), (1, vI v1)] [] M (kx286 v1 M)) (v1 : Int) (M : Mm) : T (E_M_qGoesOn d) injI 247 [(0, .ref 78), (1, vI v1)] [] M (f_M_qGoesOn_B247 kH kx286 v1 M) := by
  unfold f_M_qGoesOn_B247
  refine tq_aload_n 0 (E := E_M_qGoesOn d) (pc := 247) (cks_at k_M_qGoesOn 128 rfl rfl) rfl ?_
  refine tq_iconst (E := E_M_qGoesOn d) (pc := 248) (cks_at k_M_qGoesOn 129 rfl rfl) ?_
  refine tq_V1 (E := E_M_qGoesOn d) (pc := 249) (cks_at k_M_qGoesOn 130 rfl rfl) mk_M_qIsOn lk_M_656 rc_78 (Nat.le_of_ble_eq_true rfl) (c_M_qIsOn (d + 2) 3 M) (k_I fun r38 M37 => ?_)
  refine tq_if_ne (E := E_M_qGoesOn d) (pc := 252) (tgt := 279) (cks_at k_M_qGoesOn 131 rfl rfl) (by decide) ?_ ?_
  · refine tq_aload_n 0 (E := E_M_qGoesOn d) (pc := 279) (cks_at k_M_qGoesOn 144 rfl rfl) rfl ?_
    refine tq_V0 (E := E_M_qGoesOn d) (pc := 280) (cks_at k_M_qGoesOn 145 rfl rfl) mk_M_qDrops lk_M_632 rc_78 (Nat.le_of_ble_eq_true rfl) (c_M_qDrops (d + 1) M37) (k_V fun M39 => ?_)
    refine tq_goto (tgt := 247) (E := E_M_qGoesOn d) (pc := 283) (cks_at k_M_qGoesOn 146 rfl rfl) (by decide) ?_
    exact tq_sub [0, 1] rfl (hkH v1 M39)
  · refine tq_aload_n 0 (E := E_M_qGoesOn d) (pc := 255) (cks_at k_M_qGoesOn 132 rfl rfl) rfl ?_
    refine tq_iconst (E := E_M_qGoesOn d) (pc := 256) (cks_at k_M_qGoesOn 133 rfl rfl) ?_
    refine tq_V1 (E := E_M_qGoesOn d) (pc := 257) (cks_at k_M_qGoesOn 134 rfl rfl) mk_M_qIsOn lk_M_656 rc_78 (Nat.le_of_ble_eq_true rfl) (c_M_qIsOn (d + 2) 4 M37) (k_I fun r41 M40 => ?_)
    refine tq_if_ne (E := E_M_qGoesOn d) (pc := 260) (tgt := 279) (cks_at k_M_qGoesOn 135 rfl rfl) (by decide) ?_ ?_
    · refine tq_aload_n 0 (E := E_M_qGoesOn d) (pc := 279) (cks_at k_M_qGoesOn 144 rfl rfl) rfl ?_
      refine tq_V0 (E := E_M_qGoesOn d) (pc := 280) (cks_at k_M_qGoesOn 145 rfl rfl) mk_M_qDrops lk_M_632 rc_78 (Nat.le_of_ble_eq_true rfl) (c_M_qDrops (d + 1) M40) (k_V fun M42 => ?_)
      refine tq_goto (tgt := 247) (E := E_M_qGoesOn d) (pc := 283) (cks_at k_M_qGoesOn 146 rfl rfl) (by decide) ?_
      exact tq_sub [0, 1] rfl (hkH v1 M42)
    · refine tq_aload_n 0 (E := E_M_qGoesOn d) (pc := 263) (cks_at k_M_qGoesOn 136 rfl rfl) rfl ?_
      refine tq_iconst (E := E_M_qGoesOn d) (pc := 264) (cks_at k_M_qGoesOn 137 rfl rfl) ?_
      refine tq_V1 (E := E_M_qGoesOn d) (pc := 265) (cks_at k_M_qGoesOn 138 rfl rfl) mk_M_qIsOn lk_M_656 rc_78 (Nat.le_of_ble_eq_true rfl) (c_M_qIsOn (d + 2) 1 M40) (k_I fun r44 M43 => ?_)
      refine tq_if_ne (E := E_M_qGoesOn d) (pc := 268) (tgt := 279) (cks_at k_M_qGoesOn 139 rfl rfl) (by decide) ?_ ?_
      · refine tq_aload_n 0 (E := E_M_qGoesOn d) (pc := 279) (cks_at k_M_qGoesOn 144 rfl rfl) rfl ?_
        refine tq_V0 (E := E_M_qGoesOn d) (pc := 280) (cks_at k_M_qGoesOn 145 rfl rfl) mk_M_qDrops lk_M_632 rc_78 (Nat.le_of_ble_eq_true rfl) (c_M_qDrops (d + 1) M43) (k_V fun M45 => ?_)
        refine tq_goto (tgt := 247) (E := E_M_qGoesOn d) (pc := 283) (cks_at k_M_qGoesOn 146 rfl rfl) (by decide) ?_
        exact tq_sub [0, 1] rfl (hkH v1 M45)
      · refine tq_aload_n 0 (E := E_M_qGoesOn d) (pc := 271) (cks_at k_M_qGoesOn 140 rfl rfl) rfl ?_
        refine tq_iconst (E := E_M_qGoesOn d) (pc := 272) (cks_at k_M_qGoesOn 141 rfl rfl) ?_
        refine tq_V1 (E := E_M_qGoesOn d) (pc := 273) (cks_at k_M_qGoesOn 142 rfl rfl) mk_M_qIsOn lk_M_656 rc_78 (Nat.le_of_ble_eq_true rfl) (c_M_qIsOn (d + 2) 2 M43) (k_I fun r47 M46 => ?_)
        refine tq_if_eq (E := E_M_qGoesOn d) (pc := 276) (tgt := 286) (cks_at k_M_qGoesOn 143 rfl rfl) (by decide) ?_ ?_
        · exact tq_sub [0, 1] rfl (hkx286 v1 M46)
        · refine tq_aload_n 0 (E := E_M_qGoesOn d) (pc := 279) (cks_at k_M_qGoesOn 144 rfl rfl) rfl ?_
          refine tq_V0 (E := E_M_qGoesOn d) (pc := 280) (cks_at k_M_qGoesOn 145 rfl rfl) mk_M_qDrops lk_M_632 rc_78 (Nat.le_of_ble_eq_true rfl) (c_M_qDrops (d + 1) M46) (k_V fun M48 => ?_)
          refine tq_goto (tgt := 247) (E := E_M_qGoesOn d) (pc := 283) (cks_at k_M_qGoesOn 146 rfl rfl) (by decide) ?_
          exact tq_sub [0, 1] rfl (hkH v1 M48)
def f_M_qGoesOn_L247 (kx286 : Int → Mm → Option (Int × Mm)) : Nat → Int × Mm → Option (Int × Mm) := lp fun kH s => f_M_qGoesOn_B247 (fun v1 M => kH (v1, M)) kx286 s.1 s.2
set_option maxRecDepth 20000 in
set_option maxHeartbeats 4000000 in
theorem w_M_qGoesOn_L247 (d : Nat) (kx286 : Int → Mm → Option (Int × Mm)) (hkx286 : ∀ (v1 : Int) (M : Mm), T (E_M_qGoesOn d) injI 286 [(0, .ref 78), (1, vI v1)] [] M (kx286 v1 M)) (n : Nat) (s : Int × Mm) : T (E_M_qGoesOn d) injI 247 [(0, .ref 78), (1, vI s.1)] [] s.2 (f_M_qGoesOn_L247 kx286 n s) :=
  tq_lp (fun s => [(0, .ref 78), (1, vI s.1)]) (fun s => s.2) (fun kH hH s => w_M_qGoesOn_B247 d (fun v1 M => kH (v1, M)) kx286 (fun v1 M => hH (v1, M)) hkx286 s.1 s.2) n s
def f_M_qGoesOn_J225 (M : Mm) : Option (Int × Mm) :=
  gd (0 ≤ i32 ((M 78 2) - 1) ∧ i32 ((M 78 2) - 1) < ((1600 : Nat) : Int)) <|
  if ¬ i32 (M 79 (i32 ((M 78 2) - 1)).toNat) = i32 43 then
    f_M_qGoesOn_L247 (fun v1 M49 => gd (0 ≤ i32 (M49 78 91) ∧ i32 (M49 78 91) < ((1700 : Nat) : Int)) <|
        bd (up M49 143 (i32 (M49 78 91)).toNat v1) (fun M50 =>
        bd (up M50 78 91 ((M50 78 91) + 1)) (fun M51 =>
        some (1, M51)))) FU (2, M)
  else
    f_M_qGoesOn_L247 (fun v1 M52 => gd (0 ≤ i32 (M52 78 91) ∧ i32 (M52 78 91) < ((1700 : Nat) : Int)) <|
        bd (up M52 143 (i32 (M52 78 91)).toNat v1) (fun M53 =>
        bd (up M53 78 91 ((M53 78 91) + 1)) (fun M54 =>
        some (1, M54)))) FU (1, M)
set_option maxRecDepth 20000 in
set_option maxHeartbeats 4000000 in
theorem w_M_qGoesOn_J225 (d : Nat) (M : Mm) : T (E_M_qGoesOn d) injI 225 [(0, .ref 78)] [] M (f_M_qGoesOn_J225 M) := by
  unfold f_M_qGoesOn_J225
  refine tq_aload_n 0 (E := E_M_qGoesOn d) (pc := 225) (cks_at k_M_qGoesOn 115 rfl rfl) rfl ?_
  refine tq_getR (j := 79) (E := E_M_qGoesOn d) (pc := 226) (cks_at k_M_qGoesOn 116 rfl rfl) fo_M_7 so_78 rfl sp_78_0 ?_
  refine tq_aload_n 0 (E := E_M_qGoesOn d) (pc := 229) (cks_at k_M_qGoesOn 117 rfl rfl) rfl ?_
  refine tq_getI (E := E_M_qGoesOn d) (pc := 230) (cks_at k_M_qGoesOn 118 rfl rfl) fo_M_231 so_78 rfl (by decide) ?_
  refine tq_iconst (E := E_M_qGoesOn d) (pc := 233) (cks_at k_M_qGoesOn 119 rfl rfl) ?_
  refine tq_isub (E := E_M_qGoesOn d) (pc := 234) (cks_at k_M_qGoesOn 120 rfl rfl) ?_
  refine tq_iald (E := E_M_qGoesOn d) (pc := 235) (cks_at k_M_qGoesOn 121 rfl rfl) sa_79 sn_79 ?_
  refine tq_bipush (E := E_M_qGoesOn d) (pc := 236) (cks_at k_M_qGoesOn 122 rfl rfl) (by decide) (by decide) ?_
  refine tq_icmp_ne (E := E_M_qGoesOn d) (pc := 238) (tgt := 245) (cks_at k_M_qGoesOn 123 rfl rfl) (by decide) ?_ ?_
  · refine tq_iconst (E := E_M_qGoesOn d) (pc := 245) (cks_at k_M_qGoesOn 126 rfl rfl) ?_
    refine tq_istore_n (E := E_M_qGoesOn d) (pc := 246) (cks_at k_M_qGoesOn 127 rfl rfl) (show 1 < 2 by decide) rfl ?_
    exact tq_sub [1, 0] rfl (w_M_qGoesOn_L247 d _ (fun v1 M49 => by
        refine tq_aload_n 0 (E := E_M_qGoesOn d) (pc := 286) (cks_at k_M_qGoesOn 147 rfl rfl) rfl ?_
        refine tq_getR (j := 143) (E := E_M_qGoesOn d) (pc := 287) (cks_at k_M_qGoesOn 148 rfl rfl) fo_M_213 so_78 rfl sp_78_90 ?_
        refine tq_aload_n 0 (E := E_M_qGoesOn d) (pc := 290) (cks_at k_M_qGoesOn 149 rfl rfl) rfl ?_
        refine tq_getI (E := E_M_qGoesOn d) (pc := 291) (cks_at k_M_qGoesOn 150 rfl rfl) fo_M_620 so_78 rfl (by decide) ?_
        refine tq_iload_n 1 (E := E_M_qGoesOn d) (pc := 294) (cks_at k_M_qGoesOn 151 rfl rfl) rfl ?_
        refine tq_iast (E := E_M_qGoesOn d) (pc := 295) (cks_at k_M_qGoesOn 152 rfl rfl) sa_143 sn_143 (fun M50 => ?_)
        refine tq_aload_n 0 (E := E_M_qGoesOn d) (pc := 296) (cks_at k_M_qGoesOn 153 rfl rfl) rfl ?_
        refine tq_dup (E := E_M_qGoesOn d) (pc := 297) (cks_at k_M_qGoesOn 154 rfl rfl) rfl ?_
        refine tq_getI (E := E_M_qGoesOn d) (pc := 298) (cks_at k_M_qGoesOn 155 rfl rfl) fo_M_620 so_78 rfl (by decide) ?_
        refine tq_iconst (E := E_M_qGoesOn d) (pc := 301) (cks_at k_M_qGoesOn 156 rfl rfl) ?_
        refine tq_iadd (E := E_M_qGoesOn d) (pc := 302) (cks_at k_M_qGoesOn 157 rfl rfl) ?_
        refine tq_putI (E := E_M_qGoesOn d) (pc := 303) (cks_at k_M_qGoesOn 158 rfl rfl) fo_M_620 so_78 rfl po_12_91 (fun M51 => ?_)
        refine tq_iconst (E := E_M_qGoesOn d) (pc := 306) (cks_at k_M_qGoesOn 159 rfl rfl) ?_
        exact tq_zretC (E := E_M_qGoesOn d) (pc := 307) (cks_at k_M_qGoesOn 160 rfl rfl) rfl (by decide)) FU (2, M))
  · refine tq_iconst (E := E_M_qGoesOn d) (pc := 241) (cks_at k_M_qGoesOn 124 rfl rfl) ?_
    refine tq_goto (tgt := 246) (E := E_M_qGoesOn d) (pc := 242) (cks_at k_M_qGoesOn 125 rfl rfl) (by decide) ?_
    refine tq_istore_n (E := E_M_qGoesOn d) (pc := 246) (cks_at k_M_qGoesOn 127 rfl rfl) (show 1 < 2 by decide) rfl ?_
    exact tq_sub [1, 0] rfl (w_M_qGoesOn_L247 d _ (fun v1 M52 => by
        refine tq_aload_n 0 (E := E_M_qGoesOn d) (pc := 286) (cks_at k_M_qGoesOn 147 rfl rfl) rfl ?_
        refine tq_getR (j := 143) (E := E_M_qGoesOn d) (pc := 287) (cks_at k_M_qGoesOn 148 rfl rfl) fo_M_213 so_78 rfl sp_78_90 ?_
        refine tq_aload_n 0 (E := E_M_qGoesOn d) (pc := 290) (cks_at k_M_qGoesOn 149 rfl rfl) rfl ?_
        refine tq_getI (E := E_M_qGoesOn d) (pc := 291) (cks_at k_M_qGoesOn 150 rfl rfl) fo_M_620 so_78 rfl (by decide) ?_
        refine tq_iload_n 1 (E := E_M_qGoesOn d) (pc := 294) (cks_at k_M_qGoesOn 151 rfl rfl) rfl ?_
        refine tq_iast (E := E_M_qGoesOn d) (pc := 295) (cks_at k_M_qGoesOn 152 rfl rfl) sa_143 sn_143 (fun M53 => ?_)
        refine tq_aload_n 0 (E := E_M_qGoesOn d) (pc := 296) (cks_at k_M_qGoesOn 153 rfl rfl) rfl ?_
        refine tq_dup (E := E_M_qGoesOn d) (pc := 297) (cks_at k_M_qGoesOn 154 rfl rfl) rfl ?_
        refine tq_getI (E := E_M_qGoesOn d) (pc := 298) (cks_at k_M_qGoesOn 155 rfl rfl) fo_M_620 so_78 rfl (by decide) ?_
        refine tq_iconst (E := E_M_qGoesOn d) (pc := 301) (cks_at k_M_qGoesOn 156 rfl rfl) ?_
        refine tq_iadd (E := E_M_qGoesOn d) (pc := 302) (cks_at k_M_qGoesOn 157 rfl rfl) ?_
        refine tq_putI (E := E_M_qGoesOn d) (pc := 303) (cks_at k_M_qGoesOn 158 rfl rfl) fo_M_620 so_78 rfl po_12_91 (fun M54 => ?_)
        refine tq_iconst (E := E_M_qGoesOn d) (pc := 306) (cks_at k_M_qGoesOn 159 rfl rfl) ?_
        exact tq_zretC (E := E_M_qGoesOn d) (pc := 307) (cks_at k_M_qGoesOn 160 rfl rfl) rfl (by decide)) FU (1, M))
def f_M_qGoesOn_J326 (M : Mm) : Option (Int × Mm) :=
  bV (f_M_asksSign 44 M) (fun M59 =>
  if i32 (M59 78 5) = 0 then
    bV (f_M_qDropsToBracket M59) (fun M60 =>
    gd (0 ≤ i32 ((M60 78 91) - 1) ∧ i32 ((M60 78 91) - 1) < ((1700 : Nat) : Int)) <|
    gd (0 ≤ i32 ((M60 78 91) - 1) ∧ i32 ((M60 78 91) - 1) < ((1700 : Nat) : Int)) <|
    bd (up M60 143 (i32 ((M60 78 91) - 1)).toNat ((M60 143 (i32 ((M60 78 91) - 1)).toNat) + 2)) (fun M61 =>
    some (1, M61)))
  else
    some (0, M59))
set_option maxRecDepth 20000 in
set_option maxHeartbeats 4000000 in
theorem w_M_qGoesOn_J326 (d : Nat) (M : Mm) : T (E_M_qGoesOn d) injI 326 [(0, .ref 78)] [] M (f_M_qGoesOn_J326 M) := by
  unfold f_M_qGoesOn_J326
  refine tq_aload_n 0 (E := E_M_qGoesOn d) (pc := 326) (cks_at k_M_qGoesOn 169 rfl rfl) rfl ?_
  refine tq_bipush (E := E_M_qGoesOn d) (pc := 327) (cks_at k_M_qGoesOn 170 rfl rfl) (by decide) (by decide) ?_
  refine tq_V1 (E := E_M_qGoesOn d) (pc := 329) (cks_at k_M_qGoesOn 171 rfl rfl) mk_M_asksSign lk_M_338 rc_78 (Nat.le_of_ble_eq_true rfl) (c_M_asksSign (d + 0) 44 M) (k_V fun M59 => ?_)
  refine tq_aload_n 0 (E := E_M_qGoesOn d) (pc := 332) (cks_at k_M_qGoesOn 172 rfl rfl) rfl ?_
  refine tq_getI (E := E_M_qGoesOn d) (pc := 333) (cks_at k_M_qGoesOn 173 rfl rfl) fo_M_225 so_78 rfl (by decide) ?_
  refine tq_if_eq (E := E_M_qGoesOn d) (pc := 336) (tgt := 341) (cks_at k_M_qGoesOn 174 rfl rfl) (by decide) ?_ ?_
  · refine tq_aload_n 0 (E := E_M_qGoesOn d) (pc := 341) (cks_at k_M_qGoesOn 177 rfl rfl) rfl ?_
    refine tq_V0 (E := E_M_qGoesOn d) (pc := 342) (cks_at k_M_qGoesOn 178 rfl rfl) mk_M_qDropsToBracket lk_M_653 rc_78 (Nat.le_of_ble_eq_true rfl) (c_M_qDropsToBracket (d + 0) M59) (k_V fun M60 => ?_)
    refine tq_aload_n 0 (E := E_M_qGoesOn d) (pc := 345) (cks_at k_M_qGoesOn 179 rfl rfl) rfl ?_
    refine tq_getR (j := 143) (E := E_M_qGoesOn d) (pc := 346) (cks_at k_M_qGoesOn 180 rfl rfl) fo_M_213 so_78 rfl sp_78_90 ?_
    refine tq_aload_n 0 (E := E_M_qGoesOn d) (pc := 349) (cks_at k_M_qGoesOn 181 rfl rfl) rfl ?_
    refine tq_getI (E := E_M_qGoesOn d) (pc := 350) (cks_at k_M_qGoesOn 182 rfl rfl) fo_M_620 so_78 rfl (by decide) ?_
    refine tq_iconst (E := E_M_qGoesOn d) (pc := 353) (cks_at k_M_qGoesOn 183 rfl rfl) ?_
    refine tq_isub (E := E_M_qGoesOn d) (pc := 354) (cks_at k_M_qGoesOn 184 rfl rfl) ?_
    refine tq_dup2 (E := E_M_qGoesOn d) (pc := 355) (cks_at k_M_qGoesOn 185 rfl rfl) rfl rfl ?_
    refine tq_iald (E := E_M_qGoesOn d) (pc := 356) (cks_at k_M_qGoesOn 186 rfl rfl) sa_143 sn_143 ?_
    refine tq_iconst (E := E_M_qGoesOn d) (pc := 357) (cks_at k_M_qGoesOn 187 rfl rfl) ?_
    refine tq_iadd (E := E_M_qGoesOn d) (pc := 358) (cks_at k_M_qGoesOn 188 rfl rfl) ?_
    refine tq_iast (E := E_M_qGoesOn d) (pc := 359) (cks_at k_M_qGoesOn 189 rfl rfl) sa_143 sn_143 (fun M61 => ?_)
    refine tq_iconst (E := E_M_qGoesOn d) (pc := 360) (cks_at k_M_qGoesOn 190 rfl rfl) ?_
    exact tq_zretC (E := E_M_qGoesOn d) (pc := 361) (cks_at k_M_qGoesOn 191 rfl rfl) rfl (by decide)
  · refine tq_iconst (E := E_M_qGoesOn d) (pc := 339) (cks_at k_M_qGoesOn 175 rfl rfl) ?_
    exact tq_zretC (E := E_M_qGoesOn d) (pc := 340) (cks_at k_M_qGoesOn 176 rfl rfl) rfl (by decide)
def f_M_qGoesOn_J122 (M : Mm) : Option (Int × Mm) :=
  bI (f_M_takesSign 42 M) (fun r20 M19 =>
  if ¬ i32 r20 = 0 then
    f_M_qGoesOn_J140 M19
  else
    bI (f_M_takesSign 47 M19) (fun r34 M33 =>
    if i32 r34 = 0 then
      bI (f_M_takesSign 43 M33) (fun r36 M35 =>
      if ¬ i32 r36 = 0 then
        f_M_qGoesOn_J225 M35
      else
        bI (f_M_takesSign 45 M35) (fun r56 M55 =>
        if i32 r56 = 0 then
          bI (f_M_qBracket M55) (fun r58 M57 =>
          if i32 r58 = i32 21 then
            f_M_qGoesOn_J326 M57
          else
            bI (f_M_qBracket M57) (fun r63 M62 =>
            if ¬ i32 r63 = i32 22 then
              bI (f_M_qBracket M62) (fun r65 M64 =>
              if i32 r65 = i32 ((-1)) then
                some (0, M64)
              else
                if ¬ i32 (M64 78 5) = 0 then
                  some (0, M64)
                else
                  bV (f_M_fail 1 (M64 78 2) M64) (fun M66 =>
                  some (0, M66)))
            else
              f_M_qGoesOn_J326 M62))
        else
          f_M_qGoesOn_J225 M55))
    else
      f_M_qGoesOn_J140 M33))
set_option maxRecDepth 20000 in
set_option maxHeartbeats 4000000 in
theorem w_M_qGoesOn_J122 (d : Nat) (M : Mm) : T (E_M_qGoesOn d) injI 122 [(0, .ref 78)] [] M (f_M_qGoesOn_J122 M) := by
  unfold f_M_qGoesOn_J122
  refine tq_aload_n 0 (E := E_M_qGoesOn d) (pc := 122) (cks_at k_M_qGoesOn 61 rfl rfl) rfl ?_
  refine tq_bipush (E := E_M_qGoesOn d) (pc := 123) (cks_at k_M_qGoesOn 62 rfl rfl) (by decide) (by decide) ?_
  refine tq_V1 (E := E_M_qGoesOn d) (pc := 125) (cks_at k_M_qGoesOn 63 rfl rfl) mk_M_takesSign lk_M_259 rc_78 (Nat.le_of_ble_eq_true rfl) (c_M_takesSign (d + 1) 42 M) (k_I fun r20 M19 => ?_)
  refine tq_if_ne (E := E_M_qGoesOn d) (pc := 128) (tgt := 140) (cks_at k_M_qGoesOn 64 rfl rfl) (by decide) ?_ ?_
  · exact tq_sub [0] rfl (w_M_qGoesOn_J140 d M19)
  · refine tq_aload_n 0 (E := E_M_qGoesOn d) (pc := 131) (cks_at k_M_qGoesOn 65 rfl rfl) rfl ?_
    refine tq_bipush (E := E_M_qGoesOn d) (pc := 132) (cks_at k_M_qGoesOn 66 rfl rfl) (by decide) (by decide) ?_
    refine tq_V1 (E := E_M_qGoesOn d) (pc := 134) (cks_at k_M_qGoesOn 67 rfl rfl) mk_M_takesSign lk_M_259 rc_78 (Nat.le_of_ble_eq_true rfl) (c_M_takesSign (d + 1) 47 M19) (k_I fun r34 M33 => ?_)
    refine tq_if_eq (E := E_M_qGoesOn d) (pc := 137) (tgt := 207) (cks_at k_M_qGoesOn 68 rfl rfl) (by decide) ?_ ?_
    · refine tq_aload_n 0 (E := E_M_qGoesOn d) (pc := 207) (cks_at k_M_qGoesOn 107 rfl rfl) rfl ?_
      refine tq_bipush (E := E_M_qGoesOn d) (pc := 208) (cks_at k_M_qGoesOn 108 rfl rfl) (by decide) (by decide) ?_
      refine tq_V1 (E := E_M_qGoesOn d) (pc := 210) (cks_at k_M_qGoesOn 109 rfl rfl) mk_M_takesSign lk_M_259 rc_78 (Nat.le_of_ble_eq_true rfl) (c_M_takesSign (d + 1) 43 M33) (k_I fun r36 M35 => ?_)
      refine tq_if_ne (E := E_M_qGoesOn d) (pc := 213) (tgt := 225) (cks_at k_M_qGoesOn 110 rfl rfl) (by decide) ?_ ?_
      · exact tq_sub [0] rfl (w_M_qGoesOn_J225 d M35)
      · refine tq_aload_n 0 (E := E_M_qGoesOn d) (pc := 216) (cks_at k_M_qGoesOn 111 rfl rfl) rfl ?_
        refine tq_bipush (E := E_M_qGoesOn d) (pc := 217) (cks_at k_M_qGoesOn 112 rfl rfl) (by decide) (by decide) ?_
        refine tq_V1 (E := E_M_qGoesOn d) (pc := 219) (cks_at k_M_qGoesOn 113 rfl rfl) mk_M_takesSign lk_M_259 rc_78 (Nat.le_of_ble_eq_true rfl) (c_M_takesSign (d + 1) 45 M35) (k_I fun r56 M55 => ?_)
        refine tq_if_eq (E := E_M_qGoesOn d) (pc := 222) (tgt := 308) (cks_at k_M_qGoesOn 114 rfl rfl) (by decide) ?_ ?_
        · refine tq_aload_n 0 (E := E_M_qGoesOn d) (pc := 308) (cks_at k_M_qGoesOn 161 rfl rfl) rfl ?_
          refine tq_V0 (E := E_M_qGoesOn d) (pc := 309) (cks_at k_M_qGoesOn 162 rfl rfl) mk_M_qBracket lk_M_650 rc_78 (Nat.le_of_ble_eq_true rfl) (c_M_qBracket (d + 1) M55) (k_I fun r58 M57 => ?_)
          refine tq_bipush (E := E_M_qGoesOn d) (pc := 312) (cks_at k_M_qGoesOn 163 rfl rfl) (by decide) (by decide) ?_
          refine tq_icmp_eq (E := E_M_qGoesOn d) (pc := 314) (tgt := 326) (cks_at k_M_qGoesOn 164 rfl rfl) (by decide) ?_ ?_
          · exact tq_sub [0] rfl (w_M_qGoesOn_J326 d M57)
          · refine tq_aload_n 0 (E := E_M_qGoesOn d) (pc := 317) (cks_at k_M_qGoesOn 165 rfl rfl) rfl ?_
            refine tq_V0 (E := E_M_qGoesOn d) (pc := 318) (cks_at k_M_qGoesOn 166 rfl rfl) mk_M_qBracket lk_M_650 rc_78 (Nat.le_of_ble_eq_true rfl) (c_M_qBracket (d + 1) M57) (k_I fun r63 M62 => ?_)
            refine tq_bipush (E := E_M_qGoesOn d) (pc := 321) (cks_at k_M_qGoesOn 167 rfl rfl) (by decide) (by decide) ?_
            refine tq_icmp_ne (E := E_M_qGoesOn d) (pc := 323) (tgt := 362) (cks_at k_M_qGoesOn 168 rfl rfl) (by decide) ?_ ?_
            · refine tq_aload_n 0 (E := E_M_qGoesOn d) (pc := 362) (cks_at k_M_qGoesOn 192 rfl rfl) rfl ?_
              refine tq_V0 (E := E_M_qGoesOn d) (pc := 363) (cks_at k_M_qGoesOn 193 rfl rfl) mk_M_qBracket lk_M_650 rc_78 (Nat.le_of_ble_eq_true rfl) (c_M_qBracket (d + 1) M62) (k_I fun r65 M64 => ?_)
              refine tq_iconst (E := E_M_qGoesOn d) (pc := 366) (cks_at k_M_qGoesOn 194 rfl rfl) ?_
              refine tq_icmp_eq (E := E_M_qGoesOn d) (pc := 367) (tgt := 386) (cks_at k_M_qGoesOn 195 rfl rfl) (by decide) ?_ ?_
              · refine tq_iconst (E := E_M_qGoesOn d) (pc := 386) (cks_at k_M_qGoesOn 204 rfl rfl) ?_
                exact tq_zretC (E := E_M_qGoesOn d) (pc := 387) (cks_at k_M_qGoesOn 205 rfl rfl) rfl (by decide)
              · refine tq_aload_n 0 (E := E_M_qGoesOn d) (pc := 370) (cks_at k_M_qGoesOn 196 rfl rfl) rfl ?_
                refine tq_getI (E := E_M_qGoesOn d) (pc := 371) (cks_at k_M_qGoesOn 197 rfl rfl) fo_M_225 so_78 rfl (by decide) ?_
                refine tq_if_ne (E := E_M_qGoesOn d) (pc := 374) (tgt := 386) (cks_at k_M_qGoesOn 198 rfl rfl) (by decide) ?_ ?_
                · refine tq_iconst (E := E_M_qGoesOn d) (pc := 386) (cks_at k_M_qGoesOn 204 rfl rfl) ?_
                  exact tq_zretC (E := E_M_qGoesOn d) (pc := 387) (cks_at k_M_qGoesOn 205 rfl rfl) rfl (by decide)
                · refine tq_aload_n 0 (E := E_M_qGoesOn d) (pc := 377) (cks_at k_M_qGoesOn 199 rfl rfl) rfl ?_
                  refine tq_iconst (E := E_M_qGoesOn d) (pc := 378) (cks_at k_M_qGoesOn 200 rfl rfl) ?_
                  refine tq_aload_n 0 (E := E_M_qGoesOn d) (pc := 379) (cks_at k_M_qGoesOn 201 rfl rfl) rfl ?_
                  refine tq_getI (E := E_M_qGoesOn d) (pc := 380) (cks_at k_M_qGoesOn 202 rfl rfl) fo_M_231 so_78 rfl (by decide) ?_
                  refine tq_V2 (E := E_M_qGoesOn d) (pc := 383) (cks_at k_M_qGoesOn 203 rfl rfl) mk_M_fail lk_M_255 rc_78 (Nat.le_of_ble_eq_true rfl) (c_M_fail (d + 2) 1 (M64 78 2) M64) (k_V fun M66 => ?_)
                  refine tq_iconst (E := E_M_qGoesOn d) (pc := 386) (cks_at k_M_qGoesOn 204 rfl rfl) ?_
                  exact tq_zretC (E := E_M_qGoesOn d) (pc := 387) (cks_at k_M_qGoesOn 205 rfl rfl) rfl (by decide)
            · exact tq_sub [0] rfl (w_M_qGoesOn_J326 d M62)
        · exact tq_sub [0] rfl (w_M_qGoesOn_J225 d M55)
    · exact tq_sub [0] rfl (w_M_qGoesOn_J140 d M33)
def f_M_qGoesOn (M : Mm) : Option (Int × Mm) :=
  f_M_qGoesOn_L0 (fun M18 => f_M_qGoesOn_J122 M18) FU M
set_option maxRecDepth 20000 in
set_option maxHeartbeats 4000000 in
theorem c_M_qGoesOn (d : Nat) (M : Mm) (Q : Option Value → Mm → Prop) (h : sat injI (f_M_qGoesOn M) Q) : Ct (d + 4) y_M_qGoesOn [.ref 78] M Q := by
  refine ct_in (d := d + 3) mk_M_qGoesOn (Nat.le_of_ble_eq_true rfl) (?_ : T (E_M_qGoesOn d) injI 0 [(0, .ref 78)] [] M (f_M_qGoesOn M)) h
  unfold f_M_qGoesOn
  exact tq_sub [0] rfl (w_M_qGoesOn_L0 d _ (fun M18 => by
      exact tq_sub [0] rfl (w_M_qGoesOn_J122 d M18)) FU M)
abbrev E_M_qSums (d : Nat) : Ev := (Ct (d + 6), "BreathTownModel", prog_14_method_129_code, 3, False, 0, (fun _ => 0), (Option.none : Option Jvm.ClassFile.FieldType))
def f_M_qSums_B15 (kH : Int → Int → Mm → Option (Mm)) (kx53 : Int → Mm → Option (Mm)) (v1 v2 : Int) (M : Mm) : Option (Mm) :=
  if i32 v2 = 0 then
    kx53 v1 M
  else
    if ¬ i32 (M 78 5) = 0 then
      kx53 v1 M
    else
      bV (f_M_qPartTold M) (fun M2 =>
      if ¬ i32 (M2 78 5) = 0 then
        kH v1 0 M2
      else
        bI (f_M_qGoesOn M2) (fun r4 M3 =>
        if i32 r4 = 0 then
          kH v1 0 M3
        else
          kH v1 1 M3))
set_option maxRecDepth 20000 in
set_option maxHeartbeats 4000000 in
theorem w_M_qSums_B15 (d : Nat) (kH : Int → Int → Mm → Option (Mm)) (kx53 : Int → Mm → Option (Mm)) (hkH : ∀ (v1 v2 : Int) (M : Mm), T (E_M_qSums d) injV 15 [(0, .ref 78), (1, vI v1), (2, vI v2)] [] M (kH v1 v2 M)) (hkx53 : ∀ (v1 : Int) (M : Mm), T (E_M_qSums d) injV 53 [(0, .ref 78), (1, vI v1)] [] M (kx53 v1 M)) (v1 v2 : Int) (M : Mm) : T (E_M_qSums d) injV 15 [(0, .ref 78), (1, vI v1), (2, vI v2)] [] M (f_M_qSums_B15 kH kx53 v1 v2 M) := by
  unfold f_M_qSums_B15
  refine tq_iload_n 2 (E := E_M_qSums d) (pc := 15) (cks_at k_M_qSums 9 rfl rfl) rfl ?_
  refine tq_if_eq (E := E_M_qSums d) (pc := 16) (tgt := 53) (cks_at k_M_qSums 10 rfl rfl) (by decide) ?_ ?_
  · exact tq_sub [0, 1] rfl (hkx53 v1 M)
  · refine tq_aload_n 0 (E := E_M_qSums d) (pc := 19) (cks_at k_M_qSums 11 rfl rfl) rfl ?_
    refine tq_getI (E := E_M_qSums d) (pc := 20) (cks_at k_M_qSums 12 rfl rfl) fo_M_225 so_78 rfl (by decide) ?_
    refine tq_if_ne (E := E_M_qSums d) (pc := 23) (tgt := 53) (cks_at k_M_qSums 13 rfl rfl) (by decide) ?_ ?_
    · exact tq_sub [0, 1] rfl (hkx53 v1 M)
    · refine tq_aload_n 0 (E := E_M_qSums d) (pc := 26) (cks_at k_M_qSums 14 rfl rfl) rfl ?_
      refine tq_V0 (E := E_M_qSums d) (pc := 27) (cks_at k_M_qSums 15 rfl rfl) mk_M_qPartTold lk_M_659 rc_78 (Nat.le_of_ble_eq_true rfl) (c_M_qPartTold (d + 0) M) (k_V fun M2 => ?_)
      refine tq_aload_n 0 (E := E_M_qSums d) (pc := 30) (cks_at k_M_qSums 16 rfl rfl) rfl ?_
      refine tq_getI (E := E_M_qSums d) (pc := 31) (cks_at k_M_qSums 17 rfl rfl) fo_M_225 so_78 rfl (by decide) ?_
      refine tq_if_ne (E := E_M_qSums d) (pc := 34) (tgt := 48) (cks_at k_M_qSums 18 rfl rfl) (by decide) ?_ ?_
      · refine tq_iconst (E := E_M_qSums d) (pc := 48) (cks_at k_M_qSums 24 rfl rfl) ?_
        refine tq_istore_n (E := E_M_qSums d) (pc := 49) (cks_at k_M_qSums 25 rfl rfl) (show 2 < 3 by decide) rfl ?_
        refine tq_goto (tgt := 15) (E := E_M_qSums d) (pc := 50) (cks_at k_M_qSums 26 rfl rfl) (by decide) ?_
        exact tq_sub [1, 2, 0] rfl (hkH v1 0 M2)
      · refine tq_aload_n 0 (E := E_M_qSums d) (pc := 37) (cks_at k_M_qSums 19 rfl rfl) rfl ?_
        refine tq_V0 (E := E_M_qSums d) (pc := 38) (cks_at k_M_qSums 20 rfl rfl) mk_M_qGoesOn lk_M_662 rc_78 (Nat.le_of_ble_eq_true rfl) (c_M_qGoesOn (d + 2) M2) (k_I fun r4 M3 => ?_)
        refine tq_if_eq (E := E_M_qSums d) (pc := 41) (tgt := 48) (cks_at k_M_qSums 21 rfl rfl) (by decide) ?_ ?_
        · refine tq_iconst (E := E_M_qSums d) (pc := 48) (cks_at k_M_qSums 24 rfl rfl) ?_
          refine tq_istore_n (E := E_M_qSums d) (pc := 49) (cks_at k_M_qSums 25 rfl rfl) (show 2 < 3 by decide) rfl ?_
          refine tq_goto (tgt := 15) (E := E_M_qSums d) (pc := 50) (cks_at k_M_qSums 26 rfl rfl) (by decide) ?_
          exact tq_sub [1, 2, 0] rfl (hkH v1 0 M3)
        · refine tq_iconst (E := E_M_qSums d) (pc := 44) (cks_at k_M_qSums 22 rfl rfl) ?_
          refine tq_goto (tgt := 49) (E := E_M_qSums d) (pc := 45) (cks_at k_M_qSums 23 rfl rfl) (by decide) ?_
          refine tq_istore_n (E := E_M_qSums d) (pc := 49) (cks_at k_M_qSums 25 rfl rfl) (show 2 < 3 by decide) rfl ?_
          refine tq_goto (tgt := 15) (E := E_M_qSums d) (pc := 50) (cks_at k_M_qSums 26 rfl rfl) (by decide) ?_
          exact tq_sub [1, 2, 0] rfl (hkH v1 1 M3)
def f_M_qSums_L15 (kx53 : Int → Mm → Option (Mm)) : Nat → Int × Int × Mm → Option (Mm) := lp fun kH s => f_M_qSums_B15 (fun v1 v2 M => kH (v1, v2, M)) kx53 s.1 s.2.1 s.2.2
set_option maxRecDepth 20000 in
set_option maxHeartbeats 4000000 in
theorem w_M_qSums_L15 (d : Nat) (kx53 : Int → Mm → Option (Mm)) (hkx53 : ∀ (v1 : Int) (M : Mm), T (E_M_qSums d) injV 53 [(0, .ref 78), (1, vI v1)] [] M (kx53 v1 M)) (n : Nat) (s : Int × Int × Mm) : T (E_M_qSums d) injV 15 [(0, .ref 78), (1, vI s.1), (2, vI s.2.1)] [] s.2.2 (f_M_qSums_L15 kx53 n s) :=
  tq_lp (fun s => [(0, .ref 78), (1, vI s.1), (2, vI s.2.1)]) (fun s => s.2.2) (fun kH hH s => w_M_qSums_B15 d (fun v1 v2 M => kH (v1, v2, M)) kx53 (fun v1 v2 M => hH (v1, v2, M)) hkx53 s.1 s.2.1 s.2.2) n s
def f_M_qSums_B53 (kH : Int → Mm → Option (Mm)) (v1 : Int) (M : Mm) : Option (Mm) :=
  if ¬ i32 (M 78 5) = 0 then
    bd (up M 78 93 v1) (fun M6 =>
    some M6)
  else
    if i32 (M 78 91) ≤ i32 (M 78 93) then
      bd (up M 78 93 v1) (fun M7 =>
      some M7)
    else
      bV (f_M_qDrops M) (fun M8 =>
      kH v1 M8)
set_option maxRecDepth 20000 in
set_option maxHeartbeats 4000000 in
theorem w_M_qSums_B53 (d : Nat) (kH : Int → Mm → Option (Mm)) (hkH : ∀ (v1 : Int) (M : Mm), T (E_M_qSums d) injV 53 [(0, .ref 78), (1, vI v1)] [] M (kH v1 M)) (v1 : Int) (M : Mm) : T (E_M_qSums d) injV 53 [(0, .ref 78), (1, vI v1)] [] M (f_M_qSums_B53 kH v1 M) := by
  unfold f_M_qSums_B53
  refine tq_aload_n 0 (E := E_M_qSums d) (pc := 53) (cks_at k_M_qSums 27 rfl rfl) rfl ?_
  refine tq_getI (E := E_M_qSums d) (pc := 54) (cks_at k_M_qSums 28 rfl rfl) fo_M_225 so_78 rfl (by decide) ?_
  refine tq_if_ne (E := E_M_qSums d) (pc := 57) (tgt := 78) (cks_at k_M_qSums 29 rfl rfl) (by decide) ?_ ?_
  · refine tq_aload_n 0 (E := E_M_qSums d) (pc := 78) (cks_at k_M_qSums 38 rfl rfl) rfl ?_
    refine tq_iload_n 1 (E := E_M_qSums d) (pc := 79) (cks_at k_M_qSums 39 rfl rfl) rfl ?_
    refine tq_putI (E := E_M_qSums d) (pc := 80) (cks_at k_M_qSums 40 rfl rfl) fo_M_626 so_78 rfl po_12_93 (fun M6 => ?_)
    exact tq_vret (E := E_M_qSums d) (pc := 83) (cks_at k_M_qSums 41 rfl rfl) rfl
  · refine tq_aload_n 0 (E := E_M_qSums d) (pc := 60) (cks_at k_M_qSums 30 rfl rfl) rfl ?_
    refine tq_getI (E := E_M_qSums d) (pc := 61) (cks_at k_M_qSums 31 rfl rfl) fo_M_620 so_78 rfl (by decide) ?_
    refine tq_aload_n 0 (E := E_M_qSums d) (pc := 64) (cks_at k_M_qSums 32 rfl rfl) rfl ?_
    refine tq_getI (E := E_M_qSums d) (pc := 65) (cks_at k_M_qSums 33 rfl rfl) fo_M_626 so_78 rfl (by decide) ?_
    refine tq_icmp_le (E := E_M_qSums d) (pc := 68) (tgt := 78) (cks_at k_M_qSums 34 rfl rfl) (by decide) ?_ ?_
    · refine tq_aload_n 0 (E := E_M_qSums d) (pc := 78) (cks_at k_M_qSums 38 rfl rfl) rfl ?_
      refine tq_iload_n 1 (E := E_M_qSums d) (pc := 79) (cks_at k_M_qSums 39 rfl rfl) rfl ?_
      refine tq_putI (E := E_M_qSums d) (pc := 80) (cks_at k_M_qSums 40 rfl rfl) fo_M_626 so_78 rfl po_12_93 (fun M7 => ?_)
      exact tq_vret (E := E_M_qSums d) (pc := 83) (cks_at k_M_qSums 41 rfl rfl) rfl
    · refine tq_aload_n 0 (E := E_M_qSums d) (pc := 71) (cks_at k_M_qSums 35 rfl rfl) rfl ?_
      refine tq_V0 (E := E_M_qSums d) (pc := 72) (cks_at k_M_qSums 36 rfl rfl) mk_M_qDrops lk_M_632 rc_78 (Nat.le_of_ble_eq_true rfl) (c_M_qDrops (d + 4) M) (k_V fun M8 => ?_)
      refine tq_goto (tgt := 53) (E := E_M_qSums d) (pc := 75) (cks_at k_M_qSums 37 rfl rfl) (by decide) ?_
      exact tq_sub [0, 1] rfl (hkH v1 M8)
def f_M_qSums_L53 : Nat → Int × Mm → Option (Mm) := lp fun kH s => f_M_qSums_B53 (fun v1 M => kH (v1, M)) s.1 s.2
set_option maxRecDepth 20000 in
set_option maxHeartbeats 4000000 in
theorem w_M_qSums_L53 (d : Nat) (n : Nat) (s : Int × Mm) : T (E_M_qSums d) injV 53 [(0, .ref 78), (1, vI s.1)] [] s.2 (f_M_qSums_L53 n s) :=
  tq_lp (fun s => [(0, .ref 78), (1, vI s.1)]) (fun s => s.2) (fun kH hH s => w_M_qSums_B53 d (fun v1 M => kH (v1, M)) (fun v1 M => hH (v1, M)) s.1 s.2) n s
def f_M_qSums (M : Mm) : Option (Mm) :=
  bd (up M 78 93 (M 78 91)) (fun M1 =>
  f_M_qSums_L15 (fun v1 M5 => f_M_qSums_L53 FU (v1, M5)) FU ((M 78 93), 1, M1))
set_option maxRecDepth 20000 in
set_option maxHeartbeats 4000000 in
theorem c_M_qSums (d : Nat) (M : Mm) (Q : Option Value → Mm → Prop) (h : sat injV (f_M_qSums M) Q) : Ct (d + 7) y_M_qSums [.ref 78] M Q := by
  refine ct_in (d := d + 6) mk_M_qSums (Nat.le_of_ble_eq_true rfl) (?_ : T (E_M_qSums d) injV 0 [(0, .ref 78)] [] M (f_M_qSums M)) h
  unfold f_M_qSums
  refine tq_aload_n 0 (E := E_M_qSums d) (pc := 0) (cks_at k_M_qSums 0 rfl rfl) rfl ?_
  refine tq_getI (E := E_M_qSums d) (pc := 1) (cks_at k_M_qSums 1 rfl rfl) fo_M_626 so_78 rfl (by decide) ?_
  refine tq_istore_n (E := E_M_qSums d) (pc := 4) (cks_at k_M_qSums 2 rfl rfl) (show 1 < 3 by decide) rfl ?_
  refine tq_aload_n 1 (E := E_M_qSums d) (pc := 5) (cks_at k_M_qSums 3 rfl rfl) rfl ?_
  refine tq_aload_n 1 (E := E_M_qSums d) (pc := 6) (cks_at k_M_qSums 4 rfl rfl) rfl ?_
  refine tq_getI (E := E_M_qSums d) (pc := 7) (cks_at k_M_qSums 5 rfl rfl) fo_M_620 so_78 rfl (by decide) ?_
  refine tq_putI (E := E_M_qSums d) (pc := 10) (cks_at k_M_qSums 6 rfl rfl) fo_M_626 so_78 rfl po_12_93 (fun M1 => ?_)
  refine tq_iconst (E := E_M_qSums d) (pc := 13) (cks_at k_M_qSums 7 rfl rfl) ?_
  refine tq_istore_n (E := E_M_qSums d) (pc := 14) (cks_at k_M_qSums 8 rfl rfl) (show 2 < 3 by decide) rfl ?_
  exact tq_sub [2, 1, 0] rfl (w_M_qSums_L15 d _ (fun v1 M5 => by
      exact tq_sub [0, 1] rfl (w_M_qSums_L53 d FU (v1, M5))) FU ((M 78 93), 1, M1))
abbrev E_M_qFact (d : Nat) : Ev := (Ct (d + 7), "BreathTownModel", prog_14_method_130_code, 2, False, 0, (fun _ => 0), (Option.none : Option Jvm.ClassFile.FieldType))
def f_M_qFact_J63 (v1 : Int) (M : Mm) : Option (Mm) :=
  bd (up M 78 2 ((M 78 2) + 1)) (fun M6 =>
  bV (f_M_qSums M6) (fun M7 =>
  if ¬ i32 v1 = i32 60 then
    if ¬ i32 v1 = i32 62 then
      bV (f_M_qCode 9 M7) (fun M8 =>
      some M8)
    else
      bV (f_M_qCode 8 M7) (fun M9 =>
      some M9)
  else
    bV (f_M_qCode 7 M7) (fun M10 =>
    some M10)))
set_option maxRecDepth 20000 in
set_option maxHeartbeats 4000000 in
theorem w_M_qFact_J63 (d : Nat) (v1 : Int) (M : Mm) : T (E_M_qFact d) injV 63 [(0, .ref 78), (1, vI v1)] [] M (f_M_qFact_J63 v1 M) := by
  unfold f_M_qFact_J63
  refine tq_aload_n 0 (E := E_M_qFact d) (pc := 63) (cks_at k_M_qFact 33 rfl rfl) rfl ?_
  refine tq_dup (E := E_M_qFact d) (pc := 64) (cks_at k_M_qFact 34 rfl rfl) rfl ?_
  refine tq_getI (E := E_M_qFact d) (pc := 65) (cks_at k_M_qFact 35 rfl rfl) fo_M_231 so_78 rfl (by decide) ?_
  refine tq_iconst (E := E_M_qFact d) (pc := 68) (cks_at k_M_qFact 36 rfl rfl) ?_
  refine tq_iadd (E := E_M_qFact d) (pc := 69) (cks_at k_M_qFact 37 rfl rfl) ?_
  refine tq_putI (E := E_M_qFact d) (pc := 70) (cks_at k_M_qFact 38 rfl rfl) fo_M_231 so_78 rfl po_12_2 (fun M6 => ?_)
  refine tq_aload_n 0 (E := E_M_qFact d) (pc := 73) (cks_at k_M_qFact 39 rfl rfl) rfl ?_
  refine tq_V0 (E := E_M_qFact d) (pc := 74) (cks_at k_M_qFact 40 rfl rfl) mk_M_qSums lk_M_665 rc_78 (Nat.le_of_ble_eq_true rfl) (c_M_qSums (d + 0) M6) (k_V fun M7 => ?_)
  refine tq_aload_n 0 (E := E_M_qFact d) (pc := 77) (cks_at k_M_qFact 41 rfl rfl) rfl ?_
  refine tq_iload_n 1 (E := E_M_qFact d) (pc := 78) (cks_at k_M_qFact 42 rfl rfl) rfl ?_
  refine tq_bipush (E := E_M_qFact d) (pc := 79) (cks_at k_M_qFact 43 rfl rfl) (by decide) (by decide) ?_
  refine tq_icmp_ne (E := E_M_qFact d) (pc := 81) (tgt := 89) (cks_at k_M_qFact 44 rfl rfl) (by decide) ?_ ?_
  · refine tq_iload_n 1 (E := E_M_qFact d) (pc := 89) (cks_at k_M_qFact 47 rfl rfl) rfl ?_
    refine tq_bipush (E := E_M_qFact d) (pc := 90) (cks_at k_M_qFact 48 rfl rfl) (by decide) (by decide) ?_
    refine tq_icmp_ne (E := E_M_qFact d) (pc := 92) (tgt := 100) (cks_at k_M_qFact 49 rfl rfl) (by decide) ?_ ?_
    · refine tq_bipush (E := E_M_qFact d) (pc := 100) (cks_at k_M_qFact 52 rfl rfl) (by decide) (by decide) ?_
      refine tq_V1 (E := E_M_qFact d) (pc := 102) (cks_at k_M_qFact 53 rfl rfl) mk_M_qCode lk_M_623 rc_78 (Nat.le_of_ble_eq_true rfl) (c_M_qCode (d + 6) 9 M7) (k_V fun M8 => ?_)
      exact tq_vret (E := E_M_qFact d) (pc := 105) (cks_at k_M_qFact 54 rfl rfl) rfl
    · refine tq_bipush (E := E_M_qFact d) (pc := 95) (cks_at k_M_qFact 50 rfl rfl) (by decide) (by decide) ?_
      refine tq_goto (tgt := 102) (E := E_M_qFact d) (pc := 97) (cks_at k_M_qFact 51 rfl rfl) (by decide) ?_
      refine tq_V1 (E := E_M_qFact d) (pc := 102) (cks_at k_M_qFact 53 rfl rfl) mk_M_qCode lk_M_623 rc_78 (Nat.le_of_ble_eq_true rfl) (c_M_qCode (d + 6) 8 M7) (k_V fun M9 => ?_)
      exact tq_vret (E := E_M_qFact d) (pc := 105) (cks_at k_M_qFact 54 rfl rfl) rfl
  · refine tq_bipush (E := E_M_qFact d) (pc := 84) (cks_at k_M_qFact 45 rfl rfl) (by decide) (by decide) ?_
    refine tq_goto (tgt := 102) (E := E_M_qFact d) (pc := 86) (cks_at k_M_qFact 46 rfl rfl) (by decide) ?_
    refine tq_V1 (E := E_M_qFact d) (pc := 102) (cks_at k_M_qFact 53 rfl rfl) mk_M_qCode lk_M_623 rc_78 (Nat.le_of_ble_eq_true rfl) (c_M_qCode (d + 6) 7 M7) (k_V fun M10 => ?_)
    exact tq_vret (E := E_M_qFact d) (pc := 105) (cks_at k_M_qFact 54 rfl rfl) rfl
def f_M_qFact (M : Mm) : Option (Mm) :=
  bI (f_M_takes 133 M) (fun r2 M1 =>
  if i32 r2 = 0 then
    bV (f_M_qSums M1) (fun M3 =>
    if i32 (M3 78 5) = 0 then
      bI (f_M_look M3) (fun r5 M4 =>
      if i32 r5 = i32 60 then
        f_M_qFact_J63 r5 M4
      else
        if i32 r5 = i32 62 then
          f_M_qFact_J63 r5 M4
        else
          if i32 r5 = i32 61 then
            f_M_qFact_J63 r5 M4
          else
            bV (f_M_fail 1 (M4 78 2) M4) (fun M11 =>
            some M11))
    else
      some M3)
  else
    bV (f_M_qCode 13 M1) (fun M12 =>
    some M12))
set_option maxRecDepth 20000 in
set_option maxHeartbeats 4000000 in
theorem c_M_qFact (d : Nat) (M : Mm) (Q : Option Value → Mm → Prop) (h : sat injV (f_M_qFact M) Q) : Ct (d + 8) y_M_qFact [.ref 78] M Q := by
  refine ct_in (d := d + 7) mk_M_qFact (Nat.le_of_ble_eq_true rfl) (?_ : T (E_M_qFact d) injV 0 [(0, .ref 78)] [] M (f_M_qFact M)) h
  unfold f_M_qFact
  refine tq_aload_n 0 (E := E_M_qFact d) (pc := 0) (cks_at k_M_qFact 0 rfl rfl) rfl ?_
  refine tq_aload_n 0 (E := E_M_qFact d) (pc := 1) (cks_at k_M_qFact 1 rfl rfl) rfl ?_
  refine tq_getR (j := 133) (E := E_M_qFact d) (pc := 2) (cks_at k_M_qFact 2 rfl rfl) fo_M_183 so_78 rfl sp_78_79 ?_
  refine tq_V1 (E := E_M_qFact d) (pc := 5) (cks_at k_M_qFact 3 rfl rfl) mk_M_takes lk_M_252 rc_78 (Nat.le_of_ble_eq_true rfl) (c_M_takes (d + 4) 133 sa_133 M) (k_I fun r2 M1 => ?_)
  refine tq_if_eq (E := E_M_qFact d) (pc := 8) (tgt := 18) (cks_at k_M_qFact 4 rfl rfl) (by decide) ?_ ?_
  · refine tq_aload_n 0 (E := E_M_qFact d) (pc := 18) (cks_at k_M_qFact 9 rfl rfl) rfl ?_
    refine tq_V0 (E := E_M_qFact d) (pc := 19) (cks_at k_M_qFact 10 rfl rfl) mk_M_qSums lk_M_665 rc_78 (Nat.le_of_ble_eq_true rfl) (c_M_qSums (d + 0) M1) (k_V fun M3 => ?_)
    refine tq_aload_n 0 (E := E_M_qFact d) (pc := 22) (cks_at k_M_qFact 11 rfl rfl) rfl ?_
    refine tq_getI (E := E_M_qFact d) (pc := 23) (cks_at k_M_qFact 12 rfl rfl) fo_M_225 so_78 rfl (by decide) ?_
    refine tq_if_eq (E := E_M_qFact d) (pc := 26) (tgt := 30) (cks_at k_M_qFact 13 rfl rfl) (by decide) ?_ ?_
    · refine tq_aload_n 0 (E := E_M_qFact d) (pc := 30) (cks_at k_M_qFact 15 rfl rfl) rfl ?_
      refine tq_V0 (E := E_M_qFact d) (pc := 31) (cks_at k_M_qFact 16 rfl rfl) mk_M_look lk_M_237 rc_78 (Nat.le_of_ble_eq_true rfl) (c_M_look (d + 6) M3) (k_I fun r5 M4 => ?_)
      refine tq_istore_n (E := E_M_qFact d) (pc := 34) (cks_at k_M_qFact 17 rfl rfl) (show 1 < 2 by decide) rfl ?_
      refine tq_iload_n 0 (E := E_M_qFact d) (pc := 35) (cks_at k_M_qFact 18 rfl rfl) rfl ?_
      refine tq_bipush (E := E_M_qFact d) (pc := 36) (cks_at k_M_qFact 19 rfl rfl) (by decide) (by decide) ?_
      refine tq_icmp_eq (E := E_M_qFact d) (pc := 38) (tgt := 63) (cks_at k_M_qFact 20 rfl rfl) (by decide) ?_ ?_
      · exact tq_sub [1, 0] rfl (w_M_qFact_J63 d r5 M4)
      · refine tq_iload_n 0 (E := E_M_qFact d) (pc := 41) (cks_at k_M_qFact 21 rfl rfl) rfl ?_
        refine tq_bipush (E := E_M_qFact d) (pc := 42) (cks_at k_M_qFact 22 rfl rfl) (by decide) (by decide) ?_
        refine tq_icmp_eq (E := E_M_qFact d) (pc := 44) (tgt := 63) (cks_at k_M_qFact 23 rfl rfl) (by decide) ?_ ?_
        · exact tq_sub [1, 0] rfl (w_M_qFact_J63 d r5 M4)
        · refine tq_iload_n 0 (E := E_M_qFact d) (pc := 47) (cks_at k_M_qFact 24 rfl rfl) rfl ?_
          refine tq_bipush (E := E_M_qFact d) (pc := 48) (cks_at k_M_qFact 25 rfl rfl) (by decide) (by decide) ?_
          refine tq_icmp_eq (E := E_M_qFact d) (pc := 50) (tgt := 63) (cks_at k_M_qFact 26 rfl rfl) (by decide) ?_ ?_
          · exact tq_sub [1, 0] rfl (w_M_qFact_J63 d r5 M4)
          · refine tq_aload_n 1 (E := E_M_qFact d) (pc := 53) (cks_at k_M_qFact 27 rfl rfl) rfl ?_
            refine tq_iconst (E := E_M_qFact d) (pc := 54) (cks_at k_M_qFact 28 rfl rfl) ?_
            refine tq_aload_n 1 (E := E_M_qFact d) (pc := 55) (cks_at k_M_qFact 29 rfl rfl) rfl ?_
            refine tq_getI (E := E_M_qFact d) (pc := 56) (cks_at k_M_qFact 30 rfl rfl) fo_M_231 so_78 rfl (by decide) ?_
            refine tq_V2 (E := E_M_qFact d) (pc := 59) (cks_at k_M_qFact 31 rfl rfl) mk_M_fail lk_M_255 rc_78 (Nat.le_of_ble_eq_true rfl) (c_M_fail (d + 6) 1 (M4 78 2) M4) (k_V fun M11 => ?_)
            exact tq_vret (E := E_M_qFact d) (pc := 62) (cks_at k_M_qFact 32 rfl rfl) rfl
    · exact tq_vret (E := E_M_qFact d) (pc := 29) (cks_at k_M_qFact 14 rfl rfl) rfl
  · refine tq_aload_n 0 (E := E_M_qFact d) (pc := 11) (cks_at k_M_qFact 5 rfl rfl) rfl ?_
    refine tq_bipush (E := E_M_qFact d) (pc := 12) (cks_at k_M_qFact 6 rfl rfl) (by decide) (by decide) ?_
    refine tq_V1 (E := E_M_qFact d) (pc := 14) (cks_at k_M_qFact 7 rfl rfl) mk_M_qCode lk_M_623 rc_78 (Nat.le_of_ble_eq_true rfl) (c_M_qCode (d + 6) 13 M1) (k_V fun M12 => ?_)
    exact tq_vret (E := E_M_qFact d) (pc := 17) (cks_at k_M_qFact 8 rfl rfl) rfl
abbrev E_M_qDropsNots (d : Nat) : Ev := (Ct (d + 2), "BreathTownModel", prog_14_method_132_code, 1, False, 0, (fun _ => 0), (Option.none : Option Jvm.ClassFile.FieldType))
def f_M_qDropsNots_B0 (kH : Mm → Option (Mm)) (M : Mm) : Option (Mm) :=
  if ¬ i32 (M 78 5) = 0 then
    some M
  else
    bI (f_M_qIsOn 12 M) (fun r2 M1 =>
    if i32 r2 = 0 then
      some M1
    else
      bd (up M1 78 92 ((M1 78 92) - 1)) (fun M3 =>
      bV (f_M_qDrops M3) (fun M4 =>
      kH M4)))
set_option maxRecDepth 20000 in
set_option maxHeartbeats 4000000 in
theorem w_M_qDropsNots_B0 (d : Nat) (kH : Mm → Option (Mm)) (hkH : ∀  (M : Mm), T (E_M_qDropsNots d) injV 0 [(0, .ref 78)] [] M (kH M)) (M : Mm) : T (E_M_qDropsNots d) injV 0 [(0, .ref 78)] [] M (f_M_qDropsNots_B0 kH M) := by
  unfold f_M_qDropsNots_B0
  refine tq_aload_n 0 (E := E_M_qDropsNots d) (pc := 0) (cks_at k_M_qDropsNots 0 rfl rfl) rfl ?_
  refine tq_getI (E := E_M_qDropsNots d) (pc := 1) (cks_at k_M_qDropsNots 1 rfl rfl) fo_M_225 so_78 rfl (by decide) ?_
  refine tq_if_ne (E := E_M_qDropsNots d) (pc := 4) (tgt := 33) (cks_at k_M_qDropsNots 2 rfl rfl) (by decide) ?_ ?_
  · exact tq_vret (E := E_M_qDropsNots d) (pc := 33) (cks_at k_M_qDropsNots 16 rfl rfl) rfl
  · refine tq_aload_n 0 (E := E_M_qDropsNots d) (pc := 7) (cks_at k_M_qDropsNots 3 rfl rfl) rfl ?_
    refine tq_bipush (E := E_M_qDropsNots d) (pc := 8) (cks_at k_M_qDropsNots 4 rfl rfl) (by decide) (by decide) ?_
    refine tq_V1 (E := E_M_qDropsNots d) (pc := 10) (cks_at k_M_qDropsNots 5 rfl rfl) mk_M_qIsOn lk_M_656 rc_78 (Nat.le_of_ble_eq_true rfl) (c_M_qIsOn (d + 1) 12 M) (k_I fun r2 M1 => ?_)
    refine tq_if_eq (E := E_M_qDropsNots d) (pc := 13) (tgt := 33) (cks_at k_M_qDropsNots 6 rfl rfl) (by decide) ?_ ?_
    · exact tq_vret (E := E_M_qDropsNots d) (pc := 33) (cks_at k_M_qDropsNots 16 rfl rfl) rfl
    · refine tq_aload_n 0 (E := E_M_qDropsNots d) (pc := 16) (cks_at k_M_qDropsNots 7 rfl rfl) rfl ?_
      refine tq_dup (E := E_M_qDropsNots d) (pc := 17) (cks_at k_M_qDropsNots 8 rfl rfl) rfl ?_
      refine tq_getI (E := E_M_qDropsNots d) (pc := 18) (cks_at k_M_qDropsNots 9 rfl rfl) fo_M_617 so_78 rfl (by decide) ?_
      refine tq_iconst (E := E_M_qDropsNots d) (pc := 21) (cks_at k_M_qDropsNots 10 rfl rfl) ?_
      refine tq_isub (E := E_M_qDropsNots d) (pc := 22) (cks_at k_M_qDropsNots 11 rfl rfl) ?_
      refine tq_putI (E := E_M_qDropsNots d) (pc := 23) (cks_at k_M_qDropsNots 12 rfl rfl) fo_M_617 so_78 rfl po_12_92 (fun M3 => ?_)
      refine tq_aload_n 0 (E := E_M_qDropsNots d) (pc := 26) (cks_at k_M_qDropsNots 13 rfl rfl) rfl ?_
      refine tq_V0 (E := E_M_qDropsNots d) (pc := 27) (cks_at k_M_qDropsNots 14 rfl rfl) mk_M_qDrops lk_M_632 rc_78 (Nat.le_of_ble_eq_true rfl) (c_M_qDrops (d + 0) M3) (k_V fun M4 => ?_)
      refine tq_goto (tgt := 0) (E := E_M_qDropsNots d) (pc := 30) (cks_at k_M_qDropsNots 15 rfl rfl) (by decide) ?_
      exact tq_sub [0] rfl (hkH M4)
def f_M_qDropsNots_L0 : Nat → Mm → Option (Mm) := lp fun kH s => f_M_qDropsNots_B0 kH s
set_option maxRecDepth 20000 in
set_option maxHeartbeats 4000000 in
theorem w_M_qDropsNots_L0 (d : Nat) (n : Nat) (s : Mm) : T (E_M_qDropsNots d) injV 0 [(0, .ref 78)] [] s (f_M_qDropsNots_L0 n s) :=
  tq_lp (fun s => [(0, .ref 78)]) (fun s => s) (fun kH hH s => w_M_qDropsNots_B0 d kH (fun M => hH (M)) s) n s
def f_M_qDropsNots (M : Mm) : Option (Mm) :=
  f_M_qDropsNots_L0 FU M
set_option maxRecDepth 20000 in
set_option maxHeartbeats 4000000 in
theorem c_M_qDropsNots (d : Nat) (M : Mm) (Q : Option Value → Mm → Prop) (h : sat injV (f_M_qDropsNots M) Q) : Ct (d + 3) y_M_qDropsNots [.ref 78] M Q := by
  refine ct_in (d := d + 2) mk_M_qDropsNots (Nat.le_of_ble_eq_true rfl) (?_ : T (E_M_qDropsNots d) injV 0 [(0, .ref 78)] [] M (f_M_qDropsNots M)) h
  unfold f_M_qDropsNots
  exact tq_sub [0] rfl (w_M_qDropsNots_L0 d FU M)
abbrev E_M_qHasSquare (d : Nat) : Ev := (Ct (d + 0), "BreathTownModel", prog_14_method_131_code, 2, False, 0, (fun _ => 0), (Option.some Jvm.ClassFile.FieldType.boolean))
def f_M_qHasSquare_B2 (kH : Int → Mm → Option (Int × Mm)) (v1 : Int) (M : Mm) : Option (Int × Mm) :=
  if i32 (M 78 91) ≤ i32 v1 then
    some (0, M)
  else
    gd (0 ≤ i32 v1 ∧ i32 v1 < ((1700 : Nat) : Int)) <|
    if ¬ i32 (M 143 (i32 v1).toNat) = i32 25 then
      kH (v1 + 1) M
    else
      some (1, M)
set_option maxRecDepth 20000 in
set_option maxHeartbeats 4000000 in
theorem w_M_qHasSquare_B2 (d : Nat) (kH : Int → Mm → Option (Int × Mm)) (hkH : ∀ (v1 : Int) (M : Mm), T (E_M_qHasSquare d) injI 2 [(0, .ref 78), (1, vI v1)] [] M (kH v1 M)) (v1 : Int) (M : Mm) : T (E_M_qHasSquare d) injI 2 [(0, .ref 78), (1, vI v1)] [] M (f_M_qHasSquare_B2 kH v1 M) := by
  unfold f_M_qHasSquare_B2
  refine tq_iload_n 1 (E := E_M_qHasSquare d) (pc := 2) (cks_at k_M_qHasSquare 2 rfl rfl) rfl ?_
  refine tq_aload_n 0 (E := E_M_qHasSquare d) (pc := 3) (cks_at k_M_qHasSquare 3 rfl rfl) rfl ?_
  refine tq_getI (E := E_M_qHasSquare d) (pc := 4) (cks_at k_M_qHasSquare 4 rfl rfl) fo_M_620 so_78 rfl (by decide) ?_
  refine tq_icmp_ge (E := E_M_qHasSquare d) (pc := 7) (tgt := 29) (cks_at k_M_qHasSquare 5 rfl rfl) (by decide) ?_ ?_
  · refine tq_iconst (E := E_M_qHasSquare d) (pc := 29) (cks_at k_M_qHasSquare 16 rfl rfl) ?_
    exact tq_zretC (E := E_M_qHasSquare d) (pc := 30) (cks_at k_M_qHasSquare 17 rfl rfl) rfl (by decide)
  · refine tq_aload_n 0 (E := E_M_qHasSquare d) (pc := 10) (cks_at k_M_qHasSquare 6 rfl rfl) rfl ?_
    refine tq_getR (j := 143) (E := E_M_qHasSquare d) (pc := 11) (cks_at k_M_qHasSquare 7 rfl rfl) fo_M_213 so_78 rfl sp_78_90 ?_
    refine tq_iload_n 1 (E := E_M_qHasSquare d) (pc := 14) (cks_at k_M_qHasSquare 8 rfl rfl) rfl ?_
    refine tq_iald (E := E_M_qHasSquare d) (pc := 15) (cks_at k_M_qHasSquare 9 rfl rfl) sa_143 sn_143 ?_
    refine tq_bipush (E := E_M_qHasSquare d) (pc := 16) (cks_at k_M_qHasSquare 10 rfl rfl) (by decide) (by decide) ?_
    refine tq_icmp_ne (E := E_M_qHasSquare d) (pc := 18) (tgt := 23) (cks_at k_M_qHasSquare 11 rfl rfl) (by decide) ?_ ?_
    · refine tq_iinc 1 (E := E_M_qHasSquare d) (pc := 23) (cks_at k_M_qHasSquare 14 rfl rfl) rfl (show 1 < 2 by decide) rfl ?_
      refine tq_goto (tgt := 2) (E := E_M_qHasSquare d) (pc := 26) (cks_at k_M_qHasSquare 15 rfl rfl) (by decide) ?_
      exact tq_sub [1, 0] rfl (hkH (v1 + 1) M)
    · refine tq_iconst (E := E_M_qHasSquare d) (pc := 21) (cks_at k_M_qHasSquare 12 rfl rfl) ?_
      exact tq_zretC (E := E_M_qHasSquare d) (pc := 22) (cks_at k_M_qHasSquare 13 rfl rfl) rfl (by decide)
def f_M_qHasSquare_L2 : Nat → Int × Mm → Option (Int × Mm) := lp fun kH s => f_M_qHasSquare_B2 (fun v1 M => kH (v1, M)) s.1 s.2
set_option maxRecDepth 20000 in
set_option maxHeartbeats 4000000 in
theorem w_M_qHasSquare_L2 (d : Nat) (n : Nat) (s : Int × Mm) : T (E_M_qHasSquare d) injI 2 [(0, .ref 78), (1, vI s.1)] [] s.2 (f_M_qHasSquare_L2 n s) :=
  tq_lp (fun s => [(0, .ref 78), (1, vI s.1)]) (fun s => s.2) (fun kH hH s => w_M_qHasSquare_B2 d (fun v1 M => kH (v1, M)) (fun v1 M => hH (v1, M)) s.1 s.2) n s
def f_M_qHasSquare (M : Mm) : Option (Int × Mm) :=
  f_M_qHasSquare_L2 FU (0, M)
set_option maxRecDepth 20000 in
set_option maxHeartbeats 4000000 in
theorem c_M_qHasSquare (d : Nat) (M : Mm) (Q : Option Value → Mm → Prop) (h : sat injI (f_M_qHasSquare M) Q) : Ct (d + 1) y_M_qHasSquare [.ref 78] M Q := by
  refine ct_in (d := d + 0) mk_M_qHasSquare (Nat.le_of_ble_eq_true rfl) (?_ : T (E_M_qHasSquare d) injI 0 [(0, .ref 78)] [] M (f_M_qHasSquare M)) h
  unfold f_M_qHasSquare
  refine tq_iconst (E := E_M_qHasSquare d) (pc := 0) (cks_at k_M_qHasSquare 0 rfl rfl) ?_
  refine tq_istore_n (E := E_M_qHasSquare d) (pc := 1) (cks_at k_M_qHasSquare 1 rfl rfl) (show 1 < 2 by decide) rfl ?_
  exact tq_sub [1, 0] rfl (w_M_qHasSquare_L2 d FU (0, M))
abbrev E_M_qGoesOnTest (d : Nat) : Ev := (Ct (d + 3), "BreathTownModel", prog_14_method_134_code, 1, False, 0, (fun _ => 0), (Option.some Jvm.ClassFile.FieldType.boolean))
def f_M_qGoesOnTest_B33 (kH : Mm → Option (Int × Mm)) (kx49 : Mm → Option (Int × Mm)) (M : Mm) : Option (Int × Mm) :=
  bI (f_M_qIsOn 25 M) (fun r7 M6 =>
  if ¬ i32 r7 = 0 then
    kx49 M6
  else
    bV (f_M_qDrops M6) (fun M8 =>
    kH M8))
set_option maxRecDepth 20000 in
set_option maxHeartbeats 4000000 in
theorem w_M_qGoesOnTest_B33 (d : Nat) (kH : Mm → Option (Int × Mm)) (kx49 : Mm → Option (Int × Mm)) (hkH : ∀  (M : Mm), T (E_M_qGoesOnTest d) injI 33 [(0, .ref 78)] [] M (kH M)) (hkx49 : ∀  (M : Mm), T (E_M_qGoesOnTest d) injI 49 [(0, .ref 78)] [] M (kx49 M)) (M : Mm) : T (E_M_qGoesOnTest d) injI 33 [(0, .ref 78)] [] M (f_M_qGoesOnTest_B33 kH kx49 M) := by
  unfold f_M_qGoesOnTest_B33
  refine tq_aload_n 0 (E := E_M_qGoesOnTest d) (pc := 33) (cks_at k_M_qGoesOnTest 16 rfl rfl) rfl ?_
  refine tq_bipush (E := E_M_qGoesOnTest d) (pc := 34) (cks_at k_M_qGoesOnTest 17 rfl rfl) (by decide) (by decide) ?_
  refine tq_V1 (E := E_M_qGoesOnTest d) (pc := 36) (cks_at k_M_qGoesOnTest 18 rfl rfl) mk_M_qIsOn lk_M_656 rc_78 (Nat.le_of_ble_eq_true rfl) (c_M_qIsOn (d + 2) 25 M) (k_I fun r7 M6 => ?_)
  refine tq_if_ne (E := E_M_qGoesOnTest d) (pc := 39) (tgt := 49) (cks_at k_M_qGoesOnTest 19 rfl rfl) (by decide) ?_ ?_
  · exact tq_sub [0] rfl (hkx49 M6)
  · refine tq_aload_n 0 (E := E_M_qGoesOnTest d) (pc := 42) (cks_at k_M_qGoesOnTest 20 rfl rfl) rfl ?_
    refine tq_V0 (E := E_M_qGoesOnTest d) (pc := 43) (cks_at k_M_qGoesOnTest 21 rfl rfl) mk_M_qDrops lk_M_632 rc_78 (Nat.le_of_ble_eq_true rfl) (c_M_qDrops (d + 1) M6) (k_V fun M8 => ?_)
    refine tq_goto (tgt := 33) (E := E_M_qGoesOnTest d) (pc := 46) (cks_at k_M_qGoesOnTest 22 rfl rfl) (by decide) ?_
    exact tq_sub [0] rfl (hkH M8)
def f_M_qGoesOnTest_L33 (kx49 : Mm → Option (Int × Mm)) : Nat → Mm → Option (Int × Mm) := lp fun kH s => f_M_qGoesOnTest_B33 kH kx49 s
set_option maxRecDepth 20000 in
set_option maxHeartbeats 4000000 in
theorem w_M_qGoesOnTest_L33 (d : Nat) (kx49 : Mm → Option (Int × Mm)) (hkx49 : ∀  (M : Mm), T (E_M_qGoesOnTest d) injI 49 [(0, .ref 78)] [] M (kx49 M)) (n : Nat) (s : Mm) : T (E_M_qGoesOnTest d) injI 33 [(0, .ref 78)] [] s (f_M_qGoesOnTest_L33 kx49 n s) :=
  tq_lp (fun s => [(0, .ref 78)]) (fun s => s) (fun kH hH s => w_M_qGoesOnTest_B33 d kH kx49 (fun M => hH (M)) hkx49 s) n s
def f_M_qGoesOnTest_B0 (kH : Mm → Option (Int × Mm)) (kx76 : Mm → Option (Int × Mm)) (M : Mm) : Option (Int × Mm) :=
  if ¬ i32 (M 78 5) = 0 then
    kx76 M
  else
    bI (f_M_look M) (fun r2 M1 =>
    if ¬ i32 r2 = i32 93 then
      kx76 M1
    else
      bI (f_M_qHasSquare M1) (fun r4 M3 =>
      if i32 r4 = 0 then
        kx76 M3
      else
        bd (up M3 78 2 ((M3 78 2) + 1)) (fun M5 =>
        f_M_qGoesOnTest_L33 (fun M9 => bd (up M9 78 91 ((M9 78 91) - 1)) (fun M10 =>
            bd (up M10 78 92 ((M10 78 92) - 1)) (fun M11 =>
            bV (f_M_qDropsNots M11) (fun M12 =>
            kH M12)))) FU M5)))
set_option maxRecDepth 20000 in
set_option maxHeartbeats 4000000 in
theorem w_M_qGoesOnTest_B0 (d : Nat) (kH : Mm → Option (Int × Mm)) (kx76 : Mm → Option (Int × Mm)) (hkH : ∀  (M : Mm), T (E_M_qGoesOnTest d) injI 0 [(0, .ref 78)] [] M (kH M)) (hkx76 : ∀  (M : Mm), T (E_M_qGoesOnTest d) injI 76 [(0, .ref 78)] [] M (kx76 M)) (M : Mm) : T (E_M_qGoesOnTest d) injI 0 [(0, .ref 78)] [] M (f_M_qGoesOnTest_B0 kH kx76 M) := by
  unfold f_M_qGoesOnTest_B0
  refine tq_aload_n 0 (E := E_M_qGoesOnTest d) (pc := 0) (cks_at k_M_qGoesOnTest 0 rfl rfl) rfl ?_
  refine tq_getI (E := E_M_qGoesOnTest d) (pc := 1) (cks_at k_M_qGoesOnTest 1 rfl rfl) fo_M_225 so_78 rfl (by decide) ?_
  refine tq_if_ne (E := E_M_qGoesOnTest d) (pc := 4) (tgt := 76) (cks_at k_M_qGoesOnTest 2 rfl rfl) (by decide) ?_ ?_
  · exact tq_sub [0] rfl (hkx76 M)
  · refine tq_aload_n 0 (E := E_M_qGoesOnTest d) (pc := 7) (cks_at k_M_qGoesOnTest 3 rfl rfl) rfl ?_
    refine tq_V0 (E := E_M_qGoesOnTest d) (pc := 8) (cks_at k_M_qGoesOnTest 4 rfl rfl) mk_M_look lk_M_237 rc_78 (Nat.le_of_ble_eq_true rfl) (c_M_look (d + 2) M) (k_I fun r2 M1 => ?_)
    refine tq_bipush (E := E_M_qGoesOnTest d) (pc := 11) (cks_at k_M_qGoesOnTest 5 rfl rfl) (by decide) (by decide) ?_
    refine tq_icmp_ne (E := E_M_qGoesOnTest d) (pc := 13) (tgt := 76) (cks_at k_M_qGoesOnTest 6 rfl rfl) (by decide) ?_ ?_
    · exact tq_sub [0] rfl (hkx76 M1)
    · refine tq_aload_n 0 (E := E_M_qGoesOnTest d) (pc := 16) (cks_at k_M_qGoesOnTest 7 rfl rfl) rfl ?_
      refine tq_V0 (E := E_M_qGoesOnTest d) (pc := 17) (cks_at k_M_qGoesOnTest 8 rfl rfl) mk_M_qHasSquare lk_M_677 rc_78 (Nat.le_of_ble_eq_true rfl) (c_M_qHasSquare (d + 2) M1) (k_I fun r4 M3 => ?_)
      refine tq_if_eq (E := E_M_qGoesOnTest d) (pc := 20) (tgt := 76) (cks_at k_M_qGoesOnTest 9 rfl rfl) (by decide) ?_ ?_
      · exact tq_sub [0] rfl (hkx76 M3)
      · refine tq_aload_n 0 (E := E_M_qGoesOnTest d) (pc := 23) (cks_at k_M_qGoesOnTest 10 rfl rfl) rfl ?_
        refine tq_dup (E := E_M_qGoesOnTest d) (pc := 24) (cks_at k_M_qGoesOnTest 11 rfl rfl) rfl ?_
        refine tq_getI (E := E_M_qGoesOnTest d) (pc := 25) (cks_at k_M_qGoesOnTest 12 rfl rfl) fo_M_231 so_78 rfl (by decide) ?_
        refine tq_iconst (E := E_M_qGoesOnTest d) (pc := 28) (cks_at k_M_qGoesOnTest 13 rfl rfl) ?_
        refine tq_iadd (E := E_M_qGoesOnTest d) (pc := 29) (cks_at k_M_qGoesOnTest 14 rfl rfl) ?_
        refine tq_putI (E := E_M_qGoesOnTest d) (pc := 30) (cks_at k_M_qGoesOnTest 15 rfl rfl) fo_M_231 so_78 rfl po_12_2 (fun M5 => ?_)
        exact tq_sub [0] rfl (w_M_qGoesOnTest_L33 d _ (fun M9 => by
            refine tq_aload_n 0 (E := E_M_qGoesOnTest d) (pc := 49) (cks_at k_M_qGoesOnTest 23 rfl rfl) rfl ?_
            refine tq_dup (E := E_M_qGoesOnTest d) (pc := 50) (cks_at k_M_qGoesOnTest 24 rfl rfl) rfl ?_
            refine tq_getI (E := E_M_qGoesOnTest d) (pc := 51) (cks_at k_M_qGoesOnTest 25 rfl rfl) fo_M_620 so_78 rfl (by decide) ?_
            refine tq_iconst (E := E_M_qGoesOnTest d) (pc := 54) (cks_at k_M_qGoesOnTest 26 rfl rfl) ?_
            refine tq_isub (E := E_M_qGoesOnTest d) (pc := 55) (cks_at k_M_qGoesOnTest 27 rfl rfl) ?_
            refine tq_putI (E := E_M_qGoesOnTest d) (pc := 56) (cks_at k_M_qGoesOnTest 28 rfl rfl) fo_M_620 so_78 rfl po_12_91 (fun M10 => ?_)
            refine tq_aload_n 0 (E := E_M_qGoesOnTest d) (pc := 59) (cks_at k_M_qGoesOnTest 29 rfl rfl) rfl ?_
            refine tq_dup (E := E_M_qGoesOnTest d) (pc := 60) (cks_at k_M_qGoesOnTest 30 rfl rfl) rfl ?_
            refine tq_getI (E := E_M_qGoesOnTest d) (pc := 61) (cks_at k_M_qGoesOnTest 31 rfl rfl) fo_M_617 so_78 rfl (by decide) ?_
            refine tq_iconst (E := E_M_qGoesOnTest d) (pc := 64) (cks_at k_M_qGoesOnTest 32 rfl rfl) ?_
            refine tq_isub (E := E_M_qGoesOnTest d) (pc := 65) (cks_at k_M_qGoesOnTest 33 rfl rfl) ?_
            refine tq_putI (E := E_M_qGoesOnTest d) (pc := 66) (cks_at k_M_qGoesOnTest 34 rfl rfl) fo_M_617 so_78 rfl po_12_92 (fun M11 => ?_)
            refine tq_aload_n 0 (E := E_M_qGoesOnTest d) (pc := 69) (cks_at k_M_qGoesOnTest 35 rfl rfl) rfl ?_
            refine tq_V0 (E := E_M_qGoesOnTest d) (pc := 70) (cks_at k_M_qGoesOnTest 36 rfl rfl) mk_M_qDropsNots lk_M_671 rc_78 (Nat.le_of_ble_eq_true rfl) (c_M_qDropsNots (d + 0) M11) (k_V fun M12 => ?_)
            refine tq_goto (tgt := 0) (E := E_M_qGoesOnTest d) (pc := 73) (cks_at k_M_qGoesOnTest 37 rfl rfl) (by decide) ?_
            exact tq_sub [0] rfl (hkH M12)) FU M5)
def f_M_qGoesOnTest_L0 (kx76 : Mm → Option (Int × Mm)) : Nat → Mm → Option (Int × Mm) := lp fun kH s => f_M_qGoesOnTest_B0 kH kx76 s
set_option maxRecDepth 20000 in
set_option maxHeartbeats 4000000 in
theorem w_M_qGoesOnTest_L0 (d : Nat) (kx76 : Mm → Option (Int × Mm)) (hkx76 : ∀  (M : Mm), T (E_M_qGoesOnTest d) injI 76 [(0, .ref 78)] [] M (kx76 M)) (n : Nat) (s : Mm) : T (E_M_qGoesOnTest d) injI 0 [(0, .ref 78)] [] s (f_M_qGoesOnTest_L0 kx76 n s) :=
  tq_lp (fun s => [(0, .ref 78)]) (fun s => s) (fun kH hH s => w_M_qGoesOnTest_B0 d kH kx76 (fun M => hH (M)) hkx76 s) n s
def f_M_qGoesOnTest_B137 (kH : Mm → Option (Int × Mm)) (kx162 : Mm → Option (Int × Mm)) (M : Mm) : Option (Int × Mm) :=
  bI (f_M_qIsOn 10 M) (fun r22 M21 =>
  if ¬ i32 r22 = 0 then
    bV (f_M_qDrops M21) (fun M23 =>
    kH M23)
  else
    bI (f_M_qIsOn 11 M21) (fun r25 M24 =>
    if i32 r25 = 0 then
      kx162 M24
    else
      bV (f_M_qDrops M24) (fun M26 =>
      kH M26)))
set_option maxRecDepth 20000 in
set_option maxHeartbeats 4000000 in
theorem w_M_qGoesOnTest_B137 (d : Nat) (kH : Mm → Option (Int × Mm)) (kx162 : Mm → Option (Int × Mm)) (hkH : ∀  (M : Mm), T (E_M_qGoesOnTest d) injI 137 [(0, .ref 78)] [] M (kH M)) (hkx162 : ∀  (M : Mm), T (E_M_qGoesOnTest d) injI 162 [(0, .ref 78)] [] M (kx162 M)) (M : Mm) : T (E_M_qGoesOnTest d) injI 137 [(0, .ref 78)] [] M (f_M_qGoesOnTest_B137 kH kx162 M) := by
  unfold f_M_qGoesOnTest_B137
  refine tq_aload_n 0 (E := E_M_qGoesOnTest d) (pc := 137) (cks_at k_M_qGoesOnTest 69 rfl rfl) rfl ?_
  refine tq_bipush (E := E_M_qGoesOnTest d) (pc := 138) (cks_at k_M_qGoesOnTest 70 rfl rfl) (by decide) (by decide) ?_
  refine tq_V1 (E := E_M_qGoesOnTest d) (pc := 140) (cks_at k_M_qGoesOnTest 71 rfl rfl) mk_M_qIsOn lk_M_656 rc_78 (Nat.le_of_ble_eq_true rfl) (c_M_qIsOn (d + 2) 10 M) (k_I fun r22 M21 => ?_)
  refine tq_if_ne (E := E_M_qGoesOnTest d) (pc := 143) (tgt := 155) (cks_at k_M_qGoesOnTest 72 rfl rfl) (by decide) ?_ ?_
  · refine tq_aload_n 0 (E := E_M_qGoesOnTest d) (pc := 155) (cks_at k_M_qGoesOnTest 77 rfl rfl) rfl ?_
    refine tq_V0 (E := E_M_qGoesOnTest d) (pc := 156) (cks_at k_M_qGoesOnTest 78 rfl rfl) mk_M_qDrops lk_M_632 rc_78 (Nat.le_of_ble_eq_true rfl) (c_M_qDrops (d + 1) M21) (k_V fun M23 => ?_)
    refine tq_goto (tgt := 137) (E := E_M_qGoesOnTest d) (pc := 159) (cks_at k_M_qGoesOnTest 79 rfl rfl) (by decide) ?_
    exact tq_sub [0] rfl (hkH M23)
  · refine tq_aload_n 0 (E := E_M_qGoesOnTest d) (pc := 146) (cks_at k_M_qGoesOnTest 73 rfl rfl) rfl ?_
    refine tq_bipush (E := E_M_qGoesOnTest d) (pc := 147) (cks_at k_M_qGoesOnTest 74 rfl rfl) (by decide) (by decide) ?_
    refine tq_V1 (E := E_M_qGoesOnTest d) (pc := 149) (cks_at k_M_qGoesOnTest 75 rfl rfl) mk_M_qIsOn lk_M_656 rc_78 (Nat.le_of_ble_eq_true rfl) (c_M_qIsOn (d + 2) 11 M21) (k_I fun r25 M24 => ?_)
    refine tq_if_eq (E := E_M_qGoesOnTest d) (pc := 152) (tgt := 162) (cks_at k_M_qGoesOnTest 76 rfl rfl) (by decide) ?_ ?_
    · exact tq_sub [0] rfl (hkx162 M24)
    · refine tq_aload_n 0 (E := E_M_qGoesOnTest d) (pc := 155) (cks_at k_M_qGoesOnTest 77 rfl rfl) rfl ?_
      refine tq_V0 (E := E_M_qGoesOnTest d) (pc := 156) (cks_at k_M_qGoesOnTest 78 rfl rfl) mk_M_qDrops lk_M_632 rc_78 (Nat.le_of_ble_eq_true rfl) (c_M_qDrops (d + 1) M24) (k_V fun M26 => ?_)
      refine tq_goto (tgt := 137) (E := E_M_qGoesOnTest d) (pc := 159) (cks_at k_M_qGoesOnTest 79 rfl rfl) (by decide) ?_
      exact tq_sub [0] rfl (hkH M26)
def f_M_qGoesOnTest_L137 (kx162 : Mm → Option (Int × Mm)) : Nat → Mm → Option (Int × Mm) := lp fun kH s => f_M_qGoesOnTest_B137 kH kx162 s
set_option maxRecDepth 20000 in
set_option maxHeartbeats 4000000 in
theorem w_M_qGoesOnTest_L137 (d : Nat) (kx162 : Mm → Option (Int × Mm)) (hkx162 : ∀  (M : Mm), T (E_M_qGoesOnTest d) injI 162 [(0, .ref 78)] [] M (kx162 M)) (n : Nat) (s : Mm) : T (E_M_qGoesOnTest d) injI 137 [(0, .ref 78)] [] s (f_M_qGoesOnTest_L137 kx162 n s) :=
  tq_lp (fun s => [(0, .ref 78)]) (fun s => s) (fun kH hH s => w_M_qGoesOnTest_B137 d kH kx162 (fun M => hH (M)) hkx162 s) n s
def f_M_qGoesOnTest_B87 (kH : Mm → Option (Int × Mm)) (kx103 : Mm → Option (Int × Mm)) (M : Mm) : Option (Int × Mm) :=
  bI (f_M_qIsOn 10 M) (fun r31 M30 =>
  if i32 r31 = 0 then
    kx103 M30
  else
    bV (f_M_qDrops M30) (fun M32 =>
    kH M32))
set_option maxRecDepth 20000 in
set_option maxHeartbeats 4000000 in
theorem w_M_qGoesOnTest_B87 (d : Nat) (kH : Mm → Option (Int × Mm)) (kx103 : Mm → Option (Int × Mm)) (hkH : ∀  (M : Mm), T (E_M_qGoesOnTest d) injI 87 [(0, .ref 78)] [] M (kH M)) (hkx103 : ∀  (M : Mm), T (E_M_qGoesOnTest d) injI 103 [(0, .ref 78)] [] M (kx103 M)) (M : Mm) : T (E_M_qGoesOnTest d) injI 87 [(0, .ref 78)] [] M (f_M_qGoesOnTest_B87 kH kx103 M) := by
  unfold f_M_qGoesOnTest_B87
  refine tq_aload_n 0 (E := E_M_qGoesOnTest d) (pc := 87) (cks_at k_M_qGoesOnTest 43 rfl rfl) rfl ?_
  refine tq_bipush (E := E_M_qGoesOnTest d) (pc := 88) (cks_at k_M_qGoesOnTest 44 rfl rfl) (by decide) (by decide) ?_
  refine tq_V1 (E := E_M_qGoesOnTest d) (pc := 90) (cks_at k_M_qGoesOnTest 45 rfl rfl) mk_M_qIsOn lk_M_656 rc_78 (Nat.le_of_ble_eq_true rfl) (c_M_qIsOn (d + 2) 10 M) (k_I fun r31 M30 => ?_)
  refine tq_if_eq (E := E_M_qGoesOnTest d) (pc := 93) (tgt := 103) (cks_at k_M_qGoesOnTest 46 rfl rfl) (by decide) ?_ ?_
  · exact tq_sub [0] rfl (hkx103 M30)
  · refine tq_aload_n 0 (E := E_M_qGoesOnTest d) (pc := 96) (cks_at k_M_qGoesOnTest 47 rfl rfl) rfl ?_
    refine tq_V0 (E := E_M_qGoesOnTest d) (pc := 97) (cks_at k_M_qGoesOnTest 48 rfl rfl) mk_M_qDrops lk_M_632 rc_78 (Nat.le_of_ble_eq_true rfl) (c_M_qDrops (d + 1) M30) (k_V fun M32 => ?_)
    refine tq_goto (tgt := 87) (E := E_M_qGoesOnTest d) (pc := 100) (cks_at k_M_qGoesOnTest 49 rfl rfl) (by decide) ?_
    exact tq_sub [0] rfl (hkH M32)
def f_M_qGoesOnTest_L87 (kx103 : Mm → Option (Int × Mm)) : Nat → Mm → Option (Int × Mm) := lp fun kH s => f_M_qGoesOnTest_B87 kH kx103 s
set_option maxRecDepth 20000 in
set_option maxHeartbeats 4000000 in
theorem w_M_qGoesOnTest_L87 (d : Nat) (kx103 : Mm → Option (Int × Mm)) (hkx103 : ∀  (M : Mm), T (E_M_qGoesOnTest d) injI 103 [(0, .ref 78)] [] M (kx103 M)) (n : Nat) (s : Mm) : T (E_M_qGoesOnTest d) injI 87 [(0, .ref 78)] [] s (f_M_qGoesOnTest_L87 kx103 n s) :=
  tq_lp (fun s => [(0, .ref 78)]) (fun s => s) (fun kH hH s => w_M_qGoesOnTest_B87 d kH kx103 (fun M => hH (M)) hkx103 s) n s
def f_M_qGoesOnTest_J76 (M : Mm) : Option (Int × Mm) :=
  bI (f_M_takes 131 M) (fun r15 M14 =>
  if i32 r15 = 0 then
    bI (f_M_takes 132 M14) (fun r17 M16 =>
    if i32 r17 = 0 then
      if ¬ i32 (M16 78 5) = 0 then
        some (0, M16)
      else
        bI (f_M_qHasSquare M16) (fun r19 M18 =>
        if i32 r19 = 0 then
          some (0, M18)
        else
          bV (f_M_fail 1 (M18 78 2) M18) (fun M20 =>
          some (0, M20)))
    else
      f_M_qGoesOnTest_L137 (fun M27 => gd (0 ≤ i32 (M27 78 91) ∧ i32 (M27 78 91) < ((1700 : Nat) : Int)) <|
          bd (up M27 143 (i32 (M27 78 91)).toNat 11) (fun M28 =>
          bd (up M28 78 91 ((M28 78 91) + 1)) (fun M29 =>
          some (1, M29)))) FU M16)
  else
    f_M_qGoesOnTest_L87 (fun M33 => gd (0 ≤ i32 (M33 78 91) ∧ i32 (M33 78 91) < ((1700 : Nat) : Int)) <|
        bd (up M33 143 (i32 (M33 78 91)).toNat 10) (fun M34 =>
        bd (up M34 78 91 ((M34 78 91) + 1)) (fun M35 =>
        some (1, M35)))) FU M14)
set_option maxRecDepth 20000 in
set_option maxHeartbeats 4000000 in
theorem w_M_qGoesOnTest_J76 (d : Nat) (M : Mm) : T (E_M_qGoesOnTest d) injI 76 [(0, .ref 78)] [] M (f_M_qGoesOnTest_J76 M) := by
  unfold f_M_qGoesOnTest_J76
  refine tq_aload_n 0 (E := E_M_qGoesOnTest d) (pc := 76) (cks_at k_M_qGoesOnTest 38 rfl rfl) rfl ?_
  refine tq_aload_n 0 (E := E_M_qGoesOnTest d) (pc := 77) (cks_at k_M_qGoesOnTest 39 rfl rfl) rfl ?_
  refine tq_getR (j := 131) (E := E_M_qGoesOnTest d) (pc := 78) (cks_at k_M_qGoesOnTest 40 rfl rfl) fo_M_177 so_78 rfl sp_78_77 ?_
  refine tq_V1 (E := E_M_qGoesOnTest d) (pc := 81) (cks_at k_M_qGoesOnTest 41 rfl rfl) mk_M_takes lk_M_252 rc_78 (Nat.le_of_ble_eq_true rfl) (c_M_takes (d + 0) 131 sa_131 M) (k_I fun r15 M14 => ?_)
  refine tq_if_eq (E := E_M_qGoesOnTest d) (pc := 84) (tgt := 126) (cks_at k_M_qGoesOnTest 42 rfl rfl) (by decide) ?_ ?_
  · refine tq_aload_n 0 (E := E_M_qGoesOnTest d) (pc := 126) (cks_at k_M_qGoesOnTest 64 rfl rfl) rfl ?_
    refine tq_aload_n 0 (E := E_M_qGoesOnTest d) (pc := 127) (cks_at k_M_qGoesOnTest 65 rfl rfl) rfl ?_
    refine tq_getR (j := 132) (E := E_M_qGoesOnTest d) (pc := 128) (cks_at k_M_qGoesOnTest 66 rfl rfl) fo_M_180 so_78 rfl sp_78_78 ?_
    refine tq_V1 (E := E_M_qGoesOnTest d) (pc := 131) (cks_at k_M_qGoesOnTest 67 rfl rfl) mk_M_takes lk_M_252 rc_78 (Nat.le_of_ble_eq_true rfl) (c_M_takes (d + 0) 132 sa_132 M14) (k_I fun r17 M16 => ?_)
    refine tq_if_eq (E := E_M_qGoesOnTest d) (pc := 134) (tgt := 185) (cks_at k_M_qGoesOnTest 68 rfl rfl) (by decide) ?_ ?_
    · refine tq_aload_n 0 (E := E_M_qGoesOnTest d) (pc := 185) (cks_at k_M_qGoesOnTest 94 rfl rfl) rfl ?_
      refine tq_getI (E := E_M_qGoesOnTest d) (pc := 186) (cks_at k_M_qGoesOnTest 95 rfl rfl) fo_M_225 so_78 rfl (by decide) ?_
      refine tq_if_ne (E := E_M_qGoesOnTest d) (pc := 189) (tgt := 208) (cks_at k_M_qGoesOnTest 96 rfl rfl) (by decide) ?_ ?_
      · refine tq_iconst (E := E_M_qGoesOnTest d) (pc := 208) (cks_at k_M_qGoesOnTest 105 rfl rfl) ?_
        exact tq_zretC (E := E_M_qGoesOnTest d) (pc := 209) (cks_at k_M_qGoesOnTest 106 rfl rfl) rfl (by decide)
      · refine tq_aload_n 0 (E := E_M_qGoesOnTest d) (pc := 192) (cks_at k_M_qGoesOnTest 97 rfl rfl) rfl ?_
        refine tq_V0 (E := E_M_qGoesOnTest d) (pc := 193) (cks_at k_M_qGoesOnTest 98 rfl rfl) mk_M_qHasSquare lk_M_677 rc_78 (Nat.le_of_ble_eq_true rfl) (c_M_qHasSquare (d + 2) M16) (k_I fun r19 M18 => ?_)
        refine tq_if_eq (E := E_M_qGoesOnTest d) (pc := 196) (tgt := 208) (cks_at k_M_qGoesOnTest 99 rfl rfl) (by decide) ?_ ?_
        · refine tq_iconst (E := E_M_qGoesOnTest d) (pc := 208) (cks_at k_M_qGoesOnTest 105 rfl rfl) ?_
          exact tq_zretC (E := E_M_qGoesOnTest d) (pc := 209) (cks_at k_M_qGoesOnTest 106 rfl rfl) rfl (by decide)
        · refine tq_aload_n 0 (E := E_M_qGoesOnTest d) (pc := 199) (cks_at k_M_qGoesOnTest 100 rfl rfl) rfl ?_
          refine tq_iconst (E := E_M_qGoesOnTest d) (pc := 200) (cks_at k_M_qGoesOnTest 101 rfl rfl) ?_
          refine tq_aload_n 0 (E := E_M_qGoesOnTest d) (pc := 201) (cks_at k_M_qGoesOnTest 102 rfl rfl) rfl ?_
          refine tq_getI (E := E_M_qGoesOnTest d) (pc := 202) (cks_at k_M_qGoesOnTest 103 rfl rfl) fo_M_231 so_78 rfl (by decide) ?_
          refine tq_V2 (E := E_M_qGoesOnTest d) (pc := 205) (cks_at k_M_qGoesOnTest 104 rfl rfl) mk_M_fail lk_M_255 rc_78 (Nat.le_of_ble_eq_true rfl) (c_M_fail (d + 2) 1 (M18 78 2) M18) (k_V fun M20 => ?_)
          refine tq_iconst (E := E_M_qGoesOnTest d) (pc := 208) (cks_at k_M_qGoesOnTest 105 rfl rfl) ?_
          exact tq_zretC (E := E_M_qGoesOnTest d) (pc := 209) (cks_at k_M_qGoesOnTest 106 rfl rfl) rfl (by decide)
    · exact tq_sub [0] rfl (w_M_qGoesOnTest_L137 d _ (fun M27 => by
          refine tq_aload_n 0 (E := E_M_qGoesOnTest d) (pc := 162) (cks_at k_M_qGoesOnTest 80 rfl rfl) rfl ?_
          refine tq_getR (j := 143) (E := E_M_qGoesOnTest d) (pc := 163) (cks_at k_M_qGoesOnTest 81 rfl rfl) fo_M_213 so_78 rfl sp_78_90 ?_
          refine tq_aload_n 0 (E := E_M_qGoesOnTest d) (pc := 166) (cks_at k_M_qGoesOnTest 82 rfl rfl) rfl ?_
          refine tq_getI (E := E_M_qGoesOnTest d) (pc := 167) (cks_at k_M_qGoesOnTest 83 rfl rfl) fo_M_620 so_78 rfl (by decide) ?_
          refine tq_bipush (E := E_M_qGoesOnTest d) (pc := 170) (cks_at k_M_qGoesOnTest 84 rfl rfl) (by decide) (by decide) ?_
          refine tq_iast (E := E_M_qGoesOnTest d) (pc := 172) (cks_at k_M_qGoesOnTest 85 rfl rfl) sa_143 sn_143 (fun M28 => ?_)
          refine tq_aload_n 0 (E := E_M_qGoesOnTest d) (pc := 173) (cks_at k_M_qGoesOnTest 86 rfl rfl) rfl ?_
          refine tq_dup (E := E_M_qGoesOnTest d) (pc := 174) (cks_at k_M_qGoesOnTest 87 rfl rfl) rfl ?_
          refine tq_getI (E := E_M_qGoesOnTest d) (pc := 175) (cks_at k_M_qGoesOnTest 88 rfl rfl) fo_M_620 so_78 rfl (by decide) ?_
          refine tq_iconst (E := E_M_qGoesOnTest d) (pc := 178) (cks_at k_M_qGoesOnTest 89 rfl rfl) ?_
          refine tq_iadd (E := E_M_qGoesOnTest d) (pc := 179) (cks_at k_M_qGoesOnTest 90 rfl rfl) ?_
          refine tq_putI (E := E_M_qGoesOnTest d) (pc := 180) (cks_at k_M_qGoesOnTest 91 rfl rfl) fo_M_620 so_78 rfl po_12_91 (fun M29 => ?_)
          refine tq_iconst (E := E_M_qGoesOnTest d) (pc := 183) (cks_at k_M_qGoesOnTest 92 rfl rfl) ?_
          exact tq_zretC (E := E_M_qGoesOnTest d) (pc := 184) (cks_at k_M_qGoesOnTest 93 rfl rfl) rfl (by decide)) FU M16)
  · exact tq_sub [0] rfl (w_M_qGoesOnTest_L87 d _ (fun M33 => by
        refine tq_aload_n 0 (E := E_M_qGoesOnTest d) (pc := 103) (cks_at k_M_qGoesOnTest 50 rfl rfl) rfl ?_
        refine tq_getR (j := 143) (E := E_M_qGoesOnTest d) (pc := 104) (cks_at k_M_qGoesOnTest 51 rfl rfl) fo_M_213 so_78 rfl sp_78_90 ?_
        refine tq_aload_n 0 (E := E_M_qGoesOnTest d) (pc := 107) (cks_at k_M_qGoesOnTest 52 rfl rfl) rfl ?_
        refine tq_getI (E := E_M_qGoesOnTest d) (pc := 108) (cks_at k_M_qGoesOnTest 53 rfl rfl) fo_M_620 so_78 rfl (by decide) ?_
        refine tq_bipush (E := E_M_qGoesOnTest d) (pc := 111) (cks_at k_M_qGoesOnTest 54 rfl rfl) (by decide) (by decide) ?_
        refine tq_iast (E := E_M_qGoesOnTest d) (pc := 113) (cks_at k_M_qGoesOnTest 55 rfl rfl) sa_143 sn_143 (fun M34 => ?_)
        refine tq_aload_n 0 (E := E_M_qGoesOnTest d) (pc := 114) (cks_at k_M_qGoesOnTest 56 rfl rfl) rfl ?_
        refine tq_dup (E := E_M_qGoesOnTest d) (pc := 115) (cks_at k_M_qGoesOnTest 57 rfl rfl) rfl ?_
        refine tq_getI (E := E_M_qGoesOnTest d) (pc := 116) (cks_at k_M_qGoesOnTest 58 rfl rfl) fo_M_620 so_78 rfl (by decide) ?_
        refine tq_iconst (E := E_M_qGoesOnTest d) (pc := 119) (cks_at k_M_qGoesOnTest 59 rfl rfl) ?_
        refine tq_iadd (E := E_M_qGoesOnTest d) (pc := 120) (cks_at k_M_qGoesOnTest 60 rfl rfl) ?_
        refine tq_putI (E := E_M_qGoesOnTest d) (pc := 121) (cks_at k_M_qGoesOnTest 61 rfl rfl) fo_M_620 so_78 rfl po_12_91 (fun M35 => ?_)
        refine tq_iconst (E := E_M_qGoesOnTest d) (pc := 124) (cks_at k_M_qGoesOnTest 62 rfl rfl) ?_
        exact tq_zretC (E := E_M_qGoesOnTest d) (pc := 125) (cks_at k_M_qGoesOnTest 63 rfl rfl) rfl (by decide)) FU M14)
def f_M_qGoesOnTest (M : Mm) : Option (Int × Mm) :=
  f_M_qGoesOnTest_L0 (fun M13 => f_M_qGoesOnTest_J76 M13) FU M
set_option maxRecDepth 20000 in
set_option maxHeartbeats 4000000 in
theorem c_M_qGoesOnTest (d : Nat) (M : Mm) (Q : Option Value → Mm → Prop) (h : sat injI (f_M_qGoesOnTest M) Q) : Ct (d + 4) y_M_qGoesOnTest [.ref 78] M Q := by
  refine ct_in (d := d + 3) mk_M_qGoesOnTest (Nat.le_of_ble_eq_true rfl) (?_ : T (E_M_qGoesOnTest d) injI 0 [(0, .ref 78)] [] M (f_M_qGoesOnTest M)) h
  unfold f_M_qGoesOnTest
  exact tq_sub [0] rfl (w_M_qGoesOnTest_L0 d _ (fun M13 => by
      exact tq_sub [0] rfl (w_M_qGoesOnTest_J76 d M13)) FU M)
abbrev E_M_qTest (d : Nat) : Ev := (Ct (d + 8), "BreathTownModel", prog_14_method_133_code, 3, False, 0, (fun _ => 0), (Option.none : Option Jvm.ClassFile.FieldType))
def f_M_qTest_B2 (kH : Int → Mm → Option (Mm)) (kx110 : Mm → Option (Mm)) (v1 : Int) (M : Mm) : Option (Mm) :=
  if i32 v1 = 0 then
    kx110 M
  else
    if ¬ i32 (M 78 5) = 0 then
      kx110 M
    else
      bI (f_M_look M) (fun r2 M1 =>
      if ¬ i32 r2 = i32 91 then
        bI (f_M_isHere 130 M1) (fun r4 M3 =>
        if i32 r4 = 0 then
          bV (f_M_qFact M3) (fun M5 =>
          bV (f_M_qDropsNots M5) (fun M6 =>
          if ¬ i32 (M6 78 5) = 0 then
            kH 0 M6
          else
            bI (f_M_qGoesOnTest M6) (fun r8 M7 =>
            if i32 r8 = 0 then
              kH 0 M7
            else
              kH 1 M7)))
        else
          bV (f_M_qOpens 12 (M3 78 2) M3) (fun M9 =>
          bV (f_M_asks 130 M9) (fun M10 =>
          kH v1 M10)))
      else
        bV (f_M_qOpens 25 (M1 78 2) M1) (fun M11 =>
        bd (up M11 78 2 ((M11 78 2) + 1)) (fun M12 =>
        kH v1 M12)))
set_option maxRecDepth 20000 in
set_option maxHeartbeats 4000000 in
theorem w_M_qTest_B2 (d : Nat) (kH : Int → Mm → Option (Mm)) (kx110 : Mm → Option (Mm)) (hkH : ∀ (v1 : Int) (M : Mm), T (E_M_qTest d) injV 2 [(0, .ref 78), (1, vI v1)] [] M (kH v1 M)) (hkx110 : ∀  (M : Mm), T (E_M_qTest d) injV 110 [(0, .ref 78)] [] M (kx110 M)) (v1 : Int) (M : Mm) : T (E_M_qTest d) injV 2 [(0, .ref 78), (1, vI v1)] [] M (f_M_qTest_B2 kH kx110 v1 M) := by
  unfold f_M_qTest_B2
  refine tq_iload_n 1 (E := E_M_qTest d) (pc := 2) (cks_at k_M_qTest 2 rfl rfl) rfl ?_
  refine tq_if_eq (E := E_M_qTest d) (pc := 3) (tgt := 110) (cks_at k_M_qTest 3 rfl rfl) (by decide) ?_ ?_
  · exact tq_sub [0] rfl (hkx110 M)
  · refine tq_aload_n 0 (E := E_M_qTest d) (pc := 6) (cks_at k_M_qTest 4 rfl rfl) rfl ?_
    refine tq_getI (E := E_M_qTest d) (pc := 7) (cks_at k_M_qTest 5 rfl rfl) fo_M_225 so_78 rfl (by decide) ?_
    refine tq_if_ne (E := E_M_qTest d) (pc := 10) (tgt := 110) (cks_at k_M_qTest 6 rfl rfl) (by decide) ?_ ?_
    · exact tq_sub [0] rfl (hkx110 M)
    · refine tq_aload_n 0 (E := E_M_qTest d) (pc := 13) (cks_at k_M_qTest 7 rfl rfl) rfl ?_
      refine tq_V0 (E := E_M_qTest d) (pc := 14) (cks_at k_M_qTest 8 rfl rfl) mk_M_look lk_M_237 rc_78 (Nat.le_of_ble_eq_true rfl) (c_M_look (d + 7) M) (k_I fun r2 M1 => ?_)
      refine tq_istore_n (E := E_M_qTest d) (pc := 17) (cks_at k_M_qTest 9 rfl rfl) (show 2 < 3 by decide) rfl ?_
      refine tq_iload_n 0 (E := E_M_qTest d) (pc := 18) (cks_at k_M_qTest 10 rfl rfl) rfl ?_
      refine tq_bipush (E := E_M_qTest d) (pc := 19) (cks_at k_M_qTest 11 rfl rfl) (by decide) (by decide) ?_
      refine tq_icmp_ne (E := E_M_qTest d) (pc := 21) (tgt := 47) (cks_at k_M_qTest 12 rfl rfl) (by decide) ?_ ?_
      · refine tq_aload_n 1 (E := E_M_qTest d) (pc := 47) (cks_at k_M_qTest 25 rfl rfl) rfl ?_
        refine tq_aload_n 1 (E := E_M_qTest d) (pc := 48) (cks_at k_M_qTest 26 rfl rfl) rfl ?_
        refine tq_getR (j := 130) (E := E_M_qTest d) (pc := 49) (cks_at k_M_qTest 27 rfl rfl) fo_M_174 so_78 rfl sp_78_76 ?_
        refine tq_V1 (E := E_M_qTest d) (pc := 52) (cks_at k_M_qTest 28 rfl rfl) mk_M_isHere lk_M_248 rc_78 (Nat.le_of_ble_eq_true rfl) (c_M_isHere (d + 6) 130 sa_130 M1) (k_I fun r4 M3 => ?_)
        refine tq_if_eq (E := E_M_qTest d) (pc := 55) (tgt := 79) (cks_at k_M_qTest 29 rfl rfl) (by decide) ?_ ?_
        · refine tq_aload_n 1 (E := E_M_qTest d) (pc := 79) (cks_at k_M_qTest 40 rfl rfl) rfl ?_
          refine tq_V0 (E := E_M_qTest d) (pc := 80) (cks_at k_M_qTest 41 rfl rfl) mk_M_qFact lk_M_668 rc_78 (Nat.le_of_ble_eq_true rfl) (c_M_qFact (d + 0) M3) (k_V fun M5 => ?_)
          refine tq_aload_n 1 (E := E_M_qTest d) (pc := 83) (cks_at k_M_qTest 42 rfl rfl) rfl ?_
          refine tq_V0 (E := E_M_qTest d) (pc := 84) (cks_at k_M_qTest 43 rfl rfl) mk_M_qDropsNots lk_M_671 rc_78 (Nat.le_of_ble_eq_true rfl) (c_M_qDropsNots (d + 5) M5) (k_V fun M6 => ?_)
          refine tq_aload_n 1 (E := E_M_qTest d) (pc := 87) (cks_at k_M_qTest 44 rfl rfl) rfl ?_
          refine tq_getI (E := E_M_qTest d) (pc := 88) (cks_at k_M_qTest 45 rfl rfl) fo_M_225 so_78 rfl (by decide) ?_
          refine tq_if_ne (E := E_M_qTest d) (pc := 91) (tgt := 105) (cks_at k_M_qTest 46 rfl rfl) (by decide) ?_ ?_
          · refine tq_iconst (E := E_M_qTest d) (pc := 105) (cks_at k_M_qTest 52 rfl rfl) ?_
            refine tq_istore_n (E := E_M_qTest d) (pc := 106) (cks_at k_M_qTest 53 rfl rfl) (show 1 < 3 by decide) rfl ?_
            refine tq_goto (tgt := 2) (E := E_M_qTest d) (pc := 107) (cks_at k_M_qTest 54 rfl rfl) (by decide) ?_
            exact tq_sub [2, 0] rfl (hkH 0 M6)
          · refine tq_aload_n 1 (E := E_M_qTest d) (pc := 94) (cks_at k_M_qTest 47 rfl rfl) rfl ?_
            refine tq_V0 (E := E_M_qTest d) (pc := 95) (cks_at k_M_qTest 48 rfl rfl) mk_M_qGoesOnTest lk_M_674 rc_78 (Nat.le_of_ble_eq_true rfl) (c_M_qGoesOnTest (d + 4) M6) (k_I fun r8 M7 => ?_)
            refine tq_if_eq (E := E_M_qTest d) (pc := 98) (tgt := 105) (cks_at k_M_qTest 49 rfl rfl) (by decide) ?_ ?_
            · refine tq_iconst (E := E_M_qTest d) (pc := 105) (cks_at k_M_qTest 52 rfl rfl) ?_
              refine tq_istore_n (E := E_M_qTest d) (pc := 106) (cks_at k_M_qTest 53 rfl rfl) (show 1 < 3 by decide) rfl ?_
              refine tq_goto (tgt := 2) (E := E_M_qTest d) (pc := 107) (cks_at k_M_qTest 54 rfl rfl) (by decide) ?_
              exact tq_sub [2, 0] rfl (hkH 0 M7)
            · refine tq_iconst (E := E_M_qTest d) (pc := 101) (cks_at k_M_qTest 50 rfl rfl) ?_
              refine tq_goto (tgt := 106) (E := E_M_qTest d) (pc := 102) (cks_at k_M_qTest 51 rfl rfl) (by decide) ?_
              refine tq_istore_n (E := E_M_qTest d) (pc := 106) (cks_at k_M_qTest 53 rfl rfl) (show 1 < 3 by decide) rfl ?_
              refine tq_goto (tgt := 2) (E := E_M_qTest d) (pc := 107) (cks_at k_M_qTest 54 rfl rfl) (by decide) ?_
              exact tq_sub [2, 0] rfl (hkH 1 M7)
        · refine tq_aload_n 1 (E := E_M_qTest d) (pc := 58) (cks_at k_M_qTest 30 rfl rfl) rfl ?_
          refine tq_bipush (E := E_M_qTest d) (pc := 59) (cks_at k_M_qTest 31 rfl rfl) (by decide) (by decide) ?_
          refine tq_aload_n 1 (E := E_M_qTest d) (pc := 61) (cks_at k_M_qTest 32 rfl rfl) rfl ?_
          refine tq_getI (E := E_M_qTest d) (pc := 62) (cks_at k_M_qTest 33 rfl rfl) fo_M_231 so_78 rfl (by decide) ?_
          refine tq_V2 (E := E_M_qTest d) (pc := 65) (cks_at k_M_qTest 34 rfl rfl) mk_M_qOpens lk_M_641 rc_78 (Nat.le_of_ble_eq_true rfl) (c_M_qOpens (d + 6) 12 (M3 78 2) M3) (k_V fun M9 => ?_)
          refine tq_aload_n 1 (E := E_M_qTest d) (pc := 68) (cks_at k_M_qTest 35 rfl rfl) rfl ?_
          refine tq_aload_n 1 (E := E_M_qTest d) (pc := 69) (cks_at k_M_qTest 36 rfl rfl) rfl ?_
          refine tq_getR (j := 130) (E := E_M_qTest d) (pc := 70) (cks_at k_M_qTest 37 rfl rfl) fo_M_174 so_78 rfl sp_78_76 ?_
          refine tq_V1 (E := E_M_qTest d) (pc := 73) (cks_at k_M_qTest 38 rfl rfl) mk_M_asks lk_M_295 rc_78 (Nat.le_of_ble_eq_true rfl) (c_M_asks (d + 4) 130 sa_130 M9) (k_V fun M10 => ?_)
          refine tq_goto (tgt := 2) (E := E_M_qTest d) (pc := 76) (cks_at k_M_qTest 39 rfl rfl) (by decide) ?_
          exact tq_sub [1, 2] rfl (hkH v1 M10)
      · refine tq_aload_n 1 (E := E_M_qTest d) (pc := 24) (cks_at k_M_qTest 13 rfl rfl) rfl ?_
        refine tq_bipush (E := E_M_qTest d) (pc := 25) (cks_at k_M_qTest 14 rfl rfl) (by decide) (by decide) ?_
        refine tq_aload_n 1 (E := E_M_qTest d) (pc := 27) (cks_at k_M_qTest 15 rfl rfl) rfl ?_
        refine tq_getI (E := E_M_qTest d) (pc := 28) (cks_at k_M_qTest 16 rfl rfl) fo_M_231 so_78 rfl (by decide) ?_
        refine tq_V2 (E := E_M_qTest d) (pc := 31) (cks_at k_M_qTest 17 rfl rfl) mk_M_qOpens lk_M_641 rc_78 (Nat.le_of_ble_eq_true rfl) (c_M_qOpens (d + 6) 25 (M1 78 2) M1) (k_V fun M11 => ?_)
        refine tq_aload_n 1 (E := E_M_qTest d) (pc := 34) (cks_at k_M_qTest 18 rfl rfl) rfl ?_
        refine tq_dup (E := E_M_qTest d) (pc := 35) (cks_at k_M_qTest 19 rfl rfl) rfl ?_
        refine tq_getI (E := E_M_qTest d) (pc := 36) (cks_at k_M_qTest 20 rfl rfl) fo_M_231 so_78 rfl (by decide) ?_
        refine tq_iconst (E := E_M_qTest d) (pc := 39) (cks_at k_M_qTest 21 rfl rfl) ?_
        refine tq_iadd (E := E_M_qTest d) (pc := 40) (cks_at k_M_qTest 22 rfl rfl) ?_
        refine tq_putI (E := E_M_qTest d) (pc := 41) (cks_at k_M_qTest 23 rfl rfl) fo_M_231 so_78 rfl po_12_2 (fun M12 => ?_)
        refine tq_goto (tgt := 2) (E := E_M_qTest d) (pc := 44) (cks_at k_M_qTest 24 rfl rfl) (by decide) ?_
        exact tq_sub [1, 2] rfl (hkH v1 M12)
def f_M_qTest_L2 (kx110 : Mm → Option (Mm)) : Nat → Int × Mm → Option (Mm) := lp fun kH s => f_M_qTest_B2 (fun v1 M => kH (v1, M)) kx110 s.1 s.2
set_option maxRecDepth 20000 in
set_option maxHeartbeats 4000000 in
theorem w_M_qTest_L2 (d : Nat) (kx110 : Mm → Option (Mm)) (hkx110 : ∀  (M : Mm), T (E_M_qTest d) injV 110 [(0, .ref 78)] [] M (kx110 M)) (n : Nat) (s : Int × Mm) : T (E_M_qTest d) injV 2 [(0, .ref 78), (1, vI s.1)] [] s.2 (f_M_qTest_L2 kx110 n s) :=
  tq_lp (fun s => [(0, .ref 78), (1, vI s.1)]) (fun s => s.2) (fun kH hH s => w_M_qTest_B2 d (fun v1 M => kH (v1, M)) kx110 (fun v1 M => hH (v1, M)) hkx110 s.1 s.2) n s
def f_M_qTest_B110 (kH : Mm → Option (Mm)) (M : Mm) : Option (Mm) :=
  if ¬ i32 (M 78 5) = 0 then
    some M
  else
    if i32 (M 78 91) ≤ 0 then
      some M
    else
      bV (f_M_qDrops M) (fun M14 =>
      kH M14)
set_option maxRecDepth 20000 in
set_option maxHeartbeats 4000000 in
theorem w_M_qTest_B110 (d : Nat) (kH : Mm → Option (Mm)) (hkH : ∀  (M : Mm), T (E_M_qTest d) injV 110 [(0, .ref 78)] [] M (kH M)) (M : Mm) : T (E_M_qTest d) injV 110 [(0, .ref 78)] [] M (f_M_qTest_B110 kH M) := by
  unfold f_M_qTest_B110
  refine tq_aload_n 0 (E := E_M_qTest d) (pc := 110) (cks_at k_M_qTest 55 rfl rfl) rfl ?_
  refine tq_getI (E := E_M_qTest d) (pc := 111) (cks_at k_M_qTest 56 rfl rfl) fo_M_225 so_78 rfl (by decide) ?_
  refine tq_if_ne (E := E_M_qTest d) (pc := 114) (tgt := 131) (cks_at k_M_qTest 57 rfl rfl) (by decide) ?_ ?_
  · exact tq_vret (E := E_M_qTest d) (pc := 131) (cks_at k_M_qTest 64 rfl rfl) rfl
  · refine tq_aload_n 0 (E := E_M_qTest d) (pc := 117) (cks_at k_M_qTest 58 rfl rfl) rfl ?_
    refine tq_getI (E := E_M_qTest d) (pc := 118) (cks_at k_M_qTest 59 rfl rfl) fo_M_620 so_78 rfl (by decide) ?_
    refine tq_if_le (E := E_M_qTest d) (pc := 121) (tgt := 131) (cks_at k_M_qTest 60 rfl rfl) (by decide) ?_ ?_
    · exact tq_vret (E := E_M_qTest d) (pc := 131) (cks_at k_M_qTest 64 rfl rfl) rfl
    · refine tq_aload_n 0 (E := E_M_qTest d) (pc := 124) (cks_at k_M_qTest 61 rfl rfl) rfl ?_
      refine tq_V0 (E := E_M_qTest d) (pc := 125) (cks_at k_M_qTest 62 rfl rfl) mk_M_qDrops lk_M_632 rc_78 (Nat.le_of_ble_eq_true rfl) (c_M_qDrops (d + 6) M) (k_V fun M14 => ?_)
      refine tq_goto (tgt := 110) (E := E_M_qTest d) (pc := 128) (cks_at k_M_qTest 63 rfl rfl) (by decide) ?_
      exact tq_sub [0] rfl (hkH M14)
def f_M_qTest_L110 : Nat → Mm → Option (Mm) := lp fun kH s => f_M_qTest_B110 kH s
set_option maxRecDepth 20000 in
set_option maxHeartbeats 4000000 in
theorem w_M_qTest_L110 (d : Nat) (n : Nat) (s : Mm) : T (E_M_qTest d) injV 110 [(0, .ref 78)] [] s (f_M_qTest_L110 n s) :=
  tq_lp (fun s => [(0, .ref 78)]) (fun s => s) (fun kH hH s => w_M_qTest_B110 d kH (fun M => hH (M)) s) n s
def f_M_qTest (M : Mm) : Option (Mm) :=
  f_M_qTest_L2 (fun M13 => f_M_qTest_L110 FU M13) FU (1, M)
set_option maxRecDepth 20000 in
set_option maxHeartbeats 4000000 in
theorem c_M_qTest (d : Nat) (M : Mm) (Q : Option Value → Mm → Prop) (h : sat injV (f_M_qTest M) Q) : Ct (d + 9) y_M_qTest [.ref 78] M Q := by
  refine ct_in (d := d + 8) mk_M_qTest (Nat.le_of_ble_eq_true rfl) (?_ : T (E_M_qTest d) injV 0 [(0, .ref 78)] [] M (f_M_qTest M)) h
  unfold f_M_qTest
  refine tq_iconst (E := E_M_qTest d) (pc := 0) (cks_at k_M_qTest 0 rfl rfl) ?_
  refine tq_istore_n (E := E_M_qTest d) (pc := 1) (cks_at k_M_qTest 1 rfl rfl) (show 1 < 3 by decide) rfl ?_
  exact tq_sub [1, 0] rfl (w_M_qTest_L2 d _ (fun M13 => by
      exact tq_sub [0] rfl (w_M_qTest_L110 d FU M13)) FU (1, M))
abbrev E_M_qPuts (d : Nat) : Ev := (Ct (d + 0), "BreathTownModel", prog_14_method_137_code, 3, False, 0, (fun _ => 0), (Option.none : Option Jvm.ClassFile.FieldType))
def f_M_qPuts (v1 : Int) (M : Mm) : Option (Mm) :=
  gd (0 ≤ i32 (M 78 95) ∧ i32 (M 78 95) < ((1700 : Nat) : Int)) <|
  bd (up M 144 (i32 (M 78 95)).toNat v1) (fun M1 =>
  bd (up M1 78 95 ((M1 78 95) + 1)) (fun M2 =>
  some M2))
set_option maxRecDepth 20000 in
set_option maxHeartbeats 4000000 in
theorem c_M_qPuts (d : Nat) (v1 : Int) (M : Mm) (Q : Option Value → Mm → Prop) (h : sat injV (f_M_qPuts v1 M) Q) : Ct (d + 1) y_M_qPuts [.ref 78, vJ v1] M Q := by
  refine ct_in (d := d + 0) mk_M_qPuts (Nat.le_of_ble_eq_true rfl) (?_ : T (E_M_qPuts d) injV 0 [(0, .ref 78), (1, vJ v1)] [] M (f_M_qPuts v1 M)) h
  unfold f_M_qPuts
  refine tq_aload_n 0 (E := E_M_qPuts d) (pc := 0) (cks_at k_M_qPuts 0 rfl rfl) rfl ?_
  refine tq_getR (j := 144) (E := E_M_qPuts d) (pc := 1) (cks_at k_M_qPuts 1 rfl rfl) fo_M_216 so_78 rfl sp_78_94 ?_
  refine tq_aload_n 0 (E := E_M_qPuts d) (pc := 4) (cks_at k_M_qPuts 2 rfl rfl) rfl ?_
  refine tq_getI (E := E_M_qPuts d) (pc := 5) (cks_at k_M_qPuts 3 rfl rfl) fo_M_680 so_78 rfl (by decide) ?_
  refine tq_lload_n 1 (E := E_M_qPuts d) (pc := 8) (cks_at k_M_qPuts 4 rfl rfl) rfl ?_
  refine tq_last (E := E_M_qPuts d) (pc := 9) (cks_at k_M_qPuts 5 rfl rfl) sa_144 sn_144 (fun M1 => ?_)
  refine tq_aload_n 0 (E := E_M_qPuts d) (pc := 10) (cks_at k_M_qPuts 6 rfl rfl) rfl ?_
  refine tq_dup (E := E_M_qPuts d) (pc := 11) (cks_at k_M_qPuts 7 rfl rfl) rfl ?_
  refine tq_getI (E := E_M_qPuts d) (pc := 12) (cks_at k_M_qPuts 8 rfl rfl) fo_M_680 so_78 rfl (by decide) ?_
  refine tq_iconst (E := E_M_qPuts d) (pc := 15) (cks_at k_M_qPuts 9 rfl rfl) ?_
  refine tq_iadd (E := E_M_qPuts d) (pc := 16) (cks_at k_M_qPuts 10 rfl rfl) ?_
  refine tq_putI (E := E_M_qPuts d) (pc := 17) (cks_at k_M_qPuts 11 rfl rfl) fo_M_680 so_78 rfl po_12_95 (fun M2 => ?_)
  exact tq_vret (E := E_M_qPuts d) (pc := 20) (cks_at k_M_qPuts 12 rfl rfl) rfl
abbrev E_M_tideOf (d : Nat) : Ev := (Ct (d + 1), "BreathTownModel", prog_14_method_57_code, 4, False, 0, (fun _ => 0), (Option.some Jvm.ClassFile.FieldType.int))
def f_M_tideOf (v1 : Int) (v2 : Int) (v3 : Int) (M : Mm) : Option (Int × Mm) :=
  bI (f_M_roundOf v1 M) (fun r2 M1 =>
  gd (¬ i32 r2 = 0) <|
  some ((i32 (v2 + v3)).tmod (i32 r2), M1))
set_option maxRecDepth 20000 in
set_option maxHeartbeats 4000000 in
theorem c_M_tideOf (d : Nat) (v1 : Int) (v2 : Int) (v3 : Int) (M : Mm) (Q : Option Value → Mm → Prop) (h : sat injI (f_M_tideOf v1 v2 v3 M) Q) : Ct (d + 2) y_M_tideOf [.ref 78, vI v1, vI v2, vI v3] M Q := by
  refine ct_in (d := d + 1) mk_M_tideOf (Nat.le_of_ble_eq_true rfl) (?_ : T (E_M_tideOf d) injI 0 [(0, .ref 78), (1, vI v1), (2, vI v2), (3, vI v3)] [] M (f_M_tideOf v1 v2 v3 M)) h
  unfold f_M_tideOf
  refine tq_iload_n 2 (E := E_M_tideOf d) (pc := 0) (cks_at k_M_tideOf 0 rfl rfl) rfl ?_
  refine tq_iload_n 3 (E := E_M_tideOf d) (pc := 1) (cks_at k_M_tideOf 1 rfl rfl) rfl ?_
  refine tq_iadd (E := E_M_tideOf d) (pc := 2) (cks_at k_M_tideOf 2 rfl rfl) ?_
  refine tq_aload_n 0 (E := E_M_tideOf d) (pc := 3) (cks_at k_M_tideOf 3 rfl rfl) rfl ?_
  refine tq_iload_n 1 (E := E_M_tideOf d) (pc := 4) (cks_at k_M_tideOf 4 rfl rfl) rfl ?_
  refine tq_V1 (E := E_M_tideOf d) (pc := 5) (cks_at k_M_tideOf 5 rfl rfl) mk_M_roundOf lk_M_418 rc_78 (Nat.le_of_ble_eq_true rfl) (c_M_roundOf (d + 0) v1 M) (k_I fun r2 M1 => ?_)
  refine tq_irem (E := E_M_tideOf d) (pc := 8) (cks_at k_M_tideOf 6 rfl rfl) ?_
  exact tq_iret (E := E_M_tideOf d) (pc := 9) (cks_at k_M_tideOf 7 rfl rfl) rfl
abbrev E_M_puts (d : Nat) : Ev := (Ct (d + 0), "BreathTownModel", prog_14_method_40_code, 3, False, 0, (fun _ => 0), (Option.none : Option Jvm.ClassFile.FieldType))
def f_M_puts (v1 : Int) (M : Mm) : Option (Mm) :=
  gd (0 ≤ i32 (M 78 43) ∧ i32 (M 78 43) < ((1700 : Nat) : Int)) <|
  bd (up M 106 (i32 (M 78 43)).toNat v1) (fun M1 =>
  bd (up M1 78 43 ((M1 78 43) + 1)) (fun M2 =>
  some M2))
set_option maxRecDepth 20000 in
set_option maxHeartbeats 4000000 in
theorem c_M_puts (d : Nat) (v1 : Int) (M : Mm) (Q : Option Value → Mm → Prop) (h : sat injV (f_M_puts v1 M) Q) : Ct (d + 1) y_M_puts [.ref 78, vJ v1] M Q := by
  refine ct_in (d := d + 0) mk_M_puts (Nat.le_of_ble_eq_true rfl) (?_ : T (E_M_puts d) injV 0 [(0, .ref 78), (1, vJ v1)] [] M (f_M_puts v1 M)) h
  unfold f_M_puts
  refine tq_aload_n 0 (E := E_M_puts d) (pc := 0) (cks_at k_M_puts 0 rfl rfl) rfl ?_
  refine tq_getR (j := 106) (E := E_M_puts d) (pc := 1) (cks_at k_M_puts 1 rfl rfl) fo_M_97 so_78 rfl sp_78_42 ?_
  refine tq_aload_n 0 (E := E_M_puts d) (pc := 4) (cks_at k_M_puts 2 rfl rfl) rfl ?_
  refine tq_getI (E := E_M_puts d) (pc := 5) (cks_at k_M_puts 3 rfl rfl) fo_M_387 so_78 rfl (by decide) ?_
  refine tq_lload_n 1 (E := E_M_puts d) (pc := 8) (cks_at k_M_puts 4 rfl rfl) rfl ?_
  refine tq_last (E := E_M_puts d) (pc := 9) (cks_at k_M_puts 5 rfl rfl) sa_106 sn_106 (fun M1 => ?_)
  refine tq_aload_n 0 (E := E_M_puts d) (pc := 10) (cks_at k_M_puts 6 rfl rfl) rfl ?_
  refine tq_dup (E := E_M_puts d) (pc := 11) (cks_at k_M_puts 7 rfl rfl) rfl ?_
  refine tq_getI (E := E_M_puts d) (pc := 12) (cks_at k_M_puts 8 rfl rfl) fo_M_387 so_78 rfl (by decide) ?_
  refine tq_iconst (E := E_M_puts d) (pc := 15) (cks_at k_M_puts 9 rfl rfl) ?_
  refine tq_iadd (E := E_M_puts d) (pc := 16) (cks_at k_M_puts 10 rfl rfl) ?_
  refine tq_putI (E := E_M_puts d) (pc := 17) (cks_at k_M_puts 11 rfl rfl) fo_M_387 so_78 rfl po_12_43 (fun M2 => ?_)
  exact tq_vret (E := E_M_puts d) (pc := 20) (cks_at k_M_puts 12 rfl rfl) rfl
abbrev E_M_clip (d : Nat) : Ev := (Ct (d + 0), "BreathTownModel", prog_14_method_38_code, 2, False, 0, (fun _ => 0), (Option.some Jvm.ClassFile.FieldType.long))
def f_M_clip (v0 : Int) (M : Mm) : Option (Int × Mm) :=
  if i32 (cmp64 v0 1000000) ≤ 0 then
    if 0 ≤ i32 (cmp64 v0 ((-1000000))) then
      some (v0, M)
    else
      some ((-1000000), M)
  else
    some (1000000, M)
set_option maxRecDepth 20000 in
set_option maxHeartbeats 4000000 in
theorem c_M_clip (d : Nat) (v0 : Int) (M : Mm) (Q : Option Value → Mm → Prop) (h : sat injJ (f_M_clip v0 M) Q) : Ct (d + 1) y_M_clip [vJ v0] M Q := by
  refine ct_in (d := d + 0) mk_M_clip (Nat.le_of_ble_eq_true rfl) (?_ : T (E_M_clip d) injJ 0 [(0, vJ v0)] [] M (f_M_clip v0 M)) h
  unfold f_M_clip
  refine tq_lload_n 0 (E := E_M_clip d) (pc := 0) (cks_at k_M_clip 0 rfl rfl) rfl ?_
  refine tq_ldc2 (z := 1000000) (E := E_M_clip d) (pc := 1) (cks_at k_M_clip 1 rfl rfl) cst_M_383 ?_
  refine tq_lcmp (E := E_M_clip d) (pc := 4) (cks_at k_M_clip 2 rfl rfl) ?_
  refine tq_if_le (E := E_M_clip d) (pc := 5) (tgt := 14) (cks_at k_M_clip 3 rfl rfl) (by decide) ?_ ?_
  · refine tq_lload_n 0 (E := E_M_clip d) (pc := 14) (cks_at k_M_clip 6 rfl rfl) rfl ?_
    refine tq_ldc2 (z := (-1000000)) (E := E_M_clip d) (pc := 15) (cks_at k_M_clip 7 rfl rfl) cst_M_385 ?_
    refine tq_lcmp (E := E_M_clip d) (pc := 18) (cks_at k_M_clip 8 rfl rfl) ?_
    refine tq_if_ge (E := E_M_clip d) (pc := 19) (tgt := 28) (cks_at k_M_clip 9 rfl rfl) (by decide) ?_ ?_
    · refine tq_lload_n 0 (E := E_M_clip d) (pc := 28) (cks_at k_M_clip 12 rfl rfl) rfl ?_
      exact tq_lret (E := E_M_clip d) (pc := 29) (cks_at k_M_clip 13 rfl rfl) rfl
    · refine tq_ldc2 (z := (-1000000)) (E := E_M_clip d) (pc := 22) (cks_at k_M_clip 10 rfl rfl) cst_M_385 ?_
      refine tq_goto (tgt := 29) (E := E_M_clip d) (pc := 25) (cks_at k_M_clip 11 rfl rfl) (by decide) ?_
      exact tq_lret (E := E_M_clip d) (pc := 29) (cks_at k_M_clip 13 rfl rfl) rfl
  · refine tq_ldc2 (z := 1000000) (E := E_M_clip d) (pc := 8) (cks_at k_M_clip 4 rfl rfl) cst_M_383 ?_
    refine tq_goto (tgt := 29) (E := E_M_clip d) (pc := 11) (cks_at k_M_clip 5 rfl rfl) (by decide) ?_
    exact tq_lret (E := E_M_clip d) (pc := 29) (cks_at k_M_clip 13 rfl rfl) rfl
abbrev E_M_floor (d : Nat) : Ev := (Ct (d + 0), "BreathTownModel", prog_14_method_39_code, 6, False, 0, (fun _ => 0), (Option.some Jvm.ClassFile.FieldType.long))
def f_M_floor_J43 (v4 s0 s1 : Int) (M : Mm) : Option (Int × Mm) :=
  if i32 s1 = i32 s0 then
    some (v4, M)
  else
    some (v4 - 1, M)
set_option maxRecDepth 20000 in
set_option maxHeartbeats 4000000 in
theorem w_M_floor_J43 (d : Nat) (v4 s0 s1 : Int) (M : Mm) : T (E_M_floor d) injJ 43 [(4, vJ v4)] [vI s0, vI s1] M (f_M_floor_J43 v4 s0 s1 M) := by
  unfold f_M_floor_J43
  refine tq_icmp_eq (E := E_M_floor d) (pc := 43) (tgt := 53) (cks_at k_M_floor 30 rfl rfl) (by decide) ?_ ?_
  · refine tq_lload 0 (E := E_M_floor d) (pc := 53) (cks_at k_M_floor 35 rfl rfl) rfl ?_
    exact tq_lret (E := E_M_floor d) (pc := 55) (cks_at k_M_floor 36 rfl rfl) rfl
  · refine tq_lload 0 (E := E_M_floor d) (pc := 46) (cks_at k_M_floor 31 rfl rfl) rfl ?_
    refine tq_lconst1 (E := E_M_floor d) (pc := 48) (cks_at k_M_floor 32 rfl rfl) ?_
    refine tq_lsub (E := E_M_floor d) (pc := 49) (cks_at k_M_floor 33 rfl rfl) ?_
    refine tq_goto (tgt := 55) (E := E_M_floor d) (pc := 50) (cks_at k_M_floor 34 rfl rfl) (by decide) ?_
    exact tq_lret (E := E_M_floor d) (pc := 55) (cks_at k_M_floor 36 rfl rfl) rfl
def f_M_floor_J32 (v2 v4 s0 : Int) (M : Mm) : Option (Int × Mm) :=
  if 0 ≤ i32 (cmp64 v2 0) then
    f_M_floor_J43 v4 0 s0 M
  else
    f_M_floor_J43 v4 1 s0 M
set_option maxRecDepth 20000 in
set_option maxHeartbeats 4000000 in
theorem w_M_floor_J32 (d : Nat) (v2 v4 s0 : Int) (M : Mm) : T (E_M_floor d) injJ 32 [(2, vJ v2), (4, vJ v4)] [vI s0] M (f_M_floor_J32 v2 v4 s0 M) := by
  unfold f_M_floor_J32
  refine tq_lload_n 0 (E := E_M_floor d) (pc := 32) (cks_at k_M_floor 23 rfl rfl) rfl ?_
  refine tq_lconst0 (E := E_M_floor d) (pc := 33) (cks_at k_M_floor 24 rfl rfl) ?_
  refine tq_lcmp (E := E_M_floor d) (pc := 34) (cks_at k_M_floor 25 rfl rfl) ?_
  refine tq_if_ge (E := E_M_floor d) (pc := 35) (tgt := 42) (cks_at k_M_floor 26 rfl rfl) (by decide) ?_ ?_
  · refine tq_iconst (E := E_M_floor d) (pc := 42) (cks_at k_M_floor 29 rfl rfl) ?_
    exact tq_sub [1] rfl (w_M_floor_J43 d v4 0 s0 M)
  · refine tq_iconst (E := E_M_floor d) (pc := 38) (cks_at k_M_floor 27 rfl rfl) ?_
    refine tq_goto (tgt := 43) (E := E_M_floor d) (pc := 39) (cks_at k_M_floor 28 rfl rfl) (by decide) ?_
    exact tq_sub [1] rfl (w_M_floor_J43 d v4 1 s0 M)
def f_M_floor (v0 : Int) (v2 : Int) (M : Mm) : Option (Int × Mm) :=
  if ¬ i32 (cmp64 v2 0) = 0 then
    gd (¬ i64 v2 = 0) <|
    gd (¬ i64 v2 = 0) <|
    if i32 (cmp64 ((i64 v0).tmod (i64 v2)) 0) = 0 then
      some ((i64 v0).tdiv (i64 v2), M)
    else
      if 0 ≤ i32 (cmp64 v0 0) then
        f_M_floor_J32 v2 ((i64 v0).tdiv (i64 v2)) 0 M
      else
        f_M_floor_J32 v2 ((i64 v0).tdiv (i64 v2)) 1 M
  else
    some (0, M)
set_option maxRecDepth 20000 in
set_option maxHeartbeats 4000000 in
theorem c_M_floor (d : Nat) (v0 : Int) (v2 : Int) (M : Mm) (Q : Option Value → Mm → Prop) (h : sat injJ (f_M_floor v0 v2 M) Q) : Ct (d + 1) y_M_floor [vJ v0, vJ v2] M Q := by
  refine ct_in (d := d + 0) mk_M_floor (Nat.le_of_ble_eq_true rfl) (?_ : T (E_M_floor d) injJ 0 [(0, vJ v0), (2, vJ v2)] [] M (f_M_floor v0 v2 M)) h
  unfold f_M_floor
  refine tq_lload_n 1 (E := E_M_floor d) (pc := 0) (cks_at k_M_floor 0 rfl rfl) rfl ?_
  refine tq_lconst0 (E := E_M_floor d) (pc := 1) (cks_at k_M_floor 1 rfl rfl) ?_
  refine tq_lcmp (E := E_M_floor d) (pc := 2) (cks_at k_M_floor 2 rfl rfl) ?_
  refine tq_if_ne (E := E_M_floor d) (pc := 3) (tgt := 8) (cks_at k_M_floor 3 rfl rfl) (by decide) ?_ ?_
  · refine tq_lload_n 0 (E := E_M_floor d) (pc := 8) (cks_at k_M_floor 6 rfl rfl) rfl ?_
    refine tq_lload_n 1 (E := E_M_floor d) (pc := 9) (cks_at k_M_floor 7 rfl rfl) rfl ?_
    refine tq_ldiv (E := E_M_floor d) (pc := 10) (cks_at k_M_floor 8 rfl rfl) ?_
    refine tq_lstore (E := E_M_floor d) (pc := 11) (cks_at k_M_floor 9 rfl rfl) (show 4 + 1 < 6 by decide) rfl ?_
    refine tq_lload_n 1 (E := E_M_floor d) (pc := 13) (cks_at k_M_floor 10 rfl rfl) rfl ?_
    refine tq_lload_n 2 (E := E_M_floor d) (pc := 14) (cks_at k_M_floor 11 rfl rfl) rfl ?_
    refine tq_lrem (E := E_M_floor d) (pc := 15) (cks_at k_M_floor 12 rfl rfl) ?_
    refine tq_lconst0 (E := E_M_floor d) (pc := 16) (cks_at k_M_floor 13 rfl rfl) ?_
    refine tq_lcmp (E := E_M_floor d) (pc := 17) (cks_at k_M_floor 14 rfl rfl) ?_
    refine tq_if_eq (E := E_M_floor d) (pc := 18) (tgt := 53) (cks_at k_M_floor 15 rfl rfl) (by decide) ?_ ?_
    · refine tq_lload 0 (E := E_M_floor d) (pc := 53) (cks_at k_M_floor 35 rfl rfl) rfl ?_
      exact tq_lret (E := E_M_floor d) (pc := 55) (cks_at k_M_floor 36 rfl rfl) rfl
    · refine tq_lload_n 1 (E := E_M_floor d) (pc := 21) (cks_at k_M_floor 16 rfl rfl) rfl ?_
      refine tq_lconst0 (E := E_M_floor d) (pc := 22) (cks_at k_M_floor 17 rfl rfl) ?_
      refine tq_lcmp (E := E_M_floor d) (pc := 23) (cks_at k_M_floor 18 rfl rfl) ?_
      refine tq_if_ge (E := E_M_floor d) (pc := 24) (tgt := 31) (cks_at k_M_floor 19 rfl rfl) (by decide) ?_ ?_
      · refine tq_iconst (E := E_M_floor d) (pc := 31) (cks_at k_M_floor 22 rfl rfl) ?_
        exact tq_sub [2, 0] rfl (w_M_floor_J32 d v2 ((i64 v0).tdiv (i64 v2)) 0 M)
      · refine tq_iconst (E := E_M_floor d) (pc := 27) (cks_at k_M_floor 20 rfl rfl) ?_
        refine tq_goto (tgt := 32) (E := E_M_floor d) (pc := 28) (cks_at k_M_floor 21 rfl rfl) (by decide) ?_
        exact tq_sub [2, 0] rfl (w_M_floor_J32 d v2 ((i64 v0).tdiv (i64 v2)) 1 M)
  · refine tq_lconst0 (E := E_M_floor d) (pc := 6) (cks_at k_M_floor 4 rfl rfl) ?_
    exact tq_lret (E := E_M_floor d) (pc := 7) (cks_at k_M_floor 5 rfl rfl) rfl
abbrev E_M_joins (d : Nat) : Ev := (Ct (d + 1), "BreathTownModel", prog_14_method_41_code, 6, False, 0, (fun _ => 0), (Option.none : Option Jvm.ClassFile.FieldType))
def f_M_joins (v1 : Int) (M : Mm) : Option (Mm) :=
  gd (0 ≤ i32 ((M 78 43) - 1) ∧ i32 ((M 78 43) - 1) < ((1700 : Nat) : Int)) <|
  gd (0 ≤ i32 ((M 78 43) - 2) ∧ i32 ((M 78 43) - 2) < ((1700 : Nat) : Int)) <|
  bd (up M 78 43 ((M 78 43) - 2)) (fun M1 =>
  if i32 v1 = 1 then
    bI (f_M_clip ((M 106 (i32 ((M 78 43) - 2)).toNat) + (M 106 (i32 ((M 78 43) - 1)).toNat)) M1) (fun r4 M3 =>
    bV (f_M_puts r4 M3) (fun M5 =>
    some M5))
  else
  if i32 v1 = 2 then
    bI (f_M_clip ((M 106 (i32 ((M 78 43) - 2)).toNat) - (M 106 (i32 ((M 78 43) - 1)).toNat)) M1) (fun r8 M7 =>
    bV (f_M_puts r8 M7) (fun M9 =>
    some M9))
  else
  if i32 v1 = 3 then
    bI (f_M_clip ((M 106 (i32 ((M 78 43) - 2)).toNat) * (M 106 (i32 ((M 78 43) - 1)).toNat)) M1) (fun r12 M11 =>
    bV (f_M_puts r12 M11) (fun M13 =>
    some M13))
  else
  if i32 v1 = 4 then
    bI (f_M_floor (M 106 (i32 ((M 78 43) - 2)).toNat) (M 106 (i32 ((M 78 43) - 1)).toNat) M1) (fun r16 M15 =>
    bV (f_M_puts r16 M15) (fun M17 =>
    some M17))
  else
  if i32 v1 = 5 then
    if 0 ≤ i32 (cmp64 (M 106 (i32 ((M 78 43) - 2)).toNat) (M 106 (i32 ((M 78 43) - 1)).toNat)) then
      bV (f_M_puts (M 106 (i32 ((M 78 43) - 1)).toNat) M1) (fun M19 =>
      some M19)
    else
      bV (f_M_puts (M 106 (i32 ((M 78 43) - 2)).toNat) M1) (fun M20 =>
      some M20)
  else
  if i32 (cmp64 (M 106 (i32 ((M 78 43) - 2)).toNat) (M 106 (i32 ((M 78 43) - 1)).toNat)) ≤ 0 then
    bV (f_M_puts (M 106 (i32 ((M 78 43) - 1)).toNat) M1) (fun M21 =>
    some M21)
  else
    bV (f_M_puts (M 106 (i32 ((M 78 43) - 2)).toNat) M1) (fun M22 =>
    some M22))
set_option maxRecDepth 20000 in
set_option maxHeartbeats 4000000 in
theorem c_M_joins (d : Nat) (v1 : Int) (M : Mm) (Q : Option Value → Mm → Prop) (h : sat injV (f_M_joins v1 M) Q) : Ct (d + 2) y_M_joins [.ref 78, vI v1] M Q := by
  refine ct_in (d := d + 1) mk_M_joins (Nat.le_of_ble_eq_true rfl) (?_ : T (E_M_joins d) injV 0 [(0, .ref 78), (1, vI v1)] [] M (f_M_joins v1 M)) h
  unfold f_M_joins
  refine tq_aload_n 0 (E := E_M_joins d) (pc := 0) (cks_at k_M_joins 0 rfl rfl) rfl ?_
  refine tq_getR (j := 106) (E := E_M_joins d) (pc := 1) (cks_at k_M_joins 1 rfl rfl) fo_M_97 so_78 rfl sp_78_42 ?_
  refine tq_aload_n 0 (E := E_M_joins d) (pc := 4) (cks_at k_M_joins 2 rfl rfl) rfl ?_
  refine tq_getI (E := E_M_joins d) (pc := 5) (cks_at k_M_joins 3 rfl rfl) fo_M_387 so_78 rfl (by decide) ?_
  refine tq_iconst (E := E_M_joins d) (pc := 8) (cks_at k_M_joins 4 rfl rfl) ?_
  refine tq_isub (E := E_M_joins d) (pc := 9) (cks_at k_M_joins 5 rfl rfl) ?_
  refine tq_lald (E := E_M_joins d) (pc := 10) (cks_at k_M_joins 6 rfl rfl) sa_106 sn_106 ?_
  refine tq_lstore_n (E := E_M_joins d) (pc := 11) (cks_at k_M_joins 7 rfl rfl) (show 2 + 1 < 6 by decide) rfl ?_
  refine tq_aload_n 1 (E := E_M_joins d) (pc := 12) (cks_at k_M_joins 8 rfl rfl) rfl ?_
  refine tq_getR (j := 106) (E := E_M_joins d) (pc := 13) (cks_at k_M_joins 9 rfl rfl) fo_M_97 so_78 rfl sp_78_42 ?_
  refine tq_aload_n 1 (E := E_M_joins d) (pc := 16) (cks_at k_M_joins 10 rfl rfl) rfl ?_
  refine tq_getI (E := E_M_joins d) (pc := 17) (cks_at k_M_joins 11 rfl rfl) fo_M_387 so_78 rfl (by decide) ?_
  refine tq_iconst (E := E_M_joins d) (pc := 20) (cks_at k_M_joins 12 rfl rfl) ?_
  refine tq_isub (E := E_M_joins d) (pc := 21) (cks_at k_M_joins 13 rfl rfl) ?_
  refine tq_lald (E := E_M_joins d) (pc := 22) (cks_at k_M_joins 14 rfl rfl) sa_106 sn_106 ?_
  refine tq_lstore (E := E_M_joins d) (pc := 23) (cks_at k_M_joins 15 rfl rfl) (show 4 + 1 < 6 by decide) rfl ?_
  refine tq_aload_n 2 (E := E_M_joins d) (pc := 25) (cks_at k_M_joins 16 rfl rfl) rfl ?_
  refine tq_dup (E := E_M_joins d) (pc := 26) (cks_at k_M_joins 17 rfl rfl) rfl ?_
  refine tq_getI (E := E_M_joins d) (pc := 27) (cks_at k_M_joins 18 rfl rfl) fo_M_387 so_78 rfl (by decide) ?_
  refine tq_iconst (E := E_M_joins d) (pc := 30) (cks_at k_M_joins 19 rfl rfl) ?_
  refine tq_isub (E := E_M_joins d) (pc := 31) (cks_at k_M_joins 20 rfl rfl) ?_
  refine tq_putI (E := E_M_joins d) (pc := 32) (cks_at k_M_joins 21 rfl rfl) fo_M_387 so_78 rfl po_12_43 (fun M1 => ?_)
  refine tq_iload_n 3 (E := E_M_joins d) (pc := 35) (cks_at k_M_joins 22 rfl rfl) rfl ?_
  refine tq_tsC (E := E_M_joins d) (pc := 36) (tgt := 72) (off := 36) (w := 1) 0 k_M_joins_36 (by decide) rfl (by decide) ?_ (fun h2 => ?_)
  · refine tq_aload_n 2 (E := E_M_joins d) (pc := 72) (cks_at k_M_joins 24 rfl rfl) rfl ?_
    refine tq_lload 0 (E := E_M_joins d) (pc := 73) (cks_at k_M_joins 25 rfl rfl) rfl ?_
    refine tq_lload_n 1 (E := E_M_joins d) (pc := 75) (cks_at k_M_joins 26 rfl rfl) rfl ?_
    refine tq_ladd (E := E_M_joins d) (pc := 76) (cks_at k_M_joins 27 rfl rfl) ?_
    refine tq_S1 (E := E_M_joins d) (pc := 77) (cks_at k_M_joins 28 rfl rfl) mk_M_clip lk_M_390 (Nat.le_of_ble_eq_true rfl) (c_M_clip (d + 0) ((M 106 (i32 ((M 78 43) - 2)).toNat) + (M 106 (i32 ((M 78 43) - 1)).toNat)) M1) (k_J fun r4 M3 => ?_)
    refine tq_V1 (E := E_M_joins d) (pc := 80) (cks_at k_M_joins 29 rfl rfl) mk_M_puts lk_M_394 rc_78 (Nat.le_of_ble_eq_true rfl) (c_M_puts (d + 0) r4 M3) (k_V fun M5 => ?_)
    refine tq_goto (tgt := 164) (E := E_M_joins d) (pc := 83) (cks_at k_M_joins 30 rfl rfl) (by decide) ?_
    exact tq_vret (E := E_M_joins d) (pc := 164) (cks_at k_M_joins 70 rfl rfl) rfl
  refine tq_tsC (E := E_M_joins d) (pc := 36) (tgt := 86) (off := 50) (w := 2) 1 k_M_joins_36 (by decide) rfl (by decide) ?_ (fun h6 => ?_)
  · refine tq_aload_n 2 (E := E_M_joins d) (pc := 86) (cks_at k_M_joins 31 rfl rfl) rfl ?_
    refine tq_lload 0 (E := E_M_joins d) (pc := 87) (cks_at k_M_joins 32 rfl rfl) rfl ?_
    refine tq_lload_n 1 (E := E_M_joins d) (pc := 89) (cks_at k_M_joins 33 rfl rfl) rfl ?_
    refine tq_lsub (E := E_M_joins d) (pc := 90) (cks_at k_M_joins 34 rfl rfl) ?_
    refine tq_S1 (E := E_M_joins d) (pc := 91) (cks_at k_M_joins 35 rfl rfl) mk_M_clip lk_M_390 (Nat.le_of_ble_eq_true rfl) (c_M_clip (d + 0) ((M 106 (i32 ((M 78 43) - 2)).toNat) - (M 106 (i32 ((M 78 43) - 1)).toNat)) M1) (k_J fun r8 M7 => ?_)
    refine tq_V1 (E := E_M_joins d) (pc := 94) (cks_at k_M_joins 36 rfl rfl) mk_M_puts lk_M_394 rc_78 (Nat.le_of_ble_eq_true rfl) (c_M_puts (d + 0) r8 M7) (k_V fun M9 => ?_)
    refine tq_goto (tgt := 164) (E := E_M_joins d) (pc := 97) (cks_at k_M_joins 37 rfl rfl) (by decide) ?_
    exact tq_vret (E := E_M_joins d) (pc := 164) (cks_at k_M_joins 70 rfl rfl) rfl
  refine tq_tsC (E := E_M_joins d) (pc := 36) (tgt := 100) (off := 64) (w := 3) 2 k_M_joins_36 (by decide) rfl (by decide) ?_ (fun h10 => ?_)
  · refine tq_aload_n 2 (E := E_M_joins d) (pc := 100) (cks_at k_M_joins 38 rfl rfl) rfl ?_
    refine tq_lload 0 (E := E_M_joins d) (pc := 101) (cks_at k_M_joins 39 rfl rfl) rfl ?_
    refine tq_lload_n 1 (E := E_M_joins d) (pc := 103) (cks_at k_M_joins 40 rfl rfl) rfl ?_
    refine tq_lmul (E := E_M_joins d) (pc := 104) (cks_at k_M_joins 41 rfl rfl) ?_
    refine tq_S1 (E := E_M_joins d) (pc := 105) (cks_at k_M_joins 42 rfl rfl) mk_M_clip lk_M_390 (Nat.le_of_ble_eq_true rfl) (c_M_clip (d + 0) ((M 106 (i32 ((M 78 43) - 2)).toNat) * (M 106 (i32 ((M 78 43) - 1)).toNat)) M1) (k_J fun r12 M11 => ?_)
    refine tq_V1 (E := E_M_joins d) (pc := 108) (cks_at k_M_joins 43 rfl rfl) mk_M_puts lk_M_394 rc_78 (Nat.le_of_ble_eq_true rfl) (c_M_puts (d + 0) r12 M11) (k_V fun M13 => ?_)
    refine tq_goto (tgt := 164) (E := E_M_joins d) (pc := 111) (cks_at k_M_joins 44 rfl rfl) (by decide) ?_
    exact tq_vret (E := E_M_joins d) (pc := 164) (cks_at k_M_joins 70 rfl rfl) rfl
  refine tq_tsC (E := E_M_joins d) (pc := 36) (tgt := 114) (off := 78) (w := 4) 3 k_M_joins_36 (by decide) rfl (by decide) ?_ (fun h14 => ?_)
  · refine tq_aload_n 2 (E := E_M_joins d) (pc := 114) (cks_at k_M_joins 45 rfl rfl) rfl ?_
    refine tq_lload 0 (E := E_M_joins d) (pc := 115) (cks_at k_M_joins 46 rfl rfl) rfl ?_
    refine tq_lload_n 1 (E := E_M_joins d) (pc := 117) (cks_at k_M_joins 47 rfl rfl) rfl ?_
    refine tq_S2 (E := E_M_joins d) (pc := 118) (cks_at k_M_joins 48 rfl rfl) mk_M_floor lk_M_398 (Nat.le_of_ble_eq_true rfl) (c_M_floor (d + 0) (M 106 (i32 ((M 78 43) - 2)).toNat) (M 106 (i32 ((M 78 43) - 1)).toNat) M1) (k_J fun r16 M15 => ?_)
    refine tq_V1 (E := E_M_joins d) (pc := 121) (cks_at k_M_joins 49 rfl rfl) mk_M_puts lk_M_394 rc_78 (Nat.le_of_ble_eq_true rfl) (c_M_puts (d + 0) r16 M15) (k_V fun M17 => ?_)
    refine tq_goto (tgt := 164) (E := E_M_joins d) (pc := 124) (cks_at k_M_joins 50 rfl rfl) (by decide) ?_
    exact tq_vret (E := E_M_joins d) (pc := 164) (cks_at k_M_joins 70 rfl rfl) rfl
  refine tq_tsC (E := E_M_joins d) (pc := 36) (tgt := 127) (off := 91) (w := 5) 4 k_M_joins_36 (by decide) rfl (by decide) ?_ (fun h18 => ?_)
  · refine tq_aload_n 2 (E := E_M_joins d) (pc := 127) (cks_at k_M_joins 51 rfl rfl) rfl ?_
    refine tq_lload 0 (E := E_M_joins d) (pc := 128) (cks_at k_M_joins 52 rfl rfl) rfl ?_
    refine tq_lload_n 1 (E := E_M_joins d) (pc := 130) (cks_at k_M_joins 53 rfl rfl) rfl ?_
    refine tq_lcmp (E := E_M_joins d) (pc := 131) (cks_at k_M_joins 54 rfl rfl) ?_
    refine tq_if_ge (E := E_M_joins d) (pc := 132) (tgt := 140) (cks_at k_M_joins 55 rfl rfl) (by decide) ?_ ?_
    · refine tq_lload_n 1 (E := E_M_joins d) (pc := 140) (cks_at k_M_joins 58 rfl rfl) rfl ?_
      refine tq_V1 (E := E_M_joins d) (pc := 141) (cks_at k_M_joins 59 rfl rfl) mk_M_puts lk_M_394 rc_78 (Nat.le_of_ble_eq_true rfl) (c_M_puts (d + 0) (M 106 (i32 ((M 78 43) - 1)).toNat) M1) (k_V fun M19 => ?_)
      refine tq_goto (tgt := 164) (E := E_M_joins d) (pc := 144) (cks_at k_M_joins 60 rfl rfl) (by decide) ?_
      exact tq_vret (E := E_M_joins d) (pc := 164) (cks_at k_M_joins 70 rfl rfl) rfl
    · refine tq_lload 0 (E := E_M_joins d) (pc := 135) (cks_at k_M_joins 56 rfl rfl) rfl ?_
      refine tq_goto (tgt := 141) (E := E_M_joins d) (pc := 137) (cks_at k_M_joins 57 rfl rfl) (by decide) ?_
      refine tq_V1 (E := E_M_joins d) (pc := 141) (cks_at k_M_joins 59 rfl rfl) mk_M_puts lk_M_394 rc_78 (Nat.le_of_ble_eq_true rfl) (c_M_puts (d + 0) (M 106 (i32 ((M 78 43) - 2)).toNat) M1) (k_V fun M20 => ?_)
      refine tq_goto (tgt := 164) (E := E_M_joins d) (pc := 144) (cks_at k_M_joins 60 rfl rfl) (by decide) ?_
      exact tq_vret (E := E_M_joins d) (pc := 164) (cks_at k_M_joins 70 rfl rfl) rfl
  refine tq_tsD (E := E_M_joins d) (pc := 36) (tgt := 147) k_M_joins_36 (by omega) (by decide) ?_
  refine tq_aload_n 2 (E := E_M_joins d) (pc := 147) (cks_at k_M_joins 61 rfl rfl) rfl ?_
  refine tq_lload 0 (E := E_M_joins d) (pc := 148) (cks_at k_M_joins 62 rfl rfl) rfl ?_
  refine tq_lload_n 1 (E := E_M_joins d) (pc := 150) (cks_at k_M_joins 63 rfl rfl) rfl ?_
  refine tq_lcmp (E := E_M_joins d) (pc := 151) (cks_at k_M_joins 64 rfl rfl) ?_
  refine tq_if_le (E := E_M_joins d) (pc := 152) (tgt := 160) (cks_at k_M_joins 65 rfl rfl) (by decide) ?_ ?_
  · refine tq_lload_n 1 (E := E_M_joins d) (pc := 160) (cks_at k_M_joins 68 rfl rfl) rfl ?_
    refine tq_V1 (E := E_M_joins d) (pc := 161) (cks_at k_M_joins 69 rfl rfl) mk_M_puts lk_M_394 rc_78 (Nat.le_of_ble_eq_true rfl) (c_M_puts (d + 0) (M 106 (i32 ((M 78 43) - 1)).toNat) M1) (k_V fun M21 => ?_)
    exact tq_vret (E := E_M_joins d) (pc := 164) (cks_at k_M_joins 70 rfl rfl) rfl
  · refine tq_lload 0 (E := E_M_joins d) (pc := 155) (cks_at k_M_joins 66 rfl rfl) rfl ?_
    refine tq_goto (tgt := 161) (E := E_M_joins d) (pc := 157) (cks_at k_M_joins 67 rfl rfl) (by decide) ?_
    refine tq_V1 (E := E_M_joins d) (pc := 161) (cks_at k_M_joins 69 rfl rfl) mk_M_puts lk_M_394 rc_78 (Nat.le_of_ble_eq_true rfl) (c_M_puts (d + 0) (M 106 (i32 ((M 78 43) - 2)).toNat) M1) (k_V fun M22 => ?_)
    exact tq_vret (E := E_M_joins d) (pc := 164) (cks_at k_M_joins 70 rfl rfl) rfl
abbrev E_M_told (d : Nat) : Ev := (Ct (d + 2), "BreathTownModel", prog_14_method_42_code, 5, False, 0, (fun _ => 0), (Option.some Jvm.ClassFile.FieldType.long))
def f_M_told_B7 (kH : Int → Int → Mm → Option (Int × Mm)) (v2 v3 : Int) (M : Mm) : Option (Int × Mm) :=
  if i32 v2 ≤ i32 v3 then
    some (M 106 0, M)
  else
    gd (0 ≤ i32 (1600 + v3) ∧ i32 (1600 + v3) < ((3200 : Nat) : Int)) <|
    if i32 (M 102 (i32 (1600 + v3)).toNat) < i32 1000 then
      bI (f_M_isIn (i32 (M 102 (i32 (1600 + v3)).toNat)) 7 10 M) (fun r3 M2 =>
      if i32 r3 = 0 then
        bV (f_M_joins (M 102 (i32 (1600 + v3)).toNat) M2) (fun M4 =>
        kH v2 (v3 + 1) M4)
      else
        gd (0 ≤ i32 ((M 102 (i32 (1600 + v3)).toNat) - 7) ∧ i32 ((M 102 (i32 (1600 + v3)).toNat) - 7) < ((4 : Nat) : Int)) <|
        bV (f_M_puts (i32 (M2 107 (i32 ((M 102 (i32 (1600 + v3)).toNat) - 7)).toNat)) M2) (fun M5 =>
        kH v2 (v3 + 1) M5))
    else
      bV (f_M_puts (i32 ((M 102 (i32 (1600 + v3)).toNat) - 1000)) M) (fun M6 =>
      kH v2 (v3 + 1) M6)
set_option maxRecDepth 20000 in
set_option maxHeartbeats 4000000 in
theorem w_M_told_B7 (d : Nat) (kH : Int → Int → Mm → Option (Int × Mm)) (hkH : ∀ (v2 v3 : Int) (M : Mm), T (E_M_told d) injJ 7 [(0, .ref 78), (2, vI v2), (3, vI v3)] [] M (kH v2 v3 M)) (v2 v3 : Int) (M : Mm) : T (E_M_told d) injJ 7 [(0, .ref 78), (2, vI v2), (3, vI v3)] [] M (f_M_told_B7 kH v2 v3 M) := by
  unfold f_M_told_B7
  refine tq_iload_n 2 (E := E_M_told d) (pc := 7) (cks_at k_M_told 5 rfl rfl) rfl ?_
  refine tq_iload_n 1 (E := E_M_told d) (pc := 8) (cks_at k_M_told 6 rfl rfl) rfl ?_
  refine tq_icmp_ge (E := E_M_told d) (pc := 9) (tgt := 91) (cks_at k_M_told 7 rfl rfl) (by decide) ?_ ?_
  · refine tq_aload_n 0 (E := E_M_told d) (pc := 91) (cks_at k_M_told 46 rfl rfl) rfl ?_
    refine tq_getR (j := 106) (E := E_M_told d) (pc := 92) (cks_at k_M_told 47 rfl rfl) fo_M_97 so_78 rfl sp_78_42 ?_
    refine tq_iconst (E := E_M_told d) (pc := 95) (cks_at k_M_told 48 rfl rfl) ?_
    refine tq_laldC 0 (E := E_M_told d) (pc := 96) (cks_at k_M_told 49 rfl rfl) sa_106 sn_106 (by decide) ?_
    exact tq_lret (E := E_M_told d) (pc := 97) (cks_at k_M_told 50 rfl rfl) rfl
  · refine tq_aload_n 0 (E := E_M_told d) (pc := 12) (cks_at k_M_told 8 rfl rfl) rfl ?_
    refine tq_getR (j := 102) (E := E_M_told d) (pc := 13) (cks_at k_M_told 9 rfl rfl) fo_M_85 so_78 rfl sp_78_34 ?_
    refine tq_sipush (E := E_M_told d) (pc := 16) (cks_at k_M_told 10 rfl rfl) (by decide) (by decide) ?_
    refine tq_iload_n 2 (E := E_M_told d) (pc := 19) (cks_at k_M_told 11 rfl rfl) rfl ?_
    refine tq_iadd (E := E_M_told d) (pc := 20) (cks_at k_M_told 12 rfl rfl) ?_
    refine tq_iald (E := E_M_told d) (pc := 21) (cks_at k_M_told 13 rfl rfl) sa_102 sn_102 ?_
    refine tq_istore (E := E_M_told d) (pc := 22) (cks_at k_M_told 14 rfl rfl) (show 4 < 5 by decide) rfl ?_
    refine tq_iload 0 (E := E_M_told d) (pc := 24) (cks_at k_M_told 15 rfl rfl) rfl ?_
    refine tq_sipush (E := E_M_told d) (pc := 26) (cks_at k_M_told 16 rfl rfl) (by decide) (by decide) ?_
    refine tq_icmp_lt (E := E_M_told d) (pc := 29) (tgt := 46) (cks_at k_M_told 17 rfl rfl) (by decide) ?_ ?_
    · refine tq_iload 0 (E := E_M_told d) (pc := 46) (cks_at k_M_told 25 rfl rfl) rfl ?_
      refine tq_i2l (E := E_M_told d) (pc := 48) (cks_at k_M_told 26 rfl rfl) ?_
      refine tq_ldc2 (z := 7) (E := E_M_told d) (pc := 49) (cks_at k_M_told 27 rfl rfl) cst_M_402 ?_
      refine tq_ldc2 (z := 10) (E := E_M_told d) (pc := 52) (cks_at k_M_told 28 rfl rfl) cst_M_404 ?_
      refine tq_S3 (E := E_M_told d) (pc := 55) (cks_at k_M_told 29 rfl rfl) mk_M_isIn lk_M_265 (Nat.le_of_ble_eq_true rfl) (c_M_isIn (d + 1) (i32 (M 102 (i32 (1600 + v3)).toNat)) 7 10 M) (k_I fun r3 M2 => ?_)
      refine tq_if_eq (E := E_M_told d) (pc := 58) (tgt := 79) (cks_at k_M_told 30 rfl rfl) (by decide) ?_ ?_
      · refine tq_aload_n 1 (E := E_M_told d) (pc := 79) (cks_at k_M_told 41 rfl rfl) rfl ?_
        refine tq_iload 0 (E := E_M_told d) (pc := 80) (cks_at k_M_told 42 rfl rfl) rfl ?_
        refine tq_V1 (E := E_M_told d) (pc := 82) (cks_at k_M_told 43 rfl rfl) mk_M_joins lk_M_406 rc_78 (Nat.le_of_ble_eq_true rfl) (c_M_joins (d + 0) (M 102 (i32 (1600 + v3)).toNat) M2) (k_V fun M4 => ?_)
        refine tq_iinc 3 (E := E_M_told d) (pc := 85) (cks_at k_M_told 44 rfl rfl) rfl (show 3 < 5 by decide) rfl ?_
        refine tq_goto (tgt := 7) (E := E_M_told d) (pc := 88) (cks_at k_M_told 45 rfl rfl) (by decide) ?_
        exact tq_sub [2, 3, 0] rfl (hkH v2 (v3 + 1) M4)
      · refine tq_aload_n 1 (E := E_M_told d) (pc := 61) (cks_at k_M_told 31 rfl rfl) rfl ?_
        refine tq_aload_n 1 (E := E_M_told d) (pc := 62) (cks_at k_M_told 32 rfl rfl) rfl ?_
        refine tq_getR (j := 107) (E := E_M_told d) (pc := 63) (cks_at k_M_told 33 rfl rfl) fo_M_100 so_78 rfl sp_78_44 ?_
        refine tq_iload 0 (E := E_M_told d) (pc := 66) (cks_at k_M_told 34 rfl rfl) rfl ?_
        refine tq_bipush (E := E_M_told d) (pc := 68) (cks_at k_M_told 35 rfl rfl) (by decide) (by decide) ?_
        refine tq_isub (E := E_M_told d) (pc := 70) (cks_at k_M_told 36 rfl rfl) ?_
        refine tq_iald (E := E_M_told d) (pc := 71) (cks_at k_M_told 37 rfl rfl) sa_107 sn_107 ?_
        refine tq_i2l (E := E_M_told d) (pc := 72) (cks_at k_M_told 38 rfl rfl) ?_
        refine tq_V1 (E := E_M_told d) (pc := 73) (cks_at k_M_told 39 rfl rfl) mk_M_puts lk_M_394 rc_78 (Nat.le_of_ble_eq_true rfl) (c_M_puts (d + 1) (i32 (M2 107 (i32 ((M 102 (i32 (1600 + v3)).toNat) - 7)).toNat)) M2) (k_V fun M5 => ?_)
        refine tq_goto (tgt := 85) (E := E_M_told d) (pc := 76) (cks_at k_M_told 40 rfl rfl) (by decide) ?_
        refine tq_iinc 3 (E := E_M_told d) (pc := 85) (cks_at k_M_told 44 rfl rfl) rfl (show 3 < 5 by decide) rfl ?_
        refine tq_goto (tgt := 7) (E := E_M_told d) (pc := 88) (cks_at k_M_told 45 rfl rfl) (by decide) ?_
        exact tq_sub [2, 3, 0] rfl (hkH v2 (v3 + 1) M5)
    · refine tq_aload_n 1 (E := E_M_told d) (pc := 32) (cks_at k_M_told 18 rfl rfl) rfl ?_
      refine tq_iload 0 (E := E_M_told d) (pc := 33) (cks_at k_M_told 19 rfl rfl) rfl ?_
      refine tq_sipush (E := E_M_told d) (pc := 35) (cks_at k_M_told 20 rfl rfl) (by decide) (by decide) ?_
      refine tq_isub (E := E_M_told d) (pc := 38) (cks_at k_M_told 21 rfl rfl) ?_
      refine tq_i2l (E := E_M_told d) (pc := 39) (cks_at k_M_told 22 rfl rfl) ?_
      refine tq_V1 (E := E_M_told d) (pc := 40) (cks_at k_M_told 23 rfl rfl) mk_M_puts lk_M_394 rc_78 (Nat.le_of_ble_eq_true rfl) (c_M_puts (d + 1) (i32 ((M 102 (i32 (1600 + v3)).toNat) - 1000)) M) (k_V fun M6 => ?_)
      refine tq_goto (tgt := 85) (E := E_M_told d) (pc := 43) (cks_at k_M_told 24 rfl rfl) (by decide) ?_
      refine tq_iinc 3 (E := E_M_told d) (pc := 85) (cks_at k_M_told 44 rfl rfl) rfl (show 3 < 5 by decide) rfl ?_
      refine tq_goto (tgt := 7) (E := E_M_told d) (pc := 88) (cks_at k_M_told 45 rfl rfl) (by decide) ?_
      exact tq_sub [2, 3, 0] rfl (hkH v2 (v3 + 1) M6)
def f_M_told_L7 : Nat → Int × Int × Mm → Option (Int × Mm) := lp fun kH s => f_M_told_B7 (fun v2 v3 M => kH (v2, v3, M)) s.1 s.2.1 s.2.2
set_option maxRecDepth 20000 in
set_option maxHeartbeats 4000000 in
theorem w_M_told_L7 (d : Nat) (n : Nat) (s : Int × Int × Mm) : T (E_M_told d) injJ 7 [(0, .ref 78), (2, vI s.1), (3, vI s.2.1)] [] s.2.2 (f_M_told_L7 n s) :=
  tq_lp (fun s => [(0, .ref 78), (2, vI s.1), (3, vI s.2.1)]) (fun s => s.2.2) (fun kH hH s => w_M_told_B7 d (fun v2 v3 M => kH (v2, v3, M)) (fun v2 v3 M => hH (v2, v3, M)) s.1 s.2.1 s.2.2) n s
def f_M_told (v1 : Int) (v2 : Int) (M : Mm) : Option (Int × Mm) :=
  bd (up M 78 43 0) (fun M1 =>
  f_M_told_L7 FU (v2, v1, M1))
set_option maxRecDepth 20000 in
set_option maxHeartbeats 4000000 in
theorem c_M_told (d : Nat) (v1 : Int) (v2 : Int) (M : Mm) (Q : Option Value → Mm → Prop) (h : sat injJ (f_M_told v1 v2 M) Q) : Ct (d + 3) y_M_told [.ref 78, vI v1, vI v2] M Q := by
  refine ct_in (d := d + 2) mk_M_told (Nat.le_of_ble_eq_true rfl) (?_ : T (E_M_told d) injJ 0 [(0, .ref 78), (1, vI v1), (2, vI v2)] [] M (f_M_told v1 v2 M)) h
  unfold f_M_told
  refine tq_aload_n 0 (E := E_M_told d) (pc := 0) (cks_at k_M_told 0 rfl rfl) rfl ?_
  refine tq_iconst (E := E_M_told d) (pc := 1) (cks_at k_M_told 1 rfl rfl) ?_
  refine tq_putI (E := E_M_told d) (pc := 2) (cks_at k_M_told 2 rfl rfl) fo_M_387 so_78 rfl po_12_43 (fun M1 => ?_)
  refine tq_iload_n 1 (E := E_M_told d) (pc := 5) (cks_at k_M_told 3 rfl rfl) rfl ?_
  refine tq_istore_n (E := E_M_told d) (pc := 6) (cks_at k_M_told 4 rfl rfl) (show 3 < 5 by decide) rfl ?_
  exact tq_sub [1, 3, 0] rfl (w_M_told_L7 d FU (v2, v1, M1))
