abbrev E_M_roundOf (d : Nat) : Ev := (Ct (d + 0), "BreathTownModel", prog_14_method_51_code, 2, False, 0, (fun _ => 0), (Option.some Jvm.ClassFile.FieldType.int))
def f_M_roundOf (v1 : Int) (M : Mm) : Option (Int × Mm) :=
  gd (0 ≤ i32 ((60 + (5 * v1)) + 3) ∧ i32 ((60 + (5 * v1)) + 3) < ((120 : Nat) : Int)) <|
  some (M 100 (i32 ((60 + (5 * v1)) + 3)).toNat, M)
set_option maxRecDepth 20000 in
set_option maxHeartbeats 4000000 in
theorem c_M_roundOf (d : Nat) (v1 : Int) (M : Mm) (Q : Option Value → Mm → Prop) (h : sat injI (f_M_roundOf v1 M) Q) : Ct (d + 1) y_M_roundOf [.ref 78, vI v1] M Q := by
  refine ct_in (d := d + 0) mk_M_roundOf (Nat.le_of_ble_eq_true rfl) (?_ : T (E_M_roundOf d) injI 0 [(0, .ref 78), (1, vI v1)] [] M (f_M_roundOf v1 M)) h
  unfold f_M_roundOf
  refine tq_aload_n 0 (E := E_M_roundOf d) (pc := 0) (cks_at k_M_roundOf 0 rfl rfl) rfl ?_
  refine tq_getR (j := 100) (E := E_M_roundOf d) (pc := 1) (cks_at k_M_roundOf 1 rfl rfl) fo_M_79 so_78 rfl sp_78_30 ?_
  refine tq_bipush (E := E_M_roundOf d) (pc := 4) (cks_at k_M_roundOf 2 rfl rfl) (by decide) (by decide) ?_
  refine tq_iconst (E := E_M_roundOf d) (pc := 6) (cks_at k_M_roundOf 3 rfl rfl) ?_
  refine tq_iload_n 1 (E := E_M_roundOf d) (pc := 7) (cks_at k_M_roundOf 4 rfl rfl) rfl ?_
  refine tq_imul (E := E_M_roundOf d) (pc := 8) (cks_at k_M_roundOf 5 rfl rfl) ?_
  refine tq_iadd (E := E_M_roundOf d) (pc := 9) (cks_at k_M_roundOf 6 rfl rfl) ?_
  refine tq_iconst (E := E_M_roundOf d) (pc := 10) (cks_at k_M_roundOf 7 rfl rfl) ?_
  refine tq_iadd (E := E_M_roundOf d) (pc := 11) (cks_at k_M_roundOf 8 rfl rfl) ?_
  refine tq_iald (E := E_M_roundOf d) (pc := 12) (cks_at k_M_roundOf 9 rfl rfl) sa_100 sn_100 ?_
  exact tq_iret (E := E_M_roundOf d) (pc := 13) (cks_at k_M_roundOf 10 rfl rfl) rfl
abbrev E_M_isTold (d : Nat) : Ev := (Ct (d + 1), "BreathTownModel", prog_14_method_150_code, 8, False, 0, (fun _ => 0), (Option.some Jvm.ClassFile.FieldType.boolean))
def f_M_isTold_B69 (kH : Int → Int → Mm → Option (Int × Mm)) (kx101 : Int → Mm → Option (Int × Mm)) (v2 v3 : Int) (M : Mm) : Option (Int × Mm) :=
  bI (f_M_streetMany M) (fun r8 M7 =>
  if i32 r8 ≤ i32 v3 then
    kx101 v2 M7
  else
    gd (0 ≤ i32 (2 + v3) ∧ i32 (2 + v3) < ((1600 : Nat) : Int)) <|
    bI (f_M_roundOf v3 M7) (fun r10 M9 =>
    if i32 (M7 79 (i32 (2 + v3)).toNat) < i32 r10 then
      kH v2 (v3 + 1) M9
    else
      some (0, M9)))
set_option maxRecDepth 20000 in
set_option maxHeartbeats 4000000 in
theorem w_M_isTold_B69 (d : Nat) (kH : Int → Int → Mm → Option (Int × Mm)) (kx101 : Int → Mm → Option (Int × Mm)) (hkH : ∀ (v2 v3 : Int) (M : Mm), T (E_M_isTold d) injI 69 [(0, .ref 78), (2, vI v2), (3, vI v3)] [] M (kH v2 v3 M)) (hkx101 : ∀ (v2 : Int) (M : Mm), T (E_M_isTold d) injI 101 [(0, .ref 78), (2, vI v2)] [] M (kx101 v2 M)) (v2 v3 : Int) (M : Mm) : T (E_M_isTold d) injI 69 [(0, .ref 78), (2, vI v2), (3, vI v3)] [] M (f_M_isTold_B69 kH kx101 v2 v3 M) := by
  unfold f_M_isTold_B69
  refine tq_iload_n 2 (E := E_M_isTold d) (pc := 69) (cks_at k_M_isTold 45 rfl rfl) rfl ?_
  refine tq_aload_n 0 (E := E_M_isTold d) (pc := 70) (cks_at k_M_isTold 46 rfl rfl) rfl ?_
  refine tq_V0 (E := E_M_isTold d) (pc := 71) (cks_at k_M_isTold 47 rfl rfl) mk_M_streetMany lk_M_412 rc_78 (Nat.le_of_ble_eq_true rfl) (c_M_streetMany (d + 0) M) (k_I fun r8 M7 => ?_)
  refine tq_icmp_ge (E := E_M_isTold d) (pc := 74) (tgt := 101) (cks_at k_M_isTold 48 rfl rfl) (by decide) ?_ ?_
  · exact tq_sub [0, 1] rfl (hkx101 v2 M7)
  · refine tq_aload_n 0 (E := E_M_isTold d) (pc := 77) (cks_at k_M_isTold 49 rfl rfl) rfl ?_
    refine tq_getR (j := 79) (E := E_M_isTold d) (pc := 78) (cks_at k_M_isTold 50 rfl rfl) fo_M_7 so_78 rfl sp_78_0 ?_
    refine tq_iconst (E := E_M_isTold d) (pc := 81) (cks_at k_M_isTold 51 rfl rfl) ?_
    refine tq_iload_n 2 (E := E_M_isTold d) (pc := 82) (cks_at k_M_isTold 52 rfl rfl) rfl ?_
    refine tq_iadd (E := E_M_isTold d) (pc := 83) (cks_at k_M_isTold 53 rfl rfl) ?_
    refine tq_iald (E := E_M_isTold d) (pc := 84) (cks_at k_M_isTold 54 rfl rfl) sa_79 sn_79 ?_
    refine tq_aload_n 0 (E := E_M_isTold d) (pc := 85) (cks_at k_M_isTold 55 rfl rfl) rfl ?_
    refine tq_iload_n 2 (E := E_M_isTold d) (pc := 86) (cks_at k_M_isTold 56 rfl rfl) rfl ?_
    refine tq_V1 (E := E_M_isTold d) (pc := 87) (cks_at k_M_isTold 57 rfl rfl) mk_M_roundOf lk_M_418 rc_78 (Nat.le_of_ble_eq_true rfl) (c_M_roundOf (d + 0) v3 M7) (k_I fun r10 M9 => ?_)
    refine tq_icmp_lt (E := E_M_isTold d) (pc := 90) (tgt := 95) (cks_at k_M_isTold 58 rfl rfl) (by decide) ?_ ?_
    · refine tq_iinc 2 (E := E_M_isTold d) (pc := 95) (cks_at k_M_isTold 61 rfl rfl) rfl (show 3 < 8 by decide) rfl ?_
      refine tq_goto (tgt := 69) (E := E_M_isTold d) (pc := 98) (cks_at k_M_isTold 62 rfl rfl) (by decide) ?_
      exact tq_sub [1, 2, 0] rfl (hkH v2 (v3 + 1) M9)
    · refine tq_iconst (E := E_M_isTold d) (pc := 93) (cks_at k_M_isTold 59 rfl rfl) ?_
      exact tq_zretC (E := E_M_isTold d) (pc := 94) (cks_at k_M_isTold 60 rfl rfl) rfl (by decide)
def f_M_isTold_L69 (kx101 : Int → Mm → Option (Int × Mm)) : Nat → Int × Int × Mm → Option (Int × Mm) := lp fun kH s => f_M_isTold_B69 (fun v2 v3 M => kH (v2, v3, M)) kx101 s.1 s.2.1 s.2.2
set_option maxRecDepth 20000 in
set_option maxHeartbeats 4000000 in
theorem w_M_isTold_L69 (d : Nat) (kx101 : Int → Mm → Option (Int × Mm)) (hkx101 : ∀ (v2 : Int) (M : Mm), T (E_M_isTold d) injI 101 [(0, .ref 78), (2, vI v2)] [] M (kx101 v2 M)) (n : Nat) (s : Int × Int × Mm) : T (E_M_isTold d) injI 69 [(0, .ref 78), (2, vI s.1), (3, vI s.2.1)] [] s.2.2 (f_M_isTold_L69 kx101 n s) :=
  tq_lp (fun s => [(0, .ref 78), (2, vI s.1), (3, vI s.2.1)]) (fun s => s.2.2) (fun kH hH s => w_M_isTold_B69 d (fun v2 v3 M => kH (v2, v3, M)) kx101 (fun v2 v3 M => hH (v2, v3, M)) hkx101 s.1 s.2.1 s.2.2) n s
def f_M_isTold_J205 (kH : Int → Int → Mm → Option (Int × Mm)) (v2 v3 v4 s0 : Int) (M : Mm) : Option (Int × Mm) :=
  if i32 s0 = 0 then
    some (0, M)
  else
    gd (0 ≤ i32 (v4 + 2) ∧ i32 (v4 + 2) < ((1600 : Nat) : Int)) <|
    gd (0 ≤ i32 (v4 + 3) ∧ i32 (v4 + 3) < ((1600 : Nat) : Int)) <|
    if i32 ((256 * (M 79 (i32 (v4 + 2)).toNat)) + (M 79 (i32 (v4 + 3)).toNat)) ≤ i32 9999 then
      kH v2 (v3 + 1) M
    else
      some (0, M)
set_option maxRecDepth 20000 in
set_option maxHeartbeats 4000000 in
theorem w_M_isTold_J205 (d : Nat) (kH : Int → Int → Mm → Option (Int × Mm)) (hkH : ∀ (v2 v3 : Int) (M : Mm), T (E_M_isTold d) injI 103 [(0, .ref 78), (2, vI v2), (3, vI v3)] [] M (kH v2 v3 M)) (v2 v3 v4 s0 : Int) (M : Mm) : T (E_M_isTold d) injI 205 [(0, .ref 78), (2, vI v2), (3, vI v3), (4, vI v4)] [vI s0] M (f_M_isTold_J205 kH v2 v3 v4 s0 M) := by
  unfold f_M_isTold_J205
  refine tq_istore (E := E_M_isTold d) (pc := 205) (cks_at k_M_isTold 128 rfl rfl) (show 7 < 8 by decide) rfl ?_
  refine tq_iload 0 (E := E_M_isTold d) (pc := 207) (cks_at k_M_isTold 129 rfl rfl) rfl ?_
  refine tq_if_eq (E := E_M_isTold d) (pc := 209) (tgt := 241) (cks_at k_M_isTold 130 rfl rfl) (by decide) ?_ ?_
  · refine tq_iconst (E := E_M_isTold d) (pc := 241) (cks_at k_M_isTold 148 rfl rfl) ?_
    exact tq_zretC (E := E_M_isTold d) (pc := 242) (cks_at k_M_isTold 149 rfl rfl) rfl (by decide)
  · refine tq_sipush (E := E_M_isTold d) (pc := 212) (cks_at k_M_isTold 131 rfl rfl) (by decide) (by decide) ?_
    refine tq_aload_n 1 (E := E_M_isTold d) (pc := 215) (cks_at k_M_isTold 132 rfl rfl) rfl ?_
    refine tq_getR (j := 79) (E := E_M_isTold d) (pc := 216) (cks_at k_M_isTold 133 rfl rfl) fo_M_7 so_78 rfl sp_78_0 ?_
    refine tq_iload 4 (E := E_M_isTold d) (pc := 219) (cks_at k_M_isTold 134 rfl rfl) rfl ?_
    refine tq_iconst (E := E_M_isTold d) (pc := 221) (cks_at k_M_isTold 135 rfl rfl) ?_
    refine tq_iadd (E := E_M_isTold d) (pc := 222) (cks_at k_M_isTold 136 rfl rfl) ?_
    refine tq_iald (E := E_M_isTold d) (pc := 223) (cks_at k_M_isTold 137 rfl rfl) sa_79 sn_79 ?_
    refine tq_imul (E := E_M_isTold d) (pc := 224) (cks_at k_M_isTold 138 rfl rfl) ?_
    refine tq_aload_n 1 (E := E_M_isTold d) (pc := 225) (cks_at k_M_isTold 139 rfl rfl) rfl ?_
    refine tq_getR (j := 79) (E := E_M_isTold d) (pc := 226) (cks_at k_M_isTold 140 rfl rfl) fo_M_7 so_78 rfl sp_78_0 ?_
    refine tq_iload 4 (E := E_M_isTold d) (pc := 229) (cks_at k_M_isTold 141 rfl rfl) rfl ?_
    refine tq_iconst (E := E_M_isTold d) (pc := 231) (cks_at k_M_isTold 142 rfl rfl) ?_
    refine tq_iadd (E := E_M_isTold d) (pc := 232) (cks_at k_M_isTold 143 rfl rfl) ?_
    refine tq_iald (E := E_M_isTold d) (pc := 233) (cks_at k_M_isTold 144 rfl rfl) sa_79 sn_79 ?_
    refine tq_iadd (E := E_M_isTold d) (pc := 234) (cks_at k_M_isTold 145 rfl rfl) ?_
    refine tq_sipush (E := E_M_isTold d) (pc := 235) (cks_at k_M_isTold 146 rfl rfl) (by decide) (by decide) ?_
    refine tq_icmp_le (E := E_M_isTold d) (pc := 238) (tgt := 243) (cks_at k_M_isTold 147 rfl rfl) (by decide) ?_ ?_
    · refine tq_iinc 3 (E := E_M_isTold d) (pc := 243) (cks_at k_M_isTold 150 rfl rfl) rfl (show 3 < 8 by decide) rfl ?_
      refine tq_goto (tgt := 103) (E := E_M_isTold d) (pc := 246) (cks_at k_M_isTold 151 rfl rfl) (by decide) ?_
      exact tq_sub [2, 3, 0] rfl (hkH v2 (v3 + 1) M)
    · refine tq_iconst (E := E_M_isTold d) (pc := 241) (cks_at k_M_isTold 148 rfl rfl) ?_
      exact tq_zretC (E := E_M_isTold d) (pc := 242) (cks_at k_M_isTold 149 rfl rfl) rfl (by decide)
def f_M_isTold_J174 (kH : Int → Int → Mm → Option (Int × Mm)) (v2 v3 v4 v5 v6 : Int) (M : Mm) : Option (Int × Mm) :=
  gd (0 ≤ i32 v4 ∧ i32 v4 < ((1600 : Nat) : Int)) <|
  if ¬ i32 (M 79 (i32 v4).toNat) = i32 v6 then
    f_M_isTold_J205 kH v2 v3 v4 0 M
  else
    gd (0 ≤ i32 (v4 + 1) ∧ i32 (v4 + 1) < ((1600 : Nat) : Int)) <|
    if ¬ i32 (M 79 (i32 (v4 + 1)).toNat) = i32 v5 then
      f_M_isTold_J205 kH v2 v3 v4 0 M
    else
      f_M_isTold_J205 kH v2 v3 v4 1 M
set_option maxRecDepth 20000 in
set_option maxHeartbeats 4000000 in
theorem w_M_isTold_J174 (d : Nat) (kH : Int → Int → Mm → Option (Int × Mm)) (hkH : ∀ (v2 v3 : Int) (M : Mm), T (E_M_isTold d) injI 103 [(0, .ref 78), (2, vI v2), (3, vI v3)] [] M (kH v2 v3 M)) (v2 v3 v4 v5 v6 : Int) (M : Mm) : T (E_M_isTold d) injI 174 [(0, .ref 78), (2, vI v2), (3, vI v3), (4, vI v4), (5, vI v5), (6, vI v6)] [] M (f_M_isTold_J174 kH v2 v3 v4 v5 v6 M) := by
  unfold f_M_isTold_J174
  refine tq_aload_n 0 (E := E_M_isTold d) (pc := 174) (cks_at k_M_isTold 111 rfl rfl) rfl ?_
  refine tq_getR (j := 79) (E := E_M_isTold d) (pc := 175) (cks_at k_M_isTold 112 rfl rfl) fo_M_7 so_78 rfl sp_78_0 ?_
  refine tq_iload 3 (E := E_M_isTold d) (pc := 178) (cks_at k_M_isTold 113 rfl rfl) rfl ?_
  refine tq_iald (E := E_M_isTold d) (pc := 180) (cks_at k_M_isTold 114 rfl rfl) sa_79 sn_79 ?_
  refine tq_iload 5 (E := E_M_isTold d) (pc := 181) (cks_at k_M_isTold 115 rfl rfl) rfl ?_
  refine tq_icmp_ne (E := E_M_isTold d) (pc := 183) (tgt := 204) (cks_at k_M_isTold 116 rfl rfl) (by decide) ?_ ?_
  · refine tq_iconst (E := E_M_isTold d) (pc := 204) (cks_at k_M_isTold 127 rfl rfl) ?_
    exact tq_sub [0, 1, 2, 3] rfl (w_M_isTold_J205 d kH hkH v2 v3 v4 0 M)
  · refine tq_aload_n 0 (E := E_M_isTold d) (pc := 186) (cks_at k_M_isTold 117 rfl rfl) rfl ?_
    refine tq_getR (j := 79) (E := E_M_isTold d) (pc := 187) (cks_at k_M_isTold 118 rfl rfl) fo_M_7 so_78 rfl sp_78_0 ?_
    refine tq_iload 3 (E := E_M_isTold d) (pc := 190) (cks_at k_M_isTold 119 rfl rfl) rfl ?_
    refine tq_iconst (E := E_M_isTold d) (pc := 192) (cks_at k_M_isTold 120 rfl rfl) ?_
    refine tq_iadd (E := E_M_isTold d) (pc := 193) (cks_at k_M_isTold 121 rfl rfl) ?_
    refine tq_iald (E := E_M_isTold d) (pc := 194) (cks_at k_M_isTold 122 rfl rfl) sa_79 sn_79 ?_
    refine tq_iload 4 (E := E_M_isTold d) (pc := 195) (cks_at k_M_isTold 123 rfl rfl) rfl ?_
    refine tq_icmp_ne (E := E_M_isTold d) (pc := 197) (tgt := 204) (cks_at k_M_isTold 124 rfl rfl) (by decide) ?_ ?_
    · refine tq_iconst (E := E_M_isTold d) (pc := 204) (cks_at k_M_isTold 127 rfl rfl) ?_
      exact tq_sub [0, 1, 2, 3] rfl (w_M_isTold_J205 d kH hkH v2 v3 v4 0 M)
    · refine tq_iconst (E := E_M_isTold d) (pc := 200) (cks_at k_M_isTold 125 rfl rfl) ?_
      refine tq_goto (tgt := 205) (E := E_M_isTold d) (pc := 201) (cks_at k_M_isTold 126 rfl rfl) (by decide) ?_
      exact tq_sub [0, 1, 2, 3] rfl (w_M_isTold_J205 d kH hkH v2 v3 v4 1 M)
def f_M_isTold_B103 (kH : Int → Int → Mm → Option (Int × Mm)) (v2 v3 : Int) (M : Mm) : Option (Int × Mm) :=
  bI (f_M_walkerMany M) (fun r13 M12 =>
  if i32 r13 ≤ i32 v3 then
    some (1, M12)
  else
    gd (0 ≤ i32 ((18 + (3 * v3)) + 1) ∧ i32 ((18 + (3 * v3)) + 1) < ((36 : Nat) : Int)) <|
    gd (0 ≤ i32 ((18 + (3 * v3)) + 2) ∧ i32 ((18 + (3 * v3)) + 2) < ((36 : Nat) : Int)) <|
    gd (0 ≤ i32 (v2 + (4 * v3)) ∧ i32 (v2 + (4 * v3)) < ((1600 : Nat) : Int)) <|
    if ¬ i32 (M12 79 (i32 (v2 + (4 * v3))).toNat) = i32 (M12 101 (i32 ((18 + (3 * v3)) + 1)).toNat) then
      f_M_isTold_J174 kH v2 v3 (v2 + (4 * v3)) (M12 101 (i32 ((18 + (3 * v3)) + 1)).toNat) (M12 101 (i32 ((18 + (3 * v3)) + 2)).toNat) M12
    else
      gd (0 ≤ i32 ((v2 + (4 * v3)) + 1) ∧ i32 ((v2 + (4 * v3)) + 1) < ((1600 : Nat) : Int)) <|
      if i32 (M12 79 (i32 ((v2 + (4 * v3)) + 1)).toNat) = i32 (M12 101 (i32 ((18 + (3 * v3)) + 2)).toNat) then
        f_M_isTold_J205 kH v2 v3 (v2 + (4 * v3)) 1 M12
      else
        f_M_isTold_J174 kH v2 v3 (v2 + (4 * v3)) (M12 101 (i32 ((18 + (3 * v3)) + 1)).toNat) (M12 101 (i32 ((18 + (3 * v3)) + 2)).toNat) M12)
set_option maxRecDepth 20000 in
set_option maxHeartbeats 4000000 in
theorem w_M_isTold_B103 (d : Nat) (kH : Int → Int → Mm → Option (Int × Mm)) (hkH : ∀ (v2 v3 : Int) (M : Mm), T (E_M_isTold d) injI 103 [(0, .ref 78), (2, vI v2), (3, vI v3)] [] M (kH v2 v3 M)) (v2 v3 : Int) (M : Mm) : T (E_M_isTold d) injI 103 [(0, .ref 78), (2, vI v2), (3, vI v3)] [] M (f_M_isTold_B103 kH v2 v3 M) := by
  unfold f_M_isTold_B103
  refine tq_iload_n 2 (E := E_M_isTold d) (pc := 103) (cks_at k_M_isTold 65 rfl rfl) rfl ?_
  refine tq_aload_n 0 (E := E_M_isTold d) (pc := 104) (cks_at k_M_isTold 66 rfl rfl) rfl ?_
  refine tq_V0 (E := E_M_isTold d) (pc := 105) (cks_at k_M_isTold 67 rfl rfl) mk_M_walkerMany lk_M_415 rc_78 (Nat.le_of_ble_eq_true rfl) (c_M_walkerMany (d + 0) M) (k_I fun r13 M12 => ?_)
  refine tq_icmp_ge (E := E_M_isTold d) (pc := 108) (tgt := 249) (cks_at k_M_isTold 68 rfl rfl) (by decide) ?_ ?_
  · refine tq_iconst (E := E_M_isTold d) (pc := 249) (cks_at k_M_isTold 152 rfl rfl) ?_
    exact tq_zretC (E := E_M_isTold d) (pc := 250) (cks_at k_M_isTold 153 rfl rfl) rfl (by decide)
  · refine tq_iload_n 1 (E := E_M_isTold d) (pc := 111) (cks_at k_M_isTold 69 rfl rfl) rfl ?_
    refine tq_iconst (E := E_M_isTold d) (pc := 112) (cks_at k_M_isTold 70 rfl rfl) ?_
    refine tq_iload_n 2 (E := E_M_isTold d) (pc := 113) (cks_at k_M_isTold 71 rfl rfl) rfl ?_
    refine tq_imul (E := E_M_isTold d) (pc := 114) (cks_at k_M_isTold 72 rfl rfl) ?_
    refine tq_iadd (E := E_M_isTold d) (pc := 115) (cks_at k_M_isTold 73 rfl rfl) ?_
    refine tq_istore (E := E_M_isTold d) (pc := 116) (cks_at k_M_isTold 74 rfl rfl) (show 4 < 8 by decide) rfl ?_
    refine tq_aload_n 1 (E := E_M_isTold d) (pc := 118) (cks_at k_M_isTold 75 rfl rfl) rfl ?_
    refine tq_getR (j := 101) (E := E_M_isTold d) (pc := 119) (cks_at k_M_isTold 76 rfl rfl) fo_M_82 so_78 rfl sp_78_31 ?_
    refine tq_bipush (E := E_M_isTold d) (pc := 122) (cks_at k_M_isTold 77 rfl rfl) (by decide) (by decide) ?_
    refine tq_iconst (E := E_M_isTold d) (pc := 124) (cks_at k_M_isTold 78 rfl rfl) ?_
    refine tq_iload_n 3 (E := E_M_isTold d) (pc := 125) (cks_at k_M_isTold 79 rfl rfl) rfl ?_
    refine tq_imul (E := E_M_isTold d) (pc := 126) (cks_at k_M_isTold 80 rfl rfl) ?_
    refine tq_iadd (E := E_M_isTold d) (pc := 127) (cks_at k_M_isTold 81 rfl rfl) ?_
    refine tq_iconst (E := E_M_isTold d) (pc := 128) (cks_at k_M_isTold 82 rfl rfl) ?_
    refine tq_iadd (E := E_M_isTold d) (pc := 129) (cks_at k_M_isTold 83 rfl rfl) ?_
    refine tq_iald (E := E_M_isTold d) (pc := 130) (cks_at k_M_isTold 84 rfl rfl) sa_101 sn_101 ?_
    refine tq_istore (E := E_M_isTold d) (pc := 131) (cks_at k_M_isTold 85 rfl rfl) (show 5 < 8 by decide) rfl ?_
    refine tq_aload_n 2 (E := E_M_isTold d) (pc := 133) (cks_at k_M_isTold 86 rfl rfl) rfl ?_
    refine tq_getR (j := 101) (E := E_M_isTold d) (pc := 134) (cks_at k_M_isTold 87 rfl rfl) fo_M_82 so_78 rfl sp_78_31 ?_
    refine tq_bipush (E := E_M_isTold d) (pc := 137) (cks_at k_M_isTold 88 rfl rfl) (by decide) (by decide) ?_
    refine tq_iconst (E := E_M_isTold d) (pc := 139) (cks_at k_M_isTold 89 rfl rfl) ?_
    refine tq_iload_n 4 (E := E_M_isTold d) (pc := 140) (cks_at k_M_isTold 90 rfl rfl) rfl ?_
    refine tq_imul (E := E_M_isTold d) (pc := 141) (cks_at k_M_isTold 91 rfl rfl) ?_
    refine tq_iadd (E := E_M_isTold d) (pc := 142) (cks_at k_M_isTold 92 rfl rfl) ?_
    refine tq_iconst (E := E_M_isTold d) (pc := 143) (cks_at k_M_isTold 93 rfl rfl) ?_
    refine tq_iadd (E := E_M_isTold d) (pc := 144) (cks_at k_M_isTold 94 rfl rfl) ?_
    refine tq_iald (E := E_M_isTold d) (pc := 145) (cks_at k_M_isTold 95 rfl rfl) sa_101 sn_101 ?_
    refine tq_istore (E := E_M_isTold d) (pc := 146) (cks_at k_M_isTold 96 rfl rfl) (show 6 < 8 by decide) rfl ?_
    refine tq_aload_n 3 (E := E_M_isTold d) (pc := 148) (cks_at k_M_isTold 97 rfl rfl) rfl ?_
    refine tq_getR (j := 79) (E := E_M_isTold d) (pc := 149) (cks_at k_M_isTold 98 rfl rfl) fo_M_7 so_78 rfl sp_78_0 ?_
    refine tq_iload 2 (E := E_M_isTold d) (pc := 152) (cks_at k_M_isTold 99 rfl rfl) rfl ?_
    refine tq_iald (E := E_M_isTold d) (pc := 154) (cks_at k_M_isTold 100 rfl rfl) sa_79 sn_79 ?_
    refine tq_iload 1 (E := E_M_isTold d) (pc := 155) (cks_at k_M_isTold 101 rfl rfl) rfl ?_
    refine tq_icmp_ne (E := E_M_isTold d) (pc := 157) (tgt := 174) (cks_at k_M_isTold 102 rfl rfl) (by decide) ?_ ?_
    · exact tq_sub [3, 4, 5, 2, 1, 0] rfl (w_M_isTold_J174 d kH hkH v2 v3 (v2 + (4 * v3)) (M12 101 (i32 ((18 + (3 * v3)) + 1)).toNat) (M12 101 (i32 ((18 + (3 * v3)) + 2)).toNat) M12)
    · refine tq_aload_n 3 (E := E_M_isTold d) (pc := 160) (cks_at k_M_isTold 103 rfl rfl) rfl ?_
      refine tq_getR (j := 79) (E := E_M_isTold d) (pc := 161) (cks_at k_M_isTold 104 rfl rfl) fo_M_7 so_78 rfl sp_78_0 ?_
      refine tq_iload 2 (E := E_M_isTold d) (pc := 164) (cks_at k_M_isTold 105 rfl rfl) rfl ?_
      refine tq_iconst (E := E_M_isTold d) (pc := 166) (cks_at k_M_isTold 106 rfl rfl) ?_
      refine tq_iadd (E := E_M_isTold d) (pc := 167) (cks_at k_M_isTold 107 rfl rfl) ?_
      refine tq_iald (E := E_M_isTold d) (pc := 168) (cks_at k_M_isTold 108 rfl rfl) sa_79 sn_79 ?_
      refine tq_iload 0 (E := E_M_isTold d) (pc := 169) (cks_at k_M_isTold 109 rfl rfl) rfl ?_
      refine tq_icmp_eq (E := E_M_isTold d) (pc := 171) (tgt := 200) (cks_at k_M_isTold 110 rfl rfl) (by decide) ?_ ?_
      · refine tq_iconst (E := E_M_isTold d) (pc := 200) (cks_at k_M_isTold 125 rfl rfl) ?_
        refine tq_goto (tgt := 205) (E := E_M_isTold d) (pc := 201) (cks_at k_M_isTold 126 rfl rfl) (by decide) ?_
        exact tq_sub [3, 4, 5, 2] rfl (w_M_isTold_J205 d kH hkH v2 v3 (v2 + (4 * v3)) 1 M12)
      · exact tq_sub [3, 4, 5, 2, 1, 0] rfl (w_M_isTold_J174 d kH hkH v2 v3 (v2 + (4 * v3)) (M12 101 (i32 ((18 + (3 * v3)) + 1)).toNat) (M12 101 (i32 ((18 + (3 * v3)) + 2)).toNat) M12)
def f_M_isTold_L103 : Nat → Int × Int × Mm → Option (Int × Mm) := lp fun kH s => f_M_isTold_B103 (fun v2 v3 M => kH (v2, v3, M)) s.1 s.2.1 s.2.2
set_option maxRecDepth 20000 in
set_option maxHeartbeats 4000000 in
theorem w_M_isTold_L103 (d : Nat) (n : Nat) (s : Int × Int × Mm) : T (E_M_isTold d) injI 103 [(0, .ref 78), (2, vI s.1), (3, vI s.2.1)] [] s.2.2 (f_M_isTold_L103 n s) :=
  tq_lp (fun s => [(0, .ref 78), (2, vI s.1), (3, vI s.2.1)]) (fun s => s.2.2) (fun kH hH s => w_M_isTold_B103 d (fun v2 v3 M => kH (v2, v3, M)) (fun v2 v3 M => hH (v2, v3, M)) s.1 s.2.1 s.2.2) n s
def f_M_isTold (v1 : Int) (M : Mm) : Option (Int × Mm) :=
  bI (f_M_streetMany M) (fun r2 M1 =>
  bI (f_M_walkerMany M1) (fun r4 M3 =>
  if ¬ i32 v1 = i32 (((2 + r2) + (4 * r4)) + 1) then
    some (0, M3)
  else
    gd (0 ≤ i32 (v1 - 1) ∧ i32 (v1 - 1) < ((1600 : Nat) : Int)) <|
    bI (f_M_checked 79 (v1 - 1) M3) (fun r6 M5 =>
    if ¬ i32 (M3 79 (i32 (v1 - 1)).toNat) = i32 r6 then
      some (0, M5)
    else
      if i32 ((256 * (M5 79 0)) + (M5 79 1)) ≤ i32 9999 then
        f_M_isTold_L69 (fun v2 M11 => f_M_isTold_L103 FU (v2, 0, M11)) FU ((2 + r2), 0, M5)
      else
        some (0, M5))))
set_option maxRecDepth 20000 in
set_option maxHeartbeats 4000000 in
theorem c_M_isTold (d : Nat) (v1 : Int) (M : Mm) (Q : Option Value → Mm → Prop) (h : sat injI (f_M_isTold v1 M) Q) : Ct (d + 2) y_M_isTold [.ref 78, vI v1] M Q := by
  refine ct_in (d := d + 1) mk_M_isTold (Nat.le_of_ble_eq_true rfl) (?_ : T (E_M_isTold d) injI 0 [(0, .ref 78), (1, vI v1)] [] M (f_M_isTold v1 M)) h
  unfold f_M_isTold
  refine tq_iconst (E := E_M_isTold d) (pc := 0) (cks_at k_M_isTold 0 rfl rfl) ?_
  refine tq_aload_n 0 (E := E_M_isTold d) (pc := 1) (cks_at k_M_isTold 1 rfl rfl) rfl ?_
  refine tq_V0 (E := E_M_isTold d) (pc := 2) (cks_at k_M_isTold 2 rfl rfl) mk_M_streetMany lk_M_412 rc_78 (Nat.le_of_ble_eq_true rfl) (c_M_streetMany (d + 0) M) (k_I fun r2 M1 => ?_)
  refine tq_iadd (E := E_M_isTold d) (pc := 5) (cks_at k_M_isTold 3 rfl rfl) ?_
  refine tq_istore_n (E := E_M_isTold d) (pc := 6) (cks_at k_M_isTold 4 rfl rfl) (show 2 < 8 by decide) rfl ?_
  refine tq_iload_n 2 (E := E_M_isTold d) (pc := 7) (cks_at k_M_isTold 5 rfl rfl) rfl ?_
  refine tq_iload_n 0 (E := E_M_isTold d) (pc := 8) (cks_at k_M_isTold 6 rfl rfl) rfl ?_
  refine tq_iconst (E := E_M_isTold d) (pc := 9) (cks_at k_M_isTold 7 rfl rfl) ?_
  refine tq_aload_n 1 (E := E_M_isTold d) (pc := 10) (cks_at k_M_isTold 8 rfl rfl) rfl ?_
  refine tq_V0 (E := E_M_isTold d) (pc := 11) (cks_at k_M_isTold 9 rfl rfl) mk_M_walkerMany lk_M_415 rc_78 (Nat.le_of_ble_eq_true rfl) (c_M_walkerMany (d + 0) M1) (k_I fun r4 M3 => ?_)
  refine tq_imul (E := E_M_isTold d) (pc := 14) (cks_at k_M_isTold 10 rfl rfl) ?_
  refine tq_iadd (E := E_M_isTold d) (pc := 15) (cks_at k_M_isTold 11 rfl rfl) ?_
  refine tq_iconst (E := E_M_isTold d) (pc := 16) (cks_at k_M_isTold 12 rfl rfl) ?_
  refine tq_iadd (E := E_M_isTold d) (pc := 17) (cks_at k_M_isTold 13 rfl rfl) ?_
  refine tq_icmp_ne (E := E_M_isTold d) (pc := 18) (tgt := 65) (cks_at k_M_isTold 14 rfl rfl) (by decide) ?_ ?_
  · refine tq_iconst (E := E_M_isTold d) (pc := 65) (cks_at k_M_isTold 41 rfl rfl) ?_
    exact tq_zretC (E := E_M_isTold d) (pc := 66) (cks_at k_M_isTold 42 rfl rfl) rfl (by decide)
  · refine tq_aload_n 1 (E := E_M_isTold d) (pc := 21) (cks_at k_M_isTold 15 rfl rfl) rfl ?_
    refine tq_getR (j := 79) (E := E_M_isTold d) (pc := 22) (cks_at k_M_isTold 16 rfl rfl) fo_M_7 so_78 rfl sp_78_0 ?_
    refine tq_iload_n 2 (E := E_M_isTold d) (pc := 25) (cks_at k_M_isTold 17 rfl rfl) rfl ?_
    refine tq_iconst (E := E_M_isTold d) (pc := 26) (cks_at k_M_isTold 18 rfl rfl) ?_
    refine tq_isub (E := E_M_isTold d) (pc := 27) (cks_at k_M_isTold 19 rfl rfl) ?_
    refine tq_iald (E := E_M_isTold d) (pc := 28) (cks_at k_M_isTold 20 rfl rfl) sa_79 sn_79 ?_
    refine tq_aload_n 1 (E := E_M_isTold d) (pc := 29) (cks_at k_M_isTold 21 rfl rfl) rfl ?_
    refine tq_getR (j := 79) (E := E_M_isTold d) (pc := 30) (cks_at k_M_isTold 22 rfl rfl) fo_M_7 so_78 rfl sp_78_0 ?_
    refine tq_iload_n 2 (E := E_M_isTold d) (pc := 33) (cks_at k_M_isTold 23 rfl rfl) rfl ?_
    refine tq_iconst (E := E_M_isTold d) (pc := 34) (cks_at k_M_isTold 24 rfl rfl) ?_
    refine tq_isub (E := E_M_isTold d) (pc := 35) (cks_at k_M_isTold 25 rfl rfl) ?_
    refine tq_S2 (E := E_M_isTold d) (pc := 36) (cks_at k_M_isTold 26 rfl rfl) mk_M_checked lk_M_734 (Nat.le_of_ble_eq_true rfl) (c_M_checked (d + 0) 79 sa_79 (v1 - 1) M3) (k_I fun r6 M5 => ?_)
    refine tq_icmp_ne (E := E_M_isTold d) (pc := 39) (tgt := 65) (cks_at k_M_isTold 27 rfl rfl) (by decide) ?_ ?_
    · refine tq_iconst (E := E_M_isTold d) (pc := 65) (cks_at k_M_isTold 41 rfl rfl) ?_
      exact tq_zretC (E := E_M_isTold d) (pc := 66) (cks_at k_M_isTold 42 rfl rfl) rfl (by decide)
    · refine tq_sipush (E := E_M_isTold d) (pc := 42) (cks_at k_M_isTold 28 rfl rfl) (by decide) (by decide) ?_
      refine tq_aload_n 1 (E := E_M_isTold d) (pc := 45) (cks_at k_M_isTold 29 rfl rfl) rfl ?_
      refine tq_getR (j := 79) (E := E_M_isTold d) (pc := 46) (cks_at k_M_isTold 30 rfl rfl) fo_M_7 so_78 rfl sp_78_0 ?_
      refine tq_iconst (E := E_M_isTold d) (pc := 49) (cks_at k_M_isTold 31 rfl rfl) ?_
      refine tq_ialdC 0 (E := E_M_isTold d) (pc := 50) (cks_at k_M_isTold 32 rfl rfl) sa_79 sn_79 (by decide) ?_
      refine tq_imul (E := E_M_isTold d) (pc := 51) (cks_at k_M_isTold 33 rfl rfl) ?_
      refine tq_aload_n 1 (E := E_M_isTold d) (pc := 52) (cks_at k_M_isTold 34 rfl rfl) rfl ?_
      refine tq_getR (j := 79) (E := E_M_isTold d) (pc := 53) (cks_at k_M_isTold 35 rfl rfl) fo_M_7 so_78 rfl sp_78_0 ?_
      refine tq_iconst (E := E_M_isTold d) (pc := 56) (cks_at k_M_isTold 36 rfl rfl) ?_
      refine tq_ialdC 1 (E := E_M_isTold d) (pc := 57) (cks_at k_M_isTold 37 rfl rfl) sa_79 sn_79 (by decide) ?_
      refine tq_iadd (E := E_M_isTold d) (pc := 58) (cks_at k_M_isTold 38 rfl rfl) ?_
      refine tq_sipush (E := E_M_isTold d) (pc := 59) (cks_at k_M_isTold 39 rfl rfl) (by decide) (by decide) ?_
      refine tq_icmp_le (E := E_M_isTold d) (pc := 62) (tgt := 67) (cks_at k_M_isTold 40 rfl rfl) (by decide) ?_ ?_
      · refine tq_iconst (E := E_M_isTold d) (pc := 67) (cks_at k_M_isTold 43 rfl rfl) ?_
        refine tq_istore_n (E := E_M_isTold d) (pc := 68) (cks_at k_M_isTold 44 rfl rfl) (show 3 < 8 by decide) rfl ?_
        exact tq_sub [2, 1, 0] rfl (w_M_isTold_L69 d _ (fun v2 M11 => by
            refine tq_iconst (E := E_M_isTold d) (pc := 101) (cks_at k_M_isTold 63 rfl rfl) ?_
            refine tq_istore_n (E := E_M_isTold d) (pc := 102) (cks_at k_M_isTold 64 rfl rfl) (show 3 < 8 by decide) rfl ?_
            exact tq_sub [1, 2, 0] rfl (w_M_isTold_L103 d FU (v2, 0, M11))) FU ((2 + r2), 0, M5))
      · refine tq_iconst (E := E_M_isTold d) (pc := 65) (cks_at k_M_isTold 41 rfl rfl) ?_
        exact tq_zretC (E := E_M_isTold d) (pc := 66) (cks_at k_M_isTold 42 rfl rfl) rfl (by decide)
abbrev E_M_on (d : Nat) : Ev := (Ct (d + 2), "BreathTownModel", prog_14_method_151_code, 4, False, 0, (fun _ => 0), (Option.some Jvm.ClassFile.FieldType.boolean))
def f_M_on_B55 (kH : Int → Mm → Option (Int × Mm)) (kx85 : Mm → Option (Int × Mm)) (v2 : Int) (M : Mm) : Option (Int × Mm) :=
  bI (f_M_streetMany M) (fun r6 M5 =>
  if i32 r6 ≤ i32 v2 then
    kx85 M5
  else
    gd (0 ≤ i32 (2 + v2) ∧ i32 (2 + v2) < ((1600 : Nat) : Int)) <|
    gd (0 ≤ i32 (1 + v2) ∧ i32 (1 + v2) < ((31 : Nat) : Int)) <|
    bd (up M5 108 (i32 (1 + v2)).toNat (M5 79 (i32 (2 + v2)).toNat)) (fun M7 =>
    kH (v2 + 1) M7))
set_option maxRecDepth 20000 in
set_option maxHeartbeats 4000000 in
theorem w_M_on_B55 (d : Nat) (kH : Int → Mm → Option (Int × Mm)) (kx85 : Mm → Option (Int × Mm)) (hkH : ∀ (v2 : Int) (M : Mm), T (E_M_on d) injI 55 [(0, .ref 78), (2, vI v2)] [] M (kH v2 M)) (hkx85 : ∀  (M : Mm), T (E_M_on d) injI 85 [(0, .ref 78)] [] M (kx85 M)) (v2 : Int) (M : Mm) : T (E_M_on d) injI 55 [(0, .ref 78), (2, vI v2)] [] M (f_M_on_B55 kH kx85 v2 M) := by
  unfold f_M_on_B55
  refine tq_iload_n 1 (E := E_M_on d) (pc := 55) (cks_at k_M_on 37 rfl rfl) rfl ?_
  refine tq_aload_n 0 (E := E_M_on d) (pc := 56) (cks_at k_M_on 38 rfl rfl) rfl ?_
  refine tq_V0 (E := E_M_on d) (pc := 57) (cks_at k_M_on 39 rfl rfl) mk_M_streetMany lk_M_412 rc_78 (Nat.le_of_ble_eq_true rfl) (c_M_streetMany (d + 1) M) (k_I fun r6 M5 => ?_)
  refine tq_icmp_ge (E := E_M_on d) (pc := 60) (tgt := 85) (cks_at k_M_on 40 rfl rfl) (by decide) ?_ ?_
  · exact tq_sub [0] rfl (hkx85 M5)
  · refine tq_aload_n 0 (E := E_M_on d) (pc := 63) (cks_at k_M_on 41 rfl rfl) rfl ?_
    refine tq_getR (j := 108) (E := E_M_on d) (pc := 64) (cks_at k_M_on 42 rfl rfl) fo_M_103 so_78 rfl sp_78_45 ?_
    refine tq_iconst (E := E_M_on d) (pc := 67) (cks_at k_M_on 43 rfl rfl) ?_
    refine tq_iload_n 1 (E := E_M_on d) (pc := 68) (cks_at k_M_on 44 rfl rfl) rfl ?_
    refine tq_iadd (E := E_M_on d) (pc := 69) (cks_at k_M_on 45 rfl rfl) ?_
    refine tq_aload_n 0 (E := E_M_on d) (pc := 70) (cks_at k_M_on 46 rfl rfl) rfl ?_
    refine tq_getR (j := 79) (E := E_M_on d) (pc := 71) (cks_at k_M_on 47 rfl rfl) fo_M_7 so_78 rfl sp_78_0 ?_
    refine tq_iconst (E := E_M_on d) (pc := 74) (cks_at k_M_on 48 rfl rfl) ?_
    refine tq_iload_n 1 (E := E_M_on d) (pc := 75) (cks_at k_M_on 49 rfl rfl) rfl ?_
    refine tq_iadd (E := E_M_on d) (pc := 76) (cks_at k_M_on 50 rfl rfl) ?_
    refine tq_iald (E := E_M_on d) (pc := 77) (cks_at k_M_on 51 rfl rfl) sa_79 sn_79 ?_
    refine tq_iast (E := E_M_on d) (pc := 78) (cks_at k_M_on 52 rfl rfl) sa_108 sn_108 (fun M7 => ?_)
    refine tq_iinc 1 (E := E_M_on d) (pc := 79) (cks_at k_M_on 53 rfl rfl) rfl (show 2 < 4 by decide) rfl ?_
    refine tq_goto (tgt := 55) (E := E_M_on d) (pc := 82) (cks_at k_M_on 54 rfl rfl) (by decide) ?_
    exact tq_sub [1, 0] rfl (hkH (v2 + 1) M7)
def f_M_on_L55 (kx85 : Mm → Option (Int × Mm)) : Nat → Int × Mm → Option (Int × Mm) := lp fun kH s => f_M_on_B55 (fun v2 M => kH (v2, M)) kx85 s.1 s.2
set_option maxRecDepth 20000 in
set_option maxHeartbeats 4000000 in
theorem w_M_on_L55 (d : Nat) (kx85 : Mm → Option (Int × Mm)) (hkx85 : ∀  (M : Mm), T (E_M_on d) injI 85 [(0, .ref 78)] [] M (kx85 M)) (n : Nat) (s : Int × Mm) : T (E_M_on d) injI 55 [(0, .ref 78), (2, vI s.1)] [] s.2 (f_M_on_L55 kx85 n s) :=
  tq_lp (fun s => [(0, .ref 78), (2, vI s.1)]) (fun s => s.2) (fun kH hH s => w_M_on_B55 d (fun v2 M => kH (v2, M)) kx85 (fun v2 M => hH (v2, M)) hkx85 s.1 s.2) n s
def f_M_on_B87 (kH : Int → Mm → Option (Int × Mm)) (v2 : Int) (M : Mm) : Option (Int × Mm) :=
  bI (f_M_walkerMany M) (fun r10 M9 =>
  if i32 r10 ≤ i32 v2 then
    bd (up M9 78 63 0) (fun M11 =>
    some (1, M11))
  else
    bI (f_M_streetMany M9) (fun r13 M12 =>
    gd (0 ≤ i32 ((2 + r13) + (4 * v2)) ∧ i32 ((2 + r13) + (4 * v2)) < ((1600 : Nat) : Int)) <|
    gd (0 ≤ i32 (13 + (3 * v2)) ∧ i32 (13 + (3 * v2)) < ((31 : Nat) : Int)) <|
    bd (up M12 108 (i32 (13 + (3 * v2))).toNat (M12 79 (i32 ((2 + r13) + (4 * v2))).toNat)) (fun M14 =>
    gd (0 ≤ i32 (((2 + r13) + (4 * v2)) + 1) ∧ i32 (((2 + r13) + (4 * v2)) + 1) < ((1600 : Nat) : Int)) <|
    gd (0 ≤ i32 ((13 + (3 * v2)) + 1) ∧ i32 ((13 + (3 * v2)) + 1) < ((31 : Nat) : Int)) <|
    bd (up M14 108 (i32 ((13 + (3 * v2)) + 1)).toNat (M14 79 (i32 (((2 + r13) + (4 * v2)) + 1)).toNat)) (fun M15 =>
    gd (0 ≤ i32 (((2 + r13) + (4 * v2)) + 2) ∧ i32 (((2 + r13) + (4 * v2)) + 2) < ((1600 : Nat) : Int)) <|
    gd (0 ≤ i32 (((2 + r13) + (4 * v2)) + 3) ∧ i32 (((2 + r13) + (4 * v2)) + 3) < ((1600 : Nat) : Int)) <|
    gd (0 ≤ i32 ((13 + (3 * v2)) + 2) ∧ i32 ((13 + (3 * v2)) + 2) < ((31 : Nat) : Int)) <|
    bd (up M15 108 (i32 ((13 + (3 * v2)) + 2)).toNat ((256 * (M15 79 (i32 (((2 + r13) + (4 * v2)) + 2)).toNat)) + (M15 79 (i32 (((2 + r13) + (4 * v2)) + 3)).toNat))) (fun M16 =>
    kH (v2 + 1) M16)))))
set_option maxRecDepth 20000 in
set_option maxHeartbeats 4000000 in
theorem w_M_on_B87 (d : Nat) (kH : Int → Mm → Option (Int × Mm)) (hkH : ∀ (v2 : Int) (M : Mm), T (E_M_on d) injI 87 [(0, .ref 78), (2, vI v2)] [] M (kH v2 M)) (v2 : Int) (M : Mm) : T (E_M_on d) injI 87 [(0, .ref 78), (2, vI v2)] [] M (f_M_on_B87 kH v2 M) := by
  unfold f_M_on_B87
  refine tq_iload_n 1 (E := E_M_on d) (pc := 87) (cks_at k_M_on 57 rfl rfl) rfl ?_
  refine tq_aload_n 0 (E := E_M_on d) (pc := 88) (cks_at k_M_on 58 rfl rfl) rfl ?_
  refine tq_V0 (E := E_M_on d) (pc := 89) (cks_at k_M_on 59 rfl rfl) mk_M_walkerMany lk_M_415 rc_78 (Nat.le_of_ble_eq_true rfl) (c_M_walkerMany (d + 1) M) (k_I fun r10 M9 => ?_)
  refine tq_icmp_ge (E := E_M_on d) (pc := 92) (tgt := 184) (cks_at k_M_on 60 rfl rfl) (by decide) ?_ ?_
  · refine tq_aload_n 0 (E := E_M_on d) (pc := 184) (cks_at k_M_on 125 rfl rfl) rfl ?_
    refine tq_iconst (E := E_M_on d) (pc := 185) (cks_at k_M_on 126 rfl rfl) ?_
    refine tq_putI (E := E_M_on d) (pc := 186) (cks_at k_M_on 127 rfl rfl) fo_M_350 so_78 rfl po_12_63 (fun M11 => ?_)
    refine tq_iconst (E := E_M_on d) (pc := 189) (cks_at k_M_on 128 rfl rfl) ?_
    exact tq_zretC (E := E_M_on d) (pc := 190) (cks_at k_M_on 129 rfl rfl) rfl (by decide)
  · refine tq_iconst (E := E_M_on d) (pc := 95) (cks_at k_M_on 61 rfl rfl) ?_
    refine tq_aload_n 0 (E := E_M_on d) (pc := 96) (cks_at k_M_on 62 rfl rfl) rfl ?_
    refine tq_V0 (E := E_M_on d) (pc := 97) (cks_at k_M_on 63 rfl rfl) mk_M_streetMany lk_M_412 rc_78 (Nat.le_of_ble_eq_true rfl) (c_M_streetMany (d + 1) M9) (k_I fun r13 M12 => ?_)
    refine tq_iadd (E := E_M_on d) (pc := 100) (cks_at k_M_on 64 rfl rfl) ?_
    refine tq_iconst (E := E_M_on d) (pc := 101) (cks_at k_M_on 65 rfl rfl) ?_
    refine tq_iload_n 1 (E := E_M_on d) (pc := 102) (cks_at k_M_on 66 rfl rfl) rfl ?_
    refine tq_imul (E := E_M_on d) (pc := 103) (cks_at k_M_on 67 rfl rfl) ?_
    refine tq_iadd (E := E_M_on d) (pc := 104) (cks_at k_M_on 68 rfl rfl) ?_
    refine tq_istore_n (E := E_M_on d) (pc := 105) (cks_at k_M_on 69 rfl rfl) (show 3 < 4 by decide) rfl ?_
    refine tq_aload_n 1 (E := E_M_on d) (pc := 106) (cks_at k_M_on 70 rfl rfl) rfl ?_
    refine tq_getR (j := 108) (E := E_M_on d) (pc := 107) (cks_at k_M_on 71 rfl rfl) fo_M_103 so_78 rfl sp_78_45 ?_
    refine tq_bipush (E := E_M_on d) (pc := 110) (cks_at k_M_on 72 rfl rfl) (by decide) (by decide) ?_
    refine tq_iconst (E := E_M_on d) (pc := 112) (cks_at k_M_on 73 rfl rfl) ?_
    refine tq_iload_n 2 (E := E_M_on d) (pc := 113) (cks_at k_M_on 74 rfl rfl) rfl ?_
    refine tq_imul (E := E_M_on d) (pc := 114) (cks_at k_M_on 75 rfl rfl) ?_
    refine tq_iadd (E := E_M_on d) (pc := 115) (cks_at k_M_on 76 rfl rfl) ?_
    refine tq_aload_n 1 (E := E_M_on d) (pc := 116) (cks_at k_M_on 77 rfl rfl) rfl ?_
    refine tq_getR (j := 79) (E := E_M_on d) (pc := 117) (cks_at k_M_on 78 rfl rfl) fo_M_7 so_78 rfl sp_78_0 ?_
    refine tq_iload_n 0 (E := E_M_on d) (pc := 120) (cks_at k_M_on 79 rfl rfl) rfl ?_
    refine tq_iald (E := E_M_on d) (pc := 121) (cks_at k_M_on 80 rfl rfl) sa_79 sn_79 ?_
    refine tq_iast (E := E_M_on d) (pc := 122) (cks_at k_M_on 81 rfl rfl) sa_108 sn_108 (fun M14 => ?_)
    refine tq_aload_n 1 (E := E_M_on d) (pc := 123) (cks_at k_M_on 82 rfl rfl) rfl ?_
    refine tq_getR (j := 108) (E := E_M_on d) (pc := 124) (cks_at k_M_on 83 rfl rfl) fo_M_103 so_78 rfl sp_78_45 ?_
    refine tq_bipush (E := E_M_on d) (pc := 127) (cks_at k_M_on 84 rfl rfl) (by decide) (by decide) ?_
    refine tq_iconst (E := E_M_on d) (pc := 129) (cks_at k_M_on 85 rfl rfl) ?_
    refine tq_iload_n 2 (E := E_M_on d) (pc := 130) (cks_at k_M_on 86 rfl rfl) rfl ?_
    refine tq_imul (E := E_M_on d) (pc := 131) (cks_at k_M_on 87 rfl rfl) ?_
    refine tq_iadd (E := E_M_on d) (pc := 132) (cks_at k_M_on 88 rfl rfl) ?_
    refine tq_iconst (E := E_M_on d) (pc := 133) (cks_at k_M_on 89 rfl rfl) ?_
    refine tq_iadd (E := E_M_on d) (pc := 134) (cks_at k_M_on 90 rfl rfl) ?_
    refine tq_aload_n 1 (E := E_M_on d) (pc := 135) (cks_at k_M_on 91 rfl rfl) rfl ?_
    refine tq_getR (j := 79) (E := E_M_on d) (pc := 136) (cks_at k_M_on 92 rfl rfl) fo_M_7 so_78 rfl sp_78_0 ?_
    refine tq_iload_n 0 (E := E_M_on d) (pc := 139) (cks_at k_M_on 93 rfl rfl) rfl ?_
    refine tq_iconst (E := E_M_on d) (pc := 140) (cks_at k_M_on 94 rfl rfl) ?_
    refine tq_iadd (E := E_M_on d) (pc := 141) (cks_at k_M_on 95 rfl rfl) ?_
    refine tq_iald (E := E_M_on d) (pc := 142) (cks_at k_M_on 96 rfl rfl) sa_79 sn_79 ?_
    refine tq_iast (E := E_M_on d) (pc := 143) (cks_at k_M_on 97 rfl rfl) sa_108 sn_108 (fun M15 => ?_)
    refine tq_aload_n 1 (E := E_M_on d) (pc := 144) (cks_at k_M_on 98 rfl rfl) rfl ?_
    refine tq_getR (j := 108) (E := E_M_on d) (pc := 145) (cks_at k_M_on 99 rfl rfl) fo_M_103 so_78 rfl sp_78_45 ?_
    refine tq_bipush (E := E_M_on d) (pc := 148) (cks_at k_M_on 100 rfl rfl) (by decide) (by decide) ?_
    refine tq_iconst (E := E_M_on d) (pc := 150) (cks_at k_M_on 101 rfl rfl) ?_
    refine tq_iload_n 2 (E := E_M_on d) (pc := 151) (cks_at k_M_on 102 rfl rfl) rfl ?_
    refine tq_imul (E := E_M_on d) (pc := 152) (cks_at k_M_on 103 rfl rfl) ?_
    refine tq_iadd (E := E_M_on d) (pc := 153) (cks_at k_M_on 104 rfl rfl) ?_
    refine tq_iconst (E := E_M_on d) (pc := 154) (cks_at k_M_on 105 rfl rfl) ?_
    refine tq_iadd (E := E_M_on d) (pc := 155) (cks_at k_M_on 106 rfl rfl) ?_
    refine tq_sipush (E := E_M_on d) (pc := 156) (cks_at k_M_on 107 rfl rfl) (by decide) (by decide) ?_
    refine tq_aload_n 1 (E := E_M_on d) (pc := 159) (cks_at k_M_on 108 rfl rfl) rfl ?_
    refine tq_getR (j := 79) (E := E_M_on d) (pc := 160) (cks_at k_M_on 109 rfl rfl) fo_M_7 so_78 rfl sp_78_0 ?_
    refine tq_iload_n 0 (E := E_M_on d) (pc := 163) (cks_at k_M_on 110 rfl rfl) rfl ?_
    refine tq_iconst (E := E_M_on d) (pc := 164) (cks_at k_M_on 111 rfl rfl) ?_
    refine tq_iadd (E := E_M_on d) (pc := 165) (cks_at k_M_on 112 rfl rfl) ?_
    refine tq_iald (E := E_M_on d) (pc := 166) (cks_at k_M_on 113 rfl rfl) sa_79 sn_79 ?_
    refine tq_imul (E := E_M_on d) (pc := 167) (cks_at k_M_on 114 rfl rfl) ?_
    refine tq_aload_n 1 (E := E_M_on d) (pc := 168) (cks_at k_M_on 115 rfl rfl) rfl ?_
    refine tq_getR (j := 79) (E := E_M_on d) (pc := 169) (cks_at k_M_on 116 rfl rfl) fo_M_7 so_78 rfl sp_78_0 ?_
    refine tq_iload_n 0 (E := E_M_on d) (pc := 172) (cks_at k_M_on 117 rfl rfl) rfl ?_
    refine tq_iconst (E := E_M_on d) (pc := 173) (cks_at k_M_on 118 rfl rfl) ?_
    refine tq_iadd (E := E_M_on d) (pc := 174) (cks_at k_M_on 119 rfl rfl) ?_
    refine tq_iald (E := E_M_on d) (pc := 175) (cks_at k_M_on 120 rfl rfl) sa_79 sn_79 ?_
    refine tq_iadd (E := E_M_on d) (pc := 176) (cks_at k_M_on 121 rfl rfl) ?_
    refine tq_iast (E := E_M_on d) (pc := 177) (cks_at k_M_on 122 rfl rfl) sa_108 sn_108 (fun M16 => ?_)
    refine tq_iinc 2 (E := E_M_on d) (pc := 178) (cks_at k_M_on 123 rfl rfl) rfl (show 2 < 4 by decide) rfl ?_
    refine tq_goto (tgt := 87) (E := E_M_on d) (pc := 181) (cks_at k_M_on 124 rfl rfl) (by decide) ?_
    exact tq_sub [2, 0] rfl (hkH (v2 + 1) M16)
def f_M_on_L87 : Nat → Int × Mm → Option (Int × Mm) := lp fun kH s => f_M_on_B87 (fun v2 M => kH (v2, M)) s.1 s.2
set_option maxRecDepth 20000 in
set_option maxHeartbeats 4000000 in
theorem w_M_on_L87 (d : Nat) (n : Nat) (s : Int × Mm) : T (E_M_on d) injI 87 [(0, .ref 78), (2, vI s.1)] [] s.2 (f_M_on_L87 n s) :=
  tq_lp (fun s => [(0, .ref 78), (2, vI s.1)]) (fun s => s.2) (fun kH hH s => w_M_on_B87 d (fun v2 M => kH (v2, M)) (fun v2 M => hH (v2, M)) s.1 s.2) n s
def f_M_on (M : Mm) : Option (Int × Mm) :=
  bd (up M 78 1 0) (fun M1 =>
  bI (f_M_isTold (M 78 1) M1) (fun r3 M2 =>
  if ¬ i32 r3 = 0 then
    bd (up M2 108 0 ((256 * (M2 79 0)) + (M2 79 1))) (fun M4 =>
    f_M_on_L55 (fun M8 => f_M_on_L87 FU (0, M8)) FU (0, M4))
  else
    bd (up M2 80 5 ((M2 80 5) + 1)) (fun M17 =>
    some (0, M17))))
set_option maxRecDepth 20000 in
set_option maxHeartbeats 4000000 in
theorem c_M_on (d : Nat) (M : Mm) (Q : Option Value → Mm → Prop) (h : sat injI (f_M_on M) Q) : Ct (d + 3) y_M_on [.ref 78] M Q := by
  refine ct_in (d := d + 2) mk_M_on (Nat.le_of_ble_eq_true rfl) (?_ : T (E_M_on d) injI 0 [(0, .ref 78)] [] M (f_M_on M)) h
  unfold f_M_on
  refine tq_aload_n 0 (E := E_M_on d) (pc := 0) (cks_at k_M_on 0 rfl rfl) rfl ?_
  refine tq_getI (E := E_M_on d) (pc := 1) (cks_at k_M_on 1 rfl rfl) fo_M_222 so_78 rfl (by decide) ?_
  refine tq_istore_n (E := E_M_on d) (pc := 4) (cks_at k_M_on 2 rfl rfl) (show 1 < 4 by decide) rfl ?_
  refine tq_aload_n 1 (E := E_M_on d) (pc := 5) (cks_at k_M_on 3 rfl rfl) rfl ?_
  refine tq_iconst (E := E_M_on d) (pc := 6) (cks_at k_M_on 4 rfl rfl) ?_
  refine tq_putI (E := E_M_on d) (pc := 7) (cks_at k_M_on 5 rfl rfl) fo_M_222 so_78 rfl po_12_1 (fun M1 => ?_)
  refine tq_aload_n 1 (E := E_M_on d) (pc := 10) (cks_at k_M_on 6 rfl rfl) rfl ?_
  refine tq_iload_n 0 (E := E_M_on d) (pc := 11) (cks_at k_M_on 7 rfl rfl) rfl ?_
  refine tq_V1 (E := E_M_on d) (pc := 12) (cks_at k_M_on 8 rfl rfl) mk_M_isTold lk_M_738 rc_78 (Nat.le_of_ble_eq_true rfl) (c_M_isTold (d + 0) (M 78 1) M1) (k_I fun r3 M2 => ?_)
  refine tq_if_ne (E := E_M_on d) (pc := 15) (tgt := 30) (cks_at k_M_on 9 rfl rfl) (by decide) ?_ ?_
  · refine tq_aload_n 1 (E := E_M_on d) (pc := 30) (cks_at k_M_on 20 rfl rfl) rfl ?_
    refine tq_getR (j := 108) (E := E_M_on d) (pc := 31) (cks_at k_M_on 21 rfl rfl) fo_M_103 so_78 rfl sp_78_45 ?_
    refine tq_iconst (E := E_M_on d) (pc := 34) (cks_at k_M_on 22 rfl rfl) ?_
    refine tq_sipush (E := E_M_on d) (pc := 35) (cks_at k_M_on 23 rfl rfl) (by decide) (by decide) ?_
    refine tq_aload_n 1 (E := E_M_on d) (pc := 38) (cks_at k_M_on 24 rfl rfl) rfl ?_
    refine tq_getR (j := 79) (E := E_M_on d) (pc := 39) (cks_at k_M_on 25 rfl rfl) fo_M_7 so_78 rfl sp_78_0 ?_
    refine tq_iconst (E := E_M_on d) (pc := 42) (cks_at k_M_on 26 rfl rfl) ?_
    refine tq_ialdC 0 (E := E_M_on d) (pc := 43) (cks_at k_M_on 27 rfl rfl) sa_79 sn_79 (by decide) ?_
    refine tq_imul (E := E_M_on d) (pc := 44) (cks_at k_M_on 28 rfl rfl) ?_
    refine tq_aload_n 1 (E := E_M_on d) (pc := 45) (cks_at k_M_on 29 rfl rfl) rfl ?_
    refine tq_getR (j := 79) (E := E_M_on d) (pc := 46) (cks_at k_M_on 30 rfl rfl) fo_M_7 so_78 rfl sp_78_0 ?_
    refine tq_iconst (E := E_M_on d) (pc := 49) (cks_at k_M_on 31 rfl rfl) ?_
    refine tq_ialdC 1 (E := E_M_on d) (pc := 50) (cks_at k_M_on 32 rfl rfl) sa_79 sn_79 (by decide) ?_
    refine tq_iadd (E := E_M_on d) (pc := 51) (cks_at k_M_on 33 rfl rfl) ?_
    refine tq_iastC (E := E_M_on d) (pc := 52) 0 (cks_at k_M_on 34 rfl rfl) sa_108 sn_108 (by decide) (fun M4 => ?_)
    refine tq_iconst (E := E_M_on d) (pc := 53) (cks_at k_M_on 35 rfl rfl) ?_
    refine tq_istore_n (E := E_M_on d) (pc := 54) (cks_at k_M_on 36 rfl rfl) (show 2 < 4 by decide) rfl ?_
    exact tq_sub [2, 0] rfl (w_M_on_L55 d _ (fun M8 => by
        refine tq_iconst (E := E_M_on d) (pc := 85) (cks_at k_M_on 55 rfl rfl) ?_
        refine tq_istore_n (E := E_M_on d) (pc := 86) (cks_at k_M_on 56 rfl rfl) (show 2 < 4 by decide) rfl ?_
        exact tq_sub [1, 0] rfl (w_M_on_L87 d FU (0, M8))) FU (0, M4))
  · refine tq_aload_n 1 (E := E_M_on d) (pc := 18) (cks_at k_M_on 10 rfl rfl) rfl ?_
    refine tq_getR (j := 80) (E := E_M_on d) (pc := 19) (cks_at k_M_on 11 rfl rfl) fo_M_17 so_78 rfl sp_78_9 ?_
    refine tq_iconst (E := E_M_on d) (pc := 22) (cks_at k_M_on 12 rfl rfl) ?_
    refine tq_dup2 (E := E_M_on d) (pc := 23) (cks_at k_M_on 13 rfl rfl) rfl rfl ?_
    refine tq_ialdC 5 (E := E_M_on d) (pc := 24) (cks_at k_M_on 14 rfl rfl) sa_80 sn_80 (by decide) ?_
    refine tq_iconst (E := E_M_on d) (pc := 25) (cks_at k_M_on 15 rfl rfl) ?_
    refine tq_iadd (E := E_M_on d) (pc := 26) (cks_at k_M_on 16 rfl rfl) ?_
    refine tq_iastC (E := E_M_on d) (pc := 27) 5 (cks_at k_M_on 17 rfl rfl) sa_80 sn_80 (by decide) (fun M17 => ?_)
    refine tq_iconst (E := E_M_on d) (pc := 28) (cks_at k_M_on 18 rfl rfl) ?_
    exact tq_zretC (E := E_M_on d) (pc := 29) (cks_at k_M_on 19 rfl rfl) rfl (by decide)
abbrev E_Told_count (d : Nat) : Ev := (Ct (d + 1), "BreathTown$Told", prog_9_method_4_code, 2, False, 0, (fun _ => 0), (Option.some Jvm.ClassFile.FieldType.int))
def f_Told_count (this : Nat) (v1 : Int) (M : Mm) : Option (Int × Mm) :=
  bI (f_BT_cell (ptr this 0) v1 M) (fun r2 M1 =>
  some (r2, M1))
set_option maxRecDepth 20000 in
set_option maxHeartbeats 4000000 in
theorem c_Told_count (d : Nat) (this : Nat) (hthis : isTold this) (v1 : Int) (M : Mm) (Q : Option Value → Mm → Prop) (h : sat injI (f_Told_count this v1 M) Q) : Ct (d + 2) y_Told_count [.ref this, vI v1] M Q := by
  refine ct_in (d := d + 1) mk_Told_count (Nat.le_of_ble_eq_true rfl) (?_ : T (E_Told_count d) injI 0 [(0, .ref this), (1, vI v1)] [] M (f_Told_count this v1 M)) h
  unfold f_Told_count
  refine tq_aload_n 0 (E := E_Told_count d) (pc := 0) (cks_at k_Told_count 0 rfl rfl) rfl ?_
  refine tq_getR (j := ptr this 0) (E := E_Told_count d) (pc := 1) (cks_at k_Told_count 1 rfl rfl) fo_Told_9 (isTold_ok hthis) rfl rfl ?_
  refine tq_iload_n 1 (E := E_Told_count d) (pc := 4) (cks_at k_Told_count 2 rfl rfl) rfl ?_
  refine tq_S2 (E := E_Told_count d) (pc := 5) (cks_at k_Told_count 3 rfl rfl) mk_BT_cell lk_Told_74 (Nat.le_of_ble_eq_true rfl) (c_BT_cell (d + 0) (ptr this 0) (sa_Told_0 hthis) v1 M) (k_I fun r2 M1 => ?_)
  exact tq_iret (E := E_Told_count d) (pc := 8) (cks_at k_Told_count 4 rfl rfl) rfl
abbrev E_Now_check (d : Nat) : Ev := (Ct (d + 1), "BreathTown$Now", prog_4_method_13_code, 4, False, 0, (fun _ => 0), (Option.some Jvm.ClassFile.FieldType.int))
def f_Now_check_B6 (row0 : Nat) (kH : Int → Int → Int → Mm → Option (Int × Mm)) (v1 v2 v3 : Int) (M : Mm) : Option (Int × Mm) :=
  if i32 v1 ≤ i32 v3 then
    some (v2, M)
  else
    bI (f_BT_cell row0 v3 M) (fun r2 M1 =>
    kH v1 ((i32 ((3 * v2) + r2)).tmod (i32 251)) (v3 + 1) M1)
set_option maxRecDepth 20000 in
set_option maxHeartbeats 4000000 in
theorem w_Now_check_B6 (d : Nat) (row0 : Nat) (hrow0 : skind row0 = 20 ∧ row0 < NC) (kH : Int → Int → Int → Mm → Option (Int × Mm)) (hkH : ∀ (v1 v2 v3 : Int) (M : Mm), T (E_Now_check d) injI 6 [(0, .ref row0), (1, vI v1), (2, vI v2), (3, vI v3)] [] M (kH v1 v2 v3 M)) (v1 v2 v3 : Int) (M : Mm) : T (E_Now_check d) injI 6 [(0, .ref row0), (1, vI v1), (2, vI v2), (3, vI v3)] [] M (f_Now_check_B6 row0 kH v1 v2 v3 M) := by
  unfold f_Now_check_B6
  refine tq_iload_n 3 (E := E_Now_check d) (pc := 6) (cks_at k_Now_check 4 rfl rfl) rfl ?_
  refine tq_iload_n 1 (E := E_Now_check d) (pc := 7) (cks_at k_Now_check 5 rfl rfl) rfl ?_
  refine tq_icmp_ge (E := E_Now_check d) (pc := 8) (tgt := 31) (cks_at k_Now_check 6 rfl rfl) (by decide) ?_ ?_
  · refine tq_iload_n 2 (E := E_Now_check d) (pc := 31) (cks_at k_Now_check 19 rfl rfl) rfl ?_
    exact tq_iret (E := E_Now_check d) (pc := 32) (cks_at k_Now_check 20 rfl rfl) rfl
  · refine tq_iconst (E := E_Now_check d) (pc := 11) (cks_at k_Now_check 7 rfl rfl) ?_
    refine tq_iload_n 2 (E := E_Now_check d) (pc := 12) (cks_at k_Now_check 8 rfl rfl) rfl ?_
    refine tq_imul (E := E_Now_check d) (pc := 13) (cks_at k_Now_check 9 rfl rfl) ?_
    refine tq_aload_n 0 (E := E_Now_check d) (pc := 14) (cks_at k_Now_check 10 rfl rfl) rfl ?_
    refine tq_iload_n 3 (E := E_Now_check d) (pc := 15) (cks_at k_Now_check 11 rfl rfl) rfl ?_
    refine tq_S2 (E := E_Now_check d) (pc := 16) (cks_at k_Now_check 12 rfl rfl) mk_BT_cell lk_Now_57 (Nat.le_of_ble_eq_true rfl) (c_BT_cell (d + 0) row0 hrow0 v3 M) (k_I fun r2 M1 => ?_)
    refine tq_iadd (E := E_Now_check d) (pc := 19) (cks_at k_Now_check 13 rfl rfl) ?_
    refine tq_sipush (E := E_Now_check d) (pc := 20) (cks_at k_Now_check 14 rfl rfl) (by decide) (by decide) ?_
    refine tq_iremC (E := E_Now_check d) (pc := 23) (cks_at k_Now_check 15 rfl rfl) (by decide) ?_
    refine tq_istore_n (E := E_Now_check d) (pc := 24) (cks_at k_Now_check 16 rfl rfl) (show 2 < 4 by decide) rfl ?_
    refine tq_iinc 3 (E := E_Now_check d) (pc := 25) (cks_at k_Now_check 17 rfl rfl) rfl (show 3 < 4 by decide) rfl ?_
    refine tq_goto (tgt := 6) (E := E_Now_check d) (pc := 28) (cks_at k_Now_check 18 rfl rfl) (by decide) ?_
    exact tq_sub [2, 3, 1, 0] rfl (hkH v1 ((i32 ((3 * v2) + r2)).tmod (i32 251)) (v3 + 1) M1)
def f_Now_check_L6 (row0 : Nat) : Nat → Int × Int × Int × Mm → Option (Int × Mm) := lp fun kH s => f_Now_check_B6 row0 (fun v1 v2 v3 M => kH (v1, v2, v3, M)) s.1 s.2.1 s.2.2.1 s.2.2.2
set_option maxRecDepth 20000 in
set_option maxHeartbeats 4000000 in
theorem w_Now_check_L6 (d : Nat) (row0 : Nat) (hrow0 : skind row0 = 20 ∧ row0 < NC) (n : Nat) (s : Int × Int × Int × Mm) : T (E_Now_check d) injI 6 [(0, .ref row0), (1, vI s.1), (2, vI s.2.1), (3, vI s.2.2.1)] [] s.2.2.2 (f_Now_check_L6 row0 n s) :=
  tq_lp (fun s => [(0, .ref row0), (1, vI s.1), (2, vI s.2.1), (3, vI s.2.2.1)]) (fun s => s.2.2.2) (fun kH hH s => w_Now_check_B6 d row0 hrow0 (fun v1 v2 v3 M => kH (v1, v2, v3, M)) (fun v1 v2 v3 M => hH (v1, v2, v3, M)) s.1 s.2.1 s.2.2.1 s.2.2.2) n s
def f_Now_check (row0 : Nat) (v1 : Int) (M : Mm) : Option (Int × Mm) :=
  f_Now_check_L6 row0 FU (v1, 163, 0, M)
set_option maxRecDepth 20000 in
set_option maxHeartbeats 4000000 in
theorem c_Now_check (d : Nat) (row0 : Nat) (hrow0 : skind row0 = 20 ∧ row0 < NC) (v1 : Int) (M : Mm) (Q : Option Value → Mm → Prop) (h : sat injI (f_Now_check row0 v1 M) Q) : Ct (d + 2) y_Now_check [.ref row0, vI v1] M Q := by
  refine ct_in (d := d + 1) mk_Now_check (Nat.le_of_ble_eq_true rfl) (?_ : T (E_Now_check d) injI 0 [(0, .ref row0), (1, vI v1)] [] M (f_Now_check row0 v1 M)) h
  unfold f_Now_check
  refine tq_sipush (E := E_Now_check d) (pc := 0) (cks_at k_Now_check 0 rfl rfl) (by decide) (by decide) ?_
  refine tq_istore_n (E := E_Now_check d) (pc := 3) (cks_at k_Now_check 1 rfl rfl) (show 2 < 4 by decide) rfl ?_
  refine tq_iconst (E := E_Now_check d) (pc := 4) (cks_at k_Now_check 2 rfl rfl) ?_
  refine tq_istore_n (E := E_Now_check d) (pc := 5) (cks_at k_Now_check 3 rfl rfl) (show 3 < 4 by decide) rfl ?_
  exact tq_sub [2, 3, 1, 0] rfl (w_Now_check_L6 d row0 hrow0 FU (v1, 163, 0, M))
abbrev E_Now_hourAt (d : Nat) : Ev := (Ct (d + 1), "BreathTown$Now", prog_4_method_14_code, 2, False, 0, (fun _ => 0), (Option.some Jvm.ClassFile.FieldType.int))
def f_Now_hourAt (v1 : Int) (M : Mm) : Option (Int × Mm) :=
  bI (f_Scan_byteAt v1 M) (fun r2 M1 =>
  bI (f_Scan_byteAt (v1 + 1) M1) (fun r4 M3 =>
  some ((r2 * 256) + r4, M3)))
set_option maxRecDepth 20000 in
set_option maxHeartbeats 4000000 in
theorem c_Now_hourAt (d : Nat) (v1 : Int) (M : Mm) (Q : Option Value → Mm → Prop) (h : sat injI (f_Now_hourAt v1 M) Q) : Ct (d + 2) y_Now_hourAt [.ref 1, vI v1] M Q := by
  refine ct_in (d := d + 1) mk_Now_hourAt (Nat.le_of_ble_eq_true rfl) (?_ : T (E_Now_hourAt d) injI 0 [(0, .ref 1), (1, vI v1)] [] M (f_Now_hourAt v1 M)) h
  unfold f_Now_hourAt
  refine tq_aload_n 0 (E := E_Now_hourAt d) (pc := 0) (cks_at k_Now_hourAt 0 rfl rfl) rfl ?_
  refine tq_iload_n 1 (E := E_Now_hourAt d) (pc := 1) (cks_at k_Now_hourAt 1 rfl rfl) rfl ?_
  refine tq_V1 (E := E_Now_hourAt d) (pc := 2) (cks_at k_Now_hourAt 2 rfl rfl) mk_Scan_byteAt lk_Now_98 rc_1 (Nat.le_of_ble_eq_true rfl) (c_Scan_byteAt (d + 0) v1 M) (k_I fun r2 M1 => ?_)
  refine tq_sipush (E := E_Now_hourAt d) (pc := 5) (cks_at k_Now_hourAt 3 rfl rfl) (by decide) (by decide) ?_
  refine tq_imul (E := E_Now_hourAt d) (pc := 8) (cks_at k_Now_hourAt 4 rfl rfl) ?_
  refine tq_aload_n 0 (E := E_Now_hourAt d) (pc := 9) (cks_at k_Now_hourAt 5 rfl rfl) rfl ?_
  refine tq_iload_n 1 (E := E_Now_hourAt d) (pc := 10) (cks_at k_Now_hourAt 6 rfl rfl) rfl ?_
  refine tq_iconst (E := E_Now_hourAt d) (pc := 11) (cks_at k_Now_hourAt 7 rfl rfl) ?_
  refine tq_iadd (E := E_Now_hourAt d) (pc := 12) (cks_at k_Now_hourAt 8 rfl rfl) ?_
  refine tq_V1 (E := E_Now_hourAt d) (pc := 13) (cks_at k_Now_hourAt 9 rfl rfl) mk_Scan_byteAt lk_Now_98 rc_1 (Nat.le_of_ble_eq_true rfl) (c_Scan_byteAt (d + 0) (v1 + 1) M1) (k_I fun r4 M3 => ?_)
  refine tq_iadd (E := E_Now_hourAt d) (pc := 16) (cks_at k_Now_hourAt 10 rfl rfl) ?_
  exact tq_iret (E := E_Now_hourAt d) (pc := 17) (cks_at k_Now_hourAt 11 rfl rfl) rfl
abbrev E_Now_isWalker (d : Nat) : Ev := (Ct (d + 2), "BreathTown$Now", prog_4_method_16_code, 9, False, 0, (fun _ => 0), (Option.some Jvm.ClassFile.FieldType.boolean))
def f_Now_isWalker_J75 (v3 s0 : Int) (M : Mm) : Option (Int × Mm) :=
  if i32 s0 = 0 then
    some (0, M)
  else
    bI (f_Now_hourAt (v3 + 2) M) (fun r10 M9 =>
    if i32 9999 < i32 r10 then
      some (0, M9)
    else
      some (1, M9))
set_option maxRecDepth 20000 in
set_option maxHeartbeats 4000000 in
theorem w_Now_isWalker_J75 (d : Nat) (v3 s0 : Int) (M : Mm) : T (E_Now_isWalker d) injI 75 [(1, .ref 1), (3, vI v3)] [vI s0] M (f_Now_isWalker_J75 v3 s0 M) := by
  unfold f_Now_isWalker_J75
  refine tq_istore (E := E_Now_isWalker d) (pc := 75) (cks_at k_Now_isWalker 37 rfl rfl) (show 8 < 9 by decide) rfl ?_
  refine tq_iload 0 (E := E_Now_isWalker d) (pc := 77) (cks_at k_Now_isWalker 38 rfl rfl) rfl ?_
  refine tq_if_eq (E := E_Now_isWalker d) (pc := 79) (tgt := 99) (cks_at k_Now_isWalker 39 rfl rfl) (by decide) ?_ ?_
  · refine tq_iconst (E := E_Now_isWalker d) (pc := 99) (cks_at k_Now_isWalker 49 rfl rfl) ?_
    exact tq_zretC (E := E_Now_isWalker d) (pc := 100) (cks_at k_Now_isWalker 50 rfl rfl) rfl (by decide)
  · refine tq_aload_n 1 (E := E_Now_isWalker d) (pc := 82) (cks_at k_Now_isWalker 40 rfl rfl) rfl ?_
    refine tq_iload_n 2 (E := E_Now_isWalker d) (pc := 83) (cks_at k_Now_isWalker 41 rfl rfl) rfl ?_
    refine tq_iconst (E := E_Now_isWalker d) (pc := 84) (cks_at k_Now_isWalker 42 rfl rfl) ?_
    refine tq_iadd (E := E_Now_isWalker d) (pc := 85) (cks_at k_Now_isWalker 43 rfl rfl) ?_
    refine tq_S2 (E := E_Now_isWalker d) (pc := 86) (cks_at k_Now_isWalker 44 rfl rfl) mk_Now_hourAt lk_Now_109 (Nat.le_of_ble_eq_true rfl) (c_Now_hourAt (d + 0) (v3 + 2) M) (k_I fun r10 M9 => ?_)
    refine tq_sipush (E := E_Now_isWalker d) (pc := 89) (cks_at k_Now_isWalker 45 rfl rfl) (by decide) (by decide) ?_
    refine tq_icmp_gt (E := E_Now_isWalker d) (pc := 92) (tgt := 99) (cks_at k_Now_isWalker 46 rfl rfl) (by decide) ?_ ?_
    · refine tq_iconst (E := E_Now_isWalker d) (pc := 99) (cks_at k_Now_isWalker 49 rfl rfl) ?_
      exact tq_zretC (E := E_Now_isWalker d) (pc := 100) (cks_at k_Now_isWalker 50 rfl rfl) rfl (by decide)
    · refine tq_iconst (E := E_Now_isWalker d) (pc := 95) (cks_at k_Now_isWalker 47 rfl rfl) ?_
      refine tq_goto (tgt := 100) (E := E_Now_isWalker d) (pc := 96) (cks_at k_Now_isWalker 48 rfl rfl) (by decide) ?_
      exact tq_zretC (E := E_Now_isWalker d) (pc := 100) (cks_at k_Now_isWalker 50 rfl rfl) rfl (by decide)
def f_Now_isWalker_J56 (v3 v4 v5 v6 v7 : Int) (M : Mm) : Option (Int × Mm) :=
  if ¬ i32 v4 = i32 v7 then
    f_Now_isWalker_J75 v3 0 M
  else
    if ¬ i32 v5 = i32 v6 then
      f_Now_isWalker_J75 v3 0 M
    else
      f_Now_isWalker_J75 v3 1 M
set_option maxRecDepth 20000 in
set_option maxHeartbeats 4000000 in
theorem w_Now_isWalker_J56 (d : Nat) (v3 v4 v5 v6 v7 : Int) (M : Mm) : T (E_Now_isWalker d) injI 56 [(1, .ref 1), (3, vI v3), (4, vI v4), (5, vI v5), (6, vI v6), (7, vI v7)] [] M (f_Now_isWalker_J56 v3 v4 v5 v6 v7 M) := by
  unfold f_Now_isWalker_J56
  refine tq_iload 2 (E := E_Now_isWalker d) (pc := 56) (cks_at k_Now_isWalker 28 rfl rfl) rfl ?_
  refine tq_iload 5 (E := E_Now_isWalker d) (pc := 58) (cks_at k_Now_isWalker 29 rfl rfl) rfl ?_
  refine tq_icmp_ne (E := E_Now_isWalker d) (pc := 60) (tgt := 74) (cks_at k_Now_isWalker 30 rfl rfl) (by decide) ?_ ?_
  · refine tq_iconst (E := E_Now_isWalker d) (pc := 74) (cks_at k_Now_isWalker 36 rfl rfl) ?_
    exact tq_sub [0, 1] rfl (w_Now_isWalker_J75 d v3 0 M)
  · refine tq_iload 3 (E := E_Now_isWalker d) (pc := 63) (cks_at k_Now_isWalker 31 rfl rfl) rfl ?_
    refine tq_iload 4 (E := E_Now_isWalker d) (pc := 65) (cks_at k_Now_isWalker 32 rfl rfl) rfl ?_
    refine tq_icmp_ne (E := E_Now_isWalker d) (pc := 67) (tgt := 74) (cks_at k_Now_isWalker 33 rfl rfl) (by decide) ?_ ?_
    · refine tq_iconst (E := E_Now_isWalker d) (pc := 74) (cks_at k_Now_isWalker 36 rfl rfl) ?_
      exact tq_sub [0, 1] rfl (w_Now_isWalker_J75 d v3 0 M)
    · refine tq_iconst (E := E_Now_isWalker d) (pc := 70) (cks_at k_Now_isWalker 34 rfl rfl) ?_
      refine tq_goto (tgt := 75) (E := E_Now_isWalker d) (pc := 71) (cks_at k_Now_isWalker 35 rfl rfl) (by decide) ?_
      exact tq_sub [0, 1] rfl (w_Now_isWalker_J75 d v3 1 M)
def f_Now_isWalker (v2 : Int) (v3 : Int) (M : Mm) : Option (Int × Mm) :=
  bI (f_Scan_byteAt v3 M) (fun r2 M1 =>
  bI (f_Scan_byteAt (v3 + 1) M1) (fun r4 M3 =>
  bI (f_BT_cell 14 v2 M3) (fun r6 M5 =>
  bI (f_BT_cell 15 v2 M5) (fun r8 M7 =>
  if ¬ i32 r2 = i32 r6 then
    f_Now_isWalker_J56 v3 r2 r4 r6 r8 M7
  else
    if i32 r4 = i32 r8 then
      f_Now_isWalker_J75 v3 1 M7
    else
      f_Now_isWalker_J56 v3 r2 r4 r6 r8 M7))))
set_option maxRecDepth 20000 in
set_option maxHeartbeats 4000000 in
theorem c_Now_isWalker (d : Nat) (v2 : Int) (v3 : Int) (M : Mm) (Q : Option Value → Mm → Prop) (h : sat injI (f_Now_isWalker v2 v3 M) Q) : Ct (d + 3) y_Now_isWalker [.ref 39, .ref 1, vI v2, vI v3] M Q := by
  refine ct_in (d := d + 2) mk_Now_isWalker (Nat.le_of_ble_eq_true rfl) (?_ : T (E_Now_isWalker d) injI 0 [(0, .ref 39), (1, .ref 1), (2, vI v2), (3, vI v3)] [] M (f_Now_isWalker v2 v3 M)) h
  unfold f_Now_isWalker
  refine tq_aload_n 1 (E := E_Now_isWalker d) (pc := 0) (cks_at k_Now_isWalker 0 rfl rfl) rfl ?_
  refine tq_iload_n 3 (E := E_Now_isWalker d) (pc := 1) (cks_at k_Now_isWalker 1 rfl rfl) rfl ?_
  refine tq_V1 (E := E_Now_isWalker d) (pc := 2) (cks_at k_Now_isWalker 2 rfl rfl) mk_Scan_byteAt lk_Now_98 rc_1 (Nat.le_of_ble_eq_true rfl) (c_Scan_byteAt (d + 1) v3 M) (k_I fun r2 M1 => ?_)
  refine tq_istore (E := E_Now_isWalker d) (pc := 5) (cks_at k_Now_isWalker 3 rfl rfl) (show 4 < 9 by decide) rfl ?_
  refine tq_aload_n 2 (E := E_Now_isWalker d) (pc := 7) (cks_at k_Now_isWalker 4 rfl rfl) rfl ?_
  refine tq_iload_n 4 (E := E_Now_isWalker d) (pc := 8) (cks_at k_Now_isWalker 5 rfl rfl) rfl ?_
  refine tq_iconst (E := E_Now_isWalker d) (pc := 9) (cks_at k_Now_isWalker 6 rfl rfl) ?_
  refine tq_iadd (E := E_Now_isWalker d) (pc := 10) (cks_at k_Now_isWalker 7 rfl rfl) ?_
  refine tq_V1 (E := E_Now_isWalker d) (pc := 11) (cks_at k_Now_isWalker 8 rfl rfl) mk_Scan_byteAt lk_Now_98 rc_1 (Nat.le_of_ble_eq_true rfl) (c_Scan_byteAt (d + 1) (v3 + 1) M1) (k_I fun r4 M3 => ?_)
  refine tq_istore (E := E_Now_isWalker d) (pc := 14) (cks_at k_Now_isWalker 9 rfl rfl) (show 5 < 9 by decide) rfl ?_
  refine tq_aload_n 2 (E := E_Now_isWalker d) (pc := 16) (cks_at k_Now_isWalker 10 rfl rfl) rfl ?_
  refine tq_getR (j := 3) (E := E_Now_isWalker d) (pc := 17) (cks_at k_Now_isWalker 11 rfl rfl) fo_Now_30 so_39 rfl sp_39_0 ?_
  refine tq_getR (j := 14) (E := E_Now_isWalker d) (pc := 20) (cks_at k_Now_isWalker 12 rfl rfl) fo_Now_51 so_3 rfl sp_3_10 ?_
  refine tq_iload_n 4 (E := E_Now_isWalker d) (pc := 23) (cks_at k_Now_isWalker 13 rfl rfl) rfl ?_
  refine tq_S2 (E := E_Now_isWalker d) (pc := 24) (cks_at k_Now_isWalker 14 rfl rfl) mk_BT_cell lk_Now_57 (Nat.le_of_ble_eq_true rfl) (c_BT_cell (d + 1) 14 sa_14 v2 M3) (k_I fun r6 M5 => ?_)
  refine tq_istore (E := E_Now_isWalker d) (pc := 27) (cks_at k_Now_isWalker 15 rfl rfl) (show 6 < 9 by decide) rfl ?_
  refine tq_aload_n 3 (E := E_Now_isWalker d) (pc := 29) (cks_at k_Now_isWalker 16 rfl rfl) rfl ?_
  refine tq_getR (j := 3) (E := E_Now_isWalker d) (pc := 30) (cks_at k_Now_isWalker 17 rfl rfl) fo_Now_30 so_39 rfl sp_39_0 ?_
  refine tq_getR (j := 15) (E := E_Now_isWalker d) (pc := 33) (cks_at k_Now_isWalker 18 rfl rfl) fo_Now_52 so_3 rfl sp_3_11 ?_
  refine tq_iload_n 5 (E := E_Now_isWalker d) (pc := 36) (cks_at k_Now_isWalker 19 rfl rfl) rfl ?_
  refine tq_S2 (E := E_Now_isWalker d) (pc := 37) (cks_at k_Now_isWalker 20 rfl rfl) mk_BT_cell lk_Now_57 (Nat.le_of_ble_eq_true rfl) (c_BT_cell (d + 1) 15 sa_15 v2 M5) (k_I fun r8 M7 => ?_)
  refine tq_istore (E := E_Now_isWalker d) (pc := 40) (cks_at k_Now_isWalker 21 rfl rfl) (show 7 < 9 by decide) rfl ?_
  refine tq_iload 3 (E := E_Now_isWalker d) (pc := 42) (cks_at k_Now_isWalker 22 rfl rfl) rfl ?_
  refine tq_iload 1 (E := E_Now_isWalker d) (pc := 44) (cks_at k_Now_isWalker 23 rfl rfl) rfl ?_
  refine tq_icmp_ne (E := E_Now_isWalker d) (pc := 46) (tgt := 56) (cks_at k_Now_isWalker 24 rfl rfl) (by decide) ?_ ?_
  · exact tq_sub [5, 7, 3, 2, 1, 0] rfl (w_Now_isWalker_J56 d v3 r2 r4 r6 r8 M7)
  · refine tq_iload 2 (E := E_Now_isWalker d) (pc := 49) (cks_at k_Now_isWalker 25 rfl rfl) rfl ?_
    refine tq_iload 0 (E := E_Now_isWalker d) (pc := 51) (cks_at k_Now_isWalker 26 rfl rfl) rfl ?_
    refine tq_icmp_eq (E := E_Now_isWalker d) (pc := 53) (tgt := 70) (cks_at k_Now_isWalker 27 rfl rfl) (by decide) ?_ ?_
    · refine tq_iconst (E := E_Now_isWalker d) (pc := 70) (cks_at k_Now_isWalker 34 rfl rfl) ?_
      refine tq_goto (tgt := 75) (E := E_Now_isWalker d) (pc := 71) (cks_at k_Now_isWalker 35 rfl rfl) (by decide) ?_
      exact tq_sub [5, 7] rfl (w_Now_isWalker_J75 d v3 1 M7)
    · exact tq_sub [5, 7, 3, 2, 1, 0] rfl (w_Now_isWalker_J56 d v3 r2 r4 r6 r8 M7)
abbrev E_Now_isPicture (d : Nat) : Ev := (Ct (d + 3), "BreathTown$Now", prog_4_method_15_code, 6, False, 0, (fun _ => 0), (Option.some Jvm.ClassFile.FieldType.boolean))
def f_Now_isPicture_B72 (kH : Int → Int → Int → Mm → Option (Int × Mm)) (kx109 : Int → Int → Mm → Option (Int × Mm)) (v2 v3 v5 : Int) (M : Mm) : Option (Int × Mm) :=
  if i32 v2 ≤ i32 v5 then
    kx109 v2 v3 M
  else
    bI (f_Scan_byteAt (2 + v5) M) (fun r12 M11 =>
    bI (f_BT_cell 9 v5 M11) (fun r14 M13 =>
    if i32 r12 < i32 r14 then
      kH v2 v3 (v5 + 1) M13
    else
      some (0, M13)))
set_option maxRecDepth 20000 in
set_option maxHeartbeats 4000000 in
theorem w_Now_isPicture_B72 (d : Nat) (kH : Int → Int → Int → Mm → Option (Int × Mm)) (kx109 : Int → Int → Mm → Option (Int × Mm)) (hkH : ∀ (v2 v3 v5 : Int) (M : Mm), T (E_Now_isPicture d) injI 72 [(0, .ref 39), (1, .ref 1), (2, vI v2), (3, vI v3), (5, vI v5)] [] M (kH v2 v3 v5 M)) (hkx109 : ∀ (v2 v3 : Int) (M : Mm), T (E_Now_isPicture d) injI 109 [(0, .ref 39), (1, .ref 1), (2, vI v2), (3, vI v3)] [] M (kx109 v2 v3 M)) (v2 v3 v5 : Int) (M : Mm) : T (E_Now_isPicture d) injI 72 [(0, .ref 39), (1, .ref 1), (2, vI v2), (3, vI v3), (5, vI v5)] [] M (f_Now_isPicture_B72 kH kx109 v2 v3 v5 M) := by
  unfold f_Now_isPicture_B72
  refine tq_iload 4 (E := E_Now_isPicture d) (pc := 72) (cks_at k_Now_isPicture 41 rfl rfl) rfl ?_
  refine tq_iload_n 2 (E := E_Now_isPicture d) (pc := 74) (cks_at k_Now_isPicture 42 rfl rfl) rfl ?_
  refine tq_icmp_ge (E := E_Now_isPicture d) (pc := 75) (tgt := 109) (cks_at k_Now_isPicture 43 rfl rfl) (by decide) ?_ ?_
  · exact tq_sub [0, 1, 2, 3] rfl (hkx109 v2 v3 M)
  · refine tq_aload_n 1 (E := E_Now_isPicture d) (pc := 78) (cks_at k_Now_isPicture 44 rfl rfl) rfl ?_
    refine tq_iconst (E := E_Now_isPicture d) (pc := 79) (cks_at k_Now_isPicture 45 rfl rfl) ?_
    refine tq_iload 4 (E := E_Now_isPicture d) (pc := 80) (cks_at k_Now_isPicture 46 rfl rfl) rfl ?_
    refine tq_iadd (E := E_Now_isPicture d) (pc := 82) (cks_at k_Now_isPicture 47 rfl rfl) ?_
    refine tq_V1 (E := E_Now_isPicture d) (pc := 83) (cks_at k_Now_isPicture 48 rfl rfl) mk_Scan_byteAt lk_Now_98 rc_1 (Nat.le_of_ble_eq_true rfl) (c_Scan_byteAt (d + 2) (2 + v5) M) (k_I fun r12 M11 => ?_)
    refine tq_aload_n 0 (E := E_Now_isPicture d) (pc := 86) (cks_at k_Now_isPicture 49 rfl rfl) rfl ?_
    refine tq_getR (j := 3) (E := E_Now_isPicture d) (pc := 87) (cks_at k_Now_isPicture 50 rfl rfl) fo_Now_30 so_39 rfl sp_39_0 ?_
    refine tq_getR (j := 9) (E := E_Now_isPicture d) (pc := 90) (cks_at k_Now_isPicture 51 rfl rfl) fo_Now_71 so_3 rfl sp_3_5 ?_
    refine tq_iload 4 (E := E_Now_isPicture d) (pc := 93) (cks_at k_Now_isPicture 52 rfl rfl) rfl ?_
    refine tq_S2 (E := E_Now_isPicture d) (pc := 95) (cks_at k_Now_isPicture 53 rfl rfl) mk_BT_cell lk_Now_57 (Nat.le_of_ble_eq_true rfl) (c_BT_cell (d + 2) 9 sa_9 v5 M11) (k_I fun r14 M13 => ?_)
    refine tq_icmp_lt (E := E_Now_isPicture d) (pc := 98) (tgt := 103) (cks_at k_Now_isPicture 54 rfl rfl) (by decide) ?_ ?_
    · refine tq_iinc 4 (E := E_Now_isPicture d) (pc := 103) (cks_at k_Now_isPicture 57 rfl rfl) rfl (show 5 < 6 by decide) rfl ?_
      refine tq_goto (tgt := 72) (E := E_Now_isPicture d) (pc := 106) (cks_at k_Now_isPicture 58 rfl rfl) (by decide) ?_
      exact tq_sub [1, 2, 3, 4, 0] rfl (hkH v2 v3 (v5 + 1) M13)
    · refine tq_iconst (E := E_Now_isPicture d) (pc := 101) (cks_at k_Now_isPicture 55 rfl rfl) ?_
      exact tq_zretC (E := E_Now_isPicture d) (pc := 102) (cks_at k_Now_isPicture 56 rfl rfl) rfl (by decide)
def f_Now_isPicture_L72 (kx109 : Int → Int → Mm → Option (Int × Mm)) : Nat → Int × Int × Int × Mm → Option (Int × Mm) := lp fun kH s => f_Now_isPicture_B72 (fun v2 v3 v5 M => kH (v2, v3, v5, M)) kx109 s.1 s.2.1 s.2.2.1 s.2.2.2
set_option maxRecDepth 20000 in
set_option maxHeartbeats 4000000 in
theorem w_Now_isPicture_L72 (d : Nat) (kx109 : Int → Int → Mm → Option (Int × Mm)) (hkx109 : ∀ (v2 v3 : Int) (M : Mm), T (E_Now_isPicture d) injI 109 [(0, .ref 39), (1, .ref 1), (2, vI v2), (3, vI v3)] [] M (kx109 v2 v3 M)) (n : Nat) (s : Int × Int × Int × Mm) : T (E_Now_isPicture d) injI 72 [(0, .ref 39), (1, .ref 1), (2, vI s.1), (3, vI s.2.1), (5, vI s.2.2.1)] [] s.2.2.2 (f_Now_isPicture_L72 kx109 n s) :=
  tq_lp (fun s => [(0, .ref 39), (1, .ref 1), (2, vI s.1), (3, vI s.2.1), (5, vI s.2.2.1)]) (fun s => s.2.2.2) (fun kH hH s => w_Now_isPicture_B72 d (fun v2 v3 v5 M => kH (v2, v3, v5, M)) kx109 (fun v2 v3 v5 M => hH (v2, v3, v5, M)) hkx109 s.1 s.2.1 s.2.2.1 s.2.2.2) n s
def f_Now_isPicture_B112 (kH : Int → Int → Int → Mm → Option (Int × Mm)) (v2 v3 v5 : Int) (M : Mm) : Option (Int × Mm) :=
  if i32 v3 ≤ i32 v5 then
    some (1, M)
  else
    bI (f_Now_isWalker v5 ((2 + v2) + (4 * v5)) M) (fun r17 M16 =>
    if ¬ i32 r17 = 0 then
      kH v2 v3 (v5 + 1) M16
    else
      some (0, M16))
set_option maxRecDepth 20000 in
set_option maxHeartbeats 4000000 in
theorem w_Now_isPicture_B112 (d : Nat) (kH : Int → Int → Int → Mm → Option (Int × Mm)) (hkH : ∀ (v2 v3 v5 : Int) (M : Mm), T (E_Now_isPicture d) injI 112 [(0, .ref 39), (1, .ref 1), (2, vI v2), (3, vI v3), (5, vI v5)] [] M (kH v2 v3 v5 M)) (v2 v3 v5 : Int) (M : Mm) : T (E_Now_isPicture d) injI 112 [(0, .ref 39), (1, .ref 1), (2, vI v2), (3, vI v3), (5, vI v5)] [] M (f_Now_isPicture_B112 kH v2 v3 v5 M) := by
  unfold f_Now_isPicture_B112
  refine tq_iload 4 (E := E_Now_isPicture d) (pc := 112) (cks_at k_Now_isPicture 61 rfl rfl) rfl ?_
  refine tq_iload_n 3 (E := E_Now_isPicture d) (pc := 114) (cks_at k_Now_isPicture 62 rfl rfl) rfl ?_
  refine tq_icmp_ge (E := E_Now_isPicture d) (pc := 115) (tgt := 144) (cks_at k_Now_isPicture 63 rfl rfl) (by decide) ?_ ?_
  · refine tq_iconst (E := E_Now_isPicture d) (pc := 144) (cks_at k_Now_isPicture 80 rfl rfl) ?_
    exact tq_zretC (E := E_Now_isPicture d) (pc := 145) (cks_at k_Now_isPicture 81 rfl rfl) rfl (by decide)
  · refine tq_aload_n 0 (E := E_Now_isPicture d) (pc := 118) (cks_at k_Now_isPicture 64 rfl rfl) rfl ?_
    refine tq_aload_n 1 (E := E_Now_isPicture d) (pc := 119) (cks_at k_Now_isPicture 65 rfl rfl) rfl ?_
    refine tq_iload 4 (E := E_Now_isPicture d) (pc := 120) (cks_at k_Now_isPicture 66 rfl rfl) rfl ?_
    refine tq_iconst (E := E_Now_isPicture d) (pc := 122) (cks_at k_Now_isPicture 67 rfl rfl) ?_
    refine tq_iload_n 2 (E := E_Now_isPicture d) (pc := 123) (cks_at k_Now_isPicture 68 rfl rfl) rfl ?_
    refine tq_iadd (E := E_Now_isPicture d) (pc := 124) (cks_at k_Now_isPicture 69 rfl rfl) ?_
    refine tq_iconst (E := E_Now_isPicture d) (pc := 125) (cks_at k_Now_isPicture 70 rfl rfl) ?_
    refine tq_iload 4 (E := E_Now_isPicture d) (pc := 126) (cks_at k_Now_isPicture 71 rfl rfl) rfl ?_
    refine tq_imul (E := E_Now_isPicture d) (pc := 128) (cks_at k_Now_isPicture 72 rfl rfl) ?_
    refine tq_iadd (E := E_Now_isPicture d) (pc := 129) (cks_at k_Now_isPicture 73 rfl rfl) ?_
    refine tq_V3 (E := E_Now_isPicture d) (pc := 130) (cks_at k_Now_isPicture 74 rfl rfl) mk_Now_isWalker lk_Now_113 rc_39 (Nat.le_of_ble_eq_true rfl) (c_Now_isWalker (d + 0) v5 ((2 + v2) + (4 * v5)) M) (k_I fun r17 M16 => ?_)
    refine tq_if_ne (E := E_Now_isPicture d) (pc := 133) (tgt := 138) (cks_at k_Now_isPicture 75 rfl rfl) (by decide) ?_ ?_
    · refine tq_iinc 4 (E := E_Now_isPicture d) (pc := 138) (cks_at k_Now_isPicture 78 rfl rfl) rfl (show 5 < 6 by decide) rfl ?_
      refine tq_goto (tgt := 112) (E := E_Now_isPicture d) (pc := 141) (cks_at k_Now_isPicture 79 rfl rfl) (by decide) ?_
      exact tq_sub [1, 2, 3, 4, 0] rfl (hkH v2 v3 (v5 + 1) M16)
    · refine tq_iconst (E := E_Now_isPicture d) (pc := 136) (cks_at k_Now_isPicture 76 rfl rfl) ?_
      exact tq_zretC (E := E_Now_isPicture d) (pc := 137) (cks_at k_Now_isPicture 77 rfl rfl) rfl (by decide)
def f_Now_isPicture_L112 : Nat → Int × Int × Int × Mm → Option (Int × Mm) := lp fun kH s => f_Now_isPicture_B112 (fun v2 v3 v5 M => kH (v2, v3, v5, M)) s.1 s.2.1 s.2.2.1 s.2.2.2
set_option maxRecDepth 20000 in
set_option maxHeartbeats 4000000 in
theorem w_Now_isPicture_L112 (d : Nat) (n : Nat) (s : Int × Int × Int × Mm) : T (E_Now_isPicture d) injI 112 [(0, .ref 39), (1, .ref 1), (2, vI s.1), (3, vI s.2.1), (5, vI s.2.2.1)] [] s.2.2.2 (f_Now_isPicture_L112 n s) :=
  tq_lp (fun s => [(0, .ref 39), (1, .ref 1), (2, vI s.1), (3, vI s.2.1), (5, vI s.2.2.1)]) (fun s => s.2.2.2) (fun kH hH s => w_Now_isPicture_B112 d (fun v2 v3 v5 M => kH (v2, v3, v5, M)) (fun v2 v3 v5 M => hH (v2, v3, v5, M)) s.1 s.2.1 s.2.2.1 s.2.2.2) n s
def f_Now_isPicture (M : Mm) : Option (Int × Mm) :=
  bI (f_Told_count 3 1 M) (fun r2 M1 =>
  bI (f_Told_count 3 2 M1) (fun r4 M3 =>
  if ¬ i32 (M3 1 1) = i32 (((2 + r2) + (4 * r4)) + 1) then
    some (0, M3)
  else
    bI (f_Scan_byteAt ((2 + r2) + (4 * r4)) M3) (fun r6 M5 =>
    bI (f_Now_check 2 ((2 + r2) + (4 * r4)) M5) (fun r8 M7 =>
    if ¬ i32 r6 = i32 r8 then
      some (0, M7)
    else
      bI (f_Now_hourAt 0 M7) (fun r10 M9 =>
      if i32 r10 ≤ i32 9999 then
        f_Now_isPicture_L72 (fun v2 v3 M15 => f_Now_isPicture_L112 FU (v2, v3, 0, M15)) FU (r2, r4, 0, M9)
      else
        some (0, M9))))))
set_option maxRecDepth 20000 in
set_option maxHeartbeats 4000000 in
theorem c_Now_isPicture (d : Nat) (M : Mm) (Q : Option Value → Mm → Prop) (h : sat injI (f_Now_isPicture M) Q) : Ct (d + 4) y_Now_isPicture [.ref 39, .ref 1] M Q := by
  refine ct_in (d := d + 3) mk_Now_isPicture (Nat.le_of_ble_eq_true rfl) (?_ : T (E_Now_isPicture d) injI 0 [(0, .ref 39), (1, .ref 1)] [] M (f_Now_isPicture M)) h
  unfold f_Now_isPicture
  refine tq_aload_n 0 (E := E_Now_isPicture d) (pc := 0) (cks_at k_Now_isPicture 0 rfl rfl) rfl ?_
  refine tq_getR (j := 3) (E := E_Now_isPicture d) (pc := 1) (cks_at k_Now_isPicture 1 rfl rfl) fo_Now_30 so_39 rfl sp_39_0 ?_
  refine tq_iconst (E := E_Now_isPicture d) (pc := 4) (cks_at k_Now_isPicture 2 rfl rfl) ?_
  refine tq_V1 (E := E_Now_isPicture d) (pc := 5) (cks_at k_Now_isPicture 3 rfl rfl) mk_Told_count lk_Now_67 (isTold_rc (Or.inl rfl)) (Nat.le_of_ble_eq_true rfl) (c_Told_count (d + 1) 3 (Or.inl rfl) 1 M) (k_I fun r2 M1 => ?_)
  refine tq_istore_n (E := E_Now_isPicture d) (pc := 8) (cks_at k_Now_isPicture 4 rfl rfl) (show 2 < 6 by decide) rfl ?_
  refine tq_aload_n 1 (E := E_Now_isPicture d) (pc := 9) (cks_at k_Now_isPicture 5 rfl rfl) rfl ?_
  refine tq_getR (j := 3) (E := E_Now_isPicture d) (pc := 10) (cks_at k_Now_isPicture 6 rfl rfl) fo_Now_30 so_39 rfl sp_39_0 ?_
  refine tq_iconst (E := E_Now_isPicture d) (pc := 13) (cks_at k_Now_isPicture 7 rfl rfl) ?_
  refine tq_V1 (E := E_Now_isPicture d) (pc := 14) (cks_at k_Now_isPicture 8 rfl rfl) mk_Told_count lk_Now_67 (isTold_rc (Or.inl rfl)) (Nat.le_of_ble_eq_true rfl) (c_Told_count (d + 1) 3 (Or.inl rfl) 2 M1) (k_I fun r4 M3 => ?_)
  refine tq_istore_n (E := E_Now_isPicture d) (pc := 17) (cks_at k_Now_isPicture 9 rfl rfl) (show 3 < 6 by decide) rfl ?_
  refine tq_iconst (E := E_Now_isPicture d) (pc := 18) (cks_at k_Now_isPicture 10 rfl rfl) ?_
  refine tq_iload_n 1 (E := E_Now_isPicture d) (pc := 19) (cks_at k_Now_isPicture 11 rfl rfl) rfl ?_
  refine tq_iadd (E := E_Now_isPicture d) (pc := 20) (cks_at k_Now_isPicture 12 rfl rfl) ?_
  refine tq_iconst (E := E_Now_isPicture d) (pc := 21) (cks_at k_Now_isPicture 13 rfl rfl) ?_
  refine tq_iload_n 0 (E := E_Now_isPicture d) (pc := 22) (cks_at k_Now_isPicture 14 rfl rfl) rfl ?_
  refine tq_imul (E := E_Now_isPicture d) (pc := 23) (cks_at k_Now_isPicture 15 rfl rfl) ?_
  refine tq_iadd (E := E_Now_isPicture d) (pc := 24) (cks_at k_Now_isPicture 16 rfl rfl) ?_
  refine tq_istore (E := E_Now_isPicture d) (pc := 25) (cks_at k_Now_isPicture 17 rfl rfl) (show 4 < 6 by decide) rfl ?_
  refine tq_aload_n 4 (E := E_Now_isPicture d) (pc := 27) (cks_at k_Now_isPicture 18 rfl rfl) rfl ?_
  refine tq_getI (E := E_Now_isPicture d) (pc := 28) (cks_at k_Now_isPicture 19 rfl rfl) fo_Now_103 so_1 rfl (by decide) ?_
  refine tq_iload 0 (E := E_Now_isPicture d) (pc := 31) (cks_at k_Now_isPicture 20 rfl rfl) rfl ?_
  refine tq_iconst (E := E_Now_isPicture d) (pc := 33) (cks_at k_Now_isPicture 21 rfl rfl) ?_
  refine tq_iadd (E := E_Now_isPicture d) (pc := 34) (cks_at k_Now_isPicture 22 rfl rfl) ?_
  refine tq_icmp_ne (E := E_Now_isPicture d) (pc := 35) (tgt := 67) (cks_at k_Now_isPicture 23 rfl rfl) (by decide) ?_ ?_
  · refine tq_iconst (E := E_Now_isPicture d) (pc := 67) (cks_at k_Now_isPicture 37 rfl rfl) ?_
    exact tq_zretC (E := E_Now_isPicture d) (pc := 68) (cks_at k_Now_isPicture 38 rfl rfl) rfl (by decide)
  · refine tq_aload_n 4 (E := E_Now_isPicture d) (pc := 38) (cks_at k_Now_isPicture 24 rfl rfl) rfl ?_
    refine tq_iload 0 (E := E_Now_isPicture d) (pc := 39) (cks_at k_Now_isPicture 25 rfl rfl) rfl ?_
    refine tq_V1 (E := E_Now_isPicture d) (pc := 41) (cks_at k_Now_isPicture 26 rfl rfl) mk_Scan_byteAt lk_Now_98 rc_1 (Nat.le_of_ble_eq_true rfl) (c_Scan_byteAt (d + 2) ((2 + r2) + (4 * r4)) M3) (k_I fun r6 M5 => ?_)
    refine tq_aload_n 4 (E := E_Now_isPicture d) (pc := 44) (cks_at k_Now_isPicture 27 rfl rfl) rfl ?_
    refine tq_getR (j := 2) (E := E_Now_isPicture d) (pc := 45) (cks_at k_Now_isPicture 28 rfl rfl) fo_Now_106 so_1 rfl sp_1_0 ?_
    refine tq_iload 0 (E := E_Now_isPicture d) (pc := 48) (cks_at k_Now_isPicture 29 rfl rfl) rfl ?_
    refine tq_S2 (E := E_Now_isPicture d) (pc := 50) (cks_at k_Now_isPicture 30 rfl rfl) mk_Now_check lk_Now_95 (Nat.le_of_ble_eq_true rfl) (c_Now_check (d + 1) 2 sa_2 ((2 + r2) + (4 * r4)) M5) (k_I fun r8 M7 => ?_)
    refine tq_icmp_ne (E := E_Now_isPicture d) (pc := 53) (tgt := 67) (cks_at k_Now_isPicture 31 rfl rfl) (by decide) ?_ ?_
    · refine tq_iconst (E := E_Now_isPicture d) (pc := 67) (cks_at k_Now_isPicture 37 rfl rfl) ?_
      exact tq_zretC (E := E_Now_isPicture d) (pc := 68) (cks_at k_Now_isPicture 38 rfl rfl) rfl (by decide)
    · refine tq_aload_n 4 (E := E_Now_isPicture d) (pc := 56) (cks_at k_Now_isPicture 32 rfl rfl) rfl ?_
      refine tq_iconst (E := E_Now_isPicture d) (pc := 57) (cks_at k_Now_isPicture 33 rfl rfl) ?_
      refine tq_S2 (E := E_Now_isPicture d) (pc := 58) (cks_at k_Now_isPicture 34 rfl rfl) mk_Now_hourAt lk_Now_109 (Nat.le_of_ble_eq_true rfl) (c_Now_hourAt (d + 1) 0 M7) (k_I fun r10 M9 => ?_)
      refine tq_sipush (E := E_Now_isPicture d) (pc := 61) (cks_at k_Now_isPicture 35 rfl rfl) (by decide) (by decide) ?_
      refine tq_icmp_le (E := E_Now_isPicture d) (pc := 64) (tgt := 69) (cks_at k_Now_isPicture 36 rfl rfl) (by decide) ?_ ?_
      · refine tq_iconst (E := E_Now_isPicture d) (pc := 69) (cks_at k_Now_isPicture 39 rfl rfl) ?_
        refine tq_istore (E := E_Now_isPicture d) (pc := 70) (cks_at k_Now_isPicture 40 rfl rfl) (show 5 < 6 by decide) rfl ?_
        exact tq_sub [4, 5, 3, 2, 0] rfl (w_Now_isPicture_L72 d _ (fun v2 v3 M15 => by
            refine tq_iconst (E := E_Now_isPicture d) (pc := 109) (cks_at k_Now_isPicture 59 rfl rfl) ?_
            refine tq_istore (E := E_Now_isPicture d) (pc := 110) (cks_at k_Now_isPicture 60 rfl rfl) (show 5 < 6 by decide) rfl ?_
            exact tq_sub [1, 2, 3, 4, 0] rfl (w_Now_isPicture_L112 d FU (v2, v3, 0, M15))) FU (r2, r4, 0, M9))
      · refine tq_iconst (E := E_Now_isPicture d) (pc := 67) (cks_at k_Now_isPicture 37 rfl rfl) ?_
        exact tq_zretC (E := E_Now_isPicture d) (pc := 68) (cks_at k_Now_isPicture 38 rfl rfl) rfl (by decide)
abbrev E_BT_setCell (d : Nat) : Ev := (Ct (d + 0), "BreathTown", prog_1_method_43_code, 3, False, 0, (fun _ => 0), (Option.none : Option Jvm.ClassFile.FieldType))
def f_BT_setCell (row0 : Nat) (v1 : Int) (v2 : Int) (M : Mm) : Option (Mm) :=
  if i32 v1 < 0 then
    some M
  else
    if i32 (((slen row0 : Nat) : Int)) ≤ i32 v1 then
      some M
    else
      gd (0 ≤ i32 v1 ∧ i32 v1 < ((slen row0 : Nat) : Int)) <|
      bd (up M row0 (i32 v1).toNat v2) (fun M1 =>
      some M1)
set_option maxRecDepth 20000 in
set_option maxHeartbeats 4000000 in
theorem c_BT_setCell (d : Nat) (row0 : Nat) (hrow0 : skind row0 = 20 ∧ row0 < NC) (v1 : Int) (v2 : Int) (M : Mm) (Q : Option Value → Mm → Prop) (h : sat injV (f_BT_setCell row0 v1 v2 M) Q) : Ct (d + 1) y_BT_setCell [.ref row0, vI v1, vI v2] M Q := by
  refine ct_in (d := d + 0) mk_BT_setCell (Nat.le_of_ble_eq_true rfl) (?_ : T (E_BT_setCell d) injV 0 [(0, .ref row0), (1, vI v1), (2, vI v2)] [] M (f_BT_setCell row0 v1 v2 M)) h
  unfold f_BT_setCell
  refine tq_iload_n 1 (E := E_BT_setCell d) (pc := 0) (cks_at k_BT_setCell 0 rfl rfl) rfl ?_
  refine tq_if_lt (E := E_BT_setCell d) (pc := 1) (tgt := 14) (cks_at k_BT_setCell 1 rfl rfl) (by decide) ?_ ?_
  · exact tq_vret (E := E_BT_setCell d) (pc := 14) (cks_at k_BT_setCell 10 rfl rfl) rfl
  · refine tq_iload_n 1 (E := E_BT_setCell d) (pc := 4) (cks_at k_BT_setCell 2 rfl rfl) rfl ?_
    refine tq_aload_n 0 (E := E_BT_setCell d) (pc := 5) (cks_at k_BT_setCell 3 rfl rfl) rfl ?_
    refine tq_alen (E := E_BT_setCell d) (pc := 6) (cks_at k_BT_setCell 4 rfl rfl) ⟨by rw [(hrow0).1]; decide, by rw [(hrow0).1]; decide, (hrow0).2⟩ rfl ?_
    refine tq_icmp_ge (E := E_BT_setCell d) (pc := 7) (tgt := 14) (cks_at k_BT_setCell 5 rfl rfl) (by decide) ?_ ?_
    · exact tq_vret (E := E_BT_setCell d) (pc := 14) (cks_at k_BT_setCell 10 rfl rfl) rfl
    · refine tq_aload_n 0 (E := E_BT_setCell d) (pc := 10) (cks_at k_BT_setCell 6 rfl rfl) rfl ?_
      refine tq_iload_n 1 (E := E_BT_setCell d) (pc := 11) (cks_at k_BT_setCell 7 rfl rfl) rfl ?_
      refine tq_iload_n 2 (E := E_BT_setCell d) (pc := 12) (cks_at k_BT_setCell 8 rfl rfl) rfl ?_
      refine tq_iast (E := E_BT_setCell d) (pc := 13) (cks_at k_BT_setCell 9 rfl rfl) hrow0 rfl (fun M1 => ?_)
      exact tq_vret (E := E_BT_setCell d) (pc := 14) (cks_at k_BT_setCell 10 rfl rfl) rfl
abbrev E_Now_restore (d : Nat) : Ev := (Ct (d + 2), "BreathTown$Now", prog_4_method_17_code, 5, False, 0, (fun _ => 0), (Option.none : Option Jvm.ClassFile.FieldType))
def f_Now_restore_B25 (kH : Int → Int → Mm → Option (Mm)) (kx51 : Int → Mm → Option (Mm)) (v2 v3 : Int) (M : Mm) : Option (Mm) :=
  if i32 v2 ≤ i32 v3 then
    kx51 v2 M
  else
    bI (f_Scan_byteAt (2 + v3) M) (fun r8 M7 =>
    bV (f_BT_setCell 40 v3 r8 M7) (fun M9 =>
    kH v2 (v3 + 1) M9))
set_option maxRecDepth 20000 in
set_option maxHeartbeats 4000000 in
theorem w_Now_restore_B25 (d : Nat) (kH : Int → Int → Mm → Option (Mm)) (kx51 : Int → Mm → Option (Mm)) (hkH : ∀ (v2 v3 : Int) (M : Mm), T (E_Now_restore d) injV 25 [(0, .ref 39), (1, .ref 1), (2, vI v2), (3, vI v3)] [] M (kH v2 v3 M)) (hkx51 : ∀ (v2 : Int) (M : Mm), T (E_Now_restore d) injV 51 [(0, .ref 39), (1, .ref 1), (2, vI v2)] [] M (kx51 v2 M)) (v2 v3 : Int) (M : Mm) : T (E_Now_restore d) injV 25 [(0, .ref 39), (1, .ref 1), (2, vI v2), (3, vI v3)] [] M (f_Now_restore_B25 kH kx51 v2 v3 M) := by
  unfold f_Now_restore_B25
  refine tq_iload_n 3 (E := E_Now_restore d) (pc := 25) (cks_at k_Now_restore 15 rfl rfl) rfl ?_
  refine tq_iload_n 2 (E := E_Now_restore d) (pc := 26) (cks_at k_Now_restore 16 rfl rfl) rfl ?_
  refine tq_icmp_ge (E := E_Now_restore d) (pc := 27) (tgt := 51) (cks_at k_Now_restore 17 rfl rfl) (by decide) ?_ ?_
  · exact tq_sub [0, 1, 2] rfl (hkx51 v2 M)
  · refine tq_aload_n 0 (E := E_Now_restore d) (pc := 30) (cks_at k_Now_restore 18 rfl rfl) rfl ?_
    refine tq_getR (j := 40) (E := E_Now_restore d) (pc := 31) (cks_at k_Now_restore 19 rfl rfl) fo_Now_9 so_39 rfl sp_39_1 ?_
    refine tq_iload_n 3 (E := E_Now_restore d) (pc := 34) (cks_at k_Now_restore 20 rfl rfl) rfl ?_
    refine tq_aload_n 1 (E := E_Now_restore d) (pc := 35) (cks_at k_Now_restore 21 rfl rfl) rfl ?_
    refine tq_iconst (E := E_Now_restore d) (pc := 36) (cks_at k_Now_restore 22 rfl rfl) ?_
    refine tq_iload_n 3 (E := E_Now_restore d) (pc := 37) (cks_at k_Now_restore 23 rfl rfl) rfl ?_
    refine tq_iadd (E := E_Now_restore d) (pc := 38) (cks_at k_Now_restore 24 rfl rfl) ?_
    refine tq_V1 (E := E_Now_restore d) (pc := 39) (cks_at k_Now_restore 25 rfl rfl) mk_Scan_byteAt lk_Now_98 rc_1 (Nat.le_of_ble_eq_true rfl) (c_Scan_byteAt (d + 1) (2 + v3) M) (k_I fun r8 M7 => ?_)
    refine tq_S3 (E := E_Now_restore d) (pc := 42) (cks_at k_Now_restore 26 rfl rfl) mk_BT_setCell lk_Now_77 (Nat.le_of_ble_eq_true rfl) (c_BT_setCell (d + 1) 40 sa_40 v3 r8 M7) (k_V fun M9 => ?_)
    refine tq_iinc 3 (E := E_Now_restore d) (pc := 45) (cks_at k_Now_restore 27 rfl rfl) rfl (show 3 < 5 by decide) rfl ?_
    refine tq_goto (tgt := 25) (E := E_Now_restore d) (pc := 48) (cks_at k_Now_restore 28 rfl rfl) (by decide) ?_
    exact tq_sub [1, 2, 3, 0] rfl (hkH v2 (v3 + 1) M9)
def f_Now_restore_L25 (kx51 : Int → Mm → Option (Mm)) : Nat → Int × Int × Mm → Option (Mm) := lp fun kH s => f_Now_restore_B25 (fun v2 v3 M => kH (v2, v3, M)) kx51 s.1 s.2.1 s.2.2
set_option maxRecDepth 20000 in
set_option maxHeartbeats 4000000 in
theorem w_Now_restore_L25 (d : Nat) (kx51 : Int → Mm → Option (Mm)) (hkx51 : ∀ (v2 : Int) (M : Mm), T (E_Now_restore d) injV 51 [(0, .ref 39), (1, .ref 1), (2, vI v2)] [] M (kx51 v2 M)) (n : Nat) (s : Int × Int × Mm) : T (E_Now_restore d) injV 25 [(0, .ref 39), (1, .ref 1), (2, vI s.1), (3, vI s.2.1)] [] s.2.2 (f_Now_restore_L25 kx51 n s) :=
  tq_lp (fun s => [(0, .ref 39), (1, .ref 1), (2, vI s.1), (3, vI s.2.1)]) (fun s => s.2.2) (fun kH hH s => w_Now_restore_B25 d (fun v2 v3 M => kH (v2, v3, M)) kx51 (fun v2 v3 M => hH (v2, v3, M)) hkx51 s.1 s.2.1 s.2.2) n s
def f_Now_restore_B53 (kH : Int → Int → Mm → Option (Mm)) (v2 v3 : Int) (M : Mm) : Option (Mm) :=
  bI (f_Told_count 3 2 M) (fun r12 M11 =>
  if i32 r12 ≤ i32 v3 then
    some M11
  else
    bI (f_Scan_byteAt ((2 + v2) + (4 * v3)) M11) (fun r14 M13 =>
    bV (f_BT_setCell 41 v3 r14 M13) (fun M15 =>
    bI (f_Scan_byteAt (((2 + v2) + (4 * v3)) + 1) M15) (fun r17 M16 =>
    bV (f_BT_setCell 42 v3 r17 M16) (fun M18 =>
    bI (f_Now_hourAt (((2 + v2) + (4 * v3)) + 2) M18) (fun r20 M19 =>
    bV (f_BT_setCell 43 v3 r20 M19) (fun M21 =>
    kH v2 (v3 + 1) M21)))))))
set_option maxRecDepth 20000 in
set_option maxHeartbeats 4000000 in
theorem w_Now_restore_B53 (d : Nat) (kH : Int → Int → Mm → Option (Mm)) (hkH : ∀ (v2 v3 : Int) (M : Mm), T (E_Now_restore d) injV 53 [(0, .ref 39), (1, .ref 1), (2, vI v2), (3, vI v3)] [] M (kH v2 v3 M)) (v2 v3 : Int) (M : Mm) : T (E_Now_restore d) injV 53 [(0, .ref 39), (1, .ref 1), (2, vI v2), (3, vI v3)] [] M (f_Now_restore_B53 kH v2 v3 M) := by
  unfold f_Now_restore_B53
  refine tq_iload_n 3 (E := E_Now_restore d) (pc := 53) (cks_at k_Now_restore 31 rfl rfl) rfl ?_
  refine tq_aload_n 0 (E := E_Now_restore d) (pc := 54) (cks_at k_Now_restore 32 rfl rfl) rfl ?_
  refine tq_getR (j := 3) (E := E_Now_restore d) (pc := 55) (cks_at k_Now_restore 33 rfl rfl) fo_Now_30 so_39 rfl sp_39_0 ?_
  refine tq_iconst (E := E_Now_restore d) (pc := 58) (cks_at k_Now_restore 34 rfl rfl) ?_
  refine tq_V1 (E := E_Now_restore d) (pc := 59) (cks_at k_Now_restore 35 rfl rfl) mk_Told_count lk_Now_67 (isTold_rc (Or.inl rfl)) (Nat.le_of_ble_eq_true rfl) (c_Told_count (d + 0) 3 (Or.inl rfl) 2 M) (k_I fun r12 M11 => ?_)
  refine tq_icmp_ge (E := E_Now_restore d) (pc := 62) (tgt := 126) (cks_at k_Now_restore 36 rfl rfl) (by decide) ?_ ?_
  · exact tq_vret (E := E_Now_restore d) (pc := 126) (cks_at k_Now_restore 72 rfl rfl) rfl
  · refine tq_iconst (E := E_Now_restore d) (pc := 65) (cks_at k_Now_restore 37 rfl rfl) ?_
    refine tq_iload_n 2 (E := E_Now_restore d) (pc := 66) (cks_at k_Now_restore 38 rfl rfl) rfl ?_
    refine tq_iadd (E := E_Now_restore d) (pc := 67) (cks_at k_Now_restore 39 rfl rfl) ?_
    refine tq_iconst (E := E_Now_restore d) (pc := 68) (cks_at k_Now_restore 40 rfl rfl) ?_
    refine tq_iload_n 3 (E := E_Now_restore d) (pc := 69) (cks_at k_Now_restore 41 rfl rfl) rfl ?_
    refine tq_imul (E := E_Now_restore d) (pc := 70) (cks_at k_Now_restore 42 rfl rfl) ?_
    refine tq_iadd (E := E_Now_restore d) (pc := 71) (cks_at k_Now_restore 43 rfl rfl) ?_
    refine tq_istore (E := E_Now_restore d) (pc := 72) (cks_at k_Now_restore 44 rfl rfl) (show 4 < 5 by decide) rfl ?_
    refine tq_aload_n 1 (E := E_Now_restore d) (pc := 74) (cks_at k_Now_restore 45 rfl rfl) rfl ?_
    refine tq_getR (j := 41) (E := E_Now_restore d) (pc := 75) (cks_at k_Now_restore 46 rfl rfl) fo_Now_15 so_39 rfl sp_39_2 ?_
    refine tq_iload_n 4 (E := E_Now_restore d) (pc := 78) (cks_at k_Now_restore 47 rfl rfl) rfl ?_
    refine tq_aload_n 2 (E := E_Now_restore d) (pc := 79) (cks_at k_Now_restore 48 rfl rfl) rfl ?_
    refine tq_iload 0 (E := E_Now_restore d) (pc := 80) (cks_at k_Now_restore 49 rfl rfl) rfl ?_
    refine tq_V1 (E := E_Now_restore d) (pc := 82) (cks_at k_Now_restore 50 rfl rfl) mk_Scan_byteAt lk_Now_98 rc_1 (Nat.le_of_ble_eq_true rfl) (c_Scan_byteAt (d + 1) ((2 + v2) + (4 * v3)) M11) (k_I fun r14 M13 => ?_)
    refine tq_S3 (E := E_Now_restore d) (pc := 85) (cks_at k_Now_restore 51 rfl rfl) mk_BT_setCell lk_Now_77 (Nat.le_of_ble_eq_true rfl) (c_BT_setCell (d + 1) 41 sa_41 v3 r14 M13) (k_V fun M15 => ?_)
    refine tq_aload_n 1 (E := E_Now_restore d) (pc := 88) (cks_at k_Now_restore 52 rfl rfl) rfl ?_
    refine tq_getR (j := 42) (E := E_Now_restore d) (pc := 89) (cks_at k_Now_restore 53 rfl rfl) fo_Now_18 so_39 rfl sp_39_3 ?_
    refine tq_iload_n 4 (E := E_Now_restore d) (pc := 92) (cks_at k_Now_restore 54 rfl rfl) rfl ?_
    refine tq_aload_n 2 (E := E_Now_restore d) (pc := 93) (cks_at k_Now_restore 55 rfl rfl) rfl ?_
    refine tq_iload 0 (E := E_Now_restore d) (pc := 94) (cks_at k_Now_restore 56 rfl rfl) rfl ?_
    refine tq_iconst (E := E_Now_restore d) (pc := 96) (cks_at k_Now_restore 57 rfl rfl) ?_
    refine tq_iadd (E := E_Now_restore d) (pc := 97) (cks_at k_Now_restore 58 rfl rfl) ?_
    refine tq_V1 (E := E_Now_restore d) (pc := 98) (cks_at k_Now_restore 59 rfl rfl) mk_Scan_byteAt lk_Now_98 rc_1 (Nat.le_of_ble_eq_true rfl) (c_Scan_byteAt (d + 1) (((2 + v2) + (4 * v3)) + 1) M15) (k_I fun r17 M16 => ?_)
    refine tq_S3 (E := E_Now_restore d) (pc := 101) (cks_at k_Now_restore 60 rfl rfl) mk_BT_setCell lk_Now_77 (Nat.le_of_ble_eq_true rfl) (c_BT_setCell (d + 1) 42 sa_42 v3 r17 M16) (k_V fun M18 => ?_)
    refine tq_aload_n 1 (E := E_Now_restore d) (pc := 104) (cks_at k_Now_restore 61 rfl rfl) rfl ?_
    refine tq_getR (j := 43) (E := E_Now_restore d) (pc := 105) (cks_at k_Now_restore 62 rfl rfl) fo_Now_21 so_39 rfl sp_39_4 ?_
    refine tq_iload_n 4 (E := E_Now_restore d) (pc := 108) (cks_at k_Now_restore 63 rfl rfl) rfl ?_
    refine tq_aload_n 2 (E := E_Now_restore d) (pc := 109) (cks_at k_Now_restore 64 rfl rfl) rfl ?_
    refine tq_iload 0 (E := E_Now_restore d) (pc := 110) (cks_at k_Now_restore 65 rfl rfl) rfl ?_
    refine tq_iconst (E := E_Now_restore d) (pc := 112) (cks_at k_Now_restore 66 rfl rfl) ?_
    refine tq_iadd (E := E_Now_restore d) (pc := 113) (cks_at k_Now_restore 67 rfl rfl) ?_
    refine tq_S2 (E := E_Now_restore d) (pc := 114) (cks_at k_Now_restore 68 rfl rfl) mk_Now_hourAt lk_Now_109 (Nat.le_of_ble_eq_true rfl) (c_Now_hourAt (d + 0) (((2 + v2) + (4 * v3)) + 2) M18) (k_I fun r20 M19 => ?_)
    refine tq_S3 (E := E_Now_restore d) (pc := 117) (cks_at k_Now_restore 69 rfl rfl) mk_BT_setCell lk_Now_77 (Nat.le_of_ble_eq_true rfl) (c_BT_setCell (d + 1) 43 sa_43 v3 r20 M19) (k_V fun M21 => ?_)
    refine tq_iinc 4 (E := E_Now_restore d) (pc := 120) (cks_at k_Now_restore 70 rfl rfl) rfl (show 3 < 5 by decide) rfl ?_
    refine tq_goto (tgt := 53) (E := E_Now_restore d) (pc := 123) (cks_at k_Now_restore 71 rfl rfl) (by decide) ?_
    exact tq_sub [2, 3, 4, 0] rfl (hkH v2 (v3 + 1) M21)
def f_Now_restore_L53 : Nat → Int × Int × Mm → Option (Mm) := lp fun kH s => f_Now_restore_B53 (fun v2 v3 M => kH (v2, v3, M)) s.1 s.2.1 s.2.2
set_option maxRecDepth 20000 in
set_option maxHeartbeats 4000000 in
theorem w_Now_restore_L53 (d : Nat) (n : Nat) (s : Int × Int × Mm) : T (E_Now_restore d) injV 53 [(0, .ref 39), (1, .ref 1), (2, vI s.1), (3, vI s.2.1)] [] s.2.2 (f_Now_restore_L53 n s) :=
  tq_lp (fun s => [(0, .ref 39), (1, .ref 1), (2, vI s.1), (3, vI s.2.1)]) (fun s => s.2.2) (fun kH hH s => w_Now_restore_B53 d (fun v2 v3 M => kH (v2, v3, M)) (fun v2 v3 M => hH (v2, v3, M)) s.1 s.2.1 s.2.2) n s
def f_Now_restore (M : Mm) : Option (Mm) :=
  bI (f_Now_hourAt 0 M) (fun r2 M1 =>
  bd (up M1 39 8 r2) (fun M3 =>
  bd (up M3 39 9 0) (fun M4 =>
  bI (f_Told_count 3 1 M4) (fun r6 M5 =>
  f_Now_restore_L25 (fun v2 M10 => f_Now_restore_L53 FU (v2, 0, M10)) FU (r6, 0, M5)))))
set_option maxRecDepth 20000 in
set_option maxHeartbeats 4000000 in
theorem c_Now_restore (d : Nat) (M : Mm) (Q : Option Value → Mm → Prop) (h : sat injV (f_Now_restore M) Q) : Ct (d + 3) y_Now_restore [.ref 39, .ref 1] M Q := by
  refine ct_in (d := d + 2) mk_Now_restore (Nat.le_of_ble_eq_true rfl) (?_ : T (E_Now_restore d) injV 0 [(0, .ref 39), (1, .ref 1)] [] M (f_Now_restore M)) h
  unfold f_Now_restore
  refine tq_aload_n 0 (E := E_Now_restore d) (pc := 0) (cks_at k_Now_restore 0 rfl rfl) rfl ?_
  refine tq_aload_n 1 (E := E_Now_restore d) (pc := 1) (cks_at k_Now_restore 1 rfl rfl) rfl ?_
  refine tq_iconst (E := E_Now_restore d) (pc := 2) (cks_at k_Now_restore 2 rfl rfl) ?_
  refine tq_S2 (E := E_Now_restore d) (pc := 3) (cks_at k_Now_restore 3 rfl rfl) mk_Now_hourAt lk_Now_109 (Nat.le_of_ble_eq_true rfl) (c_Now_hourAt (d + 0) 0 M) (k_I fun r2 M1 => ?_)
  refine tq_putI (E := E_Now_restore d) (pc := 6) (cks_at k_Now_restore 4 rfl rfl) fo_Now_40 so_39 rfl po_2_8 (fun M3 => ?_)
  refine tq_aload_n 0 (E := E_Now_restore d) (pc := 9) (cks_at k_Now_restore 5 rfl rfl) rfl ?_
  refine tq_iconst (E := E_Now_restore d) (pc := 10) (cks_at k_Now_restore 6 rfl rfl) ?_
  refine tq_putI (E := E_Now_restore d) (pc := 11) (cks_at k_Now_restore 7 rfl rfl) fo_Now_43 so_39 rfl po_2_9 (fun M4 => ?_)
  refine tq_aload_n 0 (E := E_Now_restore d) (pc := 14) (cks_at k_Now_restore 8 rfl rfl) rfl ?_
  refine tq_getR (j := 3) (E := E_Now_restore d) (pc := 15) (cks_at k_Now_restore 9 rfl rfl) fo_Now_30 so_39 rfl sp_39_0 ?_
  refine tq_iconst (E := E_Now_restore d) (pc := 18) (cks_at k_Now_restore 10 rfl rfl) ?_
  refine tq_V1 (E := E_Now_restore d) (pc := 19) (cks_at k_Now_restore 11 rfl rfl) mk_Told_count lk_Now_67 (isTold_rc (Or.inl rfl)) (Nat.le_of_ble_eq_true rfl) (c_Told_count (d + 0) 3 (Or.inl rfl) 1 M4) (k_I fun r6 M5 => ?_)
  refine tq_istore_n (E := E_Now_restore d) (pc := 22) (cks_at k_Now_restore 12 rfl rfl) (show 2 < 5 by decide) rfl ?_
  refine tq_iconst (E := E_Now_restore d) (pc := 23) (cks_at k_Now_restore 13 rfl rfl) ?_
  refine tq_istore_n (E := E_Now_restore d) (pc := 24) (cks_at k_Now_restore 14 rfl rfl) (show 3 < 5 by decide) rfl ?_
  exact tq_sub [2, 3, 1, 0] rfl (w_Now_restore_L25 d _ (fun v2 M10 => by
      refine tq_iconst (E := E_Now_restore d) (pc := 51) (cks_at k_Now_restore 29 rfl rfl) ?_
      refine tq_istore_n (E := E_Now_restore d) (pc := 52) (cks_at k_Now_restore 30 rfl rfl) (show 3 < 5 by decide) rfl ?_
      exact tq_sub [1, 2, 3, 0] rfl (w_Now_restore_L53 d FU (v2, 0, M10))) FU (r6, 0, M5))
abbrev E_BT_refused (d : Nat) : Ev := (Ct (d + 1), "BreathTown", prog_1_method_36_code, 2, False, 0, (fun _ => 0), (Option.some Jvm.ClassFile.FieldType.int))
def f_BT_refused (v1 : Int) (M : Mm) : Option (Int × Mm) :=
  bI (f_BT_cell 77 v1 M) (fun r2 M1 =>
  bV (f_BT_setCell 77 v1 (r2 + 1) M1) (fun M3 =>
  some ((-1), M3)))
set_option maxRecDepth 20000 in
set_option maxHeartbeats 4000000 in
theorem c_BT_refused (d : Nat) (v1 : Int) (M : Mm) (Q : Option Value → Mm → Prop) (h : sat injI (f_BT_refused v1 M) Q) : Ct (d + 2) y_BT_refused [.ref 0, vI v1] M Q := by
  refine ct_in (d := d + 1) mk_BT_refused (Nat.le_of_ble_eq_true rfl) (?_ : T (E_BT_refused d) injI 0 [(0, .ref 0), (1, vI v1)] [] M (f_BT_refused v1 M)) h
  unfold f_BT_refused
  refine tq_aload_n 0 (E := E_BT_refused d) (pc := 0) (cks_at k_BT_refused 0 rfl rfl) rfl ?_
  refine tq_getR (j := 77) (E := E_BT_refused d) (pc := 1) (cks_at k_BT_refused 1 rfl rfl) fo_BT_87 so_0 rfl sp_0_10 ?_
  refine tq_iload_n 1 (E := E_BT_refused d) (pc := 4) (cks_at k_BT_refused 2 rfl rfl) rfl ?_
  refine tq_aload_n 0 (E := E_BT_refused d) (pc := 5) (cks_at k_BT_refused 3 rfl rfl) rfl ?_
  refine tq_getR (j := 77) (E := E_BT_refused d) (pc := 6) (cks_at k_BT_refused 4 rfl rfl) fo_BT_87 so_0 rfl sp_0_10 ?_
  refine tq_iload_n 1 (E := E_BT_refused d) (pc := 9) (cks_at k_BT_refused 5 rfl rfl) rfl ?_
  refine tq_S2 (E := E_BT_refused d) (pc := 10) (cks_at k_BT_refused 6 rfl rfl) mk_BT_cell lk_BT_150 (Nat.le_of_ble_eq_true rfl) (c_BT_cell (d + 0) 77 sa_77 v1 M) (k_I fun r2 M1 => ?_)
  refine tq_iconst (E := E_BT_refused d) (pc := 13) (cks_at k_BT_refused 7 rfl rfl) ?_
  refine tq_iadd (E := E_BT_refused d) (pc := 14) (cks_at k_BT_refused 8 rfl rfl) ?_
  refine tq_S3 (E := E_BT_refused d) (pc := 15) (cks_at k_BT_refused 9 rfl rfl) mk_BT_setCell lk_BT_305 (Nat.le_of_ble_eq_true rfl) (c_BT_setCell (d + 0) 77 sa_77 v1 (r2 + 1) M1) (k_V fun M3 => ?_)
  refine tq_iconst (E := E_BT_refused d) (pc := 18) (cks_at k_BT_refused 10 rfl rfl) ?_
  exact tq_iret (E := E_BT_refused d) (pc := 19) (cks_at k_BT_refused 11 rfl rfl) rfl
abbrev E_BT_on (d : Nat) : Ev := (Ct (d + 4), "BreathTown", prog_1_method_34_code, 2, False, 0, (fun _ => 0), (Option.some Jvm.ClassFile.FieldType.boolean))
def f_BT_on (M : Mm) : Option (Int × Mm) :=
  bI (f_Now_isPicture M) (fun r2 M1 =>
  if i32 r2 = 0 then
    bI (f_BT_refused 5 M1) (fun r4 M3 =>
    bd (up M3 1 1 0) (fun M5 =>
    gd (i32 r2 = 0 ∨ i32 r2 = 1) (some (r2, M5))))
  else
    bV (f_Now_restore M1) (fun M6 =>
    bd (up M6 1 1 0) (fun M7 =>
    gd (i32 r2 = 0 ∨ i32 r2 = 1) (some (r2, M7)))))
set_option maxRecDepth 20000 in
set_option maxHeartbeats 4000000 in
theorem c_BT_on (d : Nat) (M : Mm) (Q : Option Value → Mm → Prop) (h : sat injI (f_BT_on M) Q) : Ct (d + 5) y_BT_on [.ref 0] M Q := by
  refine ct_in (d := d + 4) mk_BT_on (Nat.le_of_ble_eq_true rfl) (?_ : T (E_BT_on d) injI 0 [(0, .ref 0)] [] M (f_BT_on M)) h
  unfold f_BT_on
  refine tq_aload_n 0 (E := E_BT_on d) (pc := 0) (cks_at k_BT_on 0 rfl rfl) rfl ?_
  refine tq_getR (j := 39) (E := E_BT_on d) (pc := 1) (cks_at k_BT_on 1 rfl rfl) fo_BT_40 so_0 rfl sp_0_4 ?_
  refine tq_aload_n 0 (E := E_BT_on d) (pc := 4) (cks_at k_BT_on 2 rfl rfl) rfl ?_
  refine tq_getR (j := 1) (E := E_BT_on d) (pc := 5) (cks_at k_BT_on 3 rfl rfl) fo_BT_10 so_0 rfl sp_0_0 ?_
  refine tq_V1 (E := E_BT_on d) (pc := 8) (cks_at k_BT_on 4 rfl rfl) mk_Now_isPicture lk_BT_298 rc_39 (Nat.le_of_ble_eq_true rfl) (c_Now_isPicture (d + 0) M) (k_I fun r2 M1 => ?_)
  refine tq_istore_n (E := E_BT_on d) (pc := 11) (cks_at k_BT_on 5 rfl rfl) (show 1 < 2 by decide) rfl ?_
  refine tq_iload_n 0 (E := E_BT_on d) (pc := 12) (cks_at k_BT_on 6 rfl rfl) rfl ?_
  refine tq_if_eq (E := E_BT_on d) (pc := 13) (tgt := 30) (cks_at k_BT_on 7 rfl rfl) (by decide) ?_ ?_
  · refine tq_aload_n 1 (E := E_BT_on d) (pc := 30) (cks_at k_BT_on 14 rfl rfl) rfl ?_
    refine tq_iconst (E := E_BT_on d) (pc := 31) (cks_at k_BT_on 15 rfl rfl) ?_
    refine tq_V1 (E := E_BT_on d) (pc := 32) (cks_at k_BT_on 16 rfl rfl) mk_BT_refused lk_BT_105 rc_0 (Nat.le_of_ble_eq_true rfl) (c_BT_refused (d + 2) 5 M1) (k_I fun r4 M3 => ?_)
    refine tq_pop (E := E_BT_on d) (pc := 35) (cks_at k_BT_on 17 rfl rfl) rfl ?_
    refine tq_aload_n 1 (E := E_BT_on d) (pc := 36) (cks_at k_BT_on 18 rfl rfl) rfl ?_
    refine tq_getR (j := 1) (E := E_BT_on d) (pc := 37) (cks_at k_BT_on 19 rfl rfl) fo_BT_10 so_0 rfl sp_0_0 ?_
    refine tq_iconst (E := E_BT_on d) (pc := 40) (cks_at k_BT_on 20 rfl rfl) ?_
    refine tq_putI (E := E_BT_on d) (pc := 41) (cks_at k_BT_on 21 rfl rfl) fo_BT_102 so_1 rfl po_5_1 (fun M5 => ?_)
    refine tq_iload_n 0 (E := E_BT_on d) (pc := 44) (cks_at k_BT_on 22 rfl rfl) rfl ?_
    exact tq_zret (E := E_BT_on d) (pc := 45) (cks_at k_BT_on 23 rfl rfl) rfl
  · refine tq_aload_n 1 (E := E_BT_on d) (pc := 16) (cks_at k_BT_on 8 rfl rfl) rfl ?_
    refine tq_getR (j := 39) (E := E_BT_on d) (pc := 17) (cks_at k_BT_on 9 rfl rfl) fo_BT_40 so_0 rfl sp_0_4 ?_
    refine tq_aload_n 1 (E := E_BT_on d) (pc := 20) (cks_at k_BT_on 10 rfl rfl) rfl ?_
    refine tq_getR (j := 1) (E := E_BT_on d) (pc := 21) (cks_at k_BT_on 11 rfl rfl) fo_BT_10 so_0 rfl sp_0_0 ?_
    refine tq_V1 (E := E_BT_on d) (pc := 24) (cks_at k_BT_on 12 rfl rfl) mk_Now_restore lk_BT_301 rc_39 (Nat.le_of_ble_eq_true rfl) (c_Now_restore (d + 1) M1) (k_V fun M6 => ?_)
    refine tq_goto (tgt := 36) (E := E_BT_on d) (pc := 27) (cks_at k_BT_on 13 rfl rfl) (by decide) ?_
    refine tq_aload_n 1 (E := E_BT_on d) (pc := 36) (cks_at k_BT_on 18 rfl rfl) rfl ?_
    refine tq_getR (j := 1) (E := E_BT_on d) (pc := 37) (cks_at k_BT_on 19 rfl rfl) fo_BT_10 so_0 rfl sp_0_0 ?_
    refine tq_iconst (E := E_BT_on d) (pc := 40) (cks_at k_BT_on 20 rfl rfl) ?_
    refine tq_putI (E := E_BT_on d) (pc := 41) (cks_at k_BT_on 21 rfl rfl) fo_BT_102 so_1 rfl po_5_1 (fun M7 => ?_)
    refine tq_iload_n 0 (E := E_BT_on d) (pc := 44) (cks_at k_BT_on 22 rfl rfl) rfl ?_
    exact tq_zret (E := E_BT_on d) (pc := 45) (cks_at k_BT_on 23 rfl rfl) rfl
abbrev E_M_octet (d : Nat) : Ev := (Ct (d + 0), "BreathTownModel", prog_14_method_149_code, 2, False, 0, (fun _ => 0), (Option.some Jvm.ClassFile.FieldType.int))
def f_M_octet (v1 : Int) (M : Mm) : Option (Int × Mm) :=
  if i32 v1 < 0 then
    some ((-1), M)
  else
    if i32 (M 78 99) ≤ i32 v1 then
      some ((-1), M)
    else
      gd (0 ≤ i32 v1 ∧ i32 v1 < ((39 : Nat) : Int)) <|
      some (M 145 (i32 v1).toNat, M)
set_option maxRecDepth 20000 in
set_option maxHeartbeats 4000000 in
theorem c_M_octet (d : Nat) (v1 : Int) (M : Mm) (Q : Option Value → Mm → Prop) (h : sat injI (f_M_octet v1 M) Q) : Ct (d + 1) y_M_octet [.ref 78, vI v1] M Q := by
  refine ct_in (d := d + 0) mk_M_octet (Nat.le_of_ble_eq_true rfl) (?_ : T (E_M_octet d) injI 0 [(0, .ref 78), (1, vI v1)] [] M (f_M_octet v1 M)) h
  unfold f_M_octet
  refine tq_iload_n 1 (E := E_M_octet d) (pc := 0) (cks_at k_M_octet 0 rfl rfl) rfl ?_
  refine tq_if_lt (E := E_M_octet d) (pc := 1) (tgt := 21) (cks_at k_M_octet 1 rfl rfl) (by decide) ?_ ?_
  · refine tq_iconst (E := E_M_octet d) (pc := 21) (cks_at k_M_octet 11 rfl rfl) ?_
    exact tq_iret (E := E_M_octet d) (pc := 22) (cks_at k_M_octet 12 rfl rfl) rfl
  · refine tq_iload_n 1 (E := E_M_octet d) (pc := 4) (cks_at k_M_octet 2 rfl rfl) rfl ?_
    refine tq_aload_n 0 (E := E_M_octet d) (pc := 5) (cks_at k_M_octet 3 rfl rfl) rfl ?_
    refine tq_getI (E := E_M_octet d) (pc := 6) (cks_at k_M_octet 4 rfl rfl) fo_M_728 so_78 rfl (by decide) ?_
    refine tq_icmp_ge (E := E_M_octet d) (pc := 9) (tgt := 21) (cks_at k_M_octet 5 rfl rfl) (by decide) ?_ ?_
    · refine tq_iconst (E := E_M_octet d) (pc := 21) (cks_at k_M_octet 11 rfl rfl) ?_
      exact tq_iret (E := E_M_octet d) (pc := 22) (cks_at k_M_octet 12 rfl rfl) rfl
    · refine tq_aload_n 0 (E := E_M_octet d) (pc := 12) (cks_at k_M_octet 6 rfl rfl) rfl ?_
      refine tq_getR (j := 145) (E := E_M_octet d) (pc := 13) (cks_at k_M_octet 7 rfl rfl) fo_M_219 so_78 rfl sp_78_98 ?_
      refine tq_iload_n 1 (E := E_M_octet d) (pc := 16) (cks_at k_M_octet 8 rfl rfl) rfl ?_
      refine tq_iald (E := E_M_octet d) (pc := 17) (cks_at k_M_octet 9 rfl rfl) sa_145 sn_145 ?_
      refine tq_goto (tgt := 22) (E := E_M_octet d) (pc := 18) (cks_at k_M_octet 10 rfl rfl) (by decide) ?_
      exact tq_iret (E := E_M_octet d) (pc := 22) (cks_at k_M_octet 12 rfl rfl) rfl
abbrev E_BT_octet (d : Nat) : Ev := (Ct (d + 1), "BreathTown", prog_1_method_33_code, 2, False, 0, (fun _ => 0), (Option.some Jvm.ClassFile.FieldType.int))
def f_BT_octet (v1 : Int) (M : Mm) : Option (Int × Mm) :=
  if i32 v1 < 0 then
    some ((-1), M)
  else
    if i32 (M 39 7) ≤ i32 v1 then
      some ((-1), M)
    else
      bI (f_BT_cell 45 v1 M) (fun r2 M1 =>
      some (r2, M1))
set_option maxRecDepth 20000 in
set_option maxHeartbeats 4000000 in
theorem c_BT_octet (d : Nat) (v1 : Int) (M : Mm) (Q : Option Value → Mm → Prop) (h : sat injI (f_BT_octet v1 M) Q) : Ct (d + 2) y_BT_octet [.ref 0, vI v1] M Q := by
  refine ct_in (d := d + 1) mk_BT_octet (Nat.le_of_ble_eq_true rfl) (?_ : T (E_BT_octet d) injI 0 [(0, .ref 0), (1, vI v1)] [] M (f_BT_octet v1 M)) h
  unfold f_BT_octet
  refine tq_iload_n 1 (E := E_BT_octet d) (pc := 0) (cks_at k_BT_octet 0 rfl rfl) rfl ?_
  refine tq_if_lt (E := E_BT_octet d) (pc := 1) (tgt := 29) (cks_at k_BT_octet 1 rfl rfl) (by decide) ?_ ?_
  · refine tq_iconst (E := E_BT_octet d) (pc := 29) (cks_at k_BT_octet 13 rfl rfl) ?_
    exact tq_iret (E := E_BT_octet d) (pc := 30) (cks_at k_BT_octet 14 rfl rfl) rfl
  · refine tq_iload_n 1 (E := E_BT_octet d) (pc := 4) (cks_at k_BT_octet 2 rfl rfl) rfl ?_
    refine tq_aload_n 0 (E := E_BT_octet d) (pc := 5) (cks_at k_BT_octet 3 rfl rfl) rfl ?_
    refine tq_getR (j := 39) (E := E_BT_octet d) (pc := 6) (cks_at k_BT_octet 4 rfl rfl) fo_BT_40 so_0 rfl sp_0_4 ?_
    refine tq_getI (E := E_BT_octet d) (pc := 9) (cks_at k_BT_octet 5 rfl rfl) fo_BT_292 so_39 rfl (by decide) ?_
    refine tq_icmp_ge (E := E_BT_octet d) (pc := 12) (tgt := 29) (cks_at k_BT_octet 6 rfl rfl) (by decide) ?_ ?_
    · refine tq_iconst (E := E_BT_octet d) (pc := 29) (cks_at k_BT_octet 13 rfl rfl) ?_
      exact tq_iret (E := E_BT_octet d) (pc := 30) (cks_at k_BT_octet 14 rfl rfl) rfl
    · refine tq_aload_n 0 (E := E_BT_octet d) (pc := 15) (cks_at k_BT_octet 7 rfl rfl) rfl ?_
      refine tq_getR (j := 39) (E := E_BT_octet d) (pc := 16) (cks_at k_BT_octet 8 rfl rfl) fo_BT_40 so_0 rfl sp_0_4 ?_
      refine tq_getR (j := 45) (E := E_BT_octet d) (pc := 19) (cks_at k_BT_octet 9 rfl rfl) fo_BT_295 so_39 rfl sp_39_6 ?_
      refine tq_iload_n 1 (E := E_BT_octet d) (pc := 22) (cks_at k_BT_octet 10 rfl rfl) rfl ?_
      refine tq_S2 (E := E_BT_octet d) (pc := 23) (cks_at k_BT_octet 11 rfl rfl) mk_BT_cell lk_BT_150 (Nat.le_of_ble_eq_true rfl) (c_BT_cell (d + 0) 45 sa_45 v1 M) (k_I fun r2 M1 => ?_)
      refine tq_goto (tgt := 30) (E := E_BT_octet d) (pc := 26) (cks_at k_BT_octet 12 rfl rfl) (by decide) ?_
      exact tq_iret (E := E_BT_octet d) (pc := 30) (cks_at k_BT_octet 14 rfl rfl) rfl
abbrev E_M_writes (d : Nat) : Ev := (Ct (d + 0), "BreathTownModel", prog_14_method_147_code, 2, False, 0, (fun _ => 0), (Option.none : Option Jvm.ClassFile.FieldType))
def f_M_writes (v1 : Int) (M : Mm) : Option (Mm) :=
  gd (0 ≤ i32 (M 78 99) ∧ i32 (M 78 99) < ((39 : Nat) : Int)) <|
  bd (up M 145 (i32 (M 78 99)).toNat v1) (fun M1 =>
  bd (up M1 78 99 ((M1 78 99) + 1)) (fun M2 =>
  some M2))
set_option maxRecDepth 20000 in
set_option maxHeartbeats 4000000 in
theorem c_M_writes (d : Nat) (v1 : Int) (M : Mm) (Q : Option Value → Mm → Prop) (h : sat injV (f_M_writes v1 M) Q) : Ct (d + 1) y_M_writes [.ref 78, vI v1] M Q := by
  refine ct_in (d := d + 0) mk_M_writes (Nat.le_of_ble_eq_true rfl) (?_ : T (E_M_writes d) injV 0 [(0, .ref 78), (1, vI v1)] [] M (f_M_writes v1 M)) h
  unfold f_M_writes
  refine tq_aload_n 0 (E := E_M_writes d) (pc := 0) (cks_at k_M_writes 0 rfl rfl) rfl ?_
  refine tq_getR (j := 145) (E := E_M_writes d) (pc := 1) (cks_at k_M_writes 1 rfl rfl) fo_M_219 so_78 rfl sp_78_98 ?_
  refine tq_aload_n 0 (E := E_M_writes d) (pc := 4) (cks_at k_M_writes 2 rfl rfl) rfl ?_
  refine tq_getI (E := E_M_writes d) (pc := 5) (cks_at k_M_writes 3 rfl rfl) fo_M_728 so_78 rfl (by decide) ?_
  refine tq_iload_n 1 (E := E_M_writes d) (pc := 8) (cks_at k_M_writes 4 rfl rfl) rfl ?_
  refine tq_iast (E := E_M_writes d) (pc := 9) (cks_at k_M_writes 5 rfl rfl) sa_145 sn_145 (fun M1 => ?_)
  refine tq_aload_n 0 (E := E_M_writes d) (pc := 10) (cks_at k_M_writes 6 rfl rfl) rfl ?_
  refine tq_dup (E := E_M_writes d) (pc := 11) (cks_at k_M_writes 7 rfl rfl) rfl ?_
  refine tq_getI (E := E_M_writes d) (pc := 12) (cks_at k_M_writes 8 rfl rfl) fo_M_728 so_78 rfl (by decide) ?_
  refine tq_iconst (E := E_M_writes d) (pc := 15) (cks_at k_M_writes 9 rfl rfl) ?_
  refine tq_iadd (E := E_M_writes d) (pc := 16) (cks_at k_M_writes 10 rfl rfl) ?_
  refine tq_putI (E := E_M_writes d) (pc := 17) (cks_at k_M_writes 11 rfl rfl) fo_M_728 so_78 rfl po_12_99 (fun M2 => ?_)
  exact tq_vret (E := E_M_writes d) (pc := 20) (cks_at k_M_writes 12 rfl rfl) rfl
abbrev E_M_shiftOf (d : Nat) : Ev := (Ct (d + 0), "BreathTownModel", prog_14_method_52_code, 2, False, 0, (fun _ => 0), (Option.some Jvm.ClassFile.FieldType.int))
def f_M_shiftOf (v1 : Int) (M : Mm) : Option (Int × Mm) :=
  gd (0 ≤ i32 (1 + v1) ∧ i32 (1 + v1) < ((31 : Nat) : Int)) <|
  some (M 108 (i32 (1 + v1)).toNat, M)
set_option maxRecDepth 20000 in
set_option maxHeartbeats 4000000 in
theorem c_M_shiftOf (d : Nat) (v1 : Int) (M : Mm) (Q : Option Value → Mm → Prop) (h : sat injI (f_M_shiftOf v1 M) Q) : Ct (d + 1) y_M_shiftOf [.ref 78, vI v1] M Q := by
  refine ct_in (d := d + 0) mk_M_shiftOf (Nat.le_of_ble_eq_true rfl) (?_ : T (E_M_shiftOf d) injI 0 [(0, .ref 78), (1, vI v1)] [] M (f_M_shiftOf v1 M)) h
  unfold f_M_shiftOf
  refine tq_aload_n 0 (E := E_M_shiftOf d) (pc := 0) (cks_at k_M_shiftOf 0 rfl rfl) rfl ?_
  refine tq_getR (j := 108) (E := E_M_shiftOf d) (pc := 1) (cks_at k_M_shiftOf 1 rfl rfl) fo_M_103 so_78 rfl sp_78_45 ?_
  refine tq_iconst (E := E_M_shiftOf d) (pc := 4) (cks_at k_M_shiftOf 2 rfl rfl) ?_
  refine tq_iload_n 1 (E := E_M_shiftOf d) (pc := 5) (cks_at k_M_shiftOf 3 rfl rfl) rfl ?_
  refine tq_iadd (E := E_M_shiftOf d) (pc := 6) (cks_at k_M_shiftOf 4 rfl rfl) ?_
  refine tq_iald (E := E_M_shiftOf d) (pc := 7) (cks_at k_M_shiftOf 5 rfl rfl) sa_108 sn_108 ?_
  exact tq_iret (E := E_M_shiftOf d) (pc := 8) (cks_at k_M_shiftOf 6 rfl rfl) rfl
abbrev E_M_placeOf (d : Nat) : Ev := (Ct (d + 0), "BreathTownModel", prog_14_method_54_code, 2, False, 0, (fun _ => 0), (Option.some Jvm.ClassFile.FieldType.int))
def f_M_placeOf (v1 : Int) (M : Mm) : Option (Int × Mm) :=
  gd (0 ≤ i32 (13 + (3 * v1)) ∧ i32 (13 + (3 * v1)) < ((31 : Nat) : Int)) <|
  some (M 108 (i32 (13 + (3 * v1))).toNat, M)
set_option maxRecDepth 20000 in
set_option maxHeartbeats 4000000 in
theorem c_M_placeOf (d : Nat) (v1 : Int) (M : Mm) (Q : Option Value → Mm → Prop) (h : sat injI (f_M_placeOf v1 M) Q) : Ct (d + 1) y_M_placeOf [.ref 78, vI v1] M Q := by
  refine ct_in (d := d + 0) mk_M_placeOf (Nat.le_of_ble_eq_true rfl) (?_ : T (E_M_placeOf d) injI 0 [(0, .ref 78), (1, vI v1)] [] M (f_M_placeOf v1 M)) h
  unfold f_M_placeOf
  refine tq_aload_n 0 (E := E_M_placeOf d) (pc := 0) (cks_at k_M_placeOf 0 rfl rfl) rfl ?_
  refine tq_getR (j := 108) (E := E_M_placeOf d) (pc := 1) (cks_at k_M_placeOf 1 rfl rfl) fo_M_103 so_78 rfl sp_78_45 ?_
  refine tq_bipush (E := E_M_placeOf d) (pc := 4) (cks_at k_M_placeOf 2 rfl rfl) (by decide) (by decide) ?_
  refine tq_iconst (E := E_M_placeOf d) (pc := 6) (cks_at k_M_placeOf 3 rfl rfl) ?_
  refine tq_iload_n 1 (E := E_M_placeOf d) (pc := 7) (cks_at k_M_placeOf 4 rfl rfl) rfl ?_
  refine tq_imul (E := E_M_placeOf d) (pc := 8) (cks_at k_M_placeOf 5 rfl rfl) ?_
  refine tq_iadd (E := E_M_placeOf d) (pc := 9) (cks_at k_M_placeOf 6 rfl rfl) ?_
  refine tq_iald (E := E_M_placeOf d) (pc := 10) (cks_at k_M_placeOf 7 rfl rfl) sa_108 sn_108 ?_
  exact tq_iret (E := E_M_placeOf d) (pc := 11) (cks_at k_M_placeOf 8 rfl rfl) rfl
abbrev E_M_goalOf (d : Nat) : Ev := (Ct (d + 0), "BreathTownModel", prog_14_method_55_code, 2, False, 0, (fun _ => 0), (Option.some Jvm.ClassFile.FieldType.int))
def f_M_goalOf (v1 : Int) (M : Mm) : Option (Int × Mm) :=
  gd (0 ≤ i32 ((13 + (3 * v1)) + 1) ∧ i32 ((13 + (3 * v1)) + 1) < ((31 : Nat) : Int)) <|
  some (M 108 (i32 ((13 + (3 * v1)) + 1)).toNat, M)
set_option maxRecDepth 20000 in
set_option maxHeartbeats 4000000 in
theorem c_M_goalOf (d : Nat) (v1 : Int) (M : Mm) (Q : Option Value → Mm → Prop) (h : sat injI (f_M_goalOf v1 M) Q) : Ct (d + 1) y_M_goalOf [.ref 78, vI v1] M Q := by
  refine ct_in (d := d + 0) mk_M_goalOf (Nat.le_of_ble_eq_true rfl) (?_ : T (E_M_goalOf d) injI 0 [(0, .ref 78), (1, vI v1)] [] M (f_M_goalOf v1 M)) h
  unfold f_M_goalOf
  refine tq_aload_n 0 (E := E_M_goalOf d) (pc := 0) (cks_at k_M_goalOf 0 rfl rfl) rfl ?_
  refine tq_getR (j := 108) (E := E_M_goalOf d) (pc := 1) (cks_at k_M_goalOf 1 rfl rfl) fo_M_103 so_78 rfl sp_78_45 ?_
  refine tq_bipush (E := E_M_goalOf d) (pc := 4) (cks_at k_M_goalOf 2 rfl rfl) (by decide) (by decide) ?_
  refine tq_iconst (E := E_M_goalOf d) (pc := 6) (cks_at k_M_goalOf 3 rfl rfl) ?_
  refine tq_iload_n 1 (E := E_M_goalOf d) (pc := 7) (cks_at k_M_goalOf 4 rfl rfl) rfl ?_
  refine tq_imul (E := E_M_goalOf d) (pc := 8) (cks_at k_M_goalOf 5 rfl rfl) ?_
  refine tq_iadd (E := E_M_goalOf d) (pc := 9) (cks_at k_M_goalOf 6 rfl rfl) ?_
  refine tq_iconst (E := E_M_goalOf d) (pc := 10) (cks_at k_M_goalOf 7 rfl rfl) ?_
  refine tq_iadd (E := E_M_goalOf d) (pc := 11) (cks_at k_M_goalOf 8 rfl rfl) ?_
  refine tq_iald (E := E_M_goalOf d) (pc := 12) (cks_at k_M_goalOf 9 rfl rfl) sa_108 sn_108 ?_
  exact tq_iret (E := E_M_goalOf d) (pc := 13) (cks_at k_M_goalOf 10 rfl rfl) rfl
abbrev E_M_image (d : Nat) : Ev := (Ct (d + 1), "BreathTownModel", prog_14_method_148_code, 2, False, 0, (fun _ => 0), (Option.some Jvm.ClassFile.FieldType.int))
def f_M_image_B35 (kH : Int → Mm → Option (Int × Mm)) (kx58 : Mm → Option (Int × Mm)) (v1 : Int) (M : Mm) : Option (Int × Mm) :=
  bI (f_M_streetMany M) (fun r5 M4 =>
  if i32 r5 ≤ i32 v1 then
    kx58 M4
  else
    bI (f_M_shiftOf v1 M4) (fun r7 M6 =>
    bV (f_M_writes r7 M6) (fun M8 =>
    kH (v1 + 1) M8)))
set_option maxRecDepth 20000 in
set_option maxHeartbeats 4000000 in
theorem w_M_image_B35 (d : Nat) (kH : Int → Mm → Option (Int × Mm)) (kx58 : Mm → Option (Int × Mm)) (hkH : ∀ (v1 : Int) (M : Mm), T (E_M_image d) injI 35 [(0, .ref 78), (1, vI v1)] [] M (kH v1 M)) (hkx58 : ∀  (M : Mm), T (E_M_image d) injI 58 [(0, .ref 78)] [] M (kx58 M)) (v1 : Int) (M : Mm) : T (E_M_image d) injI 35 [(0, .ref 78), (1, vI v1)] [] M (f_M_image_B35 kH kx58 v1 M) := by
  unfold f_M_image_B35
  refine tq_iload_n 1 (E := E_M_image d) (pc := 35) (cks_at k_M_image 21 rfl rfl) rfl ?_
  refine tq_aload_n 0 (E := E_M_image d) (pc := 36) (cks_at k_M_image 22 rfl rfl) rfl ?_
  refine tq_V0 (E := E_M_image d) (pc := 37) (cks_at k_M_image 23 rfl rfl) mk_M_streetMany lk_M_412 rc_78 (Nat.le_of_ble_eq_true rfl) (c_M_streetMany (d + 0) M) (k_I fun r5 M4 => ?_)
  refine tq_icmp_ge (E := E_M_image d) (pc := 40) (tgt := 58) (cks_at k_M_image 24 rfl rfl) (by decide) ?_ ?_
  · exact tq_sub [0] rfl (hkx58 M4)
  · refine tq_aload_n 0 (E := E_M_image d) (pc := 43) (cks_at k_M_image 25 rfl rfl) rfl ?_
    refine tq_aload_n 0 (E := E_M_image d) (pc := 44) (cks_at k_M_image 26 rfl rfl) rfl ?_
    refine tq_iload_n 1 (E := E_M_image d) (pc := 45) (cks_at k_M_image 27 rfl rfl) rfl ?_
    refine tq_V1 (E := E_M_image d) (pc := 46) (cks_at k_M_image 28 rfl rfl) mk_M_shiftOf lk_M_431 rc_78 (Nat.le_of_ble_eq_true rfl) (c_M_shiftOf (d + 0) v1 M4) (k_I fun r7 M6 => ?_)
    refine tq_V1 (E := E_M_image d) (pc := 49) (cks_at k_M_image 29 rfl rfl) mk_M_writes lk_M_731 rc_78 (Nat.le_of_ble_eq_true rfl) (c_M_writes (d + 0) r7 M6) (k_V fun M8 => ?_)
    refine tq_iinc 1 (E := E_M_image d) (pc := 52) (cks_at k_M_image 30 rfl rfl) rfl (show 1 < 2 by decide) rfl ?_
    refine tq_goto (tgt := 35) (E := E_M_image d) (pc := 55) (cks_at k_M_image 31 rfl rfl) (by decide) ?_
    exact tq_sub [1, 0] rfl (hkH (v1 + 1) M8)
def f_M_image_L35 (kx58 : Mm → Option (Int × Mm)) : Nat → Int × Mm → Option (Int × Mm) := lp fun kH s => f_M_image_B35 (fun v1 M => kH (v1, M)) kx58 s.1 s.2
set_option maxRecDepth 20000 in
set_option maxHeartbeats 4000000 in
theorem w_M_image_L35 (d : Nat) (kx58 : Mm → Option (Int × Mm)) (hkx58 : ∀  (M : Mm), T (E_M_image d) injI 58 [(0, .ref 78)] [] M (kx58 M)) (n : Nat) (s : Int × Mm) : T (E_M_image d) injI 35 [(0, .ref 78), (1, vI s.1)] [] s.2 (f_M_image_L35 kx58 n s) :=
  tq_lp (fun s => [(0, .ref 78), (1, vI s.1)]) (fun s => s.2) (fun kH hH s => w_M_image_B35 d (fun v1 M => kH (v1, M)) kx58 (fun v1 M => hH (v1, M)) hkx58 s.1 s.2) n s
def f_M_image_B60 (kH : Int → Mm → Option (Int × Mm)) (kx134 : Mm → Option (Int × Mm)) (v1 : Int) (M : Mm) : Option (Int × Mm) :=
  bI (f_M_walkerMany M) (fun r11 M10 =>
  if i32 r11 ≤ i32 v1 then
    kx134 M10
  else
    bI (f_M_placeOf v1 M10) (fun r13 M12 =>
    bV (f_M_writes r13 M12) (fun M14 =>
    bI (f_M_goalOf v1 M14) (fun r16 M15 =>
    bV (f_M_writes r16 M15) (fun M17 =>
    gd (0 ≤ i32 ((13 + (3 * v1)) + 2) ∧ i32 ((13 + (3 * v1)) + 2) < ((31 : Nat) : Int)) <|
    bV (f_M_writes ((i32 (M17 108 (i32 ((13 + (3 * v1)) + 2)).toNat)).tdiv (i32 256)) M17) (fun M18 =>
    gd (0 ≤ i32 ((13 + (3 * v1)) + 2) ∧ i32 ((13 + (3 * v1)) + 2) < ((31 : Nat) : Int)) <|
    bV (f_M_writes ((i32 (M18 108 (i32 ((13 + (3 * v1)) + 2)).toNat)).tmod (i32 256)) M18) (fun M19 =>
    kH (v1 + 1) M19)))))))
set_option maxRecDepth 20000 in
set_option maxHeartbeats 4000000 in
theorem w_M_image_B60 (d : Nat) (kH : Int → Mm → Option (Int × Mm)) (kx134 : Mm → Option (Int × Mm)) (hkH : ∀ (v1 : Int) (M : Mm), T (E_M_image d) injI 60 [(0, .ref 78), (1, vI v1)] [] M (kH v1 M)) (hkx134 : ∀  (M : Mm), T (E_M_image d) injI 134 [(0, .ref 78)] [] M (kx134 M)) (v1 : Int) (M : Mm) : T (E_M_image d) injI 60 [(0, .ref 78), (1, vI v1)] [] M (f_M_image_B60 kH kx134 v1 M) := by
  unfold f_M_image_B60
  refine tq_iload_n 1 (E := E_M_image d) (pc := 60) (cks_at k_M_image 34 rfl rfl) rfl ?_
  refine tq_aload_n 0 (E := E_M_image d) (pc := 61) (cks_at k_M_image 35 rfl rfl) rfl ?_
  refine tq_V0 (E := E_M_image d) (pc := 62) (cks_at k_M_image 36 rfl rfl) mk_M_walkerMany lk_M_415 rc_78 (Nat.le_of_ble_eq_true rfl) (c_M_walkerMany (d + 0) M) (k_I fun r11 M10 => ?_)
  refine tq_icmp_ge (E := E_M_image d) (pc := 65) (tgt := 134) (cks_at k_M_image 37 rfl rfl) (by decide) ?_ ?_
  · exact tq_sub [0] rfl (hkx134 M10)
  · refine tq_aload_n 0 (E := E_M_image d) (pc := 68) (cks_at k_M_image 38 rfl rfl) rfl ?_
    refine tq_aload_n 0 (E := E_M_image d) (pc := 69) (cks_at k_M_image 39 rfl rfl) rfl ?_
    refine tq_iload_n 1 (E := E_M_image d) (pc := 70) (cks_at k_M_image 40 rfl rfl) rfl ?_
    refine tq_V1 (E := E_M_image d) (pc := 71) (cks_at k_M_image 41 rfl rfl) mk_M_placeOf lk_M_471 rc_78 (Nat.le_of_ble_eq_true rfl) (c_M_placeOf (d + 0) v1 M10) (k_I fun r13 M12 => ?_)
    refine tq_V1 (E := E_M_image d) (pc := 74) (cks_at k_M_image 42 rfl rfl) mk_M_writes lk_M_731 rc_78 (Nat.le_of_ble_eq_true rfl) (c_M_writes (d + 0) r13 M12) (k_V fun M14 => ?_)
    refine tq_aload_n 0 (E := E_M_image d) (pc := 77) (cks_at k_M_image 43 rfl rfl) rfl ?_
    refine tq_aload_n 0 (E := E_M_image d) (pc := 78) (cks_at k_M_image 44 rfl rfl) rfl ?_
    refine tq_iload_n 1 (E := E_M_image d) (pc := 79) (cks_at k_M_image 45 rfl rfl) rfl ?_
    refine tq_V1 (E := E_M_image d) (pc := 80) (cks_at k_M_image 46 rfl rfl) mk_M_goalOf lk_M_493 rc_78 (Nat.le_of_ble_eq_true rfl) (c_M_goalOf (d + 0) v1 M14) (k_I fun r16 M15 => ?_)
    refine tq_V1 (E := E_M_image d) (pc := 83) (cks_at k_M_image 47 rfl rfl) mk_M_writes lk_M_731 rc_78 (Nat.le_of_ble_eq_true rfl) (c_M_writes (d + 0) r16 M15) (k_V fun M17 => ?_)
    refine tq_aload_n 0 (E := E_M_image d) (pc := 86) (cks_at k_M_image 48 rfl rfl) rfl ?_
    refine tq_aload_n 0 (E := E_M_image d) (pc := 87) (cks_at k_M_image 49 rfl rfl) rfl ?_
    refine tq_getR (j := 108) (E := E_M_image d) (pc := 88) (cks_at k_M_image 50 rfl rfl) fo_M_103 so_78 rfl sp_78_45 ?_
    refine tq_bipush (E := E_M_image d) (pc := 91) (cks_at k_M_image 51 rfl rfl) (by decide) (by decide) ?_
    refine tq_iconst (E := E_M_image d) (pc := 93) (cks_at k_M_image 52 rfl rfl) ?_
    refine tq_iload_n 1 (E := E_M_image d) (pc := 94) (cks_at k_M_image 53 rfl rfl) rfl ?_
    refine tq_imul (E := E_M_image d) (pc := 95) (cks_at k_M_image 54 rfl rfl) ?_
    refine tq_iadd (E := E_M_image d) (pc := 96) (cks_at k_M_image 55 rfl rfl) ?_
    refine tq_iconst (E := E_M_image d) (pc := 97) (cks_at k_M_image 56 rfl rfl) ?_
    refine tq_iadd (E := E_M_image d) (pc := 98) (cks_at k_M_image 57 rfl rfl) ?_
    refine tq_iald (E := E_M_image d) (pc := 99) (cks_at k_M_image 58 rfl rfl) sa_108 sn_108 ?_
    refine tq_sipush (E := E_M_image d) (pc := 100) (cks_at k_M_image 59 rfl rfl) (by decide) (by decide) ?_
    refine tq_idivC (E := E_M_image d) (pc := 103) (cks_at k_M_image 60 rfl rfl) (by decide) ?_
    refine tq_V1 (E := E_M_image d) (pc := 104) (cks_at k_M_image 61 rfl rfl) mk_M_writes lk_M_731 rc_78 (Nat.le_of_ble_eq_true rfl) (c_M_writes (d + 0) ((i32 (M17 108 (i32 ((13 + (3 * v1)) + 2)).toNat)).tdiv (i32 256)) M17) (k_V fun M18 => ?_)
    refine tq_aload_n 0 (E := E_M_image d) (pc := 107) (cks_at k_M_image 62 rfl rfl) rfl ?_
    refine tq_aload_n 0 (E := E_M_image d) (pc := 108) (cks_at k_M_image 63 rfl rfl) rfl ?_
    refine tq_getR (j := 108) (E := E_M_image d) (pc := 109) (cks_at k_M_image 64 rfl rfl) fo_M_103 so_78 rfl sp_78_45 ?_
    refine tq_bipush (E := E_M_image d) (pc := 112) (cks_at k_M_image 65 rfl rfl) (by decide) (by decide) ?_
    refine tq_iconst (E := E_M_image d) (pc := 114) (cks_at k_M_image 66 rfl rfl) ?_
    refine tq_iload_n 1 (E := E_M_image d) (pc := 115) (cks_at k_M_image 67 rfl rfl) rfl ?_
    refine tq_imul (E := E_M_image d) (pc := 116) (cks_at k_M_image 68 rfl rfl) ?_
    refine tq_iadd (E := E_M_image d) (pc := 117) (cks_at k_M_image 69 rfl rfl) ?_
    refine tq_iconst (E := E_M_image d) (pc := 118) (cks_at k_M_image 70 rfl rfl) ?_
    refine tq_iadd (E := E_M_image d) (pc := 119) (cks_at k_M_image 71 rfl rfl) ?_
    refine tq_iald (E := E_M_image d) (pc := 120) (cks_at k_M_image 72 rfl rfl) sa_108 sn_108 ?_
    refine tq_sipush (E := E_M_image d) (pc := 121) (cks_at k_M_image 73 rfl rfl) (by decide) (by decide) ?_
    refine tq_iremC (E := E_M_image d) (pc := 124) (cks_at k_M_image 74 rfl rfl) (by decide) ?_
    refine tq_V1 (E := E_M_image d) (pc := 125) (cks_at k_M_image 75 rfl rfl) mk_M_writes lk_M_731 rc_78 (Nat.le_of_ble_eq_true rfl) (c_M_writes (d + 0) ((i32 (M18 108 (i32 ((13 + (3 * v1)) + 2)).toNat)).tmod (i32 256)) M18) (k_V fun M19 => ?_)
    refine tq_iinc 1 (E := E_M_image d) (pc := 128) (cks_at k_M_image 76 rfl rfl) rfl (show 1 < 2 by decide) rfl ?_
    refine tq_goto (tgt := 60) (E := E_M_image d) (pc := 131) (cks_at k_M_image 77 rfl rfl) (by decide) ?_
    exact tq_sub [1, 0] rfl (hkH (v1 + 1) M19)
def f_M_image_L60 (kx134 : Mm → Option (Int × Mm)) : Nat → Int × Mm → Option (Int × Mm) := lp fun kH s => f_M_image_B60 (fun v1 M => kH (v1, M)) kx134 s.1 s.2
set_option maxRecDepth 20000 in
set_option maxHeartbeats 4000000 in
theorem w_M_image_L60 (d : Nat) (kx134 : Mm → Option (Int × Mm)) (hkx134 : ∀  (M : Mm), T (E_M_image d) injI 134 [(0, .ref 78)] [] M (kx134 M)) (n : Nat) (s : Int × Mm) : T (E_M_image d) injI 60 [(0, .ref 78), (1, vI s.1)] [] s.2 (f_M_image_L60 kx134 n s) :=
  tq_lp (fun s => [(0, .ref 78), (1, vI s.1)]) (fun s => s.2) (fun kH hH s => w_M_image_B60 d (fun v1 M => kH (v1, M)) kx134 (fun v1 M => hH (v1, M)) hkx134 s.1 s.2) n s
def f_M_image (M : Mm) : Option (Int × Mm) :=
  bd (up M 78 99 0) (fun M1 =>
  bV (f_M_writes ((i32 (M1 108 0)).tdiv (i32 256)) M1) (fun M2 =>
  bV (f_M_writes ((i32 (M2 108 0)).tmod (i32 256)) M2) (fun M3 =>
  f_M_image_L35 (fun M9 => f_M_image_L60 (fun M20 => bI (f_M_checked 145 (M20 78 99) M20) (fun r22 M21 =>
          bV (f_M_writes r22 M21) (fun M23 =>
          some (M23 78 99, M23)))) FU (0, M9)) FU (0, M3))))
set_option maxRecDepth 20000 in
set_option maxHeartbeats 4000000 in
theorem c_M_image (d : Nat) (M : Mm) (Q : Option Value → Mm → Prop) (h : sat injI (f_M_image M) Q) : Ct (d + 2) y_M_image [.ref 78] M Q := by
  refine ct_in (d := d + 1) mk_M_image (Nat.le_of_ble_eq_true rfl) (?_ : T (E_M_image d) injI 0 [(0, .ref 78)] [] M (f_M_image M)) h
  unfold f_M_image
  refine tq_aload_n 0 (E := E_M_image d) (pc := 0) (cks_at k_M_image 0 rfl rfl) rfl ?_
  refine tq_iconst (E := E_M_image d) (pc := 1) (cks_at k_M_image 1 rfl rfl) ?_
  refine tq_putI (E := E_M_image d) (pc := 2) (cks_at k_M_image 2 rfl rfl) fo_M_728 so_78 rfl po_12_99 (fun M1 => ?_)
  refine tq_aload_n 0 (E := E_M_image d) (pc := 5) (cks_at k_M_image 3 rfl rfl) rfl ?_
  refine tq_aload_n 0 (E := E_M_image d) (pc := 6) (cks_at k_M_image 4 rfl rfl) rfl ?_
  refine tq_getR (j := 108) (E := E_M_image d) (pc := 7) (cks_at k_M_image 5 rfl rfl) fo_M_103 so_78 rfl sp_78_45 ?_
  refine tq_iconst (E := E_M_image d) (pc := 10) (cks_at k_M_image 6 rfl rfl) ?_
  refine tq_ialdC 0 (E := E_M_image d) (pc := 11) (cks_at k_M_image 7 rfl rfl) sa_108 sn_108 (by decide) ?_
  refine tq_sipush (E := E_M_image d) (pc := 12) (cks_at k_M_image 8 rfl rfl) (by decide) (by decide) ?_
  refine tq_idivC (E := E_M_image d) (pc := 15) (cks_at k_M_image 9 rfl rfl) (by decide) ?_
  refine tq_V1 (E := E_M_image d) (pc := 16) (cks_at k_M_image 10 rfl rfl) mk_M_writes lk_M_731 rc_78 (Nat.le_of_ble_eq_true rfl) (c_M_writes (d + 0) ((i32 (M1 108 0)).tdiv (i32 256)) M1) (k_V fun M2 => ?_)
  refine tq_aload_n 0 (E := E_M_image d) (pc := 19) (cks_at k_M_image 11 rfl rfl) rfl ?_
  refine tq_aload_n 0 (E := E_M_image d) (pc := 20) (cks_at k_M_image 12 rfl rfl) rfl ?_
  refine tq_getR (j := 108) (E := E_M_image d) (pc := 21) (cks_at k_M_image 13 rfl rfl) fo_M_103 so_78 rfl sp_78_45 ?_
  refine tq_iconst (E := E_M_image d) (pc := 24) (cks_at k_M_image 14 rfl rfl) ?_
  refine tq_ialdC 0 (E := E_M_image d) (pc := 25) (cks_at k_M_image 15 rfl rfl) sa_108 sn_108 (by decide) ?_
  refine tq_sipush (E := E_M_image d) (pc := 26) (cks_at k_M_image 16 rfl rfl) (by decide) (by decide) ?_
  refine tq_iremC (E := E_M_image d) (pc := 29) (cks_at k_M_image 17 rfl rfl) (by decide) ?_
  refine tq_V1 (E := E_M_image d) (pc := 30) (cks_at k_M_image 18 rfl rfl) mk_M_writes lk_M_731 rc_78 (Nat.le_of_ble_eq_true rfl) (c_M_writes (d + 0) ((i32 (M2 108 0)).tmod (i32 256)) M2) (k_V fun M3 => ?_)
  refine tq_iconst (E := E_M_image d) (pc := 33) (cks_at k_M_image 19 rfl rfl) ?_
  refine tq_istore_n (E := E_M_image d) (pc := 34) (cks_at k_M_image 20 rfl rfl) (show 1 < 2 by decide) rfl ?_
  exact tq_sub [1, 0] rfl (w_M_image_L35 d _ (fun M9 => by
      refine tq_iconst (E := E_M_image d) (pc := 58) (cks_at k_M_image 32 rfl rfl) ?_
      refine tq_istore_n (E := E_M_image d) (pc := 59) (cks_at k_M_image 33 rfl rfl) (show 1 < 2 by decide) rfl ?_
      exact tq_sub [1, 0] rfl (w_M_image_L60 d _ (fun M20 => by
          refine tq_aload_n 0 (E := E_M_image d) (pc := 134) (cks_at k_M_image 78 rfl rfl) rfl ?_
          refine tq_aload_n 0 (E := E_M_image d) (pc := 135) (cks_at k_M_image 79 rfl rfl) rfl ?_
          refine tq_getR (j := 145) (E := E_M_image d) (pc := 136) (cks_at k_M_image 80 rfl rfl) fo_M_219 so_78 rfl sp_78_98 ?_
          refine tq_aload_n 0 (E := E_M_image d) (pc := 139) (cks_at k_M_image 81 rfl rfl) rfl ?_
          refine tq_getI (E := E_M_image d) (pc := 140) (cks_at k_M_image 82 rfl rfl) fo_M_728 so_78 rfl (by decide) ?_
          refine tq_S2 (E := E_M_image d) (pc := 143) (cks_at k_M_image 83 rfl rfl) mk_M_checked lk_M_734 (Nat.le_of_ble_eq_true rfl) (c_M_checked (d + 0) 145 sa_145 (M20 78 99) M20) (k_I fun r22 M21 => ?_)
          refine tq_V1 (E := E_M_image d) (pc := 146) (cks_at k_M_image 84 rfl rfl) mk_M_writes lk_M_731 rc_78 (Nat.le_of_ble_eq_true rfl) (c_M_writes (d + 0) r22 M21) (k_V fun M23 => ?_)
          refine tq_aload_n 0 (E := E_M_image d) (pc := 149) (cks_at k_M_image 85 rfl rfl) rfl ?_
          refine tq_getI (E := E_M_image d) (pc := 150) (cks_at k_M_image 86 rfl rfl) fo_M_728 so_78 rfl (by decide) ?_
          exact tq_iret (E := E_M_image d) (pc := 153) (cks_at k_M_image 87 rfl rfl) rfl) FU (0, M9))) FU (0, M3))
abbrev E_Now_write (d : Nat) : Ev := (Ct (d + 1), "BreathTown$Now", prog_4_method_10_code, 2, False, 0, (fun _ => 0), (Option.none : Option Jvm.ClassFile.FieldType))
def f_Now_write (v1 : Int) (M : Mm) : Option (Mm) :=
  bV (f_BT_setCell 45 (M 39 7) v1 M) (fun M1 =>
  bd (up M1 39 7 ((M1 39 7) + 1)) (fun M2 =>
  some M2))
set_option maxRecDepth 20000 in
set_option maxHeartbeats 4000000 in
theorem c_Now_write (d : Nat) (v1 : Int) (M : Mm) (Q : Option Value → Mm → Prop) (h : sat injV (f_Now_write v1 M) Q) : Ct (d + 2) y_Now_write [.ref 39, vI v1] M Q := by
  refine ct_in (d := d + 1) mk_Now_write (Nat.le_of_ble_eq_true rfl) (?_ : T (E_Now_write d) injV 0 [(0, .ref 39), (1, vI v1)] [] M (f_Now_write v1 M)) h
  unfold f_Now_write
  refine tq_aload_n 0 (E := E_Now_write d) (pc := 0) (cks_at k_Now_write 0 rfl rfl) rfl ?_
  refine tq_getR (j := 45) (E := E_Now_write d) (pc := 1) (cks_at k_Now_write 1 rfl rfl) fo_Now_27 so_39 rfl sp_39_6 ?_
  refine tq_aload_n 0 (E := E_Now_write d) (pc := 4) (cks_at k_Now_write 2 rfl rfl) rfl ?_
  refine tq_getI (E := E_Now_write d) (pc := 5) (cks_at k_Now_write 3 rfl rfl) fo_Now_85 so_39 rfl (by decide) ?_
  refine tq_iload_n 1 (E := E_Now_write d) (pc := 8) (cks_at k_Now_write 4 rfl rfl) rfl ?_
  refine tq_S3 (E := E_Now_write d) (pc := 9) (cks_at k_Now_write 5 rfl rfl) mk_BT_setCell lk_Now_77 (Nat.le_of_ble_eq_true rfl) (c_BT_setCell (d + 0) 45 sa_45 (M 39 7) v1 M) (k_V fun M1 => ?_)
  refine tq_aload_n 0 (E := E_Now_write d) (pc := 12) (cks_at k_Now_write 6 rfl rfl) rfl ?_
  refine tq_dup (E := E_Now_write d) (pc := 13) (cks_at k_Now_write 7 rfl rfl) rfl ?_
  refine tq_getI (E := E_Now_write d) (pc := 14) (cks_at k_Now_write 8 rfl rfl) fo_Now_85 so_39 rfl (by decide) ?_
  refine tq_iconst (E := E_Now_write d) (pc := 17) (cks_at k_Now_write 9 rfl rfl) ?_
  refine tq_iadd (E := E_Now_write d) (pc := 18) (cks_at k_Now_write 10 rfl rfl) ?_
  refine tq_putI (E := E_Now_write d) (pc := 19) (cks_at k_Now_write 11 rfl rfl) fo_Now_85 so_39 rfl po_2_7 (fun M2 => ?_)
  exact tq_vret (E := E_Now_write d) (pc := 22) (cks_at k_Now_write 12 rfl rfl) rfl
abbrev E_Now_writeHour (d : Nat) : Ev := (Ct (d + 2), "BreathTown$Now", prog_4_method_11_code, 2, False, 0, (fun _ => 0), (Option.none : Option Jvm.ClassFile.FieldType))
def f_Now_writeHour (v1 : Int) (M : Mm) : Option (Mm) :=
  bV (f_Now_write ((i32 v1).tdiv (i32 256)) M) (fun M1 =>
  bV (f_Now_write ((i32 v1).tmod (i32 256)) M1) (fun M2 =>
  some M2))
set_option maxRecDepth 20000 in
set_option maxHeartbeats 4000000 in
theorem c_Now_writeHour (d : Nat) (v1 : Int) (M : Mm) (Q : Option Value → Mm → Prop) (h : sat injV (f_Now_writeHour v1 M) Q) : Ct (d + 3) y_Now_writeHour [.ref 39, vI v1] M Q := by
  refine ct_in (d := d + 2) mk_Now_writeHour (Nat.le_of_ble_eq_true rfl) (?_ : T (E_Now_writeHour d) injV 0 [(0, .ref 39), (1, vI v1)] [] M (f_Now_writeHour v1 M)) h
  unfold f_Now_writeHour
  refine tq_aload_n 0 (E := E_Now_writeHour d) (pc := 0) (cks_at k_Now_writeHour 0 rfl rfl) rfl ?_
  refine tq_iload_n 1 (E := E_Now_writeHour d) (pc := 1) (cks_at k_Now_writeHour 1 rfl rfl) rfl ?_
  refine tq_sipush (E := E_Now_writeHour d) (pc := 2) (cks_at k_Now_writeHour 2 rfl rfl) (by decide) (by decide) ?_
  refine tq_idivC (E := E_Now_writeHour d) (pc := 5) (cks_at k_Now_writeHour 3 rfl rfl) (by decide) ?_
  refine tq_V1 (E := E_Now_writeHour d) (pc := 6) (cks_at k_Now_writeHour 4 rfl rfl) mk_Now_write lk_Now_88 rc_39 (Nat.le_of_ble_eq_true rfl) (c_Now_write (d + 0) ((i32 v1).tdiv (i32 256)) M) (k_V fun M1 => ?_)
  refine tq_aload_n 0 (E := E_Now_writeHour d) (pc := 9) (cks_at k_Now_writeHour 5 rfl rfl) rfl ?_
  refine tq_iload_n 1 (E := E_Now_writeHour d) (pc := 10) (cks_at k_Now_writeHour 6 rfl rfl) rfl ?_
  refine tq_sipush (E := E_Now_writeHour d) (pc := 11) (cks_at k_Now_writeHour 7 rfl rfl) (by decide) (by decide) ?_
  refine tq_iremC (E := E_Now_writeHour d) (pc := 14) (cks_at k_Now_writeHour 8 rfl rfl) (by decide) ?_
  refine tq_V1 (E := E_Now_writeHour d) (pc := 15) (cks_at k_Now_writeHour 9 rfl rfl) mk_Now_write lk_Now_88 rc_39 (Nat.le_of_ble_eq_true rfl) (c_Now_write (d + 0) ((i32 v1).tmod (i32 256)) M1) (k_V fun M2 => ?_)
  exact tq_vret (E := E_Now_writeHour d) (pc := 18) (cks_at k_Now_writeHour 10 rfl rfl) rfl
abbrev E_Now_draw (d : Nat) : Ev := (Ct (d + 3), "BreathTown$Now", prog_4_method_12_code, 2, False, 0, (fun _ => 0), (Option.none : Option Jvm.ClassFile.FieldType))
def f_Now_draw_B15 (kH : Int → Mm → Option (Mm)) (kx45 : Mm → Option (Mm)) (v1 : Int) (M : Mm) : Option (Mm) :=
  bI (f_Told_count 3 1 M) (fun r4 M3 =>
  if i32 r4 ≤ i32 v1 then
    kx45 M3
  else
    bI (f_BT_cell 40 v1 M3) (fun r6 M5 =>
    bV (f_Now_write r6 M5) (fun M7 =>
    kH (v1 + 1) M7)))
set_option maxRecDepth 20000 in
set_option maxHeartbeats 4000000 in
theorem w_Now_draw_B15 (d : Nat) (kH : Int → Mm → Option (Mm)) (kx45 : Mm → Option (Mm)) (hkH : ∀ (v1 : Int) (M : Mm), T (E_Now_draw d) injV 15 [(0, .ref 39), (1, vI v1)] [] M (kH v1 M)) (hkx45 : ∀  (M : Mm), T (E_Now_draw d) injV 45 [(0, .ref 39)] [] M (kx45 M)) (v1 : Int) (M : Mm) : T (E_Now_draw d) injV 15 [(0, .ref 39), (1, vI v1)] [] M (f_Now_draw_B15 kH kx45 v1 M) := by
  unfold f_Now_draw_B15
  refine tq_iload_n 1 (E := E_Now_draw d) (pc := 15) (cks_at k_Now_draw 9 rfl rfl) rfl ?_
  refine tq_aload_n 0 (E := E_Now_draw d) (pc := 16) (cks_at k_Now_draw 10 rfl rfl) rfl ?_
  refine tq_getR (j := 3) (E := E_Now_draw d) (pc := 17) (cks_at k_Now_draw 11 rfl rfl) fo_Now_30 so_39 rfl sp_39_0 ?_
  refine tq_iconst (E := E_Now_draw d) (pc := 20) (cks_at k_Now_draw 12 rfl rfl) ?_
  refine tq_V1 (E := E_Now_draw d) (pc := 21) (cks_at k_Now_draw 13 rfl rfl) mk_Told_count lk_Now_67 (isTold_rc (Or.inl rfl)) (Nat.le_of_ble_eq_true rfl) (c_Told_count (d + 1) 3 (Or.inl rfl) 1 M) (k_I fun r4 M3 => ?_)
  refine tq_icmp_ge (E := E_Now_draw d) (pc := 24) (tgt := 45) (cks_at k_Now_draw 14 rfl rfl) (by decide) ?_ ?_
  · exact tq_sub [0] rfl (hkx45 M3)
  · refine tq_aload_n 0 (E := E_Now_draw d) (pc := 27) (cks_at k_Now_draw 15 rfl rfl) rfl ?_
    refine tq_aload_n 0 (E := E_Now_draw d) (pc := 28) (cks_at k_Now_draw 16 rfl rfl) rfl ?_
    refine tq_getR (j := 40) (E := E_Now_draw d) (pc := 29) (cks_at k_Now_draw 17 rfl rfl) fo_Now_9 so_39 rfl sp_39_1 ?_
    refine tq_iload_n 1 (E := E_Now_draw d) (pc := 32) (cks_at k_Now_draw 18 rfl rfl) rfl ?_
    refine tq_S2 (E := E_Now_draw d) (pc := 33) (cks_at k_Now_draw 19 rfl rfl) mk_BT_cell lk_Now_57 (Nat.le_of_ble_eq_true rfl) (c_BT_cell (d + 2) 40 sa_40 v1 M3) (k_I fun r6 M5 => ?_)
    refine tq_V1 (E := E_Now_draw d) (pc := 36) (cks_at k_Now_draw 20 rfl rfl) mk_Now_write lk_Now_88 rc_39 (Nat.le_of_ble_eq_true rfl) (c_Now_write (d + 1) r6 M5) (k_V fun M7 => ?_)
    refine tq_iinc 1 (E := E_Now_draw d) (pc := 39) (cks_at k_Now_draw 21 rfl rfl) rfl (show 1 < 2 by decide) rfl ?_
    refine tq_goto (tgt := 15) (E := E_Now_draw d) (pc := 42) (cks_at k_Now_draw 22 rfl rfl) (by decide) ?_
    exact tq_sub [1, 0] rfl (hkH (v1 + 1) M7)
def f_Now_draw_L15 (kx45 : Mm → Option (Mm)) : Nat → Int × Mm → Option (Mm) := lp fun kH s => f_Now_draw_B15 (fun v1 M => kH (v1, M)) kx45 s.1 s.2
set_option maxRecDepth 20000 in
set_option maxHeartbeats 4000000 in
theorem w_Now_draw_L15 (d : Nat) (kx45 : Mm → Option (Mm)) (hkx45 : ∀  (M : Mm), T (E_Now_draw d) injV 45 [(0, .ref 39)] [] M (kx45 M)) (n : Nat) (s : Int × Mm) : T (E_Now_draw d) injV 15 [(0, .ref 39), (1, vI s.1)] [] s.2 (f_Now_draw_L15 kx45 n s) :=
  tq_lp (fun s => [(0, .ref 39), (1, vI s.1)]) (fun s => s.2) (fun kH hH s => w_Now_draw_B15 d (fun v1 M => kH (v1, M)) kx45 (fun v1 M => hH (v1, M)) hkx45 s.1 s.2) n s
def f_Now_draw_B47 (kH : Int → Mm → Option (Mm)) (kx101 : Mm → Option (Mm)) (v1 : Int) (M : Mm) : Option (Mm) :=
  bI (f_Told_count 3 2 M) (fun r10 M9 =>
  if i32 r10 ≤ i32 v1 then
    kx101 M9
  else
    bI (f_BT_cell 41 v1 M9) (fun r12 M11 =>
    bV (f_Now_write r12 M11) (fun M13 =>
    bI (f_BT_cell 42 v1 M13) (fun r15 M14 =>
    bV (f_Now_write r15 M14) (fun M16 =>
    bI (f_BT_cell 43 v1 M16) (fun r18 M17 =>
    bV (f_Now_writeHour r18 M17) (fun M19 =>
    kH (v1 + 1) M19)))))))
set_option maxRecDepth 20000 in
set_option maxHeartbeats 4000000 in
theorem w_Now_draw_B47 (d : Nat) (kH : Int → Mm → Option (Mm)) (kx101 : Mm → Option (Mm)) (hkH : ∀ (v1 : Int) (M : Mm), T (E_Now_draw d) injV 47 [(0, .ref 39), (1, vI v1)] [] M (kH v1 M)) (hkx101 : ∀  (M : Mm), T (E_Now_draw d) injV 101 [(0, .ref 39)] [] M (kx101 M)) (v1 : Int) (M : Mm) : T (E_Now_draw d) injV 47 [(0, .ref 39), (1, vI v1)] [] M (f_Now_draw_B47 kH kx101 v1 M) := by
  unfold f_Now_draw_B47
  refine tq_iload_n 1 (E := E_Now_draw d) (pc := 47) (cks_at k_Now_draw 25 rfl rfl) rfl ?_
  refine tq_aload_n 0 (E := E_Now_draw d) (pc := 48) (cks_at k_Now_draw 26 rfl rfl) rfl ?_
  refine tq_getR (j := 3) (E := E_Now_draw d) (pc := 49) (cks_at k_Now_draw 27 rfl rfl) fo_Now_30 so_39 rfl sp_39_0 ?_
  refine tq_iconst (E := E_Now_draw d) (pc := 52) (cks_at k_Now_draw 28 rfl rfl) ?_
  refine tq_V1 (E := E_Now_draw d) (pc := 53) (cks_at k_Now_draw 29 rfl rfl) mk_Told_count lk_Now_67 (isTold_rc (Or.inl rfl)) (Nat.le_of_ble_eq_true rfl) (c_Told_count (d + 1) 3 (Or.inl rfl) 2 M) (k_I fun r10 M9 => ?_)
  refine tq_icmp_ge (E := E_Now_draw d) (pc := 56) (tgt := 101) (cks_at k_Now_draw 30 rfl rfl) (by decide) ?_ ?_
  · exact tq_sub [0] rfl (hkx101 M9)
  · refine tq_aload_n 0 (E := E_Now_draw d) (pc := 59) (cks_at k_Now_draw 31 rfl rfl) rfl ?_
    refine tq_aload_n 0 (E := E_Now_draw d) (pc := 60) (cks_at k_Now_draw 32 rfl rfl) rfl ?_
    refine tq_getR (j := 41) (E := E_Now_draw d) (pc := 61) (cks_at k_Now_draw 33 rfl rfl) fo_Now_15 so_39 rfl sp_39_2 ?_
    refine tq_iload_n 1 (E := E_Now_draw d) (pc := 64) (cks_at k_Now_draw 34 rfl rfl) rfl ?_
    refine tq_S2 (E := E_Now_draw d) (pc := 65) (cks_at k_Now_draw 35 rfl rfl) mk_BT_cell lk_Now_57 (Nat.le_of_ble_eq_true rfl) (c_BT_cell (d + 2) 41 sa_41 v1 M9) (k_I fun r12 M11 => ?_)
    refine tq_V1 (E := E_Now_draw d) (pc := 68) (cks_at k_Now_draw 36 rfl rfl) mk_Now_write lk_Now_88 rc_39 (Nat.le_of_ble_eq_true rfl) (c_Now_write (d + 1) r12 M11) (k_V fun M13 => ?_)
    refine tq_aload_n 0 (E := E_Now_draw d) (pc := 71) (cks_at k_Now_draw 37 rfl rfl) rfl ?_
    refine tq_aload_n 0 (E := E_Now_draw d) (pc := 72) (cks_at k_Now_draw 38 rfl rfl) rfl ?_
    refine tq_getR (j := 42) (E := E_Now_draw d) (pc := 73) (cks_at k_Now_draw 39 rfl rfl) fo_Now_18 so_39 rfl sp_39_3 ?_
    refine tq_iload_n 1 (E := E_Now_draw d) (pc := 76) (cks_at k_Now_draw 40 rfl rfl) rfl ?_
    refine tq_S2 (E := E_Now_draw d) (pc := 77) (cks_at k_Now_draw 41 rfl rfl) mk_BT_cell lk_Now_57 (Nat.le_of_ble_eq_true rfl) (c_BT_cell (d + 2) 42 sa_42 v1 M13) (k_I fun r15 M14 => ?_)
    refine tq_V1 (E := E_Now_draw d) (pc := 80) (cks_at k_Now_draw 42 rfl rfl) mk_Now_write lk_Now_88 rc_39 (Nat.le_of_ble_eq_true rfl) (c_Now_write (d + 1) r15 M14) (k_V fun M16 => ?_)
    refine tq_aload_n 0 (E := E_Now_draw d) (pc := 83) (cks_at k_Now_draw 43 rfl rfl) rfl ?_
    refine tq_aload_n 0 (E := E_Now_draw d) (pc := 84) (cks_at k_Now_draw 44 rfl rfl) rfl ?_
    refine tq_getR (j := 43) (E := E_Now_draw d) (pc := 85) (cks_at k_Now_draw 45 rfl rfl) fo_Now_21 so_39 rfl sp_39_4 ?_
    refine tq_iload_n 1 (E := E_Now_draw d) (pc := 88) (cks_at k_Now_draw 46 rfl rfl) rfl ?_
    refine tq_S2 (E := E_Now_draw d) (pc := 89) (cks_at k_Now_draw 47 rfl rfl) mk_BT_cell lk_Now_57 (Nat.le_of_ble_eq_true rfl) (c_BT_cell (d + 2) 43 sa_43 v1 M16) (k_I fun r18 M17 => ?_)
    refine tq_V1 (E := E_Now_draw d) (pc := 92) (cks_at k_Now_draw 48 rfl rfl) mk_Now_writeHour lk_Now_92 rc_39 (Nat.le_of_ble_eq_true rfl) (c_Now_writeHour (d + 0) r18 M17) (k_V fun M19 => ?_)
    refine tq_iinc 1 (E := E_Now_draw d) (pc := 95) (cks_at k_Now_draw 49 rfl rfl) rfl (show 1 < 2 by decide) rfl ?_
    refine tq_goto (tgt := 47) (E := E_Now_draw d) (pc := 98) (cks_at k_Now_draw 50 rfl rfl) (by decide) ?_
    exact tq_sub [1, 0] rfl (hkH (v1 + 1) M19)
def f_Now_draw_L47 (kx101 : Mm → Option (Mm)) : Nat → Int × Mm → Option (Mm) := lp fun kH s => f_Now_draw_B47 (fun v1 M => kH (v1, M)) kx101 s.1 s.2
set_option maxRecDepth 20000 in
set_option maxHeartbeats 4000000 in
theorem w_Now_draw_L47 (d : Nat) (kx101 : Mm → Option (Mm)) (hkx101 : ∀  (M : Mm), T (E_Now_draw d) injV 101 [(0, .ref 39)] [] M (kx101 M)) (n : Nat) (s : Int × Mm) : T (E_Now_draw d) injV 47 [(0, .ref 39), (1, vI s.1)] [] s.2 (f_Now_draw_L47 kx101 n s) :=
  tq_lp (fun s => [(0, .ref 39), (1, vI s.1)]) (fun s => s.2) (fun kH hH s => w_Now_draw_B47 d (fun v1 M => kH (v1, M)) kx101 (fun v1 M => hH (v1, M)) hkx101 s.1 s.2) n s
def f_Now_draw (M : Mm) : Option (Mm) :=
  bd (up M 39 7 0) (fun M1 =>
  bV (f_Now_writeHour (M1 39 8) M1) (fun M2 =>
  f_Now_draw_L15 (fun M8 => f_Now_draw_L47 (fun M20 => bI (f_Now_check 45 (M20 39 7) M20) (fun r22 M21 =>
          bV (f_Now_write r22 M21) (fun M23 =>
          some M23))) FU (0, M8)) FU (0, M2)))
set_option maxRecDepth 20000 in
set_option maxHeartbeats 4000000 in
theorem c_Now_draw (d : Nat) (M : Mm) (Q : Option Value → Mm → Prop) (h : sat injV (f_Now_draw M) Q) : Ct (d + 4) y_Now_draw [.ref 39] M Q := by
  refine ct_in (d := d + 3) mk_Now_draw (Nat.le_of_ble_eq_true rfl) (?_ : T (E_Now_draw d) injV 0 [(0, .ref 39)] [] M (f_Now_draw M)) h
  unfold f_Now_draw
  refine tq_aload_n 0 (E := E_Now_draw d) (pc := 0) (cks_at k_Now_draw 0 rfl rfl) rfl ?_
  refine tq_iconst (E := E_Now_draw d) (pc := 1) (cks_at k_Now_draw 1 rfl rfl) ?_
  refine tq_putI (E := E_Now_draw d) (pc := 2) (cks_at k_Now_draw 2 rfl rfl) fo_Now_85 so_39 rfl po_2_7 (fun M1 => ?_)
  refine tq_aload_n 0 (E := E_Now_draw d) (pc := 5) (cks_at k_Now_draw 3 rfl rfl) rfl ?_
  refine tq_aload_n 0 (E := E_Now_draw d) (pc := 6) (cks_at k_Now_draw 4 rfl rfl) rfl ?_
  refine tq_getI (E := E_Now_draw d) (pc := 7) (cks_at k_Now_draw 5 rfl rfl) fo_Now_40 so_39 rfl (by decide) ?_
  refine tq_V1 (E := E_Now_draw d) (pc := 10) (cks_at k_Now_draw 6 rfl rfl) mk_Now_writeHour lk_Now_92 rc_39 (Nat.le_of_ble_eq_true rfl) (c_Now_writeHour (d + 0) (M1 39 8) M1) (k_V fun M2 => ?_)
  refine tq_iconst (E := E_Now_draw d) (pc := 13) (cks_at k_Now_draw 7 rfl rfl) ?_
  refine tq_istore_n (E := E_Now_draw d) (pc := 14) (cks_at k_Now_draw 8 rfl rfl) (show 1 < 2 by decide) rfl ?_
  exact tq_sub [1, 0] rfl (w_Now_draw_L15 d _ (fun M8 => by
      refine tq_iconst (E := E_Now_draw d) (pc := 45) (cks_at k_Now_draw 23 rfl rfl) ?_
      refine tq_istore_n (E := E_Now_draw d) (pc := 46) (cks_at k_Now_draw 24 rfl rfl) (show 1 < 2 by decide) rfl ?_
      exact tq_sub [1, 0] rfl (w_Now_draw_L47 d _ (fun M20 => by
          refine tq_aload_n 0 (E := E_Now_draw d) (pc := 101) (cks_at k_Now_draw 51 rfl rfl) rfl ?_
          refine tq_aload_n 0 (E := E_Now_draw d) (pc := 102) (cks_at k_Now_draw 52 rfl rfl) rfl ?_
          refine tq_getR (j := 45) (E := E_Now_draw d) (pc := 103) (cks_at k_Now_draw 53 rfl rfl) fo_Now_27 so_39 rfl sp_39_6 ?_
          refine tq_aload_n 0 (E := E_Now_draw d) (pc := 106) (cks_at k_Now_draw 54 rfl rfl) rfl ?_
          refine tq_getI (E := E_Now_draw d) (pc := 107) (cks_at k_Now_draw 55 rfl rfl) fo_Now_85 so_39 rfl (by decide) ?_
          refine tq_S2 (E := E_Now_draw d) (pc := 110) (cks_at k_Now_draw 56 rfl rfl) mk_Now_check lk_Now_95 (Nat.le_of_ble_eq_true rfl) (c_Now_check (d + 1) 45 sa_45 (M20 39 7) M20) (k_I fun r22 M21 => ?_)
          refine tq_V1 (E := E_Now_draw d) (pc := 113) (cks_at k_Now_draw 57 rfl rfl) mk_Now_write lk_Now_88 rc_39 (Nat.le_of_ble_eq_true rfl) (c_Now_write (d + 1) r22 M21) (k_V fun M23 => ?_)
          exact tq_vret (E := E_Now_draw d) (pc := 116) (cks_at k_Now_draw 58 rfl rfl) rfl) FU (0, M8))) FU (0, M2))
abbrev E_BT_image (d : Nat) : Ev := (Ct (d + 4), "BreathTown", prog_1_method_32_code, 1, False, 0, (fun _ => 0), (Option.some Jvm.ClassFile.FieldType.int))
def f_BT_image (M : Mm) : Option (Int × Mm) :=
  bV (f_Now_draw M) (fun M1 =>
  some (M1 39 7, M1))
set_option maxRecDepth 20000 in
set_option maxHeartbeats 4000000 in
theorem c_BT_image (d : Nat) (M : Mm) (Q : Option Value → Mm → Prop) (h : sat injI (f_BT_image M) Q) : Ct (d + 5) y_BT_image [.ref 0] M Q := by
  refine ct_in (d := d + 4) mk_BT_image (Nat.le_of_ble_eq_true rfl) (?_ : T (E_BT_image d) injI 0 [(0, .ref 0)] [] M (f_BT_image M)) h
  unfold f_BT_image
  refine tq_aload_n 0 (E := E_BT_image d) (pc := 0) (cks_at k_BT_image 0 rfl rfl) rfl ?_
  refine tq_getR (j := 39) (E := E_BT_image d) (pc := 1) (cks_at k_BT_image 1 rfl rfl) fo_BT_40 so_0 rfl sp_0_4 ?_
  refine tq_V0 (E := E_BT_image d) (pc := 4) (cks_at k_BT_image 2 rfl rfl) mk_Now_draw lk_BT_289 rc_39 (Nat.le_of_ble_eq_true rfl) (c_Now_draw (d + 0) M) (k_V fun M1 => ?_)
  refine tq_aload_n 0 (E := E_BT_image d) (pc := 7) (cks_at k_BT_image 3 rfl rfl) rfl ?_
  refine tq_getR (j := 39) (E := E_BT_image d) (pc := 8) (cks_at k_BT_image 4 rfl rfl) fo_BT_40 so_0 rfl sp_0_4 ?_
  refine tq_getI (E := E_BT_image d) (pc := 11) (cks_at k_BT_image 5 rfl rfl) fo_BT_292 so_39 rfl (by decide) ?_
  exact tq_iret (E := E_BT_image d) (pc := 14) (cks_at k_BT_image 6 rfl rfl) rfl
abbrev E_M_look (d : Nat) : Ev := (Ct (d + 0), "BreathTownModel", prog_14_method_8_code, 1, False, 0, (fun _ => 0), (Option.some Jvm.ClassFile.FieldType.int))
def f_M_look_J39 (kH : Mm → Option (Int × Mm)) (kx52 : Mm → Option (Int × Mm)) (M : Mm) : Option (Int × Mm) :=
  bd (up M 78 2 ((M 78 2) + 1)) (fun M1 =>
  kH M1)
set_option maxRecDepth 20000 in
set_option maxHeartbeats 4000000 in
theorem w_M_look_J39 (d : Nat) (kH : Mm → Option (Int × Mm)) (kx52 : Mm → Option (Int × Mm)) (hkH : ∀  (M : Mm), T (E_M_look d) injI 0 [(0, .ref 78)] [] M (kH M)) (hkx52 : ∀  (M : Mm), T (E_M_look d) injI 52 [(0, .ref 78)] [] M (kx52 M)) (M : Mm) : T (E_M_look d) injI 39 [(0, .ref 78)] [] M (f_M_look_J39 kH kx52 M) := by
  unfold f_M_look_J39
  refine tq_aload_n 0 (E := E_M_look d) (pc := 39) (cks_at k_M_look 19 rfl rfl) rfl ?_
  refine tq_dup (E := E_M_look d) (pc := 40) (cks_at k_M_look 20 rfl rfl) rfl ?_
  refine tq_getI (E := E_M_look d) (pc := 41) (cks_at k_M_look 21 rfl rfl) fo_M_231 so_78 rfl (by decide) ?_
  refine tq_iconst (E := E_M_look d) (pc := 44) (cks_at k_M_look 22 rfl rfl) ?_
  refine tq_iadd (E := E_M_look d) (pc := 45) (cks_at k_M_look 23 rfl rfl) ?_
  refine tq_putI (E := E_M_look d) (pc := 46) (cks_at k_M_look 24 rfl rfl) fo_M_231 so_78 rfl po_12_2 (fun M1 => ?_)
  refine tq_goto (tgt := 0) (E := E_M_look d) (pc := 49) (cks_at k_M_look 25 rfl rfl) (by decide) ?_
  exact tq_sub [0] rfl (hkH M1)
def f_M_look_B0 (kH : Mm → Option (Int × Mm)) (kx52 : Mm → Option (Int × Mm)) (M : Mm) : Option (Int × Mm) :=
  if i32 (M 78 3) ≤ i32 (M 78 2) then
    kx52 M
  else
    gd (0 ≤ i32 (M 78 2) ∧ i32 (M 78 2) < ((1600 : Nat) : Int)) <|
    if i32 (M 79 (i32 (M 78 2)).toNat) = i32 10 then
      f_M_look_J39 kH kx52 M
    else
      gd (0 ≤ i32 (M 78 2) ∧ i32 (M 78 2) < ((1600 : Nat) : Int)) <|
      if ¬ i32 (M 79 (i32 (M 78 2)).toNat) = i32 32 then
        kx52 M
      else
        f_M_look_J39 kH kx52 M
set_option maxRecDepth 20000 in
set_option maxHeartbeats 4000000 in
theorem w_M_look_B0 (d : Nat) (kH : Mm → Option (Int × Mm)) (kx52 : Mm → Option (Int × Mm)) (hkH : ∀  (M : Mm), T (E_M_look d) injI 0 [(0, .ref 78)] [] M (kH M)) (hkx52 : ∀  (M : Mm), T (E_M_look d) injI 52 [(0, .ref 78)] [] M (kx52 M)) (M : Mm) : T (E_M_look d) injI 0 [(0, .ref 78)] [] M (f_M_look_B0 kH kx52 M) := by
  unfold f_M_look_B0
  refine tq_aload_n 0 (E := E_M_look d) (pc := 0) (cks_at k_M_look 0 rfl rfl) rfl ?_
  refine tq_getI (E := E_M_look d) (pc := 1) (cks_at k_M_look 1 rfl rfl) fo_M_231 so_78 rfl (by decide) ?_
  refine tq_aload_n 0 (E := E_M_look d) (pc := 4) (cks_at k_M_look 2 rfl rfl) rfl ?_
  refine tq_getI (E := E_M_look d) (pc := 5) (cks_at k_M_look 3 rfl rfl) fo_M_234 so_78 rfl (by decide) ?_
  refine tq_icmp_ge (E := E_M_look d) (pc := 8) (tgt := 52) (cks_at k_M_look 4 rfl rfl) (by decide) ?_ ?_
  · exact tq_sub [0] rfl (hkx52 M)
  · refine tq_aload_n 0 (E := E_M_look d) (pc := 11) (cks_at k_M_look 5 rfl rfl) rfl ?_
    refine tq_getR (j := 79) (E := E_M_look d) (pc := 12) (cks_at k_M_look 6 rfl rfl) fo_M_7 so_78 rfl sp_78_0 ?_
    refine tq_aload_n 0 (E := E_M_look d) (pc := 15) (cks_at k_M_look 7 rfl rfl) rfl ?_
    refine tq_getI (E := E_M_look d) (pc := 16) (cks_at k_M_look 8 rfl rfl) fo_M_231 so_78 rfl (by decide) ?_
    refine tq_iald (E := E_M_look d) (pc := 19) (cks_at k_M_look 9 rfl rfl) sa_79 sn_79 ?_
    refine tq_bipush (E := E_M_look d) (pc := 20) (cks_at k_M_look 10 rfl rfl) (by decide) (by decide) ?_
    refine tq_icmp_eq (E := E_M_look d) (pc := 22) (tgt := 39) (cks_at k_M_look 11 rfl rfl) (by decide) ?_ ?_
    · exact tq_sub [0] rfl (w_M_look_J39 d kH kx52 hkH hkx52 M)
    · refine tq_aload_n 0 (E := E_M_look d) (pc := 25) (cks_at k_M_look 12 rfl rfl) rfl ?_
      refine tq_getR (j := 79) (E := E_M_look d) (pc := 26) (cks_at k_M_look 13 rfl rfl) fo_M_7 so_78 rfl sp_78_0 ?_
      refine tq_aload_n 0 (E := E_M_look d) (pc := 29) (cks_at k_M_look 14 rfl rfl) rfl ?_
      refine tq_getI (E := E_M_look d) (pc := 30) (cks_at k_M_look 15 rfl rfl) fo_M_231 so_78 rfl (by decide) ?_
      refine tq_iald (E := E_M_look d) (pc := 33) (cks_at k_M_look 16 rfl rfl) sa_79 sn_79 ?_
      refine tq_bipush (E := E_M_look d) (pc := 34) (cks_at k_M_look 17 rfl rfl) (by decide) (by decide) ?_
      refine tq_icmp_ne (E := E_M_look d) (pc := 36) (tgt := 52) (cks_at k_M_look 18 rfl rfl) (by decide) ?_ ?_
      · exact tq_sub [0] rfl (hkx52 M)
      · exact tq_sub [0] rfl (w_M_look_J39 d kH kx52 hkH hkx52 M)
def f_M_look_L0 (kx52 : Mm → Option (Int × Mm)) : Nat → Mm → Option (Int × Mm) := lp fun kH s => f_M_look_B0 kH kx52 s
set_option maxRecDepth 20000 in
set_option maxHeartbeats 4000000 in
theorem w_M_look_L0 (d : Nat) (kx52 : Mm → Option (Int × Mm)) (hkx52 : ∀  (M : Mm), T (E_M_look d) injI 52 [(0, .ref 78)] [] M (kx52 M)) (n : Nat) (s : Mm) : T (E_M_look d) injI 0 [(0, .ref 78)] [] s (f_M_look_L0 kx52 n s) :=
  tq_lp (fun s => [(0, .ref 78)]) (fun s => s) (fun kH hH s => w_M_look_B0 d kH kx52 (fun M => hH (M)) hkx52 s) n s
def f_M_look_J52 (M : Mm) : Option (Int × Mm) :=
  if i32 (M 78 3) ≤ i32 (M 78 2) then
    some ((-1), M)
  else
    gd (0 ≤ i32 (M 78 2) ∧ i32 (M 78 2) < ((1600 : Nat) : Int)) <|
    some (M 79 (i32 (M 78 2)).toNat, M)
set_option maxRecDepth 20000 in
set_option maxHeartbeats 4000000 in
theorem w_M_look_J52 (d : Nat) (M : Mm) : T (E_M_look d) injI 52 [(0, .ref 78)] [] M (f_M_look_J52 M) := by
  unfold f_M_look_J52
  refine tq_aload_n 0 (E := E_M_look d) (pc := 52) (cks_at k_M_look 26 rfl rfl) rfl ?_
  refine tq_getI (E := E_M_look d) (pc := 53) (cks_at k_M_look 27 rfl rfl) fo_M_231 so_78 rfl (by decide) ?_
  refine tq_aload_n 0 (E := E_M_look d) (pc := 56) (cks_at k_M_look 28 rfl rfl) rfl ?_
  refine tq_getI (E := E_M_look d) (pc := 57) (cks_at k_M_look 29 rfl rfl) fo_M_234 so_78 rfl (by decide) ?_
  refine tq_icmp_ge (E := E_M_look d) (pc := 60) (tgt := 75) (cks_at k_M_look 30 rfl rfl) (by decide) ?_ ?_
  · refine tq_iconst (E := E_M_look d) (pc := 75) (cks_at k_M_look 37 rfl rfl) ?_
    exact tq_iret (E := E_M_look d) (pc := 76) (cks_at k_M_look 38 rfl rfl) rfl
  · refine tq_aload_n 0 (E := E_M_look d) (pc := 63) (cks_at k_M_look 31 rfl rfl) rfl ?_
    refine tq_getR (j := 79) (E := E_M_look d) (pc := 64) (cks_at k_M_look 32 rfl rfl) fo_M_7 so_78 rfl sp_78_0 ?_
    refine tq_aload_n 0 (E := E_M_look d) (pc := 67) (cks_at k_M_look 33 rfl rfl) rfl ?_
    refine tq_getI (E := E_M_look d) (pc := 68) (cks_at k_M_look 34 rfl rfl) fo_M_231 so_78 rfl (by decide) ?_
    refine tq_iald (E := E_M_look d) (pc := 71) (cks_at k_M_look 35 rfl rfl) sa_79 sn_79 ?_
    refine tq_goto (tgt := 76) (E := E_M_look d) (pc := 72) (cks_at k_M_look 36 rfl rfl) (by decide) ?_
    exact tq_iret (E := E_M_look d) (pc := 76) (cks_at k_M_look 38 rfl rfl) rfl
def f_M_look (M : Mm) : Option (Int × Mm) :=
  f_M_look_L0 (fun M2 => f_M_look_J52 M2) FU M
set_option maxRecDepth 20000 in
set_option maxHeartbeats 4000000 in
theorem c_M_look (d : Nat) (M : Mm) (Q : Option Value → Mm → Prop) (h : sat injI (f_M_look M) Q) : Ct (d + 1) y_M_look [.ref 78] M Q := by
  refine ct_in (d := d + 0) mk_M_look (Nat.le_of_ble_eq_true rfl) (?_ : T (E_M_look d) injI 0 [(0, .ref 78)] [] M (f_M_look M)) h
  unfold f_M_look
  exact tq_sub [0] rfl (w_M_look_L0 d _ (fun M2 => by
      exact tq_sub [0] rfl (w_M_look_J52 d M2)) FU M)
abbrev E_M_isLetter (d : Nat) : Ev := (Ct (d + 0), "BreathTownModel", prog_14_method_6_code, 1, False, 0, (fun _ => 0), (Option.some Jvm.ClassFile.FieldType.boolean))
def f_M_isLetter (v0 : Int) (M : Mm) : Option (Int × Mm) :=
  if i32 v0 < i32 97 then
    some (0, M)
  else
    if i32 122 < i32 v0 then
      some (0, M)
    else
      some (1, M)
set_option maxRecDepth 20000 in
set_option maxHeartbeats 4000000 in
theorem c_M_isLetter (d : Nat) (v0 : Int) (M : Mm) (Q : Option Value → Mm → Prop) (h : sat injI (f_M_isLetter v0 M) Q) : Ct (d + 1) y_M_isLetter [vI v0] M Q := by
  refine ct_in (d := d + 0) mk_M_isLetter (Nat.le_of_ble_eq_true rfl) (?_ : T (E_M_isLetter d) injI 0 [(0, vI v0)] [] M (f_M_isLetter v0 M)) h
  unfold f_M_isLetter
  refine tq_iload_n 0 (E := E_M_isLetter d) (pc := 0) (cks_at k_M_isLetter 0 rfl rfl) rfl ?_
  refine tq_bipush (E := E_M_isLetter d) (pc := 1) (cks_at k_M_isLetter 1 rfl rfl) (by decide) (by decide) ?_
  refine tq_icmp_lt (E := E_M_isLetter d) (pc := 3) (tgt := 16) (cks_at k_M_isLetter 2 rfl rfl) (by decide) ?_ ?_
  · refine tq_iconst (E := E_M_isLetter d) (pc := 16) (cks_at k_M_isLetter 8 rfl rfl) ?_
    exact tq_zretC (E := E_M_isLetter d) (pc := 17) (cks_at k_M_isLetter 9 rfl rfl) rfl (by decide)
  · refine tq_iload_n 0 (E := E_M_isLetter d) (pc := 6) (cks_at k_M_isLetter 3 rfl rfl) rfl ?_
    refine tq_bipush (E := E_M_isLetter d) (pc := 7) (cks_at k_M_isLetter 4 rfl rfl) (by decide) (by decide) ?_
    refine tq_icmp_gt (E := E_M_isLetter d) (pc := 9) (tgt := 16) (cks_at k_M_isLetter 5 rfl rfl) (by decide) ?_ ?_
    · refine tq_iconst (E := E_M_isLetter d) (pc := 16) (cks_at k_M_isLetter 8 rfl rfl) ?_
      exact tq_zretC (E := E_M_isLetter d) (pc := 17) (cks_at k_M_isLetter 9 rfl rfl) rfl (by decide)
    · refine tq_iconst (E := E_M_isLetter d) (pc := 12) (cks_at k_M_isLetter 6 rfl rfl) ?_
      refine tq_goto (tgt := 17) (E := E_M_isLetter d) (pc := 13) (cks_at k_M_isLetter 7 rfl rfl) (by decide) ?_
      exact tq_zretC (E := E_M_isLetter d) (pc := 17) (cks_at k_M_isLetter 9 rfl rfl) rfl (by decide)
abbrev E_M_isHere (d : Nat) : Ev := (Ct (d + 1), "BreathTownModel", prog_14_method_9_code, 4, False, 0, (fun _ => 0), (Option.some Jvm.ClassFile.FieldType.boolean))
def f_M_isHere_B35 (row1 : Nat) (kH : Int → Mm → Option (Int × Mm)) (kx61 : Int → Mm → Option (Int × Mm)) (v2 : Int) (M : Mm) : Option (Int × Mm) :=
  if i32 (M 78 3) ≤ i32 v2 then
    kx61 v2 M
  else
    gd (0 ≤ i32 v2 ∧ i32 v2 < ((1600 : Nat) : Int)) <|
    bI (f_M_isLetter (M 79 (i32 v2).toNat) M) (fun r6 M5 =>
    if i32 r6 = 0 then
      kx61 v2 M5
    else
      kH (v2 + 1) M5)
set_option maxRecDepth 20000 in
set_option maxHeartbeats 4000000 in
theorem w_M_isHere_B35 (d : Nat) (row1 : Nat) (hrow1 : skind row1 = 23 ∧ row1 < NC) (kH : Int → Mm → Option (Int × Mm)) (kx61 : Int → Mm → Option (Int × Mm)) (hkH : ∀ (v2 : Int) (M : Mm), T (E_M_isHere d) injI 35 [(0, .ref 78), (1, .ref row1), (2, vI v2)] [] M (kH v2 M)) (hkx61 : ∀ (v2 : Int) (M : Mm), T (E_M_isHere d) injI 61 [(0, .ref 78), (1, .ref row1), (2, vI v2)] [] M (kx61 v2 M)) (v2 : Int) (M : Mm) : T (E_M_isHere d) injI 35 [(0, .ref 78), (1, .ref row1), (2, vI v2)] [] M (f_M_isHere_B35 row1 kH kx61 v2 M) := by
  unfold f_M_isHere_B35
  refine tq_iload_n 2 (E := E_M_isHere d) (pc := 35) (cks_at k_M_isHere 17 rfl rfl) rfl ?_
  refine tq_aload_n 0 (E := E_M_isHere d) (pc := 36) (cks_at k_M_isHere 18 rfl rfl) rfl ?_
  refine tq_getI (E := E_M_isHere d) (pc := 37) (cks_at k_M_isHere 19 rfl rfl) fo_M_234 so_78 rfl (by decide) ?_
  refine tq_icmp_ge (E := E_M_isHere d) (pc := 40) (tgt := 61) (cks_at k_M_isHere 20 rfl rfl) (by decide) ?_ ?_
  · exact tq_sub [0, 1, 2] rfl (hkx61 v2 M)
  · refine tq_aload_n 0 (E := E_M_isHere d) (pc := 43) (cks_at k_M_isHere 21 rfl rfl) rfl ?_
    refine tq_getR (j := 79) (E := E_M_isHere d) (pc := 44) (cks_at k_M_isHere 22 rfl rfl) fo_M_7 so_78 rfl sp_78_0 ?_
    refine tq_iload_n 2 (E := E_M_isHere d) (pc := 47) (cks_at k_M_isHere 23 rfl rfl) rfl ?_
    refine tq_iald (E := E_M_isHere d) (pc := 48) (cks_at k_M_isHere 24 rfl rfl) sa_79 sn_79 ?_
    refine tq_S1 (E := E_M_isHere d) (pc := 49) (cks_at k_M_isHere 25 rfl rfl) mk_M_isLetter lk_M_241 (Nat.le_of_ble_eq_true rfl) (c_M_isLetter (d + 0) (M 79 (i32 v2).toNat) M) (k_I fun r6 M5 => ?_)
    refine tq_if_eq (E := E_M_isHere d) (pc := 52) (tgt := 61) (cks_at k_M_isHere 26 rfl rfl) (by decide) ?_ ?_
    · exact tq_sub [0, 1, 2] rfl (hkx61 v2 M5)
    · refine tq_iinc 2 (E := E_M_isHere d) (pc := 55) (cks_at k_M_isHere 27 rfl rfl) rfl (show 2 < 4 by decide) rfl ?_
      refine tq_goto (tgt := 35) (E := E_M_isHere d) (pc := 58) (cks_at k_M_isHere 28 rfl rfl) (by decide) ?_
      exact tq_sub [1, 2, 0] rfl (hkH (v2 + 1) M5)
def f_M_isHere_L35 (row1 : Nat) (kx61 : Int → Mm → Option (Int × Mm)) : Nat → Int × Mm → Option (Int × Mm) := lp fun kH s => f_M_isHere_B35 row1 (fun v2 M => kH (v2, M)) kx61 s.1 s.2
set_option maxRecDepth 20000 in
set_option maxHeartbeats 4000000 in
theorem w_M_isHere_L35 (d : Nat) (row1 : Nat) (hrow1 : skind row1 = 23 ∧ row1 < NC) (kx61 : Int → Mm → Option (Int × Mm)) (hkx61 : ∀ (v2 : Int) (M : Mm), T (E_M_isHere d) injI 61 [(0, .ref 78), (1, .ref row1), (2, vI v2)] [] M (kx61 v2 M)) (n : Nat) (s : Int × Mm) : T (E_M_isHere d) injI 35 [(0, .ref 78), (1, .ref row1), (2, vI s.1)] [] s.2 (f_M_isHere_L35 row1 kx61 n s) :=
  tq_lp (fun s => [(0, .ref 78), (1, .ref row1), (2, vI s.1)]) (fun s => s.2) (fun kH hH s => w_M_isHere_B35 d row1 hrow1 (fun v2 M => kH (v2, M)) kx61 (fun v2 M => hH (v2, M)) hkx61 s.1 s.2) n s
def f_M_isHere_B76 (row1 : Nat) (kH : Int → Mm → Option (Int × Mm)) (v3 : Int) (M : Mm) : Option (Int × Mm) :=
  if i32 (((slen row1 : Nat) : Int)) ≤ i32 v3 then
    some (1, M)
  else
    gd (0 ≤ i32 ((M 78 2) + v3) ∧ i32 ((M 78 2) + v3) < ((1600 : Nat) : Int)) <|
    gd (0 ≤ i32 v3 ∧ i32 v3 < ((slen row1 : Nat) : Int)) <|
    if i32 (M 79 (i32 ((M 78 2) + v3)).toNat) = i32 (((ptr row1 (i32 v3).toNat : Nat) : Int)) then
      kH (v3 + 1) M
    else
      some (0, M)
set_option maxRecDepth 20000 in
set_option maxHeartbeats 4000000 in
theorem w_M_isHere_B76 (d : Nat) (row1 : Nat) (hrow1 : skind row1 = 23 ∧ row1 < NC) (kH : Int → Mm → Option (Int × Mm)) (hkH : ∀ (v3 : Int) (M : Mm), T (E_M_isHere d) injI 76 [(0, .ref 78), (1, .ref row1), (3, vI v3)] [] M (kH v3 M)) (v3 : Int) (M : Mm) : T (E_M_isHere d) injI 76 [(0, .ref 78), (1, .ref row1), (3, vI v3)] [] M (f_M_isHere_B76 row1 kH v3 M) := by
  unfold f_M_isHere_B76
  refine tq_iload_n 2 (E := E_M_isHere d) (pc := 76) (cks_at k_M_isHere 40 rfl rfl) rfl ?_
  refine tq_aload_n 1 (E := E_M_isHere d) (pc := 77) (cks_at k_M_isHere 41 rfl rfl) rfl ?_
  refine tq_alen (E := E_M_isHere d) (pc := 78) (cks_at k_M_isHere 42 rfl rfl) ⟨by rw [(hrow1).1]; decide, by rw [(hrow1).1]; decide, (hrow1).2⟩ rfl ?_
  refine tq_icmp_ge (E := E_M_isHere d) (pc := 79) (tgt := 107) (cks_at k_M_isHere 43 rfl rfl) (by decide) ?_ ?_
  · refine tq_iconst (E := E_M_isHere d) (pc := 107) (cks_at k_M_isHere 59 rfl rfl) ?_
    exact tq_zretC (E := E_M_isHere d) (pc := 108) (cks_at k_M_isHere 60 rfl rfl) rfl (by decide)
  · refine tq_aload_n 0 (E := E_M_isHere d) (pc := 82) (cks_at k_M_isHere 44 rfl rfl) rfl ?_
    refine tq_getR (j := 79) (E := E_M_isHere d) (pc := 83) (cks_at k_M_isHere 45 rfl rfl) fo_M_7 so_78 rfl sp_78_0 ?_
    refine tq_aload_n 0 (E := E_M_isHere d) (pc := 86) (cks_at k_M_isHere 46 rfl rfl) rfl ?_
    refine tq_getI (E := E_M_isHere d) (pc := 87) (cks_at k_M_isHere 47 rfl rfl) fo_M_231 so_78 rfl (by decide) ?_
    refine tq_iload_n 2 (E := E_M_isHere d) (pc := 90) (cks_at k_M_isHere 48 rfl rfl) rfl ?_
    refine tq_iadd (E := E_M_isHere d) (pc := 91) (cks_at k_M_isHere 49 rfl rfl) ?_
    refine tq_iald (E := E_M_isHere d) (pc := 92) (cks_at k_M_isHere 50 rfl rfl) sa_79 sn_79 ?_
    refine tq_aload_n 1 (E := E_M_isHere d) (pc := 93) (cks_at k_M_isHere 51 rfl rfl) rfl ?_
    refine tq_iload_n 2 (E := E_M_isHere d) (pc := 94) (cks_at k_M_isHere 52 rfl rfl) rfl ?_
    refine tq_cald (E := E_M_isHere d) (pc := 95) (cks_at k_M_isHere 53 rfl rfl) hrow1 rfl ?_
    refine tq_icmp_eq (E := E_M_isHere d) (pc := 96) (tgt := 101) (cks_at k_M_isHere 54 rfl rfl) (by decide) ?_ ?_
    · refine tq_iinc 2 (E := E_M_isHere d) (pc := 101) (cks_at k_M_isHere 57 rfl rfl) rfl (show 3 < 4 by decide) rfl ?_
      refine tq_goto (tgt := 76) (E := E_M_isHere d) (pc := 104) (cks_at k_M_isHere 58 rfl rfl) (by decide) ?_
      exact tq_sub [1, 2, 0] rfl (hkH (v3 + 1) M)
    · refine tq_iconst (E := E_M_isHere d) (pc := 99) (cks_at k_M_isHere 55 rfl rfl) ?_
      exact tq_zretC (E := E_M_isHere d) (pc := 100) (cks_at k_M_isHere 56 rfl rfl) rfl (by decide)
def f_M_isHere_L76 (row1 : Nat) : Nat → Int × Mm → Option (Int × Mm) := lp fun kH s => f_M_isHere_B76 row1 (fun v3 M => kH (v3, M)) s.1 s.2
set_option maxRecDepth 20000 in
set_option maxHeartbeats 4000000 in
theorem w_M_isHere_L76 (d : Nat) (row1 : Nat) (hrow1 : skind row1 = 23 ∧ row1 < NC) (n : Nat) (s : Int × Mm) : T (E_M_isHere d) injI 76 [(0, .ref 78), (1, .ref row1), (3, vI s.1)] [] s.2 (f_M_isHere_L76 row1 n s) :=
  tq_lp (fun s => [(0, .ref 78), (1, .ref row1), (3, vI s.1)]) (fun s => s.2) (fun kH hH s => w_M_isHere_B76 d row1 hrow1 (fun v3 M => kH (v3, M)) (fun v3 M => hH (v3, M)) s.1 s.2) n s
def f_M_isHere_J61 (row1 : Nat) (v2 : Int) (M : Mm) : Option (Int × Mm) :=
  if i32 (v2 - (M 78 2)) = i32 (((slen row1 : Nat) : Int)) then
    f_M_isHere_L76 row1 FU (0, M)
  else
    some (0, M)
set_option maxRecDepth 20000 in
set_option maxHeartbeats 4000000 in
theorem w_M_isHere_J61 (d : Nat) (row1 : Nat) (hrow1 : skind row1 = 23 ∧ row1 < NC) (v2 : Int) (M : Mm) : T (E_M_isHere d) injI 61 [(0, .ref 78), (1, .ref row1), (2, vI v2)] [] M (f_M_isHere_J61 row1 v2 M) := by
  unfold f_M_isHere_J61
  refine tq_iload_n 2 (E := E_M_isHere d) (pc := 61) (cks_at k_M_isHere 29 rfl rfl) rfl ?_
  refine tq_aload_n 0 (E := E_M_isHere d) (pc := 62) (cks_at k_M_isHere 30 rfl rfl) rfl ?_
  refine tq_getI (E := E_M_isHere d) (pc := 63) (cks_at k_M_isHere 31 rfl rfl) fo_M_231 so_78 rfl (by decide) ?_
  refine tq_isub (E := E_M_isHere d) (pc := 66) (cks_at k_M_isHere 32 rfl rfl) ?_
  refine tq_aload_n 1 (E := E_M_isHere d) (pc := 67) (cks_at k_M_isHere 33 rfl rfl) rfl ?_
  refine tq_alen (E := E_M_isHere d) (pc := 68) (cks_at k_M_isHere 34 rfl rfl) ⟨by rw [(hrow1).1]; decide, by rw [(hrow1).1]; decide, (hrow1).2⟩ rfl ?_
  refine tq_icmp_eq (E := E_M_isHere d) (pc := 69) (tgt := 74) (cks_at k_M_isHere 35 rfl rfl) (by decide) ?_ ?_
  · refine tq_iconst (E := E_M_isHere d) (pc := 74) (cks_at k_M_isHere 38 rfl rfl) ?_
    refine tq_istore_n (E := E_M_isHere d) (pc := 75) (cks_at k_M_isHere 39 rfl rfl) (show 3 < 4 by decide) rfl ?_
    exact tq_sub [1, 2, 0] rfl (w_M_isHere_L76 d row1 hrow1 FU (0, M))
  · refine tq_iconst (E := E_M_isHere d) (pc := 72) (cks_at k_M_isHere 36 rfl rfl) ?_
    exact tq_zretC (E := E_M_isHere d) (pc := 73) (cks_at k_M_isHere 37 rfl rfl) rfl (by decide)
def f_M_isHere (row1 : Nat) (M : Mm) : Option (Int × Mm) :=
  if ¬ i32 (M 78 5) = 0 then
    some (0, M)
  else
    bI (f_M_look M) (fun r2 M1 =>
    bI (f_M_isLetter r2 M1) (fun r4 M3 =>
    if i32 r4 = 0 then
      some (0, M3)
    else
      if ¬ i32 (M3 78 2) = i32 (M3 78 4) then
        f_M_isHere_L35 row1 (fun v2 M7 => f_M_isHere_J61 row1 v2 M7) FU ((M3 78 2), M3)
      else
        some (0, M3)))
set_option maxRecDepth 20000 in
set_option maxHeartbeats 4000000 in
theorem c_M_isHere (d : Nat) (row1 : Nat) (hrow1 : skind row1 = 23 ∧ row1 < NC) (M : Mm) (Q : Option Value → Mm → Prop) (h : sat injI (f_M_isHere row1 M) Q) : Ct (d + 2) y_M_isHere [.ref 78, .ref row1] M Q := by
  refine ct_in (d := d + 1) mk_M_isHere (Nat.le_of_ble_eq_true rfl) (?_ : T (E_M_isHere d) injI 0 [(0, .ref 78), (1, .ref row1)] [] M (f_M_isHere row1 M)) h
  unfold f_M_isHere
  refine tq_aload_n 0 (E := E_M_isHere d) (pc := 0) (cks_at k_M_isHere 0 rfl rfl) rfl ?_
  refine tq_getI (E := E_M_isHere d) (pc := 1) (cks_at k_M_isHere 1 rfl rfl) fo_M_225 so_78 rfl (by decide) ?_
  refine tq_if_ne (E := E_M_isHere d) (pc := 4) (tgt := 28) (cks_at k_M_isHere 2 rfl rfl) (by decide) ?_ ?_
  · refine tq_iconst (E := E_M_isHere d) (pc := 28) (cks_at k_M_isHere 12 rfl rfl) ?_
    exact tq_zretC (E := E_M_isHere d) (pc := 29) (cks_at k_M_isHere 13 rfl rfl) rfl (by decide)
  · refine tq_aload_n 0 (E := E_M_isHere d) (pc := 7) (cks_at k_M_isHere 3 rfl rfl) rfl ?_
    refine tq_V0 (E := E_M_isHere d) (pc := 8) (cks_at k_M_isHere 4 rfl rfl) mk_M_look lk_M_237 rc_78 (Nat.le_of_ble_eq_true rfl) (c_M_look (d + 0) M) (k_I fun r2 M1 => ?_)
    refine tq_S1 (E := E_M_isHere d) (pc := 11) (cks_at k_M_isHere 5 rfl rfl) mk_M_isLetter lk_M_241 (Nat.le_of_ble_eq_true rfl) (c_M_isLetter (d + 0) r2 M1) (k_I fun r4 M3 => ?_)
    refine tq_if_eq (E := E_M_isHere d) (pc := 14) (tgt := 28) (cks_at k_M_isHere 6 rfl rfl) (by decide) ?_ ?_
    · refine tq_iconst (E := E_M_isHere d) (pc := 28) (cks_at k_M_isHere 12 rfl rfl) ?_
      exact tq_zretC (E := E_M_isHere d) (pc := 29) (cks_at k_M_isHere 13 rfl rfl) rfl (by decide)
    · refine tq_aload_n 0 (E := E_M_isHere d) (pc := 17) (cks_at k_M_isHere 7 rfl rfl) rfl ?_
      refine tq_getI (E := E_M_isHere d) (pc := 18) (cks_at k_M_isHere 8 rfl rfl) fo_M_231 so_78 rfl (by decide) ?_
      refine tq_aload_n 0 (E := E_M_isHere d) (pc := 21) (cks_at k_M_isHere 9 rfl rfl) rfl ?_
      refine tq_getI (E := E_M_isHere d) (pc := 22) (cks_at k_M_isHere 10 rfl rfl) fo_M_245 so_78 rfl (by decide) ?_
      refine tq_icmp_ne (E := E_M_isHere d) (pc := 25) (tgt := 30) (cks_at k_M_isHere 11 rfl rfl) (by decide) ?_ ?_
      · refine tq_aload_n 0 (E := E_M_isHere d) (pc := 30) (cks_at k_M_isHere 14 rfl rfl) rfl ?_
        refine tq_getI (E := E_M_isHere d) (pc := 31) (cks_at k_M_isHere 15 rfl rfl) fo_M_231 so_78 rfl (by decide) ?_
        refine tq_istore_n (E := E_M_isHere d) (pc := 34) (cks_at k_M_isHere 16 rfl rfl) (show 2 < 4 by decide) rfl ?_
        exact tq_sub [1, 2, 0] rfl (w_M_isHere_L35 d row1 hrow1 _ (fun v2 M7 => by
            exact tq_sub [0, 1, 2] rfl (w_M_isHere_J61 d row1 hrow1 v2 M7)) FU ((M3 78 2), M3))
      · refine tq_iconst (E := E_M_isHere d) (pc := 28) (cks_at k_M_isHere 12 rfl rfl) ?_
        exact tq_zretC (E := E_M_isHere d) (pc := 29) (cks_at k_M_isHere 13 rfl rfl) rfl (by decide)
abbrev E_M_takes (d : Nat) : Ev := (Ct (d + 2), "BreathTownModel", prog_14_method_10_code, 2, False, 0, (fun _ => 0), (Option.some Jvm.ClassFile.FieldType.boolean))
def f_M_takes (row1 : Nat) (M : Mm) : Option (Int × Mm) :=
  bI (f_M_isHere row1 M) (fun r2 M1 =>
  if ¬ i32 r2 = 0 then
    bd (up M1 78 2 ((M1 78 2) + (((slen row1 : Nat) : Int)))) (fun M3 =>
    bd (up M3 78 4 (M3 78 2)) (fun M4 =>
    some (1, M4)))
  else
    some (0, M1))
set_option maxRecDepth 20000 in
set_option maxHeartbeats 4000000 in
theorem c_M_takes (d : Nat) (row1 : Nat) (hrow1 : skind row1 = 23 ∧ row1 < NC) (M : Mm) (Q : Option Value → Mm → Prop) (h : sat injI (f_M_takes row1 M) Q) : Ct (d + 3) y_M_takes [.ref 78, .ref row1] M Q := by
  refine ct_in (d := d + 2) mk_M_takes (Nat.le_of_ble_eq_true rfl) (?_ : T (E_M_takes d) injI 0 [(0, .ref 78), (1, .ref row1)] [] M (f_M_takes row1 M)) h
  unfold f_M_takes
  refine tq_aload_n 0 (E := E_M_takes d) (pc := 0) (cks_at k_M_takes 0 rfl rfl) rfl ?_
  refine tq_aload_n 1 (E := E_M_takes d) (pc := 1) (cks_at k_M_takes 1 rfl rfl) rfl ?_
  refine tq_V1 (E := E_M_takes d) (pc := 2) (cks_at k_M_takes 2 rfl rfl) mk_M_isHere lk_M_248 rc_78 (Nat.le_of_ble_eq_true rfl) (c_M_isHere (d + 0) row1 hrow1 M) (k_I fun r2 M1 => ?_)
  refine tq_if_ne (E := E_M_takes d) (pc := 5) (tgt := 10) (cks_at k_M_takes 3 rfl rfl) (by decide) ?_ ?_
  · refine tq_aload_n 0 (E := E_M_takes d) (pc := 10) (cks_at k_M_takes 6 rfl rfl) rfl ?_
    refine tq_dup (E := E_M_takes d) (pc := 11) (cks_at k_M_takes 7 rfl rfl) rfl ?_
    refine tq_getI (E := E_M_takes d) (pc := 12) (cks_at k_M_takes 8 rfl rfl) fo_M_231 so_78 rfl (by decide) ?_
    refine tq_aload_n 1 (E := E_M_takes d) (pc := 15) (cks_at k_M_takes 9 rfl rfl) rfl ?_
    refine tq_alen (E := E_M_takes d) (pc := 16) (cks_at k_M_takes 10 rfl rfl) ⟨by rw [(hrow1).1]; decide, by rw [(hrow1).1]; decide, (hrow1).2⟩ rfl ?_
    refine tq_iadd (E := E_M_takes d) (pc := 17) (cks_at k_M_takes 11 rfl rfl) ?_
    refine tq_putI (E := E_M_takes d) (pc := 18) (cks_at k_M_takes 12 rfl rfl) fo_M_231 so_78 rfl po_12_2 (fun M3 => ?_)
    refine tq_aload_n 0 (E := E_M_takes d) (pc := 21) (cks_at k_M_takes 13 rfl rfl) rfl ?_
    refine tq_aload_n 0 (E := E_M_takes d) (pc := 22) (cks_at k_M_takes 14 rfl rfl) rfl ?_
    refine tq_getI (E := E_M_takes d) (pc := 23) (cks_at k_M_takes 15 rfl rfl) fo_M_231 so_78 rfl (by decide) ?_
    refine tq_putI (E := E_M_takes d) (pc := 26) (cks_at k_M_takes 16 rfl rfl) fo_M_245 so_78 rfl po_12_4 (fun M4 => ?_)
    refine tq_iconst (E := E_M_takes d) (pc := 29) (cks_at k_M_takes 17 rfl rfl) ?_
    exact tq_zretC (E := E_M_takes d) (pc := 30) (cks_at k_M_takes 18 rfl rfl) rfl (by decide)
  · refine tq_iconst (E := E_M_takes d) (pc := 8) (cks_at k_M_takes 4 rfl rfl) ?_
    exact tq_zretC (E := E_M_takes d) (pc := 9) (cks_at k_M_takes 5 rfl rfl) rfl (by decide)
abbrev E_M_fail (d : Nat) : Ev := (Ct (d + 0), "BreathTownModel", prog_14_method_5_code, 3, False, 0, (fun _ => 0), (Option.none : Option Jvm.ClassFile.FieldType))
def f_M_fail (v1 : Int) (v2 : Int) (M : Mm) : Option (Mm) :=
  if i32 (M 78 5) = 0 then
    bd (up M 78 5 v1) (fun M1 =>
    bd (up M1 78 6 v2) (fun M2 =>
    some M2))
  else
    some M
set_option maxRecDepth 20000 in
set_option maxHeartbeats 4000000 in
theorem c_M_fail (d : Nat) (v1 : Int) (v2 : Int) (M : Mm) (Q : Option Value → Mm → Prop) (h : sat injV (f_M_fail v1 v2 M) Q) : Ct (d + 1) y_M_fail [.ref 78, vI v1, vI v2] M Q := by
  refine ct_in (d := d + 0) mk_M_fail (Nat.le_of_ble_eq_true rfl) (?_ : T (E_M_fail d) injV 0 [(0, .ref 78), (1, vI v1), (2, vI v2)] [] M (f_M_fail v1 v2 M)) h
  unfold f_M_fail
  refine tq_aload_n 0 (E := E_M_fail d) (pc := 0) (cks_at k_M_fail 0 rfl rfl) rfl ?_
  refine tq_getI (E := E_M_fail d) (pc := 1) (cks_at k_M_fail 1 rfl rfl) fo_M_225 so_78 rfl (by decide) ?_
  refine tq_if_eq (E := E_M_fail d) (pc := 4) (tgt := 8) (cks_at k_M_fail 2 rfl rfl) (by decide) ?_ ?_
  · refine tq_aload_n 0 (E := E_M_fail d) (pc := 8) (cks_at k_M_fail 4 rfl rfl) rfl ?_
    refine tq_iload_n 1 (E := E_M_fail d) (pc := 9) (cks_at k_M_fail 5 rfl rfl) rfl ?_
    refine tq_putI (E := E_M_fail d) (pc := 10) (cks_at k_M_fail 6 rfl rfl) fo_M_225 so_78 rfl po_12_5 (fun M1 => ?_)
    refine tq_aload_n 0 (E := E_M_fail d) (pc := 13) (cks_at k_M_fail 7 rfl rfl) rfl ?_
    refine tq_iload_n 2 (E := E_M_fail d) (pc := 14) (cks_at k_M_fail 8 rfl rfl) rfl ?_
    refine tq_putI (E := E_M_fail d) (pc := 15) (cks_at k_M_fail 9 rfl rfl) fo_M_228 so_78 rfl po_12_6 (fun M2 => ?_)
    exact tq_vret (E := E_M_fail d) (pc := 18) (cks_at k_M_fail 10 rfl rfl) rfl
  · exact tq_vret (E := E_M_fail d) (pc := 7) (cks_at k_M_fail 3 rfl rfl) rfl
abbrev E_M_asks (d : Nat) : Ev := (Ct (d + 3), "BreathTownModel", prog_14_method_11_code, 2, False, 0, (fun _ => 0), (Option.none : Option Jvm.ClassFile.FieldType))
def f_M_asks (row1 : Nat) (M : Mm) : Option (Mm) :=
  if ¬ i32 (M 78 5) = 0 then
    some M
  else
    bI (f_M_takes row1 M) (fun r2 M1 =>
    if ¬ i32 r2 = 0 then
      some M1
    else
      bV (f_M_fail 1 (M1 78 2) M1) (fun M3 =>
      some M3))
set_option maxRecDepth 20000 in
set_option maxHeartbeats 4000000 in
theorem c_M_asks (d : Nat) (row1 : Nat) (hrow1 : skind row1 = 23 ∧ row1 < NC) (M : Mm) (Q : Option Value → Mm → Prop) (h : sat injV (f_M_asks row1 M) Q) : Ct (d + 4) y_M_asks [.ref 78, .ref row1] M Q := by
  refine ct_in (d := d + 3) mk_M_asks (Nat.le_of_ble_eq_true rfl) (?_ : T (E_M_asks d) injV 0 [(0, .ref 78), (1, .ref row1)] [] M (f_M_asks row1 M)) h
  unfold f_M_asks
  refine tq_aload_n 0 (E := E_M_asks d) (pc := 0) (cks_at k_M_asks 0 rfl rfl) rfl ?_
  refine tq_getI (E := E_M_asks d) (pc := 1) (cks_at k_M_asks 1 rfl rfl) fo_M_225 so_78 rfl (by decide) ?_
  refine tq_if_ne (E := E_M_asks d) (pc := 4) (tgt := 24) (cks_at k_M_asks 2 rfl rfl) (by decide) ?_ ?_
  · exact tq_vret (E := E_M_asks d) (pc := 24) (cks_at k_M_asks 12 rfl rfl) rfl
  · refine tq_aload_n 0 (E := E_M_asks d) (pc := 7) (cks_at k_M_asks 3 rfl rfl) rfl ?_
    refine tq_aload_n 1 (E := E_M_asks d) (pc := 8) (cks_at k_M_asks 4 rfl rfl) rfl ?_
    refine tq_V1 (E := E_M_asks d) (pc := 9) (cks_at k_M_asks 5 rfl rfl) mk_M_takes lk_M_252 rc_78 (Nat.le_of_ble_eq_true rfl) (c_M_takes (d + 0) row1 hrow1 M) (k_I fun r2 M1 => ?_)
    refine tq_if_ne (E := E_M_asks d) (pc := 12) (tgt := 24) (cks_at k_M_asks 6 rfl rfl) (by decide) ?_ ?_
    · exact tq_vret (E := E_M_asks d) (pc := 24) (cks_at k_M_asks 12 rfl rfl) rfl
    · refine tq_aload_n 0 (E := E_M_asks d) (pc := 15) (cks_at k_M_asks 7 rfl rfl) rfl ?_
      refine tq_iconst (E := E_M_asks d) (pc := 16) (cks_at k_M_asks 8 rfl rfl) ?_
      refine tq_aload_n 0 (E := E_M_asks d) (pc := 17) (cks_at k_M_asks 9 rfl rfl) rfl ?_
      refine tq_getI (E := E_M_asks d) (pc := 18) (cks_at k_M_asks 10 rfl rfl) fo_M_231 so_78 rfl (by decide) ?_
      refine tq_V2 (E := E_M_asks d) (pc := 21) (cks_at k_M_asks 11 rfl rfl) mk_M_fail lk_M_255 rc_78 (Nat.le_of_ble_eq_true rfl) (c_M_fail (d + 2) 1 (M1 78 2) M1) (k_V fun M3 => ?_)
      exact tq_vret (E := E_M_asks d) (pc := 24) (cks_at k_M_asks 12 rfl rfl) rfl
abbrev E_M_qKind (d : Nat) : Ev := (Ct (d + 4), "BreathTownModel", prog_14_method_142_code, 2, False, 0, (fun _ => 0), (Option.some Jvm.ClassFile.FieldType.int))
def f_M_qKind_J76 (s0 : Int) (M : Mm) : Option (Int × Mm) :=
  if ¬ i32 s0 = i32 5 then
    some (s0, M)
  else
    bV (f_M_asks 129 M) (fun M11 =>
    some (s0, M11))
set_option maxRecDepth 20000 in
set_option maxHeartbeats 4000000 in
theorem w_M_qKind_J76 (d : Nat) (s0 : Int) (M : Mm) : T (E_M_qKind d) injI 76 [(0, .ref 78)] [vI s0] M (f_M_qKind_J76 s0 M) := by
  unfold f_M_qKind_J76
  refine tq_istore_n (E := E_M_qKind d) (pc := 76) (cks_at k_M_qKind 36 rfl rfl) (show 1 < 2 by decide) rfl ?_
  refine tq_iload_n 0 (E := E_M_qKind d) (pc := 77) (cks_at k_M_qKind 37 rfl rfl) rfl ?_
  refine tq_iconst (E := E_M_qKind d) (pc := 78) (cks_at k_M_qKind 38 rfl rfl) ?_
  refine tq_icmp_ne (E := E_M_qKind d) (pc := 79) (tgt := 90) (cks_at k_M_qKind 39 rfl rfl) (by decide) ?_ ?_
  · refine tq_iload_n 0 (E := E_M_qKind d) (pc := 90) (cks_at k_M_qKind 44 rfl rfl) rfl ?_
    exact tq_iret (E := E_M_qKind d) (pc := 91) (cks_at k_M_qKind 45 rfl rfl) rfl
  · refine tq_aload_n 1 (E := E_M_qKind d) (pc := 82) (cks_at k_M_qKind 40 rfl rfl) rfl ?_
    refine tq_aload_n 1 (E := E_M_qKind d) (pc := 83) (cks_at k_M_qKind 41 rfl rfl) rfl ?_
    refine tq_getR (j := 129) (E := E_M_qKind d) (pc := 84) (cks_at k_M_qKind 42 rfl rfl) fo_M_171 so_78 rfl sp_78_75 ?_
    refine tq_V1 (E := E_M_qKind d) (pc := 87) (cks_at k_M_qKind 43 rfl rfl) mk_M_asks lk_M_295 rc_78 (Nat.le_of_ble_eq_true rfl) (c_M_asks (d + 0) 129 sa_129 M) (k_V fun M11 => ?_)
    refine tq_iload_n 0 (E := E_M_qKind d) (pc := 90) (cks_at k_M_qKind 44 rfl rfl) rfl ?_
    exact tq_iret (E := E_M_qKind d) (pc := 91) (cks_at k_M_qKind 45 rfl rfl) rfl
def f_M_qKind (M : Mm) : Option (Int × Mm) :=
  bI (f_M_takes 124 M) (fun r2 M1 =>
  if i32 r2 = 0 then
    bI (f_M_takes 125 M1) (fun r4 M3 =>
    if i32 r4 = 0 then
      bI (f_M_takes 126 M3) (fun r6 M5 =>
      if i32 r6 = 0 then
        bI (f_M_takes 127 M5) (fun r8 M7 =>
        if i32 r8 = 0 then
          bI (f_M_takes 128 M7) (fun r10 M9 =>
          if i32 r10 = 0 then
            f_M_qKind_J76 5 M9
          else
            f_M_qKind_J76 4 M9)
        else
          f_M_qKind_J76 3 M7)
      else
        f_M_qKind_J76 2 M5)
    else
      f_M_qKind_J76 1 M3)
  else
    f_M_qKind_J76 0 M1)
set_option maxRecDepth 20000 in
set_option maxHeartbeats 4000000 in
theorem c_M_qKind (d : Nat) (M : Mm) (Q : Option Value → Mm → Prop) (h : sat injI (f_M_qKind M) Q) : Ct (d + 5) y_M_qKind [.ref 78] M Q := by
  refine ct_in (d := d + 4) mk_M_qKind (Nat.le_of_ble_eq_true rfl) (?_ : T (E_M_qKind d) injI 0 [(0, .ref 78)] [] M (f_M_qKind M)) h
  unfold f_M_qKind
  refine tq_aload_n 0 (E := E_M_qKind d) (pc := 0) (cks_at k_M_qKind 0 rfl rfl) rfl ?_
  refine tq_aload_n 0 (E := E_M_qKind d) (pc := 1) (cks_at k_M_qKind 1 rfl rfl) rfl ?_
  refine tq_getR (j := 124) (E := E_M_qKind d) (pc := 2) (cks_at k_M_qKind 2 rfl rfl) fo_M_156 so_78 rfl sp_78_70 ?_
  refine tq_V1 (E := E_M_qKind d) (pc := 5) (cks_at k_M_qKind 3 rfl rfl) mk_M_takes lk_M_252 rc_78 (Nat.le_of_ble_eq_true rfl) (c_M_takes (d + 1) 124 sa_124 M) (k_I fun r2 M1 => ?_)
  refine tq_if_eq (E := E_M_qKind d) (pc := 8) (tgt := 15) (cks_at k_M_qKind 4 rfl rfl) (by decide) ?_ ?_
  · refine tq_aload_n 0 (E := E_M_qKind d) (pc := 15) (cks_at k_M_qKind 7 rfl rfl) rfl ?_
    refine tq_aload_n 0 (E := E_M_qKind d) (pc := 16) (cks_at k_M_qKind 8 rfl rfl) rfl ?_
    refine tq_getR (j := 125) (E := E_M_qKind d) (pc := 17) (cks_at k_M_qKind 9 rfl rfl) fo_M_159 so_78 rfl sp_78_71 ?_
    refine tq_V1 (E := E_M_qKind d) (pc := 20) (cks_at k_M_qKind 10 rfl rfl) mk_M_takes lk_M_252 rc_78 (Nat.le_of_ble_eq_true rfl) (c_M_takes (d + 1) 125 sa_125 M1) (k_I fun r4 M3 => ?_)
    refine tq_if_eq (E := E_M_qKind d) (pc := 23) (tgt := 30) (cks_at k_M_qKind 11 rfl rfl) (by decide) ?_ ?_
    · refine tq_aload_n 0 (E := E_M_qKind d) (pc := 30) (cks_at k_M_qKind 14 rfl rfl) rfl ?_
      refine tq_aload_n 0 (E := E_M_qKind d) (pc := 31) (cks_at k_M_qKind 15 rfl rfl) rfl ?_
      refine tq_getR (j := 126) (E := E_M_qKind d) (pc := 32) (cks_at k_M_qKind 16 rfl rfl) fo_M_162 so_78 rfl sp_78_72 ?_
      refine tq_V1 (E := E_M_qKind d) (pc := 35) (cks_at k_M_qKind 17 rfl rfl) mk_M_takes lk_M_252 rc_78 (Nat.le_of_ble_eq_true rfl) (c_M_takes (d + 1) 126 sa_126 M3) (k_I fun r6 M5 => ?_)
      refine tq_if_eq (E := E_M_qKind d) (pc := 38) (tgt := 45) (cks_at k_M_qKind 18 rfl rfl) (by decide) ?_ ?_
      · refine tq_aload_n 0 (E := E_M_qKind d) (pc := 45) (cks_at k_M_qKind 21 rfl rfl) rfl ?_
        refine tq_aload_n 0 (E := E_M_qKind d) (pc := 46) (cks_at k_M_qKind 22 rfl rfl) rfl ?_
        refine tq_getR (j := 127) (E := E_M_qKind d) (pc := 47) (cks_at k_M_qKind 23 rfl rfl) fo_M_165 so_78 rfl sp_78_73 ?_
        refine tq_V1 (E := E_M_qKind d) (pc := 50) (cks_at k_M_qKind 24 rfl rfl) mk_M_takes lk_M_252 rc_78 (Nat.le_of_ble_eq_true rfl) (c_M_takes (d + 1) 127 sa_127 M5) (k_I fun r8 M7 => ?_)
        refine tq_if_eq (E := E_M_qKind d) (pc := 53) (tgt := 60) (cks_at k_M_qKind 25 rfl rfl) (by decide) ?_ ?_
        · refine tq_aload_n 0 (E := E_M_qKind d) (pc := 60) (cks_at k_M_qKind 28 rfl rfl) rfl ?_
          refine tq_aload_n 0 (E := E_M_qKind d) (pc := 61) (cks_at k_M_qKind 29 rfl rfl) rfl ?_
          refine tq_getR (j := 128) (E := E_M_qKind d) (pc := 62) (cks_at k_M_qKind 30 rfl rfl) fo_M_168 so_78 rfl sp_78_74 ?_
          refine tq_V1 (E := E_M_qKind d) (pc := 65) (cks_at k_M_qKind 31 rfl rfl) mk_M_takes lk_M_252 rc_78 (Nat.le_of_ble_eq_true rfl) (c_M_takes (d + 1) 128 sa_128 M7) (k_I fun r10 M9 => ?_)
          refine tq_if_eq (E := E_M_qKind d) (pc := 68) (tgt := 75) (cks_at k_M_qKind 32 rfl rfl) (by decide) ?_ ?_
          · refine tq_iconst (E := E_M_qKind d) (pc := 75) (cks_at k_M_qKind 35 rfl rfl) ?_
            exact tq_sub [0] rfl (w_M_qKind_J76 d 5 M9)
          · refine tq_iconst (E := E_M_qKind d) (pc := 71) (cks_at k_M_qKind 33 rfl rfl) ?_
            refine tq_goto (tgt := 76) (E := E_M_qKind d) (pc := 72) (cks_at k_M_qKind 34 rfl rfl) (by decide) ?_
            exact tq_sub [0] rfl (w_M_qKind_J76 d 4 M9)
        · refine tq_iconst (E := E_M_qKind d) (pc := 56) (cks_at k_M_qKind 26 rfl rfl) ?_
          refine tq_goto (tgt := 76) (E := E_M_qKind d) (pc := 57) (cks_at k_M_qKind 27 rfl rfl) (by decide) ?_
          exact tq_sub [0] rfl (w_M_qKind_J76 d 3 M7)
      · refine tq_iconst (E := E_M_qKind d) (pc := 41) (cks_at k_M_qKind 19 rfl rfl) ?_
        refine tq_goto (tgt := 76) (E := E_M_qKind d) (pc := 42) (cks_at k_M_qKind 20 rfl rfl) (by decide) ?_
        exact tq_sub [0] rfl (w_M_qKind_J76 d 2 M5)
    · refine tq_iconst (E := E_M_qKind d) (pc := 26) (cks_at k_M_qKind 12 rfl rfl) ?_
      refine tq_goto (tgt := 76) (E := E_M_qKind d) (pc := 27) (cks_at k_M_qKind 13 rfl rfl) (by decide) ?_
      exact tq_sub [0] rfl (w_M_qKind_J76 d 1 M3)
  · refine tq_iconst (E := E_M_qKind d) (pc := 11) (cks_at k_M_qKind 5 rfl rfl) ?_
    refine tq_goto (tgt := 76) (E := E_M_qKind d) (pc := 12) (cks_at k_M_qKind 6 rfl rfl) (by decide) ?_
    exact tq_sub [0] rfl (w_M_qKind_J76 d 0 M1)
abbrev E_M_qOpens (d : Nat) : Ev := (Ct (d + 1), "BreathTownModel", prog_14_method_117_code, 3, False, 0, (fun _ => 0), (Option.none : Option Jvm.ClassFile.FieldType))
def f_M_qOpens (v1 : Int) (v2 : Int) (M : Mm) : Option (Mm) :=
  if i32 (M 78 5) = 0 then
    if ¬ i32 (M 78 92) = i32 6 then
      bd (up M 78 92 ((M 78 92) + 1)) (fun M1 =>
      gd (0 ≤ i32 (M1 78 91) ∧ i32 (M1 78 91) < ((1700 : Nat) : Int)) <|
      bd (up M1 143 (i32 (M1 78 91)).toNat v1) (fun M2 =>
      bd (up M2 78 91 ((M2 78 91) + 1)) (fun M3 =>
      some M3)))
    else
      bV (f_M_fail 4 v2 M) (fun M4 =>
      some M4)
  else
    some M
set_option maxRecDepth 20000 in
set_option maxHeartbeats 4000000 in
theorem c_M_qOpens (d : Nat) (v1 : Int) (v2 : Int) (M : Mm) (Q : Option Value → Mm → Prop) (h : sat injV (f_M_qOpens v1 v2 M) Q) : Ct (d + 2) y_M_qOpens [.ref 78, vI v1, vI v2] M Q := by
  refine ct_in (d := d + 1) mk_M_qOpens (Nat.le_of_ble_eq_true rfl) (?_ : T (E_M_qOpens d) injV 0 [(0, .ref 78), (1, vI v1), (2, vI v2)] [] M (f_M_qOpens v1 v2 M)) h
  unfold f_M_qOpens
  refine tq_aload_n 0 (E := E_M_qOpens d) (pc := 0) (cks_at k_M_qOpens 0 rfl rfl) rfl ?_
  refine tq_getI (E := E_M_qOpens d) (pc := 1) (cks_at k_M_qOpens 1 rfl rfl) fo_M_225 so_78 rfl (by decide) ?_
  refine tq_if_eq (E := E_M_qOpens d) (pc := 4) (tgt := 8) (cks_at k_M_qOpens 2 rfl rfl) (by decide) ?_ ?_
  · refine tq_aload_n 0 (E := E_M_qOpens d) (pc := 8) (cks_at k_M_qOpens 4 rfl rfl) rfl ?_
    refine tq_getI (E := E_M_qOpens d) (pc := 9) (cks_at k_M_qOpens 5 rfl rfl) fo_M_617 so_78 rfl (by decide) ?_
    refine tq_bipush (E := E_M_qOpens d) (pc := 12) (cks_at k_M_qOpens 6 rfl rfl) (by decide) (by decide) ?_
    refine tq_icmp_ne (E := E_M_qOpens d) (pc := 14) (tgt := 24) (cks_at k_M_qOpens 7 rfl rfl) (by decide) ?_ ?_
    · refine tq_aload_n 0 (E := E_M_qOpens d) (pc := 24) (cks_at k_M_qOpens 13 rfl rfl) rfl ?_
      refine tq_dup (E := E_M_qOpens d) (pc := 25) (cks_at k_M_qOpens 14 rfl rfl) rfl ?_
      refine tq_getI (E := E_M_qOpens d) (pc := 26) (cks_at k_M_qOpens 15 rfl rfl) fo_M_617 so_78 rfl (by decide) ?_
      refine tq_iconst (E := E_M_qOpens d) (pc := 29) (cks_at k_M_qOpens 16 rfl rfl) ?_
      refine tq_iadd (E := E_M_qOpens d) (pc := 30) (cks_at k_M_qOpens 17 rfl rfl) ?_
      refine tq_putI (E := E_M_qOpens d) (pc := 31) (cks_at k_M_qOpens 18 rfl rfl) fo_M_617 so_78 rfl po_12_92 (fun M1 => ?_)
      refine tq_aload_n 0 (E := E_M_qOpens d) (pc := 34) (cks_at k_M_qOpens 19 rfl rfl) rfl ?_
      refine tq_getR (j := 143) (E := E_M_qOpens d) (pc := 35) (cks_at k_M_qOpens 20 rfl rfl) fo_M_213 so_78 rfl sp_78_90 ?_
      refine tq_aload_n 0 (E := E_M_qOpens d) (pc := 38) (cks_at k_M_qOpens 21 rfl rfl) rfl ?_
      refine tq_getI (E := E_M_qOpens d) (pc := 39) (cks_at k_M_qOpens 22 rfl rfl) fo_M_620 so_78 rfl (by decide) ?_
      refine tq_iload_n 1 (E := E_M_qOpens d) (pc := 42) (cks_at k_M_qOpens 23 rfl rfl) rfl ?_
      refine tq_iast (E := E_M_qOpens d) (pc := 43) (cks_at k_M_qOpens 24 rfl rfl) sa_143 sn_143 (fun M2 => ?_)
      refine tq_aload_n 0 (E := E_M_qOpens d) (pc := 44) (cks_at k_M_qOpens 25 rfl rfl) rfl ?_
      refine tq_dup (E := E_M_qOpens d) (pc := 45) (cks_at k_M_qOpens 26 rfl rfl) rfl ?_
      refine tq_getI (E := E_M_qOpens d) (pc := 46) (cks_at k_M_qOpens 27 rfl rfl) fo_M_620 so_78 rfl (by decide) ?_
      refine tq_iconst (E := E_M_qOpens d) (pc := 49) (cks_at k_M_qOpens 28 rfl rfl) ?_
      refine tq_iadd (E := E_M_qOpens d) (pc := 50) (cks_at k_M_qOpens 29 rfl rfl) ?_
      refine tq_putI (E := E_M_qOpens d) (pc := 51) (cks_at k_M_qOpens 30 rfl rfl) fo_M_620 so_78 rfl po_12_91 (fun M3 => ?_)
      exact tq_vret (E := E_M_qOpens d) (pc := 54) (cks_at k_M_qOpens 31 rfl rfl) rfl
    · refine tq_aload_n 0 (E := E_M_qOpens d) (pc := 17) (cks_at k_M_qOpens 8 rfl rfl) rfl ?_
      refine tq_iconst (E := E_M_qOpens d) (pc := 18) (cks_at k_M_qOpens 9 rfl rfl) ?_
      refine tq_iload_n 2 (E := E_M_qOpens d) (pc := 19) (cks_at k_M_qOpens 10 rfl rfl) rfl ?_
      refine tq_V2 (E := E_M_qOpens d) (pc := 20) (cks_at k_M_qOpens 11 rfl rfl) mk_M_fail lk_M_255 rc_78 (Nat.le_of_ble_eq_true rfl) (c_M_fail (d + 0) 4 v2 M) (k_V fun M4 => ?_)
      exact tq_vret (E := E_M_qOpens d) (pc := 23) (cks_at k_M_qOpens 12 rfl rfl) rfl
  · exact tq_vret (E := E_M_qOpens d) (pc := 7) (cks_at k_M_qOpens 3 rfl rfl) rfl
abbrev E_M_qCode (d : Nat) : Ev := (Ct (d + 0), "BreathTownModel", prog_14_method_116_code, 2, False, 0, (fun _ => 0), (Option.none : Option Jvm.ClassFile.FieldType))
def f_M_qCode (v1 : Int) (M : Mm) : Option (Mm) :=
  gd (0 ≤ i32 (M 78 89) ∧ i32 (M 78 89) < ((1700 : Nat) : Int)) <|
  bd (up M 142 (i32 (M 78 89)).toNat v1) (fun M1 =>
  bd (up M1 78 89 ((M1 78 89) + 1)) (fun M2 =>
  some M2))
set_option maxRecDepth 20000 in
set_option maxHeartbeats 4000000 in
theorem c_M_qCode (d : Nat) (v1 : Int) (M : Mm) (Q : Option Value → Mm → Prop) (h : sat injV (f_M_qCode v1 M) Q) : Ct (d + 1) y_M_qCode [.ref 78, vI v1] M Q := by
  refine ct_in (d := d + 0) mk_M_qCode (Nat.le_of_ble_eq_true rfl) (?_ : T (E_M_qCode d) injV 0 [(0, .ref 78), (1, vI v1)] [] M (f_M_qCode v1 M)) h
  unfold f_M_qCode
  refine tq_aload_n 0 (E := E_M_qCode d) (pc := 0) (cks_at k_M_qCode 0 rfl rfl) rfl ?_
  refine tq_getR (j := 142) (E := E_M_qCode d) (pc := 1) (cks_at k_M_qCode 1 rfl rfl) fo_M_210 so_78 rfl sp_78_88 ?_
  refine tq_aload_n 0 (E := E_M_qCode d) (pc := 4) (cks_at k_M_qCode 2 rfl rfl) rfl ?_
  refine tq_getI (E := E_M_qCode d) (pc := 5) (cks_at k_M_qCode 3 rfl rfl) fo_M_614 so_78 rfl (by decide) ?_
  refine tq_iload_n 1 (E := E_M_qCode d) (pc := 8) (cks_at k_M_qCode 4 rfl rfl) rfl ?_
  refine tq_iast (E := E_M_qCode d) (pc := 9) (cks_at k_M_qCode 5 rfl rfl) sa_142 sn_142 (fun M1 => ?_)
  refine tq_aload_n 0 (E := E_M_qCode d) (pc := 10) (cks_at k_M_qCode 6 rfl rfl) rfl ?_
  refine tq_dup (E := E_M_qCode d) (pc := 11) (cks_at k_M_qCode 7 rfl rfl) rfl ?_
  refine tq_getI (E := E_M_qCode d) (pc := 12) (cks_at k_M_qCode 8 rfl rfl) fo_M_614 so_78 rfl (by decide) ?_
  refine tq_iconst (E := E_M_qCode d) (pc := 15) (cks_at k_M_qCode 9 rfl rfl) ?_
  refine tq_iadd (E := E_M_qCode d) (pc := 16) (cks_at k_M_qCode 10 rfl rfl) ?_
  refine tq_putI (E := E_M_qCode d) (pc := 17) (cks_at k_M_qCode 11 rfl rfl) fo_M_614 so_78 rfl po_12_89 (fun M2 => ?_)
  exact tq_vret (E := E_M_qCode d) (pc := 20) (cks_at k_M_qCode 12 rfl rfl) rfl
abbrev E_M_qWordHere (d : Nat) : Ev := (Ct (d + 2), "BreathTownModel", prog_14_method_123_code, 1, False, 0, (fun _ => 0), (Option.some Jvm.ClassFile.FieldType.int))
def f_M_qWordHere (M : Mm) : Option (Int × Mm) :=
  bI (f_M_isHere 136 M) (fun r2 M1 =>
  if i32 r2 = 0 then
    bI (f_M_isHere 137 M1) (fun r4 M3 =>
    if i32 r4 = 0 then
      bI (f_M_isHere 138 M3) (fun r6 M5 =>
      if i32 r6 = 0 then
        bI (f_M_isHere 139 M5) (fun r8 M7 =>
        if i32 r8 = 0 then
          bI (f_M_isHere 140 M7) (fun r10 M9 =>
          if i32 r10 = 0 then
            bI (f_M_isHere 141 M9) (fun r12 M11 =>
            if i32 r12 = 0 then
              some ((-1), M11)
            else
              some (5, M11))
          else
            some (4, M9))
        else
          some (3, M7))
      else
        some (2, M5))
    else
      some (1, M3))
  else
    some (0, M1))
set_option maxRecDepth 20000 in
set_option maxHeartbeats 4000000 in
theorem c_M_qWordHere (d : Nat) (M : Mm) (Q : Option Value → Mm → Prop) (h : sat injI (f_M_qWordHere M) Q) : Ct (d + 3) y_M_qWordHere [.ref 78] M Q := by
  refine ct_in (d := d + 2) mk_M_qWordHere (Nat.le_of_ble_eq_true rfl) (?_ : T (E_M_qWordHere d) injI 0 [(0, .ref 78)] [] M (f_M_qWordHere M)) h
  unfold f_M_qWordHere
  refine tq_aload_n 0 (E := E_M_qWordHere d) (pc := 0) (cks_at k_M_qWordHere 0 rfl rfl) rfl ?_
  refine tq_aload_n 0 (E := E_M_qWordHere d) (pc := 1) (cks_at k_M_qWordHere 1 rfl rfl) rfl ?_
  refine tq_getR (j := 136) (E := E_M_qWordHere d) (pc := 2) (cks_at k_M_qWordHere 2 rfl rfl) fo_M_192 so_78 rfl sp_78_82 ?_
  refine tq_V1 (E := E_M_qWordHere d) (pc := 5) (cks_at k_M_qWordHere 3 rfl rfl) mk_M_isHere lk_M_248 rc_78 (Nat.le_of_ble_eq_true rfl) (c_M_isHere (d + 0) 136 sa_136 M) (k_I fun r2 M1 => ?_)
  refine tq_if_eq (E := E_M_qWordHere d) (pc := 8) (tgt := 13) (cks_at k_M_qWordHere 4 rfl rfl) (by decide) ?_ ?_
  · refine tq_aload_n 0 (E := E_M_qWordHere d) (pc := 13) (cks_at k_M_qWordHere 7 rfl rfl) rfl ?_
    refine tq_aload_n 0 (E := E_M_qWordHere d) (pc := 14) (cks_at k_M_qWordHere 8 rfl rfl) rfl ?_
    refine tq_getR (j := 137) (E := E_M_qWordHere d) (pc := 15) (cks_at k_M_qWordHere 9 rfl rfl) fo_M_195 so_78 rfl sp_78_83 ?_
    refine tq_V1 (E := E_M_qWordHere d) (pc := 18) (cks_at k_M_qWordHere 10 rfl rfl) mk_M_isHere lk_M_248 rc_78 (Nat.le_of_ble_eq_true rfl) (c_M_isHere (d + 0) 137 sa_137 M1) (k_I fun r4 M3 => ?_)
    refine tq_if_eq (E := E_M_qWordHere d) (pc := 21) (tgt := 26) (cks_at k_M_qWordHere 11 rfl rfl) (by decide) ?_ ?_
    · refine tq_aload_n 0 (E := E_M_qWordHere d) (pc := 26) (cks_at k_M_qWordHere 14 rfl rfl) rfl ?_
      refine tq_aload_n 0 (E := E_M_qWordHere d) (pc := 27) (cks_at k_M_qWordHere 15 rfl rfl) rfl ?_
      refine tq_getR (j := 138) (E := E_M_qWordHere d) (pc := 28) (cks_at k_M_qWordHere 16 rfl rfl) fo_M_198 so_78 rfl sp_78_84 ?_
      refine tq_V1 (E := E_M_qWordHere d) (pc := 31) (cks_at k_M_qWordHere 17 rfl rfl) mk_M_isHere lk_M_248 rc_78 (Nat.le_of_ble_eq_true rfl) (c_M_isHere (d + 0) 138 sa_138 M3) (k_I fun r6 M5 => ?_)
      refine tq_if_eq (E := E_M_qWordHere d) (pc := 34) (tgt := 39) (cks_at k_M_qWordHere 18 rfl rfl) (by decide) ?_ ?_
      · refine tq_aload_n 0 (E := E_M_qWordHere d) (pc := 39) (cks_at k_M_qWordHere 21 rfl rfl) rfl ?_
        refine tq_aload_n 0 (E := E_M_qWordHere d) (pc := 40) (cks_at k_M_qWordHere 22 rfl rfl) rfl ?_
        refine tq_getR (j := 139) (E := E_M_qWordHere d) (pc := 41) (cks_at k_M_qWordHere 23 rfl rfl) fo_M_201 so_78 rfl sp_78_85 ?_
        refine tq_V1 (E := E_M_qWordHere d) (pc := 44) (cks_at k_M_qWordHere 24 rfl rfl) mk_M_isHere lk_M_248 rc_78 (Nat.le_of_ble_eq_true rfl) (c_M_isHere (d + 0) 139 sa_139 M5) (k_I fun r8 M7 => ?_)
        refine tq_if_eq (E := E_M_qWordHere d) (pc := 47) (tgt := 52) (cks_at k_M_qWordHere 25 rfl rfl) (by decide) ?_ ?_
        · refine tq_aload_n 0 (E := E_M_qWordHere d) (pc := 52) (cks_at k_M_qWordHere 28 rfl rfl) rfl ?_
          refine tq_aload_n 0 (E := E_M_qWordHere d) (pc := 53) (cks_at k_M_qWordHere 29 rfl rfl) rfl ?_
          refine tq_getR (j := 140) (E := E_M_qWordHere d) (pc := 54) (cks_at k_M_qWordHere 30 rfl rfl) fo_M_204 so_78 rfl sp_78_86 ?_
          refine tq_V1 (E := E_M_qWordHere d) (pc := 57) (cks_at k_M_qWordHere 31 rfl rfl) mk_M_isHere lk_M_248 rc_78 (Nat.le_of_ble_eq_true rfl) (c_M_isHere (d + 0) 140 sa_140 M7) (k_I fun r10 M9 => ?_)
          refine tq_if_eq (E := E_M_qWordHere d) (pc := 60) (tgt := 65) (cks_at k_M_qWordHere 32 rfl rfl) (by decide) ?_ ?_
          · refine tq_aload_n 0 (E := E_M_qWordHere d) (pc := 65) (cks_at k_M_qWordHere 35 rfl rfl) rfl ?_
            refine tq_aload_n 0 (E := E_M_qWordHere d) (pc := 66) (cks_at k_M_qWordHere 36 rfl rfl) rfl ?_
            refine tq_getR (j := 141) (E := E_M_qWordHere d) (pc := 67) (cks_at k_M_qWordHere 37 rfl rfl) fo_M_207 so_78 rfl sp_78_87 ?_
            refine tq_V1 (E := E_M_qWordHere d) (pc := 70) (cks_at k_M_qWordHere 38 rfl rfl) mk_M_isHere lk_M_248 rc_78 (Nat.le_of_ble_eq_true rfl) (c_M_isHere (d + 0) 141 sa_141 M9) (k_I fun r12 M11 => ?_)
            refine tq_if_eq (E := E_M_qWordHere d) (pc := 73) (tgt := 78) (cks_at k_M_qWordHere 39 rfl rfl) (by decide) ?_ ?_
            · refine tq_iconst (E := E_M_qWordHere d) (pc := 78) (cks_at k_M_qWordHere 42 rfl rfl) ?_
              exact tq_iret (E := E_M_qWordHere d) (pc := 79) (cks_at k_M_qWordHere 43 rfl rfl) rfl
            · refine tq_iconst (E := E_M_qWordHere d) (pc := 76) (cks_at k_M_qWordHere 40 rfl rfl) ?_
              exact tq_iret (E := E_M_qWordHere d) (pc := 77) (cks_at k_M_qWordHere 41 rfl rfl) rfl
          · refine tq_iconst (E := E_M_qWordHere d) (pc := 63) (cks_at k_M_qWordHere 33 rfl rfl) ?_
            exact tq_iret (E := E_M_qWordHere d) (pc := 64) (cks_at k_M_qWordHere 34 rfl rfl) rfl
        · refine tq_iconst (E := E_M_qWordHere d) (pc := 50) (cks_at k_M_qWordHere 26 rfl rfl) ?_
          exact tq_iret (E := E_M_qWordHere d) (pc := 51) (cks_at k_M_qWordHere 27 rfl rfl) rfl
      · refine tq_iconst (E := E_M_qWordHere d) (pc := 37) (cks_at k_M_qWordHere 19 rfl rfl) ?_
        exact tq_iret (E := E_M_qWordHere d) (pc := 38) (cks_at k_M_qWordHere 20 rfl rfl) rfl
    · refine tq_iconst (E := E_M_qWordHere d) (pc := 24) (cks_at k_M_qWordHere 12 rfl rfl) ?_
      exact tq_iret (E := E_M_qWordHere d) (pc := 25) (cks_at k_M_qWordHere 13 rfl rfl) rfl
  · refine tq_iconst (E := E_M_qWordHere d) (pc := 11) (cks_at k_M_qWordHere 5 rfl rfl) ?_
    exact tq_iret (E := E_M_qWordHere d) (pc := 12) (cks_at k_M_qWordHere 6 rfl rfl) rfl
abbrev E_M_qWordOf (d : Nat) : Ev := (Ct (d + 3), "BreathTownModel", prog_14_method_124_code, 4, False, 0, (fun _ => 0), (Option.some Jvm.ClassFile.FieldType.int))
def f_M_qWordOf (v1 : Int) (v2 : Int) (M : Mm) : Option (Int × Mm) :=
  bI (f_M_qWordHere M) (fun r2 M1 =>
  if i32 r2 < i32 v1 then
    some ((-1), M1)
  else
    if i32 v2 ≤ i32 r2 then
      some ((-1), M1)
    else
      some (r2, M1))
set_option maxRecDepth 20000 in
set_option maxHeartbeats 4000000 in
theorem c_M_qWordOf (d : Nat) (v1 : Int) (v2 : Int) (M : Mm) (Q : Option Value → Mm → Prop) (h : sat injI (f_M_qWordOf v1 v2 M) Q) : Ct (d + 4) y_M_qWordOf [.ref 78, vI v1, vI v2] M Q := by
  refine ct_in (d := d + 3) mk_M_qWordOf (Nat.le_of_ble_eq_true rfl) (?_ : T (E_M_qWordOf d) injI 0 [(0, .ref 78), (1, vI v1), (2, vI v2)] [] M (f_M_qWordOf v1 v2 M)) h
  unfold f_M_qWordOf
  refine tq_aload_n 0 (E := E_M_qWordOf d) (pc := 0) (cks_at k_M_qWordOf 0 rfl rfl) rfl ?_
  refine tq_V0 (E := E_M_qWordOf d) (pc := 1) (cks_at k_M_qWordOf 1 rfl rfl) mk_M_qWordHere lk_M_635 rc_78 (Nat.le_of_ble_eq_true rfl) (c_M_qWordHere (d + 0) M) (k_I fun r2 M1 => ?_)
  refine tq_istore_n (E := E_M_qWordOf d) (pc := 4) (cks_at k_M_qWordOf 2 rfl rfl) (show 3 < 4 by decide) rfl ?_
  refine tq_iload_n 0 (E := E_M_qWordOf d) (pc := 5) (cks_at k_M_qWordOf 3 rfl rfl) rfl ?_
  refine tq_iload_n 2 (E := E_M_qWordOf d) (pc := 6) (cks_at k_M_qWordOf 4 rfl rfl) rfl ?_
  refine tq_icmp_lt (E := E_M_qWordOf d) (pc := 7) (tgt := 19) (cks_at k_M_qWordOf 5 rfl rfl) (by decide) ?_ ?_
  · refine tq_iconst (E := E_M_qWordOf d) (pc := 19) (cks_at k_M_qWordOf 11 rfl rfl) ?_
    exact tq_iret (E := E_M_qWordOf d) (pc := 20) (cks_at k_M_qWordOf 12 rfl rfl) rfl
  · refine tq_iload_n 0 (E := E_M_qWordOf d) (pc := 10) (cks_at k_M_qWordOf 6 rfl rfl) rfl ?_
    refine tq_iload_n 3 (E := E_M_qWordOf d) (pc := 11) (cks_at k_M_qWordOf 7 rfl rfl) rfl ?_
    refine tq_icmp_ge (E := E_M_qWordOf d) (pc := 12) (tgt := 19) (cks_at k_M_qWordOf 8 rfl rfl) (by decide) ?_ ?_
    · refine tq_iconst (E := E_M_qWordOf d) (pc := 19) (cks_at k_M_qWordOf 11 rfl rfl) ?_
      exact tq_iret (E := E_M_qWordOf d) (pc := 20) (cks_at k_M_qWordOf 12 rfl rfl) rfl
    · refine tq_iload_n 0 (E := E_M_qWordOf d) (pc := 15) (cks_at k_M_qWordOf 9 rfl rfl) rfl ?_
      refine tq_goto (tgt := 20) (E := E_M_qWordOf d) (pc := 16) (cks_at k_M_qWordOf 10 rfl rfl) (by decide) ?_
      exact tq_iret (E := E_M_qWordOf d) (pc := 20) (cks_at k_M_qWordOf 12 rfl rfl) rfl
abbrev E_M_takesSign (d : Nat) : Ev := (Ct (d + 1), "BreathTownModel", prog_14_method_12_code, 2, False, 0, (fun _ => 0), (Option.some Jvm.ClassFile.FieldType.boolean))
def f_M_takesSign (v1 : Int) (M : Mm) : Option (Int × Mm) :=
  if ¬ i32 (M 78 5) = 0 then
    some (0, M)
  else
    bI (f_M_look M) (fun r2 M1 =>
    if i32 r2 = i32 v1 then
      bd (up M1 78 2 ((M1 78 2) + 1)) (fun M3 =>
      some (1, M3))
    else
      some (0, M1))
set_option maxRecDepth 20000 in
set_option maxHeartbeats 4000000 in
theorem c_M_takesSign (d : Nat) (v1 : Int) (M : Mm) (Q : Option Value → Mm → Prop) (h : sat injI (f_M_takesSign v1 M) Q) : Ct (d + 2) y_M_takesSign [.ref 78, vI v1] M Q := by
  refine ct_in (d := d + 1) mk_M_takesSign (Nat.le_of_ble_eq_true rfl) (?_ : T (E_M_takesSign d) injI 0 [(0, .ref 78), (1, vI v1)] [] M (f_M_takesSign v1 M)) h
  unfold f_M_takesSign
  refine tq_aload_n 0 (E := E_M_takesSign d) (pc := 0) (cks_at k_M_takesSign 0 rfl rfl) rfl ?_
  refine tq_getI (E := E_M_takesSign d) (pc := 1) (cks_at k_M_takesSign 1 rfl rfl) fo_M_225 so_78 rfl (by decide) ?_
  refine tq_if_ne (E := E_M_takesSign d) (pc := 4) (tgt := 15) (cks_at k_M_takesSign 2 rfl rfl) (by decide) ?_ ?_
  · refine tq_iconst (E := E_M_takesSign d) (pc := 15) (cks_at k_M_takesSign 7 rfl rfl) ?_
    exact tq_zretC (E := E_M_takesSign d) (pc := 16) (cks_at k_M_takesSign 8 rfl rfl) rfl (by decide)
  · refine tq_aload_n 0 (E := E_M_takesSign d) (pc := 7) (cks_at k_M_takesSign 3 rfl rfl) rfl ?_
    refine tq_V0 (E := E_M_takesSign d) (pc := 8) (cks_at k_M_takesSign 4 rfl rfl) mk_M_look lk_M_237 rc_78 (Nat.le_of_ble_eq_true rfl) (c_M_look (d + 0) M) (k_I fun r2 M1 => ?_)
    refine tq_iload_n 1 (E := E_M_takesSign d) (pc := 11) (cks_at k_M_takesSign 5 rfl rfl) rfl ?_
    refine tq_icmp_eq (E := E_M_takesSign d) (pc := 12) (tgt := 17) (cks_at k_M_takesSign 6 rfl rfl) (by decide) ?_ ?_
    · refine tq_aload_n 0 (E := E_M_takesSign d) (pc := 17) (cks_at k_M_takesSign 9 rfl rfl) rfl ?_
      refine tq_dup (E := E_M_takesSign d) (pc := 18) (cks_at k_M_takesSign 10 rfl rfl) rfl ?_
      refine tq_getI (E := E_M_takesSign d) (pc := 19) (cks_at k_M_takesSign 11 rfl rfl) fo_M_231 so_78 rfl (by decide) ?_
      refine tq_iconst (E := E_M_takesSign d) (pc := 22) (cks_at k_M_takesSign 12 rfl rfl) ?_
      refine tq_iadd (E := E_M_takesSign d) (pc := 23) (cks_at k_M_takesSign 13 rfl rfl) ?_
      refine tq_putI (E := E_M_takesSign d) (pc := 24) (cks_at k_M_takesSign 14 rfl rfl) fo_M_231 so_78 rfl po_12_2 (fun M3 => ?_)
      refine tq_iconst (E := E_M_takesSign d) (pc := 27) (cks_at k_M_takesSign 15 rfl rfl) ?_
      exact tq_zretC (E := E_M_takesSign d) (pc := 28) (cks_at k_M_takesSign 16 rfl rfl) rfl (by decide)
    · refine tq_iconst (E := E_M_takesSign d) (pc := 15) (cks_at k_M_takesSign 7 rfl rfl) ?_
      exact tq_zretC (E := E_M_takesSign d) (pc := 16) (cks_at k_M_takesSign 8 rfl rfl) rfl (by decide)
abbrev E_M_asksSign (d : Nat) : Ev := (Ct (d + 2), "BreathTownModel", prog_14_method_13_code, 2, False, 0, (fun _ => 0), (Option.none : Option Jvm.ClassFile.FieldType))
def f_M_asksSign (v1 : Int) (M : Mm) : Option (Mm) :=
  if ¬ i32 (M 78 5) = 0 then
    some M
  else
    bI (f_M_takesSign v1 M) (fun r2 M1 =>
    if ¬ i32 r2 = 0 then
      some M1
    else
      bV (f_M_fail 1 (M1 78 2) M1) (fun M3 =>
      some M3))
set_option maxRecDepth 20000 in
set_option maxHeartbeats 4000000 in
theorem c_M_asksSign (d : Nat) (v1 : Int) (M : Mm) (Q : Option Value → Mm → Prop) (h : sat injV (f_M_asksSign v1 M) Q) : Ct (d + 3) y_M_asksSign [.ref 78, vI v1] M Q := by
  refine ct_in (d := d + 2) mk_M_asksSign (Nat.le_of_ble_eq_true rfl) (?_ : T (E_M_asksSign d) injV 0 [(0, .ref 78), (1, vI v1)] [] M (f_M_asksSign v1 M)) h
  unfold f_M_asksSign
  refine tq_aload_n 0 (E := E_M_asksSign d) (pc := 0) (cks_at k_M_asksSign 0 rfl rfl) rfl ?_
  refine tq_getI (E := E_M_asksSign d) (pc := 1) (cks_at k_M_asksSign 1 rfl rfl) fo_M_225 so_78 rfl (by decide) ?_
  refine tq_if_ne (E := E_M_asksSign d) (pc := 4) (tgt := 24) (cks_at k_M_asksSign 2 rfl rfl) (by decide) ?_ ?_
  · exact tq_vret (E := E_M_asksSign d) (pc := 24) (cks_at k_M_asksSign 12 rfl rfl) rfl
  · refine tq_aload_n 0 (E := E_M_asksSign d) (pc := 7) (cks_at k_M_asksSign 3 rfl rfl) rfl ?_
    refine tq_iload_n 1 (E := E_M_asksSign d) (pc := 8) (cks_at k_M_asksSign 4 rfl rfl) rfl ?_
    refine tq_V1 (E := E_M_asksSign d) (pc := 9) (cks_at k_M_asksSign 5 rfl rfl) mk_M_takesSign lk_M_259 rc_78 (Nat.le_of_ble_eq_true rfl) (c_M_takesSign (d + 0) v1 M) (k_I fun r2 M1 => ?_)
    refine tq_if_ne (E := E_M_asksSign d) (pc := 12) (tgt := 24) (cks_at k_M_asksSign 6 rfl rfl) (by decide) ?_ ?_
    · exact tq_vret (E := E_M_asksSign d) (pc := 24) (cks_at k_M_asksSign 12 rfl rfl) rfl
    · refine tq_aload_n 0 (E := E_M_asksSign d) (pc := 15) (cks_at k_M_asksSign 7 rfl rfl) rfl ?_
      refine tq_iconst (E := E_M_asksSign d) (pc := 16) (cks_at k_M_asksSign 8 rfl rfl) ?_
      refine tq_aload_n 0 (E := E_M_asksSign d) (pc := 17) (cks_at k_M_asksSign 9 rfl rfl) rfl ?_
      refine tq_getI (E := E_M_asksSign d) (pc := 18) (cks_at k_M_asksSign 10 rfl rfl) fo_M_231 so_78 rfl (by decide) ?_
      refine tq_V2 (E := E_M_asksSign d) (pc := 21) (cks_at k_M_asksSign 11 rfl rfl) mk_M_fail lk_M_255 rc_78 (Nat.le_of_ble_eq_true rfl) (c_M_fail (d + 1) 1 (M1 78 2) M1) (k_V fun M3 => ?_)
      exact tq_vret (E := E_M_asksSign d) (pc := 24) (cks_at k_M_asksSign 12 rfl rfl) rfl
abbrev E_M_qAsksWord (d : Nat) : Ev := (Ct (d + 4), "BreathTownModel", prog_14_method_125_code, 2, False, 0, (fun _ => 0), (Option.none : Option Jvm.ClassFile.FieldType))
def f_M_qAsksWord (v1 : Int) (M : Mm) : Option (Mm) :=
  if i32 v1 = 0 then
    bV (f_M_asks 136 M) (fun M2 =>
    some M2)
  else
  if i32 v1 = 1 then
    bV (f_M_asks 137 M) (fun M4 =>
    some M4)
  else
  if i32 v1 = 2 then
    bV (f_M_asks 138 M) (fun M6 =>
    some M6)
  else
  if i32 v1 = 3 then
    bV (f_M_asks 139 M) (fun M8 =>
    some M8)
  else
  if i32 v1 = 4 then
    bV (f_M_asks 140 M) (fun M10 =>
    some M10)
  else
  bV (f_M_asks 141 M) (fun M11 =>
  some M11)
set_option maxRecDepth 20000 in
set_option maxHeartbeats 4000000 in
theorem c_M_qAsksWord (d : Nat) (v1 : Int) (M : Mm) (Q : Option Value → Mm → Prop) (h : sat injV (f_M_qAsksWord v1 M) Q) : Ct (d + 5) y_M_qAsksWord [.ref 78, vI v1] M Q := by
  refine ct_in (d := d + 4) mk_M_qAsksWord (Nat.le_of_ble_eq_true rfl) (?_ : T (E_M_qAsksWord d) injV 0 [(0, .ref 78), (1, vI v1)] [] M (f_M_qAsksWord v1 M)) h
  unfold f_M_qAsksWord
  refine tq_iload_n 1 (E := E_M_qAsksWord d) (pc := 0) (cks_at k_M_qAsksWord 0 rfl rfl) rfl ?_
  refine tq_tsC (E := E_M_qAsksWord d) (pc := 1) (tgt := 36) (off := 35) (w := 0) 0 k_M_qAsksWord_1 (by decide) rfl (by decide) ?_ (fun h1 => ?_)
  · refine tq_aload_n 0 (E := E_M_qAsksWord d) (pc := 36) (cks_at k_M_qAsksWord 2 rfl rfl) rfl ?_
    refine tq_aload_n 0 (E := E_M_qAsksWord d) (pc := 37) (cks_at k_M_qAsksWord 3 rfl rfl) rfl ?_
    refine tq_getR (j := 136) (E := E_M_qAsksWord d) (pc := 38) (cks_at k_M_qAsksWord 4 rfl rfl) fo_M_192 so_78 rfl sp_78_82 ?_
    refine tq_V1 (E := E_M_qAsksWord d) (pc := 41) (cks_at k_M_qAsksWord 5 rfl rfl) mk_M_asks lk_M_295 rc_78 (Nat.le_of_ble_eq_true rfl) (c_M_asks (d + 0) 136 sa_136 M) (k_V fun M2 => ?_)
    refine tq_goto (tgt := 99) (E := E_M_qAsksWord d) (pc := 44) (cks_at k_M_qAsksWord 6 rfl rfl) (by decide) ?_
    exact tq_vret (E := E_M_qAsksWord d) (pc := 99) (cks_at k_M_qAsksWord 31 rfl rfl) rfl
  refine tq_tsC (E := E_M_qAsksWord d) (pc := 1) (tgt := 47) (off := 46) (w := 1) 1 k_M_qAsksWord_1 (by decide) rfl (by decide) ?_ (fun h3 => ?_)
  · refine tq_aload_n 0 (E := E_M_qAsksWord d) (pc := 47) (cks_at k_M_qAsksWord 7 rfl rfl) rfl ?_
    refine tq_aload_n 0 (E := E_M_qAsksWord d) (pc := 48) (cks_at k_M_qAsksWord 8 rfl rfl) rfl ?_
    refine tq_getR (j := 137) (E := E_M_qAsksWord d) (pc := 49) (cks_at k_M_qAsksWord 9 rfl rfl) fo_M_195 so_78 rfl sp_78_83 ?_
    refine tq_V1 (E := E_M_qAsksWord d) (pc := 52) (cks_at k_M_qAsksWord 10 rfl rfl) mk_M_asks lk_M_295 rc_78 (Nat.le_of_ble_eq_true rfl) (c_M_asks (d + 0) 137 sa_137 M) (k_V fun M4 => ?_)
    refine tq_goto (tgt := 99) (E := E_M_qAsksWord d) (pc := 55) (cks_at k_M_qAsksWord 11 rfl rfl) (by decide) ?_
    exact tq_vret (E := E_M_qAsksWord d) (pc := 99) (cks_at k_M_qAsksWord 31 rfl rfl) rfl
  refine tq_tsC (E := E_M_qAsksWord d) (pc := 1) (tgt := 58) (off := 57) (w := 2) 2 k_M_qAsksWord_1 (by decide) rfl (by decide) ?_ (fun h5 => ?_)
  · refine tq_aload_n 0 (E := E_M_qAsksWord d) (pc := 58) (cks_at k_M_qAsksWord 12 rfl rfl) rfl ?_
    refine tq_aload_n 0 (E := E_M_qAsksWord d) (pc := 59) (cks_at k_M_qAsksWord 13 rfl rfl) rfl ?_
    refine tq_getR (j := 138) (E := E_M_qAsksWord d) (pc := 60) (cks_at k_M_qAsksWord 14 rfl rfl) fo_M_198 so_78 rfl sp_78_84 ?_
    refine tq_V1 (E := E_M_qAsksWord d) (pc := 63) (cks_at k_M_qAsksWord 15 rfl rfl) mk_M_asks lk_M_295 rc_78 (Nat.le_of_ble_eq_true rfl) (c_M_asks (d + 0) 138 sa_138 M) (k_V fun M6 => ?_)
    refine tq_goto (tgt := 99) (E := E_M_qAsksWord d) (pc := 66) (cks_at k_M_qAsksWord 16 rfl rfl) (by decide) ?_
    exact tq_vret (E := E_M_qAsksWord d) (pc := 99) (cks_at k_M_qAsksWord 31 rfl rfl) rfl
  refine tq_tsC (E := E_M_qAsksWord d) (pc := 1) (tgt := 69) (off := 68) (w := 3) 3 k_M_qAsksWord_1 (by decide) rfl (by decide) ?_ (fun h7 => ?_)
  · refine tq_aload_n 0 (E := E_M_qAsksWord d) (pc := 69) (cks_at k_M_qAsksWord 17 rfl rfl) rfl ?_
    refine tq_aload_n 0 (E := E_M_qAsksWord d) (pc := 70) (cks_at k_M_qAsksWord 18 rfl rfl) rfl ?_
    refine tq_getR (j := 139) (E := E_M_qAsksWord d) (pc := 71) (cks_at k_M_qAsksWord 19 rfl rfl) fo_M_201 so_78 rfl sp_78_85 ?_
    refine tq_V1 (E := E_M_qAsksWord d) (pc := 74) (cks_at k_M_qAsksWord 20 rfl rfl) mk_M_asks lk_M_295 rc_78 (Nat.le_of_ble_eq_true rfl) (c_M_asks (d + 0) 139 sa_139 M) (k_V fun M8 => ?_)
    refine tq_goto (tgt := 99) (E := E_M_qAsksWord d) (pc := 77) (cks_at k_M_qAsksWord 21 rfl rfl) (by decide) ?_
    exact tq_vret (E := E_M_qAsksWord d) (pc := 99) (cks_at k_M_qAsksWord 31 rfl rfl) rfl
  refine tq_tsC (E := E_M_qAsksWord d) (pc := 1) (tgt := 80) (off := 79) (w := 4) 4 k_M_qAsksWord_1 (by decide) rfl (by decide) ?_ (fun h9 => ?_)
  · refine tq_aload_n 0 (E := E_M_qAsksWord d) (pc := 80) (cks_at k_M_qAsksWord 22 rfl rfl) rfl ?_
    refine tq_aload_n 0 (E := E_M_qAsksWord d) (pc := 81) (cks_at k_M_qAsksWord 23 rfl rfl) rfl ?_
    refine tq_getR (j := 140) (E := E_M_qAsksWord d) (pc := 82) (cks_at k_M_qAsksWord 24 rfl rfl) fo_M_204 so_78 rfl sp_78_86 ?_
    refine tq_V1 (E := E_M_qAsksWord d) (pc := 85) (cks_at k_M_qAsksWord 25 rfl rfl) mk_M_asks lk_M_295 rc_78 (Nat.le_of_ble_eq_true rfl) (c_M_asks (d + 0) 140 sa_140 M) (k_V fun M10 => ?_)
    refine tq_goto (tgt := 99) (E := E_M_qAsksWord d) (pc := 88) (cks_at k_M_qAsksWord 26 rfl rfl) (by decide) ?_
    exact tq_vret (E := E_M_qAsksWord d) (pc := 99) (cks_at k_M_qAsksWord 31 rfl rfl) rfl
  refine tq_tsD (E := E_M_qAsksWord d) (pc := 1) (tgt := 91) k_M_qAsksWord_1 (by omega) (by decide) ?_
  refine tq_aload_n 0 (E := E_M_qAsksWord d) (pc := 91) (cks_at k_M_qAsksWord 27 rfl rfl) rfl ?_
  refine tq_aload_n 0 (E := E_M_qAsksWord d) (pc := 92) (cks_at k_M_qAsksWord 28 rfl rfl) rfl ?_
  refine tq_getR (j := 141) (E := E_M_qAsksWord d) (pc := 93) (cks_at k_M_qAsksWord 29 rfl rfl) fo_M_207 so_78 rfl sp_78_87 ?_
  refine tq_V1 (E := E_M_qAsksWord d) (pc := 96) (cks_at k_M_qAsksWord 30 rfl rfl) mk_M_asks lk_M_295 rc_78 (Nat.le_of_ble_eq_true rfl) (c_M_asks (d + 0) 141 sa_141 M) (k_V fun M11 => ?_)
  exact tq_vret (E := E_M_qAsksWord d) (pc := 99) (cks_at k_M_qAsksWord 31 rfl rfl) rfl
