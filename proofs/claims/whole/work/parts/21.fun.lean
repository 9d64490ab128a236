abbrev E_M_sumsTold (d : Nat) : Ev := (Ct (d + 5), "BreathTownModel", prog_14_method_36_code, 3, False, 0, (fun _ => 0), (Option.none : Option Jvm.ClassFile.FieldType))
def f_M_sumsTold_B15 (kH : Int → Int → Mm → Option (Mm)) (kx53 : Int → Mm → Option (Mm)) (v1 v2 : Int) (M : Mm) : Option (Mm) :=
  if i32 v2 = 0 then
    kx53 v1 M
  else
    if ¬ i32 (M 78 5) = 0 then
      kx53 v1 M
    else
      bV (f_M_onePart M) (fun M2 =>
      if ¬ i32 (M2 78 5) = 0 then
        kH v1 0 M2
      else
        bI (f_M_goesOn M2) (fun r4 M3 =>
        if i32 r4 = 0 then
          kH v1 0 M3
        else
          kH v1 1 M3))
set_option maxRecDepth 20000 in
set_option maxHeartbeats 4000000 in
theorem w_M_sumsTold_B15 (d : Nat) (kH : Int → Int → Mm → Option (Mm)) (kx53 : Int → Mm → Option (Mm)) (hkH : ∀ (v1 v2 : Int) (M : Mm), T (E_M_sumsTold d) injV 15 [(0, .ref 78), (1, vI v1), (2, vI v2)] [] M (kH v1 v2 M)) (hkx53 : ∀ (v1 : Int) (M : Mm), T (E_M_sumsTold d) injV 53 [(0, .ref 78), (1, vI v1)] [] M (kx53 v1 M)) (v1 v2 : Int) (M : Mm) : T (E_M_sumsTold d) injV 15 [(0, .ref 78), (1, vI v1), (2, vI v2)] [] M (f_M_sumsTold_B15 kH kx53 v1 v2 M) := by
  unfold f_M_sumsTold_B15
  refine tq_iload_n 2 (E := E_M_sumsTold d) (pc := 15) (cks_at k_M_sumsTold 9 rfl rfl) rfl ?_
  refine tq_if_eq (E := E_M_sumsTold d) (pc := 16) (tgt := 53) (cks_at k_M_sumsTold 10 rfl rfl) (by decide) ?_ ?_
  · exact tq_sub [0, 1] rfl (hkx53 v1 M)
  · refine tq_aload_n 0 (E := E_M_sumsTold d) (pc := 19) (cks_at k_M_sumsTold 11 rfl rfl) rfl ?_
    refine tq_getI (E := E_M_sumsTold d) (pc := 20) (cks_at k_M_sumsTold 12 rfl rfl) fo_M_225 so_78 rfl (by decide) ?_
    refine tq_if_ne (E := E_M_sumsTold d) (pc := 23) (tgt := 53) (cks_at k_M_sumsTold 13 rfl rfl) (by decide) ?_ ?_
    · exact tq_sub [0, 1] rfl (hkx53 v1 M)
    · refine tq_aload_n 0 (E := E_M_sumsTold d) (pc := 26) (cks_at k_M_sumsTold 14 rfl rfl) rfl ?_
      refine tq_V0 (E := E_M_sumsTold d) (pc := 27) (cks_at k_M_sumsTold 15 rfl rfl) mk_M_onePart lk_M_377 rc_78 (Nat.le_of_ble_eq_true rfl) (c_M_onePart (d + 0) M) (k_V fun M2 => ?_)
      refine tq_aload_n 0 (E := E_M_sumsTold d) (pc := 30) (cks_at k_M_sumsTold 16 rfl rfl) rfl ?_
      refine tq_getI (E := E_M_sumsTold d) (pc := 31) (cks_at k_M_sumsTold 17 rfl rfl) fo_M_225 so_78 rfl (by decide) ?_
      refine tq_if_ne (E := E_M_sumsTold d) (pc := 34) (tgt := 48) (cks_at k_M_sumsTold 18 rfl rfl) (by decide) ?_ ?_
      · refine tq_iconst (E := E_M_sumsTold d) (pc := 48) (cks_at k_M_sumsTold 24 rfl rfl) ?_
        refine tq_istore_n (E := E_M_sumsTold d) (pc := 49) (cks_at k_M_sumsTold 25 rfl rfl) (show 2 < 3 by decide) rfl ?_
        refine tq_goto (tgt := 15) (E := E_M_sumsTold d) (pc := 50) (cks_at k_M_sumsTold 26 rfl rfl) (by decide) ?_
        exact tq_sub [1, 2, 0] rfl (hkH v1 0 M2)
      · refine tq_aload_n 0 (E := E_M_sumsTold d) (pc := 37) (cks_at k_M_sumsTold 19 rfl rfl) rfl ?_
        refine tq_V0 (E := E_M_sumsTold d) (pc := 38) (cks_at k_M_sumsTold 20 rfl rfl) mk_M_goesOn lk_M_380 rc_78 (Nat.le_of_ble_eq_true rfl) (c_M_goesOn (d + 1) M2) (k_I fun r4 M3 => ?_)
        refine tq_if_eq (E := E_M_sumsTold d) (pc := 41) (tgt := 48) (cks_at k_M_sumsTold 21 rfl rfl) (by decide) ?_ ?_
        · refine tq_iconst (E := E_M_sumsTold d) (pc := 48) (cks_at k_M_sumsTold 24 rfl rfl) ?_
          refine tq_istore_n (E := E_M_sumsTold d) (pc := 49) (cks_at k_M_sumsTold 25 rfl rfl) (show 2 < 3 by decide) rfl ?_
          refine tq_goto (tgt := 15) (E := E_M_sumsTold d) (pc := 50) (cks_at k_M_sumsTold 26 rfl rfl) (by decide) ?_
          exact tq_sub [1, 2, 0] rfl (hkH v1 0 M3)
        · refine tq_iconst (E := E_M_sumsTold d) (pc := 44) (cks_at k_M_sumsTold 22 rfl rfl) ?_
          refine tq_goto (tgt := 49) (E := E_M_sumsTold d) (pc := 45) (cks_at k_M_sumsTold 23 rfl rfl) (by decide) ?_
          refine tq_istore_n (E := E_M_sumsTold d) (pc := 49) (cks_at k_M_sumsTold 25 rfl rfl) (show 2 < 3 by decide) rfl ?_
          refine tq_goto (tgt := 15) (E := E_M_sumsTold d) (pc := 50) (cks_at k_M_sumsTold 26 rfl rfl) (by decide) ?_
          exact tq_sub [1, 2, 0] rfl (hkH v1 1 M3)
def f_M_sumsTold_L15 (kx53 : Int → Mm → Option (Mm)) : Nat → Int × Int × Mm → Option (Mm) := lp fun kH s => f_M_sumsTold_B15 (fun v1 v2 M => kH (v1, v2, M)) kx53 s.1 s.2.1 s.2.2
set_option maxRecDepth 20000 in
set_option maxHeartbeats 4000000 in
theorem w_M_sumsTold_L15 (d : Nat) (kx53 : Int → Mm → Option (Mm)) (hkx53 : ∀ (v1 : Int) (M : Mm), T (E_M_sumsTold d) injV 53 [(0, .ref 78), (1, vI v1)] [] M (kx53 v1 M)) (n : Nat) (s : Int × Int × Mm) : T (E_M_sumsTold d) injV 15 [(0, .ref 78), (1, vI s.1), (2, vI s.2.1)] [] s.2.2 (f_M_sumsTold_L15 kx53 n s) :=
  tq_lp (fun s => [(0, .ref 78), (1, vI s.1), (2, vI s.2.1)]) (fun s => s.2.2) (fun kH hH s => w_M_sumsTold_B15 d (fun v1 v2 M => kH (v1, v2, M)) kx53 (fun v1 v2 M => hH (v1, v2, M)) hkx53 s.1 s.2.1 s.2.2) n s
def f_M_sumsTold_B53 (kH : Int → Mm → Option (Mm)) (v1 : Int) (M : Mm) : Option (Mm) :=
  if ¬ i32 (M 78 5) = 0 then
    bd (up M 78 41 v1) (fun M6 =>
    some M6)
  else
    if i32 (M 78 37) ≤ i32 (M 78 41) then
      bd (up M 78 41 v1) (fun M7 =>
      some M7)
    else
      bV (f_M_drops M) (fun M8 =>
      kH v1 M8)
set_option maxRecDepth 20000 in
set_option maxHeartbeats 4000000 in
theorem w_M_sumsTold_B53 (d : Nat) (kH : Int → Mm → Option (Mm)) (hkH : ∀ (v1 : Int) (M : Mm), T (E_M_sumsTold d) injV 53 [(0, .ref 78), (1, vI v1)] [] M (kH v1 M)) (v1 : Int) (M : Mm) : T (E_M_sumsTold d) injV 53 [(0, .ref 78), (1, vI v1)] [] M (f_M_sumsTold_B53 kH v1 M) := by
  unfold f_M_sumsTold_B53
  refine tq_aload_n 0 (E := E_M_sumsTold d) (pc := 53) (cks_at k_M_sumsTold 27 rfl rfl) rfl ?_
  refine tq_getI (E := E_M_sumsTold d) (pc := 54) (cks_at k_M_sumsTold 28 rfl rfl) fo_M_225 so_78 rfl (by decide) ?_
  refine tq_if_ne (E := E_M_sumsTold d) (pc := 57) (tgt := 78) (cks_at k_M_sumsTold 29 rfl rfl) (by decide) ?_ ?_
  · refine tq_aload_n 0 (E := E_M_sumsTold d) (pc := 78) (cks_at k_M_sumsTold 38 rfl rfl) rfl ?_
    refine tq_iload_n 1 (E := E_M_sumsTold d) (pc := 79) (cks_at k_M_sumsTold 39 rfl rfl) rfl ?_
    refine tq_putI (E := E_M_sumsTold d) (pc := 80) (cks_at k_M_sumsTold 40 rfl rfl) fo_M_316 so_78 rfl po_12_41 (fun M6 => ?_)
    exact tq_vret (E := E_M_sumsTold d) (pc := 83) (cks_at k_M_sumsTold 41 rfl rfl) rfl
  · refine tq_aload_n 0 (E := E_M_sumsTold d) (pc := 60) (cks_at k_M_sumsTold 30 rfl rfl) rfl ?_
    refine tq_getI (E := E_M_sumsTold d) (pc := 61) (cks_at k_M_sumsTold 31 rfl rfl) fo_M_310 so_78 rfl (by decide) ?_
    refine tq_aload_n 0 (E := E_M_sumsTold d) (pc := 64) (cks_at k_M_sumsTold 32 rfl rfl) rfl ?_
    refine tq_getI (E := E_M_sumsTold d) (pc := 65) (cks_at k_M_sumsTold 33 rfl rfl) fo_M_316 so_78 rfl (by decide) ?_
    refine tq_icmp_le (E := E_M_sumsTold d) (pc := 68) (tgt := 78) (cks_at k_M_sumsTold 34 rfl rfl) (by decide) ?_ ?_
    · refine tq_aload_n 0 (E := E_M_sumsTold d) (pc := 78) (cks_at k_M_sumsTold 38 rfl rfl) rfl ?_
      refine tq_iload_n 1 (E := E_M_sumsTold d) (pc := 79) (cks_at k_M_sumsTold 39 rfl rfl) rfl ?_
      refine tq_putI (E := E_M_sumsTold d) (pc := 80) (cks_at k_M_sumsTold 40 rfl rfl) fo_M_316 so_78 rfl po_12_41 (fun M7 => ?_)
      exact tq_vret (E := E_M_sumsTold d) (pc := 83) (cks_at k_M_sumsTold 41 rfl rfl) rfl
    · refine tq_aload_n 0 (E := E_M_sumsTold d) (pc := 71) (cks_at k_M_sumsTold 35 rfl rfl) rfl ?_
      refine tq_V0 (E := E_M_sumsTold d) (pc := 72) (cks_at k_M_sumsTold 36 rfl rfl) mk_M_drops lk_M_362 rc_78 (Nat.le_of_ble_eq_true rfl) (c_M_drops (d + 3) M) (k_V fun M8 => ?_)
      refine tq_goto (tgt := 53) (E := E_M_sumsTold d) (pc := 75) (cks_at k_M_sumsTold 37 rfl rfl) (by decide) ?_
      exact tq_sub [0, 1] rfl (hkH v1 M8)
def f_M_sumsTold_L53 : Nat → Int × Mm → Option (Mm) := lp fun kH s => f_M_sumsTold_B53 (fun v1 M => kH (v1, M)) s.1 s.2
set_option maxRecDepth 20000 in
set_option maxHeartbeats 4000000 in
theorem w_M_sumsTold_L53 (d : Nat) (n : Nat) (s : Int × Mm) : T (E_M_sumsTold d) injV 53 [(0, .ref 78), (1, vI s.1)] [] s.2 (f_M_sumsTold_L53 n s) :=
  tq_lp (fun s => [(0, .ref 78), (1, vI s.1)]) (fun s => s.2) (fun kH hH s => w_M_sumsTold_B53 d (fun v1 M => kH (v1, M)) (fun v1 M => hH (v1, M)) s.1 s.2) n s
def f_M_sumsTold (M : Mm) : Option (Mm) :=
  bd (up M 78 41 (M 78 37)) (fun M1 =>
  f_M_sumsTold_L15 (fun v1 M5 => f_M_sumsTold_L53 FU (v1, M5)) FU ((M 78 41), 1, M1))
set_option maxRecDepth 20000 in
set_option maxHeartbeats 4000000 in
theorem c_M_sumsTold (d : Nat) (M : Mm) (Q : Option Value → Mm → Prop) (h : sat injV (f_M_sumsTold M) Q) : Ct (d + 6) y_M_sumsTold [.ref 78] M Q := by
  refine ct_in (d := d + 5) mk_M_sumsTold (Nat.le_of_ble_eq_true rfl) (?_ : T (E_M_sumsTold d) injV 0 [(0, .ref 78)] [] M (f_M_sumsTold M)) h
  unfold f_M_sumsTold
  refine tq_aload_n 0 (E := E_M_sumsTold d) (pc := 0) (cks_at k_M_sumsTold 0 rfl rfl) rfl ?_
  refine tq_getI (E := E_M_sumsTold d) (pc := 1) (cks_at k_M_sumsTold 1 rfl rfl) fo_M_316 so_78 rfl (by decide) ?_
  refine tq_istore_n (E := E_M_sumsTold d) (pc := 4) (cks_at k_M_sumsTold 2 rfl rfl) (show 1 < 3 by decide) rfl ?_
  refine tq_aload_n 1 (E := E_M_sumsTold d) (pc := 5) (cks_at k_M_sumsTold 3 rfl rfl) rfl ?_
  refine tq_aload_n 1 (E := E_M_sumsTold d) (pc := 6) (cks_at k_M_sumsTold 4 rfl rfl) rfl ?_
  refine tq_getI (E := E_M_sumsTold d) (pc := 7) (cks_at k_M_sumsTold 5 rfl rfl) fo_M_310 so_78 rfl (by decide) ?_
  refine tq_putI (E := E_M_sumsTold d) (pc := 10) (cks_at k_M_sumsTold 6 rfl rfl) fo_M_316 so_78 rfl po_12_41 (fun M1 => ?_)
  refine tq_iconst (E := E_M_sumsTold d) (pc := 13) (cks_at k_M_sumsTold 7 rfl rfl) ?_
  refine tq_istore_n (E := E_M_sumsTold d) (pc := 14) (cks_at k_M_sumsTold 8 rfl rfl) (show 2 < 3 by decide) rfl ?_
  exact tq_sub [2, 1, 0] rfl (w_M_sumsTold_L15 d _ (fun v1 M5 => by
      exact tq_sub [0, 1] rfl (w_M_sumsTold_L53 d FU (v1, M5))) FU ((M 78 41), 1, M1))
abbrev E_M_newStreet (d : Nat) : Ev := (Ct (d + 6), "BreathTownModel", prog_14_method_22_code, 10, False, 0, (fun _ => 0), (Option.none : Option Jvm.ClassFile.FieldType))
def f_M_newStreet (v1 : Int) (M : Mm) : Option (Mm) :=
  bI (f_M_isFull 1 12 v1 M) (fun r2 M1 =>
  if i32 r2 = 0 then
    bI (f_M_newName M1) (fun r4 M3 =>
    bV (f_M_asks 83 M3) (fun M5 =>
    bI (f_M_placeTold ((-1)) M5) (fun r7 M6 =>
    bV (f_M_asks 84 M6) (fun M8 =>
    bI (f_M_placeTold r7 M8) (fun r10 M9 =>
    bV (f_M_asks 85 M9) (fun M11 =>
    bI (f_M_number 1 4 M11) (fun r13 M12 =>
    bV (f_M_asks 86 M12) (fun M14 =>
    bI (f_M_number 1 48 M14) (fun r16 M15 =>
    bV (f_M_asks 87 M15) (fun M17 =>
    bI (f_M_number 0 47 M17) (fun r19 M18 =>
    bV (f_M_asks 88 M18) (fun M20 =>
    gd (0 ≤ i32 (M1 98 1) ∧ i32 (M1 98 1) < ((24 : Nat) : Int)) <|
    bd (up M20 104 (i32 (M1 98 1)).toNat (M20 78 35)) (fun M21 =>
    bd (up M21 78 37 0) (fun M22 =>
    bd (up M22 78 38 0) (fun M23 =>
    bd (up M23 78 41 0) (fun M24 =>
    bV (f_M_sumsTold M24) (fun M25 =>
    gd (0 ≤ i32 (M1 98 1) ∧ i32 (M1 98 1) < ((24 : Nat) : Int)) <|
    bd (up M25 105 (i32 (M1 98 1)).toNat (M25 78 35)) (fun M26 =>
    if i32 (M26 78 5) = 0 then
      gd (0 ≤ i32 (12 + (M1 98 1)) ∧ i32 (12 + (M1 98 1)) < ((72 : Nat) : Int)) <|
      bd (up M26 99 (i32 (12 + (M1 98 1))).toNat r4) (fun M27 =>
      gd (0 ≤ i32 (5 * (M1 98 1)) ∧ i32 (5 * (M1 98 1)) < ((120 : Nat) : Int)) <|
      bd (up M27 100 (i32 (5 * (M1 98 1))).toNat r7) (fun M28 =>
      gd (0 ≤ i32 ((5 * (M1 98 1)) + 1) ∧ i32 ((5 * (M1 98 1)) + 1) < ((120 : Nat) : Int)) <|
      bd (up M28 100 (i32 ((5 * (M1 98 1)) + 1)).toNat r10) (fun M29 =>
      gd (0 ≤ i32 ((5 * (M1 98 1)) + 2) ∧ i32 ((5 * (M1 98 1)) + 2) < ((120 : Nat) : Int)) <|
      bd (up M29 100 (i32 ((5 * (M1 98 1)) + 2)).toNat r13) (fun M30 =>
      gd (0 ≤ i32 ((5 * (M1 98 1)) + 3) ∧ i32 ((5 * (M1 98 1)) + 3) < ((120 : Nat) : Int)) <|
      bd (up M30 100 (i32 ((5 * (M1 98 1)) + 3)).toNat r16) (fun M31 =>
      gd (¬ i32 r16 = 0) <|
      gd (0 ≤ i32 ((5 * (M1 98 1)) + 4) ∧ i32 ((5 * (M1 98 1)) + 4) < ((120 : Nat) : Int)) <|
      bd (up M31 100 (i32 ((5 * (M1 98 1)) + 4)).toNat ((i32 r19).tmod (i32 r16))) (fun M32 =>
      bd (up M32 98 1 ((M32 98 1) + 1)) (fun M33 =>
      some M33)))))))
    else
      some M26))))))))))))))))))
  else
    some M1)
set_option maxRecDepth 20000 in
set_option maxHeartbeats 4000000 in
theorem c_M_newStreet (d : Nat) (v1 : Int) (M : Mm) (Q : Option Value → Mm → Prop) (h : sat injV (f_M_newStreet v1 M) Q) : Ct (d + 7) y_M_newStreet [.ref 78, vI v1] M Q := by
  refine ct_in (d := d + 6) mk_M_newStreet (Nat.le_of_ble_eq_true rfl) (?_ : T (E_M_newStreet d) injV 0 [(0, .ref 78), (1, vI v1)] [] M (f_M_newStreet v1 M)) h
  unfold f_M_newStreet
  refine tq_aload_n 0 (E := E_M_newStreet d) (pc := 0) (cks_at k_M_newStreet 0 rfl rfl) rfl ?_
  refine tq_iconst (E := E_M_newStreet d) (pc := 1) (cks_at k_M_newStreet 1 rfl rfl) ?_
  refine tq_bipush (E := E_M_newStreet d) (pc := 2) (cks_at k_M_newStreet 2 rfl rfl) (by decide) (by decide) ?_
  refine tq_iload_n 1 (E := E_M_newStreet d) (pc := 4) (cks_at k_M_newStreet 3 rfl rfl) rfl ?_
  refine tq_V3 (E := E_M_newStreet d) (pc := 5) (cks_at k_M_newStreet 4 rfl rfl) mk_M_isFull lk_M_288 rc_78 (Nat.le_of_ble_eq_true rfl) (c_M_isFull (d + 4) 1 12 v1 M) (k_I fun r2 M1 => ?_)
  refine tq_if_eq (E := E_M_newStreet d) (pc := 8) (tgt := 12) (cks_at k_M_newStreet 5 rfl rfl) (by decide) ?_ ?_
  · refine tq_aload_n 0 (E := E_M_newStreet d) (pc := 12) (cks_at k_M_newStreet 7 rfl rfl) rfl ?_
    refine tq_getR (j := 98) (E := E_M_newStreet d) (pc := 13) (cks_at k_M_newStreet 8 rfl rfl) fo_M_72 so_78 rfl sp_78_28 ?_
    refine tq_iconst (E := E_M_newStreet d) (pc := 16) (cks_at k_M_newStreet 9 rfl rfl) ?_
    refine tq_ialdC 1 (E := E_M_newStreet d) (pc := 17) (cks_at k_M_newStreet 10 rfl rfl) sa_98 sn_98 (by decide) ?_
    refine tq_istore_n (E := E_M_newStreet d) (pc := 18) (cks_at k_M_newStreet 11 rfl rfl) (show 2 < 10 by decide) rfl ?_
    refine tq_aload_n 1 (E := E_M_newStreet d) (pc := 19) (cks_at k_M_newStreet 12 rfl rfl) rfl ?_
    refine tq_V0 (E := E_M_newStreet d) (pc := 20) (cks_at k_M_newStreet 13 rfl rfl) mk_M_newName lk_M_292 rc_78 (Nat.le_of_ble_eq_true rfl) (c_M_newName (d + 1) M1) (k_J fun r4 M3 => ?_)
    refine tq_lstore_n (E := E_M_newStreet d) (pc := 23) (cks_at k_M_newStreet 14 rfl rfl) (show 3 + 1 < 10 by decide) rfl ?_
    refine tq_aload_n 2 (E := E_M_newStreet d) (pc := 24) (cks_at k_M_newStreet 15 rfl rfl) rfl ?_
    refine tq_aload_n 2 (E := E_M_newStreet d) (pc := 25) (cks_at k_M_newStreet 16 rfl rfl) rfl ?_
    refine tq_getR (j := 83) (E := E_M_newStreet d) (pc := 26) (cks_at k_M_newStreet 17 rfl rfl) fo_M_27 so_78 rfl sp_78_12 ?_
    refine tq_V1 (E := E_M_newStreet d) (pc := 29) (cks_at k_M_newStreet 18 rfl rfl) mk_M_asks lk_M_295 rc_78 (Nat.le_of_ble_eq_true rfl) (c_M_asks (d + 2) 83 sa_83 M3) (k_V fun M5 => ?_)
    refine tq_aload_n 2 (E := E_M_newStreet d) (pc := 32) (cks_at k_M_newStreet 19 rfl rfl) rfl ?_
    refine tq_iconst (E := E_M_newStreet d) (pc := 33) (cks_at k_M_newStreet 20 rfl rfl) ?_
    refine tq_V1 (E := E_M_newStreet d) (pc := 34) (cks_at k_M_newStreet 21 rfl rfl) mk_M_placeTold lk_M_299 rc_78 (Nat.le_of_ble_eq_true rfl) (c_M_placeTold (d + 1) ((-1)) M5) (k_I fun r7 M6 => ?_)
    refine tq_istore (E := E_M_newStreet d) (pc := 37) (cks_at k_M_newStreet 22 rfl rfl) (show 5 < 10 by decide) rfl ?_
    refine tq_aload_n 3 (E := E_M_newStreet d) (pc := 39) (cks_at k_M_newStreet 23 rfl rfl) rfl ?_
    refine tq_aload_n 3 (E := E_M_newStreet d) (pc := 40) (cks_at k_M_newStreet 24 rfl rfl) rfl ?_
    refine tq_getR (j := 84) (E := E_M_newStreet d) (pc := 41) (cks_at k_M_newStreet 25 rfl rfl) fo_M_30 so_78 rfl sp_78_13 ?_
    refine tq_V1 (E := E_M_newStreet d) (pc := 44) (cks_at k_M_newStreet 26 rfl rfl) mk_M_asks lk_M_295 rc_78 (Nat.le_of_ble_eq_true rfl) (c_M_asks (d + 2) 84 sa_84 M6) (k_V fun M8 => ?_)
    refine tq_aload_n 3 (E := E_M_newStreet d) (pc := 47) (cks_at k_M_newStreet 27 rfl rfl) rfl ?_
    refine tq_iload 0 (E := E_M_newStreet d) (pc := 48) (cks_at k_M_newStreet 28 rfl rfl) rfl ?_
    refine tq_V1 (E := E_M_newStreet d) (pc := 50) (cks_at k_M_newStreet 29 rfl rfl) mk_M_placeTold lk_M_299 rc_78 (Nat.le_of_ble_eq_true rfl) (c_M_placeTold (d + 1) r7 M8) (k_I fun r10 M9 => ?_)
    refine tq_istore (E := E_M_newStreet d) (pc := 53) (cks_at k_M_newStreet 30 rfl rfl) (show 6 < 10 by decide) rfl ?_
    refine tq_aload_n 4 (E := E_M_newStreet d) (pc := 55) (cks_at k_M_newStreet 31 rfl rfl) rfl ?_
    refine tq_aload_n 4 (E := E_M_newStreet d) (pc := 56) (cks_at k_M_newStreet 32 rfl rfl) rfl ?_
    refine tq_getR (j := 85) (E := E_M_newStreet d) (pc := 57) (cks_at k_M_newStreet 33 rfl rfl) fo_M_33 so_78 rfl sp_78_14 ?_
    refine tq_V1 (E := E_M_newStreet d) (pc := 60) (cks_at k_M_newStreet 34 rfl rfl) mk_M_asks lk_M_295 rc_78 (Nat.le_of_ble_eq_true rfl) (c_M_asks (d + 2) 85 sa_85 M9) (k_V fun M11 => ?_)
    refine tq_aload_n 4 (E := E_M_newStreet d) (pc := 63) (cks_at k_M_newStreet 35 rfl rfl) rfl ?_
    refine tq_iconst (E := E_M_newStreet d) (pc := 64) (cks_at k_M_newStreet 36 rfl rfl) ?_
    refine tq_iconst (E := E_M_newStreet d) (pc := 65) (cks_at k_M_newStreet 37 rfl rfl) ?_
    refine tq_V2 (E := E_M_newStreet d) (pc := 66) (cks_at k_M_newStreet 38 rfl rfl) mk_M_number lk_M_303 rc_78 (Nat.le_of_ble_eq_true rfl) (c_M_number (d + 4) 1 4 M11) (k_I fun r13 M12 => ?_)
    refine tq_istore (E := E_M_newStreet d) (pc := 69) (cks_at k_M_newStreet 39 rfl rfl) (show 7 < 10 by decide) rfl ?_
    refine tq_aload_n 5 (E := E_M_newStreet d) (pc := 71) (cks_at k_M_newStreet 40 rfl rfl) rfl ?_
    refine tq_aload_n 5 (E := E_M_newStreet d) (pc := 72) (cks_at k_M_newStreet 41 rfl rfl) rfl ?_
    refine tq_getR (j := 86) (E := E_M_newStreet d) (pc := 73) (cks_at k_M_newStreet 42 rfl rfl) fo_M_36 so_78 rfl sp_78_15 ?_
    refine tq_V1 (E := E_M_newStreet d) (pc := 76) (cks_at k_M_newStreet 43 rfl rfl) mk_M_asks lk_M_295 rc_78 (Nat.le_of_ble_eq_true rfl) (c_M_asks (d + 2) 86 sa_86 M12) (k_V fun M14 => ?_)
    refine tq_aload_n 5 (E := E_M_newStreet d) (pc := 79) (cks_at k_M_newStreet 44 rfl rfl) rfl ?_
    refine tq_iconst (E := E_M_newStreet d) (pc := 80) (cks_at k_M_newStreet 45 rfl rfl) ?_
    refine tq_bipush (E := E_M_newStreet d) (pc := 81) (cks_at k_M_newStreet 46 rfl rfl) (by decide) (by decide) ?_
    refine tq_V2 (E := E_M_newStreet d) (pc := 83) (cks_at k_M_newStreet 47 rfl rfl) mk_M_number lk_M_303 rc_78 (Nat.le_of_ble_eq_true rfl) (c_M_number (d + 4) 1 48 M14) (k_I fun r16 M15 => ?_)
    refine tq_istore (E := E_M_newStreet d) (pc := 86) (cks_at k_M_newStreet 48 rfl rfl) (show 8 < 10 by decide) rfl ?_
    refine tq_aload_n 6 (E := E_M_newStreet d) (pc := 88) (cks_at k_M_newStreet 49 rfl rfl) rfl ?_
    refine tq_aload_n 6 (E := E_M_newStreet d) (pc := 89) (cks_at k_M_newStreet 50 rfl rfl) rfl ?_
    refine tq_getR (j := 87) (E := E_M_newStreet d) (pc := 90) (cks_at k_M_newStreet 51 rfl rfl) fo_M_39 so_78 rfl sp_78_16 ?_
    refine tq_V1 (E := E_M_newStreet d) (pc := 93) (cks_at k_M_newStreet 52 rfl rfl) mk_M_asks lk_M_295 rc_78 (Nat.le_of_ble_eq_true rfl) (c_M_asks (d + 2) 87 sa_87 M15) (k_V fun M17 => ?_)
    refine tq_aload_n 6 (E := E_M_newStreet d) (pc := 96) (cks_at k_M_newStreet 53 rfl rfl) rfl ?_
    refine tq_iconst (E := E_M_newStreet d) (pc := 97) (cks_at k_M_newStreet 54 rfl rfl) ?_
    refine tq_bipush (E := E_M_newStreet d) (pc := 98) (cks_at k_M_newStreet 55 rfl rfl) (by decide) (by decide) ?_
    refine tq_V2 (E := E_M_newStreet d) (pc := 100) (cks_at k_M_newStreet 56 rfl rfl) mk_M_number lk_M_303 rc_78 (Nat.le_of_ble_eq_true rfl) (c_M_number (d + 4) 0 47 M17) (k_I fun r19 M18 => ?_)
    refine tq_istore (E := E_M_newStreet d) (pc := 103) (cks_at k_M_newStreet 57 rfl rfl) (show 9 < 10 by decide) rfl ?_
    refine tq_aload_n 7 (E := E_M_newStreet d) (pc := 105) (cks_at k_M_newStreet 58 rfl rfl) rfl ?_
    refine tq_aload_n 7 (E := E_M_newStreet d) (pc := 106) (cks_at k_M_newStreet 59 rfl rfl) rfl ?_
    refine tq_getR (j := 88) (E := E_M_newStreet d) (pc := 107) (cks_at k_M_newStreet 60 rfl rfl) fo_M_42 so_78 rfl sp_78_17 ?_
    refine tq_V1 (E := E_M_newStreet d) (pc := 110) (cks_at k_M_newStreet 61 rfl rfl) mk_M_asks lk_M_295 rc_78 (Nat.le_of_ble_eq_true rfl) (c_M_asks (d + 2) 88 sa_88 M18) (k_V fun M20 => ?_)
    refine tq_aload_n 7 (E := E_M_newStreet d) (pc := 113) (cks_at k_M_newStreet 62 rfl rfl) rfl ?_
    refine tq_getR (j := 104) (E := E_M_newStreet d) (pc := 114) (cks_at k_M_newStreet 63 rfl rfl) fo_M_91 so_78 rfl sp_78_39 ?_
    refine tq_iload_n 6 (E := E_M_newStreet d) (pc := 117) (cks_at k_M_newStreet 64 rfl rfl) rfl ?_
    refine tq_aload_n 7 (E := E_M_newStreet d) (pc := 118) (cks_at k_M_newStreet 65 rfl rfl) rfl ?_
    refine tq_getI (E := E_M_newStreet d) (pc := 119) (cks_at k_M_newStreet 66 rfl rfl) fo_M_307 so_78 rfl (by decide) ?_
    refine tq_iast (E := E_M_newStreet d) (pc := 122) (cks_at k_M_newStreet 67 rfl rfl) sa_104 sn_104 (fun M21 => ?_)
    refine tq_aload_n 7 (E := E_M_newStreet d) (pc := 123) (cks_at k_M_newStreet 68 rfl rfl) rfl ?_
    refine tq_iconst (E := E_M_newStreet d) (pc := 124) (cks_at k_M_newStreet 69 rfl rfl) ?_
    refine tq_putI (E := E_M_newStreet d) (pc := 125) (cks_at k_M_newStreet 70 rfl rfl) fo_M_310 so_78 rfl po_12_37 (fun M22 => ?_)
    refine tq_aload_n 7 (E := E_M_newStreet d) (pc := 128) (cks_at k_M_newStreet 71 rfl rfl) rfl ?_
    refine tq_iconst (E := E_M_newStreet d) (pc := 129) (cks_at k_M_newStreet 72 rfl rfl) ?_
    refine tq_putI (E := E_M_newStreet d) (pc := 130) (cks_at k_M_newStreet 73 rfl rfl) fo_M_313 so_78 rfl po_12_38 (fun M23 => ?_)
    refine tq_aload_n 7 (E := E_M_newStreet d) (pc := 133) (cks_at k_M_newStreet 74 rfl rfl) rfl ?_
    refine tq_iconst (E := E_M_newStreet d) (pc := 134) (cks_at k_M_newStreet 75 rfl rfl) ?_
    refine tq_putI (E := E_M_newStreet d) (pc := 135) (cks_at k_M_newStreet 76 rfl rfl) fo_M_316 so_78 rfl po_12_41 (fun M24 => ?_)
    refine tq_aload_n 7 (E := E_M_newStreet d) (pc := 138) (cks_at k_M_newStreet 77 rfl rfl) rfl ?_
    refine tq_V0 (E := E_M_newStreet d) (pc := 139) (cks_at k_M_newStreet 78 rfl rfl) mk_M_sumsTold lk_M_319 rc_78 (Nat.le_of_ble_eq_true rfl) (c_M_sumsTold (d + 0) M24) (k_V fun M25 => ?_)
    refine tq_aload_n 7 (E := E_M_newStreet d) (pc := 142) (cks_at k_M_newStreet 79 rfl rfl) rfl ?_
    refine tq_getR (j := 105) (E := E_M_newStreet d) (pc := 143) (cks_at k_M_newStreet 80 rfl rfl) fo_M_94 so_78 rfl sp_78_40 ?_
    refine tq_iload_n 6 (E := E_M_newStreet d) (pc := 146) (cks_at k_M_newStreet 81 rfl rfl) rfl ?_
    refine tq_aload_n 7 (E := E_M_newStreet d) (pc := 147) (cks_at k_M_newStreet 82 rfl rfl) rfl ?_
    refine tq_getI (E := E_M_newStreet d) (pc := 148) (cks_at k_M_newStreet 83 rfl rfl) fo_M_307 so_78 rfl (by decide) ?_
    refine tq_iast (E := E_M_newStreet d) (pc := 151) (cks_at k_M_newStreet 84 rfl rfl) sa_105 sn_105 (fun M26 => ?_)
    refine tq_aload_n 7 (E := E_M_newStreet d) (pc := 152) (cks_at k_M_newStreet 85 rfl rfl) rfl ?_
    refine tq_getI (E := E_M_newStreet d) (pc := 153) (cks_at k_M_newStreet 86 rfl rfl) fo_M_225 so_78 rfl (by decide) ?_
    refine tq_if_eq (E := E_M_newStreet d) (pc := 156) (tgt := 160) (cks_at k_M_newStreet 87 rfl rfl) (by decide) ?_ ?_
    · refine tq_aload_n 7 (E := E_M_newStreet d) (pc := 160) (cks_at k_M_newStreet 89 rfl rfl) rfl ?_
      refine tq_getR (j := 99) (E := E_M_newStreet d) (pc := 161) (cks_at k_M_newStreet 90 rfl rfl) fo_M_75 so_78 rfl sp_78_29 ?_
      refine tq_bipush (E := E_M_newStreet d) (pc := 164) (cks_at k_M_newStreet 91 rfl rfl) (by decide) (by decide) ?_
      refine tq_iload_n 6 (E := E_M_newStreet d) (pc := 166) (cks_at k_M_newStreet 92 rfl rfl) rfl ?_
      refine tq_iadd (E := E_M_newStreet d) (pc := 167) (cks_at k_M_newStreet 93 rfl rfl) ?_
      refine tq_lload_n 5 (E := E_M_newStreet d) (pc := 168) (cks_at k_M_newStreet 94 rfl rfl) rfl ?_
      refine tq_last (E := E_M_newStreet d) (pc := 169) (cks_at k_M_newStreet 95 rfl rfl) sa_99 sn_99 (fun M27 => ?_)
      refine tq_aload_n 7 (E := E_M_newStreet d) (pc := 170) (cks_at k_M_newStreet 96 rfl rfl) rfl ?_
      refine tq_getR (j := 100) (E := E_M_newStreet d) (pc := 171) (cks_at k_M_newStreet 97 rfl rfl) fo_M_79 so_78 rfl sp_78_30 ?_
      refine tq_iconst (E := E_M_newStreet d) (pc := 174) (cks_at k_M_newStreet 98 rfl rfl) ?_
      refine tq_iload_n 6 (E := E_M_newStreet d) (pc := 175) (cks_at k_M_newStreet 99 rfl rfl) rfl ?_
      refine tq_imul (E := E_M_newStreet d) (pc := 176) (cks_at k_M_newStreet 100 rfl rfl) ?_
      refine tq_iload 4 (E := E_M_newStreet d) (pc := 177) (cks_at k_M_newStreet 101 rfl rfl) rfl ?_
      refine tq_iast (E := E_M_newStreet d) (pc := 179) (cks_at k_M_newStreet 102 rfl rfl) sa_100 sn_100 (fun M28 => ?_)
      refine tq_aload_n 7 (E := E_M_newStreet d) (pc := 180) (cks_at k_M_newStreet 103 rfl rfl) rfl ?_
      refine tq_getR (j := 100) (E := E_M_newStreet d) (pc := 181) (cks_at k_M_newStreet 104 rfl rfl) fo_M_79 so_78 rfl sp_78_30 ?_
      refine tq_iconst (E := E_M_newStreet d) (pc := 184) (cks_at k_M_newStreet 105 rfl rfl) ?_
      refine tq_iload_n 6 (E := E_M_newStreet d) (pc := 185) (cks_at k_M_newStreet 106 rfl rfl) rfl ?_
      refine tq_imul (E := E_M_newStreet d) (pc := 186) (cks_at k_M_newStreet 107 rfl rfl) ?_
      refine tq_iconst (E := E_M_newStreet d) (pc := 187) (cks_at k_M_newStreet 108 rfl rfl) ?_
      refine tq_iadd (E := E_M_newStreet d) (pc := 188) (cks_at k_M_newStreet 109 rfl rfl) ?_
      refine tq_iload 3 (E := E_M_newStreet d) (pc := 189) (cks_at k_M_newStreet 110 rfl rfl) rfl ?_
      refine tq_iast (E := E_M_newStreet d) (pc := 191) (cks_at k_M_newStreet 111 rfl rfl) sa_100 sn_100 (fun M29 => ?_)
      refine tq_aload_n 7 (E := E_M_newStreet d) (pc := 192) (cks_at k_M_newStreet 112 rfl rfl) rfl ?_
      refine tq_getR (j := 100) (E := E_M_newStreet d) (pc := 193) (cks_at k_M_newStreet 113 rfl rfl) fo_M_79 so_78 rfl sp_78_30 ?_
      refine tq_iconst (E := E_M_newStreet d) (pc := 196) (cks_at k_M_newStreet 114 rfl rfl) ?_
      refine tq_iload_n 6 (E := E_M_newStreet d) (pc := 197) (cks_at k_M_newStreet 115 rfl rfl) rfl ?_
      refine tq_imul (E := E_M_newStreet d) (pc := 198) (cks_at k_M_newStreet 116 rfl rfl) ?_
      refine tq_iconst (E := E_M_newStreet d) (pc := 199) (cks_at k_M_newStreet 117 rfl rfl) ?_
      refine tq_iadd (E := E_M_newStreet d) (pc := 200) (cks_at k_M_newStreet 118 rfl rfl) ?_
      refine tq_iload 2 (E := E_M_newStreet d) (pc := 201) (cks_at k_M_newStreet 119 rfl rfl) rfl ?_
      refine tq_iast (E := E_M_newStreet d) (pc := 203) (cks_at k_M_newStreet 120 rfl rfl) sa_100 sn_100 (fun M30 => ?_)
      refine tq_aload_n 7 (E := E_M_newStreet d) (pc := 204) (cks_at k_M_newStreet 121 rfl rfl) rfl ?_
      refine tq_getR (j := 100) (E := E_M_newStreet d) (pc := 205) (cks_at k_M_newStreet 122 rfl rfl) fo_M_79 so_78 rfl sp_78_30 ?_
      refine tq_iconst (E := E_M_newStreet d) (pc := 208) (cks_at k_M_newStreet 123 rfl rfl) ?_
      refine tq_iload_n 6 (E := E_M_newStreet d) (pc := 209) (cks_at k_M_newStreet 124 rfl rfl) rfl ?_
      refine tq_imul (E := E_M_newStreet d) (pc := 210) (cks_at k_M_newStreet 125 rfl rfl) ?_
      refine tq_iconst (E := E_M_newStreet d) (pc := 211) (cks_at k_M_newStreet 126 rfl rfl) ?_
      refine tq_iadd (E := E_M_newStreet d) (pc := 212) (cks_at k_M_newStreet 127 rfl rfl) ?_
      refine tq_iload 1 (E := E_M_newStreet d) (pc := 213) (cks_at k_M_newStreet 128 rfl rfl) rfl ?_
      refine tq_iast (E := E_M_newStreet d) (pc := 215) (cks_at k_M_newStreet 129 rfl rfl) sa_100 sn_100 (fun M31 => ?_)
      refine tq_aload_n 7 (E := E_M_newStreet d) (pc := 216) (cks_at k_M_newStreet 130 rfl rfl) rfl ?_
      refine tq_getR (j := 100) (E := E_M_newStreet d) (pc := 217) (cks_at k_M_newStreet 131 rfl rfl) fo_M_79 so_78 rfl sp_78_30 ?_
      refine tq_iconst (E := E_M_newStreet d) (pc := 220) (cks_at k_M_newStreet 132 rfl rfl) ?_
      refine tq_iload_n 6 (E := E_M_newStreet d) (pc := 221) (cks_at k_M_newStreet 133 rfl rfl) rfl ?_
      refine tq_imul (E := E_M_newStreet d) (pc := 222) (cks_at k_M_newStreet 134 rfl rfl) ?_
      refine tq_iconst (E := E_M_newStreet d) (pc := 223) (cks_at k_M_newStreet 135 rfl rfl) ?_
      refine tq_iadd (E := E_M_newStreet d) (pc := 224) (cks_at k_M_newStreet 136 rfl rfl) ?_
      refine tq_iload 0 (E := E_M_newStreet d) (pc := 225) (cks_at k_M_newStreet 137 rfl rfl) rfl ?_
      refine tq_iload 1 (E := E_M_newStreet d) (pc := 227) (cks_at k_M_newStreet 138 rfl rfl) rfl ?_
      refine tq_irem (E := E_M_newStreet d) (pc := 229) (cks_at k_M_newStreet 139 rfl rfl) ?_
      refine tq_iast (E := E_M_newStreet d) (pc := 230) (cks_at k_M_newStreet 140 rfl rfl) sa_100 sn_100 (fun M32 => ?_)
      refine tq_aload_n 7 (E := E_M_newStreet d) (pc := 231) (cks_at k_M_newStreet 141 rfl rfl) rfl ?_
      refine tq_getR (j := 98) (E := E_M_newStreet d) (pc := 232) (cks_at k_M_newStreet 142 rfl rfl) fo_M_72 so_78 rfl sp_78_28 ?_
      refine tq_iconst (E := E_M_newStreet d) (pc := 235) (cks_at k_M_newStreet 143 rfl rfl) ?_
      refine tq_dup2 (E := E_M_newStreet d) (pc := 236) (cks_at k_M_newStreet 144 rfl rfl) rfl rfl ?_
      refine tq_ialdC 1 (E := E_M_newStreet d) (pc := 237) (cks_at k_M_newStreet 145 rfl rfl) sa_98 sn_98 (by decide) ?_
      refine tq_iconst (E := E_M_newStreet d) (pc := 238) (cks_at k_M_newStreet 146 rfl rfl) ?_
      refine tq_iadd (E := E_M_newStreet d) (pc := 239) (cks_at k_M_newStreet 147 rfl rfl) ?_
      refine tq_iastC (E := E_M_newStreet d) (pc := 240) 1 (cks_at k_M_newStreet 148 rfl rfl) sa_98 sn_98 (by decide) (fun M33 => ?_)
      exact tq_vret (E := E_M_newStreet d) (pc := 241) (cks_at k_M_newStreet 149 rfl rfl) rfl
    · exact tq_vret (E := E_M_newStreet d) (pc := 159) (cks_at k_M_newStreet 88 rfl rfl) rfl
  · exact tq_vret (E := E_M_newStreet d) (pc := 11) (cks_at k_M_newStreet 6 rfl rfl) rfl
abbrev E_M_newWalker (d : Nat) : Ev := (Ct (d + 5), "BreathTownModel", prog_14_method_23_code, 8, False, 0, (fun _ => 0), (Option.none : Option Jvm.ClassFile.FieldType))
def f_M_newWalker (v1 : Int) (M : Mm) : Option (Mm) :=
  bI (f_M_isFull 2 6 v1 M) (fun r2 M1 =>
  if i32 r2 = 0 then
    bI (f_M_newName M1) (fun r4 M3 =>
    bV (f_M_asks 90 M3) (fun M5 =>
    bI (f_M_number 1 99 M5) (fun r7 M6 =>
    bV (f_M_asks 91 M6) (fun M8 =>
    bI (f_M_placeTold ((-1)) M8) (fun r10 M9 =>
    bV (f_M_asks 84 M9) (fun M11 =>
    bI (f_M_placeTold r10 M11) (fun r13 M12 =>
    if i32 (M12 78 5) = 0 then
      gd (0 ≤ i32 (24 + (M1 98 2)) ∧ i32 (24 + (M1 98 2)) < ((72 : Nat) : Int)) <|
      bd (up M12 99 (i32 (24 + (M1 98 2))).toNat r4) (fun M14 =>
      gd (0 ≤ i32 (3 * (M1 98 2)) ∧ i32 (3 * (M1 98 2)) < ((36 : Nat) : Int)) <|
      bd (up M14 101 (i32 (3 * (M1 98 2))).toNat r7) (fun M15 =>
      gd (0 ≤ i32 ((3 * (M1 98 2)) + 1) ∧ i32 ((3 * (M1 98 2)) + 1) < ((36 : Nat) : Int)) <|
      bd (up M15 101 (i32 ((3 * (M1 98 2)) + 1)).toNat r10) (fun M16 =>
      gd (0 ≤ i32 ((3 * (M1 98 2)) + 2) ∧ i32 ((3 * (M1 98 2)) + 2) < ((36 : Nat) : Int)) <|
      bd (up M16 101 (i32 ((3 * (M1 98 2)) + 2)).toNat r13) (fun M17 =>
      bd (up M17 98 2 ((M17 98 2) + 1)) (fun M18 =>
      some M18)))))
    else
      some M12)))))))
  else
    some M1)
set_option maxRecDepth 20000 in
set_option maxHeartbeats 4000000 in
theorem c_M_newWalker (d : Nat) (v1 : Int) (M : Mm) (Q : Option Value → Mm → Prop) (h : sat injV (f_M_newWalker v1 M) Q) : Ct (d + 6) y_M_newWalker [.ref 78, vI v1] M Q := by
  refine ct_in (d := d + 5) mk_M_newWalker (Nat.le_of_ble_eq_true rfl) (?_ : T (E_M_newWalker d) injV 0 [(0, .ref 78), (1, vI v1)] [] M (f_M_newWalker v1 M)) h
  unfold f_M_newWalker
  refine tq_aload_n 0 (E := E_M_newWalker d) (pc := 0) (cks_at k_M_newWalker 0 rfl rfl) rfl ?_
  refine tq_iconst (E := E_M_newWalker d) (pc := 1) (cks_at k_M_newWalker 1 rfl rfl) ?_
  refine tq_bipush (E := E_M_newWalker d) (pc := 2) (cks_at k_M_newWalker 2 rfl rfl) (by decide) (by decide) ?_
  refine tq_iload_n 1 (E := E_M_newWalker d) (pc := 4) (cks_at k_M_newWalker 3 rfl rfl) rfl ?_
  refine tq_V3 (E := E_M_newWalker d) (pc := 5) (cks_at k_M_newWalker 4 rfl rfl) mk_M_isFull lk_M_288 rc_78 (Nat.le_of_ble_eq_true rfl) (c_M_isFull (d + 3) 2 6 v1 M) (k_I fun r2 M1 => ?_)
  refine tq_if_eq (E := E_M_newWalker d) (pc := 8) (tgt := 12) (cks_at k_M_newWalker 5 rfl rfl) (by decide) ?_ ?_
  · refine tq_aload_n 0 (E := E_M_newWalker d) (pc := 12) (cks_at k_M_newWalker 7 rfl rfl) rfl ?_
    refine tq_getR (j := 98) (E := E_M_newWalker d) (pc := 13) (cks_at k_M_newWalker 8 rfl rfl) fo_M_72 so_78 rfl sp_78_28 ?_
    refine tq_iconst (E := E_M_newWalker d) (pc := 16) (cks_at k_M_newWalker 9 rfl rfl) ?_
    refine tq_ialdC 2 (E := E_M_newWalker d) (pc := 17) (cks_at k_M_newWalker 10 rfl rfl) sa_98 sn_98 (by decide) ?_
    refine tq_istore_n (E := E_M_newWalker d) (pc := 18) (cks_at k_M_newWalker 11 rfl rfl) (show 2 < 8 by decide) rfl ?_
    refine tq_aload_n 1 (E := E_M_newWalker d) (pc := 19) (cks_at k_M_newWalker 12 rfl rfl) rfl ?_
    refine tq_V0 (E := E_M_newWalker d) (pc := 20) (cks_at k_M_newWalker 13 rfl rfl) mk_M_newName lk_M_292 rc_78 (Nat.le_of_ble_eq_true rfl) (c_M_newName (d + 0) M1) (k_J fun r4 M3 => ?_)
    refine tq_lstore_n (E := E_M_newWalker d) (pc := 23) (cks_at k_M_newWalker 14 rfl rfl) (show 3 + 1 < 8 by decide) rfl ?_
    refine tq_aload_n 2 (E := E_M_newWalker d) (pc := 24) (cks_at k_M_newWalker 15 rfl rfl) rfl ?_
    refine tq_aload_n 2 (E := E_M_newWalker d) (pc := 25) (cks_at k_M_newWalker 16 rfl rfl) rfl ?_
    refine tq_getR (j := 90) (E := E_M_newWalker d) (pc := 26) (cks_at k_M_newWalker 17 rfl rfl) fo_M_48 so_78 rfl sp_78_19 ?_
    refine tq_V1 (E := E_M_newWalker d) (pc := 29) (cks_at k_M_newWalker 18 rfl rfl) mk_M_asks lk_M_295 rc_78 (Nat.le_of_ble_eq_true rfl) (c_M_asks (d + 1) 90 sa_90 M3) (k_V fun M5 => ?_)
    refine tq_aload_n 2 (E := E_M_newWalker d) (pc := 32) (cks_at k_M_newWalker 19 rfl rfl) rfl ?_
    refine tq_iconst (E := E_M_newWalker d) (pc := 33) (cks_at k_M_newWalker 20 rfl rfl) ?_
    refine tq_bipush (E := E_M_newWalker d) (pc := 34) (cks_at k_M_newWalker 21 rfl rfl) (by decide) (by decide) ?_
    refine tq_V2 (E := E_M_newWalker d) (pc := 36) (cks_at k_M_newWalker 22 rfl rfl) mk_M_number lk_M_303 rc_78 (Nat.le_of_ble_eq_true rfl) (c_M_number (d + 3) 1 99 M5) (k_I fun r7 M6 => ?_)
    refine tq_istore (E := E_M_newWalker d) (pc := 39) (cks_at k_M_newWalker 23 rfl rfl) (show 5 < 8 by decide) rfl ?_
    refine tq_aload_n 3 (E := E_M_newWalker d) (pc := 41) (cks_at k_M_newWalker 24 rfl rfl) rfl ?_
    refine tq_aload_n 3 (E := E_M_newWalker d) (pc := 42) (cks_at k_M_newWalker 25 rfl rfl) rfl ?_
    refine tq_getR (j := 91) (E := E_M_newWalker d) (pc := 43) (cks_at k_M_newWalker 26 rfl rfl) fo_M_51 so_78 rfl sp_78_20 ?_
    refine tq_V1 (E := E_M_newWalker d) (pc := 46) (cks_at k_M_newWalker 27 rfl rfl) mk_M_asks lk_M_295 rc_78 (Nat.le_of_ble_eq_true rfl) (c_M_asks (d + 1) 91 sa_91 M6) (k_V fun M8 => ?_)
    refine tq_aload_n 3 (E := E_M_newWalker d) (pc := 49) (cks_at k_M_newWalker 28 rfl rfl) rfl ?_
    refine tq_iconst (E := E_M_newWalker d) (pc := 50) (cks_at k_M_newWalker 29 rfl rfl) ?_
    refine tq_V1 (E := E_M_newWalker d) (pc := 51) (cks_at k_M_newWalker 30 rfl rfl) mk_M_placeTold lk_M_299 rc_78 (Nat.le_of_ble_eq_true rfl) (c_M_placeTold (d + 0) ((-1)) M8) (k_I fun r10 M9 => ?_)
    refine tq_istore (E := E_M_newWalker d) (pc := 54) (cks_at k_M_newWalker 31 rfl rfl) (show 6 < 8 by decide) rfl ?_
    refine tq_aload_n 4 (E := E_M_newWalker d) (pc := 56) (cks_at k_M_newWalker 32 rfl rfl) rfl ?_
    refine tq_aload_n 4 (E := E_M_newWalker d) (pc := 57) (cks_at k_M_newWalker 33 rfl rfl) rfl ?_
    refine tq_getR (j := 84) (E := E_M_newWalker d) (pc := 58) (cks_at k_M_newWalker 34 rfl rfl) fo_M_30 so_78 rfl sp_78_13 ?_
    refine tq_V1 (E := E_M_newWalker d) (pc := 61) (cks_at k_M_newWalker 35 rfl rfl) mk_M_asks lk_M_295 rc_78 (Nat.le_of_ble_eq_true rfl) (c_M_asks (d + 1) 84 sa_84 M9) (k_V fun M11 => ?_)
    refine tq_aload_n 4 (E := E_M_newWalker d) (pc := 64) (cks_at k_M_newWalker 36 rfl rfl) rfl ?_
    refine tq_iload 0 (E := E_M_newWalker d) (pc := 65) (cks_at k_M_newWalker 37 rfl rfl) rfl ?_
    refine tq_V1 (E := E_M_newWalker d) (pc := 67) (cks_at k_M_newWalker 38 rfl rfl) mk_M_placeTold lk_M_299 rc_78 (Nat.le_of_ble_eq_true rfl) (c_M_placeTold (d + 0) r10 M11) (k_I fun r13 M12 => ?_)
    refine tq_istore (E := E_M_newWalker d) (pc := 70) (cks_at k_M_newWalker 39 rfl rfl) (show 7 < 8 by decide) rfl ?_
    refine tq_aload_n 5 (E := E_M_newWalker d) (pc := 72) (cks_at k_M_newWalker 40 rfl rfl) rfl ?_
    refine tq_getI (E := E_M_newWalker d) (pc := 73) (cks_at k_M_newWalker 41 rfl rfl) fo_M_225 so_78 rfl (by decide) ?_
    refine tq_if_eq (E := E_M_newWalker d) (pc := 76) (tgt := 80) (cks_at k_M_newWalker 42 rfl rfl) (by decide) ?_ ?_
    · refine tq_aload_n 5 (E := E_M_newWalker d) (pc := 80) (cks_at k_M_newWalker 44 rfl rfl) rfl ?_
      refine tq_getR (j := 99) (E := E_M_newWalker d) (pc := 81) (cks_at k_M_newWalker 45 rfl rfl) fo_M_75 so_78 rfl sp_78_29 ?_
      refine tq_bipush (E := E_M_newWalker d) (pc := 84) (cks_at k_M_newWalker 46 rfl rfl) (by decide) (by decide) ?_
      refine tq_iload_n 4 (E := E_M_newWalker d) (pc := 86) (cks_at k_M_newWalker 47 rfl rfl) rfl ?_
      refine tq_iadd (E := E_M_newWalker d) (pc := 87) (cks_at k_M_newWalker 48 rfl rfl) ?_
      refine tq_lload_n 3 (E := E_M_newWalker d) (pc := 88) (cks_at k_M_newWalker 49 rfl rfl) rfl ?_
      refine tq_last (E := E_M_newWalker d) (pc := 89) (cks_at k_M_newWalker 50 rfl rfl) sa_99 sn_99 (fun M14 => ?_)
      refine tq_aload_n 5 (E := E_M_newWalker d) (pc := 90) (cks_at k_M_newWalker 51 rfl rfl) rfl ?_
      refine tq_getR (j := 101) (E := E_M_newWalker d) (pc := 91) (cks_at k_M_newWalker 52 rfl rfl) fo_M_82 so_78 rfl sp_78_31 ?_
      refine tq_iconst (E := E_M_newWalker d) (pc := 94) (cks_at k_M_newWalker 53 rfl rfl) ?_
      refine tq_iload_n 4 (E := E_M_newWalker d) (pc := 95) (cks_at k_M_newWalker 54 rfl rfl) rfl ?_
      refine tq_imul (E := E_M_newWalker d) (pc := 96) (cks_at k_M_newWalker 55 rfl rfl) ?_
      refine tq_iload 2 (E := E_M_newWalker d) (pc := 97) (cks_at k_M_newWalker 56 rfl rfl) rfl ?_
      refine tq_iast (E := E_M_newWalker d) (pc := 99) (cks_at k_M_newWalker 57 rfl rfl) sa_101 sn_101 (fun M15 => ?_)
      refine tq_aload_n 5 (E := E_M_newWalker d) (pc := 100) (cks_at k_M_newWalker 58 rfl rfl) rfl ?_
      refine tq_getR (j := 101) (E := E_M_newWalker d) (pc := 101) (cks_at k_M_newWalker 59 rfl rfl) fo_M_82 so_78 rfl sp_78_31 ?_
      refine tq_iconst (E := E_M_newWalker d) (pc := 104) (cks_at k_M_newWalker 60 rfl rfl) ?_
      refine tq_iload_n 4 (E := E_M_newWalker d) (pc := 105) (cks_at k_M_newWalker 61 rfl rfl) rfl ?_
      refine tq_imul (E := E_M_newWalker d) (pc := 106) (cks_at k_M_newWalker 62 rfl rfl) ?_
      refine tq_iconst (E := E_M_newWalker d) (pc := 107) (cks_at k_M_newWalker 63 rfl rfl) ?_
      refine tq_iadd (E := E_M_newWalker d) (pc := 108) (cks_at k_M_newWalker 64 rfl rfl) ?_
      refine tq_iload 1 (E := E_M_newWalker d) (pc := 109) (cks_at k_M_newWalker 65 rfl rfl) rfl ?_
      refine tq_iast (E := E_M_newWalker d) (pc := 111) (cks_at k_M_newWalker 66 rfl rfl) sa_101 sn_101 (fun M16 => ?_)
      refine tq_aload_n 5 (E := E_M_newWalker d) (pc := 112) (cks_at k_M_newWalker 67 rfl rfl) rfl ?_
      refine tq_getR (j := 101) (E := E_M_newWalker d) (pc := 113) (cks_at k_M_newWalker 68 rfl rfl) fo_M_82 so_78 rfl sp_78_31 ?_
      refine tq_iconst (E := E_M_newWalker d) (pc := 116) (cks_at k_M_newWalker 69 rfl rfl) ?_
      refine tq_iload_n 4 (E := E_M_newWalker d) (pc := 117) (cks_at k_M_newWalker 70 rfl rfl) rfl ?_
      refine tq_imul (E := E_M_newWalker d) (pc := 118) (cks_at k_M_newWalker 71 rfl rfl) ?_
      refine tq_iconst (E := E_M_newWalker d) (pc := 119) (cks_at k_M_newWalker 72 rfl rfl) ?_
      refine tq_iadd (E := E_M_newWalker d) (pc := 120) (cks_at k_M_newWalker 73 rfl rfl) ?_
      refine tq_iload 0 (E := E_M_newWalker d) (pc := 121) (cks_at k_M_newWalker 74 rfl rfl) rfl ?_
      refine tq_iast (E := E_M_newWalker d) (pc := 123) (cks_at k_M_newWalker 75 rfl rfl) sa_101 sn_101 (fun M17 => ?_)
      refine tq_aload_n 5 (E := E_M_newWalker d) (pc := 124) (cks_at k_M_newWalker 76 rfl rfl) rfl ?_
      refine tq_getR (j := 98) (E := E_M_newWalker d) (pc := 125) (cks_at k_M_newWalker 77 rfl rfl) fo_M_72 so_78 rfl sp_78_28 ?_
      refine tq_iconst (E := E_M_newWalker d) (pc := 128) (cks_at k_M_newWalker 78 rfl rfl) ?_
      refine tq_dup2 (E := E_M_newWalker d) (pc := 129) (cks_at k_M_newWalker 79 rfl rfl) rfl rfl ?_
      refine tq_ialdC 2 (E := E_M_newWalker d) (pc := 130) (cks_at k_M_newWalker 80 rfl rfl) sa_98 sn_98 (by decide) ?_
      refine tq_iconst (E := E_M_newWalker d) (pc := 131) (cks_at k_M_newWalker 81 rfl rfl) ?_
      refine tq_iadd (E := E_M_newWalker d) (pc := 132) (cks_at k_M_newWalker 82 rfl rfl) ?_
      refine tq_iastC (E := E_M_newWalker d) (pc := 133) 2 (cks_at k_M_newWalker 83 rfl rfl) sa_98 sn_98 (by decide) (fun M18 => ?_)
      exact tq_vret (E := E_M_newWalker d) (pc := 134) (cks_at k_M_newWalker 84 rfl rfl) rfl
    · exact tq_vret (E := E_M_newWalker d) (pc := 79) (cks_at k_M_newWalker 43 rfl rfl) rfl
  · exact tq_vret (E := E_M_newWalker d) (pc := 11) (cks_at k_M_newWalker 6 rfl rfl) rfl
abbrev E_M_statementTold (d : Nat) : Ev := (Ct (d + 7), "BreathTownModel", prog_14_method_24_code, 2, False, 0, (fun _ => 0), (Option.none : Option Jvm.ClassFile.FieldType))
def f_M_statementTold_J98 (M : Mm) : Option (Mm) :=
  bV (f_M_asksSign 59 M) (fun M11 =>
  bd (up M11 78 33 ((M11 78 33) + 1)) (fun M12 =>
  some M12))
set_option maxRecDepth 20000 in
set_option maxHeartbeats 4000000 in
theorem w_M_statementTold_J98 (d : Nat) (M : Mm) : T (E_M_statementTold d) injV 98 [(0, .ref 78)] [] M (f_M_statementTold_J98 M) := by
  unfold f_M_statementTold_J98
  refine tq_aload_n 0 (E := E_M_statementTold d) (pc := 98) (cks_at k_M_statementTold 49 rfl rfl) rfl ?_
  refine tq_bipush (E := E_M_statementTold d) (pc := 99) (cks_at k_M_statementTold 50 rfl rfl) (by decide) (by decide) ?_
  refine tq_V1 (E := E_M_statementTold d) (pc := 101) (cks_at k_M_statementTold 51 rfl rfl) mk_M_asksSign lk_M_338 rc_78 (Nat.le_of_ble_eq_true rfl) (c_M_asksSign (d + 4) 59 M) (k_V fun M11 => ?_)
  refine tq_aload_n 0 (E := E_M_statementTold d) (pc := 104) (cks_at k_M_statementTold 52 rfl rfl) rfl ?_
  refine tq_dup (E := E_M_statementTold d) (pc := 105) (cks_at k_M_statementTold 53 rfl rfl) rfl ?_
  refine tq_getI (E := E_M_statementTold d) (pc := 106) (cks_at k_M_statementTold 54 rfl rfl) fo_M_322 so_78 rfl (by decide) ?_
  refine tq_iconst (E := E_M_statementTold d) (pc := 109) (cks_at k_M_statementTold 55 rfl rfl) ?_
  refine tq_iadd (E := E_M_statementTold d) (pc := 110) (cks_at k_M_statementTold 56 rfl rfl) ?_
  refine tq_putI (E := E_M_statementTold d) (pc := 111) (cks_at k_M_statementTold 57 rfl rfl) fo_M_322 so_78 rfl po_12_33 (fun M12 => ?_)
  exact tq_vret (E := E_M_statementTold d) (pc := 114) (cks_at k_M_statementTold 58 rfl rfl) rfl
def f_M_statementTold (M : Mm) : Option (Mm) :=
  if ¬ i32 (M 78 33) = i32 70 then
    bI (f_M_takes 81 M) (fun r2 M1 =>
    if i32 r2 = 0 then
      bI (f_M_takes 82 M1) (fun r4 M3 =>
      if i32 r4 = 0 then
        bI (f_M_takes 89 M3) (fun r6 M5 =>
        if i32 r6 = 0 then
          bV (f_M_asks 92 M5) (fun M7 =>
          bI (f_M_number 0 999 M7) (fun r9 M8 =>
          bd (up M8 78 32 r9) (fun M10 =>
          f_M_statementTold_J98 M10)))
        else
          bV (f_M_newWalker (M 78 2) M5) (fun M13 =>
          f_M_statementTold_J98 M13))
      else
        bV (f_M_newStreet (M 78 2) M3) (fun M14 =>
        f_M_statementTold_J98 M14))
    else
      bV (f_M_newPlace (M 78 2) M1) (fun M15 =>
      f_M_statementTold_J98 M15))
  else
    bV (f_M_fail 5 (M 78 2) M) (fun M16 =>
    some M16)
set_option maxRecDepth 20000 in
set_option maxHeartbeats 4000000 in
theorem c_M_statementTold (d : Nat) (M : Mm) (Q : Option Value → Mm → Prop) (h : sat injV (f_M_statementTold M) Q) : Ct (d + 8) y_M_statementTold [.ref 78] M Q := by
  refine ct_in (d := d + 7) mk_M_statementTold (Nat.le_of_ble_eq_true rfl) (?_ : T (E_M_statementTold d) injV 0 [(0, .ref 78)] [] M (f_M_statementTold M)) h
  unfold f_M_statementTold
  refine tq_aload_n 0 (E := E_M_statementTold d) (pc := 0) (cks_at k_M_statementTold 0 rfl rfl) rfl ?_
  refine tq_getI (E := E_M_statementTold d) (pc := 1) (cks_at k_M_statementTold 1 rfl rfl) fo_M_231 so_78 rfl (by decide) ?_
  refine tq_istore_n (E := E_M_statementTold d) (pc := 4) (cks_at k_M_statementTold 2 rfl rfl) (show 1 < 2 by decide) rfl ?_
  refine tq_aload_n 1 (E := E_M_statementTold d) (pc := 5) (cks_at k_M_statementTold 3 rfl rfl) rfl ?_
  refine tq_getI (E := E_M_statementTold d) (pc := 6) (cks_at k_M_statementTold 4 rfl rfl) fo_M_322 so_78 rfl (by decide) ?_
  refine tq_bipush (E := E_M_statementTold d) (pc := 9) (cks_at k_M_statementTold 5 rfl rfl) (by decide) (by decide) ?_
  refine tq_icmp_ne (E := E_M_statementTold d) (pc := 11) (tgt := 21) (cks_at k_M_statementTold 6 rfl rfl) (by decide) ?_ ?_
  · refine tq_aload_n 1 (E := E_M_statementTold d) (pc := 21) (cks_at k_M_statementTold 12 rfl rfl) rfl ?_
    refine tq_aload_n 1 (E := E_M_statementTold d) (pc := 22) (cks_at k_M_statementTold 13 rfl rfl) rfl ?_
    refine tq_getR (j := 81) (E := E_M_statementTold d) (pc := 23) (cks_at k_M_statementTold 14 rfl rfl) fo_M_20 so_78 rfl sp_78_10 ?_
    refine tq_V1 (E := E_M_statementTold d) (pc := 26) (cks_at k_M_statementTold 15 rfl rfl) mk_M_takes lk_M_252 rc_78 (Nat.le_of_ble_eq_true rfl) (c_M_takes (d + 4) 81 sa_81 M) (k_I fun r2 M1 => ?_)
    refine tq_if_eq (E := E_M_statementTold d) (pc := 29) (tgt := 40) (cks_at k_M_statementTold 16 rfl rfl) (by decide) ?_ ?_
    · refine tq_aload_n 1 (E := E_M_statementTold d) (pc := 40) (cks_at k_M_statementTold 21 rfl rfl) rfl ?_
      refine tq_aload_n 1 (E := E_M_statementTold d) (pc := 41) (cks_at k_M_statementTold 22 rfl rfl) rfl ?_
      refine tq_getR (j := 82) (E := E_M_statementTold d) (pc := 42) (cks_at k_M_statementTold 23 rfl rfl) fo_M_24 so_78 rfl sp_78_11 ?_
      refine tq_V1 (E := E_M_statementTold d) (pc := 45) (cks_at k_M_statementTold 24 rfl rfl) mk_M_takes lk_M_252 rc_78 (Nat.le_of_ble_eq_true rfl) (c_M_takes (d + 4) 82 sa_82 M1) (k_I fun r4 M3 => ?_)
      refine tq_if_eq (E := E_M_statementTold d) (pc := 48) (tgt := 59) (cks_at k_M_statementTold 25 rfl rfl) (by decide) ?_ ?_
      · refine tq_aload_n 1 (E := E_M_statementTold d) (pc := 59) (cks_at k_M_statementTold 30 rfl rfl) rfl ?_
        refine tq_aload_n 1 (E := E_M_statementTold d) (pc := 60) (cks_at k_M_statementTold 31 rfl rfl) rfl ?_
        refine tq_getR (j := 89) (E := E_M_statementTold d) (pc := 61) (cks_at k_M_statementTold 32 rfl rfl) fo_M_45 so_78 rfl sp_78_18 ?_
        refine tq_V1 (E := E_M_statementTold d) (pc := 64) (cks_at k_M_statementTold 33 rfl rfl) mk_M_takes lk_M_252 rc_78 (Nat.le_of_ble_eq_true rfl) (c_M_takes (d + 4) 89 sa_89 M3) (k_I fun r6 M5 => ?_)
        refine tq_if_eq (E := E_M_statementTold d) (pc := 67) (tgt := 78) (cks_at k_M_statementTold 34 rfl rfl) (by decide) ?_ ?_
        · refine tq_aload_n 1 (E := E_M_statementTold d) (pc := 78) (cks_at k_M_statementTold 39 rfl rfl) rfl ?_
          refine tq_aload_n 1 (E := E_M_statementTold d) (pc := 79) (cks_at k_M_statementTold 40 rfl rfl) rfl ?_
          refine tq_getR (j := 92) (E := E_M_statementTold d) (pc := 80) (cks_at k_M_statementTold 41 rfl rfl) fo_M_54 so_78 rfl sp_78_21 ?_
          refine tq_V1 (E := E_M_statementTold d) (pc := 83) (cks_at k_M_statementTold 42 rfl rfl) mk_M_asks lk_M_295 rc_78 (Nat.le_of_ble_eq_true rfl) (c_M_asks (d + 3) 92 sa_92 M5) (k_V fun M7 => ?_)
          refine tq_aload_n 1 (E := E_M_statementTold d) (pc := 86) (cks_at k_M_statementTold 43 rfl rfl) rfl ?_
          refine tq_aload_n 1 (E := E_M_statementTold d) (pc := 87) (cks_at k_M_statementTold 44 rfl rfl) rfl ?_
          refine tq_iconst (E := E_M_statementTold d) (pc := 88) (cks_at k_M_statementTold 45 rfl rfl) ?_
          refine tq_sipush (E := E_M_statementTold d) (pc := 89) (cks_at k_M_statementTold 46 rfl rfl) (by decide) (by decide) ?_
          refine tq_V2 (E := E_M_statementTold d) (pc := 92) (cks_at k_M_statementTold 47 rfl rfl) mk_M_number lk_M_303 rc_78 (Nat.le_of_ble_eq_true rfl) (c_M_number (d + 5) 0 999 M7) (k_I fun r9 M8 => ?_)
          refine tq_putI (E := E_M_statementTold d) (pc := 95) (cks_at k_M_statementTold 48 rfl rfl) fo_M_335 so_78 rfl po_12_32 (fun M10 => ?_)
          exact tq_sub [1] rfl (w_M_statementTold_J98 d M10)
        · refine tq_aload_n 1 (E := E_M_statementTold d) (pc := 70) (cks_at k_M_statementTold 35 rfl rfl) rfl ?_
          refine tq_iload_n 0 (E := E_M_statementTold d) (pc := 71) (cks_at k_M_statementTold 36 rfl rfl) rfl ?_
          refine tq_V1 (E := E_M_statementTold d) (pc := 72) (cks_at k_M_statementTold 37 rfl rfl) mk_M_newWalker lk_M_332 rc_78 (Nat.le_of_ble_eq_true rfl) (c_M_newWalker (d + 1) (M 78 2) M5) (k_V fun M13 => ?_)
          refine tq_goto (tgt := 98) (E := E_M_statementTold d) (pc := 75) (cks_at k_M_statementTold 38 rfl rfl) (by decide) ?_
          exact tq_sub [1] rfl (w_M_statementTold_J98 d M13)
      · refine tq_aload_n 1 (E := E_M_statementTold d) (pc := 51) (cks_at k_M_statementTold 26 rfl rfl) rfl ?_
        refine tq_iload_n 0 (E := E_M_statementTold d) (pc := 52) (cks_at k_M_statementTold 27 rfl rfl) rfl ?_
        refine tq_V1 (E := E_M_statementTold d) (pc := 53) (cks_at k_M_statementTold 28 rfl rfl) mk_M_newStreet lk_M_329 rc_78 (Nat.le_of_ble_eq_true rfl) (c_M_newStreet (d + 0) (M 78 2) M3) (k_V fun M14 => ?_)
        refine tq_goto (tgt := 98) (E := E_M_statementTold d) (pc := 56) (cks_at k_M_statementTold 29 rfl rfl) (by decide) ?_
        exact tq_sub [1] rfl (w_M_statementTold_J98 d M14)
    · refine tq_aload_n 1 (E := E_M_statementTold d) (pc := 32) (cks_at k_M_statementTold 17 rfl rfl) rfl ?_
      refine tq_iload_n 0 (E := E_M_statementTold d) (pc := 33) (cks_at k_M_statementTold 18 rfl rfl) rfl ?_
      refine tq_V1 (E := E_M_statementTold d) (pc := 34) (cks_at k_M_statementTold 19 rfl rfl) mk_M_newPlace lk_M_325 rc_78 (Nat.le_of_ble_eq_true rfl) (c_M_newPlace (d + 1) (M 78 2) M1) (k_V fun M15 => ?_)
      refine tq_goto (tgt := 98) (E := E_M_statementTold d) (pc := 37) (cks_at k_M_statementTold 20 rfl rfl) (by decide) ?_
      exact tq_sub [1] rfl (w_M_statementTold_J98 d M15)
  · refine tq_aload_n 1 (E := E_M_statementTold d) (pc := 14) (cks_at k_M_statementTold 7 rfl rfl) rfl ?_
    refine tq_iconst (E := E_M_statementTold d) (pc := 15) (cks_at k_M_statementTold 8 rfl rfl) ?_
    refine tq_iload_n 0 (E := E_M_statementTold d) (pc := 16) (cks_at k_M_statementTold 9 rfl rfl) rfl ?_
    refine tq_V2 (E := E_M_statementTold d) (pc := 17) (cks_at k_M_statementTold 10 rfl rfl) mk_M_fail lk_M_255 rc_78 (Nat.le_of_ble_eq_true rfl) (c_M_fail (d + 6) 5 (M 78 2) M) (k_V fun M16 => ?_)
    exact tq_vret (E := E_M_statementTold d) (pc := 20) (cks_at k_M_statementTold 11 rfl rfl) rfl
abbrev E_M_stands (d : Nat) : Ev := (Ct (d + 0), "BreathTownModel", prog_14_method_26_code, 2, False, 0, (fun _ => 0), (Option.none : Option Jvm.ClassFile.FieldType))
def f_M_stands_B2 (kH : Int → Mm → Option (Mm)) (kx27 : Mm → Option (Mm)) (v1 : Int) (M : Mm) : Option (Mm) :=
  if i32 3 ≤ i32 v1 then
    kx27 M
  else
    gd (0 ≤ i32 v1 ∧ i32 v1 < ((6 : Nat) : Int)) <|
    gd (0 ≤ i32 (3 + v1) ∧ i32 (3 + v1) < ((6 : Nat) : Int)) <|
    bd (up M 98 (i32 (3 + v1)).toNat (M 98 (i32 v1).toNat)) (fun M1 =>
    kH (v1 + 1) M1)
set_option maxRecDepth 20000 in
set_option maxHeartbeats 4000000 in
theorem w_M_stands_B2 (d : Nat) (kH : Int → Mm → Option (Mm)) (kx27 : Mm → Option (Mm)) (hkH : ∀ (v1 : Int) (M : Mm), T (E_M_stands d) injV 2 [(0, .ref 78), (1, vI v1)] [] M (kH v1 M)) (hkx27 : ∀  (M : Mm), T (E_M_stands d) injV 27 [(0, .ref 78)] [] M (kx27 M)) (v1 : Int) (M : Mm) : T (E_M_stands d) injV 2 [(0, .ref 78), (1, vI v1)] [] M (f_M_stands_B2 kH kx27 v1 M) := by
  unfold f_M_stands_B2
  refine tq_iload_n 1 (E := E_M_stands d) (pc := 2) (cks_at k_M_stands 2 rfl rfl) rfl ?_
  refine tq_iconst (E := E_M_stands d) (pc := 3) (cks_at k_M_stands 3 rfl rfl) ?_
  refine tq_icmp_ge (E := E_M_stands d) (pc := 4) (tgt := 27) (cks_at k_M_stands 4 rfl rfl) (by decide) ?_ ?_
  · exact tq_sub [0] rfl (hkx27 M)
  · refine tq_aload_n 0 (E := E_M_stands d) (pc := 7) (cks_at k_M_stands 5 rfl rfl) rfl ?_
    refine tq_getR (j := 98) (E := E_M_stands d) (pc := 8) (cks_at k_M_stands 6 rfl rfl) fo_M_72 so_78 rfl sp_78_28 ?_
    refine tq_iconst (E := E_M_stands d) (pc := 11) (cks_at k_M_stands 7 rfl rfl) ?_
    refine tq_iload_n 1 (E := E_M_stands d) (pc := 12) (cks_at k_M_stands 8 rfl rfl) rfl ?_
    refine tq_iadd (E := E_M_stands d) (pc := 13) (cks_at k_M_stands 9 rfl rfl) ?_
    refine tq_aload_n 0 (E := E_M_stands d) (pc := 14) (cks_at k_M_stands 10 rfl rfl) rfl ?_
    refine tq_getR (j := 98) (E := E_M_stands d) (pc := 15) (cks_at k_M_stands 11 rfl rfl) fo_M_72 so_78 rfl sp_78_28 ?_
    refine tq_iload_n 1 (E := E_M_stands d) (pc := 18) (cks_at k_M_stands 12 rfl rfl) rfl ?_
    refine tq_iald (E := E_M_stands d) (pc := 19) (cks_at k_M_stands 13 rfl rfl) sa_98 sn_98 ?_
    refine tq_iast (E := E_M_stands d) (pc := 20) (cks_at k_M_stands 14 rfl rfl) sa_98 sn_98 (fun M1 => ?_)
    refine tq_iinc 1 (E := E_M_stands d) (pc := 21) (cks_at k_M_stands 15 rfl rfl) rfl (show 1 < 2 by decide) rfl ?_
    refine tq_goto (tgt := 2) (E := E_M_stands d) (pc := 24) (cks_at k_M_stands 16 rfl rfl) (by decide) ?_
    exact tq_sub [1, 0] rfl (hkH (v1 + 1) M1)
def f_M_stands_L2 (kx27 : Mm → Option (Mm)) : Nat → Int × Mm → Option (Mm) := lp fun kH s => f_M_stands_B2 (fun v1 M => kH (v1, M)) kx27 s.1 s.2
set_option maxRecDepth 20000 in
set_option maxHeartbeats 4000000 in
theorem w_M_stands_L2 (d : Nat) (kx27 : Mm → Option (Mm)) (hkx27 : ∀  (M : Mm), T (E_M_stands d) injV 27 [(0, .ref 78)] [] M (kx27 M)) (n : Nat) (s : Int × Mm) : T (E_M_stands d) injV 2 [(0, .ref 78), (1, vI s.1)] [] s.2 (f_M_stands_L2 kx27 n s) :=
  tq_lp (fun s => [(0, .ref 78), (1, vI s.1)]) (fun s => s.2) (fun kH hH s => w_M_stands_B2 d (fun v1 M => kH (v1, M)) kx27 (fun v1 M => hH (v1, M)) hkx27 s.1 s.2) n s
def f_M_stands_B29 (kH : Int → Mm → Option (Mm)) (kx56 : Mm → Option (Mm)) (v1 : Int) (M : Mm) : Option (Mm) :=
  if i32 36 ≤ i32 v1 then
    kx56 M
  else
    gd (0 ≤ i32 v1 ∧ i32 v1 < ((72 : Nat) : Int)) <|
    gd (0 ≤ i32 (36 + v1) ∧ i32 (36 + v1) < ((72 : Nat) : Int)) <|
    bd (up M 99 (i32 (36 + v1)).toNat (M 99 (i32 v1).toNat)) (fun M3 =>
    kH (v1 + 1) M3)
set_option maxRecDepth 20000 in
set_option maxHeartbeats 4000000 in
theorem w_M_stands_B29 (d : Nat) (kH : Int → Mm → Option (Mm)) (kx56 : Mm → Option (Mm)) (hkH : ∀ (v1 : Int) (M : Mm), T (E_M_stands d) injV 29 [(0, .ref 78), (1, vI v1)] [] M (kH v1 M)) (hkx56 : ∀  (M : Mm), T (E_M_stands d) injV 56 [(0, .ref 78)] [] M (kx56 M)) (v1 : Int) (M : Mm) : T (E_M_stands d) injV 29 [(0, .ref 78), (1, vI v1)] [] M (f_M_stands_B29 kH kx56 v1 M) := by
  unfold f_M_stands_B29
  refine tq_iload_n 1 (E := E_M_stands d) (pc := 29) (cks_at k_M_stands 19 rfl rfl) rfl ?_
  refine tq_bipush (E := E_M_stands d) (pc := 30) (cks_at k_M_stands 20 rfl rfl) (by decide) (by decide) ?_
  refine tq_icmp_ge (E := E_M_stands d) (pc := 32) (tgt := 56) (cks_at k_M_stands 21 rfl rfl) (by decide) ?_ ?_
  · exact tq_sub [0] rfl (hkx56 M)
  · refine tq_aload_n 0 (E := E_M_stands d) (pc := 35) (cks_at k_M_stands 22 rfl rfl) rfl ?_
    refine tq_getR (j := 99) (E := E_M_stands d) (pc := 36) (cks_at k_M_stands 23 rfl rfl) fo_M_75 so_78 rfl sp_78_29 ?_
    refine tq_bipush (E := E_M_stands d) (pc := 39) (cks_at k_M_stands 24 rfl rfl) (by decide) (by decide) ?_
    refine tq_iload_n 1 (E := E_M_stands d) (pc := 41) (cks_at k_M_stands 25 rfl rfl) rfl ?_
    refine tq_iadd (E := E_M_stands d) (pc := 42) (cks_at k_M_stands 26 rfl rfl) ?_
    refine tq_aload_n 0 (E := E_M_stands d) (pc := 43) (cks_at k_M_stands 27 rfl rfl) rfl ?_
    refine tq_getR (j := 99) (E := E_M_stands d) (pc := 44) (cks_at k_M_stands 28 rfl rfl) fo_M_75 so_78 rfl sp_78_29 ?_
    refine tq_iload_n 1 (E := E_M_stands d) (pc := 47) (cks_at k_M_stands 29 rfl rfl) rfl ?_
    refine tq_lald (E := E_M_stands d) (pc := 48) (cks_at k_M_stands 30 rfl rfl) sa_99 sn_99 ?_
    refine tq_last (E := E_M_stands d) (pc := 49) (cks_at k_M_stands 31 rfl rfl) sa_99 sn_99 (fun M3 => ?_)
    refine tq_iinc 1 (E := E_M_stands d) (pc := 50) (cks_at k_M_stands 32 rfl rfl) rfl (show 1 < 2 by decide) rfl ?_
    refine tq_goto (tgt := 29) (E := E_M_stands d) (pc := 53) (cks_at k_M_stands 33 rfl rfl) (by decide) ?_
    exact tq_sub [1, 0] rfl (hkH (v1 + 1) M3)
def f_M_stands_L29 (kx56 : Mm → Option (Mm)) : Nat → Int × Mm → Option (Mm) := lp fun kH s => f_M_stands_B29 (fun v1 M => kH (v1, M)) kx56 s.1 s.2
set_option maxRecDepth 20000 in
set_option maxHeartbeats 4000000 in
theorem w_M_stands_L29 (d : Nat) (kx56 : Mm → Option (Mm)) (hkx56 : ∀  (M : Mm), T (E_M_stands d) injV 56 [(0, .ref 78)] [] M (kx56 M)) (n : Nat) (s : Int × Mm) : T (E_M_stands d) injV 29 [(0, .ref 78), (1, vI s.1)] [] s.2 (f_M_stands_L29 kx56 n s) :=
  tq_lp (fun s => [(0, .ref 78), (1, vI s.1)]) (fun s => s.2) (fun kH hH s => w_M_stands_B29 d (fun v1 M => kH (v1, M)) kx56 (fun v1 M => hH (v1, M)) hkx56 s.1 s.2) n s
def f_M_stands_B58 (kH : Int → Mm → Option (Mm)) (kx85 : Mm → Option (Mm)) (v1 : Int) (M : Mm) : Option (Mm) :=
  if i32 60 ≤ i32 v1 then
    kx85 M
  else
    gd (0 ≤ i32 v1 ∧ i32 v1 < ((120 : Nat) : Int)) <|
    gd (0 ≤ i32 (60 + v1) ∧ i32 (60 + v1) < ((120 : Nat) : Int)) <|
    bd (up M 100 (i32 (60 + v1)).toNat (M 100 (i32 v1).toNat)) (fun M5 =>
    kH (v1 + 1) M5)
set_option maxRecDepth 20000 in
set_option maxHeartbeats 4000000 in
theorem w_M_stands_B58 (d : Nat) (kH : Int → Mm → Option (Mm)) (kx85 : Mm → Option (Mm)) (hkH : ∀ (v1 : Int) (M : Mm), T (E_M_stands d) injV 58 [(0, .ref 78), (1, vI v1)] [] M (kH v1 M)) (hkx85 : ∀  (M : Mm), T (E_M_stands d) injV 85 [(0, .ref 78)] [] M (kx85 M)) (v1 : Int) (M : Mm) : T (E_M_stands d) injV 58 [(0, .ref 78), (1, vI v1)] [] M (f_M_stands_B58 kH kx85 v1 M) := by
  unfold f_M_stands_B58
  refine tq_iload_n 1 (E := E_M_stands d) (pc := 58) (cks_at k_M_stands 36 rfl rfl) rfl ?_
  refine tq_bipush (E := E_M_stands d) (pc := 59) (cks_at k_M_stands 37 rfl rfl) (by decide) (by decide) ?_
  refine tq_icmp_ge (E := E_M_stands d) (pc := 61) (tgt := 85) (cks_at k_M_stands 38 rfl rfl) (by decide) ?_ ?_
  · exact tq_sub [0] rfl (hkx85 M)
  · refine tq_aload_n 0 (E := E_M_stands d) (pc := 64) (cks_at k_M_stands 39 rfl rfl) rfl ?_
    refine tq_getR (j := 100) (E := E_M_stands d) (pc := 65) (cks_at k_M_stands 40 rfl rfl) fo_M_79 so_78 rfl sp_78_30 ?_
    refine tq_bipush (E := E_M_stands d) (pc := 68) (cks_at k_M_stands 41 rfl rfl) (by decide) (by decide) ?_
    refine tq_iload_n 1 (E := E_M_stands d) (pc := 70) (cks_at k_M_stands 42 rfl rfl) rfl ?_
    refine tq_iadd (E := E_M_stands d) (pc := 71) (cks_at k_M_stands 43 rfl rfl) ?_
    refine tq_aload_n 0 (E := E_M_stands d) (pc := 72) (cks_at k_M_stands 44 rfl rfl) rfl ?_
    refine tq_getR (j := 100) (E := E_M_stands d) (pc := 73) (cks_at k_M_stands 45 rfl rfl) fo_M_79 so_78 rfl sp_78_30 ?_
    refine tq_iload_n 1 (E := E_M_stands d) (pc := 76) (cks_at k_M_stands 46 rfl rfl) rfl ?_
    refine tq_iald (E := E_M_stands d) (pc := 77) (cks_at k_M_stands 47 rfl rfl) sa_100 sn_100 ?_
    refine tq_iast (E := E_M_stands d) (pc := 78) (cks_at k_M_stands 48 rfl rfl) sa_100 sn_100 (fun M5 => ?_)
    refine tq_iinc 1 (E := E_M_stands d) (pc := 79) (cks_at k_M_stands 49 rfl rfl) rfl (show 1 < 2 by decide) rfl ?_
    refine tq_goto (tgt := 58) (E := E_M_stands d) (pc := 82) (cks_at k_M_stands 50 rfl rfl) (by decide) ?_
    exact tq_sub [1, 0] rfl (hkH (v1 + 1) M5)
def f_M_stands_L58 (kx85 : Mm → Option (Mm)) : Nat → Int × Mm → Option (Mm) := lp fun kH s => f_M_stands_B58 (fun v1 M => kH (v1, M)) kx85 s.1 s.2
set_option maxRecDepth 20000 in
set_option maxHeartbeats 4000000 in
theorem w_M_stands_L58 (d : Nat) (kx85 : Mm → Option (Mm)) (hkx85 : ∀  (M : Mm), T (E_M_stands d) injV 85 [(0, .ref 78)] [] M (kx85 M)) (n : Nat) (s : Int × Mm) : T (E_M_stands d) injV 58 [(0, .ref 78), (1, vI s.1)] [] s.2 (f_M_stands_L58 kx85 n s) :=
  tq_lp (fun s => [(0, .ref 78), (1, vI s.1)]) (fun s => s.2) (fun kH hH s => w_M_stands_B58 d (fun v1 M => kH (v1, M)) kx85 (fun v1 M => hH (v1, M)) hkx85 s.1 s.2) n s
def f_M_stands_B87 (kH : Int → Mm → Option (Mm)) (kx114 : Mm → Option (Mm)) (v1 : Int) (M : Mm) : Option (Mm) :=
  if i32 18 ≤ i32 v1 then
    kx114 M
  else
    gd (0 ≤ i32 v1 ∧ i32 v1 < ((36 : Nat) : Int)) <|
    gd (0 ≤ i32 (18 + v1) ∧ i32 (18 + v1) < ((36 : Nat) : Int)) <|
    bd (up M 101 (i32 (18 + v1)).toNat (M 101 (i32 v1).toNat)) (fun M7 =>
    kH (v1 + 1) M7)
set_option maxRecDepth 20000 in
set_option maxHeartbeats 4000000 in
theorem w_M_stands_B87 (d : Nat) (kH : Int → Mm → Option (Mm)) (kx114 : Mm → Option (Mm)) (hkH : ∀ (v1 : Int) (M : Mm), T (E_M_stands d) injV 87 [(0, .ref 78), (1, vI v1)] [] M (kH v1 M)) (hkx114 : ∀  (M : Mm), T (E_M_stands d) injV 114 [(0, .ref 78)] [] M (kx114 M)) (v1 : Int) (M : Mm) : T (E_M_stands d) injV 87 [(0, .ref 78), (1, vI v1)] [] M (f_M_stands_B87 kH kx114 v1 M) := by
  unfold f_M_stands_B87
  refine tq_iload_n 1 (E := E_M_stands d) (pc := 87) (cks_at k_M_stands 53 rfl rfl) rfl ?_
  refine tq_bipush (E := E_M_stands d) (pc := 88) (cks_at k_M_stands 54 rfl rfl) (by decide) (by decide) ?_
  refine tq_icmp_ge (E := E_M_stands d) (pc := 90) (tgt := 114) (cks_at k_M_stands 55 rfl rfl) (by decide) ?_ ?_
  · exact tq_sub [0] rfl (hkx114 M)
  · refine tq_aload_n 0 (E := E_M_stands d) (pc := 93) (cks_at k_M_stands 56 rfl rfl) rfl ?_
    refine tq_getR (j := 101) (E := E_M_stands d) (pc := 94) (cks_at k_M_stands 57 rfl rfl) fo_M_82 so_78 rfl sp_78_31 ?_
    refine tq_bipush (E := E_M_stands d) (pc := 97) (cks_at k_M_stands 58 rfl rfl) (by decide) (by decide) ?_
    refine tq_iload_n 1 (E := E_M_stands d) (pc := 99) (cks_at k_M_stands 59 rfl rfl) rfl ?_
    refine tq_iadd (E := E_M_stands d) (pc := 100) (cks_at k_M_stands 60 rfl rfl) ?_
    refine tq_aload_n 0 (E := E_M_stands d) (pc := 101) (cks_at k_M_stands 61 rfl rfl) rfl ?_
    refine tq_getR (j := 101) (E := E_M_stands d) (pc := 102) (cks_at k_M_stands 62 rfl rfl) fo_M_82 so_78 rfl sp_78_31 ?_
    refine tq_iload_n 1 (E := E_M_stands d) (pc := 105) (cks_at k_M_stands 63 rfl rfl) rfl ?_
    refine tq_iald (E := E_M_stands d) (pc := 106) (cks_at k_M_stands 64 rfl rfl) sa_101 sn_101 ?_
    refine tq_iast (E := E_M_stands d) (pc := 107) (cks_at k_M_stands 65 rfl rfl) sa_101 sn_101 (fun M7 => ?_)
    refine tq_iinc 1 (E := E_M_stands d) (pc := 108) (cks_at k_M_stands 66 rfl rfl) rfl (show 1 < 2 by decide) rfl ?_
    refine tq_goto (tgt := 87) (E := E_M_stands d) (pc := 111) (cks_at k_M_stands 67 rfl rfl) (by decide) ?_
    exact tq_sub [1, 0] rfl (hkH (v1 + 1) M7)
def f_M_stands_L87 (kx114 : Mm → Option (Mm)) : Nat → Int × Mm → Option (Mm) := lp fun kH s => f_M_stands_B87 (fun v1 M => kH (v1, M)) kx114 s.1 s.2
set_option maxRecDepth 20000 in
set_option maxHeartbeats 4000000 in
theorem w_M_stands_L87 (d : Nat) (kx114 : Mm → Option (Mm)) (hkx114 : ∀  (M : Mm), T (E_M_stands d) injV 114 [(0, .ref 78)] [] M (kx114 M)) (n : Nat) (s : Int × Mm) : T (E_M_stands d) injV 87 [(0, .ref 78), (1, vI s.1)] [] s.2 (f_M_stands_L87 kx114 n s) :=
  tq_lp (fun s => [(0, .ref 78), (1, vI s.1)]) (fun s => s.2) (fun kH hH s => w_M_stands_B87 d (fun v1 M => kH (v1, M)) kx114 (fun v1 M => hH (v1, M)) hkx114 s.1 s.2) n s
def f_M_stands_B116 (kH : Int → Mm → Option (Mm)) (kx158 : Mm → Option (Mm)) (v1 : Int) (M : Mm) : Option (Mm) :=
  if i32 12 ≤ i32 v1 then
    kx158 M
  else
    gd (0 ≤ i32 v1 ∧ i32 v1 < ((24 : Nat) : Int)) <|
    gd (0 ≤ i32 (12 + v1) ∧ i32 (12 + v1) < ((24 : Nat) : Int)) <|
    bd (up M 104 (i32 (12 + v1)).toNat (M 104 (i32 v1).toNat)) (fun M9 =>
    gd (0 ≤ i32 v1 ∧ i32 v1 < ((24 : Nat) : Int)) <|
    gd (0 ≤ i32 (12 + v1) ∧ i32 (12 + v1) < ((24 : Nat) : Int)) <|
    bd (up M9 105 (i32 (12 + v1)).toNat (M9 105 (i32 v1).toNat)) (fun M10 =>
    kH (v1 + 1) M10))
set_option maxRecDepth 20000 in
set_option maxHeartbeats 4000000 in
theorem w_M_stands_B116 (d : Nat) (kH : Int → Mm → Option (Mm)) (kx158 : Mm → Option (Mm)) (hkH : ∀ (v1 : Int) (M : Mm), T (E_M_stands d) injV 116 [(0, .ref 78), (1, vI v1)] [] M (kH v1 M)) (hkx158 : ∀  (M : Mm), T (E_M_stands d) injV 158 [(0, .ref 78)] [] M (kx158 M)) (v1 : Int) (M : Mm) : T (E_M_stands d) injV 116 [(0, .ref 78), (1, vI v1)] [] M (f_M_stands_B116 kH kx158 v1 M) := by
  unfold f_M_stands_B116
  refine tq_iload_n 1 (E := E_M_stands d) (pc := 116) (cks_at k_M_stands 70 rfl rfl) rfl ?_
  refine tq_bipush (E := E_M_stands d) (pc := 117) (cks_at k_M_stands 71 rfl rfl) (by decide) (by decide) ?_
  refine tq_icmp_ge (E := E_M_stands d) (pc := 119) (tgt := 158) (cks_at k_M_stands 72 rfl rfl) (by decide) ?_ ?_
  · exact tq_sub [0] rfl (hkx158 M)
  · refine tq_aload_n 0 (E := E_M_stands d) (pc := 122) (cks_at k_M_stands 73 rfl rfl) rfl ?_
    refine tq_getR (j := 104) (E := E_M_stands d) (pc := 123) (cks_at k_M_stands 74 rfl rfl) fo_M_91 so_78 rfl sp_78_39 ?_
    refine tq_bipush (E := E_M_stands d) (pc := 126) (cks_at k_M_stands 75 rfl rfl) (by decide) (by decide) ?_
    refine tq_iload_n 1 (E := E_M_stands d) (pc := 128) (cks_at k_M_stands 76 rfl rfl) rfl ?_
    refine tq_iadd (E := E_M_stands d) (pc := 129) (cks_at k_M_stands 77 rfl rfl) ?_
    refine tq_aload_n 0 (E := E_M_stands d) (pc := 130) (cks_at k_M_stands 78 rfl rfl) rfl ?_
    refine tq_getR (j := 104) (E := E_M_stands d) (pc := 131) (cks_at k_M_stands 79 rfl rfl) fo_M_91 so_78 rfl sp_78_39 ?_
    refine tq_iload_n 1 (E := E_M_stands d) (pc := 134) (cks_at k_M_stands 80 rfl rfl) rfl ?_
    refine tq_iald (E := E_M_stands d) (pc := 135) (cks_at k_M_stands 81 rfl rfl) sa_104 sn_104 ?_
    refine tq_iast (E := E_M_stands d) (pc := 136) (cks_at k_M_stands 82 rfl rfl) sa_104 sn_104 (fun M9 => ?_)
    refine tq_aload_n 0 (E := E_M_stands d) (pc := 137) (cks_at k_M_stands 83 rfl rfl) rfl ?_
    refine tq_getR (j := 105) (E := E_M_stands d) (pc := 138) (cks_at k_M_stands 84 rfl rfl) fo_M_94 so_78 rfl sp_78_40 ?_
    refine tq_bipush (E := E_M_stands d) (pc := 141) (cks_at k_M_stands 85 rfl rfl) (by decide) (by decide) ?_
    refine tq_iload_n 1 (E := E_M_stands d) (pc := 143) (cks_at k_M_stands 86 rfl rfl) rfl ?_
    refine tq_iadd (E := E_M_stands d) (pc := 144) (cks_at k_M_stands 87 rfl rfl) ?_
    refine tq_aload_n 0 (E := E_M_stands d) (pc := 145) (cks_at k_M_stands 88 rfl rfl) rfl ?_
    refine tq_getR (j := 105) (E := E_M_stands d) (pc := 146) (cks_at k_M_stands 89 rfl rfl) fo_M_94 so_78 rfl sp_78_40 ?_
    refine tq_iload_n 1 (E := E_M_stands d) (pc := 149) (cks_at k_M_stands 90 rfl rfl) rfl ?_
    refine tq_iald (E := E_M_stands d) (pc := 150) (cks_at k_M_stands 91 rfl rfl) sa_105 sn_105 ?_
    refine tq_iast (E := E_M_stands d) (pc := 151) (cks_at k_M_stands 92 rfl rfl) sa_105 sn_105 (fun M10 => ?_)
    refine tq_iinc 1 (E := E_M_stands d) (pc := 152) (cks_at k_M_stands 93 rfl rfl) rfl (show 1 < 2 by decide) rfl ?_
    refine tq_goto (tgt := 116) (E := E_M_stands d) (pc := 155) (cks_at k_M_stands 94 rfl rfl) (by decide) ?_
    exact tq_sub [1, 0] rfl (hkH (v1 + 1) M10)
def f_M_stands_L116 (kx158 : Mm → Option (Mm)) : Nat → Int × Mm → Option (Mm) := lp fun kH s => f_M_stands_B116 (fun v1 M => kH (v1, M)) kx158 s.1 s.2
set_option maxRecDepth 20000 in
set_option maxHeartbeats 4000000 in
theorem w_M_stands_L116 (d : Nat) (kx158 : Mm → Option (Mm)) (hkx158 : ∀  (M : Mm), T (E_M_stands d) injV 158 [(0, .ref 78)] [] M (kx158 M)) (n : Nat) (s : Int × Mm) : T (E_M_stands d) injV 116 [(0, .ref 78), (1, vI s.1)] [] s.2 (f_M_stands_L116 kx158 n s) :=
  tq_lp (fun s => [(0, .ref 78), (1, vI s.1)]) (fun s => s.2) (fun kH hH s => w_M_stands_B116 d (fun v1 M => kH (v1, M)) kx158 (fun v1 M => hH (v1, M)) hkx158 s.1 s.2) n s
def f_M_stands_B160 (kH : Int → Mm → Option (Mm)) (kx190 : Mm → Option (Mm)) (v1 : Int) (M : Mm) : Option (Mm) :=
  if i32 (M 78 35) ≤ i32 v1 then
    kx190 M
  else
    gd (0 ≤ i32 v1 ∧ i32 v1 < ((3200 : Nat) : Int)) <|
    gd (0 ≤ i32 (1600 + v1) ∧ i32 (1600 + v1) < ((3200 : Nat) : Int)) <|
    bd (up M 102 (i32 (1600 + v1)).toNat (M 102 (i32 v1).toNat)) (fun M12 =>
    kH (v1 + 1) M12)
set_option maxRecDepth 20000 in
set_option maxHeartbeats 4000000 in
theorem w_M_stands_B160 (d : Nat) (kH : Int → Mm → Option (Mm)) (kx190 : Mm → Option (Mm)) (hkH : ∀ (v1 : Int) (M : Mm), T (E_M_stands d) injV 160 [(0, .ref 78), (1, vI v1)] [] M (kH v1 M)) (hkx190 : ∀  (M : Mm), T (E_M_stands d) injV 190 [(0, .ref 78)] [] M (kx190 M)) (v1 : Int) (M : Mm) : T (E_M_stands d) injV 160 [(0, .ref 78), (1, vI v1)] [] M (f_M_stands_B160 kH kx190 v1 M) := by
  unfold f_M_stands_B160
  refine tq_iload_n 1 (E := E_M_stands d) (pc := 160) (cks_at k_M_stands 97 rfl rfl) rfl ?_
  refine tq_aload_n 0 (E := E_M_stands d) (pc := 161) (cks_at k_M_stands 98 rfl rfl) rfl ?_
  refine tq_getI (E := E_M_stands d) (pc := 162) (cks_at k_M_stands 99 rfl rfl) fo_M_307 so_78 rfl (by decide) ?_
  refine tq_icmp_ge (E := E_M_stands d) (pc := 165) (tgt := 190) (cks_at k_M_stands 100 rfl rfl) (by decide) ?_ ?_
  · exact tq_sub [0] rfl (hkx190 M)
  · refine tq_aload_n 0 (E := E_M_stands d) (pc := 168) (cks_at k_M_stands 101 rfl rfl) rfl ?_
    refine tq_getR (j := 102) (E := E_M_stands d) (pc := 169) (cks_at k_M_stands 102 rfl rfl) fo_M_85 so_78 rfl sp_78_34 ?_
    refine tq_sipush (E := E_M_stands d) (pc := 172) (cks_at k_M_stands 103 rfl rfl) (by decide) (by decide) ?_
    refine tq_iload_n 1 (E := E_M_stands d) (pc := 175) (cks_at k_M_stands 104 rfl rfl) rfl ?_
    refine tq_iadd (E := E_M_stands d) (pc := 176) (cks_at k_M_stands 105 rfl rfl) ?_
    refine tq_aload_n 0 (E := E_M_stands d) (pc := 177) (cks_at k_M_stands 106 rfl rfl) rfl ?_
    refine tq_getR (j := 102) (E := E_M_stands d) (pc := 178) (cks_at k_M_stands 107 rfl rfl) fo_M_85 so_78 rfl sp_78_34 ?_
    refine tq_iload_n 1 (E := E_M_stands d) (pc := 181) (cks_at k_M_stands 108 rfl rfl) rfl ?_
    refine tq_iald (E := E_M_stands d) (pc := 182) (cks_at k_M_stands 109 rfl rfl) sa_102 sn_102 ?_
    refine tq_iast (E := E_M_stands d) (pc := 183) (cks_at k_M_stands 110 rfl rfl) sa_102 sn_102 (fun M12 => ?_)
    refine tq_iinc 1 (E := E_M_stands d) (pc := 184) (cks_at k_M_stands 111 rfl rfl) rfl (show 1 < 2 by decide) rfl ?_
    refine tq_goto (tgt := 160) (E := E_M_stands d) (pc := 187) (cks_at k_M_stands 112 rfl rfl) (by decide) ?_
    exact tq_sub [1, 0] rfl (hkH (v1 + 1) M12)
def f_M_stands_L160 (kx190 : Mm → Option (Mm)) : Nat → Int × Mm → Option (Mm) := lp fun kH s => f_M_stands_B160 (fun v1 M => kH (v1, M)) kx190 s.1 s.2
set_option maxRecDepth 20000 in
set_option maxHeartbeats 4000000 in
theorem w_M_stands_L160 (d : Nat) (kx190 : Mm → Option (Mm)) (hkx190 : ∀  (M : Mm), T (E_M_stands d) injV 190 [(0, .ref 78)] [] M (kx190 M)) (n : Nat) (s : Int × Mm) : T (E_M_stands d) injV 160 [(0, .ref 78), (1, vI s.1)] [] s.2 (f_M_stands_L160 kx190 n s) :=
  tq_lp (fun s => [(0, .ref 78), (1, vI s.1)]) (fun s => s.2) (fun kH hH s => w_M_stands_B160 d (fun v1 M => kH (v1, M)) kx190 (fun v1 M => hH (v1, M)) hkx190 s.1 s.2) n s
def f_M_stands_B192 (kH : Int → Mm → Option (Mm)) (kx211 : Mm → Option (Mm)) (v1 : Int) (M : Mm) : Option (Mm) :=
  if i32 31 ≤ i32 v1 then
    kx211 M
  else
    gd (0 ≤ i32 v1 ∧ i32 v1 < ((31 : Nat) : Int)) <|
    bd (up M 108 (i32 v1).toNat 0) (fun M14 =>
    kH (v1 + 1) M14)
set_option maxRecDepth 20000 in
set_option maxHeartbeats 4000000 in
theorem w_M_stands_B192 (d : Nat) (kH : Int → Mm → Option (Mm)) (kx211 : Mm → Option (Mm)) (hkH : ∀ (v1 : Int) (M : Mm), T (E_M_stands d) injV 192 [(0, .ref 78), (1, vI v1)] [] M (kH v1 M)) (hkx211 : ∀  (M : Mm), T (E_M_stands d) injV 211 [(0, .ref 78)] [] M (kx211 M)) (v1 : Int) (M : Mm) : T (E_M_stands d) injV 192 [(0, .ref 78), (1, vI v1)] [] M (f_M_stands_B192 kH kx211 v1 M) := by
  unfold f_M_stands_B192
  refine tq_iload_n 1 (E := E_M_stands d) (pc := 192) (cks_at k_M_stands 115 rfl rfl) rfl ?_
  refine tq_bipush (E := E_M_stands d) (pc := 193) (cks_at k_M_stands 116 rfl rfl) (by decide) (by decide) ?_
  refine tq_icmp_ge (E := E_M_stands d) (pc := 195) (tgt := 211) (cks_at k_M_stands 117 rfl rfl) (by decide) ?_ ?_
  · exact tq_sub [0] rfl (hkx211 M)
  · refine tq_aload_n 0 (E := E_M_stands d) (pc := 198) (cks_at k_M_stands 118 rfl rfl) rfl ?_
    refine tq_getR (j := 108) (E := E_M_stands d) (pc := 199) (cks_at k_M_stands 119 rfl rfl) fo_M_103 so_78 rfl sp_78_45 ?_
    refine tq_iload_n 1 (E := E_M_stands d) (pc := 202) (cks_at k_M_stands 120 rfl rfl) rfl ?_
    refine tq_iconst (E := E_M_stands d) (pc := 203) (cks_at k_M_stands 121 rfl rfl) ?_
    refine tq_iast (E := E_M_stands d) (pc := 204) (cks_at k_M_stands 122 rfl rfl) sa_108 sn_108 (fun M14 => ?_)
    refine tq_iinc 1 (E := E_M_stands d) (pc := 205) (cks_at k_M_stands 123 rfl rfl) rfl (show 1 < 2 by decide) rfl ?_
    refine tq_goto (tgt := 192) (E := E_M_stands d) (pc := 208) (cks_at k_M_stands 124 rfl rfl) (by decide) ?_
    exact tq_sub [1, 0] rfl (hkH (v1 + 1) M14)
def f_M_stands_L192 (kx211 : Mm → Option (Mm)) : Nat → Int × Mm → Option (Mm) := lp fun kH s => f_M_stands_B192 (fun v1 M => kH (v1, M)) kx211 s.1 s.2
set_option maxRecDepth 20000 in
set_option maxHeartbeats 4000000 in
theorem w_M_stands_L192 (d : Nat) (kx211 : Mm → Option (Mm)) (hkx211 : ∀  (M : Mm), T (E_M_stands d) injV 211 [(0, .ref 78)] [] M (kx211 M)) (n : Nat) (s : Int × Mm) : T (E_M_stands d) injV 192 [(0, .ref 78), (1, vI s.1)] [] s.2 (f_M_stands_L192 kx211 n s) :=
  tq_lp (fun s => [(0, .ref 78), (1, vI s.1)]) (fun s => s.2) (fun kH hH s => w_M_stands_B192 d (fun v1 M => kH (v1, M)) kx211 (fun v1 M => hH (v1, M)) hkx211 s.1 s.2) n s
def f_M_stands_B223 (kH : Int → Mm → Option (Mm)) (kx257 : Mm → Option (Mm)) (v1 : Int) (M : Mm) : Option (Mm) :=
  if i32 (M 98 1) ≤ i32 v1 then
    kx257 M
  else
    gd (0 ≤ i32 ((5 * v1) + 4) ∧ i32 ((5 * v1) + 4) < ((120 : Nat) : Int)) <|
    gd (0 ≤ i32 (1 + v1) ∧ i32 (1 + v1) < ((31 : Nat) : Int)) <|
    bd (up M 108 (i32 (1 + v1)).toNat (M 100 (i32 ((5 * v1) + 4)).toNat)) (fun M17 =>
    kH (v1 + 1) M17)
set_option maxRecDepth 20000 in
set_option maxHeartbeats 4000000 in
theorem w_M_stands_B223 (d : Nat) (kH : Int → Mm → Option (Mm)) (kx257 : Mm → Option (Mm)) (hkH : ∀ (v1 : Int) (M : Mm), T (E_M_stands d) injV 223 [(0, .ref 78), (1, vI v1)] [] M (kH v1 M)) (hkx257 : ∀  (M : Mm), T (E_M_stands d) injV 257 [(0, .ref 78)] [] M (kx257 M)) (v1 : Int) (M : Mm) : T (E_M_stands d) injV 223 [(0, .ref 78), (1, vI v1)] [] M (f_M_stands_B223 kH kx257 v1 M) := by
  unfold f_M_stands_B223
  refine tq_iload_n 1 (E := E_M_stands d) (pc := 223) (cks_at k_M_stands 133 rfl rfl) rfl ?_
  refine tq_aload_n 0 (E := E_M_stands d) (pc := 224) (cks_at k_M_stands 134 rfl rfl) rfl ?_
  refine tq_getR (j := 98) (E := E_M_stands d) (pc := 225) (cks_at k_M_stands 135 rfl rfl) fo_M_72 so_78 rfl sp_78_28 ?_
  refine tq_iconst (E := E_M_stands d) (pc := 228) (cks_at k_M_stands 136 rfl rfl) ?_
  refine tq_ialdC 1 (E := E_M_stands d) (pc := 229) (cks_at k_M_stands 137 rfl rfl) sa_98 sn_98 (by decide) ?_
  refine tq_icmp_ge (E := E_M_stands d) (pc := 230) (tgt := 257) (cks_at k_M_stands 138 rfl rfl) (by decide) ?_ ?_
  · exact tq_sub [0] rfl (hkx257 M)
  · refine tq_aload_n 0 (E := E_M_stands d) (pc := 233) (cks_at k_M_stands 139 rfl rfl) rfl ?_
    refine tq_getR (j := 108) (E := E_M_stands d) (pc := 234) (cks_at k_M_stands 140 rfl rfl) fo_M_103 so_78 rfl sp_78_45 ?_
    refine tq_iconst (E := E_M_stands d) (pc := 237) (cks_at k_M_stands 141 rfl rfl) ?_
    refine tq_iload_n 1 (E := E_M_stands d) (pc := 238) (cks_at k_M_stands 142 rfl rfl) rfl ?_
    refine tq_iadd (E := E_M_stands d) (pc := 239) (cks_at k_M_stands 143 rfl rfl) ?_
    refine tq_aload_n 0 (E := E_M_stands d) (pc := 240) (cks_at k_M_stands 144 rfl rfl) rfl ?_
    refine tq_getR (j := 100) (E := E_M_stands d) (pc := 241) (cks_at k_M_stands 145 rfl rfl) fo_M_79 so_78 rfl sp_78_30 ?_
    refine tq_iconst (E := E_M_stands d) (pc := 244) (cks_at k_M_stands 146 rfl rfl) ?_
    refine tq_iload_n 1 (E := E_M_stands d) (pc := 245) (cks_at k_M_stands 147 rfl rfl) rfl ?_
    refine tq_imul (E := E_M_stands d) (pc := 246) (cks_at k_M_stands 148 rfl rfl) ?_
    refine tq_iconst (E := E_M_stands d) (pc := 247) (cks_at k_M_stands 149 rfl rfl) ?_
    refine tq_iadd (E := E_M_stands d) (pc := 248) (cks_at k_M_stands 150 rfl rfl) ?_
    refine tq_iald (E := E_M_stands d) (pc := 249) (cks_at k_M_stands 151 rfl rfl) sa_100 sn_100 ?_
    refine tq_iast (E := E_M_stands d) (pc := 250) (cks_at k_M_stands 152 rfl rfl) sa_108 sn_108 (fun M17 => ?_)
    refine tq_iinc 1 (E := E_M_stands d) (pc := 251) (cks_at k_M_stands 153 rfl rfl) rfl (show 1 < 2 by decide) rfl ?_
    refine tq_goto (tgt := 223) (E := E_M_stands d) (pc := 254) (cks_at k_M_stands 154 rfl rfl) (by decide) ?_
    exact tq_sub [1, 0] rfl (hkH (v1 + 1) M17)
def f_M_stands_L223 (kx257 : Mm → Option (Mm)) : Nat → Int × Mm → Option (Mm) := lp fun kH s => f_M_stands_B223 (fun v1 M => kH (v1, M)) kx257 s.1 s.2
set_option maxRecDepth 20000 in
set_option maxHeartbeats 4000000 in
theorem w_M_stands_L223 (d : Nat) (kx257 : Mm → Option (Mm)) (hkx257 : ∀  (M : Mm), T (E_M_stands d) injV 257 [(0, .ref 78)] [] M (kx257 M)) (n : Nat) (s : Int × Mm) : T (E_M_stands d) injV 223 [(0, .ref 78), (1, vI s.1)] [] s.2 (f_M_stands_L223 kx257 n s) :=
  tq_lp (fun s => [(0, .ref 78), (1, vI s.1)]) (fun s => s.2) (fun kH hH s => w_M_stands_B223 d (fun v1 M => kH (v1, M)) kx257 (fun v1 M => hH (v1, M)) hkx257 s.1 s.2) n s
def f_M_stands_B259 (kH : Int → Mm → Option (Mm)) (kx319 : Mm → Option (Mm)) (v1 : Int) (M : Mm) : Option (Mm) :=
  if i32 (M 98 2) ≤ i32 v1 then
    kx319 M
  else
    gd (0 ≤ i32 ((3 * v1) + 1) ∧ i32 ((3 * v1) + 1) < ((36 : Nat) : Int)) <|
    gd (0 ≤ i32 (13 + (3 * v1)) ∧ i32 (13 + (3 * v1)) < ((31 : Nat) : Int)) <|
    bd (up M 108 (i32 (13 + (3 * v1))).toNat (M 101 (i32 ((3 * v1) + 1)).toNat)) (fun M19 =>
    gd (0 ≤ i32 ((3 * v1) + 2) ∧ i32 ((3 * v1) + 2) < ((36 : Nat) : Int)) <|
    gd (0 ≤ i32 ((13 + (3 * v1)) + 1) ∧ i32 ((13 + (3 * v1)) + 1) < ((31 : Nat) : Int)) <|
    bd (up M19 108 (i32 ((13 + (3 * v1)) + 1)).toNat (M19 101 (i32 ((3 * v1) + 2)).toNat)) (fun M20 =>
    kH (v1 + 1) M20))
set_option maxRecDepth 20000 in
set_option maxHeartbeats 4000000 in
theorem w_M_stands_B259 (d : Nat) (kH : Int → Mm → Option (Mm)) (kx319 : Mm → Option (Mm)) (hkH : ∀ (v1 : Int) (M : Mm), T (E_M_stands d) injV 259 [(0, .ref 78), (1, vI v1)] [] M (kH v1 M)) (hkx319 : ∀  (M : Mm), T (E_M_stands d) injV 319 [(0, .ref 78)] [] M (kx319 M)) (v1 : Int) (M : Mm) : T (E_M_stands d) injV 259 [(0, .ref 78), (1, vI v1)] [] M (f_M_stands_B259 kH kx319 v1 M) := by
  unfold f_M_stands_B259
  refine tq_iload_n 1 (E := E_M_stands d) (pc := 259) (cks_at k_M_stands 157 rfl rfl) rfl ?_
  refine tq_aload_n 0 (E := E_M_stands d) (pc := 260) (cks_at k_M_stands 158 rfl rfl) rfl ?_
  refine tq_getR (j := 98) (E := E_M_stands d) (pc := 261) (cks_at k_M_stands 159 rfl rfl) fo_M_72 so_78 rfl sp_78_28 ?_
  refine tq_iconst (E := E_M_stands d) (pc := 264) (cks_at k_M_stands 160 rfl rfl) ?_
  refine tq_ialdC 2 (E := E_M_stands d) (pc := 265) (cks_at k_M_stands 161 rfl rfl) sa_98 sn_98 (by decide) ?_
  refine tq_icmp_ge (E := E_M_stands d) (pc := 266) (tgt := 319) (cks_at k_M_stands 162 rfl rfl) (by decide) ?_ ?_
  · exact tq_sub [0] rfl (hkx319 M)
  · refine tq_aload_n 0 (E := E_M_stands d) (pc := 269) (cks_at k_M_stands 163 rfl rfl) rfl ?_
    refine tq_getR (j := 108) (E := E_M_stands d) (pc := 270) (cks_at k_M_stands 164 rfl rfl) fo_M_103 so_78 rfl sp_78_45 ?_
    refine tq_bipush (E := E_M_stands d) (pc := 273) (cks_at k_M_stands 165 rfl rfl) (by decide) (by decide) ?_
    refine tq_iconst (E := E_M_stands d) (pc := 275) (cks_at k_M_stands 166 rfl rfl) ?_
    refine tq_iload_n 1 (E := E_M_stands d) (pc := 276) (cks_at k_M_stands 167 rfl rfl) rfl ?_
    refine tq_imul (E := E_M_stands d) (pc := 277) (cks_at k_M_stands 168 rfl rfl) ?_
    refine tq_iadd (E := E_M_stands d) (pc := 278) (cks_at k_M_stands 169 rfl rfl) ?_
    refine tq_aload_n 0 (E := E_M_stands d) (pc := 279) (cks_at k_M_stands 170 rfl rfl) rfl ?_
    refine tq_getR (j := 101) (E := E_M_stands d) (pc := 280) (cks_at k_M_stands 171 rfl rfl) fo_M_82 so_78 rfl sp_78_31 ?_
    refine tq_iconst (E := E_M_stands d) (pc := 283) (cks_at k_M_stands 172 rfl rfl) ?_
    refine tq_iload_n 1 (E := E_M_stands d) (pc := 284) (cks_at k_M_stands 173 rfl rfl) rfl ?_
    refine tq_imul (E := E_M_stands d) (pc := 285) (cks_at k_M_stands 174 rfl rfl) ?_
    refine tq_iconst (E := E_M_stands d) (pc := 286) (cks_at k_M_stands 175 rfl rfl) ?_
    refine tq_iadd (E := E_M_stands d) (pc := 287) (cks_at k_M_stands 176 rfl rfl) ?_
    refine tq_iald (E := E_M_stands d) (pc := 288) (cks_at k_M_stands 177 rfl rfl) sa_101 sn_101 ?_
    refine tq_iast (E := E_M_stands d) (pc := 289) (cks_at k_M_stands 178 rfl rfl) sa_108 sn_108 (fun M19 => ?_)
    refine tq_aload_n 0 (E := E_M_stands d) (pc := 290) (cks_at k_M_stands 179 rfl rfl) rfl ?_
    refine tq_getR (j := 108) (E := E_M_stands d) (pc := 291) (cks_at k_M_stands 180 rfl rfl) fo_M_103 so_78 rfl sp_78_45 ?_
    refine tq_bipush (E := E_M_stands d) (pc := 294) (cks_at k_M_stands 181 rfl rfl) (by decide) (by decide) ?_
    refine tq_iconst (E := E_M_stands d) (pc := 296) (cks_at k_M_stands 182 rfl rfl) ?_
    refine tq_iload_n 1 (E := E_M_stands d) (pc := 297) (cks_at k_M_stands 183 rfl rfl) rfl ?_
    refine tq_imul (E := E_M_stands d) (pc := 298) (cks_at k_M_stands 184 rfl rfl) ?_
    refine tq_iadd (E := E_M_stands d) (pc := 299) (cks_at k_M_stands 185 rfl rfl) ?_
    refine tq_iconst (E := E_M_stands d) (pc := 300) (cks_at k_M_stands 186 rfl rfl) ?_
    refine tq_iadd (E := E_M_stands d) (pc := 301) (cks_at k_M_stands 187 rfl rfl) ?_
    refine tq_aload_n 0 (E := E_M_stands d) (pc := 302) (cks_at k_M_stands 188 rfl rfl) rfl ?_
    refine tq_getR (j := 101) (E := E_M_stands d) (pc := 303) (cks_at k_M_stands 189 rfl rfl) fo_M_82 so_78 rfl sp_78_31 ?_
    refine tq_iconst (E := E_M_stands d) (pc := 306) (cks_at k_M_stands 190 rfl rfl) ?_
    refine tq_iload_n 1 (E := E_M_stands d) (pc := 307) (cks_at k_M_stands 191 rfl rfl) rfl ?_
    refine tq_imul (E := E_M_stands d) (pc := 308) (cks_at k_M_stands 192 rfl rfl) ?_
    refine tq_iconst (E := E_M_stands d) (pc := 309) (cks_at k_M_stands 193 rfl rfl) ?_
    refine tq_iadd (E := E_M_stands d) (pc := 310) (cks_at k_M_stands 194 rfl rfl) ?_
    refine tq_iald (E := E_M_stands d) (pc := 311) (cks_at k_M_stands 195 rfl rfl) sa_101 sn_101 ?_
    refine tq_iast (E := E_M_stands d) (pc := 312) (cks_at k_M_stands 196 rfl rfl) sa_108 sn_108 (fun M20 => ?_)
    refine tq_iinc 1 (E := E_M_stands d) (pc := 313) (cks_at k_M_stands 197 rfl rfl) rfl (show 1 < 2 by decide) rfl ?_
    refine tq_goto (tgt := 259) (E := E_M_stands d) (pc := 316) (cks_at k_M_stands 198 rfl rfl) (by decide) ?_
    exact tq_sub [1, 0] rfl (hkH (v1 + 1) M20)
def f_M_stands_L259 (kx319 : Mm → Option (Mm)) : Nat → Int × Mm → Option (Mm) := lp fun kH s => f_M_stands_B259 (fun v1 M => kH (v1, M)) kx319 s.1 s.2
set_option maxRecDepth 20000 in
set_option maxHeartbeats 4000000 in
theorem w_M_stands_L259 (d : Nat) (kx319 : Mm → Option (Mm)) (hkx319 : ∀  (M : Mm), T (E_M_stands d) injV 319 [(0, .ref 78)] [] M (kx319 M)) (n : Nat) (s : Int × Mm) : T (E_M_stands d) injV 259 [(0, .ref 78), (1, vI s.1)] [] s.2 (f_M_stands_L259 kx319 n s) :=
  tq_lp (fun s => [(0, .ref 78), (1, vI s.1)]) (fun s => s.2) (fun kH hH s => w_M_stands_B259 d (fun v1 M => kH (v1, M)) kx319 (fun v1 M => hH (v1, M)) hkx319 s.1 s.2) n s
def f_M_stands (M : Mm) : Option (Mm) :=
  f_M_stands_L2 (fun M2 => f_M_stands_L29 (fun M4 => f_M_stands_L58 (fun M6 => f_M_stands_L87 (fun M8 => f_M_stands_L116 (fun M11 => f_M_stands_L160 (fun M13 => f_M_stands_L192 (fun M15 => bd (up M15 108 0 (M15 78 32)) (fun M16 =>
                              f_M_stands_L223 (fun M18 => f_M_stands_L259 (fun M21 => bd (up M21 78 63 0) (fun M22 =>
                                      bd (up M22 78 66 0) (fun M23 =>
                                      some M23))) FU (0, M18)) FU (0, M16))) FU (0, M13)) FU (0, M11)) FU (0, M8)) FU (0, M6)) FU (0, M4)) FU (0, M2)) FU (0, M)
set_option maxRecDepth 20000 in
set_option maxHeartbeats 4000000 in
theorem c_M_stands (d : Nat) (M : Mm) (Q : Option Value → Mm → Prop) (h : sat injV (f_M_stands M) Q) : Ct (d + 1) y_M_stands [.ref 78] M Q := by
  refine ct_in (d := d + 0) mk_M_stands (Nat.le_of_ble_eq_true rfl) (?_ : T (E_M_stands d) injV 0 [(0, .ref 78)] [] M (f_M_stands M)) h
  unfold f_M_stands
  refine tq_iconst (E := E_M_stands d) (pc := 0) (cks_at k_M_stands 0 rfl rfl) ?_
  refine tq_istore_n (E := E_M_stands d) (pc := 1) (cks_at k_M_stands 1 rfl rfl) (show 1 < 2 by decide) rfl ?_
  exact tq_sub [1, 0] rfl (w_M_stands_L2 d _ (fun M2 => by
      refine tq_iconst (E := E_M_stands d) (pc := 27) (cks_at k_M_stands 17 rfl rfl) ?_
      refine tq_istore_n (E := E_M_stands d) (pc := 28) (cks_at k_M_stands 18 rfl rfl) (show 1 < 2 by decide) rfl ?_
      exact tq_sub [1, 0] rfl (w_M_stands_L29 d _ (fun M4 => by
          refine tq_iconst (E := E_M_stands d) (pc := 56) (cks_at k_M_stands 34 rfl rfl) ?_
          refine tq_istore_n (E := E_M_stands d) (pc := 57) (cks_at k_M_stands 35 rfl rfl) (show 1 < 2 by decide) rfl ?_
          exact tq_sub [1, 0] rfl (w_M_stands_L58 d _ (fun M6 => by
              refine tq_iconst (E := E_M_stands d) (pc := 85) (cks_at k_M_stands 51 rfl rfl) ?_
              refine tq_istore_n (E := E_M_stands d) (pc := 86) (cks_at k_M_stands 52 rfl rfl) (show 1 < 2 by decide) rfl ?_
              exact tq_sub [1, 0] rfl (w_M_stands_L87 d _ (fun M8 => by
                  refine tq_iconst (E := E_M_stands d) (pc := 114) (cks_at k_M_stands 68 rfl rfl) ?_
                  refine tq_istore_n (E := E_M_stands d) (pc := 115) (cks_at k_M_stands 69 rfl rfl) (show 1 < 2 by decide) rfl ?_
                  exact tq_sub [1, 0] rfl (w_M_stands_L116 d _ (fun M11 => by
                      refine tq_iconst (E := E_M_stands d) (pc := 158) (cks_at k_M_stands 95 rfl rfl) ?_
                      refine tq_istore_n (E := E_M_stands d) (pc := 159) (cks_at k_M_stands 96 rfl rfl) (show 1 < 2 by decide) rfl ?_
                      exact tq_sub [1, 0] rfl (w_M_stands_L160 d _ (fun M13 => by
                          refine tq_iconst (E := E_M_stands d) (pc := 190) (cks_at k_M_stands 113 rfl rfl) ?_
                          refine tq_istore_n (E := E_M_stands d) (pc := 191) (cks_at k_M_stands 114 rfl rfl) (show 1 < 2 by decide) rfl ?_
                          exact tq_sub [1, 0] rfl (w_M_stands_L192 d _ (fun M15 => by
                              refine tq_aload_n 0 (E := E_M_stands d) (pc := 211) (cks_at k_M_stands 125 rfl rfl) rfl ?_
                              refine tq_getR (j := 108) (E := E_M_stands d) (pc := 212) (cks_at k_M_stands 126 rfl rfl) fo_M_103 so_78 rfl sp_78_45 ?_
                              refine tq_iconst (E := E_M_stands d) (pc := 215) (cks_at k_M_stands 127 rfl rfl) ?_
                              refine tq_aload_n 0 (E := E_M_stands d) (pc := 216) (cks_at k_M_stands 128 rfl rfl) rfl ?_
                              refine tq_getI (E := E_M_stands d) (pc := 217) (cks_at k_M_stands 129 rfl rfl) fo_M_335 so_78 rfl (by decide) ?_
                              refine tq_iastC (E := E_M_stands d) (pc := 220) 0 (cks_at k_M_stands 130 rfl rfl) sa_108 sn_108 (by decide) (fun M16 => ?_)
                              refine tq_iconst (E := E_M_stands d) (pc := 221) (cks_at k_M_stands 131 rfl rfl) ?_
                              refine tq_istore_n (E := E_M_stands d) (pc := 222) (cks_at k_M_stands 132 rfl rfl) (show 1 < 2 by decide) rfl ?_
                              exact tq_sub [1, 0] rfl (w_M_stands_L223 d _ (fun M18 => by
                                  refine tq_iconst (E := E_M_stands d) (pc := 257) (cks_at k_M_stands 155 rfl rfl) ?_
                                  refine tq_istore_n (E := E_M_stands d) (pc := 258) (cks_at k_M_stands 156 rfl rfl) (show 1 < 2 by decide) rfl ?_
                                  exact tq_sub [1, 0] rfl (w_M_stands_L259 d _ (fun M21 => by
                                      refine tq_aload_n 0 (E := E_M_stands d) (pc := 319) (cks_at k_M_stands 199 rfl rfl) rfl ?_
                                      refine tq_iconst (E := E_M_stands d) (pc := 320) (cks_at k_M_stands 200 rfl rfl) ?_
                                      refine tq_putI (E := E_M_stands d) (pc := 321) (cks_at k_M_stands 201 rfl rfl) fo_M_350 so_78 rfl po_12_63 (fun M22 => ?_)
                                      refine tq_aload_n 0 (E := E_M_stands d) (pc := 324) (cks_at k_M_stands 202 rfl rfl) rfl ?_
                                      refine tq_iconst (E := E_M_stands d) (pc := 325) (cks_at k_M_stands 203 rfl rfl) ?_
                                      refine tq_putI (E := E_M_stands d) (pc := 326) (cks_at k_M_stands 204 rfl rfl) fo_M_353 so_78 rfl po_12_66 (fun M23 => ?_)
                                      exact tq_vret (E := E_M_stands d) (pc := 329) (cks_at k_M_stands 205 rfl rfl) rfl) FU (0, M18))) FU (0, M16))) FU (0, M13))) FU (0, M11))) FU (0, M8))) FU (0, M6))) FU (0, M4))) FU (0, M2))) FU (0, M))
abbrev E_M_town (d : Nat) : Ev := (Ct (d + 8), "BreathTownModel", prog_14_method_25_code, 2, False, 0, (fun _ => 0), (Option.some Jvm.ClassFile.FieldType.int))
def f_M_town_B50 (kH : Int → Mm → Option (Int × Mm)) (kx68 : Mm → Option (Int × Mm)) (v1 : Int) (M : Mm) : Option (Int × Mm) :=
  if i32 3 ≤ i32 v1 then
    kx68 M
  else
    gd (0 ≤ i32 v1 ∧ i32 v1 < ((6 : Nat) : Int)) <|
    bd (up M 98 (i32 v1).toNat 0) (fun M10 =>
    kH (v1 + 1) M10)
set_option maxRecDepth 20000 in
set_option maxHeartbeats 4000000 in
theorem w_M_town_B50 (d : Nat) (kH : Int → Mm → Option (Int × Mm)) (kx68 : Mm → Option (Int × Mm)) (hkH : ∀ (v1 : Int) (M : Mm), T (E_M_town d) injI 50 [(0, .ref 78), (1, vI v1)] [] M (kH v1 M)) (hkx68 : ∀  (M : Mm), T (E_M_town d) injI 68 [(0, .ref 78)] [] M (kx68 M)) (v1 : Int) (M : Mm) : T (E_M_town d) injI 50 [(0, .ref 78), (1, vI v1)] [] M (f_M_town_B50 kH kx68 v1 M) := by
  unfold f_M_town_B50
  refine tq_iload_n 1 (E := E_M_town d) (pc := 50) (cks_at k_M_town 30 rfl rfl) rfl ?_
  refine tq_iconst (E := E_M_town d) (pc := 51) (cks_at k_M_town 31 rfl rfl) ?_
  refine tq_icmp_ge (E := E_M_town d) (pc := 52) (tgt := 68) (cks_at k_M_town 32 rfl rfl) (by decide) ?_ ?_
  · exact tq_sub [0] rfl (hkx68 M)
  · refine tq_aload_n 0 (E := E_M_town d) (pc := 55) (cks_at k_M_town 33 rfl rfl) rfl ?_
    refine tq_getR (j := 98) (E := E_M_town d) (pc := 56) (cks_at k_M_town 34 rfl rfl) fo_M_72 so_78 rfl sp_78_28 ?_
    refine tq_iload_n 1 (E := E_M_town d) (pc := 59) (cks_at k_M_town 35 rfl rfl) rfl ?_
    refine tq_iconst (E := E_M_town d) (pc := 60) (cks_at k_M_town 36 rfl rfl) ?_
    refine tq_iast (E := E_M_town d) (pc := 61) (cks_at k_M_town 37 rfl rfl) sa_98 sn_98 (fun M10 => ?_)
    refine tq_iinc 1 (E := E_M_town d) (pc := 62) (cks_at k_M_town 38 rfl rfl) rfl (show 1 < 2 by decide) rfl ?_
    refine tq_goto (tgt := 50) (E := E_M_town d) (pc := 65) (cks_at k_M_town 39 rfl rfl) (by decide) ?_
    exact tq_sub [1, 0] rfl (hkH (v1 + 1) M10)
def f_M_town_L50 (kx68 : Mm → Option (Int × Mm)) : Nat → Int × Mm → Option (Int × Mm) := lp fun kH s => f_M_town_B50 (fun v1 M => kH (v1, M)) kx68 s.1 s.2
set_option maxRecDepth 20000 in
set_option maxHeartbeats 4000000 in
theorem w_M_town_L50 (d : Nat) (kx68 : Mm → Option (Int × Mm)) (hkx68 : ∀  (M : Mm), T (E_M_town d) injI 68 [(0, .ref 78)] [] M (kx68 M)) (n : Nat) (s : Int × Mm) : T (E_M_town d) injI 50 [(0, .ref 78), (1, vI s.1)] [] s.2 (f_M_town_L50 kx68 n s) :=
  tq_lp (fun s => [(0, .ref 78), (1, vI s.1)]) (fun s => s.2) (fun kH hH s => w_M_town_B50 d (fun v1 M => kH (v1, M)) kx68 (fun v1 M => hH (v1, M)) hkx68 s.1 s.2) n s
def f_M_town_B68 (kH : Mm → Option (Int × Mm)) (kx90 : Mm → Option (Int × Mm)) (M : Mm) : Option (Int × Mm) :=
  if ¬ i32 (M 78 5) = 0 then
    kx90 M
  else
    bI (f_M_look M) (fun r13 M12 =>
    if i32 r13 = i32 ((-1)) then
      kx90 M12
    else
      bV (f_M_statementTold M12) (fun M14 =>
      kH M14))
set_option maxRecDepth 20000 in
set_option maxHeartbeats 4000000 in
theorem w_M_town_B68 (d : Nat) (kH : Mm → Option (Int × Mm)) (kx90 : Mm → Option (Int × Mm)) (hkH : ∀  (M : Mm), T (E_M_town d) injI 68 [(0, .ref 78)] [] M (kH M)) (hkx90 : ∀  (M : Mm), T (E_M_town d) injI 90 [(0, .ref 78)] [] M (kx90 M)) (M : Mm) : T (E_M_town d) injI 68 [(0, .ref 78)] [] M (f_M_town_B68 kH kx90 M) := by
  unfold f_M_town_B68
  refine tq_aload_n 0 (E := E_M_town d) (pc := 68) (cks_at k_M_town 40 rfl rfl) rfl ?_
  refine tq_getI (E := E_M_town d) (pc := 69) (cks_at k_M_town 41 rfl rfl) fo_M_225 so_78 rfl (by decide) ?_
  refine tq_if_ne (E := E_M_town d) (pc := 72) (tgt := 90) (cks_at k_M_town 42 rfl rfl) (by decide) ?_ ?_
  · exact tq_sub [0] rfl (hkx90 M)
  · refine tq_aload_n 0 (E := E_M_town d) (pc := 75) (cks_at k_M_town 43 rfl rfl) rfl ?_
    refine tq_V0 (E := E_M_town d) (pc := 76) (cks_at k_M_town 44 rfl rfl) mk_M_look lk_M_237 rc_78 (Nat.le_of_ble_eq_true rfl) (c_M_look (d + 7) M) (k_I fun r13 M12 => ?_)
    refine tq_iconst (E := E_M_town d) (pc := 79) (cks_at k_M_town 45 rfl rfl) ?_
    refine tq_icmp_eq (E := E_M_town d) (pc := 80) (tgt := 90) (cks_at k_M_town 46 rfl rfl) (by decide) ?_ ?_
    · exact tq_sub [0] rfl (hkx90 M12)
    · refine tq_aload_n 0 (E := E_M_town d) (pc := 83) (cks_at k_M_town 47 rfl rfl) rfl ?_
      refine tq_V0 (E := E_M_town d) (pc := 84) (cks_at k_M_town 48 rfl rfl) mk_M_statementTold lk_M_341 rc_78 (Nat.le_of_ble_eq_true rfl) (c_M_statementTold (d + 0) M12) (k_V fun M14 => ?_)
      refine tq_goto (tgt := 68) (E := E_M_town d) (pc := 87) (cks_at k_M_town 49 rfl rfl) (by decide) ?_
      exact tq_sub [0] rfl (hkH M14)
def f_M_town_L68 (kx90 : Mm → Option (Int × Mm)) : Nat → Mm → Option (Int × Mm) := lp fun kH s => f_M_town_B68 kH kx90 s
set_option maxRecDepth 20000 in
set_option maxHeartbeats 4000000 in
theorem w_M_town_L68 (d : Nat) (kx90 : Mm → Option (Int × Mm)) (hkx90 : ∀  (M : Mm), T (E_M_town d) injI 90 [(0, .ref 78)] [] M (kx90 M)) (n : Nat) (s : Mm) : T (E_M_town d) injI 68 [(0, .ref 78)] [] s (f_M_town_L68 kx90 n s) :=
  tq_lp (fun s => [(0, .ref 78)]) (fun s => s) (fun kH hH s => w_M_town_B68 d kH kx90 (fun M => hH (M)) hkx90 s) n s
def f_M_town_J90 (M : Mm) : Option (Int × Mm) :=
  bd (up M 78 7 (M 78 5)) (fun M16 =>
  bd (up M16 78 8 (M16 78 6)) (fun M17 =>
  if i32 (M17 78 5) = 0 then
    bV (f_M_stands M17) (fun M18 =>
    some (M18 78 33, M18))
  else
    bd (up M17 80 1 ((M17 80 1) + 1)) (fun M19 =>
    some ((-1), M19))))
set_option maxRecDepth 20000 in
set_option maxHeartbeats 4000000 in
theorem w_M_town_J90 (d : Nat) (M : Mm) : T (E_M_town d) injI 90 [(0, .ref 78)] [] M (f_M_town_J90 M) := by
  unfold f_M_town_J90
  refine tq_aload_n 0 (E := E_M_town d) (pc := 90) (cks_at k_M_town 50 rfl rfl) rfl ?_
  refine tq_aload_n 0 (E := E_M_town d) (pc := 91) (cks_at k_M_town 51 rfl rfl) rfl ?_
  refine tq_getI (E := E_M_town d) (pc := 92) (cks_at k_M_town 52 rfl rfl) fo_M_225 so_78 rfl (by decide) ?_
  refine tq_putI (E := E_M_town d) (pc := 95) (cks_at k_M_town 53 rfl rfl) fo_M_344 so_78 rfl po_12_7 (fun M16 => ?_)
  refine tq_aload_n 0 (E := E_M_town d) (pc := 98) (cks_at k_M_town 54 rfl rfl) rfl ?_
  refine tq_aload_n 0 (E := E_M_town d) (pc := 99) (cks_at k_M_town 55 rfl rfl) rfl ?_
  refine tq_getI (E := E_M_town d) (pc := 100) (cks_at k_M_town 56 rfl rfl) fo_M_228 so_78 rfl (by decide) ?_
  refine tq_putI (E := E_M_town d) (pc := 103) (cks_at k_M_town 57 rfl rfl) fo_M_13 so_78 rfl po_12_8 (fun M17 => ?_)
  refine tq_aload_n 0 (E := E_M_town d) (pc := 106) (cks_at k_M_town 58 rfl rfl) rfl ?_
  refine tq_getI (E := E_M_town d) (pc := 107) (cks_at k_M_town 59 rfl rfl) fo_M_225 so_78 rfl (by decide) ?_
  refine tq_if_eq (E := E_M_town d) (pc := 110) (tgt := 125) (cks_at k_M_town 60 rfl rfl) (by decide) ?_ ?_
  · refine tq_aload_n 0 (E := E_M_town d) (pc := 125) (cks_at k_M_town 71 rfl rfl) rfl ?_
    refine tq_V0 (E := E_M_town d) (pc := 126) (cks_at k_M_town 72 rfl rfl) mk_M_stands lk_M_347 rc_78 (Nat.le_of_ble_eq_true rfl) (c_M_stands (d + 7) M17) (k_V fun M18 => ?_)
    refine tq_aload_n 0 (E := E_M_town d) (pc := 129) (cks_at k_M_town 73 rfl rfl) rfl ?_
    refine tq_getI (E := E_M_town d) (pc := 130) (cks_at k_M_town 74 rfl rfl) fo_M_322 so_78 rfl (by decide) ?_
    exact tq_iret (E := E_M_town d) (pc := 133) (cks_at k_M_town 75 rfl rfl) rfl
  · refine tq_aload_n 0 (E := E_M_town d) (pc := 113) (cks_at k_M_town 61 rfl rfl) rfl ?_
    refine tq_getR (j := 80) (E := E_M_town d) (pc := 114) (cks_at k_M_town 62 rfl rfl) fo_M_17 so_78 rfl sp_78_9 ?_
    refine tq_iconst (E := E_M_town d) (pc := 117) (cks_at k_M_town 63 rfl rfl) ?_
    refine tq_dup2 (E := E_M_town d) (pc := 118) (cks_at k_M_town 64 rfl rfl) rfl rfl ?_
    refine tq_ialdC 1 (E := E_M_town d) (pc := 119) (cks_at k_M_town 65 rfl rfl) sa_80 sn_80 (by decide) ?_
    refine tq_iconst (E := E_M_town d) (pc := 120) (cks_at k_M_town 66 rfl rfl) ?_
    refine tq_iadd (E := E_M_town d) (pc := 121) (cks_at k_M_town 67 rfl rfl) ?_
    refine tq_iastC (E := E_M_town d) (pc := 122) 1 (cks_at k_M_town 68 rfl rfl) sa_80 sn_80 (by decide) (fun M19 => ?_)
    refine tq_iconst (E := E_M_town d) (pc := 123) (cks_at k_M_town 69 rfl rfl) ?_
    exact tq_iret (E := E_M_town d) (pc := 124) (cks_at k_M_town 70 rfl rfl) rfl
def f_M_town (M : Mm) : Option (Int × Mm) :=
  bd (up M 78 3 (M 78 1)) (fun M1 =>
  bd (up M1 78 1 0) (fun M2 =>
  bd (up M2 78 2 0) (fun M3 =>
  bd (up M3 78 4 ((-1))) (fun M4 =>
  bd (up M4 78 5 0) (fun M5 =>
  bd (up M5 78 6 ((-1))) (fun M6 =>
  bd (up M6 78 33 0) (fun M7 =>
  bd (up M7 78 35 0) (fun M8 =>
  bd (up M8 78 32 0) (fun M9 =>
  f_M_town_L50 (fun M11 => f_M_town_L68 (fun M15 => f_M_town_J90 M15) FU M11) FU (0, M9))))))))))
set_option maxRecDepth 20000 in
set_option maxHeartbeats 4000000 in
theorem c_M_town (d : Nat) (M : Mm) (Q : Option Value → Mm → Prop) (h : sat injI (f_M_town M) Q) : Ct (d + 9) y_M_town [.ref 78] M Q := by
  refine ct_in (d := d + 8) mk_M_town (Nat.le_of_ble_eq_true rfl) (?_ : T (E_M_town d) injI 0 [(0, .ref 78)] [] M (f_M_town M)) h
  unfold f_M_town
  refine tq_aload_n 0 (E := E_M_town d) (pc := 0) (cks_at k_M_town 0 rfl rfl) rfl ?_
  refine tq_aload_n 0 (E := E_M_town d) (pc := 1) (cks_at k_M_town 1 rfl rfl) rfl ?_
  refine tq_getI (E := E_M_town d) (pc := 2) (cks_at k_M_town 2 rfl rfl) fo_M_222 so_78 rfl (by decide) ?_
  refine tq_putI (E := E_M_town d) (pc := 5) (cks_at k_M_town 3 rfl rfl) fo_M_234 so_78 rfl po_12_3 (fun M1 => ?_)
  refine tq_aload_n 0 (E := E_M_town d) (pc := 8) (cks_at k_M_town 4 rfl rfl) rfl ?_
  refine tq_iconst (E := E_M_town d) (pc := 9) (cks_at k_M_town 5 rfl rfl) ?_
  refine tq_putI (E := E_M_town d) (pc := 10) (cks_at k_M_town 6 rfl rfl) fo_M_222 so_78 rfl po_12_1 (fun M2 => ?_)
  refine tq_aload_n 0 (E := E_M_town d) (pc := 13) (cks_at k_M_town 7 rfl rfl) rfl ?_
  refine tq_iconst (E := E_M_town d) (pc := 14) (cks_at k_M_town 8 rfl rfl) ?_
  refine tq_putI (E := E_M_town d) (pc := 15) (cks_at k_M_town 9 rfl rfl) fo_M_231 so_78 rfl po_12_2 (fun M3 => ?_)
  refine tq_aload_n 0 (E := E_M_town d) (pc := 18) (cks_at k_M_town 10 rfl rfl) rfl ?_
  refine tq_iconst (E := E_M_town d) (pc := 19) (cks_at k_M_town 11 rfl rfl) ?_
  refine tq_putI (E := E_M_town d) (pc := 20) (cks_at k_M_town 12 rfl rfl) fo_M_245 so_78 rfl po_12_4 (fun M4 => ?_)
  refine tq_aload_n 0 (E := E_M_town d) (pc := 23) (cks_at k_M_town 13 rfl rfl) rfl ?_
  refine tq_iconst (E := E_M_town d) (pc := 24) (cks_at k_M_town 14 rfl rfl) ?_
  refine tq_putI (E := E_M_town d) (pc := 25) (cks_at k_M_town 15 rfl rfl) fo_M_225 so_78 rfl po_12_5 (fun M5 => ?_)
  refine tq_aload_n 0 (E := E_M_town d) (pc := 28) (cks_at k_M_town 16 rfl rfl) rfl ?_
  refine tq_iconst (E := E_M_town d) (pc := 29) (cks_at k_M_town 17 rfl rfl) ?_
  refine tq_putI (E := E_M_town d) (pc := 30) (cks_at k_M_town 18 rfl rfl) fo_M_228 so_78 rfl po_12_6 (fun M6 => ?_)
  refine tq_aload_n 0 (E := E_M_town d) (pc := 33) (cks_at k_M_town 19 rfl rfl) rfl ?_
  refine tq_iconst (E := E_M_town d) (pc := 34) (cks_at k_M_town 20 rfl rfl) ?_
  refine tq_putI (E := E_M_town d) (pc := 35) (cks_at k_M_town 21 rfl rfl) fo_M_322 so_78 rfl po_12_33 (fun M7 => ?_)
  refine tq_aload_n 0 (E := E_M_town d) (pc := 38) (cks_at k_M_town 22 rfl rfl) rfl ?_
  refine tq_iconst (E := E_M_town d) (pc := 39) (cks_at k_M_town 23 rfl rfl) ?_
  refine tq_putI (E := E_M_town d) (pc := 40) (cks_at k_M_town 24 rfl rfl) fo_M_307 so_78 rfl po_12_35 (fun M8 => ?_)
  refine tq_aload_n 0 (E := E_M_town d) (pc := 43) (cks_at k_M_town 25 rfl rfl) rfl ?_
  refine tq_iconst (E := E_M_town d) (pc := 44) (cks_at k_M_town 26 rfl rfl) ?_
  refine tq_putI (E := E_M_town d) (pc := 45) (cks_at k_M_town 27 rfl rfl) fo_M_335 so_78 rfl po_12_32 (fun M9 => ?_)
  refine tq_iconst (E := E_M_town d) (pc := 48) (cks_at k_M_town 28 rfl rfl) ?_
  refine tq_istore_n (E := E_M_town d) (pc := 49) (cks_at k_M_town 29 rfl rfl) (show 1 < 2 by decide) rfl ?_
  exact tq_sub [1, 0] rfl (w_M_town_L50 d _ (fun M11 => by
      exact tq_sub [0] rfl (w_M_town_L68 d _ (fun M15 => by
          exact tq_sub [0] rfl (w_M_town_J90 d M15)) FU M11)) FU (0, M9))
abbrev E_Told_clear (d : Nat) : Ev := (Ct (d + 1), "BreathTown$Told", prog_9_method_2_code, 1, False, 0, (fun _ => 0), (Option.none : Option Jvm.ClassFile.FieldType))
def f_Told_clear (this : Nat) (M : Mm) : Option (Mm) :=
  bV (f_BT_fill (ptr this 0) 0 M) (fun M1 =>
  bV (f_Code_clear (ptr this 12) M1) (fun M2 =>
  bd (up M2 this 13 0) (fun M3 =>
  some M3)))
set_option maxRecDepth 20000 in
set_option maxHeartbeats 4000000 in
theorem c_Told_clear (d : Nat) (this : Nat) (hthis : isTold this) (M : Mm) (Q : Option Value → Mm → Prop) (h : sat injV (f_Told_clear this M) Q) : Ct (d + 2) y_Told_clear [.ref this] M Q := by
  refine ct_in (d := d + 1) mk_Told_clear (Nat.le_of_ble_eq_true rfl) (?_ : T (E_Told_clear d) injV 0 [(0, .ref this)] [] M (f_Told_clear this M)) h
  unfold f_Told_clear
  refine tq_aload_n 0 (E := E_Told_clear d) (pc := 0) (cks_at k_Told_clear 0 rfl rfl) rfl ?_
  refine tq_getR (j := ptr this 0) (E := E_Told_clear d) (pc := 1) (cks_at k_Told_clear 1 rfl rfl) fo_Told_9 (isTold_ok hthis) rfl rfl ?_
  refine tq_iconst (E := E_Told_clear d) (pc := 4) (cks_at k_Told_clear 2 rfl rfl) ?_
  refine tq_S2 (E := E_Told_clear d) (pc := 5) (cks_at k_Told_clear 3 rfl rfl) mk_BT_fill lk_Told_55 (Nat.le_of_ble_eq_true rfl) (c_BT_fill (d + 0) (ptr this 0) (sa_Told_0 hthis) 0 M) (k_V fun M1 => ?_)
  refine tq_aload_n 0 (E := E_Told_clear d) (pc := 8) (cks_at k_Told_clear 4 rfl rfl) rfl ?_
  refine tq_getR (j := ptr this 12) (E := E_Told_clear d) (pc := 9) (cks_at k_Told_clear 5 rfl rfl) fo_Told_51 (isTold_ok hthis) rfl rfl ?_
  refine tq_V0 (E := E_Told_clear d) (pc := 12) (cks_at k_Told_clear 6 rfl rfl) mk_Code_clear lk_Told_59 (isCode_rc (sm_Told_12 hthis)) (Nat.le_of_ble_eq_true rfl) (c_Code_clear (d + 0) (ptr this 12) (sm_Told_12 hthis) M1) (k_V fun M2 => ?_)
  refine tq_aload_n 0 (E := E_Told_clear d) (pc := 15) (cks_at k_Told_clear 7 rfl rfl) rfl ?_
  refine tq_iconst (E := E_Told_clear d) (pc := 16) (cks_at k_Told_clear 8 rfl rfl) ?_
  refine tq_putI (E := E_Told_clear d) (pc := 17) (cks_at k_Told_clear 9 rfl rfl) fo_Told_62 (isTold_ok hthis) rfl po_7_13 (fun M3 => ?_)
  exact tq_vret (E := E_Told_clear d) (pc := 20) (cks_at k_Told_clear 10 rfl rfl) rfl
abbrev E_Scan_isOwnWord (d : Nat) : Ev := (Ct (d + 4), "BreathTown$Scan", prog_7_method_19_code, 5, False, 0, (fun _ => 0), (Option.some Jvm.ClassFile.FieldType.boolean))
def f_Scan_isOwnWord_B6 (kH : Int → Int → Int → Int → Mm → Option (Int × Mm)) (v0 v1 v2 v3 : Int) (M : Mm) : Option (Int × Mm) :=
  bI (f_Str_length 1 M) (fun r2 M1 =>
  if i32 r2 ≤ i32 v3 then
    some (0, M1)
  else
    bI (f_Str_charAt 1 v3 M1) (fun r4 M3 =>
    if i32 r4 = i32 32 then
      if ¬ i32 v1 = i32 v0 then
        kH v0 0 0 (v3 + 1) M3
      else
        some (1, M3)
    else
      kH v0 (or32 v1 (shl32 ((r4 - 97) + 1) v2)) (v2 + 5) (v3 + 1) M3))
set_option maxRecDepth 20000 in
set_option maxHeartbeats 4000000 in
theorem w_Scan_isOwnWord_B6 (d : Nat) (kH : Int → Int → Int → Int → Mm → Option (Int × Mm)) (hkH : ∀ (v0 v1 v2 v3 : Int) (M : Mm), T (E_Scan_isOwnWord d) injI 6 [(0, vI v0), (1, vI v1), (2, vI v2), (3, vI v3)] [] M (kH v0 v1 v2 v3 M)) (v0 v1 v2 v3 : Int) (M : Mm) : T (E_Scan_isOwnWord d) injI 6 [(0, vI v0), (1, vI v1), (2, vI v2), (3, vI v3)] [] M (f_Scan_isOwnWord_B6 kH v0 v1 v2 v3 M) := by
  unfold f_Scan_isOwnWord_B6
  refine tq_iload_n 3 (E := E_Scan_isOwnWord d) (pc := 6) (cks_at k_Scan_isOwnWord 6 rfl rfl) rfl ?_
  refine tq_ldcS (j := 1) (s := 1) (E := E_Scan_isOwnWord d) (pc := 7) (cks_at k_Scan_isOwnWord 7 rfl rfl) rfl ?_
  refine tq_V0 (E := E_Scan_isOwnWord d) (pc := 9) (cks_at k_Scan_isOwnWord 8 rfl rfl) mk_Str_length lk_Scan_57 (rc_str (by decide)) (Nat.le_of_ble_eq_true rfl) (c_Str_length (d + 2) 1 (by decide) M) (k_I fun r2 M1 => ?_)
  refine tq_icmp_ge (E := E_Scan_isOwnWord d) (pc := 12) (tgt := 65) (cks_at k_Scan_isOwnWord 9 rfl rfl) (by decide) ?_ ?_
  · refine tq_iconst (E := E_Scan_isOwnWord d) (pc := 65) (cks_at k_Scan_isOwnWord 40 rfl rfl) ?_
    exact tq_zretC (E := E_Scan_isOwnWord d) (pc := 66) (cks_at k_Scan_isOwnWord 41 rfl rfl) rfl (by decide)
  · refine tq_ldcS (j := 1) (s := 1) (E := E_Scan_isOwnWord d) (pc := 15) (cks_at k_Scan_isOwnWord 10 rfl rfl) rfl ?_
    refine tq_iload_n 3 (E := E_Scan_isOwnWord d) (pc := 17) (cks_at k_Scan_isOwnWord 11 rfl rfl) rfl ?_
    refine tq_V1 (E := E_Scan_isOwnWord d) (pc := 18) (cks_at k_Scan_isOwnWord 12 rfl rfl) mk_Str_charAt lk_Scan_65 (rc_str (by decide)) (Nat.le_of_ble_eq_true rfl) (c_Str_charAt (d + 0) 1 (by decide) v3 M1) (k_I fun r4 M3 => ?_)
    refine tq_istore (E := E_Scan_isOwnWord d) (pc := 21) (cks_at k_Scan_isOwnWord 13 rfl rfl) (show 4 < 5 by decide) rfl ?_
    refine tq_iload 0 (E := E_Scan_isOwnWord d) (pc := 23) (cks_at k_Scan_isOwnWord 14 rfl rfl) rfl ?_
    refine tq_bipush (E := E_Scan_isOwnWord d) (pc := 25) (cks_at k_Scan_isOwnWord 15 rfl rfl) (by decide) (by decide) ?_
    refine tq_icmp_eq (E := E_Scan_isOwnWord d) (pc := 27) (tgt := 48) (cks_at k_Scan_isOwnWord 16 rfl rfl) (by decide) ?_ ?_
    · refine tq_iload_n 2 (E := E_Scan_isOwnWord d) (pc := 48) (cks_at k_Scan_isOwnWord 29 rfl rfl) rfl ?_
      refine tq_iload_n 1 (E := E_Scan_isOwnWord d) (pc := 49) (cks_at k_Scan_isOwnWord 30 rfl rfl) rfl ?_
      refine tq_icmp_ne (E := E_Scan_isOwnWord d) (pc := 50) (tgt := 55) (cks_at k_Scan_isOwnWord 31 rfl rfl) (by decide) ?_ ?_
      · refine tq_iconst (E := E_Scan_isOwnWord d) (pc := 55) (cks_at k_Scan_isOwnWord 34 rfl rfl) ?_
        refine tq_istore_n (E := E_Scan_isOwnWord d) (pc := 56) (cks_at k_Scan_isOwnWord 35 rfl rfl) (show 1 < 5 by decide) rfl ?_
        refine tq_iconst (E := E_Scan_isOwnWord d) (pc := 57) (cks_at k_Scan_isOwnWord 36 rfl rfl) ?_
        refine tq_istore_n (E := E_Scan_isOwnWord d) (pc := 58) (cks_at k_Scan_isOwnWord 37 rfl rfl) (show 2 < 5 by decide) rfl ?_
        refine tq_iinc 4 (E := E_Scan_isOwnWord d) (pc := 59) (cks_at k_Scan_isOwnWord 38 rfl rfl) rfl (show 3 < 5 by decide) rfl ?_
        refine tq_goto (tgt := 6) (E := E_Scan_isOwnWord d) (pc := 62) (cks_at k_Scan_isOwnWord 39 rfl rfl) (by decide) ?_
        exact tq_sub [4, 2, 1, 0] rfl (hkH v0 0 0 (v3 + 1) M3)
      · refine tq_iconst (E := E_Scan_isOwnWord d) (pc := 53) (cks_at k_Scan_isOwnWord 32 rfl rfl) ?_
        exact tq_zretC (E := E_Scan_isOwnWord d) (pc := 54) (cks_at k_Scan_isOwnWord 33 rfl rfl) rfl (by decide)
    · refine tq_iload_n 2 (E := E_Scan_isOwnWord d) (pc := 30) (cks_at k_Scan_isOwnWord 17 rfl rfl) rfl ?_
      refine tq_iload 0 (E := E_Scan_isOwnWord d) (pc := 31) (cks_at k_Scan_isOwnWord 18 rfl rfl) rfl ?_
      refine tq_bipush (E := E_Scan_isOwnWord d) (pc := 33) (cks_at k_Scan_isOwnWord 19 rfl rfl) (by decide) (by decide) ?_
      refine tq_isub (E := E_Scan_isOwnWord d) (pc := 35) (cks_at k_Scan_isOwnWord 20 rfl rfl) ?_
      refine tq_iconst (E := E_Scan_isOwnWord d) (pc := 36) (cks_at k_Scan_isOwnWord 21 rfl rfl) ?_
      refine tq_iadd (E := E_Scan_isOwnWord d) (pc := 37) (cks_at k_Scan_isOwnWord 22 rfl rfl) ?_
      refine tq_iload_n 3 (E := E_Scan_isOwnWord d) (pc := 38) (cks_at k_Scan_isOwnWord 23 rfl rfl) rfl ?_
      refine tq_ishl (E := E_Scan_isOwnWord d) (pc := 39) (cks_at k_Scan_isOwnWord 24 rfl rfl) ?_
      refine tq_ior (E := E_Scan_isOwnWord d) (pc := 40) (cks_at k_Scan_isOwnWord 25 rfl rfl) ?_
      refine tq_istore_n (E := E_Scan_isOwnWord d) (pc := 41) (cks_at k_Scan_isOwnWord 26 rfl rfl) (show 1 < 5 by decide) rfl ?_
      refine tq_iinc 3 (E := E_Scan_isOwnWord d) (pc := 42) (cks_at k_Scan_isOwnWord 27 rfl rfl) rfl (show 2 < 5 by decide) rfl ?_
      refine tq_goto (tgt := 59) (E := E_Scan_isOwnWord d) (pc := 45) (cks_at k_Scan_isOwnWord 28 rfl rfl) (by decide) ?_
      refine tq_iinc 4 (E := E_Scan_isOwnWord d) (pc := 59) (cks_at k_Scan_isOwnWord 38 rfl rfl) rfl (show 3 < 5 by decide) rfl ?_
      refine tq_goto (tgt := 6) (E := E_Scan_isOwnWord d) (pc := 62) (cks_at k_Scan_isOwnWord 39 rfl rfl) (by decide) ?_
      exact tq_sub [4, 2, 1, 0] rfl (hkH v0 (or32 v1 (shl32 ((r4 - 97) + 1) v2)) (v2 + 5) (v3 + 1) M3)
def f_Scan_isOwnWord_L6 : Nat → Int × Int × Int × Int × Mm → Option (Int × Mm) := lp fun kH s => f_Scan_isOwnWord_B6 (fun v0 v1 v2 v3 M => kH (v0, v1, v2, v3, M)) s.1 s.2.1 s.2.2.1 s.2.2.2.1 s.2.2.2.2
set_option maxRecDepth 20000 in
set_option maxHeartbeats 4000000 in
theorem w_Scan_isOwnWord_L6 (d : Nat) (n : Nat) (s : Int × Int × Int × Int × Mm) : T (E_Scan_isOwnWord d) injI 6 [(0, vI s.1), (1, vI s.2.1), (2, vI s.2.2.1), (3, vI s.2.2.2.1)] [] s.2.2.2.2 (f_Scan_isOwnWord_L6 n s) :=
  tq_lp (fun s => [(0, vI s.1), (1, vI s.2.1), (2, vI s.2.2.1), (3, vI s.2.2.2.1)]) (fun s => s.2.2.2.2) (fun kH hH s => w_Scan_isOwnWord_B6 d (fun v0 v1 v2 v3 M => kH (v0, v1, v2, v3, M)) (fun v0 v1 v2 v3 M => hH (v0, v1, v2, v3, M)) s.1 s.2.1 s.2.2.1 s.2.2.2.1 s.2.2.2.2) n s
def f_Scan_isOwnWord (v0 : Int) (M : Mm) : Option (Int × Mm) :=
  f_Scan_isOwnWord_L6 FU (v0, 0, 0, 0, M)
set_option maxRecDepth 20000 in
set_option maxHeartbeats 4000000 in
theorem c_Scan_isOwnWord (d : Nat) (v0 : Int) (M : Mm) (Q : Option Value → Mm → Prop) (h : sat injI (f_Scan_isOwnWord v0 M) Q) : Ct (d + 5) y_Scan_isOwnWord [vI v0] M Q := by
  refine ct_in (d := d + 4) mk_Scan_isOwnWord (Nat.le_of_ble_eq_true rfl) (?_ : T (E_Scan_isOwnWord d) injI 0 [(0, vI v0)] [] M (f_Scan_isOwnWord v0 M)) h
  unfold f_Scan_isOwnWord
  refine tq_iconst (E := E_Scan_isOwnWord d) (pc := 0) (cks_at k_Scan_isOwnWord 0 rfl rfl) ?_
  refine tq_istore_n (E := E_Scan_isOwnWord d) (pc := 1) (cks_at k_Scan_isOwnWord 1 rfl rfl) (show 1 < 5 by decide) rfl ?_
  refine tq_iconst (E := E_Scan_isOwnWord d) (pc := 2) (cks_at k_Scan_isOwnWord 2 rfl rfl) ?_
  refine tq_istore_n (E := E_Scan_isOwnWord d) (pc := 3) (cks_at k_Scan_isOwnWord 3 rfl rfl) (show 2 < 5 by decide) rfl ?_
  refine tq_iconst (E := E_Scan_isOwnWord d) (pc := 4) (cks_at k_Scan_isOwnWord 4 rfl rfl) ?_
  refine tq_istore_n (E := E_Scan_isOwnWord d) (pc := 5) (cks_at k_Scan_isOwnWord 5 rfl rfl) (show 3 < 5 by decide) rfl ?_
  exact tq_sub [3, 2, 1, 0] rfl (w_Scan_isOwnWord_L6 d FU (v0, 0, 0, 0, M))
abbrev E_Scan_name (d : Nat) : Ev := (Ct (d + 5), "BreathTown$Scan", prog_7_method_18_code, 3, False, 0, (fun _ => 0), (Option.some Jvm.ClassFile.FieldType.int))
def f_Scan_name_B48 (kH : Int → Int → Mm → Option (Int × Mm)) (kx104 : Int → Mm → Option (Int × Mm)) (v1 v2 : Int) (M : Mm) : Option (Int × Mm) :=
  if i32 6 ≤ i32 v2 then
    kx104 v1 M
  else
    bI (f_Scan_byteAt (M 1 2) M) (fun r10 M9 =>
    bI (f_Scan_isLetter r10 M9) (fun r12 M11 =>
    if i32 r12 = 0 then
      kx104 v1 M11
    else
      bI (f_Scan_byteAt (M11 1 2) M11) (fun r14 M13 =>
      bd (up M13 1 2 ((M13 1 2) + 1)) (fun M15 =>
      kH (or32 v1 (shl32 ((r14 - 97) + 1) (5 * v2))) (v2 + 1) M15))))
set_option maxRecDepth 20000 in
set_option maxHeartbeats 4000000 in
theorem w_Scan_name_B48 (d : Nat) (kH : Int → Int → Mm → Option (Int × Mm)) (kx104 : Int → Mm → Option (Int × Mm)) (hkH : ∀ (v1 v2 : Int) (M : Mm), T (E_Scan_name d) injI 48 [(0, .ref 1), (1, vI v1), (2, vI v2)] [] M (kH v1 v2 M)) (hkx104 : ∀ (v1 : Int) (M : Mm), T (E_Scan_name d) injI 104 [(0, .ref 1), (1, vI v1)] [] M (kx104 v1 M)) (v1 v2 : Int) (M : Mm) : T (E_Scan_name d) injI 48 [(0, .ref 1), (1, vI v1), (2, vI v2)] [] M (f_Scan_name_B48 kH kx104 v1 v2 M) := by
  unfold f_Scan_name_B48
  refine tq_iload_n 2 (E := E_Scan_name d) (pc := 48) (cks_at k_Scan_name 26 rfl rfl) rfl ?_
  refine tq_bipush (E := E_Scan_name d) (pc := 49) (cks_at k_Scan_name 27 rfl rfl) (by decide) (by decide) ?_
  refine tq_icmp_ge (E := E_Scan_name d) (pc := 51) (tgt := 104) (cks_at k_Scan_name 28 rfl rfl) (by decide) ?_ ?_
  · exact tq_sub [0, 1] rfl (hkx104 v1 M)
  · refine tq_aload_n 0 (E := E_Scan_name d) (pc := 54) (cks_at k_Scan_name 29 rfl rfl) rfl ?_
    refine tq_aload_n 0 (E := E_Scan_name d) (pc := 55) (cks_at k_Scan_name 30 rfl rfl) rfl ?_
    refine tq_getI (E := E_Scan_name d) (pc := 56) (cks_at k_Scan_name 31 rfl rfl) fo_Scan_23 so_1 rfl (by decide) ?_
    refine tq_V1 (E := E_Scan_name d) (pc := 59) (cks_at k_Scan_name 32 rfl rfl) mk_Scan_byteAt lk_Scan_45 rc_1 (Nat.le_of_ble_eq_true rfl) (c_Scan_byteAt (d + 4) (M 1 2) M) (k_I fun r10 M9 => ?_)
    refine tq_S1 (E := E_Scan_name d) (pc := 62) (cks_at k_Scan_name 33 rfl rfl) mk_Scan_isLetter lk_Scan_62 (Nat.le_of_ble_eq_true rfl) (c_Scan_isLetter (d + 4) r10 M9) (k_I fun r12 M11 => ?_)
    refine tq_if_eq (E := E_Scan_name d) (pc := 65) (tgt := 104) (cks_at k_Scan_name 34 rfl rfl) (by decide) ?_ ?_
    · exact tq_sub [0, 1] rfl (hkx104 v1 M11)
    · refine tq_iload_n 1 (E := E_Scan_name d) (pc := 68) (cks_at k_Scan_name 35 rfl rfl) rfl ?_
      refine tq_aload_n 0 (E := E_Scan_name d) (pc := 69) (cks_at k_Scan_name 36 rfl rfl) rfl ?_
      refine tq_aload_n 0 (E := E_Scan_name d) (pc := 70) (cks_at k_Scan_name 37 rfl rfl) rfl ?_
      refine tq_getI (E := E_Scan_name d) (pc := 71) (cks_at k_Scan_name 38 rfl rfl) fo_Scan_23 so_1 rfl (by decide) ?_
      refine tq_V1 (E := E_Scan_name d) (pc := 74) (cks_at k_Scan_name 39 rfl rfl) mk_Scan_byteAt lk_Scan_45 rc_1 (Nat.le_of_ble_eq_true rfl) (c_Scan_byteAt (d + 4) (M11 1 2) M11) (k_I fun r14 M13 => ?_)
      refine tq_bipush (E := E_Scan_name d) (pc := 77) (cks_at k_Scan_name 40 rfl rfl) (by decide) (by decide) ?_
      refine tq_isub (E := E_Scan_name d) (pc := 79) (cks_at k_Scan_name 41 rfl rfl) ?_
      refine tq_iconst (E := E_Scan_name d) (pc := 80) (cks_at k_Scan_name 42 rfl rfl) ?_
      refine tq_iadd (E := E_Scan_name d) (pc := 81) (cks_at k_Scan_name 43 rfl rfl) ?_
      refine tq_iconst (E := E_Scan_name d) (pc := 82) (cks_at k_Scan_name 44 rfl rfl) ?_
      refine tq_iload_n 2 (E := E_Scan_name d) (pc := 83) (cks_at k_Scan_name 45 rfl rfl) rfl ?_
      refine tq_imul (E := E_Scan_name d) (pc := 84) (cks_at k_Scan_name 46 rfl rfl) ?_
      refine tq_ishl (E := E_Scan_name d) (pc := 85) (cks_at k_Scan_name 47 rfl rfl) ?_
      refine tq_ior (E := E_Scan_name d) (pc := 86) (cks_at k_Scan_name 48 rfl rfl) ?_
      refine tq_istore_n (E := E_Scan_name d) (pc := 87) (cks_at k_Scan_name 49 rfl rfl) (show 1 < 3 by decide) rfl ?_
      refine tq_aload_n 1 (E := E_Scan_name d) (pc := 88) (cks_at k_Scan_name 50 rfl rfl) rfl ?_
      refine tq_dup (E := E_Scan_name d) (pc := 89) (cks_at k_Scan_name 51 rfl rfl) rfl ?_
      refine tq_getI (E := E_Scan_name d) (pc := 90) (cks_at k_Scan_name 52 rfl rfl) fo_Scan_23 so_1 rfl (by decide) ?_
      refine tq_iconst (E := E_Scan_name d) (pc := 93) (cks_at k_Scan_name 53 rfl rfl) ?_
      refine tq_iadd (E := E_Scan_name d) (pc := 94) (cks_at k_Scan_name 54 rfl rfl) ?_
      refine tq_putI (E := E_Scan_name d) (pc := 95) (cks_at k_Scan_name 55 rfl rfl) fo_Scan_23 so_1 rfl po_5_2 (fun M15 => ?_)
      refine tq_iinc 2 (E := E_Scan_name d) (pc := 98) (cks_at k_Scan_name 56 rfl rfl) rfl (show 2 < 3 by decide) rfl ?_
      refine tq_goto (tgt := 48) (E := E_Scan_name d) (pc := 101) (cks_at k_Scan_name 57 rfl rfl) (by decide) ?_
      exact tq_sub [2, 1, 0] rfl (hkH (or32 v1 (shl32 ((r14 - 97) + 1) (5 * v2))) (v2 + 1) M15)
def f_Scan_name_L48 (kx104 : Int → Mm → Option (Int × Mm)) : Nat → Int × Int × Mm → Option (Int × Mm) := lp fun kH s => f_Scan_name_B48 (fun v1 v2 M => kH (v1, v2, M)) kx104 s.1 s.2.1 s.2.2
set_option maxRecDepth 20000 in
set_option maxHeartbeats 4000000 in
theorem w_Scan_name_L48 (d : Nat) (kx104 : Int → Mm → Option (Int × Mm)) (hkx104 : ∀ (v1 : Int) (M : Mm), T (E_Scan_name d) injI 104 [(0, .ref 1), (1, vI v1)] [] M (kx104 v1 M)) (n : Nat) (s : Int × Int × Mm) : T (E_Scan_name d) injI 48 [(0, .ref 1), (1, vI s.1), (2, vI s.2.1)] [] s.2.2 (f_Scan_name_L48 kx104 n s) :=
  tq_lp (fun s => [(0, .ref 1), (1, vI s.1), (2, vI s.2.1)]) (fun s => s.2.2) (fun kH hH s => w_Scan_name_B48 d (fun v1 v2 M => kH (v1, v2, M)) kx104 (fun v1 v2 M => hH (v1, v2, M)) hkx104 s.1 s.2.1 s.2.2) n s
def f_Scan_name_J104 (v1 : Int) (M : Mm) : Option (Int × Mm) :=
  bd (up M 1 3 (M 1 2)) (fun M17 =>
  bI (f_Scan_byteAt (M17 1 2) M17) (fun r19 M18 =>
  bI (f_Scan_isLetter r19 M18) (fun r21 M20 =>
  if i32 r21 = 0 then
    bI (f_Scan_isOwnWord v1 M20) (fun r23 M22 =>
    if i32 r23 = 0 then
      some (v1, M22)
    else
      bI (f_Scan_fail 1 (M22 1 4) M22) (fun r25 M24 =>
      some ((-1), M24)))
  else
    bI (f_Scan_fail 1 (M20 1 2) M20) (fun r27 M26 =>
    some ((-1), M26)))))
set_option maxRecDepth 20000 in
set_option maxHeartbeats 4000000 in
theorem w_Scan_name_J104 (d : Nat) (v1 : Int) (M : Mm) : T (E_Scan_name d) injI 104 [(0, .ref 1), (1, vI v1)] [] M (f_Scan_name_J104 v1 M) := by
  unfold f_Scan_name_J104
  refine tq_aload_n 0 (E := E_Scan_name d) (pc := 104) (cks_at k_Scan_name 58 rfl rfl) rfl ?_
  refine tq_aload_n 0 (E := E_Scan_name d) (pc := 105) (cks_at k_Scan_name 59 rfl rfl) rfl ?_
  refine tq_getI (E := E_Scan_name d) (pc := 106) (cks_at k_Scan_name 60 rfl rfl) fo_Scan_23 so_1 rfl (by decide) ?_
  refine tq_putI (E := E_Scan_name d) (pc := 109) (cks_at k_Scan_name 61 rfl rfl) fo_Scan_26 so_1 rfl po_5_3 (fun M17 => ?_)
  refine tq_aload_n 0 (E := E_Scan_name d) (pc := 112) (cks_at k_Scan_name 62 rfl rfl) rfl ?_
  refine tq_aload_n 0 (E := E_Scan_name d) (pc := 113) (cks_at k_Scan_name 63 rfl rfl) rfl ?_
  refine tq_getI (E := E_Scan_name d) (pc := 114) (cks_at k_Scan_name 64 rfl rfl) fo_Scan_23 so_1 rfl (by decide) ?_
  refine tq_V1 (E := E_Scan_name d) (pc := 117) (cks_at k_Scan_name 65 rfl rfl) mk_Scan_byteAt lk_Scan_45 rc_1 (Nat.le_of_ble_eq_true rfl) (c_Scan_byteAt (d + 4) (M17 1 2) M17) (k_I fun r19 M18 => ?_)
  refine tq_S1 (E := E_Scan_name d) (pc := 120) (cks_at k_Scan_name 66 rfl rfl) mk_Scan_isLetter lk_Scan_62 (Nat.le_of_ble_eq_true rfl) (c_Scan_isLetter (d + 4) r19 M18) (k_I fun r21 M20 => ?_)
  refine tq_if_eq (E := E_Scan_name d) (pc := 123) (tgt := 138) (cks_at k_Scan_name 67 rfl rfl) (by decide) ?_ ?_
  · refine tq_iload_n 1 (E := E_Scan_name d) (pc := 138) (cks_at k_Scan_name 76 rfl rfl) rfl ?_
    refine tq_S1 (E := E_Scan_name d) (pc := 139) (cks_at k_Scan_name 77 rfl rfl) mk_Scan_isOwnWord lk_Scan_79 (Nat.le_of_ble_eq_true rfl) (c_Scan_isOwnWord (d + 0) v1 M20) (k_I fun r23 M22 => ?_)
    refine tq_if_eq (E := E_Scan_name d) (pc := 142) (tgt := 157) (cks_at k_Scan_name 78 rfl rfl) (by decide) ?_ ?_
    · refine tq_iload_n 1 (E := E_Scan_name d) (pc := 157) (cks_at k_Scan_name 87 rfl rfl) rfl ?_
      exact tq_iret (E := E_Scan_name d) (pc := 158) (cks_at k_Scan_name 88 rfl rfl) rfl
    · refine tq_aload_n 0 (E := E_Scan_name d) (pc := 145) (cks_at k_Scan_name 79 rfl rfl) rfl ?_
      refine tq_iconst (E := E_Scan_name d) (pc := 146) (cks_at k_Scan_name 80 rfl rfl) ?_
      refine tq_aload_n 0 (E := E_Scan_name d) (pc := 147) (cks_at k_Scan_name 81 rfl rfl) rfl ?_
      refine tq_getI (E := E_Scan_name d) (pc := 148) (cks_at k_Scan_name 82 rfl rfl) fo_Scan_29 so_1 rfl (by decide) ?_
      refine tq_V2 (E := E_Scan_name d) (pc := 151) (cks_at k_Scan_name 83 rfl rfl) mk_Scan_fail lk_Scan_41 rc_1 (Nat.le_of_ble_eq_true rfl) (c_Scan_fail (d + 4) 1 (M22 1 4) M22) (k_I fun r25 M24 => ?_)
      refine tq_pop (E := E_Scan_name d) (pc := 154) (cks_at k_Scan_name 84 rfl rfl) rfl ?_
      refine tq_iconst (E := E_Scan_name d) (pc := 155) (cks_at k_Scan_name 85 rfl rfl) ?_
      exact tq_iret (E := E_Scan_name d) (pc := 156) (cks_at k_Scan_name 86 rfl rfl) rfl
  · refine tq_aload_n 0 (E := E_Scan_name d) (pc := 126) (cks_at k_Scan_name 68 rfl rfl) rfl ?_
    refine tq_iconst (E := E_Scan_name d) (pc := 127) (cks_at k_Scan_name 69 rfl rfl) ?_
    refine tq_aload_n 0 (E := E_Scan_name d) (pc := 128) (cks_at k_Scan_name 70 rfl rfl) rfl ?_
    refine tq_getI (E := E_Scan_name d) (pc := 129) (cks_at k_Scan_name 71 rfl rfl) fo_Scan_23 so_1 rfl (by decide) ?_
    refine tq_V2 (E := E_Scan_name d) (pc := 132) (cks_at k_Scan_name 72 rfl rfl) mk_Scan_fail lk_Scan_41 rc_1 (Nat.le_of_ble_eq_true rfl) (c_Scan_fail (d + 4) 1 (M20 1 2) M20) (k_I fun r27 M26 => ?_)
    refine tq_pop (E := E_Scan_name d) (pc := 135) (cks_at k_Scan_name 73 rfl rfl) rfl ?_
    refine tq_iconst (E := E_Scan_name d) (pc := 136) (cks_at k_Scan_name 74 rfl rfl) ?_
    exact tq_iret (E := E_Scan_name d) (pc := 137) (cks_at k_Scan_name 75 rfl rfl) rfl
def f_Scan_name (M : Mm) : Option (Int × Mm) :=
  bV (f_Scan_skip M) (fun M1 =>
  bd (up M1 1 4 (M1 1 2)) (fun M2 =>
  if i32 (M2 1 2) = i32 (M2 1 3) then
    bI (f_Scan_unexpected M2) (fun r4 M3 =>
    some ((-1), M3))
  else
    bI (f_Scan_byteAt (M2 1 2) M2) (fun r6 M5 =>
    bI (f_Scan_isLetter r6 M5) (fun r8 M7 =>
    if ¬ i32 r8 = 0 then
      f_Scan_name_L48 (fun v1 M16 => f_Scan_name_J104 v1 M16) FU (0, 0, M7)
    else
      bI (f_Scan_unexpected M7) (fun r29 M28 =>
      some ((-1), M28))))))
set_option maxRecDepth 20000 in
set_option maxHeartbeats 4000000 in
theorem c_Scan_name (d : Nat) (M : Mm) (Q : Option Value → Mm → Prop) (h : sat injI (f_Scan_name M) Q) : Ct (d + 6) y_Scan_name [.ref 1] M Q := by
  refine ct_in (d := d + 5) mk_Scan_name (Nat.le_of_ble_eq_true rfl) (?_ : T (E_Scan_name d) injI 0 [(0, .ref 1)] [] M (f_Scan_name M)) h
  unfold f_Scan_name
  refine tq_aload_n 0 (E := E_Scan_name d) (pc := 0) (cks_at k_Scan_name 0 rfl rfl) rfl ?_
  refine tq_V0 (E := E_Scan_name d) (pc := 1) (cks_at k_Scan_name 1 rfl rfl) mk_Scan_skip lk_Scan_38 rc_1 (Nat.le_of_ble_eq_true rfl) (c_Scan_skip (d + 4) M) (k_V fun M1 => ?_)
  refine tq_aload_n 0 (E := E_Scan_name d) (pc := 4) (cks_at k_Scan_name 2 rfl rfl) rfl ?_
  refine tq_aload_n 0 (E := E_Scan_name d) (pc := 5) (cks_at k_Scan_name 3 rfl rfl) rfl ?_
  refine tq_getI (E := E_Scan_name d) (pc := 6) (cks_at k_Scan_name 4 rfl rfl) fo_Scan_23 so_1 rfl (by decide) ?_
  refine tq_putI (E := E_Scan_name d) (pc := 9) (cks_at k_Scan_name 5 rfl rfl) fo_Scan_29 so_1 rfl po_5_4 (fun M2 => ?_)
  refine tq_aload_n 0 (E := E_Scan_name d) (pc := 12) (cks_at k_Scan_name 6 rfl rfl) rfl ?_
  refine tq_getI (E := E_Scan_name d) (pc := 13) (cks_at k_Scan_name 7 rfl rfl) fo_Scan_23 so_1 rfl (by decide) ?_
  refine tq_aload_n 0 (E := E_Scan_name d) (pc := 16) (cks_at k_Scan_name 8 rfl rfl) rfl ?_
  refine tq_getI (E := E_Scan_name d) (pc := 17) (cks_at k_Scan_name 9 rfl rfl) fo_Scan_26 so_1 rfl (by decide) ?_
  refine tq_icmp_eq (E := E_Scan_name d) (pc := 20) (tgt := 37) (cks_at k_Scan_name 10 rfl rfl) (by decide) ?_ ?_
  · refine tq_aload_n 0 (E := E_Scan_name d) (pc := 37) (cks_at k_Scan_name 17 rfl rfl) rfl ?_
    refine tq_V0 (E := E_Scan_name d) (pc := 38) (cks_at k_Scan_name 18 rfl rfl) mk_Scan_unexpected lk_Scan_53 rc_1 (Nat.le_of_ble_eq_true rfl) (c_Scan_unexpected (d + 3) M2) (k_I fun r4 M3 => ?_)
    refine tq_pop (E := E_Scan_name d) (pc := 41) (cks_at k_Scan_name 19 rfl rfl) rfl ?_
    refine tq_iconst (E := E_Scan_name d) (pc := 42) (cks_at k_Scan_name 20 rfl rfl) ?_
    exact tq_iret (E := E_Scan_name d) (pc := 43) (cks_at k_Scan_name 21 rfl rfl) rfl
  · refine tq_aload_n 0 (E := E_Scan_name d) (pc := 23) (cks_at k_Scan_name 11 rfl rfl) rfl ?_
    refine tq_aload_n 0 (E := E_Scan_name d) (pc := 24) (cks_at k_Scan_name 12 rfl rfl) rfl ?_
    refine tq_getI (E := E_Scan_name d) (pc := 25) (cks_at k_Scan_name 13 rfl rfl) fo_Scan_23 so_1 rfl (by decide) ?_
    refine tq_V1 (E := E_Scan_name d) (pc := 28) (cks_at k_Scan_name 14 rfl rfl) mk_Scan_byteAt lk_Scan_45 rc_1 (Nat.le_of_ble_eq_true rfl) (c_Scan_byteAt (d + 4) (M2 1 2) M2) (k_I fun r6 M5 => ?_)
    refine tq_S1 (E := E_Scan_name d) (pc := 31) (cks_at k_Scan_name 15 rfl rfl) mk_Scan_isLetter lk_Scan_62 (Nat.le_of_ble_eq_true rfl) (c_Scan_isLetter (d + 4) r6 M5) (k_I fun r8 M7 => ?_)
    refine tq_if_ne (E := E_Scan_name d) (pc := 34) (tgt := 44) (cks_at k_Scan_name 16 rfl rfl) (by decide) ?_ ?_
    · refine tq_iconst (E := E_Scan_name d) (pc := 44) (cks_at k_Scan_name 22 rfl rfl) ?_
      refine tq_istore_n (E := E_Scan_name d) (pc := 45) (cks_at k_Scan_name 23 rfl rfl) (show 1 < 3 by decide) rfl ?_
      refine tq_iconst (E := E_Scan_name d) (pc := 46) (cks_at k_Scan_name 24 rfl rfl) ?_
      refine tq_istore_n (E := E_Scan_name d) (pc := 47) (cks_at k_Scan_name 25 rfl rfl) (show 2 < 3 by decide) rfl ?_
      exact tq_sub [2, 1, 0] rfl (w_Scan_name_L48 d _ (fun v1 M16 => by
          exact tq_sub [0, 1] rfl (w_Scan_name_J104 d v1 M16)) FU (0, 0, M7))
    · refine tq_aload_n 0 (E := E_Scan_name d) (pc := 37) (cks_at k_Scan_name 17 rfl rfl) rfl ?_
      refine tq_V0 (E := E_Scan_name d) (pc := 38) (cks_at k_Scan_name 18 rfl rfl) mk_Scan_unexpected lk_Scan_53 rc_1 (Nat.le_of_ble_eq_true rfl) (c_Scan_unexpected (d + 3) M7) (k_I fun r29 M28 => ?_)
      refine tq_pop (E := E_Scan_name d) (pc := 41) (cks_at k_Scan_name 19 rfl rfl) rfl ?_
      refine tq_iconst (E := E_Scan_name d) (pc := 42) (cks_at k_Scan_name 20 rfl rfl) ?_
      exact tq_iret (E := E_Scan_name d) (pc := 43) (cks_at k_Scan_name 21 rfl rfl) rfl
abbrev E_Told_named (d : Nat) : Ev := (Ct (d + 1), "BreathTown$Told", prog_9_method_6_code, 4, False, 0, (fun _ => 0), (Option.some Jvm.ClassFile.FieldType.int))
def f_Told_named_B2 (this : Nat) (kH : Int → Int → Int → Mm → Option (Int × Mm)) (v1 v2 v3 : Int) (M : Mm) : Option (Int × Mm) :=
  bI (f_BT_cell (ptr this 0) v1 M) (fun r2 M1 =>
  if i32 r2 ≤ i32 v3 then
    some ((-1), M1)
  else
    bI (f_BT_cell (ptr this 1) ((v1 * 12) + v3) M1) (fun r4 M3 =>
    if ¬ i32 r4 = i32 v2 then
      kH v1 v2 (v3 + 1) M3
    else
      some (v3, M3)))
set_option maxRecDepth 20000 in
set_option maxHeartbeats 4000000 in
theorem w_Told_named_B2 (d : Nat) (this : Nat) (hthis : isTold this) (kH : Int → Int → Int → Mm → Option (Int × Mm)) (hkH : ∀ (v1 v2 v3 : Int) (M : Mm), T (E_Told_named d) injI 2 [(0, .ref this), (1, vI v1), (2, vI v2), (3, vI v3)] [] M (kH v1 v2 v3 M)) (v1 v2 v3 : Int) (M : Mm) : T (E_Told_named d) injI 2 [(0, .ref this), (1, vI v1), (2, vI v2), (3, vI v3)] [] M (f_Told_named_B2 this kH v1 v2 v3 M) := by
  unfold f_Told_named_B2
  refine tq_iload_n 3 (E := E_Told_named d) (pc := 2) (cks_at k_Told_named 2 rfl rfl) rfl ?_
  refine tq_aload_n 0 (E := E_Told_named d) (pc := 3) (cks_at k_Told_named 3 rfl rfl) rfl ?_
  refine tq_getR (j := ptr this 0) (E := E_Told_named d) (pc := 4) (cks_at k_Told_named 4 rfl rfl) fo_Told_9 (isTold_ok hthis) rfl rfl ?_
  refine tq_iload_n 1 (E := E_Told_named d) (pc := 7) (cks_at k_Told_named 5 rfl rfl) rfl ?_
  refine tq_S2 (E := E_Told_named d) (pc := 8) (cks_at k_Told_named 6 rfl rfl) mk_BT_cell lk_Told_74 (Nat.le_of_ble_eq_true rfl) (c_BT_cell (d + 0) (ptr this 0) (sa_Told_0 hthis) v1 M) (k_I fun r2 M1 => ?_)
  refine tq_icmp_ge (E := E_Told_named d) (pc := 11) (tgt := 39) (cks_at k_Told_named 7 rfl rfl) (by decide) ?_ ?_
  · refine tq_iconst (E := E_Told_named d) (pc := 39) (cks_at k_Told_named 22 rfl rfl) ?_
    exact tq_iret (E := E_Told_named d) (pc := 40) (cks_at k_Told_named 23 rfl rfl) rfl
  · refine tq_aload_n 0 (E := E_Told_named d) (pc := 14) (cks_at k_Told_named 8 rfl rfl) rfl ?_
    refine tq_getR (j := ptr this 1) (E := E_Told_named d) (pc := 15) (cks_at k_Told_named 9 rfl rfl) fo_Told_15 (isTold_ok hthis) rfl rfl ?_
    refine tq_iload_n 1 (E := E_Told_named d) (pc := 18) (cks_at k_Told_named 10 rfl rfl) rfl ?_
    refine tq_bipush (E := E_Told_named d) (pc := 19) (cks_at k_Told_named 11 rfl rfl) (by decide) (by decide) ?_
    refine tq_imul (E := E_Told_named d) (pc := 21) (cks_at k_Told_named 12 rfl rfl) ?_
    refine tq_iload_n 3 (E := E_Told_named d) (pc := 22) (cks_at k_Told_named 13 rfl rfl) rfl ?_
    refine tq_iadd (E := E_Told_named d) (pc := 23) (cks_at k_Told_named 14 rfl rfl) ?_
    refine tq_S2 (E := E_Told_named d) (pc := 24) (cks_at k_Told_named 15 rfl rfl) mk_BT_cell lk_Told_74 (Nat.le_of_ble_eq_true rfl) (c_BT_cell (d + 0) (ptr this 1) (sa_Told_1 hthis) ((v1 * 12) + v3) M1) (k_I fun r4 M3 => ?_)
    refine tq_iload_n 2 (E := E_Told_named d) (pc := 27) (cks_at k_Told_named 16 rfl rfl) rfl ?_
    refine tq_icmp_ne (E := E_Told_named d) (pc := 28) (tgt := 33) (cks_at k_Told_named 17 rfl rfl) (by decide) ?_ ?_
    · refine tq_iinc 3 (E := E_Told_named d) (pc := 33) (cks_at k_Told_named 20 rfl rfl) rfl (show 3 < 4 by decide) rfl ?_
      refine tq_goto (tgt := 2) (E := E_Told_named d) (pc := 36) (cks_at k_Told_named 21 rfl rfl) (by decide) ?_
      exact tq_sub [1, 2, 3, 0] rfl (hkH v1 v2 (v3 + 1) M3)
    · refine tq_iload_n 3 (E := E_Told_named d) (pc := 31) (cks_at k_Told_named 18 rfl rfl) rfl ?_
      exact tq_iret (E := E_Told_named d) (pc := 32) (cks_at k_Told_named 19 rfl rfl) rfl
def f_Told_named_L2 (this : Nat) : Nat → Int × Int × Int × Mm → Option (Int × Mm) := lp fun kH s => f_Told_named_B2 this (fun v1 v2 v3 M => kH (v1, v2, v3, M)) s.1 s.2.1 s.2.2.1 s.2.2.2
set_option maxRecDepth 20000 in
set_option maxHeartbeats 4000000 in
theorem w_Told_named_L2 (d : Nat) (this : Nat) (hthis : isTold this) (n : Nat) (s : Int × Int × Int × Mm) : T (E_Told_named d) injI 2 [(0, .ref this), (1, vI s.1), (2, vI s.2.1), (3, vI s.2.2.1)] [] s.2.2.2 (f_Told_named_L2 this n s) :=
  tq_lp (fun s => [(0, .ref this), (1, vI s.1), (2, vI s.2.1), (3, vI s.2.2.1)]) (fun s => s.2.2.2) (fun kH hH s => w_Told_named_B2 d this hthis (fun v1 v2 v3 M => kH (v1, v2, v3, M)) (fun v1 v2 v3 M => hH (v1, v2, v3, M)) s.1 s.2.1 s.2.2.1 s.2.2.2) n s
def f_Told_named (this : Nat) (v1 : Int) (v2 : Int) (M : Mm) : Option (Int × Mm) :=
  f_Told_named_L2 this FU (v1, v2, 0, M)
set_option maxRecDepth 20000 in
set_option maxHeartbeats 4000000 in
theorem c_Told_named (d : Nat) (this : Nat) (hthis : isTold this) (v1 : Int) (v2 : Int) (M : Mm) (Q : Option Value → Mm → Prop) (h : sat injI (f_Told_named this v1 v2 M) Q) : Ct (d + 2) y_Told_named [.ref this, vI v1, vI v2] M Q := by
  refine ct_in (d := d + 1) mk_Told_named (Nat.le_of_ble_eq_true rfl) (?_ : T (E_Told_named d) injI 0 [(0, .ref this), (1, vI v1), (2, vI v2)] [] M (f_Told_named this v1 v2 M)) h
  unfold f_Told_named
  refine tq_iconst (E := E_Told_named d) (pc := 0) (cks_at k_Told_named 0 rfl rfl) ?_
  refine tq_istore_n (E := E_Told_named d) (pc := 1) (cks_at k_Told_named 1 rfl rfl) (show 3 < 4 by decide) rfl ?_
  exact tq_sub [1, 2, 3, 0] rfl (w_Told_named_L2 d this hthis FU (v1, v2, 0, M))
abbrev E_Told_knows (d : Nat) : Ev := (Ct (d + 2), "BreathTown$Told", prog_9_method_7_code, 2, False, 0, (fun _ => 0), (Option.some Jvm.ClassFile.FieldType.boolean))
def f_Told_knows (this : Nat) (v1 : Int) (M : Mm) : Option (Int × Mm) :=
  bI (f_Told_named this 0 v1 M) (fun r2 M1 =>
  if ¬ i32 r2 = i32 ((-1)) then
    some (1, M1)
  else
    bI (f_Told_named this 1 v1 M1) (fun r4 M3 =>
    if ¬ i32 r4 = i32 ((-1)) then
      some (1, M3)
    else
      bI (f_Told_named this 2 v1 M3) (fun r6 M5 =>
      if i32 r6 = i32 ((-1)) then
        some (0, M5)
      else
        some (1, M5))))
set_option maxRecDepth 20000 in
set_option maxHeartbeats 4000000 in
theorem c_Told_knows (d : Nat) (this : Nat) (hthis : isTold this) (v1 : Int) (M : Mm) (Q : Option Value → Mm → Prop) (h : sat injI (f_Told_knows this v1 M) Q) : Ct (d + 3) y_Told_knows [.ref this, vI v1] M Q := by
  refine ct_in (d := d + 2) mk_Told_knows (Nat.le_of_ble_eq_true rfl) (?_ : T (E_Told_knows d) injI 0 [(0, .ref this), (1, vI v1)] [] M (f_Told_knows this v1 M)) h
  unfold f_Told_knows
  refine tq_aload_n 0 (E := E_Told_knows d) (pc := 0) (cks_at k_Told_knows 0 rfl rfl) rfl ?_
  refine tq_iconst (E := E_Told_knows d) (pc := 1) (cks_at k_Told_knows 1 rfl rfl) ?_
  refine tq_iload_n 1 (E := E_Told_knows d) (pc := 2) (cks_at k_Told_knows 2 rfl rfl) rfl ?_
  refine tq_V2 (E := E_Told_knows d) (pc := 3) (cks_at k_Told_knows 3 rfl rfl) mk_Told_named lk_Told_82 (isTold_rc hthis) (Nat.le_of_ble_eq_true rfl) (c_Told_named (d + 0) this hthis 0 v1 M) (k_I fun r2 M1 => ?_)
  refine tq_iconst (E := E_Told_knows d) (pc := 6) (cks_at k_Told_knows 4 rfl rfl) ?_
  refine tq_icmp_ne (E := E_Told_knows d) (pc := 7) (tgt := 30) (cks_at k_Told_knows 5 rfl rfl) (by decide) ?_ ?_
  · refine tq_iconst (E := E_Told_knows d) (pc := 30) (cks_at k_Told_knows 18 rfl rfl) ?_
    refine tq_goto (tgt := 35) (E := E_Told_knows d) (pc := 31) (cks_at k_Told_knows 19 rfl rfl) (by decide) ?_
    exact tq_zretC (E := E_Told_knows d) (pc := 35) (cks_at k_Told_knows 21 rfl rfl) rfl (by decide)
  · refine tq_aload_n 0 (E := E_Told_knows d) (pc := 10) (cks_at k_Told_knows 6 rfl rfl) rfl ?_
    refine tq_iconst (E := E_Told_knows d) (pc := 11) (cks_at k_Told_knows 7 rfl rfl) ?_
    refine tq_iload_n 1 (E := E_Told_knows d) (pc := 12) (cks_at k_Told_knows 8 rfl rfl) rfl ?_
    refine tq_V2 (E := E_Told_knows d) (pc := 13) (cks_at k_Told_knows 9 rfl rfl) mk_Told_named lk_Told_82 (isTold_rc hthis) (Nat.le_of_ble_eq_true rfl) (c_Told_named (d + 0) this hthis 1 v1 M1) (k_I fun r4 M3 => ?_)
    refine tq_iconst (E := E_Told_knows d) (pc := 16) (cks_at k_Told_knows 10 rfl rfl) ?_
    refine tq_icmp_ne (E := E_Told_knows d) (pc := 17) (tgt := 30) (cks_at k_Told_knows 11 rfl rfl) (by decide) ?_ ?_
    · refine tq_iconst (E := E_Told_knows d) (pc := 30) (cks_at k_Told_knows 18 rfl rfl) ?_
      refine tq_goto (tgt := 35) (E := E_Told_knows d) (pc := 31) (cks_at k_Told_knows 19 rfl rfl) (by decide) ?_
      exact tq_zretC (E := E_Told_knows d) (pc := 35) (cks_at k_Told_knows 21 rfl rfl) rfl (by decide)
    · refine tq_aload_n 0 (E := E_Told_knows d) (pc := 20) (cks_at k_Told_knows 12 rfl rfl) rfl ?_
      refine tq_iconst (E := E_Told_knows d) (pc := 21) (cks_at k_Told_knows 13 rfl rfl) ?_
      refine tq_iload_n 1 (E := E_Told_knows d) (pc := 22) (cks_at k_Told_knows 14 rfl rfl) rfl ?_
      refine tq_V2 (E := E_Told_knows d) (pc := 23) (cks_at k_Told_knows 15 rfl rfl) mk_Told_named lk_Told_82 (isTold_rc hthis) (Nat.le_of_ble_eq_true rfl) (c_Told_named (d + 0) this hthis 2 v1 M3) (k_I fun r6 M5 => ?_)
      refine tq_iconst (E := E_Told_knows d) (pc := 26) (cks_at k_Told_knows 16 rfl rfl) ?_
      refine tq_icmp_eq (E := E_Told_knows d) (pc := 27) (tgt := 34) (cks_at k_Told_knows 17 rfl rfl) (by decide) ?_ ?_
      · refine tq_iconst (E := E_Told_knows d) (pc := 34) (cks_at k_Told_knows 20 rfl rfl) ?_
        exact tq_zretC (E := E_Told_knows d) (pc := 35) (cks_at k_Told_knows 21 rfl rfl) rfl (by decide)
      · refine tq_iconst (E := E_Told_knows d) (pc := 30) (cks_at k_Told_knows 18 rfl rfl) ?_
        refine tq_goto (tgt := 35) (E := E_Told_knows d) (pc := 31) (cks_at k_Told_knows 19 rfl rfl) (by decide) ?_
        exact tq_zretC (E := E_Told_knows d) (pc := 35) (cks_at k_Told_knows 21 rfl rfl) rfl (by decide)
abbrev E_Told_enter (d : Nat) : Ev := (Ct (d + 2), "BreathTown$Told", prog_9_method_8_code, 4, False, 0, (fun _ => 0), (Option.some Jvm.ClassFile.FieldType.int))
def f_Told_enter (this : Nat) (v1 : Int) (v2 : Int) (M : Mm) : Option (Int × Mm) :=
  bI (f_Told_count this v1 M) (fun r2 M1 =>
  bV (f_BT_setCell (ptr this 1) ((v1 * 12) + r2) v2 M1) (fun M3 =>
  bV (f_BT_setCell (ptr this 0) v1 (r2 + 1) M3) (fun M4 =>
  some (r2, M4))))
set_option maxRecDepth 20000 in
set_option maxHeartbeats 4000000 in
theorem c_Told_enter (d : Nat) (this : Nat) (hthis : isTold this) (v1 : Int) (v2 : Int) (M : Mm) (Q : Option Value → Mm → Prop) (h : sat injI (f_Told_enter this v1 v2 M) Q) : Ct (d + 3) y_Told_enter [.ref this, vI v1, vI v2] M Q := by
  refine ct_in (d := d + 2) mk_Told_enter (Nat.le_of_ble_eq_true rfl) (?_ : T (E_Told_enter d) injI 0 [(0, .ref this), (1, vI v1), (2, vI v2)] [] M (f_Told_enter this v1 v2 M)) h
  unfold f_Told_enter
  refine tq_aload_n 0 (E := E_Told_enter d) (pc := 0) (cks_at k_Told_enter 0 rfl rfl) rfl ?_
  refine tq_iload_n 1 (E := E_Told_enter d) (pc := 1) (cks_at k_Told_enter 1 rfl rfl) rfl ?_
  refine tq_V1 (E := E_Told_enter d) (pc := 2) (cks_at k_Told_enter 2 rfl rfl) mk_Told_count lk_Told_78 (isTold_rc hthis) (Nat.le_of_ble_eq_true rfl) (c_Told_count (d + 0) this hthis v1 M) (k_I fun r2 M1 => ?_)
  refine tq_istore_n (E := E_Told_enter d) (pc := 5) (cks_at k_Told_enter 3 rfl rfl) (show 3 < 4 by decide) rfl ?_
  refine tq_aload_n 1 (E := E_Told_enter d) (pc := 6) (cks_at k_Told_enter 4 rfl rfl) rfl ?_
  refine tq_getR (j := ptr this 1) (E := E_Told_enter d) (pc := 7) (cks_at k_Told_enter 5 rfl rfl) fo_Told_15 (isTold_ok hthis) rfl rfl ?_
  refine tq_iload_n 2 (E := E_Told_enter d) (pc := 10) (cks_at k_Told_enter 6 rfl rfl) rfl ?_
  refine tq_bipush (E := E_Told_enter d) (pc := 11) (cks_at k_Told_enter 7 rfl rfl) (by decide) (by decide) ?_
  refine tq_imul (E := E_Told_enter d) (pc := 13) (cks_at k_Told_enter 8 rfl rfl) ?_
  refine tq_iload_n 0 (E := E_Told_enter d) (pc := 14) (cks_at k_Told_enter 9 rfl rfl) rfl ?_
  refine tq_iadd (E := E_Told_enter d) (pc := 15) (cks_at k_Told_enter 10 rfl rfl) ?_
  refine tq_iload_n 3 (E := E_Told_enter d) (pc := 16) (cks_at k_Told_enter 11 rfl rfl) rfl ?_
  refine tq_S3 (E := E_Told_enter d) (pc := 17) (cks_at k_Told_enter 12 rfl rfl) mk_BT_setCell lk_Told_86 (Nat.le_of_ble_eq_true rfl) (c_BT_setCell (d + 1) (ptr this 1) (sa_Told_1 hthis) ((v1 * 12) + r2) v2 M1) (k_V fun M3 => ?_)
  refine tq_aload_n 1 (E := E_Told_enter d) (pc := 20) (cks_at k_Told_enter 13 rfl rfl) rfl ?_
  refine tq_getR (j := ptr this 0) (E := E_Told_enter d) (pc := 21) (cks_at k_Told_enter 14 rfl rfl) fo_Told_9 (isTold_ok hthis) rfl rfl ?_
  refine tq_iload_n 2 (E := E_Told_enter d) (pc := 24) (cks_at k_Told_enter 15 rfl rfl) rfl ?_
  refine tq_iload_n 0 (E := E_Told_enter d) (pc := 25) (cks_at k_Told_enter 16 rfl rfl) rfl ?_
  refine tq_iconst (E := E_Told_enter d) (pc := 26) (cks_at k_Told_enter 17 rfl rfl) ?_
  refine tq_iadd (E := E_Told_enter d) (pc := 27) (cks_at k_Told_enter 18 rfl rfl) ?_
  refine tq_S3 (E := E_Told_enter d) (pc := 28) (cks_at k_Told_enter 19 rfl rfl) mk_BT_setCell lk_Told_86 (Nat.le_of_ble_eq_true rfl) (c_BT_setCell (d + 1) (ptr this 0) (sa_Told_0 hthis) v1 (r2 + 1) M3) (k_V fun M4 => ?_)
  refine tq_iload_n 0 (E := E_Told_enter d) (pc := 31) (cks_at k_Told_enter 20 rfl rfl) rfl ?_
  exact tq_iret (E := E_Told_enter d) (pc := 32) (cks_at k_Told_enter 21 rfl rfl) rfl
abbrev E_TownR_newName (d : Nat) : Ev := (Ct (d + 6), "BreathTown$TownReader", prog_10_method_4_code, 5, False, 0, (fun _ => 0), (Option.some Jvm.ClassFile.FieldType.int))
def f_TownR_newName_J52 (w1 : Nat) (v2 s0 : Int) (M : Mm) : Option (Int × Mm) :=
  if ¬ i32 s0 = i32 ((-1)) then
    bI (f_Told_knows 20 s0 M) (fun r6 M5 =>
    if i32 r6 = 0 then
      bI (f_Told_enter 20 v2 s0 M5) (fun r8 M7 =>
      some (r8, M7))
    else
      bI (f_Scan_fail 3 (M5 1 4) M5) (fun r10 M9 =>
      some ((-1), M9)))
  else
    some ((-1), M)
set_option maxRecDepth 20000 in
set_option maxHeartbeats 4000000 in
theorem w_TownR_newName_J52 (d : Nat) (w1 : Nat) (hw1 : w1 < NSt) (v2 s0 : Int) (M : Mm) : T (E_TownR_newName d) injI 52 [(0, .ref 37), (2, vI v2)] [vI s0] M (f_TownR_newName_J52 w1 v2 s0 M) := by
  unfold f_TownR_newName_J52
  refine tq_istore (E := E_TownR_newName d) (pc := 52) (cks_at k_TownR_newName 26 rfl rfl) (show 4 < 5 by decide) rfl ?_
  refine tq_iload 0 (E := E_TownR_newName d) (pc := 54) (cks_at k_TownR_newName 27 rfl rfl) rfl ?_
  refine tq_iconst (E := E_TownR_newName d) (pc := 56) (cks_at k_TownR_newName 28 rfl rfl) ?_
  refine tq_icmp_ne (E := E_TownR_newName d) (pc := 57) (tgt := 62) (cks_at k_TownR_newName 29 rfl rfl) (by decide) ?_ ?_
  · refine tq_aload_n 1 (E := E_TownR_newName d) (pc := 62) (cks_at k_TownR_newName 32 rfl rfl) rfl ?_
    refine tq_getR (j := 20) (E := E_TownR_newName d) (pc := 63) (cks_at k_TownR_newName 33 rfl rfl) fo_TownR_15 so_37 rfl sp_37_1 ?_
    refine tq_iload 0 (E := E_TownR_newName d) (pc := 66) (cks_at k_TownR_newName 34 rfl rfl) rfl ?_
    refine tq_V1 (E := E_TownR_newName d) (pc := 68) (cks_at k_TownR_newName 35 rfl rfl) mk_Told_knows lk_TownR_101 (isTold_rc (Or.inr rfl)) (Nat.le_of_ble_eq_true rfl) (c_Told_knows (d + 3) 20 (Or.inr rfl) s0 M) (k_I fun r6 M5 => ?_)
    refine tq_if_eq (E := E_TownR_newName d) (pc := 71) (tgt := 92) (cks_at k_TownR_newName 36 rfl rfl) (by decide) ?_ ?_
    · refine tq_aload_n 1 (E := E_TownR_newName d) (pc := 92) (cks_at k_TownR_newName 47 rfl rfl) rfl ?_
      refine tq_getR (j := 20) (E := E_TownR_newName d) (pc := 93) (cks_at k_TownR_newName 48 rfl rfl) fo_TownR_15 so_37 rfl sp_37_1 ?_
      refine tq_iload_n 2 (E := E_TownR_newName d) (pc := 96) (cks_at k_TownR_newName 49 rfl rfl) rfl ?_
      refine tq_iload 0 (E := E_TownR_newName d) (pc := 97) (cks_at k_TownR_newName 50 rfl rfl) rfl ?_
      refine tq_V2 (E := E_TownR_newName d) (pc := 99) (cks_at k_TownR_newName 51 rfl rfl) mk_Told_enter lk_TownR_107 (isTold_rc (Or.inr rfl)) (Nat.le_of_ble_eq_true rfl) (c_Told_enter (d + 3) 20 (Or.inr rfl) v2 s0 M5) (k_I fun r8 M7 => ?_)
      exact tq_iret (E := E_TownR_newName d) (pc := 102) (cks_at k_TownR_newName 52 rfl rfl) rfl
    · refine tq_aload_n 1 (E := E_TownR_newName d) (pc := 74) (cks_at k_TownR_newName 37 rfl rfl) rfl ?_
      refine tq_getR (j := 1) (E := E_TownR_newName d) (pc := 75) (cks_at k_TownR_newName 38 rfl rfl) fo_TownR_9 so_37 rfl sp_37_0 ?_
      refine tq_iconst (E := E_TownR_newName d) (pc := 78) (cks_at k_TownR_newName 39 rfl rfl) ?_
      refine tq_aload_n 1 (E := E_TownR_newName d) (pc := 79) (cks_at k_TownR_newName 40 rfl rfl) rfl ?_
      refine tq_getR (j := 1) (E := E_TownR_newName d) (pc := 80) (cks_at k_TownR_newName 41 rfl rfl) fo_TownR_9 so_37 rfl sp_37_0 ?_
      refine tq_getI (E := E_TownR_newName d) (pc := 83) (cks_at k_TownR_newName 42 rfl rfl) fo_TownR_104 so_1 rfl (by decide) ?_
      refine tq_V2 (E := E_TownR_newName d) (pc := 86) (cks_at k_TownR_newName 43 rfl rfl) mk_Scan_fail lk_TownR_49 rc_1 (Nat.le_of_ble_eq_true rfl) (c_Scan_fail (d + 5) 3 (M5 1 4) M5) (k_I fun r10 M9 => ?_)
      refine tq_pop (E := E_TownR_newName d) (pc := 89) (cks_at k_TownR_newName 44 rfl rfl) rfl ?_
      refine tq_iconst (E := E_TownR_newName d) (pc := 90) (cks_at k_TownR_newName 45 rfl rfl) ?_
      exact tq_iret (E := E_TownR_newName d) (pc := 91) (cks_at k_TownR_newName 46 rfl rfl) rfl
  · refine tq_iconst (E := E_TownR_newName d) (pc := 60) (cks_at k_TownR_newName 30 rfl rfl) ?_
    exact tq_iret (E := E_TownR_newName d) (pc := 61) (cks_at k_TownR_newName 31 rfl rfl) rfl
def f_TownR_newName (w1 : Nat) (v2 : Int) (v3 : Int) (M : Mm) : Option (Int × Mm) :=
  bI (f_Told_count 20 v2 M) (fun r2 M1 =>
  if i32 r2 < i32 v3 then
    bI (f_Scan_takeWord w1 M1) (fun r4 M3 =>
    if i32 r4 = 0 then
      f_TownR_newName_J52 w1 v2 ((-1)) M3
    else
      bI (f_Scan_name M3) (fun r12 M11 =>
      f_TownR_newName_J52 w1 v2 r12 M11))
  else
    bI (f_Scan_fail 5 (M1 1 2) M1) (fun r14 M13 =>
    some ((-1), M13)))
set_option maxRecDepth 20000 in
set_option maxHeartbeats 4000000 in
theorem c_TownR_newName (d : Nat) (w1 : Nat) (hw1 : w1 < NSt) (v2 : Int) (v3 : Int) (M : Mm) (Q : Option Value → Mm → Prop) (h : sat injI (f_TownR_newName w1 v2 v3 M) Q) : Ct (d + 7) y_TownR_newName [.ref 37, .ref (1000 + w1), vI v2, vI v3] M Q := by
  refine ct_in (d := d + 6) mk_TownR_newName (Nat.le_of_ble_eq_true rfl) (?_ : T (E_TownR_newName d) injI 0 [(0, .ref 37), (1, .ref (1000 + w1)), (2, vI v2), (3, vI v3)] [] M (f_TownR_newName w1 v2 v3 M)) h
  unfold f_TownR_newName
  refine tq_aload_n 0 (E := E_TownR_newName d) (pc := 0) (cks_at k_TownR_newName 0 rfl rfl) rfl ?_
  refine tq_getR (j := 20) (E := E_TownR_newName d) (pc := 1) (cks_at k_TownR_newName 1 rfl rfl) fo_TownR_15 so_37 rfl sp_37_1 ?_
  refine tq_iload_n 2 (E := E_TownR_newName d) (pc := 4) (cks_at k_TownR_newName 2 rfl rfl) rfl ?_
  refine tq_V1 (E := E_TownR_newName d) (pc := 5) (cks_at k_TownR_newName 3 rfl rfl) mk_Told_count lk_TownR_93 (isTold_rc (Or.inr rfl)) (Nat.le_of_ble_eq_true rfl) (c_Told_count (d + 4) 20 (Or.inr rfl) v2 M) (k_I fun r2 M1 => ?_)
  refine tq_iload_n 3 (E := E_TownR_newName d) (pc := 8) (cks_at k_TownR_newName 4 rfl rfl) rfl ?_
  refine tq_icmp_lt (E := E_TownR_newName d) (pc := 9) (tgt := 30) (cks_at k_TownR_newName 5 rfl rfl) (by decide) ?_ ?_
  · refine tq_aload_n 0 (E := E_TownR_newName d) (pc := 30) (cks_at k_TownR_newName 16 rfl rfl) rfl ?_
    refine tq_getR (j := 1) (E := E_TownR_newName d) (pc := 31) (cks_at k_TownR_newName 17 rfl rfl) fo_TownR_9 so_37 rfl sp_37_0 ?_
    refine tq_aload_n 1 (E := E_TownR_newName d) (pc := 34) (cks_at k_TownR_newName 18 rfl rfl) rfl ?_
    refine tq_V1 (E := E_TownR_newName d) (pc := 35) (cks_at k_TownR_newName 19 rfl rfl) mk_Scan_takeWord lk_TownR_81 rc_1 (Nat.le_of_ble_eq_true rfl) (c_Scan_takeWord (d + 0) w1 hw1 M1) (k_I fun r4 M3 => ?_)
    refine tq_if_eq (E := E_TownR_newName d) (pc := 38) (tgt := 51) (cks_at k_TownR_newName 20 rfl rfl) (by decide) ?_ ?_
    · refine tq_iconst (E := E_TownR_newName d) (pc := 51) (cks_at k_TownR_newName 25 rfl rfl) ?_
      exact tq_sub [0, 2] rfl (w_TownR_newName_J52 d w1 hw1 v2 ((-1)) M3)
    · refine tq_aload_n 0 (E := E_TownR_newName d) (pc := 41) (cks_at k_TownR_newName 21 rfl rfl) rfl ?_
      refine tq_getR (j := 1) (E := E_TownR_newName d) (pc := 42) (cks_at k_TownR_newName 22 rfl rfl) fo_TownR_9 so_37 rfl sp_37_0 ?_
      refine tq_V0 (E := E_TownR_newName d) (pc := 45) (cks_at k_TownR_newName 23 rfl rfl) mk_Scan_name lk_TownR_97 rc_1 (Nat.le_of_ble_eq_true rfl) (c_Scan_name (d + 0) M3) (k_I fun r12 M11 => ?_)
      refine tq_goto (tgt := 52) (E := E_TownR_newName d) (pc := 48) (cks_at k_TownR_newName 24 rfl rfl) (by decide) ?_
      exact tq_sub [0, 2] rfl (w_TownR_newName_J52 d w1 hw1 v2 r12 M11)
  · refine tq_aload_n 0 (E := E_TownR_newName d) (pc := 12) (cks_at k_TownR_newName 6 rfl rfl) rfl ?_
    refine tq_getR (j := 1) (E := E_TownR_newName d) (pc := 13) (cks_at k_TownR_newName 7 rfl rfl) fo_TownR_9 so_37 rfl sp_37_0 ?_
    refine tq_iconst (E := E_TownR_newName d) (pc := 16) (cks_at k_TownR_newName 8 rfl rfl) ?_
    refine tq_aload_n 0 (E := E_TownR_newName d) (pc := 17) (cks_at k_TownR_newName 9 rfl rfl) rfl ?_
    refine tq_getR (j := 1) (E := E_TownR_newName d) (pc := 18) (cks_at k_TownR_newName 10 rfl rfl) fo_TownR_9 so_37 rfl sp_37_0 ?_
    refine tq_getI (E := E_TownR_newName d) (pc := 21) (cks_at k_TownR_newName 11 rfl rfl) fo_TownR_45 so_1 rfl (by decide) ?_
    refine tq_V2 (E := E_TownR_newName d) (pc := 24) (cks_at k_TownR_newName 12 rfl rfl) mk_Scan_fail lk_TownR_49 rc_1 (Nat.le_of_ble_eq_true rfl) (c_Scan_fail (d + 5) 5 (M1 1 2) M1) (k_I fun r14 M13 => ?_)
    refine tq_pop (E := E_TownR_newName d) (pc := 27) (cks_at k_TownR_newName 13 rfl rfl) rfl ?_
    refine tq_iconst (E := E_TownR_newName d) (pc := 28) (cks_at k_TownR_newName 14 rfl rfl) ?_
    exact tq_iret (E := E_TownR_newName d) (pc := 29) (cks_at k_TownR_newName 15 rfl rfl) rfl
abbrev E_TownR_placeAsked (d : Nat) : Ev := (Ct (d + 6), "BreathTown$TownReader", prog_10_method_7_code, 7, False, 0, (fun _ => 0), (Option.some Jvm.ClassFile.FieldType.boolean))
def f_TownR_placeAsked_J60 (w1 : Nat) (row3 : Nat) (M : Mm) : Option (Int × Mm) :=
  bI (f_Scan_fail 3 (M 1 4) M) (fun r8 M7 =>
  gd (i32 r8 = 0 ∨ i32 r8 = 1) (some (r8, M7)))
set_option maxRecDepth 20000 in
set_option maxHeartbeats 4000000 in
theorem w_TownR_placeAsked_J60 (d : Nat) (w1 : Nat) (row3 : Nat) (hw1 : w1 < NSt) (hrow3 : skind row3 = 20 ∧ row3 < NC) (M : Mm) : T (E_TownR_placeAsked d) injI 60 [(0, .ref 37)] [] M (f_TownR_placeAsked_J60 w1 row3 M) := by
  unfold f_TownR_placeAsked_J60
  refine tq_aload_n 0 (E := E_TownR_placeAsked d) (pc := 60) (cks_at k_TownR_placeAsked 30 rfl rfl) rfl ?_
  refine tq_getR (j := 1) (E := E_TownR_placeAsked d) (pc := 61) (cks_at k_TownR_placeAsked 31 rfl rfl) fo_TownR_9 so_37 rfl sp_37_0 ?_
  refine tq_iconst (E := E_TownR_placeAsked d) (pc := 64) (cks_at k_TownR_placeAsked 32 rfl rfl) ?_
  refine tq_aload_n 0 (E := E_TownR_placeAsked d) (pc := 65) (cks_at k_TownR_placeAsked 33 rfl rfl) rfl ?_
  refine tq_getR (j := 1) (E := E_TownR_placeAsked d) (pc := 66) (cks_at k_TownR_placeAsked 34 rfl rfl) fo_TownR_9 so_37 rfl sp_37_0 ?_
  refine tq_getI (E := E_TownR_placeAsked d) (pc := 69) (cks_at k_TownR_placeAsked 35 rfl rfl) fo_TownR_104 so_1 rfl (by decide) ?_
  refine tq_V2 (E := E_TownR_placeAsked d) (pc := 72) (cks_at k_TownR_placeAsked 36 rfl rfl) mk_Scan_fail lk_TownR_49 rc_1 (Nat.le_of_ble_eq_true rfl) (c_Scan_fail (d + 5) 3 (M 1 4) M) (k_I fun r8 M7 => ?_)
  exact tq_zret (E := E_TownR_placeAsked d) (pc := 75) (cks_at k_TownR_placeAsked 37 rfl rfl) rfl
def f_TownR_placeAsked (w1 : Nat) (row3 : Nat) (v2 : Int) (v4 : Int) (M : Mm) : Option (Int × Mm) :=
  bI (f_Scan_takeWord w1 M) (fun r2 M1 =>
  if ¬ i32 r2 = 0 then
    bI (f_Scan_name M1) (fun r4 M3 =>
    if ¬ i32 r4 = i32 ((-1)) then
      bI (f_Told_named 20 0 r4 M3) (fun r6 M5 =>
      if i32 r6 = i32 ((-1)) then
        f_TownR_placeAsked_J60 w1 row3 M5
      else
        if ¬ i32 r6 = i32 v2 then
          bV (f_BT_setCell row3 v4 r6 M5) (fun M9 =>
          some (1, M9))
        else
          f_TownR_placeAsked_J60 w1 row3 M5)
    else
      some (0, M3))
  else
    bI (f_Scan_unexpected M1) (fun r11 M10 =>
    gd (i32 r11 = 0 ∨ i32 r11 = 1) (some (r11, M10))))
set_option maxRecDepth 20000 in
set_option maxHeartbeats 4000000 in
theorem c_TownR_placeAsked (d : Nat) (w1 : Nat) (hw1 : w1 < NSt) (row3 : Nat) (hrow3 : skind row3 = 20 ∧ row3 < NC) (v2 : Int) (v4 : Int) (M : Mm) (Q : Option Value → Mm → Prop) (h : sat injI (f_TownR_placeAsked w1 row3 v2 v4 M) Q) : Ct (d + 7) y_TownR_placeAsked [.ref 37, .ref (1000 + w1), vI v2, .ref row3, vI v4] M Q := by
  refine ct_in (d := d + 6) mk_TownR_placeAsked (Nat.le_of_ble_eq_true rfl) (?_ : T (E_TownR_placeAsked d) injI 0 [(0, .ref 37), (1, .ref (1000 + w1)), (2, vI v2), (3, .ref row3), (4, vI v4)] [] M (f_TownR_placeAsked w1 row3 v2 v4 M)) h
  unfold f_TownR_placeAsked
  refine tq_aload_n 0 (E := E_TownR_placeAsked d) (pc := 0) (cks_at k_TownR_placeAsked 0 rfl rfl) rfl ?_
  refine tq_getR (j := 1) (E := E_TownR_placeAsked d) (pc := 1) (cks_at k_TownR_placeAsked 1 rfl rfl) fo_TownR_9 so_37 rfl sp_37_0 ?_
  refine tq_aload_n 1 (E := E_TownR_placeAsked d) (pc := 4) (cks_at k_TownR_placeAsked 2 rfl rfl) rfl ?_
  refine tq_V1 (E := E_TownR_placeAsked d) (pc := 5) (cks_at k_TownR_placeAsked 3 rfl rfl) mk_Scan_takeWord lk_TownR_81 rc_1 (Nat.le_of_ble_eq_true rfl) (c_Scan_takeWord (d + 0) w1 hw1 M) (k_I fun r2 M1 => ?_)
  refine tq_if_ne (E := E_TownR_placeAsked d) (pc := 8) (tgt := 19) (cks_at k_TownR_placeAsked 4 rfl rfl) (by decide) ?_ ?_
  · refine tq_aload_n 0 (E := E_TownR_placeAsked d) (pc := 19) (cks_at k_TownR_placeAsked 9 rfl rfl) rfl ?_
    refine tq_getR (j := 1) (E := E_TownR_placeAsked d) (pc := 20) (cks_at k_TownR_placeAsked 10 rfl rfl) fo_TownR_9 so_37 rfl sp_37_0 ?_
    refine tq_V0 (E := E_TownR_placeAsked d) (pc := 23) (cks_at k_TownR_placeAsked 11 rfl rfl) mk_Scan_name lk_TownR_97 rc_1 (Nat.le_of_ble_eq_true rfl) (c_Scan_name (d + 0) M1) (k_I fun r4 M3 => ?_)
    refine tq_istore (E := E_TownR_placeAsked d) (pc := 26) (cks_at k_TownR_placeAsked 12 rfl rfl) (show 5 < 7 by decide) rfl ?_
    refine tq_iload 0 (E := E_TownR_placeAsked d) (pc := 28) (cks_at k_TownR_placeAsked 13 rfl rfl) rfl ?_
    refine tq_iconst (E := E_TownR_placeAsked d) (pc := 30) (cks_at k_TownR_placeAsked 14 rfl rfl) ?_
    refine tq_icmp_ne (E := E_TownR_placeAsked d) (pc := 31) (tgt := 36) (cks_at k_TownR_placeAsked 15 rfl rfl) (by decide) ?_ ?_
    · refine tq_aload_n 1 (E := E_TownR_placeAsked d) (pc := 36) (cks_at k_TownR_placeAsked 18 rfl rfl) rfl ?_
      refine tq_getR (j := 20) (E := E_TownR_placeAsked d) (pc := 37) (cks_at k_TownR_placeAsked 19 rfl rfl) fo_TownR_15 so_37 rfl sp_37_1 ?_
      refine tq_iconst (E := E_TownR_placeAsked d) (pc := 40) (cks_at k_TownR_placeAsked 20 rfl rfl) ?_
      refine tq_iload 0 (E := E_TownR_placeAsked d) (pc := 41) (cks_at k_TownR_placeAsked 21 rfl rfl) rfl ?_
      refine tq_V2 (E := E_TownR_placeAsked d) (pc := 43) (cks_at k_TownR_placeAsked 22 rfl rfl) mk_Told_named lk_TownR_178 (isTold_rc (Or.inr rfl)) (Nat.le_of_ble_eq_true rfl) (c_Told_named (d + 4) 20 (Or.inr rfl) 0 r4 M3) (k_I fun r6 M5 => ?_)
      refine tq_istore (E := E_TownR_placeAsked d) (pc := 46) (cks_at k_TownR_placeAsked 23 rfl rfl) (show 6 < 7 by decide) rfl ?_
      refine tq_iload 0 (E := E_TownR_placeAsked d) (pc := 48) (cks_at k_TownR_placeAsked 24 rfl rfl) rfl ?_
      refine tq_iconst (E := E_TownR_placeAsked d) (pc := 50) (cks_at k_TownR_placeAsked 25 rfl rfl) ?_
      refine tq_icmp_eq (E := E_TownR_placeAsked d) (pc := 51) (tgt := 60) (cks_at k_TownR_placeAsked 26 rfl rfl) (by decide) ?_ ?_
      · exact tq_sub [2] rfl (w_TownR_placeAsked_J60 d w1 row3 hw1 hrow3 M5)
      · refine tq_iload 0 (E := E_TownR_placeAsked d) (pc := 54) (cks_at k_TownR_placeAsked 27 rfl rfl) rfl ?_
        refine tq_iload_n 4 (E := E_TownR_placeAsked d) (pc := 56) (cks_at k_TownR_placeAsked 28 rfl rfl) rfl ?_
        refine tq_icmp_ne (E := E_TownR_placeAsked d) (pc := 57) (tgt := 76) (cks_at k_TownR_placeAsked 29 rfl rfl) (by decide) ?_ ?_
        · refine tq_aload_n 5 (E := E_TownR_placeAsked d) (pc := 76) (cks_at k_TownR_placeAsked 38 rfl rfl) rfl ?_
          refine tq_iload 6 (E := E_TownR_placeAsked d) (pc := 77) (cks_at k_TownR_placeAsked 39 rfl rfl) rfl ?_
          refine tq_iload 0 (E := E_TownR_placeAsked d) (pc := 79) (cks_at k_TownR_placeAsked 40 rfl rfl) rfl ?_
          refine tq_S3 (E := E_TownR_placeAsked d) (pc := 81) (cks_at k_TownR_placeAsked 41 rfl rfl) mk_BT_setCell lk_TownR_147 (Nat.le_of_ble_eq_true rfl) (c_BT_setCell (d + 5) row3 hrow3 v4 r6 M5) (k_V fun M9 => ?_)
          refine tq_iconst (E := E_TownR_placeAsked d) (pc := 84) (cks_at k_TownR_placeAsked 42 rfl rfl) ?_
          exact tq_zretC (E := E_TownR_placeAsked d) (pc := 85) (cks_at k_TownR_placeAsked 43 rfl rfl) rfl (by decide)
        · exact tq_sub [2] rfl (w_TownR_placeAsked_J60 d w1 row3 hw1 hrow3 M5)
    · refine tq_iconst (E := E_TownR_placeAsked d) (pc := 34) (cks_at k_TownR_placeAsked 16 rfl rfl) ?_
      exact tq_zretC (E := E_TownR_placeAsked d) (pc := 35) (cks_at k_TownR_placeAsked 17 rfl rfl) rfl (by decide)
  · refine tq_aload_n 0 (E := E_TownR_placeAsked d) (pc := 11) (cks_at k_TownR_placeAsked 5 rfl rfl) rfl ?_
    refine tq_getR (j := 1) (E := E_TownR_placeAsked d) (pc := 12) (cks_at k_TownR_placeAsked 6 rfl rfl) fo_TownR_9 so_37 rfl sp_37_0 ?_
    refine tq_V0 (E := E_TownR_placeAsked d) (pc := 15) (cks_at k_TownR_placeAsked 7 rfl rfl) mk_Scan_unexpected lk_TownR_84 rc_1 (Nat.le_of_ble_eq_true rfl) (c_Scan_unexpected (d + 4) M1) (k_I fun r11 M10 => ?_)
    exact tq_zret (E := E_TownR_placeAsked d) (pc := 18) (cks_at k_TownR_placeAsked 8 rfl rfl) rfl
abbrev E_TownR_numberAsked (d : Nat) : Ev := (Ct (d + 6), "BreathTown$TownReader", prog_10_method_8_code, 7, False, 0, (fun _ => 0), (Option.some Jvm.ClassFile.FieldType.boolean))
def f_TownR_numberAsked (w1 : Nat) (row4 : Nat) (v2 : Int) (v3 : Int) (v5 : Int) (M : Mm) : Option (Int × Mm) :=
  bI (f_Scan_takeWord w1 M) (fun r2 M1 =>
  if ¬ i32 r2 = 0 then
    bI (f_Scan_number v2 v3 M1) (fun r4 M3 =>
    bV (f_BT_setCell row4 v5 r4 M3) (fun M5 =>
    if i32 r4 = i32 ((-1)) then
      some (0, M5)
    else
      some (1, M5)))
  else
    bI (f_Scan_unexpected M1) (fun r7 M6 =>
    gd (i32 r7 = 0 ∨ i32 r7 = 1) (some (r7, M6))))
set_option maxRecDepth 20000 in
set_option maxHeartbeats 4000000 in
theorem c_TownR_numberAsked (d : Nat) (w1 : Nat) (hw1 : w1 < NSt) (row4 : Nat) (hrow4 : skind row4 = 20 ∧ row4 < NC) (v2 : Int) (v3 : Int) (v5 : Int) (M : Mm) (Q : Option Value → Mm → Prop) (h : sat injI (f_TownR_numberAsked w1 row4 v2 v3 v5 M) Q) : Ct (d + 7) y_TownR_numberAsked [.ref 37, .ref (1000 + w1), vI v2, vI v3, .ref row4, vI v5] M Q := by
  refine ct_in (d := d + 6) mk_TownR_numberAsked (Nat.le_of_ble_eq_true rfl) (?_ : T (E_TownR_numberAsked d) injI 0 [(0, .ref 37), (1, .ref (1000 + w1)), (2, vI v2), (3, vI v3), (4, .ref row4), (5, vI v5)] [] M (f_TownR_numberAsked w1 row4 v2 v3 v5 M)) h
  unfold f_TownR_numberAsked
  refine tq_aload_n 0 (E := E_TownR_numberAsked d) (pc := 0) (cks_at k_TownR_numberAsked 0 rfl rfl) rfl ?_
  refine tq_getR (j := 1) (E := E_TownR_numberAsked d) (pc := 1) (cks_at k_TownR_numberAsked 1 rfl rfl) fo_TownR_9 so_37 rfl sp_37_0 ?_
  refine tq_aload_n 1 (E := E_TownR_numberAsked d) (pc := 4) (cks_at k_TownR_numberAsked 2 rfl rfl) rfl ?_
  refine tq_V1 (E := E_TownR_numberAsked d) (pc := 5) (cks_at k_TownR_numberAsked 3 rfl rfl) mk_Scan_takeWord lk_TownR_81 rc_1 (Nat.le_of_ble_eq_true rfl) (c_Scan_takeWord (d + 0) w1 hw1 M) (k_I fun r2 M1 => ?_)
  refine tq_if_ne (E := E_TownR_numberAsked d) (pc := 8) (tgt := 19) (cks_at k_TownR_numberAsked 4 rfl rfl) (by decide) ?_ ?_
  · refine tq_aload_n 0 (E := E_TownR_numberAsked d) (pc := 19) (cks_at k_TownR_numberAsked 9 rfl rfl) rfl ?_
    refine tq_getR (j := 1) (E := E_TownR_numberAsked d) (pc := 20) (cks_at k_TownR_numberAsked 10 rfl rfl) fo_TownR_9 so_37 rfl sp_37_0 ?_
    refine tq_iload_n 2 (E := E_TownR_numberAsked d) (pc := 23) (cks_at k_TownR_numberAsked 11 rfl rfl) rfl ?_
    refine tq_iload_n 3 (E := E_TownR_numberAsked d) (pc := 24) (cks_at k_TownR_numberAsked 12 rfl rfl) rfl ?_
    refine tq_V2 (E := E_TownR_numberAsked d) (pc := 25) (cks_at k_TownR_numberAsked 13 rfl rfl) mk_Scan_number lk_TownR_87 rc_1 (Nat.le_of_ble_eq_true rfl) (c_Scan_number (d + 3) v2 v3 M1) (k_I fun r4 M3 => ?_)
    refine tq_istore (E := E_TownR_numberAsked d) (pc := 28) (cks_at k_TownR_numberAsked 14 rfl rfl) (show 6 < 7 by decide) rfl ?_
    refine tq_aload 5 (E := E_TownR_numberAsked d) (pc := 30) (cks_at k_TownR_numberAsked 15 rfl rfl) rfl ?_
    refine tq_iload 6 (E := E_TownR_numberAsked d) (pc := 32) (cks_at k_TownR_numberAsked 16 rfl rfl) rfl ?_
    refine tq_iload 0 (E := E_TownR_numberAsked d) (pc := 34) (cks_at k_TownR_numberAsked 17 rfl rfl) rfl ?_
    refine tq_S3 (E := E_TownR_numberAsked d) (pc := 36) (cks_at k_TownR_numberAsked 18 rfl rfl) mk_BT_setCell lk_TownR_147 (Nat.le_of_ble_eq_true rfl) (c_BT_setCell (d + 5) row4 hrow4 v5 r4 M3) (k_V fun M5 => ?_)
    refine tq_iload 0 (E := E_TownR_numberAsked d) (pc := 39) (cks_at k_TownR_numberAsked 19 rfl rfl) rfl ?_
    refine tq_iconst (E := E_TownR_numberAsked d) (pc := 41) (cks_at k_TownR_numberAsked 20 rfl rfl) ?_
    refine tq_icmp_eq (E := E_TownR_numberAsked d) (pc := 42) (tgt := 49) (cks_at k_TownR_numberAsked 21 rfl rfl) (by decide) ?_ ?_
    · refine tq_iconst (E := E_TownR_numberAsked d) (pc := 49) (cks_at k_TownR_numberAsked 24 rfl rfl) ?_
      exact tq_zretC (E := E_TownR_numberAsked d) (pc := 50) (cks_at k_TownR_numberAsked 25 rfl rfl) rfl (by decide)
    · refine tq_iconst (E := E_TownR_numberAsked d) (pc := 45) (cks_at k_TownR_numberAsked 22 rfl rfl) ?_
      refine tq_goto (tgt := 50) (E := E_TownR_numberAsked d) (pc := 46) (cks_at k_TownR_numberAsked 23 rfl rfl) (by decide) ?_
      exact tq_zretC (E := E_TownR_numberAsked d) (pc := 50) (cks_at k_TownR_numberAsked 25 rfl rfl) rfl (by decide)
  · refine tq_aload_n 0 (E := E_TownR_numberAsked d) (pc := 11) (cks_at k_TownR_numberAsked 5 rfl rfl) rfl ?_
    refine tq_getR (j := 1) (E := E_TownR_numberAsked d) (pc := 12) (cks_at k_TownR_numberAsked 6 rfl rfl) fo_TownR_9 so_37 rfl sp_37_0 ?_
    refine tq_V0 (E := E_TownR_numberAsked d) (pc := 15) (cks_at k_TownR_numberAsked 7 rfl rfl) mk_Scan_unexpected lk_TownR_84 rc_1 (Nat.le_of_ble_eq_true rfl) (c_Scan_unexpected (d + 4) M1) (k_I fun r7 M6 => ?_)
    exact tq_zret (E := E_TownR_numberAsked d) (pc := 18) (cks_at k_TownR_numberAsked 8 rfl rfl) rfl
abbrev E_TownR_streetTold (d : Nat) : Ev := (Ct (d + 127), "BreathTown$TownReader", prog_10_method_5_code, 4, False, 0, (fun _ => 0), (Option.some Jvm.ClassFile.FieldType.boolean))
def f_TownR_streetTold_J183 (v1 s0 s1 : Int) (M : Mm) : Option (Int × Mm) :=
  bV (f_BT_setCell 27 s1 s0 M) (fun M19 =>
  bV (f_BT_setCell 28 v1 (M19 33 3) M19) (fun M20 =>
  bI (f_Reader_readSum 38 M20) (fun r22 M21 =>
  bV (f_BT_setCell 29 v1 (M21 33 3) M21) (fun M23 =>
  gd (i32 r22 = 0 ∨ i32 r22 = 1) (some (r22, M23))))))
set_option maxRecDepth 20000 in
set_option maxHeartbeats 4000000 in
theorem w_TownR_streetTold_J183 (d : Nat) (v1 s0 s1 : Int) (M : Mm) : T (E_TownR_streetTold d) injI 183 [(0, .ref 37), (1, vI v1)] [vI s0, vI s1, .ref 27] M (f_TownR_streetTold_J183 v1 s0 s1 M) := by
  unfold f_TownR_streetTold_J183
  refine tq_S3 (E := E_TownR_streetTold d) (pc := 183) (cks_at k_TownR_streetTold 93 rfl rfl) mk_BT_setCell lk_TownR_147 (Nat.le_of_ble_eq_true rfl) (c_BT_setCell (d + 126) 27 sa_27 s1 s0 M) (k_V fun M19 => ?_)
  refine tq_aload_n 0 (E := E_TownR_streetTold d) (pc := 186) (cks_at k_TownR_streetTold 94 rfl rfl) rfl ?_
  refine tq_getR (j := 20) (E := E_TownR_streetTold d) (pc := 187) (cks_at k_TownR_streetTold 95 rfl rfl) fo_TownR_15 so_37 rfl sp_37_1 ?_
  refine tq_getR (j := 28) (E := E_TownR_streetTold d) (pc := 190) (cks_at k_TownR_streetTold 96 rfl rfl) fo_TownR_151 so_20 rfl sp_20_7 ?_
  refine tq_iload_n 1 (E := E_TownR_streetTold d) (pc := 193) (cks_at k_TownR_streetTold 97 rfl rfl) rfl ?_
  refine tq_aload_n 0 (E := E_TownR_streetTold d) (pc := 194) (cks_at k_TownR_streetTold 98 rfl rfl) rfl ?_
  refine tq_getR (j := 20) (E := E_TownR_streetTold d) (pc := 195) (cks_at k_TownR_streetTold 99 rfl rfl) fo_TownR_15 so_37 rfl sp_37_1 ?_
  refine tq_getR (j := 33) (E := E_TownR_streetTold d) (pc := 198) (cks_at k_TownR_streetTold 100 rfl rfl) fo_TownR_21 so_20 rfl sp_20_12 ?_
  refine tq_getI (E := E_TownR_streetTold d) (pc := 201) (cks_at k_TownR_streetTold 101 rfl rfl) fo_TownR_154 so_33 rfl (by decide) ?_
  refine tq_S3 (E := E_TownR_streetTold d) (pc := 204) (cks_at k_TownR_streetTold 102 rfl rfl) mk_BT_setCell lk_TownR_147 (Nat.le_of_ble_eq_true rfl) (c_BT_setCell (d + 126) 28 sa_28 v1 (M19 33 3) M19) (k_V fun M20 => ?_)
  refine tq_aload_n 0 (E := E_TownR_streetTold d) (pc := 207) (cks_at k_TownR_streetTold 103 rfl rfl) rfl ?_
  refine tq_getR (j := 38) (E := E_TownR_streetTold d) (pc := 208) (cks_at k_TownR_streetTold 104 rfl rfl) fo_TownR_30 so_37 rfl sp_37_2 ?_
  refine tq_V0 (E := E_TownR_streetTold d) (pc := 211) (cks_at k_TownR_streetTold 105 rfl rfl) mk_Reader_readSum lk_TownR_159 (isReader_rc (Or.inl rfl)) (Nat.le_of_ble_eq_true rfl) (c_Reader_readSum (d + 0) 38 (Or.inl rfl) M20) (k_I fun r22 M21 => ?_)
  refine tq_istore_n (E := E_TownR_streetTold d) (pc := 214) (cks_at k_TownR_streetTold 106 rfl rfl) (show 3 < 4 by decide) rfl ?_
  refine tq_aload_n 1 (E := E_TownR_streetTold d) (pc := 215) (cks_at k_TownR_streetTold 107 rfl rfl) rfl ?_
  refine tq_getR (j := 20) (E := E_TownR_streetTold d) (pc := 216) (cks_at k_TownR_streetTold 108 rfl rfl) fo_TownR_15 so_37 rfl sp_37_1 ?_
  refine tq_getR (j := 29) (E := E_TownR_streetTold d) (pc := 219) (cks_at k_TownR_streetTold 109 rfl rfl) fo_TownR_162 so_20 rfl sp_20_8 ?_
  refine tq_iload_n 2 (E := E_TownR_streetTold d) (pc := 222) (cks_at k_TownR_streetTold 110 rfl rfl) rfl ?_
  refine tq_aload_n 1 (E := E_TownR_streetTold d) (pc := 223) (cks_at k_TownR_streetTold 111 rfl rfl) rfl ?_
  refine tq_getR (j := 20) (E := E_TownR_streetTold d) (pc := 224) (cks_at k_TownR_streetTold 112 rfl rfl) fo_TownR_15 so_37 rfl sp_37_1 ?_
  refine tq_getR (j := 33) (E := E_TownR_streetTold d) (pc := 227) (cks_at k_TownR_streetTold 113 rfl rfl) fo_TownR_21 so_20 rfl sp_20_12 ?_
  refine tq_getI (E := E_TownR_streetTold d) (pc := 230) (cks_at k_TownR_streetTold 114 rfl rfl) fo_TownR_154 so_33 rfl (by decide) ?_
  refine tq_S3 (E := E_TownR_streetTold d) (pc := 233) (cks_at k_TownR_streetTold 115 rfl rfl) mk_BT_setCell lk_TownR_147 (Nat.le_of_ble_eq_true rfl) (c_BT_setCell (d + 126) 29 sa_29 v1 (M21 33 3) M21) (k_V fun M23 => ?_)
  refine tq_iload_n 0 (E := E_TownR_streetTold d) (pc := 236) (cks_at k_TownR_streetTold 116 rfl rfl) rfl ?_
  exact tq_zret (E := E_TownR_streetTold d) (pc := 237) (cks_at k_TownR_streetTold 117 rfl rfl) rfl
def f_TownR_streetTold (M : Mm) : Option (Int × Mm) :=
  bI (f_TownR_newName 2 1 12 M) (fun r2 M1 =>
  if i32 r2 = i32 ((-1)) then
    some (0, M1)
  else
    bI (f_TownR_placeAsked 3 23 ((-1)) r2 M1) (fun r4 M3 =>
    if i32 r4 = 0 then
      some (0, M3)
    else
      bI (f_BT_cell 23 r2 M3) (fun r6 M5 =>
      bI (f_TownR_placeAsked 4 24 r6 r2 M5) (fun r8 M7 =>
      if i32 r8 = 0 then
        some (0, M7)
      else
        bI (f_TownR_numberAsked 5 25 1 4 r2 M7) (fun r10 M9 =>
        if i32 r10 = 0 then
          some (0, M9)
        else
          bI (f_TownR_numberAsked 6 26 1 48 r2 M9) (fun r12 M11 =>
          if i32 r12 = 0 then
            some (0, M11)
          else
            bI (f_TownR_numberAsked 7 27 0 47 r2 M11) (fun r14 M13 =>
            if ¬ i32 r14 = 0 then
              bI (f_Scan_takeWord 8 M13) (fun r16 M15 =>
              if ¬ i32 r16 = 0 then
                bI (f_BT_cell 26 r2 M15) (fun r18 M17 =>
                if i32 r18 ≤ 0 then
                  f_TownR_streetTold_J183 r2 0 r2 M17
                else
                  bI (f_BT_cell 27 r2 M17) (fun r25 M24 =>
                  gd (¬ i32 r18 = 0) <|
                  f_TownR_streetTold_J183 r2 ((i32 r25).tmod (i32 r18)) r2 M24))
              else
                bI (f_Scan_unexpected M15) (fun r27 M26 =>
                gd (i32 r27 = 0 ∨ i32 r27 = 1) (some (r27, M26))))
            else
              some (0, M13))))))))
set_option maxRecDepth 20000 in
set_option maxHeartbeats 4000000 in
theorem c_TownR_streetTold (d : Nat) (M : Mm) (Q : Option Value → Mm → Prop) (h : sat injI (f_TownR_streetTold M) Q) : Ct (d + 128) y_TownR_streetTold [.ref 37] M Q := by
  refine ct_in (d := d + 127) mk_TownR_streetTold (Nat.le_of_ble_eq_true rfl) (?_ : T (E_TownR_streetTold d) injI 0 [(0, .ref 37)] [] M (f_TownR_streetTold M)) h
  unfold f_TownR_streetTold
  refine tq_aload_n 0 (E := E_TownR_streetTold d) (pc := 0) (cks_at k_TownR_streetTold 0 rfl rfl) rfl ?_
  refine tq_ldcS (j := 2) (s := 2) (E := E_TownR_streetTold d) (pc := 1) (cks_at k_TownR_streetTold 1 rfl rfl) rfl ?_
  refine tq_iconst (E := E_TownR_streetTold d) (pc := 3) (cks_at k_TownR_streetTold 2 rfl rfl) ?_
  refine tq_bipush (E := E_TownR_streetTold d) (pc := 4) (cks_at k_TownR_streetTold 3 rfl rfl) (by decide) (by decide) ?_
  refine tq_V3 (E := E_TownR_streetTold d) (pc := 6) (cks_at k_TownR_streetTold 4 rfl rfl) mk_TownR_newName lk_TownR_58 rc_37 (Nat.le_of_ble_eq_true rfl) (c_TownR_newName (d + 120) 2 (by decide) 1 12 M) (k_I fun r2 M1 => ?_)
  refine tq_istore_n (E := E_TownR_streetTold d) (pc := 9) (cks_at k_TownR_streetTold 5 rfl rfl) (show 1 < 4 by decide) rfl ?_
  refine tq_iload_n 0 (E := E_TownR_streetTold d) (pc := 10) (cks_at k_TownR_streetTold 6 rfl rfl) rfl ?_
  refine tq_iconst (E := E_TownR_streetTold d) (pc := 11) (cks_at k_TownR_streetTold 7 rfl rfl) ?_
  refine tq_icmp_eq (E := E_TownR_streetTold d) (pc := 12) (tgt := 120) (cks_at k_TownR_streetTold 8 rfl rfl) (by decide) ?_ ?_
  · refine tq_iconst (E := E_TownR_streetTold d) (pc := 120) (cks_at k_TownR_streetTold 61 rfl rfl) ?_
    exact tq_zretC (E := E_TownR_streetTold d) (pc := 121) (cks_at k_TownR_streetTold 62 rfl rfl) rfl (by decide)
  · refine tq_aload_n 1 (E := E_TownR_streetTold d) (pc := 15) (cks_at k_TownR_streetTold 9 rfl rfl) rfl ?_
    refine tq_ldcS (j := 3) (s := 3) (E := E_TownR_streetTold d) (pc := 16) (cks_at k_TownR_streetTold 10 rfl rfl) rfl ?_
    refine tq_iconst (E := E_TownR_streetTold d) (pc := 18) (cks_at k_TownR_streetTold 11 rfl rfl) ?_
    refine tq_aload_n 1 (E := E_TownR_streetTold d) (pc := 19) (cks_at k_TownR_streetTold 12 rfl rfl) rfl ?_
    refine tq_getR (j := 20) (E := E_TownR_streetTold d) (pc := 20) (cks_at k_TownR_streetTold 13 rfl rfl) fo_TownR_15 so_37 rfl sp_37_1 ?_
    refine tq_getR (j := 23) (E := E_TownR_streetTold d) (pc := 23) (cks_at k_TownR_streetTold 14 rfl rfl) fo_TownR_112 so_20 rfl sp_20_2 ?_
    refine tq_iload_n 0 (E := E_TownR_streetTold d) (pc := 26) (cks_at k_TownR_streetTold 15 rfl rfl) rfl ?_
    refine tq_V4 (E := E_TownR_streetTold d) (pc := 27) (cks_at k_TownR_streetTold 16 rfl rfl) mk_TownR_placeAsked lk_TownR_115 rc_37 (Nat.le_of_ble_eq_true rfl) (c_TownR_placeAsked (d + 120) 3 (by decide) 23 sa_23 ((-1)) r2 M1) (k_I fun r4 M3 => ?_)
    refine tq_if_eq (E := E_TownR_streetTold d) (pc := 30) (tgt := 120) (cks_at k_TownR_streetTold 17 rfl rfl) (by decide) ?_ ?_
    · refine tq_iconst (E := E_TownR_streetTold d) (pc := 120) (cks_at k_TownR_streetTold 61 rfl rfl) ?_
      exact tq_zretC (E := E_TownR_streetTold d) (pc := 121) (cks_at k_TownR_streetTold 62 rfl rfl) rfl (by decide)
    · refine tq_aload_n 1 (E := E_TownR_streetTold d) (pc := 33) (cks_at k_TownR_streetTold 18 rfl rfl) rfl ?_
      refine tq_ldcS (j := 4) (s := 4) (E := E_TownR_streetTold d) (pc := 34) (cks_at k_TownR_streetTold 19 rfl rfl) rfl ?_
      refine tq_aload_n 1 (E := E_TownR_streetTold d) (pc := 36) (cks_at k_TownR_streetTold 20 rfl rfl) rfl ?_
      refine tq_getR (j := 20) (E := E_TownR_streetTold d) (pc := 37) (cks_at k_TownR_streetTold 21 rfl rfl) fo_TownR_15 so_37 rfl sp_37_1 ?_
      refine tq_getR (j := 23) (E := E_TownR_streetTold d) (pc := 40) (cks_at k_TownR_streetTold 22 rfl rfl) fo_TownR_112 so_20 rfl sp_20_2 ?_
      refine tq_iload_n 0 (E := E_TownR_streetTold d) (pc := 43) (cks_at k_TownR_streetTold 23 rfl rfl) rfl ?_
      refine tq_S2 (E := E_TownR_streetTold d) (pc := 44) (cks_at k_TownR_streetTold 24 rfl rfl) mk_BT_cell lk_TownR_121 (Nat.le_of_ble_eq_true rfl) (c_BT_cell (d + 126) 23 sa_23 r2 M3) (k_I fun r6 M5 => ?_)
      refine tq_aload_n 1 (E := E_TownR_streetTold d) (pc := 47) (cks_at k_TownR_streetTold 25 rfl rfl) rfl ?_
      refine tq_getR (j := 20) (E := E_TownR_streetTold d) (pc := 48) (cks_at k_TownR_streetTold 26 rfl rfl) fo_TownR_15 so_37 rfl sp_37_1 ?_
      refine tq_getR (j := 24) (E := E_TownR_streetTold d) (pc := 51) (cks_at k_TownR_streetTold 27 rfl rfl) fo_TownR_125 so_20 rfl sp_20_3 ?_
      refine tq_iload_n 0 (E := E_TownR_streetTold d) (pc := 54) (cks_at k_TownR_streetTold 28 rfl rfl) rfl ?_
      refine tq_V4 (E := E_TownR_streetTold d) (pc := 55) (cks_at k_TownR_streetTold 29 rfl rfl) mk_TownR_placeAsked lk_TownR_115 rc_37 (Nat.le_of_ble_eq_true rfl) (c_TownR_placeAsked (d + 120) 4 (by decide) 24 sa_24 r6 r2 M5) (k_I fun r8 M7 => ?_)
      refine tq_if_eq (E := E_TownR_streetTold d) (pc := 58) (tgt := 120) (cks_at k_TownR_streetTold 30 rfl rfl) (by decide) ?_ ?_
      · refine tq_iconst (E := E_TownR_streetTold d) (pc := 120) (cks_at k_TownR_streetTold 61 rfl rfl) ?_
        exact tq_zretC (E := E_TownR_streetTold d) (pc := 121) (cks_at k_TownR_streetTold 62 rfl rfl) rfl (by decide)
      · refine tq_aload_n 1 (E := E_TownR_streetTold d) (pc := 61) (cks_at k_TownR_streetTold 31 rfl rfl) rfl ?_
        refine tq_ldcS (j := 5) (s := 5) (E := E_TownR_streetTold d) (pc := 62) (cks_at k_TownR_streetTold 32 rfl rfl) rfl ?_
        refine tq_iconst (E := E_TownR_streetTold d) (pc := 64) (cks_at k_TownR_streetTold 33 rfl rfl) ?_
        refine tq_iconst (E := E_TownR_streetTold d) (pc := 65) (cks_at k_TownR_streetTold 34 rfl rfl) ?_
        refine tq_aload_n 1 (E := E_TownR_streetTold d) (pc := 66) (cks_at k_TownR_streetTold 35 rfl rfl) rfl ?_
        refine tq_getR (j := 20) (E := E_TownR_streetTold d) (pc := 67) (cks_at k_TownR_streetTold 36 rfl rfl) fo_TownR_15 so_37 rfl sp_37_1 ?_
        refine tq_getR (j := 25) (E := E_TownR_streetTold d) (pc := 70) (cks_at k_TownR_streetTold 37 rfl rfl) fo_TownR_129 so_20 rfl sp_20_4 ?_
        refine tq_iload_n 0 (E := E_TownR_streetTold d) (pc := 73) (cks_at k_TownR_streetTold 38 rfl rfl) rfl ?_
        refine tq_V5 (E := E_TownR_streetTold d) (pc := 74) (cks_at k_TownR_streetTold 39 rfl rfl) mk_TownR_numberAsked lk_TownR_131 rc_37 (Nat.le_of_ble_eq_true rfl) (c_TownR_numberAsked (d + 120) 5 (by decide) 25 sa_25 1 4 r2 M7) (k_I fun r10 M9 => ?_)
        refine tq_if_eq (E := E_TownR_streetTold d) (pc := 77) (tgt := 120) (cks_at k_TownR_streetTold 40 rfl rfl) (by decide) ?_ ?_
        · refine tq_iconst (E := E_TownR_streetTold d) (pc := 120) (cks_at k_TownR_streetTold 61 rfl rfl) ?_
          exact tq_zretC (E := E_TownR_streetTold d) (pc := 121) (cks_at k_TownR_streetTold 62 rfl rfl) rfl (by decide)
        · refine tq_aload_n 1 (E := E_TownR_streetTold d) (pc := 80) (cks_at k_TownR_streetTold 41 rfl rfl) rfl ?_
          refine tq_ldcS (j := 6) (s := 6) (E := E_TownR_streetTold d) (pc := 81) (cks_at k_TownR_streetTold 42 rfl rfl) rfl ?_
          refine tq_iconst (E := E_TownR_streetTold d) (pc := 83) (cks_at k_TownR_streetTold 43 rfl rfl) ?_
          refine tq_bipush (E := E_TownR_streetTold d) (pc := 84) (cks_at k_TownR_streetTold 44 rfl rfl) (by decide) (by decide) ?_
          refine tq_aload_n 1 (E := E_TownR_streetTold d) (pc := 86) (cks_at k_TownR_streetTold 45 rfl rfl) rfl ?_
          refine tq_getR (j := 20) (E := E_TownR_streetTold d) (pc := 87) (cks_at k_TownR_streetTold 46 rfl rfl) fo_TownR_15 so_37 rfl sp_37_1 ?_
          refine tq_getR (j := 26) (E := E_TownR_streetTold d) (pc := 90) (cks_at k_TownR_streetTold 47 rfl rfl) fo_TownR_137 so_20 rfl sp_20_5 ?_
          refine tq_iload_n 0 (E := E_TownR_streetTold d) (pc := 93) (cks_at k_TownR_streetTold 48 rfl rfl) rfl ?_
          refine tq_V5 (E := E_TownR_streetTold d) (pc := 94) (cks_at k_TownR_streetTold 49 rfl rfl) mk_TownR_numberAsked lk_TownR_131 rc_37 (Nat.le_of_ble_eq_true rfl) (c_TownR_numberAsked (d + 120) 6 (by decide) 26 sa_26 1 48 r2 M9) (k_I fun r12 M11 => ?_)
          refine tq_if_eq (E := E_TownR_streetTold d) (pc := 97) (tgt := 120) (cks_at k_TownR_streetTold 50 rfl rfl) (by decide) ?_ ?_
          · refine tq_iconst (E := E_TownR_streetTold d) (pc := 120) (cks_at k_TownR_streetTold 61 rfl rfl) ?_
            exact tq_zretC (E := E_TownR_streetTold d) (pc := 121) (cks_at k_TownR_streetTold 62 rfl rfl) rfl (by decide)
          · refine tq_aload_n 1 (E := E_TownR_streetTold d) (pc := 100) (cks_at k_TownR_streetTold 51 rfl rfl) rfl ?_
            refine tq_ldcS (j := 7) (s := 7) (E := E_TownR_streetTold d) (pc := 101) (cks_at k_TownR_streetTold 52 rfl rfl) rfl ?_
            refine tq_iconst (E := E_TownR_streetTold d) (pc := 103) (cks_at k_TownR_streetTold 53 rfl rfl) ?_
            refine tq_bipush (E := E_TownR_streetTold d) (pc := 104) (cks_at k_TownR_streetTold 54 rfl rfl) (by decide) (by decide) ?_
            refine tq_aload_n 1 (E := E_TownR_streetTold d) (pc := 106) (cks_at k_TownR_streetTold 55 rfl rfl) rfl ?_
            refine tq_getR (j := 20) (E := E_TownR_streetTold d) (pc := 107) (cks_at k_TownR_streetTold 56 rfl rfl) fo_TownR_15 so_37 rfl sp_37_1 ?_
            refine tq_getR (j := 27) (E := E_TownR_streetTold d) (pc := 110) (cks_at k_TownR_streetTold 57 rfl rfl) fo_TownR_142 so_20 rfl sp_20_6 ?_
            refine tq_iload_n 0 (E := E_TownR_streetTold d) (pc := 113) (cks_at k_TownR_streetTold 58 rfl rfl) rfl ?_
            refine tq_V5 (E := E_TownR_streetTold d) (pc := 114) (cks_at k_TownR_streetTold 59 rfl rfl) mk_TownR_numberAsked lk_TownR_131 rc_37 (Nat.le_of_ble_eq_true rfl) (c_TownR_numberAsked (d + 120) 7 (by decide) 27 sa_27 0 47 r2 M11) (k_I fun r14 M13 => ?_)
            refine tq_if_ne (E := E_TownR_streetTold d) (pc := 117) (tgt := 122) (cks_at k_TownR_streetTold 60 rfl rfl) (by decide) ?_ ?_
            · refine tq_aload_n 1 (E := E_TownR_streetTold d) (pc := 122) (cks_at k_TownR_streetTold 63 rfl rfl) rfl ?_
              refine tq_getR (j := 1) (E := E_TownR_streetTold d) (pc := 123) (cks_at k_TownR_streetTold 64 rfl rfl) fo_TownR_9 so_37 rfl sp_37_0 ?_
              refine tq_ldcS (j := 8) (s := 8) (E := E_TownR_streetTold d) (pc := 126) (cks_at k_TownR_streetTold 65 rfl rfl) rfl ?_
              refine tq_V1 (E := E_TownR_streetTold d) (pc := 128) (cks_at k_TownR_streetTold 66 rfl rfl) mk_Scan_takeWord lk_TownR_81 rc_1 (Nat.le_of_ble_eq_true rfl) (c_Scan_takeWord (d + 121) 8 (by decide) M13) (k_I fun r16 M15 => ?_)
              refine tq_if_ne (E := E_TownR_streetTold d) (pc := 131) (tgt := 142) (cks_at k_TownR_streetTold 67 rfl rfl) (by decide) ?_ ?_
              · refine tq_aload_n 1 (E := E_TownR_streetTold d) (pc := 142) (cks_at k_TownR_streetTold 72 rfl rfl) rfl ?_
                refine tq_getR (j := 20) (E := E_TownR_streetTold d) (pc := 143) (cks_at k_TownR_streetTold 73 rfl rfl) fo_TownR_15 so_37 rfl sp_37_1 ?_
                refine tq_getR (j := 26) (E := E_TownR_streetTold d) (pc := 146) (cks_at k_TownR_streetTold 74 rfl rfl) fo_TownR_137 so_20 rfl sp_20_5 ?_
                refine tq_iload_n 0 (E := E_TownR_streetTold d) (pc := 149) (cks_at k_TownR_streetTold 75 rfl rfl) rfl ?_
                refine tq_S2 (E := E_TownR_streetTold d) (pc := 150) (cks_at k_TownR_streetTold 76 rfl rfl) mk_BT_cell lk_TownR_121 (Nat.le_of_ble_eq_true rfl) (c_BT_cell (d + 126) 26 sa_26 r2 M15) (k_I fun r18 M17 => ?_)
                refine tq_istore_n (E := E_TownR_streetTold d) (pc := 153) (cks_at k_TownR_streetTold 77 rfl rfl) (show 2 < 4 by decide) rfl ?_
                refine tq_aload_n 2 (E := E_TownR_streetTold d) (pc := 154) (cks_at k_TownR_streetTold 78 rfl rfl) rfl ?_
                refine tq_getR (j := 20) (E := E_TownR_streetTold d) (pc := 155) (cks_at k_TownR_streetTold 79 rfl rfl) fo_TownR_15 so_37 rfl sp_37_1 ?_
                refine tq_getR (j := 27) (E := E_TownR_streetTold d) (pc := 158) (cks_at k_TownR_streetTold 80 rfl rfl) fo_TownR_142 so_20 rfl sp_20_6 ?_
                refine tq_iload_n 1 (E := E_TownR_streetTold d) (pc := 161) (cks_at k_TownR_streetTold 81 rfl rfl) rfl ?_
                refine tq_iload_n 0 (E := E_TownR_streetTold d) (pc := 162) (cks_at k_TownR_streetTold 82 rfl rfl) rfl ?_
                refine tq_if_le (E := E_TownR_streetTold d) (pc := 163) (tgt := 182) (cks_at k_TownR_streetTold 83 rfl rfl) (by decide) ?_ ?_
                · refine tq_iconst (E := E_TownR_streetTold d) (pc := 182) (cks_at k_TownR_streetTold 92 rfl rfl) ?_
                  exact tq_sub [2, 1] rfl (w_TownR_streetTold_J183 d r2 0 r2 M17)
                · refine tq_aload_n 2 (E := E_TownR_streetTold d) (pc := 166) (cks_at k_TownR_streetTold 84 rfl rfl) rfl ?_
                  refine tq_getR (j := 20) (E := E_TownR_streetTold d) (pc := 167) (cks_at k_TownR_streetTold 85 rfl rfl) fo_TownR_15 so_37 rfl sp_37_1 ?_
                  refine tq_getR (j := 27) (E := E_TownR_streetTold d) (pc := 170) (cks_at k_TownR_streetTold 86 rfl rfl) fo_TownR_142 so_20 rfl sp_20_6 ?_
                  refine tq_iload_n 1 (E := E_TownR_streetTold d) (pc := 173) (cks_at k_TownR_streetTold 87 rfl rfl) rfl ?_
                  refine tq_S2 (E := E_TownR_streetTold d) (pc := 174) (cks_at k_TownR_streetTold 88 rfl rfl) mk_BT_cell lk_TownR_121 (Nat.le_of_ble_eq_true rfl) (c_BT_cell (d + 126) 27 sa_27 r2 M17) (k_I fun r25 M24 => ?_)
                  refine tq_iload_n 0 (E := E_TownR_streetTold d) (pc := 177) (cks_at k_TownR_streetTold 89 rfl rfl) rfl ?_
                  refine tq_irem (E := E_TownR_streetTold d) (pc := 178) (cks_at k_TownR_streetTold 90 rfl rfl) ?_
                  refine tq_goto (tgt := 183) (E := E_TownR_streetTold d) (pc := 179) (cks_at k_TownR_streetTold 91 rfl rfl) (by decide) ?_
                  exact tq_sub [2, 1] rfl (w_TownR_streetTold_J183 d r2 ((i32 r25).tmod (i32 r18)) r2 M24)
              · refine tq_aload_n 1 (E := E_TownR_streetTold d) (pc := 134) (cks_at k_TownR_streetTold 68 rfl rfl) rfl ?_
                refine tq_getR (j := 1) (E := E_TownR_streetTold d) (pc := 135) (cks_at k_TownR_streetTold 69 rfl rfl) fo_TownR_9 so_37 rfl sp_37_0 ?_
                refine tq_V0 (E := E_TownR_streetTold d) (pc := 138) (cks_at k_TownR_streetTold 70 rfl rfl) mk_Scan_unexpected lk_TownR_84 rc_1 (Nat.le_of_ble_eq_true rfl) (c_Scan_unexpected (d + 125) M15) (k_I fun r27 M26 => ?_)
                exact tq_zret (E := E_TownR_streetTold d) (pc := 141) (cks_at k_TownR_streetTold 71 rfl rfl) rfl
            · refine tq_iconst (E := E_TownR_streetTold d) (pc := 120) (cks_at k_TownR_streetTold 61 rfl rfl) ?_
              exact tq_zretC (E := E_TownR_streetTold d) (pc := 121) (cks_at k_TownR_streetTold 62 rfl rfl) rfl (by decide)
abbrev E_TownR_walkerTold (d : Nat) : Ev := (Ct (d + 7), "BreathTown$TownReader", prog_10_method_6_code, 2, False, 0, (fun _ => 0), (Option.some Jvm.ClassFile.FieldType.boolean))
def f_TownR_walkerTold (M : Mm) : Option (Int × Mm) :=
  bI (f_TownR_newName 17 2 6 M) (fun r2 M1 =>
  if i32 r2 = i32 ((-1)) then
    some (0, M1)
  else
    bI (f_TownR_numberAsked 18 30 1 99 r2 M1) (fun r4 M3 =>
    if i32 r4 = 0 then
      some (0, M3)
    else
      bI (f_TownR_placeAsked 19 31 ((-1)) r2 M3) (fun r6 M5 =>
      if i32 r6 = 0 then
        some (0, M5)
      else
        bI (f_BT_cell 31 r2 M5) (fun r8 M7 =>
        bI (f_TownR_placeAsked 4 32 r8 r2 M7) (fun r10 M9 =>
        if i32 r10 = 0 then
          some (0, M9)
        else
          some (1, M9))))))
set_option maxRecDepth 20000 in
set_option maxHeartbeats 4000000 in
theorem c_TownR_walkerTold (d : Nat) (M : Mm) (Q : Option Value → Mm → Prop) (h : sat injI (f_TownR_walkerTold M) Q) : Ct (d + 8) y_TownR_walkerTold [.ref 37] M Q := by
  refine ct_in (d := d + 7) mk_TownR_walkerTold (Nat.le_of_ble_eq_true rfl) (?_ : T (E_TownR_walkerTold d) injI 0 [(0, .ref 37)] [] M (f_TownR_walkerTold M)) h
  unfold f_TownR_walkerTold
  refine tq_aload_n 0 (E := E_TownR_walkerTold d) (pc := 0) (cks_at k_TownR_walkerTold 0 rfl rfl) rfl ?_
  refine tq_ldcS (j := 18) (s := 17) (E := E_TownR_walkerTold d) (pc := 1) (cks_at k_TownR_walkerTold 1 rfl rfl) rfl ?_
  refine tq_iconst (E := E_TownR_walkerTold d) (pc := 3) (cks_at k_TownR_walkerTold 2 rfl rfl) ?_
  refine tq_bipush (E := E_TownR_walkerTold d) (pc := 4) (cks_at k_TownR_walkerTold 3 rfl rfl) (by decide) (by decide) ?_
  refine tq_V3 (E := E_TownR_walkerTold d) (pc := 6) (cks_at k_TownR_walkerTold 4 rfl rfl) mk_TownR_newName lk_TownR_58 rc_37 (Nat.le_of_ble_eq_true rfl) (c_TownR_newName (d + 0) 17 (by decide) 2 6 M) (k_I fun r2 M1 => ?_)
  refine tq_istore_n (E := E_TownR_walkerTold d) (pc := 9) (cks_at k_TownR_walkerTold 5 rfl rfl) (show 1 < 2 by decide) rfl ?_
  refine tq_iload_n 0 (E := E_TownR_walkerTold d) (pc := 10) (cks_at k_TownR_walkerTold 6 rfl rfl) rfl ?_
  refine tq_iconst (E := E_TownR_walkerTold d) (pc := 11) (cks_at k_TownR_walkerTold 7 rfl rfl) ?_
  refine tq_icmp_eq (E := E_TownR_walkerTold d) (pc := 12) (tgt := 85) (cks_at k_TownR_walkerTold 8 rfl rfl) (by decide) ?_ ?_
  · refine tq_iconst (E := E_TownR_walkerTold d) (pc := 85) (cks_at k_TownR_walkerTold 43 rfl rfl) ?_
    exact tq_zretC (E := E_TownR_walkerTold d) (pc := 86) (cks_at k_TownR_walkerTold 44 rfl rfl) rfl (by decide)
  · refine tq_aload_n 1 (E := E_TownR_walkerTold d) (pc := 15) (cks_at k_TownR_walkerTold 9 rfl rfl) rfl ?_
    refine tq_ldcS (j := 19) (s := 18) (E := E_TownR_walkerTold d) (pc := 16) (cks_at k_TownR_walkerTold 10 rfl rfl) rfl ?_
    refine tq_iconst (E := E_TownR_walkerTold d) (pc := 18) (cks_at k_TownR_walkerTold 11 rfl rfl) ?_
    refine tq_bipush (E := E_TownR_walkerTold d) (pc := 19) (cks_at k_TownR_walkerTold 12 rfl rfl) (by decide) (by decide) ?_
    refine tq_aload_n 1 (E := E_TownR_walkerTold d) (pc := 21) (cks_at k_TownR_walkerTold 13 rfl rfl) rfl ?_
    refine tq_getR (j := 20) (E := E_TownR_walkerTold d) (pc := 22) (cks_at k_TownR_walkerTold 14 rfl rfl) fo_TownR_15 so_37 rfl sp_37_1 ?_
    refine tq_getR (j := 30) (E := E_TownR_walkerTold d) (pc := 25) (cks_at k_TownR_walkerTold 15 rfl rfl) fo_TownR_167 so_20 rfl sp_20_9 ?_
    refine tq_iload_n 0 (E := E_TownR_walkerTold d) (pc := 28) (cks_at k_TownR_walkerTold 16 rfl rfl) rfl ?_
    refine tq_V5 (E := E_TownR_walkerTold d) (pc := 29) (cks_at k_TownR_walkerTold 17 rfl rfl) mk_TownR_numberAsked lk_TownR_131 rc_37 (Nat.le_of_ble_eq_true rfl) (c_TownR_numberAsked (d + 0) 18 (by decide) 30 sa_30 1 99 r2 M1) (k_I fun r4 M3 => ?_)
    refine tq_if_eq (E := E_TownR_walkerTold d) (pc := 32) (tgt := 85) (cks_at k_TownR_walkerTold 18 rfl rfl) (by decide) ?_ ?_
    · refine tq_iconst (E := E_TownR_walkerTold d) (pc := 85) (cks_at k_TownR_walkerTold 43 rfl rfl) ?_
      exact tq_zretC (E := E_TownR_walkerTold d) (pc := 86) (cks_at k_TownR_walkerTold 44 rfl rfl) rfl (by decide)
    · refine tq_aload_n 1 (E := E_TownR_walkerTold d) (pc := 35) (cks_at k_TownR_walkerTold 19 rfl rfl) rfl ?_
      refine tq_ldcS (j := 20) (s := 19) (E := E_TownR_walkerTold d) (pc := 36) (cks_at k_TownR_walkerTold 20 rfl rfl) rfl ?_
      refine tq_iconst (E := E_TownR_walkerTold d) (pc := 38) (cks_at k_TownR_walkerTold 21 rfl rfl) ?_
      refine tq_aload_n 1 (E := E_TownR_walkerTold d) (pc := 39) (cks_at k_TownR_walkerTold 22 rfl rfl) rfl ?_
      refine tq_getR (j := 20) (E := E_TownR_walkerTold d) (pc := 40) (cks_at k_TownR_walkerTold 23 rfl rfl) fo_TownR_15 so_37 rfl sp_37_1 ?_
      refine tq_getR (j := 31) (E := E_TownR_walkerTold d) (pc := 43) (cks_at k_TownR_walkerTold 24 rfl rfl) fo_TownR_172 so_20 rfl sp_20_10 ?_
      refine tq_iload_n 0 (E := E_TownR_walkerTold d) (pc := 46) (cks_at k_TownR_walkerTold 25 rfl rfl) rfl ?_
      refine tq_V4 (E := E_TownR_walkerTold d) (pc := 47) (cks_at k_TownR_walkerTold 26 rfl rfl) mk_TownR_placeAsked lk_TownR_115 rc_37 (Nat.le_of_ble_eq_true rfl) (c_TownR_placeAsked (d + 0) 19 (by decide) 31 sa_31 ((-1)) r2 M3) (k_I fun r6 M5 => ?_)
      refine tq_if_eq (E := E_TownR_walkerTold d) (pc := 50) (tgt := 85) (cks_at k_TownR_walkerTold 27 rfl rfl) (by decide) ?_ ?_
      · refine tq_iconst (E := E_TownR_walkerTold d) (pc := 85) (cks_at k_TownR_walkerTold 43 rfl rfl) ?_
        exact tq_zretC (E := E_TownR_walkerTold d) (pc := 86) (cks_at k_TownR_walkerTold 44 rfl rfl) rfl (by decide)
      · refine tq_aload_n 1 (E := E_TownR_walkerTold d) (pc := 53) (cks_at k_TownR_walkerTold 28 rfl rfl) rfl ?_
        refine tq_ldcS (j := 4) (s := 4) (E := E_TownR_walkerTold d) (pc := 54) (cks_at k_TownR_walkerTold 29 rfl rfl) rfl ?_
        refine tq_aload_n 1 (E := E_TownR_walkerTold d) (pc := 56) (cks_at k_TownR_walkerTold 30 rfl rfl) rfl ?_
        refine tq_getR (j := 20) (E := E_TownR_walkerTold d) (pc := 57) (cks_at k_TownR_walkerTold 31 rfl rfl) fo_TownR_15 so_37 rfl sp_37_1 ?_
        refine tq_getR (j := 31) (E := E_TownR_walkerTold d) (pc := 60) (cks_at k_TownR_walkerTold 32 rfl rfl) fo_TownR_172 so_20 rfl sp_20_10 ?_
        refine tq_iload_n 0 (E := E_TownR_walkerTold d) (pc := 63) (cks_at k_TownR_walkerTold 33 rfl rfl) rfl ?_
        refine tq_S2 (E := E_TownR_walkerTold d) (pc := 64) (cks_at k_TownR_walkerTold 34 rfl rfl) mk_BT_cell lk_TownR_121 (Nat.le_of_ble_eq_true rfl) (c_BT_cell (d + 6) 31 sa_31 r2 M5) (k_I fun r8 M7 => ?_)
        refine tq_aload_n 1 (E := E_TownR_walkerTold d) (pc := 67) (cks_at k_TownR_walkerTold 35 rfl rfl) rfl ?_
        refine tq_getR (j := 20) (E := E_TownR_walkerTold d) (pc := 68) (cks_at k_TownR_walkerTold 36 rfl rfl) fo_TownR_15 so_37 rfl sp_37_1 ?_
        refine tq_getR (j := 32) (E := E_TownR_walkerTold d) (pc := 71) (cks_at k_TownR_walkerTold 37 rfl rfl) fo_TownR_175 so_20 rfl sp_20_11 ?_
        refine tq_iload_n 0 (E := E_TownR_walkerTold d) (pc := 74) (cks_at k_TownR_walkerTold 38 rfl rfl) rfl ?_
        refine tq_V4 (E := E_TownR_walkerTold d) (pc := 75) (cks_at k_TownR_walkerTold 39 rfl rfl) mk_TownR_placeAsked lk_TownR_115 rc_37 (Nat.le_of_ble_eq_true rfl) (c_TownR_placeAsked (d + 0) 4 (by decide) 32 sa_32 r8 r2 M7) (k_I fun r10 M9 => ?_)
        refine tq_if_eq (E := E_TownR_walkerTold d) (pc := 78) (tgt := 85) (cks_at k_TownR_walkerTold 40 rfl rfl) (by decide) ?_ ?_
        · refine tq_iconst (E := E_TownR_walkerTold d) (pc := 85) (cks_at k_TownR_walkerTold 43 rfl rfl) ?_
          exact tq_zretC (E := E_TownR_walkerTold d) (pc := 86) (cks_at k_TownR_walkerTold 44 rfl rfl) rfl (by decide)
        · refine tq_iconst (E := E_TownR_walkerTold d) (pc := 81) (cks_at k_TownR_walkerTold 41 rfl rfl) ?_
          refine tq_goto (tgt := 86) (E := E_TownR_walkerTold d) (pc := 82) (cks_at k_TownR_walkerTold 42 rfl rfl) (by decide) ?_
          exact tq_zretC (E := E_TownR_walkerTold d) (pc := 86) (cks_at k_TownR_walkerTold 44 rfl rfl) rfl (by decide)
abbrev E_TownR_beginTold (d : Nat) : Ev := (Ct (d + 6), "BreathTown$TownReader", prog_10_method_3_code, 1, False, 0, (fun _ => 0), (Option.some Jvm.ClassFile.FieldType.boolean))
def f_TownR_beginTold (M : Mm) : Option (Int × Mm) :=
  bI (f_Scan_takeWord 20 M) (fun r2 M1 =>
  if ¬ i32 r2 = 0 then
    bI (f_Scan_number 0 999 M1) (fun r4 M3 =>
    bd (up M3 20 13 r4) (fun M5 =>
    if i32 (M5 20 13) = i32 ((-1)) then
      some (0, M5)
    else
      some (1, M5)))
  else
    bI (f_Scan_unexpected M1) (fun r7 M6 =>
    gd (i32 r7 = 0 ∨ i32 r7 = 1) (some (r7, M6))))
set_option maxRecDepth 20000 in
set_option maxHeartbeats 4000000 in
theorem c_TownR_beginTold (d : Nat) (M : Mm) (Q : Option Value → Mm → Prop) (h : sat injI (f_TownR_beginTold M) Q) : Ct (d + 7) y_TownR_beginTold [.ref 37] M Q := by
  refine ct_in (d := d + 6) mk_TownR_beginTold (Nat.le_of_ble_eq_true rfl) (?_ : T (E_TownR_beginTold d) injI 0 [(0, .ref 37)] [] M (f_TownR_beginTold M)) h
  unfold f_TownR_beginTold
  refine tq_aload_n 0 (E := E_TownR_beginTold d) (pc := 0) (cks_at k_TownR_beginTold 0 rfl rfl) rfl ?_
  refine tq_getR (j := 1) (E := E_TownR_beginTold d) (pc := 1) (cks_at k_TownR_beginTold 1 rfl rfl) fo_TownR_9 so_37 rfl sp_37_0 ?_
  refine tq_ldcS (j := 21) (s := 20) (E := E_TownR_beginTold d) (pc := 4) (cks_at k_TownR_beginTold 2 rfl rfl) rfl ?_
  refine tq_V1 (E := E_TownR_beginTold d) (pc := 6) (cks_at k_TownR_beginTold 3 rfl rfl) mk_Scan_takeWord lk_TownR_81 rc_1 (Nat.le_of_ble_eq_true rfl) (c_Scan_takeWord (d + 0) 20 (by decide) M) (k_I fun r2 M1 => ?_)
  refine tq_if_ne (E := E_TownR_beginTold d) (pc := 9) (tgt := 20) (cks_at k_TownR_beginTold 4 rfl rfl) (by decide) ?_ ?_
  · refine tq_aload_n 0 (E := E_TownR_beginTold d) (pc := 20) (cks_at k_TownR_beginTold 9 rfl rfl) rfl ?_
    refine tq_getR (j := 20) (E := E_TownR_beginTold d) (pc := 21) (cks_at k_TownR_beginTold 10 rfl rfl) fo_TownR_15 so_37 rfl sp_37_1 ?_
    refine tq_aload_n 0 (E := E_TownR_beginTold d) (pc := 24) (cks_at k_TownR_beginTold 11 rfl rfl) rfl ?_
    refine tq_getR (j := 1) (E := E_TownR_beginTold d) (pc := 25) (cks_at k_TownR_beginTold 12 rfl rfl) fo_TownR_9 so_37 rfl sp_37_0 ?_
    refine tq_iconst (E := E_TownR_beginTold d) (pc := 28) (cks_at k_TownR_beginTold 13 rfl rfl) ?_
    refine tq_sipush (E := E_TownR_beginTold d) (pc := 29) (cks_at k_TownR_beginTold 14 rfl rfl) (by decide) (by decide) ?_
    refine tq_V2 (E := E_TownR_beginTold d) (pc := 32) (cks_at k_TownR_beginTold 15 rfl rfl) mk_Scan_number lk_TownR_87 rc_1 (Nat.le_of_ble_eq_true rfl) (c_Scan_number (d + 3) 0 999 M1) (k_I fun r4 M3 => ?_)
    refine tq_putI (E := E_TownR_beginTold d) (pc := 35) (cks_at k_TownR_beginTold 16 rfl rfl) fo_TownR_91 so_20 rfl po_7_13 (fun M5 => ?_)
    refine tq_aload_n 0 (E := E_TownR_beginTold d) (pc := 38) (cks_at k_TownR_beginTold 17 rfl rfl) rfl ?_
    refine tq_getR (j := 20) (E := E_TownR_beginTold d) (pc := 39) (cks_at k_TownR_beginTold 18 rfl rfl) fo_TownR_15 so_37 rfl sp_37_1 ?_
    refine tq_getI (E := E_TownR_beginTold d) (pc := 42) (cks_at k_TownR_beginTold 19 rfl rfl) fo_TownR_91 so_20 rfl (by decide) ?_
    refine tq_iconst (E := E_TownR_beginTold d) (pc := 45) (cks_at k_TownR_beginTold 20 rfl rfl) ?_
    refine tq_icmp_eq (E := E_TownR_beginTold d) (pc := 46) (tgt := 53) (cks_at k_TownR_beginTold 21 rfl rfl) (by decide) ?_ ?_
    · refine tq_iconst (E := E_TownR_beginTold d) (pc := 53) (cks_at k_TownR_beginTold 24 rfl rfl) ?_
      exact tq_zretC (E := E_TownR_beginTold d) (pc := 54) (cks_at k_TownR_beginTold 25 rfl rfl) rfl (by decide)
    · refine tq_iconst (E := E_TownR_beginTold d) (pc := 49) (cks_at k_TownR_beginTold 22 rfl rfl) ?_
      refine tq_goto (tgt := 54) (E := E_TownR_beginTold d) (pc := 50) (cks_at k_TownR_beginTold 23 rfl rfl) (by decide) ?_
      exact tq_zretC (E := E_TownR_beginTold d) (pc := 54) (cks_at k_TownR_beginTold 25 rfl rfl) rfl (by decide)
  · refine tq_aload_n 0 (E := E_TownR_beginTold d) (pc := 12) (cks_at k_TownR_beginTold 5 rfl rfl) rfl ?_
    refine tq_getR (j := 1) (E := E_TownR_beginTold d) (pc := 13) (cks_at k_TownR_beginTold 6 rfl rfl) fo_TownR_9 so_37 rfl sp_37_0 ?_
    refine tq_V0 (E := E_TownR_beginTold d) (pc := 16) (cks_at k_TownR_beginTold 7 rfl rfl) mk_Scan_unexpected lk_TownR_84 rc_1 (Nat.le_of_ble_eq_true rfl) (c_Scan_unexpected (d + 4) M1) (k_I fun r7 M6 => ?_)
    exact tq_zret (E := E_TownR_beginTold d) (pc := 19) (cks_at k_TownR_beginTold 8 rfl rfl) rfl
abbrev E_TownR_read (d : Nat) : Ev := (Ct (d + 128), "BreathTown$TownReader", prog_10_method_2_code, 3, False, 0, (fun _ => 0), (Option.some Jvm.ClassFile.FieldType.int))
def f_TownR_read_J133 (kH : Int → Mm → Option (Int × Mm)) (kx40 : Mm → Option (Int × Mm)) (v1 s0 : Int) (M : Mm) : Option (Int × Mm) :=
  if i32 s0 = 0 then
    some ((-1), M)
  else
    bI (f_Scan_needSign 59 M) (fun r14 M13 =>
    if ¬ i32 r14 = 0 then
      kH (v1 + 1) M13
    else
      some ((-1), M13))
set_option maxRecDepth 20000 in
set_option maxHeartbeats 4000000 in
theorem w_TownR_read_J133 (d : Nat) (kH : Int → Mm → Option (Int × Mm)) (kx40 : Mm → Option (Int × Mm)) (hkH : ∀ (v1 : Int) (M : Mm), T (E_TownR_read d) injI 16 [(0, .ref 37), (1, vI v1)] [] M (kH v1 M)) (hkx40 : ∀  (M : Mm), T (E_TownR_read d) injI 40 [(0, .ref 37)] [] M (kx40 M)) (v1 s0 : Int) (M : Mm) : T (E_TownR_read d) injI 133 [(0, .ref 37), (1, vI v1)] [vI s0] M (f_TownR_read_J133 kH kx40 v1 s0 M) := by
  unfold f_TownR_read_J133
  refine tq_istore_n (E := E_TownR_read d) (pc := 133) (cks_at k_TownR_read 64 rfl rfl) (show 2 < 3 by decide) rfl ?_
  refine tq_iload_n 0 (E := E_TownR_read d) (pc := 134) (cks_at k_TownR_read 65 rfl rfl) rfl ?_
  refine tq_if_eq (E := E_TownR_read d) (pc := 135) (tgt := 150) (cks_at k_TownR_read 66 rfl rfl) (by decide) ?_ ?_
  · refine tq_iconst (E := E_TownR_read d) (pc := 150) (cks_at k_TownR_read 72 rfl rfl) ?_
    exact tq_iret (E := E_TownR_read d) (pc := 151) (cks_at k_TownR_read 73 rfl rfl) rfl
  · refine tq_aload_n 1 (E := E_TownR_read d) (pc := 138) (cks_at k_TownR_read 67 rfl rfl) rfl ?_
    refine tq_getR (j := 1) (E := E_TownR_read d) (pc := 139) (cks_at k_TownR_read 68 rfl rfl) fo_TownR_9 so_37 rfl sp_37_0 ?_
    refine tq_bipush (E := E_TownR_read d) (pc := 142) (cks_at k_TownR_read 69 rfl rfl) (by decide) (by decide) ?_
    refine tq_V1 (E := E_TownR_read d) (pc := 144) (cks_at k_TownR_read 70 rfl rfl) mk_Scan_needSign lk_TownR_75 rc_1 (Nat.le_of_ble_eq_true rfl) (c_Scan_needSign (d + 125) 59 M) (k_I fun r14 M13 => ?_)
    refine tq_if_ne (E := E_TownR_read d) (pc := 147) (tgt := 152) (cks_at k_TownR_read 71 rfl rfl) (by decide) ?_ ?_
    · refine tq_iinc 2 (E := E_TownR_read d) (pc := 152) (cks_at k_TownR_read 74 rfl rfl) rfl (show 1 < 3 by decide) rfl ?_
      refine tq_goto (tgt := 16) (E := E_TownR_read d) (pc := 155) (cks_at k_TownR_read 75 rfl rfl) (by decide) ?_
      exact tq_sub [2, 0] rfl (hkH (v1 + 1) M13)
    · refine tq_iconst (E := E_TownR_read d) (pc := 150) (cks_at k_TownR_read 72 rfl rfl) ?_
      exact tq_iret (E := E_TownR_read d) (pc := 151) (cks_at k_TownR_read 73 rfl rfl) rfl
def f_TownR_read_B16 (kH : Int → Mm → Option (Int × Mm)) (kx40 : Mm → Option (Int × Mm)) (v1 : Int) (M : Mm) : Option (Int × Mm) :=
  if i32 70 < i32 v1 then
    some ((-1), M)
  else
    bI (f_Scan_atEnd M) (fun r4 M3 =>
    if i32 r4 = 0 then
      if ¬ i32 v1 = i32 70 then
        bI (f_Scan_atWord 0 M3) (fun r6 M5 =>
        if i32 r6 = 0 then
          bI (f_Scan_atWord 2 M5) (fun r8 M7 =>
          if i32 r8 = 0 then
            bI (f_Scan_atWord 17 M7) (fun r10 M9 =>
            if i32 r10 = 0 then
              bI (f_TownR_beginTold M9) (fun r12 M11 =>
              f_TownR_read_J133 kH kx40 v1 r12 M11)
            else
              bI (f_TownR_walkerTold M9) (fun r16 M15 =>
              f_TownR_read_J133 kH kx40 v1 r16 M15))
          else
            bI (f_TownR_streetTold M7) (fun r18 M17 =>
            f_TownR_read_J133 kH kx40 v1 r18 M17))
        else
          bI (f_TownR_newName 0 0 9 M5) (fun r20 M19 =>
          if i32 r20 = i32 ((-1)) then
            f_TownR_read_J133 kH kx40 v1 0 M19
          else
            f_TownR_read_J133 kH kx40 v1 1 M19))
      else
        kx40 M3
    else
      some (v1, M3))
set_option maxRecDepth 20000 in
set_option maxHeartbeats 4000000 in
theorem w_TownR_read_B16 (d : Nat) (kH : Int → Mm → Option (Int × Mm)) (kx40 : Mm → Option (Int × Mm)) (hkH : ∀ (v1 : Int) (M : Mm), T (E_TownR_read d) injI 16 [(0, .ref 37), (1, vI v1)] [] M (kH v1 M)) (hkx40 : ∀  (M : Mm), T (E_TownR_read d) injI 40 [(0, .ref 37)] [] M (kx40 M)) (v1 : Int) (M : Mm) : T (E_TownR_read d) injI 16 [(0, .ref 37), (1, vI v1)] [] M (f_TownR_read_B16 kH kx40 v1 M) := by
  unfold f_TownR_read_B16
  refine tq_iload_n 1 (E := E_TownR_read d) (pc := 16) (cks_at k_TownR_read 8 rfl rfl) rfl ?_
  refine tq_bipush (E := E_TownR_read d) (pc := 17) (cks_at k_TownR_read 9 rfl rfl) (by decide) (by decide) ?_
  refine tq_icmp_gt (E := E_TownR_read d) (pc := 19) (tgt := 158) (cks_at k_TownR_read 10 rfl rfl) (by decide) ?_ ?_
  · refine tq_iconst (E := E_TownR_read d) (pc := 158) (cks_at k_TownR_read 76 rfl rfl) ?_
    exact tq_iret (E := E_TownR_read d) (pc := 159) (cks_at k_TownR_read 77 rfl rfl) rfl
  · refine tq_aload_n 0 (E := E_TownR_read d) (pc := 22) (cks_at k_TownR_read 11 rfl rfl) rfl ?_
    refine tq_getR (j := 1) (E := E_TownR_read d) (pc := 23) (cks_at k_TownR_read 12 rfl rfl) fo_TownR_9 so_37 rfl sp_37_0 ?_
    refine tq_V0 (E := E_TownR_read d) (pc := 26) (cks_at k_TownR_read 13 rfl rfl) mk_Scan_atEnd lk_TownR_41 rc_1 (Nat.le_of_ble_eq_true rfl) (c_Scan_atEnd (d + 126) M) (k_I fun r4 M3 => ?_)
    refine tq_if_eq (E := E_TownR_read d) (pc := 29) (tgt := 34) (cks_at k_TownR_read 14 rfl rfl) (by decide) ?_ ?_
    · refine tq_iload_n 1 (E := E_TownR_read d) (pc := 34) (cks_at k_TownR_read 17 rfl rfl) rfl ?_
      refine tq_bipush (E := E_TownR_read d) (pc := 35) (cks_at k_TownR_read 18 rfl rfl) (by decide) (by decide) ?_
      refine tq_icmp_ne (E := E_TownR_read d) (pc := 37) (tgt := 58) (cks_at k_TownR_read 19 rfl rfl) (by decide) ?_ ?_
      · refine tq_aload_n 0 (E := E_TownR_read d) (pc := 58) (cks_at k_TownR_read 30 rfl rfl) rfl ?_
        refine tq_getR (j := 1) (E := E_TownR_read d) (pc := 59) (cks_at k_TownR_read 31 rfl rfl) fo_TownR_9 so_37 rfl sp_37_0 ?_
        refine tq_ldcS (j := 0) (s := 0) (E := E_TownR_read d) (pc := 62) (cks_at k_TownR_read 32 rfl rfl) rfl ?_
        refine tq_V1 (E := E_TownR_read d) (pc := 64) (cks_at k_TownR_read 33 rfl rfl) mk_Scan_atWord lk_TownR_54 rc_1 (Nat.le_of_ble_eq_true rfl) (c_Scan_atWord (d + 123) 0 (by decide) M3) (k_I fun r6 M5 => ?_)
        refine tq_if_eq (E := E_TownR_read d) (pc := 67) (tgt := 91) (cks_at k_TownR_read 34 rfl rfl) (by decide) ?_ ?_
        · refine tq_aload_n 0 (E := E_TownR_read d) (pc := 91) (cks_at k_TownR_read 46 rfl rfl) rfl ?_
          refine tq_getR (j := 1) (E := E_TownR_read d) (pc := 92) (cks_at k_TownR_read 47 rfl rfl) fo_TownR_9 so_37 rfl sp_37_0 ?_
          refine tq_ldcS (j := 2) (s := 2) (E := E_TownR_read d) (pc := 95) (cks_at k_TownR_read 48 rfl rfl) rfl ?_
          refine tq_V1 (E := E_TownR_read d) (pc := 97) (cks_at k_TownR_read 49 rfl rfl) mk_Scan_atWord lk_TownR_54 rc_1 (Nat.le_of_ble_eq_true rfl) (c_Scan_atWord (d + 123) 2 (by decide) M5) (k_I fun r8 M7 => ?_)
          refine tq_if_eq (E := E_TownR_read d) (pc := 100) (tgt := 110) (cks_at k_TownR_read 50 rfl rfl) (by decide) ?_ ?_
          · refine tq_aload_n 0 (E := E_TownR_read d) (pc := 110) (cks_at k_TownR_read 54 rfl rfl) rfl ?_
            refine tq_getR (j := 1) (E := E_TownR_read d) (pc := 111) (cks_at k_TownR_read 55 rfl rfl) fo_TownR_9 so_37 rfl sp_37_0 ?_
            refine tq_ldcS (j := 18) (s := 17) (E := E_TownR_read d) (pc := 114) (cks_at k_TownR_read 56 rfl rfl) rfl ?_
            refine tq_V1 (E := E_TownR_read d) (pc := 116) (cks_at k_TownR_read 57 rfl rfl) mk_Scan_atWord lk_TownR_54 rc_1 (Nat.le_of_ble_eq_true rfl) (c_Scan_atWord (d + 123) 17 (by decide) M7) (k_I fun r10 M9 => ?_)
            refine tq_if_eq (E := E_TownR_read d) (pc := 119) (tgt := 129) (cks_at k_TownR_read 58 rfl rfl) (by decide) ?_ ?_
            · refine tq_aload_n 0 (E := E_TownR_read d) (pc := 129) (cks_at k_TownR_read 62 rfl rfl) rfl ?_
              refine tq_V0 (E := E_TownR_read d) (pc := 130) (cks_at k_TownR_read 63 rfl rfl) mk_TownR_beginTold lk_TownR_72 rc_37 (Nat.le_of_ble_eq_true rfl) (c_TownR_beginTold (d + 121) M9) (k_I fun r12 M11 => ?_)
              exact tq_sub [0, 1] rfl (w_TownR_read_J133 d kH kx40 hkH hkx40 v1 r12 M11)
            · refine tq_aload_n 0 (E := E_TownR_read d) (pc := 122) (cks_at k_TownR_read 59 rfl rfl) rfl ?_
              refine tq_V0 (E := E_TownR_read d) (pc := 123) (cks_at k_TownR_read 60 rfl rfl) mk_TownR_walkerTold lk_TownR_69 rc_37 (Nat.le_of_ble_eq_true rfl) (c_TownR_walkerTold (d + 120) M9) (k_I fun r16 M15 => ?_)
              refine tq_goto (tgt := 133) (E := E_TownR_read d) (pc := 126) (cks_at k_TownR_read 61 rfl rfl) (by decide) ?_
              exact tq_sub [0, 1] rfl (w_TownR_read_J133 d kH kx40 hkH hkx40 v1 r16 M15)
          · refine tq_aload_n 0 (E := E_TownR_read d) (pc := 103) (cks_at k_TownR_read 51 rfl rfl) rfl ?_
            refine tq_V0 (E := E_TownR_read d) (pc := 104) (cks_at k_TownR_read 52 rfl rfl) mk_TownR_streetTold lk_TownR_64 rc_37 (Nat.le_of_ble_eq_true rfl) (c_TownR_streetTold (d + 0) M7) (k_I fun r18 M17 => ?_)
            refine tq_goto (tgt := 133) (E := E_TownR_read d) (pc := 107) (cks_at k_TownR_read 53 rfl rfl) (by decide) ?_
            exact tq_sub [0, 1] rfl (w_TownR_read_J133 d kH kx40 hkH hkx40 v1 r18 M17)
        · refine tq_aload_n 0 (E := E_TownR_read d) (pc := 70) (cks_at k_TownR_read 35 rfl rfl) rfl ?_
          refine tq_ldcS (j := 0) (s := 0) (E := E_TownR_read d) (pc := 71) (cks_at k_TownR_read 36 rfl rfl) rfl ?_
          refine tq_iconst (E := E_TownR_read d) (pc := 73) (cks_at k_TownR_read 37 rfl rfl) ?_
          refine tq_bipush (E := E_TownR_read d) (pc := 74) (cks_at k_TownR_read 38 rfl rfl) (by decide) (by decide) ?_
          refine tq_V3 (E := E_TownR_read d) (pc := 76) (cks_at k_TownR_read 39 rfl rfl) mk_TownR_newName lk_TownR_58 rc_37 (Nat.le_of_ble_eq_true rfl) (c_TownR_newName (d + 121) 0 (by decide) 0 9 M5) (k_I fun r20 M19 => ?_)
          refine tq_iconst (E := E_TownR_read d) (pc := 79) (cks_at k_TownR_read 40 rfl rfl) ?_
          refine tq_icmp_eq (E := E_TownR_read d) (pc := 80) (tgt := 87) (cks_at k_TownR_read 41 rfl rfl) (by decide) ?_ ?_
          · refine tq_iconst (E := E_TownR_read d) (pc := 87) (cks_at k_TownR_read 44 rfl rfl) ?_
            refine tq_goto (tgt := 133) (E := E_TownR_read d) (pc := 88) (cks_at k_TownR_read 45 rfl rfl) (by decide) ?_
            exact tq_sub [0, 1] rfl (w_TownR_read_J133 d kH kx40 hkH hkx40 v1 0 M19)
          · refine tq_iconst (E := E_TownR_read d) (pc := 83) (cks_at k_TownR_read 42 rfl rfl) ?_
            refine tq_goto (tgt := 133) (E := E_TownR_read d) (pc := 84) (cks_at k_TownR_read 43 rfl rfl) (by decide) ?_
            exact tq_sub [0, 1] rfl (w_TownR_read_J133 d kH kx40 hkH hkx40 v1 1 M19)
      · exact tq_sub [0] rfl (hkx40 M3)
    · refine tq_iload_n 1 (E := E_TownR_read d) (pc := 32) (cks_at k_TownR_read 15 rfl rfl) rfl ?_
      exact tq_iret (E := E_TownR_read d) (pc := 33) (cks_at k_TownR_read 16 rfl rfl) rfl
def f_TownR_read_L16 (kx40 : Mm → Option (Int × Mm)) : Nat → Int × Mm → Option (Int × Mm) := lp fun kH s => f_TownR_read_B16 (fun v1 M => kH (v1, M)) kx40 s.1 s.2
set_option maxRecDepth 20000 in
set_option maxHeartbeats 4000000 in
theorem w_TownR_read_L16 (d : Nat) (kx40 : Mm → Option (Int × Mm)) (hkx40 : ∀  (M : Mm), T (E_TownR_read d) injI 40 [(0, .ref 37)] [] M (kx40 M)) (n : Nat) (s : Int × Mm) : T (E_TownR_read d) injI 16 [(0, .ref 37), (1, vI s.1)] [] s.2 (f_TownR_read_L16 kx40 n s) :=
  tq_lp (fun s => [(0, .ref 37), (1, vI s.1)]) (fun s => s.2) (fun kH hH s => w_TownR_read_B16 d (fun v1 M => kH (v1, M)) kx40 (fun v1 M => hH (v1, M)) hkx40 s.1 s.2) n s
def f_TownR_read (M : Mm) : Option (Int × Mm) :=
  bV (f_Scan_start M) (fun M1 =>
  bV (f_Told_clear 20 M1) (fun M2 =>
  f_TownR_read_L16 (fun M21 => bI (f_Scan_fail 5 (M21 1 2) M21) (fun r23 M22 =>
      some ((-1), M22))) FU (0, M2)))
set_option maxRecDepth 20000 in
set_option maxHeartbeats 4000000 in
theorem c_TownR_read (d : Nat) (M : Mm) (Q : Option Value → Mm → Prop) (h : sat injI (f_TownR_read M) Q) : Ct (d + 129) y_TownR_read [.ref 37] M Q := by
  refine ct_in (d := d + 128) mk_TownR_read (Nat.le_of_ble_eq_true rfl) (?_ : T (E_TownR_read d) injI 0 [(0, .ref 37)] [] M (f_TownR_read M)) h
  unfold f_TownR_read
  refine tq_aload_n 0 (E := E_TownR_read d) (pc := 0) (cks_at k_TownR_read 0 rfl rfl) rfl ?_
  refine tq_getR (j := 1) (E := E_TownR_read d) (pc := 1) (cks_at k_TownR_read 1 rfl rfl) fo_TownR_9 so_37 rfl sp_37_0 ?_
  refine tq_V0 (E := E_TownR_read d) (pc := 4) (cks_at k_TownR_read 2 rfl rfl) mk_Scan_start lk_TownR_33 rc_1 (Nat.le_of_ble_eq_true rfl) (c_Scan_start (d + 127) M) (k_V fun M1 => ?_)
  refine tq_aload_n 0 (E := E_TownR_read d) (pc := 7) (cks_at k_TownR_read 3 rfl rfl) rfl ?_
  refine tq_getR (j := 20) (E := E_TownR_read d) (pc := 8) (cks_at k_TownR_read 4 rfl rfl) fo_TownR_15 so_37 rfl sp_37_1 ?_
  refine tq_V0 (E := E_TownR_read d) (pc := 11) (cks_at k_TownR_read 5 rfl rfl) mk_Told_clear lk_TownR_38 (isTold_rc (Or.inr rfl)) (Nat.le_of_ble_eq_true rfl) (c_Told_clear (d + 126) 20 (Or.inr rfl) M1) (k_V fun M2 => ?_)
  refine tq_iconst (E := E_TownR_read d) (pc := 14) (cks_at k_TownR_read 6 rfl rfl) ?_
  refine tq_istore_n (E := E_TownR_read d) (pc := 15) (cks_at k_TownR_read 7 rfl rfl) (show 1 < 3 by decide) rfl ?_
  exact tq_sub [1, 0] rfl (w_TownR_read_L16 d _ (fun M21 => by
      refine tq_aload_n 0 (E := E_TownR_read d) (pc := 40) (cks_at k_TownR_read 20 rfl rfl) rfl ?_
      refine tq_getR (j := 1) (E := E_TownR_read d) (pc := 41) (cks_at k_TownR_read 21 rfl rfl) fo_TownR_9 so_37 rfl sp_37_0 ?_
      refine tq_iconst (E := E_TownR_read d) (pc := 44) (cks_at k_TownR_read 22 rfl rfl) ?_
      refine tq_aload_n 0 (E := E_TownR_read d) (pc := 45) (cks_at k_TownR_read 23 rfl rfl) rfl ?_
      refine tq_getR (j := 1) (E := E_TownR_read d) (pc := 46) (cks_at k_TownR_read 24 rfl rfl) fo_TownR_9 so_37 rfl sp_37_0 ?_
      refine tq_getI (E := E_TownR_read d) (pc := 49) (cks_at k_TownR_read 25 rfl rfl) fo_TownR_45 so_1 rfl (by decide) ?_
      refine tq_V2 (E := E_TownR_read d) (pc := 52) (cks_at k_TownR_read 26 rfl rfl) mk_Scan_fail lk_TownR_49 rc_1 (Nat.le_of_ble_eq_true rfl) (c_Scan_fail (d + 127) 5 (M21 1 2) M21) (k_I fun r23 M22 => ?_)
      refine tq_pop (E := E_TownR_read d) (pc := 55) (cks_at k_TownR_read 27 rfl rfl) rfl ?_
      refine tq_iconst (E := E_TownR_read d) (pc := 56) (cks_at k_TownR_read 28 rfl rfl) ?_
      exact tq_iret (E := E_TownR_read d) (pc := 57) (cks_at k_TownR_read 29 rfl rfl) rfl) FU (0, M2))
