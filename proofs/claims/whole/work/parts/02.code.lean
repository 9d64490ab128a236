/-- the byte at a place -/
def bt (cc : ByteArray) (p : Nat) : Option Nat := (cc.data.toList[p]?).map UInt8.toNat
theorem bt_u1 {cc : ByteArray} {p b : Nat} (h : bt cc p = some b) : (Reader.u1 : Decoder Nat) cc p = .ok (b, p + 1) := by
  unfold bt at h
  cases hq : cc.data.toList[p]? with
  | none => rw [hq] at h; cases h
  | some u =>
    rw [hq] at h
    have hb : u.toNat = b := Option.some.inj h
    obtain ⟨hl, hu⟩ := List.getElem?_eq_some_iff.mp hq
    have hs : p < cc.size := hl
    have hg : cc[p] = u := hu
    show (if h : p < cc.size then _ else _ : Decoder Nat) cc (p) = _
    rw [dif_pos hs]
    show Except.ok (cc[p].toNat, p + 1) = _
    rw [hg, hb]
theorem bt_u2 {cc : ByteArray} {p a b : Nat} (ha : bt cc p = some a) (hb : bt cc (p + 1) = some b) : (Reader.u2 : Decoder Nat) cc p = .ok (a * 256 + b, p + 1 + 1) := by
  show (Reader.u1 cc p >>= fun q => Reader.u1 cc q.2 >>= fun r => Except.ok (q.1 * 256 + r.1, r.2)) = _
  rw [bt_u1 ha]
  show (Reader.u1 cc (p + 1) >>= fun r => Except.ok (a * 256 + r.1, r.2)) = _
  rw [bt_u1 hb]
  rfl
theorem bt_s1 {cc : ByteArray} {p a : Nat} (ha : bt cc p = some a) : (Reader.s1 : Decoder Int) cc p = .ok (Reader.signed 8 a, p + 1) := by
  show (Reader.u1 cc p >>= fun q => Except.ok (Reader.signed 8 q.1, q.2)) = _
  rw [bt_u1 ha]
  rfl
theorem bt_s2 {cc : ByteArray} {p a b : Nat} (ha : bt cc p = some a) (hb : bt cc (p + 1) = some b) : (Reader.s2 : Decoder Int) cc p = .ok (Reader.signed 16 (a * 256 + b), p + 1 + 1) := by
  show (Reader.u2 cc p >>= fun q => Except.ok (Reader.signed 16 q.1, q.2)) = _
  rw [bt_u2 ha hb]
  rfl
theorem bt_go {cc : ByteArray} {p o : Nat} (h : bt cc p = some o) {K : Nat → Decoder Instr} (hK : Decoder.instr p = (Reader.u1 >>= K)) {i : Instr} {q : Nat} (hq : K o cc (p + 1) = .ok (i, q)) : decode cc p = .ok (i, q - p) := by
  unfold decode Reader.runAt
  rw [hK]
  show ((Reader.u1 cc p >>= fun z => K z.1 cc z.2) >>= fun z => Except.ok (z.1, z.2 - p)) = _
  rw [bt_u1 h]
  show (K o cc (p + 1) >>= fun z => Except.ok (z.1, z.2 - p)) = _
  rw [hq]
  rfl
set_option maxHeartbeats 4000000
theorem e_iaload {cc : ByteArray} {p : Nat} (h : bt cc p = some 46) : decode cc p = .ok (.iaload, 1) := by
  rw [bt_go h (q := p + 1) (i := .iaload) (by unfold Decoder.instr; rfl) rfl, Nat.add_sub_cancel_left]
theorem e_laload {cc : ByteArray} {p : Nat} (h : bt cc p = some 47) : decode cc p = .ok (.laload, 1) := by
  rw [bt_go h (q := p + 1) (i := .laload) (by unfold Decoder.instr; rfl) rfl, Nat.add_sub_cancel_left]
theorem e_baload {cc : ByteArray} {p : Nat} (h : bt cc p = some 51) : decode cc p = .ok (.baload, 1) := by
  rw [bt_go h (q := p + 1) (i := .baload) (by unfold Decoder.instr; rfl) rfl, Nat.add_sub_cancel_left]
theorem e_caload {cc : ByteArray} {p : Nat} (h : bt cc p = some 52) : decode cc p = .ok (.caload, 1) := by
  rw [bt_go h (q := p + 1) (i := .caload) (by unfold Decoder.instr; rfl) rfl, Nat.add_sub_cancel_left]
theorem e_iastore {cc : ByteArray} {p : Nat} (h : bt cc p = some 79) : decode cc p = .ok (.iastore, 1) := by
  rw [bt_go h (q := p + 1) (i := .iastore) (by unfold Decoder.instr; rfl) rfl, Nat.add_sub_cancel_left]
theorem e_lastore {cc : ByteArray} {p : Nat} (h : bt cc p = some 80) : decode cc p = .ok (.lastore, 1) := by
  rw [bt_go h (q := p + 1) (i := .lastore) (by unfold Decoder.instr; rfl) rfl, Nat.add_sub_cancel_left]
theorem e_bastore {cc : ByteArray} {p : Nat} (h : bt cc p = some 84) : decode cc p = .ok (.bastore, 1) := by
  rw [bt_go h (q := p + 1) (i := .bastore) (by unfold Decoder.instr; rfl) rfl, Nat.add_sub_cancel_left]
theorem e_castore {cc : ByteArray} {p : Nat} (h : bt cc p = some 85) : decode cc p = .ok (.castore, 1) := by
  rw [bt_go h (q := p + 1) (i := .castore) (by unfold Decoder.instr; rfl) rfl, Nat.add_sub_cancel_left]
theorem e_pop {cc : ByteArray} {p : Nat} (h : bt cc p = some 87) : decode cc p = .ok (.pop, 1) := by
  rw [bt_go h (q := p + 1) (i := .pop) (by unfold Decoder.instr; rfl) rfl, Nat.add_sub_cancel_left]
theorem e_dup {cc : ByteArray} {p : Nat} (h : bt cc p = some 89) : decode cc p = .ok (.dup, 1) := by
  rw [bt_go h (q := p + 1) (i := .dup) (by unfold Decoder.instr; rfl) rfl, Nat.add_sub_cancel_left]
theorem e_dup2 {cc : ByteArray} {p : Nat} (h : bt cc p = some 92) : decode cc p = .ok (.dup2, 1) := by
  rw [bt_go h (q := p + 1) (i := .dup2) (by unfold Decoder.instr; rfl) rfl, Nat.add_sub_cancel_left]
theorem e_iadd {cc : ByteArray} {p : Nat} (h : bt cc p = some 96) : decode cc p = .ok (.iadd, 1) := by
  rw [bt_go h (q := p + 1) (i := .iadd) (by unfold Decoder.instr; rfl) rfl, Nat.add_sub_cancel_left]
theorem e_ladd {cc : ByteArray} {p : Nat} (h : bt cc p = some 97) : decode cc p = .ok (.ladd, 1) := by
  rw [bt_go h (q := p + 1) (i := .ladd) (by unfold Decoder.instr; rfl) rfl, Nat.add_sub_cancel_left]
theorem e_isub {cc : ByteArray} {p : Nat} (h : bt cc p = some 100) : decode cc p = .ok (.isub, 1) := by
  rw [bt_go h (q := p + 1) (i := .isub) (by unfold Decoder.instr; rfl) rfl, Nat.add_sub_cancel_left]
theorem e_lsub {cc : ByteArray} {p : Nat} (h : bt cc p = some 101) : decode cc p = .ok (.lsub, 1) := by
  rw [bt_go h (q := p + 1) (i := .lsub) (by unfold Decoder.instr; rfl) rfl, Nat.add_sub_cancel_left]
theorem e_imul {cc : ByteArray} {p : Nat} (h : bt cc p = some 104) : decode cc p = .ok (.imul, 1) := by
  rw [bt_go h (q := p + 1) (i := .imul) (by unfold Decoder.instr; rfl) rfl, Nat.add_sub_cancel_left]
theorem e_lmul {cc : ByteArray} {p : Nat} (h : bt cc p = some 105) : decode cc p = .ok (.lmul, 1) := by
  rw [bt_go h (q := p + 1) (i := .lmul) (by unfold Decoder.instr; rfl) rfl, Nat.add_sub_cancel_left]
theorem e_idiv {cc : ByteArray} {p : Nat} (h : bt cc p = some 108) : decode cc p = .ok (.idiv, 1) := by
  rw [bt_go h (q := p + 1) (i := .idiv) (by unfold Decoder.instr; rfl) rfl, Nat.add_sub_cancel_left]
theorem e_ldiv {cc : ByteArray} {p : Nat} (h : bt cc p = some 109) : decode cc p = .ok (.ldiv, 1) := by
  rw [bt_go h (q := p + 1) (i := .ldiv) (by unfold Decoder.instr; rfl) rfl, Nat.add_sub_cancel_left]
theorem e_irem {cc : ByteArray} {p : Nat} (h : bt cc p = some 112) : decode cc p = .ok (.irem, 1) := by
  rw [bt_go h (q := p + 1) (i := .irem) (by unfold Decoder.instr; rfl) rfl, Nat.add_sub_cancel_left]
theorem e_lrem {cc : ByteArray} {p : Nat} (h : bt cc p = some 113) : decode cc p = .ok (.lrem, 1) := by
  rw [bt_go h (q := p + 1) (i := .lrem) (by unfold Decoder.instr; rfl) rfl, Nat.add_sub_cancel_left]
theorem e_ineg {cc : ByteArray} {p : Nat} (h : bt cc p = some 116) : decode cc p = .ok (.ineg, 1) := by
  rw [bt_go h (q := p + 1) (i := .ineg) (by unfold Decoder.instr; rfl) rfl, Nat.add_sub_cancel_left]
theorem e_ishl {cc : ByteArray} {p : Nat} (h : bt cc p = some 120) : decode cc p = .ok (.ishl, 1) := by
  rw [bt_go h (q := p + 1) (i := .ishl) (by unfold Decoder.instr; rfl) rfl, Nat.add_sub_cancel_left]
theorem e_lshl {cc : ByteArray} {p : Nat} (h : bt cc p = some 121) : decode cc p = .ok (.lshl, 1) := by
  rw [bt_go h (q := p + 1) (i := .lshl) (by unfold Decoder.instr; rfl) rfl, Nat.add_sub_cancel_left]
theorem e_ishr {cc : ByteArray} {p : Nat} (h : bt cc p = some 122) : decode cc p = .ok (.ishr, 1) := by
  rw [bt_go h (q := p + 1) (i := .ishr) (by unfold Decoder.instr; rfl) rfl, Nat.add_sub_cancel_left]
theorem e_lshr {cc : ByteArray} {p : Nat} (h : bt cc p = some 123) : decode cc p = .ok (.lshr, 1) := by
  rw [bt_go h (q := p + 1) (i := .lshr) (by unfold Decoder.instr; rfl) rfl, Nat.add_sub_cancel_left]
theorem e_iand {cc : ByteArray} {p : Nat} (h : bt cc p = some 126) : decode cc p = .ok (.iand, 1) := by
  rw [bt_go h (q := p + 1) (i := .iand) (by unfold Decoder.instr; rfl) rfl, Nat.add_sub_cancel_left]
theorem e_land {cc : ByteArray} {p : Nat} (h : bt cc p = some 127) : decode cc p = .ok (.land, 1) := by
  rw [bt_go h (q := p + 1) (i := .land) (by unfold Decoder.instr; rfl) rfl, Nat.add_sub_cancel_left]
theorem e_ior {cc : ByteArray} {p : Nat} (h : bt cc p = some 128) : decode cc p = .ok (.ior, 1) := by
  rw [bt_go h (q := p + 1) (i := .ior) (by unfold Decoder.instr; rfl) rfl, Nat.add_sub_cancel_left]
theorem e_ixor {cc : ByteArray} {p : Nat} (h : bt cc p = some 130) : decode cc p = .ok (.ixor, 1) := by
  rw [bt_go h (q := p + 1) (i := .ixor) (by unfold Decoder.instr; rfl) rfl, Nat.add_sub_cancel_left]
theorem e_i2l {cc : ByteArray} {p : Nat} (h : bt cc p = some 133) : decode cc p = .ok (.i2l, 1) := by
  rw [bt_go h (q := p + 1) (i := .i2l) (by unfold Decoder.instr; rfl) rfl, Nat.add_sub_cancel_left]
theorem e_l2i {cc : ByteArray} {p : Nat} (h : bt cc p = some 136) : decode cc p = .ok (.l2i, 1) := by
  rw [bt_go h (q := p + 1) (i := .l2i) (by unfold Decoder.instr; rfl) rfl, Nat.add_sub_cancel_left]
theorem e_i2c {cc : ByteArray} {p : Nat} (h : bt cc p = some 146) : decode cc p = .ok (.i2c, 1) := by
  rw [bt_go h (q := p + 1) (i := .i2c) (by unfold Decoder.instr; rfl) rfl, Nat.add_sub_cancel_left]
theorem e_lcmp {cc : ByteArray} {p : Nat} (h : bt cc p = some 148) : decode cc p = .ok (.lcmp, 1) := by
  rw [bt_go h (q := p + 1) (i := .lcmp) (by unfold Decoder.instr; rfl) rfl, Nat.add_sub_cancel_left]
theorem e_ireturn {cc : ByteArray} {p : Nat} (h : bt cc p = some 172) : decode cc p = .ok (.ireturn, 1) := by
  rw [bt_go h (q := p + 1) (i := .ireturn) (by unfold Decoder.instr; rfl) rfl, Nat.add_sub_cancel_left]
theorem e_lreturn {cc : ByteArray} {p : Nat} (h : bt cc p = some 173) : decode cc p = .ok (.lreturn, 1) := by
  rw [bt_go h (q := p + 1) (i := .lreturn) (by unfold Decoder.instr; rfl) rfl, Nat.add_sub_cancel_left]
theorem e_return_ {cc : ByteArray} {p : Nat} (h : bt cc p = some 177) : decode cc p = .ok (.return_, 1) := by
  rw [bt_go h (q := p + 1) (i := .return_) (by unfold Decoder.instr; rfl) rfl, Nat.add_sub_cancel_left]
theorem e_arraylength {cc : ByteArray} {p : Nat} (h : bt cc p = some 190) : decode cc p = .ok (.arraylength, 1) := by
  rw [bt_go h (q := p + 1) (i := .arraylength) (by unfold Decoder.instr; rfl) rfl, Nat.add_sub_cancel_left]
theorem e_athrow {cc : ByteArray} {p : Nat} (h : bt cc p = some 191) : decode cc p = .ok (.athrow, 1) := by
  rw [bt_go h (q := p + 1) (i := .athrow) (by unfold Decoder.instr; rfl) rfl, Nat.add_sub_cancel_left]
theorem e_iload_n_0 {cc : ByteArray} {p : Nat} (h : bt cc p = some 26) : decode cc p = .ok (.iload_n 0, 1) := by
  rw [bt_go h (q := p + 1) (i := .iload_n 0) (by unfold Decoder.instr; rfl) rfl, Nat.add_sub_cancel_left]
theorem e_iload_n_1 {cc : ByteArray} {p : Nat} (h : bt cc p = some 27) : decode cc p = .ok (.iload_n 1, 1) := by
  rw [bt_go h (q := p + 1) (i := .iload_n 1) (by unfold Decoder.instr; rfl) rfl, Nat.add_sub_cancel_left]
theorem e_iload_n_2 {cc : ByteArray} {p : Nat} (h : bt cc p = some 28) : decode cc p = .ok (.iload_n 2, 1) := by
  rw [bt_go h (q := p + 1) (i := .iload_n 2) (by unfold Decoder.instr; rfl) rfl, Nat.add_sub_cancel_left]
theorem e_iload_n_3 {cc : ByteArray} {p : Nat} (h : bt cc p = some 29) : decode cc p = .ok (.iload_n 3, 1) := by
  rw [bt_go h (q := p + 1) (i := .iload_n 3) (by unfold Decoder.instr; rfl) rfl, Nat.add_sub_cancel_left]
theorem e_lload_n_0 {cc : ByteArray} {p : Nat} (h : bt cc p = some 30) : decode cc p = .ok (.lload_n 0, 1) := by
  rw [bt_go h (q := p + 1) (i := .lload_n 0) (by unfold Decoder.instr; rfl) rfl, Nat.add_sub_cancel_left]
theorem e_lload_n_1 {cc : ByteArray} {p : Nat} (h : bt cc p = some 31) : decode cc p = .ok (.lload_n 1, 1) := by
  rw [bt_go h (q := p + 1) (i := .lload_n 1) (by unfold Decoder.instr; rfl) rfl, Nat.add_sub_cancel_left]
theorem e_lload_n_2 {cc : ByteArray} {p : Nat} (h : bt cc p = some 32) : decode cc p = .ok (.lload_n 2, 1) := by
  rw [bt_go h (q := p + 1) (i := .lload_n 2) (by unfold Decoder.instr; rfl) rfl, Nat.add_sub_cancel_left]
theorem e_lload_n_3 {cc : ByteArray} {p : Nat} (h : bt cc p = some 33) : decode cc p = .ok (.lload_n 3, 1) := by
  rw [bt_go h (q := p + 1) (i := .lload_n 3) (by unfold Decoder.instr; rfl) rfl, Nat.add_sub_cancel_left]
theorem e_aload_n_0 {cc : ByteArray} {p : Nat} (h : bt cc p = some 42) : decode cc p = .ok (.aload_n 0, 1) := by
  rw [bt_go h (q := p + 1) (i := .aload_n 0) (by unfold Decoder.instr; rfl) rfl, Nat.add_sub_cancel_left]
theorem e_aload_n_1 {cc : ByteArray} {p : Nat} (h : bt cc p = some 43) : decode cc p = .ok (.aload_n 1, 1) := by
  rw [bt_go h (q := p + 1) (i := .aload_n 1) (by unfold Decoder.instr; rfl) rfl, Nat.add_sub_cancel_left]
theorem e_aload_n_2 {cc : ByteArray} {p : Nat} (h : bt cc p = some 44) : decode cc p = .ok (.aload_n 2, 1) := by
  rw [bt_go h (q := p + 1) (i := .aload_n 2) (by unfold Decoder.instr; rfl) rfl, Nat.add_sub_cancel_left]
theorem e_aload_n_3 {cc : ByteArray} {p : Nat} (h : bt cc p = some 45) : decode cc p = .ok (.aload_n 3, 1) := by
  rw [bt_go h (q := p + 1) (i := .aload_n 3) (by unfold Decoder.instr; rfl) rfl, Nat.add_sub_cancel_left]
theorem e_istore_n_0 {cc : ByteArray} {p : Nat} (h : bt cc p = some 59) : decode cc p = .ok (.istore_n 0, 1) := by
  rw [bt_go h (q := p + 1) (i := .istore_n 0) (by unfold Decoder.instr; rfl) rfl, Nat.add_sub_cancel_left]
theorem e_istore_n_1 {cc : ByteArray} {p : Nat} (h : bt cc p = some 60) : decode cc p = .ok (.istore_n 1, 1) := by
  rw [bt_go h (q := p + 1) (i := .istore_n 1) (by unfold Decoder.instr; rfl) rfl, Nat.add_sub_cancel_left]
theorem e_istore_n_2 {cc : ByteArray} {p : Nat} (h : bt cc p = some 61) : decode cc p = .ok (.istore_n 2, 1) := by
  rw [bt_go h (q := p + 1) (i := .istore_n 2) (by unfold Decoder.instr; rfl) rfl, Nat.add_sub_cancel_left]
theorem e_istore_n_3 {cc : ByteArray} {p : Nat} (h : bt cc p = some 62) : decode cc p = .ok (.istore_n 3, 1) := by
  rw [bt_go h (q := p + 1) (i := .istore_n 3) (by unfold Decoder.instr; rfl) rfl, Nat.add_sub_cancel_left]
theorem e_lstore_n_0 {cc : ByteArray} {p : Nat} (h : bt cc p = some 63) : decode cc p = .ok (.lstore_n 0, 1) := by
  rw [bt_go h (q := p + 1) (i := .lstore_n 0) (by unfold Decoder.instr; rfl) rfl, Nat.add_sub_cancel_left]
theorem e_lstore_n_1 {cc : ByteArray} {p : Nat} (h : bt cc p = some 64) : decode cc p = .ok (.lstore_n 1, 1) := by
  rw [bt_go h (q := p + 1) (i := .lstore_n 1) (by unfold Decoder.instr; rfl) rfl, Nat.add_sub_cancel_left]
theorem e_lstore_n_2 {cc : ByteArray} {p : Nat} (h : bt cc p = some 65) : decode cc p = .ok (.lstore_n 2, 1) := by
  rw [bt_go h (q := p + 1) (i := .lstore_n 2) (by unfold Decoder.instr; rfl) rfl, Nat.add_sub_cancel_left]
theorem e_lstore_n_3 {cc : ByteArray} {p : Nat} (h : bt cc p = some 66) : decode cc p = .ok (.lstore_n 3, 1) := by
  rw [bt_go h (q := p + 1) (i := .lstore_n 3) (by unfold Decoder.instr; rfl) rfl, Nat.add_sub_cancel_left]
theorem e_astore_n_0 {cc : ByteArray} {p : Nat} (h : bt cc p = some 75) : decode cc p = .ok (.astore_n 0, 1) := by
  rw [bt_go h (q := p + 1) (i := .astore_n 0) (by unfold Decoder.instr; rfl) rfl, Nat.add_sub_cancel_left]
theorem e_astore_n_1 {cc : ByteArray} {p : Nat} (h : bt cc p = some 76) : decode cc p = .ok (.astore_n 1, 1) := by
  rw [bt_go h (q := p + 1) (i := .astore_n 1) (by unfold Decoder.instr; rfl) rfl, Nat.add_sub_cancel_left]
theorem e_astore_n_2 {cc : ByteArray} {p : Nat} (h : bt cc p = some 77) : decode cc p = .ok (.astore_n 2, 1) := by
  rw [bt_go h (q := p + 1) (i := .astore_n 2) (by unfold Decoder.instr; rfl) rfl, Nat.add_sub_cancel_left]
theorem e_astore_n_3 {cc : ByteArray} {p : Nat} (h : bt cc p = some 78) : decode cc p = .ok (.astore_n 3, 1) := by
  rw [bt_go h (q := p + 1) (i := .astore_n 3) (by unfold Decoder.instr; rfl) rfl, Nat.add_sub_cancel_left]
theorem e_lconst_0 {cc : ByteArray} {p : Nat} (h : bt cc p = some 9) : decode cc p = .ok (.lconst 0, 1) := by
  rw [bt_go h (q := p + 1) (i := .lconst 0) (by unfold Decoder.instr; rfl) rfl, Nat.add_sub_cancel_left]
theorem e_lconst_1 {cc : ByteArray} {p : Nat} (h : bt cc p = some 10) : decode cc p = .ok (.lconst 1, 1) := by
  rw [bt_go h (q := p + 1) (i := .lconst 1) (by unfold Decoder.instr; rfl) rfl, Nat.add_sub_cancel_left]
theorem e_iconst_m1 {cc : ByteArray} {p : Nat} (h : bt cc p = some 2) : decode cc p = .ok (.iconst (-1), 1) := by
  rw [bt_go h (q := p + 1) (i := .iconst (-1)) (by unfold Decoder.instr; rfl) rfl, Nat.add_sub_cancel_left]
theorem e_iconst_0 {cc : ByteArray} {p : Nat} (h : bt cc p = some 3) : decode cc p = .ok (.iconst (0), 1) := by
  rw [bt_go h (q := p + 1) (i := .iconst (0)) (by unfold Decoder.instr; rfl) rfl, Nat.add_sub_cancel_left]
theorem e_iconst_1 {cc : ByteArray} {p : Nat} (h : bt cc p = some 4) : decode cc p = .ok (.iconst (1), 1) := by
  rw [bt_go h (q := p + 1) (i := .iconst (1)) (by unfold Decoder.instr; rfl) rfl, Nat.add_sub_cancel_left]
theorem e_iconst_2 {cc : ByteArray} {p : Nat} (h : bt cc p = some 5) : decode cc p = .ok (.iconst (2), 1) := by
  rw [bt_go h (q := p + 1) (i := .iconst (2)) (by unfold Decoder.instr; rfl) rfl, Nat.add_sub_cancel_left]
theorem e_iconst_3 {cc : ByteArray} {p : Nat} (h : bt cc p = some 6) : decode cc p = .ok (.iconst (3), 1) := by
  rw [bt_go h (q := p + 1) (i := .iconst (3)) (by unfold Decoder.instr; rfl) rfl, Nat.add_sub_cancel_left]
theorem e_iconst_4 {cc : ByteArray} {p : Nat} (h : bt cc p = some 7) : decode cc p = .ok (.iconst (4), 1) := by
  rw [bt_go h (q := p + 1) (i := .iconst (4)) (by unfold Decoder.instr; rfl) rfl, Nat.add_sub_cancel_left]
theorem e_iconst_5 {cc : ByteArray} {p : Nat} (h : bt cc p = some 8) : decode cc p = .ok (.iconst (5), 1) := by
  rw [bt_go h (q := p + 1) (i := .iconst (5)) (by unfold Decoder.instr; rfl) rfl, Nat.add_sub_cancel_left]
theorem e_ldc {cc : ByteArray} {p a : Nat} (h : bt cc p = some 18) (ha : bt cc (p + 1) = some a) : decode cc p = .ok (.ldc a, 2) := by
  rw [bt_go h (q := p + 2) (i := .ldc a) (by unfold Decoder.instr; rfl) (by show (Reader.u1 cc (p + 1) >>= fun z => Except.ok (Instr.ldc z.1, z.2)) = _; rw [bt_u1 ha]; rfl), Nat.add_sub_cancel_left]
theorem e_iload {cc : ByteArray} {p a : Nat} (h : bt cc p = some 21) (ha : bt cc (p + 1) = some a) : decode cc p = .ok (.iload a, 2) := by
  rw [bt_go h (q := p + 2) (i := .iload a) (by unfold Decoder.instr; rfl) (by show (Reader.u1 cc (p + 1) >>= fun z => Except.ok (Instr.iload z.1, z.2)) = _; rw [bt_u1 ha]; rfl), Nat.add_sub_cancel_left]
theorem e_lload {cc : ByteArray} {p a : Nat} (h : bt cc p = some 22) (ha : bt cc (p + 1) = some a) : decode cc p = .ok (.lload a, 2) := by
  rw [bt_go h (q := p + 2) (i := .lload a) (by unfold Decoder.instr; rfl) (by show (Reader.u1 cc (p + 1) >>= fun z => Except.ok (Instr.lload z.1, z.2)) = _; rw [bt_u1 ha]; rfl), Nat.add_sub_cancel_left]
theorem e_aload {cc : ByteArray} {p a : Nat} (h : bt cc p = some 25) (ha : bt cc (p + 1) = some a) : decode cc p = .ok (.aload a, 2) := by
  rw [bt_go h (q := p + 2) (i := .aload a) (by unfold Decoder.instr; rfl) (by show (Reader.u1 cc (p + 1) >>= fun z => Except.ok (Instr.aload z.1, z.2)) = _; rw [bt_u1 ha]; rfl), Nat.add_sub_cancel_left]
theorem e_istore {cc : ByteArray} {p a : Nat} (h : bt cc p = some 54) (ha : bt cc (p + 1) = some a) : decode cc p = .ok (.istore a, 2) := by
  rw [bt_go h (q := p + 2) (i := .istore a) (by unfold Decoder.instr; rfl) (by show (Reader.u1 cc (p + 1) >>= fun z => Except.ok (Instr.istore z.1, z.2)) = _; rw [bt_u1 ha]; rfl), Nat.add_sub_cancel_left]
theorem e_lstore {cc : ByteArray} {p a : Nat} (h : bt cc p = some 55) (ha : bt cc (p + 1) = some a) : decode cc p = .ok (.lstore a, 2) := by
  rw [bt_go h (q := p + 2) (i := .lstore a) (by unfold Decoder.instr; rfl) (by show (Reader.u1 cc (p + 1) >>= fun z => Except.ok (Instr.lstore z.1, z.2)) = _; rw [bt_u1 ha]; rfl), Nat.add_sub_cancel_left]
theorem e_astore {cc : ByteArray} {p a : Nat} (h : bt cc p = some 58) (ha : bt cc (p + 1) = some a) : decode cc p = .ok (.astore a, 2) := by
  rw [bt_go h (q := p + 2) (i := .astore a) (by unfold Decoder.instr; rfl) (by show (Reader.u1 cc (p + 1) >>= fun z => Except.ok (Instr.astore z.1, z.2)) = _; rw [bt_u1 ha]; rfl), Nat.add_sub_cancel_left]
theorem e_ldc_w {cc : ByteArray} {p a b : Nat} (h : bt cc p = some 19) (ha : bt cc (p + 1) = some a) (hb : bt cc (p + 1 + 1) = some b) : decode cc p = .ok (.ldc_w (a * 256 + b), 3) := by
  rw [bt_go h (q := p + 3) (i := .ldc_w (a * 256 + b)) (by unfold Decoder.instr; rfl) (by show (Reader.u2 cc (p + 1) >>= fun z => Except.ok (Instr.ldc_w z.1, z.2)) = _; rw [bt_u2 ha hb]; rfl), Nat.add_sub_cancel_left]
theorem e_ldc2_w {cc : ByteArray} {p a b : Nat} (h : bt cc p = some 20) (ha : bt cc (p + 1) = some a) (hb : bt cc (p + 1 + 1) = some b) : decode cc p = .ok (.ldc2_w (a * 256 + b), 3) := by
  rw [bt_go h (q := p + 3) (i := .ldc2_w (a * 256 + b)) (by unfold Decoder.instr; rfl) (by show (Reader.u2 cc (p + 1) >>= fun z => Except.ok (Instr.ldc2_w z.1, z.2)) = _; rw [bt_u2 ha hb]; rfl), Nat.add_sub_cancel_left]
theorem e_getstatic {cc : ByteArray} {p a b : Nat} (h : bt cc p = some 178) (ha : bt cc (p + 1) = some a) (hb : bt cc (p + 1 + 1) = some b) : decode cc p = .ok (.getstatic (a * 256 + b), 3) := by
  rw [bt_go h (q := p + 3) (i := .getstatic (a * 256 + b)) (by unfold Decoder.instr; rfl) (by show (Reader.u2 cc (p + 1) >>= fun z => Except.ok (Instr.getstatic z.1, z.2)) = _; rw [bt_u2 ha hb]; rfl), Nat.add_sub_cancel_left]
theorem e_getfield {cc : ByteArray} {p a b : Nat} (h : bt cc p = some 180) (ha : bt cc (p + 1) = some a) (hb : bt cc (p + 1 + 1) = some b) : decode cc p = .ok (.getfield (a * 256 + b), 3) := by
  rw [bt_go h (q := p + 3) (i := .getfield (a * 256 + b)) (by unfold Decoder.instr; rfl) (by show (Reader.u2 cc (p + 1) >>= fun z => Except.ok (Instr.getfield z.1, z.2)) = _; rw [bt_u2 ha hb]; rfl), Nat.add_sub_cancel_left]
theorem e_putfield {cc : ByteArray} {p a b : Nat} (h : bt cc p = some 181) (ha : bt cc (p + 1) = some a) (hb : bt cc (p + 1 + 1) = some b) : decode cc p = .ok (.putfield (a * 256 + b), 3) := by
  rw [bt_go h (q := p + 3) (i := .putfield (a * 256 + b)) (by unfold Decoder.instr; rfl) (by show (Reader.u2 cc (p + 1) >>= fun z => Except.ok (Instr.putfield z.1, z.2)) = _; rw [bt_u2 ha hb]; rfl), Nat.add_sub_cancel_left]
theorem e_invokevirtual {cc : ByteArray} {p a b : Nat} (h : bt cc p = some 182) (ha : bt cc (p + 1) = some a) (hb : bt cc (p + 1 + 1) = some b) : decode cc p = .ok (.invokevirtual (a * 256 + b), 3) := by
  rw [bt_go h (q := p + 3) (i := .invokevirtual (a * 256 + b)) (by unfold Decoder.instr; rfl) (by show (Reader.u2 cc (p + 1) >>= fun z => Except.ok (Instr.invokevirtual z.1, z.2)) = _; rw [bt_u2 ha hb]; rfl), Nat.add_sub_cancel_left]
theorem e_invokespecial {cc : ByteArray} {p a b : Nat} (h : bt cc p = some 183) (ha : bt cc (p + 1) = some a) (hb : bt cc (p + 1 + 1) = some b) : decode cc p = .ok (.invokespecial (a * 256 + b), 3) := by
  rw [bt_go h (q := p + 3) (i := .invokespecial (a * 256 + b)) (by unfold Decoder.instr; rfl) (by show (Reader.u2 cc (p + 1) >>= fun z => Except.ok (Instr.invokespecial z.1, z.2)) = _; rw [bt_u2 ha hb]; rfl), Nat.add_sub_cancel_left]
theorem e_invokestatic {cc : ByteArray} {p a b : Nat} (h : bt cc p = some 184) (ha : bt cc (p + 1) = some a) (hb : bt cc (p + 1 + 1) = some b) : decode cc p = .ok (.invokestatic (a * 256 + b), 3) := by
  rw [bt_go h (q := p + 3) (i := .invokestatic (a * 256 + b)) (by unfold Decoder.instr; rfl) (by show (Reader.u2 cc (p + 1) >>= fun z => Except.ok (Instr.invokestatic z.1, z.2)) = _; rw [bt_u2 ha hb]; rfl), Nat.add_sub_cancel_left]
theorem e_new {cc : ByteArray} {p a b : Nat} (h : bt cc p = some 187) (ha : bt cc (p + 1) = some a) (hb : bt cc (p + 1 + 1) = some b) : decode cc p = .ok (.new (a * 256 + b), 3) := by
  rw [bt_go h (q := p + 3) (i := .new (a * 256 + b)) (by unfold Decoder.instr; rfl) (by show (Reader.u2 cc (p + 1) >>= fun z => Except.ok (Instr.new z.1, z.2)) = _; rw [bt_u2 ha hb]; rfl), Nat.add_sub_cancel_left]
theorem e_bipush {cc : ByteArray} {p a : Nat} (h : bt cc p = some 16) (ha : bt cc (p + 1) = some a) : decode cc p = .ok (.bipush (Reader.signed 8 a), 2) := by
  rw [bt_go h (q := p + 2) (i := .bipush (Reader.signed 8 a)) (by unfold Decoder.instr; rfl) (by show (Reader.s1 cc (p + 1) >>= fun z => Except.ok (Instr.bipush z.1, z.2)) = _; rw [bt_s1 ha]; rfl), Nat.add_sub_cancel_left]
theorem e_iinc {cc : ByteArray} {p a b : Nat} (h : bt cc p = some 132) (ha : bt cc (p + 1) = some a) (hb : bt cc (p + 1 + 1) = some b) : decode cc p = .ok (.iinc a (Reader.signed 8 b), 3) := by
  rw [bt_go h (q := p + 3) (i := .iinc a (Reader.signed 8 b)) (by unfold Decoder.instr; rfl) (by show (Reader.u1 cc (p + 1) >>= fun y => Reader.s1 cc y.2 >>= fun z => Except.ok (Instr.iinc y.1 z.1, z.2)) = _; rw [bt_u1 ha]; show (Reader.s1 cc (p + 1 + 1) >>= fun z => Except.ok (Instr.iinc a z.1, z.2)) = _; rw [bt_s1 hb]; rfl), Nat.add_sub_cancel_left]
theorem e_sipush {cc : ByteArray} {p a b : Nat} (h : bt cc p = some 17) (ha : bt cc (p + 1) = some a) (hb : bt cc (p + 1 + 1) = some b) : decode cc p = .ok (.sipush (Reader.signed 16 (a * 256 + b)), 3) := by
  rw [bt_go h (q := p + 3) (i := .sipush (Reader.signed 16 (a * 256 + b))) (by unfold Decoder.instr; rfl) (by show (Reader.s2 cc (p + 1) >>= fun z => Except.ok (Instr.sipush z.1, z.2)) = _; rw [bt_s2 ha hb]; rfl), Nat.add_sub_cancel_left]
theorem e_goto {cc : ByteArray} {p a b : Nat} (h : bt cc p = some 167) (ha : bt cc (p + 1) = some a) (hb : bt cc (p + 1 + 1) = some b) : decode cc p = .ok (.goto (Reader.signed 16 (a * 256 + b)), 3) := by
  rw [bt_go h (q := p + 3) (i := .goto (Reader.signed 16 (a * 256 + b))) (by unfold Decoder.instr; rfl) (by show (Reader.s2 cc (p + 1) >>= fun z => Except.ok (Instr.goto z.1, z.2)) = _; rw [bt_s2 ha hb]; rfl), Nat.add_sub_cancel_left]
theorem e_if_eq {cc : ByteArray} {p a b : Nat} (h : bt cc p = some 153) (ha : bt cc (p + 1) = some a) (hb : bt cc (p + 1 + 1) = some b) : decode cc p = .ok (.ifCond .eq (Reader.signed 16 (a * 256 + b)), 3) := by
  rw [bt_go h (q := p + 3) (i := .ifCond .eq (Reader.signed 16 (a * 256 + b))) (by unfold Decoder.instr; rfl) (by show (Reader.s2 cc (p + 1) >>= fun z => Except.ok (Instr.ifCond .eq z.1, z.2)) = _; rw [bt_s2 ha hb]; rfl), Nat.add_sub_cancel_left]
theorem e_if_ne {cc : ByteArray} {p a b : Nat} (h : bt cc p = some 154) (ha : bt cc (p + 1) = some a) (hb : bt cc (p + 1 + 1) = some b) : decode cc p = .ok (.ifCond .ne (Reader.signed 16 (a * 256 + b)), 3) := by
  rw [bt_go h (q := p + 3) (i := .ifCond .ne (Reader.signed 16 (a * 256 + b))) (by unfold Decoder.instr; rfl) (by show (Reader.s2 cc (p + 1) >>= fun z => Except.ok (Instr.ifCond .ne z.1, z.2)) = _; rw [bt_s2 ha hb]; rfl), Nat.add_sub_cancel_left]
theorem e_if_lt {cc : ByteArray} {p a b : Nat} (h : bt cc p = some 155) (ha : bt cc (p + 1) = some a) (hb : bt cc (p + 1 + 1) = some b) : decode cc p = .ok (.ifCond .lt (Reader.signed 16 (a * 256 + b)), 3) := by
  rw [bt_go h (q := p + 3) (i := .ifCond .lt (Reader.signed 16 (a * 256 + b))) (by unfold Decoder.instr; rfl) (by show (Reader.s2 cc (p + 1) >>= fun z => Except.ok (Instr.ifCond .lt z.1, z.2)) = _; rw [bt_s2 ha hb]; rfl), Nat.add_sub_cancel_left]
theorem e_if_ge {cc : ByteArray} {p a b : Nat} (h : bt cc p = some 156) (ha : bt cc (p + 1) = some a) (hb : bt cc (p + 1 + 1) = some b) : decode cc p = .ok (.ifCond .ge (Reader.signed 16 (a * 256 + b)), 3) := by
  rw [bt_go h (q := p + 3) (i := .ifCond .ge (Reader.signed 16 (a * 256 + b))) (by unfold Decoder.instr; rfl) (by show (Reader.s2 cc (p + 1) >>= fun z => Except.ok (Instr.ifCond .ge z.1, z.2)) = _; rw [bt_s2 ha hb]; rfl), Nat.add_sub_cancel_left]
theorem e_if_gt {cc : ByteArray} {p a b : Nat} (h : bt cc p = some 157) (ha : bt cc (p + 1) = some a) (hb : bt cc (p + 1 + 1) = some b) : decode cc p = .ok (.ifCond .gt (Reader.signed 16 (a * 256 + b)), 3) := by
  rw [bt_go h (q := p + 3) (i := .ifCond .gt (Reader.signed 16 (a * 256 + b))) (by unfold Decoder.instr; rfl) (by show (Reader.s2 cc (p + 1) >>= fun z => Except.ok (Instr.ifCond .gt z.1, z.2)) = _; rw [bt_s2 ha hb]; rfl), Nat.add_sub_cancel_left]
theorem e_if_le {cc : ByteArray} {p a b : Nat} (h : bt cc p = some 158) (ha : bt cc (p + 1) = some a) (hb : bt cc (p + 1 + 1) = some b) : decode cc p = .ok (.ifCond .le (Reader.signed 16 (a * 256 + b)), 3) := by
  rw [bt_go h (q := p + 3) (i := .ifCond .le (Reader.signed 16 (a * 256 + b))) (by unfold Decoder.instr; rfl) (by show (Reader.s2 cc (p + 1) >>= fun z => Except.ok (Instr.ifCond .le z.1, z.2)) = _; rw [bt_s2 ha hb]; rfl), Nat.add_sub_cancel_left]
theorem e_icmp_eq {cc : ByteArray} {p a b : Nat} (h : bt cc p = some 159) (ha : bt cc (p + 1) = some a) (hb : bt cc (p + 1 + 1) = some b) : decode cc p = .ok (.if_icmp .eq (Reader.signed 16 (a * 256 + b)), 3) := by
  rw [bt_go h (q := p + 3) (i := .if_icmp .eq (Reader.signed 16 (a * 256 + b))) (by unfold Decoder.instr; rfl) (by show (Reader.s2 cc (p + 1) >>= fun z => Except.ok (Instr.if_icmp .eq z.1, z.2)) = _; rw [bt_s2 ha hb]; rfl), Nat.add_sub_cancel_left]
theorem e_icmp_ne {cc : ByteArray} {p a b : Nat} (h : bt cc p = some 160) (ha : bt cc (p + 1) = some a) (hb : bt cc (p + 1 + 1) = some b) : decode cc p = .ok (.if_icmp .ne (Reader.signed 16 (a * 256 + b)), 3) := by
  rw [bt_go h (q := p + 3) (i := .if_icmp .ne (Reader.signed 16 (a * 256 + b))) (by unfold Decoder.instr; rfl) (by show (Reader.s2 cc (p + 1) >>= fun z => Except.ok (Instr.if_icmp .ne z.1, z.2)) = _; rw [bt_s2 ha hb]; rfl), Nat.add_sub_cancel_left]
theorem e_icmp_lt {cc : ByteArray} {p a b : Nat} (h : bt cc p = some 161) (ha : bt cc (p + 1) = some a) (hb : bt cc (p + 1 + 1) = some b) : decode cc p = .ok (.if_icmp .lt (Reader.signed 16 (a * 256 + b)), 3) := by
  rw [bt_go h (q := p + 3) (i := .if_icmp .lt (Reader.signed 16 (a * 256 + b))) (by unfold Decoder.instr; rfl) (by show (Reader.s2 cc (p + 1) >>= fun z => Except.ok (Instr.if_icmp .lt z.1, z.2)) = _; rw [bt_s2 ha hb]; rfl), Nat.add_sub_cancel_left]
theorem e_icmp_ge {cc : ByteArray} {p a b : Nat} (h : bt cc p = some 162) (ha : bt cc (p + 1) = some a) (hb : bt cc (p + 1 + 1) = some b) : decode cc p = .ok (.if_icmp .ge (Reader.signed 16 (a * 256 + b)), 3) := by
  rw [bt_go h (q := p + 3) (i := .if_icmp .ge (Reader.signed 16 (a * 256 + b))) (by unfold Decoder.instr; rfl) (by show (Reader.s2 cc (p + 1) >>= fun z => Except.ok (Instr.if_icmp .ge z.1, z.2)) = _; rw [bt_s2 ha hb]; rfl), Nat.add_sub_cancel_left]
theorem e_icmp_gt {cc : ByteArray} {p a b : Nat} (h : bt cc p = some 163) (ha : bt cc (p + 1) = some a) (hb : bt cc (p + 1 + 1) = some b) : decode cc p = .ok (.if_icmp .gt (Reader.signed 16 (a * 256 + b)), 3) := by
  rw [bt_go h (q := p + 3) (i := .if_icmp .gt (Reader.signed 16 (a * 256 + b))) (by unfold Decoder.instr; rfl) (by show (Reader.s2 cc (p + 1) >>= fun z => Except.ok (Instr.if_icmp .gt z.1, z.2)) = _; rw [bt_s2 ha hb]; rfl), Nat.add_sub_cancel_left]
theorem e_icmp_le {cc : ByteArray} {p a b : Nat} (h : bt cc p = some 164) (ha : bt cc (p + 1) = some a) (hb : bt cc (p + 1 + 1) = some b) : decode cc p = .ok (.if_icmp .le (Reader.signed 16 (a * 256 + b)), 3) := by
  rw [bt_go h (q := p + 3) (i := .if_icmp .le (Reader.signed 16 (a * 256 + b))) (by unfold Decoder.instr; rfl) (by show (Reader.s2 cc (p + 1) >>= fun z => Except.ok (Instr.if_icmp .le z.1, z.2)) = _; rw [bt_s2 ha hb]; rfl), Nat.add_sub_cancel_left]
theorem e_newarray_boolean {cc : ByteArray} {p : Nat} (h : bt cc p = some 188) (ha : bt cc (p + 1) = some 4) : decode cc p = .ok (.newarray .boolean, 2) := by
  rw [bt_go h (q := p + 2) (i := .newarray .boolean) (by unfold Decoder.instr; rfl) (by show (Reader.u1 cc (p + 1) >>= fun z => _) = _; rw [bt_u1 ha]; rfl), Nat.add_sub_cancel_left]
theorem e_newarray_char {cc : ByteArray} {p : Nat} (h : bt cc p = some 188) (ha : bt cc (p + 1) = some 5) : decode cc p = .ok (.newarray .char, 2) := by
  rw [bt_go h (q := p + 2) (i := .newarray .char) (by unfold Decoder.instr; rfl) (by show (Reader.u1 cc (p + 1) >>= fun z => _) = _; rw [bt_u1 ha]; rfl), Nat.add_sub_cancel_left]
theorem e_newarray_byte {cc : ByteArray} {p : Nat} (h : bt cc p = some 188) (ha : bt cc (p + 1) = some 8) : decode cc p = .ok (.newarray .byte, 2) := by
  rw [bt_go h (q := p + 2) (i := .newarray .byte) (by unfold Decoder.instr; rfl) (by show (Reader.u1 cc (p + 1) >>= fun z => _) = _; rw [bt_u1 ha]; rfl), Nat.add_sub_cancel_left]
theorem e_newarray_short {cc : ByteArray} {p : Nat} (h : bt cc p = some 188) (ha : bt cc (p + 1) = some 9) : decode cc p = .ok (.newarray .short, 2) := by
  rw [bt_go h (q := p + 2) (i := .newarray .short) (by unfold Decoder.instr; rfl) (by show (Reader.u1 cc (p + 1) >>= fun z => _) = _; rw [bt_u1 ha]; rfl), Nat.add_sub_cancel_left]
theorem e_newarray_int {cc : ByteArray} {p : Nat} (h : bt cc p = some 188) (ha : bt cc (p + 1) = some 10) : decode cc p = .ok (.newarray .int, 2) := by
  rw [bt_go h (q := p + 2) (i := .newarray .int) (by unfold Decoder.instr; rfl) (by show (Reader.u1 cc (p + 1) >>= fun z => _) = _; rw [bt_u1 ha]; rfl), Nat.add_sub_cancel_left]
theorem e_newarray_long {cc : ByteArray} {p : Nat} (h : bt cc p = some 188) (ha : bt cc (p + 1) = some 11) : decode cc p = .ok (.newarray .long, 2) := by
  rw [bt_go h (q := p + 2) (i := .newarray .long) (by unfold Decoder.instr; rfl) (by show (Reader.u1 cc (p + 1) >>= fun z => _) = _; rw [bt_u1 ha]; rfl), Nat.add_sub_cancel_left]
