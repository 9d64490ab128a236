/-- what a simple instruction does to the stack -/
def pst (i : Instr) (st : List Value) : Option (List Value) := match i with
  | .iconst n => some (.int (Int32.ofInt n) :: st)
  | .bipush n => some (.int (Int8.ofInt n).toInt32 :: st)
  | .sipush n => some (.int (Int16.ofInt n).toInt32 :: st)
  | .lconst n => some (.long (Int64.ofNat (n : Nat)) :: st)
  | .iadd => match st with | .int y :: .int x :: r => some (.int (x + y) :: r) | _ => none
  | .isub => match st with | .int y :: .int x :: r => some (.int (x - y) :: r) | _ => none
  | .imul => match st with | .int y :: .int x :: r => some (.int (x * y) :: r) | _ => none
  | .iand => match st with | .int y :: .int x :: r => some (.int (x &&& y) :: r) | _ => none
  | .ior => match st with | .int y :: .int x :: r => some (.int (x ||| y) :: r) | _ => none
  | .ixor => match st with | .int y :: .int x :: r => some (.int (x ^^^ y) :: r) | _ => none
  | .ishl => match st with | .int y :: .int x :: r => some (.int (x <<< (y &&& 31)) :: r) | _ => none
  | .ishr => match st with | .int y :: .int x :: r => some (.int (x >>> (y &&& 31)) :: r) | _ => none
  | .idiv => match st with | .int y :: .int x :: r => if y = 0 then none else some (.int (x / y) :: r) | _ => none
  | .irem => match st with | .int y :: .int x :: r => if y = 0 then none else some (.int (x - x / y * y) :: r) | _ => none
  | .ineg => match st with | .int x :: r => some (.int (-x) :: r) | _ => none
  | .ladd => match st with | .long y :: .long x :: r => some (.long (x + y) :: r) | _ => none
  | .lsub => match st with | .long y :: .long x :: r => some (.long (x - y) :: r) | _ => none
  | .lmul => match st with | .long y :: .long x :: r => some (.long (x * y) :: r) | _ => none
  | .land => match st with | .long y :: .long x :: r => some (.long (x &&& y) :: r) | _ => none
  | .ldiv => match st with | .long y :: .long x :: r => if y = 0 then none else some (.long (x / y) :: r) | _ => none
  | .lrem => match st with | .long y :: .long x :: r => if y = 0 then none else some (.long (x - x / y * y) :: r) | _ => none
  | .lshl => match st with | .int y :: .long x :: r => some (.long (x <<< (y.toInt64 &&& 63)) :: r) | _ => none
  | .lshr => match st with | .int y :: .long x :: r => some (.long (x >>> (y.toInt64 &&& 63)) :: r) | _ => none
  | .lcmp => match st with | .long y :: .long x :: r => some (.int (lg_cmp x y) :: r) | _ => none
  | .i2l => match st with | .int x :: r => some (.long x.toInt64 :: r) | _ => none
  | .l2i => match st with | .long x :: r => some (.int x.toInt32 :: r) | _ => none
  | .i2c => match st with | .int x :: r => some (.int (x.toUInt32 % 65536).toInt32 :: r) | _ => none
  | .pop => match st with | v :: r => if v.category = 1 then some r else none | _ => none
  | .dup => match st with | v :: r => if v.category = 1 then some (v :: v :: r) else none | _ => none
  | .dup2 => match st with | v :: w :: r => if v.category = 1 ∧ w.category = 1 then some (v :: w :: v :: w :: r) else none | _ => none
  | _ => none
/-- which local a load reads, of which kind: 0 int, 1 long, 2 a reference -/
def ldk (i : Instr) : Option (Nat × Nat) := match i with
  | .iload k => some (k, 0)
  | .iload_n k => some (k.val, 0)
  | .lload k => some (k, 1)
  | .lload_n k => some (k.val, 1)
  | .aload k => some (k, 2)
  | .aload_n k => some (k.val, 2)
  | _ => none
def vty (t : Nat) (v : Value) : Prop := match t with
  | 0 => ∃ x, v = .int x
  | 1 => ∃ x, v = .long x
  | _ => ∃ x, v = .ref x
def stkI (i : Instr) : Option Nat := match i with
  | .istore k => some k
  | .istore_n k => some k.val
  | _ => none
def stkL (i : Instr) : Option Nat := match i with
  | .lstore k => some k
  | .lstore_n k => some k.val
  | _ => none
abbrev lset1 (ls : List (Nat × Value)) (k : Nat) (v : Value) : List (Nat × Value) := (k, v) :: ls.filter (fun q => !(q.1 == k) && !(q.1 + 1 == k && q.2.category == 2))
abbrev lset2 (ls : List (Nat × Value)) (k : Nat) (v : Value) : List (Nat × Value) := (k, v) :: ls.filter (fun q => !(q.1 == k) && (!(q.1 == k + 1) && !(q.1 + 1 == k && q.2.category == 2)))
def cnd (c : ClassFile.Cond) (x y : Int32) : Prop := match c with
  | .eq => x = y
  | .ne => ¬ x = y
  | .lt => x < y
  | .ge => y ≤ x
  | .gt => y < x
  | .le => x ≤ y
def isStr (i : Nat) : Prop := 1000 ≤ i ∧ i < 1000 + NSt
def isByt (i : Nat) : Prop := 1100 ≤ i ∧ i < 1100 + NSt
def fldOk (own : String) (idx c k : Nat) : Prop := ∃ (C : String) (T : u_T) (N : Nat), classes[c]? = some (C, T, N) ∧ k < N ∧ Cond.fieldLink own idx C (T k).2.1 (T k).2.2.1 ∈ lw_tbl ∧ (T k).1 = C
def tyOf (t : Nat) : FieldType := if t = 0 then .int else if t = 1 then .long else .boolean
def putOk (c k t : Nat) : Prop := ∀ (C : String) (T : u_T) (N : Nat), classes[c]? = some (C, T, N) → (T k).2.2.2 = false ∧ parseFieldDescriptor (T k).2.2.1 = some (tyOf t)
def fvp (M : Mm) (i k t : Nat) : Value := if t = 2 then .ref (ptr i k) else if t = 1 then vJ (M i k) else vI (M i k)
def ldA (i : Instr) : Option Nat := match i with
  | .iaload => some 20
  | .laload => some 21
  | .baload => some 22
  | .caload => some 23
  | _ => none
def aval (M : Mm) (i k : Nat) : Value := if skind i = 21 then vJ (M i k) else if skind i = 23 then .int (Int32.ofNat (ptr i k)) else vI (M i k)
def inr (j : Int32) (n : Nat) : Prop := 0 ≤ j.toInt ∧ j.toInt < n
/-- a method: its words, its code, how many locals, what it returns, how many arguments, whether it is static -/
def mOk (y : MethodName) (b : ByteArray) (n : Nat) (rt : Option FieldType) (np : Nat) (stt : Bool) : Prop :=
  Cond.code y b n rt ∈ lw_tbl ∧ Cond.initialized y.cls ∈ lw_tbl ∧ (y.cls ≠ "java/lang/invoke/MethodHandle" ∧ y.cls ≠ "java/lang/invoke/VarHandle" ∧ (parseMethodDescriptor y.desc).map (fun d => d.parameters.length) = some np) ∧ plainFor y = true ∧ n ≤ 40 ∧
  (if stt = true then Cond.static y ∈ lw_tbl else Cond.instanceMethod y ∈ lw_tbl ∧ Cond.selects y.cls y y ∈ lw_tbl)
def lnkOk (own : String) (idx : Nat) (y : MethodName) : Prop := Cond.methodLink own idx y ∈ lw_tbl ∨ ∃ host, Cond.methodLinkNest own idx y host ∈ lw_tbl
abbrev Ctr : Type := MethodName → List Value → Mm → (Option Value → Mm → Prop) → Prop
abbrev Pst : Type := Nat → List (Nat × Value) → List Value → Mm → Prop
def R_pure (cc : ByteArray) (P : Pst) : Prop := ∀ pc ls st M i n st', decode cc pc = .ok (i, n) → pst i st = some st' → n = (match i with | .bipush _ => 2 | .sipush _ => 3 | _ => 1) → P (pc + n) ls st' M → P pc ls st M
def R_load (cc : ByteArray) (P : Pst) : Prop := ∀ pc ls st M i n k t v, decode cc pc = .ok (i, n) → ldk i = some (k, t) → n = (match i with | .iload _ => 2 | .lload _ => 2 | .aload _ => 2 | _ => 1) → vty t v → (k, v) ∈ ls → P (pc + n) ls (v :: st) M → P pc ls st M
def R_stI (cc : ByteArray) (nL : Nat) (P : Pst) : Prop := ∀ pc ls st M i n k x, decode cc pc = .ok (i, n) → stkI i = some k → n = (match i with | .istore _ => 2 | _ => 1) → k < nL → P (pc + n) (lset1 ls k (.int x)) st M → P pc ls (.int x :: st) M
def R_stL (cc : ByteArray) (nL : Nat) (P : Pst) : Prop := ∀ pc ls st M i n k x, decode cc pc = .ok (i, n) → stkL i = some k → n = (match i with | .lstore _ => 2 | _ => 1) → k + 1 < nL → P (pc + n) (lset2 ls k (.long x)) st M → P pc ls (.long x :: st) M
def R_iinc (cc : ByteArray) (nL : Nat) (P : Pst) : Prop := ∀ pc ls st M k z x, decode cc pc = .ok (.iinc k z, 3) → (k, Value.int x) ∈ ls → k < nL → P (pc + 3) (lset1 ls k (.int (x + Int32.ofInt z))) st M → P pc ls st M
def R_sub (P : Pst) : Prop := ∀ pc ls ls' st M, (∀ q ∈ ls', q ∈ ls) → P pc ls' st M → P pc ls st M
def R_if (cc : ByteArray) (P : Pst) : Prop := ∀ pc ls st M (c : ClassFile.Cond) off (tgt : Nat) x, decode cc pc = .ok (.ifCond c off, 3) → (pc : Int) + off = (tgt : Int) → (cnd c x 0 → P tgt ls st M) → (¬ cnd c x 0 → P (pc + 3) ls st M) → P pc ls (.int x :: st) M
def R_icmp (cc : ByteArray) (P : Pst) : Prop := ∀ pc ls st M (c : ClassFile.Cond) off (tgt : Nat) x y, decode cc pc = .ok (.if_icmp c off, 3) → (pc : Int) + off = (tgt : Int) → (cnd c x y → P tgt ls st M) → (¬ cnd c x y → P (pc + 3) ls st M) → P pc ls (.int y :: .int x :: st) M
def R_goto (cc : ByteArray) (P : Pst) : Prop := ∀ pc ls st M off (tgt : Nat), decode cc pc = .ok (.goto off, 3) → (pc : Int) + off = (tgt : Int) → P tgt ls st M → P pc ls st M
def R_tsO (cc : ByteArray) (P : Pst) : Prop := ∀ pc ls st M d lo hi offs len x (tgt : Nat), decode cc pc = .ok (.tableswitch d lo hi offs, len) → (x.toInt < lo ∨ hi < x.toInt) → (pc : Int) + d = (tgt : Int) → P tgt ls st M → P pc ls (.int x :: st) M
def R_tsI (cc : ByteArray) (P : Pst) : Prop := ∀ pc ls st M d lo hi (offs : Array Int) len (x : Int32) off (tgt : Nat), decode cc pc = .ok (.tableswitch d lo hi offs, len) → ¬ x.toInt < lo → ¬ hi < x.toInt → offs[(x.toInt - lo).toNat]? = some off → (pc : Int) + off = (tgt : Int) → P tgt ls st M → P pc ls (.int x :: st) M
def R_lsw (cc : ByteArray) (P : Pst) : Prop := ∀ pc ls st M d (ps : Array (Int × Int)) len (x : Int32) off (tgt : Nat), decode cc pc = .ok (.lookupswitch d ps, len) → (ps.toList.zip (ps.toList.drop 1)).all (fun (a, next) => a.1 < next.1) = true → Op.lookupswitch.offset ps.toList d x.toInt = off → (pc : Int) + off = (tgt : Int) → P tgt ls st M → P pc ls (.int x :: st) M
def R_getf (own : String) (cc : ByteArray) (P : Pst) : Prop := ∀ pc ls st M idx i k t, decode cc pc = .ok (.getfield idx, 3) → i < NC → skind i < 20 → fldOk own idx (skind i) k → (fts (skind i))[k]? = some t → P (pc + 3) ls (fvp M i k t :: st) M → P pc ls (.ref i :: st) M
def R_putf (own : String) (cc : ByteArray) (P : Pst) : Prop := ∀ pc ls st M idx i k t z v, decode cc pc = .ok (.putfield idx, 3) → i < NC → skind i < 20 → fldOk own idx (skind i) k → (fts (skind i))[k]? = some t → t ≠ 2 → putOk (skind i) k t → v = (if t = 1 then vJ z else vI z) → (t = 3 → Int32.ofInt z = 0 ∨ Int32.ofInt z = 1) → P (pc + 3) ls st (up M i k z) → P pc ls (v :: .ref i :: st) M
def R_ald (cc : ByteArray) (P : Pst) : Prop := ∀ pc ls st M ins i (j : Int32), decode cc pc = .ok (ins, 1) → i < NC → ldA ins = some (skind i) → inr j (slen i) → P (pc + 1) ls (aval M i j.toInt.toNat :: st) M → P pc ls (.int j :: .ref i :: st) M
def R_ast (cc : ByteArray) (P : Pst) : Prop := ∀ pc ls st M i (j : Int32) z, decode cc pc = .ok (.iastore, 1) → i < NC → skind i = 20 → inr j (slen i) → P (pc + 1) ls st (up M i j.toInt.toNat z) → P pc ls (vI z :: .int j :: .ref i :: st) M
def R_zst (cc : ByteArray) (P : Pst) : Prop := ∀ pc ls st M i (j : Int32) z, decode cc pc = .ok (.bastore, 1) → i < NC → skind i = 22 → inr j (slen i) → (Int32.ofInt z = 0 ∨ Int32.ofInt z = 1) → P (pc + 1) ls st (up M i j.toInt.toNat z) → P pc ls (vI z :: .int j :: .ref i :: st) M
def R_lst (cc : ByteArray) (P : Pst) : Prop := ∀ pc ls st M i (j : Int32) z, decode cc pc = .ok (.lastore, 1) → i < NC → skind i = 21 → inr j (slen i) → P (pc + 1) ls st (up M i j.toInt.toNat z) → P pc ls (vJ z :: .int j :: .ref i :: st) M
def R_alen (cc : ByteArray) (P : Pst) : Prop := ∀ pc ls st M i, decode cc pc = .ok (.arraylength, 1) → i < NC → 20 ≤ skind i → skind i < 24 → P (pc + 1) ls (vI (slen i) :: st) M → P pc ls (.ref i :: st) M
def R_ldc (own : String) (cc : ByteArray) (P : Pst) : Prop := ∀ pc ls st M idx z, (decode cc pc = .ok (.ldc idx, 2) ∧ Cond.constant own idx (Int32.ofInt z) ∈ lw_tbl → P (pc + 2) ls (vI z :: st) M → P pc ls st M) ∧ (decode cc pc = .ok (.ldc_w idx, 3) ∧ Cond.constant own idx (Int32.ofInt z) ∈ lw_tbl → P (pc + 3) ls (vI z :: st) M → P pc ls st M) ∧ (decode cc pc = .ok (.ldc2_w idx, 3) ∧ Cond.constantLong own idx (Int64.ofInt z) ∈ lw_tbl → P (pc + 3) ls (vJ z :: st) M → P pc ls st M)
def R_ldcS (own : String) (cc : ByteArray) (P : Pst) : Prop := ∀ pc ls st M idx tx j, decode cc pc = .ok (.ldc idx, 2) → (own, idx, tx, j) ∈ stTab → P (pc + 2) ls (.ref (1000 + j) :: st) M → P pc ls st M
def R_call (C : Ctr) (own : String) (cc : ByteArray) (P : Pst) : Prop := ∀ pc ls st M idx y b n rt np As i, decode cc pc = .ok (.invokevirtual idx, 3) → mOk y b n rt np false → lnkOk own idx y → As.length = np → ((i < NC ∧ skind i < 20 ∧ (classes[skind i]?).map (fun q => q.1) = some y.cls) ∨ (isStr i ∧ y.cls = "java/lang/String")) → (st.map fun v => v.category).sum ≤ 8 → C y (.ref i :: As) M (fun v M' => P (pc + 3) ls (v.toList ++ st) M') → P pc ls (As.reverse ++ .ref i :: st) M
def R_calS (C : Ctr) (own : String) (cc : ByteArray) (P : Pst) : Prop := ∀ pc ls st M idx y b n rt np As, decode cc pc = .ok (.invokestatic idx, 3) → mOk y b n rt np true → lnkOk own idx y → As.length = np → (st.map fun v => v.category).sum ≤ 8 → C y As M (fun v M' => P (pc + 3) ls (v.toList ++ st) M') → P pc ls (As.reverse ++ st) M
def R_scr (cc : ByteArray) (isL : Prop) (L : Nat) (xs : Nat → Int32) (P : Pst) : Prop := isL → ∀ pc ls st M, (∀ (j : Int32), decode cc pc = .ok (.iaload, 1) → inr j L → P (pc + 1) ls (.int (xs j.toInt.toNat) :: st) M → P pc ls (.int j :: .ref 900 :: st) M) ∧ (decode cc pc = .ok (.arraylength, 1) → P (pc + 1) ls (vI L :: st) M → P pc ls (.ref 900 :: st) M)
def R_str (own : String) (cc : ByteArray) (P : Pst) : Prop := ∀ pc ls st M idx j, j < NSt →
  (decode cc pc = .ok (.getfield idx, 3) → Cond.fieldLink own idx "java/lang/String" "value" "[B" ∈ lw_tbl → P (pc + 3) ls (.ref (1100 + j) :: st) M → P pc ls (.ref (1000 + j) :: st) M) ∧
  (decode cc pc = .ok (.getfield idx, 3) → Cond.fieldLink own idx "java/lang/String" "coder" "B" ∈ lw_tbl → P (pc + 3) ls (vI 0 :: st) M → P pc ls (.ref (1000 + j) :: st) M) ∧
  (decode cc pc = .ok (.arraylength, 1) → P (pc + 1) ls (vI (stLen.getD j 0) :: st) M → P pc ls (.ref (1100 + j) :: st) M) ∧
  (∀ q : Int32, decode cc pc = .ok (.baload, 1) → inr q (stLen.getD j 0) → P (pc + 1) ls (.int ((stByt.getD j []).getD q.toInt.toNat 0) :: st) M → P pc ls (.int q :: .ref (1100 + j) :: st) M)
def R_gets (own : String) (cc : ByteArray) (P : Pst) : Prop := ∀ pc ls st M idx,
  (decode cc pc = .ok (.getstatic idx, 3) → Cond.fieldLink own idx "java/lang/String" "COMPACT_STRINGS" "Z" ∈ lw_tbl → P (pc + 3) ls (vI 1 :: st) M → P pc ls st M) ∧
  (decode cc pc = .ok (.getstatic idx, 3) → Cond.fieldLink own idx "jdk/internal/util/Preconditions" "SIOOBE_FORMATTER" "Ljava/util/function/BiFunction;" ∈ lw_tbl → P (pc + 3) ls (.ref 1200 :: st) M → P (pc + 3) ls (.null :: st) M → P pc ls st M)
def R_ret (cc : ByteArray) (rt : Option FieldType) (Q : Option Value → Mm → Prop) (P : Pst) : Prop := ∀ pc ls M,
  (∀ x, decode cc pc = .ok (.ireturn, 1) → (rt = some .int ∨ (∃ ty, rt = some ty ∧ narrow ty (.int x) = .int x)) → Q (some (.int x)) M → P pc ls [.int x] M) ∧
  (∀ x, decode cc pc = .ok (.lreturn, 1) → rt = some .long → Q (some (.long x)) M → P pc ls [.long x] M) ∧
  (decode cc pc = .ok (.return_, 1) → rt = none → Q none M → P pc ls [] M)
def Rules (C : Ctr) (own : String) (cc : ByteArray) (nL : Nat) (isL : Prop) (L : Nat) (xs : Nat → Int32) (rt : Option FieldType) (Q : Option Value → Mm → Prop) (P : Pst) : Prop :=
  (R_pure cc P ∧ R_load cc P ∧ R_stI cc nL P ∧ R_stL cc nL P ∧ R_iinc cc nL P ∧ R_sub P ∧ R_if cc P ∧ R_icmp cc P) ∧ (R_goto cc P ∧ R_tsO cc P ∧ R_tsI cc P ∧ R_lsw cc P ∧ R_getf own cc P ∧ R_putf own cc P ∧ R_ald cc P ∧ R_ast cc P) ∧ (R_zst cc P ∧ R_lst cc P ∧ R_alen cc P ∧ R_ldc own cc P ∧ R_ldcS own cc P ∧ R_call C own cc P ∧ R_calS C own cc P) ∧ (R_scr cc isL L xs P ∧ R_str own cc P ∧ R_gets own cc P ∧ R_ret cc rt Q P)
/-- what a method's body comes to: the least that the rules give -/
def WP (C : Ctr) (own : String) (cc : ByteArray) (nL : Nat) (isL : Prop) (L : Nat) (xs : Nat → Int32) (rt : Option FieldType) (Q : Option Value → Mm → Prop) (pc : Nat) (ls : List (Nat × Value)) (st : List Value) (M : Mm) : Prop :=
  ∀ P : Pst, Rules C own cc nL isL L xs rt Q P → P pc ls st M
/-- a method's contract at a depth of calls -/
def Ct : Nat → Ctr
  | 0 => fun _ _ _ _ => False
  | d + 1 => fun y As M Q => ∃ b n rt np stt, mOk y b n rt np stt ∧ (lg_sl As).length ≤ n ∧ WP (Ct d) y.cls b n False 0 (fun _ => 0) rt Q 0 (lv_args 0 As) [] M
