/-- how long a simple instruction is -/
def plen (ins : Instr) : Nat := match ins with
  | .bipush _ => 2
  | .sipush _ => 3
  | _ => 1
section TR
variable {α : Type} {E : Ev} {inj : α → Option Value × Mm} {pc : Nat} {ls ls' : List (Nat × Value)} {st : List Value} {M : Mm} {o a b : Option α} {x y z : Int} {i k n : Nat}
theorem tq_none : T E inj pc ls st M (none : Option α) := fun Q h => by obtain ⟨_, h, -⟩ := h; cases h
theorem tq_gdT {c : Prop} [Decidable c] (hc : c) (k : T E inj pc ls st M o) : T E inj pc ls st M (gd c o) := by rw [gd, if_pos hc]; exact k
theorem tq_gd {c : Prop} [Decidable c] (k : c → T E inj pc ls st M o) : T E inj pc ls st M (gd c o) := by
  unfold gd
  split
  · next h => exact k h
  · exact tq_none
theorem tq_if {c : Prop} [Decidable c] (ka : c → T E inj pc ls st M a) (kb : ¬ c → T E inj pc ls st M b) : T E inj pc ls st M (if c then a else b) := by
  split
  · next h => exact ka h
  · next h => exact kb h
theorem tq_sub (js : List Nat) (h : lv_pick ls js = ls') (k : T E inj pc ls' st M o) : T E inj pc ls st M o := fun Q hq P hP => hP.1.2.2.2.2.2.1 pc ls ls' st M (fun q hm => by
  rw [← h] at hm
  obtain ⟨j, -, hj⟩ := List.mem_filterMap.mp hm
  exact List.mem_of_getElem? hj) (k Q hq P hP)
theorem tq_pure {ins : Instr} {st' : List Value} (hd : decode E.2.2.1 pc = .ok (ins, n)) (hp : pst ins st = some st') (hn : n = plen ins) (k : T E inj (pc + n) ls st' M o) : T E inj pc ls st M o := fun Q h P hP => hP.1.1 pc ls st M _ _ _ hd hp hn (k Q h P hP)
theorem tq_iconst (hd : decode E.2.2.1 pc = .ok (.iconst z, 1)) (k : T E inj (pc + 1) ls (vI z :: st) M o) : T E inj pc ls st M o := tq_pure hd rfl rfl k
theorem tq_bipush (hd : decode E.2.2.1 pc = .ok (.bipush z, 2)) (h1 : -128 ≤ z) (h2 : z ≤ 127) (k : T E inj (pc + 2) ls (vI z :: st) M o) : T E inj pc ls st M o := tq_pure hd (by show some _ = some _; rw [n_bi h1 h2]; rfl) rfl k
theorem tq_sipush (hd : decode E.2.2.1 pc = .ok (.sipush z, 3)) (h1 : -32768 ≤ z) (h2 : z ≤ 32767) (k : T E inj (pc + 3) ls (vI z :: st) M o) : T E inj pc ls st M o := tq_pure hd (by show some _ = some _; rw [n_si h1 h2]; rfl) rfl k
theorem tq_lconst0 (hd : decode E.2.2.1 pc = .ok (.lconst 0, 1)) (k : T E inj (pc + 1) ls (vJ 0 :: st) M o) : T E inj pc ls st M o := tq_pure hd rfl rfl k
theorem tq_lconst1 (hd : decode E.2.2.1 pc = .ok (.lconst 1, 1)) (k : T E inj (pc + 1) ls (vJ 1 :: st) M o) : T E inj pc ls st M o := tq_pure hd rfl rfl k
theorem tq_iadd (hd : decode E.2.2.1 pc = .ok (.iadd, 1)) (k : T E inj (pc + 1) ls (vI (x + y) :: st) M o) : T E inj pc ls (vI y :: vI x :: st) M o := tq_pure hd (by show some (_ :: st) = some (_ :: st); rw [n_add]; rfl) rfl k
theorem tq_isub (hd : decode E.2.2.1 pc = .ok (.isub, 1)) (k : T E inj (pc + 1) ls (vI (x - y) :: st) M o) : T E inj pc ls (vI y :: vI x :: st) M o := tq_pure hd (by show some (_ :: st) = some (_ :: st); rw [n_sub]; rfl) rfl k
theorem tq_imul (hd : decode E.2.2.1 pc = .ok (.imul, 1)) (k : T E inj (pc + 1) ls (vI (x * y) :: st) M o) : T E inj pc ls (vI y :: vI x :: st) M o := tq_pure hd (by show some (_ :: st) = some (_ :: st); rw [n_mul]; rfl) rfl k
theorem tq_iand (hd : decode E.2.2.1 pc = .ok (.iand, 1)) (k : T E inj (pc + 1) ls (vI (and32 x y) :: st) M o) : T E inj pc ls (vI y :: vI x :: st) M o := tq_pure hd (by show some (_ :: st) = some (_ :: st); rw [n_and]; rfl) rfl k
theorem tq_ior (hd : decode E.2.2.1 pc = .ok (.ior, 1)) (k : T E inj (pc + 1) ls (vI (or32 x y) :: st) M o) : T E inj pc ls (vI y :: vI x :: st) M o := tq_pure hd (by show some (_ :: st) = some (_ :: st); rw [n_or]; rfl) rfl k
theorem tq_ixor (hd : decode E.2.2.1 pc = .ok (.ixor, 1)) (k : T E inj (pc + 1) ls (vI (xor32 x y) :: st) M o) : T E inj pc ls (vI y :: vI x :: st) M o := tq_pure hd (by show some (_ :: st) = some (_ :: st); rw [n_xor]; rfl) rfl k
theorem tq_ishl (hd : decode E.2.2.1 pc = .ok (.ishl, 1)) (k : T E inj (pc + 1) ls (vI (shl32 x y) :: st) M o) : T E inj pc ls (vI y :: vI x :: st) M o := tq_pure hd (by show some (_ :: st) = some (_ :: st); rw [n_shl]; rfl) rfl k
theorem tq_ishr (hd : decode E.2.2.1 pc = .ok (.ishr, 1)) (k : T E inj (pc + 1) ls (vI (shr32 x y) :: st) M o) : T E inj pc ls (vI y :: vI x :: st) M o := tq_pure hd (by show some (_ :: st) = some (_ :: st); rw [n_shr]; rfl) rfl k
theorem tq_ineg (hd : decode E.2.2.1 pc = .ok (.ineg, 1)) (k : T E inj (pc + 1) ls (vI (-x) :: st) M o) : T E inj pc ls (vI x :: st) M o := tq_pure hd (by show some (_ :: st) = some (_ :: st); rw [n_neg]; rfl) rfl k
theorem tq_ladd (hd : decode E.2.2.1 pc = .ok (.ladd, 1)) (k : T E inj (pc + 1) ls (vJ (x + y) :: st) M o) : T E inj pc ls (vJ y :: vJ x :: st) M o := tq_pure hd (by show some (_ :: st) = some (_ :: st); rw [l_add]; rfl) rfl k
theorem tq_lsub (hd : decode E.2.2.1 pc = .ok (.lsub, 1)) (k : T E inj (pc + 1) ls (vJ (x - y) :: st) M o) : T E inj pc ls (vJ y :: vJ x :: st) M o := tq_pure hd (by show some (_ :: st) = some (_ :: st); rw [l_sub]; rfl) rfl k
theorem tq_lmul (hd : decode E.2.2.1 pc = .ok (.lmul, 1)) (k : T E inj (pc + 1) ls (vJ (x * y) :: st) M o) : T E inj pc ls (vJ y :: vJ x :: st) M o := tq_pure hd (by show some (_ :: st) = some (_ :: st); rw [l_mul]; rfl) rfl k
theorem tq_land (hd : decode E.2.2.1 pc = .ok (.land, 1)) (k : T E inj (pc + 1) ls (vJ (and64 x y) :: st) M o) : T E inj pc ls (vJ y :: vJ x :: st) M o := tq_pure hd (by show some (_ :: st) = some (_ :: st); rw [l_and]; rfl) rfl k
theorem tq_lshl (hd : decode E.2.2.1 pc = .ok (.lshl, 1)) (k : T E inj (pc + 1) ls (vJ (shl64 x y) :: st) M o) : T E inj pc ls (vI y :: vJ x :: st) M o := tq_pure hd (by show some (_ :: st) = some (_ :: st); rw [l_shl]; rfl) rfl k
theorem tq_lshr (hd : decode E.2.2.1 pc = .ok (.lshr, 1)) (k : T E inj (pc + 1) ls (vJ (shr64 x y) :: st) M o) : T E inj pc ls (vI y :: vJ x :: st) M o := tq_pure hd (by show some (_ :: st) = some (_ :: st); rw [l_shr]; rfl) rfl k
theorem tq_lcmp (hd : decode E.2.2.1 pc = .ok (.lcmp, 1)) (k : T E inj (pc + 1) ls (vI (cmp64 x y) :: st) M o) : T E inj pc ls (vJ y :: vJ x :: st) M o := tq_pure hd (by show some (_ :: st) = some (_ :: st); rw [n_cmp]; rfl) rfl k
theorem tq_i2l (hd : decode E.2.2.1 pc = .ok (.i2l, 1)) (k : T E inj (pc + 1) ls (vJ (i32 x) :: st) M o) : T E inj pc ls (vI x :: st) M o := tq_pure hd (by show some (_ :: st) = some (_ :: st); rw [n_i2l]; rfl) rfl k
theorem tq_l2i (hd : decode E.2.2.1 pc = .ok (.l2i, 1)) (k : T E inj (pc + 1) ls (vI x :: st) M o) : T E inj pc ls (vJ x :: st) M o := tq_pure hd (by show some (_ :: st) = some (_ :: st); rw [n_l2i]; rfl) rfl k
theorem tq_i2c (hd : decode E.2.2.1 pc = .ok (.i2c, 1)) (k : T E inj (pc + 1) ls (vI (chr16 x) :: st) M o) : T E inj pc ls (vI x :: st) M o := tq_pure hd (by show some (_ :: st) = some (_ :: st); rw [n_i2c]; rfl) rfl k
theorem tq_idivC (hd : decode E.2.2.1 pc = .ok (.idiv, 1)) (hy : ¬ i32 y = 0) (k : T E inj (pc + 1) ls (vI ((i32 x).tdiv (i32 y)) :: st) M o) : T E inj pc ls (vI y :: vI x :: st) M o := tq_pure hd (by
  have h0 : ¬ Int32.ofInt y = 0 := fun h => hy (by show (Int32.ofInt y).toInt = 0; rw [h]; rfl)
  show (if Int32.ofInt y = 0 then none else some (_ :: st)) = some (_ :: st)
  rw [if_neg h0, n_div]; rfl) rfl k
theorem tq_idiv (hd : decode E.2.2.1 pc = .ok (.idiv, 1)) (k : T E inj (pc + 1) ls (vI ((i32 x).tdiv (i32 y)) :: st) M o) : T E inj pc ls (vI y :: vI x :: st) M (gd (¬ i32 y = 0) o) := tq_gd fun h => tq_idivC hd h k
theorem tq_iremC (hd : decode E.2.2.1 pc = .ok (.irem, 1)) (hy : ¬ i32 y = 0) (k : T E inj (pc + 1) ls (vI ((i32 x).tmod (i32 y)) :: st) M o) : T E inj pc ls (vI y :: vI x :: st) M o := tq_pure hd (by
  have h0 : ¬ Int32.ofInt y = 0 := fun h => hy (by show (Int32.ofInt y).toInt = 0; rw [h]; rfl)
  show (if Int32.ofInt y = 0 then none else some (_ :: st)) = some (_ :: st)
  rw [if_neg h0, n_rem]; rfl) rfl k
theorem tq_irem (hd : decode E.2.2.1 pc = .ok (.irem, 1)) (k : T E inj (pc + 1) ls (vI ((i32 x).tmod (i32 y)) :: st) M o) : T E inj pc ls (vI y :: vI x :: st) M (gd (¬ i32 y = 0) o) := tq_gd fun h => tq_iremC hd h k
theorem tq_ldivC (hd : decode E.2.2.1 pc = .ok (.ldiv, 1)) (hy : ¬ i64 y = 0) (k : T E inj (pc + 1) ls (vJ ((i64 x).tdiv (i64 y)) :: st) M o) : T E inj pc ls (vJ y :: vJ x :: st) M o := tq_pure hd (by
  have h0 : ¬ Int64.ofInt y = 0 := fun h => hy (by show (Int64.ofInt y).toInt = 0; rw [h]; rfl)
  show (if Int64.ofInt y = 0 then none else some (_ :: st)) = some (_ :: st)
  rw [if_neg h0, l_div]; rfl) rfl k
theorem tq_ldiv (hd : decode E.2.2.1 pc = .ok (.ldiv, 1)) (k : T E inj (pc + 1) ls (vJ ((i64 x).tdiv (i64 y)) :: st) M o) : T E inj pc ls (vJ y :: vJ x :: st) M (gd (¬ i64 y = 0) o) := tq_gd fun h => tq_ldivC hd h k
theorem tq_lremC (hd : decode E.2.2.1 pc = .ok (.lrem, 1)) (hy : ¬ i64 y = 0) (k : T E inj (pc + 1) ls (vJ ((i64 x).tmod (i64 y)) :: st) M o) : T E inj pc ls (vJ y :: vJ x :: st) M o := tq_pure hd (by
  have h0 : ¬ Int64.ofInt y = 0 := fun h => hy (by show (Int64.ofInt y).toInt = 0; rw [h]; rfl)
  show (if Int64.ofInt y = 0 then none else some (_ :: st)) = some (_ :: st)
  rw [if_neg h0, l_rem]; rfl) rfl k
theorem tq_lrem (hd : decode E.2.2.1 pc = .ok (.lrem, 1)) (k : T E inj (pc + 1) ls (vJ ((i64 x).tmod (i64 y)) :: st) M o) : T E inj pc ls (vJ y :: vJ x :: st) M (gd (¬ i64 y = 0) o) := tq_gd fun h => tq_lremC hd h k
theorem tq_dup {v : Value} (hd : decode E.2.2.1 pc = .ok (.dup, 1)) (hv : v.category = 1) (k : T E inj (pc + 1) ls (v :: v :: st) M o) : T E inj pc ls (v :: st) M o := tq_pure hd (by show (if _ then _ else _) = _; rw [if_pos hv]) rfl k
theorem tq_pop {v : Value} (hd : decode E.2.2.1 pc = .ok (.pop, 1)) (hv : v.category = 1) (k : T E inj (pc + 1) ls st M o) : T E inj pc ls (v :: st) M o := tq_pure hd (by show (if _ then _ else _) = _; rw [if_pos hv]) rfl k
theorem tq_dup2 {v w : Value} (hd : decode E.2.2.1 pc = .ok (.dup2, 1)) (hv : v.category = 1) (hw : w.category = 1) (k : T E inj (pc + 1) ls (v :: w :: v :: w :: st) M o) : T E inj pc ls (v :: w :: st) M o := tq_pure hd (by show (if _ then _ else _) = _; rw [if_pos ⟨hv, hw⟩]) rfl k
theorem tq_iload_n (j : Nat) {q : Fin 4} (hd : decode E.2.2.1 pc = .ok (.iload_n q, 1)) (hl : ls[j]? = some (q.val, vI x)) (k : T E inj (pc + 1) ls (vI x :: st) M o) : T E inj pc ls st M o := fun Q h P hP => hP.1.2.1 pc ls st M _ _ _ _ _ hd rfl rfl ⟨_, rfl⟩ (List.mem_of_getElem? hl) (k Q h P hP)
theorem tq_iload (j : Nat) {q : Nat} (hd : decode E.2.2.1 pc = .ok (.iload q, 2)) (hl : ls[j]? = some (q, vI x)) (k : T E inj (pc + 2) ls (vI x :: st) M o) : T E inj pc ls st M o := fun Q h P hP => hP.1.2.1 pc ls st M _ _ _ _ _ hd rfl rfl ⟨_, rfl⟩ (List.mem_of_getElem? hl) (k Q h P hP)
theorem tq_lload_n (j : Nat) {q : Fin 4} (hd : decode E.2.2.1 pc = .ok (.lload_n q, 1)) (hl : ls[j]? = some (q.val, vJ x)) (k : T E inj (pc + 1) ls (vJ x :: st) M o) : T E inj pc ls st M o := fun Q h P hP => hP.1.2.1 pc ls st M _ _ _ _ _ hd rfl rfl ⟨_, rfl⟩ (List.mem_of_getElem? hl) (k Q h P hP)
theorem tq_lload (j : Nat) {q : Nat} (hd : decode E.2.2.1 pc = .ok (.lload q, 2)) (hl : ls[j]? = some (q, vJ x)) (k : T E inj (pc + 2) ls (vJ x :: st) M o) : T E inj pc ls st M o := fun Q h P hP => hP.1.2.1 pc ls st M _ _ _ _ _ hd rfl rfl ⟨_, rfl⟩ (List.mem_of_getElem? hl) (k Q h P hP)
theorem tq_aload_n (j : Nat) {q : Fin 4} (hd : decode E.2.2.1 pc = .ok (.aload_n q, 1)) (hl : ls[j]? = some (q.val, .ref i)) (k : T E inj (pc + 1) ls (.ref i :: st) M o) : T E inj pc ls st M o := fun Q h P hP => hP.1.2.1 pc ls st M _ _ _ _ _ hd rfl rfl ⟨_, rfl⟩ (List.mem_of_getElem? hl) (k Q h P hP)
theorem tq_aload (j : Nat) {q : Nat} (hd : decode E.2.2.1 pc = .ok (.aload q, 2)) (hl : ls[j]? = some (q, .ref i)) (k : T E inj (pc + 2) ls (.ref i :: st) M o) : T E inj pc ls st M o := fun Q h P hP => hP.1.2.1 pc ls st M _ _ _ _ _ hd rfl rfl ⟨_, rfl⟩ (List.mem_of_getElem? hl) (k Q h P hP)
theorem tq_istore_n {q : Fin 4} (hd : decode E.2.2.1 pc = .ok (.istore_n q, 1)) (hn : q.val < E.2.2.2.1) (hl : lset1 ls q.val (vI x) = ls') (k : T E inj (pc + 1) ls' st M o) : T E inj pc ls (vI x :: st) M o := fun Q h P hP => hP.1.2.2.1 pc ls st M _ _ _ _ hd rfl rfl hn (hl ▸ k Q h P hP)
theorem tq_istore {q : Nat} (hd : decode E.2.2.1 pc = .ok (.istore q, 2)) (hn : q < E.2.2.2.1) (hl : lset1 ls q (vI x) = ls') (k : T E inj (pc + 2) ls' st M o) : T E inj pc ls (vI x :: st) M o := fun Q h P hP => hP.1.2.2.1 pc ls st M _ _ _ _ hd rfl rfl hn (hl ▸ k Q h P hP)
theorem tq_lstore_n {q : Fin 4} (hd : decode E.2.2.1 pc = .ok (.lstore_n q, 1)) (hn : q.val + 1 < E.2.2.2.1) (hl : lset2 ls q.val (vJ x) = ls') (k : T E inj (pc + 1) ls' st M o) : T E inj pc ls (vJ x :: st) M o := fun Q h P hP => hP.1.2.2.2.1 pc ls st M _ _ _ _ hd rfl rfl hn (hl ▸ k Q h P hP)
theorem tq_lstore {q : Nat} (hd : decode E.2.2.1 pc = .ok (.lstore q, 2)) (hn : q + 1 < E.2.2.2.1) (hl : lset2 ls q (vJ x) = ls') (k : T E inj (pc + 2) ls' st M o) : T E inj pc ls (vJ x :: st) M o := fun Q h P hP => hP.1.2.2.2.1 pc ls st M _ _ _ _ hd rfl rfl hn (hl ▸ k Q h P hP)
theorem tq_iinc (j : Nat) {q : Nat} (hd : decode E.2.2.1 pc = .ok (.iinc q z, 3)) (hj : ls[j]? = some (q, vI x)) (hn : q < E.2.2.2.1) (hl : lset1 ls q (vI (x + z)) = ls') (k : T E inj (pc + 3) ls' st M o) : T E inj pc ls st M o := fun Q h P hP => hP.1.2.2.2.2.1 pc ls st M _ _ _ hd (List.mem_of_getElem? hj) hn (by rw [n_add]; exact hl ▸ k Q h P hP)
theorem tq_goto {off : Int} {tgt : Nat} (hd : decode E.2.2.1 pc = .ok (.goto off, 3)) (ht : (pc : Int) + off = (tgt : Int)) (k : T E inj tgt ls st M o) : T E inj pc ls st M o := fun Q h P hP => hP.2.1.1 pc ls st M _ _ hd ht (k Q h P hP)
theorem tq_icmp_eq {off : Int} {tgt : Nat} (hd : decode E.2.2.1 pc = .ok (.if_icmp .eq off, 3)) (ht : (pc : Int) + off = (tgt : Int)) (kt : T E inj tgt ls st M a) (kf : T E inj (pc + 3) ls st M b) : T E inj pc ls (vI y :: vI x :: st) M (if i32 x = i32 y then a else b) := fun Q h P hP => by
  have he : cnd .eq (Int32.ofInt x) (Int32.ofInt y) ↔ (i32 x = i32 y) := by simp only [cnd, i32_eq]
  exact hP.1.2.2.2.2.2.2.2 pc ls st M _ _ _ _ _ hd ht (fun hc => kt Q (by rw [if_pos (he.mp hc)] at h; exact h) P hP) (fun hc => kf Q (by rw [if_neg (fun q => hc (he.mpr q))] at h; exact h) P hP)
theorem tq_if_eq {off : Int} {tgt : Nat} (hd : decode E.2.2.1 pc = .ok (.ifCond .eq off, 3)) (ht : (pc : Int) + off = (tgt : Int)) (kt : T E inj tgt ls st M a) (kf : T E inj (pc + 3) ls st M b) : T E inj pc ls (vI x :: st) M (if i32 x = 0 then a else b) := fun Q h P hP => by
  have he : cnd .eq (Int32.ofInt x) 0 ↔ (i32 x = 0) := by
    have h0 : (0 : Int32) = Int32.ofInt 0 := rfl
    simp only [cnd, h0, i32_eq, i32_0]
  exact hP.1.2.2.2.2.2.2.1 pc ls st M _ _ _ _ hd ht (fun hc => kt Q (by rw [if_pos (he.mp hc)] at h; exact h) P hP) (fun hc => kf Q (by rw [if_neg (fun q => hc (he.mpr q))] at h; exact h) P hP)
theorem tq_icmp_ne {off : Int} {tgt : Nat} (hd : decode E.2.2.1 pc = .ok (.if_icmp .ne off, 3)) (ht : (pc : Int) + off = (tgt : Int)) (kt : T E inj tgt ls st M a) (kf : T E inj (pc + 3) ls st M b) : T E inj pc ls (vI y :: vI x :: st) M (if ¬ i32 x = i32 y then a else b) := fun Q h P hP => by
  have he : cnd .ne (Int32.ofInt x) (Int32.ofInt y) ↔ (¬ i32 x = i32 y) := by simp only [cnd, i32_eq]
  exact hP.1.2.2.2.2.2.2.2 pc ls st M _ _ _ _ _ hd ht (fun hc => kt Q (by rw [if_pos (he.mp hc)] at h; exact h) P hP) (fun hc => kf Q (by rw [if_neg (fun q => hc (he.mpr q))] at h; exact h) P hP)
theorem tq_if_ne {off : Int} {tgt : Nat} (hd : decode E.2.2.1 pc = .ok (.ifCond .ne off, 3)) (ht : (pc : Int) + off = (tgt : Int)) (kt : T E inj tgt ls st M a) (kf : T E inj (pc + 3) ls st M b) : T E inj pc ls (vI x :: st) M (if ¬ i32 x = 0 then a else b) := fun Q h P hP => by
  have he : cnd .ne (Int32.ofInt x) 0 ↔ (¬ i32 x = 0) := by
    have h0 : (0 : Int32) = Int32.ofInt 0 := rfl
    simp only [cnd, h0, i32_eq, i32_0]
  exact hP.1.2.2.2.2.2.2.1 pc ls st M _ _ _ _ hd ht (fun hc => kt Q (by rw [if_pos (he.mp hc)] at h; exact h) P hP) (fun hc => kf Q (by rw [if_neg (fun q => hc (he.mpr q))] at h; exact h) P hP)
theorem tq_icmp_lt {off : Int} {tgt : Nat} (hd : decode E.2.2.1 pc = .ok (.if_icmp .lt off, 3)) (ht : (pc : Int) + off = (tgt : Int)) (kt : T E inj tgt ls st M a) (kf : T E inj (pc + 3) ls st M b) : T E inj pc ls (vI y :: vI x :: st) M (if i32 x < i32 y then a else b) := fun Q h P hP => by
  have he : cnd .lt (Int32.ofInt x) (Int32.ofInt y) ↔ (i32 x < i32 y) := by simp only [cnd, i32_lt]
  exact hP.1.2.2.2.2.2.2.2 pc ls st M _ _ _ _ _ hd ht (fun hc => kt Q (by rw [if_pos (he.mp hc)] at h; exact h) P hP) (fun hc => kf Q (by rw [if_neg (fun q => hc (he.mpr q))] at h; exact h) P hP)
theorem tq_if_lt {off : Int} {tgt : Nat} (hd : decode E.2.2.1 pc = .ok (.ifCond .lt off, 3)) (ht : (pc : Int) + off = (tgt : Int)) (kt : T E inj tgt ls st M a) (kf : T E inj (pc + 3) ls st M b) : T E inj pc ls (vI x :: st) M (if i32 x < 0 then a else b) := fun Q h P hP => by
  have he : cnd .lt (Int32.ofInt x) 0 ↔ (i32 x < 0) := by
    have h0 : (0 : Int32) = Int32.ofInt 0 := rfl
    simp only [cnd, h0, i32_lt, i32_0]
  exact hP.1.2.2.2.2.2.2.1 pc ls st M _ _ _ _ hd ht (fun hc => kt Q (by rw [if_pos (he.mp hc)] at h; exact h) P hP) (fun hc => kf Q (by rw [if_neg (fun q => hc (he.mpr q))] at h; exact h) P hP)
theorem tq_icmp_ge {off : Int} {tgt : Nat} (hd : decode E.2.2.1 pc = .ok (.if_icmp .ge off, 3)) (ht : (pc : Int) + off = (tgt : Int)) (kt : T E inj tgt ls st M a) (kf : T E inj (pc + 3) ls st M b) : T E inj pc ls (vI y :: vI x :: st) M (if i32 y ≤ i32 x then a else b) := fun Q h P hP => by
  have he : cnd .ge (Int32.ofInt x) (Int32.ofInt y) ↔ (i32 y ≤ i32 x) := by simp only [cnd, i32_le]
  exact hP.1.2.2.2.2.2.2.2 pc ls st M _ _ _ _ _ hd ht (fun hc => kt Q (by rw [if_pos (he.mp hc)] at h; exact h) P hP) (fun hc => kf Q (by rw [if_neg (fun q => hc (he.mpr q))] at h; exact h) P hP)
theorem tq_if_ge {off : Int} {tgt : Nat} (hd : decode E.2.2.1 pc = .ok (.ifCond .ge off, 3)) (ht : (pc : Int) + off = (tgt : Int)) (kt : T E inj tgt ls st M a) (kf : T E inj (pc + 3) ls st M b) : T E inj pc ls (vI x :: st) M (if 0 ≤ i32 x then a else b) := fun Q h P hP => by
  have he : cnd .ge (Int32.ofInt x) 0 ↔ (0 ≤ i32 x) := by
    have h0 : (0 : Int32) = Int32.ofInt 0 := rfl
    simp only [cnd, h0, i32_le, i32_0]
  exact hP.1.2.2.2.2.2.2.1 pc ls st M _ _ _ _ hd ht (fun hc => kt Q (by rw [if_pos (he.mp hc)] at h; exact h) P hP) (fun hc => kf Q (by rw [if_neg (fun q => hc (he.mpr q))] at h; exact h) P hP)
theorem tq_icmp_gt {off : Int} {tgt : Nat} (hd : decode E.2.2.1 pc = .ok (.if_icmp .gt off, 3)) (ht : (pc : Int) + off = (tgt : Int)) (kt : T E inj tgt ls st M a) (kf : T E inj (pc + 3) ls st M b) : T E inj pc ls (vI y :: vI x :: st) M (if i32 y < i32 x then a else b) := fun Q h P hP => by
  have he : cnd .gt (Int32.ofInt x) (Int32.ofInt y) ↔ (i32 y < i32 x) := by simp only [cnd, i32_lt]
  exact hP.1.2.2.2.2.2.2.2 pc ls st M _ _ _ _ _ hd ht (fun hc => kt Q (by rw [if_pos (he.mp hc)] at h; exact h) P hP) (fun hc => kf Q (by rw [if_neg (fun q => hc (he.mpr q))] at h; exact h) P hP)
theorem tq_if_gt {off : Int} {tgt : Nat} (hd : decode E.2.2.1 pc = .ok (.ifCond .gt off, 3)) (ht : (pc : Int) + off = (tgt : Int)) (kt : T E inj tgt ls st M a) (kf : T E inj (pc + 3) ls st M b) : T E inj pc ls (vI x :: st) M (if 0 < i32 x then a else b) := fun Q h P hP => by
  have he : cnd .gt (Int32.ofInt x) 0 ↔ (0 < i32 x) := by
    have h0 : (0 : Int32) = Int32.ofInt 0 := rfl
    simp only [cnd, h0, i32_lt, i32_0]
  exact hP.1.2.2.2.2.2.2.1 pc ls st M _ _ _ _ hd ht (fun hc => kt Q (by rw [if_pos (he.mp hc)] at h; exact h) P hP) (fun hc => kf Q (by rw [if_neg (fun q => hc (he.mpr q))] at h; exact h) P hP)
theorem tq_icmp_le {off : Int} {tgt : Nat} (hd : decode E.2.2.1 pc = .ok (.if_icmp .le off, 3)) (ht : (pc : Int) + off = (tgt : Int)) (kt : T E inj tgt ls st M a) (kf : T E inj (pc + 3) ls st M b) : T E inj pc ls (vI y :: vI x :: st) M (if i32 x ≤ i32 y then a else b) := fun Q h P hP => by
  have he : cnd .le (Int32.ofInt x) (Int32.ofInt y) ↔ (i32 x ≤ i32 y) := by simp only [cnd, i32_le]
  exact hP.1.2.2.2.2.2.2.2 pc ls st M _ _ _ _ _ hd ht (fun hc => kt Q (by rw [if_pos (he.mp hc)] at h; exact h) P hP) (fun hc => kf Q (by rw [if_neg (fun q => hc (he.mpr q))] at h; exact h) P hP)
theorem tq_if_le {off : Int} {tgt : Nat} (hd : decode E.2.2.1 pc = .ok (.ifCond .le off, 3)) (ht : (pc : Int) + off = (tgt : Int)) (kt : T E inj tgt ls st M a) (kf : T E inj (pc + 3) ls st M b) : T E inj pc ls (vI x :: st) M (if i32 x ≤ 0 then a else b) := fun Q h P hP => by
  have he : cnd .le (Int32.ofInt x) 0 ↔ (i32 x ≤ 0) := by
    have h0 : (0 : Int32) = Int32.ofInt 0 := rfl
    simp only [cnd, h0, i32_le, i32_0]
  exact hP.1.2.2.2.2.2.2.1 pc ls st M _ _ _ _ hd ht (fun hc => kt Q (by rw [if_pos (he.mp hc)] at h; exact h) P hP) (fun hc => kf Q (by rw [if_neg (fun q => hc (he.mpr q))] at h; exact h) P hP)
theorem tq_tsC (j : Nat) {d lo hi : Int} {offs : Array Int} {len : Nat} {off : Int} {tgt : Nat} {w : Int} (hd : decode E.2.2.1 pc = .ok (.tableswitch d lo hi offs, len)) (hw : lo + j = w ∧ w ≤ hi) (ho : offs[j]? = some off) (ht : (pc : Int) + off = (tgt : Int)) (kt : T E inj tgt ls st M a) (kf : ¬ i32 x = w → T E inj pc ls (vI x :: st) M b) : T E inj pc ls (vI x :: st) M (if i32 x = w then a else b) := by
  refine tq_if (fun hc => fun Q h P hP => ?_) kf
  have e : (Int32.ofInt x).toInt = w := hc
  refine hP.2.1.2.2.1 pc ls st M _ _ _ _ _ _ _ _ hd (by rw [e]; omega) (by rw [e]; omega) ?_ ht (kt Q h P hP)
  rw [e, show (w - lo).toNat = j by omega]
  exact ho
theorem tq_tsD {d lo hi : Int} {offs : Array Int} {len : Nat} {tgt : Nat} (hd : decode E.2.2.1 pc = .ok (.tableswitch d lo hi offs, len)) (hw : i32 x < lo ∨ hi < i32 x) (ht : (pc : Int) + d = (tgt : Int)) (k : T E inj tgt ls st M o) : T E inj pc ls (vI x :: st) M o := fun Q h P hP => hP.2.1.2.1 pc ls st M _ _ _ _ _ _ _ hd hw ht (k Q h P hP)
theorem tq_lsC {d : Int} {ps : Array (Int × Int)} {len : Nat} {off : Int} {tgt : Nat} {w : Int} (hd : decode E.2.2.1 pc = .ok (.lookupswitch d ps, len)) (hp : (ps.toList.zip (ps.toList.drop 1)).all (fun (a, next) => a.1 < next.1) = true) (ho : Op.lookupswitch.offset ps.toList d w = off) (ht : (pc : Int) + off = (tgt : Int)) (kt : T E inj tgt ls st M a) (kf : ¬ i32 x = w → T E inj pc ls (vI x :: st) M b) : T E inj pc ls (vI x :: st) M (if i32 x = w then a else b) := by
  refine tq_if (fun hc => fun Q h P hP => ?_) kf
  have e : (Int32.ofInt x).toInt = w := hc
  exact hP.2.1.2.2.2.1 pc ls st M _ _ _ _ _ _ hd hp (by rw [e]; exact ho) ht (kt Q h P hP)
theorem tq_lsD {d : Int} {ps : Array (Int × Int)} {len : Nat} {tgt : Nat} (hd : decode E.2.2.1 pc = .ok (.lookupswitch d ps, len)) (hp : (ps.toList.zip (ps.toList.drop 1)).all (fun (a, next) => a.1 < next.1) = true) (ho : Op.lookupswitch.offset ps.toList d (i32 x) = d) (ht : (pc : Int) + d = (tgt : Int)) (k : T E inj tgt ls st M o) : T E inj pc ls (vI x :: st) M o := fun Q h P hP => hP.2.1.2.2.2.1 pc ls st M _ _ _ _ _ _ hd hp ho ht (k Q h P hP)
theorem tq_getI {idx c t : Nat} (hd : decode E.2.2.1 pc = .ok (.getfield idx, 3)) (hf : fldOk E.2.1 idx c k) (hc : skind i = c ∧ c < 20 ∧ i < NC) (ht : (fts c)[k]? = some t) (h1 : t ≠ 1 ∧ t ≠ 2) (kk : T E inj (pc + 3) ls (vI (M i k) :: st) M o) : T E inj pc ls (.ref i :: st) M o := fun Q h P hP => by
  obtain ⟨rfl, h20, hi⟩ := hc
  have e : fvp M i k t = vI (M i k) := by simp [fvp, h1.1, h1.2]
  exact hP.2.1.2.2.2.2.1 pc ls st M _ _ _ _ hd hi h20 hf ht (by rw [e]; exact kk Q h P hP)
theorem tq_getJ {idx c : Nat} (hd : decode E.2.2.1 pc = .ok (.getfield idx, 3)) (hf : fldOk E.2.1 idx c k) (hc : skind i = c ∧ c < 20 ∧ i < NC) (ht : (fts c)[k]? = some 1) (kk : T E inj (pc + 3) ls (vJ (M i k) :: st) M o) : T E inj pc ls (.ref i :: st) M o := fun Q h P hP => by
  obtain ⟨rfl, h20, hi⟩ := hc
  exact hP.2.1.2.2.2.2.1 pc ls st M _ _ _ _ hd hi h20 hf ht (kk Q h P hP)
theorem tq_getR {idx c j : Nat} (hd : decode E.2.2.1 pc = .ok (.getfield idx, 3)) (hf : fldOk E.2.1 idx c k) (hc : skind i = c ∧ c < 20 ∧ i < NC) (ht : (fts c)[k]? = some 2) (hj : ptr i k = j) (kk : T E inj (pc + 3) ls (.ref j :: st) M o) : T E inj pc ls (.ref i :: st) M o := fun Q h P hP => by
  obtain ⟨rfl, h20, hi⟩ := hc
  subst hj
  exact hP.2.1.2.2.2.2.1 pc ls st M _ _ _ _ hd hi h20 hf ht (kk Q h P hP)
theorem tq_putI {idx c : Nat} {g : Mm → Option α} (hd : decode E.2.2.1 pc = .ok (.putfield idx, 3)) (hf : fldOk E.2.1 idx c k) (hc : skind i = c ∧ c < 20 ∧ i < NC) (ht : (fts c)[k]? = some 0) (hp : putOk c k 0) (kk : ∀ M1, T E inj (pc + 3) ls st M1 (g M1)) : T E inj pc ls (vI z :: .ref i :: st) M (bd (up M i k z) g) := fun Q h P hP => by
  obtain ⟨rfl, h20, hi⟩ := hc
  exact hP.2.1.2.2.2.2.2.1 pc ls st M _ _ _ _ z (vI z) hd hi h20 hf ht (by decide) hp rfl (fun h => absurd h (by decide)) (kk _ Q h P hP)
theorem tq_putJ {idx c : Nat} {g : Mm → Option α} (hd : decode E.2.2.1 pc = .ok (.putfield idx, 3)) (hf : fldOk E.2.1 idx c k) (hc : skind i = c ∧ c < 20 ∧ i < NC) (ht : (fts c)[k]? = some 1) (hp : putOk c k 1) (kk : ∀ M1, T E inj (pc + 3) ls st M1 (g M1)) : T E inj pc ls (vJ z :: .ref i :: st) M (bd (up M i k z) g) := fun Q h P hP => by
  obtain ⟨rfl, h20, hi⟩ := hc
  exact hP.2.1.2.2.2.2.2.1 pc ls st M _ _ _ _ z (vJ z) hd hi h20 hf ht (by decide) hp rfl (fun h => absurd h (by decide)) (kk _ Q h P hP)
theorem bool_of {z : Int} (h : i32 z = 0 ∨ i32 z = 1) : Int32.ofInt z = 0 ∨ Int32.ofInt z = 1 := h.imp (fun q => Int32.toInt_inj.mp q) (fun q => Int32.toInt_inj.mp q)
theorem tq_putZ {idx c : Nat} {g : Mm → Option α} (hd : decode E.2.2.1 pc = .ok (.putfield idx, 3)) (hf : fldOk E.2.1 idx c k) (hc : skind i = c ∧ c < 20 ∧ i < NC) (ht : (fts c)[k]? = some 3) (hp : putOk c k 3) (kk : ∀ M1, T E inj (pc + 3) ls st M1 (g M1)) : T E inj pc ls (vI z :: .ref i :: st) M (gd (i32 z = 0 ∨ i32 z = 1) (bd (up M i k z) g)) := tq_gd fun hz => fun Q h P hP => by
  obtain ⟨rfl, h20, hi⟩ := hc
  exact hP.2.1.2.2.2.2.2.1 pc ls st M _ _ _ _ z (vI z) hd hi h20 hf ht (by decide) hp rfl (fun _ => bool_of hz) (kk _ Q h P hP)
theorem inr_of {j : Int} {n : Nat} (h : 0 ≤ i32 j ∧ i32 j < n) : inr (Int32.ofInt j) n := h
theorem tq_iald (hd : decode E.2.2.1 pc = .ok (.iaload, 1)) (hk : skind i = 20 ∧ i < NC) (hn : slen i = n) (kk : T E inj (pc + 1) ls (vI (M i (i32 x).toNat) :: st) M o) : T E inj pc ls (vI x :: .ref i :: st) M (gd (0 ≤ i32 x ∧ i32 x < (n : Int)) o) := tq_gd fun hx => fun Q h P hP => by
  have e : aval M i (i32 x).toNat = vI (M i (i32 x).toNat) := by
    simp only [aval, hk.1, Nat.reduceEqDiff, reduceIte]
  subst hn
  exact hP.2.1.2.2.2.2.2.2.1 pc ls st M .iaload i (Int32.ofInt x) hd hk.2 (by rw [hk.1]; rfl) (inr_of hx) (by show P _ _ (aval M i (i32 x).toNat :: st) _; rw [e]; exact kk Q h P hP)
theorem tq_ialdC (j : Nat) (hd : decode E.2.2.1 pc = .ok (.iaload, 1)) (hk : skind i = 20 ∧ i < NC) (hn : slen i = n) (hj : x = (j : Int) ∧ j < n ∧ j < 2147483648) (kk : T E inj (pc + 1) ls (vI (M i j) :: st) M o) : T E inj pc ls (vI x :: .ref i :: st) M o := by
  obtain ⟨rfl, h1, h2⟩ := hj
  have ei : i32 (j : Int) = j := i32_id (by omega) (by omega)
  have := tq_iald (E := E) (inj := inj) (x := (j : Int)) (o := o) (M := M) (ls := ls) (st := st) hd hk hn (by rw [ei]; exact kk)
  rw [gd, if_pos (by rw [ei]; omega)] at this
  exact this
theorem tq_lald (hd : decode E.2.2.1 pc = .ok (.laload, 1)) (hk : skind i = 21 ∧ i < NC) (hn : slen i = n) (kk : T E inj (pc + 1) ls (vJ (M i (i32 x).toNat) :: st) M o) : T E inj pc ls (vI x :: .ref i :: st) M (gd (0 ≤ i32 x ∧ i32 x < (n : Int)) o) := tq_gd fun hx => fun Q h P hP => by
  have e : aval M i (i32 x).toNat = vJ (M i (i32 x).toNat) := by
    simp only [aval, hk.1, Nat.reduceEqDiff, reduceIte]
  subst hn
  exact hP.2.1.2.2.2.2.2.2.1 pc ls st M .laload i (Int32.ofInt x) hd hk.2 (by rw [hk.1]; rfl) (inr_of hx) (by show P _ _ (aval M i (i32 x).toNat :: st) _; rw [e]; exact kk Q h P hP)
theorem tq_laldC (j : Nat) (hd : decode E.2.2.1 pc = .ok (.laload, 1)) (hk : skind i = 21 ∧ i < NC) (hn : slen i = n) (hj : x = (j : Int) ∧ j < n ∧ j < 2147483648) (kk : T E inj (pc + 1) ls (vJ (M i j) :: st) M o) : T E inj pc ls (vI x :: .ref i :: st) M o := by
  obtain ⟨rfl, h1, h2⟩ := hj
  have ei : i32 (j : Int) = j := i32_id (by omega) (by omega)
  have := tq_lald (E := E) (inj := inj) (x := (j : Int)) (o := o) (M := M) (ls := ls) (st := st) hd hk hn (by rw [ei]; exact kk)
  rw [gd, if_pos (by rw [ei]; omega)] at this
  exact this
theorem tq_zald (hd : decode E.2.2.1 pc = .ok (.baload, 1)) (hk : skind i = 22 ∧ i < NC) (hn : slen i = n) (kk : T E inj (pc + 1) ls (vI (M i (i32 x).toNat) :: st) M o) : T E inj pc ls (vI x :: .ref i :: st) M (gd (0 ≤ i32 x ∧ i32 x < (n : Int)) o) := tq_gd fun hx => fun Q h P hP => by
  have e : aval M i (i32 x).toNat = vI (M i (i32 x).toNat) := by
    simp only [aval, hk.1, Nat.reduceEqDiff, reduceIte]
  subst hn
  exact hP.2.1.2.2.2.2.2.2.1 pc ls st M .baload i (Int32.ofInt x) hd hk.2 (by rw [hk.1]; rfl) (inr_of hx) (by show P _ _ (aval M i (i32 x).toNat :: st) _; rw [e]; exact kk Q h P hP)
theorem tq_zaldC (j : Nat) (hd : decode E.2.2.1 pc = .ok (.baload, 1)) (hk : skind i = 22 ∧ i < NC) (hn : slen i = n) (hj : x = (j : Int) ∧ j < n ∧ j < 2147483648) (kk : T E inj (pc + 1) ls (vI (M i j) :: st) M o) : T E inj pc ls (vI x :: .ref i :: st) M o := by
  obtain ⟨rfl, h1, h2⟩ := hj
  have ei : i32 (j : Int) = j := i32_id (by omega) (by omega)
  have := tq_zald (E := E) (inj := inj) (x := (j : Int)) (o := o) (M := M) (ls := ls) (st := st) hd hk hn (by rw [ei]; exact kk)
  rw [gd, if_pos (by rw [ei]; omega)] at this
  exact this
theorem tq_cald (hd : decode E.2.2.1 pc = .ok (.caload, 1)) (hk : skind i = 23 ∧ i < NC) (hn : slen i = n) (kk : T E inj (pc + 1) ls (vI (ptr i (i32 x).toNat : Nat) :: st) M o) : T E inj pc ls (vI x :: .ref i :: st) M (gd (0 ≤ i32 x ∧ i32 x < (n : Int)) o) := tq_gd fun hx => fun Q h P hP => by
  have e : aval M i (i32 x).toNat = vI (ptr i (i32 x).toNat : Nat) := by
    simp only [aval, hk.1, Nat.reduceEqDiff, reduceIte]
    rfl
  subst hn
  exact hP.2.1.2.2.2.2.2.2.1 pc ls st M .caload i (Int32.ofInt x) hd hk.2 (by rw [hk.1]; rfl) (inr_of hx) (by show P _ _ (aval M i (i32 x).toNat :: st) _; rw [e]; exact kk Q h P hP)
theorem tq_caldC (j : Nat) (hd : decode E.2.2.1 pc = .ok (.caload, 1)) (hk : skind i = 23 ∧ i < NC) (hn : slen i = n) (hj : x = (j : Int) ∧ j < n ∧ j < 2147483648) (kk : T E inj (pc + 1) ls (vI (ptr i j : Nat) :: st) M o) : T E inj pc ls (vI x :: .ref i :: st) M o := by
  obtain ⟨rfl, h1, h2⟩ := hj
  have ei : i32 (j : Int) = j := i32_id (by omega) (by omega)
  have := tq_cald (E := E) (inj := inj) (x := (j : Int)) (o := o) (M := M) (ls := ls) (st := st) hd hk hn (by rw [ei]; exact kk)
  rw [gd, if_pos (by rw [ei]; omega)] at this
  exact this
theorem tq_iast {g : Mm → Option α} (hd : decode E.2.2.1 pc = .ok (.iastore, 1)) (hk : skind i = 20 ∧ i < NC) (hn : slen i = n) (kk : ∀ M1, T E inj (pc + 1) ls st M1 (g M1)) : T E inj pc ls (vI z :: vI x :: .ref i :: st) M (gd (0 ≤ i32 x ∧ i32 x < (n : Int)) (bd (up M i (i32 x).toNat z) g)) := tq_gd fun hx => fun Q h P hP => by
  subst hn
  exact hP.2.1.2.2.2.2.2.2.2 pc ls st M i (Int32.ofInt x) z hd hk.2 hk.1 (inr_of hx) (kk _ Q h P hP)
theorem tq_iastC (j : Nat) {g : Mm → Option α} (hd : decode E.2.2.1 pc = .ok (.iastore, 1)) (hk : skind i = 20 ∧ i < NC) (hn : slen i = n) (hj : x = (j : Int) ∧ j < n ∧ j < 2147483648) (kk : ∀ M1, T E inj (pc + 1) ls st M1 (g M1)) : T E inj pc ls (vI z :: vI x :: .ref i :: st) M (bd (up M i j z) g) := by
  obtain ⟨rfl, h1, h2⟩ := hj
  have ei : i32 (j : Int) = j := i32_id (by omega) (by omega)
  have := tq_iast (E := E) (inj := inj) (x := (j : Int)) (z := z) (M := M) (ls := ls) (st := st) hd hk hn kk
  rw [gd, if_pos (by rw [ei]; omega), ei] at this
  exact this
theorem tq_last {g : Mm → Option α} (hd : decode E.2.2.1 pc = .ok (.lastore, 1)) (hk : skind i = 21 ∧ i < NC) (hn : slen i = n) (kk : ∀ M1, T E inj (pc + 1) ls st M1 (g M1)) : T E inj pc ls (vJ z :: vI x :: .ref i :: st) M (gd (0 ≤ i32 x ∧ i32 x < (n : Int)) (bd (up M i (i32 x).toNat z) g)) := tq_gd fun hx => fun Q h P hP => by
  subst hn
  exact hP.2.2.1.2.1 pc ls st M i (Int32.ofInt x) z hd hk.2 hk.1 (inr_of hx) (kk _ Q h P hP)
theorem tq_lastC (j : Nat) {g : Mm → Option α} (hd : decode E.2.2.1 pc = .ok (.lastore, 1)) (hk : skind i = 21 ∧ i < NC) (hn : slen i = n) (hj : x = (j : Int) ∧ j < n ∧ j < 2147483648) (kk : ∀ M1, T E inj (pc + 1) ls st M1 (g M1)) : T E inj pc ls (vJ z :: vI x :: .ref i :: st) M (bd (up M i j z) g) := by
  obtain ⟨rfl, h1, h2⟩ := hj
  have ei : i32 (j : Int) = j := i32_id (by omega) (by omega)
  have := tq_last (E := E) (inj := inj) (x := (j : Int)) (z := z) (M := M) (ls := ls) (st := st) hd hk hn kk
  rw [gd, if_pos (by rw [ei]; omega), ei] at this
  exact this
theorem tq_zast {g : Mm → Option α} (hd : decode E.2.2.1 pc = .ok (.bastore, 1)) (hk : skind i = 22 ∧ i < NC) (hn : slen i = n) (kk : ∀ M1, T E inj (pc + 1) ls st M1 (g M1)) : T E inj pc ls (vI z :: vI x :: .ref i :: st) M (gd ((0 ≤ i32 x ∧ i32 x < (n : Int)) ∧ (i32 z = 0 ∨ i32 z = 1)) (bd (up M i (i32 x).toNat z) g)) := tq_gd fun hx => fun Q h P hP => by
  subst hn
  exact hP.2.2.1.1 pc ls st M i (Int32.ofInt x) z hd hk.2 hk.1 (inr_of hx.1) (bool_of hx.2) (kk _ Q h P hP)
theorem tq_alen (hd : decode E.2.2.1 pc = .ok (.arraylength, 1)) (hk : 20 ≤ skind i ∧ skind i < 24 ∧ i < NC) (hn : slen i = n) (kk : T E inj (pc + 1) ls (vI n :: st) M o) : T E inj pc ls (.ref i :: st) M o := fun Q h P hP => by
  subst hn
  exact hP.2.2.1.2.2.1 pc ls st M i hd hk.2.2 hk.1 hk.2.1 (kk Q h P hP)
theorem tq_ldc {idx : Nat} (hd : decode E.2.2.1 pc = .ok (.ldc idx, 2)) (hm : Cond.constant E.2.1 idx (Int32.ofInt z) ∈ lw_tbl) (kk : T E inj (pc + 2) ls (vI z :: st) M o) : T E inj pc ls st M o := fun Q h P hP => (hP.2.2.1.2.2.2.1 pc ls st M idx z).1 ⟨hd, hm⟩ (kk Q h P hP)
theorem tq_ldcw {idx : Nat} (hd : decode E.2.2.1 pc = .ok (.ldc_w idx, 3)) (hm : Cond.constant E.2.1 idx (Int32.ofInt z) ∈ lw_tbl) (kk : T E inj (pc + 3) ls (vI z :: st) M o) : T E inj pc ls st M o := fun Q h P hP => (hP.2.2.1.2.2.2.1 pc ls st M idx z).2.1 ⟨hd, hm⟩ (kk Q h P hP)
theorem tq_ldc2 {idx : Nat} (hd : decode E.2.2.1 pc = .ok (.ldc2_w idx, 3)) (hm : Cond.constantLong E.2.1 idx (Int64.ofInt z) ∈ lw_tbl) (kk : T E inj (pc + 3) ls (vJ z :: st) M o) : T E inj pc ls st M o := fun Q h P hP => (hP.2.2.1.2.2.2.1 pc ls st M idx z).2.2 ⟨hd, hm⟩ (kk Q h P hP)
theorem tq_ldcS {idx j s : Nat} {tx : String} (hd : decode E.2.2.1 pc = .ok (.ldc idx, 2)) (hm : stTab[j]? = some (E.2.1, idx, tx, s)) (kk : T E inj (pc + 2) ls (.ref (1000 + s) :: st) M o) : T E inj pc ls st M o := fun Q h P hP => hP.2.2.1.2.2.2.2.1 pc ls st M _ _ _ hd (List.mem_of_getElem? hm) (kk Q h P hP)
theorem tq_scrL (hL : E.2.2.2.2.1) (hd : decode E.2.2.1 pc = .ok (.iaload, 1)) (kk : T E inj (pc + 1) ls (vI (E.2.2.2.2.2.2.1 (i32 x).toNat).toInt :: st) M o) : T E inj pc ls (vI x :: .ref 900 :: st) M (gd (0 ≤ i32 x ∧ i32 x < (E.2.2.2.2.2.1 : Int)) o) := tq_gd fun hx => fun Q h P hP => (hP.2.2.2.1 hL pc ls st M).1 (Int32.ofInt x) hd (inr_of hx) (by have := kk Q h P hP; rw [vI_of] at this; exact this)
theorem tq_scrN (hL : E.2.2.2.2.1) (hd : decode E.2.2.1 pc = .ok (.arraylength, 1)) (kk : T E inj (pc + 1) ls (vI E.2.2.2.2.2.1 :: st) M o) : T E inj pc ls (.ref 900 :: st) M o := fun Q h P hP => (hP.2.2.2.1 hL pc ls st M).2 hd (kk Q h P hP)
theorem tq_strV {idx j : Nat} (hj : j < NSt) (hd : decode E.2.2.1 pc = .ok (.getfield idx, 3)) (hm : Cond.fieldLink E.2.1 idx "java/lang/String" "value" "[B" ∈ lw_tbl) (kk : T E inj (pc + 3) ls (.ref (1100 + j) :: st) M o) : T E inj pc ls (.ref (1000 + j) :: st) M o := fun Q h P hP => (hP.2.2.2.2.1 pc ls st M idx j hj).1 hd hm (kk Q h P hP)
theorem tq_strC {idx j : Nat} (hj : j < NSt) (hd : decode E.2.2.1 pc = .ok (.getfield idx, 3)) (hm : Cond.fieldLink E.2.1 idx "java/lang/String" "coder" "B" ∈ lw_tbl) (kk : T E inj (pc + 3) ls (vI 0 :: st) M o) : T E inj pc ls (.ref (1000 + j) :: st) M o := fun Q h P hP => (hP.2.2.2.2.1 pc ls st M idx j hj).2.1 hd hm (kk Q h P hP)
theorem tq_strN {j : Nat} (hj : j < NSt) (hd : decode E.2.2.1 pc = .ok (.arraylength, 1)) (kk : T E inj (pc + 1) ls (vI (stLen.getD j 0) :: st) M o) : T E inj pc ls (.ref (1100 + j) :: st) M o := fun Q h P hP => (hP.2.2.2.2.1 pc ls st M 0 j hj).2.2.1 hd (kk Q h P hP)
def sbyt (j q : Nat) : Int := ((stByt.getD j []).getD q 0).toInt
theorem tq_strB {j : Nat} (hj : j < NSt) (hd : decode E.2.2.1 pc = .ok (.baload, 1)) (kk : T E inj (pc + 1) ls (vI (sbyt j (i32 x).toNat) :: st) M o) : T E inj pc ls (vI x :: .ref (1100 + j) :: st) M (gd (0 ≤ i32 x ∧ i32 x < (stLen.getD j 0 : Nat)) o) := tq_gd fun hx => fun Q h P hP => (hP.2.2.2.2.1 pc ls st M 0 j hj).2.2.2 (Int32.ofInt x) hd (inr_of hx) (by have := kk Q h P hP; rw [sbyt, vI_of] at this; exact this)
theorem tq_gsC {idx : Nat} (hd : decode E.2.2.1 pc = .ok (.getstatic idx, 3)) (hm : Cond.fieldLink E.2.1 idx "java/lang/String" "COMPACT_STRINGS" "Z" ∈ lw_tbl) (kk : T E inj (pc + 3) ls (vI 1 :: st) M o) : T E inj pc ls st M o := fun Q h P hP => (hP.2.2.2.2.2.1 pc ls st M idx).1 hd hm (kk Q h P hP)
theorem tq_gsF {idx : Nat} (hd : decode E.2.2.1 pc = .ok (.getstatic idx, 3)) (hm : Cond.fieldLink E.2.1 idx "jdk/internal/util/Preconditions" "SIOOBE_FORMATTER" "Ljava/util/function/BiFunction;" ∈ lw_tbl) (k1 : ∀ v : Value, (v = .ref 1200 ∨ v = .null) → T E inj (pc + 3) ls (v :: st) M o) : T E inj pc ls st M o := fun Q h P hP => (hP.2.2.2.2.2.1 pc ls st M idx).2 hd hm (k1 _ (Or.inl rfl) Q h P hP) (k1 _ (Or.inr rfl) Q h P hP)
end TR
section TE
variable {E : Ev} {pc : Nat} {ls : List (Nat × Value)} {M : Mm} {x : Int}
theorem tq_iret (hd : decode E.2.2.1 pc = .ok (.ireturn, 1)) (hr : E.2.2.2.2.2.2.2 = some .int) : T E injI pc ls [vI x] M (some (x, M)) := fun Q h P hP => by
  obtain ⟨_, h, hq⟩ := h
  cases h
  exact (hP.2.2.2.2.2.2 pc ls M).1 _ hd (Or.inl hr) hq
theorem tq_zret (hd : decode E.2.2.1 pc = .ok (.ireturn, 1)) (hr : E.2.2.2.2.2.2.2 = some .boolean) : T E injI pc ls [vI x] M (gd (i32 x = 0 ∨ i32 x = 1) (some (x, M))) := tq_gd fun hx => fun Q h P hP => by
  obtain ⟨_, h, hq⟩ := h
  cases h
  exact (hP.2.2.2.2.2.2 pc ls M).1 _ hd (Or.inr ⟨_, hr, by rcases bool_of hx with h | h <;> (rw [h]; decide)⟩) hq
theorem tq_zretC (hd : decode E.2.2.1 pc = .ok (.ireturn, 1)) (hr : E.2.2.2.2.2.2.2 = some .boolean) (hx : x = 0 ∨ x = 1) : T E injI pc ls [vI x] M (some (x, M)) := fun Q h P hP => by
  obtain ⟨_, h, hq⟩ := h
  cases h
  exact (hP.2.2.2.2.2.2 pc ls M).1 _ hd (Or.inr ⟨_, hr, by rcases hx with h | h <;> (rw [h]; decide)⟩) hq
theorem tq_bret (hd : decode E.2.2.1 pc = .ok (.ireturn, 1)) (hr : E.2.2.2.2.2.2.2 = some .byte) (hx : x = 0 ∨ x = 1) : T E injI pc ls [vI x] M (some (x, M)) := fun Q h P hP => by
  obtain ⟨_, h, hq⟩ := h
  cases h
  exact (hP.2.2.2.2.2.2 pc ls M).1 _ hd (Or.inr ⟨_, hr, by rcases hx with h | h <;> (rw [h]; decide)⟩) hq
theorem tq_cret (hd : decode E.2.2.1 pc = .ok (.ireturn, 1)) (hr : E.2.2.2.2.2.2.2 = some .char) : T E injI pc ls [vI x] M (gd (0 ≤ i32 x ∧ i32 x < 65536) (some (x, M))) := tq_gd fun hx => fun Q h P hP => by
  obtain ⟨_, h, hq⟩ := h
  cases h
  refine (hP.2.2.2.2.2.2 pc ls M).1 _ hd (Or.inr ⟨_, hr, ?_⟩) hq
  have e : Int32.ofInt x = nI (i32 x).toNat := by
    rw [n_rep x]
    show _ = Int32.ofInt (((i32 x).toNat : Nat) : Int)
    rw [Int.toNat_of_nonneg hx.1]
  rw [e]
  exact (pk_charN (by omega)).1
theorem tq_lret (hd : decode E.2.2.1 pc = .ok (.lreturn, 1)) (hr : E.2.2.2.2.2.2.2 = some .long) : T E injJ pc ls [vJ x] M (some (x, M)) := fun Q h P hP => by
  obtain ⟨_, h, hq⟩ := h
  cases h
  exact (hP.2.2.2.2.2.2 pc ls M).2.1 _ hd hr hq
theorem tq_vret (hd : decode E.2.2.1 pc = .ok (.return_, 1)) (hr : E.2.2.2.2.2.2.2 = none) : T E injV pc ls [] M (some M) := fun Q h P hP => by
  obtain ⟨_, h, hq⟩ := h
  cases h
  exact (hP.2.2.2.2.2.2 pc ls M).2.2 hd hr hq
end TE
section TC
variable {α : Type} {E : Ev} {inj : α → Option Value × Mm} {pc idx i : Nat} {ls : List (Nat × Value)} {st : List Value} {M : Mm} {y : MethodName} {b : ByteArray} {n np : Nat} {rt : Option FieldType} {As : List Value}
def rcvOk (i : Nat) (C : String) : Prop := (i < NC ∧ skind i < 20 ∧ (classes[skind i]?).map (fun q => q.1) = some C) ∨ (isStr i ∧ C = "java/lang/String")
theorem tq_V {β : Type} {ij : β → Option Value × Mm} {fo : Option β} (hd : decode E.2.2.1 pc = .ok (.invokevirtual idx, 3)) (hok : mOk y b n rt np false) (hl : lnkOk E.2.1 idx y) (hn : As.length = np) (hr : rcvOk i y.cls) (hs : (st.map fun v => v.category).sum ≤ 8) (hf : ∀ Q, sat ij fo Q → E.1 y (.ref i :: As) M Q) {o : Option α} (k : ∀ Q, sat inj o Q → ∃ w, fo = some w ∧ WPe E Q (pc + 3) ls ((ij w).1.toList ++ st) (ij w).2) : T E inj pc ls (As.reverse ++ .ref i :: st) M o := fun Q h P hP => by
  obtain ⟨w, hw, kk⟩ := k Q h
  refine hP.2.2.1.2.2.2.2.2.1 pc ls st M _ _ _ _ _ _ _ i hd hok hl hn hr hs (hf _ ⟨w, hw, ?_⟩)
  exact kk P hP
theorem tq_S {β : Type} {ij : β → Option Value × Mm} {fo : Option β} (hd : decode E.2.2.1 pc = .ok (.invokestatic idx, 3)) (hok : mOk y b n rt np true) (hl : lnkOk E.2.1 idx y) (hn : As.length = np) (hs : (st.map fun v => v.category).sum ≤ 8) (hf : ∀ Q, sat ij fo Q → E.1 y As M Q) {o : Option α} (k : ∀ Q, sat inj o Q → ∃ w, fo = some w ∧ WPe E Q (pc + 3) ls ((ij w).1.toList ++ st) (ij w).2) : T E inj pc ls (As.reverse ++ st) M o := fun Q h P hP => by
  obtain ⟨w, hw, kk⟩ := k Q h
  refine hP.2.2.1.2.2.2.2.2.2 pc ls st M _ _ _ _ _ _ _ hd hok hl hn hs (hf _ ⟨w, hw, ?_⟩)
  exact kk P hP
theorem k_I {fo : Option (Int × Mm)} {g : Int → Mm → Option α} (k : ∀ r M1, T E inj pc ls (vI r :: st) M1 (g r M1)) : ∀ Q, sat inj (bI fo g) Q → ∃ w, fo = some w ∧ WPe E Q pc ls ((injI w).1.toList ++ st) (injI w).2 := fun Q h => by
  cases fo with
  | none => obtain ⟨_, h, -⟩ := h; cases h
  | some w => exact ⟨w, rfl, k w.1 w.2 Q h⟩
theorem k_J {fo : Option (Int × Mm)} {g : Int → Mm → Option α} (k : ∀ r M1, T E inj pc ls (vJ r :: st) M1 (g r M1)) : ∀ Q, sat inj (bI fo g) Q → ∃ w, fo = some w ∧ WPe E Q pc ls ((injJ w).1.toList ++ st) (injJ w).2 := fun Q h => by
  cases fo with
  | none => obtain ⟨_, h, -⟩ := h; cases h
  | some w => exact ⟨w, rfl, k w.1 w.2 Q h⟩
theorem k_V {fo : Option Mm} {g : Mm → Option α} (k : ∀ M1, T E inj pc ls st M1 (g M1)) : ∀ Q, sat inj (bV fo g) Q → ∃ w, fo = some w ∧ WPe E Q pc ls ((injV w).1.toList ++ st) (injV w).2 := fun Q h => by
  cases fo with
  | none => obtain ⟨_, h, -⟩ := h; cases h
  | some w => exact ⟨w, rfl, k w Q h⟩
theorem ct_in {d : Nat} {stt : Bool} {β : Type} {ij : β → Option Value × Mm} {fo : Option β} {Q : Option Value → Mm → Prop} (hok : mOk y b n rt np stt) (hlen : (lg_sl As).length ≤ n) (h : T (Ct d, y.cls, b, n, False, 0, (fun _ => 0), rt) ij 0 (lv_args 0 As) [] M fo) (hq : sat ij fo Q) : Ct (d + 1) y As M Q := ⟨b, n, rt, np, stt, hok, hlen, h Q hq⟩
theorem tq_V0 {β : Type} {ij : β → Option Value × Mm} {fo : Option β} (hd : decode E.2.2.1 pc = .ok (.invokevirtual idx, 3)) (hok : mOk y b n rt 0 false) (hl : lnkOk E.2.1 idx y) (hr : rcvOk i y.cls) (hs : (st.map fun v => v.category).sum ≤ 8) (hf : ∀ Q, sat ij fo Q → E.1 y (.ref i :: []) M Q) {o : Option α} (k : ∀ Q, sat inj o Q → ∃ w, fo = some w ∧ WPe E Q (pc + 3) ls ((ij w).1.toList ++ st) (ij w).2) : T E inj pc ls (.ref i :: st) M o := tq_V (As := []) hd hok hl rfl hr hs hf k
theorem tq_S0 {β : Type} {ij : β → Option Value × Mm} {fo : Option β} (hd : decode E.2.2.1 pc = .ok (.invokestatic idx, 3)) (hok : mOk y b n rt 0 true) (hl : lnkOk E.2.1 idx y) (hs : (st.map fun v => v.category).sum ≤ 8) (hf : ∀ Q, sat ij fo Q → E.1 y [] M Q) {o : Option α} (k : ∀ Q, sat inj o Q → ∃ w, fo = some w ∧ WPe E Q (pc + 3) ls ((ij w).1.toList ++ st) (ij w).2) : T E inj pc ls (st) M o := tq_S (As := []) hd hok hl rfl hs hf k
theorem tq_V1 {β : Type} {ij : β → Option Value × Mm} {fo : Option β} {a0 : Value} (hd : decode E.2.2.1 pc = .ok (.invokevirtual idx, 3)) (hok : mOk y b n rt 1 false) (hl : lnkOk E.2.1 idx y) (hr : rcvOk i y.cls) (hs : (st.map fun v => v.category).sum ≤ 8) (hf : ∀ Q, sat ij fo Q → E.1 y (.ref i :: [a0]) M Q) {o : Option α} (k : ∀ Q, sat inj o Q → ∃ w, fo = some w ∧ WPe E Q (pc + 3) ls ((ij w).1.toList ++ st) (ij w).2) : T E inj pc ls (a0 :: .ref i :: st) M o := tq_V (As := [a0]) hd hok hl rfl hr hs hf k
theorem tq_S1 {β : Type} {ij : β → Option Value × Mm} {fo : Option β} {a0 : Value} (hd : decode E.2.2.1 pc = .ok (.invokestatic idx, 3)) (hok : mOk y b n rt 1 true) (hl : lnkOk E.2.1 idx y) (hs : (st.map fun v => v.category).sum ≤ 8) (hf : ∀ Q, sat ij fo Q → E.1 y [a0] M Q) {o : Option α} (k : ∀ Q, sat inj o Q → ∃ w, fo = some w ∧ WPe E Q (pc + 3) ls ((ij w).1.toList ++ st) (ij w).2) : T E inj pc ls (a0 :: st) M o := tq_S (As := [a0]) hd hok hl rfl hs hf k
theorem tq_V2 {β : Type} {ij : β → Option Value × Mm} {fo : Option β} {a0 a1 : Value} (hd : decode E.2.2.1 pc = .ok (.invokevirtual idx, 3)) (hok : mOk y b n rt 2 false) (hl : lnkOk E.2.1 idx y) (hr : rcvOk i y.cls) (hs : (st.map fun v => v.category).sum ≤ 8) (hf : ∀ Q, sat ij fo Q → E.1 y (.ref i :: [a0, a1]) M Q) {o : Option α} (k : ∀ Q, sat inj o Q → ∃ w, fo = some w ∧ WPe E Q (pc + 3) ls ((ij w).1.toList ++ st) (ij w).2) : T E inj pc ls (a1 :: a0 :: .ref i :: st) M o := tq_V (As := [a0, a1]) hd hok hl rfl hr hs hf k
theorem tq_S2 {β : Type} {ij : β → Option Value × Mm} {fo : Option β} {a0 a1 : Value} (hd : decode E.2.2.1 pc = .ok (.invokestatic idx, 3)) (hok : mOk y b n rt 2 true) (hl : lnkOk E.2.1 idx y) (hs : (st.map fun v => v.category).sum ≤ 8) (hf : ∀ Q, sat ij fo Q → E.1 y [a0, a1] M Q) {o : Option α} (k : ∀ Q, sat inj o Q → ∃ w, fo = some w ∧ WPe E Q (pc + 3) ls ((ij w).1.toList ++ st) (ij w).2) : T E inj pc ls (a1 :: a0 :: st) M o := tq_S (As := [a0, a1]) hd hok hl rfl hs hf k
theorem tq_V3 {β : Type} {ij : β → Option Value × Mm} {fo : Option β} {a0 a1 a2 : Value} (hd : decode E.2.2.1 pc = .ok (.invokevirtual idx, 3)) (hok : mOk y b n rt 3 false) (hl : lnkOk E.2.1 idx y) (hr : rcvOk i y.cls) (hs : (st.map fun v => v.category).sum ≤ 8) (hf : ∀ Q, sat ij fo Q → E.1 y (.ref i :: [a0, a1, a2]) M Q) {o : Option α} (k : ∀ Q, sat inj o Q → ∃ w, fo = some w ∧ WPe E Q (pc + 3) ls ((ij w).1.toList ++ st) (ij w).2) : T E inj pc ls (a2 :: a1 :: a0 :: .ref i :: st) M o := tq_V (As := [a0, a1, a2]) hd hok hl rfl hr hs hf k
theorem tq_S3 {β : Type} {ij : β → Option Value × Mm} {fo : Option β} {a0 a1 a2 : Value} (hd : decode E.2.2.1 pc = .ok (.invokestatic idx, 3)) (hok : mOk y b n rt 3 true) (hl : lnkOk E.2.1 idx y) (hs : (st.map fun v => v.category).sum ≤ 8) (hf : ∀ Q, sat ij fo Q → E.1 y [a0, a1, a2] M Q) {o : Option α} (k : ∀ Q, sat inj o Q → ∃ w, fo = some w ∧ WPe E Q (pc + 3) ls ((ij w).1.toList ++ st) (ij w).2) : T E inj pc ls (a2 :: a1 :: a0 :: st) M o := tq_S (As := [a0, a1, a2]) hd hok hl rfl hs hf k
theorem tq_V4 {β : Type} {ij : β → Option Value × Mm} {fo : Option β} {a0 a1 a2 a3 : Value} (hd : decode E.2.2.1 pc = .ok (.invokevirtual idx, 3)) (hok : mOk y b n rt 4 false) (hl : lnkOk E.2.1 idx y) (hr : rcvOk i y.cls) (hs : (st.map fun v => v.category).sum ≤ 8) (hf : ∀ Q, sat ij fo Q → E.1 y (.ref i :: [a0, a1, a2, a3]) M Q) {o : Option α} (k : ∀ Q, sat inj o Q → ∃ w, fo = some w ∧ WPe E Q (pc + 3) ls ((ij w).1.toList ++ st) (ij w).2) : T E inj pc ls (a3 :: a2 :: a1 :: a0 :: .ref i :: st) M o := tq_V (As := [a0, a1, a2, a3]) hd hok hl rfl hr hs hf k
theorem tq_S4 {β : Type} {ij : β → Option Value × Mm} {fo : Option β} {a0 a1 a2 a3 : Value} (hd : decode E.2.2.1 pc = .ok (.invokestatic idx, 3)) (hok : mOk y b n rt 4 true) (hl : lnkOk E.2.1 idx y) (hs : (st.map fun v => v.category).sum ≤ 8) (hf : ∀ Q, sat ij fo Q → E.1 y [a0, a1, a2, a3] M Q) {o : Option α} (k : ∀ Q, sat inj o Q → ∃ w, fo = some w ∧ WPe E Q (pc + 3) ls ((ij w).1.toList ++ st) (ij w).2) : T E inj pc ls (a3 :: a2 :: a1 :: a0 :: st) M o := tq_S (As := [a0, a1, a2, a3]) hd hok hl rfl hs hf k
theorem tq_V5 {β : Type} {ij : β → Option Value × Mm} {fo : Option β} {a0 a1 a2 a3 a4 : Value} (hd : decode E.2.2.1 pc = .ok (.invokevirtual idx, 3)) (hok : mOk y b n rt 5 false) (hl : lnkOk E.2.1 idx y) (hr : rcvOk i y.cls) (hs : (st.map fun v => v.category).sum ≤ 8) (hf : ∀ Q, sat ij fo Q → E.1 y (.ref i :: [a0, a1, a2, a3, a4]) M Q) {o : Option α} (k : ∀ Q, sat inj o Q → ∃ w, fo = some w ∧ WPe E Q (pc + 3) ls ((ij w).1.toList ++ st) (ij w).2) : T E inj pc ls (a4 :: a3 :: a2 :: a1 :: a0 :: .ref i :: st) M o := tq_V (As := [a0, a1, a2, a3, a4]) hd hok hl rfl hr hs hf k
theorem tq_S5 {β : Type} {ij : β → Option Value × Mm} {fo : Option β} {a0 a1 a2 a3 a4 : Value} (hd : decode E.2.2.1 pc = .ok (.invokestatic idx, 3)) (hok : mOk y b n rt 5 true) (hl : lnkOk E.2.1 idx y) (hs : (st.map fun v => v.category).sum ≤ 8) (hf : ∀ Q, sat ij fo Q → E.1 y [a0, a1, a2, a3, a4] M Q) {o : Option α} (k : ∀ Q, sat inj o Q → ∃ w, fo = some w ∧ WPe E Q (pc + 3) ls ((ij w).1.toList ++ st) (ij w).2) : T E inj pc ls (a4 :: a3 :: a2 :: a1 :: a0 :: st) M o := tq_S (As := [a0, a1, a2, a3, a4]) hd hok hl rfl hs hf k
theorem tq_V6 {β : Type} {ij : β → Option Value × Mm} {fo : Option β} {a0 a1 a2 a3 a4 a5 : Value} (hd : decode E.2.2.1 pc = .ok (.invokevirtual idx, 3)) (hok : mOk y b n rt 6 false) (hl : lnkOk E.2.1 idx y) (hr : rcvOk i y.cls) (hs : (st.map fun v => v.category).sum ≤ 8) (hf : ∀ Q, sat ij fo Q → E.1 y (.ref i :: [a0, a1, a2, a3, a4, a5]) M Q) {o : Option α} (k : ∀ Q, sat inj o Q → ∃ w, fo = some w ∧ WPe E Q (pc + 3) ls ((ij w).1.toList ++ st) (ij w).2) : T E inj pc ls (a5 :: a4 :: a3 :: a2 :: a1 :: a0 :: .ref i :: st) M o := tq_V (As := [a0, a1, a2, a3, a4, a5]) hd hok hl rfl hr hs hf k
theorem tq_S6 {β : Type} {ij : β → Option Value × Mm} {fo : Option β} {a0 a1 a2 a3 a4 a5 : Value} (hd : decode E.2.2.1 pc = .ok (.invokestatic idx, 3)) (hok : mOk y b n rt 6 true) (hl : lnkOk E.2.1 idx y) (hs : (st.map fun v => v.category).sum ≤ 8) (hf : ∀ Q, sat ij fo Q → E.1 y [a0, a1, a2, a3, a4, a5] M Q) {o : Option α} (k : ∀ Q, sat inj o Q → ∃ w, fo = some w ∧ WPe E Q (pc + 3) ls ((ij w).1.toList ++ st) (ij w).2) : T E inj pc ls (a5 :: a4 :: a3 :: a2 :: a1 :: a0 :: st) M o := tq_S (As := [a0, a1, a2, a3, a4, a5]) hd hok hl rfl hs hf k
theorem tq_V7 {β : Type} {ij : β → Option Value × Mm} {fo : Option β} {a0 a1 a2 a3 a4 a5 a6 : Value} (hd : decode E.2.2.1 pc = .ok (.invokevirtual idx, 3)) (hok : mOk y b n rt 7 false) (hl : lnkOk E.2.1 idx y) (hr : rcvOk i y.cls) (hs : (st.map fun v => v.category).sum ≤ 8) (hf : ∀ Q, sat ij fo Q → E.1 y (.ref i :: [a0, a1, a2, a3, a4, a5, a6]) M Q) {o : Option α} (k : ∀ Q, sat inj o Q → ∃ w, fo = some w ∧ WPe E Q (pc + 3) ls ((ij w).1.toList ++ st) (ij w).2) : T E inj pc ls (a6 :: a5 :: a4 :: a3 :: a2 :: a1 :: a0 :: .ref i :: st) M o := tq_V (As := [a0, a1, a2, a3, a4, a5, a6]) hd hok hl rfl hr hs hf k
theorem tq_S7 {β : Type} {ij : β → Option Value × Mm} {fo : Option β} {a0 a1 a2 a3 a4 a5 a6 : Value} (hd : decode E.2.2.1 pc = .ok (.invokestatic idx, 3)) (hok : mOk y b n rt 7 true) (hl : lnkOk E.2.1 idx y) (hs : (st.map fun v => v.category).sum ≤ 8) (hf : ∀ Q, sat ij fo Q → E.1 y [a0, a1, a2, a3, a4, a5, a6] M Q) {o : Option α} (k : ∀ Q, sat inj o Q → ∃ w, fo = some w ∧ WPe E Q (pc + 3) ls ((ij w).1.toList ++ st) (ij w).2) : T E inj pc ls (a6 :: a5 :: a4 :: a3 :: a2 :: a1 :: a0 :: st) M o := tq_S (As := [a0, a1, a2, a3, a4, a5, a6]) hd hok hl rfl hs hf k
end TC
