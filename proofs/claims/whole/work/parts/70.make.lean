/-- what holds beside the world while cells are made -/
def Cy (p : Program) (s : State) (m : MethodId) (args : Array Value) (c : Code) (own : String) (cc : ByteArray) (nL : Nat) (cA : Nat → ClassId) (D : va_G) (A : Nat → Prop) : Prop :=
  p.tables.exec = Jvm.exec ∧ c.code = cc ∧ c.maxLocals = nL ∧ s.vm.findClass own = some m.cls ∧ (∀ w ∈ lw_G, w.before args s = true) ∧ va_K D classes (tys cA) s ∧ NestF s ∧ (∀ q, s.heap.size ≤ q → A q)
/-- a place in a body that makes cells: its world is a list, with true addresses -/
def Yw (p : Program) (l : Launch) (e : Env) (R : Room) (s : State) (m : MethodId) (args : Array Value) (below : List Frame) (meth : Method) (c : Code) (Qf : State → Prop) (nL : Nat) (D : va_G) (A : Nat → Prop) (cells slots pc : Nat) (ls : List (Nat × Value)) (st : List Value) (ws : va_W) : Prop :=
  ∀ (H : Heap) (locs : List Loc) (la : Array Slot), va_P D classes ws H → va_D A ws → va_S A s.heap H locs → lv_has la nL ls → W p l e R s m args below meth c H locs cells slots Qf (F0 m pc la st)
section Y1
variable {p : Program} {l : Launch} {e : Env} {R : Room} {s : State} {m : MethodId} {args : Array Value} {below : List Frame} {meth : Method} {c : Code} {Qf : State → Prop} {own : String} {cc : ByteArray} {nL : Nat} {cA : Nat → ClassId} {D : va_G} {A : Nat → Prop} {cells slots pc : Nat} {ls ls' : List (Nat × Value)} {st : List Value} {ws : va_W}
theorem y_aload_n (X : Cy p s m args c own cc nL cA D A) (j : Nat) {q : Fin 4} {a : Nat} (hd : decode cc pc = .ok (.aload_n q, 1)) (hl : ls[j]? = some (q.val, .ref a)) (k : Yw p l e R s m args below meth c Qf nL D A cells slots (pc + 1) ls (.ref a :: st) ws) : Yw p l e R s m args below meth c Qf nL D A cells slots pc ls st ws :=
  fun H locs la h1 h2 h3 h4 => lv_aload_n X.1 X.2.1 hd rfl (lv_at h4 j hl) (k H locs la h1 h2 h3 h4)
theorem y_aload (X : Cy p s m args c own cc nL cA D A) (j : Nat) {q : Nat} {a : Nat} (hd : decode cc pc = .ok (.aload q, 2)) (hl : ls[j]? = some (q, .ref a)) (k : Yw p l e R s m args below meth c Qf nL D A cells slots (pc + 2) ls (.ref a :: st) ws) : Yw p l e R s m args below meth c Qf nL D A cells slots pc ls st ws :=
  fun H locs la h1 h2 h3 h4 => lv_aload X.1 X.2.1 hd (lv_at h4 j hl) (k H locs la h1 h2 h3 h4)
theorem y_iload_n (X : Cy p s m args c own cc nL cA D A) (j : Nat) {q : Fin 4} {x : Int32} (hd : decode cc pc = .ok (.iload_n q, 1)) (hl : ls[j]? = some (q.val, .int x)) (k : Yw p l e R s m args below meth c Qf nL D A cells slots (pc + 1) ls (.int x :: st) ws) : Yw p l e R s m args below meth c Qf nL D A cells slots pc ls st ws :=
  fun H locs la h1 h2 h3 h4 => lv_iload_n X.1 X.2.1 hd rfl (lv_at h4 j hl) (k H locs la h1 h2 h3 h4)
theorem y_iconst (X : Cy p s m args c own cc nL cA D A) {z : Int} (hd : decode cc pc = .ok (.iconst z, 1)) (k : Yw p l e R s m args below meth c Qf nL D A cells slots (pc + 1) ls (vI z :: st) ws) : Yw p l e R s m args below meth c Qf nL D A cells slots pc ls st ws :=
  fun H locs la h1 h2 h3 h4 => lv_iconst X.1 X.2.1 hd rfl (k H locs la h1 h2 h3 h4)
theorem y_bipush (X : Cy p s m args c own cc nL cA D A) {z : Int} (hd : decode cc pc = .ok (.bipush z, 2)) (g1 : -128 ≤ z) (g2 : z ≤ 127) (k : Yw p l e R s m args below meth c Qf nL D A cells slots (pc + 2) ls (vI z :: st) ws) : Yw p l e R s m args below meth c Qf nL D A cells slots pc ls st ws :=
  fun H locs la h1 h2 h3 h4 => lv_bipush X.1 X.2.1 hd (n_bi g1 g2) (k H locs la h1 h2 h3 h4)
theorem y_sipush (X : Cy p s m args c own cc nL cA D A) {z : Int} (hd : decode cc pc = .ok (.sipush z, 3)) (g1 : -32768 ≤ z) (g2 : z ≤ 32767) (k : Yw p l e R s m args below meth c Qf nL D A cells slots (pc + 3) ls (vI z :: st) ws) : Yw p l e R s m args below meth c Qf nL D A cells slots pc ls st ws :=
  fun H locs la h1 h2 h3 h4 => lv_sipush X.1 X.2.1 hd (n_si g1 g2) (k H locs la h1 h2 h3 h4)
theorem y_lconst1 (X : Cy p s m args c own cc nL cA D A) (hd : decode cc pc = .ok (.lconst 1, 1)) (k : Yw p l e R s m args below meth c Qf nL D A cells slots (pc + 1) ls (vJ 1 :: st) ws) : Yw p l e R s m args below meth c Qf nL D A cells slots pc ls st ws :=
  fun H locs la h1 h2 h3 h4 => lv_lconst X.1 X.2.1 hd rfl (k H locs la h1 h2 h3 h4)
theorem y_dup (X : Cy p s m args c own cc nL cA D A) {v : Value} (hd : decode cc pc = .ok (.dup, 1)) (hv : v.category = 1) (k : Yw p l e R s m args below meth c Qf nL D A cells slots (pc + 1) ls (v :: v :: st) ws) : Yw p l e R s m args below meth c Qf nL D A cells slots pc ls (v :: st) ws :=
  fun H locs la h1 h2 h3 h4 => lv_dup X.1 X.2.1 hd hv (k H locs la h1 h2 h3 h4)
theorem y_objInit (X : Cy p s m args c own cc nL cA D A) {idx a : Nat} (hd : decode cc pc = .ok (.invokespecial idx, 3)) (hl : Cond.methodLink own idx Lib.objectInit ∈ lw_tbl) (hf : 1 ≤ R.frames) (hlo : (st.map fun v => v.category).sum + 12 ≤ R.locals) (k : Yw p l e R s m args below meth c Qf nL D A cells slots (pc + 3) ls st ws) : Yw p l e R s m args below meth c Qf nL D A cells slots pc ls (.ref a :: st) ws := by
  intro H locs la h1 h2 h3 h4
  have hi : Cond.instanceMethod Lib.objectInit ∈ lw_tbl := in_1 (List.mem_of_getElem? (i := 25) rfl)
  have hc : Cond.code Lib.objectInit ⟨#[0xb1]⟩ 1 none ∈ lw_tbl := in_1 (List.mem_of_getElem? (i := 26) (by decide +kernel))
  refine W.objInit X.1 X.2.1 X.2.2.2.1 (X.2.2.2.2.1 _ (lw_g hl rfl)) (X.2.2.2.2.1 _ (lw_g hi rfl)) (X.2.2.2.2.1 _ (lw_g hc rfl)) rfl (by rw [X.2.2.1]; exact h4.1) rfl hd hf (by show 2 * 0 + _ + 12 ≤ _; omega) ?_
  exact k H locs la h1 h2 h3 h4
theorem y_new (X : Cy p s m args c own cc nL cA D A) {idx ci N : Nat} {C : String} {T : u_T} {ty : Nat → FieldType} {fs : List Value} (hd : decode cc pc = .ok (.new idx, 3)) (hc : classes[ci]? = some (C, T, N)) (hty : ∀ k, k < N → parseFieldDescriptor (T k).2.2.1 = some (ty k)) (hw : Cond.classLink own idx C ∈ lw_tbl ∧ Cond.instantiable C N ∈ lw_tbl ∧ Cond.initialized C ∈ lw_tbl) (hfs : ∀ j, j < N → defaultValue (ty j) = vp_V fs j) (hce : cells + 1 ≤ R.cells) (hsl : slots + N ≤ R.slots) (k : ∀ q : Nat, Yw p l e R s m args below meth c Qf nL D A (cells + 1) (slots + N) (pc + 3) ls (.ref q :: st) (ws ++ [(q, .inr (ci, fs))])) : Yw p l e R s m args below meth c Qf nL D A cells slots pc ls st ws := by
  intro H locs la h1 h2 h3 h4
  obtain ⟨hx, hb, hml, hown, hts, hK, hN, hA⟩ := X
  exact va_new (ci := ci) hx hb hts (cls_g hc) ty hty hown (hts _ (lw_g hw.1 rfl)) (hts _ (lw_g hw.2.1 rfl)) (hts _ (lw_g hw.2.2 rfl)) hK h1 h2 h3 hA hc hfs hce hsl hd (fun q H1 g1 g2 g3 => k q H1 locs la g1 g2 g3 h4)
theorem ty_eq {cA : Nat → ClassId} {ty : FieldType} {c' : ClassId} {t0 : Nat} {k : Nat} (hK : va_K D classes (tys cA) s) (hk : (tys cA)[t0]? = some (cA k, ty)) (hp : ty = .int ∨ ty = .long ∨ ty = .boolean ∨ ty = .char) (h : va_K D classes (tys cA ++ [(c', ty)]) s) : c' = cA k := by
  have h1 := (hK.2 t0 _ hk).2
  have h2 := (h.2 4 (c', ty) rfl).2
  rcases hp with rfl | rfl | rfl | rfl <;> exact Option.some.inj (h2.symm.trans h1)
theorem y_newa (X : Cy p s m args c own cc nL cA D A) {at' : ArrayType} {ty : FieldType} (t0 kd : Nat) {z : Int} {n : Nat} {a0 : vp_A} (hd : decode cc pc = .ok (.newarray at', 2)) (hw : Cond.arrayClass (newarray.typeOf at') ∈ lw_tbl) (hty : newarray.typeOf at' = ty) (hk : (tys cA)[t0]? = some (cA kd, ty)) (hp : ty = .int ∨ ty = .long ∨ ty = .boolean ∨ ty = .char) (ha : ∀ cA : ClassId, vp_cell cA a0 = arrV cA n (fun _ => defaultValue ty)) (hz : z = (n : Int) ∧ n < 20000) (hce : cells + 1 ≤ R.cells) (hsl : slots + n ≤ R.slots) (k : ∀ q : Nat, Yw p l e R s m args below meth c Qf nL D A (cells + 1) (slots + n) (pc + 2) ls (.ref q :: st) (ws ++ [(q, .inl (cA kd, a0))])) : Yw p l e R s m args below meth c Qf nL D A cells slots pc ls (vI z :: st) ws := by
  intro H locs la h1 h2 h3 h4
  obtain ⟨hx, hb, hml, hown, hts, hK, hN, hA⟩ := X
  obtain ⟨rfl, hn⟩ := hz
  have e0 : Int32.ofInt (n : Int) = nI n := rfl
  refine va_newa (N' := n) (a0 := a0) hx hb (hts _ (lw_g hw (by cases at' <;> rfl))) hty hK h1 h2 h3 hA ha (by rw [e0]; exact nI_pos (by omega)) (by rw [e0]; exact nI_clamp (by omega)) ?_ hce hsl hd (fun q c' H1 g0 g1 g2 g3 => ?_)
  · have : componentBytes ty ≤ 8 := by rcases hp with rfl | rfl | rfl | rfl <;> decide
    have : n * componentBytes ty ≤ n * 8 := Nat.mul_le_mul_left _ this
    omega
  · have := ty_eq hK hk hp g0
    subst this
    exact k q H1 locs la g1 g2 g3 h4
theorem y_putF (X : Cy p s m args c own cc nL cA D A) {idx ci k0 a N : Nat} {C : String} {T : u_T} {ty : FieldType} {v : Value} {fs : List Value} (q0 : Nat) (hd : decode cc pc = .ok (.putfield idx, 3)) (he : ws[q0]? = some (a, .inr (ci, fs))) (hc : classes[ci]? = some (C, T, N)) (hk : k0 < N) (hl : Cond.fieldLink own idx C (T k0).2.1 (T k0).2.2.1 ∈ lw_tbl) (hfin : (T k0).2.2.2 = true ∧ (T k0).1 = C ∧ C = own) (hin : meth.name = "<init>") (hty : parseFieldDescriptor (T k0).2.2.1 = some ty) (hn : narrow ty v = v) (hf : fits ty v = true) (hlen : k0 < fs.length) (k : Yw p l e R s m args below meth c Qf nL D A cells slots (pc + 3) ls st (ws.set q0 (a, .inr (ci, fs.set k0 v)))) : Yw p l e R s m args below meth c Qf nL D A cells slots pc ls (v :: .ref a :: st) ws := by
  intro H locs la h1 h2 h3 h4
  obtain ⟨hx, hb, hml, hown, hts, hK, hN, hA⟩ := X
  obtain ⟨-, ⟨ty0, q2⟩, q3⟩ := cls_in hc
  exact va_putF (ref := C) hx hb hts (cls_g hc) ty0 q2 q3 hown hK h1 h2 h3 q0 he hc k0 hk (hts _ (lw_g hl rfl)) (by rw [hfin.2.1]; exact fun _ h => h) hfin.1 hin (hfin.2.1.trans hfin.2.2) hty hn hf hlen hd (fun H1 locs1 g1 g2 g3 => k H1 locs1 la g1 g2 g3 h4)
theorem y_put (X : Cy p s m args c own cc nL cA D A) {idx ci k0 a N : Nat} {C : String} {T : u_T} {ty : FieldType} {v : Value} {fs : List Value} (q0 : Nat) (hd : decode cc pc = .ok (.putfield idx, 3)) (he : ws[q0]? = some (a, .inr (ci, fs))) (hc : classes[ci]? = some (C, T, N)) (hk : k0 < N) (hl : Cond.fieldLink own idx C (T k0).2.1 (T k0).2.2.1 ∈ lw_tbl) (hfin : (T k0).2.2.2 = false ∧ (T k0).1 = C) (hty : parseFieldDescriptor (T k0).2.2.1 = some ty) (hn : narrow ty v = v) (hf : fits ty v = true) (hlen : k0 < fs.length) (k : Yw p l e R s m args below meth c Qf nL D A cells slots (pc + 3) ls st (ws.set q0 (a, .inr (ci, fs.set k0 v)))) : Yw p l e R s m args below meth c Qf nL D A cells slots pc ls (v :: .ref a :: st) ws := by
  intro H locs la h1 h2 h3 h4
  obtain ⟨hx, hb, hml, hown, hts, hK, hN, hA⟩ := X
  obtain ⟨-, ⟨ty0, q2⟩, q3⟩ := cls_in hc
  exact va_put (ref := C) hx hb hts (cls_g hc) ty0 q2 q3 hown hK h1 h2 h3 q0 he hc k0 hk (hts _ (lw_g hl rfl)) (by rw [hfin.2]; exact fun _ h => h) hfin.1 hty hn hf hlen hd (fun H1 locs1 g1 g2 g3 => k H1 locs1 la g1 g2 g3 h4)
theorem y_get (X : Cy p s m args c own cc nL cA D A) {idx ci k0 a N : Nat} {C : String} {T : u_T} {v : Value} {fs : List Value} (q0 : Nat) (hd : decode cc pc = .ok (.getfield idx, 3)) (he : ws[q0]? = some (a, .inr (ci, fs))) (hc : classes[ci]? = some (C, T, N)) (hk : k0 < N) (hl : Cond.fieldLink own idx C (T k0).2.1 (T k0).2.2.1 ∈ lw_tbl) (hs : (T k0).1 = C) (hv : fs[k0]? = some v) (k : Yw p l e R s m args below meth c Qf nL D A cells slots (pc + 3) ls (v :: st) ws) : Yw p l e R s m args below meth c Qf nL D A cells slots pc ls (.ref a :: st) ws := by
  intro H locs la h1 h2 h3 h4
  obtain ⟨hx, hb, hml, hown, hts, hK, hN, hA⟩ := X
  exact va_get (ref := C) hx hb hts (cls_g hc) hown hK h1 q0 he hc k0 hk (hts _ (lw_g hl rfl)) (by rw [hs]; exact fun _ h => h) hv hd (k H locs la h1 h2 h3 h4)
theorem y_cast (X : Cy p s m args c own cc nL cA D A) {a n : Nat} {f : Nat → Int32} (q0 j w : Nat) {x z : Int} (hd : decode cc pc = .ok (.castore, 1)) (he : ws[q0]? = some (a, .inl (cA 23, n, .inl f))) (hx0 : x = (j : Int) ∧ j < n ∧ n < 20000) (hz : z = (w : Int) ∧ w < 65536) (k : Yw p l e R s m args below meth c Qf nL D A cells slots (pc + 1) ls st (ws.set q0 (a, .inl (cA 23, n, .inl (upd f j (nI w)))))) : Yw p l e R s m args below meth c Qf nL D A cells slots pc ls (vI z :: vI x :: .ref a :: st) ws := by
  intro H locs la h1 h2 h3 h4
  obtain ⟨hx, hb, hml, hown, hts, hK, hN, hA⟩ := X
  obtain ⟨rfl, hj, hj2⟩ := hx0
  obtain ⟨rfl, hw⟩ := hz
  have e1 : (Int32.ofInt (j : Int)).toNatClampNeg = j := nI_clamp (n := j) (by omega)
  have e2 : vp_nar .char (Int32.ofInt (w : Int)) = nI w := by
    have := (pk_charN hw).1
    show vp_nar .char (nI w) = nI w
    unfold vp_nar
    rw [this]
  refine va_cast (f := f) (n := n) hx hb hK h1 h2 h3 q0 3 he rfl (vp_in_nI (n := j) hj (by omega)) hd (fun H1 locs1 g1 g2 g3 => ?_)
  rw [e1, e2] at g1 g2
  exact k H1 locs1 la g1 g2 g3 h4
theorem y_perm (js : List Nat) {ws' : va_W} (hn : va_nd js = true) (h : js.filterMap (fun i => ws[i]?) = ws') (hm : js.map (fun i => ws[i]?) = ws'.map some) (k : Yw p l e R s m args below meth c Qf nL D A cells slots pc ls st ws') : Yw p l e R s m args below meth c Qf nL D A cells slots pc ls st ws :=
  fun H locs la h1 h2 h3 h4 => k H locs la (h1.sub js h) (h2.sub js hn hm) h3 h4
end Y1
