def Wy (cA : Nat → ClassId) (D : va_G) (wc : va_W) (sz : Nat) (U : State) : Prop := U.heap.size = sz ∧ va_P D classes wc U.heap ∧ va_K D classes (tys cA) U ∧ va_D (fun _ => True) wc ∧ NestF U
def Qy (D : va_G) (W1 : va_W → Prop) (A : Nat → Prop) : Array Value → State → Outcome → State → Prop := fun _ st oc t => (oc = .returned none ∧ ∃ w1, W1 w1 ∧ va_P D classes w1 t.heap ∧ va_D A w1) ∧ va_F A st t
/-- a constructor: from a world wc to one of W1 -/
def MetI (l : Launch) (y : MethodName) (b : ByteArray) (n : Nat) (rm : Room) (As : List Value) (wc : (Nat → ClassId) → va_W) (W1 : (Nat → ClassId) → va_W → Prop) : Prop :=
  ∀ (cA : Nat → ClassId) (D : va_G) (sz : Nat), Met l y (wsB y b n none) rm (va_Pc As (Wy cA D (wc cA) sz)) (Qy D (W1 cA) (va_A (wc cA) sz)) rm.cells rm.slots (va_A (wc cA) sz)
def iOk (y : MethodName) (b : ByteArray) (n np : Nat) : Prop :=
  Cond.code y b n none ∈ lw_tbl ∧ Cond.initialized y.cls ∈ lw_tbl ∧ (y.cls ≠ "java/lang/invoke/MethodHandle" ∧ y.cls ≠ "java/lang/invoke/VarHandle" ∧ (parseMethodDescriptor y.desc).map (fun d => d.parameters.length) = some np) ∧ plainFor y = true ∧ y.name = "<init>" ∧ Cond.instanceMethod y ∈ lw_tbl
theorem wy_blind {av : List Value} {cA : Nat → ClassId} {D : va_G} {wc : va_W} {sz : Nat} : FrameBlind (va_Pc av (Wy cA D wc sz)) :=
  fun a U g mk q => ⟨q.1, q.2.1, q.2.2.1, va_K.moved (u := U) (U := U.calling g mk a) (Vm.Alike.refl U.vm) q.2.2.2.1, q.2.2.2.2.1, fun o i y z hm => (q.2.2.2.2.2 o i y z hm).same rfl rfl⟩
theorem lw_goodI {y : MethodName} {b : ByteArray} {n np : Nat} (h : iOk y b n np) : GoodIn lw_G (wsB y b n none) := by
  intro w hw
  have hm : w ∈ lw_G := by
    rcases List.mem_cons.mp hw with rfl | hw
    · exact lw_g h.1 rfl
    · exact hw
  exact ⟨hm, good_of_word (List.mem_filter.mp hm).2⟩
section Y2
variable {p : Program} {l : Launch} {e : Env} {R : Room} {s : State} {m : MethodId} {args : Array Value} {below : List Frame} {meth : Method} {c : Code} {Qf : State → Prop} {own : String} {cc : ByteArray} {nL : Nat} {cA : Nat → ClassId} {D : va_G} {A : Nat → Prop} {cells slots pc : Nat} {ls ls' : List (Nat × Value)} {st : List Value} {ws : va_W}
theorem va_cally {W1 : va_W → Prop} {A0 A1 : Nat → Prop} {H0 H : Heap} {locs : List Loc} {mc ms : Nat} {free : Addr → Prop} {a : Array Value} {la : Array Slot} {st0 rest : List Value} (hr : va_Run p l e R s m args below meth c H locs cells slots mc ms (F0 m pc la st0) rest (Qy D W1 A1 a) free) (hS : va_S A0 H0 H locs) (hA : ∀ q, q < H.size → A1 q → A0 q) (hf : ∀ q, free q → A0 q)
    (kk : ∀ (w1 : va_W) (H1 : Heap) (locs1 : List Loc), W1 w1 → va_P D classes w1 H1 → va_D A1 w1 → (∀ q : Nat, q < H.size → ¬ A1 q → H1[q]? = H[q]?) → va_S A0 H0 H1 locs1 → W p l e R s m args below meth c H1 locs1 (cells + mc) (slots + ms) Qf (F0 m (pc + 3) la rest)) : W p l e R s m args below meth c H locs cells slots Qf (F0 m pc la st0) := by
  intro T hT X
  obtain ⟨v, st₀, t, T', L, h0, X', hL, e1, e2, ⟨⟨hv, w1, hw, hp, hd⟩, hz, hk⟩, st⟩ := hr T hT X
  cases hv
  rw [h0] at hz hk
  obtain ⟨t2, a1, b1⟩ := kk w1 T'.heap (locs ++ L) hw (by rw [e1]; exact hp) hd (fun q h1 h2 => by rw [e1]; exact hk q h1 h2)
    ⟨Nat.le_trans hS.1 (by rw [e1]; exact hz), fun q h1 h2 => by rw [e1, hk q (Nat.lt_of_lt_of_le h1 hS.1) (fun z => h2 (hA q (Nat.lt_of_lt_of_le h1 hS.1) z))]; exact hS.2.1 q h1 h2, fun q hq => by
      rcases List.mem_append.mp hq with h | h
      · exact hS.2.2 q h
      · exact hf _ (hL q h)⟩ T' rfl X'
  exact ⟨t2, st t2 a1, b1⟩
theorem y_call (X : Cy p s m args c own cc nL cA D A) {y : MethodName} {b : ByteArray} {n np idx a : Nat} {rm : Room} {As : List Value} {wc : (Nat → ClassId) → va_W} {W1 : (Nat → ClassId) → va_W → Prop} (hM : MetI l y b n rm (.ref a :: As) wc W1) (hok : iOk y b n np) (hl : lnkOk own idx y) (hd : decode cc pc = .ok (.invokespecial idx, 3)) (hn : As.length = np) (hsum : (st.map fun v => v.category).sum ≤ 8) (isC isR : List Nat) {wr : va_W} (hC : isC.map (fun i => ws[i]?) = (wc cA).map some) (hR : isR.map (fun i => ws[i]?) = wr.map some) (hnd : va_nd isR = true) (hdis : ∀ i ∈ isR, i ∉ isC) (hndC : va_nd isC = true)
    (hroom : rm.frames + 1 ≤ R.frames ∧ 8 + (n + 11) + rm.locals ≤ R.locals) (hcs : cells + rm.cells ≤ R.cells ∧ slots + rm.slots ≤ R.slots)
    (k : ∀ w1, W1 cA w1 → Yw p l e R s m args below meth c Qf nL D A (cells + rm.cells) (slots + rm.slots) (pc + 3) ls st (wr ++ w1)) : Yw p l e R s m args below meth c Qf nL D A cells slots pc ls (As.reverse ++ .ref a :: st) ws := by
  intro H locs la h1 h2 h3 h4
  obtain ⟨hx, hb, hml, hown, hts, hK, hN, hA⟩ := X
  have hwc : isC.filterMap (fun i => ws[i]?) = wc cA := by
    have : ∀ (is : List Nat) (w : va_W), is.map (fun i => ws[i]?) = w.map some → is.filterMap (fun i => ws[i]?) = w := by
      intro is
      induction is with
      | nil => intro w h; cases w with
        | nil => rfl
        | cons _ _ => cases h
      | cons i is ih => intro w h; cases w with
        | nil => cases h
        | cons x w =>
          simp only [List.map_cons, List.cons.injEq] at h
          rw [List.filterMap_cons, h.1]
          show x :: _ = _
          rw [ih w h.2]
    exact this _ _ hC
  have hPc := h1.sub isC hwc
  have hDc := h2.sub isC hndC hC
  have hFc : ∀ q, va_A (wc cA) H.size q → A q := va_free h2 h3 hA isC hC
  have hp : PreS s H (va_Pc (.ref a :: As) (Wy cA D (wc cA) H.size)) (.ref a :: As) := ⟨wy_blind, fun U hU hW => ⟨rfl, by rw [hU], by rw [hU]; exact hPc, va_K.moved hW.alike hK, hDc.weaken (fun _ _ _ _ => trivial), fun o i y z hm => (hN o i y z hm).warmM hW⟩⟩
  have hini : (Cond.initialized y.cls).before args s = true := hts _ (lw_g hok.2.1 rfl)
  have hin : (Cond.instanceMethod y).before args s = true := hts _ (lw_g hok.2.2.2.2.2 rfl)
  have hW : 2 * (F0 m pc la (As.reverse ++ Value.ref a :: st)).monitorRoom + (st.map fun v => v.category).sum ≤ 8 := lv_room hsum
  have hrun : va_Run p l e R s m args below meth c H locs cells slots rm.cells rm.slots (F0 m pc la (As.reverse ++ Value.ref a :: st)) st (Qy D (W1 cA) (va_A (wc cA) H.size) (Value.ref a :: As).toArray) (va_A (wc cA) H.size) := by
    rcases hl with hl | ⟨host, hl⟩
    · exact va_runI (As := As) (rest := st) ⟨hx, hb, hml, hown, hts⟩ (hM cA D H.size) ⟨callB_of np hts (lw_goodI hok) rfl rfl rfl hini (hts _ (lw_g hl rfl)) hok.2.2.1 hroom, hok.2.2.2.2.1, hin⟩ hp rfl hn h4.1 rfl hW hd hcs
    · exact va_runIN (As := As) (rest := st) ⟨hx, hb, hml, hown, hts⟩ (hM cA D H.size) ⟨va_cnB np hts (lw_goodI hok) rfl rfl rfl (hN _ _ _ _ hl) hini hok.2.2.1 hroom, hok.2.2.2.2.1, hin⟩ hp rfl hn h4.1 rfl hW hd hcs
  refine va_cally hrun h3 (fun q _ h => hFc q h) hFc fun w1 H1 locs1 hw g1 g2 hk g3 => ?_
  obtain ⟨j1, j2⟩ := va_join (wr := wr) h1 h2 isC isR hC hR hnd hdis hk hFc g1 g2
  exact k w1 hw H1 locs1 la j1 j2 g3 h4
theorem y_vret (hx : p.tables.exec = Jvm.exec) (hb : c.code = cc) (hr : meth.sig.returnType = none) (hlocks : meth.locks = false) {W1 : va_W → Prop} {mc ms : Nat} (hd : decode cc pc = .ok (.return_, 1)) (hc : cells ≤ mc ∧ slots ≤ ms) (hw : W1 ws) : Yw p l e R s m args below meth c (MQ below (Qy D W1 A) args s mc ms A) nL D A cells slots pc ls [] ws := by
  intro H locs la h1 h2 h3 h4
  refine W.widen (k := mc) (n := ms) hc.1 hc.2 ?_
  exact W.vret hx hb hr (fun t ht hW => ⟨⟨rfl, ws, hw, by rw [ht]; exact h1, h2⟩, h3.F ht⟩) h3.2.2 hd
end Y2
theorem metI_of {l : Launch} {y : MethodName} {b : ByteArray} {n np : Nat} {rm : Room} {As : List Value} {wc : (Nat → ClassId) → va_W} {W1 : (Nat → ClassId) → va_W → Prop} (hok : iOk y b n np) (hlen : (lg_sl As).length ≤ n)
    (body : ∀ (p : Program) (e : Env) (s : State) (m : MethodId) (args : Array Value) (below : List Frame) (meth : Method) (c : Code) (cA : Nat → ClassId) (D : va_G) (A : Nat → Prop), Cy p s m args c y.cls b n cA D A → meth.name = "<init>" → meth.sig.returnType = none → meth.locks = false → Yw p l e rm s m args below meth c (MQ below (Qy D (W1 cA) A) args s rm.cells rm.slots A) n D A 0 0 0 (lv_args 0 As) [] (wc cA)) : MetI l y b n rm As wc W1 := by
  intro cA D sz
  refine met_ofW (cc := b) (maxL := n) (ret := none) hok.2.2.2.1 rfl ?_
  intro p e s m args below meth c s₁ B hml hv
  obtain ⟨rfl, hsz, hP, hK, hD0, hN⟩ := hv
  have hts := atoms_spec (ws := wsB y b n none) B.pre
  have hown : s.vm.findClass y.cls = some m.cls := findClass_of_methodNamed B.named
  have hin : meth.name = "<init>" := (name_of_methodNamed B.named B.method).1.trans hok.2.2.2.2.1
  subst hsz
  have hA : ∀ q : Nat, s.heap.size ≤ q → va_A (wc cA) s.heap.size q := fun q h => Or.inr h
  have X : Cy p s m As.toArray c y.cls b n cA D (va_A (wc cA) s.heap.size) := ⟨B.exec, B.bytes, hml, hown, fun w hw => hts w (List.mem_cons_of_mem _ hw), hK, hN, hA⟩
  rw [lg_entry_eq]
  exact body p e s m _ below meth c cA D _ X hin B.returns B.notSynchronized s.heap [] _ hP (hD0.self (sz := s.heap.size)) va_S.rf (lv_entry As hlen)
