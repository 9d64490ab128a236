def R_law : String := "BreathTownLaw"
def lw_P (b : Addr) (xs : List Int32) (args : Array Value) (s : State) : Prop := args = #[.ref b] ∧ s.IntsAt b xs ∧ xs.length ≤ 3072 ∧ (Jvm.Cond.and given_1 narrow_1).before args s = true
def lw_Q (_ : Array Value) (s : State) (o : Outcome) (t : State) : Prop := o = .returned (some (.int 1)) ∧ Framed s o t [] 600000 7302249
def lw_Z (below : List Frame) (a : Array Value) (s : State) : State → Prop := fun t => ∃ o, t.status = .running ∧ Ended t below o ∧ lw_Q a s o t
/-- the law's own end, with 1 on the stack, nothing written that was there before, its room as the claim has it -/
theorem lw_ret {p : Program} {l : Launch} {e : Env} {s : State} {m : MethodId} {below : List Frame} {meth : Method} {c : Code} {b : Nat} (hx : p.tables.exec = Jvm.exec) (hb : c.code = code) (hr : meth.sig.returnType = ret) (hlocks : meth.locks = false) {pc : Nat} {H : Heap} {ls : Array Slot} (hdg : decode code pc = .ok (.ireturn, 1)) : W p l e room_1 s m #[Value.ref b] below meth c H [] 600000 7302249 (lw_Z below #[Value.ref b] s) (F0 m pc ls [.int 1]) := by
  intro T hT X
  obtain ⟨fs, hret, hrun, hended, hW, hframe⟩ := X.leave (v := some (.int 1)) (hlocks := hlocks) (fun h => by rw [hr] at h; cases h)
  have hmeth' : T.vm.method? m = some meth := X.method'
  refine ⟨T.setFrames fs, ?_, .returned (some (.int 1)), hrun, hended, rfl, ⟨_, rfl⟩, hW, hframe⟩
  jvm_step X.here [X.here.top, hx, hb, hdg, hmeth', hr, ret, narrow_b1]
  (try refine ⟨rfl, ?_⟩); (try refine ⟨rfl, ?_⟩)
  first | (intro acts; rw [hret _ acts rfl rfl rfl]) | rw [hret _ _ rfl rfl rfl]
  exact Steps.refl _
/-- what holds at the law's entry: the machine, the code, the tables' words (any of lw_tbl by 'hts w (by decide +kernel)'), the script of L ints xs at the cell b, what the Statement gives of the start (any of its parts by flat_of_before) -/
def lw_At (p : Program) (s : State) (m : MethodId) (meth : Method) (c : Code) (b L : Nat) (xs : Nat → Int32) : Prop :=
  p.tables.exec = Jvm.exec ∧ c.code = code ∧ meth.sig.returnType = ret ∧ c.maxLocals = 4 ∧ s.vm.findClass R_law = some m.cls ∧ (∀ w ∈ lw_tbl, w.before #[Value.ref b] s = true) ∧ va_X b L xs s s.heap ∧ b < s.heap.size ∧ meth.locks = false ∧ (Jvm.Cond.and given_1 narrow_1).before #[Value.ref b] s = true
/-- the law from its loop's head on, out of the pure law -/
theorem law_loopW {p : Program} {e : Env} {s : State} {m : MethodId} {below : List Frame} {meth : Method} {c : Code} (l : Launch) {b L : Nat} {xs : Nat → Int32} {ad : Nat → Nat} {cA : Nat → ClassId} {D : va_G} (C0 : lw_At p s m meth c b L xs) (hK : va_K D classes (tys cA) s) (hStr : Strs ad (fun q => s.heap.size ≤ q) s s.heap) (h9 : ad 900 = b) {M0 M' : Mm} (hf : f_Law_law L xs 0 M0 = some (1, M')) {H : Heap} {locs : List Loc} {la : Array Slot} (hG : Gd s 4 ad cA D (fun q => s.heap.size ≤ q) [(0, .ref 900), (1, .ref 0), (2, .ref 78), (3, vI 0)] M0 H locs la) :
    W p l e room_1 s m #[Value.ref b] below meth c H locs 600000 7302249 (lw_Z below #[Value.ref b] s) (F0 m 18 la []) := by
  obtain ⟨hx, hb, hr, hml, hown, hts, hX, hbl, hlocks, hgv⟩ := C0
  have X : Cx p s m #[Value.ref b] c "BreathTownLaw" code 4 ad cA D (fun q => s.heap.size ≤ q) := ⟨hx, hb, hml, hown, fun w hw => hts w (List.mem_filter.mp hw).1, hK, hStr, fun _ h => h⟩
  have hs : True → va_X (ad 900) L xs s s.heap ∧ ad 900 < s.heap.size ∧ ¬ (s.heap.size ≤ ad 900) := fun _ => by rw [h9]; exact ⟨hX, hbl, Nat.not_le.mpr hbl⟩
  have hret : R_ret code (some .boolean) (fun v _ => v = some (vI 1)) (Zw p l e room_1 s m #[Value.ref b] below meth c 600000 7302249 (lw_Z below #[Value.ref b] s) 4 ad cA D (fun q => s.heap.size ≤ q)) := by
    intro pc ls M
    refine ⟨?_, ?_, ?_⟩
    · intro x hd hrt hq H locs la hG
      have e1 : x = 1 := by
        have := Option.some.inj hq
        exact Value.int.inj this
      subst e1
      refine va_forget (fun q hq => hG.2.2.1.2.2 q hq) ?_
      exact lw_ret hx hb hr hlocks hd
    · intro x hd hrt hq
      cases hrt
    · intro hd hrt hq
      cases hrt
  have key := w_Law_law L xs 0 M0 (fun v _ => v = some (vI 1)) ⟨(1, M'), hf, rfl⟩
  exact key _ (z_rules (l := l) (e := e) (R := room_1) (below := below) (meth := meth) (cells := 600000) (slots := 7302249) (Qf := lw_Z below #[Value.ref b] s) X (ct_met l _) ⟨Nat.le_of_ble_eq_true rfl, Nat.le_of_ble_eq_true rfl⟩ ⟨Nat.le_refl _, Nat.le_refl _⟩ hs hret) H locs la hG
