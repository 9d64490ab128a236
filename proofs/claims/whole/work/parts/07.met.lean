def Qg (Q : Option Value → Mm → Prop) (B : Mm → State → Prop) (A : Nat → Prop) : Array Value → State → Outcome → State → Prop := fun _ st oc t =>
  (∃ (v : Option Value) (u : Mm), oc = .returned v ∧ (∀ x ∈ v.toList, ∀ ad, cv ad x = x) ∧ Q v u ∧ B u t) ∧ va_F A st t
def Wl (ad : Nat → Nat) (cA : Nat → ClassId) (D : va_G) (M : Mm) (sz : Nat) (U : State) : Prop :=
  U.heap.size = sz ∧ va_P D classes (wd ad cA M) U.heap ∧ va_K D classes (tys cA) U ∧ va_D (fun _ => True) (wd ad cA M) ∧ Strs ad (va_A (wd ad cA M) sz) U U.heap
def Bl (ad : Nat → Nat) (cA : Nat → ClassId) (D : va_G) (M : Mm) (sz : Nat) (M' : Mm) (t : State) : Prop :=
  va_P D classes (wd ad cA M') t.heap ∧ va_D (va_A (wd ad cA M) sz) (wd ad cA M')
def rmd (d : Nat) : Room := { frames := d, cells := 0, slots := 0, locals := 60 * d }
def wsB (y : MethodName) (b : ByteArray) (n : Nat) (rt : Option FieldType) : List Cond := Cond.code y b n rt :: lw_G
def MetC (l : Launch) (d : Nat) (C : Ctr) : Prop := ∀ y As M Q, C y As M Q → ∃ b n rt np stt, mOk y b n rt np stt ∧ ∀ (ad : Nat → Nat) (cA : Nat → ClassId) (D : va_G) (sz : Nat),
  Met l y (wsB y b n rt) (rmd d) (va_Pc (As.map (cv ad)) (Wl ad cA D M sz)) (Qg Q (Bl ad cA D M sz) (va_A (wd ad cA M) sz)) 0 0 (va_A (wd ad cA M) sz)
theorem wl_blind {av : List Value} {ad : Nat → Nat} {cA : Nat → ClassId} {D : va_G} {M : Mm} {sz : Nat} : FrameBlind (va_Pc av (Wl ad cA D M sz)) :=
  fun a U g mk q => ⟨q.1, q.2.1, q.2.2.1, va_K.moved (u := U) (U := U.calling g mk a) (Vm.Alike.refl U.vm) q.2.2.2.1, q.2.2.2.2.1, Strs.calling g mk a q.2.2.2.2.2⟩
theorem lw_good {y : MethodName} {b : ByteArray} {n np : Nat} {rt : Option FieldType} {stt : Bool} (h : mOk y b n rt np stt) : GoodIn lw_G (wsB y b n rt) := by
  intro w hw
  have hm : w ∈ lw_G := by
    rcases List.mem_cons.mp hw with rfl | hw
    · exact lw_g h.1 rfl
    · exact hw
  exact ⟨hm, good_of_word (List.mem_filter.mp hm).2⟩
section VG
variable {p : Program} {l : Launch} {e : Env} {R : Room} {s : State} {m : MethodId} {args : Array Value} {below : List Frame} {meth : Method} {c : Code} {H : Heap} {locs : List Loc} {cells slots : Nat} {Q : State → Prop}
variable {pc : Nat} {ls : Array Slot} {rest st0 : List Value} {a : Array Value} {A0 A1 : Nat → Prop} {H0 : Heap} {mc ms : Nat} {free : Addr → Prop}
theorem va_callg {Qv : Option Value → Mm → Prop} {B : Mm → State → Prop} (hr : va_Run p l e R s m args below meth c H locs cells slots mc ms (F0 m pc ls st0) rest (Qg Qv B A1 a) free) (hS : va_S A0 H0 H locs) (hA : ∀ q, q < H.size → A1 q → A0 q) (hf : ∀ q, free q → A0 q)
    (kk : ∀ (v : Option Value) (u : Mm) (t : State) (H1 : Heap) (locs1 : List Loc), t.heap = H1 → s.vm.Alike t.vm → (∀ x ∈ v.toList, ∀ ad, cv ad x = x) → Qv v u → B u t → H.size ≤ H1.size → (∀ q : Nat, q < H.size → ¬ A1 q → H1[q]? = H[q]?) → va_S A0 H0 H1 locs1 → W p l e R s m args below meth c H1 locs1 (cells + mc) (slots + ms) Q (F0 m (pc + 3) ls (v.toList ++ rest))) : W p l e R s m args below meth c H locs cells slots Q (F0 m pc ls st0) := by
  intro T hT X
  obtain ⟨v, st₀, t, T', L, h0, X', hL, e1, e2, ⟨⟨v', u, hv, hn, hp, hb⟩, hz, hk⟩, st⟩ := hr T hT X
  cases hv
  rw [h0] at hz hk
  obtain ⟨t2, a1, b1⟩ := kk v u t T'.heap (locs ++ L) e1.symm (by rw [← e2]; exact X'.warmed.alike) hn hp hb (by rw [e1]; exact hz) (fun q h1 h2 => by rw [e1]; exact hk q h1 h2)
    ⟨Nat.le_trans hS.1 (by rw [e1]; exact hz), fun q h1 h2 => by rw [e1, hk q (Nat.lt_of_lt_of_le h1 hS.1) (fun z => h2 (hA q (Nat.lt_of_lt_of_le h1 hS.1) z))]; exact hS.2.1 q h1 h2, fun q hq => by
      rcases List.mem_append.mp hq with h | h
      · exact hS.2.2 q h
      · exact hf _ (hL q h)⟩ T' rfl X'
  exact ⟨t2, st t2 a1, b1⟩
end VG
section Z3
variable {p : Program} {l : Launch} {e : Env} {R : Room} {s : State} {m : MethodId} {args : Array Value} {below : List Frame} {meth : Method} {c : Code} {cells slots : Nat} {Qf : State → Prop} {own : String} {cc : ByteArray} {nL : Nat} {ad : Nat → Nat} {cA : Nat → ClassId} {D : va_G} {A : Nat → Prop}
/-- what a caller has in hand at a call -/
theorem z_pre (X : Cx p s m args c own cc nL ad cA D A) {M : Mm} {H : Heap} {locs : List Loc} {la : Array Slot} {ls : List (Nat × Value)} (hG : Gd s nL ad cA D A ls M H locs la) (av : List Value) : (∀ q, va_A (wd ad cA M) H.size q → A q) ∧ ∀ U : State, U.heap = H → s.WarmedH U.vm → va_Pc av (Wl ad cA D M H.size) av.toArray U := by
  obtain ⟨hx, hb, hml, hown, hts, hK, hstr, hA⟩ := X
  obtain ⟨g1, g2, g3, g4⟩ := hG
  have hF : ∀ q, va_A (wd ad cA M) H.size q → A q := by
    intro q h
    rcases h with ⟨k, e, h⟩ | h
    · exact g2.2 k (q, e) h
    · exact hA q (Nat.le_trans g3.1 h)
  refine ⟨hF, fun U hU hW => ⟨rfl, by rw [hU], by rw [hU]; exact g1, va_K.moved hW.alike hK, g2.weaken (fun _ _ _ _ => trivial), hstr.to hW (fun a h1 h2 => by rw [hU]; exact g3.2.1 a h1 h2) hF⟩⟩
theorem z_after (X : Cx p s m args c own cc nL ad cA D A) {M u : Mm} {H H1 : Heap} {locs locs1 : List Loc} {la : Array Slot} {ls : List (Nat × Value)} (hG : Gd s nL ad cA D A ls M H locs la) {t : State} (ht : t.heap = H1) (hB : Bl ad cA D M H.size u t) (hS : va_S A s.heap H1 locs1) (hF : ∀ q, va_A (wd ad cA M) H.size q → A q) : Gd s nL ad cA D A ls u H1 locs1 la := by
  obtain ⟨b1, b2⟩ := hB
  rw [ht] at b1
  exact ⟨b1, b2.weaken (fun k q _ h => hF q.1 h), hS, hG.2.2.2⟩
theorem lnk_of (X : Cx p s m args c own cc nL ad cA D A) {d : Nat} {idx : Nat} {y : MethodName} {b : ByteArray} {n np : Nat} {rt : Option FieldType} {stt : Bool} (hok : mOk y b n rt np stt) (hl : lnkOk own idx y) (hR : d + 1 ≤ R.frames ∧ 60 + 60 * d ≤ R.locals) :
    CallB R s args own idx y b n rt (wsB y b n rt) (rmd d) 0 0 np ∨ ∃ host, va_CN R s args own idx y host b n rt (wsB y b n rt) (rmd d) 0 0 np := by
  obtain ⟨hx, hb, hml, hown, hts, hK, hstr, hA⟩ := X
  obtain ⟨o1, o2, o3, o4, o5, o6⟩ := id hok
  have hR2 : (rmd d).frames + 1 ≤ R.frames ∧ 8 + (n + 11) + (rmd d).locals ≤ R.locals := ⟨hR.1, by have := hR.2; show 8 + (n + 11) + 60 * d ≤ R.locals; omega⟩
  rcases hl with hl | ⟨host, hl⟩
  · exact Or.inl (callB_of np hts (lw_good hok) rfl rfl rfl (hts _ (lw_g o2 rfl)) (hts _ (lw_g hl rfl)) o3 hR2)
  · refine Or.inr ⟨host, va_cnB np hts (lw_good hok) rfl rfl rfl (hstr.2.2.2.2 _ _ _ _ hl) (hts _ (lw_g o2 rfl)) o3 hR2⟩
end Z3
section Z4
variable {p : Program} {l : Launch} {e : Env} {R : Room} {s : State} {m : MethodId} {args : Array Value} {below : List Frame} {meth : Method} {c : Code} {cells slots : Nat} {Qf : State → Prop} {own : String} {cc : ByteArray} {nL : Nat} {ad : Nat → Nat} {cA : Nat → ClassId} {D : va_G} {A : Nat → Prop}
theorem np_eq {y : MethodName} {b b' : ByteArray} {n n' np np' : Nat} {rt rt' : Option FieldType} {stt stt' : Bool} (h : mOk y b n rt np stt) (h' : mOk y b' n' rt' np' stt') : np = np' := by
  have e := h.2.2.1.2.2
  rw [h'.2.2.1.2.2] at e
  exact (Option.some.inj e).symm
theorem z_call (X : Cx p s m args c own cc nL ad cA D A) {d : Nat} {C : Ctr} (hC : MetC l d C) (hR : d + 1 ≤ R.frames ∧ 60 + 60 * d ≤ R.locals) (hf : cells ≤ R.cells ∧ slots ≤ R.slots) : R_call C own cc (Zw p l e R s m args below meth c cells slots Qf nL ad cA D A) := by
  intro pc ls st M idx y b n rt np As i hd hok hl hn hrecv hsum hc H locs la hG
  obtain ⟨b', n', rt', np', stt', hok', hMet⟩ := hC _ _ _ _ hc
  have hnp := np_eq hok' hok
  subst hnp
  obtain ⟨hF, hpre⟩ := z_pre X hG ((Value.ref i :: As).map (cv ad))
  have hS := hG.2.2.1
  obtain ⟨hx, hb, hml, hown, hts, hK, hstr, hA⟩ := id X
  have hin : (Cond.instanceMethod y).before args s = true := hts _ (lw_g (by have := hok.2.2.2.2.2; exact this.1) rfl)
  have hse : (Cond.selects y.cls y y).before args s = true := hts _ (lw_g (by have := hok.2.2.2.2.2; exact this.2) rfl)
  have hp : PreV s H y.cls (ad i) (va_Pc ((Value.ref i :: As).map (cv ad)) (Wl ad cA D M H.size)) (As.map (cv ad)) := by
    refine ⟨wl_blind, ?_, hpre⟩
    rcases hrecv with ⟨hi, h20, hcl⟩ | ⟨hi, hcl⟩
    · cases hq : classes[skind i]? with
      | none => rw [hq] at hcl; cases hcl
      | some q =>
        rw [hq] at hcl
        have hq1 : q.1 = y.cls := Option.some.inj hcl
        have := va_recv (a := ad i) (q0 := i) hK hG.1 hq (by rw [wd_at hi, cont_o rfl h20])
        rw [hq1] at this
        exact this
    · obtain ⟨i1, i2⟩ := hi
      have := vk_recv hstr.1 (i := i - 1000) (by omega) hS
      rw [hcl]
      rw [show 1000 + (i - 1000) = i by omega] at this
      exact this
  have hst : ((As.reverse ++ Value.ref i :: st).map (cv ad)) = (As.map (cv ad)).reverse ++ Value.ref (ad i) :: st.map (cv ad) := by
    rw [List.map_append, List.map_reverse]
    rfl
  rw [hst]
  have hW : 2 * (F0 m pc la ((As.map (cv ad)).reverse ++ Value.ref (ad i) :: st.map (cv ad))).monitorRoom + ((st.map (cv ad)).map fun v => v.category).sum ≤ 8 := lv_room (by rw [cv_sum]; exact hsum)
  have hrun : va_Run p l e R s m args below meth c H locs cells slots 0 0 (F0 m pc la ((As.map (cv ad)).reverse ++ Value.ref (ad i) :: st.map (cv ad))) (st.map (cv ad)) (Qg (fun v M' => Zw p l e R s m args below meth c cells slots Qf nL ad cA D A (pc + 3) ls (v.toList ++ st) M') (Bl ad cA D M H.size) (va_A (wd ad cA M) H.size) (Value.ref (ad i) :: As.map (cv ad)).toArray) (va_A (wd ad cA M) H.size) := by
    rcases lnk_of X hok' hl hR with cw | ⟨host, cw⟩
    · exact va_runV (As := As.map (cv ad)) (rest := st.map (cv ad)) ⟨hx, hb, hml, hown, hts⟩ (hMet ad cA D H.size) ⟨cw, hin, hse⟩ hp rfl (by rw [List.length_map, hn]) hG.2.2.2.1 rfl hW hd hf
    · exact va_runVN (As := As.map (cv ad)) (rest := st.map (cv ad)) ⟨hx, hb, hml, hown, hts⟩ (hMet ad cA D H.size) ⟨cw, hin, hse⟩ hp rfl (by rw [List.length_map, hn]) hG.2.2.2.1 rfl hW hd hf
  refine va_callg hrun hS (fun q _ h => hF q h) hF fun v u t H1 locs1 ht hal hnr hq hB hz hk hS1 => ?_
  have e : v.toList ++ st.map (cv ad) = (v.toList ++ st).map (cv ad) := by
    rw [List.map_append]
    congr 1
    exact (List.map_id' _).symm.trans (List.map_congr_left fun x hx => (hnr x hx ad).symm)
  rw [e]
  exact hq H1 locs1 la (z_after X hG ht hB hS1 hF)
theorem z_calS (X : Cx p s m args c own cc nL ad cA D A) {d : Nat} {C : Ctr} (hC : MetC l d C) (hR : d + 1 ≤ R.frames ∧ 60 + 60 * d ≤ R.locals) (hf : cells ≤ R.cells ∧ slots ≤ R.slots) : R_calS C own cc (Zw p l e R s m args below meth c cells slots Qf nL ad cA D A) := by
  intro pc ls st M idx y b n rt np As hd hok hl hn hsum hc H locs la hG
  obtain ⟨b', n', rt', np', stt', hok', hMet⟩ := hC _ _ _ _ hc
  have hnp := np_eq hok' hok
  subst hnp
  obtain ⟨hF, hpre⟩ := z_pre X hG (As.map (cv ad))
  have hS := hG.2.2.1
  obtain ⟨hx, hb, hml, hown, hts, hK, hstr, hA⟩ := id X
  have hst1 : (Cond.static y).before args s = true := hts _ (lw_g (by have := hok.2.2.2.2.2; exact this) rfl)
  have hp : PreS s H (va_Pc (As.map (cv ad)) (Wl ad cA D M H.size)) (As.map (cv ad)) := ⟨wl_blind, hpre⟩
  have hst : ((As.reverse ++ st).map (cv ad)) = (As.map (cv ad)).reverse ++ st.map (cv ad) := by
    rw [List.map_append, List.map_reverse]
  rw [hst]
  have hW : 2 * (F0 m pc la ((As.map (cv ad)).reverse ++ st.map (cv ad))).monitorRoom + ((st.map (cv ad)).map fun v => v.category).sum ≤ 8 := lv_room (by rw [cv_sum]; exact hsum)
  have hrun : va_Run p l e R s m args below meth c H locs cells slots 0 0 (F0 m pc la ((As.map (cv ad)).reverse ++ st.map (cv ad))) (st.map (cv ad)) (Qg (fun v M' => Zw p l e R s m args below meth c cells slots Qf nL ad cA D A (pc + 3) ls (v.toList ++ st) M') (Bl ad cA D M H.size) (va_A (wd ad cA M) H.size) (As.map (cv ad)).toArray) (va_A (wd ad cA M) H.size) := by
    rcases lnk_of X hok' hl hR with cw | ⟨host, cw⟩
    · exact va_runS (As := As.map (cv ad)) (rest := st.map (cv ad)) ⟨hx, hb, hml, hown, hts⟩ (hMet ad cA D H.size) ⟨cw, hst1⟩ hp rfl (by rw [List.length_map, hn]) hG.2.2.2.1 rfl hW hd hf
    · exact va_runSN (As := As.map (cv ad)) (rest := st.map (cv ad)) ⟨hx, hb, hml, hown, hts⟩ (hMet ad cA D H.size) ⟨cw, hst1, trivial⟩ hp rfl (by rw [List.length_map, hn]) hG.2.2.2.1 rfl hW hd hf
  refine va_callg hrun hS (fun q _ h => hF q h) hF fun v u t H1 locs1 ht hal hnr hq hB hz hk hS1 => ?_
  have e : v.toList ++ st.map (cv ad) = (v.toList ++ st).map (cv ad) := by
    rw [List.map_append]
    congr 1
    exact (List.map_id' _).symm.trans (List.map_congr_left fun x hx => (hnr x hx ad).symm)
  rw [e]
  exact hq H1 locs1 la (z_after X hG ht hB hS1 hF)
/-- all rules but the returns -/
theorem z_rules (X : Cx p s m args c own cc nL ad cA D A) {d : Nat} {C : Ctr} (hC : MetC l d C) (hR : d + 1 ≤ R.frames ∧ 60 + 60 * d ≤ R.locals) (hf : cells ≤ R.cells ∧ slots ≤ R.slots) {isL : Prop} {L : Nat} {xs : Nat → Int32} (hs : isL → va_X (ad 900) L xs s s.heap ∧ ad 900 < s.heap.size ∧ ¬ A (ad 900)) {rt : Option FieldType} {Q : Option Value → Mm → Prop} (hret : R_ret cc rt Q (Zw p l e R s m args below meth c cells slots Qf nL ad cA D A)) : Rules C own cc nL isL L xs rt Q (Zw p l e R s m args below meth c cells slots Qf nL ad cA D A) :=
  ⟨⟨z_pure X, z_load X, z_stI X, z_stL X, z_iinc X, z_sub, z_if X, z_icmp X⟩, ⟨z_goto X, z_tsO X, z_tsI X, z_lsw X, z_getf X, z_putf X, z_ald X, z_ast X⟩, ⟨z_zst X, z_lst X, z_alen X, z_ldc X, z_ldcS X, z_call X hC hR hf, z_calS X hC hR hf⟩, z_scr X hs, z_str X, z_gets X, hret⟩
end Z4
theorem met_ofW {l : Launch} {y : MethodName} {ws ws' : List Cond} {rm : Room} {Pc : Array Value → State → Prop} {Qc : Array Value → State → Outcome → State → Prop} {mc ms : Nat} {free : Addr → Prop} {cc : ByteArray} {maxL : Nat} {ret : Option FieldType}
    (hy : plainFor y = true) (hw : ws = Cond.code y cc maxL ret :: ws')
    (body : ∀ p e s m args below meth c s₁, BodyLoose p l y (headSpec ws rm) cc maxL ret e s m args below meth c s₁ → c.maxLocals = maxL → Pc args s →
      W p l e (headSpec ws rm).room s m args below meth c s.heap [] 0 0 (MQ below Qc args s mc ms free) (entryFrame m args maxL)) : Met l y ws rm Pc Qc mc ms free := by
  refine MetFree.of_bodySF (code := cc) (maxLocals := maxL) (ret := ret) hy ?_ ?_
  · intro args s m h hn
    obtain ⟨meth, c, h1, h2, h3, h4, h5, h6, -, -⟩ := Cond.code_spec hn (atoms_spec (ws := ws) h _ (by rw [hw]; exact List.mem_cons_self))
    exact ⟨meth, c, h1, h2, h3, h4, h5, h6⟩
  · intro p e s m args below meth c s₁ B hml hP _
    have hh0 : s₁.heap = s.heap := by rw [B.state]; rfl
    obtain ⟨t, a1, o, b1, b2, b3⟩ := body p e s m args below meth c s₁ B hml hP s₁ hh0 (Stand.of_body B)
    exact ⟨t, o, a1, b1, b2, ⟨b3.1, b3.2⟩⟩
theorem ct_met (l : Launch) : ∀ d, MetC l d (Ct d)
  | 0 => fun y As M Q h => h.elim
  | d + 1 => by
    intro y As M Q h
    obtain ⟨b, n, rt, np, stt, hok, hlen, hW⟩ := h
    refine ⟨b, n, rt, np, stt, hok, fun ad cA D sz => ?_⟩
    refine met_ofW (cc := b) (maxL := n) (ret := rt) hok.2.2.2.1 rfl ?_
    intro p e s m args below meth c s₁ B hml hv
    obtain ⟨rfl, hsz, hP, hK, hD0, hStr⟩ := hv
    have hts := atoms_spec (ws := wsB y b n rt) B.pre
    have hown : s.vm.findClass y.cls = some m.cls := findClass_of_methodNamed B.named
    have hr := B.returns
    have hlocks := B.notSynchronized
    subst hsz
    have hA : ∀ q : Nat, s.heap.size ≤ q → va_A (wd ad cA M) s.heap.size q := fun q h => Or.inr h
    have hD := hD0.self (sz := s.heap.size)
    have X : Cx p s m ((As.map (cv ad)).toArray) c y.cls b n ad cA D (va_A (wd ad cA M) s.heap.size) := ⟨B.exec, B.bytes, hml, hown, fun w hw => hts w (List.mem_cons_of_mem _ hw), hK, hStr, hA⟩
    have hret : R_ret b rt Q (Zw p l e (rmd (d + 1)) s m ((As.map (cv ad)).toArray) below meth c 0 0 (MQ below (Qg Q (Bl ad cA D M s.heap.size) (va_A (wd ad cA M) s.heap.size)) ((As.map (cv ad)).toArray) s 0 0 (va_A (wd ad cA M) s.heap.size)) n ad cA D (va_A (wd ad cA M) s.heap.size)) := by
      intro pc ls M'
      refine ⟨fun x hd hrt hq H locs la hG => ?_, fun x hd hrt hq H locs la hG => ?_, fun hd hrt hq H locs la hG => ?_⟩
      · have fin : ∀ t : State, t.heap = H → s.WarmedH t.vm → Qg Q (Bl ad cA D M s.heap.size) (va_A (wd ad cA M) s.heap.size) ((As.map (cv ad)).toArray) s (.returned (some (.int x))) t := fun t ht hW => ⟨⟨some (.int x), M', rfl, fun z hz _ => by simp at hz; subst hz; rfl, hq, by rw [ht]; exact hG.1, hG.2.1⟩, hG.2.2.1.F ht⟩
        rcases hrt with rfl | ⟨ty, rfl, hn⟩
        · exact W.iret (v := x) B.exec B.bytes hr fin hG.2.2.1.2.2 hd
        · exact W.zret (v := x) B.exec B.bytes hr hn fin hG.2.2.1.2.2 hd
      · have fin : ∀ t : State, t.heap = H → s.WarmedH t.vm → Qg Q (Bl ad cA D M s.heap.size) (va_A (wd ad cA M) s.heap.size) ((As.map (cv ad)).toArray) s (.returned (some (.long x))) t := fun t ht hW => ⟨⟨some (.long x), M', rfl, fun z hz _ => by simp at hz; subst hz; rfl, hq, by rw [ht]; exact hG.1, hG.2.1⟩, hG.2.2.1.F ht⟩
        subst hrt
        exact W.lret (v := x) B.exec B.bytes hr fin hG.2.2.1.2.2 hd
      · have fin : ∀ t : State, t.heap = H → s.WarmedH t.vm → Qg Q (Bl ad cA D M s.heap.size) (va_A (wd ad cA M) s.heap.size) ((As.map (cv ad)).toArray) s (.returned none) t := fun t ht hW => ⟨⟨none, M', rfl, fun z hz _ => by simp at hz, hq, by rw [ht]; exact hG.1, hG.2.1⟩, hG.2.2.1.F ht⟩
        subst hrt
        exact W.vret B.exec B.bytes hr fin hG.2.2.1.2.2 hd
    have key := hW _ (z_rules (l := l) (e := e) (R := rmd (d + 1)) (below := below) (meth := meth) X (ct_met l d) ⟨Nat.le_refl _, by show 60 + 60 * d ≤ 60 * (d + 1); omega⟩ ⟨Nat.zero_le _, Nat.zero_le _⟩ (isL := False) (L := 0) (xs := fun _ => 0) (fun h => h.elim) hret)
    rw [lg_entry_eq]
    refine key s.heap [] _ ⟨hP, hD, va_S.rf, ?_⟩
    rw [cvl_args]
    exact lv_entry (As.map (cv ad)) (by rw [cv_sl]; exact hlen)
