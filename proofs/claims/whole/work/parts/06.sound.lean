def cv (ad : Nat → Nat) : Value → Value
  | .ref i => .ref (ad i)
  | v => v
abbrev cvl (ad : Nat → Nat) (ls : List (Nat × Value)) : List (Nat × Value) := ls.map fun q => (q.1, cv ad q.2)
theorem cv_cat (ad : Nat → Nat) (v : Value) : (cv ad v).category = v.category := by cases v <;> rfl
theorem cv_vI (ad : Nat → Nat) (x : Int) : cv ad (vI x) = vI x := rfl
theorem cv_vJ (ad : Nat → Nat) (x : Int) : cv ad (vJ x) = vJ x := rfl
theorem cv_sum (ad : Nat → Nat) (st : List Value) : ((st.map (cv ad)).map fun v => v.category).sum = (st.map fun v => v.category).sum := by
  rw [List.map_map]
  congr 1
  exact List.map_congr_left fun v _ => cv_cat ad v
theorem cvl_set1 (ad : Nat → Nat) (ls : List (Nat × Value)) (k : Nat) (v : Value) : cvl ad (lset1 ls k v) = lset1 (cvl ad ls) k (cv ad v) := by
  simp only [lset1, cvl, List.map_cons, List.filter_map]
  congr 2
  apply List.filter_congr
  intro q _
  simp [cv_cat]
theorem cvl_set2 (ad : Nat → Nat) (ls : List (Nat × Value)) (k : Nat) (v : Value) : cvl ad (lset2 ls k v) = lset2 (cvl ad ls) k (cv ad v) := by
  simp only [lset2, cvl, List.map_cons, List.filter_map]
  congr 2
  apply List.filter_congr
  intro q _
  simp [cv_cat]
theorem cvl_args (ad : Nat → Nat) : ∀ (vs : List Value) (i : Nat), cvl ad (lv_args i vs) = lv_args i (vs.map (cv ad))
  | [], _ => rfl
  | v :: vs, i => by
    show (i, cv ad v) :: cvl ad (lv_args _ vs) = (i, cv ad v) :: lv_args (if (cv ad v).category = 2 then i + 2 else i + 1) (vs.map (cv ad))
    rw [cvl_args ad vs, cv_cat]
theorem cv_sl (ad : Nat → Nat) (vs : List Value) : (lg_sl (vs.map (cv ad))).length = (lg_sl vs).length := by
  simp only [lg_sl, List.length_flatMap, List.map_map]
  congr 1
  apply List.map_congr_left
  intro v _
  simp only [Function.comp, cv_cat]
  split <;> rfl
theorem inr_vp {j : Int32} {n : Nat} (h : inr j n) : vp_in j n := by
  rw [vp_in_iff]
  exact h
theorem clamp_toNat (j : Int32) : j.toNatClampNeg = j.toInt.toNat := rfl
/-- the words that any call may bear on -/
def lw_G : List Cond := lw_tbl.filter goodWord
theorem lw_g {w : Cond} (h : w ∈ lw_tbl) (hg : goodWord w = true) : w ∈ lw_G := List.mem_filter.mpr ⟨h, hg⟩
theorem cls_g {c : Nat} {C : String} {T : u_T} {N : Nat} (h : classes[c]? = some (C, T, N)) : ∀ w ∈ u_ws C T N, w ∈ lw_G := by
  intro w hw
  refine lw_g ((cls_in h).1 w hw) ?_
  obtain ⟨k, -, rfl⟩ := List.mem_map.mp hw
  unfold u_lay
  split <;> rfl
def NestF (U : State) : Prop := ∀ own idx y host, Cond.methodLinkNest own idx y host ∈ lw_tbl → va_Nw (.methodLinkNest own idx y host) U
/-- what stands in the heap beside the world: texts, two statics -/
def Strs (ad : Nat → Nat) (A : Nat → Prop) (U : State) (H : Heap) : Prop :=
  vk_S NSt stLen stByt (fun j => ad (1000 + j)) (fun j => ad (1100 + j)) A U H ∧ (∀ q ∈ stTab, vk_R q.1 q.2.1 q.2.2.1 (ad (1000 + q.2.2.2)) U) ∧ va_Z "java/lang/String" "COMPACT_STRINGS" "Z" (.int 1) A U H ∧
  (va_Z "jdk/internal/util/Preconditions" "SIOOBE_FORMATTER" "Ljava/util/function/BiFunction;" .null A U H ∨ va_Z "jdk/internal/util/Preconditions" "SIOOBE_FORMATTER" "Ljava/util/function/BiFunction;" (.ref (ad 1200)) A U H) ∧ NestF U
theorem Strs.to {ad : Nat → Nat} {A B : Nat → Prop} {s U : State} (h : Strs ad A s s.heap) (hW : s.WarmedH U.vm) (hq : ∀ a : Nat, a < s.heap.size → ¬ A a → U.heap[a]? = s.heap[a]?) (hAB : ∀ q, B q → A q) : Strs ad B U U.heap := by
  obtain ⟨h1, h2, h3, h4, h5⟩ := h
  refine ⟨((h1.kept hq).moved hW.alike).narrow hAB, fun q hm => (h2 q hm).warm hW, ((h3.kept hq).moved hW.alike).narrow hAB, ?_, fun o i y z hm => (h5 o i y z hm).warmM hW⟩
  rcases h4 with h4 | h4
  · exact Or.inl (((h4.kept hq).moved hW.alike).narrow hAB)
  · exact Or.inr (((h4.kept hq).moved hW.alike).narrow hAB)
theorem Strs.calling {ad : Nat → Nat} {A : Nat → Prop} {U : State} (g : JFrame) (mk : MethodId) (a : Array Value) (h : Strs ad A U U.heap) : Strs ad A (U.calling g mk a) (U.calling g mk a).heap := by
  obtain ⟨h1, h2, h3, h4, h5⟩ := h
  have al : U.vm.Alike (U.calling g mk a).vm := Vm.Alike.refl U.vm
  refine ⟨h1.moved al, fun q hm => (h2 q hm).same rfl, h3.moved al, ?_, fun o i y z hm => (h5 o i y z hm).same rfl rfl⟩
  rcases h4 with h4 | h4
  · exact Or.inl (h4.moved al)
  · exact Or.inr (h4.moved al)
/-- the state behind which a body stands -/
def Cx (p : Program) (s : State) (m : MethodId) (args : Array Value) (c : Code) (own : String) (cc : ByteArray) (nL : Nat) (ad : Nat → Nat) (cA : Nat → ClassId) (D : va_G) (A : Nat → Prop) : Prop :=
  p.tables.exec = Jvm.exec ∧ c.code = cc ∧ c.maxLocals = nL ∧ s.vm.findClass own = some m.cls ∧ (∀ w ∈ lw_G, w.before args s = true) ∧ va_K D classes (tys cA) s ∧ Strs ad A s s.heap ∧ (∀ q, s.heap.size ≤ q → A q)
def Gd (s : State) (nL : Nat) (ad : Nat → Nat) (cA : Nat → ClassId) (D : va_G) (A : Nat → Prop) (ls : List (Nat × Value)) (M : Mm) (H : Heap) (locs : List Loc) (la : Array Slot) : Prop :=
  va_P D classes (wd ad cA M) H ∧ va_D A (wd ad cA M) ∧ va_S A s.heap H locs ∧ lv_has la nL (cvl ad ls)
def Zw (p : Program) (l : Launch) (e : Env) (R : Room) (s : State) (m : MethodId) (args : Array Value) (below : List Frame) (meth : Method) (c : Code) (cells slots : Nat) (Qf : State → Prop) (nL : Nat) (ad : Nat → Nat) (cA : Nat → ClassId) (D : va_G) (A : Nat → Prop) : Pst := fun pc ls st M =>
  ∀ (H : Heap) (locs : List Loc) (la : Array Slot), Gd s nL ad cA D A ls M H locs la → W p l e R s m args below meth c H locs cells slots Qf (F0 m pc la (st.map (cv ad)))
section Z1
variable {p : Program} {l : Launch} {e : Env} {R : Room} {s : State} {m : MethodId} {args : Array Value} {below : List Frame} {meth : Method} {c : Code} {cells slots : Nat} {Qf : State → Prop} {own : String} {cc : ByteArray} {nL : Nat} {ad : Nat → Nat} {cA : Nat → ClassId} {D : va_G} {A : Nat → Prop}
set_option maxHeartbeats 4000000 in
theorem z_pure (X : Cx p s m args c own cc nL ad cA D A) : R_pure cc (Zw p l e R s m args below meth c cells slots Qf nL ad cA D A) := by
  obtain ⟨hx, hb, hml, hown, hts, hK, hstr, hA⟩ := X
  intro pc ls st M i n st' hd hp hn k H locs la hG
  have kk := k H locs la hG
  subst hn
  cases i
  case iconst z => cases hp; exact lv_iconst hx hb hd rfl kk
  case bipush z => cases hp; exact lv_bipush hx hb hd rfl kk
  case sipush z => cases hp; exact lv_sipush hx hb hd rfl kk
  case lconst z => cases hp; exact lv_lconst hx hb hd rfl kk
  case iadd =>
    simp only [pst] at hp
    split at hp
    · cases hp
      exact lv_iadd hx hb hd kk
    · cases hp
  case isub =>
    simp only [pst] at hp
    split at hp
    · cases hp
      exact lv_isub hx hb hd kk
    · cases hp
  case imul =>
    simp only [pst] at hp
    split at hp
    · cases hp
      exact lv_imul hx hb hd kk
    · cases hp
  case iand =>
    simp only [pst] at hp
    split at hp
    · cases hp
      exact lv_iand hx hb hd kk
    · cases hp
  case ior =>
    simp only [pst] at hp
    split at hp
    · cases hp
      exact lv_ior hx hb hd kk
    · cases hp
  case ixor =>
    simp only [pst] at hp
    split at hp
    · cases hp
      exact lv_ixor hx hb hd kk
    · cases hp
  case ishl =>
    simp only [pst] at hp
    split at hp
    · cases hp
      exact lv_ishl hx hb hd kk
    · cases hp
  case ishr =>
    simp only [pst] at hp
    split at hp
    · cases hp
      exact lv_ishr hx hb hd kk
    · cases hp
  case ineg =>
    simp only [pst] at hp
    split at hp
    · cases hp
      exact lv_ineg hx hb hd kk
    · cases hp
  case ladd =>
    simp only [pst] at hp
    split at hp
    · cases hp
      exact lv_ladd hx hb hd kk
    · cases hp
  case lsub =>
    simp only [pst] at hp
    split at hp
    · cases hp
      exact lv_lsub hx hb hd kk
    · cases hp
  case lmul =>
    simp only [pst] at hp
    split at hp
    · cases hp
      exact lv_lmul hx hb hd kk
    · cases hp
  case land =>
    simp only [pst] at hp
    split at hp
    · cases hp
      exact lv_land hx hb hd kk
    · cases hp
  case idiv =>
    simp only [pst] at hp
    split at hp
    · split at hp
      · cases hp
      · next h0 => cases hp; exact lv_idiv hx hb hd h0 kk
    · cases hp
  case irem =>
    simp only [pst] at hp
    split at hp
    · split at hp
      · cases hp
      · next h0 => cases hp; exact lv_irem hx hb hd h0 kk
    · cases hp
  case ldiv =>
    simp only [pst] at hp
    split at hp
    · split at hp
      · cases hp
      · next h0 => cases hp; exact lv_ldiv hx hb hd h0 kk
    · cases hp
  case lrem =>
    simp only [pst] at hp
    split at hp
    · split at hp
      · cases hp
      · next h0 => cases hp; exact lv_lrem hx hb hd h0 kk
    · cases hp
  case lshl =>
    simp only [pst] at hp
    split at hp
    · cases hp
      exact lv_lshl hx hb hd rfl kk
    · cases hp
  case lshr =>
    simp only [pst] at hp
    split at hp
    · cases hp
      exact lv_lshr hx hb hd rfl kk
    · cases hp
  case i2l =>
    simp only [pst] at hp
    split at hp
    · cases hp
      exact lv_i2l hx hb hd rfl kk
    · cases hp
  case l2i =>
    simp only [pst] at hp
    split at hp
    · cases hp
      exact lv_l2i hx hb hd rfl kk
    · cases hp
  case i2c =>
    simp only [pst] at hp
    split at hp
    · cases hp
      exact lv_i2c hx hb hd rfl kk
    · cases hp
  case lcmp =>
    simp only [pst] at hp
    split at hp
    · cases hp
      exact W.lcmp hx hb hd kk
    · cases hp
  case pop =>
    simp only [pst] at hp
    split at hp
    · split at hp
      · next h0 => cases hp; exact lv_pop hx hb hd ((cv_cat ad _).trans h0) kk
      · cases hp
    · cases hp
  case dup =>
    simp only [pst] at hp
    split at hp
    · split at hp
      · next h0 => cases hp; exact lv_dup hx hb hd ((cv_cat ad _).trans h0) kk
      · cases hp
    · cases hp
  case dup2 =>
    simp only [pst] at hp
    split at hp
    · split at hp
      · next h0 => cases hp; exact lv_dup2_11 hx hb hd ((cv_cat ad _).trans h0.1) ((cv_cat ad _).trans h0.2) kk
      · cases hp
    · cases hp
  all_goals (simp only [pst] at hp; cases hp)
end Z1
section Z2
variable {p : Program} {l : Launch} {e : Env} {R : Room} {s : State} {m : MethodId} {args : Array Value} {below : List Frame} {meth : Method} {c : Code} {cells slots : Nat} {Qf : State → Prop} {own : String} {cc : ByteArray} {nL : Nat} {ad : Nat → Nat} {cA : Nat → ClassId} {D : va_G} {A : Nat → Prop}
theorem z_load (X : Cx p s m args c own cc nL ad cA D A) : R_load cc (Zw p l e R s m args below meth c cells slots Qf nL ad cA D A) := by
  obtain ⟨hx, hb, hml, hown, hts, hK, hstr, hA⟩ := X
  intro pc ls st M i n k t v hd hk hn hv hm kk H locs la hG
  have kk := kk H locs la hG
  have hl : la[k]? = some (.val (cv ad v)) := hG.2.2.2.2.2 (k, cv ad v) (List.mem_map_of_mem (f := fun q : Nat × Value => (q.1, cv ad q.2)) hm)
  subst hn
  cases i
  case iload z => cases hk; obtain ⟨x, rfl⟩ := hv; exact lv_iload hx hb hd hl kk
  case iload_n z => cases hk; obtain ⟨x, rfl⟩ := hv; exact lv_iload_n hx hb hd rfl hl kk
  case lload z => cases hk; obtain ⟨x, rfl⟩ := hv; exact lv_lload hx hb hd hl kk
  case lload_n z => cases hk; obtain ⟨x, rfl⟩ := hv; exact lv_lload_n hx hb hd rfl hl kk
  case aload z => cases hk; obtain ⟨x, rfl⟩ := hv; exact lv_aload hx hb hd hl kk
  case aload_n z => cases hk; obtain ⟨x, rfl⟩ := hv; exact lv_aload_n hx hb hd rfl hl kk
  all_goals cases hk
theorem z_stI (X : Cx p s m args c own cc nL ad cA D A) : R_stI cc nL (Zw p l e R s m args below meth c cells slots Qf nL ad cA D A) := by
  obtain ⟨hx, hb, hml, hown, hts, hK, hstr, hA⟩ := X
  intro pc ls st M i n k x hd hk hn hlt kk H locs la hG
  obtain ⟨g1, g2, g3, g4⟩ := hG
  subst hn
  have k2 : ∀ la' : Array Slot, lv_has la' nL (lset1 (cvl ad ls) k (.int x)) → W p l e R s m args below meth c H locs cells slots Qf (F0 m (pc + _) la' (st.map (cv ad))) := fun la' h => kk H locs la' ⟨g1, g2, g3, by rw [cvl_set1]; exact h⟩
  cases i
  case istore z => cases hk; exact lv_istore hx hb hd g4 hlt rfl k2
  case istore_n z => cases hk; exact lv_istore_n hx hb hd rfl g4 hlt rfl k2
  all_goals cases hk
theorem z_stL (X : Cx p s m args c own cc nL ad cA D A) : R_stL cc nL (Zw p l e R s m args below meth c cells slots Qf nL ad cA D A) := by
  obtain ⟨hx, hb, hml, hown, hts, hK, hstr, hA⟩ := X
  intro pc ls st M i n k x hd hk hn hlt kk H locs la hG
  obtain ⟨g1, g2, g3, g4⟩ := hG
  subst hn
  have k2 : ∀ la' : Array Slot, lv_has la' nL (lset2 (cvl ad ls) k (.long x)) → W p l e R s m args below meth c H locs cells slots Qf (F0 m (pc + _) la' (st.map (cv ad))) := fun la' h => kk H locs la' ⟨g1, g2, g3, by rw [cvl_set2]; exact h⟩
  cases i
  case lstore z => cases hk; exact lv_lstore hx hb hd g4 hlt rfl k2
  case lstore_n z => cases hk; exact lv_lstore_n hx hb hd rfl g4 hlt rfl k2
  all_goals cases hk
theorem z_iinc (X : Cx p s m args c own cc nL ad cA D A) : R_iinc cc nL (Zw p l e R s m args below meth c cells slots Qf nL ad cA D A) := by
  obtain ⟨hx, hb, hml, hown, hts, hK, hstr, hA⟩ := X
  intro pc ls st M k z x hd hm hlt kk H locs la hG
  obtain ⟨g1, g2, g3, g4⟩ := hG
  obtain ⟨j, hj⟩ := List.getElem?_of_mem (List.mem_map_of_mem (f := fun q : Nat × Value => (q.1, cv ad q.2)) hm)
  exact lv_iinc hx hb hd g4 hj rfl hlt rfl fun la' h => kk H locs la' ⟨g1, g2, g3, by rw [cvl_set1]; exact h⟩
theorem z_sub : R_sub (Zw p l e R s m args below meth c cells slots Qf nL ad cA D A) := by
  intro pc ls ls' st M hs kk H locs la hG
  obtain ⟨g1, g2, g3, g4⟩ := hG
  refine kk H locs la ⟨g1, g2, g3, g4.1, g4.2.1, fun q hq => ?_⟩
  obtain ⟨r, hr, rfl⟩ := List.mem_map.mp hq
  exact g4.2.2 _ (List.mem_map_of_mem (f := fun q : Nat × Value => (q.1, cv ad q.2)) (hs r hr))
theorem z_if (X : Cx p s m args c own cc nL ad cA D A) : R_if cc (Zw p l e R s m args below meth c cells slots Qf nL ad cA D A) := by
  obtain ⟨hx, hb, hml, hown, hts, hK, hstr, hA⟩ := X
  intro pc ls st M cn off tgt x hd ht kt kf H locs la hG
  cases cn
  · exact lv_if_eq hx hb hd ht (fun h => kt h H locs la hG) (fun h => kf h H locs la hG)
  · exact lv_if_ne hx hb hd ht (fun h => kt h H locs la hG) (fun h => kf (fun q => q h) H locs la hG)
  · exact lv_if_lt hx hb hd ht (fun h => kt h H locs la hG) (fun h => kf h H locs la hG)
  · exact lv_if_ge hx hb hd ht (fun h => kt h H locs la hG) (fun h => kf h H locs la hG)
  · exact lv_if_gt hx hb hd ht (fun h => kt h H locs la hG) (fun h => kf h H locs la hG)
  · exact lv_if_le hx hb hd ht (fun h => kt h H locs la hG) (fun h => kf h H locs la hG)
theorem z_icmp (X : Cx p s m args c own cc nL ad cA D A) : R_icmp cc (Zw p l e R s m args below meth c cells slots Qf nL ad cA D A) := by
  obtain ⟨hx, hb, hml, hown, hts, hK, hstr, hA⟩ := X
  intro pc ls st M cn off tgt x y hd ht kt kf H locs la hG
  cases cn
  · exact lv_icmp_eq hx hb hd ht (fun h => kt h H locs la hG) (fun h => kf h H locs la hG)
  · exact lv_icmp_ne hx hb hd ht (fun h => kt h H locs la hG) (fun h => kf (fun q => q h) H locs la hG)
  · exact lv_icmp_lt hx hb hd ht (fun h => kt h H locs la hG) (fun h => kf h H locs la hG)
  · exact lv_icmp_ge hx hb hd ht (fun h => kt h H locs la hG) (fun h => kf h H locs la hG)
  · exact lv_icmp_gt hx hb hd ht (fun h => kt h H locs la hG) (fun h => kf h H locs la hG)
  · exact lv_icmp_le hx hb hd ht (fun h => kt h H locs la hG) (fun h => kf h H locs la hG)
theorem z_goto (X : Cx p s m args c own cc nL ad cA D A) : R_goto cc (Zw p l e R s m args below meth c cells slots Qf nL ad cA D A) := by
  obtain ⟨hx, hb, hml, hown, hts, hK, hstr, hA⟩ := X
  intro pc ls st M off tgt hd ht kk H locs la hG
  exact lv_goto hx hb hd ht (kk H locs la hG)
theorem z_tsO (X : Cx p s m args c own cc nL ad cA D A) : R_tsO cc (Zw p l e R s m args below meth c cells slots Qf nL ad cA D A) := by
  obtain ⟨hx, hb, hml, hown, hts, hK, hstr, hA⟩ := X
  intro pc ls st M d lo hi offs len x tgt hd h ht kk H locs la hG
  exact lv_tableOut hx hb hd h ht (kk H locs la hG)
theorem z_tsI (X : Cx p s m args c own cc nL ad cA D A) : R_tsI cc (Zw p l e R s m args below meth c cells slots Qf nL ad cA D A) := by
  obtain ⟨hx, hb, hml, hown, hts, hK, hstr, hA⟩ := X
  intro pc ls st M d lo hi offs len x off tgt hd h1 h2 ho ht kk H locs la hG
  exact lv_tableIn hx hb hd h1 h2 ho ht (kk H locs la hG)
theorem z_lsw (X : Cx p s m args c own cc nL ad cA D A) : R_lsw cc (Zw p l e R s m args below meth c cells slots Qf nL ad cA D A) := by
  obtain ⟨hx, hb, hml, hown, hts, hK, hstr, hA⟩ := X
  intro pc ls st M d ps len x off tgt hd h1 ho ht kk H locs la hG
  exact lv_lookup hx hb hd h1 ho ht (kk H locs la hG)
theorem z_getf (X : Cx p s m args c own cc nL ad cA D A) : R_getf own cc (Zw p l e R s m args below meth c cells slots Qf nL ad cA D A) := by
  obtain ⟨hx, hb, hml, hown, hts, hK, hstr, hA⟩ := X
  intro pc ls st M idx i k t hd hi h20 hf ht kk H locs la hG
  have kk := kk H locs la hG
  obtain ⟨g1, g2, g3, g4⟩ := hG
  obtain ⟨C, T, N, hc, hk, hl, he⟩ := hf
  have hv : cv ad (fvp M i k t) = fval ad (M i) i k t := by
    unfold fvp fval
    split
    · rfl
    · split <;> rfl
  refine va_get (ref := C) (v := cv ad (fvp M i k t)) hx hb hts (cls_g hc) hown hK g1 i (by rw [wd_at hi, cont_o rfl h20]) hc k hk (hts _ (lw_g hl rfl)) (by rw [he]; exact fun _ h => h) (by rw [hv]; exact fl_at ht) hd kk
theorem z_putf (X : Cx p s m args c own cc nL ad cA D A) : R_putf own cc (Zw p l e R s m args below meth c cells slots Qf nL ad cA D A) := by
  obtain ⟨hx, hb, hml, hown, hts, hK, hstr, hA⟩ := X
  intro pc ls st M idx i k t z v hd hi h20 hf ht h2 hp hv h3 kk H locs la hG
  obtain ⟨g1, g2, g3, g4⟩ := hG
  obtain ⟨C, T, N, hc, hk, hl, he⟩ := hf
  obtain ⟨hfin, hty⟩ := hp C T N hc
  obtain ⟨q1, ⟨ty0, q2⟩, q3⟩ := cls_in hc
  have hcv : cv ad v = if t = 1 then vJ z else vI z := by rw [hv]; split <;> rfl
  have hn : narrow (tyOf t) (cv ad v) = cv ad v ∧ fits (tyOf t) (cv ad v) = true := by
    rw [hcv]
    unfold tyOf
    by_cases t0 : t = 0
    · subst t0; exact ⟨rfl, rfl⟩
    · by_cases t1 : t = 1
      · subst t1; exact ⟨rfl, rfl⟩
      · by_cases t3 : t = 3
        · subst t3
          show narrow .boolean (.int (Int32.ofInt z)) = .int (Int32.ofInt z) ∧ fits .boolean (.int (Int32.ofInt z)) = true
          rcases h3 rfl with h | h <;> (rw [h]; decide)
        · rw [if_neg t0, if_neg t1, if_neg t1]
          by_cases hz : Int32.ofInt z = 0 ∨ Int32.ofInt z = 1
          · show narrow .boolean (.int (Int32.ofInt z)) = .int (Int32.ofInt z) ∧ fits .boolean (.int (Int32.ofInt z)) = true
            rcases hz with h | h <;> (rw [h]; decide)
          · exfalso
            have hN : ∀ c : Nat, ∀ k t : Nat, (fts c)[k]? = some t → t < 4 := by
              intro c k t h
              have hm := List.mem_of_getElem? h
              have hall : ∀ q ∈ FTY, ∀ t ∈ q, t < 4 := by decide +kernel
              unfold fts at hm
              by_cases hcl : c < FTY.length
              · have := hall (FTY.getD c []) (by simp [hcl]) t hm
                exact this
              · simp [Nat.not_lt.mp hcl] at hm
            have := hN _ _ _ ht
            omega
  refine va_put (ref := C) hx hb hts (cls_g hc) ty0 q2 q3 hown hK g1 g2 g3 i (fs := fl ad (M i) i) (by rw [wd_at hi, cont_o rfl h20]) hc k hk (hts _ (lw_g hl rfl)) (by rw [he]; exact fun _ h => h) hfin hty hn.1 hn.2 (by rw [fl_len]; exact (List.getElem?_eq_some_iff.mp ht).1) hd fun H1 locs1 hP hD hS => ?_
  rw [fl_set ht h2 hcv] at hP hD
  rw [wd_set hi (by rw [cont_o rfl h20])] at hP hD
  exact kk H1 locs1 la ⟨hP, hD, hS, g4⟩
theorem cont_a {ad : Nat → Nat} {cA : Nat → ClassId} {r : Nat → Int} {i : Nat} (h : ¬ skind i < 20) (h1 : skind i ≠ 21) : cont ad cA r i = .inl (cA (skind i), slen i, .inl (arI r i)) := by simp [cont, h, h1]
theorem cont_l {ad : Nat → Nat} {cA : Nat → ClassId} {r : Nat → Int} {i : Nat} (h1 : skind i = 21) : cont ad cA r i = .inl (cA 21, slen i, .inr (.inl (fun j => Int64.ofInt (r j)))) := by simp [cont, h1]
theorem z_ald (X : Cx p s m args c own cc nL ad cA D A) : R_ald cc (Zw p l e R s m args below meth c cells slots Qf nL ad cA D A) := by
  obtain ⟨hx, hb, hml, hown, hts, hK, hstr, hA⟩ := X
  intro pc ls st M ins i j hd hi hk hin kk H locs la hG
  have kk := kk H locs la hG
  obtain ⟨g1, g2, g3, g4⟩ := hG
  have hin := inr_vp hin
  cases ins
  case iaload =>
    have hk : skind i = 20 := (Option.some.inj hk).symm
    have e : aval M i j.toInt.toNat = .int (arI (M i) i j.toNatClampNeg) := by
      simp only [aval, arI, hk, Nat.reduceEqDiff, reduceIte]
      rfl
    refine va_iald (f := arI (M i) i) (n := slen i) hx hb hK g1 i 0 (by rw [wd_at hi, cont_a (by omega) (by omega), hk]) rfl hin hd ?_
    rw [e] at kk
    exact kk
  case laload =>
    have hk : skind i = 21 := (Option.some.inj hk).symm
    have e : aval M i j.toInt.toNat = .long (Int64.ofInt (M i j.toNatClampNeg)) := by
      simp only [aval, hk, reduceIte]
      rfl
    refine va_lald (f := fun j => Int64.ofInt (M i j)) (n := slen i) hx hb hK g1 i 1 (by rw [wd_at hi, cont_l hk]) rfl hin hd ?_
    rw [e] at kk
    exact kk
  case baload =>
    have hk : skind i = 22 := (Option.some.inj hk).symm
    have e : aval M i j.toInt.toNat = .int (arI (M i) i j.toNatClampNeg) := by
      simp only [aval, arI, hk, Nat.reduceEqDiff, reduceIte]
      rfl
    refine va_zald (f := arI (M i) i) (n := slen i) hx hb hK g1 i 2 (by rw [wd_at hi, cont_a (by omega) (by omega), hk]) rfl hin hd ?_
    rw [e] at kk
    exact kk
  case caload =>
    have hk : skind i = 23 := (Option.some.inj hk).symm
    have e : aval M i j.toInt.toNat = .int (arI (M i) i j.toNatClampNeg) := by
      simp only [aval, arI, hk, Nat.reduceEqDiff, reduceIte]
      rfl
    refine va_cald (f := arI (M i) i) (n := slen i) hx hb hK g1 i 3 (by rw [wd_at hi, cont_a (by omega) (by omega), hk]) rfl hin hd ?_
    rw [e] at kk
    exact kk
  all_goals cases hk
theorem arI_up {M : Mm} {i k : Nat} {z : Int} (h : skind i ≠ 23) : upd (arI (M i) i) k (Int32.ofInt z) = arI (up M i k z i) i := by
  funext q
  simp only [arI, if_neg h, upd, up_r]
  by_cases hq : q = k
  · rw [if_pos hq, if_pos hq]
  · rw [if_neg hq, if_neg hq]
theorem z_ast (X : Cx p s m args c own cc nL ad cA D A) : R_ast cc (Zw p l e R s m args below meth c cells slots Qf nL ad cA D A) := by
  obtain ⟨hx, hb, hml, hown, hts, hK, hstr, hA⟩ := X
  intro pc ls st M i j z hd hi hk hin kk H locs la hG
  obtain ⟨g1, g2, g3, g4⟩ := hG
  refine va_iast (f := arI (M i) i) (n := slen i) hx hb hK g1 g2 g3 i 0 (by rw [wd_at hi, cont_a (by omega) (by omega), hk]) rfl (inr_vp hin) hd fun H1 locs1 hP hD hS => ?_
  rw [arI_up (by omega), wd_set hi (by rw [cont_a (by omega) (by omega), hk])] at hP hD
  exact kk H1 locs1 la ⟨hP, hD, hS, g4⟩
theorem z_zst (X : Cx p s m args c own cc nL ad cA D A) : R_zst cc (Zw p l e R s m args below meth c cells slots Qf nL ad cA D A) := by
  obtain ⟨hx, hb, hml, hown, hts, hK, hstr, hA⟩ := X
  intro pc ls st M i j z hd hi hk hin hz kk H locs la hG
  obtain ⟨g1, g2, g3, g4⟩ := hG
  have hn : vp_nar .boolean (Int32.ofInt z) = Int32.ofInt z := by rcases hz with h | h <;> (rw [h]; decide)
  refine va_zast (f := arI (M i) i) (n := slen i) hx hb hK g1 g2 g3 i 2 (by rw [wd_at hi, cont_a (by omega) (by omega), hk]) rfl (inr_vp hin) hd fun H1 locs1 hP hD hS => ?_
  rw [hn, arI_up (by omega), wd_set hi (by rw [cont_a (by omega) (by omega), hk])] at hP hD
  exact kk H1 locs1 la ⟨hP, hD, hS, g4⟩
theorem z_lst (X : Cx p s m args c own cc nL ad cA D A) : R_lst cc (Zw p l e R s m args below meth c cells slots Qf nL ad cA D A) := by
  obtain ⟨hx, hb, hml, hown, hts, hK, hstr, hA⟩ := X
  intro pc ls st M i j z hd hi hk hin kk H locs la hG
  obtain ⟨g1, g2, g3, g4⟩ := hG
  refine va_last (f := fun j => Int64.ofInt (M i j)) (n := slen i) hx hb hK g1 g2 g3 i 1 (by rw [wd_at hi, cont_l hk]) rfl (inr_vp hin) hd fun H1 locs1 hP hD hS => ?_
  have e : vp_updL (fun j => Int64.ofInt (M i j)) j.toNatClampNeg (Int64.ofInt z) = fun q => Int64.ofInt (up M i j.toInt.toNat z i q) := by
    funext q
    simp only [vp_updL, up_r]
    show (if q = j.toInt.toNat then _ else _) = _
    by_cases hq : q = j.toInt.toNat
    · rw [if_pos hq, if_pos hq]
    · rw [if_neg hq, if_neg hq]
  rw [e, wd_set hi (by rw [cont_l hk])] at hP hD
  exact kk H1 locs1 la ⟨hP, hD, hS, g4⟩
theorem z_alen (X : Cx p s m args c own cc nL ad cA D A) : R_alen cc (Zw p l e R s m args below meth c cells slots Qf nL ad cA D A) := by
  obtain ⟨hx, hb, hml, hown, hts, hK, hstr, hA⟩ := X
  intro pc ls st M i hd hi hk1 hk2 kk H locs la hG
  have kk := kk H locs la hG
  obtain ⟨g1, g2, g3, g4⟩ := hG
  have hv : Int32.ofNat (slen i) = Int32.ofInt (slen i) := rfl
  by_cases h1 : skind i = 21
  · exact va_alen (x := (slen i, _)) hx hb hK g1 i 1 (by rw [wd_at hi, cont_l h1]) rfl hv hd kk
  · rcases (show skind i = 20 ∨ skind i = 22 ∨ skind i = 23 by omega) with h | h | h
    · exact va_alen (x := (slen i, _)) hx hb hK g1 i 0 (by rw [wd_at hi, cont_a (by omega) h1, h]) rfl hv hd kk
    · exact va_alen (x := (slen i, _)) hx hb hK g1 i 2 (by rw [wd_at hi, cont_a (by omega) h1, h]) rfl hv hd kk
    · exact va_alen (x := (slen i, _)) hx hb hK g1 i 3 (by rw [wd_at hi, cont_a (by omega) h1, h]) rfl hv hd kk
theorem z_ldc (X : Cx p s m args c own cc nL ad cA D A) : R_ldc own cc (Zw p l e R s m args below meth c cells slots Qf nL ad cA D A) := by
  obtain ⟨hx, hb, hml, hown, hts, hK, hstr, hA⟩ := X
  intro pc ls st M idx z
  exact ⟨fun h kk H locs la hG => lv_ldc hx hb hown (hts _ (lw_g h.2 rfl)) h.1 (kk H locs la hG), fun h kk H locs la hG => lv_ldcw hx hb hown (hts _ (lw_g h.2 rfl)) h.1 (kk H locs la hG), fun h kk H locs la hG => lv_ldc2 hx hb hown (hts _ (lw_g h.2 rfl)) h.1 (kk H locs la hG)⟩
theorem z_ldcS (X : Cx p s m args c own cc nL ad cA D A) : R_ldcS own cc (Zw p l e R s m args below meth c cells slots Qf nL ad cA D A) := by
  obtain ⟨hx, hb, hml, hown, hts, hK, hstr, hA⟩ := X
  intro pc ls st M idx tx j hd hm kk H locs la hG
  exact va_ldcS (q := ad (1000 + j)) hx hb hown (hstr.2.1 _ hm) hd (kk H locs la hG)
theorem z_str (X : Cx p s m args c own cc nL ad cA D A) : R_str own cc (Zw p l e R s m args below meth c cells slots Qf nL ad cA D A) := by
  obtain ⟨hx, hb, hml, hown, hts, hK, hstr, hA⟩ := X
  intro pc ls st M idx j hj
  obtain ⟨h1, h2, h3, h4⟩ := hstr.1.1 j hj
  refine ⟨fun hd hl kk H locs la hG => ?_, fun hd hl kk H locs la hG => ?_, fun hd kk H locs la hG => ?_, fun q hd hin kk H locs la hG => ?_⟩
  · exact vk_getf hx hb h3 hG.2.2.1 hown (hts _ (lw_g hl rfl)) (fun _ h => h) hd (kk H locs la hG)
  · exact vk_getf hx hb h2 hG.2.2.1 hown (hts _ (lw_g hl rfl)) (fun _ h => h) hd (kk H locs la hG)
  · obtain ⟨cell, q1, q2, q3, q4, q5, q6, q7⟩ := h4
    exact W.alen hx hb (a := ad (1100 + j)) (by rw [hG.2.2.1.2.1 _ (Array.getElem?_eq_some_iff.mp q1).1 q7]; exact q1) q2 q5 rfl rfl hd (kk H locs la hG)
  · exact va_tb hx hb h4 hG.2.2.1 (inr_vp hin) rfl hd (kk H locs la hG)
theorem z_gets (X : Cx p s m args c own cc nL ad cA D A) : R_gets own cc (Zw p l e R s m args below meth c cells slots Qf nL ad cA D A) := by
  obtain ⟨hx, hb, hml, hown, hts, hK, hstr, hA⟩ := X
  intro pc ls st M idx
  refine ⟨fun hd hl kk H locs la hG => va_gets hx hb hstr.2.2.1 hG.2.2.1 hown (hts _ (lw_g hl rfl)) (fun _ h => h) hd (kk H locs la hG), fun hd hl k1 k2 H locs la hG => ?_⟩
  rcases hstr.2.2.2.1 with h | h
  · exact va_gets hx hb h hG.2.2.1 hown (hts _ (lw_g hl rfl)) (fun _ h => h) hd (k2 H locs la hG)
  · exact va_gets hx hb h hG.2.2.1 hown (hts _ (lw_g hl rfl)) (fun _ h => h) hd (k1 H locs la hG)
theorem z_scr (X : Cx p s m args c own cc nL ad cA D A) {isL : Prop} {L : Nat} {xs : Nat → Int32} (hs : isL → va_X (ad 900) L xs s s.heap ∧ ad 900 < s.heap.size ∧ ¬ A (ad 900)) : R_scr cc isL L xs (Zw p l e R s m args below meth c cells slots Qf nL ad cA D A) := by
  obtain ⟨hx, hb, hml, hown, hts, hK, hstr, hA⟩ := X
  intro hL pc ls st M
  obtain ⟨s1, s2, s3⟩ := hs hL
  exact ⟨fun j hd hin kk H locs la hG => va_sld hx hb s1 s2 s3 hG.2.2.1 (inr_vp hin) hd (kk H locs la hG), fun hd kk H locs la hG => va_slen hx hb s1 s2 s3 hG.2.2.1 hd (kk H locs la hG)⟩
end Z2
