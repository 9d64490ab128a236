def mW (h0 : Nat) (fs : List Value) (rest : va_W) : va_W := (h0, .inr (12, fs)) :: rest
section YM
variable {p : Program} {l : Launch} {e : Env} {R : Room} {s : State} {m : MethodId} {args : Array Value} {below : List Frame} {meth : Method} {c : Code} {Qf : State → Prop} {cA : Nat → ClassId} {D : va_G} {A : Nat → Prop} {cells slots : Nat} {own : String} {cc : ByteArray} {nL pc : Nat} {ls : List (Nat × Value)} {st : List Value}
theorem y_castL (X : Cy p s m args c own cc nL cA D A) {a n : Nat} {f : Nat → Int32} {c0 : Nat × va_E} {rest : va_W} (j w : Nat) {x z : Int} (hd : decode cc pc = .ok (.castore, 1)) (hx0 : x = (j : Int) ∧ j < n ∧ n < 20000) (hz : z = (w : Int) ∧ w < 65536) (k : Yw p l e R s m args below meth c Qf nL D A cells slots (pc + 1) ls st (c0 :: (rest ++ [(a, .inl (cA 23, n, .inl (upd f j (nI w))))]))) : Yw p l e R s m args below meth c Qf nL D A cells slots pc ls (vI z :: vI x :: .ref a :: st) (c0 :: (rest ++ [(a, .inl (cA 23, n, .inl f))])) := by
  refine y_cast X (a := a) (n := n) (f := f) (rest.length + 1) j w hd (by simp) hx0 hz (y_eq ?_ k)
  simp
end YM
set_option maxRecDepth 20000 in
set_option maxHeartbeats 4000000 in
theorem mc_4 {p : Program} {l : Launch} {e : Env} {R : Room} {s : State} {m : MethodId} {args : Array Value} {below : List Frame} {meth : Method} {c : Code} {Qf : State → Prop} {cA : Nat → ClassId} {D : va_G} {A : Nat → Prop} {cells slots : Nat} (X : Cy p s m args c "BreathTownModel" prog_14_method_1_code 1 cA D A) (hin : meth.name = "<init>") {h0 : Nat} {fs : List Value} {rest : va_W} (hfs : fs.length = 100) (hce : cells + 1 ≤ R.cells) (hsl : slots + 1600 ≤ R.slots) (k : ∀ q : Nat, Yw p l e R s m args below meth c Qf 1 D A (cells + 1) (slots + 1600) 13 [(0, .ref h0)] [] (mW h0 (fs.set 0 (.ref q)) (rest ++ [(q, .inl (cA 20, 1600, .inl (fun _ => 0)))]))) : Yw p l e R s m args below meth c Qf 1 D A cells slots 4 [(0, .ref h0)] [] (mW h0 fs rest) := by
  refine y_aload_n X (pc := 4) 0 (cks_at k_M_init 2 rfl rfl) rfl ?_
  refine y_sipush X (pc := 5) (cks_at k_M_init 3 rfl rfl) (by decide) (by decide) ?_
  refine y_newa X (pc := 8) 0 20 (n := 1600) (a0 := (1600, .inl (fun _ => 0))) (cks_at k_M_init 4 rfl rfl) (in_1 (List.mem_of_getElem? (i := 64) rfl)) rfl rfl (by decide) (fun _ => rfl) (by decide) hce hsl (fun q => ?_)
  refine y_eq (ws' := (h0, .inr (12, fs)) :: (rest ++ [(q, .inl (cA 20, 1600, .inl (fun _ => 0)))])) rfl ?_
  refine y_putF X (pc := 10) (ci := 12) (k0 := 0) (ty := .array .int) 0 (cks_at k_M_init 5 rfl rfl) rfl rfl (by decide) (in_6 (List.mem_of_getElem? (i := 108) rfl)) ⟨rfl, rfl, rfl⟩ hin (by decide +kernel) rfl rfl (by rw [hfs]; decide) ?_
  exact k q
set_option maxRecDepth 20000 in
set_option maxHeartbeats 4000000 in
theorem mc_13 {p : Program} {l : Launch} {e : Env} {R : Room} {s : State} {m : MethodId} {args : Array Value} {below : List Frame} {meth : Method} {c : Code} {Qf : State → Prop} {cA : Nat → ClassId} {D : va_G} {A : Nat → Prop} {cells slots : Nat} (X : Cy p s m args c "BreathTownModel" prog_14_method_1_code 1 cA D A) (hin : meth.name = "<init>") {h0 : Nat} {fs : List Value} {rest : va_W} (hfs : fs.length = 100) (k : Yw p l e R s m args below meth c Qf 1 D A cells slots 18 [(0, .ref h0)] [] (mW h0 (fs.set 8 (vI (-1))) rest)) : Yw p l e R s m args below meth c Qf 1 D A cells slots 13 [(0, .ref h0)] [] (mW h0 fs rest) := by
  refine y_aload_n X (pc := 13) 0 (cks_at k_M_init 6 rfl rfl) rfl ?_
  refine y_iconst X (pc := 14) (cks_at k_M_init 7 rfl rfl) ?_
  refine y_put X (pc := 15) (ci := 12) (k0 := 8) (ty := .int) 0 (cks_at k_M_init 8 rfl rfl) rfl rfl (by decide) (in_6 (List.mem_of_getElem? (i := 116) rfl)) ⟨rfl, rfl⟩ (by decide +kernel) rfl rfl (by rw [hfs]; decide) ?_
  exact k
set_option maxRecDepth 20000 in
set_option maxHeartbeats 4000000 in
theorem mc_18 {p : Program} {l : Launch} {e : Env} {R : Room} {s : State} {m : MethodId} {args : Array Value} {below : List Frame} {meth : Method} {c : Code} {Qf : State → Prop} {cA : Nat → ClassId} {D : va_G} {A : Nat → Prop} {cells slots : Nat} (X : Cy p s m args c "BreathTownModel" prog_14_method_1_code 1 cA D A) (hin : meth.name = "<init>") {h0 : Nat} {fs : List Value} {rest : va_W} (hfs : fs.length = 100) (hce : cells + 1 ≤ R.cells) (hsl : slots + 6 ≤ R.slots) (k : ∀ q : Nat, Yw p l e R s m args below meth c Qf 1 D A (cells + 1) (slots + 6) 26 [(0, .ref h0)] [] (mW h0 (fs.set 9 (.ref q)) (rest ++ [(q, .inl (cA 20, 6, .inl (fun _ => 0)))]))) : Yw p l e R s m args below meth c Qf 1 D A cells slots 18 [(0, .ref h0)] [] (mW h0 fs rest) := by
  refine y_aload_n X (pc := 18) 0 (cks_at k_M_init 9 rfl rfl) rfl ?_
  refine y_bipush X (pc := 19) (cks_at k_M_init 10 rfl rfl) (by decide) (by decide) ?_
  refine y_newa X (pc := 21) 0 20 (n := 6) (a0 := (6, .inl (fun _ => 0))) (cks_at k_M_init 11 rfl rfl) (in_1 (List.mem_of_getElem? (i := 64) rfl)) rfl rfl (by decide) (fun _ => rfl) (by decide) hce hsl (fun q => ?_)
  refine y_eq (ws' := (h0, .inr (12, fs)) :: (rest ++ [(q, .inl (cA 20, 6, .inl (fun _ => 0)))])) rfl ?_
  refine y_putF X (pc := 23) (ci := 12) (k0 := 9) (ty := .array .int) 0 (cks_at k_M_init 12 rfl rfl) rfl rfl (by decide) (in_6 (List.mem_of_getElem? (i := 117) rfl)) ⟨rfl, rfl, rfl⟩ hin (by decide +kernel) rfl rfl (by rw [hfs]; decide) ?_
  exact k q
set_option maxRecDepth 20000 in
set_option maxHeartbeats 4000000 in
theorem mc_26 {p : Program} {l : Launch} {e : Env} {R : Room} {s : State} {m : MethodId} {args : Array Value} {below : List Frame} {meth : Method} {c : Code} {Qf : State → Prop} {cA : Nat → ClassId} {D : va_G} {A : Nat → Prop} {cells slots : Nat} (X : Cy p s m args c "BreathTownModel" prog_14_method_1_code 1 cA D A) (hin : meth.name = "<init>") {h0 : Nat} {fs : List Value} {rest : va_W} (hfs : fs.length = 100) (hce : cells + 1 ≤ R.cells) (hsl : slots + 5 ≤ R.slots) (k : ∀ q : Nat, Yw p l e R s m args below meth c Qf 1 D A (cells + 1) (slots + 5) 58 [(0, .ref h0)] [] (mW h0 (fs.set 10 (.ref q)) (rest ++ [(q, .inl (cA 23, 5, .inl (upd (upd (upd (upd (upd (fun _ => 0) 0 (nI 112)) 1 (nI 108)) 2 (nI 97)) 3 (nI 99)) 4 (nI 101))))]))) : Yw p l e R s m args below meth c Qf 1 D A cells slots 26 [(0, .ref h0)] [] (mW h0 fs rest) := by
  refine y_aload_n X (pc := 26) 0 (cks_at k_M_init 13 rfl rfl) rfl ?_
  refine y_iconst X (pc := 27) (cks_at k_M_init 14 rfl rfl) ?_
  refine y_newa X (pc := 28) 3 23 (n := 5) (a0 := (5, .inl (fun _ => 0))) (cks_at k_M_init 15 rfl rfl) (in_7 (List.mem_of_getElem? (i := 169) rfl)) rfl rfl (by decide) (fun _ => rfl) (by decide) hce hsl (fun q => ?_)
  refine y_eq (ws' := (h0, .inr (12, fs)) :: (rest ++ [(q, .inl (cA 23, 5, .inl (fun _ => 0)))])) rfl ?_
  refine y_dup X (pc := 30) (cks_at k_M_init 16 rfl rfl) rfl ?_
  refine y_iconst X (pc := 31) (cks_at k_M_init 17 rfl rfl) ?_
  refine y_bipush X (pc := 32) (cks_at k_M_init 18 rfl rfl) (by decide) (by decide) ?_
  refine y_castL X (pc := 34) 0 112 (cks_at k_M_init 19 rfl rfl) (by decide) (by decide) ?_
  refine y_dup X (pc := 35) (cks_at k_M_init 20 rfl rfl) rfl ?_
  refine y_iconst X (pc := 36) (cks_at k_M_init 21 rfl rfl) ?_
  refine y_bipush X (pc := 37) (cks_at k_M_init 22 rfl rfl) (by decide) (by decide) ?_
  refine y_castL X (pc := 39) 1 108 (cks_at k_M_init 23 rfl rfl) (by decide) (by decide) ?_
  refine y_dup X (pc := 40) (cks_at k_M_init 24 rfl rfl) rfl ?_
  refine y_iconst X (pc := 41) (cks_at k_M_init 25 rfl rfl) ?_
  refine y_bipush X (pc := 42) (cks_at k_M_init 26 rfl rfl) (by decide) (by decide) ?_
  refine y_castL X (pc := 44) 2 97 (cks_at k_M_init 27 rfl rfl) (by decide) (by decide) ?_
  refine y_dup X (pc := 45) (cks_at k_M_init 28 rfl rfl) rfl ?_
  refine y_iconst X (pc := 46) (cks_at k_M_init 29 rfl rfl) ?_
  refine y_bipush X (pc := 47) (cks_at k_M_init 30 rfl rfl) (by decide) (by decide) ?_
  refine y_castL X (pc := 49) 3 99 (cks_at k_M_init 31 rfl rfl) (by decide) (by decide) ?_
  refine y_dup X (pc := 50) (cks_at k_M_init 32 rfl rfl) rfl ?_
  refine y_iconst X (pc := 51) (cks_at k_M_init 33 rfl rfl) ?_
  refine y_bipush X (pc := 52) (cks_at k_M_init 34 rfl rfl) (by decide) (by decide) ?_
  refine y_castL X (pc := 54) 4 101 (cks_at k_M_init 35 rfl rfl) (by decide) (by decide) ?_
  refine y_putF X (pc := 55) (ci := 12) (k0 := 10) (ty := .array .char) 0 (cks_at k_M_init 36 rfl rfl) rfl rfl (by decide) (in_6 (List.mem_of_getElem? (i := 118) rfl)) ⟨rfl, rfl, rfl⟩ hin (by decide +kernel) rfl rfl (by rw [hfs]; decide) ?_
  exact k q
set_option maxRecDepth 20000 in
set_option maxHeartbeats 4000000 in
theorem mc_58 {p : Program} {l : Launch} {e : Env} {R : Room} {s : State} {m : MethodId} {args : Array Value} {below : List Frame} {meth : Method} {c : Code} {Qf : State → Prop} {cA : Nat → ClassId} {D : va_G} {A : Nat → Prop} {cells slots : Nat} (X : Cy p s m args c "BreathTownModel" prog_14_method_1_code 1 cA D A) (hin : meth.name = "<init>") {h0 : Nat} {fs : List Value} {rest : va_W} (hfs : fs.length = 100) (hce : cells + 1 ≤ R.cells) (hsl : slots + 6 ≤ R.slots) (k : ∀ q : Nat, Yw p l e R s m args below meth c Qf 1 D A (cells + 1) (slots + 6) 96 [(0, .ref h0)] [] (mW h0 (fs.set 11 (.ref q)) (rest ++ [(q, .inl (cA 23, 6, .inl (upd (upd (upd (upd (upd (upd (fun _ => 0) 0 (nI 115)) 1 (nI 116)) 2 (nI 114)) 3 (nI 101)) 4 (nI 101)) 5 (nI 116))))]))) : Yw p l e R s m args below meth c Qf 1 D A cells slots 58 [(0, .ref h0)] [] (mW h0 fs rest) := by
  refine y_aload_n X (pc := 58) 0 (cks_at k_M_init 37 rfl rfl) rfl ?_
  refine y_bipush X (pc := 59) (cks_at k_M_init 38 rfl rfl) (by decide) (by decide) ?_
  refine y_newa X (pc := 61) 3 23 (n := 6) (a0 := (6, .inl (fun _ => 0))) (cks_at k_M_init 39 rfl rfl) (in_7 (List.mem_of_getElem? (i := 169) rfl)) rfl rfl (by decide) (fun _ => rfl) (by decide) hce hsl (fun q => ?_)
  refine y_eq (ws' := (h0, .inr (12, fs)) :: (rest ++ [(q, .inl (cA 23, 6, .inl (fun _ => 0)))])) rfl ?_
  refine y_dup X (pc := 63) (cks_at k_M_init 40 rfl rfl) rfl ?_
  refine y_iconst X (pc := 64) (cks_at k_M_init 41 rfl rfl) ?_
  refine y_bipush X (pc := 65) (cks_at k_M_init 42 rfl rfl) (by decide) (by decide) ?_
  refine y_castL X (pc := 67) 0 115 (cks_at k_M_init 43 rfl rfl) (by decide) (by decide) ?_
  refine y_dup X (pc := 68) (cks_at k_M_init 44 rfl rfl) rfl ?_
  refine y_iconst X (pc := 69) (cks_at k_M_init 45 rfl rfl) ?_
  refine y_bipush X (pc := 70) (cks_at k_M_init 46 rfl rfl) (by decide) (by decide) ?_
  refine y_castL X (pc := 72) 1 116 (cks_at k_M_init 47 rfl rfl) (by decide) (by decide) ?_
  refine y_dup X (pc := 73) (cks_at k_M_init 48 rfl rfl) rfl ?_
  refine y_iconst X (pc := 74) (cks_at k_M_init 49 rfl rfl) ?_
  refine y_bipush X (pc := 75) (cks_at k_M_init 50 rfl rfl) (by decide) (by decide) ?_
  refine y_castL X (pc := 77) 2 114 (cks_at k_M_init 51 rfl rfl) (by decide) (by decide) ?_
  refine y_dup X (pc := 78) (cks_at k_M_init 52 rfl rfl) rfl ?_
  refine y_iconst X (pc := 79) (cks_at k_M_init 53 rfl rfl) ?_
  refine y_bipush X (pc := 80) (cks_at k_M_init 54 rfl rfl) (by decide) (by decide) ?_
  refine y_castL X (pc := 82) 3 101 (cks_at k_M_init 55 rfl rfl) (by decide) (by decide) ?_
  refine y_dup X (pc := 83) (cks_at k_M_init 56 rfl rfl) rfl ?_
  refine y_iconst X (pc := 84) (cks_at k_M_init 57 rfl rfl) ?_
  refine y_bipush X (pc := 85) (cks_at k_M_init 58 rfl rfl) (by decide) (by decide) ?_
  refine y_castL X (pc := 87) 4 101 (cks_at k_M_init 59 rfl rfl) (by decide) (by decide) ?_
  refine y_dup X (pc := 88) (cks_at k_M_init 60 rfl rfl) rfl ?_
  refine y_iconst X (pc := 89) (cks_at k_M_init 61 rfl rfl) ?_
  refine y_bipush X (pc := 90) (cks_at k_M_init 62 rfl rfl) (by decide) (by decide) ?_
  refine y_castL X (pc := 92) 5 116 (cks_at k_M_init 63 rfl rfl) (by decide) (by decide) ?_
  refine y_putF X (pc := 93) (ci := 12) (k0 := 11) (ty := .array .char) 0 (cks_at k_M_init 64 rfl rfl) rfl rfl (by decide) (in_6 (List.mem_of_getElem? (i := 119) rfl)) ⟨rfl, rfl, rfl⟩ hin (by decide +kernel) rfl rfl (by rw [hfs]; decide) ?_
  exact k q
set_option maxRecDepth 20000 in
set_option maxHeartbeats 4000000 in
theorem mc_96 {p : Program} {l : Launch} {e : Env} {R : Room} {s : State} {m : MethodId} {args : Array Value} {below : List Frame} {meth : Method} {c : Code} {Qf : State → Prop} {cA : Nat → ClassId} {D : va_G} {A : Nat → Prop} {cells slots : Nat} (X : Cy p s m args c "BreathTownModel" prog_14_method_1_code 1 cA D A) (hin : meth.name = "<init>") {h0 : Nat} {fs : List Value} {rest : va_W} (hfs : fs.length = 100) (hce : cells + 1 ≤ R.cells) (hsl : slots + 4 ≤ R.slots) (k : ∀ q : Nat, Yw p l e R s m args below meth c Qf 1 D A (cells + 1) (slots + 4) 123 [(0, .ref h0)] [] (mW h0 (fs.set 12 (.ref q)) (rest ++ [(q, .inl (cA 23, 4, .inl (upd (upd (upd (upd (fun _ => 0) 0 (nI 102)) 1 (nI 114)) 2 (nI 111)) 3 (nI 109))))]))) : Yw p l e R s m args below meth c Qf 1 D A cells slots 96 [(0, .ref h0)] [] (mW h0 fs rest) := by
  refine y_aload_n X (pc := 96) 0 (cks_at k_M_init 65 rfl rfl) rfl ?_
  refine y_iconst X (pc := 97) (cks_at k_M_init 66 rfl rfl) ?_
  refine y_newa X (pc := 98) 3 23 (n := 4) (a0 := (4, .inl (fun _ => 0))) (cks_at k_M_init 67 rfl rfl) (in_7 (List.mem_of_getElem? (i := 169) rfl)) rfl rfl (by decide) (fun _ => rfl) (by decide) hce hsl (fun q => ?_)
  refine y_eq (ws' := (h0, .inr (12, fs)) :: (rest ++ [(q, .inl (cA 23, 4, .inl (fun _ => 0)))])) rfl ?_
  refine y_dup X (pc := 100) (cks_at k_M_init 68 rfl rfl) rfl ?_
  refine y_iconst X (pc := 101) (cks_at k_M_init 69 rfl rfl) ?_
  refine y_bipush X (pc := 102) (cks_at k_M_init 70 rfl rfl) (by decide) (by decide) ?_
  refine y_castL X (pc := 104) 0 102 (cks_at k_M_init 71 rfl rfl) (by decide) (by decide) ?_
  refine y_dup X (pc := 105) (cks_at k_M_init 72 rfl rfl) rfl ?_
  refine y_iconst X (pc := 106) (cks_at k_M_init 73 rfl rfl) ?_
  refine y_bipush X (pc := 107) (cks_at k_M_init 74 rfl rfl) (by decide) (by decide) ?_
  refine y_castL X (pc := 109) 1 114 (cks_at k_M_init 75 rfl rfl) (by decide) (by decide) ?_
  refine y_dup X (pc := 110) (cks_at k_M_init 76 rfl rfl) rfl ?_
  refine y_iconst X (pc := 111) (cks_at k_M_init 77 rfl rfl) ?_
  refine y_bipush X (pc := 112) (cks_at k_M_init 78 rfl rfl) (by decide) (by decide) ?_
  refine y_castL X (pc := 114) 2 111 (cks_at k_M_init 79 rfl rfl) (by decide) (by decide) ?_
  refine y_dup X (pc := 115) (cks_at k_M_init 80 rfl rfl) rfl ?_
  refine y_iconst X (pc := 116) (cks_at k_M_init 81 rfl rfl) ?_
  refine y_bipush X (pc := 117) (cks_at k_M_init 82 rfl rfl) (by decide) (by decide) ?_
  refine y_castL X (pc := 119) 3 109 (cks_at k_M_init 83 rfl rfl) (by decide) (by decide) ?_
  refine y_putF X (pc := 120) (ci := 12) (k0 := 12) (ty := .array .char) 0 (cks_at k_M_init 84 rfl rfl) rfl rfl (by decide) (in_6 (List.mem_of_getElem? (i := 120) rfl)) ⟨rfl, rfl, rfl⟩ hin (by decide +kernel) rfl rfl (by rw [hfs]; decide) ?_
  exact k q
set_option maxRecDepth 20000 in
set_option maxHeartbeats 4000000 in
theorem mc_123 {p : Program} {l : Launch} {e : Env} {R : Room} {s : State} {m : MethodId} {args : Array Value} {below : List Frame} {meth : Method} {c : Code} {Qf : State → Prop} {cA : Nat → ClassId} {D : va_G} {A : Nat → Prop} {cells slots : Nat} (X : Cy p s m args c "BreathTownModel" prog_14_method_1_code 1 cA D A) (hin : meth.name = "<init>") {h0 : Nat} {fs : List Value} {rest : va_W} (hfs : fs.length = 100) (hce : cells + 1 ≤ R.cells) (hsl : slots + 2 ≤ R.slots) (k : ∀ q : Nat, Yw p l e R s m args below meth c Qf 1 D A (cells + 1) (slots + 2) 140 [(0, .ref h0)] [] (mW h0 (fs.set 13 (.ref q)) (rest ++ [(q, .inl (cA 23, 2, .inl (upd (upd (fun _ => 0) 0 (nI 116)) 1 (nI 111))))]))) : Yw p l e R s m args below meth c Qf 1 D A cells slots 123 [(0, .ref h0)] [] (mW h0 fs rest) := by
  refine y_aload_n X (pc := 123) 0 (cks_at k_M_init 85 rfl rfl) rfl ?_
  refine y_iconst X (pc := 124) (cks_at k_M_init 86 rfl rfl) ?_
  refine y_newa X (pc := 125) 3 23 (n := 2) (a0 := (2, .inl (fun _ => 0))) (cks_at k_M_init 87 rfl rfl) (in_7 (List.mem_of_getElem? (i := 169) rfl)) rfl rfl (by decide) (fun _ => rfl) (by decide) hce hsl (fun q => ?_)
  refine y_eq (ws' := (h0, .inr (12, fs)) :: (rest ++ [(q, .inl (cA 23, 2, .inl (fun _ => 0)))])) rfl ?_
  refine y_dup X (pc := 127) (cks_at k_M_init 88 rfl rfl) rfl ?_
  refine y_iconst X (pc := 128) (cks_at k_M_init 89 rfl rfl) ?_
  refine y_bipush X (pc := 129) (cks_at k_M_init 90 rfl rfl) (by decide) (by decide) ?_
  refine y_castL X (pc := 131) 0 116 (cks_at k_M_init 91 rfl rfl) (by decide) (by decide) ?_
  refine y_dup X (pc := 132) (cks_at k_M_init 92 rfl rfl) rfl ?_
  refine y_iconst X (pc := 133) (cks_at k_M_init 93 rfl rfl) ?_
  refine y_bipush X (pc := 134) (cks_at k_M_init 94 rfl rfl) (by decide) (by decide) ?_
  refine y_castL X (pc := 136) 1 111 (cks_at k_M_init 95 rfl rfl) (by decide) (by decide) ?_
  refine y_putF X (pc := 137) (ci := 12) (k0 := 13) (ty := .array .char) 0 (cks_at k_M_init 96 rfl rfl) rfl rfl (by decide) (in_6 (List.mem_of_getElem? (i := 121) rfl)) ⟨rfl, rfl, rfl⟩ hin (by decide +kernel) rfl rfl (by rw [hfs]; decide) ?_
  exact k q
set_option maxRecDepth 20000 in
set_option maxHeartbeats 4000000 in
theorem mc_140 {p : Program} {l : Launch} {e : Env} {R : Room} {s : State} {m : MethodId} {args : Array Value} {below : List Frame} {meth : Method} {c : Code} {Qf : State → Prop} {cA : Nat → ClassId} {D : va_G} {A : Nat → Prop} {cells slots : Nat} (X : Cy p s m args c "BreathTownModel" prog_14_method_1_code 1 cA D A) (hin : meth.name = "<init>") {h0 : Nat} {fs : List Value} {rest : va_W} (hfs : fs.length = 100) (hce : cells + 1 ≤ R.cells) (hsl : slots + 5 ≤ R.slots) (k : ∀ q : Nat, Yw p l e R s m args below meth c Qf 1 D A (cells + 1) (slots + 5) 172 [(0, .ref h0)] [] (mW h0 (fs.set 14 (.ref q)) (rest ++ [(q, .inl (cA 23, 5, .inl (upd (upd (upd (upd (upd (fun _ => 0) 0 (nI 116)) 1 (nI 97)) 2 (nI 107)) 3 (nI 101)) 4 (nI 115))))]))) : Yw p l e R s m args below meth c Qf 1 D A cells slots 140 [(0, .ref h0)] [] (mW h0 fs rest) := by
  refine y_aload_n X (pc := 140) 0 (cks_at k_M_init 97 rfl rfl) rfl ?_
  refine y_iconst X (pc := 141) (cks_at k_M_init 98 rfl rfl) ?_
  refine y_newa X (pc := 142) 3 23 (n := 5) (a0 := (5, .inl (fun _ => 0))) (cks_at k_M_init 99 rfl rfl) (in_7 (List.mem_of_getElem? (i := 169) rfl)) rfl rfl (by decide) (fun _ => rfl) (by decide) hce hsl (fun q => ?_)
  refine y_eq (ws' := (h0, .inr (12, fs)) :: (rest ++ [(q, .inl (cA 23, 5, .inl (fun _ => 0)))])) rfl ?_
  refine y_dup X (pc := 144) (cks_at k_M_init 100 rfl rfl) rfl ?_
  refine y_iconst X (pc := 145) (cks_at k_M_init 101 rfl rfl) ?_
  refine y_bipush X (pc := 146) (cks_at k_M_init 102 rfl rfl) (by decide) (by decide) ?_
  refine y_castL X (pc := 148) 0 116 (cks_at k_M_init 103 rfl rfl) (by decide) (by decide) ?_
  refine y_dup X (pc := 149) (cks_at k_M_init 104 rfl rfl) rfl ?_
  refine y_iconst X (pc := 150) (cks_at k_M_init 105 rfl rfl) ?_
  refine y_bipush X (pc := 151) (cks_at k_M_init 106 rfl rfl) (by decide) (by decide) ?_
  refine y_castL X (pc := 153) 1 97 (cks_at k_M_init 107 rfl rfl) (by decide) (by decide) ?_
  refine y_dup X (pc := 154) (cks_at k_M_init 108 rfl rfl) rfl ?_
  refine y_iconst X (pc := 155) (cks_at k_M_init 109 rfl rfl) ?_
  refine y_bipush X (pc := 156) (cks_at k_M_init 110 rfl rfl) (by decide) (by decide) ?_
  refine y_castL X (pc := 158) 2 107 (cks_at k_M_init 111 rfl rfl) (by decide) (by decide) ?_
  refine y_dup X (pc := 159) (cks_at k_M_init 112 rfl rfl) rfl ?_
  refine y_iconst X (pc := 160) (cks_at k_M_init 113 rfl rfl) ?_
  refine y_bipush X (pc := 161) (cks_at k_M_init 114 rfl rfl) (by decide) (by decide) ?_
  refine y_castL X (pc := 163) 3 101 (cks_at k_M_init 115 rfl rfl) (by decide) (by decide) ?_
  refine y_dup X (pc := 164) (cks_at k_M_init 116 rfl rfl) rfl ?_
  refine y_iconst X (pc := 165) (cks_at k_M_init 117 rfl rfl) ?_
  refine y_bipush X (pc := 166) (cks_at k_M_init 118 rfl rfl) (by decide) (by decide) ?_
  refine y_castL X (pc := 168) 4 115 (cks_at k_M_init 119 rfl rfl) (by decide) (by decide) ?_
  refine y_putF X (pc := 169) (ci := 12) (k0 := 14) (ty := .array .char) 0 (cks_at k_M_init 120 rfl rfl) rfl rfl (by decide) (in_6 (List.mem_of_getElem? (i := 122) rfl)) ⟨rfl, rfl, rfl⟩ hin (by decide +kernel) rfl rfl (by rw [hfs]; decide) ?_
  exact k q
set_option maxRecDepth 20000 in
set_option maxHeartbeats 4000000 in
theorem mc_172 {p : Program} {l : Launch} {e : Env} {R : Room} {s : State} {m : MethodId} {args : Array Value} {below : List Frame} {meth : Method} {c : Code} {Qf : State → Prop} {cA : Nat → ClassId} {D : va_G} {A : Nat → Prop} {cells slots : Nat} (X : Cy p s m args c "BreathTownModel" prog_14_method_1_code 1 cA D A) (hin : meth.name = "<init>") {h0 : Nat} {fs : List Value} {rest : va_W} (hfs : fs.length = 100) (hce : cells + 1 ≤ R.cells) (hsl : slots + 5 ≤ R.slots) (k : ∀ q : Nat, Yw p l e R s m args below meth c Qf 1 D A (cells + 1) (slots + 5) 204 [(0, .ref h0)] [] (mW h0 (fs.set 15 (.ref q)) (rest ++ [(q, .inl (cA 23, 5, .inl (upd (upd (upd (upd (upd (fun _ => 0) 0 (nI 114)) 1 (nI 111)) 2 (nI 117)) 3 (nI 110)) 4 (nI 100))))]))) : Yw p l e R s m args below meth c Qf 1 D A cells slots 172 [(0, .ref h0)] [] (mW h0 fs rest) := by
  refine y_aload_n X (pc := 172) 0 (cks_at k_M_init 121 rfl rfl) rfl ?_
  refine y_iconst X (pc := 173) (cks_at k_M_init 122 rfl rfl) ?_
  refine y_newa X (pc := 174) 3 23 (n := 5) (a0 := (5, .inl (fun _ => 0))) (cks_at k_M_init 123 rfl rfl) (in_7 (List.mem_of_getElem? (i := 169) rfl)) rfl rfl (by decide) (fun _ => rfl) (by decide) hce hsl (fun q => ?_)
  refine y_eq (ws' := (h0, .inr (12, fs)) :: (rest ++ [(q, .inl (cA 23, 5, .inl (fun _ => 0)))])) rfl ?_
  refine y_dup X (pc := 176) (cks_at k_M_init 124 rfl rfl) rfl ?_
  refine y_iconst X (pc := 177) (cks_at k_M_init 125 rfl rfl) ?_
  refine y_bipush X (pc := 178) (cks_at k_M_init 126 rfl rfl) (by decide) (by decide) ?_
  refine y_castL X (pc := 180) 0 114 (cks_at k_M_init 127 rfl rfl) (by decide) (by decide) ?_
  refine y_dup X (pc := 181) (cks_at k_M_init 128 rfl rfl) rfl ?_
  refine y_iconst X (pc := 182) (cks_at k_M_init 129 rfl rfl) ?_
  refine y_bipush X (pc := 183) (cks_at k_M_init 130 rfl rfl) (by decide) (by decide) ?_
  refine y_castL X (pc := 185) 1 111 (cks_at k_M_init 131 rfl rfl) (by decide) (by decide) ?_
  refine y_dup X (pc := 186) (cks_at k_M_init 132 rfl rfl) rfl ?_
  refine y_iconst X (pc := 187) (cks_at k_M_init 133 rfl rfl) ?_
  refine y_bipush X (pc := 188) (cks_at k_M_init 134 rfl rfl) (by decide) (by decide) ?_
  refine y_castL X (pc := 190) 2 117 (cks_at k_M_init 135 rfl rfl) (by decide) (by decide) ?_
  refine y_dup X (pc := 191) (cks_at k_M_init 136 rfl rfl) rfl ?_
  refine y_iconst X (pc := 192) (cks_at k_M_init 137 rfl rfl) ?_
  refine y_bipush X (pc := 193) (cks_at k_M_init 138 rfl rfl) (by decide) (by decide) ?_
  refine y_castL X (pc := 195) 3 110 (cks_at k_M_init 139 rfl rfl) (by decide) (by decide) ?_
  refine y_dup X (pc := 196) (cks_at k_M_init 140 rfl rfl) rfl ?_
  refine y_iconst X (pc := 197) (cks_at k_M_init 141 rfl rfl) ?_
  refine y_bipush X (pc := 198) (cks_at k_M_init 142 rfl rfl) (by decide) (by decide) ?_
  refine y_castL X (pc := 200) 4 100 (cks_at k_M_init 143 rfl rfl) (by decide) (by decide) ?_
  refine y_putF X (pc := 201) (ci := 12) (k0 := 15) (ty := .array .char) 0 (cks_at k_M_init 144 rfl rfl) rfl rfl (by decide) (in_6 (List.mem_of_getElem? (i := 123) rfl)) ⟨rfl, rfl, rfl⟩ hin (by decide +kernel) rfl rfl (by rw [hfs]; decide) ?_
  exact k q
set_option maxRecDepth 20000 in
set_option maxHeartbeats 4000000 in
theorem mc_204 {p : Program} {l : Launch} {e : Env} {R : Room} {s : State} {m : MethodId} {args : Array Value} {below : List Frame} {meth : Method} {c : Code} {Qf : State → Prop} {cA : Nat → ClassId} {D : va_G} {A : Nat → Prop} {cells slots : Nat} (X : Cy p s m args c "BreathTownModel" prog_14_method_1_code 1 cA D A) (hin : meth.name = "<init>") {h0 : Nat} {fs : List Value} {rest : va_W} (hfs : fs.length = 100) (hce : cells + 1 ≤ R.cells) (hsl : slots + 5 ≤ R.slots) (k : ∀ q : Nat, Yw p l e R s m args below meth c Qf 1 D A (cells + 1) (slots + 5) 236 [(0, .ref h0)] [] (mW h0 (fs.set 16 (.ref q)) (rest ++ [(q, .inl (cA 23, 5, .inl (upd (upd (upd (upd (upd (fun _ => 0) 0 (nI 115)) 1 (nI 104)) 2 (nI 105)) 3 (nI 102)) 4 (nI 116))))]))) : Yw p l e R s m args below meth c Qf 1 D A cells slots 204 [(0, .ref h0)] [] (mW h0 fs rest) := by
  refine y_aload_n X (pc := 204) 0 (cks_at k_M_init 145 rfl rfl) rfl ?_
  refine y_iconst X (pc := 205) (cks_at k_M_init 146 rfl rfl) ?_
  refine y_newa X (pc := 206) 3 23 (n := 5) (a0 := (5, .inl (fun _ => 0))) (cks_at k_M_init 147 rfl rfl) (in_7 (List.mem_of_getElem? (i := 169) rfl)) rfl rfl (by decide) (fun _ => rfl) (by decide) hce hsl (fun q => ?_)
  refine y_eq (ws' := (h0, .inr (12, fs)) :: (rest ++ [(q, .inl (cA 23, 5, .inl (fun _ => 0)))])) rfl ?_
  refine y_dup X (pc := 208) (cks_at k_M_init 148 rfl rfl) rfl ?_
  refine y_iconst X (pc := 209) (cks_at k_M_init 149 rfl rfl) ?_
  refine y_bipush X (pc := 210) (cks_at k_M_init 150 rfl rfl) (by decide) (by decide) ?_
  refine y_castL X (pc := 212) 0 115 (cks_at k_M_init 151 rfl rfl) (by decide) (by decide) ?_
  refine y_dup X (pc := 213) (cks_at k_M_init 152 rfl rfl) rfl ?_
  refine y_iconst X (pc := 214) (cks_at k_M_init 153 rfl rfl) ?_
  refine y_bipush X (pc := 215) (cks_at k_M_init 154 rfl rfl) (by decide) (by decide) ?_
  refine y_castL X (pc := 217) 1 104 (cks_at k_M_init 155 rfl rfl) (by decide) (by decide) ?_
  refine y_dup X (pc := 218) (cks_at k_M_init 156 rfl rfl) rfl ?_
  refine y_iconst X (pc := 219) (cks_at k_M_init 157 rfl rfl) ?_
  refine y_bipush X (pc := 220) (cks_at k_M_init 158 rfl rfl) (by decide) (by decide) ?_
  refine y_castL X (pc := 222) 2 105 (cks_at k_M_init 159 rfl rfl) (by decide) (by decide) ?_
  refine y_dup X (pc := 223) (cks_at k_M_init 160 rfl rfl) rfl ?_
  refine y_iconst X (pc := 224) (cks_at k_M_init 161 rfl rfl) ?_
  refine y_bipush X (pc := 225) (cks_at k_M_init 162 rfl rfl) (by decide) (by decide) ?_
  refine y_castL X (pc := 227) 3 102 (cks_at k_M_init 163 rfl rfl) (by decide) (by decide) ?_
  refine y_dup X (pc := 228) (cks_at k_M_init 164 rfl rfl) rfl ?_
  refine y_iconst X (pc := 229) (cks_at k_M_init 165 rfl rfl) ?_
  refine y_bipush X (pc := 230) (cks_at k_M_init 166 rfl rfl) (by decide) (by decide) ?_
  refine y_castL X (pc := 232) 4 116 (cks_at k_M_init 167 rfl rfl) (by decide) (by decide) ?_
  refine y_putF X (pc := 233) (ci := 12) (k0 := 16) (ty := .array .char) 0 (cks_at k_M_init 168 rfl rfl) rfl rfl (by decide) (in_6 (List.mem_of_getElem? (i := 124) rfl)) ⟨rfl, rfl, rfl⟩ hin (by decide +kernel) rfl rfl (by rw [hfs]; decide) ?_
  exact k q
set_option maxRecDepth 20000 in
set_option maxHeartbeats 4000000 in
theorem mc_236 {p : Program} {l : Launch} {e : Env} {R : Room} {s : State} {m : MethodId} {args : Array Value} {below : List Frame} {meth : Method} {c : Code} {Qf : State → Prop} {cA : Nat → ClassId} {D : va_G} {A : Nat → Prop} {cells slots : Nat} (X : Cy p s m args c "BreathTownModel" prog_14_method_1_code 1 cA D A) (hin : meth.name = "<init>") {h0 : Nat} {fs : List Value} {rest : va_W} (hfs : fs.length = 100) (hce : cells + 1 ≤ R.cells) (hsl : slots + 4 ≤ R.slots) (k : ∀ q : Nat, Yw p l e R s m args below meth c Qf 1 D A (cells + 1) (slots + 4) 263 [(0, .ref h0)] [] (mW h0 (fs.set 17 (.ref q)) (rest ++ [(q, .inl (cA 23, 4, .inl (upd (upd (upd (upd (fun _ => 0) 0 (nI 119)) 1 (nI 105)) 2 (nI 100)) 3 (nI 101))))]))) : Yw p l e R s m args below meth c Qf 1 D A cells slots 236 [(0, .ref h0)] [] (mW h0 fs rest) := by
  refine y_aload_n X (pc := 236) 0 (cks_at k_M_init 169 rfl rfl) rfl ?_
  refine y_iconst X (pc := 237) (cks_at k_M_init 170 rfl rfl) ?_
  refine y_newa X (pc := 238) 3 23 (n := 4) (a0 := (4, .inl (fun _ => 0))) (cks_at k_M_init 171 rfl rfl) (in_7 (List.mem_of_getElem? (i := 169) rfl)) rfl rfl (by decide) (fun _ => rfl) (by decide) hce hsl (fun q => ?_)
  refine y_eq (ws' := (h0, .inr (12, fs)) :: (rest ++ [(q, .inl (cA 23, 4, .inl (fun _ => 0)))])) rfl ?_
  refine y_dup X (pc := 240) (cks_at k_M_init 172 rfl rfl) rfl ?_
  refine y_iconst X (pc := 241) (cks_at k_M_init 173 rfl rfl) ?_
  refine y_bipush X (pc := 242) (cks_at k_M_init 174 rfl rfl) (by decide) (by decide) ?_
  refine y_castL X (pc := 244) 0 119 (cks_at k_M_init 175 rfl rfl) (by decide) (by decide) ?_
  refine y_dup X (pc := 245) (cks_at k_M_init 176 rfl rfl) rfl ?_
  refine y_iconst X (pc := 246) (cks_at k_M_init 177 rfl rfl) ?_
  refine y_bipush X (pc := 247) (cks_at k_M_init 178 rfl rfl) (by decide) (by decide) ?_
  refine y_castL X (pc := 249) 1 105 (cks_at k_M_init 179 rfl rfl) (by decide) (by decide) ?_
  refine y_dup X (pc := 250) (cks_at k_M_init 180 rfl rfl) rfl ?_
  refine y_iconst X (pc := 251) (cks_at k_M_init 181 rfl rfl) ?_
  refine y_bipush X (pc := 252) (cks_at k_M_init 182 rfl rfl) (by decide) (by decide) ?_
  refine y_castL X (pc := 254) 2 100 (cks_at k_M_init 183 rfl rfl) (by decide) (by decide) ?_
  refine y_dup X (pc := 255) (cks_at k_M_init 184 rfl rfl) rfl ?_
  refine y_iconst X (pc := 256) (cks_at k_M_init 185 rfl rfl) ?_
  refine y_bipush X (pc := 257) (cks_at k_M_init 186 rfl rfl) (by decide) (by decide) ?_
  refine y_castL X (pc := 259) 3 101 (cks_at k_M_init 187 rfl rfl) (by decide) (by decide) ?_
  refine y_putF X (pc := 260) (ci := 12) (k0 := 17) (ty := .array .char) 0 (cks_at k_M_init 188 rfl rfl) rfl rfl (by decide) (in_6 (List.mem_of_getElem? (i := 125) rfl)) ⟨rfl, rfl, rfl⟩ hin (by decide +kernel) rfl rfl (by rw [hfs]; decide) ?_
  exact k q
set_option maxRecDepth 20000 in
set_option maxHeartbeats 4000000 in
theorem mc_263 {p : Program} {l : Launch} {e : Env} {R : Room} {s : State} {m : MethodId} {args : Array Value} {below : List Frame} {meth : Method} {c : Code} {Qf : State → Prop} {cA : Nat → ClassId} {D : va_G} {A : Nat → Prop} {cells slots : Nat} (X : Cy p s m args c "BreathTownModel" prog_14_method_1_code 1 cA D A) (hin : meth.name = "<init>") {h0 : Nat} {fs : List Value} {rest : va_W} (hfs : fs.length = 100) (hce : cells + 1 ≤ R.cells) (hsl : slots + 6 ≤ R.slots) (k : ∀ q : Nat, Yw p l e R s m args below meth c Qf 1 D A (cells + 1) (slots + 6) 301 [(0, .ref h0)] [] (mW h0 (fs.set 18 (.ref q)) (rest ++ [(q, .inl (cA 23, 6, .inl (upd (upd (upd (upd (upd (upd (fun _ => 0) 0 (nI 119)) 1 (nI 97)) 2 (nI 108)) 3 (nI 107)) 4 (nI 101)) 5 (nI 114))))]))) : Yw p l e R s m args below meth c Qf 1 D A cells slots 263 [(0, .ref h0)] [] (mW h0 fs rest) := by
  refine y_aload_n X (pc := 263) 0 (cks_at k_M_init 189 rfl rfl) rfl ?_
  refine y_bipush X (pc := 264) (cks_at k_M_init 190 rfl rfl) (by decide) (by decide) ?_
  refine y_newa X (pc := 266) 3 23 (n := 6) (a0 := (6, .inl (fun _ => 0))) (cks_at k_M_init 191 rfl rfl) (in_7 (List.mem_of_getElem? (i := 169) rfl)) rfl rfl (by decide) (fun _ => rfl) (by decide) hce hsl (fun q => ?_)
  refine y_eq (ws' := (h0, .inr (12, fs)) :: (rest ++ [(q, .inl (cA 23, 6, .inl (fun _ => 0)))])) rfl ?_
  refine y_dup X (pc := 268) (cks_at k_M_init 192 rfl rfl) rfl ?_
  refine y_iconst X (pc := 269) (cks_at k_M_init 193 rfl rfl) ?_
  refine y_bipush X (pc := 270) (cks_at k_M_init 194 rfl rfl) (by decide) (by decide) ?_
  refine y_castL X (pc := 272) 0 119 (cks_at k_M_init 195 rfl rfl) (by decide) (by decide) ?_
  refine y_dup X (pc := 273) (cks_at k_M_init 196 rfl rfl) rfl ?_
  refine y_iconst X (pc := 274) (cks_at k_M_init 197 rfl rfl) ?_
  refine y_bipush X (pc := 275) (cks_at k_M_init 198 rfl rfl) (by decide) (by decide) ?_
  refine y_castL X (pc := 277) 1 97 (cks_at k_M_init 199 rfl rfl) (by decide) (by decide) ?_
  refine y_dup X (pc := 278) (cks_at k_M_init 200 rfl rfl) rfl ?_
  refine y_iconst X (pc := 279) (cks_at k_M_init 201 rfl rfl) ?_
  refine y_bipush X (pc := 280) (cks_at k_M_init 202 rfl rfl) (by decide) (by decide) ?_
  refine y_castL X (pc := 282) 2 108 (cks_at k_M_init 203 rfl rfl) (by decide) (by decide) ?_
  refine y_dup X (pc := 283) (cks_at k_M_init 204 rfl rfl) rfl ?_
  refine y_iconst X (pc := 284) (cks_at k_M_init 205 rfl rfl) ?_
  refine y_bipush X (pc := 285) (cks_at k_M_init 206 rfl rfl) (by decide) (by decide) ?_
  refine y_castL X (pc := 287) 3 107 (cks_at k_M_init 207 rfl rfl) (by decide) (by decide) ?_
  refine y_dup X (pc := 288) (cks_at k_M_init 208 rfl rfl) rfl ?_
  refine y_iconst X (pc := 289) (cks_at k_M_init 209 rfl rfl) ?_
  refine y_bipush X (pc := 290) (cks_at k_M_init 210 rfl rfl) (by decide) (by decide) ?_
  refine y_castL X (pc := 292) 4 101 (cks_at k_M_init 211 rfl rfl) (by decide) (by decide) ?_
  refine y_dup X (pc := 293) (cks_at k_M_init 212 rfl rfl) rfl ?_
  refine y_iconst X (pc := 294) (cks_at k_M_init 213 rfl rfl) ?_
  refine y_bipush X (pc := 295) (cks_at k_M_init 214 rfl rfl) (by decide) (by decide) ?_
  refine y_castL X (pc := 297) 5 114 (cks_at k_M_init 215 rfl rfl) (by decide) (by decide) ?_
  refine y_putF X (pc := 298) (ci := 12) (k0 := 18) (ty := .array .char) 0 (cks_at k_M_init 216 rfl rfl) rfl rfl (by decide) (in_6 (List.mem_of_getElem? (i := 126) rfl)) ⟨rfl, rfl, rfl⟩ hin (by decide +kernel) rfl rfl (by rw [hfs]; decide) ?_
  exact k q
set_option maxRecDepth 20000 in
set_option maxHeartbeats 4000000 in
theorem mc_301 {p : Program} {l : Launch} {e : Env} {R : Room} {s : State} {m : MethodId} {args : Array Value} {below : List Frame} {meth : Method} {c : Code} {Qf : State → Prop} {cA : Nat → ClassId} {D : va_G} {A : Nat → Prop} {cells slots : Nat} (X : Cy p s m args c "BreathTownModel" prog_14_method_1_code 1 cA D A) (hin : meth.name = "<init>") {h0 : Nat} {fs : List Value} {rest : va_W} (hfs : fs.length = 100) (hce : cells + 1 ≤ R.cells) (hsl : slots + 5 ≤ R.slots) (k : ∀ q : Nat, Yw p l e R s m args below meth c Qf 1 D A (cells + 1) (slots + 5) 333 [(0, .ref h0)] [] (mW h0 (fs.set 19 (.ref q)) (rest ++ [(q, .inl (cA 23, 5, .inl (upd (upd (upd (upd (upd (fun _ => 0) 0 (nI 98)) 1 (nI 114)) 2 (nI 111)) 3 (nI 97)) 4 (nI 100))))]))) : Yw p l e R s m args below meth c Qf 1 D A cells slots 301 [(0, .ref h0)] [] (mW h0 fs rest) := by
  refine y_aload_n X (pc := 301) 0 (cks_at k_M_init 217 rfl rfl) rfl ?_
  refine y_iconst X (pc := 302) (cks_at k_M_init 218 rfl rfl) ?_
  refine y_newa X (pc := 303) 3 23 (n := 5) (a0 := (5, .inl (fun _ => 0))) (cks_at k_M_init 219 rfl rfl) (in_7 (List.mem_of_getElem? (i := 169) rfl)) rfl rfl (by decide) (fun _ => rfl) (by decide) hce hsl (fun q => ?_)
  refine y_eq (ws' := (h0, .inr (12, fs)) :: (rest ++ [(q, .inl (cA 23, 5, .inl (fun _ => 0)))])) rfl ?_
  refine y_dup X (pc := 305) (cks_at k_M_init 220 rfl rfl) rfl ?_
  refine y_iconst X (pc := 306) (cks_at k_M_init 221 rfl rfl) ?_
  refine y_bipush X (pc := 307) (cks_at k_M_init 222 rfl rfl) (by decide) (by decide) ?_
  refine y_castL X (pc := 309) 0 98 (cks_at k_M_init 223 rfl rfl) (by decide) (by decide) ?_
  refine y_dup X (pc := 310) (cks_at k_M_init 224 rfl rfl) rfl ?_
  refine y_iconst X (pc := 311) (cks_at k_M_init 225 rfl rfl) ?_
  refine y_bipush X (pc := 312) (cks_at k_M_init 226 rfl rfl) (by decide) (by decide) ?_
  refine y_castL X (pc := 314) 1 114 (cks_at k_M_init 227 rfl rfl) (by decide) (by decide) ?_
  refine y_dup X (pc := 315) (cks_at k_M_init 228 rfl rfl) rfl ?_
  refine y_iconst X (pc := 316) (cks_at k_M_init 229 rfl rfl) ?_
  refine y_bipush X (pc := 317) (cks_at k_M_init 230 rfl rfl) (by decide) (by decide) ?_
  refine y_castL X (pc := 319) 2 111 (cks_at k_M_init 231 rfl rfl) (by decide) (by decide) ?_
  refine y_dup X (pc := 320) (cks_at k_M_init 232 rfl rfl) rfl ?_
  refine y_iconst X (pc := 321) (cks_at k_M_init 233 rfl rfl) ?_
  refine y_bipush X (pc := 322) (cks_at k_M_init 234 rfl rfl) (by decide) (by decide) ?_
  refine y_castL X (pc := 324) 3 97 (cks_at k_M_init 235 rfl rfl) (by decide) (by decide) ?_
  refine y_dup X (pc := 325) (cks_at k_M_init 236 rfl rfl) rfl ?_
  refine y_iconst X (pc := 326) (cks_at k_M_init 237 rfl rfl) ?_
  refine y_bipush X (pc := 327) (cks_at k_M_init 238 rfl rfl) (by decide) (by decide) ?_
  refine y_castL X (pc := 329) 4 100 (cks_at k_M_init 239 rfl rfl) (by decide) (by decide) ?_
  refine y_putF X (pc := 330) (ci := 12) (k0 := 19) (ty := .array .char) 0 (cks_at k_M_init 240 rfl rfl) rfl rfl (by decide) (in_6 (List.mem_of_getElem? (i := 127) rfl)) ⟨rfl, rfl, rfl⟩ hin (by decide +kernel) rfl rfl (by rw [hfs]; decide) ?_
  exact k q
set_option maxRecDepth 20000 in
set_option maxHeartbeats 4000000 in
theorem mc_333 {p : Program} {l : Launch} {e : Env} {R : Room} {s : State} {m : MethodId} {args : Array Value} {below : List Frame} {meth : Method} {c : Code} {Qf : State → Prop} {cA : Nat → ClassId} {D : va_G} {A : Nat → Prop} {cells slots : Nat} (X : Cy p s m args c "BreathTownModel" prog_14_method_1_code 1 cA D A) (hin : meth.name = "<init>") {h0 : Nat} {fs : List Value} {rest : va_W} (hfs : fs.length = 100) (hce : cells + 1 ≤ R.cells) (hsl : slots + 2 ≤ R.slots) (k : ∀ q : Nat, Yw p l e R s m args below meth c Qf 1 D A (cells + 1) (slots + 2) 350 [(0, .ref h0)] [] (mW h0 (fs.set 20 (.ref q)) (rest ++ [(q, .inl (cA 23, 2, .inl (upd (upd (fun _ => 0) 0 (nI 97)) 1 (nI 116))))]))) : Yw p l e R s m args below meth c Qf 1 D A cells slots 333 [(0, .ref h0)] [] (mW h0 fs rest) := by
  refine y_aload_n X (pc := 333) 0 (cks_at k_M_init 241 rfl rfl) rfl ?_
  refine y_iconst X (pc := 334) (cks_at k_M_init 242 rfl rfl) ?_
  refine y_newa X (pc := 335) 3 23 (n := 2) (a0 := (2, .inl (fun _ => 0))) (cks_at k_M_init 243 rfl rfl) (in_7 (List.mem_of_getElem? (i := 169) rfl)) rfl rfl (by decide) (fun _ => rfl) (by decide) hce hsl (fun q => ?_)
  refine y_eq (ws' := (h0, .inr (12, fs)) :: (rest ++ [(q, .inl (cA 23, 2, .inl (fun _ => 0)))])) rfl ?_
  refine y_dup X (pc := 337) (cks_at k_M_init 244 rfl rfl) rfl ?_
  refine y_iconst X (pc := 338) (cks_at k_M_init 245 rfl rfl) ?_
  refine y_bipush X (pc := 339) (cks_at k_M_init 246 rfl rfl) (by decide) (by decide) ?_
  refine y_castL X (pc := 341) 0 97 (cks_at k_M_init 247 rfl rfl) (by decide) (by decide) ?_
  refine y_dup X (pc := 342) (cks_at k_M_init 248 rfl rfl) rfl ?_
  refine y_iconst X (pc := 343) (cks_at k_M_init 249 rfl rfl) ?_
  refine y_bipush X (pc := 344) (cks_at k_M_init 250 rfl rfl) (by decide) (by decide) ?_
  refine y_castL X (pc := 346) 1 116 (cks_at k_M_init 251 rfl rfl) (by decide) (by decide) ?_
  refine y_putF X (pc := 347) (ci := 12) (k0 := 20) (ty := .array .char) 0 (cks_at k_M_init 252 rfl rfl) rfl rfl (by decide) (in_6 (List.mem_of_getElem? (i := 128) rfl)) ⟨rfl, rfl, rfl⟩ hin (by decide +kernel) rfl rfl (by rw [hfs]; decide) ?_
  exact k q
set_option maxRecDepth 20000 in
set_option maxHeartbeats 4000000 in
theorem mc_350 {p : Program} {l : Launch} {e : Env} {R : Room} {s : State} {m : MethodId} {args : Array Value} {below : List Frame} {meth : Method} {c : Code} {Qf : State → Prop} {cA : Nat → ClassId} {D : va_G} {A : Nat → Prop} {cells slots : Nat} (X : Cy p s m args c "BreathTownModel" prog_14_method_1_code 1 cA D A) (hin : meth.name = "<init>") {h0 : Nat} {fs : List Value} {rest : va_W} (hfs : fs.length = 100) (hce : cells + 1 ≤ R.cells) (hsl : slots + 5 ≤ R.slots) (k : ∀ q : Nat, Yw p l e R s m args below meth c Qf 1 D A (cells + 1) (slots + 5) 382 [(0, .ref h0)] [] (mW h0 (fs.set 21 (.ref q)) (rest ++ [(q, .inl (cA 23, 5, .inl (upd (upd (upd (upd (upd (fun _ => 0) 0 (nI 98)) 1 (nI 101)) 2 (nI 103)) 3 (nI 105)) 4 (nI 110))))]))) : Yw p l e R s m args below meth c Qf 1 D A cells slots 350 [(0, .ref h0)] [] (mW h0 fs rest) := by
  refine y_aload_n X (pc := 350) 0 (cks_at k_M_init 253 rfl rfl) rfl ?_
  refine y_iconst X (pc := 351) (cks_at k_M_init 254 rfl rfl) ?_
  refine y_newa X (pc := 352) 3 23 (n := 5) (a0 := (5, .inl (fun _ => 0))) (cks_at k_M_init 255 rfl rfl) (in_7 (List.mem_of_getElem? (i := 169) rfl)) rfl rfl (by decide) (fun _ => rfl) (by decide) hce hsl (fun q => ?_)
  refine y_eq (ws' := (h0, .inr (12, fs)) :: (rest ++ [(q, .inl (cA 23, 5, .inl (fun _ => 0)))])) rfl ?_
  refine y_dup X (pc := 354) (cks_at k_M_init 256 rfl rfl) rfl ?_
  refine y_iconst X (pc := 355) (cks_at k_M_init 257 rfl rfl) ?_
  refine y_bipush X (pc := 356) (cks_at k_M_init 258 rfl rfl) (by decide) (by decide) ?_
  refine y_castL X (pc := 358) 0 98 (cks_at k_M_init 259 rfl rfl) (by decide) (by decide) ?_
  refine y_dup X (pc := 359) (cks_at k_M_init 260 rfl rfl) rfl ?_
  refine y_iconst X (pc := 360) (cks_at k_M_init 261 rfl rfl) ?_
  refine y_bipush X (pc := 361) (cks_at k_M_init 262 rfl rfl) (by decide) (by decide) ?_
  refine y_castL X (pc := 363) 1 101 (cks_at k_M_init 263 rfl rfl) (by decide) (by decide) ?_
  refine y_dup X (pc := 364) (cks_at k_M_init 264 rfl rfl) rfl ?_
  refine y_iconst X (pc := 365) (cks_at k_M_init 265 rfl rfl) ?_
  refine y_bipush X (pc := 366) (cks_at k_M_init 266 rfl rfl) (by decide) (by decide) ?_
  refine y_castL X (pc := 368) 2 103 (cks_at k_M_init 267 rfl rfl) (by decide) (by decide) ?_
  refine y_dup X (pc := 369) (cks_at k_M_init 268 rfl rfl) rfl ?_
  refine y_iconst X (pc := 370) (cks_at k_M_init 269 rfl rfl) ?_
  refine y_bipush X (pc := 371) (cks_at k_M_init 270 rfl rfl) (by decide) (by decide) ?_
  refine y_castL X (pc := 373) 3 105 (cks_at k_M_init 271 rfl rfl) (by decide) (by decide) ?_
  refine y_dup X (pc := 374) (cks_at k_M_init 272 rfl rfl) rfl ?_
  refine y_iconst X (pc := 375) (cks_at k_M_init 273 rfl rfl) ?_
  refine y_bipush X (pc := 376) (cks_at k_M_init 274 rfl rfl) (by decide) (by decide) ?_
  refine y_castL X (pc := 378) 4 110 (cks_at k_M_init 275 rfl rfl) (by decide) (by decide) ?_
  refine y_putF X (pc := 379) (ci := 12) (k0 := 21) (ty := .array .char) 0 (cks_at k_M_init 276 rfl rfl) rfl rfl (by decide) (in_6 (List.mem_of_getElem? (i := 129) rfl)) ⟨rfl, rfl, rfl⟩ hin (by decide +kernel) rfl rfl (by rw [hfs]; decide) ?_
  exact k q
set_option maxRecDepth 20000 in
set_option maxHeartbeats 4000000 in
theorem mc_382 {p : Program} {l : Launch} {e : Env} {R : Room} {s : State} {m : MethodId} {args : Array Value} {below : List Frame} {meth : Method} {c : Code} {Qf : State → Prop} {cA : Nat → ClassId} {D : va_G} {A : Nat → Prop} {cells slots : Nat} (X : Cy p s m args c "BreathTownModel" prog_14_method_1_code 1 cA D A) (hin : meth.name = "<init>") {h0 : Nat} {fs : List Value} {rest : va_W} (hfs : fs.length = 100) (hce : cells + 1 ≤ R.cells) (hsl : slots + 4 ≤ R.slots) (k : ∀ q : Nat, Yw p l e R s m args below meth c Qf 1 D A (cells + 1) (slots + 4) 409 [(0, .ref h0)] [] (mW h0 (fs.set 22 (.ref q)) (rest ++ [(q, .inl (cA 23, 4, .inl (upd (upd (upd (upd (fun _ => 0) 0 (nI 116)) 1 (nI 105)) 2 (nI 100)) 3 (nI 101))))]))) : Yw p l e R s m args below meth c Qf 1 D A cells slots 382 [(0, .ref h0)] [] (mW h0 fs rest) := by
  refine y_aload_n X (pc := 382) 0 (cks_at k_M_init 277 rfl rfl) rfl ?_
  refine y_iconst X (pc := 383) (cks_at k_M_init 278 rfl rfl) ?_
  refine y_newa X (pc := 384) 3 23 (n := 4) (a0 := (4, .inl (fun _ => 0))) (cks_at k_M_init 279 rfl rfl) (in_7 (List.mem_of_getElem? (i := 169) rfl)) rfl rfl (by decide) (fun _ => rfl) (by decide) hce hsl (fun q => ?_)
  refine y_eq (ws' := (h0, .inr (12, fs)) :: (rest ++ [(q, .inl (cA 23, 4, .inl (fun _ => 0)))])) rfl ?_
  refine y_dup X (pc := 386) (cks_at k_M_init 280 rfl rfl) rfl ?_
  refine y_iconst X (pc := 387) (cks_at k_M_init 281 rfl rfl) ?_
  refine y_bipush X (pc := 388) (cks_at k_M_init 282 rfl rfl) (by decide) (by decide) ?_
  refine y_castL X (pc := 390) 0 116 (cks_at k_M_init 283 rfl rfl) (by decide) (by decide) ?_
  refine y_dup X (pc := 391) (cks_at k_M_init 284 rfl rfl) rfl ?_
  refine y_iconst X (pc := 392) (cks_at k_M_init 285 rfl rfl) ?_
  refine y_bipush X (pc := 393) (cks_at k_M_init 286 rfl rfl) (by decide) (by decide) ?_
  refine y_castL X (pc := 395) 1 105 (cks_at k_M_init 287 rfl rfl) (by decide) (by decide) ?_
  refine y_dup X (pc := 396) (cks_at k_M_init 288 rfl rfl) rfl ?_
  refine y_iconst X (pc := 397) (cks_at k_M_init 289 rfl rfl) ?_
  refine y_bipush X (pc := 398) (cks_at k_M_init 290 rfl rfl) (by decide) (by decide) ?_
  refine y_castL X (pc := 400) 2 100 (cks_at k_M_init 291 rfl rfl) (by decide) (by decide) ?_
  refine y_dup X (pc := 401) (cks_at k_M_init 292 rfl rfl) rfl ?_
  refine y_iconst X (pc := 402) (cks_at k_M_init 293 rfl rfl) ?_
  refine y_bipush X (pc := 403) (cks_at k_M_init 294 rfl rfl) (by decide) (by decide) ?_
  refine y_castL X (pc := 405) 3 101 (cks_at k_M_init 295 rfl rfl) (by decide) (by decide) ?_
  refine y_putF X (pc := 406) (ci := 12) (k0 := 22) (ty := .array .char) 0 (cks_at k_M_init 296 rfl rfl) rfl rfl (by decide) (in_6 (List.mem_of_getElem? (i := 130) rfl)) ⟨rfl, rfl, rfl⟩ hin (by decide +kernel) rfl rfl (by rw [hfs]; decide) ?_
  exact k q
set_option maxRecDepth 20000 in
set_option maxHeartbeats 4000000 in
theorem mc_409 {p : Program} {l : Launch} {e : Env} {R : Room} {s : State} {m : MethodId} {args : Array Value} {below : List Frame} {meth : Method} {c : Code} {Qf : State → Prop} {cA : Nat → ClassId} {D : va_G} {A : Nat → Prop} {cells slots : Nat} (X : Cy p s m args c "BreathTownModel" prog_14_method_1_code 1 cA D A) (hin : meth.name = "<init>") {h0 : Nat} {fs : List Value} {rest : va_W} (hfs : fs.length = 100) (hce : cells + 1 ≤ R.cells) (hsl : slots + 5 ≤ R.slots) (k : ∀ q : Nat, Yw p l e R s m args below meth c Qf 1 D A (cells + 1) (slots + 5) 441 [(0, .ref h0)] [] (mW h0 (fs.set 23 (.ref q)) (rest ++ [(q, .inl (cA 23, 5, .inl (upd (upd (upd (upd (upd (fun _ => 0) 0 (nI 99)) 1 (nI 108)) 2 (nI 111)) 3 (nI 99)) 4 (nI 107))))]))) : Yw p l e R s m args below meth c Qf 1 D A cells slots 409 [(0, .ref h0)] [] (mW h0 fs rest) := by
  refine y_aload_n X (pc := 409) 0 (cks_at k_M_init 297 rfl rfl) rfl ?_
  refine y_iconst X (pc := 410) (cks_at k_M_init 298 rfl rfl) ?_
  refine y_newa X (pc := 411) 3 23 (n := 5) (a0 := (5, .inl (fun _ => 0))) (cks_at k_M_init 299 rfl rfl) (in_7 (List.mem_of_getElem? (i := 169) rfl)) rfl rfl (by decide) (fun _ => rfl) (by decide) hce hsl (fun q => ?_)
  refine y_eq (ws' := (h0, .inr (12, fs)) :: (rest ++ [(q, .inl (cA 23, 5, .inl (fun _ => 0)))])) rfl ?_
  refine y_dup X (pc := 413) (cks_at k_M_init 300 rfl rfl) rfl ?_
  refine y_iconst X (pc := 414) (cks_at k_M_init 301 rfl rfl) ?_
  refine y_bipush X (pc := 415) (cks_at k_M_init 302 rfl rfl) (by decide) (by decide) ?_
  refine y_castL X (pc := 417) 0 99 (cks_at k_M_init 303 rfl rfl) (by decide) (by decide) ?_
  refine y_dup X (pc := 418) (cks_at k_M_init 304 rfl rfl) rfl ?_
  refine y_iconst X (pc := 419) (cks_at k_M_init 305 rfl rfl) ?_
  refine y_bipush X (pc := 420) (cks_at k_M_init 306 rfl rfl) (by decide) (by decide) ?_
  refine y_castL X (pc := 422) 1 108 (cks_at k_M_init 307 rfl rfl) (by decide) (by decide) ?_
  refine y_dup X (pc := 423) (cks_at k_M_init 308 rfl rfl) rfl ?_
  refine y_iconst X (pc := 424) (cks_at k_M_init 309 rfl rfl) ?_
  refine y_bipush X (pc := 425) (cks_at k_M_init 310 rfl rfl) (by decide) (by decide) ?_
  refine y_castL X (pc := 427) 2 111 (cks_at k_M_init 311 rfl rfl) (by decide) (by decide) ?_
  refine y_dup X (pc := 428) (cks_at k_M_init 312 rfl rfl) rfl ?_
  refine y_iconst X (pc := 429) (cks_at k_M_init 313 rfl rfl) ?_
  refine y_bipush X (pc := 430) (cks_at k_M_init 314 rfl rfl) (by decide) (by decide) ?_
  refine y_castL X (pc := 432) 3 99 (cks_at k_M_init 315 rfl rfl) (by decide) (by decide) ?_
  refine y_dup X (pc := 433) (cks_at k_M_init 316 rfl rfl) rfl ?_
  refine y_iconst X (pc := 434) (cks_at k_M_init 317 rfl rfl) ?_
  refine y_bipush X (pc := 435) (cks_at k_M_init 318 rfl rfl) (by decide) (by decide) ?_
  refine y_castL X (pc := 437) 4 107 (cks_at k_M_init 319 rfl rfl) (by decide) (by decide) ?_
  refine y_putF X (pc := 438) (ci := 12) (k0 := 23) (ty := .array .char) 0 (cks_at k_M_init 320 rfl rfl) rfl rfl (by decide) (in_6 (List.mem_of_getElem? (i := 131) rfl)) ⟨rfl, rfl, rfl⟩ hin (by decide +kernel) rfl rfl (by rw [hfs]; decide) ?_
  exact k q
set_option maxRecDepth 20000 in
set_option maxHeartbeats 4000000 in
theorem mc_441 {p : Program} {l : Launch} {e : Env} {R : Room} {s : State} {m : MethodId} {args : Array Value} {below : List Frame} {meth : Method} {c : Code} {Qf : State → Prop} {cA : Nat → ClassId} {D : va_G} {A : Nat → Prop} {cells slots : Nat} (X : Cy p s m args c "BreathTownModel" prog_14_method_1_code 1 cA D A) (hin : meth.name = "<init>") {h0 : Nat} {fs : List Value} {rest : va_W} (hfs : fs.length = 100) (hce : cells + 1 ≤ R.cells) (hsl : slots + 3 ≤ R.slots) (k : ∀ q : Nat, Yw p l e R s m args below meth c Qf 1 D A (cells + 1) (slots + 3) 463 [(0, .ref h0)] [] (mW h0 (fs.set 24 (.ref q)) (rest ++ [(q, .inl (cA 23, 3, .inl (upd (upd (upd (fun _ => 0) 0 (nI 100)) 1 (nI 97)) 2 (nI 121))))]))) : Yw p l e R s m args below meth c Qf 1 D A cells slots 441 [(0, .ref h0)] [] (mW h0 fs rest) := by
  refine y_aload_n X (pc := 441) 0 (cks_at k_M_init 321 rfl rfl) rfl ?_
  refine y_iconst X (pc := 442) (cks_at k_M_init 322 rfl rfl) ?_
  refine y_newa X (pc := 443) 3 23 (n := 3) (a0 := (3, .inl (fun _ => 0))) (cks_at k_M_init 323 rfl rfl) (in_7 (List.mem_of_getElem? (i := 169) rfl)) rfl rfl (by decide) (fun _ => rfl) (by decide) hce hsl (fun q => ?_)
  refine y_eq (ws' := (h0, .inr (12, fs)) :: (rest ++ [(q, .inl (cA 23, 3, .inl (fun _ => 0)))])) rfl ?_
  refine y_dup X (pc := 445) (cks_at k_M_init 324 rfl rfl) rfl ?_
  refine y_iconst X (pc := 446) (cks_at k_M_init 325 rfl rfl) ?_
  refine y_bipush X (pc := 447) (cks_at k_M_init 326 rfl rfl) (by decide) (by decide) ?_
  refine y_castL X (pc := 449) 0 100 (cks_at k_M_init 327 rfl rfl) (by decide) (by decide) ?_
  refine y_dup X (pc := 450) (cks_at k_M_init 328 rfl rfl) rfl ?_
  refine y_iconst X (pc := 451) (cks_at k_M_init 329 rfl rfl) ?_
  refine y_bipush X (pc := 452) (cks_at k_M_init 330 rfl rfl) (by decide) (by decide) ?_
  refine y_castL X (pc := 454) 1 97 (cks_at k_M_init 331 rfl rfl) (by decide) (by decide) ?_
  refine y_dup X (pc := 455) (cks_at k_M_init 332 rfl rfl) rfl ?_
  refine y_iconst X (pc := 456) (cks_at k_M_init 333 rfl rfl) ?_
  refine y_bipush X (pc := 457) (cks_at k_M_init 334 rfl rfl) (by decide) (by decide) ?_
  refine y_castL X (pc := 459) 2 121 (cks_at k_M_init 335 rfl rfl) (by decide) (by decide) ?_
  refine y_putF X (pc := 460) (ci := 12) (k0 := 24) (ty := .array .char) 0 (cks_at k_M_init 336 rfl rfl) rfl rfl (by decide) (in_6 (List.mem_of_getElem? (i := 132) rfl)) ⟨rfl, rfl, rfl⟩ hin (by decide +kernel) rfl rfl (by rw [hfs]; decide) ?_
  exact k q
set_option maxRecDepth 20000 in
set_option maxHeartbeats 4000000 in
theorem mc_463 {p : Program} {l : Launch} {e : Env} {R : Room} {s : State} {m : MethodId} {args : Array Value} {below : List Frame} {meth : Method} {c : Code} {Qf : State → Prop} {cA : Nat → ClassId} {D : va_G} {A : Nat → Prop} {cells slots : Nat} (X : Cy p s m args c "BreathTownModel" prog_14_method_1_code 1 cA D A) (hin : meth.name = "<init>") {h0 : Nat} {fs : List Value} {rest : va_W} (hfs : fs.length = 100) (hce : cells + 1 ≤ R.cells) (hsl : slots + 3 ≤ R.slots) (k : ∀ q : Nat, Yw p l e R s m args below meth c Qf 1 D A (cells + 1) (slots + 3) 485 [(0, .ref h0)] [] (mW h0 (fs.set 25 (.ref q)) (rest ++ [(q, .inl (cA 23, 3, .inl (upd (upd (upd (fun _ => 0) 0 (nI 109)) 1 (nI 105)) 2 (nI 110))))]))) : Yw p l e R s m args below meth c Qf 1 D A cells slots 463 [(0, .ref h0)] [] (mW h0 fs rest) := by
  refine y_aload_n X (pc := 463) 0 (cks_at k_M_init 337 rfl rfl) rfl ?_
  refine y_iconst X (pc := 464) (cks_at k_M_init 338 rfl rfl) ?_
  refine y_newa X (pc := 465) 3 23 (n := 3) (a0 := (3, .inl (fun _ => 0))) (cks_at k_M_init 339 rfl rfl) (in_7 (List.mem_of_getElem? (i := 169) rfl)) rfl rfl (by decide) (fun _ => rfl) (by decide) hce hsl (fun q => ?_)
  refine y_eq (ws' := (h0, .inr (12, fs)) :: (rest ++ [(q, .inl (cA 23, 3, .inl (fun _ => 0)))])) rfl ?_
  refine y_dup X (pc := 467) (cks_at k_M_init 340 rfl rfl) rfl ?_
  refine y_iconst X (pc := 468) (cks_at k_M_init 341 rfl rfl) ?_
  refine y_bipush X (pc := 469) (cks_at k_M_init 342 rfl rfl) (by decide) (by decide) ?_
  refine y_castL X (pc := 471) 0 109 (cks_at k_M_init 343 rfl rfl) (by decide) (by decide) ?_
  refine y_dup X (pc := 472) (cks_at k_M_init 344 rfl rfl) rfl ?_
  refine y_iconst X (pc := 473) (cks_at k_M_init 345 rfl rfl) ?_
  refine y_bipush X (pc := 474) (cks_at k_M_init 346 rfl rfl) (by decide) (by decide) ?_
  refine y_castL X (pc := 476) 1 105 (cks_at k_M_init 347 rfl rfl) (by decide) (by decide) ?_
  refine y_dup X (pc := 477) (cks_at k_M_init 348 rfl rfl) rfl ?_
  refine y_iconst X (pc := 478) (cks_at k_M_init 349 rfl rfl) ?_
  refine y_bipush X (pc := 479) (cks_at k_M_init 350 rfl rfl) (by decide) (by decide) ?_
  refine y_castL X (pc := 481) 2 110 (cks_at k_M_init 351 rfl rfl) (by decide) (by decide) ?_
  refine y_putF X (pc := 482) (ci := 12) (k0 := 25) (ty := .array .char) 0 (cks_at k_M_init 352 rfl rfl) rfl rfl (by decide) (in_6 (List.mem_of_getElem? (i := 133) rfl)) ⟨rfl, rfl, rfl⟩ hin (by decide +kernel) rfl rfl (by rw [hfs]; decide) ?_
  exact k q
set_option maxRecDepth 20000 in
set_option maxHeartbeats 4000000 in
theorem mc_485 {p : Program} {l : Launch} {e : Env} {R : Room} {s : State} {m : MethodId} {args : Array Value} {below : List Frame} {meth : Method} {c : Code} {Qf : State → Prop} {cA : Nat → ClassId} {D : va_G} {A : Nat → Prop} {cells slots : Nat} (X : Cy p s m args c "BreathTownModel" prog_14_method_1_code 1 cA D A) (hin : meth.name = "<init>") {h0 : Nat} {fs : List Value} {rest : va_W} (hfs : fs.length = 100) (hce : cells + 1 ≤ R.cells) (hsl : slots + 3 ≤ R.slots) (k : ∀ q : Nat, Yw p l e R s m args below meth c Qf 1 D A (cells + 1) (slots + 3) 507 [(0, .ref h0)] [] (mW h0 (fs.set 26 (.ref q)) (rest ++ [(q, .inl (cA 23, 3, .inl (upd (upd (upd (fun _ => 0) 0 (nI 109)) 1 (nI 97)) 2 (nI 120))))]))) : Yw p l e R s m args below meth c Qf 1 D A cells slots 485 [(0, .ref h0)] [] (mW h0 fs rest) := by
  refine y_aload_n X (pc := 485) 0 (cks_at k_M_init 353 rfl rfl) rfl ?_
  refine y_iconst X (pc := 486) (cks_at k_M_init 354 rfl rfl) ?_
  refine y_newa X (pc := 487) 3 23 (n := 3) (a0 := (3, .inl (fun _ => 0))) (cks_at k_M_init 355 rfl rfl) (in_7 (List.mem_of_getElem? (i := 169) rfl)) rfl rfl (by decide) (fun _ => rfl) (by decide) hce hsl (fun q => ?_)
  refine y_eq (ws' := (h0, .inr (12, fs)) :: (rest ++ [(q, .inl (cA 23, 3, .inl (fun _ => 0)))])) rfl ?_
  refine y_dup X (pc := 489) (cks_at k_M_init 356 rfl rfl) rfl ?_
  refine y_iconst X (pc := 490) (cks_at k_M_init 357 rfl rfl) ?_
  refine y_bipush X (pc := 491) (cks_at k_M_init 358 rfl rfl) (by decide) (by decide) ?_
  refine y_castL X (pc := 493) 0 109 (cks_at k_M_init 359 rfl rfl) (by decide) (by decide) ?_
  refine y_dup X (pc := 494) (cks_at k_M_init 360 rfl rfl) rfl ?_
  refine y_iconst X (pc := 495) (cks_at k_M_init 361 rfl rfl) ?_
  refine y_bipush X (pc := 496) (cks_at k_M_init 362 rfl rfl) (by decide) (by decide) ?_
  refine y_castL X (pc := 498) 1 97 (cks_at k_M_init 363 rfl rfl) (by decide) (by decide) ?_
  refine y_dup X (pc := 499) (cks_at k_M_init 364 rfl rfl) rfl ?_
  refine y_iconst X (pc := 500) (cks_at k_M_init 365 rfl rfl) ?_
  refine y_bipush X (pc := 501) (cks_at k_M_init 366 rfl rfl) (by decide) (by decide) ?_
  refine y_castL X (pc := 503) 2 120 (cks_at k_M_init 367 rfl rfl) (by decide) (by decide) ?_
  refine y_putF X (pc := 504) (ci := 12) (k0 := 26) (ty := .array .char) 0 (cks_at k_M_init 368 rfl rfl) rfl rfl (by decide) (in_6 (List.mem_of_getElem? (i := 134) rfl)) ⟨rfl, rfl, rfl⟩ hin (by decide +kernel) rfl rfl (by rw [hfs]; decide) ?_
  exact k q
set_option maxRecDepth 20000 in
set_option maxHeartbeats 4000000 in
theorem mc_507 {p : Program} {l : Launch} {e : Env} {R : Room} {s : State} {m : MethodId} {args : Array Value} {below : List Frame} {meth : Method} {c : Code} {Qf : State → Prop} {cA : Nat → ClassId} {D : va_G} {A : Nat → Prop} {cells slots : Nat} (X : Cy p s m args c "BreathTownModel" prog_14_method_1_code 1 cA D A) (hin : meth.name = "<init>") {h0 : Nat} {fs : List Value} {rest : va_W} (hfs : fs.length = 100) (hce : cells + 1 ≤ R.cells) (hsl : slots + 6 ≤ R.slots) (k : ∀ q : Nat, Yw p l e R s m args below meth c Qf 1 D A (cells + 1) (slots + 6) 515 [(0, .ref h0)] [] (mW h0 (fs.set 28 (.ref q)) (rest ++ [(q, .inl (cA 20, 6, .inl (fun _ => 0)))]))) : Yw p l e R s m args below meth c Qf 1 D A cells slots 507 [(0, .ref h0)] [] (mW h0 fs rest) := by
  refine y_aload_n X (pc := 507) 0 (cks_at k_M_init 369 rfl rfl) rfl ?_
  refine y_bipush X (pc := 508) (cks_at k_M_init 370 rfl rfl) (by decide) (by decide) ?_
  refine y_newa X (pc := 510) 0 20 (n := 6) (a0 := (6, .inl (fun _ => 0))) (cks_at k_M_init 371 rfl rfl) (in_1 (List.mem_of_getElem? (i := 64) rfl)) rfl rfl (by decide) (fun _ => rfl) (by decide) hce hsl (fun q => ?_)
  refine y_eq (ws' := (h0, .inr (12, fs)) :: (rest ++ [(q, .inl (cA 20, 6, .inl (fun _ => 0)))])) rfl ?_
  refine y_putF X (pc := 512) (ci := 12) (k0 := 28) (ty := .array .int) 0 (cks_at k_M_init 372 rfl rfl) rfl rfl (by decide) (in_6 (List.mem_of_getElem? (i := 136) rfl)) ⟨rfl, rfl, rfl⟩ hin (by decide +kernel) rfl rfl (by rw [hfs]; decide) ?_
  exact k q
set_option maxRecDepth 20000 in
set_option maxHeartbeats 4000000 in
theorem mc_515 {p : Program} {l : Launch} {e : Env} {R : Room} {s : State} {m : MethodId} {args : Array Value} {below : List Frame} {meth : Method} {c : Code} {Qf : State → Prop} {cA : Nat → ClassId} {D : va_G} {A : Nat → Prop} {cells slots : Nat} (X : Cy p s m args c "BreathTownModel" prog_14_method_1_code 1 cA D A) (hin : meth.name = "<init>") {h0 : Nat} {fs : List Value} {rest : va_W} (hfs : fs.length = 100) (hce : cells + 1 ≤ R.cells) (hsl : slots + 72 ≤ R.slots) (k : ∀ q : Nat, Yw p l e R s m args below meth c Qf 1 D A (cells + 1) (slots + 72) 523 [(0, .ref h0)] [] (mW h0 (fs.set 29 (.ref q)) (rest ++ [(q, .inl (cA 21, 72, .inr (.inl (fun _ => 0))))]))) : Yw p l e R s m args below meth c Qf 1 D A cells slots 515 [(0, .ref h0)] [] (mW h0 fs rest) := by
  refine y_aload_n X (pc := 515) 0 (cks_at k_M_init 373 rfl rfl) rfl ?_
  refine y_bipush X (pc := 516) (cks_at k_M_init 374 rfl rfl) (by decide) (by decide) ?_
  refine y_newa X (pc := 518) 1 21 (n := 72) (a0 := (72, .inr (.inl (fun _ => 0)))) (cks_at k_M_init 375 rfl rfl) (in_2 (List.mem_of_getElem? (i := 41) rfl)) rfl rfl (by decide) (fun _ => rfl) (by decide) hce hsl (fun q => ?_)
  refine y_eq (ws' := (h0, .inr (12, fs)) :: (rest ++ [(q, .inl (cA 21, 72, .inr (.inl (fun _ => 0))))])) rfl ?_
  refine y_putF X (pc := 520) (ci := 12) (k0 := 29) (ty := .array .long) 0 (cks_at k_M_init 376 rfl rfl) rfl rfl (by decide) (in_6 (List.mem_of_getElem? (i := 137) rfl)) ⟨rfl, rfl, rfl⟩ hin (by decide +kernel) rfl rfl (by rw [hfs]; decide) ?_
  exact k q
set_option maxRecDepth 20000 in
set_option maxHeartbeats 4000000 in
theorem mc_523 {p : Program} {l : Launch} {e : Env} {R : Room} {s : State} {m : MethodId} {args : Array Value} {below : List Frame} {meth : Method} {c : Code} {Qf : State → Prop} {cA : Nat → ClassId} {D : va_G} {A : Nat → Prop} {cells slots : Nat} (X : Cy p s m args c "BreathTownModel" prog_14_method_1_code 1 cA D A) (hin : meth.name = "<init>") {h0 : Nat} {fs : List Value} {rest : va_W} (hfs : fs.length = 100) (hce : cells + 1 ≤ R.cells) (hsl : slots + 120 ≤ R.slots) (k : ∀ q : Nat, Yw p l e R s m args below meth c Qf 1 D A (cells + 1) (slots + 120) 531 [(0, .ref h0)] [] (mW h0 (fs.set 30 (.ref q)) (rest ++ [(q, .inl (cA 20, 120, .inl (fun _ => 0)))]))) : Yw p l e R s m args below meth c Qf 1 D A cells slots 523 [(0, .ref h0)] [] (mW h0 fs rest) := by
  refine y_aload_n X (pc := 523) 0 (cks_at k_M_init 377 rfl rfl) rfl ?_
  refine y_bipush X (pc := 524) (cks_at k_M_init 378 rfl rfl) (by decide) (by decide) ?_
  refine y_newa X (pc := 526) 0 20 (n := 120) (a0 := (120, .inl (fun _ => 0))) (cks_at k_M_init 379 rfl rfl) (in_1 (List.mem_of_getElem? (i := 64) rfl)) rfl rfl (by decide) (fun _ => rfl) (by decide) hce hsl (fun q => ?_)
  refine y_eq (ws' := (h0, .inr (12, fs)) :: (rest ++ [(q, .inl (cA 20, 120, .inl (fun _ => 0)))])) rfl ?_
  refine y_putF X (pc := 528) (ci := 12) (k0 := 30) (ty := .array .int) 0 (cks_at k_M_init 380 rfl rfl) rfl rfl (by decide) (in_6 (List.mem_of_getElem? (i := 138) rfl)) ⟨rfl, rfl, rfl⟩ hin (by decide +kernel) rfl rfl (by rw [hfs]; decide) ?_
  exact k q
set_option maxRecDepth 20000 in
set_option maxHeartbeats 4000000 in
theorem mc_531 {p : Program} {l : Launch} {e : Env} {R : Room} {s : State} {m : MethodId} {args : Array Value} {below : List Frame} {meth : Method} {c : Code} {Qf : State → Prop} {cA : Nat → ClassId} {D : va_G} {A : Nat → Prop} {cells slots : Nat} (X : Cy p s m args c "BreathTownModel" prog_14_method_1_code 1 cA D A) (hin : meth.name = "<init>") {h0 : Nat} {fs : List Value} {rest : va_W} (hfs : fs.length = 100) (hce : cells + 1 ≤ R.cells) (hsl : slots + 36 ≤ R.slots) (k : ∀ q : Nat, Yw p l e R s m args below meth c Qf 1 D A (cells + 1) (slots + 36) 539 [(0, .ref h0)] [] (mW h0 (fs.set 31 (.ref q)) (rest ++ [(q, .inl (cA 20, 36, .inl (fun _ => 0)))]))) : Yw p l e R s m args below meth c Qf 1 D A cells slots 531 [(0, .ref h0)] [] (mW h0 fs rest) := by
  refine y_aload_n X (pc := 531) 0 (cks_at k_M_init 381 rfl rfl) rfl ?_
  refine y_bipush X (pc := 532) (cks_at k_M_init 382 rfl rfl) (by decide) (by decide) ?_
  refine y_newa X (pc := 534) 0 20 (n := 36) (a0 := (36, .inl (fun _ => 0))) (cks_at k_M_init 383 rfl rfl) (in_1 (List.mem_of_getElem? (i := 64) rfl)) rfl rfl (by decide) (fun _ => rfl) (by decide) hce hsl (fun q => ?_)
  refine y_eq (ws' := (h0, .inr (12, fs)) :: (rest ++ [(q, .inl (cA 20, 36, .inl (fun _ => 0)))])) rfl ?_
  refine y_putF X (pc := 536) (ci := 12) (k0 := 31) (ty := .array .int) 0 (cks_at k_M_init 384 rfl rfl) rfl rfl (by decide) (in_6 (List.mem_of_getElem? (i := 139) rfl)) ⟨rfl, rfl, rfl⟩ hin (by decide +kernel) rfl rfl (by rw [hfs]; decide) ?_
  exact k q
set_option maxRecDepth 20000 in
set_option maxHeartbeats 4000000 in
theorem mc_539 {p : Program} {l : Launch} {e : Env} {R : Room} {s : State} {m : MethodId} {args : Array Value} {below : List Frame} {meth : Method} {c : Code} {Qf : State → Prop} {cA : Nat → ClassId} {D : va_G} {A : Nat → Prop} {cells slots : Nat} (X : Cy p s m args c "BreathTownModel" prog_14_method_1_code 1 cA D A) (hin : meth.name = "<init>") {h0 : Nat} {fs : List Value} {rest : va_W} (hfs : fs.length = 100) (hce : cells + 1 ≤ R.cells) (hsl : slots + 3200 ≤ R.slots) (k : ∀ q : Nat, Yw p l e R s m args below meth c Qf 1 D A (cells + 1) (slots + 3200) 548 [(0, .ref h0)] [] (mW h0 (fs.set 34 (.ref q)) (rest ++ [(q, .inl (cA 20, 3200, .inl (fun _ => 0)))]))) : Yw p l e R s m args below meth c Qf 1 D A cells slots 539 [(0, .ref h0)] [] (mW h0 fs rest) := by
  refine y_aload_n X (pc := 539) 0 (cks_at k_M_init 385 rfl rfl) rfl ?_
  refine y_sipush X (pc := 540) (cks_at k_M_init 386 rfl rfl) (by decide) (by decide) ?_
  refine y_newa X (pc := 543) 0 20 (n := 3200) (a0 := (3200, .inl (fun _ => 0))) (cks_at k_M_init 387 rfl rfl) (in_1 (List.mem_of_getElem? (i := 64) rfl)) rfl rfl (by decide) (fun _ => rfl) (by decide) hce hsl (fun q => ?_)
  refine y_eq (ws' := (h0, .inr (12, fs)) :: (rest ++ [(q, .inl (cA 20, 3200, .inl (fun _ => 0)))])) rfl ?_
  refine y_putF X (pc := 545) (ci := 12) (k0 := 34) (ty := .array .int) 0 (cks_at k_M_init 388 rfl rfl) rfl rfl (by decide) (in_6 (List.mem_of_getElem? (i := 142) rfl)) ⟨rfl, rfl, rfl⟩ hin (by decide +kernel) rfl rfl (by rw [hfs]; decide) ?_
  exact k q
set_option maxRecDepth 20000 in
set_option maxHeartbeats 4000000 in
theorem mc_548 {p : Program} {l : Launch} {e : Env} {R : Room} {s : State} {m : MethodId} {args : Array Value} {below : List Frame} {meth : Method} {c : Code} {Qf : State → Prop} {cA : Nat → ClassId} {D : va_G} {A : Nat → Prop} {cells slots : Nat} (X : Cy p s m args c "BreathTownModel" prog_14_method_1_code 1 cA D A) (hin : meth.name = "<init>") {h0 : Nat} {fs : List Value} {rest : va_W} (hfs : fs.length = 100) (hce : cells + 1 ≤ R.cells) (hsl : slots + 1700 ≤ R.slots) (k : ∀ q : Nat, Yw p l e R s m args below meth c Qf 1 D A (cells + 1) (slots + 1700) 557 [(0, .ref h0)] [] (mW h0 (fs.set 36 (.ref q)) (rest ++ [(q, .inl (cA 20, 1700, .inl (fun _ => 0)))]))) : Yw p l e R s m args below meth c Qf 1 D A cells slots 548 [(0, .ref h0)] [] (mW h0 fs rest) := by
  refine y_aload_n X (pc := 548) 0 (cks_at k_M_init 389 rfl rfl) rfl ?_
  refine y_sipush X (pc := 549) (cks_at k_M_init 390 rfl rfl) (by decide) (by decide) ?_
  refine y_newa X (pc := 552) 0 20 (n := 1700) (a0 := (1700, .inl (fun _ => 0))) (cks_at k_M_init 391 rfl rfl) (in_1 (List.mem_of_getElem? (i := 64) rfl)) rfl rfl (by decide) (fun _ => rfl) (by decide) hce hsl (fun q => ?_)
  refine y_eq (ws' := (h0, .inr (12, fs)) :: (rest ++ [(q, .inl (cA 20, 1700, .inl (fun _ => 0)))])) rfl ?_
  refine y_putF X (pc := 554) (ci := 12) (k0 := 36) (ty := .array .int) 0 (cks_at k_M_init 392 rfl rfl) rfl rfl (by decide) (in_6 (List.mem_of_getElem? (i := 144) rfl)) ⟨rfl, rfl, rfl⟩ hin (by decide +kernel) rfl rfl (by rw [hfs]; decide) ?_
  exact k q
set_option maxRecDepth 20000 in
set_option maxHeartbeats 4000000 in
theorem mc_557 {p : Program} {l : Launch} {e : Env} {R : Room} {s : State} {m : MethodId} {args : Array Value} {below : List Frame} {meth : Method} {c : Code} {Qf : State → Prop} {cA : Nat → ClassId} {D : va_G} {A : Nat → Prop} {cells slots : Nat} (X : Cy p s m args c "BreathTownModel" prog_14_method_1_code 1 cA D A) (hin : meth.name = "<init>") {h0 : Nat} {fs : List Value} {rest : va_W} (hfs : fs.length = 100) (hce : cells + 1 ≤ R.cells) (hsl : slots + 24 ≤ R.slots) (k : ∀ q : Nat, Yw p l e R s m args below meth c Qf 1 D A (cells + 1) (slots + 24) 565 [(0, .ref h0)] [] (mW h0 (fs.set 39 (.ref q)) (rest ++ [(q, .inl (cA 20, 24, .inl (fun _ => 0)))]))) : Yw p l e R s m args below meth c Qf 1 D A cells slots 557 [(0, .ref h0)] [] (mW h0 fs rest) := by
  refine y_aload_n X (pc := 557) 0 (cks_at k_M_init 393 rfl rfl) rfl ?_
  refine y_bipush X (pc := 558) (cks_at k_M_init 394 rfl rfl) (by decide) (by decide) ?_
  refine y_newa X (pc := 560) 0 20 (n := 24) (a0 := (24, .inl (fun _ => 0))) (cks_at k_M_init 395 rfl rfl) (in_1 (List.mem_of_getElem? (i := 64) rfl)) rfl rfl (by decide) (fun _ => rfl) (by decide) hce hsl (fun q => ?_)
  refine y_eq (ws' := (h0, .inr (12, fs)) :: (rest ++ [(q, .inl (cA 20, 24, .inl (fun _ => 0)))])) rfl ?_
  refine y_putF X (pc := 562) (ci := 12) (k0 := 39) (ty := .array .int) 0 (cks_at k_M_init 396 rfl rfl) rfl rfl (by decide) (in_6 (List.mem_of_getElem? (i := 147) rfl)) ⟨rfl, rfl, rfl⟩ hin (by decide +kernel) rfl rfl (by rw [hfs]; decide) ?_
  exact k q
set_option maxRecDepth 20000 in
set_option maxHeartbeats 4000000 in
theorem mc_565 {p : Program} {l : Launch} {e : Env} {R : Room} {s : State} {m : MethodId} {args : Array Value} {below : List Frame} {meth : Method} {c : Code} {Qf : State → Prop} {cA : Nat → ClassId} {D : va_G} {A : Nat → Prop} {cells slots : Nat} (X : Cy p s m args c "BreathTownModel" prog_14_method_1_code 1 cA D A) (hin : meth.name = "<init>") {h0 : Nat} {fs : List Value} {rest : va_W} (hfs : fs.length = 100) (hce : cells + 1 ≤ R.cells) (hsl : slots + 24 ≤ R.slots) (k : ∀ q : Nat, Yw p l e R s m args below meth c Qf 1 D A (cells + 1) (slots + 24) 573 [(0, .ref h0)] [] (mW h0 (fs.set 40 (.ref q)) (rest ++ [(q, .inl (cA 20, 24, .inl (fun _ => 0)))]))) : Yw p l e R s m args below meth c Qf 1 D A cells slots 565 [(0, .ref h0)] [] (mW h0 fs rest) := by
  refine y_aload_n X (pc := 565) 0 (cks_at k_M_init 397 rfl rfl) rfl ?_
  refine y_bipush X (pc := 566) (cks_at k_M_init 398 rfl rfl) (by decide) (by decide) ?_
  refine y_newa X (pc := 568) 0 20 (n := 24) (a0 := (24, .inl (fun _ => 0))) (cks_at k_M_init 399 rfl rfl) (in_1 (List.mem_of_getElem? (i := 64) rfl)) rfl rfl (by decide) (fun _ => rfl) (by decide) hce hsl (fun q => ?_)
  refine y_eq (ws' := (h0, .inr (12, fs)) :: (rest ++ [(q, .inl (cA 20, 24, .inl (fun _ => 0)))])) rfl ?_
  refine y_putF X (pc := 570) (ci := 12) (k0 := 40) (ty := .array .int) 0 (cks_at k_M_init 400 rfl rfl) rfl rfl (by decide) (in_6 (List.mem_of_getElem? (i := 148) rfl)) ⟨rfl, rfl, rfl⟩ hin (by decide +kernel) rfl rfl (by rw [hfs]; decide) ?_
  exact k q
set_option maxRecDepth 20000 in
set_option maxHeartbeats 4000000 in
theorem mc_573 {p : Program} {l : Launch} {e : Env} {R : Room} {s : State} {m : MethodId} {args : Array Value} {below : List Frame} {meth : Method} {c : Code} {Qf : State → Prop} {cA : Nat → ClassId} {D : va_G} {A : Nat → Prop} {cells slots : Nat} (X : Cy p s m args c "BreathTownModel" prog_14_method_1_code 1 cA D A) (hin : meth.name = "<init>") {h0 : Nat} {fs : List Value} {rest : va_W} (hfs : fs.length = 100) (hce : cells + 1 ≤ R.cells) (hsl : slots + 1700 ≤ R.slots) (k : ∀ q : Nat, Yw p l e R s m args below meth c Qf 1 D A (cells + 1) (slots + 1700) 582 [(0, .ref h0)] [] (mW h0 (fs.set 42 (.ref q)) (rest ++ [(q, .inl (cA 21, 1700, .inr (.inl (fun _ => 0))))]))) : Yw p l e R s m args below meth c Qf 1 D A cells slots 573 [(0, .ref h0)] [] (mW h0 fs rest) := by
  refine y_aload_n X (pc := 573) 0 (cks_at k_M_init 401 rfl rfl) rfl ?_
  refine y_sipush X (pc := 574) (cks_at k_M_init 402 rfl rfl) (by decide) (by decide) ?_
  refine y_newa X (pc := 577) 1 21 (n := 1700) (a0 := (1700, .inr (.inl (fun _ => 0)))) (cks_at k_M_init 403 rfl rfl) (in_2 (List.mem_of_getElem? (i := 41) rfl)) rfl rfl (by decide) (fun _ => rfl) (by decide) hce hsl (fun q => ?_)
  refine y_eq (ws' := (h0, .inr (12, fs)) :: (rest ++ [(q, .inl (cA 21, 1700, .inr (.inl (fun _ => 0))))])) rfl ?_
  refine y_putF X (pc := 579) (ci := 12) (k0 := 42) (ty := .array .long) 0 (cks_at k_M_init 404 rfl rfl) rfl rfl (by decide) (in_6 (List.mem_of_getElem? (i := 150) rfl)) ⟨rfl, rfl, rfl⟩ hin (by decide +kernel) rfl rfl (by rw [hfs]; decide) ?_
  exact k q
set_option maxRecDepth 20000 in
set_option maxHeartbeats 4000000 in
theorem mc_582 {p : Program} {l : Launch} {e : Env} {R : Room} {s : State} {m : MethodId} {args : Array Value} {below : List Frame} {meth : Method} {c : Code} {Qf : State → Prop} {cA : Nat → ClassId} {D : va_G} {A : Nat → Prop} {cells slots : Nat} (X : Cy p s m args c "BreathTownModel" prog_14_method_1_code 1 cA D A) (hin : meth.name = "<init>") {h0 : Nat} {fs : List Value} {rest : va_W} (hfs : fs.length = 100) (hce : cells + 1 ≤ R.cells) (hsl : slots + 4 ≤ R.slots) (k : ∀ q : Nat, Yw p l e R s m args below meth c Qf 1 D A (cells + 1) (slots + 4) 589 [(0, .ref h0)] [] (mW h0 (fs.set 44 (.ref q)) (rest ++ [(q, .inl (cA 20, 4, .inl (fun _ => 0)))]))) : Yw p l e R s m args below meth c Qf 1 D A cells slots 582 [(0, .ref h0)] [] (mW h0 fs rest) := by
  refine y_aload_n X (pc := 582) 0 (cks_at k_M_init 405 rfl rfl) rfl ?_
  refine y_iconst X (pc := 583) (cks_at k_M_init 406 rfl rfl) ?_
  refine y_newa X (pc := 584) 0 20 (n := 4) (a0 := (4, .inl (fun _ => 0))) (cks_at k_M_init 407 rfl rfl) (in_1 (List.mem_of_getElem? (i := 64) rfl)) rfl rfl (by decide) (fun _ => rfl) (by decide) hce hsl (fun q => ?_)
  refine y_eq (ws' := (h0, .inr (12, fs)) :: (rest ++ [(q, .inl (cA 20, 4, .inl (fun _ => 0)))])) rfl ?_
  refine y_putF X (pc := 586) (ci := 12) (k0 := 44) (ty := .array .int) 0 (cks_at k_M_init 408 rfl rfl) rfl rfl (by decide) (in_6 (List.mem_of_getElem? (i := 152) rfl)) ⟨rfl, rfl, rfl⟩ hin (by decide +kernel) rfl rfl (by rw [hfs]; decide) ?_
  exact k q
set_option maxRecDepth 20000 in
set_option maxHeartbeats 4000000 in
theorem mc_589 {p : Program} {l : Launch} {e : Env} {R : Room} {s : State} {m : MethodId} {args : Array Value} {below : List Frame} {meth : Method} {c : Code} {Qf : State → Prop} {cA : Nat → ClassId} {D : va_G} {A : Nat → Prop} {cells slots : Nat} (X : Cy p s m args c "BreathTownModel" prog_14_method_1_code 1 cA D A) (hin : meth.name = "<init>") {h0 : Nat} {fs : List Value} {rest : va_W} (hfs : fs.length = 100) (hce : cells + 1 ≤ R.cells) (hsl : slots + 31 ≤ R.slots) (k : ∀ q : Nat, Yw p l e R s m args below meth c Qf 1 D A (cells + 1) (slots + 31) 597 [(0, .ref h0)] [] (mW h0 (fs.set 45 (.ref q)) (rest ++ [(q, .inl (cA 20, 31, .inl (fun _ => 0)))]))) : Yw p l e R s m args below meth c Qf 1 D A cells slots 589 [(0, .ref h0)] [] (mW h0 fs rest) := by
  refine y_aload_n X (pc := 589) 0 (cks_at k_M_init 409 rfl rfl) rfl ?_
  refine y_bipush X (pc := 590) (cks_at k_M_init 410 rfl rfl) (by decide) (by decide) ?_
  refine y_newa X (pc := 592) 0 20 (n := 31) (a0 := (31, .inl (fun _ => 0))) (cks_at k_M_init 411 rfl rfl) (in_1 (List.mem_of_getElem? (i := 64) rfl)) rfl rfl (by decide) (fun _ => rfl) (by decide) hce hsl (fun q => ?_)
  refine y_eq (ws' := (h0, .inr (12, fs)) :: (rest ++ [(q, .inl (cA 20, 31, .inl (fun _ => 0)))])) rfl ?_
  refine y_putF X (pc := 594) (ci := 12) (k0 := 45) (ty := .array .int) 0 (cks_at k_M_init 412 rfl rfl) rfl rfl (by decide) (in_6 (List.mem_of_getElem? (i := 153) rfl)) ⟨rfl, rfl, rfl⟩ hin (by decide +kernel) rfl rfl (by rw [hfs]; decide) ?_
  exact k q
set_option maxRecDepth 20000 in
set_option maxHeartbeats 4000000 in
theorem mc_597 {p : Program} {l : Launch} {e : Env} {R : Room} {s : State} {m : MethodId} {args : Array Value} {below : List Frame} {meth : Method} {c : Code} {Qf : State → Prop} {cA : Nat → ClassId} {D : va_G} {A : Nat → Prop} {cells slots : Nat} (X : Cy p s m args c "BreathTownModel" prog_14_method_1_code 1 cA D A) (hin : meth.name = "<init>") {h0 : Nat} {fs : List Value} {rest : va_W} (hfs : fs.length = 100) (hce : cells + 1 ≤ R.cells) (hsl : slots + 200 ≤ R.slots) (k : ∀ q : Nat, Yw p l e R s m args below meth c Qf 1 D A (cells + 1) (slots + 200) 606 [(0, .ref h0)] [] (mW h0 (fs.set 46 (.ref q)) (rest ++ [(q, .inl (cA 20, 200, .inl (fun _ => 0)))]))) : Yw p l e R s m args below meth c Qf 1 D A cells slots 597 [(0, .ref h0)] [] (mW h0 fs rest) := by
  refine y_aload_n X (pc := 597) 0 (cks_at k_M_init 413 rfl rfl) rfl ?_
  refine y_sipush X (pc := 598) (cks_at k_M_init 414 rfl rfl) (by decide) (by decide) ?_
  refine y_newa X (pc := 601) 0 20 (n := 200) (a0 := (200, .inl (fun _ => 0))) (cks_at k_M_init 415 rfl rfl) (in_1 (List.mem_of_getElem? (i := 64) rfl)) rfl rfl (by decide) (fun _ => rfl) (by decide) hce hsl (fun q => ?_)
  refine y_eq (ws' := (h0, .inr (12, fs)) :: (rest ++ [(q, .inl (cA 20, 200, .inl (fun _ => 0)))])) rfl ?_
  refine y_putF X (pc := 603) (ci := 12) (k0 := 46) (ty := .array .int) 0 (cks_at k_M_init 416 rfl rfl) rfl rfl (by decide) (in_6 (List.mem_of_getElem? (i := 154) rfl)) ⟨rfl, rfl, rfl⟩ hin (by decide +kernel) rfl rfl (by rw [hfs]; decide) ?_
  exact k q
set_option maxRecDepth 20000 in
set_option maxHeartbeats 4000000 in
theorem mc_606 {p : Program} {l : Launch} {e : Env} {R : Room} {s : State} {m : MethodId} {args : Array Value} {below : List Frame} {meth : Method} {c : Code} {Qf : State → Prop} {cA : Nat → ClassId} {D : va_G} {A : Nat → Prop} {cells slots : Nat} (X : Cy p s m args c "BreathTownModel" prog_14_method_1_code 1 cA D A) (hin : meth.name = "<init>") {h0 : Nat} {fs : List Value} {rest : va_W} (hfs : fs.length = 100) (hce : cells + 1 ≤ R.cells) (hsl : slots + 9 ≤ R.slots) (k : ∀ q : Nat, Yw p l e R s m args below meth c Qf 1 D A (cells + 1) (slots + 9) 614 [(0, .ref h0)] [] (mW h0 (fs.set 48 (.ref q)) (rest ++ [(q, .inl (cA 20, 9, .inl (fun _ => 0)))]))) : Yw p l e R s m args below meth c Qf 1 D A cells slots 606 [(0, .ref h0)] [] (mW h0 fs rest) := by
  refine y_aload_n X (pc := 606) 0 (cks_at k_M_init 417 rfl rfl) rfl ?_
  refine y_bipush X (pc := 607) (cks_at k_M_init 418 rfl rfl) (by decide) (by decide) ?_
  refine y_newa X (pc := 609) 0 20 (n := 9) (a0 := (9, .inl (fun _ => 0))) (cks_at k_M_init 419 rfl rfl) (in_1 (List.mem_of_getElem? (i := 64) rfl)) rfl rfl (by decide) (fun _ => rfl) (by decide) hce hsl (fun q => ?_)
  refine y_eq (ws' := (h0, .inr (12, fs)) :: (rest ++ [(q, .inl (cA 20, 9, .inl (fun _ => 0)))])) rfl ?_
  refine y_putF X (pc := 611) (ci := 12) (k0 := 48) (ty := .array .int) 0 (cks_at k_M_init 420 rfl rfl) rfl rfl (by decide) (in_6 (List.mem_of_getElem? (i := 156) rfl)) ⟨rfl, rfl, rfl⟩ hin (by decide +kernel) rfl rfl (by rw [hfs]; decide) ?_
  exact k q
set_option maxRecDepth 20000 in
set_option maxHeartbeats 4000000 in
theorem mc_614 {p : Program} {l : Launch} {e : Env} {R : Room} {s : State} {m : MethodId} {args : Array Value} {below : List Frame} {meth : Method} {c : Code} {Qf : State → Prop} {cA : Nat → ClassId} {D : va_G} {A : Nat → Prop} {cells slots : Nat} (X : Cy p s m args c "BreathTownModel" prog_14_method_1_code 1 cA D A) (hin : meth.name = "<init>") {h0 : Nat} {fs : List Value} {rest : va_W} (hfs : fs.length = 100) (hce : cells + 1 ≤ R.cells) (hsl : slots + 12 ≤ R.slots) (k : ∀ q : Nat, Yw p l e R s m args below meth c Qf 1 D A (cells + 1) (slots + 12) 622 [(0, .ref h0)] [] (mW h0 (fs.set 49 (.ref q)) (rest ++ [(q, .inl (cA 20, 12, .inl (fun _ => 0)))]))) : Yw p l e R s m args below meth c Qf 1 D A cells slots 614 [(0, .ref h0)] [] (mW h0 fs rest) := by
  refine y_aload_n X (pc := 614) 0 (cks_at k_M_init 421 rfl rfl) rfl ?_
  refine y_bipush X (pc := 615) (cks_at k_M_init 422 rfl rfl) (by decide) (by decide) ?_
  refine y_newa X (pc := 617) 0 20 (n := 12) (a0 := (12, .inl (fun _ => 0))) (cks_at k_M_init 423 rfl rfl) (in_1 (List.mem_of_getElem? (i := 64) rfl)) rfl rfl (by decide) (fun _ => rfl) (by decide) hce hsl (fun q => ?_)
  refine y_eq (ws' := (h0, .inr (12, fs)) :: (rest ++ [(q, .inl (cA 20, 12, .inl (fun _ => 0)))])) rfl ?_
  refine y_putF X (pc := 619) (ci := 12) (k0 := 49) (ty := .array .int) 0 (cks_at k_M_init 424 rfl rfl) rfl rfl (by decide) (in_6 (List.mem_of_getElem? (i := 157) rfl)) ⟨rfl, rfl, rfl⟩ hin (by decide +kernel) rfl rfl (by rw [hfs]; decide) ?_
  exact k q
set_option maxRecDepth 20000 in
set_option maxHeartbeats 4000000 in
theorem mc_622 {p : Program} {l : Launch} {e : Env} {R : Room} {s : State} {m : MethodId} {args : Array Value} {below : List Frame} {meth : Method} {c : Code} {Qf : State → Prop} {cA : Nat → ClassId} {D : va_G} {A : Nat → Prop} {cells slots : Nat} (X : Cy p s m args c "BreathTownModel" prog_14_method_1_code 1 cA D A) (hin : meth.name = "<init>") {h0 : Nat} {fs : List Value} {rest : va_W} (hfs : fs.length = 100) (hce : cells + 1 ≤ R.cells) (hsl : slots + 12 ≤ R.slots) (k : ∀ q : Nat, Yw p l e R s m args below meth c Qf 1 D A (cells + 1) (slots + 12) 630 [(0, .ref h0)] [] (mW h0 (fs.set 50 (.ref q)) (rest ++ [(q, .inl (cA 20, 12, .inl (fun _ => 0)))]))) : Yw p l e R s m args below meth c Qf 1 D A cells slots 622 [(0, .ref h0)] [] (mW h0 fs rest) := by
  refine y_aload_n X (pc := 622) 0 (cks_at k_M_init 425 rfl rfl) rfl ?_
  refine y_bipush X (pc := 623) (cks_at k_M_init 426 rfl rfl) (by decide) (by decide) ?_
  refine y_newa X (pc := 625) 0 20 (n := 12) (a0 := (12, .inl (fun _ => 0))) (cks_at k_M_init 427 rfl rfl) (in_1 (List.mem_of_getElem? (i := 64) rfl)) rfl rfl (by decide) (fun _ => rfl) (by decide) hce hsl (fun q => ?_)
  refine y_eq (ws' := (h0, .inr (12, fs)) :: (rest ++ [(q, .inl (cA 20, 12, .inl (fun _ => 0)))])) rfl ?_
  refine y_putF X (pc := 627) (ci := 12) (k0 := 50) (ty := .array .int) 0 (cks_at k_M_init 428 rfl rfl) rfl rfl (by decide) (in_6 (List.mem_of_getElem? (i := 158) rfl)) ⟨rfl, rfl, rfl⟩ hin (by decide +kernel) rfl rfl (by rw [hfs]; decide) ?_
  exact k q
set_option maxRecDepth 20000 in
set_option maxHeartbeats 4000000 in
theorem mc_630 {p : Program} {l : Launch} {e : Env} {R : Room} {s : State} {m : MethodId} {args : Array Value} {below : List Frame} {meth : Method} {c : Code} {Qf : State → Prop} {cA : Nat → ClassId} {D : va_G} {A : Nat → Prop} {cells slots : Nat} (X : Cy p s m args c "BreathTownModel" prog_14_method_1_code 1 cA D A) (hin : meth.name = "<init>") {h0 : Nat} {fs : List Value} {rest : va_W} (hfs : fs.length = 100) (hce : cells + 1 ≤ R.cells) (hsl : slots + 9 ≤ R.slots) (k : ∀ q : Nat, Yw p l e R s m args below meth c Qf 1 D A (cells + 1) (slots + 9) 638 [(0, .ref h0)] [] (mW h0 (fs.set 52 (.ref q)) (rest ++ [(q, .inl (cA 20, 9, .inl (fun _ => 0)))]))) : Yw p l e R s m args below meth c Qf 1 D A cells slots 630 [(0, .ref h0)] [] (mW h0 fs rest) := by
  refine y_aload_n X (pc := 630) 0 (cks_at k_M_init 429 rfl rfl) rfl ?_
  refine y_bipush X (pc := 631) (cks_at k_M_init 430 rfl rfl) (by decide) (by decide) ?_
  refine y_newa X (pc := 633) 0 20 (n := 9) (a0 := (9, .inl (fun _ => 0))) (cks_at k_M_init 431 rfl rfl) (in_1 (List.mem_of_getElem? (i := 64) rfl)) rfl rfl (by decide) (fun _ => rfl) (by decide) hce hsl (fun q => ?_)
  refine y_eq (ws' := (h0, .inr (12, fs)) :: (rest ++ [(q, .inl (cA 20, 9, .inl (fun _ => 0)))])) rfl ?_
  refine y_putF X (pc := 635) (ci := 12) (k0 := 52) (ty := .array .int) 0 (cks_at k_M_init 432 rfl rfl) rfl rfl (by decide) (in_6 (List.mem_of_getElem? (i := 160) rfl)) ⟨rfl, rfl, rfl⟩ hin (by decide +kernel) rfl rfl (by rw [hfs]; decide) ?_
  exact k q
set_option maxRecDepth 20000 in
set_option maxHeartbeats 4000000 in
theorem mc_638 {p : Program} {l : Launch} {e : Env} {R : Room} {s : State} {m : MethodId} {args : Array Value} {below : List Frame} {meth : Method} {c : Code} {Qf : State → Prop} {cA : Nat → ClassId} {D : va_G} {A : Nat → Prop} {cells slots : Nat} (X : Cy p s m args c "BreathTownModel" prog_14_method_1_code 1 cA D A) (hin : meth.name = "<init>") {h0 : Nat} {fs : List Value} {rest : va_W} (hfs : fs.length = 100) (hce : cells + 1 ≤ R.cells) (hsl : slots + 4 ≤ R.slots) (k : ∀ q : Nat, Yw p l e R s m args below meth c Qf 1 D A (cells + 1) (slots + 4) 645 [(0, .ref h0)] [] (mW h0 (fs.set 53 (.ref q)) (rest ++ [(q, .inl (cA 20, 4, .inl (fun _ => 0)))]))) : Yw p l e R s m args below meth c Qf 1 D A cells slots 638 [(0, .ref h0)] [] (mW h0 fs rest) := by
  refine y_aload_n X (pc := 638) 0 (cks_at k_M_init 433 rfl rfl) rfl ?_
  refine y_iconst X (pc := 639) (cks_at k_M_init 434 rfl rfl) ?_
  refine y_newa X (pc := 640) 0 20 (n := 4) (a0 := (4, .inl (fun _ => 0))) (cks_at k_M_init 435 rfl rfl) (in_1 (List.mem_of_getElem? (i := 64) rfl)) rfl rfl (by decide) (fun _ => rfl) (by decide) hce hsl (fun q => ?_)
  refine y_eq (ws' := (h0, .inr (12, fs)) :: (rest ++ [(q, .inl (cA 20, 4, .inl (fun _ => 0)))])) rfl ?_
  refine y_putF X (pc := 642) (ci := 12) (k0 := 53) (ty := .array .int) 0 (cks_at k_M_init 436 rfl rfl) rfl rfl (by decide) (in_6 (List.mem_of_getElem? (i := 161) rfl)) ⟨rfl, rfl, rfl⟩ hin (by decide +kernel) rfl rfl (by rw [hfs]; decide) ?_
  exact k q
set_option maxRecDepth 20000 in
set_option maxHeartbeats 4000000 in
theorem mc_645 {p : Program} {l : Launch} {e : Env} {R : Room} {s : State} {m : MethodId} {args : Array Value} {below : List Frame} {meth : Method} {c : Code} {Qf : State → Prop} {cA : Nat → ClassId} {D : va_G} {A : Nat → Prop} {cells slots : Nat} (X : Cy p s m args c "BreathTownModel" prog_14_method_1_code 1 cA D A) (hin : meth.name = "<init>") {h0 : Nat} {fs : List Value} {rest : va_W} (hfs : fs.length = 100) (hce : cells + 1 ≤ R.cells) (hsl : slots + 4 ≤ R.slots) (k : ∀ q : Nat, Yw p l e R s m args below meth c Qf 1 D A (cells + 1) (slots + 4) 652 [(0, .ref h0)] [] (mW h0 (fs.set 54 (.ref q)) (rest ++ [(q, .inl (cA 20, 4, .inl (fun _ => 0)))]))) : Yw p l e R s m args below meth c Qf 1 D A cells slots 645 [(0, .ref h0)] [] (mW h0 fs rest) := by
  refine y_aload_n X (pc := 645) 0 (cks_at k_M_init 437 rfl rfl) rfl ?_
  refine y_iconst X (pc := 646) (cks_at k_M_init 438 rfl rfl) ?_
  refine y_newa X (pc := 647) 0 20 (n := 4) (a0 := (4, .inl (fun _ => 0))) (cks_at k_M_init 439 rfl rfl) (in_1 (List.mem_of_getElem? (i := 64) rfl)) rfl rfl (by decide) (fun _ => rfl) (by decide) hce hsl (fun q => ?_)
  refine y_eq (ws' := (h0, .inr (12, fs)) :: (rest ++ [(q, .inl (cA 20, 4, .inl (fun _ => 0)))])) rfl ?_
  refine y_putF X (pc := 649) (ci := 12) (k0 := 54) (ty := .array .int) 0 (cks_at k_M_init 440 rfl rfl) rfl rfl (by decide) (in_6 (List.mem_of_getElem? (i := 162) rfl)) ⟨rfl, rfl, rfl⟩ hin (by decide +kernel) rfl rfl (by rw [hfs]; decide) ?_
  exact k q
set_option maxRecDepth 20000 in
set_option maxHeartbeats 4000000 in
theorem mc_652 {p : Program} {l : Launch} {e : Env} {R : Room} {s : State} {m : MethodId} {args : Array Value} {below : List Frame} {meth : Method} {c : Code} {Qf : State → Prop} {cA : Nat → ClassId} {D : va_G} {A : Nat → Prop} {cells slots : Nat} (X : Cy p s m args c "BreathTownModel" prog_14_method_1_code 1 cA D A) (hin : meth.name = "<init>") {h0 : Nat} {fs : List Value} {rest : va_W} (hfs : fs.length = 100) (hce : cells + 1 ≤ R.cells) (hsl : slots + 4 ≤ R.slots) (k : ∀ q : Nat, Yw p l e R s m args below meth c Qf 1 D A (cells + 1) (slots + 4) 659 [(0, .ref h0)] [] (mW h0 (fs.set 55 (.ref q)) (rest ++ [(q, .inl (cA 20, 4, .inl (fun _ => 0)))]))) : Yw p l e R s m args below meth c Qf 1 D A cells slots 652 [(0, .ref h0)] [] (mW h0 fs rest) := by
  refine y_aload_n X (pc := 652) 0 (cks_at k_M_init 441 rfl rfl) rfl ?_
  refine y_iconst X (pc := 653) (cks_at k_M_init 442 rfl rfl) ?_
  refine y_newa X (pc := 654) 0 20 (n := 4) (a0 := (4, .inl (fun _ => 0))) (cks_at k_M_init 443 rfl rfl) (in_1 (List.mem_of_getElem? (i := 64) rfl)) rfl rfl (by decide) (fun _ => rfl) (by decide) hce hsl (fun q => ?_)
  refine y_eq (ws' := (h0, .inr (12, fs)) :: (rest ++ [(q, .inl (cA 20, 4, .inl (fun _ => 0)))])) rfl ?_
  refine y_putF X (pc := 656) (ci := 12) (k0 := 55) (ty := .array .int) 0 (cks_at k_M_init 444 rfl rfl) rfl rfl (by decide) (in_6 (List.mem_of_getElem? (i := 163) rfl)) ⟨rfl, rfl, rfl⟩ hin (by decide +kernel) rfl rfl (by rw [hfs]; decide) ?_
  exact k q
set_option maxRecDepth 20000 in
set_option maxHeartbeats 4000000 in
theorem mc_659 {p : Program} {l : Launch} {e : Env} {R : Room} {s : State} {m : MethodId} {args : Array Value} {below : List Frame} {meth : Method} {c : Code} {Qf : State → Prop} {cA : Nat → ClassId} {D : va_G} {A : Nat → Prop} {cells slots : Nat} (X : Cy p s m args c "BreathTownModel" prog_14_method_1_code 1 cA D A) (hin : meth.name = "<init>") {h0 : Nat} {fs : List Value} {rest : va_W} (hfs : fs.length = 100) (hce : cells + 1 ≤ R.cells) (hsl : slots + 4 ≤ R.slots) (k : ∀ q : Nat, Yw p l e R s m args below meth c Qf 1 D A (cells + 1) (slots + 4) 666 [(0, .ref h0)] [] (mW h0 (fs.set 56 (.ref q)) (rest ++ [(q, .inl (cA 20, 4, .inl (fun _ => 0)))]))) : Yw p l e R s m args below meth c Qf 1 D A cells slots 659 [(0, .ref h0)] [] (mW h0 fs rest) := by
  refine y_aload_n X (pc := 659) 0 (cks_at k_M_init 445 rfl rfl) rfl ?_
  refine y_iconst X (pc := 660) (cks_at k_M_init 446 rfl rfl) ?_
  refine y_newa X (pc := 661) 0 20 (n := 4) (a0 := (4, .inl (fun _ => 0))) (cks_at k_M_init 447 rfl rfl) (in_1 (List.mem_of_getElem? (i := 64) rfl)) rfl rfl (by decide) (fun _ => rfl) (by decide) hce hsl (fun q => ?_)
  refine y_eq (ws' := (h0, .inr (12, fs)) :: (rest ++ [(q, .inl (cA 20, 4, .inl (fun _ => 0)))])) rfl ?_
  refine y_putF X (pc := 663) (ci := 12) (k0 := 56) (ty := .array .int) 0 (cks_at k_M_init 448 rfl rfl) rfl rfl (by decide) (in_6 (List.mem_of_getElem? (i := 164) rfl)) ⟨rfl, rfl, rfl⟩ hin (by decide +kernel) rfl rfl (by rw [hfs]; decide) ?_
  exact k q
set_option maxRecDepth 20000 in
set_option maxHeartbeats 4000000 in
theorem mc_666 {p : Program} {l : Launch} {e : Env} {R : Room} {s : State} {m : MethodId} {args : Array Value} {below : List Frame} {meth : Method} {c : Code} {Qf : State → Prop} {cA : Nat → ClassId} {D : va_G} {A : Nat → Prop} {cells slots : Nat} (X : Cy p s m args c "BreathTownModel" prog_14_method_1_code 1 cA D A) (hin : meth.name = "<init>") {h0 : Nat} {fs : List Value} {rest : va_W} (hfs : fs.length = 100) (hce : cells + 1 ≤ R.cells) (hsl : slots + 216 ≤ R.slots) (k : ∀ q : Nat, Yw p l e R s m args below meth c Qf 1 D A (cells + 1) (slots + 216) 675 [(0, .ref h0)] [] (mW h0 (fs.set 59 (.ref q)) (rest ++ [(q, .inl (cA 20, 216, .inl (fun _ => 0)))]))) : Yw p l e R s m args below meth c Qf 1 D A cells slots 666 [(0, .ref h0)] [] (mW h0 fs rest) := by
  refine y_aload_n X (pc := 666) 0 (cks_at k_M_init 449 rfl rfl) rfl ?_
  refine y_sipush X (pc := 667) (cks_at k_M_init 450 rfl rfl) (by decide) (by decide) ?_
  refine y_newa X (pc := 670) 0 20 (n := 216) (a0 := (216, .inl (fun _ => 0))) (cks_at k_M_init 451 rfl rfl) (in_1 (List.mem_of_getElem? (i := 64) rfl)) rfl rfl (by decide) (fun _ => rfl) (by decide) hce hsl (fun q => ?_)
  refine y_eq (ws' := (h0, .inr (12, fs)) :: (rest ++ [(q, .inl (cA 20, 216, .inl (fun _ => 0)))])) rfl ?_
  refine y_putF X (pc := 672) (ci := 12) (k0 := 59) (ty := .array .int) 0 (cks_at k_M_init 452 rfl rfl) rfl rfl (by decide) (in_6 (List.mem_of_getElem? (i := 167) rfl)) ⟨rfl, rfl, rfl⟩ hin (by decide +kernel) rfl rfl (by rw [hfs]; decide) ?_
  exact k q
set_option maxRecDepth 20000 in
set_option maxHeartbeats 4000000 in
theorem mc_675 {p : Program} {l : Launch} {e : Env} {R : Room} {s : State} {m : MethodId} {args : Array Value} {below : List Frame} {meth : Method} {c : Code} {Qf : State → Prop} {cA : Nat → ClassId} {D : va_G} {A : Nat → Prop} {cells slots : Nat} (X : Cy p s m args c "BreathTownModel" prog_14_method_1_code 1 cA D A) (hin : meth.name = "<init>") {h0 : Nat} {fs : List Value} {rest : va_W} (hfs : fs.length = 100) (hce : cells + 1 ≤ R.cells) (hsl : slots + 3 ≤ R.slots) (k : ∀ q : Nat, Yw p l e R s m args below meth c Qf 1 D A (cells + 1) (slots + 3) 682 [(0, .ref h0)] [] (mW h0 (fs.set 61 (.ref q)) (rest ++ [(q, .inl (cA 20, 3, .inl (fun _ => 0)))]))) : Yw p l e R s m args below meth c Qf 1 D A cells slots 675 [(0, .ref h0)] [] (mW h0 fs rest) := by
  refine y_aload_n X (pc := 675) 0 (cks_at k_M_init 453 rfl rfl) rfl ?_
  refine y_iconst X (pc := 676) (cks_at k_M_init 454 rfl rfl) ?_
  refine y_newa X (pc := 677) 0 20 (n := 3) (a0 := (3, .inl (fun _ => 0))) (cks_at k_M_init 455 rfl rfl) (in_1 (List.mem_of_getElem? (i := 64) rfl)) rfl rfl (by decide) (fun _ => rfl) (by decide) hce hsl (fun q => ?_)
  refine y_eq (ws' := (h0, .inr (12, fs)) :: (rest ++ [(q, .inl (cA 20, 3, .inl (fun _ => 0)))])) rfl ?_
  refine y_putF X (pc := 679) (ci := 12) (k0 := 61) (ty := .array .int) 0 (cks_at k_M_init 456 rfl rfl) rfl rfl (by decide) (in_6 (List.mem_of_getElem? (i := 169) rfl)) ⟨rfl, rfl, rfl⟩ hin (by decide +kernel) rfl rfl (by rw [hfs]; decide) ?_
  exact k q
set_option maxRecDepth 20000 in
set_option maxHeartbeats 4000000 in
theorem mc_682 {p : Program} {l : Launch} {e : Env} {R : Room} {s : State} {m : MethodId} {args : Array Value} {below : List Frame} {meth : Method} {c : Code} {Qf : State → Prop} {cA : Nat → ClassId} {D : va_G} {A : Nat → Prop} {cells slots : Nat} (X : Cy p s m args c "BreathTownModel" prog_14_method_1_code 1 cA D A) (hin : meth.name = "<init>") {h0 : Nat} {fs : List Value} {rest : va_W} (hfs : fs.length = 100) (hce : cells + 1 ≤ R.cells) (hsl : slots + 620 ≤ R.slots) (k : ∀ q : Nat, Yw p l e R s m args below meth c Qf 1 D A (cells + 1) (slots + 620) 691 [(0, .ref h0)] [] (mW h0 (fs.set 62 (.ref q)) (rest ++ [(q, .inl (cA 20, 620, .inl (fun _ => 0)))]))) : Yw p l e R s m args below meth c Qf 1 D A cells slots 682 [(0, .ref h0)] [] (mW h0 fs rest) := by
  refine y_aload_n X (pc := 682) 0 (cks_at k_M_init 457 rfl rfl) rfl ?_
  refine y_sipush X (pc := 683) (cks_at k_M_init 458 rfl rfl) (by decide) (by decide) ?_
  refine y_newa X (pc := 686) 0 20 (n := 620) (a0 := (620, .inl (fun _ => 0))) (cks_at k_M_init 459 rfl rfl) (in_1 (List.mem_of_getElem? (i := 64) rfl)) rfl rfl (by decide) (fun _ => rfl) (by decide) hce hsl (fun q => ?_)
  refine y_eq (ws' := (h0, .inr (12, fs)) :: (rest ++ [(q, .inl (cA 20, 620, .inl (fun _ => 0)))])) rfl ?_
  refine y_putF X (pc := 688) (ci := 12) (k0 := 62) (ty := .array .int) 0 (cks_at k_M_init 460 rfl rfl) rfl rfl (by decide) (in_6 (List.mem_of_getElem? (i := 170) rfl)) ⟨rfl, rfl, rfl⟩ hin (by decide +kernel) rfl rfl (by rw [hfs]; decide) ?_
  exact k q
set_option maxRecDepth 20000 in
set_option maxHeartbeats 4000000 in
theorem mc_691 {p : Program} {l : Launch} {e : Env} {R : Room} {s : State} {m : MethodId} {args : Array Value} {below : List Frame} {meth : Method} {c : Code} {Qf : State → Prop} {cA : Nat → ClassId} {D : va_G} {A : Nat → Prop} {cells slots : Nat} (X : Cy p s m args c "BreathTownModel" prog_14_method_1_code 1 cA D A) (hin : meth.name = "<init>") {h0 : Nat} {fs : List Value} {rest : va_W} (hfs : fs.length = 100) (k : Yw p l e R s m args below meth c Qf 1 D A cells slots 696 [(0, .ref h0)] [] (mW h0 (fs.set 65 (vJ 1)) rest)) : Yw p l e R s m args below meth c Qf 1 D A cells slots 691 [(0, .ref h0)] [] (mW h0 fs rest) := by
  refine y_aload_n X (pc := 691) 0 (cks_at k_M_init 461 rfl rfl) rfl ?_
  refine y_lconst1 X (pc := 692) (cks_at k_M_init 462 rfl rfl) ?_
  refine y_put X (pc := 693) (ci := 12) (k0 := 65) (ty := .long) 0 (cks_at k_M_init 463 rfl rfl) rfl rfl (by decide) (in_6 (List.mem_of_getElem? (i := 173) rfl)) ⟨rfl, rfl⟩ (by decide +kernel) rfl rfl (by rw [hfs]; decide) ?_
  exact k
set_option maxRecDepth 20000 in
set_option maxHeartbeats 4000000 in
theorem mc_696 {p : Program} {l : Launch} {e : Env} {R : Room} {s : State} {m : MethodId} {args : Array Value} {below : List Frame} {meth : Method} {c : Code} {Qf : State → Prop} {cA : Nat → ClassId} {D : va_G} {A : Nat → Prop} {cells slots : Nat} (X : Cy p s m args c "BreathTownModel" prog_14_method_1_code 1 cA D A) (hin : meth.name = "<init>") {h0 : Nat} {fs : List Value} {rest : va_W} (hfs : fs.length = 100) (hce : cells + 1 ≤ R.cells) (hsl : slots + 60 ≤ R.slots) (k : ∀ q : Nat, Yw p l e R s m args below meth c Qf 1 D A (cells + 1) (slots + 60) 704 [(0, .ref h0)] [] (mW h0 (fs.set 67 (.ref q)) (rest ++ [(q, .inl (cA 20, 60, .inl (fun _ => 0)))]))) : Yw p l e R s m args below meth c Qf 1 D A cells slots 696 [(0, .ref h0)] [] (mW h0 fs rest) := by
  refine y_aload_n X (pc := 696) 0 (cks_at k_M_init 464 rfl rfl) rfl ?_
  refine y_bipush X (pc := 697) (cks_at k_M_init 465 rfl rfl) (by decide) (by decide) ?_
  refine y_newa X (pc := 699) 0 20 (n := 60) (a0 := (60, .inl (fun _ => 0))) (cks_at k_M_init 466 rfl rfl) (in_1 (List.mem_of_getElem? (i := 64) rfl)) rfl rfl (by decide) (fun _ => rfl) (by decide) hce hsl (fun q => ?_)
  refine y_eq (ws' := (h0, .inr (12, fs)) :: (rest ++ [(q, .inl (cA 20, 60, .inl (fun _ => 0)))])) rfl ?_
  refine y_putF X (pc := 701) (ci := 12) (k0 := 67) (ty := .array .int) 0 (cks_at k_M_init 467 rfl rfl) rfl rfl (by decide) (in_6 (List.mem_of_getElem? (i := 175) rfl)) ⟨rfl, rfl, rfl⟩ hin (by decide +kernel) rfl rfl (by rw [hfs]; decide) ?_
  exact k q
set_option maxRecDepth 20000 in
set_option maxHeartbeats 4000000 in
theorem mc_704 {p : Program} {l : Launch} {e : Env} {R : Room} {s : State} {m : MethodId} {args : Array Value} {below : List Frame} {meth : Method} {c : Code} {Qf : State → Prop} {cA : Nat → ClassId} {D : va_G} {A : Nat → Prop} {cells slots : Nat} (X : Cy p s m args c "BreathTownModel" prog_14_method_1_code 1 cA D A) (hin : meth.name = "<init>") {h0 : Nat} {fs : List Value} {rest : va_W} (hfs : fs.length = 100) (hce : cells + 1 ≤ R.cells) (hsl : slots + 48 ≤ R.slots) (k : ∀ q : Nat, Yw p l e R s m args below meth c Qf 1 D A (cells + 1) (slots + 48) 712 [(0, .ref h0)] [] (mW h0 (fs.set 68 (.ref q)) (rest ++ [(q, .inl (cA 22, 48, .inl (fun _ => 0)))]))) : Yw p l e R s m args below meth c Qf 1 D A cells slots 704 [(0, .ref h0)] [] (mW h0 fs rest) := by
  refine y_aload_n X (pc := 704) 0 (cks_at k_M_init 468 rfl rfl) rfl ?_
  refine y_bipush X (pc := 705) (cks_at k_M_init 469 rfl rfl) (by decide) (by decide) ?_
  refine y_newa X (pc := 707) 2 22 (n := 48) (a0 := (48, .inl (fun _ => 0))) (cks_at k_M_init 470 rfl rfl) (in_7 (List.mem_of_getElem? (i := 170) rfl)) rfl rfl (by decide) (fun _ => rfl) (by decide) hce hsl (fun q => ?_)
  refine y_eq (ws' := (h0, .inr (12, fs)) :: (rest ++ [(q, .inl (cA 22, 48, .inl (fun _ => 0)))])) rfl ?_
  refine y_putF X (pc := 709) (ci := 12) (k0 := 68) (ty := .array .boolean) 0 (cks_at k_M_init 471 rfl rfl) rfl rfl (by decide) (in_6 (List.mem_of_getElem? (i := 176) rfl)) ⟨rfl, rfl, rfl⟩ hin (by decide +kernel) rfl rfl (by rw [hfs]; decide) ?_
  exact k q
set_option maxRecDepth 20000 in
set_option maxHeartbeats 4000000 in
theorem mc_712 {p : Program} {l : Launch} {e : Env} {R : Room} {s : State} {m : MethodId} {args : Array Value} {below : List Frame} {meth : Method} {c : Code} {Qf : State → Prop} {cA : Nat → ClassId} {D : va_G} {A : Nat → Prop} {cells slots : Nat} (X : Cy p s m args c "BreathTownModel" prog_14_method_1_code 1 cA D A) (hin : meth.name = "<init>") {h0 : Nat} {fs : List Value} {rest : va_W} (hfs : fs.length = 100) (hce : cells + 1 ≤ R.cells) (hsl : slots + 100 ≤ R.slots) (k : ∀ q : Nat, Yw p l e R s m args below meth c Qf 1 D A (cells + 1) (slots + 100) 720 [(0, .ref h0)] [] (mW h0 (fs.set 69 (.ref q)) (rest ++ [(q, .inl (cA 20, 100, .inl (fun _ => 0)))]))) : Yw p l e R s m args below meth c Qf 1 D A cells slots 712 [(0, .ref h0)] [] (mW h0 fs rest) := by
  refine y_aload_n X (pc := 712) 0 (cks_at k_M_init 472 rfl rfl) rfl ?_
  refine y_bipush X (pc := 713) (cks_at k_M_init 473 rfl rfl) (by decide) (by decide) ?_
  refine y_newa X (pc := 715) 0 20 (n := 100) (a0 := (100, .inl (fun _ => 0))) (cks_at k_M_init 474 rfl rfl) (in_1 (List.mem_of_getElem? (i := 64) rfl)) rfl rfl (by decide) (fun _ => rfl) (by decide) hce hsl (fun q => ?_)
  refine y_eq (ws' := (h0, .inr (12, fs)) :: (rest ++ [(q, .inl (cA 20, 100, .inl (fun _ => 0)))])) rfl ?_
  refine y_putF X (pc := 717) (ci := 12) (k0 := 69) (ty := .array .int) 0 (cks_at k_M_init 475 rfl rfl) rfl rfl (by decide) (in_6 (List.mem_of_getElem? (i := 177) rfl)) ⟨rfl, rfl, rfl⟩ hin (by decide +kernel) rfl rfl (by rw [hfs]; decide) ?_
  exact k q
set_option maxRecDepth 20000 in
set_option maxHeartbeats 4000000 in
theorem mc_720 {p : Program} {l : Launch} {e : Env} {R : Room} {s : State} {m : MethodId} {args : Array Value} {below : List Frame} {meth : Method} {c : Code} {Qf : State → Prop} {cA : Nat → ClassId} {D : va_G} {A : Nat → Prop} {cells slots : Nat} (X : Cy p s m args c "BreathTownModel" prog_14_method_1_code 1 cA D A) (hin : meth.name = "<init>") {h0 : Nat} {fs : List Value} {rest : va_W} (hfs : fs.length = 100) (hce : cells + 1 ≤ R.cells) (hsl : slots + 5 ≤ R.slots) (k : ∀ q : Nat, Yw p l e R s m args below meth c Qf 1 D A (cells + 1) (slots + 5) 752 [(0, .ref h0)] [] (mW h0 (fs.set 70 (.ref q)) (rest ++ [(q, .inl (cA 23, 5, .inl (upd (upd (upd (upd (upd (fun _ => 0) 0 (nI 102)) 1 (nI 105)) 2 (nI 114)) 3 (nI 115)) 4 (nI 116))))]))) : Yw p l e R s m args below meth c Qf 1 D A cells slots 720 [(0, .ref h0)] [] (mW h0 fs rest) := by
  refine y_aload_n X (pc := 720) 0 (cks_at k_M_init 476 rfl rfl) rfl ?_
  refine y_iconst X (pc := 721) (cks_at k_M_init 477 rfl rfl) ?_
  refine y_newa X (pc := 722) 3 23 (n := 5) (a0 := (5, .inl (fun _ => 0))) (cks_at k_M_init 478 rfl rfl) (in_7 (List.mem_of_getElem? (i := 169) rfl)) rfl rfl (by decide) (fun _ => rfl) (by decide) hce hsl (fun q => ?_)
  refine y_eq (ws' := (h0, .inr (12, fs)) :: (rest ++ [(q, .inl (cA 23, 5, .inl (fun _ => 0)))])) rfl ?_
  refine y_dup X (pc := 724) (cks_at k_M_init 479 rfl rfl) rfl ?_
  refine y_iconst X (pc := 725) (cks_at k_M_init 480 rfl rfl) ?_
  refine y_bipush X (pc := 726) (cks_at k_M_init 481 rfl rfl) (by decide) (by decide) ?_
  refine y_castL X (pc := 728) 0 102 (cks_at k_M_init 482 rfl rfl) (by decide) (by decide) ?_
  refine y_dup X (pc := 729) (cks_at k_M_init 483 rfl rfl) rfl ?_
  refine y_iconst X (pc := 730) (cks_at k_M_init 484 rfl rfl) ?_
  refine y_bipush X (pc := 731) (cks_at k_M_init 485 rfl rfl) (by decide) (by decide) ?_
  refine y_castL X (pc := 733) 1 105 (cks_at k_M_init 486 rfl rfl) (by decide) (by decide) ?_
  refine y_dup X (pc := 734) (cks_at k_M_init 487 rfl rfl) rfl ?_
  refine y_iconst X (pc := 735) (cks_at k_M_init 488 rfl rfl) ?_
  refine y_bipush X (pc := 736) (cks_at k_M_init 489 rfl rfl) (by decide) (by decide) ?_
  refine y_castL X (pc := 738) 2 114 (cks_at k_M_init 490 rfl rfl) (by decide) (by decide) ?_
  refine y_dup X (pc := 739) (cks_at k_M_init 491 rfl rfl) rfl ?_
  refine y_iconst X (pc := 740) (cks_at k_M_init 492 rfl rfl) ?_
  refine y_bipush X (pc := 741) (cks_at k_M_init 493 rfl rfl) (by decide) (by decide) ?_
  refine y_castL X (pc := 743) 3 115 (cks_at k_M_init 494 rfl rfl) (by decide) (by decide) ?_
  refine y_dup X (pc := 744) (cks_at k_M_init 495 rfl rfl) rfl ?_
  refine y_iconst X (pc := 745) (cks_at k_M_init 496 rfl rfl) ?_
  refine y_bipush X (pc := 746) (cks_at k_M_init 497 rfl rfl) (by decide) (by decide) ?_
  refine y_castL X (pc := 748) 4 116 (cks_at k_M_init 498 rfl rfl) (by decide) (by decide) ?_
  refine y_putF X (pc := 749) (ci := 12) (k0 := 70) (ty := .array .char) 0 (cks_at k_M_init 499 rfl rfl) rfl rfl (by decide) (in_6 (List.mem_of_getElem? (i := 178) rfl)) ⟨rfl, rfl, rfl⟩ hin (by decide +kernel) rfl rfl (by rw [hfs]; decide) ?_
  exact k q
set_option maxRecDepth 20000 in
set_option maxHeartbeats 4000000 in
theorem mc_752 {p : Program} {l : Launch} {e : Env} {R : Room} {s : State} {m : MethodId} {args : Array Value} {below : List Frame} {meth : Method} {c : Code} {Qf : State → Prop} {cA : Nat → ClassId} {D : va_G} {A : Nat → Prop} {cells slots : Nat} (X : Cy p s m args c "BreathTownModel" prog_14_method_1_code 1 cA D A) (hin : meth.name = "<init>") {h0 : Nat} {fs : List Value} {rest : va_W} (hfs : fs.length = 100) (hce : cells + 1 ≤ R.cells) (hsl : slots + 4 ≤ R.slots) (k : ∀ q : Nat, Yw p l e R s m args below meth c Qf 1 D A (cells + 1) (slots + 4) 779 [(0, .ref h0)] [] (mW h0 (fs.set 71 (.ref q)) (rest ++ [(q, .inl (cA 23, 4, .inl (upd (upd (upd (upd (fun _ => 0) 0 (nI 108)) 1 (nI 97)) 2 (nI 115)) 3 (nI 116))))]))) : Yw p l e R s m args below meth c Qf 1 D A cells slots 752 [(0, .ref h0)] [] (mW h0 fs rest) := by
  refine y_aload_n X (pc := 752) 0 (cks_at k_M_init 500 rfl rfl) rfl ?_
  refine y_iconst X (pc := 753) (cks_at k_M_init 501 rfl rfl) ?_
  refine y_newa X (pc := 754) 3 23 (n := 4) (a0 := (4, .inl (fun _ => 0))) (cks_at k_M_init 502 rfl rfl) (in_7 (List.mem_of_getElem? (i := 169) rfl)) rfl rfl (by decide) (fun _ => rfl) (by decide) hce hsl (fun q => ?_)
  refine y_eq (ws' := (h0, .inr (12, fs)) :: (rest ++ [(q, .inl (cA 23, 4, .inl (fun _ => 0)))])) rfl ?_
  refine y_dup X (pc := 756) (cks_at k_M_init 503 rfl rfl) rfl ?_
  refine y_iconst X (pc := 757) (cks_at k_M_init 504 rfl rfl) ?_
  refine y_bipush X (pc := 758) (cks_at k_M_init 505 rfl rfl) (by decide) (by decide) ?_
  refine y_castL X (pc := 760) 0 108 (cks_at k_M_init 506 rfl rfl) (by decide) (by decide) ?_
  refine y_dup X (pc := 761) (cks_at k_M_init 507 rfl rfl) rfl ?_
  refine y_iconst X (pc := 762) (cks_at k_M_init 508 rfl rfl) ?_
  refine y_bipush X (pc := 763) (cks_at k_M_init 509 rfl rfl) (by decide) (by decide) ?_
  refine y_castL X (pc := 765) 1 97 (cks_at k_M_init 510 rfl rfl) (by decide) (by decide) ?_
  refine y_dup X (pc := 766) (cks_at k_M_init 511 rfl rfl) rfl ?_
  refine y_iconst X (pc := 767) (cks_at k_M_init 512 rfl rfl) ?_
  refine y_bipush X (pc := 768) (cks_at k_M_init 513 rfl rfl) (by decide) (by decide) ?_
  refine y_castL X (pc := 770) 2 115 (cks_at k_M_init 514 rfl rfl) (by decide) (by decide) ?_
  refine y_dup X (pc := 771) (cks_at k_M_init 515 rfl rfl) rfl ?_
  refine y_iconst X (pc := 772) (cks_at k_M_init 516 rfl rfl) ?_
  refine y_bipush X (pc := 773) (cks_at k_M_init 517 rfl rfl) (by decide) (by decide) ?_
  refine y_castL X (pc := 775) 3 116 (cks_at k_M_init 518 rfl rfl) (by decide) (by decide) ?_
  refine y_putF X (pc := 776) (ci := 12) (k0 := 71) (ty := .array .char) 0 (cks_at k_M_init 519 rfl rfl) rfl rfl (by decide) (in_6 (List.mem_of_getElem? (i := 179) rfl)) ⟨rfl, rfl, rfl⟩ hin (by decide +kernel) rfl rfl (by rw [hfs]; decide) ?_
  exact k q
set_option maxRecDepth 20000 in
set_option maxHeartbeats 4000000 in
theorem mc_779 {p : Program} {l : Launch} {e : Env} {R : Room} {s : State} {m : MethodId} {args : Array Value} {below : List Frame} {meth : Method} {c : Code} {Qf : State → Prop} {cA : Nat → ClassId} {D : va_G} {A : Nat → Prop} {cells slots : Nat} (X : Cy p s m args c "BreathTownModel" prog_14_method_1_code 1 cA D A) (hin : meth.name = "<init>") {h0 : Nat} {fs : List Value} {rest : va_W} (hfs : fs.length = 100) (hce : cells + 1 ≤ R.cells) (hsl : slots + 5 ≤ R.slots) (k : ∀ q : Nat, Yw p l e R s m args below meth c Qf 1 D A (cells + 1) (slots + 5) 811 [(0, .ref h0)] [] (mW h0 (fs.set 72 (.ref q)) (rest ++ [(q, .inl (cA 23, 5, .inl (upd (upd (upd (upd (upd (fun _ => 0) 0 (nI 111)) 1 (nI 102)) 2 (nI 116)) 3 (nI 101)) 4 (nI 110))))]))) : Yw p l e R s m args below meth c Qf 1 D A cells slots 779 [(0, .ref h0)] [] (mW h0 fs rest) := by
  refine y_aload_n X (pc := 779) 0 (cks_at k_M_init 520 rfl rfl) rfl ?_
  refine y_iconst X (pc := 780) (cks_at k_M_init 521 rfl rfl) ?_
  refine y_newa X (pc := 781) 3 23 (n := 5) (a0 := (5, .inl (fun _ => 0))) (cks_at k_M_init 522 rfl rfl) (in_7 (List.mem_of_getElem? (i := 169) rfl)) rfl rfl (by decide) (fun _ => rfl) (by decide) hce hsl (fun q => ?_)
  refine y_eq (ws' := (h0, .inr (12, fs)) :: (rest ++ [(q, .inl (cA 23, 5, .inl (fun _ => 0)))])) rfl ?_
  refine y_dup X (pc := 783) (cks_at k_M_init 523 rfl rfl) rfl ?_
  refine y_iconst X (pc := 784) (cks_at k_M_init 524 rfl rfl) ?_
  refine y_bipush X (pc := 785) (cks_at k_M_init 525 rfl rfl) (by decide) (by decide) ?_
  refine y_castL X (pc := 787) 0 111 (cks_at k_M_init 526 rfl rfl) (by decide) (by decide) ?_
  refine y_dup X (pc := 788) (cks_at k_M_init 527 rfl rfl) rfl ?_
  refine y_iconst X (pc := 789) (cks_at k_M_init 528 rfl rfl) ?_
  refine y_bipush X (pc := 790) (cks_at k_M_init 529 rfl rfl) (by decide) (by decide) ?_
  refine y_castL X (pc := 792) 1 102 (cks_at k_M_init 530 rfl rfl) (by decide) (by decide) ?_
  refine y_dup X (pc := 793) (cks_at k_M_init 531 rfl rfl) rfl ?_
  refine y_iconst X (pc := 794) (cks_at k_M_init 532 rfl rfl) ?_
  refine y_bipush X (pc := 795) (cks_at k_M_init 533 rfl rfl) (by decide) (by decide) ?_
  refine y_castL X (pc := 797) 2 116 (cks_at k_M_init 534 rfl rfl) (by decide) (by decide) ?_
  refine y_dup X (pc := 798) (cks_at k_M_init 535 rfl rfl) rfl ?_
  refine y_iconst X (pc := 799) (cks_at k_M_init 536 rfl rfl) ?_
  refine y_bipush X (pc := 800) (cks_at k_M_init 537 rfl rfl) (by decide) (by decide) ?_
  refine y_castL X (pc := 802) 3 101 (cks_at k_M_init 538 rfl rfl) (by decide) (by decide) ?_
  refine y_dup X (pc := 803) (cks_at k_M_init 539 rfl rfl) rfl ?_
  refine y_iconst X (pc := 804) (cks_at k_M_init 540 rfl rfl) ?_
  refine y_bipush X (pc := 805) (cks_at k_M_init 541 rfl rfl) (by decide) (by decide) ?_
  refine y_castL X (pc := 807) 4 110 (cks_at k_M_init 542 rfl rfl) (by decide) (by decide) ?_
  refine y_putF X (pc := 808) (ci := 12) (k0 := 72) (ty := .array .char) 0 (cks_at k_M_init 543 rfl rfl) rfl rfl (by decide) (in_6 (List.mem_of_getElem? (i := 180) rfl)) ⟨rfl, rfl, rfl⟩ hin (by decide +kernel) rfl rfl (by rw [hfs]; decide) ?_
  exact k q
set_option maxRecDepth 20000 in
set_option maxHeartbeats 4000000 in
theorem mc_811 {p : Program} {l : Launch} {e : Env} {R : Room} {s : State} {m : MethodId} {args : Array Value} {below : List Frame} {meth : Method} {c : Code} {Qf : State → Prop} {cA : Nat → ClassId} {D : va_G} {A : Nat → Prop} {cells slots : Nat} (X : Cy p s m args c "BreathTownModel" prog_14_method_1_code 1 cA D A) (hin : meth.name = "<init>") {h0 : Nat} {fs : List Value} {rest : va_W} (hfs : fs.length = 100) (hce : cells + 1 ≤ R.cells) (hsl : slots + 5 ≤ R.slots) (k : ∀ q : Nat, Yw p l e R s m args below meth c Qf 1 D A (cells + 1) (slots + 5) 843 [(0, .ref h0)] [] (mW h0 (fs.set 73 (.ref q)) (rest ++ [(q, .inl (cA 23, 5, .inl (upd (upd (upd (upd (upd (fun _ => 0) 0 (nI 116)) 1 (nI 111)) 2 (nI 116)) 3 (nI 97)) 4 (nI 108))))]))) : Yw p l e R s m args below meth c Qf 1 D A cells slots 811 [(0, .ref h0)] [] (mW h0 fs rest) := by
  refine y_aload_n X (pc := 811) 0 (cks_at k_M_init 544 rfl rfl) rfl ?_
  refine y_iconst X (pc := 812) (cks_at k_M_init 545 rfl rfl) ?_
  refine y_newa X (pc := 813) 3 23 (n := 5) (a0 := (5, .inl (fun _ => 0))) (cks_at k_M_init 546 rfl rfl) (in_7 (List.mem_of_getElem? (i := 169) rfl)) rfl rfl (by decide) (fun _ => rfl) (by decide) hce hsl (fun q => ?_)
  refine y_eq (ws' := (h0, .inr (12, fs)) :: (rest ++ [(q, .inl (cA 23, 5, .inl (fun _ => 0)))])) rfl ?_
  refine y_dup X (pc := 815) (cks_at k_M_init 547 rfl rfl) rfl ?_
  refine y_iconst X (pc := 816) (cks_at k_M_init 548 rfl rfl) ?_
  refine y_bipush X (pc := 817) (cks_at k_M_init 549 rfl rfl) (by decide) (by decide) ?_
  refine y_castL X (pc := 819) 0 116 (cks_at k_M_init 550 rfl rfl) (by decide) (by decide) ?_
  refine y_dup X (pc := 820) (cks_at k_M_init 551 rfl rfl) rfl ?_
  refine y_iconst X (pc := 821) (cks_at k_M_init 552 rfl rfl) ?_
  refine y_bipush X (pc := 822) (cks_at k_M_init 553 rfl rfl) (by decide) (by decide) ?_
  refine y_castL X (pc := 824) 1 111 (cks_at k_M_init 554 rfl rfl) (by decide) (by decide) ?_
  refine y_dup X (pc := 825) (cks_at k_M_init 555 rfl rfl) rfl ?_
  refine y_iconst X (pc := 826) (cks_at k_M_init 556 rfl rfl) ?_
  refine y_bipush X (pc := 827) (cks_at k_M_init 557 rfl rfl) (by decide) (by decide) ?_
  refine y_castL X (pc := 829) 2 116 (cks_at k_M_init 558 rfl rfl) (by decide) (by decide) ?_
  refine y_dup X (pc := 830) (cks_at k_M_init 559 rfl rfl) rfl ?_
  refine y_iconst X (pc := 831) (cks_at k_M_init 560 rfl rfl) ?_
  refine y_bipush X (pc := 832) (cks_at k_M_init 561 rfl rfl) (by decide) (by decide) ?_
  refine y_castL X (pc := 834) 3 97 (cks_at k_M_init 562 rfl rfl) (by decide) (by decide) ?_
  refine y_dup X (pc := 835) (cks_at k_M_init 563 rfl rfl) rfl ?_
  refine y_iconst X (pc := 836) (cks_at k_M_init 564 rfl rfl) ?_
  refine y_bipush X (pc := 837) (cks_at k_M_init 565 rfl rfl) (by decide) (by decide) ?_
  refine y_castL X (pc := 839) 4 108 (cks_at k_M_init 566 rfl rfl) (by decide) (by decide) ?_
  refine y_putF X (pc := 840) (ci := 12) (k0 := 73) (ty := .array .char) 0 (cks_at k_M_init 567 rfl rfl) rfl rfl (by decide) (in_6 (List.mem_of_getElem? (i := 181) rfl)) ⟨rfl, rfl, rfl⟩ hin (by decide +kernel) rfl rfl (by rw [hfs]; decide) ?_
  exact k q
set_option maxRecDepth 20000 in
set_option maxHeartbeats 4000000 in
theorem mc_843 {p : Program} {l : Launch} {e : Env} {R : Room} {s : State} {m : MethodId} {args : Array Value} {below : List Frame} {meth : Method} {c : Code} {Qf : State → Prop} {cA : Nat → ClassId} {D : va_G} {A : Nat → Prop} {cells slots : Nat} (X : Cy p s m args c "BreathTownModel" prog_14_method_1_code 1 cA D A) (hin : meth.name = "<init>") {h0 : Nat} {fs : List Value} {rest : va_W} (hfs : fs.length = 100) (hce : cells + 1 ≤ R.cells) (hsl : slots + 4 ≤ R.slots) (k : ∀ q : Nat, Yw p l e R s m args below meth c Qf 1 D A (cells + 1) (slots + 4) 870 [(0, .ref h0)] [] (mW h0 (fs.set 74 (.ref q)) (rest ++ [(q, .inl (cA 23, 4, .inl (upd (upd (upd (upd (fun _ => 0) 0 (nI 109)) 1 (nI 111)) 2 (nI 115)) 3 (nI 116))))]))) : Yw p l e R s m args below meth c Qf 1 D A cells slots 843 [(0, .ref h0)] [] (mW h0 fs rest) := by
  refine y_aload_n X (pc := 843) 0 (cks_at k_M_init 568 rfl rfl) rfl ?_
  refine y_iconst X (pc := 844) (cks_at k_M_init 569 rfl rfl) ?_
  refine y_newa X (pc := 845) 3 23 (n := 4) (a0 := (4, .inl (fun _ => 0))) (cks_at k_M_init 570 rfl rfl) (in_7 (List.mem_of_getElem? (i := 169) rfl)) rfl rfl (by decide) (fun _ => rfl) (by decide) hce hsl (fun q => ?_)
  refine y_eq (ws' := (h0, .inr (12, fs)) :: (rest ++ [(q, .inl (cA 23, 4, .inl (fun _ => 0)))])) rfl ?_
  refine y_dup X (pc := 847) (cks_at k_M_init 571 rfl rfl) rfl ?_
  refine y_iconst X (pc := 848) (cks_at k_M_init 572 rfl rfl) ?_
  refine y_bipush X (pc := 849) (cks_at k_M_init 573 rfl rfl) (by decide) (by decide) ?_
  refine y_castL X (pc := 851) 0 109 (cks_at k_M_init 574 rfl rfl) (by decide) (by decide) ?_
  refine y_dup X (pc := 852) (cks_at k_M_init 575 rfl rfl) rfl ?_
  refine y_iconst X (pc := 853) (cks_at k_M_init 576 rfl rfl) ?_
  refine y_bipush X (pc := 854) (cks_at k_M_init 577 rfl rfl) (by decide) (by decide) ?_
  refine y_castL X (pc := 856) 1 111 (cks_at k_M_init 578 rfl rfl) (by decide) (by decide) ?_
  refine y_dup X (pc := 857) (cks_at k_M_init 579 rfl rfl) rfl ?_
  refine y_iconst X (pc := 858) (cks_at k_M_init 580 rfl rfl) ?_
  refine y_bipush X (pc := 859) (cks_at k_M_init 581 rfl rfl) (by decide) (by decide) ?_
  refine y_castL X (pc := 861) 2 115 (cks_at k_M_init 582 rfl rfl) (by decide) (by decide) ?_
  refine y_dup X (pc := 862) (cks_at k_M_init 583 rfl rfl) rfl ?_
  refine y_iconst X (pc := 863) (cks_at k_M_init 584 rfl rfl) ?_
  refine y_bipush X (pc := 864) (cks_at k_M_init 585 rfl rfl) (by decide) (by decide) ?_
  refine y_castL X (pc := 866) 3 116 (cks_at k_M_init 586 rfl rfl) (by decide) (by decide) ?_
  refine y_putF X (pc := 867) (ci := 12) (k0 := 74) (ty := .array .char) 0 (cks_at k_M_init 587 rfl rfl) rfl rfl (by decide) (in_6 (List.mem_of_getElem? (i := 182) rfl)) ⟨rfl, rfl, rfl⟩ hin (by decide +kernel) rfl rfl (by rw [hfs]; decide) ?_
  exact k q
set_option maxRecDepth 20000 in
set_option maxHeartbeats 4000000 in
theorem mc_870 {p : Program} {l : Launch} {e : Env} {R : Room} {s : State} {m : MethodId} {args : Array Value} {below : List Frame} {meth : Method} {c : Code} {Qf : State → Prop} {cA : Nat → ClassId} {D : va_G} {A : Nat → Prop} {cells slots : Nat} (X : Cy p s m args c "BreathTownModel" prog_14_method_1_code 1 cA D A) (hin : meth.name = "<init>") {h0 : Nat} {fs : List Value} {rest : va_W} (hfs : fs.length = 100) (hce : cells + 1 ≤ R.cells) (hsl : slots + 5 ≤ R.slots) (k : ∀ q : Nat, Yw p l e R s m args below meth c Qf 1 D A (cells + 1) (slots + 5) 902 [(0, .ref h0)] [] (mW h0 (fs.set 75 (.ref q)) (rest ++ [(q, .inl (cA 23, 5, .inl (upd (upd (upd (upd (upd (fun _ => 0) 0 (nI 108)) 1 (nI 101)) 2 (nI 97)) 3 (nI 115)) 4 (nI 116))))]))) : Yw p l e R s m args below meth c Qf 1 D A cells slots 870 [(0, .ref h0)] [] (mW h0 fs rest) := by
  refine y_aload_n X (pc := 870) 0 (cks_at k_M_init 588 rfl rfl) rfl ?_
  refine y_iconst X (pc := 871) (cks_at k_M_init 589 rfl rfl) ?_
  refine y_newa X (pc := 872) 3 23 (n := 5) (a0 := (5, .inl (fun _ => 0))) (cks_at k_M_init 590 rfl rfl) (in_7 (List.mem_of_getElem? (i := 169) rfl)) rfl rfl (by decide) (fun _ => rfl) (by decide) hce hsl (fun q => ?_)
  refine y_eq (ws' := (h0, .inr (12, fs)) :: (rest ++ [(q, .inl (cA 23, 5, .inl (fun _ => 0)))])) rfl ?_
  refine y_dup X (pc := 874) (cks_at k_M_init 591 rfl rfl) rfl ?_
  refine y_iconst X (pc := 875) (cks_at k_M_init 592 rfl rfl) ?_
  refine y_bipush X (pc := 876) (cks_at k_M_init 593 rfl rfl) (by decide) (by decide) ?_
  refine y_castL X (pc := 878) 0 108 (cks_at k_M_init 594 rfl rfl) (by decide) (by decide) ?_
  refine y_dup X (pc := 879) (cks_at k_M_init 595 rfl rfl) rfl ?_
  refine y_iconst X (pc := 880) (cks_at k_M_init 596 rfl rfl) ?_
  refine y_bipush X (pc := 881) (cks_at k_M_init 597 rfl rfl) (by decide) (by decide) ?_
  refine y_castL X (pc := 883) 1 101 (cks_at k_M_init 598 rfl rfl) (by decide) (by decide) ?_
  refine y_dup X (pc := 884) (cks_at k_M_init 599 rfl rfl) rfl ?_
  refine y_iconst X (pc := 885) (cks_at k_M_init 600 rfl rfl) ?_
  refine y_bipush X (pc := 886) (cks_at k_M_init 601 rfl rfl) (by decide) (by decide) ?_
  refine y_castL X (pc := 888) 2 97 (cks_at k_M_init 602 rfl rfl) (by decide) (by decide) ?_
  refine y_dup X (pc := 889) (cks_at k_M_init 603 rfl rfl) rfl ?_
  refine y_iconst X (pc := 890) (cks_at k_M_init 604 rfl rfl) ?_
  refine y_bipush X (pc := 891) (cks_at k_M_init 605 rfl rfl) (by decide) (by decide) ?_
  refine y_castL X (pc := 893) 3 115 (cks_at k_M_init 606 rfl rfl) (by decide) (by decide) ?_
  refine y_dup X (pc := 894) (cks_at k_M_init 607 rfl rfl) rfl ?_
  refine y_iconst X (pc := 895) (cks_at k_M_init 608 rfl rfl) ?_
  refine y_bipush X (pc := 896) (cks_at k_M_init 609 rfl rfl) (by decide) (by decide) ?_
  refine y_castL X (pc := 898) 4 116 (cks_at k_M_init 610 rfl rfl) (by decide) (by decide) ?_
  refine y_putF X (pc := 899) (ci := 12) (k0 := 75) (ty := .array .char) 0 (cks_at k_M_init 611 rfl rfl) rfl rfl (by decide) (in_6 (List.mem_of_getElem? (i := 183) rfl)) ⟨rfl, rfl, rfl⟩ hin (by decide +kernel) rfl rfl (by rw [hfs]; decide) ?_
  exact k q
set_option maxRecDepth 20000 in
set_option maxHeartbeats 4000000 in
theorem mc_902 {p : Program} {l : Launch} {e : Env} {R : Room} {s : State} {m : MethodId} {args : Array Value} {below : List Frame} {meth : Method} {c : Code} {Qf : State → Prop} {cA : Nat → ClassId} {D : va_G} {A : Nat → Prop} {cells slots : Nat} (X : Cy p s m args c "BreathTownModel" prog_14_method_1_code 1 cA D A) (hin : meth.name = "<init>") {h0 : Nat} {fs : List Value} {rest : va_W} (hfs : fs.length = 100) (hce : cells + 1 ≤ R.cells) (hsl : slots + 3 ≤ R.slots) (k : ∀ q : Nat, Yw p l e R s m args below meth c Qf 1 D A (cells + 1) (slots + 3) 924 [(0, .ref h0)] [] (mW h0 (fs.set 76 (.ref q)) (rest ++ [(q, .inl (cA 23, 3, .inl (upd (upd (upd (fun _ => 0) 0 (nI 110)) 1 (nI 111)) 2 (nI 116))))]))) : Yw p l e R s m args below meth c Qf 1 D A cells slots 902 [(0, .ref h0)] [] (mW h0 fs rest) := by
  refine y_aload_n X (pc := 902) 0 (cks_at k_M_init 612 rfl rfl) rfl ?_
  refine y_iconst X (pc := 903) (cks_at k_M_init 613 rfl rfl) ?_
  refine y_newa X (pc := 904) 3 23 (n := 3) (a0 := (3, .inl (fun _ => 0))) (cks_at k_M_init 614 rfl rfl) (in_7 (List.mem_of_getElem? (i := 169) rfl)) rfl rfl (by decide) (fun _ => rfl) (by decide) hce hsl (fun q => ?_)
  refine y_eq (ws' := (h0, .inr (12, fs)) :: (rest ++ [(q, .inl (cA 23, 3, .inl (fun _ => 0)))])) rfl ?_
  refine y_dup X (pc := 906) (cks_at k_M_init 615 rfl rfl) rfl ?_
  refine y_iconst X (pc := 907) (cks_at k_M_init 616 rfl rfl) ?_
  refine y_bipush X (pc := 908) (cks_at k_M_init 617 rfl rfl) (by decide) (by decide) ?_
  refine y_castL X (pc := 910) 0 110 (cks_at k_M_init 618 rfl rfl) (by decide) (by decide) ?_
  refine y_dup X (pc := 911) (cks_at k_M_init 619 rfl rfl) rfl ?_
  refine y_iconst X (pc := 912) (cks_at k_M_init 620 rfl rfl) ?_
  refine y_bipush X (pc := 913) (cks_at k_M_init 621 rfl rfl) (by decide) (by decide) ?_
  refine y_castL X (pc := 915) 1 111 (cks_at k_M_init 622 rfl rfl) (by decide) (by decide) ?_
  refine y_dup X (pc := 916) (cks_at k_M_init 623 rfl rfl) rfl ?_
  refine y_iconst X (pc := 917) (cks_at k_M_init 624 rfl rfl) ?_
  refine y_bipush X (pc := 918) (cks_at k_M_init 625 rfl rfl) (by decide) (by decide) ?_
  refine y_castL X (pc := 920) 2 116 (cks_at k_M_init 626 rfl rfl) (by decide) (by decide) ?_
  refine y_putF X (pc := 921) (ci := 12) (k0 := 76) (ty := .array .char) 0 (cks_at k_M_init 627 rfl rfl) rfl rfl (by decide) (in_6 (List.mem_of_getElem? (i := 184) rfl)) ⟨rfl, rfl, rfl⟩ hin (by decide +kernel) rfl rfl (by rw [hfs]; decide) ?_
  exact k q
set_option maxRecDepth 20000 in
set_option maxHeartbeats 4000000 in
theorem mc_924 {p : Program} {l : Launch} {e : Env} {R : Room} {s : State} {m : MethodId} {args : Array Value} {below : List Frame} {meth : Method} {c : Code} {Qf : State → Prop} {cA : Nat → ClassId} {D : va_G} {A : Nat → Prop} {cells slots : Nat} (X : Cy p s m args c "BreathTownModel" prog_14_method_1_code 1 cA D A) (hin : meth.name = "<init>") {h0 : Nat} {fs : List Value} {rest : va_W} (hfs : fs.length = 100) (hce : cells + 1 ≤ R.cells) (hsl : slots + 3 ≤ R.slots) (k : ∀ q : Nat, Yw p l e R s m args below meth c Qf 1 D A (cells + 1) (slots + 3) 946 [(0, .ref h0)] [] (mW h0 (fs.set 77 (.ref q)) (rest ++ [(q, .inl (cA 23, 3, .inl (upd (upd (upd (fun _ => 0) 0 (nI 97)) 1 (nI 110)) 2 (nI 100))))]))) : Yw p l e R s m args below meth c Qf 1 D A cells slots 924 [(0, .ref h0)] [] (mW h0 fs rest) := by
  refine y_aload_n X (pc := 924) 0 (cks_at k_M_init 628 rfl rfl) rfl ?_
  refine y_iconst X (pc := 925) (cks_at k_M_init 629 rfl rfl) ?_
  refine y_newa X (pc := 926) 3 23 (n := 3) (a0 := (3, .inl (fun _ => 0))) (cks_at k_M_init 630 rfl rfl) (in_7 (List.mem_of_getElem? (i := 169) rfl)) rfl rfl (by decide) (fun _ => rfl) (by decide) hce hsl (fun q => ?_)
  refine y_eq (ws' := (h0, .inr (12, fs)) :: (rest ++ [(q, .inl (cA 23, 3, .inl (fun _ => 0)))])) rfl ?_
  refine y_dup X (pc := 928) (cks_at k_M_init 631 rfl rfl) rfl ?_
  refine y_iconst X (pc := 929) (cks_at k_M_init 632 rfl rfl) ?_
  refine y_bipush X (pc := 930) (cks_at k_M_init 633 rfl rfl) (by decide) (by decide) ?_
  refine y_castL X (pc := 932) 0 97 (cks_at k_M_init 634 rfl rfl) (by decide) (by decide) ?_
  refine y_dup X (pc := 933) (cks_at k_M_init 635 rfl rfl) rfl ?_
  refine y_iconst X (pc := 934) (cks_at k_M_init 636 rfl rfl) ?_
  refine y_bipush X (pc := 935) (cks_at k_M_init 637 rfl rfl) (by decide) (by decide) ?_
  refine y_castL X (pc := 937) 1 110 (cks_at k_M_init 638 rfl rfl) (by decide) (by decide) ?_
  refine y_dup X (pc := 938) (cks_at k_M_init 639 rfl rfl) rfl ?_
  refine y_iconst X (pc := 939) (cks_at k_M_init 640 rfl rfl) ?_
  refine y_bipush X (pc := 940) (cks_at k_M_init 641 rfl rfl) (by decide) (by decide) ?_
  refine y_castL X (pc := 942) 2 100 (cks_at k_M_init 642 rfl rfl) (by decide) (by decide) ?_
  refine y_putF X (pc := 943) (ci := 12) (k0 := 77) (ty := .array .char) 0 (cks_at k_M_init 643 rfl rfl) rfl rfl (by decide) (in_6 (List.mem_of_getElem? (i := 185) rfl)) ⟨rfl, rfl, rfl⟩ hin (by decide +kernel) rfl rfl (by rw [hfs]; decide) ?_
  exact k q
set_option maxRecDepth 20000 in
set_option maxHeartbeats 4000000 in
theorem mc_946 {p : Program} {l : Launch} {e : Env} {R : Room} {s : State} {m : MethodId} {args : Array Value} {below : List Frame} {meth : Method} {c : Code} {Qf : State → Prop} {cA : Nat → ClassId} {D : va_G} {A : Nat → Prop} {cells slots : Nat} (X : Cy p s m args c "BreathTownModel" prog_14_method_1_code 1 cA D A) (hin : meth.name = "<init>") {h0 : Nat} {fs : List Value} {rest : va_W} (hfs : fs.length = 100) (hce : cells + 1 ≤ R.cells) (hsl : slots + 2 ≤ R.slots) (k : ∀ q : Nat, Yw p l e R s m args below meth c Qf 1 D A (cells + 1) (slots + 2) 963 [(0, .ref h0)] [] (mW h0 (fs.set 78 (.ref q)) (rest ++ [(q, .inl (cA 23, 2, .inl (upd (upd (fun _ => 0) 0 (nI 111)) 1 (nI 114))))]))) : Yw p l e R s m args below meth c Qf 1 D A cells slots 946 [(0, .ref h0)] [] (mW h0 fs rest) := by
  refine y_aload_n X (pc := 946) 0 (cks_at k_M_init 644 rfl rfl) rfl ?_
  refine y_iconst X (pc := 947) (cks_at k_M_init 645 rfl rfl) ?_
  refine y_newa X (pc := 948) 3 23 (n := 2) (a0 := (2, .inl (fun _ => 0))) (cks_at k_M_init 646 rfl rfl) (in_7 (List.mem_of_getElem? (i := 169) rfl)) rfl rfl (by decide) (fun _ => rfl) (by decide) hce hsl (fun q => ?_)
  refine y_eq (ws' := (h0, .inr (12, fs)) :: (rest ++ [(q, .inl (cA 23, 2, .inl (fun _ => 0)))])) rfl ?_
  refine y_dup X (pc := 950) (cks_at k_M_init 647 rfl rfl) rfl ?_
  refine y_iconst X (pc := 951) (cks_at k_M_init 648 rfl rfl) ?_
  refine y_bipush X (pc := 952) (cks_at k_M_init 649 rfl rfl) (by decide) (by decide) ?_
  refine y_castL X (pc := 954) 0 111 (cks_at k_M_init 650 rfl rfl) (by decide) (by decide) ?_
  refine y_dup X (pc := 955) (cks_at k_M_init 651 rfl rfl) rfl ?_
  refine y_iconst X (pc := 956) (cks_at k_M_init 652 rfl rfl) ?_
  refine y_bipush X (pc := 957) (cks_at k_M_init 653 rfl rfl) (by decide) (by decide) ?_
  refine y_castL X (pc := 959) 1 114 (cks_at k_M_init 654 rfl rfl) (by decide) (by decide) ?_
  refine y_putF X (pc := 960) (ci := 12) (k0 := 78) (ty := .array .char) 0 (cks_at k_M_init 655 rfl rfl) rfl rfl (by decide) (in_6 (List.mem_of_getElem? (i := 186) rfl)) ⟨rfl, rfl, rfl⟩ hin (by decide +kernel) rfl rfl (by rw [hfs]; decide) ?_
  exact k q
set_option maxRecDepth 20000 in
set_option maxHeartbeats 4000000 in
theorem mc_963 {p : Program} {l : Launch} {e : Env} {R : Room} {s : State} {m : MethodId} {args : Array Value} {below : List Frame} {meth : Method} {c : Code} {Qf : State → Prop} {cA : Nat → ClassId} {D : va_G} {A : Nat → Prop} {cells slots : Nat} (X : Cy p s m args c "BreathTownModel" prog_14_method_1_code 1 cA D A) (hin : meth.name = "<init>") {h0 : Nat} {fs : List Value} {rest : va_W} (hfs : fs.length = 100) (hce : cells + 1 ≤ R.cells) (hsl : slots + 3 ≤ R.slots) (k : ∀ q : Nat, Yw p l e R s m args below meth c Qf 1 D A (cells + 1) (slots + 3) 985 [(0, .ref h0)] [] (mW h0 (fs.set 79 (.ref q)) (rest ++ [(q, .inl (cA 23, 3, .inl (upd (upd (upd (fun _ => 0) 0 (nI 97)) 1 (nI 108)) 2 (nI 108))))]))) : Yw p l e R s m args below meth c Qf 1 D A cells slots 963 [(0, .ref h0)] [] (mW h0 fs rest) := by
  refine y_aload_n X (pc := 963) 0 (cks_at k_M_init 656 rfl rfl) rfl ?_
  refine y_iconst X (pc := 964) (cks_at k_M_init 657 rfl rfl) ?_
  refine y_newa X (pc := 965) 3 23 (n := 3) (a0 := (3, .inl (fun _ => 0))) (cks_at k_M_init 658 rfl rfl) (in_7 (List.mem_of_getElem? (i := 169) rfl)) rfl rfl (by decide) (fun _ => rfl) (by decide) hce hsl (fun q => ?_)
  refine y_eq (ws' := (h0, .inr (12, fs)) :: (rest ++ [(q, .inl (cA 23, 3, .inl (fun _ => 0)))])) rfl ?_
  refine y_dup X (pc := 967) (cks_at k_M_init 659 rfl rfl) rfl ?_
  refine y_iconst X (pc := 968) (cks_at k_M_init 660 rfl rfl) ?_
  refine y_bipush X (pc := 969) (cks_at k_M_init 661 rfl rfl) (by decide) (by decide) ?_
  refine y_castL X (pc := 971) 0 97 (cks_at k_M_init 662 rfl rfl) (by decide) (by decide) ?_
  refine y_dup X (pc := 972) (cks_at k_M_init 663 rfl rfl) rfl ?_
  refine y_iconst X (pc := 973) (cks_at k_M_init 664 rfl rfl) ?_
  refine y_bipush X (pc := 974) (cks_at k_M_init 665 rfl rfl) (by decide) (by decide) ?_
  refine y_castL X (pc := 976) 1 108 (cks_at k_M_init 666 rfl rfl) (by decide) (by decide) ?_
  refine y_dup X (pc := 977) (cks_at k_M_init 667 rfl rfl) rfl ?_
  refine y_iconst X (pc := 978) (cks_at k_M_init 668 rfl rfl) ?_
  refine y_bipush X (pc := 979) (cks_at k_M_init 669 rfl rfl) (by decide) (by decide) ?_
  refine y_castL X (pc := 981) 2 108 (cks_at k_M_init 670 rfl rfl) (by decide) (by decide) ?_
  refine y_putF X (pc := 982) (ci := 12) (k0 := 79) (ty := .array .char) 0 (cks_at k_M_init 671 rfl rfl) rfl rfl (by decide) (in_6 (List.mem_of_getElem? (i := 187) rfl)) ⟨rfl, rfl, rfl⟩ hin (by decide +kernel) rfl rfl (by rw [hfs]; decide) ?_
  exact k q
set_option maxRecDepth 20000 in
set_option maxHeartbeats 4000000 in
theorem mc_985 {p : Program} {l : Launch} {e : Env} {R : Room} {s : State} {m : MethodId} {args : Array Value} {below : List Frame} {meth : Method} {c : Code} {Qf : State → Prop} {cA : Nat → ClassId} {D : va_G} {A : Nat → Prop} {cells slots : Nat} (X : Cy p s m args c "BreathTownModel" prog_14_method_1_code 1 cA D A) (hin : meth.name = "<init>") {h0 : Nat} {fs : List Value} {rest : va_W} (hfs : fs.length = 100) (hce : cells + 1 ≤ R.cells) (hsl : slots + 3 ≤ R.slots) (k : ∀ q : Nat, Yw p l e R s m args below meth c Qf 1 D A (cells + 1) (slots + 3) 1007 [(0, .ref h0)] [] (mW h0 (fs.set 80 (.ref q)) (rest ++ [(q, .inl (cA 23, 3, .inl (upd (upd (upd (fun _ => 0) 0 (nI 109)) 1 (nI 105)) 2 (nI 110))))]))) : Yw p l e R s m args below meth c Qf 1 D A cells slots 985 [(0, .ref h0)] [] (mW h0 fs rest) := by
  refine y_aload_n X (pc := 985) 0 (cks_at k_M_init 672 rfl rfl) rfl ?_
  refine y_iconst X (pc := 986) (cks_at k_M_init 673 rfl rfl) ?_
  refine y_newa X (pc := 987) 3 23 (n := 3) (a0 := (3, .inl (fun _ => 0))) (cks_at k_M_init 674 rfl rfl) (in_7 (List.mem_of_getElem? (i := 169) rfl)) rfl rfl (by decide) (fun _ => rfl) (by decide) hce hsl (fun q => ?_)
  refine y_eq (ws' := (h0, .inr (12, fs)) :: (rest ++ [(q, .inl (cA 23, 3, .inl (fun _ => 0)))])) rfl ?_
  refine y_dup X (pc := 989) (cks_at k_M_init 675 rfl rfl) rfl ?_
  refine y_iconst X (pc := 990) (cks_at k_M_init 676 rfl rfl) ?_
  refine y_bipush X (pc := 991) (cks_at k_M_init 677 rfl rfl) (by decide) (by decide) ?_
  refine y_castL X (pc := 993) 0 109 (cks_at k_M_init 678 rfl rfl) (by decide) (by decide) ?_
  refine y_dup X (pc := 994) (cks_at k_M_init 679 rfl rfl) rfl ?_
  refine y_iconst X (pc := 995) (cks_at k_M_init 680 rfl rfl) ?_
  refine y_bipush X (pc := 996) (cks_at k_M_init 681 rfl rfl) (by decide) (by decide) ?_
  refine y_castL X (pc := 998) 1 105 (cks_at k_M_init 682 rfl rfl) (by decide) (by decide) ?_
  refine y_dup X (pc := 999) (cks_at k_M_init 683 rfl rfl) rfl ?_
  refine y_iconst X (pc := 1000) (cks_at k_M_init 684 rfl rfl) ?_
  refine y_bipush X (pc := 1001) (cks_at k_M_init 685 rfl rfl) (by decide) (by decide) ?_
  refine y_castL X (pc := 1003) 2 110 (cks_at k_M_init 686 rfl rfl) (by decide) (by decide) ?_
  refine y_putF X (pc := 1004) (ci := 12) (k0 := 80) (ty := .array .char) 0 (cks_at k_M_init 687 rfl rfl) rfl rfl (by decide) (in_6 (List.mem_of_getElem? (i := 188) rfl)) ⟨rfl, rfl, rfl⟩ hin (by decide +kernel) rfl rfl (by rw [hfs]; decide) ?_
  exact k q
set_option maxRecDepth 20000 in
set_option maxHeartbeats 4000000 in
theorem mc_1007 {p : Program} {l : Launch} {e : Env} {R : Room} {s : State} {m : MethodId} {args : Array Value} {below : List Frame} {meth : Method} {c : Code} {Qf : State → Prop} {cA : Nat → ClassId} {D : va_G} {A : Nat → Prop} {cells slots : Nat} (X : Cy p s m args c "BreathTownModel" prog_14_method_1_code 1 cA D A) (hin : meth.name = "<init>") {h0 : Nat} {fs : List Value} {rest : va_W} (hfs : fs.length = 100) (hce : cells + 1 ≤ R.cells) (hsl : slots + 3 ≤ R.slots) (k : ∀ q : Nat, Yw p l e R s m args below meth c Qf 1 D A (cells + 1) (slots + 3) 1029 [(0, .ref h0)] [] (mW h0 (fs.set 81 (.ref q)) (rest ++ [(q, .inl (cA 23, 3, .inl (upd (upd (upd (fun _ => 0) 0 (nI 109)) 1 (nI 97)) 2 (nI 120))))]))) : Yw p l e R s m args below meth c Qf 1 D A cells slots 1007 [(0, .ref h0)] [] (mW h0 fs rest) := by
  refine y_aload_n X (pc := 1007) 0 (cks_at k_M_init 688 rfl rfl) rfl ?_
  refine y_iconst X (pc := 1008) (cks_at k_M_init 689 rfl rfl) ?_
  refine y_newa X (pc := 1009) 3 23 (n := 3) (a0 := (3, .inl (fun _ => 0))) (cks_at k_M_init 690 rfl rfl) (in_7 (List.mem_of_getElem? (i := 169) rfl)) rfl rfl (by decide) (fun _ => rfl) (by decide) hce hsl (fun q => ?_)
  refine y_eq (ws' := (h0, .inr (12, fs)) :: (rest ++ [(q, .inl (cA 23, 3, .inl (fun _ => 0)))])) rfl ?_
  refine y_dup X (pc := 1011) (cks_at k_M_init 691 rfl rfl) rfl ?_
  refine y_iconst X (pc := 1012) (cks_at k_M_init 692 rfl rfl) ?_
  refine y_bipush X (pc := 1013) (cks_at k_M_init 693 rfl rfl) (by decide) (by decide) ?_
  refine y_castL X (pc := 1015) 0 109 (cks_at k_M_init 694 rfl rfl) (by decide) (by decide) ?_
  refine y_dup X (pc := 1016) (cks_at k_M_init 695 rfl rfl) rfl ?_
  refine y_iconst X (pc := 1017) (cks_at k_M_init 696 rfl rfl) ?_
  refine y_bipush X (pc := 1018) (cks_at k_M_init 697 rfl rfl) (by decide) (by decide) ?_
  refine y_castL X (pc := 1020) 1 97 (cks_at k_M_init 698 rfl rfl) (by decide) (by decide) ?_
  refine y_dup X (pc := 1021) (cks_at k_M_init 699 rfl rfl) rfl ?_
  refine y_iconst X (pc := 1022) (cks_at k_M_init 700 rfl rfl) ?_
  refine y_bipush X (pc := 1023) (cks_at k_M_init 701 rfl rfl) (by decide) (by decide) ?_
  refine y_castL X (pc := 1025) 2 120 (cks_at k_M_init 702 rfl rfl) (by decide) (by decide) ?_
  refine y_putF X (pc := 1026) (ci := 12) (k0 := 81) (ty := .array .char) 0 (cks_at k_M_init 703 rfl rfl) rfl rfl (by decide) (in_6 (List.mem_of_getElem? (i := 189) rfl)) ⟨rfl, rfl, rfl⟩ hin (by decide +kernel) rfl rfl (by rw [hfs]; decide) ?_
  exact k q
set_option maxRecDepth 20000 in
set_option maxHeartbeats 4000000 in
theorem mc_1029 {p : Program} {l : Launch} {e : Env} {R : Room} {s : State} {m : MethodId} {args : Array Value} {below : List Frame} {meth : Method} {c : Code} {Qf : State → Prop} {cA : Nat → ClassId} {D : va_G} {A : Nat → Prop} {cells slots : Nat} (X : Cy p s m args c "BreathTownModel" prog_14_method_1_code 1 cA D A) (hin : meth.name = "<init>") {h0 : Nat} {fs : List Value} {rest : va_W} (hfs : fs.length = 100) (hce : cells + 1 ≤ R.cells) (hsl : slots + 4 ≤ R.slots) (k : ∀ q : Nat, Yw p l e R s m args below meth c Qf 1 D A (cells + 1) (slots + 4) 1056 [(0, .ref h0)] [] (mW h0 (fs.set 82 (.ref q)) (rest ++ [(q, .inl (cA 23, 4, .inl (upd (upd (upd (upd (fun _ => 0) 0 (nI 104)) 1 (nI 111)) 2 (nI 117)) 3 (nI 114))))]))) : Yw p l e R s m args below meth c Qf 1 D A cells slots 1029 [(0, .ref h0)] [] (mW h0 fs rest) := by
  refine y_aload_n X (pc := 1029) 0 (cks_at k_M_init 704 rfl rfl) rfl ?_
  refine y_iconst X (pc := 1030) (cks_at k_M_init 705 rfl rfl) ?_
  refine y_newa X (pc := 1031) 3 23 (n := 4) (a0 := (4, .inl (fun _ => 0))) (cks_at k_M_init 706 rfl rfl) (in_7 (List.mem_of_getElem? (i := 169) rfl)) rfl rfl (by decide) (fun _ => rfl) (by decide) hce hsl (fun q => ?_)
  refine y_eq (ws' := (h0, .inr (12, fs)) :: (rest ++ [(q, .inl (cA 23, 4, .inl (fun _ => 0)))])) rfl ?_
  refine y_dup X (pc := 1033) (cks_at k_M_init 707 rfl rfl) rfl ?_
  refine y_iconst X (pc := 1034) (cks_at k_M_init 708 rfl rfl) ?_
  refine y_bipush X (pc := 1035) (cks_at k_M_init 709 rfl rfl) (by decide) (by decide) ?_
  refine y_castL X (pc := 1037) 0 104 (cks_at k_M_init 710 rfl rfl) (by decide) (by decide) ?_
  refine y_dup X (pc := 1038) (cks_at k_M_init 711 rfl rfl) rfl ?_
  refine y_iconst X (pc := 1039) (cks_at k_M_init 712 rfl rfl) ?_
  refine y_bipush X (pc := 1040) (cks_at k_M_init 713 rfl rfl) (by decide) (by decide) ?_
  refine y_castL X (pc := 1042) 1 111 (cks_at k_M_init 714 rfl rfl) (by decide) (by decide) ?_
  refine y_dup X (pc := 1043) (cks_at k_M_init 715 rfl rfl) rfl ?_
  refine y_iconst X (pc := 1044) (cks_at k_M_init 716 rfl rfl) ?_
  refine y_bipush X (pc := 1045) (cks_at k_M_init 717 rfl rfl) (by decide) (by decide) ?_
  refine y_castL X (pc := 1047) 2 117 (cks_at k_M_init 718 rfl rfl) (by decide) (by decide) ?_
  refine y_dup X (pc := 1048) (cks_at k_M_init 719 rfl rfl) rfl ?_
  refine y_iconst X (pc := 1049) (cks_at k_M_init 720 rfl rfl) ?_
  refine y_bipush X (pc := 1050) (cks_at k_M_init 721 rfl rfl) (by decide) (by decide) ?_
  refine y_castL X (pc := 1052) 3 114 (cks_at k_M_init 722 rfl rfl) (by decide) (by decide) ?_
  refine y_putF X (pc := 1053) (ci := 12) (k0 := 82) (ty := .array .char) 0 (cks_at k_M_init 723 rfl rfl) rfl rfl (by decide) (in_6 (List.mem_of_getElem? (i := 190) rfl)) ⟨rfl, rfl, rfl⟩ hin (by decide +kernel) rfl rfl (by rw [hfs]; decide) ?_
  exact k q
set_option maxRecDepth 20000 in
set_option maxHeartbeats 4000000 in
theorem mc_1056 {p : Program} {l : Launch} {e : Env} {R : Room} {s : State} {m : MethodId} {args : Array Value} {below : List Frame} {meth : Method} {c : Code} {Qf : State → Prop} {cA : Nat → ClassId} {D : va_G} {A : Nat → Prop} {cells slots : Nat} (X : Cy p s m args c "BreathTownModel" prog_14_method_1_code 1 cA D A) (hin : meth.name = "<init>") {h0 : Nat} {fs : List Value} {rest : va_W} (hfs : fs.length = 100) (hce : cells + 1 ≤ R.cells) (hsl : slots + 5 ≤ R.slots) (k : ∀ q : Nat, Yw p l e R s m args below meth c Qf 1 D A (cells + 1) (slots + 5) 1088 [(0, .ref h0)] [] (mW h0 (fs.set 83 (.ref q)) (rest ++ [(q, .inl (cA 23, 5, .inl (upd (upd (upd (upd (upd (fun _ => 0) 0 (nI 99)) 1 (nI 108)) 2 (nI 111)) 3 (nI 99)) 4 (nI 107))))]))) : Yw p l e R s m args below meth c Qf 1 D A cells slots 1056 [(0, .ref h0)] [] (mW h0 fs rest) := by
  refine y_aload_n X (pc := 1056) 0 (cks_at k_M_init 724 rfl rfl) rfl ?_
  refine y_iconst X (pc := 1057) (cks_at k_M_init 725 rfl rfl) ?_
  refine y_newa X (pc := 1058) 3 23 (n := 5) (a0 := (5, .inl (fun _ => 0))) (cks_at k_M_init 726 rfl rfl) (in_7 (List.mem_of_getElem? (i := 169) rfl)) rfl rfl (by decide) (fun _ => rfl) (by decide) hce hsl (fun q => ?_)
  refine y_eq (ws' := (h0, .inr (12, fs)) :: (rest ++ [(q, .inl (cA 23, 5, .inl (fun _ => 0)))])) rfl ?_
  refine y_dup X (pc := 1060) (cks_at k_M_init 727 rfl rfl) rfl ?_
  refine y_iconst X (pc := 1061) (cks_at k_M_init 728 rfl rfl) ?_
  refine y_bipush X (pc := 1062) (cks_at k_M_init 729 rfl rfl) (by decide) (by decide) ?_
  refine y_castL X (pc := 1064) 0 99 (cks_at k_M_init 730 rfl rfl) (by decide) (by decide) ?_
  refine y_dup X (pc := 1065) (cks_at k_M_init 731 rfl rfl) rfl ?_
  refine y_iconst X (pc := 1066) (cks_at k_M_init 732 rfl rfl) ?_
  refine y_bipush X (pc := 1067) (cks_at k_M_init 733 rfl rfl) (by decide) (by decide) ?_
  refine y_castL X (pc := 1069) 1 108 (cks_at k_M_init 734 rfl rfl) (by decide) (by decide) ?_
  refine y_dup X (pc := 1070) (cks_at k_M_init 735 rfl rfl) rfl ?_
  refine y_iconst X (pc := 1071) (cks_at k_M_init 736 rfl rfl) ?_
  refine y_bipush X (pc := 1072) (cks_at k_M_init 737 rfl rfl) (by decide) (by decide) ?_
  refine y_castL X (pc := 1074) 2 111 (cks_at k_M_init 738 rfl rfl) (by decide) (by decide) ?_
  refine y_dup X (pc := 1075) (cks_at k_M_init 739 rfl rfl) rfl ?_
  refine y_iconst X (pc := 1076) (cks_at k_M_init 740 rfl rfl) ?_
  refine y_bipush X (pc := 1077) (cks_at k_M_init 741 rfl rfl) (by decide) (by decide) ?_
  refine y_castL X (pc := 1079) 3 99 (cks_at k_M_init 742 rfl rfl) (by decide) (by decide) ?_
  refine y_dup X (pc := 1080) (cks_at k_M_init 743 rfl rfl) rfl ?_
  refine y_iconst X (pc := 1081) (cks_at k_M_init 744 rfl rfl) ?_
  refine y_bipush X (pc := 1082) (cks_at k_M_init 745 rfl rfl) (by decide) (by decide) ?_
  refine y_castL X (pc := 1084) 4 107 (cks_at k_M_init 746 rfl rfl) (by decide) (by decide) ?_
  refine y_putF X (pc := 1085) (ci := 12) (k0 := 83) (ty := .array .char) 0 (cks_at k_M_init 747 rfl rfl) rfl rfl (by decide) (in_6 (List.mem_of_getElem? (i := 191) rfl)) ⟨rfl, rfl, rfl⟩ hin (by decide +kernel) rfl rfl (by rw [hfs]; decide) ?_
  exact k q
set_option maxRecDepth 20000 in
set_option maxHeartbeats 4000000 in
theorem mc_1088 {p : Program} {l : Launch} {e : Env} {R : Room} {s : State} {m : MethodId} {args : Array Value} {below : List Frame} {meth : Method} {c : Code} {Qf : State → Prop} {cA : Nat → ClassId} {D : va_G} {A : Nat → Prop} {cells slots : Nat} (X : Cy p s m args c "BreathTownModel" prog_14_method_1_code 1 cA D A) (hin : meth.name = "<init>") {h0 : Nat} {fs : List Value} {rest : va_W} (hfs : fs.length = 100) (hce : cells + 1 ≤ R.cells) (hsl : slots + 3 ≤ R.slots) (k : ∀ q : Nat, Yw p l e R s m args below meth c Qf 1 D A (cells + 1) (slots + 3) 1110 [(0, .ref h0)] [] (mW h0 (fs.set 84 (.ref q)) (rest ++ [(q, .inl (cA 23, 3, .inl (upd (upd (upd (fun _ => 0) 0 (nI 100)) 1 (nI 97)) 2 (nI 121))))]))) : Yw p l e R s m args below meth c Qf 1 D A cells slots 1088 [(0, .ref h0)] [] (mW h0 fs rest) := by
  refine y_aload_n X (pc := 1088) 0 (cks_at k_M_init 748 rfl rfl) rfl ?_
  refine y_iconst X (pc := 1089) (cks_at k_M_init 749 rfl rfl) ?_
  refine y_newa X (pc := 1090) 3 23 (n := 3) (a0 := (3, .inl (fun _ => 0))) (cks_at k_M_init 750 rfl rfl) (in_7 (List.mem_of_getElem? (i := 169) rfl)) rfl rfl (by decide) (fun _ => rfl) (by decide) hce hsl (fun q => ?_)
  refine y_eq (ws' := (h0, .inr (12, fs)) :: (rest ++ [(q, .inl (cA 23, 3, .inl (fun _ => 0)))])) rfl ?_
  refine y_dup X (pc := 1092) (cks_at k_M_init 751 rfl rfl) rfl ?_
  refine y_iconst X (pc := 1093) (cks_at k_M_init 752 rfl rfl) ?_
  refine y_bipush X (pc := 1094) (cks_at k_M_init 753 rfl rfl) (by decide) (by decide) ?_
  refine y_castL X (pc := 1096) 0 100 (cks_at k_M_init 754 rfl rfl) (by decide) (by decide) ?_
  refine y_dup X (pc := 1097) (cks_at k_M_init 755 rfl rfl) rfl ?_
  refine y_iconst X (pc := 1098) (cks_at k_M_init 756 rfl rfl) ?_
  refine y_bipush X (pc := 1099) (cks_at k_M_init 757 rfl rfl) (by decide) (by decide) ?_
  refine y_castL X (pc := 1101) 1 97 (cks_at k_M_init 758 rfl rfl) (by decide) (by decide) ?_
  refine y_dup X (pc := 1102) (cks_at k_M_init 759 rfl rfl) rfl ?_
  refine y_iconst X (pc := 1103) (cks_at k_M_init 760 rfl rfl) ?_
  refine y_bipush X (pc := 1104) (cks_at k_M_init 761 rfl rfl) (by decide) (by decide) ?_
  refine y_castL X (pc := 1106) 2 121 (cks_at k_M_init 762 rfl rfl) (by decide) (by decide) ?_
  refine y_putF X (pc := 1107) (ci := 12) (k0 := 84) (ty := .array .char) 0 (cks_at k_M_init 763 rfl rfl) rfl rfl (by decide) (in_6 (List.mem_of_getElem? (i := 192) rfl)) ⟨rfl, rfl, rfl⟩ hin (by decide +kernel) rfl rfl (by rw [hfs]; decide) ?_
  exact k q
set_option maxRecDepth 20000 in
set_option maxHeartbeats 4000000 in
theorem mc_1110 {p : Program} {l : Launch} {e : Env} {R : Room} {s : State} {m : MethodId} {args : Array Value} {below : List Frame} {meth : Method} {c : Code} {Qf : State → Prop} {cA : Nat → ClassId} {D : va_G} {A : Nat → Prop} {cells slots : Nat} (X : Cy p s m args c "BreathTownModel" prog_14_method_1_code 1 cA D A) (hin : meth.name = "<init>") {h0 : Nat} {fs : List Value} {rest : va_W} (hfs : fs.length = 100) (hce : cells + 1 ≤ R.cells) (hsl : slots + 5 ≤ R.slots) (k : ∀ q : Nat, Yw p l e R s m args below meth c Qf 1 D A (cells + 1) (slots + 5) 1142 [(0, .ref h0)] [] (mW h0 (fs.set 85 (.ref q)) (rest ++ [(q, .inl (cA 23, 5, .inl (upd (upd (upd (upd (upd (fun _ => 0) 0 (nI 119)) 1 (nI 105)) 2 (nI 100)) 3 (nI 116)) 4 (nI 104))))]))) : Yw p l e R s m args below meth c Qf 1 D A cells slots 1110 [(0, .ref h0)] [] (mW h0 fs rest) := by
  refine y_aload_n X (pc := 1110) 0 (cks_at k_M_init 764 rfl rfl) rfl ?_
  refine y_iconst X (pc := 1111) (cks_at k_M_init 765 rfl rfl) ?_
  refine y_newa X (pc := 1112) 3 23 (n := 5) (a0 := (5, .inl (fun _ => 0))) (cks_at k_M_init 766 rfl rfl) (in_7 (List.mem_of_getElem? (i := 169) rfl)) rfl rfl (by decide) (fun _ => rfl) (by decide) hce hsl (fun q => ?_)
  refine y_eq (ws' := (h0, .inr (12, fs)) :: (rest ++ [(q, .inl (cA 23, 5, .inl (fun _ => 0)))])) rfl ?_
  refine y_dup X (pc := 1114) (cks_at k_M_init 767 rfl rfl) rfl ?_
  refine y_iconst X (pc := 1115) (cks_at k_M_init 768 rfl rfl) ?_
  refine y_bipush X (pc := 1116) (cks_at k_M_init 769 rfl rfl) (by decide) (by decide) ?_
  refine y_castL X (pc := 1118) 0 119 (cks_at k_M_init 770 rfl rfl) (by decide) (by decide) ?_
  refine y_dup X (pc := 1119) (cks_at k_M_init 771 rfl rfl) rfl ?_
  refine y_iconst X (pc := 1120) (cks_at k_M_init 772 rfl rfl) ?_
  refine y_bipush X (pc := 1121) (cks_at k_M_init 773 rfl rfl) (by decide) (by decide) ?_
  refine y_castL X (pc := 1123) 1 105 (cks_at k_M_init 774 rfl rfl) (by decide) (by decide) ?_
  refine y_dup X (pc := 1124) (cks_at k_M_init 775 rfl rfl) rfl ?_
  refine y_iconst X (pc := 1125) (cks_at k_M_init 776 rfl rfl) ?_
  refine y_bipush X (pc := 1126) (cks_at k_M_init 777 rfl rfl) (by decide) (by decide) ?_
  refine y_castL X (pc := 1128) 2 100 (cks_at k_M_init 778 rfl rfl) (by decide) (by decide) ?_
  refine y_dup X (pc := 1129) (cks_at k_M_init 779 rfl rfl) rfl ?_
  refine y_iconst X (pc := 1130) (cks_at k_M_init 780 rfl rfl) ?_
  refine y_bipush X (pc := 1131) (cks_at k_M_init 781 rfl rfl) (by decide) (by decide) ?_
  refine y_castL X (pc := 1133) 3 116 (cks_at k_M_init 782 rfl rfl) (by decide) (by decide) ?_
  refine y_dup X (pc := 1134) (cks_at k_M_init 783 rfl rfl) rfl ?_
  refine y_iconst X (pc := 1135) (cks_at k_M_init 784 rfl rfl) ?_
  refine y_bipush X (pc := 1136) (cks_at k_M_init 785 rfl rfl) (by decide) (by decide) ?_
  refine y_castL X (pc := 1138) 4 104 (cks_at k_M_init 786 rfl rfl) (by decide) (by decide) ?_
  refine y_putF X (pc := 1139) (ci := 12) (k0 := 85) (ty := .array .char) 0 (cks_at k_M_init 787 rfl rfl) rfl rfl (by decide) (in_6 (List.mem_of_getElem? (i := 193) rfl)) ⟨rfl, rfl, rfl⟩ hin (by decide +kernel) rfl rfl (by rw [hfs]; decide) ?_
  exact k q
set_option maxRecDepth 20000 in
set_option maxHeartbeats 4000000 in
theorem mc_1142 {p : Program} {l : Launch} {e : Env} {R : Room} {s : State} {m : MethodId} {args : Array Value} {below : List Frame} {meth : Method} {c : Code} {Qf : State → Prop} {cA : Nat → ClassId} {D : va_G} {A : Nat → Prop} {cells slots : Nat} (X : Cy p s m args c "BreathTownModel" prog_14_method_1_code 1 cA D A) (hin : meth.name = "<init>") {h0 : Nat} {fs : List Value} {rest : va_W} (hfs : fs.length = 100) (hce : cells + 1 ≤ R.cells) (hsl : slots + 4 ≤ R.slots) (k : ∀ q : Nat, Yw p l e R s m args below meth c Qf 1 D A (cells + 1) (slots + 4) 1169 [(0, .ref h0)] [] (mW h0 (fs.set 86 (.ref q)) (rest ++ [(q, .inl (cA 23, 4, .inl (upd (upd (upd (upd (fun _ => 0) 0 (nI 116)) 1 (nI 105)) 2 (nI 100)) 3 (nI 101))))]))) : Yw p l e R s m args below meth c Qf 1 D A cells slots 1142 [(0, .ref h0)] [] (mW h0 fs rest) := by
  refine y_aload_n X (pc := 1142) 0 (cks_at k_M_init 788 rfl rfl) rfl ?_
  refine y_iconst X (pc := 1143) (cks_at k_M_init 789 rfl rfl) ?_
  refine y_newa X (pc := 1144) 3 23 (n := 4) (a0 := (4, .inl (fun _ => 0))) (cks_at k_M_init 790 rfl rfl) (in_7 (List.mem_of_getElem? (i := 169) rfl)) rfl rfl (by decide) (fun _ => rfl) (by decide) hce hsl (fun q => ?_)
  refine y_eq (ws' := (h0, .inr (12, fs)) :: (rest ++ [(q, .inl (cA 23, 4, .inl (fun _ => 0)))])) rfl ?_
  refine y_dup X (pc := 1146) (cks_at k_M_init 791 rfl rfl) rfl ?_
  refine y_iconst X (pc := 1147) (cks_at k_M_init 792 rfl rfl) ?_
  refine y_bipush X (pc := 1148) (cks_at k_M_init 793 rfl rfl) (by decide) (by decide) ?_
  refine y_castL X (pc := 1150) 0 116 (cks_at k_M_init 794 rfl rfl) (by decide) (by decide) ?_
  refine y_dup X (pc := 1151) (cks_at k_M_init 795 rfl rfl) rfl ?_
  refine y_iconst X (pc := 1152) (cks_at k_M_init 796 rfl rfl) ?_
  refine y_bipush X (pc := 1153) (cks_at k_M_init 797 rfl rfl) (by decide) (by decide) ?_
  refine y_castL X (pc := 1155) 1 105 (cks_at k_M_init 798 rfl rfl) (by decide) (by decide) ?_
  refine y_dup X (pc := 1156) (cks_at k_M_init 799 rfl rfl) rfl ?_
  refine y_iconst X (pc := 1157) (cks_at k_M_init 800 rfl rfl) ?_
  refine y_bipush X (pc := 1158) (cks_at k_M_init 801 rfl rfl) (by decide) (by decide) ?_
  refine y_castL X (pc := 1160) 2 100 (cks_at k_M_init 802 rfl rfl) (by decide) (by decide) ?_
  refine y_dup X (pc := 1161) (cks_at k_M_init 803 rfl rfl) rfl ?_
  refine y_iconst X (pc := 1162) (cks_at k_M_init 804 rfl rfl) ?_
  refine y_bipush X (pc := 1163) (cks_at k_M_init 805 rfl rfl) (by decide) (by decide) ?_
  refine y_castL X (pc := 1165) 3 101 (cks_at k_M_init 806 rfl rfl) (by decide) (by decide) ?_
  refine y_putF X (pc := 1166) (ci := 12) (k0 := 86) (ty := .array .char) 0 (cks_at k_M_init 807 rfl rfl) rfl rfl (by decide) (in_6 (List.mem_of_getElem? (i := 194) rfl)) ⟨rfl, rfl, rfl⟩ hin (by decide +kernel) rfl rfl (by rw [hfs]; decide) ?_
  exact k q
set_option maxRecDepth 20000 in
set_option maxHeartbeats 4000000 in
theorem mc_1169 {p : Program} {l : Launch} {e : Env} {R : Room} {s : State} {m : MethodId} {args : Array Value} {below : List Frame} {meth : Method} {c : Code} {Qf : State → Prop} {cA : Nat → ClassId} {D : va_G} {A : Nat → Prop} {cells slots : Nat} (X : Cy p s m args c "BreathTownModel" prog_14_method_1_code 1 cA D A) (hin : meth.name = "<init>") {h0 : Nat} {fs : List Value} {rest : va_W} (hfs : fs.length = 100) (hce : cells + 1 ≤ R.cells) (hsl : slots + 6 ≤ R.slots) (k : ∀ q : Nat, Yw p l e R s m args below meth c Qf 1 D A (cells + 1) (slots + 6) 1207 [(0, .ref h0)] [] (mW h0 (fs.set 87 (.ref q)) (rest ++ [(q, .inl (cA 23, 6, .inl (upd (upd (upd (upd (upd (upd (fun _ => 0) 0 (nI 112)) 1 (nI 97)) 2 (nI 115)) 3 (nI 115)) 4 (nI 101)) 5 (nI 115))))]))) : Yw p l e R s m args below meth c Qf 1 D A cells slots 1169 [(0, .ref h0)] [] (mW h0 fs rest) := by
  refine y_aload_n X (pc := 1169) 0 (cks_at k_M_init 808 rfl rfl) rfl ?_
  refine y_bipush X (pc := 1170) (cks_at k_M_init 809 rfl rfl) (by decide) (by decide) ?_
  refine y_newa X (pc := 1172) 3 23 (n := 6) (a0 := (6, .inl (fun _ => 0))) (cks_at k_M_init 810 rfl rfl) (in_7 (List.mem_of_getElem? (i := 169) rfl)) rfl rfl (by decide) (fun _ => rfl) (by decide) hce hsl (fun q => ?_)
  refine y_eq (ws' := (h0, .inr (12, fs)) :: (rest ++ [(q, .inl (cA 23, 6, .inl (fun _ => 0)))])) rfl ?_
  refine y_dup X (pc := 1174) (cks_at k_M_init 811 rfl rfl) rfl ?_
  refine y_iconst X (pc := 1175) (cks_at k_M_init 812 rfl rfl) ?_
  refine y_bipush X (pc := 1176) (cks_at k_M_init 813 rfl rfl) (by decide) (by decide) ?_
  refine y_castL X (pc := 1178) 0 112 (cks_at k_M_init 814 rfl rfl) (by decide) (by decide) ?_
  refine y_dup X (pc := 1179) (cks_at k_M_init 815 rfl rfl) rfl ?_
  refine y_iconst X (pc := 1180) (cks_at k_M_init 816 rfl rfl) ?_
  refine y_bipush X (pc := 1181) (cks_at k_M_init 817 rfl rfl) (by decide) (by decide) ?_
  refine y_castL X (pc := 1183) 1 97 (cks_at k_M_init 818 rfl rfl) (by decide) (by decide) ?_
  refine y_dup X (pc := 1184) (cks_at k_M_init 819 rfl rfl) rfl ?_
  refine y_iconst X (pc := 1185) (cks_at k_M_init 820 rfl rfl) ?_
  refine y_bipush X (pc := 1186) (cks_at k_M_init 821 rfl rfl) (by decide) (by decide) ?_
  refine y_castL X (pc := 1188) 2 115 (cks_at k_M_init 822 rfl rfl) (by decide) (by decide) ?_
  refine y_dup X (pc := 1189) (cks_at k_M_init 823 rfl rfl) rfl ?_
  refine y_iconst X (pc := 1190) (cks_at k_M_init 824 rfl rfl) ?_
  refine y_bipush X (pc := 1191) (cks_at k_M_init 825 rfl rfl) (by decide) (by decide) ?_
  refine y_castL X (pc := 1193) 3 115 (cks_at k_M_init 826 rfl rfl) (by decide) (by decide) ?_
  refine y_dup X (pc := 1194) (cks_at k_M_init 827 rfl rfl) rfl ?_
  refine y_iconst X (pc := 1195) (cks_at k_M_init 828 rfl rfl) ?_
  refine y_bipush X (pc := 1196) (cks_at k_M_init 829 rfl rfl) (by decide) (by decide) ?_
  refine y_castL X (pc := 1198) 4 101 (cks_at k_M_init 830 rfl rfl) (by decide) (by decide) ?_
  refine y_dup X (pc := 1199) (cks_at k_M_init 831 rfl rfl) rfl ?_
  refine y_iconst X (pc := 1200) (cks_at k_M_init 832 rfl rfl) ?_
  refine y_bipush X (pc := 1201) (cks_at k_M_init 833 rfl rfl) (by decide) (by decide) ?_
  refine y_castL X (pc := 1203) 5 115 (cks_at k_M_init 834 rfl rfl) (by decide) (by decide) ?_
  refine y_putF X (pc := 1204) (ci := 12) (k0 := 87) (ty := .array .char) 0 (cks_at k_M_init 835 rfl rfl) rfl rfl (by decide) (in_6 (List.mem_of_getElem? (i := 195) rfl)) ⟨rfl, rfl, rfl⟩ hin (by decide +kernel) rfl rfl (by rw [hfs]; decide) ?_
  exact k q
set_option maxRecDepth 20000 in
set_option maxHeartbeats 4000000 in
theorem mc_1207 {p : Program} {l : Launch} {e : Env} {R : Room} {s : State} {m : MethodId} {args : Array Value} {below : List Frame} {meth : Method} {c : Code} {Qf : State → Prop} {cA : Nat → ClassId} {D : va_G} {A : Nat → Prop} {cells slots : Nat} (X : Cy p s m args c "BreathTownModel" prog_14_method_1_code 1 cA D A) (hin : meth.name = "<init>") {h0 : Nat} {fs : List Value} {rest : va_W} (hfs : fs.length = 100) (hce : cells + 1 ≤ R.cells) (hsl : slots + 1700 ≤ R.slots) (k : ∀ q : Nat, Yw p l e R s m args below meth c Qf 1 D A (cells + 1) (slots + 1700) 1216 [(0, .ref h0)] [] (mW h0 (fs.set 88 (.ref q)) (rest ++ [(q, .inl (cA 20, 1700, .inl (fun _ => 0)))]))) : Yw p l e R s m args below meth c Qf 1 D A cells slots 1207 [(0, .ref h0)] [] (mW h0 fs rest) := by
  refine y_aload_n X (pc := 1207) 0 (cks_at k_M_init 836 rfl rfl) rfl ?_
  refine y_sipush X (pc := 1208) (cks_at k_M_init 837 rfl rfl) (by decide) (by decide) ?_
  refine y_newa X (pc := 1211) 0 20 (n := 1700) (a0 := (1700, .inl (fun _ => 0))) (cks_at k_M_init 838 rfl rfl) (in_1 (List.mem_of_getElem? (i := 64) rfl)) rfl rfl (by decide) (fun _ => rfl) (by decide) hce hsl (fun q => ?_)
  refine y_eq (ws' := (h0, .inr (12, fs)) :: (rest ++ [(q, .inl (cA 20, 1700, .inl (fun _ => 0)))])) rfl ?_
  refine y_putF X (pc := 1213) (ci := 12) (k0 := 88) (ty := .array .int) 0 (cks_at k_M_init 839 rfl rfl) rfl rfl (by decide) (in_6 (List.mem_of_getElem? (i := 196) rfl)) ⟨rfl, rfl, rfl⟩ hin (by decide +kernel) rfl rfl (by rw [hfs]; decide) ?_
  exact k q
set_option maxRecDepth 20000 in
set_option maxHeartbeats 4000000 in
theorem mc_1216 {p : Program} {l : Launch} {e : Env} {R : Room} {s : State} {m : MethodId} {args : Array Value} {below : List Frame} {meth : Method} {c : Code} {Qf : State → Prop} {cA : Nat → ClassId} {D : va_G} {A : Nat → Prop} {cells slots : Nat} (X : Cy p s m args c "BreathTownModel" prog_14_method_1_code 1 cA D A) (hin : meth.name = "<init>") {h0 : Nat} {fs : List Value} {rest : va_W} (hfs : fs.length = 100) (hce : cells + 1 ≤ R.cells) (hsl : slots + 1700 ≤ R.slots) (k : ∀ q : Nat, Yw p l e R s m args below meth c Qf 1 D A (cells + 1) (slots + 1700) 1225 [(0, .ref h0)] [] (mW h0 (fs.set 90 (.ref q)) (rest ++ [(q, .inl (cA 20, 1700, .inl (fun _ => 0)))]))) : Yw p l e R s m args below meth c Qf 1 D A cells slots 1216 [(0, .ref h0)] [] (mW h0 fs rest) := by
  refine y_aload_n X (pc := 1216) 0 (cks_at k_M_init 840 rfl rfl) rfl ?_
  refine y_sipush X (pc := 1217) (cks_at k_M_init 841 rfl rfl) (by decide) (by decide) ?_
  refine y_newa X (pc := 1220) 0 20 (n := 1700) (a0 := (1700, .inl (fun _ => 0))) (cks_at k_M_init 842 rfl rfl) (in_1 (List.mem_of_getElem? (i := 64) rfl)) rfl rfl (by decide) (fun _ => rfl) (by decide) hce hsl (fun q => ?_)
  refine y_eq (ws' := (h0, .inr (12, fs)) :: (rest ++ [(q, .inl (cA 20, 1700, .inl (fun _ => 0)))])) rfl ?_
  refine y_putF X (pc := 1222) (ci := 12) (k0 := 90) (ty := .array .int) 0 (cks_at k_M_init 843 rfl rfl) rfl rfl (by decide) (in_6 (List.mem_of_getElem? (i := 198) rfl)) ⟨rfl, rfl, rfl⟩ hin (by decide +kernel) rfl rfl (by rw [hfs]; decide) ?_
  exact k q
set_option maxRecDepth 20000 in
set_option maxHeartbeats 4000000 in
theorem mc_1225 {p : Program} {l : Launch} {e : Env} {R : Room} {s : State} {m : MethodId} {args : Array Value} {below : List Frame} {meth : Method} {c : Code} {Qf : State → Prop} {cA : Nat → ClassId} {D : va_G} {A : Nat → Prop} {cells slots : Nat} (X : Cy p s m args c "BreathTownModel" prog_14_method_1_code 1 cA D A) (hin : meth.name = "<init>") {h0 : Nat} {fs : List Value} {rest : va_W} (hfs : fs.length = 100) (hce : cells + 1 ≤ R.cells) (hsl : slots + 1700 ≤ R.slots) (k : ∀ q : Nat, Yw p l e R s m args below meth c Qf 1 D A (cells + 1) (slots + 1700) 1234 [(0, .ref h0)] [] (mW h0 (fs.set 94 (.ref q)) (rest ++ [(q, .inl (cA 21, 1700, .inr (.inl (fun _ => 0))))]))) : Yw p l e R s m args below meth c Qf 1 D A cells slots 1225 [(0, .ref h0)] [] (mW h0 fs rest) := by
  refine y_aload_n X (pc := 1225) 0 (cks_at k_M_init 844 rfl rfl) rfl ?_
  refine y_sipush X (pc := 1226) (cks_at k_M_init 845 rfl rfl) (by decide) (by decide) ?_
  refine y_newa X (pc := 1229) 1 21 (n := 1700) (a0 := (1700, .inr (.inl (fun _ => 0)))) (cks_at k_M_init 846 rfl rfl) (in_2 (List.mem_of_getElem? (i := 41) rfl)) rfl rfl (by decide) (fun _ => rfl) (by decide) hce hsl (fun q => ?_)
  refine y_eq (ws' := (h0, .inr (12, fs)) :: (rest ++ [(q, .inl (cA 21, 1700, .inr (.inl (fun _ => 0))))])) rfl ?_
  refine y_putF X (pc := 1231) (ci := 12) (k0 := 94) (ty := .array .long) 0 (cks_at k_M_init 847 rfl rfl) rfl rfl (by decide) (in_6 (List.mem_of_getElem? (i := 202) rfl)) ⟨rfl, rfl, rfl⟩ hin (by decide +kernel) rfl rfl (by rw [hfs]; decide) ?_
  exact k q
set_option maxRecDepth 20000 in
set_option maxHeartbeats 4000000 in
theorem mc_1234 {p : Program} {l : Launch} {e : Env} {R : Room} {s : State} {m : MethodId} {args : Array Value} {below : List Frame} {meth : Method} {c : Code} {Qf : State → Prop} {cA : Nat → ClassId} {D : va_G} {A : Nat → Prop} {cells slots : Nat} (X : Cy p s m args c "BreathTownModel" prog_14_method_1_code 1 cA D A) (hin : meth.name = "<init>") {h0 : Nat} {fs : List Value} {rest : va_W} (hfs : fs.length = 100) (hce : cells + 1 ≤ R.cells) (hsl : slots + 39 ≤ R.slots) (k : ∀ q : Nat, Yw p l e R s m args below meth c Qf 1 D A (cells + 1) (slots + 39) 1242 [(0, .ref h0)] [] (mW h0 (fs.set 98 (.ref q)) (rest ++ [(q, .inl (cA 20, 39, .inl (fun _ => 0)))]))) : Yw p l e R s m args below meth c Qf 1 D A cells slots 1234 [(0, .ref h0)] [] (mW h0 fs rest) := by
  refine y_aload_n X (pc := 1234) 0 (cks_at k_M_init 848 rfl rfl) rfl ?_
  refine y_bipush X (pc := 1235) (cks_at k_M_init 849 rfl rfl) (by decide) (by decide) ?_
  refine y_newa X (pc := 1237) 0 20 (n := 39) (a0 := (39, .inl (fun _ => 0))) (cks_at k_M_init 850 rfl rfl) (in_1 (List.mem_of_getElem? (i := 64) rfl)) rfl rfl (by decide) (fun _ => rfl) (by decide) hce hsl (fun q => ?_)
  refine y_eq (ws' := (h0, .inr (12, fs)) :: (rest ++ [(q, .inl (cA 20, 39, .inl (fun _ => 0)))])) rfl ?_
  refine y_putF X (pc := 1239) (ci := 12) (k0 := 98) (ty := .array .int) 0 (cks_at k_M_init 851 rfl rfl) rfl rfl (by decide) (in_6 (List.mem_of_getElem? (i := 206) rfl)) ⟨rfl, rfl, rfl⟩ hin (by decide +kernel) rfl rfl (by rw [hfs]; decide) ?_
  exact k q
