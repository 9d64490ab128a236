def M00 : Mm := fun i => if i = 0 then (fun k => if k = 12 then -1 else if k = 13 then 1 else 0) else if i = 46 then (fun k => if k = 3 then 1 else 0) else if i = 76 then (fun k => if k = 2 then 1 else 0) else if i = 78 then (fun k => if k = 8 then -1 else if k = 65 then 1 else 0) else fun _ => 0
theorem cons_eq {α : Type} {a b : α} {l m : List α} (h : a = b) (t : l = m) : a :: l = b :: m := by rw [h, t]
theorem wc_int {ad : Nat → Nat} {cA : Nat → ClassId} {i n : Nat} (h1 : skind i = 20) (h2 : slen i = n) (h3 : M00 i = fun _ => 0) : cont ad cA (M00 i) i = .inl (cA 20, n, .inl (fun _ => 0)) := by
  rw [cont_a (by rw [h1]; decide) (by rw [h1]; decide), h1, h2, arI, if_neg (by rw [h1]; decide), h3]
  rfl
theorem wc_bool {ad : Nat → Nat} {cA : Nat → ClassId} {i n : Nat} (h1 : skind i = 22) (h2 : slen i = n) (h3 : M00 i = fun _ => 0) : cont ad cA (M00 i) i = .inl (cA 22, n, .inl (fun _ => 0)) := by
  rw [cont_a (by rw [h1]; decide) (by rw [h1]; decide), h1, h2, arI, if_neg (by rw [h1]; decide), h3]
  rfl
theorem wc_long {ad : Nat → Nat} {cA : Nat → ClassId} {i n : Nat} (h1 : skind i = 21) (h2 : slen i = n) (h3 : M00 i = fun _ => 0) : cont ad cA (M00 i) i = .inl (cA 21, n, .inr (.inl (fun _ => 0))) := by
  rw [cont_l h1, h2, h3]
  rfl
theorem wc_char {ad : Nat → Nat} {cA : Nat → ClassId} {i n : Nat} {f : Nat → Int32} (h1 : skind i = 23) (h2 : slen i = n) (h3 : (fun j => Int32.ofNat (ptr i j)) = f) : cont ad cA (M00 i) i = .inl (cA 23, n, .inl f) := by
  rw [cont_a (by rw [h1]; decide) (by rw [h1]; decide), h1, h2, arI, if_pos h1, h3]
def flg (f : Nat → Nat → Value) : Nat → List Nat → List Value
  | _, [] => []
  | k, t :: ts => f k t :: flg f (k + 1) ts
theorem flg_mapIdx (f : Nat → Nat → Value) : ∀ (l : List Nat) (k : Nat), l.mapIdx (fun i t => f (k + i) t) = flg f k l
  | [], _ => rfl
  | t :: ts, k => by
    rw [List.mapIdx_cons, flg, ← flg_mapIdx f ts (k + 1)]
    congr 1
    congr 1
    funext i t
    rw [show k + (i + 1) = k + 1 + i by omega]
theorem fl_flg (ad : Nat → Nat) (r : Nat → Int) (i : Nat) : fl ad r i = flg (fun k t => fval ad r i k t) 0 (fts (skind i)) := by
  rw [← flg_mapIdx]
  unfold fl
  congr 1
  funext k t
  rw [Nat.zero_add]
theorem wc_0 (ad : Nat → Nat) (cA : Nat → ClassId) : cont ad cA (M00 0) 0 = .inr (11, [.ref (ad 1), .ref (ad 3), .ref (ad 20), .ref (ad 37), .ref (ad 39), .ref (ad 46), .ref (ad 48), .ref (ad 55), .ref (ad 64), .ref (ad 70), .ref (ad 77), vI 0, vI (-1), vJ 1]) := rfl
theorem wc_1 (ad : Nat → Nat) (cA : Nat → ClassId) : cont ad cA (M00 1) 1 = .inr (5, [.ref (ad 2), vI 0, vI 0, vI 0, vI 0, vI 0, vI 0]) := rfl
theorem wc_2 (ad : Nat → Nat) (cA : Nat → ClassId) : cont ad cA (M00 2) 2 = .inl (cA 20, 1600, .inl (fun _ => 0)) := wc_int rfl rfl rfl
theorem wc_3 (ad : Nat → Nat) (cA : Nat → ClassId) : cont ad cA (M00 3) 3 = .inr (7, [.ref (ad 4), .ref (ad 5), .ref (ad 6), .ref (ad 7), .ref (ad 8), .ref (ad 9), .ref (ad 10), .ref (ad 11), .ref (ad 12), .ref (ad 13), .ref (ad 14), .ref (ad 15), .ref (ad 16), vI 0]) := rfl
theorem wc_4 (ad : Nat → Nat) (cA : Nat → ClassId) : cont ad cA (M00 4) 4 = .inl (cA 20, 3, .inl (fun _ => 0)) := wc_int rfl rfl rfl
theorem wc_5 (ad : Nat → Nat) (cA : Nat → ClassId) : cont ad cA (M00 5) 5 = .inl (cA 20, 36, .inl (fun _ => 0)) := wc_int rfl rfl rfl
theorem wc_6 (ad : Nat → Nat) (cA : Nat → ClassId) : cont ad cA (M00 6) 6 = .inl (cA 20, 12, .inl (fun _ => 0)) := wc_int rfl rfl rfl
theorem wc_7 (ad : Nat → Nat) (cA : Nat → ClassId) : cont ad cA (M00 7) 7 = .inl (cA 20, 12, .inl (fun _ => 0)) := wc_int rfl rfl rfl
theorem wc_8 (ad : Nat → Nat) (cA : Nat → ClassId) : cont ad cA (M00 8) 8 = .inl (cA 20, 12, .inl (fun _ => 0)) := wc_int rfl rfl rfl
theorem wc_9 (ad : Nat → Nat) (cA : Nat → ClassId) : cont ad cA (M00 9) 9 = .inl (cA 20, 12, .inl (fun _ => 0)) := wc_int rfl rfl rfl
theorem wc_10 (ad : Nat → Nat) (cA : Nat → ClassId) : cont ad cA (M00 10) 10 = .inl (cA 20, 12, .inl (fun _ => 0)) := wc_int rfl rfl rfl
theorem wc_11 (ad : Nat → Nat) (cA : Nat → ClassId) : cont ad cA (M00 11) 11 = .inl (cA 20, 12, .inl (fun _ => 0)) := wc_int rfl rfl rfl
theorem wc_12 (ad : Nat → Nat) (cA : Nat → ClassId) : cont ad cA (M00 12) 12 = .inl (cA 20, 12, .inl (fun _ => 0)) := wc_int rfl rfl rfl
theorem wc_13 (ad : Nat → Nat) (cA : Nat → ClassId) : cont ad cA (M00 13) 13 = .inl (cA 20, 6, .inl (fun _ => 0)) := wc_int rfl rfl rfl
theorem wc_14 (ad : Nat → Nat) (cA : Nat → ClassId) : cont ad cA (M00 14) 14 = .inl (cA 20, 6, .inl (fun _ => 0)) := wc_int rfl rfl rfl
theorem wc_15 (ad : Nat → Nat) (cA : Nat → ClassId) : cont ad cA (M00 15) 15 = .inl (cA 20, 6, .inl (fun _ => 0)) := wc_int rfl rfl rfl
theorem wc_16 (ad : Nat → Nat) (cA : Nat → ClassId) : cont ad cA (M00 16) 16 = .inr (0, [.ref (ad 17), .ref (ad 18), .ref (ad 19), vI 0, vI 0]) := rfl
theorem wc_17 (ad : Nat → Nat) (cA : Nat → ClassId) : cont ad cA (M00 17) 17 = .inl (cA 20, 1600, .inl (fun _ => 0)) := wc_int rfl rfl rfl
theorem wc_18 (ad : Nat → Nat) (cA : Nat → ClassId) : cont ad cA (M00 18) 18 = .inl (cA 20, 64, .inl (fun _ => 0)) := wc_int rfl rfl rfl
theorem wc_19 (ad : Nat → Nat) (cA : Nat → ClassId) : cont ad cA (M00 19) 19 = .inl (cA 20, 36, .inl (fun _ => 0)) := wc_int rfl rfl rfl
theorem wc_20 (ad : Nat → Nat) (cA : Nat → ClassId) : cont ad cA (M00 20) 20 = .inr (7, [.ref (ad 21), .ref (ad 22), .ref (ad 23), .ref (ad 24), .ref (ad 25), .ref (ad 26), .ref (ad 27), .ref (ad 28), .ref (ad 29), .ref (ad 30), .ref (ad 31), .ref (ad 32), .ref (ad 33), vI 0]) := rfl
theorem wc_21 (ad : Nat → Nat) (cA : Nat → ClassId) : cont ad cA (M00 21) 21 = .inl (cA 20, 3, .inl (fun _ => 0)) := wc_int rfl rfl rfl
theorem wc_22 (ad : Nat → Nat) (cA : Nat → ClassId) : cont ad cA (M00 22) 22 = .inl (cA 20, 36, .inl (fun _ => 0)) := wc_int rfl rfl rfl
theorem wc_23 (ad : Nat → Nat) (cA : Nat → ClassId) : cont ad cA (M00 23) 23 = .inl (cA 20, 12, .inl (fun _ => 0)) := wc_int rfl rfl rfl
theorem wc_24 (ad : Nat → Nat) (cA : Nat → ClassId) : cont ad cA (M00 24) 24 = .inl (cA 20, 12, .inl (fun _ => 0)) := wc_int rfl rfl rfl
theorem wc_25 (ad : Nat → Nat) (cA : Nat → ClassId) : cont ad cA (M00 25) 25 = .inl (cA 20, 12, .inl (fun _ => 0)) := wc_int rfl rfl rfl
theorem wc_26 (ad : Nat → Nat) (cA : Nat → ClassId) : cont ad cA (M00 26) 26 = .inl (cA 20, 12, .inl (fun _ => 0)) := wc_int rfl rfl rfl
theorem wc_27 (ad : Nat → Nat) (cA : Nat → ClassId) : cont ad cA (M00 27) 27 = .inl (cA 20, 12, .inl (fun _ => 0)) := wc_int rfl rfl rfl
theorem wc_28 (ad : Nat → Nat) (cA : Nat → ClassId) : cont ad cA (M00 28) 28 = .inl (cA 20, 12, .inl (fun _ => 0)) := wc_int rfl rfl rfl
theorem wc_29 (ad : Nat → Nat) (cA : Nat → ClassId) : cont ad cA (M00 29) 29 = .inl (cA 20, 12, .inl (fun _ => 0)) := wc_int rfl rfl rfl
theorem wc_30 (ad : Nat → Nat) (cA : Nat → ClassId) : cont ad cA (M00 30) 30 = .inl (cA 20, 6, .inl (fun _ => 0)) := wc_int rfl rfl rfl
theorem wc_31 (ad : Nat → Nat) (cA : Nat → ClassId) : cont ad cA (M00 31) 31 = .inl (cA 20, 6, .inl (fun _ => 0)) := wc_int rfl rfl rfl
theorem wc_32 (ad : Nat → Nat) (cA : Nat → ClassId) : cont ad cA (M00 32) 32 = .inl (cA 20, 6, .inl (fun _ => 0)) := wc_int rfl rfl rfl
theorem wc_33 (ad : Nat → Nat) (cA : Nat → ClassId) : cont ad cA (M00 33) 33 = .inr (0, [.ref (ad 34), .ref (ad 35), .ref (ad 36), vI 0, vI 0]) := rfl
theorem wc_34 (ad : Nat → Nat) (cA : Nat → ClassId) : cont ad cA (M00 34) 34 = .inl (cA 20, 1600, .inl (fun _ => 0)) := wc_int rfl rfl rfl
theorem wc_35 (ad : Nat → Nat) (cA : Nat → ClassId) : cont ad cA (M00 35) 35 = .inl (cA 20, 64, .inl (fun _ => 0)) := wc_int rfl rfl rfl
theorem wc_36 (ad : Nat → Nat) (cA : Nat → ClassId) : cont ad cA (M00 36) 36 = .inl (cA 20, 36, .inl (fun _ => 0)) := wc_int rfl rfl rfl
theorem wc_37 (ad : Nat → Nat) (cA : Nat → ClassId) : cont ad cA (M00 37) 37 = .inr (8, [.ref (ad 1), .ref (ad 20), .ref (ad 38)]) := rfl
theorem wc_38 (ad : Nat → Nat) (cA : Nat → ClassId) : cont ad cA (M00 38) 38 = .inr (4, [.ref (ad 1), .ref (ad 33), vI 0]) := rfl
theorem wc_39 (ad : Nat → Nat) (cA : Nat → ClassId) : cont ad cA (M00 39) 39 = .inr (2, [.ref (ad 3), .ref (ad 40), .ref (ad 41), .ref (ad 42), .ref (ad 43), .ref (ad 44), .ref (ad 45), vI 0, vI 0, vI 0]) := rfl
theorem wc_40 (ad : Nat → Nat) (cA : Nat → ClassId) : cont ad cA (M00 40) 40 = .inl (cA 20, 12, .inl (fun _ => 0)) := wc_int rfl rfl rfl
theorem wc_41 (ad : Nat → Nat) (cA : Nat → ClassId) : cont ad cA (M00 41) 41 = .inl (cA 20, 6, .inl (fun _ => 0)) := wc_int rfl rfl rfl
theorem wc_42 (ad : Nat → Nat) (cA : Nat → ClassId) : cont ad cA (M00 42) 42 = .inl (cA 20, 6, .inl (fun _ => 0)) := wc_int rfl rfl rfl
theorem wc_43 (ad : Nat → Nat) (cA : Nat → ClassId) : cont ad cA (M00 43) 43 = .inl (cA 20, 6, .inl (fun _ => 0)) := wc_int rfl rfl rfl
theorem wc_44 (ad : Nat → Nat) (cA : Nat → ClassId) : cont ad cA (M00 44) 44 = .inl (cA 20, 620, .inl (fun _ => 0)) := wc_int rfl rfl rfl
theorem wc_45 (ad : Nat → Nat) (cA : Nat → ClassId) : cont ad cA (M00 45) 45 = .inl (cA 20, 39, .inl (fun _ => 0)) := wc_int rfl rfl rfl
theorem wc_46 (ad : Nat → Nat) (cA : Nat → ClassId) : cont ad cA (M00 46) 46 = .inr (10, [.ref (ad 3), .ref (ad 39), .ref (ad 47), vJ 1]) := rfl
theorem wc_47 (ad : Nat → Nat) (cA : Nat → ClassId) : cont ad cA (M00 47) 47 = .inl (cA 21, 6144, .inr (.inl (fun _ => 0))) := wc_long rfl rfl rfl
theorem wc_48 (ad : Nat → Nat) (cA : Nat → ClassId) : cont ad cA (M00 48) 48 = .inr (9, [.ref (ad 3), .ref (ad 39), .ref (ad 46), .ref (ad 49), .ref (ad 50), .ref (ad 51), vI 0, .ref (ad 52), .ref (ad 53), .ref (ad 54), vI 0]) := rfl
theorem wc_49 (ad : Nat → Nat) (cA : Nat → ClassId) : cont ad cA (M00 49) 49 = .inl (cA 20, 9, .inl (fun _ => 0)) := wc_int rfl rfl rfl
theorem wc_50 (ad : Nat → Nat) (cA : Nat → ClassId) : cont ad cA (M00 50) 50 = .inl (cA 20, 9, .inl (fun _ => 0)) := wc_int rfl rfl rfl
theorem wc_51 (ad : Nat → Nat) (cA : Nat → ClassId) : cont ad cA (M00 51) 51 = .inl (cA 20, 9, .inl (fun _ => 0)) := wc_int rfl rfl rfl
theorem wc_52 (ad : Nat → Nat) (cA : Nat → ClassId) : cont ad cA (M00 52) 52 = .inl (cA 20, 36, .inl (fun _ => 0)) := wc_int rfl rfl rfl
theorem wc_53 (ad : Nat → Nat) (cA : Nat → ClassId) : cont ad cA (M00 53) 53 = .inl (cA 20, 36, .inl (fun _ => 0)) := wc_int rfl rfl rfl
theorem wc_54 (ad : Nat → Nat) (cA : Nat → ClassId) : cont ad cA (M00 54) 54 = .inl (cA 20, 36, .inl (fun _ => 0)) := wc_int rfl rfl rfl
theorem wc_55 (ad : Nat → Nat) (cA : Nat → ClassId) : cont ad cA (M00 55) 55 = .inr (1, [.ref (ad 3), .ref (ad 39), .ref (ad 46), .ref (ad 48), .ref (ad 56), .ref (ad 57), vI 0, vI 0, .ref (ad 58), .ref (ad 59), .ref (ad 60), .ref (ad 61), .ref (ad 62), .ref (ad 63)]) := rfl
theorem wc_56 (ad : Nat → Nat) (cA : Nat → ClassId) : cont ad cA (M00 56) 56 = .inl (cA 20, 4, .inl (fun _ => 0)) := wc_int rfl rfl rfl
theorem wc_57 (ad : Nat → Nat) (cA : Nat → ClassId) : cont ad cA (M00 57) 57 = .inl (cA 20, 4, .inl (fun _ => 0)) := wc_int rfl rfl rfl
theorem wc_58 (ad : Nat → Nat) (cA : Nat → ClassId) : cont ad cA (M00 58) 58 = .inl (cA 20, 4, .inl (fun _ => 0)) := wc_int rfl rfl rfl
theorem wc_59 (ad : Nat → Nat) (cA : Nat → ClassId) : cont ad cA (M00 59) 59 = .inl (cA 20, 4, .inl (fun _ => 0)) := wc_int rfl rfl rfl
theorem wc_60 (ad : Nat → Nat) (cA : Nat → ClassId) : cont ad cA (M00 60) 60 = .inl (cA 20, 3, .inl (fun _ => 0)) := wc_int rfl rfl rfl
theorem wc_61 (ad : Nat → Nat) (cA : Nat → ClassId) : cont ad cA (M00 61) 61 = .inl (cA 20, 405, .inl (fun _ => 0)) := wc_int rfl rfl rfl
theorem wc_62 (ad : Nat → Nat) (cA : Nat → ClassId) : cont ad cA (M00 62) 62 = .inl (cA 20, 12, .inl (fun _ => 0)) := wc_int rfl rfl rfl
theorem wc_63 (ad : Nat → Nat) (cA : Nat → ClassId) : cont ad cA (M00 63) 63 = .inl (cA 20, 216, .inl (fun _ => 0)) := wc_int rfl rfl rfl
theorem wc_64 (ad : Nat → Nat) (cA : Nat → ClassId) : cont ad cA (M00 64) 64 = .inr (6, [.ref (ad 3), .ref (ad 39), .ref (ad 46), .ref (ad 65), .ref (ad 66), .ref (ad 67), vI 0, .ref (ad 68), .ref (ad 69)]) := rfl
theorem wc_65 (ad : Nat → Nat) (cA : Nat → ClassId) : cont ad cA (M00 65) 65 = .inl (cA 20, 20, .inl (fun _ => 0)) := wc_int rfl rfl rfl
theorem wc_66 (ad : Nat → Nat) (cA : Nat → ClassId) : cont ad cA (M00 66) 66 = .inl (cA 20, 20, .inl (fun _ => 0)) := wc_int rfl rfl rfl
theorem wc_67 (ad : Nat → Nat) (cA : Nat → ClassId) : cont ad cA (M00 67) 67 = .inl (cA 20, 20, .inl (fun _ => 0)) := wc_int rfl rfl rfl
theorem wc_68 (ad : Nat → Nat) (cA : Nat → ClassId) : cont ad cA (M00 68) 68 = .inl (cA 20, 48, .inl (fun _ => 0)) := wc_int rfl rfl rfl
theorem wc_69 (ad : Nat → Nat) (cA : Nat → ClassId) : cont ad cA (M00 69) 69 = .inl (cA 20, 100, .inl (fun _ => 0)) := wc_int rfl rfl rfl
theorem wc_70 (ad : Nat → Nat) (cA : Nat → ClassId) : cont ad cA (M00 70) 70 = .inr (3, [.ref (ad 1), .ref (ad 3), .ref (ad 39), .ref (ad 46), .ref (ad 48), .ref (ad 71), .ref (ad 76), .ref (ad 75)]) := rfl
theorem wc_71 (ad : Nat → Nat) (cA : Nat → ClassId) : cont ad cA (M00 71) 71 = .inr (0, [.ref (ad 72), .ref (ad 73), .ref (ad 74), vI 0, vI 0]) := rfl
theorem wc_72 (ad : Nat → Nat) (cA : Nat → ClassId) : cont ad cA (M00 72) 72 = .inl (cA 20, 1600, .inl (fun _ => 0)) := wc_int rfl rfl rfl
theorem wc_73 (ad : Nat → Nat) (cA : Nat → ClassId) : cont ad cA (M00 73) 73 = .inl (cA 20, 64, .inl (fun _ => 0)) := wc_int rfl rfl rfl
theorem wc_74 (ad : Nat → Nat) (cA : Nat → ClassId) : cont ad cA (M00 74) 74 = .inl (cA 20, 36, .inl (fun _ => 0)) := wc_int rfl rfl rfl
theorem wc_75 (ad : Nat → Nat) (cA : Nat → ClassId) : cont ad cA (M00 75) 75 = .inl (cA 20, 201, .inl (fun _ => 0)) := wc_int rfl rfl rfl
theorem wc_76 (ad : Nat → Nat) (cA : Nat → ClassId) : cont ad cA (M00 76) 76 = .inr (4, [.ref (ad 1), .ref (ad 71), vI 1]) := rfl
theorem wc_77 (ad : Nat → Nat) (cA : Nat → ClassId) : cont ad cA (M00 77) 77 = .inl (cA 20, 6, .inl (fun _ => 0)) := wc_int rfl rfl rfl
set_option maxRecDepth 100000 in
set_option maxHeartbeats 8000000 in
theorem wc_78 (ad : Nat → Nat) (cA : Nat → ClassId) : cont ad cA (M00 78) 78 = .inr (12, [.ref (ad 79), vI 0, vI 0, vI 0, vI 0, vI 0, vI 0, vI 0, vI (-1), .ref (ad 80), .ref (ad 81), .ref (ad 82), .ref (ad 83), .ref (ad 84), .ref (ad 85), .ref (ad 86), .ref (ad 87), .ref (ad 88), .ref (ad 89), .ref (ad 90), .ref (ad 91), .ref (ad 92), .ref (ad 93), .ref (ad 94), .ref (ad 95), .ref (ad 96), .ref (ad 97), vI 0, .ref (ad 98), .ref (ad 99), .ref (ad 100), .ref (ad 101), vI 0, vI 0, .ref (ad 102), vI 0, .ref (ad 103), vI 0, vI 0, .ref (ad 104), .ref (ad 105), vI 0, .ref (ad 106), vI 0, .ref (ad 107), .ref (ad 108), .ref (ad 109), vI 0, .ref (ad 110), .ref (ad 111), .ref (ad 112), vI 0, .ref (ad 113), .ref (ad 114), .ref (ad 115), .ref (ad 116), .ref (ad 117), vI 0, vI 0, .ref (ad 118), vI 0, .ref (ad 119), .ref (ad 120), vI 0, vI 0, vJ 1, vI 0, .ref (ad 121), .ref (ad 122), .ref (ad 123), .ref (ad 124), .ref (ad 125), .ref (ad 126), .ref (ad 127), .ref (ad 128), .ref (ad 129), .ref (ad 130), .ref (ad 131), .ref (ad 132), .ref (ad 133), .ref (ad 134), .ref (ad 135), .ref (ad 136), .ref (ad 137), .ref (ad 138), .ref (ad 139), .ref (ad 140), .ref (ad 141), .ref (ad 142), vI 0, .ref (ad 143), vI 0, vI 0, vI 0, .ref (ad 144), vI 0, vJ 0, vI 0, .ref (ad 145), vI 0]) := by
  rw [cont_o (c := 12) rfl (by decide), fl_flg]
  rfl
theorem wc_79 (ad : Nat → Nat) (cA : Nat → ClassId) : cont ad cA (M00 79) 79 = .inl (cA 20, 1600, .inl (fun _ => 0)) := wc_int rfl rfl rfl
theorem wc_80 (ad : Nat → Nat) (cA : Nat → ClassId) : cont ad cA (M00 80) 80 = .inl (cA 20, 6, .inl (fun _ => 0)) := wc_int rfl rfl rfl
theorem wc_81 (ad : Nat → Nat) (cA : Nat → ClassId) : cont ad cA (M00 81) 81 = .inl (cA 23, 5, .inl (upd (upd (upd (upd (upd (fun _ => 0) 0 (nI 112)) 1 (nI 108)) 2 (nI 97)) 3 (nI 99)) 4 (nI 101))) := wc_char rfl rfl (by
  funext j
  match j with
  | 0 => rfl
  | 1 => rfl
  | 2 => rfl
  | 3 => rfl
  | 4 => rfl
  | k + 5 => rfl)
theorem wc_82 (ad : Nat → Nat) (cA : Nat → ClassId) : cont ad cA (M00 82) 82 = .inl (cA 23, 6, .inl (upd (upd (upd (upd (upd (upd (fun _ => 0) 0 (nI 115)) 1 (nI 116)) 2 (nI 114)) 3 (nI 101)) 4 (nI 101)) 5 (nI 116))) := wc_char rfl rfl (by
  funext j
  match j with
  | 0 => rfl
  | 1 => rfl
  | 2 => rfl
  | 3 => rfl
  | 4 => rfl
  | 5 => rfl
  | k + 6 => rfl)
theorem wc_83 (ad : Nat → Nat) (cA : Nat → ClassId) : cont ad cA (M00 83) 83 = .inl (cA 23, 4, .inl (upd (upd (upd (upd (fun _ => 0) 0 (nI 102)) 1 (nI 114)) 2 (nI 111)) 3 (nI 109))) := wc_char rfl rfl (by
  funext j
  match j with
  | 0 => rfl
  | 1 => rfl
  | 2 => rfl
  | 3 => rfl
  | k + 4 => rfl)
theorem wc_84 (ad : Nat → Nat) (cA : Nat → ClassId) : cont ad cA (M00 84) 84 = .inl (cA 23, 2, .inl (upd (upd (fun _ => 0) 0 (nI 116)) 1 (nI 111))) := wc_char rfl rfl (by
  funext j
  match j with
  | 0 => rfl
  | 1 => rfl
  | k + 2 => rfl)
theorem wc_85 (ad : Nat → Nat) (cA : Nat → ClassId) : cont ad cA (M00 85) 85 = .inl (cA 23, 5, .inl (upd (upd (upd (upd (upd (fun _ => 0) 0 (nI 116)) 1 (nI 97)) 2 (nI 107)) 3 (nI 101)) 4 (nI 115))) := wc_char rfl rfl (by
  funext j
  match j with
  | 0 => rfl
  | 1 => rfl
  | 2 => rfl
  | 3 => rfl
  | 4 => rfl
  | k + 5 => rfl)
theorem wc_86 (ad : Nat → Nat) (cA : Nat → ClassId) : cont ad cA (M00 86) 86 = .inl (cA 23, 5, .inl (upd (upd (upd (upd (upd (fun _ => 0) 0 (nI 114)) 1 (nI 111)) 2 (nI 117)) 3 (nI 110)) 4 (nI 100))) := wc_char rfl rfl (by
  funext j
  match j with
  | 0 => rfl
  | 1 => rfl
  | 2 => rfl
  | 3 => rfl
  | 4 => rfl
  | k + 5 => rfl)
theorem wc_87 (ad : Nat → Nat) (cA : Nat → ClassId) : cont ad cA (M00 87) 87 = .inl (cA 23, 5, .inl (upd (upd (upd (upd (upd (fun _ => 0) 0 (nI 115)) 1 (nI 104)) 2 (nI 105)) 3 (nI 102)) 4 (nI 116))) := wc_char rfl rfl (by
  funext j
  match j with
  | 0 => rfl
  | 1 => rfl
  | 2 => rfl
  | 3 => rfl
  | 4 => rfl
  | k + 5 => rfl)
theorem wc_88 (ad : Nat → Nat) (cA : Nat → ClassId) : cont ad cA (M00 88) 88 = .inl (cA 23, 4, .inl (upd (upd (upd (upd (fun _ => 0) 0 (nI 119)) 1 (nI 105)) 2 (nI 100)) 3 (nI 101))) := wc_char rfl rfl (by
  funext j
  match j with
  | 0 => rfl
  | 1 => rfl
  | 2 => rfl
  | 3 => rfl
  | k + 4 => rfl)
theorem wc_89 (ad : Nat → Nat) (cA : Nat → ClassId) : cont ad cA (M00 89) 89 = .inl (cA 23, 6, .inl (upd (upd (upd (upd (upd (upd (fun _ => 0) 0 (nI 119)) 1 (nI 97)) 2 (nI 108)) 3 (nI 107)) 4 (nI 101)) 5 (nI 114))) := wc_char rfl rfl (by
  funext j
  match j with
  | 0 => rfl
  | 1 => rfl
  | 2 => rfl
  | 3 => rfl
  | 4 => rfl
  | 5 => rfl
  | k + 6 => rfl)
theorem wc_90 (ad : Nat → Nat) (cA : Nat → ClassId) : cont ad cA (M00 90) 90 = .inl (cA 23, 5, .inl (upd (upd (upd (upd (upd (fun _ => 0) 0 (nI 98)) 1 (nI 114)) 2 (nI 111)) 3 (nI 97)) 4 (nI 100))) := wc_char rfl rfl (by
  funext j
  match j with
  | 0 => rfl
  | 1 => rfl
  | 2 => rfl
  | 3 => rfl
  | 4 => rfl
  | k + 5 => rfl)
theorem wc_91 (ad : Nat → Nat) (cA : Nat → ClassId) : cont ad cA (M00 91) 91 = .inl (cA 23, 2, .inl (upd (upd (fun _ => 0) 0 (nI 97)) 1 (nI 116))) := wc_char rfl rfl (by
  funext j
  match j with
  | 0 => rfl
  | 1 => rfl
  | k + 2 => rfl)
theorem wc_92 (ad : Nat → Nat) (cA : Nat → ClassId) : cont ad cA (M00 92) 92 = .inl (cA 23, 5, .inl (upd (upd (upd (upd (upd (fun _ => 0) 0 (nI 98)) 1 (nI 101)) 2 (nI 103)) 3 (nI 105)) 4 (nI 110))) := wc_char rfl rfl (by
  funext j
  match j with
  | 0 => rfl
  | 1 => rfl
  | 2 => rfl
  | 3 => rfl
  | 4 => rfl
  | k + 5 => rfl)
theorem wc_93 (ad : Nat → Nat) (cA : Nat → ClassId) : cont ad cA (M00 93) 93 = .inl (cA 23, 4, .inl (upd (upd (upd (upd (fun _ => 0) 0 (nI 116)) 1 (nI 105)) 2 (nI 100)) 3 (nI 101))) := wc_char rfl rfl (by
  funext j
  match j with
  | 0 => rfl
  | 1 => rfl
  | 2 => rfl
  | 3 => rfl
  | k + 4 => rfl)
theorem wc_94 (ad : Nat → Nat) (cA : Nat → ClassId) : cont ad cA (M00 94) 94 = .inl (cA 23, 5, .inl (upd (upd (upd (upd (upd (fun _ => 0) 0 (nI 99)) 1 (nI 108)) 2 (nI 111)) 3 (nI 99)) 4 (nI 107))) := wc_char rfl rfl (by
  funext j
  match j with
  | 0 => rfl
  | 1 => rfl
  | 2 => rfl
  | 3 => rfl
  | 4 => rfl
  | k + 5 => rfl)
theorem wc_95 (ad : Nat → Nat) (cA : Nat → ClassId) : cont ad cA (M00 95) 95 = .inl (cA 23, 3, .inl (upd (upd (upd (fun _ => 0) 0 (nI 100)) 1 (nI 97)) 2 (nI 121))) := wc_char rfl rfl (by
  funext j
  match j with
  | 0 => rfl
  | 1 => rfl
  | 2 => rfl
  | k + 3 => rfl)
theorem wc_96 (ad : Nat → Nat) (cA : Nat → ClassId) : cont ad cA (M00 96) 96 = .inl (cA 23, 3, .inl (upd (upd (upd (fun _ => 0) 0 (nI 109)) 1 (nI 105)) 2 (nI 110))) := wc_char rfl rfl (by
  funext j
  match j with
  | 0 => rfl
  | 1 => rfl
  | 2 => rfl
  | k + 3 => rfl)
theorem wc_97 (ad : Nat → Nat) (cA : Nat → ClassId) : cont ad cA (M00 97) 97 = .inl (cA 23, 3, .inl (upd (upd (upd (fun _ => 0) 0 (nI 109)) 1 (nI 97)) 2 (nI 120))) := wc_char rfl rfl (by
  funext j
  match j with
  | 0 => rfl
  | 1 => rfl
  | 2 => rfl
  | k + 3 => rfl)
theorem wc_98 (ad : Nat → Nat) (cA : Nat → ClassId) : cont ad cA (M00 98) 98 = .inl (cA 20, 6, .inl (fun _ => 0)) := wc_int rfl rfl rfl
theorem wc_99 (ad : Nat → Nat) (cA : Nat → ClassId) : cont ad cA (M00 99) 99 = .inl (cA 21, 72, .inr (.inl (fun _ => 0))) := wc_long rfl rfl rfl
theorem wc_100 (ad : Nat → Nat) (cA : Nat → ClassId) : cont ad cA (M00 100) 100 = .inl (cA 20, 120, .inl (fun _ => 0)) := wc_int rfl rfl rfl
theorem wc_101 (ad : Nat → Nat) (cA : Nat → ClassId) : cont ad cA (M00 101) 101 = .inl (cA 20, 36, .inl (fun _ => 0)) := wc_int rfl rfl rfl
theorem wc_102 (ad : Nat → Nat) (cA : Nat → ClassId) : cont ad cA (M00 102) 102 = .inl (cA 20, 3200, .inl (fun _ => 0)) := wc_int rfl rfl rfl
theorem wc_103 (ad : Nat → Nat) (cA : Nat → ClassId) : cont ad cA (M00 103) 103 = .inl (cA 20, 1700, .inl (fun _ => 0)) := wc_int rfl rfl rfl
theorem wc_104 (ad : Nat → Nat) (cA : Nat → ClassId) : cont ad cA (M00 104) 104 = .inl (cA 20, 24, .inl (fun _ => 0)) := wc_int rfl rfl rfl
theorem wc_105 (ad : Nat → Nat) (cA : Nat → ClassId) : cont ad cA (M00 105) 105 = .inl (cA 20, 24, .inl (fun _ => 0)) := wc_int rfl rfl rfl
theorem wc_106 (ad : Nat → Nat) (cA : Nat → ClassId) : cont ad cA (M00 106) 106 = .inl (cA 21, 1700, .inr (.inl (fun _ => 0))) := wc_long rfl rfl rfl
theorem wc_107 (ad : Nat → Nat) (cA : Nat → ClassId) : cont ad cA (M00 107) 107 = .inl (cA 20, 4, .inl (fun _ => 0)) := wc_int rfl rfl rfl
theorem wc_108 (ad : Nat → Nat) (cA : Nat → ClassId) : cont ad cA (M00 108) 108 = .inl (cA 20, 31, .inl (fun _ => 0)) := wc_int rfl rfl rfl
theorem wc_109 (ad : Nat → Nat) (cA : Nat → ClassId) : cont ad cA (M00 109) 109 = .inl (cA 20, 200, .inl (fun _ => 0)) := wc_int rfl rfl rfl
theorem wc_110 (ad : Nat → Nat) (cA : Nat → ClassId) : cont ad cA (M00 110) 110 = .inl (cA 20, 9, .inl (fun _ => 0)) := wc_int rfl rfl rfl
theorem wc_111 (ad : Nat → Nat) (cA : Nat → ClassId) : cont ad cA (M00 111) 111 = .inl (cA 20, 12, .inl (fun _ => 0)) := wc_int rfl rfl rfl
theorem wc_112 (ad : Nat → Nat) (cA : Nat → ClassId) : cont ad cA (M00 112) 112 = .inl (cA 20, 12, .inl (fun _ => 0)) := wc_int rfl rfl rfl
theorem wc_113 (ad : Nat → Nat) (cA : Nat → ClassId) : cont ad cA (M00 113) 113 = .inl (cA 20, 9, .inl (fun _ => 0)) := wc_int rfl rfl rfl
theorem wc_114 (ad : Nat → Nat) (cA : Nat → ClassId) : cont ad cA (M00 114) 114 = .inl (cA 20, 4, .inl (fun _ => 0)) := wc_int rfl rfl rfl
theorem wc_115 (ad : Nat → Nat) (cA : Nat → ClassId) : cont ad cA (M00 115) 115 = .inl (cA 20, 4, .inl (fun _ => 0)) := wc_int rfl rfl rfl
theorem wc_116 (ad : Nat → Nat) (cA : Nat → ClassId) : cont ad cA (M00 116) 116 = .inl (cA 20, 4, .inl (fun _ => 0)) := wc_int rfl rfl rfl
theorem wc_117 (ad : Nat → Nat) (cA : Nat → ClassId) : cont ad cA (M00 117) 117 = .inl (cA 20, 4, .inl (fun _ => 0)) := wc_int rfl rfl rfl
theorem wc_118 (ad : Nat → Nat) (cA : Nat → ClassId) : cont ad cA (M00 118) 118 = .inl (cA 20, 216, .inl (fun _ => 0)) := wc_int rfl rfl rfl
theorem wc_119 (ad : Nat → Nat) (cA : Nat → ClassId) : cont ad cA (M00 119) 119 = .inl (cA 20, 3, .inl (fun _ => 0)) := wc_int rfl rfl rfl
theorem wc_120 (ad : Nat → Nat) (cA : Nat → ClassId) : cont ad cA (M00 120) 120 = .inl (cA 20, 620, .inl (fun _ => 0)) := wc_int rfl rfl rfl
theorem wc_121 (ad : Nat → Nat) (cA : Nat → ClassId) : cont ad cA (M00 121) 121 = .inl (cA 20, 60, .inl (fun _ => 0)) := wc_int rfl rfl rfl
theorem wc_122 (ad : Nat → Nat) (cA : Nat → ClassId) : cont ad cA (M00 122) 122 = .inl (cA 22, 48, .inl (fun _ => 0)) := wc_bool rfl rfl rfl
theorem wc_123 (ad : Nat → Nat) (cA : Nat → ClassId) : cont ad cA (M00 123) 123 = .inl (cA 20, 100, .inl (fun _ => 0)) := wc_int rfl rfl rfl
theorem wc_124 (ad : Nat → Nat) (cA : Nat → ClassId) : cont ad cA (M00 124) 124 = .inl (cA 23, 5, .inl (upd (upd (upd (upd (upd (fun _ => 0) 0 (nI 102)) 1 (nI 105)) 2 (nI 114)) 3 (nI 115)) 4 (nI 116))) := wc_char rfl rfl (by
  funext j
  match j with
  | 0 => rfl
  | 1 => rfl
  | 2 => rfl
  | 3 => rfl
  | 4 => rfl
  | k + 5 => rfl)
theorem wc_125 (ad : Nat → Nat) (cA : Nat → ClassId) : cont ad cA (M00 125) 125 = .inl (cA 23, 4, .inl (upd (upd (upd (upd (fun _ => 0) 0 (nI 108)) 1 (nI 97)) 2 (nI 115)) 3 (nI 116))) := wc_char rfl rfl (by
  funext j
  match j with
  | 0 => rfl
  | 1 => rfl
  | 2 => rfl
  | 3 => rfl
  | k + 4 => rfl)
theorem wc_126 (ad : Nat → Nat) (cA : Nat → ClassId) : cont ad cA (M00 126) 126 = .inl (cA 23, 5, .inl (upd (upd (upd (upd (upd (fun _ => 0) 0 (nI 111)) 1 (nI 102)) 2 (nI 116)) 3 (nI 101)) 4 (nI 110))) := wc_char rfl rfl (by
  funext j
  match j with
  | 0 => rfl
  | 1 => rfl
  | 2 => rfl
  | 3 => rfl
  | 4 => rfl
  | k + 5 => rfl)
theorem wc_127 (ad : Nat → Nat) (cA : Nat → ClassId) : cont ad cA (M00 127) 127 = .inl (cA 23, 5, .inl (upd (upd (upd (upd (upd (fun _ => 0) 0 (nI 116)) 1 (nI 111)) 2 (nI 116)) 3 (nI 97)) 4 (nI 108))) := wc_char rfl rfl (by
  funext j
  match j with
  | 0 => rfl
  | 1 => rfl
  | 2 => rfl
  | 3 => rfl
  | 4 => rfl
  | k + 5 => rfl)
theorem wc_128 (ad : Nat → Nat) (cA : Nat → ClassId) : cont ad cA (M00 128) 128 = .inl (cA 23, 4, .inl (upd (upd (upd (upd (fun _ => 0) 0 (nI 109)) 1 (nI 111)) 2 (nI 115)) 3 (nI 116))) := wc_char rfl rfl (by
  funext j
  match j with
  | 0 => rfl
  | 1 => rfl
  | 2 => rfl
  | 3 => rfl
  | k + 4 => rfl)
theorem wc_129 (ad : Nat → Nat) (cA : Nat → ClassId) : cont ad cA (M00 129) 129 = .inl (cA 23, 5, .inl (upd (upd (upd (upd (upd (fun _ => 0) 0 (nI 108)) 1 (nI 101)) 2 (nI 97)) 3 (nI 115)) 4 (nI 116))) := wc_char rfl rfl (by
  funext j
  match j with
  | 0 => rfl
  | 1 => rfl
  | 2 => rfl
  | 3 => rfl
  | 4 => rfl
  | k + 5 => rfl)
theorem wc_130 (ad : Nat → Nat) (cA : Nat → ClassId) : cont ad cA (M00 130) 130 = .inl (cA 23, 3, .inl (upd (upd (upd (fun _ => 0) 0 (nI 110)) 1 (nI 111)) 2 (nI 116))) := wc_char rfl rfl (by
  funext j
  match j with
  | 0 => rfl
  | 1 => rfl
  | 2 => rfl
  | k + 3 => rfl)
theorem wc_131 (ad : Nat → Nat) (cA : Nat → ClassId) : cont ad cA (M00 131) 131 = .inl (cA 23, 3, .inl (upd (upd (upd (fun _ => 0) 0 (nI 97)) 1 (nI 110)) 2 (nI 100))) := wc_char rfl rfl (by
  funext j
  match j with
  | 0 => rfl
  | 1 => rfl
  | 2 => rfl
  | k + 3 => rfl)
theorem wc_132 (ad : Nat → Nat) (cA : Nat → ClassId) : cont ad cA (M00 132) 132 = .inl (cA 23, 2, .inl (upd (upd (fun _ => 0) 0 (nI 111)) 1 (nI 114))) := wc_char rfl rfl (by
  funext j
  match j with
  | 0 => rfl
  | 1 => rfl
  | k + 2 => rfl)
theorem wc_133 (ad : Nat → Nat) (cA : Nat → ClassId) : cont ad cA (M00 133) 133 = .inl (cA 23, 3, .inl (upd (upd (upd (fun _ => 0) 0 (nI 97)) 1 (nI 108)) 2 (nI 108))) := wc_char rfl rfl (by
  funext j
  match j with
  | 0 => rfl
  | 1 => rfl
  | 2 => rfl
  | k + 3 => rfl)
theorem wc_134 (ad : Nat → Nat) (cA : Nat → ClassId) : cont ad cA (M00 134) 134 = .inl (cA 23, 3, .inl (upd (upd (upd (fun _ => 0) 0 (nI 109)) 1 (nI 105)) 2 (nI 110))) := wc_char rfl rfl (by
  funext j
  match j with
  | 0 => rfl
  | 1 => rfl
  | 2 => rfl
  | k + 3 => rfl)
theorem wc_135 (ad : Nat → Nat) (cA : Nat → ClassId) : cont ad cA (M00 135) 135 = .inl (cA 23, 3, .inl (upd (upd (upd (fun _ => 0) 0 (nI 109)) 1 (nI 97)) 2 (nI 120))) := wc_char rfl rfl (by
  funext j
  match j with
  | 0 => rfl
  | 1 => rfl
  | 2 => rfl
  | k + 3 => rfl)
theorem wc_136 (ad : Nat → Nat) (cA : Nat → ClassId) : cont ad cA (M00 136) 136 = .inl (cA 23, 4, .inl (upd (upd (upd (upd (fun _ => 0) 0 (nI 104)) 1 (nI 111)) 2 (nI 117)) 3 (nI 114))) := wc_char rfl rfl (by
  funext j
  match j with
  | 0 => rfl
  | 1 => rfl
  | 2 => rfl
  | 3 => rfl
  | k + 4 => rfl)
theorem wc_137 (ad : Nat → Nat) (cA : Nat → ClassId) : cont ad cA (M00 137) 137 = .inl (cA 23, 5, .inl (upd (upd (upd (upd (upd (fun _ => 0) 0 (nI 99)) 1 (nI 108)) 2 (nI 111)) 3 (nI 99)) 4 (nI 107))) := wc_char rfl rfl (by
  funext j
  match j with
  | 0 => rfl
  | 1 => rfl
  | 2 => rfl
  | 3 => rfl
  | 4 => rfl
  | k + 5 => rfl)
theorem wc_138 (ad : Nat → Nat) (cA : Nat → ClassId) : cont ad cA (M00 138) 138 = .inl (cA 23, 3, .inl (upd (upd (upd (fun _ => 0) 0 (nI 100)) 1 (nI 97)) 2 (nI 121))) := wc_char rfl rfl (by
  funext j
  match j with
  | 0 => rfl
  | 1 => rfl
  | 2 => rfl
  | k + 3 => rfl)
theorem wc_139 (ad : Nat → Nat) (cA : Nat → ClassId) : cont ad cA (M00 139) 139 = .inl (cA 23, 5, .inl (upd (upd (upd (upd (upd (fun _ => 0) 0 (nI 119)) 1 (nI 105)) 2 (nI 100)) 3 (nI 116)) 4 (nI 104))) := wc_char rfl rfl (by
  funext j
  match j with
  | 0 => rfl
  | 1 => rfl
  | 2 => rfl
  | 3 => rfl
  | 4 => rfl
  | k + 5 => rfl)
theorem wc_140 (ad : Nat → Nat) (cA : Nat → ClassId) : cont ad cA (M00 140) 140 = .inl (cA 23, 4, .inl (upd (upd (upd (upd (fun _ => 0) 0 (nI 116)) 1 (nI 105)) 2 (nI 100)) 3 (nI 101))) := wc_char rfl rfl (by
  funext j
  match j with
  | 0 => rfl
  | 1 => rfl
  | 2 => rfl
  | 3 => rfl
  | k + 4 => rfl)
theorem wc_141 (ad : Nat → Nat) (cA : Nat → ClassId) : cont ad cA (M00 141) 141 = .inl (cA 23, 6, .inl (upd (upd (upd (upd (upd (upd (fun _ => 0) 0 (nI 112)) 1 (nI 97)) 2 (nI 115)) 3 (nI 115)) 4 (nI 101)) 5 (nI 115))) := wc_char rfl rfl (by
  funext j
  match j with
  | 0 => rfl
  | 1 => rfl
  | 2 => rfl
  | 3 => rfl
  | 4 => rfl
  | 5 => rfl
  | k + 6 => rfl)
theorem wc_142 (ad : Nat → Nat) (cA : Nat → ClassId) : cont ad cA (M00 142) 142 = .inl (cA 20, 1700, .inl (fun _ => 0)) := wc_int rfl rfl rfl
theorem wc_143 (ad : Nat → Nat) (cA : Nat → ClassId) : cont ad cA (M00 143) 143 = .inl (cA 20, 1700, .inl (fun _ => 0)) := wc_int rfl rfl rfl
theorem wc_144 (ad : Nat → Nat) (cA : Nat → ClassId) : cont ad cA (M00 144) 144 = .inl (cA 21, 1700, .inr (.inl (fun _ => 0))) := wc_long rfl rfl rfl
theorem wc_145 (ad : Nat → Nat) (cA : Nat → ClassId) : cont ad cA (M00 145) 145 = .inl (cA 20, 39, .inl (fun _ => 0)) := wc_int rfl rfl rfl
set_option maxRecDepth 100000 in
set_option maxHeartbeats 8000000 in
theorem wd_is (ad : Nat → Nat) (cA : Nat → ClassId) : wd ad cA M00 = [(ad 0, .inr (11, [.ref (ad 1), .ref (ad 3), .ref (ad 20), .ref (ad 37), .ref (ad 39), .ref (ad 46), .ref (ad 48), .ref (ad 55), .ref (ad 64), .ref (ad 70), .ref (ad 77), vI 0, vI (-1), vJ 1])),
  (ad 1, .inr (5, [.ref (ad 2), vI 0, vI 0, vI 0, vI 0, vI 0, vI 0])),
  (ad 2, .inl (cA 20, 1600, .inl (fun _ => 0))),
  (ad 3, .inr (7, [.ref (ad 4), .ref (ad 5), .ref (ad 6), .ref (ad 7), .ref (ad 8), .ref (ad 9), .ref (ad 10), .ref (ad 11), .ref (ad 12), .ref (ad 13), .ref (ad 14), .ref (ad 15), .ref (ad 16), vI 0])),
  (ad 4, .inl (cA 20, 3, .inl (fun _ => 0))),
  (ad 5, .inl (cA 20, 36, .inl (fun _ => 0))),
  (ad 6, .inl (cA 20, 12, .inl (fun _ => 0))),
  (ad 7, .inl (cA 20, 12, .inl (fun _ => 0))),
  (ad 8, .inl (cA 20, 12, .inl (fun _ => 0))),
  (ad 9, .inl (cA 20, 12, .inl (fun _ => 0))),
  (ad 10, .inl (cA 20, 12, .inl (fun _ => 0))),
  (ad 11, .inl (cA 20, 12, .inl (fun _ => 0))),
  (ad 12, .inl (cA 20, 12, .inl (fun _ => 0))),
  (ad 13, .inl (cA 20, 6, .inl (fun _ => 0))),
  (ad 14, .inl (cA 20, 6, .inl (fun _ => 0))),
  (ad 15, .inl (cA 20, 6, .inl (fun _ => 0))),
  (ad 16, .inr (0, [.ref (ad 17), .ref (ad 18), .ref (ad 19), vI 0, vI 0])),
  (ad 17, .inl (cA 20, 1600, .inl (fun _ => 0))),
  (ad 18, .inl (cA 20, 64, .inl (fun _ => 0))),
  (ad 19, .inl (cA 20, 36, .inl (fun _ => 0))),
  (ad 20, .inr (7, [.ref (ad 21), .ref (ad 22), .ref (ad 23), .ref (ad 24), .ref (ad 25), .ref (ad 26), .ref (ad 27), .ref (ad 28), .ref (ad 29), .ref (ad 30), .ref (ad 31), .ref (ad 32), .ref (ad 33), vI 0])),
  (ad 21, .inl (cA 20, 3, .inl (fun _ => 0))),
  (ad 22, .inl (cA 20, 36, .inl (fun _ => 0))),
  (ad 23, .inl (cA 20, 12, .inl (fun _ => 0))),
  (ad 24, .inl (cA 20, 12, .inl (fun _ => 0))),
  (ad 25, .inl (cA 20, 12, .inl (fun _ => 0))),
  (ad 26, .inl (cA 20, 12, .inl (fun _ => 0))),
  (ad 27, .inl (cA 20, 12, .inl (fun _ => 0))),
  (ad 28, .inl (cA 20, 12, .inl (fun _ => 0))),
  (ad 29, .inl (cA 20, 12, .inl (fun _ => 0))),
  (ad 30, .inl (cA 20, 6, .inl (fun _ => 0))),
  (ad 31, .inl (cA 20, 6, .inl (fun _ => 0))),
  (ad 32, .inl (cA 20, 6, .inl (fun _ => 0))),
  (ad 33, .inr (0, [.ref (ad 34), .ref (ad 35), .ref (ad 36), vI 0, vI 0])),
  (ad 34, .inl (cA 20, 1600, .inl (fun _ => 0))),
  (ad 35, .inl (cA 20, 64, .inl (fun _ => 0))),
  (ad 36, .inl (cA 20, 36, .inl (fun _ => 0))),
  (ad 37, .inr (8, [.ref (ad 1), .ref (ad 20), .ref (ad 38)])),
  (ad 38, .inr (4, [.ref (ad 1), .ref (ad 33), vI 0])),
  (ad 39, .inr (2, [.ref (ad 3), .ref (ad 40), .ref (ad 41), .ref (ad 42), .ref (ad 43), .ref (ad 44), .ref (ad 45), vI 0, vI 0, vI 0])),
  (ad 40, .inl (cA 20, 12, .inl (fun _ => 0))),
  (ad 41, .inl (cA 20, 6, .inl (fun _ => 0))),
  (ad 42, .inl (cA 20, 6, .inl (fun _ => 0))),
  (ad 43, .inl (cA 20, 6, .inl (fun _ => 0))),
  (ad 44, .inl (cA 20, 620, .inl (fun _ => 0))),
  (ad 45, .inl (cA 20, 39, .inl (fun _ => 0))),
  (ad 46, .inr (10, [.ref (ad 3), .ref (ad 39), .ref (ad 47), vJ 1])),
  (ad 47, .inl (cA 21, 6144, .inr (.inl (fun _ => 0)))),
  (ad 48, .inr (9, [.ref (ad 3), .ref (ad 39), .ref (ad 46), .ref (ad 49), .ref (ad 50), .ref (ad 51), vI 0, .ref (ad 52), .ref (ad 53), .ref (ad 54), vI 0])),
  (ad 49, .inl (cA 20, 9, .inl (fun _ => 0))),
  (ad 50, .inl (cA 20, 9, .inl (fun _ => 0))),
  (ad 51, .inl (cA 20, 9, .inl (fun _ => 0))),
  (ad 52, .inl (cA 20, 36, .inl (fun _ => 0))),
  (ad 53, .inl (cA 20, 36, .inl (fun _ => 0))),
  (ad 54, .inl (cA 20, 36, .inl (fun _ => 0))),
  (ad 55, .inr (1, [.ref (ad 3), .ref (ad 39), .ref (ad 46), .ref (ad 48), .ref (ad 56), .ref (ad 57), vI 0, vI 0, .ref (ad 58), .ref (ad 59), .ref (ad 60), .ref (ad 61), .ref (ad 62), .ref (ad 63)])),
  (ad 56, .inl (cA 20, 4, .inl (fun _ => 0))),
  (ad 57, .inl (cA 20, 4, .inl (fun _ => 0))),
  (ad 58, .inl (cA 20, 4, .inl (fun _ => 0))),
  (ad 59, .inl (cA 20, 4, .inl (fun _ => 0))),
  (ad 60, .inl (cA 20, 3, .inl (fun _ => 0))),
  (ad 61, .inl (cA 20, 405, .inl (fun _ => 0))),
  (ad 62, .inl (cA 20, 12, .inl (fun _ => 0))),
  (ad 63, .inl (cA 20, 216, .inl (fun _ => 0))),
  (ad 64, .inr (6, [.ref (ad 3), .ref (ad 39), .ref (ad 46), .ref (ad 65), .ref (ad 66), .ref (ad 67), vI 0, .ref (ad 68), .ref (ad 69)])),
  (ad 65, .inl (cA 20, 20, .inl (fun _ => 0))),
  (ad 66, .inl (cA 20, 20, .inl (fun _ => 0))),
  (ad 67, .inl (cA 20, 20, .inl (fun _ => 0))),
  (ad 68, .inl (cA 20, 48, .inl (fun _ => 0))),
  (ad 69, .inl (cA 20, 100, .inl (fun _ => 0))),
  (ad 70, .inr (3, [.ref (ad 1), .ref (ad 3), .ref (ad 39), .ref (ad 46), .ref (ad 48), .ref (ad 71), .ref (ad 76), .ref (ad 75)])),
  (ad 71, .inr (0, [.ref (ad 72), .ref (ad 73), .ref (ad 74), vI 0, vI 0])),
  (ad 72, .inl (cA 20, 1600, .inl (fun _ => 0))),
  (ad 73, .inl (cA 20, 64, .inl (fun _ => 0))),
  (ad 74, .inl (cA 20, 36, .inl (fun _ => 0))),
  (ad 75, .inl (cA 20, 201, .inl (fun _ => 0))),
  (ad 76, .inr (4, [.ref (ad 1), .ref (ad 71), vI 1])),
  (ad 77, .inl (cA 20, 6, .inl (fun _ => 0))),
  (ad 78, .inr (12, [.ref (ad 79), vI 0, vI 0, vI 0, vI 0, vI 0, vI 0, vI 0, vI (-1), .ref (ad 80), .ref (ad 81), .ref (ad 82), .ref (ad 83), .ref (ad 84), .ref (ad 85), .ref (ad 86), .ref (ad 87), .ref (ad 88), .ref (ad 89), .ref (ad 90), .ref (ad 91), .ref (ad 92), .ref (ad 93), .ref (ad 94), .ref (ad 95), .ref (ad 96), .ref (ad 97), vI 0, .ref (ad 98), .ref (ad 99), .ref (ad 100), .ref (ad 101), vI 0, vI 0, .ref (ad 102), vI 0, .ref (ad 103), vI 0, vI 0, .ref (ad 104), .ref (ad 105), vI 0, .ref (ad 106), vI 0, .ref (ad 107), .ref (ad 108), .ref (ad 109), vI 0, .ref (ad 110), .ref (ad 111), .ref (ad 112), vI 0, .ref (ad 113), .ref (ad 114), .ref (ad 115), .ref (ad 116), .ref (ad 117), vI 0, vI 0, .ref (ad 118), vI 0, .ref (ad 119), .ref (ad 120), vI 0, vI 0, vJ 1, vI 0, .ref (ad 121), .ref (ad 122), .ref (ad 123), .ref (ad 124), .ref (ad 125), .ref (ad 126), .ref (ad 127), .ref (ad 128), .ref (ad 129), .ref (ad 130), .ref (ad 131), .ref (ad 132), .ref (ad 133), .ref (ad 134), .ref (ad 135), .ref (ad 136), .ref (ad 137), .ref (ad 138), .ref (ad 139), .ref (ad 140), .ref (ad 141), .ref (ad 142), vI 0, .ref (ad 143), vI 0, vI 0, vI 0, .ref (ad 144), vI 0, vJ 0, vI 0, .ref (ad 145), vI 0])),
  (ad 79, .inl (cA 20, 1600, .inl (fun _ => 0))),
  (ad 80, .inl (cA 20, 6, .inl (fun _ => 0))),
  (ad 81, .inl (cA 23, 5, .inl (upd (upd (upd (upd (upd (fun _ => 0) 0 (nI 112)) 1 (nI 108)) 2 (nI 97)) 3 (nI 99)) 4 (nI 101)))),
  (ad 82, .inl (cA 23, 6, .inl (upd (upd (upd (upd (upd (upd (fun _ => 0) 0 (nI 115)) 1 (nI 116)) 2 (nI 114)) 3 (nI 101)) 4 (nI 101)) 5 (nI 116)))),
  (ad 83, .inl (cA 23, 4, .inl (upd (upd (upd (upd (fun _ => 0) 0 (nI 102)) 1 (nI 114)) 2 (nI 111)) 3 (nI 109)))),
  (ad 84, .inl (cA 23, 2, .inl (upd (upd (fun _ => 0) 0 (nI 116)) 1 (nI 111)))),
  (ad 85, .inl (cA 23, 5, .inl (upd (upd (upd (upd (upd (fun _ => 0) 0 (nI 116)) 1 (nI 97)) 2 (nI 107)) 3 (nI 101)) 4 (nI 115)))),
  (ad 86, .inl (cA 23, 5, .inl (upd (upd (upd (upd (upd (fun _ => 0) 0 (nI 114)) 1 (nI 111)) 2 (nI 117)) 3 (nI 110)) 4 (nI 100)))),
  (ad 87, .inl (cA 23, 5, .inl (upd (upd (upd (upd (upd (fun _ => 0) 0 (nI 115)) 1 (nI 104)) 2 (nI 105)) 3 (nI 102)) 4 (nI 116)))),
  (ad 88, .inl (cA 23, 4, .inl (upd (upd (upd (upd (fun _ => 0) 0 (nI 119)) 1 (nI 105)) 2 (nI 100)) 3 (nI 101)))),
  (ad 89, .inl (cA 23, 6, .inl (upd (upd (upd (upd (upd (upd (fun _ => 0) 0 (nI 119)) 1 (nI 97)) 2 (nI 108)) 3 (nI 107)) 4 (nI 101)) 5 (nI 114)))),
  (ad 90, .inl (cA 23, 5, .inl (upd (upd (upd (upd (upd (fun _ => 0) 0 (nI 98)) 1 (nI 114)) 2 (nI 111)) 3 (nI 97)) 4 (nI 100)))),
  (ad 91, .inl (cA 23, 2, .inl (upd (upd (fun _ => 0) 0 (nI 97)) 1 (nI 116)))),
  (ad 92, .inl (cA 23, 5, .inl (upd (upd (upd (upd (upd (fun _ => 0) 0 (nI 98)) 1 (nI 101)) 2 (nI 103)) 3 (nI 105)) 4 (nI 110)))),
  (ad 93, .inl (cA 23, 4, .inl (upd (upd (upd (upd (fun _ => 0) 0 (nI 116)) 1 (nI 105)) 2 (nI 100)) 3 (nI 101)))),
  (ad 94, .inl (cA 23, 5, .inl (upd (upd (upd (upd (upd (fun _ => 0) 0 (nI 99)) 1 (nI 108)) 2 (nI 111)) 3 (nI 99)) 4 (nI 107)))),
  (ad 95, .inl (cA 23, 3, .inl (upd (upd (upd (fun _ => 0) 0 (nI 100)) 1 (nI 97)) 2 (nI 121)))),
  (ad 96, .inl (cA 23, 3, .inl (upd (upd (upd (fun _ => 0) 0 (nI 109)) 1 (nI 105)) 2 (nI 110)))),
  (ad 97, .inl (cA 23, 3, .inl (upd (upd (upd (fun _ => 0) 0 (nI 109)) 1 (nI 97)) 2 (nI 120)))),
  (ad 98, .inl (cA 20, 6, .inl (fun _ => 0))),
  (ad 99, .inl (cA 21, 72, .inr (.inl (fun _ => 0)))),
  (ad 100, .inl (cA 20, 120, .inl (fun _ => 0))),
  (ad 101, .inl (cA 20, 36, .inl (fun _ => 0))),
  (ad 102, .inl (cA 20, 3200, .inl (fun _ => 0))),
  (ad 103, .inl (cA 20, 1700, .inl (fun _ => 0))),
  (ad 104, .inl (cA 20, 24, .inl (fun _ => 0))),
  (ad 105, .inl (cA 20, 24, .inl (fun _ => 0))),
  (ad 106, .inl (cA 21, 1700, .inr (.inl (fun _ => 0)))),
  (ad 107, .inl (cA 20, 4, .inl (fun _ => 0))),
  (ad 108, .inl (cA 20, 31, .inl (fun _ => 0))),
  (ad 109, .inl (cA 20, 200, .inl (fun _ => 0))),
  (ad 110, .inl (cA 20, 9, .inl (fun _ => 0))),
  (ad 111, .inl (cA 20, 12, .inl (fun _ => 0))),
  (ad 112, .inl (cA 20, 12, .inl (fun _ => 0))),
  (ad 113, .inl (cA 20, 9, .inl (fun _ => 0))),
  (ad 114, .inl (cA 20, 4, .inl (fun _ => 0))),
  (ad 115, .inl (cA 20, 4, .inl (fun _ => 0))),
  (ad 116, .inl (cA 20, 4, .inl (fun _ => 0))),
  (ad 117, .inl (cA 20, 4, .inl (fun _ => 0))),
  (ad 118, .inl (cA 20, 216, .inl (fun _ => 0))),
  (ad 119, .inl (cA 20, 3, .inl (fun _ => 0))),
  (ad 120, .inl (cA 20, 620, .inl (fun _ => 0))),
  (ad 121, .inl (cA 20, 60, .inl (fun _ => 0))),
  (ad 122, .inl (cA 22, 48, .inl (fun _ => 0))),
  (ad 123, .inl (cA 20, 100, .inl (fun _ => 0))),
  (ad 124, .inl (cA 23, 5, .inl (upd (upd (upd (upd (upd (fun _ => 0) 0 (nI 102)) 1 (nI 105)) 2 (nI 114)) 3 (nI 115)) 4 (nI 116)))),
  (ad 125, .inl (cA 23, 4, .inl (upd (upd (upd (upd (fun _ => 0) 0 (nI 108)) 1 (nI 97)) 2 (nI 115)) 3 (nI 116)))),
  (ad 126, .inl (cA 23, 5, .inl (upd (upd (upd (upd (upd (fun _ => 0) 0 (nI 111)) 1 (nI 102)) 2 (nI 116)) 3 (nI 101)) 4 (nI 110)))),
  (ad 127, .inl (cA 23, 5, .inl (upd (upd (upd (upd (upd (fun _ => 0) 0 (nI 116)) 1 (nI 111)) 2 (nI 116)) 3 (nI 97)) 4 (nI 108)))),
  (ad 128, .inl (cA 23, 4, .inl (upd (upd (upd (upd (fun _ => 0) 0 (nI 109)) 1 (nI 111)) 2 (nI 115)) 3 (nI 116)))),
  (ad 129, .inl (cA 23, 5, .inl (upd (upd (upd (upd (upd (fun _ => 0) 0 (nI 108)) 1 (nI 101)) 2 (nI 97)) 3 (nI 115)) 4 (nI 116)))),
  (ad 130, .inl (cA 23, 3, .inl (upd (upd (upd (fun _ => 0) 0 (nI 110)) 1 (nI 111)) 2 (nI 116)))),
  (ad 131, .inl (cA 23, 3, .inl (upd (upd (upd (fun _ => 0) 0 (nI 97)) 1 (nI 110)) 2 (nI 100)))),
  (ad 132, .inl (cA 23, 2, .inl (upd (upd (fun _ => 0) 0 (nI 111)) 1 (nI 114)))),
  (ad 133, .inl (cA 23, 3, .inl (upd (upd (upd (fun _ => 0) 0 (nI 97)) 1 (nI 108)) 2 (nI 108)))),
  (ad 134, .inl (cA 23, 3, .inl (upd (upd (upd (fun _ => 0) 0 (nI 109)) 1 (nI 105)) 2 (nI 110)))),
  (ad 135, .inl (cA 23, 3, .inl (upd (upd (upd (fun _ => 0) 0 (nI 109)) 1 (nI 97)) 2 (nI 120)))),
  (ad 136, .inl (cA 23, 4, .inl (upd (upd (upd (upd (fun _ => 0) 0 (nI 104)) 1 (nI 111)) 2 (nI 117)) 3 (nI 114)))),
  (ad 137, .inl (cA 23, 5, .inl (upd (upd (upd (upd (upd (fun _ => 0) 0 (nI 99)) 1 (nI 108)) 2 (nI 111)) 3 (nI 99)) 4 (nI 107)))),
  (ad 138, .inl (cA 23, 3, .inl (upd (upd (upd (fun _ => 0) 0 (nI 100)) 1 (nI 97)) 2 (nI 121)))),
  (ad 139, .inl (cA 23, 5, .inl (upd (upd (upd (upd (upd (fun _ => 0) 0 (nI 119)) 1 (nI 105)) 2 (nI 100)) 3 (nI 116)) 4 (nI 104)))),
  (ad 140, .inl (cA 23, 4, .inl (upd (upd (upd (upd (fun _ => 0) 0 (nI 116)) 1 (nI 105)) 2 (nI 100)) 3 (nI 101)))),
  (ad 141, .inl (cA 23, 6, .inl (upd (upd (upd (upd (upd (upd (fun _ => 0) 0 (nI 112)) 1 (nI 97)) 2 (nI 115)) 3 (nI 115)) 4 (nI 101)) 5 (nI 115)))),
  (ad 142, .inl (cA 20, 1700, .inl (fun _ => 0))),
  (ad 143, .inl (cA 20, 1700, .inl (fun _ => 0))),
  (ad 144, .inl (cA 21, 1700, .inr (.inl (fun _ => 0)))),
  (ad 145, .inl (cA 20, 39, .inl (fun _ => 0)))] :=
  cons_eq (congrArg (Prod.mk (ad 0)) (wc_0 ad cA)) (cons_eq (congrArg (Prod.mk (ad 1)) (wc_1 ad cA)) (cons_eq (congrArg (Prod.mk (ad 2)) (wc_2 ad cA)) (cons_eq (congrArg (Prod.mk (ad 3)) (wc_3 ad cA)) (cons_eq (congrArg (Prod.mk (ad 4)) (wc_4 ad cA)) (cons_eq (congrArg (Prod.mk (ad 5)) (wc_5 ad cA)) (cons_eq (congrArg (Prod.mk (ad 6)) (wc_6 ad cA)) (cons_eq (congrArg (Prod.mk (ad 7)) (wc_7 ad cA)) (cons_eq (congrArg (Prod.mk (ad 8)) (wc_8 ad cA)) (cons_eq (congrArg (Prod.mk (ad 9)) (wc_9 ad cA)) (cons_eq (congrArg (Prod.mk (ad 10)) (wc_10 ad cA)) (cons_eq (congrArg (Prod.mk (ad 11)) (wc_11 ad cA)) (cons_eq (congrArg (Prod.mk (ad 12)) (wc_12 ad cA)) (cons_eq (congrArg (Prod.mk (ad 13)) (wc_13 ad cA)) (cons_eq (congrArg (Prod.mk (ad 14)) (wc_14 ad cA)) (cons_eq (congrArg (Prod.mk (ad 15)) (wc_15 ad cA)) (cons_eq (congrArg (Prod.mk (ad 16)) (wc_16 ad cA)) (cons_eq (congrArg (Prod.mk (ad 17)) (wc_17 ad cA)) (cons_eq (congrArg (Prod.mk (ad 18)) (wc_18 ad cA)) (cons_eq (congrArg (Prod.mk (ad 19)) (wc_19 ad cA)) (cons_eq (congrArg (Prod.mk (ad 20)) (wc_20 ad cA)) (cons_eq (congrArg (Prod.mk (ad 21)) (wc_21 ad cA)) (cons_eq (congrArg (Prod.mk (ad 22)) (wc_22 ad cA)) (cons_eq (congrArg (Prod.mk (ad 23)) (wc_23 ad cA)) (cons_eq (congrArg (Prod.mk (ad 24)) (wc_24 ad cA)) (cons_eq (congrArg (Prod.mk (ad 25)) (wc_25 ad cA)) (cons_eq (congrArg (Prod.mk (ad 26)) (wc_26 ad cA)) (cons_eq (congrArg (Prod.mk (ad 27)) (wc_27 ad cA)) (cons_eq (congrArg (Prod.mk (ad 28)) (wc_28 ad cA)) (cons_eq (congrArg (Prod.mk (ad 29)) (wc_29 ad cA)) (cons_eq (congrArg (Prod.mk (ad 30)) (wc_30 ad cA)) (cons_eq (congrArg (Prod.mk (ad 31)) (wc_31 ad cA)) (cons_eq (congrArg (Prod.mk (ad 32)) (wc_32 ad cA)) (cons_eq (congrArg (Prod.mk (ad 33)) (wc_33 ad cA)) (cons_eq (congrArg (Prod.mk (ad 34)) (wc_34 ad cA)) (cons_eq (congrArg (Prod.mk (ad 35)) (wc_35 ad cA)) (cons_eq (congrArg (Prod.mk (ad 36)) (wc_36 ad cA)) (cons_eq (congrArg (Prod.mk (ad 37)) (wc_37 ad cA)) (cons_eq (congrArg (Prod.mk (ad 38)) (wc_38 ad cA)) (cons_eq (congrArg (Prod.mk (ad 39)) (wc_39 ad cA)) (cons_eq (congrArg (Prod.mk (ad 40)) (wc_40 ad cA)) (cons_eq (congrArg (Prod.mk (ad 41)) (wc_41 ad cA)) (cons_eq (congrArg (Prod.mk (ad 42)) (wc_42 ad cA)) (cons_eq (congrArg (Prod.mk (ad 43)) (wc_43 ad cA)) (cons_eq (congrArg (Prod.mk (ad 44)) (wc_44 ad cA)) (cons_eq (congrArg (Prod.mk (ad 45)) (wc_45 ad cA)) (cons_eq (congrArg (Prod.mk (ad 46)) (wc_46 ad cA)) (cons_eq (congrArg (Prod.mk (ad 47)) (wc_47 ad cA)) (cons_eq (congrArg (Prod.mk (ad 48)) (wc_48 ad cA)) (cons_eq (congrArg (Prod.mk (ad 49)) (wc_49 ad cA)) (cons_eq (congrArg (Prod.mk (ad 50)) (wc_50 ad cA)) (cons_eq (congrArg (Prod.mk (ad 51)) (wc_51 ad cA)) (cons_eq (congrArg (Prod.mk (ad 52)) (wc_52 ad cA)) (cons_eq (congrArg (Prod.mk (ad 53)) (wc_53 ad cA)) (cons_eq (congrArg (Prod.mk (ad 54)) (wc_54 ad cA)) (cons_eq (congrArg (Prod.mk (ad 55)) (wc_55 ad cA)) (cons_eq (congrArg (Prod.mk (ad 56)) (wc_56 ad cA)) (cons_eq (congrArg (Prod.mk (ad 57)) (wc_57 ad cA)) (cons_eq (congrArg (Prod.mk (ad 58)) (wc_58 ad cA)) (cons_eq (congrArg (Prod.mk (ad 59)) (wc_59 ad cA)) (cons_eq (congrArg (Prod.mk (ad 60)) (wc_60 ad cA)) (cons_eq (congrArg (Prod.mk (ad 61)) (wc_61 ad cA)) (cons_eq (congrArg (Prod.mk (ad 62)) (wc_62 ad cA)) (cons_eq (congrArg (Prod.mk (ad 63)) (wc_63 ad cA)) (cons_eq (congrArg (Prod.mk (ad 64)) (wc_64 ad cA)) (cons_eq (congrArg (Prod.mk (ad 65)) (wc_65 ad cA)) (cons_eq (congrArg (Prod.mk (ad 66)) (wc_66 ad cA)) (cons_eq (congrArg (Prod.mk (ad 67)) (wc_67 ad cA)) (cons_eq (congrArg (Prod.mk (ad 68)) (wc_68 ad cA)) (cons_eq (congrArg (Prod.mk (ad 69)) (wc_69 ad cA)) (cons_eq (congrArg (Prod.mk (ad 70)) (wc_70 ad cA)) (cons_eq (congrArg (Prod.mk (ad 71)) (wc_71 ad cA)) (cons_eq (congrArg (Prod.mk (ad 72)) (wc_72 ad cA)) (cons_eq (congrArg (Prod.mk (ad 73)) (wc_73 ad cA)) (cons_eq (congrArg (Prod.mk (ad 74)) (wc_74 ad cA)) (cons_eq (congrArg (Prod.mk (ad 75)) (wc_75 ad cA)) (cons_eq (congrArg (Prod.mk (ad 76)) (wc_76 ad cA)) (cons_eq (congrArg (Prod.mk (ad 77)) (wc_77 ad cA)) (cons_eq (congrArg (Prod.mk (ad 78)) (wc_78 ad cA)) (cons_eq (congrArg (Prod.mk (ad 79)) (wc_79 ad cA)) (cons_eq (congrArg (Prod.mk (ad 80)) (wc_80 ad cA)) (cons_eq (congrArg (Prod.mk (ad 81)) (wc_81 ad cA)) (cons_eq (congrArg (Prod.mk (ad 82)) (wc_82 ad cA)) (cons_eq (congrArg (Prod.mk (ad 83)) (wc_83 ad cA)) (cons_eq (congrArg (Prod.mk (ad 84)) (wc_84 ad cA)) (cons_eq (congrArg (Prod.mk (ad 85)) (wc_85 ad cA)) (cons_eq (congrArg (Prod.mk (ad 86)) (wc_86 ad cA)) (cons_eq (congrArg (Prod.mk (ad 87)) (wc_87 ad cA)) (cons_eq (congrArg (Prod.mk (ad 88)) (wc_88 ad cA)) (cons_eq (congrArg (Prod.mk (ad 89)) (wc_89 ad cA)) (cons_eq (congrArg (Prod.mk (ad 90)) (wc_90 ad cA)) (cons_eq (congrArg (Prod.mk (ad 91)) (wc_91 ad cA)) (cons_eq (congrArg (Prod.mk (ad 92)) (wc_92 ad cA)) (cons_eq (congrArg (Prod.mk (ad 93)) (wc_93 ad cA)) (cons_eq (congrArg (Prod.mk (ad 94)) (wc_94 ad cA)) (cons_eq (congrArg (Prod.mk (ad 95)) (wc_95 ad cA)) (cons_eq (congrArg (Prod.mk (ad 96)) (wc_96 ad cA)) (cons_eq (congrArg (Prod.mk (ad 97)) (wc_97 ad cA)) (cons_eq (congrArg (Prod.mk (ad 98)) (wc_98 ad cA)) (cons_eq (congrArg (Prod.mk (ad 99)) (wc_99 ad cA)) (cons_eq (congrArg (Prod.mk (ad 100)) (wc_100 ad cA)) (cons_eq (congrArg (Prod.mk (ad 101)) (wc_101 ad cA)) (cons_eq (congrArg (Prod.mk (ad 102)) (wc_102 ad cA)) (cons_eq (congrArg (Prod.mk (ad 103)) (wc_103 ad cA)) (cons_eq (congrArg (Prod.mk (ad 104)) (wc_104 ad cA)) (cons_eq (congrArg (Prod.mk (ad 105)) (wc_105 ad cA)) (cons_eq (congrArg (Prod.mk (ad 106)) (wc_106 ad cA)) (cons_eq (congrArg (Prod.mk (ad 107)) (wc_107 ad cA)) (cons_eq (congrArg (Prod.mk (ad 108)) (wc_108 ad cA)) (cons_eq (congrArg (Prod.mk (ad 109)) (wc_109 ad cA)) (cons_eq (congrArg (Prod.mk (ad 110)) (wc_110 ad cA)) (cons_eq (congrArg (Prod.mk (ad 111)) (wc_111 ad cA)) (cons_eq (congrArg (Prod.mk (ad 112)) (wc_112 ad cA)) (cons_eq (congrArg (Prod.mk (ad 113)) (wc_113 ad cA)) (cons_eq (congrArg (Prod.mk (ad 114)) (wc_114 ad cA)) (cons_eq (congrArg (Prod.mk (ad 115)) (wc_115 ad cA)) (cons_eq (congrArg (Prod.mk (ad 116)) (wc_116 ad cA)) (cons_eq (congrArg (Prod.mk (ad 117)) (wc_117 ad cA)) (cons_eq (congrArg (Prod.mk (ad 118)) (wc_118 ad cA)) (cons_eq (congrArg (Prod.mk (ad 119)) (wc_119 ad cA)) (cons_eq (congrArg (Prod.mk (ad 120)) (wc_120 ad cA)) (cons_eq (congrArg (Prod.mk (ad 121)) (wc_121 ad cA)) (cons_eq (congrArg (Prod.mk (ad 122)) (wc_122 ad cA)) (cons_eq (congrArg (Prod.mk (ad 123)) (wc_123 ad cA)) (cons_eq (congrArg (Prod.mk (ad 124)) (wc_124 ad cA)) (cons_eq (congrArg (Prod.mk (ad 125)) (wc_125 ad cA)) (cons_eq (congrArg (Prod.mk (ad 126)) (wc_126 ad cA)) (cons_eq (congrArg (Prod.mk (ad 127)) (wc_127 ad cA)) (cons_eq (congrArg (Prod.mk (ad 128)) (wc_128 ad cA)) (cons_eq (congrArg (Prod.mk (ad 129)) (wc_129 ad cA)) (cons_eq (congrArg (Prod.mk (ad 130)) (wc_130 ad cA)) (cons_eq (congrArg (Prod.mk (ad 131)) (wc_131 ad cA)) (cons_eq (congrArg (Prod.mk (ad 132)) (wc_132 ad cA)) (cons_eq (congrArg (Prod.mk (ad 133)) (wc_133 ad cA)) (cons_eq (congrArg (Prod.mk (ad 134)) (wc_134 ad cA)) (cons_eq (congrArg (Prod.mk (ad 135)) (wc_135 ad cA)) (cons_eq (congrArg (Prod.mk (ad 136)) (wc_136 ad cA)) (cons_eq (congrArg (Prod.mk (ad 137)) (wc_137 ad cA)) (cons_eq (congrArg (Prod.mk (ad 138)) (wc_138 ad cA)) (cons_eq (congrArg (Prod.mk (ad 139)) (wc_139 ad cA)) (cons_eq (congrArg (Prod.mk (ad 140)) (wc_140 ad cA)) (cons_eq (congrArg (Prod.mk (ad 141)) (wc_141 ad cA)) (cons_eq (congrArg (Prod.mk (ad 142)) (wc_142 ad cA)) (cons_eq (congrArg (Prod.mk (ad 143)) (wc_143 ad cA)) (cons_eq (congrArg (Prod.mk (ad 144)) (wc_144 ad cA)) (cons_eq (congrArg (Prod.mk (ad 145)) (wc_145 ad cA)) (rfl))))))))))))))))))))))))))))))))))))))))))))))))))))))))))))))))))))))))))))))))))))))))))))))))))))))))))))))))))))))))))))))))))))))))))))))))))
def insOk (c : Nat) : Prop := ∀ C T N, classes[c]? = some (C, T, N) → Cond.instantiable C N ∈ lw_tbl
theorem ins_all (c : Nat) : insOk c := by
  intro C T N h
  match c, h with
  | 0, h => cases h; exact in_1 (List.mem_of_getElem? (i := 72) rfl)
  | 1, h => cases h; exact in_2 (List.mem_of_getElem? (i := 86) rfl)
  | 2, h => cases h; exact in_1 (List.mem_of_getElem? (i := 207) rfl)
  | 3, h => cases h; exact in_2 (List.mem_of_getElem? (i := 175) rfl)
  | 4, h => cases h; exact in_1 (List.mem_of_getElem? (i := 181) rfl)
  | 5, h => cases h; exact in_1 (List.mem_of_getElem? (i := 28) rfl)
  | 6, h => cases h; exact in_2 (List.mem_of_getElem? (i := 139) rfl)
  | 7, h => cases h; exact in_1 (List.mem_of_getElem? (i := 66) rfl)
  | 8, h => cases h; exact in_1 (List.mem_of_getElem? (i := 175) rfl)
  | 9, h => cases h; exact in_2 (List.mem_of_getElem? (i := 43) rfl)
  | 10, h => cases h; exact in_2 (List.mem_of_getElem? (i := 23) rfl)
  | 11, h => cases h; exact in_1 (List.mem_of_getElem? (i := 20) rfl)
  | 12, h => cases h; exact in_6 (List.mem_of_getElem? (i := 103) rfl)
  | k + 13, h => simp [classes] at h
theorem st_K {s : State} {args : Array Value} (hts : ∀ w ∈ lw_tbl, w.before args s = true) : ∃ (D : va_G) (cA : Nat → ClassId), va_K D classes (tys cA) s := by
  have hk : ∀ (c : Nat) (q : vw_C), classes[c]? = some q → ∃ (cC : ClassId) (iS : Nat → Nat), u_Kn s q.1 q.2.1 q.2.2 cC iS := by
    intro c q h
    exact u_known hts (cls_in h).1 (hts _ (ins_all c _ _ _ h))
  obtain ⟨x0, i0, -⟩ := hk 0 _ rfl
  have hz : ∀ c : Nat, ∃ q : ClassId × (Nat → Nat), ∀ v : vw_C, classes[c]? = some v → u_Kn s v.1 v.2.1 v.2.2 q.1 q.2 := by
    intro c
    cases h : classes[c]? with
    | none => exact ⟨(x0, i0), fun v hv => by cases hv⟩
    | some v =>
      obtain ⟨x, i, hx⟩ := hk c v h
      exact ⟨(x, i), fun v' hv => by cases hv; exact hx⟩
  obtain ⟨g, hg⟩ := Classical.axiomOfChoice hz
  obtain ⟨c20, k20, m20, a20, b20, d20⟩ := Cond.arrayClass_spec (hts _ (in_1 (List.mem_of_getElem? (i := 64) rfl)))
  obtain ⟨c21, k21, m21, a21, b21, d21⟩ := Cond.arrayClass_spec (hts _ (in_2 (List.mem_of_getElem? (i := 41) rfl)))
  obtain ⟨c22, k22, m22, a22, b22, d22⟩ := Cond.arrayClass_spec (hts _ (in_7 (List.mem_of_getElem? (i := 170) rfl)))
  obtain ⟨c23, k23, m23, a23, b23, d23⟩ := Cond.arrayClass_spec (hts _ (in_7 (List.mem_of_getElem? (i := 169) rfl)))
  refine ⟨(fun c => (g c).1, fun c => (g c).2), fun k => if k = 20 then c20 else if k = 21 then c21 else if k = 22 then c22 else c23, ⟨fun c q h => hg c q h, ?_⟩⟩
  intro k q h
  match k, h with
  | 0, h => cases h; exact ⟨fun n z => ⟨fun k h => (by cases h), k20, b20, m20, d20⟩, a20⟩
  | 1, h => cases h; exact ⟨fun n z => ⟨fun k h => (by cases h), k21, b21, m21, d21⟩, a21⟩
  | 2, h => cases h; exact ⟨fun n z => ⟨fun k h => (by cases h), k22, b22, m22, d22⟩, a22⟩
  | 3, h => cases h; exact ⟨fun n z => ⟨fun k h => (by cases h), k23, b23, m23, d23⟩, a23⟩
  | k + 4, h => simp [tys] at h
/-- the words on a text -/
def blk (q : String × Nat × String × Nat) : List Cond := Cond.exactly (.string q.1 q.2.1) "java/lang/String" :: Cond.eq (.field (.string q.1 q.2.1) "java/lang/String" "coder" "B") (.int 0) :: Cond.arrayOf (.field (.string q.1 q.2.1) "java/lang/String" "value" "[B") .byte :: Cond.eq (.length (.field (.string q.1 q.2.1) "java/lang/String" "value" "[B")) (.int (Int32.ofNat (stLen.getD q.2.2.2 0))) :: (List.range (stLen.getD q.2.2.2 0)).map fun j => Cond.eq (.elem (.field (.string q.1 q.2.1) "java/lang/String" "value" "[B") (.int (Int32.ofNat j))) (.int ((stByt.getD q.2.2.2 []).getD j 0))
def gvL : List Cond := flatC (Jvm.Cond.and given_1 narrow_1)
set_option maxRecDepth 100000 in
set_option maxHeartbeats 8000000 in
theorem gv_is : gvL = gvL.take 4 ++ ([Cond.eq (.static "java/lang/String" "COMPACT_STRINGS" "Z") (.int 1), Cond.isRef (.static "jdk/internal/util/Preconditions" "SIOOBE_FORMATTER" "Ljava/util/function/BiFunction;")] ++ ((gvL.drop 6).take 3 ++ ((stTab.take 18).flatMap blk ++ ([Cond.eq (.string "BreathTown$TownReader" 135) (.string "BreathTown$Reader" 95)] ++ (stTab.drop 18).flatMap blk)))) := rfl
theorem gv_blk {q : String × Nat × String × Nat} (hq : q ∈ stTab) {w : Cond} (h : w ∈ blk q) : w ∈ gvL := by
  rw [gv_is]
  rw [← List.take_append_drop 18 stTab] at hq
  rcases List.mem_append.mp hq with hq | hq
  · exact List.mem_append_right _ (List.mem_append_right _ (List.mem_append_right _ (List.mem_append_left _ (List.mem_flatMap.mpr ⟨q, hq, h⟩))))
  · exact List.mem_append_right _ (List.mem_append_right _ (List.mem_append_right _ (List.mem_append_right _ (List.mem_append_right _ (List.mem_flatMap.mpr ⟨q, hq, h⟩)))))
theorem gv_ss : (Cond.eq (.static "java/lang/String" "COMPACT_STRINGS" "Z") (.int 1)) ∈ gvL := by
  rw [gv_is]
  exact List.mem_append_right _ (List.mem_append_left _ List.mem_cons_self)
theorem gv_si : (Cond.isRef (.static "jdk/internal/util/Preconditions" "SIOOBE_FORMATTER" "Ljava/util/function/BiFunction;")) ∈ gvL := by
  rw [gv_is]
  exact List.mem_append_right _ (List.mem_append_left _ (List.mem_cons_of_mem _ List.mem_cons_self))
theorem gv_rr : (Cond.eq (.string "BreathTown$TownReader" 135) (.string "BreathTown$Reader" 95)) ∈ gvL := by
  rw [gv_is]
  exact List.mem_append_right _ (List.mem_append_right _ (List.mem_append_right _ (List.mem_append_right _ (List.mem_append_left _ List.mem_cons_self))))
theorem st_len : ∀ i, i < 31 → stLen.getD i 0 < 2 ^ 31 := by decide +kernel
set_option maxRecDepth 100000 in
theorem st_inj : ∀ i, i < 31 → ∀ j, j < 31 → stLen.getD i 0 = stLen.getD j 0 → (∀ k, k < stLen.getD i 0 → (stByt.getD i []).getD k 0 = (stByt.getD j []).getD k 0) → i = j := by decide +kernel
/-- the first site of each text -/
def siteOf (j : Nat) : String × Nat × String × Nat := (stTab.find? (fun q => q.2.2.2 == j)).getD ("", 0, "", 0)
theorem site_in : ∀ i, i < 31 → siteOf i ∈ stTab := by decide +kernel
theorem site_n : ∀ i, i < 31 → (siteOf i).2.2.2 = i := by decide +kernel
theorem site_of : ∀ q ∈ stTab, siteOf q.2.2.2 = q ∨ q = ("BreathTown$Reader", 95, "round", 6) := by decide +kernel
abbrev tmOf (j : Nat) : Term := .string (siteOf j).1 (siteOf j).2.1
theorem nI_inj {a b : Nat} (ha : a < 2 ^ 31) (hb : b < 2 ^ 31) (h : nI a = nI b) : a = b := by
  have := congrArg Int32.toInt h
  rw [nI_toInt ha, nI_toInt hb] at this
  omega
theorem st_S {s : State} {args : Array Value} {A : Nat → Prop} (hgv : ∀ w ∈ gvL, w.before args s = true) (hA : ∀ a : Nat, a < s.heap.size → ¬ A a) :
    ∃ adK adV : Nat → Nat, vk_S NSt stLen stByt adK adV A s s.heap ∧ ∀ i : Nat, i < NSt → (tmOf i).eval args s none [] s = some (.ref (adK i)) := by
  have h0 : ∀ i : Nat, ∃ q : Nat × Nat, i < 31 → (tmOf i).eval args s none [] s = some (.ref q.1) ∧ va_O "java/lang/String" q.1 A s s.heap ∧ va_OF "java/lang/String" "coder" "B" (.int 0) q.1 A s s.heap ∧ va_OF "java/lang/String" "value" "[B" (.ref q.2) q.1 A s s.heap ∧ va_T .byte q.2 (stLen.getD i 0) (fun j => .int ((stByt.getD i []).getD j 0)) A s s.heap := by
    intro i
    by_cases hi : i < 31
    · have hb : ∀ w ∈ blk (siteOf i), w.before args s = true := fun w hw => hgv w (gv_blk (site_in i hi) hw)
      have hn := site_n i hi
      unfold blk at hb
      rw [hn] at hb
      obtain ⟨kK, kV, ⟨h1, -⟩, h2⟩ := vk_Sof (N := 1) (tm := fun _ => tmOf i) (len := [stLen.getD i 0]) (byt := [stByt.getD i []]) (A := A) (args := args) (s := s)
        (fun j hj => by rw [show j = 0 by omega]; exact st_len i hi) (fun j hj => hb _ List.mem_cons_self) (fun j hj => hb _ (List.mem_cons_of_mem _ List.mem_cons_self)) (fun j hj => hb _ (List.mem_cons_of_mem _ (List.mem_cons_of_mem _ List.mem_cons_self)))
        (fun j hj => by rw [show j = 0 by omega]; exact hb _ (List.mem_cons_of_mem _ (List.mem_cons_of_mem _ (List.mem_cons_of_mem _ List.mem_cons_self)))) (fun j hj k hk => by rw [show j = 0 by omega] at hk ⊢; exact hb _ (List.mem_cons_of_mem _ (List.mem_cons_of_mem _ (List.mem_cons_of_mem _ (List.mem_cons_of_mem _ (List.mem_map.mpr ⟨k, List.mem_range.mpr hk, rfl⟩)))))) (fun j k hj hk h => absurd (show j = k by omega) h) hA
      exact ⟨(kK 0, kV 0), fun _ => ⟨h2 0 (by decide), h1 0 (by decide)⟩⟩
    · exact ⟨(0, 0), fun h => absurd h hi⟩
  obtain ⟨ad, had⟩ := Classical.axiomOfChoice h0
  refine ⟨fun i => (ad i).1, fun i => (ad i).2, ⟨fun i hi => (had i hi).2, fun i j hi hj e => ?_⟩, fun i hi => (had i hi).1⟩
  have e : (ad i).1 = (ad j).1 := e
  obtain ⟨-, -, -, f1, t1⟩ := had i hi
  obtain ⟨-, -, -, f2, t2⟩ := had j hj
  rw [e] at f1
  obtain ⟨cf, k, ix, f, cell, g1, g2, g3, g4, g5, g6⟩ := f1
  obtain ⟨cf', k', ix', f', cell', g1', g2', g3', g4', g5', g6'⟩ := f2
  rw [g1] at g1'
  cases g1'
  rw [g3] at g3'
  cases g3'
  rw [g5] at g5'
  have e2 : (ad i).2 = (ad j).2 := Value.ref.inj (Option.some.inj g5')
  rw [e2] at t1
  obtain ⟨c1, p1, p2, p3, p4, p5, p6, p7⟩ := t1
  obtain ⟨c2, q1, q2, q3, q4, q5, q6, q7⟩ := t2
  rw [p1] at q1
  cases q1
  rw [p5] at q5
  have e3 : stLen.getD i 0 = stLen.getD j 0 := nI_inj (st_len i hi) (st_len j hj) q5
  refine st_inj i hi j hj e3 fun k hk => ?_
  have z1 := p6 k hk
  rw [q6 k (by omega)] at z1
  exact (Value.int.inj (Option.some.inj z1)).symm
theorem st_N {s : State} {args : Array Value} (hts : ∀ w ∈ lw_tbl, w.before args s = true) : NestF s := fun own idx y host h => va_Nw.of rfl (hts _ h)
theorem st_R (hin : ∀ q ∈ stTab, Cond.stringRef q.1 q.2.1 q.2.2.1 ∈ lw_tbl) {s : State} {args : Array Value} (hts : ∀ w ∈ lw_tbl, w.before args s = true) (hgv : ∀ w ∈ gvL, w.before args s = true) {adK : Nat → Nat} (h : ∀ i : Nat, i < NSt → (tmOf i).eval args s none [] s = some (.ref (adK i))) : ∀ q ∈ stTab, vk_R q.1 q.2.1 q.2.2.1 (adK q.2.2.2) s := by
  have hlt : ∀ q ∈ stTab, q.2.2.2 < 31 := by decide +kernel
  intro q hq
  refine vk_R.of (hts _ (hin q hq)) ?_
  have e := h _ (hlt q hq)
  rcases site_of q hq with h1 | h1
  · unfold tmOf at e
    rw [h1] at e
    exact e
  · subst h1
    exact va_eqR (hgv _ gv_rr) e
def adF (b : Nat) (Q : List Nat) (kK kV : Nat → Nat) (t : Nat) : Nat → Nat := fun i => if i < 146 then Q.getD i 0 else if i = 900 then b else if i < 1100 then kK (i - 1000) else if i < 1200 then kV (i - 1100) else t
theorem st_all (hin : ∀ q ∈ stTab, Cond.stringRef q.1 q.2.1 q.2.2.1 ∈ lw_tbl) {s : State} {args : Array Value} (b : Nat) (hts : ∀ w ∈ lw_tbl, w.before args s = true) (hgv : ∀ w ∈ gvL, w.before args s = true) : ∃ (kK kV : Nat → Nat) (t : Nat), ∀ Q : List Nat, Strs (adF b Q kK kV t) (fun q => s.heap.size ≤ q) s s.heap := by
  have hA : ∀ a : Nat, a < s.heap.size → ¬ (fun q : Nat => s.heap.size ≤ q) a := fun a h => Nat.not_le.mpr h
  obtain ⟨kK, kV, h1, h2⟩ := st_S (A := fun q => s.heap.size ≤ q) hgv hA
  have h3 := st_R hin hts hgv h2
  have h4 := va_Zof (A := fun q => s.heap.size ≤ q) (hts _ (in_3 (List.mem_of_getElem? (i := 84) rfl))) (hts _ (in_1 (List.mem_of_getElem? (i := 14) rfl))) (va_eqt (hgv _ gv_ss)) hA
  have h5 := va_Zqof (A := fun q => s.heap.size ≤ q) (hts _ (in_3 (List.mem_of_getElem? (i := 107) rfl))) (hts _ (in_1 (List.mem_of_getElem? (i := 16) rfl))) (hgv _ gv_si) hA
  obtain ⟨t, ht⟩ : ∃ t : Nat, va_Z "jdk/internal/util/Preconditions" "SIOOBE_FORMATTER" "Ljava/util/function/BiFunction;" .null (fun q => s.heap.size ≤ q) s s.heap ∨ va_Z "jdk/internal/util/Preconditions" "SIOOBE_FORMATTER" "Ljava/util/function/BiFunction;" (.ref t) (fun q => s.heap.size ≤ q) s s.heap := by
    rcases h5 with h5 | ⟨t, h5⟩
    · exact ⟨0, Or.inl h5⟩
    · exact ⟨t, Or.inr h5⟩
  refine ⟨kK, kV, t, fun Q => ?_⟩
  have a1 : ∀ j : Nat, j < 31 → adF b Q kK kV t (1000 + j) = kK j := fun j hj => by
    unfold adF
    rw [if_neg (by omega), if_neg (by omega), if_pos (by omega), show 1000 + j - 1000 = j by omega]
  have a2 : ∀ j : Nat, j < 31 → adF b Q kK kV t (1100 + j) = kV j := fun j hj => by
    unfold adF
    rw [if_neg (by omega), if_neg (by omega), if_neg (by omega), if_pos (by omega), show 1100 + j - 1100 = j by omega]
  have a3 : adF b Q kK kV t 1200 = t := by
    unfold adF
    rw [if_neg (by omega), if_neg (by omega), if_neg (by omega), if_neg (by omega)]
  have hlt : ∀ q ∈ stTab, q.2.2.2 < 31 := by decide +kernel
  refine ⟨⟨fun i hi => ?_, fun i j hi hj e => ?_⟩, fun q hq => ?_, h4, ?_, st_N hts⟩
  · show va_O "java/lang/String" (adF b Q kK kV t (1000 + i)) _ _ _ ∧ va_OF "java/lang/String" "coder" "B" (.int 0) (adF b Q kK kV t (1000 + i)) _ _ _ ∧ va_OF "java/lang/String" "value" "[B" (.ref (adF b Q kK kV t (1100 + i))) (adF b Q kK kV t (1000 + i)) _ _ _ ∧ va_T .byte (adF b Q kK kV t (1100 + i)) _ _ _ _ _
    rw [a1 i hi, a2 i hi]
    exact h1.1 i hi
  · have e : adF b Q kK kV t (1000 + i) = adF b Q kK kV t (1000 + j) := e
    rw [a1 i hi, a1 j hj] at e
    exact h1.2 i j hi hj e
  · rw [a1 _ (hlt q hq)]
    exact h3 q hq
  · rw [a3]
    exact ht
theorem sr_0 : Cond.stringRef "BreathTown$TownReader" 53 "place" ∈ lw_tbl := in_3 (List.mem_of_getElem? (i := 70) rfl)
theorem sr_1 : Cond.stringRef "BreathTown$Scan" 82 "place street from to takes round shift wide walker broad at begin tide clock day min max " ∈ lw_tbl := in_3 (List.mem_of_getElem? (i := 156) rfl)
theorem sr_2 : Cond.stringRef "BreathTown$TownReader" 62 "street" ∈ lw_tbl := in_3 (List.mem_of_getElem? (i := 171) rfl)
theorem sr_3 : Cond.stringRef "BreathTown$TownReader" 110 "from" ∈ lw_tbl := in_3 (List.mem_of_getElem? (i := 176) rfl)
theorem sr_4 : Cond.stringRef "BreathTown$TownReader" 119 "to" ∈ lw_tbl := in_3 (List.mem_of_getElem? (i := 184) rfl)
theorem sr_5 : Cond.stringRef "BreathTown$TownReader" 127 "takes" ∈ lw_tbl := in_3 (List.mem_of_getElem? (i := 186) rfl)
theorem sr_6 : Cond.stringRef "BreathTown$TownReader" 135 "round" ∈ lw_tbl := in_3 (List.mem_of_getElem? (i := 202) rfl)
theorem sr_7 : Cond.stringRef "BreathTown$TownReader" 140 "shift" ∈ lw_tbl := in_3 (List.mem_of_getElem? (i := 203) rfl)
theorem sr_8 : Cond.stringRef "BreathTown$TownReader" 145 "wide" ∈ lw_tbl := in_3 (List.mem_of_getElem? (i := 204) rfl)
theorem sr_9 : Cond.stringRef "BreathTown$Reader" 75 "min" ∈ lw_tbl := in_4 (List.mem_of_getElem? (i := 9) rfl)
theorem sr_10 : Cond.stringRef "BreathTown$Reader" 84 "max" ∈ lw_tbl := in_4 (List.mem_of_getElem? (i := 16) rfl)
theorem sr_11 : Cond.stringRef "BreathTown$Reader" 86 "clock" ∈ lw_tbl := in_4 (List.mem_of_getElem? (i := 17) rfl)
theorem sr_12 : Cond.stringRef "BreathTown$Reader" 88 "day" ∈ lw_tbl := in_4 (List.mem_of_getElem? (i := 18) rfl)
theorem sr_13 : Cond.stringRef "BreathTown$Reader" 100 "hour" ∈ lw_tbl := in_4 (List.mem_of_getElem? (i := 23) rfl)
theorem sr_14 : Cond.stringRef "BreathTown$Reader" 102 "width" ∈ lw_tbl := in_4 (List.mem_of_getElem? (i := 24) rfl)
theorem sr_15 : Cond.stringRef "BreathTown$Reader" 93 "tide" ∈ lw_tbl := in_4 (List.mem_of_getElem? (i := 26) rfl)
theorem sr_16 : Cond.stringRef "BreathTown$Reader" 107 "passes" ∈ lw_tbl := in_4 (List.mem_of_getElem? (i := 27) rfl)
theorem sr_17 : Cond.stringRef "BreathTown$Reader" 95 "round" ∈ lw_tbl := in_4 (List.mem_of_getElem? (i := 28) rfl)
theorem sr_18 : Cond.stringRef "BreathTown$TownReader" 67 "walker" ∈ lw_tbl := in_4 (List.mem_of_getElem? (i := 29) rfl)
theorem sr_19 : Cond.stringRef "BreathTown$TownReader" 165 "broad" ∈ lw_tbl := in_4 (List.mem_of_getElem? (i := 34) rfl)
theorem sr_20 : Cond.stringRef "BreathTown$TownReader" 170 "at" ∈ lw_tbl := in_4 (List.mem_of_getElem? (i := 35) rfl)
theorem sr_21 : Cond.stringRef "BreathTown$TownReader" 79 "begin" ∈ lw_tbl := in_4 (List.mem_of_getElem? (i := 40) rfl)
theorem sr_22 : Cond.stringRef "BreathTown$Question" 76 "first" ∈ lw_tbl := in_5 (List.mem_of_getElem? (i := 234) rfl)
theorem sr_23 : Cond.stringRef "BreathTown$Question" 82 "last" ∈ lw_tbl := in_5 (List.mem_of_getElem? (i := 236) rfl)
theorem sr_24 : Cond.stringRef "BreathTown$Question" 84 "often" ∈ lw_tbl := in_5 (List.mem_of_getElem? (i := 237) rfl)
theorem sr_25 : Cond.stringRef "BreathTown$Question" 86 "total" ∈ lw_tbl := in_5 (List.mem_of_getElem? (i := 238) rfl)
theorem sr_26 : Cond.stringRef "BreathTown$Question" 88 "most" ∈ lw_tbl := in_5 (List.mem_of_getElem? (i := 239) rfl)
theorem sr_27 : Cond.stringRef "BreathTown$Question" 90 "least" ∈ lw_tbl := in_6 (List.mem_of_getElem? (i := 0) rfl)
theorem sr_28 : Cond.stringRef "BreathTown$Reader" 119 "not" ∈ lw_tbl := in_6 (List.mem_of_getElem? (i := 18) rfl)
theorem sr_29 : Cond.stringRef "BreathTown$Reader" 121 "all" ∈ lw_tbl := in_6 (List.mem_of_getElem? (i := 19) rfl)
theorem sr_30 : Cond.stringRef "BreathTown$Reader" 117 "and" ∈ lw_tbl := in_6 (List.mem_of_getElem? (i := 20) rfl)
theorem sr_31 : Cond.stringRef "BreathTown$Reader" 112 "or" ∈ lw_tbl := in_6 (List.mem_of_getElem? (i := 21) rfl)
theorem sr_all : ∀ q ∈ stTab, Cond.stringRef q.1 q.2.1 q.2.2.1 ∈ lw_tbl := List.forall_mem_cons.mpr ⟨sr_0, List.forall_mem_cons.mpr ⟨sr_1, List.forall_mem_cons.mpr ⟨sr_2, List.forall_mem_cons.mpr ⟨sr_3, List.forall_mem_cons.mpr ⟨sr_4, List.forall_mem_cons.mpr ⟨sr_5, List.forall_mem_cons.mpr ⟨sr_6, List.forall_mem_cons.mpr ⟨sr_7, List.forall_mem_cons.mpr ⟨sr_8, List.forall_mem_cons.mpr ⟨sr_9, List.forall_mem_cons.mpr ⟨sr_10, List.forall_mem_cons.mpr ⟨sr_11, List.forall_mem_cons.mpr ⟨sr_12, List.forall_mem_cons.mpr ⟨sr_13, List.forall_mem_cons.mpr ⟨sr_14, List.forall_mem_cons.mpr ⟨sr_15, List.forall_mem_cons.mpr ⟨sr_16, List.forall_mem_cons.mpr ⟨sr_17, List.forall_mem_cons.mpr ⟨sr_18, List.forall_mem_cons.mpr ⟨sr_19, List.forall_mem_cons.mpr ⟨sr_20, List.forall_mem_cons.mpr ⟨sr_21, List.forall_mem_cons.mpr ⟨sr_22, List.forall_mem_cons.mpr ⟨sr_23, List.forall_mem_cons.mpr ⟨sr_24, List.forall_mem_cons.mpr ⟨sr_25, List.forall_mem_cons.mpr ⟨sr_26, List.forall_mem_cons.mpr ⟨sr_27, List.forall_mem_cons.mpr ⟨sr_28, List.forall_mem_cons.mpr ⟨sr_29, List.forall_mem_cons.mpr ⟨sr_30, List.forall_mem_cons.mpr ⟨sr_31, fun _ h => absurd h List.not_mem_nil⟩⟩⟩⟩⟩⟩⟩⟩⟩⟩⟩⟩⟩⟩⟩⟩⟩⟩⟩⟩⟩⟩⟩⟩⟩⟩⟩⟩⟩⟩⟩⟩
